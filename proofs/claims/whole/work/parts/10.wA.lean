def rt_J13_bitCount_95d88 (x : Cx) (t : Int32) : Prop := RetI x cJ13_bitCount_95d88 .int 0 0 (w0 (cxT x)) t
set_option maxRecDepth 20000 in
set_option maxHeartbeats 2000000 in
theorem b_J13_bitCount_95d88 {x : Cx} (o : Ok x cJ13_bitCount_95d88 2 RJ13 0 0 0) (p0 : Int64) (t : Int32) (hf : f_J13_bitCount_95d88 p0 = some t) (hret : rt_J13_bitCount_95d88 x  t) : G x 2 0 0 (w0 (cxT x)) [(0, .long p0)] 0 [] := by
  unfold f_J13_bitCount_95d88 at hf
  refine g_lload_n o 0 rfl rfl dJ13_bitCount_95d88_0 ?_
  refine g_lload_n o 0 rfl rfl dJ13_bitCount_95d88_1 ?_
  refine g_iconst o ic_1 dJ13_bitCount_95d88_2 ?_
  refine g_lushr o dJ13_bitCount_95d88_3 ?_
  refine g_ldc2 o m_197 dJ13_bitCount_95d88_4 ?_
  refine g_land o dJ13_bitCount_95d88_7 ?_
  refine g_lsub o dJ13_bitCount_95d88_8 ?_
  refine g_nml hf (fun x7 hf => ?_)
  refine g_lstore_n o [(0, .long x7)] (Nat.le_of_ble_eq_true rfl) rfl rfl dJ13_bitCount_95d88_9 ?_
  refine g_lload_n o 0 rfl rfl dJ13_bitCount_95d88_10 ?_
  refine g_ldc2 o m_198 dJ13_bitCount_95d88_11 ?_
  refine g_land o dJ13_bitCount_95d88_14 ?_
  refine g_lload_n o 0 rfl rfl dJ13_bitCount_95d88_15 ?_
  refine g_iconst o ic_2 dJ13_bitCount_95d88_16 ?_
  refine g_lushr o dJ13_bitCount_95d88_17 ?_
  refine g_ldc2 o m_198 dJ13_bitCount_95d88_18 ?_
  refine g_land o dJ13_bitCount_95d88_21 ?_
  refine g_ladd o dJ13_bitCount_95d88_22 ?_
  refine g_nml hf (fun x8 hf => ?_)
  refine g_lstore_n o [(0, .long x8)] (Nat.le_of_ble_eq_true rfl) rfl rfl dJ13_bitCount_95d88_23 ?_
  refine g_lload_n o 0 rfl rfl dJ13_bitCount_95d88_24 ?_
  refine g_lload_n o 0 rfl rfl dJ13_bitCount_95d88_25 ?_
  refine g_iconst o ic_4 dJ13_bitCount_95d88_26 ?_
  refine g_lushr o dJ13_bitCount_95d88_27 ?_
  refine g_ladd o dJ13_bitCount_95d88_28 ?_
  refine g_ldc2 o m_199 dJ13_bitCount_95d88_29 ?_
  refine g_land o dJ13_bitCount_95d88_32 ?_
  refine g_nml hf (fun x9 hf => ?_)
  refine g_lstore_n o [(0, .long x9)] (Nat.le_of_ble_eq_true rfl) rfl rfl dJ13_bitCount_95d88_33 ?_
  refine g_lload_n o 0 rfl rfl dJ13_bitCount_95d88_34 ?_
  refine g_lload_n o 0 rfl rfl dJ13_bitCount_95d88_35 ?_
  refine g_bipush o bp_8 dJ13_bitCount_95d88_36 ?_
  refine g_lushr o dJ13_bitCount_95d88_38 ?_
  refine g_ladd o dJ13_bitCount_95d88_39 ?_
  refine g_nml hf (fun x10 hf => ?_)
  refine g_lstore_n o [(0, .long x10)] (Nat.le_of_ble_eq_true rfl) rfl rfl dJ13_bitCount_95d88_40 ?_
  refine g_lload_n o 0 rfl rfl dJ13_bitCount_95d88_41 ?_
  refine g_lload_n o 0 rfl rfl dJ13_bitCount_95d88_42 ?_
  refine g_bipush o bp_16 dJ13_bitCount_95d88_43 ?_
  refine g_lushr o dJ13_bitCount_95d88_45 ?_
  refine g_ladd o dJ13_bitCount_95d88_46 ?_
  refine g_nml hf (fun x11 hf => ?_)
  refine g_lstore_n o [(0, .long x11)] (Nat.le_of_ble_eq_true rfl) rfl rfl dJ13_bitCount_95d88_47 ?_
  refine g_lload_n o 0 rfl rfl dJ13_bitCount_95d88_48 ?_
  refine g_lload_n o 0 rfl rfl dJ13_bitCount_95d88_49 ?_
  refine g_bipush o bp_32 dJ13_bitCount_95d88_50 ?_
  refine g_lushr o dJ13_bitCount_95d88_52 ?_
  refine g_ladd o dJ13_bitCount_95d88_53 ?_
  refine g_nml hf (fun x12 hf => ?_)
  refine g_lstore_n o [(0, .long x12)] (Nat.le_of_ble_eq_true rfl) rfl rfl dJ13_bitCount_95d88_54 ?_
  refine g_lload_n o 0 rfl rfl dJ13_bitCount_95d88_55 ?_
  refine g_l2i o dJ13_bitCount_95d88_56 ?_
  refine g_bipush o bp_127 dJ13_bitCount_95d88_57 ?_
  refine g_iand o dJ13_bitCount_95d88_59 ?_
  cases Option.some.inj hf
  exact g_iret hret (Nat.le_of_ble_eq_true rfl) (Nat.le_of_ble_eq_true rfl) (vp_nar_int _) dJ13_bitCount_95d88_60
theorem c_J13_bitCount_95d88 (l : Launch) (hst : l.stackTraces = false) (p0 : Int64) (t : Int32) (hf : f_J13_bitCount_95d88 p0 = some t) : CoI l yJ13_bitCount_95d88 (.code yJ13_bitCount_95d88 cJ13_bitCount_95d88 2 (some .int)) 0 0 0 [.long p0] w0 w0 (.inl t) := mkI hst (by decide +kernel) (Nat.le_of_ble_eq_true rfl) (fun x _ o hI hX => b_J13_bitCount_95d88 o p0 t hf (hI _ rfl))
theorem k_J13_bitCount_95d88_ {x : Cx} {cc : ByteArray} {nL : Nat} {own : String} {d mc ms k n : Nat} {lv : List (Nat × Value)} {pc i : Nat} {rest : List Value} {wd : va_W} {p0 : Int64} (o : Ok x cc nL own d mc ms) {t : Int32} (ht : f_J13_bitCount_95d88 p0 = some t) (hlk : Cond.methodLink own i yJ13_bitCount_95d88 ∈ Ug) (hd : 0 < d) (hr : (rest.map fun v => v.category).sum ≤ 8) (hk : k + 0 ≤ mc ∧ n + 0 ≤ ms) (dg : decode cc pc = .ok (.invokestatic i, 3)) (kk : G x nL (k + 0) (n + 0) wd lv (pc + 3) (.int t :: rest)) : G x nL k n wd lv pc (.long p0 :: rest) := gcI (wd2 := wd) o (c_J13_bitCount_95d88 (cxl x) o.2.2.2.2.2.2.2.2.2.1 p0 t ht) (can_S o hd (Nat.le_of_ble_eq_true rfl) m_196 m_65 m_195 hlk yk_J13_bitCount_95d88 rfl hr hk dg) sp_none (fun E h => by cases h) (fun r h => by cases h; exact kk)
def rt_J6_bitCount_0f7a4 (x : Cx) (t : Int32) : Prop := RetI x cJ6_bitCount_0f7a4 .int 0 0 (w0 (cxT x)) t
set_option maxRecDepth 20000 in
set_option maxHeartbeats 2000000 in
theorem b_J6_bitCount_0f7a4 {x : Cx} (o : Ok x cJ6_bitCount_0f7a4 1 RJ6 0 0 0) (p0 : Int32) (t : Int32) (hf : f_J6_bitCount_0f7a4 p0 = some t) (hret : rt_J6_bitCount_0f7a4 x  t) : G x 1 0 0 (w0 (cxT x)) [(0, .int p0)] 0 [] := by
  unfold f_J6_bitCount_0f7a4 at hf
  refine g_iload_n o 0 rfl rfl dJ6_bitCount_0f7a4_0 ?_
  refine g_iload_n o 0 rfl rfl dJ6_bitCount_0f7a4_1 ?_
  refine g_iconst o ic_1 dJ6_bitCount_0f7a4_2 ?_
  refine g_iushr o dJ6_bitCount_0f7a4_3 ?_
  refine g_ldcw o m_215 dJ6_bitCount_0f7a4_4 ?_
  refine g_iand o dJ6_bitCount_0f7a4_7 ?_
  refine g_isub o dJ6_bitCount_0f7a4_8 ?_
  refine g_nmi hf (fun x6 hf => ?_)
  refine g_istore_n o [(0, .int x6)] (Nat.le_of_ble_eq_true rfl) rfl rfl dJ6_bitCount_0f7a4_9 ?_
  refine g_iload_n o 0 rfl rfl dJ6_bitCount_0f7a4_10 ?_
  refine g_ldcw o m_216 dJ6_bitCount_0f7a4_11 ?_
  refine g_iand o dJ6_bitCount_0f7a4_14 ?_
  refine g_iload_n o 0 rfl rfl dJ6_bitCount_0f7a4_15 ?_
  refine g_iconst o ic_2 dJ6_bitCount_0f7a4_16 ?_
  refine g_iushr o dJ6_bitCount_0f7a4_17 ?_
  refine g_ldcw o m_216 dJ6_bitCount_0f7a4_18 ?_
  refine g_iand o dJ6_bitCount_0f7a4_21 ?_
  refine g_iadd o dJ6_bitCount_0f7a4_22 ?_
  refine g_nmi hf (fun x7 hf => ?_)
  refine g_istore_n o [(0, .int x7)] (Nat.le_of_ble_eq_true rfl) rfl rfl dJ6_bitCount_0f7a4_23 ?_
  refine g_iload_n o 0 rfl rfl dJ6_bitCount_0f7a4_24 ?_
  refine g_iload_n o 0 rfl rfl dJ6_bitCount_0f7a4_25 ?_
  refine g_iconst o ic_4 dJ6_bitCount_0f7a4_26 ?_
  refine g_iushr o dJ6_bitCount_0f7a4_27 ?_
  refine g_iadd o dJ6_bitCount_0f7a4_28 ?_
  refine g_ldcw o m_217 dJ6_bitCount_0f7a4_29 ?_
  refine g_iand o dJ6_bitCount_0f7a4_32 ?_
  refine g_nmi hf (fun x8 hf => ?_)
  refine g_istore_n o [(0, .int x8)] (Nat.le_of_ble_eq_true rfl) rfl rfl dJ6_bitCount_0f7a4_33 ?_
  refine g_iload_n o 0 rfl rfl dJ6_bitCount_0f7a4_34 ?_
  refine g_iload_n o 0 rfl rfl dJ6_bitCount_0f7a4_35 ?_
  refine g_bipush o bp_8 dJ6_bitCount_0f7a4_36 ?_
  refine g_iushr o dJ6_bitCount_0f7a4_38 ?_
  refine g_iadd o dJ6_bitCount_0f7a4_39 ?_
  refine g_nmi hf (fun x9 hf => ?_)
  refine g_istore_n o [(0, .int x9)] (Nat.le_of_ble_eq_true rfl) rfl rfl dJ6_bitCount_0f7a4_40 ?_
  refine g_iload_n o 0 rfl rfl dJ6_bitCount_0f7a4_41 ?_
  refine g_iload_n o 0 rfl rfl dJ6_bitCount_0f7a4_42 ?_
  refine g_bipush o bp_16 dJ6_bitCount_0f7a4_43 ?_
  refine g_iushr o dJ6_bitCount_0f7a4_45 ?_
  refine g_iadd o dJ6_bitCount_0f7a4_46 ?_
  refine g_nmi hf (fun x10 hf => ?_)
  refine g_istore_n o [(0, .int x10)] (Nat.le_of_ble_eq_true rfl) rfl rfl dJ6_bitCount_0f7a4_47 ?_
  refine g_iload_n o 0 rfl rfl dJ6_bitCount_0f7a4_48 ?_
  refine g_bipush o bp_63 dJ6_bitCount_0f7a4_49 ?_
  refine g_iand o dJ6_bitCount_0f7a4_51 ?_
  cases Option.some.inj hf
  exact g_iret hret (Nat.le_of_ble_eq_true rfl) (Nat.le_of_ble_eq_true rfl) (vp_nar_int _) dJ6_bitCount_0f7a4_52
theorem c_J6_bitCount_0f7a4 (l : Launch) (hst : l.stackTraces = false) (p0 : Int32) (t : Int32) (hf : f_J6_bitCount_0f7a4 p0 = some t) : CoI l yJ6_bitCount_0f7a4 (.code yJ6_bitCount_0f7a4 cJ6_bitCount_0f7a4 1 (some .int)) 0 0 0 [.int p0] w0 w0 (.inl t) := mkI hst (by decide +kernel) (Nat.le_of_ble_eq_true rfl) (fun x _ o hI hX => b_J6_bitCount_0f7a4 o p0 t hf (hI _ rfl))
theorem k_J6_bitCount_0f7a4_ {x : Cx} {cc : ByteArray} {nL : Nat} {own : String} {d mc ms k n : Nat} {lv : List (Nat × Value)} {pc i : Nat} {rest : List Value} {wd : va_W} {p0 : Int32} (o : Ok x cc nL own d mc ms) {t : Int32} (ht : f_J6_bitCount_0f7a4 p0 = some t) (hlk : Cond.methodLink own i yJ6_bitCount_0f7a4 ∈ Ug) (hd : 0 < d) (hr : (rest.map fun v => v.category).sum ≤ 8) (hk : k + 0 ≤ mc ∧ n + 0 ≤ ms) (dg : decode cc pc = .ok (.invokestatic i, 3)) (kk : G x nL (k + 0) (n + 0) wd lv (pc + 3) (.int t :: rest)) : G x nL k n wd lv pc (.int p0 :: rest) := gcI (wd2 := wd) o (c_J6_bitCount_0f7a4 (cxl x) o.2.2.2.2.2.2.2.2.2.1 p0 t ht) (can_S o hd (Nat.le_of_ble_eq_true rfl) m_214 m_62 m_213 hlk yk_J6_bitCount_0f7a4 rfl hr hk dg) sp_none (fun E h => by cases h) (fun r h => by cases h; exact kk)
def rt_X1_requireRelationArity (x : Cx) (t : (Unit ⊕ String)) : Prop := (t = .inl () → RetV x cX1_requireRelationArity 1 6 (w0 (cxT x))) ∧ ∀ E, t = .inr E → RetX x 1 6 (w0 (cxT x)) E
set_option maxRecDepth 20000 in
set_option maxHeartbeats 2000000 in
theorem b_X1_requireRelationArity {x : Cx} (o : Ok x cX1_requireRelationArity 1 RX1 0 1 6) (p0 : Int32) (t : (Unit ⊕ String)) (hf : f_X1_requireRelationArity p0 = some t) (hret : rt_X1_requireRelationArity x  t) : G x 1 0 0 (w0 (cxT x)) [(0, .int p0)] 0 [] := by
  unfold f_X1_requireRelationArity at hf
  refine g_iload_n o 0 rfl rfl dX1_requireRelationArity_0 ?_
  refine g_iconst o ic_1 dX1_requireRelationArity_1 ?_
  refine g_ic_lt (tgt := 10) o rfl dX1_requireRelationArity_2 hf (fun hc hf => ?_) (fun hc hf => ?_)
  · cases Option.some.inj hf
    exact g_throwSW o (hret.2 _ rfl) fit_ia fit_re rfl m_241 m_60 st_285 at_63 go_63 dX1_requireRelationArity_10 dX1_requireRelationArity_13 dX1_requireRelationArity_14 dX1_requireRelationArity_17 dX1_requireRelationArity_20 (Nat.le_of_ble_eq_true rfl) (Nat.le_of_ble_eq_true rfl)
  · refine g_iload_n o 0 rfl rfl dX1_requireRelationArity_5 ?_
    refine g_iconst o ic_4 dX1_requireRelationArity_6 ?_
    refine g_ic_le (tgt := 21) o rfl dX1_requireRelationArity_7 hf (fun hc hf => ?_) (fun hc hf => ?_)
    · cases Option.some.inj hf
      exact g_vret (hret.1 rfl) (Nat.le_of_ble_eq_true rfl) (Nat.le_of_ble_eq_true rfl) dX1_requireRelationArity_21
    · cases Option.some.inj hf
      exact g_throwSW o (hret.2 _ rfl) fit_ia fit_re rfl m_241 m_60 st_285 at_63 go_63 dX1_requireRelationArity_10 dX1_requireRelationArity_13 dX1_requireRelationArity_14 dX1_requireRelationArity_17 dX1_requireRelationArity_20 (Nat.le_of_ble_eq_true rfl) (Nat.le_of_ble_eq_true rfl)
theorem c_X1_requireRelationArity (l : Launch) (hst : l.stackTraces = false) (p0 : Int32) (t : (Unit ⊕ String)) (hf : f_X1_requireRelationArity p0 = some t) : CoV l yX1_requireRelationArity (.code yX1_requireRelationArity cX1_requireRelationArity 1 none) 0 1 6 [.int p0] w0 w0 (t) := mkV hst (by decide +kernel) (Nat.le_of_ble_eq_true rfl) (fun x _ o hI hX => b_X1_requireRelationArity o p0 t hf ⟨hI, hX⟩)
theorem k_X1_requireRelationArity_n {x : Cx} {cc : ByteArray} {nL : Nat} {own : String} {d mc ms k n : Nat} {lv : List (Nat × Value)} {pc i : Nat} {rest : List Value} {wd : va_W} {p0 : Int32} (o : Ok x cc nL own d mc ms) {r : Unit} (ht : f_X1_requireRelationArity p0 = some (.inl r)) (hlk : Cond.methodLink own i yX1_requireRelationArity ∈ Ug) (hd : 0 < d) (hr : (rest.map fun v => v.category).sum ≤ 8) (hk : k + 1 ≤ mc ∧ n + 6 ≤ ms) (dg : decode cc pc = .ok (.invokestatic i, 3)) (kk : G x nL (k + 1) (n + 6) wd lv (pc + 3) rest) : G x nL k n wd lv pc (.int p0 :: rest) := gcV (wd2 := wd) o (c_X1_requireRelationArity (cxl x) o.2.2.2.2.2.2.2.2.2.1 p0 (.inl r) ht) (can_S o hd (Nat.le_of_ble_eq_true rfl) m_240 m_54 m_239 hlk yk_X1_requireRelationArity rfl hr hk dg) sp_none (fun E h => by cases h) (fun h => kk)
theorem k_X1_requireRelationArity_x {x : Cx} {cc : ByteArray} {nL : Nat} {own : String} {d mc ms k n : Nat} {lv : List (Nat × Value)} {pc i : Nat} {rest : List Value} {wd : va_W} {p0 : Int32} (o : Ok x cc nL own d mc ms) {E : String} (ht : f_X1_requireRelationArity p0 = some (.inr E)) (hlk : Cond.methodLink own i yX1_requireRelationArity ∈ Ug) (hd : 0 < d) (hr : (rest.map fun v => v.category).sum ≤ 8) (hk : k + 1 ≤ mc ∧ n + 6 ≤ ms) (dg : decode cc pc = .ok (.invokestatic i, 3)) (kk : XW x nL (k + 1) (n + 6) wd lv pc rest E) : G x nL k n wd lv pc (.int p0 :: rest) := gcV (wd2 := wd) o (c_X1_requireRelationArity (cxl x) o.2.2.2.2.2.2.2.2.2.1 p0 (.inr E) ht) (can_S o hd (Nat.le_of_ble_eq_true rfl) m_240 m_54 m_239 hlk yk_X1_requireRelationArity rfl hr hk dg) sp_none (fun E h => by cases h; exact kk) (fun h => by cases h)
def rt_X1_greatestTuple (x : Cx) (t : Int32) : Prop := RetI x cX1_greatestTuple .int 0 0 (w0 (cxT x)) t
set_option maxRecDepth 20000 in
set_option maxHeartbeats 2000000 in
theorem b_X1_greatestTuple {x : Cx} (o : Ok x cX1_greatestTuple 1 RX1 0 0 0) (p0 : Int32) (t : Int32) (hf : f_X1_greatestTuple p0 = some t) (hret : rt_X1_greatestTuple x  t) : G x 1 0 0 (w0 (cxT x)) [(0, .int p0)] 0 [] := by
  unfold f_X1_greatestTuple at hf
  refine g_iconst o ic_1 dX1_greatestTuple_0 ?_
  refine g_iload_n o 0 rfl rfl dX1_greatestTuple_1 ?_
  refine g_ishl o dX1_greatestTuple_2 ?_
  refine g_iconst o ic_1 dX1_greatestTuple_3 ?_
  refine g_isub o dX1_greatestTuple_4 ?_
  cases Option.some.inj hf
  exact g_iret hret (Nat.le_of_ble_eq_true rfl) (Nat.le_of_ble_eq_true rfl) (vp_nar_int _) dX1_greatestTuple_5
theorem c_X1_greatestTuple (l : Launch) (hst : l.stackTraces = false) (p0 : Int32) (t : Int32) (hf : f_X1_greatestTuple p0 = some t) : CoI l yX1_greatestTuple (.code yX1_greatestTuple cX1_greatestTuple 1 (some .int)) 0 0 0 [.int p0] w0 w0 (.inl t) := mkI hst (by decide +kernel) (Nat.le_of_ble_eq_true rfl) (fun x _ o hI hX => b_X1_greatestTuple o p0 t hf (hI _ rfl))
theorem k_X1_greatestTuple_ {x : Cx} {cc : ByteArray} {nL : Nat} {own : String} {d mc ms k n : Nat} {lv : List (Nat × Value)} {pc i : Nat} {rest : List Value} {wd : va_W} {p0 : Int32} (o : Ok x cc nL own d mc ms) {t : Int32} (ht : f_X1_greatestTuple p0 = some t) (hlk : Cond.methodLink own i yX1_greatestTuple ∈ Ug) (hd : 0 < d) (hr : (rest.map fun v => v.category).sum ≤ 8) (hk : k + 0 ≤ mc ∧ n + 0 ≤ ms) (dg : decode cc pc = .ok (.invokestatic i, 3)) (kk : G x nL (k + 0) (n + 0) wd lv (pc + 3) (.int t :: rest)) : G x nL k n wd lv pc (.int p0 :: rest) := gcI (wd2 := wd) o (c_X1_greatestTuple (cxl x) o.2.2.2.2.2.2.2.2.2.1 p0 t ht) (can_S o hd (Nat.le_of_ble_eq_true rfl) m_344 m_54 m_343 hlk yk_X1_greatestTuple rfl hr hk dg) sp_none (fun E h => by cases h) (fun r h => by cases h; exact kk)
theorem k_X1_greatestTuple_N {x : Cx} {cc : ByteArray} {nL : Nat} {own : String} {d mc ms k n : Nat} {lv : List (Nat × Value)} {pc i : Nat} {rest : List Value} {wd : va_W} {host : String} {p0 : Int32} (o : Ok x cc nL own d mc ms) {t : Int32} (ht : f_X1_greatestTuple p0 = some t) (hlk : Cond.methodLinkNest own i yX1_greatestTuple host ∈ Ue) (hd : 0 < d) (hr : (rest.map fun v => v.category).sum ≤ 8) (hk : k + 0 ≤ mc ∧ n + 0 ≤ ms) (dg : decode cc pc = .ok (.invokestatic i, 3)) (kk : G x nL (k + 0) (n + 0) wd lv (pc + 3) (.int t :: rest)) : G x nL k n wd lv pc (.int p0 :: rest) := gcI (wd2 := wd) o (c_X1_greatestTuple (cxl x) o.2.2.2.2.2.2.2.2.2.1 p0 t ht) (can_SN o hd (Nat.le_of_ble_eq_true rfl) m_344 m_54 m_343 hlk yk_X1_greatestTuple rfl hr hk dg) sp_none (fun E h => by cases h) (fun r h => by cases h; exact kk)
def rt_X1_allTuples (x : Cx) (t : Int32) : Prop := RetI x cX1_allTuples .int 0 0 (w0 (cxT x)) t
set_option maxRecDepth 20000 in
set_option maxHeartbeats 2000000 in
theorem b_X1_allTuples {x : Cx} (o : Ok x cX1_allTuples 1 RX1 0 0 0) (p0 : Int32) (t : Int32) (hf : f_X1_allTuples p0 = some t) (hret : rt_X1_allTuples x  t) : G x 1 0 0 (w0 (cxT x)) [(0, .int p0)] 0 [] := by
  unfold f_X1_allTuples at hf
  refine g_iconst o ic_1 dX1_allTuples_0 ?_
  refine g_iconst o ic_1 dX1_allTuples_1 ?_
  refine g_iload_n o 0 rfl rfl dX1_allTuples_2 ?_
  refine g_ishl o dX1_allTuples_3 ?_
  refine g_ishl o dX1_allTuples_4 ?_
  refine g_iconst o ic_1 dX1_allTuples_5 ?_
  refine g_isub o dX1_allTuples_6 ?_
  cases Option.some.inj hf
  exact g_iret hret (Nat.le_of_ble_eq_true rfl) (Nat.le_of_ble_eq_true rfl) (vp_nar_int _) dX1_allTuples_7
theorem c_X1_allTuples (l : Launch) (hst : l.stackTraces = false) (p0 : Int32) (t : Int32) (hf : f_X1_allTuples p0 = some t) : CoI l yX1_allTuples (.code yX1_allTuples cX1_allTuples 1 (some .int)) 0 0 0 [.int p0] w0 w0 (.inl t) := mkI hst (by decide +kernel) (Nat.le_of_ble_eq_true rfl) (fun x _ o hI hX => b_X1_allTuples o p0 t hf (hI _ rfl))
theorem k_X1_allTuples_ {x : Cx} {cc : ByteArray} {nL : Nat} {own : String} {d mc ms k n : Nat} {lv : List (Nat × Value)} {pc i : Nat} {rest : List Value} {wd : va_W} {p0 : Int32} (o : Ok x cc nL own d mc ms) {t : Int32} (ht : f_X1_allTuples p0 = some t) (hlk : Cond.methodLink own i yX1_allTuples ∈ Ug) (hd : 0 < d) (hr : (rest.map fun v => v.category).sum ≤ 8) (hk : k + 0 ≤ mc ∧ n + 0 ≤ ms) (dg : decode cc pc = .ok (.invokestatic i, 3)) (kk : G x nL (k + 0) (n + 0) wd lv (pc + 3) (.int t :: rest)) : G x nL k n wd lv pc (.int p0 :: rest) := gcI (wd2 := wd) o (c_X1_allTuples (cxl x) o.2.2.2.2.2.2.2.2.2.1 p0 t ht) (can_S o hd (Nat.le_of_ble_eq_true rfl) m_185 m_54 m_184 hlk yk_X1_allTuples rfl hr hk dg) sp_none (fun E h => by cases h) (fun r h => by cases h; exact kk)
theorem k_X1_allTuples_N {x : Cx} {cc : ByteArray} {nL : Nat} {own : String} {d mc ms k n : Nat} {lv : List (Nat × Value)} {pc i : Nat} {rest : List Value} {wd : va_W} {host : String} {p0 : Int32} (o : Ok x cc nL own d mc ms) {t : Int32} (ht : f_X1_allTuples p0 = some t) (hlk : Cond.methodLinkNest own i yX1_allTuples host ∈ Ue) (hd : 0 < d) (hr : (rest.map fun v => v.category).sum ≤ 8) (hk : k + 0 ≤ mc ∧ n + 0 ≤ ms) (dg : decode cc pc = .ok (.invokestatic i, 3)) (kk : G x nL (k + 0) (n + 0) wd lv (pc + 3) (.int t :: rest)) : G x nL k n wd lv pc (.int p0 :: rest) := gcI (wd2 := wd) o (c_X1_allTuples (cxl x) o.2.2.2.2.2.2.2.2.2.1 p0 t ht) (can_SN o hd (Nat.le_of_ble_eq_true rfl) m_185 m_54 m_184 hlk yk_X1_allTuples rfl hr hk dg) sp_none (fun E h => by cases h) (fun r h => by cases h; exact kk)
def rt_X1_packedVariables (x : Cx) (t : Int32) : Prop := RetI x cX1_packedVariables .int 0 0 (w0 (cxT x)) t
set_option maxRecDepth 20000 in
set_option maxHeartbeats 2000000 in
theorem b_X1_packedVariables {x : Cx} (o : Ok x cX1_packedVariables 6 RX1 0 0 0) (p0 : Int32) (p1 : Int32) (p2 : Int32) (p3 : Int32) (p4 : Int32) (t : Int32) (hf : f_X1_packedVariables p0 p1 p2 p3 p4 = some t) (hret : rt_X1_packedVariables x  t) : G x 6 0 0 (w0 (cxT x)) [(0, .int p0), (1, .int p1), (2, .int p2), (3, .int p3), (4, .int p4)] 0 [] := by
  unfold f_X1_packedVariables at hf
  refine g_iload_n o 1 rfl rfl dX1_packedVariables_0 ?_
  refine g_iload_n o 2 rfl rfl dX1_packedVariables_1 ?_
  refine g_iconst o ic_4 dX1_packedVariables_2 ?_
  refine g_ishl o dX1_packedVariables_3 ?_
  refine g_ior o dX1_packedVariables_4 ?_
  refine g_iload_n o 3 rfl rfl dX1_packedVariables_5 ?_
  refine g_bipush o bp_8 dX1_packedVariables_6 ?_
  refine g_ishl o dX1_packedVariables_8 ?_
  refine g_ior o dX1_packedVariables_9 ?_
  refine g_iload o 4 rfl dX1_packedVariables_10 ?_
  refine g_bipush o bp_12 dX1_packedVariables_12 ?_
  refine g_ishl o dX1_packedVariables_14 ?_
  refine g_ior o dX1_packedVariables_15 ?_
  refine g_nmi hf (fun x2 hf => ?_)
  refine g_istore o [(5, .int x2), (0, .int p0), (1, .int p1), (2, .int p2), (3, .int p3), (4, .int p4)] (Nat.le_of_ble_eq_true rfl) rfl dX1_packedVariables_16 ?_
  refine g_iload o 0 rfl dX1_packedVariables_18 ?_
  refine g_iconst o ic_1 dX1_packedVariables_20 ?_
  refine g_iconst o ic_4 dX1_packedVariables_21 ?_
  refine g_iload_n o 1 rfl rfl dX1_packedVariables_22 ?_
  refine g_imul o dX1_packedVariables_23 ?_
  refine g_ishl o dX1_packedVariables_24 ?_
  refine g_iconst o ic_1 dX1_packedVariables_25 ?_
  refine g_isub o dX1_packedVariables_26 ?_
  refine g_iand o dX1_packedVariables_27 ?_
  cases Option.some.inj hf
  exact g_iret hret (Nat.le_of_ble_eq_true rfl) (Nat.le_of_ble_eq_true rfl) (vp_nar_int _) dX1_packedVariables_28
theorem c_X1_packedVariables (l : Launch) (hst : l.stackTraces = false) (p0 : Int32) (p1 : Int32) (p2 : Int32) (p3 : Int32) (p4 : Int32) (t : Int32) (hf : f_X1_packedVariables p0 p1 p2 p3 p4 = some t) : CoI l yX1_packedVariables (.code yX1_packedVariables cX1_packedVariables 6 (some .int)) 0 0 0 [.int p0, .int p1, .int p2, .int p3, .int p4] w0 w0 (.inl t) := mkI hst (by decide +kernel) (Nat.le_of_ble_eq_true rfl) (fun x _ o hI hX => b_X1_packedVariables o p0 p1 p2 p3 p4 t hf (hI _ rfl))
theorem k_X1_packedVariables_ {x : Cx} {cc : ByteArray} {nL : Nat} {own : String} {d mc ms k n : Nat} {lv : List (Nat × Value)} {pc i : Nat} {rest : List Value} {wd : va_W} {p0 : Int32} {p1 : Int32} {p2 : Int32} {p3 : Int32} {p4 : Int32} (o : Ok x cc nL own d mc ms) {t : Int32} (ht : f_X1_packedVariables p0 p1 p2 p3 p4 = some t) (hlk : Cond.methodLink own i yX1_packedVariables ∈ Ug) (hd : 0 < d) (hr : (rest.map fun v => v.category).sum ≤ 8) (hk : k + 0 ≤ mc ∧ n + 0 ≤ ms) (dg : decode cc pc = .ok (.invokestatic i, 3)) (kk : G x nL (k + 0) (n + 0) wd lv (pc + 3) (.int t :: rest)) : G x nL k n wd lv pc (.int p4 :: .int p3 :: .int p2 :: .int p1 :: .int p0 :: rest) := gcI (wd2 := wd) o (c_X1_packedVariables (cxl x) o.2.2.2.2.2.2.2.2.2.1 p0 p1 p2 p3 p4 t ht) (can_S o hd (Nat.le_of_ble_eq_true rfl) m_674 m_54 m_673 hlk yk_X1_packedVariables rfl hr hk dg) sp_none (fun E h => by cases h) (fun r h => by cases h; exact kk)
def rt_X1_has (x : Cx) (t : Int32) : Prop := RetI x cX1_has .boolean 0 0 (w0 (cxT x)) t
set_option maxRecDepth 20000 in
set_option maxHeartbeats 2000000 in
theorem b_X1_has {x : Cx} (o : Ok x cX1_has 2 RX1 0 0 0) (p0 : Int32) (p1 : Int32) (t : Int32) (hf : f_X1_has p0 p1 = some t) (hret : rt_X1_has x  t) : G x 2 0 0 (w0 (cxT x)) [(0, .int p0), (1, .int p1)] 0 [] := by
  unfold f_X1_has at hf
  refine g_iload_n o 0 rfl rfl dX1_has_0 ?_
  refine g_iload_n o 1 rfl rfl dX1_has_1 ?_
  refine g_iushr o dX1_has_2 ?_
  refine g_iconst o ic_1 dX1_has_3 ?_
  refine g_iand o dX1_has_4 ?_
  refine g_if_eq (tgt := 12) o rfl dX1_has_5 hf (fun hc hf => ?_) (fun hc hf => ?_)
  · refine g_iconst o ic_0 dX1_has_12 ?_
    cases Option.some.inj hf
    exact g_iret hret (Nat.le_of_ble_eq_true rfl) (Nat.le_of_ble_eq_true rfl) nb_0 dX1_has_13
  · refine g_iconst o ic_1 dX1_has_8 ?_
    refine g_goto (tgt := 13) o rfl dX1_has_9 ?_
    cases Option.some.inj hf
    exact g_iret hret (Nat.le_of_ble_eq_true rfl) (Nat.le_of_ble_eq_true rfl) nb_1 dX1_has_13
theorem c_X1_has (l : Launch) (hst : l.stackTraces = false) (p0 : Int32) (p1 : Int32) (t : Int32) (hf : f_X1_has p0 p1 = some t) : CoI l yX1_has (.code yX1_has cX1_has 2 (some .boolean)) 0 0 0 [.int p0, .int p1] w0 w0 (.inl t) := mkI hst (by decide +kernel) (Nat.le_of_ble_eq_true rfl) (fun x _ o hI hX => b_X1_has o p0 p1 t hf (hI _ rfl))
theorem k_X1_has_ {x : Cx} {cc : ByteArray} {nL : Nat} {own : String} {d mc ms k n : Nat} {lv : List (Nat × Value)} {pc i : Nat} {rest : List Value} {wd : va_W} {p0 : Int32} {p1 : Int32} (o : Ok x cc nL own d mc ms) {t : Int32} (ht : f_X1_has p0 p1 = some t) (hlk : Cond.methodLink own i yX1_has ∈ Ug) (hd : 0 < d) (hr : (rest.map fun v => v.category).sum ≤ 8) (hk : k + 0 ≤ mc ∧ n + 0 ≤ ms) (dg : decode cc pc = .ok (.invokestatic i, 3)) (kk : G x nL (k + 0) (n + 0) wd lv (pc + 3) (.int t :: rest)) : G x nL k n wd lv pc (.int p1 :: .int p0 :: rest) := gcI (wd2 := wd) o (c_X1_has (cxl x) o.2.2.2.2.2.2.2.2.2.1 p0 p1 t ht) (can_S o hd (Nat.le_of_ble_eq_true rfl) m_175 m_54 m_174 hlk yk_X1_has rfl hr hk dg) sp_none (fun E h => by cases h) (fun r h => by cases h; exact kk)
theorem k_X1_has_N {x : Cx} {cc : ByteArray} {nL : Nat} {own : String} {d mc ms k n : Nat} {lv : List (Nat × Value)} {pc i : Nat} {rest : List Value} {wd : va_W} {host : String} {p0 : Int32} {p1 : Int32} (o : Ok x cc nL own d mc ms) {t : Int32} (ht : f_X1_has p0 p1 = some t) (hlk : Cond.methodLinkNest own i yX1_has host ∈ Ue) (hd : 0 < d) (hr : (rest.map fun v => v.category).sum ≤ 8) (hk : k + 0 ≤ mc ∧ n + 0 ≤ ms) (dg : decode cc pc = .ok (.invokestatic i, 3)) (kk : G x nL (k + 0) (n + 0) wd lv (pc + 3) (.int t :: rest)) : G x nL k n wd lv pc (.int p1 :: .int p0 :: rest) := gcI (wd2 := wd) o (c_X1_has (cxl x) o.2.2.2.2.2.2.2.2.2.1 p0 p1 t ht) (can_SN o hd (Nat.le_of_ble_eq_true rfl) m_175 m_54 m_174 hlk yk_X1_has rfl hr hk dg) sp_none (fun E h => by cases h) (fun r h => by cases h; exact kk)
def rt_X1_tuplesWithExchange (x : Cx) (t : Int32) : Prop := RetI x cX1_tuplesWithExchange .int 0 0 (w0 (cxT x)) t
set_option maxRecDepth 20000 in
set_option maxHeartbeats 2000000 in
theorem b_X1_tuplesWithExchange_L14 {x : Cx} (o : Ok x cX1_tuplesWithExchange 7 RX1 1 0 0) {k n : Nat} (hk : k ≤ 0) (hn : n ≤ 0) (c0 : Int32) (c1 : Int32) (c2 : Int32) (c3 : Int32) (r : (Int32 × Int32) ⊕ (Int32)) (hX : ∀ s : Int32 × Int32, r = .inl s → G x 7 k n (w0 (cxT x)) [(4, .int s.1)] 79 []) (hR : ∀ t, r = .inr t → rt_X1_tuplesWithExchange x  t) : ∀ (m : Nat) (s : Int32 × Int32), loopN (f_X1_tuplesWithExchange_s14 c0 c1 c2 c3) m s = some r → G x 7 k n (w0 (cxT x)) [(0, .int c0), (1, .int c1), (2, .int c2), (3, .int c3), (4, .int s.1), (5, .int s.2)] 14 [] := by
  refine loop_W _ (fun (s : Int32 × Int32) => G x 7 k n (w0 (cxT x)) [(0, .int c0), (1, .int c1), (2, .int c2), (3, .int c3), (4, .int s.1), (5, .int s.2)] 14 []) r ?_
  intro s ww hf hw
  unfold f_X1_tuplesWithExchange_s14 at hf
  obtain ⟨s_0, s_1⟩ := s
  try dsimp -simprocs only at hf ⊢
  refine g_iload o 5 rfl dX1_tuplesWithExchange_14 ?_
  refine g_bipush o bp_16 dX1_tuplesWithExchange_16 ?_
  refine g_ic_ge (tgt := 79) o rfl dX1_tuplesWithExchange_18 hf (fun hc hf => ?_) (fun hc hf => ?_)
  · exact g_perm [4] rfl (hX _ (lf_x hf hw))
  · refine g_iload_n o 0 rfl rfl dX1_tuplesWithExchange_21 ?_
    refine g_iload o 5 rfl dX1_tuplesWithExchange_22 ?_
    obtain ⟨r9, hr9, hf⟩ := bd_some hf
    refine k_X1_has_ o hr9 m_394 (Nat.le_of_ble_eq_true rfl) (Nat.le_of_ble_eq_true rfl) ⟨hk, hn⟩ dX1_tuplesWithExchange_24 ?_
    refine g_if_eq (tgt := 73) o rfl dX1_tuplesWithExchange_27 hf (fun hc hf => ?_) (fun hc hf => ?_)
    · refine g_iinc o [(5, .int (s_1 + 1)), (0, .int c0), (1, .int c1), (2, .int c2), (3, .int c3), (4, .int s_0)] 5 rfl (inc_1 _) (Nat.le_of_ble_eq_true rfl) rfl dX1_tuplesWithExchange_73 ?_
      refine g_goto (tgt := 14) o rfl dX1_tuplesWithExchange_76 ?_
      have hp := lf_c hf hw
      exact g_perm [1, 2, 3, 4, 5, 0] rfl hp
    · refine g_iload o 5 rfl dX1_tuplesWithExchange_30 ?_
      refine g_iload_n o 1 rfl rfl dX1_tuplesWithExchange_32 ?_
      obtain ⟨r10, hr10, hf⟩ := bd_some hf
      refine k_X1_has_ o hr10 m_394 (Nat.le_of_ble_eq_true rfl) (Nat.le_of_ble_eq_true rfl) ⟨hk, hn⟩ dX1_tuplesWithExchange_33 ?_
      refine g_iload o 5 rfl dX1_tuplesWithExchange_36 ?_
      refine g_iload_n o 2 rfl rfl dX1_tuplesWithExchange_38 ?_
      obtain ⟨r11, hr11, hf⟩ := bd_some hf
      refine k_X1_has_ o hr11 m_394 (Nat.le_of_ble_eq_true rfl) (Nat.le_of_ble_eq_true rfl) ⟨hk, hn⟩ dX1_tuplesWithExchange_39 ?_
      refine g_ic_eq (tgt := 49) o rfl dX1_tuplesWithExchange_42 hf (fun hc hf => ?_) (fun hc hf => ?_)
      · refine g_iconst o ic_0 dX1_tuplesWithExchange_49 ?_
        refine g_istore o [(6, .int 0), (0, .int c0), (1, .int c1), (2, .int c2), (3, .int c3), (4, .int s_0), (5, .int s_1)] (Nat.le_of_ble_eq_true rfl) rfl dX1_tuplesWithExchange_50 ?_
        refine g_iload o 5 rfl dX1_tuplesWithExchange_52 ?_
        refine g_iconst o ic_1 dX1_tuplesWithExchange_54 ?_
        refine g_iload o 0 rfl dX1_tuplesWithExchange_55 ?_
        refine g_if_eq (tgt := 67) o rfl dX1_tuplesWithExchange_57 hf (fun hc hf => ?_) (fun hc hf => ?_)
        · refine g_iload o 6 rfl dX1_tuplesWithExchange_67 ?_
          refine g_ishl o dX1_tuplesWithExchange_69 ?_
          refine g_ior o dX1_tuplesWithExchange_70 ?_
          refine g_nmi hf (fun x12 hf => ?_)
          refine g_istore o [(4, .int x12), (6, .int 0), (0, .int c0), (1, .int c1), (2, .int c2), (3, .int c3), (5, .int s_1)] (Nat.le_of_ble_eq_true rfl) rfl dX1_tuplesWithExchange_71 ?_
          refine g_iinc o [(5, .int (s_1 + 1)), (4, .int x12), (6, .int 0), (0, .int c0), (1, .int c1), (2, .int c2), (3, .int c3)] 6 rfl (inc_1 _) (Nat.le_of_ble_eq_true rfl) rfl dX1_tuplesWithExchange_73 ?_
          refine g_goto (tgt := 14) o rfl dX1_tuplesWithExchange_76 ?_
          have hp := lf_c hf hw
          exact g_perm [3, 4, 5, 6, 1, 0] rfl hp
        · refine g_iload o 6 rfl dX1_tuplesWithExchange_60 ?_
          refine g_iload_n o 4 rfl rfl dX1_tuplesWithExchange_62 ?_
          refine g_ixor o dX1_tuplesWithExchange_63 ?_
          refine g_goto (tgt := 69) o rfl dX1_tuplesWithExchange_64 ?_
          refine g_ishl o dX1_tuplesWithExchange_69 ?_
          refine g_ior o dX1_tuplesWithExchange_70 ?_
          refine g_nmi hf (fun x13 hf => ?_)
          refine g_istore o [(4, .int x13), (6, .int 0), (0, .int c0), (1, .int c1), (2, .int c2), (3, .int c3), (5, .int s_1)] (Nat.le_of_ble_eq_true rfl) rfl dX1_tuplesWithExchange_71 ?_
          refine g_iinc o [(5, .int (s_1 + 1)), (4, .int x13), (6, .int 0), (0, .int c0), (1, .int c1), (2, .int c2), (3, .int c3)] 6 rfl (inc_1 _) (Nat.le_of_ble_eq_true rfl) rfl dX1_tuplesWithExchange_73 ?_
          refine g_goto (tgt := 14) o rfl dX1_tuplesWithExchange_76 ?_
          have hp := lf_c hf hw
          exact g_perm [3, 4, 5, 6, 1, 0] rfl hp
      · refine g_iconst o ic_1 dX1_tuplesWithExchange_45 ?_
        refine g_goto (tgt := 50) o rfl dX1_tuplesWithExchange_46 ?_
        refine g_istore o [(6, .int 1), (0, .int c0), (1, .int c1), (2, .int c2), (3, .int c3), (4, .int s_0), (5, .int s_1)] (Nat.le_of_ble_eq_true rfl) rfl dX1_tuplesWithExchange_50 ?_
        refine g_iload o 5 rfl dX1_tuplesWithExchange_52 ?_
        refine g_iconst o ic_1 dX1_tuplesWithExchange_54 ?_
        refine g_iload o 0 rfl dX1_tuplesWithExchange_55 ?_
        refine g_if_eq (tgt := 67) o rfl dX1_tuplesWithExchange_57 hf (fun hc hf => ?_) (fun hc hf => ?_)
        · refine g_iload o 6 rfl dX1_tuplesWithExchange_67 ?_
          refine g_ishl o dX1_tuplesWithExchange_69 ?_
          refine g_ior o dX1_tuplesWithExchange_70 ?_
          refine g_nmi hf (fun x14 hf => ?_)
          refine g_istore o [(4, .int x14), (6, .int 1), (0, .int c0), (1, .int c1), (2, .int c2), (3, .int c3), (5, .int s_1)] (Nat.le_of_ble_eq_true rfl) rfl dX1_tuplesWithExchange_71 ?_
          refine g_iinc o [(5, .int (s_1 + 1)), (4, .int x14), (6, .int 1), (0, .int c0), (1, .int c1), (2, .int c2), (3, .int c3)] 6 rfl (inc_1 _) (Nat.le_of_ble_eq_true rfl) rfl dX1_tuplesWithExchange_73 ?_
          refine g_goto (tgt := 14) o rfl dX1_tuplesWithExchange_76 ?_
          have hp := lf_c hf hw
          exact g_perm [3, 4, 5, 6, 1, 0] rfl hp
        · refine g_iload o 6 rfl dX1_tuplesWithExchange_60 ?_
          refine g_iload_n o 4 rfl rfl dX1_tuplesWithExchange_62 ?_
          refine g_ixor o dX1_tuplesWithExchange_63 ?_
          refine g_goto (tgt := 69) o rfl dX1_tuplesWithExchange_64 ?_
          refine g_ishl o dX1_tuplesWithExchange_69 ?_
          refine g_ior o dX1_tuplesWithExchange_70 ?_
          refine g_nmi hf (fun x15 hf => ?_)
          refine g_istore o [(4, .int x15), (6, .int 1), (0, .int c0), (1, .int c1), (2, .int c2), (3, .int c3), (5, .int s_1)] (Nat.le_of_ble_eq_true rfl) rfl dX1_tuplesWithExchange_71 ?_
          refine g_iinc o [(5, .int (s_1 + 1)), (4, .int x15), (6, .int 1), (0, .int c0), (1, .int c1), (2, .int c2), (3, .int c3)] 6 rfl (inc_1 _) (Nat.le_of_ble_eq_true rfl) rfl dX1_tuplesWithExchange_73 ?_
          refine g_goto (tgt := 14) o rfl dX1_tuplesWithExchange_76 ?_
          have hp := lf_c hf hw
          exact g_perm [3, 4, 5, 6, 1, 0] rfl hp
set_option maxRecDepth 20000 in
set_option maxHeartbeats 2000000 in
theorem b_X1_tuplesWithExchange {x : Cx} (o : Ok x cX1_tuplesWithExchange 7 RX1 1 0 0) (p0 : Int32) (p1 : Int32) (p2 : Int32) (t : Int32) (hf : f_X1_tuplesWithExchange p0 p1 p2 = some t) (hret : rt_X1_tuplesWithExchange x  t) : G x 7 0 0 (w0 (cxT x)) [(0, .int p0), (1, .int p1), (2, .int p2)] 0 [] := by
  unfold f_X1_tuplesWithExchange at hf
  refine g_iconst o ic_1 dX1_tuplesWithExchange_0 ?_
  refine g_iload_n o 1 rfl rfl dX1_tuplesWithExchange_1 ?_
  refine g_ishl o dX1_tuplesWithExchange_2 ?_
  refine g_iconst o ic_1 dX1_tuplesWithExchange_3 ?_
  refine g_iload_n o 2 rfl rfl dX1_tuplesWithExchange_4 ?_
  refine g_ishl o dX1_tuplesWithExchange_5 ?_
  refine g_ior o dX1_tuplesWithExchange_6 ?_
  refine g_nmi hf (fun x18 hf => ?_)
  refine g_istore_n o [(3, .int x18), (0, .int p0), (1, .int p1), (2, .int p2)] (Nat.le_of_ble_eq_true rfl) rfl rfl dX1_tuplesWithExchange_7 ?_
  refine g_iconst o ic_0 dX1_tuplesWithExchange_8 ?_
  refine g_istore o [(4, .int 0), (3, .int x18), (0, .int p0), (1, .int p1), (2, .int p2)] (Nat.le_of_ble_eq_true rfl) rfl dX1_tuplesWithExchange_9 ?_
  refine g_iconst o ic_0 dX1_tuplesWithExchange_11 ?_
  refine g_istore o [(5, .int 0), (4, .int 0), (3, .int x18), (0, .int p0), (1, .int p1), (2, .int p2)] (Nat.le_of_ble_eq_true rfl) rfl dX1_tuplesWithExchange_12 ?_
  obtain ⟨r20, hr20, hxr20, hrr20⟩ := bl_some hf
  refine g_perm [3, 4, 5, 2, 1, 0] rfl (b_X1_tuplesWithExchange_L14 o (Nat.le_of_ble_eq_true rfl) (Nat.le_of_ble_eq_true rfl)  p0 p1 p2 x18 r20 (fun s14 hs => ?_) (fun t19 ht => ?_) FU (0, 0) hr20)
  · have hf := hxr20 s14 hs
    obtain ⟨s14_0, s14_1⟩ := s14
    try dsimp -simprocs only at hf ⊢
    refine g_iload o 0 rfl dX1_tuplesWithExchange_79 ?_
    cases Option.some.inj hf
    exact g_iret hret (Nat.le_of_ble_eq_true rfl) (Nat.le_of_ble_eq_true rfl) (vp_nar_int _) dX1_tuplesWithExchange_81
  · have hf := hrr20 t19 ht
    cases Option.some.inj hf
    exact hret
theorem c_X1_tuplesWithExchange (l : Launch) (hst : l.stackTraces = false) (p0 : Int32) (p1 : Int32) (p2 : Int32) (t : Int32) (hf : f_X1_tuplesWithExchange p0 p1 p2 = some t) : CoI l yX1_tuplesWithExchange (.code yX1_tuplesWithExchange cX1_tuplesWithExchange 7 (some .int)) 1 0 0 [.int p0, .int p1, .int p2] w0 w0 (.inl t) := mkI hst (by decide +kernel) (Nat.le_of_ble_eq_true rfl) (fun x _ o hI hX => b_X1_tuplesWithExchange o p0 p1 p2 t hf (hI _ rfl))
theorem k_X1_tuplesWithExchange_ {x : Cx} {cc : ByteArray} {nL : Nat} {own : String} {d mc ms k n : Nat} {lv : List (Nat × Value)} {pc i : Nat} {rest : List Value} {wd : va_W} {p0 : Int32} {p1 : Int32} {p2 : Int32} (o : Ok x cc nL own d mc ms) {t : Int32} (ht : f_X1_tuplesWithExchange p0 p1 p2 = some t) (hlk : Cond.methodLink own i yX1_tuplesWithExchange ∈ Ug) (hd : 1 < d) (hr : (rest.map fun v => v.category).sum ≤ 8) (hk : k + 0 ≤ mc ∧ n + 0 ≤ ms) (dg : decode cc pc = .ok (.invokestatic i, 3)) (kk : G x nL (k + 0) (n + 0) wd lv (pc + 3) (.int t :: rest)) : G x nL k n wd lv pc (.int p2 :: .int p1 :: .int p0 :: rest) := gcI (wd2 := wd) o (c_X1_tuplesWithExchange (cxl x) o.2.2.2.2.2.2.2.2.2.1 p0 p1 p2 t ht) (can_S o hd (Nat.le_of_ble_eq_true rfl) m_470 m_54 m_469 hlk yk_X1_tuplesWithExchange rfl hr hk dg) sp_none (fun E h => by cases h) (fun r h => by cases h; exact kk)
def rt_X1_requireBit (x : Cx) (t : (Unit ⊕ String)) : Prop := (t = .inl () → RetV x cX1_requireBit 1 6 (w0 (cxT x))) ∧ ∀ E, t = .inr E → RetX x 1 6 (w0 (cxT x)) E
set_option maxRecDepth 20000 in
set_option maxHeartbeats 2000000 in
theorem b_X1_requireBit {x : Cx} (o : Ok x cX1_requireBit 1 RX1 0 1 6) (p0 : Int32) (t : (Unit ⊕ String)) (hf : f_X1_requireBit p0 = some t) (hret : rt_X1_requireBit x  t) : G x 1 0 0 (w0 (cxT x)) [(0, .int p0)] 0 [] := by
  unfold f_X1_requireBit at hf
  refine g_iload_n o 0 rfl rfl dX1_requireBit_0 ?_
  refine g_if_eq (tgt := 20) o rfl dX1_requireBit_1 hf (fun hc hf => ?_) (fun hc hf => ?_)
  · cases Option.some.inj hf
    exact g_vret (hret.1 rfl) (Nat.le_of_ble_eq_true rfl) (Nat.le_of_ble_eq_true rfl) dX1_requireBit_20
  · refine g_iload_n o 0 rfl rfl dX1_requireBit_4 ?_
    refine g_iconst o ic_1 dX1_requireBit_5 ?_
    refine g_ic_eq (tgt := 20) o rfl dX1_requireBit_6 hf (fun hc hf => ?_) (fun hc hf => ?_)
    · cases Option.some.inj hf
      exact g_vret (hret.1 rfl) (Nat.le_of_ble_eq_true rfl) (Nat.le_of_ble_eq_true rfl) dX1_requireBit_20
    · cases Option.some.inj hf
      exact g_throwSW o (hret.2 _ rfl) fit_ia fit_re rfl m_241 m_60 st_289 at_63 go_63 dX1_requireBit_9 dX1_requireBit_12 dX1_requireBit_13 dX1_requireBit_16 dX1_requireBit_19 (Nat.le_of_ble_eq_true rfl) (Nat.le_of_ble_eq_true rfl)
theorem c_X1_requireBit (l : Launch) (hst : l.stackTraces = false) (p0 : Int32) (t : (Unit ⊕ String)) (hf : f_X1_requireBit p0 = some t) : CoV l yX1_requireBit (.code yX1_requireBit cX1_requireBit 1 none) 0 1 6 [.int p0] w0 w0 (t) := mkV hst (by decide +kernel) (Nat.le_of_ble_eq_true rfl) (fun x _ o hI hX => b_X1_requireBit o p0 t hf ⟨hI, hX⟩)
theorem k_X1_requireBit_n {x : Cx} {cc : ByteArray} {nL : Nat} {own : String} {d mc ms k n : Nat} {lv : List (Nat × Value)} {pc i : Nat} {rest : List Value} {wd : va_W} {p0 : Int32} (o : Ok x cc nL own d mc ms) {r : Unit} (ht : f_X1_requireBit p0 = some (.inl r)) (hlk : Cond.methodLink own i yX1_requireBit ∈ Ug) (hd : 0 < d) (hr : (rest.map fun v => v.category).sum ≤ 8) (hk : k + 1 ≤ mc ∧ n + 6 ≤ ms) (dg : decode cc pc = .ok (.invokestatic i, 3)) (kk : G x nL (k + 1) (n + 6) wd lv (pc + 3) rest) : G x nL k n wd lv pc (.int p0 :: rest) := gcV (wd2 := wd) o (c_X1_requireBit (cxl x) o.2.2.2.2.2.2.2.2.2.1 p0 (.inl r) ht) (can_S o hd (Nat.le_of_ble_eq_true rfl) m_356 m_54 m_355 hlk yk_X1_requireBit rfl hr hk dg) sp_none (fun E h => by cases h) (fun h => kk)
theorem k_X1_requireBit_x {x : Cx} {cc : ByteArray} {nL : Nat} {own : String} {d mc ms k n : Nat} {lv : List (Nat × Value)} {pc i : Nat} {rest : List Value} {wd : va_W} {p0 : Int32} (o : Ok x cc nL own d mc ms) {E : String} (ht : f_X1_requireBit p0 = some (.inr E)) (hlk : Cond.methodLink own i yX1_requireBit ∈ Ug) (hd : 0 < d) (hr : (rest.map fun v => v.category).sum ≤ 8) (hk : k + 1 ≤ mc ∧ n + 6 ≤ ms) (dg : decode cc pc = .ok (.invokestatic i, 3)) (kk : XW x nL (k + 1) (n + 6) wd lv pc rest E) : G x nL k n wd lv pc (.int p0 :: rest) := gcV (wd2 := wd) o (c_X1_requireBit (cxl x) o.2.2.2.2.2.2.2.2.2.1 p0 (.inr E) ht) (can_S o hd (Nat.le_of_ble_eq_true rfl) m_356 m_54 m_355 hlk yk_X1_requireBit rfl hr hk dg) sp_none (fun E h => by cases h; exact kk) (fun h => by cases h)
def rt_X1_tuplesWithSum (x : Cx) (t : Int32) : Prop := RetI x cX1_tuplesWithSum .int 0 0 (w0 (cxT x)) t
set_option maxRecDepth 20000 in
set_option maxHeartbeats 2000000 in
theorem b_X1_tuplesWithSum_L4 {x : Cx} (o : Ok x cX1_tuplesWithSum 4 RX1 1 0 0) {k n : Nat} (hk : k ≤ 0) (hn : n ≤ 0) (c0 : Int32) (c1 : Int32) (r : (Int32 × Int32) ⊕ (Int32)) (hX : ∀ s : Int32 × Int32, r = .inl s → G x 4 k n (w0 (cxT x)) [(2, .int s.1)] 34 []) (hR : ∀ t, r = .inr t → rt_X1_tuplesWithSum x  t) : ∀ (m : Nat) (s : Int32 × Int32), loopN (f_X1_tuplesWithSum_s4 c0 c1) m s = some r → G x 4 k n (w0 (cxT x)) [(0, .int c0), (1, .int c1), (2, .int s.1), (3, .int s.2)] 4 [] := by
  refine loop_W _ (fun (s : Int32 × Int32) => G x 4 k n (w0 (cxT x)) [(0, .int c0), (1, .int c1), (2, .int s.1), (3, .int s.2)] 4 []) r ?_
  intro s ww hf hw
  unfold f_X1_tuplesWithSum_s4 at hf
  obtain ⟨s_0, s_1⟩ := s
  try dsimp -simprocs only at hf ⊢
  refine g_iload_n o 3 rfl rfl dX1_tuplesWithSum_4 ?_
  refine g_iload_n o 0 rfl rfl dX1_tuplesWithSum_5 ?_
  obtain ⟨r4, hr4, hf⟩ := bd_some hf
  refine k_X1_greatestTuple_ o hr4 m_342 (Nat.le_of_ble_eq_true rfl) (Nat.le_of_ble_eq_true rfl) ⟨hk, hn⟩ dX1_tuplesWithSum_6 ?_
  refine g_ic_gt (tgt := 34) o rfl dX1_tuplesWithSum_9 hf (fun hc hf => ?_) (fun hc hf => ?_)
  · exact g_perm [2] rfl (hX _ (lf_x hf hw))
  · refine g_iload_n o 3 rfl rfl dX1_tuplesWithSum_12 ?_
    obtain ⟨r5, hr5, hf⟩ := bd_some hf
    refine k_J6_bitCount_0f7a4_ o hr5 m_212 (Nat.le_of_ble_eq_true rfl) (Nat.le_of_ble_eq_true rfl) ⟨hk, hn⟩ dX1_tuplesWithSum_13 ?_
    refine g_iconst o ic_1 dX1_tuplesWithSum_16 ?_
    refine g_iand o dX1_tuplesWithSum_17 ?_
    refine g_iload_n o 1 rfl rfl dX1_tuplesWithSum_18 ?_
    refine g_ic_ne (tgt := 28) o rfl dX1_tuplesWithSum_19 hf (fun hc hf => ?_) (fun hc hf => ?_)
    · refine g_iinc o [(3, .int (s_1 + 1)), (0, .int c0), (1, .int c1), (2, .int s_0)] 3 rfl (inc_1 _) (Nat.le_of_ble_eq_true rfl) rfl dX1_tuplesWithSum_28 ?_
      refine g_goto (tgt := 4) o rfl dX1_tuplesWithSum_31 ?_
      have hp := lf_c hf hw
      exact g_perm [1, 2, 3, 0] rfl hp
    · refine g_iload_n o 2 rfl rfl dX1_tuplesWithSum_22 ?_
      refine g_iconst o ic_1 dX1_tuplesWithSum_23 ?_
      refine g_iload_n o 3 rfl rfl dX1_tuplesWithSum_24 ?_
      refine g_ishl o dX1_tuplesWithSum_25 ?_
      refine g_ior o dX1_tuplesWithSum_26 ?_
      refine g_nmi hf (fun x6 hf => ?_)
      refine g_istore_n o [(2, .int x6), (0, .int c0), (1, .int c1), (3, .int s_1)] (Nat.le_of_ble_eq_true rfl) rfl rfl dX1_tuplesWithSum_27 ?_
      refine g_iinc o [(3, .int (s_1 + 1)), (2, .int x6), (0, .int c0), (1, .int c1)] 3 rfl (inc_1 _) (Nat.le_of_ble_eq_true rfl) rfl dX1_tuplesWithSum_28 ?_
      refine g_goto (tgt := 4) o rfl dX1_tuplesWithSum_31 ?_
      have hp := lf_c hf hw
      exact g_perm [2, 3, 1, 0] rfl hp
set_option maxRecDepth 20000 in
set_option maxHeartbeats 2000000 in
theorem b_X1_tuplesWithSum {x : Cx} (o : Ok x cX1_tuplesWithSum 4 RX1 1 0 0) (p0 : Int32) (p1 : Int32) (t : Int32) (hf : f_X1_tuplesWithSum p0 p1 = some t) (hret : rt_X1_tuplesWithSum x  t) : G x 4 0 0 (w0 (cxT x)) [(0, .int p0), (1, .int p1)] 0 [] := by
  unfold f_X1_tuplesWithSum at hf
  refine g_iconst o ic_0 dX1_tuplesWithSum_0 ?_
  refine g_istore_n o [(2, .int 0), (0, .int p0), (1, .int p1)] (Nat.le_of_ble_eq_true rfl) rfl rfl dX1_tuplesWithSum_1 ?_
  refine g_iconst o ic_0 dX1_tuplesWithSum_2 ?_
  refine g_istore_n o [(3, .int 0), (2, .int 0), (0, .int p0), (1, .int p1)] (Nat.le_of_ble_eq_true rfl) rfl rfl dX1_tuplesWithSum_3 ?_
  obtain ⟨r10, hr10, hxr10, hrr10⟩ := bl_some hf
  refine g_perm [2, 3, 1, 0] rfl (b_X1_tuplesWithSum_L4 o (Nat.le_of_ble_eq_true rfl) (Nat.le_of_ble_eq_true rfl)  p0 p1 r10 (fun s4 hs => ?_) (fun t9 ht => ?_) FU (0, 0) hr10)
  · have hf := hxr10 s4 hs
    obtain ⟨s4_0, s4_1⟩ := s4
    try dsimp -simprocs only at hf ⊢
    refine g_iload_n o 0 rfl rfl dX1_tuplesWithSum_34 ?_
    cases Option.some.inj hf
    exact g_iret hret (Nat.le_of_ble_eq_true rfl) (Nat.le_of_ble_eq_true rfl) (vp_nar_int _) dX1_tuplesWithSum_35
  · have hf := hrr10 t9 ht
    cases Option.some.inj hf
    exact hret
theorem c_X1_tuplesWithSum (l : Launch) (hst : l.stackTraces = false) (p0 : Int32) (p1 : Int32) (t : Int32) (hf : f_X1_tuplesWithSum p0 p1 = some t) : CoI l yX1_tuplesWithSum (.code yX1_tuplesWithSum cX1_tuplesWithSum 4 (some .int)) 1 0 0 [.int p0, .int p1] w0 w0 (.inl t) := mkI hst (by decide +kernel) (Nat.le_of_ble_eq_true rfl) (fun x _ o hI hX => b_X1_tuplesWithSum o p0 p1 t hf (hI _ rfl))
theorem k_X1_tuplesWithSum_ {x : Cx} {cc : ByteArray} {nL : Nat} {own : String} {d mc ms k n : Nat} {lv : List (Nat × Value)} {pc i : Nat} {rest : List Value} {wd : va_W} {p0 : Int32} {p1 : Int32} (o : Ok x cc nL own d mc ms) {t : Int32} (ht : f_X1_tuplesWithSum p0 p1 = some t) (hlk : Cond.methodLink own i yX1_tuplesWithSum ∈ Ug) (hd : 1 < d) (hr : (rest.map fun v => v.category).sum ≤ 8) (hk : k + 0 ≤ mc ∧ n + 0 ≤ ms) (dg : decode cc pc = .ok (.invokestatic i, 3)) (kk : G x nL (k + 0) (n + 0) wd lv (pc + 3) (.int t :: rest)) : G x nL k n wd lv pc (.int p1 :: .int p0 :: rest) := gcI (wd2 := wd) o (c_X1_tuplesWithSum (cxl x) o.2.2.2.2.2.2.2.2.2.1 p0 p1 t ht) (can_S o hd (Nat.le_of_ble_eq_true rfl) m_360 m_54 m_359 hlk yk_X1_tuplesWithSum rfl hr hk dg) sp_none (fun E h => by cases h) (fun r h => by cases h; exact kk)
def rt_X1_tuplesWithoutPosition (x : Cx) (t : Int32) : Prop := RetI x cX1_tuplesWithoutPosition .int 0 0 (w0 (cxT x)) t
set_option maxRecDepth 20000 in
set_option maxHeartbeats 2000000 in
theorem b_X1_tuplesWithoutPosition_L11 {x : Cx} (o : Ok x cX1_tuplesWithoutPosition 5 RX1 1 0 0) {k n : Nat} (hk : k ≤ 0) (hn : n ≤ 0) (c0 : Int32) (c2 : Int32) (r : (Int32 × Int32) ⊕ (Int32)) (hX : ∀ s : Int32 × Int32, r = .inl s → G x 5 k n (w0 (cxT x)) [(3, .int s.1)] 51 []) (hR : ∀ t, r = .inr t → rt_X1_tuplesWithoutPosition x  t) : ∀ (m : Nat) (s : Int32 × Int32), loopN (f_X1_tuplesWithoutPosition_s11 c0 c2) m s = some r → G x 5 k n (w0 (cxT x)) [(0, .int c0), (2, .int c2), (3, .int s.1), (4, .int s.2)] 11 [] := by
  refine loop_W _ (fun (s : Int32 × Int32) => G x 5 k n (w0 (cxT x)) [(0, .int c0), (2, .int c2), (3, .int s.1), (4, .int s.2)] 11 []) r ?_
  intro s ww hf hw
  unfold f_X1_tuplesWithoutPosition_s11 at hf
  obtain ⟨s_0, s_1⟩ := s
  try dsimp -simprocs only at hf ⊢
  refine g_iload o 3 rfl dX1_tuplesWithoutPosition_11 ?_
  refine g_bipush o bp_16 dX1_tuplesWithoutPosition_13 ?_
  refine g_ic_ge (tgt := 51) o rfl dX1_tuplesWithoutPosition_15 hf (fun hc hf => ?_) (fun hc hf => ?_)
  · exact g_perm [2] rfl (hX _ (lf_x hf hw))
  · refine g_iload_n o 0 rfl rfl dX1_tuplesWithoutPosition_18 ?_
    refine g_iload o 3 rfl dX1_tuplesWithoutPosition_19 ?_
    obtain ⟨r4, hr4, hf⟩ := bd_some hf
    refine k_X1_has_ o hr4 m_394 (Nat.le_of_ble_eq_true rfl) (Nat.le_of_ble_eq_true rfl) ⟨hk, hn⟩ dX1_tuplesWithoutPosition_21 ?_
    refine g_if_eq (tgt := 45) o rfl dX1_tuplesWithoutPosition_24 hf (fun hc hf => ?_) (fun hc hf => ?_)
    · refine g_iinc o [(4, .int (s_1 + 1)), (0, .int c0), (2, .int c2), (3, .int s_0)] 3 rfl (inc_1 _) (Nat.le_of_ble_eq_true rfl) rfl dX1_tuplesWithoutPosition_45 ?_
      refine g_goto (tgt := 11) o rfl dX1_tuplesWithoutPosition_48 ?_
      have hp := lf_c hf hw
      exact g_perm [1, 2, 3, 0] rfl hp
    · refine g_iload_n o 2 rfl rfl dX1_tuplesWithoutPosition_27 ?_
      refine g_iconst o ic_1 dX1_tuplesWithoutPosition_28 ?_
      refine g_iload o 3 rfl dX1_tuplesWithoutPosition_29 ?_
      refine g_iload_n o 1 rfl rfl dX1_tuplesWithoutPosition_31 ?_
      refine g_iand o dX1_tuplesWithoutPosition_32 ?_
      refine g_iload o 3 rfl dX1_tuplesWithoutPosition_33 ?_
      refine g_iconst o ic_1 dX1_tuplesWithoutPosition_35 ?_
      refine g_iushr o dX1_tuplesWithoutPosition_36 ?_
      refine g_iload_n o 1 rfl rfl dX1_tuplesWithoutPosition_37 ?_
      refine g_iconst o ic_m1 dX1_tuplesWithoutPosition_38 ?_
      refine g_ixor o dX1_tuplesWithoutPosition_39 ?_
      refine g_iand o dX1_tuplesWithoutPosition_40 ?_
      refine g_ior o dX1_tuplesWithoutPosition_41 ?_
      refine g_ishl o dX1_tuplesWithoutPosition_42 ?_
      refine g_ior o dX1_tuplesWithoutPosition_43 ?_
      refine g_nmi hf (fun x5 hf => ?_)
      refine g_istore_n o [(3, .int x5), (0, .int c0), (2, .int c2), (4, .int s_1)] (Nat.le_of_ble_eq_true rfl) rfl rfl dX1_tuplesWithoutPosition_44 ?_
      refine g_iinc o [(4, .int (s_1 + 1)), (3, .int x5), (0, .int c0), (2, .int c2)] 3 rfl (inc_1 _) (Nat.le_of_ble_eq_true rfl) rfl dX1_tuplesWithoutPosition_45 ?_
      refine g_goto (tgt := 11) o rfl dX1_tuplesWithoutPosition_48 ?_
      have hp := lf_c hf hw
      exact g_perm [2, 3, 1, 0] rfl hp
set_option maxRecDepth 20000 in
set_option maxHeartbeats 2000000 in
theorem b_X1_tuplesWithoutPosition {x : Cx} (o : Ok x cX1_tuplesWithoutPosition 5 RX1 1 0 0) (p0 : Int32) (p1 : Int32) (t : Int32) (hf : f_X1_tuplesWithoutPosition p0 p1 = some t) (hret : rt_X1_tuplesWithoutPosition x  t) : G x 5 0 0 (w0 (cxT x)) [(0, .int p0), (1, .int p1)] 0 [] := by
  unfold f_X1_tuplesWithoutPosition at hf
  refine g_iconst o ic_1 dX1_tuplesWithoutPosition_0 ?_
  refine g_iload_n o 1 rfl rfl dX1_tuplesWithoutPosition_1 ?_
  refine g_ishl o dX1_tuplesWithoutPosition_2 ?_
  refine g_iconst o ic_1 dX1_tuplesWithoutPosition_3 ?_
  refine g_isub o dX1_tuplesWithoutPosition_4 ?_
  refine g_nmi hf (fun x8 hf => ?_)
  refine g_istore_n o [(2, .int x8), (0, .int p0), (1, .int p1)] (Nat.le_of_ble_eq_true rfl) rfl rfl dX1_tuplesWithoutPosition_5 ?_
  refine g_iconst o ic_0 dX1_tuplesWithoutPosition_6 ?_
  refine g_istore_n o [(3, .int 0), (2, .int x8), (0, .int p0), (1, .int p1)] (Nat.le_of_ble_eq_true rfl) rfl rfl dX1_tuplesWithoutPosition_7 ?_
  refine g_iconst o ic_0 dX1_tuplesWithoutPosition_8 ?_
  refine g_istore o [(4, .int 0), (3, .int 0), (2, .int x8), (0, .int p0), (1, .int p1)] (Nat.le_of_ble_eq_true rfl) rfl dX1_tuplesWithoutPosition_9 ?_
  obtain ⟨r10, hr10, hxr10, hrr10⟩ := bl_some hf
  refine g_perm [3, 2, 1, 0] rfl (b_X1_tuplesWithoutPosition_L11 o (Nat.le_of_ble_eq_true rfl) (Nat.le_of_ble_eq_true rfl)  p0 x8 r10 (fun s11 hs => ?_) (fun t9 ht => ?_) FU (0, 0) hr10)
  · have hf := hxr10 s11 hs
    obtain ⟨s11_0, s11_1⟩ := s11
    try dsimp -simprocs only at hf ⊢
    refine g_iload_n o 0 rfl rfl dX1_tuplesWithoutPosition_51 ?_
    cases Option.some.inj hf
    exact g_iret hret (Nat.le_of_ble_eq_true rfl) (Nat.le_of_ble_eq_true rfl) (vp_nar_int _) dX1_tuplesWithoutPosition_52
  · have hf := hrr10 t9 ht
    cases Option.some.inj hf
    exact hret
theorem c_X1_tuplesWithoutPosition (l : Launch) (hst : l.stackTraces = false) (p0 : Int32) (p1 : Int32) (t : Int32) (hf : f_X1_tuplesWithoutPosition p0 p1 = some t) : CoI l yX1_tuplesWithoutPosition (.code yX1_tuplesWithoutPosition cX1_tuplesWithoutPosition 5 (some .int)) 1 0 0 [.int p0, .int p1] w0 w0 (.inl t) := mkI hst (by decide +kernel) (Nat.le_of_ble_eq_true rfl) (fun x _ o hI hX => b_X1_tuplesWithoutPosition o p0 p1 t hf (hI _ rfl))
theorem k_X1_tuplesWithoutPosition_ {x : Cx} {cc : ByteArray} {nL : Nat} {own : String} {d mc ms k n : Nat} {lv : List (Nat × Value)} {pc i : Nat} {rest : List Value} {wd : va_W} {p0 : Int32} {p1 : Int32} (o : Ok x cc nL own d mc ms) {t : Int32} (ht : f_X1_tuplesWithoutPosition p0 p1 = some t) (hlk : Cond.methodLink own i yX1_tuplesWithoutPosition ∈ Ug) (hd : 1 < d) (hr : (rest.map fun v => v.category).sum ≤ 8) (hk : k + 0 ≤ mc ∧ n + 0 ≤ ms) (dg : decode cc pc = .ok (.invokestatic i, 3)) (kk : G x nL (k + 0) (n + 0) wd lv (pc + 3) (.int t :: rest)) : G x nL k n wd lv pc (.int p1 :: .int p0 :: rest) := gcI (wd2 := wd) o (c_X1_tuplesWithoutPosition (cxl x) o.2.2.2.2.2.2.2.2.2.1 p0 p1 t ht) (can_S o hd (Nat.le_of_ble_eq_true rfl) m_460 m_54 m_459 hlk yk_X1_tuplesWithoutPosition rfl hr hk dg) sp_none (fun E h => by cases h) (fun r h => by cases h; exact kk)
def rt_X1_requireOperationArity (x : Cx) (t : (Unit ⊕ String)) : Prop := (t = .inl () → RetV x cX1_requireOperationArity 1 6 (w0 (cxT x))) ∧ ∀ E, t = .inr E → RetX x 1 6 (w0 (cxT x)) E
set_option maxRecDepth 20000 in
set_option maxHeartbeats 2000000 in
theorem b_X1_requireOperationArity {x : Cx} (o : Ok x cX1_requireOperationArity 1 RX1 0 1 6) (p0 : Int32) (t : (Unit ⊕ String)) (hf : f_X1_requireOperationArity p0 = some t) (hret : rt_X1_requireOperationArity x  t) : G x 1 0 0 (w0 (cxT x)) [(0, .int p0)] 0 [] := by
  unfold f_X1_requireOperationArity at hf
  refine g_iload_n o 0 rfl rfl dX1_requireOperationArity_0 ?_
  refine g_iconst o ic_1 dX1_requireOperationArity_1 ?_
  refine g_ic_lt (tgt := 10) o rfl dX1_requireOperationArity_2 hf (fun hc hf => ?_) (fun hc hf => ?_)
  · cases Option.some.inj hf
    exact g_throwSW o (hret.2 _ rfl) fit_ia fit_re rfl m_241 m_60 st_285 at_63 go_63 dX1_requireOperationArity_10 dX1_requireOperationArity_13 dX1_requireOperationArity_14 dX1_requireOperationArity_17 dX1_requireOperationArity_20 (Nat.le_of_ble_eq_true rfl) (Nat.le_of_ble_eq_true rfl)
  · refine g_iload_n o 0 rfl rfl dX1_requireOperationArity_5 ?_
    refine g_iconst o ic_3 dX1_requireOperationArity_6 ?_
    refine g_ic_le (tgt := 21) o rfl dX1_requireOperationArity_7 hf (fun hc hf => ?_) (fun hc hf => ?_)
    · cases Option.some.inj hf
      exact g_vret (hret.1 rfl) (Nat.le_of_ble_eq_true rfl) (Nat.le_of_ble_eq_true rfl) dX1_requireOperationArity_21
    · cases Option.some.inj hf
      exact g_throwSW o (hret.2 _ rfl) fit_ia fit_re rfl m_241 m_60 st_285 at_63 go_63 dX1_requireOperationArity_10 dX1_requireOperationArity_13 dX1_requireOperationArity_14 dX1_requireOperationArity_17 dX1_requireOperationArity_20 (Nat.le_of_ble_eq_true rfl) (Nat.le_of_ble_eq_true rfl)
theorem c_X1_requireOperationArity (l : Launch) (hst : l.stackTraces = false) (p0 : Int32) (t : (Unit ⊕ String)) (hf : f_X1_requireOperationArity p0 = some t) : CoV l yX1_requireOperationArity (.code yX1_requireOperationArity cX1_requireOperationArity 1 none) 0 1 6 [.int p0] w0 w0 (t) := mkV hst (by decide +kernel) (Nat.le_of_ble_eq_true rfl) (fun x _ o hI hX => b_X1_requireOperationArity o p0 t hf ⟨hI, hX⟩)
theorem k_X1_requireOperationArity_n {x : Cx} {cc : ByteArray} {nL : Nat} {own : String} {d mc ms k n : Nat} {lv : List (Nat × Value)} {pc i : Nat} {rest : List Value} {wd : va_W} {p0 : Int32} (o : Ok x cc nL own d mc ms) {r : Unit} (ht : f_X1_requireOperationArity p0 = some (.inl r)) (hlk : Cond.methodLink own i yX1_requireOperationArity ∈ Ug) (hd : 0 < d) (hr : (rest.map fun v => v.category).sum ≤ 8) (hk : k + 1 ≤ mc ∧ n + 6 ≤ ms) (dg : decode cc pc = .ok (.invokestatic i, 3)) (kk : G x nL (k + 1) (n + 6) wd lv (pc + 3) rest) : G x nL k n wd lv pc (.int p0 :: rest) := gcV (wd2 := wd) o (c_X1_requireOperationArity (cxl x) o.2.2.2.2.2.2.2.2.2.1 p0 (.inl r) ht) (can_S o hd (Nat.le_of_ble_eq_true rfl) m_483 m_54 m_482 hlk yk_X1_requireOperationArity rfl hr hk dg) sp_none (fun E h => by cases h) (fun h => kk)
theorem k_X1_requireOperationArity_x {x : Cx} {cc : ByteArray} {nL : Nat} {own : String} {d mc ms k n : Nat} {lv : List (Nat × Value)} {pc i : Nat} {rest : List Value} {wd : va_W} {p0 : Int32} (o : Ok x cc nL own d mc ms) {E : String} (ht : f_X1_requireOperationArity p0 = some (.inr E)) (hlk : Cond.methodLink own i yX1_requireOperationArity ∈ Ug) (hd : 0 < d) (hr : (rest.map fun v => v.category).sum ≤ 8) (hk : k + 1 ≤ mc ∧ n + 6 ≤ ms) (dg : decode cc pc = .ok (.invokestatic i, 3)) (kk : XW x nL (k + 1) (n + 6) wd lv pc rest E) : G x nL k n wd lv pc (.int p0 :: rest) := gcV (wd2 := wd) o (c_X1_requireOperationArity (cxl x) o.2.2.2.2.2.2.2.2.2.1 p0 (.inr E) ht) (can_S o hd (Nat.le_of_ble_eq_true rfl) m_483 m_54 m_482 hlk yk_X1_requireOperationArity rfl hr hk dg) sp_none (fun E h => by cases h; exact kk) (fun h => by cases h)
def rt_X1_requireOperation (x : Cx) (t : (Unit ⊕ String)) : Prop := (t = .inl () → RetV x cX1_requireOperation 2 12 (w0 (cxT x))) ∧ ∀ E, t = .inr E → RetX x 2 12 (w0 (cxT x)) E
set_option maxRecDepth 20000 in
set_option maxHeartbeats 2000000 in
theorem b_X1_requireOperation {x : Cx} (o : Ok x cX1_requireOperation 2 RX1 1 2 12) (p0 : Int32) (p1 : Int32) (t : (Unit ⊕ String)) (hf : f_X1_requireOperation p0 p1 = some t) (hret : rt_X1_requireOperation x  t) : G x 2 0 0 (w0 (cxT x)) [(0, .int p0), (1, .int p1)] 0 [] := by
  unfold f_X1_requireOperation at hf
  refine g_iload_n o 0 rfl rfl dX1_requireOperation_0 ?_
  rcases bz_some hf with ⟨r4, hr4, hf⟩ | ⟨E5, hr4, hf⟩
  · refine k_X1_requireOperationArity_n o hr4 m_481 (Nat.le_of_ble_eq_true rfl) (Nat.le_of_ble_eq_true rfl) ⟨(Nat.le_of_ble_eq_true rfl), (Nat.le_of_ble_eq_true rfl)⟩ dX1_requireOperation_1 ?_
    refine g_iload_n o 1 rfl rfl dX1_requireOperation_4 ?_
    refine g_if_lt (tgt := 16) o rfl dX1_requireOperation_5 hf (fun hc hf => ?_) (fun hc hf => ?_)
    · cases Option.some.inj hf
      exact g_throwSW o (hret.2 _ rfl) fit_ia fit_re rfl m_241 m_60 st_287 at_63 go_63 dX1_requireOperation_16 dX1_requireOperation_19 dX1_requireOperation_20 dX1_requireOperation_23 dX1_requireOperation_26 (Nat.le_of_ble_eq_true rfl) (Nat.le_of_ble_eq_true rfl)
    · refine g_iload_n o 1 rfl rfl dX1_requireOperation_8 ?_
      refine g_iload_n o 0 rfl rfl dX1_requireOperation_9 ?_
      obtain ⟨r6, hr6, hf⟩ := bd_some hf
      refine k_X1_allTuples_ o hr6 m_346 (Nat.le_of_ble_eq_true rfl) (Nat.le_of_ble_eq_true rfl) ⟨(Nat.le_of_ble_eq_true rfl), (Nat.le_of_ble_eq_true rfl)⟩ dX1_requireOperation_10 ?_
      refine g_ic_le (tgt := 27) o rfl dX1_requireOperation_13 hf (fun hc hf => ?_) (fun hc hf => ?_)
      · cases Option.some.inj hf
        exact g_vret (hret.1 rfl) (Nat.le_of_ble_eq_true rfl) (Nat.le_of_ble_eq_true rfl) dX1_requireOperation_27
      · cases Option.some.inj hf
        exact g_throwSW o (hret.2 _ rfl) fit_ia fit_re rfl m_241 m_60 st_287 at_63 go_63 dX1_requireOperation_16 dX1_requireOperation_19 dX1_requireOperation_20 dX1_requireOperation_23 dX1_requireOperation_26 (Nat.le_of_ble_eq_true rfl) (Nat.le_of_ble_eq_true rfl)
  · cases Option.some.inj hf
    exact k_X1_requireOperationArity_x o hr4 m_481 (Nat.le_of_ble_eq_true rfl) (Nat.le_of_ble_eq_true rfl) ⟨(Nat.le_of_ble_eq_true rfl), (Nat.le_of_ble_eq_true rfl)⟩ dX1_requireOperation_1 (xw_out o (hret.2 _ rfl) (Nat.le_of_ble_eq_true rfl) (Nat.le_of_ble_eq_true rfl))
theorem c_X1_requireOperation (l : Launch) (hst : l.stackTraces = false) (p0 : Int32) (p1 : Int32) (t : (Unit ⊕ String)) (hf : f_X1_requireOperation p0 p1 = some t) : CoV l yX1_requireOperation (.code yX1_requireOperation cX1_requireOperation 2 none) 1 2 12 [.int p0, .int p1] w0 w0 (t) := mkV hst (by decide +kernel) (Nat.le_of_ble_eq_true rfl) (fun x _ o hI hX => b_X1_requireOperation o p0 p1 t hf ⟨hI, hX⟩)
theorem k_X1_requireOperation_n {x : Cx} {cc : ByteArray} {nL : Nat} {own : String} {d mc ms k n : Nat} {lv : List (Nat × Value)} {pc i : Nat} {rest : List Value} {wd : va_W} {p0 : Int32} {p1 : Int32} (o : Ok x cc nL own d mc ms) {r : Unit} (ht : f_X1_requireOperation p0 p1 = some (.inl r)) (hlk : Cond.methodLink own i yX1_requireOperation ∈ Ug) (hd : 1 < d) (hr : (rest.map fun v => v.category).sum ≤ 8) (hk : k + 2 ≤ mc ∧ n + 12 ≤ ms) (dg : decode cc pc = .ok (.invokestatic i, 3)) (kk : G x nL (k + 2) (n + 12) wd lv (pc + 3) rest) : G x nL k n wd lv pc (.int p1 :: .int p0 :: rest) := gcV (wd2 := wd) o (c_X1_requireOperation (cxl x) o.2.2.2.2.2.2.2.2.2.1 p0 p1 (.inl r) ht) (can_S o hd (Nat.le_of_ble_eq_true rfl) m_480 m_54 m_479 hlk yk_X1_requireOperation rfl hr hk dg) sp_none (fun E h => by cases h) (fun h => kk)
theorem k_X1_requireOperation_x {x : Cx} {cc : ByteArray} {nL : Nat} {own : String} {d mc ms k n : Nat} {lv : List (Nat × Value)} {pc i : Nat} {rest : List Value} {wd : va_W} {p0 : Int32} {p1 : Int32} (o : Ok x cc nL own d mc ms) {E : String} (ht : f_X1_requireOperation p0 p1 = some (.inr E)) (hlk : Cond.methodLink own i yX1_requireOperation ∈ Ug) (hd : 1 < d) (hr : (rest.map fun v => v.category).sum ≤ 8) (hk : k + 2 ≤ mc ∧ n + 12 ≤ ms) (dg : decode cc pc = .ok (.invokestatic i, 3)) (kk : XW x nL (k + 2) (n + 12) wd lv pc rest E) : G x nL k n wd lv pc (.int p1 :: .int p0 :: rest) := gcV (wd2 := wd) o (c_X1_requireOperation (cxl x) o.2.2.2.2.2.2.2.2.2.1 p0 p1 (.inr E) ht) (can_S o hd (Nat.le_of_ble_eq_true rfl) m_480 m_54 m_479 hlk yk_X1_requireOperation rfl hr hk dg) sp_none (fun E h => by cases h; exact kk) (fun h => by cases h)
def rt_X1_valueFor (x : Cx) (t : Int32) : Prop := RetI x cX1_valueFor .int 0 0 (w0 (cxT x)) t
set_option maxRecDepth 20000 in
set_option maxHeartbeats 2000000 in
theorem b_X1_valueFor {x : Cx} (o : Ok x cX1_valueFor 3 RX1 1 0 0) (p0 : Int32) (p1 : Int32) (p2 : Int32) (t : Int32) (hf : f_X1_valueFor p0 p1 p2 = some t) (hret : rt_X1_valueFor x  t) : G x 3 0 0 (w0 (cxT x)) [(0, .int p0), (1, .int p1), (2, .int p2)] 0 [] := by
  unfold f_X1_valueFor at hf
  refine g_iload_n o 1 rfl rfl dX1_valueFor_0 ?_
  refine g_iload_n o 2 rfl rfl dX1_valueFor_1 ?_
  refine g_iload_n o 0 rfl rfl dX1_valueFor_2 ?_
  obtain ⟨r2, hr2, hf⟩ := bd_some hf
  refine k_X1_greatestTuple_ o hr2 m_342 (Nat.le_of_ble_eq_true rfl) (Nat.le_of_ble_eq_true rfl) ⟨(Nat.le_of_ble_eq_true rfl), (Nat.le_of_ble_eq_true rfl)⟩ dX1_valueFor_3 ?_
  refine g_iand o dX1_valueFor_6 ?_
  refine g_iushr o dX1_valueFor_7 ?_
  refine g_iconst o ic_1 dX1_valueFor_8 ?_
  refine g_iand o dX1_valueFor_9 ?_
  cases Option.some.inj hf
  exact g_iret hret (Nat.le_of_ble_eq_true rfl) (Nat.le_of_ble_eq_true rfl) (vp_nar_int _) dX1_valueFor_10
theorem c_X1_valueFor (l : Launch) (hst : l.stackTraces = false) (p0 : Int32) (p1 : Int32) (p2 : Int32) (t : Int32) (hf : f_X1_valueFor p0 p1 p2 = some t) : CoI l yX1_valueFor (.code yX1_valueFor cX1_valueFor 3 (some .int)) 1 0 0 [.int p0, .int p1, .int p2] w0 w0 (.inl t) := mkI hst (by decide +kernel) (Nat.le_of_ble_eq_true rfl) (fun x _ o hI hX => b_X1_valueFor o p0 p1 p2 t hf (hI _ rfl))
theorem k_X1_valueFor_ {x : Cx} {cc : ByteArray} {nL : Nat} {own : String} {d mc ms k n : Nat} {lv : List (Nat × Value)} {pc i : Nat} {rest : List Value} {wd : va_W} {p0 : Int32} {p1 : Int32} {p2 : Int32} (o : Ok x cc nL own d mc ms) {t : Int32} (ht : f_X1_valueFor p0 p1 p2 = some t) (hlk : Cond.methodLink own i yX1_valueFor ∈ Ug) (hd : 1 < d) (hr : (rest.map fun v => v.category).sum ≤ 8) (hk : k + 0 ≤ mc ∧ n + 0 ≤ ms) (dg : decode cc pc = .ok (.invokestatic i, 3)) (kk : G x nL (k + 0) (n + 0) wd lv (pc + 3) (.int t :: rest)) : G x nL k n wd lv pc (.int p2 :: .int p1 :: .int p0 :: rest) := gcI (wd2 := wd) o (c_X1_valueFor (cxl x) o.2.2.2.2.2.2.2.2.2.1 p0 p1 p2 t ht) (can_S o hd (Nat.le_of_ble_eq_true rfl) m_487 m_54 m_486 hlk yk_X1_valueFor rfl hr hk dg) sp_none (fun E h => by cases h) (fun r h => by cases h; exact kk)
def rt_X1_appliedToTwo (x : Cx) (t : Int32) : Prop := RetI x cX1_appliedToTwo .int 0 0 (w0 (cxT x)) t
set_option maxRecDepth 20000 in
set_option maxHeartbeats 2000000 in
theorem b_X1_appliedToTwo {x : Cx} (o : Ok x cX1_appliedToTwo 3 RX1 0 0 0) (p0 : Int32) (p1 : Int32) (p2 : Int32) (t : Int32) (hf : f_X1_appliedToTwo p0 p1 p2 = some t) (hret : rt_X1_appliedToTwo x  t) : G x 3 0 0 (w0 (cxT x)) [(0, .int p0), (1, .int p1), (2, .int p2)] 0 [] := by
  unfold f_X1_appliedToTwo at hf
  refine g_iload_n o 0 rfl rfl dX1_appliedToTwo_0 ?_
  refine g_iconst o ic_1 dX1_appliedToTwo_1 ?_
  refine g_iand o dX1_appliedToTwo_2 ?_
  refine g_if_eq (tgt := 16) o rfl dX1_appliedToTwo_3 hf (fun hc hf => ?_) (fun hc hf => ?_)
  · refine g_iconst o ic_0 dX1_appliedToTwo_16 ?_
    refine g_iload_n o 0 rfl rfl dX1_appliedToTwo_17 ?_
    refine g_iconst o ic_2 dX1_appliedToTwo_18 ?_
    refine g_iand o dX1_appliedToTwo_19 ?_
    refine g_if_eq (tgt := 31) o rfl dX1_appliedToTwo_20 hf (fun hc hf => ?_) (fun hc hf => ?_)
    · refine g_iconst o ic_0 dX1_appliedToTwo_31 ?_
      refine g_ior o dX1_appliedToTwo_32 ?_
      refine g_iload_n o 0 rfl rfl dX1_appliedToTwo_33 ?_
      refine g_iconst o ic_4 dX1_appliedToTwo_34 ?_
      refine g_iand o dX1_appliedToTwo_35 ?_
      refine g_if_eq (tgt := 47) o rfl dX1_appliedToTwo_36 hf (fun hc hf => ?_) (fun hc hf => ?_)
      · refine g_iconst o ic_0 dX1_appliedToTwo_47 ?_
        refine g_ior o dX1_appliedToTwo_48 ?_
        refine g_iload_n o 0 rfl rfl dX1_appliedToTwo_49 ?_
        refine g_bipush o bp_8 dX1_appliedToTwo_50 ?_
        refine g_iand o dX1_appliedToTwo_52 ?_
        refine g_if_eq (tgt := 62) o rfl dX1_appliedToTwo_53 hf (fun hc hf => ?_) (fun hc hf => ?_)
        · refine g_iconst o ic_0 dX1_appliedToTwo_62 ?_
          refine g_ior o dX1_appliedToTwo_63 ?_
          cases Option.some.inj hf
          exact g_iret hret (Nat.le_of_ble_eq_true rfl) (Nat.le_of_ble_eq_true rfl) (vp_nar_int _) dX1_appliedToTwo_64
        · refine g_iload_n o 1 rfl rfl dX1_appliedToTwo_56 ?_
          refine g_iload_n o 2 rfl rfl dX1_appliedToTwo_57 ?_
          refine g_iand o dX1_appliedToTwo_58 ?_
          refine g_goto (tgt := 63) o rfl dX1_appliedToTwo_59 ?_
          refine g_ior o dX1_appliedToTwo_63 ?_
          cases Option.some.inj hf
          exact g_iret hret (Nat.le_of_ble_eq_true rfl) (Nat.le_of_ble_eq_true rfl) (vp_nar_int _) dX1_appliedToTwo_64
      · refine g_iload_n o 1 rfl rfl dX1_appliedToTwo_39 ?_
        refine g_iconst o ic_m1 dX1_appliedToTwo_40 ?_
        refine g_ixor o dX1_appliedToTwo_41 ?_
        refine g_iload_n o 2 rfl rfl dX1_appliedToTwo_42 ?_
        refine g_iand o dX1_appliedToTwo_43 ?_
        refine g_goto (tgt := 48) o rfl dX1_appliedToTwo_44 ?_
        refine g_ior o dX1_appliedToTwo_48 ?_
        refine g_iload_n o 0 rfl rfl dX1_appliedToTwo_49 ?_
        refine g_bipush o bp_8 dX1_appliedToTwo_50 ?_
        refine g_iand o dX1_appliedToTwo_52 ?_
        refine g_if_eq (tgt := 62) o rfl dX1_appliedToTwo_53 hf (fun hc hf => ?_) (fun hc hf => ?_)
        · refine g_iconst o ic_0 dX1_appliedToTwo_62 ?_
          refine g_ior o dX1_appliedToTwo_63 ?_
          cases Option.some.inj hf
          exact g_iret hret (Nat.le_of_ble_eq_true rfl) (Nat.le_of_ble_eq_true rfl) (vp_nar_int _) dX1_appliedToTwo_64
        · refine g_iload_n o 1 rfl rfl dX1_appliedToTwo_56 ?_
          refine g_iload_n o 2 rfl rfl dX1_appliedToTwo_57 ?_
          refine g_iand o dX1_appliedToTwo_58 ?_
          refine g_goto (tgt := 63) o rfl dX1_appliedToTwo_59 ?_
          refine g_ior o dX1_appliedToTwo_63 ?_
          cases Option.some.inj hf
          exact g_iret hret (Nat.le_of_ble_eq_true rfl) (Nat.le_of_ble_eq_true rfl) (vp_nar_int _) dX1_appliedToTwo_64
    · refine g_iload_n o 1 rfl rfl dX1_appliedToTwo_23 ?_
      refine g_iload_n o 2 rfl rfl dX1_appliedToTwo_24 ?_
      refine g_iconst o ic_m1 dX1_appliedToTwo_25 ?_
      refine g_ixor o dX1_appliedToTwo_26 ?_
      refine g_iand o dX1_appliedToTwo_27 ?_
      refine g_goto (tgt := 32) o rfl dX1_appliedToTwo_28 ?_
      refine g_ior o dX1_appliedToTwo_32 ?_
      refine g_iload_n o 0 rfl rfl dX1_appliedToTwo_33 ?_
      refine g_iconst o ic_4 dX1_appliedToTwo_34 ?_
      refine g_iand o dX1_appliedToTwo_35 ?_
      refine g_if_eq (tgt := 47) o rfl dX1_appliedToTwo_36 hf (fun hc hf => ?_) (fun hc hf => ?_)
      · refine g_iconst o ic_0 dX1_appliedToTwo_47 ?_
        refine g_ior o dX1_appliedToTwo_48 ?_
        refine g_iload_n o 0 rfl rfl dX1_appliedToTwo_49 ?_
        refine g_bipush o bp_8 dX1_appliedToTwo_50 ?_
        refine g_iand o dX1_appliedToTwo_52 ?_
        refine g_if_eq (tgt := 62) o rfl dX1_appliedToTwo_53 hf (fun hc hf => ?_) (fun hc hf => ?_)
        · refine g_iconst o ic_0 dX1_appliedToTwo_62 ?_
          refine g_ior o dX1_appliedToTwo_63 ?_
          cases Option.some.inj hf
          exact g_iret hret (Nat.le_of_ble_eq_true rfl) (Nat.le_of_ble_eq_true rfl) (vp_nar_int _) dX1_appliedToTwo_64
        · refine g_iload_n o 1 rfl rfl dX1_appliedToTwo_56 ?_
          refine g_iload_n o 2 rfl rfl dX1_appliedToTwo_57 ?_
          refine g_iand o dX1_appliedToTwo_58 ?_
          refine g_goto (tgt := 63) o rfl dX1_appliedToTwo_59 ?_
          refine g_ior o dX1_appliedToTwo_63 ?_
          cases Option.some.inj hf
          exact g_iret hret (Nat.le_of_ble_eq_true rfl) (Nat.le_of_ble_eq_true rfl) (vp_nar_int _) dX1_appliedToTwo_64
      · refine g_iload_n o 1 rfl rfl dX1_appliedToTwo_39 ?_
        refine g_iconst o ic_m1 dX1_appliedToTwo_40 ?_
        refine g_ixor o dX1_appliedToTwo_41 ?_
        refine g_iload_n o 2 rfl rfl dX1_appliedToTwo_42 ?_
        refine g_iand o dX1_appliedToTwo_43 ?_
        refine g_goto (tgt := 48) o rfl dX1_appliedToTwo_44 ?_
        refine g_ior o dX1_appliedToTwo_48 ?_
        refine g_iload_n o 0 rfl rfl dX1_appliedToTwo_49 ?_
        refine g_bipush o bp_8 dX1_appliedToTwo_50 ?_
        refine g_iand o dX1_appliedToTwo_52 ?_
        refine g_if_eq (tgt := 62) o rfl dX1_appliedToTwo_53 hf (fun hc hf => ?_) (fun hc hf => ?_)
        · refine g_iconst o ic_0 dX1_appliedToTwo_62 ?_
          refine g_ior o dX1_appliedToTwo_63 ?_
          cases Option.some.inj hf
          exact g_iret hret (Nat.le_of_ble_eq_true rfl) (Nat.le_of_ble_eq_true rfl) (vp_nar_int _) dX1_appliedToTwo_64
        · refine g_iload_n o 1 rfl rfl dX1_appliedToTwo_56 ?_
          refine g_iload_n o 2 rfl rfl dX1_appliedToTwo_57 ?_
          refine g_iand o dX1_appliedToTwo_58 ?_
          refine g_goto (tgt := 63) o rfl dX1_appliedToTwo_59 ?_
          refine g_ior o dX1_appliedToTwo_63 ?_
          cases Option.some.inj hf
          exact g_iret hret (Nat.le_of_ble_eq_true rfl) (Nat.le_of_ble_eq_true rfl) (vp_nar_int _) dX1_appliedToTwo_64
  · refine g_iload_n o 1 rfl rfl dX1_appliedToTwo_6 ?_
    refine g_iconst o ic_m1 dX1_appliedToTwo_7 ?_
    refine g_ixor o dX1_appliedToTwo_8 ?_
    refine g_iload_n o 2 rfl rfl dX1_appliedToTwo_9 ?_
    refine g_iconst o ic_m1 dX1_appliedToTwo_10 ?_
    refine g_ixor o dX1_appliedToTwo_11 ?_
    refine g_iand o dX1_appliedToTwo_12 ?_
    refine g_goto (tgt := 17) o rfl dX1_appliedToTwo_13 ?_
    refine g_iload_n o 0 rfl rfl dX1_appliedToTwo_17 ?_
    refine g_iconst o ic_2 dX1_appliedToTwo_18 ?_
    refine g_iand o dX1_appliedToTwo_19 ?_
    refine g_if_eq (tgt := 31) o rfl dX1_appliedToTwo_20 hf (fun hc hf => ?_) (fun hc hf => ?_)
    · refine g_iconst o ic_0 dX1_appliedToTwo_31 ?_
      refine g_ior o dX1_appliedToTwo_32 ?_
      refine g_iload_n o 0 rfl rfl dX1_appliedToTwo_33 ?_
      refine g_iconst o ic_4 dX1_appliedToTwo_34 ?_
      refine g_iand o dX1_appliedToTwo_35 ?_
      refine g_if_eq (tgt := 47) o rfl dX1_appliedToTwo_36 hf (fun hc hf => ?_) (fun hc hf => ?_)
      · refine g_iconst o ic_0 dX1_appliedToTwo_47 ?_
        refine g_ior o dX1_appliedToTwo_48 ?_
        refine g_iload_n o 0 rfl rfl dX1_appliedToTwo_49 ?_
        refine g_bipush o bp_8 dX1_appliedToTwo_50 ?_
        refine g_iand o dX1_appliedToTwo_52 ?_
        refine g_if_eq (tgt := 62) o rfl dX1_appliedToTwo_53 hf (fun hc hf => ?_) (fun hc hf => ?_)
        · refine g_iconst o ic_0 dX1_appliedToTwo_62 ?_
          refine g_ior o dX1_appliedToTwo_63 ?_
          cases Option.some.inj hf
          exact g_iret hret (Nat.le_of_ble_eq_true rfl) (Nat.le_of_ble_eq_true rfl) (vp_nar_int _) dX1_appliedToTwo_64
        · refine g_iload_n o 1 rfl rfl dX1_appliedToTwo_56 ?_
          refine g_iload_n o 2 rfl rfl dX1_appliedToTwo_57 ?_
          refine g_iand o dX1_appliedToTwo_58 ?_
          refine g_goto (tgt := 63) o rfl dX1_appliedToTwo_59 ?_
          refine g_ior o dX1_appliedToTwo_63 ?_
          cases Option.some.inj hf
          exact g_iret hret (Nat.le_of_ble_eq_true rfl) (Nat.le_of_ble_eq_true rfl) (vp_nar_int _) dX1_appliedToTwo_64
      · refine g_iload_n o 1 rfl rfl dX1_appliedToTwo_39 ?_
        refine g_iconst o ic_m1 dX1_appliedToTwo_40 ?_
        refine g_ixor o dX1_appliedToTwo_41 ?_
        refine g_iload_n o 2 rfl rfl dX1_appliedToTwo_42 ?_
        refine g_iand o dX1_appliedToTwo_43 ?_
        refine g_goto (tgt := 48) o rfl dX1_appliedToTwo_44 ?_
        refine g_ior o dX1_appliedToTwo_48 ?_
        refine g_iload_n o 0 rfl rfl dX1_appliedToTwo_49 ?_
        refine g_bipush o bp_8 dX1_appliedToTwo_50 ?_
        refine g_iand o dX1_appliedToTwo_52 ?_
        refine g_if_eq (tgt := 62) o rfl dX1_appliedToTwo_53 hf (fun hc hf => ?_) (fun hc hf => ?_)
        · refine g_iconst o ic_0 dX1_appliedToTwo_62 ?_
          refine g_ior o dX1_appliedToTwo_63 ?_
          cases Option.some.inj hf
          exact g_iret hret (Nat.le_of_ble_eq_true rfl) (Nat.le_of_ble_eq_true rfl) (vp_nar_int _) dX1_appliedToTwo_64
        · refine g_iload_n o 1 rfl rfl dX1_appliedToTwo_56 ?_
          refine g_iload_n o 2 rfl rfl dX1_appliedToTwo_57 ?_
          refine g_iand o dX1_appliedToTwo_58 ?_
          refine g_goto (tgt := 63) o rfl dX1_appliedToTwo_59 ?_
          refine g_ior o dX1_appliedToTwo_63 ?_
          cases Option.some.inj hf
          exact g_iret hret (Nat.le_of_ble_eq_true rfl) (Nat.le_of_ble_eq_true rfl) (vp_nar_int _) dX1_appliedToTwo_64
    · refine g_iload_n o 1 rfl rfl dX1_appliedToTwo_23 ?_
      refine g_iload_n o 2 rfl rfl dX1_appliedToTwo_24 ?_
      refine g_iconst o ic_m1 dX1_appliedToTwo_25 ?_
      refine g_ixor o dX1_appliedToTwo_26 ?_
      refine g_iand o dX1_appliedToTwo_27 ?_
      refine g_goto (tgt := 32) o rfl dX1_appliedToTwo_28 ?_
      refine g_ior o dX1_appliedToTwo_32 ?_
      refine g_iload_n o 0 rfl rfl dX1_appliedToTwo_33 ?_
      refine g_iconst o ic_4 dX1_appliedToTwo_34 ?_
      refine g_iand o dX1_appliedToTwo_35 ?_
      refine g_if_eq (tgt := 47) o rfl dX1_appliedToTwo_36 hf (fun hc hf => ?_) (fun hc hf => ?_)
      · refine g_iconst o ic_0 dX1_appliedToTwo_47 ?_
        refine g_ior o dX1_appliedToTwo_48 ?_
        refine g_iload_n o 0 rfl rfl dX1_appliedToTwo_49 ?_
        refine g_bipush o bp_8 dX1_appliedToTwo_50 ?_
        refine g_iand o dX1_appliedToTwo_52 ?_
        refine g_if_eq (tgt := 62) o rfl dX1_appliedToTwo_53 hf (fun hc hf => ?_) (fun hc hf => ?_)
        · refine g_iconst o ic_0 dX1_appliedToTwo_62 ?_
          refine g_ior o dX1_appliedToTwo_63 ?_
          cases Option.some.inj hf
          exact g_iret hret (Nat.le_of_ble_eq_true rfl) (Nat.le_of_ble_eq_true rfl) (vp_nar_int _) dX1_appliedToTwo_64
        · refine g_iload_n o 1 rfl rfl dX1_appliedToTwo_56 ?_
          refine g_iload_n o 2 rfl rfl dX1_appliedToTwo_57 ?_
          refine g_iand o dX1_appliedToTwo_58 ?_
          refine g_goto (tgt := 63) o rfl dX1_appliedToTwo_59 ?_
          refine g_ior o dX1_appliedToTwo_63 ?_
          cases Option.some.inj hf
          exact g_iret hret (Nat.le_of_ble_eq_true rfl) (Nat.le_of_ble_eq_true rfl) (vp_nar_int _) dX1_appliedToTwo_64
      · refine g_iload_n o 1 rfl rfl dX1_appliedToTwo_39 ?_
        refine g_iconst o ic_m1 dX1_appliedToTwo_40 ?_
        refine g_ixor o dX1_appliedToTwo_41 ?_
        refine g_iload_n o 2 rfl rfl dX1_appliedToTwo_42 ?_
        refine g_iand o dX1_appliedToTwo_43 ?_
        refine g_goto (tgt := 48) o rfl dX1_appliedToTwo_44 ?_
        refine g_ior o dX1_appliedToTwo_48 ?_
        refine g_iload_n o 0 rfl rfl dX1_appliedToTwo_49 ?_
        refine g_bipush o bp_8 dX1_appliedToTwo_50 ?_
        refine g_iand o dX1_appliedToTwo_52 ?_
        refine g_if_eq (tgt := 62) o rfl dX1_appliedToTwo_53 hf (fun hc hf => ?_) (fun hc hf => ?_)
        · refine g_iconst o ic_0 dX1_appliedToTwo_62 ?_
          refine g_ior o dX1_appliedToTwo_63 ?_
          cases Option.some.inj hf
          exact g_iret hret (Nat.le_of_ble_eq_true rfl) (Nat.le_of_ble_eq_true rfl) (vp_nar_int _) dX1_appliedToTwo_64
        · refine g_iload_n o 1 rfl rfl dX1_appliedToTwo_56 ?_
          refine g_iload_n o 2 rfl rfl dX1_appliedToTwo_57 ?_
          refine g_iand o dX1_appliedToTwo_58 ?_
          refine g_goto (tgt := 63) o rfl dX1_appliedToTwo_59 ?_
          refine g_ior o dX1_appliedToTwo_63 ?_
          cases Option.some.inj hf
          exact g_iret hret (Nat.le_of_ble_eq_true rfl) (Nat.le_of_ble_eq_true rfl) (vp_nar_int _) dX1_appliedToTwo_64
theorem c_X1_appliedToTwo (l : Launch) (hst : l.stackTraces = false) (p0 : Int32) (p1 : Int32) (p2 : Int32) (t : Int32) (hf : f_X1_appliedToTwo p0 p1 p2 = some t) : CoI l yX1_appliedToTwo (.code yX1_appliedToTwo cX1_appliedToTwo 3 (some .int)) 0 0 0 [.int p0, .int p1, .int p2] w0 w0 (.inl t) := mkI hst (by decide +kernel) (Nat.le_of_ble_eq_true rfl) (fun x _ o hI hX => b_X1_appliedToTwo o p0 p1 p2 t hf (hI _ rfl))
theorem k_X1_appliedToTwo_ {x : Cx} {cc : ByteArray} {nL : Nat} {own : String} {d mc ms k n : Nat} {lv : List (Nat × Value)} {pc i : Nat} {rest : List Value} {wd : va_W} {p0 : Int32} {p1 : Int32} {p2 : Int32} (o : Ok x cc nL own d mc ms) {t : Int32} (ht : f_X1_appliedToTwo p0 p1 p2 = some t) (hlk : Cond.methodLink own i yX1_appliedToTwo ∈ Ug) (hd : 0 < d) (hr : (rest.map fun v => v.category).sum ≤ 8) (hk : k + 0 ≤ mc ∧ n + 0 ≤ ms) (dg : decode cc pc = .ok (.invokestatic i, 3)) (kk : G x nL (k + 0) (n + 0) wd lv (pc + 3) (.int t :: rest)) : G x nL k n wd lv pc (.int p2 :: .int p1 :: .int p0 :: rest) := gcI (wd2 := wd) o (c_X1_appliedToTwo (cxl x) o.2.2.2.2.2.2.2.2.2.1 p0 p1 p2 t ht) (can_S o hd (Nat.le_of_ble_eq_true rfl) m_504 m_54 m_503 hlk yk_X1_appliedToTwo rfl hr hk dg) sp_none (fun E h => by cases h) (fun r h => by cases h; exact kk)
def rt_X1_tuplesChosenBy (x : Cx) (t : Int32) : Prop := RetI x cX1_tuplesChosenBy .int 0 0 (w0 (cxT x)) t
set_option maxRecDepth 20000 in
set_option maxHeartbeats 2000000 in
theorem b_X1_tuplesChosenBy_L6 {x : Cx} (o : Ok x cX1_tuplesChosenBy 6 RX1 0 0 0) {k n : Nat} (hk : k ≤ 0) (hn : n ≤ 0) (c0 : Int32) (c1 : Int32) (c2 : Int32) (c3 : Int32) (r : (Int32 × Int32) ⊕ (Int32)) (hX : ∀ s : Int32 × Int32, r = .inl s → G x 6 k n (w0 (cxT x)) [(4, .int s.1)] 47 []) (hR : ∀ t, r = .inr t → rt_X1_tuplesChosenBy x  t) : ∀ (m : Nat) (s : Int32 × Int32), loopN (f_X1_tuplesChosenBy_s6 c0 c1 c2 c3) m s = some r → G x 6 k n (w0 (cxT x)) [(0, .int c0), (1, .int c1), (2, .int c2), (3, .int c3), (4, .int s.1), (5, .int s.2)] 6 [] := by
  refine loop_W _ (fun (s : Int32 × Int32) => G x 6 k n (w0 (cxT x)) [(0, .int c0), (1, .int c1), (2, .int c2), (3, .int c3), (4, .int s.1), (5, .int s.2)] 6 []) r ?_
  intro s ww hf hw
  unfold f_X1_tuplesChosenBy_s6 at hf
  obtain ⟨s_0, s_1⟩ := s
  try dsimp -simprocs only at hf ⊢
  refine g_iload o 5 rfl dX1_tuplesChosenBy_6 ?_
  refine g_iload_n o 3 rfl rfl dX1_tuplesChosenBy_8 ?_
  refine g_ic_gt (tgt := 47) o rfl dX1_tuplesChosenBy_9 hf (fun hc hf => ?_) (fun hc hf => ?_)
  · exact g_perm [4] rfl (hX _ (lf_x hf hw))
  · refine g_iload_n o 0 rfl rfl dX1_tuplesChosenBy_12 ?_
    refine g_iload o 5 rfl dX1_tuplesChosenBy_13 ?_
    refine g_iushr o dX1_tuplesChosenBy_15 ?_
    refine g_iconst o ic_1 dX1_tuplesChosenBy_16 ?_
    refine g_iand o dX1_tuplesChosenBy_17 ?_
    refine g_if_eq (tgt := 41) o rfl dX1_tuplesChosenBy_18 hf (fun hc hf => ?_) (fun hc hf => ?_)
    · refine g_iinc o [(5, .int (s_1 + 1)), (0, .int c0), (1, .int c1), (2, .int c2), (3, .int c3), (4, .int s_0)] 5 rfl (inc_1 _) (Nat.le_of_ble_eq_true rfl) rfl dX1_tuplesChosenBy_41 ?_
      refine g_goto (tgt := 6) o rfl dX1_tuplesChosenBy_44 ?_
      have hp := lf_c hf hw
      exact g_perm [1, 2, 3, 4, 5, 0] rfl hp
    · refine g_iload o 4 rfl dX1_tuplesChosenBy_21 ?_
      refine g_iconst o ic_1 dX1_tuplesChosenBy_23 ?_
      refine g_iload_n o 1 rfl rfl dX1_tuplesChosenBy_24 ?_
      refine g_iload o 5 rfl dX1_tuplesChosenBy_25 ?_
      refine g_iconst o ic_m1 dX1_tuplesChosenBy_27 ?_
      refine g_ixor o dX1_tuplesChosenBy_28 ?_
      refine g_iand o dX1_tuplesChosenBy_29 ?_
      refine g_iload_n o 2 rfl rfl dX1_tuplesChosenBy_30 ?_
      refine g_iload o 5 rfl dX1_tuplesChosenBy_31 ?_
      refine g_iand o dX1_tuplesChosenBy_33 ?_
      refine g_ior o dX1_tuplesChosenBy_34 ?_
      refine g_iload_n o 3 rfl rfl dX1_tuplesChosenBy_35 ?_
      refine g_iand o dX1_tuplesChosenBy_36 ?_
      refine g_ishl o dX1_tuplesChosenBy_37 ?_
      refine g_ior o dX1_tuplesChosenBy_38 ?_
      refine g_nmi hf (fun x2 hf => ?_)
      refine g_istore o [(4, .int x2), (0, .int c0), (1, .int c1), (2, .int c2), (3, .int c3), (5, .int s_1)] (Nat.le_of_ble_eq_true rfl) rfl dX1_tuplesChosenBy_39 ?_
      refine g_iinc o [(5, .int (s_1 + 1)), (4, .int x2), (0, .int c0), (1, .int c1), (2, .int c2), (3, .int c3)] 5 rfl (inc_1 _) (Nat.le_of_ble_eq_true rfl) rfl dX1_tuplesChosenBy_41 ?_
      refine g_goto (tgt := 6) o rfl dX1_tuplesChosenBy_44 ?_
      have hp := lf_c hf hw
      exact g_perm [2, 3, 4, 5, 1, 0] rfl hp
set_option maxRecDepth 20000 in
set_option maxHeartbeats 2000000 in
theorem b_X1_tuplesChosenBy {x : Cx} (o : Ok x cX1_tuplesChosenBy 6 RX1 0 0 0) (p0 : Int32) (p1 : Int32) (p2 : Int32) (p3 : Int32) (t : Int32) (hf : f_X1_tuplesChosenBy p0 p1 p2 p3 = some t) (hret : rt_X1_tuplesChosenBy x  t) : G x 6 0 0 (w0 (cxT x)) [(0, .int p0), (1, .int p1), (2, .int p2), (3, .int p3)] 0 [] := by
  unfold f_X1_tuplesChosenBy at hf
  refine g_iconst o ic_0 dX1_tuplesChosenBy_0 ?_
  refine g_istore o [(4, .int 0), (0, .int p0), (1, .int p1), (2, .int p2), (3, .int p3)] (Nat.le_of_ble_eq_true rfl) rfl dX1_tuplesChosenBy_1 ?_
  refine g_iconst o ic_0 dX1_tuplesChosenBy_3 ?_
  refine g_istore o [(5, .int 0), (4, .int 0), (0, .int p0), (1, .int p1), (2, .int p2), (3, .int p3)] (Nat.le_of_ble_eq_true rfl) rfl dX1_tuplesChosenBy_4 ?_
  obtain ⟨r6, hr6, hxr6, hrr6⟩ := bl_some hf
  refine g_perm [2, 3, 4, 5, 1, 0] rfl (b_X1_tuplesChosenBy_L6 o (Nat.le_of_ble_eq_true rfl) (Nat.le_of_ble_eq_true rfl)  p0 p1 p2 p3 r6 (fun s6 hs => ?_) (fun t5 ht => ?_) FU (0, 0) hr6)
  · have hf := hxr6 s6 hs
    obtain ⟨s6_0, s6_1⟩ := s6
    try dsimp -simprocs only at hf ⊢
    refine g_iload o 0 rfl dX1_tuplesChosenBy_47 ?_
    cases Option.some.inj hf
    exact g_iret hret (Nat.le_of_ble_eq_true rfl) (Nat.le_of_ble_eq_true rfl) (vp_nar_int _) dX1_tuplesChosenBy_49
  · have hf := hrr6 t5 ht
    cases Option.some.inj hf
    exact hret
theorem c_X1_tuplesChosenBy (l : Launch) (hst : l.stackTraces = false) (p0 : Int32) (p1 : Int32) (p2 : Int32) (p3 : Int32) (t : Int32) (hf : f_X1_tuplesChosenBy p0 p1 p2 p3 = some t) : CoI l yX1_tuplesChosenBy (.code yX1_tuplesChosenBy cX1_tuplesChosenBy 6 (some .int)) 0 0 0 [.int p0, .int p1, .int p2, .int p3] w0 w0 (.inl t) := mkI hst (by decide +kernel) (Nat.le_of_ble_eq_true rfl) (fun x _ o hI hX => b_X1_tuplesChosenBy o p0 p1 p2 p3 t hf (hI _ rfl))
theorem k_X1_tuplesChosenBy_ {x : Cx} {cc : ByteArray} {nL : Nat} {own : String} {d mc ms k n : Nat} {lv : List (Nat × Value)} {pc i : Nat} {rest : List Value} {wd : va_W} {p0 : Int32} {p1 : Int32} {p2 : Int32} {p3 : Int32} (o : Ok x cc nL own d mc ms) {t : Int32} (ht : f_X1_tuplesChosenBy p0 p1 p2 p3 = some t) (hlk : Cond.methodLink own i yX1_tuplesChosenBy ∈ Ug) (hd : 0 < d) (hr : (rest.map fun v => v.category).sum ≤ 8) (hk : k + 0 ≤ mc ∧ n + 0 ≤ ms) (dg : decode cc pc = .ok (.invokestatic i, 3)) (kk : G x nL (k + 0) (n + 0) wd lv (pc + 3) (.int t :: rest)) : G x nL k n wd lv pc (.int p3 :: .int p2 :: .int p1 :: .int p0 :: rest) := gcI (wd2 := wd) o (c_X1_tuplesChosenBy (cxl x) o.2.2.2.2.2.2.2.2.2.1 p0 p1 p2 p3 t ht) (can_S o hd (Nat.le_of_ble_eq_true rfl) m_507 m_54 m_506 hlk yk_X1_tuplesChosenBy rfl hr hk dg) sp_none (fun E h => by cases h) (fun r h => by cases h; exact kk)
def rt_X1_escapingTuples (x : Cx) (t : Int32) : Prop := RetI x cX1_escapingTuples .int 0 0 (w0 (cxT x)) t
set_option maxRecDepth 20000 in
set_option maxHeartbeats 2000000 in
theorem b_X1_escapingTuples_L65 {x : Cx} (o : Ok x cX1_escapingTuples 12 RX1 1 0 0) {k n : Nat} (hk : k ≤ 0) (hn : n ≤ 0) (c0 : Int32) (c3 : Int32) (c4 : Int32) (c5 : Int32) (c6 : Int32) (c7 : Int32) (r : (Int32) ⊕ (Int32)) (hX : ∀ s : Int32, r = .inl s → G x 12 k n (w0 (cxT x)) [(0, .int c0), (3, .int c3), (4, .int c4), (5, .int c5), (6, .int c6), (7, .int c7)] 138 []) (hR : ∀ t, r = .inr t → rt_X1_escapingTuples x  t) : ∀ (m : Nat) (s : Int32), loopN (f_X1_escapingTuples_s65 c0 c3 c4 c5 c6 c7) m s = some r → G x 12 k n (w0 (cxT x)) [(0, .int c0), (3, .int c3), (4, .int c4), (5, .int c5), (6, .int c6), (7, .int c7), (8, .int s)] 65 [] := by
  refine loop_W _ (fun (s : Int32) => G x 12 k n (w0 (cxT x)) [(0, .int c0), (3, .int c3), (4, .int c4), (5, .int c5), (6, .int c6), (7, .int c7), (8, .int s)] 65 []) r ?_
  intro s ww hf hw
  unfold f_X1_escapingTuples_s65 at hf
  refine g_iload o 6 rfl dX1_escapingTuples_65 ?_
  refine g_iload o 2 rfl dX1_escapingTuples_67 ?_
  refine g_ic_gt (tgt := 138) o rfl dX1_escapingTuples_69 hf (fun hc hf => ?_) (fun hc hf => ?_)
  · exact g_perm [0, 1, 2, 3, 4, 5] rfl (hX _ (lf_x hf hw))
  · refine g_iload o 3 rfl dX1_escapingTuples_72 ?_
    refine g_iload o 6 rfl dX1_escapingTuples_74 ?_
    obtain ⟨r9, hr9, hf⟩ := bd_some hf
    refine k_X1_has_ o hr9 m_394 (Nat.le_of_ble_eq_true rfl) (Nat.le_of_ble_eq_true rfl) ⟨hk, hn⟩ dX1_escapingTuples_76 ?_
    refine g_if_ne (tgt := 85) o rfl dX1_escapingTuples_79 hf (fun hc hf => ?_) (fun hc hf => ?_)
    · refine g_iload_n o 1 rfl rfl dX1_escapingTuples_85 ?_
      refine g_iload o 5 rfl dX1_escapingTuples_86 ?_
      refine g_iload o 6 rfl dX1_escapingTuples_88 ?_
      obtain ⟨r10, hr10, hf⟩ := bd_some hf
      refine k_X1_appliedToTwo_ o hr10 m_502 (Nat.le_of_ble_eq_true rfl) (Nat.le_of_ble_eq_true rfl) ⟨hk, hn⟩ dX1_escapingTuples_90 ?_
      refine g_istore o [(9, .int r10), (0, .int c0), (3, .int c3), (4, .int c4), (5, .int c5), (6, .int c6), (7, .int c7), (8, .int s)] (Nat.le_of_ble_eq_true rfl) rfl dX1_escapingTuples_93 ?_
      refine g_iload_n o 2 rfl rfl dX1_escapingTuples_95 ?_
      refine g_iconst o ic_4 dX1_escapingTuples_96 ?_
      refine g_iushr o dX1_escapingTuples_97 ?_
      refine g_iload o 6 rfl dX1_escapingTuples_98 ?_
      refine g_iload o 7 rfl dX1_escapingTuples_100 ?_
      obtain ⟨r11, hr11, hf⟩ := bd_some hf
      refine k_X1_appliedToTwo_ o hr11 m_502 (Nat.le_of_ble_eq_true rfl) (Nat.le_of_ble_eq_true rfl) ⟨hk, hn⟩ dX1_escapingTuples_102 ?_
      refine g_istore o [(10, .int r11), (9, .int r10), (0, .int c0), (3, .int c3), (4, .int c4), (5, .int c5), (6, .int c6), (7, .int c7), (8, .int s)] (Nat.le_of_ble_eq_true rfl) rfl dX1_escapingTuples_105 ?_
      refine g_iload o 6 rfl dX1_escapingTuples_107 ?_
      refine g_iload o 1 rfl dX1_escapingTuples_109 ?_
      refine g_iload o 0 rfl dX1_escapingTuples_111 ?_
      refine g_iload o 4 rfl dX1_escapingTuples_113 ?_
      obtain ⟨r12, hr12, hf⟩ := bd_some hf
      refine k_X1_tuplesChosenBy_ o hr12 m_505 (Nat.le_of_ble_eq_true rfl) (Nat.le_of_ble_eq_true rfl) ⟨hk, hn⟩ dX1_escapingTuples_115 ?_
      refine g_iload_n o 2 rfl rfl dX1_escapingTuples_118 ?_
      refine g_iconst o ic_m1 dX1_escapingTuples_119 ?_
      refine g_ixor o dX1_escapingTuples_120 ?_
      refine g_iand o dX1_escapingTuples_121 ?_
      refine g_nmi hf (fun x13 hf => ?_)
      refine g_istore o [(11, .int x13), (10, .int r11), (9, .int r10), (0, .int c0), (3, .int c3), (4, .int c4), (5, .int c5), (6, .int c6), (7, .int c7), (8, .int s)] (Nat.le_of_ble_eq_true rfl) rfl dX1_escapingTuples_122 ?_
      refine g_iload o 0 rfl dX1_escapingTuples_124 ?_
      refine g_if_eq (tgt := 132) o rfl dX1_escapingTuples_126 hf (fun hc hf => ?_) (fun hc hf => ?_)
      · refine g_iinc o [(8, .int (s + 1)), (11, .int x13), (10, .int r11), (9, .int r10), (0, .int c0), (3, .int c3), (4, .int c4), (5, .int c5), (6, .int c6), (7, .int c7)] 9 rfl (inc_1 _) (Nat.le_of_ble_eq_true rfl) rfl dX1_escapingTuples_132 ?_
        refine g_goto (tgt := 65) o rfl dX1_escapingTuples_135 ?_
        have hp := lf_c hf hw
        exact g_perm [4, 5, 6, 7, 8, 9, 0] rfl hp
      · refine g_iload o 0 rfl dX1_escapingTuples_129 ?_
        exact g_iret (hR _ (lf_x hf hw)) hk hn (vp_nar_int _) dX1_escapingTuples_131
    · refine g_goto (tgt := 132) o rfl dX1_escapingTuples_82 ?_
      refine g_iinc o [(8, .int (s + 1)), (0, .int c0), (3, .int c3), (4, .int c4), (5, .int c5), (6, .int c6), (7, .int c7)] 6 rfl (inc_1 _) (Nat.le_of_ble_eq_true rfl) rfl dX1_escapingTuples_132 ?_
      refine g_goto (tgt := 65) o rfl dX1_escapingTuples_135 ?_
      have hp := lf_c hf hw
      exact g_perm [1, 2, 3, 4, 5, 6, 0] rfl hp
set_option maxRecDepth 20000 in
set_option maxHeartbeats 2000000 in
theorem b_X1_escapingTuples_L43 {x : Cx} (o : Ok x cX1_escapingTuples 12 RX1 1 0 0) {k n : Nat} (hk : k ≤ 0) (hn : n ≤ 0) (c0 : Int32) (c3 : Int32) (c4 : Int32) (c5 : Int32) (c6 : Int32) (r : (Int32) ⊕ (Int32)) (hX : ∀ s : Int32, r = .inl s → G x 12 k n (w0 (cxT x)) [] 144 []) (hR : ∀ t, r = .inr t → rt_X1_escapingTuples x  t) : ∀ (m : Nat) (s : Int32), loopN (f_X1_escapingTuples_s43 c0 c3 c4 c5 c6) m s = some r → G x 12 k n (w0 (cxT x)) [(0, .int c0), (3, .int c3), (4, .int c4), (5, .int c5), (6, .int c6), (7, .int s)] 43 [] := by
  refine loop_W _ (fun (s : Int32) => G x 12 k n (w0 (cxT x)) [(0, .int c0), (3, .int c3), (4, .int c4), (5, .int c5), (6, .int c6), (7, .int s)] 43 []) r ?_
  intro s ww hf hw
  unfold f_X1_escapingTuples_s43 at hf
  refine g_iload o 5 rfl dX1_escapingTuples_43 ?_
  refine g_iload o 2 rfl dX1_escapingTuples_45 ?_
  refine g_ic_gt (tgt := 144) o rfl dX1_escapingTuples_47 hf (fun hc hf => ?_) (fun hc hf => ?_)
  · exact g_perm [] rfl (hX _ (lf_x hf hw))
  · refine g_iload_n o 0 rfl rfl dX1_escapingTuples_50 ?_
    refine g_iload o 5 rfl dX1_escapingTuples_51 ?_
    obtain ⟨r17, hr17, hf⟩ := bd_some hf
    refine k_X1_has_ o hr17 m_394 (Nat.le_of_ble_eq_true rfl) (Nat.le_of_ble_eq_true rfl) ⟨hk, hn⟩ dX1_escapingTuples_53 ?_
    refine g_if_ne (tgt := 62) o rfl dX1_escapingTuples_56 hf (fun hc hf => ?_) (fun hc hf => ?_)
    · refine g_iconst o ic_0 dX1_escapingTuples_62 ?_
      refine g_istore o [(8, .int 0), (0, .int c0), (3, .int c3), (4, .int c4), (5, .int c5), (6, .int c6), (7, .int s)] (Nat.le_of_ble_eq_true rfl) rfl dX1_escapingTuples_63 ?_
      obtain ⟨r20, hr20, hxr20, hrr20⟩ := bl_some hf
      refine g_perm [1, 2, 3, 4, 5, 6, 0] rfl (b_X1_escapingTuples_L65 o hk hn  c0 c3 c4 c5 c6 s r20 (fun s65_18 hs => ?_) (fun t19 ht => ?_) FU 0 hr20)
      · have hf := hxr20 s65_18 hs
        refine g_iinc o [(7, .int (s + 1)), (0, .int c0), (3, .int c3), (4, .int c4), (5, .int c5), (6, .int c6)] 5 rfl (inc_1 _) (Nat.le_of_ble_eq_true rfl) rfl dX1_escapingTuples_138 ?_
        refine g_goto (tgt := 43) o rfl dX1_escapingTuples_141 ?_
        have hp := lf_c hf hw
        exact g_perm [1, 2, 3, 4, 5, 0] rfl hp
      · have hf := hrr20 t19 ht
        exact hR t19 (lf_x hf hw)
    · refine g_goto (tgt := 138) o rfl dX1_escapingTuples_59 ?_
      refine g_iinc o [(7, .int (s + 1)), (0, .int c0), (3, .int c3), (4, .int c4), (5, .int c5), (6, .int c6)] 5 rfl (inc_1 _) (Nat.le_of_ble_eq_true rfl) rfl dX1_escapingTuples_138 ?_
      refine g_goto (tgt := 43) o rfl dX1_escapingTuples_141 ?_
      have hp := lf_c hf hw
      exact g_perm [1, 2, 3, 4, 5, 0] rfl hp
set_option maxRecDepth 20000 in
set_option maxHeartbeats 2000000 in
theorem b_X1_escapingTuples {x : Cx} (o : Ok x cX1_escapingTuples 12 RX1 1 0 0) (p0 : Int32) (p1 : Int32) (p2 : Int32) (p3 : Int32) (t : Int32) (hf : f_X1_escapingTuples p0 p1 p2 p3 = some t) (hret : rt_X1_escapingTuples x  t) : G x 12 0 0 (w0 (cxT x)) [(0, .int p0), (1, .int p1), (2, .int p2), (3, .int p3)] 0 [] := by
  unfold f_X1_escapingTuples at hf
  refine g_iload_n o 0 rfl rfl dX1_escapingTuples_0 ?_
  refine g_iload_n o 1 rfl rfl dX1_escapingTuples_1 ?_
  obtain ⟨r29, hr29, hf⟩ := bd_some hf
  refine k_X1_allTuples_ o hr29 m_346 (Nat.le_of_ble_eq_true rfl) (Nat.le_of_ble_eq_true rfl) ⟨(Nat.le_of_ble_eq_true rfl), (Nat.le_of_ble_eq_true rfl)⟩ dX1_escapingTuples_2 ?_
  refine g_ic_ne (tgt := 10) o rfl dX1_escapingTuples_5 hf (fun hc hf => ?_) (fun hc hf => ?_)
  · refine g_iload_n o 1 rfl rfl dX1_escapingTuples_10 ?_
    obtain ⟨r30, hr30, hf⟩ := bd_some hf
    refine k_X1_greatestTuple_ o hr30 m_342 (Nat.le_of_ble_eq_true rfl) (Nat.le_of_ble_eq_true rfl) ⟨(Nat.le_of_ble_eq_true rfl), (Nat.le_of_ble_eq_true rfl)⟩ dX1_escapingTuples_11 ?_
    refine g_istore o [(4, .int r30), (0, .int p0), (1, .int p1), (2, .int p2), (3, .int p3)] (Nat.le_of_ble_eq_true rfl) rfl dX1_escapingTuples_14 ?_
    refine g_iload_n o 3 rfl rfl dX1_escapingTuples_16 ?_
    refine g_iconst o ic_2 dX1_escapingTuples_17 ?_
    refine g_ic_lt (tgt := 25) o rfl dX1_escapingTuples_18 hf (fun hc hf => ?_) (fun hc hf => ?_)
    · refine g_iconst o ic_1 dX1_escapingTuples_25 ?_
      refine g_istore o [(5, .int 1), (4, .int r30), (0, .int p0), (1, .int p1), (2, .int p2), (3, .int p3)] (Nat.le_of_ble_eq_true rfl) rfl dX1_escapingTuples_26 ?_
      refine g_iload_n o 4 rfl rfl dX1_escapingTuples_28 ?_
      refine g_iconst o ic_3 dX1_escapingTuples_29 ?_
      refine g_ic_lt (tgt := 37) o rfl dX1_escapingTuples_30 hf (fun hc hf => ?_) (fun hc hf => ?_)
      · refine g_iconst o ic_1 dX1_escapingTuples_37 ?_
        refine g_istore o [(6, .int 1), (5, .int 1), (4, .int r30), (0, .int p0), (1, .int p1), (2, .int p2), (3, .int p3)] (Nat.le_of_ble_eq_true rfl) rfl dX1_escapingTuples_38 ?_
        refine g_iconst o ic_0 dX1_escapingTuples_40 ?_
        refine g_istore o [(7, .int 0), (6, .int 1), (5, .int 1), (4, .int r30), (0, .int p0), (1, .int p1), (2, .int p2), (3, .int p3)] (Nat.le_of_ble_eq_true rfl) rfl dX1_escapingTuples_41 ?_
        obtain ⟨r32, hr32, hxr32, hrr32⟩ := bl_some hf
        refine g_perm [4, 7, 3, 2, 1, 0] rfl (b_X1_escapingTuples_L43 o (Nat.le_of_ble_eq_true rfl) (Nat.le_of_ble_eq_true rfl)  p0 p3 r30 1 1 r32 (fun s43 hs => ?_) (fun t31 ht => ?_) FU 0 hr32)
        · have hf := hxr32 s43 hs
          refine g_iconst o ic_0 dX1_escapingTuples_144 ?_
          cases Option.some.inj hf
          exact g_iret hret (Nat.le_of_ble_eq_true rfl) (Nat.le_of_ble_eq_true rfl) (vp_nar_int _) dX1_escapingTuples_145
        · have hf := hrr32 t31 ht
          cases Option.some.inj hf
          exact hret
      · refine g_iload_n o 2 rfl rfl dX1_escapingTuples_33 ?_
        refine g_goto (tgt := 38) o rfl dX1_escapingTuples_34 ?_
        refine g_istore o [(6, .int p0), (5, .int 1), (4, .int r30), (0, .int p0), (1, .int p1), (2, .int p2), (3, .int p3)] (Nat.le_of_ble_eq_true rfl) rfl dX1_escapingTuples_38 ?_
        refine g_iconst o ic_0 dX1_escapingTuples_40 ?_
        refine g_istore o [(7, .int 0), (6, .int p0), (5, .int 1), (4, .int r30), (0, .int p0), (1, .int p1), (2, .int p2), (3, .int p3)] (Nat.le_of_ble_eq_true rfl) rfl dX1_escapingTuples_41 ?_
        obtain ⟨r34, hr34, hxr34, hrr34⟩ := bl_some hf
        refine g_perm [4, 7, 3, 2, 1, 0] rfl (b_X1_escapingTuples_L43 o (Nat.le_of_ble_eq_true rfl) (Nat.le_of_ble_eq_true rfl)  p0 p3 r30 1 p0 r34 (fun s43 hs => ?_) (fun t33 ht => ?_) FU 0 hr34)
        · have hf := hxr34 s43 hs
          refine g_iconst o ic_0 dX1_escapingTuples_144 ?_
          cases Option.some.inj hf
          exact g_iret hret (Nat.le_of_ble_eq_true rfl) (Nat.le_of_ble_eq_true rfl) (vp_nar_int _) dX1_escapingTuples_145
        · have hf := hrr34 t33 ht
          cases Option.some.inj hf
          exact hret
    · refine g_iload_n o 1 rfl rfl dX1_escapingTuples_21 ?_
      refine g_goto (tgt := 26) o rfl dX1_escapingTuples_22 ?_
      refine g_istore o [(5, .int p0), (4, .int r30), (0, .int p0), (1, .int p1), (2, .int p2), (3, .int p3)] (Nat.le_of_ble_eq_true rfl) rfl dX1_escapingTuples_26 ?_
      refine g_iload_n o 4 rfl rfl dX1_escapingTuples_28 ?_
      refine g_iconst o ic_3 dX1_escapingTuples_29 ?_
      refine g_ic_lt (tgt := 37) o rfl dX1_escapingTuples_30 hf (fun hc hf => ?_) (fun hc hf => ?_)
      · refine g_iconst o ic_1 dX1_escapingTuples_37 ?_
        refine g_istore o [(6, .int 1), (5, .int p0), (4, .int r30), (0, .int p0), (1, .int p1), (2, .int p2), (3, .int p3)] (Nat.le_of_ble_eq_true rfl) rfl dX1_escapingTuples_38 ?_
        refine g_iconst o ic_0 dX1_escapingTuples_40 ?_
        refine g_istore o [(7, .int 0), (6, .int 1), (5, .int p0), (4, .int r30), (0, .int p0), (1, .int p1), (2, .int p2), (3, .int p3)] (Nat.le_of_ble_eq_true rfl) rfl dX1_escapingTuples_41 ?_
        obtain ⟨r36, hr36, hxr36, hrr36⟩ := bl_some hf
        refine g_perm [4, 7, 3, 2, 1, 0] rfl (b_X1_escapingTuples_L43 o (Nat.le_of_ble_eq_true rfl) (Nat.le_of_ble_eq_true rfl)  p0 p3 r30 p0 1 r36 (fun s43 hs => ?_) (fun t35 ht => ?_) FU 0 hr36)
        · have hf := hxr36 s43 hs
          refine g_iconst o ic_0 dX1_escapingTuples_144 ?_
          cases Option.some.inj hf
          exact g_iret hret (Nat.le_of_ble_eq_true rfl) (Nat.le_of_ble_eq_true rfl) (vp_nar_int _) dX1_escapingTuples_145
        · have hf := hrr36 t35 ht
          cases Option.some.inj hf
          exact hret
      · refine g_iload_n o 2 rfl rfl dX1_escapingTuples_33 ?_
        refine g_goto (tgt := 38) o rfl dX1_escapingTuples_34 ?_
        refine g_istore o [(6, .int p0), (5, .int p0), (4, .int r30), (0, .int p0), (1, .int p1), (2, .int p2), (3, .int p3)] (Nat.le_of_ble_eq_true rfl) rfl dX1_escapingTuples_38 ?_
        refine g_iconst o ic_0 dX1_escapingTuples_40 ?_
        refine g_istore o [(7, .int 0), (6, .int p0), (5, .int p0), (4, .int r30), (0, .int p0), (1, .int p1), (2, .int p2), (3, .int p3)] (Nat.le_of_ble_eq_true rfl) rfl dX1_escapingTuples_41 ?_
        obtain ⟨r38, hr38, hxr38, hrr38⟩ := bl_some hf
        refine g_perm [4, 7, 3, 2, 1, 0] rfl (b_X1_escapingTuples_L43 o (Nat.le_of_ble_eq_true rfl) (Nat.le_of_ble_eq_true rfl)  p0 p3 r30 p0 p0 r38 (fun s43 hs => ?_) (fun t37 ht => ?_) FU 0 hr38)
        · have hf := hxr38 s43 hs
          refine g_iconst o ic_0 dX1_escapingTuples_144 ?_
          cases Option.some.inj hf
          exact g_iret hret (Nat.le_of_ble_eq_true rfl) (Nat.le_of_ble_eq_true rfl) (vp_nar_int _) dX1_escapingTuples_145
        · have hf := hrr38 t37 ht
          cases Option.some.inj hf
          exact hret
  · refine g_iconst o ic_0 dX1_escapingTuples_8 ?_
    cases Option.some.inj hf
    exact g_iret hret (Nat.le_of_ble_eq_true rfl) (Nat.le_of_ble_eq_true rfl) (vp_nar_int _) dX1_escapingTuples_9
theorem c_X1_escapingTuples (l : Launch) (hst : l.stackTraces = false) (p0 : Int32) (p1 : Int32) (p2 : Int32) (p3 : Int32) (t : Int32) (hf : f_X1_escapingTuples p0 p1 p2 p3 = some t) : CoI l yX1_escapingTuples (.code yX1_escapingTuples cX1_escapingTuples 12 (some .int)) 1 0 0 [.int p0, .int p1, .int p2, .int p3] w0 w0 (.inl t) := mkI hst (by decide +kernel) (Nat.le_of_ble_eq_true rfl) (fun x _ o hI hX => b_X1_escapingTuples o p0 p1 p2 p3 t hf (hI _ rfl))
theorem k_X1_escapingTuples_ {x : Cx} {cc : ByteArray} {nL : Nat} {own : String} {d mc ms k n : Nat} {lv : List (Nat × Value)} {pc i : Nat} {rest : List Value} {wd : va_W} {p0 : Int32} {p1 : Int32} {p2 : Int32} {p3 : Int32} (o : Ok x cc nL own d mc ms) {t : Int32} (ht : f_X1_escapingTuples p0 p1 p2 p3 = some t) (hlk : Cond.methodLink own i yX1_escapingTuples ∈ Ug) (hd : 1 < d) (hr : (rest.map fun v => v.category).sum ≤ 8) (hk : k + 0 ≤ mc ∧ n + 0 ≤ ms) (dg : decode cc pc = .ok (.invokestatic i, 3)) (kk : G x nL (k + 0) (n + 0) wd lv (pc + 3) (.int t :: rest)) : G x nL k n wd lv pc (.int p3 :: .int p2 :: .int p1 :: .int p0 :: rest) := gcI (wd2 := wd) o (c_X1_escapingTuples (cxl x) o.2.2.2.2.2.2.2.2.2.1 p0 p1 p2 p3 t ht) (can_S o hd (Nat.le_of_ble_eq_true rfl) m_501 m_54 m_500 hlk yk_X1_escapingTuples rfl hr hk dg) sp_none (fun E h => by cases h) (fun r h => by cases h; exact kk)
def rt_X0_wordCount (x : Cx) (b : Nat → Nat) (v : St) (t : Int32) : Prop := RetI x cX0_wordCount .int 0 0 (wI b v (cxT x)) t
set_option maxRecDepth 20000 in
set_option maxHeartbeats 2000000 in
theorem b_X0_wordCount {x : Cx} (o : Ok x cX0_wordCount 1 RX0 0 0 0) (b : Nat → Nat) (v : St) (t : Int32) (hf : f_X0_wordCount v = some t) (hret : rt_X0_wordCount x b v t) : G x 1 0 0 (wI b v (cxT x)) [(0, .ref (b 0))] 0 [] := by
  unfold f_X0_wordCount at hf
  refine g_aload_n o 0 rfl rfl dX0_wordCount_0 ?_
  refine I_get3 o m_88 dX0_wordCount_1 ?_
  refine g_bipush o bp_6 dX0_wordCount_4 ?_
  refine g_ic_gt (tgt := 13) o rfl dX0_wordCount_6 hf (fun hc hf => ?_) (fun hc hf => ?_)
  · refine g_iconst o ic_1 dX0_wordCount_13 ?_
    refine g_aload_n o 0 rfl rfl dX0_wordCount_14 ?_
    refine I_get3 o m_88 dX0_wordCount_15 ?_
    refine g_bipush o bp_6 dX0_wordCount_18 ?_
    refine g_isub o dX0_wordCount_20 ?_
    refine g_ishl o dX0_wordCount_21 ?_
    cases Option.some.inj hf
    exact g_iret hret (Nat.le_of_ble_eq_true rfl) (Nat.le_of_ble_eq_true rfl) (vp_nar_int _) dX0_wordCount_22
  · refine g_iconst o ic_1 dX0_wordCount_9 ?_
    refine g_goto (tgt := 22) o rfl dX0_wordCount_10 ?_
    cases Option.some.inj hf
    exact g_iret hret (Nat.le_of_ble_eq_true rfl) (Nat.le_of_ble_eq_true rfl) (vp_nar_int _) dX0_wordCount_22
theorem c_X0_wordCount (l : Launch) (hst : l.stackTraces = false) (b : Nat → Nat) (v : St) (t : Int32) (hf : f_X0_wordCount v = some t) : CoI l yX0_wordCount (.code yX0_wordCount cX0_wordCount 1 (some .int)) 0 0 0 [.ref (b 0)] (wI b v) (wI b v) (.inl t) := mkI hst (by decide +kernel) (Nat.le_of_ble_eq_true rfl) (fun x _ o hI hX => b_X0_wordCount o b v t hf (hI _ rfl))
theorem k_X0_wordCount_ {x : Cx} {cc : ByteArray} {nL : Nat} {own : String} {d mc ms k n : Nat} {lv : List (Nat × Value)} {pc i : Nat} {rest : List Value} {b : Nat → Nat} {v : St} (o : Ok x cc nL own d mc ms) {t : Int32} (ht : f_X0_wordCount v = some t) (hlk : Cond.methodLink own i yX0_wordCount ∈ Ug) (hd : 0 < d) (hr : (rest.map fun v => v.category).sum ≤ 8) (hk : k + 0 ≤ mc ∧ n + 0 ≤ ms) (dg : decode cc pc = .ok (.invokevirtual i, 3)) (kk : G x nL (k + 0) (n + 0) (wI b v (cxT x)) lv (pc + 3) (.int t :: rest)) : G x nL k n (wI b v (cxT x)) lv pc (.ref (b 0) :: rest) := gcI (wd2 := (wI b v (cxT x))) o (c_X0_wordCount (cxl x) o.2.2.2.2.2.2.2.2.2.1 b v t ht) (can_V (q0 := 0) o rfl rfl hd (Nat.le_of_ble_eq_true rfl) m_163 m_55 m_162 m_1 hlk yk_X0_wordCount rfl hr hk dg) sp_I (fun E h => by cases h) (fun r h => by cases h; exact kk)
def rt_X0_assignmentsOfAWord (x : Cx) (b : Nat → Nat) (v : St) (t : Int64) : Prop := RetL x cX0_assignmentsOfAWord 0 0 (wI b v (cxT x)) t
set_option maxRecDepth 20000 in
set_option maxHeartbeats 2000000 in
theorem b_X0_assignmentsOfAWord {x : Cx} (o : Ok x cX0_assignmentsOfAWord 1 RX0 0 0 0) (b : Nat → Nat) (v : St) (t : Int64) (hf : f_X0_assignmentsOfAWord v = some t) (hret : rt_X0_assignmentsOfAWord x b v t) : G x 1 0 0 (wI b v (cxT x)) [(0, .ref (b 0))] 0 [] := by
  unfold f_X0_assignmentsOfAWord at hf
  refine g_aload_n o 0 rfl rfl dX0_assignmentsOfAWord_0 ?_
  refine I_get3 o m_88 dX0_assignmentsOfAWord_1 ?_
  refine g_bipush o bp_6 dX0_assignmentsOfAWord_4 ?_
  refine g_ic_lt (tgt := 15) o rfl dX0_assignmentsOfAWord_6 hf (fun hc hf => ?_) (fun hc hf => ?_)
  · refine g_lconst o lc_1 dX0_assignmentsOfAWord_15 ?_
    refine g_iconst o ic_1 dX0_assignmentsOfAWord_16 ?_
    refine g_aload_n o 0 rfl rfl dX0_assignmentsOfAWord_17 ?_
    refine I_get3 o m_88 dX0_assignmentsOfAWord_18 ?_
    refine g_ishl o dX0_assignmentsOfAWord_21 ?_
    refine g_lshl o dX0_assignmentsOfAWord_22 ?_
    refine g_lconst o lc_1 dX0_assignmentsOfAWord_23 ?_
    refine g_lsub o dX0_assignmentsOfAWord_24 ?_
    cases Option.some.inj hf
    exact g_lret hret (Nat.le_of_ble_eq_true rfl) (Nat.le_of_ble_eq_true rfl) dX0_assignmentsOfAWord_25
  · refine g_ldc2 o m_172 dX0_assignmentsOfAWord_9 ?_
    refine g_goto (tgt := 25) o rfl dX0_assignmentsOfAWord_12 ?_
    cases Option.some.inj hf
    exact g_lret hret (Nat.le_of_ble_eq_true rfl) (Nat.le_of_ble_eq_true rfl) dX0_assignmentsOfAWord_25
theorem c_X0_assignmentsOfAWord (l : Launch) (hst : l.stackTraces = false) (b : Nat → Nat) (v : St) (t : Int64) (hf : f_X0_assignmentsOfAWord v = some t) : CoL l yX0_assignmentsOfAWord (.code yX0_assignmentsOfAWord cX0_assignmentsOfAWord 1 (some .long)) 0 0 0 [.ref (b 0)] (wI b v) (wI b v) (.inl t) := mkL hst (by decide +kernel) (Nat.le_of_ble_eq_true rfl) (fun x _ o hI hX => b_X0_assignmentsOfAWord o b v t hf (hI _ rfl))
theorem k_X0_assignmentsOfAWord_ {x : Cx} {cc : ByteArray} {nL : Nat} {own : String} {d mc ms k n : Nat} {lv : List (Nat × Value)} {pc i : Nat} {rest : List Value} {b : Nat → Nat} {v : St} (o : Ok x cc nL own d mc ms) {t : Int64} (ht : f_X0_assignmentsOfAWord v = some t) (hlk : Cond.methodLink own i yX0_assignmentsOfAWord ∈ Ug) (hd : 0 < d) (hr : (rest.map fun v => v.category).sum ≤ 8) (hk : k + 0 ≤ mc ∧ n + 0 ≤ ms) (dg : decode cc pc = .ok (.invokevirtual i, 3)) (kk : G x nL (k + 0) (n + 0) (wI b v (cxT x)) lv (pc + 3) (.long t :: rest)) : G x nL k n (wI b v (cxT x)) lv pc (.ref (b 0) :: rest) := gcL (wd2 := (wI b v (cxT x))) o (c_X0_assignmentsOfAWord (cxl x) o.2.2.2.2.2.2.2.2.2.1 b v t ht) (can_V (q0 := 0) o rfl rfl hd (Nat.le_of_ble_eq_true rfl) m_171 m_55 m_170 m_3 hlk yk_X0_assignmentsOfAWord rfl hr hk dg) sp_I (fun E h => by cases h) (fun r h => by cases h; exact kk)
def rt_X0_variableAt (x : Cx) (t : Int32) : Prop := RetI x cX0_variableAt .int 0 0 (w0 (cxT x)) t
set_option maxRecDepth 20000 in
set_option maxHeartbeats 2000000 in
theorem b_X0_variableAt {x : Cx} (o : Ok x cX0_variableAt 2 RX0 0 0 0) (p0 : Int32) (p1 : Int32) (t : Int32) (hf : f_X0_variableAt p0 p1 = some t) (hret : rt_X0_variableAt x  t) : G x 2 0 0 (w0 (cxT x)) [(0, .int p0), (1, .int p1)] 0 [] := by
  unfold f_X0_variableAt at hf
  refine g_iload_n o 0 rfl rfl dX0_variableAt_0 ?_
  refine g_iconst o ic_4 dX0_variableAt_1 ?_
  refine g_iload_n o 1 rfl rfl dX0_variableAt_2 ?_
  refine g_imul o dX0_variableAt_3 ?_
  refine g_iushr o dX0_variableAt_4 ?_
  refine g_bipush o bp_15 dX0_variableAt_5 ?_
  refine g_iand o dX0_variableAt_7 ?_
  cases Option.some.inj hf
  exact g_iret hret (Nat.le_of_ble_eq_true rfl) (Nat.le_of_ble_eq_true rfl) (vp_nar_int _) dX0_variableAt_8
theorem c_X0_variableAt (l : Launch) (hst : l.stackTraces = false) (p0 : Int32) (p1 : Int32) (t : Int32) (hf : f_X0_variableAt p0 p1 = some t) : CoI l yX0_variableAt (.code yX0_variableAt cX0_variableAt 2 (some .int)) 0 0 0 [.int p0, .int p1] w0 w0 (.inl t) := mkI hst (by decide +kernel) (Nat.le_of_ble_eq_true rfl) (fun x _ o hI hX => b_X0_variableAt o p0 p1 t hf (hI _ rfl))
theorem k_X0_variableAt_ {x : Cx} {cc : ByteArray} {nL : Nat} {own : String} {d mc ms k n : Nat} {lv : List (Nat × Value)} {pc i : Nat} {rest : List Value} {wd : va_W} {p0 : Int32} {p1 : Int32} (o : Ok x cc nL own d mc ms) {t : Int32} (ht : f_X0_variableAt p0 p1 = some t) (hlk : Cond.methodLink own i yX0_variableAt ∈ Ug) (hd : 0 < d) (hr : (rest.map fun v => v.category).sum ≤ 8) (hk : k + 0 ≤ mc ∧ n + 0 ≤ ms) (dg : decode cc pc = .ok (.invokestatic i, 3)) (kk : G x nL (k + 0) (n + 0) wd lv (pc + 3) (.int t :: rest)) : G x nL k n wd lv pc (.int p1 :: .int p0 :: rest) := gcI (wd2 := wd) o (c_X0_variableAt (cxl x) o.2.2.2.2.2.2.2.2.2.1 p0 p1 t ht) (can_S o hd (Nat.le_of_ble_eq_true rfl) m_188 m_55 m_187 hlk yk_X0_variableAt rfl hr hk dg) sp_none (fun E h => by cases h) (fun r h => by cases h; exact kk)
def rt_X0_assignmentsWithOne (x : Cx) (t : Int64) : Prop := RetL x cX0_assignmentsWithOne 0 0 (w0 (cxT x)) t
set_option maxRecDepth 20000 in
set_option maxHeartbeats 2000000 in
theorem b_X0_assignmentsWithOne {x : Cx} (o : Ok x cX0_assignmentsWithOne 2 RX0 1 0 0) (p0 : Int32) (p1 : Int32) (t : Int64) (hf : f_X0_assignmentsWithOne p0 p1 = some t) (hret : rt_X0_assignmentsWithOne x  t) : G x 2 0 0 (w0 (cxT x)) [(0, .int p0), (1, .int p1)] 0 [] := by
  unfold f_X0_assignmentsWithOne at hf
  refine g_iload_n o 0 rfl rfl dX0_assignmentsWithOne_0 ?_
  refine g_bipush o bp_6 dX0_assignmentsWithOne_1 ?_
  refine g_ic_ge (tgt := 12) o rfl dX0_assignmentsWithOne_3 hf (fun hc hf => ?_) (fun hc hf => ?_)
  · refine g_iload_n o 1 rfl rfl dX0_assignmentsWithOne_12 ?_
    refine g_iload_n o 0 rfl rfl dX0_assignmentsWithOne_13 ?_
    refine g_bipush o bp_6 dX0_assignmentsWithOne_14 ?_
    refine g_isub o dX0_assignmentsWithOne_16 ?_
    obtain ⟨r3, hr3, hf⟩ := bd_some hf
    refine k_X1_has_N o hr3 e_173 (Nat.le_of_ble_eq_true rfl) (Nat.le_of_ble_eq_true rfl) ⟨(Nat.le_of_ble_eq_true rfl), (Nat.le_of_ble_eq_true rfl)⟩ dX0_assignmentsWithOne_17 ?_
    refine g_if_eq (tgt := 29) o rfl dX0_assignmentsWithOne_20 hf (fun hc hf => ?_) (fun hc hf => ?_)
    · refine g_lconst o lc_0 dX0_assignmentsWithOne_29 ?_
      cases Option.some.inj hf
      exact g_lret hret (Nat.le_of_ble_eq_true rfl) (Nat.le_of_ble_eq_true rfl) dX0_assignmentsWithOne_30
    · refine g_ldc2 o m_172 dX0_assignmentsWithOne_23 ?_
      refine g_goto (tgt := 30) o rfl dX0_assignmentsWithOne_26 ?_
      cases Option.some.inj hf
      exact g_lret hret (Nat.le_of_ble_eq_true rfl) (Nat.le_of_ble_eq_true rfl) dX0_assignmentsWithOne_30
  · refine g_gets o (ok_ONES o) m_192 dX0_assignmentsWithOne_6 (fun t4 hTt4 => ?_)
    refine g_iload_n o 0 rfl rfl dX0_assignmentsWithOne_9 ?_
    refine g_tl o hTt4 dX0_assignmentsWithOne_10 hf (fun hf => ?_)
    cases Option.some.inj hf
    exact g_lret hret (Nat.le_of_ble_eq_true rfl) (Nat.le_of_ble_eq_true rfl) dX0_assignmentsWithOne_11
theorem c_X0_assignmentsWithOne (l : Launch) (hst : l.stackTraces = false) (p0 : Int32) (p1 : Int32) (t : Int64) (hf : f_X0_assignmentsWithOne p0 p1 = some t) : CoL l yX0_assignmentsWithOne (.code yX0_assignmentsWithOne cX0_assignmentsWithOne 2 (some .long)) 1 0 0 [.int p0, .int p1] w0 w0 (.inl t) := mkL hst (by decide +kernel) (Nat.le_of_ble_eq_true rfl) (fun x _ o hI hX => b_X0_assignmentsWithOne o p0 p1 t hf (hI _ rfl))
theorem k_X0_assignmentsWithOne_ {x : Cx} {cc : ByteArray} {nL : Nat} {own : String} {d mc ms k n : Nat} {lv : List (Nat × Value)} {pc i : Nat} {rest : List Value} {wd : va_W} {p0 : Int32} {p1 : Int32} (o : Ok x cc nL own d mc ms) {t : Int64} (ht : f_X0_assignmentsWithOne p0 p1 = some t) (hlk : Cond.methodLink own i yX0_assignmentsWithOne ∈ Ug) (hd : 1 < d) (hr : (rest.map fun v => v.category).sum ≤ 8) (hk : k + 0 ≤ mc ∧ n + 0 ≤ ms) (dg : decode cc pc = .ok (.invokestatic i, 3)) (kk : G x nL (k + 0) (n + 0) wd lv (pc + 3) (.long t :: rest)) : G x nL k n wd lv pc (.int p1 :: .int p0 :: rest) := gcL (wd2 := wd) o (c_X0_assignmentsWithOne (cxl x) o.2.2.2.2.2.2.2.2.2.1 p0 p1 t ht) (can_S o hd (Nat.le_of_ble_eq_true rfl) m_191 m_55 m_190 hlk yk_X0_assignmentsWithOne rfl hr hk dg) sp_none (fun E h => by cases h) (fun r h => by cases h; exact kk)
def rt_X0_assignmentsInto (x : Cx) (t : Int64) : Prop := RetL x cX0_assignmentsInto 0 0 (w0 (cxT x)) t
theorem k_rec {x : Cx} {cc : ByteArray} {nL : Nat} {own : String} {d mc ms k n e : Nat} {lv : List (Nat × Value)} {pc i : Nat} {rest : List Value} {wd : va_W} {p0 p1 p2 p3 : Int32} {t : Int64} (co : CoL (cxl x) yX0_assignmentsInto (.code yX0_assignmentsInto cX0_assignmentsInto 11 (some .long)) e 0 0 [.int p0, .int p1, .int p2, .int p3] w0 w0 (.inl t)) (o : Ok x cc nL own d mc ms) (hlk : Cond.methodLink own i yX0_assignmentsInto ∈ Ug) (hd : e < d) (hr : (rest.map fun v => v.category).sum ≤ 8) (hk : k + 0 ≤ mc ∧ n + 0 ≤ ms) (dg : decode cc pc = .ok (.invokestatic i, 3)) (kk : G x nL k n wd lv (pc + 3) (.long t :: rest)) : G x nL k n wd lv pc (.int p3 :: .int p2 :: .int p1 :: .int p0 :: rest) := gcL (wd2 := wd) o co (can_S o hd (Nat.le_of_ble_eq_true rfl) m_182 m_55 m_181 hlk yk_X0_assignmentsInto rfl hr hk dg) sp_none (fun E h => by cases h) (fun r h => by cases h; exact kk)
set_option maxRecDepth 20000 in
set_option maxHeartbeats 2000000 in
theorem b_X0_assignmentsInto {x : Cx} {dd : Nat} (o : Ok x cX0_assignmentsInto 11 RX0 (4 + (dd + 1)) 0 0) (IH : ∀ p0 p1 p2 p3 t, f_X0_assignmentsInto dd p0 p1 p2 p3 = some t → CoL (cxl x) yX0_assignmentsInto (.code yX0_assignmentsInto cX0_assignmentsInto 11 (some .long)) (4 + dd) 0 0 [.int p0, .int p1, .int p2, .int p3] w0 w0 (.inl t)) (p0 p1 p2 p3 : Int32) (t : Int64) (hf : f_X0_assignmentsInto (dd + 1) p0 p1 p2 p3 = some t) (hret : rt_X0_assignmentsInto x t) : G x 11 0 0 (w0 (cxT x)) [(0, .int p0), (1, .int p1), (2, .int p2), (3, .int p3)] 0 [] := by
  unfold f_X0_assignmentsInto at hf
  refine g_iload_n o 0 rfl rfl dX0_assignmentsInto_0 ?_
  refine g_if_ne (tgt := 6) o rfl dX0_assignmentsInto_1 hf (fun hc hf => ?_) (fun hc hf => ?_)
  · refine g_iload_n o 1 rfl rfl dX0_assignmentsInto_6 ?_
    refine g_if_le (tgt := 18) o rfl dX0_assignmentsInto_7 hf (fun hc hf => ?_) (fun hc hf => ?_)
    · refine g_ldc2 o m_172 dX0_assignmentsInto_18 ?_
      cases Option.some.inj hf
      exact g_lret hret (Nat.le_of_ble_eq_true rfl) (Nat.le_of_ble_eq_true rfl) dX0_assignmentsInto_21
    · refine g_iload_n o 0 rfl rfl dX0_assignmentsInto_10 ?_
      refine g_iload_n o 1 rfl rfl dX0_assignmentsInto_11 ?_
      obtain ⟨r8, hr8, hf⟩ := bd_some hf
      refine k_X1_allTuples_N o hr8 e_183 (by omega) (Nat.le_of_ble_eq_true rfl) ⟨(Nat.le_of_ble_eq_true rfl), (Nat.le_of_ble_eq_true rfl)⟩ dX0_assignmentsInto_12 ?_
      refine g_ic_ne (tgt := 22) o rfl dX0_assignmentsInto_15 hf (fun hc hf => ?_) (fun hc hf => ?_)
      · refine g_iload_n o 1 rfl rfl dX0_assignmentsInto_22 ?_
        refine g_iconst o ic_1 dX0_assignmentsInto_23 ?_
        refine g_isub o dX0_assignmentsInto_24 ?_
        refine g_nmi hf (fun x9 hf => ?_)
        refine g_istore o [(4, .int x9), (0, .int p0), (1, .int p1), (2, .int p2), (3, .int p3)] (Nat.le_of_ble_eq_true rfl) rfl dX0_assignmentsInto_25 ?_
        refine g_iload_n o 3 rfl rfl dX0_assignmentsInto_27 ?_
        refine g_iload o 0 rfl dX0_assignmentsInto_28 ?_
        obtain ⟨r10, hr10, hf⟩ := bd_some hf
        refine k_X0_variableAt_ o hr10 m_186 (by omega) (Nat.le_of_ble_eq_true rfl) ⟨(Nat.le_of_ble_eq_true rfl), (Nat.le_of_ble_eq_true rfl)⟩ dX0_assignmentsInto_30 ?_
        refine g_iload_n o 4 rfl rfl dX0_assignmentsInto_33 ?_
        obtain ⟨r11, hr11, hf⟩ := bd_some hf
        refine k_X0_assignmentsWithOne_ o hr11 m_189 (by omega) (Nat.le_of_ble_eq_true rfl) ⟨(Nat.le_of_ble_eq_true rfl), (Nat.le_of_ble_eq_true rfl)⟩ dX0_assignmentsInto_34 ?_
        refine g_lstore o [(5, .long r11), (4, .int x9), (0, .int p0), (1, .int p1), (2, .int p2), (3, .int p3)] (Nat.le_of_ble_eq_true rfl) rfl dX0_assignmentsInto_37 ?_
        refine g_iload_n o 2 rfl rfl dX0_assignmentsInto_39 ?_
        refine g_iload o 1 rfl dX0_assignmentsInto_40 ?_
        obtain ⟨r12, hr12, hf⟩ := bd_some hf
        refine k_X1_allTuples_N o hr12 e_183 (by omega) (Nat.le_of_ble_eq_true rfl) ⟨(Nat.le_of_ble_eq_true rfl), (Nat.le_of_ble_eq_true rfl)⟩ dX0_assignmentsInto_42 ?_
        refine g_iand o dX0_assignmentsInto_45 ?_
        refine g_iload o 1 rfl dX0_assignmentsInto_46 ?_
        refine g_iload_n o 4 rfl rfl dX0_assignmentsInto_48 ?_
        refine g_iload_n o 5 rfl rfl dX0_assignmentsInto_49 ?_
        obtain ⟨r13, hr13, hf⟩ := bd_some hf
        refine k_rec (IH _ _ _ _ _ hr13) o m_180 (Nat.lt_succ_self _) (Nat.le_of_ble_eq_true rfl) ⟨(Nat.le_of_ble_eq_true rfl), (Nat.le_of_ble_eq_true rfl)⟩ dX0_assignmentsInto_50 ?_
        refine g_lstore o [(7, .long r13), (5, .long r11), (4, .int x9), (0, .int p0), (1, .int p1), (2, .int p2), (3, .int p3)] (Nat.le_of_ble_eq_true rfl) rfl dX0_assignmentsInto_53 ?_
        refine g_iload_n o 3 rfl rfl dX0_assignmentsInto_55 ?_
        refine g_iconst o ic_1 dX0_assignmentsInto_56 ?_
        refine g_iload o 2 rfl dX0_assignmentsInto_57 ?_
        refine g_ishl o dX0_assignmentsInto_59 ?_
        refine g_iushr o dX0_assignmentsInto_60 ?_
        refine g_iload o 2 rfl dX0_assignmentsInto_61 ?_
        refine g_iload_n o 5 rfl rfl dX0_assignmentsInto_63 ?_
        refine g_iload_n o 6 rfl rfl dX0_assignmentsInto_64 ?_
        obtain ⟨r14, hr14, hf⟩ := bd_some hf
        refine k_rec (IH _ _ _ _ _ hr14) o m_180 (Nat.lt_succ_self _) (Nat.le_of_ble_eq_true rfl) ⟨(Nat.le_of_ble_eq_true rfl), (Nat.le_of_ble_eq_true rfl)⟩ dX0_assignmentsInto_65 ?_
        refine g_lstore o [(9, .long r14), (7, .long r13), (5, .long r11), (4, .int x9), (0, .int p0), (1, .int p1), (2, .int p2), (3, .int p3)] (Nat.le_of_ble_eq_true rfl) rfl dX0_assignmentsInto_68 ?_
        refine g_lload o 1 rfl dX0_assignmentsInto_70 ?_
        refine g_lload o 2 rfl dX0_assignmentsInto_72 ?_
        refine g_ldc2 o m_172 dX0_assignmentsInto_74 ?_
        refine g_lxor o dX0_assignmentsInto_77 ?_
        refine g_land o dX0_assignmentsInto_78 ?_
        refine g_lload o 0 rfl dX0_assignmentsInto_79 ?_
        refine g_lload o 2 rfl dX0_assignmentsInto_81 ?_
        refine g_land o dX0_assignmentsInto_83 ?_
        refine g_lor o dX0_assignmentsInto_84 ?_
        cases Option.some.inj hf
        exact g_lret hret (Nat.le_of_ble_eq_true rfl) (Nat.le_of_ble_eq_true rfl) dX0_assignmentsInto_85
      · refine g_ldc2 o m_172 dX0_assignmentsInto_18 ?_
        cases Option.some.inj hf
        exact g_lret hret (Nat.le_of_ble_eq_true rfl) (Nat.le_of_ble_eq_true rfl) dX0_assignmentsInto_21
  · refine g_lconst o lc_0 dX0_assignmentsInto_4 ?_
    cases Option.some.inj hf
    exact g_lret hret (Nat.le_of_ble_eq_true rfl) (Nat.le_of_ble_eq_true rfl) dX0_assignmentsInto_5
set_option maxRecDepth 20000 in
set_option maxHeartbeats 2000000 in
theorem c_X0_assignmentsInto (l : Launch) (hst : l.stackTraces = false) : ∀ (dd : Nat) (p0 p1 p2 p3 : Int32) (t : Int64), f_X0_assignmentsInto dd p0 p1 p2 p3 = some t → CoL l yX0_assignmentsInto (.code yX0_assignmentsInto cX0_assignmentsInto 11 (some .long)) (4 + dd) 0 0 [.int p0, .int p1, .int p2, .int p3] w0 w0 (.inl t) := by
  intro dd
  induction dd with
  | zero => intro p0 p1 p2 p3 t hf; unfold f_X0_assignmentsInto at hf; cases hf
  | succ dd ih => intro p0 p1 p2 p3 t hf; exact mkL hst (by decide +kernel) (Nat.le_of_ble_eq_true rfl) (fun x hx o hI hX => b_X0_assignmentsInto o (by rw [hx]; exact ih) p0 p1 p2 p3 t hf (hI _ rfl))
theorem k_X0_assignmentsInto_ {x : Cx} {cc : ByteArray} {nL : Nat} {own : String} {d mc ms k n : Nat} {lv : List (Nat × Value)} {pc i : Nat} {rest : List Value} {wd : va_W} {p0 : Int32} {p1 : Int32} {p2 : Int32} {p3 : Int32} (o : Ok x cc nL own d mc ms) {t : Int64} (ht : f_X0_assignmentsInto 6 p0 p1 p2 p3 = some t) (hlk : Cond.methodLink own i yX0_assignmentsInto ∈ Ug) (hd : 10 < d) (hr : (rest.map fun v => v.category).sum ≤ 8) (hk : k + 0 ≤ mc ∧ n + 0 ≤ ms) (dg : decode cc pc = .ok (.invokestatic i, 3)) (kk : G x nL (k + 0) (n + 0) wd lv (pc + 3) (.long t :: rest)) : G x nL k n wd lv pc (.int p3 :: .int p2 :: .int p1 :: .int p0 :: rest) := gcL (wd2 := wd) o (c_X0_assignmentsInto (cxl x) o.2.2.2.2.2.2.2.2.2.1 6 p0 p1 p2 p3 t ht) (can_S o hd (Nat.le_of_ble_eq_true rfl) m_182 m_55 m_181 hlk yk_X0_assignmentsInto rfl hr hk dg) sp_none (fun E h => by cases h) (fun r h => by cases h; exact kk)
def rt_X0_satisfying (x : Cx) (b : Nat → Nat) (v : St) (t : Int64) : Prop := RetL x cX0_satisfying 0 0 (wI b v (cxT x)) t
set_option maxRecDepth 20000 in
set_option maxHeartbeats 2000000 in
theorem b_X0_satisfying {x : Cx} (o : Ok x cX0_satisfying 4 RX0 11 0 0) (b : Nat → Nat) (v : St) (p0 : Int32) (p1 : Int32) (t : Int64) (hf : f_X0_satisfying v p0 p1 = some t) (hret : rt_X0_satisfying x b v t) : G x 4 0 0 (wI b v (cxT x)) [(0, .ref (b 0)), (1, .int p0), (2, .int p1)] 0 [] := by
  unfold f_X0_satisfying at hf
  refine g_aload_n o 0 rfl rfl dX0_satisfying_0 ?_
  refine I_get5 o m_92 dX0_satisfying_1 ?_
  refine g_iload_n o 1 rfl rfl dX0_satisfying_4 ?_
  refine I_ld5 o dX0_satisfying_5 hf (fun hf => ?_)
  refine g_nmi hf (fun x3 hf => ?_)
  refine g_istore_n o [(3, .int x3), (0, .ref (b 0)), (1, .int p0), (2, .int p1)] (Nat.le_of_ble_eq_true rfl) rfl rfl dX0_satisfying_6 ?_
  refine g_aload_n o 1 rfl rfl dX0_satisfying_7 ?_
  refine I_get2 o m_86 dX0_satisfying_8 ?_
  refine g_iload_n o 0 rfl rfl dX0_satisfying_11 ?_
  refine I_ld2 o dX0_satisfying_12 hf (fun hf => ?_)
  refine g_aload_n o 1 rfl rfl dX0_satisfying_13 ?_
  refine I_get1 o m_84 dX0_satisfying_14 ?_
  refine g_iload_n o 0 rfl rfl dX0_satisfying_17 ?_
  refine I_ld1 o dX0_satisfying_18 hf (fun hf => ?_)
  refine g_aload_n o 1 rfl rfl dX0_satisfying_19 ?_
  refine I_get6 o m_94 dX0_satisfying_20 ?_
  refine g_iload_n o 2 rfl rfl dX0_satisfying_23 ?_
  refine I_ld6 o dX0_satisfying_24 hf (fun hf => ?_)
  refine g_iload_n o 3 rfl rfl dX0_satisfying_25 ?_
  obtain ⟨r4, hr4, hf⟩ := bd_some hf
  refine k_X0_assignmentsInto_ o hr4 m_180 (Nat.le_of_ble_eq_true rfl) (Nat.le_of_ble_eq_true rfl) ⟨(Nat.le_of_ble_eq_true rfl), (Nat.le_of_ble_eq_true rfl)⟩ dX0_satisfying_26 ?_
  cases Option.some.inj hf
  exact g_lret hret (Nat.le_of_ble_eq_true rfl) (Nat.le_of_ble_eq_true rfl) dX0_satisfying_29
theorem c_X0_satisfying (l : Launch) (hst : l.stackTraces = false) (b : Nat → Nat) (v : St) (p0 : Int32) (p1 : Int32) (t : Int64) (hf : f_X0_satisfying v p0 p1 = some t) : CoL l yX0_satisfying (.code yX0_satisfying cX0_satisfying 4 (some .long)) 11 0 0 [.ref (b 0), .int p0, .int p1] (wI b v) (wI b v) (.inl t) := mkL hst (by decide +kernel) (Nat.le_of_ble_eq_true rfl) (fun x _ o hI hX => b_X0_satisfying o b v p0 p1 t hf (hI _ rfl))
theorem k_X0_satisfying_ {x : Cx} {cc : ByteArray} {nL : Nat} {own : String} {d mc ms k n : Nat} {lv : List (Nat × Value)} {pc i : Nat} {rest : List Value} {b : Nat → Nat} {v : St} {p0 : Int32} {p1 : Int32} (o : Ok x cc nL own d mc ms) {t : Int64} (ht : f_X0_satisfying v p0 p1 = some t) (hlk : Cond.methodLink own i yX0_satisfying ∈ Ug) (hd : 11 < d) (hr : (rest.map fun v => v.category).sum ≤ 8) (hk : k + 0 ≤ mc ∧ n + 0 ≤ ms) (dg : decode cc pc = .ok (.invokevirtual i, 3)) (kk : G x nL (k + 0) (n + 0) (wI b v (cxT x)) lv (pc + 3) (.long t :: rest)) : G x nL k n (wI b v (cxT x)) lv pc (.int p1 :: .int p0 :: .ref (b 0) :: rest) := gcL (wd2 := (wI b v (cxT x))) o (c_X0_satisfying (cxl x) o.2.2.2.2.2.2.2.2.2.1 b v p0 p1 t ht) (can_V (q0 := 0) o rfl rfl hd (Nat.le_of_ble_eq_true rfl) m_179 m_55 m_178 m_4 hlk yk_X0_satisfying rfl hr hk dg) sp_I (fun E h => by cases h) (fun r h => by cases h; exact kk)
def rt_X0_solutionsIn (x : Cx) (b : Nat → Nat) (v : St) (t : Int64) : Prop := RetL x cX0_solutionsIn 0 0 (wI b v (cxT x)) t
set_option maxRecDepth 20000 in
set_option maxHeartbeats 2000000 in
theorem b_X0_solutionsIn_L8 {x : Cx} (o : Ok x cX0_solutionsIn 6 RX0 12 0 0) {k n : Nat} (hk : k ≤ 0) (hn : n ≤ 0) (b : Nat → Nat) (v : St) (c1 : Int32) (c2 : Int32) (r : (Int64 × Int32) ⊕ (Int64)) (hX : ∀ s : Int64 × Int32, r = .inl s → G x 6 k n (wI b v (cxT x)) [(3, .long s.1)] 48 []) (hR : ∀ t, r = .inr t → rt_X0_solutionsIn x b v t) : ∀ (m : Nat) (s : Int64 × Int32), loopN (f_X0_solutionsIn_s8 v c1 c2) m s = some r → G x 6 k n (wI b v (cxT x)) [(0, .ref (b 0)), (1, .int c1), (2, .int c2), (3, .long s.1), (5, .int s.2)] 8 [] := by
  refine loop_W _ (fun (s : Int64 × Int32) => G x 6 k n (wI b v (cxT x)) [(0, .ref (b 0)), (1, .int c1), (2, .int c2), (3, .long s.1), (5, .int s.2)] 8 []) r ?_
  intro s ww hf hw
  unfold f_X0_solutionsIn_s8 at hf
  obtain ⟨s_0, s_1⟩ := s
  try dsimp -simprocs only at hf ⊢
  refine g_iload o 4 rfl dX0_solutionsIn_8 ?_
  refine g_aload_n o 0 rfl rfl dX0_solutionsIn_10 ?_
  refine I_get4 o m_90 dX0_solutionsIn_11 ?_
  refine g_ic_ge (tgt := 48) o rfl dX0_solutionsIn_14 hf (fun hc hf => ?_) (fun hc hf => ?_)
  · exact g_perm [3] rfl (hX _ (lf_x hf hw))
  · refine g_lload_n o 3 rfl rfl dX0_solutionsIn_17 ?_
    refine g_lconst o lc_0 dX0_solutionsIn_18 ?_
    refine g_lcmp o dX0_solutionsIn_19 ?_
    refine g_if_eq (tgt := 48) o rfl dX0_solutionsIn_20 hf (fun hc hf => ?_) (fun hc hf => ?_)
    · exact g_perm [3] rfl (hX _ (lf_x hf hw))
    · refine g_iload_n o 2 rfl rfl dX0_solutionsIn_23 ?_
      refine g_iload o 4 rfl dX0_solutionsIn_24 ?_
      obtain ⟨r5, hr5, hf⟩ := bd_some hf
      refine k_X1_has_N o hr5 e_173 (Nat.le_of_ble_eq_true rfl) (Nat.le_of_ble_eq_true rfl) ⟨hk, hn⟩ dX0_solutionsIn_26 ?_
      refine g_if_ne (tgt := 42) o rfl dX0_solutionsIn_29 hf (fun hc hf => ?_) (fun hc hf => ?_)
      · refine g_iinc o [(5, .int (s_1 + 1)), (0, .ref (b 0)), (1, .int c1), (2, .int c2), (3, .long s_0)] 4 rfl (inc_1 _) (Nat.le_of_ble_eq_true rfl) rfl dX0_solutionsIn_42 ?_
        refine g_goto (tgt := 8) o rfl dX0_solutionsIn_45 ?_
        have hp := lf_c hf hw
        exact g_perm [1, 2, 3, 4, 0] rfl hp
      · refine g_lload_n o 3 rfl rfl dX0_solutionsIn_32 ?_
        refine g_aload_n o 0 rfl rfl dX0_solutionsIn_33 ?_
        refine g_iload o 4 rfl dX0_solutionsIn_34 ?_
        refine g_iload_n o 1 rfl rfl dX0_solutionsIn_36 ?_
        obtain ⟨r6, hr6, hf⟩ := bd_some hf
        refine k_X0_satisfying_ o hr6 m_176 (Nat.le_of_ble_eq_true rfl) (Nat.le_of_ble_eq_true rfl) ⟨hk, hn⟩ dX0_solutionsIn_37 ?_
        refine g_land o dX0_solutionsIn_40 ?_
        refine g_nml hf (fun x7 hf => ?_)
        refine g_lstore_n o [(3, .long x7), (0, .ref (b 0)), (1, .int c1), (2, .int c2), (5, .int s_1)] (Nat.le_of_ble_eq_true rfl) rfl rfl dX0_solutionsIn_41 ?_
        refine g_iinc o [(5, .int (s_1 + 1)), (3, .long x7), (0, .ref (b 0)), (1, .int c1), (2, .int c2)] 4 rfl (inc_1 _) (Nat.le_of_ble_eq_true rfl) rfl dX0_solutionsIn_42 ?_
        refine g_goto (tgt := 8) o rfl dX0_solutionsIn_45 ?_
        have hp := lf_c hf hw
        exact g_perm [2, 3, 4, 1, 0] rfl hp
set_option maxRecDepth 20000 in
set_option maxHeartbeats 2000000 in
theorem b_X0_solutionsIn {x : Cx} (o : Ok x cX0_solutionsIn 6 RX0 12 0 0) (b : Nat → Nat) (v : St) (p0 : Int32) (p1 : Int32) (t : Int64) (hf : f_X0_solutionsIn v p0 p1 = some t) (hret : rt_X0_solutionsIn x b v t) : G x 6 0 0 (wI b v (cxT x)) [(0, .ref (b 0)), (1, .int p0), (2, .int p1)] 0 [] := by
  unfold f_X0_solutionsIn at hf
  refine g_aload_n o 0 rfl rfl dX0_solutionsIn_0 ?_
  obtain ⟨r10, hr10, hf⟩ := bd_some hf
  refine k_X0_assignmentsOfAWord_ o hr10 m_168 (Nat.le_of_ble_eq_true rfl) (Nat.le_of_ble_eq_true rfl) ⟨(Nat.le_of_ble_eq_true rfl), (Nat.le_of_ble_eq_true rfl)⟩ dX0_solutionsIn_1 ?_
  refine g_lstore_n o [(3, .long r10), (0, .ref (b 0)), (1, .int p0), (2, .int p1)] (Nat.le_of_ble_eq_true rfl) rfl rfl dX0_solutionsIn_4 ?_
  refine g_iconst o ic_0 dX0_solutionsIn_5 ?_
  refine g_istore o [(5, .int 0), (3, .long r10), (0, .ref (b 0)), (1, .int p0), (2, .int p1)] (Nat.le_of_ble_eq_true rfl) rfl dX0_solutionsIn_6 ?_
  obtain ⟨r12, hr12, hxr12, hrr12⟩ := bl_some hf
  refine g_perm [2, 3, 4, 1, 0] rfl (b_X0_solutionsIn_L8 o (Nat.le_of_ble_eq_true rfl) (Nat.le_of_ble_eq_true rfl) b v p0 p1 r12 (fun s8 hs => ?_) (fun t11 ht => ?_) FU (r10, 0) hr12)
  · have hf := hxr12 s8 hs
    obtain ⟨s8_0, s8_1⟩ := s8
    try dsimp -simprocs only at hf ⊢
    refine g_lload_n o 0 rfl rfl dX0_solutionsIn_48 ?_
    cases Option.some.inj hf
    exact g_lret hret (Nat.le_of_ble_eq_true rfl) (Nat.le_of_ble_eq_true rfl) dX0_solutionsIn_49
  · have hf := hrr12 t11 ht
    cases Option.some.inj hf
    exact hret
theorem c_X0_solutionsIn (l : Launch) (hst : l.stackTraces = false) (b : Nat → Nat) (v : St) (p0 : Int32) (p1 : Int32) (t : Int64) (hf : f_X0_solutionsIn v p0 p1 = some t) : CoL l yX0_solutionsIn (.code yX0_solutionsIn cX0_solutionsIn 6 (some .long)) 12 0 0 [.ref (b 0), .int p0, .int p1] (wI b v) (wI b v) (.inl t) := mkL hst (by decide +kernel) (Nat.le_of_ble_eq_true rfl) (fun x _ o hI hX => b_X0_solutionsIn o b v p0 p1 t hf (hI _ rfl))
theorem k_X0_solutionsIn_ {x : Cx} {cc : ByteArray} {nL : Nat} {own : String} {d mc ms k n : Nat} {lv : List (Nat × Value)} {pc i : Nat} {rest : List Value} {b : Nat → Nat} {v : St} {p0 : Int32} {p1 : Int32} (o : Ok x cc nL own d mc ms) {t : Int64} (ht : f_X0_solutionsIn v p0 p1 = some t) (hlk : Cond.methodLink own i yX0_solutionsIn ∈ Ug) (hd : 12 < d) (hr : (rest.map fun v => v.category).sum ≤ 8) (hk : k + 0 ≤ mc ∧ n + 0 ≤ ms) (dg : decode cc pc = .ok (.invokevirtual i, 3)) (kk : G x nL (k + 0) (n + 0) (wI b v (cxT x)) lv (pc + 3) (.long t :: rest)) : G x nL k n (wI b v (cxT x)) lv pc (.int p1 :: .int p0 :: .ref (b 0) :: rest) := gcL (wd2 := (wI b v (cxT x))) o (c_X0_solutionsIn (cxl x) o.2.2.2.2.2.2.2.2.2.1 b v p0 p1 t ht) (can_V (q0 := 0) o rfl rfl hd (Nat.le_of_ble_eq_true rfl) m_167 m_55 m_166 m_2 hlk yk_X0_solutionsIn rfl hr hk dg) sp_I (fun E h => by cases h) (fun r h => by cases h; exact kk)
def rt_X0_tuplesOfSolutions (x : Cx) (b : Nat → Nat) (v : St) (t : Int32) : Prop := RetI x cX0_tuplesOfSolutions .int 0 0 (wI b v (cxT x)) t
set_option maxRecDepth 20000 in
set_option maxHeartbeats 2000000 in
theorem b_X0_tuplesOfSolutions_L26 {x : Cx} (o : Ok x cX0_tuplesOfSolutions 8 RX0 13 0 0) {k n : Nat} (hk : k ≤ 0) (hn : n ≤ 0) (b : Nat → Nat) (v : St) (c1 : Int32) (c2 : Int32) (c4 : Int32) (c5 : Int64) (r : (Int32 × Int32) ⊕ (Int32)) (hX : ∀ s : Int32 × Int32, r = .inl s → G x 8 k n (wI b v (cxT x)) [(0, .ref (b 0)), (1, .int c1), (2, .int c2), (3, .int s.1), (4, .int c4)] 67 []) (hR : ∀ t, r = .inr t → rt_X0_tuplesOfSolutions x b v t) : ∀ (m : Nat) (s : Int32 × Int32), loopN (f_X0_tuplesOfSolutions_s26 v c1 c2 c4 c5) m s = some r → G x 8 k n (wI b v (cxT x)) [(0, .ref (b 0)), (1, .int c1), (2, .int c2), (3, .int s.1), (4, .int c4), (5, .long c5), (7, .int s.2)] 26 [] := by
  refine loop_W _ (fun (s : Int32 × Int32) => G x 8 k n (wI b v (cxT x)) [(0, .ref (b 0)), (1, .int c1), (2, .int c2), (3, .int s.1), (4, .int c4), (5, .long c5), (7, .int s.2)] 26 []) r ?_
  intro s ww hf hw
  unfold f_X0_tuplesOfSolutions_s26 at hf
  obtain ⟨s_0, s_1⟩ := s
  try dsimp -simprocs only at hf ⊢
  refine g_iload o 6 rfl dX0_tuplesOfSolutions_26 ?_
  refine g_iload_n o 1 rfl rfl dX0_tuplesOfSolutions_28 ?_
  obtain ⟨r6, hr6, hf⟩ := bd_some hf
  refine k_X1_greatestTuple_N o hr6 e_785 (Nat.le_of_ble_eq_true rfl) (Nat.le_of_ble_eq_true rfl) ⟨hk, hn⟩ dX0_tuplesOfSolutions_29 ?_
  refine g_ic_gt (tgt := 67) o rfl dX0_tuplesOfSolutions_32 hf (fun hc hf => ?_) (fun hc hf => ?_)
  · exact g_perm [0, 1, 2, 3, 4] rfl (hX _ (lf_x hf hw))
  · refine g_lload o 5 rfl dX0_tuplesOfSolutions_35 ?_
    refine g_iconst o ic_1 dX0_tuplesOfSolutions_37 ?_
    refine g_iload o 6 rfl dX0_tuplesOfSolutions_38 ?_
    refine g_ishl o dX0_tuplesOfSolutions_40 ?_
    refine g_iload_n o 1 rfl rfl dX0_tuplesOfSolutions_41 ?_
    refine g_iload_n o 2 rfl rfl dX0_tuplesOfSolutions_42 ?_
    refine g_iload o 4 rfl dX0_tuplesOfSolutions_43 ?_
    obtain ⟨r7, hr7, hf⟩ := bd_some hf
    refine k_X0_assignmentsInto_ o hr7 m_180 (Nat.le_of_ble_eq_true rfl) (Nat.le_of_ble_eq_true rfl) ⟨hk, hn⟩ dX0_tuplesOfSolutions_45 ?_
    refine g_land o dX0_tuplesOfSolutions_48 ?_
    refine g_lconst o lc_0 dX0_tuplesOfSolutions_49 ?_
    refine g_lcmp o dX0_tuplesOfSolutions_50 ?_
    refine g_if_eq (tgt := 61) o rfl dX0_tuplesOfSolutions_51 hf (fun hc hf => ?_) (fun hc hf => ?_)
    · refine g_iinc o [(7, .int (s_1 + 1)), (0, .ref (b 0)), (1, .int c1), (2, .int c2), (3, .int s_0), (4, .int c4), (5, .long c5)] 6 rfl (inc_1 _) (Nat.le_of_ble_eq_true rfl) rfl dX0_tuplesOfSolutions_61 ?_
      refine g_goto (tgt := 26) o rfl dX0_tuplesOfSolutions_64 ?_
      have hp := lf_c hf hw
      exact g_perm [1, 2, 3, 4, 5, 6, 0] rfl hp
    · refine g_iload_n o 3 rfl rfl dX0_tuplesOfSolutions_54 ?_
      refine g_iconst o ic_1 dX0_tuplesOfSolutions_55 ?_
      refine g_iload o 6 rfl dX0_tuplesOfSolutions_56 ?_
      refine g_ishl o dX0_tuplesOfSolutions_58 ?_
      refine g_ior o dX0_tuplesOfSolutions_59 ?_
      refine g_nmi hf (fun x8 hf => ?_)
      refine g_istore_n o [(3, .int x8), (0, .ref (b 0)), (1, .int c1), (2, .int c2), (4, .int c4), (5, .long c5), (7, .int s_1)] (Nat.le_of_ble_eq_true rfl) rfl rfl dX0_tuplesOfSolutions_60 ?_
      refine g_iinc o [(7, .int (s_1 + 1)), (3, .int x8), (0, .ref (b 0)), (1, .int c1), (2, .int c2), (4, .int c4), (5, .long c5)] 6 rfl (inc_1 _) (Nat.le_of_ble_eq_true rfl) rfl dX0_tuplesOfSolutions_61 ?_
      refine g_goto (tgt := 26) o rfl dX0_tuplesOfSolutions_64 ?_
      have hp := lf_c hf hw
      exact g_perm [2, 3, 4, 1, 5, 6, 0] rfl hp
set_option maxRecDepth 20000 in
set_option maxHeartbeats 2000000 in
theorem b_X0_tuplesOfSolutions_L5 {x : Cx} (o : Ok x cX0_tuplesOfSolutions 8 RX0 13 0 0) {k n : Nat} (hk : k ≤ 0) (hn : n ≤ 0) (b : Nat → Nat) (v : St) (c1 : Int32) (c2 : Int32) (r : (Int32 × Int32) ⊕ (Int32)) (hX : ∀ s : Int32 × Int32, r = .inl s → G x 8 k n (wI b v (cxT x)) [(3, .int s.1)] 73 []) (hR : ∀ t, r = .inr t → rt_X0_tuplesOfSolutions x b v t) : ∀ (m : Nat) (s : Int32 × Int32), loopN (f_X0_tuplesOfSolutions_s5 v c1 c2) m s = some r → G x 8 k n (wI b v (cxT x)) [(0, .ref (b 0)), (1, .int c1), (2, .int c2), (3, .int s.1), (4, .int s.2)] 5 [] := by
  refine loop_W _ (fun (s : Int32 × Int32) => G x 8 k n (wI b v (cxT x)) [(0, .ref (b 0)), (1, .int c1), (2, .int c2), (3, .int s.1), (4, .int s.2)] 5 []) r ?_
  intro s ww hf hw
  unfold f_X0_tuplesOfSolutions_s5 at hf
  obtain ⟨s_0, s_1⟩ := s
  try dsimp -simprocs only at hf ⊢
  refine g_iload o 4 rfl dX0_tuplesOfSolutions_5 ?_
  refine g_aload_n o 0 rfl rfl dX0_tuplesOfSolutions_7 ?_
  obtain ⟨r12, hr12, hf⟩ := bd_some hf
  refine k_X0_wordCount_ o hr12 m_160 (Nat.le_of_ble_eq_true rfl) (Nat.le_of_ble_eq_true rfl) ⟨hk, hn⟩ dX0_tuplesOfSolutions_8 ?_
  refine g_ic_ge (tgt := 73) o rfl dX0_tuplesOfSolutions_11 hf (fun hc hf => ?_) (fun hc hf => ?_)
  · exact g_perm [3] rfl (hX _ (lf_x hf hw))
  · refine g_aload_n o 0 rfl rfl dX0_tuplesOfSolutions_14 ?_
    refine g_iload o 4 rfl dX0_tuplesOfSolutions_15 ?_
    refine g_iconst o ic_0 dX0_tuplesOfSolutions_17 ?_
    obtain ⟨r13, hr13, hf⟩ := bd_some hf
    refine k_X0_solutionsIn_ o hr13 m_164 (Nat.le_of_ble_eq_true rfl) (Nat.le_of_ble_eq_true rfl) ⟨hk, hn⟩ dX0_tuplesOfSolutions_18 ?_
    refine g_lstore o [(5, .long r13), (0, .ref (b 0)), (1, .int c1), (2, .int c2), (3, .int s_0), (4, .int s_1)] (Nat.le_of_ble_eq_true rfl) rfl dX0_tuplesOfSolutions_21 ?_
    refine g_iconst o ic_0 dX0_tuplesOfSolutions_23 ?_
    refine g_istore o [(7, .int 0), (5, .long r13), (0, .ref (b 0)), (1, .int c1), (2, .int c2), (3, .int s_0), (4, .int s_1)] (Nat.le_of_ble_eq_true rfl) rfl dX0_tuplesOfSolutions_24 ?_
    obtain ⟨r16, hr16, hxr16, hrr16⟩ := bl_some hf
    refine g_perm [2, 3, 4, 5, 6, 1, 0] rfl (b_X0_tuplesOfSolutions_L26 o hk hn b v c1 c2 s_1 r13 r16 (fun s26_14 hs => ?_) (fun t15 ht => ?_) FU (s_0, 0) hr16)
    · have hf := hxr16 s26_14 hs
      obtain ⟨s26_14_0, s26_14_1⟩ := s26_14
      try dsimp -simprocs only at hf ⊢
      refine g_iinc o [(4, .int (s_1 + 1)), (0, .ref (b 0)), (1, .int c1), (2, .int c2), (3, .int s26_14_0)] 4 rfl (inc_1 _) (Nat.le_of_ble_eq_true rfl) rfl dX0_tuplesOfSolutions_67 ?_
      refine g_goto (tgt := 5) o rfl dX0_tuplesOfSolutions_70 ?_
      have hp := lf_c hf hw
      exact g_perm [1, 2, 3, 4, 0] rfl hp
    · have hf := hrr16 t15 ht
      exact hR t15 (lf_x hf hw)
set_option maxRecDepth 20000 in
set_option maxHeartbeats 2000000 in
theorem b_X0_tuplesOfSolutions {x : Cx} (o : Ok x cX0_tuplesOfSolutions 8 RX0 13 0 0) (b : Nat → Nat) (v : St) (p0 : Int32) (p1 : Int32) (t : Int32) (hf : f_X0_tuplesOfSolutions v p0 p1 = some t) (hret : rt_X0_tuplesOfSolutions x b v t) : G x 8 0 0 (wI b v (cxT x)) [(0, .ref (b 0)), (1, .int p0), (2, .int p1)] 0 [] := by
  unfold f_X0_tuplesOfSolutions at hf
  refine g_iconst o ic_0 dX0_tuplesOfSolutions_0 ?_
  refine g_istore_n o [(3, .int 0), (0, .ref (b 0)), (1, .int p0), (2, .int p1)] (Nat.le_of_ble_eq_true rfl) rfl rfl dX0_tuplesOfSolutions_1 ?_
  refine g_iconst o ic_0 dX0_tuplesOfSolutions_2 ?_
  refine g_istore o [(4, .int 0), (3, .int 0), (0, .ref (b 0)), (1, .int p0), (2, .int p1)] (Nat.le_of_ble_eq_true rfl) rfl dX0_tuplesOfSolutions_3 ?_
  obtain ⟨r20, hr20, hxr20, hrr20⟩ := bl_some hf
  refine g_perm [2, 3, 4, 1, 0] rfl (b_X0_tuplesOfSolutions_L5 o (Nat.le_of_ble_eq_true rfl) (Nat.le_of_ble_eq_true rfl) b v p0 p1 r20 (fun s5 hs => ?_) (fun t19 ht => ?_) FU (0, 0) hr20)
  · have hf := hxr20 s5 hs
    obtain ⟨s5_0, s5_1⟩ := s5
    try dsimp -simprocs only at hf ⊢
    refine g_iload_n o 0 rfl rfl dX0_tuplesOfSolutions_73 ?_
    cases Option.some.inj hf
    exact g_iret hret (Nat.le_of_ble_eq_true rfl) (Nat.le_of_ble_eq_true rfl) (vp_nar_int _) dX0_tuplesOfSolutions_74
  · have hf := hrr20 t19 ht
    cases Option.some.inj hf
    exact hret
theorem c_X0_tuplesOfSolutions (l : Launch) (hst : l.stackTraces = false) (b : Nat → Nat) (v : St) (p0 : Int32) (p1 : Int32) (t : Int32) (hf : f_X0_tuplesOfSolutions v p0 p1 = some t) : CoI l yX0_tuplesOfSolutions (.code yX0_tuplesOfSolutions cX0_tuplesOfSolutions 8 (some .int)) 13 0 0 [.ref (b 0), .int p0, .int p1] (wI b v) (wI b v) (.inl t) := mkI hst (by decide +kernel) (Nat.le_of_ble_eq_true rfl) (fun x _ o hI hX => b_X0_tuplesOfSolutions o b v p0 p1 t hf (hI _ rfl))
theorem k_X0_tuplesOfSolutions_NX {x : Cx} {cc : ByteArray} {nL : Nat} {own : String} {d mc ms k n : Nat} {lv : List (Nat × Value)} {pc i : Nat} {rest : List Value} {a c : Nat → Nat} {u w : St} {host : String} {b : Nat → Nat} {v : St} {p0 : Int32} {p1 : Int32} (o : Ok x cc nL own d mc ms) {t : Int32} (ht : f_X0_tuplesOfSolutions v p0 p1 = some t) (hlk : Cond.methodLinkNest own i yX0_tuplesOfSolutions host ∈ Ue) (hd : 13 < d) (hr : (rest.map fun v => v.category).sum ≤ 8) (hk : k + 0 ≤ mc ∧ n + 0 ≤ ms) (dg : decode cc pc = .ok (.invokevirtual i, 3)) (kk : G x nL (k + 0) (n + 0) (wX a u b v c w (cxT x)) lv (pc + 3) (.int t :: rest)) : G x nL k n (wX a u b v c w (cxT x)) lv pc (.int p1 :: .int p0 :: .ref (b 0) :: rest) := gcI (wd2 := (wX a u b v c w (cxT x))) o (c_X0_tuplesOfSolutions (cxl x) o.2.2.2.2.2.2.2.2.2.1 b v p0 p1 t ht) (can_VN (q0 := 5) o rfl rfl hd (Nat.le_of_ble_eq_true rfl) m_784 m_55 m_783 m_25 hlk yk_X0_tuplesOfSolutions rfl hr hk dg) sp_XI (fun E h => by cases h) (fun r h => by cases h; exact kk)
def rt_X1_argumentCode (x : Cx) (t : Int32) : Prop := RetI x cX1_argumentCode .int 0 0 (w0 (cxT x)) t
set_option maxRecDepth 20000 in
set_option maxHeartbeats 2000000 in
theorem b_X1_argumentCode {x : Cx} (o : Ok x cX1_argumentCode 2 RX1 1 0 0) (p0 : Int32) (p1 : Int32) (t : Int32) (hf : f_X1_argumentCode p0 p1 = some t) (hret : rt_X1_argumentCode x  t) : G x 2 0 0 (w0 (cxT x)) [(0, .int p0), (1, .int p1)] 0 [] := by
  unfold f_X1_argumentCode at hf
  refine g_gets o (ok_ARGUMENT_CODES o) m_570 dX1_argumentCode_0 (fun t3 hTt3 => ?_)
  refine g_iload_n o 1 rfl rfl dX1_argumentCode_3 ?_
  refine g_ti o hTt3 dX1_argumentCode_4 hf (fun hf => ?_)
  refine g_iload_n o 0 rfl rfl dX1_argumentCode_5 ?_
  obtain ⟨r4, hr4, hf⟩ := bd_some hf
  refine k_X1_allTuples_ o hr4 m_346 (Nat.le_of_ble_eq_true rfl) (Nat.le_of_ble_eq_true rfl) ⟨(Nat.le_of_ble_eq_true rfl), (Nat.le_of_ble_eq_true rfl)⟩ dX1_argumentCode_6 ?_
  refine g_iand o dX1_argumentCode_9 ?_
  cases Option.some.inj hf
  exact g_iret hret (Nat.le_of_ble_eq_true rfl) (Nat.le_of_ble_eq_true rfl) (vp_nar_int _) dX1_argumentCode_10
theorem c_X1_argumentCode (l : Launch) (hst : l.stackTraces = false) (p0 : Int32) (p1 : Int32) (t : Int32) (hf : f_X1_argumentCode p0 p1 = some t) : CoI l yX1_argumentCode (.code yX1_argumentCode cX1_argumentCode 2 (some .int)) 1 0 0 [.int p0, .int p1] w0 w0 (.inl t) := mkI hst (by decide +kernel) (Nat.le_of_ble_eq_true rfl) (fun x _ o hI hX => b_X1_argumentCode o p0 p1 t hf (hI _ rfl))
theorem k_X1_argumentCode_ {x : Cx} {cc : ByteArray} {nL : Nat} {own : String} {d mc ms k n : Nat} {lv : List (Nat × Value)} {pc i : Nat} {rest : List Value} {wd : va_W} {p0 : Int32} {p1 : Int32} (o : Ok x cc nL own d mc ms) {t : Int32} (ht : f_X1_argumentCode p0 p1 = some t) (hlk : Cond.methodLink own i yX1_argumentCode ∈ Ug) (hd : 1 < d) (hr : (rest.map fun v => v.category).sum ≤ 8) (hk : k + 0 ≤ mc ∧ n + 0 ≤ ms) (dg : decode cc pc = .ok (.invokestatic i, 3)) (kk : G x nL (k + 0) (n + 0) wd lv (pc + 3) (.int t :: rest)) : G x nL k n wd lv pc (.int p1 :: .int p0 :: rest) := gcI (wd2 := wd) o (c_X1_argumentCode (cxl x) o.2.2.2.2.2.2.2.2.2.1 p0 p1 t ht) (can_S o hd (Nat.le_of_ble_eq_true rfl) m_569 m_54 m_568 hlk yk_X1_argumentCode rfl hr hk dg) sp_none (fun E h => by cases h) (fun r h => by cases h; exact kk)
def rt_X1_valuesAtZero (x : Cx) (t : Int32) : Prop := RetI x cX1_valuesAtZero .int 0 0 (w0 (cxT x)) t
set_option maxRecDepth 20000 in
set_option maxHeartbeats 2000000 in
theorem b_X1_valuesAtZero {x : Cx} (o : Ok x cX1_valuesAtZero 3 RX1 2 0 0) (p0 : Int32) (p1 : Int32) (p2 : Int32) (t : Int32) (hf : f_X1_valuesAtZero p0 p1 p2 = some t) (hret : rt_X1_valuesAtZero x  t) : G x 3 0 0 (w0 (cxT x)) [(0, .int p0), (1, .int p1), (2, .int p2)] 0 [] := by
  unfold f_X1_valuesAtZero at hf
  refine g_iload_n o 1 rfl rfl dX1_valuesAtZero_0 ?_
  refine g_iload_n o 0 rfl rfl dX1_valuesAtZero_1 ?_
  refine g_iload_n o 2 rfl rfl dX1_valuesAtZero_2 ?_
  obtain ⟨r2, hr2, hf⟩ := bd_some hf
  refine k_X1_argumentCode_ o hr2 m_567 (Nat.le_of_ble_eq_true rfl) (Nat.le_of_ble_eq_true rfl) ⟨(Nat.le_of_ble_eq_true rfl), (Nat.le_of_ble_eq_true rfl)⟩ dX1_valuesAtZero_3 ?_
  refine g_iconst o ic_m1 dX1_valuesAtZero_6 ?_
  refine g_ixor o dX1_valuesAtZero_7 ?_
  refine g_iand o dX1_valuesAtZero_8 ?_
  cases Option.some.inj hf
  exact g_iret hret (Nat.le_of_ble_eq_true rfl) (Nat.le_of_ble_eq_true rfl) (vp_nar_int _) dX1_valuesAtZero_9
theorem c_X1_valuesAtZero (l : Launch) (hst : l.stackTraces = false) (p0 : Int32) (p1 : Int32) (p2 : Int32) (t : Int32) (hf : f_X1_valuesAtZero p0 p1 p2 = some t) : CoI l yX1_valuesAtZero (.code yX1_valuesAtZero cX1_valuesAtZero 3 (some .int)) 2 0 0 [.int p0, .int p1, .int p2] w0 w0 (.inl t) := mkI hst (by decide +kernel) (Nat.le_of_ble_eq_true rfl) (fun x _ o hI hX => b_X1_valuesAtZero o p0 p1 p2 t hf (hI _ rfl))
theorem k_X1_valuesAtZero_ {x : Cx} {cc : ByteArray} {nL : Nat} {own : String} {d mc ms k n : Nat} {lv : List (Nat × Value)} {pc i : Nat} {rest : List Value} {wd : va_W} {p0 : Int32} {p1 : Int32} {p2 : Int32} (o : Ok x cc nL own d mc ms) {t : Int32} (ht : f_X1_valuesAtZero p0 p1 p2 = some t) (hlk : Cond.methodLink own i yX1_valuesAtZero ∈ Ug) (hd : 2 < d) (hr : (rest.map fun v => v.category).sum ≤ 8) (hk : k + 0 ≤ mc ∧ n + 0 ≤ ms) (dg : decode cc pc = .ok (.invokestatic i, 3)) (kk : G x nL (k + 0) (n + 0) wd lv (pc + 3) (.int t :: rest)) : G x nL k n wd lv pc (.int p2 :: .int p1 :: .int p0 :: rest) := gcI (wd2 := wd) o (c_X1_valuesAtZero (cxl x) o.2.2.2.2.2.2.2.2.2.1 p0 p1 p2 t ht) (can_S o hd (Nat.le_of_ble_eq_true rfl) m_566 m_54 m_565 hlk yk_X1_valuesAtZero rfl hr hk dg) sp_none (fun E h => by cases h) (fun r h => by cases h; exact kk)
def rt_X1_valuesAtOne (x : Cx) (t : Int32) : Prop := RetI x cX1_valuesAtOne .int 0 0 (w0 (cxT x)) t
set_option maxRecDepth 20000 in
set_option maxHeartbeats 2000000 in
theorem b_X1_valuesAtOne {x : Cx} (o : Ok x cX1_valuesAtOne 3 RX1 2 0 0) (p0 : Int32) (p1 : Int32) (p2 : Int32) (t : Int32) (hf : f_X1_valuesAtOne p0 p1 p2 = some t) (hret : rt_X1_valuesAtOne x  t) : G x 3 0 0 (w0 (cxT x)) [(0, .int p0), (1, .int p1), (2, .int p2)] 0 [] := by
  unfold f_X1_valuesAtOne at hf
  refine g_iload_n o 1 rfl rfl dX1_valuesAtOne_0 ?_
  refine g_iload_n o 0 rfl rfl dX1_valuesAtOne_1 ?_
  refine g_iload_n o 2 rfl rfl dX1_valuesAtOne_2 ?_
  obtain ⟨r2, hr2, hf⟩ := bd_some hf
  refine k_X1_argumentCode_ o hr2 m_567 (Nat.le_of_ble_eq_true rfl) (Nat.le_of_ble_eq_true rfl) ⟨(Nat.le_of_ble_eq_true rfl), (Nat.le_of_ble_eq_true rfl)⟩ dX1_valuesAtOne_3 ?_
  refine g_iand o dX1_valuesAtOne_6 ?_
  refine g_iconst o ic_1 dX1_valuesAtOne_7 ?_
  refine g_iload_n o 2 rfl rfl dX1_valuesAtOne_8 ?_
  refine g_ishl o dX1_valuesAtOne_9 ?_
  refine g_iushr o dX1_valuesAtOne_10 ?_
  cases Option.some.inj hf
  exact g_iret hret (Nat.le_of_ble_eq_true rfl) (Nat.le_of_ble_eq_true rfl) (vp_nar_int _) dX1_valuesAtOne_11
theorem c_X1_valuesAtOne (l : Launch) (hst : l.stackTraces = false) (p0 : Int32) (p1 : Int32) (p2 : Int32) (t : Int32) (hf : f_X1_valuesAtOne p0 p1 p2 = some t) : CoI l yX1_valuesAtOne (.code yX1_valuesAtOne cX1_valuesAtOne 3 (some .int)) 2 0 0 [.int p0, .int p1, .int p2] w0 w0 (.inl t) := mkI hst (by decide +kernel) (Nat.le_of_ble_eq_true rfl) (fun x _ o hI hX => b_X1_valuesAtOne o p0 p1 p2 t hf (hI _ rfl))
theorem k_X1_valuesAtOne_ {x : Cx} {cc : ByteArray} {nL : Nat} {own : String} {d mc ms k n : Nat} {lv : List (Nat × Value)} {pc i : Nat} {rest : List Value} {wd : va_W} {p0 : Int32} {p1 : Int32} {p2 : Int32} (o : Ok x cc nL own d mc ms) {t : Int32} (ht : f_X1_valuesAtOne p0 p1 p2 = some t) (hlk : Cond.methodLink own i yX1_valuesAtOne ∈ Ug) (hd : 2 < d) (hr : (rest.map fun v => v.category).sum ≤ 8) (hk : k + 0 ≤ mc ∧ n + 0 ≤ ms) (dg : decode cc pc = .ok (.invokestatic i, 3)) (kk : G x nL (k + 0) (n + 0) wd lv (pc + 3) (.int t :: rest)) : G x nL k n wd lv pc (.int p2 :: .int p1 :: .int p0 :: rest) := gcI (wd2 := wd) o (c_X1_valuesAtOne (cxl x) o.2.2.2.2.2.2.2.2.2.1 p0 p1 p2 t ht) (can_S o hd (Nat.le_of_ble_eq_true rfl) m_574 m_54 m_573 hlk yk_X1_valuesAtOne rfl hr hk dg) sp_none (fun E h => by cases h) (fun r h => by cases h; exact kk)
def rt_X0_countSolutions (x : Cx) (b : Nat → Nat) (v : St) (t : Int32) : Prop := RetI x cX0_countSolutions .int 0 0 (wI b v (cxT x)) t
set_option maxRecDepth 20000 in
set_option maxHeartbeats 2000000 in
theorem b_X0_countSolutions_L4 {x : Cx} (o : Ok x cX0_countSolutions 3 RX0 13 0 0) {k n : Nat} (hk : k ≤ 0) (hn : n ≤ 0) (b : Nat → Nat) (v : St) (r : (Int32 × Int32) ⊕ (Int32)) (hX : ∀ s : Int32 × Int32, r = .inl s → G x 3 k n (wI b v (cxT x)) [(1, .int s.1)] 30 []) (hR : ∀ t, r = .inr t → rt_X0_countSolutions x b v t) : ∀ (m : Nat) (s : Int32 × Int32), loopN (f_X0_countSolutions_s4 v) m s = some r → G x 3 k n (wI b v (cxT x)) [(0, .ref (b 0)), (1, .int s.1), (2, .int s.2)] 4 [] := by
  refine loop_W _ (fun (s : Int32 × Int32) => G x 3 k n (wI b v (cxT x)) [(0, .ref (b 0)), (1, .int s.1), (2, .int s.2)] 4 []) r ?_
  intro s ww hf hw
  unfold f_X0_countSolutions_s4 at hf
  obtain ⟨s_0, s_1⟩ := s
  try dsimp -simprocs only at hf ⊢
  refine g_iload_n o 2 rfl rfl dX0_countSolutions_4 ?_
  refine g_aload_n o 0 rfl rfl dX0_countSolutions_5 ?_
  obtain ⟨r5, hr5, hf⟩ := bd_some hf
  refine k_X0_wordCount_ o hr5 m_160 (Nat.le_of_ble_eq_true rfl) (Nat.le_of_ble_eq_true rfl) ⟨hk, hn⟩ dX0_countSolutions_6 ?_
  refine g_ic_ge (tgt := 30) o rfl dX0_countSolutions_9 hf (fun hc hf => ?_) (fun hc hf => ?_)
  · exact g_perm [1] rfl (hX _ (lf_x hf hw))
  · refine g_iload_n o 1 rfl rfl dX0_countSolutions_12 ?_
    refine g_aload_n o 0 rfl rfl dX0_countSolutions_13 ?_
    refine g_iload_n o 2 rfl rfl dX0_countSolutions_14 ?_
    refine g_iconst o ic_0 dX0_countSolutions_15 ?_
    obtain ⟨r6, hr6, hf⟩ := bd_some hf
    refine k_X0_solutionsIn_ o hr6 m_164 (Nat.le_of_ble_eq_true rfl) (Nat.le_of_ble_eq_true rfl) ⟨hk, hn⟩ dX0_countSolutions_16 ?_
    obtain ⟨r7, hr7, hf⟩ := bd_some hf
    refine k_J13_bitCount_95d88_ o hr7 m_194 (Nat.le_of_ble_eq_true rfl) (Nat.le_of_ble_eq_true rfl) ⟨hk, hn⟩ dX0_countSolutions_19 ?_
    refine g_iadd o dX0_countSolutions_22 ?_
    refine g_nmi hf (fun x8 hf => ?_)
    refine g_istore_n o [(1, .int x8), (0, .ref (b 0)), (2, .int s_1)] (Nat.le_of_ble_eq_true rfl) rfl rfl dX0_countSolutions_23 ?_
    refine g_iinc o [(2, .int (s_1 + 1)), (1, .int x8), (0, .ref (b 0))] 2 rfl (inc_1 _) (Nat.le_of_ble_eq_true rfl) rfl dX0_countSolutions_24 ?_
    refine g_goto (tgt := 4) o rfl dX0_countSolutions_27 ?_
    have hp := lf_c hf hw
    exact g_perm [2, 1, 0] rfl hp
set_option maxRecDepth 20000 in
set_option maxHeartbeats 2000000 in
theorem b_X0_countSolutions {x : Cx} (o : Ok x cX0_countSolutions 3 RX0 13 0 0) (b : Nat → Nat) (v : St) (t : Int32) (hf : f_X0_countSolutions v = some t) (hret : rt_X0_countSolutions x b v t) : G x 3 0 0 (wI b v (cxT x)) [(0, .ref (b 0))] 0 [] := by
  unfold f_X0_countSolutions at hf
  refine g_iconst o ic_0 dX0_countSolutions_0 ?_
  refine g_istore_n o [(1, .int 0), (0, .ref (b 0))] (Nat.le_of_ble_eq_true rfl) rfl rfl dX0_countSolutions_1 ?_
  refine g_iconst o ic_0 dX0_countSolutions_2 ?_
  refine g_istore_n o [(2, .int 0), (1, .int 0), (0, .ref (b 0))] (Nat.le_of_ble_eq_true rfl) rfl rfl dX0_countSolutions_3 ?_
  obtain ⟨r12, hr12, hxr12, hrr12⟩ := bl_some hf
  refine g_perm [2, 1, 0] rfl (b_X0_countSolutions_L4 o (Nat.le_of_ble_eq_true rfl) (Nat.le_of_ble_eq_true rfl) b v r12 (fun s4 hs => ?_) (fun t11 ht => ?_) FU (0, 0) hr12)
  · have hf := hxr12 s4 hs
    obtain ⟨s4_0, s4_1⟩ := s4
    try dsimp -simprocs only at hf ⊢
    refine g_iload_n o 0 rfl rfl dX0_countSolutions_30 ?_
    cases Option.some.inj hf
    exact g_iret hret (Nat.le_of_ble_eq_true rfl) (Nat.le_of_ble_eq_true rfl) (vp_nar_int _) dX0_countSolutions_31
  · have hf := hrr12 t11 ht
    cases Option.some.inj hf
    exact hret
theorem c_X0_countSolutions (l : Launch) (hst : l.stackTraces = false) (b : Nat → Nat) (v : St) (t : Int32) (hf : f_X0_countSolutions v = some t) : CoI l yX0_countSolutions (.code yX0_countSolutions cX0_countSolutions 3 (some .int)) 13 0 0 [.ref (b 0)] (wI b v) (wI b v) (.inl t) := mkI hst (by decide +kernel) (Nat.le_of_ble_eq_true rfl) (fun x _ o hI hX => b_X0_countSolutions o b v t hf (hI _ rfl))
theorem k_X0_countSolutions_NX {x : Cx} {cc : ByteArray} {nL : Nat} {own : String} {d mc ms k n : Nat} {lv : List (Nat × Value)} {pc i : Nat} {rest : List Value} {a c : Nat → Nat} {u w : St} {host : String} {b : Nat → Nat} {v : St} (o : Ok x cc nL own d mc ms) {t : Int32} (ht : f_X0_countSolutions v = some t) (hlk : Cond.methodLinkNest own i yX0_countSolutions host ∈ Ue) (hd : 13 < d) (hr : (rest.map fun v => v.category).sum ≤ 8) (hk : k + 0 ≤ mc ∧ n + 0 ≤ ms) (dg : decode cc pc = .ok (.invokevirtual i, 3)) (kk : G x nL (k + 0) (n + 0) (wX a u b v c w (cxT x)) lv (pc + 3) (.int t :: rest)) : G x nL k n (wX a u b v c w (cxT x)) lv pc (.ref (b 0) :: rest) := gcI (wd2 := (wX a u b v c w (cxT x))) o (c_X0_countSolutions (cxl x) o.2.2.2.2.2.2.2.2.2.1 b v t ht) (can_VN (q0 := 5) o rfl rfl hd (Nat.le_of_ble_eq_true rfl) m_159 m_55 m_158 m_0 hlk yk_X0_countSolutions rfl hr hk dg) sp_XI (fun E h => by cases h) (fun r h => by cases h; exact kk)
def rt_X0_greatestAssignment (x : Cx) (b : Nat → Nat) (v : St) (t : Int32) : Prop := RetI x cX0_greatestAssignment .int 0 0 (wI b v (cxT x)) t
set_option maxRecDepth 20000 in
set_option maxHeartbeats 2000000 in
theorem b_X0_greatestAssignment {x : Cx} (o : Ok x cX0_greatestAssignment 1 RX0 0 0 0) (b : Nat → Nat) (v : St) (t : Int32) (hf : f_X0_greatestAssignment v = some t) (hret : rt_X0_greatestAssignment x b v t) : G x 1 0 0 (wI b v (cxT x)) [(0, .ref (b 0))] 0 [] := by
  unfold f_X0_greatestAssignment at hf
  refine g_iconst o ic_1 dX0_greatestAssignment_0 ?_
  refine g_aload_n o 0 rfl rfl dX0_greatestAssignment_1 ?_
  refine I_get3 o m_88 dX0_greatestAssignment_2 ?_
  refine g_ishl o dX0_greatestAssignment_5 ?_
  refine g_iconst o ic_1 dX0_greatestAssignment_6 ?_
  refine g_isub o dX0_greatestAssignment_7 ?_
  cases Option.some.inj hf
  exact g_iret hret (Nat.le_of_ble_eq_true rfl) (Nat.le_of_ble_eq_true rfl) (vp_nar_int _) dX0_greatestAssignment_8
theorem c_X0_greatestAssignment (l : Launch) (hst : l.stackTraces = false) (b : Nat → Nat) (v : St) (t : Int32) (hf : f_X0_greatestAssignment v = some t) : CoI l yX0_greatestAssignment (.code yX0_greatestAssignment cX0_greatestAssignment 1 (some .int)) 0 0 0 [.ref (b 0)] (wI b v) (wI b v) (.inl t) := mkI hst (by decide +kernel) (Nat.le_of_ble_eq_true rfl) (fun x _ o hI hX => b_X0_greatestAssignment o b v t hf (hI _ rfl))
theorem k_X0_greatestAssignment_NX {x : Cx} {cc : ByteArray} {nL : Nat} {own : String} {d mc ms k n : Nat} {lv : List (Nat × Value)} {pc i : Nat} {rest : List Value} {a c : Nat → Nat} {u w : St} {host : String} {b : Nat → Nat} {v : St} (o : Ok x cc nL own d mc ms) {t : Int32} (ht : f_X0_greatestAssignment v = some t) (hlk : Cond.methodLinkNest own i yX0_greatestAssignment host ∈ Ue) (hd : 0 < d) (hr : (rest.map fun v => v.category).sum ≤ 8) (hk : k + 0 ≤ mc ∧ n + 0 ≤ ms) (dg : decode cc pc = .ok (.invokevirtual i, 3)) (kk : G x nL (k + 0) (n + 0) (wX a u b v c w (cxT x)) lv (pc + 3) (.int t :: rest)) : G x nL k n (wX a u b v c w (cxT x)) lv pc (.ref (b 0) :: rest) := gcI (wd2 := (wX a u b v c w (cxT x))) o (c_X0_greatestAssignment (cxl x) o.2.2.2.2.2.2.2.2.2.1 b v t ht) (can_VN (q0 := 5) o rfl rfl hd (Nat.le_of_ble_eq_true rfl) m_748 m_55 m_747 m_23 hlk yk_X0_greatestAssignment rfl hr hk dg) sp_XI (fun E h => by cases h) (fun r h => by cases h; exact kk)
def rt_X0_isSatisfied (x : Cx) (b : Nat → Nat) (v : St) (t : Int32) : Prop := RetI x cX0_isSatisfied .boolean 0 0 (wI b v (cxT x)) t
set_option maxRecDepth 20000 in
set_option maxHeartbeats 2000000 in
theorem b_X0_isSatisfied_L13 {x : Cx} (o : Ok x cX0_isSatisfied 6 RX0 1 0 0) {k n : Nat} (hk : k ≤ 0) (hn : n ≤ 0) (b : Nat → Nat) (v : St) (c1 : Int32) (c2 : Int32) (c3 : Int32) (r : (Int32 × Int32) ⊕ (Int32)) (hX : ∀ s : Int32 × Int32, r = .inl s → G x 6 k n (wI b v (cxT x)) [(0, .ref (b 0)), (3, .int c3), (4, .int s.1)] 57 []) (hR : ∀ t, r = .inr t → rt_X0_isSatisfied x b v t) : ∀ (m : Nat) (s : Int32 × Int32), loopN (f_X0_isSatisfied_s13 v c1 c2 c3) m s = some r → G x 6 k n (wI b v (cxT x)) [(0, .ref (b 0)), (1, .int c1), (2, .int c2), (3, .int c3), (4, .int s.1), (5, .int s.2)] 13 [] := by
  refine loop_W _ (fun (s : Int32 × Int32) => G x 6 k n (wI b v (cxT x)) [(0, .ref (b 0)), (1, .int c1), (2, .int c2), (3, .int c3), (4, .int s.1), (5, .int s.2)] 13 []) r ?_
  intro s ww hf hw
  unfold f_X0_isSatisfied_s13 at hf
  obtain ⟨s_0, s_1⟩ := s
  try dsimp -simprocs only at hf ⊢
  refine g_iload o 5 rfl dX0_isSatisfied_13 ?_
  refine g_aload_n o 0 rfl rfl dX0_isSatisfied_15 ?_
  refine I_get1 o m_84 dX0_isSatisfied_16 ?_
  refine g_iload_n o 3 rfl rfl dX0_isSatisfied_19 ?_
  refine I_ld1 o dX0_isSatisfied_20 hf (fun hf => ?_)
  refine g_ic_ge (tgt := 57) o rfl dX0_isSatisfied_21 hf (fun hc hf => ?_) (fun hc hf => ?_)
  · exact g_perm [0, 3, 4] rfl (hX _ (lf_x hf hw))
  · refine g_iload_n o 2 rfl rfl dX0_isSatisfied_24 ?_
    refine g_aload_n o 0 rfl rfl dX0_isSatisfied_25 ?_
    refine I_get6 o m_94 dX0_isSatisfied_26 ?_
    refine g_iload_n o 1 rfl rfl dX0_isSatisfied_29 ?_
    refine I_ld6 o dX0_isSatisfied_30 hf (fun hf => ?_)
    refine g_iload o 5 rfl dX0_isSatisfied_31 ?_
    obtain ⟨r5, hr5, hf⟩ := bd_some hf
    refine k_X0_variableAt_ o hr5 m_186 (Nat.le_of_ble_eq_true rfl) (Nat.le_of_ble_eq_true rfl) ⟨hk, hn⟩ dX0_isSatisfied_33 ?_
    obtain ⟨r6, hr6, hf⟩ := bd_some hf
    refine k_X1_has_N o hr6 e_173 (Nat.le_of_ble_eq_true rfl) (Nat.le_of_ble_eq_true rfl) ⟨hk, hn⟩ dX0_isSatisfied_36 ?_
    refine g_if_eq (tgt := 51) o rfl dX0_isSatisfied_39 hf (fun hc hf => ?_) (fun hc hf => ?_)
    · refine g_iinc o [(5, .int (s_1 + 1)), (0, .ref (b 0)), (1, .int c1), (2, .int c2), (3, .int c3), (4, .int s_0)] 5 rfl (inc_1 _) (Nat.le_of_ble_eq_true rfl) rfl dX0_isSatisfied_51 ?_
      refine g_goto (tgt := 13) o rfl dX0_isSatisfied_54 ?_
      have hp := lf_c hf hw
      exact g_perm [1, 2, 3, 4, 5, 0] rfl hp
    · refine g_iload o 4 rfl dX0_isSatisfied_42 ?_
      refine g_iconst o ic_1 dX0_isSatisfied_44 ?_
      refine g_iload o 5 rfl dX0_isSatisfied_45 ?_
      refine g_ishl o dX0_isSatisfied_47 ?_
      refine g_ior o dX0_isSatisfied_48 ?_
      refine g_nmi hf (fun x7 hf => ?_)
      refine g_istore o [(4, .int x7), (0, .ref (b 0)), (1, .int c1), (2, .int c2), (3, .int c3), (5, .int s_1)] (Nat.le_of_ble_eq_true rfl) rfl dX0_isSatisfied_49 ?_
      refine g_iinc o [(5, .int (s_1 + 1)), (4, .int x7), (0, .ref (b 0)), (1, .int c1), (2, .int c2), (3, .int c3)] 5 rfl (inc_1 _) (Nat.le_of_ble_eq_true rfl) rfl dX0_isSatisfied_51 ?_
      refine g_goto (tgt := 13) o rfl dX0_isSatisfied_54 ?_
      have hp := lf_c hf hw
      exact g_perm [2, 3, 4, 5, 1, 0] rfl hp
set_option maxRecDepth 20000 in
set_option maxHeartbeats 2000000 in
theorem b_X0_isSatisfied {x : Cx} (o : Ok x cX0_isSatisfied 6 RX0 1 0 0) (b : Nat → Nat) (v : St) (p0 : Int32) (p1 : Int32) (t : Int32) (hf : f_X0_isSatisfied v p0 p1 = some t) (hret : rt_X0_isSatisfied x b v t) : G x 6 0 0 (wI b v (cxT x)) [(0, .ref (b 0)), (1, .int p0), (2, .int p1)] 0 [] := by
  unfold f_X0_isSatisfied at hf
  refine g_aload_n o 0 rfl rfl dX0_isSatisfied_0 ?_
  refine I_get5 o m_92 dX0_isSatisfied_1 ?_
  refine g_iload_n o 1 rfl rfl dX0_isSatisfied_4 ?_
  refine I_ld5 o dX0_isSatisfied_5 hf (fun hf => ?_)
  refine g_nmi hf (fun x11 hf => ?_)
  refine g_istore_n o [(3, .int x11), (0, .ref (b 0)), (1, .int p0), (2, .int p1)] (Nat.le_of_ble_eq_true rfl) rfl rfl dX0_isSatisfied_6 ?_
  refine g_iconst o ic_0 dX0_isSatisfied_7 ?_
  refine g_istore o [(4, .int 0), (3, .int x11), (0, .ref (b 0)), (1, .int p0), (2, .int p1)] (Nat.le_of_ble_eq_true rfl) rfl dX0_isSatisfied_8 ?_
  refine g_iconst o ic_0 dX0_isSatisfied_10 ?_
  refine g_istore o [(5, .int 0), (4, .int 0), (3, .int x11), (0, .ref (b 0)), (1, .int p0), (2, .int p1)] (Nat.le_of_ble_eq_true rfl) rfl dX0_isSatisfied_11 ?_
  obtain ⟨r13, hr13, hxr13, hrr13⟩ := bl_some hf
  refine g_perm [3, 4, 5, 2, 1, 0] rfl (b_X0_isSatisfied_L13 o (Nat.le_of_ble_eq_true rfl) (Nat.le_of_ble_eq_true rfl) b v p0 p1 x11 r13 (fun s13 hs => ?_) (fun t12 ht => ?_) FU (0, 0) hr13)
  · have hf := hxr13 s13 hs
    obtain ⟨s13_0, s13_1⟩ := s13
    try dsimp -simprocs only at hf ⊢
    refine g_aload_n o 0 rfl rfl dX0_isSatisfied_57 ?_
    refine I_get2 o m_86 dX0_isSatisfied_58 ?_
    refine g_iload_n o 1 rfl rfl dX0_isSatisfied_61 ?_
    refine I_ld2 o dX0_isSatisfied_62 hf (fun hf => ?_)
    refine g_iload o 2 rfl dX0_isSatisfied_63 ?_
    obtain ⟨r14, hr14, hf⟩ := bd_some hf
    refine k_X1_has_N o hr14 e_173 (Nat.le_of_ble_eq_true rfl) (Nat.le_of_ble_eq_true rfl) ⟨(Nat.le_of_ble_eq_true rfl), (Nat.le_of_ble_eq_true rfl)⟩ dX0_isSatisfied_65 ?_
    obtain ⟨hb, hf⟩ := gd_some hf
    cases Option.some.inj hf
    exact g_iret hret (Nat.le_of_ble_eq_true rfl) (Nat.le_of_ble_eq_true rfl) (okB_n hb) dX0_isSatisfied_68
  · have hf := hrr13 t12 ht
    cases Option.some.inj hf
    exact hret
theorem c_X0_isSatisfied (l : Launch) (hst : l.stackTraces = false) (b : Nat → Nat) (v : St) (p0 : Int32) (p1 : Int32) (t : Int32) (hf : f_X0_isSatisfied v p0 p1 = some t) : CoI l yX0_isSatisfied (.code yX0_isSatisfied cX0_isSatisfied 6 (some .boolean)) 1 0 0 [.ref (b 0), .int p0, .int p1] (wI b v) (wI b v) (.inl t) := mkI hst (by decide +kernel) (Nat.le_of_ble_eq_true rfl) (fun x _ o hI hX => b_X0_isSatisfied o b v p0 p1 t hf (hI _ rfl))
theorem k_X0_isSatisfied_NX {x : Cx} {cc : ByteArray} {nL : Nat} {own : String} {d mc ms k n : Nat} {lv : List (Nat × Value)} {pc i : Nat} {rest : List Value} {a c : Nat → Nat} {u w : St} {host : String} {b : Nat → Nat} {v : St} {p0 : Int32} {p1 : Int32} (o : Ok x cc nL own d mc ms) {t : Int32} (ht : f_X0_isSatisfied v p0 p1 = some t) (hlk : Cond.methodLinkNest own i yX0_isSatisfied host ∈ Ue) (hd : 1 < d) (hr : (rest.map fun v => v.category).sum ≤ 8) (hk : k + 0 ≤ mc ∧ n + 0 ≤ ms) (dg : decode cc pc = .ok (.invokevirtual i, 3)) (kk : G x nL (k + 0) (n + 0) (wX a u b v c w (cxT x)) lv (pc + 3) (.int t :: rest)) : G x nL k n (wX a u b v c w (cxT x)) lv pc (.int p1 :: .int p0 :: .ref (b 0) :: rest) := gcI (wd2 := (wX a u b v c w (cxT x))) o (c_X0_isSatisfied (cxl x) o.2.2.2.2.2.2.2.2.2.1 b v p0 p1 t ht) (can_VN (q0 := 5) o rfl rfl hd (Nat.le_of_ble_eq_true rfl) m_797 m_55 m_796 m_26 hlk yk_X0_isSatisfied rfl hr hk dg) sp_XI (fun E h => by cases h) (fun r h => by cases h; exact kk)
def rt_X0_assignmentsWith (x : Cx) (t : Int64) : Prop := RetL x cX0_assignmentsWith 0 0 (w0 (cxT x)) t
set_option maxRecDepth 20000 in
set_option maxHeartbeats 2000000 in
theorem b_X0_assignmentsWith {x : Cx} (o : Ok x cX0_assignmentsWith 5 RX0 2 0 0) (p0 : Int32) (p1 : Int32) (p2 : Int32) (t : Int64) (hf : f_X0_assignmentsWith p0 p1 p2 = some t) (hret : rt_X0_assignmentsWith x  t) : G x 5 0 0 (w0 (cxT x)) [(0, .int p0), (1, .int p1), (2, .int p2)] 0 [] := by
  unfold f_X0_assignmentsWith at hf
  refine g_iload_n o 0 rfl rfl dX0_assignmentsWith_0 ?_
  refine g_iload_n o 2 rfl rfl dX0_assignmentsWith_1 ?_
  obtain ⟨r2, hr2, hf⟩ := bd_some hf
  refine k_X0_assignmentsWithOne_ o hr2 m_189 (Nat.le_of_ble_eq_true rfl) (Nat.le_of_ble_eq_true rfl) ⟨(Nat.le_of_ble_eq_true rfl), (Nat.le_of_ble_eq_true rfl)⟩ dX0_assignmentsWith_2 ?_
  refine g_lstore_n o [(3, .long r2), (0, .int p0), (1, .int p1), (2, .int p2)] (Nat.le_of_ble_eq_true rfl) rfl rfl dX0_assignmentsWith_5 ?_
  refine g_iload_n o 2 rfl rfl dX0_assignmentsWith_6 ?_
  refine g_iconst o ic_1 dX0_assignmentsWith_7 ?_
  refine g_ic_ne (tgt := 15) o rfl dX0_assignmentsWith_8 hf (fun hc hf => ?_) (fun hc hf => ?_)
  · refine g_lload_n o 0 rfl rfl dX0_assignmentsWith_15 ?_
    refine g_ldc2 o m_172 dX0_assignmentsWith_16 ?_
    refine g_lxor o dX0_assignmentsWith_19 ?_
    cases Option.some.inj hf
    exact g_lret hret (Nat.le_of_ble_eq_true rfl) (Nat.le_of_ble_eq_true rfl) dX0_assignmentsWith_20
  · refine g_lload_n o 0 rfl rfl dX0_assignmentsWith_11 ?_
    refine g_goto (tgt := 20) o rfl dX0_assignmentsWith_12 ?_
    cases Option.some.inj hf
    exact g_lret hret (Nat.le_of_ble_eq_true rfl) (Nat.le_of_ble_eq_true rfl) dX0_assignmentsWith_20
theorem c_X0_assignmentsWith (l : Launch) (hst : l.stackTraces = false) (p0 : Int32) (p1 : Int32) (p2 : Int32) (t : Int64) (hf : f_X0_assignmentsWith p0 p1 p2 = some t) : CoL l yX0_assignmentsWith (.code yX0_assignmentsWith cX0_assignmentsWith 5 (some .long)) 2 0 0 [.int p0, .int p1, .int p2] w0 w0 (.inl t) := mkL hst (by decide +kernel) (Nat.le_of_ble_eq_true rfl) (fun x _ o hI hX => b_X0_assignmentsWith o p0 p1 p2 t hf (hI _ rfl))
theorem k_X0_assignmentsWith_ {x : Cx} {cc : ByteArray} {nL : Nat} {own : String} {d mc ms k n : Nat} {lv : List (Nat × Value)} {pc i : Nat} {rest : List Value} {wd : va_W} {p0 : Int32} {p1 : Int32} {p2 : Int32} (o : Ok x cc nL own d mc ms) {t : Int64} (ht : f_X0_assignmentsWith p0 p1 p2 = some t) (hlk : Cond.methodLink own i yX0_assignmentsWith ∈ Ug) (hd : 2 < d) (hr : (rest.map fun v => v.category).sum ≤ 8) (hk : k + 0 ≤ mc ∧ n + 0 ≤ ms) (dg : decode cc pc = .ok (.invokestatic i, 3)) (kk : G x nL (k + 0) (n + 0) wd lv (pc + 3) (.long t :: rest)) : G x nL k n wd lv pc (.int p2 :: .int p1 :: .int p0 :: rest) := gcL (wd2 := wd) o (c_X0_assignmentsWith (cxl x) o.2.2.2.2.2.2.2.2.2.1 p0 p1 p2 t ht) (can_S o hd (Nat.le_of_ble_eq_true rfl) m_711 m_55 m_710 hlk yk_X0_assignmentsWith rfl hr hk dg) sp_none (fun E h => by cases h) (fun r h => by cases h; exact kk)
def rt_X0_variablesThatTake (x : Cx) (b : Nat → Nat) (v : St) (t : Int32) : Prop := RetI x cX0_variablesThatTake .int 0 0 (wI b v (cxT x)) t
set_option maxRecDepth 20000 in
set_option maxHeartbeats 2000000 in
theorem b_X0_variablesThatTake_L23 {x : Cx} (o : Ok x cX0_variablesThatTake 7 RX0 13 0 0) {k n : Nat} (hk : k ≤ 0) (hn : n ≤ 0) (b : Nat → Nat) (v : St) (c1 : Int32) (c3 : Int32) (c4 : Int64) (r : (Int32 × Int32) ⊕ (Int32)) (hX : ∀ s : Int32 × Int32, r = .inl s → G x 7 k n (wI b v (cxT x)) [(0, .ref (b 0)), (1, .int c1), (2, .int s.1), (3, .int c3)] 60 []) (hR : ∀ t, r = .inr t → rt_X0_variablesThatTake x b v t) : ∀ (m : Nat) (s : Int32 × Int32), loopN (f_X0_variablesThatTake_s23 v c1 c3 c4) m s = some r → G x 7 k n (wI b v (cxT x)) [(0, .ref (b 0)), (1, .int c1), (2, .int s.1), (3, .int c3), (4, .long c4), (6, .int s.2)] 23 [] := by
  refine loop_W _ (fun (s : Int32 × Int32) => G x 7 k n (wI b v (cxT x)) [(0, .ref (b 0)), (1, .int c1), (2, .int s.1), (3, .int c3), (4, .long c4), (6, .int s.2)] 23 []) r ?_
  intro s ww hf hw
  unfold f_X0_variablesThatTake_s23 at hf
  obtain ⟨s_0, s_1⟩ := s
  try dsimp -simprocs only at hf ⊢
  refine g_iload o 5 rfl dX0_variablesThatTake_23 ?_
  refine g_aload_n o 0 rfl rfl dX0_variablesThatTake_25 ?_
  refine I_get3 o m_88 dX0_variablesThatTake_26 ?_
  refine g_ic_ge (tgt := 60) o rfl dX0_variablesThatTake_29 hf (fun hc hf => ?_) (fun hc hf => ?_)
  · exact g_perm [0, 1, 2, 3] rfl (hX _ (lf_x hf hw))
  · refine g_lload o 4 rfl dX0_variablesThatTake_32 ?_
    refine g_iload o 5 rfl dX0_variablesThatTake_34 ?_
    refine g_iload_n o 1 rfl rfl dX0_variablesThatTake_36 ?_
    refine g_iload_n o 3 rfl rfl dX0_variablesThatTake_37 ?_
    obtain ⟨r5, hr5, hf⟩ := bd_some hf
    refine k_X0_assignmentsWith_ o hr5 m_709 (Nat.le_of_ble_eq_true rfl) (Nat.le_of_ble_eq_true rfl) ⟨hk, hn⟩ dX0_variablesThatTake_38 ?_
    refine g_land o dX0_variablesThatTake_41 ?_
    refine g_lconst o lc_0 dX0_variablesThatTake_42 ?_
    refine g_lcmp o dX0_variablesThatTake_43 ?_
    refine g_if_eq (tgt := 54) o rfl dX0_variablesThatTake_44 hf (fun hc hf => ?_) (fun hc hf => ?_)
    · refine g_iinc o [(6, .int (s_1 + 1)), (0, .ref (b 0)), (1, .int c1), (2, .int s_0), (3, .int c3), (4, .long c4)] 5 rfl (inc_1 _) (Nat.le_of_ble_eq_true rfl) rfl dX0_variablesThatTake_54 ?_
      refine g_goto (tgt := 23) o rfl dX0_variablesThatTake_57 ?_
      have hp := lf_c hf hw
      exact g_perm [1, 2, 3, 4, 5, 0] rfl hp
    · refine g_iload_n o 2 rfl rfl dX0_variablesThatTake_47 ?_
      refine g_iconst o ic_1 dX0_variablesThatTake_48 ?_
      refine g_iload o 5 rfl dX0_variablesThatTake_49 ?_
      refine g_ishl o dX0_variablesThatTake_51 ?_
      refine g_ior o dX0_variablesThatTake_52 ?_
      refine g_nmi hf (fun x6 hf => ?_)
      refine g_istore_n o [(2, .int x6), (0, .ref (b 0)), (1, .int c1), (3, .int c3), (4, .long c4), (6, .int s_1)] (Nat.le_of_ble_eq_true rfl) rfl rfl dX0_variablesThatTake_53 ?_
      refine g_iinc o [(6, .int (s_1 + 1)), (2, .int x6), (0, .ref (b 0)), (1, .int c1), (3, .int c3), (4, .long c4)] 5 rfl (inc_1 _) (Nat.le_of_ble_eq_true rfl) rfl dX0_variablesThatTake_54 ?_
      refine g_goto (tgt := 23) o rfl dX0_variablesThatTake_57 ?_
      have hp := lf_c hf hw
      exact g_perm [2, 3, 1, 4, 5, 0] rfl hp
set_option maxRecDepth 20000 in
set_option maxHeartbeats 2000000 in
theorem b_X0_variablesThatTake_L4 {x : Cx} (o : Ok x cX0_variablesThatTake 7 RX0 13 0 0) {k n : Nat} (hk : k ≤ 0) (hn : n ≤ 0) (b : Nat → Nat) (v : St) (c1 : Int32) (r : (Int32 × Int32) ⊕ (Int32)) (hX : ∀ s : Int32 × Int32, r = .inl s → G x 7 k n (wI b v (cxT x)) [(2, .int s.1)] 66 []) (hR : ∀ t, r = .inr t → rt_X0_variablesThatTake x b v t) : ∀ (m : Nat) (s : Int32 × Int32), loopN (f_X0_variablesThatTake_s4 v c1) m s = some r → G x 7 k n (wI b v (cxT x)) [(0, .ref (b 0)), (1, .int c1), (2, .int s.1), (3, .int s.2)] 4 [] := by
  refine loop_W _ (fun (s : Int32 × Int32) => G x 7 k n (wI b v (cxT x)) [(0, .ref (b 0)), (1, .int c1), (2, .int s.1), (3, .int s.2)] 4 []) r ?_
  intro s ww hf hw
  unfold f_X0_variablesThatTake_s4 at hf
  obtain ⟨s_0, s_1⟩ := s
  try dsimp -simprocs only at hf ⊢
  refine g_iload_n o 3 rfl rfl dX0_variablesThatTake_4 ?_
  refine g_aload_n o 0 rfl rfl dX0_variablesThatTake_5 ?_
  obtain ⟨r10, hr10, hf⟩ := bd_some hf
  refine k_X0_wordCount_ o hr10 m_160 (Nat.le_of_ble_eq_true rfl) (Nat.le_of_ble_eq_true rfl) ⟨hk, hn⟩ dX0_variablesThatTake_6 ?_
  refine g_ic_ge (tgt := 66) o rfl dX0_variablesThatTake_9 hf (fun hc hf => ?_) (fun hc hf => ?_)
  · exact g_perm [2] rfl (hX _ (lf_x hf hw))
  · refine g_aload_n o 0 rfl rfl dX0_variablesThatTake_12 ?_
    refine g_iload_n o 3 rfl rfl dX0_variablesThatTake_13 ?_
    refine g_iconst o ic_0 dX0_variablesThatTake_14 ?_
    obtain ⟨r11, hr11, hf⟩ := bd_some hf
    refine k_X0_solutionsIn_ o hr11 m_164 (Nat.le_of_ble_eq_true rfl) (Nat.le_of_ble_eq_true rfl) ⟨hk, hn⟩ dX0_variablesThatTake_15 ?_
    refine g_lstore o [(4, .long r11), (0, .ref (b 0)), (1, .int c1), (2, .int s_0), (3, .int s_1)] (Nat.le_of_ble_eq_true rfl) rfl dX0_variablesThatTake_18 ?_
    refine g_iconst o ic_0 dX0_variablesThatTake_20 ?_
    refine g_istore o [(6, .int 0), (4, .long r11), (0, .ref (b 0)), (1, .int c1), (2, .int s_0), (3, .int s_1)] (Nat.le_of_ble_eq_true rfl) rfl dX0_variablesThatTake_21 ?_
    obtain ⟨r14, hr14, hxr14, hrr14⟩ := bl_some hf
    refine g_perm [2, 3, 4, 5, 1, 0] rfl (b_X0_variablesThatTake_L23 o hk hn b v c1 s_1 r11 r14 (fun s23_12 hs => ?_) (fun t13 ht => ?_) FU (s_0, 0) hr14)
    · have hf := hxr14 s23_12 hs
      obtain ⟨s23_12_0, s23_12_1⟩ := s23_12
      try dsimp -simprocs only at hf ⊢
      refine g_iinc o [(3, .int (s_1 + 1)), (0, .ref (b 0)), (1, .int c1), (2, .int s23_12_0)] 3 rfl (inc_1 _) (Nat.le_of_ble_eq_true rfl) rfl dX0_variablesThatTake_60 ?_
      refine g_goto (tgt := 4) o rfl dX0_variablesThatTake_63 ?_
      have hp := lf_c hf hw
      exact g_perm [1, 2, 3, 0] rfl hp
    · have hf := hrr14 t13 ht
      exact hR t13 (lf_x hf hw)
set_option maxRecDepth 20000 in
set_option maxHeartbeats 2000000 in
theorem b_X0_variablesThatTake {x : Cx} (o : Ok x cX0_variablesThatTake 7 RX0 13 0 0) (b : Nat → Nat) (v : St) (p0 : Int32) (t : Int32) (hf : f_X0_variablesThatTake v p0 = some t) (hret : rt_X0_variablesThatTake x b v t) : G x 7 0 0 (wI b v (cxT x)) [(0, .ref (b 0)), (1, .int p0)] 0 [] := by
  unfold f_X0_variablesThatTake at hf
  refine g_iconst o ic_0 dX0_variablesThatTake_0 ?_
  refine g_istore_n o [(2, .int 0), (0, .ref (b 0)), (1, .int p0)] (Nat.le_of_ble_eq_true rfl) rfl rfl dX0_variablesThatTake_1 ?_
  refine g_iconst o ic_0 dX0_variablesThatTake_2 ?_
  refine g_istore_n o [(3, .int 0), (2, .int 0), (0, .ref (b 0)), (1, .int p0)] (Nat.le_of_ble_eq_true rfl) rfl rfl dX0_variablesThatTake_3 ?_
  obtain ⟨r18, hr18, hxr18, hrr18⟩ := bl_some hf
  refine g_perm [2, 3, 1, 0] rfl (b_X0_variablesThatTake_L4 o (Nat.le_of_ble_eq_true rfl) (Nat.le_of_ble_eq_true rfl) b v p0 r18 (fun s4 hs => ?_) (fun t17 ht => ?_) FU (0, 0) hr18)
  · have hf := hxr18 s4 hs
    obtain ⟨s4_0, s4_1⟩ := s4
    try dsimp -simprocs only at hf ⊢
    refine g_iload_n o 0 rfl rfl dX0_variablesThatTake_66 ?_
    cases Option.some.inj hf
    exact g_iret hret (Nat.le_of_ble_eq_true rfl) (Nat.le_of_ble_eq_true rfl) (vp_nar_int _) dX0_variablesThatTake_67
  · have hf := hrr18 t17 ht
    cases Option.some.inj hf
    exact hret
theorem c_X0_variablesThatTake (l : Launch) (hst : l.stackTraces = false) (b : Nat → Nat) (v : St) (p0 : Int32) (t : Int32) (hf : f_X0_variablesThatTake v p0 = some t) : CoI l yX0_variablesThatTake (.code yX0_variablesThatTake cX0_variablesThatTake 7 (some .int)) 13 0 0 [.ref (b 0), .int p0] (wI b v) (wI b v) (.inl t) := mkI hst (by decide +kernel) (Nat.le_of_ble_eq_true rfl) (fun x _ o hI hX => b_X0_variablesThatTake o b v p0 t hf (hI _ rfl))
theorem k_X0_variablesThatTake_NX {x : Cx} {cc : ByteArray} {nL : Nat} {own : String} {d mc ms k n : Nat} {lv : List (Nat × Value)} {pc i : Nat} {rest : List Value} {a c : Nat → Nat} {u w : St} {host : String} {b : Nat → Nat} {v : St} {p0 : Int32} (o : Ok x cc nL own d mc ms) {t : Int32} (ht : f_X0_variablesThatTake v p0 = some t) (hlk : Cond.methodLinkNest own i yX0_variablesThatTake host ∈ Ue) (hd : 13 < d) (hr : (rest.map fun v => v.category).sum ≤ 8) (hk : k + 0 ≤ mc ∧ n + 0 ≤ ms) (dg : decode cc pc = .ok (.invokevirtual i, 3)) (kk : G x nL (k + 0) (n + 0) (wX a u b v c w (cxT x)) lv (pc + 3) (.int t :: rest)) : G x nL k n (wX a u b v c w (cxT x)) lv pc (.int p0 :: .ref (b 0) :: rest) := gcI (wd2 := (wX a u b v c w (cxT x))) o (c_X0_variablesThatTake (cxl x) o.2.2.2.2.2.2.2.2.2.1 b v p0 t ht) (can_VN (q0 := 5) o rfl rfl hd (Nat.le_of_ble_eq_true rfl) m_708 m_55 m_707 m_20 hlk yk_X0_variablesThatTake rfl hr hk dg) sp_XI (fun E h => by cases h) (fun r h => by cases h; exact kk)
def rt_X1_requireKind (x : Cx) (t : (Unit ⊕ String)) : Prop := (t = .inl () → RetV x cX1_requireKind 1 6 (w0 (cxT x))) ∧ ∀ E, t = .inr E → RetX x 1 6 (w0 (cxT x)) E
set_option maxRecDepth 20000 in
set_option maxHeartbeats 2000000 in
theorem b_X1_requireKind {x : Cx} (o : Ok x cX1_requireKind 1 RX1 0 1 6) (p0 : Int32) (t : (Unit ⊕ String)) (hf : f_X1_requireKind p0 = some t) (hret : rt_X1_requireKind x  t) : G x 1 0 0 (w0 (cxT x)) [(0, .int p0)] 0 [] := by
  unfold f_X1_requireKind at hf
  refine g_iload_n o 0 rfl rfl dX1_requireKind_0 ?_
  refine g_if_lt (tgt := 10) o rfl dX1_requireKind_1 hf (fun hc hf => ?_) (fun hc hf => ?_)
  · cases Option.some.inj hf
    exact g_throwSW o (hret.2 _ rfl) fit_ia fit_re rfl m_241 m_60 st_291 at_63 go_63 dX1_requireKind_10 dX1_requireKind_13 dX1_requireKind_14 dX1_requireKind_17 dX1_requireKind_20 (Nat.le_of_ble_eq_true rfl) (Nat.le_of_ble_eq_true rfl)
  · refine g_iload_n o 0 rfl rfl dX1_requireKind_4 ?_
    refine g_bipush o bp_6 dX1_requireKind_5 ?_
    refine g_ic_lt (tgt := 21) o rfl dX1_requireKind_7 hf (fun hc hf => ?_) (fun hc hf => ?_)
    · cases Option.some.inj hf
      exact g_vret (hret.1 rfl) (Nat.le_of_ble_eq_true rfl) (Nat.le_of_ble_eq_true rfl) dX1_requireKind_21
    · cases Option.some.inj hf
      exact g_throwSW o (hret.2 _ rfl) fit_ia fit_re rfl m_241 m_60 st_291 at_63 go_63 dX1_requireKind_10 dX1_requireKind_13 dX1_requireKind_14 dX1_requireKind_17 dX1_requireKind_20 (Nat.le_of_ble_eq_true rfl) (Nat.le_of_ble_eq_true rfl)
theorem c_X1_requireKind (l : Launch) (hst : l.stackTraces = false) (p0 : Int32) (t : (Unit ⊕ String)) (hf : f_X1_requireKind p0 = some t) : CoV l yX1_requireKind (.code yX1_requireKind cX1_requireKind 1 none) 0 1 6 [.int p0] w0 w0 (t) := mkV hst (by decide +kernel) (Nat.le_of_ble_eq_true rfl) (fun x _ o hI hX => b_X1_requireKind o p0 t hf ⟨hI, hX⟩)
theorem k_X1_requireKind_n {x : Cx} {cc : ByteArray} {nL : Nat} {own : String} {d mc ms k n : Nat} {lv : List (Nat × Value)} {pc i : Nat} {rest : List Value} {wd : va_W} {p0 : Int32} (o : Ok x cc nL own d mc ms) {r : Unit} (ht : f_X1_requireKind p0 = some (.inl r)) (hlk : Cond.methodLink own i yX1_requireKind ∈ Ug) (hd : 0 < d) (hr : (rest.map fun v => v.category).sum ≤ 8) (hk : k + 1 ≤ mc ∧ n + 6 ≤ ms) (dg : decode cc pc = .ok (.invokestatic i, 3)) (kk : G x nL (k + 1) (n + 6) wd lv (pc + 3) rest) : G x nL k n wd lv pc (.int p0 :: rest) := gcV (wd2 := wd) o (c_X1_requireKind (cxl x) o.2.2.2.2.2.2.2.2.2.1 p0 (.inl r) ht) (can_S o hd (Nat.le_of_ble_eq_true rfl) m_622 m_54 m_621 hlk yk_X1_requireKind rfl hr hk dg) sp_none (fun E h => by cases h) (fun h => kk)
theorem k_X1_requireKind_x {x : Cx} {cc : ByteArray} {nL : Nat} {own : String} {d mc ms k n : Nat} {lv : List (Nat × Value)} {pc i : Nat} {rest : List Value} {wd : va_W} {p0 : Int32} (o : Ok x cc nL own d mc ms) {E : String} (ht : f_X1_requireKind p0 = some (.inr E)) (hlk : Cond.methodLink own i yX1_requireKind ∈ Ug) (hd : 0 < d) (hr : (rest.map fun v => v.category).sum ≤ 8) (hk : k + 1 ≤ mc ∧ n + 6 ≤ ms) (dg : decode cc pc = .ok (.invokestatic i, 3)) (kk : XW x nL (k + 1) (n + 6) wd lv pc rest E) : G x nL k n wd lv pc (.int p0 :: rest) := gcV (wd2 := wd) o (c_X1_requireKind (cxl x) o.2.2.2.2.2.2.2.2.2.1 p0 (.inr E) ht) (can_S o hd (Nat.le_of_ble_eq_true rfl) m_622 m_54 m_621 hlk yk_X1_requireKind rfl hr hk dg) sp_none (fun E h => by cases h; exact kk) (fun h => by cases h)
def rt_X0_hasSolutionWith (x : Cx) (b : Nat → Nat) (v : St) (t : Int32) : Prop := RetI x cX0_hasSolutionWith .boolean 0 0 (wI b v (cxT x)) t
set_option maxRecDepth 20000 in
set_option maxHeartbeats 2000000 in
theorem b_X0_hasSolutionWith_L3 {x : Cx} (o : Ok x cX0_hasSolutionWith 8 RX0 13 0 0) {k n : Nat} (hk : k ≤ 0) (hn : n ≤ 0) (b : Nat → Nat) (v : St) (c1 : Int32) (c2 : Int32) (c3 : Int32) (c4 : Int32) (r : (Int32) ⊕ (Int32)) (hX : ∀ s : Int32, r = .inl s → G x 8 k n (wI b v (cxT x)) [] 53 []) (hR : ∀ t, r = .inr t → rt_X0_hasSolutionWith x b v t) : ∀ (m : Nat) (s : Int32), loopN (f_X0_hasSolutionWith_s3 v c1 c2 c3 c4) m s = some r → G x 8 k n (wI b v (cxT x)) [(0, .ref (b 0)), (1, .int c1), (2, .int c2), (3, .int c3), (4, .int c4), (5, .int s)] 3 [] := by
  refine loop_W _ (fun (s : Int32) => G x 8 k n (wI b v (cxT x)) [(0, .ref (b 0)), (1, .int c1), (2, .int c2), (3, .int c3), (4, .int c4), (5, .int s)] 3 []) r ?_
  intro s ww hf hw
  unfold f_X0_hasSolutionWith_s3 at hf
  refine g_iload o 5 rfl dX0_hasSolutionWith_3 ?_
  refine g_aload_n o 0 rfl rfl dX0_hasSolutionWith_5 ?_
  obtain ⟨r6, hr6, hf⟩ := bd_some hf
  refine k_X0_wordCount_ o hr6 m_160 (Nat.le_of_ble_eq_true rfl) (Nat.le_of_ble_eq_true rfl) ⟨hk, hn⟩ dX0_hasSolutionWith_6 ?_
  refine g_ic_ge (tgt := 53) o rfl dX0_hasSolutionWith_9 hf (fun hc hf => ?_) (fun hc hf => ?_)
  · exact g_perm [] rfl (hX _ (lf_x hf hw))
  · refine g_iload_n o 1 rfl rfl dX0_hasSolutionWith_12 ?_
    refine g_iload_n o 2 rfl rfl dX0_hasSolutionWith_13 ?_
    refine g_iload o 5 rfl dX0_hasSolutionWith_14 ?_
    obtain ⟨r7, hr7, hf⟩ := bd_some hf
    refine k_X0_assignmentsWith_ o hr7 m_709 (Nat.le_of_ble_eq_true rfl) (Nat.le_of_ble_eq_true rfl) ⟨hk, hn⟩ dX0_hasSolutionWith_16 ?_
    refine g_iload_n o 3 rfl rfl dX0_hasSolutionWith_19 ?_
    refine g_iload o 4 rfl dX0_hasSolutionWith_20 ?_
    refine g_iload o 5 rfl dX0_hasSolutionWith_22 ?_
    obtain ⟨r8, hr8, hf⟩ := bd_some hf
    refine k_X0_assignmentsWith_ o hr8 m_709 (Nat.le_of_ble_eq_true rfl) (Nat.le_of_ble_eq_true rfl) ⟨hk, hn⟩ dX0_hasSolutionWith_24 ?_
    refine g_land o dX0_hasSolutionWith_27 ?_
    refine g_nml hf (fun x9 hf => ?_)
    refine g_lstore o [(6, .long x9), (0, .ref (b 0)), (1, .int c1), (2, .int c2), (3, .int c3), (4, .int c4), (5, .int s)] (Nat.le_of_ble_eq_true rfl) rfl dX0_hasSolutionWith_28 ?_
    refine g_aload_n o 1 rfl rfl dX0_hasSolutionWith_30 ?_
    refine g_iload o 6 rfl dX0_hasSolutionWith_31 ?_
    refine g_iconst o ic_0 dX0_hasSolutionWith_33 ?_
    obtain ⟨r10, hr10, hf⟩ := bd_some hf
    refine k_X0_solutionsIn_ o hr10 m_164 (Nat.le_of_ble_eq_true rfl) (Nat.le_of_ble_eq_true rfl) ⟨hk, hn⟩ dX0_hasSolutionWith_34 ?_
    refine g_lload o 0 rfl dX0_hasSolutionWith_37 ?_
    refine g_land o dX0_hasSolutionWith_39 ?_
    refine g_lconst o lc_0 dX0_hasSolutionWith_40 ?_
    refine g_lcmp o dX0_hasSolutionWith_41 ?_
    refine g_if_eq (tgt := 47) o rfl dX0_hasSolutionWith_42 hf (fun hc hf => ?_) (fun hc hf => ?_)
    · refine g_iinc o [(5, .int (s + 1)), (6, .long x9), (0, .ref (b 0)), (1, .int c1), (2, .int c2), (3, .int c3), (4, .int c4)] 6 rfl (inc_1 _) (Nat.le_of_ble_eq_true rfl) rfl dX0_hasSolutionWith_47 ?_
      refine g_goto (tgt := 3) o rfl dX0_hasSolutionWith_50 ?_
      have hp := lf_c hf hw
      exact g_perm [2, 3, 4, 5, 6, 0] rfl hp
    · refine g_iconst o ic_1 dX0_hasSolutionWith_45 ?_
      exact g_iret (hR _ (lf_x hf hw)) hk hn nb_1 dX0_hasSolutionWith_46
set_option maxRecDepth 20000 in
set_option maxHeartbeats 2000000 in
theorem b_X0_hasSolutionWith {x : Cx} (o : Ok x cX0_hasSolutionWith 8 RX0 13 0 0) (b : Nat → Nat) (v : St) (p0 : Int32) (p1 : Int32) (p2 : Int32) (p3 : Int32) (t : Int32) (hf : f_X0_hasSolutionWith v p0 p1 p2 p3 = some t) (hret : rt_X0_hasSolutionWith x b v t) : G x 8 0 0 (wI b v (cxT x)) [(0, .ref (b 0)), (1, .int p0), (2, .int p1), (3, .int p2), (4, .int p3)] 0 [] := by
  unfold f_X0_hasSolutionWith at hf
  refine g_iconst o ic_0 dX0_hasSolutionWith_0 ?_
  refine g_istore o [(5, .int 0), (0, .ref (b 0)), (1, .int p0), (2, .int p1), (3, .int p2), (4, .int p3)] (Nat.le_of_ble_eq_true rfl) rfl dX0_hasSolutionWith_1 ?_
  obtain ⟨r14, hr14, hxr14, hrr14⟩ := bl_some hf
  refine g_perm [1, 2, 3, 4, 5, 0] rfl (b_X0_hasSolutionWith_L3 o (Nat.le_of_ble_eq_true rfl) (Nat.le_of_ble_eq_true rfl) b v p0 p1 p2 p3 r14 (fun s3 hs => ?_) (fun t13 ht => ?_) FU 0 hr14)
  · have hf := hxr14 s3 hs
    refine g_iconst o ic_0 dX0_hasSolutionWith_53 ?_
    cases Option.some.inj hf
    exact g_iret hret (Nat.le_of_ble_eq_true rfl) (Nat.le_of_ble_eq_true rfl) nb_0 dX0_hasSolutionWith_54
  · have hf := hrr14 t13 ht
    cases Option.some.inj hf
    exact hret
theorem c_X0_hasSolutionWith (l : Launch) (hst : l.stackTraces = false) (b : Nat → Nat) (v : St) (p0 : Int32) (p1 : Int32) (p2 : Int32) (p3 : Int32) (t : Int32) (hf : f_X0_hasSolutionWith v p0 p1 p2 p3 = some t) : CoI l yX0_hasSolutionWith (.code yX0_hasSolutionWith cX0_hasSolutionWith 8 (some .boolean)) 13 0 0 [.ref (b 0), .int p0, .int p1, .int p2, .int p3] (wI b v) (wI b v) (.inl t) := mkI hst (by decide +kernel) (Nat.le_of_ble_eq_true rfl) (fun x _ o hI hX => b_X0_hasSolutionWith o b v p0 p1 p2 p3 t hf (hI _ rfl))
theorem k_X0_hasSolutionWith_NX {x : Cx} {cc : ByteArray} {nL : Nat} {own : String} {d mc ms k n : Nat} {lv : List (Nat × Value)} {pc i : Nat} {rest : List Value} {a c : Nat → Nat} {u w : St} {host : String} {b : Nat → Nat} {v : St} {p0 : Int32} {p1 : Int32} {p2 : Int32} {p3 : Int32} (o : Ok x cc nL own d mc ms) {t : Int32} (ht : f_X0_hasSolutionWith v p0 p1 p2 p3 = some t) (hlk : Cond.methodLinkNest own i yX0_hasSolutionWith host ∈ Ue) (hd : 13 < d) (hr : (rest.map fun v => v.category).sum ≤ 8) (hk : k + 0 ≤ mc ∧ n + 0 ≤ ms) (dg : decode cc pc = .ok (.invokevirtual i, 3)) (kk : G x nL (k + 0) (n + 0) (wX a u b v c w (cxT x)) lv (pc + 3) (.int t :: rest)) : G x nL k n (wX a u b v c w (cxT x)) lv pc (.int p3 :: .int p2 :: .int p1 :: .int p0 :: .ref (b 0) :: rest) := gcI (wd2 := (wX a u b v c w (cxT x))) o (c_X0_hasSolutionWith (cxl x) o.2.2.2.2.2.2.2.2.2.1 b v p0 p1 p2 p3 t ht) (can_VN (q0 := 5) o rfl rfl hd (Nat.le_of_ble_eq_true rfl) m_766 m_55 m_765 m_24 hlk yk_X0_hasSolutionWith rfl hr hk dg) sp_XI (fun E h => by cases h) (fun r h => by cases h; exact kk)
def rt_X0_isSpare (x : Cx) (b : Nat → Nat) (v : St) (t : Int32) : Prop := RetI x cX0_isSpare .boolean 0 0 (wI b v (cxT x)) t
set_option maxRecDepth 20000 in
set_option maxHeartbeats 2000000 in
theorem b_X0_isSpare_L2 {x : Cx} (o : Ok x cX0_isSpare 6 RX0 13 0 0) {k n : Nat} (hk : k ≤ 0) (hn : n ≤ 0) (b : Nat → Nat) (v : St) (c1 : Int32) (c2 : Int32) (r : (Int32) ⊕ (Int32)) (hX : ∀ s : Int32, r = .inl s → G x 6 k n (wI b v (cxT x)) [] 48 []) (hR : ∀ t, r = .inr t → rt_X0_isSpare x b v t) : ∀ (m : Nat) (s : Int32), loopN (f_X0_isSpare_s2 v c1 c2) m s = some r → G x 6 k n (wI b v (cxT x)) [(0, .ref (b 0)), (1, .int c1), (2, .int c2), (3, .int s)] 2 [] := by
  refine loop_W _ (fun (s : Int32) => G x 6 k n (wI b v (cxT x)) [(0, .ref (b 0)), (1, .int c1), (2, .int c2), (3, .int s)] 2 []) r ?_
  intro s ww hf hw
  unfold f_X0_isSpare_s2 at hf
  refine g_iload_n o 3 rfl rfl dX0_isSpare_2 ?_
  refine g_aload_n o 0 rfl rfl dX0_isSpare_3 ?_
  obtain ⟨r4, hr4, hf⟩ := bd_some hf
  refine k_X0_wordCount_ o hr4 m_160 (Nat.le_of_ble_eq_true rfl) (Nat.le_of_ble_eq_true rfl) ⟨hk, hn⟩ dX0_isSpare_4 ?_
  refine g_ic_ge (tgt := 48) o rfl dX0_isSpare_7 hf (fun hc hf => ?_) (fun hc hf => ?_)
  · exact g_perm [] rfl (hX _ (lf_x hf hw))
  · refine g_aload_n o 0 rfl rfl dX0_isSpare_10 ?_
    refine g_iload_n o 3 rfl rfl dX0_isSpare_11 ?_
    refine g_iload_n o 2 rfl rfl dX0_isSpare_12 ?_
    refine g_iconst o ic_1 dX0_isSpare_13 ?_
    refine g_iload_n o 1 rfl rfl dX0_isSpare_14 ?_
    refine g_ishl o dX0_isSpare_15 ?_
    refine g_ior o dX0_isSpare_16 ?_
    obtain ⟨r5, hr5, hf⟩ := bd_some hf
    refine k_X0_solutionsIn_ o hr5 m_164 (Nat.le_of_ble_eq_true rfl) (Nat.le_of_ble_eq_true rfl) ⟨hk, hn⟩ dX0_isSpare_17 ?_
    refine g_lstore o [(4, .long r5), (0, .ref (b 0)), (1, .int c1), (2, .int c2), (3, .int s)] (Nat.le_of_ble_eq_true rfl) rfl dX0_isSpare_20 ?_
    refine g_lload o 0 rfl dX0_isSpare_22 ?_
    refine g_aload_n o 1 rfl rfl dX0_isSpare_24 ?_
    refine g_iload_n o 2 rfl rfl dX0_isSpare_25 ?_
    refine g_iload_n o 4 rfl rfl dX0_isSpare_26 ?_
    obtain ⟨r6, hr6, hf⟩ := bd_some hf
    refine k_X0_satisfying_ o hr6 m_176 (Nat.le_of_ble_eq_true rfl) (Nat.le_of_ble_eq_true rfl) ⟨hk, hn⟩ dX0_isSpare_27 ?_
    refine g_ldc2 o m_172 dX0_isSpare_30 ?_
    refine g_lxor o dX0_isSpare_33 ?_
    refine g_land o dX0_isSpare_34 ?_
    refine g_lconst o lc_0 dX0_isSpare_35 ?_
    refine g_lcmp o dX0_isSpare_36 ?_
    refine g_if_eq (tgt := 42) o rfl dX0_isSpare_37 hf (fun hc hf => ?_) (fun hc hf => ?_)
    · refine g_iinc o [(3, .int (s + 1)), (4, .long r5), (0, .ref (b 0)), (1, .int c1), (2, .int c2)] 4 rfl (inc_1 _) (Nat.le_of_ble_eq_true rfl) rfl dX0_isSpare_42 ?_
      refine g_goto (tgt := 2) o rfl dX0_isSpare_45 ?_
      have hp := lf_c hf hw
      exact g_perm [2, 3, 4, 0] rfl hp
    · refine g_iconst o ic_0 dX0_isSpare_40 ?_
      exact g_iret (hR _ (lf_x hf hw)) hk hn nb_0 dX0_isSpare_41
set_option maxRecDepth 20000 in
set_option maxHeartbeats 2000000 in
theorem b_X0_isSpare {x : Cx} (o : Ok x cX0_isSpare 6 RX0 13 0 0) (b : Nat → Nat) (v : St) (p0 : Int32) (p1 : Int32) (t : Int32) (hf : f_X0_isSpare v p0 p1 = some t) (hret : rt_X0_isSpare x b v t) : G x 6 0 0 (wI b v (cxT x)) [(0, .ref (b 0)), (1, .int p0), (2, .int p1)] 0 [] := by
  unfold f_X0_isSpare at hf
  refine g_iconst o ic_0 dX0_isSpare_0 ?_
  refine g_istore_n o [(3, .int 0), (0, .ref (b 0)), (1, .int p0), (2, .int p1)] (Nat.le_of_ble_eq_true rfl) rfl rfl dX0_isSpare_1 ?_
  obtain ⟨r10, hr10, hxr10, hrr10⟩ := bl_some hf
  refine g_perm [1, 2, 3, 0] rfl (b_X0_isSpare_L2 o (Nat.le_of_ble_eq_true rfl) (Nat.le_of_ble_eq_true rfl) b v p0 p1 r10 (fun s2 hs => ?_) (fun t9 ht => ?_) FU 0 hr10)
  · have hf := hxr10 s2 hs
    refine g_iconst o ic_1 dX0_isSpare_48 ?_
    cases Option.some.inj hf
    exact g_iret hret (Nat.le_of_ble_eq_true rfl) (Nat.le_of_ble_eq_true rfl) nb_1 dX0_isSpare_49
  · have hf := hrr10 t9 ht
    cases Option.some.inj hf
    exact hret
theorem c_X0_isSpare (l : Launch) (hst : l.stackTraces = false) (b : Nat → Nat) (v : St) (p0 : Int32) (p1 : Int32) (t : Int32) (hf : f_X0_isSpare v p0 p1 = some t) : CoI l yX0_isSpare (.code yX0_isSpare cX0_isSpare 6 (some .boolean)) 13 0 0 [.ref (b 0), .int p0, .int p1] (wI b v) (wI b v) (.inl t) := mkI hst (by decide +kernel) (Nat.le_of_ble_eq_true rfl) (fun x _ o hI hX => b_X0_isSpare o b v p0 p1 t hf (hI _ rfl))
theorem k_X0_isSpare_NX {x : Cx} {cc : ByteArray} {nL : Nat} {own : String} {d mc ms k n : Nat} {lv : List (Nat × Value)} {pc i : Nat} {rest : List Value} {a c : Nat → Nat} {u w : St} {host : String} {b : Nat → Nat} {v : St} {p0 : Int32} {p1 : Int32} (o : Ok x cc nL own d mc ms) {t : Int32} (ht : f_X0_isSpare v p0 p1 = some t) (hlk : Cond.methodLinkNest own i yX0_isSpare host ∈ Ue) (hd : 13 < d) (hr : (rest.map fun v => v.category).sum ≤ 8) (hk : k + 0 ≤ mc ∧ n + 0 ≤ ms) (dg : decode cc pc = .ok (.invokevirtual i, 3)) (kk : G x nL (k + 0) (n + 0) (wX a u b v c w (cxT x)) lv (pc + 3) (.int t :: rest)) : G x nL k n (wX a u b v c w (cxT x)) lv pc (.int p1 :: .int p0 :: .ref (b 0) :: rest) := gcI (wd2 := (wX a u b v c w (cxT x))) o (c_X0_isSpare (cxl x) o.2.2.2.2.2.2.2.2.2.1 b v p0 p1 t ht) (can_VN (q0 := 5) o rfl rfl hd (Nat.le_of_ble_eq_true rfl) m_207 m_55 m_206 m_5 hlk yk_X0_isSpare rfl hr hk dg) sp_XI (fun E h => by cases h) (fun r h => by cases h; exact kk)
def rt_X0_placeOfBit (x : Cx) (t : Int32) : Prop := RetI x cX0_placeOfBit .int 0 0 (w0 (cxT x)) t
set_option maxRecDepth 20000 in
set_option maxHeartbeats 2000000 in
theorem b_X0_placeOfBit_L5 {x : Cx} (o : Ok x cX0_placeOfBit 6 RX0 1 0 0) {k n : Nat} (hk : k ≤ 0) (hn : n ≤ 0) (c2 : Int32) (r : (Int64 × Int32) ⊕ (Int32)) (hX : ∀ s : Int64 × Int32, r = .inl s → G x 6 k n (w0 (cxT x)) [(3, .long s.1)] 23 []) (hR : ∀ t, r = .inr t → rt_X0_placeOfBit x  t) : ∀ (m : Nat) (s : Int64 × Int32), loopN (f_X0_placeOfBit_s5 c2) m s = some r → G x 6 k n (w0 (cxT x)) [(2, .int c2), (3, .long s.1), (5, .int s.2)] 5 [] := by
  refine loop_W _ (fun (s : Int64 × Int32) => G x 6 k n (w0 (cxT x)) [(2, .int c2), (3, .long s.1), (5, .int s.2)] 5 []) r ?_
  intro s ww hf hw
  unfold f_X0_placeOfBit_s5 at hf
  obtain ⟨s_0, s_1⟩ := s
  try dsimp -simprocs only at hf ⊢
  refine g_iload o 2 rfl dX0_placeOfBit_5 ?_
  refine g_iload_n o 0 rfl rfl dX0_placeOfBit_7 ?_
  refine g_ic_ge (tgt := 23) o rfl dX0_placeOfBit_8 hf (fun hc hf => ?_) (fun hc hf => ?_)
  · exact g_perm [1] rfl (hX _ (lf_x hf hw))
  · refine g_lload_n o 1 rfl rfl dX0_placeOfBit_11 ?_
    refine g_lload_n o 1 rfl rfl dX0_placeOfBit_12 ?_
    refine g_lconst o lc_1 dX0_placeOfBit_13 ?_
    refine g_lsub o dX0_placeOfBit_14 ?_
    refine g_land o dX0_placeOfBit_15 ?_
    refine g_nml hf (fun x2 hf => ?_)
    refine g_lstore_n o [(3, .long x2), (2, .int c2), (5, .int s_1)] (Nat.le_of_ble_eq_true rfl) rfl rfl dX0_placeOfBit_16 ?_
    refine g_iinc o [(5, .int (s_1 + 1)), (3, .long x2), (2, .int c2)] 2 rfl (inc_1 _) (Nat.le_of_ble_eq_true rfl) rfl dX0_placeOfBit_17 ?_
    refine g_goto (tgt := 5) o rfl dX0_placeOfBit_20 ?_
    have hp := lf_c hf hw
    exact g_perm [2, 1, 0] rfl hp
set_option maxRecDepth 20000 in
set_option maxHeartbeats 2000000 in
theorem b_X0_placeOfBit {x : Cx} (o : Ok x cX0_placeOfBit 6 RX0 1 0 0) (p0 : Int64) (p1 : Int32) (t : Int32) (hf : f_X0_placeOfBit p0 p1 = some t) (hret : rt_X0_placeOfBit x  t) : G x 6 0 0 (w0 (cxT x)) [(0, .long p0), (2, .int p1)] 0 [] := by
  unfold f_X0_placeOfBit at hf
  refine g_lload_n o 0 rfl rfl dX0_placeOfBit_0 ?_
  refine g_lstore_n o [(3, .long p0), (0, .long p0), (2, .int p1)] (Nat.le_of_ble_eq_true rfl) rfl rfl dX0_placeOfBit_1 ?_
  refine g_iconst o ic_0 dX0_placeOfBit_2 ?_
  refine g_istore o [(5, .int 0), (3, .long p0), (0, .long p0), (2, .int p1)] (Nat.le_of_ble_eq_true rfl) rfl dX0_placeOfBit_3 ?_
  obtain ⟨r7, hr7, hxr7, hrr7⟩ := bl_some hf
  refine g_perm [3, 1, 0] rfl (b_X0_placeOfBit_L5 o (Nat.le_of_ble_eq_true rfl) (Nat.le_of_ble_eq_true rfl)  p1 r7 (fun s5 hs => ?_) (fun t6 ht => ?_) FU (p0, 0) hr7)
  · have hf := hxr7 s5 hs
    obtain ⟨s5_0, s5_1⟩ := s5
    try dsimp -simprocs only at hf ⊢
    refine g_lload_n o 0 rfl rfl dX0_placeOfBit_23 ?_
    refine g_lload_n o 0 rfl rfl dX0_placeOfBit_24 ?_
    refine g_lneg o dX0_placeOfBit_25 ?_
    refine g_land o dX0_placeOfBit_26 ?_
    refine g_lconst o lc_1 dX0_placeOfBit_27 ?_
    refine g_lsub o dX0_placeOfBit_28 ?_
    obtain ⟨r8, hr8, hf⟩ := bd_some hf
    refine k_J13_bitCount_95d88_ o hr8 m_194 (Nat.le_of_ble_eq_true rfl) (Nat.le_of_ble_eq_true rfl) ⟨(Nat.le_of_ble_eq_true rfl), (Nat.le_of_ble_eq_true rfl)⟩ dX0_placeOfBit_29 ?_
    cases Option.some.inj hf
    exact g_iret hret (Nat.le_of_ble_eq_true rfl) (Nat.le_of_ble_eq_true rfl) (vp_nar_int _) dX0_placeOfBit_32
  · have hf := hrr7 t6 ht
    cases Option.some.inj hf
    exact hret
theorem c_X0_placeOfBit (l : Launch) (hst : l.stackTraces = false) (p0 : Int64) (p1 : Int32) (t : Int32) (hf : f_X0_placeOfBit p0 p1 = some t) : CoI l yX0_placeOfBit (.code yX0_placeOfBit cX0_placeOfBit 6 (some .int)) 1 0 0 [.long p0, .int p1] w0 w0 (.inl t) := mkI hst (by decide +kernel) (Nat.le_of_ble_eq_true rfl) (fun x _ o hI hX => b_X0_placeOfBit o p0 p1 t hf (hI _ rfl))
theorem k_X0_placeOfBit_ {x : Cx} {cc : ByteArray} {nL : Nat} {own : String} {d mc ms k n : Nat} {lv : List (Nat × Value)} {pc i : Nat} {rest : List Value} {wd : va_W} {p0 : Int64} {p1 : Int32} (o : Ok x cc nL own d mc ms) {t : Int32} (ht : f_X0_placeOfBit p0 p1 = some t) (hlk : Cond.methodLink own i yX0_placeOfBit ∈ Ug) (hd : 1 < d) (hr : (rest.map fun v => v.category).sum ≤ 8) (hk : k + 0 ≤ mc ∧ n + 0 ≤ ms) (dg : decode cc pc = .ok (.invokestatic i, 3)) (kk : G x nL (k + 0) (n + 0) wd lv (pc + 3) (.int t :: rest)) : G x nL k n wd lv pc (.int p1 :: .long p0 :: rest) := gcI (wd2 := wd) o (c_X0_placeOfBit (cxl x) o.2.2.2.2.2.2.2.2.2.1 p0 p1 t ht) (can_S o hd (Nat.le_of_ble_eq_true rfl) m_696 m_55 m_695 hlk yk_X0_placeOfBit rfl hr hk dg) sp_none (fun E h => by cases h) (fun r h => by cases h; exact kk)
def rt_X0_findSolution (x : Cx) (b : Nat → Nat) (v : St) (t : Int32) : Prop := RetI x cX0_findSolution .int 0 0 (wI b v (cxT x)) t
set_option maxRecDepth 20000 in
set_option maxHeartbeats 2000000 in
theorem b_X0_findSolution_L4 {x : Cx} (o : Ok x cX0_findSolution 7 RX0 13 0 0) {k n : Nat} (hk : k ≤ 0) (hn : n ≤ 0) (b : Nat → Nat) (v : St) (c1 : Int32) (r : (Int32 × Int32) ⊕ (Int32)) (hX : ∀ s : Int32 × Int32, r = .inl s → G x 7 k n (wI b v (cxT x)) [] 64 []) (hR : ∀ t, r = .inr t → rt_X0_findSolution x b v t) : ∀ (m : Nat) (s : Int32 × Int32), loopN (f_X0_findSolution_s4 v c1) m s = some r → G x 7 k n (wI b v (cxT x)) [(0, .ref (b 0)), (1, .int c1), (2, .int s.1), (3, .int s.2)] 4 [] := by
  refine loop_W _ (fun (s : Int32 × Int32) => G x 7 k n (wI b v (cxT x)) [(0, .ref (b 0)), (1, .int c1), (2, .int s.1), (3, .int s.2)] 4 []) r ?_
  intro s ww hf hw
  unfold f_X0_findSolution_s4 at hf
  obtain ⟨s_0, s_1⟩ := s
  try dsimp -simprocs only at hf ⊢
  refine g_iload_n o 3 rfl rfl dX0_findSolution_4 ?_
  refine g_aload_n o 0 rfl rfl dX0_findSolution_5 ?_
  obtain ⟨r6, hr6, hf⟩ := bd_some hf
  refine k_X0_wordCount_ o hr6 m_160 (Nat.le_of_ble_eq_true rfl) (Nat.le_of_ble_eq_true rfl) ⟨hk, hn⟩ dX0_findSolution_6 ?_
  refine g_ic_ge (tgt := 64) o rfl dX0_findSolution_9 hf (fun hc hf => ?_) (fun hc hf => ?_)
  · exact g_perm [] rfl (hX _ (lf_x hf hw))
  · refine g_iload_n o 1 rfl rfl dX0_findSolution_12 ?_
    refine g_if_lt (tgt := 64) o rfl dX0_findSolution_13 hf (fun hc hf => ?_) (fun hc hf => ?_)
    · exact g_perm [] rfl (hX _ (lf_x hf hw))
    · refine g_aload_n o 0 rfl rfl dX0_findSolution_16 ?_
      refine g_iload_n o 3 rfl rfl dX0_findSolution_17 ?_
      refine g_iconst o ic_0 dX0_findSolution_18 ?_
      obtain ⟨r7, hr7, hf⟩ := bd_some hf
      refine k_X0_solutionsIn_ o hr7 m_164 (Nat.le_of_ble_eq_true rfl) (Nat.le_of_ble_eq_true rfl) ⟨hk, hn⟩ dX0_findSolution_19 ?_
      refine g_lstore o [(4, .long r7), (0, .ref (b 0)), (1, .int c1), (2, .int s_0), (3, .int s_1)] (Nat.le_of_ble_eq_true rfl) rfl dX0_findSolution_22 ?_
      refine g_lload o 0 rfl dX0_findSolution_24 ?_
      obtain ⟨r8, hr8, hf⟩ := bd_some hf
      refine k_J13_bitCount_95d88_ o hr8 m_194 (Nat.le_of_ble_eq_true rfl) (Nat.le_of_ble_eq_true rfl) ⟨hk, hn⟩ dX0_findSolution_26 ?_
      refine g_istore o [(6, .int r8), (4, .long r7), (0, .ref (b 0)), (1, .int c1), (2, .int s_0), (3, .int s_1)] (Nat.le_of_ble_eq_true rfl) rfl dX0_findSolution_29 ?_
      refine g_iload_n o 3 rfl rfl dX0_findSolution_31 ?_
      refine g_iload_n o 4 rfl rfl dX0_findSolution_32 ?_
      refine g_isub o dX0_findSolution_33 ?_
      refine g_iload o 0 rfl dX0_findSolution_34 ?_
      refine g_ic_ge (tgt := 53) o rfl dX0_findSolution_36 hf (fun hc hf => ?_) (fun hc hf => ?_)
      · refine g_iload_n o 4 rfl rfl dX0_findSolution_53 ?_
        refine g_iload o 0 rfl dX0_findSolution_54 ?_
        refine g_iadd o dX0_findSolution_56 ?_
        refine g_nmi hf (fun x9 hf => ?_)
        refine g_istore_n o [(2, .int x9), (6, .int r8), (4, .long r7), (0, .ref (b 0)), (1, .int c1), (3, .int s_1)] (Nat.le_of_ble_eq_true rfl) rfl rfl dX0_findSolution_57 ?_
        refine g_iinc o [(3, .int (s_1 + 1)), (2, .int x9), (6, .int r8), (4, .long r7), (0, .ref (b 0)), (1, .int c1)] 5 rfl (inc_1 _) (Nat.le_of_ble_eq_true rfl) rfl dX0_findSolution_58 ?_
        refine g_goto (tgt := 4) o rfl dX0_findSolution_61 ?_
        have hp := lf_c hf hw
        exact g_perm [4, 5, 1, 0] rfl hp
      · refine g_iload_n o 5 rfl rfl dX0_findSolution_39 ?_
        refine g_bipush o bp_64 dX0_findSolution_40 ?_
        refine g_imul o dX0_findSolution_42 ?_
        refine g_lload o 1 rfl dX0_findSolution_43 ?_
        refine g_iload_n o 3 rfl rfl dX0_findSolution_45 ?_
        refine g_iload_n o 4 rfl rfl dX0_findSolution_46 ?_
        refine g_isub o dX0_findSolution_47 ?_
        obtain ⟨r10, hr10, hf⟩ := bd_some hf
        refine k_X0_placeOfBit_ o hr10 m_694 (Nat.le_of_ble_eq_true rfl) (Nat.le_of_ble_eq_true rfl) ⟨hk, hn⟩ dX0_findSolution_48 ?_
        refine g_iadd o dX0_findSolution_51 ?_
        exact g_iret (hR _ (lf_x hf hw)) hk hn (vp_nar_int _) dX0_findSolution_52
set_option maxRecDepth 20000 in
set_option maxHeartbeats 2000000 in
theorem b_X0_findSolution {x : Cx} (o : Ok x cX0_findSolution 7 RX0 13 0 0) (b : Nat → Nat) (v : St) (p0 : Int32) (t : Int32) (hf : f_X0_findSolution v p0 = some t) (hret : rt_X0_findSolution x b v t) : G x 7 0 0 (wI b v (cxT x)) [(0, .ref (b 0)), (1, .int p0)] 0 [] := by
  unfold f_X0_findSolution at hf
  refine g_iconst o ic_0 dX0_findSolution_0 ?_
  refine g_istore_n o [(2, .int 0), (0, .ref (b 0)), (1, .int p0)] (Nat.le_of_ble_eq_true rfl) rfl rfl dX0_findSolution_1 ?_
  refine g_iconst o ic_0 dX0_findSolution_2 ?_
  refine g_istore_n o [(3, .int 0), (2, .int 0), (0, .ref (b 0)), (1, .int p0)] (Nat.le_of_ble_eq_true rfl) rfl rfl dX0_findSolution_3 ?_
  obtain ⟨r14, hr14, hxr14, hrr14⟩ := bl_some hf
  refine g_perm [2, 3, 1, 0] rfl (b_X0_findSolution_L4 o (Nat.le_of_ble_eq_true rfl) (Nat.le_of_ble_eq_true rfl) b v p0 r14 (fun s4 hs => ?_) (fun t13 ht => ?_) FU (0, 0) hr14)
  · have hf := hxr14 s4 hs
    obtain ⟨s4_0, s4_1⟩ := s4
    try dsimp -simprocs only at hf ⊢
    refine g_iconst o ic_m1 dX0_findSolution_64 ?_
    cases Option.some.inj hf
    exact g_iret hret (Nat.le_of_ble_eq_true rfl) (Nat.le_of_ble_eq_true rfl) (vp_nar_int _) dX0_findSolution_65
  · have hf := hrr14 t13 ht
    cases Option.some.inj hf
    exact hret
theorem c_X0_findSolution (l : Launch) (hst : l.stackTraces = false) (b : Nat → Nat) (v : St) (p0 : Int32) (t : Int32) (hf : f_X0_findSolution v p0 = some t) : CoI l yX0_findSolution (.code yX0_findSolution cX0_findSolution 7 (some .int)) 13 0 0 [.ref (b 0), .int p0] (wI b v) (wI b v) (.inl t) := mkI hst (by decide +kernel) (Nat.le_of_ble_eq_true rfl) (fun x _ o hI hX => b_X0_findSolution o b v p0 t hf (hI _ rfl))
theorem k_X0_findSolution_NX {x : Cx} {cc : ByteArray} {nL : Nat} {own : String} {d mc ms k n : Nat} {lv : List (Nat × Value)} {pc i : Nat} {rest : List Value} {a c : Nat → Nat} {u w : St} {host : String} {b : Nat → Nat} {v : St} {p0 : Int32} (o : Ok x cc nL own d mc ms) {t : Int32} (ht : f_X0_findSolution v p0 = some t) (hlk : Cond.methodLinkNest own i yX0_findSolution host ∈ Ue) (hd : 13 < d) (hr : (rest.map fun v => v.category).sum ≤ 8) (hk : k + 0 ≤ mc ∧ n + 0 ≤ ms) (dg : decode cc pc = .ok (.invokevirtual i, 3)) (kk : G x nL (k + 0) (n + 0) (wX a u b v c w (cxT x)) lv (pc + 3) (.int t :: rest)) : G x nL k n (wX a u b v c w (cxT x)) lv pc (.int p0 :: .ref (b 0) :: rest) := gcI (wd2 := (wX a u b v c w (cxT x))) o (c_X0_findSolution (cxl x) o.2.2.2.2.2.2.2.2.2.1 b v p0 t ht) (can_VN (q0 := 5) o rfl rfl hd (Nat.le_of_ble_eq_true rfl) m_693 m_55 m_692 m_19 hlk yk_X0_findSolution rfl hr hk dg) sp_XI (fun E h => by cases h) (fun r h => by cases h; exact kk)
def rt_X0_removeConstraints (x : Cx) (b : Nat → Nat) (t : St) : Prop := RetV x cX0_removeConstraints 0 0 (wI b t (cxT x))
set_option maxRecDepth 20000 in
set_option maxHeartbeats 2000000 in
theorem b_X0_removeConstraints_L4 {x : Cx} (o : Ok x cX0_removeConstraints 4 RX0 1 0 0) {k n : Nat} (hk : k ≤ 0) (hn : n ≤ 0) (b : Nat → Nat) (c1 : Int32) (r : (Int32 × Int32 × St) ⊕ (St)) (hX : ∀ s : Int32 × Int32 × St, r = .inl s → G x 4 k n (wI b s.2.2 (cxT x)) [(0, .ref (b 0)), (2, .int s.1)] 53 []) (hR : ∀ t, r = .inr t → rt_X0_removeConstraints x b t) : ∀ (m : Nat) (s : Int32 × Int32 × St), loopN (f_X0_removeConstraints_s4 c1) m s = some r → G x 4 k n (wI b s.2.2 (cxT x)) [(0, .ref (b 0)), (1, .int c1), (2, .int s.1), (3, .int s.2.1)] 4 [] := by
  refine loop_W _ (fun (s : Int32 × Int32 × St) => G x 4 k n (wI b s.2.2 (cxT x)) [(0, .ref (b 0)), (1, .int c1), (2, .int s.1), (3, .int s.2.1)] 4 []) r ?_
  intro s ww hf hw
  unfold f_X0_removeConstraints_s4 at hf
  obtain ⟨s_0, s_1, s_2⟩ := s
  try dsimp -simprocs only at hf ⊢
  refine g_iload_n o 3 rfl rfl dX0_removeConstraints_4 ?_
  refine g_aload_n o 0 rfl rfl dX0_removeConstraints_5 ?_
  refine I_get4 o m_90 dX0_removeConstraints_6 ?_
  refine g_ic_ge (tgt := 53) o rfl dX0_removeConstraints_9 hf (fun hc hf => ?_) (fun hc hf => ?_)
  · exact g_perm [0, 2] rfl (hX _ (lf_x hf hw))
  · refine g_iload_n o 1 rfl rfl dX0_removeConstraints_12 ?_
    refine g_iload_n o 3 rfl rfl dX0_removeConstraints_13 ?_
    obtain ⟨r2, hr2, hf⟩ := bd_some hf
    refine k_X1_has_N o hr2 e_173 (Nat.le_of_ble_eq_true rfl) (Nat.le_of_ble_eq_true rfl) ⟨hk, hn⟩ dX0_removeConstraints_14 ?_
    refine g_if_ne (tgt := 47) o rfl dX0_removeConstraints_17 hf (fun hc hf => ?_) (fun hc hf => ?_)
    · refine g_iinc o [(3, .int (s_1 + 1)), (0, .ref (b 0)), (1, .int c1), (2, .int s_0)] 3 rfl (inc_1 _) (Nat.le_of_ble_eq_true rfl) rfl dX0_removeConstraints_47 ?_
      refine g_goto (tgt := 4) o rfl dX0_removeConstraints_50 ?_
      have hp := lf_c hf hw
      exact g_perm [1, 2, 3, 0] rfl hp
    · refine g_aload_n o 0 rfl rfl dX0_removeConstraints_20 ?_
      refine I_get5 o m_92 dX0_removeConstraints_21 ?_
      refine g_iload_n o 2 rfl rfl dX0_removeConstraints_24 ?_
      refine g_aload_n o 0 rfl rfl dX0_removeConstraints_25 ?_
      refine I_get5 o m_92 dX0_removeConstraints_26 ?_
      refine g_iload_n o 3 rfl rfl dX0_removeConstraints_29 ?_
      refine I_ld5 o dX0_removeConstraints_30 hf (fun hf => ?_)
      refine I_st5 o dX0_removeConstraints_31 hf (fun hf => ?_)
      refine g_aload_n o 0 rfl rfl dX0_removeConstraints_32 ?_
      refine I_get6 o m_94 dX0_removeConstraints_33 ?_
      refine g_iload_n o 2 rfl rfl dX0_removeConstraints_36 ?_
      refine g_aload_n o 0 rfl rfl dX0_removeConstraints_37 ?_
      refine I_get6 o m_94 dX0_removeConstraints_38 ?_
      refine g_iload_n o 3 rfl rfl dX0_removeConstraints_41 ?_
      refine I_ld6 o dX0_removeConstraints_42 hf (fun hf => ?_)
      refine I_st6 o dX0_removeConstraints_43 hf (fun hf => ?_)
      refine g_iinc o [(2, .int (s_0 + 1)), (0, .ref (b 0)), (1, .int c1), (3, .int s_1)] 2 rfl (inc_1 _) (Nat.le_of_ble_eq_true rfl) rfl dX0_removeConstraints_44 ?_
      refine g_iinc o [(3, .int (s_1 + 1)), (2, .int (s_0 + 1)), (0, .ref (b 0)), (1, .int c1)] 3 rfl (inc_1 _) (Nat.le_of_ble_eq_true rfl) rfl dX0_removeConstraints_47 ?_
      refine g_goto (tgt := 4) o rfl dX0_removeConstraints_50 ?_
      have hp := lf_c hf hw
      exact g_perm [2, 3, 1, 0] rfl hp
set_option maxRecDepth 20000 in
set_option maxHeartbeats 2000000 in
theorem b_X0_removeConstraints {x : Cx} (o : Ok x cX0_removeConstraints 4 RX0 1 0 0) (b : Nat → Nat) (v : St) (p0 : Int32) (t : St) (hf : f_X0_removeConstraints v p0 = some t) (hret : rt_X0_removeConstraints x b t) : G x 4 0 0 (wI b v (cxT x)) [(0, .ref (b 0)), (1, .int p0)] 0 [] := by
  unfold f_X0_removeConstraints at hf
  refine g_iconst o ic_0 dX0_removeConstraints_0 ?_
  refine g_istore_n o [(2, .int 0), (0, .ref (b 0)), (1, .int p0)] (Nat.le_of_ble_eq_true rfl) rfl rfl dX0_removeConstraints_1 ?_
  refine g_iconst o ic_0 dX0_removeConstraints_2 ?_
  refine g_istore_n o [(3, .int 0), (2, .int 0), (0, .ref (b 0)), (1, .int p0)] (Nat.le_of_ble_eq_true rfl) rfl rfl dX0_removeConstraints_3 ?_
  obtain ⟨r6, hr6, hxr6, hrr6⟩ := bl_some hf
  refine g_perm [2, 3, 1, 0] rfl (b_X0_removeConstraints_L4 o (Nat.le_of_ble_eq_true rfl) (Nat.le_of_ble_eq_true rfl) b p0 r6 (fun s4 hs => ?_) (fun t5 ht => ?_) FU (0, 0, v) hr6)
  · have hf := hxr6 s4 hs
    obtain ⟨s4_0, s4_1, s4_2⟩ := s4
    try dsimp -simprocs only at hf ⊢
    refine g_aload_n o 0 rfl rfl dX0_removeConstraints_53 ?_
    refine g_iload_n o 1 rfl rfl dX0_removeConstraints_54 ?_
    refine I_put4 o m_90 dX0_removeConstraints_55 ?_
    cases Option.some.inj hf
    exact g_vret hret (Nat.le_of_ble_eq_true rfl) (Nat.le_of_ble_eq_true rfl) dX0_removeConstraints_58
  · have hf := hrr6 t5 ht
    cases Option.some.inj hf
    exact hret
theorem c_X0_removeConstraints (l : Launch) (hst : l.stackTraces = false) (b : Nat → Nat) (v : St) (p0 : Int32) (t : St) (hf : f_X0_removeConstraints v p0 = some t) : CoV l yX0_removeConstraints (.code yX0_removeConstraints cX0_removeConstraints 4 none) 1 0 0 [.ref (b 0), .int p0] (wI b v) (wI b t) (.inl ()) := mkV hst (by decide +kernel) (Nat.le_of_ble_eq_true rfl) (fun x _ o hI hX => b_X0_removeConstraints o b v p0 t hf (hI rfl))
theorem k_X0_removeConstraints_NX {x : Cx} {cc : ByteArray} {nL : Nat} {own : String} {d mc ms k n : Nat} {lv : List (Nat × Value)} {pc i : Nat} {rest : List Value} {a c : Nat → Nat} {u w : St} {host : String} {b : Nat → Nat} {v : St} {p0 : Int32} (o : Ok x cc nL own d mc ms) {t : St} (ht : f_X0_removeConstraints v p0 = some t) (hlk : Cond.methodLinkNest own i yX0_removeConstraints host ∈ Ue) (hd : 1 < d) (hr : (rest.map fun v => v.category).sum ≤ 8) (hk : k + 0 ≤ mc ∧ n + 0 ≤ ms) (dg : decode cc pc = .ok (.invokevirtual i, 3)) (kk : G x nL (k + 0) (n + 0) (wX a u b t c w (cxT x)) lv (pc + 3) rest) : G x nL k n (wX a u b v c w (cxT x)) lv pc (.int p0 :: .ref (b 0) :: rest) := gcV (wd2 := (wX a u b t c w (cxT x))) o (c_X0_removeConstraints (cxl x) o.2.2.2.2.2.2.2.2.2.1 b v p0 t ht) (can_VN (q0 := 5) o rfl rfl hd (Nat.le_of_ble_eq_true rfl) m_211 m_55 m_210 m_6 hlk yk_X0_removeConstraints rfl hr hk dg) sp_XI (fun E h => by cases h) (fun h => kk)
def rt_X1_isWholeTuple (x : Cx) (t : Int32) : Prop := RetI x cX1_isWholeTuple .boolean 0 0 (w0 (cxT x)) t
set_option maxRecDepth 20000 in
set_option maxHeartbeats 2000000 in
theorem b_X1_isWholeTuple {x : Cx} (o : Ok x cX1_isWholeTuple 2 RX1 0 0 0) (p0 : Int32) (p1 : Int32) (t : Int32) (hf : f_X1_isWholeTuple p0 p1 = some t) (hret : rt_X1_isWholeTuple x  t) : G x 2 0 0 (w0 (cxT x)) [(0, .int p0), (1, .int p1)] 0 [] := by
  unfold f_X1_isWholeTuple at hf
  refine g_iload_n o 1 rfl rfl dX1_isWholeTuple_0 ?_
  refine g_if_ne (tgt := 16) o rfl dX1_isWholeTuple_1 hf (fun hc hf => ?_) (fun hc hf => ?_)
  · refine g_iload_n o 0 rfl rfl dX1_isWholeTuple_16 ?_
    refine g_iload_n o 1 rfl rfl dX1_isWholeTuple_17 ?_
    refine g_ic_ne (tgt := 25) o rfl dX1_isWholeTuple_18 hf (fun hc hf => ?_) (fun hc hf => ?_)
    · refine g_iconst o ic_0 dX1_isWholeTuple_25 ?_
      cases Option.some.inj hf
      exact g_iret hret (Nat.le_of_ble_eq_true rfl) (Nat.le_of_ble_eq_true rfl) nb_0 dX1_isWholeTuple_26
    · refine g_iconst o ic_1 dX1_isWholeTuple_21 ?_
      refine g_goto (tgt := 26) o rfl dX1_isWholeTuple_22 ?_
      cases Option.some.inj hf
      exact g_iret hret (Nat.le_of_ble_eq_true rfl) (Nat.le_of_ble_eq_true rfl) nb_1 dX1_isWholeTuple_26
  · refine g_iload_n o 0 rfl rfl dX1_isWholeTuple_4 ?_
    refine g_if_le (tgt := 12) o rfl dX1_isWholeTuple_5 hf (fun hc hf => ?_) (fun hc hf => ?_)
    · refine g_iconst o ic_0 dX1_isWholeTuple_12 ?_
      refine g_goto (tgt := 26) o rfl dX1_isWholeTuple_13 ?_
      cases Option.some.inj hf
      exact g_iret hret (Nat.le_of_ble_eq_true rfl) (Nat.le_of_ble_eq_true rfl) nb_0 dX1_isWholeTuple_26
    · refine g_iconst o ic_1 dX1_isWholeTuple_8 ?_
      refine g_goto (tgt := 26) o rfl dX1_isWholeTuple_9 ?_
      cases Option.some.inj hf
      exact g_iret hret (Nat.le_of_ble_eq_true rfl) (Nat.le_of_ble_eq_true rfl) nb_1 dX1_isWholeTuple_26
theorem c_X1_isWholeTuple (l : Launch) (hst : l.stackTraces = false) (p0 : Int32) (p1 : Int32) (t : Int32) (hf : f_X1_isWholeTuple p0 p1 = some t) : CoI l yX1_isWholeTuple (.code yX1_isWholeTuple cX1_isWholeTuple 2 (some .boolean)) 0 0 0 [.int p0, .int p1] w0 w0 (.inl t) := mkI hst (by decide +kernel) (Nat.le_of_ble_eq_true rfl) (fun x _ o hI hX => b_X1_isWholeTuple o p0 p1 t hf (hI _ rfl))
theorem k_X1_isWholeTuple_ {x : Cx} {cc : ByteArray} {nL : Nat} {own : String} {d mc ms k n : Nat} {lv : List (Nat × Value)} {pc i : Nat} {rest : List Value} {wd : va_W} {p0 : Int32} {p1 : Int32} (o : Ok x cc nL own d mc ms) {t : Int32} (ht : f_X1_isWholeTuple p0 p1 = some t) (hlk : Cond.methodLink own i yX1_isWholeTuple ∈ Ug) (hd : 0 < d) (hr : (rest.map fun v => v.category).sum ≤ 8) (hk : k + 0 ≤ mc ∧ n + 0 ≤ ms) (dg : decode cc pc = .ok (.invokestatic i, 3)) (kk : G x nL (k + 0) (n + 0) wd lv (pc + 3) (.int t :: rest)) : G x nL k n wd lv pc (.int p1 :: .int p0 :: rest) := gcI (wd2 := wd) o (c_X1_isWholeTuple (cxl x) o.2.2.2.2.2.2.2.2.2.1 p0 p1 t ht) (can_S o hd (Nat.le_of_ble_eq_true rfl) m_829 m_54 m_828 hlk yk_X1_isWholeTuple rfl hr hk dg) sp_none (fun E h => by cases h) (fun r h => by cases h; exact kk)
def rt_X1_isDigit (x : Cx) (t : Int32) : Prop := RetI x cX1_isDigit .boolean 0 0 (w0 (cxT x)) t
set_option maxRecDepth 20000 in
set_option maxHeartbeats 2000000 in
theorem b_X1_isDigit {x : Cx} (o : Ok x cX1_isDigit 1 RX1 0 0 0) (p0 : Int32) (t : Int32) (hf : f_X1_isDigit p0 = some t) (hret : rt_X1_isDigit x  t) : G x 1 0 0 (w0 (cxT x)) [(0, .int p0)] 0 [] := by
  unfold f_X1_isDigit at hf
  refine g_iload_n o 0 rfl rfl dX1_isDigit_0 ?_
  refine g_bipush o bp_48 dX1_isDigit_1 ?_
  refine g_ic_eq (tgt := 12) o rfl dX1_isDigit_3 hf (fun hc hf => ?_) (fun hc hf => ?_)
  · refine g_iconst o ic_1 dX1_isDigit_12 ?_
    refine g_goto (tgt := 17) o rfl dX1_isDigit_13 ?_
    cases Option.some.inj hf
    exact g_iret hret (Nat.le_of_ble_eq_true rfl) (Nat.le_of_ble_eq_true rfl) nb_1 dX1_isDigit_17
  · refine g_iload_n o 0 rfl rfl dX1_isDigit_6 ?_
    refine g_bipush o bp_49 dX1_isDigit_7 ?_
    refine g_ic_ne (tgt := 16) o rfl dX1_isDigit_9 hf (fun hc hf => ?_) (fun hc hf => ?_)
    · refine g_iconst o ic_0 dX1_isDigit_16 ?_
      cases Option.some.inj hf
      exact g_iret hret (Nat.le_of_ble_eq_true rfl) (Nat.le_of_ble_eq_true rfl) nb_0 dX1_isDigit_17
    · refine g_iconst o ic_1 dX1_isDigit_12 ?_
      refine g_goto (tgt := 17) o rfl dX1_isDigit_13 ?_
      cases Option.some.inj hf
      exact g_iret hret (Nat.le_of_ble_eq_true rfl) (Nat.le_of_ble_eq_true rfl) nb_1 dX1_isDigit_17
theorem c_X1_isDigit (l : Launch) (hst : l.stackTraces = false) (p0 : Int32) (t : Int32) (hf : f_X1_isDigit p0 = some t) : CoI l yX1_isDigit (.code yX1_isDigit cX1_isDigit 1 (some .boolean)) 0 0 0 [.int p0] w0 w0 (.inl t) := mkI hst (by decide +kernel) (Nat.le_of_ble_eq_true rfl) (fun x _ o hI hX => b_X1_isDigit o p0 t hf (hI _ rfl))
theorem k_X1_isDigit_ {x : Cx} {cc : ByteArray} {nL : Nat} {own : String} {d mc ms k n : Nat} {lv : List (Nat × Value)} {pc i : Nat} {rest : List Value} {wd : va_W} {p0 : Int32} (o : Ok x cc nL own d mc ms) {t : Int32} (ht : f_X1_isDigit p0 = some t) (hlk : Cond.methodLink own i yX1_isDigit ∈ Ug) (hd : 0 < d) (hr : (rest.map fun v => v.category).sum ≤ 8) (hk : k + 0 ≤ mc ∧ n + 0 ≤ ms) (dg : decode cc pc = .ok (.invokestatic i, 3)) (kk : G x nL (k + 0) (n + 0) wd lv (pc + 3) (.int t :: rest)) : G x nL k n wd lv pc (.int p0 :: rest) := gcI (wd2 := wd) o (c_X1_isDigit (cxl x) o.2.2.2.2.2.2.2.2.2.1 p0 t ht) (can_S o hd (Nat.le_of_ble_eq_true rfl) m_832 m_54 m_831 hlk yk_X1_isDigit rfl hr hk dg) sp_none (fun E h => by cases h) (fun r h => by cases h; exact kk)
def rt_X1_requireSlot (x : Cx) (t : (Unit ⊕ String)) : Prop := (t = .inl () → RetV x cX1_requireSlot 1 6 (w0 (cxT x))) ∧ ∀ E, t = .inr E → RetX x 1 6 (w0 (cxT x)) E
set_option maxRecDepth 20000 in
set_option maxHeartbeats 2000000 in
theorem b_X1_requireSlot {x : Cx} (o : Ok x cX1_requireSlot 1 RX1 0 1 6) (p0 : Int32) (t : (Unit ⊕ String)) (hf : f_X1_requireSlot p0 = some t) (hret : rt_X1_requireSlot x  t) : G x 1 0 0 (w0 (cxT x)) [(0, .int p0)] 0 [] := by
  unfold f_X1_requireSlot at hf
  refine g_iload_n o 0 rfl rfl dX1_requireSlot_0 ?_
  refine g_if_lt (tgt := 9) o rfl dX1_requireSlot_1 hf (fun hc hf => ?_) (fun hc hf => ?_)
  · cases Option.some.inj hf
    exact g_throwSW o (hret.2 _ rfl) fit_io fit_re rfl m_373 m_63 st_293 at_157 go_157 dX1_requireSlot_9 dX1_requireSlot_12 dX1_requireSlot_13 dX1_requireSlot_16 dX1_requireSlot_19 (Nat.le_of_ble_eq_true rfl) (Nat.le_of_ble_eq_true rfl)
  · refine g_iload_n o 0 rfl rfl dX1_requireSlot_4 ?_
    refine g_iconst o ic_3 dX1_requireSlot_5 ?_
    refine g_ic_lt (tgt := 20) o rfl dX1_requireSlot_6 hf (fun hc hf => ?_) (fun hc hf => ?_)
    · cases Option.some.inj hf
      exact g_vret (hret.1 rfl) (Nat.le_of_ble_eq_true rfl) (Nat.le_of_ble_eq_true rfl) dX1_requireSlot_20
    · cases Option.some.inj hf
      exact g_throwSW o (hret.2 _ rfl) fit_io fit_re rfl m_373 m_63 st_293 at_157 go_157 dX1_requireSlot_9 dX1_requireSlot_12 dX1_requireSlot_13 dX1_requireSlot_16 dX1_requireSlot_19 (Nat.le_of_ble_eq_true rfl) (Nat.le_of_ble_eq_true rfl)
theorem c_X1_requireSlot (l : Launch) (hst : l.stackTraces = false) (p0 : Int32) (t : (Unit ⊕ String)) (hf : f_X1_requireSlot p0 = some t) : CoV l yX1_requireSlot (.code yX1_requireSlot cX1_requireSlot 1 none) 0 1 6 [.int p0] w0 w0 (t) := mkV hst (by decide +kernel) (Nat.le_of_ble_eq_true rfl) (fun x _ o hI hX => b_X1_requireSlot o p0 t hf ⟨hI, hX⟩)
theorem k_X1_requireSlot_n {x : Cx} {cc : ByteArray} {nL : Nat} {own : String} {d mc ms k n : Nat} {lv : List (Nat × Value)} {pc i : Nat} {rest : List Value} {wd : va_W} {p0 : Int32} (o : Ok x cc nL own d mc ms) {r : Unit} (ht : f_X1_requireSlot p0 = some (.inl r)) (hlk : Cond.methodLink own i yX1_requireSlot ∈ Ug) (hd : 0 < d) (hr : (rest.map fun v => v.category).sum ≤ 8) (hk : k + 1 ≤ mc ∧ n + 6 ≤ ms) (dg : decode cc pc = .ok (.invokestatic i, 3)) (kk : G x nL (k + 1) (n + 6) wd lv (pc + 3) rest) : G x nL k n wd lv pc (.int p0 :: rest) := gcV (wd2 := wd) o (c_X1_requireSlot (cxl x) o.2.2.2.2.2.2.2.2.2.1 p0 (.inl r) ht) (can_S o hd (Nat.le_of_ble_eq_true rfl) m_882 m_54 m_881 hlk yk_X1_requireSlot rfl hr hk dg) sp_none (fun E h => by cases h) (fun h => kk)
theorem k_X1_requireSlot_x {x : Cx} {cc : ByteArray} {nL : Nat} {own : String} {d mc ms k n : Nat} {lv : List (Nat × Value)} {pc i : Nat} {rest : List Value} {wd : va_W} {p0 : Int32} (o : Ok x cc nL own d mc ms) {E : String} (ht : f_X1_requireSlot p0 = some (.inr E)) (hlk : Cond.methodLink own i yX1_requireSlot ∈ Ug) (hd : 0 < d) (hr : (rest.map fun v => v.category).sum ≤ 8) (hk : k + 1 ≤ mc ∧ n + 6 ≤ ms) (dg : decode cc pc = .ok (.invokestatic i, 3)) (kk : XW x nL (k + 1) (n + 6) wd lv pc rest E) : G x nL k n wd lv pc (.int p0 :: rest) := gcV (wd2 := wd) o (c_X1_requireSlot (cxl x) o.2.2.2.2.2.2.2.2.2.1 p0 (.inr E) ht) (can_S o hd (Nat.le_of_ble_eq_true rfl) m_882 m_54 m_881 hlk yk_X1_requireSlot rfl hr hk dg) sp_none (fun E h => by cases h; exact kk) (fun h => by cases h)
def rt_X0_copyFrom (x : Cx) (b c : Nat → Nat) (w : St) (t : St) : Prop := RetV x cX0_copyFrom 0 0 (wII b t c w (cxT x))
set_option maxRecDepth 20000 in
set_option maxHeartbeats 2000000 in
theorem b_X0_copyFrom {x : Cx} (o : Ok x cX0_copyFrom 2 RX0 1 0 0) (b c : Nat → Nat) (v w : St) (t : St) (hf : f_X0_copyFrom v w = some t) (hret : rt_X0_copyFrom x b c w t) : G x 2 0 0 (wII b v c w (cxT x)) [(0, .ref (b 0)), (1, .ref (c 0))] 0 [] := by
  unfold f_X0_copyFrom at hf
  refine g_aload_n o 0 rfl rfl dX0_copyFrom_0 ?_
  refine g_aload_n o 1 rfl rfl dX0_copyFrom_1 ?_
  refine E_get0 o m_82 dX0_copyFrom_2 ?_
  refine D_put0 o m_82 dX0_copyFrom_5 ?_
  refine g_aload_n o 0 rfl rfl dX0_copyFrom_8 ?_
  refine g_aload_n o 1 rfl rfl dX0_copyFrom_9 ?_
  refine E_get3 o m_88 dX0_copyFrom_10 ?_
  refine D_put3 o m_88 dX0_copyFrom_13 ?_
  refine g_aload_n o 0 rfl rfl dX0_copyFrom_16 ?_
  refine g_aload_n o 1 rfl rfl dX0_copyFrom_17 ?_
  refine E_get4 o m_90 dX0_copyFrom_18 ?_
  refine D_put4 o m_90 dX0_copyFrom_21 ?_
  refine g_aload_n o 1 rfl rfl dX0_copyFrom_24 ?_
  refine E_get1 o m_84 dX0_copyFrom_25 ?_
  refine g_iconst o ic_0 dX0_copyFrom_28 ?_
  refine g_aload_n o 0 rfl rfl dX0_copyFrom_29 ?_
  refine D_get1 o m_84 dX0_copyFrom_30 ?_
  refine g_iconst o ic_0 dX0_copyFrom_33 ?_
  refine g_bipush o bp_8 dX0_copyFrom_34 ?_
  refine g_copy1 o dX0_copyFrom_36 ?_
  refine g_aload_n o 1 rfl rfl dX0_copyFrom_39 ?_
  refine E_get2 o m_86 dX0_copyFrom_40 ?_
  refine g_iconst o ic_0 dX0_copyFrom_43 ?_
  refine g_aload_n o 0 rfl rfl dX0_copyFrom_44 ?_
  refine D_get2 o m_86 dX0_copyFrom_45 ?_
  refine g_iconst o ic_0 dX0_copyFrom_48 ?_
  refine g_bipush o bp_8 dX0_copyFrom_49 ?_
  refine g_copy2 o dX0_copyFrom_51 ?_
  refine g_aload_n o 1 rfl rfl dX0_copyFrom_54 ?_
  refine E_get5 o m_92 dX0_copyFrom_55 ?_
  refine g_iconst o ic_0 dX0_copyFrom_58 ?_
  refine g_aload_n o 0 rfl rfl dX0_copyFrom_59 ?_
  refine D_get5 o m_92 dX0_copyFrom_60 ?_
  refine g_iconst o ic_0 dX0_copyFrom_63 ?_
  refine g_bipush o bp_20 dX0_copyFrom_64 ?_
  refine g_copy5 o dX0_copyFrom_66 ?_
  refine g_aload_n o 1 rfl rfl dX0_copyFrom_69 ?_
  refine E_get6 o m_94 dX0_copyFrom_70 ?_
  refine g_iconst o ic_0 dX0_copyFrom_73 ?_
  refine g_aload_n o 0 rfl rfl dX0_copyFrom_74 ?_
  refine D_get6 o m_94 dX0_copyFrom_75 ?_
  refine g_iconst o ic_0 dX0_copyFrom_78 ?_
  refine g_bipush o bp_20 dX0_copyFrom_79 ?_
  refine g_copy6 o dX0_copyFrom_81 ?_
  cases Option.some.inj hf
  exact g_vret hret (Nat.le_of_ble_eq_true rfl) (Nat.le_of_ble_eq_true rfl) dX0_copyFrom_84
theorem c_X0_copyFrom (l : Launch) (hst : l.stackTraces = false) (b c : Nat → Nat) (v w : St) (t : St) (hf : f_X0_copyFrom v w = some t) : CoV l yX0_copyFrom (.code yX0_copyFrom cX0_copyFrom 2 none) 1 0 0 [.ref (b 0), .ref (c 0)] (wII b v c w) (wII b t c w) (.inl ()) := mkV hst (by decide +kernel) (Nat.le_of_ble_eq_true rfl) (fun x _ o hI hX => b_X0_copyFrom o b c v w t hf (hI rfl))
theorem k_X0_copyFrom_NS {x : Cx} {cc : ByteArray} {nL : Nat} {own : String} {d mc ms k n : Nat} {lv : List (Nat × Value)} {pc i : Nat} {rest : List Value} {a : Nat → Nat} {u : St} {host : String} {b c : Nat → Nat} {v w : St} (o : Ok x cc nL own d mc ms) {t : St} (ht : f_X0_copyFrom v w = some t) (hlk : Cond.methodLinkNest own i yX0_copyFrom host ∈ Ue) (hd : 1 < d) (hr : (rest.map fun v => v.category).sum ≤ 8) (hk : k + 0 ≤ mc ∧ n + 0 ≤ ms) (dg : decode cc pc = .ok (.invokevirtual i, 3)) (kk : G x nL (k + 0) (n + 0) (wX a u b t c w (cxT x)) lv (pc + 3) rest) : G x nL k n (wX a u b v c w (cxT x)) lv pc (.ref (c 0) :: .ref (b 0) :: rest) := gcV (wd2 := (wX a u b t c w (cxT x))) o (c_X0_copyFrom (cxl x) o.2.2.2.2.2.2.2.2.2.1 b c v w t ht) (can_VN (q0 := 5) o rfl rfl hd (Nat.le_of_ble_eq_true rfl) m_225 m_55 m_224 m_7 hlk yk_X0_copyFrom rfl hr hk dg) sp_XS (fun E h => by cases h) (fun h => kk)
theorem k_X0_copyFrom_NT {x : Cx} {cc : ByteArray} {nL : Nat} {own : String} {d mc ms k n : Nat} {lv : List (Nat × Value)} {pc i : Nat} {rest : List Value} {a : Nat → Nat} {u : St} {host : String} {b c : Nat → Nat} {v w : St} (o : Ok x cc nL own d mc ms) {t : St} (ht : f_X0_copyFrom v w = some t) (hlk : Cond.methodLinkNest own i yX0_copyFrom host ∈ Ue) (hd : 1 < d) (hr : (rest.map fun v => v.category).sum ≤ 8) (hk : k + 0 ≤ mc ∧ n + 0 ≤ ms) (dg : decode cc pc = .ok (.invokevirtual i, 3)) (kk : G x nL (k + 0) (n + 0) (wX a u c w b t (cxT x)) lv (pc + 3) rest) : G x nL k n (wX a u c w b v (cxT x)) lv pc (.ref (c 0) :: .ref (b 0) :: rest) := gcV (wd2 := (wX a u c w b t (cxT x))) o (c_X0_copyFrom (cxl x) o.2.2.2.2.2.2.2.2.2.1 b c v w t ht) (can_VN (q0 := 10) o rfl rfl hd (Nat.le_of_ble_eq_true rfl) m_225 m_55 m_224 m_7 hlk yk_X0_copyFrom rfl hr hk dg) sp_XT (fun E h => by cases h) (fun h => kk)
