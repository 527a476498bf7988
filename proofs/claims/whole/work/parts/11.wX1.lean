def rt_X1_requireRoomForRelation (x : Cx) (a b c : Nat → Nat) (u v w : St) (t : (Unit ⊕ String)) : Prop := (t = .inl () → RetV x cX1_requireRoomForRelation 1 6 (wX a u b v c w (cxT x))) ∧ ∀ E, t = .inr E → RetX x 1 6 (wX a u b v c w (cxT x)) E
set_option maxRecDepth 20000 in
set_option maxHeartbeats 2000000 in
theorem b_X1_requireRoomForRelation {x : Cx} (o : Ok x cX1_requireRoomForRelation 1 RX1 0 1 6) (a b c : Nat → Nat) (u v w : St) (t : (Unit ⊕ String)) (hf : f_X1_requireRoomForRelation u v w = some t) (hret : rt_X1_requireRoomForRelation x a b c u v w t) : G x 1 0 0 (wX a u b v c w (cxT x)) [(0, .ref (a 0))] 0 [] := by
  unfold f_X1_requireRoomForRelation at hf
  refine g_aload_n o 0 rfl rfl dX1_requireRoomForRelation_0 ?_
  refine X_get0 o m_112 dX1_requireRoomForRelation_1 ?_
  refine Y_get0 o e_83 dX1_requireRoomForRelation_4 ?_
  refine g_bipush o bp_8 dX1_requireRoomForRelation_7 ?_
  refine g_ic_lt (tgt := 23) o rfl dX1_requireRoomForRelation_9 hf (fun hc hf => ?_) (fun hc hf => ?_)
  · cases Option.some.inj hf
    exact g_vret (hret.1 rfl) (Nat.le_of_ble_eq_true rfl) (Nat.le_of_ble_eq_true rfl) dX1_requireRoomForRelation_23
  · cases Option.some.inj hf
    exact g_throwSW o (hret.2 _ rfl) fit_is fit_re rfl m_319 m_61 st_303 at_188 go_188 dX1_requireRoomForRelation_12 dX1_requireRoomForRelation_15 dX1_requireRoomForRelation_16 dX1_requireRoomForRelation_19 dX1_requireRoomForRelation_22 (Nat.le_of_ble_eq_true rfl) (Nat.le_of_ble_eq_true rfl)
theorem c_X1_requireRoomForRelation (l : Launch) (hst : l.stackTraces = false) (a b c : Nat → Nat) (u v w : St) (t : (Unit ⊕ String)) (hf : f_X1_requireRoomForRelation u v w = some t) : CoV l yX1_requireRoomForRelation (.code yX1_requireRoomForRelation cX1_requireRoomForRelation 1 none) 0 1 6 [.ref (a 0)] (wX a u b v c w) (wX a u b v c w) (t) := mkV hst (by decide +kernel) (Nat.le_of_ble_eq_true rfl) (fun x _ o hI hX => b_X1_requireRoomForRelation o a b c u v w t hf ⟨hI, hX⟩)
theorem k_X1_requireRoomForRelation_n {x : Cx} {cc : ByteArray} {nL : Nat} {own : String} {d mc ms k n : Nat} {lv : List (Nat × Value)} {pc i : Nat} {rest : List Value} {a b c : Nat → Nat} {u v w : St} (o : Ok x cc nL own d mc ms) {r : Unit} (ht : f_X1_requireRoomForRelation u v w = some (.inl r)) (hlk : Cond.methodLink own i yX1_requireRoomForRelation ∈ Ug) (hd : 0 < d) (hr : (rest.map fun v => v.category).sum ≤ 8) (hk : k + 1 ≤ mc ∧ n + 6 ≤ ms) (dg : decode cc pc = .ok (.invokevirtual i, 3)) (kk : G x nL (k + 1) (n + 6) (wX a u b v c w (cxT x)) lv (pc + 3) rest) : G x nL k n (wX a u b v c w (cxT x)) lv pc (.ref (a 0) :: rest) := gcV (wd2 := (wX a u b v c w (cxT x))) o (c_X1_requireRoomForRelation (cxl x) o.2.2.2.2.2.2.2.2.2.1 a b c u v w (.inl r) ht) (can_V (q0 := 0) o rfl rfl hd (Nat.le_of_ble_eq_true rfl) m_318 m_54 m_317 m_10 hlk yk_X1_requireRoomForRelation rfl hr hk dg) sp_X (fun E h => by cases h) (fun h => kk)
theorem k_X1_requireRoomForRelation_x {x : Cx} {cc : ByteArray} {nL : Nat} {own : String} {d mc ms k n : Nat} {lv : List (Nat × Value)} {pc i : Nat} {rest : List Value} {a b c : Nat → Nat} {u v w : St} (o : Ok x cc nL own d mc ms) {E : String} (ht : f_X1_requireRoomForRelation u v w = some (.inr E)) (hlk : Cond.methodLink own i yX1_requireRoomForRelation ∈ Ug) (hd : 0 < d) (hr : (rest.map fun v => v.category).sum ≤ 8) (hk : k + 1 ≤ mc ∧ n + 6 ≤ ms) (dg : decode cc pc = .ok (.invokevirtual i, 3)) (kk : XW x nL (k + 1) (n + 6) (wX a u b v c w (cxT x)) lv pc rest E) : G x nL k n (wX a u b v c w (cxT x)) lv pc (.ref (a 0) :: rest) := gcV (wd2 := (wX a u b v c w (cxT x))) o (c_X1_requireRoomForRelation (cxl x) o.2.2.2.2.2.2.2.2.2.1 a b c u v w (.inr E) ht) (can_V (q0 := 0) o rfl rfl hd (Nat.le_of_ble_eq_true rfl) m_318 m_54 m_317 m_10 hlk yk_X1_requireRoomForRelation rfl hr hk dg) sp_X (fun E h => by cases h; exact kk) (fun h => by cases h)
def rt_X1_addNew (x : Cx) (a b c : Nat → Nat) (u w : St) (t : (Int32 ⊕ String) × St) : Prop := (∀ r, t.1 = .inl r → RetI x cX1_addNew .int 1 6 (wX a u b t.2 c w (cxT x)) r) ∧ ∀ E, t.1 = .inr E → RetX x 1 6 (wX a u b t.2 c w (cxT x)) E
set_option maxRecDepth 20000 in
set_option maxHeartbeats 2000000 in
theorem b_X1_addNew {x : Cx} (o : Ok x cX1_addNew 4 RX1 1 1 6) (a b c : Nat → Nat) (u v w : St) (p0 : Int32) (p1 : Int32) (t : (Int32 ⊕ String) × St) (hf : f_X1_addNew u v w p0 p1 = some t) (hret : rt_X1_addNew x a b c u w t) : G x 4 0 0 (wX a u b v c w (cxT x)) [(0, .ref (a 0)), (1, .int p0), (2, .int p1)] 0 [] := by
  unfold f_X1_addNew at hf
  refine g_aload_n o 0 rfl rfl dX1_addNew_0 ?_
  rcases bz_some hf with ⟨r4, hr4, hf⟩ | ⟨E5, hr4, hf⟩
  · refine k_X1_requireRoomForRelation_n o hr4 m_315 (Nat.le_of_ble_eq_true rfl) (Nat.le_of_ble_eq_true rfl) ⟨(Nat.le_of_ble_eq_true rfl), (Nat.le_of_ble_eq_true rfl)⟩ dX1_addNew_1 ?_
    refine g_aload_n o 0 rfl rfl dX1_addNew_4 ?_
    refine X_get0 o m_112 dX1_addNew_5 ?_
    refine Y_get0 o e_83 dX1_addNew_8 ?_
    refine g_nmi hf (fun x6 hf => ?_)
    refine g_istore_n o [(3, .int x6), (0, .ref (a 0)), (1, .int p0), (2, .int p1)] (Nat.le_of_ble_eq_true rfl) rfl rfl dX1_addNew_11 ?_
    refine g_aload_n o 1 rfl rfl dX1_addNew_12 ?_
    refine X_get0 o m_112 dX1_addNew_13 ?_
    refine Y_get1 o e_85 dX1_addNew_16 ?_
    refine g_iload_n o 0 rfl rfl dX1_addNew_19 ?_
    refine g_iload_n o 2 rfl rfl dX1_addNew_20 ?_
    refine Y_st1 o dX1_addNew_21 hf (fun hf => ?_)
    refine g_aload_n o 1 rfl rfl dX1_addNew_22 ?_
    refine X_get0 o m_112 dX1_addNew_23 ?_
    refine Y_get2 o e_87 dX1_addNew_26 ?_
    refine g_iload_n o 0 rfl rfl dX1_addNew_29 ?_
    refine g_iload_n o 3 rfl rfl dX1_addNew_30 ?_
    refine Y_st2 o dX1_addNew_31 hf (fun hf => ?_)
    refine g_aload_n o 1 rfl rfl dX1_addNew_32 ?_
    refine X_get0 o m_112 dX1_addNew_33 ?_
    refine g_dup o rfl dX1_addNew_36 ?_
    refine Y_get0 o e_83 dX1_addNew_37 ?_
    refine g_iconst o ic_1 dX1_addNew_40 ?_
    refine g_iadd o dX1_addNew_41 ?_
    refine Y_put0 o e_83 dX1_addNew_42 ?_
    refine g_iload_n o 0 rfl rfl dX1_addNew_45 ?_
    cases Option.some.inj hf
    exact g_iret (hret.1 _ rfl) (Nat.le_of_ble_eq_true rfl) (Nat.le_of_ble_eq_true rfl) (vp_nar_int _) dX1_addNew_46
  · cases Option.some.inj hf
    exact k_X1_requireRoomForRelation_x o hr4 m_315 (Nat.le_of_ble_eq_true rfl) (Nat.le_of_ble_eq_true rfl) ⟨(Nat.le_of_ble_eq_true rfl), (Nat.le_of_ble_eq_true rfl)⟩ dX1_addNew_1 (xw_out o (hret.2 _ rfl) (Nat.le_of_ble_eq_true rfl) (Nat.le_of_ble_eq_true rfl))
theorem c_X1_addNew (l : Launch) (hst : l.stackTraces = false) (a b c : Nat → Nat) (u v w : St) (p0 : Int32) (p1 : Int32) (t : (Int32 ⊕ String) × St) (hf : f_X1_addNew u v w p0 p1 = some t) : CoI l yX1_addNew (.code yX1_addNew cX1_addNew 4 (some .int)) 1 1 6 [.ref (a 0), .int p0, .int p1] (wX a u b v c w) (wX a u b t.2 c w) (t.1) := mkI hst (by decide +kernel) (Nat.le_of_ble_eq_true rfl) (fun x _ o hI hX => b_X1_addNew o a b c u v w p0 p1 t hf ⟨hI, hX⟩)
theorem k_X1_addNew_n {x : Cx} {cc : ByteArray} {nL : Nat} {own : String} {d mc ms k n : Nat} {lv : List (Nat × Value)} {pc i : Nat} {rest : List Value} {a b c : Nat → Nat} {u v w : St} {p0 : Int32} {p1 : Int32} (o : Ok x cc nL own d mc ms) {r : Int32} {z : St} (ht : f_X1_addNew u v w p0 p1 = some (.inl r, z)) (hlk : Cond.methodLink own i yX1_addNew ∈ Ug) (hd : 1 < d) (hr : (rest.map fun v => v.category).sum ≤ 8) (hk : k + 1 ≤ mc ∧ n + 6 ≤ ms) (dg : decode cc pc = .ok (.invokevirtual i, 3)) (kk : G x nL (k + 1) (n + 6) (wX a u b z c w (cxT x)) lv (pc + 3) (.int r :: rest)) : G x nL k n (wX a u b v c w (cxT x)) lv pc (.int p1 :: .int p0 :: .ref (a 0) :: rest) := gcI (wd2 := (wX a u b z c w (cxT x))) o (c_X1_addNew (cxl x) o.2.2.2.2.2.2.2.2.2.1 a b c u v w p0 p1 (.inl r, z) ht) (can_V (q0 := 0) o rfl rfl hd (Nat.le_of_ble_eq_true rfl) m_314 m_54 m_313 m_9 hlk yk_X1_addNew rfl hr hk dg) sp_X (fun E h => by cases h) (fun r h => by cases h; exact kk)
theorem k_X1_addNew_x {x : Cx} {cc : ByteArray} {nL : Nat} {own : String} {d mc ms k n : Nat} {lv : List (Nat × Value)} {pc i : Nat} {rest : List Value} {a b c : Nat → Nat} {u v w : St} {p0 : Int32} {p1 : Int32} (o : Ok x cc nL own d mc ms) {E : String} {z : St} (ht : f_X1_addNew u v w p0 p1 = some (.inr E, z)) (hlk : Cond.methodLink own i yX1_addNew ∈ Ug) (hd : 1 < d) (hr : (rest.map fun v => v.category).sum ≤ 8) (hk : k + 1 ≤ mc ∧ n + 6 ≤ ms) (dg : decode cc pc = .ok (.invokevirtual i, 3)) (kk : XW x nL (k + 1) (n + 6) (wX a u b z c w (cxT x)) lv pc rest E) : G x nL k n (wX a u b v c w (cxT x)) lv pc (.int p1 :: .int p0 :: .ref (a 0) :: rest) := gcI (wd2 := (wX a u b z c w (cxT x))) o (c_X1_addNew (cxl x) o.2.2.2.2.2.2.2.2.2.1 a b c u v w p0 p1 (.inr E, z) ht) (can_V (q0 := 0) o rfl rfl hd (Nat.le_of_ble_eq_true rfl) m_314 m_54 m_313 m_9 hlk yk_X1_addNew rfl hr hk dg) sp_X (fun E h => by cases h; exact kk) (fun r h => by cases h)
def rt_X1_addClause (x : Cx) (a b c : Nat → Nat) (u w : St) (t : (Int32 ⊕ String) × St) : Prop := (∀ r, t.1 = .inl r → RetI x cX1_addClause .int 3 18 (wX a u b t.2 c w (cxT x)) r) ∧ ∀ E, t.1 = .inr E → RetX x 3 18 (wX a u b t.2 c w (cxT x)) E
set_option maxRecDepth 20000 in
set_option maxHeartbeats 2000000 in
theorem b_X1_addClause {x : Cx} (o : Ok x cX1_addClause 3 RX1 2 3 18) (a b c : Nat → Nat) (u v w : St) (p0 : Int32) (p1 : Int32) (t : (Int32 ⊕ String) × St) (hf : f_X1_addClause u v w p0 p1 = some t) (hret : rt_X1_addClause x a b c u w t) : G x 3 0 0 (wX a u b v c w (cxT x)) [(0, .ref (a 0)), (1, .int p0), (2, .int p1)] 0 [] := by
  unfold f_X1_addClause at hf
  refine g_iload_n o 1 rfl rfl dX1_addClause_0 ?_
  rcases bz_some hf with ⟨r8, hr8, hf⟩ | ⟨E9, hr8, hf⟩
  · refine k_X1_requireRelationArity_n o hr8 m_238 (Nat.le_of_ble_eq_true rfl) (Nat.le_of_ble_eq_true rfl) ⟨(Nat.le_of_ble_eq_true rfl), (Nat.le_of_ble_eq_true rfl)⟩ dX1_addClause_1 ?_
    refine g_iload_n o 2 rfl rfl dX1_addClause_4 ?_
    refine g_if_lt (tgt := 16) o rfl dX1_addClause_5 hf (fun hc hf => ?_) (fun hc hf => ?_)
    · cases Option.some.inj hf
      exact g_throwS o (hret.2 _ rfl) fit_ia fit_re rfl m_241 m_60 st_61 at_63 go_63 dX1_addClause_16 dX1_addClause_19 dX1_addClause_20 dX1_addClause_22 dX1_addClause_25 (Nat.le_of_ble_eq_true rfl) (Nat.le_of_ble_eq_true rfl)
    · refine g_iload_n o 2 rfl rfl dX1_addClause_8 ?_
      refine g_iload_n o 1 rfl rfl dX1_addClause_9 ?_
      obtain ⟨r10, hr10, hf⟩ := bd_some hf
      refine k_X1_greatestTuple_ o hr10 m_342 (Nat.le_of_ble_eq_true rfl) (Nat.le_of_ble_eq_true rfl) ⟨(Nat.le_of_ble_eq_true rfl), (Nat.le_of_ble_eq_true rfl)⟩ dX1_addClause_10 ?_
      refine g_ic_le (tgt := 26) o rfl dX1_addClause_13 hf (fun hc hf => ?_) (fun hc hf => ?_)
      · refine g_aload_n o 0 rfl rfl dX1_addClause_26 ?_
        refine g_iload_n o 1 rfl rfl dX1_addClause_27 ?_
        refine g_iload_n o 1 rfl rfl dX1_addClause_28 ?_
        obtain ⟨r11, hr11, hf⟩ := bd_some hf
        refine k_X1_allTuples_ o hr11 m_346 (Nat.le_of_ble_eq_true rfl) (Nat.le_of_ble_eq_true rfl) ⟨(Nat.le_of_ble_eq_true rfl), (Nat.le_of_ble_eq_true rfl)⟩ dX1_addClause_29 ?_
        refine g_iconst o ic_1 dX1_addClause_32 ?_
        refine g_iload_n o 2 rfl rfl dX1_addClause_33 ?_
        refine g_ishl o dX1_addClause_34 ?_
        refine g_iconst o ic_m1 dX1_addClause_35 ?_
        refine g_ixor o dX1_addClause_36 ?_
        refine g_iand o dX1_addClause_37 ?_
        rcases bx_some hf with ⟨r12, z14, hr12, hf⟩ | ⟨E13, z14, hr12, hf⟩
        · refine k_X1_addNew_n o hr12 m_311 (Nat.le_of_ble_eq_true rfl) (Nat.le_of_ble_eq_true rfl) ⟨(Nat.le_of_ble_eq_true rfl), (Nat.le_of_ble_eq_true rfl)⟩ dX1_addClause_38 ?_
          cases Option.some.inj hf
          exact g_iret (hret.1 _ rfl) (Nat.le_of_ble_eq_true rfl) (Nat.le_of_ble_eq_true rfl) (vp_nar_int _) dX1_addClause_41
        · cases Option.some.inj hf
          exact k_X1_addNew_x o hr12 m_311 (Nat.le_of_ble_eq_true rfl) (Nat.le_of_ble_eq_true rfl) ⟨(Nat.le_of_ble_eq_true rfl), (Nat.le_of_ble_eq_true rfl)⟩ dX1_addClause_38 (xw_out o (hret.2 _ rfl) (Nat.le_of_ble_eq_true rfl) (Nat.le_of_ble_eq_true rfl))
      · cases Option.some.inj hf
        exact g_throwS o (hret.2 _ rfl) fit_ia fit_re rfl m_241 m_60 st_61 at_63 go_63 dX1_addClause_16 dX1_addClause_19 dX1_addClause_20 dX1_addClause_22 dX1_addClause_25 (Nat.le_of_ble_eq_true rfl) (Nat.le_of_ble_eq_true rfl)
  · cases Option.some.inj hf
    exact k_X1_requireRelationArity_x o hr8 m_238 (Nat.le_of_ble_eq_true rfl) (Nat.le_of_ble_eq_true rfl) ⟨(Nat.le_of_ble_eq_true rfl), (Nat.le_of_ble_eq_true rfl)⟩ dX1_addClause_1 (xw_out o (hret.2 _ rfl) (Nat.le_of_ble_eq_true rfl) (Nat.le_of_ble_eq_true rfl))
theorem c_X1_addClause (l : Launch) (hst : l.stackTraces = false) (a b c : Nat → Nat) (u v w : St) (p0 : Int32) (p1 : Int32) (t : (Int32 ⊕ String) × St) (hf : f_X1_addClause u v w p0 p1 = some t) : CoI l yX1_addClause (.code yX1_addClause cX1_addClause 3 (some .int)) 2 3 18 [.ref (a 0), .int p0, .int p1] (wX a u b v c w) (wX a u b t.2 c w) (t.1) := mkI hst (by decide +kernel) (Nat.le_of_ble_eq_true rfl) (fun x _ o hI hX => b_X1_addClause o a b c u v w p0 p1 t hf ⟨hI, hX⟩)
def rt_X1_requireRelation (x : Cx) (a b c : Nat → Nat) (u v w : St) (t : (Unit ⊕ String)) : Prop := (t = .inl () → RetV x cX1_requireRelation 1 6 (wX a u b v c w (cxT x))) ∧ ∀ E, t = .inr E → RetX x 1 6 (wX a u b v c w (cxT x)) E
set_option maxRecDepth 20000 in
set_option maxHeartbeats 2000000 in
theorem b_X1_requireRelation {x : Cx} (o : Ok x cX1_requireRelation 2 RX1 0 1 6) (a b c : Nat → Nat) (u v w : St) (p0 : Int32) (t : (Unit ⊕ String)) (hf : f_X1_requireRelation u v w p0 = some t) (hret : rt_X1_requireRelation x a b c u v w t) : G x 2 0 0 (wX a u b v c w (cxT x)) [(0, .ref (a 0)), (1, .int p0)] 0 [] := by
  unfold f_X1_requireRelation at hf
  refine g_iload_n o 1 rfl rfl dX1_requireRelation_0 ?_
  refine g_if_lt (tgt := 15) o rfl dX1_requireRelation_1 hf (fun hc hf => ?_) (fun hc hf => ?_)
  · cases Option.some.inj hf
    exact g_throwSW o (hret.2 _ rfl) fit_io fit_re rfl m_373 m_63 st_297 at_157 go_157 dX1_requireRelation_15 dX1_requireRelation_18 dX1_requireRelation_19 dX1_requireRelation_22 dX1_requireRelation_25 (Nat.le_of_ble_eq_true rfl) (Nat.le_of_ble_eq_true rfl)
  · refine g_iload_n o 1 rfl rfl dX1_requireRelation_4 ?_
    refine g_aload_n o 0 rfl rfl dX1_requireRelation_5 ?_
    refine X_get0 o m_112 dX1_requireRelation_6 ?_
    refine Y_get0 o e_83 dX1_requireRelation_9 ?_
    refine g_ic_lt (tgt := 26) o rfl dX1_requireRelation_12 hf (fun hc hf => ?_) (fun hc hf => ?_)
    · cases Option.some.inj hf
      exact g_vret (hret.1 rfl) (Nat.le_of_ble_eq_true rfl) (Nat.le_of_ble_eq_true rfl) dX1_requireRelation_26
    · cases Option.some.inj hf
      exact g_throwSW o (hret.2 _ rfl) fit_io fit_re rfl m_373 m_63 st_297 at_157 go_157 dX1_requireRelation_15 dX1_requireRelation_18 dX1_requireRelation_19 dX1_requireRelation_22 dX1_requireRelation_25 (Nat.le_of_ble_eq_true rfl) (Nat.le_of_ble_eq_true rfl)
theorem c_X1_requireRelation (l : Launch) (hst : l.stackTraces = false) (a b c : Nat → Nat) (u v w : St) (p0 : Int32) (t : (Unit ⊕ String)) (hf : f_X1_requireRelation u v w p0 = some t) : CoV l yX1_requireRelation (.code yX1_requireRelation cX1_requireRelation 2 none) 0 1 6 [.ref (a 0), .int p0] (wX a u b v c w) (wX a u b v c w) (t) := mkV hst (by decide +kernel) (Nat.le_of_ble_eq_true rfl) (fun x _ o hI hX => b_X1_requireRelation o a b c u v w p0 t hf ⟨hI, hX⟩)
theorem k_X1_requireRelation_n {x : Cx} {cc : ByteArray} {nL : Nat} {own : String} {d mc ms k n : Nat} {lv : List (Nat × Value)} {pc i : Nat} {rest : List Value} {a b c : Nat → Nat} {u v w : St} {p0 : Int32} (o : Ok x cc nL own d mc ms) {r : Unit} (ht : f_X1_requireRelation u v w p0 = some (.inl r)) (hlk : Cond.methodLink own i yX1_requireRelation ∈ Ug) (hd : 0 < d) (hr : (rest.map fun v => v.category).sum ≤ 8) (hk : k + 1 ≤ mc ∧ n + 6 ≤ ms) (dg : decode cc pc = .ok (.invokevirtual i, 3)) (kk : G x nL (k + 1) (n + 6) (wX a u b v c w (cxT x)) lv (pc + 3) rest) : G x nL k n (wX a u b v c w (cxT x)) lv pc (.int p0 :: .ref (a 0) :: rest) := gcV (wd2 := (wX a u b v c w (cxT x))) o (c_X1_requireRelation (cxl x) o.2.2.2.2.2.2.2.2.2.1 a b c u v w p0 (.inl r) ht) (can_V (q0 := 0) o rfl rfl hd (Nat.le_of_ble_eq_true rfl) m_372 m_54 m_371 m_11 hlk yk_X1_requireRelation rfl hr hk dg) sp_X (fun E h => by cases h) (fun h => kk)
theorem k_X1_requireRelation_x {x : Cx} {cc : ByteArray} {nL : Nat} {own : String} {d mc ms k n : Nat} {lv : List (Nat × Value)} {pc i : Nat} {rest : List Value} {a b c : Nat → Nat} {u v w : St} {p0 : Int32} (o : Ok x cc nL own d mc ms) {E : String} (ht : f_X1_requireRelation u v w p0 = some (.inr E)) (hlk : Cond.methodLink own i yX1_requireRelation ∈ Ug) (hd : 0 < d) (hr : (rest.map fun v => v.category).sum ≤ 8) (hk : k + 1 ≤ mc ∧ n + 6 ≤ ms) (dg : decode cc pc = .ok (.invokevirtual i, 3)) (kk : XW x nL (k + 1) (n + 6) (wX a u b v c w (cxT x)) lv pc rest E) : G x nL k n (wX a u b v c w (cxT x)) lv pc (.int p0 :: .ref (a 0) :: rest) := gcV (wd2 := (wX a u b v c w (cxT x))) o (c_X1_requireRelation (cxl x) o.2.2.2.2.2.2.2.2.2.1 a b c u v w p0 (.inr E) ht) (can_V (q0 := 0) o rfl rfl hd (Nat.le_of_ble_eq_true rfl) m_372 m_54 m_371 m_11 hlk yk_X1_requireRelation rfl hr hk dg) sp_X (fun E h => by cases h; exact kk) (fun h => by cases h)
def rt_X1_addComplement (x : Cx) (a b c : Nat → Nat) (u w : St) (t : (Int32 ⊕ String) × St) : Prop := (∀ r, t.1 = .inl r → RetI x cX1_addComplement .int 2 12 (wX a u b t.2 c w (cxT x)) r) ∧ ∀ E, t.1 = .inr E → RetX x 2 12 (wX a u b t.2 c w (cxT x)) E
set_option maxRecDepth 20000 in
set_option maxHeartbeats 2000000 in
theorem b_X1_addComplement {x : Cx} (o : Ok x cX1_addComplement 3 RX1 2 2 12) (a b c : Nat → Nat) (u v w : St) (p0 : Int32) (t : (Int32 ⊕ String) × St) (hf : f_X1_addComplement u v w p0 = some t) (hret : rt_X1_addComplement x a b c u w t) : G x 3 0 0 (wX a u b v c w (cxT x)) [(0, .ref (a 0)), (1, .int p0)] 0 [] := by
  unfold f_X1_addComplement at hf
  refine g_aload_n o 0 rfl rfl dX1_addComplement_0 ?_
  refine g_iload_n o 1 rfl rfl dX1_addComplement_1 ?_
  rcases bz_some hf with ⟨r8, hr8, hf⟩ | ⟨E9, hr8, hf⟩
  · refine k_X1_requireRelation_n o hr8 m_369 (Nat.le_of_ble_eq_true rfl) (Nat.le_of_ble_eq_true rfl) ⟨(Nat.le_of_ble_eq_true rfl), (Nat.le_of_ble_eq_true rfl)⟩ dX1_addComplement_2 ?_
    refine g_aload_n o 0 rfl rfl dX1_addComplement_5 ?_
    refine X_get0 o m_112 dX1_addComplement_6 ?_
    refine Y_get1 o e_85 dX1_addComplement_9 ?_
    refine g_iload_n o 1 rfl rfl dX1_addComplement_12 ?_
    refine Y_ld1 o dX1_addComplement_13 hf (fun hf => ?_)
    refine g_nmi hf (fun x10 hf => ?_)
    refine g_istore_n o [(2, .int x10), (0, .ref (a 0)), (1, .int p0)] (Nat.le_of_ble_eq_true rfl) rfl rfl dX1_addComplement_14 ?_
    refine g_aload_n o 1 rfl rfl dX1_addComplement_15 ?_
    refine g_iload_n o 0 rfl rfl dX1_addComplement_16 ?_
    refine g_iload_n o 0 rfl rfl dX1_addComplement_17 ?_
    obtain ⟨r11, hr11, hf⟩ := bd_some hf
    refine k_X1_allTuples_ o hr11 m_346 (Nat.le_of_ble_eq_true rfl) (Nat.le_of_ble_eq_true rfl) ⟨(Nat.le_of_ble_eq_true rfl), (Nat.le_of_ble_eq_true rfl)⟩ dX1_addComplement_18 ?_
    refine g_aload_n o 1 rfl rfl dX1_addComplement_21 ?_
    refine X_get0 o m_112 dX1_addComplement_22 ?_
    refine Y_get2 o e_87 dX1_addComplement_25 ?_
    refine g_iload_n o 2 rfl rfl dX1_addComplement_28 ?_
    refine Y_ld2 o dX1_addComplement_29 hf (fun hf => ?_)
    refine g_iconst o ic_m1 dX1_addComplement_30 ?_
    refine g_ixor o dX1_addComplement_31 ?_
    refine g_iand o dX1_addComplement_32 ?_
    rcases bx_some hf with ⟨r12, z14, hr12, hf⟩ | ⟨E13, z14, hr12, hf⟩
    · refine k_X1_addNew_n o hr12 m_311 (Nat.le_of_ble_eq_true rfl) (Nat.le_of_ble_eq_true rfl) ⟨(Nat.le_of_ble_eq_true rfl), (Nat.le_of_ble_eq_true rfl)⟩ dX1_addComplement_33 ?_
      cases Option.some.inj hf
      exact g_iret (hret.1 _ rfl) (Nat.le_of_ble_eq_true rfl) (Nat.le_of_ble_eq_true rfl) (vp_nar_int _) dX1_addComplement_36
    · cases Option.some.inj hf
      exact k_X1_addNew_x o hr12 m_311 (Nat.le_of_ble_eq_true rfl) (Nat.le_of_ble_eq_true rfl) ⟨(Nat.le_of_ble_eq_true rfl), (Nat.le_of_ble_eq_true rfl)⟩ dX1_addComplement_33 (xw_out o (hret.2 _ rfl) (Nat.le_of_ble_eq_true rfl) (Nat.le_of_ble_eq_true rfl))
  · cases Option.some.inj hf
    exact k_X1_requireRelation_x o hr8 m_369 (Nat.le_of_ble_eq_true rfl) (Nat.le_of_ble_eq_true rfl) ⟨(Nat.le_of_ble_eq_true rfl), (Nat.le_of_ble_eq_true rfl)⟩ dX1_addComplement_2 (xw_out o (hret.2 _ rfl) (Nat.le_of_ble_eq_true rfl) (Nat.le_of_ble_eq_true rfl))
theorem c_X1_addComplement (l : Launch) (hst : l.stackTraces = false) (a b c : Nat → Nat) (u v w : St) (p0 : Int32) (t : (Int32 ⊕ String) × St) (hf : f_X1_addComplement u v w p0 = some t) : CoI l yX1_addComplement (.code yX1_addComplement cX1_addComplement 3 (some .int)) 2 2 12 [.ref (a 0), .int p0] (wX a u b v c w) (wX a u b t.2 c w) (t.1) := mkI hst (by decide +kernel) (Nat.le_of_ble_eq_true rfl) (fun x _ o hI hX => b_X1_addComplement o a b c u v w p0 t hf ⟨hI, hX⟩)
def rt_X1_requireVariable (x : Cx) (a b c : Nat → Nat) (u v w : St) (t : (Unit ⊕ String)) : Prop := (t = .inl () → RetV x cX1_requireVariable 1 6 (wX a u b v c w (cxT x))) ∧ ∀ E, t = .inr E → RetX x 1 6 (wX a u b v c w (cxT x)) E
set_option maxRecDepth 20000 in
set_option maxHeartbeats 2000000 in
theorem b_X1_requireVariable {x : Cx} (o : Ok x cX1_requireVariable 2 RX1 0 1 6) (a b c : Nat → Nat) (u v w : St) (p0 : Int32) (t : (Unit ⊕ String)) (hf : f_X1_requireVariable u v w p0 = some t) (hret : rt_X1_requireVariable x a b c u v w t) : G x 2 0 0 (wX a u b v c w (cxT x)) [(0, .ref (a 0)), (1, .int p0)] 0 [] := by
  unfold f_X1_requireVariable at hf
  refine g_iload_n o 1 rfl rfl dX1_requireVariable_0 ?_
  refine g_if_lt (tgt := 15) o rfl dX1_requireVariable_1 hf (fun hc hf => ?_) (fun hc hf => ?_)
  · cases Option.some.inj hf
    exact g_throwSW o (hret.2 _ rfl) fit_io fit_re rfl m_373 m_63 st_305 at_157 go_157 dX1_requireVariable_15 dX1_requireVariable_18 dX1_requireVariable_19 dX1_requireVariable_22 dX1_requireVariable_25 (Nat.le_of_ble_eq_true rfl) (Nat.le_of_ble_eq_true rfl)
  · refine g_iload_n o 1 rfl rfl dX1_requireVariable_4 ?_
    refine g_aload_n o 0 rfl rfl dX1_requireVariable_5 ?_
    refine X_get0 o m_112 dX1_requireVariable_6 ?_
    refine Y_get3 o e_89 dX1_requireVariable_9 ?_
    refine g_ic_lt (tgt := 26) o rfl dX1_requireVariable_12 hf (fun hc hf => ?_) (fun hc hf => ?_)
    · cases Option.some.inj hf
      exact g_vret (hret.1 rfl) (Nat.le_of_ble_eq_true rfl) (Nat.le_of_ble_eq_true rfl) dX1_requireVariable_26
    · cases Option.some.inj hf
      exact g_throwSW o (hret.2 _ rfl) fit_io fit_re rfl m_373 m_63 st_305 at_157 go_157 dX1_requireVariable_15 dX1_requireVariable_18 dX1_requireVariable_19 dX1_requireVariable_22 dX1_requireVariable_25 (Nat.le_of_ble_eq_true rfl) (Nat.le_of_ble_eq_true rfl)
theorem c_X1_requireVariable (l : Launch) (hst : l.stackTraces = false) (a b c : Nat → Nat) (u v w : St) (p0 : Int32) (t : (Unit ⊕ String)) (hf : f_X1_requireVariable u v w p0 = some t) : CoV l yX1_requireVariable (.code yX1_requireVariable cX1_requireVariable 2 none) 0 1 6 [.ref (a 0), .int p0] (wX a u b v c w) (wX a u b v c w) (t) := mkV hst (by decide +kernel) (Nat.le_of_ble_eq_true rfl) (fun x _ o hI hX => b_X1_requireVariable o a b c u v w p0 t hf ⟨hI, hX⟩)
theorem k_X1_requireVariable_n {x : Cx} {cc : ByteArray} {nL : Nat} {own : String} {d mc ms k n : Nat} {lv : List (Nat × Value)} {pc i : Nat} {rest : List Value} {a b c : Nat → Nat} {u v w : St} {p0 : Int32} (o : Ok x cc nL own d mc ms) {r : Unit} (ht : f_X1_requireVariable u v w p0 = some (.inl r)) (hlk : Cond.methodLink own i yX1_requireVariable ∈ Ug) (hd : 0 < d) (hr : (rest.map fun v => v.category).sum ≤ 8) (hk : k + 1 ≤ mc ∧ n + 6 ≤ ms) (dg : decode cc pc = .ok (.invokevirtual i, 3)) (kk : G x nL (k + 1) (n + 6) (wX a u b v c w (cxT x)) lv (pc + 3) rest) : G x nL k n (wX a u b v c w (cxT x)) lv pc (.int p0 :: .ref (a 0) :: rest) := gcV (wd2 := (wX a u b v c w (cxT x))) o (c_X1_requireVariable (cxl x) o.2.2.2.2.2.2.2.2.2.1 a b c u v w p0 (.inl r) ht) (can_V (q0 := 0) o rfl rfl hd (Nat.le_of_ble_eq_true rfl) m_669 m_54 m_668 m_18 hlk yk_X1_requireVariable rfl hr hk dg) sp_X (fun E h => by cases h) (fun h => kk)
theorem k_X1_requireVariable_x {x : Cx} {cc : ByteArray} {nL : Nat} {own : String} {d mc ms k n : Nat} {lv : List (Nat × Value)} {pc i : Nat} {rest : List Value} {a b c : Nat → Nat} {u v w : St} {p0 : Int32} (o : Ok x cc nL own d mc ms) {E : String} (ht : f_X1_requireVariable u v w p0 = some (.inr E)) (hlk : Cond.methodLink own i yX1_requireVariable ∈ Ug) (hd : 0 < d) (hr : (rest.map fun v => v.category).sum ≤ 8) (hk : k + 1 ≤ mc ∧ n + 6 ≤ ms) (dg : decode cc pc = .ok (.invokevirtual i, 3)) (kk : XW x nL (k + 1) (n + 6) (wX a u b v c w (cxT x)) lv pc rest E) : G x nL k n (wX a u b v c w (cxT x)) lv pc (.int p0 :: .ref (a 0) :: rest) := gcV (wd2 := (wX a u b v c w (cxT x))) o (c_X1_requireVariable (cxl x) o.2.2.2.2.2.2.2.2.2.1 a b c u v w p0 (.inr E) ht) (can_V (q0 := 0) o rfl rfl hd (Nat.le_of_ble_eq_true rfl) m_669 m_54 m_668 m_18 hlk yk_X1_requireVariable rfl hr hk dg) sp_X (fun E h => by cases h; exact kk) (fun h => by cases h)
def rt_X1_requireVariables (x : Cx) (a b c : Nat → Nat) (u v w : St) (t : (Unit ⊕ String)) : Prop := (t = .inl () → RetV x cX1_requireVariables 4 24 (wX a u b v c w (cxT x))) ∧ ∀ E, t = .inr E → RetX x 4 24 (wX a u b v c w (cxT x)) E
set_option maxRecDepth 20000 in
set_option maxHeartbeats 2000000 in
theorem b_X1_requireVariables {x : Cx} (o : Ok x cX1_requireVariables 6 RX1 1 4 24) (a b c : Nat → Nat) (u v w : St) (p0 : Int32) (p1 : Int32) (p2 : Int32) (p3 : Int32) (p4 : Int32) (t : (Unit ⊕ String)) (hf : f_X1_requireVariables u v w p0 p1 p2 p3 p4 = some t) (hret : rt_X1_requireVariables x a b c u v w t) : G x 6 0 0 (wX a u b v c w (cxT x)) [(0, .ref (a 0)), (1, .int p0), (2, .int p1), (3, .int p2), (4, .int p3), (5, .int p4)] 0 [] := by
  unfold f_X1_requireVariables at hf
  refine g_aload_n o 0 rfl rfl dX1_requireVariables_0 ?_
  refine g_iload_n o 2 rfl rfl dX1_requireVariables_1 ?_
  rcases bz_some hf with ⟨r17, hr17, hf⟩ | ⟨E18, hr17, hf⟩
  · refine k_X1_requireVariable_n o hr17 m_666 (Nat.le_of_ble_eq_true rfl) (Nat.le_of_ble_eq_true rfl) ⟨(Nat.le_of_ble_eq_true rfl), (Nat.le_of_ble_eq_true rfl)⟩ dX1_requireVariables_2 ?_
    refine g_iload_n o 1 rfl rfl dX1_requireVariables_5 ?_
    refine g_iconst o ic_1 dX1_requireVariables_6 ?_
    refine g_ic_le (tgt := 15) o rfl dX1_requireVariables_7 hf (fun hc hf => ?_) (fun hc hf => ?_)
    · refine g_iload_n o 1 rfl rfl dX1_requireVariables_15 ?_
      refine g_iconst o ic_2 dX1_requireVariables_16 ?_
      refine g_ic_le (tgt := 26) o rfl dX1_requireVariables_17 hf (fun hc hf => ?_) (fun hc hf => ?_)
      · refine g_iload_n o 1 rfl rfl dX1_requireVariables_26 ?_
        refine g_iconst o ic_3 dX1_requireVariables_27 ?_
        refine g_ic_le (tgt := 37) o rfl dX1_requireVariables_28 hf (fun hc hf => ?_) (fun hc hf => ?_)
        · cases Option.some.inj hf
          exact g_vret (hret.1 rfl) (Nat.le_of_ble_eq_true rfl) (Nat.le_of_ble_eq_true rfl) dX1_requireVariables_37
        · refine g_aload_n o 0 rfl rfl dX1_requireVariables_31 ?_
          refine g_iload o 5 rfl dX1_requireVariables_32 ?_
          rcases bz_some hf with ⟨r19, hr19, hf⟩ | ⟨E20, hr19, hf⟩
          · refine k_X1_requireVariable_n o hr19 m_666 (Nat.le_of_ble_eq_true rfl) (Nat.le_of_ble_eq_true rfl) ⟨(Nat.le_of_ble_eq_true rfl), (Nat.le_of_ble_eq_true rfl)⟩ dX1_requireVariables_34 ?_
            cases Option.some.inj hf
            exact g_vret (hret.1 rfl) (Nat.le_of_ble_eq_true rfl) (Nat.le_of_ble_eq_true rfl) dX1_requireVariables_37
          · cases Option.some.inj hf
            exact k_X1_requireVariable_x o hr19 m_666 (Nat.le_of_ble_eq_true rfl) (Nat.le_of_ble_eq_true rfl) ⟨(Nat.le_of_ble_eq_true rfl), (Nat.le_of_ble_eq_true rfl)⟩ dX1_requireVariables_34 (xw_out o (hret.2 _ rfl) (Nat.le_of_ble_eq_true rfl) (Nat.le_of_ble_eq_true rfl))
      · refine g_aload_n o 0 rfl rfl dX1_requireVariables_20 ?_
        refine g_iload o 4 rfl dX1_requireVariables_21 ?_
        rcases bz_some hf with ⟨r21, hr21, hf⟩ | ⟨E22, hr21, hf⟩
        · refine k_X1_requireVariable_n o hr21 m_666 (Nat.le_of_ble_eq_true rfl) (Nat.le_of_ble_eq_true rfl) ⟨(Nat.le_of_ble_eq_true rfl), (Nat.le_of_ble_eq_true rfl)⟩ dX1_requireVariables_23 ?_
          refine g_iload_n o 1 rfl rfl dX1_requireVariables_26 ?_
          refine g_iconst o ic_3 dX1_requireVariables_27 ?_
          refine g_ic_le (tgt := 37) o rfl dX1_requireVariables_28 hf (fun hc hf => ?_) (fun hc hf => ?_)
          · cases Option.some.inj hf
            exact g_vret (hret.1 rfl) (Nat.le_of_ble_eq_true rfl) (Nat.le_of_ble_eq_true rfl) dX1_requireVariables_37
          · refine g_aload_n o 0 rfl rfl dX1_requireVariables_31 ?_
            refine g_iload o 5 rfl dX1_requireVariables_32 ?_
            rcases bz_some hf with ⟨r23, hr23, hf⟩ | ⟨E24, hr23, hf⟩
            · refine k_X1_requireVariable_n o hr23 m_666 (Nat.le_of_ble_eq_true rfl) (Nat.le_of_ble_eq_true rfl) ⟨(Nat.le_of_ble_eq_true rfl), (Nat.le_of_ble_eq_true rfl)⟩ dX1_requireVariables_34 ?_
              cases Option.some.inj hf
              exact g_vret (hret.1 rfl) (Nat.le_of_ble_eq_true rfl) (Nat.le_of_ble_eq_true rfl) dX1_requireVariables_37
            · cases Option.some.inj hf
              exact k_X1_requireVariable_x o hr23 m_666 (Nat.le_of_ble_eq_true rfl) (Nat.le_of_ble_eq_true rfl) ⟨(Nat.le_of_ble_eq_true rfl), (Nat.le_of_ble_eq_true rfl)⟩ dX1_requireVariables_34 (xw_out o (hret.2 _ rfl) (Nat.le_of_ble_eq_true rfl) (Nat.le_of_ble_eq_true rfl))
        · cases Option.some.inj hf
          exact k_X1_requireVariable_x o hr21 m_666 (Nat.le_of_ble_eq_true rfl) (Nat.le_of_ble_eq_true rfl) ⟨(Nat.le_of_ble_eq_true rfl), (Nat.le_of_ble_eq_true rfl)⟩ dX1_requireVariables_23 (xw_out o (hret.2 _ rfl) (Nat.le_of_ble_eq_true rfl) (Nat.le_of_ble_eq_true rfl))
    · refine g_aload_n o 0 rfl rfl dX1_requireVariables_10 ?_
      refine g_iload_n o 3 rfl rfl dX1_requireVariables_11 ?_
      rcases bz_some hf with ⟨r25, hr25, hf⟩ | ⟨E26, hr25, hf⟩
      · refine k_X1_requireVariable_n o hr25 m_666 (Nat.le_of_ble_eq_true rfl) (Nat.le_of_ble_eq_true rfl) ⟨(Nat.le_of_ble_eq_true rfl), (Nat.le_of_ble_eq_true rfl)⟩ dX1_requireVariables_12 ?_
        refine g_iload_n o 1 rfl rfl dX1_requireVariables_15 ?_
        refine g_iconst o ic_2 dX1_requireVariables_16 ?_
        refine g_ic_le (tgt := 26) o rfl dX1_requireVariables_17 hf (fun hc hf => ?_) (fun hc hf => ?_)
        · refine g_iload_n o 1 rfl rfl dX1_requireVariables_26 ?_
          refine g_iconst o ic_3 dX1_requireVariables_27 ?_
          refine g_ic_le (tgt := 37) o rfl dX1_requireVariables_28 hf (fun hc hf => ?_) (fun hc hf => ?_)
          · cases Option.some.inj hf
            exact g_vret (hret.1 rfl) (Nat.le_of_ble_eq_true rfl) (Nat.le_of_ble_eq_true rfl) dX1_requireVariables_37
          · refine g_aload_n o 0 rfl rfl dX1_requireVariables_31 ?_
            refine g_iload o 5 rfl dX1_requireVariables_32 ?_
            rcases bz_some hf with ⟨r27, hr27, hf⟩ | ⟨E28, hr27, hf⟩
            · refine k_X1_requireVariable_n o hr27 m_666 (Nat.le_of_ble_eq_true rfl) (Nat.le_of_ble_eq_true rfl) ⟨(Nat.le_of_ble_eq_true rfl), (Nat.le_of_ble_eq_true rfl)⟩ dX1_requireVariables_34 ?_
              cases Option.some.inj hf
              exact g_vret (hret.1 rfl) (Nat.le_of_ble_eq_true rfl) (Nat.le_of_ble_eq_true rfl) dX1_requireVariables_37
            · cases Option.some.inj hf
              exact k_X1_requireVariable_x o hr27 m_666 (Nat.le_of_ble_eq_true rfl) (Nat.le_of_ble_eq_true rfl) ⟨(Nat.le_of_ble_eq_true rfl), (Nat.le_of_ble_eq_true rfl)⟩ dX1_requireVariables_34 (xw_out o (hret.2 _ rfl) (Nat.le_of_ble_eq_true rfl) (Nat.le_of_ble_eq_true rfl))
        · refine g_aload_n o 0 rfl rfl dX1_requireVariables_20 ?_
          refine g_iload o 4 rfl dX1_requireVariables_21 ?_
          rcases bz_some hf with ⟨r29, hr29, hf⟩ | ⟨E30, hr29, hf⟩
          · refine k_X1_requireVariable_n o hr29 m_666 (Nat.le_of_ble_eq_true rfl) (Nat.le_of_ble_eq_true rfl) ⟨(Nat.le_of_ble_eq_true rfl), (Nat.le_of_ble_eq_true rfl)⟩ dX1_requireVariables_23 ?_
            refine g_iload_n o 1 rfl rfl dX1_requireVariables_26 ?_
            refine g_iconst o ic_3 dX1_requireVariables_27 ?_
            refine g_ic_le (tgt := 37) o rfl dX1_requireVariables_28 hf (fun hc hf => ?_) (fun hc hf => ?_)
            · cases Option.some.inj hf
              exact g_vret (hret.1 rfl) (Nat.le_of_ble_eq_true rfl) (Nat.le_of_ble_eq_true rfl) dX1_requireVariables_37
            · refine g_aload_n o 0 rfl rfl dX1_requireVariables_31 ?_
              refine g_iload o 5 rfl dX1_requireVariables_32 ?_
              rcases bz_some hf with ⟨r31, hr31, hf⟩ | ⟨E32, hr31, hf⟩
              · refine k_X1_requireVariable_n o hr31 m_666 (Nat.le_of_ble_eq_true rfl) (Nat.le_of_ble_eq_true rfl) ⟨(Nat.le_of_ble_eq_true rfl), (Nat.le_of_ble_eq_true rfl)⟩ dX1_requireVariables_34 ?_
                cases Option.some.inj hf
                exact g_vret (hret.1 rfl) (Nat.le_of_ble_eq_true rfl) (Nat.le_of_ble_eq_true rfl) dX1_requireVariables_37
              · cases Option.some.inj hf
                exact k_X1_requireVariable_x o hr31 m_666 (Nat.le_of_ble_eq_true rfl) (Nat.le_of_ble_eq_true rfl) ⟨(Nat.le_of_ble_eq_true rfl), (Nat.le_of_ble_eq_true rfl)⟩ dX1_requireVariables_34 (xw_out o (hret.2 _ rfl) (Nat.le_of_ble_eq_true rfl) (Nat.le_of_ble_eq_true rfl))
          · cases Option.some.inj hf
            exact k_X1_requireVariable_x o hr29 m_666 (Nat.le_of_ble_eq_true rfl) (Nat.le_of_ble_eq_true rfl) ⟨(Nat.le_of_ble_eq_true rfl), (Nat.le_of_ble_eq_true rfl)⟩ dX1_requireVariables_23 (xw_out o (hret.2 _ rfl) (Nat.le_of_ble_eq_true rfl) (Nat.le_of_ble_eq_true rfl))
      · cases Option.some.inj hf
        exact k_X1_requireVariable_x o hr25 m_666 (Nat.le_of_ble_eq_true rfl) (Nat.le_of_ble_eq_true rfl) ⟨(Nat.le_of_ble_eq_true rfl), (Nat.le_of_ble_eq_true rfl)⟩ dX1_requireVariables_12 (xw_out o (hret.2 _ rfl) (Nat.le_of_ble_eq_true rfl) (Nat.le_of_ble_eq_true rfl))
  · cases Option.some.inj hf
    exact k_X1_requireVariable_x o hr17 m_666 (Nat.le_of_ble_eq_true rfl) (Nat.le_of_ble_eq_true rfl) ⟨(Nat.le_of_ble_eq_true rfl), (Nat.le_of_ble_eq_true rfl)⟩ dX1_requireVariables_2 (xw_out o (hret.2 _ rfl) (Nat.le_of_ble_eq_true rfl) (Nat.le_of_ble_eq_true rfl))
theorem c_X1_requireVariables (l : Launch) (hst : l.stackTraces = false) (a b c : Nat → Nat) (u v w : St) (p0 : Int32) (p1 : Int32) (p2 : Int32) (p3 : Int32) (p4 : Int32) (t : (Unit ⊕ String)) (hf : f_X1_requireVariables u v w p0 p1 p2 p3 p4 = some t) : CoV l yX1_requireVariables (.code yX1_requireVariables cX1_requireVariables 6 none) 1 4 24 [.ref (a 0), .int p0, .int p1, .int p2, .int p3, .int p4] (wX a u b v c w) (wX a u b v c w) (t) := mkV hst (by decide +kernel) (Nat.le_of_ble_eq_true rfl) (fun x _ o hI hX => b_X1_requireVariables o a b c u v w p0 p1 p2 p3 p4 t hf ⟨hI, hX⟩)
theorem k_X1_requireVariables_n {x : Cx} {cc : ByteArray} {nL : Nat} {own : String} {d mc ms k n : Nat} {lv : List (Nat × Value)} {pc i : Nat} {rest : List Value} {a b c : Nat → Nat} {u v w : St} {p0 : Int32} {p1 : Int32} {p2 : Int32} {p3 : Int32} {p4 : Int32} (o : Ok x cc nL own d mc ms) {r : Unit} (ht : f_X1_requireVariables u v w p0 p1 p2 p3 p4 = some (.inl r)) (hlk : Cond.methodLink own i yX1_requireVariables ∈ Ug) (hd : 1 < d) (hr : (rest.map fun v => v.category).sum ≤ 8) (hk : k + 4 ≤ mc ∧ n + 24 ≤ ms) (dg : decode cc pc = .ok (.invokevirtual i, 3)) (kk : G x nL (k + 4) (n + 24) (wX a u b v c w (cxT x)) lv (pc + 3) rest) : G x nL k n (wX a u b v c w (cxT x)) lv pc (.int p4 :: .int p3 :: .int p2 :: .int p1 :: .int p0 :: .ref (a 0) :: rest) := gcV (wd2 := (wX a u b v c w (cxT x))) o (c_X1_requireVariables (cxl x) o.2.2.2.2.2.2.2.2.2.1 a b c u v w p0 p1 p2 p3 p4 (.inl r) ht) (can_V (q0 := 0) o rfl rfl hd (Nat.le_of_ble_eq_true rfl) m_665 m_54 m_664 m_17 hlk yk_X1_requireVariables rfl hr hk dg) sp_X (fun E h => by cases h) (fun h => kk)
theorem k_X1_requireVariables_x {x : Cx} {cc : ByteArray} {nL : Nat} {own : String} {d mc ms k n : Nat} {lv : List (Nat × Value)} {pc i : Nat} {rest : List Value} {a b c : Nat → Nat} {u v w : St} {p0 : Int32} {p1 : Int32} {p2 : Int32} {p3 : Int32} {p4 : Int32} (o : Ok x cc nL own d mc ms) {E : String} (ht : f_X1_requireVariables u v w p0 p1 p2 p3 p4 = some (.inr E)) (hlk : Cond.methodLink own i yX1_requireVariables ∈ Ug) (hd : 1 < d) (hr : (rest.map fun v => v.category).sum ≤ 8) (hk : k + 4 ≤ mc ∧ n + 24 ≤ ms) (dg : decode cc pc = .ok (.invokevirtual i, 3)) (kk : XW x nL (k + 4) (n + 24) (wX a u b v c w (cxT x)) lv pc rest E) : G x nL k n (wX a u b v c w (cxT x)) lv pc (.int p4 :: .int p3 :: .int p2 :: .int p1 :: .int p0 :: .ref (a 0) :: rest) := gcV (wd2 := (wX a u b v c w (cxT x))) o (c_X1_requireVariables (cxl x) o.2.2.2.2.2.2.2.2.2.1 a b c u v w p0 p1 p2 p3 p4 (.inr E) ht) (can_V (q0 := 0) o rfl rfl hd (Nat.le_of_ble_eq_true rfl) m_665 m_54 m_664 m_17 hlk yk_X1_requireVariables rfl hr hk dg) sp_X (fun E h => by cases h; exact kk) (fun h => by cases h)
def rt_X1_addConstraint (x : Cx) (a b c : Nat → Nat) (u w : St) (t : (Int32 ⊕ String) × St) : Prop := (∀ r, t.1 = .inl r → RetI x cX1_addConstraint .int 6 36 (wX a u b t.2 c w (cxT x)) r) ∧ ∀ E, t.1 = .inr E → RetX x 6 36 (wX a u b t.2 c w (cxT x)) E
set_option maxRecDepth 20000 in
set_option maxHeartbeats 2000000 in
theorem b_X1_addConstraint {x : Cx} (o : Ok x cX1_addConstraint 8 RX1 2 6 36) (a b c : Nat → Nat) (u v w : St) (p0 : Int32) (p1 : Int32) (p2 : Int32) (p3 : Int32) (p4 : Int32) (t : (Int32 ⊕ String) × St) (hf : f_X1_addConstraint u v w p0 p1 p2 p3 p4 = some t) (hret : rt_X1_addConstraint x a b c u w t) : G x 8 0 0 (wX a u b v c w (cxT x)) [(0, .ref (a 0)), (1, .int p0), (2, .int p1), (3, .int p2), (4, .int p3), (5, .int p4)] 0 [] := by
  unfold f_X1_addConstraint at hf
  refine g_aload_n o 0 rfl rfl dX1_addConstraint_0 ?_
  refine g_iload_n o 1 rfl rfl dX1_addConstraint_1 ?_
  rcases bz_some hf with ⟨r8, hr8, hf⟩ | ⟨E9, hr8, hf⟩
  · refine k_X1_requireRelation_n o hr8 m_369 (Nat.le_of_ble_eq_true rfl) (Nat.le_of_ble_eq_true rfl) ⟨(Nat.le_of_ble_eq_true rfl), (Nat.le_of_ble_eq_true rfl)⟩ dX1_addConstraint_2 ?_
    refine g_aload_n o 0 rfl rfl dX1_addConstraint_5 ?_
    refine X_get0 o m_112 dX1_addConstraint_6 ?_
    refine Y_get1 o e_85 dX1_addConstraint_9 ?_
    refine g_iload_n o 1 rfl rfl dX1_addConstraint_12 ?_
    refine Y_ld1 o dX1_addConstraint_13 hf (fun hf => ?_)
    refine g_nmi hf (fun x10 hf => ?_)
    refine g_istore o [(6, .int x10), (0, .ref (a 0)), (1, .int p0), (2, .int p1), (3, .int p2), (4, .int p3), (5, .int p4)] (Nat.le_of_ble_eq_true rfl) rfl dX1_addConstraint_14 ?_
    refine g_aload_n o 1 rfl rfl dX1_addConstraint_16 ?_
    refine g_iload o 0 rfl dX1_addConstraint_17 ?_
    refine g_iload_n o 3 rfl rfl dX1_addConstraint_19 ?_
    refine g_iload_n o 4 rfl rfl dX1_addConstraint_20 ?_
    refine g_iload o 5 rfl dX1_addConstraint_21 ?_
    refine g_iload o 6 rfl dX1_addConstraint_23 ?_
    rcases bz_some hf with ⟨r11, hr11, hf⟩ | ⟨E12, hr11, hf⟩
    · refine k_X1_requireVariables_n o hr11 m_662 (Nat.le_of_ble_eq_true rfl) (Nat.le_of_ble_eq_true rfl) ⟨(Nat.le_of_ble_eq_true rfl), (Nat.le_of_ble_eq_true rfl)⟩ dX1_addConstraint_25 ?_
      refine g_aload_n o 1 rfl rfl dX1_addConstraint_28 ?_
      refine X_get0 o m_112 dX1_addConstraint_29 ?_
      refine Y_get4 o e_91 dX1_addConstraint_32 ?_
      refine g_bipush o bp_20 dX1_addConstraint_35 ?_
      refine g_ic_lt (tgt := 50) o rfl dX1_addConstraint_37 hf (fun hc hf => ?_) (fun hc hf => ?_)
      · refine g_aload_n o 1 rfl rfl dX1_addConstraint_50 ?_
        refine X_get0 o m_112 dX1_addConstraint_51 ?_
        refine Y_get4 o e_91 dX1_addConstraint_54 ?_
        refine g_nmi hf (fun x13 hf => ?_)
        refine g_istore o [(7, .int x13), (6, .int x10), (0, .ref (a 0)), (1, .int p0), (2, .int p1), (3, .int p2), (4, .int p3), (5, .int p4)] (Nat.le_of_ble_eq_true rfl) rfl dX1_addConstraint_57 ?_
        refine g_aload_n o 2 rfl rfl dX1_addConstraint_59 ?_
        refine X_get0 o m_112 dX1_addConstraint_60 ?_
        refine Y_get5 o e_93 dX1_addConstraint_63 ?_
        refine g_iload o 0 rfl dX1_addConstraint_66 ?_
        refine g_iload_n o 3 rfl rfl dX1_addConstraint_68 ?_
        refine Y_st5 o dX1_addConstraint_69 hf (fun hf => ?_)
        refine g_aload_n o 2 rfl rfl dX1_addConstraint_70 ?_
        refine X_get0 o m_112 dX1_addConstraint_71 ?_
        refine Y_get6 o e_95 dX1_addConstraint_74 ?_
        refine g_iload o 0 rfl dX1_addConstraint_77 ?_
        refine g_iload o 1 rfl dX1_addConstraint_79 ?_
        refine g_iload_n o 4 rfl rfl dX1_addConstraint_81 ?_
        refine g_iload_n o 5 rfl rfl dX1_addConstraint_82 ?_
        refine g_iload o 6 rfl dX1_addConstraint_83 ?_
        refine g_iload o 7 rfl dX1_addConstraint_85 ?_
        obtain ⟨r14, hr14, hf⟩ := bd_some hf
        refine k_X1_packedVariables_ o hr14 m_672 (Nat.le_of_ble_eq_true rfl) (Nat.le_of_ble_eq_true rfl) ⟨(Nat.le_of_ble_eq_true rfl), (Nat.le_of_ble_eq_true rfl)⟩ dX1_addConstraint_87 ?_
        refine Y_st6 o dX1_addConstraint_90 hf (fun hf => ?_)
        refine g_aload_n o 2 rfl rfl dX1_addConstraint_91 ?_
        refine X_get0 o m_112 dX1_addConstraint_92 ?_
        refine g_dup o rfl dX1_addConstraint_95 ?_
        refine Y_get4 o e_91 dX1_addConstraint_96 ?_
        refine g_iconst o ic_1 dX1_addConstraint_99 ?_
        refine g_iadd o dX1_addConstraint_100 ?_
        refine Y_put4 o e_91 dX1_addConstraint_101 ?_
        refine g_iload o 0 rfl dX1_addConstraint_104 ?_
        cases Option.some.inj hf
        exact g_iret (hret.1 _ rfl) (Nat.le_of_ble_eq_true rfl) (Nat.le_of_ble_eq_true rfl) (vp_nar_int _) dX1_addConstraint_106
      · cases Option.some.inj hf
        exact g_throwS o (hret.2 _ rfl) fit_is fit_re rfl m_319 m_61 st_186 at_188 go_188 dX1_addConstraint_40 dX1_addConstraint_43 dX1_addConstraint_44 dX1_addConstraint_46 dX1_addConstraint_49 (Nat.le_of_ble_eq_true rfl) (Nat.le_of_ble_eq_true rfl)
    · cases Option.some.inj hf
      exact k_X1_requireVariables_x o hr11 m_662 (Nat.le_of_ble_eq_true rfl) (Nat.le_of_ble_eq_true rfl) ⟨(Nat.le_of_ble_eq_true rfl), (Nat.le_of_ble_eq_true rfl)⟩ dX1_addConstraint_25 (xw_out o (hret.2 _ rfl) (Nat.le_of_ble_eq_true rfl) (Nat.le_of_ble_eq_true rfl))
  · cases Option.some.inj hf
    exact k_X1_requireRelation_x o hr8 m_369 (Nat.le_of_ble_eq_true rfl) (Nat.le_of_ble_eq_true rfl) ⟨(Nat.le_of_ble_eq_true rfl), (Nat.le_of_ble_eq_true rfl)⟩ dX1_addConstraint_2 (xw_out o (hret.2 _ rfl) (Nat.le_of_ble_eq_true rfl) (Nat.le_of_ble_eq_true rfl))
theorem c_X1_addConstraint (l : Launch) (hst : l.stackTraces = false) (a b c : Nat → Nat) (u v w : St) (p0 : Int32) (p1 : Int32) (p2 : Int32) (p3 : Int32) (p4 : Int32) (t : (Int32 ⊕ String) × St) (hf : f_X1_addConstraint u v w p0 p1 p2 p3 p4 = some t) : CoI l yX1_addConstraint (.code yX1_addConstraint cX1_addConstraint 8 (some .int)) 2 6 36 [.ref (a 0), .int p0, .int p1, .int p2, .int p3, .int p4] (wX a u b v c w) (wX a u b t.2 c w) (t.1) := mkI hst (by decide +kernel) (Nat.le_of_ble_eq_true rfl) (fun x _ o hI hX => b_X1_addConstraint o a b c u v w p0 p1 p2 p3 p4 t hf ⟨hI, hX⟩)
def rt_X1_requirePosition (x : Cx) (a b c : Nat → Nat) (u v w : St) (t : (Unit ⊕ String)) : Prop := (t = .inl () → RetV x cX1_requirePosition 1 6 (wX a u b v c w (cxT x))) ∧ ∀ E, t = .inr E → RetX x 1 6 (wX a u b v c w (cxT x)) E
set_option maxRecDepth 20000 in
set_option maxHeartbeats 2000000 in
theorem b_X1_requirePosition {x : Cx} (o : Ok x cX1_requirePosition 3 RX1 0 1 6) (a b c : Nat → Nat) (u v w : St) (p0 : Int32) (p1 : Int32) (t : (Unit ⊕ String)) (hf : f_X1_requirePosition u v w p0 p1 = some t) (hret : rt_X1_requirePosition x a b c u v w t) : G x 3 0 0 (wX a u b v c w (cxT x)) [(0, .ref (a 0)), (1, .int p0), (2, .int p1)] 0 [] := by
  unfold f_X1_requirePosition at hf
  refine g_iload_n o 2 rfl rfl dX1_requirePosition_0 ?_
  refine g_if_lt (tgt := 17) o rfl dX1_requirePosition_1 hf (fun hc hf => ?_) (fun hc hf => ?_)
  · cases Option.some.inj hf
    exact g_throwSW o (hret.2 _ rfl) fit_io fit_re rfl m_373 m_63 st_301 at_157 go_157 dX1_requirePosition_17 dX1_requirePosition_20 dX1_requirePosition_21 dX1_requirePosition_24 dX1_requirePosition_27 (Nat.le_of_ble_eq_true rfl) (Nat.le_of_ble_eq_true rfl)
  · refine g_iload_n o 2 rfl rfl dX1_requirePosition_4 ?_
    refine g_aload_n o 0 rfl rfl dX1_requirePosition_5 ?_
    refine X_get0 o m_112 dX1_requirePosition_6 ?_
    refine Y_get1 o e_85 dX1_requirePosition_9 ?_
    refine g_iload_n o 1 rfl rfl dX1_requirePosition_12 ?_
    refine Y_ld1 o dX1_requirePosition_13 hf (fun hf => ?_)
    refine g_ic_lt (tgt := 28) o rfl dX1_requirePosition_14 hf (fun hc hf => ?_) (fun hc hf => ?_)
    · cases Option.some.inj hf
      exact g_vret (hret.1 rfl) (Nat.le_of_ble_eq_true rfl) (Nat.le_of_ble_eq_true rfl) dX1_requirePosition_28
    · cases Option.some.inj hf
      exact g_throwSW o (hret.2 _ rfl) fit_io fit_re rfl m_373 m_63 st_301 at_157 go_157 dX1_requirePosition_17 dX1_requirePosition_20 dX1_requirePosition_21 dX1_requirePosition_24 dX1_requirePosition_27 (Nat.le_of_ble_eq_true rfl) (Nat.le_of_ble_eq_true rfl)
theorem c_X1_requirePosition (l : Launch) (hst : l.stackTraces = false) (a b c : Nat → Nat) (u v w : St) (p0 : Int32) (p1 : Int32) (t : (Unit ⊕ String)) (hf : f_X1_requirePosition u v w p0 p1 = some t) : CoV l yX1_requirePosition (.code yX1_requirePosition cX1_requirePosition 3 none) 0 1 6 [.ref (a 0), .int p0, .int p1] (wX a u b v c w) (wX a u b v c w) (t) := mkV hst (by decide +kernel) (Nat.le_of_ble_eq_true rfl) (fun x _ o hI hX => b_X1_requirePosition o a b c u v w p0 p1 t hf ⟨hI, hX⟩)
theorem k_X1_requirePosition_n {x : Cx} {cc : ByteArray} {nL : Nat} {own : String} {d mc ms k n : Nat} {lv : List (Nat × Value)} {pc i : Nat} {rest : List Value} {a b c : Nat → Nat} {u v w : St} {p0 : Int32} {p1 : Int32} (o : Ok x cc nL own d mc ms) {r : Unit} (ht : f_X1_requirePosition u v w p0 p1 = some (.inl r)) (hlk : Cond.methodLink own i yX1_requirePosition ∈ Ug) (hd : 0 < d) (hr : (rest.map fun v => v.category).sum ≤ 8) (hk : k + 1 ≤ mc ∧ n + 6 ≤ ms) (dg : decode cc pc = .ok (.invokevirtual i, 3)) (kk : G x nL (k + 1) (n + 6) (wX a u b v c w (cxT x)) lv (pc + 3) rest) : G x nL k n (wX a u b v c w (cxT x)) lv pc (.int p1 :: .int p0 :: .ref (a 0) :: rest) := gcV (wd2 := (wX a u b v c w (cxT x))) o (c_X1_requirePosition (cxl x) o.2.2.2.2.2.2.2.2.2.1 a b c u v w p0 p1 (.inl r) ht) (can_V (q0 := 0) o rfl rfl hd (Nat.le_of_ble_eq_true rfl) m_455 m_54 m_454 m_13 hlk yk_X1_requirePosition rfl hr hk dg) sp_X (fun E h => by cases h) (fun h => kk)
theorem k_X1_requirePosition_x {x : Cx} {cc : ByteArray} {nL : Nat} {own : String} {d mc ms k n : Nat} {lv : List (Nat × Value)} {pc i : Nat} {rest : List Value} {a b c : Nat → Nat} {u v w : St} {p0 : Int32} {p1 : Int32} (o : Ok x cc nL own d mc ms) {E : String} (ht : f_X1_requirePosition u v w p0 p1 = some (.inr E)) (hlk : Cond.methodLink own i yX1_requirePosition ∈ Ug) (hd : 0 < d) (hr : (rest.map fun v => v.category).sum ≤ 8) (hk : k + 1 ≤ mc ∧ n + 6 ≤ ms) (dg : decode cc pc = .ok (.invokevirtual i, 3)) (kk : XW x nL (k + 1) (n + 6) (wX a u b v c w (cxT x)) lv pc rest E) : G x nL k n (wX a u b v c w (cxT x)) lv pc (.int p1 :: .int p0 :: .ref (a 0) :: rest) := gcV (wd2 := (wX a u b v c w (cxT x))) o (c_X1_requirePosition (cxl x) o.2.2.2.2.2.2.2.2.2.1 a b c u v w p0 p1 (.inr E) ht) (can_V (q0 := 0) o rfl rfl hd (Nat.le_of_ble_eq_true rfl) m_455 m_54 m_454 m_13 hlk yk_X1_requirePosition rfl hr hk dg) sp_X (fun E h => by cases h; exact kk) (fun h => by cases h)
def rt_X1_addExchanged (x : Cx) (a b c : Nat → Nat) (u w : St) (t : (Int32 ⊕ String) × St) : Prop := (∀ r, t.1 = .inl r → RetI x cX1_addExchanged .int 4 24 (wX a u b t.2 c w (cxT x)) r) ∧ ∀ E, t.1 = .inr E → RetX x 4 24 (wX a u b t.2 c w (cxT x)) E
set_option maxRecDepth 20000 in
set_option maxHeartbeats 2000000 in
theorem b_X1_addExchanged {x : Cx} (o : Ok x cX1_addExchanged 4 RX1 2 4 24) (a b c : Nat → Nat) (u v w : St) (p0 : Int32) (p1 : Int32) (p2 : Int32) (t : (Int32 ⊕ String) × St) (hf : f_X1_addExchanged u v w p0 p1 p2 = some t) (hret : rt_X1_addExchanged x a b c u w t) : G x 4 0 0 (wX a u b v c w (cxT x)) [(0, .ref (a 0)), (1, .int p0), (2, .int p1), (3, .int p2)] 0 [] := by
  unfold f_X1_addExchanged at hf
  refine g_aload_n o 0 rfl rfl dX1_addExchanged_0 ?_
  refine g_iload_n o 1 rfl rfl dX1_addExchanged_1 ?_
  rcases bz_some hf with ⟨r11, hr11, hf⟩ | ⟨E12, hr11, hf⟩
  · refine k_X1_requireRelation_n o hr11 m_369 (Nat.le_of_ble_eq_true rfl) (Nat.le_of_ble_eq_true rfl) ⟨(Nat.le_of_ble_eq_true rfl), (Nat.le_of_ble_eq_true rfl)⟩ dX1_addExchanged_2 ?_
    refine g_aload_n o 0 rfl rfl dX1_addExchanged_5 ?_
    refine g_iload_n o 1 rfl rfl dX1_addExchanged_6 ?_
    refine g_iload_n o 2 rfl rfl dX1_addExchanged_7 ?_
    rcases bz_some hf with ⟨r13, hr13, hf⟩ | ⟨E14, hr13, hf⟩
    · refine k_X1_requirePosition_n o hr13 m_452 (Nat.le_of_ble_eq_true rfl) (Nat.le_of_ble_eq_true rfl) ⟨(Nat.le_of_ble_eq_true rfl), (Nat.le_of_ble_eq_true rfl)⟩ dX1_addExchanged_8 ?_
      refine g_aload_n o 0 rfl rfl dX1_addExchanged_11 ?_
      refine g_iload_n o 1 rfl rfl dX1_addExchanged_12 ?_
      refine g_iload_n o 3 rfl rfl dX1_addExchanged_13 ?_
      rcases bz_some hf with ⟨r15, hr15, hf⟩ | ⟨E16, hr15, hf⟩
      · refine k_X1_requirePosition_n o hr15 m_452 (Nat.le_of_ble_eq_true rfl) (Nat.le_of_ble_eq_true rfl) ⟨(Nat.le_of_ble_eq_true rfl), (Nat.le_of_ble_eq_true rfl)⟩ dX1_addExchanged_14 ?_
        refine g_aload_n o 0 rfl rfl dX1_addExchanged_17 ?_
        refine g_aload_n o 0 rfl rfl dX1_addExchanged_18 ?_
        refine X_get0 o m_112 dX1_addExchanged_19 ?_
        refine Y_get1 o e_85 dX1_addExchanged_22 ?_
        refine g_iload_n o 1 rfl rfl dX1_addExchanged_25 ?_
        refine Y_ld1 o dX1_addExchanged_26 hf (fun hf => ?_)
        refine g_aload_n o 0 rfl rfl dX1_addExchanged_27 ?_
        refine X_get0 o m_112 dX1_addExchanged_28 ?_
        refine Y_get2 o e_87 dX1_addExchanged_31 ?_
        refine g_iload_n o 1 rfl rfl dX1_addExchanged_34 ?_
        refine Y_ld2 o dX1_addExchanged_35 hf (fun hf => ?_)
        refine g_iload_n o 2 rfl rfl dX1_addExchanged_36 ?_
        refine g_iload_n o 3 rfl rfl dX1_addExchanged_37 ?_
        obtain ⟨r17, hr17, hf⟩ := bd_some hf
        refine k_X1_tuplesWithExchange_ o hr17 m_468 (Nat.le_of_ble_eq_true rfl) (Nat.le_of_ble_eq_true rfl) ⟨(Nat.le_of_ble_eq_true rfl), (Nat.le_of_ble_eq_true rfl)⟩ dX1_addExchanged_38 ?_
        rcases bx_some hf with ⟨r18, z20, hr18, hf⟩ | ⟨E19, z20, hr18, hf⟩
        · refine k_X1_addNew_n o hr18 m_311 (Nat.le_of_ble_eq_true rfl) (Nat.le_of_ble_eq_true rfl) ⟨(Nat.le_of_ble_eq_true rfl), (Nat.le_of_ble_eq_true rfl)⟩ dX1_addExchanged_41 ?_
          cases Option.some.inj hf
          exact g_iret (hret.1 _ rfl) (Nat.le_of_ble_eq_true rfl) (Nat.le_of_ble_eq_true rfl) (vp_nar_int _) dX1_addExchanged_44
        · cases Option.some.inj hf
          exact k_X1_addNew_x o hr18 m_311 (Nat.le_of_ble_eq_true rfl) (Nat.le_of_ble_eq_true rfl) ⟨(Nat.le_of_ble_eq_true rfl), (Nat.le_of_ble_eq_true rfl)⟩ dX1_addExchanged_41 (xw_out o (hret.2 _ rfl) (Nat.le_of_ble_eq_true rfl) (Nat.le_of_ble_eq_true rfl))
      · cases Option.some.inj hf
        exact k_X1_requirePosition_x o hr15 m_452 (Nat.le_of_ble_eq_true rfl) (Nat.le_of_ble_eq_true rfl) ⟨(Nat.le_of_ble_eq_true rfl), (Nat.le_of_ble_eq_true rfl)⟩ dX1_addExchanged_14 (xw_out o (hret.2 _ rfl) (Nat.le_of_ble_eq_true rfl) (Nat.le_of_ble_eq_true rfl))
    · cases Option.some.inj hf
      exact k_X1_requirePosition_x o hr13 m_452 (Nat.le_of_ble_eq_true rfl) (Nat.le_of_ble_eq_true rfl) ⟨(Nat.le_of_ble_eq_true rfl), (Nat.le_of_ble_eq_true rfl)⟩ dX1_addExchanged_8 (xw_out o (hret.2 _ rfl) (Nat.le_of_ble_eq_true rfl) (Nat.le_of_ble_eq_true rfl))
  · cases Option.some.inj hf
    exact k_X1_requireRelation_x o hr11 m_369 (Nat.le_of_ble_eq_true rfl) (Nat.le_of_ble_eq_true rfl) ⟨(Nat.le_of_ble_eq_true rfl), (Nat.le_of_ble_eq_true rfl)⟩ dX1_addExchanged_2 (xw_out o (hret.2 _ rfl) (Nat.le_of_ble_eq_true rfl) (Nat.le_of_ble_eq_true rfl))
theorem c_X1_addExchanged (l : Launch) (hst : l.stackTraces = false) (a b c : Nat → Nat) (u v w : St) (p0 : Int32) (p1 : Int32) (p2 : Int32) (t : (Int32 ⊕ String) × St) (hf : f_X1_addExchanged u v w p0 p1 p2 = some t) : CoI l yX1_addExchanged (.code yX1_addExchanged cX1_addExchanged 4 (some .int)) 2 4 24 [.ref (a 0), .int p0, .int p1, .int p2] (wX a u b v c w) (wX a u b t.2 c w) (t.1) := mkI hst (by decide +kernel) (Nat.le_of_ble_eq_true rfl) (fun x _ o hI hX => b_X1_addExchanged o a b c u v w p0 p1 p2 t hf ⟨hI, hX⟩)
def rt_X1_addIntersection (x : Cx) (a b c : Nat → Nat) (u w : St) (t : (Int32 ⊕ String) × St) : Prop := (∀ r, t.1 = .inl r → RetI x cX1_addIntersection .int 4 24 (wX a u b t.2 c w (cxT x)) r) ∧ ∀ E, t.1 = .inr E → RetX x 4 24 (wX a u b t.2 c w (cxT x)) E
set_option maxRecDepth 20000 in
set_option maxHeartbeats 2000000 in
theorem b_X1_addIntersection {x : Cx} (o : Ok x cX1_addIntersection 3 RX1 2 4 24) (a b c : Nat → Nat) (u v w : St) (p0 : Int32) (p1 : Int32) (t : (Int32 ⊕ String) × St) (hf : f_X1_addIntersection u v w p0 p1 = some t) (hret : rt_X1_addIntersection x a b c u w t) : G x 3 0 0 (wX a u b v c w (cxT x)) [(0, .ref (a 0)), (1, .int p0), (2, .int p1)] 0 [] := by
  unfold f_X1_addIntersection at hf
  refine g_aload_n o 0 rfl rfl dX1_addIntersection_0 ?_
  refine g_iload_n o 1 rfl rfl dX1_addIntersection_1 ?_
  rcases bz_some hf with ⟨r8, hr8, hf⟩ | ⟨E9, hr8, hf⟩
  · refine k_X1_requireRelation_n o hr8 m_369 (Nat.le_of_ble_eq_true rfl) (Nat.le_of_ble_eq_true rfl) ⟨(Nat.le_of_ble_eq_true rfl), (Nat.le_of_ble_eq_true rfl)⟩ dX1_addIntersection_2 ?_
    refine g_aload_n o 0 rfl rfl dX1_addIntersection_5 ?_
    refine g_iload_n o 2 rfl rfl dX1_addIntersection_6 ?_
    rcases bz_some hf with ⟨r10, hr10, hf⟩ | ⟨E11, hr10, hf⟩
    · refine k_X1_requireRelation_n o hr10 m_369 (Nat.le_of_ble_eq_true rfl) (Nat.le_of_ble_eq_true rfl) ⟨(Nat.le_of_ble_eq_true rfl), (Nat.le_of_ble_eq_true rfl)⟩ dX1_addIntersection_7 ?_
      refine g_aload_n o 0 rfl rfl dX1_addIntersection_10 ?_
      refine X_get0 o m_112 dX1_addIntersection_11 ?_
      refine Y_get1 o e_85 dX1_addIntersection_14 ?_
      refine g_iload_n o 1 rfl rfl dX1_addIntersection_17 ?_
      refine Y_ld1 o dX1_addIntersection_18 hf (fun hf => ?_)
      refine g_aload_n o 0 rfl rfl dX1_addIntersection_19 ?_
      refine X_get0 o m_112 dX1_addIntersection_20 ?_
      refine Y_get1 o e_85 dX1_addIntersection_23 ?_
      refine g_iload_n o 2 rfl rfl dX1_addIntersection_26 ?_
      refine Y_ld1 o dX1_addIntersection_27 hf (fun hf => ?_)
      refine g_ic_eq (tgt := 41) o rfl dX1_addIntersection_28 hf (fun hc hf => ?_) (fun hc hf => ?_)
      · refine g_aload_n o 0 rfl rfl dX1_addIntersection_41 ?_
        refine g_aload_n o 0 rfl rfl dX1_addIntersection_42 ?_
        refine X_get0 o m_112 dX1_addIntersection_43 ?_
        refine Y_get1 o e_85 dX1_addIntersection_46 ?_
        refine g_iload_n o 1 rfl rfl dX1_addIntersection_49 ?_
        refine Y_ld1 o dX1_addIntersection_50 hf (fun hf => ?_)
        refine g_aload_n o 0 rfl rfl dX1_addIntersection_51 ?_
        refine X_get0 o m_112 dX1_addIntersection_52 ?_
        refine Y_get2 o e_87 dX1_addIntersection_55 ?_
        refine g_iload_n o 1 rfl rfl dX1_addIntersection_58 ?_
        refine Y_ld2 o dX1_addIntersection_59 hf (fun hf => ?_)
        refine g_aload_n o 0 rfl rfl dX1_addIntersection_60 ?_
        refine X_get0 o m_112 dX1_addIntersection_61 ?_
        refine Y_get2 o e_87 dX1_addIntersection_64 ?_
        refine g_iload_n o 2 rfl rfl dX1_addIntersection_67 ?_
        refine Y_ld2 o dX1_addIntersection_68 hf (fun hf => ?_)
        refine g_iand o dX1_addIntersection_69 ?_
        rcases bx_some hf with ⟨r12, z14, hr12, hf⟩ | ⟨E13, z14, hr12, hf⟩
        · refine k_X1_addNew_n o hr12 m_311 (Nat.le_of_ble_eq_true rfl) (Nat.le_of_ble_eq_true rfl) ⟨(Nat.le_of_ble_eq_true rfl), (Nat.le_of_ble_eq_true rfl)⟩ dX1_addIntersection_70 ?_
          cases Option.some.inj hf
          exact g_iret (hret.1 _ rfl) (Nat.le_of_ble_eq_true rfl) (Nat.le_of_ble_eq_true rfl) (vp_nar_int _) dX1_addIntersection_73
        · cases Option.some.inj hf
          exact k_X1_addNew_x o hr12 m_311 (Nat.le_of_ble_eq_true rfl) (Nat.le_of_ble_eq_true rfl) ⟨(Nat.le_of_ble_eq_true rfl), (Nat.le_of_ble_eq_true rfl)⟩ dX1_addIntersection_70 (xw_out o (hret.2 _ rfl) (Nat.le_of_ble_eq_true rfl) (Nat.le_of_ble_eq_true rfl))
      · cases Option.some.inj hf
        exact g_throwS o (hret.2 _ rfl) fit_ia fit_re rfl m_241 m_60 st_103 at_63 go_63 dX1_addIntersection_31 dX1_addIntersection_34 dX1_addIntersection_35 dX1_addIntersection_37 dX1_addIntersection_40 (Nat.le_of_ble_eq_true rfl) (Nat.le_of_ble_eq_true rfl)
    · cases Option.some.inj hf
      exact k_X1_requireRelation_x o hr10 m_369 (Nat.le_of_ble_eq_true rfl) (Nat.le_of_ble_eq_true rfl) ⟨(Nat.le_of_ble_eq_true rfl), (Nat.le_of_ble_eq_true rfl)⟩ dX1_addIntersection_7 (xw_out o (hret.2 _ rfl) (Nat.le_of_ble_eq_true rfl) (Nat.le_of_ble_eq_true rfl))
  · cases Option.some.inj hf
    exact k_X1_requireRelation_x o hr8 m_369 (Nat.le_of_ble_eq_true rfl) (Nat.le_of_ble_eq_true rfl) ⟨(Nat.le_of_ble_eq_true rfl), (Nat.le_of_ble_eq_true rfl)⟩ dX1_addIntersection_2 (xw_out o (hret.2 _ rfl) (Nat.le_of_ble_eq_true rfl) (Nat.le_of_ble_eq_true rfl))
theorem c_X1_addIntersection (l : Launch) (hst : l.stackTraces = false) (a b c : Nat → Nat) (u v w : St) (p0 : Int32) (p1 : Int32) (t : (Int32 ⊕ String) × St) (hf : f_X1_addIntersection u v w p0 p1 = some t) : CoI l yX1_addIntersection (.code yX1_addIntersection cX1_addIntersection 3 (some .int)) 2 4 24 [.ref (a 0), .int p0, .int p1] (wX a u b v c w) (wX a u b t.2 c w) (t.1) := mkI hst (by decide +kernel) (Nat.le_of_ble_eq_true rfl) (fun x _ o hI hX => b_X1_addIntersection o a b c u v w p0 p1 t hf ⟨hI, hX⟩)
def rt_X1_addParity (x : Cx) (a b c : Nat → Nat) (u w : St) (t : (Int32 ⊕ String) × St) : Prop := (∀ r, t.1 = .inl r → RetI x cX1_addParity .int 3 18 (wX a u b t.2 c w (cxT x)) r) ∧ ∀ E, t.1 = .inr E → RetX x 3 18 (wX a u b t.2 c w (cxT x)) E
set_option maxRecDepth 20000 in
set_option maxHeartbeats 2000000 in
theorem b_X1_addParity {x : Cx} (o : Ok x cX1_addParity 3 RX1 2 3 18) (a b c : Nat → Nat) (u v w : St) (p0 : Int32) (p1 : Int32) (t : (Int32 ⊕ String) × St) (hf : f_X1_addParity u v w p0 p1 = some t) (hret : rt_X1_addParity x a b c u w t) : G x 3 0 0 (wX a u b v c w (cxT x)) [(0, .ref (a 0)), (1, .int p0), (2, .int p1)] 0 [] := by
  unfold f_X1_addParity at hf
  refine g_iload_n o 1 rfl rfl dX1_addParity_0 ?_
  rcases bz_some hf with ⟨r9, hr9, hf⟩ | ⟨E10, hr9, hf⟩
  · refine k_X1_requireRelationArity_n o hr9 m_238 (Nat.le_of_ble_eq_true rfl) (Nat.le_of_ble_eq_true rfl) ⟨(Nat.le_of_ble_eq_true rfl), (Nat.le_of_ble_eq_true rfl)⟩ dX1_addParity_1 ?_
    refine g_iload_n o 2 rfl rfl dX1_addParity_4 ?_
    rcases bz_some hf with ⟨r11, hr11, hf⟩ | ⟨E12, hr11, hf⟩
    · refine k_X1_requireBit_n o hr11 m_354 (Nat.le_of_ble_eq_true rfl) (Nat.le_of_ble_eq_true rfl) ⟨(Nat.le_of_ble_eq_true rfl), (Nat.le_of_ble_eq_true rfl)⟩ dX1_addParity_5 ?_
      refine g_aload_n o 0 rfl rfl dX1_addParity_8 ?_
      refine g_iload_n o 1 rfl rfl dX1_addParity_9 ?_
      refine g_iload_n o 1 rfl rfl dX1_addParity_10 ?_
      refine g_iload_n o 2 rfl rfl dX1_addParity_11 ?_
      obtain ⟨r13, hr13, hf⟩ := bd_some hf
      refine k_X1_tuplesWithSum_ o hr13 m_358 (Nat.le_of_ble_eq_true rfl) (Nat.le_of_ble_eq_true rfl) ⟨(Nat.le_of_ble_eq_true rfl), (Nat.le_of_ble_eq_true rfl)⟩ dX1_addParity_12 ?_
      rcases bx_some hf with ⟨r14, z16, hr14, hf⟩ | ⟨E15, z16, hr14, hf⟩
      · refine k_X1_addNew_n o hr14 m_311 (Nat.le_of_ble_eq_true rfl) (Nat.le_of_ble_eq_true rfl) ⟨(Nat.le_of_ble_eq_true rfl), (Nat.le_of_ble_eq_true rfl)⟩ dX1_addParity_15 ?_
        cases Option.some.inj hf
        exact g_iret (hret.1 _ rfl) (Nat.le_of_ble_eq_true rfl) (Nat.le_of_ble_eq_true rfl) (vp_nar_int _) dX1_addParity_18
      · cases Option.some.inj hf
        exact k_X1_addNew_x o hr14 m_311 (Nat.le_of_ble_eq_true rfl) (Nat.le_of_ble_eq_true rfl) ⟨(Nat.le_of_ble_eq_true rfl), (Nat.le_of_ble_eq_true rfl)⟩ dX1_addParity_15 (xw_out o (hret.2 _ rfl) (Nat.le_of_ble_eq_true rfl) (Nat.le_of_ble_eq_true rfl))
    · cases Option.some.inj hf
      exact k_X1_requireBit_x o hr11 m_354 (Nat.le_of_ble_eq_true rfl) (Nat.le_of_ble_eq_true rfl) ⟨(Nat.le_of_ble_eq_true rfl), (Nat.le_of_ble_eq_true rfl)⟩ dX1_addParity_5 (xw_out o (hret.2 _ rfl) (Nat.le_of_ble_eq_true rfl) (Nat.le_of_ble_eq_true rfl))
  · cases Option.some.inj hf
    exact k_X1_requireRelationArity_x o hr9 m_238 (Nat.le_of_ble_eq_true rfl) (Nat.le_of_ble_eq_true rfl) ⟨(Nat.le_of_ble_eq_true rfl), (Nat.le_of_ble_eq_true rfl)⟩ dX1_addParity_1 (xw_out o (hret.2 _ rfl) (Nat.le_of_ble_eq_true rfl) (Nat.le_of_ble_eq_true rfl))
theorem c_X1_addParity (l : Launch) (hst : l.stackTraces = false) (a b c : Nat → Nat) (u v w : St) (p0 : Int32) (p1 : Int32) (t : (Int32 ⊕ String) × St) (hf : f_X1_addParity u v w p0 p1 = some t) : CoI l yX1_addParity (.code yX1_addParity cX1_addParity 3 (some .int)) 2 3 18 [.ref (a 0), .int p0, .int p1] (wX a u b v c w) (wX a u b t.2 c w) (t.1) := mkI hst (by decide +kernel) (Nat.le_of_ble_eq_true rfl) (fun x _ o hI hX => b_X1_addParity o a b c u v w p0 p1 t hf ⟨hI, hX⟩)
def rt_X1_addProjection (x : Cx) (a b c : Nat → Nat) (u w : St) (t : (Int32 ⊕ String) × St) : Prop := (∀ r, t.1 = .inl r → RetI x cX1_addProjection .int 4 24 (wX a u b t.2 c w (cxT x)) r) ∧ ∀ E, t.1 = .inr E → RetX x 4 24 (wX a u b t.2 c w (cxT x)) E
set_option maxRecDepth 20000 in
set_option maxHeartbeats 2000000 in
theorem b_X1_addProjection {x : Cx} (o : Ok x cX1_addProjection 4 RX1 2 4 24) (a b c : Nat → Nat) (u v w : St) (p0 : Int32) (p1 : Int32) (t : (Int32 ⊕ String) × St) (hf : f_X1_addProjection u v w p0 p1 = some t) (hret : rt_X1_addProjection x a b c u w t) : G x 4 0 0 (wX a u b v c w (cxT x)) [(0, .ref (a 0)), (1, .int p0), (2, .int p1)] 0 [] := by
  unfold f_X1_addProjection at hf
  refine g_aload_n o 0 rfl rfl dX1_addProjection_0 ?_
  refine g_iload_n o 1 rfl rfl dX1_addProjection_1 ?_
  rcases bz_some hf with ⟨r10, hr10, hf⟩ | ⟨E11, hr10, hf⟩
  · refine k_X1_requireRelation_n o hr10 m_369 (Nat.le_of_ble_eq_true rfl) (Nat.le_of_ble_eq_true rfl) ⟨(Nat.le_of_ble_eq_true rfl), (Nat.le_of_ble_eq_true rfl)⟩ dX1_addProjection_2 ?_
    refine g_aload_n o 0 rfl rfl dX1_addProjection_5 ?_
    refine g_iload_n o 1 rfl rfl dX1_addProjection_6 ?_
    refine g_iload_n o 2 rfl rfl dX1_addProjection_7 ?_
    rcases bz_some hf with ⟨r12, hr12, hf⟩ | ⟨E13, hr12, hf⟩
    · refine k_X1_requirePosition_n o hr12 m_452 (Nat.le_of_ble_eq_true rfl) (Nat.le_of_ble_eq_true rfl) ⟨(Nat.le_of_ble_eq_true rfl), (Nat.le_of_ble_eq_true rfl)⟩ dX1_addProjection_8 ?_
      refine g_aload_n o 0 rfl rfl dX1_addProjection_11 ?_
      refine X_get0 o m_112 dX1_addProjection_12 ?_
      refine Y_get1 o e_85 dX1_addProjection_15 ?_
      refine g_iload_n o 1 rfl rfl dX1_addProjection_18 ?_
      refine Y_ld1 o dX1_addProjection_19 hf (fun hf => ?_)
      refine g_nmi hf (fun x14 hf => ?_)
      refine g_istore_n o [(3, .int x14), (0, .ref (a 0)), (1, .int p0), (2, .int p1)] (Nat.le_of_ble_eq_true rfl) rfl rfl dX1_addProjection_20 ?_
      refine g_iload_n o 0 rfl rfl dX1_addProjection_21 ?_
      refine g_iconst o ic_1 dX1_addProjection_22 ?_
      refine g_ic_ne (tgt := 36) o rfl dX1_addProjection_23 hf (fun hc hf => ?_) (fun hc hf => ?_)
      · refine g_aload_n o 1 rfl rfl dX1_addProjection_36 ?_
        refine g_iload_n o 0 rfl rfl dX1_addProjection_37 ?_
        refine g_iconst o ic_1 dX1_addProjection_38 ?_
        refine g_isub o dX1_addProjection_39 ?_
        refine g_aload_n o 1 rfl rfl dX1_addProjection_40 ?_
        refine X_get0 o m_112 dX1_addProjection_41 ?_
        refine Y_get2 o e_87 dX1_addProjection_44 ?_
        refine g_iload_n o 2 rfl rfl dX1_addProjection_47 ?_
        refine Y_ld2 o dX1_addProjection_48 hf (fun hf => ?_)
        refine g_iload_n o 3 rfl rfl dX1_addProjection_49 ?_
        obtain ⟨r15, hr15, hf⟩ := bd_some hf
        refine k_X1_tuplesWithoutPosition_ o hr15 m_458 (Nat.le_of_ble_eq_true rfl) (Nat.le_of_ble_eq_true rfl) ⟨(Nat.le_of_ble_eq_true rfl), (Nat.le_of_ble_eq_true rfl)⟩ dX1_addProjection_50 ?_
        rcases bx_some hf with ⟨r16, z18, hr16, hf⟩ | ⟨E17, z18, hr16, hf⟩
        · refine k_X1_addNew_n o hr16 m_311 (Nat.le_of_ble_eq_true rfl) (Nat.le_of_ble_eq_true rfl) ⟨(Nat.le_of_ble_eq_true rfl), (Nat.le_of_ble_eq_true rfl)⟩ dX1_addProjection_53 ?_
          cases Option.some.inj hf
          exact g_iret (hret.1 _ rfl) (Nat.le_of_ble_eq_true rfl) (Nat.le_of_ble_eq_true rfl) (vp_nar_int _) dX1_addProjection_56
        · cases Option.some.inj hf
          exact k_X1_addNew_x o hr16 m_311 (Nat.le_of_ble_eq_true rfl) (Nat.le_of_ble_eq_true rfl) ⟨(Nat.le_of_ble_eq_true rfl), (Nat.le_of_ble_eq_true rfl)⟩ dX1_addProjection_53 (xw_out o (hret.2 _ rfl) (Nat.le_of_ble_eq_true rfl) (Nat.le_of_ble_eq_true rfl))
      · cases Option.some.inj hf
        exact g_throwS o (hret.2 _ rfl) fit_ia fit_re rfl m_241 m_60 st_108 at_63 go_63 dX1_addProjection_26 dX1_addProjection_29 dX1_addProjection_30 dX1_addProjection_32 dX1_addProjection_35 (Nat.le_of_ble_eq_true rfl) (Nat.le_of_ble_eq_true rfl)
    · cases Option.some.inj hf
      exact k_X1_requirePosition_x o hr12 m_452 (Nat.le_of_ble_eq_true rfl) (Nat.le_of_ble_eq_true rfl) ⟨(Nat.le_of_ble_eq_true rfl), (Nat.le_of_ble_eq_true rfl)⟩ dX1_addProjection_8 (xw_out o (hret.2 _ rfl) (Nat.le_of_ble_eq_true rfl) (Nat.le_of_ble_eq_true rfl))
  · cases Option.some.inj hf
    exact k_X1_requireRelation_x o hr10 m_369 (Nat.le_of_ble_eq_true rfl) (Nat.le_of_ble_eq_true rfl) ⟨(Nat.le_of_ble_eq_true rfl), (Nat.le_of_ble_eq_true rfl)⟩ dX1_addProjection_2 (xw_out o (hret.2 _ rfl) (Nat.le_of_ble_eq_true rfl) (Nat.le_of_ble_eq_true rfl))
theorem c_X1_addProjection (l : Launch) (hst : l.stackTraces = false) (a b c : Nat → Nat) (u v w : St) (p0 : Int32) (p1 : Int32) (t : (Int32 ⊕ String) × St) (hf : f_X1_addProjection u v w p0 p1 = some t) : CoI l yX1_addProjection (.code yX1_addProjection cX1_addProjection 4 (some .int)) 2 4 24 [.ref (a 0), .int p0, .int p1] (wX a u b v c w) (wX a u b t.2 c w) (t.1) := mkI hst (by decide +kernel) (Nat.le_of_ble_eq_true rfl) (fun x _ o hI hX => b_X1_addProjection o a b c u v w p0 p1 t hf ⟨hI, hX⟩)
def rt_X1_addRelation (x : Cx) (a b c : Nat → Nat) (u w : St) (t : (Int32 ⊕ String) × St) : Prop := (∀ r, t.1 = .inl r → RetI x cX1_addRelation .int 2 12 (wX a u b t.2 c w (cxT x)) r) ∧ ∀ E, t.1 = .inr E → RetX x 2 12 (wX a u b t.2 c w (cxT x)) E
set_option maxRecDepth 20000 in
set_option maxHeartbeats 2000000 in
theorem b_X1_addRelation {x : Cx} (o : Ok x cX1_addRelation 2 RX1 2 2 12) (a b c : Nat → Nat) (u v w : St) (p0 : Int32) (t : (Int32 ⊕ String) × St) (hf : f_X1_addRelation u v w p0 = some t) (hret : rt_X1_addRelation x a b c u w t) : G x 2 0 0 (wX a u b v c w (cxT x)) [(0, .ref (a 0)), (1, .int p0)] 0 [] := by
  unfold f_X1_addRelation at hf
  refine g_iload_n o 1 rfl rfl dX1_addRelation_0 ?_
  rcases bz_some hf with ⟨r6, hr6, hf⟩ | ⟨E7, hr6, hf⟩
  · refine k_X1_requireRelationArity_n o hr6 m_238 (Nat.le_of_ble_eq_true rfl) (Nat.le_of_ble_eq_true rfl) ⟨(Nat.le_of_ble_eq_true rfl), (Nat.le_of_ble_eq_true rfl)⟩ dX1_addRelation_1 ?_
    refine g_aload_n o 0 rfl rfl dX1_addRelation_4 ?_
    refine g_iload_n o 1 rfl rfl dX1_addRelation_5 ?_
    refine g_iconst o ic_0 dX1_addRelation_6 ?_
    rcases bx_some hf with ⟨r8, z10, hr8, hf⟩ | ⟨E9, z10, hr8, hf⟩
    · refine k_X1_addNew_n o hr8 m_311 (Nat.le_of_ble_eq_true rfl) (Nat.le_of_ble_eq_true rfl) ⟨(Nat.le_of_ble_eq_true rfl), (Nat.le_of_ble_eq_true rfl)⟩ dX1_addRelation_7 ?_
      cases Option.some.inj hf
      exact g_iret (hret.1 _ rfl) (Nat.le_of_ble_eq_true rfl) (Nat.le_of_ble_eq_true rfl) (vp_nar_int _) dX1_addRelation_10
    · cases Option.some.inj hf
      exact k_X1_addNew_x o hr8 m_311 (Nat.le_of_ble_eq_true rfl) (Nat.le_of_ble_eq_true rfl) ⟨(Nat.le_of_ble_eq_true rfl), (Nat.le_of_ble_eq_true rfl)⟩ dX1_addRelation_7 (xw_out o (hret.2 _ rfl) (Nat.le_of_ble_eq_true rfl) (Nat.le_of_ble_eq_true rfl))
  · cases Option.some.inj hf
    exact k_X1_requireRelationArity_x o hr6 m_238 (Nat.le_of_ble_eq_true rfl) (Nat.le_of_ble_eq_true rfl) ⟨(Nat.le_of_ble_eq_true rfl), (Nat.le_of_ble_eq_true rfl)⟩ dX1_addRelation_1 (xw_out o (hret.2 _ rfl) (Nat.le_of_ble_eq_true rfl) (Nat.le_of_ble_eq_true rfl))
theorem c_X1_addRelation (l : Launch) (hst : l.stackTraces = false) (a b c : Nat → Nat) (u v w : St) (p0 : Int32) (t : (Int32 ⊕ String) × St) (hf : f_X1_addRelation u v w p0 = some t) : CoI l yX1_addRelation (.code yX1_addRelation cX1_addRelation 2 (some .int)) 2 2 12 [.ref (a 0), .int p0] (wX a u b v c w) (wX a u b t.2 c w) (t.1) := mkI hst (by decide +kernel) (Nat.le_of_ble_eq_true rfl) (fun x _ o hI hX => b_X1_addRelation o a b c u v w p0 t hf ⟨hI, hX⟩)
def rt_X1_requireTuple (x : Cx) (a b c : Nat → Nat) (u v w : St) (t : (Unit ⊕ String)) : Prop := (t = .inl () → RetV x cX1_requireTuple 1 6 (wX a u b v c w (cxT x))) ∧ ∀ E, t = .inr E → RetX x 1 6 (wX a u b v c w (cxT x)) E
set_option maxRecDepth 20000 in
set_option maxHeartbeats 2000000 in
theorem b_X1_requireTuple {x : Cx} (o : Ok x cX1_requireTuple 3 RX1 1 1 6) (a b c : Nat → Nat) (u v w : St) (p0 : Int32) (p1 : Int32) (t : (Unit ⊕ String)) (hf : f_X1_requireTuple u v w p0 p1 = some t) (hret : rt_X1_requireTuple x a b c u v w t) : G x 3 0 0 (wX a u b v c w (cxT x)) [(0, .ref (a 0)), (1, .int p0), (2, .int p1)] 0 [] := by
  unfold f_X1_requireTuple at hf
  refine g_iload_n o 2 rfl rfl dX1_requireTuple_0 ?_
  refine g_if_lt (tgt := 20) o rfl dX1_requireTuple_1 hf (fun hc hf => ?_) (fun hc hf => ?_)
  · cases Option.some.inj hf
    exact g_throwSW o (hret.2 _ rfl) fit_ia fit_re rfl m_241 m_60 st_299 at_63 go_63 dX1_requireTuple_20 dX1_requireTuple_23 dX1_requireTuple_24 dX1_requireTuple_27 dX1_requireTuple_30 (Nat.le_of_ble_eq_true rfl) (Nat.le_of_ble_eq_true rfl)
  · refine g_iload_n o 2 rfl rfl dX1_requireTuple_4 ?_
    refine g_aload_n o 0 rfl rfl dX1_requireTuple_5 ?_
    refine X_get0 o m_112 dX1_requireTuple_6 ?_
    refine Y_get1 o e_85 dX1_requireTuple_9 ?_
    refine g_iload_n o 1 rfl rfl dX1_requireTuple_12 ?_
    refine Y_ld1 o dX1_requireTuple_13 hf (fun hf => ?_)
    obtain ⟨r2, hr2, hf⟩ := bd_some hf
    refine k_X1_greatestTuple_ o hr2 m_342 (Nat.le_of_ble_eq_true rfl) (Nat.le_of_ble_eq_true rfl) ⟨(Nat.le_of_ble_eq_true rfl), (Nat.le_of_ble_eq_true rfl)⟩ dX1_requireTuple_14 ?_
    refine g_ic_le (tgt := 31) o rfl dX1_requireTuple_17 hf (fun hc hf => ?_) (fun hc hf => ?_)
    · cases Option.some.inj hf
      exact g_vret (hret.1 rfl) (Nat.le_of_ble_eq_true rfl) (Nat.le_of_ble_eq_true rfl) dX1_requireTuple_31
    · cases Option.some.inj hf
      exact g_throwSW o (hret.2 _ rfl) fit_ia fit_re rfl m_241 m_60 st_299 at_63 go_63 dX1_requireTuple_20 dX1_requireTuple_23 dX1_requireTuple_24 dX1_requireTuple_27 dX1_requireTuple_30 (Nat.le_of_ble_eq_true rfl) (Nat.le_of_ble_eq_true rfl)
theorem c_X1_requireTuple (l : Launch) (hst : l.stackTraces = false) (a b c : Nat → Nat) (u v w : St) (p0 : Int32) (p1 : Int32) (t : (Unit ⊕ String)) (hf : f_X1_requireTuple u v w p0 p1 = some t) : CoV l yX1_requireTuple (.code yX1_requireTuple cX1_requireTuple 3 none) 1 1 6 [.ref (a 0), .int p0, .int p1] (wX a u b v c w) (wX a u b v c w) (t) := mkV hst (by decide +kernel) (Nat.le_of_ble_eq_true rfl) (fun x _ o hI hX => b_X1_requireTuple o a b c u v w p0 p1 t hf ⟨hI, hX⟩)
theorem k_X1_requireTuple_n {x : Cx} {cc : ByteArray} {nL : Nat} {own : String} {d mc ms k n : Nat} {lv : List (Nat × Value)} {pc i : Nat} {rest : List Value} {a b c : Nat → Nat} {u v w : St} {p0 : Int32} {p1 : Int32} (o : Ok x cc nL own d mc ms) {r : Unit} (ht : f_X1_requireTuple u v w p0 p1 = some (.inl r)) (hlk : Cond.methodLink own i yX1_requireTuple ∈ Ug) (hd : 1 < d) (hr : (rest.map fun v => v.category).sum ≤ 8) (hk : k + 1 ≤ mc ∧ n + 6 ≤ ms) (dg : decode cc pc = .ok (.invokevirtual i, 3)) (kk : G x nL (k + 1) (n + 6) (wX a u b v c w (cxT x)) lv (pc + 3) rest) : G x nL k n (wX a u b v c w (cxT x)) lv pc (.int p1 :: .int p0 :: .ref (a 0) :: rest) := gcV (wd2 := (wX a u b v c w (cxT x))) o (c_X1_requireTuple (cxl x) o.2.2.2.2.2.2.2.2.2.1 a b c u v w p0 p1 (.inl r) ht) (can_V (q0 := 0) o rfl rfl hd (Nat.le_of_ble_eq_true rfl) m_392 m_54 m_391 m_12 hlk yk_X1_requireTuple rfl hr hk dg) sp_X (fun E h => by cases h) (fun h => kk)
theorem k_X1_requireTuple_x {x : Cx} {cc : ByteArray} {nL : Nat} {own : String} {d mc ms k n : Nat} {lv : List (Nat × Value)} {pc i : Nat} {rest : List Value} {a b c : Nat → Nat} {u v w : St} {p0 : Int32} {p1 : Int32} (o : Ok x cc nL own d mc ms) {E : String} (ht : f_X1_requireTuple u v w p0 p1 = some (.inr E)) (hlk : Cond.methodLink own i yX1_requireTuple ∈ Ug) (hd : 1 < d) (hr : (rest.map fun v => v.category).sum ≤ 8) (hk : k + 1 ≤ mc ∧ n + 6 ≤ ms) (dg : decode cc pc = .ok (.invokevirtual i, 3)) (kk : XW x nL (k + 1) (n + 6) (wX a u b v c w (cxT x)) lv pc rest E) : G x nL k n (wX a u b v c w (cxT x)) lv pc (.int p1 :: .int p0 :: .ref (a 0) :: rest) := gcV (wd2 := (wX a u b v c w (cxT x))) o (c_X1_requireTuple (cxl x) o.2.2.2.2.2.2.2.2.2.1 a b c u v w p0 p1 (.inr E) ht) (can_V (q0 := 0) o rfl rfl hd (Nat.le_of_ble_eq_true rfl) m_392 m_54 m_391 m_12 hlk yk_X1_requireTuple rfl hr hk dg) sp_X (fun E h => by cases h; exact kk) (fun h => by cases h)
def rt_X1_addTuple (x : Cx) (a b c : Nat → Nat) (u w : St) (t : (Int32 ⊕ String) × St) : Prop := (∀ r, t.1 = .inl r → RetI x cX1_addTuple .boolean 2 12 (wX a u b t.2 c w (cxT x)) r) ∧ ∀ E, t.1 = .inr E → RetX x 2 12 (wX a u b t.2 c w (cxT x)) E
set_option maxRecDepth 20000 in
set_option maxHeartbeats 2000000 in
theorem b_X1_addTuple {x : Cx} (o : Ok x cX1_addTuple 4 RX1 2 2 12) (a b c : Nat → Nat) (u v w : St) (p0 : Int32) (p1 : Int32) (t : (Int32 ⊕ String) × St) (hf : f_X1_addTuple u v w p0 p1 = some t) (hret : rt_X1_addTuple x a b c u w t) : G x 4 0 0 (wX a u b v c w (cxT x)) [(0, .ref (a 0)), (1, .int p0), (2, .int p1)] 0 [] := by
  unfold f_X1_addTuple at hf
  refine g_aload_n o 0 rfl rfl dX1_addTuple_0 ?_
  refine g_iload_n o 1 rfl rfl dX1_addTuple_1 ?_
  rcases bz_some hf with ⟨r6, hr6, hf⟩ | ⟨E7, hr6, hf⟩
  · refine k_X1_requireRelation_n o hr6 m_369 (Nat.le_of_ble_eq_true rfl) (Nat.le_of_ble_eq_true rfl) ⟨(Nat.le_of_ble_eq_true rfl), (Nat.le_of_ble_eq_true rfl)⟩ dX1_addTuple_2 ?_
    refine g_aload_n o 0 rfl rfl dX1_addTuple_5 ?_
    refine g_iload_n o 1 rfl rfl dX1_addTuple_6 ?_
    refine g_iload_n o 2 rfl rfl dX1_addTuple_7 ?_
    rcases bz_some hf with ⟨r8, hr8, hf⟩ | ⟨E9, hr8, hf⟩
    · refine k_X1_requireTuple_n o hr8 m_389 (Nat.le_of_ble_eq_true rfl) (Nat.le_of_ble_eq_true rfl) ⟨(Nat.le_of_ble_eq_true rfl), (Nat.le_of_ble_eq_true rfl)⟩ dX1_addTuple_8 ?_
      refine g_aload_n o 0 rfl rfl dX1_addTuple_11 ?_
      refine X_get0 o m_112 dX1_addTuple_12 ?_
      refine Y_get2 o e_87 dX1_addTuple_15 ?_
      refine g_iload_n o 1 rfl rfl dX1_addTuple_18 ?_
      refine Y_ld2 o dX1_addTuple_19 hf (fun hf => ?_)
      refine g_iload_n o 2 rfl rfl dX1_addTuple_20 ?_
      obtain ⟨r10, hr10, hf⟩ := bd_some hf
      refine k_X1_has_ o hr10 m_394 (Nat.le_of_ble_eq_true rfl) (Nat.le_of_ble_eq_true rfl) ⟨(Nat.le_of_ble_eq_true rfl), (Nat.le_of_ble_eq_true rfl)⟩ dX1_addTuple_21 ?_
      refine g_if_ne (tgt := 31) o rfl dX1_addTuple_24 hf (fun hc hf => ?_) (fun hc hf => ?_)
      · refine g_iconst o ic_0 dX1_addTuple_31 ?_
        refine g_istore_n o [(3, .int 0), (0, .ref (a 0)), (1, .int p0), (2, .int p1)] (Nat.le_of_ble_eq_true rfl) rfl rfl dX1_addTuple_32 ?_
        refine g_aload_n o 1 rfl rfl dX1_addTuple_33 ?_
        refine X_get0 o m_112 dX1_addTuple_34 ?_
        refine Y_get2 o e_87 dX1_addTuple_37 ?_
        refine g_iload_n o 2 rfl rfl dX1_addTuple_40 ?_
        refine g_dup2 o rfl rfl dX1_addTuple_41 ?_
        refine Y_ld2 o dX1_addTuple_42 hf (fun hf => ?_)
        refine g_iconst o ic_1 dX1_addTuple_43 ?_
        refine g_iload_n o 3 rfl rfl dX1_addTuple_44 ?_
        refine g_ishl o dX1_addTuple_45 ?_
        refine g_ior o dX1_addTuple_46 ?_
        refine Y_st2 o dX1_addTuple_47 hf (fun hf => ?_)
        refine g_iload_n o 0 rfl rfl dX1_addTuple_48 ?_
        cases Option.some.inj hf
        exact g_iret (hret.1 _ rfl) (Nat.le_of_ble_eq_true rfl) (Nat.le_of_ble_eq_true rfl) nb_0 dX1_addTuple_49
      · refine g_iconst o ic_1 dX1_addTuple_27 ?_
        refine g_goto (tgt := 32) o rfl dX1_addTuple_28 ?_
        refine g_istore_n o [(3, .int 1), (0, .ref (a 0)), (1, .int p0), (2, .int p1)] (Nat.le_of_ble_eq_true rfl) rfl rfl dX1_addTuple_32 ?_
        refine g_aload_n o 1 rfl rfl dX1_addTuple_33 ?_
        refine X_get0 o m_112 dX1_addTuple_34 ?_
        refine Y_get2 o e_87 dX1_addTuple_37 ?_
        refine g_iload_n o 2 rfl rfl dX1_addTuple_40 ?_
        refine g_dup2 o rfl rfl dX1_addTuple_41 ?_
        refine Y_ld2 o dX1_addTuple_42 hf (fun hf => ?_)
        refine g_iconst o ic_1 dX1_addTuple_43 ?_
        refine g_iload_n o 3 rfl rfl dX1_addTuple_44 ?_
        refine g_ishl o dX1_addTuple_45 ?_
        refine g_ior o dX1_addTuple_46 ?_
        refine Y_st2 o dX1_addTuple_47 hf (fun hf => ?_)
        refine g_iload_n o 0 rfl rfl dX1_addTuple_48 ?_
        cases Option.some.inj hf
        exact g_iret (hret.1 _ rfl) (Nat.le_of_ble_eq_true rfl) (Nat.le_of_ble_eq_true rfl) nb_1 dX1_addTuple_49
    · cases Option.some.inj hf
      exact k_X1_requireTuple_x o hr8 m_389 (Nat.le_of_ble_eq_true rfl) (Nat.le_of_ble_eq_true rfl) ⟨(Nat.le_of_ble_eq_true rfl), (Nat.le_of_ble_eq_true rfl)⟩ dX1_addTuple_8 (xw_out o (hret.2 _ rfl) (Nat.le_of_ble_eq_true rfl) (Nat.le_of_ble_eq_true rfl))
  · cases Option.some.inj hf
    exact k_X1_requireRelation_x o hr6 m_369 (Nat.le_of_ble_eq_true rfl) (Nat.le_of_ble_eq_true rfl) ⟨(Nat.le_of_ble_eq_true rfl), (Nat.le_of_ble_eq_true rfl)⟩ dX1_addTuple_2 (xw_out o (hret.2 _ rfl) (Nat.le_of_ble_eq_true rfl) (Nat.le_of_ble_eq_true rfl))
theorem c_X1_addTuple (l : Launch) (hst : l.stackTraces = false) (a b c : Nat → Nat) (u v w : St) (p0 : Int32) (p1 : Int32) (t : (Int32 ⊕ String) × St) (hf : f_X1_addTuple u v w p0 p1 = some t) : CoI l yX1_addTuple (.code yX1_addTuple cX1_addTuple 4 (some .boolean)) 2 2 12 [.ref (a 0), .int p0, .int p1] (wX a u b v c w) (wX a u b t.2 c w) (t.1) := mkI hst (by decide +kernel) (Nat.le_of_ble_eq_true rfl) (fun x _ o hI hX => b_X1_addTuple o a b c u v w p0 p1 t hf ⟨hI, hX⟩)
def rt_X1_append (x : Cx) (a b c : Nat → Nat) (v w : St) (t : (Int32 ⊕ String) × St) : Prop := (∀ r, t.1 = .inl r → RetI x cX1_append .int 2 12 (wX a t.2 b v c w (cxT x)) r) ∧ ∀ E, t.1 = .inr E → RetX x 2 12 (wX a t.2 b v c w (cxT x)) E
set_option maxRecDepth 20000 in
set_option maxHeartbeats 2000000 in
theorem b_X1_append {x : Cx} (o : Ok x cX1_append 2 RX1 0 2 12) (a b c : Nat → Nat) (u v w : St) (p0 : Int32) (t : (Int32 ⊕ String) × St) (hf : f_X1_append u v w p0 = some t) (hret : rt_X1_append x a b c v w t) : G x 2 0 0 (wX a u b v c w (cxT x)) [(0, .ref (a 0)), (1, .int p0)] 0 [] := by
  unfold f_X1_append at hf
  refine g_iload_n o 1 rfl rfl dX1_append_0 ?_
  refine g_bipush o bp_32 dX1_append_1 ?_
  refine g_ic_lt (tgt := 12) o rfl dX1_append_3 hf (fun hc hf => ?_) (fun hc hf => ?_)
  · cases Option.some.inj hf
    exact g_throwS o (hret.2 _ rfl) fit_ia fit_re rfl m_241 m_60 st_247 at_63 go_63 dX1_append_12 dX1_append_15 dX1_append_16 dX1_append_18 dX1_append_21 (Nat.le_of_ble_eq_true rfl) (Nat.le_of_ble_eq_true rfl)
  · refine g_iload_n o 1 rfl rfl dX1_append_6 ?_
    refine g_bipush o bp_126 dX1_append_7 ?_
    refine g_ic_le (tgt := 22) o rfl dX1_append_9 hf (fun hc hf => ?_) (fun hc hf => ?_)
    · refine g_aload_n o 0 rfl rfl dX1_append_22 ?_
      refine X_get4 o m_116 dX1_append_23 ?_
      refine g_bipush o bp_60 dX1_append_26 ?_
      refine g_ic_lt (tgt := 41) o rfl dX1_append_28 hf (fun hc hf => ?_) (fun hc hf => ?_)
      · refine g_aload_n o 0 rfl rfl dX1_append_41 ?_
        refine X_get3 o m_115 dX1_append_42 ?_
        refine g_aload_n o 0 rfl rfl dX1_append_45 ?_
        refine X_get4 o m_116 dX1_append_46 ?_
        refine g_iload_n o 1 rfl rfl dX1_append_49 ?_
        refine X_st3 o dX1_append_50 hf (fun hf => ?_)
        refine g_aload_n o 0 rfl rfl dX1_append_51 ?_
        refine g_dup o rfl dX1_append_52 ?_
        refine X_get4 o m_116 dX1_append_53 ?_
        refine g_iconst o ic_1 dX1_append_56 ?_
        refine g_iadd o dX1_append_57 ?_
        refine X_put4 o m_116 dX1_append_58 ?_
        refine g_aload_n o 0 rfl rfl dX1_append_61 ?_
        refine X_get4 o m_116 dX1_append_62 ?_
        cases Option.some.inj hf
        exact g_iret (hret.1 _ rfl) (Nat.le_of_ble_eq_true rfl) (Nat.le_of_ble_eq_true rfl) (vp_nar_int _) dX1_append_65
      · cases Option.some.inj hf
        exact g_throwS o (hret.2 _ rfl) fit_is fit_re rfl m_319 m_61 st_249 at_188 go_188 dX1_append_31 dX1_append_34 dX1_append_35 dX1_append_37 dX1_append_40 (Nat.le_of_ble_eq_true rfl) (Nat.le_of_ble_eq_true rfl)
    · cases Option.some.inj hf
      exact g_throwS o (hret.2 _ rfl) fit_ia fit_re rfl m_241 m_60 st_247 at_63 go_63 dX1_append_12 dX1_append_15 dX1_append_16 dX1_append_18 dX1_append_21 (Nat.le_of_ble_eq_true rfl) (Nat.le_of_ble_eq_true rfl)
theorem c_X1_append (l : Launch) (hst : l.stackTraces = false) (a b c : Nat → Nat) (u v w : St) (p0 : Int32) (t : (Int32 ⊕ String) × St) (hf : f_X1_append u v w p0 = some t) : CoI l yX1_append (.code yX1_append cX1_append 2 (some .int)) 0 2 12 [.ref (a 0), .int p0] (wX a u b v c w) (wX a t.2 b v c w) (t.1) := mkI hst (by decide +kernel) (Nat.le_of_ble_eq_true rfl) (fun x _ o hI hX => b_X1_append o a b c u v w p0 t hf ⟨hI, hX⟩)
def rt_X1_apply (x : Cx) (a b c : Nat → Nat) (u v w : St) (t : (Int32 ⊕ String)) : Prop := (∀ r, t = .inl r → RetI x cX1_apply .int 5 30 (wX a u b v c w (cxT x)) r) ∧ ∀ E, t = .inr E → RetX x 5 30 (wX a u b v c w (cxT x)) E
set_option maxRecDepth 20000 in
set_option maxHeartbeats 2000000 in
theorem b_X1_apply {x : Cx} (o : Ok x cX1_apply 6 RX1 2 5 30) (a b c : Nat → Nat) (u v w : St) (p0 : Int32) (p1 : Int32) (p2 : Int32) (p3 : Int32) (p4 : Int32) (t : (Int32 ⊕ String)) (hf : f_X1_apply u v w p0 p1 p2 p3 p4 = some t) (hret : rt_X1_apply x a b c u v w t) : G x 6 0 0 (wX a u b v c w (cxT x)) [(0, .ref (a 0)), (1, .int p0), (2, .int p1), (3, .int p2), (4, .int p3), (5, .int p4)] 0 [] := by
  unfold f_X1_apply at hf
  refine g_iload_n o 1 rfl rfl dX1_apply_0 ?_
  refine g_iload_n o 2 rfl rfl dX1_apply_1 ?_
  rcases bz_some hf with ⟨r10, hr10, hf⟩ | ⟨E11, hr10, hf⟩
  · refine k_X1_requireOperation_n o hr10 m_478 (Nat.le_of_ble_eq_true rfl) (Nat.le_of_ble_eq_true rfl) ⟨(Nat.le_of_ble_eq_true rfl), (Nat.le_of_ble_eq_true rfl)⟩ dX1_apply_2 ?_
    refine g_iload_n o 3 rfl rfl dX1_apply_5 ?_
    rcases bz_some hf with ⟨r12, hr12, hf⟩ | ⟨E13, hr12, hf⟩
    · refine k_X1_requireBit_n o hr12 m_354 (Nat.le_of_ble_eq_true rfl) (Nat.le_of_ble_eq_true rfl) ⟨(Nat.le_of_ble_eq_true rfl), (Nat.le_of_ble_eq_true rfl)⟩ dX1_apply_6 ?_
      refine g_iload o 4 rfl dX1_apply_9 ?_
      rcases bz_some hf with ⟨r14, hr14, hf⟩ | ⟨E15, hr14, hf⟩
      · refine k_X1_requireBit_n o hr14 m_354 (Nat.le_of_ble_eq_true rfl) (Nat.le_of_ble_eq_true rfl) ⟨(Nat.le_of_ble_eq_true rfl), (Nat.le_of_ble_eq_true rfl)⟩ dX1_apply_11 ?_
        refine g_iload o 5 rfl dX1_apply_14 ?_
        rcases bz_some hf with ⟨r16, hr16, hf⟩ | ⟨E17, hr16, hf⟩
        · refine k_X1_requireBit_n o hr16 m_354 (Nat.le_of_ble_eq_true rfl) (Nat.le_of_ble_eq_true rfl) ⟨(Nat.le_of_ble_eq_true rfl), (Nat.le_of_ble_eq_true rfl)⟩ dX1_apply_16 ?_
          refine g_iload_n o 1 rfl rfl dX1_apply_19 ?_
          refine g_iload_n o 2 rfl rfl dX1_apply_20 ?_
          refine g_iload_n o 3 rfl rfl dX1_apply_21 ?_
          refine g_iconst o ic_2 dX1_apply_22 ?_
          refine g_iload o 4 rfl dX1_apply_23 ?_
          refine g_imul o dX1_apply_25 ?_
          refine g_iadd o dX1_apply_26 ?_
          refine g_iconst o ic_4 dX1_apply_27 ?_
          refine g_iload o 5 rfl dX1_apply_28 ?_
          refine g_imul o dX1_apply_30 ?_
          refine g_iadd o dX1_apply_31 ?_
          obtain ⟨r18, hr18, hf⟩ := bd_some hf
          refine k_X1_valueFor_ o hr18 m_485 (Nat.le_of_ble_eq_true rfl) (Nat.le_of_ble_eq_true rfl) ⟨(Nat.le_of_ble_eq_true rfl), (Nat.le_of_ble_eq_true rfl)⟩ dX1_apply_32 ?_
          cases Option.some.inj hf
          exact g_iret (hret.1 _ rfl) (Nat.le_of_ble_eq_true rfl) (Nat.le_of_ble_eq_true rfl) (vp_nar_int _) dX1_apply_35
        · cases Option.some.inj hf
          exact k_X1_requireBit_x o hr16 m_354 (Nat.le_of_ble_eq_true rfl) (Nat.le_of_ble_eq_true rfl) ⟨(Nat.le_of_ble_eq_true rfl), (Nat.le_of_ble_eq_true rfl)⟩ dX1_apply_16 (xw_out o (hret.2 _ rfl) (Nat.le_of_ble_eq_true rfl) (Nat.le_of_ble_eq_true rfl))
      · cases Option.some.inj hf
        exact k_X1_requireBit_x o hr14 m_354 (Nat.le_of_ble_eq_true rfl) (Nat.le_of_ble_eq_true rfl) ⟨(Nat.le_of_ble_eq_true rfl), (Nat.le_of_ble_eq_true rfl)⟩ dX1_apply_11 (xw_out o (hret.2 _ rfl) (Nat.le_of_ble_eq_true rfl) (Nat.le_of_ble_eq_true rfl))
    · cases Option.some.inj hf
      exact k_X1_requireBit_x o hr12 m_354 (Nat.le_of_ble_eq_true rfl) (Nat.le_of_ble_eq_true rfl) ⟨(Nat.le_of_ble_eq_true rfl), (Nat.le_of_ble_eq_true rfl)⟩ dX1_apply_6 (xw_out o (hret.2 _ rfl) (Nat.le_of_ble_eq_true rfl) (Nat.le_of_ble_eq_true rfl))
  · cases Option.some.inj hf
    exact k_X1_requireOperation_x o hr10 m_478 (Nat.le_of_ble_eq_true rfl) (Nat.le_of_ble_eq_true rfl) ⟨(Nat.le_of_ble_eq_true rfl), (Nat.le_of_ble_eq_true rfl)⟩ dX1_apply_2 (xw_out o (hret.2 _ rfl) (Nat.le_of_ble_eq_true rfl) (Nat.le_of_ble_eq_true rfl))
theorem c_X1_apply (l : Launch) (hst : l.stackTraces = false) (a b c : Nat → Nat) (u v w : St) (p0 : Int32) (p1 : Int32) (p2 : Int32) (p3 : Int32) (p4 : Int32) (t : (Int32 ⊕ String)) (hf : f_X1_apply u v w p0 p1 p2 p3 p4 = some t) : CoI l yX1_apply (.code yX1_apply cX1_apply 6 (some .int)) 2 5 30 [.ref (a 0), .int p0, .int p1, .int p2, .int p3, .int p4] (wX a u b v c w) (wX a u b v c w) (t) := mkI hst (by decide +kernel) (Nat.le_of_ble_eq_true rfl) (fun x _ o hI hX => b_X1_apply o a b c u v w p0 p1 p2 p3 p4 t hf ⟨hI, hX⟩)
def rt_X1_areEqual (x : Cx) (a b c : Nat → Nat) (u v w : St) (t : (Int32 ⊕ String)) : Prop := (∀ r, t = .inl r → RetI x cX1_areEqual .boolean 2 12 (wX a u b v c w (cxT x)) r) ∧ ∀ E, t = .inr E → RetX x 2 12 (wX a u b v c w (cxT x)) E
set_option maxRecDepth 20000 in
set_option maxHeartbeats 2000000 in
theorem b_X1_areEqual {x : Cx} (o : Ok x cX1_areEqual 3 RX1 1 2 12) (a b c : Nat → Nat) (u v w : St) (p0 : Int32) (p1 : Int32) (t : (Int32 ⊕ String)) (hf : f_X1_areEqual u v w p0 p1 = some t) (hret : rt_X1_areEqual x a b c u v w t) : G x 3 0 0 (wX a u b v c w (cxT x)) [(0, .ref (a 0)), (1, .int p0), (2, .int p1)] 0 [] := by
  unfold f_X1_areEqual at hf
  refine g_aload_n o 0 rfl rfl dX1_areEqual_0 ?_
  refine g_iload_n o 1 rfl rfl dX1_areEqual_1 ?_
  rcases bz_some hf with ⟨r5, hr5, hf⟩ | ⟨E6, hr5, hf⟩
  · refine k_X1_requireRelation_n o hr5 m_369 (Nat.le_of_ble_eq_true rfl) (Nat.le_of_ble_eq_true rfl) ⟨(Nat.le_of_ble_eq_true rfl), (Nat.le_of_ble_eq_true rfl)⟩ dX1_areEqual_2 ?_
    refine g_aload_n o 0 rfl rfl dX1_areEqual_5 ?_
    refine g_iload_n o 2 rfl rfl dX1_areEqual_6 ?_
    rcases bz_some hf with ⟨r7, hr7, hf⟩ | ⟨E8, hr7, hf⟩
    · refine k_X1_requireRelation_n o hr7 m_369 (Nat.le_of_ble_eq_true rfl) (Nat.le_of_ble_eq_true rfl) ⟨(Nat.le_of_ble_eq_true rfl), (Nat.le_of_ble_eq_true rfl)⟩ dX1_areEqual_7 ?_
      refine g_aload_n o 0 rfl rfl dX1_areEqual_10 ?_
      refine X_get0 o m_112 dX1_areEqual_11 ?_
      refine Y_get1 o e_85 dX1_areEqual_14 ?_
      refine g_iload_n o 1 rfl rfl dX1_areEqual_17 ?_
      refine Y_ld1 o dX1_areEqual_18 hf (fun hf => ?_)
      refine g_aload_n o 0 rfl rfl dX1_areEqual_19 ?_
      refine X_get0 o m_112 dX1_areEqual_20 ?_
      refine Y_get1 o e_85 dX1_areEqual_23 ?_
      refine g_iload_n o 2 rfl rfl dX1_areEqual_26 ?_
      refine Y_ld1 o dX1_areEqual_27 hf (fun hf => ?_)
      refine g_ic_ne (tgt := 56) o rfl dX1_areEqual_28 hf (fun hc hf => ?_) (fun hc hf => ?_)
      · refine g_iconst o ic_0 dX1_areEqual_56 ?_
        cases Option.some.inj hf
        exact g_iret (hret.1 _ rfl) (Nat.le_of_ble_eq_true rfl) (Nat.le_of_ble_eq_true rfl) nb_0 dX1_areEqual_57
      · refine g_aload_n o 0 rfl rfl dX1_areEqual_31 ?_
        refine X_get0 o m_112 dX1_areEqual_32 ?_
        refine Y_get2 o e_87 dX1_areEqual_35 ?_
        refine g_iload_n o 1 rfl rfl dX1_areEqual_38 ?_
        refine Y_ld2 o dX1_areEqual_39 hf (fun hf => ?_)
        refine g_aload_n o 0 rfl rfl dX1_areEqual_40 ?_
        refine X_get0 o m_112 dX1_areEqual_41 ?_
        refine Y_get2 o e_87 dX1_areEqual_44 ?_
        refine g_iload_n o 2 rfl rfl dX1_areEqual_47 ?_
        refine Y_ld2 o dX1_areEqual_48 hf (fun hf => ?_)
        refine g_ic_ne (tgt := 56) o rfl dX1_areEqual_49 hf (fun hc hf => ?_) (fun hc hf => ?_)
        · refine g_iconst o ic_0 dX1_areEqual_56 ?_
          cases Option.some.inj hf
          exact g_iret (hret.1 _ rfl) (Nat.le_of_ble_eq_true rfl) (Nat.le_of_ble_eq_true rfl) nb_0 dX1_areEqual_57
        · refine g_iconst o ic_1 dX1_areEqual_52 ?_
          refine g_goto (tgt := 57) o rfl dX1_areEqual_53 ?_
          cases Option.some.inj hf
          exact g_iret (hret.1 _ rfl) (Nat.le_of_ble_eq_true rfl) (Nat.le_of_ble_eq_true rfl) nb_1 dX1_areEqual_57
    · cases Option.some.inj hf
      exact k_X1_requireRelation_x o hr7 m_369 (Nat.le_of_ble_eq_true rfl) (Nat.le_of_ble_eq_true rfl) ⟨(Nat.le_of_ble_eq_true rfl), (Nat.le_of_ble_eq_true rfl)⟩ dX1_areEqual_7 (xw_out o (hret.2 _ rfl) (Nat.le_of_ble_eq_true rfl) (Nat.le_of_ble_eq_true rfl))
  · cases Option.some.inj hf
    exact k_X1_requireRelation_x o hr5 m_369 (Nat.le_of_ble_eq_true rfl) (Nat.le_of_ble_eq_true rfl) ⟨(Nat.le_of_ble_eq_true rfl), (Nat.le_of_ble_eq_true rfl)⟩ dX1_areEqual_2 (xw_out o (hret.2 _ rfl) (Nat.le_of_ble_eq_true rfl) (Nat.le_of_ble_eq_true rfl))
theorem c_X1_areEqual (l : Launch) (hst : l.stackTraces = false) (a b c : Nat → Nat) (u v w : St) (p0 : Int32) (p1 : Int32) (t : (Int32 ⊕ String)) (hf : f_X1_areEqual u v w p0 p1 = some t) : CoI l yX1_areEqual (.code yX1_areEqual cX1_areEqual 3 (some .boolean)) 1 2 12 [.ref (a 0), .int p0, .int p1] (wX a u b v c w) (wX a u b v c w) (t) := mkI hst (by decide +kernel) (Nat.le_of_ble_eq_true rfl) (fun x _ o hI hX => b_X1_areEqual o a b c u v w p0 p1 t hf ⟨hI, hX⟩)
def rt_X1_arity (x : Cx) (a b c : Nat → Nat) (u v w : St) (t : (Int32 ⊕ String)) : Prop := (∀ r, t = .inl r → RetI x cX1_arity .int 1 6 (wX a u b v c w (cxT x)) r) ∧ ∀ E, t = .inr E → RetX x 1 6 (wX a u b v c w (cxT x)) E
set_option maxRecDepth 20000 in
set_option maxHeartbeats 2000000 in
theorem b_X1_arity {x : Cx} (o : Ok x cX1_arity 2 RX1 1 1 6) (a b c : Nat → Nat) (u v w : St) (p0 : Int32) (t : (Int32 ⊕ String)) (hf : f_X1_arity u v w p0 = some t) (hret : rt_X1_arity x a b c u v w t) : G x 2 0 0 (wX a u b v c w (cxT x)) [(0, .ref (a 0)), (1, .int p0)] 0 [] := by
  unfold f_X1_arity at hf
  refine g_aload_n o 0 rfl rfl dX1_arity_0 ?_
  refine g_iload_n o 1 rfl rfl dX1_arity_1 ?_
  rcases bz_some hf with ⟨r3, hr3, hf⟩ | ⟨E4, hr3, hf⟩
  · refine k_X1_requireRelation_n o hr3 m_369 (Nat.le_of_ble_eq_true rfl) (Nat.le_of_ble_eq_true rfl) ⟨(Nat.le_of_ble_eq_true rfl), (Nat.le_of_ble_eq_true rfl)⟩ dX1_arity_2 ?_
    refine g_aload_n o 0 rfl rfl dX1_arity_5 ?_
    refine X_get0 o m_112 dX1_arity_6 ?_
    refine Y_get1 o e_85 dX1_arity_9 ?_
    refine g_iload_n o 1 rfl rfl dX1_arity_12 ?_
    refine Y_ld1 o dX1_arity_13 hf (fun hf => ?_)
    cases Option.some.inj hf
    exact g_iret (hret.1 _ rfl) (Nat.le_of_ble_eq_true rfl) (Nat.le_of_ble_eq_true rfl) (vp_nar_int _) dX1_arity_14
  · cases Option.some.inj hf
    exact k_X1_requireRelation_x o hr3 m_369 (Nat.le_of_ble_eq_true rfl) (Nat.le_of_ble_eq_true rfl) ⟨(Nat.le_of_ble_eq_true rfl), (Nat.le_of_ble_eq_true rfl)⟩ dX1_arity_2 (xw_out o (hret.2 _ rfl) (Nat.le_of_ble_eq_true rfl) (Nat.le_of_ble_eq_true rfl))
theorem c_X1_arity (l : Launch) (hst : l.stackTraces = false) (a b c : Nat → Nat) (u v w : St) (p0 : Int32) (t : (Int32 ⊕ String)) (hf : f_X1_arity u v w p0 = some t) : CoI l yX1_arity (.code yX1_arity cX1_arity 2 (some .int)) 1 1 6 [.ref (a 0), .int p0] (wX a u b v c w) (wX a u b v c w) (t) := mkI hst (by decide +kernel) (Nat.le_of_ble_eq_true rfl) (fun x _ o hI hX => b_X1_arity o a b c u v w p0 t hf ⟨hI, hX⟩)
def rt_X1_close (x : Cx) (a b c : Nat → Nat) (u w : St) (t : (Int32 ⊕ String) × St) : Prop := (∀ r, t.1 = .inl r → RetI x cX1_close .int 3 18 (wX a u b t.2 c w (cxT x)) r) ∧ ∀ E, t.1 = .inr E → RetX x 3 18 (wX a u b t.2 c w (cxT x)) E
set_option maxRecDepth 20000 in
set_option maxHeartbeats 2000000 in
theorem b_X1_close_L46 {x : Cx} (o : Ok x cX1_close 8 RX1 2 3 18) {k n : Nat} (hk : k ≤ 3) (hn : n ≤ 18) (a b c : Nat → Nat) (u : St) (v : St) (w : St) (c1 : Int32) (c2 : Int32) (c3 : Int32) (c4 : Int32) (r : (Int32 × Int32 × Int32) ⊕ ((Int32 ⊕ String) × St)) (hX : ∀ s : Int32 × Int32 × Int32, r = .inl s → G x 8 k n (wX a u b v c w (cxT x)) [(0, .ref (a 0)), (1, .int c1), (5, .int s.1)] 82 []) (hR : ∀ t, r = .inr t → rt_X1_close x a b c u w t) : ∀ (m : Nat) (s : Int32 × Int32 × Int32), loopN (f_X1_close_s46 u v w c1 c2 c3 c4) m s = some r → G x 8 k n (wX a u b v c w (cxT x)) [(0, .ref (a 0)), (1, .int c1), (2, .int c2), (3, .int c3), (4, .int c4), (5, .int s.1), (6, .int s.2.1), (7, .int s.2.2)] 46 [] := by
  refine loop_W _ (fun (s : Int32 × Int32 × Int32) => G x 8 k n (wX a u b v c w (cxT x)) [(0, .ref (a 0)), (1, .int c1), (2, .int c2), (3, .int c3), (4, .int c4), (5, .int s.1), (6, .int s.2.1), (7, .int s.2.2)] 46 []) r ?_
  intro s ww hf hw
  unfold f_X1_close_s46 at hf
  obtain ⟨s_0, s_1, s_2⟩ := s
  try dsimp -simprocs only at hf ⊢
  refine g_iload o 7 rfl dX1_close_46 ?_
  refine g_bipush o bp_16 dX1_close_48 ?_
  refine g_ic_ge (tgt := 82) o rfl dX1_close_50 hf (fun hc hf => ?_) (fun hc hf => ?_)
  · exact g_perm [0, 1, 5] rfl (hX _ (lf_x hf hw))
  · refine g_iload o 6 rfl dX1_close_53 ?_
    refine g_if_eq (tgt := 82) o rfl dX1_close_55 hf (fun hc hf => ?_) (fun hc hf => ?_)
    · exact g_perm [0, 1, 5] rfl (hX _ (lf_x hf hw))
    · refine g_iload o 5 rfl dX1_close_58 ?_
      refine g_iload o 6 rfl dX1_close_60 ?_
      refine g_ior o dX1_close_62 ?_
      refine g_nmi hf (fun x10 hf => ?_)
      refine g_istore o [(5, .int x10), (0, .ref (a 0)), (1, .int c1), (2, .int c2), (3, .int c3), (4, .int c4), (6, .int s_1), (7, .int s_2)] (Nat.le_of_ble_eq_true rfl) rfl dX1_close_63 ?_
      refine g_iload o 0 rfl dX1_close_65 ?_
      refine g_iload o 5 rfl dX1_close_67 ?_
      refine g_iload_n o 3 rfl rfl dX1_close_69 ?_
      refine g_iload_n o 4 rfl rfl dX1_close_70 ?_
      obtain ⟨r11, hr11, hf⟩ := bd_some hf
      refine k_X1_escapingTuples_ o hr11 m_499 (Nat.le_of_ble_eq_true rfl) (Nat.le_of_ble_eq_true rfl) ⟨hk, hn⟩ dX1_close_71 ?_
      refine g_istore o [(6, .int r11), (5, .int x10), (0, .ref (a 0)), (1, .int c1), (2, .int c2), (3, .int c3), (4, .int c4), (7, .int s_2)] (Nat.le_of_ble_eq_true rfl) rfl dX1_close_74 ?_
      refine g_iinc o [(7, .int (s_2 + 1)), (6, .int r11), (5, .int x10), (0, .ref (a 0)), (1, .int c1), (2, .int c2), (3, .int c3), (4, .int c4)] 7 rfl (inc_1 _) (Nat.le_of_ble_eq_true rfl) rfl dX1_close_76 ?_
      refine g_goto (tgt := 46) o rfl dX1_close_79 ?_
      have hp := lf_c hf hw
      exact g_perm [3, 4, 5, 6, 7, 2, 1, 0] rfl hp
set_option maxRecDepth 20000 in
set_option maxHeartbeats 2000000 in
theorem b_X1_close {x : Cx} (o : Ok x cX1_close 8 RX1 2 3 18) (a b c : Nat → Nat) (u v w : St) (p0 : Int32) (p1 : Int32) (p2 : Int32) (t : (Int32 ⊕ String) × St) (hf : f_X1_close u v w p0 p1 p2 = some t) (hret : rt_X1_close x a b c u w t) : G x 8 0 0 (wX a u b v c w (cxT x)) [(0, .ref (a 0)), (1, .int p0), (2, .int p1), (3, .int p2)] 0 [] := by
  unfold f_X1_close at hf
  refine g_aload_n o 0 rfl rfl dX1_close_0 ?_
  refine g_iload_n o 1 rfl rfl dX1_close_1 ?_
  rcases bz_some hf with ⟨r15, hr15, hf⟩ | ⟨E16, hr15, hf⟩
  · refine k_X1_requireRelation_n o hr15 m_369 (Nat.le_of_ble_eq_true rfl) (Nat.le_of_ble_eq_true rfl) ⟨(Nat.le_of_ble_eq_true rfl), (Nat.le_of_ble_eq_true rfl)⟩ dX1_close_2 ?_
    refine g_iload_n o 2 rfl rfl dX1_close_5 ?_
    refine g_iload_n o 3 rfl rfl dX1_close_6 ?_
    rcases bz_some hf with ⟨r17, hr17, hf⟩ | ⟨E18, hr17, hf⟩
    · refine k_X1_requireOperation_n o hr17 m_478 (Nat.le_of_ble_eq_true rfl) (Nat.le_of_ble_eq_true rfl) ⟨(Nat.le_of_ble_eq_true rfl), (Nat.le_of_ble_eq_true rfl)⟩ dX1_close_7 ?_
      refine g_aload_n o 0 rfl rfl dX1_close_10 ?_
      refine X_get0 o m_112 dX1_close_11 ?_
      refine Y_get1 o e_85 dX1_close_14 ?_
      refine g_iload_n o 1 rfl rfl dX1_close_17 ?_
      refine Y_ld1 o dX1_close_18 hf (fun hf => ?_)
      refine g_nmi hf (fun x19 hf => ?_)
      refine g_istore o [(4, .int x19), (0, .ref (a 0)), (1, .int p0), (2, .int p1), (3, .int p2)] (Nat.le_of_ble_eq_true rfl) rfl dX1_close_19 ?_
      refine g_aload_n o 1 rfl rfl dX1_close_21 ?_
      refine X_get0 o m_112 dX1_close_22 ?_
      refine Y_get2 o e_87 dX1_close_25 ?_
      refine g_iload_n o 2 rfl rfl dX1_close_28 ?_
      refine Y_ld2 o dX1_close_29 hf (fun hf => ?_)
      refine g_nmi hf (fun x20 hf => ?_)
      refine g_istore o [(5, .int x20), (4, .int x19), (0, .ref (a 0)), (1, .int p0), (2, .int p1), (3, .int p2)] (Nat.le_of_ble_eq_true rfl) rfl dX1_close_30 ?_
      refine g_iload o 0 rfl dX1_close_32 ?_
      refine g_iload o 1 rfl dX1_close_34 ?_
      refine g_iload_n o 4 rfl rfl dX1_close_36 ?_
      refine g_iload_n o 5 rfl rfl dX1_close_37 ?_
      obtain ⟨r21, hr21, hf⟩ := bd_some hf
      refine k_X1_escapingTuples_ o hr21 m_499 (Nat.le_of_ble_eq_true rfl) (Nat.le_of_ble_eq_true rfl) ⟨(Nat.le_of_ble_eq_true rfl), (Nat.le_of_ble_eq_true rfl)⟩ dX1_close_38 ?_
      refine g_istore o [(6, .int r21), (5, .int x20), (4, .int x19), (0, .ref (a 0)), (1, .int p0), (2, .int p1), (3, .int p2)] (Nat.le_of_ble_eq_true rfl) rfl dX1_close_41 ?_
      refine g_iconst o ic_0 dX1_close_43 ?_
      refine g_istore o [(7, .int 0), (6, .int r21), (5, .int x20), (4, .int x19), (0, .ref (a 0)), (1, .int p0), (2, .int p1), (3, .int p2)] (Nat.le_of_ble_eq_true rfl) rfl dX1_close_44 ?_
      obtain ⟨r23, hr23, hxr23, hrr23⟩ := bl_some hf
      refine g_perm [4, 5, 6, 7, 3, 2, 1, 0] rfl (b_X1_close_L46 o (Nat.le_of_ble_eq_true rfl) (Nat.le_of_ble_eq_true rfl) a b c u v w p0 p1 p2 x19 r23 (fun s46 hs => ?_) (fun t22 ht => ?_) FU (x20, r21, 0) hr23)
      · have hf := hxr23 s46 hs
        obtain ⟨s46_0, s46_1, s46_2⟩ := s46
        try dsimp -simprocs only at hf ⊢
        refine g_aload_n o 0 rfl rfl dX1_close_82 ?_
        refine X_get0 o m_112 dX1_close_83 ?_
        refine Y_get2 o e_87 dX1_close_86 ?_
        refine g_iload_n o 1 rfl rfl dX1_close_89 ?_
        refine g_iload o 2 rfl dX1_close_90 ?_
        refine Y_st2 o dX1_close_92 hf (fun hf => ?_)
        refine g_iload o 2 rfl dX1_close_93 ?_
        obtain ⟨r24, hr24, hf⟩ := bd_some hf
        refine k_J6_bitCount_0f7a4_ o hr24 m_212 (Nat.le_of_ble_eq_true rfl) (Nat.le_of_ble_eq_true rfl) ⟨(Nat.le_of_ble_eq_true rfl), (Nat.le_of_ble_eq_true rfl)⟩ dX1_close_95 ?_
        cases Option.some.inj hf
        exact g_iret (hret.1 _ rfl) (Nat.le_of_ble_eq_true rfl) (Nat.le_of_ble_eq_true rfl) (vp_nar_int _) dX1_close_98
      · have hf := hrr23 t22 ht
        cases Option.some.inj hf
        exact hret
    · cases Option.some.inj hf
      exact k_X1_requireOperation_x o hr17 m_478 (Nat.le_of_ble_eq_true rfl) (Nat.le_of_ble_eq_true rfl) ⟨(Nat.le_of_ble_eq_true rfl), (Nat.le_of_ble_eq_true rfl)⟩ dX1_close_7 (xw_out o (hret.2 _ rfl) (Nat.le_of_ble_eq_true rfl) (Nat.le_of_ble_eq_true rfl))
  · cases Option.some.inj hf
    exact k_X1_requireRelation_x o hr15 m_369 (Nat.le_of_ble_eq_true rfl) (Nat.le_of_ble_eq_true rfl) ⟨(Nat.le_of_ble_eq_true rfl), (Nat.le_of_ble_eq_true rfl)⟩ dX1_close_2 (xw_out o (hret.2 _ rfl) (Nat.le_of_ble_eq_true rfl) (Nat.le_of_ble_eq_true rfl))
theorem c_X1_close (l : Launch) (hst : l.stackTraces = false) (a b c : Nat → Nat) (u v w : St) (p0 : Int32) (p1 : Int32) (p2 : Int32) (t : (Int32 ⊕ String) × St) (hf : f_X1_close u v w p0 p1 p2 = some t) : CoI l yX1_close (.code yX1_close cX1_close 8 (some .int)) 2 3 18 [.ref (a 0), .int p0, .int p1, .int p2] (wX a u b v c w) (wX a u b t.2 c w) (t.1) := mkI hst (by decide +kernel) (Nat.le_of_ble_eq_true rfl) (fun x _ o hI hX => b_X1_close o a b c u v w p0 p1 p2 t hf ⟨hI, hX⟩)
def rt_X1_compose (x : Cx) (a b c : Nat → Nat) (u v w : St) (t : (Int32 ⊕ String)) : Prop := (∀ r, t = .inl r → RetI x cX1_compose .int 3 18 (wX a u b v c w (cxT x)) r) ∧ ∀ E, t = .inr E → RetX x 3 18 (wX a u b v c w (cxT x)) E
set_option maxRecDepth 20000 in
set_option maxHeartbeats 2000000 in
theorem b_X1_compose_L33 {x : Cx} (o : Ok x cX1_compose 9 RX1 2 3 18) {k n : Nat} (hk : k ≤ 3) (hn : n ≤ 18) (a b c : Nat → Nat) (u : St) (v : St) (w : St) (c1 : Int32) (c2 : Int32) (c3 : Int32) (r : (Int32 × Int32) ⊕ ((Int32 ⊕ String))) (hX : ∀ s : Int32 × Int32, r = .inl s → G x 9 k n (wX a u b v c w (cxT x)) [(4, .int s.1)] 119 []) (hR : ∀ t, r = .inr t → rt_X1_compose x a b c u v w t) : ∀ (m : Nat) (s : Int32 × Int32), loopN (f_X1_compose_s33 u v w c1 c2 c3) m s = some r → G x 9 k n (wX a u b v c w (cxT x)) [(1, .int c1), (2, .int c2), (3, .int c3), (4, .int s.1), (5, .int s.2)] 33 [] := by
  refine loop_W _ (fun (s : Int32 × Int32) => G x 9 k n (wX a u b v c w (cxT x)) [(1, .int c1), (2, .int c2), (3, .int c3), (4, .int s.1), (5, .int s.2)] 33 []) r ?_
  intro s ww hf hw
  unfold f_X1_compose_s33 at hf
  obtain ⟨s_0, s_1⟩ := s
  try dsimp -simprocs only at hf ⊢
  refine g_iload o 4 rfl dX1_compose_33 ?_
  refine g_iconst o ic_2 dX1_compose_35 ?_
  obtain ⟨r13, hr13, hf⟩ := bd_some hf
  refine k_X1_greatestTuple_ o hr13 m_342 (Nat.le_of_ble_eq_true rfl) (Nat.le_of_ble_eq_true rfl) ⟨hk, hn⟩ dX1_compose_36 ?_
  refine g_ic_gt (tgt := 119) o rfl dX1_compose_39 hf (fun hc hf => ?_) (fun hc hf => ?_)
  · exact g_perm [3] rfl (hX _ (lf_x hf hw))
  · refine g_iload o 4 rfl dX1_compose_42 ?_
    refine g_iconst o ic_1 dX1_compose_44 ?_
    refine g_iand o dX1_compose_45 ?_
    refine g_nmi hf (fun x14 hf => ?_)
    refine g_istore o [(6, .int x14), (1, .int c1), (2, .int c2), (3, .int c3), (4, .int s_0), (5, .int s_1)] (Nat.le_of_ble_eq_true rfl) rfl dX1_compose_46 ?_
    refine g_iload o 5 rfl dX1_compose_48 ?_
    refine g_iconst o ic_1 dX1_compose_50 ?_
    refine g_iushr o dX1_compose_51 ?_
    refine g_nmi hf (fun x15 hf => ?_)
    refine g_istore o [(7, .int x15), (6, .int x14), (1, .int c1), (2, .int c2), (3, .int c3), (4, .int s_0), (5, .int s_1)] (Nat.le_of_ble_eq_true rfl) rfl dX1_compose_52 ?_
    refine g_iconst o ic_2 dX1_compose_54 ?_
    refine g_iload_n o 4 rfl rfl dX1_compose_55 ?_
    refine g_iload o 1 rfl dX1_compose_56 ?_
    refine g_iconst o ic_2 dX1_compose_58 ?_
    refine g_iload o 0 rfl dX1_compose_59 ?_
    refine g_imul o dX1_compose_61 ?_
    refine g_iadd o dX1_compose_62 ?_
    obtain ⟨r16, hr16, hf⟩ := bd_some hf
    refine k_X1_valueFor_ o hr16 m_485 (Nat.le_of_ble_eq_true rfl) (Nat.le_of_ble_eq_true rfl) ⟨hk, hn⟩ dX1_compose_63 ?_
    refine g_iconst o ic_2 dX1_compose_66 ?_
    refine g_iconst o ic_2 dX1_compose_67 ?_
    refine g_iload_n o 4 rfl rfl dX1_compose_68 ?_
    refine g_iload o 0 rfl dX1_compose_69 ?_
    refine g_iconst o ic_2 dX1_compose_71 ?_
    refine g_iload o 1 rfl dX1_compose_72 ?_
    refine g_imul o dX1_compose_74 ?_
    refine g_iadd o dX1_compose_75 ?_
    obtain ⟨r17, hr17, hf⟩ := bd_some hf
    refine k_X1_valueFor_ o hr17 m_485 (Nat.le_of_ble_eq_true rfl) (Nat.le_of_ble_eq_true rfl) ⟨hk, hn⟩ dX1_compose_76 ?_
    refine g_imul o dX1_compose_79 ?_
    refine g_iadd o dX1_compose_80 ?_
    refine g_iconst o ic_4 dX1_compose_81 ?_
    refine g_iconst o ic_2 dX1_compose_82 ?_
    refine g_iload_n o 4 rfl rfl dX1_compose_83 ?_
    refine g_iload o 1 rfl dX1_compose_84 ?_
    refine g_iconst o ic_2 dX1_compose_86 ?_
    refine g_iload o 1 rfl dX1_compose_87 ?_
    refine g_imul o dX1_compose_89 ?_
    refine g_iadd o dX1_compose_90 ?_
    obtain ⟨r18, hr18, hf⟩ := bd_some hf
    refine k_X1_valueFor_ o hr18 m_485 (Nat.le_of_ble_eq_true rfl) (Nat.le_of_ble_eq_true rfl) ⟨hk, hn⟩ dX1_compose_91 ?_
    refine g_imul o dX1_compose_94 ?_
    refine g_iadd o dX1_compose_95 ?_
    refine g_nmi hf (fun x19 hf => ?_)
    refine g_istore o [(8, .int x19), (7, .int x15), (6, .int x14), (1, .int c1), (2, .int c2), (3, .int c3), (4, .int s_0), (5, .int s_1)] (Nat.le_of_ble_eq_true rfl) rfl dX1_compose_96 ?_
    refine g_iload o 6 rfl dX1_compose_98 ?_
    refine g_iload_n o 3 rfl rfl dX1_compose_100 ?_
    refine g_iload_n o 4 rfl rfl dX1_compose_101 ?_
    refine g_iload o 0 rfl dX1_compose_102 ?_
    obtain ⟨r20, hr20, hf⟩ := bd_some hf
    refine k_X1_valueFor_ o hr20 m_485 (Nat.le_of_ble_eq_true rfl) (Nat.le_of_ble_eq_true rfl) ⟨hk, hn⟩ dX1_compose_104 ?_
    refine g_iload o 7 rfl dX1_compose_107 ?_
    refine g_ishl o dX1_compose_109 ?_
    refine g_ior o dX1_compose_110 ?_
    refine g_nmi hf (fun x21 hf => ?_)
    refine g_istore o [(4, .int x21), (8, .int x19), (7, .int x15), (6, .int x14), (1, .int c1), (2, .int c2), (3, .int c3), (5, .int s_1)] (Nat.le_of_ble_eq_true rfl) rfl dX1_compose_111 ?_
    refine g_iinc o [(5, .int (s_1 + 1)), (4, .int x21), (8, .int x19), (7, .int x15), (6, .int x14), (1, .int c1), (2, .int c2), (3, .int c3)] 7 rfl (inc_1 _) (Nat.le_of_ble_eq_true rfl) rfl dX1_compose_113 ?_
    refine g_goto (tgt := 33) o rfl dX1_compose_116 ?_
    have hp := lf_c hf hw
    exact g_perm [5, 6, 7, 1, 0] rfl hp
set_option maxRecDepth 20000 in
set_option maxHeartbeats 2000000 in
theorem b_X1_compose {x : Cx} (o : Ok x cX1_compose 9 RX1 2 3 18) (a b c : Nat → Nat) (u v w : St) (p0 : Int32) (p1 : Int32) (p2 : Int32) (t : (Int32 ⊕ String)) (hf : f_X1_compose u v w p0 p1 p2 = some t) (hret : rt_X1_compose x a b c u v w t) : G x 9 0 0 (wX a u b v c w (cxT x)) [(0, .ref (a 0)), (1, .int p0), (2, .int p1), (3, .int p2)] 0 [] := by
  unfold f_X1_compose at hf
  refine g_iload_n o 1 rfl rfl dX1_compose_0 ?_
  refine g_iload_n o 2 rfl rfl dX1_compose_1 ?_
  rcases bz_some hf with ⟨r24, hr24, hf⟩ | ⟨E25, hr24, hf⟩
  · refine k_X1_requireOperation_n o hr24 m_478 (Nat.le_of_ble_eq_true rfl) (Nat.le_of_ble_eq_true rfl) ⟨(Nat.le_of_ble_eq_true rfl), (Nat.le_of_ble_eq_true rfl)⟩ dX1_compose_2 ?_
    refine g_iload_n o 3 rfl rfl dX1_compose_5 ?_
    refine g_if_lt (tgt := 17) o rfl dX1_compose_6 hf (fun hc hf => ?_) (fun hc hf => ?_)
    · cases Option.some.inj hf
      exact g_throwS o (hret.2 _ rfl) fit_ia fit_re rfl m_241 m_60 st_158 at_63 go_63 dX1_compose_17 dX1_compose_20 dX1_compose_21 dX1_compose_23 dX1_compose_26 (Nat.le_of_ble_eq_true rfl) (Nat.le_of_ble_eq_true rfl)
    · refine g_iload_n o 3 rfl rfl dX1_compose_9 ?_
      refine g_iconst o ic_2 dX1_compose_10 ?_
      obtain ⟨r26, hr26, hf⟩ := bd_some hf
      refine k_X1_allTuples_ o hr26 m_346 (Nat.le_of_ble_eq_true rfl) (Nat.le_of_ble_eq_true rfl) ⟨(Nat.le_of_ble_eq_true rfl), (Nat.le_of_ble_eq_true rfl)⟩ dX1_compose_11 ?_
      refine g_ic_le (tgt := 27) o rfl dX1_compose_14 hf (fun hc hf => ?_) (fun hc hf => ?_)
      · refine g_iconst o ic_0 dX1_compose_27 ?_
        refine g_istore o [(4, .int 0), (0, .ref (a 0)), (1, .int p0), (2, .int p1), (3, .int p2)] (Nat.le_of_ble_eq_true rfl) rfl dX1_compose_28 ?_
        refine g_iconst o ic_0 dX1_compose_30 ?_
        refine g_istore o [(5, .int 0), (4, .int 0), (0, .ref (a 0)), (1, .int p0), (2, .int p1), (3, .int p2)] (Nat.le_of_ble_eq_true rfl) rfl dX1_compose_31 ?_
        obtain ⟨r28, hr28, hxr28, hrr28⟩ := bl_some hf
        refine g_perm [3, 4, 5, 1, 0] rfl (b_X1_compose_L33 o (Nat.le_of_ble_eq_true rfl) (Nat.le_of_ble_eq_true rfl) a b c u v w p0 p1 p2 r28 (fun s33 hs => ?_) (fun t27 ht => ?_) FU (0, 0) hr28)
        · have hf := hxr28 s33 hs
          obtain ⟨s33_0, s33_1⟩ := s33
          try dsimp -simprocs only at hf ⊢
          refine g_iload o 0 rfl dX1_compose_119 ?_
          cases Option.some.inj hf
          exact g_iret (hret.1 _ rfl) (Nat.le_of_ble_eq_true rfl) (Nat.le_of_ble_eq_true rfl) (vp_nar_int _) dX1_compose_121
        · have hf := hrr28 t27 ht
          cases Option.some.inj hf
          exact hret
      · cases Option.some.inj hf
        exact g_throwS o (hret.2 _ rfl) fit_ia fit_re rfl m_241 m_60 st_158 at_63 go_63 dX1_compose_17 dX1_compose_20 dX1_compose_21 dX1_compose_23 dX1_compose_26 (Nat.le_of_ble_eq_true rfl) (Nat.le_of_ble_eq_true rfl)
  · cases Option.some.inj hf
    exact k_X1_requireOperation_x o hr24 m_478 (Nat.le_of_ble_eq_true rfl) (Nat.le_of_ble_eq_true rfl) ⟨(Nat.le_of_ble_eq_true rfl), (Nat.le_of_ble_eq_true rfl)⟩ dX1_compose_2 (xw_out o (hret.2 _ rfl) (Nat.le_of_ble_eq_true rfl) (Nat.le_of_ble_eq_true rfl))
theorem c_X1_compose (l : Launch) (hst : l.stackTraces = false) (a b c : Nat → Nat) (u v w : St) (p0 : Int32) (p1 : Int32) (p2 : Int32) (t : (Int32 ⊕ String)) (hf : f_X1_compose u v w p0 p1 p2 = some t) : CoI l yX1_compose (.code yX1_compose cX1_compose 9 (some .int)) 2 3 18 [.ref (a 0), .int p0, .int p1, .int p2] (wX a u b v c w) (wX a u b v c w) (t) := mkI hst (by decide +kernel) (Nat.le_of_ble_eq_true rfl) (fun x _ o hI hX => b_X1_compose o a b c u v w p0 p1 p2 t hf ⟨hI, hX⟩)
def rt_X1_contains (x : Cx) (a b c : Nat → Nat) (u v w : St) (t : (Int32 ⊕ String)) : Prop := (∀ r, t = .inl r → RetI x cX1_contains .boolean 2 12 (wX a u b v c w (cxT x)) r) ∧ ∀ E, t = .inr E → RetX x 2 12 (wX a u b v c w (cxT x)) E
set_option maxRecDepth 20000 in
set_option maxHeartbeats 2000000 in
theorem b_X1_contains {x : Cx} (o : Ok x cX1_contains 3 RX1 2 2 12) (a b c : Nat → Nat) (u v w : St) (p0 : Int32) (p1 : Int32) (t : (Int32 ⊕ String)) (hf : f_X1_contains u v w p0 p1 = some t) (hret : rt_X1_contains x a b c u v w t) : G x 3 0 0 (wX a u b v c w (cxT x)) [(0, .ref (a 0)), (1, .int p0), (2, .int p1)] 0 [] := by
  unfold f_X1_contains at hf
  refine g_aload_n o 0 rfl rfl dX1_contains_0 ?_
  refine g_iload_n o 1 rfl rfl dX1_contains_1 ?_
  rcases bz_some hf with ⟨r6, hr6, hf⟩ | ⟨E7, hr6, hf⟩
  · refine k_X1_requireRelation_n o hr6 m_369 (Nat.le_of_ble_eq_true rfl) (Nat.le_of_ble_eq_true rfl) ⟨(Nat.le_of_ble_eq_true rfl), (Nat.le_of_ble_eq_true rfl)⟩ dX1_contains_2 ?_
    refine g_aload_n o 0 rfl rfl dX1_contains_5 ?_
    refine g_iload_n o 1 rfl rfl dX1_contains_6 ?_
    refine g_iload_n o 2 rfl rfl dX1_contains_7 ?_
    rcases bz_some hf with ⟨r8, hr8, hf⟩ | ⟨E9, hr8, hf⟩
    · refine k_X1_requireTuple_n o hr8 m_389 (Nat.le_of_ble_eq_true rfl) (Nat.le_of_ble_eq_true rfl) ⟨(Nat.le_of_ble_eq_true rfl), (Nat.le_of_ble_eq_true rfl)⟩ dX1_contains_8 ?_
      refine g_aload_n o 0 rfl rfl dX1_contains_11 ?_
      refine X_get0 o m_112 dX1_contains_12 ?_
      refine Y_get2 o e_87 dX1_contains_15 ?_
      refine g_iload_n o 1 rfl rfl dX1_contains_18 ?_
      refine Y_ld2 o dX1_contains_19 hf (fun hf => ?_)
      refine g_iload_n o 2 rfl rfl dX1_contains_20 ?_
      obtain ⟨r10, hr10, hf⟩ := bd_some hf
      refine k_X1_has_ o hr10 m_394 (Nat.le_of_ble_eq_true rfl) (Nat.le_of_ble_eq_true rfl) ⟨(Nat.le_of_ble_eq_true rfl), (Nat.le_of_ble_eq_true rfl)⟩ dX1_contains_21 ?_
      obtain ⟨hb, hf⟩ := gd_some hf
      cases Option.some.inj hf
      exact g_iret (hret.1 _ rfl) (Nat.le_of_ble_eq_true rfl) (Nat.le_of_ble_eq_true rfl) (okB_n hb) dX1_contains_24
    · cases Option.some.inj hf
      exact k_X1_requireTuple_x o hr8 m_389 (Nat.le_of_ble_eq_true rfl) (Nat.le_of_ble_eq_true rfl) ⟨(Nat.le_of_ble_eq_true rfl), (Nat.le_of_ble_eq_true rfl)⟩ dX1_contains_8 (xw_out o (hret.2 _ rfl) (Nat.le_of_ble_eq_true rfl) (Nat.le_of_ble_eq_true rfl))
  · cases Option.some.inj hf
    exact k_X1_requireRelation_x o hr6 m_369 (Nat.le_of_ble_eq_true rfl) (Nat.le_of_ble_eq_true rfl) ⟨(Nat.le_of_ble_eq_true rfl), (Nat.le_of_ble_eq_true rfl)⟩ dX1_contains_2 (xw_out o (hret.2 _ rfl) (Nat.le_of_ble_eq_true rfl) (Nat.le_of_ble_eq_true rfl))
theorem c_X1_contains (l : Launch) (hst : l.stackTraces = false) (a b c : Nat → Nat) (u v w : St) (p0 : Int32) (p1 : Int32) (t : (Int32 ⊕ String)) (hf : f_X1_contains u v w p0 p1 = some t) : CoI l yX1_contains (.code yX1_contains cX1_contains 3 (some .boolean)) 2 2 12 [.ref (a 0), .int p0, .int p1] (wX a u b v c w) (wX a u b v c w) (t) := mkI hst (by decide +kernel) (Nat.le_of_ble_eq_true rfl) (fun x _ o hI hX => b_X1_contains o a b c u v w p0 p1 t hf ⟨hI, hX⟩)
def rt_X1_define (x : Cx) (a b c : Nat → Nat) (u w : St) (t : (Int32 ⊕ String) × St) : Prop := (∀ r, t.1 = .inl r → RetI x cX1_define .int 6 36 (wX a u b t.2 c w (cxT x)) r) ∧ ∀ E, t.1 = .inr E → RetX x 6 36 (wX a u b t.2 c w (cxT x)) E
set_option maxRecDepth 20000 in
set_option maxHeartbeats 2000000 in
theorem b_X1_define {x : Cx} (o : Ok x cX1_define 6 RX1 14 6 36) (a b c : Nat → Nat) (u v w : St) (p0 : Int32) (p1 : Int32) (p2 : Int32) (p3 : Int32) (p4 : Int32) (t : (Int32 ⊕ String) × St) (hf : f_X1_define u v w p0 p1 p2 p3 p4 = some t) (hret : rt_X1_define x a b c u w t) : G x 6 0 0 (wX a u b v c w (cxT x)) [(0, .ref (a 0)), (1, .int p0), (2, .int p1), (3, .int p2), (4, .int p3), (5, .int p4)] 0 [] := by
  unfold f_X1_define at hf
  refine g_iload_n o 1 rfl rfl dX1_define_0 ?_
  rcases bz_some hf with ⟨r10, hr10, hf⟩ | ⟨E11, hr10, hf⟩
  · refine k_X1_requireRelationArity_n o hr10 m_238 (Nat.le_of_ble_eq_true rfl) (Nat.le_of_ble_eq_true rfl) ⟨(Nat.le_of_ble_eq_true rfl), (Nat.le_of_ble_eq_true rfl)⟩ dX1_define_1 ?_
    refine g_aload_n o 0 rfl rfl dX1_define_4 ?_
    refine g_iload_n o 1 rfl rfl dX1_define_5 ?_
    refine g_iload_n o 2 rfl rfl dX1_define_6 ?_
    refine g_iload_n o 3 rfl rfl dX1_define_7 ?_
    refine g_iload o 4 rfl dX1_define_8 ?_
    refine g_iload o 5 rfl dX1_define_10 ?_
    rcases bz_some hf with ⟨r12, hr12, hf⟩ | ⟨E13, hr12, hf⟩
    · refine k_X1_requireVariables_n o hr12 m_662 (Nat.le_of_ble_eq_true rfl) (Nat.le_of_ble_eq_true rfl) ⟨(Nat.le_of_ble_eq_true rfl), (Nat.le_of_ble_eq_true rfl)⟩ dX1_define_12 ?_
      refine g_aload_n o 0 rfl rfl dX1_define_15 ?_
      refine g_iload_n o 1 rfl rfl dX1_define_16 ?_
      refine g_aload_n o 0 rfl rfl dX1_define_17 ?_
      refine X_get0 o m_112 dX1_define_18 ?_
      refine g_iload_n o 1 rfl rfl dX1_define_21 ?_
      refine g_iload_n o 1 rfl rfl dX1_define_22 ?_
      refine g_iload_n o 2 rfl rfl dX1_define_23 ?_
      refine g_iload_n o 3 rfl rfl dX1_define_24 ?_
      refine g_iload o 4 rfl dX1_define_25 ?_
      refine g_iload o 5 rfl dX1_define_27 ?_
      obtain ⟨r14, hr14, hf⟩ := bd_some hf
      refine k_X1_packedVariables_ o hr14 m_672 (Nat.le_of_ble_eq_true rfl) (Nat.le_of_ble_eq_true rfl) ⟨(Nat.le_of_ble_eq_true rfl), (Nat.le_of_ble_eq_true rfl)⟩ dX1_define_29 ?_
      obtain ⟨r15, hr15, hf⟩ := bd_some hf
      refine k_X0_tuplesOfSolutions_NX o hr15 e_781 (Nat.le_of_ble_eq_true rfl) (Nat.le_of_ble_eq_true rfl) ⟨(Nat.le_of_ble_eq_true rfl), (Nat.le_of_ble_eq_true rfl)⟩ dX1_define_32 ?_
      rcases bx_some hf with ⟨r16, z18, hr16, hf⟩ | ⟨E17, z18, hr16, hf⟩
      · refine k_X1_addNew_n o hr16 m_311 (Nat.le_of_ble_eq_true rfl) (Nat.le_of_ble_eq_true rfl) ⟨(Nat.le_of_ble_eq_true rfl), (Nat.le_of_ble_eq_true rfl)⟩ dX1_define_35 ?_
        cases Option.some.inj hf
        exact g_iret (hret.1 _ rfl) (Nat.le_of_ble_eq_true rfl) (Nat.le_of_ble_eq_true rfl) (vp_nar_int _) dX1_define_38
      · cases Option.some.inj hf
        exact k_X1_addNew_x o hr16 m_311 (Nat.le_of_ble_eq_true rfl) (Nat.le_of_ble_eq_true rfl) ⟨(Nat.le_of_ble_eq_true rfl), (Nat.le_of_ble_eq_true rfl)⟩ dX1_define_35 (xw_out o (hret.2 _ rfl) (Nat.le_of_ble_eq_true rfl) (Nat.le_of_ble_eq_true rfl))
    · cases Option.some.inj hf
      exact k_X1_requireVariables_x o hr12 m_662 (Nat.le_of_ble_eq_true rfl) (Nat.le_of_ble_eq_true rfl) ⟨(Nat.le_of_ble_eq_true rfl), (Nat.le_of_ble_eq_true rfl)⟩ dX1_define_12 (xw_out o (hret.2 _ rfl) (Nat.le_of_ble_eq_true rfl) (Nat.le_of_ble_eq_true rfl))
  · cases Option.some.inj hf
    exact k_X1_requireRelationArity_x o hr10 m_238 (Nat.le_of_ble_eq_true rfl) (Nat.le_of_ble_eq_true rfl) ⟨(Nat.le_of_ble_eq_true rfl), (Nat.le_of_ble_eq_true rfl)⟩ dX1_define_1 (xw_out o (hret.2 _ rfl) (Nat.le_of_ble_eq_true rfl) (Nat.le_of_ble_eq_true rfl))
theorem c_X1_define (l : Launch) (hst : l.stackTraces = false) (a b c : Nat → Nat) (u v w : St) (p0 : Int32) (p1 : Int32) (p2 : Int32) (p3 : Int32) (p4 : Int32) (t : (Int32 ⊕ String) × St) (hf : f_X1_define u v w p0 p1 p2 p3 p4 = some t) : CoI l yX1_define (.code yX1_define cX1_define 6 (some .int)) 14 6 36 [.ref (a 0), .int p0, .int p1, .int p2, .int p3, .int p4] (wX a u b v c w) (wX a u b t.2 c w) (t.1) := mkI hst (by decide +kernel) (Nat.le_of_ble_eq_true rfl) (fun x _ o hI hX => b_X1_define o a b c u v w p0 p1 p2 p3 p4 t hf ⟨hI, hX⟩)
def rt_X1_dependsOn (x : Cx) (a b c : Nat → Nat) (u v w : St) (t : (Int32 ⊕ String)) : Prop := (∀ r, t = .inl r → RetI x cX1_dependsOn .boolean 3 18 (wX a u b v c w (cxT x)) r) ∧ ∀ E, t = .inr E → RetX x 3 18 (wX a u b v c w (cxT x)) E
set_option maxRecDepth 20000 in
set_option maxHeartbeats 2000000 in
theorem b_X1_dependsOn {x : Cx} (o : Ok x cX1_dependsOn 4 RX1 3 3 18) (a b c : Nat → Nat) (u v w : St) (p0 : Int32) (p1 : Int32) (p2 : Int32) (t : (Int32 ⊕ String)) (hf : f_X1_dependsOn u v w p0 p1 p2 = some t) (hret : rt_X1_dependsOn x a b c u v w t) : G x 4 0 0 (wX a u b v c w (cxT x)) [(0, .ref (a 0)), (1, .int p0), (2, .int p1), (3, .int p2)] 0 [] := by
  unfold f_X1_dependsOn at hf
  refine g_iload_n o 1 rfl rfl dX1_dependsOn_0 ?_
  refine g_iload_n o 2 rfl rfl dX1_dependsOn_1 ?_
  rcases bz_some hf with ⟨r5, hr5, hf⟩ | ⟨E6, hr5, hf⟩
  · refine k_X1_requireOperation_n o hr5 m_478 (Nat.le_of_ble_eq_true rfl) (Nat.le_of_ble_eq_true rfl) ⟨(Nat.le_of_ble_eq_true rfl), (Nat.le_of_ble_eq_true rfl)⟩ dX1_dependsOn_2 ?_
    refine g_iload_n o 3 rfl rfl dX1_dependsOn_5 ?_
    refine g_if_lt (tgt := 14) o rfl dX1_dependsOn_6 hf (fun hc hf => ?_) (fun hc hf => ?_)
    · cases Option.some.inj hf
      exact g_throwS o (hret.2 _ rfl) fit_io fit_re rfl m_373 m_63 st_155 at_157 go_157 dX1_dependsOn_14 dX1_dependsOn_17 dX1_dependsOn_18 dX1_dependsOn_20 dX1_dependsOn_23 (Nat.le_of_ble_eq_true rfl) (Nat.le_of_ble_eq_true rfl)
    · refine g_iload_n o 3 rfl rfl dX1_dependsOn_9 ?_
      refine g_iload_n o 1 rfl rfl dX1_dependsOn_10 ?_
      refine g_ic_lt (tgt := 24) o rfl dX1_dependsOn_11 hf (fun hc hf => ?_) (fun hc hf => ?_)
      · refine g_iload_n o 1 rfl rfl dX1_dependsOn_24 ?_
        refine g_iload_n o 2 rfl rfl dX1_dependsOn_25 ?_
        refine g_iload_n o 3 rfl rfl dX1_dependsOn_26 ?_
        obtain ⟨r7, hr7, hf⟩ := bd_some hf
        refine k_X1_valuesAtZero_ o hr7 m_564 (Nat.le_of_ble_eq_true rfl) (Nat.le_of_ble_eq_true rfl) ⟨(Nat.le_of_ble_eq_true rfl), (Nat.le_of_ble_eq_true rfl)⟩ dX1_dependsOn_27 ?_
        refine g_iload_n o 1 rfl rfl dX1_dependsOn_30 ?_
        refine g_iload_n o 2 rfl rfl dX1_dependsOn_31 ?_
        refine g_iload_n o 3 rfl rfl dX1_dependsOn_32 ?_
        obtain ⟨r8, hr8, hf⟩ := bd_some hf
        refine k_X1_valuesAtOne_ o hr8 m_572 (Nat.le_of_ble_eq_true rfl) (Nat.le_of_ble_eq_true rfl) ⟨(Nat.le_of_ble_eq_true rfl), (Nat.le_of_ble_eq_true rfl)⟩ dX1_dependsOn_33 ?_
        refine g_ic_eq (tgt := 43) o rfl dX1_dependsOn_36 hf (fun hc hf => ?_) (fun hc hf => ?_)
        · refine g_iconst o ic_0 dX1_dependsOn_43 ?_
          cases Option.some.inj hf
          exact g_iret (hret.1 _ rfl) (Nat.le_of_ble_eq_true rfl) (Nat.le_of_ble_eq_true rfl) nb_0 dX1_dependsOn_44
        · refine g_iconst o ic_1 dX1_dependsOn_39 ?_
          refine g_goto (tgt := 44) o rfl dX1_dependsOn_40 ?_
          cases Option.some.inj hf
          exact g_iret (hret.1 _ rfl) (Nat.le_of_ble_eq_true rfl) (Nat.le_of_ble_eq_true rfl) nb_1 dX1_dependsOn_44
      · cases Option.some.inj hf
        exact g_throwS o (hret.2 _ rfl) fit_io fit_re rfl m_373 m_63 st_155 at_157 go_157 dX1_dependsOn_14 dX1_dependsOn_17 dX1_dependsOn_18 dX1_dependsOn_20 dX1_dependsOn_23 (Nat.le_of_ble_eq_true rfl) (Nat.le_of_ble_eq_true rfl)
  · cases Option.some.inj hf
    exact k_X1_requireOperation_x o hr5 m_478 (Nat.le_of_ble_eq_true rfl) (Nat.le_of_ble_eq_true rfl) ⟨(Nat.le_of_ble_eq_true rfl), (Nat.le_of_ble_eq_true rfl)⟩ dX1_dependsOn_2 (xw_out o (hret.2 _ rfl) (Nat.le_of_ble_eq_true rfl) (Nat.le_of_ble_eq_true rfl))
theorem c_X1_dependsOn (l : Launch) (hst : l.stackTraces = false) (a b c : Nat → Nat) (u v w : St) (p0 : Int32) (p1 : Int32) (p2 : Int32) (t : (Int32 ⊕ String)) (hf : f_X1_dependsOn u v w p0 p1 p2 = some t) : CoI l yX1_dependsOn (.code yX1_dependsOn cX1_dependsOn 4 (some .boolean)) 3 3 18 [.ref (a 0), .int p0, .int p1, .int p2] (wX a u b v c w) (wX a u b v c w) (t) := mkI hst (by decide +kernel) (Nat.le_of_ble_eq_true rfl) (fun x _ o hI hX => b_X1_dependsOn o a b c u v w p0 p1 p2 t hf ⟨hI, hX⟩)
def rt_X1_isPreserved (x : Cx) (a b c : Nat → Nat) (u v w : St) (t : Int32) : Prop := RetI x cX1_isPreserved .boolean 0 0 (wX a u b v c w (cxT x)) t
set_option maxRecDepth 20000 in
set_option maxHeartbeats 2000000 in
theorem b_X1_isPreserved {x : Cx} (o : Ok x cX1_isPreserved 4 RX1 2 0 0) (a b c : Nat → Nat) (u v w : St) (p0 : Int32) (p1 : Int32) (p2 : Int32) (t : Int32) (hf : f_X1_isPreserved u v w p0 p1 p2 = some t) (hret : rt_X1_isPreserved x a b c u v w t) : G x 4 0 0 (wX a u b v c w (cxT x)) [(0, .ref (a 0)), (1, .int p0), (2, .int p1), (3, .int p2)] 0 [] := by
  unfold f_X1_isPreserved at hf
  refine g_aload_n o 0 rfl rfl dX1_isPreserved_0 ?_
  refine X_get0 o m_112 dX1_isPreserved_1 ?_
  refine Y_get2 o e_87 dX1_isPreserved_4 ?_
  refine g_iload_n o 1 rfl rfl dX1_isPreserved_7 ?_
  refine Y_ld2 o dX1_isPreserved_8 hf (fun hf => ?_)
  refine g_aload_n o 0 rfl rfl dX1_isPreserved_9 ?_
  refine X_get0 o m_112 dX1_isPreserved_10 ?_
  refine Y_get1 o e_85 dX1_isPreserved_13 ?_
  refine g_iload_n o 1 rfl rfl dX1_isPreserved_16 ?_
  refine Y_ld1 o dX1_isPreserved_17 hf (fun hf => ?_)
  refine g_iload_n o 2 rfl rfl dX1_isPreserved_18 ?_
  refine g_iload_n o 3 rfl rfl dX1_isPreserved_19 ?_
  obtain ⟨r2, hr2, hf⟩ := bd_some hf
  refine k_X1_escapingTuples_ o hr2 m_499 (Nat.le_of_ble_eq_true rfl) (Nat.le_of_ble_eq_true rfl) ⟨(Nat.le_of_ble_eq_true rfl), (Nat.le_of_ble_eq_true rfl)⟩ dX1_isPreserved_20 ?_
  refine g_if_ne (tgt := 30) o rfl dX1_isPreserved_23 hf (fun hc hf => ?_) (fun hc hf => ?_)
  · refine g_iconst o ic_0 dX1_isPreserved_30 ?_
    cases Option.some.inj hf
    exact g_iret hret (Nat.le_of_ble_eq_true rfl) (Nat.le_of_ble_eq_true rfl) nb_0 dX1_isPreserved_31
  · refine g_iconst o ic_1 dX1_isPreserved_26 ?_
    refine g_goto (tgt := 31) o rfl dX1_isPreserved_27 ?_
    cases Option.some.inj hf
    exact g_iret hret (Nat.le_of_ble_eq_true rfl) (Nat.le_of_ble_eq_true rfl) nb_1 dX1_isPreserved_31
theorem c_X1_isPreserved (l : Launch) (hst : l.stackTraces = false) (a b c : Nat → Nat) (u v w : St) (p0 : Int32) (p1 : Int32) (p2 : Int32) (t : Int32) (hf : f_X1_isPreserved u v w p0 p1 p2 = some t) : CoI l yX1_isPreserved (.code yX1_isPreserved cX1_isPreserved 4 (some .boolean)) 2 0 0 [.ref (a 0), .int p0, .int p1, .int p2] (wX a u b v c w) (wX a u b v c w) (.inl t) := mkI hst (by decide +kernel) (Nat.le_of_ble_eq_true rfl) (fun x _ o hI hX => b_X1_isPreserved o a b c u v w p0 p1 p2 t hf (hI _ rfl))
theorem k_X1_isPreserved_ {x : Cx} {cc : ByteArray} {nL : Nat} {own : String} {d mc ms k n : Nat} {lv : List (Nat × Value)} {pc i : Nat} {rest : List Value} {a b c : Nat → Nat} {u v w : St} {p0 : Int32} {p1 : Int32} {p2 : Int32} (o : Ok x cc nL own d mc ms) {t : Int32} (ht : f_X1_isPreserved u v w p0 p1 p2 = some t) (hlk : Cond.methodLink own i yX1_isPreserved ∈ Ug) (hd : 2 < d) (hr : (rest.map fun v => v.category).sum ≤ 8) (hk : k + 0 ≤ mc ∧ n + 0 ≤ ms) (dg : decode cc pc = .ok (.invokevirtual i, 3)) (kk : G x nL (k + 0) (n + 0) (wX a u b v c w (cxT x)) lv (pc + 3) (.int t :: rest)) : G x nL k n (wX a u b v c w (cxT x)) lv pc (.int p2 :: .int p1 :: .int p0 :: .ref (a 0) :: rest) := gcI (wd2 := (wX a u b v c w (cxT x))) o (c_X1_isPreserved (cxl x) o.2.2.2.2.2.2.2.2.2.1 a b c u v w p0 p1 p2 t ht) (can_V (q0 := 0) o rfl rfl hd (Nat.le_of_ble_eq_true rfl) m_498 m_54 m_497 m_14 hlk yk_X1_isPreserved rfl hr hk dg) sp_X (fun E h => by cases h) (fun r h => by cases h; exact kk)
def rt_X1_areAllPreserved (x : Cx) (a b c : Nat → Nat) (u v w : St) (t : Int32) : Prop := RetI x cX1_areAllPreserved .boolean 0 0 (wX a u b v c w (cxT x)) t
set_option maxRecDepth 20000 in
set_option maxHeartbeats 2000000 in
theorem b_X1_areAllPreserved_L2 {x : Cx} (o : Ok x cX1_areAllPreserved 4 RX1 3 0 0) {k n : Nat} (hk : k ≤ 0) (hn : n ≤ 0) (a b c : Nat → Nat) (u : St) (v : St) (w : St) (c1 : Int32) (c2 : Int32) (r : (Int32) ⊕ (Int32)) (hX : ∀ s : Int32, r = .inl s → G x 4 k n (wX a u b v c w (cxT x)) [] 31 []) (hR : ∀ t, r = .inr t → rt_X1_areAllPreserved x a b c u v w t) : ∀ (m : Nat) (s : Int32), loopN (f_X1_areAllPreserved_s2 u v w c1 c2) m s = some r → G x 4 k n (wX a u b v c w (cxT x)) [(0, .ref (a 0)), (1, .int c1), (2, .int c2), (3, .int s)] 2 [] := by
  refine loop_W _ (fun (s : Int32) => G x 4 k n (wX a u b v c w (cxT x)) [(0, .ref (a 0)), (1, .int c1), (2, .int c2), (3, .int s)] 2 []) r ?_
  intro s ww hf hw
  unfold f_X1_areAllPreserved_s2 at hf
  refine g_iload_n o 3 rfl rfl dX1_areAllPreserved_2 ?_
  refine g_aload_n o 0 rfl rfl dX1_areAllPreserved_3 ?_
  refine X_get0 o m_112 dX1_areAllPreserved_4 ?_
  refine Y_get0 o e_83 dX1_areAllPreserved_7 ?_
  refine g_ic_ge (tgt := 31) o rfl dX1_areAllPreserved_10 hf (fun hc hf => ?_) (fun hc hf => ?_)
  · exact g_perm [] rfl (hX _ (lf_x hf hw))
  · refine g_aload_n o 0 rfl rfl dX1_areAllPreserved_13 ?_
    refine g_iload_n o 3 rfl rfl dX1_areAllPreserved_14 ?_
    refine g_iload_n o 1 rfl rfl dX1_areAllPreserved_15 ?_
    refine g_iload_n o 2 rfl rfl dX1_areAllPreserved_16 ?_
    obtain ⟨r2, hr2, hf⟩ := bd_some hf
    refine k_X1_isPreserved_ o hr2 m_495 (Nat.le_of_ble_eq_true rfl) (Nat.le_of_ble_eq_true rfl) ⟨hk, hn⟩ dX1_areAllPreserved_17 ?_
    refine g_if_ne (tgt := 25) o rfl dX1_areAllPreserved_20 hf (fun hc hf => ?_) (fun hc hf => ?_)
    · refine g_iinc o [(3, .int (s + 1)), (0, .ref (a 0)), (1, .int c1), (2, .int c2)] 3 rfl (inc_1 _) (Nat.le_of_ble_eq_true rfl) rfl dX1_areAllPreserved_25 ?_
      refine g_goto (tgt := 2) o rfl dX1_areAllPreserved_28 ?_
      have hp := lf_c hf hw
      exact g_perm [1, 2, 3, 0] rfl hp
    · refine g_iconst o ic_0 dX1_areAllPreserved_23 ?_
      exact g_iret (hR _ (lf_x hf hw)) hk hn nb_0 dX1_areAllPreserved_24
set_option maxRecDepth 20000 in
set_option maxHeartbeats 2000000 in
theorem b_X1_areAllPreserved {x : Cx} (o : Ok x cX1_areAllPreserved 4 RX1 3 0 0) (a b c : Nat → Nat) (u v w : St) (p0 : Int32) (p1 : Int32) (t : Int32) (hf : f_X1_areAllPreserved u v w p0 p1 = some t) (hret : rt_X1_areAllPreserved x a b c u v w t) : G x 4 0 0 (wX a u b v c w (cxT x)) [(0, .ref (a 0)), (1, .int p0), (2, .int p1)] 0 [] := by
  unfold f_X1_areAllPreserved at hf
  refine g_iconst o ic_0 dX1_areAllPreserved_0 ?_
  refine g_istore_n o [(3, .int 0), (0, .ref (a 0)), (1, .int p0), (2, .int p1)] (Nat.le_of_ble_eq_true rfl) rfl rfl dX1_areAllPreserved_1 ?_
  obtain ⟨r6, hr6, hxr6, hrr6⟩ := bl_some hf
  refine g_perm [1, 2, 3, 0] rfl (b_X1_areAllPreserved_L2 o (Nat.le_of_ble_eq_true rfl) (Nat.le_of_ble_eq_true rfl) a b c u v w p0 p1 r6 (fun s2 hs => ?_) (fun t5 ht => ?_) FU 0 hr6)
  · have hf := hxr6 s2 hs
    refine g_iconst o ic_1 dX1_areAllPreserved_31 ?_
    cases Option.some.inj hf
    exact g_iret hret (Nat.le_of_ble_eq_true rfl) (Nat.le_of_ble_eq_true rfl) nb_1 dX1_areAllPreserved_32
  · have hf := hrr6 t5 ht
    cases Option.some.inj hf
    exact hret
theorem c_X1_areAllPreserved (l : Launch) (hst : l.stackTraces = false) (a b c : Nat → Nat) (u v w : St) (p0 : Int32) (p1 : Int32) (t : Int32) (hf : f_X1_areAllPreserved u v w p0 p1 = some t) : CoI l yX1_areAllPreserved (.code yX1_areAllPreserved cX1_areAllPreserved 4 (some .boolean)) 3 0 0 [.ref (a 0), .int p0, .int p1] (wX a u b v c w) (wX a u b v c w) (.inl t) := mkI hst (by decide +kernel) (Nat.le_of_ble_eq_true rfl) (fun x _ o hI hX => b_X1_areAllPreserved o a b c u v w p0 p1 t hf (hI _ rfl))
theorem k_X1_areAllPreserved_ {x : Cx} {cc : ByteArray} {nL : Nat} {own : String} {d mc ms k n : Nat} {lv : List (Nat × Value)} {pc i : Nat} {rest : List Value} {a b c : Nat → Nat} {u v w : St} {p0 : Int32} {p1 : Int32} (o : Ok x cc nL own d mc ms) {t : Int32} (ht : f_X1_areAllPreserved u v w p0 p1 = some t) (hlk : Cond.methodLink own i yX1_areAllPreserved ∈ Ug) (hd : 3 < d) (hr : (rest.map fun v => v.category).sum ≤ 8) (hk : k + 0 ≤ mc ∧ n + 0 ≤ ms) (dg : decode cc pc = .ok (.invokevirtual i, 3)) (kk : G x nL (k + 0) (n + 0) (wX a u b v c w (cxT x)) lv (pc + 3) (.int t :: rest)) : G x nL k n (wX a u b v c w (cxT x)) lv pc (.int p1 :: .int p0 :: .ref (a 0) :: rest) := gcI (wd2 := (wX a u b v c w (cxT x))) o (c_X1_areAllPreserved (cxl x) o.2.2.2.2.2.2.2.2.2.1 a b c u v w p0 p1 t ht) (can_V (q0 := 0) o rfl rfl hd (Nat.le_of_ble_eq_true rfl) m_518 m_54 m_517 m_15 hlk yk_X1_areAllPreserved rfl hr hk dg) sp_X (fun E h => by cases h) (fun r h => by cases h; exact kk)
def rt_X1_isOfKind (x : Cx) (a b c : Nat → Nat) (u v w : St) (t : Int32) : Prop := RetI x cX1_isOfKind .boolean 0 0 (wX a u b v c w (cxT x)) t
set_option maxRecDepth 20000 in
set_option maxHeartbeats 2000000 in
theorem b_X1_isOfKind {x : Cx} (o : Ok x cX1_isOfKind 2 RX1 4 0 0) (a b c : Nat → Nat) (u v w : St) (p0 : Int32) (t : Int32) (hf : f_X1_isOfKind u v w p0 = some t) (hret : rt_X1_isOfKind x a b c u v w t) : G x 2 0 0 (wX a u b v c w (cxT x)) [(0, .ref (a 0)), (1, .int p0)] 0 [] := by
  unfold f_X1_isOfKind at hf
  refine g_aload_n o 0 rfl rfl dX1_isOfKind_0 ?_
  refine g_gets o (ok_KIND_ARITIES o) m_624 dX1_isOfKind_1 (fun t4 hTt4 => ?_)
  refine g_iload_n o 1 rfl rfl dX1_isOfKind_4 ?_
  refine g_ti o hTt4 dX1_isOfKind_5 hf (fun hf => ?_)
  refine g_gets o (ok_KIND_CODES o) m_626 dX1_isOfKind_6 (fun t5 hTt5 => ?_)
  refine g_iload_n o 1 rfl rfl dX1_isOfKind_9 ?_
  refine g_ti o hTt5 dX1_isOfKind_10 hf (fun hf => ?_)
  obtain ⟨r6, hr6, hf⟩ := bd_some hf
  refine k_X1_areAllPreserved_ o hr6 m_515 (Nat.le_of_ble_eq_true rfl) (Nat.le_of_ble_eq_true rfl) ⟨(Nat.le_of_ble_eq_true rfl), (Nat.le_of_ble_eq_true rfl)⟩ dX1_isOfKind_11 ?_
  obtain ⟨hb, hf⟩ := gd_some hf
  cases Option.some.inj hf
  exact g_iret hret (Nat.le_of_ble_eq_true rfl) (Nat.le_of_ble_eq_true rfl) (okB_n hb) dX1_isOfKind_14
theorem c_X1_isOfKind (l : Launch) (hst : l.stackTraces = false) (a b c : Nat → Nat) (u v w : St) (p0 : Int32) (t : Int32) (hf : f_X1_isOfKind u v w p0 = some t) : CoI l yX1_isOfKind (.code yX1_isOfKind cX1_isOfKind 2 (some .boolean)) 4 0 0 [.ref (a 0), .int p0] (wX a u b v c w) (wX a u b v c w) (.inl t) := mkI hst (by decide +kernel) (Nat.le_of_ble_eq_true rfl) (fun x _ o hI hX => b_X1_isOfKind o a b c u v w p0 t hf (hI _ rfl))
theorem k_X1_isOfKind_ {x : Cx} {cc : ByteArray} {nL : Nat} {own : String} {d mc ms k n : Nat} {lv : List (Nat × Value)} {pc i : Nat} {rest : List Value} {a b c : Nat → Nat} {u v w : St} {p0 : Int32} (o : Ok x cc nL own d mc ms) {t : Int32} (ht : f_X1_isOfKind u v w p0 = some t) (hlk : Cond.methodLink own i yX1_isOfKind ∈ Ug) (hd : 4 < d) (hr : (rest.map fun v => v.category).sum ≤ 8) (hk : k + 0 ≤ mc ∧ n + 0 ≤ ms) (dg : decode cc pc = .ok (.invokevirtual i, 3)) (kk : G x nL (k + 0) (n + 0) (wX a u b v c w (cxT x)) lv (pc + 3) (.int t :: rest)) : G x nL k n (wX a u b v c w (cxT x)) lv pc (.int p0 :: .ref (a 0) :: rest) := gcI (wd2 := (wX a u b v c w (cxT x))) o (c_X1_isOfKind (cxl x) o.2.2.2.2.2.2.2.2.2.1 a b c u v w p0 t ht) (can_V (q0 := 0) o rfl rfl hd (Nat.le_of_ble_eq_true rfl) m_638 m_54 m_637 m_16 hlk yk_X1_isOfKind rfl hr hk dg) sp_X (fun E h => by cases h) (fun r h => by cases h; exact kk)
def rt_X1_requireKindOfLanguage (x : Cx) (a b c : Nat → Nat) (u v w : St) (t : (Unit ⊕ String)) : Prop := (t = .inl () → RetV x cX1_requireKindOfLanguage 1 6 (wX a u b v c w (cxT x))) ∧ ∀ E, t = .inr E → RetX x 1 6 (wX a u b v c w (cxT x)) E
set_option maxRecDepth 20000 in
set_option maxHeartbeats 2000000 in
theorem b_X1_requireKindOfLanguage {x : Cx} (o : Ok x cX1_requireKindOfLanguage 2 RX1 5 1 6) (a b c : Nat → Nat) (u v w : St) (p0 : Int32) (t : (Unit ⊕ String)) (hf : f_X1_requireKindOfLanguage u v w p0 = some t) (hret : rt_X1_requireKindOfLanguage x a b c u v w t) : G x 2 0 0 (wX a u b v c w (cxT x)) [(0, .ref (a 0)), (1, .int p0)] 0 [] := by
  unfold f_X1_requireKindOfLanguage at hf
  refine g_aload_n o 0 rfl rfl dX1_requireKindOfLanguage_0 ?_
  refine g_iload_n o 1 rfl rfl dX1_requireKindOfLanguage_1 ?_
  obtain ⟨r2, hr2, hf⟩ := bd_some hf
  refine k_X1_isOfKind_ o hr2 m_635 (Nat.le_of_ble_eq_true rfl) (Nat.le_of_ble_eq_true rfl) ⟨(Nat.le_of_ble_eq_true rfl), (Nat.le_of_ble_eq_true rfl)⟩ dX1_requireKindOfLanguage_2 ?_
  refine g_if_ne (tgt := 19) o rfl dX1_requireKindOfLanguage_5 hf (fun hc hf => ?_) (fun hc hf => ?_)
  · cases Option.some.inj hf
    exact g_vret (hret.1 rfl) (Nat.le_of_ble_eq_true rfl) (Nat.le_of_ble_eq_true rfl) dX1_requireKindOfLanguage_19
  · cases Option.some.inj hf
    exact g_throwSW o (hret.2 _ rfl) fit_uo fit_re rfl m_724 m_66 st_309 at_311 go_311 dX1_requireKindOfLanguage_8 dX1_requireKindOfLanguage_11 dX1_requireKindOfLanguage_12 dX1_requireKindOfLanguage_15 dX1_requireKindOfLanguage_18 (Nat.le_of_ble_eq_true rfl) (Nat.le_of_ble_eq_true rfl)
theorem c_X1_requireKindOfLanguage (l : Launch) (hst : l.stackTraces = false) (a b c : Nat → Nat) (u v w : St) (p0 : Int32) (t : (Unit ⊕ String)) (hf : f_X1_requireKindOfLanguage u v w p0 = some t) : CoV l yX1_requireKindOfLanguage (.code yX1_requireKindOfLanguage cX1_requireKindOfLanguage 2 none) 5 1 6 [.ref (a 0), .int p0] (wX a u b v c w) (wX a u b v c w) (t) := mkV hst (by decide +kernel) (Nat.le_of_ble_eq_true rfl) (fun x _ o hI hX => b_X1_requireKindOfLanguage o a b c u v w p0 t hf ⟨hI, hX⟩)
theorem k_X1_requireKindOfLanguage_n {x : Cx} {cc : ByteArray} {nL : Nat} {own : String} {d mc ms k n : Nat} {lv : List (Nat × Value)} {pc i : Nat} {rest : List Value} {a b c : Nat → Nat} {u v w : St} {p0 : Int32} (o : Ok x cc nL own d mc ms) {r : Unit} (ht : f_X1_requireKindOfLanguage u v w p0 = some (.inl r)) (hlk : Cond.methodLink own i yX1_requireKindOfLanguage ∈ Ug) (hd : 5 < d) (hr : (rest.map fun v => v.category).sum ≤ 8) (hk : k + 1 ≤ mc ∧ n + 6 ≤ ms) (dg : decode cc pc = .ok (.invokevirtual i, 3)) (kk : G x nL (k + 1) (n + 6) (wX a u b v c w (cxT x)) lv (pc + 3) rest) : G x nL k n (wX a u b v c w (cxT x)) lv pc (.int p0 :: .ref (a 0) :: rest) := gcV (wd2 := (wX a u b v c w (cxT x))) o (c_X1_requireKindOfLanguage (cxl x) o.2.2.2.2.2.2.2.2.2.1 a b c u v w p0 (.inl r) ht) (can_V (q0 := 0) o rfl rfl hd (Nat.le_of_ble_eq_true rfl) m_723 m_54 m_722 m_21 hlk yk_X1_requireKindOfLanguage rfl hr hk dg) sp_X (fun E h => by cases h) (fun h => kk)
theorem k_X1_requireKindOfLanguage_x {x : Cx} {cc : ByteArray} {nL : Nat} {own : String} {d mc ms k n : Nat} {lv : List (Nat × Value)} {pc i : Nat} {rest : List Value} {a b c : Nat → Nat} {u v w : St} {p0 : Int32} (o : Ok x cc nL own d mc ms) {E : String} (ht : f_X1_requireKindOfLanguage u v w p0 = some (.inr E)) (hlk : Cond.methodLink own i yX1_requireKindOfLanguage ∈ Ug) (hd : 5 < d) (hr : (rest.map fun v => v.category).sum ≤ 8) (hk : k + 1 ≤ mc ∧ n + 6 ≤ ms) (dg : decode cc pc = .ok (.invokevirtual i, 3)) (kk : XW x nL (k + 1) (n + 6) (wX a u b v c w (cxT x)) lv pc rest E) : G x nL k n (wX a u b v c w (cxT x)) lv pc (.int p0 :: .ref (a 0) :: rest) := gcV (wd2 := (wX a u b v c w (cxT x))) o (c_X1_requireKindOfLanguage (cxl x) o.2.2.2.2.2.2.2.2.2.1 a b c u v w p0 (.inr E) ht) (can_V (q0 := 0) o rfl rfl hd (Nat.le_of_ble_eq_true rfl) m_723 m_54 m_722 m_21 hlk yk_X1_requireKindOfLanguage rfl hr hk dg) sp_X (fun E h => by cases h; exact kk) (fun h => by cases h)
def rt_X1_requireSolutions (x : Cx) (a b c : Nat → Nat) (u v w : St) (t : (Unit ⊕ String)) : Prop := (t = .inl () → RetV x cX1_requireSolutions 1 6 (wX a u b v c w (cxT x))) ∧ ∀ E, t = .inr E → RetX x 1 6 (wX a u b v c w (cxT x)) E
set_option maxRecDepth 20000 in
set_option maxHeartbeats 2000000 in
theorem b_X1_requireSolutions {x : Cx} (o : Ok x cX1_requireSolutions 1 RX1 14 1 6) (a b c : Nat → Nat) (u v w : St) (t : (Unit ⊕ String)) (hf : f_X1_requireSolutions u v w = some t) (hret : rt_X1_requireSolutions x a b c u v w t) : G x 1 0 0 (wX a u b v c w (cxT x)) [(0, .ref (a 0))] 0 [] := by
  unfold f_X1_requireSolutions at hf
  refine g_aload_n o 0 rfl rfl dX1_requireSolutions_0 ?_
  refine X_get0 o m_112 dX1_requireSolutions_1 ?_
  obtain ⟨r2, hr2, hf⟩ := bd_some hf
  refine k_X0_countSolutions_NX o hr2 e_156 (Nat.le_of_ble_eq_true rfl) (Nat.le_of_ble_eq_true rfl) ⟨(Nat.le_of_ble_eq_true rfl), (Nat.le_of_ble_eq_true rfl)⟩ dX1_requireSolutions_4 ?_
  refine g_if_ne (tgt := 21) o rfl dX1_requireSolutions_7 hf (fun hc hf => ?_) (fun hc hf => ?_)
  · cases Option.some.inj hf
    exact g_vret (hret.1 rfl) (Nat.le_of_ble_eq_true rfl) (Nat.le_of_ble_eq_true rfl) dX1_requireSolutions_21
  · cases Option.some.inj hf
    exact g_throwNW o (hret.2 _ rfl) fit_ns fit_rt fit_ex rfl ns_e0 ns_e1 ns_e2 ns_e5 m_534 m_64 st_312 at_137 go_137 dX1_requireSolutions_10 dX1_requireSolutions_13 dX1_requireSolutions_14 dX1_requireSolutions_17 dX1_requireSolutions_20 (Nat.le_of_ble_eq_true rfl) (Nat.le_of_ble_eq_true rfl)
theorem c_X1_requireSolutions (l : Launch) (hst : l.stackTraces = false) (a b c : Nat → Nat) (u v w : St) (t : (Unit ⊕ String)) (hf : f_X1_requireSolutions u v w = some t) : CoV l yX1_requireSolutions (.code yX1_requireSolutions cX1_requireSolutions 1 none) 14 1 6 [.ref (a 0)] (wX a u b v c w) (wX a u b v c w) (t) := mkV hst (by decide +kernel) (Nat.le_of_ble_eq_true rfl) (fun x _ o hI hX => b_X1_requireSolutions o a b c u v w t hf ⟨hI, hX⟩)
theorem k_X1_requireSolutions_n {x : Cx} {cc : ByteArray} {nL : Nat} {own : String} {d mc ms k n : Nat} {lv : List (Nat × Value)} {pc i : Nat} {rest : List Value} {a b c : Nat → Nat} {u v w : St} (o : Ok x cc nL own d mc ms) {r : Unit} (ht : f_X1_requireSolutions u v w = some (.inl r)) (hlk : Cond.methodLink own i yX1_requireSolutions ∈ Ug) (hd : 14 < d) (hr : (rest.map fun v => v.category).sum ≤ 8) (hk : k + 1 ≤ mc ∧ n + 6 ≤ ms) (dg : decode cc pc = .ok (.invokevirtual i, 3)) (kk : G x nL (k + 1) (n + 6) (wX a u b v c w (cxT x)) lv (pc + 3) rest) : G x nL k n (wX a u b v c w (cxT x)) lv pc (.ref (a 0) :: rest) := gcV (wd2 := (wX a u b v c w (cxT x))) o (c_X1_requireSolutions (cxl x) o.2.2.2.2.2.2.2.2.2.1 a b c u v w (.inl r) ht) (can_V (q0 := 0) o rfl rfl hd (Nat.le_of_ble_eq_true rfl) m_743 m_54 m_742 m_22 hlk yk_X1_requireSolutions rfl hr hk dg) sp_X (fun E h => by cases h) (fun h => kk)
theorem k_X1_requireSolutions_x {x : Cx} {cc : ByteArray} {nL : Nat} {own : String} {d mc ms k n : Nat} {lv : List (Nat × Value)} {pc i : Nat} {rest : List Value} {a b c : Nat → Nat} {u v w : St} (o : Ok x cc nL own d mc ms) {E : String} (ht : f_X1_requireSolutions u v w = some (.inr E)) (hlk : Cond.methodLink own i yX1_requireSolutions ∈ Ug) (hd : 14 < d) (hr : (rest.map fun v => v.category).sum ≤ 8) (hk : k + 1 ≤ mc ∧ n + 6 ≤ ms) (dg : decode cc pc = .ok (.invokevirtual i, 3)) (kk : XW x nL (k + 1) (n + 6) (wX a u b v c w (cxT x)) lv pc rest E) : G x nL k n (wX a u b v c w (cxT x)) lv pc (.ref (a 0) :: rest) := gcV (wd2 := (wX a u b v c w (cxT x))) o (c_X1_requireSolutions (cxl x) o.2.2.2.2.2.2.2.2.2.1 a b c u v w (.inr E) ht) (can_V (q0 := 0) o rfl rfl hd (Nat.le_of_ble_eq_true rfl) m_743 m_54 m_742 m_22 hlk yk_X1_requireSolutions rfl hr hk dg) sp_X (fun E h => by cases h; exact kk) (fun h => by cases h)
def rt_X1_dimension (x : Cx) (a b c : Nat → Nat) (u v w : St) (t : (Int32 ⊕ String)) : Prop := (∀ r, t = .inl r → RetI x cX1_dimension .int 2 12 (wX a u b v c w (cxT x)) r) ∧ ∀ E, t = .inr E → RetX x 2 12 (wX a u b v c w (cxT x)) E
set_option maxRecDepth 20000 in
set_option maxHeartbeats 2000000 in
theorem b_X1_dimension {x : Cx} (o : Ok x cX1_dimension 1 RX1 15 2 12) (a b c : Nat → Nat) (u v w : St) (t : (Int32 ⊕ String)) (hf : f_X1_dimension u v w = some t) (hret : rt_X1_dimension x a b c u v w t) : G x 1 0 0 (wX a u b v c w (cxT x)) [(0, .ref (a 0))] 0 [] := by
  unfold f_X1_dimension at hf
  refine g_aload_n o 0 rfl rfl dX1_dimension_0 ?_
  refine g_iconst o ic_5 dX1_dimension_1 ?_
  rcases bz_some hf with ⟨r7, hr7, hf⟩ | ⟨E8, hr7, hf⟩
  · refine k_X1_requireKindOfLanguage_n o hr7 m_720 (Nat.le_of_ble_eq_true rfl) (Nat.le_of_ble_eq_true rfl) ⟨(Nat.le_of_ble_eq_true rfl), (Nat.le_of_ble_eq_true rfl)⟩ dX1_dimension_2 ?_
    refine g_aload_n o 0 rfl rfl dX1_dimension_5 ?_
    rcases bz_some hf with ⟨r9, hr9, hf⟩ | ⟨E10, hr9, hf⟩
    · refine k_X1_requireSolutions_n o hr9 m_740 (Nat.le_of_ble_eq_true rfl) (Nat.le_of_ble_eq_true rfl) ⟨(Nat.le_of_ble_eq_true rfl), (Nat.le_of_ble_eq_true rfl)⟩ dX1_dimension_6 ?_
      refine g_aload_n o 0 rfl rfl dX1_dimension_9 ?_
      refine X_get0 o m_112 dX1_dimension_10 ?_
      obtain ⟨r11, hr11, hf⟩ := bd_some hf
      refine k_X0_countSolutions_NX o hr11 e_156 (Nat.le_of_ble_eq_true rfl) (Nat.le_of_ble_eq_true rfl) ⟨(Nat.le_of_ble_eq_true rfl), (Nat.le_of_ble_eq_true rfl)⟩ dX1_dimension_13 ?_
      refine g_iconst o ic_1 dX1_dimension_16 ?_
      refine g_isub o dX1_dimension_17 ?_
      obtain ⟨r12, hr12, hf⟩ := bd_some hf
      refine k_J6_bitCount_0f7a4_ o hr12 m_212 (Nat.le_of_ble_eq_true rfl) (Nat.le_of_ble_eq_true rfl) ⟨(Nat.le_of_ble_eq_true rfl), (Nat.le_of_ble_eq_true rfl)⟩ dX1_dimension_18 ?_
      cases Option.some.inj hf
      exact g_iret (hret.1 _ rfl) (Nat.le_of_ble_eq_true rfl) (Nat.le_of_ble_eq_true rfl) (vp_nar_int _) dX1_dimension_21
    · cases Option.some.inj hf
      exact k_X1_requireSolutions_x o hr9 m_740 (Nat.le_of_ble_eq_true rfl) (Nat.le_of_ble_eq_true rfl) ⟨(Nat.le_of_ble_eq_true rfl), (Nat.le_of_ble_eq_true rfl)⟩ dX1_dimension_6 (xw_out o (hret.2 _ rfl) (Nat.le_of_ble_eq_true rfl) (Nat.le_of_ble_eq_true rfl))
  · cases Option.some.inj hf
    exact k_X1_requireKindOfLanguage_x o hr7 m_720 (Nat.le_of_ble_eq_true rfl) (Nat.le_of_ble_eq_true rfl) ⟨(Nat.le_of_ble_eq_true rfl), (Nat.le_of_ble_eq_true rfl)⟩ dX1_dimension_2 (xw_out o (hret.2 _ rfl) (Nat.le_of_ble_eq_true rfl) (Nat.le_of_ble_eq_true rfl))
theorem c_X1_dimension (l : Launch) (hst : l.stackTraces = false) (a b c : Nat → Nat) (u v w : St) (t : (Int32 ⊕ String)) (hf : f_X1_dimension u v w = some t) : CoI l yX1_dimension (.code yX1_dimension cX1_dimension 1 (some .int)) 15 2 12 [.ref (a 0)] (wX a u b v c w) (wX a u b v c w) (t) := mkI hst (by decide +kernel) (Nat.le_of_ble_eq_true rfl) (fun x _ o hI hX => b_X1_dimension o a b c u v w t hf ⟨hI, hX⟩)
def rt_X1_dual (x : Cx) (a b c : Nat → Nat) (u v w : St) (t : (Int32 ⊕ String)) : Prop := (∀ r, t = .inl r → RetI x cX1_dual .int 2 12 (wX a u b v c w (cxT x)) r) ∧ ∀ E, t = .inr E → RetX x 2 12 (wX a u b v c w (cxT x)) E
set_option maxRecDepth 20000 in
set_option maxHeartbeats 2000000 in
theorem b_X1_dual_L16 {x : Cx} (o : Ok x cX1_dual 6 RX1 2 2 12) {k n : Nat} (hk : k ≤ 2) (hn : n ≤ 12) (a b c : Nat → Nat) (u : St) (v : St) (w : St) (c2 : Int32) (c3 : Int32) (r : (Int32 × Int32) ⊕ ((Int32 ⊕ String))) (hX : ∀ s : Int32 × Int32, r = .inl s → G x 6 k n (wX a u b v c w (cxT x)) [(4, .int s.1)] 48 []) (hR : ∀ t, r = .inr t → rt_X1_dual x a b c u v w t) : ∀ (m : Nat) (s : Int32 × Int32), loopN (f_X1_dual_s16 u v w c2 c3) m s = some r → G x 6 k n (wX a u b v c w (cxT x)) [(2, .int c2), (3, .int c3), (4, .int s.1), (5, .int s.2)] 16 [] := by
  refine loop_W _ (fun (s : Int32 × Int32) => G x 6 k n (wX a u b v c w (cxT x)) [(2, .int c2), (3, .int c3), (4, .int s.1), (5, .int s.2)] 16 []) r ?_
  intro s ww hf hw
  unfold f_X1_dual_s16 at hf
  obtain ⟨s_0, s_1⟩ := s
  try dsimp -simprocs only at hf ⊢
  refine g_iload o 3 rfl dX1_dual_16 ?_
  refine g_iload_n o 1 rfl rfl dX1_dual_18 ?_
  refine g_ic_gt (tgt := 48) o rfl dX1_dual_19 hf (fun hc hf => ?_) (fun hc hf => ?_)
  · exact g_perm [2] rfl (hX _ (lf_x hf hw))
  · refine g_iload_n o 0 rfl rfl dX1_dual_22 ?_
    refine g_iload_n o 1 rfl rfl dX1_dual_23 ?_
    refine g_iload o 3 rfl dX1_dual_24 ?_
    refine g_isub o dX1_dual_26 ?_
    obtain ⟨r6, hr6, hf⟩ := bd_some hf
    refine k_X1_has_ o hr6 m_394 (Nat.le_of_ble_eq_true rfl) (Nat.le_of_ble_eq_true rfl) ⟨hk, hn⟩ dX1_dual_27 ?_
    refine g_if_ne (tgt := 42) o rfl dX1_dual_30 hf (fun hc hf => ?_) (fun hc hf => ?_)
    · refine g_iinc o [(5, .int (s_1 + 1)), (2, .int c2), (3, .int c3), (4, .int s_0)] 3 rfl (inc_1 _) (Nat.le_of_ble_eq_true rfl) rfl dX1_dual_42 ?_
      refine g_goto (tgt := 16) o rfl dX1_dual_45 ?_
      have hp := lf_c hf hw
      exact g_perm [1, 2, 3, 0] rfl hp
    · refine g_iload o 2 rfl dX1_dual_33 ?_
      refine g_iconst o ic_1 dX1_dual_35 ?_
      refine g_iload o 3 rfl dX1_dual_36 ?_
      refine g_ishl o dX1_dual_38 ?_
      refine g_ior o dX1_dual_39 ?_
      refine g_nmi hf (fun x7 hf => ?_)
      refine g_istore o [(4, .int x7), (2, .int c2), (3, .int c3), (5, .int s_1)] (Nat.le_of_ble_eq_true rfl) rfl dX1_dual_40 ?_
      refine g_iinc o [(5, .int (s_1 + 1)), (4, .int x7), (2, .int c2), (3, .int c3)] 3 rfl (inc_1 _) (Nat.le_of_ble_eq_true rfl) rfl dX1_dual_42 ?_
      refine g_goto (tgt := 16) o rfl dX1_dual_45 ?_
      have hp := lf_c hf hw
      exact g_perm [2, 3, 1, 0] rfl hp
set_option maxRecDepth 20000 in
set_option maxHeartbeats 2000000 in
theorem b_X1_dual {x : Cx} (o : Ok x cX1_dual 6 RX1 2 2 12) (a b c : Nat → Nat) (u v w : St) (p0 : Int32) (p1 : Int32) (t : (Int32 ⊕ String)) (hf : f_X1_dual u v w p0 p1 = some t) (hret : rt_X1_dual x a b c u v w t) : G x 6 0 0 (wX a u b v c w (cxT x)) [(0, .ref (a 0)), (1, .int p0), (2, .int p1)] 0 [] := by
  unfold f_X1_dual at hf
  refine g_iload_n o 1 rfl rfl dX1_dual_0 ?_
  refine g_iload_n o 2 rfl rfl dX1_dual_1 ?_
  rcases bz_some hf with ⟨r10, hr10, hf⟩ | ⟨E11, hr10, hf⟩
  · refine k_X1_requireOperation_n o hr10 m_478 (Nat.le_of_ble_eq_true rfl) (Nat.le_of_ble_eq_true rfl) ⟨(Nat.le_of_ble_eq_true rfl), (Nat.le_of_ble_eq_true rfl)⟩ dX1_dual_2 ?_
    refine g_iload_n o 1 rfl rfl dX1_dual_5 ?_
    obtain ⟨r12, hr12, hf⟩ := bd_some hf
    refine k_X1_greatestTuple_ o hr12 m_342 (Nat.le_of_ble_eq_true rfl) (Nat.le_of_ble_eq_true rfl) ⟨(Nat.le_of_ble_eq_true rfl), (Nat.le_of_ble_eq_true rfl)⟩ dX1_dual_6 ?_
    refine g_istore_n o [(3, .int r12), (0, .ref (a 0)), (1, .int p0), (2, .int p1)] (Nat.le_of_ble_eq_true rfl) rfl rfl dX1_dual_9 ?_
    refine g_iconst o ic_0 dX1_dual_10 ?_
    refine g_istore o [(4, .int 0), (3, .int r12), (0, .ref (a 0)), (1, .int p0), (2, .int p1)] (Nat.le_of_ble_eq_true rfl) rfl dX1_dual_11 ?_
    refine g_iconst o ic_0 dX1_dual_13 ?_
    refine g_istore o [(5, .int 0), (4, .int 0), (3, .int r12), (0, .ref (a 0)), (1, .int p0), (2, .int p1)] (Nat.le_of_ble_eq_true rfl) rfl dX1_dual_14 ?_
    obtain ⟨r14, hr14, hxr14, hrr14⟩ := bl_some hf
    refine g_perm [5, 2, 1, 0] rfl (b_X1_dual_L16 o (Nat.le_of_ble_eq_true rfl) (Nat.le_of_ble_eq_true rfl) a b c u v w p1 r12 r14 (fun s16 hs => ?_) (fun t13 ht => ?_) FU (0, 0) hr14)
    · have hf := hxr14 s16 hs
      obtain ⟨s16_0, s16_1⟩ := s16
      try dsimp -simprocs only at hf ⊢
      refine g_iload o 0 rfl dX1_dual_48 ?_
      cases Option.some.inj hf
      exact g_iret (hret.1 _ rfl) (Nat.le_of_ble_eq_true rfl) (Nat.le_of_ble_eq_true rfl) (vp_nar_int _) dX1_dual_50
    · have hf := hrr14 t13 ht
      cases Option.some.inj hf
      exact hret
  · cases Option.some.inj hf
    exact k_X1_requireOperation_x o hr10 m_478 (Nat.le_of_ble_eq_true rfl) (Nat.le_of_ble_eq_true rfl) ⟨(Nat.le_of_ble_eq_true rfl), (Nat.le_of_ble_eq_true rfl)⟩ dX1_dual_2 (xw_out o (hret.2 _ rfl) (Nat.le_of_ble_eq_true rfl) (Nat.le_of_ble_eq_true rfl))
theorem c_X1_dual (l : Launch) (hst : l.stackTraces = false) (a b c : Nat → Nat) (u v w : St) (p0 : Int32) (p1 : Int32) (t : (Int32 ⊕ String)) (hf : f_X1_dual u v w p0 p1 = some t) : CoI l yX1_dual (.code yX1_dual cX1_dual 6 (some .int)) 2 2 12 [.ref (a 0), .int p0, .int p1] (wX a u b v c w) (wX a u b v c w) (t) := mkI hst (by decide +kernel) (Nat.le_of_ble_eq_true rfl) (fun x _ o hI hX => b_X1_dual o a b c u v w p0 p1 t hf ⟨hI, hX⟩)
def rt_X1_errorPosition (x : Cx) (a b c : Nat → Nat) (u v w : St) (t : (Int32 ⊕ String)) : Prop := (∀ r, t = .inl r → RetI x cX1_errorPosition .int 1 6 (wX a u b v c w (cxT x)) r) ∧ ∀ E, t = .inr E → RetX x 1 6 (wX a u b v c w (cxT x)) E
set_option maxRecDepth 20000 in
set_option maxHeartbeats 2000000 in
theorem b_X1_errorPosition {x : Cx} (o : Ok x cX1_errorPosition 1 RX1 0 1 6) (a b c : Nat → Nat) (u v w : St) (t : (Int32 ⊕ String)) (hf : f_X1_errorPosition u v w = some t) (hret : rt_X1_errorPosition x a b c u v w t) : G x 1 0 0 (wX a u b v c w (cxT x)) [(0, .ref (a 0))] 0 [] := by
  unfold f_X1_errorPosition at hf
  refine g_aload_n o 0 rfl rfl dX1_errorPosition_0 ?_
  refine X_get5 o m_117 dX1_errorPosition_1 ?_
  refine g_iconst o ic_m1 dX1_errorPosition_4 ?_
  refine g_ic_ne (tgt := 19) o rfl dX1_errorPosition_5 hf (fun hc hf => ?_) (fun hc hf => ?_)
  · refine g_aload_n o 0 rfl rfl dX1_errorPosition_19 ?_
    refine X_get5 o m_117 dX1_errorPosition_20 ?_
    cases Option.some.inj hf
    exact g_iret (hret.1 _ rfl) (Nat.le_of_ble_eq_true rfl) (Nat.le_of_ble_eq_true rfl) (vp_nar_int _) dX1_errorPosition_23
  · cases Option.some.inj hf
    exact g_throwSW o (hret.2 _ rfl) fit_is fit_re rfl m_319 m_61 st_262 at_188 go_188 dX1_errorPosition_8 dX1_errorPosition_11 dX1_errorPosition_12 dX1_errorPosition_15 dX1_errorPosition_18 (Nat.le_of_ble_eq_true rfl) (Nat.le_of_ble_eq_true rfl)
theorem c_X1_errorPosition (l : Launch) (hst : l.stackTraces = false) (a b c : Nat → Nat) (u v w : St) (t : (Int32 ⊕ String)) (hf : f_X1_errorPosition u v w = some t) : CoI l yX1_errorPosition (.code yX1_errorPosition cX1_errorPosition 1 (some .int)) 0 1 6 [.ref (a 0)] (wX a u b v c w) (wX a u b v c w) (t) := mkI hst (by decide +kernel) (Nat.le_of_ble_eq_true rfl) (fun x _ o hI hX => b_X1_errorPosition o a b c u v w t hf ⟨hI, hX⟩)
def rt_X1_firstViolated (x : Cx) (a b c : Nat → Nat) (u v w : St) (t : (Int32 ⊕ String)) : Prop := (∀ r, t = .inl r → RetI x cX1_firstViolated .int 2 12 (wX a u b v c w (cxT x)) r) ∧ ∀ E, t = .inr E → RetX x 2 12 (wX a u b v c w (cxT x)) E
set_option maxRecDepth 20000 in
set_option maxHeartbeats 2000000 in
theorem b_X1_firstViolated_L27 {x : Cx} (o : Ok x cX1_firstViolated 3 RX1 2 2 12) {k n : Nat} (hk : k ≤ 2) (hn : n ≤ 12) (a b c : Nat → Nat) (u : St) (v : St) (w : St) (c1 : Int32) (r : (Int32) ⊕ ((Int32 ⊕ String))) (hX : ∀ s : Int32, r = .inl s → G x 3 k n (wX a u b v c w (cxT x)) [] 58 []) (hR : ∀ t, r = .inr t → rt_X1_firstViolated x a b c u v w t) : ∀ (m : Nat) (s : Int32), loopN (f_X1_firstViolated_s27 u v w c1) m s = some r → G x 3 k n (wX a u b v c w (cxT x)) [(0, .ref (a 0)), (1, .int c1), (2, .int s)] 27 [] := by
  refine loop_W _ (fun (s : Int32) => G x 3 k n (wX a u b v c w (cxT x)) [(0, .ref (a 0)), (1, .int c1), (2, .int s)] 27 []) r ?_
  intro s ww hf hw
  unfold f_X1_firstViolated_s27 at hf
  refine g_iload_n o 2 rfl rfl dX1_firstViolated_27 ?_
  refine g_aload_n o 0 rfl rfl dX1_firstViolated_28 ?_
  refine X_get0 o m_112 dX1_firstViolated_29 ?_
  refine Y_get4 o e_91 dX1_firstViolated_32 ?_
  refine g_ic_ge (tgt := 58) o rfl dX1_firstViolated_35 hf (fun hc hf => ?_) (fun hc hf => ?_)
  · exact g_perm [] rfl (hX _ (lf_x hf hw))
  · refine g_aload_n o 0 rfl rfl dX1_firstViolated_38 ?_
    refine X_get0 o m_112 dX1_firstViolated_39 ?_
    refine g_iload_n o 2 rfl rfl dX1_firstViolated_42 ?_
    refine g_iload_n o 1 rfl rfl dX1_firstViolated_43 ?_
    obtain ⟨r3, hr3, hf⟩ := bd_some hf
    refine k_X0_isSatisfied_NX o hr3 e_794 (Nat.le_of_ble_eq_true rfl) (Nat.le_of_ble_eq_true rfl) ⟨hk, hn⟩ dX1_firstViolated_44 ?_
    refine g_if_ne (tgt := 52) o rfl dX1_firstViolated_47 hf (fun hc hf => ?_) (fun hc hf => ?_)
    · refine g_iinc o [(2, .int (s + 1)), (0, .ref (a 0)), (1, .int c1)] 2 rfl (inc_1 _) (Nat.le_of_ble_eq_true rfl) rfl dX1_firstViolated_52 ?_
      refine g_goto (tgt := 27) o rfl dX1_firstViolated_55 ?_
      have hp := lf_c hf hw
      exact g_perm [1, 2, 0] rfl hp
    · refine g_iload_n o 2 rfl rfl dX1_firstViolated_50 ?_
      exact g_iret ((hR _ (lf_x hf hw)).1 _ rfl) hk hn (vp_nar_int _) dX1_firstViolated_51
set_option maxRecDepth 20000 in
set_option maxHeartbeats 2000000 in
theorem b_X1_firstViolated {x : Cx} (o : Ok x cX1_firstViolated 3 RX1 2 2 12) (a b c : Nat → Nat) (u v w : St) (p0 : Int32) (t : (Int32 ⊕ String)) (hf : f_X1_firstViolated u v w p0 = some t) (hret : rt_X1_firstViolated x a b c u v w t) : G x 3 0 0 (wX a u b v c w (cxT x)) [(0, .ref (a 0)), (1, .int p0)] 0 [] := by
  unfold f_X1_firstViolated at hf
  refine g_iload_n o 1 rfl rfl dX1_firstViolated_0 ?_
  refine g_if_lt (tgt := 15) o rfl dX1_firstViolated_1 hf (fun hc hf => ?_) (fun hc hf => ?_)
  · cases Option.some.inj hf
    exact g_throwS o (hret.2 _ rfl) fit_ia fit_re rfl m_241 m_60 st_232 at_63 go_63 dX1_firstViolated_15 dX1_firstViolated_18 dX1_firstViolated_19 dX1_firstViolated_21 dX1_firstViolated_24 (Nat.le_of_ble_eq_true rfl) (Nat.le_of_ble_eq_true rfl)
  · refine g_iload_n o 1 rfl rfl dX1_firstViolated_4 ?_
    refine g_aload_n o 0 rfl rfl dX1_firstViolated_5 ?_
    refine X_get0 o m_112 dX1_firstViolated_6 ?_
    obtain ⟨r6, hr6, hf⟩ := bd_some hf
    refine k_X0_greatestAssignment_NX o hr6 e_745 (Nat.le_of_ble_eq_true rfl) (Nat.le_of_ble_eq_true rfl) ⟨(Nat.le_of_ble_eq_true rfl), (Nat.le_of_ble_eq_true rfl)⟩ dX1_firstViolated_9 ?_
    refine g_ic_le (tgt := 25) o rfl dX1_firstViolated_12 hf (fun hc hf => ?_) (fun hc hf => ?_)
    · refine g_iconst o ic_0 dX1_firstViolated_25 ?_
      refine g_istore_n o [(2, .int 0), (0, .ref (a 0)), (1, .int p0)] (Nat.le_of_ble_eq_true rfl) rfl rfl dX1_firstViolated_26 ?_
      obtain ⟨r8, hr8, hxr8, hrr8⟩ := bl_some hf
      refine g_perm [1, 2, 0] rfl (b_X1_firstViolated_L27 o (Nat.le_of_ble_eq_true rfl) (Nat.le_of_ble_eq_true rfl) a b c u v w p0 r8 (fun s27 hs => ?_) (fun t7 ht => ?_) FU 0 hr8)
      · have hf := hxr8 s27 hs
        cases Option.some.inj hf
        exact g_throwN o (hret.2 _ rfl) fit_ns fit_rt fit_ex rfl ns_e0 ns_e1 ns_e2 ns_e5 m_534 m_64 st_237 at_137 go_137 dX1_firstViolated_58 dX1_firstViolated_61 dX1_firstViolated_62 dX1_firstViolated_64 dX1_firstViolated_67 (Nat.le_of_ble_eq_true rfl) (Nat.le_of_ble_eq_true rfl)
      · have hf := hrr8 t7 ht
        cases Option.some.inj hf
        exact hret
    · cases Option.some.inj hf
      exact g_throwS o (hret.2 _ rfl) fit_ia fit_re rfl m_241 m_60 st_232 at_63 go_63 dX1_firstViolated_15 dX1_firstViolated_18 dX1_firstViolated_19 dX1_firstViolated_21 dX1_firstViolated_24 (Nat.le_of_ble_eq_true rfl) (Nat.le_of_ble_eq_true rfl)
theorem c_X1_firstViolated (l : Launch) (hst : l.stackTraces = false) (a b c : Nat → Nat) (u v w : St) (p0 : Int32) (t : (Int32 ⊕ String)) (hf : f_X1_firstViolated u v w p0 = some t) : CoI l yX1_firstViolated (.code yX1_firstViolated cX1_firstViolated 3 (some .int)) 2 2 12 [.ref (a 0), .int p0] (wX a u b v c w) (wX a u b v c w) (t) := mkI hst (by decide +kernel) (Nat.le_of_ble_eq_true rfl) (fun x _ o hI hX => b_X1_firstViolated o a b c u v w p0 t hf ⟨hI, hX⟩)
def rt_X1_greatestSolution (x : Cx) (a b c : Nat → Nat) (u v w : St) (t : (Int32 ⊕ String)) : Prop := (∀ r, t = .inl r → RetI x cX1_greatestSolution .int 2 12 (wX a u b v c w (cxT x)) r) ∧ ∀ E, t = .inr E → RetX x 2 12 (wX a u b v c w (cxT x)) E
set_option maxRecDepth 20000 in
set_option maxHeartbeats 2000000 in
theorem b_X1_greatestSolution {x : Cx} (o : Ok x cX1_greatestSolution 1 RX1 15 2 12) (a b c : Nat → Nat) (u v w : St) (t : (Int32 ⊕ String)) (hf : f_X1_greatestSolution u v w = some t) (hret : rt_X1_greatestSolution x a b c u v w t) : G x 1 0 0 (wX a u b v c w (cxT x)) [(0, .ref (a 0))] 0 [] := by
  unfold f_X1_greatestSolution at hf
  refine g_aload_n o 0 rfl rfl dX1_greatestSolution_0 ?_
  refine g_iconst o ic_3 dX1_greatestSolution_1 ?_
  rcases bz_some hf with ⟨r6, hr6, hf⟩ | ⟨E7, hr6, hf⟩
  · refine k_X1_requireKindOfLanguage_n o hr6 m_720 (Nat.le_of_ble_eq_true rfl) (Nat.le_of_ble_eq_true rfl) ⟨(Nat.le_of_ble_eq_true rfl), (Nat.le_of_ble_eq_true rfl)⟩ dX1_greatestSolution_2 ?_
    refine g_aload_n o 0 rfl rfl dX1_greatestSolution_5 ?_
    rcases bz_some hf with ⟨r8, hr8, hf⟩ | ⟨E9, hr8, hf⟩
    · refine k_X1_requireSolutions_n o hr8 m_740 (Nat.le_of_ble_eq_true rfl) (Nat.le_of_ble_eq_true rfl) ⟨(Nat.le_of_ble_eq_true rfl), (Nat.le_of_ble_eq_true rfl)⟩ dX1_greatestSolution_6 ?_
      refine g_aload_n o 0 rfl rfl dX1_greatestSolution_9 ?_
      refine X_get0 o m_112 dX1_greatestSolution_10 ?_
      refine g_iconst o ic_1 dX1_greatestSolution_13 ?_
      obtain ⟨r10, hr10, hf⟩ := bd_some hf
      refine k_X0_variablesThatTake_NX o hr10 e_705 (Nat.le_of_ble_eq_true rfl) (Nat.le_of_ble_eq_true rfl) ⟨(Nat.le_of_ble_eq_true rfl), (Nat.le_of_ble_eq_true rfl)⟩ dX1_greatestSolution_14 ?_
      cases Option.some.inj hf
      exact g_iret (hret.1 _ rfl) (Nat.le_of_ble_eq_true rfl) (Nat.le_of_ble_eq_true rfl) (vp_nar_int _) dX1_greatestSolution_17
    · cases Option.some.inj hf
      exact k_X1_requireSolutions_x o hr8 m_740 (Nat.le_of_ble_eq_true rfl) (Nat.le_of_ble_eq_true rfl) ⟨(Nat.le_of_ble_eq_true rfl), (Nat.le_of_ble_eq_true rfl)⟩ dX1_greatestSolution_6 (xw_out o (hret.2 _ rfl) (Nat.le_of_ble_eq_true rfl) (Nat.le_of_ble_eq_true rfl))
  · cases Option.some.inj hf
    exact k_X1_requireKindOfLanguage_x o hr6 m_720 (Nat.le_of_ble_eq_true rfl) (Nat.le_of_ble_eq_true rfl) ⟨(Nat.le_of_ble_eq_true rfl), (Nat.le_of_ble_eq_true rfl)⟩ dX1_greatestSolution_2 (xw_out o (hret.2 _ rfl) (Nat.le_of_ble_eq_true rfl) (Nat.le_of_ble_eq_true rfl))
theorem c_X1_greatestSolution (l : Launch) (hst : l.stackTraces = false) (a b c : Nat → Nat) (u v w : St) (t : (Int32 ⊕ String)) (hf : f_X1_greatestSolution u v w = some t) : CoI l yX1_greatestSolution (.code yX1_greatestSolution cX1_greatestSolution 1 (some .int)) 15 2 12 [.ref (a 0)] (wX a u b v c w) (wX a u b v c w) (t) := mkI hst (by decide +kernel) (Nat.le_of_ble_eq_true rfl) (fun x _ o hI hX => b_X1_greatestSolution o a b c u v w t hf ⟨hI, hX⟩)
def rt_X1_hasKind (x : Cx) (a b c : Nat → Nat) (u v w : St) (t : (Int32 ⊕ String)) : Prop := (∀ r, t = .inl r → RetI x cX1_hasKind .boolean 1 6 (wX a u b v c w (cxT x)) r) ∧ ∀ E, t = .inr E → RetX x 1 6 (wX a u b v c w (cxT x)) E
set_option maxRecDepth 20000 in
set_option maxHeartbeats 2000000 in
theorem b_X1_hasKind {x : Cx} (o : Ok x cX1_hasKind 2 RX1 5 1 6) (a b c : Nat → Nat) (u v w : St) (p0 : Int32) (t : (Int32 ⊕ String)) (hf : f_X1_hasKind u v w p0 = some t) (hret : rt_X1_hasKind x a b c u v w t) : G x 2 0 0 (wX a u b v c w (cxT x)) [(0, .ref (a 0)), (1, .int p0)] 0 [] := by
  unfold f_X1_hasKind at hf
  refine g_iload_n o 1 rfl rfl dX1_hasKind_0 ?_
  rcases bz_some hf with ⟨r4, hr4, hf⟩ | ⟨E5, hr4, hf⟩
  · refine k_X1_requireKind_n o hr4 m_620 (Nat.le_of_ble_eq_true rfl) (Nat.le_of_ble_eq_true rfl) ⟨(Nat.le_of_ble_eq_true rfl), (Nat.le_of_ble_eq_true rfl)⟩ dX1_hasKind_1 ?_
    refine g_aload_n o 0 rfl rfl dX1_hasKind_4 ?_
    refine g_iload_n o 1 rfl rfl dX1_hasKind_5 ?_
    obtain ⟨r6, hr6, hf⟩ := bd_some hf
    refine k_X1_isOfKind_ o hr6 m_635 (Nat.le_of_ble_eq_true rfl) (Nat.le_of_ble_eq_true rfl) ⟨(Nat.le_of_ble_eq_true rfl), (Nat.le_of_ble_eq_true rfl)⟩ dX1_hasKind_6 ?_
    obtain ⟨hb, hf⟩ := gd_some hf
    cases Option.some.inj hf
    exact g_iret (hret.1 _ rfl) (Nat.le_of_ble_eq_true rfl) (Nat.le_of_ble_eq_true rfl) (okB_n hb) dX1_hasKind_9
  · cases Option.some.inj hf
    exact k_X1_requireKind_x o hr4 m_620 (Nat.le_of_ble_eq_true rfl) (Nat.le_of_ble_eq_true rfl) ⟨(Nat.le_of_ble_eq_true rfl), (Nat.le_of_ble_eq_true rfl)⟩ dX1_hasKind_1 (xw_out o (hret.2 _ rfl) (Nat.le_of_ble_eq_true rfl) (Nat.le_of_ble_eq_true rfl))
theorem c_X1_hasKind (l : Launch) (hst : l.stackTraces = false) (a b c : Nat → Nat) (u v w : St) (p0 : Int32) (t : (Int32 ⊕ String)) (hf : f_X1_hasKind u v w p0 = some t) : CoI l yX1_hasKind (.code yX1_hasKind cX1_hasKind 2 (some .boolean)) 5 1 6 [.ref (a 0), .int p0] (wX a u b v c w) (wX a u b v c w) (t) := mkI hst (by decide +kernel) (Nat.le_of_ble_eq_true rfl) (fun x _ o hI hX => b_X1_hasKind o a b c u v w p0 t hf ⟨hI, hX⟩)
def rt_X1_implies (x : Cx) (a b c : Nat → Nat) (u v w : St) (t : (Int32 ⊕ String)) : Prop := (∀ r, t = .inl r → RetI x cX1_implies .boolean 5 30 (wX a u b v c w (cxT x)) r) ∧ ∀ E, t = .inr E → RetX x 5 30 (wX a u b v c w (cxT x)) E
set_option maxRecDepth 20000 in
set_option maxHeartbeats 2000000 in
theorem b_X1_implies {x : Cx} (o : Ok x cX1_implies 5 RX1 14 5 30) (a b c : Nat → Nat) (u v w : St) (p0 : Int32) (p1 : Int32) (p2 : Int32) (p3 : Int32) (t : (Int32 ⊕ String)) (hf : f_X1_implies u v w p0 p1 p2 p3 = some t) (hret : rt_X1_implies x a b c u v w t) : G x 5 0 0 (wX a u b v c w (cxT x)) [(0, .ref (a 0)), (1, .int p0), (2, .int p1), (3, .int p2), (4, .int p3)] 0 [] := by
  unfold f_X1_implies at hf
  refine g_aload_n o 0 rfl rfl dX1_implies_0 ?_
  refine g_iconst o ic_4 dX1_implies_1 ?_
  rcases bz_some hf with ⟨r12, hr12, hf⟩ | ⟨E13, hr12, hf⟩
  · refine k_X1_requireKindOfLanguage_n o hr12 m_720 (Nat.le_of_ble_eq_true rfl) (Nat.le_of_ble_eq_true rfl) ⟨(Nat.le_of_ble_eq_true rfl), (Nat.le_of_ble_eq_true rfl)⟩ dX1_implies_2 ?_
    refine g_aload_n o 0 rfl rfl dX1_implies_5 ?_
    refine g_iload_n o 1 rfl rfl dX1_implies_6 ?_
    rcases bz_some hf with ⟨r14, hr14, hf⟩ | ⟨E15, hr14, hf⟩
    · refine k_X1_requireVariable_n o hr14 m_666 (Nat.le_of_ble_eq_true rfl) (Nat.le_of_ble_eq_true rfl) ⟨(Nat.le_of_ble_eq_true rfl), (Nat.le_of_ble_eq_true rfl)⟩ dX1_implies_7 ?_
      refine g_aload_n o 0 rfl rfl dX1_implies_10 ?_
      refine g_iload_n o 3 rfl rfl dX1_implies_11 ?_
      rcases bz_some hf with ⟨r16, hr16, hf⟩ | ⟨E17, hr16, hf⟩
      · refine k_X1_requireVariable_n o hr16 m_666 (Nat.le_of_ble_eq_true rfl) (Nat.le_of_ble_eq_true rfl) ⟨(Nat.le_of_ble_eq_true rfl), (Nat.le_of_ble_eq_true rfl)⟩ dX1_implies_12 ?_
        refine g_iload_n o 2 rfl rfl dX1_implies_15 ?_
        rcases bz_some hf with ⟨r18, hr18, hf⟩ | ⟨E19, hr18, hf⟩
        · refine k_X1_requireBit_n o hr18 m_354 (Nat.le_of_ble_eq_true rfl) (Nat.le_of_ble_eq_true rfl) ⟨(Nat.le_of_ble_eq_true rfl), (Nat.le_of_ble_eq_true rfl)⟩ dX1_implies_16 ?_
          refine g_iload o 4 rfl dX1_implies_19 ?_
          rcases bz_some hf with ⟨r20, hr20, hf⟩ | ⟨E21, hr20, hf⟩
          · refine k_X1_requireBit_n o hr20 m_354 (Nat.le_of_ble_eq_true rfl) (Nat.le_of_ble_eq_true rfl) ⟨(Nat.le_of_ble_eq_true rfl), (Nat.le_of_ble_eq_true rfl)⟩ dX1_implies_21 ?_
            refine g_aload_n o 0 rfl rfl dX1_implies_24 ?_
            refine X_get0 o m_112 dX1_implies_25 ?_
            refine g_iload_n o 1 rfl rfl dX1_implies_28 ?_
            refine g_iload_n o 2 rfl rfl dX1_implies_29 ?_
            refine g_iload_n o 3 rfl rfl dX1_implies_30 ?_
            refine g_iconst o ic_1 dX1_implies_31 ?_
            refine g_iload o 4 rfl dX1_implies_32 ?_
            refine g_isub o dX1_implies_34 ?_
            obtain ⟨r22, hr22, hf⟩ := bd_some hf
            refine k_X0_hasSolutionWith_NX o hr22 e_763 (Nat.le_of_ble_eq_true rfl) (Nat.le_of_ble_eq_true rfl) ⟨(Nat.le_of_ble_eq_true rfl), (Nat.le_of_ble_eq_true rfl)⟩ dX1_implies_35 ?_
            refine g_if_ne (tgt := 45) o rfl dX1_implies_38 hf (fun hc hf => ?_) (fun hc hf => ?_)
            · refine g_iconst o ic_0 dX1_implies_45 ?_
              cases Option.some.inj hf
              exact g_iret (hret.1 _ rfl) (Nat.le_of_ble_eq_true rfl) (Nat.le_of_ble_eq_true rfl) nb_0 dX1_implies_46
            · refine g_iconst o ic_1 dX1_implies_41 ?_
              refine g_goto (tgt := 46) o rfl dX1_implies_42 ?_
              cases Option.some.inj hf
              exact g_iret (hret.1 _ rfl) (Nat.le_of_ble_eq_true rfl) (Nat.le_of_ble_eq_true rfl) nb_1 dX1_implies_46
          · cases Option.some.inj hf
            exact k_X1_requireBit_x o hr20 m_354 (Nat.le_of_ble_eq_true rfl) (Nat.le_of_ble_eq_true rfl) ⟨(Nat.le_of_ble_eq_true rfl), (Nat.le_of_ble_eq_true rfl)⟩ dX1_implies_21 (xw_out o (hret.2 _ rfl) (Nat.le_of_ble_eq_true rfl) (Nat.le_of_ble_eq_true rfl))
        · cases Option.some.inj hf
          exact k_X1_requireBit_x o hr18 m_354 (Nat.le_of_ble_eq_true rfl) (Nat.le_of_ble_eq_true rfl) ⟨(Nat.le_of_ble_eq_true rfl), (Nat.le_of_ble_eq_true rfl)⟩ dX1_implies_16 (xw_out o (hret.2 _ rfl) (Nat.le_of_ble_eq_true rfl) (Nat.le_of_ble_eq_true rfl))
      · cases Option.some.inj hf
        exact k_X1_requireVariable_x o hr16 m_666 (Nat.le_of_ble_eq_true rfl) (Nat.le_of_ble_eq_true rfl) ⟨(Nat.le_of_ble_eq_true rfl), (Nat.le_of_ble_eq_true rfl)⟩ dX1_implies_12 (xw_out o (hret.2 _ rfl) (Nat.le_of_ble_eq_true rfl) (Nat.le_of_ble_eq_true rfl))
    · cases Option.some.inj hf
      exact k_X1_requireVariable_x o hr14 m_666 (Nat.le_of_ble_eq_true rfl) (Nat.le_of_ble_eq_true rfl) ⟨(Nat.le_of_ble_eq_true rfl), (Nat.le_of_ble_eq_true rfl)⟩ dX1_implies_7 (xw_out o (hret.2 _ rfl) (Nat.le_of_ble_eq_true rfl) (Nat.le_of_ble_eq_true rfl))
  · cases Option.some.inj hf
    exact k_X1_requireKindOfLanguage_x o hr12 m_720 (Nat.le_of_ble_eq_true rfl) (Nat.le_of_ble_eq_true rfl) ⟨(Nat.le_of_ble_eq_true rfl), (Nat.le_of_ble_eq_true rfl)⟩ dX1_implies_2 (xw_out o (hret.2 _ rfl) (Nat.le_of_ble_eq_true rfl) (Nat.le_of_ble_eq_true rfl))
theorem c_X1_implies (l : Launch) (hst : l.stackTraces = false) (a b c : Nat → Nat) (u v w : St) (p0 : Int32) (p1 : Int32) (p2 : Int32) (p3 : Int32) (t : (Int32 ⊕ String)) (hf : f_X1_implies u v w p0 p1 p2 p3 = some t) : CoI l yX1_implies (.code yX1_implies cX1_implies 5 (some .boolean)) 14 5 30 [.ref (a 0), .int p0, .int p1, .int p2, .int p3] (wX a u b v c w) (wX a u b v c w) (t) := mkI hst (by decide +kernel) (Nat.le_of_ble_eq_true rfl) (fun x _ o hI hX => b_X1_implies o a b c u v w p0 p1 p2 p3 t hf ⟨hI, hX⟩)
def rt_X1_isForced (x : Cx) (a b c : Nat → Nat) (u v w : St) (t : (Int32 ⊕ String)) : Prop := (∀ r, t = .inl r → RetI x cX1_isForced .boolean 2 12 (wX a u b v c w (cxT x)) r) ∧ ∀ E, t = .inr E → RetX x 2 12 (wX a u b v c w (cxT x)) E
set_option maxRecDepth 20000 in
set_option maxHeartbeats 2000000 in
theorem b_X1_isForced {x : Cx} (o : Ok x cX1_isForced 3 RX1 14 2 12) (a b c : Nat → Nat) (u v w : St) (p0 : Int32) (p1 : Int32) (t : (Int32 ⊕ String)) (hf : f_X1_isForced u v w p0 p1 = some t) (hret : rt_X1_isForced x a b c u v w t) : G x 3 0 0 (wX a u b v c w (cxT x)) [(0, .ref (a 0)), (1, .int p0), (2, .int p1)] 0 [] := by
  unfold f_X1_isForced at hf
  refine g_aload_n o 0 rfl rfl dX1_isForced_0 ?_
  refine g_iload_n o 1 rfl rfl dX1_isForced_1 ?_
  rcases bz_some hf with ⟨r7, hr7, hf⟩ | ⟨E8, hr7, hf⟩
  · refine k_X1_requireVariable_n o hr7 m_666 (Nat.le_of_ble_eq_true rfl) (Nat.le_of_ble_eq_true rfl) ⟨(Nat.le_of_ble_eq_true rfl), (Nat.le_of_ble_eq_true rfl)⟩ dX1_isForced_2 ?_
    refine g_iload_n o 2 rfl rfl dX1_isForced_5 ?_
    rcases bz_some hf with ⟨r9, hr9, hf⟩ | ⟨E10, hr9, hf⟩
    · refine k_X1_requireBit_n o hr9 m_354 (Nat.le_of_ble_eq_true rfl) (Nat.le_of_ble_eq_true rfl) ⟨(Nat.le_of_ble_eq_true rfl), (Nat.le_of_ble_eq_true rfl)⟩ dX1_isForced_6 ?_
      refine g_aload_n o 0 rfl rfl dX1_isForced_9 ?_
      refine X_get0 o m_112 dX1_isForced_10 ?_
      refine g_iconst o ic_1 dX1_isForced_13 ?_
      refine g_iload_n o 2 rfl rfl dX1_isForced_14 ?_
      refine g_isub o dX1_isForced_15 ?_
      obtain ⟨r11, hr11, hf⟩ := bd_some hf
      refine k_X0_variablesThatTake_NX o hr11 e_705 (Nat.le_of_ble_eq_true rfl) (Nat.le_of_ble_eq_true rfl) ⟨(Nat.le_of_ble_eq_true rfl), (Nat.le_of_ble_eq_true rfl)⟩ dX1_isForced_16 ?_
      refine g_iload_n o 1 rfl rfl dX1_isForced_19 ?_
      obtain ⟨r12, hr12, hf⟩ := bd_some hf
      refine k_X1_has_ o hr12 m_394 (Nat.le_of_ble_eq_true rfl) (Nat.le_of_ble_eq_true rfl) ⟨(Nat.le_of_ble_eq_true rfl), (Nat.le_of_ble_eq_true rfl)⟩ dX1_isForced_20 ?_
      refine g_if_ne (tgt := 30) o rfl dX1_isForced_23 hf (fun hc hf => ?_) (fun hc hf => ?_)
      · refine g_iconst o ic_0 dX1_isForced_30 ?_
        cases Option.some.inj hf
        exact g_iret (hret.1 _ rfl) (Nat.le_of_ble_eq_true rfl) (Nat.le_of_ble_eq_true rfl) nb_0 dX1_isForced_31
      · refine g_iconst o ic_1 dX1_isForced_26 ?_
        refine g_goto (tgt := 31) o rfl dX1_isForced_27 ?_
        cases Option.some.inj hf
        exact g_iret (hret.1 _ rfl) (Nat.le_of_ble_eq_true rfl) (Nat.le_of_ble_eq_true rfl) nb_1 dX1_isForced_31
    · cases Option.some.inj hf
      exact k_X1_requireBit_x o hr9 m_354 (Nat.le_of_ble_eq_true rfl) (Nat.le_of_ble_eq_true rfl) ⟨(Nat.le_of_ble_eq_true rfl), (Nat.le_of_ble_eq_true rfl)⟩ dX1_isForced_6 (xw_out o (hret.2 _ rfl) (Nat.le_of_ble_eq_true rfl) (Nat.le_of_ble_eq_true rfl))
  · cases Option.some.inj hf
    exact k_X1_requireVariable_x o hr7 m_666 (Nat.le_of_ble_eq_true rfl) (Nat.le_of_ble_eq_true rfl) ⟨(Nat.le_of_ble_eq_true rfl), (Nat.le_of_ble_eq_true rfl)⟩ dX1_isForced_2 (xw_out o (hret.2 _ rfl) (Nat.le_of_ble_eq_true rfl) (Nat.le_of_ble_eq_true rfl))
theorem c_X1_isForced (l : Launch) (hst : l.stackTraces = false) (a b c : Nat → Nat) (u v w : St) (p0 : Int32) (p1 : Int32) (t : (Int32 ⊕ String)) (hf : f_X1_isForced u v w p0 p1 = some t) : CoI l yX1_isForced (.code yX1_isForced cX1_isForced 3 (some .boolean)) 14 2 12 [.ref (a 0), .int p0, .int p1] (wX a u b v c w) (wX a u b v c w) (t) := mkI hst (by decide +kernel) (Nat.le_of_ble_eq_true rfl) (fun x _ o hI hX => b_X1_isForced o a b c u v w p0 p1 t hf ⟨hI, hX⟩)
def rt_X1_isIdempotent (x : Cx) (a b c : Nat → Nat) (u v w : St) (t : (Int32 ⊕ String)) : Prop := (∀ r, t = .inl r → RetI x cX1_isIdempotent .boolean 2 12 (wX a u b v c w (cxT x)) r) ∧ ∀ E, t = .inr E → RetX x 2 12 (wX a u b v c w (cxT x)) E
set_option maxRecDepth 20000 in
set_option maxHeartbeats 2000000 in
theorem b_X1_isIdempotent {x : Cx} (o : Ok x cX1_isIdempotent 3 RX1 2 2 12) (a b c : Nat → Nat) (u v w : St) (p0 : Int32) (p1 : Int32) (t : (Int32 ⊕ String)) (hf : f_X1_isIdempotent u v w p0 p1 = some t) (hret : rt_X1_isIdempotent x a b c u v w t) : G x 3 0 0 (wX a u b v c w (cxT x)) [(0, .ref (a 0)), (1, .int p0), (2, .int p1)] 0 [] := by
  unfold f_X1_isIdempotent at hf
  refine g_iload_n o 1 rfl rfl dX1_isIdempotent_0 ?_
  refine g_iload_n o 2 rfl rfl dX1_isIdempotent_1 ?_
  rcases bz_some hf with ⟨r6, hr6, hf⟩ | ⟨E7, hr6, hf⟩
  · refine k_X1_requireOperation_n o hr6 m_478 (Nat.le_of_ble_eq_true rfl) (Nat.le_of_ble_eq_true rfl) ⟨(Nat.le_of_ble_eq_true rfl), (Nat.le_of_ble_eq_true rfl)⟩ dX1_isIdempotent_2 ?_
    refine g_iload_n o 2 rfl rfl dX1_isIdempotent_5 ?_
    refine g_iconst o ic_0 dX1_isIdempotent_6 ?_
    obtain ⟨r8, hr8, hf⟩ := bd_some hf
    refine k_X1_has_ o hr8 m_394 (Nat.le_of_ble_eq_true rfl) (Nat.le_of_ble_eq_true rfl) ⟨(Nat.le_of_ble_eq_true rfl), (Nat.le_of_ble_eq_true rfl)⟩ dX1_isIdempotent_7 ?_
    refine g_if_ne (tgt := 28) o rfl dX1_isIdempotent_10 hf (fun hc hf => ?_) (fun hc hf => ?_)
    · refine g_iconst o ic_0 dX1_isIdempotent_28 ?_
      cases Option.some.inj hf
      exact g_iret (hret.1 _ rfl) (Nat.le_of_ble_eq_true rfl) (Nat.le_of_ble_eq_true rfl) nb_0 dX1_isIdempotent_29
    · refine g_iload_n o 2 rfl rfl dX1_isIdempotent_13 ?_
      refine g_iload_n o 1 rfl rfl dX1_isIdempotent_14 ?_
      obtain ⟨r9, hr9, hf⟩ := bd_some hf
      refine k_X1_greatestTuple_ o hr9 m_342 (Nat.le_of_ble_eq_true rfl) (Nat.le_of_ble_eq_true rfl) ⟨(Nat.le_of_ble_eq_true rfl), (Nat.le_of_ble_eq_true rfl)⟩ dX1_isIdempotent_15 ?_
      obtain ⟨r10, hr10, hf⟩ := bd_some hf
      refine k_X1_has_ o hr10 m_394 (Nat.le_of_ble_eq_true rfl) (Nat.le_of_ble_eq_true rfl) ⟨(Nat.le_of_ble_eq_true rfl), (Nat.le_of_ble_eq_true rfl)⟩ dX1_isIdempotent_18 ?_
      refine g_if_eq (tgt := 28) o rfl dX1_isIdempotent_21 hf (fun hc hf => ?_) (fun hc hf => ?_)
      · refine g_iconst o ic_0 dX1_isIdempotent_28 ?_
        cases Option.some.inj hf
        exact g_iret (hret.1 _ rfl) (Nat.le_of_ble_eq_true rfl) (Nat.le_of_ble_eq_true rfl) nb_0 dX1_isIdempotent_29
      · refine g_iconst o ic_1 dX1_isIdempotent_24 ?_
        refine g_goto (tgt := 29) o rfl dX1_isIdempotent_25 ?_
        cases Option.some.inj hf
        exact g_iret (hret.1 _ rfl) (Nat.le_of_ble_eq_true rfl) (Nat.le_of_ble_eq_true rfl) nb_1 dX1_isIdempotent_29
  · cases Option.some.inj hf
    exact k_X1_requireOperation_x o hr6 m_478 (Nat.le_of_ble_eq_true rfl) (Nat.le_of_ble_eq_true rfl) ⟨(Nat.le_of_ble_eq_true rfl), (Nat.le_of_ble_eq_true rfl)⟩ dX1_isIdempotent_2 (xw_out o (hret.2 _ rfl) (Nat.le_of_ble_eq_true rfl) (Nat.le_of_ble_eq_true rfl))
theorem c_X1_isIdempotent (l : Launch) (hst : l.stackTraces = false) (a b c : Nat → Nat) (u v w : St) (p0 : Int32) (p1 : Int32) (t : (Int32 ⊕ String)) (hf : f_X1_isIdempotent u v w p0 p1 = some t) : CoI l yX1_isIdempotent (.code yX1_isIdempotent cX1_isIdempotent 3 (some .boolean)) 2 2 12 [.ref (a 0), .int p0, .int p1] (wX a u b v c w) (wX a u b v c w) (t) := mkI hst (by decide +kernel) (Nat.le_of_ble_eq_true rfl) (fun x _ o hI hX => b_X1_isIdempotent o a b c u v w p0 p1 t hf ⟨hI, hX⟩)
def rt_X1_isMonotone (x : Cx) (a b c : Nat → Nat) (u v w : St) (t : (Int32 ⊕ String)) : Prop := (∀ r, t = .inl r → RetI x cX1_isMonotone .boolean 2 12 (wX a u b v c w (cxT x)) r) ∧ ∀ E, t = .inr E → RetX x 2 12 (wX a u b v c w (cxT x)) E
set_option maxRecDepth 20000 in
set_option maxHeartbeats 2000000 in
theorem b_X1_isMonotone_L7 {x : Cx} (o : Ok x cX1_isMonotone 4 RX1 3 2 12) {k n : Nat} (hk : k ≤ 2) (hn : n ≤ 12) (a b c : Nat → Nat) (u : St) (v : St) (w : St) (c1 : Int32) (c2 : Int32) (r : (Int32) ⊕ ((Int32 ⊕ String))) (hX : ∀ s : Int32, r = .inl s → G x 4 k n (wX a u b v c w (cxT x)) [] 38 []) (hR : ∀ t, r = .inr t → rt_X1_isMonotone x a b c u v w t) : ∀ (m : Nat) (s : Int32), loopN (f_X1_isMonotone_s7 u v w c1 c2) m s = some r → G x 4 k n (wX a u b v c w (cxT x)) [(1, .int c1), (2, .int c2), (3, .int s)] 7 [] := by
  refine loop_W _ (fun (s : Int32) => G x 4 k n (wX a u b v c w (cxT x)) [(1, .int c1), (2, .int c2), (3, .int s)] 7 []) r ?_
  intro s ww hf hw
  unfold f_X1_isMonotone_s7 at hf
  refine g_iload_n o 2 rfl rfl dX1_isMonotone_7 ?_
  refine g_iload_n o 0 rfl rfl dX1_isMonotone_8 ?_
  refine g_ic_ge (tgt := 38) o rfl dX1_isMonotone_9 hf (fun hc hf => ?_) (fun hc hf => ?_)
  · exact g_perm [] rfl (hX _ (lf_x hf hw))
  · refine g_iload_n o 0 rfl rfl dX1_isMonotone_12 ?_
    refine g_iload_n o 1 rfl rfl dX1_isMonotone_13 ?_
    refine g_iload_n o 2 rfl rfl dX1_isMonotone_14 ?_
    obtain ⟨r5, hr5, hf⟩ := bd_some hf
    refine k_X1_valuesAtZero_ o hr5 m_564 (Nat.le_of_ble_eq_true rfl) (Nat.le_of_ble_eq_true rfl) ⟨hk, hn⟩ dX1_isMonotone_15 ?_
    refine g_iload_n o 0 rfl rfl dX1_isMonotone_18 ?_
    refine g_iload_n o 1 rfl rfl dX1_isMonotone_19 ?_
    refine g_iload_n o 2 rfl rfl dX1_isMonotone_20 ?_
    obtain ⟨r6, hr6, hf⟩ := bd_some hf
    refine k_X1_valuesAtOne_ o hr6 m_572 (Nat.le_of_ble_eq_true rfl) (Nat.le_of_ble_eq_true rfl) ⟨hk, hn⟩ dX1_isMonotone_21 ?_
    refine g_iconst o ic_m1 dX1_isMonotone_24 ?_
    refine g_ixor o dX1_isMonotone_25 ?_
    refine g_iand o dX1_isMonotone_26 ?_
    refine g_if_eq (tgt := 32) o rfl dX1_isMonotone_27 hf (fun hc hf => ?_) (fun hc hf => ?_)
    · refine g_iinc o [(3, .int (s + 1)), (1, .int c1), (2, .int c2)] 2 rfl (inc_1 _) (Nat.le_of_ble_eq_true rfl) rfl dX1_isMonotone_32 ?_
      refine g_goto (tgt := 7) o rfl dX1_isMonotone_35 ?_
      have hp := lf_c hf hw
      exact g_perm [1, 2, 0] rfl hp
    · refine g_iconst o ic_0 dX1_isMonotone_30 ?_
      exact g_iret ((hR _ (lf_x hf hw)).1 _ rfl) hk hn nb_0 dX1_isMonotone_31
set_option maxRecDepth 20000 in
set_option maxHeartbeats 2000000 in
theorem b_X1_isMonotone {x : Cx} (o : Ok x cX1_isMonotone 4 RX1 3 2 12) (a b c : Nat → Nat) (u v w : St) (p0 : Int32) (p1 : Int32) (t : (Int32 ⊕ String)) (hf : f_X1_isMonotone u v w p0 p1 = some t) (hret : rt_X1_isMonotone x a b c u v w t) : G x 4 0 0 (wX a u b v c w (cxT x)) [(0, .ref (a 0)), (1, .int p0), (2, .int p1)] 0 [] := by
  unfold f_X1_isMonotone at hf
  refine g_iload_n o 1 rfl rfl dX1_isMonotone_0 ?_
  refine g_iload_n o 2 rfl rfl dX1_isMonotone_1 ?_
  rcases bz_some hf with ⟨r9, hr9, hf⟩ | ⟨E10, hr9, hf⟩
  · refine k_X1_requireOperation_n o hr9 m_478 (Nat.le_of_ble_eq_true rfl) (Nat.le_of_ble_eq_true rfl) ⟨(Nat.le_of_ble_eq_true rfl), (Nat.le_of_ble_eq_true rfl)⟩ dX1_isMonotone_2 ?_
    refine g_iconst o ic_0 dX1_isMonotone_5 ?_
    refine g_istore_n o [(3, .int 0), (0, .ref (a 0)), (1, .int p0), (2, .int p1)] (Nat.le_of_ble_eq_true rfl) rfl rfl dX1_isMonotone_6 ?_
    obtain ⟨r12, hr12, hxr12, hrr12⟩ := bl_some hf
    refine g_perm [2, 3, 0] rfl (b_X1_isMonotone_L7 o (Nat.le_of_ble_eq_true rfl) (Nat.le_of_ble_eq_true rfl) a b c u v w p0 p1 r12 (fun s7 hs => ?_) (fun t11 ht => ?_) FU 0 hr12)
    · have hf := hxr12 s7 hs
      refine g_iconst o ic_1 dX1_isMonotone_38 ?_
      cases Option.some.inj hf
      exact g_iret (hret.1 _ rfl) (Nat.le_of_ble_eq_true rfl) (Nat.le_of_ble_eq_true rfl) nb_1 dX1_isMonotone_39
    · have hf := hrr12 t11 ht
      cases Option.some.inj hf
      exact hret
  · cases Option.some.inj hf
    exact k_X1_requireOperation_x o hr9 m_478 (Nat.le_of_ble_eq_true rfl) (Nat.le_of_ble_eq_true rfl) ⟨(Nat.le_of_ble_eq_true rfl), (Nat.le_of_ble_eq_true rfl)⟩ dX1_isMonotone_2 (xw_out o (hret.2 _ rfl) (Nat.le_of_ble_eq_true rfl) (Nat.le_of_ble_eq_true rfl))
theorem c_X1_isMonotone (l : Launch) (hst : l.stackTraces = false) (a b c : Nat → Nat) (u v w : St) (p0 : Int32) (p1 : Int32) (t : (Int32 ⊕ String)) (hf : f_X1_isMonotone u v w p0 p1 = some t) : CoI l yX1_isMonotone (.code yX1_isMonotone cX1_isMonotone 4 (some .boolean)) 3 2 12 [.ref (a 0), .int p0, .int p1] (wX a u b v c w) (wX a u b v c w) (t) := mkI hst (by decide +kernel) (Nat.le_of_ble_eq_true rfl) (fun x _ o hI hX => b_X1_isMonotone o a b c u v w p0 p1 t hf ⟨hI, hX⟩)
def rt_X1_isPolymorphism (x : Cx) (a b c : Nat → Nat) (u v w : St) (t : (Int32 ⊕ String)) : Prop := (∀ r, t = .inl r → RetI x cX1_isPolymorphism .boolean 2 12 (wX a u b v c w (cxT x)) r) ∧ ∀ E, t = .inr E → RetX x 2 12 (wX a u b v c w (cxT x)) E
set_option maxRecDepth 20000 in
set_option maxHeartbeats 2000000 in
theorem b_X1_isPolymorphism {x : Cx} (o : Ok x cX1_isPolymorphism 3 RX1 4 2 12) (a b c : Nat → Nat) (u v w : St) (p0 : Int32) (p1 : Int32) (t : (Int32 ⊕ String)) (hf : f_X1_isPolymorphism u v w p0 p1 = some t) (hret : rt_X1_isPolymorphism x a b c u v w t) : G x 3 0 0 (wX a u b v c w (cxT x)) [(0, .ref (a 0)), (1, .int p0), (2, .int p1)] 0 [] := by
  unfold f_X1_isPolymorphism at hf
  refine g_iload_n o 1 rfl rfl dX1_isPolymorphism_0 ?_
  refine g_iload_n o 2 rfl rfl dX1_isPolymorphism_1 ?_
  rcases bz_some hf with ⟨r4, hr4, hf⟩ | ⟨E5, hr4, hf⟩
  · refine k_X1_requireOperation_n o hr4 m_478 (Nat.le_of_ble_eq_true rfl) (Nat.le_of_ble_eq_true rfl) ⟨(Nat.le_of_ble_eq_true rfl), (Nat.le_of_ble_eq_true rfl)⟩ dX1_isPolymorphism_2 ?_
    refine g_aload_n o 0 rfl rfl dX1_isPolymorphism_5 ?_
    refine g_iload_n o 1 rfl rfl dX1_isPolymorphism_6 ?_
    refine g_iload_n o 2 rfl rfl dX1_isPolymorphism_7 ?_
    obtain ⟨r6, hr6, hf⟩ := bd_some hf
    refine k_X1_areAllPreserved_ o hr6 m_515 (Nat.le_of_ble_eq_true rfl) (Nat.le_of_ble_eq_true rfl) ⟨(Nat.le_of_ble_eq_true rfl), (Nat.le_of_ble_eq_true rfl)⟩ dX1_isPolymorphism_8 ?_
    obtain ⟨hb, hf⟩ := gd_some hf
    cases Option.some.inj hf
    exact g_iret (hret.1 _ rfl) (Nat.le_of_ble_eq_true rfl) (Nat.le_of_ble_eq_true rfl) (okB_n hb) dX1_isPolymorphism_11
  · cases Option.some.inj hf
    exact k_X1_requireOperation_x o hr4 m_478 (Nat.le_of_ble_eq_true rfl) (Nat.le_of_ble_eq_true rfl) ⟨(Nat.le_of_ble_eq_true rfl), (Nat.le_of_ble_eq_true rfl)⟩ dX1_isPolymorphism_2 (xw_out o (hret.2 _ rfl) (Nat.le_of_ble_eq_true rfl) (Nat.le_of_ble_eq_true rfl))
theorem c_X1_isPolymorphism (l : Launch) (hst : l.stackTraces = false) (a b c : Nat → Nat) (u v w : St) (p0 : Int32) (p1 : Int32) (t : (Int32 ⊕ String)) (hf : f_X1_isPolymorphism u v w p0 p1 = some t) : CoI l yX1_isPolymorphism (.code yX1_isPolymorphism cX1_isPolymorphism 3 (some .boolean)) 4 2 12 [.ref (a 0), .int p0, .int p1] (wX a u b v c w) (wX a u b v c w) (t) := mkI hst (by decide +kernel) (Nat.le_of_ble_eq_true rfl) (fun x _ o hI hX => b_X1_isPolymorphism o a b c u v w p0 p1 t hf ⟨hI, hX⟩)
def rt_X1_isRedundant (x : Cx) (a b c : Nat → Nat) (u v w : St) (t : (Int32 ⊕ String)) : Prop := (∀ r, t = .inl r → RetI x cX1_isRedundant .boolean 1 6 (wX a u b v c w (cxT x)) r) ∧ ∀ E, t = .inr E → RetX x 1 6 (wX a u b v c w (cxT x)) E
set_option maxRecDepth 20000 in
set_option maxHeartbeats 2000000 in
theorem b_X1_isRedundant {x : Cx} (o : Ok x cX1_isRedundant 2 RX1 14 1 6) (a b c : Nat → Nat) (u v w : St) (p0 : Int32) (t : (Int32 ⊕ String)) (hf : f_X1_isRedundant u v w p0 = some t) (hret : rt_X1_isRedundant x a b c u v w t) : G x 2 0 0 (wX a u b v c w (cxT x)) [(0, .ref (a 0)), (1, .int p0)] 0 [] := by
  unfold f_X1_isRedundant at hf
  refine g_iload_n o 1 rfl rfl dX1_isRedundant_0 ?_
  refine g_if_lt (tgt := 15) o rfl dX1_isRedundant_1 hf (fun hc hf => ?_) (fun hc hf => ?_)
  · cases Option.some.inj hf
    exact g_throwS o (hret.2 _ rfl) fit_io fit_re rfl m_373 m_63 st_239 at_157 go_157 dX1_isRedundant_15 dX1_isRedundant_18 dX1_isRedundant_19 dX1_isRedundant_21 dX1_isRedundant_24 (Nat.le_of_ble_eq_true rfl) (Nat.le_of_ble_eq_true rfl)
  · refine g_iload_n o 1 rfl rfl dX1_isRedundant_4 ?_
    refine g_aload_n o 0 rfl rfl dX1_isRedundant_5 ?_
    refine X_get0 o m_112 dX1_isRedundant_6 ?_
    refine Y_get4 o e_91 dX1_isRedundant_9 ?_
    refine g_ic_lt (tgt := 25) o rfl dX1_isRedundant_12 hf (fun hc hf => ?_) (fun hc hf => ?_)
    · refine g_aload_n o 0 rfl rfl dX1_isRedundant_25 ?_
      refine X_get0 o m_112 dX1_isRedundant_26 ?_
      refine g_iload_n o 1 rfl rfl dX1_isRedundant_29 ?_
      refine g_iconst o ic_0 dX1_isRedundant_30 ?_
      obtain ⟨r2, hr2, hf⟩ := bd_some hf
      refine k_X0_isSpare_NX o hr2 e_204 (Nat.le_of_ble_eq_true rfl) (Nat.le_of_ble_eq_true rfl) ⟨(Nat.le_of_ble_eq_true rfl), (Nat.le_of_ble_eq_true rfl)⟩ dX1_isRedundant_31 ?_
      obtain ⟨hb, hf⟩ := gd_some hf
      cases Option.some.inj hf
      exact g_iret (hret.1 _ rfl) (Nat.le_of_ble_eq_true rfl) (Nat.le_of_ble_eq_true rfl) (okB_n hb) dX1_isRedundant_34
    · cases Option.some.inj hf
      exact g_throwS o (hret.2 _ rfl) fit_io fit_re rfl m_373 m_63 st_239 at_157 go_157 dX1_isRedundant_15 dX1_isRedundant_18 dX1_isRedundant_19 dX1_isRedundant_21 dX1_isRedundant_24 (Nat.le_of_ble_eq_true rfl) (Nat.le_of_ble_eq_true rfl)
theorem c_X1_isRedundant (l : Launch) (hst : l.stackTraces = false) (a b c : Nat → Nat) (u v w : St) (p0 : Int32) (t : (Int32 ⊕ String)) (hf : f_X1_isRedundant u v w p0 = some t) : CoI l yX1_isRedundant (.code yX1_isRedundant cX1_isRedundant 2 (some .boolean)) 14 1 6 [.ref (a 0), .int p0] (wX a u b v c w) (wX a u b v c w) (t) := mkI hst (by decide +kernel) (Nat.le_of_ble_eq_true rfl) (fun x _ o hI hX => b_X1_isRedundant o a b c u v w p0 t hf ⟨hI, hX⟩)
def rt_X1_removeTuple (x : Cx) (a b c : Nat → Nat) (u w : St) (t : (Int32 ⊕ String) × St) : Prop := (∀ r, t.1 = .inl r → RetI x cX1_removeTuple .boolean 2 12 (wX a u b t.2 c w (cxT x)) r) ∧ ∀ E, t.1 = .inr E → RetX x 2 12 (wX a u b t.2 c w (cxT x)) E
set_option maxRecDepth 20000 in
set_option maxHeartbeats 2000000 in
theorem b_X1_removeTuple {x : Cx} (o : Ok x cX1_removeTuple 4 RX1 2 2 12) (a b c : Nat → Nat) (u v w : St) (p0 : Int32) (p1 : Int32) (t : (Int32 ⊕ String) × St) (hf : f_X1_removeTuple u v w p0 p1 = some t) (hret : rt_X1_removeTuple x a b c u w t) : G x 4 0 0 (wX a u b v c w (cxT x)) [(0, .ref (a 0)), (1, .int p0), (2, .int p1)] 0 [] := by
  unfold f_X1_removeTuple at hf
  refine g_aload_n o 0 rfl rfl dX1_removeTuple_0 ?_
  refine g_iload_n o 1 rfl rfl dX1_removeTuple_1 ?_
  rcases bz_some hf with ⟨r6, hr6, hf⟩ | ⟨E7, hr6, hf⟩
  · refine k_X1_requireRelation_n o hr6 m_369 (Nat.le_of_ble_eq_true rfl) (Nat.le_of_ble_eq_true rfl) ⟨(Nat.le_of_ble_eq_true rfl), (Nat.le_of_ble_eq_true rfl)⟩ dX1_removeTuple_2 ?_
    refine g_aload_n o 0 rfl rfl dX1_removeTuple_5 ?_
    refine g_iload_n o 1 rfl rfl dX1_removeTuple_6 ?_
    refine g_iload_n o 2 rfl rfl dX1_removeTuple_7 ?_
    rcases bz_some hf with ⟨r8, hr8, hf⟩ | ⟨E9, hr8, hf⟩
    · refine k_X1_requireTuple_n o hr8 m_389 (Nat.le_of_ble_eq_true rfl) (Nat.le_of_ble_eq_true rfl) ⟨(Nat.le_of_ble_eq_true rfl), (Nat.le_of_ble_eq_true rfl)⟩ dX1_removeTuple_8 ?_
      refine g_aload_n o 0 rfl rfl dX1_removeTuple_11 ?_
      refine X_get0 o m_112 dX1_removeTuple_12 ?_
      refine Y_get2 o e_87 dX1_removeTuple_15 ?_
      refine g_iload_n o 1 rfl rfl dX1_removeTuple_18 ?_
      refine Y_ld2 o dX1_removeTuple_19 hf (fun hf => ?_)
      refine g_iload_n o 2 rfl rfl dX1_removeTuple_20 ?_
      obtain ⟨r10, hr10, hf⟩ := bd_some hf
      refine k_X1_has_ o hr10 m_394 (Nat.le_of_ble_eq_true rfl) (Nat.le_of_ble_eq_true rfl) ⟨(Nat.le_of_ble_eq_true rfl), (Nat.le_of_ble_eq_true rfl)⟩ dX1_removeTuple_21 ?_
      refine g_istore_n o [(3, .int r10), (0, .ref (a 0)), (1, .int p0), (2, .int p1)] (Nat.le_of_ble_eq_true rfl) rfl rfl dX1_removeTuple_24 ?_
      refine g_aload_n o 1 rfl rfl dX1_removeTuple_25 ?_
      refine X_get0 o m_112 dX1_removeTuple_26 ?_
      refine Y_get2 o e_87 dX1_removeTuple_29 ?_
      refine g_iload_n o 2 rfl rfl dX1_removeTuple_32 ?_
      refine g_dup2 o rfl rfl dX1_removeTuple_33 ?_
      refine Y_ld2 o dX1_removeTuple_34 hf (fun hf => ?_)
      refine g_iconst o ic_1 dX1_removeTuple_35 ?_
      refine g_iload_n o 3 rfl rfl dX1_removeTuple_36 ?_
      refine g_ishl o dX1_removeTuple_37 ?_
      refine g_iconst o ic_m1 dX1_removeTuple_38 ?_
      refine g_ixor o dX1_removeTuple_39 ?_
      refine g_iand o dX1_removeTuple_40 ?_
      refine Y_st2 o dX1_removeTuple_41 hf (fun hf => ?_)
      refine g_iload_n o 0 rfl rfl dX1_removeTuple_42 ?_
      obtain ⟨hb, hf⟩ := gd_some hf
      cases Option.some.inj hf
      exact g_iret (hret.1 _ rfl) (Nat.le_of_ble_eq_true rfl) (Nat.le_of_ble_eq_true rfl) (okB_n hb) dX1_removeTuple_43
    · cases Option.some.inj hf
      exact k_X1_requireTuple_x o hr8 m_389 (Nat.le_of_ble_eq_true rfl) (Nat.le_of_ble_eq_true rfl) ⟨(Nat.le_of_ble_eq_true rfl), (Nat.le_of_ble_eq_true rfl)⟩ dX1_removeTuple_8 (xw_out o (hret.2 _ rfl) (Nat.le_of_ble_eq_true rfl) (Nat.le_of_ble_eq_true rfl))
  · cases Option.some.inj hf
    exact k_X1_requireRelation_x o hr6 m_369 (Nat.le_of_ble_eq_true rfl) (Nat.le_of_ble_eq_true rfl) ⟨(Nat.le_of_ble_eq_true rfl), (Nat.le_of_ble_eq_true rfl)⟩ dX1_removeTuple_2 (xw_out o (hret.2 _ rfl) (Nat.le_of_ble_eq_true rfl) (Nat.le_of_ble_eq_true rfl))
theorem c_X1_removeTuple (l : Launch) (hst : l.stackTraces = false) (a b c : Nat → Nat) (u v w : St) (p0 : Int32) (p1 : Int32) (t : (Int32 ⊕ String) × St) (hf : f_X1_removeTuple u v w p0 p1 = some t) : CoI l yX1_removeTuple (.code yX1_removeTuple cX1_removeTuple 4 (some .boolean)) 2 2 12 [.ref (a 0), .int p0, .int p1] (wX a u b v c w) (wX a u b t.2 c w) (t.1) := mkI hst (by decide +kernel) (Nat.le_of_ble_eq_true rfl) (fun x _ o hI hX => b_X1_removeTuple o a b c u v w p0 p1 t hf ⟨hI, hX⟩)
def rt_X1_tupleCount (x : Cx) (a b c : Nat → Nat) (u v w : St) (t : (Int32 ⊕ String)) : Prop := (∀ r, t = .inl r → RetI x cX1_tupleCount .int 1 6 (wX a u b v c w (cxT x)) r) ∧ ∀ E, t = .inr E → RetX x 1 6 (wX a u b v c w (cxT x)) E
set_option maxRecDepth 20000 in
set_option maxHeartbeats 2000000 in
theorem b_X1_tupleCount {x : Cx} (o : Ok x cX1_tupleCount 2 RX1 1 1 6) (a b c : Nat → Nat) (u v w : St) (p0 : Int32) (t : (Int32 ⊕ String)) (hf : f_X1_tupleCount u v w p0 = some t) (hret : rt_X1_tupleCount x a b c u v w t) : G x 2 0 0 (wX a u b v c w (cxT x)) [(0, .ref (a 0)), (1, .int p0)] 0 [] := by
  unfold f_X1_tupleCount at hf
  refine g_aload_n o 0 rfl rfl dX1_tupleCount_0 ?_
  refine g_iload_n o 1 rfl rfl dX1_tupleCount_1 ?_
  rcases bz_some hf with ⟨r4, hr4, hf⟩ | ⟨E5, hr4, hf⟩
  · refine k_X1_requireRelation_n o hr4 m_369 (Nat.le_of_ble_eq_true rfl) (Nat.le_of_ble_eq_true rfl) ⟨(Nat.le_of_ble_eq_true rfl), (Nat.le_of_ble_eq_true rfl)⟩ dX1_tupleCount_2 ?_
    refine g_aload_n o 0 rfl rfl dX1_tupleCount_5 ?_
    refine X_get0 o m_112 dX1_tupleCount_6 ?_
    refine Y_get2 o e_87 dX1_tupleCount_9 ?_
    refine g_iload_n o 1 rfl rfl dX1_tupleCount_12 ?_
    refine Y_ld2 o dX1_tupleCount_13 hf (fun hf => ?_)
    obtain ⟨r6, hr6, hf⟩ := bd_some hf
    refine k_J6_bitCount_0f7a4_ o hr6 m_212 (Nat.le_of_ble_eq_true rfl) (Nat.le_of_ble_eq_true rfl) ⟨(Nat.le_of_ble_eq_true rfl), (Nat.le_of_ble_eq_true rfl)⟩ dX1_tupleCount_14 ?_
    cases Option.some.inj hf
    exact g_iret (hret.1 _ rfl) (Nat.le_of_ble_eq_true rfl) (Nat.le_of_ble_eq_true rfl) (vp_nar_int _) dX1_tupleCount_17
  · cases Option.some.inj hf
    exact k_X1_requireRelation_x o hr4 m_369 (Nat.le_of_ble_eq_true rfl) (Nat.le_of_ble_eq_true rfl) ⟨(Nat.le_of_ble_eq_true rfl), (Nat.le_of_ble_eq_true rfl)⟩ dX1_tupleCount_2 (xw_out o (hret.2 _ rfl) (Nat.le_of_ble_eq_true rfl) (Nat.le_of_ble_eq_true rfl))
theorem c_X1_tupleCount (l : Launch) (hst : l.stackTraces = false) (a b c : Nat → Nat) (u v w : St) (p0 : Int32) (t : (Int32 ⊕ String)) (hf : f_X1_tupleCount u v w p0 = some t) : CoI l yX1_tupleCount (.code yX1_tupleCount cX1_tupleCount 2 (some .int)) 1 1 6 [.ref (a 0), .int p0] (wX a u b v c w) (wX a u b v c w) (t) := mkI hst (by decide +kernel) (Nat.le_of_ble_eq_true rfl) (fun x _ o hI hX => b_X1_tupleCount o a b c u v w p0 t hf ⟨hI, hX⟩)
def rt_X1_relationCount (x : Cx) (a b c : Nat → Nat) (u v w : St) (t : Int32) : Prop := RetI x cX1_relationCount .int 0 0 (wX a u b v c w (cxT x)) t
set_option maxRecDepth 20000 in
set_option maxHeartbeats 2000000 in
theorem b_X1_relationCount {x : Cx} (o : Ok x cX1_relationCount 1 RX1 0 0 0) (a b c : Nat → Nat) (u v w : St) (t : Int32) (hf : f_X1_relationCount u v w = some t) (hret : rt_X1_relationCount x a b c u v w t) : G x 1 0 0 (wX a u b v c w (cxT x)) [(0, .ref (a 0))] 0 [] := by
  unfold f_X1_relationCount at hf
  refine g_aload_n o 0 rfl rfl dX1_relationCount_0 ?_
  refine X_get0 o m_112 dX1_relationCount_1 ?_
  refine Y_get0 o e_83 dX1_relationCount_4 ?_
  cases Option.some.inj hf
  exact g_iret hret (Nat.le_of_ble_eq_true rfl) (Nat.le_of_ble_eq_true rfl) (vp_nar_int _) dX1_relationCount_7
theorem c_X1_relationCount (l : Launch) (hst : l.stackTraces = false) (a b c : Nat → Nat) (u v w : St) (t : Int32) (hf : f_X1_relationCount u v w = some t) : CoI l yX1_relationCount (.code yX1_relationCount cX1_relationCount 1 (some .int)) 0 0 0 [.ref (a 0)] (wX a u b v c w) (wX a u b v c w) (.inl t) := mkI hst (by decide +kernel) (Nat.le_of_ble_eq_true rfl) (fun x _ o hI hX => b_X1_relationCount o a b c u v w t hf (hI _ rfl))
def rt_X1_clear (x : Cx) (a b c : Nat → Nat) (u w : St) (t : Int32 × St) : Prop := RetI x cX1_clear .int 0 0 (wX a u b t.2 c w (cxT x)) t.1
set_option maxRecDepth 20000 in
set_option maxHeartbeats 2000000 in
theorem b_X1_clear {x : Cx} (o : Ok x cX1_clear 2 RX1 0 0 0) (a b c : Nat → Nat) (u v w : St) (t : Int32 × St) (hf : f_X1_clear u v w = some t) (hret : rt_X1_clear x a b c u w t) : G x 2 0 0 (wX a u b v c w (cxT x)) [(0, .ref (a 0))] 0 [] := by
  unfold f_X1_clear at hf
  refine g_aload_n o 0 rfl rfl dX1_clear_0 ?_
  refine X_get0 o m_112 dX1_clear_1 ?_
  refine Y_get0 o e_83 dX1_clear_4 ?_
  refine g_nmi hf (fun x2 hf => ?_)
  refine g_istore_n o [(1, .int x2), (0, .ref (a 0))] (Nat.le_of_ble_eq_true rfl) rfl rfl dX1_clear_7 ?_
  refine g_aload_n o 1 rfl rfl dX1_clear_8 ?_
  refine X_get0 o m_112 dX1_clear_9 ?_
  refine g_iconst o ic_0 dX1_clear_12 ?_
  refine Y_put0 o e_83 dX1_clear_13 ?_
  refine g_aload_n o 1 rfl rfl dX1_clear_16 ?_
  refine X_get0 o m_112 dX1_clear_17 ?_
  refine g_iconst o ic_0 dX1_clear_20 ?_
  refine Y_put4 o e_91 dX1_clear_21 ?_
  refine g_iload_n o 0 rfl rfl dX1_clear_24 ?_
  cases Option.some.inj hf
  exact g_iret hret (Nat.le_of_ble_eq_true rfl) (Nat.le_of_ble_eq_true rfl) (vp_nar_int _) dX1_clear_25
theorem c_X1_clear (l : Launch) (hst : l.stackTraces = false) (a b c : Nat → Nat) (u v w : St) (t : Int32 × St) (hf : f_X1_clear u v w = some t) : CoI l yX1_clear (.code yX1_clear cX1_clear 2 (some .int)) 0 0 0 [.ref (a 0)] (wX a u b v c w) (wX a u b t.2 c w) (.inl t.1) := mkI hst (by decide +kernel) (Nat.le_of_ble_eq_true rfl) (fun x _ o hI hX => b_X1_clear o a b c u v w t hf (hI _ rfl))
def rt_X1_preserves (x : Cx) (a b c : Nat → Nat) (u v w : St) (t : (Int32 ⊕ String)) : Prop := (∀ r, t = .inl r → RetI x cX1_preserves .boolean 3 18 (wX a u b v c w (cxT x)) r) ∧ ∀ E, t = .inr E → RetX x 3 18 (wX a u b v c w (cxT x)) E
set_option maxRecDepth 20000 in
set_option maxHeartbeats 2000000 in
theorem b_X1_preserves {x : Cx} (o : Ok x cX1_preserves 4 RX1 3 3 18) (a b c : Nat → Nat) (u v w : St) (p0 : Int32) (p1 : Int32) (p2 : Int32) (t : (Int32 ⊕ String)) (hf : f_X1_preserves u v w p0 p1 p2 = some t) (hret : rt_X1_preserves x a b c u v w t) : G x 4 0 0 (wX a u b v c w (cxT x)) [(0, .ref (a 0)), (1, .int p0), (2, .int p1), (3, .int p2)] 0 [] := by
  unfold f_X1_preserves at hf
  refine g_iload_n o 1 rfl rfl dX1_preserves_0 ?_
  refine g_iload_n o 2 rfl rfl dX1_preserves_1 ?_
  rcases bz_some hf with ⟨r6, hr6, hf⟩ | ⟨E7, hr6, hf⟩
  · refine k_X1_requireOperation_n o hr6 m_478 (Nat.le_of_ble_eq_true rfl) (Nat.le_of_ble_eq_true rfl) ⟨(Nat.le_of_ble_eq_true rfl), (Nat.le_of_ble_eq_true rfl)⟩ dX1_preserves_2 ?_
    refine g_aload_n o 0 rfl rfl dX1_preserves_5 ?_
    refine g_iload_n o 3 rfl rfl dX1_preserves_6 ?_
    rcases bz_some hf with ⟨r8, hr8, hf⟩ | ⟨E9, hr8, hf⟩
    · refine k_X1_requireRelation_n o hr8 m_369 (Nat.le_of_ble_eq_true rfl) (Nat.le_of_ble_eq_true rfl) ⟨(Nat.le_of_ble_eq_true rfl), (Nat.le_of_ble_eq_true rfl)⟩ dX1_preserves_7 ?_
      refine g_aload_n o 0 rfl rfl dX1_preserves_10 ?_
      refine g_iload_n o 3 rfl rfl dX1_preserves_11 ?_
      refine g_iload_n o 1 rfl rfl dX1_preserves_12 ?_
      refine g_iload_n o 2 rfl rfl dX1_preserves_13 ?_
      obtain ⟨r10, hr10, hf⟩ := bd_some hf
      refine k_X1_isPreserved_ o hr10 m_495 (Nat.le_of_ble_eq_true rfl) (Nat.le_of_ble_eq_true rfl) ⟨(Nat.le_of_ble_eq_true rfl), (Nat.le_of_ble_eq_true rfl)⟩ dX1_preserves_14 ?_
      obtain ⟨hb, hf⟩ := gd_some hf
      cases Option.some.inj hf
      exact g_iret (hret.1 _ rfl) (Nat.le_of_ble_eq_true rfl) (Nat.le_of_ble_eq_true rfl) (okB_n hb) dX1_preserves_17
    · cases Option.some.inj hf
      exact k_X1_requireRelation_x o hr8 m_369 (Nat.le_of_ble_eq_true rfl) (Nat.le_of_ble_eq_true rfl) ⟨(Nat.le_of_ble_eq_true rfl), (Nat.le_of_ble_eq_true rfl)⟩ dX1_preserves_7 (xw_out o (hret.2 _ rfl) (Nat.le_of_ble_eq_true rfl) (Nat.le_of_ble_eq_true rfl))
  · cases Option.some.inj hf
    exact k_X1_requireOperation_x o hr6 m_478 (Nat.le_of_ble_eq_true rfl) (Nat.le_of_ble_eq_true rfl) ⟨(Nat.le_of_ble_eq_true rfl), (Nat.le_of_ble_eq_true rfl)⟩ dX1_preserves_2 (xw_out o (hret.2 _ rfl) (Nat.le_of_ble_eq_true rfl) (Nat.le_of_ble_eq_true rfl))
theorem c_X1_preserves (l : Launch) (hst : l.stackTraces = false) (a b c : Nat → Nat) (u v w : St) (p0 : Int32) (p1 : Int32) (p2 : Int32) (t : (Int32 ⊕ String)) (hf : f_X1_preserves u v w p0 p1 p2 = some t) : CoI l yX1_preserves (.code yX1_preserves cX1_preserves 4 (some .boolean)) 3 3 18 [.ref (a 0), .int p0, .int p1, .int p2] (wX a u b v c w) (wX a u b v c w) (t) := mkI hst (by decide +kernel) (Nat.le_of_ble_eq_true rfl) (fun x _ o hI hX => b_X1_preserves o a b c u v w p0 p1 p2 t hf ⟨hI, hX⟩)
def rt_X1_polymorphismCount (x : Cx) (a b c : Nat → Nat) (u v w : St) (t : (Int32 ⊕ String)) : Prop := (∀ r, t = .inl r → RetI x cX1_polymorphismCount .int 1 6 (wX a u b v c w (cxT x)) r) ∧ ∀ E, t = .inr E → RetX x 1 6 (wX a u b v c w (cxT x)) E
set_option maxRecDepth 20000 in
set_option maxHeartbeats 2000000 in
theorem b_X1_polymorphismCount_L8 {x : Cx} (o : Ok x cX1_polymorphismCount 4 RX1 4 1 6) {k n : Nat} (hk : k ≤ 1) (hn : n ≤ 6) (a b c : Nat → Nat) (u : St) (v : St) (w : St) (c1 : Int32) (r : (Int32 × Int32) ⊕ ((Int32 ⊕ String))) (hX : ∀ s : Int32 × Int32, r = .inl s → G x 4 k n (wX a u b v c w (cxT x)) [(2, .int s.1)] 34 []) (hR : ∀ t, r = .inr t → rt_X1_polymorphismCount x a b c u v w t) : ∀ (m : Nat) (s : Int32 × Int32), loopN (f_X1_polymorphismCount_s8 u v w c1) m s = some r → G x 4 k n (wX a u b v c w (cxT x)) [(0, .ref (a 0)), (1, .int c1), (2, .int s.1), (3, .int s.2)] 8 [] := by
  refine loop_W _ (fun (s : Int32 × Int32) => G x 4 k n (wX a u b v c w (cxT x)) [(0, .ref (a 0)), (1, .int c1), (2, .int s.1), (3, .int s.2)] 8 []) r ?_
  intro s ww hf hw
  unfold f_X1_polymorphismCount_s8 at hf
  obtain ⟨s_0, s_1⟩ := s
  try dsimp -simprocs only at hf ⊢
  refine g_iload_n o 3 rfl rfl dX1_polymorphismCount_8 ?_
  refine g_iload_n o 1 rfl rfl dX1_polymorphismCount_9 ?_
  obtain ⟨r5, hr5, hf⟩ := bd_some hf
  refine k_X1_allTuples_ o hr5 m_346 (Nat.le_of_ble_eq_true rfl) (Nat.le_of_ble_eq_true rfl) ⟨hk, hn⟩ dX1_polymorphismCount_10 ?_
  refine g_ic_gt (tgt := 34) o rfl dX1_polymorphismCount_13 hf (fun hc hf => ?_) (fun hc hf => ?_)
  · exact g_perm [2] rfl (hX _ (lf_x hf hw))
  · refine g_aload_n o 0 rfl rfl dX1_polymorphismCount_16 ?_
    refine g_iload_n o 1 rfl rfl dX1_polymorphismCount_17 ?_
    refine g_iload_n o 3 rfl rfl dX1_polymorphismCount_18 ?_
    obtain ⟨r6, hr6, hf⟩ := bd_some hf
    refine k_X1_areAllPreserved_ o hr6 m_515 (Nat.le_of_ble_eq_true rfl) (Nat.le_of_ble_eq_true rfl) ⟨hk, hn⟩ dX1_polymorphismCount_19 ?_
    refine g_if_eq (tgt := 28) o rfl dX1_polymorphismCount_22 hf (fun hc hf => ?_) (fun hc hf => ?_)
    · refine g_iinc o [(3, .int (s_1 + 1)), (0, .ref (a 0)), (1, .int c1), (2, .int s_0)] 3 rfl (inc_1 _) (Nat.le_of_ble_eq_true rfl) rfl dX1_polymorphismCount_28 ?_
      refine g_goto (tgt := 8) o rfl dX1_polymorphismCount_31 ?_
      have hp := lf_c hf hw
      exact g_perm [1, 2, 3, 0] rfl hp
    · refine g_iinc o [(2, .int (s_0 + 1)), (0, .ref (a 0)), (1, .int c1), (3, .int s_1)] 2 rfl (inc_1 _) (Nat.le_of_ble_eq_true rfl) rfl dX1_polymorphismCount_25 ?_
      refine g_iinc o [(3, .int (s_1 + 1)), (2, .int (s_0 + 1)), (0, .ref (a 0)), (1, .int c1)] 3 rfl (inc_1 _) (Nat.le_of_ble_eq_true rfl) rfl dX1_polymorphismCount_28 ?_
      refine g_goto (tgt := 8) o rfl dX1_polymorphismCount_31 ?_
      have hp := lf_c hf hw
      exact g_perm [2, 3, 1, 0] rfl hp
set_option maxRecDepth 20000 in
set_option maxHeartbeats 2000000 in
theorem b_X1_polymorphismCount {x : Cx} (o : Ok x cX1_polymorphismCount 4 RX1 4 1 6) (a b c : Nat → Nat) (u v w : St) (p0 : Int32) (t : (Int32 ⊕ String)) (hf : f_X1_polymorphismCount u v w p0 = some t) (hret : rt_X1_polymorphismCount x a b c u v w t) : G x 4 0 0 (wX a u b v c w (cxT x)) [(0, .ref (a 0)), (1, .int p0)] 0 [] := by
  unfold f_X1_polymorphismCount at hf
  refine g_iload_n o 1 rfl rfl dX1_polymorphismCount_0 ?_
  rcases bz_some hf with ⟨r9, hr9, hf⟩ | ⟨E10, hr9, hf⟩
  · refine k_X1_requireOperationArity_n o hr9 m_481 (Nat.le_of_ble_eq_true rfl) (Nat.le_of_ble_eq_true rfl) ⟨(Nat.le_of_ble_eq_true rfl), (Nat.le_of_ble_eq_true rfl)⟩ dX1_polymorphismCount_1 ?_
    refine g_iconst o ic_0 dX1_polymorphismCount_4 ?_
    refine g_istore_n o [(2, .int 0), (0, .ref (a 0)), (1, .int p0)] (Nat.le_of_ble_eq_true rfl) rfl rfl dX1_polymorphismCount_5 ?_
    refine g_iconst o ic_0 dX1_polymorphismCount_6 ?_
    refine g_istore_n o [(3, .int 0), (2, .int 0), (0, .ref (a 0)), (1, .int p0)] (Nat.le_of_ble_eq_true rfl) rfl rfl dX1_polymorphismCount_7 ?_
    obtain ⟨r12, hr12, hxr12, hrr12⟩ := bl_some hf
    refine g_perm [2, 3, 1, 0] rfl (b_X1_polymorphismCount_L8 o (Nat.le_of_ble_eq_true rfl) (Nat.le_of_ble_eq_true rfl) a b c u v w p0 r12 (fun s8 hs => ?_) (fun t11 ht => ?_) FU (0, 0) hr12)
    · have hf := hxr12 s8 hs
      obtain ⟨s8_0, s8_1⟩ := s8
      try dsimp -simprocs only at hf ⊢
      refine g_iload_n o 0 rfl rfl dX1_polymorphismCount_34 ?_
      cases Option.some.inj hf
      exact g_iret (hret.1 _ rfl) (Nat.le_of_ble_eq_true rfl) (Nat.le_of_ble_eq_true rfl) (vp_nar_int _) dX1_polymorphismCount_35
    · have hf := hrr12 t11 ht
      cases Option.some.inj hf
      exact hret
  · cases Option.some.inj hf
    exact k_X1_requireOperationArity_x o hr9 m_481 (Nat.le_of_ble_eq_true rfl) (Nat.le_of_ble_eq_true rfl) ⟨(Nat.le_of_ble_eq_true rfl), (Nat.le_of_ble_eq_true rfl)⟩ dX1_polymorphismCount_1 (xw_out o (hret.2 _ rfl) (Nat.le_of_ble_eq_true rfl) (Nat.le_of_ble_eq_true rfl))
theorem c_X1_polymorphismCount (l : Launch) (hst : l.stackTraces = false) (a b c : Nat → Nat) (u v w : St) (p0 : Int32) (t : (Int32 ⊕ String)) (hf : f_X1_polymorphismCount u v w p0 = some t) : CoI l yX1_polymorphismCount (.code yX1_polymorphismCount cX1_polymorphismCount 4 (some .int)) 4 1 6 [.ref (a 0), .int p0] (wX a u b v c w) (wX a u b v c w) (t) := mkI hst (by decide +kernel) (Nat.le_of_ble_eq_true rfl) (fun x _ o hI hX => b_X1_polymorphismCount o a b c u v w p0 t hf ⟨hI, hX⟩)
def rt_X1_polymorphism (x : Cx) (a b c : Nat → Nat) (u v w : St) (t : (Int32 ⊕ String)) : Prop := (∀ r, t = .inl r → RetI x cX1_polymorphism .int 2 12 (wX a u b v c w (cxT x)) r) ∧ ∀ E, t = .inr E → RetX x 2 12 (wX a u b v c w (cxT x)) E
set_option maxRecDepth 20000 in
set_option maxHeartbeats 2000000 in
theorem b_X1_polymorphism_L13 {x : Cx} (o : Ok x cX1_polymorphism 5 RX1 4 2 12) {k n : Nat} (hk : k ≤ 2) (hn : n ≤ 12) (a b c : Nat → Nat) (u : St) (v : St) (w : St) (c1 : Int32) (c2 : Int32) (r : (Int32 × Int32) ⊕ ((Int32 ⊕ String))) (hX : ∀ s : Int32 × Int32, r = .inl s → G x 5 k n (wX a u b v c w (cxT x)) [] 49 []) (hR : ∀ t, r = .inr t → rt_X1_polymorphism x a b c u v w t) : ∀ (m : Nat) (s : Int32 × Int32), loopN (f_X1_polymorphism_s13 u v w c1 c2) m s = some r → G x 5 k n (wX a u b v c w (cxT x)) [(0, .ref (a 0)), (1, .int c1), (2, .int c2), (3, .int s.1), (4, .int s.2)] 13 [] := by
  refine loop_W _ (fun (s : Int32 × Int32) => G x 5 k n (wX a u b v c w (cxT x)) [(0, .ref (a 0)), (1, .int c1), (2, .int c2), (3, .int s.1), (4, .int s.2)] 13 []) r ?_
  intro s ww hf hw
  unfold f_X1_polymorphism_s13 at hf
  obtain ⟨s_0, s_1⟩ := s
  try dsimp -simprocs only at hf ⊢
  refine g_iload o 4 rfl dX1_polymorphism_13 ?_
  refine g_iload_n o 1 rfl rfl dX1_polymorphism_15 ?_
  obtain ⟨r5, hr5, hf⟩ := bd_some hf
  refine k_X1_allTuples_ o hr5 m_346 (Nat.le_of_ble_eq_true rfl) (Nat.le_of_ble_eq_true rfl) ⟨hk, hn⟩ dX1_polymorphism_16 ?_
  refine g_ic_gt (tgt := 49) o rfl dX1_polymorphism_19 hf (fun hc hf => ?_) (fun hc hf => ?_)
  · exact g_perm [] rfl (hX _ (lf_x hf hw))
  · refine g_aload_n o 0 rfl rfl dX1_polymorphism_22 ?_
    refine g_iload_n o 1 rfl rfl dX1_polymorphism_23 ?_
    refine g_iload o 4 rfl dX1_polymorphism_24 ?_
    obtain ⟨r6, hr6, hf⟩ := bd_some hf
    refine k_X1_areAllPreserved_ o hr6 m_515 (Nat.le_of_ble_eq_true rfl) (Nat.le_of_ble_eq_true rfl) ⟨hk, hn⟩ dX1_polymorphism_26 ?_
    refine g_if_eq (tgt := 43) o rfl dX1_polymorphism_29 hf (fun hc hf => ?_) (fun hc hf => ?_)
    · refine g_iinc o [(4, .int (s_1 + 1)), (0, .ref (a 0)), (1, .int c1), (2, .int c2), (3, .int s_0)] 4 rfl (inc_1 _) (Nat.le_of_ble_eq_true rfl) rfl dX1_polymorphism_43 ?_
      refine g_goto (tgt := 13) o rfl dX1_polymorphism_46 ?_
      have hp := lf_c hf hw
      exact g_perm [1, 2, 3, 4, 0] rfl hp
    · refine g_iload_n o 3 rfl rfl dX1_polymorphism_32 ?_
      refine g_iload_n o 2 rfl rfl dX1_polymorphism_33 ?_
      refine g_ic_ne (tgt := 40) o rfl dX1_polymorphism_34 hf (fun hc hf => ?_) (fun hc hf => ?_)
      · refine g_iinc o [(3, .int (s_0 + 1)), (0, .ref (a 0)), (1, .int c1), (2, .int c2), (4, .int s_1)] 3 rfl (inc_1 _) (Nat.le_of_ble_eq_true rfl) rfl dX1_polymorphism_40 ?_
        refine g_iinc o [(4, .int (s_1 + 1)), (3, .int (s_0 + 1)), (0, .ref (a 0)), (1, .int c1), (2, .int c2)] 4 rfl (inc_1 _) (Nat.le_of_ble_eq_true rfl) rfl dX1_polymorphism_43 ?_
        refine g_goto (tgt := 13) o rfl dX1_polymorphism_46 ?_
        have hp := lf_c hf hw
        exact g_perm [2, 3, 4, 1, 0] rfl hp
      · refine g_iload o 4 rfl dX1_polymorphism_37 ?_
        exact g_iret ((hR _ (lf_x hf hw)).1 _ rfl) hk hn (vp_nar_int _) dX1_polymorphism_39
set_option maxRecDepth 20000 in
set_option maxHeartbeats 2000000 in
theorem b_X1_polymorphism {x : Cx} (o : Ok x cX1_polymorphism 5 RX1 4 2 12) (a b c : Nat → Nat) (u v w : St) (p0 : Int32) (p1 : Int32) (t : (Int32 ⊕ String)) (hf : f_X1_polymorphism u v w p0 p1 = some t) (hret : rt_X1_polymorphism x a b c u v w t) : G x 5 0 0 (wX a u b v c w (cxT x)) [(0, .ref (a 0)), (1, .int p0), (2, .int p1)] 0 [] := by
  unfold f_X1_polymorphism at hf
  refine g_iload_n o 1 rfl rfl dX1_polymorphism_0 ?_
  rcases bz_some hf with ⟨r9, hr9, hf⟩ | ⟨E10, hr9, hf⟩
  · refine k_X1_requireOperationArity_n o hr9 m_481 (Nat.le_of_ble_eq_true rfl) (Nat.le_of_ble_eq_true rfl) ⟨(Nat.le_of_ble_eq_true rfl), (Nat.le_of_ble_eq_true rfl)⟩ dX1_polymorphism_1 ?_
    refine g_iload_n o 2 rfl rfl dX1_polymorphism_4 ?_
    refine g_if_lt (tgt := 49) o rfl dX1_polymorphism_5 hf (fun hc hf => ?_) (fun hc hf => ?_)
    · cases Option.some.inj hf
      exact g_throwN o (hret.2 _ rfl) fit_ns fit_rt fit_ex rfl ns_e0 ns_e1 ns_e2 ns_e5 m_534 m_64 st_135 at_137 go_137 dX1_polymorphism_49 dX1_polymorphism_52 dX1_polymorphism_53 dX1_polymorphism_55 dX1_polymorphism_58 (Nat.le_of_ble_eq_true rfl) (Nat.le_of_ble_eq_true rfl)
    · refine g_iconst o ic_0 dX1_polymorphism_8 ?_
      refine g_istore_n o [(3, .int 0), (0, .ref (a 0)), (1, .int p0), (2, .int p1)] (Nat.le_of_ble_eq_true rfl) rfl rfl dX1_polymorphism_9 ?_
      refine g_iconst o ic_0 dX1_polymorphism_10 ?_
      refine g_istore o [(4, .int 0), (3, .int 0), (0, .ref (a 0)), (1, .int p0), (2, .int p1)] (Nat.le_of_ble_eq_true rfl) rfl dX1_polymorphism_11 ?_
      obtain ⟨r12, hr12, hxr12, hrr12⟩ := bl_some hf
      refine g_perm [2, 3, 4, 1, 0] rfl (b_X1_polymorphism_L13 o (Nat.le_of_ble_eq_true rfl) (Nat.le_of_ble_eq_true rfl) a b c u v w p0 p1 r12 (fun s13 hs => ?_) (fun t11 ht => ?_) FU (0, 0) hr12)
      · have hf := hxr12 s13 hs
        obtain ⟨s13_0, s13_1⟩ := s13
        try dsimp -simprocs only at hf ⊢
        cases Option.some.inj hf
        exact g_throwN o (hret.2 _ rfl) fit_ns fit_rt fit_ex rfl ns_e0 ns_e1 ns_e2 ns_e5 m_534 m_64 st_135 at_137 go_137 dX1_polymorphism_49 dX1_polymorphism_52 dX1_polymorphism_53 dX1_polymorphism_55 dX1_polymorphism_58 (Nat.le_of_ble_eq_true rfl) (Nat.le_of_ble_eq_true rfl)
      · have hf := hrr12 t11 ht
        cases Option.some.inj hf
        exact hret
  · cases Option.some.inj hf
    exact k_X1_requireOperationArity_x o hr9 m_481 (Nat.le_of_ble_eq_true rfl) (Nat.le_of_ble_eq_true rfl) ⟨(Nat.le_of_ble_eq_true rfl), (Nat.le_of_ble_eq_true rfl)⟩ dX1_polymorphism_1 (xw_out o (hret.2 _ rfl) (Nat.le_of_ble_eq_true rfl) (Nat.le_of_ble_eq_true rfl))
theorem c_X1_polymorphism (l : Launch) (hst : l.stackTraces = false) (a b c : Nat → Nat) (u v w : St) (p0 : Int32) (p1 : Int32) (t : (Int32 ⊕ String)) (hf : f_X1_polymorphism u v w p0 p1 = some t) : CoI l yX1_polymorphism (.code yX1_polymorphism cX1_polymorphism 5 (some .int)) 4 2 12 [.ref (a 0), .int p0, .int p1] (wX a u b v c w) (wX a u b v c w) (t) := mkI hst (by decide +kernel) (Nat.le_of_ble_eq_true rfl) (fun x _ o hI hX => b_X1_polymorphism o a b c u v w p0 p1 t hf ⟨hI, hX⟩)
def rt_X1_projectedArgument (x : Cx) (a b c : Nat → Nat) (u v w : St) (t : (Int32 ⊕ String)) : Prop := (∀ r, t = .inl r → RetI x cX1_projectedArgument .int 3 18 (wX a u b v c w (cxT x)) r) ∧ ∀ E, t = .inr E → RetX x 3 18 (wX a u b v c w (cxT x)) E
set_option maxRecDepth 20000 in
set_option maxHeartbeats 2000000 in
theorem b_X1_projectedArgument_L7 {x : Cx} (o : Ok x cX1_projectedArgument 4 RX1 2 3 18) {k n : Nat} (hk : k ≤ 3) (hn : n ≤ 18) (a b c : Nat → Nat) (u : St) (v : St) (w : St) (c1 : Int32) (c2 : Int32) (r : (Int32) ⊕ ((Int32 ⊕ String))) (hX : ∀ s : Int32, r = .inl s → G x 4 k n (wX a u b v c w (cxT x)) [] 29 []) (hR : ∀ t, r = .inr t → rt_X1_projectedArgument x a b c u v w t) : ∀ (m : Nat) (s : Int32), loopN (f_X1_projectedArgument_s7 u v w c1 c2) m s = some r → G x 4 k n (wX a u b v c w (cxT x)) [(1, .int c1), (2, .int c2), (3, .int s)] 7 [] := by
  refine loop_W _ (fun (s : Int32) => G x 4 k n (wX a u b v c w (cxT x)) [(1, .int c1), (2, .int c2), (3, .int s)] 7 []) r ?_
  intro s ww hf hw
  unfold f_X1_projectedArgument_s7 at hf
  refine g_iload_n o 2 rfl rfl dX1_projectedArgument_7 ?_
  refine g_iload_n o 0 rfl rfl dX1_projectedArgument_8 ?_
  refine g_ic_ge (tgt := 29) o rfl dX1_projectedArgument_9 hf (fun hc hf => ?_) (fun hc hf => ?_)
  · exact g_perm [] rfl (hX _ (lf_x hf hw))
  · refine g_iload_n o 1 rfl rfl dX1_projectedArgument_12 ?_
    refine g_iload_n o 0 rfl rfl dX1_projectedArgument_13 ?_
    refine g_iload_n o 2 rfl rfl dX1_projectedArgument_14 ?_
    obtain ⟨r4, hr4, hf⟩ := bd_some hf
    refine k_X1_argumentCode_ o hr4 m_567 (Nat.le_of_ble_eq_true rfl) (Nat.le_of_ble_eq_true rfl) ⟨hk, hn⟩ dX1_projectedArgument_15 ?_
    refine g_ic_ne (tgt := 23) o rfl dX1_projectedArgument_18 hf (fun hc hf => ?_) (fun hc hf => ?_)
    · refine g_iinc o [(3, .int (s + 1)), (1, .int c1), (2, .int c2)] 2 rfl (inc_1 _) (Nat.le_of_ble_eq_true rfl) rfl dX1_projectedArgument_23 ?_
      refine g_goto (tgt := 7) o rfl dX1_projectedArgument_26 ?_
      have hp := lf_c hf hw
      exact g_perm [1, 2, 0] rfl hp
    · refine g_iload_n o 2 rfl rfl dX1_projectedArgument_21 ?_
      exact g_iret ((hR _ (lf_x hf hw)).1 _ rfl) hk hn (vp_nar_int _) dX1_projectedArgument_22
set_option maxRecDepth 20000 in
set_option maxHeartbeats 2000000 in
theorem b_X1_projectedArgument {x : Cx} (o : Ok x cX1_projectedArgument 4 RX1 2 3 18) (a b c : Nat → Nat) (u v w : St) (p0 : Int32) (p1 : Int32) (t : (Int32 ⊕ String)) (hf : f_X1_projectedArgument u v w p0 p1 = some t) (hret : rt_X1_projectedArgument x a b c u v w t) : G x 4 0 0 (wX a u b v c w (cxT x)) [(0, .ref (a 0)), (1, .int p0), (2, .int p1)] 0 [] := by
  unfold f_X1_projectedArgument at hf
  refine g_iload_n o 1 rfl rfl dX1_projectedArgument_0 ?_
  refine g_iload_n o 2 rfl rfl dX1_projectedArgument_1 ?_
  rcases bz_some hf with ⟨r7, hr7, hf⟩ | ⟨E8, hr7, hf⟩
  · refine k_X1_requireOperation_n o hr7 m_478 (Nat.le_of_ble_eq_true rfl) (Nat.le_of_ble_eq_true rfl) ⟨(Nat.le_of_ble_eq_true rfl), (Nat.le_of_ble_eq_true rfl)⟩ dX1_projectedArgument_2 ?_
    refine g_iconst o ic_0 dX1_projectedArgument_5 ?_
    refine g_istore_n o [(3, .int 0), (0, .ref (a 0)), (1, .int p0), (2, .int p1)] (Nat.le_of_ble_eq_true rfl) rfl rfl dX1_projectedArgument_6 ?_
    obtain ⟨r10, hr10, hxr10, hrr10⟩ := bl_some hf
    refine g_perm [2, 3, 0] rfl (b_X1_projectedArgument_L7 o (Nat.le_of_ble_eq_true rfl) (Nat.le_of_ble_eq_true rfl) a b c u v w p0 p1 r10 (fun s7 hs => ?_) (fun t9 ht => ?_) FU 0 hr10)
    · have hf := hxr10 s7 hs
      cases Option.some.inj hf
      exact g_throwN o (hret.2 _ rfl) fit_ns fit_rt fit_ex rfl ns_e0 ns_e1 ns_e2 ns_e5 m_534 m_64 st_147 at_137 go_137 dX1_projectedArgument_29 dX1_projectedArgument_32 dX1_projectedArgument_33 dX1_projectedArgument_35 dX1_projectedArgument_38 (Nat.le_of_ble_eq_true rfl) (Nat.le_of_ble_eq_true rfl)
    · have hf := hrr10 t9 ht
      cases Option.some.inj hf
      exact hret
  · cases Option.some.inj hf
    exact k_X1_requireOperation_x o hr7 m_478 (Nat.le_of_ble_eq_true rfl) (Nat.le_of_ble_eq_true rfl) ⟨(Nat.le_of_ble_eq_true rfl), (Nat.le_of_ble_eq_true rfl)⟩ dX1_projectedArgument_2 (xw_out o (hret.2 _ rfl) (Nat.le_of_ble_eq_true rfl) (Nat.le_of_ble_eq_true rfl))
theorem c_X1_projectedArgument (l : Launch) (hst : l.stackTraces = false) (a b c : Nat → Nat) (u v w : St) (p0 : Int32) (p1 : Int32) (t : (Int32 ⊕ String)) (hf : f_X1_projectedArgument u v w p0 p1 = some t) : CoI l yX1_projectedArgument (.code yX1_projectedArgument cX1_projectedArgument 4 (some .int)) 2 3 18 [.ref (a 0), .int p0, .int p1] (wX a u b v c w) (wX a u b v c w) (t) := mkI hst (by decide +kernel) (Nat.le_of_ble_eq_true rfl) (fun x _ o hI hX => b_X1_projectedArgument o a b c u v w p0 p1 t hf ⟨hI, hX⟩)
def rt_X1_relationHasKind (x : Cx) (a b c : Nat → Nat) (u v w : St) (t : (Int32 ⊕ String)) : Prop := (∀ r, t = .inl r → RetI x cX1_relationHasKind .boolean 2 12 (wX a u b v c w (cxT x)) r) ∧ ∀ E, t = .inr E → RetX x 2 12 (wX a u b v c w (cxT x)) E
set_option maxRecDepth 20000 in
set_option maxHeartbeats 2000000 in
theorem b_X1_relationHasKind {x : Cx} (o : Ok x cX1_relationHasKind 3 RX1 3 2 12) (a b c : Nat → Nat) (u v w : St) (p0 : Int32) (p1 : Int32) (t : (Int32 ⊕ String)) (hf : f_X1_relationHasKind u v w p0 p1 = some t) (hret : rt_X1_relationHasKind x a b c u v w t) : G x 3 0 0 (wX a u b v c w (cxT x)) [(0, .ref (a 0)), (1, .int p0), (2, .int p1)] 0 [] := by
  unfold f_X1_relationHasKind at hf
  refine g_aload_n o 0 rfl rfl dX1_relationHasKind_0 ?_
  refine g_iload_n o 1 rfl rfl dX1_relationHasKind_1 ?_
  rcases bz_some hf with ⟨r8, hr8, hf⟩ | ⟨E9, hr8, hf⟩
  · refine k_X1_requireRelation_n o hr8 m_369 (Nat.le_of_ble_eq_true rfl) (Nat.le_of_ble_eq_true rfl) ⟨(Nat.le_of_ble_eq_true rfl), (Nat.le_of_ble_eq_true rfl)⟩ dX1_relationHasKind_2 ?_
    refine g_iload_n o 2 rfl rfl dX1_relationHasKind_5 ?_
    rcases bz_some hf with ⟨r10, hr10, hf⟩ | ⟨E11, hr10, hf⟩
    · refine k_X1_requireKind_n o hr10 m_620 (Nat.le_of_ble_eq_true rfl) (Nat.le_of_ble_eq_true rfl) ⟨(Nat.le_of_ble_eq_true rfl), (Nat.le_of_ble_eq_true rfl)⟩ dX1_relationHasKind_6 ?_
      refine g_aload_n o 0 rfl rfl dX1_relationHasKind_9 ?_
      refine g_iload_n o 1 rfl rfl dX1_relationHasKind_10 ?_
      refine g_gets o (ok_KIND_ARITIES o) m_624 dX1_relationHasKind_11 (fun t12 hTt12 => ?_)
      refine g_iload_n o 2 rfl rfl dX1_relationHasKind_14 ?_
      refine g_ti o hTt12 dX1_relationHasKind_15 hf (fun hf => ?_)
      refine g_gets o (ok_KIND_CODES o) m_626 dX1_relationHasKind_16 (fun t13 hTt13 => ?_)
      refine g_iload_n o 2 rfl rfl dX1_relationHasKind_19 ?_
      refine g_ti o hTt13 dX1_relationHasKind_20 hf (fun hf => ?_)
      obtain ⟨r14, hr14, hf⟩ := bd_some hf
      refine k_X1_isPreserved_ o hr14 m_495 (Nat.le_of_ble_eq_true rfl) (Nat.le_of_ble_eq_true rfl) ⟨(Nat.le_of_ble_eq_true rfl), (Nat.le_of_ble_eq_true rfl)⟩ dX1_relationHasKind_21 ?_
      obtain ⟨hb, hf⟩ := gd_some hf
      cases Option.some.inj hf
      exact g_iret (hret.1 _ rfl) (Nat.le_of_ble_eq_true rfl) (Nat.le_of_ble_eq_true rfl) (okB_n hb) dX1_relationHasKind_24
    · cases Option.some.inj hf
      exact k_X1_requireKind_x o hr10 m_620 (Nat.le_of_ble_eq_true rfl) (Nat.le_of_ble_eq_true rfl) ⟨(Nat.le_of_ble_eq_true rfl), (Nat.le_of_ble_eq_true rfl)⟩ dX1_relationHasKind_6 (xw_out o (hret.2 _ rfl) (Nat.le_of_ble_eq_true rfl) (Nat.le_of_ble_eq_true rfl))
  · cases Option.some.inj hf
    exact k_X1_requireRelation_x o hr8 m_369 (Nat.le_of_ble_eq_true rfl) (Nat.le_of_ble_eq_true rfl) ⟨(Nat.le_of_ble_eq_true rfl), (Nat.le_of_ble_eq_true rfl)⟩ dX1_relationHasKind_2 (xw_out o (hret.2 _ rfl) (Nat.le_of_ble_eq_true rfl) (Nat.le_of_ble_eq_true rfl))
theorem c_X1_relationHasKind (l : Launch) (hst : l.stackTraces = false) (a b c : Nat → Nat) (u v w : St) (p0 : Int32) (p1 : Int32) (t : (Int32 ⊕ String)) (hf : f_X1_relationHasKind u v w p0 p1 = some t) : CoI l yX1_relationHasKind (.code yX1_relationHasKind cX1_relationHasKind 3 (some .boolean)) 3 2 12 [.ref (a 0), .int p0, .int p1] (wX a u b v c w) (wX a u b v c w) (t) := mkI hst (by decide +kernel) (Nat.le_of_ble_eq_true rfl) (fun x _ o hI hX => b_X1_relationHasKind o a b c u v w p0 p1 t hf ⟨hI, hX⟩)
def rt_X1_lowestKind (x : Cx) (a b c : Nat → Nat) (u v w : St) (t : (Int32 ⊕ String)) : Prop := (∀ r, t = .inl r → RetI x cX1_lowestKind .int 1 6 (wX a u b v c w (cxT x)) r) ∧ ∀ E, t = .inr E → RetX x 1 6 (wX a u b v c w (cxT x)) E
set_option maxRecDepth 20000 in
set_option maxHeartbeats 2000000 in
theorem b_X1_lowestKind_L2 {x : Cx} (o : Ok x cX1_lowestKind 2 RX1 5 1 6) {k n : Nat} (hk : k ≤ 1) (hn : n ≤ 6) (a b c : Nat → Nat) (u : St) (v : St) (w : St) (r : (Int32) ⊕ ((Int32 ⊕ String))) (hX : ∀ s : Int32, r = .inl s → G x 2 k n (wX a u b v c w (cxT x)) [] 24 []) (hR : ∀ t, r = .inr t → rt_X1_lowestKind x a b c u v w t) : ∀ (m : Nat) (s : Int32), loopN (f_X1_lowestKind_s2 u v w) m s = some r → G x 2 k n (wX a u b v c w (cxT x)) [(0, .ref (a 0)), (1, .int s)] 2 [] := by
  refine loop_W _ (fun (s : Int32) => G x 2 k n (wX a u b v c w (cxT x)) [(0, .ref (a 0)), (1, .int s)] 2 []) r ?_
  intro s ww hf hw
  unfold f_X1_lowestKind_s2 at hf
  refine g_iload_n o 1 rfl rfl dX1_lowestKind_2 ?_
  refine g_bipush o bp_6 dX1_lowestKind_3 ?_
  refine g_ic_ge (tgt := 24) o rfl dX1_lowestKind_5 hf (fun hc hf => ?_) (fun hc hf => ?_)
  · exact g_perm [] rfl (hX _ (lf_x hf hw))
  · refine g_aload_n o 0 rfl rfl dX1_lowestKind_8 ?_
    refine g_iload_n o 1 rfl rfl dX1_lowestKind_9 ?_
    obtain ⟨r2, hr2, hf⟩ := bd_some hf
    refine k_X1_isOfKind_ o hr2 m_635 (Nat.le_of_ble_eq_true rfl) (Nat.le_of_ble_eq_true rfl) ⟨hk, hn⟩ dX1_lowestKind_10 ?_
    refine g_if_eq (tgt := 18) o rfl dX1_lowestKind_13 hf (fun hc hf => ?_) (fun hc hf => ?_)
    · refine g_iinc o [(1, .int (s + 1)), (0, .ref (a 0))] 1 rfl (inc_1 _) (Nat.le_of_ble_eq_true rfl) rfl dX1_lowestKind_18 ?_
      refine g_goto (tgt := 2) o rfl dX1_lowestKind_21 ?_
      have hp := lf_c hf hw
      exact g_perm [1, 0] rfl hp
    · refine g_iload_n o 1 rfl rfl dX1_lowestKind_16 ?_
      exact g_iret ((hR _ (lf_x hf hw)).1 _ rfl) hk hn (vp_nar_int _) dX1_lowestKind_17
set_option maxRecDepth 20000 in
set_option maxHeartbeats 2000000 in
theorem b_X1_lowestKind {x : Cx} (o : Ok x cX1_lowestKind 2 RX1 5 1 6) (a b c : Nat → Nat) (u v w : St) (t : (Int32 ⊕ String)) (hf : f_X1_lowestKind u v w = some t) (hret : rt_X1_lowestKind x a b c u v w t) : G x 2 0 0 (wX a u b v c w (cxT x)) [(0, .ref (a 0))] 0 [] := by
  unfold f_X1_lowestKind at hf
  refine g_iconst o ic_0 dX1_lowestKind_0 ?_
  refine g_istore_n o [(1, .int 0), (0, .ref (a 0))] (Nat.le_of_ble_eq_true rfl) rfl rfl dX1_lowestKind_1 ?_
  obtain ⟨r6, hr6, hxr6, hrr6⟩ := bl_some hf
  refine g_perm [1, 0] rfl (b_X1_lowestKind_L2 o (Nat.le_of_ble_eq_true rfl) (Nat.le_of_ble_eq_true rfl) a b c u v w r6 (fun s2 hs => ?_) (fun t5 ht => ?_) FU 0 hr6)
  · have hf := hxr6 s2 hs
    cases Option.some.inj hf
    exact g_throwN o (hret.2 _ rfl) fit_ns fit_rt fit_ex rfl ns_e0 ns_e1 ns_e2 ns_e5 m_534 m_64 st_173 at_137 go_137 dX1_lowestKind_24 dX1_lowestKind_27 dX1_lowestKind_28 dX1_lowestKind_30 dX1_lowestKind_33 (Nat.le_of_ble_eq_true rfl) (Nat.le_of_ble_eq_true rfl)
  · have hf := hrr6 t5 ht
    cases Option.some.inj hf
    exact hret
theorem c_X1_lowestKind (l : Launch) (hst : l.stackTraces = false) (a b c : Nat → Nat) (u v w : St) (t : (Int32 ⊕ String)) (hf : f_X1_lowestKind u v w = some t) : CoI l yX1_lowestKind (.code yX1_lowestKind cX1_lowestKind 2 (some .int)) 5 1 6 [.ref (a 0)] (wX a u b v c w) (wX a u b v c w) (t) := mkI hst (by decide +kernel) (Nat.le_of_ble_eq_true rfl) (fun x _ o hI hX => b_X1_lowestKind o a b c u v w t hf ⟨hI, hX⟩)
def rt_X1_setVariables (x : Cx) (a b c : Nat → Nat) (u w : St) (t : (Int32 ⊕ String) × St) : Prop := (∀ r, t.1 = .inl r → RetI x cX1_setVariables .int 1 6 (wX a u b t.2 c w (cxT x)) r) ∧ ∀ E, t.1 = .inr E → RetX x 1 6 (wX a u b t.2 c w (cxT x)) E
set_option maxRecDepth 20000 in
set_option maxHeartbeats 2000000 in
theorem b_X1_setVariables {x : Cx} (o : Ok x cX1_setVariables 3 RX1 0 1 6) (a b c : Nat → Nat) (u v w : St) (p0 : Int32) (t : (Int32 ⊕ String) × St) (hf : f_X1_setVariables u v w p0 = some t) (hret : rt_X1_setVariables x a b c u w t) : G x 3 0 0 (wX a u b v c w (cxT x)) [(0, .ref (a 0)), (1, .int p0)] 0 [] := by
  unfold f_X1_setVariables at hf
  refine g_iload_n o 1 rfl rfl dX1_setVariables_0 ?_
  refine g_iconst o ic_1 dX1_setVariables_1 ?_
  refine g_ic_lt (tgt := 11) o rfl dX1_setVariables_2 hf (fun hc hf => ?_) (fun hc hf => ?_)
  · cases Option.some.inj hf
    exact g_throwS o (hret.2 _ rfl) fit_ia fit_re rfl m_241 m_60 st_175 at_63 go_63 dX1_setVariables_11 dX1_setVariables_14 dX1_setVariables_15 dX1_setVariables_17 dX1_setVariables_20 (Nat.le_of_ble_eq_true rfl) (Nat.le_of_ble_eq_true rfl)
  · refine g_iload_n o 1 rfl rfl dX1_setVariables_5 ?_
    refine g_bipush o bp_10 dX1_setVariables_6 ?_
    refine g_ic_le (tgt := 21) o rfl dX1_setVariables_8 hf (fun hc hf => ?_) (fun hc hf => ?_)
    · refine g_aload_n o 0 rfl rfl dX1_setVariables_21 ?_
      refine X_get0 o m_112 dX1_setVariables_22 ?_
      refine Y_get4 o e_91 dX1_setVariables_25 ?_
      refine g_nmi hf (fun x2 hf => ?_)
      refine g_istore_n o [(2, .int x2), (0, .ref (a 0)), (1, .int p0)] (Nat.le_of_ble_eq_true rfl) rfl rfl dX1_setVariables_28 ?_
      refine g_aload_n o 1 rfl rfl dX1_setVariables_29 ?_
      refine X_get0 o m_112 dX1_setVariables_30 ?_
      refine g_iload_n o 2 rfl rfl dX1_setVariables_33 ?_
      refine Y_put3 o e_89 dX1_setVariables_34 ?_
      refine g_aload_n o 1 rfl rfl dX1_setVariables_37 ?_
      refine X_get0 o m_112 dX1_setVariables_38 ?_
      refine g_iconst o ic_0 dX1_setVariables_41 ?_
      refine Y_put4 o e_91 dX1_setVariables_42 ?_
      refine g_iload_n o 0 rfl rfl dX1_setVariables_45 ?_
      cases Option.some.inj hf
      exact g_iret (hret.1 _ rfl) (Nat.le_of_ble_eq_true rfl) (Nat.le_of_ble_eq_true rfl) (vp_nar_int _) dX1_setVariables_46
    · cases Option.some.inj hf
      exact g_throwS o (hret.2 _ rfl) fit_ia fit_re rfl m_241 m_60 st_175 at_63 go_63 dX1_setVariables_11 dX1_setVariables_14 dX1_setVariables_15 dX1_setVariables_17 dX1_setVariables_20 (Nat.le_of_ble_eq_true rfl) (Nat.le_of_ble_eq_true rfl)
theorem c_X1_setVariables (l : Launch) (hst : l.stackTraces = false) (a b c : Nat → Nat) (u v w : St) (p0 : Int32) (t : (Int32 ⊕ String) × St) (hf : f_X1_setVariables u v w p0 = some t) : CoI l yX1_setVariables (.code yX1_setVariables cX1_setVariables 3 (some .int)) 0 1 6 [.ref (a 0), .int p0] (wX a u b v c w) (wX a u b t.2 c w) (t.1) := mkI hst (by decide +kernel) (Nat.le_of_ble_eq_true rfl) (fun x _ o hI hX => b_X1_setVariables o a b c u v w p0 t hf ⟨hI, hX⟩)
def rt_X1_removeLastConstraint (x : Cx) (a b c : Nat → Nat) (u w : St) (t : (Int32 ⊕ String) × St) : Prop := (∀ r, t.1 = .inl r → RetI x cX1_removeLastConstraint .int 1 6 (wX a u b t.2 c w (cxT x)) r) ∧ ∀ E, t.1 = .inr E → RetX x 1 6 (wX a u b t.2 c w (cxT x)) E
set_option maxRecDepth 20000 in
set_option maxHeartbeats 2000000 in
theorem b_X1_removeLastConstraint {x : Cx} (o : Ok x cX1_removeLastConstraint 1 RX1 0 1 6) (a b c : Nat → Nat) (u v w : St) (t : (Int32 ⊕ String) × St) (hf : f_X1_removeLastConstraint u v w = some t) (hret : rt_X1_removeLastConstraint x a b c u w t) : G x 1 0 0 (wX a u b v c w (cxT x)) [(0, .ref (a 0))] 0 [] := by
  unfold f_X1_removeLastConstraint at hf
  refine g_aload_n o 0 rfl rfl dX1_removeLastConstraint_0 ?_
  refine X_get0 o m_112 dX1_removeLastConstraint_1 ?_
  refine Y_get4 o e_91 dX1_removeLastConstraint_4 ?_
  refine g_if_gt (tgt := 20) o rfl dX1_removeLastConstraint_7 hf (fun hc hf => ?_) (fun hc hf => ?_)
  · refine g_aload_n o 0 rfl rfl dX1_removeLastConstraint_20 ?_
    refine X_get0 o m_112 dX1_removeLastConstraint_21 ?_
    refine g_dup o rfl dX1_removeLastConstraint_24 ?_
    refine Y_get4 o e_91 dX1_removeLastConstraint_25 ?_
    refine g_iconst o ic_1 dX1_removeLastConstraint_28 ?_
    refine g_isub o dX1_removeLastConstraint_29 ?_
    refine Y_put4 o e_91 dX1_removeLastConstraint_30 ?_
    refine g_aload_n o 0 rfl rfl dX1_removeLastConstraint_33 ?_
    refine X_get0 o m_112 dX1_removeLastConstraint_34 ?_
    refine Y_get4 o e_91 dX1_removeLastConstraint_37 ?_
    cases Option.some.inj hf
    exact g_iret (hret.1 _ rfl) (Nat.le_of_ble_eq_true rfl) (Nat.le_of_ble_eq_true rfl) (vp_nar_int _) dX1_removeLastConstraint_40
  · cases Option.some.inj hf
    exact g_throwS o (hret.2 _ rfl) fit_is fit_re rfl m_319 m_61 st_199 at_188 go_188 dX1_removeLastConstraint_10 dX1_removeLastConstraint_13 dX1_removeLastConstraint_14 dX1_removeLastConstraint_16 dX1_removeLastConstraint_19 (Nat.le_of_ble_eq_true rfl) (Nat.le_of_ble_eq_true rfl)
theorem c_X1_removeLastConstraint (l : Launch) (hst : l.stackTraces = false) (a b c : Nat → Nat) (u v w : St) (t : (Int32 ⊕ String) × St) (hf : f_X1_removeLastConstraint u v w = some t) : CoI l yX1_removeLastConstraint (.code yX1_removeLastConstraint cX1_removeLastConstraint 1 (some .int)) 0 1 6 [.ref (a 0)] (wX a u b v c w) (wX a u b t.2 c w) (t.1) := mkI hst (by decide +kernel) (Nat.le_of_ble_eq_true rfl) (fun x _ o hI hX => b_X1_removeLastConstraint o a b c u v w t hf ⟨hI, hX⟩)
def rt_X1_solutionCount (x : Cx) (a b c : Nat → Nat) (u v w : St) (t : Int32) : Prop := RetI x cX1_solutionCount .int 0 0 (wX a u b v c w (cxT x)) t
set_option maxRecDepth 20000 in
set_option maxHeartbeats 2000000 in
theorem b_X1_solutionCount {x : Cx} (o : Ok x cX1_solutionCount 1 RX1 14 0 0) (a b c : Nat → Nat) (u v w : St) (t : Int32) (hf : f_X1_solutionCount u v w = some t) (hret : rt_X1_solutionCount x a b c u v w t) : G x 1 0 0 (wX a u b v c w (cxT x)) [(0, .ref (a 0))] 0 [] := by
  unfold f_X1_solutionCount at hf
  refine g_aload_n o 0 rfl rfl dX1_solutionCount_0 ?_
  refine X_get0 o m_112 dX1_solutionCount_1 ?_
  obtain ⟨r2, hr2, hf⟩ := bd_some hf
  refine k_X0_countSolutions_NX o hr2 e_156 (Nat.le_of_ble_eq_true rfl) (Nat.le_of_ble_eq_true rfl) ⟨(Nat.le_of_ble_eq_true rfl), (Nat.le_of_ble_eq_true rfl)⟩ dX1_solutionCount_4 ?_
  cases Option.some.inj hf
  exact g_iret hret (Nat.le_of_ble_eq_true rfl) (Nat.le_of_ble_eq_true rfl) (vp_nar_int _) dX1_solutionCount_7
theorem c_X1_solutionCount (l : Launch) (hst : l.stackTraces = false) (a b c : Nat → Nat) (u v w : St) (t : Int32) (hf : f_X1_solutionCount u v w = some t) : CoI l yX1_solutionCount (.code yX1_solutionCount cX1_solutionCount 1 (some .int)) 14 0 0 [.ref (a 0)] (wX a u b v c w) (wX a u b v c w) (.inl t) := mkI hst (by decide +kernel) (Nat.le_of_ble_eq_true rfl) (fun x _ o hI hX => b_X1_solutionCount o a b c u v w t hf (hI _ rfl))
def rt_X1_solution (x : Cx) (a b c : Nat → Nat) (u v w : St) (t : (Int32 ⊕ String)) : Prop := (∀ r, t = .inl r → RetI x cX1_solution .int 1 6 (wX a u b v c w (cxT x)) r) ∧ ∀ E, t = .inr E → RetX x 1 6 (wX a u b v c w (cxT x)) E
set_option maxRecDepth 20000 in
set_option maxHeartbeats 2000000 in
theorem b_X1_solution {x : Cx} (o : Ok x cX1_solution 3 RX1 14 1 6) (a b c : Nat → Nat) (u v w : St) (p0 : Int32) (t : (Int32 ⊕ String)) (hf : f_X1_solution u v w p0 = some t) (hret : rt_X1_solution x a b c u v w t) : G x 3 0 0 (wX a u b v c w (cxT x)) [(0, .ref (a 0)), (1, .int p0)] 0 [] := by
  unfold f_X1_solution at hf
  refine g_aload_n o 0 rfl rfl dX1_solution_0 ?_
  refine X_get0 o m_112 dX1_solution_1 ?_
  refine g_iload_n o 1 rfl rfl dX1_solution_4 ?_
  obtain ⟨r2, hr2, hf⟩ := bd_some hf
  refine k_X0_findSolution_NX o hr2 e_690 (Nat.le_of_ble_eq_true rfl) (Nat.le_of_ble_eq_true rfl) ⟨(Nat.le_of_ble_eq_true rfl), (Nat.le_of_ble_eq_true rfl)⟩ dX1_solution_5 ?_
  refine g_istore_n o [(2, .int r2), (0, .ref (a 0)), (1, .int p0)] (Nat.le_of_ble_eq_true rfl) rfl rfl dX1_solution_8 ?_
  refine g_iload_n o 0 rfl rfl dX1_solution_9 ?_
  refine g_if_ge (tgt := 23) o rfl dX1_solution_10 hf (fun hc hf => ?_) (fun hc hf => ?_)
  · refine g_iload_n o 0 rfl rfl dX1_solution_23 ?_
    cases Option.some.inj hf
    exact g_iret (hret.1 _ rfl) (Nat.le_of_ble_eq_true rfl) (Nat.le_of_ble_eq_true rfl) (vp_nar_int _) dX1_solution_24
  · cases Option.some.inj hf
    exact g_throwN o (hret.2 _ rfl) fit_ns fit_rt fit_ex rfl ns_e0 ns_e1 ns_e2 ns_e5 m_534 m_64 st_208 at_137 go_137 dX1_solution_13 dX1_solution_16 dX1_solution_17 dX1_solution_19 dX1_solution_22 (Nat.le_of_ble_eq_true rfl) (Nat.le_of_ble_eq_true rfl)
theorem c_X1_solution (l : Launch) (hst : l.stackTraces = false) (a b c : Nat → Nat) (u v w : St) (p0 : Int32) (t : (Int32 ⊕ String)) (hf : f_X1_solution u v w p0 = some t) : CoI l yX1_solution (.code yX1_solution cX1_solution 3 (some .int)) 14 1 6 [.ref (a 0), .int p0] (wX a u b v c w) (wX a u b v c w) (t) := mkI hst (by decide +kernel) (Nat.le_of_ble_eq_true rfl) (fun x _ o hI hX => b_X1_solution o a b c u v w p0 t hf ⟨hI, hX⟩)
def rt_X1_leastSolution (x : Cx) (a b c : Nat → Nat) (u v w : St) (t : (Int32 ⊕ String)) : Prop := (∀ r, t = .inl r → RetI x cX1_leastSolution .int 2 12 (wX a u b v c w (cxT x)) r) ∧ ∀ E, t = .inr E → RetX x 2 12 (wX a u b v c w (cxT x)) E
set_option maxRecDepth 20000 in
set_option maxHeartbeats 2000000 in
theorem b_X1_leastSolution {x : Cx} (o : Ok x cX1_leastSolution 1 RX1 15 2 12) (a b c : Nat → Nat) (u v w : St) (t : (Int32 ⊕ String)) (hf : f_X1_leastSolution u v w = some t) (hret : rt_X1_leastSolution x a b c u v w t) : G x 1 0 0 (wX a u b v c w (cxT x)) [(0, .ref (a 0))] 0 [] := by
  unfold f_X1_leastSolution at hf
  refine g_aload_n o 0 rfl rfl dX1_leastSolution_0 ?_
  refine g_iconst o ic_2 dX1_leastSolution_1 ?_
  rcases bz_some hf with ⟨r7, hr7, hf⟩ | ⟨E8, hr7, hf⟩
  · refine k_X1_requireKindOfLanguage_n o hr7 m_720 (Nat.le_of_ble_eq_true rfl) (Nat.le_of_ble_eq_true rfl) ⟨(Nat.le_of_ble_eq_true rfl), (Nat.le_of_ble_eq_true rfl)⟩ dX1_leastSolution_2 ?_
    refine g_aload_n o 0 rfl rfl dX1_leastSolution_5 ?_
    rcases bz_some hf with ⟨r9, hr9, hf⟩ | ⟨E10, hr9, hf⟩
    · refine k_X1_requireSolutions_n o hr9 m_740 (Nat.le_of_ble_eq_true rfl) (Nat.le_of_ble_eq_true rfl) ⟨(Nat.le_of_ble_eq_true rfl), (Nat.le_of_ble_eq_true rfl)⟩ dX1_leastSolution_6 ?_
      refine g_aload_n o 0 rfl rfl dX1_leastSolution_9 ?_
      refine X_get0 o m_112 dX1_leastSolution_10 ?_
      obtain ⟨r11, hr11, hf⟩ := bd_some hf
      refine k_X0_greatestAssignment_NX o hr11 e_745 (Nat.le_of_ble_eq_true rfl) (Nat.le_of_ble_eq_true rfl) ⟨(Nat.le_of_ble_eq_true rfl), (Nat.le_of_ble_eq_true rfl)⟩ dX1_leastSolution_13 ?_
      refine g_aload_n o 0 rfl rfl dX1_leastSolution_16 ?_
      refine X_get0 o m_112 dX1_leastSolution_17 ?_
      refine g_iconst o ic_0 dX1_leastSolution_20 ?_
      obtain ⟨r12, hr12, hf⟩ := bd_some hf
      refine k_X0_variablesThatTake_NX o hr12 e_705 (Nat.le_of_ble_eq_true rfl) (Nat.le_of_ble_eq_true rfl) ⟨(Nat.le_of_ble_eq_true rfl), (Nat.le_of_ble_eq_true rfl)⟩ dX1_leastSolution_21 ?_
      refine g_iconst o ic_m1 dX1_leastSolution_24 ?_
      refine g_ixor o dX1_leastSolution_25 ?_
      refine g_iand o dX1_leastSolution_26 ?_
      cases Option.some.inj hf
      exact g_iret (hret.1 _ rfl) (Nat.le_of_ble_eq_true rfl) (Nat.le_of_ble_eq_true rfl) (vp_nar_int _) dX1_leastSolution_27
    · cases Option.some.inj hf
      exact k_X1_requireSolutions_x o hr9 m_740 (Nat.le_of_ble_eq_true rfl) (Nat.le_of_ble_eq_true rfl) ⟨(Nat.le_of_ble_eq_true rfl), (Nat.le_of_ble_eq_true rfl)⟩ dX1_leastSolution_6 (xw_out o (hret.2 _ rfl) (Nat.le_of_ble_eq_true rfl) (Nat.le_of_ble_eq_true rfl))
  · cases Option.some.inj hf
    exact k_X1_requireKindOfLanguage_x o hr7 m_720 (Nat.le_of_ble_eq_true rfl) (Nat.le_of_ble_eq_true rfl) ⟨(Nat.le_of_ble_eq_true rfl), (Nat.le_of_ble_eq_true rfl)⟩ dX1_leastSolution_2 (xw_out o (hret.2 _ rfl) (Nat.le_of_ble_eq_true rfl) (Nat.le_of_ble_eq_true rfl))
theorem c_X1_leastSolution (l : Launch) (hst : l.stackTraces = false) (a b c : Nat → Nat) (u v w : St) (t : (Int32 ⊕ String)) (hf : f_X1_leastSolution u v w = some t) : CoI l yX1_leastSolution (.code yX1_leastSolution cX1_leastSolution 1 (some .int)) 15 2 12 [.ref (a 0)] (wX a u b v c w) (wX a u b v c w) (t) := mkI hst (by decide +kernel) (Nat.le_of_ble_eq_true rfl) (fun x _ o hI hX => b_X1_leastSolution o a b c u v w t hf ⟨hI, hX⟩)
def rt_X1_removeRedundant (x : Cx) (a b c : Nat → Nat) (u w : St) (t : Int32 × St) : Prop := RetI x cX1_removeRedundant .int 0 0 (wX a u b t.2 c w (cxT x)) t.1
set_option maxRecDepth 20000 in
set_option maxHeartbeats 2000000 in
theorem b_X1_removeRedundant_L12 {x : Cx} (o : Ok x cX1_removeRedundant 3 RX1 14 0 0) {k n : Nat} (hk : k ≤ 0) (hn : n ≤ 0) (a b c : Nat → Nat) (u : St) (v : St) (w : St) (r : (Int32 × Int32) ⊕ (Int32 × St)) (hX : ∀ s : Int32 × Int32, r = .inl s → G x 3 k n (wX a u b v c w (cxT x)) [(0, .ref (a 0)), (1, .int s.1)] 40 []) (hR : ∀ t, r = .inr t → rt_X1_removeRedundant x a b c u w t) : ∀ (m : Nat) (s : Int32 × Int32), loopN (f_X1_removeRedundant_s12 u v w) m s = some r → G x 3 k n (wX a u b v c w (cxT x)) [(0, .ref (a 0)), (1, .int s.1), (2, .int s.2)] 12 [] := by
  refine loop_W _ (fun (s : Int32 × Int32) => G x 3 k n (wX a u b v c w (cxT x)) [(0, .ref (a 0)), (1, .int s.1), (2, .int s.2)] 12 []) r ?_
  intro s ww hf hw
  unfold f_X1_removeRedundant_s12 at hf
  obtain ⟨s_0, s_1⟩ := s
  try dsimp -simprocs only at hf ⊢
  refine g_iload_n o 2 rfl rfl dX1_removeRedundant_12 ?_
  refine g_if_lt (tgt := 40) o rfl dX1_removeRedundant_13 hf (fun hc hf => ?_) (fun hc hf => ?_)
  · exact g_perm [0, 1] rfl (hX _ (lf_x hf hw))
  · refine g_aload_n o 0 rfl rfl dX1_removeRedundant_16 ?_
    refine X_get0 o m_112 dX1_removeRedundant_17 ?_
    refine g_iload_n o 2 rfl rfl dX1_removeRedundant_20 ?_
    refine g_iload_n o 1 rfl rfl dX1_removeRedundant_21 ?_
    obtain ⟨r4, hr4, hf⟩ := bd_some hf
    refine k_X0_isSpare_NX o hr4 e_204 (Nat.le_of_ble_eq_true rfl) (Nat.le_of_ble_eq_true rfl) ⟨hk, hn⟩ dX1_removeRedundant_22 ?_
    refine g_if_eq (tgt := 34) o rfl dX1_removeRedundant_25 hf (fun hc hf => ?_) (fun hc hf => ?_)
    · refine g_iinc o [(2, .int (s_1 + (-1))), (0, .ref (a 0)), (1, .int s_0)] 2 rfl (inc_m1 _) (Nat.le_of_ble_eq_true rfl) rfl dX1_removeRedundant_34 ?_
      refine g_goto (tgt := 12) o rfl dX1_removeRedundant_37 ?_
      have hp := lf_c hf hw
      exact g_perm [1, 2, 0] rfl hp
    · refine g_iload_n o 1 rfl rfl dX1_removeRedundant_28 ?_
      refine g_iconst o ic_1 dX1_removeRedundant_29 ?_
      refine g_iload_n o 2 rfl rfl dX1_removeRedundant_30 ?_
      refine g_ishl o dX1_removeRedundant_31 ?_
      refine g_ior o dX1_removeRedundant_32 ?_
      refine g_nmi hf (fun x5 hf => ?_)
      refine g_istore_n o [(1, .int x5), (0, .ref (a 0)), (2, .int s_1)] (Nat.le_of_ble_eq_true rfl) rfl rfl dX1_removeRedundant_33 ?_
      refine g_iinc o [(2, .int (s_1 + (-1))), (1, .int x5), (0, .ref (a 0))] 2 rfl (inc_m1 _) (Nat.le_of_ble_eq_true rfl) rfl dX1_removeRedundant_34 ?_
      refine g_goto (tgt := 12) o rfl dX1_removeRedundant_37 ?_
      have hp := lf_c hf hw
      exact g_perm [2, 1, 0] rfl hp
set_option maxRecDepth 20000 in
set_option maxHeartbeats 2000000 in
theorem b_X1_removeRedundant {x : Cx} (o : Ok x cX1_removeRedundant 3 RX1 14 0 0) (a b c : Nat → Nat) (u v w : St) (t : Int32 × St) (hf : f_X1_removeRedundant u v w = some t) (hret : rt_X1_removeRedundant x a b c u w t) : G x 3 0 0 (wX a u b v c w (cxT x)) [(0, .ref (a 0))] 0 [] := by
  unfold f_X1_removeRedundant at hf
  refine g_iconst o ic_0 dX1_removeRedundant_0 ?_
  refine g_istore_n o [(1, .int 0), (0, .ref (a 0))] (Nat.le_of_ble_eq_true rfl) rfl rfl dX1_removeRedundant_1 ?_
  refine g_aload_n o 1 rfl rfl dX1_removeRedundant_2 ?_
  refine X_get0 o m_112 dX1_removeRedundant_3 ?_
  refine Y_get4 o e_91 dX1_removeRedundant_6 ?_
  refine g_iconst o ic_1 dX1_removeRedundant_9 ?_
  refine g_isub o dX1_removeRedundant_10 ?_
  refine g_nmi hf (fun x10 hf => ?_)
  refine g_istore_n o [(2, .int x10), (1, .int 0), (0, .ref (a 0))] (Nat.le_of_ble_eq_true rfl) rfl rfl dX1_removeRedundant_11 ?_
  obtain ⟨r12, hr12, hxr12, hrr12⟩ := bl_some hf
  refine g_perm [2, 1, 0] rfl (b_X1_removeRedundant_L12 o (Nat.le_of_ble_eq_true rfl) (Nat.le_of_ble_eq_true rfl) a b c u v w r12 (fun s12 hs => ?_) (fun t11 ht => ?_) FU (0, x10) hr12)
  · have hf := hxr12 s12 hs
    obtain ⟨s12_0, s12_1⟩ := s12
    try dsimp -simprocs only at hf ⊢
    refine g_aload_n o 0 rfl rfl dX1_removeRedundant_40 ?_
    refine X_get0 o m_112 dX1_removeRedundant_41 ?_
    refine g_iload_n o 1 rfl rfl dX1_removeRedundant_44 ?_
    obtain ⟨r13, hr13, hf⟩ := bd_some hf
    refine k_X0_removeConstraints_NX o hr13 e_208 (Nat.le_of_ble_eq_true rfl) (Nat.le_of_ble_eq_true rfl) ⟨(Nat.le_of_ble_eq_true rfl), (Nat.le_of_ble_eq_true rfl)⟩ dX1_removeRedundant_45 ?_
    refine g_iload_n o 1 rfl rfl dX1_removeRedundant_48 ?_
    obtain ⟨r14, hr14, hf⟩ := bd_some hf
    refine k_J6_bitCount_0f7a4_ o hr14 m_212 (Nat.le_of_ble_eq_true rfl) (Nat.le_of_ble_eq_true rfl) ⟨(Nat.le_of_ble_eq_true rfl), (Nat.le_of_ble_eq_true rfl)⟩ dX1_removeRedundant_49 ?_
    cases Option.some.inj hf
    exact g_iret hret (Nat.le_of_ble_eq_true rfl) (Nat.le_of_ble_eq_true rfl) (vp_nar_int _) dX1_removeRedundant_52
  · have hf := hrr12 t11 ht
    cases Option.some.inj hf
    exact hret
theorem c_X1_removeRedundant (l : Launch) (hst : l.stackTraces = false) (a b c : Nat → Nat) (u v w : St) (t : Int32 × St) (hf : f_X1_removeRedundant u v w = some t) : CoI l yX1_removeRedundant (.code yX1_removeRedundant cX1_removeRedundant 3 (some .int)) 14 0 0 [.ref (a 0)] (wX a u b v c w) (wX a u b t.2 c w) (.inl t.1) := mkI hst (by decide +kernel) (Nat.le_of_ble_eq_true rfl) (fun x _ o hI hX => b_X1_removeRedundant o a b c u v w t hf (hI _ rfl))
def rt_X1_wrongPosition (x : Cx) (a b c : Nat → Nat) (u v w : St) (t : Int32) : Prop := RetI x cX1_wrongPosition .int 0 0 (wX a u b v c w (cxT x)) t
set_option maxRecDepth 20000 in
set_option maxHeartbeats 2000000 in
theorem b_X1_wrongPosition_L7 {x : Cx} (o : Ok x cX1_wrongPosition 6 RX1 1 0 0) {k n : Nat} (hk : k ≤ 0) (hn : n ≤ 0) (a b c : Nat → Nat) (u : St) (v : St) (w : St) (c1 : Int32) (r : (Int32 × Int32 × Int32) ⊕ (Int32)) (hX : ∀ s : Int32 × Int32 × Int32, r = .inl s → G x 6 k n (wX a u b v c w (cxT x)) [(1, .int c1), (2, .int s.1), (3, .int s.2.1)] 80 []) (hR : ∀ t, r = .inr t → rt_X1_wrongPosition x a b c u v w t) : ∀ (m : Nat) (s : Int32 × Int32 × Int32), loopN (f_X1_wrongPosition_s7 u v w c1) m s = some r → G x 6 k n (wX a u b v c w (cxT x)) [(0, .ref (a 0)), (1, .int c1), (2, .int s.1), (3, .int s.2.1), (4, .int s.2.2)] 7 [] := by
  refine loop_W _ (fun (s : Int32 × Int32 × Int32) => G x 6 k n (wX a u b v c w (cxT x)) [(0, .ref (a 0)), (1, .int c1), (2, .int s.1), (3, .int s.2.1), (4, .int s.2.2)] 7 []) r ?_
  intro s ww hf hw
  unfold f_X1_wrongPosition_s7 at hf
  obtain ⟨s_0, s_1, s_2⟩ := s
  try dsimp -simprocs only at hf ⊢
  refine g_iload o 4 rfl dX1_wrongPosition_7 ?_
  refine g_iload_n o 1 rfl rfl dX1_wrongPosition_9 ?_
  refine g_ic_ge (tgt := 80) o rfl dX1_wrongPosition_10 hf (fun hc hf => ?_) (fun hc hf => ?_)
  · exact g_perm [1, 2, 3] rfl (hX _ (lf_x hf hw))
  · refine g_aload_n o 0 rfl rfl dX1_wrongPosition_13 ?_
    refine X_get3 o m_115 dX1_wrongPosition_14 ?_
    refine g_iload o 4 rfl dX1_wrongPosition_17 ?_
    refine X_ld3 o dX1_wrongPosition_19 hf (fun hf => ?_)
    refine g_nmi hf (fun x5 hf => ?_)
    refine g_istore o [(5, .int x5), (0, .ref (a 0)), (1, .int c1), (2, .int s_0), (3, .int s_1), (4, .int s_2)] (Nat.le_of_ble_eq_true rfl) rfl dX1_wrongPosition_20 ?_
    refine g_iload o 0 rfl dX1_wrongPosition_22 ?_
    refine g_bipush o bp_44 dX1_wrongPosition_24 ?_
    refine g_ic_ne (tgt := 44) o rfl dX1_wrongPosition_26 hf (fun hc hf => ?_) (fun hc hf => ?_)
    · refine g_iload o 0 rfl dX1_wrongPosition_44 ?_
      obtain ⟨r6, hr6, hf⟩ := bd_some hf
      refine k_X1_isDigit_ o hr6 m_830 (Nat.le_of_ble_eq_true rfl) (Nat.le_of_ble_eq_true rfl) ⟨hk, hn⟩ dX1_wrongPosition_46 ?_
      refine g_if_eq (tgt := 71) o rfl dX1_wrongPosition_49 hf (fun hc hf => ?_) (fun hc hf => ?_)
      · refine g_iload o 5 rfl dX1_wrongPosition_71 ?_
        exact g_iret (hR _ (lf_x hf hw)) hk hn (vp_nar_int _) dX1_wrongPosition_73
      · refine g_iload_n o 4 rfl rfl dX1_wrongPosition_52 ?_
        refine g_iload_n o 3 rfl rfl dX1_wrongPosition_53 ?_
        refine g_if_ne (tgt := 61) o rfl dX1_wrongPosition_54 hf (fun hc hf => ?_) (fun hc hf => ?_)
        · refine g_iload_n o 3 rfl rfl dX1_wrongPosition_61 ?_
          refine g_ic_ge (tgt := 71) o rfl dX1_wrongPosition_62 hf (fun hc hf => ?_) (fun hc hf => ?_)
          · refine g_iload o 5 rfl dX1_wrongPosition_71 ?_
            exact g_iret (hR _ (lf_x hf hw)) hk hn (vp_nar_int _) dX1_wrongPosition_73
          · refine g_iinc o [(3, .int (s_1 + 1)), (5, .int x5), (0, .ref (a 0)), (1, .int c1), (2, .int s_0), (4, .int s_2)] 4 rfl (inc_1 _) (Nat.le_of_ble_eq_true rfl) rfl dX1_wrongPosition_65 ?_
            refine g_goto (tgt := 74) o rfl dX1_wrongPosition_68 ?_
            refine g_iinc o [(4, .int (s_2 + 1)), (3, .int (s_1 + 1)), (5, .int x5), (0, .ref (a 0)), (1, .int c1), (2, .int s_0)] 5 rfl (inc_1 _) (Nat.le_of_ble_eq_true rfl) rfl dX1_wrongPosition_74 ?_
            refine g_goto (tgt := 7) o rfl dX1_wrongPosition_77 ?_
            have hp := lf_c hf hw
            exact g_perm [3, 4, 5, 1, 0] rfl hp
        · refine g_iconst o ic_4 dX1_wrongPosition_57 ?_
          refine g_goto (tgt := 62) o rfl dX1_wrongPosition_58 ?_
          refine g_ic_ge (tgt := 71) o rfl dX1_wrongPosition_62 hf (fun hc hf => ?_) (fun hc hf => ?_)
          · refine g_iload o 5 rfl dX1_wrongPosition_71 ?_
            exact g_iret (hR _ (lf_x hf hw)) hk hn (vp_nar_int _) dX1_wrongPosition_73
          · refine g_iinc o [(3, .int (s_1 + 1)), (5, .int x5), (0, .ref (a 0)), (1, .int c1), (2, .int s_0), (4, .int s_2)] 4 rfl (inc_1 _) (Nat.le_of_ble_eq_true rfl) rfl dX1_wrongPosition_65 ?_
            refine g_goto (tgt := 74) o rfl dX1_wrongPosition_68 ?_
            refine g_iinc o [(4, .int (s_2 + 1)), (3, .int (s_1 + 1)), (5, .int x5), (0, .ref (a 0)), (1, .int c1), (2, .int s_0)] 5 rfl (inc_1 _) (Nat.le_of_ble_eq_true rfl) rfl dX1_wrongPosition_74 ?_
            refine g_goto (tgt := 7) o rfl dX1_wrongPosition_77 ?_
            have hp := lf_c hf hw
            exact g_perm [3, 4, 5, 1, 0] rfl hp
    · refine g_iload_n o 4 rfl rfl dX1_wrongPosition_29 ?_
      refine g_iload_n o 3 rfl rfl dX1_wrongPosition_30 ?_
      obtain ⟨r7, hr7, hf⟩ := bd_some hf
      refine k_X1_isWholeTuple_ o hr7 m_827 (Nat.le_of_ble_eq_true rfl) (Nat.le_of_ble_eq_true rfl) ⟨hk, hn⟩ dX1_wrongPosition_31 ?_
      refine g_if_eq (tgt := 44) o rfl dX1_wrongPosition_34 hf (fun hc hf => ?_) (fun hc hf => ?_)
      · refine g_iload o 0 rfl dX1_wrongPosition_44 ?_
        obtain ⟨r8, hr8, hf⟩ := bd_some hf
        refine k_X1_isDigit_ o hr8 m_830 (Nat.le_of_ble_eq_true rfl) (Nat.le_of_ble_eq_true rfl) ⟨hk, hn⟩ dX1_wrongPosition_46 ?_
        refine g_if_eq (tgt := 71) o rfl dX1_wrongPosition_49 hf (fun hc hf => ?_) (fun hc hf => ?_)
        · refine g_iload o 5 rfl dX1_wrongPosition_71 ?_
          exact g_iret (hR _ (lf_x hf hw)) hk hn (vp_nar_int _) dX1_wrongPosition_73
        · refine g_iload_n o 4 rfl rfl dX1_wrongPosition_52 ?_
          refine g_iload_n o 3 rfl rfl dX1_wrongPosition_53 ?_
          refine g_if_ne (tgt := 61) o rfl dX1_wrongPosition_54 hf (fun hc hf => ?_) (fun hc hf => ?_)
          · refine g_iload_n o 3 rfl rfl dX1_wrongPosition_61 ?_
            refine g_ic_ge (tgt := 71) o rfl dX1_wrongPosition_62 hf (fun hc hf => ?_) (fun hc hf => ?_)
            · refine g_iload o 5 rfl dX1_wrongPosition_71 ?_
              exact g_iret (hR _ (lf_x hf hw)) hk hn (vp_nar_int _) dX1_wrongPosition_73
            · refine g_iinc o [(3, .int (s_1 + 1)), (5, .int x5), (0, .ref (a 0)), (1, .int c1), (2, .int s_0), (4, .int s_2)] 4 rfl (inc_1 _) (Nat.le_of_ble_eq_true rfl) rfl dX1_wrongPosition_65 ?_
              refine g_goto (tgt := 74) o rfl dX1_wrongPosition_68 ?_
              refine g_iinc o [(4, .int (s_2 + 1)), (3, .int (s_1 + 1)), (5, .int x5), (0, .ref (a 0)), (1, .int c1), (2, .int s_0)] 5 rfl (inc_1 _) (Nat.le_of_ble_eq_true rfl) rfl dX1_wrongPosition_74 ?_
              refine g_goto (tgt := 7) o rfl dX1_wrongPosition_77 ?_
              have hp := lf_c hf hw
              exact g_perm [3, 4, 5, 1, 0] rfl hp
          · refine g_iconst o ic_4 dX1_wrongPosition_57 ?_
            refine g_goto (tgt := 62) o rfl dX1_wrongPosition_58 ?_
            refine g_ic_ge (tgt := 71) o rfl dX1_wrongPosition_62 hf (fun hc hf => ?_) (fun hc hf => ?_)
            · refine g_iload o 5 rfl dX1_wrongPosition_71 ?_
              exact g_iret (hR _ (lf_x hf hw)) hk hn (vp_nar_int _) dX1_wrongPosition_73
            · refine g_iinc o [(3, .int (s_1 + 1)), (5, .int x5), (0, .ref (a 0)), (1, .int c1), (2, .int s_0), (4, .int s_2)] 4 rfl (inc_1 _) (Nat.le_of_ble_eq_true rfl) rfl dX1_wrongPosition_65 ?_
              refine g_goto (tgt := 74) o rfl dX1_wrongPosition_68 ?_
              refine g_iinc o [(4, .int (s_2 + 1)), (3, .int (s_1 + 1)), (5, .int x5), (0, .ref (a 0)), (1, .int c1), (2, .int s_0)] 5 rfl (inc_1 _) (Nat.le_of_ble_eq_true rfl) rfl dX1_wrongPosition_74 ?_
              refine g_goto (tgt := 7) o rfl dX1_wrongPosition_77 ?_
              have hp := lf_c hf hw
              exact g_perm [3, 4, 5, 1, 0] rfl hp
      · refine g_iload_n o 4 rfl rfl dX1_wrongPosition_37 ?_
        refine g_istore_n o [(2, .int s_1), (5, .int x5), (0, .ref (a 0)), (1, .int c1), (3, .int s_1), (4, .int s_2)] (Nat.le_of_ble_eq_true rfl) rfl rfl dX1_wrongPosition_38 ?_
        refine g_iconst o ic_0 dX1_wrongPosition_39 ?_
        refine g_istore_n o [(3, .int 0), (2, .int s_1), (5, .int x5), (0, .ref (a 0)), (1, .int c1), (4, .int s_2)] (Nat.le_of_ble_eq_true rfl) rfl rfl dX1_wrongPosition_40 ?_
        refine g_goto (tgt := 74) o rfl dX1_wrongPosition_41 ?_
        refine g_iinc o [(4, .int (s_2 + 1)), (3, .int 0), (2, .int s_1), (5, .int x5), (0, .ref (a 0)), (1, .int c1)] 5 rfl (inc_1 _) (Nat.le_of_ble_eq_true rfl) rfl dX1_wrongPosition_74 ?_
        refine g_goto (tgt := 7) o rfl dX1_wrongPosition_77 ?_
        have hp := lf_c hf hw
        exact g_perm [4, 5, 2, 1, 0] rfl hp
set_option maxRecDepth 20000 in
set_option maxHeartbeats 2000000 in
theorem b_X1_wrongPosition {x : Cx} (o : Ok x cX1_wrongPosition 6 RX1 1 0 0) (a b c : Nat → Nat) (u v w : St) (p0 : Int32) (t : Int32) (hf : f_X1_wrongPosition u v w p0 = some t) (hret : rt_X1_wrongPosition x a b c u v w t) : G x 6 0 0 (wX a u b v c w (cxT x)) [(0, .ref (a 0)), (1, .int p0)] 0 [] := by
  unfold f_X1_wrongPosition at hf
  refine g_iconst o ic_0 dX1_wrongPosition_0 ?_
  refine g_istore_n o [(2, .int 0), (0, .ref (a 0)), (1, .int p0)] (Nat.le_of_ble_eq_true rfl) rfl rfl dX1_wrongPosition_1 ?_
  refine g_iconst o ic_0 dX1_wrongPosition_2 ?_
  refine g_istore_n o [(3, .int 0), (2, .int 0), (0, .ref (a 0)), (1, .int p0)] (Nat.le_of_ble_eq_true rfl) rfl rfl dX1_wrongPosition_3 ?_
  refine g_iconst o ic_0 dX1_wrongPosition_4 ?_
  refine g_istore o [(4, .int 0), (3, .int 0), (2, .int 0), (0, .ref (a 0)), (1, .int p0)] (Nat.le_of_ble_eq_true rfl) rfl dX1_wrongPosition_5 ?_
  obtain ⟨r13, hr13, hxr13, hrr13⟩ := bl_some hf
  refine g_perm [3, 4, 2, 1, 0] rfl (b_X1_wrongPosition_L7 o (Nat.le_of_ble_eq_true rfl) (Nat.le_of_ble_eq_true rfl) a b c u v w p0 r13 (fun s7 hs => ?_) (fun t12 ht => ?_) FU (0, 0, 0) hr13)
  · have hf := hxr13 s7 hs
    obtain ⟨s7_0, s7_1, s7_2⟩ := s7
    try dsimp -simprocs only at hf ⊢
    refine g_iload_n o 2 rfl rfl dX1_wrongPosition_80 ?_
    refine g_iload_n o 1 rfl rfl dX1_wrongPosition_81 ?_
    obtain ⟨r14, hr14, hf⟩ := bd_some hf
    refine k_X1_isWholeTuple_ o hr14 m_827 (Nat.le_of_ble_eq_true rfl) (Nat.le_of_ble_eq_true rfl) ⟨(Nat.le_of_ble_eq_true rfl), (Nat.le_of_ble_eq_true rfl)⟩ dX1_wrongPosition_82 ?_
    refine g_if_eq (tgt := 92) o rfl dX1_wrongPosition_85 hf (fun hc hf => ?_) (fun hc hf => ?_)
    · refine g_iload_n o 0 rfl rfl dX1_wrongPosition_92 ?_
      cases Option.some.inj hf
      exact g_iret hret (Nat.le_of_ble_eq_true rfl) (Nat.le_of_ble_eq_true rfl) (vp_nar_int _) dX1_wrongPosition_93
    · refine g_iconst o ic_m1 dX1_wrongPosition_88 ?_
      refine g_goto (tgt := 93) o rfl dX1_wrongPosition_89 ?_
      cases Option.some.inj hf
      exact g_iret hret (Nat.le_of_ble_eq_true rfl) (Nat.le_of_ble_eq_true rfl) (vp_nar_int _) dX1_wrongPosition_93
  · have hf := hrr13 t12 ht
    cases Option.some.inj hf
    exact hret
theorem c_X1_wrongPosition (l : Launch) (hst : l.stackTraces = false) (a b c : Nat → Nat) (u v w : St) (p0 : Int32) (t : Int32) (hf : f_X1_wrongPosition u v w p0 = some t) : CoI l yX1_wrongPosition (.code yX1_wrongPosition cX1_wrongPosition 6 (some .int)) 1 0 0 [.ref (a 0), .int p0] (wX a u b v c w) (wX a u b v c w) (.inl t) := mkI hst (by decide +kernel) (Nat.le_of_ble_eq_true rfl) (fun x _ o hI hX => b_X1_wrongPosition o a b c u v w p0 t hf (hI _ rfl))
theorem k_X1_wrongPosition_ {x : Cx} {cc : ByteArray} {nL : Nat} {own : String} {d mc ms k n : Nat} {lv : List (Nat × Value)} {pc i : Nat} {rest : List Value} {a b c : Nat → Nat} {u v w : St} {p0 : Int32} (o : Ok x cc nL own d mc ms) {t : Int32} (ht : f_X1_wrongPosition u v w p0 = some t) (hlk : Cond.methodLink own i yX1_wrongPosition ∈ Ug) (hd : 1 < d) (hr : (rest.map fun v => v.category).sum ≤ 8) (hk : k + 0 ≤ mc ∧ n + 0 ≤ ms) (dg : decode cc pc = .ok (.invokevirtual i, 3)) (kk : G x nL (k + 0) (n + 0) (wX a u b v c w (cxT x)) lv (pc + 3) (.int t :: rest)) : G x nL k n (wX a u b v c w (cxT x)) lv pc (.int p0 :: .ref (a 0) :: rest) := gcI (wd2 := (wX a u b v c w (cxT x))) o (c_X1_wrongPosition (cxl x) o.2.2.2.2.2.2.2.2.2.1 a b c u v w p0 t ht) (can_V (q0 := 0) o rfl rfl hd (Nat.le_of_ble_eq_true rfl) m_826 m_54 m_825 m_27 hlk yk_X1_wrongPosition rfl hr hk dg) sp_X (fun E h => by cases h) (fun r h => by cases h; exact kk)
def rt_X1_firstTupleLength (x : Cx) (a b c : Nat → Nat) (u v w : St) (t : Int32) : Prop := RetI x cX1_firstTupleLength .int 0 0 (wX a u b v c w (cxT x)) t
set_option maxRecDepth 20000 in
set_option maxHeartbeats 2000000 in
theorem b_X1_firstTupleLength_L2 {x : Cx} (o : Ok x cX1_firstTupleLength 3 RX1 0 0 0) {k n : Nat} (hk : k ≤ 0) (hn : n ≤ 0) (a b c : Nat → Nat) (u : St) (v : St) (w : St) (c1 : Int32) (r : (Int32) ⊕ (Int32)) (hX : ∀ s : Int32, r = .inl s → G x 3 k n (wX a u b v c w (cxT x)) [(2, .int s)] 29 []) (hR : ∀ t, r = .inr t → rt_X1_firstTupleLength x a b c u v w t) : ∀ (m : Nat) (s : Int32), loopN (f_X1_firstTupleLength_s2 u v w c1) m s = some r → G x 3 k n (wX a u b v c w (cxT x)) [(0, .ref (a 0)), (1, .int c1), (2, .int s)] 2 [] := by
  refine loop_W _ (fun (s : Int32) => G x 3 k n (wX a u b v c w (cxT x)) [(0, .ref (a 0)), (1, .int c1), (2, .int s)] 2 []) r ?_
  intro s ww hf hw
  unfold f_X1_firstTupleLength_s2 at hf
  refine g_iload_n o 2 rfl rfl dX1_firstTupleLength_2 ?_
  refine g_iload_n o 1 rfl rfl dX1_firstTupleLength_3 ?_
  refine g_ic_ge (tgt := 29) o rfl dX1_firstTupleLength_4 hf (fun hc hf => ?_) (fun hc hf => ?_)
  · exact g_perm [2] rfl (hX _ (lf_x hf hw))
  · refine g_iload_n o 2 rfl rfl dX1_firstTupleLength_7 ?_
    refine g_iconst o ic_4 dX1_firstTupleLength_8 ?_
    refine g_ic_ge (tgt := 29) o rfl dX1_firstTupleLength_9 hf (fun hc hf => ?_) (fun hc hf => ?_)
    · exact g_perm [2] rfl (hX _ (lf_x hf hw))
    · refine g_aload_n o 0 rfl rfl dX1_firstTupleLength_12 ?_
      refine X_get3 o m_115 dX1_firstTupleLength_13 ?_
      refine g_iload_n o 2 rfl rfl dX1_firstTupleLength_16 ?_
      refine X_ld3 o dX1_firstTupleLength_17 hf (fun hf => ?_)
      refine g_bipush o bp_44 dX1_firstTupleLength_18 ?_
      refine g_ic_eq (tgt := 29) o rfl dX1_firstTupleLength_20 hf (fun hc hf => ?_) (fun hc hf => ?_)
      · exact g_perm [2] rfl (hX _ (lf_x hf hw))
      · refine g_iinc o [(2, .int (s + 1)), (0, .ref (a 0)), (1, .int c1)] 2 rfl (inc_1 _) (Nat.le_of_ble_eq_true rfl) rfl dX1_firstTupleLength_23 ?_
        refine g_goto (tgt := 2) o rfl dX1_firstTupleLength_26 ?_
        have hp := lf_c hf hw
        exact g_perm [1, 2, 0] rfl hp
set_option maxRecDepth 20000 in
set_option maxHeartbeats 2000000 in
theorem b_X1_firstTupleLength {x : Cx} (o : Ok x cX1_firstTupleLength 3 RX1 0 0 0) (a b c : Nat → Nat) (u v w : St) (p0 : Int32) (t : Int32) (hf : f_X1_firstTupleLength u v w p0 = some t) (hret : rt_X1_firstTupleLength x a b c u v w t) : G x 3 0 0 (wX a u b v c w (cxT x)) [(0, .ref (a 0)), (1, .int p0)] 0 [] := by
  unfold f_X1_firstTupleLength at hf
  refine g_iconst o ic_0 dX1_firstTupleLength_0 ?_
  refine g_istore_n o [(2, .int 0), (0, .ref (a 0)), (1, .int p0)] (Nat.le_of_ble_eq_true rfl) rfl rfl dX1_firstTupleLength_1 ?_
  obtain ⟨r4, hr4, hxr4, hrr4⟩ := bl_some hf
  refine g_perm [1, 2, 0] rfl (b_X1_firstTupleLength_L2 o (Nat.le_of_ble_eq_true rfl) (Nat.le_of_ble_eq_true rfl) a b c u v w p0 r4 (fun s2 hs => ?_) (fun t3 ht => ?_) FU 0 hr4)
  · have hf := hxr4 s2 hs
    refine g_iload_n o 0 rfl rfl dX1_firstTupleLength_29 ?_
    cases Option.some.inj hf
    exact g_iret hret (Nat.le_of_ble_eq_true rfl) (Nat.le_of_ble_eq_true rfl) (vp_nar_int _) dX1_firstTupleLength_30
  · have hf := hrr4 t3 ht
    cases Option.some.inj hf
    exact hret
theorem c_X1_firstTupleLength (l : Launch) (hst : l.stackTraces = false) (a b c : Nat → Nat) (u v w : St) (p0 : Int32) (t : Int32) (hf : f_X1_firstTupleLength u v w p0 = some t) : CoI l yX1_firstTupleLength (.code yX1_firstTupleLength cX1_firstTupleLength 3 (some .int)) 0 0 0 [.ref (a 0), .int p0] (wX a u b v c w) (wX a u b v c w) (.inl t) := mkI hst (by decide +kernel) (Nat.le_of_ble_eq_true rfl) (fun x _ o hI hX => b_X1_firstTupleLength o a b c u v w p0 t hf (hI _ rfl))
theorem k_X1_firstTupleLength_ {x : Cx} {cc : ByteArray} {nL : Nat} {own : String} {d mc ms k n : Nat} {lv : List (Nat × Value)} {pc i : Nat} {rest : List Value} {a b c : Nat → Nat} {u v w : St} {p0 : Int32} (o : Ok x cc nL own d mc ms) {t : Int32} (ht : f_X1_firstTupleLength u v w p0 = some t) (hlk : Cond.methodLink own i yX1_firstTupleLength ∈ Ug) (hd : 0 < d) (hr : (rest.map fun v => v.category).sum ≤ 8) (hk : k + 0 ≤ mc ∧ n + 0 ≤ ms) (dg : decode cc pc = .ok (.invokevirtual i, 3)) (kk : G x nL (k + 0) (n + 0) (wX a u b v c w (cxT x)) lv (pc + 3) (.int t :: rest)) : G x nL k n (wX a u b v c w (cxT x)) lv pc (.int p0 :: .ref (a 0) :: rest) := gcI (wd2 := (wX a u b v c w (cxT x))) o (c_X1_firstTupleLength (cxl x) o.2.2.2.2.2.2.2.2.2.1 a b c u v w p0 t ht) (can_V (q0 := 0) o rfl rfl hd (Nat.le_of_ble_eq_true rfl) m_837 m_54 m_836 m_28 hlk yk_X1_firstTupleLength rfl hr hk dg) sp_X (fun E h => by cases h) (fun r h => by cases h; exact kk)
def rt_X1_readTuples (x : Cx) (a b c : Nat → Nat) (u v w : St) (t : Int32) : Prop := RetI x cX1_readTuples .int 0 0 (wX a u b v c w (cxT x)) t
set_option maxRecDepth 20000 in
set_option maxHeartbeats 2000000 in
theorem b_X1_readTuples_L19 {x : Cx} (o : Ok x cX1_readTuples 7 RX1 0 0 0) {k n : Nat} (hk : k ≤ 0) (hn : n ≤ 0) (a b c : Nat → Nat) (u : St) (v : St) (w : St) (c1 : Int32) (c2 : Int32) (c3 : Int32) (c4 : Int32) (r : (Int32 × Int32) ⊕ (Int32)) (hX : ∀ s : Int32 × Int32, r = .inl s → G x 7 k n (wX a u b v c w (cxT x)) [(0, .ref (a 0)), (1, .int c1), (2, .int c2), (3, .int c3), (4, .int c4), (5, .int s.1)] 55 []) (hR : ∀ t, r = .inr t → rt_X1_readTuples x a b c u v w t) : ∀ (m : Nat) (s : Int32 × Int32), loopN (f_X1_readTuples_s19 u v w c1 c2 c3 c4) m s = some r → G x 7 k n (wX a u b v c w (cxT x)) [(0, .ref (a 0)), (1, .int c1), (2, .int c2), (3, .int c3), (4, .int c4), (5, .int s.1), (6, .int s.2)] 19 [] := by
  refine loop_W _ (fun (s : Int32 × Int32) => G x 7 k n (wX a u b v c w (cxT x)) [(0, .ref (a 0)), (1, .int c1), (2, .int c2), (3, .int c3), (4, .int c4), (5, .int s.1), (6, .int s.2)] 19 []) r ?_
  intro s ww hf hw
  unfold f_X1_readTuples_s19 at hf
  obtain ⟨s_0, s_1⟩ := s
  try dsimp -simprocs only at hf ⊢
  refine g_iload o 6 rfl dX1_readTuples_19 ?_
  refine g_iload_n o 1 rfl rfl dX1_readTuples_21 ?_
  refine g_ic_ge (tgt := 55) o rfl dX1_readTuples_22 hf (fun hc hf => ?_) (fun hc hf => ?_)
  · exact g_perm [0, 1, 2, 3, 4, 5] rfl (hX _ (lf_x hf hw))
  · refine g_aload_n o 0 rfl rfl dX1_readTuples_25 ?_
    refine X_get3 o m_115 dX1_readTuples_26 ?_
    refine g_iload o 4 rfl dX1_readTuples_29 ?_
    refine g_iload o 6 rfl dX1_readTuples_31 ?_
    refine g_iadd o dX1_readTuples_33 ?_
    refine X_ld3 o dX1_readTuples_34 hf (fun hf => ?_)
    refine g_bipush o bp_49 dX1_readTuples_35 ?_
    refine g_ic_ne (tgt := 49) o rfl dX1_readTuples_37 hf (fun hc hf => ?_) (fun hc hf => ?_)
    · refine g_iinc o [(6, .int (s_1 + 1)), (0, .ref (a 0)), (1, .int c1), (2, .int c2), (3, .int c3), (4, .int c4), (5, .int s_0)] 6 rfl (inc_1 _) (Nat.le_of_ble_eq_true rfl) rfl dX1_readTuples_49 ?_
      refine g_goto (tgt := 19) o rfl dX1_readTuples_52 ?_
      have hp := lf_c hf hw
      exact g_perm [1, 2, 3, 4, 5, 6, 0] rfl hp
    · refine g_iload o 5 rfl dX1_readTuples_40 ?_
      refine g_iconst o ic_1 dX1_readTuples_42 ?_
      refine g_iload o 6 rfl dX1_readTuples_43 ?_
      refine g_ishl o dX1_readTuples_45 ?_
      refine g_ior o dX1_readTuples_46 ?_
      refine g_nmi hf (fun x2 hf => ?_)
      refine g_istore o [(5, .int x2), (0, .ref (a 0)), (1, .int c1), (2, .int c2), (3, .int c3), (4, .int c4), (6, .int s_1)] (Nat.le_of_ble_eq_true rfl) rfl dX1_readTuples_47 ?_
      refine g_iinc o [(6, .int (s_1 + 1)), (5, .int x2), (0, .ref (a 0)), (1, .int c1), (2, .int c2), (3, .int c3), (4, .int c4)] 6 rfl (inc_1 _) (Nat.le_of_ble_eq_true rfl) rfl dX1_readTuples_49 ?_
      refine g_goto (tgt := 19) o rfl dX1_readTuples_52 ?_
      have hp := lf_c hf hw
      exact g_perm [2, 3, 4, 5, 6, 1, 0] rfl hp
set_option maxRecDepth 20000 in
set_option maxHeartbeats 2000000 in
theorem b_X1_readTuples_L5 {x : Cx} (o : Ok x cX1_readTuples 7 RX1 0 0 0) {k n : Nat} (hk : k ≤ 0) (hn : n ≤ 0) (a b c : Nat → Nat) (u : St) (v : St) (w : St) (c1 : Int32) (c2 : Int32) (r : (Int32 × Int32) ⊕ (Int32)) (hX : ∀ s : Int32 × Int32, r = .inl s → G x 7 k n (wX a u b v c w (cxT x)) [(3, .int s.1)] 73 []) (hR : ∀ t, r = .inr t → rt_X1_readTuples x a b c u v w t) : ∀ (m : Nat) (s : Int32 × Int32), loopN (f_X1_readTuples_s5 u v w c1 c2) m s = some r → G x 7 k n (wX a u b v c w (cxT x)) [(0, .ref (a 0)), (1, .int c1), (2, .int c2), (3, .int s.1), (4, .int s.2)] 5 [] := by
  refine loop_W _ (fun (s : Int32 × Int32) => G x 7 k n (wX a u b v c w (cxT x)) [(0, .ref (a 0)), (1, .int c1), (2, .int c2), (3, .int s.1), (4, .int s.2)] 5 []) r ?_
  intro s ww hf hw
  unfold f_X1_readTuples_s5 at hf
  obtain ⟨s_0, s_1⟩ := s
  try dsimp -simprocs only at hf ⊢
  refine g_iload o 4 rfl dX1_readTuples_5 ?_
  refine g_iload_n o 1 rfl rfl dX1_readTuples_7 ?_
  refine g_iadd o dX1_readTuples_8 ?_
  refine g_iload_n o 2 rfl rfl dX1_readTuples_9 ?_
  refine g_ic_gt (tgt := 73) o rfl dX1_readTuples_10 hf (fun hc hf => ?_) (fun hc hf => ?_)
  · exact g_perm [3] rfl (hX _ (lf_x hf hw))
  · refine g_iconst o ic_0 dX1_readTuples_13 ?_
    refine g_istore o [(5, .int 0), (0, .ref (a 0)), (1, .int c1), (2, .int c2), (3, .int s_0), (4, .int s_1)] (Nat.le_of_ble_eq_true rfl) rfl dX1_readTuples_14 ?_
    refine g_iconst o ic_0 dX1_readTuples_16 ?_
    refine g_istore o [(6, .int 0), (5, .int 0), (0, .ref (a 0)), (1, .int c1), (2, .int c2), (3, .int s_0), (4, .int s_1)] (Nat.le_of_ble_eq_true rfl) rfl dX1_readTuples_17 ?_
    obtain ⟨r10, hr10, hxr10, hrr10⟩ := bl_some hf
    refine g_perm [2, 3, 4, 5, 6, 1, 0] rfl (b_X1_readTuples_L19 o hk hn a b c u v w c1 c2 s_0 s_1 r10 (fun s19_8 hs => ?_) (fun t9 ht => ?_) FU (0, 0) hr10)
    · have hf := hxr10 s19_8 hs
      obtain ⟨s19_8_0, s19_8_1⟩ := s19_8
      try dsimp -simprocs only at hf ⊢
      refine g_iload_n o 3 rfl rfl dX1_readTuples_55 ?_
      refine g_iconst o ic_1 dX1_readTuples_56 ?_
      refine g_iload o 5 rfl dX1_readTuples_57 ?_
      refine g_ishl o dX1_readTuples_59 ?_
      refine g_ior o dX1_readTuples_60 ?_
      refine g_nmi hf (fun x11 hf => ?_)
      refine g_istore_n o [(3, .int x11), (0, .ref (a 0)), (1, .int c1), (2, .int c2), (4, .int s_1), (5, .int s19_8_0)] (Nat.le_of_ble_eq_true rfl) rfl rfl dX1_readTuples_61 ?_
      refine g_iload o 4 rfl dX1_readTuples_62 ?_
      refine g_iload_n o 2 rfl rfl dX1_readTuples_64 ?_
      refine g_iconst o ic_1 dX1_readTuples_65 ?_
      refine g_iadd o dX1_readTuples_66 ?_
      refine g_iadd o dX1_readTuples_67 ?_
      refine g_nmi hf (fun x12 hf => ?_)
      refine g_istore o [(4, .int x12), (3, .int x11), (0, .ref (a 0)), (1, .int c1), (2, .int c2), (5, .int s19_8_0)] (Nat.le_of_ble_eq_true rfl) rfl dX1_readTuples_68 ?_
      refine g_goto (tgt := 5) o rfl dX1_readTuples_70 ?_
      have hp := lf_c hf hw
      exact g_perm [2, 3, 4, 1, 0] rfl hp
    · have hf := hrr10 t9 ht
      exact hR t9 (lf_x hf hw)
set_option maxRecDepth 20000 in
set_option maxHeartbeats 2000000 in
theorem b_X1_readTuples {x : Cx} (o : Ok x cX1_readTuples 7 RX1 0 0 0) (a b c : Nat → Nat) (u v w : St) (p0 : Int32) (p1 : Int32) (t : Int32) (hf : f_X1_readTuples u v w p0 p1 = some t) (hret : rt_X1_readTuples x a b c u v w t) : G x 7 0 0 (wX a u b v c w (cxT x)) [(0, .ref (a 0)), (1, .int p0), (2, .int p1)] 0 [] := by
  unfold f_X1_readTuples at hf
  refine g_iconst o ic_0 dX1_readTuples_0 ?_
  refine g_istore_n o [(3, .int 0), (0, .ref (a 0)), (1, .int p0), (2, .int p1)] (Nat.le_of_ble_eq_true rfl) rfl rfl dX1_readTuples_1 ?_
  refine g_iconst o ic_0 dX1_readTuples_2 ?_
  refine g_istore o [(4, .int 0), (3, .int 0), (0, .ref (a 0)), (1, .int p0), (2, .int p1)] (Nat.le_of_ble_eq_true rfl) rfl dX1_readTuples_3 ?_
  obtain ⟨r16, hr16, hxr16, hrr16⟩ := bl_some hf
  refine g_perm [2, 3, 4, 1, 0] rfl (b_X1_readTuples_L5 o (Nat.le_of_ble_eq_true rfl) (Nat.le_of_ble_eq_true rfl) a b c u v w p0 p1 r16 (fun s5 hs => ?_) (fun t15 ht => ?_) FU (0, 0) hr16)
  · have hf := hxr16 s5 hs
    obtain ⟨s5_0, s5_1⟩ := s5
    try dsimp -simprocs only at hf ⊢
    refine g_iload_n o 0 rfl rfl dX1_readTuples_73 ?_
    cases Option.some.inj hf
    exact g_iret hret (Nat.le_of_ble_eq_true rfl) (Nat.le_of_ble_eq_true rfl) (vp_nar_int _) dX1_readTuples_74
  · have hf := hrr16 t15 ht
    cases Option.some.inj hf
    exact hret
theorem c_X1_readTuples (l : Launch) (hst : l.stackTraces = false) (a b c : Nat → Nat) (u v w : St) (p0 : Int32) (p1 : Int32) (t : Int32) (hf : f_X1_readTuples u v w p0 p1 = some t) : CoI l yX1_readTuples (.code yX1_readTuples cX1_readTuples 7 (some .int)) 0 0 0 [.ref (a 0), .int p0, .int p1] (wX a u b v c w) (wX a u b v c w) (.inl t) := mkI hst (by decide +kernel) (Nat.le_of_ble_eq_true rfl) (fun x _ o hI hX => b_X1_readTuples o a b c u v w p0 p1 t hf (hI _ rfl))
theorem k_X1_readTuples_ {x : Cx} {cc : ByteArray} {nL : Nat} {own : String} {d mc ms k n : Nat} {lv : List (Nat × Value)} {pc i : Nat} {rest : List Value} {a b c : Nat → Nat} {u v w : St} {p0 : Int32} {p1 : Int32} (o : Ok x cc nL own d mc ms) {t : Int32} (ht : f_X1_readTuples u v w p0 p1 = some t) (hlk : Cond.methodLink own i yX1_readTuples ∈ Ug) (hd : 0 < d) (hr : (rest.map fun v => v.category).sum ≤ 8) (hk : k + 0 ≤ mc ∧ n + 0 ≤ ms) (dg : decode cc pc = .ok (.invokevirtual i, 3)) (kk : G x nL (k + 0) (n + 0) (wX a u b v c w (cxT x)) lv (pc + 3) (.int t :: rest)) : G x nL k n (wX a u b v c w (cxT x)) lv pc (.int p1 :: .int p0 :: .ref (a 0) :: rest) := gcI (wd2 := (wX a u b v c w (cxT x))) o (c_X1_readTuples (cxl x) o.2.2.2.2.2.2.2.2.2.1 a b c u v w p0 p1 t ht) (can_V (q0 := 0) o rfl rfl hd (Nat.le_of_ble_eq_true rfl) m_841 m_54 m_840 m_29 hlk yk_X1_readTuples rfl hr hk dg) sp_X (fun E h => by cases h) (fun r h => by cases h; exact kk)
def rt_X1_parse (x : Cx) (a b c : Nat → Nat) (w : St) (t : (Int32 ⊕ String) × St × St) : Prop := (∀ r, t.1 = .inl r → RetI x cX1_parse .int 2 12 (wX a t.2.1 b t.2.2 c w (cxT x)) r) ∧ ∀ E, t.1 = .inr E → RetX x 2 12 (wX a t.2.1 b t.2.2 c w (cxT x)) E
set_option maxRecDepth 20000 in
set_option maxHeartbeats 2000000 in
theorem b_X1_parse {x : Cx} (o : Ok x cX1_parse 4 RX1 2 2 12) (a b c : Nat → Nat) (u v w : St) (t : (Int32 ⊕ String) × St × St) (hf : f_X1_parse u v w = some t) (hret : rt_X1_parse x a b c w t) : G x 4 0 0 (wX a u b v c w (cxT x)) [(0, .ref (a 0))] 0 [] := by
  unfold f_X1_parse at hf
  refine g_aload_n o 0 rfl rfl dX1_parse_0 ?_
  refine X_get4 o m_116 dX1_parse_1 ?_
  refine g_nmi hf (fun x8 hf => ?_)
  refine g_istore_n o [(1, .int x8), (0, .ref (a 0))] (Nat.le_of_ble_eq_true rfl) rfl rfl dX1_parse_4 ?_
  refine g_aload_n o 1 rfl rfl dX1_parse_5 ?_
  refine g_iconst o ic_0 dX1_parse_6 ?_
  refine X_put4 o m_116 dX1_parse_7 ?_
  refine g_aload_n o 1 rfl rfl dX1_parse_10 ?_
  refine g_iload_n o 0 rfl rfl dX1_parse_11 ?_
  obtain ⟨r9, hr9, hf⟩ := bd_some hf
  refine k_X1_wrongPosition_ o hr9 m_823 (Nat.le_of_ble_eq_true rfl) (Nat.le_of_ble_eq_true rfl) ⟨(Nat.le_of_ble_eq_true rfl), (Nat.le_of_ble_eq_true rfl)⟩ dX1_parse_12 ?_
  refine g_istore_n o [(2, .int r9), (1, .int x8), (0, .ref (a 0))] (Nat.le_of_ble_eq_true rfl) rfl rfl dX1_parse_15 ?_
  refine g_iload_n o 0 rfl rfl dX1_parse_16 ?_
  refine g_iconst o ic_m1 dX1_parse_17 ?_
  refine g_ic_eq (tgt := 36) o rfl dX1_parse_18 hf (fun hc hf => ?_) (fun hc hf => ?_)
  · refine g_aload_n o 2 rfl rfl dX1_parse_36 ?_
    refine g_iload_n o 1 rfl rfl dX1_parse_37 ?_
    obtain ⟨r10, hr10, hf⟩ := bd_some hf
    refine k_X1_firstTupleLength_ o hr10 m_834 (Nat.le_of_ble_eq_true rfl) (Nat.le_of_ble_eq_true rfl) ⟨(Nat.le_of_ble_eq_true rfl), (Nat.le_of_ble_eq_true rfl)⟩ dX1_parse_38 ?_
    refine g_istore_n o [(3, .int r10), (2, .int r9), (1, .int x8), (0, .ref (a 0))] (Nat.le_of_ble_eq_true rfl) rfl rfl dX1_parse_41 ?_
    refine g_aload_n o 3 rfl rfl dX1_parse_42 ?_
    refine g_iload_n o 0 rfl rfl dX1_parse_43 ?_
    refine g_aload_n o 3 rfl rfl dX1_parse_44 ?_
    refine g_iload_n o 0 rfl rfl dX1_parse_45 ?_
    refine g_iload_n o 2 rfl rfl dX1_parse_46 ?_
    obtain ⟨r11, hr11, hf⟩ := bd_some hf
    refine k_X1_readTuples_ o hr11 m_838 (Nat.le_of_ble_eq_true rfl) (Nat.le_of_ble_eq_true rfl) ⟨(Nat.le_of_ble_eq_true rfl), (Nat.le_of_ble_eq_true rfl)⟩ dX1_parse_47 ?_
    rcases bx_some hf with ⟨r12, z14, hr12, hf⟩ | ⟨E13, z14, hr12, hf⟩
    · refine k_X1_addNew_n o hr12 m_311 (Nat.le_of_ble_eq_true rfl) (Nat.le_of_ble_eq_true rfl) ⟨(Nat.le_of_ble_eq_true rfl), (Nat.le_of_ble_eq_true rfl)⟩ dX1_parse_50 ?_
      cases Option.some.inj hf
      exact g_iret (hret.1 _ rfl) (Nat.le_of_ble_eq_true rfl) (Nat.le_of_ble_eq_true rfl) (vp_nar_int _) dX1_parse_53
    · cases Option.some.inj hf
      exact k_X1_addNew_x o hr12 m_311 (Nat.le_of_ble_eq_true rfl) (Nat.le_of_ble_eq_true rfl) ⟨(Nat.le_of_ble_eq_true rfl), (Nat.le_of_ble_eq_true rfl)⟩ dX1_parse_50 (xw_out o (hret.2 _ rfl) (Nat.le_of_ble_eq_true rfl) (Nat.le_of_ble_eq_true rfl))
  · refine g_aload_n o 2 rfl rfl dX1_parse_21 ?_
    refine g_iload_n o 0 rfl rfl dX1_parse_22 ?_
    refine X_put5 o m_117 dX1_parse_23 ?_
    cases Option.some.inj hf
    exact g_throwS o (hret.2 _ rfl) fit_ia fit_re rfl m_241 m_60 st_254 at_63 go_63 dX1_parse_26 dX1_parse_29 dX1_parse_30 dX1_parse_32 dX1_parse_35 (Nat.le_of_ble_eq_true rfl) (Nat.le_of_ble_eq_true rfl)
theorem c_X1_parse (l : Launch) (hst : l.stackTraces = false) (a b c : Nat → Nat) (u v w : St) (t : (Int32 ⊕ String) × St × St) (hf : f_X1_parse u v w = some t) : CoI l yX1_parse (.code yX1_parse cX1_parse 4 (some .int)) 2 2 12 [.ref (a 0)] (wX a u b v c w) (wX a t.2.1 b t.2.2 c w) (t.1) := mkI hst (by decide +kernel) (Nat.le_of_ble_eq_true rfl) (fun x _ o hI hX => b_X1_parse o a b c u v w t hf ⟨hI, hX⟩)
def rt_X1_writeCharacter (x : Cx) (a b c : Nat → Nat) (v w : St) (t : St) : Prop := RetV x cX1_writeCharacter 0 0 (wX a t b v c w (cxT x))
set_option maxRecDepth 20000 in
set_option maxHeartbeats 2000000 in
theorem b_X1_writeCharacter {x : Cx} (o : Ok x cX1_writeCharacter 2 RX1 0 0 0) (a b c : Nat → Nat) (u v w : St) (p0 : Int32) (t : St) (hf : f_X1_writeCharacter u v w p0 = some t) (hret : rt_X1_writeCharacter x a b c v w t) : G x 2 0 0 (wX a u b v c w (cxT x)) [(0, .ref (a 0)), (1, .int p0)] 0 [] := by
  unfold f_X1_writeCharacter at hf
  refine g_aload_n o 0 rfl rfl dX1_writeCharacter_0 ?_
  refine X_get7 o m_119 dX1_writeCharacter_1 ?_
  refine g_bipush o bp_79 dX1_writeCharacter_4 ?_
  refine g_ic_ge (tgt := 29) o rfl dX1_writeCharacter_6 hf (fun hc hf => ?_) (fun hc hf => ?_)
  · cases Option.some.inj hf
    exact g_vret hret (Nat.le_of_ble_eq_true rfl) (Nat.le_of_ble_eq_true rfl) dX1_writeCharacter_29
  · refine g_aload_n o 0 rfl rfl dX1_writeCharacter_9 ?_
    refine X_get6 o m_118 dX1_writeCharacter_10 ?_
    refine g_aload_n o 0 rfl rfl dX1_writeCharacter_13 ?_
    refine X_get7 o m_119 dX1_writeCharacter_14 ?_
    refine g_iload_n o 1 rfl rfl dX1_writeCharacter_17 ?_
    refine X_st6 o dX1_writeCharacter_18 hf (fun hf => ?_)
    refine g_aload_n o 0 rfl rfl dX1_writeCharacter_19 ?_
    refine g_dup o rfl dX1_writeCharacter_20 ?_
    refine X_get7 o m_119 dX1_writeCharacter_21 ?_
    refine g_iconst o ic_1 dX1_writeCharacter_24 ?_
    refine g_iadd o dX1_writeCharacter_25 ?_
    refine X_put7 o m_119 dX1_writeCharacter_26 ?_
    cases Option.some.inj hf
    exact g_vret hret (Nat.le_of_ble_eq_true rfl) (Nat.le_of_ble_eq_true rfl) dX1_writeCharacter_29
theorem c_X1_writeCharacter (l : Launch) (hst : l.stackTraces = false) (a b c : Nat → Nat) (u v w : St) (p0 : Int32) (t : St) (hf : f_X1_writeCharacter u v w p0 = some t) : CoV l yX1_writeCharacter (.code yX1_writeCharacter cX1_writeCharacter 2 none) 0 0 0 [.ref (a 0), .int p0] (wX a u b v c w) (wX a t b v c w) (.inl ()) := mkV hst (by decide +kernel) (Nat.le_of_ble_eq_true rfl) (fun x _ o hI hX => b_X1_writeCharacter o a b c u v w p0 t hf (hI rfl))
theorem k_X1_writeCharacter_ {x : Cx} {cc : ByteArray} {nL : Nat} {own : String} {d mc ms k n : Nat} {lv : List (Nat × Value)} {pc i : Nat} {rest : List Value} {a b c : Nat → Nat} {u v w : St} {p0 : Int32} (o : Ok x cc nL own d mc ms) {t : St} (ht : f_X1_writeCharacter u v w p0 = some t) (hlk : Cond.methodLink own i yX1_writeCharacter ∈ Ug) (hd : 0 < d) (hr : (rest.map fun v => v.category).sum ≤ 8) (hk : k + 0 ≤ mc ∧ n + 0 ≤ ms) (dg : decode cc pc = .ok (.invokevirtual i, 3)) (kk : G x nL (k + 0) (n + 0) (wX a t b v c w (cxT x)) lv (pc + 3) rest) : G x nL k n (wX a u b v c w (cxT x)) lv pc (.int p0 :: .ref (a 0) :: rest) := gcV (wd2 := (wX a t b v c w (cxT x))) o (c_X1_writeCharacter (cxl x) o.2.2.2.2.2.2.2.2.2.1 a b c u v w p0 t ht) (can_V (q0 := 0) o rfl rfl hd (Nat.le_of_ble_eq_true rfl) m_864 m_54 m_863 m_31 hlk yk_X1_writeCharacter rfl hr hk dg) sp_X (fun E h => by cases h) (fun h => kk)
def rt_X1_writeTuple (x : Cx) (a b c : Nat → Nat) (v w : St) (t : St) : Prop := RetV x cX1_writeTuple 0 0 (wX a t b v c w (cxT x))
set_option maxRecDepth 20000 in
set_option maxHeartbeats 2000000 in
theorem b_X1_writeTuple_L15 {x : Cx} (o : Ok x cX1_writeTuple 4 RX1 1 0 0) {k n : Nat} (hk : k ≤ 0) (hn : n ≤ 0) (a b c : Nat → Nat) (v : St) (w : St) (c1 : Int32) (c2 : Int32) (r : (Int32 × St) ⊕ (St)) (hX : ∀ s : Int32 × St, r = .inl s → G x 4 k n (wX a s.2 b v c w (cxT x)) [] 45 []) (hR : ∀ t, r = .inr t → rt_X1_writeTuple x a b c v w t) : ∀ (m : Nat) (s : Int32 × St), loopN (f_X1_writeTuple_s15 v w c1 c2) m s = some r → G x 4 k n (wX a s.2 b v c w (cxT x)) [(0, .ref (a 0)), (1, .int c1), (2, .int c2), (3, .int s.1)] 15 [] := by
  refine loop_W _ (fun (s : Int32 × St) => G x 4 k n (wX a s.2 b v c w (cxT x)) [(0, .ref (a 0)), (1, .int c1), (2, .int c2), (3, .int s.1)] 15 []) r ?_
  intro s ww hf hw
  unfold f_X1_writeTuple_s15 at hf
  obtain ⟨s_0, s_1⟩ := s
  try dsimp -simprocs only at hf ⊢
  refine g_iload_n o 3 rfl rfl dX1_writeTuple_15 ?_
  refine g_iload_n o 1 rfl rfl dX1_writeTuple_16 ?_
  refine g_ic_ge (tgt := 45) o rfl dX1_writeTuple_17 hf (fun hc hf => ?_) (fun hc hf => ?_)
  · exact g_perm [] rfl (hX _ (lf_x hf hw))
  · refine g_aload_n o 0 rfl rfl dX1_writeTuple_20 ?_
    refine g_iload_n o 2 rfl rfl dX1_writeTuple_21 ?_
    refine g_iload_n o 3 rfl rfl dX1_writeTuple_22 ?_
    obtain ⟨r4, hr4, hf⟩ := bd_some hf
    refine k_X1_has_ o hr4 m_394 (Nat.le_of_ble_eq_true rfl) (Nat.le_of_ble_eq_true rfl) ⟨hk, hn⟩ dX1_writeTuple_23 ?_
    refine g_if_eq (tgt := 34) o rfl dX1_writeTuple_26 hf (fun hc hf => ?_) (fun hc hf => ?_)
    · refine g_bipush o bp_48 dX1_writeTuple_34 ?_
      obtain ⟨r5, hr5, hf⟩ := bd_some hf
      refine k_X1_writeCharacter_ o hr5 m_861 (Nat.le_of_ble_eq_true rfl) (Nat.le_of_ble_eq_true rfl) ⟨hk, hn⟩ dX1_writeTuple_36 ?_
      refine g_iinc o [(3, .int (s_0 + 1)), (0, .ref (a 0)), (1, .int c1), (2, .int c2)] 3 rfl (inc_1 _) (Nat.le_of_ble_eq_true rfl) rfl dX1_writeTuple_39 ?_
      refine g_goto (tgt := 15) o rfl dX1_writeTuple_42 ?_
      have hp := lf_c hf hw
      exact g_perm [1, 2, 3, 0] rfl hp
    · refine g_bipush o bp_49 dX1_writeTuple_29 ?_
      refine g_goto (tgt := 36) o rfl dX1_writeTuple_31 ?_
      obtain ⟨r6, hr6, hf⟩ := bd_some hf
      refine k_X1_writeCharacter_ o hr6 m_861 (Nat.le_of_ble_eq_true rfl) (Nat.le_of_ble_eq_true rfl) ⟨hk, hn⟩ dX1_writeTuple_36 ?_
      refine g_iinc o [(3, .int (s_0 + 1)), (0, .ref (a 0)), (1, .int c1), (2, .int c2)] 3 rfl (inc_1 _) (Nat.le_of_ble_eq_true rfl) rfl dX1_writeTuple_39 ?_
      refine g_goto (tgt := 15) o rfl dX1_writeTuple_42 ?_
      have hp := lf_c hf hw
      exact g_perm [1, 2, 3, 0] rfl hp
set_option maxRecDepth 20000 in
set_option maxHeartbeats 2000000 in
theorem b_X1_writeTuple {x : Cx} (o : Ok x cX1_writeTuple 4 RX1 1 0 0) (a b c : Nat → Nat) (u v w : St) (p0 : Int32) (p1 : Int32) (t : St) (hf : f_X1_writeTuple u v w p0 p1 = some t) (hret : rt_X1_writeTuple x a b c v w t) : G x 4 0 0 (wX a u b v c w (cxT x)) [(0, .ref (a 0)), (1, .int p0), (2, .int p1)] 0 [] := by
  unfold f_X1_writeTuple at hf
  refine g_aload_n o 0 rfl rfl dX1_writeTuple_0 ?_
  refine X_get7 o m_119 dX1_writeTuple_1 ?_
  refine g_if_le (tgt := 13) o rfl dX1_writeTuple_4 hf (fun hc hf => ?_) (fun hc hf => ?_)
  · refine g_iconst o ic_0 dX1_writeTuple_13 ?_
    refine g_istore_n o [(3, .int 0), (0, .ref (a 0)), (1, .int p0), (2, .int p1)] (Nat.le_of_ble_eq_true rfl) rfl rfl dX1_writeTuple_14 ?_
    obtain ⟨r13, hr13, hxr13, hrr13⟩ := bl_some hf
    refine g_perm [1, 2, 3, 0] rfl (b_X1_writeTuple_L15 o (Nat.le_of_ble_eq_true rfl) (Nat.le_of_ble_eq_true rfl) a b c v w p0 p1 r13 (fun s15 hs => ?_) (fun t12 ht => ?_) FU (0, u) hr13)
    · have hf := hxr13 s15 hs
      obtain ⟨s15_0, s15_1⟩ := s15
      try dsimp -simprocs only at hf ⊢
      cases Option.some.inj hf
      exact g_vret hret (Nat.le_of_ble_eq_true rfl) (Nat.le_of_ble_eq_true rfl) dX1_writeTuple_45
    · have hf := hrr13 t12 ht
      cases Option.some.inj hf
      exact hret
  · refine g_aload_n o 0 rfl rfl dX1_writeTuple_7 ?_
    refine g_bipush o bp_44 dX1_writeTuple_8 ?_
    obtain ⟨r14, hr14, hf⟩ := bd_some hf
    refine k_X1_writeCharacter_ o hr14 m_861 (Nat.le_of_ble_eq_true rfl) (Nat.le_of_ble_eq_true rfl) ⟨(Nat.le_of_ble_eq_true rfl), (Nat.le_of_ble_eq_true rfl)⟩ dX1_writeTuple_10 ?_
    refine g_iconst o ic_0 dX1_writeTuple_13 ?_
    refine g_istore_n o [(3, .int 0), (0, .ref (a 0)), (1, .int p0), (2, .int p1)] (Nat.le_of_ble_eq_true rfl) rfl rfl dX1_writeTuple_14 ?_
    obtain ⟨r16, hr16, hxr16, hrr16⟩ := bl_some hf
    refine g_perm [1, 2, 3, 0] rfl (b_X1_writeTuple_L15 o (Nat.le_of_ble_eq_true rfl) (Nat.le_of_ble_eq_true rfl) a b c v w p0 p1 r16 (fun s15 hs => ?_) (fun t15 ht => ?_) FU (0, r14) hr16)
    · have hf := hxr16 s15 hs
      obtain ⟨s15_0, s15_1⟩ := s15
      try dsimp -simprocs only at hf ⊢
      cases Option.some.inj hf
      exact g_vret hret (Nat.le_of_ble_eq_true rfl) (Nat.le_of_ble_eq_true rfl) dX1_writeTuple_45
    · have hf := hrr16 t15 ht
      cases Option.some.inj hf
      exact hret
theorem c_X1_writeTuple (l : Launch) (hst : l.stackTraces = false) (a b c : Nat → Nat) (u v w : St) (p0 : Int32) (p1 : Int32) (t : St) (hf : f_X1_writeTuple u v w p0 p1 = some t) : CoV l yX1_writeTuple (.code yX1_writeTuple cX1_writeTuple 4 none) 1 0 0 [.ref (a 0), .int p0, .int p1] (wX a u b v c w) (wX a t b v c w) (.inl ()) := mkV hst (by decide +kernel) (Nat.le_of_ble_eq_true rfl) (fun x _ o hI hX => b_X1_writeTuple o a b c u v w p0 p1 t hf (hI rfl))
theorem k_X1_writeTuple_ {x : Cx} {cc : ByteArray} {nL : Nat} {own : String} {d mc ms k n : Nat} {lv : List (Nat × Value)} {pc i : Nat} {rest : List Value} {a b c : Nat → Nat} {u v w : St} {p0 : Int32} {p1 : Int32} (o : Ok x cc nL own d mc ms) {t : St} (ht : f_X1_writeTuple u v w p0 p1 = some t) (hlk : Cond.methodLink own i yX1_writeTuple ∈ Ug) (hd : 1 < d) (hr : (rest.map fun v => v.category).sum ≤ 8) (hk : k + 0 ≤ mc ∧ n + 0 ≤ ms) (dg : decode cc pc = .ok (.invokevirtual i, 3)) (kk : G x nL (k + 0) (n + 0) (wX a t b v c w (cxT x)) lv (pc + 3) rest) : G x nL k n (wX a u b v c w (cxT x)) lv pc (.int p1 :: .int p0 :: .ref (a 0) :: rest) := gcV (wd2 := (wX a t b v c w (cxT x))) o (c_X1_writeTuple (cxl x) o.2.2.2.2.2.2.2.2.2.1 a b c u v w p0 p1 t ht) (can_V (q0 := 0) o rfl rfl hd (Nat.le_of_ble_eq_true rfl) m_860 m_54 m_859 m_30 hlk yk_X1_writeTuple rfl hr hk dg) sp_X (fun E h => by cases h) (fun h => kk)
def rt_X1_write (x : Cx) (a b c : Nat → Nat) (v w : St) (t : (Int32 ⊕ String) × St) : Prop := (∀ r, t.1 = .inl r → RetI x cX1_write .int 1 6 (wX a t.2 b v c w (cxT x)) r) ∧ ∀ E, t.1 = .inr E → RetX x 1 6 (wX a t.2 b v c w (cxT x)) E
set_option maxRecDepth 20000 in
set_option maxHeartbeats 2000000 in
theorem b_X1_write_L22 {x : Cx} (o : Ok x cX1_write 4 RX1 2 1 6) {k n : Nat} (hk : k ≤ 1) (hn : n ≤ 6) (a b c : Nat → Nat) (v : St) (w : St) (c1 : Int32) (c2 : Int32) (r : (Int32 × St) ⊕ ((Int32 ⊕ String) × St)) (hX : ∀ s : Int32 × St, r = .inl s → G x 4 k n (wX a s.2 b v c w (cxT x)) [(0, .ref (a 0))] 58 []) (hR : ∀ t, r = .inr t → rt_X1_write x a b c v w t) : ∀ (m : Nat) (s : Int32 × St), loopN (f_X1_write_s22 v w c1 c2) m s = some r → G x 4 k n (wX a s.2 b v c w (cxT x)) [(0, .ref (a 0)), (1, .int c1), (2, .int c2), (3, .int s.1)] 22 [] := by
  refine loop_W _ (fun (s : Int32 × St) => G x 4 k n (wX a s.2 b v c w (cxT x)) [(0, .ref (a 0)), (1, .int c1), (2, .int c2), (3, .int s.1)] 22 []) r ?_
  intro s ww hf hw
  unfold f_X1_write_s22 at hf
  obtain ⟨s_0, s_1⟩ := s
  try dsimp -simprocs only at hf ⊢
  refine g_iload_n o 3 rfl rfl dX1_write_22 ?_
  refine g_iload_n o 2 rfl rfl dX1_write_23 ?_
  obtain ⟨r7, hr7, hf⟩ := bd_some hf
  refine k_X1_greatestTuple_ o hr7 m_342 (Nat.le_of_ble_eq_true rfl) (Nat.le_of_ble_eq_true rfl) ⟨hk, hn⟩ dX1_write_24 ?_
  refine g_ic_gt (tgt := 58) o rfl dX1_write_27 hf (fun hc hf => ?_) (fun hc hf => ?_)
  · exact g_perm [0] rfl (hX _ (lf_x hf hw))
  · refine g_aload_n o 0 rfl rfl dX1_write_30 ?_
    refine X_get0 o m_112 dX1_write_31 ?_
    refine Y_get2 o e_87 dX1_write_34 ?_
    refine g_iload_n o 1 rfl rfl dX1_write_37 ?_
    refine Y_ld2 o dX1_write_38 hf (fun hf => ?_)
    refine g_iload_n o 3 rfl rfl dX1_write_39 ?_
    obtain ⟨r8, hr8, hf⟩ := bd_some hf
    refine k_X1_has_ o hr8 m_394 (Nat.le_of_ble_eq_true rfl) (Nat.le_of_ble_eq_true rfl) ⟨hk, hn⟩ dX1_write_40 ?_
    refine g_if_eq (tgt := 52) o rfl dX1_write_43 hf (fun hc hf => ?_) (fun hc hf => ?_)
    · refine g_iinc o [(3, .int (s_0 + 1)), (0, .ref (a 0)), (1, .int c1), (2, .int c2)] 3 rfl (inc_1 _) (Nat.le_of_ble_eq_true rfl) rfl dX1_write_52 ?_
      refine g_goto (tgt := 22) o rfl dX1_write_55 ?_
      have hp := lf_c hf hw
      exact g_perm [1, 2, 3, 0] rfl hp
    · refine g_aload_n o 0 rfl rfl dX1_write_46 ?_
      refine g_iload_n o 2 rfl rfl dX1_write_47 ?_
      refine g_iload_n o 3 rfl rfl dX1_write_48 ?_
      obtain ⟨r9, hr9, hf⟩ := bd_some hf
      refine k_X1_writeTuple_ o hr9 m_857 (Nat.le_of_ble_eq_true rfl) (Nat.le_of_ble_eq_true rfl) ⟨hk, hn⟩ dX1_write_49 ?_
      refine g_iinc o [(3, .int (s_0 + 1)), (0, .ref (a 0)), (1, .int c1), (2, .int c2)] 3 rfl (inc_1 _) (Nat.le_of_ble_eq_true rfl) rfl dX1_write_52 ?_
      refine g_goto (tgt := 22) o rfl dX1_write_55 ?_
      have hp := lf_c hf hw
      exact g_perm [1, 2, 3, 0] rfl hp
set_option maxRecDepth 20000 in
set_option maxHeartbeats 2000000 in
theorem b_X1_write {x : Cx} (o : Ok x cX1_write 4 RX1 2 1 6) (a b c : Nat → Nat) (u v w : St) (p0 : Int32) (t : (Int32 ⊕ String) × St) (hf : f_X1_write u v w p0 = some t) (hret : rt_X1_write x a b c v w t) : G x 4 0 0 (wX a u b v c w (cxT x)) [(0, .ref (a 0)), (1, .int p0)] 0 [] := by
  unfold f_X1_write at hf
  refine g_aload_n o 0 rfl rfl dX1_write_0 ?_
  refine g_iload_n o 1 rfl rfl dX1_write_1 ?_
  rcases bz_some hf with ⟨r12, hr12, hf⟩ | ⟨E13, hr12, hf⟩
  · refine k_X1_requireRelation_n o hr12 m_369 (Nat.le_of_ble_eq_true rfl) (Nat.le_of_ble_eq_true rfl) ⟨(Nat.le_of_ble_eq_true rfl), (Nat.le_of_ble_eq_true rfl)⟩ dX1_write_2 ?_
    refine g_aload_n o 0 rfl rfl dX1_write_5 ?_
    refine g_iconst o ic_0 dX1_write_6 ?_
    refine X_put7 o m_119 dX1_write_7 ?_
    refine g_aload_n o 0 rfl rfl dX1_write_10 ?_
    refine X_get0 o m_112 dX1_write_11 ?_
    refine Y_get1 o e_85 dX1_write_14 ?_
    refine g_iload_n o 1 rfl rfl dX1_write_17 ?_
    refine Y_ld1 o dX1_write_18 hf (fun hf => ?_)
    refine g_nmi hf (fun x14 hf => ?_)
    refine g_istore_n o [(2, .int x14), (0, .ref (a 0)), (1, .int p0)] (Nat.le_of_ble_eq_true rfl) rfl rfl dX1_write_19 ?_
    refine g_iconst o ic_0 dX1_write_20 ?_
    refine g_istore_n o [(3, .int 0), (2, .int x14), (0, .ref (a 0)), (1, .int p0)] (Nat.le_of_ble_eq_true rfl) rfl rfl dX1_write_21 ?_
    obtain ⟨r16, hr16, hxr16, hrr16⟩ := bl_some hf
    refine g_perm [2, 3, 1, 0] rfl (b_X1_write_L22 o (Nat.le_of_ble_eq_true rfl) (Nat.le_of_ble_eq_true rfl) a b c v w p0 x14 r16 (fun s22 hs => ?_) (fun t15 ht => ?_) FU (0, (us u 7 0)) hr16)
    · have hf := hxr16 s22 hs
      obtain ⟨s22_0, s22_1⟩ := s22
      try dsimp -simprocs only at hf ⊢
      refine g_aload_n o 0 rfl rfl dX1_write_58 ?_
      refine X_get7 o m_119 dX1_write_59 ?_
      cases Option.some.inj hf
      exact g_iret (hret.1 _ rfl) (Nat.le_of_ble_eq_true rfl) (Nat.le_of_ble_eq_true rfl) (vp_nar_int _) dX1_write_62
    · have hf := hrr16 t15 ht
      cases Option.some.inj hf
      exact hret
  · cases Option.some.inj hf
    exact k_X1_requireRelation_x o hr12 m_369 (Nat.le_of_ble_eq_true rfl) (Nat.le_of_ble_eq_true rfl) ⟨(Nat.le_of_ble_eq_true rfl), (Nat.le_of_ble_eq_true rfl)⟩ dX1_write_2 (xw_out o (hret.2 _ rfl) (Nat.le_of_ble_eq_true rfl) (Nat.le_of_ble_eq_true rfl))
theorem c_X1_write (l : Launch) (hst : l.stackTraces = false) (a b c : Nat → Nat) (u v w : St) (p0 : Int32) (t : (Int32 ⊕ String) × St) (hf : f_X1_write u v w p0 = some t) : CoI l yX1_write (.code yX1_write cX1_write 4 (some .int)) 2 1 6 [.ref (a 0), .int p0] (wX a u b v c w) (wX a t.2 b v c w) (t.1) := mkI hst (by decide +kernel) (Nat.le_of_ble_eq_true rfl) (fun x _ o hI hX => b_X1_write o a b c u v w p0 t hf ⟨hI, hX⟩)
def rt_X1_outputAt (x : Cx) (a b c : Nat → Nat) (u v w : St) (t : (Int32 ⊕ String)) : Prop := (∀ r, t = .inl r → RetI x cX1_outputAt .char 1 6 (wX a u b v c w (cxT x)) r) ∧ ∀ E, t = .inr E → RetX x 1 6 (wX a u b v c w (cxT x)) E
set_option maxRecDepth 20000 in
set_option maxHeartbeats 2000000 in
theorem b_X1_outputAt {x : Cx} (o : Ok x cX1_outputAt 2 RX1 0 1 6) (a b c : Nat → Nat) (u v w : St) (p0 : Int32) (t : (Int32 ⊕ String)) (hf : f_X1_outputAt u v w p0 = some t) (hret : rt_X1_outputAt x a b c u v w t) : G x 2 0 0 (wX a u b v c w (cxT x)) [(0, .ref (a 0)), (1, .int p0)] 0 [] := by
  unfold f_X1_outputAt at hf
  refine g_iload_n o 1 rfl rfl dX1_outputAt_0 ?_
  refine g_if_lt (tgt := 12) o rfl dX1_outputAt_1 hf (fun hc hf => ?_) (fun hc hf => ?_)
  · cases Option.some.inj hf
    exact g_throwSW o (hret.2 _ rfl) fit_io fit_re rfl m_373 m_63 st_267 at_157 go_157 dX1_outputAt_12 dX1_outputAt_15 dX1_outputAt_16 dX1_outputAt_19 dX1_outputAt_22 (Nat.le_of_ble_eq_true rfl) (Nat.le_of_ble_eq_true rfl)
  · refine g_iload_n o 1 rfl rfl dX1_outputAt_4 ?_
    refine g_aload_n o 0 rfl rfl dX1_outputAt_5 ?_
    refine X_get7 o m_119 dX1_outputAt_6 ?_
    refine g_ic_lt (tgt := 23) o rfl dX1_outputAt_9 hf (fun hc hf => ?_) (fun hc hf => ?_)
    · refine g_aload_n o 0 rfl rfl dX1_outputAt_23 ?_
      refine X_get6 o m_118 dX1_outputAt_24 ?_
      refine g_iload_n o 1 rfl rfl dX1_outputAt_27 ?_
      refine X_ld6 o dX1_outputAt_28 hf (fun hf => ?_)
      obtain ⟨hb, hf⟩ := gd_some hf
      cases Option.some.inj hf
      exact g_iret (hret.1 _ rfl) (Nat.le_of_ble_eq_true rfl) (Nat.le_of_ble_eq_true rfl) (okC_n hb) dX1_outputAt_29
    · cases Option.some.inj hf
      exact g_throwSW o (hret.2 _ rfl) fit_io fit_re rfl m_373 m_63 st_267 at_157 go_157 dX1_outputAt_12 dX1_outputAt_15 dX1_outputAt_16 dX1_outputAt_19 dX1_outputAt_22 (Nat.le_of_ble_eq_true rfl) (Nat.le_of_ble_eq_true rfl)
theorem c_X1_outputAt (l : Launch) (hst : l.stackTraces = false) (a b c : Nat → Nat) (u v w : St) (p0 : Int32) (t : (Int32 ⊕ String)) (hf : f_X1_outputAt u v w p0 = some t) : CoI l yX1_outputAt (.code yX1_outputAt cX1_outputAt 2 (some .char)) 0 1 6 [.ref (a 0), .int p0] (wX a u b v c w) (wX a u b v c w) (t) := mkI hst (by decide +kernel) (Nat.le_of_ble_eq_true rfl) (fun x _ o hI hX => b_X1_outputAt o a b c u v w p0 t hf ⟨hI, hX⟩)
def rt_X1_storeFlags (x : Cx) (a b c : Nat → Nat) (v w : St) (t : (Int32 ⊕ String) × St) : Prop := (∀ r, t.1 = .inl r → RetI x cX1_storeFlags .int 3 18 (wX a t.2 b v c w (cxT x)) r) ∧ ∀ E, t.1 = .inr E → RetX x 3 18 (wX a t.2 b v c w (cxT x)) E
set_option maxRecDepth 20000 in
set_option maxHeartbeats 2000000 in
theorem b_X1_storeFlags {x : Cx} (o : Ok x cX1_storeFlags 4 RX1 1 3 18) (a b c : Nat → Nat) (u v w : St) (p0 : Int32) (p1 : Int32) (p2 : Int32) (t : (Int32 ⊕ String) × St) (hf : f_X1_storeFlags u v w p0 p1 p2 = some t) (hret : rt_X1_storeFlags x a b c v w t) : G x 4 0 0 (wX a u b v c w (cxT x)) [(0, .ref (a 0)), (1, .int p0), (2, .int p1), (3, .int p2)] 0 [] := by
  unfold f_X1_storeFlags at hf
  refine g_iload_n o 1 rfl rfl dX1_storeFlags_0 ?_
  rcases bz_some hf with ⟨r6, hr6, hf⟩ | ⟨E7, hr6, hf⟩
  · refine k_X1_requireSlot_n o hr6 m_880 (Nat.le_of_ble_eq_true rfl) (Nat.le_of_ble_eq_true rfl) ⟨(Nat.le_of_ble_eq_true rfl), (Nat.le_of_ble_eq_true rfl)⟩ dX1_storeFlags_1 ?_
    refine g_aload_n o 0 rfl rfl dX1_storeFlags_4 ?_
    refine g_iload_n o 3 rfl rfl dX1_storeFlags_5 ?_
    rcases bz_some hf with ⟨r8, hr8, hf⟩ | ⟨E9, hr8, hf⟩
    · refine k_X1_requireRelation_n o hr8 m_369 (Nat.le_of_ble_eq_true rfl) (Nat.le_of_ble_eq_true rfl) ⟨(Nat.le_of_ble_eq_true rfl), (Nat.le_of_ble_eq_true rfl)⟩ dX1_storeFlags_6 ?_
      refine g_iload_n o 2 rfl rfl dX1_storeFlags_9 ?_
      refine g_if_lt (tgt := 19) o rfl dX1_storeFlags_10 hf (fun hc hf => ?_) (fun hc hf => ?_)
      · cases Option.some.inj hf
        exact g_throwSW o (hret.2 _ rfl) fit_ia fit_re rfl m_241 m_60 st_272 at_63 go_63 dX1_storeFlags_19 dX1_storeFlags_22 dX1_storeFlags_23 dX1_storeFlags_26 dX1_storeFlags_29 (Nat.le_of_ble_eq_true rfl) (Nat.le_of_ble_eq_true rfl)
      · refine g_iload_n o 2 rfl rfl dX1_storeFlags_13 ?_
        refine g_bipush o bp_16 dX1_storeFlags_14 ?_
        refine g_ic_le (tgt := 30) o rfl dX1_storeFlags_16 hf (fun hc hf => ?_) (fun hc hf => ?_)
        · refine g_aload_n o 0 rfl rfl dX1_storeFlags_30 ?_
          refine X_get8 o m_120 dX1_storeFlags_31 ?_
          refine g_iload_n o 1 rfl rfl dX1_storeFlags_34 ?_
          refine g_iload_n o 2 rfl rfl dX1_storeFlags_35 ?_
          refine X_st8 o dX1_storeFlags_36 hf (fun hf => ?_)
          refine g_aload_n o 0 rfl rfl dX1_storeFlags_37 ?_
          refine X_get9 o m_121 dX1_storeFlags_38 ?_
          refine g_iload_n o 1 rfl rfl dX1_storeFlags_41 ?_
          refine g_aload_n o 0 rfl rfl dX1_storeFlags_42 ?_
          refine X_get0 o m_112 dX1_storeFlags_43 ?_
          refine Y_get2 o e_87 dX1_storeFlags_46 ?_
          refine g_iload_n o 3 rfl rfl dX1_storeFlags_49 ?_
          refine Y_ld2 o dX1_storeFlags_50 hf (fun hf => ?_)
          refine g_iconst o ic_1 dX1_storeFlags_51 ?_
          refine g_iload_n o 2 rfl rfl dX1_storeFlags_52 ?_
          refine g_ishl o dX1_storeFlags_53 ?_
          refine g_iconst o ic_1 dX1_storeFlags_54 ?_
          refine g_isub o dX1_storeFlags_55 ?_
          refine g_iand o dX1_storeFlags_56 ?_
          refine X_st9 o dX1_storeFlags_57 hf (fun hf => ?_)
          refine g_aload_n o 0 rfl rfl dX1_storeFlags_58 ?_
          refine X_get9 o m_121 dX1_storeFlags_59 ?_
          refine g_iload_n o 1 rfl rfl dX1_storeFlags_62 ?_
          refine X_ld9 o dX1_storeFlags_63 hf (fun hf => ?_)
          obtain ⟨r10, hr10, hf⟩ := bd_some hf
          refine k_J6_bitCount_0f7a4_ o hr10 m_212 (Nat.le_of_ble_eq_true rfl) (Nat.le_of_ble_eq_true rfl) ⟨(Nat.le_of_ble_eq_true rfl), (Nat.le_of_ble_eq_true rfl)⟩ dX1_storeFlags_64 ?_
          cases Option.some.inj hf
          exact g_iret (hret.1 _ rfl) (Nat.le_of_ble_eq_true rfl) (Nat.le_of_ble_eq_true rfl) (vp_nar_int _) dX1_storeFlags_67
        · cases Option.some.inj hf
          exact g_throwSW o (hret.2 _ rfl) fit_ia fit_re rfl m_241 m_60 st_272 at_63 go_63 dX1_storeFlags_19 dX1_storeFlags_22 dX1_storeFlags_23 dX1_storeFlags_26 dX1_storeFlags_29 (Nat.le_of_ble_eq_true rfl) (Nat.le_of_ble_eq_true rfl)
    · cases Option.some.inj hf
      exact k_X1_requireRelation_x o hr8 m_369 (Nat.le_of_ble_eq_true rfl) (Nat.le_of_ble_eq_true rfl) ⟨(Nat.le_of_ble_eq_true rfl), (Nat.le_of_ble_eq_true rfl)⟩ dX1_storeFlags_6 (xw_out o (hret.2 _ rfl) (Nat.le_of_ble_eq_true rfl) (Nat.le_of_ble_eq_true rfl))
  · cases Option.some.inj hf
    exact k_X1_requireSlot_x o hr6 m_880 (Nat.le_of_ble_eq_true rfl) (Nat.le_of_ble_eq_true rfl) ⟨(Nat.le_of_ble_eq_true rfl), (Nat.le_of_ble_eq_true rfl)⟩ dX1_storeFlags_1 (xw_out o (hret.2 _ rfl) (Nat.le_of_ble_eq_true rfl) (Nat.le_of_ble_eq_true rfl))
theorem c_X1_storeFlags (l : Launch) (hst : l.stackTraces = false) (a b c : Nat → Nat) (u v w : St) (p0 : Int32) (p1 : Int32) (p2 : Int32) (t : (Int32 ⊕ String) × St) (hf : f_X1_storeFlags u v w p0 p1 p2 = some t) : CoI l yX1_storeFlags (.code yX1_storeFlags cX1_storeFlags 4 (some .int)) 1 3 18 [.ref (a 0), .int p0, .int p1, .int p2] (wX a u b v c w) (wX a t.2 b v c w) (t.1) := mkI hst (by decide +kernel) (Nat.le_of_ble_eq_true rfl) (fun x _ o hI hX => b_X1_storeFlags o a b c u v w p0 p1 p2 t hf ⟨hI, hX⟩)
def rt_X1_requireFlags (x : Cx) (a b c : Nat → Nat) (u v w : St) (t : (Unit ⊕ String)) : Prop := (t = .inl () → RetV x cX1_requireFlags 1 6 (wX a u b v c w (cxT x))) ∧ ∀ E, t = .inr E → RetX x 1 6 (wX a u b v c w (cxT x)) E
set_option maxRecDepth 20000 in
set_option maxHeartbeats 2000000 in
theorem b_X1_requireFlags {x : Cx} (o : Ok x cX1_requireFlags 2 RX1 0 1 6) (a b c : Nat → Nat) (u v w : St) (p0 : Int32) (t : (Unit ⊕ String)) (hf : f_X1_requireFlags u v w p0 = some t) (hret : rt_X1_requireFlags x a b c u v w t) : G x 2 0 0 (wX a u b v c w (cxT x)) [(0, .ref (a 0)), (1, .int p0)] 0 [] := by
  unfold f_X1_requireFlags at hf
  refine g_aload_n o 0 rfl rfl dX1_requireFlags_0 ?_
  refine X_get8 o m_120 dX1_requireFlags_1 ?_
  refine g_iload_n o 1 rfl rfl dX1_requireFlags_4 ?_
  refine X_ld8 o dX1_requireFlags_5 hf (fun hf => ?_)
  refine g_iconst o ic_m1 dX1_requireFlags_6 ?_
  refine g_ic_ne (tgt := 21) o rfl dX1_requireFlags_7 hf (fun hc hf => ?_) (fun hc hf => ?_)
  · cases Option.some.inj hf
    exact g_vret (hret.1 rfl) (Nat.le_of_ble_eq_true rfl) (Nat.le_of_ble_eq_true rfl) dX1_requireFlags_21
  · cases Option.some.inj hf
    exact g_throwSW o (hret.2 _ rfl) fit_is fit_re rfl m_319 m_61 st_295 at_188 go_188 dX1_requireFlags_10 dX1_requireFlags_13 dX1_requireFlags_14 dX1_requireFlags_17 dX1_requireFlags_20 (Nat.le_of_ble_eq_true rfl) (Nat.le_of_ble_eq_true rfl)
theorem c_X1_requireFlags (l : Launch) (hst : l.stackTraces = false) (a b c : Nat → Nat) (u v w : St) (p0 : Int32) (t : (Unit ⊕ String)) (hf : f_X1_requireFlags u v w p0 = some t) : CoV l yX1_requireFlags (.code yX1_requireFlags cX1_requireFlags 2 none) 0 1 6 [.ref (a 0), .int p0] (wX a u b v c w) (wX a u b v c w) (t) := mkV hst (by decide +kernel) (Nat.le_of_ble_eq_true rfl) (fun x _ o hI hX => b_X1_requireFlags o a b c u v w p0 t hf ⟨hI, hX⟩)
theorem k_X1_requireFlags_n {x : Cx} {cc : ByteArray} {nL : Nat} {own : String} {d mc ms k n : Nat} {lv : List (Nat × Value)} {pc i : Nat} {rest : List Value} {a b c : Nat → Nat} {u v w : St} {p0 : Int32} (o : Ok x cc nL own d mc ms) {r : Unit} (ht : f_X1_requireFlags u v w p0 = some (.inl r)) (hlk : Cond.methodLink own i yX1_requireFlags ∈ Ug) (hd : 0 < d) (hr : (rest.map fun v => v.category).sum ≤ 8) (hk : k + 1 ≤ mc ∧ n + 6 ≤ ms) (dg : decode cc pc = .ok (.invokevirtual i, 3)) (kk : G x nL (k + 1) (n + 6) (wX a u b v c w (cxT x)) lv (pc + 3) rest) : G x nL k n (wX a u b v c w (cxT x)) lv pc (.int p0 :: .ref (a 0) :: rest) := gcV (wd2 := (wX a u b v c w (cxT x))) o (c_X1_requireFlags (cxl x) o.2.2.2.2.2.2.2.2.2.1 a b c u v w p0 (.inl r) ht) (can_V (q0 := 0) o rfl rfl hd (Nat.le_of_ble_eq_true rfl) m_895 m_54 m_894 m_32 hlk yk_X1_requireFlags rfl hr hk dg) sp_X (fun E h => by cases h) (fun h => kk)
theorem k_X1_requireFlags_x {x : Cx} {cc : ByteArray} {nL : Nat} {own : String} {d mc ms k n : Nat} {lv : List (Nat × Value)} {pc i : Nat} {rest : List Value} {a b c : Nat → Nat} {u v w : St} {p0 : Int32} (o : Ok x cc nL own d mc ms) {E : String} (ht : f_X1_requireFlags u v w p0 = some (.inr E)) (hlk : Cond.methodLink own i yX1_requireFlags ∈ Ug) (hd : 0 < d) (hr : (rest.map fun v => v.category).sum ≤ 8) (hk : k + 1 ≤ mc ∧ n + 6 ≤ ms) (dg : decode cc pc = .ok (.invokevirtual i, 3)) (kk : XW x nL (k + 1) (n + 6) (wX a u b v c w (cxT x)) lv pc rest E) : G x nL k n (wX a u b v c w (cxT x)) lv pc (.int p0 :: .ref (a 0) :: rest) := gcV (wd2 := (wX a u b v c w (cxT x))) o (c_X1_requireFlags (cxl x) o.2.2.2.2.2.2.2.2.2.1 a b c u v w p0 (.inr E) ht) (can_V (q0 := 0) o rfl rfl hd (Nat.le_of_ble_eq_true rfl) m_895 m_54 m_894 m_32 hlk yk_X1_requireFlags rfl hr hk dg) sp_X (fun E h => by cases h; exact kk) (fun h => by cases h)
def rt_X1_setFlag (x : Cx) (a b c : Nat → Nat) (v w : St) (t : (Int32 ⊕ String) × St) : Prop := (∀ r, t.1 = .inl r → RetI x cX1_setFlag .boolean 3 18 (wX a t.2 b v c w (cxT x)) r) ∧ ∀ E, t.1 = .inr E → RetX x 3 18 (wX a t.2 b v c w (cxT x)) E
set_option maxRecDepth 20000 in
set_option maxHeartbeats 2000000 in
theorem b_X1_setFlag {x : Cx} (o : Ok x cX1_setFlag 5 RX1 1 3 18) (a b c : Nat → Nat) (u v w : St) (p0 : Int32) (p1 : Int32) (p2 : Int32) (t : (Int32 ⊕ String) × St) (hf : f_X1_setFlag u v w p0 p1 p2 = some t) (hret : rt_X1_setFlag x a b c v w t) : G x 5 0 0 (wX a u b v c w (cxT x)) [(0, .ref (a 0)), (1, .int p0), (2, .int p1), (3, .int p2)] 0 [] := by
  unfold f_X1_setFlag at hf
  refine g_iload_n o 1 rfl rfl dX1_setFlag_0 ?_
  rcases bz_some hf with ⟨r6, hr6, hf⟩ | ⟨E7, hr6, hf⟩
  · refine k_X1_requireSlot_n o hr6 m_880 (Nat.le_of_ble_eq_true rfl) (Nat.le_of_ble_eq_true rfl) ⟨(Nat.le_of_ble_eq_true rfl), (Nat.le_of_ble_eq_true rfl)⟩ dX1_setFlag_1 ?_
    refine g_aload_n o 0 rfl rfl dX1_setFlag_4 ?_
    refine g_iload_n o 1 rfl rfl dX1_setFlag_5 ?_
    rcases bz_some hf with ⟨r8, hr8, hf⟩ | ⟨E9, hr8, hf⟩
    · refine k_X1_requireFlags_n o hr8 m_892 (Nat.le_of_ble_eq_true rfl) (Nat.le_of_ble_eq_true rfl) ⟨(Nat.le_of_ble_eq_true rfl), (Nat.le_of_ble_eq_true rfl)⟩ dX1_setFlag_6 ?_
      refine g_iload_n o 2 rfl rfl dX1_setFlag_9 ?_
      refine g_if_lt (tgt := 23) o rfl dX1_setFlag_10 hf (fun hc hf => ?_) (fun hc hf => ?_)
      · cases Option.some.inj hf
        exact g_throwSW o (hret.2 _ rfl) fit_io fit_re rfl m_373 m_63 st_277 at_157 go_157 dX1_setFlag_23 dX1_setFlag_26 dX1_setFlag_27 dX1_setFlag_30 dX1_setFlag_33 (Nat.le_of_ble_eq_true rfl) (Nat.le_of_ble_eq_true rfl)
      · refine g_iload_n o 2 rfl rfl dX1_setFlag_13 ?_
        refine g_aload_n o 0 rfl rfl dX1_setFlag_14 ?_
        refine X_get8 o m_120 dX1_setFlag_15 ?_
        refine g_iload_n o 1 rfl rfl dX1_setFlag_18 ?_
        refine X_ld8 o dX1_setFlag_19 hf (fun hf => ?_)
        refine g_ic_lt (tgt := 34) o rfl dX1_setFlag_20 hf (fun hc hf => ?_) (fun hc hf => ?_)
        · refine g_aload_n o 0 rfl rfl dX1_setFlag_34 ?_
          refine X_get9 o m_121 dX1_setFlag_35 ?_
          refine g_iload_n o 1 rfl rfl dX1_setFlag_38 ?_
          refine X_ld9 o dX1_setFlag_39 hf (fun hf => ?_)
          refine g_iload_n o 2 rfl rfl dX1_setFlag_40 ?_
          obtain ⟨r10, hr10, hf⟩ := bd_some hf
          refine k_X1_has_ o hr10 m_394 (Nat.le_of_ble_eq_true rfl) (Nat.le_of_ble_eq_true rfl) ⟨(Nat.le_of_ble_eq_true rfl), (Nat.le_of_ble_eq_true rfl)⟩ dX1_setFlag_41 ?_
          refine g_istore o [(4, .int r10), (0, .ref (a 0)), (1, .int p0), (2, .int p1), (3, .int p2)] (Nat.le_of_ble_eq_true rfl) rfl dX1_setFlag_44 ?_
          refine g_iload_n o 4 rfl rfl dX1_setFlag_46 ?_
          refine g_if_eq (tgt := 65) o rfl dX1_setFlag_47 hf (fun hc hf => ?_) (fun hc hf => ?_)
          · refine g_aload_n o 1 rfl rfl dX1_setFlag_65 ?_
            refine X_get9 o m_121 dX1_setFlag_66 ?_
            refine g_iload_n o 2 rfl rfl dX1_setFlag_69 ?_
            refine g_dup2 o rfl rfl dX1_setFlag_70 ?_
            refine X_ld9 o dX1_setFlag_71 hf (fun hf => ?_)
            refine g_iconst o ic_1 dX1_setFlag_72 ?_
            refine g_iload_n o 3 rfl rfl dX1_setFlag_73 ?_
            refine g_ishl o dX1_setFlag_74 ?_
            refine g_iconst o ic_m1 dX1_setFlag_75 ?_
            refine g_ixor o dX1_setFlag_76 ?_
            refine g_iand o dX1_setFlag_77 ?_
            refine X_st9 o dX1_setFlag_78 hf (fun hf => ?_)
            refine g_iload o 0 rfl dX1_setFlag_79 ?_
            obtain ⟨hb, hf⟩ := gd_some hf
            cases Option.some.inj hf
            exact g_iret (hret.1 _ rfl) (Nat.le_of_ble_eq_true rfl) (Nat.le_of_ble_eq_true rfl) (okB_n hb) dX1_setFlag_81
          · refine g_aload_n o 1 rfl rfl dX1_setFlag_50 ?_
            refine X_get9 o m_121 dX1_setFlag_51 ?_
            refine g_iload_n o 2 rfl rfl dX1_setFlag_54 ?_
            refine g_dup2 o rfl rfl dX1_setFlag_55 ?_
            refine X_ld9 o dX1_setFlag_56 hf (fun hf => ?_)
            refine g_iconst o ic_1 dX1_setFlag_57 ?_
            refine g_iload_n o 3 rfl rfl dX1_setFlag_58 ?_
            refine g_ishl o dX1_setFlag_59 ?_
            refine g_ior o dX1_setFlag_60 ?_
            refine X_st9 o dX1_setFlag_61 hf (fun hf => ?_)
            refine g_goto (tgt := 79) o rfl dX1_setFlag_62 ?_
            refine g_iload o 0 rfl dX1_setFlag_79 ?_
            obtain ⟨hb, hf⟩ := gd_some hf
            cases Option.some.inj hf
            exact g_iret (hret.1 _ rfl) (Nat.le_of_ble_eq_true rfl) (Nat.le_of_ble_eq_true rfl) (okB_n hb) dX1_setFlag_81
        · cases Option.some.inj hf
          exact g_throwSW o (hret.2 _ rfl) fit_io fit_re rfl m_373 m_63 st_277 at_157 go_157 dX1_setFlag_23 dX1_setFlag_26 dX1_setFlag_27 dX1_setFlag_30 dX1_setFlag_33 (Nat.le_of_ble_eq_true rfl) (Nat.le_of_ble_eq_true rfl)
    · cases Option.some.inj hf
      exact k_X1_requireFlags_x o hr8 m_892 (Nat.le_of_ble_eq_true rfl) (Nat.le_of_ble_eq_true rfl) ⟨(Nat.le_of_ble_eq_true rfl), (Nat.le_of_ble_eq_true rfl)⟩ dX1_setFlag_6 (xw_out o (hret.2 _ rfl) (Nat.le_of_ble_eq_true rfl) (Nat.le_of_ble_eq_true rfl))
  · cases Option.some.inj hf
    exact k_X1_requireSlot_x o hr6 m_880 (Nat.le_of_ble_eq_true rfl) (Nat.le_of_ble_eq_true rfl) ⟨(Nat.le_of_ble_eq_true rfl), (Nat.le_of_ble_eq_true rfl)⟩ dX1_setFlag_1 (xw_out o (hret.2 _ rfl) (Nat.le_of_ble_eq_true rfl) (Nat.le_of_ble_eq_true rfl))
theorem c_X1_setFlag (l : Launch) (hst : l.stackTraces = false) (a b c : Nat → Nat) (u v w : St) (p0 : Int32) (p1 : Int32) (p2 : Int32) (t : (Int32 ⊕ String) × St) (hf : f_X1_setFlag u v w p0 p1 p2 = some t) : CoI l yX1_setFlag (.code yX1_setFlag cX1_setFlag 5 (some .boolean)) 1 3 18 [.ref (a 0), .int p0, .int p1, .int p2] (wX a u b v c w) (wX a t.2 b v c w) (t.1) := mkI hst (by decide +kernel) (Nat.le_of_ble_eq_true rfl) (fun x _ o hI hX => b_X1_setFlag o a b c u v w p0 p1 p2 t hf ⟨hI, hX⟩)
def rt_X1_takeFlags (x : Cx) (a b c : Nat → Nat) (u w : St) (t : (Int32 ⊕ String) × St) : Prop := (∀ r, t.1 = .inl r → RetI x cX1_takeFlags .int 3 18 (wX a u b t.2 c w (cxT x)) r) ∧ ∀ E, t.1 = .inr E → RetX x 3 18 (wX a u b t.2 c w (cxT x)) E
set_option maxRecDepth 20000 in
set_option maxHeartbeats 2000000 in
theorem b_X1_takeFlags {x : Cx} (o : Ok x cX1_takeFlags 3 RX1 1 3 18) (a b c : Nat → Nat) (u v w : St) (p0 : Int32) (p1 : Int32) (t : (Int32 ⊕ String) × St) (hf : f_X1_takeFlags u v w p0 p1 = some t) (hret : rt_X1_takeFlags x a b c u w t) : G x 3 0 0 (wX a u b v c w (cxT x)) [(0, .ref (a 0)), (1, .int p0), (2, .int p1)] 0 [] := by
  unfold f_X1_takeFlags at hf
  refine g_iload_n o 1 rfl rfl dX1_takeFlags_0 ?_
  rcases bz_some hf with ⟨r9, hr9, hf⟩ | ⟨E10, hr9, hf⟩
  · refine k_X1_requireSlot_n o hr9 m_880 (Nat.le_of_ble_eq_true rfl) (Nat.le_of_ble_eq_true rfl) ⟨(Nat.le_of_ble_eq_true rfl), (Nat.le_of_ble_eq_true rfl)⟩ dX1_takeFlags_1 ?_
    refine g_aload_n o 0 rfl rfl dX1_takeFlags_4 ?_
    refine g_iload_n o 2 rfl rfl dX1_takeFlags_5 ?_
    rcases bz_some hf with ⟨r11, hr11, hf⟩ | ⟨E12, hr11, hf⟩
    · refine k_X1_requireRelation_n o hr11 m_369 (Nat.le_of_ble_eq_true rfl) (Nat.le_of_ble_eq_true rfl) ⟨(Nat.le_of_ble_eq_true rfl), (Nat.le_of_ble_eq_true rfl)⟩ dX1_takeFlags_6 ?_
      refine g_aload_n o 0 rfl rfl dX1_takeFlags_9 ?_
      refine g_iload_n o 1 rfl rfl dX1_takeFlags_10 ?_
      rcases bz_some hf with ⟨r13, hr13, hf⟩ | ⟨E14, hr13, hf⟩
      · refine k_X1_requireFlags_n o hr13 m_892 (Nat.le_of_ble_eq_true rfl) (Nat.le_of_ble_eq_true rfl) ⟨(Nat.le_of_ble_eq_true rfl), (Nat.le_of_ble_eq_true rfl)⟩ dX1_takeFlags_11 ?_
        refine g_aload_n o 0 rfl rfl dX1_takeFlags_14 ?_
        refine X_get0 o m_112 dX1_takeFlags_15 ?_
        refine Y_get2 o e_87 dX1_takeFlags_18 ?_
        refine g_iload_n o 2 rfl rfl dX1_takeFlags_21 ?_
        refine g_aload_n o 0 rfl rfl dX1_takeFlags_22 ?_
        refine X_get9 o m_121 dX1_takeFlags_23 ?_
        refine g_iload_n o 1 rfl rfl dX1_takeFlags_26 ?_
        refine X_ld9 o dX1_takeFlags_27 hf (fun hf => ?_)
        refine g_aload_n o 0 rfl rfl dX1_takeFlags_28 ?_
        refine X_get0 o m_112 dX1_takeFlags_29 ?_
        refine Y_get1 o e_85 dX1_takeFlags_32 ?_
        refine g_iload_n o 2 rfl rfl dX1_takeFlags_35 ?_
        refine Y_ld1 o dX1_takeFlags_36 hf (fun hf => ?_)
        obtain ⟨r15, hr15, hf⟩ := bd_some hf
        refine k_X1_allTuples_ o hr15 m_346 (Nat.le_of_ble_eq_true rfl) (Nat.le_of_ble_eq_true rfl) ⟨(Nat.le_of_ble_eq_true rfl), (Nat.le_of_ble_eq_true rfl)⟩ dX1_takeFlags_37 ?_
        refine g_iand o dX1_takeFlags_40 ?_
        refine Y_st2 o dX1_takeFlags_41 hf (fun hf => ?_)
        refine g_aload_n o 0 rfl rfl dX1_takeFlags_42 ?_
        refine X_get0 o m_112 dX1_takeFlags_43 ?_
        refine Y_get2 o e_87 dX1_takeFlags_46 ?_
        refine g_iload_n o 2 rfl rfl dX1_takeFlags_49 ?_
        refine Y_ld2 o dX1_takeFlags_50 hf (fun hf => ?_)
        obtain ⟨r16, hr16, hf⟩ := bd_some hf
        refine k_J6_bitCount_0f7a4_ o hr16 m_212 (Nat.le_of_ble_eq_true rfl) (Nat.le_of_ble_eq_true rfl) ⟨(Nat.le_of_ble_eq_true rfl), (Nat.le_of_ble_eq_true rfl)⟩ dX1_takeFlags_51 ?_
        cases Option.some.inj hf
        exact g_iret (hret.1 _ rfl) (Nat.le_of_ble_eq_true rfl) (Nat.le_of_ble_eq_true rfl) (vp_nar_int _) dX1_takeFlags_54
      · cases Option.some.inj hf
        exact k_X1_requireFlags_x o hr13 m_892 (Nat.le_of_ble_eq_true rfl) (Nat.le_of_ble_eq_true rfl) ⟨(Nat.le_of_ble_eq_true rfl), (Nat.le_of_ble_eq_true rfl)⟩ dX1_takeFlags_11 (xw_out o (hret.2 _ rfl) (Nat.le_of_ble_eq_true rfl) (Nat.le_of_ble_eq_true rfl))
    · cases Option.some.inj hf
      exact k_X1_requireRelation_x o hr11 m_369 (Nat.le_of_ble_eq_true rfl) (Nat.le_of_ble_eq_true rfl) ⟨(Nat.le_of_ble_eq_true rfl), (Nat.le_of_ble_eq_true rfl)⟩ dX1_takeFlags_6 (xw_out o (hret.2 _ rfl) (Nat.le_of_ble_eq_true rfl) (Nat.le_of_ble_eq_true rfl))
  · cases Option.some.inj hf
    exact k_X1_requireSlot_x o hr9 m_880 (Nat.le_of_ble_eq_true rfl) (Nat.le_of_ble_eq_true rfl) ⟨(Nat.le_of_ble_eq_true rfl), (Nat.le_of_ble_eq_true rfl)⟩ dX1_takeFlags_1 (xw_out o (hret.2 _ rfl) (Nat.le_of_ble_eq_true rfl) (Nat.le_of_ble_eq_true rfl))
theorem c_X1_takeFlags (l : Launch) (hst : l.stackTraces = false) (a b c : Nat → Nat) (u v w : St) (p0 : Int32) (p1 : Int32) (t : (Int32 ⊕ String) × St) (hf : f_X1_takeFlags u v w p0 p1 = some t) : CoI l yX1_takeFlags (.code yX1_takeFlags cX1_takeFlags 3 (some .int)) 1 3 18 [.ref (a 0), .int p0, .int p1] (wX a u b v c w) (wX a u b t.2 c w) (t.1) := mkI hst (by decide +kernel) (Nat.le_of_ble_eq_true rfl) (fun x _ o hI hX => b_X1_takeFlags o a b c u v w p0 p1 t hf ⟨hI, hX⟩)
def rt_X1_saveSnapshot (x : Cx) (a b c : Nat → Nat) (v : St) (t : Int32 × St × St) : Prop := RetI x cX1_saveSnapshot .int 0 0 (wX a t.2.1 b v c t.2.2 (cxT x)) t.1
set_option maxRecDepth 20000 in
set_option maxHeartbeats 2000000 in
theorem b_X1_saveSnapshot {x : Cx} (o : Ok x cX1_saveSnapshot 1 RX1 2 0 0) (a b c : Nat → Nat) (u v w : St) (t : Int32 × St × St) (hf : f_X1_saveSnapshot u v w = some t) (hret : rt_X1_saveSnapshot x a b c v t) : G x 1 0 0 (wX a u b v c w (cxT x)) [(0, .ref (a 0))] 0 [] := by
  unfold f_X1_saveSnapshot at hf
  refine g_aload_n o 0 rfl rfl dX1_saveSnapshot_0 ?_
  refine X_get1 o m_113 dX1_saveSnapshot_1 ?_
  refine g_aload_n o 0 rfl rfl dX1_saveSnapshot_4 ?_
  refine X_get0 o m_112 dX1_saveSnapshot_5 ?_
  obtain ⟨r2, hr2, hf⟩ := bd_some hf
  refine k_X0_copyFrom_NT o hr2 e_222 (Nat.le_of_ble_eq_true rfl) (Nat.le_of_ble_eq_true rfl) ⟨(Nat.le_of_ble_eq_true rfl), (Nat.le_of_ble_eq_true rfl)⟩ dX1_saveSnapshot_8 ?_
  refine g_aload_n o 0 rfl rfl dX1_saveSnapshot_11 ?_
  refine g_iconst o ic_1 dX1_saveSnapshot_12 ?_
  refine X_put2 o ob_1 m_114 dX1_saveSnapshot_13 ?_
  refine g_aload_n o 0 rfl rfl dX1_saveSnapshot_16 ?_
  refine X_get1 o m_113 dX1_saveSnapshot_17 ?_
  refine Z_get0 o e_83 dX1_saveSnapshot_20 ?_
  cases Option.some.inj hf
  exact g_iret hret (Nat.le_of_ble_eq_true rfl) (Nat.le_of_ble_eq_true rfl) (vp_nar_int _) dX1_saveSnapshot_23
theorem c_X1_saveSnapshot (l : Launch) (hst : l.stackTraces = false) (a b c : Nat → Nat) (u v w : St) (t : Int32 × St × St) (hf : f_X1_saveSnapshot u v w = some t) : CoI l yX1_saveSnapshot (.code yX1_saveSnapshot cX1_saveSnapshot 1 (some .int)) 2 0 0 [.ref (a 0)] (wX a u b v c w) (wX a t.2.1 b v c t.2.2) (.inl t.1) := mkI hst (by decide +kernel) (Nat.le_of_ble_eq_true rfl) (fun x _ o hI hX => b_X1_saveSnapshot o a b c u v w t hf (hI _ rfl))
def rt_X1_restoreSnapshot (x : Cx) (a b c : Nat → Nat) (u w : St) (t : (Int32 ⊕ String) × St) : Prop := (∀ r, t.1 = .inl r → RetI x cX1_restoreSnapshot .int 1 6 (wX a u b t.2 c w (cxT x)) r) ∧ ∀ E, t.1 = .inr E → RetX x 1 6 (wX a u b t.2 c w (cxT x)) E
set_option maxRecDepth 20000 in
set_option maxHeartbeats 2000000 in
theorem b_X1_restoreSnapshot {x : Cx} (o : Ok x cX1_restoreSnapshot 1 RX1 2 1 6) (a b c : Nat → Nat) (u v w : St) (t : (Int32 ⊕ String) × St) (hf : f_X1_restoreSnapshot u v w = some t) (hret : rt_X1_restoreSnapshot x a b c u w t) : G x 1 0 0 (wX a u b v c w (cxT x)) [(0, .ref (a 0))] 0 [] := by
  unfold f_X1_restoreSnapshot at hf
  refine g_aload_n o 0 rfl rfl dX1_restoreSnapshot_0 ?_
  refine X_get2 o m_114 dX1_restoreSnapshot_1 ?_
  refine g_if_ne (tgt := 18) o rfl dX1_restoreSnapshot_4 hf (fun hc hf => ?_) (fun hc hf => ?_)
  · refine g_aload_n o 0 rfl rfl dX1_restoreSnapshot_18 ?_
    refine X_get0 o m_112 dX1_restoreSnapshot_19 ?_
    refine g_aload_n o 0 rfl rfl dX1_restoreSnapshot_22 ?_
    refine X_get1 o m_113 dX1_restoreSnapshot_23 ?_
    obtain ⟨r2, hr2, hf⟩ := bd_some hf
    refine k_X0_copyFrom_NS o hr2 e_222 (Nat.le_of_ble_eq_true rfl) (Nat.le_of_ble_eq_true rfl) ⟨(Nat.le_of_ble_eq_true rfl), (Nat.le_of_ble_eq_true rfl)⟩ dX1_restoreSnapshot_26 ?_
    refine g_aload_n o 0 rfl rfl dX1_restoreSnapshot_29 ?_
    refine X_get0 o m_112 dX1_restoreSnapshot_30 ?_
    refine Y_get0 o e_83 dX1_restoreSnapshot_33 ?_
    cases Option.some.inj hf
    exact g_iret (hret.1 _ rfl) (Nat.le_of_ble_eq_true rfl) (Nat.le_of_ble_eq_true rfl) (vp_nar_int _) dX1_restoreSnapshot_36
  · cases Option.some.inj hf
    exact g_throwSW o (hret.2 _ rfl) fit_is fit_re rfl m_319 m_61 st_283 at_188 go_188 dX1_restoreSnapshot_7 dX1_restoreSnapshot_10 dX1_restoreSnapshot_11 dX1_restoreSnapshot_14 dX1_restoreSnapshot_17 (Nat.le_of_ble_eq_true rfl) (Nat.le_of_ble_eq_true rfl)
theorem c_X1_restoreSnapshot (l : Launch) (hst : l.stackTraces = false) (a b c : Nat → Nat) (u v w : St) (t : (Int32 ⊕ String) × St) (hf : f_X1_restoreSnapshot u v w = some t) : CoI l yX1_restoreSnapshot (.code yX1_restoreSnapshot cX1_restoreSnapshot 1 (some .int)) 2 1 6 [.ref (a 0)] (wX a u b v c w) (wX a u b t.2 c w) (t.1) := mkI hst (by decide +kernel) (Nat.le_of_ble_eq_true rfl) (fun x _ o hI hX => b_X1_restoreSnapshot o a b c u v w t hf ⟨hI, hX⟩)
