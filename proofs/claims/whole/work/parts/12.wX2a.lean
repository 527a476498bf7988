def rt_X2_isBetween (x : Cx) (t : Int32) : Prop := RetI x cX2_isBetween .boolean 0 0 (w0 (cxT x)) t
set_option maxRecDepth 20000 in
set_option maxHeartbeats 2000000 in
theorem b_X2_isBetween {x : Cx} (o : Ok x cX2_isBetween 3 RX2 0 0 0) (p0 : Int32) (p1 : Int32) (p2 : Int32) (t : Int32) (hf : f_X2_isBetween p0 p1 p2 = some t) (hret : rt_X2_isBetween x  t) : G x 3 0 0 (w0 (cxT x)) [(0, .int p0), (1, .int p1), (2, .int p2)] 0 [] := by
  unfold f_X2_isBetween at hf
  refine g_iload_n o 0 rfl rfl dX2_isBetween_0 ?_
  refine g_iload_n o 1 rfl rfl dX2_isBetween_1 ?_
  refine g_ic_lt (tgt := 14) o rfl dX2_isBetween_2 hf (fun hc hf => ?_) (fun hc hf => ?_)
  · refine g_iconst o ic_0 dX2_isBetween_14 ?_
    cases Option.some.inj hf
    exact g_iret hret (Nat.le_of_ble_eq_true rfl) (Nat.le_of_ble_eq_true rfl) nb_0 dX2_isBetween_15
  · refine g_iload_n o 0 rfl rfl dX2_isBetween_5 ?_
    refine g_iload_n o 2 rfl rfl dX2_isBetween_6 ?_
    refine g_ic_gt (tgt := 14) o rfl dX2_isBetween_7 hf (fun hc hf => ?_) (fun hc hf => ?_)
    · refine g_iconst o ic_0 dX2_isBetween_14 ?_
      cases Option.some.inj hf
      exact g_iret hret (Nat.le_of_ble_eq_true rfl) (Nat.le_of_ble_eq_true rfl) nb_0 dX2_isBetween_15
    · refine g_iconst o ic_1 dX2_isBetween_10 ?_
      refine g_goto (tgt := 15) o rfl dX2_isBetween_11 ?_
      cases Option.some.inj hf
      exact g_iret hret (Nat.le_of_ble_eq_true rfl) (Nat.le_of_ble_eq_true rfl) nb_1 dX2_isBetween_15
theorem c_X2_isBetween (l : Launch) (hst : l.stackTraces = false) (p0 : Int32) (p1 : Int32) (p2 : Int32) (t : Int32) (hf : f_X2_isBetween p0 p1 p2 = some t) : CoI l yX2_isBetween (.code yX2_isBetween cX2_isBetween 3 (some .boolean)) 0 0 0 [.int p0, .int p1, .int p2] w0 w0 (.inl t) := mkI hst (by decide +kernel) (Nat.le_of_ble_eq_true rfl) (fun x _ o hI hX => b_X2_isBetween o p0 p1 p2 t hf (hI _ rfl))
theorem k_X2_isBetween_ {x : Cx} {cc : ByteArray} {nL : Nat} {own : String} {d mc ms k n : Nat} {lv : List (Nat × Value)} {pc i : Nat} {rest : List Value} {wd : va_W} {p0 : Int32} {p1 : Int32} {p2 : Int32} (o : Ok x cc nL own d mc ms) {t : Int32} (ht : f_X2_isBetween p0 p1 p2 = some t) (hlk : Cond.methodLink own i yX2_isBetween ∈ Ug) (hd : 0 < d) (hr : (rest.map fun v => v.category).sum ≤ 8) (hk : k + 0 ≤ mc ∧ n + 0 ≤ ms) (dg : decode cc pc = .ok (.invokestatic i, 3)) (kk : G x nL (k + 0) (n + 0) wd lv (pc + 3) (.int t :: rest)) : G x nL k n wd lv pc (.int p2 :: .int p1 :: .int p0 :: rest) := gcI (wd2 := wd) o (c_X2_isBetween (cxl x) o.2.2.2.2.2.2.2.2.2.1 p0 p1 p2 t ht) (can_S o hd (Nat.le_of_ble_eq_true rfl) m_994 m_56 m_993 hlk yk_X2_isBetween rfl hr hk dg) sp_none (fun E h => by cases h) (fun r h => by cases h; exact kk)
def rt_X2_fails (x : Cx) (a : Nat → Nat) (t : Int32 × St) : Prop := RetI x cX2_fails .int 0 0 (wM a t.2 (cxT x)) t.1
set_option maxRecDepth 20000 in
set_option maxHeartbeats 2000000 in
theorem b_X2_fails {x : Cx} (o : Ok x cX2_fails 2 RX2 0 0 0) (a : Nat → Nat) (u : St) (p0 : Int32) (t : Int32 × St) (hf : f_X2_fails u p0 = some t) (hret : rt_X2_fails x a t) : G x 2 0 0 (wM a u (cxT x)) [(0, .ref (a 0)), (1, .int p0)] 0 [] := by
  unfold f_X2_fails at hf
  refine g_aload_n o 0 rfl rfl dX2_fails_0 ?_
  refine g_iload_n o 1 rfl rfl dX2_fails_1 ?_
  refine M_put0 o m_919 dX2_fails_2 ?_
  refine g_iconst o ic_0 dX2_fails_5 ?_
  cases Option.some.inj hf
  exact g_iret hret (Nat.le_of_ble_eq_true rfl) (Nat.le_of_ble_eq_true rfl) (vp_nar_int _) dX2_fails_6
theorem c_X2_fails (l : Launch) (hst : l.stackTraces = false) (a : Nat → Nat) (u : St) (p0 : Int32) (t : Int32 × St) (hf : f_X2_fails u p0 = some t) : CoI l yX2_fails (.code yX2_fails cX2_fails 2 (some .int)) 0 0 0 [.ref (a 0), .int p0] (wM a u) (wM a t.2) (.inl t.1) := mkI hst (by decide +kernel) (Nat.le_of_ble_eq_true rfl) (fun x _ o hI hX => b_X2_fails o a u p0 t hf (hI _ rfl))
theorem k_X2_fails_ {x : Cx} {cc : ByteArray} {nL : Nat} {own : String} {d mc ms k n : Nat} {lv : List (Nat × Value)} {pc i : Nat} {rest : List Value} {a : Nat → Nat} {u : St} {p0 : Int32} (o : Ok x cc nL own d mc ms) {t : Int32 × St} (ht : f_X2_fails u p0 = some t) (hlk : Cond.methodLink own i yX2_fails ∈ Ug) (hd : 0 < d) (hr : (rest.map fun v => v.category).sum ≤ 8) (hk : k + 0 ≤ mc ∧ n + 0 ≤ ms) (dg : decode cc pc = .ok (.invokevirtual i, 3)) (kk : G x nL (k + 0) (n + 0) (wM a t.2 (cxT x)) lv (pc + 3) (.int t.1 :: rest)) : G x nL k n (wM a u (cxT x)) lv pc (.int p0 :: .ref (a 0) :: rest) := gcI (wd2 := (wM a t.2 (cxT x))) o (c_X2_fails (cxl x) o.2.2.2.2.2.2.2.2.2.1 a u p0 t ht) (can_V (q0 := 0) o rfl rfl hd (Nat.le_of_ble_eq_true rfl) m_998 m_56 m_997 m_33 hlk yk_X2_fails rfl hr hk dg) sp_M (fun E h => by cases h) (fun r h => by cases h; exact kk)
def rt_X2_adds (x : Cx) (a : Nat → Nat) (t : Int32 × St) : Prop := RetI x cX2_adds .int 0 0 (wM a t.2 (cxT x)) t.1
set_option maxRecDepth 20000 in
set_option maxHeartbeats 2000000 in
theorem b_X2_adds {x : Cx} (o : Ok x cX2_adds 3 RX2 0 0 0) (a : Nat → Nat) (u : St) (p0 : Int32) (p1 : Int32) (t : Int32 × St) (hf : f_X2_adds u p0 p1 = some t) (hret : rt_X2_adds x a t) : G x 3 0 0 (wM a u (cxT x)) [(0, .ref (a 0)), (1, .int p0), (2, .int p1)] 0 [] := by
  unfold f_X2_adds at hf
  refine g_aload_n o 0 rfl rfl dX2_adds_0 ?_
  refine g_iconst o ic_0 dX2_adds_1 ?_
  refine M_put0 o m_919 dX2_adds_2 ?_
  refine g_aload_n o 0 rfl rfl dX2_adds_5 ?_
  refine M_get1 o m_920 dX2_adds_6 ?_
  refine g_aload_n o 0 rfl rfl dX2_adds_9 ?_
  refine M_get3 o m_922 dX2_adds_10 ?_
  refine g_iload_n o 1 rfl rfl dX2_adds_13 ?_
  refine M_st1 o dX2_adds_14 hf (fun hf => ?_)
  refine g_aload_n o 0 rfl rfl dX2_adds_15 ?_
  refine M_get2 o m_921 dX2_adds_16 ?_
  refine g_aload_n o 0 rfl rfl dX2_adds_19 ?_
  refine M_get3 o m_922 dX2_adds_20 ?_
  refine g_iload_n o 2 rfl rfl dX2_adds_23 ?_
  refine M_st2 o dX2_adds_24 hf (fun hf => ?_)
  refine g_aload_n o 0 rfl rfl dX2_adds_25 ?_
  refine g_dup o rfl dX2_adds_26 ?_
  refine M_get3 o m_922 dX2_adds_27 ?_
  refine g_iconst o ic_1 dX2_adds_30 ?_
  refine g_iadd o dX2_adds_31 ?_
  refine M_put3 o m_922 dX2_adds_32 ?_
  refine g_aload_n o 0 rfl rfl dX2_adds_35 ?_
  refine M_get3 o m_922 dX2_adds_36 ?_
  refine g_iconst o ic_1 dX2_adds_39 ?_
  refine g_isub o dX2_adds_40 ?_
  cases Option.some.inj hf
  exact g_iret hret (Nat.le_of_ble_eq_true rfl) (Nat.le_of_ble_eq_true rfl) (vp_nar_int _) dX2_adds_41
theorem c_X2_adds (l : Launch) (hst : l.stackTraces = false) (a : Nat → Nat) (u : St) (p0 : Int32) (p1 : Int32) (t : Int32 × St) (hf : f_X2_adds u p0 p1 = some t) : CoI l yX2_adds (.code yX2_adds cX2_adds 3 (some .int)) 0 0 0 [.ref (a 0), .int p0, .int p1] (wM a u) (wM a t.2) (.inl t.1) := mkI hst (by decide +kernel) (Nat.le_of_ble_eq_true rfl) (fun x _ o hI hX => b_X2_adds o a u p0 p1 t hf (hI _ rfl))
theorem k_X2_adds_ {x : Cx} {cc : ByteArray} {nL : Nat} {own : String} {d mc ms k n : Nat} {lv : List (Nat × Value)} {pc i : Nat} {rest : List Value} {a : Nat → Nat} {u : St} {p0 : Int32} {p1 : Int32} (o : Ok x cc nL own d mc ms) {t : Int32 × St} (ht : f_X2_adds u p0 p1 = some t) (hlk : Cond.methodLink own i yX2_adds ∈ Ug) (hd : 0 < d) (hr : (rest.map fun v => v.category).sum ≤ 8) (hk : k + 0 ≤ mc ∧ n + 0 ≤ ms) (dg : decode cc pc = .ok (.invokevirtual i, 3)) (kk : G x nL (k + 0) (n + 0) (wM a t.2 (cxT x)) lv (pc + 3) (.int t.1 :: rest)) : G x nL k n (wM a u (cxT x)) lv pc (.int p1 :: .int p0 :: .ref (a 0) :: rest) := gcI (wd2 := (wM a t.2 (cxT x))) o (c_X2_adds (cxl x) o.2.2.2.2.2.2.2.2.2.1 a u p0 p1 t ht) (can_V (q0 := 0) o rfl rfl hd (Nat.le_of_ble_eq_true rfl) m_1002 m_56 m_1001 m_34 hlk yk_X2_adds rfl hr hk dg) sp_M (fun E h => by cases h) (fun r h => by cases h; exact kk)
def rt_X2_addRelation (x : Cx) (a : Nat → Nat) (t : Int32 × St) : Prop := RetI x cX2_addRelation .int 0 0 (wM a t.2 (cxT x)) t.1
set_option maxRecDepth 20000 in
set_option maxHeartbeats 2000000 in
theorem b_X2_addRelation {x : Cx} (o : Ok x cX2_addRelation 2 RX2 1 0 0) (a : Nat → Nat) (u : St) (p0 : Int32) (t : Int32 × St) (hf : f_X2_addRelation u p0 = some t) (hret : rt_X2_addRelation x a t) : G x 2 0 0 (wM a u (cxT x)) [(0, .ref (a 0)), (1, .int p0)] 0 [] := by
  unfold f_X2_addRelation at hf
  refine g_iload_n o 1 rfl rfl dX2_addRelation_0 ?_
  refine g_iconst o ic_1 dX2_addRelation_1 ?_
  refine g_iconst o ic_4 dX2_addRelation_2 ?_
  obtain ⟨r5, hr5, hf⟩ := bd_some hf
  refine k_X2_isBetween_ o hr5 m_992 (Nat.le_of_ble_eq_true rfl) (Nat.le_of_ble_eq_true rfl) ⟨(Nat.le_of_ble_eq_true rfl), (Nat.le_of_ble_eq_true rfl)⟩ dX2_addRelation_3 ?_
  refine g_if_ne (tgt := 15) o rfl dX2_addRelation_6 hf (fun hc hf => ?_) (fun hc hf => ?_)
  · refine g_aload_n o 0 rfl rfl dX2_addRelation_15 ?_
    refine M_get3 o m_922 dX2_addRelation_16 ?_
    refine g_bipush o bp_8 dX2_addRelation_19 ?_
    refine g_ic_ne (tgt := 30) o rfl dX2_addRelation_21 hf (fun hc hf => ?_) (fun hc hf => ?_)
    · refine g_aload_n o 0 rfl rfl dX2_addRelation_30 ?_
      refine g_iload_n o 1 rfl rfl dX2_addRelation_31 ?_
      refine g_iconst o ic_0 dX2_addRelation_32 ?_
      obtain ⟨r6, hr6, hf⟩ := bd_some hf
      refine k_X2_adds_ o hr6 m_999 (Nat.le_of_ble_eq_true rfl) (Nat.le_of_ble_eq_true rfl) ⟨(Nat.le_of_ble_eq_true rfl), (Nat.le_of_ble_eq_true rfl)⟩ dX2_addRelation_33 ?_
      cases Option.some.inj hf
      exact g_iret hret (Nat.le_of_ble_eq_true rfl) (Nat.le_of_ble_eq_true rfl) (vp_nar_int _) dX2_addRelation_36
    · refine g_aload_n o 0 rfl rfl dX2_addRelation_24 ?_
      refine g_iconst o ic_2 dX2_addRelation_25 ?_
      obtain ⟨r7, hr7, hf⟩ := bd_some hf
      refine k_X2_fails_ o hr7 m_995 (Nat.le_of_ble_eq_true rfl) (Nat.le_of_ble_eq_true rfl) ⟨(Nat.le_of_ble_eq_true rfl), (Nat.le_of_ble_eq_true rfl)⟩ dX2_addRelation_26 ?_
      cases Option.some.inj hf
      exact g_iret hret (Nat.le_of_ble_eq_true rfl) (Nat.le_of_ble_eq_true rfl) (vp_nar_int _) dX2_addRelation_29
  · refine g_aload_n o 0 rfl rfl dX2_addRelation_9 ?_
    refine g_iconst o ic_1 dX2_addRelation_10 ?_
    obtain ⟨r8, hr8, hf⟩ := bd_some hf
    refine k_X2_fails_ o hr8 m_995 (Nat.le_of_ble_eq_true rfl) (Nat.le_of_ble_eq_true rfl) ⟨(Nat.le_of_ble_eq_true rfl), (Nat.le_of_ble_eq_true rfl)⟩ dX2_addRelation_11 ?_
    cases Option.some.inj hf
    exact g_iret hret (Nat.le_of_ble_eq_true rfl) (Nat.le_of_ble_eq_true rfl) (vp_nar_int _) dX2_addRelation_14
theorem c_X2_addRelation (l : Launch) (hst : l.stackTraces = false) (a : Nat → Nat) (u : St) (p0 : Int32) (t : Int32 × St) (hf : f_X2_addRelation u p0 = some t) : CoI l yX2_addRelation (.code yX2_addRelation cX2_addRelation 2 (some .int)) 1 0 0 [.ref (a 0), .int p0] (wM a u) (wM a t.2) (.inl t.1) := mkI hst (by decide +kernel) (Nat.le_of_ble_eq_true rfl) (fun x _ o hI hX => b_X2_addRelation o a u p0 t hf (hI _ rfl))
def rt_X2_thrown (x : Cx) (a : Nat → Nat) (u : St) (t : Int32) : Prop := RetI x cX2_thrown .int 0 0 (wM a u (cxT x)) t
set_option maxRecDepth 20000 in
set_option maxHeartbeats 2000000 in
theorem b_X2_thrown {x : Cx} (o : Ok x cX2_thrown 1 RX2 0 0 0) (a : Nat → Nat) (u : St) (t : Int32) (hf : f_X2_thrown u = some t) (hret : rt_X2_thrown x a u t) : G x 1 0 0 (wM a u (cxT x)) [(0, .ref (a 0))] 0 [] := by
  unfold f_X2_thrown at hf
  refine g_aload_n o 0 rfl rfl dX2_thrown_0 ?_
  refine M_get0 o m_919 dX2_thrown_1 ?_
  cases Option.some.inj hf
  exact g_iret hret (Nat.le_of_ble_eq_true rfl) (Nat.le_of_ble_eq_true rfl) (vp_nar_int _) dX2_thrown_4
theorem c_X2_thrown (l : Launch) (hst : l.stackTraces = false) (a : Nat → Nat) (u : St) (t : Int32) (hf : f_X2_thrown u = some t) : CoI l yX2_thrown (.code yX2_thrown cX2_thrown 1 (some .int)) 0 0 0 [.ref (a 0)] (wM a u) (wM a u) (.inl t) := mkI hst (by decide +kernel) (Nat.le_of_ble_eq_true rfl) (fun x _ o hI hX => b_X2_thrown o a u t hf (hI _ rfl))
def rt_X2_isTuple (x : Cx) (t : Int32) : Prop := RetI x cX2_isTuple .boolean 0 0 (w0 (cxT x)) t
set_option maxRecDepth 20000 in
set_option maxHeartbeats 2000000 in
theorem b_X2_isTuple {x : Cx} (o : Ok x cX2_isTuple 2 RX2 0 0 0) (p0 : Int32) (p1 : Int32) (t : Int32) (hf : f_X2_isTuple p0 p1 = some t) (hret : rt_X2_isTuple x  t) : G x 2 0 0 (w0 (cxT x)) [(0, .int p0), (1, .int p1)] 0 [] := by
  unfold f_X2_isTuple at hf
  refine g_iload_n o 1 rfl rfl dX2_isTuple_0 ?_
  refine g_if_lt (tgt := 15) o rfl dX2_isTuple_1 hf (fun hc hf => ?_) (fun hc hf => ?_)
  · refine g_iconst o ic_0 dX2_isTuple_15 ?_
    cases Option.some.inj hf
    exact g_iret hret (Nat.le_of_ble_eq_true rfl) (Nat.le_of_ble_eq_true rfl) nb_0 dX2_isTuple_16
  · refine g_iload_n o 1 rfl rfl dX2_isTuple_4 ?_
    refine g_iconst o ic_1 dX2_isTuple_5 ?_
    refine g_iload_n o 0 rfl rfl dX2_isTuple_6 ?_
    refine g_ishl o dX2_isTuple_7 ?_
    refine g_ic_ge (tgt := 15) o rfl dX2_isTuple_8 hf (fun hc hf => ?_) (fun hc hf => ?_)
    · refine g_iconst o ic_0 dX2_isTuple_15 ?_
      cases Option.some.inj hf
      exact g_iret hret (Nat.le_of_ble_eq_true rfl) (Nat.le_of_ble_eq_true rfl) nb_0 dX2_isTuple_16
    · refine g_iconst o ic_1 dX2_isTuple_11 ?_
      refine g_goto (tgt := 16) o rfl dX2_isTuple_12 ?_
      cases Option.some.inj hf
      exact g_iret hret (Nat.le_of_ble_eq_true rfl) (Nat.le_of_ble_eq_true rfl) nb_1 dX2_isTuple_16
theorem c_X2_isTuple (l : Launch) (hst : l.stackTraces = false) (p0 : Int32) (p1 : Int32) (t : Int32) (hf : f_X2_isTuple p0 p1 = some t) : CoI l yX2_isTuple (.code yX2_isTuple cX2_isTuple 2 (some .boolean)) 0 0 0 [.int p0, .int p1] w0 w0 (.inl t) := mkI hst (by decide +kernel) (Nat.le_of_ble_eq_true rfl) (fun x _ o hI hX => b_X2_isTuple o p0 p1 t hf (hI _ rfl))
theorem k_X2_isTuple_ {x : Cx} {cc : ByteArray} {nL : Nat} {own : String} {d mc ms k n : Nat} {lv : List (Nat × Value)} {pc i : Nat} {rest : List Value} {wd : va_W} {p0 : Int32} {p1 : Int32} (o : Ok x cc nL own d mc ms) {t : Int32} (ht : f_X2_isTuple p0 p1 = some t) (hlk : Cond.methodLink own i yX2_isTuple ∈ Ug) (hd : 0 < d) (hr : (rest.map fun v => v.category).sum ≤ 8) (hk : k + 0 ≤ mc ∧ n + 0 ≤ ms) (dg : decode cc pc = .ok (.invokestatic i, 3)) (kk : G x nL (k + 0) (n + 0) wd lv (pc + 3) (.int t :: rest)) : G x nL k n wd lv pc (.int p1 :: .int p0 :: rest) := gcI (wd2 := wd) o (c_X2_isTuple (cxl x) o.2.2.2.2.2.2.2.2.2.1 p0 p1 t ht) (can_S o hd (Nat.le_of_ble_eq_true rfl) m_1009 m_56 m_1008 hlk yk_X2_isTuple rfl hr hk dg) sp_none (fun E h => by cases h) (fun r h => by cases h; exact kk)
def rt_X2_allOf (x : Cx) (t : Int32) : Prop := RetI x cX2_allOf .int 0 0 (w0 (cxT x)) t
set_option maxRecDepth 20000 in
set_option maxHeartbeats 2000000 in
theorem b_X2_allOf {x : Cx} (o : Ok x cX2_allOf 1 RX2 0 0 0) (p0 : Int32) (t : Int32) (hf : f_X2_allOf p0 = some t) (hret : rt_X2_allOf x  t) : G x 1 0 0 (w0 (cxT x)) [(0, .int p0)] 0 [] := by
  unfold f_X2_allOf at hf
  refine g_iconst o ic_1 dX2_allOf_0 ?_
  refine g_iconst o ic_1 dX2_allOf_1 ?_
  refine g_iload_n o 0 rfl rfl dX2_allOf_2 ?_
  refine g_ishl o dX2_allOf_3 ?_
  refine g_ishl o dX2_allOf_4 ?_
  refine g_iconst o ic_1 dX2_allOf_5 ?_
  refine g_isub o dX2_allOf_6 ?_
  cases Option.some.inj hf
  exact g_iret hret (Nat.le_of_ble_eq_true rfl) (Nat.le_of_ble_eq_true rfl) (vp_nar_int _) dX2_allOf_7
theorem c_X2_allOf (l : Launch) (hst : l.stackTraces = false) (p0 : Int32) (t : Int32) (hf : f_X2_allOf p0 = some t) : CoI l yX2_allOf (.code yX2_allOf cX2_allOf 1 (some .int)) 0 0 0 [.int p0] w0 w0 (.inl t) := mkI hst (by decide +kernel) (Nat.le_of_ble_eq_true rfl) (fun x _ o hI hX => b_X2_allOf o p0 t hf (hI _ rfl))
theorem k_X2_allOf_ {x : Cx} {cc : ByteArray} {nL : Nat} {own : String} {d mc ms k n : Nat} {lv : List (Nat × Value)} {pc i : Nat} {rest : List Value} {wd : va_W} {p0 : Int32} (o : Ok x cc nL own d mc ms) {t : Int32} (ht : f_X2_allOf p0 = some t) (hlk : Cond.methodLink own i yX2_allOf ∈ Ug) (hd : 0 < d) (hr : (rest.map fun v => v.category).sum ≤ 8) (hk : k + 0 ≤ mc ∧ n + 0 ≤ ms) (dg : decode cc pc = .ok (.invokestatic i, 3)) (kk : G x nL (k + 0) (n + 0) wd lv (pc + 3) (.int t :: rest)) : G x nL k n wd lv pc (.int p0 :: rest) := gcI (wd2 := wd) o (c_X2_allOf (cxl x) o.2.2.2.2.2.2.2.2.2.1 p0 t ht) (can_S o hd (Nat.le_of_ble_eq_true rfl) m_1012 m_56 m_1011 hlk yk_X2_allOf rfl hr hk dg) sp_none (fun E h => by cases h) (fun r h => by cases h; exact kk)
def rt_X2_addClause (x : Cx) (a : Nat → Nat) (t : Int32 × St) : Prop := RetI x cX2_addClause .int 0 0 (wM a t.2 (cxT x)) t.1
set_option maxRecDepth 20000 in
set_option maxHeartbeats 2000000 in
theorem b_X2_addClause {x : Cx} (o : Ok x cX2_addClause 3 RX2 1 0 0) (a : Nat → Nat) (u : St) (p0 : Int32) (p1 : Int32) (t : Int32 × St) (hf : f_X2_addClause u p0 p1 = some t) (hret : rt_X2_addClause x a t) : G x 3 0 0 (wM a u (cxT x)) [(0, .ref (a 0)), (1, .int p0), (2, .int p1)] 0 [] := by
  unfold f_X2_addClause at hf
  refine g_iload_n o 1 rfl rfl dX2_addClause_0 ?_
  refine g_iconst o ic_1 dX2_addClause_1 ?_
  refine g_iconst o ic_4 dX2_addClause_2 ?_
  obtain ⟨r8, hr8, hf⟩ := bd_some hf
  refine k_X2_isBetween_ o hr8 m_992 (Nat.le_of_ble_eq_true rfl) (Nat.le_of_ble_eq_true rfl) ⟨(Nat.le_of_ble_eq_true rfl), (Nat.le_of_ble_eq_true rfl)⟩ dX2_addClause_3 ?_
  refine g_if_eq (tgt := 17) o rfl dX2_addClause_6 hf (fun hc hf => ?_) (fun hc hf => ?_)
  · refine g_aload_n o 0 rfl rfl dX2_addClause_17 ?_
    refine g_iconst o ic_1 dX2_addClause_18 ?_
    obtain ⟨r9, hr9, hf⟩ := bd_some hf
    refine k_X2_fails_ o hr9 m_995 (Nat.le_of_ble_eq_true rfl) (Nat.le_of_ble_eq_true rfl) ⟨(Nat.le_of_ble_eq_true rfl), (Nat.le_of_ble_eq_true rfl)⟩ dX2_addClause_19 ?_
    cases Option.some.inj hf
    exact g_iret hret (Nat.le_of_ble_eq_true rfl) (Nat.le_of_ble_eq_true rfl) (vp_nar_int _) dX2_addClause_22
  · refine g_iload_n o 1 rfl rfl dX2_addClause_9 ?_
    refine g_iload_n o 2 rfl rfl dX2_addClause_10 ?_
    obtain ⟨r10, hr10, hf⟩ := bd_some hf
    refine k_X2_isTuple_ o hr10 m_1007 (Nat.le_of_ble_eq_true rfl) (Nat.le_of_ble_eq_true rfl) ⟨(Nat.le_of_ble_eq_true rfl), (Nat.le_of_ble_eq_true rfl)⟩ dX2_addClause_11 ?_
    refine g_if_ne (tgt := 23) o rfl dX2_addClause_14 hf (fun hc hf => ?_) (fun hc hf => ?_)
    · refine g_aload_n o 0 rfl rfl dX2_addClause_23 ?_
      refine M_get3 o m_922 dX2_addClause_24 ?_
      refine g_bipush o bp_8 dX2_addClause_27 ?_
      refine g_ic_ne (tgt := 38) o rfl dX2_addClause_29 hf (fun hc hf => ?_) (fun hc hf => ?_)
      · refine g_aload_n o 0 rfl rfl dX2_addClause_38 ?_
        refine g_iload_n o 1 rfl rfl dX2_addClause_39 ?_
        refine g_iload_n o 1 rfl rfl dX2_addClause_40 ?_
        obtain ⟨r11, hr11, hf⟩ := bd_some hf
        refine k_X2_allOf_ o hr11 m_1010 (Nat.le_of_ble_eq_true rfl) (Nat.le_of_ble_eq_true rfl) ⟨(Nat.le_of_ble_eq_true rfl), (Nat.le_of_ble_eq_true rfl)⟩ dX2_addClause_41 ?_
        refine g_iconst o ic_1 dX2_addClause_44 ?_
        refine g_iload_n o 2 rfl rfl dX2_addClause_45 ?_
        refine g_ishl o dX2_addClause_46 ?_
        refine g_iconst o ic_m1 dX2_addClause_47 ?_
        refine g_ixor o dX2_addClause_48 ?_
        refine g_iand o dX2_addClause_49 ?_
        obtain ⟨r12, hr12, hf⟩ := bd_some hf
        refine k_X2_adds_ o hr12 m_999 (Nat.le_of_ble_eq_true rfl) (Nat.le_of_ble_eq_true rfl) ⟨(Nat.le_of_ble_eq_true rfl), (Nat.le_of_ble_eq_true rfl)⟩ dX2_addClause_50 ?_
        cases Option.some.inj hf
        exact g_iret hret (Nat.le_of_ble_eq_true rfl) (Nat.le_of_ble_eq_true rfl) (vp_nar_int _) dX2_addClause_53
      · refine g_aload_n o 0 rfl rfl dX2_addClause_32 ?_
        refine g_iconst o ic_2 dX2_addClause_33 ?_
        obtain ⟨r13, hr13, hf⟩ := bd_some hf
        refine k_X2_fails_ o hr13 m_995 (Nat.le_of_ble_eq_true rfl) (Nat.le_of_ble_eq_true rfl) ⟨(Nat.le_of_ble_eq_true rfl), (Nat.le_of_ble_eq_true rfl)⟩ dX2_addClause_34 ?_
        cases Option.some.inj hf
        exact g_iret hret (Nat.le_of_ble_eq_true rfl) (Nat.le_of_ble_eq_true rfl) (vp_nar_int _) dX2_addClause_37
    · refine g_aload_n o 0 rfl rfl dX2_addClause_17 ?_
      refine g_iconst o ic_1 dX2_addClause_18 ?_
      obtain ⟨r14, hr14, hf⟩ := bd_some hf
      refine k_X2_fails_ o hr14 m_995 (Nat.le_of_ble_eq_true rfl) (Nat.le_of_ble_eq_true rfl) ⟨(Nat.le_of_ble_eq_true rfl), (Nat.le_of_ble_eq_true rfl)⟩ dX2_addClause_19 ?_
      cases Option.some.inj hf
      exact g_iret hret (Nat.le_of_ble_eq_true rfl) (Nat.le_of_ble_eq_true rfl) (vp_nar_int _) dX2_addClause_22
theorem c_X2_addClause (l : Launch) (hst : l.stackTraces = false) (a : Nat → Nat) (u : St) (p0 : Int32) (p1 : Int32) (t : Int32 × St) (hf : f_X2_addClause u p0 p1 = some t) : CoI l yX2_addClause (.code yX2_addClause cX2_addClause 3 (some .int)) 1 0 0 [.ref (a 0), .int p0, .int p1] (wM a u) (wM a t.2) (.inl t.1) := mkI hst (by decide +kernel) (Nat.le_of_ble_eq_true rfl) (fun x _ o hI hX => b_X2_addClause o a u p0 p1 t hf (hI _ rfl))
def rt_X2_isBit (x : Cx) (t : Int32) : Prop := RetI x cX2_isBit .boolean 0 0 (w0 (cxT x)) t
set_option maxRecDepth 20000 in
set_option maxHeartbeats 2000000 in
theorem b_X2_isBit {x : Cx} (o : Ok x cX2_isBit 1 RX2 0 0 0) (p0 : Int32) (t : Int32) (hf : f_X2_isBit p0 = some t) (hret : rt_X2_isBit x  t) : G x 1 0 0 (w0 (cxT x)) [(0, .int p0)] 0 [] := by
  unfold f_X2_isBit at hf
  refine g_iload_n o 0 rfl rfl dX2_isBit_0 ?_
  refine g_if_eq (tgt := 9) o rfl dX2_isBit_1 hf (fun hc hf => ?_) (fun hc hf => ?_)
  · refine g_iconst o ic_1 dX2_isBit_9 ?_
    refine g_goto (tgt := 14) o rfl dX2_isBit_10 ?_
    cases Option.some.inj hf
    exact g_iret hret (Nat.le_of_ble_eq_true rfl) (Nat.le_of_ble_eq_true rfl) nb_1 dX2_isBit_14
  · refine g_iload_n o 0 rfl rfl dX2_isBit_4 ?_
    refine g_iconst o ic_1 dX2_isBit_5 ?_
    refine g_ic_ne (tgt := 13) o rfl dX2_isBit_6 hf (fun hc hf => ?_) (fun hc hf => ?_)
    · refine g_iconst o ic_0 dX2_isBit_13 ?_
      cases Option.some.inj hf
      exact g_iret hret (Nat.le_of_ble_eq_true rfl) (Nat.le_of_ble_eq_true rfl) nb_0 dX2_isBit_14
    · refine g_iconst o ic_1 dX2_isBit_9 ?_
      refine g_goto (tgt := 14) o rfl dX2_isBit_10 ?_
      cases Option.some.inj hf
      exact g_iret hret (Nat.le_of_ble_eq_true rfl) (Nat.le_of_ble_eq_true rfl) nb_1 dX2_isBit_14
theorem c_X2_isBit (l : Launch) (hst : l.stackTraces = false) (p0 : Int32) (t : Int32) (hf : f_X2_isBit p0 = some t) : CoI l yX2_isBit (.code yX2_isBit cX2_isBit 1 (some .boolean)) 0 0 0 [.int p0] w0 w0 (.inl t) := mkI hst (by decide +kernel) (Nat.le_of_ble_eq_true rfl) (fun x _ o hI hX => b_X2_isBit o p0 t hf (hI _ rfl))
theorem k_X2_isBit_ {x : Cx} {cc : ByteArray} {nL : Nat} {own : String} {d mc ms k n : Nat} {lv : List (Nat × Value)} {pc i : Nat} {rest : List Value} {wd : va_W} {p0 : Int32} (o : Ok x cc nL own d mc ms) {t : Int32} (ht : f_X2_isBit p0 = some t) (hlk : Cond.methodLink own i yX2_isBit ∈ Ug) (hd : 0 < d) (hr : (rest.map fun v => v.category).sum ≤ 8) (hk : k + 0 ≤ mc ∧ n + 0 ≤ ms) (dg : decode cc pc = .ok (.invokestatic i, 3)) (kk : G x nL (k + 0) (n + 0) wd lv (pc + 3) (.int t :: rest)) : G x nL k n wd lv pc (.int p0 :: rest) := gcI (wd2 := wd) o (c_X2_isBit (cxl x) o.2.2.2.2.2.2.2.2.2.1 p0 t ht) (can_S o hd (Nat.le_of_ble_eq_true rfl) m_1019 m_56 m_1018 hlk yk_X2_isBit rfl hr hk dg) sp_none (fun E h => by cases h) (fun r h => by cases h; exact kk)
def rt_X2_bits (x : Cx) (t : Int32) : Prop := RetI x cX2_bits .int 0 0 (w0 (cxT x)) t
set_option maxRecDepth 20000 in
set_option maxHeartbeats 2000000 in
theorem b_X2_bits_L4 {x : Cx} (o : Ok x cX2_bits 3 RX2 0 0 0) {k n : Nat} (hk : k ≤ 0) (hn : n ≤ 0) (c0 : Int32) (r : (Int32 × Int32) ⊕ (Int32)) (hX : ∀ s : Int32 × Int32, r = .inl s → G x 3 k n (w0 (cxT x)) [(1, .int s.1)] 24 []) (hR : ∀ t, r = .inr t → rt_X2_bits x  t) : ∀ (m : Nat) (s : Int32 × Int32), loopN (f_X2_bits_s4 c0) m s = some r → G x 3 k n (w0 (cxT x)) [(0, .int c0), (1, .int s.1), (2, .int s.2)] 4 [] := by
  refine loop_W _ (fun (s : Int32 × Int32) => G x 3 k n (w0 (cxT x)) [(0, .int c0), (1, .int s.1), (2, .int s.2)] 4 []) r ?_
  intro s ww hf hw
  unfold f_X2_bits_s4 at hf
  obtain ⟨s_0, s_1⟩ := s
  try dsimp -simprocs only at hf ⊢
  refine g_iload_n o 2 rfl rfl dX2_bits_4 ?_
  refine g_bipush o bp_16 dX2_bits_5 ?_
  refine g_ic_ge (tgt := 24) o rfl dX2_bits_7 hf (fun hc hf => ?_) (fun hc hf => ?_)
  · exact g_perm [1] rfl (hX _ (lf_x hf hw))
  · refine g_iload_n o 1 rfl rfl dX2_bits_10 ?_
    refine g_iload_n o 0 rfl rfl dX2_bits_11 ?_
    refine g_iload_n o 2 rfl rfl dX2_bits_12 ?_
    refine g_ishr o dX2_bits_13 ?_
    refine g_iconst o ic_1 dX2_bits_14 ?_
    refine g_iand o dX2_bits_15 ?_
    refine g_iadd o dX2_bits_16 ?_
    refine g_nmi hf (fun x2 hf => ?_)
    refine g_istore_n o [(1, .int x2), (0, .int c0), (2, .int s_1)] (Nat.le_of_ble_eq_true rfl) rfl rfl dX2_bits_17 ?_
    refine g_iinc o [(2, .int (s_1 + 1)), (1, .int x2), (0, .int c0)] 2 rfl (inc_1 _) (Nat.le_of_ble_eq_true rfl) rfl dX2_bits_18 ?_
    refine g_goto (tgt := 4) o rfl dX2_bits_21 ?_
    have hp := lf_c hf hw
    exact g_perm [2, 1, 0] rfl hp
set_option maxRecDepth 20000 in
set_option maxHeartbeats 2000000 in
theorem b_X2_bits {x : Cx} (o : Ok x cX2_bits 3 RX2 0 0 0) (p0 : Int32) (t : Int32) (hf : f_X2_bits p0 = some t) (hret : rt_X2_bits x  t) : G x 3 0 0 (w0 (cxT x)) [(0, .int p0)] 0 [] := by
  unfold f_X2_bits at hf
  refine g_iconst o ic_0 dX2_bits_0 ?_
  refine g_istore_n o [(1, .int 0), (0, .int p0)] (Nat.le_of_ble_eq_true rfl) rfl rfl dX2_bits_1 ?_
  refine g_iconst o ic_0 dX2_bits_2 ?_
  refine g_istore_n o [(2, .int 0), (1, .int 0), (0, .int p0)] (Nat.le_of_ble_eq_true rfl) rfl rfl dX2_bits_3 ?_
  obtain ⟨r6, hr6, hxr6, hrr6⟩ := bl_some hf
  refine g_perm [2, 1, 0] rfl (b_X2_bits_L4 o (Nat.le_of_ble_eq_true rfl) (Nat.le_of_ble_eq_true rfl)  p0 r6 (fun s4 hs => ?_) (fun t5 ht => ?_) FU (0, 0) hr6)
  · have hf := hxr6 s4 hs
    obtain ⟨s4_0, s4_1⟩ := s4
    try dsimp -simprocs only at hf ⊢
    refine g_iload_n o 0 rfl rfl dX2_bits_24 ?_
    cases Option.some.inj hf
    exact g_iret hret (Nat.le_of_ble_eq_true rfl) (Nat.le_of_ble_eq_true rfl) (vp_nar_int _) dX2_bits_25
  · have hf := hrr6 t5 ht
    cases Option.some.inj hf
    exact hret
theorem c_X2_bits (l : Launch) (hst : l.stackTraces = false) (p0 : Int32) (t : Int32) (hf : f_X2_bits p0 = some t) : CoI l yX2_bits (.code yX2_bits cX2_bits 3 (some .int)) 0 0 0 [.int p0] w0 w0 (.inl t) := mkI hst (by decide +kernel) (Nat.le_of_ble_eq_true rfl) (fun x _ o hI hX => b_X2_bits o p0 t hf (hI _ rfl))
theorem k_X2_bits_ {x : Cx} {cc : ByteArray} {nL : Nat} {own : String} {d mc ms k n : Nat} {lv : List (Nat × Value)} {pc i : Nat} {rest : List Value} {wd : va_W} {p0 : Int32} (o : Ok x cc nL own d mc ms) {t : Int32} (ht : f_X2_bits p0 = some t) (hlk : Cond.methodLink own i yX2_bits ∈ Ug) (hd : 0 < d) (hr : (rest.map fun v => v.category).sum ≤ 8) (hk : k + 0 ≤ mc ∧ n + 0 ≤ ms) (dg : decode cc pc = .ok (.invokestatic i, 3)) (kk : G x nL (k + 0) (n + 0) wd lv (pc + 3) (.int t :: rest)) : G x nL k n wd lv pc (.int p0 :: rest) := gcI (wd2 := wd) o (c_X2_bits (cxl x) o.2.2.2.2.2.2.2.2.2.1 p0 t ht) (can_S o hd (Nat.le_of_ble_eq_true rfl) m_1022 m_56 m_1021 hlk yk_X2_bits rfl hr hk dg) sp_none (fun E h => by cases h) (fun r h => by cases h; exact kk)
def rt_X2_addParity (x : Cx) (a : Nat → Nat) (t : Int32 × St) : Prop := RetI x cX2_addParity .int 0 0 (wM a t.2 (cxT x)) t.1
set_option maxRecDepth 20000 in
set_option maxHeartbeats 2000000 in
theorem b_X2_addParity_L42 {x : Cx} (o : Ok x cX2_addParity 5 RX2 1 0 0) {k n : Nat} (hk : k ≤ 0) (hn : n ≤ 0) (a : Nat → Nat) (u : St) (c1 : Int32) (c2 : Int32) (r : (Int32 × Int32) ⊕ (Int32 × St)) (hX : ∀ s : Int32 × Int32, r = .inl s → G x 5 k n (wM a u (cxT x)) [(0, .ref (a 0)), (1, .int c1), (3, .int s.1)] 78 []) (hR : ∀ t, r = .inr t → rt_X2_addParity x a t) : ∀ (m : Nat) (s : Int32 × Int32), loopN (f_X2_addParity_s42 u c1 c2) m s = some r → G x 5 k n (wM a u (cxT x)) [(0, .ref (a 0)), (1, .int c1), (2, .int c2), (3, .int s.1), (4, .int s.2)] 42 [] := by
  refine loop_W _ (fun (s : Int32 × Int32) => G x 5 k n (wM a u (cxT x)) [(0, .ref (a 0)), (1, .int c1), (2, .int c2), (3, .int s.1), (4, .int s.2)] 42 []) r ?_
  intro s ww hf hw
  unfold f_X2_addParity_s42 at hf
  obtain ⟨s_0, s_1⟩ := s
  try dsimp -simprocs only at hf ⊢
  refine g_iload o 4 rfl dX2_addParity_42 ?_
  refine g_iconst o ic_1 dX2_addParity_44 ?_
  refine g_iload_n o 1 rfl rfl dX2_addParity_45 ?_
  refine g_ishl o dX2_addParity_46 ?_
  refine g_ic_ge (tgt := 78) o rfl dX2_addParity_47 hf (fun hc hf => ?_) (fun hc hf => ?_)
  · exact g_perm [0, 1, 3] rfl (hX _ (lf_x hf hw))
  · refine g_iload_n o 3 rfl rfl dX2_addParity_50 ?_
    refine g_iload o 4 rfl dX2_addParity_51 ?_
    obtain ⟨r7, hr7, hf⟩ := bd_some hf
    refine k_X2_bits_ o hr7 m_1020 (Nat.le_of_ble_eq_true rfl) (Nat.le_of_ble_eq_true rfl) ⟨hk, hn⟩ dX2_addParity_53 ?_
    refine g_iconst o ic_2 dX2_addParity_56 ?_
    refine g_irem o (by decide) dX2_addParity_57 ?_
    refine g_iload_n o 2 rfl rfl dX2_addParity_58 ?_
    refine g_ic_ne (tgt := 69) o rfl dX2_addParity_59 hf (fun hc hf => ?_) (fun hc hf => ?_)
    · refine g_iconst o ic_0 dX2_addParity_69 ?_
      refine g_ior o dX2_addParity_70 ?_
      refine g_nmi hf (fun x8 hf => ?_)
      refine g_istore_n o [(3, .int x8), (0, .ref (a 0)), (1, .int c1), (2, .int c2), (4, .int s_1)] (Nat.le_of_ble_eq_true rfl) rfl rfl dX2_addParity_71 ?_
      refine g_iinc o [(4, .int (s_1 + 1)), (3, .int x8), (0, .ref (a 0)), (1, .int c1), (2, .int c2)] 4 rfl (inc_1 _) (Nat.le_of_ble_eq_true rfl) rfl dX2_addParity_72 ?_
      refine g_goto (tgt := 42) o rfl dX2_addParity_75 ?_
      have hp := lf_c hf hw
      exact g_perm [2, 3, 4, 1, 0] rfl hp
    · refine g_iconst o ic_1 dX2_addParity_62 ?_
      refine g_iload o 4 rfl dX2_addParity_63 ?_
      refine g_ishl o dX2_addParity_65 ?_
      refine g_goto (tgt := 70) o rfl dX2_addParity_66 ?_
      refine g_ior o dX2_addParity_70 ?_
      refine g_nmi hf (fun x9 hf => ?_)
      refine g_istore_n o [(3, .int x9), (0, .ref (a 0)), (1, .int c1), (2, .int c2), (4, .int s_1)] (Nat.le_of_ble_eq_true rfl) rfl rfl dX2_addParity_71 ?_
      refine g_iinc o [(4, .int (s_1 + 1)), (3, .int x9), (0, .ref (a 0)), (1, .int c1), (2, .int c2)] 4 rfl (inc_1 _) (Nat.le_of_ble_eq_true rfl) rfl dX2_addParity_72 ?_
      refine g_goto (tgt := 42) o rfl dX2_addParity_75 ?_
      have hp := lf_c hf hw
      exact g_perm [2, 3, 4, 1, 0] rfl hp
set_option maxRecDepth 20000 in
set_option maxHeartbeats 2000000 in
theorem b_X2_addParity {x : Cx} (o : Ok x cX2_addParity 5 RX2 1 0 0) (a : Nat → Nat) (u : St) (p0 : Int32) (p1 : Int32) (t : Int32 × St) (hf : f_X2_addParity u p0 p1 = some t) (hret : rt_X2_addParity x a t) : G x 5 0 0 (wM a u (cxT x)) [(0, .ref (a 0)), (1, .int p0), (2, .int p1)] 0 [] := by
  unfold f_X2_addParity at hf
  refine g_iload_n o 1 rfl rfl dX2_addParity_0 ?_
  refine g_iconst o ic_1 dX2_addParity_1 ?_
  refine g_iconst o ic_4 dX2_addParity_2 ?_
  obtain ⟨r15, hr15, hf⟩ := bd_some hf
  refine k_X2_isBetween_ o hr15 m_992 (Nat.le_of_ble_eq_true rfl) (Nat.le_of_ble_eq_true rfl) ⟨(Nat.le_of_ble_eq_true rfl), (Nat.le_of_ble_eq_true rfl)⟩ dX2_addParity_3 ?_
  refine g_if_eq (tgt := 16) o rfl dX2_addParity_6 hf (fun hc hf => ?_) (fun hc hf => ?_)
  · refine g_aload_n o 0 rfl rfl dX2_addParity_16 ?_
    refine g_iconst o ic_1 dX2_addParity_17 ?_
    obtain ⟨r16, hr16, hf⟩ := bd_some hf
    refine k_X2_fails_ o hr16 m_995 (Nat.le_of_ble_eq_true rfl) (Nat.le_of_ble_eq_true rfl) ⟨(Nat.le_of_ble_eq_true rfl), (Nat.le_of_ble_eq_true rfl)⟩ dX2_addParity_18 ?_
    cases Option.some.inj hf
    exact g_iret hret (Nat.le_of_ble_eq_true rfl) (Nat.le_of_ble_eq_true rfl) (vp_nar_int _) dX2_addParity_21
  · refine g_iload_n o 2 rfl rfl dX2_addParity_9 ?_
    obtain ⟨r17, hr17, hf⟩ := bd_some hf
    refine k_X2_isBit_ o hr17 m_1017 (Nat.le_of_ble_eq_true rfl) (Nat.le_of_ble_eq_true rfl) ⟨(Nat.le_of_ble_eq_true rfl), (Nat.le_of_ble_eq_true rfl)⟩ dX2_addParity_10 ?_
    refine g_if_ne (tgt := 22) o rfl dX2_addParity_13 hf (fun hc hf => ?_) (fun hc hf => ?_)
    · refine g_aload_n o 0 rfl rfl dX2_addParity_22 ?_
      refine M_get3 o m_922 dX2_addParity_23 ?_
      refine g_bipush o bp_8 dX2_addParity_26 ?_
      refine g_ic_ne (tgt := 37) o rfl dX2_addParity_28 hf (fun hc hf => ?_) (fun hc hf => ?_)
      · refine g_iconst o ic_0 dX2_addParity_37 ?_
        refine g_istore_n o [(3, .int 0), (0, .ref (a 0)), (1, .int p0), (2, .int p1)] (Nat.le_of_ble_eq_true rfl) rfl rfl dX2_addParity_38 ?_
        refine g_iconst o ic_0 dX2_addParity_39 ?_
        refine g_istore o [(4, .int 0), (3, .int 0), (0, .ref (a 0)), (1, .int p0), (2, .int p1)] (Nat.le_of_ble_eq_true rfl) rfl dX2_addParity_40 ?_
        obtain ⟨r19, hr19, hxr19, hrr19⟩ := bl_some hf
        refine g_perm [2, 3, 4, 1, 0] rfl (b_X2_addParity_L42 o (Nat.le_of_ble_eq_true rfl) (Nat.le_of_ble_eq_true rfl) a u p0 p1 r19 (fun s42 hs => ?_) (fun t18 ht => ?_) FU (0, 0) hr19)
        · have hf := hxr19 s42 hs
          obtain ⟨s42_0, s42_1⟩ := s42
          try dsimp -simprocs only at hf ⊢
          refine g_aload_n o 0 rfl rfl dX2_addParity_78 ?_
          refine g_iload_n o 1 rfl rfl dX2_addParity_79 ?_
          refine g_iload_n o 2 rfl rfl dX2_addParity_80 ?_
          obtain ⟨r20, hr20, hf⟩ := bd_some hf
          refine k_X2_adds_ o hr20 m_999 (Nat.le_of_ble_eq_true rfl) (Nat.le_of_ble_eq_true rfl) ⟨(Nat.le_of_ble_eq_true rfl), (Nat.le_of_ble_eq_true rfl)⟩ dX2_addParity_81 ?_
          cases Option.some.inj hf
          exact g_iret hret (Nat.le_of_ble_eq_true rfl) (Nat.le_of_ble_eq_true rfl) (vp_nar_int _) dX2_addParity_84
        · have hf := hrr19 t18 ht
          cases Option.some.inj hf
          exact hret
      · refine g_aload_n o 0 rfl rfl dX2_addParity_31 ?_
        refine g_iconst o ic_2 dX2_addParity_32 ?_
        obtain ⟨r21, hr21, hf⟩ := bd_some hf
        refine k_X2_fails_ o hr21 m_995 (Nat.le_of_ble_eq_true rfl) (Nat.le_of_ble_eq_true rfl) ⟨(Nat.le_of_ble_eq_true rfl), (Nat.le_of_ble_eq_true rfl)⟩ dX2_addParity_33 ?_
        cases Option.some.inj hf
        exact g_iret hret (Nat.le_of_ble_eq_true rfl) (Nat.le_of_ble_eq_true rfl) (vp_nar_int _) dX2_addParity_36
    · refine g_aload_n o 0 rfl rfl dX2_addParity_16 ?_
      refine g_iconst o ic_1 dX2_addParity_17 ?_
      obtain ⟨r22, hr22, hf⟩ := bd_some hf
      refine k_X2_fails_ o hr22 m_995 (Nat.le_of_ble_eq_true rfl) (Nat.le_of_ble_eq_true rfl) ⟨(Nat.le_of_ble_eq_true rfl), (Nat.le_of_ble_eq_true rfl)⟩ dX2_addParity_18 ?_
      cases Option.some.inj hf
      exact g_iret hret (Nat.le_of_ble_eq_true rfl) (Nat.le_of_ble_eq_true rfl) (vp_nar_int _) dX2_addParity_21
theorem c_X2_addParity (l : Launch) (hst : l.stackTraces = false) (a : Nat → Nat) (u : St) (p0 : Int32) (p1 : Int32) (t : Int32 × St) (hf : f_X2_addParity u p0 p1 = some t) : CoI l yX2_addParity (.code yX2_addParity cX2_addParity 5 (some .int)) 1 0 0 [.ref (a 0), .int p0, .int p1] (wM a u) (wM a t.2) (.inl t.1) := mkI hst (by decide +kernel) (Nat.le_of_ble_eq_true rfl) (fun x _ o hI hX => b_X2_addParity o a u p0 p1 t hf (hI _ rfl))
def rt_X2_isRelation (x : Cx) (a : Nat → Nat) (u : St) (t : Int32) : Prop := RetI x cX2_isRelation .boolean 0 0 (wM a u (cxT x)) t
set_option maxRecDepth 20000 in
set_option maxHeartbeats 2000000 in
theorem b_X2_isRelation {x : Cx} (o : Ok x cX2_isRelation 2 RX2 0 0 0) (a : Nat → Nat) (u : St) (p0 : Int32) (t : Int32) (hf : f_X2_isRelation u p0 = some t) (hret : rt_X2_isRelation x a u t) : G x 2 0 0 (wM a u (cxT x)) [(0, .ref (a 0)), (1, .int p0)] 0 [] := by
  unfold f_X2_isRelation at hf
  refine g_iload_n o 1 rfl rfl dX2_isRelation_0 ?_
  refine g_if_lt (tgt := 16) o rfl dX2_isRelation_1 hf (fun hc hf => ?_) (fun hc hf => ?_)
  · refine g_iconst o ic_0 dX2_isRelation_16 ?_
    cases Option.some.inj hf
    exact g_iret hret (Nat.le_of_ble_eq_true rfl) (Nat.le_of_ble_eq_true rfl) nb_0 dX2_isRelation_17
  · refine g_iload_n o 1 rfl rfl dX2_isRelation_4 ?_
    refine g_aload_n o 0 rfl rfl dX2_isRelation_5 ?_
    refine M_get3 o m_922 dX2_isRelation_6 ?_
    refine g_ic_ge (tgt := 16) o rfl dX2_isRelation_9 hf (fun hc hf => ?_) (fun hc hf => ?_)
    · refine g_iconst o ic_0 dX2_isRelation_16 ?_
      cases Option.some.inj hf
      exact g_iret hret (Nat.le_of_ble_eq_true rfl) (Nat.le_of_ble_eq_true rfl) nb_0 dX2_isRelation_17
    · refine g_iconst o ic_1 dX2_isRelation_12 ?_
      refine g_goto (tgt := 17) o rfl dX2_isRelation_13 ?_
      cases Option.some.inj hf
      exact g_iret hret (Nat.le_of_ble_eq_true rfl) (Nat.le_of_ble_eq_true rfl) nb_1 dX2_isRelation_17
theorem c_X2_isRelation (l : Launch) (hst : l.stackTraces = false) (a : Nat → Nat) (u : St) (p0 : Int32) (t : Int32) (hf : f_X2_isRelation u p0 = some t) : CoI l yX2_isRelation (.code yX2_isRelation cX2_isRelation 2 (some .boolean)) 0 0 0 [.ref (a 0), .int p0] (wM a u) (wM a u) (.inl t) := mkI hst (by decide +kernel) (Nat.le_of_ble_eq_true rfl) (fun x _ o hI hX => b_X2_isRelation o a u p0 t hf (hI _ rfl))
theorem k_X2_isRelation_ {x : Cx} {cc : ByteArray} {nL : Nat} {own : String} {d mc ms k n : Nat} {lv : List (Nat × Value)} {pc i : Nat} {rest : List Value} {a : Nat → Nat} {u : St} {p0 : Int32} (o : Ok x cc nL own d mc ms) {t : Int32} (ht : f_X2_isRelation u p0 = some t) (hlk : Cond.methodLink own i yX2_isRelation ∈ Ug) (hd : 0 < d) (hr : (rest.map fun v => v.category).sum ≤ 8) (hk : k + 0 ≤ mc ∧ n + 0 ≤ ms) (dg : decode cc pc = .ok (.invokevirtual i, 3)) (kk : G x nL (k + 0) (n + 0) (wM a u (cxT x)) lv (pc + 3) (.int t :: rest)) : G x nL k n (wM a u (cxT x)) lv pc (.int p0 :: .ref (a 0) :: rest) := gcI (wd2 := (wM a u (cxT x))) o (c_X2_isRelation (cxl x) o.2.2.2.2.2.2.2.2.2.1 a u p0 t ht) (can_V (q0 := 0) o rfl rfl hd (Nat.le_of_ble_eq_true rfl) m_1034 m_56 m_1033 m_36 hlk yk_X2_isRelation rfl hr hk dg) sp_M (fun E h => by cases h) (fun r h => by cases h; exact kk)
def rt_X2_noTuple (x : Cx) (a : Nat → Nat) (u : St) (t : Int32) : Prop := RetI x cX2_noTuple .int 0 0 (wM a u (cxT x)) t
set_option maxRecDepth 20000 in
set_option maxHeartbeats 2000000 in
theorem b_X2_noTuple {x : Cx} (o : Ok x cX2_noTuple 3 RX2 1 0 0) (a : Nat → Nat) (u : St) (p0 : Int32) (p1 : Int32) (t : Int32) (hf : f_X2_noTuple u p0 p1 = some t) (hret : rt_X2_noTuple x a u t) : G x 3 0 0 (wM a u (cxT x)) [(0, .ref (a 0)), (1, .int p0), (2, .int p1)] 0 [] := by
  unfold f_X2_noTuple at hf
  refine g_aload_n o 0 rfl rfl dX2_noTuple_0 ?_
  refine g_iload_n o 1 rfl rfl dX2_noTuple_1 ?_
  obtain ⟨r3, hr3, hf⟩ := bd_some hf
  refine k_X2_isRelation_ o hr3 m_1031 (Nat.le_of_ble_eq_true rfl) (Nat.le_of_ble_eq_true rfl) ⟨(Nat.le_of_ble_eq_true rfl), (Nat.le_of_ble_eq_true rfl)⟩ dX2_noTuple_2 ?_
  refine g_if_ne (tgt := 12) o rfl dX2_noTuple_5 hf (fun hc hf => ?_) (fun hc hf => ?_)
  · refine g_aload_n o 0 rfl rfl dX2_noTuple_12 ?_
    refine M_get1 o m_920 dX2_noTuple_13 ?_
    refine g_iload_n o 1 rfl rfl dX2_noTuple_16 ?_
    refine M_ld1 o dX2_noTuple_17 hf (fun hf => ?_)
    refine g_iload_n o 2 rfl rfl dX2_noTuple_18 ?_
    obtain ⟨r4, hr4, hf⟩ := bd_some hf
    refine k_X2_isTuple_ o hr4 m_1007 (Nat.le_of_ble_eq_true rfl) (Nat.le_of_ble_eq_true rfl) ⟨(Nat.le_of_ble_eq_true rfl), (Nat.le_of_ble_eq_true rfl)⟩ dX2_noTuple_19 ?_
    refine g_if_ne (tgt := 29) o rfl dX2_noTuple_22 hf (fun hc hf => ?_) (fun hc hf => ?_)
    · refine g_iconst o ic_0 dX2_noTuple_29 ?_
      cases Option.some.inj hf
      exact g_iret hret (Nat.le_of_ble_eq_true rfl) (Nat.le_of_ble_eq_true rfl) (vp_nar_int _) dX2_noTuple_30
    · refine g_iconst o ic_2 dX2_noTuple_25 ?_
      refine g_goto (tgt := 30) o rfl dX2_noTuple_26 ?_
      cases Option.some.inj hf
      exact g_iret hret (Nat.le_of_ble_eq_true rfl) (Nat.le_of_ble_eq_true rfl) (vp_nar_int _) dX2_noTuple_30
  · refine g_iconst o ic_1 dX2_noTuple_8 ?_
    refine g_goto (tgt := 30) o rfl dX2_noTuple_9 ?_
    cases Option.some.inj hf
    exact g_iret hret (Nat.le_of_ble_eq_true rfl) (Nat.le_of_ble_eq_true rfl) (vp_nar_int _) dX2_noTuple_30
theorem c_X2_noTuple (l : Launch) (hst : l.stackTraces = false) (a : Nat → Nat) (u : St) (p0 : Int32) (p1 : Int32) (t : Int32) (hf : f_X2_noTuple u p0 p1 = some t) : CoI l yX2_noTuple (.code yX2_noTuple cX2_noTuple 3 (some .int)) 1 0 0 [.ref (a 0), .int p0, .int p1] (wM a u) (wM a u) (.inl t) := mkI hst (by decide +kernel) (Nat.le_of_ble_eq_true rfl) (fun x _ o hI hX => b_X2_noTuple o a u p0 p1 t hf (hI _ rfl))
theorem k_X2_noTuple_ {x : Cx} {cc : ByteArray} {nL : Nat} {own : String} {d mc ms k n : Nat} {lv : List (Nat × Value)} {pc i : Nat} {rest : List Value} {a : Nat → Nat} {u : St} {p0 : Int32} {p1 : Int32} (o : Ok x cc nL own d mc ms) {t : Int32} (ht : f_X2_noTuple u p0 p1 = some t) (hlk : Cond.methodLink own i yX2_noTuple ∈ Ug) (hd : 1 < d) (hr : (rest.map fun v => v.category).sum ≤ 8) (hk : k + 0 ≤ mc ∧ n + 0 ≤ ms) (dg : decode cc pc = .ok (.invokevirtual i, 3)) (kk : G x nL (k + 0) (n + 0) (wM a u (cxT x)) lv (pc + 3) (.int t :: rest)) : G x nL k n (wM a u (cxT x)) lv pc (.int p1 :: .int p0 :: .ref (a 0) :: rest) := gcI (wd2 := (wM a u (cxT x))) o (c_X2_noTuple (cxl x) o.2.2.2.2.2.2.2.2.2.1 a u p0 p1 t ht) (can_V (q0 := 0) o rfl rfl hd (Nat.le_of_ble_eq_true rfl) m_1030 m_56 m_1029 m_35 hlk yk_X2_noTuple rfl hr hk dg) sp_M (fun E h => by cases h) (fun r h => by cases h; exact kk)
def rt_X2_addTuple (x : Cx) (a : Nat → Nat) (t : Int32 × St) : Prop := RetI x cX2_addTuple .boolean 0 0 (wM a t.2 (cxT x)) t.1
set_option maxRecDepth 20000 in
set_option maxHeartbeats 2000000 in
theorem b_X2_addTuple {x : Cx} (o : Ok x cX2_addTuple 4 RX2 2 0 0) (a : Nat → Nat) (u : St) (p0 : Int32) (p1 : Int32) (t : Int32 × St) (hf : f_X2_addTuple u p0 p1 = some t) (hret : rt_X2_addTuple x a t) : G x 4 0 0 (wM a u (cxT x)) [(0, .ref (a 0)), (1, .int p0), (2, .int p1)] 0 [] := by
  unfold f_X2_addTuple at hf
  refine g_aload_n o 0 rfl rfl dX2_addTuple_0 ?_
  refine g_aload_n o 0 rfl rfl dX2_addTuple_1 ?_
  refine g_iload_n o 1 rfl rfl dX2_addTuple_2 ?_
  refine g_iload_n o 2 rfl rfl dX2_addTuple_3 ?_
  obtain ⟨r2, hr2, hf⟩ := bd_some hf
  refine k_X2_noTuple_ o hr2 m_1027 (Nat.le_of_ble_eq_true rfl) (Nat.le_of_ble_eq_true rfl) ⟨(Nat.le_of_ble_eq_true rfl), (Nat.le_of_ble_eq_true rfl)⟩ dX2_addTuple_4 ?_
  refine M_put0 o m_919 dX2_addTuple_7 ?_
  refine g_aload_n o 0 rfl rfl dX2_addTuple_10 ?_
  refine M_get0 o m_919 dX2_addTuple_11 ?_
  refine g_if_le (tgt := 19) o rfl dX2_addTuple_14 hf (fun hc hf => ?_) (fun hc hf => ?_)
  · refine g_aload_n o 0 rfl rfl dX2_addTuple_19 ?_
    refine M_get2 o m_921 dX2_addTuple_20 ?_
    refine g_iload_n o 1 rfl rfl dX2_addTuple_23 ?_
    refine M_ld2 o dX2_addTuple_24 hf (fun hf => ?_)
    refine g_iload_n o 2 rfl rfl dX2_addTuple_25 ?_
    refine g_ishr o dX2_addTuple_26 ?_
    refine g_iconst o ic_1 dX2_addTuple_27 ?_
    refine g_iand o dX2_addTuple_28 ?_
    refine g_if_ne (tgt := 36) o rfl dX2_addTuple_29 hf (fun hc hf => ?_) (fun hc hf => ?_)
    · refine g_iconst o ic_0 dX2_addTuple_36 ?_
      refine g_istore_n o [(3, .int 0), (0, .ref (a 0)), (1, .int p0), (2, .int p1)] (Nat.le_of_ble_eq_true rfl) rfl rfl dX2_addTuple_37 ?_
      refine g_aload_n o 1 rfl rfl dX2_addTuple_38 ?_
      refine M_get2 o m_921 dX2_addTuple_39 ?_
      refine g_iload_n o 2 rfl rfl dX2_addTuple_42 ?_
      refine g_dup2 o rfl rfl dX2_addTuple_43 ?_
      refine M_ld2 o dX2_addTuple_44 hf (fun hf => ?_)
      refine g_iconst o ic_1 dX2_addTuple_45 ?_
      refine g_iload_n o 3 rfl rfl dX2_addTuple_46 ?_
      refine g_ishl o dX2_addTuple_47 ?_
      refine g_ior o dX2_addTuple_48 ?_
      refine M_st2 o dX2_addTuple_49 hf (fun hf => ?_)
      refine g_iload_n o 0 rfl rfl dX2_addTuple_50 ?_
      cases Option.some.inj hf
      exact g_iret hret (Nat.le_of_ble_eq_true rfl) (Nat.le_of_ble_eq_true rfl) nb_0 dX2_addTuple_51
    · refine g_iconst o ic_1 dX2_addTuple_32 ?_
      refine g_goto (tgt := 37) o rfl dX2_addTuple_33 ?_
      refine g_istore_n o [(3, .int 1), (0, .ref (a 0)), (1, .int p0), (2, .int p1)] (Nat.le_of_ble_eq_true rfl) rfl rfl dX2_addTuple_37 ?_
      refine g_aload_n o 1 rfl rfl dX2_addTuple_38 ?_
      refine M_get2 o m_921 dX2_addTuple_39 ?_
      refine g_iload_n o 2 rfl rfl dX2_addTuple_42 ?_
      refine g_dup2 o rfl rfl dX2_addTuple_43 ?_
      refine M_ld2 o dX2_addTuple_44 hf (fun hf => ?_)
      refine g_iconst o ic_1 dX2_addTuple_45 ?_
      refine g_iload_n o 3 rfl rfl dX2_addTuple_46 ?_
      refine g_ishl o dX2_addTuple_47 ?_
      refine g_ior o dX2_addTuple_48 ?_
      refine M_st2 o dX2_addTuple_49 hf (fun hf => ?_)
      refine g_iload_n o 0 rfl rfl dX2_addTuple_50 ?_
      cases Option.some.inj hf
      exact g_iret hret (Nat.le_of_ble_eq_true rfl) (Nat.le_of_ble_eq_true rfl) nb_1 dX2_addTuple_51
  · refine g_iconst o ic_0 dX2_addTuple_17 ?_
    cases Option.some.inj hf
    exact g_iret hret (Nat.le_of_ble_eq_true rfl) (Nat.le_of_ble_eq_true rfl) nb_0 dX2_addTuple_18
theorem c_X2_addTuple (l : Launch) (hst : l.stackTraces = false) (a : Nat → Nat) (u : St) (p0 : Int32) (p1 : Int32) (t : Int32 × St) (hf : f_X2_addTuple u p0 p1 = some t) : CoI l yX2_addTuple (.code yX2_addTuple cX2_addTuple 4 (some .boolean)) 2 0 0 [.ref (a 0), .int p0, .int p1] (wM a u) (wM a t.2) (.inl t.1) := mkI hst (by decide +kernel) (Nat.le_of_ble_eq_true rfl) (fun x _ o hI hX => b_X2_addTuple o a u p0 p1 t hf (hI _ rfl))
def rt_X2_removeTuple (x : Cx) (a : Nat → Nat) (t : Int32 × St) : Prop := RetI x cX2_removeTuple .boolean 0 0 (wM a t.2 (cxT x)) t.1
set_option maxRecDepth 20000 in
set_option maxHeartbeats 2000000 in
theorem b_X2_removeTuple {x : Cx} (o : Ok x cX2_removeTuple 4 RX2 2 0 0) (a : Nat → Nat) (u : St) (p0 : Int32) (p1 : Int32) (t : Int32 × St) (hf : f_X2_removeTuple u p0 p1 = some t) (hret : rt_X2_removeTuple x a t) : G x 4 0 0 (wM a u (cxT x)) [(0, .ref (a 0)), (1, .int p0), (2, .int p1)] 0 [] := by
  unfold f_X2_removeTuple at hf
  refine g_aload_n o 0 rfl rfl dX2_removeTuple_0 ?_
  refine g_aload_n o 0 rfl rfl dX2_removeTuple_1 ?_
  refine g_iload_n o 1 rfl rfl dX2_removeTuple_2 ?_
  refine g_iload_n o 2 rfl rfl dX2_removeTuple_3 ?_
  obtain ⟨r2, hr2, hf⟩ := bd_some hf
  refine k_X2_noTuple_ o hr2 m_1027 (Nat.le_of_ble_eq_true rfl) (Nat.le_of_ble_eq_true rfl) ⟨(Nat.le_of_ble_eq_true rfl), (Nat.le_of_ble_eq_true rfl)⟩ dX2_removeTuple_4 ?_
  refine M_put0 o m_919 dX2_removeTuple_7 ?_
  refine g_aload_n o 0 rfl rfl dX2_removeTuple_10 ?_
  refine M_get0 o m_919 dX2_removeTuple_11 ?_
  refine g_if_le (tgt := 19) o rfl dX2_removeTuple_14 hf (fun hc hf => ?_) (fun hc hf => ?_)
  · refine g_aload_n o 0 rfl rfl dX2_removeTuple_19 ?_
    refine M_get2 o m_921 dX2_removeTuple_20 ?_
    refine g_iload_n o 1 rfl rfl dX2_removeTuple_23 ?_
    refine M_ld2 o dX2_removeTuple_24 hf (fun hf => ?_)
    refine g_iload_n o 2 rfl rfl dX2_removeTuple_25 ?_
    refine g_ishr o dX2_removeTuple_26 ?_
    refine g_iconst o ic_1 dX2_removeTuple_27 ?_
    refine g_iand o dX2_removeTuple_28 ?_
    refine g_iconst o ic_1 dX2_removeTuple_29 ?_
    refine g_ic_ne (tgt := 37) o rfl dX2_removeTuple_30 hf (fun hc hf => ?_) (fun hc hf => ?_)
    · refine g_iconst o ic_0 dX2_removeTuple_37 ?_
      refine g_istore_n o [(3, .int 0), (0, .ref (a 0)), (1, .int p0), (2, .int p1)] (Nat.le_of_ble_eq_true rfl) rfl rfl dX2_removeTuple_38 ?_
      refine g_aload_n o 1 rfl rfl dX2_removeTuple_39 ?_
      refine M_get2 o m_921 dX2_removeTuple_40 ?_
      refine g_iload_n o 2 rfl rfl dX2_removeTuple_43 ?_
      refine g_dup2 o rfl rfl dX2_removeTuple_44 ?_
      refine M_ld2 o dX2_removeTuple_45 hf (fun hf => ?_)
      refine g_iconst o ic_1 dX2_removeTuple_46 ?_
      refine g_iload_n o 3 rfl rfl dX2_removeTuple_47 ?_
      refine g_ishl o dX2_removeTuple_48 ?_
      refine g_iconst o ic_m1 dX2_removeTuple_49 ?_
      refine g_ixor o dX2_removeTuple_50 ?_
      refine g_iand o dX2_removeTuple_51 ?_
      refine M_st2 o dX2_removeTuple_52 hf (fun hf => ?_)
      refine g_iload_n o 0 rfl rfl dX2_removeTuple_53 ?_
      cases Option.some.inj hf
      exact g_iret hret (Nat.le_of_ble_eq_true rfl) (Nat.le_of_ble_eq_true rfl) nb_0 dX2_removeTuple_54
    · refine g_iconst o ic_1 dX2_removeTuple_33 ?_
      refine g_goto (tgt := 38) o rfl dX2_removeTuple_34 ?_
      refine g_istore_n o [(3, .int 1), (0, .ref (a 0)), (1, .int p0), (2, .int p1)] (Nat.le_of_ble_eq_true rfl) rfl rfl dX2_removeTuple_38 ?_
      refine g_aload_n o 1 rfl rfl dX2_removeTuple_39 ?_
      refine M_get2 o m_921 dX2_removeTuple_40 ?_
      refine g_iload_n o 2 rfl rfl dX2_removeTuple_43 ?_
      refine g_dup2 o rfl rfl dX2_removeTuple_44 ?_
      refine M_ld2 o dX2_removeTuple_45 hf (fun hf => ?_)
      refine g_iconst o ic_1 dX2_removeTuple_46 ?_
      refine g_iload_n o 3 rfl rfl dX2_removeTuple_47 ?_
      refine g_ishl o dX2_removeTuple_48 ?_
      refine g_iconst o ic_m1 dX2_removeTuple_49 ?_
      refine g_ixor o dX2_removeTuple_50 ?_
      refine g_iand o dX2_removeTuple_51 ?_
      refine M_st2 o dX2_removeTuple_52 hf (fun hf => ?_)
      refine g_iload_n o 0 rfl rfl dX2_removeTuple_53 ?_
      cases Option.some.inj hf
      exact g_iret hret (Nat.le_of_ble_eq_true rfl) (Nat.le_of_ble_eq_true rfl) nb_1 dX2_removeTuple_54
  · refine g_iconst o ic_0 dX2_removeTuple_17 ?_
    cases Option.some.inj hf
    exact g_iret hret (Nat.le_of_ble_eq_true rfl) (Nat.le_of_ble_eq_true rfl) nb_0 dX2_removeTuple_18
theorem c_X2_removeTuple (l : Launch) (hst : l.stackTraces = false) (a : Nat → Nat) (u : St) (p0 : Int32) (p1 : Int32) (t : Int32 × St) (hf : f_X2_removeTuple u p0 p1 = some t) : CoI l yX2_removeTuple (.code yX2_removeTuple cX2_removeTuple 4 (some .boolean)) 2 0 0 [.ref (a 0), .int p0, .int p1] (wM a u) (wM a t.2) (.inl t.1) := mkI hst (by decide +kernel) (Nat.le_of_ble_eq_true rfl) (fun x _ o hI hX => b_X2_removeTuple o a u p0 p1 t hf (hI _ rfl))
def rt_X2_contains (x : Cx) (a : Nat → Nat) (t : Int32 × St) : Prop := RetI x cX2_contains .boolean 0 0 (wM a t.2 (cxT x)) t.1
set_option maxRecDepth 20000 in
set_option maxHeartbeats 2000000 in
theorem b_X2_contains {x : Cx} (o : Ok x cX2_contains 3 RX2 2 0 0) (a : Nat → Nat) (u : St) (p0 : Int32) (p1 : Int32) (t : Int32 × St) (hf : f_X2_contains u p0 p1 = some t) (hret : rt_X2_contains x a t) : G x 3 0 0 (wM a u (cxT x)) [(0, .ref (a 0)), (1, .int p0), (2, .int p1)] 0 [] := by
  unfold f_X2_contains at hf
  refine g_aload_n o 0 rfl rfl dX2_contains_0 ?_
  refine g_aload_n o 0 rfl rfl dX2_contains_1 ?_
  refine g_iload_n o 1 rfl rfl dX2_contains_2 ?_
  refine g_iload_n o 2 rfl rfl dX2_contains_3 ?_
  obtain ⟨r2, hr2, hf⟩ := bd_some hf
  refine k_X2_noTuple_ o hr2 m_1027 (Nat.le_of_ble_eq_true rfl) (Nat.le_of_ble_eq_true rfl) ⟨(Nat.le_of_ble_eq_true rfl), (Nat.le_of_ble_eq_true rfl)⟩ dX2_contains_4 ?_
  refine M_put0 o m_919 dX2_contains_7 ?_
  refine g_aload_n o 0 rfl rfl dX2_contains_10 ?_
  refine M_get0 o m_919 dX2_contains_11 ?_
  refine g_if_ne (tgt := 35) o rfl dX2_contains_14 hf (fun hc hf => ?_) (fun hc hf => ?_)
  · refine g_iconst o ic_0 dX2_contains_35 ?_
    cases Option.some.inj hf
    exact g_iret hret (Nat.le_of_ble_eq_true rfl) (Nat.le_of_ble_eq_true rfl) nb_0 dX2_contains_36
  · refine g_aload_n o 0 rfl rfl dX2_contains_17 ?_
    refine M_get2 o m_921 dX2_contains_18 ?_
    refine g_iload_n o 1 rfl rfl dX2_contains_21 ?_
    refine M_ld2 o dX2_contains_22 hf (fun hf => ?_)
    refine g_iload_n o 2 rfl rfl dX2_contains_23 ?_
    refine g_ishr o dX2_contains_24 ?_
    refine g_iconst o ic_1 dX2_contains_25 ?_
    refine g_iand o dX2_contains_26 ?_
    refine g_iconst o ic_1 dX2_contains_27 ?_
    refine g_ic_ne (tgt := 35) o rfl dX2_contains_28 hf (fun hc hf => ?_) (fun hc hf => ?_)
    · refine g_iconst o ic_0 dX2_contains_35 ?_
      cases Option.some.inj hf
      exact g_iret hret (Nat.le_of_ble_eq_true rfl) (Nat.le_of_ble_eq_true rfl) nb_0 dX2_contains_36
    · refine g_iconst o ic_1 dX2_contains_31 ?_
      refine g_goto (tgt := 36) o rfl dX2_contains_32 ?_
      cases Option.some.inj hf
      exact g_iret hret (Nat.le_of_ble_eq_true rfl) (Nat.le_of_ble_eq_true rfl) nb_1 dX2_contains_36
theorem c_X2_contains (l : Launch) (hst : l.stackTraces = false) (a : Nat → Nat) (u : St) (p0 : Int32) (p1 : Int32) (t : Int32 × St) (hf : f_X2_contains u p0 p1 = some t) : CoI l yX2_contains (.code yX2_contains cX2_contains 3 (some .boolean)) 2 0 0 [.ref (a 0), .int p0, .int p1] (wM a u) (wM a t.2) (.inl t.1) := mkI hst (by decide +kernel) (Nat.le_of_ble_eq_true rfl) (fun x _ o hI hX => b_X2_contains o a u p0 p1 t hf (hI _ rfl))
def rt_X2_tupleCount (x : Cx) (a : Nat → Nat) (t : Int32 × St) : Prop := RetI x cX2_tupleCount .int 0 0 (wM a t.2 (cxT x)) t.1
set_option maxRecDepth 20000 in
set_option maxHeartbeats 2000000 in
theorem b_X2_tupleCount {x : Cx} (o : Ok x cX2_tupleCount 2 RX2 1 0 0) (a : Nat → Nat) (u : St) (p0 : Int32) (t : Int32 × St) (hf : f_X2_tupleCount u p0 = some t) (hret : rt_X2_tupleCount x a t) : G x 2 0 0 (wM a u (cxT x)) [(0, .ref (a 0)), (1, .int p0)] 0 [] := by
  unfold f_X2_tupleCount at hf
  refine g_aload_n o 0 rfl rfl dX2_tupleCount_0 ?_
  refine g_aload_n o 0 rfl rfl dX2_tupleCount_1 ?_
  refine g_iload_n o 1 rfl rfl dX2_tupleCount_2 ?_
  obtain ⟨r4, hr4, hf⟩ := bd_some hf
  refine k_X2_isRelation_ o hr4 m_1031 (Nat.le_of_ble_eq_true rfl) (Nat.le_of_ble_eq_true rfl) ⟨(Nat.le_of_ble_eq_true rfl), (Nat.le_of_ble_eq_true rfl)⟩ dX2_tupleCount_3 ?_
  refine g_if_eq (tgt := 13) o rfl dX2_tupleCount_6 hf (fun hc hf => ?_) (fun hc hf => ?_)
  · refine g_iconst o ic_1 dX2_tupleCount_13 ?_
    refine M_put0 o m_919 dX2_tupleCount_14 ?_
    refine g_aload_n o 0 rfl rfl dX2_tupleCount_17 ?_
    refine M_get0 o m_919 dX2_tupleCount_18 ?_
    refine g_if_le (tgt := 28) o rfl dX2_tupleCount_21 hf (fun hc hf => ?_) (fun hc hf => ?_)
    · refine g_aload_n o 0 rfl rfl dX2_tupleCount_28 ?_
      refine M_get2 o m_921 dX2_tupleCount_29 ?_
      refine g_iload_n o 1 rfl rfl dX2_tupleCount_32 ?_
      refine M_ld2 o dX2_tupleCount_33 hf (fun hf => ?_)
      obtain ⟨r5, hr5, hf⟩ := bd_some hf
      refine k_X2_bits_ o hr5 m_1020 (Nat.le_of_ble_eq_true rfl) (Nat.le_of_ble_eq_true rfl) ⟨(Nat.le_of_ble_eq_true rfl), (Nat.le_of_ble_eq_true rfl)⟩ dX2_tupleCount_34 ?_
      cases Option.some.inj hf
      exact g_iret hret (Nat.le_of_ble_eq_true rfl) (Nat.le_of_ble_eq_true rfl) (vp_nar_int _) dX2_tupleCount_37
    · refine g_iconst o ic_0 dX2_tupleCount_24 ?_
      refine g_goto (tgt := 37) o rfl dX2_tupleCount_25 ?_
      cases Option.some.inj hf
      exact g_iret hret (Nat.le_of_ble_eq_true rfl) (Nat.le_of_ble_eq_true rfl) (vp_nar_int _) dX2_tupleCount_37
  · refine g_iconst o ic_0 dX2_tupleCount_9 ?_
    refine g_goto (tgt := 14) o rfl dX2_tupleCount_10 ?_
    refine M_put0 o m_919 dX2_tupleCount_14 ?_
    refine g_aload_n o 0 rfl rfl dX2_tupleCount_17 ?_
    refine M_get0 o m_919 dX2_tupleCount_18 ?_
    refine g_if_le (tgt := 28) o rfl dX2_tupleCount_21 hf (fun hc hf => ?_) (fun hc hf => ?_)
    · refine g_aload_n o 0 rfl rfl dX2_tupleCount_28 ?_
      refine M_get2 o m_921 dX2_tupleCount_29 ?_
      refine g_iload_n o 1 rfl rfl dX2_tupleCount_32 ?_
      refine M_ld2 o dX2_tupleCount_33 hf (fun hf => ?_)
      obtain ⟨r6, hr6, hf⟩ := bd_some hf
      refine k_X2_bits_ o hr6 m_1020 (Nat.le_of_ble_eq_true rfl) (Nat.le_of_ble_eq_true rfl) ⟨(Nat.le_of_ble_eq_true rfl), (Nat.le_of_ble_eq_true rfl)⟩ dX2_tupleCount_34 ?_
      cases Option.some.inj hf
      exact g_iret hret (Nat.le_of_ble_eq_true rfl) (Nat.le_of_ble_eq_true rfl) (vp_nar_int _) dX2_tupleCount_37
    · refine g_iconst o ic_0 dX2_tupleCount_24 ?_
      refine g_goto (tgt := 37) o rfl dX2_tupleCount_25 ?_
      cases Option.some.inj hf
      exact g_iret hret (Nat.le_of_ble_eq_true rfl) (Nat.le_of_ble_eq_true rfl) (vp_nar_int _) dX2_tupleCount_37
theorem c_X2_tupleCount (l : Launch) (hst : l.stackTraces = false) (a : Nat → Nat) (u : St) (p0 : Int32) (t : Int32 × St) (hf : f_X2_tupleCount u p0 = some t) : CoI l yX2_tupleCount (.code yX2_tupleCount cX2_tupleCount 2 (some .int)) 1 0 0 [.ref (a 0), .int p0] (wM a u) (wM a t.2) (.inl t.1) := mkI hst (by decide +kernel) (Nat.le_of_ble_eq_true rfl) (fun x _ o hI hX => b_X2_tupleCount o a u p0 t hf (hI _ rfl))
def rt_X2_arity (x : Cx) (a : Nat → Nat) (t : Int32 × St) : Prop := RetI x cX2_arity .int 0 0 (wM a t.2 (cxT x)) t.1
set_option maxRecDepth 20000 in
set_option maxHeartbeats 2000000 in
theorem b_X2_arity {x : Cx} (o : Ok x cX2_arity 2 RX2 1 0 0) (a : Nat → Nat) (u : St) (p0 : Int32) (t : Int32 × St) (hf : f_X2_arity u p0 = some t) (hret : rt_X2_arity x a t) : G x 2 0 0 (wM a u (cxT x)) [(0, .ref (a 0)), (1, .int p0)] 0 [] := by
  unfold f_X2_arity at hf
  refine g_aload_n o 0 rfl rfl dX2_arity_0 ?_
  refine g_aload_n o 0 rfl rfl dX2_arity_1 ?_
  refine g_iload_n o 1 rfl rfl dX2_arity_2 ?_
  obtain ⟨r2, hr2, hf⟩ := bd_some hf
  refine k_X2_isRelation_ o hr2 m_1031 (Nat.le_of_ble_eq_true rfl) (Nat.le_of_ble_eq_true rfl) ⟨(Nat.le_of_ble_eq_true rfl), (Nat.le_of_ble_eq_true rfl)⟩ dX2_arity_3 ?_
  refine g_if_eq (tgt := 13) o rfl dX2_arity_6 hf (fun hc hf => ?_) (fun hc hf => ?_)
  · refine g_iconst o ic_1 dX2_arity_13 ?_
    refine M_put0 o m_919 dX2_arity_14 ?_
    refine g_aload_n o 0 rfl rfl dX2_arity_17 ?_
    refine M_get0 o m_919 dX2_arity_18 ?_
    refine g_if_le (tgt := 28) o rfl dX2_arity_21 hf (fun hc hf => ?_) (fun hc hf => ?_)
    · refine g_aload_n o 0 rfl rfl dX2_arity_28 ?_
      refine M_get1 o m_920 dX2_arity_29 ?_
      refine g_iload_n o 1 rfl rfl dX2_arity_32 ?_
      refine M_ld1 o dX2_arity_33 hf (fun hf => ?_)
      cases Option.some.inj hf
      exact g_iret hret (Nat.le_of_ble_eq_true rfl) (Nat.le_of_ble_eq_true rfl) (vp_nar_int _) dX2_arity_34
    · refine g_iconst o ic_0 dX2_arity_24 ?_
      refine g_goto (tgt := 34) o rfl dX2_arity_25 ?_
      cases Option.some.inj hf
      exact g_iret hret (Nat.le_of_ble_eq_true rfl) (Nat.le_of_ble_eq_true rfl) (vp_nar_int _) dX2_arity_34
  · refine g_iconst o ic_0 dX2_arity_9 ?_
    refine g_goto (tgt := 14) o rfl dX2_arity_10 ?_
    refine M_put0 o m_919 dX2_arity_14 ?_
    refine g_aload_n o 0 rfl rfl dX2_arity_17 ?_
    refine M_get0 o m_919 dX2_arity_18 ?_
    refine g_if_le (tgt := 28) o rfl dX2_arity_21 hf (fun hc hf => ?_) (fun hc hf => ?_)
    · refine g_aload_n o 0 rfl rfl dX2_arity_28 ?_
      refine M_get1 o m_920 dX2_arity_29 ?_
      refine g_iload_n o 1 rfl rfl dX2_arity_32 ?_
      refine M_ld1 o dX2_arity_33 hf (fun hf => ?_)
      cases Option.some.inj hf
      exact g_iret hret (Nat.le_of_ble_eq_true rfl) (Nat.le_of_ble_eq_true rfl) (vp_nar_int _) dX2_arity_34
    · refine g_iconst o ic_0 dX2_arity_24 ?_
      refine g_goto (tgt := 34) o rfl dX2_arity_25 ?_
      cases Option.some.inj hf
      exact g_iret hret (Nat.le_of_ble_eq_true rfl) (Nat.le_of_ble_eq_true rfl) (vp_nar_int _) dX2_arity_34
theorem c_X2_arity (l : Launch) (hst : l.stackTraces = false) (a : Nat → Nat) (u : St) (p0 : Int32) (t : Int32 × St) (hf : f_X2_arity u p0 = some t) : CoI l yX2_arity (.code yX2_arity cX2_arity 2 (some .int)) 1 0 0 [.ref (a 0), .int p0] (wM a u) (wM a t.2) (.inl t.1) := mkI hst (by decide +kernel) (Nat.le_of_ble_eq_true rfl) (fun x _ o hI hX => b_X2_arity o a u p0 t hf (hI _ rfl))
def rt_X2_relationCount (x : Cx) (a : Nat → Nat) (t : Int32 × St) : Prop := RetI x cX2_relationCount .int 0 0 (wM a t.2 (cxT x)) t.1
set_option maxRecDepth 20000 in
set_option maxHeartbeats 2000000 in
theorem b_X2_relationCount {x : Cx} (o : Ok x cX2_relationCount 1 RX2 0 0 0) (a : Nat → Nat) (u : St) (t : Int32 × St) (hf : f_X2_relationCount u = some t) (hret : rt_X2_relationCount x a t) : G x 1 0 0 (wM a u (cxT x)) [(0, .ref (a 0))] 0 [] := by
  unfold f_X2_relationCount at hf
  refine g_aload_n o 0 rfl rfl dX2_relationCount_0 ?_
  refine g_iconst o ic_0 dX2_relationCount_1 ?_
  refine M_put0 o m_919 dX2_relationCount_2 ?_
  refine g_aload_n o 0 rfl rfl dX2_relationCount_5 ?_
  refine M_get3 o m_922 dX2_relationCount_6 ?_
  cases Option.some.inj hf
  exact g_iret hret (Nat.le_of_ble_eq_true rfl) (Nat.le_of_ble_eq_true rfl) (vp_nar_int _) dX2_relationCount_9
theorem c_X2_relationCount (l : Launch) (hst : l.stackTraces = false) (a : Nat → Nat) (u : St) (t : Int32 × St) (hf : f_X2_relationCount u = some t) : CoI l yX2_relationCount (.code yX2_relationCount cX2_relationCount 1 (some .int)) 0 0 0 [.ref (a 0)] (wM a u) (wM a t.2) (.inl t.1) := mkI hst (by decide +kernel) (Nat.le_of_ble_eq_true rfl) (fun x _ o hI hX => b_X2_relationCount o a u t hf (hI _ rfl))
def rt_X2_areEqual (x : Cx) (a : Nat → Nat) (t : Int32 × St) : Prop := RetI x cX2_areEqual .boolean 0 0 (wM a t.2 (cxT x)) t.1
set_option maxRecDepth 20000 in
set_option maxHeartbeats 2000000 in
theorem b_X2_areEqual {x : Cx} (o : Ok x cX2_areEqual 3 RX2 1 0 0) (a : Nat → Nat) (u : St) (p0 : Int32) (p1 : Int32) (t : Int32 × St) (hf : f_X2_areEqual u p0 p1 = some t) (hret : rt_X2_areEqual x a t) : G x 3 0 0 (wM a u (cxT x)) [(0, .ref (a 0)), (1, .int p0), (2, .int p1)] 0 [] := by
  unfold f_X2_areEqual at hf
  refine g_aload_n o 0 rfl rfl dX2_areEqual_0 ?_
  refine g_aload_n o 0 rfl rfl dX2_areEqual_1 ?_
  refine g_iload_n o 1 rfl rfl dX2_areEqual_2 ?_
  obtain ⟨r3, hr3, hf⟩ := bd_some hf
  refine k_X2_isRelation_ o hr3 m_1031 (Nat.le_of_ble_eq_true rfl) (Nat.le_of_ble_eq_true rfl) ⟨(Nat.le_of_ble_eq_true rfl), (Nat.le_of_ble_eq_true rfl)⟩ dX2_areEqual_3 ?_
  refine g_if_eq (tgt := 21) o rfl dX2_areEqual_6 hf (fun hc hf => ?_) (fun hc hf => ?_)
  · refine g_iconst o ic_1 dX2_areEqual_21 ?_
    refine M_put0 o m_919 dX2_areEqual_22 ?_
    refine g_aload_n o 0 rfl rfl dX2_areEqual_25 ?_
    refine M_get0 o m_919 dX2_areEqual_26 ?_
    refine g_if_ne (tgt := 66) o rfl dX2_areEqual_29 hf (fun hc hf => ?_) (fun hc hf => ?_)
    · refine g_iconst o ic_0 dX2_areEqual_66 ?_
      cases Option.some.inj hf
      exact g_iret hret (Nat.le_of_ble_eq_true rfl) (Nat.le_of_ble_eq_true rfl) nb_0 dX2_areEqual_67
    · refine g_aload_n o 0 rfl rfl dX2_areEqual_32 ?_
      refine M_get1 o m_920 dX2_areEqual_33 ?_
      refine g_iload_n o 1 rfl rfl dX2_areEqual_36 ?_
      refine M_ld1 o dX2_areEqual_37 hf (fun hf => ?_)
      refine g_aload_n o 0 rfl rfl dX2_areEqual_38 ?_
      refine M_get1 o m_920 dX2_areEqual_39 ?_
      refine g_iload_n o 2 rfl rfl dX2_areEqual_42 ?_
      refine M_ld1 o dX2_areEqual_43 hf (fun hf => ?_)
      refine g_ic_ne (tgt := 66) o rfl dX2_areEqual_44 hf (fun hc hf => ?_) (fun hc hf => ?_)
      · refine g_iconst o ic_0 dX2_areEqual_66 ?_
        cases Option.some.inj hf
        exact g_iret hret (Nat.le_of_ble_eq_true rfl) (Nat.le_of_ble_eq_true rfl) nb_0 dX2_areEqual_67
      · refine g_aload_n o 0 rfl rfl dX2_areEqual_47 ?_
        refine M_get2 o m_921 dX2_areEqual_48 ?_
        refine g_iload_n o 1 rfl rfl dX2_areEqual_51 ?_
        refine M_ld2 o dX2_areEqual_52 hf (fun hf => ?_)
        refine g_aload_n o 0 rfl rfl dX2_areEqual_53 ?_
        refine M_get2 o m_921 dX2_areEqual_54 ?_
        refine g_iload_n o 2 rfl rfl dX2_areEqual_57 ?_
        refine M_ld2 o dX2_areEqual_58 hf (fun hf => ?_)
        refine g_ic_ne (tgt := 66) o rfl dX2_areEqual_59 hf (fun hc hf => ?_) (fun hc hf => ?_)
        · refine g_iconst o ic_0 dX2_areEqual_66 ?_
          cases Option.some.inj hf
          exact g_iret hret (Nat.le_of_ble_eq_true rfl) (Nat.le_of_ble_eq_true rfl) nb_0 dX2_areEqual_67
        · refine g_iconst o ic_1 dX2_areEqual_62 ?_
          refine g_goto (tgt := 67) o rfl dX2_areEqual_63 ?_
          cases Option.some.inj hf
          exact g_iret hret (Nat.le_of_ble_eq_true rfl) (Nat.le_of_ble_eq_true rfl) nb_1 dX2_areEqual_67
  · refine g_aload_n o 0 rfl rfl dX2_areEqual_9 ?_
    refine g_iload_n o 2 rfl rfl dX2_areEqual_10 ?_
    obtain ⟨r4, hr4, hf⟩ := bd_some hf
    refine k_X2_isRelation_ o hr4 m_1031 (Nat.le_of_ble_eq_true rfl) (Nat.le_of_ble_eq_true rfl) ⟨(Nat.le_of_ble_eq_true rfl), (Nat.le_of_ble_eq_true rfl)⟩ dX2_areEqual_11 ?_
    refine g_if_eq (tgt := 21) o rfl dX2_areEqual_14 hf (fun hc hf => ?_) (fun hc hf => ?_)
    · refine g_iconst o ic_1 dX2_areEqual_21 ?_
      refine M_put0 o m_919 dX2_areEqual_22 ?_
      refine g_aload_n o 0 rfl rfl dX2_areEqual_25 ?_
      refine M_get0 o m_919 dX2_areEqual_26 ?_
      refine g_if_ne (tgt := 66) o rfl dX2_areEqual_29 hf (fun hc hf => ?_) (fun hc hf => ?_)
      · refine g_iconst o ic_0 dX2_areEqual_66 ?_
        cases Option.some.inj hf
        exact g_iret hret (Nat.le_of_ble_eq_true rfl) (Nat.le_of_ble_eq_true rfl) nb_0 dX2_areEqual_67
      · refine g_aload_n o 0 rfl rfl dX2_areEqual_32 ?_
        refine M_get1 o m_920 dX2_areEqual_33 ?_
        refine g_iload_n o 1 rfl rfl dX2_areEqual_36 ?_
        refine M_ld1 o dX2_areEqual_37 hf (fun hf => ?_)
        refine g_aload_n o 0 rfl rfl dX2_areEqual_38 ?_
        refine M_get1 o m_920 dX2_areEqual_39 ?_
        refine g_iload_n o 2 rfl rfl dX2_areEqual_42 ?_
        refine M_ld1 o dX2_areEqual_43 hf (fun hf => ?_)
        refine g_ic_ne (tgt := 66) o rfl dX2_areEqual_44 hf (fun hc hf => ?_) (fun hc hf => ?_)
        · refine g_iconst o ic_0 dX2_areEqual_66 ?_
          cases Option.some.inj hf
          exact g_iret hret (Nat.le_of_ble_eq_true rfl) (Nat.le_of_ble_eq_true rfl) nb_0 dX2_areEqual_67
        · refine g_aload_n o 0 rfl rfl dX2_areEqual_47 ?_
          refine M_get2 o m_921 dX2_areEqual_48 ?_
          refine g_iload_n o 1 rfl rfl dX2_areEqual_51 ?_
          refine M_ld2 o dX2_areEqual_52 hf (fun hf => ?_)
          refine g_aload_n o 0 rfl rfl dX2_areEqual_53 ?_
          refine M_get2 o m_921 dX2_areEqual_54 ?_
          refine g_iload_n o 2 rfl rfl dX2_areEqual_57 ?_
          refine M_ld2 o dX2_areEqual_58 hf (fun hf => ?_)
          refine g_ic_ne (tgt := 66) o rfl dX2_areEqual_59 hf (fun hc hf => ?_) (fun hc hf => ?_)
          · refine g_iconst o ic_0 dX2_areEqual_66 ?_
            cases Option.some.inj hf
            exact g_iret hret (Nat.le_of_ble_eq_true rfl) (Nat.le_of_ble_eq_true rfl) nb_0 dX2_areEqual_67
          · refine g_iconst o ic_1 dX2_areEqual_62 ?_
            refine g_goto (tgt := 67) o rfl dX2_areEqual_63 ?_
            cases Option.some.inj hf
            exact g_iret hret (Nat.le_of_ble_eq_true rfl) (Nat.le_of_ble_eq_true rfl) nb_1 dX2_areEqual_67
    · refine g_iconst o ic_0 dX2_areEqual_17 ?_
      refine g_goto (tgt := 22) o rfl dX2_areEqual_18 ?_
      refine M_put0 o m_919 dX2_areEqual_22 ?_
      refine g_aload_n o 0 rfl rfl dX2_areEqual_25 ?_
      refine M_get0 o m_919 dX2_areEqual_26 ?_
      refine g_if_ne (tgt := 66) o rfl dX2_areEqual_29 hf (fun hc hf => ?_) (fun hc hf => ?_)
      · refine g_iconst o ic_0 dX2_areEqual_66 ?_
        cases Option.some.inj hf
        exact g_iret hret (Nat.le_of_ble_eq_true rfl) (Nat.le_of_ble_eq_true rfl) nb_0 dX2_areEqual_67
      · refine g_aload_n o 0 rfl rfl dX2_areEqual_32 ?_
        refine M_get1 o m_920 dX2_areEqual_33 ?_
        refine g_iload_n o 1 rfl rfl dX2_areEqual_36 ?_
        refine M_ld1 o dX2_areEqual_37 hf (fun hf => ?_)
        refine g_aload_n o 0 rfl rfl dX2_areEqual_38 ?_
        refine M_get1 o m_920 dX2_areEqual_39 ?_
        refine g_iload_n o 2 rfl rfl dX2_areEqual_42 ?_
        refine M_ld1 o dX2_areEqual_43 hf (fun hf => ?_)
        refine g_ic_ne (tgt := 66) o rfl dX2_areEqual_44 hf (fun hc hf => ?_) (fun hc hf => ?_)
        · refine g_iconst o ic_0 dX2_areEqual_66 ?_
          cases Option.some.inj hf
          exact g_iret hret (Nat.le_of_ble_eq_true rfl) (Nat.le_of_ble_eq_true rfl) nb_0 dX2_areEqual_67
        · refine g_aload_n o 0 rfl rfl dX2_areEqual_47 ?_
          refine M_get2 o m_921 dX2_areEqual_48 ?_
          refine g_iload_n o 1 rfl rfl dX2_areEqual_51 ?_
          refine M_ld2 o dX2_areEqual_52 hf (fun hf => ?_)
          refine g_aload_n o 0 rfl rfl dX2_areEqual_53 ?_
          refine M_get2 o m_921 dX2_areEqual_54 ?_
          refine g_iload_n o 2 rfl rfl dX2_areEqual_57 ?_
          refine M_ld2 o dX2_areEqual_58 hf (fun hf => ?_)
          refine g_ic_ne (tgt := 66) o rfl dX2_areEqual_59 hf (fun hc hf => ?_) (fun hc hf => ?_)
          · refine g_iconst o ic_0 dX2_areEqual_66 ?_
            cases Option.some.inj hf
            exact g_iret hret (Nat.le_of_ble_eq_true rfl) (Nat.le_of_ble_eq_true rfl) nb_0 dX2_areEqual_67
          · refine g_iconst o ic_1 dX2_areEqual_62 ?_
            refine g_goto (tgt := 67) o rfl dX2_areEqual_63 ?_
            cases Option.some.inj hf
            exact g_iret hret (Nat.le_of_ble_eq_true rfl) (Nat.le_of_ble_eq_true rfl) nb_1 dX2_areEqual_67
theorem c_X2_areEqual (l : Launch) (hst : l.stackTraces = false) (a : Nat → Nat) (u : St) (p0 : Int32) (p1 : Int32) (t : Int32 × St) (hf : f_X2_areEqual u p0 p1 = some t) : CoI l yX2_areEqual (.code yX2_areEqual cX2_areEqual 3 (some .boolean)) 1 0 0 [.ref (a 0), .int p0, .int p1] (wM a u) (wM a t.2) (.inl t.1) := mkI hst (by decide +kernel) (Nat.le_of_ble_eq_true rfl) (fun x _ o hI hX => b_X2_areEqual o a u p0 p1 t hf (hI _ rfl))
def rt_X2_clear (x : Cx) (a : Nat → Nat) (t : Int32 × St) : Prop := RetI x cX2_clear .int 0 0 (wM a t.2 (cxT x)) t.1
set_option maxRecDepth 20000 in
set_option maxHeartbeats 2000000 in
theorem b_X2_clear {x : Cx} (o : Ok x cX2_clear 2 RX2 0 0 0) (a : Nat → Nat) (u : St) (t : Int32 × St) (hf : f_X2_clear u = some t) (hret : rt_X2_clear x a t) : G x 2 0 0 (wM a u (cxT x)) [(0, .ref (a 0))] 0 [] := by
  unfold f_X2_clear at hf
  refine g_aload_n o 0 rfl rfl dX2_clear_0 ?_
  refine g_iconst o ic_0 dX2_clear_1 ?_
  refine M_put0 o m_919 dX2_clear_2 ?_
  refine g_aload_n o 0 rfl rfl dX2_clear_5 ?_
  refine M_get3 o m_922 dX2_clear_6 ?_
  refine g_nmi hf (fun x2 hf => ?_)
  refine g_istore_n o [(1, .int x2), (0, .ref (a 0))] (Nat.le_of_ble_eq_true rfl) rfl rfl dX2_clear_9 ?_
  refine g_aload_n o 1 rfl rfl dX2_clear_10 ?_
  refine g_iconst o ic_0 dX2_clear_11 ?_
  refine M_put3 o m_922 dX2_clear_12 ?_
  refine g_aload_n o 1 rfl rfl dX2_clear_15 ?_
  refine g_iconst o ic_0 dX2_clear_16 ?_
  refine M_put7 o m_926 dX2_clear_17 ?_
  refine g_iload_n o 0 rfl rfl dX2_clear_20 ?_
  cases Option.some.inj hf
  exact g_iret hret (Nat.le_of_ble_eq_true rfl) (Nat.le_of_ble_eq_true rfl) (vp_nar_int _) dX2_clear_21
theorem c_X2_clear (l : Launch) (hst : l.stackTraces = false) (a : Nat → Nat) (u : St) (t : Int32 × St) (hf : f_X2_clear u = some t) : CoI l yX2_clear (.code yX2_clear cX2_clear 2 (some .int)) 0 0 0 [.ref (a 0)] (wM a u) (wM a t.2) (.inl t.1) := mkI hst (by decide +kernel) (Nat.le_of_ble_eq_true rfl) (fun x _ o hI hX => b_X2_clear o a u t hf (hI _ rfl))
def rt_X2_addComplement (x : Cx) (a : Nat → Nat) (t : Int32 × St) : Prop := RetI x cX2_addComplement .int 0 0 (wM a t.2 (cxT x)) t.1
set_option maxRecDepth 20000 in
set_option maxHeartbeats 2000000 in
theorem b_X2_addComplement {x : Cx} (o : Ok x cX2_addComplement 2 RX2 1 0 0) (a : Nat → Nat) (u : St) (p0 : Int32) (t : Int32 × St) (hf : f_X2_addComplement u p0 = some t) (hret : rt_X2_addComplement x a t) : G x 2 0 0 (wM a u (cxT x)) [(0, .ref (a 0)), (1, .int p0)] 0 [] := by
  unfold f_X2_addComplement at hf
  refine g_aload_n o 0 rfl rfl dX2_addComplement_0 ?_
  refine g_iload_n o 1 rfl rfl dX2_addComplement_1 ?_
  obtain ⟨r6, hr6, hf⟩ := bd_some hf
  refine k_X2_isRelation_ o hr6 m_1031 (Nat.le_of_ble_eq_true rfl) (Nat.le_of_ble_eq_true rfl) ⟨(Nat.le_of_ble_eq_true rfl), (Nat.le_of_ble_eq_true rfl)⟩ dX2_addComplement_2 ?_
  refine g_if_ne (tgt := 14) o rfl dX2_addComplement_5 hf (fun hc hf => ?_) (fun hc hf => ?_)
  · refine g_aload_n o 0 rfl rfl dX2_addComplement_14 ?_
    refine M_get3 o m_922 dX2_addComplement_15 ?_
    refine g_bipush o bp_8 dX2_addComplement_18 ?_
    refine g_ic_ne (tgt := 29) o rfl dX2_addComplement_20 hf (fun hc hf => ?_) (fun hc hf => ?_)
    · refine g_aload_n o 0 rfl rfl dX2_addComplement_29 ?_
      refine g_aload_n o 0 rfl rfl dX2_addComplement_30 ?_
      refine M_get1 o m_920 dX2_addComplement_31 ?_
      refine g_iload_n o 1 rfl rfl dX2_addComplement_34 ?_
      refine M_ld1 o dX2_addComplement_35 hf (fun hf => ?_)
      refine g_aload_n o 0 rfl rfl dX2_addComplement_36 ?_
      refine M_get1 o m_920 dX2_addComplement_37 ?_
      refine g_iload_n o 1 rfl rfl dX2_addComplement_40 ?_
      refine M_ld1 o dX2_addComplement_41 hf (fun hf => ?_)
      obtain ⟨r7, hr7, hf⟩ := bd_some hf
      refine k_X2_allOf_ o hr7 m_1010 (Nat.le_of_ble_eq_true rfl) (Nat.le_of_ble_eq_true rfl) ⟨(Nat.le_of_ble_eq_true rfl), (Nat.le_of_ble_eq_true rfl)⟩ dX2_addComplement_42 ?_
      refine g_aload_n o 0 rfl rfl dX2_addComplement_45 ?_
      refine M_get2 o m_921 dX2_addComplement_46 ?_
      refine g_iload_n o 1 rfl rfl dX2_addComplement_49 ?_
      refine M_ld2 o dX2_addComplement_50 hf (fun hf => ?_)
      refine g_iconst o ic_m1 dX2_addComplement_51 ?_
      refine g_ixor o dX2_addComplement_52 ?_
      refine g_iand o dX2_addComplement_53 ?_
      obtain ⟨r8, hr8, hf⟩ := bd_some hf
      refine k_X2_adds_ o hr8 m_999 (Nat.le_of_ble_eq_true rfl) (Nat.le_of_ble_eq_true rfl) ⟨(Nat.le_of_ble_eq_true rfl), (Nat.le_of_ble_eq_true rfl)⟩ dX2_addComplement_54 ?_
      cases Option.some.inj hf
      exact g_iret hret (Nat.le_of_ble_eq_true rfl) (Nat.le_of_ble_eq_true rfl) (vp_nar_int _) dX2_addComplement_57
    · refine g_aload_n o 0 rfl rfl dX2_addComplement_23 ?_
      refine g_iconst o ic_2 dX2_addComplement_24 ?_
      obtain ⟨r9, hr9, hf⟩ := bd_some hf
      refine k_X2_fails_ o hr9 m_995 (Nat.le_of_ble_eq_true rfl) (Nat.le_of_ble_eq_true rfl) ⟨(Nat.le_of_ble_eq_true rfl), (Nat.le_of_ble_eq_true rfl)⟩ dX2_addComplement_25 ?_
      cases Option.some.inj hf
      exact g_iret hret (Nat.le_of_ble_eq_true rfl) (Nat.le_of_ble_eq_true rfl) (vp_nar_int _) dX2_addComplement_28
  · refine g_aload_n o 0 rfl rfl dX2_addComplement_8 ?_
    refine g_iconst o ic_1 dX2_addComplement_9 ?_
    obtain ⟨r10, hr10, hf⟩ := bd_some hf
    refine k_X2_fails_ o hr10 m_995 (Nat.le_of_ble_eq_true rfl) (Nat.le_of_ble_eq_true rfl) ⟨(Nat.le_of_ble_eq_true rfl), (Nat.le_of_ble_eq_true rfl)⟩ dX2_addComplement_10 ?_
    cases Option.some.inj hf
    exact g_iret hret (Nat.le_of_ble_eq_true rfl) (Nat.le_of_ble_eq_true rfl) (vp_nar_int _) dX2_addComplement_13
theorem c_X2_addComplement (l : Launch) (hst : l.stackTraces = false) (a : Nat → Nat) (u : St) (p0 : Int32) (t : Int32 × St) (hf : f_X2_addComplement u p0 = some t) : CoI l yX2_addComplement (.code yX2_addComplement cX2_addComplement 2 (some .int)) 1 0 0 [.ref (a 0), .int p0] (wM a u) (wM a t.2) (.inl t.1) := mkI hst (by decide +kernel) (Nat.le_of_ble_eq_true rfl) (fun x _ o hI hX => b_X2_addComplement o a u p0 t hf (hI _ rfl))
def rt_X2_addIntersection (x : Cx) (a : Nat → Nat) (t : Int32 × St) : Prop := RetI x cX2_addIntersection .int 0 0 (wM a t.2 (cxT x)) t.1
set_option maxRecDepth 20000 in
set_option maxHeartbeats 2000000 in
theorem b_X2_addIntersection {x : Cx} (o : Ok x cX2_addIntersection 3 RX2 1 0 0) (a : Nat → Nat) (u : St) (p0 : Int32) (p1 : Int32) (t : Int32 × St) (hf : f_X2_addIntersection u p0 p1 = some t) (hret : rt_X2_addIntersection x a t) : G x 3 0 0 (wM a u (cxT x)) [(0, .ref (a 0)), (1, .int p0), (2, .int p1)] 0 [] := by
  unfold f_X2_addIntersection at hf
  refine g_aload_n o 0 rfl rfl dX2_addIntersection_0 ?_
  refine g_iload_n o 1 rfl rfl dX2_addIntersection_1 ?_
  obtain ⟨r8, hr8, hf⟩ := bd_some hf
  refine k_X2_isRelation_ o hr8 m_1031 (Nat.le_of_ble_eq_true rfl) (Nat.le_of_ble_eq_true rfl) ⟨(Nat.le_of_ble_eq_true rfl), (Nat.le_of_ble_eq_true rfl)⟩ dX2_addIntersection_2 ?_
  refine g_if_eq (tgt := 16) o rfl dX2_addIntersection_5 hf (fun hc hf => ?_) (fun hc hf => ?_)
  · refine g_aload_n o 0 rfl rfl dX2_addIntersection_16 ?_
    refine g_iconst o ic_1 dX2_addIntersection_17 ?_
    obtain ⟨r9, hr9, hf⟩ := bd_some hf
    refine k_X2_fails_ o hr9 m_995 (Nat.le_of_ble_eq_true rfl) (Nat.le_of_ble_eq_true rfl) ⟨(Nat.le_of_ble_eq_true rfl), (Nat.le_of_ble_eq_true rfl)⟩ dX2_addIntersection_18 ?_
    cases Option.some.inj hf
    exact g_iret hret (Nat.le_of_ble_eq_true rfl) (Nat.le_of_ble_eq_true rfl) (vp_nar_int _) dX2_addIntersection_21
  · refine g_aload_n o 0 rfl rfl dX2_addIntersection_8 ?_
    refine g_iload_n o 2 rfl rfl dX2_addIntersection_9 ?_
    obtain ⟨r10, hr10, hf⟩ := bd_some hf
    refine k_X2_isRelation_ o hr10 m_1031 (Nat.le_of_ble_eq_true rfl) (Nat.le_of_ble_eq_true rfl) ⟨(Nat.le_of_ble_eq_true rfl), (Nat.le_of_ble_eq_true rfl)⟩ dX2_addIntersection_10 ?_
    refine g_if_ne (tgt := 22) o rfl dX2_addIntersection_13 hf (fun hc hf => ?_) (fun hc hf => ?_)
    · refine g_aload_n o 0 rfl rfl dX2_addIntersection_22 ?_
      refine M_get1 o m_920 dX2_addIntersection_23 ?_
      refine g_iload_n o 1 rfl rfl dX2_addIntersection_26 ?_
      refine M_ld1 o dX2_addIntersection_27 hf (fun hf => ?_)
      refine g_aload_n o 0 rfl rfl dX2_addIntersection_28 ?_
      refine M_get1 o m_920 dX2_addIntersection_29 ?_
      refine g_iload_n o 2 rfl rfl dX2_addIntersection_32 ?_
      refine M_ld1 o dX2_addIntersection_33 hf (fun hf => ?_)
      refine g_ic_eq (tgt := 43) o rfl dX2_addIntersection_34 hf (fun hc hf => ?_) (fun hc hf => ?_)
      · refine g_aload_n o 0 rfl rfl dX2_addIntersection_43 ?_
        refine M_get3 o m_922 dX2_addIntersection_44 ?_
        refine g_bipush o bp_8 dX2_addIntersection_47 ?_
        refine g_ic_ne (tgt := 58) o rfl dX2_addIntersection_49 hf (fun hc hf => ?_) (fun hc hf => ?_)
        · refine g_aload_n o 0 rfl rfl dX2_addIntersection_58 ?_
          refine g_aload_n o 0 rfl rfl dX2_addIntersection_59 ?_
          refine M_get1 o m_920 dX2_addIntersection_60 ?_
          refine g_iload_n o 1 rfl rfl dX2_addIntersection_63 ?_
          refine M_ld1 o dX2_addIntersection_64 hf (fun hf => ?_)
          refine g_aload_n o 0 rfl rfl dX2_addIntersection_65 ?_
          refine M_get2 o m_921 dX2_addIntersection_66 ?_
          refine g_iload_n o 1 rfl rfl dX2_addIntersection_69 ?_
          refine M_ld2 o dX2_addIntersection_70 hf (fun hf => ?_)
          refine g_aload_n o 0 rfl rfl dX2_addIntersection_71 ?_
          refine M_get2 o m_921 dX2_addIntersection_72 ?_
          refine g_iload_n o 2 rfl rfl dX2_addIntersection_75 ?_
          refine M_ld2 o dX2_addIntersection_76 hf (fun hf => ?_)
          refine g_iand o dX2_addIntersection_77 ?_
          obtain ⟨r11, hr11, hf⟩ := bd_some hf
          refine k_X2_adds_ o hr11 m_999 (Nat.le_of_ble_eq_true rfl) (Nat.le_of_ble_eq_true rfl) ⟨(Nat.le_of_ble_eq_true rfl), (Nat.le_of_ble_eq_true rfl)⟩ dX2_addIntersection_78 ?_
          cases Option.some.inj hf
          exact g_iret hret (Nat.le_of_ble_eq_true rfl) (Nat.le_of_ble_eq_true rfl) (vp_nar_int _) dX2_addIntersection_81
        · refine g_aload_n o 0 rfl rfl dX2_addIntersection_52 ?_
          refine g_iconst o ic_3 dX2_addIntersection_53 ?_
          obtain ⟨r12, hr12, hf⟩ := bd_some hf
          refine k_X2_fails_ o hr12 m_995 (Nat.le_of_ble_eq_true rfl) (Nat.le_of_ble_eq_true rfl) ⟨(Nat.le_of_ble_eq_true rfl), (Nat.le_of_ble_eq_true rfl)⟩ dX2_addIntersection_54 ?_
          cases Option.some.inj hf
          exact g_iret hret (Nat.le_of_ble_eq_true rfl) (Nat.le_of_ble_eq_true rfl) (vp_nar_int _) dX2_addIntersection_57
      · refine g_aload_n o 0 rfl rfl dX2_addIntersection_37 ?_
        refine g_iconst o ic_2 dX2_addIntersection_38 ?_
        obtain ⟨r13, hr13, hf⟩ := bd_some hf
        refine k_X2_fails_ o hr13 m_995 (Nat.le_of_ble_eq_true rfl) (Nat.le_of_ble_eq_true rfl) ⟨(Nat.le_of_ble_eq_true rfl), (Nat.le_of_ble_eq_true rfl)⟩ dX2_addIntersection_39 ?_
        cases Option.some.inj hf
        exact g_iret hret (Nat.le_of_ble_eq_true rfl) (Nat.le_of_ble_eq_true rfl) (vp_nar_int _) dX2_addIntersection_42
    · refine g_aload_n o 0 rfl rfl dX2_addIntersection_16 ?_
      refine g_iconst o ic_1 dX2_addIntersection_17 ?_
      obtain ⟨r14, hr14, hf⟩ := bd_some hf
      refine k_X2_fails_ o hr14 m_995 (Nat.le_of_ble_eq_true rfl) (Nat.le_of_ble_eq_true rfl) ⟨(Nat.le_of_ble_eq_true rfl), (Nat.le_of_ble_eq_true rfl)⟩ dX2_addIntersection_18 ?_
      cases Option.some.inj hf
      exact g_iret hret (Nat.le_of_ble_eq_true rfl) (Nat.le_of_ble_eq_true rfl) (vp_nar_int _) dX2_addIntersection_21
theorem c_X2_addIntersection (l : Launch) (hst : l.stackTraces = false) (a : Nat → Nat) (u : St) (p0 : Int32) (p1 : Int32) (t : Int32 × St) (hf : f_X2_addIntersection u p0 p1 = some t) : CoI l yX2_addIntersection (.code yX2_addIntersection cX2_addIntersection 3 (some .int)) 1 0 0 [.ref (a 0), .int p0, .int p1] (wM a u) (wM a t.2) (.inl t.1) := mkI hst (by decide +kernel) (Nat.le_of_ble_eq_true rfl) (fun x _ o hI hX => b_X2_addIntersection o a u p0 p1 t hf (hI _ rfl))
def rt_X2_addProjection (x : Cx) (a : Nat → Nat) (t : Int32 × St) : Prop := RetI x cX2_addProjection .int 0 0 (wM a t.2 (cxT x)) t.1
set_option maxRecDepth 20000 in
set_option maxHeartbeats 2000000 in
theorem b_X2_addProjection_L66 {x : Cx} (o : Ok x cX2_addProjection 7 RX2 1 0 0) {k n : Nat} (hk : k ≤ 0) (hn : n ≤ 0) (a : Nat → Nat) (u : St) (c1 : Int32) (c2 : Int32) (r : (Int32 × Int32) ⊕ (Int32 × St)) (hX : ∀ s : Int32 × Int32, r = .inl s → G x 7 k n (wM a u (cxT x)) [(0, .ref (a 0)), (1, .int c1), (3, .int s.1)] 125 []) (hR : ∀ t, r = .inr t → rt_X2_addProjection x a t) : ∀ (m : Nat) (s : Int32 × Int32), loopN (f_X2_addProjection_s66 u c1 c2) m s = some r → G x 7 k n (wM a u (cxT x)) [(0, .ref (a 0)), (1, .int c1), (2, .int c2), (3, .int s.1), (4, .int s.2)] 66 [] := by
  refine loop_W _ (fun (s : Int32 × Int32) => G x 7 k n (wM a u (cxT x)) [(0, .ref (a 0)), (1, .int c1), (2, .int c2), (3, .int s.1), (4, .int s.2)] 66 []) r ?_
  intro s ww hf hw
  unfold f_X2_addProjection_s66 at hf
  obtain ⟨s_0, s_1⟩ := s
  try dsimp -simprocs only at hf ⊢
  refine g_iload o 4 rfl dX2_addProjection_66 ?_
  refine g_iconst o ic_1 dX2_addProjection_68 ?_
  refine g_aload_n o 0 rfl rfl dX2_addProjection_69 ?_
  refine M_get1 o m_920 dX2_addProjection_70 ?_
  refine g_iload_n o 1 rfl rfl dX2_addProjection_73 ?_
  refine M_ld1 o dX2_addProjection_74 hf (fun hf => ?_)
  refine g_ishl o dX2_addProjection_75 ?_
  refine g_ic_ge (tgt := 125) o rfl dX2_addProjection_76 hf (fun hc hf => ?_) (fun hc hf => ?_)
  · exact g_perm [0, 1, 3] rfl (hX _ (lf_x hf hw))
  · refine g_iload o 4 rfl dX2_addProjection_79 ?_
    refine g_iconst o ic_1 dX2_addProjection_81 ?_
    refine g_iload_n o 2 rfl rfl dX2_addProjection_82 ?_
    refine g_ishl o dX2_addProjection_83 ?_
    refine g_iconst o ic_1 dX2_addProjection_84 ?_
    refine g_isub o dX2_addProjection_85 ?_
    refine g_iand o dX2_addProjection_86 ?_
    refine g_nmi hf (fun x7 hf => ?_)
    refine g_istore o [(5, .int x7), (0, .ref (a 0)), (1, .int c1), (2, .int c2), (3, .int s_0), (4, .int s_1)] (Nat.le_of_ble_eq_true rfl) rfl dX2_addProjection_87 ?_
    refine g_iload o 0 rfl dX2_addProjection_89 ?_
    refine g_iload o 5 rfl dX2_addProjection_91 ?_
    refine g_iload_n o 3 rfl rfl dX2_addProjection_93 ?_
    refine g_iconst o ic_1 dX2_addProjection_94 ?_
    refine g_iadd o dX2_addProjection_95 ?_
    refine g_ishr o dX2_addProjection_96 ?_
    refine g_iload_n o 3 rfl rfl dX2_addProjection_97 ?_
    refine g_ishl o dX2_addProjection_98 ?_
    refine g_ior o dX2_addProjection_99 ?_
    refine g_nmi hf (fun x8 hf => ?_)
    refine g_istore o [(6, .int x8), (5, .int x7), (0, .ref (a 0)), (1, .int c1), (2, .int c2), (3, .int s_0), (4, .int s_1)] (Nat.le_of_ble_eq_true rfl) rfl dX2_addProjection_100 ?_
    refine g_iload_n o 5 rfl rfl dX2_addProjection_102 ?_
    refine g_aload_n o 2 rfl rfl dX2_addProjection_103 ?_
    refine M_get2 o m_921 dX2_addProjection_104 ?_
    refine g_iload_n o 3 rfl rfl dX2_addProjection_107 ?_
    refine M_ld2 o dX2_addProjection_108 hf (fun hf => ?_)
    refine g_iload o 6 rfl dX2_addProjection_109 ?_
    refine g_ishr o dX2_addProjection_111 ?_
    refine g_iconst o ic_1 dX2_addProjection_112 ?_
    refine g_iand o dX2_addProjection_113 ?_
    refine g_iload o 0 rfl dX2_addProjection_114 ?_
    refine g_ishl o dX2_addProjection_116 ?_
    refine g_ior o dX2_addProjection_117 ?_
    refine g_nmi hf (fun x9 hf => ?_)
    refine g_istore_n o [(3, .int x9), (6, .int x8), (5, .int x7), (0, .ref (a 0)), (1, .int c1), (2, .int c2), (4, .int s_1)] (Nat.le_of_ble_eq_true rfl) rfl rfl dX2_addProjection_118 ?_
    refine g_iinc o [(4, .int (s_1 + 1)), (3, .int x9), (6, .int x8), (5, .int x7), (0, .ref (a 0)), (1, .int c1), (2, .int c2)] 6 rfl (inc_1 _) (Nat.le_of_ble_eq_true rfl) rfl dX2_addProjection_119 ?_
    refine g_goto (tgt := 66) o rfl dX2_addProjection_122 ?_
    have hp := lf_c hf hw
    exact g_perm [4, 5, 6, 1, 0] rfl hp
set_option maxRecDepth 20000 in
set_option maxHeartbeats 2000000 in
theorem b_X2_addProjection {x : Cx} (o : Ok x cX2_addProjection 7 RX2 1 0 0) (a : Nat → Nat) (u : St) (p0 : Int32) (p1 : Int32) (t : Int32 × St) (hf : f_X2_addProjection u p0 p1 = some t) (hret : rt_X2_addProjection x a t) : G x 7 0 0 (wM a u (cxT x)) [(0, .ref (a 0)), (1, .int p0), (2, .int p1)] 0 [] := by
  unfold f_X2_addProjection at hf
  refine g_aload_n o 0 rfl rfl dX2_addProjection_0 ?_
  refine g_iload_n o 1 rfl rfl dX2_addProjection_1 ?_
  obtain ⟨r16, hr16, hf⟩ := bd_some hf
  refine k_X2_isRelation_ o hr16 m_1031 (Nat.le_of_ble_eq_true rfl) (Nat.le_of_ble_eq_true rfl) ⟨(Nat.le_of_ble_eq_true rfl), (Nat.le_of_ble_eq_true rfl)⟩ dX2_addProjection_2 ?_
  refine g_if_eq (tgt := 24) o rfl dX2_addProjection_5 hf (fun hc hf => ?_) (fun hc hf => ?_)
  · refine g_aload_n o 0 rfl rfl dX2_addProjection_24 ?_
    refine g_iconst o ic_1 dX2_addProjection_25 ?_
    obtain ⟨r17, hr17, hf⟩ := bd_some hf
    refine k_X2_fails_ o hr17 m_995 (Nat.le_of_ble_eq_true rfl) (Nat.le_of_ble_eq_true rfl) ⟨(Nat.le_of_ble_eq_true rfl), (Nat.le_of_ble_eq_true rfl)⟩ dX2_addProjection_26 ?_
    cases Option.some.inj hf
    exact g_iret hret (Nat.le_of_ble_eq_true rfl) (Nat.le_of_ble_eq_true rfl) (vp_nar_int _) dX2_addProjection_29
  · refine g_iload_n o 2 rfl rfl dX2_addProjection_8 ?_
    refine g_iconst o ic_0 dX2_addProjection_9 ?_
    refine g_aload_n o 0 rfl rfl dX2_addProjection_10 ?_
    refine M_get1 o m_920 dX2_addProjection_11 ?_
    refine g_iload_n o 1 rfl rfl dX2_addProjection_14 ?_
    refine M_ld1 o dX2_addProjection_15 hf (fun hf => ?_)
    refine g_iconst o ic_1 dX2_addProjection_16 ?_
    refine g_isub o dX2_addProjection_17 ?_
    obtain ⟨r18, hr18, hf⟩ := bd_some hf
    refine k_X2_isBetween_ o hr18 m_992 (Nat.le_of_ble_eq_true rfl) (Nat.le_of_ble_eq_true rfl) ⟨(Nat.le_of_ble_eq_true rfl), (Nat.le_of_ble_eq_true rfl)⟩ dX2_addProjection_18 ?_
    refine g_if_ne (tgt := 30) o rfl dX2_addProjection_21 hf (fun hc hf => ?_) (fun hc hf => ?_)
    · refine g_aload_n o 0 rfl rfl dX2_addProjection_30 ?_
      refine M_get1 o m_920 dX2_addProjection_31 ?_
      refine g_iload_n o 1 rfl rfl dX2_addProjection_34 ?_
      refine M_ld1 o dX2_addProjection_35 hf (fun hf => ?_)
      refine g_iconst o ic_1 dX2_addProjection_36 ?_
      refine g_ic_ne (tgt := 46) o rfl dX2_addProjection_37 hf (fun hc hf => ?_) (fun hc hf => ?_)
      · refine g_aload_n o 0 rfl rfl dX2_addProjection_46 ?_
        refine M_get3 o m_922 dX2_addProjection_47 ?_
        refine g_bipush o bp_8 dX2_addProjection_50 ?_
        refine g_ic_ne (tgt := 61) o rfl dX2_addProjection_52 hf (fun hc hf => ?_) (fun hc hf => ?_)
        · refine g_iconst o ic_0 dX2_addProjection_61 ?_
          refine g_istore_n o [(3, .int 0), (0, .ref (a 0)), (1, .int p0), (2, .int p1)] (Nat.le_of_ble_eq_true rfl) rfl rfl dX2_addProjection_62 ?_
          refine g_iconst o ic_0 dX2_addProjection_63 ?_
          refine g_istore o [(4, .int 0), (3, .int 0), (0, .ref (a 0)), (1, .int p0), (2, .int p1)] (Nat.le_of_ble_eq_true rfl) rfl dX2_addProjection_64 ?_
          obtain ⟨r20, hr20, hxr20, hrr20⟩ := bl_some hf
          refine g_perm [2, 3, 4, 1, 0] rfl (b_X2_addProjection_L66 o (Nat.le_of_ble_eq_true rfl) (Nat.le_of_ble_eq_true rfl) a u p0 p1 r20 (fun s66 hs => ?_) (fun t19 ht => ?_) FU (0, 0) hr20)
          · have hf := hxr20 s66 hs
            obtain ⟨s66_0, s66_1⟩ := s66
            try dsimp -simprocs only at hf ⊢
            refine g_aload_n o 0 rfl rfl dX2_addProjection_125 ?_
            refine g_aload_n o 0 rfl rfl dX2_addProjection_126 ?_
            refine M_get1 o m_920 dX2_addProjection_127 ?_
            refine g_iload_n o 1 rfl rfl dX2_addProjection_130 ?_
            refine M_ld1 o dX2_addProjection_131 hf (fun hf => ?_)
            refine g_iconst o ic_1 dX2_addProjection_132 ?_
            refine g_isub o dX2_addProjection_133 ?_
            refine g_iload_n o 2 rfl rfl dX2_addProjection_134 ?_
            obtain ⟨r21, hr21, hf⟩ := bd_some hf
            refine k_X2_adds_ o hr21 m_999 (Nat.le_of_ble_eq_true rfl) (Nat.le_of_ble_eq_true rfl) ⟨(Nat.le_of_ble_eq_true rfl), (Nat.le_of_ble_eq_true rfl)⟩ dX2_addProjection_135 ?_
            cases Option.some.inj hf
            exact g_iret hret (Nat.le_of_ble_eq_true rfl) (Nat.le_of_ble_eq_true rfl) (vp_nar_int _) dX2_addProjection_138
          · have hf := hrr20 t19 ht
            cases Option.some.inj hf
            exact hret
        · refine g_aload_n o 0 rfl rfl dX2_addProjection_55 ?_
          refine g_iconst o ic_3 dX2_addProjection_56 ?_
          obtain ⟨r22, hr22, hf⟩ := bd_some hf
          refine k_X2_fails_ o hr22 m_995 (Nat.le_of_ble_eq_true rfl) (Nat.le_of_ble_eq_true rfl) ⟨(Nat.le_of_ble_eq_true rfl), (Nat.le_of_ble_eq_true rfl)⟩ dX2_addProjection_57 ?_
          cases Option.some.inj hf
          exact g_iret hret (Nat.le_of_ble_eq_true rfl) (Nat.le_of_ble_eq_true rfl) (vp_nar_int _) dX2_addProjection_60
      · refine g_aload_n o 0 rfl rfl dX2_addProjection_40 ?_
        refine g_iconst o ic_2 dX2_addProjection_41 ?_
        obtain ⟨r23, hr23, hf⟩ := bd_some hf
        refine k_X2_fails_ o hr23 m_995 (Nat.le_of_ble_eq_true rfl) (Nat.le_of_ble_eq_true rfl) ⟨(Nat.le_of_ble_eq_true rfl), (Nat.le_of_ble_eq_true rfl)⟩ dX2_addProjection_42 ?_
        cases Option.some.inj hf
        exact g_iret hret (Nat.le_of_ble_eq_true rfl) (Nat.le_of_ble_eq_true rfl) (vp_nar_int _) dX2_addProjection_45
    · refine g_aload_n o 0 rfl rfl dX2_addProjection_24 ?_
      refine g_iconst o ic_1 dX2_addProjection_25 ?_
      obtain ⟨r24, hr24, hf⟩ := bd_some hf
      refine k_X2_fails_ o hr24 m_995 (Nat.le_of_ble_eq_true rfl) (Nat.le_of_ble_eq_true rfl) ⟨(Nat.le_of_ble_eq_true rfl), (Nat.le_of_ble_eq_true rfl)⟩ dX2_addProjection_26 ?_
      cases Option.some.inj hf
      exact g_iret hret (Nat.le_of_ble_eq_true rfl) (Nat.le_of_ble_eq_true rfl) (vp_nar_int _) dX2_addProjection_29
theorem c_X2_addProjection (l : Launch) (hst : l.stackTraces = false) (a : Nat → Nat) (u : St) (p0 : Int32) (p1 : Int32) (t : Int32 × St) (hf : f_X2_addProjection u p0 p1 = some t) : CoI l yX2_addProjection (.code yX2_addProjection cX2_addProjection 7 (some .int)) 1 0 0 [.ref (a 0), .int p0, .int p1] (wM a u) (wM a t.2) (.inl t.1) := mkI hst (by decide +kernel) (Nat.le_of_ble_eq_true rfl) (fun x _ o hI hX => b_X2_addProjection o a u p0 p1 t hf (hI _ rfl))
def rt_X2_addExchanged (x : Cx) (a : Nat → Nat) (t : Int32 × St) : Prop := RetI x cX2_addExchanged .int 0 0 (wM a t.2 (cxT x)) t.1
set_option maxRecDepth 20000 in
set_option maxHeartbeats 2000000 in
theorem b_X2_addExchanged_L67 {x : Cx} (o : Ok x cX2_addExchanged 8 RX2 1 0 0) {k n : Nat} (hk : k ≤ 0) (hn : n ≤ 0) (a : Nat → Nat) (u : St) (c1 : Int32) (c2 : Int32) (c3 : Int32) (r : (Int32 × Int32) ⊕ (Int32 × St)) (hX : ∀ s : Int32 × Int32, r = .inl s → G x 8 k n (wM a u (cxT x)) [(0, .ref (a 0)), (1, .int c1), (4, .int s.1)] 143 []) (hR : ∀ t, r = .inr t → rt_X2_addExchanged x a t) : ∀ (m : Nat) (s : Int32 × Int32), loopN (f_X2_addExchanged_s67 u c1 c2 c3) m s = some r → G x 8 k n (wM a u (cxT x)) [(0, .ref (a 0)), (1, .int c1), (2, .int c2), (3, .int c3), (4, .int s.1), (5, .int s.2)] 67 [] := by
  refine loop_W _ (fun (s : Int32 × Int32) => G x 8 k n (wM a u (cxT x)) [(0, .ref (a 0)), (1, .int c1), (2, .int c2), (3, .int c3), (4, .int s.1), (5, .int s.2)] 67 []) r ?_
  intro s ww hf hw
  unfold f_X2_addExchanged_s67 at hf
  obtain ⟨s_0, s_1⟩ := s
  try dsimp -simprocs only at hf ⊢
  refine g_iload o 5 rfl dX2_addExchanged_67 ?_
  refine g_iconst o ic_1 dX2_addExchanged_69 ?_
  refine g_aload_n o 0 rfl rfl dX2_addExchanged_70 ?_
  refine M_get1 o m_920 dX2_addExchanged_71 ?_
  refine g_iload_n o 1 rfl rfl dX2_addExchanged_74 ?_
  refine M_ld1 o dX2_addExchanged_75 hf (fun hf => ?_)
  refine g_ishl o dX2_addExchanged_76 ?_
  refine g_ic_ge (tgt := 143) o rfl dX2_addExchanged_77 hf (fun hc hf => ?_) (fun hc hf => ?_)
  · exact g_perm [0, 1, 4] rfl (hX _ (lf_x hf hw))
  · refine g_iload o 5 rfl dX2_addExchanged_80 ?_
    refine g_iconst o ic_1 dX2_addExchanged_82 ?_
    refine g_iload_n o 2 rfl rfl dX2_addExchanged_83 ?_
    refine g_ishl o dX2_addExchanged_84 ?_
    refine g_iconst o ic_m1 dX2_addExchanged_85 ?_
    refine g_ixor o dX2_addExchanged_86 ?_
    refine g_iand o dX2_addExchanged_87 ?_
    refine g_iconst o ic_1 dX2_addExchanged_88 ?_
    refine g_iload_n o 3 rfl rfl dX2_addExchanged_89 ?_
    refine g_ishl o dX2_addExchanged_90 ?_
    refine g_iconst o ic_m1 dX2_addExchanged_91 ?_
    refine g_ixor o dX2_addExchanged_92 ?_
    refine g_iand o dX2_addExchanged_93 ?_
    refine g_nmi hf (fun x9 hf => ?_)
    refine g_istore o [(6, .int x9), (0, .ref (a 0)), (1, .int c1), (2, .int c2), (3, .int c3), (4, .int s_0), (5, .int s_1)] (Nat.le_of_ble_eq_true rfl) rfl dX2_addExchanged_94 ?_
    refine g_iload o 0 rfl dX2_addExchanged_96 ?_
    refine g_iload o 6 rfl dX2_addExchanged_98 ?_
    refine g_iload_n o 3 rfl rfl dX2_addExchanged_100 ?_
    refine g_ishr o dX2_addExchanged_101 ?_
    refine g_iconst o ic_1 dX2_addExchanged_102 ?_
    refine g_iand o dX2_addExchanged_103 ?_
    refine g_iload_n o 4 rfl rfl dX2_addExchanged_104 ?_
    refine g_ishl o dX2_addExchanged_105 ?_
    refine g_ior o dX2_addExchanged_106 ?_
    refine g_iload o 6 rfl dX2_addExchanged_107 ?_
    refine g_iload_n o 4 rfl rfl dX2_addExchanged_109 ?_
    refine g_ishr o dX2_addExchanged_110 ?_
    refine g_iconst o ic_1 dX2_addExchanged_111 ?_
    refine g_iand o dX2_addExchanged_112 ?_
    refine g_iload_n o 3 rfl rfl dX2_addExchanged_113 ?_
    refine g_ishl o dX2_addExchanged_114 ?_
    refine g_ior o dX2_addExchanged_115 ?_
    refine g_nmi hf (fun x10 hf => ?_)
    refine g_istore o [(7, .int x10), (6, .int x9), (0, .ref (a 0)), (1, .int c1), (2, .int c2), (3, .int c3), (4, .int s_0), (5, .int s_1)] (Nat.le_of_ble_eq_true rfl) rfl dX2_addExchanged_116 ?_
    refine g_iload o 6 rfl dX2_addExchanged_118 ?_
    refine g_aload_n o 2 rfl rfl dX2_addExchanged_120 ?_
    refine M_get2 o m_921 dX2_addExchanged_121 ?_
    refine g_iload_n o 3 rfl rfl dX2_addExchanged_124 ?_
    refine M_ld2 o dX2_addExchanged_125 hf (fun hf => ?_)
    refine g_iload o 7 rfl dX2_addExchanged_126 ?_
    refine g_ishr o dX2_addExchanged_128 ?_
    refine g_iconst o ic_1 dX2_addExchanged_129 ?_
    refine g_iand o dX2_addExchanged_130 ?_
    refine g_iload o 0 rfl dX2_addExchanged_131 ?_
    refine g_ishl o dX2_addExchanged_133 ?_
    refine g_ior o dX2_addExchanged_134 ?_
    refine g_nmi hf (fun x11 hf => ?_)
    refine g_istore o [(4, .int x11), (7, .int x10), (6, .int x9), (0, .ref (a 0)), (1, .int c1), (2, .int c2), (3, .int c3), (5, .int s_1)] (Nat.le_of_ble_eq_true rfl) rfl dX2_addExchanged_135 ?_
    refine g_iinc o [(5, .int (s_1 + 1)), (4, .int x11), (7, .int x10), (6, .int x9), (0, .ref (a 0)), (1, .int c1), (2, .int c2), (3, .int c3)] 7 rfl (inc_1 _) (Nat.le_of_ble_eq_true rfl) rfl dX2_addExchanged_137 ?_
    refine g_goto (tgt := 67) o rfl dX2_addExchanged_140 ?_
    have hp := lf_c hf hw
    exact g_perm [4, 5, 6, 7, 1, 0] rfl hp
set_option maxRecDepth 20000 in
set_option maxHeartbeats 2000000 in
theorem b_X2_addExchanged {x : Cx} (o : Ok x cX2_addExchanged 8 RX2 1 0 0) (a : Nat → Nat) (u : St) (p0 : Int32) (p1 : Int32) (p2 : Int32) (t : Int32 × St) (hf : f_X2_addExchanged u p0 p1 p2 = some t) (hret : rt_X2_addExchanged x a t) : G x 8 0 0 (wM a u (cxT x)) [(0, .ref (a 0)), (1, .int p0), (2, .int p1), (3, .int p2)] 0 [] := by
  unfold f_X2_addExchanged at hf
  refine g_aload_n o 0 rfl rfl dX2_addExchanged_0 ?_
  refine g_iload_n o 1 rfl rfl dX2_addExchanged_1 ?_
  obtain ⟨r17, hr17, hf⟩ := bd_some hf
  refine k_X2_isRelation_ o hr17 m_1031 (Nat.le_of_ble_eq_true rfl) (Nat.le_of_ble_eq_true rfl) ⟨(Nat.le_of_ble_eq_true rfl), (Nat.le_of_ble_eq_true rfl)⟩ dX2_addExchanged_2 ?_
  refine g_if_eq (tgt := 40) o rfl dX2_addExchanged_5 hf (fun hc hf => ?_) (fun hc hf => ?_)
  · refine g_aload_n o 0 rfl rfl dX2_addExchanged_40 ?_
    refine g_iconst o ic_1 dX2_addExchanged_41 ?_
    obtain ⟨r18, hr18, hf⟩ := bd_some hf
    refine k_X2_fails_ o hr18 m_995 (Nat.le_of_ble_eq_true rfl) (Nat.le_of_ble_eq_true rfl) ⟨(Nat.le_of_ble_eq_true rfl), (Nat.le_of_ble_eq_true rfl)⟩ dX2_addExchanged_42 ?_
    cases Option.some.inj hf
    exact g_iret hret (Nat.le_of_ble_eq_true rfl) (Nat.le_of_ble_eq_true rfl) (vp_nar_int _) dX2_addExchanged_45
  · refine g_iload_n o 2 rfl rfl dX2_addExchanged_8 ?_
    refine g_iconst o ic_0 dX2_addExchanged_9 ?_
    refine g_aload_n o 0 rfl rfl dX2_addExchanged_10 ?_
    refine M_get1 o m_920 dX2_addExchanged_11 ?_
    refine g_iload_n o 1 rfl rfl dX2_addExchanged_14 ?_
    refine M_ld1 o dX2_addExchanged_15 hf (fun hf => ?_)
    refine g_iconst o ic_1 dX2_addExchanged_16 ?_
    refine g_isub o dX2_addExchanged_17 ?_
    obtain ⟨r19, hr19, hf⟩ := bd_some hf
    refine k_X2_isBetween_ o hr19 m_992 (Nat.le_of_ble_eq_true rfl) (Nat.le_of_ble_eq_true rfl) ⟨(Nat.le_of_ble_eq_true rfl), (Nat.le_of_ble_eq_true rfl)⟩ dX2_addExchanged_18 ?_
    refine g_if_eq (tgt := 40) o rfl dX2_addExchanged_21 hf (fun hc hf => ?_) (fun hc hf => ?_)
    · refine g_aload_n o 0 rfl rfl dX2_addExchanged_40 ?_
      refine g_iconst o ic_1 dX2_addExchanged_41 ?_
      obtain ⟨r20, hr20, hf⟩ := bd_some hf
      refine k_X2_fails_ o hr20 m_995 (Nat.le_of_ble_eq_true rfl) (Nat.le_of_ble_eq_true rfl) ⟨(Nat.le_of_ble_eq_true rfl), (Nat.le_of_ble_eq_true rfl)⟩ dX2_addExchanged_42 ?_
      cases Option.some.inj hf
      exact g_iret hret (Nat.le_of_ble_eq_true rfl) (Nat.le_of_ble_eq_true rfl) (vp_nar_int _) dX2_addExchanged_45
    · refine g_iload_n o 3 rfl rfl dX2_addExchanged_24 ?_
      refine g_iconst o ic_0 dX2_addExchanged_25 ?_
      refine g_aload_n o 0 rfl rfl dX2_addExchanged_26 ?_
      refine M_get1 o m_920 dX2_addExchanged_27 ?_
      refine g_iload_n o 1 rfl rfl dX2_addExchanged_30 ?_
      refine M_ld1 o dX2_addExchanged_31 hf (fun hf => ?_)
      refine g_iconst o ic_1 dX2_addExchanged_32 ?_
      refine g_isub o dX2_addExchanged_33 ?_
      obtain ⟨r21, hr21, hf⟩ := bd_some hf
      refine k_X2_isBetween_ o hr21 m_992 (Nat.le_of_ble_eq_true rfl) (Nat.le_of_ble_eq_true rfl) ⟨(Nat.le_of_ble_eq_true rfl), (Nat.le_of_ble_eq_true rfl)⟩ dX2_addExchanged_34 ?_
      refine g_if_ne (tgt := 46) o rfl dX2_addExchanged_37 hf (fun hc hf => ?_) (fun hc hf => ?_)
      · refine g_aload_n o 0 rfl rfl dX2_addExchanged_46 ?_
        refine M_get3 o m_922 dX2_addExchanged_47 ?_
        refine g_bipush o bp_8 dX2_addExchanged_50 ?_
        refine g_ic_ne (tgt := 61) o rfl dX2_addExchanged_52 hf (fun hc hf => ?_) (fun hc hf => ?_)
        · refine g_iconst o ic_0 dX2_addExchanged_61 ?_
          refine g_istore o [(4, .int 0), (0, .ref (a 0)), (1, .int p0), (2, .int p1), (3, .int p2)] (Nat.le_of_ble_eq_true rfl) rfl dX2_addExchanged_62 ?_
          refine g_iconst o ic_0 dX2_addExchanged_64 ?_
          refine g_istore o [(5, .int 0), (4, .int 0), (0, .ref (a 0)), (1, .int p0), (2, .int p1), (3, .int p2)] (Nat.le_of_ble_eq_true rfl) rfl dX2_addExchanged_65 ?_
          obtain ⟨r23, hr23, hxr23, hrr23⟩ := bl_some hf
          refine g_perm [2, 3, 4, 5, 1, 0] rfl (b_X2_addExchanged_L67 o (Nat.le_of_ble_eq_true rfl) (Nat.le_of_ble_eq_true rfl) a u p0 p1 p2 r23 (fun s67 hs => ?_) (fun t22 ht => ?_) FU (0, 0) hr23)
          · have hf := hxr23 s67 hs
            obtain ⟨s67_0, s67_1⟩ := s67
            try dsimp -simprocs only at hf ⊢
            refine g_aload_n o 0 rfl rfl dX2_addExchanged_143 ?_
            refine g_aload_n o 0 rfl rfl dX2_addExchanged_144 ?_
            refine M_get1 o m_920 dX2_addExchanged_145 ?_
            refine g_iload_n o 1 rfl rfl dX2_addExchanged_148 ?_
            refine M_ld1 o dX2_addExchanged_149 hf (fun hf => ?_)
            refine g_iload o 2 rfl dX2_addExchanged_150 ?_
            obtain ⟨r24, hr24, hf⟩ := bd_some hf
            refine k_X2_adds_ o hr24 m_999 (Nat.le_of_ble_eq_true rfl) (Nat.le_of_ble_eq_true rfl) ⟨(Nat.le_of_ble_eq_true rfl), (Nat.le_of_ble_eq_true rfl)⟩ dX2_addExchanged_152 ?_
            cases Option.some.inj hf
            exact g_iret hret (Nat.le_of_ble_eq_true rfl) (Nat.le_of_ble_eq_true rfl) (vp_nar_int _) dX2_addExchanged_155
          · have hf := hrr23 t22 ht
            cases Option.some.inj hf
            exact hret
        · refine g_aload_n o 0 rfl rfl dX2_addExchanged_55 ?_
          refine g_iconst o ic_2 dX2_addExchanged_56 ?_
          obtain ⟨r25, hr25, hf⟩ := bd_some hf
          refine k_X2_fails_ o hr25 m_995 (Nat.le_of_ble_eq_true rfl) (Nat.le_of_ble_eq_true rfl) ⟨(Nat.le_of_ble_eq_true rfl), (Nat.le_of_ble_eq_true rfl)⟩ dX2_addExchanged_57 ?_
          cases Option.some.inj hf
          exact g_iret hret (Nat.le_of_ble_eq_true rfl) (Nat.le_of_ble_eq_true rfl) (vp_nar_int _) dX2_addExchanged_60
      · refine g_aload_n o 0 rfl rfl dX2_addExchanged_40 ?_
        refine g_iconst o ic_1 dX2_addExchanged_41 ?_
        obtain ⟨r26, hr26, hf⟩ := bd_some hf
        refine k_X2_fails_ o hr26 m_995 (Nat.le_of_ble_eq_true rfl) (Nat.le_of_ble_eq_true rfl) ⟨(Nat.le_of_ble_eq_true rfl), (Nat.le_of_ble_eq_true rfl)⟩ dX2_addExchanged_42 ?_
        cases Option.some.inj hf
        exact g_iret hret (Nat.le_of_ble_eq_true rfl) (Nat.le_of_ble_eq_true rfl) (vp_nar_int _) dX2_addExchanged_45
theorem c_X2_addExchanged (l : Launch) (hst : l.stackTraces = false) (a : Nat → Nat) (u : St) (p0 : Int32) (p1 : Int32) (p2 : Int32) (t : Int32 × St) (hf : f_X2_addExchanged u p0 p1 p2 = some t) : CoI l yX2_addExchanged (.code yX2_addExchanged cX2_addExchanged 8 (some .int)) 1 0 0 [.ref (a 0), .int p0, .int p1, .int p2] (wM a u) (wM a t.2) (.inl t.1) := mkI hst (by decide +kernel) (Nat.le_of_ble_eq_true rfl) (fun x _ o hI hX => b_X2_addExchanged o a u p0 p1 p2 t hf (hI _ rfl))
def rt_X2_isOperation (x : Cx) (t : Int32) : Prop := RetI x cX2_isOperation .boolean 0 0 (w0 (cxT x)) t
set_option maxRecDepth 20000 in
set_option maxHeartbeats 2000000 in
theorem b_X2_isOperation {x : Cx} (o : Ok x cX2_isOperation 2 RX2 1 0 0) (p0 : Int32) (p1 : Int32) (t : Int32) (hf : f_X2_isOperation p0 p1 = some t) (hret : rt_X2_isOperation x  t) : G x 2 0 0 (w0 (cxT x)) [(0, .int p0), (1, .int p1)] 0 [] := by
  unfold f_X2_isOperation at hf
  refine g_iload_n o 0 rfl rfl dX2_isOperation_0 ?_
  refine g_iconst o ic_1 dX2_isOperation_1 ?_
  refine g_iconst o ic_3 dX2_isOperation_2 ?_
  obtain ⟨r2, hr2, hf⟩ := bd_some hf
  refine k_X2_isBetween_ o hr2 m_992 (Nat.le_of_ble_eq_true rfl) (Nat.le_of_ble_eq_true rfl) ⟨(Nat.le_of_ble_eq_true rfl), (Nat.le_of_ble_eq_true rfl)⟩ dX2_isOperation_3 ?_
  refine g_if_eq (tgt := 26) o rfl dX2_isOperation_6 hf (fun hc hf => ?_) (fun hc hf => ?_)
  · refine g_iconst o ic_0 dX2_isOperation_26 ?_
    cases Option.some.inj hf
    exact g_iret hret (Nat.le_of_ble_eq_true rfl) (Nat.le_of_ble_eq_true rfl) nb_0 dX2_isOperation_27
  · refine g_iload_n o 1 rfl rfl dX2_isOperation_9 ?_
    refine g_if_lt (tgt := 26) o rfl dX2_isOperation_10 hf (fun hc hf => ?_) (fun hc hf => ?_)
    · refine g_iconst o ic_0 dX2_isOperation_26 ?_
      cases Option.some.inj hf
      exact g_iret hret (Nat.le_of_ble_eq_true rfl) (Nat.le_of_ble_eq_true rfl) nb_0 dX2_isOperation_27
    · refine g_iload_n o 1 rfl rfl dX2_isOperation_13 ?_
      refine g_iconst o ic_1 dX2_isOperation_14 ?_
      refine g_iconst o ic_1 dX2_isOperation_15 ?_
      refine g_iload_n o 0 rfl rfl dX2_isOperation_16 ?_
      refine g_ishl o dX2_isOperation_17 ?_
      refine g_ishl o dX2_isOperation_18 ?_
      refine g_ic_ge (tgt := 26) o rfl dX2_isOperation_19 hf (fun hc hf => ?_) (fun hc hf => ?_)
      · refine g_iconst o ic_0 dX2_isOperation_26 ?_
        cases Option.some.inj hf
        exact g_iret hret (Nat.le_of_ble_eq_true rfl) (Nat.le_of_ble_eq_true rfl) nb_0 dX2_isOperation_27
      · refine g_iconst o ic_1 dX2_isOperation_22 ?_
        refine g_goto (tgt := 27) o rfl dX2_isOperation_23 ?_
        cases Option.some.inj hf
        exact g_iret hret (Nat.le_of_ble_eq_true rfl) (Nat.le_of_ble_eq_true rfl) nb_1 dX2_isOperation_27
theorem c_X2_isOperation (l : Launch) (hst : l.stackTraces = false) (p0 : Int32) (p1 : Int32) (t : Int32) (hf : f_X2_isOperation p0 p1 = some t) : CoI l yX2_isOperation (.code yX2_isOperation cX2_isOperation 2 (some .boolean)) 1 0 0 [.int p0, .int p1] w0 w0 (.inl t) := mkI hst (by decide +kernel) (Nat.le_of_ble_eq_true rfl) (fun x _ o hI hX => b_X2_isOperation o p0 p1 t hf (hI _ rfl))
theorem k_X2_isOperation_ {x : Cx} {cc : ByteArray} {nL : Nat} {own : String} {d mc ms k n : Nat} {lv : List (Nat × Value)} {pc i : Nat} {rest : List Value} {wd : va_W} {p0 : Int32} {p1 : Int32} (o : Ok x cc nL own d mc ms) {t : Int32} (ht : f_X2_isOperation p0 p1 = some t) (hlk : Cond.methodLink own i yX2_isOperation ∈ Ug) (hd : 1 < d) (hr : (rest.map fun v => v.category).sum ≤ 8) (hk : k + 0 ≤ mc ∧ n + 0 ≤ ms) (dg : decode cc pc = .ok (.invokestatic i, 3)) (kk : G x nL (k + 0) (n + 0) wd lv (pc + 3) (.int t :: rest)) : G x nL k n wd lv pc (.int p1 :: .int p0 :: rest) := gcI (wd2 := wd) o (c_X2_isOperation (cxl x) o.2.2.2.2.2.2.2.2.2.1 p0 p1 t ht) (can_S o hd (Nat.le_of_ble_eq_true rfl) m_1085 m_56 m_1084 hlk yk_X2_isOperation rfl hr hk dg) sp_none (fun E h => by cases h) (fun r h => by cases h; exact kk)
def rt_X2_placeOf (x : Cx) (t : Int32) : Prop := RetI x cX2_placeOf .int 0 0 (w0 (cxT x)) t
set_option maxRecDepth 20000 in
set_option maxHeartbeats 2000000 in
theorem b_X2_placeOf {x : Cx} (o : Ok x cX2_placeOf 4 RX2 0 0 0) (p0 : Int32) (p1 : Int32) (p2 : Int32) (p3 : Int32) (t : Int32) (hf : f_X2_placeOf p0 p1 p2 p3 = some t) (hret : rt_X2_placeOf x  t) : G x 4 0 0 (w0 (cxT x)) [(0, .int p0), (1, .int p1), (2, .int p2), (3, .int p3)] 0 [] := by
  unfold f_X2_placeOf at hf
  refine g_iload_n o 1 rfl rfl dX2_placeOf_0 ?_
  refine g_iload_n o 0 rfl rfl dX2_placeOf_1 ?_
  refine g_iconst o ic_1 dX2_placeOf_2 ?_
  refine g_ic_le (tgt := 12) o rfl dX2_placeOf_3 hf (fun hc hf => ?_) (fun hc hf => ?_)
  · refine g_iconst o ic_0 dX2_placeOf_12 ?_
    refine g_iadd o dX2_placeOf_13 ?_
    refine g_iload_n o 0 rfl rfl dX2_placeOf_14 ?_
    refine g_iconst o ic_2 dX2_placeOf_15 ?_
    refine g_ic_le (tgt := 25) o rfl dX2_placeOf_16 hf (fun hc hf => ?_) (fun hc hf => ?_)
    · refine g_iconst o ic_0 dX2_placeOf_25 ?_
      refine g_iadd o dX2_placeOf_26 ?_
      cases Option.some.inj hf
      exact g_iret hret (Nat.le_of_ble_eq_true rfl) (Nat.le_of_ble_eq_true rfl) (vp_nar_int _) dX2_placeOf_27
    · refine g_iconst o ic_4 dX2_placeOf_19 ?_
      refine g_iload_n o 3 rfl rfl dX2_placeOf_20 ?_
      refine g_imul o dX2_placeOf_21 ?_
      refine g_goto (tgt := 26) o rfl dX2_placeOf_22 ?_
      refine g_iadd o dX2_placeOf_26 ?_
      cases Option.some.inj hf
      exact g_iret hret (Nat.le_of_ble_eq_true rfl) (Nat.le_of_ble_eq_true rfl) (vp_nar_int _) dX2_placeOf_27
  · refine g_iconst o ic_2 dX2_placeOf_6 ?_
    refine g_iload_n o 2 rfl rfl dX2_placeOf_7 ?_
    refine g_imul o dX2_placeOf_8 ?_
    refine g_goto (tgt := 13) o rfl dX2_placeOf_9 ?_
    refine g_iadd o dX2_placeOf_13 ?_
    refine g_iload_n o 0 rfl rfl dX2_placeOf_14 ?_
    refine g_iconst o ic_2 dX2_placeOf_15 ?_
    refine g_ic_le (tgt := 25) o rfl dX2_placeOf_16 hf (fun hc hf => ?_) (fun hc hf => ?_)
    · refine g_iconst o ic_0 dX2_placeOf_25 ?_
      refine g_iadd o dX2_placeOf_26 ?_
      cases Option.some.inj hf
      exact g_iret hret (Nat.le_of_ble_eq_true rfl) (Nat.le_of_ble_eq_true rfl) (vp_nar_int _) dX2_placeOf_27
    · refine g_iconst o ic_4 dX2_placeOf_19 ?_
      refine g_iload_n o 3 rfl rfl dX2_placeOf_20 ?_
      refine g_imul o dX2_placeOf_21 ?_
      refine g_goto (tgt := 26) o rfl dX2_placeOf_22 ?_
      refine g_iadd o dX2_placeOf_26 ?_
      cases Option.some.inj hf
      exact g_iret hret (Nat.le_of_ble_eq_true rfl) (Nat.le_of_ble_eq_true rfl) (vp_nar_int _) dX2_placeOf_27
theorem c_X2_placeOf (l : Launch) (hst : l.stackTraces = false) (p0 : Int32) (p1 : Int32) (p2 : Int32) (p3 : Int32) (t : Int32) (hf : f_X2_placeOf p0 p1 p2 p3 = some t) : CoI l yX2_placeOf (.code yX2_placeOf cX2_placeOf 4 (some .int)) 0 0 0 [.int p0, .int p1, .int p2, .int p3] w0 w0 (.inl t) := mkI hst (by decide +kernel) (Nat.le_of_ble_eq_true rfl) (fun x _ o hI hX => b_X2_placeOf o p0 p1 p2 p3 t hf (hI _ rfl))
theorem k_X2_placeOf_ {x : Cx} {cc : ByteArray} {nL : Nat} {own : String} {d mc ms k n : Nat} {lv : List (Nat × Value)} {pc i : Nat} {rest : List Value} {wd : va_W} {p0 : Int32} {p1 : Int32} {p2 : Int32} {p3 : Int32} (o : Ok x cc nL own d mc ms) {t : Int32} (ht : f_X2_placeOf p0 p1 p2 p3 = some t) (hlk : Cond.methodLink own i yX2_placeOf ∈ Ug) (hd : 0 < d) (hr : (rest.map fun v => v.category).sum ≤ 8) (hk : k + 0 ≤ mc ∧ n + 0 ≤ ms) (dg : decode cc pc = .ok (.invokestatic i, 3)) (kk : G x nL (k + 0) (n + 0) wd lv (pc + 3) (.int t :: rest)) : G x nL k n wd lv pc (.int p3 :: .int p2 :: .int p1 :: .int p0 :: rest) := gcI (wd2 := wd) o (c_X2_placeOf (cxl x) o.2.2.2.2.2.2.2.2.2.1 p0 p1 p2 p3 t ht) (can_S o hd (Nat.le_of_ble_eq_true rfl) m_1088 m_56 m_1087 hlk yk_X2_placeOf rfl hr hk dg) sp_none (fun E h => by cases h) (fun r h => by cases h; exact kk)
def rt_X2_apply (x : Cx) (a : Nat → Nat) (t : Int32 × St) : Prop := RetI x cX2_apply .int 0 0 (wM a t.2 (cxT x)) t.1
set_option maxRecDepth 20000 in
set_option maxHeartbeats 2000000 in
theorem b_X2_apply {x : Cx} (o : Ok x cX2_apply 6 RX2 2 0 0) (a : Nat → Nat) (u : St) (p0 : Int32) (p1 : Int32) (p2 : Int32) (p3 : Int32) (p4 : Int32) (t : Int32 × St) (hf : f_X2_apply u p0 p1 p2 p3 p4 = some t) (hret : rt_X2_apply x a t) : G x 6 0 0 (wM a u (cxT x)) [(0, .ref (a 0)), (1, .int p0), (2, .int p1), (3, .int p2), (4, .int p3), (5, .int p4)] 0 [] := by
  unfold f_X2_apply at hf
  refine g_iload_n o 1 rfl rfl dX2_apply_0 ?_
  refine g_iload_n o 2 rfl rfl dX2_apply_1 ?_
  obtain ⟨r10, hr10, hf⟩ := bd_some hf
  refine k_X2_isOperation_ o hr10 m_1083 (Nat.le_of_ble_eq_true rfl) (Nat.le_of_ble_eq_true rfl) ⟨(Nat.le_of_ble_eq_true rfl), (Nat.le_of_ble_eq_true rfl)⟩ dX2_apply_2 ?_
  refine g_if_eq (tgt := 31) o rfl dX2_apply_5 hf (fun hc hf => ?_) (fun hc hf => ?_)
  · refine g_aload_n o 0 rfl rfl dX2_apply_31 ?_
    refine g_iconst o ic_1 dX2_apply_32 ?_
    obtain ⟨r11, hr11, hf⟩ := bd_some hf
    refine k_X2_fails_ o hr11 m_995 (Nat.le_of_ble_eq_true rfl) (Nat.le_of_ble_eq_true rfl) ⟨(Nat.le_of_ble_eq_true rfl), (Nat.le_of_ble_eq_true rfl)⟩ dX2_apply_33 ?_
    cases Option.some.inj hf
    exact g_iret hret (Nat.le_of_ble_eq_true rfl) (Nat.le_of_ble_eq_true rfl) (vp_nar_int _) dX2_apply_36
  · refine g_iload_n o 3 rfl rfl dX2_apply_8 ?_
    obtain ⟨r12, hr12, hf⟩ := bd_some hf
    refine k_X2_isBit_ o hr12 m_1017 (Nat.le_of_ble_eq_true rfl) (Nat.le_of_ble_eq_true rfl) ⟨(Nat.le_of_ble_eq_true rfl), (Nat.le_of_ble_eq_true rfl)⟩ dX2_apply_9 ?_
    refine g_if_eq (tgt := 31) o rfl dX2_apply_12 hf (fun hc hf => ?_) (fun hc hf => ?_)
    · refine g_aload_n o 0 rfl rfl dX2_apply_31 ?_
      refine g_iconst o ic_1 dX2_apply_32 ?_
      obtain ⟨r13, hr13, hf⟩ := bd_some hf
      refine k_X2_fails_ o hr13 m_995 (Nat.le_of_ble_eq_true rfl) (Nat.le_of_ble_eq_true rfl) ⟨(Nat.le_of_ble_eq_true rfl), (Nat.le_of_ble_eq_true rfl)⟩ dX2_apply_33 ?_
      cases Option.some.inj hf
      exact g_iret hret (Nat.le_of_ble_eq_true rfl) (Nat.le_of_ble_eq_true rfl) (vp_nar_int _) dX2_apply_36
    · refine g_iload o 4 rfl dX2_apply_15 ?_
      obtain ⟨r14, hr14, hf⟩ := bd_some hf
      refine k_X2_isBit_ o hr14 m_1017 (Nat.le_of_ble_eq_true rfl) (Nat.le_of_ble_eq_true rfl) ⟨(Nat.le_of_ble_eq_true rfl), (Nat.le_of_ble_eq_true rfl)⟩ dX2_apply_17 ?_
      refine g_if_eq (tgt := 31) o rfl dX2_apply_20 hf (fun hc hf => ?_) (fun hc hf => ?_)
      · refine g_aload_n o 0 rfl rfl dX2_apply_31 ?_
        refine g_iconst o ic_1 dX2_apply_32 ?_
        obtain ⟨r15, hr15, hf⟩ := bd_some hf
        refine k_X2_fails_ o hr15 m_995 (Nat.le_of_ble_eq_true rfl) (Nat.le_of_ble_eq_true rfl) ⟨(Nat.le_of_ble_eq_true rfl), (Nat.le_of_ble_eq_true rfl)⟩ dX2_apply_33 ?_
        cases Option.some.inj hf
        exact g_iret hret (Nat.le_of_ble_eq_true rfl) (Nat.le_of_ble_eq_true rfl) (vp_nar_int _) dX2_apply_36
      · refine g_iload o 5 rfl dX2_apply_23 ?_
        obtain ⟨r16, hr16, hf⟩ := bd_some hf
        refine k_X2_isBit_ o hr16 m_1017 (Nat.le_of_ble_eq_true rfl) (Nat.le_of_ble_eq_true rfl) ⟨(Nat.le_of_ble_eq_true rfl), (Nat.le_of_ble_eq_true rfl)⟩ dX2_apply_25 ?_
        refine g_if_ne (tgt := 37) o rfl dX2_apply_28 hf (fun hc hf => ?_) (fun hc hf => ?_)
        · refine g_aload_n o 0 rfl rfl dX2_apply_37 ?_
          refine g_iconst o ic_0 dX2_apply_38 ?_
          refine M_put0 o m_919 dX2_apply_39 ?_
          refine g_iload_n o 2 rfl rfl dX2_apply_42 ?_
          refine g_iload_n o 1 rfl rfl dX2_apply_43 ?_
          refine g_iload_n o 3 rfl rfl dX2_apply_44 ?_
          refine g_iload o 4 rfl dX2_apply_45 ?_
          refine g_iload o 5 rfl dX2_apply_47 ?_
          obtain ⟨r17, hr17, hf⟩ := bd_some hf
          refine k_X2_placeOf_ o hr17 m_1086 (Nat.le_of_ble_eq_true rfl) (Nat.le_of_ble_eq_true rfl) ⟨(Nat.le_of_ble_eq_true rfl), (Nat.le_of_ble_eq_true rfl)⟩ dX2_apply_49 ?_
          refine g_ishr o dX2_apply_52 ?_
          refine g_iconst o ic_1 dX2_apply_53 ?_
          refine g_iand o dX2_apply_54 ?_
          cases Option.some.inj hf
          exact g_iret hret (Nat.le_of_ble_eq_true rfl) (Nat.le_of_ble_eq_true rfl) (vp_nar_int _) dX2_apply_55
        · refine g_aload_n o 0 rfl rfl dX2_apply_31 ?_
          refine g_iconst o ic_1 dX2_apply_32 ?_
          obtain ⟨r18, hr18, hf⟩ := bd_some hf
          refine k_X2_fails_ o hr18 m_995 (Nat.le_of_ble_eq_true rfl) (Nat.le_of_ble_eq_true rfl) ⟨(Nat.le_of_ble_eq_true rfl), (Nat.le_of_ble_eq_true rfl)⟩ dX2_apply_33 ?_
          cases Option.some.inj hf
          exact g_iret hret (Nat.le_of_ble_eq_true rfl) (Nat.le_of_ble_eq_true rfl) (vp_nar_int _) dX2_apply_36
theorem c_X2_apply (l : Launch) (hst : l.stackTraces = false) (a : Nat → Nat) (u : St) (p0 : Int32) (p1 : Int32) (p2 : Int32) (p3 : Int32) (p4 : Int32) (t : Int32 × St) (hf : f_X2_apply u p0 p1 p2 p3 p4 = some t) : CoI l yX2_apply (.code yX2_apply cX2_apply 6 (some .int)) 2 0 0 [.ref (a 0), .int p0, .int p1, .int p2, .int p3, .int p4] (wM a u) (wM a t.2) (.inl t.1) := mkI hst (by decide +kernel) (Nat.le_of_ble_eq_true rfl) (fun x _ o hI hX => b_X2_apply o a u p0 p1 p2 p3 p4 t hf (hI _ rfl))
def rt_X2_refuses (x : Cx) (a : Nat → Nat) (t : Int32 × St) : Prop := RetI x cX2_refuses .boolean 0 0 (wM a t.2 (cxT x)) t.1
set_option maxRecDepth 20000 in
set_option maxHeartbeats 2000000 in
theorem b_X2_refuses {x : Cx} (o : Ok x cX2_refuses 2 RX2 0 0 0) (a : Nat → Nat) (u : St) (p0 : Int32) (t : Int32 × St) (hf : f_X2_refuses u p0 = some t) (hret : rt_X2_refuses x a t) : G x 2 0 0 (wM a u (cxT x)) [(0, .ref (a 0)), (1, .int p0)] 0 [] := by
  unfold f_X2_refuses at hf
  refine g_aload_n o 0 rfl rfl dX2_refuses_0 ?_
  refine g_iload_n o 1 rfl rfl dX2_refuses_1 ?_
  refine M_put0 o m_919 dX2_refuses_2 ?_
  refine g_iconst o ic_0 dX2_refuses_5 ?_
  cases Option.some.inj hf
  exact g_iret hret (Nat.le_of_ble_eq_true rfl) (Nat.le_of_ble_eq_true rfl) nb_0 dX2_refuses_6
theorem c_X2_refuses (l : Launch) (hst : l.stackTraces = false) (a : Nat → Nat) (u : St) (p0 : Int32) (t : Int32 × St) (hf : f_X2_refuses u p0 = some t) : CoI l yX2_refuses (.code yX2_refuses cX2_refuses 2 (some .boolean)) 0 0 0 [.ref (a 0), .int p0] (wM a u) (wM a t.2) (.inl t.1) := mkI hst (by decide +kernel) (Nat.le_of_ble_eq_true rfl) (fun x _ o hI hX => b_X2_refuses o a u p0 t hf (hI _ rfl))
theorem k_X2_refuses_ {x : Cx} {cc : ByteArray} {nL : Nat} {own : String} {d mc ms k n : Nat} {lv : List (Nat × Value)} {pc i : Nat} {rest : List Value} {a : Nat → Nat} {u : St} {p0 : Int32} (o : Ok x cc nL own d mc ms) {t : Int32 × St} (ht : f_X2_refuses u p0 = some t) (hlk : Cond.methodLink own i yX2_refuses ∈ Ug) (hd : 0 < d) (hr : (rest.map fun v => v.category).sum ≤ 8) (hk : k + 0 ≤ mc ∧ n + 0 ≤ ms) (dg : decode cc pc = .ok (.invokevirtual i, 3)) (kk : G x nL (k + 0) (n + 0) (wM a t.2 (cxT x)) lv (pc + 3) (.int t.1 :: rest)) : G x nL k n (wM a u (cxT x)) lv pc (.int p0 :: .ref (a 0) :: rest) := gcI (wd2 := (wM a t.2 (cxT x))) o (c_X2_refuses (cxl x) o.2.2.2.2.2.2.2.2.2.1 a u p0 t ht) (can_V (q0 := 0) o rfl rfl hd (Nat.le_of_ble_eq_true rfl) m_1096 m_56 m_1095 m_37 hlk yk_X2_refuses rfl hr hk dg) sp_M (fun E h => by cases h) (fun r h => by cases h; exact kk)
def rt_X2_applied (x : Cx) (t : Int32) : Prop := RetI x cX2_applied .int 0 0 (w0 (cxT x)) t
set_option maxRecDepth 20000 in
set_option maxHeartbeats 2000000 in
theorem b_X2_applied_L6 {x : Cx} (o : Ok x cX2_applied 7 RX2 1 0 0) {k n : Nat} (hk : k ≤ 0) (hn : n ≤ 0) (c0 : Int32) (c1 : Int32) (c2 : Int32) (c3 : Int32) (c4 : Int32) (r : (Int32 × Int32) ⊕ (Int32)) (hX : ∀ s : Int32 × Int32, r = .inl s → G x 7 k n (w0 (cxT x)) [(5, .int s.1)] 53 []) (hR : ∀ t, r = .inr t → rt_X2_applied x  t) : ∀ (m : Nat) (s : Int32 × Int32), loopN (f_X2_applied_s6 c0 c1 c2 c3 c4) m s = some r → G x 7 k n (w0 (cxT x)) [(0, .int c0), (1, .int c1), (2, .int c2), (3, .int c3), (4, .int c4), (5, .int s.1), (6, .int s.2)] 6 [] := by
  refine loop_W _ (fun (s : Int32 × Int32) => G x 7 k n (w0 (cxT x)) [(0, .int c0), (1, .int c1), (2, .int c2), (3, .int c3), (4, .int c4), (5, .int s.1), (6, .int s.2)] 6 []) r ?_
  intro s ww hf hw
  unfold f_X2_applied_s6 at hf
  obtain ⟨s_0, s_1⟩ := s
  try dsimp -simprocs only at hf ⊢
  refine g_iload o 6 rfl dX2_applied_6 ?_
  refine g_iconst o ic_4 dX2_applied_8 ?_
  refine g_ic_ge (tgt := 53) o rfl dX2_applied_9 hf (fun hc hf => ?_) (fun hc hf => ?_)
  · exact g_perm [5] rfl (hX _ (lf_x hf hw))
  · refine g_iload o 5 rfl dX2_applied_12 ?_
    refine g_iload_n o 1 rfl rfl dX2_applied_14 ?_
    refine g_iload_n o 0 rfl rfl dX2_applied_15 ?_
    refine g_iload_n o 2 rfl rfl dX2_applied_16 ?_
    refine g_iload o 6 rfl dX2_applied_17 ?_
    refine g_ishr o dX2_applied_19 ?_
    refine g_iconst o ic_1 dX2_applied_20 ?_
    refine g_iand o dX2_applied_21 ?_
    refine g_iload_n o 3 rfl rfl dX2_applied_22 ?_
    refine g_iload o 6 rfl dX2_applied_23 ?_
    refine g_ishr o dX2_applied_25 ?_
    refine g_iconst o ic_1 dX2_applied_26 ?_
    refine g_iand o dX2_applied_27 ?_
    refine g_iload o 4 rfl dX2_applied_28 ?_
    refine g_iload o 6 rfl dX2_applied_30 ?_
    refine g_ishr o dX2_applied_32 ?_
    refine g_iconst o ic_1 dX2_applied_33 ?_
    refine g_iand o dX2_applied_34 ?_
    obtain ⟨r3, hr3, hf⟩ := bd_some hf
    refine k_X2_placeOf_ o hr3 m_1086 (Nat.le_of_ble_eq_true rfl) (Nat.le_of_ble_eq_true rfl) ⟨hk, hn⟩ dX2_applied_35 ?_
    refine g_ishr o dX2_applied_38 ?_
    refine g_iconst o ic_1 dX2_applied_39 ?_
    refine g_iand o dX2_applied_40 ?_
    refine g_iload o 6 rfl dX2_applied_41 ?_
    refine g_ishl o dX2_applied_43 ?_
    refine g_ior o dX2_applied_44 ?_
    refine g_nmi hf (fun x4 hf => ?_)
    refine g_istore o [(5, .int x4), (0, .int c0), (1, .int c1), (2, .int c2), (3, .int c3), (4, .int c4), (6, .int s_1)] (Nat.le_of_ble_eq_true rfl) rfl dX2_applied_45 ?_
    refine g_iinc o [(6, .int (s_1 + 1)), (5, .int x4), (0, .int c0), (1, .int c1), (2, .int c2), (3, .int c3), (4, .int c4)] 6 rfl (inc_1 _) (Nat.le_of_ble_eq_true rfl) rfl dX2_applied_47 ?_
    refine g_goto (tgt := 6) o rfl dX2_applied_50 ?_
    have hp := lf_c hf hw
    exact g_perm [2, 3, 4, 5, 6, 1, 0] rfl hp
set_option maxRecDepth 20000 in
set_option maxHeartbeats 2000000 in
theorem b_X2_applied {x : Cx} (o : Ok x cX2_applied 7 RX2 1 0 0) (p0 : Int32) (p1 : Int32) (p2 : Int32) (p3 : Int32) (p4 : Int32) (t : Int32) (hf : f_X2_applied p0 p1 p2 p3 p4 = some t) (hret : rt_X2_applied x  t) : G x 7 0 0 (w0 (cxT x)) [(0, .int p0), (1, .int p1), (2, .int p2), (3, .int p3), (4, .int p4)] 0 [] := by
  unfold f_X2_applied at hf
  refine g_iconst o ic_0 dX2_applied_0 ?_
  refine g_istore o [(5, .int 0), (0, .int p0), (1, .int p1), (2, .int p2), (3, .int p3), (4, .int p4)] (Nat.le_of_ble_eq_true rfl) rfl dX2_applied_1 ?_
  refine g_iconst o ic_0 dX2_applied_3 ?_
  refine g_istore o [(6, .int 0), (5, .int 0), (0, .int p0), (1, .int p1), (2, .int p2), (3, .int p3), (4, .int p4)] (Nat.le_of_ble_eq_true rfl) rfl dX2_applied_4 ?_
  obtain ⟨r8, hr8, hxr8, hrr8⟩ := bl_some hf
  refine g_perm [2, 3, 4, 5, 6, 1, 0] rfl (b_X2_applied_L6 o (Nat.le_of_ble_eq_true rfl) (Nat.le_of_ble_eq_true rfl)  p0 p1 p2 p3 p4 r8 (fun s6 hs => ?_) (fun t7 ht => ?_) FU (0, 0) hr8)
  · have hf := hxr8 s6 hs
    obtain ⟨s6_0, s6_1⟩ := s6
    try dsimp -simprocs only at hf ⊢
    refine g_iload o 0 rfl dX2_applied_53 ?_
    cases Option.some.inj hf
    exact g_iret hret (Nat.le_of_ble_eq_true rfl) (Nat.le_of_ble_eq_true rfl) (vp_nar_int _) dX2_applied_55
  · have hf := hrr8 t7 ht
    cases Option.some.inj hf
    exact hret
theorem c_X2_applied (l : Launch) (hst : l.stackTraces = false) (p0 : Int32) (p1 : Int32) (p2 : Int32) (p3 : Int32) (p4 : Int32) (t : Int32) (hf : f_X2_applied p0 p1 p2 p3 p4 = some t) : CoI l yX2_applied (.code yX2_applied cX2_applied 7 (some .int)) 1 0 0 [.int p0, .int p1, .int p2, .int p3, .int p4] w0 w0 (.inl t) := mkI hst (by decide +kernel) (Nat.le_of_ble_eq_true rfl) (fun x _ o hI hX => b_X2_applied o p0 p1 p2 p3 p4 t hf (hI _ rfl))
theorem k_X2_applied_ {x : Cx} {cc : ByteArray} {nL : Nat} {own : String} {d mc ms k n : Nat} {lv : List (Nat × Value)} {pc i : Nat} {rest : List Value} {wd : va_W} {p0 : Int32} {p1 : Int32} {p2 : Int32} {p3 : Int32} {p4 : Int32} (o : Ok x cc nL own d mc ms) {t : Int32} (ht : f_X2_applied p0 p1 p2 p3 p4 = some t) (hlk : Cond.methodLink own i yX2_applied ∈ Ug) (hd : 1 < d) (hr : (rest.map fun v => v.category).sum ≤ 8) (hk : k + 0 ≤ mc ∧ n + 0 ≤ ms) (dg : decode cc pc = .ok (.invokestatic i, 3)) (kk : G x nL (k + 0) (n + 0) wd lv (pc + 3) (.int t :: rest)) : G x nL k n wd lv pc (.int p4 :: .int p3 :: .int p2 :: .int p1 :: .int p0 :: rest) := gcI (wd2 := wd) o (c_X2_applied (cxl x) o.2.2.2.2.2.2.2.2.2.1 p0 p1 p2 p3 p4 t ht) (can_S o hd (Nat.le_of_ble_eq_true rfl) m_1103 m_56 m_1102 hlk yk_X2_applied rfl hr hk dg) sp_none (fun E h => by cases h) (fun r h => by cases h; exact kk)
def rt_X2_doesPreserve (x : Cx) (a : Nat → Nat) (u : St) (t : Int32) : Prop := RetI x cX2_doesPreserve .boolean 0 0 (wM a u (cxT x)) t
set_option maxRecDepth 20000 in
set_option maxHeartbeats 2000000 in
theorem b_X2_doesPreserve_L98 {x : Cx} (o : Ok x cX2_doesPreserve 9 RX2 2 0 0) {k n : Nat} (hk : k ≤ 0) (hn : n ≤ 0) (a : Nat → Nat) (u : St) (c1 : Int32) (c2 : Int32) (c4 : Int32) (c5 : Int32) (c6 : Int32) (c7 : Int32) (r : (Int32) ⊕ (Int32)) (hX : ∀ s : Int32, r = .inl s → G x 9 k n (wM a u (cxT x)) [(1, .int c1), (2, .int c2), (4, .int c4), (5, .int c5), (6, .int c6), (7, .int c7)] 160 []) (hR : ∀ t, r = .inr t → rt_X2_doesPreserve x a u t) : ∀ (m : Nat) (s : Int32), loopN (f_X2_doesPreserve_s98 u c1 c2 c4 c5 c6 c7) m s = some r → G x 9 k n (wM a u (cxT x)) [(1, .int c1), (2, .int c2), (4, .int c4), (5, .int c5), (6, .int c6), (7, .int c7), (8, .int s)] 98 [] := by
  refine loop_W _ (fun (s : Int32) => G x 9 k n (wM a u (cxT x)) [(1, .int c1), (2, .int c2), (4, .int c4), (5, .int c5), (6, .int c6), (7, .int c7), (8, .int s)] 98 []) r ?_
  intro s ww hf hw
  unfold f_X2_doesPreserve_s98 at hf
  refine g_iload o 6 rfl dX2_doesPreserve_98 ?_
  refine g_iload_n o 0 rfl rfl dX2_doesPreserve_100 ?_
  refine g_iconst o ic_2 dX2_doesPreserve_101 ?_
  refine g_ic_le (tgt := 110) o rfl dX2_doesPreserve_102 hf (fun hc hf => ?_) (fun hc hf => ?_)
  · refine g_iconst o ic_0 dX2_doesPreserve_110 ?_
    refine g_ic_gt (tgt := 160) o rfl dX2_doesPreserve_111 hf (fun hc hf => ?_) (fun hc hf => ?_)
    · exact g_perm [0, 1, 2, 3, 4, 5] rfl (hX _ (lf_x hf hw))
    · refine g_iload_n o 0 rfl rfl dX2_doesPreserve_114 ?_
      refine g_iconst o ic_3 dX2_doesPreserve_115 ?_
      refine g_ic_lt (tgt := 130) o rfl dX2_doesPreserve_116 hf (fun hc hf => ?_) (fun hc hf => ?_)
      · refine g_iload o 3 rfl dX2_doesPreserve_130 ?_
        refine g_iload_n o 0 rfl rfl dX2_doesPreserve_132 ?_
        refine g_iload_n o 1 rfl rfl dX2_doesPreserve_133 ?_
        refine g_iload o 4 rfl dX2_doesPreserve_134 ?_
        refine g_iload o 5 rfl dX2_doesPreserve_136 ?_
        refine g_iload o 6 rfl dX2_doesPreserve_138 ?_
        obtain ⟨r7, hr7, hf⟩ := bd_some hf
        refine k_X2_applied_ o hr7 m_1101 (Nat.le_of_ble_eq_true rfl) (Nat.le_of_ble_eq_true rfl) ⟨hk, hn⟩ dX2_doesPreserve_140 ?_
        refine g_iload o 2 rfl dX2_doesPreserve_143 ?_
        refine g_iand o dX2_doesPreserve_145 ?_
        refine g_ishr o dX2_doesPreserve_146 ?_
        refine g_iconst o ic_1 dX2_doesPreserve_147 ?_
        refine g_iand o dX2_doesPreserve_148 ?_
        refine g_if_ne (tgt := 154) o rfl dX2_doesPreserve_149 hf (fun hc hf => ?_) (fun hc hf => ?_)
        · refine g_iinc o [(8, .int (s + 1)), (1, .int c1), (2, .int c2), (4, .int c4), (5, .int c5), (6, .int c6), (7, .int c7)] 6 rfl (inc_1 _) (Nat.le_of_ble_eq_true rfl) rfl dX2_doesPreserve_154 ?_
          refine g_goto (tgt := 98) o rfl dX2_doesPreserve_157 ?_
          have hp := lf_c hf hw
          exact g_perm [1, 2, 3, 4, 5, 6, 0] rfl hp
        · refine g_iconst o ic_0 dX2_doesPreserve_152 ?_
          exact g_iret (hR _ (lf_x hf hw)) hk hn nb_0 dX2_doesPreserve_153
      · refine g_iload o 3 rfl dX2_doesPreserve_119 ?_
        refine g_iload o 6 rfl dX2_doesPreserve_121 ?_
        refine g_ishr o dX2_doesPreserve_123 ?_
        refine g_iconst o ic_1 dX2_doesPreserve_124 ?_
        refine g_iand o dX2_doesPreserve_125 ?_
        refine g_iconst o ic_1 dX2_doesPreserve_126 ?_
        refine g_ic_ne (tgt := 154) o rfl dX2_doesPreserve_127 hf (fun hc hf => ?_) (fun hc hf => ?_)
        · refine g_iinc o [(8, .int (s + 1)), (1, .int c1), (2, .int c2), (4, .int c4), (5, .int c5), (6, .int c6), (7, .int c7)] 6 rfl (inc_1 _) (Nat.le_of_ble_eq_true rfl) rfl dX2_doesPreserve_154 ?_
          refine g_goto (tgt := 98) o rfl dX2_doesPreserve_157 ?_
          have hp := lf_c hf hw
          exact g_perm [1, 2, 3, 4, 5, 6, 0] rfl hp
        · refine g_iload o 3 rfl dX2_doesPreserve_130 ?_
          refine g_iload_n o 0 rfl rfl dX2_doesPreserve_132 ?_
          refine g_iload_n o 1 rfl rfl dX2_doesPreserve_133 ?_
          refine g_iload o 4 rfl dX2_doesPreserve_134 ?_
          refine g_iload o 5 rfl dX2_doesPreserve_136 ?_
          refine g_iload o 6 rfl dX2_doesPreserve_138 ?_
          obtain ⟨r8, hr8, hf⟩ := bd_some hf
          refine k_X2_applied_ o hr8 m_1101 (Nat.le_of_ble_eq_true rfl) (Nat.le_of_ble_eq_true rfl) ⟨hk, hn⟩ dX2_doesPreserve_140 ?_
          refine g_iload o 2 rfl dX2_doesPreserve_143 ?_
          refine g_iand o dX2_doesPreserve_145 ?_
          refine g_ishr o dX2_doesPreserve_146 ?_
          refine g_iconst o ic_1 dX2_doesPreserve_147 ?_
          refine g_iand o dX2_doesPreserve_148 ?_
          refine g_if_ne (tgt := 154) o rfl dX2_doesPreserve_149 hf (fun hc hf => ?_) (fun hc hf => ?_)
          · refine g_iinc o [(8, .int (s + 1)), (1, .int c1), (2, .int c2), (4, .int c4), (5, .int c5), (6, .int c6), (7, .int c7)] 6 rfl (inc_1 _) (Nat.le_of_ble_eq_true rfl) rfl dX2_doesPreserve_154 ?_
            refine g_goto (tgt := 98) o rfl dX2_doesPreserve_157 ?_
            have hp := lf_c hf hw
            exact g_perm [1, 2, 3, 4, 5, 6, 0] rfl hp
          · refine g_iconst o ic_0 dX2_doesPreserve_152 ?_
            exact g_iret (hR _ (lf_x hf hw)) hk hn nb_0 dX2_doesPreserve_153
  · refine g_iload o 2 rfl dX2_doesPreserve_105 ?_
    refine g_goto (tgt := 111) o rfl dX2_doesPreserve_107 ?_
    refine g_ic_gt (tgt := 160) o rfl dX2_doesPreserve_111 hf (fun hc hf => ?_) (fun hc hf => ?_)
    · exact g_perm [0, 1, 2, 3, 4, 5] rfl (hX _ (lf_x hf hw))
    · refine g_iload_n o 0 rfl rfl dX2_doesPreserve_114 ?_
      refine g_iconst o ic_3 dX2_doesPreserve_115 ?_
      refine g_ic_lt (tgt := 130) o rfl dX2_doesPreserve_116 hf (fun hc hf => ?_) (fun hc hf => ?_)
      · refine g_iload o 3 rfl dX2_doesPreserve_130 ?_
        refine g_iload_n o 0 rfl rfl dX2_doesPreserve_132 ?_
        refine g_iload_n o 1 rfl rfl dX2_doesPreserve_133 ?_
        refine g_iload o 4 rfl dX2_doesPreserve_134 ?_
        refine g_iload o 5 rfl dX2_doesPreserve_136 ?_
        refine g_iload o 6 rfl dX2_doesPreserve_138 ?_
        obtain ⟨r9, hr9, hf⟩ := bd_some hf
        refine k_X2_applied_ o hr9 m_1101 (Nat.le_of_ble_eq_true rfl) (Nat.le_of_ble_eq_true rfl) ⟨hk, hn⟩ dX2_doesPreserve_140 ?_
        refine g_iload o 2 rfl dX2_doesPreserve_143 ?_
        refine g_iand o dX2_doesPreserve_145 ?_
        refine g_ishr o dX2_doesPreserve_146 ?_
        refine g_iconst o ic_1 dX2_doesPreserve_147 ?_
        refine g_iand o dX2_doesPreserve_148 ?_
        refine g_if_ne (tgt := 154) o rfl dX2_doesPreserve_149 hf (fun hc hf => ?_) (fun hc hf => ?_)
        · refine g_iinc o [(8, .int (s + 1)), (1, .int c1), (2, .int c2), (4, .int c4), (5, .int c5), (6, .int c6), (7, .int c7)] 6 rfl (inc_1 _) (Nat.le_of_ble_eq_true rfl) rfl dX2_doesPreserve_154 ?_
          refine g_goto (tgt := 98) o rfl dX2_doesPreserve_157 ?_
          have hp := lf_c hf hw
          exact g_perm [1, 2, 3, 4, 5, 6, 0] rfl hp
        · refine g_iconst o ic_0 dX2_doesPreserve_152 ?_
          exact g_iret (hR _ (lf_x hf hw)) hk hn nb_0 dX2_doesPreserve_153
      · refine g_iload o 3 rfl dX2_doesPreserve_119 ?_
        refine g_iload o 6 rfl dX2_doesPreserve_121 ?_
        refine g_ishr o dX2_doesPreserve_123 ?_
        refine g_iconst o ic_1 dX2_doesPreserve_124 ?_
        refine g_iand o dX2_doesPreserve_125 ?_
        refine g_iconst o ic_1 dX2_doesPreserve_126 ?_
        refine g_ic_ne (tgt := 154) o rfl dX2_doesPreserve_127 hf (fun hc hf => ?_) (fun hc hf => ?_)
        · refine g_iinc o [(8, .int (s + 1)), (1, .int c1), (2, .int c2), (4, .int c4), (5, .int c5), (6, .int c6), (7, .int c7)] 6 rfl (inc_1 _) (Nat.le_of_ble_eq_true rfl) rfl dX2_doesPreserve_154 ?_
          refine g_goto (tgt := 98) o rfl dX2_doesPreserve_157 ?_
          have hp := lf_c hf hw
          exact g_perm [1, 2, 3, 4, 5, 6, 0] rfl hp
        · refine g_iload o 3 rfl dX2_doesPreserve_130 ?_
          refine g_iload_n o 0 rfl rfl dX2_doesPreserve_132 ?_
          refine g_iload_n o 1 rfl rfl dX2_doesPreserve_133 ?_
          refine g_iload o 4 rfl dX2_doesPreserve_134 ?_
          refine g_iload o 5 rfl dX2_doesPreserve_136 ?_
          refine g_iload o 6 rfl dX2_doesPreserve_138 ?_
          obtain ⟨r10, hr10, hf⟩ := bd_some hf
          refine k_X2_applied_ o hr10 m_1101 (Nat.le_of_ble_eq_true rfl) (Nat.le_of_ble_eq_true rfl) ⟨hk, hn⟩ dX2_doesPreserve_140 ?_
          refine g_iload o 2 rfl dX2_doesPreserve_143 ?_
          refine g_iand o dX2_doesPreserve_145 ?_
          refine g_ishr o dX2_doesPreserve_146 ?_
          refine g_iconst o ic_1 dX2_doesPreserve_147 ?_
          refine g_iand o dX2_doesPreserve_148 ?_
          refine g_if_ne (tgt := 154) o rfl dX2_doesPreserve_149 hf (fun hc hf => ?_) (fun hc hf => ?_)
          · refine g_iinc o [(8, .int (s + 1)), (1, .int c1), (2, .int c2), (4, .int c4), (5, .int c5), (6, .int c6), (7, .int c7)] 6 rfl (inc_1 _) (Nat.le_of_ble_eq_true rfl) rfl dX2_doesPreserve_154 ?_
            refine g_goto (tgt := 98) o rfl dX2_doesPreserve_157 ?_
            have hp := lf_c hf hw
            exact g_perm [1, 2, 3, 4, 5, 6, 0] rfl hp
          · refine g_iconst o ic_0 dX2_doesPreserve_152 ?_
            exact g_iret (hR _ (lf_x hf hw)) hk hn nb_0 dX2_doesPreserve_153
set_option maxRecDepth 20000 in
set_option maxHeartbeats 2000000 in
theorem b_X2_doesPreserve_L61 {x : Cx} (o : Ok x cX2_doesPreserve 9 RX2 2 0 0) {k n : Nat} (hk : k ≤ 0) (hn : n ≤ 0) (a : Nat → Nat) (u : St) (c1 : Int32) (c2 : Int32) (c4 : Int32) (c5 : Int32) (c6 : Int32) (r : (Int32) ⊕ (Int32)) (hX : ∀ s : Int32, r = .inl s → G x 9 k n (wM a u (cxT x)) [(1, .int c1), (2, .int c2), (4, .int c4), (5, .int c5), (6, .int c6)] 166 []) (hR : ∀ t, r = .inr t → rt_X2_doesPreserve x a u t) : ∀ (m : Nat) (s : Int32), loopN (f_X2_doesPreserve_s61 u c1 c2 c4 c5 c6) m s = some r → G x 9 k n (wM a u (cxT x)) [(1, .int c1), (2, .int c2), (4, .int c4), (5, .int c5), (6, .int c6), (7, .int s)] 61 [] := by
  refine loop_W _ (fun (s : Int32) => G x 9 k n (wM a u (cxT x)) [(1, .int c1), (2, .int c2), (4, .int c4), (5, .int c5), (6, .int c6), (7, .int s)] 61 []) r ?_
  intro s ww hf hw
  unfold f_X2_doesPreserve_s61 at hf
  refine g_iload o 5 rfl dX2_doesPreserve_61 ?_
  refine g_iload_n o 0 rfl rfl dX2_doesPreserve_63 ?_
  refine g_iconst o ic_1 dX2_doesPreserve_64 ?_
  refine g_ic_le (tgt := 73) o rfl dX2_doesPreserve_65 hf (fun hc hf => ?_) (fun hc hf => ?_)
  · refine g_iconst o ic_0 dX2_doesPreserve_73 ?_
    refine g_ic_gt (tgt := 166) o rfl dX2_doesPreserve_74 hf (fun hc hf => ?_) (fun hc hf => ?_)
    · exact g_perm [0, 1, 2, 3, 4] rfl (hX _ (lf_x hf hw))
    · refine g_iload_n o 0 rfl rfl dX2_doesPreserve_77 ?_
      refine g_iconst o ic_1 dX2_doesPreserve_78 ?_
      refine g_ic_le (tgt := 95) o rfl dX2_doesPreserve_79 hf (fun hc hf => ?_) (fun hc hf => ?_)
      · refine g_iconst o ic_0 dX2_doesPreserve_95 ?_
        refine g_istore o [(8, .int 0), (1, .int c1), (2, .int c2), (4, .int c4), (5, .int c5), (6, .int c6), (7, .int s)] (Nat.le_of_ble_eq_true rfl) rfl dX2_doesPreserve_96 ?_
        obtain ⟨r25, hr25, hxr25, hrr25⟩ := bl_some hf
        refine g_perm [1, 2, 3, 4, 5, 6, 0] rfl (b_X2_doesPreserve_L98 o hk hn a u c1 c2 c4 c5 c6 s r25 (fun s98_23 hs => ?_) (fun t24 ht => ?_) FU 0 hr25)
        · have hf := hxr25 s98_23 hs
          refine g_iinc o [(7, .int (s + 1)), (1, .int c1), (2, .int c2), (4, .int c4), (5, .int c5), (6, .int c6)] 5 rfl (inc_1 _) (Nat.le_of_ble_eq_true rfl) rfl dX2_doesPreserve_160 ?_
          refine g_goto (tgt := 61) o rfl dX2_doesPreserve_163 ?_
          have hp := lf_c hf hw
          exact g_perm [1, 2, 3, 4, 5, 0] rfl hp
        · have hf := hrr25 t24 ht
          exact hR t24 (lf_x hf hw)
      · refine g_iload o 3 rfl dX2_doesPreserve_82 ?_
        refine g_iload o 5 rfl dX2_doesPreserve_84 ?_
        refine g_ishr o dX2_doesPreserve_86 ?_
        refine g_iconst o ic_1 dX2_doesPreserve_87 ?_
        refine g_iand o dX2_doesPreserve_88 ?_
        refine g_if_ne (tgt := 95) o rfl dX2_doesPreserve_89 hf (fun hc hf => ?_) (fun hc hf => ?_)
        · refine g_iconst o ic_0 dX2_doesPreserve_95 ?_
          refine g_istore o [(8, .int 0), (1, .int c1), (2, .int c2), (4, .int c4), (5, .int c5), (6, .int c6), (7, .int s)] (Nat.le_of_ble_eq_true rfl) rfl dX2_doesPreserve_96 ?_
          obtain ⟨r28, hr28, hxr28, hrr28⟩ := bl_some hf
          refine g_perm [1, 2, 3, 4, 5, 6, 0] rfl (b_X2_doesPreserve_L98 o hk hn a u c1 c2 c4 c5 c6 s r28 (fun s98_26 hs => ?_) (fun t27 ht => ?_) FU 0 hr28)
          · have hf := hxr28 s98_26 hs
            refine g_iinc o [(7, .int (s + 1)), (1, .int c1), (2, .int c2), (4, .int c4), (5, .int c5), (6, .int c6)] 5 rfl (inc_1 _) (Nat.le_of_ble_eq_true rfl) rfl dX2_doesPreserve_160 ?_
            refine g_goto (tgt := 61) o rfl dX2_doesPreserve_163 ?_
            have hp := lf_c hf hw
            exact g_perm [1, 2, 3, 4, 5, 0] rfl hp
          · have hf := hrr28 t27 ht
            exact hR t27 (lf_x hf hw)
        · refine g_goto (tgt := 160) o rfl dX2_doesPreserve_92 ?_
          refine g_iinc o [(7, .int (s + 1)), (1, .int c1), (2, .int c2), (4, .int c4), (5, .int c5), (6, .int c6)] 5 rfl (inc_1 _) (Nat.le_of_ble_eq_true rfl) rfl dX2_doesPreserve_160 ?_
          refine g_goto (tgt := 61) o rfl dX2_doesPreserve_163 ?_
          have hp := lf_c hf hw
          exact g_perm [1, 2, 3, 4, 5, 0] rfl hp
  · refine g_iload o 2 rfl dX2_doesPreserve_68 ?_
    refine g_goto (tgt := 74) o rfl dX2_doesPreserve_70 ?_
    refine g_ic_gt (tgt := 166) o rfl dX2_doesPreserve_74 hf (fun hc hf => ?_) (fun hc hf => ?_)
    · exact g_perm [0, 1, 2, 3, 4] rfl (hX _ (lf_x hf hw))
    · refine g_iload_n o 0 rfl rfl dX2_doesPreserve_77 ?_
      refine g_iconst o ic_1 dX2_doesPreserve_78 ?_
      refine g_ic_le (tgt := 95) o rfl dX2_doesPreserve_79 hf (fun hc hf => ?_) (fun hc hf => ?_)
      · refine g_iconst o ic_0 dX2_doesPreserve_95 ?_
        refine g_istore o [(8, .int 0), (1, .int c1), (2, .int c2), (4, .int c4), (5, .int c5), (6, .int c6), (7, .int s)] (Nat.le_of_ble_eq_true rfl) rfl dX2_doesPreserve_96 ?_
        obtain ⟨r31, hr31, hxr31, hrr31⟩ := bl_some hf
        refine g_perm [1, 2, 3, 4, 5, 6, 0] rfl (b_X2_doesPreserve_L98 o hk hn a u c1 c2 c4 c5 c6 s r31 (fun s98_29 hs => ?_) (fun t30 ht => ?_) FU 0 hr31)
        · have hf := hxr31 s98_29 hs
          refine g_iinc o [(7, .int (s + 1)), (1, .int c1), (2, .int c2), (4, .int c4), (5, .int c5), (6, .int c6)] 5 rfl (inc_1 _) (Nat.le_of_ble_eq_true rfl) rfl dX2_doesPreserve_160 ?_
          refine g_goto (tgt := 61) o rfl dX2_doesPreserve_163 ?_
          have hp := lf_c hf hw
          exact g_perm [1, 2, 3, 4, 5, 0] rfl hp
        · have hf := hrr31 t30 ht
          exact hR t30 (lf_x hf hw)
      · refine g_iload o 3 rfl dX2_doesPreserve_82 ?_
        refine g_iload o 5 rfl dX2_doesPreserve_84 ?_
        refine g_ishr o dX2_doesPreserve_86 ?_
        refine g_iconst o ic_1 dX2_doesPreserve_87 ?_
        refine g_iand o dX2_doesPreserve_88 ?_
        refine g_if_ne (tgt := 95) o rfl dX2_doesPreserve_89 hf (fun hc hf => ?_) (fun hc hf => ?_)
        · refine g_iconst o ic_0 dX2_doesPreserve_95 ?_
          refine g_istore o [(8, .int 0), (1, .int c1), (2, .int c2), (4, .int c4), (5, .int c5), (6, .int c6), (7, .int s)] (Nat.le_of_ble_eq_true rfl) rfl dX2_doesPreserve_96 ?_
          obtain ⟨r34, hr34, hxr34, hrr34⟩ := bl_some hf
          refine g_perm [1, 2, 3, 4, 5, 6, 0] rfl (b_X2_doesPreserve_L98 o hk hn a u c1 c2 c4 c5 c6 s r34 (fun s98_32 hs => ?_) (fun t33 ht => ?_) FU 0 hr34)
          · have hf := hxr34 s98_32 hs
            refine g_iinc o [(7, .int (s + 1)), (1, .int c1), (2, .int c2), (4, .int c4), (5, .int c5), (6, .int c6)] 5 rfl (inc_1 _) (Nat.le_of_ble_eq_true rfl) rfl dX2_doesPreserve_160 ?_
            refine g_goto (tgt := 61) o rfl dX2_doesPreserve_163 ?_
            have hp := lf_c hf hw
            exact g_perm [1, 2, 3, 4, 5, 0] rfl hp
          · have hf := hrr34 t33 ht
            exact hR t33 (lf_x hf hw)
        · refine g_goto (tgt := 160) o rfl dX2_doesPreserve_92 ?_
          refine g_iinc o [(7, .int (s + 1)), (1, .int c1), (2, .int c2), (4, .int c4), (5, .int c5), (6, .int c6)] 5 rfl (inc_1 _) (Nat.le_of_ble_eq_true rfl) rfl dX2_doesPreserve_160 ?_
          refine g_goto (tgt := 61) o rfl dX2_doesPreserve_163 ?_
          have hp := lf_c hf hw
          exact g_perm [1, 2, 3, 4, 5, 0] rfl hp
set_option maxRecDepth 20000 in
set_option maxHeartbeats 2000000 in
theorem b_X2_doesPreserve_L38 {x : Cx} (o : Ok x cX2_doesPreserve 9 RX2 2 0 0) {k n : Nat} (hk : k ≤ 0) (hn : n ≤ 0) (a : Nat → Nat) (u : St) (c1 : Int32) (c2 : Int32) (c4 : Int32) (c5 : Int32) (r : (Int32) ⊕ (Int32)) (hX : ∀ s : Int32, r = .inl s → G x 9 k n (wM a u (cxT x)) [] 172 []) (hR : ∀ t, r = .inr t → rt_X2_doesPreserve x a u t) : ∀ (m : Nat) (s : Int32), loopN (f_X2_doesPreserve_s38 u c1 c2 c4 c5) m s = some r → G x 9 k n (wM a u (cxT x)) [(1, .int c1), (2, .int c2), (4, .int c4), (5, .int c5), (6, .int s)] 38 [] := by
  refine loop_W _ (fun (s : Int32) => G x 9 k n (wM a u (cxT x)) [(1, .int c1), (2, .int c2), (4, .int c4), (5, .int c5), (6, .int s)] 38 []) r ?_
  intro s ww hf hw
  unfold f_X2_doesPreserve_s38 at hf
  refine g_iload o 4 rfl dX2_doesPreserve_38 ?_
  refine g_iload o 2 rfl dX2_doesPreserve_40 ?_
  refine g_ic_gt (tgt := 172) o rfl dX2_doesPreserve_42 hf (fun hc hf => ?_) (fun hc hf => ?_)
  · exact g_perm [] rfl (hX _ (lf_x hf hw))
  · refine g_iload o 3 rfl dX2_doesPreserve_45 ?_
    refine g_iload o 4 rfl dX2_doesPreserve_47 ?_
    refine g_ishr o dX2_doesPreserve_49 ?_
    refine g_iconst o ic_1 dX2_doesPreserve_50 ?_
    refine g_iand o dX2_doesPreserve_51 ?_
    refine g_if_ne (tgt := 58) o rfl dX2_doesPreserve_52 hf (fun hc hf => ?_) (fun hc hf => ?_)
    · refine g_iconst o ic_0 dX2_doesPreserve_58 ?_
      refine g_istore o [(7, .int 0), (1, .int c1), (2, .int c2), (4, .int c4), (5, .int c5), (6, .int s)] (Nat.le_of_ble_eq_true rfl) rfl dX2_doesPreserve_59 ?_
      obtain ⟨r40, hr40, hxr40, hrr40⟩ := bl_some hf
      refine g_perm [1, 2, 3, 4, 5, 0] rfl (b_X2_doesPreserve_L61 o hk hn a u c1 c2 c4 c5 s r40 (fun s61_38 hs => ?_) (fun t39 ht => ?_) FU 0 hr40)
      · have hf := hxr40 s61_38 hs
        refine g_iinc o [(6, .int (s + 1)), (1, .int c1), (2, .int c2), (4, .int c4), (5, .int c5)] 4 rfl (inc_1 _) (Nat.le_of_ble_eq_true rfl) rfl dX2_doesPreserve_166 ?_
        refine g_goto (tgt := 38) o rfl dX2_doesPreserve_169 ?_
        have hp := lf_c hf hw
        exact g_perm [1, 2, 3, 4, 0] rfl hp
      · have hf := hrr40 t39 ht
        exact hR t39 (lf_x hf hw)
    · refine g_goto (tgt := 166) o rfl dX2_doesPreserve_55 ?_
      refine g_iinc o [(6, .int (s + 1)), (1, .int c1), (2, .int c2), (4, .int c4), (5, .int c5)] 4 rfl (inc_1 _) (Nat.le_of_ble_eq_true rfl) rfl dX2_doesPreserve_166 ?_
      refine g_goto (tgt := 38) o rfl dX2_doesPreserve_169 ?_
      have hp := lf_c hf hw
      exact g_perm [1, 2, 3, 4, 0] rfl hp
set_option maxRecDepth 20000 in
set_option maxHeartbeats 2000000 in
theorem b_X2_doesPreserve {x : Cx} (o : Ok x cX2_doesPreserve 9 RX2 2 0 0) (a : Nat → Nat) (u : St) (p0 : Int32) (p1 : Int32) (p2 : Int32) (t : Int32) (hf : f_X2_doesPreserve u p0 p1 p2 = some t) (hret : rt_X2_doesPreserve x a u t) : G x 9 0 0 (wM a u (cxT x)) [(0, .ref (a 0)), (1, .int p0), (2, .int p1), (3, .int p2)] 0 [] := by
  unfold f_X2_doesPreserve at hf
  refine g_iconst o ic_1 dX2_doesPreserve_0 ?_
  refine g_aload_n o 0 rfl rfl dX2_doesPreserve_1 ?_
  refine M_get1 o m_920 dX2_doesPreserve_2 ?_
  refine g_iload_n o 3 rfl rfl dX2_doesPreserve_5 ?_
  refine M_ld1 o dX2_doesPreserve_6 hf (fun hf => ?_)
  refine g_ishl o dX2_doesPreserve_7 ?_
  refine g_iconst o ic_1 dX2_doesPreserve_8 ?_
  refine g_isub o dX2_doesPreserve_9 ?_
  refine g_nmi hf (fun x43 hf => ?_)
  refine g_istore o [(4, .int x43), (0, .ref (a 0)), (1, .int p0), (2, .int p1), (3, .int p2)] (Nat.le_of_ble_eq_true rfl) rfl dX2_doesPreserve_10 ?_
  refine g_aload_n o 1 rfl rfl dX2_doesPreserve_12 ?_
  refine M_get2 o m_921 dX2_doesPreserve_13 ?_
  refine g_iload_n o 4 rfl rfl dX2_doesPreserve_16 ?_
  refine M_ld2 o dX2_doesPreserve_17 hf (fun hf => ?_)
  refine g_nmi hf (fun x44 hf => ?_)
  refine g_istore o [(5, .int x44), (4, .int x43), (0, .ref (a 0)), (1, .int p0), (2, .int p1), (3, .int p2)] (Nat.le_of_ble_eq_true rfl) rfl dX2_doesPreserve_18 ?_
  refine g_iload o 0 rfl dX2_doesPreserve_20 ?_
  refine g_iconst o ic_1 dX2_doesPreserve_22 ?_
  refine g_iload o 1 rfl dX2_doesPreserve_23 ?_
  refine g_iconst o ic_1 dX2_doesPreserve_25 ?_
  refine g_iadd o dX2_doesPreserve_26 ?_
  refine g_ishl o dX2_doesPreserve_27 ?_
  refine g_iconst o ic_1 dX2_doesPreserve_28 ?_
  refine g_isub o dX2_doesPreserve_29 ?_
  refine g_ic_ne (tgt := 35) o rfl dX2_doesPreserve_30 hf (fun hc hf => ?_) (fun hc hf => ?_)
  · refine g_iconst o ic_0 dX2_doesPreserve_35 ?_
    refine g_istore o [(6, .int 0), (5, .int x44), (4, .int x43), (0, .ref (a 0)), (1, .int p0), (2, .int p1), (3, .int p2)] (Nat.le_of_ble_eq_true rfl) rfl dX2_doesPreserve_36 ?_
    obtain ⟨r46, hr46, hxr46, hrr46⟩ := bl_some hf
    refine g_perm [4, 5, 2, 1, 0] rfl (b_X2_doesPreserve_L38 o (Nat.le_of_ble_eq_true rfl) (Nat.le_of_ble_eq_true rfl) a u p0 p1 x43 x44 r46 (fun s38 hs => ?_) (fun t45 ht => ?_) FU 0 hr46)
    · have hf := hxr46 s38 hs
      refine g_iconst o ic_1 dX2_doesPreserve_172 ?_
      cases Option.some.inj hf
      exact g_iret hret (Nat.le_of_ble_eq_true rfl) (Nat.le_of_ble_eq_true rfl) nb_1 dX2_doesPreserve_173
    · have hf := hrr46 t45 ht
      cases Option.some.inj hf
      exact hret
  · refine g_iconst o ic_1 dX2_doesPreserve_33 ?_
    cases Option.some.inj hf
    exact g_iret hret (Nat.le_of_ble_eq_true rfl) (Nat.le_of_ble_eq_true rfl) nb_1 dX2_doesPreserve_34
theorem c_X2_doesPreserve (l : Launch) (hst : l.stackTraces = false) (a : Nat → Nat) (u : St) (p0 : Int32) (p1 : Int32) (p2 : Int32) (t : Int32) (hf : f_X2_doesPreserve u p0 p1 p2 = some t) : CoI l yX2_doesPreserve (.code yX2_doesPreserve cX2_doesPreserve 9 (some .boolean)) 2 0 0 [.ref (a 0), .int p0, .int p1, .int p2] (wM a u) (wM a u) (.inl t) := mkI hst (by decide +kernel) (Nat.le_of_ble_eq_true rfl) (fun x _ o hI hX => b_X2_doesPreserve o a u p0 p1 p2 t hf (hI _ rfl))
theorem k_X2_doesPreserve_ {x : Cx} {cc : ByteArray} {nL : Nat} {own : String} {d mc ms k n : Nat} {lv : List (Nat × Value)} {pc i : Nat} {rest : List Value} {a : Nat → Nat} {u : St} {p0 : Int32} {p1 : Int32} {p2 : Int32} (o : Ok x cc nL own d mc ms) {t : Int32} (ht : f_X2_doesPreserve u p0 p1 p2 = some t) (hlk : Cond.methodLink own i yX2_doesPreserve ∈ Ug) (hd : 2 < d) (hr : (rest.map fun v => v.category).sum ≤ 8) (hk : k + 0 ≤ mc ∧ n + 0 ≤ ms) (dg : decode cc pc = .ok (.invokevirtual i, 3)) (kk : G x nL (k + 0) (n + 0) (wM a u (cxT x)) lv (pc + 3) (.int t :: rest)) : G x nL k n (wM a u (cxT x)) lv pc (.int p2 :: .int p1 :: .int p0 :: .ref (a 0) :: rest) := gcI (wd2 := (wM a u (cxT x))) o (c_X2_doesPreserve (cxl x) o.2.2.2.2.2.2.2.2.2.1 a u p0 p1 p2 t ht) (can_V (q0 := 0) o rfl rfl hd (Nat.le_of_ble_eq_true rfl) m_1100 m_56 m_1099 m_38 hlk yk_X2_doesPreserve rfl hr hk dg) sp_M (fun E h => by cases h) (fun r h => by cases h; exact kk)
def rt_X2_preserves (x : Cx) (a : Nat → Nat) (t : Int32 × St) : Prop := RetI x cX2_preserves .boolean 0 0 (wM a t.2 (cxT x)) t.1
set_option maxRecDepth 20000 in
set_option maxHeartbeats 2000000 in
theorem b_X2_preserves {x : Cx} (o : Ok x cX2_preserves 4 RX2 3 0 0) (a : Nat → Nat) (u : St) (p0 : Int32) (p1 : Int32) (p2 : Int32) (t : Int32 × St) (hf : f_X2_preserves u p0 p1 p2 = some t) (hret : rt_X2_preserves x a t) : G x 4 0 0 (wM a u (cxT x)) [(0, .ref (a 0)), (1, .int p0), (2, .int p1), (3, .int p2)] 0 [] := by
  unfold f_X2_preserves at hf
  refine g_iload_n o 1 rfl rfl dX2_preserves_0 ?_
  refine g_iload_n o 2 rfl rfl dX2_preserves_1 ?_
  obtain ⟨r6, hr6, hf⟩ := bd_some hf
  refine k_X2_isOperation_ o hr6 m_1083 (Nat.le_of_ble_eq_true rfl) (Nat.le_of_ble_eq_true rfl) ⟨(Nat.le_of_ble_eq_true rfl), (Nat.le_of_ble_eq_true rfl)⟩ dX2_preserves_2 ?_
  refine g_if_ne (tgt := 14) o rfl dX2_preserves_5 hf (fun hc hf => ?_) (fun hc hf => ?_)
  · refine g_aload_n o 0 rfl rfl dX2_preserves_14 ?_
    refine g_iload_n o 3 rfl rfl dX2_preserves_15 ?_
    obtain ⟨r7, hr7, hf⟩ := bd_some hf
    refine k_X2_isRelation_ o hr7 m_1031 (Nat.le_of_ble_eq_true rfl) (Nat.le_of_ble_eq_true rfl) ⟨(Nat.le_of_ble_eq_true rfl), (Nat.le_of_ble_eq_true rfl)⟩ dX2_preserves_16 ?_
    refine g_if_ne (tgt := 28) o rfl dX2_preserves_19 hf (fun hc hf => ?_) (fun hc hf => ?_)
    · refine g_aload_n o 0 rfl rfl dX2_preserves_28 ?_
      refine g_iconst o ic_0 dX2_preserves_29 ?_
      refine M_put0 o m_919 dX2_preserves_30 ?_
      refine g_aload_n o 0 rfl rfl dX2_preserves_33 ?_
      refine g_iload_n o 1 rfl rfl dX2_preserves_34 ?_
      refine g_iload_n o 2 rfl rfl dX2_preserves_35 ?_
      refine g_iload_n o 3 rfl rfl dX2_preserves_36 ?_
      obtain ⟨r8, hr8, hf⟩ := bd_some hf
      refine k_X2_doesPreserve_ o hr8 m_1097 (Nat.le_of_ble_eq_true rfl) (Nat.le_of_ble_eq_true rfl) ⟨(Nat.le_of_ble_eq_true rfl), (Nat.le_of_ble_eq_true rfl)⟩ dX2_preserves_37 ?_
      obtain ⟨hb, hf⟩ := gd_some hf
      cases Option.some.inj hf
      exact g_iret hret (Nat.le_of_ble_eq_true rfl) (Nat.le_of_ble_eq_true rfl) (okB_n hb) dX2_preserves_40
    · refine g_aload_n o 0 rfl rfl dX2_preserves_22 ?_
      refine g_iconst o ic_2 dX2_preserves_23 ?_
      obtain ⟨r9, hr9, hf⟩ := bd_some hf
      refine k_X2_refuses_ o hr9 m_1093 (Nat.le_of_ble_eq_true rfl) (Nat.le_of_ble_eq_true rfl) ⟨(Nat.le_of_ble_eq_true rfl), (Nat.le_of_ble_eq_true rfl)⟩ dX2_preserves_24 ?_
      obtain ⟨hb, hf⟩ := gd_some hf
      cases Option.some.inj hf
      exact g_iret hret (Nat.le_of_ble_eq_true rfl) (Nat.le_of_ble_eq_true rfl) (okB_n hb) dX2_preserves_27
  · refine g_aload_n o 0 rfl rfl dX2_preserves_8 ?_
    refine g_iconst o ic_1 dX2_preserves_9 ?_
    obtain ⟨r10, hr10, hf⟩ := bd_some hf
    refine k_X2_refuses_ o hr10 m_1093 (Nat.le_of_ble_eq_true rfl) (Nat.le_of_ble_eq_true rfl) ⟨(Nat.le_of_ble_eq_true rfl), (Nat.le_of_ble_eq_true rfl)⟩ dX2_preserves_10 ?_
    obtain ⟨hb, hf⟩ := gd_some hf
    cases Option.some.inj hf
    exact g_iret hret (Nat.le_of_ble_eq_true rfl) (Nat.le_of_ble_eq_true rfl) (okB_n hb) dX2_preserves_13
theorem c_X2_preserves (l : Launch) (hst : l.stackTraces = false) (a : Nat → Nat) (u : St) (p0 : Int32) (p1 : Int32) (p2 : Int32) (t : Int32 × St) (hf : f_X2_preserves u p0 p1 p2 = some t) : CoI l yX2_preserves (.code yX2_preserves cX2_preserves 4 (some .boolean)) 3 0 0 [.ref (a 0), .int p0, .int p1, .int p2] (wM a u) (wM a t.2) (.inl t.1) := mkI hst (by decide +kernel) (Nat.le_of_ble_eq_true rfl) (fun x _ o hI hX => b_X2_preserves o a u p0 p1 p2 t hf (hI _ rfl))
def rt_X2_isKept (x : Cx) (a : Nat → Nat) (u : St) (t : Int32) : Prop := RetI x cX2_isKept .boolean 0 0 (wM a u (cxT x)) t
set_option maxRecDepth 20000 in
set_option maxHeartbeats 2000000 in
theorem b_X2_isKept_L2 {x : Cx} (o : Ok x cX2_isKept 4 RX2 3 0 0) {k n : Nat} (hk : k ≤ 0) (hn : n ≤ 0) (a : Nat → Nat) (u : St) (c1 : Int32) (c2 : Int32) (r : (Int32) ⊕ (Int32)) (hX : ∀ s : Int32, r = .inl s → G x 4 k n (wM a u (cxT x)) [] 28 []) (hR : ∀ t, r = .inr t → rt_X2_isKept x a u t) : ∀ (m : Nat) (s : Int32), loopN (f_X2_isKept_s2 u c1 c2) m s = some r → G x 4 k n (wM a u (cxT x)) [(0, .ref (a 0)), (1, .int c1), (2, .int c2), (3, .int s)] 2 [] := by
  refine loop_W _ (fun (s : Int32) => G x 4 k n (wM a u (cxT x)) [(0, .ref (a 0)), (1, .int c1), (2, .int c2), (3, .int s)] 2 []) r ?_
  intro s ww hf hw
  unfold f_X2_isKept_s2 at hf
  refine g_iload_n o 3 rfl rfl dX2_isKept_2 ?_
  refine g_aload_n o 0 rfl rfl dX2_isKept_3 ?_
  refine M_get3 o m_922 dX2_isKept_4 ?_
  refine g_ic_ge (tgt := 28) o rfl dX2_isKept_7 hf (fun hc hf => ?_) (fun hc hf => ?_)
  · exact g_perm [] rfl (hX _ (lf_x hf hw))
  · refine g_aload_n o 0 rfl rfl dX2_isKept_10 ?_
    refine g_iload_n o 1 rfl rfl dX2_isKept_11 ?_
    refine g_iload_n o 2 rfl rfl dX2_isKept_12 ?_
    refine g_iload_n o 3 rfl rfl dX2_isKept_13 ?_
    obtain ⟨r2, hr2, hf⟩ := bd_some hf
    refine k_X2_doesPreserve_ o hr2 m_1097 (Nat.le_of_ble_eq_true rfl) (Nat.le_of_ble_eq_true rfl) ⟨hk, hn⟩ dX2_isKept_14 ?_
    refine g_if_ne (tgt := 22) o rfl dX2_isKept_17 hf (fun hc hf => ?_) (fun hc hf => ?_)
    · refine g_iinc o [(3, .int (s + 1)), (0, .ref (a 0)), (1, .int c1), (2, .int c2)] 3 rfl (inc_1 _) (Nat.le_of_ble_eq_true rfl) rfl dX2_isKept_22 ?_
      refine g_goto (tgt := 2) o rfl dX2_isKept_25 ?_
      have hp := lf_c hf hw
      exact g_perm [1, 2, 3, 0] rfl hp
    · refine g_iconst o ic_0 dX2_isKept_20 ?_
      exact g_iret (hR _ (lf_x hf hw)) hk hn nb_0 dX2_isKept_21
set_option maxRecDepth 20000 in
set_option maxHeartbeats 2000000 in
theorem b_X2_isKept {x : Cx} (o : Ok x cX2_isKept 4 RX2 3 0 0) (a : Nat → Nat) (u : St) (p0 : Int32) (p1 : Int32) (t : Int32) (hf : f_X2_isKept u p0 p1 = some t) (hret : rt_X2_isKept x a u t) : G x 4 0 0 (wM a u (cxT x)) [(0, .ref (a 0)), (1, .int p0), (2, .int p1)] 0 [] := by
  unfold f_X2_isKept at hf
  refine g_iconst o ic_0 dX2_isKept_0 ?_
  refine g_istore_n o [(3, .int 0), (0, .ref (a 0)), (1, .int p0), (2, .int p1)] (Nat.le_of_ble_eq_true rfl) rfl rfl dX2_isKept_1 ?_
  obtain ⟨r6, hr6, hxr6, hrr6⟩ := bl_some hf
  refine g_perm [1, 2, 3, 0] rfl (b_X2_isKept_L2 o (Nat.le_of_ble_eq_true rfl) (Nat.le_of_ble_eq_true rfl) a u p0 p1 r6 (fun s2 hs => ?_) (fun t5 ht => ?_) FU 0 hr6)
  · have hf := hxr6 s2 hs
    refine g_iconst o ic_1 dX2_isKept_28 ?_
    cases Option.some.inj hf
    exact g_iret hret (Nat.le_of_ble_eq_true rfl) (Nat.le_of_ble_eq_true rfl) nb_1 dX2_isKept_29
  · have hf := hrr6 t5 ht
    cases Option.some.inj hf
    exact hret
theorem c_X2_isKept (l : Launch) (hst : l.stackTraces = false) (a : Nat → Nat) (u : St) (p0 : Int32) (p1 : Int32) (t : Int32) (hf : f_X2_isKept u p0 p1 = some t) : CoI l yX2_isKept (.code yX2_isKept cX2_isKept 4 (some .boolean)) 3 0 0 [.ref (a 0), .int p0, .int p1] (wM a u) (wM a u) (.inl t) := mkI hst (by decide +kernel) (Nat.le_of_ble_eq_true rfl) (fun x _ o hI hX => b_X2_isKept o a u p0 p1 t hf (hI _ rfl))
theorem k_X2_isKept_ {x : Cx} {cc : ByteArray} {nL : Nat} {own : String} {d mc ms k n : Nat} {lv : List (Nat × Value)} {pc i : Nat} {rest : List Value} {a : Nat → Nat} {u : St} {p0 : Int32} {p1 : Int32} (o : Ok x cc nL own d mc ms) {t : Int32} (ht : f_X2_isKept u p0 p1 = some t) (hlk : Cond.methodLink own i yX2_isKept ∈ Ug) (hd : 3 < d) (hr : (rest.map fun v => v.category).sum ≤ 8) (hk : k + 0 ≤ mc ∧ n + 0 ≤ ms) (dg : decode cc pc = .ok (.invokevirtual i, 3)) (kk : G x nL (k + 0) (n + 0) (wM a u (cxT x)) lv (pc + 3) (.int t :: rest)) : G x nL k n (wM a u (cxT x)) lv pc (.int p1 :: .int p0 :: .ref (a 0) :: rest) := gcI (wd2 := (wM a u (cxT x))) o (c_X2_isKept (cxl x) o.2.2.2.2.2.2.2.2.2.1 a u p0 p1 t ht) (can_V (q0 := 0) o rfl rfl hd (Nat.le_of_ble_eq_true rfl) m_1111 m_56 m_1110 m_39 hlk yk_X2_isKept rfl hr hk dg) sp_M (fun E h => by cases h) (fun r h => by cases h; exact kk)
def rt_X2_isPolymorphism (x : Cx) (a : Nat → Nat) (t : Int32 × St) : Prop := RetI x cX2_isPolymorphism .boolean 0 0 (wM a t.2 (cxT x)) t.1
set_option maxRecDepth 20000 in
set_option maxHeartbeats 2000000 in
theorem b_X2_isPolymorphism {x : Cx} (o : Ok x cX2_isPolymorphism 3 RX2 4 0 0) (a : Nat → Nat) (u : St) (p0 : Int32) (p1 : Int32) (t : Int32 × St) (hf : f_X2_isPolymorphism u p0 p1 = some t) (hret : rt_X2_isPolymorphism x a t) : G x 3 0 0 (wM a u (cxT x)) [(0, .ref (a 0)), (1, .int p0), (2, .int p1)] 0 [] := by
  unfold f_X2_isPolymorphism at hf
  refine g_iload_n o 1 rfl rfl dX2_isPolymorphism_0 ?_
  refine g_iload_n o 2 rfl rfl dX2_isPolymorphism_1 ?_
  obtain ⟨r4, hr4, hf⟩ := bd_some hf
  refine k_X2_isOperation_ o hr4 m_1083 (Nat.le_of_ble_eq_true rfl) (Nat.le_of_ble_eq_true rfl) ⟨(Nat.le_of_ble_eq_true rfl), (Nat.le_of_ble_eq_true rfl)⟩ dX2_isPolymorphism_2 ?_
  refine g_if_ne (tgt := 14) o rfl dX2_isPolymorphism_5 hf (fun hc hf => ?_) (fun hc hf => ?_)
  · refine g_aload_n o 0 rfl rfl dX2_isPolymorphism_14 ?_
    refine g_iconst o ic_0 dX2_isPolymorphism_15 ?_
    refine M_put0 o m_919 dX2_isPolymorphism_16 ?_
    refine g_aload_n o 0 rfl rfl dX2_isPolymorphism_19 ?_
    refine g_iload_n o 1 rfl rfl dX2_isPolymorphism_20 ?_
    refine g_iload_n o 2 rfl rfl dX2_isPolymorphism_21 ?_
    obtain ⟨r5, hr5, hf⟩ := bd_some hf
    refine k_X2_isKept_ o hr5 m_1108 (Nat.le_of_ble_eq_true rfl) (Nat.le_of_ble_eq_true rfl) ⟨(Nat.le_of_ble_eq_true rfl), (Nat.le_of_ble_eq_true rfl)⟩ dX2_isPolymorphism_22 ?_
    obtain ⟨hb, hf⟩ := gd_some hf
    cases Option.some.inj hf
    exact g_iret hret (Nat.le_of_ble_eq_true rfl) (Nat.le_of_ble_eq_true rfl) (okB_n hb) dX2_isPolymorphism_25
  · refine g_aload_n o 0 rfl rfl dX2_isPolymorphism_8 ?_
    refine g_iconst o ic_1 dX2_isPolymorphism_9 ?_
    obtain ⟨r6, hr6, hf⟩ := bd_some hf
    refine k_X2_refuses_ o hr6 m_1093 (Nat.le_of_ble_eq_true rfl) (Nat.le_of_ble_eq_true rfl) ⟨(Nat.le_of_ble_eq_true rfl), (Nat.le_of_ble_eq_true rfl)⟩ dX2_isPolymorphism_10 ?_
    obtain ⟨hb, hf⟩ := gd_some hf
    cases Option.some.inj hf
    exact g_iret hret (Nat.le_of_ble_eq_true rfl) (Nat.le_of_ble_eq_true rfl) (okB_n hb) dX2_isPolymorphism_13
theorem c_X2_isPolymorphism (l : Launch) (hst : l.stackTraces = false) (a : Nat → Nat) (u : St) (p0 : Int32) (p1 : Int32) (t : Int32 × St) (hf : f_X2_isPolymorphism u p0 p1 = some t) : CoI l yX2_isPolymorphism (.code yX2_isPolymorphism cX2_isPolymorphism 3 (some .boolean)) 4 0 0 [.ref (a 0), .int p0, .int p1] (wM a u) (wM a t.2) (.inl t.1) := mkI hst (by decide +kernel) (Nat.le_of_ble_eq_true rfl) (fun x _ o hI hX => b_X2_isPolymorphism o a u p0 p1 t hf (hI _ rfl))
def rt_X2_polymorphismCount (x : Cx) (a : Nat → Nat) (t : Int32 × St) : Prop := RetI x cX2_polymorphismCount .int 0 0 (wM a t.2 (cxT x)) t.1
set_option maxRecDepth 20000 in
set_option maxHeartbeats 2000000 in
theorem b_X2_polymorphismCount_L24 {x : Cx} (o : Ok x cX2_polymorphismCount 4 RX2 4 0 0) {k n : Nat} (hk : k ≤ 0) (hn : n ≤ 0) (a : Nat → Nat) (u : St) (c1 : Int32) (r : (Int32 × Int32) ⊕ (Int32 × St)) (hX : ∀ s : Int32 × Int32, r = .inl s → G x 4 k n (wM a u (cxT x)) [(2, .int s.1)] 56 []) (hR : ∀ t, r = .inr t → rt_X2_polymorphismCount x a t) : ∀ (m : Nat) (s : Int32 × Int32), loopN (f_X2_polymorphismCount_s24 u c1) m s = some r → G x 4 k n (wM a u (cxT x)) [(0, .ref (a 0)), (1, .int c1), (2, .int s.1), (3, .int s.2)] 24 [] := by
  refine loop_W _ (fun (s : Int32 × Int32) => G x 4 k n (wM a u (cxT x)) [(0, .ref (a 0)), (1, .int c1), (2, .int s.1), (3, .int s.2)] 24 []) r ?_
  intro s ww hf hw
  unfold f_X2_polymorphismCount_s24 at hf
  obtain ⟨s_0, s_1⟩ := s
  try dsimp -simprocs only at hf ⊢
  refine g_iload_n o 3 rfl rfl dX2_polymorphismCount_24 ?_
  refine g_iconst o ic_1 dX2_polymorphismCount_25 ?_
  refine g_iconst o ic_1 dX2_polymorphismCount_26 ?_
  refine g_iload_n o 1 rfl rfl dX2_polymorphismCount_27 ?_
  refine g_ishl o dX2_polymorphismCount_28 ?_
  refine g_ishl o dX2_polymorphismCount_29 ?_
  refine g_ic_ge (tgt := 56) o rfl dX2_polymorphismCount_30 hf (fun hc hf => ?_) (fun hc hf => ?_)
  · exact g_perm [2] rfl (hX _ (lf_x hf hw))
  · refine g_iload_n o 2 rfl rfl dX2_polymorphismCount_33 ?_
    refine g_aload_n o 0 rfl rfl dX2_polymorphismCount_34 ?_
    refine g_iload_n o 1 rfl rfl dX2_polymorphismCount_35 ?_
    refine g_iload_n o 3 rfl rfl dX2_polymorphismCount_36 ?_
    obtain ⟨r5, hr5, hf⟩ := bd_some hf
    refine k_X2_isKept_ o hr5 m_1108 (Nat.le_of_ble_eq_true rfl) (Nat.le_of_ble_eq_true rfl) ⟨hk, hn⟩ dX2_polymorphismCount_37 ?_
    refine g_if_eq (tgt := 47) o rfl dX2_polymorphismCount_40 hf (fun hc hf => ?_) (fun hc hf => ?_)
    · refine g_iconst o ic_0 dX2_polymorphismCount_47 ?_
      refine g_iadd o dX2_polymorphismCount_48 ?_
      refine g_nmi hf (fun x6 hf => ?_)
      refine g_istore_n o [(2, .int x6), (0, .ref (a 0)), (1, .int c1), (3, .int s_1)] (Nat.le_of_ble_eq_true rfl) rfl rfl dX2_polymorphismCount_49 ?_
      refine g_iinc o [(3, .int (s_1 + 1)), (2, .int x6), (0, .ref (a 0)), (1, .int c1)] 3 rfl (inc_1 _) (Nat.le_of_ble_eq_true rfl) rfl dX2_polymorphismCount_50 ?_
      refine g_goto (tgt := 24) o rfl dX2_polymorphismCount_53 ?_
      have hp := lf_c hf hw
      exact g_perm [2, 3, 1, 0] rfl hp
    · refine g_iconst o ic_1 dX2_polymorphismCount_43 ?_
      refine g_goto (tgt := 48) o rfl dX2_polymorphismCount_44 ?_
      refine g_iadd o dX2_polymorphismCount_48 ?_
      refine g_nmi hf (fun x7 hf => ?_)
      refine g_istore_n o [(2, .int x7), (0, .ref (a 0)), (1, .int c1), (3, .int s_1)] (Nat.le_of_ble_eq_true rfl) rfl rfl dX2_polymorphismCount_49 ?_
      refine g_iinc o [(3, .int (s_1 + 1)), (2, .int x7), (0, .ref (a 0)), (1, .int c1)] 3 rfl (inc_1 _) (Nat.le_of_ble_eq_true rfl) rfl dX2_polymorphismCount_50 ?_
      refine g_goto (tgt := 24) o rfl dX2_polymorphismCount_53 ?_
      have hp := lf_c hf hw
      exact g_perm [2, 3, 1, 0] rfl hp
set_option maxRecDepth 20000 in
set_option maxHeartbeats 2000000 in
theorem b_X2_polymorphismCount {x : Cx} (o : Ok x cX2_polymorphismCount 4 RX2 4 0 0) (a : Nat → Nat) (u : St) (p0 : Int32) (t : Int32 × St) (hf : f_X2_polymorphismCount u p0 = some t) (hret : rt_X2_polymorphismCount x a t) : G x 4 0 0 (wM a u (cxT x)) [(0, .ref (a 0)), (1, .int p0)] 0 [] := by
  unfold f_X2_polymorphismCount at hf
  refine g_iload_n o 1 rfl rfl dX2_polymorphismCount_0 ?_
  refine g_iconst o ic_1 dX2_polymorphismCount_1 ?_
  refine g_iconst o ic_3 dX2_polymorphismCount_2 ?_
  obtain ⟨r11, hr11, hf⟩ := bd_some hf
  refine k_X2_isBetween_ o hr11 m_992 (Nat.le_of_ble_eq_true rfl) (Nat.le_of_ble_eq_true rfl) ⟨(Nat.le_of_ble_eq_true rfl), (Nat.le_of_ble_eq_true rfl)⟩ dX2_polymorphismCount_3 ?_
  refine g_if_ne (tgt := 15) o rfl dX2_polymorphismCount_6 hf (fun hc hf => ?_) (fun hc hf => ?_)
  · refine g_aload_n o 0 rfl rfl dX2_polymorphismCount_15 ?_
    refine g_iconst o ic_0 dX2_polymorphismCount_16 ?_
    refine M_put0 o m_919 dX2_polymorphismCount_17 ?_
    refine g_iconst o ic_0 dX2_polymorphismCount_20 ?_
    refine g_istore_n o [(2, .int 0), (0, .ref (a 0)), (1, .int p0)] (Nat.le_of_ble_eq_true rfl) rfl rfl dX2_polymorphismCount_21 ?_
    refine g_iconst o ic_0 dX2_polymorphismCount_22 ?_
    refine g_istore_n o [(3, .int 0), (2, .int 0), (0, .ref (a 0)), (1, .int p0)] (Nat.le_of_ble_eq_true rfl) rfl rfl dX2_polymorphismCount_23 ?_
    obtain ⟨r13, hr13, hxr13, hrr13⟩ := bl_some hf
    refine g_perm [2, 3, 1, 0] rfl (b_X2_polymorphismCount_L24 o (Nat.le_of_ble_eq_true rfl) (Nat.le_of_ble_eq_true rfl) a (us u 0 0) p0 r13 (fun s24 hs => ?_) (fun t12 ht => ?_) FU (0, 0) hr13)
    · have hf := hxr13 s24 hs
      obtain ⟨s24_0, s24_1⟩ := s24
      try dsimp -simprocs only at hf ⊢
      refine g_iload_n o 0 rfl rfl dX2_polymorphismCount_56 ?_
      cases Option.some.inj hf
      exact g_iret hret (Nat.le_of_ble_eq_true rfl) (Nat.le_of_ble_eq_true rfl) (vp_nar_int _) dX2_polymorphismCount_57
    · have hf := hrr13 t12 ht
      cases Option.some.inj hf
      exact hret
  · refine g_aload_n o 0 rfl rfl dX2_polymorphismCount_9 ?_
    refine g_iconst o ic_1 dX2_polymorphismCount_10 ?_
    obtain ⟨r14, hr14, hf⟩ := bd_some hf
    refine k_X2_fails_ o hr14 m_995 (Nat.le_of_ble_eq_true rfl) (Nat.le_of_ble_eq_true rfl) ⟨(Nat.le_of_ble_eq_true rfl), (Nat.le_of_ble_eq_true rfl)⟩ dX2_polymorphismCount_11 ?_
    cases Option.some.inj hf
    exact g_iret hret (Nat.le_of_ble_eq_true rfl) (Nat.le_of_ble_eq_true rfl) (vp_nar_int _) dX2_polymorphismCount_14
theorem c_X2_polymorphismCount (l : Launch) (hst : l.stackTraces = false) (a : Nat → Nat) (u : St) (p0 : Int32) (t : Int32 × St) (hf : f_X2_polymorphismCount u p0 = some t) : CoI l yX2_polymorphismCount (.code yX2_polymorphismCount cX2_polymorphismCount 4 (some .int)) 4 0 0 [.ref (a 0), .int p0] (wM a u) (wM a t.2) (.inl t.1) := mkI hst (by decide +kernel) (Nat.le_of_ble_eq_true rfl) (fun x _ o hI hX => b_X2_polymorphismCount o a u p0 t hf (hI _ rfl))
