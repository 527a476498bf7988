def rt_X2_isBetween (x : Cx) (t : Int32) : Prop := RetI x cX2_isBetween .boolean 0 0 (w0 (cxT x)) t
set_option maxRecDepth 20000 in
set_option maxHeartbeats 2000000 in
theorem b_X2_isBetween {x : Cx} (o : Ok x cX2_isBetween 3 RX2 0 0 0) (p0 : Int32) (p1 : Int32) (p2 : Int32) (t : Int32) (hf : f_X2_isBetween p0 p1 p2 = some t) (hret : rt_X2_isBetween x  t) : G x 3 0 0 (w0 (cxT x)) [(0, .int p0), (1, .int p1), (2, .int p2)] 0 [] := by
  unfold f_X2_isBetween at hf
  refine g_iload_n o 0 rfl rfl dX2_isBetween_0 ?_
  refine g_iload_n o 1 rfl rfl dX2_isBetween_1 ?_
  refine g_ic_lt (tgt := 14) o rfl dX2_isBetween_2 hf (fun hc hf => ?_) (fun hc hf => ?_)
  · refine g_iconst o ic_0 dX2_isBetween_14 ?_
    cases Option.some.inj hf
    exact g_iret hret (Nat.le_of_ble_eq_true rfl) (Nat.le_of_ble_eq_true rfl) nb_0 dX2_isBetween_15
  · refine g_iload_n o 0 rfl rfl dX2_isBetween_5 ?_
    refine g_iload_n o 2 rfl rfl dX2_isBetween_6 ?_
    refine g_ic_gt (tgt := 14) o rfl dX2_isBetween_7 hf (fun hc hf => ?_) (fun hc hf => ?_)
    · refine g_iconst o ic_0 dX2_isBetween_14 ?_
      cases Option.some.inj hf
      exact g_iret hret (Nat.le_of_ble_eq_true rfl) (Nat.le_of_ble_eq_true rfl) nb_0 dX2_isBetween_15
    · refine g_iconst o ic_1 dX2_isBetween_10 ?_
      refine g_goto (tgt := 15) o rfl dX2_isBetween_11 ?_
      cases Option.some.inj hf
      exact g_iret hret (Nat.le_of_ble_eq_true rfl) (Nat.le_of_ble_eq_true rfl) nb_1 dX2_isBetween_15
theorem c_X2_isBetween (l : Launch) (hst : l.stackTraces = false) (p0 : Int32) (p1 : Int32) (p2 : Int32) (t : Int32) (hf : f_X2_isBetween p0 p1 p2 = some t) : CoI l yX2_isBetween (.code yX2_isBetween cX2_isBetween 3 (some .boolean)) 0 0 0 [.int p0, .int p1, .int p2] w0 w0 (.inl t) := mkI hst (by decide +kernel) (Nat.le_of_ble_eq_true rfl) (fun x _ o hI hX => b_X2_isBetween o p0 p1 p2 t hf (hI _ rfl))
theorem k_X2_isBetween_ {x : Cx} {cc : ByteArray} {nL : Nat} {own : String} {d mc ms k n : Nat} {lv : List (Nat × Value)} {pc i : Nat} {rest : List Value} {wd : va_W} {p0 : Int32} {p1 : Int32} {p2 : Int32} (o : Ok x cc nL own d mc ms) {t : Int32} (ht : f_X2_isBetween p0 p1 p2 = some t) (hlk : Cond.methodLink own i yX2_isBetween ∈ Ug) (hd : 0 < d) (hr : (rest.map fun v => v.category).sum ≤ 8) (hk : k + 0 ≤ mc ∧ n + 0 ≤ ms) (dg : decode cc pc = .ok (.invokestatic i, 3)) (kk : G x nL (k + 0) (n + 0) wd lv (pc + 3) (.int t :: rest)) : G x nL k n wd lv pc (.int p2 :: .int p1 :: .int p0 :: rest) := gcI (wd2 := wd) o (c_X2_isBetween (cxl x) o.2.2.2.2.2.2.2.2.2.1 p0 p1 p2 t ht) (can_S o hd (Nat.le_of_ble_eq_true rfl) m_994 m_56 m_993 hlk yk_X2_isBetween rfl hr hk dg) sp_none (fun E h => by cases h) (fun r h => by cases h; exact kk)
def rt_X2_fails (x : Cx) (a : Nat → Nat) (t : Int32 × St) : Prop := RetI x cX2_fails .int 0 0 (wM a t.2 (cxT x)) t.1
set_option maxRecDepth 20000 in
set_option maxHeartbeats 2000000 in
theorem b_X2_fails {x : Cx} (o : Ok x cX2_fails 2 RX2 0 0 0) (a : Nat → Nat) (u : St) (p0 : Int32) (t : Int32 × St) (hf : f_X2_fails u p0 = some t) (hret : rt_X2_fails x a t) : G x 2 0 0 (wM a u (cxT x)) [(0, .ref (a 0)), (1, .int p0)] 0 [] := by
  unfold f_X2_fails at hf
  refine g_aload_n o 0 rfl rfl dX2_fails_0 ?_
  refine g_iload_n o 1 rfl rfl dX2_fails_1 ?_
  refine M_put0 o m_919 dX2_fails_2 ?_
  refine g_iconst o ic_0 dX2_fails_5 ?_
  cases Option.some.inj hf
  exact g_iret hret (Nat.le_of_ble_eq_true rfl) (Nat.le_of_ble_eq_true rfl) (vp_nar_int _) dX2_fails_6
theorem c_X2_fails (l : Launch) (hst : l.stackTraces = false) (a : Nat → Nat) (u : St) (p0 : Int32) (t : Int32 × St) (hf : f_X2_fails u p0 = some t) : CoI l yX2_fails (.code yX2_fails cX2_fails 2 (some .int)) 0 0 0 [.ref (a 0), .int p0] (wM a u) (wM a t.2) (.inl t.1) := mkI hst (by decide +kernel) (Nat.le_of_ble_eq_true rfl) (fun x _ o hI hX => b_X2_fails o a u p0 t hf (hI _ rfl))
theorem k_X2_fails_ {x : Cx} {cc : ByteArray} {nL : Nat} {own : String} {d mc ms k n : Nat} {lv : List (Nat × Value)} {pc i : Nat} {rest : List Value} {a : Nat → Nat} {u : St} {p0 : Int32} (o : Ok x cc nL own d mc ms) {t : Int32 × St} (ht : f_X2_fails u p0 = some t) (hlk : Cond.methodLink own i yX2_fails ∈ Ug) (hd : 0 < d) (hr : (rest.map fun v => v.category).sum ≤ 8) (hk : k + 0 ≤ mc ∧ n + 0 ≤ ms) (dg : decode cc pc = .ok (.invokevirtual i, 3)) (kk : G x nL (k + 0) (n + 0) (wM a t.2 (cxT x)) lv (pc + 3) (.int t.1 :: rest)) : G x nL k n (wM a u (cxT x)) lv pc (.int p0 :: .ref (a 0) :: rest) := gcI (wd2 := (wM a t.2 (cxT x))) o (c_X2_fails (cxl x) o.2.2.2.2.2.2.2.2.2.1 a u p0 t ht) (can_V (q0 := 0) o rfl rfl hd (Nat.le_of_ble_eq_true rfl) m_998 m_56 m_997 m_33 hlk yk_X2_fails rfl hr hk dg) sp_M (fun E h => by cases h) (fun r h => by cases h; exact kk)
def rt_X2_adds (x : Cx) (a : Nat → Nat) (t : Int32 × St) : Prop := RetI x cX2_adds .int 0 0 (wM a t.2 (cxT x)) t.1
set_option maxRecDepth 20000 in
set_option maxHeartbeats 2000000 in
theorem b_X2_adds {x : Cx} (o : Ok x cX2_adds 3 RX2 0 0 0) (a : Nat → Nat) (u : St) (p0 : Int32) (p1 : Int32) (t : Int32 × St) (hf : f_X2_adds u p0 p1 = some t) (hret : rt_X2_adds x a t) : G x 3 0 0 (wM a u (cxT x)) [(0, .ref (a 0)), (1, .int p0), (2, .int p1)] 0 [] := by
  unfold f_X2_adds at hf
  refine g_aload_n o 0 rfl rfl dX2_adds_0 ?_
  refine g_iconst o ic_0 dX2_adds_1 ?_
  refine M_put0 o m_919 dX2_adds_2 ?_
  refine g_aload_n o 0 rfl rfl dX2_adds_5 ?_
  refine M_get1 o m_920 dX2_adds_6 ?_
  refine g_aload_n o 0 rfl rfl dX2_adds_9 ?_
  refine M_get3 o m_922 dX2_adds_10 ?_
  refine g_iload_n o 1 rfl rfl dX2_adds_13 ?_
  refine M_st1 o dX2_adds_14 hf (fun hf => ?_)
  refine g_aload_n o 0 rfl rfl dX2_adds_15 ?_
  refine M_get2 o m_921 dX2_adds_16 ?_
  refine g_aload_n o 0 rfl rfl dX2_adds_19 ?_
  refine M_get3 o m_922 dX2_adds_20 ?_
  refine g_iload_n o 2 rfl rfl dX2_adds_23 ?_
  refine M_st2 o dX2_adds_24 hf (fun hf => ?_)
  refine g_aload_n o 0 rfl rfl dX2_adds_25 ?_
  refine g_dup o rfl dX2_adds_26 ?_
  refine M_get3 o m_922 dX2_adds_27 ?_
  refine g_iconst o ic_1 dX2_adds_30 ?_
  refine g_iadd o dX2_adds_31 ?_
  refine M_put3 o m_922 dX2_adds_32 ?_
  refine g_aload_n o 0 rfl rfl dX2_adds_35 ?_
  refine M_get3 o m_922 dX2_adds_36 ?_
  refine g_iconst o ic_1 dX2_adds_39 ?_
  refine g_isub o dX2_adds_40 ?_
  cases Option.some.inj hf
  exact g_iret hret (Nat.le_of_ble_eq_true rfl) (Nat.le_of_ble_eq_true rfl) (vp_nar_int _) dX2_adds_41
theorem c_X2_adds (l : Launch) (hst : l.stackTraces = false) (a : Nat → Nat) (u : St) (p0 : Int32) (p1 : Int32) (t : Int32 × St) (hf : f_X2_adds u p0 p1 = some t) : CoI l yX2_adds (.code yX2_adds cX2_adds 3 (some .int)) 0 0 0 [.ref (a 0), .int p0, .int p1] (wM a u) (wM a t.2) (.inl t.1) := mkI hst (by decide +kernel) (Nat.le_of_ble_eq_true rfl) (fun x _ o hI hX => b_X2_adds o a u p0 p1 t hf (hI _ rfl))
theorem k_X2_adds_ {x : Cx} {cc : ByteArray} {nL : Nat} {own : String} {d mc ms k n : Nat} {lv : List (Nat × Value)} {pc i : Nat} {rest : List Value} {a : Nat → Nat} {u : St} {p0 : Int32} {p1 : Int32} (o : Ok x cc nL own d mc ms) {t : Int32 × St} (ht : f_X2_adds u p0 p1 = some t) (hlk : Cond.methodLink own i yX2_adds ∈ Ug) (hd : 0 < d) (hr : (rest.map fun v => v.category).sum ≤ 8) (hk : k + 0 ≤ mc ∧ n + 0 ≤ ms) (dg : decode cc pc = .ok (.invokevirtual i, 3)) (kk : G x nL (k + 0) (n + 0) (wM a t.2 (cxT x)) lv (pc + 3) (.int t.1 :: rest)) : G x nL k n (wM a u (cxT x)) lv pc (.int p1 :: .int p0 :: .ref (a 0) :: rest) := gcI (wd2 := (wM a t.2 (cxT x))) o (c_X2_adds (cxl x) o.2.2.2.2.2.2.2.2.2.1 a u p0 p1 t ht) (can_V (q0 := 0) o rfl rfl hd (Nat.le_of_ble_eq_true rfl) m_1002 m_56 m_1001 m_34 hlk yk_X2_adds rfl hr hk dg) sp_M (fun E h => by cases h) (fun r h => by cases h; exact kk)
def rt_X2_addRelation (x : Cx) (a : Nat → Nat) (t : Int32 × St) : Prop := RetI x cX2_addRelation .int 0 0 (wM a t.2 (cxT x)) t.1
set_option maxRecDepth 20000 in
set_option maxHeartbeats 2000000 in
theorem b_X2_addRelation {x : Cx} (o : Ok x cX2_addRelation 2 RX2 1 0 0) (a : Nat → Nat) (u : St) (p0 : Int32) (t : Int32 × St) (hf : f_X2_addRelation u p0 = some t) (hret : rt_X2_addRelation x a t) : G x 2 0 0 (wM a u (cxT x)) [(0, .ref (a 0)), (1, .int p0)] 0 [] := by
  unfold f_X2_addRelation at hf
  refine g_iload_n o 1 rfl rfl dX2_addRelation_0 ?_
  refine g_iconst o ic_1 dX2_addRelation_1 ?_
  refine g_iconst o ic_4 dX2_addRelation_2 ?_
  obtain ⟨r1, hr1, hf⟩ := bd_some hf
  refine k_X2_isBetween_ o hr1 m_992 (Nat.le_of_ble_eq_true rfl) (Nat.le_of_ble_eq_true rfl) ⟨(Nat.le_of_ble_eq_true rfl), (Nat.le_of_ble_eq_true rfl)⟩ dX2_addRelation_3 ?_
  refine g_if_ne (tgt := 15) o rfl dX2_addRelation_6 hf (fun hc hf => ?_) (fun hc hf => ?_)
  · refine g_aload_n o 0 rfl rfl dX2_addRelation_15 ?_
    refine M_get3 o m_922 dX2_addRelation_16 ?_
    refine g_bipush o bp_8 dX2_addRelation_19 ?_
    refine g_ic_ne (tgt := 30) o rfl dX2_addRelation_21 hf (fun hc hf => ?_) (fun hc hf => ?_)
    · refine g_aload_n o 0 rfl rfl dX2_addRelation_30 ?_
      refine g_iload_n o 1 rfl rfl dX2_addRelation_31 ?_
      refine g_iconst o ic_0 dX2_addRelation_32 ?_
      obtain ⟨r2, hr2, hf⟩ := bd_some hf
      refine k_X2_adds_ o hr2 m_999 (Nat.le_of_ble_eq_true rfl) (Nat.le_of_ble_eq_true rfl) ⟨(Nat.le_of_ble_eq_true rfl), (Nat.le_of_ble_eq_true rfl)⟩ dX2_addRelation_33 ?_
      cases Option.some.inj hf
      exact g_iret hret (Nat.le_of_ble_eq_true rfl) (Nat.le_of_ble_eq_true rfl) (vp_nar_int _) dX2_addRelation_36
    · refine g_aload_n o 0 rfl rfl dX2_addRelation_24 ?_
      refine g_iconst o ic_2 dX2_addRelation_25 ?_
      obtain ⟨r3, hr3, hf⟩ := bd_some hf
      refine k_X2_fails_ o hr3 m_995 (Nat.le_of_ble_eq_true rfl) (Nat.le_of_ble_eq_true rfl) ⟨(Nat.le_of_ble_eq_true rfl), (Nat.le_of_ble_eq_true rfl)⟩ dX2_addRelation_26 ?_
      cases Option.some.inj hf
      exact g_iret hret (Nat.le_of_ble_eq_true rfl) (Nat.le_of_ble_eq_true rfl) (vp_nar_int _) dX2_addRelation_29
  · refine g_aload_n o 0 rfl rfl dX2_addRelation_9 ?_
    refine g_iconst o ic_1 dX2_addRelation_10 ?_
    obtain ⟨r4, hr4, hf⟩ := bd_some hf
    refine k_X2_fails_ o hr4 m_995 (Nat.le_of_ble_eq_true rfl) (Nat.le_of_ble_eq_true rfl) ⟨(Nat.le_of_ble_eq_true rfl), (Nat.le_of_ble_eq_true rfl)⟩ dX2_addRelation_11 ?_
    cases Option.some.inj hf
    exact g_iret hret (Nat.le_of_ble_eq_true rfl) (Nat.le_of_ble_eq_true rfl) (vp_nar_int _) dX2_addRelation_14
theorem c_X2_addRelation (l : Launch) (hst : l.stackTraces = false) (a : Nat → Nat) (u : St) (p0 : Int32) (t : Int32 × St) (hf : f_X2_addRelation u p0 = some t) : CoI l yX2_addRelation (.code yX2_addRelation cX2_addRelation 2 (some .int)) 1 0 0 [.ref (a 0), .int p0] (wM a u) (wM a t.2) (.inl t.1) := mkI hst (by decide +kernel) (Nat.le_of_ble_eq_true rfl) (fun x _ o hI hX => b_X2_addRelation o a u p0 t hf (hI _ rfl))
def rt_X2_thrown (x : Cx) (a : Nat → Nat) (u : St) (t : Int32) : Prop := RetI x cX2_thrown .int 0 0 (wM a u (cxT x)) t
set_option maxRecDepth 20000 in
set_option maxHeartbeats 2000000 in
theorem b_X2_thrown {x : Cx} (o : Ok x cX2_thrown 1 RX2 0 0 0) (a : Nat → Nat) (u : St) (t : Int32) (hf : f_X2_thrown u = some t) (hret : rt_X2_thrown x a u t) : G x 1 0 0 (wM a u (cxT x)) [(0, .ref (a 0))] 0 [] := by
  unfold f_X2_thrown at hf
  refine g_aload_n o 0 rfl rfl dX2_thrown_0 ?_
  refine M_get0 o m_919 dX2_thrown_1 ?_
  cases Option.some.inj hf
  exact g_iret hret (Nat.le_of_ble_eq_true rfl) (Nat.le_of_ble_eq_true rfl) (vp_nar_int _) dX2_thrown_4
theorem c_X2_thrown (l : Launch) (hst : l.stackTraces = false) (a : Nat → Nat) (u : St) (t : Int32) (hf : f_X2_thrown u = some t) : CoI l yX2_thrown (.code yX2_thrown cX2_thrown 1 (some .int)) 0 0 0 [.ref (a 0)] (wM a u) (wM a u) (.inl t) := mkI hst (by decide +kernel) (Nat.le_of_ble_eq_true rfl) (fun x _ o hI hX => b_X2_thrown o a u t hf (hI _ rfl))
def rt_X2_isTuple (x : Cx) (t : Int32) : Prop := RetI x cX2_isTuple .boolean 0 0 (w0 (cxT x)) t
set_option maxRecDepth 20000 in
set_option maxHeartbeats 2000000 in
theorem b_X2_isTuple {x : Cx} (o : Ok x cX2_isTuple 2 RX2 0 0 0) (p0 : Int32) (p1 : Int32) (t : Int32) (hf : f_X2_isTuple p0 p1 = some t) (hret : rt_X2_isTuple x  t) : G x 2 0 0 (w0 (cxT x)) [(0, .int p0), (1, .int p1)] 0 [] := by
  unfold f_X2_isTuple at hf
  refine g_iload_n o 1 rfl rfl dX2_isTuple_0 ?_
  refine g_if_lt (tgt := 15) o rfl dX2_isTuple_1 hf (fun hc hf => ?_) (fun hc hf => ?_)
  · refine g_iconst o ic_0 dX2_isTuple_15 ?_
    cases Option.some.inj hf
    exact g_iret hret (Nat.le_of_ble_eq_true rfl) (Nat.le_of_ble_eq_true rfl) nb_0 dX2_isTuple_16
  · refine g_iload_n o 1 rfl rfl dX2_isTuple_4 ?_
    refine g_iconst o ic_1 dX2_isTuple_5 ?_
    refine g_iload_n o 0 rfl rfl dX2_isTuple_6 ?_
    refine g_ishl o dX2_isTuple_7 ?_
    refine g_ic_ge (tgt := 15) o rfl dX2_isTuple_8 hf (fun hc hf => ?_) (fun hc hf => ?_)
    · refine g_iconst o ic_0 dX2_isTuple_15 ?_
      cases Option.some.inj hf
      exact g_iret hret (Nat.le_of_ble_eq_true rfl) (Nat.le_of_ble_eq_true rfl) nb_0 dX2_isTuple_16
    · refine g_iconst o ic_1 dX2_isTuple_11 ?_
      refine g_goto (tgt := 16) o rfl dX2_isTuple_12 ?_
      cases Option.some.inj hf
      exact g_iret hret (Nat.le_of_ble_eq_true rfl) (Nat.le_of_ble_eq_true rfl) nb_1 dX2_isTuple_16
theorem c_X2_isTuple (l : Launch) (hst : l.stackTraces = false) (p0 : Int32) (p1 : Int32) (t : Int32) (hf : f_X2_isTuple p0 p1 = some t) : CoI l yX2_isTuple (.code yX2_isTuple cX2_isTuple 2 (some .boolean)) 0 0 0 [.int p0, .int p1] w0 w0 (.inl t) := mkI hst (by decide +kernel) (Nat.le_of_ble_eq_true rfl) (fun x _ o hI hX => b_X2_isTuple o p0 p1 t hf (hI _ rfl))
theorem k_X2_isTuple_ {x : Cx} {cc : ByteArray} {nL : Nat} {own : String} {d mc ms k n : Nat} {lv : List (Nat × Value)} {pc i : Nat} {rest : List Value} {wd : va_W} {p0 : Int32} {p1 : Int32} (o : Ok x cc nL own d mc ms) {t : Int32} (ht : f_X2_isTuple p0 p1 = some t) (hlk : Cond.methodLink own i yX2_isTuple ∈ Ug) (hd : 0 < d) (hr : (rest.map fun v => v.category).sum ≤ 8) (hk : k + 0 ≤ mc ∧ n + 0 ≤ ms) (dg : decode cc pc = .ok (.invokestatic i, 3)) (kk : G x nL (k + 0) (n + 0) wd lv (pc + 3) (.int t :: rest)) : G x nL k n wd lv pc (.int p1 :: .int p0 :: rest) := gcI (wd2 := wd) o (c_X2_isTuple (cxl x) o.2.2.2.2.2.2.2.2.2.1 p0 p1 t ht) (can_S o hd (Nat.le_of_ble_eq_true rfl) m_1009 m_56 m_1008 hlk yk_X2_isTuple rfl hr hk dg) sp_none (fun E h => by cases h) (fun r h => by cases h; exact kk)
def rt_X2_allOf (x : Cx) (t : Int32) : Prop := RetI x cX2_allOf .int 0 0 (w0 (cxT x)) t
set_option maxRecDepth 20000 in
set_option maxHeartbeats 2000000 in
theorem b_X2_allOf {x : Cx} (o : Ok x cX2_allOf 1 RX2 0 0 0) (p0 : Int32) (t : Int32) (hf : f_X2_allOf p0 = some t) (hret : rt_X2_allOf x  t) : G x 1 0 0 (w0 (cxT x)) [(0, .int p0)] 0 [] := by
  unfold f_X2_allOf at hf
  refine g_iconst o ic_1 dX2_allOf_0 ?_
  refine g_iconst o ic_1 dX2_allOf_1 ?_
  refine g_iload_n o 0 rfl rfl dX2_allOf_2 ?_
  refine g_ishl o dX2_allOf_3 ?_
  refine g_ishl o dX2_allOf_4 ?_
  refine g_iconst o ic_1 dX2_allOf_5 ?_
  refine g_isub o dX2_allOf_6 ?_
  cases Option.some.inj hf
  exact g_iret hret (Nat.le_of_ble_eq_true rfl) (Nat.le_of_ble_eq_true rfl) (vp_nar_int _) dX2_allOf_7
theorem c_X2_allOf (l : Launch) (hst : l.stackTraces = false) (p0 : Int32) (t : Int32) (hf : f_X2_allOf p0 = some t) : CoI l yX2_allOf (.code yX2_allOf cX2_allOf 1 (some .int)) 0 0 0 [.int p0] w0 w0 (.inl t) := mkI hst (by decide +kernel) (Nat.le_of_ble_eq_true rfl) (fun x _ o hI hX => b_X2_allOf o p0 t hf (hI _ rfl))
theorem k_X2_allOf_ {x : Cx} {cc : ByteArray} {nL : Nat} {own : String} {d mc ms k n : Nat} {lv : List (Nat × Value)} {pc i : Nat} {rest : List Value} {wd : va_W} {p0 : Int32} (o : Ok x cc nL own d mc ms) {t : Int32} (ht : f_X2_allOf p0 = some t) (hlk : Cond.methodLink own i yX2_allOf ∈ Ug) (hd : 0 < d) (hr : (rest.map fun v => v.category).sum ≤ 8) (hk : k + 0 ≤ mc ∧ n + 0 ≤ ms) (dg : decode cc pc = .ok (.invokestatic i, 3)) (kk : G x nL (k + 0) (n + 0) wd lv (pc + 3) (.int t :: rest)) : G x nL k n wd lv pc (.int p0 :: rest) := gcI (wd2 := wd) o (c_X2_allOf (cxl x) o.2.2.2.2.2.2.2.2.2.1 p0 t ht) (can_S o hd (Nat.le_of_ble_eq_true rfl) m_1012 m_56 m_1011 hlk yk_X2_allOf rfl hr hk dg) sp_none (fun E h => by cases h) (fun r h => by cases h; exact kk)
def rt_X2_addClause (x : Cx) (a : Nat → Nat) (t : Int32 × St) : Prop := RetI x cX2_addClause .int 0 0 (wM a t.2 (cxT x)) t.1
set_option maxRecDepth 20000 in
set_option maxHeartbeats 2000000 in
theorem b_X2_addClause {x : Cx} (o : Ok x cX2_addClause 3 RX2 1 0 0) (a : Nat → Nat) (u : St) (p0 : Int32) (p1 : Int32) (t : Int32 × St) (hf : f_X2_addClause u p0 p1 = some t) (hret : rt_X2_addClause x a t) : G x 3 0 0 (wM a u (cxT x)) [(0, .ref (a 0)), (1, .int p0), (2, .int p1)] 0 [] := by
  unfold f_X2_addClause at hf
  refine g_iload_n o 1 rfl rfl dX2_addClause_0 ?_
  refine g_iconst o ic_1 dX2_addClause_1 ?_
  refine g_iconst o ic_4 dX2_addClause_2 ?_
  obtain ⟨r1, hr1, hf⟩ := bd_some hf
  refine k_X2_isBetween_ o hr1 m_992 (Nat.le_of_ble_eq_true rfl) (Nat.le_of_ble_eq_true rfl) ⟨(Nat.le_of_ble_eq_true rfl), (Nat.le_of_ble_eq_true rfl)⟩ dX2_addClause_3 ?_
  refine g_if_eq (tgt := 17) o rfl dX2_addClause_6 hf (fun hc hf => ?_) (fun hc hf => ?_)
  · refine g_aload_n o 0 rfl rfl dX2_addClause_17 ?_
    refine g_iconst o ic_1 dX2_addClause_18 ?_
    obtain ⟨r2, hr2, hf⟩ := bd_some hf
    refine k_X2_fails_ o hr2 m_995 (Nat.le_of_ble_eq_true rfl) (Nat.le_of_ble_eq_true rfl) ⟨(Nat.le_of_ble_eq_true rfl), (Nat.le_of_ble_eq_true rfl)⟩ dX2_addClause_19 ?_
    cases Option.some.inj hf
    exact g_iret hret (Nat.le_of_ble_eq_true rfl) (Nat.le_of_ble_eq_true rfl) (vp_nar_int _) dX2_addClause_22
  · refine g_iload_n o 1 rfl rfl dX2_addClause_9 ?_
    refine g_iload_n o 2 rfl rfl dX2_addClause_10 ?_
    obtain ⟨r3, hr3, hf⟩ := bd_some hf
    refine k_X2_isTuple_ o hr3 m_1007 (Nat.le_of_ble_eq_true rfl) (Nat.le_of_ble_eq_true rfl) ⟨(Nat.le_of_ble_eq_true rfl), (Nat.le_of_ble_eq_true rfl)⟩ dX2_addClause_11 ?_
    refine g_if_ne (tgt := 23) o rfl dX2_addClause_14 hf (fun hc hf => ?_) (fun hc hf => ?_)
    · refine g_aload_n o 0 rfl rfl dX2_addClause_23 ?_
      refine M_get3 o m_922 dX2_addClause_24 ?_
      refine g_bipush o bp_8 dX2_addClause_27 ?_
      refine g_ic_ne (tgt := 38) o rfl dX2_addClause_29 hf (fun hc hf => ?_) (fun hc hf => ?_)
      · refine g_aload_n o 0 rfl rfl dX2_addClause_38 ?_
        refine g_iload_n o 1 rfl rfl dX2_addClause_39 ?_
        refine g_iload_n o 1 rfl rfl dX2_addClause_40 ?_
        obtain ⟨r4, hr4, hf⟩ := bd_some hf
        refine k_X2_allOf_ o hr4 m_1010 (Nat.le_of_ble_eq_true rfl) (Nat.le_of_ble_eq_true rfl) ⟨(Nat.le_of_ble_eq_true rfl), (Nat.le_of_ble_eq_true rfl)⟩ dX2_addClause_41 ?_
        refine g_iconst o ic_1 dX2_addClause_44 ?_
        refine g_iload_n o 2 rfl rfl dX2_addClause_45 ?_
        refine g_ishl o dX2_addClause_46 ?_
        refine g_iconst o ic_m1 dX2_addClause_47 ?_
        refine g_ixor o dX2_addClause_48 ?_
        refine g_iand o dX2_addClause_49 ?_
        obtain ⟨r5, hr5, hf⟩ := bd_some hf
        refine k_X2_adds_ o hr5 m_999 (Nat.le_of_ble_eq_true rfl) (Nat.le_of_ble_eq_true rfl) ⟨(Nat.le_of_ble_eq_true rfl), (Nat.le_of_ble_eq_true rfl)⟩ dX2_addClause_50 ?_
        cases Option.some.inj hf
        exact g_iret hret (Nat.le_of_ble_eq_true rfl) (Nat.le_of_ble_eq_true rfl) (vp_nar_int _) dX2_addClause_53
      · refine g_aload_n o 0 rfl rfl dX2_addClause_32 ?_
        refine g_iconst o ic_2 dX2_addClause_33 ?_
        obtain ⟨r6, hr6, hf⟩ := bd_some hf
        refine k_X2_fails_ o hr6 m_995 (Nat.le_of_ble_eq_true rfl) (Nat.le_of_ble_eq_true rfl) ⟨(Nat.le_of_ble_eq_true rfl), (Nat.le_of_ble_eq_true rfl)⟩ dX2_addClause_34 ?_
        cases Option.some.inj hf
        exact g_iret hret (Nat.le_of_ble_eq_true rfl) (Nat.le_of_ble_eq_true rfl) (vp_nar_int _) dX2_addClause_37
    · refine g_aload_n o 0 rfl rfl dX2_addClause_17 ?_
      refine g_iconst o ic_1 dX2_addClause_18 ?_
      obtain ⟨r7, hr7, hf⟩ := bd_some hf
      refine k_X2_fails_ o hr7 m_995 (Nat.le_of_ble_eq_true rfl) (Nat.le_of_ble_eq_true rfl) ⟨(Nat.le_of_ble_eq_true rfl), (Nat.le_of_ble_eq_true rfl)⟩ dX2_addClause_19 ?_
      cases Option.some.inj hf
      exact g_iret hret (Nat.le_of_ble_eq_true rfl) (Nat.le_of_ble_eq_true rfl) (vp_nar_int _) dX2_addClause_22
theorem c_X2_addClause (l : Launch) (hst : l.stackTraces = false) (a : Nat → Nat) (u : St) (p0 : Int32) (p1 : Int32) (t : Int32 × St) (hf : f_X2_addClause u p0 p1 = some t) : CoI l yX2_addClause (.code yX2_addClause cX2_addClause 3 (some .int)) 1 0 0 [.ref (a 0), .int p0, .int p1] (wM a u) (wM a t.2) (.inl t.1) := mkI hst (by decide +kernel) (Nat.le_of_ble_eq_true rfl) (fun x _ o hI hX => b_X2_addClause o a u p0 p1 t hf (hI _ rfl))
def rt_X2_isBit (x : Cx) (t : Int32) : Prop := RetI x cX2_isBit .boolean 0 0 (w0 (cxT x)) t
set_option maxRecDepth 20000 in
set_option maxHeartbeats 2000000 in
theorem b_X2_isBit {x : Cx} (o : Ok x cX2_isBit 1 RX2 0 0 0) (p0 : Int32) (t : Int32) (hf : f_X2_isBit p0 = some t) (hret : rt_X2_isBit x  t) : G x 1 0 0 (w0 (cxT x)) [(0, .int p0)] 0 [] := by
  unfold f_X2_isBit at hf
  refine g_iload_n o 0 rfl rfl dX2_isBit_0 ?_
  refine g_if_eq (tgt := 9) o rfl dX2_isBit_1 hf (fun hc hf => ?_) (fun hc hf => ?_)
  · refine g_iconst o ic_1 dX2_isBit_9 ?_
    refine g_goto (tgt := 14) o rfl dX2_isBit_10 ?_
    cases Option.some.inj hf
    exact g_iret hret (Nat.le_of_ble_eq_true rfl) (Nat.le_of_ble_eq_true rfl) nb_1 dX2_isBit_14
  · refine g_iload_n o 0 rfl rfl dX2_isBit_4 ?_
    refine g_iconst o ic_1 dX2_isBit_5 ?_
    refine g_ic_ne (tgt := 13) o rfl dX2_isBit_6 hf (fun hc hf => ?_) (fun hc hf => ?_)
    · refine g_iconst o ic_0 dX2_isBit_13 ?_
      cases Option.some.inj hf
      exact g_iret hret (Nat.le_of_ble_eq_true rfl) (Nat.le_of_ble_eq_true rfl) nb_0 dX2_isBit_14
    · refine g_iconst o ic_1 dX2_isBit_9 ?_
      refine g_goto (tgt := 14) o rfl dX2_isBit_10 ?_
      cases Option.some.inj hf
      exact g_iret hret (Nat.le_of_ble_eq_true rfl) (Nat.le_of_ble_eq_true rfl) nb_1 dX2_isBit_14
theorem c_X2_isBit (l : Launch) (hst : l.stackTraces = false) (p0 : Int32) (t : Int32) (hf : f_X2_isBit p0 = some t) : CoI l yX2_isBit (.code yX2_isBit cX2_isBit 1 (some .boolean)) 0 0 0 [.int p0] w0 w0 (.inl t) := mkI hst (by decide +kernel) (Nat.le_of_ble_eq_true rfl) (fun x _ o hI hX => b_X2_isBit o p0 t hf (hI _ rfl))
theorem k_X2_isBit_ {x : Cx} {cc : ByteArray} {nL : Nat} {own : String} {d mc ms k n : Nat} {lv : List (Nat × Value)} {pc i : Nat} {rest : List Value} {wd : va_W} {p0 : Int32} (o : Ok x cc nL own d mc ms) {t : Int32} (ht : f_X2_isBit p0 = some t) (hlk : Cond.methodLink own i yX2_isBit ∈ Ug) (hd : 0 < d) (hr : (rest.map fun v => v.category).sum ≤ 8) (hk : k + 0 ≤ mc ∧ n + 0 ≤ ms) (dg : decode cc pc = .ok (.invokestatic i, 3)) (kk : G x nL (k + 0) (n + 0) wd lv (pc + 3) (.int t :: rest)) : G x nL k n wd lv pc (.int p0 :: rest) := gcI (wd2 := wd) o (c_X2_isBit (cxl x) o.2.2.2.2.2.2.2.2.2.1 p0 t ht) (can_S o hd (Nat.le_of_ble_eq_true rfl) m_1019 m_56 m_1018 hlk yk_X2_isBit rfl hr hk dg) sp_none (fun E h => by cases h) (fun r h => by cases h; exact kk)
def rt_X2_bits (x : Cx) (t : Int32) : Prop := RetI x cX2_bits .int 0 0 (w0 (cxT x)) t
set_option maxRecDepth 20000 in
set_option maxHeartbeats 2000000 in
theorem b_X2_bits_L4 {x : Cx} (o : Ok x cX2_bits 3 RX2 0 0 0) {k n : Nat} (hk : k ≤ 0) (hn : n ≤ 0) (c0 : Int32) (r : (Int32 × Int32) ⊕ (Int32)) (hX : ∀ s : Int32 × Int32, r = .inl s → G x 3 k n (w0 (cxT x)) [(1, .int s.1)] 24 []) (hR : ∀ t, r = .inr t → rt_X2_bits x  t) : ∀ (m : Nat) (s : Int32 × Int32), loopN (f_X2_bits_s4 c0) m s = some r → G x 3 k n (w0 (cxT x)) [(0, .int c0), (1, .int s.1), (2, .int s.2)] 4 [] := by
  refine loop_W _ (fun (s : Int32 × Int32) => G x 3 k n (w0 (cxT x)) [(0, .int c0), (1, .int s.1), (2, .int s.2)] 4 []) r ?_
  intro s ww hf hw
  unfold f_X2_bits_s4 at hf
  refine g_iload_n o 2 rfl rfl dX2_bits_4 ?_
  refine g_bipush o bp_16 dX2_bits_5 ?_
  refine g_ic_ge (tgt := 24) o rfl dX2_bits_7 hf (fun hc hf => ?_) (fun hc hf => ?_)
  · exact g_perm [1] rfl (hX _ (lf_x hf hw))
  · refine g_iload_n o 1 rfl rfl dX2_bits_10 ?_
    refine g_iload_n o 0 rfl rfl dX2_bits_11 ?_
    refine g_iload_n o 2 rfl rfl dX2_bits_12 ?_
    refine g_ishr o dX2_bits_13 ?_
    refine g_iconst o ic_1 dX2_bits_14 ?_
    refine g_iand o dX2_bits_15 ?_
    refine g_iadd o dX2_bits_16 ?_
    refine g_nmi hf (fun x1 hf => ?_)
    refine g_istore_n o [(1, .int x1), (0, .int c0), (2, .int s.2)] (Nat.le_of_ble_eq_true rfl) rfl rfl dX2_bits_17 ?_
    refine g_iinc o [(2, .int (s.2 + 1)), (1, .int x1), (0, .int c0)] 2 rfl (inc_1 _) (Nat.le_of_ble_eq_true rfl) rfl dX2_bits_18 ?_
    refine g_goto (tgt := 4) o rfl dX2_bits_21 ?_
    have hp := lf_c hf hw
    exact g_perm [2, 1, 0] rfl hp
set_option maxRecDepth 20000 in
set_option maxHeartbeats 2000000 in
theorem b_X2_bits {x : Cx} (o : Ok x cX2_bits 3 RX2 0 0 0) (p0 : Int32) (t : Int32) (hf : f_X2_bits p0 = some t) (hret : rt_X2_bits x  t) : G x 3 0 0 (w0 (cxT x)) [(0, .int p0)] 0 [] := by
  unfold f_X2_bits at hf
  refine g_iconst o ic_0 dX2_bits_0 ?_
  refine g_istore_n o [(1, .int 0), (0, .int p0)] (Nat.le_of_ble_eq_true rfl) rfl rfl dX2_bits_1 ?_
  refine g_iconst o ic_0 dX2_bits_2 ?_
  refine g_istore_n o [(2, .int 0), (1, .int 0), (0, .int p0)] (Nat.le_of_ble_eq_true rfl) rfl rfl dX2_bits_3 ?_
  obtain ⟨r3, hr3, hxr3, hrr3⟩ := bl_some hf
  refine g_perm [2, 1, 0] rfl (b_X2_bits_L4 o (Nat.le_of_ble_eq_true rfl) (Nat.le_of_ble_eq_true rfl)  p0 r3 (fun s4 hs => ?_) (fun t2 ht => ?_) FU (0, 0) hr3)
  · have hf := hxr3 s4 hs
    refine g_iload_n o 0 rfl rfl dX2_bits_24 ?_
    cases Option.some.inj hf
    exact g_iret hret (Nat.le_of_ble_eq_true rfl) (Nat.le_of_ble_eq_true rfl) (vp_nar_int _) dX2_bits_25
  · have hf := hrr3 t2 ht
    cases Option.some.inj hf
    exact hret
theorem c_X2_bits (l : Launch) (hst : l.stackTraces = false) (p0 : Int32) (t : Int32) (hf : f_X2_bits p0 = some t) : CoI l yX2_bits (.code yX2_bits cX2_bits 3 (some .int)) 0 0 0 [.int p0] w0 w0 (.inl t) := mkI hst (by decide +kernel) (Nat.le_of_ble_eq_true rfl) (fun x _ o hI hX => b_X2_bits o p0 t hf (hI _ rfl))
theorem k_X2_bits_ {x : Cx} {cc : ByteArray} {nL : Nat} {own : String} {d mc ms k n : Nat} {lv : List (Nat × Value)} {pc i : Nat} {rest : List Value} {wd : va_W} {p0 : Int32} (o : Ok x cc nL own d mc ms) {t : Int32} (ht : f_X2_bits p0 = some t) (hlk : Cond.methodLink own i yX2_bits ∈ Ug) (hd : 0 < d) (hr : (rest.map fun v => v.category).sum ≤ 8) (hk : k + 0 ≤ mc ∧ n + 0 ≤ ms) (dg : decode cc pc = .ok (.invokestatic i, 3)) (kk : G x nL (k + 0) (n + 0) wd lv (pc + 3) (.int t :: rest)) : G x nL k n wd lv pc (.int p0 :: rest) := gcI (wd2 := wd) o (c_X2_bits (cxl x) o.2.2.2.2.2.2.2.2.2.1 p0 t ht) (can_S o hd (Nat.le_of_ble_eq_true rfl) m_1022 m_56 m_1021 hlk yk_X2_bits rfl hr hk dg) sp_none (fun E h => by cases h) (fun r h => by cases h; exact kk)
def rt_X2_addParity (x : Cx) (a : Nat → Nat) (t : Int32 × St) : Prop := RetI x cX2_addParity .int 0 0 (wM a t.2 (cxT x)) t.1
set_option maxRecDepth 20000 in
set_option maxHeartbeats 2000000 in
theorem b_X2_addParity_L42 {x : Cx} (o : Ok x cX2_addParity 5 RX2 1 0 0) {k n : Nat} (hk : k ≤ 0) (hn : n ≤ 0) (a : Nat → Nat) (u : St) (c1 : Int32) (c2 : Int32) (r : (Int32 × Int32) ⊕ (Int32 × St)) (hX : ∀ s : Int32 × Int32, r = .inl s → G x 5 k n (wM a u (cxT x)) [(0, .ref (a 0)), (1, .int c1), (3, .int s.1)] 78 []) (hR : ∀ t, r = .inr t → rt_X2_addParity x a t) : ∀ (m : Nat) (s : Int32 × Int32), loopN (f_X2_addParity_s42 u c1 c2) m s = some r → G x 5 k n (wM a u (cxT x)) [(0, .ref (a 0)), (1, .int c1), (2, .int c2), (3, .int s.1), (4, .int s.2)] 42 [] := by
  refine loop_W _ (fun (s : Int32 × Int32) => G x 5 k n (wM a u (cxT x)) [(0, .ref (a 0)), (1, .int c1), (2, .int c2), (3, .int s.1), (4, .int s.2)] 42 []) r ?_
  intro s ww hf hw
  unfold f_X2_addParity_s42 at hf
  refine g_iload o 4 rfl dX2_addParity_42 ?_
  refine g_iconst o ic_1 dX2_addParity_44 ?_
  refine g_iload_n o 1 rfl rfl dX2_addParity_45 ?_
  refine g_ishl o dX2_addParity_46 ?_
  refine g_ic_ge (tgt := 78) o rfl dX2_addParity_47 hf (fun hc hf => ?_) (fun hc hf => ?_)
  · exact g_perm [0, 1, 3] rfl (hX _ (lf_x hf hw))
  · refine g_iload_n o 3 rfl rfl dX2_addParity_50 ?_
    refine g_iload o 4 rfl dX2_addParity_51 ?_
    obtain ⟨r4, hr4, hf⟩ := bd_some hf
    refine k_X2_bits_ o hr4 m_1020 (Nat.le_of_ble_eq_true rfl) (Nat.le_of_ble_eq_true rfl) ⟨hk, hn⟩ dX2_addParity_53 ?_
    refine g_iconst o ic_2 dX2_addParity_56 ?_
    refine g_irem o (by decide) dX2_addParity_57 ?_
    refine g_iload_n o 2 rfl rfl dX2_addParity_58 ?_
    refine g_ic_ne (tgt := 69) o rfl dX2_addParity_59 hf (fun hc hf => ?_) (fun hc hf => ?_)
    · refine g_iconst o ic_0 dX2_addParity_69 ?_
      refine g_ior o dX2_addParity_70 ?_
      refine g_nmi hf (fun x5 hf => ?_)
      refine g_istore_n o [(3, .int x5), (0, .ref (a 0)), (1, .int c1), (2, .int c2), (4, .int s.2)] (Nat.le_of_ble_eq_true rfl) rfl rfl dX2_addParity_71 ?_
      refine g_iinc o [(4, .int (s.2 + 1)), (3, .int x5), (0, .ref (a 0)), (1, .int c1), (2, .int c2)] 4 rfl (inc_1 _) (Nat.le_of_ble_eq_true rfl) rfl dX2_addParity_72 ?_
      refine g_goto (tgt := 42) o rfl dX2_addParity_75 ?_
      have hp := lf_c hf hw
      exact g_perm [2, 3, 4, 1, 0] rfl hp
    · refine g_iconst o ic_1 dX2_addParity_62 ?_
      refine g_iload o 4 rfl dX2_addParity_63 ?_
      refine g_ishl o dX2_addParity_65 ?_
      refine g_goto (tgt := 70) o rfl dX2_addParity_66 ?_
      refine g_ior o dX2_addParity_70 ?_
      refine g_nmi hf (fun x6 hf => ?_)
      refine g_istore_n o [(3, .int x6), (0, .ref (a 0)), (1, .int c1), (2, .int c2), (4, .int s.2)] (Nat.le_of_ble_eq_true rfl) rfl rfl dX2_addParity_71 ?_
      refine g_iinc o [(4, .int (s.2 + 1)), (3, .int x6), (0, .ref (a 0)), (1, .int c1), (2, .int c2)] 4 rfl (inc_1 _) (Nat.le_of_ble_eq_true rfl) rfl dX2_addParity_72 ?_
      refine g_goto (tgt := 42) o rfl dX2_addParity_75 ?_
      have hp := lf_c hf hw
      exact g_perm [2, 3, 4, 1, 0] rfl hp
set_option maxRecDepth 20000 in
set_option maxHeartbeats 2000000 in
theorem b_X2_addParity {x : Cx} (o : Ok x cX2_addParity 5 RX2 1 0 0) (a : Nat → Nat) (u : St) (p0 : Int32) (p1 : Int32) (t : Int32 × St) (hf : f_X2_addParity u p0 p1 = some t) (hret : rt_X2_addParity x a t) : G x 5 0 0 (wM a u (cxT x)) [(0, .ref (a 0)), (1, .int p0), (2, .int p1)] 0 [] := by
  unfold f_X2_addParity at hf
  refine g_iload_n o 1 rfl rfl dX2_addParity_0 ?_
  refine g_iconst o ic_1 dX2_addParity_1 ?_
  refine g_iconst o ic_4 dX2_addParity_2 ?_
  obtain ⟨r1, hr1, hf⟩ := bd_some hf
  refine k_X2_isBetween_ o hr1 m_992 (Nat.le_of_ble_eq_true rfl) (Nat.le_of_ble_eq_true rfl) ⟨(Nat.le_of_ble_eq_true rfl), (Nat.le_of_ble_eq_true rfl)⟩ dX2_addParity_3 ?_
  refine g_if_eq (tgt := 16) o rfl dX2_addParity_6 hf (fun hc hf => ?_) (fun hc hf => ?_)
  · refine g_aload_n o 0 rfl rfl dX2_addParity_16 ?_
    refine g_iconst o ic_1 dX2_addParity_17 ?_
    obtain ⟨r2, hr2, hf⟩ := bd_some hf
    refine k_X2_fails_ o hr2 m_995 (Nat.le_of_ble_eq_true rfl) (Nat.le_of_ble_eq_true rfl) ⟨(Nat.le_of_ble_eq_true rfl), (Nat.le_of_ble_eq_true rfl)⟩ dX2_addParity_18 ?_
    cases Option.some.inj hf
    exact g_iret hret (Nat.le_of_ble_eq_true rfl) (Nat.le_of_ble_eq_true rfl) (vp_nar_int _) dX2_addParity_21
  · refine g_iload_n o 2 rfl rfl dX2_addParity_9 ?_
    obtain ⟨r3, hr3, hf⟩ := bd_some hf
    refine k_X2_isBit_ o hr3 m_1017 (Nat.le_of_ble_eq_true rfl) (Nat.le_of_ble_eq_true rfl) ⟨(Nat.le_of_ble_eq_true rfl), (Nat.le_of_ble_eq_true rfl)⟩ dX2_addParity_10 ?_
    refine g_if_ne (tgt := 22) o rfl dX2_addParity_13 hf (fun hc hf => ?_) (fun hc hf => ?_)
    · refine g_aload_n o 0 rfl rfl dX2_addParity_22 ?_
      refine M_get3 o m_922 dX2_addParity_23 ?_
      refine g_bipush o bp_8 dX2_addParity_26 ?_
      refine g_ic_ne (tgt := 37) o rfl dX2_addParity_28 hf (fun hc hf => ?_) (fun hc hf => ?_)
      · refine g_iconst o ic_0 dX2_addParity_37 ?_
        refine g_istore_n o [(3, .int 0), (0, .ref (a 0)), (1, .int p0), (2, .int p1)] (Nat.le_of_ble_eq_true rfl) rfl rfl dX2_addParity_38 ?_
        refine g_iconst o ic_0 dX2_addParity_39 ?_
        refine g_istore o [(4, .int 0), (3, .int 0), (0, .ref (a 0)), (1, .int p0), (2, .int p1)] (Nat.le_of_ble_eq_true rfl) rfl dX2_addParity_40 ?_
        obtain ⟨r8, hr8, hxr8, hrr8⟩ := bl_some hf
        refine g_perm [2, 3, 4, 1, 0] rfl (b_X2_addParity_L42 o (Nat.le_of_ble_eq_true rfl) (Nat.le_of_ble_eq_true rfl) a u p0 p1 r8 (fun s42 hs => ?_) (fun t7 ht => ?_) FU (0, 0) hr8)
        · have hf := hxr8 s42 hs
          refine g_aload_n o 0 rfl rfl dX2_addParity_78 ?_
          refine g_iload_n o 1 rfl rfl dX2_addParity_79 ?_
          refine g_iload_n o 2 rfl rfl dX2_addParity_80 ?_
          obtain ⟨r9, hr9, hf⟩ := bd_some hf
          refine k_X2_adds_ o hr9 m_999 (Nat.le_of_ble_eq_true rfl) (Nat.le_of_ble_eq_true rfl) ⟨(Nat.le_of_ble_eq_true rfl), (Nat.le_of_ble_eq_true rfl)⟩ dX2_addParity_81 ?_
          cases Option.some.inj hf
          exact g_iret hret (Nat.le_of_ble_eq_true rfl) (Nat.le_of_ble_eq_true rfl) (vp_nar_int _) dX2_addParity_84
        · have hf := hrr8 t7 ht
          cases Option.some.inj hf
          exact hret
      · refine g_aload_n o 0 rfl rfl dX2_addParity_31 ?_
        refine g_iconst o ic_2 dX2_addParity_32 ?_
        obtain ⟨r10, hr10, hf⟩ := bd_some hf
        refine k_X2_fails_ o hr10 m_995 (Nat.le_of_ble_eq_true rfl) (Nat.le_of_ble_eq_true rfl) ⟨(Nat.le_of_ble_eq_true rfl), (Nat.le_of_ble_eq_true rfl)⟩ dX2_addParity_33 ?_
        cases Option.some.inj hf
        exact g_iret hret (Nat.le_of_ble_eq_true rfl) (Nat.le_of_ble_eq_true rfl) (vp_nar_int _) dX2_addParity_36
    · refine g_aload_n o 0 rfl rfl dX2_addParity_16 ?_
      refine g_iconst o ic_1 dX2_addParity_17 ?_
      obtain ⟨r11, hr11, hf⟩ := bd_some hf
      refine k_X2_fails_ o hr11 m_995 (Nat.le_of_ble_eq_true rfl) (Nat.le_of_ble_eq_true rfl) ⟨(Nat.le_of_ble_eq_true rfl), (Nat.le_of_ble_eq_true rfl)⟩ dX2_addParity_18 ?_
      cases Option.some.inj hf
      exact g_iret hret (Nat.le_of_ble_eq_true rfl) (Nat.le_of_ble_eq_true rfl) (vp_nar_int _) dX2_addParity_21
theorem c_X2_addParity (l : Launch) (hst : l.stackTraces = false) (a : Nat → Nat) (u : St) (p0 : Int32) (p1 : Int32) (t : Int32 × St) (hf : f_X2_addParity u p0 p1 = some t) : CoI l yX2_addParity (.code yX2_addParity cX2_addParity 5 (some .int)) 1 0 0 [.ref (a 0), .int p0, .int p1] (wM a u) (wM a t.2) (.inl t.1) := mkI hst (by decide +kernel) (Nat.le_of_ble_eq_true rfl) (fun x _ o hI hX => b_X2_addParity o a u p0 p1 t hf (hI _ rfl))
def rt_X2_isRelation (x : Cx) (a : Nat → Nat) (u : St) (t : Int32) : Prop := RetI x cX2_isRelation .boolean 0 0 (wM a u (cxT x)) t
set_option maxRecDepth 20000 in
set_option maxHeartbeats 2000000 in
theorem b_X2_isRelation {x : Cx} (o : Ok x cX2_isRelation 2 RX2 0 0 0) (a : Nat → Nat) (u : St) (p0 : Int32) (t : Int32) (hf : f_X2_isRelation u p0 = some t) (hret : rt_X2_isRelation x a u t) : G x 2 0 0 (wM a u (cxT x)) [(0, .ref (a 0)), (1, .int p0)] 0 [] := by
  unfold f_X2_isRelation at hf
  refine g_iload_n o 1 rfl rfl dX2_isRelation_0 ?_
  refine g_if_lt (tgt := 16) o rfl dX2_isRelation_1 hf (fun hc hf => ?_) (fun hc hf => ?_)
  · refine g_iconst o ic_0 dX2_isRelation_16 ?_
    cases Option.some.inj hf
    exact g_iret hret (Nat.le_of_ble_eq_true rfl) (Nat.le_of_ble_eq_true rfl) nb_0 dX2_isRelation_17
  · refine g_iload_n o 1 rfl rfl dX2_isRelation_4 ?_
    refine g_aload_n o 0 rfl rfl dX2_isRelation_5 ?_
    refine M_get3 o m_922 dX2_isRelation_6 ?_
    refine g_ic_ge (tgt := 16) o rfl dX2_isRelation_9 hf (fun hc hf => ?_) (fun hc hf => ?_)
    · refine g_iconst o ic_0 dX2_isRelation_16 ?_
      cases Option.some.inj hf
      exact g_iret hret (Nat.le_of_ble_eq_true rfl) (Nat.le_of_ble_eq_true rfl) nb_0 dX2_isRelation_17
    · refine g_iconst o ic_1 dX2_isRelation_12 ?_
      refine g_goto (tgt := 17) o rfl dX2_isRelation_13 ?_
      cases Option.some.inj hf
      exact g_iret hret (Nat.le_of_ble_eq_true rfl) (Nat.le_of_ble_eq_true rfl) nb_1 dX2_isRelation_17
theorem c_X2_isRelation (l : Launch) (hst : l.stackTraces = false) (a : Nat → Nat) (u : St) (p0 : Int32) (t : Int32) (hf : f_X2_isRelation u p0 = some t) : CoI l yX2_isRelation (.code yX2_isRelation cX2_isRelation 2 (some .boolean)) 0 0 0 [.ref (a 0), .int p0] (wM a u) (wM a u) (.inl t) := mkI hst (by decide +kernel) (Nat.le_of_ble_eq_true rfl) (fun x _ o hI hX => b_X2_isRelation o a u p0 t hf (hI _ rfl))
theorem k_X2_isRelation_ {x : Cx} {cc : ByteArray} {nL : Nat} {own : String} {d mc ms k n : Nat} {lv : List (Nat × Value)} {pc i : Nat} {rest : List Value} {a : Nat → Nat} {u : St} {p0 : Int32} (o : Ok x cc nL own d mc ms) {t : Int32} (ht : f_X2_isRelation u p0 = some t) (hlk : Cond.methodLink own i yX2_isRelation ∈ Ug) (hd : 0 < d) (hr : (rest.map fun v => v.category).sum ≤ 8) (hk : k + 0 ≤ mc ∧ n + 0 ≤ ms) (dg : decode cc pc = .ok (.invokevirtual i, 3)) (kk : G x nL (k + 0) (n + 0) (wM a u (cxT x)) lv (pc + 3) (.int t :: rest)) : G x nL k n (wM a u (cxT x)) lv pc (.int p0 :: .ref (a 0) :: rest) := gcI (wd2 := (wM a u (cxT x))) o (c_X2_isRelation (cxl x) o.2.2.2.2.2.2.2.2.2.1 a u p0 t ht) (can_V (q0 := 0) o rfl rfl hd (Nat.le_of_ble_eq_true rfl) m_1034 m_56 m_1033 m_36 hlk yk_X2_isRelation rfl hr hk dg) sp_M (fun E h => by cases h) (fun r h => by cases h; exact kk)
def rt_X2_noTuple (x : Cx) (a : Nat → Nat) (u : St) (t : Int32) : Prop := RetI x cX2_noTuple .int 0 0 (wM a u (cxT x)) t
set_option maxRecDepth 20000 in
set_option maxHeartbeats 2000000 in
theorem b_X2_noTuple {x : Cx} (o : Ok x cX2_noTuple 3 RX2 1 0 0) (a : Nat → Nat) (u : St) (p0 : Int32) (p1 : Int32) (t : Int32) (hf : f_X2_noTuple u p0 p1 = some t) (hret : rt_X2_noTuple x a u t) : G x 3 0 0 (wM a u (cxT x)) [(0, .ref (a 0)), (1, .int p0), (2, .int p1)] 0 [] := by
  unfold f_X2_noTuple at hf
  refine g_aload_n o 0 rfl rfl dX2_noTuple_0 ?_
  refine g_iload_n o 1 rfl rfl dX2_noTuple_1 ?_
  obtain ⟨r1, hr1, hf⟩ := bd_some hf
  refine k_X2_isRelation_ o hr1 m_1031 (Nat.le_of_ble_eq_true rfl) (Nat.le_of_ble_eq_true rfl) ⟨(Nat.le_of_ble_eq_true rfl), (Nat.le_of_ble_eq_true rfl)⟩ dX2_noTuple_2 ?_
  refine g_if_ne (tgt := 12) o rfl dX2_noTuple_5 hf (fun hc hf => ?_) (fun hc hf => ?_)
  · refine g_aload_n o 0 rfl rfl dX2_noTuple_12 ?_
    refine M_get1 o m_920 dX2_noTuple_13 ?_
    refine g_iload_n o 1 rfl rfl dX2_noTuple_16 ?_
    refine M_ld1 o dX2_noTuple_17 hf (fun hf => ?_)
    refine g_iload_n o 2 rfl rfl dX2_noTuple_18 ?_
    obtain ⟨r2, hr2, hf⟩ := bd_some hf
    refine k_X2_isTuple_ o hr2 m_1007 (Nat.le_of_ble_eq_true rfl) (Nat.le_of_ble_eq_true rfl) ⟨(Nat.le_of_ble_eq_true rfl), (Nat.le_of_ble_eq_true rfl)⟩ dX2_noTuple_19 ?_
    refine g_if_ne (tgt := 29) o rfl dX2_noTuple_22 hf (fun hc hf => ?_) (fun hc hf => ?_)
    · refine g_iconst o ic_0 dX2_noTuple_29 ?_
      cases Option.some.inj hf
      exact g_iret hret (Nat.le_of_ble_eq_true rfl) (Nat.le_of_ble_eq_true rfl) (vp_nar_int _) dX2_noTuple_30
    · refine g_iconst o ic_2 dX2_noTuple_25 ?_
      refine g_goto (tgt := 30) o rfl dX2_noTuple_26 ?_
      cases Option.some.inj hf
      exact g_iret hret (Nat.le_of_ble_eq_true rfl) (Nat.le_of_ble_eq_true rfl) (vp_nar_int _) dX2_noTuple_30
  · refine g_iconst o ic_1 dX2_noTuple_8 ?_
    refine g_goto (tgt := 30) o rfl dX2_noTuple_9 ?_
    cases Option.some.inj hf
    exact g_iret hret (Nat.le_of_ble_eq_true rfl) (Nat.le_of_ble_eq_true rfl) (vp_nar_int _) dX2_noTuple_30
theorem c_X2_noTuple (l : Launch) (hst : l.stackTraces = false) (a : Nat → Nat) (u : St) (p0 : Int32) (p1 : Int32) (t : Int32) (hf : f_X2_noTuple u p0 p1 = some t) : CoI l yX2_noTuple (.code yX2_noTuple cX2_noTuple 3 (some .int)) 1 0 0 [.ref (a 0), .int p0, .int p1] (wM a u) (wM a u) (.inl t) := mkI hst (by decide +kernel) (Nat.le_of_ble_eq_true rfl) (fun x _ o hI hX => b_X2_noTuple o a u p0 p1 t hf (hI _ rfl))
theorem k_X2_noTuple_ {x : Cx} {cc : ByteArray} {nL : Nat} {own : String} {d mc ms k n : Nat} {lv : List (Nat × Value)} {pc i : Nat} {rest : List Value} {a : Nat → Nat} {u : St} {p0 : Int32} {p1 : Int32} (o : Ok x cc nL own d mc ms) {t : Int32} (ht : f_X2_noTuple u p0 p1 = some t) (hlk : Cond.methodLink own i yX2_noTuple ∈ Ug) (hd : 1 < d) (hr : (rest.map fun v => v.category).sum ≤ 8) (hk : k + 0 ≤ mc ∧ n + 0 ≤ ms) (dg : decode cc pc = .ok (.invokevirtual i, 3)) (kk : G x nL (k + 0) (n + 0) (wM a u (cxT x)) lv (pc + 3) (.int t :: rest)) : G x nL k n (wM a u (cxT x)) lv pc (.int p1 :: .int p0 :: .ref (a 0) :: rest) := gcI (wd2 := (wM a u (cxT x))) o (c_X2_noTuple (cxl x) o.2.2.2.2.2.2.2.2.2.1 a u p0 p1 t ht) (can_V (q0 := 0) o rfl rfl hd (Nat.le_of_ble_eq_true rfl) m_1030 m_56 m_1029 m_35 hlk yk_X2_noTuple rfl hr hk dg) sp_M (fun E h => by cases h) (fun r h => by cases h; exact kk)
def rt_X2_addTuple (x : Cx) (a : Nat → Nat) (t : Int32 × St) : Prop := RetI x cX2_addTuple .boolean 0 0 (wM a t.2 (cxT x)) t.1
set_option maxRecDepth 20000 in
set_option maxHeartbeats 2000000 in
theorem b_X2_addTuple {x : Cx} (o : Ok x cX2_addTuple 4 RX2 2 0 0) (a : Nat → Nat) (u : St) (p0 : Int32) (p1 : Int32) (t : Int32 × St) (hf : f_X2_addTuple u p0 p1 = some t) (hret : rt_X2_addTuple x a t) : G x 4 0 0 (wM a u (cxT x)) [(0, .ref (a 0)), (1, .int p0), (2, .int p1)] 0 [] := by
  unfold f_X2_addTuple at hf
  refine g_aload_n o 0 rfl rfl dX2_addTuple_0 ?_
  refine g_aload_n o 0 rfl rfl dX2_addTuple_1 ?_
  refine g_iload_n o 1 rfl rfl dX2_addTuple_2 ?_
  refine g_iload_n o 2 rfl rfl dX2_addTuple_3 ?_
  obtain ⟨r1, hr1, hf⟩ := bd_some hf
  refine k_X2_noTuple_ o hr1 m_1027 (Nat.le_of_ble_eq_true rfl) (Nat.le_of_ble_eq_true rfl) ⟨(Nat.le_of_ble_eq_true rfl), (Nat.le_of_ble_eq_true rfl)⟩ dX2_addTuple_4 ?_
  refine M_put0 o m_919 dX2_addTuple_7 ?_
  refine g_aload_n o 0 rfl rfl dX2_addTuple_10 ?_
  refine M_get0 o m_919 dX2_addTuple_11 ?_
  refine g_if_le (tgt := 19) o rfl dX2_addTuple_14 hf (fun hc hf => ?_) (fun hc hf => ?_)
  · refine g_aload_n o 0 rfl rfl dX2_addTuple_19 ?_
    refine M_get2 o m_921 dX2_addTuple_20 ?_
    refine g_iload_n o 1 rfl rfl dX2_addTuple_23 ?_
    refine M_ld2 o dX2_addTuple_24 hf (fun hf => ?_)
    refine g_iload_n o 2 rfl rfl dX2_addTuple_25 ?_
    refine g_ishr o dX2_addTuple_26 ?_
    refine g_iconst o ic_1 dX2_addTuple_27 ?_
    refine g_iand o dX2_addTuple_28 ?_
    refine g_if_ne (tgt := 36) o rfl dX2_addTuple_29 hf (fun hc hf => ?_) (fun hc hf => ?_)
    · refine g_iconst o ic_0 dX2_addTuple_36 ?_
      refine g_istore_n o [(3, .int 0), (0, .ref (a 0)), (1, .int p0), (2, .int p1)] (Nat.le_of_ble_eq_true rfl) rfl rfl dX2_addTuple_37 ?_
      refine g_aload_n o 1 rfl rfl dX2_addTuple_38 ?_
      refine M_get2 o m_921 dX2_addTuple_39 ?_
      refine g_iload_n o 2 rfl rfl dX2_addTuple_42 ?_
      refine g_dup2 o rfl rfl dX2_addTuple_43 ?_
      refine M_ld2 o dX2_addTuple_44 hf (fun hf => ?_)
      refine g_iconst o ic_1 dX2_addTuple_45 ?_
      refine g_iload_n o 3 rfl rfl dX2_addTuple_46 ?_
      refine g_ishl o dX2_addTuple_47 ?_
      refine g_ior o dX2_addTuple_48 ?_
      refine M_st2 o dX2_addTuple_49 hf (fun hf => ?_)
      refine g_iload_n o 0 rfl rfl dX2_addTuple_50 ?_
      cases Option.some.inj hf
      exact g_iret hret (Nat.le_of_ble_eq_true rfl) (Nat.le_of_ble_eq_true rfl) nb_0 dX2_addTuple_51
    · refine g_iconst o ic_1 dX2_addTuple_32 ?_
      refine g_goto (tgt := 37) o rfl dX2_addTuple_33 ?_
      refine g_istore_n o [(3, .int 1), (0, .ref (a 0)), (1, .int p0), (2, .int p1)] (Nat.le_of_ble_eq_true rfl) rfl rfl dX2_addTuple_37 ?_
      refine g_aload_n o 1 rfl rfl dX2_addTuple_38 ?_
      refine M_get2 o m_921 dX2_addTuple_39 ?_
      refine g_iload_n o 2 rfl rfl dX2_addTuple_42 ?_
      refine g_dup2 o rfl rfl dX2_addTuple_43 ?_
      refine M_ld2 o dX2_addTuple_44 hf (fun hf => ?_)
      refine g_iconst o ic_1 dX2_addTuple_45 ?_
      refine g_iload_n o 3 rfl rfl dX2_addTuple_46 ?_
      refine g_ishl o dX2_addTuple_47 ?_
      refine g_ior o dX2_addTuple_48 ?_
      refine M_st2 o dX2_addTuple_49 hf (fun hf => ?_)
      refine g_iload_n o 0 rfl rfl dX2_addTuple_50 ?_
      cases Option.some.inj hf
      exact g_iret hret (Nat.le_of_ble_eq_true rfl) (Nat.le_of_ble_eq_true rfl) nb_1 dX2_addTuple_51
  · refine g_iconst o ic_0 dX2_addTuple_17 ?_
    cases Option.some.inj hf
    exact g_iret hret (Nat.le_of_ble_eq_true rfl) (Nat.le_of_ble_eq_true rfl) nb_0 dX2_addTuple_18
theorem c_X2_addTuple (l : Launch) (hst : l.stackTraces = false) (a : Nat → Nat) (u : St) (p0 : Int32) (p1 : Int32) (t : Int32 × St) (hf : f_X2_addTuple u p0 p1 = some t) : CoI l yX2_addTuple (.code yX2_addTuple cX2_addTuple 4 (some .boolean)) 2 0 0 [.ref (a 0), .int p0, .int p1] (wM a u) (wM a t.2) (.inl t.1) := mkI hst (by decide +kernel) (Nat.le_of_ble_eq_true rfl) (fun x _ o hI hX => b_X2_addTuple o a u p0 p1 t hf (hI _ rfl))
def rt_X2_removeTuple (x : Cx) (a : Nat → Nat) (t : Int32 × St) : Prop := RetI x cX2_removeTuple .boolean 0 0 (wM a t.2 (cxT x)) t.1
set_option maxRecDepth 20000 in
set_option maxHeartbeats 2000000 in
theorem b_X2_removeTuple {x : Cx} (o : Ok x cX2_removeTuple 4 RX2 2 0 0) (a : Nat → Nat) (u : St) (p0 : Int32) (p1 : Int32) (t : Int32 × St) (hf : f_X2_removeTuple u p0 p1 = some t) (hret : rt_X2_removeTuple x a t) : G x 4 0 0 (wM a u (cxT x)) [(0, .ref (a 0)), (1, .int p0), (2, .int p1)] 0 [] := by
  unfold f_X2_removeTuple at hf
  refine g_aload_n o 0 rfl rfl dX2_removeTuple_0 ?_
  refine g_aload_n o 0 rfl rfl dX2_removeTuple_1 ?_
  refine g_iload_n o 1 rfl rfl dX2_removeTuple_2 ?_
  refine g_iload_n o 2 rfl rfl dX2_removeTuple_3 ?_
  obtain ⟨r1, hr1, hf⟩ := bd_some hf
  refine k_X2_noTuple_ o hr1 m_1027 (Nat.le_of_ble_eq_true rfl) (Nat.le_of_ble_eq_true rfl) ⟨(Nat.le_of_ble_eq_true rfl), (Nat.le_of_ble_eq_true rfl)⟩ dX2_removeTuple_4 ?_
  refine M_put0 o m_919 dX2_removeTuple_7 ?_
  refine g_aload_n o 0 rfl rfl dX2_removeTuple_10 ?_
  refine M_get0 o m_919 dX2_removeTuple_11 ?_
  refine g_if_le (tgt := 19) o rfl dX2_removeTuple_14 hf (fun hc hf => ?_) (fun hc hf => ?_)
  · refine g_aload_n o 0 rfl rfl dX2_removeTuple_19 ?_
    refine M_get2 o m_921 dX2_removeTuple_20 ?_
    refine g_iload_n o 1 rfl rfl dX2_removeTuple_23 ?_
    refine M_ld2 o dX2_removeTuple_24 hf (fun hf => ?_)
    refine g_iload_n o 2 rfl rfl dX2_removeTuple_25 ?_
    refine g_ishr o dX2_removeTuple_26 ?_
    refine g_iconst o ic_1 dX2_removeTuple_27 ?_
    refine g_iand o dX2_removeTuple_28 ?_
    refine g_iconst o ic_1 dX2_removeTuple_29 ?_
    refine g_ic_ne (tgt := 37) o rfl dX2_removeTuple_30 hf (fun hc hf => ?_) (fun hc hf => ?_)
    · refine g_iconst o ic_0 dX2_removeTuple_37 ?_
      refine g_istore_n o [(3, .int 0), (0, .ref (a 0)), (1, .int p0), (2, .int p1)] (Nat.le_of_ble_eq_true rfl) rfl rfl dX2_removeTuple_38 ?_
      refine g_aload_n o 1 rfl rfl dX2_removeTuple_39 ?_
      refine M_get2 o m_921 dX2_removeTuple_40 ?_
      refine g_iload_n o 2 rfl rfl dX2_removeTuple_43 ?_
      refine g_dup2 o rfl rfl dX2_removeTuple_44 ?_
      refine M_ld2 o dX2_removeTuple_45 hf (fun hf => ?_)
      refine g_iconst o ic_1 dX2_removeTuple_46 ?_
      refine g_iload_n o 3 rfl rfl dX2_removeTuple_47 ?_
      refine g_ishl o dX2_removeTuple_48 ?_
      refine g_iconst o ic_m1 dX2_removeTuple_49 ?_
      refine g_ixor o dX2_removeTuple_50 ?_
      refine g_iand o dX2_removeTuple_51 ?_
      refine M_st2 o dX2_removeTuple_52 hf (fun hf => ?_)
      refine g_iload_n o 0 rfl rfl dX2_removeTuple_53 ?_
      cases Option.some.inj hf
      exact g_iret hret (Nat.le_of_ble_eq_true rfl) (Nat.le_of_ble_eq_true rfl) nb_0 dX2_removeTuple_54
    · refine g_iconst o ic_1 dX2_removeTuple_33 ?_
      refine g_goto (tgt := 38) o rfl dX2_removeTuple_34 ?_
      refine g_istore_n o [(3, .int 1), (0, .ref (a 0)), (1, .int p0), (2, .int p1)] (Nat.le_of_ble_eq_true rfl) rfl rfl dX2_removeTuple_38 ?_
      refine g_aload_n o 1 rfl rfl dX2_removeTuple_39 ?_
      refine M_get2 o m_921 dX2_removeTuple_40 ?_
      refine g_iload_n o 2 rfl rfl dX2_removeTuple_43 ?_
      refine g_dup2 o rfl rfl dX2_removeTuple_44 ?_
      refine M_ld2 o dX2_removeTuple_45 hf (fun hf => ?_)
      refine g_iconst o ic_1 dX2_removeTuple_46 ?_
      refine g_iload_n o 3 rfl rfl dX2_removeTuple_47 ?_
      refine g_ishl o dX2_removeTuple_48 ?_
      refine g_iconst o ic_m1 dX2_removeTuple_49 ?_
      refine g_ixor o dX2_removeTuple_50 ?_
      refine g_iand o dX2_removeTuple_51 ?_
      refine M_st2 o dX2_removeTuple_52 hf (fun hf => ?_)
      refine g_iload_n o 0 rfl rfl dX2_removeTuple_53 ?_
      cases Option.some.inj hf
      exact g_iret hret (Nat.le_of_ble_eq_true rfl) (Nat.le_of_ble_eq_true rfl) nb_1 dX2_removeTuple_54
  · refine g_iconst o ic_0 dX2_removeTuple_17 ?_
    cases Option.some.inj hf
    exact g_iret hret (Nat.le_of_ble_eq_true rfl) (Nat.le_of_ble_eq_true rfl) nb_0 dX2_removeTuple_18
theorem c_X2_removeTuple (l : Launch) (hst : l.stackTraces = false) (a : Nat → Nat) (u : St) (p0 : Int32) (p1 : Int32) (t : Int32 × St) (hf : f_X2_removeTuple u p0 p1 = some t) : CoI l yX2_removeTuple (.code yX2_removeTuple cX2_removeTuple 4 (some .boolean)) 2 0 0 [.ref (a 0), .int p0, .int p1] (wM a u) (wM a t.2) (.inl t.1) := mkI hst (by decide +kernel) (Nat.le_of_ble_eq_true rfl) (fun x _ o hI hX => b_X2_removeTuple o a u p0 p1 t hf (hI _ rfl))
def rt_X2_contains (x : Cx) (a : Nat → Nat) (t : Int32 × St) : Prop := RetI x cX2_contains .boolean 0 0 (wM a t.2 (cxT x)) t.1
set_option maxRecDepth 20000 in
set_option maxHeartbeats 2000000 in
theorem b_X2_contains {x : Cx} (o : Ok x cX2_contains 3 RX2 2 0 0) (a : Nat → Nat) (u : St) (p0 : Int32) (p1 : Int32) (t : Int32 × St) (hf : f_X2_contains u p0 p1 = some t) (hret : rt_X2_contains x a t) : G x 3 0 0 (wM a u (cxT x)) [(0, .ref (a 0)), (1, .int p0), (2, .int p1)] 0 [] := by
  unfold f_X2_contains at hf
  refine g_aload_n o 0 rfl rfl dX2_contains_0 ?_
  refine g_aload_n o 0 rfl rfl dX2_contains_1 ?_
  refine g_iload_n o 1 rfl rfl dX2_contains_2 ?_
  refine g_iload_n o 2 rfl rfl dX2_contains_3 ?_
  obtain ⟨r1, hr1, hf⟩ := bd_some hf
  refine k_X2_noTuple_ o hr1 m_1027 (Nat.le_of_ble_eq_true rfl) (Nat.le_of_ble_eq_true rfl) ⟨(Nat.le_of_ble_eq_true rfl), (Nat.le_of_ble_eq_true rfl)⟩ dX2_contains_4 ?_
  refine M_put0 o m_919 dX2_contains_7 ?_
  refine g_aload_n o 0 rfl rfl dX2_contains_10 ?_
  refine M_get0 o m_919 dX2_contains_11 ?_
  refine g_if_ne (tgt := 35) o rfl dX2_contains_14 hf (fun hc hf => ?_) (fun hc hf => ?_)
  · refine g_iconst o ic_0 dX2_contains_35 ?_
    cases Option.some.inj hf
    exact g_iret hret (Nat.le_of_ble_eq_true rfl) (Nat.le_of_ble_eq_true rfl) nb_0 dX2_contains_36
  · refine g_aload_n o 0 rfl rfl dX2_contains_17 ?_
    refine M_get2 o m_921 dX2_contains_18 ?_
    refine g_iload_n o 1 rfl rfl dX2_contains_21 ?_
    refine M_ld2 o dX2_contains_22 hf (fun hf => ?_)
    refine g_iload_n o 2 rfl rfl dX2_contains_23 ?_
    refine g_ishr o dX2_contains_24 ?_
    refine g_iconst o ic_1 dX2_contains_25 ?_
    refine g_iand o dX2_contains_26 ?_
    refine g_iconst o ic_1 dX2_contains_27 ?_
    refine g_ic_ne (tgt := 35) o rfl dX2_contains_28 hf (fun hc hf => ?_) (fun hc hf => ?_)
    · refine g_iconst o ic_0 dX2_contains_35 ?_
      cases Option.some.inj hf
      exact g_iret hret (Nat.le_of_ble_eq_true rfl) (Nat.le_of_ble_eq_true rfl) nb_0 dX2_contains_36
    · refine g_iconst o ic_1 dX2_contains_31 ?_
      refine g_goto (tgt := 36) o rfl dX2_contains_32 ?_
      cases Option.some.inj hf
      exact g_iret hret (Nat.le_of_ble_eq_true rfl) (Nat.le_of_ble_eq_true rfl) nb_1 dX2_contains_36
theorem c_X2_contains (l : Launch) (hst : l.stackTraces = false) (a : Nat → Nat) (u : St) (p0 : Int32) (p1 : Int32) (t : Int32 × St) (hf : f_X2_contains u p0 p1 = some t) : CoI l yX2_contains (.code yX2_contains cX2_contains 3 (some .boolean)) 2 0 0 [.ref (a 0), .int p0, .int p1] (wM a u) (wM a t.2) (.inl t.1) := mkI hst (by decide +kernel) (Nat.le_of_ble_eq_true rfl) (fun x _ o hI hX => b_X2_contains o a u p0 p1 t hf (hI _ rfl))
def rt_X2_tupleCount (x : Cx) (a : Nat → Nat) (t : Int32 × St) : Prop := RetI x cX2_tupleCount .int 0 0 (wM a t.2 (cxT x)) t.1
set_option maxRecDepth 20000 in
set_option maxHeartbeats 2000000 in
theorem b_X2_tupleCount {x : Cx} (o : Ok x cX2_tupleCount 2 RX2 1 0 0) (a : Nat → Nat) (u : St) (p0 : Int32) (t : Int32 × St) (hf : f_X2_tupleCount u p0 = some t) (hret : rt_X2_tupleCount x a t) : G x 2 0 0 (wM a u (cxT x)) [(0, .ref (a 0)), (1, .int p0)] 0 [] := by
  unfold f_X2_tupleCount at hf
  refine g_aload_n o 0 rfl rfl dX2_tupleCount_0 ?_
  refine g_aload_n o 0 rfl rfl dX2_tupleCount_1 ?_
  refine g_iload_n o 1 rfl rfl dX2_tupleCount_2 ?_
  obtain ⟨r1, hr1, hf⟩ := bd_some hf
  refine k_X2_isRelation_ o hr1 m_1031 (Nat.le_of_ble_eq_true rfl) (Nat.le_of_ble_eq_true rfl) ⟨(Nat.le_of_ble_eq_true rfl), (Nat.le_of_ble_eq_true rfl)⟩ dX2_tupleCount_3 ?_
  refine g_if_eq (tgt := 13) o rfl dX2_tupleCount_6 hf (fun hc hf => ?_) (fun hc hf => ?_)
  · refine g_iconst o ic_1 dX2_tupleCount_13 ?_
    refine M_put0 o m_919 dX2_tupleCount_14 ?_
    refine g_aload_n o 0 rfl rfl dX2_tupleCount_17 ?_
    refine M_get0 o m_919 dX2_tupleCount_18 ?_
    refine g_if_le (tgt := 28) o rfl dX2_tupleCount_21 hf (fun hc hf => ?_) (fun hc hf => ?_)
    · refine g_aload_n o 0 rfl rfl dX2_tupleCount_28 ?_
      refine M_get2 o m_921 dX2_tupleCount_29 ?_
      refine g_iload_n o 1 rfl rfl dX2_tupleCount_32 ?_
      refine M_ld2 o dX2_tupleCount_33 hf (fun hf => ?_)
      obtain ⟨r2, hr2, hf⟩ := bd_some hf
      refine k_X2_bits_ o hr2 m_1020 (Nat.le_of_ble_eq_true rfl) (Nat.le_of_ble_eq_true rfl) ⟨(Nat.le_of_ble_eq_true rfl), (Nat.le_of_ble_eq_true rfl)⟩ dX2_tupleCount_34 ?_
      cases Option.some.inj hf
      exact g_iret hret (Nat.le_of_ble_eq_true rfl) (Nat.le_of_ble_eq_true rfl) (vp_nar_int _) dX2_tupleCount_37
    · refine g_iconst o ic_0 dX2_tupleCount_24 ?_
      refine g_goto (tgt := 37) o rfl dX2_tupleCount_25 ?_
      cases Option.some.inj hf
      exact g_iret hret (Nat.le_of_ble_eq_true rfl) (Nat.le_of_ble_eq_true rfl) (vp_nar_int _) dX2_tupleCount_37
  · refine g_iconst o ic_0 dX2_tupleCount_9 ?_
    refine g_goto (tgt := 14) o rfl dX2_tupleCount_10 ?_
    refine M_put0 o m_919 dX2_tupleCount_14 ?_
    refine g_aload_n o 0 rfl rfl dX2_tupleCount_17 ?_
    refine M_get0 o m_919 dX2_tupleCount_18 ?_
    refine g_if_le (tgt := 28) o rfl dX2_tupleCount_21 hf (fun hc hf => ?_) (fun hc hf => ?_)
    · refine g_aload_n o 0 rfl rfl dX2_tupleCount_28 ?_
      refine M_get2 o m_921 dX2_tupleCount_29 ?_
      refine g_iload_n o 1 rfl rfl dX2_tupleCount_32 ?_
      refine M_ld2 o dX2_tupleCount_33 hf (fun hf => ?_)
      obtain ⟨r3, hr3, hf⟩ := bd_some hf
      refine k_X2_bits_ o hr3 m_1020 (Nat.le_of_ble_eq_true rfl) (Nat.le_of_ble_eq_true rfl) ⟨(Nat.le_of_ble_eq_true rfl), (Nat.le_of_ble_eq_true rfl)⟩ dX2_tupleCount_34 ?_
      cases Option.some.inj hf
      exact g_iret hret (Nat.le_of_ble_eq_true rfl) (Nat.le_of_ble_eq_true rfl) (vp_nar_int _) dX2_tupleCount_37
    · refine g_iconst o ic_0 dX2_tupleCount_24 ?_
      refine g_goto (tgt := 37) o rfl dX2_tupleCount_25 ?_
      cases Option.some.inj hf
      exact g_iret hret (Nat.le_of_ble_eq_true rfl) (Nat.le_of_ble_eq_true rfl) (vp_nar_int _) dX2_tupleCount_37
theorem c_X2_tupleCount (l : Launch) (hst : l.stackTraces = false) (a : Nat → Nat) (u : St) (p0 : Int32) (t : Int32 × St) (hf : f_X2_tupleCount u p0 = some t) : CoI l yX2_tupleCount (.code yX2_tupleCount cX2_tupleCount 2 (some .int)) 1 0 0 [.ref (a 0), .int p0] (wM a u) (wM a t.2) (.inl t.1) := mkI hst (by decide +kernel) (Nat.le_of_ble_eq_true rfl) (fun x _ o hI hX => b_X2_tupleCount o a u p0 t hf (hI _ rfl))
def rt_X2_arity (x : Cx) (a : Nat → Nat) (t : Int32 × St) : Prop := RetI x cX2_arity .int 0 0 (wM a t.2 (cxT x)) t.1
set_option maxRecDepth 20000 in
set_option maxHeartbeats 2000000 in
theorem b_X2_arity {x : Cx} (o : Ok x cX2_arity 2 RX2 1 0 0) (a : Nat → Nat) (u : St) (p0 : Int32) (t : Int32 × St) (hf : f_X2_arity u p0 = some t) (hret : rt_X2_arity x a t) : G x 2 0 0 (wM a u (cxT x)) [(0, .ref (a 0)), (1, .int p0)] 0 [] := by
  unfold f_X2_arity at hf
  refine g_aload_n o 0 rfl rfl dX2_arity_0 ?_
  refine g_aload_n o 0 rfl rfl dX2_arity_1 ?_
  refine g_iload_n o 1 rfl rfl dX2_arity_2 ?_
  obtain ⟨r1, hr1, hf⟩ := bd_some hf
  refine k_X2_isRelation_ o hr1 m_1031 (Nat.le_of_ble_eq_true rfl) (Nat.le_of_ble_eq_true rfl) ⟨(Nat.le_of_ble_eq_true rfl), (Nat.le_of_ble_eq_true rfl)⟩ dX2_arity_3 ?_
  refine g_if_eq (tgt := 13) o rfl dX2_arity_6 hf (fun hc hf => ?_) (fun hc hf => ?_)
  · refine g_iconst o ic_1 dX2_arity_13 ?_
    refine M_put0 o m_919 dX2_arity_14 ?_
    refine g_aload_n o 0 rfl rfl dX2_arity_17 ?_
    refine M_get0 o m_919 dX2_arity_18 ?_
    refine g_if_le (tgt := 28) o rfl dX2_arity_21 hf (fun hc hf => ?_) (fun hc hf => ?_)
    · refine g_aload_n o 0 rfl rfl dX2_arity_28 ?_
      refine M_get1 o m_920 dX2_arity_29 ?_
      refine g_iload_n o 1 rfl rfl dX2_arity_32 ?_
      refine M_ld1 o dX2_arity_33 hf (fun hf => ?_)
      cases Option.some.inj hf
      exact g_iret hret (Nat.le_of_ble_eq_true rfl) (Nat.le_of_ble_eq_true rfl) (vp_nar_int _) dX2_arity_34
    · refine g_iconst o ic_0 dX2_arity_24 ?_
      refine g_goto (tgt := 34) o rfl dX2_arity_25 ?_
      cases Option.some.inj hf
      exact g_iret hret (Nat.le_of_ble_eq_true rfl) (Nat.le_of_ble_eq_true rfl) (vp_nar_int _) dX2_arity_34
  · refine g_iconst o ic_0 dX2_arity_9 ?_
    refine g_goto (tgt := 14) o rfl dX2_arity_10 ?_
    refine M_put0 o m_919 dX2_arity_14 ?_
    refine g_aload_n o 0 rfl rfl dX2_arity_17 ?_
    refine M_get0 o m_919 dX2_arity_18 ?_
    refine g_if_le (tgt := 28) o rfl dX2_arity_21 hf (fun hc hf => ?_) (fun hc hf => ?_)
    · refine g_aload_n o 0 rfl rfl dX2_arity_28 ?_
      refine M_get1 o m_920 dX2_arity_29 ?_
      refine g_iload_n o 1 rfl rfl dX2_arity_32 ?_
      refine M_ld1 o dX2_arity_33 hf (fun hf => ?_)
      cases Option.some.inj hf
      exact g_iret hret (Nat.le_of_ble_eq_true rfl) (Nat.le_of_ble_eq_true rfl) (vp_nar_int _) dX2_arity_34
    · refine g_iconst o ic_0 dX2_arity_24 ?_
      refine g_goto (tgt := 34) o rfl dX2_arity_25 ?_
      cases Option.some.inj hf
      exact g_iret hret (Nat.le_of_ble_eq_true rfl) (Nat.le_of_ble_eq_true rfl) (vp_nar_int _) dX2_arity_34
theorem c_X2_arity (l : Launch) (hst : l.stackTraces = false) (a : Nat → Nat) (u : St) (p0 : Int32) (t : Int32 × St) (hf : f_X2_arity u p0 = some t) : CoI l yX2_arity (.code yX2_arity cX2_arity 2 (some .int)) 1 0 0 [.ref (a 0), .int p0] (wM a u) (wM a t.2) (.inl t.1) := mkI hst (by decide +kernel) (Nat.le_of_ble_eq_true rfl) (fun x _ o hI hX => b_X2_arity o a u p0 t hf (hI _ rfl))
def rt_X2_relationCount (x : Cx) (a : Nat → Nat) (t : Int32 × St) : Prop := RetI x cX2_relationCount .int 0 0 (wM a t.2 (cxT x)) t.1
set_option maxRecDepth 20000 in
set_option maxHeartbeats 2000000 in
theorem b_X2_relationCount {x : Cx} (o : Ok x cX2_relationCount 1 RX2 0 0 0) (a : Nat → Nat) (u : St) (t : Int32 × St) (hf : f_X2_relationCount u = some t) (hret : rt_X2_relationCount x a t) : G x 1 0 0 (wM a u (cxT x)) [(0, .ref (a 0))] 0 [] := by
  unfold f_X2_relationCount at hf
  refine g_aload_n o 0 rfl rfl dX2_relationCount_0 ?_
  refine g_iconst o ic_0 dX2_relationCount_1 ?_
  refine M_put0 o m_919 dX2_relationCount_2 ?_
  refine g_aload_n o 0 rfl rfl dX2_relationCount_5 ?_
  refine M_get3 o m_922 dX2_relationCount_6 ?_
  cases Option.some.inj hf
  exact g_iret hret (Nat.le_of_ble_eq_true rfl) (Nat.le_of_ble_eq_true rfl) (vp_nar_int _) dX2_relationCount_9
theorem c_X2_relationCount (l : Launch) (hst : l.stackTraces = false) (a : Nat → Nat) (u : St) (t : Int32 × St) (hf : f_X2_relationCount u = some t) : CoI l yX2_relationCount (.code yX2_relationCount cX2_relationCount 1 (some .int)) 0 0 0 [.ref (a 0)] (wM a u) (wM a t.2) (.inl t.1) := mkI hst (by decide +kernel) (Nat.le_of_ble_eq_true rfl) (fun x _ o hI hX => b_X2_relationCount o a u t hf (hI _ rfl))
def rt_X2_areEqual (x : Cx) (a : Nat → Nat) (t : Int32 × St) : Prop := RetI x cX2_areEqual .boolean 0 0 (wM a t.2 (cxT x)) t.1
set_option maxRecDepth 20000 in
set_option maxHeartbeats 2000000 in
theorem b_X2_areEqual {x : Cx} (o : Ok x cX2_areEqual 3 RX2 1 0 0) (a : Nat → Nat) (u : St) (p0 : Int32) (p1 : Int32) (t : Int32 × St) (hf : f_X2_areEqual u p0 p1 = some t) (hret : rt_X2_areEqual x a t) : G x 3 0 0 (wM a u (cxT x)) [(0, .ref (a 0)), (1, .int p0), (2, .int p1)] 0 [] := by
  unfold f_X2_areEqual at hf
  refine g_aload_n o 0 rfl rfl dX2_areEqual_0 ?_
  refine g_aload_n o 0 rfl rfl dX2_areEqual_1 ?_
  refine g_iload_n o 1 rfl rfl dX2_areEqual_2 ?_
  obtain ⟨r1, hr1, hf⟩ := bd_some hf
  refine k_X2_isRelation_ o hr1 m_1031 (Nat.le_of_ble_eq_true rfl) (Nat.le_of_ble_eq_true rfl) ⟨(Nat.le_of_ble_eq_true rfl), (Nat.le_of_ble_eq_true rfl)⟩ dX2_areEqual_3 ?_
  refine g_if_eq (tgt := 21) o rfl dX2_areEqual_6 hf (fun hc hf => ?_) (fun hc hf => ?_)
  · refine g_iconst o ic_1 dX2_areEqual_21 ?_
    refine M_put0 o m_919 dX2_areEqual_22 ?_
    refine g_aload_n o 0 rfl rfl dX2_areEqual_25 ?_
    refine M_get0 o m_919 dX2_areEqual_26 ?_
    refine g_if_ne (tgt := 66) o rfl dX2_areEqual_29 hf (fun hc hf => ?_) (fun hc hf => ?_)
    · refine g_iconst o ic_0 dX2_areEqual_66 ?_
      cases Option.some.inj hf
      exact g_iret hret (Nat.le_of_ble_eq_true rfl) (Nat.le_of_ble_eq_true rfl) nb_0 dX2_areEqual_67
    · refine g_aload_n o 0 rfl rfl dX2_areEqual_32 ?_
      refine M_get1 o m_920 dX2_areEqual_33 ?_
      refine g_iload_n o 1 rfl rfl dX2_areEqual_36 ?_
      refine M_ld1 o dX2_areEqual_37 hf (fun hf => ?_)
      refine g_aload_n o 0 rfl rfl dX2_areEqual_38 ?_
      refine M_get1 o m_920 dX2_areEqual_39 ?_
      refine g_iload_n o 2 rfl rfl dX2_areEqual_42 ?_
      refine M_ld1 o dX2_areEqual_43 hf (fun hf => ?_)
      refine g_ic_ne (tgt := 66) o rfl dX2_areEqual_44 hf (fun hc hf => ?_) (fun hc hf => ?_)
      · refine g_iconst o ic_0 dX2_areEqual_66 ?_
        cases Option.some.inj hf
        exact g_iret hret (Nat.le_of_ble_eq_true rfl) (Nat.le_of_ble_eq_true rfl) nb_0 dX2_areEqual_67
      · refine g_aload_n o 0 rfl rfl dX2_areEqual_47 ?_
        refine M_get2 o m_921 dX2_areEqual_48 ?_
        refine g_iload_n o 1 rfl rfl dX2_areEqual_51 ?_
        refine M_ld2 o dX2_areEqual_52 hf (fun hf => ?_)
        refine g_aload_n o 0 rfl rfl dX2_areEqual_53 ?_
        refine M_get2 o m_921 dX2_areEqual_54 ?_
        refine g_iload_n o 2 rfl rfl dX2_areEqual_57 ?_
        refine M_ld2 o dX2_areEqual_58 hf (fun hf => ?_)
        refine g_ic_ne (tgt := 66) o rfl dX2_areEqual_59 hf (fun hc hf => ?_) (fun hc hf => ?_)
        · refine g_iconst o ic_0 dX2_areEqual_66 ?_
          cases Option.some.inj hf
          exact g_iret hret (Nat.le_of_ble_eq_true rfl) (Nat.le_of_ble_eq_true rfl) nb_0 dX2_areEqual_67
        · refine g_iconst o ic_1 dX2_areEqual_62 ?_
          refine g_goto (tgt := 67) o rfl dX2_areEqual_63 ?_
          cases Option.some.inj hf
          exact g_iret hret (Nat.le_of_ble_eq_true rfl) (Nat.le_of_ble_eq_true rfl) nb_1 dX2_areEqual_67
  · refine g_aload_n o 0 rfl rfl dX2_areEqual_9 ?_
    refine g_iload_n o 2 rfl rfl dX2_areEqual_10 ?_
    obtain ⟨r2, hr2, hf⟩ := bd_some hf
    refine k_X2_isRelation_ o hr2 m_1031 (Nat.le_of_ble_eq_true rfl) (Nat.le_of_ble_eq_true rfl) ⟨(Nat.le_of_ble_eq_true rfl), (Nat.le_of_ble_eq_true rfl)⟩ dX2_areEqual_11 ?_
    refine g_if_eq (tgt := 21) o rfl dX2_areEqual_14 hf (fun hc hf => ?_) (fun hc hf => ?_)
    · refine g_iconst o ic_1 dX2_areEqual_21 ?_
      refine M_put0 o m_919 dX2_areEqual_22 ?_
      refine g_aload_n o 0 rfl rfl dX2_areEqual_25 ?_
      refine M_get0 o m_919 dX2_areEqual_26 ?_
      refine g_if_ne (tgt := 66) o rfl dX2_areEqual_29 hf (fun hc hf => ?_) (fun hc hf => ?_)
      · refine g_iconst o ic_0 dX2_areEqual_66 ?_
        cases Option.some.inj hf
        exact g_iret hret (Nat.le_of_ble_eq_true rfl) (Nat.le_of_ble_eq_true rfl) nb_0 dX2_areEqual_67
      · refine g_aload_n o 0 rfl rfl dX2_areEqual_32 ?_
        refine M_get1 o m_920 dX2_areEqual_33 ?_
        refine g_iload_n o 1 rfl rfl dX2_areEqual_36 ?_
        refine M_ld1 o dX2_areEqual_37 hf (fun hf => ?_)
        refine g_aload_n o 0 rfl rfl dX2_areEqual_38 ?_
        refine M_get1 o m_920 dX2_areEqual_39 ?_
        refine g_iload_n o 2 rfl rfl dX2_areEqual_42 ?_
        refine M_ld1 o dX2_areEqual_43 hf (fun hf => ?_)
        refine g_ic_ne (tgt := 66) o rfl dX2_areEqual_44 hf (fun hc hf => ?_) (fun hc hf => ?_)
        · refine g_iconst o ic_0 dX2_areEqual_66 ?_
          cases Option.some.inj hf
          exact g_iret hret (Nat.le_of_ble_eq_true rfl) (Nat.le_of_ble_eq_true rfl) nb_0 dX2_areEqual_67
        · refine g_aload_n o 0 rfl rfl dX2_areEqual_47 ?_
          refine M_get2 o m_921 dX2_areEqual_48 ?_
          refine g_iload_n o 1 rfl rfl dX2_areEqual_51 ?_
          refine M_ld2 o dX2_areEqual_52 hf (fun hf => ?_)
          refine g_aload_n o 0 rfl rfl dX2_areEqual_53 ?_
          refine M_get2 o m_921 dX2_areEqual_54 ?_
          refine g_iload_n o 2 rfl rfl dX2_areEqual_57 ?_
          refine M_ld2 o dX2_areEqual_58 hf (fun hf => ?_)
          refine g_ic_ne (tgt := 66) o rfl dX2_areEqual_59 hf (fun hc hf => ?_) (fun hc hf => ?_)
          · refine g_iconst o ic_0 dX2_areEqual_66 ?_
            cases Option.some.inj hf
            exact g_iret hret (Nat.le_of_ble_eq_true rfl) (Nat.le_of_ble_eq_true rfl) nb_0 dX2_areEqual_67
          · refine g_iconst o ic_1 dX2_areEqual_62 ?_
            refine g_goto (tgt := 67) o rfl dX2_areEqual_63 ?_
            cases Option.some.inj hf
            exact g_iret hret (Nat.le_of_ble_eq_true rfl) (Nat.le_of_ble_eq_true rfl) nb_1 dX2_areEqual_67
    · refine g_iconst o ic_0 dX2_areEqual_17 ?_
      refine g_goto (tgt := 22) o rfl dX2_areEqual_18 ?_
      refine M_put0 o m_919 dX2_areEqual_22 ?_
      refine g_aload_n o 0 rfl rfl dX2_areEqual_25 ?_
      refine M_get0 o m_919 dX2_areEqual_26 ?_
      refine g_if_ne (tgt := 66) o rfl dX2_areEqual_29 hf (fun hc hf => ?_) (fun hc hf => ?_)
      · refine g_iconst o ic_0 dX2_areEqual_66 ?_
        cases Option.some.inj hf
        exact g_iret hret (Nat.le_of_ble_eq_true rfl) (Nat.le_of_ble_eq_true rfl) nb_0 dX2_areEqual_67
      · refine g_aload_n o 0 rfl rfl dX2_areEqual_32 ?_
        refine M_get1 o m_920 dX2_areEqual_33 ?_
        refine g_iload_n o 1 rfl rfl dX2_areEqual_36 ?_
        refine M_ld1 o dX2_areEqual_37 hf (fun hf => ?_)
        refine g_aload_n o 0 rfl rfl dX2_areEqual_38 ?_
        refine M_get1 o m_920 dX2_areEqual_39 ?_
        refine g_iload_n o 2 rfl rfl dX2_areEqual_42 ?_
        refine M_ld1 o dX2_areEqual_43 hf (fun hf => ?_)
        refine g_ic_ne (tgt := 66) o rfl dX2_areEqual_44 hf (fun hc hf => ?_) (fun hc hf => ?_)
        · refine g_iconst o ic_0 dX2_areEqual_66 ?_
          cases Option.some.inj hf
          exact g_iret hret (Nat.le_of_ble_eq_true rfl) (Nat.le_of_ble_eq_true rfl) nb_0 dX2_areEqual_67
        · refine g_aload_n o 0 rfl rfl dX2_areEqual_47 ?_
          refine M_get2 o m_921 dX2_areEqual_48 ?_
          refine g_iload_n o 1 rfl rfl dX2_areEqual_51 ?_
          refine M_ld2 o dX2_areEqual_52 hf (fun hf => ?_)
          refine g_aload_n o 0 rfl rfl dX2_areEqual_53 ?_
          refine M_get2 o m_921 dX2_areEqual_54 ?_
          refine g_iload_n o 2 rfl rfl dX2_areEqual_57 ?_
          refine M_ld2 o dX2_areEqual_58 hf (fun hf => ?_)
          refine g_ic_ne (tgt := 66) o rfl dX2_areEqual_59 hf (fun hc hf => ?_) (fun hc hf => ?_)
          · refine g_iconst o ic_0 dX2_areEqual_66 ?_
            cases Option.some.inj hf
            exact g_iret hret (Nat.le_of_ble_eq_true rfl) (Nat.le_of_ble_eq_true rfl) nb_0 dX2_areEqual_67
          · refine g_iconst o ic_1 dX2_areEqual_62 ?_
            refine g_goto (tgt := 67) o rfl dX2_areEqual_63 ?_
            cases Option.some.inj hf
            exact g_iret hret (Nat.le_of_ble_eq_true rfl) (Nat.le_of_ble_eq_true rfl) nb_1 dX2_areEqual_67
theorem c_X2_areEqual (l : Launch) (hst : l.stackTraces = false) (a : Nat → Nat) (u : St) (p0 : Int32) (p1 : Int32) (t : Int32 × St) (hf : f_X2_areEqual u p0 p1 = some t) : CoI l yX2_areEqual (.code yX2_areEqual cX2_areEqual 3 (some .boolean)) 1 0 0 [.ref (a 0), .int p0, .int p1] (wM a u) (wM a t.2) (.inl t.1) := mkI hst (by decide +kernel) (Nat.le_of_ble_eq_true rfl) (fun x _ o hI hX => b_X2_areEqual o a u p0 p1 t hf (hI _ rfl))
def rt_X2_clear (x : Cx) (a : Nat → Nat) (t : Int32 × St) : Prop := RetI x cX2_clear .int 0 0 (wM a t.2 (cxT x)) t.1
set_option maxRecDepth 20000 in
set_option maxHeartbeats 2000000 in
theorem b_X2_clear {x : Cx} (o : Ok x cX2_clear 2 RX2 0 0 0) (a : Nat → Nat) (u : St) (t : Int32 × St) (hf : f_X2_clear u = some t) (hret : rt_X2_clear x a t) : G x 2 0 0 (wM a u (cxT x)) [(0, .ref (a 0))] 0 [] := by
  unfold f_X2_clear at hf
  refine g_aload_n o 0 rfl rfl dX2_clear_0 ?_
  refine g_iconst o ic_0 dX2_clear_1 ?_
  refine M_put0 o m_919 dX2_clear_2 ?_
  refine g_aload_n o 0 rfl rfl dX2_clear_5 ?_
  refine M_get3 o m_922 dX2_clear_6 ?_
  refine g_nmi hf (fun x1 hf => ?_)
  refine g_istore_n o [(1, .int x1), (0, .ref (a 0))] (Nat.le_of_ble_eq_true rfl) rfl rfl dX2_clear_9 ?_
  refine g_aload_n o 1 rfl rfl dX2_clear_10 ?_
  refine g_iconst o ic_0 dX2_clear_11 ?_
  refine M_put3 o m_922 dX2_clear_12 ?_
  refine g_aload_n o 1 rfl rfl dX2_clear_15 ?_
  refine g_iconst o ic_0 dX2_clear_16 ?_
  refine M_put7 o m_926 dX2_clear_17 ?_
  refine g_iload_n o 0 rfl rfl dX2_clear_20 ?_
  cases Option.some.inj hf
  exact g_iret hret (Nat.le_of_ble_eq_true rfl) (Nat.le_of_ble_eq_true rfl) (vp_nar_int _) dX2_clear_21
theorem c_X2_clear (l : Launch) (hst : l.stackTraces = false) (a : Nat → Nat) (u : St) (t : Int32 × St) (hf : f_X2_clear u = some t) : CoI l yX2_clear (.code yX2_clear cX2_clear 2 (some .int)) 0 0 0 [.ref (a 0)] (wM a u) (wM a t.2) (.inl t.1) := mkI hst (by decide +kernel) (Nat.le_of_ble_eq_true rfl) (fun x _ o hI hX => b_X2_clear o a u t hf (hI _ rfl))
def rt_X2_addComplement (x : Cx) (a : Nat → Nat) (t : Int32 × St) : Prop := RetI x cX2_addComplement .int 0 0 (wM a t.2 (cxT x)) t.1
set_option maxRecDepth 20000 in
set_option maxHeartbeats 2000000 in
theorem b_X2_addComplement {x : Cx} (o : Ok x cX2_addComplement 2 RX2 1 0 0) (a : Nat → Nat) (u : St) (p0 : Int32) (t : Int32 × St) (hf : f_X2_addComplement u p0 = some t) (hret : rt_X2_addComplement x a t) : G x 2 0 0 (wM a u (cxT x)) [(0, .ref (a 0)), (1, .int p0)] 0 [] := by
  unfold f_X2_addComplement at hf
  refine g_aload_n o 0 rfl rfl dX2_addComplement_0 ?_
  refine g_iload_n o 1 rfl rfl dX2_addComplement_1 ?_
  obtain ⟨r1, hr1, hf⟩ := bd_some hf
  refine k_X2_isRelation_ o hr1 m_1031 (Nat.le_of_ble_eq_true rfl) (Nat.le_of_ble_eq_true rfl) ⟨(Nat.le_of_ble_eq_true rfl), (Nat.le_of_ble_eq_true rfl)⟩ dX2_addComplement_2 ?_
  refine g_if_ne (tgt := 14) o rfl dX2_addComplement_5 hf (fun hc hf => ?_) (fun hc hf => ?_)
  · refine g_aload_n o 0 rfl rfl dX2_addComplement_14 ?_
    refine M_get3 o m_922 dX2_addComplement_15 ?_
    refine g_bipush o bp_8 dX2_addComplement_18 ?_
    refine g_ic_ne (tgt := 29) o rfl dX2_addComplement_20 hf (fun hc hf => ?_) (fun hc hf => ?_)
    · refine g_aload_n o 0 rfl rfl dX2_addComplement_29 ?_
      refine g_aload_n o 0 rfl rfl dX2_addComplement_30 ?_
      refine M_get1 o m_920 dX2_addComplement_31 ?_
      refine g_iload_n o 1 rfl rfl dX2_addComplement_34 ?_
      refine M_ld1 o dX2_addComplement_35 hf (fun hf => ?_)
      refine g_aload_n o 0 rfl rfl dX2_addComplement_36 ?_
      refine M_get1 o m_920 dX2_addComplement_37 ?_
      refine g_iload_n o 1 rfl rfl dX2_addComplement_40 ?_
      refine M_ld1 o dX2_addComplement_41 hf (fun hf => ?_)
      obtain ⟨r2, hr2, hf⟩ := bd_some hf
      refine k_X2_allOf_ o hr2 m_1010 (Nat.le_of_ble_eq_true rfl) (Nat.le_of_ble_eq_true rfl) ⟨(Nat.le_of_ble_eq_true rfl), (Nat.le_of_ble_eq_true rfl)⟩ dX2_addComplement_42 ?_
      refine g_aload_n o 0 rfl rfl dX2_addComplement_45 ?_
      refine M_get2 o m_921 dX2_addComplement_46 ?_
      refine g_iload_n o 1 rfl rfl dX2_addComplement_49 ?_
      refine M_ld2 o dX2_addComplement_50 hf (fun hf => ?_)
      refine g_iconst o ic_m1 dX2_addComplement_51 ?_
      refine g_ixor o dX2_addComplement_52 ?_
      refine g_iand o dX2_addComplement_53 ?_
      obtain ⟨r3, hr3, hf⟩ := bd_some hf
      refine k_X2_adds_ o hr3 m_999 (Nat.le_of_ble_eq_true rfl) (Nat.le_of_ble_eq_true rfl) ⟨(Nat.le_of_ble_eq_true rfl), (Nat.le_of_ble_eq_true rfl)⟩ dX2_addComplement_54 ?_
      cases Option.some.inj hf
      exact g_iret hret (Nat.le_of_ble_eq_true rfl) (Nat.le_of_ble_eq_true rfl) (vp_nar_int _) dX2_addComplement_57
    · refine g_aload_n o 0 rfl rfl dX2_addComplement_23 ?_
      refine g_iconst o ic_2 dX2_addComplement_24 ?_
      obtain ⟨r4, hr4, hf⟩ := bd_some hf
      refine k_X2_fails_ o hr4 m_995 (Nat.le_of_ble_eq_true rfl) (Nat.le_of_ble_eq_true rfl) ⟨(Nat.le_of_ble_eq_true rfl), (Nat.le_of_ble_eq_true rfl)⟩ dX2_addComplement_25 ?_
      cases Option.some.inj hf
      exact g_iret hret (Nat.le_of_ble_eq_true rfl) (Nat.le_of_ble_eq_true rfl) (vp_nar_int _) dX2_addComplement_28
  · refine g_aload_n o 0 rfl rfl dX2_addComplement_8 ?_
    refine g_iconst o ic_1 dX2_addComplement_9 ?_
    obtain ⟨r5, hr5, hf⟩ := bd_some hf
    refine k_X2_fails_ o hr5 m_995 (Nat.le_of_ble_eq_true rfl) (Nat.le_of_ble_eq_true rfl) ⟨(Nat.le_of_ble_eq_true rfl), (Nat.le_of_ble_eq_true rfl)⟩ dX2_addComplement_10 ?_
    cases Option.some.inj hf
    exact g_iret hret (Nat.le_of_ble_eq_true rfl) (Nat.le_of_ble_eq_true rfl) (vp_nar_int _) dX2_addComplement_13
theorem c_X2_addComplement (l : Launch) (hst : l.stackTraces = false) (a : Nat → Nat) (u : St) (p0 : Int32) (t : Int32 × St) (hf : f_X2_addComplement u p0 = some t) : CoI l yX2_addComplement (.code yX2_addComplement cX2_addComplement 2 (some .int)) 1 0 0 [.ref (a 0), .int p0] (wM a u) (wM a t.2) (.inl t.1) := mkI hst (by decide +kernel) (Nat.le_of_ble_eq_true rfl) (fun x _ o hI hX => b_X2_addComplement o a u p0 t hf (hI _ rfl))
def rt_X2_addIntersection (x : Cx) (a : Nat → Nat) (t : Int32 × St) : Prop := RetI x cX2_addIntersection .int 0 0 (wM a t.2 (cxT x)) t.1
set_option maxRecDepth 20000 in
set_option maxHeartbeats 2000000 in
theorem b_X2_addIntersection {x : Cx} (o : Ok x cX2_addIntersection 3 RX2 1 0 0) (a : Nat → Nat) (u : St) (p0 : Int32) (p1 : Int32) (t : Int32 × St) (hf : f_X2_addIntersection u p0 p1 = some t) (hret : rt_X2_addIntersection x a t) : G x 3 0 0 (wM a u (cxT x)) [(0, .ref (a 0)), (1, .int p0), (2, .int p1)] 0 [] := by
  unfold f_X2_addIntersection at hf
  refine g_aload_n o 0 rfl rfl dX2_addIntersection_0 ?_
  refine g_iload_n o 1 rfl rfl dX2_addIntersection_1 ?_
  obtain ⟨r1, hr1, hf⟩ := bd_some hf
  refine k_X2_isRelation_ o hr1 m_1031 (Nat.le_of_ble_eq_true rfl) (Nat.le_of_ble_eq_true rfl) ⟨(Nat.le_of_ble_eq_true rfl), (Nat.le_of_ble_eq_true rfl)⟩ dX2_addIntersection_2 ?_
  refine g_if_eq (tgt := 16) o rfl dX2_addIntersection_5 hf (fun hc hf => ?_) (fun hc hf => ?_)
  · refine g_aload_n o 0 rfl rfl dX2_addIntersection_16 ?_
    refine g_iconst o ic_1 dX2_addIntersection_17 ?_
    obtain ⟨r2, hr2, hf⟩ := bd_some hf
    refine k_X2_fails_ o hr2 m_995 (Nat.le_of_ble_eq_true rfl) (Nat.le_of_ble_eq_true rfl) ⟨(Nat.le_of_ble_eq_true rfl), (Nat.le_of_ble_eq_true rfl)⟩ dX2_addIntersection_18 ?_
    cases Option.some.inj hf
    exact g_iret hret (Nat.le_of_ble_eq_true rfl) (Nat.le_of_ble_eq_true rfl) (vp_nar_int _) dX2_addIntersection_21
  · refine g_aload_n o 0 rfl rfl dX2_addIntersection_8 ?_
    refine g_iload_n o 2 rfl rfl dX2_addIntersection_9 ?_
    obtain ⟨r3, hr3, hf⟩ := bd_some hf
    refine k_X2_isRelation_ o hr3 m_1031 (Nat.le_of_ble_eq_true rfl) (Nat.le_of_ble_eq_true rfl) ⟨(Nat.le_of_ble_eq_true rfl), (Nat.le_of_ble_eq_true rfl)⟩ dX2_addIntersection_10 ?_
    refine g_if_ne (tgt := 22) o rfl dX2_addIntersection_13 hf (fun hc hf => ?_) (fun hc hf => ?_)
    · refine g_aload_n o 0 rfl rfl dX2_addIntersection_22 ?_
      refine M_get1 o m_920 dX2_addIntersection_23 ?_
      refine g_iload_n o 1 rfl rfl dX2_addIntersection_26 ?_
      refine M_ld1 o dX2_addIntersection_27 hf (fun hf => ?_)
      refine g_aload_n o 0 rfl rfl dX2_addIntersection_28 ?_
      refine M_get1 o m_920 dX2_addIntersection_29 ?_
      refine g_iload_n o 2 rfl rfl dX2_addIntersection_32 ?_
      refine M_ld1 o dX2_addIntersection_33 hf (fun hf => ?_)
      refine g_ic_eq (tgt := 43) o rfl dX2_addIntersection_34 hf (fun hc hf => ?_) (fun hc hf => ?_)
      · refine g_aload_n o 0 rfl rfl dX2_addIntersection_43 ?_
        refine M_get3 o m_922 dX2_addIntersection_44 ?_
        refine g_bipush o bp_8 dX2_addIntersection_47 ?_
        refine g_ic_ne (tgt := 58) o rfl dX2_addIntersection_49 hf (fun hc hf => ?_) (fun hc hf => ?_)
        · refine g_aload_n o 0 rfl rfl dX2_addIntersection_58 ?_
          refine g_aload_n o 0 rfl rfl dX2_addIntersection_59 ?_
          refine M_get1 o m_920 dX2_addIntersection_60 ?_
          refine g_iload_n o 1 rfl rfl dX2_addIntersection_63 ?_
          refine M_ld1 o dX2_addIntersection_64 hf (fun hf => ?_)
          refine g_aload_n o 0 rfl rfl dX2_addIntersection_65 ?_
          refine M_get2 o m_921 dX2_addIntersection_66 ?_
          refine g_iload_n o 1 rfl rfl dX2_addIntersection_69 ?_
          refine M_ld2 o dX2_addIntersection_70 hf (fun hf => ?_)
          refine g_aload_n o 0 rfl rfl dX2_addIntersection_71 ?_
          refine M_get2 o m_921 dX2_addIntersection_72 ?_
          refine g_iload_n o 2 rfl rfl dX2_addIntersection_75 ?_
          refine M_ld2 o dX2_addIntersection_76 hf (fun hf => ?_)
          refine g_iand o dX2_addIntersection_77 ?_
          obtain ⟨r4, hr4, hf⟩ := bd_some hf
          refine k_X2_adds_ o hr4 m_999 (Nat.le_of_ble_eq_true rfl) (Nat.le_of_ble_eq_true rfl) ⟨(Nat.le_of_ble_eq_true rfl), (Nat.le_of_ble_eq_true rfl)⟩ dX2_addIntersection_78 ?_
          cases Option.some.inj hf
          exact g_iret hret (Nat.le_of_ble_eq_true rfl) (Nat.le_of_ble_eq_true rfl) (vp_nar_int _) dX2_addIntersection_81
        · refine g_aload_n o 0 rfl rfl dX2_addIntersection_52 ?_
          refine g_iconst o ic_3 dX2_addIntersection_53 ?_
          obtain ⟨r5, hr5, hf⟩ := bd_some hf
          refine k_X2_fails_ o hr5 m_995 (Nat.le_of_ble_eq_true rfl) (Nat.le_of_ble_eq_true rfl) ⟨(Nat.le_of_ble_eq_true rfl), (Nat.le_of_ble_eq_true rfl)⟩ dX2_addIntersection_54 ?_
          cases Option.some.inj hf
          exact g_iret hret (Nat.le_of_ble_eq_true rfl) (Nat.le_of_ble_eq_true rfl) (vp_nar_int _) dX2_addIntersection_57
      · refine g_aload_n o 0 rfl rfl dX2_addIntersection_37 ?_
        refine g_iconst o ic_2 dX2_addIntersection_38 ?_
        obtain ⟨r6, hr6, hf⟩ := bd_some hf
        refine k_X2_fails_ o hr6 m_995 (Nat.le_of_ble_eq_true rfl) (Nat.le_of_ble_eq_true rfl) ⟨(Nat.le_of_ble_eq_true rfl), (Nat.le_of_ble_eq_true rfl)⟩ dX2_addIntersection_39 ?_
        cases Option.some.inj hf
        exact g_iret hret (Nat.le_of_ble_eq_true rfl) (Nat.le_of_ble_eq_true rfl) (vp_nar_int _) dX2_addIntersection_42
    · refine g_aload_n o 0 rfl rfl dX2_addIntersection_16 ?_
      refine g_iconst o ic_1 dX2_addIntersection_17 ?_
      obtain ⟨r7, hr7, hf⟩ := bd_some hf
      refine k_X2_fails_ o hr7 m_995 (Nat.le_of_ble_eq_true rfl) (Nat.le_of_ble_eq_true rfl) ⟨(Nat.le_of_ble_eq_true rfl), (Nat.le_of_ble_eq_true rfl)⟩ dX2_addIntersection_18 ?_
      cases Option.some.inj hf
      exact g_iret hret (Nat.le_of_ble_eq_true rfl) (Nat.le_of_ble_eq_true rfl) (vp_nar_int _) dX2_addIntersection_21
theorem c_X2_addIntersection (l : Launch) (hst : l.stackTraces = false) (a : Nat → Nat) (u : St) (p0 : Int32) (p1 : Int32) (t : Int32 × St) (hf : f_X2_addIntersection u p0 p1 = some t) : CoI l yX2_addIntersection (.code yX2_addIntersection cX2_addIntersection 3 (some .int)) 1 0 0 [.ref (a 0), .int p0, .int p1] (wM a u) (wM a t.2) (.inl t.1) := mkI hst (by decide +kernel) (Nat.le_of_ble_eq_true rfl) (fun x _ o hI hX => b_X2_addIntersection o a u p0 p1 t hf (hI _ rfl))
def rt_X2_addProjection (x : Cx) (a : Nat → Nat) (t : Int32 × St) : Prop := RetI x cX2_addProjection .int 0 0 (wM a t.2 (cxT x)) t.1
set_option maxRecDepth 20000 in
set_option maxHeartbeats 2000000 in
theorem b_X2_addProjection_L66 {x : Cx} (o : Ok x cX2_addProjection 7 RX2 1 0 0) {k n : Nat} (hk : k ≤ 0) (hn : n ≤ 0) (a : Nat → Nat) (u : St) (c1 : Int32) (c2 : Int32) (r : (Int32 × Int32) ⊕ (Int32 × St)) (hX : ∀ s : Int32 × Int32, r = .inl s → G x 7 k n (wM a u (cxT x)) [(0, .ref (a 0)), (1, .int c1), (3, .int s.1)] 125 []) (hR : ∀ t, r = .inr t → rt_X2_addProjection x a t) : ∀ (m : Nat) (s : Int32 × Int32), loopN (f_X2_addProjection_s66 u c1 c2) m s = some r → G x 7 k n (wM a u (cxT x)) [(0, .ref (a 0)), (1, .int c1), (2, .int c2), (3, .int s.1), (4, .int s.2)] 66 [] := by
  refine loop_W _ (fun (s : Int32 × Int32) => G x 7 k n (wM a u (cxT x)) [(0, .ref (a 0)), (1, .int c1), (2, .int c2), (3, .int s.1), (4, .int s.2)] 66 []) r ?_
  intro s ww hf hw
  unfold f_X2_addProjection_s66 at hf
  refine g_iload o 4 rfl dX2_addProjection_66 ?_
  refine g_iconst o ic_1 dX2_addProjection_68 ?_
  refine g_aload_n o 0 rfl rfl dX2_addProjection_69 ?_
  refine M_get1 o m_920 dX2_addProjection_70 ?_
  refine g_iload_n o 1 rfl rfl dX2_addProjection_73 ?_
  refine M_ld1 o dX2_addProjection_74 hf (fun hf => ?_)
  refine g_ishl o dX2_addProjection_75 ?_
  refine g_ic_ge (tgt := 125) o rfl dX2_addProjection_76 hf (fun hc hf => ?_) (fun hc hf => ?_)
  · exact g_perm [0, 1, 3] rfl (hX _ (lf_x hf hw))
  · refine g_iload o 4 rfl dX2_addProjection_79 ?_
    refine g_iconst o ic_1 dX2_addProjection_81 ?_
    refine g_iload_n o 2 rfl rfl dX2_addProjection_82 ?_
    refine g_ishl o dX2_addProjection_83 ?_
    refine g_iconst o ic_1 dX2_addProjection_84 ?_
    refine g_isub o dX2_addProjection_85 ?_
    refine g_iand o dX2_addProjection_86 ?_
    refine g_nmi hf (fun x4 hf => ?_)
    refine g_istore o [(5, .int x4), (0, .ref (a 0)), (1, .int c1), (2, .int c2), (3, .int s.1), (4, .int s.2)] (Nat.le_of_ble_eq_true rfl) rfl dX2_addProjection_87 ?_
    refine g_iload o 0 rfl dX2_addProjection_89 ?_
    refine g_iload o 5 rfl dX2_addProjection_91 ?_
    refine g_iload_n o 3 rfl rfl dX2_addProjection_93 ?_
    refine g_iconst o ic_1 dX2_addProjection_94 ?_
    refine g_iadd o dX2_addProjection_95 ?_
    refine g_ishr o dX2_addProjection_96 ?_
    refine g_iload_n o 3 rfl rfl dX2_addProjection_97 ?_
    refine g_ishl o dX2_addProjection_98 ?_
    refine g_ior o dX2_addProjection_99 ?_
    refine g_nmi hf (fun x5 hf => ?_)
    refine g_istore o [(6, .int x5), (5, .int x4), (0, .ref (a 0)), (1, .int c1), (2, .int c2), (3, .int s.1), (4, .int s.2)] (Nat.le_of_ble_eq_true rfl) rfl dX2_addProjection_100 ?_
    refine g_iload_n o 5 rfl rfl dX2_addProjection_102 ?_
    refine g_aload_n o 2 rfl rfl dX2_addProjection_103 ?_
    refine M_get2 o m_921 dX2_addProjection_104 ?_
    refine g_iload_n o 3 rfl rfl dX2_addProjection_107 ?_
    refine M_ld2 o dX2_addProjection_108 hf (fun hf => ?_)
    refine g_iload o 6 rfl dX2_addProjection_109 ?_
    refine g_ishr o dX2_addProjection_111 ?_
    refine g_iconst o ic_1 dX2_addProjection_112 ?_
    refine g_iand o dX2_addProjection_113 ?_
    refine g_iload o 0 rfl dX2_addProjection_114 ?_
    refine g_ishl o dX2_addProjection_116 ?_
    refine g_ior o dX2_addProjection_117 ?_
    refine g_nmi hf (fun x6 hf => ?_)
    refine g_istore_n o [(3, .int x6), (6, .int x5), (5, .int x4), (0, .ref (a 0)), (1, .int c1), (2, .int c2), (4, .int s.2)] (Nat.le_of_ble_eq_true rfl) rfl rfl dX2_addProjection_118 ?_
    refine g_iinc o [(4, .int (s.2 + 1)), (3, .int x6), (6, .int x5), (5, .int x4), (0, .ref (a 0)), (1, .int c1), (2, .int c2)] 6 rfl (inc_1 _) (Nat.le_of_ble_eq_true rfl) rfl dX2_addProjection_119 ?_
    refine g_goto (tgt := 66) o rfl dX2_addProjection_122 ?_
    have hp := lf_c hf hw
    exact g_perm [4, 5, 6, 1, 0] rfl hp
set_option maxRecDepth 20000 in
set_option maxHeartbeats 2000000 in
theorem b_X2_addProjection {x : Cx} (o : Ok x cX2_addProjection 7 RX2 1 0 0) (a : Nat → Nat) (u : St) (p0 : Int32) (p1 : Int32) (t : Int32 × St) (hf : f_X2_addProjection u p0 p1 = some t) (hret : rt_X2_addProjection x a t) : G x 7 0 0 (wM a u (cxT x)) [(0, .ref (a 0)), (1, .int p0), (2, .int p1)] 0 [] := by
  unfold f_X2_addProjection at hf
  refine g_aload_n o 0 rfl rfl dX2_addProjection_0 ?_
  refine g_iload_n o 1 rfl rfl dX2_addProjection_1 ?_
  obtain ⟨r1, hr1, hf⟩ := bd_some hf
  refine k_X2_isRelation_ o hr1 m_1031 (Nat.le_of_ble_eq_true rfl) (Nat.le_of_ble_eq_true rfl) ⟨(Nat.le_of_ble_eq_true rfl), (Nat.le_of_ble_eq_true rfl)⟩ dX2_addProjection_2 ?_
  refine g_if_eq (tgt := 24) o rfl dX2_addProjection_5 hf (fun hc hf => ?_) (fun hc hf => ?_)
  · refine g_aload_n o 0 rfl rfl dX2_addProjection_24 ?_
    refine g_iconst o ic_1 dX2_addProjection_25 ?_
    obtain ⟨r2, hr2, hf⟩ := bd_some hf
    refine k_X2_fails_ o hr2 m_995 (Nat.le_of_ble_eq_true rfl) (Nat.le_of_ble_eq_true rfl) ⟨(Nat.le_of_ble_eq_true rfl), (Nat.le_of_ble_eq_true rfl)⟩ dX2_addProjection_26 ?_
    cases Option.some.inj hf
    exact g_iret hret (Nat.le_of_ble_eq_true rfl) (Nat.le_of_ble_eq_true rfl) (vp_nar_int _) dX2_addProjection_29
  · refine g_iload_n o 2 rfl rfl dX2_addProjection_8 ?_
    refine g_iconst o ic_0 dX2_addProjection_9 ?_
    refine g_aload_n o 0 rfl rfl dX2_addProjection_10 ?_
    refine M_get1 o m_920 dX2_addProjection_11 ?_
    refine g_iload_n o 1 rfl rfl dX2_addProjection_14 ?_
    refine M_ld1 o dX2_addProjection_15 hf (fun hf => ?_)
    refine g_iconst o ic_1 dX2_addProjection_16 ?_
    refine g_isub o dX2_addProjection_17 ?_
    obtain ⟨r3, hr3, hf⟩ := bd_some hf
    refine k_X2_isBetween_ o hr3 m_992 (Nat.le_of_ble_eq_true rfl) (Nat.le_of_ble_eq_true rfl) ⟨(Nat.le_of_ble_eq_true rfl), (Nat.le_of_ble_eq_true rfl)⟩ dX2_addProjection_18 ?_
    refine g_if_ne (tgt := 30) o rfl dX2_addProjection_21 hf (fun hc hf => ?_) (fun hc hf => ?_)
    · refine g_aload_n o 0 rfl rfl dX2_addProjection_30 ?_
      refine M_get1 o m_920 dX2_addProjection_31 ?_
      refine g_iload_n o 1 rfl rfl dX2_addProjection_34 ?_
      refine M_ld1 o dX2_addProjection_35 hf (fun hf => ?_)
      refine g_iconst o ic_1 dX2_addProjection_36 ?_
      refine g_ic_ne (tgt := 46) o rfl dX2_addProjection_37 hf (fun hc hf => ?_) (fun hc hf => ?_)
      · refine g_aload_n o 0 rfl rfl dX2_addProjection_46 ?_
        refine M_get3 o m_922 dX2_addProjection_47 ?_
        refine g_bipush o bp_8 dX2_addProjection_50 ?_
        refine g_ic_ne (tgt := 61) o rfl dX2_addProjection_52 hf (fun hc hf => ?_) (fun hc hf => ?_)
        · refine g_iconst o ic_0 dX2_addProjection_61 ?_
          refine g_istore_n o [(3, .int 0), (0, .ref (a 0)), (1, .int p0), (2, .int p1)] (Nat.le_of_ble_eq_true rfl) rfl rfl dX2_addProjection_62 ?_
          refine g_iconst o ic_0 dX2_addProjection_63 ?_
          refine g_istore o [(4, .int 0), (3, .int 0), (0, .ref (a 0)), (1, .int p0), (2, .int p1)] (Nat.le_of_ble_eq_true rfl) rfl dX2_addProjection_64 ?_
          obtain ⟨r8, hr8, hxr8, hrr8⟩ := bl_some hf
          refine g_perm [2, 3, 4, 1, 0] rfl (b_X2_addProjection_L66 o (Nat.le_of_ble_eq_true rfl) (Nat.le_of_ble_eq_true rfl) a u p0 p1 r8 (fun s66 hs => ?_) (fun t7 ht => ?_) FU (0, 0) hr8)
          · have hf := hxr8 s66 hs
            refine g_aload_n o 0 rfl rfl dX2_addProjection_125 ?_
            refine g_aload_n o 0 rfl rfl dX2_addProjection_126 ?_
            refine M_get1 o m_920 dX2_addProjection_127 ?_
            refine g_iload_n o 1 rfl rfl dX2_addProjection_130 ?_
            refine M_ld1 o dX2_addProjection_131 hf (fun hf => ?_)
            refine g_iconst o ic_1 dX2_addProjection_132 ?_
            refine g_isub o dX2_addProjection_133 ?_
            refine g_iload_n o 2 rfl rfl dX2_addProjection_134 ?_
            obtain ⟨r9, hr9, hf⟩ := bd_some hf
            refine k_X2_adds_ o hr9 m_999 (Nat.le_of_ble_eq_true rfl) (Nat.le_of_ble_eq_true rfl) ⟨(Nat.le_of_ble_eq_true rfl), (Nat.le_of_ble_eq_true rfl)⟩ dX2_addProjection_135 ?_
            cases Option.some.inj hf
            exact g_iret hret (Nat.le_of_ble_eq_true rfl) (Nat.le_of_ble_eq_true rfl) (vp_nar_int _) dX2_addProjection_138
          · have hf := hrr8 t7 ht
            cases Option.some.inj hf
            exact hret
        · refine g_aload_n o 0 rfl rfl dX2_addProjection_55 ?_
          refine g_iconst o ic_3 dX2_addProjection_56 ?_
          obtain ⟨r10, hr10, hf⟩ := bd_some hf
          refine k_X2_fails_ o hr10 m_995 (Nat.le_of_ble_eq_true rfl) (Nat.le_of_ble_eq_true rfl) ⟨(Nat.le_of_ble_eq_true rfl), (Nat.le_of_ble_eq_true rfl)⟩ dX2_addProjection_57 ?_
          cases Option.some.inj hf
          exact g_iret hret (Nat.le_of_ble_eq_true rfl) (Nat.le_of_ble_eq_true rfl) (vp_nar_int _) dX2_addProjection_60
      · refine g_aload_n o 0 rfl rfl dX2_addProjection_40 ?_
        refine g_iconst o ic_2 dX2_addProjection_41 ?_
        obtain ⟨r11, hr11, hf⟩ := bd_some hf
        refine k_X2_fails_ o hr11 m_995 (Nat.le_of_ble_eq_true rfl) (Nat.le_of_ble_eq_true rfl) ⟨(Nat.le_of_ble_eq_true rfl), (Nat.le_of_ble_eq_true rfl)⟩ dX2_addProjection_42 ?_
        cases Option.some.inj hf
        exact g_iret hret (Nat.le_of_ble_eq_true rfl) (Nat.le_of_ble_eq_true rfl) (vp_nar_int _) dX2_addProjection_45
    · refine g_aload_n o 0 rfl rfl dX2_addProjection_24 ?_
      refine g_iconst o ic_1 dX2_addProjection_25 ?_
      obtain ⟨r12, hr12, hf⟩ := bd_some hf
      refine k_X2_fails_ o hr12 m_995 (Nat.le_of_ble_eq_true rfl) (Nat.le_of_ble_eq_true rfl) ⟨(Nat.le_of_ble_eq_true rfl), (Nat.le_of_ble_eq_true rfl)⟩ dX2_addProjection_26 ?_
      cases Option.some.inj hf
      exact g_iret hret (Nat.le_of_ble_eq_true rfl) (Nat.le_of_ble_eq_true rfl) (vp_nar_int _) dX2_addProjection_29
theorem c_X2_addProjection (l : Launch) (hst : l.stackTraces = false) (a : Nat → Nat) (u : St) (p0 : Int32) (p1 : Int32) (t : Int32 × St) (hf : f_X2_addProjection u p0 p1 = some t) : CoI l yX2_addProjection (.code yX2_addProjection cX2_addProjection 7 (some .int)) 1 0 0 [.ref (a 0), .int p0, .int p1] (wM a u) (wM a t.2) (.inl t.1) := mkI hst (by decide +kernel) (Nat.le_of_ble_eq_true rfl) (fun x _ o hI hX => b_X2_addProjection o a u p0 p1 t hf (hI _ rfl))
def rt_X2_addExchanged (x : Cx) (a : Nat → Nat) (t : Int32 × St) : Prop := RetI x cX2_addExchanged .int 0 0 (wM a t.2 (cxT x)) t.1
set_option maxRecDepth 20000 in
set_option maxHeartbeats 2000000 in
theorem b_X2_addExchanged_L67 {x : Cx} (o : Ok x cX2_addExchanged 8 RX2 1 0 0) {k n : Nat} (hk : k ≤ 0) (hn : n ≤ 0) (a : Nat → Nat) (u : St) (c1 : Int32) (c2 : Int32) (c3 : Int32) (r : (Int32 × Int32) ⊕ (Int32 × St)) (hX : ∀ s : Int32 × Int32, r = .inl s → G x 8 k n (wM a u (cxT x)) [(0, .ref (a 0)), (1, .int c1), (4, .int s.1)] 143 []) (hR : ∀ t, r = .inr t → rt_X2_addExchanged x a t) : ∀ (m : Nat) (s : Int32 × Int32), loopN (f_X2_addExchanged_s67 u c1 c2 c3) m s = some r → G x 8 k n (wM a u (cxT x)) [(0, .ref (a 0)), (1, .int c1), (2, .int c2), (3, .int c3), (4, .int s.1), (5, .int s.2)] 67 [] := by
  refine loop_W _ (fun (s : Int32 × Int32) => G x 8 k n (wM a u (cxT x)) [(0, .ref (a 0)), (1, .int c1), (2, .int c2), (3, .int c3), (4, .int s.1), (5, .int s.2)] 67 []) r ?_
  intro s ww hf hw
  unfold f_X2_addExchanged_s67 at hf
  refine g_iload o 5 rfl dX2_addExchanged_67 ?_
  refine g_iconst o ic_1 dX2_addExchanged_69 ?_
  refine g_aload_n o 0 rfl rfl dX2_addExchanged_70 ?_
  refine M_get1 o m_920 dX2_addExchanged_71 ?_
  refine g_iload_n o 1 rfl rfl dX2_addExchanged_74 ?_
  refine M_ld1 o dX2_addExchanged_75 hf (fun hf => ?_)
  refine g_ishl o dX2_addExchanged_76 ?_
  refine g_ic_ge (tgt := 143) o rfl dX2_addExchanged_77 hf (fun hc hf => ?_) (fun hc hf => ?_)
  · exact g_perm [0, 1, 4] rfl (hX _ (lf_x hf hw))
  · refine g_iload o 5 rfl dX2_addExchanged_80 ?_
    refine g_iconst o ic_1 dX2_addExchanged_82 ?_
    refine g_iload_n o 2 rfl rfl dX2_addExchanged_83 ?_
    refine g_ishl o dX2_addExchanged_84 ?_
    refine g_iconst o ic_m1 dX2_addExchanged_85 ?_
    refine g_ixor o dX2_addExchanged_86 ?_
    refine g_iand o dX2_addExchanged_87 ?_
    refine g_iconst o ic_1 dX2_addExchanged_88 ?_
    refine g_iload_n o 3 rfl rfl dX2_addExchanged_89 ?_
    refine g_ishl o dX2_addExchanged_90 ?_
    refine g_iconst o ic_m1 dX2_addExchanged_91 ?_
    refine g_ixor o dX2_addExchanged_92 ?_
    refine g_iand o dX2_addExchanged_93 ?_
    refine g_nmi hf (fun x6 hf => ?_)
    refine g_istore o [(6, .int x6), (0, .ref (a 0)), (1, .int c1), (2, .int c2), (3, .int c3), (4, .int s.1), (5, .int s.2)] (Nat.le_of_ble_eq_true rfl) rfl dX2_addExchanged_94 ?_
    refine g_iload o 0 rfl dX2_addExchanged_96 ?_
    refine g_iload o 6 rfl dX2_addExchanged_98 ?_
    refine g_iload_n o 3 rfl rfl dX2_addExchanged_100 ?_
    refine g_ishr o dX2_addExchanged_101 ?_
    refine g_iconst o ic_1 dX2_addExchanged_102 ?_
    refine g_iand o dX2_addExchanged_103 ?_
    refine g_iload_n o 4 rfl rfl dX2_addExchanged_104 ?_
    refine g_ishl o dX2_addExchanged_105 ?_
    refine g_ior o dX2_addExchanged_106 ?_
    refine g_iload o 6 rfl dX2_addExchanged_107 ?_
    refine g_iload_n o 4 rfl rfl dX2_addExchanged_109 ?_
    refine g_ishr o dX2_addExchanged_110 ?_
    refine g_iconst o ic_1 dX2_addExchanged_111 ?_
    refine g_iand o dX2_addExchanged_112 ?_
    refine g_iload_n o 3 rfl rfl dX2_addExchanged_113 ?_
    refine g_ishl o dX2_addExchanged_114 ?_
    refine g_ior o dX2_addExchanged_115 ?_
    refine g_nmi hf (fun x7 hf => ?_)
    refine g_istore o [(7, .int x7), (6, .int x6), (0, .ref (a 0)), (1, .int c1), (2, .int c2), (3, .int c3), (4, .int s.1), (5, .int s.2)] (Nat.le_of_ble_eq_true rfl) rfl dX2_addExchanged_116 ?_
    refine g_iload o 6 rfl dX2_addExchanged_118 ?_
    refine g_aload_n o 2 rfl rfl dX2_addExchanged_120 ?_
    refine M_get2 o m_921 dX2_addExchanged_121 ?_
    refine g_iload_n o 3 rfl rfl dX2_addExchanged_124 ?_
    refine M_ld2 o dX2_addExchanged_125 hf (fun hf => ?_)
    refine g_iload o 7 rfl dX2_addExchanged_126 ?_
    refine g_ishr o dX2_addExchanged_128 ?_
    refine g_iconst o ic_1 dX2_addExchanged_129 ?_
    refine g_iand o dX2_addExchanged_130 ?_
    refine g_iload o 0 rfl dX2_addExchanged_131 ?_
    refine g_ishl o dX2_addExchanged_133 ?_
    refine g_ior o dX2_addExchanged_134 ?_
    refine g_nmi hf (fun x8 hf => ?_)
    refine g_istore o [(4, .int x8), (7, .int x7), (6, .int x6), (0, .ref (a 0)), (1, .int c1), (2, .int c2), (3, .int c3), (5, .int s.2)] (Nat.le_of_ble_eq_true rfl) rfl dX2_addExchanged_135 ?_
    refine g_iinc o [(5, .int (s.2 + 1)), (4, .int x8), (7, .int x7), (6, .int x6), (0, .ref (a 0)), (1, .int c1), (2, .int c2), (3, .int c3)] 7 rfl (inc_1 _) (Nat.le_of_ble_eq_true rfl) rfl dX2_addExchanged_137 ?_
    refine g_goto (tgt := 67) o rfl dX2_addExchanged_140 ?_
    have hp := lf_c hf hw
    exact g_perm [4, 5, 6, 7, 1, 0] rfl hp
set_option maxRecDepth 20000 in
set_option maxHeartbeats 2000000 in
theorem b_X2_addExchanged {x : Cx} (o : Ok x cX2_addExchanged 8 RX2 1 0 0) (a : Nat → Nat) (u : St) (p0 : Int32) (p1 : Int32) (p2 : Int32) (t : Int32 × St) (hf : f_X2_addExchanged u p0 p1 p2 = some t) (hret : rt_X2_addExchanged x a t) : G x 8 0 0 (wM a u (cxT x)) [(0, .ref (a 0)), (1, .int p0), (2, .int p1), (3, .int p2)] 0 [] := by
  unfold f_X2_addExchanged at hf
  refine g_aload_n o 0 rfl rfl dX2_addExchanged_0 ?_
  refine g_iload_n o 1 rfl rfl dX2_addExchanged_1 ?_
  obtain ⟨r1, hr1, hf⟩ := bd_some hf
  refine k_X2_isRelation_ o hr1 m_1031 (Nat.le_of_ble_eq_true rfl) (Nat.le_of_ble_eq_true rfl) ⟨(Nat.le_of_ble_eq_true rfl), (Nat.le_of_ble_eq_true rfl)⟩ dX2_addExchanged_2 ?_
  refine g_if_eq (tgt := 40) o rfl dX2_addExchanged_5 hf (fun hc hf => ?_) (fun hc hf => ?_)
  · refine g_aload_n o 0 rfl rfl dX2_addExchanged_40 ?_
    refine g_iconst o ic_1 dX2_addExchanged_41 ?_
    obtain ⟨r2, hr2, hf⟩ := bd_some hf
    refine k_X2_fails_ o hr2 m_995 (Nat.le_of_ble_eq_true rfl) (Nat.le_of_ble_eq_true rfl) ⟨(Nat.le_of_ble_eq_true rfl), (Nat.le_of_ble_eq_true rfl)⟩ dX2_addExchanged_42 ?_
    cases Option.some.inj hf
    exact g_iret hret (Nat.le_of_ble_eq_true rfl) (Nat.le_of_ble_eq_true rfl) (vp_nar_int _) dX2_addExchanged_45
  · refine g_iload_n o 2 rfl rfl dX2_addExchanged_8 ?_
    refine g_iconst o ic_0 dX2_addExchanged_9 ?_
    refine g_aload_n o 0 rfl rfl dX2_addExchanged_10 ?_
    refine M_get1 o m_920 dX2_addExchanged_11 ?_
    refine g_iload_n o 1 rfl rfl dX2_addExchanged_14 ?_
    refine M_ld1 o dX2_addExchanged_15 hf (fun hf => ?_)
    refine g_iconst o ic_1 dX2_addExchanged_16 ?_
    refine g_isub o dX2_addExchanged_17 ?_
    obtain ⟨r3, hr3, hf⟩ := bd_some hf
    refine k_X2_isBetween_ o hr3 m_992 (Nat.le_of_ble_eq_true rfl) (Nat.le_of_ble_eq_true rfl) ⟨(Nat.le_of_ble_eq_true rfl), (Nat.le_of_ble_eq_true rfl)⟩ dX2_addExchanged_18 ?_
    refine g_if_eq (tgt := 40) o rfl dX2_addExchanged_21 hf (fun hc hf => ?_) (fun hc hf => ?_)
    · refine g_aload_n o 0 rfl rfl dX2_addExchanged_40 ?_
      refine g_iconst o ic_1 dX2_addExchanged_41 ?_
      obtain ⟨r4, hr4, hf⟩ := bd_some hf
      refine k_X2_fails_ o hr4 m_995 (Nat.le_of_ble_eq_true rfl) (Nat.le_of_ble_eq_true rfl) ⟨(Nat.le_of_ble_eq_true rfl), (Nat.le_of_ble_eq_true rfl)⟩ dX2_addExchanged_42 ?_
      cases Option.some.inj hf
      exact g_iret hret (Nat.le_of_ble_eq_true rfl) (Nat.le_of_ble_eq_true rfl) (vp_nar_int _) dX2_addExchanged_45
    · refine g_iload_n o 3 rfl rfl dX2_addExchanged_24 ?_
      refine g_iconst o ic_0 dX2_addExchanged_25 ?_
      refine g_aload_n o 0 rfl rfl dX2_addExchanged_26 ?_
      refine M_get1 o m_920 dX2_addExchanged_27 ?_
      refine g_iload_n o 1 rfl rfl dX2_addExchanged_30 ?_
      refine M_ld1 o dX2_addExchanged_31 hf (fun hf => ?_)
      refine g_iconst o ic_1 dX2_addExchanged_32 ?_
      refine g_isub o dX2_addExchanged_33 ?_
      obtain ⟨r5, hr5, hf⟩ := bd_some hf
      refine k_X2_isBetween_ o hr5 m_992 (Nat.le_of_ble_eq_true rfl) (Nat.le_of_ble_eq_true rfl) ⟨(Nat.le_of_ble_eq_true rfl), (Nat.le_of_ble_eq_true rfl)⟩ dX2_addExchanged_34 ?_
      refine g_if_ne (tgt := 46) o rfl dX2_addExchanged_37 hf (fun hc hf => ?_) (fun hc hf => ?_)
      · refine g_aload_n o 0 rfl rfl dX2_addExchanged_46 ?_
        refine M_get3 o m_922 dX2_addExchanged_47 ?_
        refine g_bipush o bp_8 dX2_addExchanged_50 ?_
        refine g_ic_ne (tgt := 61) o rfl dX2_addExchanged_52 hf (fun hc hf => ?_) (fun hc hf => ?_)
        · refine g_iconst o ic_0 dX2_addExchanged_61 ?_
          refine g_istore o [(4, .int 0), (0, .ref (a 0)), (1, .int p0), (2, .int p1), (3, .int p2)] (Nat.le_of_ble_eq_true rfl) rfl dX2_addExchanged_62 ?_
          refine g_iconst o ic_0 dX2_addExchanged_64 ?_
          refine g_istore o [(5, .int 0), (4, .int 0), (0, .ref (a 0)), (1, .int p0), (2, .int p1), (3, .int p2)] (Nat.le_of_ble_eq_true rfl) rfl dX2_addExchanged_65 ?_
          obtain ⟨r10, hr10, hxr10, hrr10⟩ := bl_some hf
          refine g_perm [2, 3, 4, 5, 1, 0] rfl (b_X2_addExchanged_L67 o (Nat.le_of_ble_eq_true rfl) (Nat.le_of_ble_eq_true rfl) a u p0 p1 p2 r10 (fun s67 hs => ?_) (fun t9 ht => ?_) FU (0, 0) hr10)
          · have hf := hxr10 s67 hs
            refine g_aload_n o 0 rfl rfl dX2_addExchanged_143 ?_
            refine g_aload_n o 0 rfl rfl dX2_addExchanged_144 ?_
            refine M_get1 o m_920 dX2_addExchanged_145 ?_
            refine g_iload_n o 1 rfl rfl dX2_addExchanged_148 ?_
            refine M_ld1 o dX2_addExchanged_149 hf (fun hf => ?_)
            refine g_iload o 2 rfl dX2_addExchanged_150 ?_
            obtain ⟨r11, hr11, hf⟩ := bd_some hf
            refine k_X2_adds_ o hr11 m_999 (Nat.le_of_ble_eq_true rfl) (Nat.le_of_ble_eq_true rfl) ⟨(Nat.le_of_ble_eq_true rfl), (Nat.le_of_ble_eq_true rfl)⟩ dX2_addExchanged_152 ?_
            cases Option.some.inj hf
            exact g_iret hret (Nat.le_of_ble_eq_true rfl) (Nat.le_of_ble_eq_true rfl) (vp_nar_int _) dX2_addExchanged_155
          · have hf := hrr10 t9 ht
            cases Option.some.inj hf
            exact hret
        · refine g_aload_n o 0 rfl rfl dX2_addExchanged_55 ?_
          refine g_iconst o ic_2 dX2_addExchanged_56 ?_
          obtain ⟨r12, hr12, hf⟩ := bd_some hf
          refine k_X2_fails_ o hr12 m_995 (Nat.le_of_ble_eq_true rfl) (Nat.le_of_ble_eq_true rfl) ⟨(Nat.le_of_ble_eq_true rfl), (Nat.le_of_ble_eq_true rfl)⟩ dX2_addExchanged_57 ?_
          cases Option.some.inj hf
          exact g_iret hret (Nat.le_of_ble_eq_true rfl) (Nat.le_of_ble_eq_true rfl) (vp_nar_int _) dX2_addExchanged_60
      · refine g_aload_n o 0 rfl rfl dX2_addExchanged_40 ?_
        refine g_iconst o ic_1 dX2_addExchanged_41 ?_
        obtain ⟨r13, hr13, hf⟩ := bd_some hf
        refine k_X2_fails_ o hr13 m_995 (Nat.le_of_ble_eq_true rfl) (Nat.le_of_ble_eq_true rfl) ⟨(Nat.le_of_ble_eq_true rfl), (Nat.le_of_ble_eq_true rfl)⟩ dX2_addExchanged_42 ?_
        cases Option.some.inj hf
        exact g_iret hret (Nat.le_of_ble_eq_true rfl) (Nat.le_of_ble_eq_true rfl) (vp_nar_int _) dX2_addExchanged_45
theorem c_X2_addExchanged (l : Launch) (hst : l.stackTraces = false) (a : Nat → Nat) (u : St) (p0 : Int32) (p1 : Int32) (p2 : Int32) (t : Int32 × St) (hf : f_X2_addExchanged u p0 p1 p2 = some t) : CoI l yX2_addExchanged (.code yX2_addExchanged cX2_addExchanged 8 (some .int)) 1 0 0 [.ref (a 0), .int p0, .int p1, .int p2] (wM a u) (wM a t.2) (.inl t.1) := mkI hst (by decide +kernel) (Nat.le_of_ble_eq_true rfl) (fun x _ o hI hX => b_X2_addExchanged o a u p0 p1 p2 t hf (hI _ rfl))
def rt_X2_isOperation (x : Cx) (t : Int32) : Prop := RetI x cX2_isOperation .boolean 0 0 (w0 (cxT x)) t
set_option maxRecDepth 20000 in
set_option maxHeartbeats 2000000 in
theorem b_X2_isOperation {x : Cx} (o : Ok x cX2_isOperation 2 RX2 1 0 0) (p0 : Int32) (p1 : Int32) (t : Int32) (hf : f_X2_isOperation p0 p1 = some t) (hret : rt_X2_isOperation x  t) : G x 2 0 0 (w0 (cxT x)) [(0, .int p0), (1, .int p1)] 0 [] := by
  unfold f_X2_isOperation at hf
  refine g_iload_n o 0 rfl rfl dX2_isOperation_0 ?_
  refine g_iconst o ic_1 dX2_isOperation_1 ?_
  refine g_iconst o ic_3 dX2_isOperation_2 ?_
  obtain ⟨r1, hr1, hf⟩ := bd_some hf
  refine k_X2_isBetween_ o hr1 m_992 (Nat.le_of_ble_eq_true rfl) (Nat.le_of_ble_eq_true rfl) ⟨(Nat.le_of_ble_eq_true rfl), (Nat.le_of_ble_eq_true rfl)⟩ dX2_isOperation_3 ?_
  refine g_if_eq (tgt := 26) o rfl dX2_isOperation_6 hf (fun hc hf => ?_) (fun hc hf => ?_)
  · refine g_iconst o ic_0 dX2_isOperation_26 ?_
    cases Option.some.inj hf
    exact g_iret hret (Nat.le_of_ble_eq_true rfl) (Nat.le_of_ble_eq_true rfl) nb_0 dX2_isOperation_27
  · refine g_iload_n o 1 rfl rfl dX2_isOperation_9 ?_
    refine g_if_lt (tgt := 26) o rfl dX2_isOperation_10 hf (fun hc hf => ?_) (fun hc hf => ?_)
    · refine g_iconst o ic_0 dX2_isOperation_26 ?_
      cases Option.some.inj hf
      exact g_iret hret (Nat.le_of_ble_eq_true rfl) (Nat.le_of_ble_eq_true rfl) nb_0 dX2_isOperation_27
    · refine g_iload_n o 1 rfl rfl dX2_isOperation_13 ?_
      refine g_iconst o ic_1 dX2_isOperation_14 ?_
      refine g_iconst o ic_1 dX2_isOperation_15 ?_
      refine g_iload_n o 0 rfl rfl dX2_isOperation_16 ?_
      refine g_ishl o dX2_isOperation_17 ?_
      refine g_ishl o dX2_isOperation_18 ?_
      refine g_ic_ge (tgt := 26) o rfl dX2_isOperation_19 hf (fun hc hf => ?_) (fun hc hf => ?_)
      · refine g_iconst o ic_0 dX2_isOperation_26 ?_
        cases Option.some.inj hf
        exact g_iret hret (Nat.le_of_ble_eq_true rfl) (Nat.le_of_ble_eq_true rfl) nb_0 dX2_isOperation_27
      · refine g_iconst o ic_1 dX2_isOperation_22 ?_
        refine g_goto (tgt := 27) o rfl dX2_isOperation_23 ?_
        cases Option.some.inj hf
        exact g_iret hret (Nat.le_of_ble_eq_true rfl) (Nat.le_of_ble_eq_true rfl) nb_1 dX2_isOperation_27
theorem c_X2_isOperation (l : Launch) (hst : l.stackTraces = false) (p0 : Int32) (p1 : Int32) (t : Int32) (hf : f_X2_isOperation p0 p1 = some t) : CoI l yX2_isOperation (.code yX2_isOperation cX2_isOperation 2 (some .boolean)) 1 0 0 [.int p0, .int p1] w0 w0 (.inl t) := mkI hst (by decide +kernel) (Nat.le_of_ble_eq_true rfl) (fun x _ o hI hX => b_X2_isOperation o p0 p1 t hf (hI _ rfl))
theorem k_X2_isOperation_ {x : Cx} {cc : ByteArray} {nL : Nat} {own : String} {d mc ms k n : Nat} {lv : List (Nat × Value)} {pc i : Nat} {rest : List Value} {wd : va_W} {p0 : Int32} {p1 : Int32} (o : Ok x cc nL own d mc ms) {t : Int32} (ht : f_X2_isOperation p0 p1 = some t) (hlk : Cond.methodLink own i yX2_isOperation ∈ Ug) (hd : 1 < d) (hr : (rest.map fun v => v.category).sum ≤ 8) (hk : k + 0 ≤ mc ∧ n + 0 ≤ ms) (dg : decode cc pc = .ok (.invokestatic i, 3)) (kk : G x nL (k + 0) (n + 0) wd lv (pc + 3) (.int t :: rest)) : G x nL k n wd lv pc (.int p1 :: .int p0 :: rest) := gcI (wd2 := wd) o (c_X2_isOperation (cxl x) o.2.2.2.2.2.2.2.2.2.1 p0 p1 t ht) (can_S o hd (Nat.le_of_ble_eq_true rfl) m_1085 m_56 m_1084 hlk yk_X2_isOperation rfl hr hk dg) sp_none (fun E h => by cases h) (fun r h => by cases h; exact kk)
def rt_X2_placeOf (x : Cx) (t : Int32) : Prop := RetI x cX2_placeOf .int 0 0 (w0 (cxT x)) t
set_option maxRecDepth 20000 in
set_option maxHeartbeats 2000000 in
theorem b_X2_placeOf {x : Cx} (o : Ok x cX2_placeOf 4 RX2 0 0 0) (p0 : Int32) (p1 : Int32) (p2 : Int32) (p3 : Int32) (t : Int32) (hf : f_X2_placeOf p0 p1 p2 p3 = some t) (hret : rt_X2_placeOf x  t) : G x 4 0 0 (w0 (cxT x)) [(0, .int p0), (1, .int p1), (2, .int p2), (3, .int p3)] 0 [] := by
  unfold f_X2_placeOf at hf
  refine g_iload_n o 1 rfl rfl dX2_placeOf_0 ?_
  refine g_iload_n o 0 rfl rfl dX2_placeOf_1 ?_
  refine g_iconst o ic_1 dX2_placeOf_2 ?_
  refine g_ic_le (tgt := 12) o rfl dX2_placeOf_3 hf (fun hc hf => ?_) (fun hc hf => ?_)
  · refine g_iconst o ic_0 dX2_placeOf_12 ?_
    refine g_iadd o dX2_placeOf_13 ?_
    refine g_iload_n o 0 rfl rfl dX2_placeOf_14 ?_
    refine g_iconst o ic_2 dX2_placeOf_15 ?_
    refine g_ic_le (tgt := 25) o rfl dX2_placeOf_16 hf (fun hc hf => ?_) (fun hc hf => ?_)
    · refine g_iconst o ic_0 dX2_placeOf_25 ?_
      refine g_iadd o dX2_placeOf_26 ?_
      cases Option.some.inj hf
      exact g_iret hret (Nat.le_of_ble_eq_true rfl) (Nat.le_of_ble_eq_true rfl) (vp_nar_int _) dX2_placeOf_27
    · refine g_iconst o ic_4 dX2_placeOf_19 ?_
      refine g_iload_n o 3 rfl rfl dX2_placeOf_20 ?_
      refine g_imul o dX2_placeOf_21 ?_
      refine g_goto (tgt := 26) o rfl dX2_placeOf_22 ?_
      refine g_iadd o dX2_placeOf_26 ?_
      cases Option.some.inj hf
      exact g_iret hret (Nat.le_of_ble_eq_true rfl) (Nat.le_of_ble_eq_true rfl) (vp_nar_int _) dX2_placeOf_27
  · refine g_iconst o ic_2 dX2_placeOf_6 ?_
    refine g_iload_n o 2 rfl rfl dX2_placeOf_7 ?_
    refine g_imul o dX2_placeOf_8 ?_
    refine g_goto (tgt := 13) o rfl dX2_placeOf_9 ?_
    refine g_iadd o dX2_placeOf_13 ?_
    refine g_iload_n o 0 rfl rfl dX2_placeOf_14 ?_
    refine g_iconst o ic_2 dX2_placeOf_15 ?_
    refine g_ic_le (tgt := 25) o rfl dX2_placeOf_16 hf (fun hc hf => ?_) (fun hc hf => ?_)
    · refine g_iconst o ic_0 dX2_placeOf_25 ?_
      refine g_iadd o dX2_placeOf_26 ?_
      cases Option.some.inj hf
      exact g_iret hret (Nat.le_of_ble_eq_true rfl) (Nat.le_of_ble_eq_true rfl) (vp_nar_int _) dX2_placeOf_27
    · refine g_iconst o ic_4 dX2_placeOf_19 ?_
      refine g_iload_n o 3 rfl rfl dX2_placeOf_20 ?_
      refine g_imul o dX2_placeOf_21 ?_
      refine g_goto (tgt := 26) o rfl dX2_placeOf_22 ?_
      refine g_iadd o dX2_placeOf_26 ?_
      cases Option.some.inj hf
      exact g_iret hret (Nat.le_of_ble_eq_true rfl) (Nat.le_of_ble_eq_true rfl) (vp_nar_int _) dX2_placeOf_27
theorem c_X2_placeOf (l : Launch) (hst : l.stackTraces = false) (p0 : Int32) (p1 : Int32) (p2 : Int32) (p3 : Int32) (t : Int32) (hf : f_X2_placeOf p0 p1 p2 p3 = some t) : CoI l yX2_placeOf (.code yX2_placeOf cX2_placeOf 4 (some .int)) 0 0 0 [.int p0, .int p1, .int p2, .int p3] w0 w0 (.inl t) := mkI hst (by decide +kernel) (Nat.le_of_ble_eq_true rfl) (fun x _ o hI hX => b_X2_placeOf o p0 p1 p2 p3 t hf (hI _ rfl))
theorem k_X2_placeOf_ {x : Cx} {cc : ByteArray} {nL : Nat} {own : String} {d mc ms k n : Nat} {lv : List (Nat × Value)} {pc i : Nat} {rest : List Value} {wd : va_W} {p0 : Int32} {p1 : Int32} {p2 : Int32} {p3 : Int32} (o : Ok x cc nL own d mc ms) {t : Int32} (ht : f_X2_placeOf p0 p1 p2 p3 = some t) (hlk : Cond.methodLink own i yX2_placeOf ∈ Ug) (hd : 0 < d) (hr : (rest.map fun v => v.category).sum ≤ 8) (hk : k + 0 ≤ mc ∧ n + 0 ≤ ms) (dg : decode cc pc = .ok (.invokestatic i, 3)) (kk : G x nL (k + 0) (n + 0) wd lv (pc + 3) (.int t :: rest)) : G x nL k n wd lv pc (.int p3 :: .int p2 :: .int p1 :: .int p0 :: rest) := gcI (wd2 := wd) o (c_X2_placeOf (cxl x) o.2.2.2.2.2.2.2.2.2.1 p0 p1 p2 p3 t ht) (can_S o hd (Nat.le_of_ble_eq_true rfl) m_1088 m_56 m_1087 hlk yk_X2_placeOf rfl hr hk dg) sp_none (fun E h => by cases h) (fun r h => by cases h; exact kk)
def rt_X2_apply (x : Cx) (a : Nat → Nat) (t : Int32 × St) : Prop := RetI x cX2_apply .int 0 0 (wM a t.2 (cxT x)) t.1
set_option maxRecDepth 20000 in
set_option maxHeartbeats 2000000 in
theorem b_X2_apply {x : Cx} (o : Ok x cX2_apply 6 RX2 2 0 0) (a : Nat → Nat) (u : St) (p0 : Int32) (p1 : Int32) (p2 : Int32) (p3 : Int32) (p4 : Int32) (t : Int32 × St) (hf : f_X2_apply u p0 p1 p2 p3 p4 = some t) (hret : rt_X2_apply x a t) : G x 6 0 0 (wM a u (cxT x)) [(0, .ref (a 0)), (1, .int p0), (2, .int p1), (3, .int p2), (4, .int p3), (5, .int p4)] 0 [] := by
  unfold f_X2_apply at hf
  refine g_iload_n o 1 rfl rfl dX2_apply_0 ?_
  refine g_iload_n o 2 rfl rfl dX2_apply_1 ?_
  obtain ⟨r1, hr1, hf⟩ := bd_some hf
  refine k_X2_isOperation_ o hr1 m_1083 (Nat.le_of_ble_eq_true rfl) (Nat.le_of_ble_eq_true rfl) ⟨(Nat.le_of_ble_eq_true rfl), (Nat.le_of_ble_eq_true rfl)⟩ dX2_apply_2 ?_
  refine g_if_eq (tgt := 31) o rfl dX2_apply_5 hf (fun hc hf => ?_) (fun hc hf => ?_)
  · refine g_aload_n o 0 rfl rfl dX2_apply_31 ?_
    refine g_iconst o ic_1 dX2_apply_32 ?_
    obtain ⟨r2, hr2, hf⟩ := bd_some hf
    refine k_X2_fails_ o hr2 m_995 (Nat.le_of_ble_eq_true rfl) (Nat.le_of_ble_eq_true rfl) ⟨(Nat.le_of_ble_eq_true rfl), (Nat.le_of_ble_eq_true rfl)⟩ dX2_apply_33 ?_
    cases Option.some.inj hf
    exact g_iret hret (Nat.le_of_ble_eq_true rfl) (Nat.le_of_ble_eq_true rfl) (vp_nar_int _) dX2_apply_36
  · refine g_iload_n o 3 rfl rfl dX2_apply_8 ?_
    obtain ⟨r3, hr3, hf⟩ := bd_some hf
    refine k_X2_isBit_ o hr3 m_1017 (Nat.le_of_ble_eq_true rfl) (Nat.le_of_ble_eq_true rfl) ⟨(Nat.le_of_ble_eq_true rfl), (Nat.le_of_ble_eq_true rfl)⟩ dX2_apply_9 ?_
    refine g_if_eq (tgt := 31) o rfl dX2_apply_12 hf (fun hc hf => ?_) (fun hc hf => ?_)
    · refine g_aload_n o 0 rfl rfl dX2_apply_31 ?_
      refine g_iconst o ic_1 dX2_apply_32 ?_
      obtain ⟨r4, hr4, hf⟩ := bd_some hf
      refine k_X2_fails_ o hr4 m_995 (Nat.le_of_ble_eq_true rfl) (Nat.le_of_ble_eq_true rfl) ⟨(Nat.le_of_ble_eq_true rfl), (Nat.le_of_ble_eq_true rfl)⟩ dX2_apply_33 ?_
      cases Option.some.inj hf
      exact g_iret hret (Nat.le_of_ble_eq_true rfl) (Nat.le_of_ble_eq_true rfl) (vp_nar_int _) dX2_apply_36
    · refine g_iload o 4 rfl dX2_apply_15 ?_
      obtain ⟨r5, hr5, hf⟩ := bd_some hf
      refine k_X2_isBit_ o hr5 m_1017 (Nat.le_of_ble_eq_true rfl) (Nat.le_of_ble_eq_true rfl) ⟨(Nat.le_of_ble_eq_true rfl), (Nat.le_of_ble_eq_true rfl)⟩ dX2_apply_17 ?_
      refine g_if_eq (tgt := 31) o rfl dX2_apply_20 hf (fun hc hf => ?_) (fun hc hf => ?_)
      · refine g_aload_n o 0 rfl rfl dX2_apply_31 ?_
        refine g_iconst o ic_1 dX2_apply_32 ?_
        obtain ⟨r6, hr6, hf⟩ := bd_some hf
        refine k_X2_fails_ o hr6 m_995 (Nat.le_of_ble_eq_true rfl) (Nat.le_of_ble_eq_true rfl) ⟨(Nat.le_of_ble_eq_true rfl), (Nat.le_of_ble_eq_true rfl)⟩ dX2_apply_33 ?_
        cases Option.some.inj hf
        exact g_iret hret (Nat.le_of_ble_eq_true rfl) (Nat.le_of_ble_eq_true rfl) (vp_nar_int _) dX2_apply_36
      · refine g_iload o 5 rfl dX2_apply_23 ?_
        obtain ⟨r7, hr7, hf⟩ := bd_some hf
        refine k_X2_isBit_ o hr7 m_1017 (Nat.le_of_ble_eq_true rfl) (Nat.le_of_ble_eq_true rfl) ⟨(Nat.le_of_ble_eq_true rfl), (Nat.le_of_ble_eq_true rfl)⟩ dX2_apply_25 ?_
        refine g_if_ne (tgt := 37) o rfl dX2_apply_28 hf (fun hc hf => ?_) (fun hc hf => ?_)
        · refine g_aload_n o 0 rfl rfl dX2_apply_37 ?_
          refine g_iconst o ic_0 dX2_apply_38 ?_
          refine M_put0 o m_919 dX2_apply_39 ?_
          refine g_iload_n o 2 rfl rfl dX2_apply_42 ?_
          refine g_iload_n o 1 rfl rfl dX2_apply_43 ?_
          refine g_iload_n o 3 rfl rfl dX2_apply_44 ?_
          refine g_iload o 4 rfl dX2_apply_45 ?_
          refine g_iload o 5 rfl dX2_apply_47 ?_
          obtain ⟨r8, hr8, hf⟩ := bd_some hf
          refine k_X2_placeOf_ o hr8 m_1086 (Nat.le_of_ble_eq_true rfl) (Nat.le_of_ble_eq_true rfl) ⟨(Nat.le_of_ble_eq_true rfl), (Nat.le_of_ble_eq_true rfl)⟩ dX2_apply_49 ?_
          refine g_ishr o dX2_apply_52 ?_
          refine g_iconst o ic_1 dX2_apply_53 ?_
          refine g_iand o dX2_apply_54 ?_
          cases Option.some.inj hf
          exact g_iret hret (Nat.le_of_ble_eq_true rfl) (Nat.le_of_ble_eq_true rfl) (vp_nar_int _) dX2_apply_55
        · refine g_aload_n o 0 rfl rfl dX2_apply_31 ?_
          refine g_iconst o ic_1 dX2_apply_32 ?_
          obtain ⟨r9, hr9, hf⟩ := bd_some hf
          refine k_X2_fails_ o hr9 m_995 (Nat.le_of_ble_eq_true rfl) (Nat.le_of_ble_eq_true rfl) ⟨(Nat.le_of_ble_eq_true rfl), (Nat.le_of_ble_eq_true rfl)⟩ dX2_apply_33 ?_
          cases Option.some.inj hf
          exact g_iret hret (Nat.le_of_ble_eq_true rfl) (Nat.le_of_ble_eq_true rfl) (vp_nar_int _) dX2_apply_36
theorem c_X2_apply (l : Launch) (hst : l.stackTraces = false) (a : Nat → Nat) (u : St) (p0 : Int32) (p1 : Int32) (p2 : Int32) (p3 : Int32) (p4 : Int32) (t : Int32 × St) (hf : f_X2_apply u p0 p1 p2 p3 p4 = some t) : CoI l yX2_apply (.code yX2_apply cX2_apply 6 (some .int)) 2 0 0 [.ref (a 0), .int p0, .int p1, .int p2, .int p3, .int p4] (wM a u) (wM a t.2) (.inl t.1) := mkI hst (by decide +kernel) (Nat.le_of_ble_eq_true rfl) (fun x _ o hI hX => b_X2_apply o a u p0 p1 p2 p3 p4 t hf (hI _ rfl))
def rt_X2_refuses (x : Cx) (a : Nat → Nat) (t : Int32 × St) : Prop := RetI x cX2_refuses .boolean 0 0 (wM a t.2 (cxT x)) t.1
set_option maxRecDepth 20000 in
set_option maxHeartbeats 2000000 in
theorem b_X2_refuses {x : Cx} (o : Ok x cX2_refuses 2 RX2 0 0 0) (a : Nat → Nat) (u : St) (p0 : Int32) (t : Int32 × St) (hf : f_X2_refuses u p0 = some t) (hret : rt_X2_refuses x a t) : G x 2 0 0 (wM a u (cxT x)) [(0, .ref (a 0)), (1, .int p0)] 0 [] := by
  unfold f_X2_refuses at hf
  refine g_aload_n o 0 rfl rfl dX2_refuses_0 ?_
  refine g_iload_n o 1 rfl rfl dX2_refuses_1 ?_
  refine M_put0 o m_919 dX2_refuses_2 ?_
  refine g_iconst o ic_0 dX2_refuses_5 ?_
  cases Option.some.inj hf
  exact g_iret hret (Nat.le_of_ble_eq_true rfl) (Nat.le_of_ble_eq_true rfl) nb_0 dX2_refuses_6
theorem c_X2_refuses (l : Launch) (hst : l.stackTraces = false) (a : Nat → Nat) (u : St) (p0 : Int32) (t : Int32 × St) (hf : f_X2_refuses u p0 = some t) : CoI l yX2_refuses (.code yX2_refuses cX2_refuses 2 (some .boolean)) 0 0 0 [.ref (a 0), .int p0] (wM a u) (wM a t.2) (.inl t.1) := mkI hst (by decide +kernel) (Nat.le_of_ble_eq_true rfl) (fun x _ o hI hX => b_X2_refuses o a u p0 t hf (hI _ rfl))
theorem k_X2_refuses_ {x : Cx} {cc : ByteArray} {nL : Nat} {own : String} {d mc ms k n : Nat} {lv : List (Nat × Value)} {pc i : Nat} {rest : List Value} {a : Nat → Nat} {u : St} {p0 : Int32} (o : Ok x cc nL own d mc ms) {t : Int32 × St} (ht : f_X2_refuses u p0 = some t) (hlk : Cond.methodLink own i yX2_refuses ∈ Ug) (hd : 0 < d) (hr : (rest.map fun v => v.category).sum ≤ 8) (hk : k + 0 ≤ mc ∧ n + 0 ≤ ms) (dg : decode cc pc = .ok (.invokevirtual i, 3)) (kk : G x nL (k + 0) (n + 0) (wM a t.2 (cxT x)) lv (pc + 3) (.int t.1 :: rest)) : G x nL k n (wM a u (cxT x)) lv pc (.int p0 :: .ref (a 0) :: rest) := gcI (wd2 := (wM a t.2 (cxT x))) o (c_X2_refuses (cxl x) o.2.2.2.2.2.2.2.2.2.1 a u p0 t ht) (can_V (q0 := 0) o rfl rfl hd (Nat.le_of_ble_eq_true rfl) m_1096 m_56 m_1095 m_37 hlk yk_X2_refuses rfl hr hk dg) sp_M (fun E h => by cases h) (fun r h => by cases h; exact kk)
def rt_X2_applied (x : Cx) (t : Int32) : Prop := RetI x cX2_applied .int 0 0 (w0 (cxT x)) t
set_option maxRecDepth 20000 in
set_option maxHeartbeats 2000000 in
theorem b_X2_applied_L6 {x : Cx} (o : Ok x cX2_applied 7 RX2 1 0 0) {k n : Nat} (hk : k ≤ 0) (hn : n ≤ 0) (c0 : Int32) (c1 : Int32) (c2 : Int32) (c3 : Int32) (c4 : Int32) (r : (Int32 × Int32) ⊕ (Int32)) (hX : ∀ s : Int32 × Int32, r = .inl s → G x 7 k n (w0 (cxT x)) [(5, .int s.1)] 53 []) (hR : ∀ t, r = .inr t → rt_X2_applied x  t) : ∀ (m : Nat) (s : Int32 × Int32), loopN (f_X2_applied_s6 c0 c1 c2 c3 c4) m s = some r → G x 7 k n (w0 (cxT x)) [(0, .int c0), (1, .int c1), (2, .int c2), (3, .int c3), (4, .int c4), (5, .int s.1), (6, .int s.2)] 6 [] := by
  refine loop_W _ (fun (s : Int32 × Int32) => G x 7 k n (w0 (cxT x)) [(0, .int c0), (1, .int c1), (2, .int c2), (3, .int c3), (4, .int c4), (5, .int s.1), (6, .int s.2)] 6 []) r ?_
  intro s ww hf hw
  unfold f_X2_applied_s6 at hf
  refine g_iload o 6 rfl dX2_applied_6 ?_
  refine g_iconst o ic_4 dX2_applied_8 ?_
  refine g_ic_ge (tgt := 53) o rfl dX2_applied_9 hf (fun hc hf => ?_) (fun hc hf => ?_)
  · exact g_perm [5] rfl (hX _ (lf_x hf hw))
  · refine g_iload o 5 rfl dX2_applied_12 ?_
    refine g_iload_n o 1 rfl rfl dX2_applied_14 ?_
    refine g_iload_n o 0 rfl rfl dX2_applied_15 ?_
    refine g_iload_n o 2 rfl rfl dX2_applied_16 ?_
    refine g_iload o 6 rfl dX2_applied_17 ?_
    refine g_ishr o dX2_applied_19 ?_
    refine g_iconst o ic_1 dX2_applied_20 ?_
    refine g_iand o dX2_applied_21 ?_
    refine g_iload_n o 3 rfl rfl dX2_applied_22 ?_
    refine g_iload o 6 rfl dX2_applied_23 ?_
    refine g_ishr o dX2_applied_25 ?_
    refine g_iconst o ic_1 dX2_applied_26 ?_
    refine g_iand o dX2_applied_27 ?_
    refine g_iload o 4 rfl dX2_applied_28 ?_
    refine g_iload o 6 rfl dX2_applied_30 ?_
    refine g_ishr o dX2_applied_32 ?_
    refine g_iconst o ic_1 dX2_applied_33 ?_
    refine g_iand o dX2_applied_34 ?_
    obtain ⟨r1, hr1, hf⟩ := bd_some hf
    refine k_X2_placeOf_ o hr1 m_1086 (Nat.le_of_ble_eq_true rfl) (Nat.le_of_ble_eq_true rfl) ⟨hk, hn⟩ dX2_applied_35 ?_
    refine g_ishr o dX2_applied_38 ?_
    refine g_iconst o ic_1 dX2_applied_39 ?_
    refine g_iand o dX2_applied_40 ?_
    refine g_iload o 6 rfl dX2_applied_41 ?_
    refine g_ishl o dX2_applied_43 ?_
    refine g_ior o dX2_applied_44 ?_
    refine g_nmi hf (fun x2 hf => ?_)
    refine g_istore o [(5, .int x2), (0, .int c0), (1, .int c1), (2, .int c2), (3, .int c3), (4, .int c4), (6, .int s.2)] (Nat.le_of_ble_eq_true rfl) rfl dX2_applied_45 ?_
    refine g_iinc o [(6, .int (s.2 + 1)), (5, .int x2), (0, .int c0), (1, .int c1), (2, .int c2), (3, .int c3), (4, .int c4)] 6 rfl (inc_1 _) (Nat.le_of_ble_eq_true rfl) rfl dX2_applied_47 ?_
    refine g_goto (tgt := 6) o rfl dX2_applied_50 ?_
    have hp := lf_c hf hw
    exact g_perm [2, 3, 4, 5, 6, 1, 0] rfl hp
set_option maxRecDepth 20000 in
set_option maxHeartbeats 2000000 in
theorem b_X2_applied {x : Cx} (o : Ok x cX2_applied 7 RX2 1 0 0) (p0 : Int32) (p1 : Int32) (p2 : Int32) (p3 : Int32) (p4 : Int32) (t : Int32) (hf : f_X2_applied p0 p1 p2 p3 p4 = some t) (hret : rt_X2_applied x  t) : G x 7 0 0 (w0 (cxT x)) [(0, .int p0), (1, .int p1), (2, .int p2), (3, .int p3), (4, .int p4)] 0 [] := by
  unfold f_X2_applied at hf
  refine g_iconst o ic_0 dX2_applied_0 ?_
  refine g_istore o [(5, .int 0), (0, .int p0), (1, .int p1), (2, .int p2), (3, .int p3), (4, .int p4)] (Nat.le_of_ble_eq_true rfl) rfl dX2_applied_1 ?_
  refine g_iconst o ic_0 dX2_applied_3 ?_
  refine g_istore o [(6, .int 0), (5, .int 0), (0, .int p0), (1, .int p1), (2, .int p2), (3, .int p3), (4, .int p4)] (Nat.le_of_ble_eq_true rfl) rfl dX2_applied_4 ?_
  obtain ⟨r4, hr4, hxr4, hrr4⟩ := bl_some hf
  refine g_perm [2, 3, 4, 5, 6, 1, 0] rfl (b_X2_applied_L6 o (Nat.le_of_ble_eq_true rfl) (Nat.le_of_ble_eq_true rfl)  p0 p1 p2 p3 p4 r4 (fun s6 hs => ?_) (fun t3 ht => ?_) FU (0, 0) hr4)
  · have hf := hxr4 s6 hs
    refine g_iload o 0 rfl dX2_applied_53 ?_
    cases Option.some.inj hf
    exact g_iret hret (Nat.le_of_ble_eq_true rfl) (Nat.le_of_ble_eq_true rfl) (vp_nar_int _) dX2_applied_55
  · have hf := hrr4 t3 ht
    cases Option.some.inj hf
    exact hret
theorem c_X2_applied (l : Launch) (hst : l.stackTraces = false) (p0 : Int32) (p1 : Int32) (p2 : Int32) (p3 : Int32) (p4 : Int32) (t : Int32) (hf : f_X2_applied p0 p1 p2 p3 p4 = some t) : CoI l yX2_applied (.code yX2_applied cX2_applied 7 (some .int)) 1 0 0 [.int p0, .int p1, .int p2, .int p3, .int p4] w0 w0 (.inl t) := mkI hst (by decide +kernel) (Nat.le_of_ble_eq_true rfl) (fun x _ o hI hX => b_X2_applied o p0 p1 p2 p3 p4 t hf (hI _ rfl))
theorem k_X2_applied_ {x : Cx} {cc : ByteArray} {nL : Nat} {own : String} {d mc ms k n : Nat} {lv : List (Nat × Value)} {pc i : Nat} {rest : List Value} {wd : va_W} {p0 : Int32} {p1 : Int32} {p2 : Int32} {p3 : Int32} {p4 : Int32} (o : Ok x cc nL own d mc ms) {t : Int32} (ht : f_X2_applied p0 p1 p2 p3 p4 = some t) (hlk : Cond.methodLink own i yX2_applied ∈ Ug) (hd : 1 < d) (hr : (rest.map fun v => v.category).sum ≤ 8) (hk : k + 0 ≤ mc ∧ n + 0 ≤ ms) (dg : decode cc pc = .ok (.invokestatic i, 3)) (kk : G x nL (k + 0) (n + 0) wd lv (pc + 3) (.int t :: rest)) : G x nL k n wd lv pc (.int p4 :: .int p3 :: .int p2 :: .int p1 :: .int p0 :: rest) := gcI (wd2 := wd) o (c_X2_applied (cxl x) o.2.2.2.2.2.2.2.2.2.1 p0 p1 p2 p3 p4 t ht) (can_S o hd (Nat.le_of_ble_eq_true rfl) m_1103 m_56 m_1102 hlk yk_X2_applied rfl hr hk dg) sp_none (fun E h => by cases h) (fun r h => by cases h; exact kk)
def rt_X2_doesPreserve (x : Cx) (a : Nat → Nat) (u : St) (t : Int32) : Prop := RetI x cX2_doesPreserve .boolean 0 0 (wM a u (cxT x)) t
set_option maxRecDepth 20000 in
set_option maxHeartbeats 2000000 in
theorem b_X2_doesPreserve_L98 {x : Cx} (o : Ok x cX2_doesPreserve 9 RX2 2 0 0) {k n : Nat} (hk : k ≤ 0) (hn : n ≤ 0) (a : Nat → Nat) (u : St) (c1 : Int32) (c2 : Int32) (c4 : Int32) (c5 : Int32) (c6 : Int32) (c7 : Int32) (r : (Int32) ⊕ (Int32)) (hX : ∀ s : Int32, r = .inl s → G x 9 k n (wM a u (cxT x)) [(1, .int c1), (2, .int c2), (4, .int c4), (5, .int c5), (6, .int c6), (7, .int c7)] 160 []) (hR : ∀ t, r = .inr t → rt_X2_doesPreserve x a u t) : ∀ (m : Nat) (s : Int32), loopN (f_X2_doesPreserve_s98 u c1 c2 c4 c5 c6 c7) m s = some r → G x 9 k n (wM a u (cxT x)) [(1, .int c1), (2, .int c2), (4, .int c4), (5, .int c5), (6, .int c6), (7, .int c7), (8, .int s)] 98 [] := by
  refine loop_W _ (fun (s : Int32) => G x 9 k n (wM a u (cxT x)) [(1, .int c1), (2, .int c2), (4, .int c4), (5, .int c5), (6, .int c6), (7, .int c7), (8, .int s)] 98 []) r ?_
  intro s ww hf hw
  unfold f_X2_doesPreserve_s98 at hf
  refine g_iload o 6 rfl dX2_doesPreserve_98 ?_
  refine g_iload_n o 0 rfl rfl dX2_doesPreserve_100 ?_
  refine g_iconst o ic_2 dX2_doesPreserve_101 ?_
  refine g_ic_le (tgt := 110) o rfl dX2_doesPreserve_102 hf (fun hc hf => ?_) (fun hc hf => ?_)
  · refine g_iconst o ic_0 dX2_doesPreserve_110 ?_
    refine g_ic_gt (tgt := 160) o rfl dX2_doesPreserve_111 hf (fun hc hf => ?_) (fun hc hf => ?_)
    · exact g_perm [0, 1, 2, 3, 4, 5] rfl (hX _ (lf_x hf hw))
    · refine g_iload_n o 0 rfl rfl dX2_doesPreserve_114 ?_
      refine g_iconst o ic_3 dX2_doesPreserve_115 ?_
      refine g_ic_lt (tgt := 130) o rfl dX2_doesPreserve_116 hf (fun hc hf => ?_) (fun hc hf => ?_)
      · refine g_iload o 3 rfl dX2_doesPreserve_130 ?_
        refine g_iload_n o 0 rfl rfl dX2_doesPreserve_132 ?_
        refine g_iload_n o 1 rfl rfl dX2_doesPreserve_133 ?_
        refine g_iload o 4 rfl dX2_doesPreserve_134 ?_
        refine g_iload o 5 rfl dX2_doesPreserve_136 ?_
        refine g_iload o 6 rfl dX2_doesPreserve_138 ?_
        obtain ⟨r3, hr3, hf⟩ := bd_some hf
        refine k_X2_applied_ o hr3 m_1101 (Nat.le_of_ble_eq_true rfl) (Nat.le_of_ble_eq_true rfl) ⟨hk, hn⟩ dX2_doesPreserve_140 ?_
        refine g_iload o 2 rfl dX2_doesPreserve_143 ?_
        refine g_iand o dX2_doesPreserve_145 ?_
        refine g_ishr o dX2_doesPreserve_146 ?_
        refine g_iconst o ic_1 dX2_doesPreserve_147 ?_
        refine g_iand o dX2_doesPreserve_148 ?_
        refine g_if_ne (tgt := 154) o rfl dX2_doesPreserve_149 hf (fun hc hf => ?_) (fun hc hf => ?_)
        · refine g_iinc o [(8, .int (s + 1)), (1, .int c1), (2, .int c2), (4, .int c4), (5, .int c5), (6, .int c6), (7, .int c7)] 6 rfl (inc_1 _) (Nat.le_of_ble_eq_true rfl) rfl dX2_doesPreserve_154 ?_
          refine g_goto (tgt := 98) o rfl dX2_doesPreserve_157 ?_
          have hp := lf_c hf hw
          exact g_perm [1, 2, 3, 4, 5, 6, 0] rfl hp
        · refine g_iconst o ic_0 dX2_doesPreserve_152 ?_
          exact g_iret (hR _ (lf_x hf hw)) hk hn nb_0 dX2_doesPreserve_153
      · refine g_iload o 3 rfl dX2_doesPreserve_119 ?_
        refine g_iload o 6 rfl dX2_doesPreserve_121 ?_
        refine g_ishr o dX2_doesPreserve_123 ?_
        refine g_iconst o ic_1 dX2_doesPreserve_124 ?_
        refine g_iand o dX2_doesPreserve_125 ?_
        refine g_iconst o ic_1 dX2_doesPreserve_126 ?_
        refine g_ic_ne (tgt := 154) o rfl dX2_doesPreserve_127 hf (fun hc hf => ?_) (fun hc hf => ?_)
        · refine g_iinc o [(8, .int (s + 1)), (1, .int c1), (2, .int c2), (4, .int c4), (5, .int c5), (6, .int c6), (7, .int c7)] 6 rfl (inc_1 _) (Nat.le_of_ble_eq_true rfl) rfl dX2_doesPreserve_154 ?_
          refine g_goto (tgt := 98) o rfl dX2_doesPreserve_157 ?_
          have hp := lf_c hf hw
          exact g_perm [1, 2, 3, 4, 5, 6, 0] rfl hp
        · refine g_iload o 3 rfl dX2_doesPreserve_130 ?_
          refine g_iload_n o 0 rfl rfl dX2_doesPreserve_132 ?_
          refine g_iload_n o 1 rfl rfl dX2_doesPreserve_133 ?_
          refine g_iload o 4 rfl dX2_doesPreserve_134 ?_
          refine g_iload o 5 rfl dX2_doesPreserve_136 ?_
          refine g_iload o 6 rfl dX2_doesPreserve_138 ?_
          obtain ⟨r4, hr4, hf⟩ := bd_some hf
          refine k_X2_applied_ o hr4 m_1101 (Nat.le_of_ble_eq_true rfl) (Nat.le_of_ble_eq_true rfl) ⟨hk, hn⟩ dX2_doesPreserve_140 ?_
          refine g_iload o 2 rfl dX2_doesPreserve_143 ?_
          refine g_iand o dX2_doesPreserve_145 ?_
          refine g_ishr o dX2_doesPreserve_146 ?_
          refine g_iconst o ic_1 dX2_doesPreserve_147 ?_
          refine g_iand o dX2_doesPreserve_148 ?_
          refine g_if_ne (tgt := 154) o rfl dX2_doesPreserve_149 hf (fun hc hf => ?_) (fun hc hf => ?_)
          · refine g_iinc o [(8, .int (s + 1)), (1, .int c1), (2, .int c2), (4, .int c4), (5, .int c5), (6, .int c6), (7, .int c7)] 6 rfl (inc_1 _) (Nat.le_of_ble_eq_true rfl) rfl dX2_doesPreserve_154 ?_
            refine g_goto (tgt := 98) o rfl dX2_doesPreserve_157 ?_
            have hp := lf_c hf hw
            exact g_perm [1, 2, 3, 4, 5, 6, 0] rfl hp
          · refine g_iconst o ic_0 dX2_doesPreserve_152 ?_
            exact g_iret (hR _ (lf_x hf hw)) hk hn nb_0 dX2_doesPreserve_153
  · refine g_iload o 2 rfl dX2_doesPreserve_105 ?_
    refine g_goto (tgt := 111) o rfl dX2_doesPreserve_107 ?_
    refine g_ic_gt (tgt := 160) o rfl dX2_doesPreserve_111 hf (fun hc hf => ?_) (fun hc hf => ?_)
    · exact g_perm [0, 1, 2, 3, 4, 5] rfl (hX _ (lf_x hf hw))
    · refine g_iload_n o 0 rfl rfl dX2_doesPreserve_114 ?_
      refine g_iconst o ic_3 dX2_doesPreserve_115 ?_
      refine g_ic_lt (tgt := 130) o rfl dX2_doesPreserve_116 hf (fun hc hf => ?_) (fun hc hf => ?_)
      · refine g_iload o 3 rfl dX2_doesPreserve_130 ?_
        refine g_iload_n o 0 rfl rfl dX2_doesPreserve_132 ?_
        refine g_iload_n o 1 rfl rfl dX2_doesPreserve_133 ?_
        refine g_iload o 4 rfl dX2_doesPreserve_134 ?_
        refine g_iload o 5 rfl dX2_doesPreserve_136 ?_
        refine g_iload o 6 rfl dX2_doesPreserve_138 ?_
        obtain ⟨r5, hr5, hf⟩ := bd_some hf
        refine k_X2_applied_ o hr5 m_1101 (Nat.le_of_ble_eq_true rfl) (Nat.le_of_ble_eq_true rfl) ⟨hk, hn⟩ dX2_doesPreserve_140 ?_
        refine g_iload o 2 rfl dX2_doesPreserve_143 ?_
        refine g_iand o dX2_doesPreserve_145 ?_
        refine g_ishr o dX2_doesPreserve_146 ?_
        refine g_iconst o ic_1 dX2_doesPreserve_147 ?_
        refine g_iand o dX2_doesPreserve_148 ?_
        refine g_if_ne (tgt := 154) o rfl dX2_doesPreserve_149 hf (fun hc hf => ?_) (fun hc hf => ?_)
        · refine g_iinc o [(8, .int (s + 1)), (1, .int c1), (2, .int c2), (4, .int c4), (5, .int c5), (6, .int c6), (7, .int c7)] 6 rfl (inc_1 _) (Nat.le_of_ble_eq_true rfl) rfl dX2_doesPreserve_154 ?_
          refine g_goto (tgt := 98) o rfl dX2_doesPreserve_157 ?_
          have hp := lf_c hf hw
          exact g_perm [1, 2, 3, 4, 5, 6, 0] rfl hp
        · refine g_iconst o ic_0 dX2_doesPreserve_152 ?_
          exact g_iret (hR _ (lf_x hf hw)) hk hn nb_0 dX2_doesPreserve_153
      · refine g_iload o 3 rfl dX2_doesPreserve_119 ?_
        refine g_iload o 6 rfl dX2_doesPreserve_121 ?_
        refine g_ishr o dX2_doesPreserve_123 ?_
        refine g_iconst o ic_1 dX2_doesPreserve_124 ?_
        refine g_iand o dX2_doesPreserve_125 ?_
        refine g_iconst o ic_1 dX2_doesPreserve_126 ?_
        refine g_ic_ne (tgt := 154) o rfl dX2_doesPreserve_127 hf (fun hc hf => ?_) (fun hc hf => ?_)
        · refine g_iinc o [(8, .int (s + 1)), (1, .int c1), (2, .int c2), (4, .int c4), (5, .int c5), (6, .int c6), (7, .int c7)] 6 rfl (inc_1 _) (Nat.le_of_ble_eq_true rfl) rfl dX2_doesPreserve_154 ?_
          refine g_goto (tgt := 98) o rfl dX2_doesPreserve_157 ?_
          have hp := lf_c hf hw
          exact g_perm [1, 2, 3, 4, 5, 6, 0] rfl hp
        · refine g_iload o 3 rfl dX2_doesPreserve_130 ?_
          refine g_iload_n o 0 rfl rfl dX2_doesPreserve_132 ?_
          refine g_iload_n o 1 rfl rfl dX2_doesPreserve_133 ?_
          refine g_iload o 4 rfl dX2_doesPreserve_134 ?_
          refine g_iload o 5 rfl dX2_doesPreserve_136 ?_
          refine g_iload o 6 rfl dX2_doesPreserve_138 ?_
          obtain ⟨r6, hr6, hf⟩ := bd_some hf
          refine k_X2_applied_ o hr6 m_1101 (Nat.le_of_ble_eq_true rfl) (Nat.le_of_ble_eq_true rfl) ⟨hk, hn⟩ dX2_doesPreserve_140 ?_
          refine g_iload o 2 rfl dX2_doesPreserve_143 ?_
          refine g_iand o dX2_doesPreserve_145 ?_
          refine g_ishr o dX2_doesPreserve_146 ?_
          refine g_iconst o ic_1 dX2_doesPreserve_147 ?_
          refine g_iand o dX2_doesPreserve_148 ?_
          refine g_if_ne (tgt := 154) o rfl dX2_doesPreserve_149 hf (fun hc hf => ?_) (fun hc hf => ?_)
          · refine g_iinc o [(8, .int (s + 1)), (1, .int c1), (2, .int c2), (4, .int c4), (5, .int c5), (6, .int c6), (7, .int c7)] 6 rfl (inc_1 _) (Nat.le_of_ble_eq_true rfl) rfl dX2_doesPreserve_154 ?_
            refine g_goto (tgt := 98) o rfl dX2_doesPreserve_157 ?_
            have hp := lf_c hf hw
            exact g_perm [1, 2, 3, 4, 5, 6, 0] rfl hp
          · refine g_iconst o ic_0 dX2_doesPreserve_152 ?_
            exact g_iret (hR _ (lf_x hf hw)) hk hn nb_0 dX2_doesPreserve_153
set_option maxRecDepth 20000 in
set_option maxHeartbeats 2000000 in
theorem b_X2_doesPreserve_L61 {x : Cx} (o : Ok x cX2_doesPreserve 9 RX2 2 0 0) {k n : Nat} (hk : k ≤ 0) (hn : n ≤ 0) (a : Nat → Nat) (u : St) (c1 : Int32) (c2 : Int32) (c4 : Int32) (c5 : Int32) (c6 : Int32) (r : (Int32) ⊕ (Int32)) (hX : ∀ s : Int32, r = .inl s → G x 9 k n (wM a u (cxT x)) [(1, .int c1), (2, .int c2), (4, .int c4), (5, .int c5), (6, .int c6)] 166 []) (hR : ∀ t, r = .inr t → rt_X2_doesPreserve x a u t) : ∀ (m : Nat) (s : Int32), loopN (f_X2_doesPreserve_s61 u c1 c2 c4 c5 c6) m s = some r → G x 9 k n (wM a u (cxT x)) [(1, .int c1), (2, .int c2), (4, .int c4), (5, .int c5), (6, .int c6), (7, .int s)] 61 [] := by
  refine loop_W _ (fun (s : Int32) => G x 9 k n (wM a u (cxT x)) [(1, .int c1), (2, .int c2), (4, .int c4), (5, .int c5), (6, .int c6), (7, .int s)] 61 []) r ?_
  intro s ww hf hw
  unfold f_X2_doesPreserve_s61 at hf
  refine g_iload o 5 rfl dX2_doesPreserve_61 ?_
  refine g_iload_n o 0 rfl rfl dX2_doesPreserve_63 ?_
  refine g_iconst o ic_1 dX2_doesPreserve_64 ?_
  refine g_ic_le (tgt := 73) o rfl dX2_doesPreserve_65 hf (fun hc hf => ?_) (fun hc hf => ?_)
  · refine g_iconst o ic_0 dX2_doesPreserve_73 ?_
    refine g_ic_gt (tgt := 166) o rfl dX2_doesPreserve_74 hf (fun hc hf => ?_) (fun hc hf => ?_)
    · exact g_perm [0, 1, 2, 3, 4] rfl (hX _ (lf_x hf hw))
    · refine g_iload_n o 0 rfl rfl dX2_doesPreserve_77 ?_
      refine g_iconst o ic_1 dX2_doesPreserve_78 ?_
      refine g_ic_le (tgt := 95) o rfl dX2_doesPreserve_79 hf (fun hc hf => ?_) (fun hc hf => ?_)
      · refine g_iconst o ic_0 dX2_doesPreserve_95 ?_
        refine g_istore o [(8, .int 0), (1, .int c1), (2, .int c2), (4, .int c4), (5, .int c5), (6, .int c6), (7, .int s)] (Nat.le_of_ble_eq_true rfl) rfl dX2_doesPreserve_96 ?_
        obtain ⟨r9, hr9, hxr9, hrr9⟩ := bl_some hf
        refine g_perm [1, 2, 3, 4, 5, 6, 0] rfl (b_X2_doesPreserve_L98 o hk hn a u c1 c2 c4 c5 c6 s r9 (fun s98_7 hs => ?_) (fun t8 ht => ?_) FU 0 hr9)
        · have hf := hxr9 s98_7 hs
          refine g_iinc o [(7, .int (s + 1)), (1, .int c1), (2, .int c2), (4, .int c4), (5, .int c5), (6, .int c6)] 5 rfl (inc_1 _) (Nat.le_of_ble_eq_true rfl) rfl dX2_doesPreserve_160 ?_
          refine g_goto (tgt := 61) o rfl dX2_doesPreserve_163 ?_
          have hp := lf_c hf hw
          exact g_perm [1, 2, 3, 4, 5, 0] rfl hp
        · have hf := hrr9 t8 ht
          exact hR t8 (lf_x hf hw)
      · refine g_iload o 3 rfl dX2_doesPreserve_82 ?_
        refine g_iload o 5 rfl dX2_doesPreserve_84 ?_
        refine g_ishr o dX2_doesPreserve_86 ?_
        refine g_iconst o ic_1 dX2_doesPreserve_87 ?_
        refine g_iand o dX2_doesPreserve_88 ?_
        refine g_if_ne (tgt := 95) o rfl dX2_doesPreserve_89 hf (fun hc hf => ?_) (fun hc hf => ?_)
        · refine g_iconst o ic_0 dX2_doesPreserve_95 ?_
          refine g_istore o [(8, .int 0), (1, .int c1), (2, .int c2), (4, .int c4), (5, .int c5), (6, .int c6), (7, .int s)] (Nat.le_of_ble_eq_true rfl) rfl dX2_doesPreserve_96 ?_
          obtain ⟨r12, hr12, hxr12, hrr12⟩ := bl_some hf
          refine g_perm [1, 2, 3, 4, 5, 6, 0] rfl (b_X2_doesPreserve_L98 o hk hn a u c1 c2 c4 c5 c6 s r12 (fun s98_10 hs => ?_) (fun t11 ht => ?_) FU 0 hr12)
          · have hf := hxr12 s98_10 hs
            refine g_iinc o [(7, .int (s + 1)), (1, .int c1), (2, .int c2), (4, .int c4), (5, .int c5), (6, .int c6)] 5 rfl (inc_1 _) (Nat.le_of_ble_eq_true rfl) rfl dX2_doesPreserve_160 ?_
            refine g_goto (tgt := 61) o rfl dX2_doesPreserve_163 ?_
            have hp := lf_c hf hw
            exact g_perm [1, 2, 3, 4, 5, 0] rfl hp
          · have hf := hrr12 t11 ht
            exact hR t11 (lf_x hf hw)
        · refine g_goto (tgt := 160) o rfl dX2_doesPreserve_92 ?_
          refine g_iinc o [(7, .int (s + 1)), (1, .int c1), (2, .int c2), (4, .int c4), (5, .int c5), (6, .int c6)] 5 rfl (inc_1 _) (Nat.le_of_ble_eq_true rfl) rfl dX2_doesPreserve_160 ?_
          refine g_goto (tgt := 61) o rfl dX2_doesPreserve_163 ?_
          have hp := lf_c hf hw
          exact g_perm [1, 2, 3, 4, 5, 0] rfl hp
  · refine g_iload o 2 rfl dX2_doesPreserve_68 ?_
    refine g_goto (tgt := 74) o rfl dX2_doesPreserve_70 ?_
    refine g_ic_gt (tgt := 166) o rfl dX2_doesPreserve_74 hf (fun hc hf => ?_) (fun hc hf => ?_)
    · exact g_perm [0, 1, 2, 3, 4] rfl (hX _ (lf_x hf hw))
    · refine g_iload_n o 0 rfl rfl dX2_doesPreserve_77 ?_
      refine g_iconst o ic_1 dX2_doesPreserve_78 ?_
      refine g_ic_le (tgt := 95) o rfl dX2_doesPreserve_79 hf (fun hc hf => ?_) (fun hc hf => ?_)
      · refine g_iconst o ic_0 dX2_doesPreserve_95 ?_
        refine g_istore o [(8, .int 0), (1, .int c1), (2, .int c2), (4, .int c4), (5, .int c5), (6, .int c6), (7, .int s)] (Nat.le_of_ble_eq_true rfl) rfl dX2_doesPreserve_96 ?_
        obtain ⟨r15, hr15, hxr15, hrr15⟩ := bl_some hf
        refine g_perm [1, 2, 3, 4, 5, 6, 0] rfl (b_X2_doesPreserve_L98 o hk hn a u c1 c2 c4 c5 c6 s r15 (fun s98_13 hs => ?_) (fun t14 ht => ?_) FU 0 hr15)
        · have hf := hxr15 s98_13 hs
          refine g_iinc o [(7, .int (s + 1)), (1, .int c1), (2, .int c2), (4, .int c4), (5, .int c5), (6, .int c6)] 5 rfl (inc_1 _) (Nat.le_of_ble_eq_true rfl) rfl dX2_doesPreserve_160 ?_
          refine g_goto (tgt := 61) o rfl dX2_doesPreserve_163 ?_
          have hp := lf_c hf hw
          exact g_perm [1, 2, 3, 4, 5, 0] rfl hp
        · have hf := hrr15 t14 ht
          exact hR t14 (lf_x hf hw)
      · refine g_iload o 3 rfl dX2_doesPreserve_82 ?_
        refine g_iload o 5 rfl dX2_doesPreserve_84 ?_
        refine g_ishr o dX2_doesPreserve_86 ?_
        refine g_iconst o ic_1 dX2_doesPreserve_87 ?_
        refine g_iand o dX2_doesPreserve_88 ?_
        refine g_if_ne (tgt := 95) o rfl dX2_doesPreserve_89 hf (fun hc hf => ?_) (fun hc hf => ?_)
        · refine g_iconst o ic_0 dX2_doesPreserve_95 ?_
          refine g_istore o [(8, .int 0), (1, .int c1), (2, .int c2), (4, .int c4), (5, .int c5), (6, .int c6), (7, .int s)] (Nat.le_of_ble_eq_true rfl) rfl dX2_doesPreserve_96 ?_
          obtain ⟨r18, hr18, hxr18, hrr18⟩ := bl_some hf
          refine g_perm [1, 2, 3, 4, 5, 6, 0] rfl (b_X2_doesPreserve_L98 o hk hn a u c1 c2 c4 c5 c6 s r18 (fun s98_16 hs => ?_) (fun t17 ht => ?_) FU 0 hr18)
          · have hf := hxr18 s98_16 hs
            refine g_iinc o [(7, .int (s + 1)), (1, .int c1), (2, .int c2), (4, .int c4), (5, .int c5), (6, .int c6)] 5 rfl (inc_1 _) (Nat.le_of_ble_eq_true rfl) rfl dX2_doesPreserve_160 ?_
            refine g_goto (tgt := 61) o rfl dX2_doesPreserve_163 ?_
            have hp := lf_c hf hw
            exact g_perm [1, 2, 3, 4, 5, 0] rfl hp
          · have hf := hrr18 t17 ht
            exact hR t17 (lf_x hf hw)
        · refine g_goto (tgt := 160) o rfl dX2_doesPreserve_92 ?_
          refine g_iinc o [(7, .int (s + 1)), (1, .int c1), (2, .int c2), (4, .int c4), (5, .int c5), (6, .int c6)] 5 rfl (inc_1 _) (Nat.le_of_ble_eq_true rfl) rfl dX2_doesPreserve_160 ?_
          refine g_goto (tgt := 61) o rfl dX2_doesPreserve_163 ?_
          have hp := lf_c hf hw
          exact g_perm [1, 2, 3, 4, 5, 0] rfl hp
set_option maxRecDepth 20000 in
set_option maxHeartbeats 2000000 in
theorem b_X2_doesPreserve_L38 {x : Cx} (o : Ok x cX2_doesPreserve 9 RX2 2 0 0) {k n : Nat} (hk : k ≤ 0) (hn : n ≤ 0) (a : Nat → Nat) (u : St) (c1 : Int32) (c2 : Int32) (c4 : Int32) (c5 : Int32) (r : (Int32) ⊕ (Int32)) (hX : ∀ s : Int32, r = .inl s → G x 9 k n (wM a u (cxT x)) [] 172 []) (hR : ∀ t, r = .inr t → rt_X2_doesPreserve x a u t) : ∀ (m : Nat) (s : Int32), loopN (f_X2_doesPreserve_s38 u c1 c2 c4 c5) m s = some r → G x 9 k n (wM a u (cxT x)) [(1, .int c1), (2, .int c2), (4, .int c4), (5, .int c5), (6, .int s)] 38 [] := by
  refine loop_W _ (fun (s : Int32) => G x 9 k n (wM a u (cxT x)) [(1, .int c1), (2, .int c2), (4, .int c4), (5, .int c5), (6, .int s)] 38 []) r ?_
  intro s ww hf hw
  unfold f_X2_doesPreserve_s38 at hf
  refine g_iload o 4 rfl dX2_doesPreserve_38 ?_
  refine g_iload o 2 rfl dX2_doesPreserve_40 ?_
  refine g_ic_gt (tgt := 172) o rfl dX2_doesPreserve_42 hf (fun hc hf => ?_) (fun hc hf => ?_)
  · exact g_perm [] rfl (hX _ (lf_x hf hw))
  · refine g_iload o 3 rfl dX2_doesPreserve_45 ?_
    refine g_iload o 4 rfl dX2_doesPreserve_47 ?_
    refine g_ishr o dX2_doesPreserve_49 ?_
    refine g_iconst o ic_1 dX2_doesPreserve_50 ?_
    refine g_iand o dX2_doesPreserve_51 ?_
    refine g_if_ne (tgt := 58) o rfl dX2_doesPreserve_52 hf (fun hc hf => ?_) (fun hc hf => ?_)
    · refine g_iconst o ic_0 dX2_doesPreserve_58 ?_
      refine g_istore o [(7, .int 0), (1, .int c1), (2, .int c2), (4, .int c4), (5, .int c5), (6, .int s)] (Nat.le_of_ble_eq_true rfl) rfl dX2_doesPreserve_59 ?_
      obtain ⟨r21, hr21, hxr21, hrr21⟩ := bl_some hf
      refine g_perm [1, 2, 3, 4, 5, 0] rfl (b_X2_doesPreserve_L61 o hk hn a u c1 c2 c4 c5 s r21 (fun s61_19 hs => ?_) (fun t20 ht => ?_) FU 0 hr21)
      · have hf := hxr21 s61_19 hs
        refine g_iinc o [(6, .int (s + 1)), (1, .int c1), (2, .int c2), (4, .int c4), (5, .int c5)] 4 rfl (inc_1 _) (Nat.le_of_ble_eq_true rfl) rfl dX2_doesPreserve_166 ?_
        refine g_goto (tgt := 38) o rfl dX2_doesPreserve_169 ?_
        have hp := lf_c hf hw
        exact g_perm [1, 2, 3, 4, 0] rfl hp
      · have hf := hrr21 t20 ht
        exact hR t20 (lf_x hf hw)
    · refine g_goto (tgt := 166) o rfl dX2_doesPreserve_55 ?_
      refine g_iinc o [(6, .int (s + 1)), (1, .int c1), (2, .int c2), (4, .int c4), (5, .int c5)] 4 rfl (inc_1 _) (Nat.le_of_ble_eq_true rfl) rfl dX2_doesPreserve_166 ?_
      refine g_goto (tgt := 38) o rfl dX2_doesPreserve_169 ?_
      have hp := lf_c hf hw
      exact g_perm [1, 2, 3, 4, 0] rfl hp
set_option maxRecDepth 20000 in
set_option maxHeartbeats 2000000 in
theorem b_X2_doesPreserve {x : Cx} (o : Ok x cX2_doesPreserve 9 RX2 2 0 0) (a : Nat → Nat) (u : St) (p0 : Int32) (p1 : Int32) (p2 : Int32) (t : Int32) (hf : f_X2_doesPreserve u p0 p1 p2 = some t) (hret : rt_X2_doesPreserve x a u t) : G x 9 0 0 (wM a u (cxT x)) [(0, .ref (a 0)), (1, .int p0), (2, .int p1), (3, .int p2)] 0 [] := by
  unfold f_X2_doesPreserve at hf
  refine g_iconst o ic_1 dX2_doesPreserve_0 ?_
  refine g_aload_n o 0 rfl rfl dX2_doesPreserve_1 ?_
  refine M_get1 o m_920 dX2_doesPreserve_2 ?_
  refine g_iload_n o 3 rfl rfl dX2_doesPreserve_5 ?_
  refine M_ld1 o dX2_doesPreserve_6 hf (fun hf => ?_)
  refine g_ishl o dX2_doesPreserve_7 ?_
  refine g_iconst o ic_1 dX2_doesPreserve_8 ?_
  refine g_isub o dX2_doesPreserve_9 ?_
  refine g_nmi hf (fun x1 hf => ?_)
  refine g_istore o [(4, .int x1), (0, .ref (a 0)), (1, .int p0), (2, .int p1), (3, .int p2)] (Nat.le_of_ble_eq_true rfl) rfl dX2_doesPreserve_10 ?_
  refine g_aload_n o 1 rfl rfl dX2_doesPreserve_12 ?_
  refine M_get2 o m_921 dX2_doesPreserve_13 ?_
  refine g_iload_n o 4 rfl rfl dX2_doesPreserve_16 ?_
  refine M_ld2 o dX2_doesPreserve_17 hf (fun hf => ?_)
  refine g_nmi hf (fun x2 hf => ?_)
  refine g_istore o [(5, .int x2), (4, .int x1), (0, .ref (a 0)), (1, .int p0), (2, .int p1), (3, .int p2)] (Nat.le_of_ble_eq_true rfl) rfl dX2_doesPreserve_18 ?_
  refine g_iload o 0 rfl dX2_doesPreserve_20 ?_
  refine g_iconst o ic_1 dX2_doesPreserve_22 ?_
  refine g_iload o 1 rfl dX2_doesPreserve_23 ?_
  refine g_iconst o ic_1 dX2_doesPreserve_25 ?_
  refine g_iadd o dX2_doesPreserve_26 ?_
  refine g_ishl o dX2_doesPreserve_27 ?_
  refine g_iconst o ic_1 dX2_doesPreserve_28 ?_
  refine g_isub o dX2_doesPreserve_29 ?_
  refine g_ic_ne (tgt := 35) o rfl dX2_doesPreserve_30 hf (fun hc hf => ?_) (fun hc hf => ?_)
  · refine g_iconst o ic_0 dX2_doesPreserve_35 ?_
    refine g_istore o [(6, .int 0), (5, .int x2), (4, .int x1), (0, .ref (a 0)), (1, .int p0), (2, .int p1), (3, .int p2)] (Nat.le_of_ble_eq_true rfl) rfl dX2_doesPreserve_36 ?_
    obtain ⟨r23, hr23, hxr23, hrr23⟩ := bl_some hf
    refine g_perm [4, 5, 2, 1, 0] rfl (b_X2_doesPreserve_L38 o (Nat.le_of_ble_eq_true rfl) (Nat.le_of_ble_eq_true rfl) a u p0 p1 x1 x2 r23 (fun s38 hs => ?_) (fun t22 ht => ?_) FU 0 hr23)
    · have hf := hxr23 s38 hs
      refine g_iconst o ic_1 dX2_doesPreserve_172 ?_
      cases Option.some.inj hf
      exact g_iret hret (Nat.le_of_ble_eq_true rfl) (Nat.le_of_ble_eq_true rfl) nb_1 dX2_doesPreserve_173
    · have hf := hrr23 t22 ht
      cases Option.some.inj hf
      exact hret
  · refine g_iconst o ic_1 dX2_doesPreserve_33 ?_
    cases Option.some.inj hf
    exact g_iret hret (Nat.le_of_ble_eq_true rfl) (Nat.le_of_ble_eq_true rfl) nb_1 dX2_doesPreserve_34
theorem c_X2_doesPreserve (l : Launch) (hst : l.stackTraces = false) (a : Nat → Nat) (u : St) (p0 : Int32) (p1 : Int32) (p2 : Int32) (t : Int32) (hf : f_X2_doesPreserve u p0 p1 p2 = some t) : CoI l yX2_doesPreserve (.code yX2_doesPreserve cX2_doesPreserve 9 (some .boolean)) 2 0 0 [.ref (a 0), .int p0, .int p1, .int p2] (wM a u) (wM a u) (.inl t) := mkI hst (by decide +kernel) (Nat.le_of_ble_eq_true rfl) (fun x _ o hI hX => b_X2_doesPreserve o a u p0 p1 p2 t hf (hI _ rfl))
theorem k_X2_doesPreserve_ {x : Cx} {cc : ByteArray} {nL : Nat} {own : String} {d mc ms k n : Nat} {lv : List (Nat × Value)} {pc i : Nat} {rest : List Value} {a : Nat → Nat} {u : St} {p0 : Int32} {p1 : Int32} {p2 : Int32} (o : Ok x cc nL own d mc ms) {t : Int32} (ht : f_X2_doesPreserve u p0 p1 p2 = some t) (hlk : Cond.methodLink own i yX2_doesPreserve ∈ Ug) (hd : 2 < d) (hr : (rest.map fun v => v.category).sum ≤ 8) (hk : k + 0 ≤ mc ∧ n + 0 ≤ ms) (dg : decode cc pc = .ok (.invokevirtual i, 3)) (kk : G x nL (k + 0) (n + 0) (wM a u (cxT x)) lv (pc + 3) (.int t :: rest)) : G x nL k n (wM a u (cxT x)) lv pc (.int p2 :: .int p1 :: .int p0 :: .ref (a 0) :: rest) := gcI (wd2 := (wM a u (cxT x))) o (c_X2_doesPreserve (cxl x) o.2.2.2.2.2.2.2.2.2.1 a u p0 p1 p2 t ht) (can_V (q0 := 0) o rfl rfl hd (Nat.le_of_ble_eq_true rfl) m_1100 m_56 m_1099 m_38 hlk yk_X2_doesPreserve rfl hr hk dg) sp_M (fun E h => by cases h) (fun r h => by cases h; exact kk)
def rt_X2_preserves (x : Cx) (a : Nat → Nat) (t : Int32 × St) : Prop := RetI x cX2_preserves .boolean 0 0 (wM a t.2 (cxT x)) t.1
set_option maxRecDepth 20000 in
set_option maxHeartbeats 2000000 in
theorem b_X2_preserves {x : Cx} (o : Ok x cX2_preserves 4 RX2 3 0 0) (a : Nat → Nat) (u : St) (p0 : Int32) (p1 : Int32) (p2 : Int32) (t : Int32 × St) (hf : f_X2_preserves u p0 p1 p2 = some t) (hret : rt_X2_preserves x a t) : G x 4 0 0 (wM a u (cxT x)) [(0, .ref (a 0)), (1, .int p0), (2, .int p1), (3, .int p2)] 0 [] := by
  unfold f_X2_preserves at hf
  refine g_iload_n o 1 rfl rfl dX2_preserves_0 ?_
  refine g_iload_n o 2 rfl rfl dX2_preserves_1 ?_
  obtain ⟨r1, hr1, hf⟩ := bd_some hf
  refine k_X2_isOperation_ o hr1 m_1083 (Nat.le_of_ble_eq_true rfl) (Nat.le_of_ble_eq_true rfl) ⟨(Nat.le_of_ble_eq_true rfl), (Nat.le_of_ble_eq_true rfl)⟩ dX2_preserves_2 ?_
  refine g_if_ne (tgt := 14) o rfl dX2_preserves_5 hf (fun hc hf => ?_) (fun hc hf => ?_)
  · refine g_aload_n o 0 rfl rfl dX2_preserves_14 ?_
    refine g_iload_n o 3 rfl rfl dX2_preserves_15 ?_
    obtain ⟨r2, hr2, hf⟩ := bd_some hf
    refine k_X2_isRelation_ o hr2 m_1031 (Nat.le_of_ble_eq_true rfl) (Nat.le_of_ble_eq_true rfl) ⟨(Nat.le_of_ble_eq_true rfl), (Nat.le_of_ble_eq_true rfl)⟩ dX2_preserves_16 ?_
    refine g_if_ne (tgt := 28) o rfl dX2_preserves_19 hf (fun hc hf => ?_) (fun hc hf => ?_)
    · refine g_aload_n o 0 rfl rfl dX2_preserves_28 ?_
      refine g_iconst o ic_0 dX2_preserves_29 ?_
      refine M_put0 o m_919 dX2_preserves_30 ?_
      refine g_aload_n o 0 rfl rfl dX2_preserves_33 ?_
      refine g_iload_n o 1 rfl rfl dX2_preserves_34 ?_
      refine g_iload_n o 2 rfl rfl dX2_preserves_35 ?_
      refine g_iload_n o 3 rfl rfl dX2_preserves_36 ?_
      obtain ⟨r3, hr3, hf⟩ := bd_some hf
      refine k_X2_doesPreserve_ o hr3 m_1097 (Nat.le_of_ble_eq_true rfl) (Nat.le_of_ble_eq_true rfl) ⟨(Nat.le_of_ble_eq_true rfl), (Nat.le_of_ble_eq_true rfl)⟩ dX2_preserves_37 ?_
      obtain ⟨hb, hf⟩ := gd_some hf
      cases Option.some.inj hf
      exact g_iret hret (Nat.le_of_ble_eq_true rfl) (Nat.le_of_ble_eq_true rfl) (okB_n hb) dX2_preserves_40
    · refine g_aload_n o 0 rfl rfl dX2_preserves_22 ?_
      refine g_iconst o ic_2 dX2_preserves_23 ?_
      obtain ⟨r4, hr4, hf⟩ := bd_some hf
      refine k_X2_refuses_ o hr4 m_1093 (Nat.le_of_ble_eq_true rfl) (Nat.le_of_ble_eq_true rfl) ⟨(Nat.le_of_ble_eq_true rfl), (Nat.le_of_ble_eq_true rfl)⟩ dX2_preserves_24 ?_
      obtain ⟨hb, hf⟩ := gd_some hf
      cases Option.some.inj hf
      exact g_iret hret (Nat.le_of_ble_eq_true rfl) (Nat.le_of_ble_eq_true rfl) (okB_n hb) dX2_preserves_27
  · refine g_aload_n o 0 rfl rfl dX2_preserves_8 ?_
    refine g_iconst o ic_1 dX2_preserves_9 ?_
    obtain ⟨r5, hr5, hf⟩ := bd_some hf
    refine k_X2_refuses_ o hr5 m_1093 (Nat.le_of_ble_eq_true rfl) (Nat.le_of_ble_eq_true rfl) ⟨(Nat.le_of_ble_eq_true rfl), (Nat.le_of_ble_eq_true rfl)⟩ dX2_preserves_10 ?_
    obtain ⟨hb, hf⟩ := gd_some hf
    cases Option.some.inj hf
    exact g_iret hret (Nat.le_of_ble_eq_true rfl) (Nat.le_of_ble_eq_true rfl) (okB_n hb) dX2_preserves_13
theorem c_X2_preserves (l : Launch) (hst : l.stackTraces = false) (a : Nat → Nat) (u : St) (p0 : Int32) (p1 : Int32) (p2 : Int32) (t : Int32 × St) (hf : f_X2_preserves u p0 p1 p2 = some t) : CoI l yX2_preserves (.code yX2_preserves cX2_preserves 4 (some .boolean)) 3 0 0 [.ref (a 0), .int p0, .int p1, .int p2] (wM a u) (wM a t.2) (.inl t.1) := mkI hst (by decide +kernel) (Nat.le_of_ble_eq_true rfl) (fun x _ o hI hX => b_X2_preserves o a u p0 p1 p2 t hf (hI _ rfl))
def rt_X2_isKept (x : Cx) (a : Nat → Nat) (u : St) (t : Int32) : Prop := RetI x cX2_isKept .boolean 0 0 (wM a u (cxT x)) t
set_option maxRecDepth 20000 in
set_option maxHeartbeats 2000000 in
theorem b_X2_isKept_L2 {x : Cx} (o : Ok x cX2_isKept 4 RX2 3 0 0) {k n : Nat} (hk : k ≤ 0) (hn : n ≤ 0) (a : Nat → Nat) (u : St) (c1 : Int32) (c2 : Int32) (r : (Int32) ⊕ (Int32)) (hX : ∀ s : Int32, r = .inl s → G x 4 k n (wM a u (cxT x)) [] 28 []) (hR : ∀ t, r = .inr t → rt_X2_isKept x a u t) : ∀ (m : Nat) (s : Int32), loopN (f_X2_isKept_s2 u c1 c2) m s = some r → G x 4 k n (wM a u (cxT x)) [(0, .ref (a 0)), (1, .int c1), (2, .int c2), (3, .int s)] 2 [] := by
  refine loop_W _ (fun (s : Int32) => G x 4 k n (wM a u (cxT x)) [(0, .ref (a 0)), (1, .int c1), (2, .int c2), (3, .int s)] 2 []) r ?_
  intro s ww hf hw
  unfold f_X2_isKept_s2 at hf
  refine g_iload_n o 3 rfl rfl dX2_isKept_2 ?_
  refine g_aload_n o 0 rfl rfl dX2_isKept_3 ?_
  refine M_get3 o m_922 dX2_isKept_4 ?_
  refine g_ic_ge (tgt := 28) o rfl dX2_isKept_7 hf (fun hc hf => ?_) (fun hc hf => ?_)
  · exact g_perm [] rfl (hX _ (lf_x hf hw))
  · refine g_aload_n o 0 rfl rfl dX2_isKept_10 ?_
    refine g_iload_n o 1 rfl rfl dX2_isKept_11 ?_
    refine g_iload_n o 2 rfl rfl dX2_isKept_12 ?_
    refine g_iload_n o 3 rfl rfl dX2_isKept_13 ?_
    obtain ⟨r1, hr1, hf⟩ := bd_some hf
    refine k_X2_doesPreserve_ o hr1 m_1097 (Nat.le_of_ble_eq_true rfl) (Nat.le_of_ble_eq_true rfl) ⟨hk, hn⟩ dX2_isKept_14 ?_
    refine g_if_ne (tgt := 22) o rfl dX2_isKept_17 hf (fun hc hf => ?_) (fun hc hf => ?_)
    · refine g_iinc o [(3, .int (s + 1)), (0, .ref (a 0)), (1, .int c1), (2, .int c2)] 3 rfl (inc_1 _) (Nat.le_of_ble_eq_true rfl) rfl dX2_isKept_22 ?_
      refine g_goto (tgt := 2) o rfl dX2_isKept_25 ?_
      have hp := lf_c hf hw
      exact g_perm [1, 2, 3, 0] rfl hp
    · refine g_iconst o ic_0 dX2_isKept_20 ?_
      exact g_iret (hR _ (lf_x hf hw)) hk hn nb_0 dX2_isKept_21
set_option maxRecDepth 20000 in
set_option maxHeartbeats 2000000 in
theorem b_X2_isKept {x : Cx} (o : Ok x cX2_isKept 4 RX2 3 0 0) (a : Nat → Nat) (u : St) (p0 : Int32) (p1 : Int32) (t : Int32) (hf : f_X2_isKept u p0 p1 = some t) (hret : rt_X2_isKept x a u t) : G x 4 0 0 (wM a u (cxT x)) [(0, .ref (a 0)), (1, .int p0), (2, .int p1)] 0 [] := by
  unfold f_X2_isKept at hf
  refine g_iconst o ic_0 dX2_isKept_0 ?_
  refine g_istore_n o [(3, .int 0), (0, .ref (a 0)), (1, .int p0), (2, .int p1)] (Nat.le_of_ble_eq_true rfl) rfl rfl dX2_isKept_1 ?_
  obtain ⟨r3, hr3, hxr3, hrr3⟩ := bl_some hf
  refine g_perm [1, 2, 3, 0] rfl (b_X2_isKept_L2 o (Nat.le_of_ble_eq_true rfl) (Nat.le_of_ble_eq_true rfl) a u p0 p1 r3 (fun s2 hs => ?_) (fun t2 ht => ?_) FU 0 hr3)
  · have hf := hxr3 s2 hs
    refine g_iconst o ic_1 dX2_isKept_28 ?_
    cases Option.some.inj hf
    exact g_iret hret (Nat.le_of_ble_eq_true rfl) (Nat.le_of_ble_eq_true rfl) nb_1 dX2_isKept_29
  · have hf := hrr3 t2 ht
    cases Option.some.inj hf
    exact hret
theorem c_X2_isKept (l : Launch) (hst : l.stackTraces = false) (a : Nat → Nat) (u : St) (p0 : Int32) (p1 : Int32) (t : Int32) (hf : f_X2_isKept u p0 p1 = some t) : CoI l yX2_isKept (.code yX2_isKept cX2_isKept 4 (some .boolean)) 3 0 0 [.ref (a 0), .int p0, .int p1] (wM a u) (wM a u) (.inl t) := mkI hst (by decide +kernel) (Nat.le_of_ble_eq_true rfl) (fun x _ o hI hX => b_X2_isKept o a u p0 p1 t hf (hI _ rfl))
theorem k_X2_isKept_ {x : Cx} {cc : ByteArray} {nL : Nat} {own : String} {d mc ms k n : Nat} {lv : List (Nat × Value)} {pc i : Nat} {rest : List Value} {a : Nat → Nat} {u : St} {p0 : Int32} {p1 : Int32} (o : Ok x cc nL own d mc ms) {t : Int32} (ht : f_X2_isKept u p0 p1 = some t) (hlk : Cond.methodLink own i yX2_isKept ∈ Ug) (hd : 3 < d) (hr : (rest.map fun v => v.category).sum ≤ 8) (hk : k + 0 ≤ mc ∧ n + 0 ≤ ms) (dg : decode cc pc = .ok (.invokevirtual i, 3)) (kk : G x nL (k + 0) (n + 0) (wM a u (cxT x)) lv (pc + 3) (.int t :: rest)) : G x nL k n (wM a u (cxT x)) lv pc (.int p1 :: .int p0 :: .ref (a 0) :: rest) := gcI (wd2 := (wM a u (cxT x))) o (c_X2_isKept (cxl x) o.2.2.2.2.2.2.2.2.2.1 a u p0 p1 t ht) (can_V (q0 := 0) o rfl rfl hd (Nat.le_of_ble_eq_true rfl) m_1111 m_56 m_1110 m_39 hlk yk_X2_isKept rfl hr hk dg) sp_M (fun E h => by cases h) (fun r h => by cases h; exact kk)
def rt_X2_isPolymorphism (x : Cx) (a : Nat → Nat) (t : Int32 × St) : Prop := RetI x cX2_isPolymorphism .boolean 0 0 (wM a t.2 (cxT x)) t.1
set_option maxRecDepth 20000 in
set_option maxHeartbeats 2000000 in
theorem b_X2_isPolymorphism {x : Cx} (o : Ok x cX2_isPolymorphism 3 RX2 4 0 0) (a : Nat → Nat) (u : St) (p0 : Int32) (p1 : Int32) (t : Int32 × St) (hf : f_X2_isPolymorphism u p0 p1 = some t) (hret : rt_X2_isPolymorphism x a t) : G x 3 0 0 (wM a u (cxT x)) [(0, .ref (a 0)), (1, .int p0), (2, .int p1)] 0 [] := by
  unfold f_X2_isPolymorphism at hf
  refine g_iload_n o 1 rfl rfl dX2_isPolymorphism_0 ?_
  refine g_iload_n o 2 rfl rfl dX2_isPolymorphism_1 ?_
  obtain ⟨r1, hr1, hf⟩ := bd_some hf
  refine k_X2_isOperation_ o hr1 m_1083 (Nat.le_of_ble_eq_true rfl) (Nat.le_of_ble_eq_true rfl) ⟨(Nat.le_of_ble_eq_true rfl), (Nat.le_of_ble_eq_true rfl)⟩ dX2_isPolymorphism_2 ?_
  refine g_if_ne (tgt := 14) o rfl dX2_isPolymorphism_5 hf (fun hc hf => ?_) (fun hc hf => ?_)
  · refine g_aload_n o 0 rfl rfl dX2_isPolymorphism_14 ?_
    refine g_iconst o ic_0 dX2_isPolymorphism_15 ?_
    refine M_put0 o m_919 dX2_isPolymorphism_16 ?_
    refine g_aload_n o 0 rfl rfl dX2_isPolymorphism_19 ?_
    refine g_iload_n o 1 rfl rfl dX2_isPolymorphism_20 ?_
    refine g_iload_n o 2 rfl rfl dX2_isPolymorphism_21 ?_
    obtain ⟨r2, hr2, hf⟩ := bd_some hf
    refine k_X2_isKept_ o hr2 m_1108 (Nat.le_of_ble_eq_true rfl) (Nat.le_of_ble_eq_true rfl) ⟨(Nat.le_of_ble_eq_true rfl), (Nat.le_of_ble_eq_true rfl)⟩ dX2_isPolymorphism_22 ?_
    obtain ⟨hb, hf⟩ := gd_some hf
    cases Option.some.inj hf
    exact g_iret hret (Nat.le_of_ble_eq_true rfl) (Nat.le_of_ble_eq_true rfl) (okB_n hb) dX2_isPolymorphism_25
  · refine g_aload_n o 0 rfl rfl dX2_isPolymorphism_8 ?_
    refine g_iconst o ic_1 dX2_isPolymorphism_9 ?_
    obtain ⟨r3, hr3, hf⟩ := bd_some hf
    refine k_X2_refuses_ o hr3 m_1093 (Nat.le_of_ble_eq_true rfl) (Nat.le_of_ble_eq_true rfl) ⟨(Nat.le_of_ble_eq_true rfl), (Nat.le_of_ble_eq_true rfl)⟩ dX2_isPolymorphism_10 ?_
    obtain ⟨hb, hf⟩ := gd_some hf
    cases Option.some.inj hf
    exact g_iret hret (Nat.le_of_ble_eq_true rfl) (Nat.le_of_ble_eq_true rfl) (okB_n hb) dX2_isPolymorphism_13
theorem c_X2_isPolymorphism (l : Launch) (hst : l.stackTraces = false) (a : Nat → Nat) (u : St) (p0 : Int32) (p1 : Int32) (t : Int32 × St) (hf : f_X2_isPolymorphism u p0 p1 = some t) : CoI l yX2_isPolymorphism (.code yX2_isPolymorphism cX2_isPolymorphism 3 (some .boolean)) 4 0 0 [.ref (a 0), .int p0, .int p1] (wM a u) (wM a t.2) (.inl t.1) := mkI hst (by decide +kernel) (Nat.le_of_ble_eq_true rfl) (fun x _ o hI hX => b_X2_isPolymorphism o a u p0 p1 t hf (hI _ rfl))
def rt_X2_polymorphismCount (x : Cx) (a : Nat → Nat) (t : Int32 × St) : Prop := RetI x cX2_polymorphismCount .int 0 0 (wM a t.2 (cxT x)) t.1
set_option maxRecDepth 20000 in
set_option maxHeartbeats 2000000 in
theorem b_X2_polymorphismCount_L24 {x : Cx} (o : Ok x cX2_polymorphismCount 4 RX2 4 0 0) {k n : Nat} (hk : k ≤ 0) (hn : n ≤ 0) (a : Nat → Nat) (u : St) (c1 : Int32) (r : (Int32 × Int32) ⊕ (Int32 × St)) (hX : ∀ s : Int32 × Int32, r = .inl s → G x 4 k n (wM a u (cxT x)) [(2, .int s.1)] 56 []) (hR : ∀ t, r = .inr t → rt_X2_polymorphismCount x a t) : ∀ (m : Nat) (s : Int32 × Int32), loopN (f_X2_polymorphismCount_s24 u c1) m s = some r → G x 4 k n (wM a u (cxT x)) [(0, .ref (a 0)), (1, .int c1), (2, .int s.1), (3, .int s.2)] 24 [] := by
  refine loop_W _ (fun (s : Int32 × Int32) => G x 4 k n (wM a u (cxT x)) [(0, .ref (a 0)), (1, .int c1), (2, .int s.1), (3, .int s.2)] 24 []) r ?_
  intro s ww hf hw
  unfold f_X2_polymorphismCount_s24 at hf
  refine g_iload_n o 3 rfl rfl dX2_polymorphismCount_24 ?_
  refine g_iconst o ic_1 dX2_polymorphismCount_25 ?_
  refine g_iconst o ic_1 dX2_polymorphismCount_26 ?_
  refine g_iload_n o 1 rfl rfl dX2_polymorphismCount_27 ?_
  refine g_ishl o dX2_polymorphismCount_28 ?_
  refine g_ishl o dX2_polymorphismCount_29 ?_
  refine g_ic_ge (tgt := 56) o rfl dX2_polymorphismCount_30 hf (fun hc hf => ?_) (fun hc hf => ?_)
  · exact g_perm [2] rfl (hX _ (lf_x hf hw))
  · refine g_iload_n o 2 rfl rfl dX2_polymorphismCount_33 ?_
    refine g_aload_n o 0 rfl rfl dX2_polymorphismCount_34 ?_
    refine g_iload_n o 1 rfl rfl dX2_polymorphismCount_35 ?_
    refine g_iload_n o 3 rfl rfl dX2_polymorphismCount_36 ?_
    obtain ⟨r2, hr2, hf⟩ := bd_some hf
    refine k_X2_isKept_ o hr2 m_1108 (Nat.le_of_ble_eq_true rfl) (Nat.le_of_ble_eq_true rfl) ⟨hk, hn⟩ dX2_polymorphismCount_37 ?_
    refine g_if_eq (tgt := 47) o rfl dX2_polymorphismCount_40 hf (fun hc hf => ?_) (fun hc hf => ?_)
    · refine g_iconst o ic_0 dX2_polymorphismCount_47 ?_
      refine g_iadd o dX2_polymorphismCount_48 ?_
      refine g_nmi hf (fun x3 hf => ?_)
      refine g_istore_n o [(2, .int x3), (0, .ref (a 0)), (1, .int c1), (3, .int s.2)] (Nat.le_of_ble_eq_true rfl) rfl rfl dX2_polymorphismCount_49 ?_
      refine g_iinc o [(3, .int (s.2 + 1)), (2, .int x3), (0, .ref (a 0)), (1, .int c1)] 3 rfl (inc_1 _) (Nat.le_of_ble_eq_true rfl) rfl dX2_polymorphismCount_50 ?_
      refine g_goto (tgt := 24) o rfl dX2_polymorphismCount_53 ?_
      have hp := lf_c hf hw
      exact g_perm [2, 3, 1, 0] rfl hp
    · refine g_iconst o ic_1 dX2_polymorphismCount_43 ?_
      refine g_goto (tgt := 48) o rfl dX2_polymorphismCount_44 ?_
      refine g_iadd o dX2_polymorphismCount_48 ?_
      refine g_nmi hf (fun x4 hf => ?_)
      refine g_istore_n o [(2, .int x4), (0, .ref (a 0)), (1, .int c1), (3, .int s.2)] (Nat.le_of_ble_eq_true rfl) rfl rfl dX2_polymorphismCount_49 ?_
      refine g_iinc o [(3, .int (s.2 + 1)), (2, .int x4), (0, .ref (a 0)), (1, .int c1)] 3 rfl (inc_1 _) (Nat.le_of_ble_eq_true rfl) rfl dX2_polymorphismCount_50 ?_
      refine g_goto (tgt := 24) o rfl dX2_polymorphismCount_53 ?_
      have hp := lf_c hf hw
      exact g_perm [2, 3, 1, 0] rfl hp
set_option maxRecDepth 20000 in
set_option maxHeartbeats 2000000 in
theorem b_X2_polymorphismCount {x : Cx} (o : Ok x cX2_polymorphismCount 4 RX2 4 0 0) (a : Nat → Nat) (u : St) (p0 : Int32) (t : Int32 × St) (hf : f_X2_polymorphismCount u p0 = some t) (hret : rt_X2_polymorphismCount x a t) : G x 4 0 0 (wM a u (cxT x)) [(0, .ref (a 0)), (1, .int p0)] 0 [] := by
  unfold f_X2_polymorphismCount at hf
  refine g_iload_n o 1 rfl rfl dX2_polymorphismCount_0 ?_
  refine g_iconst o ic_1 dX2_polymorphismCount_1 ?_
  refine g_iconst o ic_3 dX2_polymorphismCount_2 ?_
  obtain ⟨r1, hr1, hf⟩ := bd_some hf
  refine k_X2_isBetween_ o hr1 m_992 (Nat.le_of_ble_eq_true rfl) (Nat.le_of_ble_eq_true rfl) ⟨(Nat.le_of_ble_eq_true rfl), (Nat.le_of_ble_eq_true rfl)⟩ dX2_polymorphismCount_3 ?_
  refine g_if_ne (tgt := 15) o rfl dX2_polymorphismCount_6 hf (fun hc hf => ?_) (fun hc hf => ?_)
  · refine g_aload_n o 0 rfl rfl dX2_polymorphismCount_15 ?_
    refine g_iconst o ic_0 dX2_polymorphismCount_16 ?_
    refine M_put0 o m_919 dX2_polymorphismCount_17 ?_
    refine g_iconst o ic_0 dX2_polymorphismCount_20 ?_
    refine g_istore_n o [(2, .int 0), (0, .ref (a 0)), (1, .int p0)] (Nat.le_of_ble_eq_true rfl) rfl rfl dX2_polymorphismCount_21 ?_
    refine g_iconst o ic_0 dX2_polymorphismCount_22 ?_
    refine g_istore_n o [(3, .int 0), (2, .int 0), (0, .ref (a 0)), (1, .int p0)] (Nat.le_of_ble_eq_true rfl) rfl rfl dX2_polymorphismCount_23 ?_
    obtain ⟨r6, hr6, hxr6, hrr6⟩ := bl_some hf
    refine g_perm [2, 3, 1, 0] rfl (b_X2_polymorphismCount_L24 o (Nat.le_of_ble_eq_true rfl) (Nat.le_of_ble_eq_true rfl) a (us u 0 0) p0 r6 (fun s24 hs => ?_) (fun t5 ht => ?_) FU (0, 0) hr6)
    · have hf := hxr6 s24 hs
      refine g_iload_n o 0 rfl rfl dX2_polymorphismCount_56 ?_
      cases Option.some.inj hf
      exact g_iret hret (Nat.le_of_ble_eq_true rfl) (Nat.le_of_ble_eq_true rfl) (vp_nar_int _) dX2_polymorphismCount_57
    · have hf := hrr6 t5 ht
      cases Option.some.inj hf
      exact hret
  · refine g_aload_n o 0 rfl rfl dX2_polymorphismCount_9 ?_
    refine g_iconst o ic_1 dX2_polymorphismCount_10 ?_
    obtain ⟨r7, hr7, hf⟩ := bd_some hf
    refine k_X2_fails_ o hr7 m_995 (Nat.le_of_ble_eq_true rfl) (Nat.le_of_ble_eq_true rfl) ⟨(Nat.le_of_ble_eq_true rfl), (Nat.le_of_ble_eq_true rfl)⟩ dX2_polymorphismCount_11 ?_
    cases Option.some.inj hf
    exact g_iret hret (Nat.le_of_ble_eq_true rfl) (Nat.le_of_ble_eq_true rfl) (vp_nar_int _) dX2_polymorphismCount_14
theorem c_X2_polymorphismCount (l : Launch) (hst : l.stackTraces = false) (a : Nat → Nat) (u : St) (p0 : Int32) (t : Int32 × St) (hf : f_X2_polymorphismCount u p0 = some t) : CoI l yX2_polymorphismCount (.code yX2_polymorphismCount cX2_polymorphismCount 4 (some .int)) 4 0 0 [.ref (a 0), .int p0] (wM a u) (wM a t.2) (.inl t.1) := mkI hst (by decide +kernel) (Nat.le_of_ble_eq_true rfl) (fun x _ o hI hX => b_X2_polymorphismCount o a u p0 t hf (hI _ rfl))
def rt_X2_polymorphism (x : Cx) (a : Nat → Nat) (t : Int32 × St) : Prop := RetI x cX2_polymorphism .int 0 0 (wM a t.2 (cxT x)) t.1
set_option maxRecDepth 20000 in
set_option maxHeartbeats 2000000 in
theorem b_X2_polymorphism_L25 {x : Cx} (o : Ok x cX2_polymorphism 5 RX2 4 0 0) {k n : Nat} (hk : k ≤ 0) (hn : n ≤ 0) (a : Nat → Nat) (u : St) (c1 : Int32) (r : (Int32 × Int32) ⊕ (Int32 × St)) (hX : ∀ s : Int32 × Int32, r = .inl s → G x 5 k n (wM a u (cxT x)) [(0, .ref (a 0))] 68 []) (hR : ∀ t, r = .inr t → rt_X2_polymorphism x a t) : ∀ (m : Nat) (s : Int32 × Int32), loopN (f_X2_polymorphism_s25 u c1) m s = some r → G x 5 k n (wM a u (cxT x)) [(0, .ref (a 0)), (1, .int c1), (3, .int s.1), (4, .int s.2)] 25 [] := by
  refine loop_W _ (fun (s : Int32 × Int32) => G x 5 k n (wM a u (cxT x)) [(0, .ref (a 0)), (1, .int c1), (3, .int s.1), (4, .int s.2)] 25 []) r ?_
  intro s ww hf hw
  unfold f_X2_polymorphism_s25 at hf
  refine g_iload o 3 rfl dX2_polymorphism_25 ?_
  refine g_iconst o ic_1 dX2_polymorphism_27 ?_
  refine g_iconst o ic_1 dX2_polymorphism_28 ?_
  refine g_iload_n o 1 rfl rfl dX2_polymorphism_29 ?_
  refine g_ishl o dX2_polymorphism_30 ?_
  refine g_ishl o dX2_polymorphism_31 ?_
  refine g_ic_ge (tgt := 68) o rfl dX2_polymorphism_32 hf (fun hc hf => ?_) (fun hc hf => ?_)
  · exact g_perm [0] rfl (hX _ (lf_x hf hw))
  · refine g_iload_n o 2 rfl rfl dX2_polymorphism_35 ?_
    refine g_if_lt (tgt := 68) o rfl dX2_polymorphism_36 hf (fun hc hf => ?_) (fun hc hf => ?_)
    · exact g_perm [0] rfl (hX _ (lf_x hf hw))
    · refine g_aload_n o 0 rfl rfl dX2_polymorphism_39 ?_
      refine g_iload_n o 1 rfl rfl dX2_polymorphism_40 ?_
      refine g_iload o 3 rfl dX2_polymorphism_41 ?_
      obtain ⟨r2, hr2, hf⟩ := bd_some hf
      refine k_X2_isKept_ o hr2 m_1108 (Nat.le_of_ble_eq_true rfl) (Nat.le_of_ble_eq_true rfl) ⟨hk, hn⟩ dX2_polymorphism_43 ?_
      refine g_if_ne (tgt := 52) o rfl dX2_polymorphism_46 hf (fun hc hf => ?_) (fun hc hf => ?_)
      · refine g_iload_n o 2 rfl rfl dX2_polymorphism_52 ?_
        refine g_if_ne (tgt := 59) o rfl dX2_polymorphism_53 hf (fun hc hf => ?_) (fun hc hf => ?_)
        · refine g_iinc o [(3, .int (s.1 + (-1))), (0, .ref (a 0)), (1, .int c1), (4, .int s.2)] 2 rfl (inc_m1 _) (Nat.le_of_ble_eq_true rfl) rfl dX2_polymorphism_59 ?_
          refine g_iinc o [(4, .int (s.2 + 1)), (3, .int (s.1 + (-1))), (0, .ref (a 0)), (1, .int c1)] 3 rfl (inc_1 _) (Nat.le_of_ble_eq_true rfl) rfl dX2_polymorphism_62 ?_
          refine g_goto (tgt := 25) o rfl dX2_polymorphism_65 ?_
          have hp := lf_c hf hw
          exact g_perm [2, 3, 1, 0] rfl hp
        · refine g_iload o 3 rfl dX2_polymorphism_56 ?_
          exact g_iret (hR _ (lf_x hf hw)) hk hn (vp_nar_int _) dX2_polymorphism_58
      · refine g_goto (tgt := 62) o rfl dX2_polymorphism_49 ?_
        refine g_iinc o [(4, .int (s.2 + 1)), (0, .ref (a 0)), (1, .int c1), (3, .int s.1)] 3 rfl (inc_1 _) (Nat.le_of_ble_eq_true rfl) rfl dX2_polymorphism_62 ?_
        refine g_goto (tgt := 25) o rfl dX2_polymorphism_65 ?_
        have hp := lf_c hf hw
        exact g_perm [1, 2, 3, 0] rfl hp
set_option maxRecDepth 20000 in
set_option maxHeartbeats 2000000 in
theorem b_X2_polymorphism {x : Cx} (o : Ok x cX2_polymorphism 5 RX2 4 0 0) (a : Nat → Nat) (u : St) (p0 : Int32) (p1 : Int32) (t : Int32 × St) (hf : f_X2_polymorphism u p0 p1 = some t) (hret : rt_X2_polymorphism x a t) : G x 5 0 0 (wM a u (cxT x)) [(0, .ref (a 0)), (1, .int p0), (2, .int p1)] 0 [] := by
  unfold f_X2_polymorphism at hf
  refine g_iload_n o 1 rfl rfl dX2_polymorphism_0 ?_
  refine g_iconst o ic_1 dX2_polymorphism_1 ?_
  refine g_iconst o ic_3 dX2_polymorphism_2 ?_
  obtain ⟨r1, hr1, hf⟩ := bd_some hf
  refine k_X2_isBetween_ o hr1 m_992 (Nat.le_of_ble_eq_true rfl) (Nat.le_of_ble_eq_true rfl) ⟨(Nat.le_of_ble_eq_true rfl), (Nat.le_of_ble_eq_true rfl)⟩ dX2_polymorphism_3 ?_
  refine g_if_ne (tgt := 15) o rfl dX2_polymorphism_6 hf (fun hc hf => ?_) (fun hc hf => ?_)
  · refine g_aload_n o 0 rfl rfl dX2_polymorphism_15 ?_
    refine g_iconst o ic_0 dX2_polymorphism_16 ?_
    refine M_put0 o m_919 dX2_polymorphism_17 ?_
    refine g_iload_n o 2 rfl rfl dX2_polymorphism_20 ?_
    refine g_istore_n o [(3, .int p1), (0, .ref (a 0)), (1, .int p0), (2, .int p1)] (Nat.le_of_ble_eq_true rfl) rfl rfl dX2_polymorphism_21 ?_
    refine g_iconst o ic_0 dX2_polymorphism_22 ?_
    refine g_istore o [(4, .int 0), (3, .int p1), (0, .ref (a 0)), (1, .int p0), (2, .int p1)] (Nat.le_of_ble_eq_true rfl) rfl dX2_polymorphism_23 ?_
    obtain ⟨r4, hr4, hxr4, hrr4⟩ := bl_some hf
    refine g_perm [2, 3, 1, 0] rfl (b_X2_polymorphism_L25 o (Nat.le_of_ble_eq_true rfl) (Nat.le_of_ble_eq_true rfl) a (us u 0 0) p0 r4 (fun s25 hs => ?_) (fun t3 ht => ?_) FU (p1, 0) hr4)
    · have hf := hxr4 s25 hs
      refine g_aload_n o 0 rfl rfl dX2_polymorphism_68 ?_
      refine g_iconst o ic_2 dX2_polymorphism_69 ?_
      obtain ⟨r5, hr5, hf⟩ := bd_some hf
      refine k_X2_fails_ o hr5 m_995 (Nat.le_of_ble_eq_true rfl) (Nat.le_of_ble_eq_true rfl) ⟨(Nat.le_of_ble_eq_true rfl), (Nat.le_of_ble_eq_true rfl)⟩ dX2_polymorphism_70 ?_
      cases Option.some.inj hf
      exact g_iret hret (Nat.le_of_ble_eq_true rfl) (Nat.le_of_ble_eq_true rfl) (vp_nar_int _) dX2_polymorphism_73
    · have hf := hrr4 t3 ht
      cases Option.some.inj hf
      exact hret
  · refine g_aload_n o 0 rfl rfl dX2_polymorphism_9 ?_
    refine g_iconst o ic_1 dX2_polymorphism_10 ?_
    obtain ⟨r6, hr6, hf⟩ := bd_some hf
    refine k_X2_fails_ o hr6 m_995 (Nat.le_of_ble_eq_true rfl) (Nat.le_of_ble_eq_true rfl) ⟨(Nat.le_of_ble_eq_true rfl), (Nat.le_of_ble_eq_true rfl)⟩ dX2_polymorphism_11 ?_
    cases Option.some.inj hf
    exact g_iret hret (Nat.le_of_ble_eq_true rfl) (Nat.le_of_ble_eq_true rfl) (vp_nar_int _) dX2_polymorphism_14
theorem c_X2_polymorphism (l : Launch) (hst : l.stackTraces = false) (a : Nat → Nat) (u : St) (p0 : Int32) (p1 : Int32) (t : Int32 × St) (hf : f_X2_polymorphism u p0 p1 = some t) : CoI l yX2_polymorphism (.code yX2_polymorphism cX2_polymorphism 5 (some .int)) 4 0 0 [.ref (a 0), .int p0, .int p1] (wM a u) (wM a t.2) (.inl t.1) := mkI hst (by decide +kernel) (Nat.le_of_ble_eq_true rfl) (fun x _ o hI hX => b_X2_polymorphism o a u p0 p1 t hf (hI _ rfl))
def rt_X2_isIdempotent (x : Cx) (a : Nat → Nat) (t : Int32 × St) : Prop := RetI x cX2_isIdempotent .boolean 0 0 (wM a t.2 (cxT x)) t.1
set_option maxRecDepth 20000 in
set_option maxHeartbeats 2000000 in
theorem b_X2_isIdempotent {x : Cx} (o : Ok x cX2_isIdempotent 3 RX2 2 0 0) (a : Nat → Nat) (u : St) (p0 : Int32) (p1 : Int32) (t : Int32 × St) (hf : f_X2_isIdempotent u p0 p1 = some t) (hret : rt_X2_isIdempotent x a t) : G x 3 0 0 (wM a u (cxT x)) [(0, .ref (a 0)), (1, .int p0), (2, .int p1)] 0 [] := by
  unfold f_X2_isIdempotent at hf
  refine g_iload_n o 1 rfl rfl dX2_isIdempotent_0 ?_
  refine g_iload_n o 2 rfl rfl dX2_isIdempotent_1 ?_
  obtain ⟨r1, hr1, hf⟩ := bd_some hf
  refine k_X2_isOperation_ o hr1 m_1083 (Nat.le_of_ble_eq_true rfl) (Nat.le_of_ble_eq_true rfl) ⟨(Nat.le_of_ble_eq_true rfl), (Nat.le_of_ble_eq_true rfl)⟩ dX2_isIdempotent_2 ?_
  refine g_if_ne (tgt := 14) o rfl dX2_isIdempotent_5 hf (fun hc hf => ?_) (fun hc hf => ?_)
  · refine g_aload_n o 0 rfl rfl dX2_isIdempotent_14 ?_
    refine g_iconst o ic_0 dX2_isIdempotent_15 ?_
    refine M_put0 o m_919 dX2_isIdempotent_16 ?_
    refine g_iload_n o 2 rfl rfl dX2_isIdempotent_19 ?_
    refine g_iconst o ic_1 dX2_isIdempotent_20 ?_
    refine g_iand o dX2_isIdempotent_21 ?_
    refine g_if_ne (tgt := 42) o rfl dX2_isIdempotent_22 hf (fun hc hf => ?_) (fun hc hf => ?_)
    · refine g_iconst o ic_0 dX2_isIdempotent_42 ?_
      cases Option.some.inj hf
      exact g_iret hret (Nat.le_of_ble_eq_true rfl) (Nat.le_of_ble_eq_true rfl) nb_0 dX2_isIdempotent_43
    · refine g_iload_n o 2 rfl rfl dX2_isIdempotent_25 ?_
      refine g_iconst o ic_1 dX2_isIdempotent_26 ?_
      refine g_iload_n o 1 rfl rfl dX2_isIdempotent_27 ?_
      refine g_ishl o dX2_isIdempotent_28 ?_
      refine g_iconst o ic_1 dX2_isIdempotent_29 ?_
      refine g_isub o dX2_isIdempotent_30 ?_
      refine g_ishr o dX2_isIdempotent_31 ?_
      refine g_iconst o ic_1 dX2_isIdempotent_32 ?_
      refine g_iand o dX2_isIdempotent_33 ?_
      refine g_iconst o ic_1 dX2_isIdempotent_34 ?_
      refine g_ic_ne (tgt := 42) o rfl dX2_isIdempotent_35 hf (fun hc hf => ?_) (fun hc hf => ?_)
      · refine g_iconst o ic_0 dX2_isIdempotent_42 ?_
        cases Option.some.inj hf
        exact g_iret hret (Nat.le_of_ble_eq_true rfl) (Nat.le_of_ble_eq_true rfl) nb_0 dX2_isIdempotent_43
      · refine g_iconst o ic_1 dX2_isIdempotent_38 ?_
        refine g_goto (tgt := 43) o rfl dX2_isIdempotent_39 ?_
        cases Option.some.inj hf
        exact g_iret hret (Nat.le_of_ble_eq_true rfl) (Nat.le_of_ble_eq_true rfl) nb_1 dX2_isIdempotent_43
  · refine g_aload_n o 0 rfl rfl dX2_isIdempotent_8 ?_
    refine g_iconst o ic_1 dX2_isIdempotent_9 ?_
    obtain ⟨r2, hr2, hf⟩ := bd_some hf
    refine k_X2_refuses_ o hr2 m_1093 (Nat.le_of_ble_eq_true rfl) (Nat.le_of_ble_eq_true rfl) ⟨(Nat.le_of_ble_eq_true rfl), (Nat.le_of_ble_eq_true rfl)⟩ dX2_isIdempotent_10 ?_
    obtain ⟨hb, hf⟩ := gd_some hf
    cases Option.some.inj hf
    exact g_iret hret (Nat.le_of_ble_eq_true rfl) (Nat.le_of_ble_eq_true rfl) (okB_n hb) dX2_isIdempotent_13
theorem c_X2_isIdempotent (l : Launch) (hst : l.stackTraces = false) (a : Nat → Nat) (u : St) (p0 : Int32) (p1 : Int32) (t : Int32 × St) (hf : f_X2_isIdempotent u p0 p1 = some t) : CoI l yX2_isIdempotent (.code yX2_isIdempotent cX2_isIdempotent 3 (some .boolean)) 2 0 0 [.ref (a 0), .int p0, .int p1] (wM a u) (wM a t.2) (.inl t.1) := mkI hst (by decide +kernel) (Nat.le_of_ble_eq_true rfl) (fun x _ o hI hX => b_X2_isIdempotent o a u p0 p1 t hf (hI _ rfl))
def rt_X2_isMonotone (x : Cx) (a : Nat → Nat) (t : Int32 × St) : Prop := RetI x cX2_isMonotone .boolean 0 0 (wM a t.2 (cxT x)) t.1
set_option maxRecDepth 20000 in
set_option maxHeartbeats 2000000 in
theorem b_X2_isMonotone_L31 {x : Cx} (o : Ok x cX2_isMonotone 5 RX2 2 0 0) {k n : Nat} (hk : k ≤ 0) (hn : n ≤ 0) (a : Nat → Nat) (u : St) (c1 : Int32) (c2 : Int32) (c3 : Int32) (r : (Int32) ⊕ (Int32 × St)) (hX : ∀ s : Int32, r = .inl s → G x 5 k n (wM a u (cxT x)) [(1, .int c1), (2, .int c2), (3, .int c3)] 72 []) (hR : ∀ t, r = .inr t → rt_X2_isMonotone x a t) : ∀ (m : Nat) (s : Int32), loopN (f_X2_isMonotone_s31 u c1 c2 c3) m s = some r → G x 5 k n (wM a u (cxT x)) [(1, .int c1), (2, .int c2), (3, .int c3), (4, .int s)] 31 [] := by
  refine loop_W _ (fun (s : Int32) => G x 5 k n (wM a u (cxT x)) [(1, .int c1), (2, .int c2), (3, .int c3), (4, .int s)] 31 []) r ?_
  intro s ww hf hw
  unfold f_X2_isMonotone_s31 at hf
  refine g_iload o 3 rfl dX2_isMonotone_31 ?_
  refine g_iload_n o 0 rfl rfl dX2_isMonotone_33 ?_
  refine g_ic_ge (tgt := 72) o rfl dX2_isMonotone_34 hf (fun hc hf => ?_) (fun hc hf => ?_)
  · exact g_perm [0, 1, 2] rfl (hX _ (lf_x hf hw))
  · refine g_iload_n o 2 rfl rfl dX2_isMonotone_37 ?_
    refine g_iload o 3 rfl dX2_isMonotone_38 ?_
    refine g_ishr o dX2_isMonotone_40 ?_
    refine g_iconst o ic_1 dX2_isMonotone_41 ?_
    refine g_iand o dX2_isMonotone_42 ?_
    refine g_if_ne (tgt := 66) o rfl dX2_isMonotone_43 hf (fun hc hf => ?_) (fun hc hf => ?_)
    · refine g_iinc o [(4, .int (s + 1)), (1, .int c1), (2, .int c2), (3, .int c3)] 3 rfl (inc_1 _) (Nat.le_of_ble_eq_true rfl) rfl dX2_isMonotone_66 ?_
      refine g_goto (tgt := 31) o rfl dX2_isMonotone_69 ?_
      have hp := lf_c hf hw
      exact g_perm [1, 2, 3, 0] rfl hp
    · refine g_iload_n o 1 rfl rfl dX2_isMonotone_46 ?_
      refine g_iload_n o 2 rfl rfl dX2_isMonotone_47 ?_
      refine g_ishr o dX2_isMonotone_48 ?_
      refine g_iconst o ic_1 dX2_isMonotone_49 ?_
      refine g_iand o dX2_isMonotone_50 ?_
      refine g_iload_n o 1 rfl rfl dX2_isMonotone_51 ?_
      refine g_iload_n o 2 rfl rfl dX2_isMonotone_52 ?_
      refine g_iconst o ic_1 dX2_isMonotone_53 ?_
      refine g_iload o 3 rfl dX2_isMonotone_54 ?_
      refine g_ishl o dX2_isMonotone_56 ?_
      refine g_ior o dX2_isMonotone_57 ?_
      refine g_ishr o dX2_isMonotone_58 ?_
      refine g_iconst o ic_1 dX2_isMonotone_59 ?_
      refine g_iand o dX2_isMonotone_60 ?_
      refine g_ic_le (tgt := 66) o rfl dX2_isMonotone_61 hf (fun hc hf => ?_) (fun hc hf => ?_)
      · refine g_iinc o [(4, .int (s + 1)), (1, .int c1), (2, .int c2), (3, .int c3)] 3 rfl (inc_1 _) (Nat.le_of_ble_eq_true rfl) rfl dX2_isMonotone_66 ?_
        refine g_goto (tgt := 31) o rfl dX2_isMonotone_69 ?_
        have hp := lf_c hf hw
        exact g_perm [1, 2, 3, 0] rfl hp
      · refine g_iconst o ic_0 dX2_isMonotone_64 ?_
        exact g_iret (hR _ (lf_x hf hw)) hk hn nb_0 dX2_isMonotone_65
set_option maxRecDepth 20000 in
set_option maxHeartbeats 2000000 in
theorem b_X2_isMonotone_L21 {x : Cx} (o : Ok x cX2_isMonotone 5 RX2 2 0 0) {k n : Nat} (hk : k ≤ 0) (hn : n ≤ 0) (a : Nat → Nat) (u : St) (c1 : Int32) (c2 : Int32) (r : (Int32) ⊕ (Int32 × St)) (hX : ∀ s : Int32, r = .inl s → G x 5 k n (wM a u (cxT x)) [] 78 []) (hR : ∀ t, r = .inr t → rt_X2_isMonotone x a t) : ∀ (m : Nat) (s : Int32), loopN (f_X2_isMonotone_s21 u c1 c2) m s = some r → G x 5 k n (wM a u (cxT x)) [(1, .int c1), (2, .int c2), (3, .int s)] 21 [] := by
  refine loop_W _ (fun (s : Int32) => G x 5 k n (wM a u (cxT x)) [(1, .int c1), (2, .int c2), (3, .int s)] 21 []) r ?_
  intro s ww hf hw
  unfold f_X2_isMonotone_s21 at hf
  refine g_iload_n o 2 rfl rfl dX2_isMonotone_21 ?_
  refine g_iconst o ic_1 dX2_isMonotone_22 ?_
  refine g_iload_n o 0 rfl rfl dX2_isMonotone_23 ?_
  refine g_ishl o dX2_isMonotone_24 ?_
  refine g_ic_ge (tgt := 78) o rfl dX2_isMonotone_25 hf (fun hc hf => ?_) (fun hc hf => ?_)
  · exact g_perm [] rfl (hX _ (lf_x hf hw))
  · refine g_iconst o ic_0 dX2_isMonotone_28 ?_
    refine g_istore o [(4, .int 0), (1, .int c1), (2, .int c2), (3, .int s)] (Nat.le_of_ble_eq_true rfl) rfl dX2_isMonotone_29 ?_
    obtain ⟨r4, hr4, hxr4, hrr4⟩ := bl_some hf
    refine g_perm [1, 2, 3, 0] rfl (b_X2_isMonotone_L31 o hk hn a u c1 c2 s r4 (fun s31_2 hs => ?_) (fun t3 ht => ?_) FU 0 hr4)
    · have hf := hxr4 s31_2 hs
      refine g_iinc o [(3, .int (s + 1)), (1, .int c1), (2, .int c2)] 2 rfl (inc_1 _) (Nat.le_of_ble_eq_true rfl) rfl dX2_isMonotone_72 ?_
      refine g_goto (tgt := 21) o rfl dX2_isMonotone_75 ?_
      have hp := lf_c hf hw
      exact g_perm [1, 2, 0] rfl hp
    · have hf := hrr4 t3 ht
      exact hR t3 (lf_x hf hw)
set_option maxRecDepth 20000 in
set_option maxHeartbeats 2000000 in
theorem b_X2_isMonotone {x : Cx} (o : Ok x cX2_isMonotone 5 RX2 2 0 0) (a : Nat → Nat) (u : St) (p0 : Int32) (p1 : Int32) (t : Int32 × St) (hf : f_X2_isMonotone u p0 p1 = some t) (hret : rt_X2_isMonotone x a t) : G x 5 0 0 (wM a u (cxT x)) [(0, .ref (a 0)), (1, .int p0), (2, .int p1)] 0 [] := by
  unfold f_X2_isMonotone at hf
  refine g_iload_n o 1 rfl rfl dX2_isMonotone_0 ?_
  refine g_iload_n o 2 rfl rfl dX2_isMonotone_1 ?_
  obtain ⟨r1, hr1, hf⟩ := bd_some hf
  refine k_X2_isOperation_ o hr1 m_1083 (Nat.le_of_ble_eq_true rfl) (Nat.le_of_ble_eq_true rfl) ⟨(Nat.le_of_ble_eq_true rfl), (Nat.le_of_ble_eq_true rfl)⟩ dX2_isMonotone_2 ?_
  refine g_if_ne (tgt := 14) o rfl dX2_isMonotone_5 hf (fun hc hf => ?_) (fun hc hf => ?_)
  · refine g_aload_n o 0 rfl rfl dX2_isMonotone_14 ?_
    refine g_iconst o ic_0 dX2_isMonotone_15 ?_
    refine M_put0 o m_919 dX2_isMonotone_16 ?_
    refine g_iconst o ic_0 dX2_isMonotone_19 ?_
    refine g_istore_n o [(3, .int 0), (0, .ref (a 0)), (1, .int p0), (2, .int p1)] (Nat.le_of_ble_eq_true rfl) rfl rfl dX2_isMonotone_20 ?_
    obtain ⟨r6, hr6, hxr6, hrr6⟩ := bl_some hf
    refine g_perm [2, 3, 0] rfl (b_X2_isMonotone_L21 o (Nat.le_of_ble_eq_true rfl) (Nat.le_of_ble_eq_true rfl) a (us u 0 0) p0 p1 r6 (fun s21 hs => ?_) (fun t5 ht => ?_) FU 0 hr6)
    · have hf := hxr6 s21 hs
      refine g_iconst o ic_1 dX2_isMonotone_78 ?_
      cases Option.some.inj hf
      exact g_iret hret (Nat.le_of_ble_eq_true rfl) (Nat.le_of_ble_eq_true rfl) nb_1 dX2_isMonotone_79
    · have hf := hrr6 t5 ht
      cases Option.some.inj hf
      exact hret
  · refine g_aload_n o 0 rfl rfl dX2_isMonotone_8 ?_
    refine g_iconst o ic_1 dX2_isMonotone_9 ?_
    obtain ⟨r7, hr7, hf⟩ := bd_some hf
    refine k_X2_refuses_ o hr7 m_1093 (Nat.le_of_ble_eq_true rfl) (Nat.le_of_ble_eq_true rfl) ⟨(Nat.le_of_ble_eq_true rfl), (Nat.le_of_ble_eq_true rfl)⟩ dX2_isMonotone_10 ?_
    obtain ⟨hb, hf⟩ := gd_some hf
    cases Option.some.inj hf
    exact g_iret hret (Nat.le_of_ble_eq_true rfl) (Nat.le_of_ble_eq_true rfl) (okB_n hb) dX2_isMonotone_13
theorem c_X2_isMonotone (l : Launch) (hst : l.stackTraces = false) (a : Nat → Nat) (u : St) (p0 : Int32) (p1 : Int32) (t : Int32 × St) (hf : f_X2_isMonotone u p0 p1 = some t) : CoI l yX2_isMonotone (.code yX2_isMonotone cX2_isMonotone 5 (some .boolean)) 2 0 0 [.ref (a 0), .int p0, .int p1] (wM a u) (wM a t.2) (.inl t.1) := mkI hst (by decide +kernel) (Nat.le_of_ble_eq_true rfl) (fun x _ o hI hX => b_X2_isMonotone o a u p0 p1 t hf (hI _ rfl))
def rt_X2_projectedArgument (x : Cx) (a : Nat → Nat) (t : Int32 × St) : Prop := RetI x cX2_projectedArgument .int 0 0 (wM a t.2 (cxT x)) t.1
set_option maxRecDepth 20000 in
set_option maxHeartbeats 2000000 in
theorem b_X2_projectedArgument_L32 {x : Cx} (o : Ok x cX2_projectedArgument 6 RX2 2 0 0) {k n : Nat} (hk : k ≤ 0) (hn : n ≤ 0) (a : Nat → Nat) (u : St) (c1 : Int32) (c2 : Int32) (c3 : Int32) (r : (Int32 × Int32) ⊕ (Int32 × St)) (hX : ∀ s : Int32 × Int32, r = .inl s → G x 6 k n (wM a u (cxT x)) [(0, .ref (a 0)), (1, .int c1), (2, .int c2), (3, .int c3), (4, .int s.1)] 71 []) (hR : ∀ t, r = .inr t → rt_X2_projectedArgument x a t) : ∀ (m : Nat) (s : Int32 × Int32), loopN (f_X2_projectedArgument_s32 u c1 c2 c3) m s = some r → G x 6 k n (wM a u (cxT x)) [(0, .ref (a 0)), (1, .int c1), (2, .int c2), (3, .int c3), (4, .int s.1), (5, .int s.2)] 32 [] := by
  refine loop_W _ (fun (s : Int32 × Int32) => G x 6 k n (wM a u (cxT x)) [(0, .ref (a 0)), (1, .int c1), (2, .int c2), (3, .int c3), (4, .int s.1), (5, .int s.2)] 32 []) r ?_
  intro s ww hf hw
  unfold f_X2_projectedArgument_s32 at hf
  refine g_iload o 5 rfl dX2_projectedArgument_32 ?_
  refine g_iconst o ic_1 dX2_projectedArgument_34 ?_
  refine g_iload_n o 1 rfl rfl dX2_projectedArgument_35 ?_
  refine g_ishl o dX2_projectedArgument_36 ?_
  refine g_ic_ge (tgt := 71) o rfl dX2_projectedArgument_37 hf (fun hc hf => ?_) (fun hc hf => ?_)
  · exact g_perm [0, 1, 2, 3, 4] rfl (hX _ (lf_x hf hw))
  · refine g_iload o 4 rfl dX2_projectedArgument_40 ?_
    refine g_iload_n o 2 rfl rfl dX2_projectedArgument_42 ?_
    refine g_iload o 5 rfl dX2_projectedArgument_43 ?_
    refine g_ishr o dX2_projectedArgument_45 ?_
    refine g_iconst o ic_1 dX2_projectedArgument_46 ?_
    refine g_iand o dX2_projectedArgument_47 ?_
    refine g_iload o 5 rfl dX2_projectedArgument_48 ?_
    refine g_iload_n o 3 rfl rfl dX2_projectedArgument_50 ?_
    refine g_ishr o dX2_projectedArgument_51 ?_
    refine g_iconst o ic_1 dX2_projectedArgument_52 ?_
    refine g_iand o dX2_projectedArgument_53 ?_
    refine g_ic_ne (tgt := 61) o rfl dX2_projectedArgument_54 hf (fun hc hf => ?_) (fun hc hf => ?_)
    · refine g_iconst o ic_0 dX2_projectedArgument_61 ?_
      refine g_iadd o dX2_projectedArgument_62 ?_
      refine g_nmi hf (fun x2 hf => ?_)
      refine g_istore o [(4, .int x2), (0, .ref (a 0)), (1, .int c1), (2, .int c2), (3, .int c3), (5, .int s.2)] (Nat.le_of_ble_eq_true rfl) rfl dX2_projectedArgument_63 ?_
      refine g_iinc o [(5, .int (s.2 + 1)), (4, .int x2), (0, .ref (a 0)), (1, .int c1), (2, .int c2), (3, .int c3)] 5 rfl (inc_1 _) (Nat.le_of_ble_eq_true rfl) rfl dX2_projectedArgument_65 ?_
      refine g_goto (tgt := 32) o rfl dX2_projectedArgument_68 ?_
      have hp := lf_c hf hw
      exact g_perm [2, 3, 4, 5, 1, 0] rfl hp
    · refine g_iconst o ic_1 dX2_projectedArgument_57 ?_
      refine g_goto (tgt := 62) o rfl dX2_projectedArgument_58 ?_
      refine g_iadd o dX2_projectedArgument_62 ?_
      refine g_nmi hf (fun x3 hf => ?_)
      refine g_istore o [(4, .int x3), (0, .ref (a 0)), (1, .int c1), (2, .int c2), (3, .int c3), (5, .int s.2)] (Nat.le_of_ble_eq_true rfl) rfl dX2_projectedArgument_63 ?_
      refine g_iinc o [(5, .int (s.2 + 1)), (4, .int x3), (0, .ref (a 0)), (1, .int c1), (2, .int c2), (3, .int c3)] 5 rfl (inc_1 _) (Nat.le_of_ble_eq_true rfl) rfl dX2_projectedArgument_65 ?_
      refine g_goto (tgt := 32) o rfl dX2_projectedArgument_68 ?_
      have hp := lf_c hf hw
      exact g_perm [2, 3, 4, 5, 1, 0] rfl hp
set_option maxRecDepth 20000 in
set_option maxHeartbeats 2000000 in
theorem b_X2_projectedArgument_L21 {x : Cx} (o : Ok x cX2_projectedArgument 6 RX2 2 0 0) {k n : Nat} (hk : k ≤ 0) (hn : n ≤ 0) (a : Nat → Nat) (u : St) (c1 : Int32) (c2 : Int32) (r : (Int32) ⊕ (Int32 × St)) (hX : ∀ s : Int32, r = .inl s → G x 6 k n (wM a u (cxT x)) [(0, .ref (a 0))] 87 []) (hR : ∀ t, r = .inr t → rt_X2_projectedArgument x a t) : ∀ (m : Nat) (s : Int32), loopN (f_X2_projectedArgument_s21 u c1 c2) m s = some r → G x 6 k n (wM a u (cxT x)) [(0, .ref (a 0)), (1, .int c1), (2, .int c2), (3, .int s)] 21 [] := by
  refine loop_W _ (fun (s : Int32) => G x 6 k n (wM a u (cxT x)) [(0, .ref (a 0)), (1, .int c1), (2, .int c2), (3, .int s)] 21 []) r ?_
  intro s ww hf hw
  unfold f_X2_projectedArgument_s21 at hf
  refine g_iload_n o 3 rfl rfl dX2_projectedArgument_21 ?_
  refine g_iload_n o 1 rfl rfl dX2_projectedArgument_22 ?_
  refine g_ic_ge (tgt := 87) o rfl dX2_projectedArgument_23 hf (fun hc hf => ?_) (fun hc hf => ?_)
  · exact g_perm [0] rfl (hX _ (lf_x hf hw))
  · refine g_iconst o ic_0 dX2_projectedArgument_26 ?_
    refine g_istore o [(4, .int 0), (0, .ref (a 0)), (1, .int c1), (2, .int c2), (3, .int s)] (Nat.le_of_ble_eq_true rfl) rfl dX2_projectedArgument_27 ?_
    refine g_iconst o ic_0 dX2_projectedArgument_29 ?_
    refine g_istore o [(5, .int 0), (4, .int 0), (0, .ref (a 0)), (1, .int c1), (2, .int c2), (3, .int s)] (Nat.le_of_ble_eq_true rfl) rfl dX2_projectedArgument_30 ?_
    obtain ⟨r6, hr6, hxr6, hrr6⟩ := bl_some hf
    refine g_perm [2, 3, 4, 5, 1, 0] rfl (b_X2_projectedArgument_L32 o hk hn a u c1 c2 s r6 (fun s32_4 hs => ?_) (fun t5 ht => ?_) FU (0, 0) hr6)
    · have hf := hxr6 s32_4 hs
      refine g_iload o 4 rfl dX2_projectedArgument_71 ?_
      refine g_iconst o ic_1 dX2_projectedArgument_73 ?_
      refine g_iload_n o 1 rfl rfl dX2_projectedArgument_74 ?_
      refine g_ishl o dX2_projectedArgument_75 ?_
      refine g_ic_ne (tgt := 81) o rfl dX2_projectedArgument_76 hf (fun hc hf => ?_) (fun hc hf => ?_)
      · refine g_iinc o [(3, .int (s + 1)), (0, .ref (a 0)), (1, .int c1), (2, .int c2), (4, .int s32_4.1)] 3 rfl (inc_1 _) (Nat.le_of_ble_eq_true rfl) rfl dX2_projectedArgument_81 ?_
        refine g_goto (tgt := 21) o rfl dX2_projectedArgument_84 ?_
        have hp := lf_c hf hw
        exact g_perm [1, 2, 3, 0] rfl hp
      · refine g_iload_n o 3 rfl rfl dX2_projectedArgument_79 ?_
        exact g_iret (hR _ (lf_x hf hw)) hk hn (vp_nar_int _) dX2_projectedArgument_80
    · have hf := hrr6 t5 ht
      exact hR t5 (lf_x hf hw)
set_option maxRecDepth 20000 in
set_option maxHeartbeats 2000000 in
theorem b_X2_projectedArgument {x : Cx} (o : Ok x cX2_projectedArgument 6 RX2 2 0 0) (a : Nat → Nat) (u : St) (p0 : Int32) (p1 : Int32) (t : Int32 × St) (hf : f_X2_projectedArgument u p0 p1 = some t) (hret : rt_X2_projectedArgument x a t) : G x 6 0 0 (wM a u (cxT x)) [(0, .ref (a 0)), (1, .int p0), (2, .int p1)] 0 [] := by
  unfold f_X2_projectedArgument at hf
  refine g_iload_n o 1 rfl rfl dX2_projectedArgument_0 ?_
  refine g_iload_n o 2 rfl rfl dX2_projectedArgument_1 ?_
  obtain ⟨r1, hr1, hf⟩ := bd_some hf
  refine k_X2_isOperation_ o hr1 m_1083 (Nat.le_of_ble_eq_true rfl) (Nat.le_of_ble_eq_true rfl) ⟨(Nat.le_of_ble_eq_true rfl), (Nat.le_of_ble_eq_true rfl)⟩ dX2_projectedArgument_2 ?_
  refine g_if_ne (tgt := 14) o rfl dX2_projectedArgument_5 hf (fun hc hf => ?_) (fun hc hf => ?_)
  · refine g_aload_n o 0 rfl rfl dX2_projectedArgument_14 ?_
    refine g_iconst o ic_0 dX2_projectedArgument_15 ?_
    refine M_put0 o m_919 dX2_projectedArgument_16 ?_
    refine g_iconst o ic_0 dX2_projectedArgument_19 ?_
    refine g_istore_n o [(3, .int 0), (0, .ref (a 0)), (1, .int p0), (2, .int p1)] (Nat.le_of_ble_eq_true rfl) rfl rfl dX2_projectedArgument_20 ?_
    obtain ⟨r8, hr8, hxr8, hrr8⟩ := bl_some hf
    refine g_perm [1, 2, 3, 0] rfl (b_X2_projectedArgument_L21 o (Nat.le_of_ble_eq_true rfl) (Nat.le_of_ble_eq_true rfl) a (us u 0 0) p0 p1 r8 (fun s21 hs => ?_) (fun t7 ht => ?_) FU 0 hr8)
    · have hf := hxr8 s21 hs
      refine g_aload_n o 0 rfl rfl dX2_projectedArgument_87 ?_
      refine g_iconst o ic_2 dX2_projectedArgument_88 ?_
      obtain ⟨r9, hr9, hf⟩ := bd_some hf
      refine k_X2_fails_ o hr9 m_995 (Nat.le_of_ble_eq_true rfl) (Nat.le_of_ble_eq_true rfl) ⟨(Nat.le_of_ble_eq_true rfl), (Nat.le_of_ble_eq_true rfl)⟩ dX2_projectedArgument_89 ?_
      cases Option.some.inj hf
      exact g_iret hret (Nat.le_of_ble_eq_true rfl) (Nat.le_of_ble_eq_true rfl) (vp_nar_int _) dX2_projectedArgument_92
    · have hf := hrr8 t7 ht
      cases Option.some.inj hf
      exact hret
  · refine g_aload_n o 0 rfl rfl dX2_projectedArgument_8 ?_
    refine g_iconst o ic_1 dX2_projectedArgument_9 ?_
    obtain ⟨r10, hr10, hf⟩ := bd_some hf
    refine k_X2_fails_ o hr10 m_995 (Nat.le_of_ble_eq_true rfl) (Nat.le_of_ble_eq_true rfl) ⟨(Nat.le_of_ble_eq_true rfl), (Nat.le_of_ble_eq_true rfl)⟩ dX2_projectedArgument_10 ?_
    cases Option.some.inj hf
    exact g_iret hret (Nat.le_of_ble_eq_true rfl) (Nat.le_of_ble_eq_true rfl) (vp_nar_int _) dX2_projectedArgument_13
theorem c_X2_projectedArgument (l : Launch) (hst : l.stackTraces = false) (a : Nat → Nat) (u : St) (p0 : Int32) (p1 : Int32) (t : Int32 × St) (hf : f_X2_projectedArgument u p0 p1 = some t) : CoI l yX2_projectedArgument (.code yX2_projectedArgument cX2_projectedArgument 6 (some .int)) 2 0 0 [.ref (a 0), .int p0, .int p1] (wM a u) (wM a t.2) (.inl t.1) := mkI hst (by decide +kernel) (Nat.le_of_ble_eq_true rfl) (fun x _ o hI hX => b_X2_projectedArgument o a u p0 p1 t hf (hI _ rfl))
def rt_X2_madeOf (x : Cx) (t : Int32) : Prop := RetI x cX2_madeOf .int 0 0 (w0 (cxT x)) t
set_option maxRecDepth 20000 in
set_option maxHeartbeats 2000000 in
theorem b_X2_madeOf_L64 {x : Cx} (o : Ok x cX2_madeOf 8 RX2 2 0 0) {k n : Nat} (hk : k ≤ 0) (hn : n ≤ 0) (c0 : Int32) (c1 : Int32) (c2 : Int32) (c3 : Int32) (c5 : Int32) (c6 : Int32) (r : (Int32 × Int32) ⊕ (Int32)) (hX : ∀ s : Int32 × Int32, r = .inl s → G x 8 k n (w0 (cxT x)) [(0, .int c0), (1, .int c1), (2, .int c2), (3, .int c3), (4, .int s.1), (5, .int c5), (6, .int c6)] 121 []) (hR : ∀ t, r = .inr t → rt_X2_madeOf x  t) : ∀ (m : Nat) (s : Int32 × Int32), loopN (f_X2_madeOf_s64 c0 c1 c2 c3 c5 c6) m s = some r → G x 8 k n (w0 (cxT x)) [(0, .int c0), (1, .int c1), (2, .int c2), (3, .int c3), (4, .int s.1), (5, .int c5), (6, .int c6), (7, .int s.2)] 64 [] := by
  refine loop_W _ (fun (s : Int32 × Int32) => G x 8 k n (w0 (cxT x)) [(0, .int c0), (1, .int c1), (2, .int c2), (3, .int c3), (4, .int s.1), (5, .int c5), (6, .int c6), (7, .int s.2)] 64 []) r ?_
  intro s ww hf hw
  unfold f_X2_madeOf_s64 at hf
  refine g_iload o 7 rfl dX2_madeOf_64 ?_
  refine g_iload_n o 0 rfl rfl dX2_madeOf_66 ?_
  refine g_iconst o ic_2 dX2_madeOf_67 ?_
  refine g_ic_le (tgt := 76) o rfl dX2_madeOf_68 hf (fun hc hf => ?_) (fun hc hf => ?_)
  · refine g_iconst o ic_1 dX2_madeOf_76 ?_
    refine g_ic_ge (tgt := 121) o rfl dX2_madeOf_77 hf (fun hc hf => ?_) (fun hc hf => ?_)
    · exact g_perm [0, 1, 2, 3, 4, 5, 6] rfl (hX _ (lf_x hf hw))
    · refine g_iload_n o 0 rfl rfl dX2_madeOf_80 ?_
      refine g_iconst o ic_3 dX2_madeOf_81 ?_
      refine g_ic_lt (tgt := 95) o rfl dX2_madeOf_82 hf (fun hc hf => ?_) (fun hc hf => ?_)
      · refine g_iload o 4 rfl dX2_madeOf_95 ?_
        refine g_iconst o ic_1 dX2_madeOf_97 ?_
        refine g_iload_n o 0 rfl rfl dX2_madeOf_98 ?_
        refine g_iload_n o 1 rfl rfl dX2_madeOf_99 ?_
        refine g_iload o 5 rfl dX2_madeOf_100 ?_
        refine g_iload o 6 rfl dX2_madeOf_102 ?_
        refine g_iload o 7 rfl dX2_madeOf_104 ?_
        obtain ⟨r1, hr1, hf⟩ := bd_some hf
        refine k_X2_applied_ o hr1 m_1101 (Nat.le_of_ble_eq_true rfl) (Nat.le_of_ble_eq_true rfl) ⟨hk, hn⟩ dX2_madeOf_106 ?_
        refine g_iload_n o 3 rfl rfl dX2_madeOf_109 ?_
        refine g_iand o dX2_madeOf_110 ?_
        refine g_ishl o dX2_madeOf_111 ?_
        refine g_ior o dX2_madeOf_112 ?_
        refine g_nmi hf (fun x2 hf => ?_)
        refine g_istore o [(4, .int x2), (0, .int c0), (1, .int c1), (2, .int c2), (3, .int c3), (5, .int c5), (6, .int c6), (7, .int s.2)] (Nat.le_of_ble_eq_true rfl) rfl dX2_madeOf_113 ?_
        refine g_iinc o [(7, .int (s.2 + 1)), (4, .int x2), (0, .int c0), (1, .int c1), (2, .int c2), (3, .int c3), (5, .int c5), (6, .int c6)] 7 rfl (inc_1 _) (Nat.le_of_ble_eq_true rfl) rfl dX2_madeOf_115 ?_
        refine g_goto (tgt := 64) o rfl dX2_madeOf_118 ?_
        have hp := lf_c hf hw
        exact g_perm [2, 3, 4, 5, 1, 6, 7, 0] rfl hp
      · refine g_iload_n o 2 rfl rfl dX2_madeOf_85 ?_
        refine g_iload o 7 rfl dX2_madeOf_86 ?_
        refine g_ishr o dX2_madeOf_88 ?_
        refine g_iconst o ic_1 dX2_madeOf_89 ?_
        refine g_iand o dX2_madeOf_90 ?_
        refine g_iconst o ic_1 dX2_madeOf_91 ?_
        refine g_ic_ne (tgt := 115) o rfl dX2_madeOf_92 hf (fun hc hf => ?_) (fun hc hf => ?_)
        · refine g_iinc o [(7, .int (s.2 + 1)), (0, .int c0), (1, .int c1), (2, .int c2), (3, .int c3), (4, .int s.1), (5, .int c5), (6, .int c6)] 7 rfl (inc_1 _) (Nat.le_of_ble_eq_true rfl) rfl dX2_madeOf_115 ?_
          refine g_goto (tgt := 64) o rfl dX2_madeOf_118 ?_
          have hp := lf_c hf hw
          exact g_perm [1, 2, 3, 4, 5, 6, 7, 0] rfl hp
        · refine g_iload o 4 rfl dX2_madeOf_95 ?_
          refine g_iconst o ic_1 dX2_madeOf_97 ?_
          refine g_iload_n o 0 rfl rfl dX2_madeOf_98 ?_
          refine g_iload_n o 1 rfl rfl dX2_madeOf_99 ?_
          refine g_iload o 5 rfl dX2_madeOf_100 ?_
          refine g_iload o 6 rfl dX2_madeOf_102 ?_
          refine g_iload o 7 rfl dX2_madeOf_104 ?_
          obtain ⟨r3, hr3, hf⟩ := bd_some hf
          refine k_X2_applied_ o hr3 m_1101 (Nat.le_of_ble_eq_true rfl) (Nat.le_of_ble_eq_true rfl) ⟨hk, hn⟩ dX2_madeOf_106 ?_
          refine g_iload_n o 3 rfl rfl dX2_madeOf_109 ?_
          refine g_iand o dX2_madeOf_110 ?_
          refine g_ishl o dX2_madeOf_111 ?_
          refine g_ior o dX2_madeOf_112 ?_
          refine g_nmi hf (fun x4 hf => ?_)
          refine g_istore o [(4, .int x4), (0, .int c0), (1, .int c1), (2, .int c2), (3, .int c3), (5, .int c5), (6, .int c6), (7, .int s.2)] (Nat.le_of_ble_eq_true rfl) rfl dX2_madeOf_113 ?_
          refine g_iinc o [(7, .int (s.2 + 1)), (4, .int x4), (0, .int c0), (1, .int c1), (2, .int c2), (3, .int c3), (5, .int c5), (6, .int c6)] 7 rfl (inc_1 _) (Nat.le_of_ble_eq_true rfl) rfl dX2_madeOf_115 ?_
          refine g_goto (tgt := 64) o rfl dX2_madeOf_118 ?_
          have hp := lf_c hf hw
          exact g_perm [2, 3, 4, 5, 1, 6, 7, 0] rfl hp
  · refine g_bipush o bp_16 dX2_madeOf_71 ?_
    refine g_goto (tgt := 77) o rfl dX2_madeOf_73 ?_
    refine g_ic_ge (tgt := 121) o rfl dX2_madeOf_77 hf (fun hc hf => ?_) (fun hc hf => ?_)
    · exact g_perm [0, 1, 2, 3, 4, 5, 6] rfl (hX _ (lf_x hf hw))
    · refine g_iload_n o 0 rfl rfl dX2_madeOf_80 ?_
      refine g_iconst o ic_3 dX2_madeOf_81 ?_
      refine g_ic_lt (tgt := 95) o rfl dX2_madeOf_82 hf (fun hc hf => ?_) (fun hc hf => ?_)
      · refine g_iload o 4 rfl dX2_madeOf_95 ?_
        refine g_iconst o ic_1 dX2_madeOf_97 ?_
        refine g_iload_n o 0 rfl rfl dX2_madeOf_98 ?_
        refine g_iload_n o 1 rfl rfl dX2_madeOf_99 ?_
        refine g_iload o 5 rfl dX2_madeOf_100 ?_
        refine g_iload o 6 rfl dX2_madeOf_102 ?_
        refine g_iload o 7 rfl dX2_madeOf_104 ?_
        obtain ⟨r5, hr5, hf⟩ := bd_some hf
        refine k_X2_applied_ o hr5 m_1101 (Nat.le_of_ble_eq_true rfl) (Nat.le_of_ble_eq_true rfl) ⟨hk, hn⟩ dX2_madeOf_106 ?_
        refine g_iload_n o 3 rfl rfl dX2_madeOf_109 ?_
        refine g_iand o dX2_madeOf_110 ?_
        refine g_ishl o dX2_madeOf_111 ?_
        refine g_ior o dX2_madeOf_112 ?_
        refine g_nmi hf (fun x6 hf => ?_)
        refine g_istore o [(4, .int x6), (0, .int c0), (1, .int c1), (2, .int c2), (3, .int c3), (5, .int c5), (6, .int c6), (7, .int s.2)] (Nat.le_of_ble_eq_true rfl) rfl dX2_madeOf_113 ?_
        refine g_iinc o [(7, .int (s.2 + 1)), (4, .int x6), (0, .int c0), (1, .int c1), (2, .int c2), (3, .int c3), (5, .int c5), (6, .int c6)] 7 rfl (inc_1 _) (Nat.le_of_ble_eq_true rfl) rfl dX2_madeOf_115 ?_
        refine g_goto (tgt := 64) o rfl dX2_madeOf_118 ?_
        have hp := lf_c hf hw
        exact g_perm [2, 3, 4, 5, 1, 6, 7, 0] rfl hp
      · refine g_iload_n o 2 rfl rfl dX2_madeOf_85 ?_
        refine g_iload o 7 rfl dX2_madeOf_86 ?_
        refine g_ishr o dX2_madeOf_88 ?_
        refine g_iconst o ic_1 dX2_madeOf_89 ?_
        refine g_iand o dX2_madeOf_90 ?_
        refine g_iconst o ic_1 dX2_madeOf_91 ?_
        refine g_ic_ne (tgt := 115) o rfl dX2_madeOf_92 hf (fun hc hf => ?_) (fun hc hf => ?_)
        · refine g_iinc o [(7, .int (s.2 + 1)), (0, .int c0), (1, .int c1), (2, .int c2), (3, .int c3), (4, .int s.1), (5, .int c5), (6, .int c6)] 7 rfl (inc_1 _) (Nat.le_of_ble_eq_true rfl) rfl dX2_madeOf_115 ?_
          refine g_goto (tgt := 64) o rfl dX2_madeOf_118 ?_
          have hp := lf_c hf hw
          exact g_perm [1, 2, 3, 4, 5, 6, 7, 0] rfl hp
        · refine g_iload o 4 rfl dX2_madeOf_95 ?_
          refine g_iconst o ic_1 dX2_madeOf_97 ?_
          refine g_iload_n o 0 rfl rfl dX2_madeOf_98 ?_
          refine g_iload_n o 1 rfl rfl dX2_madeOf_99 ?_
          refine g_iload o 5 rfl dX2_madeOf_100 ?_
          refine g_iload o 6 rfl dX2_madeOf_102 ?_
          refine g_iload o 7 rfl dX2_madeOf_104 ?_
          obtain ⟨r7, hr7, hf⟩ := bd_some hf
          refine k_X2_applied_ o hr7 m_1101 (Nat.le_of_ble_eq_true rfl) (Nat.le_of_ble_eq_true rfl) ⟨hk, hn⟩ dX2_madeOf_106 ?_
          refine g_iload_n o 3 rfl rfl dX2_madeOf_109 ?_
          refine g_iand o dX2_madeOf_110 ?_
          refine g_ishl o dX2_madeOf_111 ?_
          refine g_ior o dX2_madeOf_112 ?_
          refine g_nmi hf (fun x8 hf => ?_)
          refine g_istore o [(4, .int x8), (0, .int c0), (1, .int c1), (2, .int c2), (3, .int c3), (5, .int c5), (6, .int c6), (7, .int s.2)] (Nat.le_of_ble_eq_true rfl) rfl dX2_madeOf_113 ?_
          refine g_iinc o [(7, .int (s.2 + 1)), (4, .int x8), (0, .int c0), (1, .int c1), (2, .int c2), (3, .int c3), (5, .int c5), (6, .int c6)] 7 rfl (inc_1 _) (Nat.le_of_ble_eq_true rfl) rfl dX2_madeOf_115 ?_
          refine g_goto (tgt := 64) o rfl dX2_madeOf_118 ?_
          have hp := lf_c hf hw
          exact g_perm [2, 3, 4, 5, 1, 6, 7, 0] rfl hp
set_option maxRecDepth 20000 in
set_option maxHeartbeats 2000000 in
theorem b_X2_madeOf_L28 {x : Cx} (o : Ok x cX2_madeOf 8 RX2 2 0 0) {k n : Nat} (hk : k ≤ 0) (hn : n ≤ 0) (c0 : Int32) (c1 : Int32) (c2 : Int32) (c3 : Int32) (c5 : Int32) (r : (Int32 × Int32) ⊕ (Int32)) (hX : ∀ s : Int32 × Int32, r = .inl s → G x 8 k n (w0 (cxT x)) [(0, .int c0), (1, .int c1), (2, .int c2), (3, .int c3), (4, .int s.1), (5, .int c5)] 127 []) (hR : ∀ t, r = .inr t → rt_X2_madeOf x  t) : ∀ (m : Nat) (s : Int32 × Int32), loopN (f_X2_madeOf_s28 c0 c1 c2 c3 c5) m s = some r → G x 8 k n (w0 (cxT x)) [(0, .int c0), (1, .int c1), (2, .int c2), (3, .int c3), (4, .int s.1), (5, .int c5), (6, .int s.2)] 28 [] := by
  refine loop_W _ (fun (s : Int32 × Int32) => G x 8 k n (w0 (cxT x)) [(0, .int c0), (1, .int c1), (2, .int c2), (3, .int c3), (4, .int s.1), (5, .int c5), (6, .int s.2)] 28 []) r ?_
  intro s ww hf hw
  unfold f_X2_madeOf_s28 at hf
  refine g_iload o 6 rfl dX2_madeOf_28 ?_
  refine g_iload_n o 0 rfl rfl dX2_madeOf_30 ?_
  refine g_iconst o ic_1 dX2_madeOf_31 ?_
  refine g_ic_le (tgt := 40) o rfl dX2_madeOf_32 hf (fun hc hf => ?_) (fun hc hf => ?_)
  · refine g_iconst o ic_1 dX2_madeOf_40 ?_
    refine g_ic_ge (tgt := 127) o rfl dX2_madeOf_41 hf (fun hc hf => ?_) (fun hc hf => ?_)
    · exact g_perm [0, 1, 2, 3, 4, 5] rfl (hX _ (lf_x hf hw))
    · refine g_iload_n o 0 rfl rfl dX2_madeOf_44 ?_
      refine g_iconst o ic_1 dX2_madeOf_45 ?_
      refine g_ic_le (tgt := 61) o rfl dX2_madeOf_46 hf (fun hc hf => ?_) (fun hc hf => ?_)
      · refine g_iconst o ic_0 dX2_madeOf_61 ?_
        refine g_istore o [(7, .int 0), (0, .int c0), (1, .int c1), (2, .int c2), (3, .int c3), (4, .int s.1), (5, .int c5), (6, .int s.2)] (Nat.le_of_ble_eq_true rfl) rfl dX2_madeOf_62 ?_
        obtain ⟨r11, hr11, hxr11, hrr11⟩ := bl_some hf
        refine g_perm [1, 2, 3, 4, 5, 6, 7, 0] rfl (b_X2_madeOf_L64 o hk hn  c0 c1 c2 c3 c5 s.2 r11 (fun s64_9 hs => ?_) (fun t10 ht => ?_) FU (s.1, 0) hr11)
        · have hf := hxr11 s64_9 hs
          refine g_iinc o [(6, .int (s.2 + 1)), (0, .int c0), (1, .int c1), (2, .int c2), (3, .int c3), (4, .int s64_9.1), (5, .int c5)] 6 rfl (inc_1 _) (Nat.le_of_ble_eq_true rfl) rfl dX2_madeOf_121 ?_
          refine g_goto (tgt := 28) o rfl dX2_madeOf_124 ?_
          have hp := lf_c hf hw
          exact g_perm [1, 2, 3, 4, 5, 6, 0] rfl hp
        · have hf := hrr11 t10 ht
          exact hR t10 (lf_x hf hw)
      · refine g_iload_n o 2 rfl rfl dX2_madeOf_49 ?_
        refine g_iload o 6 rfl dX2_madeOf_50 ?_
        refine g_ishr o dX2_madeOf_52 ?_
        refine g_iconst o ic_1 dX2_madeOf_53 ?_
        refine g_iand o dX2_madeOf_54 ?_
        refine g_if_ne (tgt := 61) o rfl dX2_madeOf_55 hf (fun hc hf => ?_) (fun hc hf => ?_)
        · refine g_iconst o ic_0 dX2_madeOf_61 ?_
          refine g_istore o [(7, .int 0), (0, .int c0), (1, .int c1), (2, .int c2), (3, .int c3), (4, .int s.1), (5, .int c5), (6, .int s.2)] (Nat.le_of_ble_eq_true rfl) rfl dX2_madeOf_62 ?_
          obtain ⟨r14, hr14, hxr14, hrr14⟩ := bl_some hf
          refine g_perm [1, 2, 3, 4, 5, 6, 7, 0] rfl (b_X2_madeOf_L64 o hk hn  c0 c1 c2 c3 c5 s.2 r14 (fun s64_12 hs => ?_) (fun t13 ht => ?_) FU (s.1, 0) hr14)
          · have hf := hxr14 s64_12 hs
            refine g_iinc o [(6, .int (s.2 + 1)), (0, .int c0), (1, .int c1), (2, .int c2), (3, .int c3), (4, .int s64_12.1), (5, .int c5)] 6 rfl (inc_1 _) (Nat.le_of_ble_eq_true rfl) rfl dX2_madeOf_121 ?_
            refine g_goto (tgt := 28) o rfl dX2_madeOf_124 ?_
            have hp := lf_c hf hw
            exact g_perm [1, 2, 3, 4, 5, 6, 0] rfl hp
          · have hf := hrr14 t13 ht
            exact hR t13 (lf_x hf hw)
        · refine g_goto (tgt := 121) o rfl dX2_madeOf_58 ?_
          refine g_iinc o [(6, .int (s.2 + 1)), (0, .int c0), (1, .int c1), (2, .int c2), (3, .int c3), (4, .int s.1), (5, .int c5)] 6 rfl (inc_1 _) (Nat.le_of_ble_eq_true rfl) rfl dX2_madeOf_121 ?_
          refine g_goto (tgt := 28) o rfl dX2_madeOf_124 ?_
          have hp := lf_c hf hw
          exact g_perm [1, 2, 3, 4, 5, 6, 0] rfl hp
  · refine g_bipush o bp_16 dX2_madeOf_35 ?_
    refine g_goto (tgt := 41) o rfl dX2_madeOf_37 ?_
    refine g_ic_ge (tgt := 127) o rfl dX2_madeOf_41 hf (fun hc hf => ?_) (fun hc hf => ?_)
    · exact g_perm [0, 1, 2, 3, 4, 5] rfl (hX _ (lf_x hf hw))
    · refine g_iload_n o 0 rfl rfl dX2_madeOf_44 ?_
      refine g_iconst o ic_1 dX2_madeOf_45 ?_
      refine g_ic_le (tgt := 61) o rfl dX2_madeOf_46 hf (fun hc hf => ?_) (fun hc hf => ?_)
      · refine g_iconst o ic_0 dX2_madeOf_61 ?_
        refine g_istore o [(7, .int 0), (0, .int c0), (1, .int c1), (2, .int c2), (3, .int c3), (4, .int s.1), (5, .int c5), (6, .int s.2)] (Nat.le_of_ble_eq_true rfl) rfl dX2_madeOf_62 ?_
        obtain ⟨r17, hr17, hxr17, hrr17⟩ := bl_some hf
        refine g_perm [1, 2, 3, 4, 5, 6, 7, 0] rfl (b_X2_madeOf_L64 o hk hn  c0 c1 c2 c3 c5 s.2 r17 (fun s64_15 hs => ?_) (fun t16 ht => ?_) FU (s.1, 0) hr17)
        · have hf := hxr17 s64_15 hs
          refine g_iinc o [(6, .int (s.2 + 1)), (0, .int c0), (1, .int c1), (2, .int c2), (3, .int c3), (4, .int s64_15.1), (5, .int c5)] 6 rfl (inc_1 _) (Nat.le_of_ble_eq_true rfl) rfl dX2_madeOf_121 ?_
          refine g_goto (tgt := 28) o rfl dX2_madeOf_124 ?_
          have hp := lf_c hf hw
          exact g_perm [1, 2, 3, 4, 5, 6, 0] rfl hp
        · have hf := hrr17 t16 ht
          exact hR t16 (lf_x hf hw)
      · refine g_iload_n o 2 rfl rfl dX2_madeOf_49 ?_
        refine g_iload o 6 rfl dX2_madeOf_50 ?_
        refine g_ishr o dX2_madeOf_52 ?_
        refine g_iconst o ic_1 dX2_madeOf_53 ?_
        refine g_iand o dX2_madeOf_54 ?_
        refine g_if_ne (tgt := 61) o rfl dX2_madeOf_55 hf (fun hc hf => ?_) (fun hc hf => ?_)
        · refine g_iconst o ic_0 dX2_madeOf_61 ?_
          refine g_istore o [(7, .int 0), (0, .int c0), (1, .int c1), (2, .int c2), (3, .int c3), (4, .int s.1), (5, .int c5), (6, .int s.2)] (Nat.le_of_ble_eq_true rfl) rfl dX2_madeOf_62 ?_
          obtain ⟨r20, hr20, hxr20, hrr20⟩ := bl_some hf
          refine g_perm [1, 2, 3, 4, 5, 6, 7, 0] rfl (b_X2_madeOf_L64 o hk hn  c0 c1 c2 c3 c5 s.2 r20 (fun s64_18 hs => ?_) (fun t19 ht => ?_) FU (s.1, 0) hr20)
          · have hf := hxr20 s64_18 hs
            refine g_iinc o [(6, .int (s.2 + 1)), (0, .int c0), (1, .int c1), (2, .int c2), (3, .int c3), (4, .int s64_18.1), (5, .int c5)] 6 rfl (inc_1 _) (Nat.le_of_ble_eq_true rfl) rfl dX2_madeOf_121 ?_
            refine g_goto (tgt := 28) o rfl dX2_madeOf_124 ?_
            have hp := lf_c hf hw
            exact g_perm [1, 2, 3, 4, 5, 6, 0] rfl hp
          · have hf := hrr20 t19 ht
            exact hR t19 (lf_x hf hw)
        · refine g_goto (tgt := 121) o rfl dX2_madeOf_58 ?_
          refine g_iinc o [(6, .int (s.2 + 1)), (0, .int c0), (1, .int c1), (2, .int c2), (3, .int c3), (4, .int s.1), (5, .int c5)] 6 rfl (inc_1 _) (Nat.le_of_ble_eq_true rfl) rfl dX2_madeOf_121 ?_
          refine g_goto (tgt := 28) o rfl dX2_madeOf_124 ?_
          have hp := lf_c hf hw
          exact g_perm [1, 2, 3, 4, 5, 6, 0] rfl hp
set_option maxRecDepth 20000 in
set_option maxHeartbeats 2000000 in
theorem b_X2_madeOf_L6 {x : Cx} (o : Ok x cX2_madeOf 8 RX2 2 0 0) {k n : Nat} (hk : k ≤ 0) (hn : n ≤ 0) (c0 : Int32) (c1 : Int32) (c2 : Int32) (c3 : Int32) (r : (Int32 × Int32) ⊕ (Int32)) (hX : ∀ s : Int32 × Int32, r = .inl s → G x 8 k n (w0 (cxT x)) [(4, .int s.1)] 133 []) (hR : ∀ t, r = .inr t → rt_X2_madeOf x  t) : ∀ (m : Nat) (s : Int32 × Int32), loopN (f_X2_madeOf_s6 c0 c1 c2 c3) m s = some r → G x 8 k n (w0 (cxT x)) [(0, .int c0), (1, .int c1), (2, .int c2), (3, .int c3), (4, .int s.1), (5, .int s.2)] 6 [] := by
  refine loop_W _ (fun (s : Int32 × Int32) => G x 8 k n (w0 (cxT x)) [(0, .int c0), (1, .int c1), (2, .int c2), (3, .int c3), (4, .int s.1), (5, .int s.2)] 6 []) r ?_
  intro s ww hf hw
  unfold f_X2_madeOf_s6 at hf
  refine g_iload o 5 rfl dX2_madeOf_6 ?_
  refine g_bipush o bp_16 dX2_madeOf_8 ?_
  refine g_ic_ge (tgt := 133) o rfl dX2_madeOf_10 hf (fun hc hf => ?_) (fun hc hf => ?_)
  · exact g_perm [4] rfl (hX _ (lf_x hf hw))
  · refine g_iload_n o 2 rfl rfl dX2_madeOf_13 ?_
    refine g_iload o 5 rfl dX2_madeOf_14 ?_
    refine g_ishr o dX2_madeOf_16 ?_
    refine g_iconst o ic_1 dX2_madeOf_17 ?_
    refine g_iand o dX2_madeOf_18 ?_
    refine g_if_ne (tgt := 25) o rfl dX2_madeOf_19 hf (fun hc hf => ?_) (fun hc hf => ?_)
    · refine g_iconst o ic_0 dX2_madeOf_25 ?_
      refine g_istore o [(6, .int 0), (0, .int c0), (1, .int c1), (2, .int c2), (3, .int c3), (4, .int s.1), (5, .int s.2)] (Nat.le_of_ble_eq_true rfl) rfl dX2_madeOf_26 ?_
      obtain ⟨r23, hr23, hxr23, hrr23⟩ := bl_some hf
      refine g_perm [1, 2, 3, 4, 5, 6, 0] rfl (b_X2_madeOf_L28 o hk hn  c0 c1 c2 c3 s.2 r23 (fun s28_21 hs => ?_) (fun t22 ht => ?_) FU (s.1, 0) hr23)
      · have hf := hxr23 s28_21 hs
        refine g_iinc o [(5, .int (s.2 + 1)), (0, .int c0), (1, .int c1), (2, .int c2), (3, .int c3), (4, .int s28_21.1)] 5 rfl (inc_1 _) (Nat.le_of_ble_eq_true rfl) rfl dX2_madeOf_127 ?_
        refine g_goto (tgt := 6) o rfl dX2_madeOf_130 ?_
        have hp := lf_c hf hw
        exact g_perm [1, 2, 3, 4, 5, 0] rfl hp
      · have hf := hrr23 t22 ht
        exact hR t22 (lf_x hf hw)
    · refine g_goto (tgt := 127) o rfl dX2_madeOf_22 ?_
      refine g_iinc o [(5, .int (s.2 + 1)), (0, .int c0), (1, .int c1), (2, .int c2), (3, .int c3), (4, .int s.1)] 5 rfl (inc_1 _) (Nat.le_of_ble_eq_true rfl) rfl dX2_madeOf_127 ?_
      refine g_goto (tgt := 6) o rfl dX2_madeOf_130 ?_
      have hp := lf_c hf hw
      exact g_perm [1, 2, 3, 4, 5, 0] rfl hp
set_option maxRecDepth 20000 in
set_option maxHeartbeats 2000000 in
theorem b_X2_madeOf {x : Cx} (o : Ok x cX2_madeOf 8 RX2 2 0 0) (p0 : Int32) (p1 : Int32) (p2 : Int32) (p3 : Int32) (t : Int32) (hf : f_X2_madeOf p0 p1 p2 p3 = some t) (hret : rt_X2_madeOf x  t) : G x 8 0 0 (w0 (cxT x)) [(0, .int p0), (1, .int p1), (2, .int p2), (3, .int p3)] 0 [] := by
  unfold f_X2_madeOf at hf
  refine g_iconst o ic_0 dX2_madeOf_0 ?_
  refine g_istore o [(4, .int 0), (0, .int p0), (1, .int p1), (2, .int p2), (3, .int p3)] (Nat.le_of_ble_eq_true rfl) rfl dX2_madeOf_1 ?_
  refine g_iconst o ic_0 dX2_madeOf_3 ?_
  refine g_istore o [(5, .int 0), (4, .int 0), (0, .int p0), (1, .int p1), (2, .int p2), (3, .int p3)] (Nat.le_of_ble_eq_true rfl) rfl dX2_madeOf_4 ?_
  obtain ⟨r25, hr25, hxr25, hrr25⟩ := bl_some hf
  refine g_perm [2, 3, 4, 5, 1, 0] rfl (b_X2_madeOf_L6 o (Nat.le_of_ble_eq_true rfl) (Nat.le_of_ble_eq_true rfl)  p0 p1 p2 p3 r25 (fun s6 hs => ?_) (fun t24 ht => ?_) FU (0, 0) hr25)
  · have hf := hxr25 s6 hs
    refine g_iload o 0 rfl dX2_madeOf_133 ?_
    cases Option.some.inj hf
    exact g_iret hret (Nat.le_of_ble_eq_true rfl) (Nat.le_of_ble_eq_true rfl) (vp_nar_int _) dX2_madeOf_135
  · have hf := hrr25 t24 ht
    cases Option.some.inj hf
    exact hret
theorem c_X2_madeOf (l : Launch) (hst : l.stackTraces = false) (p0 : Int32) (p1 : Int32) (p2 : Int32) (p3 : Int32) (t : Int32) (hf : f_X2_madeOf p0 p1 p2 p3 = some t) : CoI l yX2_madeOf (.code yX2_madeOf cX2_madeOf 8 (some .int)) 2 0 0 [.int p0, .int p1, .int p2, .int p3] w0 w0 (.inl t) := mkI hst (by decide +kernel) (Nat.le_of_ble_eq_true rfl) (fun x _ o hI hX => b_X2_madeOf o p0 p1 p2 p3 t hf (hI _ rfl))
theorem k_X2_madeOf_ {x : Cx} {cc : ByteArray} {nL : Nat} {own : String} {d mc ms k n : Nat} {lv : List (Nat × Value)} {pc i : Nat} {rest : List Value} {wd : va_W} {p0 : Int32} {p1 : Int32} {p2 : Int32} {p3 : Int32} (o : Ok x cc nL own d mc ms) {t : Int32} (ht : f_X2_madeOf p0 p1 p2 p3 = some t) (hlk : Cond.methodLink own i yX2_madeOf ∈ Ug) (hd : 2 < d) (hr : (rest.map fun v => v.category).sum ≤ 8) (hk : k + 0 ≤ mc ∧ n + 0 ≤ ms) (dg : decode cc pc = .ok (.invokestatic i, 3)) (kk : G x nL (k + 0) (n + 0) wd lv (pc + 3) (.int t :: rest)) : G x nL k n wd lv pc (.int p3 :: .int p2 :: .int p1 :: .int p0 :: rest) := gcI (wd2 := wd) o (c_X2_madeOf (cxl x) o.2.2.2.2.2.2.2.2.2.1 p0 p1 p2 p3 t ht) (can_S o hd (Nat.le_of_ble_eq_true rfl) m_1138 m_56 m_1137 hlk yk_X2_madeOf rfl hr hk dg) sp_none (fun E h => by cases h) (fun r h => by cases h; exact kk)
def rt_X2_close (x : Cx) (a : Nat → Nat) (t : Int32 × St) : Prop := RetI x cX2_close .int 0 0 (wM a t.2 (cxT x)) t.1
set_option maxRecDepth 20000 in
set_option maxHeartbeats 2000000 in
theorem b_X2_close_L36 {x : Cx} (o : Ok x cX2_close 5 RX2 3 0 0) {k n : Nat} (hk : k ≤ 0) (hn : n ≤ 0) (a : Nat → Nat) (c1 : Int32) (c2 : Int32) (c3 : Int32) (r : (Int32 × St) ⊕ (Int32 × St)) (hX : ∀ s : Int32 × St, r = .inl s → G x 5 k n (wM a s.2 (cxT x)) [(4, .int s.1)] 84 []) (hR : ∀ t, r = .inr t → rt_X2_close x a t) : ∀ (m : Nat) (s : Int32 × St), loopN (f_X2_close_s36 c1 c2 c3) m s = some r → G x 5 k n (wM a s.2 (cxT x)) [(0, .ref (a 0)), (1, .int c1), (2, .int c2), (3, .int c3), (4, .int s.1)] 36 [] := by
  refine loop_W _ (fun (s : Int32 × St) => G x 5 k n (wM a s.2 (cxT x)) [(0, .ref (a 0)), (1, .int c1), (2, .int c2), (3, .int c3), (4, .int s.1)] 36 []) r ?_
  intro s ww hf hw
  unfold f_X2_close_s36 at hf
  refine g_iload o 4 rfl dX2_close_36 ?_
  refine g_aload_n o 0 rfl rfl dX2_close_38 ?_
  refine M_get2 o m_921 dX2_close_39 ?_
  refine g_iload_n o 1 rfl rfl dX2_close_42 ?_
  refine M_ld2 o dX2_close_43 hf (fun hf => ?_)
  refine g_ic_eq (tgt := 84) o rfl dX2_close_44 hf (fun hc hf => ?_) (fun hc hf => ?_)
  · exact g_perm [4] rfl (hX _ (lf_x hf hw))
  · refine g_aload_n o 0 rfl rfl dX2_close_47 ?_
    refine M_get2 o m_921 dX2_close_48 ?_
    refine g_iload_n o 1 rfl rfl dX2_close_51 ?_
    refine M_ld2 o dX2_close_52 hf (fun hf => ?_)
    refine g_nmi hf (fun x3 hf => ?_)
    refine g_istore o [(4, .int x3), (0, .ref (a 0)), (1, .int c1), (2, .int c2), (3, .int c3)] (Nat.le_of_ble_eq_true rfl) rfl dX2_close_53 ?_
    refine g_aload_n o 1 rfl rfl dX2_close_55 ?_
    refine M_get2 o m_921 dX2_close_56 ?_
    refine g_iload_n o 2 rfl rfl dX2_close_59 ?_
    refine g_dup2 o rfl rfl dX2_close_60 ?_
    refine M_ld2 o dX2_close_61 hf (fun hf => ?_)
    refine g_iload_n o 3 rfl rfl dX2_close_62 ?_
    refine g_iload_n o 4 rfl rfl dX2_close_63 ?_
    refine g_iload o 0 rfl dX2_close_64 ?_
    refine g_iconst o ic_1 dX2_close_66 ?_
    refine g_aload_n o 1 rfl rfl dX2_close_67 ?_
    refine M_get1 o m_920 dX2_close_68 ?_
    refine g_iload_n o 2 rfl rfl dX2_close_71 ?_
    refine M_ld1 o dX2_close_72 hf (fun hf => ?_)
    refine g_ishl o dX2_close_73 ?_
    refine g_iconst o ic_1 dX2_close_74 ?_
    refine g_isub o dX2_close_75 ?_
    obtain ⟨r4, hr4, hf⟩ := bd_some hf
    refine k_X2_madeOf_ o hr4 m_1136 (Nat.le_of_ble_eq_true rfl) (Nat.le_of_ble_eq_true rfl) ⟨hk, hn⟩ dX2_close_76 ?_
    refine g_ior o dX2_close_79 ?_
    refine M_st2 o dX2_close_80 hf (fun hf => ?_)
    refine g_goto (tgt := 36) o rfl dX2_close_81 ?_
    have hp := lf_c hf hw
    exact g_perm [1, 2, 3, 4, 0] rfl hp
set_option maxRecDepth 20000 in
set_option maxHeartbeats 2000000 in
theorem b_X2_close {x : Cx} (o : Ok x cX2_close 5 RX2 3 0 0) (a : Nat → Nat) (u : St) (p0 : Int32) (p1 : Int32) (p2 : Int32) (t : Int32 × St) (hf : f_X2_close u p0 p1 p2 = some t) (hret : rt_X2_close x a t) : G x 5 0 0 (wM a u (cxT x)) [(0, .ref (a 0)), (1, .int p0), (2, .int p1), (3, .int p2)] 0 [] := by
  unfold f_X2_close at hf
  refine g_aload_n o 0 rfl rfl dX2_close_0 ?_
  refine g_iload_n o 1 rfl rfl dX2_close_1 ?_
  obtain ⟨r1, hr1, hf⟩ := bd_some hf
  refine k_X2_isRelation_ o hr1 m_1031 (Nat.le_of_ble_eq_true rfl) (Nat.le_of_ble_eq_true rfl) ⟨(Nat.le_of_ble_eq_true rfl), (Nat.le_of_ble_eq_true rfl)⟩ dX2_close_2 ?_
  refine g_if_ne (tgt := 14) o rfl dX2_close_5 hf (fun hc hf => ?_) (fun hc hf => ?_)
  · refine g_iload_n o 2 rfl rfl dX2_close_14 ?_
    refine g_iload_n o 3 rfl rfl dX2_close_15 ?_
    obtain ⟨r2, hr2, hf⟩ := bd_some hf
    refine k_X2_isOperation_ o hr2 m_1083 (Nat.le_of_ble_eq_true rfl) (Nat.le_of_ble_eq_true rfl) ⟨(Nat.le_of_ble_eq_true rfl), (Nat.le_of_ble_eq_true rfl)⟩ dX2_close_16 ?_
    refine g_if_ne (tgt := 28) o rfl dX2_close_19 hf (fun hc hf => ?_) (fun hc hf => ?_)
    · refine g_aload_n o 0 rfl rfl dX2_close_28 ?_
      refine g_iconst o ic_0 dX2_close_29 ?_
      refine M_put0 o m_919 dX2_close_30 ?_
      refine g_iconst o ic_m1 dX2_close_33 ?_
      refine g_istore o [(4, .int (-1)), (0, .ref (a 0)), (1, .int p0), (2, .int p1), (3, .int p2)] (Nat.le_of_ble_eq_true rfl) rfl dX2_close_34 ?_
      obtain ⟨r6, hr6, hxr6, hrr6⟩ := bl_some hf
      refine g_perm [1, 2, 3, 4, 0] rfl (b_X2_close_L36 o (Nat.le_of_ble_eq_true rfl) (Nat.le_of_ble_eq_true rfl) a p0 p1 p2 r6 (fun s36 hs => ?_) (fun t5 ht => ?_) FU ((-1), (us u 0 0)) hr6)
      · have hf := hxr6 s36 hs
        refine g_iload o 0 rfl dX2_close_84 ?_
        obtain ⟨r7, hr7, hf⟩ := bd_some hf
        refine k_X2_bits_ o hr7 m_1020 (Nat.le_of_ble_eq_true rfl) (Nat.le_of_ble_eq_true rfl) ⟨(Nat.le_of_ble_eq_true rfl), (Nat.le_of_ble_eq_true rfl)⟩ dX2_close_86 ?_
        cases Option.some.inj hf
        exact g_iret hret (Nat.le_of_ble_eq_true rfl) (Nat.le_of_ble_eq_true rfl) (vp_nar_int _) dX2_close_89
      · have hf := hrr6 t5 ht
        cases Option.some.inj hf
        exact hret
    · refine g_aload_n o 0 rfl rfl dX2_close_22 ?_
      refine g_iconst o ic_2 dX2_close_23 ?_
      obtain ⟨r8, hr8, hf⟩ := bd_some hf
      refine k_X2_fails_ o hr8 m_995 (Nat.le_of_ble_eq_true rfl) (Nat.le_of_ble_eq_true rfl) ⟨(Nat.le_of_ble_eq_true rfl), (Nat.le_of_ble_eq_true rfl)⟩ dX2_close_24 ?_
      cases Option.some.inj hf
      exact g_iret hret (Nat.le_of_ble_eq_true rfl) (Nat.le_of_ble_eq_true rfl) (vp_nar_int _) dX2_close_27
  · refine g_aload_n o 0 rfl rfl dX2_close_8 ?_
    refine g_iconst o ic_1 dX2_close_9 ?_
    obtain ⟨r9, hr9, hf⟩ := bd_some hf
    refine k_X2_fails_ o hr9 m_995 (Nat.le_of_ble_eq_true rfl) (Nat.le_of_ble_eq_true rfl) ⟨(Nat.le_of_ble_eq_true rfl), (Nat.le_of_ble_eq_true rfl)⟩ dX2_close_10 ?_
    cases Option.some.inj hf
    exact g_iret hret (Nat.le_of_ble_eq_true rfl) (Nat.le_of_ble_eq_true rfl) (vp_nar_int _) dX2_close_13
theorem c_X2_close (l : Launch) (hst : l.stackTraces = false) (a : Nat → Nat) (u : St) (p0 : Int32) (p1 : Int32) (p2 : Int32) (t : Int32 × St) (hf : f_X2_close u p0 p1 p2 = some t) : CoI l yX2_close (.code yX2_close cX2_close 5 (some .int)) 3 0 0 [.ref (a 0), .int p0, .int p1, .int p2] (wM a u) (wM a t.2) (.inl t.1) := mkI hst (by decide +kernel) (Nat.le_of_ble_eq_true rfl) (fun x _ o hI hX => b_X2_close o a u p0 p1 p2 t hf (hI _ rfl))
def rt_X2_dual (x : Cx) (a : Nat → Nat) (t : Int32 × St) : Prop := RetI x cX2_dual .int 0 0 (wM a t.2 (cxT x)) t.1
set_option maxRecDepth 20000 in
set_option maxHeartbeats 2000000 in
theorem b_X2_dual_L31 {x : Cx} (o : Ok x cX2_dual 6 RX2 2 0 0) {k n : Nat} (hk : k ≤ 0) (hn : n ≤ 0) (a : Nat → Nat) (u : St) (c2 : Int32) (c4 : Int32) (r : (Int32 × Int32) ⊕ (Int32 × St)) (hX : ∀ s : Int32 × Int32, r = .inl s → G x 6 k n (wM a u (cxT x)) [(3, .int s.1)] 61 []) (hR : ∀ t, r = .inr t → rt_X2_dual x a t) : ∀ (m : Nat) (s : Int32 × Int32), loopN (f_X2_dual_s31 u c2 c4) m s = some r → G x 6 k n (wM a u (cxT x)) [(2, .int c2), (3, .int s.1), (4, .int c4), (5, .int s.2)] 31 [] := by
  refine loop_W _ (fun (s : Int32 × Int32) => G x 6 k n (wM a u (cxT x)) [(2, .int c2), (3, .int s.1), (4, .int c4), (5, .int s.2)] 31 []) r ?_
  intro s ww hf hw
  unfold f_X2_dual_s31 at hf
  refine g_iload o 3 rfl dX2_dual_31 ?_
  refine g_iload o 2 rfl dX2_dual_33 ?_
  refine g_ic_gt (tgt := 61) o rfl dX2_dual_35 hf (fun hc hf => ?_) (fun hc hf => ?_)
  · exact g_perm [1] rfl (hX _ (lf_x hf hw))
  · refine g_iload_n o 1 rfl rfl dX2_dual_38 ?_
    refine g_iconst o ic_1 dX2_dual_39 ?_
    refine g_iload_n o 0 rfl rfl dX2_dual_40 ?_
    refine g_iload o 2 rfl dX2_dual_41 ?_
    refine g_iload o 3 rfl dX2_dual_43 ?_
    refine g_isub o dX2_dual_45 ?_
    refine g_ishr o dX2_dual_46 ?_
    refine g_iconst o ic_1 dX2_dual_47 ?_
    refine g_iand o dX2_dual_48 ?_
    refine g_isub o dX2_dual_49 ?_
    refine g_iload o 3 rfl dX2_dual_50 ?_
    refine g_ishl o dX2_dual_52 ?_
    refine g_ior o dX2_dual_53 ?_
    refine g_nmi hf (fun x3 hf => ?_)
    refine g_istore_n o [(3, .int x3), (2, .int c2), (4, .int c4), (5, .int s.2)] (Nat.le_of_ble_eq_true rfl) rfl rfl dX2_dual_54 ?_
    refine g_iinc o [(5, .int (s.2 + 1)), (3, .int x3), (2, .int c2), (4, .int c4)] 3 rfl (inc_1 _) (Nat.le_of_ble_eq_true rfl) rfl dX2_dual_55 ?_
    refine g_goto (tgt := 31) o rfl dX2_dual_58 ?_
    have hp := lf_c hf hw
    exact g_perm [2, 1, 3, 0] rfl hp
set_option maxRecDepth 20000 in
set_option maxHeartbeats 2000000 in
theorem b_X2_dual {x : Cx} (o : Ok x cX2_dual 6 RX2 2 0 0) (a : Nat → Nat) (u : St) (p0 : Int32) (p1 : Int32) (t : Int32 × St) (hf : f_X2_dual u p0 p1 = some t) (hret : rt_X2_dual x a t) : G x 6 0 0 (wM a u (cxT x)) [(0, .ref (a 0)), (1, .int p0), (2, .int p1)] 0 [] := by
  unfold f_X2_dual at hf
  refine g_iload_n o 1 rfl rfl dX2_dual_0 ?_
  refine g_iload_n o 2 rfl rfl dX2_dual_1 ?_
  obtain ⟨r1, hr1, hf⟩ := bd_some hf
  refine k_X2_isOperation_ o hr1 m_1083 (Nat.le_of_ble_eq_true rfl) (Nat.le_of_ble_eq_true rfl) ⟨(Nat.le_of_ble_eq_true rfl), (Nat.le_of_ble_eq_true rfl)⟩ dX2_dual_2 ?_
  refine g_if_ne (tgt := 14) o rfl dX2_dual_5 hf (fun hc hf => ?_) (fun hc hf => ?_)
  · refine g_aload_n o 0 rfl rfl dX2_dual_14 ?_
    refine g_iconst o ic_0 dX2_dual_15 ?_
    refine M_put0 o m_919 dX2_dual_16 ?_
    refine g_iconst o ic_0 dX2_dual_19 ?_
    refine g_istore_n o [(3, .int 0), (0, .ref (a 0)), (1, .int p0), (2, .int p1)] (Nat.le_of_ble_eq_true rfl) rfl rfl dX2_dual_20 ?_
    refine g_iconst o ic_1 dX2_dual_21 ?_
    refine g_iload_n o 2 rfl rfl dX2_dual_22 ?_
    refine g_ishl o dX2_dual_23 ?_
    refine g_iconst o ic_1 dX2_dual_24 ?_
    refine g_isub o dX2_dual_25 ?_
    refine g_nmi hf (fun x2 hf => ?_)
    refine g_istore o [(4, .int x2), (3, .int 0), (0, .ref (a 0)), (1, .int p0), (2, .int p1)] (Nat.le_of_ble_eq_true rfl) rfl dX2_dual_26 ?_
    refine g_iconst o ic_0 dX2_dual_28 ?_
    refine g_istore o [(5, .int 0), (4, .int x2), (3, .int 0), (0, .ref (a 0)), (1, .int p0), (2, .int p1)] (Nat.le_of_ble_eq_true rfl) rfl dX2_dual_29 ?_
    obtain ⟨r5, hr5, hxr5, hrr5⟩ := bl_some hf
    refine g_perm [5, 2, 1, 0] rfl (b_X2_dual_L31 o (Nat.le_of_ble_eq_true rfl) (Nat.le_of_ble_eq_true rfl) a (us u 0 0) p1 x2 r5 (fun s31 hs => ?_) (fun t4 ht => ?_) FU (0, 0) hr5)
    · have hf := hxr5 s31 hs
      refine g_iload_n o 0 rfl rfl dX2_dual_61 ?_
      cases Option.some.inj hf
      exact g_iret hret (Nat.le_of_ble_eq_true rfl) (Nat.le_of_ble_eq_true rfl) (vp_nar_int _) dX2_dual_62
    · have hf := hrr5 t4 ht
      cases Option.some.inj hf
      exact hret
  · refine g_aload_n o 0 rfl rfl dX2_dual_8 ?_
    refine g_iconst o ic_1 dX2_dual_9 ?_
    obtain ⟨r6, hr6, hf⟩ := bd_some hf
    refine k_X2_fails_ o hr6 m_995 (Nat.le_of_ble_eq_true rfl) (Nat.le_of_ble_eq_true rfl) ⟨(Nat.le_of_ble_eq_true rfl), (Nat.le_of_ble_eq_true rfl)⟩ dX2_dual_10 ?_
    cases Option.some.inj hf
    exact g_iret hret (Nat.le_of_ble_eq_true rfl) (Nat.le_of_ble_eq_true rfl) (vp_nar_int _) dX2_dual_13
theorem c_X2_dual (l : Launch) (hst : l.stackTraces = false) (a : Nat → Nat) (u : St) (p0 : Int32) (p1 : Int32) (t : Int32 × St) (hf : f_X2_dual u p0 p1 = some t) : CoI l yX2_dual (.code yX2_dual cX2_dual 6 (some .int)) 2 0 0 [.ref (a 0), .int p0, .int p1] (wM a u) (wM a t.2) (.inl t.1) := mkI hst (by decide +kernel) (Nat.le_of_ble_eq_true rfl) (fun x _ o hI hX => b_X2_dual o a u p0 p1 t hf (hI _ rfl))
def rt_X2_dependsOn (x : Cx) (a : Nat → Nat) (t : Int32 × St) : Prop := RetI x cX2_dependsOn .boolean 0 0 (wM a t.2 (cxT x)) t.1
set_option maxRecDepth 20000 in
set_option maxHeartbeats 2000000 in
theorem b_X2_dependsOn_L39 {x : Cx} (o : Ok x cX2_dependsOn 5 RX2 2 0 0) {k n : Nat} (hk : k ≤ 0) (hn : n ≤ 0) (a : Nat → Nat) (u : St) (c1 : Int32) (c2 : Int32) (c3 : Int32) (r : (Int32) ⊕ (Int32 × St)) (hX : ∀ s : Int32, r = .inl s → G x 5 k n (wM a u (cxT x)) [] 74 []) (hR : ∀ t, r = .inr t → rt_X2_dependsOn x a t) : ∀ (m : Nat) (s : Int32), loopN (f_X2_dependsOn_s39 u c1 c2 c3) m s = some r → G x 5 k n (wM a u (cxT x)) [(1, .int c1), (2, .int c2), (3, .int c3), (4, .int s)] 39 [] := by
  refine loop_W _ (fun (s : Int32) => G x 5 k n (wM a u (cxT x)) [(1, .int c1), (2, .int c2), (3, .int c3), (4, .int s)] 39 []) r ?_
  intro s ww hf hw
  unfold f_X2_dependsOn_s39 at hf
  refine g_iload o 3 rfl dX2_dependsOn_39 ?_
  refine g_iconst o ic_1 dX2_dependsOn_41 ?_
  refine g_iload_n o 0 rfl rfl dX2_dependsOn_42 ?_
  refine g_ishl o dX2_dependsOn_43 ?_
  refine g_ic_ge (tgt := 74) o rfl dX2_dependsOn_44 hf (fun hc hf => ?_) (fun hc hf => ?_)
  · exact g_perm [] rfl (hX _ (lf_x hf hw))
  · refine g_iload_n o 1 rfl rfl dX2_dependsOn_47 ?_
    refine g_iload o 3 rfl dX2_dependsOn_48 ?_
    refine g_ishr o dX2_dependsOn_50 ?_
    refine g_iconst o ic_1 dX2_dependsOn_51 ?_
    refine g_iand o dX2_dependsOn_52 ?_
    refine g_iload_n o 1 rfl rfl dX2_dependsOn_53 ?_
    refine g_iload o 3 rfl dX2_dependsOn_54 ?_
    refine g_iconst o ic_1 dX2_dependsOn_56 ?_
    refine g_iload_n o 2 rfl rfl dX2_dependsOn_57 ?_
    refine g_ishl o dX2_dependsOn_58 ?_
    refine g_ixor o dX2_dependsOn_59 ?_
    refine g_ishr o dX2_dependsOn_60 ?_
    refine g_iconst o ic_1 dX2_dependsOn_61 ?_
    refine g_iand o dX2_dependsOn_62 ?_
    refine g_ic_eq (tgt := 68) o rfl dX2_dependsOn_63 hf (fun hc hf => ?_) (fun hc hf => ?_)
    · refine g_iinc o [(4, .int (s + 1)), (1, .int c1), (2, .int c2), (3, .int c3)] 3 rfl (inc_1 _) (Nat.le_of_ble_eq_true rfl) rfl dX2_dependsOn_68 ?_
      refine g_goto (tgt := 39) o rfl dX2_dependsOn_71 ?_
      have hp := lf_c hf hw
      exact g_perm [1, 2, 3, 0] rfl hp
    · refine g_iconst o ic_1 dX2_dependsOn_66 ?_
      exact g_iret (hR _ (lf_x hf hw)) hk hn nb_1 dX2_dependsOn_67
set_option maxRecDepth 20000 in
set_option maxHeartbeats 2000000 in
theorem b_X2_dependsOn {x : Cx} (o : Ok x cX2_dependsOn 5 RX2 2 0 0) (a : Nat → Nat) (u : St) (p0 : Int32) (p1 : Int32) (p2 : Int32) (t : Int32 × St) (hf : f_X2_dependsOn u p0 p1 p2 = some t) (hret : rt_X2_dependsOn x a t) : G x 5 0 0 (wM a u (cxT x)) [(0, .ref (a 0)), (1, .int p0), (2, .int p1), (3, .int p2)] 0 [] := by
  unfold f_X2_dependsOn at hf
  refine g_iload_n o 1 rfl rfl dX2_dependsOn_0 ?_
  refine g_iload_n o 2 rfl rfl dX2_dependsOn_1 ?_
  obtain ⟨r1, hr1, hf⟩ := bd_some hf
  refine k_X2_isOperation_ o hr1 m_1083 (Nat.le_of_ble_eq_true rfl) (Nat.le_of_ble_eq_true rfl) ⟨(Nat.le_of_ble_eq_true rfl), (Nat.le_of_ble_eq_true rfl)⟩ dX2_dependsOn_2 ?_
  refine g_if_ne (tgt := 14) o rfl dX2_dependsOn_5 hf (fun hc hf => ?_) (fun hc hf => ?_)
  · refine g_iload_n o 3 rfl rfl dX2_dependsOn_14 ?_
    refine g_iconst o ic_0 dX2_dependsOn_15 ?_
    refine g_iload_n o 1 rfl rfl dX2_dependsOn_16 ?_
    refine g_iconst o ic_1 dX2_dependsOn_17 ?_
    refine g_isub o dX2_dependsOn_18 ?_
    obtain ⟨r2, hr2, hf⟩ := bd_some hf
    refine k_X2_isBetween_ o hr2 m_992 (Nat.le_of_ble_eq_true rfl) (Nat.le_of_ble_eq_true rfl) ⟨(Nat.le_of_ble_eq_true rfl), (Nat.le_of_ble_eq_true rfl)⟩ dX2_dependsOn_19 ?_
    refine g_if_ne (tgt := 31) o rfl dX2_dependsOn_22 hf (fun hc hf => ?_) (fun hc hf => ?_)
    · refine g_aload_n o 0 rfl rfl dX2_dependsOn_31 ?_
      refine g_iconst o ic_0 dX2_dependsOn_32 ?_
      refine M_put0 o m_919 dX2_dependsOn_33 ?_
      refine g_iconst o ic_0 dX2_dependsOn_36 ?_
      refine g_istore o [(4, .int 0), (0, .ref (a 0)), (1, .int p0), (2, .int p1), (3, .int p2)] (Nat.le_of_ble_eq_true rfl) rfl dX2_dependsOn_37 ?_
      obtain ⟨r4, hr4, hxr4, hrr4⟩ := bl_some hf
      refine g_perm [2, 3, 4, 0] rfl (b_X2_dependsOn_L39 o (Nat.le_of_ble_eq_true rfl) (Nat.le_of_ble_eq_true rfl) a (us u 0 0) p0 p1 p2 r4 (fun s39 hs => ?_) (fun t3 ht => ?_) FU 0 hr4)
      · have hf := hxr4 s39 hs
        refine g_iconst o ic_0 dX2_dependsOn_74 ?_
        cases Option.some.inj hf
        exact g_iret hret (Nat.le_of_ble_eq_true rfl) (Nat.le_of_ble_eq_true rfl) nb_0 dX2_dependsOn_75
      · have hf := hrr4 t3 ht
        cases Option.some.inj hf
        exact hret
    · refine g_aload_n o 0 rfl rfl dX2_dependsOn_25 ?_
      refine g_iconst o ic_2 dX2_dependsOn_26 ?_
      obtain ⟨r5, hr5, hf⟩ := bd_some hf
      refine k_X2_refuses_ o hr5 m_1093 (Nat.le_of_ble_eq_true rfl) (Nat.le_of_ble_eq_true rfl) ⟨(Nat.le_of_ble_eq_true rfl), (Nat.le_of_ble_eq_true rfl)⟩ dX2_dependsOn_27 ?_
      obtain ⟨hb, hf⟩ := gd_some hf
      cases Option.some.inj hf
      exact g_iret hret (Nat.le_of_ble_eq_true rfl) (Nat.le_of_ble_eq_true rfl) (okB_n hb) dX2_dependsOn_30
  · refine g_aload_n o 0 rfl rfl dX2_dependsOn_8 ?_
    refine g_iconst o ic_1 dX2_dependsOn_9 ?_
    obtain ⟨r6, hr6, hf⟩ := bd_some hf
    refine k_X2_refuses_ o hr6 m_1093 (Nat.le_of_ble_eq_true rfl) (Nat.le_of_ble_eq_true rfl) ⟨(Nat.le_of_ble_eq_true rfl), (Nat.le_of_ble_eq_true rfl)⟩ dX2_dependsOn_10 ?_
    obtain ⟨hb, hf⟩ := gd_some hf
    cases Option.some.inj hf
    exact g_iret hret (Nat.le_of_ble_eq_true rfl) (Nat.le_of_ble_eq_true rfl) (okB_n hb) dX2_dependsOn_13
theorem c_X2_dependsOn (l : Launch) (hst : l.stackTraces = false) (a : Nat → Nat) (u : St) (p0 : Int32) (p1 : Int32) (p2 : Int32) (t : Int32 × St) (hf : f_X2_dependsOn u p0 p1 p2 = some t) : CoI l yX2_dependsOn (.code yX2_dependsOn cX2_dependsOn 5 (some .boolean)) 2 0 0 [.ref (a 0), .int p0, .int p1, .int p2] (wM a u) (wM a t.2) (.inl t.1) := mkI hst (by decide +kernel) (Nat.le_of_ble_eq_true rfl) (fun x _ o hI hX => b_X2_dependsOn o a u p0 p1 p2 t hf (hI _ rfl))
def rt_X2_compose (x : Cx) (a : Nat → Nat) (t : Int32 × St) : Prop := RetI x cX2_compose .int 0 0 (wM a t.2 (cxT x)) t.1
set_option maxRecDepth 20000 in
set_option maxHeartbeats 2000000 in
theorem b_X2_compose_L35 {x : Cx} (o : Ok x cX2_compose 8 RX2 2 0 0) {k n : Nat} (hk : k ≤ 0) (hn : n ≤ 0) (a : Nat → Nat) (u : St) (c1 : Int32) (c2 : Int32) (c3 : Int32) (r : (Int32 × Int32) ⊕ (Int32 × St)) (hX : ∀ s : Int32 × Int32, r = .inl s → G x 8 k n (wM a u (cxT x)) [(4, .int s.1)] 105 []) (hR : ∀ t, r = .inr t → rt_X2_compose x a t) : ∀ (m : Nat) (s : Int32 × Int32), loopN (f_X2_compose_s35 u c1 c2 c3) m s = some r → G x 8 k n (wM a u (cxT x)) [(1, .int c1), (2, .int c2), (3, .int c3), (4, .int s.1), (5, .int s.2)] 35 [] := by
  refine loop_W _ (fun (s : Int32 × Int32) => G x 8 k n (wM a u (cxT x)) [(1, .int c1), (2, .int c2), (3, .int c3), (4, .int s.1), (5, .int s.2)] 35 []) r ?_
  intro s ww hf hw
  unfold f_X2_compose_s35 at hf
  refine g_iload o 4 rfl dX2_compose_35 ?_
  refine g_iconst o ic_4 dX2_compose_37 ?_
  refine g_ic_ge (tgt := 105) o rfl dX2_compose_38 hf (fun hc hf => ?_) (fun hc hf => ?_)
  · exact g_perm [3] rfl (hX _ (lf_x hf hw))
  · refine g_iload o 4 rfl dX2_compose_41 ?_
    refine g_iconst o ic_1 dX2_compose_43 ?_
    refine g_iand o dX2_compose_44 ?_
    refine g_nmi hf (fun x4 hf => ?_)
    refine g_istore o [(6, .int x4), (1, .int c1), (2, .int c2), (3, .int c3), (4, .int s.1), (5, .int s.2)] (Nat.le_of_ble_eq_true rfl) rfl dX2_compose_45 ?_
    refine g_iload o 5 rfl dX2_compose_47 ?_
    refine g_iconst o ic_1 dX2_compose_49 ?_
    refine g_ishr o dX2_compose_50 ?_
    refine g_nmi hf (fun x5 hf => ?_)
    refine g_istore o [(7, .int x5), (6, .int x4), (1, .int c1), (2, .int c2), (3, .int c3), (4, .int s.1), (5, .int s.2)] (Nat.le_of_ble_eq_true rfl) rfl dX2_compose_51 ?_
    refine g_iload o 5 rfl dX2_compose_53 ?_
    refine g_iload_n o 3 rfl rfl dX2_compose_55 ?_
    refine g_iload_n o 2 rfl rfl dX2_compose_56 ?_
    refine g_iload_n o 4 rfl rfl dX2_compose_57 ?_
    refine g_iload o 1 rfl dX2_compose_58 ?_
    refine g_iconst o ic_2 dX2_compose_60 ?_
    refine g_iload o 0 rfl dX2_compose_61 ?_
    refine g_imul o dX2_compose_63 ?_
    refine g_iadd o dX2_compose_64 ?_
    refine g_ishr o dX2_compose_65 ?_
    refine g_iconst o ic_1 dX2_compose_66 ?_
    refine g_iand o dX2_compose_67 ?_
    refine g_iload_n o 4 rfl rfl dX2_compose_68 ?_
    refine g_iload o 0 rfl dX2_compose_69 ?_
    refine g_iconst o ic_2 dX2_compose_71 ?_
    refine g_iload o 1 rfl dX2_compose_72 ?_
    refine g_imul o dX2_compose_74 ?_
    refine g_iadd o dX2_compose_75 ?_
    refine g_ishr o dX2_compose_76 ?_
    refine g_iconst o ic_1 dX2_compose_77 ?_
    refine g_iand o dX2_compose_78 ?_
    refine g_iload_n o 4 rfl rfl dX2_compose_79 ?_
    refine g_iconst o ic_3 dX2_compose_80 ?_
    refine g_iload o 1 rfl dX2_compose_81 ?_
    refine g_imul o dX2_compose_83 ?_
    refine g_ishr o dX2_compose_84 ?_
    refine g_iconst o ic_1 dX2_compose_85 ?_
    refine g_iand o dX2_compose_86 ?_
    obtain ⟨r6, hr6, hf⟩ := bd_some hf
    refine k_X2_placeOf_ o hr6 m_1086 (Nat.le_of_ble_eq_true rfl) (Nat.le_of_ble_eq_true rfl) ⟨hk, hn⟩ dX2_compose_87 ?_
    refine g_ishr o dX2_compose_90 ?_
    refine g_iconst o ic_1 dX2_compose_91 ?_
    refine g_iand o dX2_compose_92 ?_
    refine g_iload o 6 rfl dX2_compose_93 ?_
    refine g_ishl o dX2_compose_95 ?_
    refine g_ior o dX2_compose_96 ?_
    refine g_nmi hf (fun x7 hf => ?_)
    refine g_istore o [(4, .int x7), (7, .int x5), (6, .int x4), (1, .int c1), (2, .int c2), (3, .int c3), (5, .int s.2)] (Nat.le_of_ble_eq_true rfl) rfl dX2_compose_97 ?_
    refine g_iinc o [(5, .int (s.2 + 1)), (4, .int x7), (7, .int x5), (6, .int x4), (1, .int c1), (2, .int c2), (3, .int c3)] 6 rfl (inc_1 _) (Nat.le_of_ble_eq_true rfl) rfl dX2_compose_99 ?_
    refine g_goto (tgt := 35) o rfl dX2_compose_102 ?_
    have hp := lf_c hf hw
    exact g_perm [4, 5, 6, 1, 0] rfl hp
set_option maxRecDepth 20000 in
set_option maxHeartbeats 2000000 in
theorem b_X2_compose {x : Cx} (o : Ok x cX2_compose 8 RX2 2 0 0) (a : Nat → Nat) (u : St) (p0 : Int32) (p1 : Int32) (p2 : Int32) (t : Int32 × St) (hf : f_X2_compose u p0 p1 p2 = some t) (hret : rt_X2_compose x a t) : G x 8 0 0 (wM a u (cxT x)) [(0, .ref (a 0)), (1, .int p0), (2, .int p1), (3, .int p2)] 0 [] := by
  unfold f_X2_compose at hf
  refine g_iload_n o 1 rfl rfl dX2_compose_0 ?_
  refine g_iload_n o 2 rfl rfl dX2_compose_1 ?_
  obtain ⟨r1, hr1, hf⟩ := bd_some hf
  refine k_X2_isOperation_ o hr1 m_1083 (Nat.le_of_ble_eq_true rfl) (Nat.le_of_ble_eq_true rfl) ⟨(Nat.le_of_ble_eq_true rfl), (Nat.le_of_ble_eq_true rfl)⟩ dX2_compose_2 ?_
  refine g_if_eq (tgt := 18) o rfl dX2_compose_5 hf (fun hc hf => ?_) (fun hc hf => ?_)
  · refine g_aload_n o 0 rfl rfl dX2_compose_18 ?_
    refine g_iconst o ic_1 dX2_compose_19 ?_
    obtain ⟨r2, hr2, hf⟩ := bd_some hf
    refine k_X2_fails_ o hr2 m_995 (Nat.le_of_ble_eq_true rfl) (Nat.le_of_ble_eq_true rfl) ⟨(Nat.le_of_ble_eq_true rfl), (Nat.le_of_ble_eq_true rfl)⟩ dX2_compose_20 ?_
    cases Option.some.inj hf
    exact g_iret hret (Nat.le_of_ble_eq_true rfl) (Nat.le_of_ble_eq_true rfl) (vp_nar_int _) dX2_compose_23
  · refine g_iload_n o 3 rfl rfl dX2_compose_8 ?_
    refine g_iconst o ic_0 dX2_compose_9 ?_
    refine g_bipush o bp_15 dX2_compose_10 ?_
    obtain ⟨r3, hr3, hf⟩ := bd_some hf
    refine k_X2_isBetween_ o hr3 m_992 (Nat.le_of_ble_eq_true rfl) (Nat.le_of_ble_eq_true rfl) ⟨(Nat.le_of_ble_eq_true rfl), (Nat.le_of_ble_eq_true rfl)⟩ dX2_compose_12 ?_
    refine g_if_ne (tgt := 24) o rfl dX2_compose_15 hf (fun hc hf => ?_) (fun hc hf => ?_)
    · refine g_aload_n o 0 rfl rfl dX2_compose_24 ?_
      refine g_iconst o ic_0 dX2_compose_25 ?_
      refine M_put0 o m_919 dX2_compose_26 ?_
      refine g_iconst o ic_0 dX2_compose_29 ?_
      refine g_istore o [(4, .int 0), (0, .ref (a 0)), (1, .int p0), (2, .int p1), (3, .int p2)] (Nat.le_of_ble_eq_true rfl) rfl dX2_compose_30 ?_
      refine g_iconst o ic_0 dX2_compose_32 ?_
      refine g_istore o [(5, .int 0), (4, .int 0), (0, .ref (a 0)), (1, .int p0), (2, .int p1), (3, .int p2)] (Nat.le_of_ble_eq_true rfl) rfl dX2_compose_33 ?_
      obtain ⟨r9, hr9, hxr9, hrr9⟩ := bl_some hf
      refine g_perm [3, 4, 5, 1, 0] rfl (b_X2_compose_L35 o (Nat.le_of_ble_eq_true rfl) (Nat.le_of_ble_eq_true rfl) a (us u 0 0) p0 p1 p2 r9 (fun s35 hs => ?_) (fun t8 ht => ?_) FU (0, 0) hr9)
      · have hf := hxr9 s35 hs
        refine g_iload o 0 rfl dX2_compose_105 ?_
        cases Option.some.inj hf
        exact g_iret hret (Nat.le_of_ble_eq_true rfl) (Nat.le_of_ble_eq_true rfl) (vp_nar_int _) dX2_compose_107
      · have hf := hrr9 t8 ht
        cases Option.some.inj hf
        exact hret
    · refine g_aload_n o 0 rfl rfl dX2_compose_18 ?_
      refine g_iconst o ic_1 dX2_compose_19 ?_
      obtain ⟨r10, hr10, hf⟩ := bd_some hf
      refine k_X2_fails_ o hr10 m_995 (Nat.le_of_ble_eq_true rfl) (Nat.le_of_ble_eq_true rfl) ⟨(Nat.le_of_ble_eq_true rfl), (Nat.le_of_ble_eq_true rfl)⟩ dX2_compose_20 ?_
      cases Option.some.inj hf
      exact g_iret hret (Nat.le_of_ble_eq_true rfl) (Nat.le_of_ble_eq_true rfl) (vp_nar_int _) dX2_compose_23
theorem c_X2_compose (l : Launch) (hst : l.stackTraces = false) (a : Nat → Nat) (u : St) (p0 : Int32) (p1 : Int32) (p2 : Int32) (t : Int32 × St) (hf : f_X2_compose u p0 p1 p2 = some t) : CoI l yX2_compose (.code yX2_compose cX2_compose 8 (some .int)) 2 0 0 [.ref (a 0), .int p0, .int p1, .int p2] (wM a u) (wM a t.2) (.inl t.1) := mkI hst (by decide +kernel) (Nat.le_of_ble_eq_true rfl) (fun x _ o hI hX => b_X2_compose o a u p0 p1 p2 t hf (hI _ rfl))
def rt_X2_relationHasKind (x : Cx) (a : Nat → Nat) (t : Int32 × St) : Prop := RetI x cX2_relationHasKind .boolean 0 0 (wM a t.2 (cxT x)) t.1
set_option maxRecDepth 20000 in
set_option maxHeartbeats 2000000 in
theorem b_X2_relationHasKind {x : Cx} (o : Ok x cX2_relationHasKind 3 RX2 3 0 0) (a : Nat → Nat) (u : St) (p0 : Int32) (p1 : Int32) (t : Int32 × St) (hf : f_X2_relationHasKind u p0 p1 = some t) (hret : rt_X2_relationHasKind x a t) : G x 3 0 0 (wM a u (cxT x)) [(0, .ref (a 0)), (1, .int p0), (2, .int p1)] 0 [] := by
  unfold f_X2_relationHasKind at hf
  refine g_aload_n o 0 rfl rfl dX2_relationHasKind_0 ?_
  refine g_iload_n o 1 rfl rfl dX2_relationHasKind_1 ?_
  obtain ⟨r1, hr1, hf⟩ := bd_some hf
  refine k_X2_isRelation_ o hr1 m_1031 (Nat.le_of_ble_eq_true rfl) (Nat.le_of_ble_eq_true rfl) ⟨(Nat.le_of_ble_eq_true rfl), (Nat.le_of_ble_eq_true rfl)⟩ dX2_relationHasKind_2 ?_
  refine g_if_ne (tgt := 14) o rfl dX2_relationHasKind_5 hf (fun hc hf => ?_) (fun hc hf => ?_)
  · refine g_iload_n o 2 rfl rfl dX2_relationHasKind_14 ?_
    refine g_iconst o ic_0 dX2_relationHasKind_15 ?_
    refine g_iconst o ic_5 dX2_relationHasKind_16 ?_
    obtain ⟨r2, hr2, hf⟩ := bd_some hf
    refine k_X2_isBetween_ o hr2 m_992 (Nat.le_of_ble_eq_true rfl) (Nat.le_of_ble_eq_true rfl) ⟨(Nat.le_of_ble_eq_true rfl), (Nat.le_of_ble_eq_true rfl)⟩ dX2_relationHasKind_17 ?_
    refine g_if_ne (tgt := 29) o rfl dX2_relationHasKind_20 hf (fun hc hf => ?_) (fun hc hf => ?_)
    · refine g_aload_n o 0 rfl rfl dX2_relationHasKind_29 ?_
      refine g_iconst o ic_0 dX2_relationHasKind_30 ?_
      refine M_put0 o m_919 dX2_relationHasKind_31 ?_
      refine g_aload_n o 0 rfl rfl dX2_relationHasKind_34 ?_
      refine g_gets o (ok_KIND_ARITY o) m_1155 dX2_relationHasKind_35 (fun t3 hTt3 => ?_)
      refine g_iload_n o 2 rfl rfl dX2_relationHasKind_38 ?_
      refine g_ti o hTt3 dX2_relationHasKind_39 hf (fun hf => ?_)
      refine g_gets o (ok_KIND_CODE o) m_1157 dX2_relationHasKind_40 (fun t4 hTt4 => ?_)
      refine g_iload_n o 2 rfl rfl dX2_relationHasKind_43 ?_
      refine g_ti o hTt4 dX2_relationHasKind_44 hf (fun hf => ?_)
      refine g_iload_n o 1 rfl rfl dX2_relationHasKind_45 ?_
      obtain ⟨r5, hr5, hf⟩ := bd_some hf
      refine k_X2_doesPreserve_ o hr5 m_1097 (Nat.le_of_ble_eq_true rfl) (Nat.le_of_ble_eq_true rfl) ⟨(Nat.le_of_ble_eq_true rfl), (Nat.le_of_ble_eq_true rfl)⟩ dX2_relationHasKind_46 ?_
      obtain ⟨hb, hf⟩ := gd_some hf
      cases Option.some.inj hf
      exact g_iret hret (Nat.le_of_ble_eq_true rfl) (Nat.le_of_ble_eq_true rfl) (okB_n hb) dX2_relationHasKind_49
    · refine g_aload_n o 0 rfl rfl dX2_relationHasKind_23 ?_
      refine g_iconst o ic_2 dX2_relationHasKind_24 ?_
      obtain ⟨r6, hr6, hf⟩ := bd_some hf
      refine k_X2_refuses_ o hr6 m_1093 (Nat.le_of_ble_eq_true rfl) (Nat.le_of_ble_eq_true rfl) ⟨(Nat.le_of_ble_eq_true rfl), (Nat.le_of_ble_eq_true rfl)⟩ dX2_relationHasKind_25 ?_
      obtain ⟨hb, hf⟩ := gd_some hf
      cases Option.some.inj hf
      exact g_iret hret (Nat.le_of_ble_eq_true rfl) (Nat.le_of_ble_eq_true rfl) (okB_n hb) dX2_relationHasKind_28
  · refine g_aload_n o 0 rfl rfl dX2_relationHasKind_8 ?_
    refine g_iconst o ic_1 dX2_relationHasKind_9 ?_
    obtain ⟨r7, hr7, hf⟩ := bd_some hf
    refine k_X2_refuses_ o hr7 m_1093 (Nat.le_of_ble_eq_true rfl) (Nat.le_of_ble_eq_true rfl) ⟨(Nat.le_of_ble_eq_true rfl), (Nat.le_of_ble_eq_true rfl)⟩ dX2_relationHasKind_10 ?_
    obtain ⟨hb, hf⟩ := gd_some hf
    cases Option.some.inj hf
    exact g_iret hret (Nat.le_of_ble_eq_true rfl) (Nat.le_of_ble_eq_true rfl) (okB_n hb) dX2_relationHasKind_13
theorem c_X2_relationHasKind (l : Launch) (hst : l.stackTraces = false) (a : Nat → Nat) (u : St) (p0 : Int32) (p1 : Int32) (t : Int32 × St) (hf : f_X2_relationHasKind u p0 p1 = some t) : CoI l yX2_relationHasKind (.code yX2_relationHasKind cX2_relationHasKind 3 (some .boolean)) 3 0 0 [.ref (a 0), .int p0, .int p1] (wM a u) (wM a t.2) (.inl t.1) := mkI hst (by decide +kernel) (Nat.le_of_ble_eq_true rfl) (fun x _ o hI hX => b_X2_relationHasKind o a u p0 p1 t hf (hI _ rfl))
def rt_X2_has (x : Cx) (a : Nat → Nat) (u : St) (t : Int32) : Prop := RetI x cX2_has .boolean 0 0 (wM a u (cxT x)) t
set_option maxRecDepth 20000 in
set_option maxHeartbeats 2000000 in
theorem b_X2_has {x : Cx} (o : Ok x cX2_has 2 RX2 4 0 0) (a : Nat → Nat) (u : St) (p0 : Int32) (t : Int32) (hf : f_X2_has u p0 = some t) (hret : rt_X2_has x a u t) : G x 2 0 0 (wM a u (cxT x)) [(0, .ref (a 0)), (1, .int p0)] 0 [] := by
  unfold f_X2_has at hf
  refine g_aload_n o 0 rfl rfl dX2_has_0 ?_
  refine g_gets o (ok_KIND_ARITY o) m_1155 dX2_has_1 (fun t1 hTt1 => ?_)
  refine g_iload_n o 1 rfl rfl dX2_has_4 ?_
  refine g_ti o hTt1 dX2_has_5 hf (fun hf => ?_)
  refine g_gets o (ok_KIND_CODE o) m_1157 dX2_has_6 (fun t2 hTt2 => ?_)
  refine g_iload_n o 1 rfl rfl dX2_has_9 ?_
  refine g_ti o hTt2 dX2_has_10 hf (fun hf => ?_)
  obtain ⟨r3, hr3, hf⟩ := bd_some hf
  refine k_X2_isKept_ o hr3 m_1108 (Nat.le_of_ble_eq_true rfl) (Nat.le_of_ble_eq_true rfl) ⟨(Nat.le_of_ble_eq_true rfl), (Nat.le_of_ble_eq_true rfl)⟩ dX2_has_11 ?_
  obtain ⟨hb, hf⟩ := gd_some hf
  cases Option.some.inj hf
  exact g_iret hret (Nat.le_of_ble_eq_true rfl) (Nat.le_of_ble_eq_true rfl) (okB_n hb) dX2_has_14
theorem c_X2_has (l : Launch) (hst : l.stackTraces = false) (a : Nat → Nat) (u : St) (p0 : Int32) (t : Int32) (hf : f_X2_has u p0 = some t) : CoI l yX2_has (.code yX2_has cX2_has 2 (some .boolean)) 4 0 0 [.ref (a 0), .int p0] (wM a u) (wM a u) (.inl t) := mkI hst (by decide +kernel) (Nat.le_of_ble_eq_true rfl) (fun x _ o hI hX => b_X2_has o a u p0 t hf (hI _ rfl))
theorem k_X2_has_ {x : Cx} {cc : ByteArray} {nL : Nat} {own : String} {d mc ms k n : Nat} {lv : List (Nat × Value)} {pc i : Nat} {rest : List Value} {a : Nat → Nat} {u : St} {p0 : Int32} (o : Ok x cc nL own d mc ms) {t : Int32} (ht : f_X2_has u p0 = some t) (hlk : Cond.methodLink own i yX2_has ∈ Ug) (hd : 4 < d) (hr : (rest.map fun v => v.category).sum ≤ 8) (hk : k + 0 ≤ mc ∧ n + 0 ≤ ms) (dg : decode cc pc = .ok (.invokevirtual i, 3)) (kk : G x nL (k + 0) (n + 0) (wM a u (cxT x)) lv (pc + 3) (.int t :: rest)) : G x nL k n (wM a u (cxT x)) lv pc (.int p0 :: .ref (a 0) :: rest) := gcI (wd2 := (wM a u (cxT x))) o (c_X2_has (cxl x) o.2.2.2.2.2.2.2.2.2.1 a u p0 t ht) (can_V (q0 := 0) o rfl rfl hd (Nat.le_of_ble_eq_true rfl) m_1166 m_56 m_1165 m_40 hlk yk_X2_has rfl hr hk dg) sp_M (fun E h => by cases h) (fun r h => by cases h; exact kk)
def rt_X2_hasKind (x : Cx) (a : Nat → Nat) (t : Int32 × St) : Prop := RetI x cX2_hasKind .boolean 0 0 (wM a t.2 (cxT x)) t.1
set_option maxRecDepth 20000 in
set_option maxHeartbeats 2000000 in
theorem b_X2_hasKind {x : Cx} (o : Ok x cX2_hasKind 2 RX2 5 0 0) (a : Nat → Nat) (u : St) (p0 : Int32) (t : Int32 × St) (hf : f_X2_hasKind u p0 = some t) (hret : rt_X2_hasKind x a t) : G x 2 0 0 (wM a u (cxT x)) [(0, .ref (a 0)), (1, .int p0)] 0 [] := by
  unfold f_X2_hasKind at hf
  refine g_iload_n o 1 rfl rfl dX2_hasKind_0 ?_
  refine g_iconst o ic_0 dX2_hasKind_1 ?_
  refine g_iconst o ic_5 dX2_hasKind_2 ?_
  obtain ⟨r1, hr1, hf⟩ := bd_some hf
  refine k_X2_isBetween_ o hr1 m_992 (Nat.le_of_ble_eq_true rfl) (Nat.le_of_ble_eq_true rfl) ⟨(Nat.le_of_ble_eq_true rfl), (Nat.le_of_ble_eq_true rfl)⟩ dX2_hasKind_3 ?_
  refine g_if_ne (tgt := 15) o rfl dX2_hasKind_6 hf (fun hc hf => ?_) (fun hc hf => ?_)
  · refine g_aload_n o 0 rfl rfl dX2_hasKind_15 ?_
    refine g_iconst o ic_0 dX2_hasKind_16 ?_
    refine M_put0 o m_919 dX2_hasKind_17 ?_
    refine g_aload_n o 0 rfl rfl dX2_hasKind_20 ?_
    refine g_iload_n o 1 rfl rfl dX2_hasKind_21 ?_
    obtain ⟨r2, hr2, hf⟩ := bd_some hf
    refine k_X2_has_ o hr2 m_1163 (Nat.le_of_ble_eq_true rfl) (Nat.le_of_ble_eq_true rfl) ⟨(Nat.le_of_ble_eq_true rfl), (Nat.le_of_ble_eq_true rfl)⟩ dX2_hasKind_22 ?_
    obtain ⟨hb, hf⟩ := gd_some hf
    cases Option.some.inj hf
    exact g_iret hret (Nat.le_of_ble_eq_true rfl) (Nat.le_of_ble_eq_true rfl) (okB_n hb) dX2_hasKind_25
  · refine g_aload_n o 0 rfl rfl dX2_hasKind_9 ?_
    refine g_iconst o ic_1 dX2_hasKind_10 ?_
    obtain ⟨r3, hr3, hf⟩ := bd_some hf
    refine k_X2_refuses_ o hr3 m_1093 (Nat.le_of_ble_eq_true rfl) (Nat.le_of_ble_eq_true rfl) ⟨(Nat.le_of_ble_eq_true rfl), (Nat.le_of_ble_eq_true rfl)⟩ dX2_hasKind_11 ?_
    obtain ⟨hb, hf⟩ := gd_some hf
    cases Option.some.inj hf
    exact g_iret hret (Nat.le_of_ble_eq_true rfl) (Nat.le_of_ble_eq_true rfl) (okB_n hb) dX2_hasKind_14
theorem c_X2_hasKind (l : Launch) (hst : l.stackTraces = false) (a : Nat → Nat) (u : St) (p0 : Int32) (t : Int32 × St) (hf : f_X2_hasKind u p0 = some t) : CoI l yX2_hasKind (.code yX2_hasKind cX2_hasKind 2 (some .boolean)) 5 0 0 [.ref (a 0), .int p0] (wM a u) (wM a t.2) (.inl t.1) := mkI hst (by decide +kernel) (Nat.le_of_ble_eq_true rfl) (fun x _ o hI hX => b_X2_hasKind o a u p0 t hf (hI _ rfl))
def rt_X2_lowestKind (x : Cx) (a : Nat → Nat) (t : Int32 × St) : Prop := RetI x cX2_lowestKind .int 0 0 (wM a t.2 (cxT x)) t.1
set_option maxRecDepth 20000 in
set_option maxHeartbeats 2000000 in
theorem b_X2_lowestKind_L7 {x : Cx} (o : Ok x cX2_lowestKind 2 RX2 5 0 0) {k n : Nat} (hk : k ≤ 0) (hn : n ≤ 0) (a : Nat → Nat) (u : St) (r : (Int32) ⊕ (Int32 × St)) (hX : ∀ s : Int32, r = .inl s → G x 2 k n (wM a u (cxT x)) [(0, .ref (a 0))] 29 []) (hR : ∀ t, r = .inr t → rt_X2_lowestKind x a t) : ∀ (m : Nat) (s : Int32), loopN (f_X2_lowestKind_s7 u) m s = some r → G x 2 k n (wM a u (cxT x)) [(0, .ref (a 0)), (1, .int s)] 7 [] := by
  refine loop_W _ (fun (s : Int32) => G x 2 k n (wM a u (cxT x)) [(0, .ref (a 0)), (1, .int s)] 7 []) r ?_
  intro s ww hf hw
  unfold f_X2_lowestKind_s7 at hf
  refine g_iload_n o 1 rfl rfl dX2_lowestKind_7 ?_
  refine g_bipush o bp_6 dX2_lowestKind_8 ?_
  refine g_ic_ge (tgt := 29) o rfl dX2_lowestKind_10 hf (fun hc hf => ?_) (fun hc hf => ?_)
  · exact g_perm [0] rfl (hX _ (lf_x hf hw))
  · refine g_aload_n o 0 rfl rfl dX2_lowestKind_13 ?_
    refine g_iload_n o 1 rfl rfl dX2_lowestKind_14 ?_
    obtain ⟨r1, hr1, hf⟩ := bd_some hf
    refine k_X2_has_ o hr1 m_1163 (Nat.le_of_ble_eq_true rfl) (Nat.le_of_ble_eq_true rfl) ⟨hk, hn⟩ dX2_lowestKind_15 ?_
    refine g_if_eq (tgt := 23) o rfl dX2_lowestKind_18 hf (fun hc hf => ?_) (fun hc hf => ?_)
    · refine g_iinc o [(1, .int (s + 1)), (0, .ref (a 0))] 1 rfl (inc_1 _) (Nat.le_of_ble_eq_true rfl) rfl dX2_lowestKind_23 ?_
      refine g_goto (tgt := 7) o rfl dX2_lowestKind_26 ?_
      have hp := lf_c hf hw
      exact g_perm [1, 0] rfl hp
    · refine g_iload_n o 1 rfl rfl dX2_lowestKind_21 ?_
      exact g_iret (hR _ (lf_x hf hw)) hk hn (vp_nar_int _) dX2_lowestKind_22
set_option maxRecDepth 20000 in
set_option maxHeartbeats 2000000 in
theorem b_X2_lowestKind {x : Cx} (o : Ok x cX2_lowestKind 2 RX2 5 0 0) (a : Nat → Nat) (u : St) (t : Int32 × St) (hf : f_X2_lowestKind u = some t) (hret : rt_X2_lowestKind x a t) : G x 2 0 0 (wM a u (cxT x)) [(0, .ref (a 0))] 0 [] := by
  unfold f_X2_lowestKind at hf
  refine g_aload_n o 0 rfl rfl dX2_lowestKind_0 ?_
  refine g_iconst o ic_0 dX2_lowestKind_1 ?_
  refine M_put0 o m_919 dX2_lowestKind_2 ?_
  refine g_iconst o ic_0 dX2_lowestKind_5 ?_
  refine g_istore_n o [(1, .int 0), (0, .ref (a 0))] (Nat.le_of_ble_eq_true rfl) rfl rfl dX2_lowestKind_6 ?_
  obtain ⟨r3, hr3, hxr3, hrr3⟩ := bl_some hf
  refine g_perm [1, 0] rfl (b_X2_lowestKind_L7 o (Nat.le_of_ble_eq_true rfl) (Nat.le_of_ble_eq_true rfl) a (us u 0 0) r3 (fun s7 hs => ?_) (fun t2 ht => ?_) FU 0 hr3)
  · have hf := hxr3 s7 hs
    refine g_aload_n o 0 rfl rfl dX2_lowestKind_29 ?_
    refine g_iconst o ic_1 dX2_lowestKind_30 ?_
    obtain ⟨r4, hr4, hf⟩ := bd_some hf
    refine k_X2_fails_ o hr4 m_995 (Nat.le_of_ble_eq_true rfl) (Nat.le_of_ble_eq_true rfl) ⟨(Nat.le_of_ble_eq_true rfl), (Nat.le_of_ble_eq_true rfl)⟩ dX2_lowestKind_31 ?_
    cases Option.some.inj hf
    exact g_iret hret (Nat.le_of_ble_eq_true rfl) (Nat.le_of_ble_eq_true rfl) (vp_nar_int _) dX2_lowestKind_34
  · have hf := hrr3 t2 ht
    cases Option.some.inj hf
    exact hret
theorem c_X2_lowestKind (l : Launch) (hst : l.stackTraces = false) (a : Nat → Nat) (u : St) (t : Int32 × St) (hf : f_X2_lowestKind u = some t) : CoI l yX2_lowestKind (.code yX2_lowestKind cX2_lowestKind 2 (some .int)) 5 0 0 [.ref (a 0)] (wM a u) (wM a t.2) (.inl t.1) := mkI hst (by decide +kernel) (Nat.le_of_ble_eq_true rfl) (fun x _ o hI hX => b_X2_lowestKind o a u t hf (hI _ rfl))
def rt_X2_setVariables (x : Cx) (a : Nat → Nat) (t : Int32 × St) : Prop := RetI x cX2_setVariables .int 0 0 (wM a t.2 (cxT x)) t.1
set_option maxRecDepth 20000 in
set_option maxHeartbeats 2000000 in
theorem b_X2_setVariables {x : Cx} (o : Ok x cX2_setVariables 3 RX2 1 0 0) (a : Nat → Nat) (u : St) (p0 : Int32) (t : Int32 × St) (hf : f_X2_setVariables u p0 = some t) (hret : rt_X2_setVariables x a t) : G x 3 0 0 (wM a u (cxT x)) [(0, .ref (a 0)), (1, .int p0)] 0 [] := by
  unfold f_X2_setVariables at hf
  refine g_iload_n o 1 rfl rfl dX2_setVariables_0 ?_
  refine g_iconst o ic_1 dX2_setVariables_1 ?_
  refine g_bipush o bp_10 dX2_setVariables_2 ?_
  obtain ⟨r1, hr1, hf⟩ := bd_some hf
  refine k_X2_isBetween_ o hr1 m_992 (Nat.le_of_ble_eq_true rfl) (Nat.le_of_ble_eq_true rfl) ⟨(Nat.le_of_ble_eq_true rfl), (Nat.le_of_ble_eq_true rfl)⟩ dX2_setVariables_4 ?_
  refine g_if_ne (tgt := 16) o rfl dX2_setVariables_7 hf (fun hc hf => ?_) (fun hc hf => ?_)
  · refine g_aload_n o 0 rfl rfl dX2_setVariables_16 ?_
    refine g_iconst o ic_0 dX2_setVariables_17 ?_
    refine M_put0 o m_919 dX2_setVariables_18 ?_
    refine g_aload_n o 0 rfl rfl dX2_setVariables_21 ?_
    refine M_get7 o m_926 dX2_setVariables_22 ?_
    refine g_nmi hf (fun x2 hf => ?_)
    refine g_istore_n o [(2, .int x2), (0, .ref (a 0)), (1, .int p0)] (Nat.le_of_ble_eq_true rfl) rfl rfl dX2_setVariables_25 ?_
    refine g_aload_n o 1 rfl rfl dX2_setVariables_26 ?_
    refine g_iconst o ic_0 dX2_setVariables_27 ?_
    refine M_put7 o m_926 dX2_setVariables_28 ?_
    refine g_aload_n o 1 rfl rfl dX2_setVariables_31 ?_
    refine g_iload_n o 2 rfl rfl dX2_setVariables_32 ?_
    refine M_put6 o m_925 dX2_setVariables_33 ?_
    refine g_iload_n o 0 rfl rfl dX2_setVariables_36 ?_
    cases Option.some.inj hf
    exact g_iret hret (Nat.le_of_ble_eq_true rfl) (Nat.le_of_ble_eq_true rfl) (vp_nar_int _) dX2_setVariables_37
  · refine g_aload_n o 0 rfl rfl dX2_setVariables_10 ?_
    refine g_iconst o ic_1 dX2_setVariables_11 ?_
    obtain ⟨r3, hr3, hf⟩ := bd_some hf
    refine k_X2_fails_ o hr3 m_995 (Nat.le_of_ble_eq_true rfl) (Nat.le_of_ble_eq_true rfl) ⟨(Nat.le_of_ble_eq_true rfl), (Nat.le_of_ble_eq_true rfl)⟩ dX2_setVariables_12 ?_
    cases Option.some.inj hf
    exact g_iret hret (Nat.le_of_ble_eq_true rfl) (Nat.le_of_ble_eq_true rfl) (vp_nar_int _) dX2_setVariables_15
theorem c_X2_setVariables (l : Launch) (hst : l.stackTraces = false) (a : Nat → Nat) (u : St) (p0 : Int32) (t : Int32 × St) (hf : f_X2_setVariables u p0 = some t) : CoI l yX2_setVariables (.code yX2_setVariables cX2_setVariables 3 (some .int)) 1 0 0 [.ref (a 0), .int p0] (wM a u) (wM a t.2) (.inl t.1) := mkI hst (by decide +kernel) (Nat.le_of_ble_eq_true rfl) (fun x _ o hI hX => b_X2_setVariables o a u p0 t hf (hI _ rfl))
def rt_X2_isVariable (x : Cx) (a : Nat → Nat) (u : St) (t : Int32) : Prop := RetI x cX2_isVariable .boolean 0 0 (wM a u (cxT x)) t
set_option maxRecDepth 20000 in
set_option maxHeartbeats 2000000 in
theorem b_X2_isVariable {x : Cx} (o : Ok x cX2_isVariable 2 RX2 0 0 0) (a : Nat → Nat) (u : St) (p0 : Int32) (t : Int32) (hf : f_X2_isVariable u p0 = some t) (hret : rt_X2_isVariable x a u t) : G x 2 0 0 (wM a u (cxT x)) [(0, .ref (a 0)), (1, .int p0)] 0 [] := by
  unfold f_X2_isVariable at hf
  refine g_iload_n o 1 rfl rfl dX2_isVariable_0 ?_
  refine g_if_lt (tgt := 16) o rfl dX2_isVariable_1 hf (fun hc hf => ?_) (fun hc hf => ?_)
  · refine g_iconst o ic_0 dX2_isVariable_16 ?_
    cases Option.some.inj hf
    exact g_iret hret (Nat.le_of_ble_eq_true rfl) (Nat.le_of_ble_eq_true rfl) nb_0 dX2_isVariable_17
  · refine g_iload_n o 1 rfl rfl dX2_isVariable_4 ?_
    refine g_aload_n o 0 rfl rfl dX2_isVariable_5 ?_
    refine M_get6 o m_925 dX2_isVariable_6 ?_
    refine g_ic_ge (tgt := 16) o rfl dX2_isVariable_9 hf (fun hc hf => ?_) (fun hc hf => ?_)
    · refine g_iconst o ic_0 dX2_isVariable_16 ?_
      cases Option.some.inj hf
      exact g_iret hret (Nat.le_of_ble_eq_true rfl) (Nat.le_of_ble_eq_true rfl) nb_0 dX2_isVariable_17
    · refine g_iconst o ic_1 dX2_isVariable_12 ?_
      refine g_goto (tgt := 17) o rfl dX2_isVariable_13 ?_
      cases Option.some.inj hf
      exact g_iret hret (Nat.le_of_ble_eq_true rfl) (Nat.le_of_ble_eq_true rfl) nb_1 dX2_isVariable_17
theorem c_X2_isVariable (l : Launch) (hst : l.stackTraces = false) (a : Nat → Nat) (u : St) (p0 : Int32) (t : Int32) (hf : f_X2_isVariable u p0 = some t) : CoI l yX2_isVariable (.code yX2_isVariable cX2_isVariable 2 (some .boolean)) 0 0 0 [.ref (a 0), .int p0] (wM a u) (wM a u) (.inl t) := mkI hst (by decide +kernel) (Nat.le_of_ble_eq_true rfl) (fun x _ o hI hX => b_X2_isVariable o a u p0 t hf (hI _ rfl))
theorem k_X2_isVariable_ {x : Cx} {cc : ByteArray} {nL : Nat} {own : String} {d mc ms k n : Nat} {lv : List (Nat × Value)} {pc i : Nat} {rest : List Value} {a : Nat → Nat} {u : St} {p0 : Int32} (o : Ok x cc nL own d mc ms) {t : Int32} (ht : f_X2_isVariable u p0 = some t) (hlk : Cond.methodLink own i yX2_isVariable ∈ Ug) (hd : 0 < d) (hr : (rest.map fun v => v.category).sum ≤ 8) (hk : k + 0 ≤ mc ∧ n + 0 ≤ ms) (dg : decode cc pc = .ok (.invokevirtual i, 3)) (kk : G x nL (k + 0) (n + 0) (wM a u (cxT x)) lv (pc + 3) (.int t :: rest)) : G x nL k n (wM a u (cxT x)) lv pc (.int p0 :: .ref (a 0) :: rest) := gcI (wd2 := (wM a u (cxT x))) o (c_X2_isVariable (cxl x) o.2.2.2.2.2.2.2.2.2.1 a u p0 t ht) (can_V (q0 := 0) o rfl rfl hd (Nat.le_of_ble_eq_true rfl) m_1186 m_56 m_1185 m_42 hlk yk_X2_isVariable rfl hr hk dg) sp_M (fun E h => by cases h) (fun r h => by cases h; exact kk)
def rt_X2_areVariables (x : Cx) (a : Nat → Nat) (u : St) (t : Int32) : Prop := RetI x cX2_areVariables .boolean 0 0 (wM a u (cxT x)) t
set_option maxRecDepth 20000 in
set_option maxHeartbeats 2000000 in
theorem b_X2_areVariables {x : Cx} (o : Ok x cX2_areVariables 6 RX2 1 0 0) (a : Nat → Nat) (u : St) (p0 : Int32) (p1 : Int32) (p2 : Int32) (p3 : Int32) (p4 : Int32) (t : Int32) (hf : f_X2_areVariables u p0 p1 p2 p3 p4 = some t) (hret : rt_X2_areVariables x a u t) : G x 6 0 0 (wM a u (cxT x)) [(0, .ref (a 0)), (1, .int p0), (2, .int p1), (3, .int p2), (4, .int p3), (5, .int p4)] 0 [] := by
  unfold f_X2_areVariables at hf
  refine g_aload_n o 0 rfl rfl dX2_areVariables_0 ?_
  refine g_iload_n o 2 rfl rfl dX2_areVariables_1 ?_
  obtain ⟨r1, hr1, hf⟩ := bd_some hf
  refine k_X2_isVariable_ o hr1 m_1183 (Nat.le_of_ble_eq_true rfl) (Nat.le_of_ble_eq_true rfl) ⟨(Nat.le_of_ble_eq_true rfl), (Nat.le_of_ble_eq_true rfl)⟩ dX2_areVariables_2 ?_
  refine g_if_eq (tgt := 53) o rfl dX2_areVariables_5 hf (fun hc hf => ?_) (fun hc hf => ?_)
  · refine g_iconst o ic_0 dX2_areVariables_53 ?_
    cases Option.some.inj hf
    exact g_iret hret (Nat.le_of_ble_eq_true rfl) (Nat.le_of_ble_eq_true rfl) nb_0 dX2_areVariables_54
  · refine g_iload_n o 1 rfl rfl dX2_areVariables_8 ?_
    refine g_iconst o ic_2 dX2_areVariables_9 ?_
    refine g_ic_lt (tgt := 21) o rfl dX2_areVariables_10 hf (fun hc hf => ?_) (fun hc hf => ?_)
    · refine g_iload_n o 1 rfl rfl dX2_areVariables_21 ?_
      refine g_iconst o ic_3 dX2_areVariables_22 ?_
      refine g_ic_lt (tgt := 35) o rfl dX2_areVariables_23 hf (fun hc hf => ?_) (fun hc hf => ?_)
      · refine g_iload_n o 1 rfl rfl dX2_areVariables_35 ?_
        refine g_iconst o ic_4 dX2_areVariables_36 ?_
        refine g_ic_lt (tgt := 49) o rfl dX2_areVariables_37 hf (fun hc hf => ?_) (fun hc hf => ?_)
        · refine g_iconst o ic_1 dX2_areVariables_49 ?_
          refine g_goto (tgt := 54) o rfl dX2_areVariables_50 ?_
          cases Option.some.inj hf
          exact g_iret hret (Nat.le_of_ble_eq_true rfl) (Nat.le_of_ble_eq_true rfl) nb_1 dX2_areVariables_54
        · refine g_aload_n o 0 rfl rfl dX2_areVariables_40 ?_
          refine g_iload o 5 rfl dX2_areVariables_41 ?_
          obtain ⟨r2, hr2, hf⟩ := bd_some hf
          refine k_X2_isVariable_ o hr2 m_1183 (Nat.le_of_ble_eq_true rfl) (Nat.le_of_ble_eq_true rfl) ⟨(Nat.le_of_ble_eq_true rfl), (Nat.le_of_ble_eq_true rfl)⟩ dX2_areVariables_43 ?_
          refine g_if_eq (tgt := 53) o rfl dX2_areVariables_46 hf (fun hc hf => ?_) (fun hc hf => ?_)
          · refine g_iconst o ic_0 dX2_areVariables_53 ?_
            cases Option.some.inj hf
            exact g_iret hret (Nat.le_of_ble_eq_true rfl) (Nat.le_of_ble_eq_true rfl) nb_0 dX2_areVariables_54
          · refine g_iconst o ic_1 dX2_areVariables_49 ?_
            refine g_goto (tgt := 54) o rfl dX2_areVariables_50 ?_
            cases Option.some.inj hf
            exact g_iret hret (Nat.le_of_ble_eq_true rfl) (Nat.le_of_ble_eq_true rfl) nb_1 dX2_areVariables_54
      · refine g_aload_n o 0 rfl rfl dX2_areVariables_26 ?_
        refine g_iload o 4 rfl dX2_areVariables_27 ?_
        obtain ⟨r3, hr3, hf⟩ := bd_some hf
        refine k_X2_isVariable_ o hr3 m_1183 (Nat.le_of_ble_eq_true rfl) (Nat.le_of_ble_eq_true rfl) ⟨(Nat.le_of_ble_eq_true rfl), (Nat.le_of_ble_eq_true rfl)⟩ dX2_areVariables_29 ?_
        refine g_if_eq (tgt := 53) o rfl dX2_areVariables_32 hf (fun hc hf => ?_) (fun hc hf => ?_)
        · refine g_iconst o ic_0 dX2_areVariables_53 ?_
          cases Option.some.inj hf
          exact g_iret hret (Nat.le_of_ble_eq_true rfl) (Nat.le_of_ble_eq_true rfl) nb_0 dX2_areVariables_54
        · refine g_iload_n o 1 rfl rfl dX2_areVariables_35 ?_
          refine g_iconst o ic_4 dX2_areVariables_36 ?_
          refine g_ic_lt (tgt := 49) o rfl dX2_areVariables_37 hf (fun hc hf => ?_) (fun hc hf => ?_)
          · refine g_iconst o ic_1 dX2_areVariables_49 ?_
            refine g_goto (tgt := 54) o rfl dX2_areVariables_50 ?_
            cases Option.some.inj hf
            exact g_iret hret (Nat.le_of_ble_eq_true rfl) (Nat.le_of_ble_eq_true rfl) nb_1 dX2_areVariables_54
          · refine g_aload_n o 0 rfl rfl dX2_areVariables_40 ?_
            refine g_iload o 5 rfl dX2_areVariables_41 ?_
            obtain ⟨r4, hr4, hf⟩ := bd_some hf
            refine k_X2_isVariable_ o hr4 m_1183 (Nat.le_of_ble_eq_true rfl) (Nat.le_of_ble_eq_true rfl) ⟨(Nat.le_of_ble_eq_true rfl), (Nat.le_of_ble_eq_true rfl)⟩ dX2_areVariables_43 ?_
            refine g_if_eq (tgt := 53) o rfl dX2_areVariables_46 hf (fun hc hf => ?_) (fun hc hf => ?_)
            · refine g_iconst o ic_0 dX2_areVariables_53 ?_
              cases Option.some.inj hf
              exact g_iret hret (Nat.le_of_ble_eq_true rfl) (Nat.le_of_ble_eq_true rfl) nb_0 dX2_areVariables_54
            · refine g_iconst o ic_1 dX2_areVariables_49 ?_
              refine g_goto (tgt := 54) o rfl dX2_areVariables_50 ?_
              cases Option.some.inj hf
              exact g_iret hret (Nat.le_of_ble_eq_true rfl) (Nat.le_of_ble_eq_true rfl) nb_1 dX2_areVariables_54
    · refine g_aload_n o 0 rfl rfl dX2_areVariables_13 ?_
      refine g_iload_n o 3 rfl rfl dX2_areVariables_14 ?_
      obtain ⟨r5, hr5, hf⟩ := bd_some hf
      refine k_X2_isVariable_ o hr5 m_1183 (Nat.le_of_ble_eq_true rfl) (Nat.le_of_ble_eq_true rfl) ⟨(Nat.le_of_ble_eq_true rfl), (Nat.le_of_ble_eq_true rfl)⟩ dX2_areVariables_15 ?_
      refine g_if_eq (tgt := 53) o rfl dX2_areVariables_18 hf (fun hc hf => ?_) (fun hc hf => ?_)
      · refine g_iconst o ic_0 dX2_areVariables_53 ?_
        cases Option.some.inj hf
        exact g_iret hret (Nat.le_of_ble_eq_true rfl) (Nat.le_of_ble_eq_true rfl) nb_0 dX2_areVariables_54
      · refine g_iload_n o 1 rfl rfl dX2_areVariables_21 ?_
        refine g_iconst o ic_3 dX2_areVariables_22 ?_
        refine g_ic_lt (tgt := 35) o rfl dX2_areVariables_23 hf (fun hc hf => ?_) (fun hc hf => ?_)
        · refine g_iload_n o 1 rfl rfl dX2_areVariables_35 ?_
          refine g_iconst o ic_4 dX2_areVariables_36 ?_
          refine g_ic_lt (tgt := 49) o rfl dX2_areVariables_37 hf (fun hc hf => ?_) (fun hc hf => ?_)
          · refine g_iconst o ic_1 dX2_areVariables_49 ?_
            refine g_goto (tgt := 54) o rfl dX2_areVariables_50 ?_
            cases Option.some.inj hf
            exact g_iret hret (Nat.le_of_ble_eq_true rfl) (Nat.le_of_ble_eq_true rfl) nb_1 dX2_areVariables_54
          · refine g_aload_n o 0 rfl rfl dX2_areVariables_40 ?_
            refine g_iload o 5 rfl dX2_areVariables_41 ?_
            obtain ⟨r6, hr6, hf⟩ := bd_some hf
            refine k_X2_isVariable_ o hr6 m_1183 (Nat.le_of_ble_eq_true rfl) (Nat.le_of_ble_eq_true rfl) ⟨(Nat.le_of_ble_eq_true rfl), (Nat.le_of_ble_eq_true rfl)⟩ dX2_areVariables_43 ?_
            refine g_if_eq (tgt := 53) o rfl dX2_areVariables_46 hf (fun hc hf => ?_) (fun hc hf => ?_)
            · refine g_iconst o ic_0 dX2_areVariables_53 ?_
              cases Option.some.inj hf
              exact g_iret hret (Nat.le_of_ble_eq_true rfl) (Nat.le_of_ble_eq_true rfl) nb_0 dX2_areVariables_54
            · refine g_iconst o ic_1 dX2_areVariables_49 ?_
              refine g_goto (tgt := 54) o rfl dX2_areVariables_50 ?_
              cases Option.some.inj hf
              exact g_iret hret (Nat.le_of_ble_eq_true rfl) (Nat.le_of_ble_eq_true rfl) nb_1 dX2_areVariables_54
        · refine g_aload_n o 0 rfl rfl dX2_areVariables_26 ?_
          refine g_iload o 4 rfl dX2_areVariables_27 ?_
          obtain ⟨r7, hr7, hf⟩ := bd_some hf
          refine k_X2_isVariable_ o hr7 m_1183 (Nat.le_of_ble_eq_true rfl) (Nat.le_of_ble_eq_true rfl) ⟨(Nat.le_of_ble_eq_true rfl), (Nat.le_of_ble_eq_true rfl)⟩ dX2_areVariables_29 ?_
          refine g_if_eq (tgt := 53) o rfl dX2_areVariables_32 hf (fun hc hf => ?_) (fun hc hf => ?_)
          · refine g_iconst o ic_0 dX2_areVariables_53 ?_
            cases Option.some.inj hf
            exact g_iret hret (Nat.le_of_ble_eq_true rfl) (Nat.le_of_ble_eq_true rfl) nb_0 dX2_areVariables_54
          · refine g_iload_n o 1 rfl rfl dX2_areVariables_35 ?_
            refine g_iconst o ic_4 dX2_areVariables_36 ?_
            refine g_ic_lt (tgt := 49) o rfl dX2_areVariables_37 hf (fun hc hf => ?_) (fun hc hf => ?_)
            · refine g_iconst o ic_1 dX2_areVariables_49 ?_
              refine g_goto (tgt := 54) o rfl dX2_areVariables_50 ?_
              cases Option.some.inj hf
              exact g_iret hret (Nat.le_of_ble_eq_true rfl) (Nat.le_of_ble_eq_true rfl) nb_1 dX2_areVariables_54
            · refine g_aload_n o 0 rfl rfl dX2_areVariables_40 ?_
              refine g_iload o 5 rfl dX2_areVariables_41 ?_
              obtain ⟨r8, hr8, hf⟩ := bd_some hf
              refine k_X2_isVariable_ o hr8 m_1183 (Nat.le_of_ble_eq_true rfl) (Nat.le_of_ble_eq_true rfl) ⟨(Nat.le_of_ble_eq_true rfl), (Nat.le_of_ble_eq_true rfl)⟩ dX2_areVariables_43 ?_
              refine g_if_eq (tgt := 53) o rfl dX2_areVariables_46 hf (fun hc hf => ?_) (fun hc hf => ?_)
              · refine g_iconst o ic_0 dX2_areVariables_53 ?_
                cases Option.some.inj hf
                exact g_iret hret (Nat.le_of_ble_eq_true rfl) (Nat.le_of_ble_eq_true rfl) nb_0 dX2_areVariables_54
              · refine g_iconst o ic_1 dX2_areVariables_49 ?_
                refine g_goto (tgt := 54) o rfl dX2_areVariables_50 ?_
                cases Option.some.inj hf
                exact g_iret hret (Nat.le_of_ble_eq_true rfl) (Nat.le_of_ble_eq_true rfl) nb_1 dX2_areVariables_54
theorem c_X2_areVariables (l : Launch) (hst : l.stackTraces = false) (a : Nat → Nat) (u : St) (p0 : Int32) (p1 : Int32) (p2 : Int32) (p3 : Int32) (p4 : Int32) (t : Int32) (hf : f_X2_areVariables u p0 p1 p2 p3 p4 = some t) : CoI l yX2_areVariables (.code yX2_areVariables cX2_areVariables 6 (some .boolean)) 1 0 0 [.ref (a 0), .int p0, .int p1, .int p2, .int p3, .int p4] (wM a u) (wM a u) (.inl t) := mkI hst (by decide +kernel) (Nat.le_of_ble_eq_true rfl) (fun x _ o hI hX => b_X2_areVariables o a u p0 p1 p2 p3 p4 t hf (hI _ rfl))
theorem k_X2_areVariables_ {x : Cx} {cc : ByteArray} {nL : Nat} {own : String} {d mc ms k n : Nat} {lv : List (Nat × Value)} {pc i : Nat} {rest : List Value} {a : Nat → Nat} {u : St} {p0 : Int32} {p1 : Int32} {p2 : Int32} {p3 : Int32} {p4 : Int32} (o : Ok x cc nL own d mc ms) {t : Int32} (ht : f_X2_areVariables u p0 p1 p2 p3 p4 = some t) (hlk : Cond.methodLink own i yX2_areVariables ∈ Ug) (hd : 1 < d) (hr : (rest.map fun v => v.category).sum ≤ 8) (hk : k + 0 ≤ mc ∧ n + 0 ≤ ms) (dg : decode cc pc = .ok (.invokevirtual i, 3)) (kk : G x nL (k + 0) (n + 0) (wM a u (cxT x)) lv (pc + 3) (.int t :: rest)) : G x nL k n (wM a u (cxT x)) lv pc (.int p4 :: .int p3 :: .int p2 :: .int p1 :: .int p0 :: .ref (a 0) :: rest) := gcI (wd2 := (wM a u (cxT x))) o (c_X2_areVariables (cxl x) o.2.2.2.2.2.2.2.2.2.1 a u p0 p1 p2 p3 p4 t ht) (can_V (q0 := 0) o rfl rfl hd (Nat.le_of_ble_eq_true rfl) m_1182 m_56 m_1181 m_41 hlk yk_X2_areVariables rfl hr hk dg) sp_M (fun E h => by cases h) (fun r h => by cases h; exact kk)
def rt_X2_addConstraint (x : Cx) (a : Nat → Nat) (t : Int32 × St) : Prop := RetI x cX2_addConstraint .int 0 0 (wM a t.2 (cxT x)) t.1
set_option maxRecDepth 20000 in
set_option maxHeartbeats 2000000 in
theorem b_X2_addConstraint {x : Cx} (o : Ok x cX2_addConstraint 7 RX2 2 0 0) (a : Nat → Nat) (u : St) (p0 : Int32) (p1 : Int32) (p2 : Int32) (p3 : Int32) (p4 : Int32) (t : Int32 × St) (hf : f_X2_addConstraint u p0 p1 p2 p3 p4 = some t) (hret : rt_X2_addConstraint x a t) : G x 7 0 0 (wM a u (cxT x)) [(0, .ref (a 0)), (1, .int p0), (2, .int p1), (3, .int p2), (4, .int p3), (5, .int p4)] 0 [] := by
  unfold f_X2_addConstraint at hf
  refine g_aload_n o 0 rfl rfl dX2_addConstraint_0 ?_
  refine g_iload_n o 1 rfl rfl dX2_addConstraint_1 ?_
  obtain ⟨r1, hr1, hf⟩ := bd_some hf
  refine k_X2_isRelation_ o hr1 m_1031 (Nat.le_of_ble_eq_true rfl) (Nat.le_of_ble_eq_true rfl) ⟨(Nat.le_of_ble_eq_true rfl), (Nat.le_of_ble_eq_true rfl)⟩ dX2_addConstraint_2 ?_
  refine g_if_eq (tgt := 27) o rfl dX2_addConstraint_5 hf (fun hc hf => ?_) (fun hc hf => ?_)
  · refine g_aload_n o 0 rfl rfl dX2_addConstraint_27 ?_
    refine g_iconst o ic_1 dX2_addConstraint_28 ?_
    obtain ⟨r2, hr2, hf⟩ := bd_some hf
    refine k_X2_fails_ o hr2 m_995 (Nat.le_of_ble_eq_true rfl) (Nat.le_of_ble_eq_true rfl) ⟨(Nat.le_of_ble_eq_true rfl), (Nat.le_of_ble_eq_true rfl)⟩ dX2_addConstraint_29 ?_
    cases Option.some.inj hf
    exact g_iret hret (Nat.le_of_ble_eq_true rfl) (Nat.le_of_ble_eq_true rfl) (vp_nar_int _) dX2_addConstraint_32
  · refine g_aload_n o 0 rfl rfl dX2_addConstraint_8 ?_
    refine g_aload_n o 0 rfl rfl dX2_addConstraint_9 ?_
    refine M_get1 o m_920 dX2_addConstraint_10 ?_
    refine g_iload_n o 1 rfl rfl dX2_addConstraint_13 ?_
    refine M_ld1 o dX2_addConstraint_14 hf (fun hf => ?_)
    refine g_iload_n o 2 rfl rfl dX2_addConstraint_15 ?_
    refine g_iload_n o 3 rfl rfl dX2_addConstraint_16 ?_
    refine g_iload o 4 rfl dX2_addConstraint_17 ?_
    refine g_iload o 5 rfl dX2_addConstraint_19 ?_
    obtain ⟨r3, hr3, hf⟩ := bd_some hf
    refine k_X2_areVariables_ o hr3 m_1179 (Nat.le_of_ble_eq_true rfl) (Nat.le_of_ble_eq_true rfl) ⟨(Nat.le_of_ble_eq_true rfl), (Nat.le_of_ble_eq_true rfl)⟩ dX2_addConstraint_21 ?_
    refine g_if_ne (tgt := 33) o rfl dX2_addConstraint_24 hf (fun hc hf => ?_) (fun hc hf => ?_)
    · refine g_aload_n o 0 rfl rfl dX2_addConstraint_33 ?_
      refine M_get7 o m_926 dX2_addConstraint_34 ?_
      refine g_bipush o bp_20 dX2_addConstraint_37 ?_
      refine g_ic_ne (tgt := 48) o rfl dX2_addConstraint_39 hf (fun hc hf => ?_) (fun hc hf => ?_)
      · refine g_aload_n o 0 rfl rfl dX2_addConstraint_48 ?_
        refine g_iconst o ic_0 dX2_addConstraint_49 ?_
        refine M_put0 o m_919 dX2_addConstraint_50 ?_
        refine g_iconst o ic_4 dX2_addConstraint_53 ?_
        refine g_aload_n o 0 rfl rfl dX2_addConstraint_54 ?_
        refine M_get7 o m_926 dX2_addConstraint_55 ?_
        refine g_imul o dX2_addConstraint_58 ?_
        refine g_nmi hf (fun x4 hf => ?_)
        refine g_istore o [(6, .int x4), (0, .ref (a 0)), (1, .int p0), (2, .int p1), (3, .int p2), (4, .int p3), (5, .int p4)] (Nat.le_of_ble_eq_true rfl) rfl dX2_addConstraint_59 ?_
        refine g_aload_n o 1 rfl rfl dX2_addConstraint_61 ?_
        refine M_get4 o m_923 dX2_addConstraint_62 ?_
        refine g_aload_n o 1 rfl rfl dX2_addConstraint_65 ?_
        refine M_get7 o m_926 dX2_addConstraint_66 ?_
        refine g_iload_n o 2 rfl rfl dX2_addConstraint_69 ?_
        refine M_st4 o dX2_addConstraint_70 hf (fun hf => ?_)
        refine g_aload_n o 1 rfl rfl dX2_addConstraint_71 ?_
        refine M_get5 o m_924 dX2_addConstraint_72 ?_
        refine g_iload o 0 rfl dX2_addConstraint_75 ?_
        refine g_iload_n o 3 rfl rfl dX2_addConstraint_77 ?_
        refine M_st5 o dX2_addConstraint_78 hf (fun hf => ?_)
        refine g_aload_n o 1 rfl rfl dX2_addConstraint_79 ?_
        refine M_get5 o m_924 dX2_addConstraint_80 ?_
        refine g_iload o 0 rfl dX2_addConstraint_83 ?_
        refine g_iconst o ic_1 dX2_addConstraint_85 ?_
        refine g_iadd o dX2_addConstraint_86 ?_
        refine g_iload_n o 4 rfl rfl dX2_addConstraint_87 ?_
        refine M_st5 o dX2_addConstraint_88 hf (fun hf => ?_)
        refine g_aload_n o 1 rfl rfl dX2_addConstraint_89 ?_
        refine M_get5 o m_924 dX2_addConstraint_90 ?_
        refine g_iload o 0 rfl dX2_addConstraint_93 ?_
        refine g_iconst o ic_2 dX2_addConstraint_95 ?_
        refine g_iadd o dX2_addConstraint_96 ?_
        refine g_iload o 5 rfl dX2_addConstraint_97 ?_
        refine M_st5 o dX2_addConstraint_99 hf (fun hf => ?_)
        refine g_aload_n o 1 rfl rfl dX2_addConstraint_100 ?_
        refine M_get5 o m_924 dX2_addConstraint_101 ?_
        refine g_iload o 0 rfl dX2_addConstraint_104 ?_
        refine g_iconst o ic_3 dX2_addConstraint_106 ?_
        refine g_iadd o dX2_addConstraint_107 ?_
        refine g_iload o 6 rfl dX2_addConstraint_108 ?_
        refine M_st5 o dX2_addConstraint_110 hf (fun hf => ?_)
        refine g_aload_n o 1 rfl rfl dX2_addConstraint_111 ?_
        refine g_dup o rfl dX2_addConstraint_112 ?_
        refine M_get7 o m_926 dX2_addConstraint_113 ?_
        refine g_iconst o ic_1 dX2_addConstraint_116 ?_
        refine g_iadd o dX2_addConstraint_117 ?_
        refine M_put7 o m_926 dX2_addConstraint_118 ?_
        refine g_aload_n o 1 rfl rfl dX2_addConstraint_121 ?_
        refine M_get7 o m_926 dX2_addConstraint_122 ?_
        refine g_iconst o ic_1 dX2_addConstraint_125 ?_
        refine g_isub o dX2_addConstraint_126 ?_
        cases Option.some.inj hf
        exact g_iret hret (Nat.le_of_ble_eq_true rfl) (Nat.le_of_ble_eq_true rfl) (vp_nar_int _) dX2_addConstraint_127
      · refine g_aload_n o 0 rfl rfl dX2_addConstraint_42 ?_
        refine g_iconst o ic_2 dX2_addConstraint_43 ?_
        obtain ⟨r5, hr5, hf⟩ := bd_some hf
        refine k_X2_fails_ o hr5 m_995 (Nat.le_of_ble_eq_true rfl) (Nat.le_of_ble_eq_true rfl) ⟨(Nat.le_of_ble_eq_true rfl), (Nat.le_of_ble_eq_true rfl)⟩ dX2_addConstraint_44 ?_
        cases Option.some.inj hf
        exact g_iret hret (Nat.le_of_ble_eq_true rfl) (Nat.le_of_ble_eq_true rfl) (vp_nar_int _) dX2_addConstraint_47
    · refine g_aload_n o 0 rfl rfl dX2_addConstraint_27 ?_
      refine g_iconst o ic_1 dX2_addConstraint_28 ?_
      obtain ⟨r6, hr6, hf⟩ := bd_some hf
      refine k_X2_fails_ o hr6 m_995 (Nat.le_of_ble_eq_true rfl) (Nat.le_of_ble_eq_true rfl) ⟨(Nat.le_of_ble_eq_true rfl), (Nat.le_of_ble_eq_true rfl)⟩ dX2_addConstraint_29 ?_
      cases Option.some.inj hf
      exact g_iret hret (Nat.le_of_ble_eq_true rfl) (Nat.le_of_ble_eq_true rfl) (vp_nar_int _) dX2_addConstraint_32
theorem c_X2_addConstraint (l : Launch) (hst : l.stackTraces = false) (a : Nat → Nat) (u : St) (p0 : Int32) (p1 : Int32) (p2 : Int32) (p3 : Int32) (p4 : Int32) (t : Int32 × St) (hf : f_X2_addConstraint u p0 p1 p2 p3 p4 = some t) : CoI l yX2_addConstraint (.code yX2_addConstraint cX2_addConstraint 7 (some .int)) 2 0 0 [.ref (a 0), .int p0, .int p1, .int p2, .int p3, .int p4] (wM a u) (wM a t.2) (.inl t.1) := mkI hst (by decide +kernel) (Nat.le_of_ble_eq_true rfl) (fun x _ o hI hX => b_X2_addConstraint o a u p0 p1 p2 p3 p4 t hf (hI _ rfl))
def rt_X2_removeLastConstraint (x : Cx) (a : Nat → Nat) (t : Int32 × St) : Prop := RetI x cX2_removeLastConstraint .int 0 0 (wM a t.2 (cxT x)) t.1
set_option maxRecDepth 20000 in
set_option maxHeartbeats 2000000 in
theorem b_X2_removeLastConstraint {x : Cx} (o : Ok x cX2_removeLastConstraint 1 RX2 1 0 0) (a : Nat → Nat) (u : St) (t : Int32 × St) (hf : f_X2_removeLastConstraint u = some t) (hret : rt_X2_removeLastConstraint x a t) : G x 1 0 0 (wM a u (cxT x)) [(0, .ref (a 0))] 0 [] := by
  unfold f_X2_removeLastConstraint at hf
  refine g_aload_n o 0 rfl rfl dX2_removeLastConstraint_0 ?_
  refine M_get7 o m_926 dX2_removeLastConstraint_1 ?_
  refine g_if_ne (tgt := 13) o rfl dX2_removeLastConstraint_4 hf (fun hc hf => ?_) (fun hc hf => ?_)
  · refine g_aload_n o 0 rfl rfl dX2_removeLastConstraint_13 ?_
    refine g_iconst o ic_0 dX2_removeLastConstraint_14 ?_
    refine M_put0 o m_919 dX2_removeLastConstraint_15 ?_
    refine g_aload_n o 0 rfl rfl dX2_removeLastConstraint_18 ?_
    refine g_dup o rfl dX2_removeLastConstraint_19 ?_
    refine M_get7 o m_926 dX2_removeLastConstraint_20 ?_
    refine g_iconst o ic_1 dX2_removeLastConstraint_23 ?_
    refine g_isub o dX2_removeLastConstraint_24 ?_
    refine M_put7 o m_926 dX2_removeLastConstraint_25 ?_
    refine g_aload_n o 0 rfl rfl dX2_removeLastConstraint_28 ?_
    refine M_get7 o m_926 dX2_removeLastConstraint_29 ?_
    cases Option.some.inj hf
    exact g_iret hret (Nat.le_of_ble_eq_true rfl) (Nat.le_of_ble_eq_true rfl) (vp_nar_int _) dX2_removeLastConstraint_32
  · refine g_aload_n o 0 rfl rfl dX2_removeLastConstraint_7 ?_
    refine g_iconst o ic_1 dX2_removeLastConstraint_8 ?_
    obtain ⟨r1, hr1, hf⟩ := bd_some hf
    refine k_X2_fails_ o hr1 m_995 (Nat.le_of_ble_eq_true rfl) (Nat.le_of_ble_eq_true rfl) ⟨(Nat.le_of_ble_eq_true rfl), (Nat.le_of_ble_eq_true rfl)⟩ dX2_removeLastConstraint_9 ?_
    cases Option.some.inj hf
    exact g_iret hret (Nat.le_of_ble_eq_true rfl) (Nat.le_of_ble_eq_true rfl) (vp_nar_int _) dX2_removeLastConstraint_12
theorem c_X2_removeLastConstraint (l : Launch) (hst : l.stackTraces = false) (a : Nat → Nat) (u : St) (t : Int32 × St) (hf : f_X2_removeLastConstraint u = some t) : CoI l yX2_removeLastConstraint (.code yX2_removeLastConstraint cX2_removeLastConstraint 1 (some .int)) 1 0 0 [.ref (a 0)] (wM a u) (wM a t.2) (.inl t.1) := mkI hst (by decide +kernel) (Nat.le_of_ble_eq_true rfl) (fun x _ o hI hX => b_X2_removeLastConstraint o a u t hf (hI _ rfl))
def rt_X2_isSatisfied (x : Cx) (a : Nat → Nat) (u : St) (t : Int32) : Prop := RetI x cX2_isSatisfied .boolean 0 0 (wM a u (cxT x)) t
set_option maxRecDepth 20000 in
set_option maxHeartbeats 2000000 in
theorem b_X2_isSatisfied_L5 {x : Cx} (o : Ok x cX2_isSatisfied 5 RX2 0 0 0) {k n : Nat} (hk : k ≤ 0) (hn : n ≤ 0) (a : Nat → Nat) (u : St) (c1 : Int32) (c2 : Int32) (r : (Int32 × Int32) ⊕ (Int32)) (hX : ∀ s : Int32 × Int32, r = .inl s → G x 5 k n (wM a u (cxT x)) [(0, .ref (a 0)), (1, .int c1), (3, .int s.1)] 48 []) (hR : ∀ t, r = .inr t → rt_X2_isSatisfied x a u t) : ∀ (m : Nat) (s : Int32 × Int32), loopN (f_X2_isSatisfied_s5 u c1 c2) m s = some r → G x 5 k n (wM a u (cxT x)) [(0, .ref (a 0)), (1, .int c1), (2, .int c2), (3, .int s.1), (4, .int s.2)] 5 [] := by
  refine loop_W _ (fun (s : Int32 × Int32) => G x 5 k n (wM a u (cxT x)) [(0, .ref (a 0)), (1, .int c1), (2, .int c2), (3, .int s.1), (4, .int s.2)] 5 []) r ?_
  intro s ww hf hw
  unfold f_X2_isSatisfied_s5 at hf
  refine g_iload o 4 rfl dX2_isSatisfied_5 ?_
  refine g_aload_n o 0 rfl rfl dX2_isSatisfied_7 ?_
  refine M_get1 o m_920 dX2_isSatisfied_8 ?_
  refine g_aload_n o 0 rfl rfl dX2_isSatisfied_11 ?_
  refine M_get4 o m_923 dX2_isSatisfied_12 ?_
  refine g_iload_n o 1 rfl rfl dX2_isSatisfied_15 ?_
  refine M_ld4 o dX2_isSatisfied_16 hf (fun hf => ?_)
  refine M_ld1 o dX2_isSatisfied_17 hf (fun hf => ?_)
  refine g_ic_ge (tgt := 48) o rfl dX2_isSatisfied_18 hf (fun hc hf => ?_) (fun hc hf => ?_)
  · exact g_perm [0, 1, 3] rfl (hX _ (lf_x hf hw))
  · refine g_iload_n o 3 rfl rfl dX2_isSatisfied_21 ?_
    refine g_iload_n o 2 rfl rfl dX2_isSatisfied_22 ?_
    refine g_aload_n o 0 rfl rfl dX2_isSatisfied_23 ?_
    refine M_get5 o m_924 dX2_isSatisfied_24 ?_
    refine g_iconst o ic_4 dX2_isSatisfied_27 ?_
    refine g_iload_n o 1 rfl rfl dX2_isSatisfied_28 ?_
    refine g_imul o dX2_isSatisfied_29 ?_
    refine g_iload o 4 rfl dX2_isSatisfied_30 ?_
    refine g_iadd o dX2_isSatisfied_32 ?_
    refine M_ld5 o dX2_isSatisfied_33 hf (fun hf => ?_)
    refine g_ishr o dX2_isSatisfied_34 ?_
    refine g_iconst o ic_1 dX2_isSatisfied_35 ?_
    refine g_iand o dX2_isSatisfied_36 ?_
    refine g_iload o 4 rfl dX2_isSatisfied_37 ?_
    refine g_ishl o dX2_isSatisfied_39 ?_
    refine g_ior o dX2_isSatisfied_40 ?_
    refine g_nmi hf (fun x1 hf => ?_)
    refine g_istore_n o [(3, .int x1), (0, .ref (a 0)), (1, .int c1), (2, .int c2), (4, .int s.2)] (Nat.le_of_ble_eq_true rfl) rfl rfl dX2_isSatisfied_41 ?_
    refine g_iinc o [(4, .int (s.2 + 1)), (3, .int x1), (0, .ref (a 0)), (1, .int c1), (2, .int c2)] 4 rfl (inc_1 _) (Nat.le_of_ble_eq_true rfl) rfl dX2_isSatisfied_42 ?_
    refine g_goto (tgt := 5) o rfl dX2_isSatisfied_45 ?_
    have hp := lf_c hf hw
    exact g_perm [2, 3, 4, 1, 0] rfl hp
set_option maxRecDepth 20000 in
set_option maxHeartbeats 2000000 in
theorem b_X2_isSatisfied {x : Cx} (o : Ok x cX2_isSatisfied 5 RX2 0 0 0) (a : Nat → Nat) (u : St) (p0 : Int32) (p1 : Int32) (t : Int32) (hf : f_X2_isSatisfied u p0 p1 = some t) (hret : rt_X2_isSatisfied x a u t) : G x 5 0 0 (wM a u (cxT x)) [(0, .ref (a 0)), (1, .int p0), (2, .int p1)] 0 [] := by
  unfold f_X2_isSatisfied at hf
  refine g_iconst o ic_0 dX2_isSatisfied_0 ?_
  refine g_istore_n o [(3, .int 0), (0, .ref (a 0)), (1, .int p0), (2, .int p1)] (Nat.le_of_ble_eq_true rfl) rfl rfl dX2_isSatisfied_1 ?_
  refine g_iconst o ic_0 dX2_isSatisfied_2 ?_
  refine g_istore o [(4, .int 0), (3, .int 0), (0, .ref (a 0)), (1, .int p0), (2, .int p1)] (Nat.le_of_ble_eq_true rfl) rfl dX2_isSatisfied_3 ?_
  obtain ⟨r3, hr3, hxr3, hrr3⟩ := bl_some hf
  refine g_perm [2, 3, 4, 1, 0] rfl (b_X2_isSatisfied_L5 o (Nat.le_of_ble_eq_true rfl) (Nat.le_of_ble_eq_true rfl) a u p0 p1 r3 (fun s5 hs => ?_) (fun t2 ht => ?_) FU (0, 0) hr3)
  · have hf := hxr3 s5 hs
    refine g_aload_n o 0 rfl rfl dX2_isSatisfied_48 ?_
    refine M_get2 o m_921 dX2_isSatisfied_49 ?_
    refine g_aload_n o 0 rfl rfl dX2_isSatisfied_52 ?_
    refine M_get4 o m_923 dX2_isSatisfied_53 ?_
    refine g_iload_n o 1 rfl rfl dX2_isSatisfied_56 ?_
    refine M_ld4 o dX2_isSatisfied_57 hf (fun hf => ?_)
    refine M_ld2 o dX2_isSatisfied_58 hf (fun hf => ?_)
    refine g_iload_n o 2 rfl rfl dX2_isSatisfied_59 ?_
    refine g_ishr o dX2_isSatisfied_60 ?_
    refine g_iconst o ic_1 dX2_isSatisfied_61 ?_
    refine g_iand o dX2_isSatisfied_62 ?_
    refine g_iconst o ic_1 dX2_isSatisfied_63 ?_
    refine g_ic_ne (tgt := 71) o rfl dX2_isSatisfied_64 hf (fun hc hf => ?_) (fun hc hf => ?_)
    · refine g_iconst o ic_0 dX2_isSatisfied_71 ?_
      cases Option.some.inj hf
      exact g_iret hret (Nat.le_of_ble_eq_true rfl) (Nat.le_of_ble_eq_true rfl) nb_0 dX2_isSatisfied_72
    · refine g_iconst o ic_1 dX2_isSatisfied_67 ?_
      refine g_goto (tgt := 72) o rfl dX2_isSatisfied_68 ?_
      cases Option.some.inj hf
      exact g_iret hret (Nat.le_of_ble_eq_true rfl) (Nat.le_of_ble_eq_true rfl) nb_1 dX2_isSatisfied_72
  · have hf := hrr3 t2 ht
    cases Option.some.inj hf
    exact hret
theorem c_X2_isSatisfied (l : Launch) (hst : l.stackTraces = false) (a : Nat → Nat) (u : St) (p0 : Int32) (p1 : Int32) (t : Int32) (hf : f_X2_isSatisfied u p0 p1 = some t) : CoI l yX2_isSatisfied (.code yX2_isSatisfied cX2_isSatisfied 5 (some .boolean)) 0 0 0 [.ref (a 0), .int p0, .int p1] (wM a u) (wM a u) (.inl t) := mkI hst (by decide +kernel) (Nat.le_of_ble_eq_true rfl) (fun x _ o hI hX => b_X2_isSatisfied o a u p0 p1 t hf (hI _ rfl))
theorem k_X2_isSatisfied_ {x : Cx} {cc : ByteArray} {nL : Nat} {own : String} {d mc ms k n : Nat} {lv : List (Nat × Value)} {pc i : Nat} {rest : List Value} {a : Nat → Nat} {u : St} {p0 : Int32} {p1 : Int32} (o : Ok x cc nL own d mc ms) {t : Int32} (ht : f_X2_isSatisfied u p0 p1 = some t) (hlk : Cond.methodLink own i yX2_isSatisfied ∈ Ug) (hd : 0 < d) (hr : (rest.map fun v => v.category).sum ≤ 8) (hk : k + 0 ≤ mc ∧ n + 0 ≤ ms) (dg : decode cc pc = .ok (.invokevirtual i, 3)) (kk : G x nL (k + 0) (n + 0) (wM a u (cxT x)) lv (pc + 3) (.int t :: rest)) : G x nL k n (wM a u (cxT x)) lv pc (.int p1 :: .int p0 :: .ref (a 0) :: rest) := gcI (wd2 := (wM a u (cxT x))) o (c_X2_isSatisfied (cxl x) o.2.2.2.2.2.2.2.2.2.1 a u p0 p1 t ht) (can_V (q0 := 0) o rfl rfl hd (Nat.le_of_ble_eq_true rfl) m_1206 m_56 m_1205 m_45 hlk yk_X2_isSatisfied rfl hr hk dg) sp_M (fun E h => by cases h) (fun r h => by cases h; exact kk)
def rt_X2_solves (x : Cx) (a : Nat → Nat) (u : St) (t : Int32) : Prop := RetI x cX2_solves .boolean 0 0 (wM a u (cxT x)) t
set_option maxRecDepth 20000 in
set_option maxHeartbeats 2000000 in
theorem b_X2_solves_L2 {x : Cx} (o : Ok x cX2_solves 4 RX2 1 0 0) {k n : Nat} (hk : k ≤ 0) (hn : n ≤ 0) (a : Nat → Nat) (u : St) (c1 : Int32) (c2 : Int32) (r : (Int32) ⊕ (Int32)) (hX : ∀ s : Int32, r = .inl s → G x 4 k n (wM a u (cxT x)) [] 32 []) (hR : ∀ t, r = .inr t → rt_X2_solves x a u t) : ∀ (m : Nat) (s : Int32), loopN (f_X2_solves_s2 u c1 c2) m s = some r → G x 4 k n (wM a u (cxT x)) [(0, .ref (a 0)), (1, .int c1), (2, .int c2), (3, .int s)] 2 [] := by
  refine loop_W _ (fun (s : Int32) => G x 4 k n (wM a u (cxT x)) [(0, .ref (a 0)), (1, .int c1), (2, .int c2), (3, .int s)] 2 []) r ?_
  intro s ww hf hw
  unfold f_X2_solves_s2 at hf
  refine g_iload_n o 3 rfl rfl dX2_solves_2 ?_
  refine g_aload_n o 0 rfl rfl dX2_solves_3 ?_
  refine M_get7 o m_926 dX2_solves_4 ?_
  refine g_ic_ge (tgt := 32) o rfl dX2_solves_7 hf (fun hc hf => ?_) (fun hc hf => ?_)
  · exact g_perm [] rfl (hX _ (lf_x hf hw))
  · refine g_iload_n o 3 rfl rfl dX2_solves_10 ?_
    refine g_iload_n o 2 rfl rfl dX2_solves_11 ?_
    refine g_ic_eq (tgt := 26) o rfl dX2_solves_12 hf (fun hc hf => ?_) (fun hc hf => ?_)
    · refine g_iinc o [(3, .int (s + 1)), (0, .ref (a 0)), (1, .int c1), (2, .int c2)] 3 rfl (inc_1 _) (Nat.le_of_ble_eq_true rfl) rfl dX2_solves_26 ?_
      refine g_goto (tgt := 2) o rfl dX2_solves_29 ?_
      have hp := lf_c hf hw
      exact g_perm [1, 2, 3, 0] rfl hp
    · refine g_aload_n o 0 rfl rfl dX2_solves_15 ?_
      refine g_iload_n o 3 rfl rfl dX2_solves_16 ?_
      refine g_iload_n o 1 rfl rfl dX2_solves_17 ?_
      obtain ⟨r1, hr1, hf⟩ := bd_some hf
      refine k_X2_isSatisfied_ o hr1 m_1203 (Nat.le_of_ble_eq_true rfl) (Nat.le_of_ble_eq_true rfl) ⟨hk, hn⟩ dX2_solves_18 ?_
      refine g_if_ne (tgt := 26) o rfl dX2_solves_21 hf (fun hc hf => ?_) (fun hc hf => ?_)
      · refine g_iinc o [(3, .int (s + 1)), (0, .ref (a 0)), (1, .int c1), (2, .int c2)] 3 rfl (inc_1 _) (Nat.le_of_ble_eq_true rfl) rfl dX2_solves_26 ?_
        refine g_goto (tgt := 2) o rfl dX2_solves_29 ?_
        have hp := lf_c hf hw
        exact g_perm [1, 2, 3, 0] rfl hp
      · refine g_iconst o ic_0 dX2_solves_24 ?_
        exact g_iret (hR _ (lf_x hf hw)) hk hn nb_0 dX2_solves_25
set_option maxRecDepth 20000 in
set_option maxHeartbeats 2000000 in
theorem b_X2_solves {x : Cx} (o : Ok x cX2_solves 4 RX2 1 0 0) (a : Nat → Nat) (u : St) (p0 : Int32) (p1 : Int32) (t : Int32) (hf : f_X2_solves u p0 p1 = some t) (hret : rt_X2_solves x a u t) : G x 4 0 0 (wM a u (cxT x)) [(0, .ref (a 0)), (1, .int p0), (2, .int p1)] 0 [] := by
  unfold f_X2_solves at hf
  refine g_iconst o ic_0 dX2_solves_0 ?_
  refine g_istore_n o [(3, .int 0), (0, .ref (a 0)), (1, .int p0), (2, .int p1)] (Nat.le_of_ble_eq_true rfl) rfl rfl dX2_solves_1 ?_
  obtain ⟨r3, hr3, hxr3, hrr3⟩ := bl_some hf
  refine g_perm [1, 2, 3, 0] rfl (b_X2_solves_L2 o (Nat.le_of_ble_eq_true rfl) (Nat.le_of_ble_eq_true rfl) a u p0 p1 r3 (fun s2 hs => ?_) (fun t2 ht => ?_) FU 0 hr3)
  · have hf := hxr3 s2 hs
    refine g_iconst o ic_1 dX2_solves_32 ?_
    cases Option.some.inj hf
    exact g_iret hret (Nat.le_of_ble_eq_true rfl) (Nat.le_of_ble_eq_true rfl) nb_1 dX2_solves_33
  · have hf := hrr3 t2 ht
    cases Option.some.inj hf
    exact hret
theorem c_X2_solves (l : Launch) (hst : l.stackTraces = false) (a : Nat → Nat) (u : St) (p0 : Int32) (p1 : Int32) (t : Int32) (hf : f_X2_solves u p0 p1 = some t) : CoI l yX2_solves (.code yX2_solves cX2_solves 4 (some .boolean)) 1 0 0 [.ref (a 0), .int p0, .int p1] (wM a u) (wM a u) (.inl t) := mkI hst (by decide +kernel) (Nat.le_of_ble_eq_true rfl) (fun x _ o hI hX => b_X2_solves o a u p0 p1 t hf (hI _ rfl))
theorem k_X2_solves_ {x : Cx} {cc : ByteArray} {nL : Nat} {own : String} {d mc ms k n : Nat} {lv : List (Nat × Value)} {pc i : Nat} {rest : List Value} {a : Nat → Nat} {u : St} {p0 : Int32} {p1 : Int32} (o : Ok x cc nL own d mc ms) {t : Int32} (ht : f_X2_solves u p0 p1 = some t) (hlk : Cond.methodLink own i yX2_solves ∈ Ug) (hd : 1 < d) (hr : (rest.map fun v => v.category).sum ≤ 8) (hk : k + 0 ≤ mc ∧ n + 0 ≤ ms) (dg : decode cc pc = .ok (.invokevirtual i, 3)) (kk : G x nL (k + 0) (n + 0) (wM a u (cxT x)) lv (pc + 3) (.int t :: rest)) : G x nL k n (wM a u (cxT x)) lv pc (.int p1 :: .int p0 :: .ref (a 0) :: rest) := gcI (wd2 := (wM a u (cxT x))) o (c_X2_solves (cxl x) o.2.2.2.2.2.2.2.2.2.1 a u p0 p1 t ht) (can_V (q0 := 0) o rfl rfl hd (Nat.le_of_ble_eq_true rfl) m_1202 m_56 m_1201 m_44 hlk yk_X2_solves rfl hr hk dg) sp_M (fun E h => by cases h) (fun r h => by cases h; exact kk)
def rt_X2_solutions (x : Cx) (a : Nat → Nat) (u : St) (t : Int32) : Prop := RetI x cX2_solutions .int 0 0 (wM a u (cxT x)) t
set_option maxRecDepth 20000 in
set_option maxHeartbeats 2000000 in
theorem b_X2_solutions_L4 {x : Cx} (o : Ok x cX2_solutions 3 RX2 2 0 0) {k n : Nat} (hk : k ≤ 0) (hn : n ≤ 0) (a : Nat → Nat) (u : St) (r : (Int32 × Int32) ⊕ (Int32)) (hX : ∀ s : Int32 × Int32, r = .inl s → G x 3 k n (wM a u (cxT x)) [(1, .int s.1)] 37 []) (hR : ∀ t, r = .inr t → rt_X2_solutions x a u t) : ∀ (m : Nat) (s : Int32 × Int32), loopN (f_X2_solutions_s4 u) m s = some r → G x 3 k n (wM a u (cxT x)) [(0, .ref (a 0)), (1, .int s.1), (2, .int s.2)] 4 [] := by
  refine loop_W _ (fun (s : Int32 × Int32) => G x 3 k n (wM a u (cxT x)) [(0, .ref (a 0)), (1, .int s.1), (2, .int s.2)] 4 []) r ?_
  intro s ww hf hw
  unfold f_X2_solutions_s4 at hf
  refine g_iload_n o 2 rfl rfl dX2_solutions_4 ?_
  refine g_iconst o ic_1 dX2_solutions_5 ?_
  refine g_aload_n o 0 rfl rfl dX2_solutions_6 ?_
  refine M_get6 o m_925 dX2_solutions_7 ?_
  refine g_ishl o dX2_solutions_10 ?_
  refine g_ic_ge (tgt := 37) o rfl dX2_solutions_11 hf (fun hc hf => ?_) (fun hc hf => ?_)
  · exact g_perm [1] rfl (hX _ (lf_x hf hw))
  · refine g_iload_n o 1 rfl rfl dX2_solutions_14 ?_
    refine g_aload_n o 0 rfl rfl dX2_solutions_15 ?_
    refine g_iload_n o 2 rfl rfl dX2_solutions_16 ?_
    refine g_iconst o ic_m1 dX2_solutions_17 ?_
    obtain ⟨r1, hr1, hf⟩ := bd_some hf
    refine k_X2_solves_ o hr1 m_1199 (Nat.le_of_ble_eq_true rfl) (Nat.le_of_ble_eq_true rfl) ⟨hk, hn⟩ dX2_solutions_18 ?_
    refine g_if_eq (tgt := 28) o rfl dX2_solutions_21 hf (fun hc hf => ?_) (fun hc hf => ?_)
    · refine g_iconst o ic_0 dX2_solutions_28 ?_
      refine g_iadd o dX2_solutions_29 ?_
      refine g_nmi hf (fun x2 hf => ?_)
      refine g_istore_n o [(1, .int x2), (0, .ref (a 0)), (2, .int s.2)] (Nat.le_of_ble_eq_true rfl) rfl rfl dX2_solutions_30 ?_
      refine g_iinc o [(2, .int (s.2 + 1)), (1, .int x2), (0, .ref (a 0))] 2 rfl (inc_1 _) (Nat.le_of_ble_eq_true rfl) rfl dX2_solutions_31 ?_
      refine g_goto (tgt := 4) o rfl dX2_solutions_34 ?_
      have hp := lf_c hf hw
      exact g_perm [2, 1, 0] rfl hp
    · refine g_iconst o ic_1 dX2_solutions_24 ?_
      refine g_goto (tgt := 29) o rfl dX2_solutions_25 ?_
      refine g_iadd o dX2_solutions_29 ?_
      refine g_nmi hf (fun x3 hf => ?_)
      refine g_istore_n o [(1, .int x3), (0, .ref (a 0)), (2, .int s.2)] (Nat.le_of_ble_eq_true rfl) rfl rfl dX2_solutions_30 ?_
      refine g_iinc o [(2, .int (s.2 + 1)), (1, .int x3), (0, .ref (a 0))] 2 rfl (inc_1 _) (Nat.le_of_ble_eq_true rfl) rfl dX2_solutions_31 ?_
      refine g_goto (tgt := 4) o rfl dX2_solutions_34 ?_
      have hp := lf_c hf hw
      exact g_perm [2, 1, 0] rfl hp
set_option maxRecDepth 20000 in
set_option maxHeartbeats 2000000 in
theorem b_X2_solutions {x : Cx} (o : Ok x cX2_solutions 3 RX2 2 0 0) (a : Nat → Nat) (u : St) (t : Int32) (hf : f_X2_solutions u = some t) (hret : rt_X2_solutions x a u t) : G x 3 0 0 (wM a u (cxT x)) [(0, .ref (a 0))] 0 [] := by
  unfold f_X2_solutions at hf
  refine g_iconst o ic_0 dX2_solutions_0 ?_
  refine g_istore_n o [(1, .int 0), (0, .ref (a 0))] (Nat.le_of_ble_eq_true rfl) rfl rfl dX2_solutions_1 ?_
  refine g_iconst o ic_0 dX2_solutions_2 ?_
  refine g_istore_n o [(2, .int 0), (1, .int 0), (0, .ref (a 0))] (Nat.le_of_ble_eq_true rfl) rfl rfl dX2_solutions_3 ?_
  obtain ⟨r5, hr5, hxr5, hrr5⟩ := bl_some hf
  refine g_perm [2, 1, 0] rfl (b_X2_solutions_L4 o (Nat.le_of_ble_eq_true rfl) (Nat.le_of_ble_eq_true rfl) a u r5 (fun s4 hs => ?_) (fun t4 ht => ?_) FU (0, 0) hr5)
  · have hf := hxr5 s4 hs
    refine g_iload_n o 0 rfl rfl dX2_solutions_37 ?_
    cases Option.some.inj hf
    exact g_iret hret (Nat.le_of_ble_eq_true rfl) (Nat.le_of_ble_eq_true rfl) (vp_nar_int _) dX2_solutions_38
  · have hf := hrr5 t4 ht
    cases Option.some.inj hf
    exact hret
theorem c_X2_solutions (l : Launch) (hst : l.stackTraces = false) (a : Nat → Nat) (u : St) (t : Int32) (hf : f_X2_solutions u = some t) : CoI l yX2_solutions (.code yX2_solutions cX2_solutions 3 (some .int)) 2 0 0 [.ref (a 0)] (wM a u) (wM a u) (.inl t) := mkI hst (by decide +kernel) (Nat.le_of_ble_eq_true rfl) (fun x _ o hI hX => b_X2_solutions o a u t hf (hI _ rfl))
theorem k_X2_solutions_ {x : Cx} {cc : ByteArray} {nL : Nat} {own : String} {d mc ms k n : Nat} {lv : List (Nat × Value)} {pc i : Nat} {rest : List Value} {a : Nat → Nat} {u : St} (o : Ok x cc nL own d mc ms) {t : Int32} (ht : f_X2_solutions u = some t) (hlk : Cond.methodLink own i yX2_solutions ∈ Ug) (hd : 2 < d) (hr : (rest.map fun v => v.category).sum ≤ 8) (hk : k + 0 ≤ mc ∧ n + 0 ≤ ms) (dg : decode cc pc = .ok (.invokevirtual i, 3)) (kk : G x nL (k + 0) (n + 0) (wM a u (cxT x)) lv (pc + 3) (.int t :: rest)) : G x nL k n (wM a u (cxT x)) lv pc (.ref (a 0) :: rest) := gcI (wd2 := (wM a u (cxT x))) o (c_X2_solutions (cxl x) o.2.2.2.2.2.2.2.2.2.1 a u t ht) (can_V (q0 := 0) o rfl rfl hd (Nat.le_of_ble_eq_true rfl) m_1198 m_56 m_1197 m_43 hlk yk_X2_solutions rfl hr hk dg) sp_M (fun E h => by cases h) (fun r h => by cases h; exact kk)
def rt_X2_solutionCount (x : Cx) (a : Nat → Nat) (t : Int32 × St) : Prop := RetI x cX2_solutionCount .int 0 0 (wM a t.2 (cxT x)) t.1
set_option maxRecDepth 20000 in
set_option maxHeartbeats 2000000 in
theorem b_X2_solutionCount {x : Cx} (o : Ok x cX2_solutionCount 1 RX2 3 0 0) (a : Nat → Nat) (u : St) (t : Int32 × St) (hf : f_X2_solutionCount u = some t) (hret : rt_X2_solutionCount x a t) : G x 1 0 0 (wM a u (cxT x)) [(0, .ref (a 0))] 0 [] := by
  unfold f_X2_solutionCount at hf
  refine g_aload_n o 0 rfl rfl dX2_solutionCount_0 ?_
  refine g_iconst o ic_0 dX2_solutionCount_1 ?_
  refine M_put0 o m_919 dX2_solutionCount_2 ?_
  refine g_aload_n o 0 rfl rfl dX2_solutionCount_5 ?_
  obtain ⟨r1, hr1, hf⟩ := bd_some hf
  refine k_X2_solutions_ o hr1 m_1195 (Nat.le_of_ble_eq_true rfl) (Nat.le_of_ble_eq_true rfl) ⟨(Nat.le_of_ble_eq_true rfl), (Nat.le_of_ble_eq_true rfl)⟩ dX2_solutionCount_6 ?_
  cases Option.some.inj hf
  exact g_iret hret (Nat.le_of_ble_eq_true rfl) (Nat.le_of_ble_eq_true rfl) (vp_nar_int _) dX2_solutionCount_9
theorem c_X2_solutionCount (l : Launch) (hst : l.stackTraces = false) (a : Nat → Nat) (u : St) (t : Int32 × St) (hf : f_X2_solutionCount u = some t) : CoI l yX2_solutionCount (.code yX2_solutionCount cX2_solutionCount 1 (some .int)) 3 0 0 [.ref (a 0)] (wM a u) (wM a t.2) (.inl t.1) := mkI hst (by decide +kernel) (Nat.le_of_ble_eq_true rfl) (fun x _ o hI hX => b_X2_solutionCount o a u t hf (hI _ rfl))
def rt_X2_solution (x : Cx) (a : Nat → Nat) (t : Int32 × St) : Prop := RetI x cX2_solution .int 0 0 (wM a t.2 (cxT x)) t.1
set_option maxRecDepth 20000 in
set_option maxHeartbeats 2000000 in
theorem b_X2_solution_L9 {x : Cx} (o : Ok x cX2_solution 4 RX2 2 0 0) {k n : Nat} (hk : k ≤ 0) (hn : n ≤ 0) (a : Nat → Nat) (u : St) (r : (Int32 × Int32) ⊕ (Int32 × St)) (hX : ∀ s : Int32 × Int32, r = .inl s → G x 4 k n (wM a u (cxT x)) [(0, .ref (a 0))] 50 []) (hR : ∀ t, r = .inr t → rt_X2_solution x a t) : ∀ (m : Nat) (s : Int32 × Int32), loopN (f_X2_solution_s9 u) m s = some r → G x 4 k n (wM a u (cxT x)) [(0, .ref (a 0)), (2, .int s.1), (3, .int s.2)] 9 [] := by
  refine loop_W _ (fun (s : Int32 × Int32) => G x 4 k n (wM a u (cxT x)) [(0, .ref (a 0)), (2, .int s.1), (3, .int s.2)] 9 []) r ?_
  intro s ww hf hw
  unfold f_X2_solution_s9 at hf
  refine g_iload_n o 2 rfl rfl dX2_solution_9 ?_
  refine g_iconst o ic_1 dX2_solution_10 ?_
  refine g_aload_n o 0 rfl rfl dX2_solution_11 ?_
  refine M_get6 o m_925 dX2_solution_12 ?_
  refine g_ishl o dX2_solution_15 ?_
  refine g_ic_ge (tgt := 50) o rfl dX2_solution_16 hf (fun hc hf => ?_) (fun hc hf => ?_)
  · exact g_perm [0] rfl (hX _ (lf_x hf hw))
  · refine g_iload_n o 1 rfl rfl dX2_solution_19 ?_
    refine g_if_lt (tgt := 50) o rfl dX2_solution_20 hf (fun hc hf => ?_) (fun hc hf => ?_)
    · exact g_perm [0] rfl (hX _ (lf_x hf hw))
    · refine g_aload_n o 0 rfl rfl dX2_solution_23 ?_
      refine g_iload_n o 2 rfl rfl dX2_solution_24 ?_
      refine g_iconst o ic_m1 dX2_solution_25 ?_
      obtain ⟨r1, hr1, hf⟩ := bd_some hf
      refine k_X2_solves_ o hr1 m_1199 (Nat.le_of_ble_eq_true rfl) (Nat.le_of_ble_eq_true rfl) ⟨hk, hn⟩ dX2_solution_26 ?_
      refine g_if_ne (tgt := 35) o rfl dX2_solution_29 hf (fun hc hf => ?_) (fun hc hf => ?_)
      · refine g_iload_n o 1 rfl rfl dX2_solution_35 ?_
        refine g_if_ne (tgt := 41) o rfl dX2_solution_36 hf (fun hc hf => ?_) (fun hc hf => ?_)
        · refine g_iinc o [(2, .int (s.1 + (-1))), (0, .ref (a 0)), (3, .int s.2)] 1 rfl (inc_m1 _) (Nat.le_of_ble_eq_true rfl) rfl dX2_solution_41 ?_
          refine g_iinc o [(3, .int (s.2 + 1)), (2, .int (s.1 + (-1))), (0, .ref (a 0))] 2 rfl (inc_1 _) (Nat.le_of_ble_eq_true rfl) rfl dX2_solution_44 ?_
          refine g_goto (tgt := 9) o rfl dX2_solution_47 ?_
          have hp := lf_c hf hw
          exact g_perm [2, 1, 0] rfl hp
        · refine g_iload_n o 2 rfl rfl dX2_solution_39 ?_
          exact g_iret (hR _ (lf_x hf hw)) hk hn (vp_nar_int _) dX2_solution_40
      · refine g_goto (tgt := 44) o rfl dX2_solution_32 ?_
        refine g_iinc o [(3, .int (s.2 + 1)), (0, .ref (a 0)), (2, .int s.1)] 2 rfl (inc_1 _) (Nat.le_of_ble_eq_true rfl) rfl dX2_solution_44 ?_
        refine g_goto (tgt := 9) o rfl dX2_solution_47 ?_
        have hp := lf_c hf hw
        exact g_perm [1, 2, 0] rfl hp
set_option maxRecDepth 20000 in
set_option maxHeartbeats 2000000 in
theorem b_X2_solution {x : Cx} (o : Ok x cX2_solution 4 RX2 2 0 0) (a : Nat → Nat) (u : St) (p0 : Int32) (t : Int32 × St) (hf : f_X2_solution u p0 = some t) (hret : rt_X2_solution x a t) : G x 4 0 0 (wM a u (cxT x)) [(0, .ref (a 0)), (1, .int p0)] 0 [] := by
  unfold f_X2_solution at hf
  refine g_aload_n o 0 rfl rfl dX2_solution_0 ?_
  refine g_iconst o ic_0 dX2_solution_1 ?_
  refine M_put0 o m_919 dX2_solution_2 ?_
  refine g_iload_n o 1 rfl rfl dX2_solution_5 ?_
  refine g_istore_n o [(2, .int p0), (0, .ref (a 0)), (1, .int p0)] (Nat.le_of_ble_eq_true rfl) rfl rfl dX2_solution_6 ?_
  refine g_iconst o ic_0 dX2_solution_7 ?_
  refine g_istore_n o [(3, .int 0), (2, .int p0), (0, .ref (a 0)), (1, .int p0)] (Nat.le_of_ble_eq_true rfl) rfl rfl dX2_solution_8 ?_
  obtain ⟨r3, hr3, hxr3, hrr3⟩ := bl_some hf
  refine g_perm [2, 1, 0] rfl (b_X2_solution_L9 o (Nat.le_of_ble_eq_true rfl) (Nat.le_of_ble_eq_true rfl) a (us u 0 0) r3 (fun s9 hs => ?_) (fun t2 ht => ?_) FU (p0, 0) hr3)
  · have hf := hxr3 s9 hs
    refine g_aload_n o 0 rfl rfl dX2_solution_50 ?_
    refine g_iconst o ic_1 dX2_solution_51 ?_
    obtain ⟨r4, hr4, hf⟩ := bd_some hf
    refine k_X2_fails_ o hr4 m_995 (Nat.le_of_ble_eq_true rfl) (Nat.le_of_ble_eq_true rfl) ⟨(Nat.le_of_ble_eq_true rfl), (Nat.le_of_ble_eq_true rfl)⟩ dX2_solution_52 ?_
    cases Option.some.inj hf
    exact g_iret hret (Nat.le_of_ble_eq_true rfl) (Nat.le_of_ble_eq_true rfl) (vp_nar_int _) dX2_solution_55
  · have hf := hrr3 t2 ht
    cases Option.some.inj hf
    exact hret
theorem c_X2_solution (l : Launch) (hst : l.stackTraces = false) (a : Nat → Nat) (u : St) (p0 : Int32) (t : Int32 × St) (hf : f_X2_solution u p0 = some t) : CoI l yX2_solution (.code yX2_solution cX2_solution 4 (some .int)) 2 0 0 [.ref (a 0), .int p0] (wM a u) (wM a t.2) (.inl t.1) := mkI hst (by decide +kernel) (Nat.le_of_ble_eq_true rfl) (fun x _ o hI hX => b_X2_solution o a u p0 t hf (hI _ rfl))
def rt_X2_doesImply (x : Cx) (a : Nat → Nat) (u : St) (t : Int32) : Prop := RetI x cX2_doesImply .boolean 0 0 (wM a u (cxT x)) t
set_option maxRecDepth 20000 in
set_option maxHeartbeats 2000000 in
theorem b_X2_doesImply_L3 {x : Cx} (o : Ok x cX2_doesImply 6 RX2 2 0 0) {k n : Nat} (hk : k ≤ 0) (hn : n ≤ 0) (a : Nat → Nat) (u : St) (c1 : Int32) (c2 : Int32) (c3 : Int32) (c4 : Int32) (r : (Int32) ⊕ (Int32)) (hX : ∀ s : Int32, r = .inl s → G x 6 k n (wM a u (cxT x)) [] 53 []) (hR : ∀ t, r = .inr t → rt_X2_doesImply x a u t) : ∀ (m : Nat) (s : Int32), loopN (f_X2_doesImply_s3 u c1 c2 c3 c4) m s = some r → G x 6 k n (wM a u (cxT x)) [(0, .ref (a 0)), (1, .int c1), (2, .int c2), (3, .int c3), (4, .int c4), (5, .int s)] 3 [] := by
  refine loop_W _ (fun (s : Int32) => G x 6 k n (wM a u (cxT x)) [(0, .ref (a 0)), (1, .int c1), (2, .int c2), (3, .int c3), (4, .int c4), (5, .int s)] 3 []) r ?_
  intro s ww hf hw
  unfold f_X2_doesImply_s3 at hf
  refine g_iload o 5 rfl dX2_doesImply_3 ?_
  refine g_iconst o ic_1 dX2_doesImply_5 ?_
  refine g_aload_n o 0 rfl rfl dX2_doesImply_6 ?_
  refine M_get6 o m_925 dX2_doesImply_7 ?_
  refine g_ishl o dX2_doesImply_10 ?_
  refine g_ic_ge (tgt := 53) o rfl dX2_doesImply_11 hf (fun hc hf => ?_) (fun hc hf => ?_)
  · exact g_perm [] rfl (hX _ (lf_x hf hw))
  · refine g_iload o 5 rfl dX2_doesImply_14 ?_
    refine g_iload_n o 1 rfl rfl dX2_doesImply_16 ?_
    refine g_ishr o dX2_doesImply_17 ?_
    refine g_iconst o ic_1 dX2_doesImply_18 ?_
    refine g_iand o dX2_doesImply_19 ?_
    refine g_iload_n o 2 rfl rfl dX2_doesImply_20 ?_
    refine g_ic_ne (tgt := 47) o rfl dX2_doesImply_21 hf (fun hc hf => ?_) (fun hc hf => ?_)
    · refine g_iinc o [(5, .int (s + 1)), (0, .ref (a 0)), (1, .int c1), (2, .int c2), (3, .int c3), (4, .int c4)] 5 rfl (inc_1 _) (Nat.le_of_ble_eq_true rfl) rfl dX2_doesImply_47 ?_
      refine g_goto (tgt := 3) o rfl dX2_doesImply_50 ?_
      have hp := lf_c hf hw
      exact g_perm [1, 2, 3, 4, 5, 0] rfl hp
    · refine g_iload o 5 rfl dX2_doesImply_24 ?_
      refine g_iload_n o 3 rfl rfl dX2_doesImply_26 ?_
      refine g_ishr o dX2_doesImply_27 ?_
      refine g_iconst o ic_1 dX2_doesImply_28 ?_
      refine g_iand o dX2_doesImply_29 ?_
      refine g_iload o 4 rfl dX2_doesImply_30 ?_
      refine g_ic_eq (tgt := 47) o rfl dX2_doesImply_32 hf (fun hc hf => ?_) (fun hc hf => ?_)
      · refine g_iinc o [(5, .int (s + 1)), (0, .ref (a 0)), (1, .int c1), (2, .int c2), (3, .int c3), (4, .int c4)] 5 rfl (inc_1 _) (Nat.le_of_ble_eq_true rfl) rfl dX2_doesImply_47 ?_
        refine g_goto (tgt := 3) o rfl dX2_doesImply_50 ?_
        have hp := lf_c hf hw
        exact g_perm [1, 2, 3, 4, 5, 0] rfl hp
      · refine g_aload_n o 0 rfl rfl dX2_doesImply_35 ?_
        refine g_iload o 5 rfl dX2_doesImply_36 ?_
        refine g_iconst o ic_m1 dX2_doesImply_38 ?_
        obtain ⟨r1, hr1, hf⟩ := bd_some hf
        refine k_X2_solves_ o hr1 m_1199 (Nat.le_of_ble_eq_true rfl) (Nat.le_of_ble_eq_true rfl) ⟨hk, hn⟩ dX2_doesImply_39 ?_
        refine g_if_eq (tgt := 47) o rfl dX2_doesImply_42 hf (fun hc hf => ?_) (fun hc hf => ?_)
        · refine g_iinc o [(5, .int (s + 1)), (0, .ref (a 0)), (1, .int c1), (2, .int c2), (3, .int c3), (4, .int c4)] 5 rfl (inc_1 _) (Nat.le_of_ble_eq_true rfl) rfl dX2_doesImply_47 ?_
          refine g_goto (tgt := 3) o rfl dX2_doesImply_50 ?_
          have hp := lf_c hf hw
          exact g_perm [1, 2, 3, 4, 5, 0] rfl hp
        · refine g_iconst o ic_0 dX2_doesImply_45 ?_
          exact g_iret (hR _ (lf_x hf hw)) hk hn nb_0 dX2_doesImply_46
set_option maxRecDepth 20000 in
set_option maxHeartbeats 2000000 in
theorem b_X2_doesImply {x : Cx} (o : Ok x cX2_doesImply 6 RX2 2 0 0) (a : Nat → Nat) (u : St) (p0 : Int32) (p1 : Int32) (p2 : Int32) (p3 : Int32) (t : Int32) (hf : f_X2_doesImply u p0 p1 p2 p3 = some t) (hret : rt_X2_doesImply x a u t) : G x 6 0 0 (wM a u (cxT x)) [(0, .ref (a 0)), (1, .int p0), (2, .int p1), (3, .int p2), (4, .int p3)] 0 [] := by
  unfold f_X2_doesImply at hf
  refine g_iconst o ic_0 dX2_doesImply_0 ?_
  refine g_istore o [(5, .int 0), (0, .ref (a 0)), (1, .int p0), (2, .int p1), (3, .int p2), (4, .int p3)] (Nat.le_of_ble_eq_true rfl) rfl dX2_doesImply_1 ?_
  obtain ⟨r3, hr3, hxr3, hrr3⟩ := bl_some hf
  refine g_perm [1, 2, 3, 4, 5, 0] rfl (b_X2_doesImply_L3 o (Nat.le_of_ble_eq_true rfl) (Nat.le_of_ble_eq_true rfl) a u p0 p1 p2 p3 r3 (fun s3 hs => ?_) (fun t2 ht => ?_) FU 0 hr3)
  · have hf := hxr3 s3 hs
    refine g_iconst o ic_1 dX2_doesImply_53 ?_
    cases Option.some.inj hf
    exact g_iret hret (Nat.le_of_ble_eq_true rfl) (Nat.le_of_ble_eq_true rfl) nb_1 dX2_doesImply_54
  · have hf := hrr3 t2 ht
    cases Option.some.inj hf
    exact hret
theorem c_X2_doesImply (l : Launch) (hst : l.stackTraces = false) (a : Nat → Nat) (u : St) (p0 : Int32) (p1 : Int32) (p2 : Int32) (p3 : Int32) (t : Int32) (hf : f_X2_doesImply u p0 p1 p2 p3 = some t) : CoI l yX2_doesImply (.code yX2_doesImply cX2_doesImply 6 (some .boolean)) 2 0 0 [.ref (a 0), .int p0, .int p1, .int p2, .int p3] (wM a u) (wM a u) (.inl t) := mkI hst (by decide +kernel) (Nat.le_of_ble_eq_true rfl) (fun x _ o hI hX => b_X2_doesImply o a u p0 p1 p2 p3 t hf (hI _ rfl))
theorem k_X2_doesImply_ {x : Cx} {cc : ByteArray} {nL : Nat} {own : String} {d mc ms k n : Nat} {lv : List (Nat × Value)} {pc i : Nat} {rest : List Value} {a : Nat → Nat} {u : St} {p0 : Int32} {p1 : Int32} {p2 : Int32} {p3 : Int32} (o : Ok x cc nL own d mc ms) {t : Int32} (ht : f_X2_doesImply u p0 p1 p2 p3 = some t) (hlk : Cond.methodLink own i yX2_doesImply ∈ Ug) (hd : 2 < d) (hr : (rest.map fun v => v.category).sum ≤ 8) (hk : k + 0 ≤ mc ∧ n + 0 ≤ ms) (dg : decode cc pc = .ok (.invokevirtual i, 3)) (kk : G x nL (k + 0) (n + 0) (wM a u (cxT x)) lv (pc + 3) (.int t :: rest)) : G x nL k n (wM a u (cxT x)) lv pc (.int p3 :: .int p2 :: .int p1 :: .int p0 :: .ref (a 0) :: rest) := gcI (wd2 := (wM a u (cxT x))) o (c_X2_doesImply (cxl x) o.2.2.2.2.2.2.2.2.2.1 a u p0 p1 p2 p3 t ht) (can_V (q0 := 0) o rfl rfl hd (Nat.le_of_ble_eq_true rfl) m_1218 m_56 m_1217 m_46 hlk yk_X2_doesImply rfl hr hk dg) sp_M (fun E h => by cases h) (fun r h => by cases h; exact kk)
def rt_X2_isForced (x : Cx) (a : Nat → Nat) (t : Int32 × St) : Prop := RetI x cX2_isForced .boolean 0 0 (wM a t.2 (cxT x)) t.1
set_option maxRecDepth 20000 in
set_option maxHeartbeats 2000000 in
theorem b_X2_isForced {x : Cx} (o : Ok x cX2_isForced 3 RX2 3 0 0) (a : Nat → Nat) (u : St) (p0 : Int32) (p1 : Int32) (t : Int32 × St) (hf : f_X2_isForced u p0 p1 = some t) (hret : rt_X2_isForced x a t) : G x 3 0 0 (wM a u (cxT x)) [(0, .ref (a 0)), (1, .int p0), (2, .int p1)] 0 [] := by
  unfold f_X2_isForced at hf
  refine g_aload_n o 0 rfl rfl dX2_isForced_0 ?_
  refine g_iload_n o 1 rfl rfl dX2_isForced_1 ?_
  obtain ⟨r1, hr1, hf⟩ := bd_some hf
  refine k_X2_isVariable_ o hr1 m_1183 (Nat.le_of_ble_eq_true rfl) (Nat.le_of_ble_eq_true rfl) ⟨(Nat.le_of_ble_eq_true rfl), (Nat.le_of_ble_eq_true rfl)⟩ dX2_isForced_2 ?_
  refine g_if_ne (tgt := 14) o rfl dX2_isForced_5 hf (fun hc hf => ?_) (fun hc hf => ?_)
  · refine g_iload_n o 2 rfl rfl dX2_isForced_14 ?_
    obtain ⟨r2, hr2, hf⟩ := bd_some hf
    refine k_X2_isBit_ o hr2 m_1017 (Nat.le_of_ble_eq_true rfl) (Nat.le_of_ble_eq_true rfl) ⟨(Nat.le_of_ble_eq_true rfl), (Nat.le_of_ble_eq_true rfl)⟩ dX2_isForced_15 ?_
    refine g_if_ne (tgt := 27) o rfl dX2_isForced_18 hf (fun hc hf => ?_) (fun hc hf => ?_)
    · refine g_aload_n o 0 rfl rfl dX2_isForced_27 ?_
      refine g_iconst o ic_0 dX2_isForced_28 ?_
      refine M_put0 o m_919 dX2_isForced_29 ?_
      refine g_aload_n o 0 rfl rfl dX2_isForced_32 ?_
      refine g_iload_n o 1 rfl rfl dX2_isForced_33 ?_
      refine g_iconst o ic_1 dX2_isForced_34 ?_
      refine g_iload_n o 2 rfl rfl dX2_isForced_35 ?_
      refine g_isub o dX2_isForced_36 ?_
      refine g_iload_n o 1 rfl rfl dX2_isForced_37 ?_
      refine g_iload_n o 2 rfl rfl dX2_isForced_38 ?_
      obtain ⟨r3, hr3, hf⟩ := bd_some hf
      refine k_X2_doesImply_ o hr3 m_1215 (Nat.le_of_ble_eq_true rfl) (Nat.le_of_ble_eq_true rfl) ⟨(Nat.le_of_ble_eq_true rfl), (Nat.le_of_ble_eq_true rfl)⟩ dX2_isForced_39 ?_
      obtain ⟨hb, hf⟩ := gd_some hf
      cases Option.some.inj hf
      exact g_iret hret (Nat.le_of_ble_eq_true rfl) (Nat.le_of_ble_eq_true rfl) (okB_n hb) dX2_isForced_42
    · refine g_aload_n o 0 rfl rfl dX2_isForced_21 ?_
      refine g_iconst o ic_2 dX2_isForced_22 ?_
      obtain ⟨r4, hr4, hf⟩ := bd_some hf
      refine k_X2_refuses_ o hr4 m_1093 (Nat.le_of_ble_eq_true rfl) (Nat.le_of_ble_eq_true rfl) ⟨(Nat.le_of_ble_eq_true rfl), (Nat.le_of_ble_eq_true rfl)⟩ dX2_isForced_23 ?_
      obtain ⟨hb, hf⟩ := gd_some hf
      cases Option.some.inj hf
      exact g_iret hret (Nat.le_of_ble_eq_true rfl) (Nat.le_of_ble_eq_true rfl) (okB_n hb) dX2_isForced_26
  · refine g_aload_n o 0 rfl rfl dX2_isForced_8 ?_
    refine g_iconst o ic_1 dX2_isForced_9 ?_
    obtain ⟨r5, hr5, hf⟩ := bd_some hf
    refine k_X2_refuses_ o hr5 m_1093 (Nat.le_of_ble_eq_true rfl) (Nat.le_of_ble_eq_true rfl) ⟨(Nat.le_of_ble_eq_true rfl), (Nat.le_of_ble_eq_true rfl)⟩ dX2_isForced_10 ?_
    obtain ⟨hb, hf⟩ := gd_some hf
    cases Option.some.inj hf
    exact g_iret hret (Nat.le_of_ble_eq_true rfl) (Nat.le_of_ble_eq_true rfl) (okB_n hb) dX2_isForced_13
theorem c_X2_isForced (l : Launch) (hst : l.stackTraces = false) (a : Nat → Nat) (u : St) (p0 : Int32) (p1 : Int32) (t : Int32 × St) (hf : f_X2_isForced u p0 p1 = some t) : CoI l yX2_isForced (.code yX2_isForced cX2_isForced 3 (some .boolean)) 3 0 0 [.ref (a 0), .int p0, .int p1] (wM a u) (wM a t.2) (.inl t.1) := mkI hst (by decide +kernel) (Nat.le_of_ble_eq_true rfl) (fun x _ o hI hX => b_X2_isForced o a u p0 p1 t hf (hI _ rfl))
def rt_X2_leastSolution (x : Cx) (a : Nat → Nat) (t : Int32 × St) : Prop := RetI x cX2_leastSolution .int 0 0 (wM a t.2 (cxT x)) t.1
set_option maxRecDepth 20000 in
set_option maxHeartbeats 2000000 in
theorem b_X2_leastSolution_L43 {x : Cx} (o : Ok x cX2_leastSolution 3 RX2 5 0 0) {k n : Nat} (hk : k ≤ 0) (hn : n ≤ 0) (a : Nat → Nat) (u : St) (r : (Int32 × Int32) ⊕ (Int32 × St)) (hX : ∀ s : Int32 × Int32, r = .inl s → G x 3 k n (wM a u (cxT x)) [(1, .int s.1)] 76 []) (hR : ∀ t, r = .inr t → rt_X2_leastSolution x a t) : ∀ (m : Nat) (s : Int32 × Int32), loopN (f_X2_leastSolution_s43 u) m s = some r → G x 3 k n (wM a u (cxT x)) [(0, .ref (a 0)), (1, .int s.1), (2, .int s.2)] 43 [] := by
  refine loop_W _ (fun (s : Int32 × Int32) => G x 3 k n (wM a u (cxT x)) [(0, .ref (a 0)), (1, .int s.1), (2, .int s.2)] 43 []) r ?_
  intro s ww hf hw
  unfold f_X2_leastSolution_s43 at hf
  refine g_iload_n o 2 rfl rfl dX2_leastSolution_43 ?_
  refine g_iconst o ic_1 dX2_leastSolution_44 ?_
  refine g_aload_n o 0 rfl rfl dX2_leastSolution_45 ?_
  refine M_get6 o m_925 dX2_leastSolution_46 ?_
  refine g_ishl o dX2_leastSolution_49 ?_
  refine g_ic_ge (tgt := 76) o rfl dX2_leastSolution_50 hf (fun hc hf => ?_) (fun hc hf => ?_)
  · exact g_perm [1] rfl (hX _ (lf_x hf hw))
  · refine g_iload_n o 1 rfl rfl dX2_leastSolution_53 ?_
    refine g_aload_n o 0 rfl rfl dX2_leastSolution_54 ?_
    refine g_iload_n o 2 rfl rfl dX2_leastSolution_55 ?_
    refine g_iconst o ic_m1 dX2_leastSolution_56 ?_
    obtain ⟨r4, hr4, hf⟩ := bd_some hf
    refine k_X2_solves_ o hr4 m_1199 (Nat.le_of_ble_eq_true rfl) (Nat.le_of_ble_eq_true rfl) ⟨hk, hn⟩ dX2_leastSolution_57 ?_
    refine g_if_eq (tgt := 67) o rfl dX2_leastSolution_60 hf (fun hc hf => ?_) (fun hc hf => ?_)
    · refine g_iconst o ic_m1 dX2_leastSolution_67 ?_
      refine g_iand o dX2_leastSolution_68 ?_
      refine g_nmi hf (fun x5 hf => ?_)
      refine g_istore_n o [(1, .int x5), (0, .ref (a 0)), (2, .int s.2)] (Nat.le_of_ble_eq_true rfl) rfl rfl dX2_leastSolution_69 ?_
      refine g_iinc o [(2, .int (s.2 + 1)), (1, .int x5), (0, .ref (a 0))] 2 rfl (inc_1 _) (Nat.le_of_ble_eq_true rfl) rfl dX2_leastSolution_70 ?_
      refine g_goto (tgt := 43) o rfl dX2_leastSolution_73 ?_
      have hp := lf_c hf hw
      exact g_perm [2, 1, 0] rfl hp
    · refine g_iload_n o 2 rfl rfl dX2_leastSolution_63 ?_
      refine g_goto (tgt := 68) o rfl dX2_leastSolution_64 ?_
      refine g_iand o dX2_leastSolution_68 ?_
      refine g_nmi hf (fun x6 hf => ?_)
      refine g_istore_n o [(1, .int x6), (0, .ref (a 0)), (2, .int s.2)] (Nat.le_of_ble_eq_true rfl) rfl rfl dX2_leastSolution_69 ?_
      refine g_iinc o [(2, .int (s.2 + 1)), (1, .int x6), (0, .ref (a 0))] 2 rfl (inc_1 _) (Nat.le_of_ble_eq_true rfl) rfl dX2_leastSolution_70 ?_
      refine g_goto (tgt := 43) o rfl dX2_leastSolution_73 ?_
      have hp := lf_c hf hw
      exact g_perm [2, 1, 0] rfl hp
set_option maxRecDepth 20000 in
set_option maxHeartbeats 2000000 in
theorem b_X2_leastSolution {x : Cx} (o : Ok x cX2_leastSolution 3 RX2 5 0 0) (a : Nat → Nat) (u : St) (t : Int32 × St) (hf : f_X2_leastSolution u = some t) (hret : rt_X2_leastSolution x a t) : G x 3 0 0 (wM a u (cxT x)) [(0, .ref (a 0))] 0 [] := by
  unfold f_X2_leastSolution at hf
  refine g_aload_n o 0 rfl rfl dX2_leastSolution_0 ?_
  refine g_iconst o ic_2 dX2_leastSolution_1 ?_
  obtain ⟨r1, hr1, hf⟩ := bd_some hf
  refine k_X2_has_ o hr1 m_1163 (Nat.le_of_ble_eq_true rfl) (Nat.le_of_ble_eq_true rfl) ⟨(Nat.le_of_ble_eq_true rfl), (Nat.le_of_ble_eq_true rfl)⟩ dX2_leastSolution_2 ?_
  refine g_if_ne (tgt := 14) o rfl dX2_leastSolution_5 hf (fun hc hf => ?_) (fun hc hf => ?_)
  · refine g_aload_n o 0 rfl rfl dX2_leastSolution_14 ?_
    obtain ⟨r2, hr2, hf⟩ := bd_some hf
    refine k_X2_solutions_ o hr2 m_1195 (Nat.le_of_ble_eq_true rfl) (Nat.le_of_ble_eq_true rfl) ⟨(Nat.le_of_ble_eq_true rfl), (Nat.le_of_ble_eq_true rfl)⟩ dX2_leastSolution_15 ?_
    refine g_if_ne (tgt := 27) o rfl dX2_leastSolution_18 hf (fun hc hf => ?_) (fun hc hf => ?_)
    · refine g_aload_n o 0 rfl rfl dX2_leastSolution_27 ?_
      refine g_iconst o ic_0 dX2_leastSolution_28 ?_
      refine M_put0 o m_919 dX2_leastSolution_29 ?_
      refine g_iconst o ic_1 dX2_leastSolution_32 ?_
      refine g_aload_n o 0 rfl rfl dX2_leastSolution_33 ?_
      refine M_get6 o m_925 dX2_leastSolution_34 ?_
      refine g_ishl o dX2_leastSolution_37 ?_
      refine g_iconst o ic_1 dX2_leastSolution_38 ?_
      refine g_isub o dX2_leastSolution_39 ?_
      refine g_nmi hf (fun x3 hf => ?_)
      refine g_istore_n o [(1, .int x3), (0, .ref (a 0))] (Nat.le_of_ble_eq_true rfl) rfl rfl dX2_leastSolution_40 ?_
      refine g_iconst o ic_0 dX2_leastSolution_41 ?_
      refine g_istore_n o [(2, .int 0), (1, .int x3), (0, .ref (a 0))] (Nat.le_of_ble_eq_true rfl) rfl rfl dX2_leastSolution_42 ?_
      obtain ⟨r8, hr8, hxr8, hrr8⟩ := bl_some hf
      refine g_perm [2, 1, 0] rfl (b_X2_leastSolution_L43 o (Nat.le_of_ble_eq_true rfl) (Nat.le_of_ble_eq_true rfl) a (us u 0 0) r8 (fun s43 hs => ?_) (fun t7 ht => ?_) FU (x3, 0) hr8)
      · have hf := hxr8 s43 hs
        refine g_iload_n o 0 rfl rfl dX2_leastSolution_76 ?_
        cases Option.some.inj hf
        exact g_iret hret (Nat.le_of_ble_eq_true rfl) (Nat.le_of_ble_eq_true rfl) (vp_nar_int _) dX2_leastSolution_77
      · have hf := hrr8 t7 ht
        cases Option.some.inj hf
        exact hret
    · refine g_aload_n o 0 rfl rfl dX2_leastSolution_21 ?_
      refine g_iconst o ic_2 dX2_leastSolution_22 ?_
      obtain ⟨r9, hr9, hf⟩ := bd_some hf
      refine k_X2_fails_ o hr9 m_995 (Nat.le_of_ble_eq_true rfl) (Nat.le_of_ble_eq_true rfl) ⟨(Nat.le_of_ble_eq_true rfl), (Nat.le_of_ble_eq_true rfl)⟩ dX2_leastSolution_23 ?_
      cases Option.some.inj hf
      exact g_iret hret (Nat.le_of_ble_eq_true rfl) (Nat.le_of_ble_eq_true rfl) (vp_nar_int _) dX2_leastSolution_26
  · refine g_aload_n o 0 rfl rfl dX2_leastSolution_8 ?_
    refine g_iconst o ic_1 dX2_leastSolution_9 ?_
    obtain ⟨r10, hr10, hf⟩ := bd_some hf
    refine k_X2_fails_ o hr10 m_995 (Nat.le_of_ble_eq_true rfl) (Nat.le_of_ble_eq_true rfl) ⟨(Nat.le_of_ble_eq_true rfl), (Nat.le_of_ble_eq_true rfl)⟩ dX2_leastSolution_10 ?_
    cases Option.some.inj hf
    exact g_iret hret (Nat.le_of_ble_eq_true rfl) (Nat.le_of_ble_eq_true rfl) (vp_nar_int _) dX2_leastSolution_13
theorem c_X2_leastSolution (l : Launch) (hst : l.stackTraces = false) (a : Nat → Nat) (u : St) (t : Int32 × St) (hf : f_X2_leastSolution u = some t) : CoI l yX2_leastSolution (.code yX2_leastSolution cX2_leastSolution 3 (some .int)) 5 0 0 [.ref (a 0)] (wM a u) (wM a t.2) (.inl t.1) := mkI hst (by decide +kernel) (Nat.le_of_ble_eq_true rfl) (fun x _ o hI hX => b_X2_leastSolution o a u t hf (hI _ rfl))
def rt_X2_greatestSolution (x : Cx) (a : Nat → Nat) (t : Int32 × St) : Prop := RetI x cX2_greatestSolution .int 0 0 (wM a t.2 (cxT x)) t.1
set_option maxRecDepth 20000 in
set_option maxHeartbeats 2000000 in
theorem b_X2_greatestSolution_L36 {x : Cx} (o : Ok x cX2_greatestSolution 3 RX2 5 0 0) {k n : Nat} (hk : k ≤ 0) (hn : n ≤ 0) (a : Nat → Nat) (u : St) (r : (Int32 × Int32) ⊕ (Int32 × St)) (hX : ∀ s : Int32 × Int32, r = .inl s → G x 3 k n (wM a u (cxT x)) [(1, .int s.1)] 69 []) (hR : ∀ t, r = .inr t → rt_X2_greatestSolution x a t) : ∀ (m : Nat) (s : Int32 × Int32), loopN (f_X2_greatestSolution_s36 u) m s = some r → G x 3 k n (wM a u (cxT x)) [(0, .ref (a 0)), (1, .int s.1), (2, .int s.2)] 36 [] := by
  refine loop_W _ (fun (s : Int32 × Int32) => G x 3 k n (wM a u (cxT x)) [(0, .ref (a 0)), (1, .int s.1), (2, .int s.2)] 36 []) r ?_
  intro s ww hf hw
  unfold f_X2_greatestSolution_s36 at hf
  refine g_iload_n o 2 rfl rfl dX2_greatestSolution_36 ?_
  refine g_iconst o ic_1 dX2_greatestSolution_37 ?_
  refine g_aload_n o 0 rfl rfl dX2_greatestSolution_38 ?_
  refine M_get6 o m_925 dX2_greatestSolution_39 ?_
  refine g_ishl o dX2_greatestSolution_42 ?_
  refine g_ic_ge (tgt := 69) o rfl dX2_greatestSolution_43 hf (fun hc hf => ?_) (fun hc hf => ?_)
  · exact g_perm [1] rfl (hX _ (lf_x hf hw))
  · refine g_iload_n o 1 rfl rfl dX2_greatestSolution_46 ?_
    refine g_aload_n o 0 rfl rfl dX2_greatestSolution_47 ?_
    refine g_iload_n o 2 rfl rfl dX2_greatestSolution_48 ?_
    refine g_iconst o ic_m1 dX2_greatestSolution_49 ?_
    obtain ⟨r3, hr3, hf⟩ := bd_some hf
    refine k_X2_solves_ o hr3 m_1199 (Nat.le_of_ble_eq_true rfl) (Nat.le_of_ble_eq_true rfl) ⟨hk, hn⟩ dX2_greatestSolution_50 ?_
    refine g_if_eq (tgt := 60) o rfl dX2_greatestSolution_53 hf (fun hc hf => ?_) (fun hc hf => ?_)
    · refine g_iconst o ic_0 dX2_greatestSolution_60 ?_
      refine g_ior o dX2_greatestSolution_61 ?_
      refine g_nmi hf (fun x4 hf => ?_)
      refine g_istore_n o [(1, .int x4), (0, .ref (a 0)), (2, .int s.2)] (Nat.le_of_ble_eq_true rfl) rfl rfl dX2_greatestSolution_62 ?_
      refine g_iinc o [(2, .int (s.2 + 1)), (1, .int x4), (0, .ref (a 0))] 2 rfl (inc_1 _) (Nat.le_of_ble_eq_true rfl) rfl dX2_greatestSolution_63 ?_
      refine g_goto (tgt := 36) o rfl dX2_greatestSolution_66 ?_
      have hp := lf_c hf hw
      exact g_perm [2, 1, 0] rfl hp
    · refine g_iload_n o 2 rfl rfl dX2_greatestSolution_56 ?_
      refine g_goto (tgt := 61) o rfl dX2_greatestSolution_57 ?_
      refine g_ior o dX2_greatestSolution_61 ?_
      refine g_nmi hf (fun x5 hf => ?_)
      refine g_istore_n o [(1, .int x5), (0, .ref (a 0)), (2, .int s.2)] (Nat.le_of_ble_eq_true rfl) rfl rfl dX2_greatestSolution_62 ?_
      refine g_iinc o [(2, .int (s.2 + 1)), (1, .int x5), (0, .ref (a 0))] 2 rfl (inc_1 _) (Nat.le_of_ble_eq_true rfl) rfl dX2_greatestSolution_63 ?_
      refine g_goto (tgt := 36) o rfl dX2_greatestSolution_66 ?_
      have hp := lf_c hf hw
      exact g_perm [2, 1, 0] rfl hp
set_option maxRecDepth 20000 in
set_option maxHeartbeats 2000000 in
theorem b_X2_greatestSolution {x : Cx} (o : Ok x cX2_greatestSolution 3 RX2 5 0 0) (a : Nat → Nat) (u : St) (t : Int32 × St) (hf : f_X2_greatestSolution u = some t) (hret : rt_X2_greatestSolution x a t) : G x 3 0 0 (wM a u (cxT x)) [(0, .ref (a 0))] 0 [] := by
  unfold f_X2_greatestSolution at hf
  refine g_aload_n o 0 rfl rfl dX2_greatestSolution_0 ?_
  refine g_iconst o ic_3 dX2_greatestSolution_1 ?_
  obtain ⟨r1, hr1, hf⟩ := bd_some hf
  refine k_X2_has_ o hr1 m_1163 (Nat.le_of_ble_eq_true rfl) (Nat.le_of_ble_eq_true rfl) ⟨(Nat.le_of_ble_eq_true rfl), (Nat.le_of_ble_eq_true rfl)⟩ dX2_greatestSolution_2 ?_
  refine g_if_ne (tgt := 14) o rfl dX2_greatestSolution_5 hf (fun hc hf => ?_) (fun hc hf => ?_)
  · refine g_aload_n o 0 rfl rfl dX2_greatestSolution_14 ?_
    obtain ⟨r2, hr2, hf⟩ := bd_some hf
    refine k_X2_solutions_ o hr2 m_1195 (Nat.le_of_ble_eq_true rfl) (Nat.le_of_ble_eq_true rfl) ⟨(Nat.le_of_ble_eq_true rfl), (Nat.le_of_ble_eq_true rfl)⟩ dX2_greatestSolution_15 ?_
    refine g_if_ne (tgt := 27) o rfl dX2_greatestSolution_18 hf (fun hc hf => ?_) (fun hc hf => ?_)
    · refine g_aload_n o 0 rfl rfl dX2_greatestSolution_27 ?_
      refine g_iconst o ic_0 dX2_greatestSolution_28 ?_
      refine M_put0 o m_919 dX2_greatestSolution_29 ?_
      refine g_iconst o ic_0 dX2_greatestSolution_32 ?_
      refine g_istore_n o [(1, .int 0), (0, .ref (a 0))] (Nat.le_of_ble_eq_true rfl) rfl rfl dX2_greatestSolution_33 ?_
      refine g_iconst o ic_0 dX2_greatestSolution_34 ?_
      refine g_istore_n o [(2, .int 0), (1, .int 0), (0, .ref (a 0))] (Nat.le_of_ble_eq_true rfl) rfl rfl dX2_greatestSolution_35 ?_
      obtain ⟨r7, hr7, hxr7, hrr7⟩ := bl_some hf
      refine g_perm [2, 1, 0] rfl (b_X2_greatestSolution_L36 o (Nat.le_of_ble_eq_true rfl) (Nat.le_of_ble_eq_true rfl) a (us u 0 0) r7 (fun s36 hs => ?_) (fun t6 ht => ?_) FU (0, 0) hr7)
      · have hf := hxr7 s36 hs
        refine g_iload_n o 0 rfl rfl dX2_greatestSolution_69 ?_
        cases Option.some.inj hf
        exact g_iret hret (Nat.le_of_ble_eq_true rfl) (Nat.le_of_ble_eq_true rfl) (vp_nar_int _) dX2_greatestSolution_70
      · have hf := hrr7 t6 ht
        cases Option.some.inj hf
        exact hret
    · refine g_aload_n o 0 rfl rfl dX2_greatestSolution_21 ?_
      refine g_iconst o ic_2 dX2_greatestSolution_22 ?_
      obtain ⟨r8, hr8, hf⟩ := bd_some hf
      refine k_X2_fails_ o hr8 m_995 (Nat.le_of_ble_eq_true rfl) (Nat.le_of_ble_eq_true rfl) ⟨(Nat.le_of_ble_eq_true rfl), (Nat.le_of_ble_eq_true rfl)⟩ dX2_greatestSolution_23 ?_
      cases Option.some.inj hf
      exact g_iret hret (Nat.le_of_ble_eq_true rfl) (Nat.le_of_ble_eq_true rfl) (vp_nar_int _) dX2_greatestSolution_26
  · refine g_aload_n o 0 rfl rfl dX2_greatestSolution_8 ?_
    refine g_iconst o ic_1 dX2_greatestSolution_9 ?_
    obtain ⟨r9, hr9, hf⟩ := bd_some hf
    refine k_X2_fails_ o hr9 m_995 (Nat.le_of_ble_eq_true rfl) (Nat.le_of_ble_eq_true rfl) ⟨(Nat.le_of_ble_eq_true rfl), (Nat.le_of_ble_eq_true rfl)⟩ dX2_greatestSolution_10 ?_
    cases Option.some.inj hf
    exact g_iret hret (Nat.le_of_ble_eq_true rfl) (Nat.le_of_ble_eq_true rfl) (vp_nar_int _) dX2_greatestSolution_13
theorem c_X2_greatestSolution (l : Launch) (hst : l.stackTraces = false) (a : Nat → Nat) (u : St) (t : Int32 × St) (hf : f_X2_greatestSolution u = some t) : CoI l yX2_greatestSolution (.code yX2_greatestSolution cX2_greatestSolution 3 (some .int)) 5 0 0 [.ref (a 0)] (wM a u) (wM a t.2) (.inl t.1) := mkI hst (by decide +kernel) (Nat.le_of_ble_eq_true rfl) (fun x _ o hI hX => b_X2_greatestSolution o a u t hf (hI _ rfl))
def rt_X2_implies (x : Cx) (a : Nat → Nat) (t : Int32 × St) : Prop := RetI x cX2_implies .boolean 0 0 (wM a t.2 (cxT x)) t.1
set_option maxRecDepth 20000 in
set_option maxHeartbeats 2000000 in
theorem b_X2_implies {x : Cx} (o : Ok x cX2_implies 5 RX2 5 0 0) (a : Nat → Nat) (u : St) (p0 : Int32) (p1 : Int32) (p2 : Int32) (p3 : Int32) (t : Int32 × St) (hf : f_X2_implies u p0 p1 p2 p3 = some t) (hret : rt_X2_implies x a t) : G x 5 0 0 (wM a u (cxT x)) [(0, .ref (a 0)), (1, .int p0), (2, .int p1), (3, .int p2), (4, .int p3)] 0 [] := by
  unfold f_X2_implies at hf
  refine g_aload_n o 0 rfl rfl dX2_implies_0 ?_
  refine g_iconst o ic_4 dX2_implies_1 ?_
  obtain ⟨r1, hr1, hf⟩ := bd_some hf
  refine k_X2_has_ o hr1 m_1163 (Nat.le_of_ble_eq_true rfl) (Nat.le_of_ble_eq_true rfl) ⟨(Nat.le_of_ble_eq_true rfl), (Nat.le_of_ble_eq_true rfl)⟩ dX2_implies_2 ?_
  refine g_if_ne (tgt := 14) o rfl dX2_implies_5 hf (fun hc hf => ?_) (fun hc hf => ?_)
  · refine g_aload_n o 0 rfl rfl dX2_implies_14 ?_
    refine g_iload_n o 1 rfl rfl dX2_implies_15 ?_
    obtain ⟨r2, hr2, hf⟩ := bd_some hf
    refine k_X2_isVariable_ o hr2 m_1183 (Nat.le_of_ble_eq_true rfl) (Nat.le_of_ble_eq_true rfl) ⟨(Nat.le_of_ble_eq_true rfl), (Nat.le_of_ble_eq_true rfl)⟩ dX2_implies_16 ?_
    refine g_if_eq (tgt := 30) o rfl dX2_implies_19 hf (fun hc hf => ?_) (fun hc hf => ?_)
    · refine g_aload_n o 0 rfl rfl dX2_implies_30 ?_
      refine g_iconst o ic_2 dX2_implies_31 ?_
      obtain ⟨r3, hr3, hf⟩ := bd_some hf
      refine k_X2_refuses_ o hr3 m_1093 (Nat.le_of_ble_eq_true rfl) (Nat.le_of_ble_eq_true rfl) ⟨(Nat.le_of_ble_eq_true rfl), (Nat.le_of_ble_eq_true rfl)⟩ dX2_implies_32 ?_
      obtain ⟨hb, hf⟩ := gd_some hf
      cases Option.some.inj hf
      exact g_iret hret (Nat.le_of_ble_eq_true rfl) (Nat.le_of_ble_eq_true rfl) (okB_n hb) dX2_implies_35
    · refine g_aload_n o 0 rfl rfl dX2_implies_22 ?_
      refine g_iload_n o 3 rfl rfl dX2_implies_23 ?_
      obtain ⟨r4, hr4, hf⟩ := bd_some hf
      refine k_X2_isVariable_ o hr4 m_1183 (Nat.le_of_ble_eq_true rfl) (Nat.le_of_ble_eq_true rfl) ⟨(Nat.le_of_ble_eq_true rfl), (Nat.le_of_ble_eq_true rfl)⟩ dX2_implies_24 ?_
      refine g_if_ne (tgt := 36) o rfl dX2_implies_27 hf (fun hc hf => ?_) (fun hc hf => ?_)
      · refine g_iload_n o 2 rfl rfl dX2_implies_36 ?_
        obtain ⟨r5, hr5, hf⟩ := bd_some hf
        refine k_X2_isBit_ o hr5 m_1017 (Nat.le_of_ble_eq_true rfl) (Nat.le_of_ble_eq_true rfl) ⟨(Nat.le_of_ble_eq_true rfl), (Nat.le_of_ble_eq_true rfl)⟩ dX2_implies_37 ?_
        refine g_if_eq (tgt := 51) o rfl dX2_implies_40 hf (fun hc hf => ?_) (fun hc hf => ?_)
        · refine g_aload_n o 0 rfl rfl dX2_implies_51 ?_
          refine g_iconst o ic_3 dX2_implies_52 ?_
          obtain ⟨r6, hr6, hf⟩ := bd_some hf
          refine k_X2_refuses_ o hr6 m_1093 (Nat.le_of_ble_eq_true rfl) (Nat.le_of_ble_eq_true rfl) ⟨(Nat.le_of_ble_eq_true rfl), (Nat.le_of_ble_eq_true rfl)⟩ dX2_implies_53 ?_
          obtain ⟨hb, hf⟩ := gd_some hf
          cases Option.some.inj hf
          exact g_iret hret (Nat.le_of_ble_eq_true rfl) (Nat.le_of_ble_eq_true rfl) (okB_n hb) dX2_implies_56
        · refine g_iload o 4 rfl dX2_implies_43 ?_
          obtain ⟨r7, hr7, hf⟩ := bd_some hf
          refine k_X2_isBit_ o hr7 m_1017 (Nat.le_of_ble_eq_true rfl) (Nat.le_of_ble_eq_true rfl) ⟨(Nat.le_of_ble_eq_true rfl), (Nat.le_of_ble_eq_true rfl)⟩ dX2_implies_45 ?_
          refine g_if_ne (tgt := 57) o rfl dX2_implies_48 hf (fun hc hf => ?_) (fun hc hf => ?_)
          · refine g_aload_n o 0 rfl rfl dX2_implies_57 ?_
            refine g_iconst o ic_0 dX2_implies_58 ?_
            refine M_put0 o m_919 dX2_implies_59 ?_
            refine g_aload_n o 0 rfl rfl dX2_implies_62 ?_
            refine g_iload_n o 1 rfl rfl dX2_implies_63 ?_
            refine g_iload_n o 2 rfl rfl dX2_implies_64 ?_
            refine g_iload_n o 3 rfl rfl dX2_implies_65 ?_
            refine g_iload o 4 rfl dX2_implies_66 ?_
            obtain ⟨r8, hr8, hf⟩ := bd_some hf
            refine k_X2_doesImply_ o hr8 m_1215 (Nat.le_of_ble_eq_true rfl) (Nat.le_of_ble_eq_true rfl) ⟨(Nat.le_of_ble_eq_true rfl), (Nat.le_of_ble_eq_true rfl)⟩ dX2_implies_68 ?_
            obtain ⟨hb, hf⟩ := gd_some hf
            cases Option.some.inj hf
            exact g_iret hret (Nat.le_of_ble_eq_true rfl) (Nat.le_of_ble_eq_true rfl) (okB_n hb) dX2_implies_71
          · refine g_aload_n o 0 rfl rfl dX2_implies_51 ?_
            refine g_iconst o ic_3 dX2_implies_52 ?_
            obtain ⟨r9, hr9, hf⟩ := bd_some hf
            refine k_X2_refuses_ o hr9 m_1093 (Nat.le_of_ble_eq_true rfl) (Nat.le_of_ble_eq_true rfl) ⟨(Nat.le_of_ble_eq_true rfl), (Nat.le_of_ble_eq_true rfl)⟩ dX2_implies_53 ?_
            obtain ⟨hb, hf⟩ := gd_some hf
            cases Option.some.inj hf
            exact g_iret hret (Nat.le_of_ble_eq_true rfl) (Nat.le_of_ble_eq_true rfl) (okB_n hb) dX2_implies_56
      · refine g_aload_n o 0 rfl rfl dX2_implies_30 ?_
        refine g_iconst o ic_2 dX2_implies_31 ?_
        obtain ⟨r10, hr10, hf⟩ := bd_some hf
        refine k_X2_refuses_ o hr10 m_1093 (Nat.le_of_ble_eq_true rfl) (Nat.le_of_ble_eq_true rfl) ⟨(Nat.le_of_ble_eq_true rfl), (Nat.le_of_ble_eq_true rfl)⟩ dX2_implies_32 ?_
        obtain ⟨hb, hf⟩ := gd_some hf
        cases Option.some.inj hf
        exact g_iret hret (Nat.le_of_ble_eq_true rfl) (Nat.le_of_ble_eq_true rfl) (okB_n hb) dX2_implies_35
  · refine g_aload_n o 0 rfl rfl dX2_implies_8 ?_
    refine g_iconst o ic_1 dX2_implies_9 ?_
    obtain ⟨r11, hr11, hf⟩ := bd_some hf
    refine k_X2_refuses_ o hr11 m_1093 (Nat.le_of_ble_eq_true rfl) (Nat.le_of_ble_eq_true rfl) ⟨(Nat.le_of_ble_eq_true rfl), (Nat.le_of_ble_eq_true rfl)⟩ dX2_implies_10 ?_
    obtain ⟨hb, hf⟩ := gd_some hf
    cases Option.some.inj hf
    exact g_iret hret (Nat.le_of_ble_eq_true rfl) (Nat.le_of_ble_eq_true rfl) (okB_n hb) dX2_implies_13
theorem c_X2_implies (l : Launch) (hst : l.stackTraces = false) (a : Nat → Nat) (u : St) (p0 : Int32) (p1 : Int32) (p2 : Int32) (p3 : Int32) (t : Int32 × St) (hf : f_X2_implies u p0 p1 p2 p3 = some t) : CoI l yX2_implies (.code yX2_implies cX2_implies 5 (some .boolean)) 5 0 0 [.ref (a 0), .int p0, .int p1, .int p2, .int p3] (wM a u) (wM a t.2) (.inl t.1) := mkI hst (by decide +kernel) (Nat.le_of_ble_eq_true rfl) (fun x _ o hI hX => b_X2_implies o a u p0 p1 p2 p3 t hf (hI _ rfl))
def rt_X2_dimension (x : Cx) (a : Nat → Nat) (t : Int32 × St) : Prop := RetI x cX2_dimension .int 0 0 (wM a t.2 (cxT x)) t.1
set_option maxRecDepth 20000 in
set_option maxHeartbeats 2000000 in
theorem b_X2_dimension_L36 {x : Cx} (o : Ok x cX2_dimension 3 RX2 5 0 0) {k n : Nat} (hk : k ≤ 0) (hn : n ≤ 0) (a : Nat → Nat) (u : St) (c1 : Int32) (r : (Int32) ⊕ (Int32 × St)) (hX : ∀ s : Int32, r = .inl s → G x 3 k n (wM a u (cxT x)) [(2, .int s)] 49 []) (hR : ∀ t, r = .inr t → rt_X2_dimension x a t) : ∀ (m : Nat) (s : Int32), loopN (f_X2_dimension_s36 u c1) m s = some r → G x 3 k n (wM a u (cxT x)) [(1, .int c1), (2, .int s)] 36 [] := by
  refine loop_W _ (fun (s : Int32) => G x 3 k n (wM a u (cxT x)) [(1, .int c1), (2, .int s)] 36 []) r ?_
  intro s ww hf hw
  unfold f_X2_dimension_s36 at hf
  refine g_iconst o ic_1 dX2_dimension_36 ?_
  refine g_iload_n o 1 rfl rfl dX2_dimension_37 ?_
  refine g_ishl o dX2_dimension_38 ?_
  refine g_iload_n o 0 rfl rfl dX2_dimension_39 ?_
  refine g_ic_ge (tgt := 49) o rfl dX2_dimension_40 hf (fun hc hf => ?_) (fun hc hf => ?_)
  · exact g_perm [1] rfl (hX _ (lf_x hf hw))
  · refine g_iinc o [(2, .int (s + 1)), (1, .int c1)] 1 rfl (inc_1 _) (Nat.le_of_ble_eq_true rfl) rfl dX2_dimension_43 ?_
    refine g_goto (tgt := 36) o rfl dX2_dimension_46 ?_
    have hp := lf_c hf hw
    exact g_perm [1, 0] rfl hp
set_option maxRecDepth 20000 in
set_option maxHeartbeats 2000000 in
theorem b_X2_dimension {x : Cx} (o : Ok x cX2_dimension 3 RX2 5 0 0) (a : Nat → Nat) (u : St) (t : Int32 × St) (hf : f_X2_dimension u = some t) (hret : rt_X2_dimension x a t) : G x 3 0 0 (wM a u (cxT x)) [(0, .ref (a 0))] 0 [] := by
  unfold f_X2_dimension at hf
  refine g_aload_n o 0 rfl rfl dX2_dimension_0 ?_
  refine g_iconst o ic_5 dX2_dimension_1 ?_
  obtain ⟨r1, hr1, hf⟩ := bd_some hf
  refine k_X2_has_ o hr1 m_1163 (Nat.le_of_ble_eq_true rfl) (Nat.le_of_ble_eq_true rfl) ⟨(Nat.le_of_ble_eq_true rfl), (Nat.le_of_ble_eq_true rfl)⟩ dX2_dimension_2 ?_
  refine g_if_ne (tgt := 14) o rfl dX2_dimension_5 hf (fun hc hf => ?_) (fun hc hf => ?_)
  · refine g_aload_n o 0 rfl rfl dX2_dimension_14 ?_
    obtain ⟨r2, hr2, hf⟩ := bd_some hf
    refine k_X2_solutions_ o hr2 m_1195 (Nat.le_of_ble_eq_true rfl) (Nat.le_of_ble_eq_true rfl) ⟨(Nat.le_of_ble_eq_true rfl), (Nat.le_of_ble_eq_true rfl)⟩ dX2_dimension_15 ?_
    refine g_istore_n o [(1, .int r2), (0, .ref (a 0))] (Nat.le_of_ble_eq_true rfl) rfl rfl dX2_dimension_18 ?_
    refine g_iload_n o 0 rfl rfl dX2_dimension_19 ?_
    refine g_if_ne (tgt := 29) o rfl dX2_dimension_20 hf (fun hc hf => ?_) (fun hc hf => ?_)
    · refine g_aload_n o 1 rfl rfl dX2_dimension_29 ?_
      refine g_iconst o ic_0 dX2_dimension_30 ?_
      refine M_put0 o m_919 dX2_dimension_31 ?_
      refine g_iconst o ic_0 dX2_dimension_34 ?_
      refine g_istore_n o [(2, .int 0), (1, .int r2), (0, .ref (a 0))] (Nat.le_of_ble_eq_true rfl) rfl rfl dX2_dimension_35 ?_
      obtain ⟨r4, hr4, hxr4, hrr4⟩ := bl_some hf
      refine g_perm [1, 0] rfl (b_X2_dimension_L36 o (Nat.le_of_ble_eq_true rfl) (Nat.le_of_ble_eq_true rfl) a (us u 0 0) r2 r4 (fun s36 hs => ?_) (fun t3 ht => ?_) FU 0 hr4)
      · have hf := hxr4 s36 hs
        refine g_iload_n o 0 rfl rfl dX2_dimension_49 ?_
        cases Option.some.inj hf
        exact g_iret hret (Nat.le_of_ble_eq_true rfl) (Nat.le_of_ble_eq_true rfl) (vp_nar_int _) dX2_dimension_50
      · have hf := hrr4 t3 ht
        cases Option.some.inj hf
        exact hret
    · refine g_aload_n o 1 rfl rfl dX2_dimension_23 ?_
      refine g_iconst o ic_2 dX2_dimension_24 ?_
      obtain ⟨r5, hr5, hf⟩ := bd_some hf
      refine k_X2_fails_ o hr5 m_995 (Nat.le_of_ble_eq_true rfl) (Nat.le_of_ble_eq_true rfl) ⟨(Nat.le_of_ble_eq_true rfl), (Nat.le_of_ble_eq_true rfl)⟩ dX2_dimension_25 ?_
      cases Option.some.inj hf
      exact g_iret hret (Nat.le_of_ble_eq_true rfl) (Nat.le_of_ble_eq_true rfl) (vp_nar_int _) dX2_dimension_28
  · refine g_aload_n o 0 rfl rfl dX2_dimension_8 ?_
    refine g_iconst o ic_1 dX2_dimension_9 ?_
    obtain ⟨r6, hr6, hf⟩ := bd_some hf
    refine k_X2_fails_ o hr6 m_995 (Nat.le_of_ble_eq_true rfl) (Nat.le_of_ble_eq_true rfl) ⟨(Nat.le_of_ble_eq_true rfl), (Nat.le_of_ble_eq_true rfl)⟩ dX2_dimension_10 ?_
    cases Option.some.inj hf
    exact g_iret hret (Nat.le_of_ble_eq_true rfl) (Nat.le_of_ble_eq_true rfl) (vp_nar_int _) dX2_dimension_13
theorem c_X2_dimension (l : Launch) (hst : l.stackTraces = false) (a : Nat → Nat) (u : St) (t : Int32 × St) (hf : f_X2_dimension u = some t) : CoI l yX2_dimension (.code yX2_dimension cX2_dimension 3 (some .int)) 5 0 0 [.ref (a 0)] (wM a u) (wM a t.2) (.inl t.1) := mkI hst (by decide +kernel) (Nat.le_of_ble_eq_true rfl) (fun x _ o hI hX => b_X2_dimension o a u t hf (hI _ rfl))
def rt_X2_define (x : Cx) (a : Nat → Nat) (t : Int32 × St) : Prop := RetI x cX2_define .int 0 0 (wM a t.2 (cxT x)) t.1
set_option maxRecDepth 20000 in
set_option maxHeartbeats 2000000 in
theorem b_X2_define_L56 {x : Cx} (o : Ok x cX2_define 9 RX2 2 0 0) {k n : Nat} (hk : k ≤ 0) (hn : n ≤ 0) (a : Nat → Nat) (u : St) (c1 : Int32) (c2 : Int32) (c3 : Int32) (c4 : Int32) (c5 : Int32) (r : (Int32 × Int32) ⊕ (Int32 × St)) (hX : ∀ s : Int32 × Int32, r = .inl s → G x 9 k n (wM a u (cxT x)) [(0, .ref (a 0)), (1, .int c1), (6, .int s.1)] 171 []) (hR : ∀ t, r = .inr t → rt_X2_define x a t) : ∀ (m : Nat) (s : Int32 × Int32), loopN (f_X2_define_s56 u c1 c2 c3 c4 c5) m s = some r → G x 9 k n (wM a u (cxT x)) [(0, .ref (a 0)), (1, .int c1), (2, .int c2), (3, .int c3), (4, .int c4), (5, .int c5), (6, .int s.1), (7, .int s.2)] 56 [] := by
  refine loop_W _ (fun (s : Int32 × Int32) => G x 9 k n (wM a u (cxT x)) [(0, .ref (a 0)), (1, .int c1), (2, .int c2), (3, .int c3), (4, .int c4), (5, .int c5), (6, .int s.1), (7, .int s.2)] 56 []) r ?_
  intro s ww hf hw
  unfold f_X2_define_s56 at hf
  refine g_iload o 7 rfl dX2_define_56 ?_
  refine g_iconst o ic_1 dX2_define_58 ?_
  refine g_aload_n o 0 rfl rfl dX2_define_59 ?_
  refine M_get6 o m_925 dX2_define_60 ?_
  refine g_ishl o dX2_define_63 ?_
  refine g_ic_ge (tgt := 171) o rfl dX2_define_64 hf (fun hc hf => ?_) (fun hc hf => ?_)
  · exact g_perm [0, 1, 6] rfl (hX _ (lf_x hf hw))
  · refine g_aload_n o 0 rfl rfl dX2_define_67 ?_
    refine g_iload o 7 rfl dX2_define_68 ?_
    refine g_iconst o ic_m1 dX2_define_70 ?_
    obtain ⟨r3, hr3, hf⟩ := bd_some hf
    refine k_X2_solves_ o hr3 m_1199 (Nat.le_of_ble_eq_true rfl) (Nat.le_of_ble_eq_true rfl) ⟨hk, hn⟩ dX2_define_71 ?_
    refine g_if_ne (tgt := 80) o rfl dX2_define_74 hf (fun hc hf => ?_) (fun hc hf => ?_)
    · refine g_iload o 7 rfl dX2_define_80 ?_
      refine g_iload_n o 2 rfl rfl dX2_define_82 ?_
      refine g_ishr o dX2_define_83 ?_
      refine g_iconst o ic_1 dX2_define_84 ?_
      refine g_iand o dX2_define_85 ?_
      refine g_nmi hf (fun x4 hf => ?_)
      refine g_istore o [(8, .int x4), (0, .ref (a 0)), (1, .int c1), (2, .int c2), (3, .int c3), (4, .int c4), (5, .int c5), (6, .int s.1), (7, .int s.2)] (Nat.le_of_ble_eq_true rfl) rfl dX2_define_86 ?_
      refine g_iload o 0 rfl dX2_define_88 ?_
      refine g_iload_n o 2 rfl rfl dX2_define_90 ?_
      refine g_iconst o ic_1 dX2_define_91 ?_
      refine g_ic_le (tgt := 106) o rfl dX2_define_92 hf (fun hc hf => ?_) (fun hc hf => ?_)
      · refine g_iconst o ic_0 dX2_define_106 ?_
        refine g_ior o dX2_define_107 ?_
        refine g_nmi hf (fun x5 hf => ?_)
        refine g_istore o [(8, .int x5), (0, .ref (a 0)), (1, .int c1), (2, .int c2), (3, .int c3), (4, .int c4), (5, .int c5), (6, .int s.1), (7, .int s.2)] (Nat.le_of_ble_eq_true rfl) rfl dX2_define_108 ?_
        refine g_iload o 0 rfl dX2_define_110 ?_
        refine g_iload_n o 2 rfl rfl dX2_define_112 ?_
        refine g_iconst o ic_2 dX2_define_113 ?_
        refine g_ic_le (tgt := 129) o rfl dX2_define_114 hf (fun hc hf => ?_) (fun hc hf => ?_)
        · refine g_iconst o ic_0 dX2_define_129 ?_
          refine g_ior o dX2_define_130 ?_
          refine g_nmi hf (fun x6 hf => ?_)
          refine g_istore o [(8, .int x6), (0, .ref (a 0)), (1, .int c1), (2, .int c2), (3, .int c3), (4, .int c4), (5, .int c5), (6, .int s.1), (7, .int s.2)] (Nat.le_of_ble_eq_true rfl) rfl dX2_define_131 ?_
          refine g_iload o 0 rfl dX2_define_133 ?_
          refine g_iload_n o 2 rfl rfl dX2_define_135 ?_
          refine g_iconst o ic_3 dX2_define_136 ?_
          refine g_ic_le (tgt := 152) o rfl dX2_define_137 hf (fun hc hf => ?_) (fun hc hf => ?_)
          · refine g_iconst o ic_0 dX2_define_152 ?_
            refine g_ior o dX2_define_153 ?_
            refine g_nmi hf (fun x7 hf => ?_)
            refine g_istore o [(8, .int x7), (0, .ref (a 0)), (1, .int c1), (2, .int c2), (3, .int c3), (4, .int c4), (5, .int c5), (6, .int s.1), (7, .int s.2)] (Nat.le_of_ble_eq_true rfl) rfl dX2_define_154 ?_
            refine g_iload o 7 rfl dX2_define_156 ?_
            refine g_iconst o ic_1 dX2_define_158 ?_
            refine g_iload o 0 rfl dX2_define_159 ?_
            refine g_ishl o dX2_define_161 ?_
            refine g_ior o dX2_define_162 ?_
            refine g_nmi hf (fun x8 hf => ?_)
            refine g_istore o [(6, .int x8), (8, .int x7), (0, .ref (a 0)), (1, .int c1), (2, .int c2), (3, .int c3), (4, .int c4), (5, .int c5), (7, .int s.2)] (Nat.le_of_ble_eq_true rfl) rfl dX2_define_163 ?_
            refine g_iinc o [(7, .int (s.2 + 1)), (6, .int x8), (8, .int x7), (0, .ref (a 0)), (1, .int c1), (2, .int c2), (3, .int c3), (4, .int c4), (5, .int c5)] 8 rfl (inc_1 _) (Nat.le_of_ble_eq_true rfl) rfl dX2_define_165 ?_
            refine g_goto (tgt := 56) o rfl dX2_define_168 ?_
            have hp := lf_c hf hw
            exact g_perm [3, 4, 5, 6, 7, 8, 1, 0] rfl hp
          · refine g_iload o 8 rfl dX2_define_140 ?_
            refine g_iload o 6 rfl dX2_define_142 ?_
            refine g_ishr o dX2_define_144 ?_
            refine g_iconst o ic_1 dX2_define_145 ?_
            refine g_iand o dX2_define_146 ?_
            refine g_iconst o ic_3 dX2_define_147 ?_
            refine g_ishl o dX2_define_148 ?_
            refine g_goto (tgt := 153) o rfl dX2_define_149 ?_
            refine g_ior o dX2_define_153 ?_
            refine g_nmi hf (fun x9 hf => ?_)
            refine g_istore o [(8, .int x9), (0, .ref (a 0)), (1, .int c1), (2, .int c2), (3, .int c3), (4, .int c4), (5, .int c5), (6, .int s.1), (7, .int s.2)] (Nat.le_of_ble_eq_true rfl) rfl dX2_define_154 ?_
            refine g_iload o 7 rfl dX2_define_156 ?_
            refine g_iconst o ic_1 dX2_define_158 ?_
            refine g_iload o 0 rfl dX2_define_159 ?_
            refine g_ishl o dX2_define_161 ?_
            refine g_ior o dX2_define_162 ?_
            refine g_nmi hf (fun x10 hf => ?_)
            refine g_istore o [(6, .int x10), (8, .int x9), (0, .ref (a 0)), (1, .int c1), (2, .int c2), (3, .int c3), (4, .int c4), (5, .int c5), (7, .int s.2)] (Nat.le_of_ble_eq_true rfl) rfl dX2_define_163 ?_
            refine g_iinc o [(7, .int (s.2 + 1)), (6, .int x10), (8, .int x9), (0, .ref (a 0)), (1, .int c1), (2, .int c2), (3, .int c3), (4, .int c4), (5, .int c5)] 8 rfl (inc_1 _) (Nat.le_of_ble_eq_true rfl) rfl dX2_define_165 ?_
            refine g_goto (tgt := 56) o rfl dX2_define_168 ?_
            have hp := lf_c hf hw
            exact g_perm [3, 4, 5, 6, 7, 8, 1, 0] rfl hp
        · refine g_iload o 8 rfl dX2_define_117 ?_
          refine g_iload o 5 rfl dX2_define_119 ?_
          refine g_ishr o dX2_define_121 ?_
          refine g_iconst o ic_1 dX2_define_122 ?_
          refine g_iand o dX2_define_123 ?_
          refine g_iconst o ic_2 dX2_define_124 ?_
          refine g_ishl o dX2_define_125 ?_
          refine g_goto (tgt := 130) o rfl dX2_define_126 ?_
          refine g_ior o dX2_define_130 ?_
          refine g_nmi hf (fun x11 hf => ?_)
          refine g_istore o [(8, .int x11), (0, .ref (a 0)), (1, .int c1), (2, .int c2), (3, .int c3), (4, .int c4), (5, .int c5), (6, .int s.1), (7, .int s.2)] (Nat.le_of_ble_eq_true rfl) rfl dX2_define_131 ?_
          refine g_iload o 0 rfl dX2_define_133 ?_
          refine g_iload_n o 2 rfl rfl dX2_define_135 ?_
          refine g_iconst o ic_3 dX2_define_136 ?_
          refine g_ic_le (tgt := 152) o rfl dX2_define_137 hf (fun hc hf => ?_) (fun hc hf => ?_)
          · refine g_iconst o ic_0 dX2_define_152 ?_
            refine g_ior o dX2_define_153 ?_
            refine g_nmi hf (fun x12 hf => ?_)
            refine g_istore o [(8, .int x12), (0, .ref (a 0)), (1, .int c1), (2, .int c2), (3, .int c3), (4, .int c4), (5, .int c5), (6, .int s.1), (7, .int s.2)] (Nat.le_of_ble_eq_true rfl) rfl dX2_define_154 ?_
            refine g_iload o 7 rfl dX2_define_156 ?_
            refine g_iconst o ic_1 dX2_define_158 ?_
            refine g_iload o 0 rfl dX2_define_159 ?_
            refine g_ishl o dX2_define_161 ?_
            refine g_ior o dX2_define_162 ?_
            refine g_nmi hf (fun x13 hf => ?_)
            refine g_istore o [(6, .int x13), (8, .int x12), (0, .ref (a 0)), (1, .int c1), (2, .int c2), (3, .int c3), (4, .int c4), (5, .int c5), (7, .int s.2)] (Nat.le_of_ble_eq_true rfl) rfl dX2_define_163 ?_
            refine g_iinc o [(7, .int (s.2 + 1)), (6, .int x13), (8, .int x12), (0, .ref (a 0)), (1, .int c1), (2, .int c2), (3, .int c3), (4, .int c4), (5, .int c5)] 8 rfl (inc_1 _) (Nat.le_of_ble_eq_true rfl) rfl dX2_define_165 ?_
            refine g_goto (tgt := 56) o rfl dX2_define_168 ?_
            have hp := lf_c hf hw
            exact g_perm [3, 4, 5, 6, 7, 8, 1, 0] rfl hp
          · refine g_iload o 8 rfl dX2_define_140 ?_
            refine g_iload o 6 rfl dX2_define_142 ?_
            refine g_ishr o dX2_define_144 ?_
            refine g_iconst o ic_1 dX2_define_145 ?_
            refine g_iand o dX2_define_146 ?_
            refine g_iconst o ic_3 dX2_define_147 ?_
            refine g_ishl o dX2_define_148 ?_
            refine g_goto (tgt := 153) o rfl dX2_define_149 ?_
            refine g_ior o dX2_define_153 ?_
            refine g_nmi hf (fun x14 hf => ?_)
            refine g_istore o [(8, .int x14), (0, .ref (a 0)), (1, .int c1), (2, .int c2), (3, .int c3), (4, .int c4), (5, .int c5), (6, .int s.1), (7, .int s.2)] (Nat.le_of_ble_eq_true rfl) rfl dX2_define_154 ?_
            refine g_iload o 7 rfl dX2_define_156 ?_
            refine g_iconst o ic_1 dX2_define_158 ?_
            refine g_iload o 0 rfl dX2_define_159 ?_
            refine g_ishl o dX2_define_161 ?_
            refine g_ior o dX2_define_162 ?_
            refine g_nmi hf (fun x15 hf => ?_)
            refine g_istore o [(6, .int x15), (8, .int x14), (0, .ref (a 0)), (1, .int c1), (2, .int c2), (3, .int c3), (4, .int c4), (5, .int c5), (7, .int s.2)] (Nat.le_of_ble_eq_true rfl) rfl dX2_define_163 ?_
            refine g_iinc o [(7, .int (s.2 + 1)), (6, .int x15), (8, .int x14), (0, .ref (a 0)), (1, .int c1), (2, .int c2), (3, .int c3), (4, .int c4), (5, .int c5)] 8 rfl (inc_1 _) (Nat.le_of_ble_eq_true rfl) rfl dX2_define_165 ?_
            refine g_goto (tgt := 56) o rfl dX2_define_168 ?_
            have hp := lf_c hf hw
            exact g_perm [3, 4, 5, 6, 7, 8, 1, 0] rfl hp
      · refine g_iload o 8 rfl dX2_define_95 ?_
        refine g_iload_n o 4 rfl rfl dX2_define_97 ?_
        refine g_ishr o dX2_define_98 ?_
        refine g_iconst o ic_1 dX2_define_99 ?_
        refine g_iand o dX2_define_100 ?_
        refine g_iconst o ic_1 dX2_define_101 ?_
        refine g_ishl o dX2_define_102 ?_
        refine g_goto (tgt := 107) o rfl dX2_define_103 ?_
        refine g_ior o dX2_define_107 ?_
        refine g_nmi hf (fun x16 hf => ?_)
        refine g_istore o [(8, .int x16), (0, .ref (a 0)), (1, .int c1), (2, .int c2), (3, .int c3), (4, .int c4), (5, .int c5), (6, .int s.1), (7, .int s.2)] (Nat.le_of_ble_eq_true rfl) rfl dX2_define_108 ?_
        refine g_iload o 0 rfl dX2_define_110 ?_
        refine g_iload_n o 2 rfl rfl dX2_define_112 ?_
        refine g_iconst o ic_2 dX2_define_113 ?_
        refine g_ic_le (tgt := 129) o rfl dX2_define_114 hf (fun hc hf => ?_) (fun hc hf => ?_)
        · refine g_iconst o ic_0 dX2_define_129 ?_
          refine g_ior o dX2_define_130 ?_
          refine g_nmi hf (fun x17 hf => ?_)
          refine g_istore o [(8, .int x17), (0, .ref (a 0)), (1, .int c1), (2, .int c2), (3, .int c3), (4, .int c4), (5, .int c5), (6, .int s.1), (7, .int s.2)] (Nat.le_of_ble_eq_true rfl) rfl dX2_define_131 ?_
          refine g_iload o 0 rfl dX2_define_133 ?_
          refine g_iload_n o 2 rfl rfl dX2_define_135 ?_
          refine g_iconst o ic_3 dX2_define_136 ?_
          refine g_ic_le (tgt := 152) o rfl dX2_define_137 hf (fun hc hf => ?_) (fun hc hf => ?_)
          · refine g_iconst o ic_0 dX2_define_152 ?_
            refine g_ior o dX2_define_153 ?_
            refine g_nmi hf (fun x18 hf => ?_)
            refine g_istore o [(8, .int x18), (0, .ref (a 0)), (1, .int c1), (2, .int c2), (3, .int c3), (4, .int c4), (5, .int c5), (6, .int s.1), (7, .int s.2)] (Nat.le_of_ble_eq_true rfl) rfl dX2_define_154 ?_
            refine g_iload o 7 rfl dX2_define_156 ?_
            refine g_iconst o ic_1 dX2_define_158 ?_
            refine g_iload o 0 rfl dX2_define_159 ?_
            refine g_ishl o dX2_define_161 ?_
            refine g_ior o dX2_define_162 ?_
            refine g_nmi hf (fun x19 hf => ?_)
            refine g_istore o [(6, .int x19), (8, .int x18), (0, .ref (a 0)), (1, .int c1), (2, .int c2), (3, .int c3), (4, .int c4), (5, .int c5), (7, .int s.2)] (Nat.le_of_ble_eq_true rfl) rfl dX2_define_163 ?_
            refine g_iinc o [(7, .int (s.2 + 1)), (6, .int x19), (8, .int x18), (0, .ref (a 0)), (1, .int c1), (2, .int c2), (3, .int c3), (4, .int c4), (5, .int c5)] 8 rfl (inc_1 _) (Nat.le_of_ble_eq_true rfl) rfl dX2_define_165 ?_
            refine g_goto (tgt := 56) o rfl dX2_define_168 ?_
            have hp := lf_c hf hw
            exact g_perm [3, 4, 5, 6, 7, 8, 1, 0] rfl hp
          · refine g_iload o 8 rfl dX2_define_140 ?_
            refine g_iload o 6 rfl dX2_define_142 ?_
            refine g_ishr o dX2_define_144 ?_
            refine g_iconst o ic_1 dX2_define_145 ?_
            refine g_iand o dX2_define_146 ?_
            refine g_iconst o ic_3 dX2_define_147 ?_
            refine g_ishl o dX2_define_148 ?_
            refine g_goto (tgt := 153) o rfl dX2_define_149 ?_
            refine g_ior o dX2_define_153 ?_
            refine g_nmi hf (fun x20 hf => ?_)
            refine g_istore o [(8, .int x20), (0, .ref (a 0)), (1, .int c1), (2, .int c2), (3, .int c3), (4, .int c4), (5, .int c5), (6, .int s.1), (7, .int s.2)] (Nat.le_of_ble_eq_true rfl) rfl dX2_define_154 ?_
            refine g_iload o 7 rfl dX2_define_156 ?_
            refine g_iconst o ic_1 dX2_define_158 ?_
            refine g_iload o 0 rfl dX2_define_159 ?_
            refine g_ishl o dX2_define_161 ?_
            refine g_ior o dX2_define_162 ?_
            refine g_nmi hf (fun x21 hf => ?_)
            refine g_istore o [(6, .int x21), (8, .int x20), (0, .ref (a 0)), (1, .int c1), (2, .int c2), (3, .int c3), (4, .int c4), (5, .int c5), (7, .int s.2)] (Nat.le_of_ble_eq_true rfl) rfl dX2_define_163 ?_
            refine g_iinc o [(7, .int (s.2 + 1)), (6, .int x21), (8, .int x20), (0, .ref (a 0)), (1, .int c1), (2, .int c2), (3, .int c3), (4, .int c4), (5, .int c5)] 8 rfl (inc_1 _) (Nat.le_of_ble_eq_true rfl) rfl dX2_define_165 ?_
            refine g_goto (tgt := 56) o rfl dX2_define_168 ?_
            have hp := lf_c hf hw
            exact g_perm [3, 4, 5, 6, 7, 8, 1, 0] rfl hp
        · refine g_iload o 8 rfl dX2_define_117 ?_
          refine g_iload o 5 rfl dX2_define_119 ?_
          refine g_ishr o dX2_define_121 ?_
          refine g_iconst o ic_1 dX2_define_122 ?_
          refine g_iand o dX2_define_123 ?_
          refine g_iconst o ic_2 dX2_define_124 ?_
          refine g_ishl o dX2_define_125 ?_
          refine g_goto (tgt := 130) o rfl dX2_define_126 ?_
          refine g_ior o dX2_define_130 ?_
          refine g_nmi hf (fun x22 hf => ?_)
          refine g_istore o [(8, .int x22), (0, .ref (a 0)), (1, .int c1), (2, .int c2), (3, .int c3), (4, .int c4), (5, .int c5), (6, .int s.1), (7, .int s.2)] (Nat.le_of_ble_eq_true rfl) rfl dX2_define_131 ?_
          refine g_iload o 0 rfl dX2_define_133 ?_
          refine g_iload_n o 2 rfl rfl dX2_define_135 ?_
          refine g_iconst o ic_3 dX2_define_136 ?_
          refine g_ic_le (tgt := 152) o rfl dX2_define_137 hf (fun hc hf => ?_) (fun hc hf => ?_)
          · refine g_iconst o ic_0 dX2_define_152 ?_
            refine g_ior o dX2_define_153 ?_
            refine g_nmi hf (fun x23 hf => ?_)
            refine g_istore o [(8, .int x23), (0, .ref (a 0)), (1, .int c1), (2, .int c2), (3, .int c3), (4, .int c4), (5, .int c5), (6, .int s.1), (7, .int s.2)] (Nat.le_of_ble_eq_true rfl) rfl dX2_define_154 ?_
            refine g_iload o 7 rfl dX2_define_156 ?_
            refine g_iconst o ic_1 dX2_define_158 ?_
            refine g_iload o 0 rfl dX2_define_159 ?_
            refine g_ishl o dX2_define_161 ?_
            refine g_ior o dX2_define_162 ?_
            refine g_nmi hf (fun x24 hf => ?_)
            refine g_istore o [(6, .int x24), (8, .int x23), (0, .ref (a 0)), (1, .int c1), (2, .int c2), (3, .int c3), (4, .int c4), (5, .int c5), (7, .int s.2)] (Nat.le_of_ble_eq_true rfl) rfl dX2_define_163 ?_
            refine g_iinc o [(7, .int (s.2 + 1)), (6, .int x24), (8, .int x23), (0, .ref (a 0)), (1, .int c1), (2, .int c2), (3, .int c3), (4, .int c4), (5, .int c5)] 8 rfl (inc_1 _) (Nat.le_of_ble_eq_true rfl) rfl dX2_define_165 ?_
            refine g_goto (tgt := 56) o rfl dX2_define_168 ?_
            have hp := lf_c hf hw
            exact g_perm [3, 4, 5, 6, 7, 8, 1, 0] rfl hp
          · refine g_iload o 8 rfl dX2_define_140 ?_
            refine g_iload o 6 rfl dX2_define_142 ?_
            refine g_ishr o dX2_define_144 ?_
            refine g_iconst o ic_1 dX2_define_145 ?_
            refine g_iand o dX2_define_146 ?_
            refine g_iconst o ic_3 dX2_define_147 ?_
            refine g_ishl o dX2_define_148 ?_
            refine g_goto (tgt := 153) o rfl dX2_define_149 ?_
            refine g_ior o dX2_define_153 ?_
            refine g_nmi hf (fun x25 hf => ?_)
            refine g_istore o [(8, .int x25), (0, .ref (a 0)), (1, .int c1), (2, .int c2), (3, .int c3), (4, .int c4), (5, .int c5), (6, .int s.1), (7, .int s.2)] (Nat.le_of_ble_eq_true rfl) rfl dX2_define_154 ?_
            refine g_iload o 7 rfl dX2_define_156 ?_
            refine g_iconst o ic_1 dX2_define_158 ?_
            refine g_iload o 0 rfl dX2_define_159 ?_
            refine g_ishl o dX2_define_161 ?_
            refine g_ior o dX2_define_162 ?_
            refine g_nmi hf (fun x26 hf => ?_)
            refine g_istore o [(6, .int x26), (8, .int x25), (0, .ref (a 0)), (1, .int c1), (2, .int c2), (3, .int c3), (4, .int c4), (5, .int c5), (7, .int s.2)] (Nat.le_of_ble_eq_true rfl) rfl dX2_define_163 ?_
            refine g_iinc o [(7, .int (s.2 + 1)), (6, .int x26), (8, .int x25), (0, .ref (a 0)), (1, .int c1), (2, .int c2), (3, .int c3), (4, .int c4), (5, .int c5)] 8 rfl (inc_1 _) (Nat.le_of_ble_eq_true rfl) rfl dX2_define_165 ?_
            refine g_goto (tgt := 56) o rfl dX2_define_168 ?_
            have hp := lf_c hf hw
            exact g_perm [3, 4, 5, 6, 7, 8, 1, 0] rfl hp
    · refine g_goto (tgt := 165) o rfl dX2_define_77 ?_
      refine g_iinc o [(7, .int (s.2 + 1)), (0, .ref (a 0)), (1, .int c1), (2, .int c2), (3, .int c3), (4, .int c4), (5, .int c5), (6, .int s.1)] 7 rfl (inc_1 _) (Nat.le_of_ble_eq_true rfl) rfl dX2_define_165 ?_
      refine g_goto (tgt := 56) o rfl dX2_define_168 ?_
      have hp := lf_c hf hw
      exact g_perm [1, 2, 3, 4, 5, 6, 7, 0] rfl hp
set_option maxRecDepth 20000 in
set_option maxHeartbeats 2000000 in
theorem b_X2_define {x : Cx} (o : Ok x cX2_define 9 RX2 2 0 0) (a : Nat → Nat) (u : St) (p0 : Int32) (p1 : Int32) (p2 : Int32) (p3 : Int32) (p4 : Int32) (t : Int32 × St) (hf : f_X2_define u p0 p1 p2 p3 p4 = some t) (hret : rt_X2_define x a t) : G x 9 0 0 (wM a u (cxT x)) [(0, .ref (a 0)), (1, .int p0), (2, .int p1), (3, .int p2), (4, .int p3), (5, .int p4)] 0 [] := by
  unfold f_X2_define at hf
  refine g_iload_n o 1 rfl rfl dX2_define_0 ?_
  refine g_iconst o ic_1 dX2_define_1 ?_
  refine g_iconst o ic_4 dX2_define_2 ?_
  obtain ⟨r1, hr1, hf⟩ := bd_some hf
  refine k_X2_isBetween_ o hr1 m_992 (Nat.le_of_ble_eq_true rfl) (Nat.le_of_ble_eq_true rfl) ⟨(Nat.le_of_ble_eq_true rfl), (Nat.le_of_ble_eq_true rfl)⟩ dX2_define_3 ?_
  refine g_if_ne (tgt := 15) o rfl dX2_define_6 hf (fun hc hf => ?_) (fun hc hf => ?_)
  · refine g_aload_n o 0 rfl rfl dX2_define_15 ?_
    refine g_iload_n o 1 rfl rfl dX2_define_16 ?_
    refine g_iload_n o 2 rfl rfl dX2_define_17 ?_
    refine g_iload_n o 3 rfl rfl dX2_define_18 ?_
    refine g_iload o 4 rfl dX2_define_19 ?_
    refine g_iload o 5 rfl dX2_define_21 ?_
    obtain ⟨r2, hr2, hf⟩ := bd_some hf
    refine k_X2_areVariables_ o hr2 m_1179 (Nat.le_of_ble_eq_true rfl) (Nat.le_of_ble_eq_true rfl) ⟨(Nat.le_of_ble_eq_true rfl), (Nat.le_of_ble_eq_true rfl)⟩ dX2_define_23 ?_
    refine g_if_ne (tgt := 35) o rfl dX2_define_26 hf (fun hc hf => ?_) (fun hc hf => ?_)
    · refine g_aload_n o 0 rfl rfl dX2_define_35 ?_
      refine M_get3 o m_922 dX2_define_36 ?_
      refine g_bipush o bp_8 dX2_define_39 ?_
      refine g_ic_ne (tgt := 50) o rfl dX2_define_41 hf (fun hc hf => ?_) (fun hc hf => ?_)
      · refine g_iconst o ic_0 dX2_define_50 ?_
        refine g_istore o [(6, .int 0), (0, .ref (a 0)), (1, .int p0), (2, .int p1), (3, .int p2), (4, .int p3), (5, .int p4)] (Nat.le_of_ble_eq_true rfl) rfl dX2_define_51 ?_
        refine g_iconst o ic_0 dX2_define_53 ?_
        refine g_istore o [(7, .int 0), (6, .int 0), (0, .ref (a 0)), (1, .int p0), (2, .int p1), (3, .int p2), (4, .int p3), (5, .int p4)] (Nat.le_of_ble_eq_true rfl) rfl dX2_define_54 ?_
        obtain ⟨r28, hr28, hxr28, hrr28⟩ := bl_some hf
        refine g_perm [2, 3, 4, 5, 6, 7, 1, 0] rfl (b_X2_define_L56 o (Nat.le_of_ble_eq_true rfl) (Nat.le_of_ble_eq_true rfl) a u p0 p1 p2 p3 p4 r28 (fun s56 hs => ?_) (fun t27 ht => ?_) FU (0, 0) hr28)
        · have hf := hxr28 s56 hs
          refine g_aload_n o 0 rfl rfl dX2_define_171 ?_
          refine g_iload_n o 1 rfl rfl dX2_define_172 ?_
          refine g_iload o 2 rfl dX2_define_173 ?_
          obtain ⟨r29, hr29, hf⟩ := bd_some hf
          refine k_X2_adds_ o hr29 m_999 (Nat.le_of_ble_eq_true rfl) (Nat.le_of_ble_eq_true rfl) ⟨(Nat.le_of_ble_eq_true rfl), (Nat.le_of_ble_eq_true rfl)⟩ dX2_define_175 ?_
          cases Option.some.inj hf
          exact g_iret hret (Nat.le_of_ble_eq_true rfl) (Nat.le_of_ble_eq_true rfl) (vp_nar_int _) dX2_define_178
        · have hf := hrr28 t27 ht
          cases Option.some.inj hf
          exact hret
      · refine g_aload_n o 0 rfl rfl dX2_define_44 ?_
        refine g_iconst o ic_3 dX2_define_45 ?_
        obtain ⟨r30, hr30, hf⟩ := bd_some hf
        refine k_X2_fails_ o hr30 m_995 (Nat.le_of_ble_eq_true rfl) (Nat.le_of_ble_eq_true rfl) ⟨(Nat.le_of_ble_eq_true rfl), (Nat.le_of_ble_eq_true rfl)⟩ dX2_define_46 ?_
        cases Option.some.inj hf
        exact g_iret hret (Nat.le_of_ble_eq_true rfl) (Nat.le_of_ble_eq_true rfl) (vp_nar_int _) dX2_define_49
    · refine g_aload_n o 0 rfl rfl dX2_define_29 ?_
      refine g_iconst o ic_2 dX2_define_30 ?_
      obtain ⟨r31, hr31, hf⟩ := bd_some hf
      refine k_X2_fails_ o hr31 m_995 (Nat.le_of_ble_eq_true rfl) (Nat.le_of_ble_eq_true rfl) ⟨(Nat.le_of_ble_eq_true rfl), (Nat.le_of_ble_eq_true rfl)⟩ dX2_define_31 ?_
      cases Option.some.inj hf
      exact g_iret hret (Nat.le_of_ble_eq_true rfl) (Nat.le_of_ble_eq_true rfl) (vp_nar_int _) dX2_define_34
  · refine g_aload_n o 0 rfl rfl dX2_define_9 ?_
    refine g_iconst o ic_1 dX2_define_10 ?_
    obtain ⟨r32, hr32, hf⟩ := bd_some hf
    refine k_X2_fails_ o hr32 m_995 (Nat.le_of_ble_eq_true rfl) (Nat.le_of_ble_eq_true rfl) ⟨(Nat.le_of_ble_eq_true rfl), (Nat.le_of_ble_eq_true rfl)⟩ dX2_define_11 ?_
    cases Option.some.inj hf
    exact g_iret hret (Nat.le_of_ble_eq_true rfl) (Nat.le_of_ble_eq_true rfl) (vp_nar_int _) dX2_define_14
theorem c_X2_define (l : Launch) (hst : l.stackTraces = false) (a : Nat → Nat) (u : St) (p0 : Int32) (p1 : Int32) (p2 : Int32) (p3 : Int32) (p4 : Int32) (t : Int32 × St) (hf : f_X2_define u p0 p1 p2 p3 p4 = some t) : CoI l yX2_define (.code yX2_define cX2_define 9 (some .int)) 2 0 0 [.ref (a 0), .int p0, .int p1, .int p2, .int p3, .int p4] (wM a u) (wM a t.2) (.inl t.1) := mkI hst (by decide +kernel) (Nat.le_of_ble_eq_true rfl) (fun x _ o hI hX => b_X2_define o a u p0 p1 p2 p3 p4 t hf (hI _ rfl))
def rt_X2_firstViolated (x : Cx) (a : Nat → Nat) (t : Int32 × St) : Prop := RetI x cX2_firstViolated .int 0 0 (wM a t.2 (cxT x)) t.1
set_option maxRecDepth 20000 in
set_option maxHeartbeats 2000000 in
theorem b_X2_firstViolated_L27 {x : Cx} (o : Ok x cX2_firstViolated 3 RX2 1 0 0) {k n : Nat} (hk : k ≤ 0) (hn : n ≤ 0) (a : Nat → Nat) (u : St) (c1 : Int32) (r : (Int32) ⊕ (Int32 × St)) (hX : ∀ s : Int32, r = .inl s → G x 3 k n (wM a u (cxT x)) [(0, .ref (a 0))] 52 []) (hR : ∀ t, r = .inr t → rt_X2_firstViolated x a t) : ∀ (m : Nat) (s : Int32), loopN (f_X2_firstViolated_s27 u c1) m s = some r → G x 3 k n (wM a u (cxT x)) [(0, .ref (a 0)), (1, .int c1), (2, .int s)] 27 [] := by
  refine loop_W _ (fun (s : Int32) => G x 3 k n (wM a u (cxT x)) [(0, .ref (a 0)), (1, .int c1), (2, .int s)] 27 []) r ?_
  intro s ww hf hw
  unfold f_X2_firstViolated_s27 at hf
  refine g_iload_n o 2 rfl rfl dX2_firstViolated_27 ?_
  refine g_aload_n o 0 rfl rfl dX2_firstViolated_28 ?_
  refine M_get7 o m_926 dX2_firstViolated_29 ?_
  refine g_ic_ge (tgt := 52) o rfl dX2_firstViolated_32 hf (fun hc hf => ?_) (fun hc hf => ?_)
  · exact g_perm [0] rfl (hX _ (lf_x hf hw))
  · refine g_aload_n o 0 rfl rfl dX2_firstViolated_35 ?_
    refine g_iload_n o 2 rfl rfl dX2_firstViolated_36 ?_
    refine g_iload_n o 1 rfl rfl dX2_firstViolated_37 ?_
    obtain ⟨r2, hr2, hf⟩ := bd_some hf
    refine k_X2_isSatisfied_ o hr2 m_1203 (Nat.le_of_ble_eq_true rfl) (Nat.le_of_ble_eq_true rfl) ⟨hk, hn⟩ dX2_firstViolated_38 ?_
    refine g_if_ne (tgt := 46) o rfl dX2_firstViolated_41 hf (fun hc hf => ?_) (fun hc hf => ?_)
    · refine g_iinc o [(2, .int (s + 1)), (0, .ref (a 0)), (1, .int c1)] 2 rfl (inc_1 _) (Nat.le_of_ble_eq_true rfl) rfl dX2_firstViolated_46 ?_
      refine g_goto (tgt := 27) o rfl dX2_firstViolated_49 ?_
      have hp := lf_c hf hw
      exact g_perm [1, 2, 0] rfl hp
    · refine g_iload_n o 2 rfl rfl dX2_firstViolated_44 ?_
      exact g_iret (hR _ (lf_x hf hw)) hk hn (vp_nar_int _) dX2_firstViolated_45
set_option maxRecDepth 20000 in
set_option maxHeartbeats 2000000 in
theorem b_X2_firstViolated {x : Cx} (o : Ok x cX2_firstViolated 3 RX2 1 0 0) (a : Nat → Nat) (u : St) (p0 : Int32) (t : Int32 × St) (hf : f_X2_firstViolated u p0 = some t) (hret : rt_X2_firstViolated x a t) : G x 3 0 0 (wM a u (cxT x)) [(0, .ref (a 0)), (1, .int p0)] 0 [] := by
  unfold f_X2_firstViolated at hf
  refine g_iload_n o 1 rfl rfl dX2_firstViolated_0 ?_
  refine g_if_lt (tgt := 14) o rfl dX2_firstViolated_1 hf (fun hc hf => ?_) (fun hc hf => ?_)
  · refine g_aload_n o 0 rfl rfl dX2_firstViolated_14 ?_
    refine g_iconst o ic_1 dX2_firstViolated_15 ?_
    obtain ⟨r1, hr1, hf⟩ := bd_some hf
    refine k_X2_fails_ o hr1 m_995 (Nat.le_of_ble_eq_true rfl) (Nat.le_of_ble_eq_true rfl) ⟨(Nat.le_of_ble_eq_true rfl), (Nat.le_of_ble_eq_true rfl)⟩ dX2_firstViolated_16 ?_
    cases Option.some.inj hf
    exact g_iret hret (Nat.le_of_ble_eq_true rfl) (Nat.le_of_ble_eq_true rfl) (vp_nar_int _) dX2_firstViolated_19
  · refine g_iload_n o 1 rfl rfl dX2_firstViolated_4 ?_
    refine g_iconst o ic_1 dX2_firstViolated_5 ?_
    refine g_aload_n o 0 rfl rfl dX2_firstViolated_6 ?_
    refine M_get6 o m_925 dX2_firstViolated_7 ?_
    refine g_ishl o dX2_firstViolated_10 ?_
    refine g_ic_lt (tgt := 20) o rfl dX2_firstViolated_11 hf (fun hc hf => ?_) (fun hc hf => ?_)
    · refine g_aload_n o 0 rfl rfl dX2_firstViolated_20 ?_
      refine g_iconst o ic_0 dX2_firstViolated_21 ?_
      refine M_put0 o m_919 dX2_firstViolated_22 ?_
      refine g_iconst o ic_0 dX2_firstViolated_25 ?_
      refine g_istore_n o [(2, .int 0), (0, .ref (a 0)), (1, .int p0)] (Nat.le_of_ble_eq_true rfl) rfl rfl dX2_firstViolated_26 ?_
      obtain ⟨r4, hr4, hxr4, hrr4⟩ := bl_some hf
      refine g_perm [1, 2, 0] rfl (b_X2_firstViolated_L27 o (Nat.le_of_ble_eq_true rfl) (Nat.le_of_ble_eq_true rfl) a (us u 0 0) p0 r4 (fun s27 hs => ?_) (fun t3 ht => ?_) FU 0 hr4)
      · have hf := hxr4 s27 hs
        refine g_aload_n o 0 rfl rfl dX2_firstViolated_52 ?_
        refine g_iconst o ic_2 dX2_firstViolated_53 ?_
        obtain ⟨r5, hr5, hf⟩ := bd_some hf
        refine k_X2_fails_ o hr5 m_995 (Nat.le_of_ble_eq_true rfl) (Nat.le_of_ble_eq_true rfl) ⟨(Nat.le_of_ble_eq_true rfl), (Nat.le_of_ble_eq_true rfl)⟩ dX2_firstViolated_54 ?_
        cases Option.some.inj hf
        exact g_iret hret (Nat.le_of_ble_eq_true rfl) (Nat.le_of_ble_eq_true rfl) (vp_nar_int _) dX2_firstViolated_57
      · have hf := hrr4 t3 ht
        cases Option.some.inj hf
        exact hret
    · refine g_aload_n o 0 rfl rfl dX2_firstViolated_14 ?_
      refine g_iconst o ic_1 dX2_firstViolated_15 ?_
      obtain ⟨r6, hr6, hf⟩ := bd_some hf
      refine k_X2_fails_ o hr6 m_995 (Nat.le_of_ble_eq_true rfl) (Nat.le_of_ble_eq_true rfl) ⟨(Nat.le_of_ble_eq_true rfl), (Nat.le_of_ble_eq_true rfl)⟩ dX2_firstViolated_16 ?_
      cases Option.some.inj hf
      exact g_iret hret (Nat.le_of_ble_eq_true rfl) (Nat.le_of_ble_eq_true rfl) (vp_nar_int _) dX2_firstViolated_19
theorem c_X2_firstViolated (l : Launch) (hst : l.stackTraces = false) (a : Nat → Nat) (u : St) (p0 : Int32) (t : Int32 × St) (hf : f_X2_firstViolated u p0 = some t) : CoI l yX2_firstViolated (.code yX2_firstViolated cX2_firstViolated 3 (some .int)) 1 0 0 [.ref (a 0), .int p0] (wM a u) (wM a t.2) (.inl t.1) := mkI hst (by decide +kernel) (Nat.le_of_ble_eq_true rfl) (fun x _ o hI hX => b_X2_firstViolated o a u p0 t hf (hI _ rfl))
def rt_X2_isIdle (x : Cx) (a : Nat → Nat) (u : St) (t : Int32) : Prop := RetI x cX2_isIdle .boolean 0 0 (wM a u (cxT x)) t
set_option maxRecDepth 20000 in
set_option maxHeartbeats 2000000 in
theorem b_X2_isIdle_L2 {x : Cx} (o : Ok x cX2_isIdle 3 RX2 2 0 0) {k n : Nat} (hk : k ≤ 0) (hn : n ≤ 0) (a : Nat → Nat) (u : St) (c1 : Int32) (r : (Int32) ⊕ (Int32)) (hX : ∀ s : Int32, r = .inl s → G x 3 k n (wM a u (cxT x)) [] 38 []) (hR : ∀ t, r = .inr t → rt_X2_isIdle x a u t) : ∀ (m : Nat) (s : Int32), loopN (f_X2_isIdle_s2 u c1) m s = some r → G x 3 k n (wM a u (cxT x)) [(0, .ref (a 0)), (1, .int c1), (2, .int s)] 2 [] := by
  refine loop_W _ (fun (s : Int32) => G x 3 k n (wM a u (cxT x)) [(0, .ref (a 0)), (1, .int c1), (2, .int s)] 2 []) r ?_
  intro s ww hf hw
  unfold f_X2_isIdle_s2 at hf
  refine g_iload_n o 2 rfl rfl dX2_isIdle_2 ?_
  refine g_iconst o ic_1 dX2_isIdle_3 ?_
  refine g_aload_n o 0 rfl rfl dX2_isIdle_4 ?_
  refine M_get6 o m_925 dX2_isIdle_5 ?_
  refine g_ishl o dX2_isIdle_8 ?_
  refine g_ic_ge (tgt := 38) o rfl dX2_isIdle_9 hf (fun hc hf => ?_) (fun hc hf => ?_)
  · exact g_perm [] rfl (hX _ (lf_x hf hw))
  · refine g_aload_n o 0 rfl rfl dX2_isIdle_12 ?_
    refine g_iload_n o 1 rfl rfl dX2_isIdle_13 ?_
    refine g_iload_n o 2 rfl rfl dX2_isIdle_14 ?_
    obtain ⟨r1, hr1, hf⟩ := bd_some hf
    refine k_X2_isSatisfied_ o hr1 m_1203 (Nat.le_of_ble_eq_true rfl) (Nat.le_of_ble_eq_true rfl) ⟨hk, hn⟩ dX2_isIdle_15 ?_
    refine g_if_ne (tgt := 32) o rfl dX2_isIdle_18 hf (fun hc hf => ?_) (fun hc hf => ?_)
    · refine g_iinc o [(2, .int (s + 1)), (0, .ref (a 0)), (1, .int c1)] 2 rfl (inc_1 _) (Nat.le_of_ble_eq_true rfl) rfl dX2_isIdle_32 ?_
      refine g_goto (tgt := 2) o rfl dX2_isIdle_35 ?_
      have hp := lf_c hf hw
      exact g_perm [1, 2, 0] rfl hp
    · refine g_aload_n o 0 rfl rfl dX2_isIdle_21 ?_
      refine g_iload_n o 2 rfl rfl dX2_isIdle_22 ?_
      refine g_iload_n o 1 rfl rfl dX2_isIdle_23 ?_
      obtain ⟨r2, hr2, hf⟩ := bd_some hf
      refine k_X2_solves_ o hr2 m_1199 (Nat.le_of_ble_eq_true rfl) (Nat.le_of_ble_eq_true rfl) ⟨hk, hn⟩ dX2_isIdle_24 ?_
      refine g_if_eq (tgt := 32) o rfl dX2_isIdle_27 hf (fun hc hf => ?_) (fun hc hf => ?_)
      · refine g_iinc o [(2, .int (s + 1)), (0, .ref (a 0)), (1, .int c1)] 2 rfl (inc_1 _) (Nat.le_of_ble_eq_true rfl) rfl dX2_isIdle_32 ?_
        refine g_goto (tgt := 2) o rfl dX2_isIdle_35 ?_
        have hp := lf_c hf hw
        exact g_perm [1, 2, 0] rfl hp
      · refine g_iconst o ic_0 dX2_isIdle_30 ?_
        exact g_iret (hR _ (lf_x hf hw)) hk hn nb_0 dX2_isIdle_31
set_option maxRecDepth 20000 in
set_option maxHeartbeats 2000000 in
theorem b_X2_isIdle {x : Cx} (o : Ok x cX2_isIdle 3 RX2 2 0 0) (a : Nat → Nat) (u : St) (p0 : Int32) (t : Int32) (hf : f_X2_isIdle u p0 = some t) (hret : rt_X2_isIdle x a u t) : G x 3 0 0 (wM a u (cxT x)) [(0, .ref (a 0)), (1, .int p0)] 0 [] := by
  unfold f_X2_isIdle at hf
  refine g_iconst o ic_0 dX2_isIdle_0 ?_
  refine g_istore_n o [(2, .int 0), (0, .ref (a 0)), (1, .int p0)] (Nat.le_of_ble_eq_true rfl) rfl rfl dX2_isIdle_1 ?_
  obtain ⟨r4, hr4, hxr4, hrr4⟩ := bl_some hf
  refine g_perm [1, 2, 0] rfl (b_X2_isIdle_L2 o (Nat.le_of_ble_eq_true rfl) (Nat.le_of_ble_eq_true rfl) a u p0 r4 (fun s2 hs => ?_) (fun t3 ht => ?_) FU 0 hr4)
  · have hf := hxr4 s2 hs
    refine g_iconst o ic_1 dX2_isIdle_38 ?_
    cases Option.some.inj hf
    exact g_iret hret (Nat.le_of_ble_eq_true rfl) (Nat.le_of_ble_eq_true rfl) nb_1 dX2_isIdle_39
  · have hf := hrr4 t3 ht
    cases Option.some.inj hf
    exact hret
theorem c_X2_isIdle (l : Launch) (hst : l.stackTraces = false) (a : Nat → Nat) (u : St) (p0 : Int32) (t : Int32) (hf : f_X2_isIdle u p0 = some t) : CoI l yX2_isIdle (.code yX2_isIdle cX2_isIdle 3 (some .boolean)) 2 0 0 [.ref (a 0), .int p0] (wM a u) (wM a u) (.inl t) := mkI hst (by decide +kernel) (Nat.le_of_ble_eq_true rfl) (fun x _ o hI hX => b_X2_isIdle o a u p0 t hf (hI _ rfl))
theorem k_X2_isIdle_ {x : Cx} {cc : ByteArray} {nL : Nat} {own : String} {d mc ms k n : Nat} {lv : List (Nat × Value)} {pc i : Nat} {rest : List Value} {a : Nat → Nat} {u : St} {p0 : Int32} (o : Ok x cc nL own d mc ms) {t : Int32} (ht : f_X2_isIdle u p0 = some t) (hlk : Cond.methodLink own i yX2_isIdle ∈ Ug) (hd : 2 < d) (hr : (rest.map fun v => v.category).sum ≤ 8) (hk : k + 0 ≤ mc ∧ n + 0 ≤ ms) (dg : decode cc pc = .ok (.invokevirtual i, 3)) (kk : G x nL (k + 0) (n + 0) (wM a u (cxT x)) lv (pc + 3) (.int t :: rest)) : G x nL k n (wM a u (cxT x)) lv pc (.int p0 :: .ref (a 0) :: rest) := gcI (wd2 := (wM a u (cxT x))) o (c_X2_isIdle (cxl x) o.2.2.2.2.2.2.2.2.2.1 a u p0 t ht) (can_V (q0 := 0) o rfl rfl hd (Nat.le_of_ble_eq_true rfl) m_1250 m_56 m_1249 m_47 hlk yk_X2_isIdle rfl hr hk dg) sp_M (fun E h => by cases h) (fun r h => by cases h; exact kk)
def rt_X2_isRedundant (x : Cx) (a : Nat → Nat) (t : Int32 × St) : Prop := RetI x cX2_isRedundant .boolean 0 0 (wM a t.2 (cxT x)) t.1
set_option maxRecDepth 20000 in
set_option maxHeartbeats 2000000 in
theorem b_X2_isRedundant {x : Cx} (o : Ok x cX2_isRedundant 2 RX2 3 0 0) (a : Nat → Nat) (u : St) (p0 : Int32) (t : Int32 × St) (hf : f_X2_isRedundant u p0 = some t) (hret : rt_X2_isRedundant x a t) : G x 2 0 0 (wM a u (cxT x)) [(0, .ref (a 0)), (1, .int p0)] 0 [] := by
  unfold f_X2_isRedundant at hf
  refine g_iload_n o 1 rfl rfl dX2_isRedundant_0 ?_
  refine g_iconst o ic_0 dX2_isRedundant_1 ?_
  refine g_aload_n o 0 rfl rfl dX2_isRedundant_2 ?_
  refine M_get7 o m_926 dX2_isRedundant_3 ?_
  refine g_iconst o ic_1 dX2_isRedundant_6 ?_
  refine g_isub o dX2_isRedundant_7 ?_
  obtain ⟨r1, hr1, hf⟩ := bd_some hf
  refine k_X2_isBetween_ o hr1 m_992 (Nat.le_of_ble_eq_true rfl) (Nat.le_of_ble_eq_true rfl) ⟨(Nat.le_of_ble_eq_true rfl), (Nat.le_of_ble_eq_true rfl)⟩ dX2_isRedundant_8 ?_
  refine g_if_ne (tgt := 20) o rfl dX2_isRedundant_11 hf (fun hc hf => ?_) (fun hc hf => ?_)
  · refine g_aload_n o 0 rfl rfl dX2_isRedundant_20 ?_
    refine g_iconst o ic_0 dX2_isRedundant_21 ?_
    refine M_put0 o m_919 dX2_isRedundant_22 ?_
    refine g_aload_n o 0 rfl rfl dX2_isRedundant_25 ?_
    refine g_iload_n o 1 rfl rfl dX2_isRedundant_26 ?_
    obtain ⟨r2, hr2, hf⟩ := bd_some hf
    refine k_X2_isIdle_ o hr2 m_1247 (Nat.le_of_ble_eq_true rfl) (Nat.le_of_ble_eq_true rfl) ⟨(Nat.le_of_ble_eq_true rfl), (Nat.le_of_ble_eq_true rfl)⟩ dX2_isRedundant_27 ?_
    obtain ⟨hb, hf⟩ := gd_some hf
    cases Option.some.inj hf
    exact g_iret hret (Nat.le_of_ble_eq_true rfl) (Nat.le_of_ble_eq_true rfl) (okB_n hb) dX2_isRedundant_30
  · refine g_aload_n o 0 rfl rfl dX2_isRedundant_14 ?_
    refine g_iconst o ic_1 dX2_isRedundant_15 ?_
    obtain ⟨r3, hr3, hf⟩ := bd_some hf
    refine k_X2_refuses_ o hr3 m_1093 (Nat.le_of_ble_eq_true rfl) (Nat.le_of_ble_eq_true rfl) ⟨(Nat.le_of_ble_eq_true rfl), (Nat.le_of_ble_eq_true rfl)⟩ dX2_isRedundant_16 ?_
    obtain ⟨hb, hf⟩ := gd_some hf
    cases Option.some.inj hf
    exact g_iret hret (Nat.le_of_ble_eq_true rfl) (Nat.le_of_ble_eq_true rfl) (okB_n hb) dX2_isRedundant_19
theorem c_X2_isRedundant (l : Launch) (hst : l.stackTraces = false) (a : Nat → Nat) (u : St) (p0 : Int32) (t : Int32 × St) (hf : f_X2_isRedundant u p0 = some t) : CoI l yX2_isRedundant (.code yX2_isRedundant cX2_isRedundant 2 (some .boolean)) 3 0 0 [.ref (a 0), .int p0] (wM a u) (wM a t.2) (.inl t.1) := mkI hst (by decide +kernel) (Nat.le_of_ble_eq_true rfl) (fun x _ o hI hX => b_X2_isRedundant o a u p0 t hf (hI _ rfl))
def rt_X2_removeRedundant (x : Cx) (a : Nat → Nat) (t : Int32 × St) : Prop := RetI x cX2_removeRedundant .int 0 0 (wM a t.2 (cxT x)) t.1
set_option maxRecDepth 20000 in
set_option maxHeartbeats 2000000 in
theorem b_X2_removeRedundant_L69 {x : Cx} (o : Ok x cX2_removeRedundant 5 RX2 3 0 0) {k n : Nat} (hk : k ≤ 0) (hn : n ≤ 0) (a : Nat → Nat) (c1 : Int32) (c2 : Int32) (c3 : Int32) (r : (Int32 × St) ⊕ (Int32 × St)) (hX : ∀ s : Int32 × St, r = .inl s → G x 5 k n (wM a s.2 (cxT x)) [(0, .ref (a 0)), (1, .int c1), (2, .int c2), (3, .int c3)] 105 []) (hR : ∀ t, r = .inr t → rt_X2_removeRedundant x a t) : ∀ (m : Nat) (s : Int32 × St), loopN (f_X2_removeRedundant_s69 c1 c2 c3) m s = some r → G x 5 k n (wM a s.2 (cxT x)) [(0, .ref (a 0)), (1, .int c1), (2, .int c2), (3, .int c3), (4, .int s.1)] 69 [] := by
  refine loop_W _ (fun (s : Int32 × St) => G x 5 k n (wM a s.2 (cxT x)) [(0, .ref (a 0)), (1, .int c1), (2, .int c2), (3, .int c3), (4, .int s.1)] 69 []) r ?_
  intro s ww hf hw
  unfold f_X2_removeRedundant_s69 at hf
  refine g_iload o 4 rfl dX2_removeRedundant_69 ?_
  refine g_iconst o ic_4 dX2_removeRedundant_71 ?_
  refine g_ic_ge (tgt := 105) o rfl dX2_removeRedundant_72 hf (fun hc hf => ?_) (fun hc hf => ?_)
  · exact g_perm [0, 1, 2, 3] rfl (hX _ (lf_x hf hw))
  · refine g_aload_n o 0 rfl rfl dX2_removeRedundant_75 ?_
    refine M_get5 o m_924 dX2_removeRedundant_76 ?_
    refine g_iconst o ic_4 dX2_removeRedundant_79 ?_
    refine g_iload_n o 3 rfl rfl dX2_removeRedundant_80 ?_
    refine g_imul o dX2_removeRedundant_81 ?_
    refine g_iload o 4 rfl dX2_removeRedundant_82 ?_
    refine g_iadd o dX2_removeRedundant_84 ?_
    refine g_aload_n o 0 rfl rfl dX2_removeRedundant_85 ?_
    refine M_get5 o m_924 dX2_removeRedundant_86 ?_
    refine g_iconst o ic_4 dX2_removeRedundant_89 ?_
    refine g_iload_n o 3 rfl rfl dX2_removeRedundant_90 ?_
    refine g_imul o dX2_removeRedundant_91 ?_
    refine g_iconst o ic_4 dX2_removeRedundant_92 ?_
    refine g_iadd o dX2_removeRedundant_93 ?_
    refine g_iload o 4 rfl dX2_removeRedundant_94 ?_
    refine g_iadd o dX2_removeRedundant_96 ?_
    refine M_ld5 o dX2_removeRedundant_97 hf (fun hf => ?_)
    refine M_st5 o dX2_removeRedundant_98 hf (fun hf => ?_)
    refine g_iinc o [(4, .int (s.1 + 1)), (0, .ref (a 0)), (1, .int c1), (2, .int c2), (3, .int c3)] 4 rfl (inc_1 _) (Nat.le_of_ble_eq_true rfl) rfl dX2_removeRedundant_99 ?_
    refine g_goto (tgt := 69) o rfl dX2_removeRedundant_102 ?_
    have hp := lf_c hf hw
    exact g_perm [1, 2, 3, 4, 0] rfl hp
set_option maxRecDepth 20000 in
set_option maxHeartbeats 2000000 in
theorem b_X2_removeRedundant_L44 {x : Cx} (o : Ok x cX2_removeRedundant 5 RX2 3 0 0) {k n : Nat} (hk : k ≤ 0) (hn : n ≤ 0) (a : Nat → Nat) (c1 : Int32) (c2 : Int32) (r : (Int32 × St) ⊕ (Int32 × St)) (hX : ∀ s : Int32 × St, r = .inl s → G x 5 k n (wM a s.2 (cxT x)) [(0, .ref (a 0)), (1, .int c1), (2, .int c2)] 111 []) (hR : ∀ t, r = .inr t → rt_X2_removeRedundant x a t) : ∀ (m : Nat) (s : Int32 × St), loopN (f_X2_removeRedundant_s44 c1 c2) m s = some r → G x 5 k n (wM a s.2 (cxT x)) [(0, .ref (a 0)), (1, .int c1), (2, .int c2), (3, .int s.1)] 44 [] := by
  refine loop_W _ (fun (s : Int32 × St) => G x 5 k n (wM a s.2 (cxT x)) [(0, .ref (a 0)), (1, .int c1), (2, .int c2), (3, .int s.1)] 44 []) r ?_
  intro s ww hf hw
  unfold f_X2_removeRedundant_s44 at hf
  refine g_iload_n o 3 rfl rfl dX2_removeRedundant_44 ?_
  refine g_aload_n o 0 rfl rfl dX2_removeRedundant_45 ?_
  refine M_get7 o m_926 dX2_removeRedundant_46 ?_
  refine g_ic_ge (tgt := 111) o rfl dX2_removeRedundant_49 hf (fun hc hf => ?_) (fun hc hf => ?_)
  · exact g_perm [0, 1, 2] rfl (hX _ (lf_x hf hw))
  · refine g_aload_n o 0 rfl rfl dX2_removeRedundant_52 ?_
    refine M_get4 o m_923 dX2_removeRedundant_53 ?_
    refine g_iload_n o 3 rfl rfl dX2_removeRedundant_56 ?_
    refine g_aload_n o 0 rfl rfl dX2_removeRedundant_57 ?_
    refine M_get4 o m_923 dX2_removeRedundant_58 ?_
    refine g_iload_n o 3 rfl rfl dX2_removeRedundant_61 ?_
    refine g_iconst o ic_1 dX2_removeRedundant_62 ?_
    refine g_iadd o dX2_removeRedundant_63 ?_
    refine M_ld4 o dX2_removeRedundant_64 hf (fun hf => ?_)
    refine M_st4 o dX2_removeRedundant_65 hf (fun hf => ?_)
    refine g_iconst o ic_0 dX2_removeRedundant_66 ?_
    refine g_istore o [(4, .int 0), (0, .ref (a 0)), (1, .int c1), (2, .int c2), (3, .int s.1)] (Nat.le_of_ble_eq_true rfl) rfl dX2_removeRedundant_67 ?_
    obtain ⟨r5, hr5, hxr5, hrr5⟩ := bl_some hf
    refine g_perm [1, 2, 3, 4, 0] rfl (b_X2_removeRedundant_L69 o hk hn a c1 c2 s.1 r5 (fun s69_3 hs => ?_) (fun t4 ht => ?_) FU (0, (ua s.2 4 (upd (s.2 4) s.1.toNatClampNeg (s.2 4 (s.1 + 1).toNatClampNeg)))) hr5)
    · have hf := hxr5 s69_3 hs
      refine g_iinc o [(3, .int (s.1 + 1)), (0, .ref (a 0)), (1, .int c1), (2, .int c2)] 3 rfl (inc_1 _) (Nat.le_of_ble_eq_true rfl) rfl dX2_removeRedundant_105 ?_
      refine g_goto (tgt := 44) o rfl dX2_removeRedundant_108 ?_
      have hp := lf_c hf hw
      exact g_perm [1, 2, 3, 0] rfl hp
    · have hf := hrr5 t4 ht
      exact hR t4 (lf_x hf hw)
set_option maxRecDepth 20000 in
set_option maxHeartbeats 2000000 in
theorem b_X2_removeRedundant_L14 {x : Cx} (o : Ok x cX2_removeRedundant 5 RX2 3 0 0) {k n : Nat} (hk : k ≤ 0) (hn : n ≤ 0) (a : Nat → Nat) (r : (Int32 × Int32 × St) ⊕ (Int32 × St)) (hX : ∀ s : Int32 × Int32 × St, r = .inl s → G x 5 k n (wM a s.2.2 (cxT x)) [(1, .int s.1)] 117 []) (hR : ∀ t, r = .inr t → rt_X2_removeRedundant x a t) : ∀ (m : Nat) (s : Int32 × Int32 × St), loopN f_X2_removeRedundant_s14 m s = some r → G x 5 k n (wM a s.2.2 (cxT x)) [(0, .ref (a 0)), (1, .int s.1), (2, .int s.2.1)] 14 [] := by
  refine loop_W _ (fun (s : Int32 × Int32 × St) => G x 5 k n (wM a s.2.2 (cxT x)) [(0, .ref (a 0)), (1, .int s.1), (2, .int s.2.1)] 14 []) r ?_
  intro s ww hf hw
  unfold f_X2_removeRedundant_s14 at hf
  refine g_iload_n o 2 rfl rfl dX2_removeRedundant_14 ?_
  refine g_if_lt (tgt := 117) o rfl dX2_removeRedundant_15 hf (fun hc hf => ?_) (fun hc hf => ?_)
  · exact g_perm [1] rfl (hX _ (lf_x hf hw))
  · refine g_aload_n o 0 rfl rfl dX2_removeRedundant_18 ?_
    refine g_iload_n o 2 rfl rfl dX2_removeRedundant_19 ?_
    obtain ⟨r2, hr2, hf⟩ := bd_some hf
    refine k_X2_isIdle_ o hr2 m_1247 (Nat.le_of_ble_eq_true rfl) (Nat.le_of_ble_eq_true rfl) ⟨hk, hn⟩ dX2_removeRedundant_20 ?_
    refine g_if_ne (tgt := 29) o rfl dX2_removeRedundant_23 hf (fun hc hf => ?_) (fun hc hf => ?_)
    · refine g_aload_n o 0 rfl rfl dX2_removeRedundant_29 ?_
      refine g_dup o rfl dX2_removeRedundant_30 ?_
      refine M_get7 o m_926 dX2_removeRedundant_31 ?_
      refine g_iconst o ic_1 dX2_removeRedundant_34 ?_
      refine g_isub o dX2_removeRedundant_35 ?_
      refine M_put7 o m_926 dX2_removeRedundant_36 ?_
      refine g_iinc o [(1, .int (s.1 + 1)), (0, .ref (a 0)), (2, .int s.2.1)] 1 rfl (inc_1 _) (Nat.le_of_ble_eq_true rfl) rfl dX2_removeRedundant_39 ?_
      refine g_iload_n o 2 rfl rfl dX2_removeRedundant_42 ?_
      refine g_istore_n o [(3, .int s.2.1), (1, .int (s.1 + 1)), (0, .ref (a 0)), (2, .int s.2.1)] (Nat.le_of_ble_eq_true rfl) rfl rfl dX2_removeRedundant_43 ?_
      obtain ⟨r8, hr8, hxr8, hrr8⟩ := bl_some hf
      refine g_perm [2, 1, 3, 0] rfl (b_X2_removeRedundant_L44 o hk hn a (s.1 + 1) s.2.1 r8 (fun s44_6 hs => ?_) (fun t7 ht => ?_) FU (s.2.1, (us s.2.2 7 ((s.2.2 0 7) - 1))) hr8)
      · have hf := hxr8 s44_6 hs
        refine g_iinc o [(2, .int (s.2.1 + (-1))), (0, .ref (a 0)), (1, .int (s.1 + 1))] 2 rfl (inc_m1 _) (Nat.le_of_ble_eq_true rfl) rfl dX2_removeRedundant_111 ?_
        refine g_goto (tgt := 14) o rfl dX2_removeRedundant_114 ?_
        have hp := lf_c hf hw
        exact g_perm [1, 2, 0] rfl hp
      · have hf := hrr8 t7 ht
        exact hR t7 (lf_x hf hw)
    · refine g_goto (tgt := 111) o rfl dX2_removeRedundant_26 ?_
      refine g_iinc o [(2, .int (s.2.1 + (-1))), (0, .ref (a 0)), (1, .int s.1)] 2 rfl (inc_m1 _) (Nat.le_of_ble_eq_true rfl) rfl dX2_removeRedundant_111 ?_
      refine g_goto (tgt := 14) o rfl dX2_removeRedundant_114 ?_
      have hp := lf_c hf hw
      exact g_perm [1, 2, 0] rfl hp
set_option maxRecDepth 20000 in
set_option maxHeartbeats 2000000 in
theorem b_X2_removeRedundant {x : Cx} (o : Ok x cX2_removeRedundant 5 RX2 3 0 0) (a : Nat → Nat) (u : St) (t : Int32 × St) (hf : f_X2_removeRedundant u = some t) (hret : rt_X2_removeRedundant x a t) : G x 5 0 0 (wM a u (cxT x)) [(0, .ref (a 0))] 0 [] := by
  unfold f_X2_removeRedundant at hf
  refine g_aload_n o 0 rfl rfl dX2_removeRedundant_0 ?_
  refine g_iconst o ic_0 dX2_removeRedundant_1 ?_
  refine M_put0 o m_919 dX2_removeRedundant_2 ?_
  refine g_iconst o ic_0 dX2_removeRedundant_5 ?_
  refine g_istore_n o [(1, .int 0), (0, .ref (a 0))] (Nat.le_of_ble_eq_true rfl) rfl rfl dX2_removeRedundant_6 ?_
  refine g_aload_n o 1 rfl rfl dX2_removeRedundant_7 ?_
  refine M_get7 o m_926 dX2_removeRedundant_8 ?_
  refine g_iconst o ic_1 dX2_removeRedundant_11 ?_
  refine g_isub o dX2_removeRedundant_12 ?_
  refine g_nmi hf (fun x1 hf => ?_)
  refine g_istore_n o [(2, .int x1), (1, .int 0), (0, .ref (a 0))] (Nat.le_of_ble_eq_true rfl) rfl rfl dX2_removeRedundant_13 ?_
  obtain ⟨r10, hr10, hxr10, hrr10⟩ := bl_some hf
  refine g_perm [2, 1, 0] rfl (b_X2_removeRedundant_L14 o (Nat.le_of_ble_eq_true rfl) (Nat.le_of_ble_eq_true rfl) a  r10 (fun s14 hs => ?_) (fun t9 ht => ?_) FU (0, x1, (us u 0 0)) hr10)
  · have hf := hxr10 s14 hs
    refine g_iload_n o 0 rfl rfl dX2_removeRedundant_117 ?_
    cases Option.some.inj hf
    exact g_iret hret (Nat.le_of_ble_eq_true rfl) (Nat.le_of_ble_eq_true rfl) (vp_nar_int _) dX2_removeRedundant_118
  · have hf := hrr10 t9 ht
    cases Option.some.inj hf
    exact hret
theorem c_X2_removeRedundant (l : Launch) (hst : l.stackTraces = false) (a : Nat → Nat) (u : St) (t : Int32 × St) (hf : f_X2_removeRedundant u = some t) : CoI l yX2_removeRedundant (.code yX2_removeRedundant cX2_removeRedundant 5 (some .int)) 3 0 0 [.ref (a 0)] (wM a u) (wM a t.2) (.inl t.1) := mkI hst (by decide +kernel) (Nat.le_of_ble_eq_true rfl) (fun x _ o hI hX => b_X2_removeRedundant o a u t hf (hI _ rfl))
def rt_X2_append (x : Cx) (a : Nat → Nat) (t : Int32 × St) : Prop := RetI x cX2_append .int 0 0 (wM a t.2 (cxT x)) t.1
set_option maxRecDepth 20000 in
set_option maxHeartbeats 2000000 in
theorem b_X2_append {x : Cx} (o : Ok x cX2_append 2 RX2 1 0 0) (a : Nat → Nat) (u : St) (p0 : Int32) (t : Int32 × St) (hf : f_X2_append u p0 = some t) (hret : rt_X2_append x a t) : G x 2 0 0 (wM a u (cxT x)) [(0, .ref (a 0)), (1, .int p0)] 0 [] := by
  unfold f_X2_append at hf
  refine g_iload_n o 1 rfl rfl dX2_append_0 ?_
  refine g_bipush o bp_32 dX2_append_1 ?_
  refine g_bipush o bp_126 dX2_append_3 ?_
  obtain ⟨r1, hr1, hf⟩ := bd_some hf
  refine k_X2_isBetween_ o hr1 m_992 (Nat.le_of_ble_eq_true rfl) (Nat.le_of_ble_eq_true rfl) ⟨(Nat.le_of_ble_eq_true rfl), (Nat.le_of_ble_eq_true rfl)⟩ dX2_append_5 ?_
  refine g_if_ne (tgt := 17) o rfl dX2_append_8 hf (fun hc hf => ?_) (fun hc hf => ?_)
  · refine g_aload_n o 0 rfl rfl dX2_append_17 ?_
    refine M_get10 o m_929 dX2_append_18 ?_
    refine g_bipush o bp_60 dX2_append_21 ?_
    refine g_ic_ne (tgt := 32) o rfl dX2_append_23 hf (fun hc hf => ?_) (fun hc hf => ?_)
    · refine g_aload_n o 0 rfl rfl dX2_append_32 ?_
      refine g_iconst o ic_0 dX2_append_33 ?_
      refine M_put0 o m_919 dX2_append_34 ?_
      refine g_aload_n o 0 rfl rfl dX2_append_37 ?_
      refine M_get8 o m_927 dX2_append_38 ?_
      refine g_aload_n o 0 rfl rfl dX2_append_41 ?_
      refine M_get10 o m_929 dX2_append_42 ?_
      refine g_iload_n o 1 rfl rfl dX2_append_45 ?_
      refine M_st8 o dX2_append_46 hf (fun hf => ?_)
      refine g_aload_n o 0 rfl rfl dX2_append_47 ?_
      refine g_dup o rfl dX2_append_48 ?_
      refine M_get10 o m_929 dX2_append_49 ?_
      refine g_iconst o ic_1 dX2_append_52 ?_
      refine g_iadd o dX2_append_53 ?_
      refine M_put10 o m_929 dX2_append_54 ?_
      refine g_aload_n o 0 rfl rfl dX2_append_57 ?_
      refine M_get10 o m_929 dX2_append_58 ?_
      cases Option.some.inj hf
      exact g_iret hret (Nat.le_of_ble_eq_true rfl) (Nat.le_of_ble_eq_true rfl) (vp_nar_int _) dX2_append_61
    · refine g_aload_n o 0 rfl rfl dX2_append_26 ?_
      refine g_iconst o ic_2 dX2_append_27 ?_
      obtain ⟨r2, hr2, hf⟩ := bd_some hf
      refine k_X2_fails_ o hr2 m_995 (Nat.le_of_ble_eq_true rfl) (Nat.le_of_ble_eq_true rfl) ⟨(Nat.le_of_ble_eq_true rfl), (Nat.le_of_ble_eq_true rfl)⟩ dX2_append_28 ?_
      cases Option.some.inj hf
      exact g_iret hret (Nat.le_of_ble_eq_true rfl) (Nat.le_of_ble_eq_true rfl) (vp_nar_int _) dX2_append_31
  · refine g_aload_n o 0 rfl rfl dX2_append_11 ?_
    refine g_iconst o ic_1 dX2_append_12 ?_
    obtain ⟨r3, hr3, hf⟩ := bd_some hf
    refine k_X2_fails_ o hr3 m_995 (Nat.le_of_ble_eq_true rfl) (Nat.le_of_ble_eq_true rfl) ⟨(Nat.le_of_ble_eq_true rfl), (Nat.le_of_ble_eq_true rfl)⟩ dX2_append_13 ?_
    cases Option.some.inj hf
    exact g_iret hret (Nat.le_of_ble_eq_true rfl) (Nat.le_of_ble_eq_true rfl) (vp_nar_int _) dX2_append_16
theorem c_X2_append (l : Launch) (hst : l.stackTraces = false) (a : Nat → Nat) (u : St) (p0 : Int32) (t : Int32 × St) (hf : f_X2_append u p0 = some t) : CoI l yX2_append (.code yX2_append cX2_append 2 (some .int)) 1 0 0 [.ref (a 0), .int p0] (wM a u) (wM a t.2) (.inl t.1) := mkI hst (by decide +kernel) (Nat.le_of_ble_eq_true rfl) (fun x _ o hI hX => b_X2_append o a u p0 t hf (hI _ rfl))
def rt_X2_reads (x : Cx) (a : Nat → Nat) (t : Int32 × St) : Prop := RetI x cX2_reads .int 0 0 (wM a t.2 (cxT x)) t.1
set_option maxRecDepth 20000 in
set_option maxHeartbeats 2000000 in
theorem b_X2_reads_L16 {x : Cx} (o : Ok x cX2_reads 5 RX2 0 0 0) {k n : Nat} (hk : k ≤ 0) (hn : n ≤ 0) (a : Nat → Nat) (r : (Int32 × Int32 × Int32 × St) ⊕ (Int32 × St)) (hX : ∀ s : Int32 × Int32 × Int32 × St, r = .inl s → G x 5 k n (wM a s.2.2.2 (cxT x)) [(0, .ref (a 0)), (1, .int s.1), (2, .int s.2.1)] 138 []) (hR : ∀ t, r = .inr t → rt_X2_reads x a t) : ∀ (m : Nat) (s : Int32 × Int32 × Int32 × St), loopN f_X2_reads_s16 m s = some r → G x 5 k n (wM a s.2.2.2 (cxT x)) [(0, .ref (a 0)), (1, .int s.1), (2, .int s.2.1), (3, .int s.2.2.1)] 16 [] := by
  refine loop_W _ (fun (s : Int32 × Int32 × Int32 × St) => G x 5 k n (wM a s.2.2.2 (cxT x)) [(0, .ref (a 0)), (1, .int s.1), (2, .int s.2.1), (3, .int s.2.2.1)] 16 []) r ?_
  intro s ww hf hw
  unfold f_X2_reads_s16 at hf
  refine g_iload_n o 3 rfl rfl dX2_reads_16 ?_
  refine g_aload_n o 0 rfl rfl dX2_reads_17 ?_
  refine M_get10 o m_929 dX2_reads_18 ?_
  refine g_ic_ge (tgt := 138) o rfl dX2_reads_21 hf (fun hc hf => ?_) (fun hc hf => ?_)
  · exact g_perm [0, 1, 2] rfl (hX _ (lf_x hf hw))
  · refine g_aload_n o 0 rfl rfl dX2_reads_24 ?_
    refine M_get8 o m_927 dX2_reads_25 ?_
    refine g_iload_n o 3 rfl rfl dX2_reads_28 ?_
    refine M_ld8 o dX2_reads_29 hf (fun hf => ?_)
    refine g_nmi hf (fun x1 hf => ?_)
    refine g_istore o [(4, .int x1), (0, .ref (a 0)), (1, .int s.1), (2, .int s.2.1), (3, .int s.2.2.1)] (Nat.le_of_ble_eq_true rfl) rfl dX2_reads_30 ?_
    refine g_iload o 0 rfl dX2_reads_32 ?_
    refine g_bipush o bp_48 dX2_reads_34 ?_
    refine g_ic_eq (tgt := 46) o rfl dX2_reads_36 hf (fun hc hf => ?_) (fun hc hf => ?_)
    · refine g_iload_n o 2 rfl rfl dX2_reads_46 ?_
      refine g_aload_n o 1 rfl rfl dX2_reads_47 ?_
      refine M_get13 o m_932 dX2_reads_48 ?_
      refine g_if_le (tgt := 61) o rfl dX2_reads_51 hf (fun hc hf => ?_) (fun hc hf => ?_)
      · refine g_iconst o ic_4 dX2_reads_61 ?_
        refine g_ic_ne (tgt := 67) o rfl dX2_reads_62 hf (fun hc hf => ?_) (fun hc hf => ?_)
        · refine g_iload_n o 3 rfl rfl dX2_reads_67 ?_
          refine g_iload o 0 rfl dX2_reads_68 ?_
          refine g_bipush o bp_48 dX2_reads_70 ?_
          refine g_isub o dX2_reads_72 ?_
          refine g_iload_n o 2 rfl rfl dX2_reads_73 ?_
          refine g_ishl o dX2_reads_74 ?_
          refine g_ior o dX2_reads_75 ?_
          refine g_nmi hf (fun x2 hf => ?_)
          refine g_istore_n o [(2, .int x2), (4, .int x1), (0, .ref (a 0)), (1, .int s.1), (3, .int s.2.2.1)] (Nat.le_of_ble_eq_true rfl) rfl rfl dX2_reads_76 ?_
          refine g_iinc o [(1, .int (s.1 + 1)), (2, .int x2), (4, .int x1), (0, .ref (a 0)), (3, .int s.2.2.1)] 3 rfl (inc_1 _) (Nat.le_of_ble_eq_true rfl) rfl dX2_reads_77 ?_
          refine g_goto (tgt := 132) o rfl dX2_reads_80 ?_
          refine g_iinc o [(3, .int (s.2.2.1 + 1)), (1, .int (s.1 + 1)), (2, .int x2), (4, .int x1), (0, .ref (a 0))] 4 rfl (inc_1 _) (Nat.le_of_ble_eq_true rfl) rfl dX2_reads_132 ?_
          refine g_goto (tgt := 16) o rfl dX2_reads_135 ?_
          have hp := lf_c hf hw
          exact g_perm [4, 1, 2, 0] rfl hp
        · refine g_iload_n o 4 rfl rfl dX2_reads_65 ?_
          exact g_iret (hR _ (lf_x hf hw)) hk hn (vp_nar_int _) dX2_reads_66
      · refine g_aload_n o 1 rfl rfl dX2_reads_54 ?_
        refine M_get13 o m_932 dX2_reads_55 ?_
        refine g_goto (tgt := 62) o rfl dX2_reads_58 ?_
        refine g_ic_ne (tgt := 67) o rfl dX2_reads_62 hf (fun hc hf => ?_) (fun hc hf => ?_)
        · refine g_iload_n o 3 rfl rfl dX2_reads_67 ?_
          refine g_iload o 0 rfl dX2_reads_68 ?_
          refine g_bipush o bp_48 dX2_reads_70 ?_
          refine g_isub o dX2_reads_72 ?_
          refine g_iload_n o 2 rfl rfl dX2_reads_73 ?_
          refine g_ishl o dX2_reads_74 ?_
          refine g_ior o dX2_reads_75 ?_
          refine g_nmi hf (fun x3 hf => ?_)
          refine g_istore_n o [(2, .int x3), (4, .int x1), (0, .ref (a 0)), (1, .int s.1), (3, .int s.2.2.1)] (Nat.le_of_ble_eq_true rfl) rfl rfl dX2_reads_76 ?_
          refine g_iinc o [(1, .int (s.1 + 1)), (2, .int x3), (4, .int x1), (0, .ref (a 0)), (3, .int s.2.2.1)] 3 rfl (inc_1 _) (Nat.le_of_ble_eq_true rfl) rfl dX2_reads_77 ?_
          refine g_goto (tgt := 132) o rfl dX2_reads_80 ?_
          refine g_iinc o [(3, .int (s.2.2.1 + 1)), (1, .int (s.1 + 1)), (2, .int x3), (4, .int x1), (0, .ref (a 0))] 4 rfl (inc_1 _) (Nat.le_of_ble_eq_true rfl) rfl dX2_reads_132 ?_
          refine g_goto (tgt := 16) o rfl dX2_reads_135 ?_
          have hp := lf_c hf hw
          exact g_perm [4, 1, 2, 0] rfl hp
        · refine g_iload_n o 4 rfl rfl dX2_reads_65 ?_
          exact g_iret (hR _ (lf_x hf hw)) hk hn (vp_nar_int _) dX2_reads_66
    · refine g_iload o 0 rfl dX2_reads_39 ?_
      refine g_bipush o bp_49 dX2_reads_41 ?_
      refine g_ic_ne (tgt := 83) o rfl dX2_reads_43 hf (fun hc hf => ?_) (fun hc hf => ?_)
      · refine g_iload o 0 rfl dX2_reads_83 ?_
        refine g_bipush o bp_44 dX2_reads_85 ?_
        refine g_ic_ne (tgt := 109) o rfl dX2_reads_87 hf (fun hc hf => ?_) (fun hc hf => ?_)
        · refine g_iload_n o 4 rfl rfl dX2_reads_109 ?_
          exact g_iret (hR _ (lf_x hf hw)) hk hn (vp_nar_int _) dX2_reads_110
        · refine g_iload_n o 2 rfl rfl dX2_reads_90 ?_
          refine g_if_eq (tgt := 109) o rfl dX2_reads_91 hf (fun hc hf => ?_) (fun hc hf => ?_)
          · refine g_iload_n o 4 rfl rfl dX2_reads_109 ?_
            exact g_iret (hR _ (lf_x hf hw)) hk hn (vp_nar_int _) dX2_reads_110
          · refine g_aload_n o 1 rfl rfl dX2_reads_94 ?_
            refine M_get13 o m_932 dX2_reads_95 ?_
            refine g_if_le (tgt := 111) o rfl dX2_reads_98 hf (fun hc hf => ?_) (fun hc hf => ?_)
            · refine g_aload_n o 1 rfl rfl dX2_reads_111 ?_
              refine g_iload_n o 2 rfl rfl dX2_reads_112 ?_
              refine M_put13 o m_932 dX2_reads_113 ?_
              refine g_aload_n o 1 rfl rfl dX2_reads_116 ?_
              refine g_dup o rfl dX2_reads_117 ?_
              refine M_get14 o m_933 dX2_reads_118 ?_
              refine g_iconst o ic_1 dX2_reads_121 ?_
              refine g_iload_n o 3 rfl rfl dX2_reads_122 ?_
              refine g_ishl o dX2_reads_123 ?_
              refine g_ior o dX2_reads_124 ?_
              refine M_put14 o m_933 dX2_reads_125 ?_
              refine g_iconst o ic_0 dX2_reads_128 ?_
              refine g_istore_n o [(1, .int 0), (4, .int x1), (0, .ref (a 0)), (2, .int s.2.1), (3, .int s.2.2.1)] (Nat.le_of_ble_eq_true rfl) rfl rfl dX2_reads_129 ?_
              refine g_iconst o ic_0 dX2_reads_130 ?_
              refine g_istore_n o [(2, .int 0), (1, .int 0), (4, .int x1), (0, .ref (a 0)), (3, .int s.2.2.1)] (Nat.le_of_ble_eq_true rfl) rfl rfl dX2_reads_131 ?_
              refine g_iinc o [(3, .int (s.2.2.1 + 1)), (2, .int 0), (1, .int 0), (4, .int x1), (0, .ref (a 0))] 4 rfl (inc_1 _) (Nat.le_of_ble_eq_true rfl) rfl dX2_reads_132 ?_
              refine g_goto (tgt := 16) o rfl dX2_reads_135 ?_
              have hp := lf_c hf hw
              exact g_perm [4, 2, 1, 0] rfl hp
            · refine g_iload_n o 2 rfl rfl dX2_reads_101 ?_
              refine g_aload_n o 1 rfl rfl dX2_reads_102 ?_
              refine M_get13 o m_932 dX2_reads_103 ?_
              refine g_ic_ge (tgt := 111) o rfl dX2_reads_106 hf (fun hc hf => ?_) (fun hc hf => ?_)
              · refine g_aload_n o 1 rfl rfl dX2_reads_111 ?_
                refine g_iload_n o 2 rfl rfl dX2_reads_112 ?_
                refine M_put13 o m_932 dX2_reads_113 ?_
                refine g_aload_n o 1 rfl rfl dX2_reads_116 ?_
                refine g_dup o rfl dX2_reads_117 ?_
                refine M_get14 o m_933 dX2_reads_118 ?_
                refine g_iconst o ic_1 dX2_reads_121 ?_
                refine g_iload_n o 3 rfl rfl dX2_reads_122 ?_
                refine g_ishl o dX2_reads_123 ?_
                refine g_ior o dX2_reads_124 ?_
                refine M_put14 o m_933 dX2_reads_125 ?_
                refine g_iconst o ic_0 dX2_reads_128 ?_
                refine g_istore_n o [(1, .int 0), (4, .int x1), (0, .ref (a 0)), (2, .int s.2.1), (3, .int s.2.2.1)] (Nat.le_of_ble_eq_true rfl) rfl rfl dX2_reads_129 ?_
                refine g_iconst o ic_0 dX2_reads_130 ?_
                refine g_istore_n o [(2, .int 0), (1, .int 0), (4, .int x1), (0, .ref (a 0)), (3, .int s.2.2.1)] (Nat.le_of_ble_eq_true rfl) rfl rfl dX2_reads_131 ?_
                refine g_iinc o [(3, .int (s.2.2.1 + 1)), (2, .int 0), (1, .int 0), (4, .int x1), (0, .ref (a 0))] 4 rfl (inc_1 _) (Nat.le_of_ble_eq_true rfl) rfl dX2_reads_132 ?_
                refine g_goto (tgt := 16) o rfl dX2_reads_135 ?_
                have hp := lf_c hf hw
                exact g_perm [4, 2, 1, 0] rfl hp
              · refine g_iload_n o 4 rfl rfl dX2_reads_109 ?_
                exact g_iret (hR _ (lf_x hf hw)) hk hn (vp_nar_int _) dX2_reads_110
      · refine g_iload_n o 2 rfl rfl dX2_reads_46 ?_
        refine g_aload_n o 1 rfl rfl dX2_reads_47 ?_
        refine M_get13 o m_932 dX2_reads_48 ?_
        refine g_if_le (tgt := 61) o rfl dX2_reads_51 hf (fun hc hf => ?_) (fun hc hf => ?_)
        · refine g_iconst o ic_4 dX2_reads_61 ?_
          refine g_ic_ne (tgt := 67) o rfl dX2_reads_62 hf (fun hc hf => ?_) (fun hc hf => ?_)
          · refine g_iload_n o 3 rfl rfl dX2_reads_67 ?_
            refine g_iload o 0 rfl dX2_reads_68 ?_
            refine g_bipush o bp_48 dX2_reads_70 ?_
            refine g_isub o dX2_reads_72 ?_
            refine g_iload_n o 2 rfl rfl dX2_reads_73 ?_
            refine g_ishl o dX2_reads_74 ?_
            refine g_ior o dX2_reads_75 ?_
            refine g_nmi hf (fun x4 hf => ?_)
            refine g_istore_n o [(2, .int x4), (4, .int x1), (0, .ref (a 0)), (1, .int s.1), (3, .int s.2.2.1)] (Nat.le_of_ble_eq_true rfl) rfl rfl dX2_reads_76 ?_
            refine g_iinc o [(1, .int (s.1 + 1)), (2, .int x4), (4, .int x1), (0, .ref (a 0)), (3, .int s.2.2.1)] 3 rfl (inc_1 _) (Nat.le_of_ble_eq_true rfl) rfl dX2_reads_77 ?_
            refine g_goto (tgt := 132) o rfl dX2_reads_80 ?_
            refine g_iinc o [(3, .int (s.2.2.1 + 1)), (1, .int (s.1 + 1)), (2, .int x4), (4, .int x1), (0, .ref (a 0))] 4 rfl (inc_1 _) (Nat.le_of_ble_eq_true rfl) rfl dX2_reads_132 ?_
            refine g_goto (tgt := 16) o rfl dX2_reads_135 ?_
            have hp := lf_c hf hw
            exact g_perm [4, 1, 2, 0] rfl hp
          · refine g_iload_n o 4 rfl rfl dX2_reads_65 ?_
            exact g_iret (hR _ (lf_x hf hw)) hk hn (vp_nar_int _) dX2_reads_66
        · refine g_aload_n o 1 rfl rfl dX2_reads_54 ?_
          refine M_get13 o m_932 dX2_reads_55 ?_
          refine g_goto (tgt := 62) o rfl dX2_reads_58 ?_
          refine g_ic_ne (tgt := 67) o rfl dX2_reads_62 hf (fun hc hf => ?_) (fun hc hf => ?_)
          · refine g_iload_n o 3 rfl rfl dX2_reads_67 ?_
            refine g_iload o 0 rfl dX2_reads_68 ?_
            refine g_bipush o bp_48 dX2_reads_70 ?_
            refine g_isub o dX2_reads_72 ?_
            refine g_iload_n o 2 rfl rfl dX2_reads_73 ?_
            refine g_ishl o dX2_reads_74 ?_
            refine g_ior o dX2_reads_75 ?_
            refine g_nmi hf (fun x5 hf => ?_)
            refine g_istore_n o [(2, .int x5), (4, .int x1), (0, .ref (a 0)), (1, .int s.1), (3, .int s.2.2.1)] (Nat.le_of_ble_eq_true rfl) rfl rfl dX2_reads_76 ?_
            refine g_iinc o [(1, .int (s.1 + 1)), (2, .int x5), (4, .int x1), (0, .ref (a 0)), (3, .int s.2.2.1)] 3 rfl (inc_1 _) (Nat.le_of_ble_eq_true rfl) rfl dX2_reads_77 ?_
            refine g_goto (tgt := 132) o rfl dX2_reads_80 ?_
            refine g_iinc o [(3, .int (s.2.2.1 + 1)), (1, .int (s.1 + 1)), (2, .int x5), (4, .int x1), (0, .ref (a 0))] 4 rfl (inc_1 _) (Nat.le_of_ble_eq_true rfl) rfl dX2_reads_132 ?_
            refine g_goto (tgt := 16) o rfl dX2_reads_135 ?_
            have hp := lf_c hf hw
            exact g_perm [4, 1, 2, 0] rfl hp
          · refine g_iload_n o 4 rfl rfl dX2_reads_65 ?_
            exact g_iret (hR _ (lf_x hf hw)) hk hn (vp_nar_int _) dX2_reads_66
set_option maxRecDepth 20000 in
set_option maxHeartbeats 2000000 in
theorem b_X2_reads {x : Cx} (o : Ok x cX2_reads 5 RX2 0 0 0) (a : Nat → Nat) (u : St) (t : Int32 × St) (hf : f_X2_reads u = some t) (hret : rt_X2_reads x a t) : G x 5 0 0 (wM a u (cxT x)) [(0, .ref (a 0))] 0 [] := by
  unfold f_X2_reads at hf
  refine g_aload_n o 0 rfl rfl dX2_reads_0 ?_
  refine g_iconst o ic_0 dX2_reads_1 ?_
  refine M_put13 o m_932 dX2_reads_2 ?_
  refine g_aload_n o 0 rfl rfl dX2_reads_5 ?_
  refine g_iconst o ic_0 dX2_reads_6 ?_
  refine M_put14 o m_933 dX2_reads_7 ?_
  refine g_iconst o ic_0 dX2_reads_10 ?_
  refine g_istore_n o [(1, .int 0), (0, .ref (a 0))] (Nat.le_of_ble_eq_true rfl) rfl rfl dX2_reads_11 ?_
  refine g_iconst o ic_0 dX2_reads_12 ?_
  refine g_istore_n o [(2, .int 0), (1, .int 0), (0, .ref (a 0))] (Nat.le_of_ble_eq_true rfl) rfl rfl dX2_reads_13 ?_
  refine g_iconst o ic_0 dX2_reads_14 ?_
  refine g_istore_n o [(3, .int 0), (2, .int 0), (1, .int 0), (0, .ref (a 0))] (Nat.le_of_ble_eq_true rfl) rfl rfl dX2_reads_15 ?_
  obtain ⟨r7, hr7, hxr7, hrr7⟩ := bl_some hf
  refine g_perm [3, 2, 1, 0] rfl (b_X2_reads_L16 o (Nat.le_of_ble_eq_true rfl) (Nat.le_of_ble_eq_true rfl) a  r7 (fun s16 hs => ?_) (fun t6 ht => ?_) FU (0, 0, 0, (us (us u 13 0) 14 0)) hr7)
  · have hf := hxr7 s16 hs
    refine g_iload_n o 1 rfl rfl dX2_reads_138 ?_
    refine g_if_eq (tgt := 157) o rfl dX2_reads_139 hf (fun hc hf => ?_) (fun hc hf => ?_)
    · refine g_aload_n o 0 rfl rfl dX2_reads_157 ?_
      refine M_get10 o m_929 dX2_reads_158 ?_
      cases Option.some.inj hf
      exact g_iret hret (Nat.le_of_ble_eq_true rfl) (Nat.le_of_ble_eq_true rfl) (vp_nar_int _) dX2_reads_161
    · refine g_aload_n o 0 rfl rfl dX2_reads_142 ?_
      refine M_get13 o m_932 dX2_reads_143 ?_
      refine g_if_le (tgt := 162) o rfl dX2_reads_146 hf (fun hc hf => ?_) (fun hc hf => ?_)
      · refine g_aload_n o 0 rfl rfl dX2_reads_162 ?_
        refine g_iload_n o 1 rfl rfl dX2_reads_163 ?_
        refine M_put13 o m_932 dX2_reads_164 ?_
        refine g_aload_n o 0 rfl rfl dX2_reads_167 ?_
        refine g_dup o rfl dX2_reads_168 ?_
        refine M_get14 o m_933 dX2_reads_169 ?_
        refine g_iconst o ic_1 dX2_reads_172 ?_
        refine g_iload_n o 2 rfl rfl dX2_reads_173 ?_
        refine g_ishl o dX2_reads_174 ?_
        refine g_ior o dX2_reads_175 ?_
        refine M_put14 o m_933 dX2_reads_176 ?_
        refine g_iconst o ic_m1 dX2_reads_179 ?_
        cases Option.some.inj hf
        exact g_iret hret (Nat.le_of_ble_eq_true rfl) (Nat.le_of_ble_eq_true rfl) (vp_nar_int _) dX2_reads_180
      · refine g_iload_n o 1 rfl rfl dX2_reads_149 ?_
        refine g_aload_n o 0 rfl rfl dX2_reads_150 ?_
        refine M_get13 o m_932 dX2_reads_151 ?_
        refine g_ic_ge (tgt := 162) o rfl dX2_reads_154 hf (fun hc hf => ?_) (fun hc hf => ?_)
        · refine g_aload_n o 0 rfl rfl dX2_reads_162 ?_
          refine g_iload_n o 1 rfl rfl dX2_reads_163 ?_
          refine M_put13 o m_932 dX2_reads_164 ?_
          refine g_aload_n o 0 rfl rfl dX2_reads_167 ?_
          refine g_dup o rfl dX2_reads_168 ?_
          refine M_get14 o m_933 dX2_reads_169 ?_
          refine g_iconst o ic_1 dX2_reads_172 ?_
          refine g_iload_n o 2 rfl rfl dX2_reads_173 ?_
          refine g_ishl o dX2_reads_174 ?_
          refine g_ior o dX2_reads_175 ?_
          refine M_put14 o m_933 dX2_reads_176 ?_
          refine g_iconst o ic_m1 dX2_reads_179 ?_
          cases Option.some.inj hf
          exact g_iret hret (Nat.le_of_ble_eq_true rfl) (Nat.le_of_ble_eq_true rfl) (vp_nar_int _) dX2_reads_180
        · refine g_aload_n o 0 rfl rfl dX2_reads_157 ?_
          refine M_get10 o m_929 dX2_reads_158 ?_
          cases Option.some.inj hf
          exact g_iret hret (Nat.le_of_ble_eq_true rfl) (Nat.le_of_ble_eq_true rfl) (vp_nar_int _) dX2_reads_161
  · have hf := hrr7 t6 ht
    cases Option.some.inj hf
    exact hret
theorem c_X2_reads (l : Launch) (hst : l.stackTraces = false) (a : Nat → Nat) (u : St) (t : Int32 × St) (hf : f_X2_reads u = some t) : CoI l yX2_reads (.code yX2_reads cX2_reads 5 (some .int)) 0 0 0 [.ref (a 0)] (wM a u) (wM a t.2) (.inl t.1) := mkI hst (by decide +kernel) (Nat.le_of_ble_eq_true rfl) (fun x _ o hI hX => b_X2_reads o a u t hf (hI _ rfl))
theorem k_X2_reads_ {x : Cx} {cc : ByteArray} {nL : Nat} {own : String} {d mc ms k n : Nat} {lv : List (Nat × Value)} {pc i : Nat} {rest : List Value} {a : Nat → Nat} {u : St} (o : Ok x cc nL own d mc ms) {t : Int32 × St} (ht : f_X2_reads u = some t) (hlk : Cond.methodLink own i yX2_reads ∈ Ug) (hd : 0 < d) (hr : (rest.map fun v => v.category).sum ≤ 8) (hk : k + 0 ≤ mc ∧ n + 0 ≤ ms) (dg : decode cc pc = .ok (.invokevirtual i, 3)) (kk : G x nL (k + 0) (n + 0) (wM a t.2 (cxT x)) lv (pc + 3) (.int t.1 :: rest)) : G x nL k n (wM a u (cxT x)) lv pc (.ref (a 0) :: rest) := gcI (wd2 := (wM a t.2 (cxT x))) o (c_X2_reads (cxl x) o.2.2.2.2.2.2.2.2.2.1 a u t ht) (can_V (q0 := 0) o rfl rfl hd (Nat.le_of_ble_eq_true rfl) m_1266 m_56 m_1265 m_48 hlk yk_X2_reads rfl hr hk dg) sp_M (fun E h => by cases h) (fun r h => by cases h; exact kk)
def rt_X2_parse (x : Cx) (a : Nat → Nat) (t : Int32 × St) : Prop := RetI x cX2_parse .int 0 0 (wM a t.2 (cxT x)) t.1
set_option maxRecDepth 20000 in
set_option maxHeartbeats 2000000 in
theorem b_X2_parse {x : Cx} (o : Ok x cX2_parse 2 RX2 1 0 0) (a : Nat → Nat) (u : St) (t : Int32 × St) (hf : f_X2_parse u = some t) (hret : rt_X2_parse x a t) : G x 2 0 0 (wM a u (cxT x)) [(0, .ref (a 0))] 0 [] := by
  unfold f_X2_parse at hf
  refine g_aload_n o 0 rfl rfl dX2_parse_0 ?_
  obtain ⟨r1, hr1, hf⟩ := bd_some hf
  refine k_X2_reads_ o hr1 m_1263 (Nat.le_of_ble_eq_true rfl) (Nat.le_of_ble_eq_true rfl) ⟨(Nat.le_of_ble_eq_true rfl), (Nat.le_of_ble_eq_true rfl)⟩ dX2_parse_1 ?_
  refine g_istore_n o [(1, .int r1.1), (0, .ref (a 0))] (Nat.le_of_ble_eq_true rfl) rfl rfl dX2_parse_4 ?_
  refine g_aload_n o 1 rfl rfl dX2_parse_5 ?_
  refine g_iconst o ic_0 dX2_parse_6 ?_
  refine M_put10 o m_929 dX2_parse_7 ?_
  refine g_iload_n o 0 rfl rfl dX2_parse_10 ?_
  refine g_if_lt (tgt := 25) o rfl dX2_parse_11 hf (fun hc hf => ?_) (fun hc hf => ?_)
  · refine g_aload_n o 1 rfl rfl dX2_parse_25 ?_
    refine M_get3 o m_922 dX2_parse_26 ?_
    refine g_bipush o bp_8 dX2_parse_29 ?_
    refine g_ic_ne (tgt := 40) o rfl dX2_parse_31 hf (fun hc hf => ?_) (fun hc hf => ?_)
    · refine g_aload_n o 1 rfl rfl dX2_parse_40 ?_
      refine g_aload_n o 1 rfl rfl dX2_parse_41 ?_
      refine M_get13 o m_932 dX2_parse_42 ?_
      refine g_aload_n o 1 rfl rfl dX2_parse_45 ?_
      refine M_get14 o m_933 dX2_parse_46 ?_
      obtain ⟨r2, hr2, hf⟩ := bd_some hf
      refine k_X2_adds_ o hr2 m_999 (Nat.le_of_ble_eq_true rfl) (Nat.le_of_ble_eq_true rfl) ⟨(Nat.le_of_ble_eq_true rfl), (Nat.le_of_ble_eq_true rfl)⟩ dX2_parse_49 ?_
      cases Option.some.inj hf
      exact g_iret hret (Nat.le_of_ble_eq_true rfl) (Nat.le_of_ble_eq_true rfl) (vp_nar_int _) dX2_parse_52
    · refine g_aload_n o 1 rfl rfl dX2_parse_34 ?_
      refine g_iconst o ic_2 dX2_parse_35 ?_
      obtain ⟨r3, hr3, hf⟩ := bd_some hf
      refine k_X2_fails_ o hr3 m_995 (Nat.le_of_ble_eq_true rfl) (Nat.le_of_ble_eq_true rfl) ⟨(Nat.le_of_ble_eq_true rfl), (Nat.le_of_ble_eq_true rfl)⟩ dX2_parse_36 ?_
      cases Option.some.inj hf
      exact g_iret hret (Nat.le_of_ble_eq_true rfl) (Nat.le_of_ble_eq_true rfl) (vp_nar_int _) dX2_parse_39
  · refine g_aload_n o 1 rfl rfl dX2_parse_14 ?_
    refine g_iload_n o 0 rfl rfl dX2_parse_15 ?_
    refine M_put12 o m_931 dX2_parse_16 ?_
    refine g_aload_n o 1 rfl rfl dX2_parse_19 ?_
    refine g_iconst o ic_1 dX2_parse_20 ?_
    obtain ⟨r4, hr4, hf⟩ := bd_some hf
    refine k_X2_fails_ o hr4 m_995 (Nat.le_of_ble_eq_true rfl) (Nat.le_of_ble_eq_true rfl) ⟨(Nat.le_of_ble_eq_true rfl), (Nat.le_of_ble_eq_true rfl)⟩ dX2_parse_21 ?_
    cases Option.some.inj hf
    exact g_iret hret (Nat.le_of_ble_eq_true rfl) (Nat.le_of_ble_eq_true rfl) (vp_nar_int _) dX2_parse_24
theorem c_X2_parse (l : Launch) (hst : l.stackTraces = false) (a : Nat → Nat) (u : St) (t : Int32 × St) (hf : f_X2_parse u = some t) : CoI l yX2_parse (.code yX2_parse cX2_parse 2 (some .int)) 1 0 0 [.ref (a 0)] (wM a u) (wM a t.2) (.inl t.1) := mkI hst (by decide +kernel) (Nat.le_of_ble_eq_true rfl) (fun x _ o hI hX => b_X2_parse o a u t hf (hI _ rfl))
def rt_X2_errorPosition (x : Cx) (a : Nat → Nat) (t : Int32 × St) : Prop := RetI x cX2_errorPosition .int 0 0 (wM a t.2 (cxT x)) t.1
set_option maxRecDepth 20000 in
set_option maxHeartbeats 2000000 in
theorem b_X2_errorPosition {x : Cx} (o : Ok x cX2_errorPosition 1 RX2 1 0 0) (a : Nat → Nat) (u : St) (t : Int32 × St) (hf : f_X2_errorPosition u = some t) (hret : rt_X2_errorPosition x a t) : G x 1 0 0 (wM a u (cxT x)) [(0, .ref (a 0))] 0 [] := by
  unfold f_X2_errorPosition at hf
  refine g_aload_n o 0 rfl rfl dX2_errorPosition_0 ?_
  refine M_get12 o m_931 dX2_errorPosition_1 ?_
  refine g_if_ge (tgt := 13) o rfl dX2_errorPosition_4 hf (fun hc hf => ?_) (fun hc hf => ?_)
  · refine g_aload_n o 0 rfl rfl dX2_errorPosition_13 ?_
    refine g_iconst o ic_0 dX2_errorPosition_14 ?_
    refine M_put0 o m_919 dX2_errorPosition_15 ?_
    refine g_aload_n o 0 rfl rfl dX2_errorPosition_18 ?_
    refine M_get12 o m_931 dX2_errorPosition_19 ?_
    cases Option.some.inj hf
    exact g_iret hret (Nat.le_of_ble_eq_true rfl) (Nat.le_of_ble_eq_true rfl) (vp_nar_int _) dX2_errorPosition_22
  · refine g_aload_n o 0 rfl rfl dX2_errorPosition_7 ?_
    refine g_iconst o ic_1 dX2_errorPosition_8 ?_
    obtain ⟨r1, hr1, hf⟩ := bd_some hf
    refine k_X2_fails_ o hr1 m_995 (Nat.le_of_ble_eq_true rfl) (Nat.le_of_ble_eq_true rfl) ⟨(Nat.le_of_ble_eq_true rfl), (Nat.le_of_ble_eq_true rfl)⟩ dX2_errorPosition_9 ?_
    cases Option.some.inj hf
    exact g_iret hret (Nat.le_of_ble_eq_true rfl) (Nat.le_of_ble_eq_true rfl) (vp_nar_int _) dX2_errorPosition_12
theorem c_X2_errorPosition (l : Launch) (hst : l.stackTraces = false) (a : Nat → Nat) (u : St) (t : Int32 × St) (hf : f_X2_errorPosition u = some t) : CoI l yX2_errorPosition (.code yX2_errorPosition cX2_errorPosition 1 (some .int)) 1 0 0 [.ref (a 0)] (wM a u) (wM a t.2) (.inl t.1) := mkI hst (by decide +kernel) (Nat.le_of_ble_eq_true rfl) (fun x _ o hI hX => b_X2_errorPosition o a u t hf (hI _ rfl))
def rt_X2_puts (x : Cx) (a : Nat → Nat) (t : St) : Prop := RetV x cX2_puts 0 0 (wM a t (cxT x))
set_option maxRecDepth 20000 in
set_option maxHeartbeats 2000000 in
theorem b_X2_puts {x : Cx} (o : Ok x cX2_puts 2 RX2 0 0 0) (a : Nat → Nat) (u : St) (p0 : Int32) (t : St) (hf : f_X2_puts u p0 = some t) (hret : rt_X2_puts x a t) : G x 2 0 0 (wM a u (cxT x)) [(0, .ref (a 0)), (1, .int p0)] 0 [] := by
  unfold f_X2_puts at hf
  refine g_aload_n o 0 rfl rfl dX2_puts_0 ?_
  refine M_get9 o m_928 dX2_puts_1 ?_
  refine g_aload_n o 0 rfl rfl dX2_puts_4 ?_
  refine M_get11 o m_930 dX2_puts_5 ?_
  refine g_iload_n o 1 rfl rfl dX2_puts_8 ?_
  refine M_st9 o dX2_puts_9 hf (fun hf => ?_)
  refine g_aload_n o 0 rfl rfl dX2_puts_10 ?_
  refine g_dup o rfl dX2_puts_11 ?_
  refine M_get11 o m_930 dX2_puts_12 ?_
  refine g_iconst o ic_1 dX2_puts_15 ?_
  refine g_iadd o dX2_puts_16 ?_
  refine M_put11 o m_930 dX2_puts_17 ?_
  cases Option.some.inj hf
  exact g_vret hret (Nat.le_of_ble_eq_true rfl) (Nat.le_of_ble_eq_true rfl) dX2_puts_20
theorem c_X2_puts (l : Launch) (hst : l.stackTraces = false) (a : Nat → Nat) (u : St) (p0 : Int32) (t : St) (hf : f_X2_puts u p0 = some t) : CoV l yX2_puts (.code yX2_puts cX2_puts 2 none) 0 0 0 [.ref (a 0), .int p0] (wM a u) (wM a t) (.inl ()) := mkV hst (by decide +kernel) (Nat.le_of_ble_eq_true rfl) (fun x _ o hI hX => b_X2_puts o a u p0 t hf (hI rfl))
theorem k_X2_puts_ {x : Cx} {cc : ByteArray} {nL : Nat} {own : String} {d mc ms k n : Nat} {lv : List (Nat × Value)} {pc i : Nat} {rest : List Value} {a : Nat → Nat} {u : St} {p0 : Int32} (o : Ok x cc nL own d mc ms) {t : St} (ht : f_X2_puts u p0 = some t) (hlk : Cond.methodLink own i yX2_puts ∈ Ug) (hd : 0 < d) (hr : (rest.map fun v => v.category).sum ≤ 8) (hk : k + 0 ≤ mc ∧ n + 0 ≤ ms) (dg : decode cc pc = .ok (.invokevirtual i, 3)) (kk : G x nL (k + 0) (n + 0) (wM a t (cxT x)) lv (pc + 3) rest) : G x nL k n (wM a u (cxT x)) lv pc (.int p0 :: .ref (a 0) :: rest) := gcV (wd2 := (wM a t (cxT x))) o (c_X2_puts (cxl x) o.2.2.2.2.2.2.2.2.2.1 a u p0 t ht) (can_V (q0 := 0) o rfl rfl hd (Nat.le_of_ble_eq_true rfl) m_1278 m_56 m_1277 m_49 hlk yk_X2_puts rfl hr hk dg) sp_M (fun E h => by cases h) (fun h => kk)
def rt_X2_write (x : Cx) (a : Nat → Nat) (t : Int32 × St) : Prop := RetI x cX2_write .int 0 0 (wM a t.2 (cxT x)) t.1
set_option maxRecDepth 20000 in
set_option maxHeartbeats 2000000 in
theorem b_X2_write_L63 {x : Cx} (o : Ok x cX2_write 4 RX2 1 0 0) {k n : Nat} (hk : k ≤ 0) (hn : n ≤ 0) (a : Nat → Nat) (c1 : Int32) (c2 : Int32) (r : (Int32 × St) ⊕ (Int32 × St)) (hX : ∀ s : Int32 × St, r = .inl s → G x 4 k n (wM a s.2 (cxT x)) [(0, .ref (a 0)), (1, .int c1), (2, .int c2)] 99 []) (hR : ∀ t, r = .inr t → rt_X2_write x a t) : ∀ (m : Nat) (s : Int32 × St), loopN (f_X2_write_s63 c1 c2) m s = some r → G x 4 k n (wM a s.2 (cxT x)) [(0, .ref (a 0)), (1, .int c1), (2, .int c2), (3, .int s.1)] 63 [] := by
  refine loop_W _ (fun (s : Int32 × St) => G x 4 k n (wM a s.2 (cxT x)) [(0, .ref (a 0)), (1, .int c1), (2, .int c2), (3, .int s.1)] 63 []) r ?_
  intro s ww hf hw
  unfold f_X2_write_s63 at hf
  refine g_iload_n o 3 rfl rfl dX2_write_63 ?_
  refine g_aload_n o 0 rfl rfl dX2_write_64 ?_
  refine M_get1 o m_920 dX2_write_65 ?_
  refine g_iload_n o 1 rfl rfl dX2_write_68 ?_
  refine M_ld1 o dX2_write_69 hf (fun hf => ?_)
  refine g_ic_ge (tgt := 99) o rfl dX2_write_70 hf (fun hc hf => ?_) (fun hc hf => ?_)
  · exact g_perm [0, 1, 2] rfl (hX _ (lf_x hf hw))
  · refine g_aload_n o 0 rfl rfl dX2_write_73 ?_
    refine g_iload_n o 2 rfl rfl dX2_write_74 ?_
    refine g_iload_n o 3 rfl rfl dX2_write_75 ?_
    refine g_ishr o dX2_write_76 ?_
    refine g_iconst o ic_1 dX2_write_77 ?_
    refine g_iand o dX2_write_78 ?_
    refine g_iconst o ic_1 dX2_write_79 ?_
    refine g_ic_ne (tgt := 88) o rfl dX2_write_80 hf (fun hc hf => ?_) (fun hc hf => ?_)
    · refine g_bipush o bp_48 dX2_write_88 ?_
      obtain ⟨r2, hr2, hf⟩ := bd_some hf
      refine k_X2_puts_ o hr2 m_1275 (Nat.le_of_ble_eq_true rfl) (Nat.le_of_ble_eq_true rfl) ⟨hk, hn⟩ dX2_write_90 ?_
      refine g_iinc o [(3, .int (s.1 + 1)), (0, .ref (a 0)), (1, .int c1), (2, .int c2)] 3 rfl (inc_1 _) (Nat.le_of_ble_eq_true rfl) rfl dX2_write_93 ?_
      refine g_goto (tgt := 63) o rfl dX2_write_96 ?_
      have hp := lf_c hf hw
      exact g_perm [1, 2, 3, 0] rfl hp
    · refine g_bipush o bp_49 dX2_write_83 ?_
      refine g_goto (tgt := 90) o rfl dX2_write_85 ?_
      obtain ⟨r3, hr3, hf⟩ := bd_some hf
      refine k_X2_puts_ o hr3 m_1275 (Nat.le_of_ble_eq_true rfl) (Nat.le_of_ble_eq_true rfl) ⟨hk, hn⟩ dX2_write_90 ?_
      refine g_iinc o [(3, .int (s.1 + 1)), (0, .ref (a 0)), (1, .int c1), (2, .int c2)] 3 rfl (inc_1 _) (Nat.le_of_ble_eq_true rfl) rfl dX2_write_93 ?_
      refine g_goto (tgt := 63) o rfl dX2_write_96 ?_
      have hp := lf_c hf hw
      exact g_perm [1, 2, 3, 0] rfl hp
set_option maxRecDepth 20000 in
set_option maxHeartbeats 2000000 in
theorem b_X2_write_L26 {x : Cx} (o : Ok x cX2_write 4 RX2 1 0 0) {k n : Nat} (hk : k ≤ 0) (hn : n ≤ 0) (a : Nat → Nat) (c1 : Int32) (r : (Int32 × St) ⊕ (Int32 × St)) (hX : ∀ s : Int32 × St, r = .inl s → G x 4 k n (wM a s.2 (cxT x)) [(0, .ref (a 0))] 105 []) (hR : ∀ t, r = .inr t → rt_X2_write x a t) : ∀ (m : Nat) (s : Int32 × St), loopN (f_X2_write_s26 c1) m s = some r → G x 4 k n (wM a s.2 (cxT x)) [(0, .ref (a 0)), (1, .int c1), (2, .int s.1)] 26 [] := by
  refine loop_W _ (fun (s : Int32 × St) => G x 4 k n (wM a s.2 (cxT x)) [(0, .ref (a 0)), (1, .int c1), (2, .int s.1)] 26 []) r ?_
  intro s ww hf hw
  unfold f_X2_write_s26 at hf
  refine g_iload_n o 2 rfl rfl dX2_write_26 ?_
  refine g_bipush o bp_16 dX2_write_27 ?_
  refine g_ic_ge (tgt := 105) o rfl dX2_write_29 hf (fun hc hf => ?_) (fun hc hf => ?_)
  · exact g_perm [0] rfl (hX _ (lf_x hf hw))
  · refine g_aload_n o 0 rfl rfl dX2_write_32 ?_
    refine M_get2 o m_921 dX2_write_33 ?_
    refine g_iload_n o 1 rfl rfl dX2_write_36 ?_
    refine M_ld2 o dX2_write_37 hf (fun hf => ?_)
    refine g_iload_n o 2 rfl rfl dX2_write_38 ?_
    refine g_ishr o dX2_write_39 ?_
    refine g_iconst o ic_1 dX2_write_40 ?_
    refine g_iand o dX2_write_41 ?_
    refine g_if_ne (tgt := 48) o rfl dX2_write_42 hf (fun hc hf => ?_) (fun hc hf => ?_)
    · refine g_aload_n o 0 rfl rfl dX2_write_48 ?_
      refine M_get11 o m_930 dX2_write_49 ?_
      refine g_if_le (tgt := 61) o rfl dX2_write_52 hf (fun hc hf => ?_) (fun hc hf => ?_)
      · refine g_iconst o ic_0 dX2_write_61 ?_
        refine g_istore_n o [(3, .int 0), (0, .ref (a 0)), (1, .int c1), (2, .int s.1)] (Nat.le_of_ble_eq_true rfl) rfl rfl dX2_write_62 ?_
        obtain ⟨r6, hr6, hxr6, hrr6⟩ := bl_some hf
        refine g_perm [1, 2, 3, 0] rfl (b_X2_write_L63 o hk hn a c1 s.1 r6 (fun s63_4 hs => ?_) (fun t5 ht => ?_) FU (0, s.2) hr6)
        · have hf := hxr6 s63_4 hs
          refine g_iinc o [(2, .int (s.1 + 1)), (0, .ref (a 0)), (1, .int c1)] 2 rfl (inc_1 _) (Nat.le_of_ble_eq_true rfl) rfl dX2_write_99 ?_
          refine g_goto (tgt := 26) o rfl dX2_write_102 ?_
          have hp := lf_c hf hw
          exact g_perm [1, 2, 0] rfl hp
        · have hf := hrr6 t5 ht
          exact hR t5 (lf_x hf hw)
      · refine g_aload_n o 0 rfl rfl dX2_write_55 ?_
        refine g_bipush o bp_44 dX2_write_56 ?_
        obtain ⟨r7, hr7, hf⟩ := bd_some hf
        refine k_X2_puts_ o hr7 m_1275 (Nat.le_of_ble_eq_true rfl) (Nat.le_of_ble_eq_true rfl) ⟨hk, hn⟩ dX2_write_58 ?_
        refine g_iconst o ic_0 dX2_write_61 ?_
        refine g_istore_n o [(3, .int 0), (0, .ref (a 0)), (1, .int c1), (2, .int s.1)] (Nat.le_of_ble_eq_true rfl) rfl rfl dX2_write_62 ?_
        obtain ⟨r10, hr10, hxr10, hrr10⟩ := bl_some hf
        refine g_perm [1, 2, 3, 0] rfl (b_X2_write_L63 o hk hn a c1 s.1 r10 (fun s63_8 hs => ?_) (fun t9 ht => ?_) FU (0, r7) hr10)
        · have hf := hxr10 s63_8 hs
          refine g_iinc o [(2, .int (s.1 + 1)), (0, .ref (a 0)), (1, .int c1)] 2 rfl (inc_1 _) (Nat.le_of_ble_eq_true rfl) rfl dX2_write_99 ?_
          refine g_goto (tgt := 26) o rfl dX2_write_102 ?_
          have hp := lf_c hf hw
          exact g_perm [1, 2, 0] rfl hp
        · have hf := hrr10 t9 ht
          exact hR t9 (lf_x hf hw)
    · refine g_goto (tgt := 99) o rfl dX2_write_45 ?_
      refine g_iinc o [(2, .int (s.1 + 1)), (0, .ref (a 0)), (1, .int c1)] 2 rfl (inc_1 _) (Nat.le_of_ble_eq_true rfl) rfl dX2_write_99 ?_
      refine g_goto (tgt := 26) o rfl dX2_write_102 ?_
      have hp := lf_c hf hw
      exact g_perm [1, 2, 0] rfl hp
set_option maxRecDepth 20000 in
set_option maxHeartbeats 2000000 in
theorem b_X2_write {x : Cx} (o : Ok x cX2_write 4 RX2 1 0 0) (a : Nat → Nat) (u : St) (p0 : Int32) (t : Int32 × St) (hf : f_X2_write u p0 = some t) (hret : rt_X2_write x a t) : G x 4 0 0 (wM a u (cxT x)) [(0, .ref (a 0)), (1, .int p0)] 0 [] := by
  unfold f_X2_write at hf
  refine g_aload_n o 0 rfl rfl dX2_write_0 ?_
  refine g_iload_n o 1 rfl rfl dX2_write_1 ?_
  obtain ⟨r1, hr1, hf⟩ := bd_some hf
  refine k_X2_isRelation_ o hr1 m_1031 (Nat.le_of_ble_eq_true rfl) (Nat.le_of_ble_eq_true rfl) ⟨(Nat.le_of_ble_eq_true rfl), (Nat.le_of_ble_eq_true rfl)⟩ dX2_write_2 ?_
  refine g_if_ne (tgt := 14) o rfl dX2_write_5 hf (fun hc hf => ?_) (fun hc hf => ?_)
  · refine g_aload_n o 0 rfl rfl dX2_write_14 ?_
    refine g_iconst o ic_0 dX2_write_15 ?_
    refine M_put0 o m_919 dX2_write_16 ?_
    refine g_aload_n o 0 rfl rfl dX2_write_19 ?_
    refine g_iconst o ic_0 dX2_write_20 ?_
    refine M_put11 o m_930 dX2_write_21 ?_
    refine g_iconst o ic_0 dX2_write_24 ?_
    refine g_istore_n o [(2, .int 0), (0, .ref (a 0)), (1, .int p0)] (Nat.le_of_ble_eq_true rfl) rfl rfl dX2_write_25 ?_
    obtain ⟨r12, hr12, hxr12, hrr12⟩ := bl_some hf
    refine g_perm [1, 2, 0] rfl (b_X2_write_L26 o (Nat.le_of_ble_eq_true rfl) (Nat.le_of_ble_eq_true rfl) a p0 r12 (fun s26 hs => ?_) (fun t11 ht => ?_) FU (0, (us (us u 0 0) 11 0)) hr12)
    · have hf := hxr12 s26 hs
      refine g_aload_n o 0 rfl rfl dX2_write_105 ?_
      refine M_get11 o m_930 dX2_write_106 ?_
      cases Option.some.inj hf
      exact g_iret hret (Nat.le_of_ble_eq_true rfl) (Nat.le_of_ble_eq_true rfl) (vp_nar_int _) dX2_write_109
    · have hf := hrr12 t11 ht
      cases Option.some.inj hf
      exact hret
  · refine g_aload_n o 0 rfl rfl dX2_write_8 ?_
    refine g_iconst o ic_1 dX2_write_9 ?_
    obtain ⟨r13, hr13, hf⟩ := bd_some hf
    refine k_X2_fails_ o hr13 m_995 (Nat.le_of_ble_eq_true rfl) (Nat.le_of_ble_eq_true rfl) ⟨(Nat.le_of_ble_eq_true rfl), (Nat.le_of_ble_eq_true rfl)⟩ dX2_write_10 ?_
    cases Option.some.inj hf
    exact g_iret hret (Nat.le_of_ble_eq_true rfl) (Nat.le_of_ble_eq_true rfl) (vp_nar_int _) dX2_write_13
theorem c_X2_write (l : Launch) (hst : l.stackTraces = false) (a : Nat → Nat) (u : St) (p0 : Int32) (t : Int32 × St) (hf : f_X2_write u p0 = some t) : CoI l yX2_write (.code yX2_write cX2_write 4 (some .int)) 1 0 0 [.ref (a 0), .int p0] (wM a u) (wM a t.2) (.inl t.1) := mkI hst (by decide +kernel) (Nat.le_of_ble_eq_true rfl) (fun x _ o hI hX => b_X2_write o a u p0 t hf (hI _ rfl))
def rt_X2_outputAt (x : Cx) (a : Nat → Nat) (t : Int32 × St) : Prop := RetI x cX2_outputAt .char 0 0 (wM a t.2 (cxT x)) t.1
set_option maxRecDepth 20000 in
set_option maxHeartbeats 2000000 in
theorem b_X2_outputAt {x : Cx} (o : Ok x cX2_outputAt 2 RX2 1 0 0) (a : Nat → Nat) (u : St) (p0 : Int32) (t : Int32 × St) (hf : f_X2_outputAt u p0 = some t) (hret : rt_X2_outputAt x a t) : G x 2 0 0 (wM a u (cxT x)) [(0, .ref (a 0)), (1, .int p0)] 0 [] := by
  unfold f_X2_outputAt at hf
  refine g_aload_n o 0 rfl rfl dX2_outputAt_0 ?_
  refine g_iload_n o 1 rfl rfl dX2_outputAt_1 ?_
  refine g_iconst o ic_0 dX2_outputAt_2 ?_
  refine g_aload_n o 0 rfl rfl dX2_outputAt_3 ?_
  refine M_get11 o m_930 dX2_outputAt_4 ?_
  refine g_iconst o ic_1 dX2_outputAt_7 ?_
  refine g_isub o dX2_outputAt_8 ?_
  obtain ⟨r1, hr1, hf⟩ := bd_some hf
  refine k_X2_isBetween_ o hr1 m_992 (Nat.le_of_ble_eq_true rfl) (Nat.le_of_ble_eq_true rfl) ⟨(Nat.le_of_ble_eq_true rfl), (Nat.le_of_ble_eq_true rfl)⟩ dX2_outputAt_9 ?_
  refine g_if_eq (tgt := 19) o rfl dX2_outputAt_12 hf (fun hc hf => ?_) (fun hc hf => ?_)
  · refine g_iconst o ic_1 dX2_outputAt_19 ?_
    refine M_put0 o m_919 dX2_outputAt_20 ?_
    refine g_aload_n o 0 rfl rfl dX2_outputAt_23 ?_
    refine M_get0 o m_919 dX2_outputAt_24 ?_
    refine g_if_le (tgt := 34) o rfl dX2_outputAt_27 hf (fun hc hf => ?_) (fun hc hf => ?_)
    · refine g_aload_n o 0 rfl rfl dX2_outputAt_34 ?_
      refine M_get9 o m_928 dX2_outputAt_35 ?_
      refine g_iload_n o 1 rfl rfl dX2_outputAt_38 ?_
      refine M_ld9 o dX2_outputAt_39 hf (fun hf => ?_)
      obtain ⟨hb, hf⟩ := gd_some hf
      cases Option.some.inj hf
      exact g_iret hret (Nat.le_of_ble_eq_true rfl) (Nat.le_of_ble_eq_true rfl) (okC_n hb) dX2_outputAt_40
    · refine g_iconst o ic_0 dX2_outputAt_30 ?_
      refine g_goto (tgt := 40) o rfl dX2_outputAt_31 ?_
      obtain ⟨hb, hf⟩ := gd_some hf
      cases Option.some.inj hf
      exact g_iret hret (Nat.le_of_ble_eq_true rfl) (Nat.le_of_ble_eq_true rfl) (okC_n hb) dX2_outputAt_40
  · refine g_iconst o ic_0 dX2_outputAt_15 ?_
    refine g_goto (tgt := 20) o rfl dX2_outputAt_16 ?_
    refine M_put0 o m_919 dX2_outputAt_20 ?_
    refine g_aload_n o 0 rfl rfl dX2_outputAt_23 ?_
    refine M_get0 o m_919 dX2_outputAt_24 ?_
    refine g_if_le (tgt := 34) o rfl dX2_outputAt_27 hf (fun hc hf => ?_) (fun hc hf => ?_)
    · refine g_aload_n o 0 rfl rfl dX2_outputAt_34 ?_
      refine M_get9 o m_928 dX2_outputAt_35 ?_
      refine g_iload_n o 1 rfl rfl dX2_outputAt_38 ?_
      refine M_ld9 o dX2_outputAt_39 hf (fun hf => ?_)
      obtain ⟨hb, hf⟩ := gd_some hf
      cases Option.some.inj hf
      exact g_iret hret (Nat.le_of_ble_eq_true rfl) (Nat.le_of_ble_eq_true rfl) (okC_n hb) dX2_outputAt_40
    · refine g_iconst o ic_0 dX2_outputAt_30 ?_
      refine g_goto (tgt := 40) o rfl dX2_outputAt_31 ?_
      obtain ⟨hb, hf⟩ := gd_some hf
      cases Option.some.inj hf
      exact g_iret hret (Nat.le_of_ble_eq_true rfl) (Nat.le_of_ble_eq_true rfl) (okC_n hb) dX2_outputAt_40
theorem c_X2_outputAt (l : Launch) (hst : l.stackTraces = false) (a : Nat → Nat) (u : St) (p0 : Int32) (t : Int32 × St) (hf : f_X2_outputAt u p0 = some t) : CoI l yX2_outputAt (.code yX2_outputAt cX2_outputAt 2 (some .char)) 1 0 0 [.ref (a 0), .int p0] (wM a u) (wM a t.2) (.inl t.1) := mkI hst (by decide +kernel) (Nat.le_of_ble_eq_true rfl) (fun x _ o hI hX => b_X2_outputAt o a u p0 t hf (hI _ rfl))
def rt_X2_isSlot (x : Cx) (t : Int32) : Prop := RetI x cX2_isSlot .boolean 0 0 (w0 (cxT x)) t
set_option maxRecDepth 20000 in
set_option maxHeartbeats 2000000 in
theorem b_X2_isSlot {x : Cx} (o : Ok x cX2_isSlot 1 RX2 0 0 0) (p0 : Int32) (t : Int32) (hf : f_X2_isSlot p0 = some t) (hret : rt_X2_isSlot x  t) : G x 1 0 0 (w0 (cxT x)) [(0, .int p0)] 0 [] := by
  unfold f_X2_isSlot at hf
  refine g_iload_n o 0 rfl rfl dX2_isSlot_0 ?_
  refine g_if_lt (tgt := 13) o rfl dX2_isSlot_1 hf (fun hc hf => ?_) (fun hc hf => ?_)
  · refine g_iconst o ic_0 dX2_isSlot_13 ?_
    cases Option.some.inj hf
    exact g_iret hret (Nat.le_of_ble_eq_true rfl) (Nat.le_of_ble_eq_true rfl) nb_0 dX2_isSlot_14
  · refine g_iload_n o 0 rfl rfl dX2_isSlot_4 ?_
    refine g_iconst o ic_3 dX2_isSlot_5 ?_
    refine g_ic_ge (tgt := 13) o rfl dX2_isSlot_6 hf (fun hc hf => ?_) (fun hc hf => ?_)
    · refine g_iconst o ic_0 dX2_isSlot_13 ?_
      cases Option.some.inj hf
      exact g_iret hret (Nat.le_of_ble_eq_true rfl) (Nat.le_of_ble_eq_true rfl) nb_0 dX2_isSlot_14
    · refine g_iconst o ic_1 dX2_isSlot_9 ?_
      refine g_goto (tgt := 14) o rfl dX2_isSlot_10 ?_
      cases Option.some.inj hf
      exact g_iret hret (Nat.le_of_ble_eq_true rfl) (Nat.le_of_ble_eq_true rfl) nb_1 dX2_isSlot_14
theorem c_X2_isSlot (l : Launch) (hst : l.stackTraces = false) (p0 : Int32) (t : Int32) (hf : f_X2_isSlot p0 = some t) : CoI l yX2_isSlot (.code yX2_isSlot cX2_isSlot 1 (some .boolean)) 0 0 0 [.int p0] w0 w0 (.inl t) := mkI hst (by decide +kernel) (Nat.le_of_ble_eq_true rfl) (fun x _ o hI hX => b_X2_isSlot o p0 t hf (hI _ rfl))
theorem k_X2_isSlot_ {x : Cx} {cc : ByteArray} {nL : Nat} {own : String} {d mc ms k n : Nat} {lv : List (Nat × Value)} {pc i : Nat} {rest : List Value} {wd : va_W} {p0 : Int32} (o : Ok x cc nL own d mc ms) {t : Int32} (ht : f_X2_isSlot p0 = some t) (hlk : Cond.methodLink own i yX2_isSlot ∈ Ug) (hd : 0 < d) (hr : (rest.map fun v => v.category).sum ≤ 8) (hk : k + 0 ≤ mc ∧ n + 0 ≤ ms) (dg : decode cc pc = .ok (.invokestatic i, 3)) (kk : G x nL (k + 0) (n + 0) wd lv (pc + 3) (.int t :: rest)) : G x nL k n wd lv pc (.int p0 :: rest) := gcI (wd2 := wd) o (c_X2_isSlot (cxl x) o.2.2.2.2.2.2.2.2.2.1 p0 t ht) (can_S o hd (Nat.le_of_ble_eq_true rfl) m_1289 m_56 m_1288 hlk yk_X2_isSlot rfl hr hk dg) sp_none (fun E h => by cases h) (fun r h => by cases h; exact kk)
def rt_X2_storeFlags (x : Cx) (a : Nat → Nat) (t : Int32 × St) : Prop := RetI x cX2_storeFlags .int 0 0 (wM a t.2 (cxT x)) t.1
set_option maxRecDepth 20000 in
set_option maxHeartbeats 2000000 in
theorem b_X2_storeFlags_L55 {x : Cx} (o : Ok x cX2_storeFlags 7 RX2 1 0 0) {k n : Nat} (hk : k ≤ 0) (hn : n ≤ 0) (a : Nat → Nat) (c1 : Int32) (c2 : Int32) (c3 : Int32) (r : (Int32 × Int32 × St) ⊕ (Int32 × St)) (hX : ∀ s : Int32 × Int32 × St, r = .inl s → G x 7 k n (wM a s.2.2 (cxT x)) [(4, .int s.1)] 118 []) (hR : ∀ t, r = .inr t → rt_X2_storeFlags x a t) : ∀ (m : Nat) (s : Int32 × Int32 × St), loopN (f_X2_storeFlags_s55 c1 c2 c3) m s = some r → G x 7 k n (wM a s.2.2 (cxT x)) [(0, .ref (a 0)), (1, .int c1), (2, .int c2), (3, .int c3), (4, .int s.1), (5, .int s.2.1)] 55 [] := by
  refine loop_W _ (fun (s : Int32 × Int32 × St) => G x 7 k n (wM a s.2.2 (cxT x)) [(0, .ref (a 0)), (1, .int c1), (2, .int c2), (3, .int c3), (4, .int s.1), (5, .int s.2.1)] 55 []) r ?_
  intro s ww hf hw
  unfold f_X2_storeFlags_s55 at hf
  refine g_iload o 5 rfl dX2_storeFlags_55 ?_
  refine g_iload_n o 2 rfl rfl dX2_storeFlags_57 ?_
  refine g_ic_ge (tgt := 118) o rfl dX2_storeFlags_58 hf (fun hc hf => ?_) (fun hc hf => ?_)
  · exact g_perm [4] rfl (hX _ (lf_x hf hw))
  · refine g_aload_n o 0 rfl rfl dX2_storeFlags_61 ?_
    refine M_get2 o m_921 dX2_storeFlags_62 ?_
    refine g_iload_n o 3 rfl rfl dX2_storeFlags_65 ?_
    refine M_ld2 o dX2_storeFlags_66 hf (fun hf => ?_)
    refine g_iload o 5 rfl dX2_storeFlags_67 ?_
    refine g_ishr o dX2_storeFlags_69 ?_
    refine g_iconst o ic_1 dX2_storeFlags_70 ?_
    refine g_iand o dX2_storeFlags_71 ?_
    refine g_iconst o ic_1 dX2_storeFlags_72 ?_
    refine g_ic_ne (tgt := 80) o rfl dX2_storeFlags_73 hf (fun hc hf => ?_) (fun hc hf => ?_)
    · refine g_iconst o ic_0 dX2_storeFlags_80 ?_
      refine g_istore o [(6, .int 0), (0, .ref (a 0)), (1, .int c1), (2, .int c2), (3, .int c3), (4, .int s.1), (5, .int s.2.1)] (Nat.le_of_ble_eq_true rfl) rfl dX2_storeFlags_81 ?_
      refine g_aload_n o 1 rfl rfl dX2_storeFlags_83 ?_
      refine M_get15 o m_934 dX2_storeFlags_84 ?_
      refine g_bipush o bp_16 dX2_storeFlags_87 ?_
      refine g_iload_n o 2 rfl rfl dX2_storeFlags_89 ?_
      refine g_imul o dX2_storeFlags_90 ?_
      refine g_iload o 6 rfl dX2_storeFlags_91 ?_
      refine g_iadd o dX2_storeFlags_93 ?_
      refine g_iload o 0 rfl dX2_storeFlags_94 ?_
      refine M_st15 o dX2_storeFlags_96 hf (fun hf => ?_)
      refine g_iload o 5 rfl dX2_storeFlags_97 ?_
      refine g_iload o 0 rfl dX2_storeFlags_99 ?_
      refine g_if_eq (tgt := 108) o rfl dX2_storeFlags_101 hf (fun hc hf => ?_) (fun hc hf => ?_)
      · refine g_iconst o ic_0 dX2_storeFlags_108 ?_
        refine g_iadd o dX2_storeFlags_109 ?_
        refine g_nmi hf (fun x5 hf => ?_)
        refine g_istore o [(4, .int x5), (6, .int 0), (0, .ref (a 0)), (1, .int c1), (2, .int c2), (3, .int c3), (5, .int s.2.1)] (Nat.le_of_ble_eq_true rfl) rfl dX2_storeFlags_110 ?_
        refine g_iinc o [(5, .int (s.2.1 + 1)), (4, .int x5), (6, .int 0), (0, .ref (a 0)), (1, .int c1), (2, .int c2), (3, .int c3)] 6 rfl (inc_1 _) (Nat.le_of_ble_eq_true rfl) rfl dX2_storeFlags_112 ?_
        refine g_goto (tgt := 55) o rfl dX2_storeFlags_115 ?_
        have hp := lf_c hf hw
        exact g_perm [3, 4, 5, 6, 1, 0] rfl hp
      · refine g_iconst o ic_1 dX2_storeFlags_104 ?_
        refine g_goto (tgt := 109) o rfl dX2_storeFlags_105 ?_
        refine g_iadd o dX2_storeFlags_109 ?_
        refine g_nmi hf (fun x6 hf => ?_)
        refine g_istore o [(4, .int x6), (6, .int 0), (0, .ref (a 0)), (1, .int c1), (2, .int c2), (3, .int c3), (5, .int s.2.1)] (Nat.le_of_ble_eq_true rfl) rfl dX2_storeFlags_110 ?_
        refine g_iinc o [(5, .int (s.2.1 + 1)), (4, .int x6), (6, .int 0), (0, .ref (a 0)), (1, .int c1), (2, .int c2), (3, .int c3)] 6 rfl (inc_1 _) (Nat.le_of_ble_eq_true rfl) rfl dX2_storeFlags_112 ?_
        refine g_goto (tgt := 55) o rfl dX2_storeFlags_115 ?_
        have hp := lf_c hf hw
        exact g_perm [3, 4, 5, 6, 1, 0] rfl hp
    · refine g_iconst o ic_1 dX2_storeFlags_76 ?_
      refine g_goto (tgt := 81) o rfl dX2_storeFlags_77 ?_
      refine g_istore o [(6, .int 1), (0, .ref (a 0)), (1, .int c1), (2, .int c2), (3, .int c3), (4, .int s.1), (5, .int s.2.1)] (Nat.le_of_ble_eq_true rfl) rfl dX2_storeFlags_81 ?_
      refine g_aload_n o 1 rfl rfl dX2_storeFlags_83 ?_
      refine M_get15 o m_934 dX2_storeFlags_84 ?_
      refine g_bipush o bp_16 dX2_storeFlags_87 ?_
      refine g_iload_n o 2 rfl rfl dX2_storeFlags_89 ?_
      refine g_imul o dX2_storeFlags_90 ?_
      refine g_iload o 6 rfl dX2_storeFlags_91 ?_
      refine g_iadd o dX2_storeFlags_93 ?_
      refine g_iload o 0 rfl dX2_storeFlags_94 ?_
      refine M_st15 o dX2_storeFlags_96 hf (fun hf => ?_)
      refine g_iload o 5 rfl dX2_storeFlags_97 ?_
      refine g_iload o 0 rfl dX2_storeFlags_99 ?_
      refine g_if_eq (tgt := 108) o rfl dX2_storeFlags_101 hf (fun hc hf => ?_) (fun hc hf => ?_)
      · refine g_iconst o ic_0 dX2_storeFlags_108 ?_
        refine g_iadd o dX2_storeFlags_109 ?_
        refine g_nmi hf (fun x7 hf => ?_)
        refine g_istore o [(4, .int x7), (6, .int 1), (0, .ref (a 0)), (1, .int c1), (2, .int c2), (3, .int c3), (5, .int s.2.1)] (Nat.le_of_ble_eq_true rfl) rfl dX2_storeFlags_110 ?_
        refine g_iinc o [(5, .int (s.2.1 + 1)), (4, .int x7), (6, .int 1), (0, .ref (a 0)), (1, .int c1), (2, .int c2), (3, .int c3)] 6 rfl (inc_1 _) (Nat.le_of_ble_eq_true rfl) rfl dX2_storeFlags_112 ?_
        refine g_goto (tgt := 55) o rfl dX2_storeFlags_115 ?_
        have hp := lf_c hf hw
        exact g_perm [3, 4, 5, 6, 1, 0] rfl hp
      · refine g_iconst o ic_1 dX2_storeFlags_104 ?_
        refine g_goto (tgt := 109) o rfl dX2_storeFlags_105 ?_
        refine g_iadd o dX2_storeFlags_109 ?_
        refine g_nmi hf (fun x8 hf => ?_)
        refine g_istore o [(4, .int x8), (6, .int 1), (0, .ref (a 0)), (1, .int c1), (2, .int c2), (3, .int c3), (5, .int s.2.1)] (Nat.le_of_ble_eq_true rfl) rfl dX2_storeFlags_110 ?_
        refine g_iinc o [(5, .int (s.2.1 + 1)), (4, .int x8), (6, .int 1), (0, .ref (a 0)), (1, .int c1), (2, .int c2), (3, .int c3)] 6 rfl (inc_1 _) (Nat.le_of_ble_eq_true rfl) rfl dX2_storeFlags_112 ?_
        refine g_goto (tgt := 55) o rfl dX2_storeFlags_115 ?_
        have hp := lf_c hf hw
        exact g_perm [3, 4, 5, 6, 1, 0] rfl hp
set_option maxRecDepth 20000 in
set_option maxHeartbeats 2000000 in
theorem b_X2_storeFlags {x : Cx} (o : Ok x cX2_storeFlags 7 RX2 1 0 0) (a : Nat → Nat) (u : St) (p0 : Int32) (p1 : Int32) (p2 : Int32) (t : Int32 × St) (hf : f_X2_storeFlags u p0 p1 p2 = some t) (hret : rt_X2_storeFlags x a t) : G x 7 0 0 (wM a u (cxT x)) [(0, .ref (a 0)), (1, .int p0), (2, .int p1), (3, .int p2)] 0 [] := by
  unfold f_X2_storeFlags at hf
  refine g_iload_n o 1 rfl rfl dX2_storeFlags_0 ?_
  obtain ⟨r1, hr1, hf⟩ := bd_some hf
  refine k_X2_isSlot_ o hr1 m_1287 (Nat.le_of_ble_eq_true rfl) (Nat.le_of_ble_eq_true rfl) ⟨(Nat.le_of_ble_eq_true rfl), (Nat.le_of_ble_eq_true rfl)⟩ dX2_storeFlags_1 ?_
  refine g_if_eq (tgt := 15) o rfl dX2_storeFlags_4 hf (fun hc hf => ?_) (fun hc hf => ?_)
  · refine g_aload_n o 0 rfl rfl dX2_storeFlags_15 ?_
    refine g_iconst o ic_1 dX2_storeFlags_16 ?_
    obtain ⟨r2, hr2, hf⟩ := bd_some hf
    refine k_X2_fails_ o hr2 m_995 (Nat.le_of_ble_eq_true rfl) (Nat.le_of_ble_eq_true rfl) ⟨(Nat.le_of_ble_eq_true rfl), (Nat.le_of_ble_eq_true rfl)⟩ dX2_storeFlags_17 ?_
    cases Option.some.inj hf
    exact g_iret hret (Nat.le_of_ble_eq_true rfl) (Nat.le_of_ble_eq_true rfl) (vp_nar_int _) dX2_storeFlags_20
  · refine g_aload_n o 0 rfl rfl dX2_storeFlags_7 ?_
    refine g_iload_n o 3 rfl rfl dX2_storeFlags_8 ?_
    obtain ⟨r3, hr3, hf⟩ := bd_some hf
    refine k_X2_isRelation_ o hr3 m_1031 (Nat.le_of_ble_eq_true rfl) (Nat.le_of_ble_eq_true rfl) ⟨(Nat.le_of_ble_eq_true rfl), (Nat.le_of_ble_eq_true rfl)⟩ dX2_storeFlags_9 ?_
    refine g_if_ne (tgt := 21) o rfl dX2_storeFlags_12 hf (fun hc hf => ?_) (fun hc hf => ?_)
    · refine g_iload_n o 2 rfl rfl dX2_storeFlags_21 ?_
      refine g_iconst o ic_0 dX2_storeFlags_22 ?_
      refine g_bipush o bp_16 dX2_storeFlags_23 ?_
      obtain ⟨r4, hr4, hf⟩ := bd_some hf
      refine k_X2_isBetween_ o hr4 m_992 (Nat.le_of_ble_eq_true rfl) (Nat.le_of_ble_eq_true rfl) ⟨(Nat.le_of_ble_eq_true rfl), (Nat.le_of_ble_eq_true rfl)⟩ dX2_storeFlags_25 ?_
      refine g_if_ne (tgt := 37) o rfl dX2_storeFlags_28 hf (fun hc hf => ?_) (fun hc hf => ?_)
      · refine g_aload_n o 0 rfl rfl dX2_storeFlags_37 ?_
        refine g_iconst o ic_0 dX2_storeFlags_38 ?_
        refine M_put0 o m_919 dX2_storeFlags_39 ?_
        refine g_aload_n o 0 rfl rfl dX2_storeFlags_42 ?_
        refine M_get16 o m_935 dX2_storeFlags_43 ?_
        refine g_iload_n o 1 rfl rfl dX2_storeFlags_46 ?_
        refine g_iload_n o 2 rfl rfl dX2_storeFlags_47 ?_
        refine M_st16 o dX2_storeFlags_48 hf (fun hf => ?_)
        refine g_iconst o ic_0 dX2_storeFlags_49 ?_
        refine g_istore o [(4, .int 0), (0, .ref (a 0)), (1, .int p0), (2, .int p1), (3, .int p2)] (Nat.le_of_ble_eq_true rfl) rfl dX2_storeFlags_50 ?_
        refine g_iconst o ic_0 dX2_storeFlags_52 ?_
        refine g_istore o [(5, .int 0), (4, .int 0), (0, .ref (a 0)), (1, .int p0), (2, .int p1), (3, .int p2)] (Nat.le_of_ble_eq_true rfl) rfl dX2_storeFlags_53 ?_
        obtain ⟨r10, hr10, hxr10, hrr10⟩ := bl_some hf
        refine g_perm [2, 3, 4, 5, 1, 0] rfl (b_X2_storeFlags_L55 o (Nat.le_of_ble_eq_true rfl) (Nat.le_of_ble_eq_true rfl) a p0 p1 p2 r10 (fun s55 hs => ?_) (fun t9 ht => ?_) FU (0, 0, (ua (us u 0 0) 16 (upd ((us u 0 0) 16) p0.toNatClampNeg p1))) hr10)
        · have hf := hxr10 s55 hs
          refine g_iload o 0 rfl dX2_storeFlags_118 ?_
          cases Option.some.inj hf
          exact g_iret hret (Nat.le_of_ble_eq_true rfl) (Nat.le_of_ble_eq_true rfl) (vp_nar_int _) dX2_storeFlags_120
        · have hf := hrr10 t9 ht
          cases Option.some.inj hf
          exact hret
      · refine g_aload_n o 0 rfl rfl dX2_storeFlags_31 ?_
        refine g_iconst o ic_2 dX2_storeFlags_32 ?_
        obtain ⟨r11, hr11, hf⟩ := bd_some hf
        refine k_X2_fails_ o hr11 m_995 (Nat.le_of_ble_eq_true rfl) (Nat.le_of_ble_eq_true rfl) ⟨(Nat.le_of_ble_eq_true rfl), (Nat.le_of_ble_eq_true rfl)⟩ dX2_storeFlags_33 ?_
        cases Option.some.inj hf
        exact g_iret hret (Nat.le_of_ble_eq_true rfl) (Nat.le_of_ble_eq_true rfl) (vp_nar_int _) dX2_storeFlags_36
    · refine g_aload_n o 0 rfl rfl dX2_storeFlags_15 ?_
      refine g_iconst o ic_1 dX2_storeFlags_16 ?_
      obtain ⟨r12, hr12, hf⟩ := bd_some hf
      refine k_X2_fails_ o hr12 m_995 (Nat.le_of_ble_eq_true rfl) (Nat.le_of_ble_eq_true rfl) ⟨(Nat.le_of_ble_eq_true rfl), (Nat.le_of_ble_eq_true rfl)⟩ dX2_storeFlags_17 ?_
      cases Option.some.inj hf
      exact g_iret hret (Nat.le_of_ble_eq_true rfl) (Nat.le_of_ble_eq_true rfl) (vp_nar_int _) dX2_storeFlags_20
theorem c_X2_storeFlags (l : Launch) (hst : l.stackTraces = false) (a : Nat → Nat) (u : St) (p0 : Int32) (p1 : Int32) (p2 : Int32) (t : Int32 × St) (hf : f_X2_storeFlags u p0 p1 p2 = some t) : CoI l yX2_storeFlags (.code yX2_storeFlags cX2_storeFlags 7 (some .int)) 1 0 0 [.ref (a 0), .int p0, .int p1, .int p2] (wM a u) (wM a t.2) (.inl t.1) := mkI hst (by decide +kernel) (Nat.le_of_ble_eq_true rfl) (fun x _ o hI hX => b_X2_storeFlags o a u p0 p1 p2 t hf (hI _ rfl))
def rt_X2_setFlag (x : Cx) (a : Nat → Nat) (t : Int32 × St) : Prop := RetI x cX2_setFlag .boolean 0 0 (wM a t.2 (cxT x)) t.1
set_option maxRecDepth 20000 in
set_option maxHeartbeats 2000000 in
theorem b_X2_setFlag {x : Cx} (o : Ok x cX2_setFlag 5 RX2 1 0 0) (a : Nat → Nat) (u : St) (p0 : Int32) (p1 : Int32) (p2 : Int32) (t : Int32 × St) (hf : f_X2_setFlag u p0 p1 p2 = some t) (hret : rt_X2_setFlag x a t) : G x 5 0 0 (wM a u (cxT x)) [(0, .ref (a 0)), (1, .int p0), (2, .int p1), (3, .int p2)] 0 [] := by
  unfold f_X2_setFlag at hf
  refine g_iload_n o 1 rfl rfl dX2_setFlag_0 ?_
  obtain ⟨r1, hr1, hf⟩ := bd_some hf
  refine k_X2_isSlot_ o hr1 m_1287 (Nat.le_of_ble_eq_true rfl) (Nat.le_of_ble_eq_true rfl) ⟨(Nat.le_of_ble_eq_true rfl), (Nat.le_of_ble_eq_true rfl)⟩ dX2_setFlag_1 ?_
  refine g_if_ne (tgt := 13) o rfl dX2_setFlag_4 hf (fun hc hf => ?_) (fun hc hf => ?_)
  · refine g_aload_n o 0 rfl rfl dX2_setFlag_13 ?_
    refine M_get16 o m_935 dX2_setFlag_14 ?_
    refine g_iload_n o 1 rfl rfl dX2_setFlag_17 ?_
    refine M_ld16 o dX2_setFlag_18 hf (fun hf => ?_)
    refine g_if_ge (tgt := 28) o rfl dX2_setFlag_19 hf (fun hc hf => ?_) (fun hc hf => ?_)
    · refine g_iload_n o 2 rfl rfl dX2_setFlag_28 ?_
      refine g_iconst o ic_0 dX2_setFlag_29 ?_
      refine g_aload_n o 0 rfl rfl dX2_setFlag_30 ?_
      refine M_get16 o m_935 dX2_setFlag_31 ?_
      refine g_iload_n o 1 rfl rfl dX2_setFlag_34 ?_
      refine M_ld16 o dX2_setFlag_35 hf (fun hf => ?_)
      refine g_iconst o ic_1 dX2_setFlag_36 ?_
      refine g_isub o dX2_setFlag_37 ?_
      obtain ⟨r2, hr2, hf⟩ := bd_some hf
      refine k_X2_isBetween_ o hr2 m_992 (Nat.le_of_ble_eq_true rfl) (Nat.le_of_ble_eq_true rfl) ⟨(Nat.le_of_ble_eq_true rfl), (Nat.le_of_ble_eq_true rfl)⟩ dX2_setFlag_38 ?_
      refine g_if_ne (tgt := 50) o rfl dX2_setFlag_41 hf (fun hc hf => ?_) (fun hc hf => ?_)
      · refine g_aload_n o 0 rfl rfl dX2_setFlag_50 ?_
        refine g_iconst o ic_0 dX2_setFlag_51 ?_
        refine M_put0 o m_919 dX2_setFlag_52 ?_
        refine g_aload_n o 0 rfl rfl dX2_setFlag_55 ?_
        refine M_get15 o m_934 dX2_setFlag_56 ?_
        refine g_bipush o bp_16 dX2_setFlag_59 ?_
        refine g_iload_n o 1 rfl rfl dX2_setFlag_61 ?_
        refine g_imul o dX2_setFlag_62 ?_
        refine g_iload_n o 2 rfl rfl dX2_setFlag_63 ?_
        refine g_iadd o dX2_setFlag_64 ?_
        refine M_ld15 o dX2_setFlag_65 hf (fun hf => ?_)
        refine g_nmi hf (fun x3 hf => ?_)
        refine g_istore o [(4, .int x3), (0, .ref (a 0)), (1, .int p0), (2, .int p1), (3, .int p2)] (Nat.le_of_ble_eq_true rfl) rfl dX2_setFlag_66 ?_
        refine g_aload_n o 1 rfl rfl dX2_setFlag_68 ?_
        refine M_get15 o m_934 dX2_setFlag_69 ?_
        refine g_bipush o bp_16 dX2_setFlag_72 ?_
        refine g_iload_n o 2 rfl rfl dX2_setFlag_74 ?_
        refine g_imul o dX2_setFlag_75 ?_
        refine g_iload_n o 3 rfl rfl dX2_setFlag_76 ?_
        refine g_iadd o dX2_setFlag_77 ?_
        refine g_iload_n o 4 rfl rfl dX2_setFlag_78 ?_
        refine M_st15 o dX2_setFlag_79 hf (fun hf => ?_)
        refine g_iload o 0 rfl dX2_setFlag_80 ?_
        obtain ⟨hb, hf⟩ := gd_some hf
        cases Option.some.inj hf
        exact g_iret hret (Nat.le_of_ble_eq_true rfl) (Nat.le_of_ble_eq_true rfl) (okB_n hb) dX2_setFlag_82
      · refine g_aload_n o 0 rfl rfl dX2_setFlag_44 ?_
        refine g_iconst o ic_1 dX2_setFlag_45 ?_
        obtain ⟨r4, hr4, hf⟩ := bd_some hf
        refine k_X2_refuses_ o hr4 m_1093 (Nat.le_of_ble_eq_true rfl) (Nat.le_of_ble_eq_true rfl) ⟨(Nat.le_of_ble_eq_true rfl), (Nat.le_of_ble_eq_true rfl)⟩ dX2_setFlag_46 ?_
        obtain ⟨hb, hf⟩ := gd_some hf
        cases Option.some.inj hf
        exact g_iret hret (Nat.le_of_ble_eq_true rfl) (Nat.le_of_ble_eq_true rfl) (okB_n hb) dX2_setFlag_49
    · refine g_aload_n o 0 rfl rfl dX2_setFlag_22 ?_
      refine g_iconst o ic_2 dX2_setFlag_23 ?_
      obtain ⟨r5, hr5, hf⟩ := bd_some hf
      refine k_X2_refuses_ o hr5 m_1093 (Nat.le_of_ble_eq_true rfl) (Nat.le_of_ble_eq_true rfl) ⟨(Nat.le_of_ble_eq_true rfl), (Nat.le_of_ble_eq_true rfl)⟩ dX2_setFlag_24 ?_
      obtain ⟨hb, hf⟩ := gd_some hf
      cases Option.some.inj hf
      exact g_iret hret (Nat.le_of_ble_eq_true rfl) (Nat.le_of_ble_eq_true rfl) (okB_n hb) dX2_setFlag_27
  · refine g_aload_n o 0 rfl rfl dX2_setFlag_7 ?_
    refine g_iconst o ic_1 dX2_setFlag_8 ?_
    obtain ⟨r6, hr6, hf⟩ := bd_some hf
    refine k_X2_refuses_ o hr6 m_1093 (Nat.le_of_ble_eq_true rfl) (Nat.le_of_ble_eq_true rfl) ⟨(Nat.le_of_ble_eq_true rfl), (Nat.le_of_ble_eq_true rfl)⟩ dX2_setFlag_9 ?_
    obtain ⟨hb, hf⟩ := gd_some hf
    cases Option.some.inj hf
    exact g_iret hret (Nat.le_of_ble_eq_true rfl) (Nat.le_of_ble_eq_true rfl) (okB_n hb) dX2_setFlag_12
theorem c_X2_setFlag (l : Launch) (hst : l.stackTraces = false) (a : Nat → Nat) (u : St) (p0 : Int32) (p1 : Int32) (p2 : Int32) (t : Int32 × St) (hf : f_X2_setFlag u p0 p1 p2 = some t) : CoI l yX2_setFlag (.code yX2_setFlag cX2_setFlag 5 (some .boolean)) 1 0 0 [.ref (a 0), .int p0, .int p1, .int p2] (wM a u) (wM a t.2) (.inl t.1) := mkI hst (by decide +kernel) (Nat.le_of_ble_eq_true rfl) (fun x _ o hI hX => b_X2_setFlag o a u p0 p1 p2 t hf (hI _ rfl))
def rt_X2_takeFlags (x : Cx) (a : Nat → Nat) (t : Int32 × St) : Prop := RetI x cX2_takeFlags .int 0 0 (wM a t.2 (cxT x)) t.1
set_option maxRecDepth 20000 in
set_option maxHeartbeats 2000000 in
theorem b_X2_takeFlags_L46 {x : Cx} (o : Ok x cX2_takeFlags 5 RX2 1 0 0) {k n : Nat} (hk : k ≤ 0) (hn : n ≤ 0) (a : Nat → Nat) (u : St) (c1 : Int32) (c2 : Int32) (r : (Int32 × Int32) ⊕ (Int32 × St)) (hX : ∀ s : Int32 × Int32, r = .inl s → G x 5 k n (wM a u (cxT x)) [(0, .ref (a 0)), (2, .int c2), (3, .int s.1)] 102 []) (hR : ∀ t, r = .inr t → rt_X2_takeFlags x a t) : ∀ (m : Nat) (s : Int32 × Int32), loopN (f_X2_takeFlags_s46 u c1 c2) m s = some r → G x 5 k n (wM a u (cxT x)) [(0, .ref (a 0)), (1, .int c1), (2, .int c2), (3, .int s.1), (4, .int s.2)] 46 [] := by
  refine loop_W _ (fun (s : Int32 × Int32) => G x 5 k n (wM a u (cxT x)) [(0, .ref (a 0)), (1, .int c1), (2, .int c2), (3, .int s.1), (4, .int s.2)] 46 []) r ?_
  intro s ww hf hw
  unfold f_X2_takeFlags_s46 at hf
  refine g_iload o 4 rfl dX2_takeFlags_46 ?_
  refine g_aload_n o 0 rfl rfl dX2_takeFlags_48 ?_
  refine M_get16 o m_935 dX2_takeFlags_49 ?_
  refine g_iload_n o 1 rfl rfl dX2_takeFlags_52 ?_
  refine M_ld16 o dX2_takeFlags_53 hf (fun hf => ?_)
  refine g_ic_ge (tgt := 102) o rfl dX2_takeFlags_54 hf (fun hc hf => ?_) (fun hc hf => ?_)
  · exact g_perm [0, 2, 3] rfl (hX _ (lf_x hf hw))
  · refine g_iload o 4 rfl dX2_takeFlags_57 ?_
    refine g_iconst o ic_1 dX2_takeFlags_59 ?_
    refine g_aload_n o 0 rfl rfl dX2_takeFlags_60 ?_
    refine M_get1 o m_920 dX2_takeFlags_61 ?_
    refine g_iload_n o 2 rfl rfl dX2_takeFlags_64 ?_
    refine M_ld1 o dX2_takeFlags_65 hf (fun hf => ?_)
    refine g_ishl o dX2_takeFlags_66 ?_
    refine g_ic_ge (tgt := 102) o rfl dX2_takeFlags_67 hf (fun hc hf => ?_) (fun hc hf => ?_)
    · exact g_perm [0, 2, 3] rfl (hX _ (lf_x hf hw))
    · refine g_iload_n o 3 rfl rfl dX2_takeFlags_70 ?_
      refine g_aload_n o 0 rfl rfl dX2_takeFlags_71 ?_
      refine M_get15 o m_934 dX2_takeFlags_72 ?_
      refine g_bipush o bp_16 dX2_takeFlags_75 ?_
      refine g_iload_n o 1 rfl rfl dX2_takeFlags_77 ?_
      refine g_imul o dX2_takeFlags_78 ?_
      refine g_iload o 4 rfl dX2_takeFlags_79 ?_
      refine g_iadd o dX2_takeFlags_81 ?_
      refine M_ld15 o dX2_takeFlags_82 hf (fun hf => ?_)
      refine g_if_eq (tgt := 93) o rfl dX2_takeFlags_83 hf (fun hc hf => ?_) (fun hc hf => ?_)
      · refine g_iconst o ic_0 dX2_takeFlags_93 ?_
        refine g_ior o dX2_takeFlags_94 ?_
        refine g_nmi hf (fun x4 hf => ?_)
        refine g_istore_n o [(3, .int x4), (0, .ref (a 0)), (1, .int c1), (2, .int c2), (4, .int s.2)] (Nat.le_of_ble_eq_true rfl) rfl rfl dX2_takeFlags_95 ?_
        refine g_iinc o [(4, .int (s.2 + 1)), (3, .int x4), (0, .ref (a 0)), (1, .int c1), (2, .int c2)] 4 rfl (inc_1 _) (Nat.le_of_ble_eq_true rfl) rfl dX2_takeFlags_96 ?_
        refine g_goto (tgt := 46) o rfl dX2_takeFlags_99 ?_
        have hp := lf_c hf hw
        exact g_perm [2, 3, 4, 1, 0] rfl hp
      · refine g_iconst o ic_1 dX2_takeFlags_86 ?_
        refine g_iload o 4 rfl dX2_takeFlags_87 ?_
        refine g_ishl o dX2_takeFlags_89 ?_
        refine g_goto (tgt := 94) o rfl dX2_takeFlags_90 ?_
        refine g_ior o dX2_takeFlags_94 ?_
        refine g_nmi hf (fun x5 hf => ?_)
        refine g_istore_n o [(3, .int x5), (0, .ref (a 0)), (1, .int c1), (2, .int c2), (4, .int s.2)] (Nat.le_of_ble_eq_true rfl) rfl rfl dX2_takeFlags_95 ?_
        refine g_iinc o [(4, .int (s.2 + 1)), (3, .int x5), (0, .ref (a 0)), (1, .int c1), (2, .int c2)] 4 rfl (inc_1 _) (Nat.le_of_ble_eq_true rfl) rfl dX2_takeFlags_96 ?_
        refine g_goto (tgt := 46) o rfl dX2_takeFlags_99 ?_
        have hp := lf_c hf hw
        exact g_perm [2, 3, 4, 1, 0] rfl hp
set_option maxRecDepth 20000 in
set_option maxHeartbeats 2000000 in
theorem b_X2_takeFlags {x : Cx} (o : Ok x cX2_takeFlags 5 RX2 1 0 0) (a : Nat → Nat) (u : St) (p0 : Int32) (p1 : Int32) (t : Int32 × St) (hf : f_X2_takeFlags u p0 p1 = some t) (hret : rt_X2_takeFlags x a t) : G x 5 0 0 (wM a u (cxT x)) [(0, .ref (a 0)), (1, .int p0), (2, .int p1)] 0 [] := by
  unfold f_X2_takeFlags at hf
  refine g_iload_n o 1 rfl rfl dX2_takeFlags_0 ?_
  obtain ⟨r1, hr1, hf⟩ := bd_some hf
  refine k_X2_isSlot_ o hr1 m_1287 (Nat.le_of_ble_eq_true rfl) (Nat.le_of_ble_eq_true rfl) ⟨(Nat.le_of_ble_eq_true rfl), (Nat.le_of_ble_eq_true rfl)⟩ dX2_takeFlags_1 ?_
  refine g_if_eq (tgt := 15) o rfl dX2_takeFlags_4 hf (fun hc hf => ?_) (fun hc hf => ?_)
  · refine g_aload_n o 0 rfl rfl dX2_takeFlags_15 ?_
    refine g_iconst o ic_1 dX2_takeFlags_16 ?_
    obtain ⟨r2, hr2, hf⟩ := bd_some hf
    refine k_X2_fails_ o hr2 m_995 (Nat.le_of_ble_eq_true rfl) (Nat.le_of_ble_eq_true rfl) ⟨(Nat.le_of_ble_eq_true rfl), (Nat.le_of_ble_eq_true rfl)⟩ dX2_takeFlags_17 ?_
    cases Option.some.inj hf
    exact g_iret hret (Nat.le_of_ble_eq_true rfl) (Nat.le_of_ble_eq_true rfl) (vp_nar_int _) dX2_takeFlags_20
  · refine g_aload_n o 0 rfl rfl dX2_takeFlags_7 ?_
    refine g_iload_n o 2 rfl rfl dX2_takeFlags_8 ?_
    obtain ⟨r3, hr3, hf⟩ := bd_some hf
    refine k_X2_isRelation_ o hr3 m_1031 (Nat.le_of_ble_eq_true rfl) (Nat.le_of_ble_eq_true rfl) ⟨(Nat.le_of_ble_eq_true rfl), (Nat.le_of_ble_eq_true rfl)⟩ dX2_takeFlags_9 ?_
    refine g_if_ne (tgt := 21) o rfl dX2_takeFlags_12 hf (fun hc hf => ?_) (fun hc hf => ?_)
    · refine g_aload_n o 0 rfl rfl dX2_takeFlags_21 ?_
      refine M_get16 o m_935 dX2_takeFlags_22 ?_
      refine g_iload_n o 1 rfl rfl dX2_takeFlags_25 ?_
      refine M_ld16 o dX2_takeFlags_26 hf (fun hf => ?_)
      refine g_if_ge (tgt := 36) o rfl dX2_takeFlags_27 hf (fun hc hf => ?_) (fun hc hf => ?_)
      · refine g_aload_n o 0 rfl rfl dX2_takeFlags_36 ?_
        refine g_iconst o ic_0 dX2_takeFlags_37 ?_
        refine M_put0 o m_919 dX2_takeFlags_38 ?_
        refine g_iconst o ic_0 dX2_takeFlags_41 ?_
        refine g_istore_n o [(3, .int 0), (0, .ref (a 0)), (1, .int p0), (2, .int p1)] (Nat.le_of_ble_eq_true rfl) rfl rfl dX2_takeFlags_42 ?_
        refine g_iconst o ic_0 dX2_takeFlags_43 ?_
        refine g_istore o [(4, .int 0), (3, .int 0), (0, .ref (a 0)), (1, .int p0), (2, .int p1)] (Nat.le_of_ble_eq_true rfl) rfl dX2_takeFlags_44 ?_
        obtain ⟨r7, hr7, hxr7, hrr7⟩ := bl_some hf
        refine g_perm [2, 3, 4, 1, 0] rfl (b_X2_takeFlags_L46 o (Nat.le_of_ble_eq_true rfl) (Nat.le_of_ble_eq_true rfl) a (us u 0 0) p0 p1 r7 (fun s46 hs => ?_) (fun t6 ht => ?_) FU (0, 0) hr7)
        · have hf := hxr7 s46 hs
          refine g_aload_n o 0 rfl rfl dX2_takeFlags_102 ?_
          refine M_get2 o m_921 dX2_takeFlags_103 ?_
          refine g_iload_n o 1 rfl rfl dX2_takeFlags_106 ?_
          refine g_iload_n o 2 rfl rfl dX2_takeFlags_107 ?_
          refine M_st2 o dX2_takeFlags_108 hf (fun hf => ?_)
          refine g_iload_n o 2 rfl rfl dX2_takeFlags_109 ?_
          obtain ⟨r8, hr8, hf⟩ := bd_some hf
          refine k_X2_bits_ o hr8 m_1020 (Nat.le_of_ble_eq_true rfl) (Nat.le_of_ble_eq_true rfl) ⟨(Nat.le_of_ble_eq_true rfl), (Nat.le_of_ble_eq_true rfl)⟩ dX2_takeFlags_110 ?_
          cases Option.some.inj hf
          exact g_iret hret (Nat.le_of_ble_eq_true rfl) (Nat.le_of_ble_eq_true rfl) (vp_nar_int _) dX2_takeFlags_113
        · have hf := hrr7 t6 ht
          cases Option.some.inj hf
          exact hret
      · refine g_aload_n o 0 rfl rfl dX2_takeFlags_30 ?_
        refine g_iconst o ic_2 dX2_takeFlags_31 ?_
        obtain ⟨r9, hr9, hf⟩ := bd_some hf
        refine k_X2_fails_ o hr9 m_995 (Nat.le_of_ble_eq_true rfl) (Nat.le_of_ble_eq_true rfl) ⟨(Nat.le_of_ble_eq_true rfl), (Nat.le_of_ble_eq_true rfl)⟩ dX2_takeFlags_32 ?_
        cases Option.some.inj hf
        exact g_iret hret (Nat.le_of_ble_eq_true rfl) (Nat.le_of_ble_eq_true rfl) (vp_nar_int _) dX2_takeFlags_35
    · refine g_aload_n o 0 rfl rfl dX2_takeFlags_15 ?_
      refine g_iconst o ic_1 dX2_takeFlags_16 ?_
      obtain ⟨r10, hr10, hf⟩ := bd_some hf
      refine k_X2_fails_ o hr10 m_995 (Nat.le_of_ble_eq_true rfl) (Nat.le_of_ble_eq_true rfl) ⟨(Nat.le_of_ble_eq_true rfl), (Nat.le_of_ble_eq_true rfl)⟩ dX2_takeFlags_17 ?_
      cases Option.some.inj hf
      exact g_iret hret (Nat.le_of_ble_eq_true rfl) (Nat.le_of_ble_eq_true rfl) (vp_nar_int _) dX2_takeFlags_20
theorem c_X2_takeFlags (l : Launch) (hst : l.stackTraces = false) (a : Nat → Nat) (u : St) (p0 : Int32) (p1 : Int32) (t : Int32 × St) (hf : f_X2_takeFlags u p0 p1 = some t) : CoI l yX2_takeFlags (.code yX2_takeFlags cX2_takeFlags 5 (some .int)) 1 0 0 [.ref (a 0), .int p0, .int p1] (wM a u) (wM a t.2) (.inl t.1) := mkI hst (by decide +kernel) (Nat.le_of_ble_eq_true rfl) (fun x _ o hI hX => b_X2_takeFlags o a u p0 p1 t hf (hI _ rfl))
def rt_X2_passes (x : Cx) (a : Nat → Nat) (t : Int32 × St) : Prop := RetI x cX2_passes .int 0 0 (wM a t.2 (cxT x)) t.1
set_option maxRecDepth 20000 in
set_option maxHeartbeats 2000000 in
theorem b_X2_passes {x : Cx} (o : Ok x cX2_passes 3 RX2 0 0 0) (a : Nat → Nat) (u : St) (p0 : Int32) (t : Int32 × St) (hf : f_X2_passes u p0 = some t) (hret : rt_X2_passes x a t) : G x 3 0 0 (wM a u (cxT x)) [(0, .ref (a 0)), (1, .int p0)] 0 [] := by
  unfold f_X2_passes at hf
  refine g_aload_n o 0 rfl rfl dX2_passes_0 ?_
  refine M_get20 o m_939 dX2_passes_1 ?_
  refine g_if_eq (tgt := 11) o rfl dX2_passes_4 hf (fun hc hf => ?_) (fun hc hf => ?_)
  · refine g_aload_n o 0 rfl rfl dX2_passes_11 ?_
    refine M_get17 o m_936 dX2_passes_12 ?_
    refine g_aload_n o 0 rfl rfl dX2_passes_15 ?_
    refine M_get18 o m_937 dX2_passes_16 ?_
    refine M_ld17 o dX2_passes_19 hf (fun hf => ?_)
    refine g_nmi hf (fun x1 hf => ?_)
    refine g_istore_n o [(2, .int x1), (0, .ref (a 0)), (1, .int p0)] (Nat.le_of_ble_eq_true rfl) rfl rfl dX2_passes_20 ?_
    refine g_aload_n o 1 rfl rfl dX2_passes_21 ?_
    refine M_get17 o m_936 dX2_passes_22 ?_
    refine g_aload_n o 1 rfl rfl dX2_passes_25 ?_
    refine M_get18 o m_937 dX2_passes_26 ?_
    refine g_iload_n o 0 rfl rfl dX2_passes_29 ?_
    refine M_st17 o dX2_passes_30 hf (fun hf => ?_)
    refine g_aload_n o 1 rfl rfl dX2_passes_31 ?_
    refine g_dup o rfl dX2_passes_32 ?_
    refine M_get18 o m_937 dX2_passes_33 ?_
    refine g_iconst o ic_1 dX2_passes_36 ?_
    refine g_iadd o dX2_passes_37 ?_
    refine M_put18 o m_937 dX2_passes_38 ?_
    refine g_iload_n o 0 rfl rfl dX2_passes_41 ?_
    cases Option.some.inj hf
    exact g_iret hret (Nat.le_of_ble_eq_true rfl) (Nat.le_of_ble_eq_true rfl) (vp_nar_int _) dX2_passes_42
  · refine g_iload_n o 1 rfl rfl dX2_passes_7 ?_
    refine g_goto (tgt := 20) o rfl dX2_passes_8 ?_
    refine g_istore_n o [(2, .int p0), (0, .ref (a 0)), (1, .int p0)] (Nat.le_of_ble_eq_true rfl) rfl rfl dX2_passes_20 ?_
    refine g_aload_n o 1 rfl rfl dX2_passes_21 ?_
    refine M_get17 o m_936 dX2_passes_22 ?_
    refine g_aload_n o 1 rfl rfl dX2_passes_25 ?_
    refine M_get18 o m_937 dX2_passes_26 ?_
    refine g_iload_n o 0 rfl rfl dX2_passes_29 ?_
    refine M_st17 o dX2_passes_30 hf (fun hf => ?_)
    refine g_aload_n o 1 rfl rfl dX2_passes_31 ?_
    refine g_dup o rfl dX2_passes_32 ?_
    refine M_get18 o m_937 dX2_passes_33 ?_
    refine g_iconst o ic_1 dX2_passes_36 ?_
    refine g_iadd o dX2_passes_37 ?_
    refine M_put18 o m_937 dX2_passes_38 ?_
    refine g_iload_n o 0 rfl rfl dX2_passes_41 ?_
    cases Option.some.inj hf
    exact g_iret hret (Nat.le_of_ble_eq_true rfl) (Nat.le_of_ble_eq_true rfl) (vp_nar_int _) dX2_passes_42
theorem c_X2_passes (l : Launch) (hst : l.stackTraces = false) (a : Nat → Nat) (u : St) (p0 : Int32) (t : Int32 × St) (hf : f_X2_passes u p0 = some t) : CoI l yX2_passes (.code yX2_passes cX2_passes 3 (some .int)) 0 0 0 [.ref (a 0), .int p0] (wM a u) (wM a t.2) (.inl t.1) := mkI hst (by decide +kernel) (Nat.le_of_ble_eq_true rfl) (fun x _ o hI hX => b_X2_passes o a u p0 t hf (hI _ rfl))
theorem k_X2_passes_ {x : Cx} {cc : ByteArray} {nL : Nat} {own : String} {d mc ms k n : Nat} {lv : List (Nat × Value)} {pc i : Nat} {rest : List Value} {a : Nat → Nat} {u : St} {p0 : Int32} (o : Ok x cc nL own d mc ms) {t : Int32 × St} (ht : f_X2_passes u p0 = some t) (hlk : Cond.methodLink own i yX2_passes ∈ Ug) (hd : 0 < d) (hr : (rest.map fun v => v.category).sum ≤ 8) (hk : k + 0 ≤ mc ∧ n + 0 ≤ ms) (dg : decode cc pc = .ok (.invokevirtual i, 3)) (kk : G x nL (k + 0) (n + 0) (wM a t.2 (cxT x)) lv (pc + 3) (.int t.1 :: rest)) : G x nL k n (wM a u (cxT x)) lv pc (.int p0 :: .ref (a 0) :: rest) := gcI (wd2 := (wM a t.2 (cxT x))) o (c_X2_passes (cxl x) o.2.2.2.2.2.2.2.2.2.1 a u p0 t ht) (can_V (q0 := 0) o rfl rfl hd (Nat.le_of_ble_eq_true rfl) m_1309 m_56 m_1308 m_51 hlk yk_X2_passes rfl hr hk dg) sp_M (fun E h => by cases h) (fun r h => by cases h; exact kk)
def rt_X2_passAll_1 (x : Cx) (a : Nat → Nat) (t : St) : Prop := RetV x cX2_passAll 0 0 (wM a t (cxT x))
set_option maxRecDepth 20000 in
set_option maxHeartbeats 2000000 in
theorem b_X2_passAll_1_L2 {x : Cx} (o : Ok x cX2_passAll 3 RX2 1 0 0) {k n : Nat} (hk : k ≤ 0) (hn : n ≤ 0) (a : Nat → Nat) (r : (Int32 × St) ⊕ (St)) (hX : ∀ s : Int32 × St, r = .inl s → G x 3 k n (wM a s.2 (cxT x)) [] 24 []) (hR : ∀ t, r = .inr t → rt_X2_passAll_1 x a t) : ∀ (m : Nat) (s : Int32 × St), loopN f_X2_passAll_1_s2 m s = some r → G x 3 k n (wM a s.2 (cxT x)) [(0, .ref (a 0)), (1, .ref (a 1)), (2, .int s.1)] 2 [] := by
  refine loop_W _ (fun (s : Int32 × St) => G x 3 k n (wM a s.2 (cxT x)) [(0, .ref (a 0)), (1, .ref (a 1)), (2, .int s.1)] 2 []) r ?_
  intro s ww hf hw
  unfold f_X2_passAll_1_s2 at hf
  refine g_iload_n o 2 rfl rfl dX2_passAll_2 ?_
  refine g_aload_n o 1 rfl rfl dX2_passAll_3 ?_
  refine M_len1 o dX2_passAll_4 ?_
  refine g_ic_ge (tgt := 24) o rfl dX2_passAll_5 hf (fun hc hf => ?_) (fun hc hf => ?_)
  · exact g_perm [] rfl (hX _ (lf_x hf hw))
  · refine g_aload_n o 1 rfl rfl dX2_passAll_8 ?_
    refine g_iload_n o 2 rfl rfl dX2_passAll_9 ?_
    refine g_aload_n o 0 rfl rfl dX2_passAll_10 ?_
    refine g_aload_n o 1 rfl rfl dX2_passAll_11 ?_
    refine g_iload_n o 2 rfl rfl dX2_passAll_12 ?_
    refine M_ld1 o dX2_passAll_13 hf (fun hf => ?_)
    obtain ⟨r1, hr1, hf⟩ := bd_some hf
    refine k_X2_passes_ o hr1 m_1306 (Nat.le_of_ble_eq_true rfl) (Nat.le_of_ble_eq_true rfl) ⟨hk, hn⟩ dX2_passAll_14 ?_
    refine M_st1 o dX2_passAll_17 hf (fun hf => ?_)
    refine g_iinc o [(2, .int (s.1 + 1)), (0, .ref (a 0)), (1, .ref (a 1))] 2 rfl (inc_1 _) (Nat.le_of_ble_eq_true rfl) rfl dX2_passAll_18 ?_
    refine g_goto (tgt := 2) o rfl dX2_passAll_21 ?_
    have hp := lf_c hf hw
    exact g_perm [1, 2, 0] rfl hp
set_option maxRecDepth 20000 in
set_option maxHeartbeats 2000000 in
theorem b_X2_passAll_1 {x : Cx} (o : Ok x cX2_passAll 3 RX2 1 0 0) (a : Nat → Nat) (u : St) (t : St) (hf : f_X2_passAll_1 u = some t) (hret : rt_X2_passAll_1 x a t) : G x 3 0 0 (wM a u (cxT x)) [(0, .ref (a 0)), (1, .ref (a 1))] 0 [] := by
  unfold f_X2_passAll_1 at hf
  refine g_iconst o ic_0 dX2_passAll_0 ?_
  refine g_istore_n o [(2, .int 0), (0, .ref (a 0)), (1, .ref (a 1))] (Nat.le_of_ble_eq_true rfl) rfl rfl dX2_passAll_1 ?_
  obtain ⟨r3, hr3, hxr3, hrr3⟩ := bl_some hf
  refine g_perm [1, 2, 0] rfl (b_X2_passAll_1_L2 o (Nat.le_of_ble_eq_true rfl) (Nat.le_of_ble_eq_true rfl) a  r3 (fun s2 hs => ?_) (fun t2 ht => ?_) FU (0, u) hr3)
  · have hf := hxr3 s2 hs
    cases Option.some.inj hf
    exact g_vret hret (Nat.le_of_ble_eq_true rfl) (Nat.le_of_ble_eq_true rfl) dX2_passAll_24
  · have hf := hrr3 t2 ht
    cases Option.some.inj hf
    exact hret
theorem c_X2_passAll_1 (l : Launch) (hst : l.stackTraces = false) (a : Nat → Nat) (u : St) (t : St) (hf : f_X2_passAll_1 u = some t) : CoV l yX2_passAll (.code yX2_passAll cX2_passAll 3 none) 1 0 0 [.ref (a 0), .ref (a 1)] (wM a u) (wM a t) (.inl ()) := mkV hst (by decide +kernel) (Nat.le_of_ble_eq_true rfl) (fun x _ o hI hX => b_X2_passAll_1 o a u t hf (hI rfl))
theorem k_X2_passAll_1_ {x : Cx} {cc : ByteArray} {nL : Nat} {own : String} {d mc ms k n : Nat} {lv : List (Nat × Value)} {pc i : Nat} {rest : List Value} {a : Nat → Nat} {u : St} (o : Ok x cc nL own d mc ms) {t : St} (ht : f_X2_passAll_1 u = some t) (hlk : Cond.methodLink own i yX2_passAll ∈ Ug) (hd : 1 < d) (hr : (rest.map fun v => v.category).sum ≤ 8) (hk : k + 0 ≤ mc ∧ n + 0 ≤ ms) (dg : decode cc pc = .ok (.invokevirtual i, 3)) (kk : G x nL (k + 0) (n + 0) (wM a t (cxT x)) lv (pc + 3) rest) : G x nL k n (wM a u (cxT x)) lv pc (.ref (a 1) :: .ref (a 0) :: rest) := gcV (wd2 := (wM a t (cxT x))) o (c_X2_passAll_1 (cxl x) o.2.2.2.2.2.2.2.2.2.1 a u t ht) (can_V (q0 := 0) o rfl rfl hd (Nat.le_of_ble_eq_true rfl) m_1313 m_56 m_1312 m_52 hlk yk_X2_passAll rfl hr hk dg) sp_M (fun E h => by cases h) (fun h => kk)
def rt_X2_passAll_2 (x : Cx) (a : Nat → Nat) (t : St) : Prop := RetV x cX2_passAll 0 0 (wM a t (cxT x))
set_option maxRecDepth 20000 in
set_option maxHeartbeats 2000000 in
theorem b_X2_passAll_2_L2 {x : Cx} (o : Ok x cX2_passAll 3 RX2 1 0 0) {k n : Nat} (hk : k ≤ 0) (hn : n ≤ 0) (a : Nat → Nat) (r : (Int32 × St) ⊕ (St)) (hX : ∀ s : Int32 × St, r = .inl s → G x 3 k n (wM a s.2 (cxT x)) [] 24 []) (hR : ∀ t, r = .inr t → rt_X2_passAll_2 x a t) : ∀ (m : Nat) (s : Int32 × St), loopN f_X2_passAll_2_s2 m s = some r → G x 3 k n (wM a s.2 (cxT x)) [(0, .ref (a 0)), (1, .ref (a 2)), (2, .int s.1)] 2 [] := by
  refine loop_W _ (fun (s : Int32 × St) => G x 3 k n (wM a s.2 (cxT x)) [(0, .ref (a 0)), (1, .ref (a 2)), (2, .int s.1)] 2 []) r ?_
  intro s ww hf hw
  unfold f_X2_passAll_2_s2 at hf
  refine g_iload_n o 2 rfl rfl dX2_passAll_2 ?_
  refine g_aload_n o 1 rfl rfl dX2_passAll_3 ?_
  refine M_len2 o dX2_passAll_4 ?_
  refine g_ic_ge (tgt := 24) o rfl dX2_passAll_5 hf (fun hc hf => ?_) (fun hc hf => ?_)
  · exact g_perm [] rfl (hX _ (lf_x hf hw))
  · refine g_aload_n o 1 rfl rfl dX2_passAll_8 ?_
    refine g_iload_n o 2 rfl rfl dX2_passAll_9 ?_
    refine g_aload_n o 0 rfl rfl dX2_passAll_10 ?_
    refine g_aload_n o 1 rfl rfl dX2_passAll_11 ?_
    refine g_iload_n o 2 rfl rfl dX2_passAll_12 ?_
    refine M_ld2 o dX2_passAll_13 hf (fun hf => ?_)
    obtain ⟨r1, hr1, hf⟩ := bd_some hf
    refine k_X2_passes_ o hr1 m_1306 (Nat.le_of_ble_eq_true rfl) (Nat.le_of_ble_eq_true rfl) ⟨hk, hn⟩ dX2_passAll_14 ?_
    refine M_st2 o dX2_passAll_17 hf (fun hf => ?_)
    refine g_iinc o [(2, .int (s.1 + 1)), (0, .ref (a 0)), (1, .ref (a 2))] 2 rfl (inc_1 _) (Nat.le_of_ble_eq_true rfl) rfl dX2_passAll_18 ?_
    refine g_goto (tgt := 2) o rfl dX2_passAll_21 ?_
    have hp := lf_c hf hw
    exact g_perm [1, 2, 0] rfl hp
set_option maxRecDepth 20000 in
set_option maxHeartbeats 2000000 in
theorem b_X2_passAll_2 {x : Cx} (o : Ok x cX2_passAll 3 RX2 1 0 0) (a : Nat → Nat) (u : St) (t : St) (hf : f_X2_passAll_2 u = some t) (hret : rt_X2_passAll_2 x a t) : G x 3 0 0 (wM a u (cxT x)) [(0, .ref (a 0)), (1, .ref (a 2))] 0 [] := by
  unfold f_X2_passAll_2 at hf
  refine g_iconst o ic_0 dX2_passAll_0 ?_
  refine g_istore_n o [(2, .int 0), (0, .ref (a 0)), (1, .ref (a 2))] (Nat.le_of_ble_eq_true rfl) rfl rfl dX2_passAll_1 ?_
  obtain ⟨r3, hr3, hxr3, hrr3⟩ := bl_some hf
  refine g_perm [1, 2, 0] rfl (b_X2_passAll_2_L2 o (Nat.le_of_ble_eq_true rfl) (Nat.le_of_ble_eq_true rfl) a  r3 (fun s2 hs => ?_) (fun t2 ht => ?_) FU (0, u) hr3)
  · have hf := hxr3 s2 hs
    cases Option.some.inj hf
    exact g_vret hret (Nat.le_of_ble_eq_true rfl) (Nat.le_of_ble_eq_true rfl) dX2_passAll_24
  · have hf := hrr3 t2 ht
    cases Option.some.inj hf
    exact hret
theorem c_X2_passAll_2 (l : Launch) (hst : l.stackTraces = false) (a : Nat → Nat) (u : St) (t : St) (hf : f_X2_passAll_2 u = some t) : CoV l yX2_passAll (.code yX2_passAll cX2_passAll 3 none) 1 0 0 [.ref (a 0), .ref (a 2)] (wM a u) (wM a t) (.inl ()) := mkV hst (by decide +kernel) (Nat.le_of_ble_eq_true rfl) (fun x _ o hI hX => b_X2_passAll_2 o a u t hf (hI rfl))
theorem k_X2_passAll_2_ {x : Cx} {cc : ByteArray} {nL : Nat} {own : String} {d mc ms k n : Nat} {lv : List (Nat × Value)} {pc i : Nat} {rest : List Value} {a : Nat → Nat} {u : St} (o : Ok x cc nL own d mc ms) {t : St} (ht : f_X2_passAll_2 u = some t) (hlk : Cond.methodLink own i yX2_passAll ∈ Ug) (hd : 1 < d) (hr : (rest.map fun v => v.category).sum ≤ 8) (hk : k + 0 ≤ mc ∧ n + 0 ≤ ms) (dg : decode cc pc = .ok (.invokevirtual i, 3)) (kk : G x nL (k + 0) (n + 0) (wM a t (cxT x)) lv (pc + 3) rest) : G x nL k n (wM a u (cxT x)) lv pc (.ref (a 2) :: .ref (a 0) :: rest) := gcV (wd2 := (wM a t (cxT x))) o (c_X2_passAll_2 (cxl x) o.2.2.2.2.2.2.2.2.2.1 a u t ht) (can_V (q0 := 0) o rfl rfl hd (Nat.le_of_ble_eq_true rfl) m_1313 m_56 m_1312 m_52 hlk yk_X2_passAll rfl hr hk dg) sp_M (fun E h => by cases h) (fun h => kk)
def rt_X2_passAll_4 (x : Cx) (a : Nat → Nat) (t : St) : Prop := RetV x cX2_passAll 0 0 (wM a t (cxT x))
set_option maxRecDepth 20000 in
set_option maxHeartbeats 2000000 in
theorem b_X2_passAll_4_L2 {x : Cx} (o : Ok x cX2_passAll 3 RX2 1 0 0) {k n : Nat} (hk : k ≤ 0) (hn : n ≤ 0) (a : Nat → Nat) (r : (Int32 × St) ⊕ (St)) (hX : ∀ s : Int32 × St, r = .inl s → G x 3 k n (wM a s.2 (cxT x)) [] 24 []) (hR : ∀ t, r = .inr t → rt_X2_passAll_4 x a t) : ∀ (m : Nat) (s : Int32 × St), loopN f_X2_passAll_4_s2 m s = some r → G x 3 k n (wM a s.2 (cxT x)) [(0, .ref (a 0)), (1, .ref (a 4)), (2, .int s.1)] 2 [] := by
  refine loop_W _ (fun (s : Int32 × St) => G x 3 k n (wM a s.2 (cxT x)) [(0, .ref (a 0)), (1, .ref (a 4)), (2, .int s.1)] 2 []) r ?_
  intro s ww hf hw
  unfold f_X2_passAll_4_s2 at hf
  refine g_iload_n o 2 rfl rfl dX2_passAll_2 ?_
  refine g_aload_n o 1 rfl rfl dX2_passAll_3 ?_
  refine M_len4 o dX2_passAll_4 ?_
  refine g_ic_ge (tgt := 24) o rfl dX2_passAll_5 hf (fun hc hf => ?_) (fun hc hf => ?_)
  · exact g_perm [] rfl (hX _ (lf_x hf hw))
  · refine g_aload_n o 1 rfl rfl dX2_passAll_8 ?_
    refine g_iload_n o 2 rfl rfl dX2_passAll_9 ?_
    refine g_aload_n o 0 rfl rfl dX2_passAll_10 ?_
    refine g_aload_n o 1 rfl rfl dX2_passAll_11 ?_
    refine g_iload_n o 2 rfl rfl dX2_passAll_12 ?_
    refine M_ld4 o dX2_passAll_13 hf (fun hf => ?_)
    obtain ⟨r1, hr1, hf⟩ := bd_some hf
    refine k_X2_passes_ o hr1 m_1306 (Nat.le_of_ble_eq_true rfl) (Nat.le_of_ble_eq_true rfl) ⟨hk, hn⟩ dX2_passAll_14 ?_
    refine M_st4 o dX2_passAll_17 hf (fun hf => ?_)
    refine g_iinc o [(2, .int (s.1 + 1)), (0, .ref (a 0)), (1, .ref (a 4))] 2 rfl (inc_1 _) (Nat.le_of_ble_eq_true rfl) rfl dX2_passAll_18 ?_
    refine g_goto (tgt := 2) o rfl dX2_passAll_21 ?_
    have hp := lf_c hf hw
    exact g_perm [1, 2, 0] rfl hp
set_option maxRecDepth 20000 in
set_option maxHeartbeats 2000000 in
theorem b_X2_passAll_4 {x : Cx} (o : Ok x cX2_passAll 3 RX2 1 0 0) (a : Nat → Nat) (u : St) (t : St) (hf : f_X2_passAll_4 u = some t) (hret : rt_X2_passAll_4 x a t) : G x 3 0 0 (wM a u (cxT x)) [(0, .ref (a 0)), (1, .ref (a 4))] 0 [] := by
  unfold f_X2_passAll_4 at hf
  refine g_iconst o ic_0 dX2_passAll_0 ?_
  refine g_istore_n o [(2, .int 0), (0, .ref (a 0)), (1, .ref (a 4))] (Nat.le_of_ble_eq_true rfl) rfl rfl dX2_passAll_1 ?_
  obtain ⟨r3, hr3, hxr3, hrr3⟩ := bl_some hf
  refine g_perm [1, 2, 0] rfl (b_X2_passAll_4_L2 o (Nat.le_of_ble_eq_true rfl) (Nat.le_of_ble_eq_true rfl) a  r3 (fun s2 hs => ?_) (fun t2 ht => ?_) FU (0, u) hr3)
  · have hf := hxr3 s2 hs
    cases Option.some.inj hf
    exact g_vret hret (Nat.le_of_ble_eq_true rfl) (Nat.le_of_ble_eq_true rfl) dX2_passAll_24
  · have hf := hrr3 t2 ht
    cases Option.some.inj hf
    exact hret
theorem c_X2_passAll_4 (l : Launch) (hst : l.stackTraces = false) (a : Nat → Nat) (u : St) (t : St) (hf : f_X2_passAll_4 u = some t) : CoV l yX2_passAll (.code yX2_passAll cX2_passAll 3 none) 1 0 0 [.ref (a 0), .ref (a 4)] (wM a u) (wM a t) (.inl ()) := mkV hst (by decide +kernel) (Nat.le_of_ble_eq_true rfl) (fun x _ o hI hX => b_X2_passAll_4 o a u t hf (hI rfl))
theorem k_X2_passAll_4_ {x : Cx} {cc : ByteArray} {nL : Nat} {own : String} {d mc ms k n : Nat} {lv : List (Nat × Value)} {pc i : Nat} {rest : List Value} {a : Nat → Nat} {u : St} (o : Ok x cc nL own d mc ms) {t : St} (ht : f_X2_passAll_4 u = some t) (hlk : Cond.methodLink own i yX2_passAll ∈ Ug) (hd : 1 < d) (hr : (rest.map fun v => v.category).sum ≤ 8) (hk : k + 0 ≤ mc ∧ n + 0 ≤ ms) (dg : decode cc pc = .ok (.invokevirtual i, 3)) (kk : G x nL (k + 0) (n + 0) (wM a t (cxT x)) lv (pc + 3) rest) : G x nL k n (wM a u (cxT x)) lv pc (.ref (a 4) :: .ref (a 0) :: rest) := gcV (wd2 := (wM a t (cxT x))) o (c_X2_passAll_4 (cxl x) o.2.2.2.2.2.2.2.2.2.1 a u t ht) (can_V (q0 := 0) o rfl rfl hd (Nat.le_of_ble_eq_true rfl) m_1313 m_56 m_1312 m_52 hlk yk_X2_passAll rfl hr hk dg) sp_M (fun E h => by cases h) (fun h => kk)
def rt_X2_passAll_5 (x : Cx) (a : Nat → Nat) (t : St) : Prop := RetV x cX2_passAll 0 0 (wM a t (cxT x))
set_option maxRecDepth 20000 in
set_option maxHeartbeats 2000000 in
theorem b_X2_passAll_5_L2 {x : Cx} (o : Ok x cX2_passAll 3 RX2 1 0 0) {k n : Nat} (hk : k ≤ 0) (hn : n ≤ 0) (a : Nat → Nat) (r : (Int32 × St) ⊕ (St)) (hX : ∀ s : Int32 × St, r = .inl s → G x 3 k n (wM a s.2 (cxT x)) [] 24 []) (hR : ∀ t, r = .inr t → rt_X2_passAll_5 x a t) : ∀ (m : Nat) (s : Int32 × St), loopN f_X2_passAll_5_s2 m s = some r → G x 3 k n (wM a s.2 (cxT x)) [(0, .ref (a 0)), (1, .ref (a 5)), (2, .int s.1)] 2 [] := by
  refine loop_W _ (fun (s : Int32 × St) => G x 3 k n (wM a s.2 (cxT x)) [(0, .ref (a 0)), (1, .ref (a 5)), (2, .int s.1)] 2 []) r ?_
  intro s ww hf hw
  unfold f_X2_passAll_5_s2 at hf
  refine g_iload_n o 2 rfl rfl dX2_passAll_2 ?_
  refine g_aload_n o 1 rfl rfl dX2_passAll_3 ?_
  refine M_len5 o dX2_passAll_4 ?_
  refine g_ic_ge (tgt := 24) o rfl dX2_passAll_5 hf (fun hc hf => ?_) (fun hc hf => ?_)
  · exact g_perm [] rfl (hX _ (lf_x hf hw))
  · refine g_aload_n o 1 rfl rfl dX2_passAll_8 ?_
    refine g_iload_n o 2 rfl rfl dX2_passAll_9 ?_
    refine g_aload_n o 0 rfl rfl dX2_passAll_10 ?_
    refine g_aload_n o 1 rfl rfl dX2_passAll_11 ?_
    refine g_iload_n o 2 rfl rfl dX2_passAll_12 ?_
    refine M_ld5 o dX2_passAll_13 hf (fun hf => ?_)
    obtain ⟨r1, hr1, hf⟩ := bd_some hf
    refine k_X2_passes_ o hr1 m_1306 (Nat.le_of_ble_eq_true rfl) (Nat.le_of_ble_eq_true rfl) ⟨hk, hn⟩ dX2_passAll_14 ?_
    refine M_st5 o dX2_passAll_17 hf (fun hf => ?_)
    refine g_iinc o [(2, .int (s.1 + 1)), (0, .ref (a 0)), (1, .ref (a 5))] 2 rfl (inc_1 _) (Nat.le_of_ble_eq_true rfl) rfl dX2_passAll_18 ?_
    refine g_goto (tgt := 2) o rfl dX2_passAll_21 ?_
    have hp := lf_c hf hw
    exact g_perm [1, 2, 0] rfl hp
set_option maxRecDepth 20000 in
set_option maxHeartbeats 2000000 in
theorem b_X2_passAll_5 {x : Cx} (o : Ok x cX2_passAll 3 RX2 1 0 0) (a : Nat → Nat) (u : St) (t : St) (hf : f_X2_passAll_5 u = some t) (hret : rt_X2_passAll_5 x a t) : G x 3 0 0 (wM a u (cxT x)) [(0, .ref (a 0)), (1, .ref (a 5))] 0 [] := by
  unfold f_X2_passAll_5 at hf
  refine g_iconst o ic_0 dX2_passAll_0 ?_
  refine g_istore_n o [(2, .int 0), (0, .ref (a 0)), (1, .ref (a 5))] (Nat.le_of_ble_eq_true rfl) rfl rfl dX2_passAll_1 ?_
  obtain ⟨r3, hr3, hxr3, hrr3⟩ := bl_some hf
  refine g_perm [1, 2, 0] rfl (b_X2_passAll_5_L2 o (Nat.le_of_ble_eq_true rfl) (Nat.le_of_ble_eq_true rfl) a  r3 (fun s2 hs => ?_) (fun t2 ht => ?_) FU (0, u) hr3)
  · have hf := hxr3 s2 hs
    cases Option.some.inj hf
    exact g_vret hret (Nat.le_of_ble_eq_true rfl) (Nat.le_of_ble_eq_true rfl) dX2_passAll_24
  · have hf := hrr3 t2 ht
    cases Option.some.inj hf
    exact hret
theorem c_X2_passAll_5 (l : Launch) (hst : l.stackTraces = false) (a : Nat → Nat) (u : St) (t : St) (hf : f_X2_passAll_5 u = some t) : CoV l yX2_passAll (.code yX2_passAll cX2_passAll 3 none) 1 0 0 [.ref (a 0), .ref (a 5)] (wM a u) (wM a t) (.inl ()) := mkV hst (by decide +kernel) (Nat.le_of_ble_eq_true rfl) (fun x _ o hI hX => b_X2_passAll_5 o a u t hf (hI rfl))
theorem k_X2_passAll_5_ {x : Cx} {cc : ByteArray} {nL : Nat} {own : String} {d mc ms k n : Nat} {lv : List (Nat × Value)} {pc i : Nat} {rest : List Value} {a : Nat → Nat} {u : St} (o : Ok x cc nL own d mc ms) {t : St} (ht : f_X2_passAll_5 u = some t) (hlk : Cond.methodLink own i yX2_passAll ∈ Ug) (hd : 1 < d) (hr : (rest.map fun v => v.category).sum ≤ 8) (hk : k + 0 ≤ mc ∧ n + 0 ≤ ms) (dg : decode cc pc = .ok (.invokevirtual i, 3)) (kk : G x nL (k + 0) (n + 0) (wM a t (cxT x)) lv (pc + 3) rest) : G x nL k n (wM a u (cxT x)) lv pc (.ref (a 5) :: .ref (a 0) :: rest) := gcV (wd2 := (wM a t (cxT x))) o (c_X2_passAll_5 (cxl x) o.2.2.2.2.2.2.2.2.2.1 a u t ht) (can_V (q0 := 0) o rfl rfl hd (Nat.le_of_ble_eq_true rfl) m_1313 m_56 m_1312 m_52 hlk yk_X2_passAll rfl hr hk dg) sp_M (fun E h => by cases h) (fun h => kk)
def rt_X2_passState (x : Cx) (a : Nat → Nat) (t : Int32 × St) : Prop := RetI x cX2_passState .int 0 0 (wM a t.2 (cxT x)) t.1
set_option maxRecDepth 20000 in
set_option maxHeartbeats 2000000 in
theorem b_X2_passState {x : Cx} (o : Ok x cX2_passState 2 RX2 2 0 0) (a : Nat → Nat) (u : St) (p0 : Int32) (t : Int32 × St) (hf : f_X2_passState u p0 = some t) (hret : rt_X2_passState x a t) : G x 2 0 0 (wM a u (cxT x)) [(0, .ref (a 0)), (1, .int p0)] 0 [] := by
  unfold f_X2_passState at hf
  refine g_aload_n o 0 rfl rfl dX2_passState_0 ?_
  refine g_iconst o ic_0 dX2_passState_1 ?_
  refine M_put0 o m_919 dX2_passState_2 ?_
  refine g_aload_n o 0 rfl rfl dX2_passState_5 ?_
  refine g_iload_n o 1 rfl rfl dX2_passState_6 ?_
  obtain ⟨hb, hf⟩ := gd_some hf
  refine M_put20 o hb m_939 dX2_passState_7 ?_
  refine g_aload_n o 0 rfl rfl dX2_passState_10 ?_
  refine g_iconst o ic_0 dX2_passState_11 ?_
  refine M_put18 o m_937 dX2_passState_12 ?_
  refine g_aload_n o 0 rfl rfl dX2_passState_15 ?_
  refine g_aload_n o 0 rfl rfl dX2_passState_16 ?_
  refine g_aload_n o 0 rfl rfl dX2_passState_17 ?_
  refine M_get3 o m_922 dX2_passState_18 ?_
  obtain ⟨r1, hr1, hf⟩ := bd_some hf
  refine k_X2_passes_ o hr1 m_1306 (Nat.le_of_ble_eq_true rfl) (Nat.le_of_ble_eq_true rfl) ⟨(Nat.le_of_ble_eq_true rfl), (Nat.le_of_ble_eq_true rfl)⟩ dX2_passState_21 ?_
  refine M_put3 o m_922 dX2_passState_24 ?_
  refine g_aload_n o 0 rfl rfl dX2_passState_27 ?_
  refine g_aload_n o 0 rfl rfl dX2_passState_28 ?_
  refine g_aload_n o 0 rfl rfl dX2_passState_29 ?_
  refine M_get6 o m_925 dX2_passState_30 ?_
  obtain ⟨r2, hr2, hf⟩ := bd_some hf
  refine k_X2_passes_ o hr2 m_1306 (Nat.le_of_ble_eq_true rfl) (Nat.le_of_ble_eq_true rfl) ⟨(Nat.le_of_ble_eq_true rfl), (Nat.le_of_ble_eq_true rfl)⟩ dX2_passState_33 ?_
  refine M_put6 o m_925 dX2_passState_36 ?_
  refine g_aload_n o 0 rfl rfl dX2_passState_39 ?_
  refine g_aload_n o 0 rfl rfl dX2_passState_40 ?_
  refine g_aload_n o 0 rfl rfl dX2_passState_41 ?_
  refine M_get7 o m_926 dX2_passState_42 ?_
  obtain ⟨r3, hr3, hf⟩ := bd_some hf
  refine k_X2_passes_ o hr3 m_1306 (Nat.le_of_ble_eq_true rfl) (Nat.le_of_ble_eq_true rfl) ⟨(Nat.le_of_ble_eq_true rfl), (Nat.le_of_ble_eq_true rfl)⟩ dX2_passState_45 ?_
  refine M_put7 o m_926 dX2_passState_48 ?_
  refine g_aload_n o 0 rfl rfl dX2_passState_51 ?_
  refine g_aload_n o 0 rfl rfl dX2_passState_52 ?_
  refine M_get1 o m_920 dX2_passState_53 ?_
  obtain ⟨r4, hr4, hf⟩ := bd_some hf
  refine k_X2_passAll_1_ o hr4 m_1310 (Nat.le_of_ble_eq_true rfl) (Nat.le_of_ble_eq_true rfl) ⟨(Nat.le_of_ble_eq_true rfl), (Nat.le_of_ble_eq_true rfl)⟩ dX2_passState_56 ?_
  refine g_aload_n o 0 rfl rfl dX2_passState_59 ?_
  refine g_aload_n o 0 rfl rfl dX2_passState_60 ?_
  refine M_get2 o m_921 dX2_passState_61 ?_
  obtain ⟨r5, hr5, hf⟩ := bd_some hf
  refine k_X2_passAll_2_ o hr5 m_1310 (Nat.le_of_ble_eq_true rfl) (Nat.le_of_ble_eq_true rfl) ⟨(Nat.le_of_ble_eq_true rfl), (Nat.le_of_ble_eq_true rfl)⟩ dX2_passState_64 ?_
  refine g_aload_n o 0 rfl rfl dX2_passState_67 ?_
  refine g_aload_n o 0 rfl rfl dX2_passState_68 ?_
  refine M_get4 o m_923 dX2_passState_69 ?_
  obtain ⟨r6, hr6, hf⟩ := bd_some hf
  refine k_X2_passAll_4_ o hr6 m_1310 (Nat.le_of_ble_eq_true rfl) (Nat.le_of_ble_eq_true rfl) ⟨(Nat.le_of_ble_eq_true rfl), (Nat.le_of_ble_eq_true rfl)⟩ dX2_passState_72 ?_
  refine g_aload_n o 0 rfl rfl dX2_passState_75 ?_
  refine g_aload_n o 0 rfl rfl dX2_passState_76 ?_
  refine M_get5 o m_924 dX2_passState_77 ?_
  obtain ⟨r7, hr7, hf⟩ := bd_some hf
  refine k_X2_passAll_5_ o hr7 m_1310 (Nat.le_of_ble_eq_true rfl) (Nat.le_of_ble_eq_true rfl) ⟨(Nat.le_of_ble_eq_true rfl), (Nat.le_of_ble_eq_true rfl)⟩ dX2_passState_80 ?_
  refine g_aload_n o 0 rfl rfl dX2_passState_83 ?_
  refine M_get3 o m_922 dX2_passState_84 ?_
  cases Option.some.inj hf
  exact g_iret hret (Nat.le_of_ble_eq_true rfl) (Nat.le_of_ble_eq_true rfl) (vp_nar_int _) dX2_passState_87
theorem c_X2_passState (l : Launch) (hst : l.stackTraces = false) (a : Nat → Nat) (u : St) (p0 : Int32) (t : Int32 × St) (hf : f_X2_passState u p0 = some t) : CoI l yX2_passState (.code yX2_passState cX2_passState 2 (some .int)) 2 0 0 [.ref (a 0), .int p0] (wM a u) (wM a t.2) (.inl t.1) := mkI hst (by decide +kernel) (Nat.le_of_ble_eq_true rfl) (fun x _ o hI hX => b_X2_passState o a u p0 t hf (hI _ rfl))
theorem k_X2_passState_ {x : Cx} {cc : ByteArray} {nL : Nat} {own : String} {d mc ms k n : Nat} {lv : List (Nat × Value)} {pc i : Nat} {rest : List Value} {a : Nat → Nat} {u : St} {p0 : Int32} (o : Ok x cc nL own d mc ms) {t : Int32 × St} (ht : f_X2_passState u p0 = some t) (hlk : Cond.methodLink own i yX2_passState ∈ Ug) (hd : 2 < d) (hr : (rest.map fun v => v.category).sum ≤ 8) (hk : k + 0 ≤ mc ∧ n + 0 ≤ ms) (dg : decode cc pc = .ok (.invokevirtual i, 3)) (kk : G x nL (k + 0) (n + 0) (wM a t.2 (cxT x)) lv (pc + 3) (.int t.1 :: rest)) : G x nL k n (wM a u (cxT x)) lv pc (.int p0 :: .ref (a 0) :: rest) := gcI (wd2 := (wM a t.2 (cxT x))) o (c_X2_passState (cxl x) o.2.2.2.2.2.2.2.2.2.1 a u p0 t ht) (can_V (q0 := 0) o rfl rfl hd (Nat.le_of_ble_eq_true rfl) m_1305 m_56 m_1304 m_50 hlk yk_X2_passState rfl hr hk dg) sp_M (fun E h => by cases h) (fun r h => by cases h; exact kk)
def rt_X2_saveSnapshot (x : Cx) (a : Nat → Nat) (t : Int32 × St) : Prop := RetI x cX2_saveSnapshot .int 0 0 (wM a t.2 (cxT x)) t.1
set_option maxRecDepth 20000 in
set_option maxHeartbeats 2000000 in
theorem b_X2_saveSnapshot {x : Cx} (o : Ok x cX2_saveSnapshot 1 RX2 3 0 0) (a : Nat → Nat) (u : St) (t : Int32 × St) (hf : f_X2_saveSnapshot u = some t) (hret : rt_X2_saveSnapshot x a t) : G x 1 0 0 (wM a u (cxT x)) [(0, .ref (a 0))] 0 [] := by
  unfold f_X2_saveSnapshot at hf
  refine g_aload_n o 0 rfl rfl dX2_saveSnapshot_0 ?_
  refine g_iconst o ic_1 dX2_saveSnapshot_1 ?_
  refine M_put19 o ob_1 m_938 dX2_saveSnapshot_2 ?_
  refine g_aload_n o 0 rfl rfl dX2_saveSnapshot_5 ?_
  refine g_iconst o ic_1 dX2_saveSnapshot_6 ?_
  obtain ⟨r1, hr1, hf⟩ := bd_some hf
  refine k_X2_passState_ o hr1 m_1302 (Nat.le_of_ble_eq_true rfl) (Nat.le_of_ble_eq_true rfl) ⟨(Nat.le_of_ble_eq_true rfl), (Nat.le_of_ble_eq_true rfl)⟩ dX2_saveSnapshot_7 ?_
  cases Option.some.inj hf
  exact g_iret hret (Nat.le_of_ble_eq_true rfl) (Nat.le_of_ble_eq_true rfl) (vp_nar_int _) dX2_saveSnapshot_10
theorem c_X2_saveSnapshot (l : Launch) (hst : l.stackTraces = false) (a : Nat → Nat) (u : St) (t : Int32 × St) (hf : f_X2_saveSnapshot u = some t) : CoI l yX2_saveSnapshot (.code yX2_saveSnapshot cX2_saveSnapshot 1 (some .int)) 3 0 0 [.ref (a 0)] (wM a u) (wM a t.2) (.inl t.1) := mkI hst (by decide +kernel) (Nat.le_of_ble_eq_true rfl) (fun x _ o hI hX => b_X2_saveSnapshot o a u t hf (hI _ rfl))
def rt_X2_restoreSnapshot (x : Cx) (a : Nat → Nat) (t : Int32 × St) : Prop := RetI x cX2_restoreSnapshot .int 0 0 (wM a t.2 (cxT x)) t.1
set_option maxRecDepth 20000 in
set_option maxHeartbeats 2000000 in
theorem b_X2_restoreSnapshot {x : Cx} (o : Ok x cX2_restoreSnapshot 1 RX2 3 0 0) (a : Nat → Nat) (u : St) (t : Int32 × St) (hf : f_X2_restoreSnapshot u = some t) (hret : rt_X2_restoreSnapshot x a t) : G x 1 0 0 (wM a u (cxT x)) [(0, .ref (a 0))] 0 [] := by
  unfold f_X2_restoreSnapshot at hf
  refine g_aload_n o 0 rfl rfl dX2_restoreSnapshot_0 ?_
  refine M_get19 o m_938 dX2_restoreSnapshot_1 ?_
  refine g_if_eq (tgt := 15) o rfl dX2_restoreSnapshot_4 hf (fun hc hf => ?_) (fun hc hf => ?_)
  · refine g_aload_n o 0 rfl rfl dX2_restoreSnapshot_15 ?_
    refine g_iconst o ic_1 dX2_restoreSnapshot_16 ?_
    obtain ⟨r1, hr1, hf⟩ := bd_some hf
    refine k_X2_fails_ o hr1 m_995 (Nat.le_of_ble_eq_true rfl) (Nat.le_of_ble_eq_true rfl) ⟨(Nat.le_of_ble_eq_true rfl), (Nat.le_of_ble_eq_true rfl)⟩ dX2_restoreSnapshot_17 ?_
    cases Option.some.inj hf
    exact g_iret hret (Nat.le_of_ble_eq_true rfl) (Nat.le_of_ble_eq_true rfl) (vp_nar_int _) dX2_restoreSnapshot_20
  · refine g_aload_n o 0 rfl rfl dX2_restoreSnapshot_7 ?_
    refine g_iconst o ic_0 dX2_restoreSnapshot_8 ?_
    obtain ⟨r2, hr2, hf⟩ := bd_some hf
    refine k_X2_passState_ o hr2 m_1302 (Nat.le_of_ble_eq_true rfl) (Nat.le_of_ble_eq_true rfl) ⟨(Nat.le_of_ble_eq_true rfl), (Nat.le_of_ble_eq_true rfl)⟩ dX2_restoreSnapshot_9 ?_
    refine g_goto (tgt := 20) o rfl dX2_restoreSnapshot_12 ?_
    cases Option.some.inj hf
    exact g_iret hret (Nat.le_of_ble_eq_true rfl) (Nat.le_of_ble_eq_true rfl) (vp_nar_int _) dX2_restoreSnapshot_20
theorem c_X2_restoreSnapshot (l : Launch) (hst : l.stackTraces = false) (a : Nat → Nat) (u : St) (t : Int32 × St) (hf : f_X2_restoreSnapshot u = some t) : CoI l yX2_restoreSnapshot (.code yX2_restoreSnapshot cX2_restoreSnapshot 1 (some .int)) 3 0 0 [.ref (a 0)] (wM a u) (wM a t.2) (.inl t.1) := mkI hst (by decide +kernel) (Nat.le_of_ble_eq_true rfl) (fun x _ o hI hX => b_X2_restoreSnapshot o a u t hf (hI _ rfl))
