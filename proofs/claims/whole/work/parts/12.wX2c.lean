def rt_X2_firstViolated (x : Cx) (a : Nat → Nat) (t : Int32 × St) : Prop := RetI x cX2_firstViolated .int 0 0 (wM a t.2 (cxT x)) t.1
set_option maxRecDepth 20000 in
set_option maxHeartbeats 2000000 in
theorem b_X2_firstViolated_L27 {x : Cx} (o : Ok x cX2_firstViolated 3 RX2 1 0 0) {k n : Nat} (hk : k ≤ 0) (hn : n ≤ 0) (a : Nat → Nat) (u : St) (c1 : Int32) (r : (Int32) ⊕ (Int32 × St)) (hX : ∀ s : Int32, r = .inl s → G x 3 k n (wM a u (cxT x)) [(0, .ref (a 0))] 52 []) (hR : ∀ t, r = .inr t → rt_X2_firstViolated x a t) : ∀ (m : Nat) (s : Int32), loopN (f_X2_firstViolated_s27 u c1) m s = some r → G x 3 k n (wM a u (cxT x)) [(0, .ref (a 0)), (1, .int c1), (2, .int s)] 27 [] := by
  refine loop_W _ (fun (s : Int32) => G x 3 k n (wM a u (cxT x)) [(0, .ref (a 0)), (1, .int c1), (2, .int s)] 27 []) r ?_
  intro s ww hf hw
  unfold f_X2_firstViolated_s27 at hf
  refine g_iload_n o 2 rfl rfl dX2_firstViolated_27 ?_
  refine g_aload_n o 0 rfl rfl dX2_firstViolated_28 ?_
  refine M_get7 o m_926 dX2_firstViolated_29 ?_
  refine g_ic_ge (tgt := 52) o rfl dX2_firstViolated_32 hf (fun hc hf => ?_) (fun hc hf => ?_)
  · exact g_perm [0] rfl (hX _ (lf_x hf hw))
  · refine g_aload_n o 0 rfl rfl dX2_firstViolated_35 ?_
    refine g_iload_n o 2 rfl rfl dX2_firstViolated_36 ?_
    refine g_iload_n o 1 rfl rfl dX2_firstViolated_37 ?_
    obtain ⟨r3, hr3, hf⟩ := bd_some hf
    refine k_X2_isSatisfied_ o hr3 m_1203 (Nat.le_of_ble_eq_true rfl) (Nat.le_of_ble_eq_true rfl) ⟨hk, hn⟩ dX2_firstViolated_38 ?_
    refine g_if_ne (tgt := 46) o rfl dX2_firstViolated_41 hf (fun hc hf => ?_) (fun hc hf => ?_)
    · refine g_iinc o [(2, .int (s + 1)), (0, .ref (a 0)), (1, .int c1)] 2 rfl (inc_1 _) (Nat.le_of_ble_eq_true rfl) rfl dX2_firstViolated_46 ?_
      refine g_goto (tgt := 27) o rfl dX2_firstViolated_49 ?_
      have hp := lf_c hf hw
      exact g_perm [1, 2, 0] rfl hp
    · refine g_iload_n o 2 rfl rfl dX2_firstViolated_44 ?_
      exact g_iret (hR _ (lf_x hf hw)) hk hn (vp_nar_int _) dX2_firstViolated_45
set_option maxRecDepth 20000 in
set_option maxHeartbeats 2000000 in
theorem b_X2_firstViolated {x : Cx} (o : Ok x cX2_firstViolated 3 RX2 1 0 0) (a : Nat → Nat) (u : St) (p0 : Int32) (t : Int32 × St) (hf : f_X2_firstViolated u p0 = some t) (hret : rt_X2_firstViolated x a t) : G x 3 0 0 (wM a u (cxT x)) [(0, .ref (a 0)), (1, .int p0)] 0 [] := by
  unfold f_X2_firstViolated at hf
  refine g_iload_n o 1 rfl rfl dX2_firstViolated_0 ?_
  refine g_if_lt (tgt := 14) o rfl dX2_firstViolated_1 hf (fun hc hf => ?_) (fun hc hf => ?_)
  · refine g_aload_n o 0 rfl rfl dX2_firstViolated_14 ?_
    refine g_iconst o ic_1 dX2_firstViolated_15 ?_
    obtain ⟨r8, hr8, hf⟩ := bd_some hf
    refine k_X2_fails_ o hr8 m_995 (Nat.le_of_ble_eq_true rfl) (Nat.le_of_ble_eq_true rfl) ⟨(Nat.le_of_ble_eq_true rfl), (Nat.le_of_ble_eq_true rfl)⟩ dX2_firstViolated_16 ?_
    cases Option.some.inj hf
    exact g_iret hret (Nat.le_of_ble_eq_true rfl) (Nat.le_of_ble_eq_true rfl) (vp_nar_int _) dX2_firstViolated_19
  · refine g_iload_n o 1 rfl rfl dX2_firstViolated_4 ?_
    refine g_iconst o ic_1 dX2_firstViolated_5 ?_
    refine g_aload_n o 0 rfl rfl dX2_firstViolated_6 ?_
    refine M_get6 o m_925 dX2_firstViolated_7 ?_
    refine g_ishl o dX2_firstViolated_10 ?_
    refine g_ic_lt (tgt := 20) o rfl dX2_firstViolated_11 hf (fun hc hf => ?_) (fun hc hf => ?_)
    · refine g_aload_n o 0 rfl rfl dX2_firstViolated_20 ?_
      refine g_iconst o ic_0 dX2_firstViolated_21 ?_
      refine M_put0 o m_919 dX2_firstViolated_22 ?_
      refine g_iconst o ic_0 dX2_firstViolated_25 ?_
      refine g_istore_n o [(2, .int 0), (0, .ref (a 0)), (1, .int p0)] (Nat.le_of_ble_eq_true rfl) rfl rfl dX2_firstViolated_26 ?_
      obtain ⟨r10, hr10, hxr10, hrr10⟩ := bl_some hf
      refine g_perm [1, 2, 0] rfl (b_X2_firstViolated_L27 o (Nat.le_of_ble_eq_true rfl) (Nat.le_of_ble_eq_true rfl) a (us u 0 0) p0 r10 (fun s27 hs => ?_) (fun t9 ht => ?_) FU 0 hr10)
      · have hf := hxr10 s27 hs
        refine g_aload_n o 0 rfl rfl dX2_firstViolated_52 ?_
        refine g_iconst o ic_2 dX2_firstViolated_53 ?_
        obtain ⟨r11, hr11, hf⟩ := bd_some hf
        refine k_X2_fails_ o hr11 m_995 (Nat.le_of_ble_eq_true rfl) (Nat.le_of_ble_eq_true rfl) ⟨(Nat.le_of_ble_eq_true rfl), (Nat.le_of_ble_eq_true rfl)⟩ dX2_firstViolated_54 ?_
        cases Option.some.inj hf
        exact g_iret hret (Nat.le_of_ble_eq_true rfl) (Nat.le_of_ble_eq_true rfl) (vp_nar_int _) dX2_firstViolated_57
      · have hf := hrr10 t9 ht
        cases Option.some.inj hf
        exact hret
    · refine g_aload_n o 0 rfl rfl dX2_firstViolated_14 ?_
      refine g_iconst o ic_1 dX2_firstViolated_15 ?_
      obtain ⟨r12, hr12, hf⟩ := bd_some hf
      refine k_X2_fails_ o hr12 m_995 (Nat.le_of_ble_eq_true rfl) (Nat.le_of_ble_eq_true rfl) ⟨(Nat.le_of_ble_eq_true rfl), (Nat.le_of_ble_eq_true rfl)⟩ dX2_firstViolated_16 ?_
      cases Option.some.inj hf
      exact g_iret hret (Nat.le_of_ble_eq_true rfl) (Nat.le_of_ble_eq_true rfl) (vp_nar_int _) dX2_firstViolated_19
theorem c_X2_firstViolated (l : Launch) (hst : l.stackTraces = false) (a : Nat → Nat) (u : St) (p0 : Int32) (t : Int32 × St) (hf : f_X2_firstViolated u p0 = some t) : CoI l yX2_firstViolated (.code yX2_firstViolated cX2_firstViolated 3 (some .int)) 1 0 0 [.ref (a 0), .int p0] (wM a u) (wM a t.2) (.inl t.1) := mkI hst (by decide +kernel) (Nat.le_of_ble_eq_true rfl) (fun x _ o hI hX => b_X2_firstViolated o a u p0 t hf (hI _ rfl))
def rt_X2_isIdle (x : Cx) (a : Nat → Nat) (u : St) (t : Int32) : Prop := RetI x cX2_isIdle .boolean 0 0 (wM a u (cxT x)) t
set_option maxRecDepth 20000 in
set_option maxHeartbeats 2000000 in
theorem b_X2_isIdle_L2 {x : Cx} (o : Ok x cX2_isIdle 3 RX2 2 0 0) {k n : Nat} (hk : k ≤ 0) (hn : n ≤ 0) (a : Nat → Nat) (u : St) (c1 : Int32) (r : (Int32) ⊕ (Int32)) (hX : ∀ s : Int32, r = .inl s → G x 3 k n (wM a u (cxT x)) [] 38 []) (hR : ∀ t, r = .inr t → rt_X2_isIdle x a u t) : ∀ (m : Nat) (s : Int32), loopN (f_X2_isIdle_s2 u c1) m s = some r → G x 3 k n (wM a u (cxT x)) [(0, .ref (a 0)), (1, .int c1), (2, .int s)] 2 [] := by
  refine loop_W _ (fun (s : Int32) => G x 3 k n (wM a u (cxT x)) [(0, .ref (a 0)), (1, .int c1), (2, .int s)] 2 []) r ?_
  intro s ww hf hw
  unfold f_X2_isIdle_s2 at hf
  refine g_iload_n o 2 rfl rfl dX2_isIdle_2 ?_
  refine g_iconst o ic_1 dX2_isIdle_3 ?_
  refine g_aload_n o 0 rfl rfl dX2_isIdle_4 ?_
  refine M_get6 o m_925 dX2_isIdle_5 ?_
  refine g_ishl o dX2_isIdle_8 ?_
  refine g_ic_ge (tgt := 38) o rfl dX2_isIdle_9 hf (fun hc hf => ?_) (fun hc hf => ?_)
  · exact g_perm [] rfl (hX _ (lf_x hf hw))
  · refine g_aload_n o 0 rfl rfl dX2_isIdle_12 ?_
    refine g_iload_n o 1 rfl rfl dX2_isIdle_13 ?_
    refine g_iload_n o 2 rfl rfl dX2_isIdle_14 ?_
    obtain ⟨r3, hr3, hf⟩ := bd_some hf
    refine k_X2_isSatisfied_ o hr3 m_1203 (Nat.le_of_ble_eq_true rfl) (Nat.le_of_ble_eq_true rfl) ⟨hk, hn⟩ dX2_isIdle_15 ?_
    refine g_if_ne (tgt := 32) o rfl dX2_isIdle_18 hf (fun hc hf => ?_) (fun hc hf => ?_)
    · refine g_iinc o [(2, .int (s + 1)), (0, .ref (a 0)), (1, .int c1)] 2 rfl (inc_1 _) (Nat.le_of_ble_eq_true rfl) rfl dX2_isIdle_32 ?_
      refine g_goto (tgt := 2) o rfl dX2_isIdle_35 ?_
      have hp := lf_c hf hw
      exact g_perm [1, 2, 0] rfl hp
    · refine g_aload_n o 0 rfl rfl dX2_isIdle_21 ?_
      refine g_iload_n o 2 rfl rfl dX2_isIdle_22 ?_
      refine g_iload_n o 1 rfl rfl dX2_isIdle_23 ?_
      obtain ⟨r4, hr4, hf⟩ := bd_some hf
      refine k_X2_solves_ o hr4 m_1199 (Nat.le_of_ble_eq_true rfl) (Nat.le_of_ble_eq_true rfl) ⟨hk, hn⟩ dX2_isIdle_24 ?_
      refine g_if_eq (tgt := 32) o rfl dX2_isIdle_27 hf (fun hc hf => ?_) (fun hc hf => ?_)
      · refine g_iinc o [(2, .int (s + 1)), (0, .ref (a 0)), (1, .int c1)] 2 rfl (inc_1 _) (Nat.le_of_ble_eq_true rfl) rfl dX2_isIdle_32 ?_
        refine g_goto (tgt := 2) o rfl dX2_isIdle_35 ?_
        have hp := lf_c hf hw
        exact g_perm [1, 2, 0] rfl hp
      · refine g_iconst o ic_0 dX2_isIdle_30 ?_
        exact g_iret (hR _ (lf_x hf hw)) hk hn nb_0 dX2_isIdle_31
set_option maxRecDepth 20000 in
set_option maxHeartbeats 2000000 in
theorem b_X2_isIdle {x : Cx} (o : Ok x cX2_isIdle 3 RX2 2 0 0) (a : Nat → Nat) (u : St) (p0 : Int32) (t : Int32) (hf : f_X2_isIdle u p0 = some t) (hret : rt_X2_isIdle x a u t) : G x 3 0 0 (wM a u (cxT x)) [(0, .ref (a 0)), (1, .int p0)] 0 [] := by
  unfold f_X2_isIdle at hf
  refine g_iconst o ic_0 dX2_isIdle_0 ?_
  refine g_istore_n o [(2, .int 0), (0, .ref (a 0)), (1, .int p0)] (Nat.le_of_ble_eq_true rfl) rfl rfl dX2_isIdle_1 ?_
  obtain ⟨r8, hr8, hxr8, hrr8⟩ := bl_some hf
  refine g_perm [1, 2, 0] rfl (b_X2_isIdle_L2 o (Nat.le_of_ble_eq_true rfl) (Nat.le_of_ble_eq_true rfl) a u p0 r8 (fun s2 hs => ?_) (fun t7 ht => ?_) FU 0 hr8)
  · have hf := hxr8 s2 hs
    refine g_iconst o ic_1 dX2_isIdle_38 ?_
    cases Option.some.inj hf
    exact g_iret hret (Nat.le_of_ble_eq_true rfl) (Nat.le_of_ble_eq_true rfl) nb_1 dX2_isIdle_39
  · have hf := hrr8 t7 ht
    cases Option.some.inj hf
    exact hret
theorem c_X2_isIdle (l : Launch) (hst : l.stackTraces = false) (a : Nat → Nat) (u : St) (p0 : Int32) (t : Int32) (hf : f_X2_isIdle u p0 = some t) : CoI l yX2_isIdle (.code yX2_isIdle cX2_isIdle 3 (some .boolean)) 2 0 0 [.ref (a 0), .int p0] (wM a u) (wM a u) (.inl t) := mkI hst (by decide +kernel) (Nat.le_of_ble_eq_true rfl) (fun x _ o hI hX => b_X2_isIdle o a u p0 t hf (hI _ rfl))
theorem k_X2_isIdle_ {x : Cx} {cc : ByteArray} {nL : Nat} {own : String} {d mc ms k n : Nat} {lv : List (Nat × Value)} {pc i : Nat} {rest : List Value} {a : Nat → Nat} {u : St} {p0 : Int32} (o : Ok x cc nL own d mc ms) {t : Int32} (ht : f_X2_isIdle u p0 = some t) (hlk : Cond.methodLink own i yX2_isIdle ∈ Ug) (hd : 2 < d) (hr : (rest.map fun v => v.category).sum ≤ 8) (hk : k + 0 ≤ mc ∧ n + 0 ≤ ms) (dg : decode cc pc = .ok (.invokevirtual i, 3)) (kk : G x nL (k + 0) (n + 0) (wM a u (cxT x)) lv (pc + 3) (.int t :: rest)) : G x nL k n (wM a u (cxT x)) lv pc (.int p0 :: .ref (a 0) :: rest) := gcI (wd2 := (wM a u (cxT x))) o (c_X2_isIdle (cxl x) o.2.2.2.2.2.2.2.2.2.1 a u p0 t ht) (can_V (q0 := 0) o rfl rfl hd (Nat.le_of_ble_eq_true rfl) m_1250 m_56 m_1249 m_47 hlk yk_X2_isIdle rfl hr hk dg) sp_M (fun E h => by cases h) (fun r h => by cases h; exact kk)
def rt_X2_isRedundant (x : Cx) (a : Nat → Nat) (t : Int32 × St) : Prop := RetI x cX2_isRedundant .boolean 0 0 (wM a t.2 (cxT x)) t.1
set_option maxRecDepth 20000 in
set_option maxHeartbeats 2000000 in
theorem b_X2_isRedundant {x : Cx} (o : Ok x cX2_isRedundant 2 RX2 3 0 0) (a : Nat → Nat) (u : St) (p0 : Int32) (t : Int32 × St) (hf : f_X2_isRedundant u p0 = some t) (hret : rt_X2_isRedundant x a t) : G x 2 0 0 (wM a u (cxT x)) [(0, .ref (a 0)), (1, .int p0)] 0 [] := by
  unfold f_X2_isRedundant at hf
  refine g_iload_n o 1 rfl rfl dX2_isRedundant_0 ?_
  refine g_iconst o ic_0 dX2_isRedundant_1 ?_
  refine g_aload_n o 0 rfl rfl dX2_isRedundant_2 ?_
  refine M_get7 o m_926 dX2_isRedundant_3 ?_
  refine g_iconst o ic_1 dX2_isRedundant_6 ?_
  refine g_isub o dX2_isRedundant_7 ?_
  obtain ⟨r4, hr4, hf⟩ := bd_some hf
  refine k_X2_isBetween_ o hr4 m_992 (Nat.le_of_ble_eq_true rfl) (Nat.le_of_ble_eq_true rfl) ⟨(Nat.le_of_ble_eq_true rfl), (Nat.le_of_ble_eq_true rfl)⟩ dX2_isRedundant_8 ?_
  refine g_if_ne (tgt := 20) o rfl dX2_isRedundant_11 hf (fun hc hf => ?_) (fun hc hf => ?_)
  · refine g_aload_n o 0 rfl rfl dX2_isRedundant_20 ?_
    refine g_iconst o ic_0 dX2_isRedundant_21 ?_
    refine M_put0 o m_919 dX2_isRedundant_22 ?_
    refine g_aload_n o 0 rfl rfl dX2_isRedundant_25 ?_
    refine g_iload_n o 1 rfl rfl dX2_isRedundant_26 ?_
    obtain ⟨r5, hr5, hf⟩ := bd_some hf
    refine k_X2_isIdle_ o hr5 m_1247 (Nat.le_of_ble_eq_true rfl) (Nat.le_of_ble_eq_true rfl) ⟨(Nat.le_of_ble_eq_true rfl), (Nat.le_of_ble_eq_true rfl)⟩ dX2_isRedundant_27 ?_
    obtain ⟨hb, hf⟩ := gd_some hf
    cases Option.some.inj hf
    exact g_iret hret (Nat.le_of_ble_eq_true rfl) (Nat.le_of_ble_eq_true rfl) (okB_n hb) dX2_isRedundant_30
  · refine g_aload_n o 0 rfl rfl dX2_isRedundant_14 ?_
    refine g_iconst o ic_1 dX2_isRedundant_15 ?_
    obtain ⟨r6, hr6, hf⟩ := bd_some hf
    refine k_X2_refuses_ o hr6 m_1093 (Nat.le_of_ble_eq_true rfl) (Nat.le_of_ble_eq_true rfl) ⟨(Nat.le_of_ble_eq_true rfl), (Nat.le_of_ble_eq_true rfl)⟩ dX2_isRedundant_16 ?_
    obtain ⟨hb, hf⟩ := gd_some hf
    cases Option.some.inj hf
    exact g_iret hret (Nat.le_of_ble_eq_true rfl) (Nat.le_of_ble_eq_true rfl) (okB_n hb) dX2_isRedundant_19
theorem c_X2_isRedundant (l : Launch) (hst : l.stackTraces = false) (a : Nat → Nat) (u : St) (p0 : Int32) (t : Int32 × St) (hf : f_X2_isRedundant u p0 = some t) : CoI l yX2_isRedundant (.code yX2_isRedundant cX2_isRedundant 2 (some .boolean)) 3 0 0 [.ref (a 0), .int p0] (wM a u) (wM a t.2) (.inl t.1) := mkI hst (by decide +kernel) (Nat.le_of_ble_eq_true rfl) (fun x _ o hI hX => b_X2_isRedundant o a u p0 t hf (hI _ rfl))
def rt_X2_removeRedundant (x : Cx) (a : Nat → Nat) (t : Int32 × St) : Prop := RetI x cX2_removeRedundant .int 0 0 (wM a t.2 (cxT x)) t.1
set_option maxRecDepth 20000 in
set_option maxHeartbeats 2000000 in
theorem b_X2_removeRedundant_L69 {x : Cx} (o : Ok x cX2_removeRedundant 5 RX2 3 0 0) {k n : Nat} (hk : k ≤ 0) (hn : n ≤ 0) (a : Nat → Nat) (c1 : Int32) (c2 : Int32) (c3 : Int32) (r : (Int32 × St) ⊕ (Int32 × St)) (hX : ∀ s : Int32 × St, r = .inl s → G x 5 k n (wM a s.2 (cxT x)) [(0, .ref (a 0)), (1, .int c1), (2, .int c2), (3, .int c3)] 105 []) (hR : ∀ t, r = .inr t → rt_X2_removeRedundant x a t) : ∀ (m : Nat) (s : Int32 × St), loopN (f_X2_removeRedundant_s69 c1 c2 c3) m s = some r → G x 5 k n (wM a s.2 (cxT x)) [(0, .ref (a 0)), (1, .int c1), (2, .int c2), (3, .int c3), (4, .int s.1)] 69 [] := by
  refine loop_W _ (fun (s : Int32 × St) => G x 5 k n (wM a s.2 (cxT x)) [(0, .ref (a 0)), (1, .int c1), (2, .int c2), (3, .int c3), (4, .int s.1)] 69 []) r ?_
  intro s ww hf hw
  unfold f_X2_removeRedundant_s69 at hf
  obtain ⟨s_0, s_1⟩ := s
  try dsimp -simprocs only at hf ⊢
  refine g_iload o 4 rfl dX2_removeRedundant_69 ?_
  refine g_iconst o ic_4 dX2_removeRedundant_71 ?_
  refine g_ic_ge (tgt := 105) o rfl dX2_removeRedundant_72 hf (fun hc hf => ?_) (fun hc hf => ?_)
  · exact g_perm [0, 1, 2, 3] rfl (hX _ (lf_x hf hw))
  · refine g_aload_n o 0 rfl rfl dX2_removeRedundant_75 ?_
    refine M_get5 o m_924 dX2_removeRedundant_76 ?_
    refine g_iconst o ic_4 dX2_removeRedundant_79 ?_
    refine g_iload_n o 3 rfl rfl dX2_removeRedundant_80 ?_
    refine g_imul o dX2_removeRedundant_81 ?_
    refine g_iload o 4 rfl dX2_removeRedundant_82 ?_
    refine g_iadd o dX2_removeRedundant_84 ?_
    refine g_aload_n o 0 rfl rfl dX2_removeRedundant_85 ?_
    refine M_get5 o m_924 dX2_removeRedundant_86 ?_
    refine g_iconst o ic_4 dX2_removeRedundant_89 ?_
    refine g_iload_n o 3 rfl rfl dX2_removeRedundant_90 ?_
    refine g_imul o dX2_removeRedundant_91 ?_
    refine g_iconst o ic_4 dX2_removeRedundant_92 ?_
    refine g_iadd o dX2_removeRedundant_93 ?_
    refine g_iload o 4 rfl dX2_removeRedundant_94 ?_
    refine g_iadd o dX2_removeRedundant_96 ?_
    refine M_ld5 o dX2_removeRedundant_97 hf (fun hf => ?_)
    refine M_st5 o dX2_removeRedundant_98 hf (fun hf => ?_)
    refine g_iinc o [(4, .int (s_0 + 1)), (0, .ref (a 0)), (1, .int c1), (2, .int c2), (3, .int c3)] 4 rfl (inc_1 _) (Nat.le_of_ble_eq_true rfl) rfl dX2_removeRedundant_99 ?_
    refine g_goto (tgt := 69) o rfl dX2_removeRedundant_102 ?_
    have hp := lf_c hf hw
    exact g_perm [1, 2, 3, 4, 0] rfl hp
set_option maxRecDepth 20000 in
set_option maxHeartbeats 2000000 in
theorem b_X2_removeRedundant_L44 {x : Cx} (o : Ok x cX2_removeRedundant 5 RX2 3 0 0) {k n : Nat} (hk : k ≤ 0) (hn : n ≤ 0) (a : Nat → Nat) (c1 : Int32) (c2 : Int32) (r : (Int32 × St) ⊕ (Int32 × St)) (hX : ∀ s : Int32 × St, r = .inl s → G x 5 k n (wM a s.2 (cxT x)) [(0, .ref (a 0)), (1, .int c1), (2, .int c2)] 111 []) (hR : ∀ t, r = .inr t → rt_X2_removeRedundant x a t) : ∀ (m : Nat) (s : Int32 × St), loopN (f_X2_removeRedundant_s44 c1 c2) m s = some r → G x 5 k n (wM a s.2 (cxT x)) [(0, .ref (a 0)), (1, .int c1), (2, .int c2), (3, .int s.1)] 44 [] := by
  refine loop_W _ (fun (s : Int32 × St) => G x 5 k n (wM a s.2 (cxT x)) [(0, .ref (a 0)), (1, .int c1), (2, .int c2), (3, .int s.1)] 44 []) r ?_
  intro s ww hf hw
  unfold f_X2_removeRedundant_s44 at hf
  obtain ⟨s_0, s_1⟩ := s
  try dsimp -simprocs only at hf ⊢
  refine g_iload_n o 3 rfl rfl dX2_removeRedundant_44 ?_
  refine g_aload_n o 0 rfl rfl dX2_removeRedundant_45 ?_
  refine M_get7 o m_926 dX2_removeRedundant_46 ?_
  refine g_ic_ge (tgt := 111) o rfl dX2_removeRedundant_49 hf (fun hc hf => ?_) (fun hc hf => ?_)
  · exact g_perm [0, 1, 2] rfl (hX _ (lf_x hf hw))
  · refine g_aload_n o 0 rfl rfl dX2_removeRedundant_52 ?_
    refine M_get4 o m_923 dX2_removeRedundant_53 ?_
    refine g_iload_n o 3 rfl rfl dX2_removeRedundant_56 ?_
    refine g_aload_n o 0 rfl rfl dX2_removeRedundant_57 ?_
    refine M_get4 o m_923 dX2_removeRedundant_58 ?_
    refine g_iload_n o 3 rfl rfl dX2_removeRedundant_61 ?_
    refine g_iconst o ic_1 dX2_removeRedundant_62 ?_
    refine g_iadd o dX2_removeRedundant_63 ?_
    refine M_ld4 o dX2_removeRedundant_64 hf (fun hf => ?_)
    refine M_st4 o dX2_removeRedundant_65 hf (fun hf => ?_)
    refine g_iconst o ic_0 dX2_removeRedundant_66 ?_
    refine g_istore o [(4, .int 0), (0, .ref (a 0)), (1, .int c1), (2, .int c2), (3, .int s_0)] (Nat.le_of_ble_eq_true rfl) rfl dX2_removeRedundant_67 ?_
    obtain ⟨r8, hr8, hxr8, hrr8⟩ := bl_some hf
    refine g_perm [1, 2, 3, 4, 0] rfl (b_X2_removeRedundant_L69 o hk hn a c1 c2 s_0 r8 (fun s69_6 hs => ?_) (fun t7 ht => ?_) FU (0, (ua s_1 4 (upd (s_1 4) s_0.toNatClampNeg (s_1 4 (s_0 + 1).toNatClampNeg)))) hr8)
    · have hf := hxr8 s69_6 hs
      obtain ⟨s69_6_0, s69_6_1⟩ := s69_6
      try dsimp -simprocs only at hf ⊢
      refine g_iinc o [(3, .int (s_0 + 1)), (0, .ref (a 0)), (1, .int c1), (2, .int c2)] 3 rfl (inc_1 _) (Nat.le_of_ble_eq_true rfl) rfl dX2_removeRedundant_105 ?_
      refine g_goto (tgt := 44) o rfl dX2_removeRedundant_108 ?_
      have hp := lf_c hf hw
      exact g_perm [1, 2, 3, 0] rfl hp
    · have hf := hrr8 t7 ht
      exact hR t7 (lf_x hf hw)
set_option maxRecDepth 20000 in
set_option maxHeartbeats 2000000 in
theorem b_X2_removeRedundant_L14 {x : Cx} (o : Ok x cX2_removeRedundant 5 RX2 3 0 0) {k n : Nat} (hk : k ≤ 0) (hn : n ≤ 0) (a : Nat → Nat) (r : (Int32 × Int32 × St) ⊕ (Int32 × St)) (hX : ∀ s : Int32 × Int32 × St, r = .inl s → G x 5 k n (wM a s.2.2 (cxT x)) [(1, .int s.1)] 117 []) (hR : ∀ t, r = .inr t → rt_X2_removeRedundant x a t) : ∀ (m : Nat) (s : Int32 × Int32 × St), loopN f_X2_removeRedundant_s14 m s = some r → G x 5 k n (wM a s.2.2 (cxT x)) [(0, .ref (a 0)), (1, .int s.1), (2, .int s.2.1)] 14 [] := by
  refine loop_W _ (fun (s : Int32 × Int32 × St) => G x 5 k n (wM a s.2.2 (cxT x)) [(0, .ref (a 0)), (1, .int s.1), (2, .int s.2.1)] 14 []) r ?_
  intro s ww hf hw
  unfold f_X2_removeRedundant_s14 at hf
  obtain ⟨s_0, s_1, s_2⟩ := s
  try dsimp -simprocs only at hf ⊢
  refine g_iload_n o 2 rfl rfl dX2_removeRedundant_14 ?_
  refine g_if_lt (tgt := 117) o rfl dX2_removeRedundant_15 hf (fun hc hf => ?_) (fun hc hf => ?_)
  · exact g_perm [1] rfl (hX _ (lf_x hf hw))
  · refine g_aload_n o 0 rfl rfl dX2_removeRedundant_18 ?_
    refine g_iload_n o 2 rfl rfl dX2_removeRedundant_19 ?_
    obtain ⟨r12, hr12, hf⟩ := bd_some hf
    refine k_X2_isIdle_ o hr12 m_1247 (Nat.le_of_ble_eq_true rfl) (Nat.le_of_ble_eq_true rfl) ⟨hk, hn⟩ dX2_removeRedundant_20 ?_
    refine g_if_ne (tgt := 29) o rfl dX2_removeRedundant_23 hf (fun hc hf => ?_) (fun hc hf => ?_)
    · refine g_aload_n o 0 rfl rfl dX2_removeRedundant_29 ?_
      refine g_dup o rfl dX2_removeRedundant_30 ?_
      refine M_get7 o m_926 dX2_removeRedundant_31 ?_
      refine g_iconst o ic_1 dX2_removeRedundant_34 ?_
      refine g_isub o dX2_removeRedundant_35 ?_
      refine M_put7 o m_926 dX2_removeRedundant_36 ?_
      refine g_iinc o [(1, .int (s_0 + 1)), (0, .ref (a 0)), (2, .int s_1)] 1 rfl (inc_1 _) (Nat.le_of_ble_eq_true rfl) rfl dX2_removeRedundant_39 ?_
      refine g_iload_n o 2 rfl rfl dX2_removeRedundant_42 ?_
      refine g_istore_n o [(3, .int s_1), (1, .int (s_0 + 1)), (0, .ref (a 0)), (2, .int s_1)] (Nat.le_of_ble_eq_true rfl) rfl rfl dX2_removeRedundant_43 ?_
      obtain ⟨r15, hr15, hxr15, hrr15⟩ := bl_some hf
      refine g_perm [2, 1, 3, 0] rfl (b_X2_removeRedundant_L44 o hk hn a (s_0 + 1) s_1 r15 (fun s44_13 hs => ?_) (fun t14 ht => ?_) FU (s_1, (us s_2 7 ((s_2 0 7) - 1))) hr15)
      · have hf := hxr15 s44_13 hs
        obtain ⟨s44_13_0, s44_13_1⟩ := s44_13
        try dsimp -simprocs only at hf ⊢
        refine g_iinc o [(2, .int (s_1 + (-1))), (0, .ref (a 0)), (1, .int (s_0 + 1))] 2 rfl (inc_m1 _) (Nat.le_of_ble_eq_true rfl) rfl dX2_removeRedundant_111 ?_
        refine g_goto (tgt := 14) o rfl dX2_removeRedundant_114 ?_
        have hp := lf_c hf hw
        exact g_perm [1, 2, 0] rfl hp
      · have hf := hrr15 t14 ht
        exact hR t14 (lf_x hf hw)
    · refine g_goto (tgt := 111) o rfl dX2_removeRedundant_26 ?_
      refine g_iinc o [(2, .int (s_1 + (-1))), (0, .ref (a 0)), (1, .int s_0)] 2 rfl (inc_m1 _) (Nat.le_of_ble_eq_true rfl) rfl dX2_removeRedundant_111 ?_
      refine g_goto (tgt := 14) o rfl dX2_removeRedundant_114 ?_
      have hp := lf_c hf hw
      exact g_perm [1, 2, 0] rfl hp
set_option maxRecDepth 20000 in
set_option maxHeartbeats 2000000 in
theorem b_X2_removeRedundant {x : Cx} (o : Ok x cX2_removeRedundant 5 RX2 3 0 0) (a : Nat → Nat) (u : St) (t : Int32 × St) (hf : f_X2_removeRedundant u = some t) (hret : rt_X2_removeRedundant x a t) : G x 5 0 0 (wM a u (cxT x)) [(0, .ref (a 0))] 0 [] := by
  unfold f_X2_removeRedundant at hf
  refine g_aload_n o 0 rfl rfl dX2_removeRedundant_0 ?_
  refine g_iconst o ic_0 dX2_removeRedundant_1 ?_
  refine M_put0 o m_919 dX2_removeRedundant_2 ?_
  refine g_iconst o ic_0 dX2_removeRedundant_5 ?_
  refine g_istore_n o [(1, .int 0), (0, .ref (a 0))] (Nat.le_of_ble_eq_true rfl) rfl rfl dX2_removeRedundant_6 ?_
  refine g_aload_n o 1 rfl rfl dX2_removeRedundant_7 ?_
  refine M_get7 o m_926 dX2_removeRedundant_8 ?_
  refine g_iconst o ic_1 dX2_removeRedundant_11 ?_
  refine g_isub o dX2_removeRedundant_12 ?_
  refine g_nmi hf (fun x18 hf => ?_)
  refine g_istore_n o [(2, .int x18), (1, .int 0), (0, .ref (a 0))] (Nat.le_of_ble_eq_true rfl) rfl rfl dX2_removeRedundant_13 ?_
  obtain ⟨r20, hr20, hxr20, hrr20⟩ := bl_some hf
  refine g_perm [2, 1, 0] rfl (b_X2_removeRedundant_L14 o (Nat.le_of_ble_eq_true rfl) (Nat.le_of_ble_eq_true rfl) a  r20 (fun s14 hs => ?_) (fun t19 ht => ?_) FU (0, x18, (us u 0 0)) hr20)
  · have hf := hxr20 s14 hs
    obtain ⟨s14_0, s14_1, s14_2⟩ := s14
    try dsimp -simprocs only at hf ⊢
    refine g_iload_n o 0 rfl rfl dX2_removeRedundant_117 ?_
    cases Option.some.inj hf
    exact g_iret hret (Nat.le_of_ble_eq_true rfl) (Nat.le_of_ble_eq_true rfl) (vp_nar_int _) dX2_removeRedundant_118
  · have hf := hrr20 t19 ht
    cases Option.some.inj hf
    exact hret
theorem c_X2_removeRedundant (l : Launch) (hst : l.stackTraces = false) (a : Nat → Nat) (u : St) (t : Int32 × St) (hf : f_X2_removeRedundant u = some t) : CoI l yX2_removeRedundant (.code yX2_removeRedundant cX2_removeRedundant 5 (some .int)) 3 0 0 [.ref (a 0)] (wM a u) (wM a t.2) (.inl t.1) := mkI hst (by decide +kernel) (Nat.le_of_ble_eq_true rfl) (fun x _ o hI hX => b_X2_removeRedundant o a u t hf (hI _ rfl))
def rt_X2_append (x : Cx) (a : Nat → Nat) (t : Int32 × St) : Prop := RetI x cX2_append .int 0 0 (wM a t.2 (cxT x)) t.1
set_option maxRecDepth 20000 in
set_option maxHeartbeats 2000000 in
theorem b_X2_append {x : Cx} (o : Ok x cX2_append 2 RX2 1 0 0) (a : Nat → Nat) (u : St) (p0 : Int32) (t : Int32 × St) (hf : f_X2_append u p0 = some t) (hret : rt_X2_append x a t) : G x 2 0 0 (wM a u (cxT x)) [(0, .ref (a 0)), (1, .int p0)] 0 [] := by
  unfold f_X2_append at hf
  refine g_iload_n o 1 rfl rfl dX2_append_0 ?_
  refine g_bipush o bp_32 dX2_append_1 ?_
  refine g_bipush o bp_126 dX2_append_3 ?_
  obtain ⟨r4, hr4, hf⟩ := bd_some hf
  refine k_X2_isBetween_ o hr4 m_992 (Nat.le_of_ble_eq_true rfl) (Nat.le_of_ble_eq_true rfl) ⟨(Nat.le_of_ble_eq_true rfl), (Nat.le_of_ble_eq_true rfl)⟩ dX2_append_5 ?_
  refine g_if_ne (tgt := 17) o rfl dX2_append_8 hf (fun hc hf => ?_) (fun hc hf => ?_)
  · refine g_aload_n o 0 rfl rfl dX2_append_17 ?_
    refine M_get10 o m_929 dX2_append_18 ?_
    refine g_bipush o bp_60 dX2_append_21 ?_
    refine g_ic_ne (tgt := 32) o rfl dX2_append_23 hf (fun hc hf => ?_) (fun hc hf => ?_)
    · refine g_aload_n o 0 rfl rfl dX2_append_32 ?_
      refine g_iconst o ic_0 dX2_append_33 ?_
      refine M_put0 o m_919 dX2_append_34 ?_
      refine g_aload_n o 0 rfl rfl dX2_append_37 ?_
      refine M_get8 o m_927 dX2_append_38 ?_
      refine g_aload_n o 0 rfl rfl dX2_append_41 ?_
      refine M_get10 o m_929 dX2_append_42 ?_
      refine g_iload_n o 1 rfl rfl dX2_append_45 ?_
      refine M_st8 o dX2_append_46 hf (fun hf => ?_)
      refine g_aload_n o 0 rfl rfl dX2_append_47 ?_
      refine g_dup o rfl dX2_append_48 ?_
      refine M_get10 o m_929 dX2_append_49 ?_
      refine g_iconst o ic_1 dX2_append_52 ?_
      refine g_iadd o dX2_append_53 ?_
      refine M_put10 o m_929 dX2_append_54 ?_
      refine g_aload_n o 0 rfl rfl dX2_append_57 ?_
      refine M_get10 o m_929 dX2_append_58 ?_
      cases Option.some.inj hf
      exact g_iret hret (Nat.le_of_ble_eq_true rfl) (Nat.le_of_ble_eq_true rfl) (vp_nar_int _) dX2_append_61
    · refine g_aload_n o 0 rfl rfl dX2_append_26 ?_
      refine g_iconst o ic_2 dX2_append_27 ?_
      obtain ⟨r5, hr5, hf⟩ := bd_some hf
      refine k_X2_fails_ o hr5 m_995 (Nat.le_of_ble_eq_true rfl) (Nat.le_of_ble_eq_true rfl) ⟨(Nat.le_of_ble_eq_true rfl), (Nat.le_of_ble_eq_true rfl)⟩ dX2_append_28 ?_
      cases Option.some.inj hf
      exact g_iret hret (Nat.le_of_ble_eq_true rfl) (Nat.le_of_ble_eq_true rfl) (vp_nar_int _) dX2_append_31
  · refine g_aload_n o 0 rfl rfl dX2_append_11 ?_
    refine g_iconst o ic_1 dX2_append_12 ?_
    obtain ⟨r6, hr6, hf⟩ := bd_some hf
    refine k_X2_fails_ o hr6 m_995 (Nat.le_of_ble_eq_true rfl) (Nat.le_of_ble_eq_true rfl) ⟨(Nat.le_of_ble_eq_true rfl), (Nat.le_of_ble_eq_true rfl)⟩ dX2_append_13 ?_
    cases Option.some.inj hf
    exact g_iret hret (Nat.le_of_ble_eq_true rfl) (Nat.le_of_ble_eq_true rfl) (vp_nar_int _) dX2_append_16
theorem c_X2_append (l : Launch) (hst : l.stackTraces = false) (a : Nat → Nat) (u : St) (p0 : Int32) (t : Int32 × St) (hf : f_X2_append u p0 = some t) : CoI l yX2_append (.code yX2_append cX2_append 2 (some .int)) 1 0 0 [.ref (a 0), .int p0] (wM a u) (wM a t.2) (.inl t.1) := mkI hst (by decide +kernel) (Nat.le_of_ble_eq_true rfl) (fun x _ o hI hX => b_X2_append o a u p0 t hf (hI _ rfl))
def rt_X2_reads (x : Cx) (a : Nat → Nat) (t : Int32 × St) : Prop := RetI x cX2_reads .int 0 0 (wM a t.2 (cxT x)) t.1
set_option maxRecDepth 20000 in
set_option maxHeartbeats 2000000 in
theorem b_X2_reads_L16 {x : Cx} (o : Ok x cX2_reads 5 RX2 0 0 0) {k n : Nat} (hk : k ≤ 0) (hn : n ≤ 0) (a : Nat → Nat) (r : (Int32 × Int32 × Int32 × St) ⊕ (Int32 × St)) (hX : ∀ s : Int32 × Int32 × Int32 × St, r = .inl s → G x 5 k n (wM a s.2.2.2 (cxT x)) [(0, .ref (a 0)), (1, .int s.1), (2, .int s.2.1)] 138 []) (hR : ∀ t, r = .inr t → rt_X2_reads x a t) : ∀ (m : Nat) (s : Int32 × Int32 × Int32 × St), loopN f_X2_reads_s16 m s = some r → G x 5 k n (wM a s.2.2.2 (cxT x)) [(0, .ref (a 0)), (1, .int s.1), (2, .int s.2.1), (3, .int s.2.2.1)] 16 [] := by
  refine loop_W _ (fun (s : Int32 × Int32 × Int32 × St) => G x 5 k n (wM a s.2.2.2 (cxT x)) [(0, .ref (a 0)), (1, .int s.1), (2, .int s.2.1), (3, .int s.2.2.1)] 16 []) r ?_
  intro s ww hf hw
  unfold f_X2_reads_s16 at hf
  obtain ⟨s_0, s_1, s_2, s_3⟩ := s
  try dsimp -simprocs only at hf ⊢
  refine g_iload_n o 3 rfl rfl dX2_reads_16 ?_
  refine g_aload_n o 0 rfl rfl dX2_reads_17 ?_
  refine M_get10 o m_929 dX2_reads_18 ?_
  refine g_ic_ge (tgt := 138) o rfl dX2_reads_21 hf (fun hc hf => ?_) (fun hc hf => ?_)
  · exact g_perm [0, 1, 2] rfl (hX _ (lf_x hf hw))
  · refine g_aload_n o 0 rfl rfl dX2_reads_24 ?_
    refine M_get8 o m_927 dX2_reads_25 ?_
    refine g_iload_n o 3 rfl rfl dX2_reads_28 ?_
    refine M_ld8 o dX2_reads_29 hf (fun hf => ?_)
    refine g_nmi hf (fun x6 hf => ?_)
    refine g_istore o [(4, .int x6), (0, .ref (a 0)), (1, .int s_0), (2, .int s_1), (3, .int s_2)] (Nat.le_of_ble_eq_true rfl) rfl dX2_reads_30 ?_
    refine g_iload o 0 rfl dX2_reads_32 ?_
    refine g_bipush o bp_48 dX2_reads_34 ?_
    refine g_ic_eq (tgt := 46) o rfl dX2_reads_36 hf (fun hc hf => ?_) (fun hc hf => ?_)
    · refine g_iload_n o 2 rfl rfl dX2_reads_46 ?_
      refine g_aload_n o 1 rfl rfl dX2_reads_47 ?_
      refine M_get13 o m_932 dX2_reads_48 ?_
      refine g_if_le (tgt := 61) o rfl dX2_reads_51 hf (fun hc hf => ?_) (fun hc hf => ?_)
      · refine g_iconst o ic_4 dX2_reads_61 ?_
        refine g_ic_ne (tgt := 67) o rfl dX2_reads_62 hf (fun hc hf => ?_) (fun hc hf => ?_)
        · refine g_iload_n o 3 rfl rfl dX2_reads_67 ?_
          refine g_iload o 0 rfl dX2_reads_68 ?_
          refine g_bipush o bp_48 dX2_reads_70 ?_
          refine g_isub o dX2_reads_72 ?_
          refine g_iload_n o 2 rfl rfl dX2_reads_73 ?_
          refine g_ishl o dX2_reads_74 ?_
          refine g_ior o dX2_reads_75 ?_
          refine g_nmi hf (fun x7 hf => ?_)
          refine g_istore_n o [(2, .int x7), (4, .int x6), (0, .ref (a 0)), (1, .int s_0), (3, .int s_2)] (Nat.le_of_ble_eq_true rfl) rfl rfl dX2_reads_76 ?_
          refine g_iinc o [(1, .int (s_0 + 1)), (2, .int x7), (4, .int x6), (0, .ref (a 0)), (3, .int s_2)] 3 rfl (inc_1 _) (Nat.le_of_ble_eq_true rfl) rfl dX2_reads_77 ?_
          refine g_goto (tgt := 132) o rfl dX2_reads_80 ?_
          refine g_iinc o [(3, .int (s_2 + 1)), (1, .int (s_0 + 1)), (2, .int x7), (4, .int x6), (0, .ref (a 0))] 4 rfl (inc_1 _) (Nat.le_of_ble_eq_true rfl) rfl dX2_reads_132 ?_
          refine g_goto (tgt := 16) o rfl dX2_reads_135 ?_
          have hp := lf_c hf hw
          exact g_perm [4, 1, 2, 0] rfl hp
        · refine g_iload_n o 4 rfl rfl dX2_reads_65 ?_
          exact g_iret (hR _ (lf_x hf hw)) hk hn (vp_nar_int _) dX2_reads_66
      · refine g_aload_n o 1 rfl rfl dX2_reads_54 ?_
        refine M_get13 o m_932 dX2_reads_55 ?_
        refine g_goto (tgt := 62) o rfl dX2_reads_58 ?_
        refine g_ic_ne (tgt := 67) o rfl dX2_reads_62 hf (fun hc hf => ?_) (fun hc hf => ?_)
        · refine g_iload_n o 3 rfl rfl dX2_reads_67 ?_
          refine g_iload o 0 rfl dX2_reads_68 ?_
          refine g_bipush o bp_48 dX2_reads_70 ?_
          refine g_isub o dX2_reads_72 ?_
          refine g_iload_n o 2 rfl rfl dX2_reads_73 ?_
          refine g_ishl o dX2_reads_74 ?_
          refine g_ior o dX2_reads_75 ?_
          refine g_nmi hf (fun x8 hf => ?_)
          refine g_istore_n o [(2, .int x8), (4, .int x6), (0, .ref (a 0)), (1, .int s_0), (3, .int s_2)] (Nat.le_of_ble_eq_true rfl) rfl rfl dX2_reads_76 ?_
          refine g_iinc o [(1, .int (s_0 + 1)), (2, .int x8), (4, .int x6), (0, .ref (a 0)), (3, .int s_2)] 3 rfl (inc_1 _) (Nat.le_of_ble_eq_true rfl) rfl dX2_reads_77 ?_
          refine g_goto (tgt := 132) o rfl dX2_reads_80 ?_
          refine g_iinc o [(3, .int (s_2 + 1)), (1, .int (s_0 + 1)), (2, .int x8), (4, .int x6), (0, .ref (a 0))] 4 rfl (inc_1 _) (Nat.le_of_ble_eq_true rfl) rfl dX2_reads_132 ?_
          refine g_goto (tgt := 16) o rfl dX2_reads_135 ?_
          have hp := lf_c hf hw
          exact g_perm [4, 1, 2, 0] rfl hp
        · refine g_iload_n o 4 rfl rfl dX2_reads_65 ?_
          exact g_iret (hR _ (lf_x hf hw)) hk hn (vp_nar_int _) dX2_reads_66
    · refine g_iload o 0 rfl dX2_reads_39 ?_
      refine g_bipush o bp_49 dX2_reads_41 ?_
      refine g_ic_ne (tgt := 83) o rfl dX2_reads_43 hf (fun hc hf => ?_) (fun hc hf => ?_)
      · refine g_iload o 0 rfl dX2_reads_83 ?_
        refine g_bipush o bp_44 dX2_reads_85 ?_
        refine g_ic_ne (tgt := 109) o rfl dX2_reads_87 hf (fun hc hf => ?_) (fun hc hf => ?_)
        · refine g_iload_n o 4 rfl rfl dX2_reads_109 ?_
          exact g_iret (hR _ (lf_x hf hw)) hk hn (vp_nar_int _) dX2_reads_110
        · refine g_iload_n o 2 rfl rfl dX2_reads_90 ?_
          refine g_if_eq (tgt := 109) o rfl dX2_reads_91 hf (fun hc hf => ?_) (fun hc hf => ?_)
          · refine g_iload_n o 4 rfl rfl dX2_reads_109 ?_
            exact g_iret (hR _ (lf_x hf hw)) hk hn (vp_nar_int _) dX2_reads_110
          · refine g_aload_n o 1 rfl rfl dX2_reads_94 ?_
            refine M_get13 o m_932 dX2_reads_95 ?_
            refine g_if_le (tgt := 111) o rfl dX2_reads_98 hf (fun hc hf => ?_) (fun hc hf => ?_)
            · refine g_aload_n o 1 rfl rfl dX2_reads_111 ?_
              refine g_iload_n o 2 rfl rfl dX2_reads_112 ?_
              refine M_put13 o m_932 dX2_reads_113 ?_
              refine g_aload_n o 1 rfl rfl dX2_reads_116 ?_
              refine g_dup o rfl dX2_reads_117 ?_
              refine M_get14 o m_933 dX2_reads_118 ?_
              refine g_iconst o ic_1 dX2_reads_121 ?_
              refine g_iload_n o 3 rfl rfl dX2_reads_122 ?_
              refine g_ishl o dX2_reads_123 ?_
              refine g_ior o dX2_reads_124 ?_
              refine M_put14 o m_933 dX2_reads_125 ?_
              refine g_iconst o ic_0 dX2_reads_128 ?_
              refine g_istore_n o [(1, .int 0), (4, .int x6), (0, .ref (a 0)), (2, .int s_1), (3, .int s_2)] (Nat.le_of_ble_eq_true rfl) rfl rfl dX2_reads_129 ?_
              refine g_iconst o ic_0 dX2_reads_130 ?_
              refine g_istore_n o [(2, .int 0), (1, .int 0), (4, .int x6), (0, .ref (a 0)), (3, .int s_2)] (Nat.le_of_ble_eq_true rfl) rfl rfl dX2_reads_131 ?_
              refine g_iinc o [(3, .int (s_2 + 1)), (2, .int 0), (1, .int 0), (4, .int x6), (0, .ref (a 0))] 4 rfl (inc_1 _) (Nat.le_of_ble_eq_true rfl) rfl dX2_reads_132 ?_
              refine g_goto (tgt := 16) o rfl dX2_reads_135 ?_
              have hp := lf_c hf hw
              exact g_perm [4, 2, 1, 0] rfl hp
            · refine g_iload_n o 2 rfl rfl dX2_reads_101 ?_
              refine g_aload_n o 1 rfl rfl dX2_reads_102 ?_
              refine M_get13 o m_932 dX2_reads_103 ?_
              refine g_ic_ge (tgt := 111) o rfl dX2_reads_106 hf (fun hc hf => ?_) (fun hc hf => ?_)
              · refine g_aload_n o 1 rfl rfl dX2_reads_111 ?_
                refine g_iload_n o 2 rfl rfl dX2_reads_112 ?_
                refine M_put13 o m_932 dX2_reads_113 ?_
                refine g_aload_n o 1 rfl rfl dX2_reads_116 ?_
                refine g_dup o rfl dX2_reads_117 ?_
                refine M_get14 o m_933 dX2_reads_118 ?_
                refine g_iconst o ic_1 dX2_reads_121 ?_
                refine g_iload_n o 3 rfl rfl dX2_reads_122 ?_
                refine g_ishl o dX2_reads_123 ?_
                refine g_ior o dX2_reads_124 ?_
                refine M_put14 o m_933 dX2_reads_125 ?_
                refine g_iconst o ic_0 dX2_reads_128 ?_
                refine g_istore_n o [(1, .int 0), (4, .int x6), (0, .ref (a 0)), (2, .int s_1), (3, .int s_2)] (Nat.le_of_ble_eq_true rfl) rfl rfl dX2_reads_129 ?_
                refine g_iconst o ic_0 dX2_reads_130 ?_
                refine g_istore_n o [(2, .int 0), (1, .int 0), (4, .int x6), (0, .ref (a 0)), (3, .int s_2)] (Nat.le_of_ble_eq_true rfl) rfl rfl dX2_reads_131 ?_
                refine g_iinc o [(3, .int (s_2 + 1)), (2, .int 0), (1, .int 0), (4, .int x6), (0, .ref (a 0))] 4 rfl (inc_1 _) (Nat.le_of_ble_eq_true rfl) rfl dX2_reads_132 ?_
                refine g_goto (tgt := 16) o rfl dX2_reads_135 ?_
                have hp := lf_c hf hw
                exact g_perm [4, 2, 1, 0] rfl hp
              · refine g_iload_n o 4 rfl rfl dX2_reads_109 ?_
                exact g_iret (hR _ (lf_x hf hw)) hk hn (vp_nar_int _) dX2_reads_110
      · refine g_iload_n o 2 rfl rfl dX2_reads_46 ?_
        refine g_aload_n o 1 rfl rfl dX2_reads_47 ?_
        refine M_get13 o m_932 dX2_reads_48 ?_
        refine g_if_le (tgt := 61) o rfl dX2_reads_51 hf (fun hc hf => ?_) (fun hc hf => ?_)
        · refine g_iconst o ic_4 dX2_reads_61 ?_
          refine g_ic_ne (tgt := 67) o rfl dX2_reads_62 hf (fun hc hf => ?_) (fun hc hf => ?_)
          · refine g_iload_n o 3 rfl rfl dX2_reads_67 ?_
            refine g_iload o 0 rfl dX2_reads_68 ?_
            refine g_bipush o bp_48 dX2_reads_70 ?_
            refine g_isub o dX2_reads_72 ?_
            refine g_iload_n o 2 rfl rfl dX2_reads_73 ?_
            refine g_ishl o dX2_reads_74 ?_
            refine g_ior o dX2_reads_75 ?_
            refine g_nmi hf (fun x9 hf => ?_)
            refine g_istore_n o [(2, .int x9), (4, .int x6), (0, .ref (a 0)), (1, .int s_0), (3, .int s_2)] (Nat.le_of_ble_eq_true rfl) rfl rfl dX2_reads_76 ?_
            refine g_iinc o [(1, .int (s_0 + 1)), (2, .int x9), (4, .int x6), (0, .ref (a 0)), (3, .int s_2)] 3 rfl (inc_1 _) (Nat.le_of_ble_eq_true rfl) rfl dX2_reads_77 ?_
            refine g_goto (tgt := 132) o rfl dX2_reads_80 ?_
            refine g_iinc o [(3, .int (s_2 + 1)), (1, .int (s_0 + 1)), (2, .int x9), (4, .int x6), (0, .ref (a 0))] 4 rfl (inc_1 _) (Nat.le_of_ble_eq_true rfl) rfl dX2_reads_132 ?_
            refine g_goto (tgt := 16) o rfl dX2_reads_135 ?_
            have hp := lf_c hf hw
            exact g_perm [4, 1, 2, 0] rfl hp
          · refine g_iload_n o 4 rfl rfl dX2_reads_65 ?_
            exact g_iret (hR _ (lf_x hf hw)) hk hn (vp_nar_int _) dX2_reads_66
        · refine g_aload_n o 1 rfl rfl dX2_reads_54 ?_
          refine M_get13 o m_932 dX2_reads_55 ?_
          refine g_goto (tgt := 62) o rfl dX2_reads_58 ?_
          refine g_ic_ne (tgt := 67) o rfl dX2_reads_62 hf (fun hc hf => ?_) (fun hc hf => ?_)
          · refine g_iload_n o 3 rfl rfl dX2_reads_67 ?_
            refine g_iload o 0 rfl dX2_reads_68 ?_
            refine g_bipush o bp_48 dX2_reads_70 ?_
            refine g_isub o dX2_reads_72 ?_
            refine g_iload_n o 2 rfl rfl dX2_reads_73 ?_
            refine g_ishl o dX2_reads_74 ?_
            refine g_ior o dX2_reads_75 ?_
            refine g_nmi hf (fun x10 hf => ?_)
            refine g_istore_n o [(2, .int x10), (4, .int x6), (0, .ref (a 0)), (1, .int s_0), (3, .int s_2)] (Nat.le_of_ble_eq_true rfl) rfl rfl dX2_reads_76 ?_
            refine g_iinc o [(1, .int (s_0 + 1)), (2, .int x10), (4, .int x6), (0, .ref (a 0)), (3, .int s_2)] 3 rfl (inc_1 _) (Nat.le_of_ble_eq_true rfl) rfl dX2_reads_77 ?_
            refine g_goto (tgt := 132) o rfl dX2_reads_80 ?_
            refine g_iinc o [(3, .int (s_2 + 1)), (1, .int (s_0 + 1)), (2, .int x10), (4, .int x6), (0, .ref (a 0))] 4 rfl (inc_1 _) (Nat.le_of_ble_eq_true rfl) rfl dX2_reads_132 ?_
            refine g_goto (tgt := 16) o rfl dX2_reads_135 ?_
            have hp := lf_c hf hw
            exact g_perm [4, 1, 2, 0] rfl hp
          · refine g_iload_n o 4 rfl rfl dX2_reads_65 ?_
            exact g_iret (hR _ (lf_x hf hw)) hk hn (vp_nar_int _) dX2_reads_66
set_option maxRecDepth 20000 in
set_option maxHeartbeats 2000000 in
theorem b_X2_reads {x : Cx} (o : Ok x cX2_reads 5 RX2 0 0 0) (a : Nat → Nat) (u : St) (t : Int32 × St) (hf : f_X2_reads u = some t) (hret : rt_X2_reads x a t) : G x 5 0 0 (wM a u (cxT x)) [(0, .ref (a 0))] 0 [] := by
  unfold f_X2_reads at hf
  refine g_aload_n o 0 rfl rfl dX2_reads_0 ?_
  refine g_iconst o ic_0 dX2_reads_1 ?_
  refine M_put13 o m_932 dX2_reads_2 ?_
  refine g_aload_n o 0 rfl rfl dX2_reads_5 ?_
  refine g_iconst o ic_0 dX2_reads_6 ?_
  refine M_put14 o m_933 dX2_reads_7 ?_
  refine g_iconst o ic_0 dX2_reads_10 ?_
  refine g_istore_n o [(1, .int 0), (0, .ref (a 0))] (Nat.le_of_ble_eq_true rfl) rfl rfl dX2_reads_11 ?_
  refine g_iconst o ic_0 dX2_reads_12 ?_
  refine g_istore_n o [(2, .int 0), (1, .int 0), (0, .ref (a 0))] (Nat.le_of_ble_eq_true rfl) rfl rfl dX2_reads_13 ?_
  refine g_iconst o ic_0 dX2_reads_14 ?_
  refine g_istore_n o [(3, .int 0), (2, .int 0), (1, .int 0), (0, .ref (a 0))] (Nat.le_of_ble_eq_true rfl) rfl rfl dX2_reads_15 ?_
  obtain ⟨r14, hr14, hxr14, hrr14⟩ := bl_some hf
  refine g_perm [3, 2, 1, 0] rfl (b_X2_reads_L16 o (Nat.le_of_ble_eq_true rfl) (Nat.le_of_ble_eq_true rfl) a  r14 (fun s16 hs => ?_) (fun t13 ht => ?_) FU (0, 0, 0, (us (us u 13 0) 14 0)) hr14)
  · have hf := hxr14 s16 hs
    obtain ⟨s16_0, s16_1, s16_2, s16_3⟩ := s16
    try dsimp -simprocs only at hf ⊢
    refine g_iload_n o 1 rfl rfl dX2_reads_138 ?_
    refine g_if_eq (tgt := 157) o rfl dX2_reads_139 hf (fun hc hf => ?_) (fun hc hf => ?_)
    · refine g_aload_n o 0 rfl rfl dX2_reads_157 ?_
      refine M_get10 o m_929 dX2_reads_158 ?_
      cases Option.some.inj hf
      exact g_iret hret (Nat.le_of_ble_eq_true rfl) (Nat.le_of_ble_eq_true rfl) (vp_nar_int _) dX2_reads_161
    · refine g_aload_n o 0 rfl rfl dX2_reads_142 ?_
      refine M_get13 o m_932 dX2_reads_143 ?_
      refine g_if_le (tgt := 162) o rfl dX2_reads_146 hf (fun hc hf => ?_) (fun hc hf => ?_)
      · refine g_aload_n o 0 rfl rfl dX2_reads_162 ?_
        refine g_iload_n o 1 rfl rfl dX2_reads_163 ?_
        refine M_put13 o m_932 dX2_reads_164 ?_
        refine g_aload_n o 0 rfl rfl dX2_reads_167 ?_
        refine g_dup o rfl dX2_reads_168 ?_
        refine M_get14 o m_933 dX2_reads_169 ?_
        refine g_iconst o ic_1 dX2_reads_172 ?_
        refine g_iload_n o 2 rfl rfl dX2_reads_173 ?_
        refine g_ishl o dX2_reads_174 ?_
        refine g_ior o dX2_reads_175 ?_
        refine M_put14 o m_933 dX2_reads_176 ?_
        refine g_iconst o ic_m1 dX2_reads_179 ?_
        cases Option.some.inj hf
        exact g_iret hret (Nat.le_of_ble_eq_true rfl) (Nat.le_of_ble_eq_true rfl) (vp_nar_int _) dX2_reads_180
      · refine g_iload_n o 1 rfl rfl dX2_reads_149 ?_
        refine g_aload_n o 0 rfl rfl dX2_reads_150 ?_
        refine M_get13 o m_932 dX2_reads_151 ?_
        refine g_ic_ge (tgt := 162) o rfl dX2_reads_154 hf (fun hc hf => ?_) (fun hc hf => ?_)
        · refine g_aload_n o 0 rfl rfl dX2_reads_162 ?_
          refine g_iload_n o 1 rfl rfl dX2_reads_163 ?_
          refine M_put13 o m_932 dX2_reads_164 ?_
          refine g_aload_n o 0 rfl rfl dX2_reads_167 ?_
          refine g_dup o rfl dX2_reads_168 ?_
          refine M_get14 o m_933 dX2_reads_169 ?_
          refine g_iconst o ic_1 dX2_reads_172 ?_
          refine g_iload_n o 2 rfl rfl dX2_reads_173 ?_
          refine g_ishl o dX2_reads_174 ?_
          refine g_ior o dX2_reads_175 ?_
          refine M_put14 o m_933 dX2_reads_176 ?_
          refine g_iconst o ic_m1 dX2_reads_179 ?_
          cases Option.some.inj hf
          exact g_iret hret (Nat.le_of_ble_eq_true rfl) (Nat.le_of_ble_eq_true rfl) (vp_nar_int _) dX2_reads_180
        · refine g_aload_n o 0 rfl rfl dX2_reads_157 ?_
          refine M_get10 o m_929 dX2_reads_158 ?_
          cases Option.some.inj hf
          exact g_iret hret (Nat.le_of_ble_eq_true rfl) (Nat.le_of_ble_eq_true rfl) (vp_nar_int _) dX2_reads_161
  · have hf := hrr14 t13 ht
    cases Option.some.inj hf
    exact hret
theorem c_X2_reads (l : Launch) (hst : l.stackTraces = false) (a : Nat → Nat) (u : St) (t : Int32 × St) (hf : f_X2_reads u = some t) : CoI l yX2_reads (.code yX2_reads cX2_reads 5 (some .int)) 0 0 0 [.ref (a 0)] (wM a u) (wM a t.2) (.inl t.1) := mkI hst (by decide +kernel) (Nat.le_of_ble_eq_true rfl) (fun x _ o hI hX => b_X2_reads o a u t hf (hI _ rfl))
theorem k_X2_reads_ {x : Cx} {cc : ByteArray} {nL : Nat} {own : String} {d mc ms k n : Nat} {lv : List (Nat × Value)} {pc i : Nat} {rest : List Value} {a : Nat → Nat} {u : St} (o : Ok x cc nL own d mc ms) {t : Int32 × St} (ht : f_X2_reads u = some t) (hlk : Cond.methodLink own i yX2_reads ∈ Ug) (hd : 0 < d) (hr : (rest.map fun v => v.category).sum ≤ 8) (hk : k + 0 ≤ mc ∧ n + 0 ≤ ms) (dg : decode cc pc = .ok (.invokevirtual i, 3)) (kk : G x nL (k + 0) (n + 0) (wM a t.2 (cxT x)) lv (pc + 3) (.int t.1 :: rest)) : G x nL k n (wM a u (cxT x)) lv pc (.ref (a 0) :: rest) := gcI (wd2 := (wM a t.2 (cxT x))) o (c_X2_reads (cxl x) o.2.2.2.2.2.2.2.2.2.1 a u t ht) (can_V (q0 := 0) o rfl rfl hd (Nat.le_of_ble_eq_true rfl) m_1266 m_56 m_1265 m_48 hlk yk_X2_reads rfl hr hk dg) sp_M (fun E h => by cases h) (fun r h => by cases h; exact kk)
def rt_X2_parse (x : Cx) (a : Nat → Nat) (t : Int32 × St) : Prop := RetI x cX2_parse .int 0 0 (wM a t.2 (cxT x)) t.1
set_option maxRecDepth 20000 in
set_option maxHeartbeats 2000000 in
theorem b_X2_parse {x : Cx} (o : Ok x cX2_parse 2 RX2 1 0 0) (a : Nat → Nat) (u : St) (t : Int32 × St) (hf : f_X2_parse u = some t) (hret : rt_X2_parse x a t) : G x 2 0 0 (wM a u (cxT x)) [(0, .ref (a 0))] 0 [] := by
  unfold f_X2_parse at hf
  refine g_aload_n o 0 rfl rfl dX2_parse_0 ?_
  obtain ⟨r5, hr5, hf⟩ := bd_some hf
  refine k_X2_reads_ o hr5 m_1263 (Nat.le_of_ble_eq_true rfl) (Nat.le_of_ble_eq_true rfl) ⟨(Nat.le_of_ble_eq_true rfl), (Nat.le_of_ble_eq_true rfl)⟩ dX2_parse_1 ?_
  refine g_istore_n o [(1, .int r5.1), (0, .ref (a 0))] (Nat.le_of_ble_eq_true rfl) rfl rfl dX2_parse_4 ?_
  refine g_aload_n o 1 rfl rfl dX2_parse_5 ?_
  refine g_iconst o ic_0 dX2_parse_6 ?_
  refine M_put10 o m_929 dX2_parse_7 ?_
  refine g_iload_n o 0 rfl rfl dX2_parse_10 ?_
  refine g_if_lt (tgt := 25) o rfl dX2_parse_11 hf (fun hc hf => ?_) (fun hc hf => ?_)
  · refine g_aload_n o 1 rfl rfl dX2_parse_25 ?_
    refine M_get3 o m_922 dX2_parse_26 ?_
    refine g_bipush o bp_8 dX2_parse_29 ?_
    refine g_ic_ne (tgt := 40) o rfl dX2_parse_31 hf (fun hc hf => ?_) (fun hc hf => ?_)
    · refine g_aload_n o 1 rfl rfl dX2_parse_40 ?_
      refine g_aload_n o 1 rfl rfl dX2_parse_41 ?_
      refine M_get13 o m_932 dX2_parse_42 ?_
      refine g_aload_n o 1 rfl rfl dX2_parse_45 ?_
      refine M_get14 o m_933 dX2_parse_46 ?_
      obtain ⟨r6, hr6, hf⟩ := bd_some hf
      refine k_X2_adds_ o hr6 m_999 (Nat.le_of_ble_eq_true rfl) (Nat.le_of_ble_eq_true rfl) ⟨(Nat.le_of_ble_eq_true rfl), (Nat.le_of_ble_eq_true rfl)⟩ dX2_parse_49 ?_
      cases Option.some.inj hf
      exact g_iret hret (Nat.le_of_ble_eq_true rfl) (Nat.le_of_ble_eq_true rfl) (vp_nar_int _) dX2_parse_52
    · refine g_aload_n o 1 rfl rfl dX2_parse_34 ?_
      refine g_iconst o ic_2 dX2_parse_35 ?_
      obtain ⟨r7, hr7, hf⟩ := bd_some hf
      refine k_X2_fails_ o hr7 m_995 (Nat.le_of_ble_eq_true rfl) (Nat.le_of_ble_eq_true rfl) ⟨(Nat.le_of_ble_eq_true rfl), (Nat.le_of_ble_eq_true rfl)⟩ dX2_parse_36 ?_
      cases Option.some.inj hf
      exact g_iret hret (Nat.le_of_ble_eq_true rfl) (Nat.le_of_ble_eq_true rfl) (vp_nar_int _) dX2_parse_39
  · refine g_aload_n o 1 rfl rfl dX2_parse_14 ?_
    refine g_iload_n o 0 rfl rfl dX2_parse_15 ?_
    refine M_put12 o m_931 dX2_parse_16 ?_
    refine g_aload_n o 1 rfl rfl dX2_parse_19 ?_
    refine g_iconst o ic_1 dX2_parse_20 ?_
    obtain ⟨r8, hr8, hf⟩ := bd_some hf
    refine k_X2_fails_ o hr8 m_995 (Nat.le_of_ble_eq_true rfl) (Nat.le_of_ble_eq_true rfl) ⟨(Nat.le_of_ble_eq_true rfl), (Nat.le_of_ble_eq_true rfl)⟩ dX2_parse_21 ?_
    cases Option.some.inj hf
    exact g_iret hret (Nat.le_of_ble_eq_true rfl) (Nat.le_of_ble_eq_true rfl) (vp_nar_int _) dX2_parse_24
theorem c_X2_parse (l : Launch) (hst : l.stackTraces = false) (a : Nat → Nat) (u : St) (t : Int32 × St) (hf : f_X2_parse u = some t) : CoI l yX2_parse (.code yX2_parse cX2_parse 2 (some .int)) 1 0 0 [.ref (a 0)] (wM a u) (wM a t.2) (.inl t.1) := mkI hst (by decide +kernel) (Nat.le_of_ble_eq_true rfl) (fun x _ o hI hX => b_X2_parse o a u t hf (hI _ rfl))
def rt_X2_errorPosition (x : Cx) (a : Nat → Nat) (t : Int32 × St) : Prop := RetI x cX2_errorPosition .int 0 0 (wM a t.2 (cxT x)) t.1
set_option maxRecDepth 20000 in
set_option maxHeartbeats 2000000 in
theorem b_X2_errorPosition {x : Cx} (o : Ok x cX2_errorPosition 1 RX2 1 0 0) (a : Nat → Nat) (u : St) (t : Int32 × St) (hf : f_X2_errorPosition u = some t) (hret : rt_X2_errorPosition x a t) : G x 1 0 0 (wM a u (cxT x)) [(0, .ref (a 0))] 0 [] := by
  unfold f_X2_errorPosition at hf
  refine g_aload_n o 0 rfl rfl dX2_errorPosition_0 ?_
  refine M_get12 o m_931 dX2_errorPosition_1 ?_
  refine g_if_ge (tgt := 13) o rfl dX2_errorPosition_4 hf (fun hc hf => ?_) (fun hc hf => ?_)
  · refine g_aload_n o 0 rfl rfl dX2_errorPosition_13 ?_
    refine g_iconst o ic_0 dX2_errorPosition_14 ?_
    refine M_put0 o m_919 dX2_errorPosition_15 ?_
    refine g_aload_n o 0 rfl rfl dX2_errorPosition_18 ?_
    refine M_get12 o m_931 dX2_errorPosition_19 ?_
    cases Option.some.inj hf
    exact g_iret hret (Nat.le_of_ble_eq_true rfl) (Nat.le_of_ble_eq_true rfl) (vp_nar_int _) dX2_errorPosition_22
  · refine g_aload_n o 0 rfl rfl dX2_errorPosition_7 ?_
    refine g_iconst o ic_1 dX2_errorPosition_8 ?_
    obtain ⟨r2, hr2, hf⟩ := bd_some hf
    refine k_X2_fails_ o hr2 m_995 (Nat.le_of_ble_eq_true rfl) (Nat.le_of_ble_eq_true rfl) ⟨(Nat.le_of_ble_eq_true rfl), (Nat.le_of_ble_eq_true rfl)⟩ dX2_errorPosition_9 ?_
    cases Option.some.inj hf
    exact g_iret hret (Nat.le_of_ble_eq_true rfl) (Nat.le_of_ble_eq_true rfl) (vp_nar_int _) dX2_errorPosition_12
theorem c_X2_errorPosition (l : Launch) (hst : l.stackTraces = false) (a : Nat → Nat) (u : St) (t : Int32 × St) (hf : f_X2_errorPosition u = some t) : CoI l yX2_errorPosition (.code yX2_errorPosition cX2_errorPosition 1 (some .int)) 1 0 0 [.ref (a 0)] (wM a u) (wM a t.2) (.inl t.1) := mkI hst (by decide +kernel) (Nat.le_of_ble_eq_true rfl) (fun x _ o hI hX => b_X2_errorPosition o a u t hf (hI _ rfl))
def rt_X2_puts (x : Cx) (a : Nat → Nat) (t : St) : Prop := RetV x cX2_puts 0 0 (wM a t (cxT x))
set_option maxRecDepth 20000 in
set_option maxHeartbeats 2000000 in
theorem b_X2_puts {x : Cx} (o : Ok x cX2_puts 2 RX2 0 0 0) (a : Nat → Nat) (u : St) (p0 : Int32) (t : St) (hf : f_X2_puts u p0 = some t) (hret : rt_X2_puts x a t) : G x 2 0 0 (wM a u (cxT x)) [(0, .ref (a 0)), (1, .int p0)] 0 [] := by
  unfold f_X2_puts at hf
  refine g_aload_n o 0 rfl rfl dX2_puts_0 ?_
  refine M_get9 o m_928 dX2_puts_1 ?_
  refine g_aload_n o 0 rfl rfl dX2_puts_4 ?_
  refine M_get11 o m_930 dX2_puts_5 ?_
  refine g_iload_n o 1 rfl rfl dX2_puts_8 ?_
  refine M_st9 o dX2_puts_9 hf (fun hf => ?_)
  refine g_aload_n o 0 rfl rfl dX2_puts_10 ?_
  refine g_dup o rfl dX2_puts_11 ?_
  refine M_get11 o m_930 dX2_puts_12 ?_
  refine g_iconst o ic_1 dX2_puts_15 ?_
  refine g_iadd o dX2_puts_16 ?_
  refine M_put11 o m_930 dX2_puts_17 ?_
  cases Option.some.inj hf
  exact g_vret hret (Nat.le_of_ble_eq_true rfl) (Nat.le_of_ble_eq_true rfl) dX2_puts_20
theorem c_X2_puts (l : Launch) (hst : l.stackTraces = false) (a : Nat → Nat) (u : St) (p0 : Int32) (t : St) (hf : f_X2_puts u p0 = some t) : CoV l yX2_puts (.code yX2_puts cX2_puts 2 none) 0 0 0 [.ref (a 0), .int p0] (wM a u) (wM a t) (.inl ()) := mkV hst (by decide +kernel) (Nat.le_of_ble_eq_true rfl) (fun x _ o hI hX => b_X2_puts o a u p0 t hf (hI rfl))
theorem k_X2_puts_ {x : Cx} {cc : ByteArray} {nL : Nat} {own : String} {d mc ms k n : Nat} {lv : List (Nat × Value)} {pc i : Nat} {rest : List Value} {a : Nat → Nat} {u : St} {p0 : Int32} (o : Ok x cc nL own d mc ms) {t : St} (ht : f_X2_puts u p0 = some t) (hlk : Cond.methodLink own i yX2_puts ∈ Ug) (hd : 0 < d) (hr : (rest.map fun v => v.category).sum ≤ 8) (hk : k + 0 ≤ mc ∧ n + 0 ≤ ms) (dg : decode cc pc = .ok (.invokevirtual i, 3)) (kk : G x nL (k + 0) (n + 0) (wM a t (cxT x)) lv (pc + 3) rest) : G x nL k n (wM a u (cxT x)) lv pc (.int p0 :: .ref (a 0) :: rest) := gcV (wd2 := (wM a t (cxT x))) o (c_X2_puts (cxl x) o.2.2.2.2.2.2.2.2.2.1 a u p0 t ht) (can_V (q0 := 0) o rfl rfl hd (Nat.le_of_ble_eq_true rfl) m_1278 m_56 m_1277 m_49 hlk yk_X2_puts rfl hr hk dg) sp_M (fun E h => by cases h) (fun h => kk)
def rt_X2_write (x : Cx) (a : Nat → Nat) (t : Int32 × St) : Prop := RetI x cX2_write .int 0 0 (wM a t.2 (cxT x)) t.1
set_option maxRecDepth 20000 in
set_option maxHeartbeats 2000000 in
theorem b_X2_write_L63 {x : Cx} (o : Ok x cX2_write 4 RX2 1 0 0) {k n : Nat} (hk : k ≤ 0) (hn : n ≤ 0) (a : Nat → Nat) (c1 : Int32) (c2 : Int32) (r : (Int32 × St) ⊕ (Int32 × St)) (hX : ∀ s : Int32 × St, r = .inl s → G x 4 k n (wM a s.2 (cxT x)) [(0, .ref (a 0)), (1, .int c1), (2, .int c2)] 99 []) (hR : ∀ t, r = .inr t → rt_X2_write x a t) : ∀ (m : Nat) (s : Int32 × St), loopN (f_X2_write_s63 c1 c2) m s = some r → G x 4 k n (wM a s.2 (cxT x)) [(0, .ref (a 0)), (1, .int c1), (2, .int c2), (3, .int s.1)] 63 [] := by
  refine loop_W _ (fun (s : Int32 × St) => G x 4 k n (wM a s.2 (cxT x)) [(0, .ref (a 0)), (1, .int c1), (2, .int c2), (3, .int s.1)] 63 []) r ?_
  intro s ww hf hw
  unfold f_X2_write_s63 at hf
  obtain ⟨s_0, s_1⟩ := s
  try dsimp -simprocs only at hf ⊢
  refine g_iload_n o 3 rfl rfl dX2_write_63 ?_
  refine g_aload_n o 0 rfl rfl dX2_write_64 ?_
  refine M_get1 o m_920 dX2_write_65 ?_
  refine g_iload_n o 1 rfl rfl dX2_write_68 ?_
  refine M_ld1 o dX2_write_69 hf (fun hf => ?_)
  refine g_ic_ge (tgt := 99) o rfl dX2_write_70 hf (fun hc hf => ?_) (fun hc hf => ?_)
  · exact g_perm [0, 1, 2] rfl (hX _ (lf_x hf hw))
  · refine g_aload_n o 0 rfl rfl dX2_write_73 ?_
    refine g_iload_n o 2 rfl rfl dX2_write_74 ?_
    refine g_iload_n o 3 rfl rfl dX2_write_75 ?_
    refine g_ishr o dX2_write_76 ?_
    refine g_iconst o ic_1 dX2_write_77 ?_
    refine g_iand o dX2_write_78 ?_
    refine g_iconst o ic_1 dX2_write_79 ?_
    refine g_ic_ne (tgt := 88) o rfl dX2_write_80 hf (fun hc hf => ?_) (fun hc hf => ?_)
    · refine g_bipush o bp_48 dX2_write_88 ?_
      obtain ⟨r4, hr4, hf⟩ := bd_some hf
      refine k_X2_puts_ o hr4 m_1275 (Nat.le_of_ble_eq_true rfl) (Nat.le_of_ble_eq_true rfl) ⟨hk, hn⟩ dX2_write_90 ?_
      refine g_iinc o [(3, .int (s_0 + 1)), (0, .ref (a 0)), (1, .int c1), (2, .int c2)] 3 rfl (inc_1 _) (Nat.le_of_ble_eq_true rfl) rfl dX2_write_93 ?_
      refine g_goto (tgt := 63) o rfl dX2_write_96 ?_
      have hp := lf_c hf hw
      exact g_perm [1, 2, 3, 0] rfl hp
    · refine g_bipush o bp_49 dX2_write_83 ?_
      refine g_goto (tgt := 90) o rfl dX2_write_85 ?_
      obtain ⟨r5, hr5, hf⟩ := bd_some hf
      refine k_X2_puts_ o hr5 m_1275 (Nat.le_of_ble_eq_true rfl) (Nat.le_of_ble_eq_true rfl) ⟨hk, hn⟩ dX2_write_90 ?_
      refine g_iinc o [(3, .int (s_0 + 1)), (0, .ref (a 0)), (1, .int c1), (2, .int c2)] 3 rfl (inc_1 _) (Nat.le_of_ble_eq_true rfl) rfl dX2_write_93 ?_
      refine g_goto (tgt := 63) o rfl dX2_write_96 ?_
      have hp := lf_c hf hw
      exact g_perm [1, 2, 3, 0] rfl hp
set_option maxRecDepth 20000 in
set_option maxHeartbeats 2000000 in
theorem b_X2_write_L26 {x : Cx} (o : Ok x cX2_write 4 RX2 1 0 0) {k n : Nat} (hk : k ≤ 0) (hn : n ≤ 0) (a : Nat → Nat) (c1 : Int32) (r : (Int32 × St) ⊕ (Int32 × St)) (hX : ∀ s : Int32 × St, r = .inl s → G x 4 k n (wM a s.2 (cxT x)) [(0, .ref (a 0))] 105 []) (hR : ∀ t, r = .inr t → rt_X2_write x a t) : ∀ (m : Nat) (s : Int32 × St), loopN (f_X2_write_s26 c1) m s = some r → G x 4 k n (wM a s.2 (cxT x)) [(0, .ref (a 0)), (1, .int c1), (2, .int s.1)] 26 [] := by
  refine loop_W _ (fun (s : Int32 × St) => G x 4 k n (wM a s.2 (cxT x)) [(0, .ref (a 0)), (1, .int c1), (2, .int s.1)] 26 []) r ?_
  intro s ww hf hw
  unfold f_X2_write_s26 at hf
  obtain ⟨s_0, s_1⟩ := s
  try dsimp -simprocs only at hf ⊢
  refine g_iload_n o 2 rfl rfl dX2_write_26 ?_
  refine g_bipush o bp_16 dX2_write_27 ?_
  refine g_ic_ge (tgt := 105) o rfl dX2_write_29 hf (fun hc hf => ?_) (fun hc hf => ?_)
  · exact g_perm [0] rfl (hX _ (lf_x hf hw))
  · refine g_aload_n o 0 rfl rfl dX2_write_32 ?_
    refine M_get2 o m_921 dX2_write_33 ?_
    refine g_iload_n o 1 rfl rfl dX2_write_36 ?_
    refine M_ld2 o dX2_write_37 hf (fun hf => ?_)
    refine g_iload_n o 2 rfl rfl dX2_write_38 ?_
    refine g_ishr o dX2_write_39 ?_
    refine g_iconst o ic_1 dX2_write_40 ?_
    refine g_iand o dX2_write_41 ?_
    refine g_if_ne (tgt := 48) o rfl dX2_write_42 hf (fun hc hf => ?_) (fun hc hf => ?_)
    · refine g_aload_n o 0 rfl rfl dX2_write_48 ?_
      refine M_get11 o m_930 dX2_write_49 ?_
      refine g_if_le (tgt := 61) o rfl dX2_write_52 hf (fun hc hf => ?_) (fun hc hf => ?_)
      · refine g_iconst o ic_0 dX2_write_61 ?_
        refine g_istore_n o [(3, .int 0), (0, .ref (a 0)), (1, .int c1), (2, .int s_0)] (Nat.le_of_ble_eq_true rfl) rfl rfl dX2_write_62 ?_
        obtain ⟨r15, hr15, hxr15, hrr15⟩ := bl_some hf
        refine g_perm [1, 2, 3, 0] rfl (b_X2_write_L63 o hk hn a c1 s_0 r15 (fun s63_13 hs => ?_) (fun t14 ht => ?_) FU (0, s_1) hr15)
        · have hf := hxr15 s63_13 hs
          obtain ⟨s63_13_0, s63_13_1⟩ := s63_13
          try dsimp -simprocs only at hf ⊢
          refine g_iinc o [(2, .int (s_0 + 1)), (0, .ref (a 0)), (1, .int c1)] 2 rfl (inc_1 _) (Nat.le_of_ble_eq_true rfl) rfl dX2_write_99 ?_
          refine g_goto (tgt := 26) o rfl dX2_write_102 ?_
          have hp := lf_c hf hw
          exact g_perm [1, 2, 0] rfl hp
        · have hf := hrr15 t14 ht
          exact hR t14 (lf_x hf hw)
      · refine g_aload_n o 0 rfl rfl dX2_write_55 ?_
        refine g_bipush o bp_44 dX2_write_56 ?_
        obtain ⟨r16, hr16, hf⟩ := bd_some hf
        refine k_X2_puts_ o hr16 m_1275 (Nat.le_of_ble_eq_true rfl) (Nat.le_of_ble_eq_true rfl) ⟨hk, hn⟩ dX2_write_58 ?_
        refine g_iconst o ic_0 dX2_write_61 ?_
        refine g_istore_n o [(3, .int 0), (0, .ref (a 0)), (1, .int c1), (2, .int s_0)] (Nat.le_of_ble_eq_true rfl) rfl rfl dX2_write_62 ?_
        obtain ⟨r19, hr19, hxr19, hrr19⟩ := bl_some hf
        refine g_perm [1, 2, 3, 0] rfl (b_X2_write_L63 o hk hn a c1 s_0 r19 (fun s63_17 hs => ?_) (fun t18 ht => ?_) FU (0, r16) hr19)
        · have hf := hxr19 s63_17 hs
          obtain ⟨s63_17_0, s63_17_1⟩ := s63_17
          try dsimp -simprocs only at hf ⊢
          refine g_iinc o [(2, .int (s_0 + 1)), (0, .ref (a 0)), (1, .int c1)] 2 rfl (inc_1 _) (Nat.le_of_ble_eq_true rfl) rfl dX2_write_99 ?_
          refine g_goto (tgt := 26) o rfl dX2_write_102 ?_
          have hp := lf_c hf hw
          exact g_perm [1, 2, 0] rfl hp
        · have hf := hrr19 t18 ht
          exact hR t18 (lf_x hf hw)
    · refine g_goto (tgt := 99) o rfl dX2_write_45 ?_
      refine g_iinc o [(2, .int (s_0 + 1)), (0, .ref (a 0)), (1, .int c1)] 2 rfl (inc_1 _) (Nat.le_of_ble_eq_true rfl) rfl dX2_write_99 ?_
      refine g_goto (tgt := 26) o rfl dX2_write_102 ?_
      have hp := lf_c hf hw
      exact g_perm [1, 2, 0] rfl hp
set_option maxRecDepth 20000 in
set_option maxHeartbeats 2000000 in
theorem b_X2_write {x : Cx} (o : Ok x cX2_write 4 RX2 1 0 0) (a : Nat → Nat) (u : St) (p0 : Int32) (t : Int32 × St) (hf : f_X2_write u p0 = some t) (hret : rt_X2_write x a t) : G x 4 0 0 (wM a u (cxT x)) [(0, .ref (a 0)), (1, .int p0)] 0 [] := by
  unfold f_X2_write at hf
  refine g_aload_n o 0 rfl rfl dX2_write_0 ?_
  refine g_iload_n o 1 rfl rfl dX2_write_1 ?_
  obtain ⟨r23, hr23, hf⟩ := bd_some hf
  refine k_X2_isRelation_ o hr23 m_1031 (Nat.le_of_ble_eq_true rfl) (Nat.le_of_ble_eq_true rfl) ⟨(Nat.le_of_ble_eq_true rfl), (Nat.le_of_ble_eq_true rfl)⟩ dX2_write_2 ?_
  refine g_if_ne (tgt := 14) o rfl dX2_write_5 hf (fun hc hf => ?_) (fun hc hf => ?_)
  · refine g_aload_n o 0 rfl rfl dX2_write_14 ?_
    refine g_iconst o ic_0 dX2_write_15 ?_
    refine M_put0 o m_919 dX2_write_16 ?_
    refine g_aload_n o 0 rfl rfl dX2_write_19 ?_
    refine g_iconst o ic_0 dX2_write_20 ?_
    refine M_put11 o m_930 dX2_write_21 ?_
    refine g_iconst o ic_0 dX2_write_24 ?_
    refine g_istore_n o [(2, .int 0), (0, .ref (a 0)), (1, .int p0)] (Nat.le_of_ble_eq_true rfl) rfl rfl dX2_write_25 ?_
    obtain ⟨r25, hr25, hxr25, hrr25⟩ := bl_some hf
    refine g_perm [1, 2, 0] rfl (b_X2_write_L26 o (Nat.le_of_ble_eq_true rfl) (Nat.le_of_ble_eq_true rfl) a p0 r25 (fun s26 hs => ?_) (fun t24 ht => ?_) FU (0, (us (us u 0 0) 11 0)) hr25)
    · have hf := hxr25 s26 hs
      obtain ⟨s26_0, s26_1⟩ := s26
      try dsimp -simprocs only at hf ⊢
      refine g_aload_n o 0 rfl rfl dX2_write_105 ?_
      refine M_get11 o m_930 dX2_write_106 ?_
      cases Option.some.inj hf
      exact g_iret hret (Nat.le_of_ble_eq_true rfl) (Nat.le_of_ble_eq_true rfl) (vp_nar_int _) dX2_write_109
    · have hf := hrr25 t24 ht
      cases Option.some.inj hf
      exact hret
  · refine g_aload_n o 0 rfl rfl dX2_write_8 ?_
    refine g_iconst o ic_1 dX2_write_9 ?_
    obtain ⟨r26, hr26, hf⟩ := bd_some hf
    refine k_X2_fails_ o hr26 m_995 (Nat.le_of_ble_eq_true rfl) (Nat.le_of_ble_eq_true rfl) ⟨(Nat.le_of_ble_eq_true rfl), (Nat.le_of_ble_eq_true rfl)⟩ dX2_write_10 ?_
    cases Option.some.inj hf
    exact g_iret hret (Nat.le_of_ble_eq_true rfl) (Nat.le_of_ble_eq_true rfl) (vp_nar_int _) dX2_write_13
theorem c_X2_write (l : Launch) (hst : l.stackTraces = false) (a : Nat → Nat) (u : St) (p0 : Int32) (t : Int32 × St) (hf : f_X2_write u p0 = some t) : CoI l yX2_write (.code yX2_write cX2_write 4 (some .int)) 1 0 0 [.ref (a 0), .int p0] (wM a u) (wM a t.2) (.inl t.1) := mkI hst (by decide +kernel) (Nat.le_of_ble_eq_true rfl) (fun x _ o hI hX => b_X2_write o a u p0 t hf (hI _ rfl))
def rt_X2_outputAt (x : Cx) (a : Nat → Nat) (t : Int32 × St) : Prop := RetI x cX2_outputAt .char 0 0 (wM a t.2 (cxT x)) t.1
set_option maxRecDepth 20000 in
set_option maxHeartbeats 2000000 in
theorem b_X2_outputAt {x : Cx} (o : Ok x cX2_outputAt 2 RX2 1 0 0) (a : Nat → Nat) (u : St) (p0 : Int32) (t : Int32 × St) (hf : f_X2_outputAt u p0 = some t) (hret : rt_X2_outputAt x a t) : G x 2 0 0 (wM a u (cxT x)) [(0, .ref (a 0)), (1, .int p0)] 0 [] := by
  unfold f_X2_outputAt at hf
  refine g_aload_n o 0 rfl rfl dX2_outputAt_0 ?_
  refine g_iload_n o 1 rfl rfl dX2_outputAt_1 ?_
  refine g_iconst o ic_0 dX2_outputAt_2 ?_
  refine g_aload_n o 0 rfl rfl dX2_outputAt_3 ?_
  refine M_get11 o m_930 dX2_outputAt_4 ?_
  refine g_iconst o ic_1 dX2_outputAt_7 ?_
  refine g_isub o dX2_outputAt_8 ?_
  obtain ⟨r2, hr2, hf⟩ := bd_some hf
  refine k_X2_isBetween_ o hr2 m_992 (Nat.le_of_ble_eq_true rfl) (Nat.le_of_ble_eq_true rfl) ⟨(Nat.le_of_ble_eq_true rfl), (Nat.le_of_ble_eq_true rfl)⟩ dX2_outputAt_9 ?_
  refine g_if_eq (tgt := 19) o rfl dX2_outputAt_12 hf (fun hc hf => ?_) (fun hc hf => ?_)
  · refine g_iconst o ic_1 dX2_outputAt_19 ?_
    refine M_put0 o m_919 dX2_outputAt_20 ?_
    refine g_aload_n o 0 rfl rfl dX2_outputAt_23 ?_
    refine M_get0 o m_919 dX2_outputAt_24 ?_
    refine g_if_le (tgt := 34) o rfl dX2_outputAt_27 hf (fun hc hf => ?_) (fun hc hf => ?_)
    · refine g_aload_n o 0 rfl rfl dX2_outputAt_34 ?_
      refine M_get9 o m_928 dX2_outputAt_35 ?_
      refine g_iload_n o 1 rfl rfl dX2_outputAt_38 ?_
      refine M_ld9 o dX2_outputAt_39 hf (fun hf => ?_)
      obtain ⟨hb, hf⟩ := gd_some hf
      cases Option.some.inj hf
      exact g_iret hret (Nat.le_of_ble_eq_true rfl) (Nat.le_of_ble_eq_true rfl) (okC_n hb) dX2_outputAt_40
    · refine g_iconst o ic_0 dX2_outputAt_30 ?_
      refine g_goto (tgt := 40) o rfl dX2_outputAt_31 ?_
      obtain ⟨hb, hf⟩ := gd_some hf
      cases Option.some.inj hf
      exact g_iret hret (Nat.le_of_ble_eq_true rfl) (Nat.le_of_ble_eq_true rfl) (okC_n hb) dX2_outputAt_40
  · refine g_iconst o ic_0 dX2_outputAt_15 ?_
    refine g_goto (tgt := 20) o rfl dX2_outputAt_16 ?_
    refine M_put0 o m_919 dX2_outputAt_20 ?_
    refine g_aload_n o 0 rfl rfl dX2_outputAt_23 ?_
    refine M_get0 o m_919 dX2_outputAt_24 ?_
    refine g_if_le (tgt := 34) o rfl dX2_outputAt_27 hf (fun hc hf => ?_) (fun hc hf => ?_)
    · refine g_aload_n o 0 rfl rfl dX2_outputAt_34 ?_
      refine M_get9 o m_928 dX2_outputAt_35 ?_
      refine g_iload_n o 1 rfl rfl dX2_outputAt_38 ?_
      refine M_ld9 o dX2_outputAt_39 hf (fun hf => ?_)
      obtain ⟨hb, hf⟩ := gd_some hf
      cases Option.some.inj hf
      exact g_iret hret (Nat.le_of_ble_eq_true rfl) (Nat.le_of_ble_eq_true rfl) (okC_n hb) dX2_outputAt_40
    · refine g_iconst o ic_0 dX2_outputAt_30 ?_
      refine g_goto (tgt := 40) o rfl dX2_outputAt_31 ?_
      obtain ⟨hb, hf⟩ := gd_some hf
      cases Option.some.inj hf
      exact g_iret hret (Nat.le_of_ble_eq_true rfl) (Nat.le_of_ble_eq_true rfl) (okC_n hb) dX2_outputAt_40
theorem c_X2_outputAt (l : Launch) (hst : l.stackTraces = false) (a : Nat → Nat) (u : St) (p0 : Int32) (t : Int32 × St) (hf : f_X2_outputAt u p0 = some t) : CoI l yX2_outputAt (.code yX2_outputAt cX2_outputAt 2 (some .char)) 1 0 0 [.ref (a 0), .int p0] (wM a u) (wM a t.2) (.inl t.1) := mkI hst (by decide +kernel) (Nat.le_of_ble_eq_true rfl) (fun x _ o hI hX => b_X2_outputAt o a u p0 t hf (hI _ rfl))
def rt_X2_isSlot (x : Cx) (t : Int32) : Prop := RetI x cX2_isSlot .boolean 0 0 (w0 (cxT x)) t
set_option maxRecDepth 20000 in
set_option maxHeartbeats 2000000 in
theorem b_X2_isSlot {x : Cx} (o : Ok x cX2_isSlot 1 RX2 0 0 0) (p0 : Int32) (t : Int32) (hf : f_X2_isSlot p0 = some t) (hret : rt_X2_isSlot x  t) : G x 1 0 0 (w0 (cxT x)) [(0, .int p0)] 0 [] := by
  unfold f_X2_isSlot at hf
  refine g_iload_n o 0 rfl rfl dX2_isSlot_0 ?_
  refine g_if_lt (tgt := 13) o rfl dX2_isSlot_1 hf (fun hc hf => ?_) (fun hc hf => ?_)
  · refine g_iconst o ic_0 dX2_isSlot_13 ?_
    cases Option.some.inj hf
    exact g_iret hret (Nat.le_of_ble_eq_true rfl) (Nat.le_of_ble_eq_true rfl) nb_0 dX2_isSlot_14
  · refine g_iload_n o 0 rfl rfl dX2_isSlot_4 ?_
    refine g_iconst o ic_3 dX2_isSlot_5 ?_
    refine g_ic_ge (tgt := 13) o rfl dX2_isSlot_6 hf (fun hc hf => ?_) (fun hc hf => ?_)
    · refine g_iconst o ic_0 dX2_isSlot_13 ?_
      cases Option.some.inj hf
      exact g_iret hret (Nat.le_of_ble_eq_true rfl) (Nat.le_of_ble_eq_true rfl) nb_0 dX2_isSlot_14
    · refine g_iconst o ic_1 dX2_isSlot_9 ?_
      refine g_goto (tgt := 14) o rfl dX2_isSlot_10 ?_
      cases Option.some.inj hf
      exact g_iret hret (Nat.le_of_ble_eq_true rfl) (Nat.le_of_ble_eq_true rfl) nb_1 dX2_isSlot_14
theorem c_X2_isSlot (l : Launch) (hst : l.stackTraces = false) (p0 : Int32) (t : Int32) (hf : f_X2_isSlot p0 = some t) : CoI l yX2_isSlot (.code yX2_isSlot cX2_isSlot 1 (some .boolean)) 0 0 0 [.int p0] w0 w0 (.inl t) := mkI hst (by decide +kernel) (Nat.le_of_ble_eq_true rfl) (fun x _ o hI hX => b_X2_isSlot o p0 t hf (hI _ rfl))
theorem k_X2_isSlot_ {x : Cx} {cc : ByteArray} {nL : Nat} {own : String} {d mc ms k n : Nat} {lv : List (Nat × Value)} {pc i : Nat} {rest : List Value} {wd : va_W} {p0 : Int32} (o : Ok x cc nL own d mc ms) {t : Int32} (ht : f_X2_isSlot p0 = some t) (hlk : Cond.methodLink own i yX2_isSlot ∈ Ug) (hd : 0 < d) (hr : (rest.map fun v => v.category).sum ≤ 8) (hk : k + 0 ≤ mc ∧ n + 0 ≤ ms) (dg : decode cc pc = .ok (.invokestatic i, 3)) (kk : G x nL (k + 0) (n + 0) wd lv (pc + 3) (.int t :: rest)) : G x nL k n wd lv pc (.int p0 :: rest) := gcI (wd2 := wd) o (c_X2_isSlot (cxl x) o.2.2.2.2.2.2.2.2.2.1 p0 t ht) (can_S o hd (Nat.le_of_ble_eq_true rfl) m_1289 m_56 m_1288 hlk yk_X2_isSlot rfl hr hk dg) sp_none (fun E h => by cases h) (fun r h => by cases h; exact kk)
def rt_X2_storeFlags (x : Cx) (a : Nat → Nat) (t : Int32 × St) : Prop := RetI x cX2_storeFlags .int 0 0 (wM a t.2 (cxT x)) t.1
set_option maxRecDepth 20000 in
set_option maxHeartbeats 2000000 in
theorem b_X2_storeFlags_L55 {x : Cx} (o : Ok x cX2_storeFlags 7 RX2 1 0 0) {k n : Nat} (hk : k ≤ 0) (hn : n ≤ 0) (a : Nat → Nat) (c1 : Int32) (c2 : Int32) (c3 : Int32) (r : (Int32 × Int32 × St) ⊕ (Int32 × St)) (hX : ∀ s : Int32 × Int32 × St, r = .inl s → G x 7 k n (wM a s.2.2 (cxT x)) [(4, .int s.1)] 118 []) (hR : ∀ t, r = .inr t → rt_X2_storeFlags x a t) : ∀ (m : Nat) (s : Int32 × Int32 × St), loopN (f_X2_storeFlags_s55 c1 c2 c3) m s = some r → G x 7 k n (wM a s.2.2 (cxT x)) [(0, .ref (a 0)), (1, .int c1), (2, .int c2), (3, .int c3), (4, .int s.1), (5, .int s.2.1)] 55 [] := by
  refine loop_W _ (fun (s : Int32 × Int32 × St) => G x 7 k n (wM a s.2.2 (cxT x)) [(0, .ref (a 0)), (1, .int c1), (2, .int c2), (3, .int c3), (4, .int s.1), (5, .int s.2.1)] 55 []) r ?_
  intro s ww hf hw
  unfold f_X2_storeFlags_s55 at hf
  obtain ⟨s_0, s_1, s_2⟩ := s
  try dsimp -simprocs only at hf ⊢
  refine g_iload o 5 rfl dX2_storeFlags_55 ?_
  refine g_iload_n o 2 rfl rfl dX2_storeFlags_57 ?_
  refine g_ic_ge (tgt := 118) o rfl dX2_storeFlags_58 hf (fun hc hf => ?_) (fun hc hf => ?_)
  · exact g_perm [4] rfl (hX _ (lf_x hf hw))
  · refine g_aload_n o 0 rfl rfl dX2_storeFlags_61 ?_
    refine M_get2 o m_921 dX2_storeFlags_62 ?_
    refine g_iload_n o 3 rfl rfl dX2_storeFlags_65 ?_
    refine M_ld2 o dX2_storeFlags_66 hf (fun hf => ?_)
    refine g_iload o 5 rfl dX2_storeFlags_67 ?_
    refine g_ishr o dX2_storeFlags_69 ?_
    refine g_iconst o ic_1 dX2_storeFlags_70 ?_
    refine g_iand o dX2_storeFlags_71 ?_
    refine g_iconst o ic_1 dX2_storeFlags_72 ?_
    refine g_ic_ne (tgt := 80) o rfl dX2_storeFlags_73 hf (fun hc hf => ?_) (fun hc hf => ?_)
    · refine g_iconst o ic_0 dX2_storeFlags_80 ?_
      refine g_istore o [(6, .int 0), (0, .ref (a 0)), (1, .int c1), (2, .int c2), (3, .int c3), (4, .int s_0), (5, .int s_1)] (Nat.le_of_ble_eq_true rfl) rfl dX2_storeFlags_81 ?_
      refine g_aload_n o 1 rfl rfl dX2_storeFlags_83 ?_
      refine M_get15 o m_934 dX2_storeFlags_84 ?_
      refine g_bipush o bp_16 dX2_storeFlags_87 ?_
      refine g_iload_n o 2 rfl rfl dX2_storeFlags_89 ?_
      refine g_imul o dX2_storeFlags_90 ?_
      refine g_iload o 6 rfl dX2_storeFlags_91 ?_
      refine g_iadd o dX2_storeFlags_93 ?_
      refine g_iload o 0 rfl dX2_storeFlags_94 ?_
      refine M_st15 o dX2_storeFlags_96 hf (fun hf => ?_)
      refine g_iload o 5 rfl dX2_storeFlags_97 ?_
      refine g_iload o 0 rfl dX2_storeFlags_99 ?_
      refine g_if_eq (tgt := 108) o rfl dX2_storeFlags_101 hf (fun hc hf => ?_) (fun hc hf => ?_)
      · refine g_iconst o ic_0 dX2_storeFlags_108 ?_
        refine g_iadd o dX2_storeFlags_109 ?_
        refine g_nmi hf (fun x9 hf => ?_)
        refine g_istore o [(4, .int x9), (6, .int 0), (0, .ref (a 0)), (1, .int c1), (2, .int c2), (3, .int c3), (5, .int s_1)] (Nat.le_of_ble_eq_true rfl) rfl dX2_storeFlags_110 ?_
        refine g_iinc o [(5, .int (s_1 + 1)), (4, .int x9), (6, .int 0), (0, .ref (a 0)), (1, .int c1), (2, .int c2), (3, .int c3)] 6 rfl (inc_1 _) (Nat.le_of_ble_eq_true rfl) rfl dX2_storeFlags_112 ?_
        refine g_goto (tgt := 55) o rfl dX2_storeFlags_115 ?_
        have hp := lf_c hf hw
        exact g_perm [3, 4, 5, 6, 1, 0] rfl hp
      · refine g_iconst o ic_1 dX2_storeFlags_104 ?_
        refine g_goto (tgt := 109) o rfl dX2_storeFlags_105 ?_
        refine g_iadd o dX2_storeFlags_109 ?_
        refine g_nmi hf (fun x10 hf => ?_)
        refine g_istore o [(4, .int x10), (6, .int 0), (0, .ref (a 0)), (1, .int c1), (2, .int c2), (3, .int c3), (5, .int s_1)] (Nat.le_of_ble_eq_true rfl) rfl dX2_storeFlags_110 ?_
        refine g_iinc o [(5, .int (s_1 + 1)), (4, .int x10), (6, .int 0), (0, .ref (a 0)), (1, .int c1), (2, .int c2), (3, .int c3)] 6 rfl (inc_1 _) (Nat.le_of_ble_eq_true rfl) rfl dX2_storeFlags_112 ?_
        refine g_goto (tgt := 55) o rfl dX2_storeFlags_115 ?_
        have hp := lf_c hf hw
        exact g_perm [3, 4, 5, 6, 1, 0] rfl hp
    · refine g_iconst o ic_1 dX2_storeFlags_76 ?_
      refine g_goto (tgt := 81) o rfl dX2_storeFlags_77 ?_
      refine g_istore o [(6, .int 1), (0, .ref (a 0)), (1, .int c1), (2, .int c2), (3, .int c3), (4, .int s_0), (5, .int s_1)] (Nat.le_of_ble_eq_true rfl) rfl dX2_storeFlags_81 ?_
      refine g_aload_n o 1 rfl rfl dX2_storeFlags_83 ?_
      refine M_get15 o m_934 dX2_storeFlags_84 ?_
      refine g_bipush o bp_16 dX2_storeFlags_87 ?_
      refine g_iload_n o 2 rfl rfl dX2_storeFlags_89 ?_
      refine g_imul o dX2_storeFlags_90 ?_
      refine g_iload o 6 rfl dX2_storeFlags_91 ?_
      refine g_iadd o dX2_storeFlags_93 ?_
      refine g_iload o 0 rfl dX2_storeFlags_94 ?_
      refine M_st15 o dX2_storeFlags_96 hf (fun hf => ?_)
      refine g_iload o 5 rfl dX2_storeFlags_97 ?_
      refine g_iload o 0 rfl dX2_storeFlags_99 ?_
      refine g_if_eq (tgt := 108) o rfl dX2_storeFlags_101 hf (fun hc hf => ?_) (fun hc hf => ?_)
      · refine g_iconst o ic_0 dX2_storeFlags_108 ?_
        refine g_iadd o dX2_storeFlags_109 ?_
        refine g_nmi hf (fun x11 hf => ?_)
        refine g_istore o [(4, .int x11), (6, .int 1), (0, .ref (a 0)), (1, .int c1), (2, .int c2), (3, .int c3), (5, .int s_1)] (Nat.le_of_ble_eq_true rfl) rfl dX2_storeFlags_110 ?_
        refine g_iinc o [(5, .int (s_1 + 1)), (4, .int x11), (6, .int 1), (0, .ref (a 0)), (1, .int c1), (2, .int c2), (3, .int c3)] 6 rfl (inc_1 _) (Nat.le_of_ble_eq_true rfl) rfl dX2_storeFlags_112 ?_
        refine g_goto (tgt := 55) o rfl dX2_storeFlags_115 ?_
        have hp := lf_c hf hw
        exact g_perm [3, 4, 5, 6, 1, 0] rfl hp
      · refine g_iconst o ic_1 dX2_storeFlags_104 ?_
        refine g_goto (tgt := 109) o rfl dX2_storeFlags_105 ?_
        refine g_iadd o dX2_storeFlags_109 ?_
        refine g_nmi hf (fun x12 hf => ?_)
        refine g_istore o [(4, .int x12), (6, .int 1), (0, .ref (a 0)), (1, .int c1), (2, .int c2), (3, .int c3), (5, .int s_1)] (Nat.le_of_ble_eq_true rfl) rfl dX2_storeFlags_110 ?_
        refine g_iinc o [(5, .int (s_1 + 1)), (4, .int x12), (6, .int 1), (0, .ref (a 0)), (1, .int c1), (2, .int c2), (3, .int c3)] 6 rfl (inc_1 _) (Nat.le_of_ble_eq_true rfl) rfl dX2_storeFlags_112 ?_
        refine g_goto (tgt := 55) o rfl dX2_storeFlags_115 ?_
        have hp := lf_c hf hw
        exact g_perm [3, 4, 5, 6, 1, 0] rfl hp
set_option maxRecDepth 20000 in
set_option maxHeartbeats 2000000 in
theorem b_X2_storeFlags {x : Cx} (o : Ok x cX2_storeFlags 7 RX2 1 0 0) (a : Nat → Nat) (u : St) (p0 : Int32) (p1 : Int32) (p2 : Int32) (t : Int32 × St) (hf : f_X2_storeFlags u p0 p1 p2 = some t) (hret : rt_X2_storeFlags x a t) : G x 7 0 0 (wM a u (cxT x)) [(0, .ref (a 0)), (1, .int p0), (2, .int p1), (3, .int p2)] 0 [] := by
  unfold f_X2_storeFlags at hf
  refine g_iload_n o 1 rfl rfl dX2_storeFlags_0 ?_
  obtain ⟨r17, hr17, hf⟩ := bd_some hf
  refine k_X2_isSlot_ o hr17 m_1287 (Nat.le_of_ble_eq_true rfl) (Nat.le_of_ble_eq_true rfl) ⟨(Nat.le_of_ble_eq_true rfl), (Nat.le_of_ble_eq_true rfl)⟩ dX2_storeFlags_1 ?_
  refine g_if_eq (tgt := 15) o rfl dX2_storeFlags_4 hf (fun hc hf => ?_) (fun hc hf => ?_)
  · refine g_aload_n o 0 rfl rfl dX2_storeFlags_15 ?_
    refine g_iconst o ic_1 dX2_storeFlags_16 ?_
    obtain ⟨r18, hr18, hf⟩ := bd_some hf
    refine k_X2_fails_ o hr18 m_995 (Nat.le_of_ble_eq_true rfl) (Nat.le_of_ble_eq_true rfl) ⟨(Nat.le_of_ble_eq_true rfl), (Nat.le_of_ble_eq_true rfl)⟩ dX2_storeFlags_17 ?_
    cases Option.some.inj hf
    exact g_iret hret (Nat.le_of_ble_eq_true rfl) (Nat.le_of_ble_eq_true rfl) (vp_nar_int _) dX2_storeFlags_20
  · refine g_aload_n o 0 rfl rfl dX2_storeFlags_7 ?_
    refine g_iload_n o 3 rfl rfl dX2_storeFlags_8 ?_
    obtain ⟨r19, hr19, hf⟩ := bd_some hf
    refine k_X2_isRelation_ o hr19 m_1031 (Nat.le_of_ble_eq_true rfl) (Nat.le_of_ble_eq_true rfl) ⟨(Nat.le_of_ble_eq_true rfl), (Nat.le_of_ble_eq_true rfl)⟩ dX2_storeFlags_9 ?_
    refine g_if_ne (tgt := 21) o rfl dX2_storeFlags_12 hf (fun hc hf => ?_) (fun hc hf => ?_)
    · refine g_iload_n o 2 rfl rfl dX2_storeFlags_21 ?_
      refine g_iconst o ic_0 dX2_storeFlags_22 ?_
      refine g_bipush o bp_16 dX2_storeFlags_23 ?_
      obtain ⟨r20, hr20, hf⟩ := bd_some hf
      refine k_X2_isBetween_ o hr20 m_992 (Nat.le_of_ble_eq_true rfl) (Nat.le_of_ble_eq_true rfl) ⟨(Nat.le_of_ble_eq_true rfl), (Nat.le_of_ble_eq_true rfl)⟩ dX2_storeFlags_25 ?_
      refine g_if_ne (tgt := 37) o rfl dX2_storeFlags_28 hf (fun hc hf => ?_) (fun hc hf => ?_)
      · refine g_aload_n o 0 rfl rfl dX2_storeFlags_37 ?_
        refine g_iconst o ic_0 dX2_storeFlags_38 ?_
        refine M_put0 o m_919 dX2_storeFlags_39 ?_
        refine g_aload_n o 0 rfl rfl dX2_storeFlags_42 ?_
        refine M_get16 o m_935 dX2_storeFlags_43 ?_
        refine g_iload_n o 1 rfl rfl dX2_storeFlags_46 ?_
        refine g_iload_n o 2 rfl rfl dX2_storeFlags_47 ?_
        refine M_st16 o dX2_storeFlags_48 hf (fun hf => ?_)
        refine g_iconst o ic_0 dX2_storeFlags_49 ?_
        refine g_istore o [(4, .int 0), (0, .ref (a 0)), (1, .int p0), (2, .int p1), (3, .int p2)] (Nat.le_of_ble_eq_true rfl) rfl dX2_storeFlags_50 ?_
        refine g_iconst o ic_0 dX2_storeFlags_52 ?_
        refine g_istore o [(5, .int 0), (4, .int 0), (0, .ref (a 0)), (1, .int p0), (2, .int p1), (3, .int p2)] (Nat.le_of_ble_eq_true rfl) rfl dX2_storeFlags_53 ?_
        obtain ⟨r22, hr22, hxr22, hrr22⟩ := bl_some hf
        refine g_perm [2, 3, 4, 5, 1, 0] rfl (b_X2_storeFlags_L55 o (Nat.le_of_ble_eq_true rfl) (Nat.le_of_ble_eq_true rfl) a p0 p1 p2 r22 (fun s55 hs => ?_) (fun t21 ht => ?_) FU (0, 0, (ua (us u 0 0) 16 (upd ((us u 0 0) 16) p0.toNatClampNeg p1))) hr22)
        · have hf := hxr22 s55 hs
          obtain ⟨s55_0, s55_1, s55_2⟩ := s55
          try dsimp -simprocs only at hf ⊢
          refine g_iload o 0 rfl dX2_storeFlags_118 ?_
          cases Option.some.inj hf
          exact g_iret hret (Nat.le_of_ble_eq_true rfl) (Nat.le_of_ble_eq_true rfl) (vp_nar_int _) dX2_storeFlags_120
        · have hf := hrr22 t21 ht
          cases Option.some.inj hf
          exact hret
      · refine g_aload_n o 0 rfl rfl dX2_storeFlags_31 ?_
        refine g_iconst o ic_2 dX2_storeFlags_32 ?_
        obtain ⟨r23, hr23, hf⟩ := bd_some hf
        refine k_X2_fails_ o hr23 m_995 (Nat.le_of_ble_eq_true rfl) (Nat.le_of_ble_eq_true rfl) ⟨(Nat.le_of_ble_eq_true rfl), (Nat.le_of_ble_eq_true rfl)⟩ dX2_storeFlags_33 ?_
        cases Option.some.inj hf
        exact g_iret hret (Nat.le_of_ble_eq_true rfl) (Nat.le_of_ble_eq_true rfl) (vp_nar_int _) dX2_storeFlags_36
    · refine g_aload_n o 0 rfl rfl dX2_storeFlags_15 ?_
      refine g_iconst o ic_1 dX2_storeFlags_16 ?_
      obtain ⟨r24, hr24, hf⟩ := bd_some hf
      refine k_X2_fails_ o hr24 m_995 (Nat.le_of_ble_eq_true rfl) (Nat.le_of_ble_eq_true rfl) ⟨(Nat.le_of_ble_eq_true rfl), (Nat.le_of_ble_eq_true rfl)⟩ dX2_storeFlags_17 ?_
      cases Option.some.inj hf
      exact g_iret hret (Nat.le_of_ble_eq_true rfl) (Nat.le_of_ble_eq_true rfl) (vp_nar_int _) dX2_storeFlags_20
theorem c_X2_storeFlags (l : Launch) (hst : l.stackTraces = false) (a : Nat → Nat) (u : St) (p0 : Int32) (p1 : Int32) (p2 : Int32) (t : Int32 × St) (hf : f_X2_storeFlags u p0 p1 p2 = some t) : CoI l yX2_storeFlags (.code yX2_storeFlags cX2_storeFlags 7 (some .int)) 1 0 0 [.ref (a 0), .int p0, .int p1, .int p2] (wM a u) (wM a t.2) (.inl t.1) := mkI hst (by decide +kernel) (Nat.le_of_ble_eq_true rfl) (fun x _ o hI hX => b_X2_storeFlags o a u p0 p1 p2 t hf (hI _ rfl))
def rt_X2_setFlag (x : Cx) (a : Nat → Nat) (t : Int32 × St) : Prop := RetI x cX2_setFlag .boolean 0 0 (wM a t.2 (cxT x)) t.1
set_option maxRecDepth 20000 in
set_option maxHeartbeats 2000000 in
theorem b_X2_setFlag {x : Cx} (o : Ok x cX2_setFlag 5 RX2 1 0 0) (a : Nat → Nat) (u : St) (p0 : Int32) (p1 : Int32) (p2 : Int32) (t : Int32 × St) (hf : f_X2_setFlag u p0 p1 p2 = some t) (hret : rt_X2_setFlag x a t) : G x 5 0 0 (wM a u (cxT x)) [(0, .ref (a 0)), (1, .int p0), (2, .int p1), (3, .int p2)] 0 [] := by
  unfold f_X2_setFlag at hf
  refine g_iload_n o 1 rfl rfl dX2_setFlag_0 ?_
  obtain ⟨r7, hr7, hf⟩ := bd_some hf
  refine k_X2_isSlot_ o hr7 m_1287 (Nat.le_of_ble_eq_true rfl) (Nat.le_of_ble_eq_true rfl) ⟨(Nat.le_of_ble_eq_true rfl), (Nat.le_of_ble_eq_true rfl)⟩ dX2_setFlag_1 ?_
  refine g_if_ne (tgt := 13) o rfl dX2_setFlag_4 hf (fun hc hf => ?_) (fun hc hf => ?_)
  · refine g_aload_n o 0 rfl rfl dX2_setFlag_13 ?_
    refine M_get16 o m_935 dX2_setFlag_14 ?_
    refine g_iload_n o 1 rfl rfl dX2_setFlag_17 ?_
    refine M_ld16 o dX2_setFlag_18 hf (fun hf => ?_)
    refine g_if_ge (tgt := 28) o rfl dX2_setFlag_19 hf (fun hc hf => ?_) (fun hc hf => ?_)
    · refine g_iload_n o 2 rfl rfl dX2_setFlag_28 ?_
      refine g_iconst o ic_0 dX2_setFlag_29 ?_
      refine g_aload_n o 0 rfl rfl dX2_setFlag_30 ?_
      refine M_get16 o m_935 dX2_setFlag_31 ?_
      refine g_iload_n o 1 rfl rfl dX2_setFlag_34 ?_
      refine M_ld16 o dX2_setFlag_35 hf (fun hf => ?_)
      refine g_iconst o ic_1 dX2_setFlag_36 ?_
      refine g_isub o dX2_setFlag_37 ?_
      obtain ⟨r8, hr8, hf⟩ := bd_some hf
      refine k_X2_isBetween_ o hr8 m_992 (Nat.le_of_ble_eq_true rfl) (Nat.le_of_ble_eq_true rfl) ⟨(Nat.le_of_ble_eq_true rfl), (Nat.le_of_ble_eq_true rfl)⟩ dX2_setFlag_38 ?_
      refine g_if_ne (tgt := 50) o rfl dX2_setFlag_41 hf (fun hc hf => ?_) (fun hc hf => ?_)
      · refine g_aload_n o 0 rfl rfl dX2_setFlag_50 ?_
        refine g_iconst o ic_0 dX2_setFlag_51 ?_
        refine M_put0 o m_919 dX2_setFlag_52 ?_
        refine g_aload_n o 0 rfl rfl dX2_setFlag_55 ?_
        refine M_get15 o m_934 dX2_setFlag_56 ?_
        refine g_bipush o bp_16 dX2_setFlag_59 ?_
        refine g_iload_n o 1 rfl rfl dX2_setFlag_61 ?_
        refine g_imul o dX2_setFlag_62 ?_
        refine g_iload_n o 2 rfl rfl dX2_setFlag_63 ?_
        refine g_iadd o dX2_setFlag_64 ?_
        refine M_ld15 o dX2_setFlag_65 hf (fun hf => ?_)
        refine g_nmi hf (fun x9 hf => ?_)
        refine g_istore o [(4, .int x9), (0, .ref (a 0)), (1, .int p0), (2, .int p1), (3, .int p2)] (Nat.le_of_ble_eq_true rfl) rfl dX2_setFlag_66 ?_
        refine g_aload_n o 1 rfl rfl dX2_setFlag_68 ?_
        refine M_get15 o m_934 dX2_setFlag_69 ?_
        refine g_bipush o bp_16 dX2_setFlag_72 ?_
        refine g_iload_n o 2 rfl rfl dX2_setFlag_74 ?_
        refine g_imul o dX2_setFlag_75 ?_
        refine g_iload_n o 3 rfl rfl dX2_setFlag_76 ?_
        refine g_iadd o dX2_setFlag_77 ?_
        refine g_iload_n o 4 rfl rfl dX2_setFlag_78 ?_
        refine M_st15 o dX2_setFlag_79 hf (fun hf => ?_)
        refine g_iload o 0 rfl dX2_setFlag_80 ?_
        obtain ⟨hb, hf⟩ := gd_some hf
        cases Option.some.inj hf
        exact g_iret hret (Nat.le_of_ble_eq_true rfl) (Nat.le_of_ble_eq_true rfl) (okB_n hb) dX2_setFlag_82
      · refine g_aload_n o 0 rfl rfl dX2_setFlag_44 ?_
        refine g_iconst o ic_1 dX2_setFlag_45 ?_
        obtain ⟨r10, hr10, hf⟩ := bd_some hf
        refine k_X2_refuses_ o hr10 m_1093 (Nat.le_of_ble_eq_true rfl) (Nat.le_of_ble_eq_true rfl) ⟨(Nat.le_of_ble_eq_true rfl), (Nat.le_of_ble_eq_true rfl)⟩ dX2_setFlag_46 ?_
        obtain ⟨hb, hf⟩ := gd_some hf
        cases Option.some.inj hf
        exact g_iret hret (Nat.le_of_ble_eq_true rfl) (Nat.le_of_ble_eq_true rfl) (okB_n hb) dX2_setFlag_49
    · refine g_aload_n o 0 rfl rfl dX2_setFlag_22 ?_
      refine g_iconst o ic_2 dX2_setFlag_23 ?_
      obtain ⟨r11, hr11, hf⟩ := bd_some hf
      refine k_X2_refuses_ o hr11 m_1093 (Nat.le_of_ble_eq_true rfl) (Nat.le_of_ble_eq_true rfl) ⟨(Nat.le_of_ble_eq_true rfl), (Nat.le_of_ble_eq_true rfl)⟩ dX2_setFlag_24 ?_
      obtain ⟨hb, hf⟩ := gd_some hf
      cases Option.some.inj hf
      exact g_iret hret (Nat.le_of_ble_eq_true rfl) (Nat.le_of_ble_eq_true rfl) (okB_n hb) dX2_setFlag_27
  · refine g_aload_n o 0 rfl rfl dX2_setFlag_7 ?_
    refine g_iconst o ic_1 dX2_setFlag_8 ?_
    obtain ⟨r12, hr12, hf⟩ := bd_some hf
    refine k_X2_refuses_ o hr12 m_1093 (Nat.le_of_ble_eq_true rfl) (Nat.le_of_ble_eq_true rfl) ⟨(Nat.le_of_ble_eq_true rfl), (Nat.le_of_ble_eq_true rfl)⟩ dX2_setFlag_9 ?_
    obtain ⟨hb, hf⟩ := gd_some hf
    cases Option.some.inj hf
    exact g_iret hret (Nat.le_of_ble_eq_true rfl) (Nat.le_of_ble_eq_true rfl) (okB_n hb) dX2_setFlag_12
theorem c_X2_setFlag (l : Launch) (hst : l.stackTraces = false) (a : Nat → Nat) (u : St) (p0 : Int32) (p1 : Int32) (p2 : Int32) (t : Int32 × St) (hf : f_X2_setFlag u p0 p1 p2 = some t) : CoI l yX2_setFlag (.code yX2_setFlag cX2_setFlag 5 (some .boolean)) 1 0 0 [.ref (a 0), .int p0, .int p1, .int p2] (wM a u) (wM a t.2) (.inl t.1) := mkI hst (by decide +kernel) (Nat.le_of_ble_eq_true rfl) (fun x _ o hI hX => b_X2_setFlag o a u p0 p1 p2 t hf (hI _ rfl))
def rt_X2_takeFlags (x : Cx) (a : Nat → Nat) (t : Int32 × St) : Prop := RetI x cX2_takeFlags .int 0 0 (wM a t.2 (cxT x)) t.1
set_option maxRecDepth 20000 in
set_option maxHeartbeats 2000000 in
theorem b_X2_takeFlags_L46 {x : Cx} (o : Ok x cX2_takeFlags 5 RX2 1 0 0) {k n : Nat} (hk : k ≤ 0) (hn : n ≤ 0) (a : Nat → Nat) (u : St) (c1 : Int32) (c2 : Int32) (r : (Int32 × Int32) ⊕ (Int32 × St)) (hX : ∀ s : Int32 × Int32, r = .inl s → G x 5 k n (wM a u (cxT x)) [(0, .ref (a 0)), (2, .int c2), (3, .int s.1)] 102 []) (hR : ∀ t, r = .inr t → rt_X2_takeFlags x a t) : ∀ (m : Nat) (s : Int32 × Int32), loopN (f_X2_takeFlags_s46 u c1 c2) m s = some r → G x 5 k n (wM a u (cxT x)) [(0, .ref (a 0)), (1, .int c1), (2, .int c2), (3, .int s.1), (4, .int s.2)] 46 [] := by
  refine loop_W _ (fun (s : Int32 × Int32) => G x 5 k n (wM a u (cxT x)) [(0, .ref (a 0)), (1, .int c1), (2, .int c2), (3, .int s.1), (4, .int s.2)] 46 []) r ?_
  intro s ww hf hw
  unfold f_X2_takeFlags_s46 at hf
  obtain ⟨s_0, s_1⟩ := s
  try dsimp -simprocs only at hf ⊢
  refine g_iload o 4 rfl dX2_takeFlags_46 ?_
  refine g_aload_n o 0 rfl rfl dX2_takeFlags_48 ?_
  refine M_get16 o m_935 dX2_takeFlags_49 ?_
  refine g_iload_n o 1 rfl rfl dX2_takeFlags_52 ?_
  refine M_ld16 o dX2_takeFlags_53 hf (fun hf => ?_)
  refine g_ic_ge (tgt := 102) o rfl dX2_takeFlags_54 hf (fun hc hf => ?_) (fun hc hf => ?_)
  · exact g_perm [0, 2, 3] rfl (hX _ (lf_x hf hw))
  · refine g_iload o 4 rfl dX2_takeFlags_57 ?_
    refine g_iconst o ic_1 dX2_takeFlags_59 ?_
    refine g_aload_n o 0 rfl rfl dX2_takeFlags_60 ?_
    refine M_get1 o m_920 dX2_takeFlags_61 ?_
    refine g_iload_n o 2 rfl rfl dX2_takeFlags_64 ?_
    refine M_ld1 o dX2_takeFlags_65 hf (fun hf => ?_)
    refine g_ishl o dX2_takeFlags_66 ?_
    refine g_ic_ge (tgt := 102) o rfl dX2_takeFlags_67 hf (fun hc hf => ?_) (fun hc hf => ?_)
    · exact g_perm [0, 2, 3] rfl (hX _ (lf_x hf hw))
    · refine g_iload_n o 3 rfl rfl dX2_takeFlags_70 ?_
      refine g_aload_n o 0 rfl rfl dX2_takeFlags_71 ?_
      refine M_get15 o m_934 dX2_takeFlags_72 ?_
      refine g_bipush o bp_16 dX2_takeFlags_75 ?_
      refine g_iload_n o 1 rfl rfl dX2_takeFlags_77 ?_
      refine g_imul o dX2_takeFlags_78 ?_
      refine g_iload o 4 rfl dX2_takeFlags_79 ?_
      refine g_iadd o dX2_takeFlags_81 ?_
      refine M_ld15 o dX2_takeFlags_82 hf (fun hf => ?_)
      refine g_if_eq (tgt := 93) o rfl dX2_takeFlags_83 hf (fun hc hf => ?_) (fun hc hf => ?_)
      · refine g_iconst o ic_0 dX2_takeFlags_93 ?_
        refine g_ior o dX2_takeFlags_94 ?_
        refine g_nmi hf (fun x6 hf => ?_)
        refine g_istore_n o [(3, .int x6), (0, .ref (a 0)), (1, .int c1), (2, .int c2), (4, .int s_1)] (Nat.le_of_ble_eq_true rfl) rfl rfl dX2_takeFlags_95 ?_
        refine g_iinc o [(4, .int (s_1 + 1)), (3, .int x6), (0, .ref (a 0)), (1, .int c1), (2, .int c2)] 4 rfl (inc_1 _) (Nat.le_of_ble_eq_true rfl) rfl dX2_takeFlags_96 ?_
        refine g_goto (tgt := 46) o rfl dX2_takeFlags_99 ?_
        have hp := lf_c hf hw
        exact g_perm [2, 3, 4, 1, 0] rfl hp
      · refine g_iconst o ic_1 dX2_takeFlags_86 ?_
        refine g_iload o 4 rfl dX2_takeFlags_87 ?_
        refine g_ishl o dX2_takeFlags_89 ?_
        refine g_goto (tgt := 94) o rfl dX2_takeFlags_90 ?_
        refine g_ior o dX2_takeFlags_94 ?_
        refine g_nmi hf (fun x7 hf => ?_)
        refine g_istore_n o [(3, .int x7), (0, .ref (a 0)), (1, .int c1), (2, .int c2), (4, .int s_1)] (Nat.le_of_ble_eq_true rfl) rfl rfl dX2_takeFlags_95 ?_
        refine g_iinc o [(4, .int (s_1 + 1)), (3, .int x7), (0, .ref (a 0)), (1, .int c1), (2, .int c2)] 4 rfl (inc_1 _) (Nat.le_of_ble_eq_true rfl) rfl dX2_takeFlags_96 ?_
        refine g_goto (tgt := 46) o rfl dX2_takeFlags_99 ?_
        have hp := lf_c hf hw
        exact g_perm [2, 3, 4, 1, 0] rfl hp
set_option maxRecDepth 20000 in
set_option maxHeartbeats 2000000 in
theorem b_X2_takeFlags {x : Cx} (o : Ok x cX2_takeFlags 5 RX2 1 0 0) (a : Nat → Nat) (u : St) (p0 : Int32) (p1 : Int32) (t : Int32 × St) (hf : f_X2_takeFlags u p0 p1 = some t) (hret : rt_X2_takeFlags x a t) : G x 5 0 0 (wM a u (cxT x)) [(0, .ref (a 0)), (1, .int p0), (2, .int p1)] 0 [] := by
  unfold f_X2_takeFlags at hf
  refine g_iload_n o 1 rfl rfl dX2_takeFlags_0 ?_
  obtain ⟨r13, hr13, hf⟩ := bd_some hf
  refine k_X2_isSlot_ o hr13 m_1287 (Nat.le_of_ble_eq_true rfl) (Nat.le_of_ble_eq_true rfl) ⟨(Nat.le_of_ble_eq_true rfl), (Nat.le_of_ble_eq_true rfl)⟩ dX2_takeFlags_1 ?_
  refine g_if_eq (tgt := 15) o rfl dX2_takeFlags_4 hf (fun hc hf => ?_) (fun hc hf => ?_)
  · refine g_aload_n o 0 rfl rfl dX2_takeFlags_15 ?_
    refine g_iconst o ic_1 dX2_takeFlags_16 ?_
    obtain ⟨r14, hr14, hf⟩ := bd_some hf
    refine k_X2_fails_ o hr14 m_995 (Nat.le_of_ble_eq_true rfl) (Nat.le_of_ble_eq_true rfl) ⟨(Nat.le_of_ble_eq_true rfl), (Nat.le_of_ble_eq_true rfl)⟩ dX2_takeFlags_17 ?_
    cases Option.some.inj hf
    exact g_iret hret (Nat.le_of_ble_eq_true rfl) (Nat.le_of_ble_eq_true rfl) (vp_nar_int _) dX2_takeFlags_20
  · refine g_aload_n o 0 rfl rfl dX2_takeFlags_7 ?_
    refine g_iload_n o 2 rfl rfl dX2_takeFlags_8 ?_
    obtain ⟨r15, hr15, hf⟩ := bd_some hf
    refine k_X2_isRelation_ o hr15 m_1031 (Nat.le_of_ble_eq_true rfl) (Nat.le_of_ble_eq_true rfl) ⟨(Nat.le_of_ble_eq_true rfl), (Nat.le_of_ble_eq_true rfl)⟩ dX2_takeFlags_9 ?_
    refine g_if_ne (tgt := 21) o rfl dX2_takeFlags_12 hf (fun hc hf => ?_) (fun hc hf => ?_)
    · refine g_aload_n o 0 rfl rfl dX2_takeFlags_21 ?_
      refine M_get16 o m_935 dX2_takeFlags_22 ?_
      refine g_iload_n o 1 rfl rfl dX2_takeFlags_25 ?_
      refine M_ld16 o dX2_takeFlags_26 hf (fun hf => ?_)
      refine g_if_ge (tgt := 36) o rfl dX2_takeFlags_27 hf (fun hc hf => ?_) (fun hc hf => ?_)
      · refine g_aload_n o 0 rfl rfl dX2_takeFlags_36 ?_
        refine g_iconst o ic_0 dX2_takeFlags_37 ?_
        refine M_put0 o m_919 dX2_takeFlags_38 ?_
        refine g_iconst o ic_0 dX2_takeFlags_41 ?_
        refine g_istore_n o [(3, .int 0), (0, .ref (a 0)), (1, .int p0), (2, .int p1)] (Nat.le_of_ble_eq_true rfl) rfl rfl dX2_takeFlags_42 ?_
        refine g_iconst o ic_0 dX2_takeFlags_43 ?_
        refine g_istore o [(4, .int 0), (3, .int 0), (0, .ref (a 0)), (1, .int p0), (2, .int p1)] (Nat.le_of_ble_eq_true rfl) rfl dX2_takeFlags_44 ?_
        obtain ⟨r17, hr17, hxr17, hrr17⟩ := bl_some hf
        refine g_perm [2, 3, 4, 1, 0] rfl (b_X2_takeFlags_L46 o (Nat.le_of_ble_eq_true rfl) (Nat.le_of_ble_eq_true rfl) a (us u 0 0) p0 p1 r17 (fun s46 hs => ?_) (fun t16 ht => ?_) FU (0, 0) hr17)
        · have hf := hxr17 s46 hs
          obtain ⟨s46_0, s46_1⟩ := s46
          try dsimp -simprocs only at hf ⊢
          refine g_aload_n o 0 rfl rfl dX2_takeFlags_102 ?_
          refine M_get2 o m_921 dX2_takeFlags_103 ?_
          refine g_iload_n o 1 rfl rfl dX2_takeFlags_106 ?_
          refine g_iload_n o 2 rfl rfl dX2_takeFlags_107 ?_
          refine M_st2 o dX2_takeFlags_108 hf (fun hf => ?_)
          refine g_iload_n o 2 rfl rfl dX2_takeFlags_109 ?_
          obtain ⟨r18, hr18, hf⟩ := bd_some hf
          refine k_X2_bits_ o hr18 m_1020 (Nat.le_of_ble_eq_true rfl) (Nat.le_of_ble_eq_true rfl) ⟨(Nat.le_of_ble_eq_true rfl), (Nat.le_of_ble_eq_true rfl)⟩ dX2_takeFlags_110 ?_
          cases Option.some.inj hf
          exact g_iret hret (Nat.le_of_ble_eq_true rfl) (Nat.le_of_ble_eq_true rfl) (vp_nar_int _) dX2_takeFlags_113
        · have hf := hrr17 t16 ht
          cases Option.some.inj hf
          exact hret
      · refine g_aload_n o 0 rfl rfl dX2_takeFlags_30 ?_
        refine g_iconst o ic_2 dX2_takeFlags_31 ?_
        obtain ⟨r19, hr19, hf⟩ := bd_some hf
        refine k_X2_fails_ o hr19 m_995 (Nat.le_of_ble_eq_true rfl) (Nat.le_of_ble_eq_true rfl) ⟨(Nat.le_of_ble_eq_true rfl), (Nat.le_of_ble_eq_true rfl)⟩ dX2_takeFlags_32 ?_
        cases Option.some.inj hf
        exact g_iret hret (Nat.le_of_ble_eq_true rfl) (Nat.le_of_ble_eq_true rfl) (vp_nar_int _) dX2_takeFlags_35
    · refine g_aload_n o 0 rfl rfl dX2_takeFlags_15 ?_
      refine g_iconst o ic_1 dX2_takeFlags_16 ?_
      obtain ⟨r20, hr20, hf⟩ := bd_some hf
      refine k_X2_fails_ o hr20 m_995 (Nat.le_of_ble_eq_true rfl) (Nat.le_of_ble_eq_true rfl) ⟨(Nat.le_of_ble_eq_true rfl), (Nat.le_of_ble_eq_true rfl)⟩ dX2_takeFlags_17 ?_
      cases Option.some.inj hf
      exact g_iret hret (Nat.le_of_ble_eq_true rfl) (Nat.le_of_ble_eq_true rfl) (vp_nar_int _) dX2_takeFlags_20
theorem c_X2_takeFlags (l : Launch) (hst : l.stackTraces = false) (a : Nat → Nat) (u : St) (p0 : Int32) (p1 : Int32) (t : Int32 × St) (hf : f_X2_takeFlags u p0 p1 = some t) : CoI l yX2_takeFlags (.code yX2_takeFlags cX2_takeFlags 5 (some .int)) 1 0 0 [.ref (a 0), .int p0, .int p1] (wM a u) (wM a t.2) (.inl t.1) := mkI hst (by decide +kernel) (Nat.le_of_ble_eq_true rfl) (fun x _ o hI hX => b_X2_takeFlags o a u p0 p1 t hf (hI _ rfl))
def rt_X2_passes (x : Cx) (a : Nat → Nat) (t : Int32 × St) : Prop := RetI x cX2_passes .int 0 0 (wM a t.2 (cxT x)) t.1
set_option maxRecDepth 20000 in
set_option maxHeartbeats 2000000 in
theorem b_X2_passes {x : Cx} (o : Ok x cX2_passes 3 RX2 0 0 0) (a : Nat → Nat) (u : St) (p0 : Int32) (t : Int32 × St) (hf : f_X2_passes u p0 = some t) (hret : rt_X2_passes x a t) : G x 3 0 0 (wM a u (cxT x)) [(0, .ref (a 0)), (1, .int p0)] 0 [] := by
  unfold f_X2_passes at hf
  refine g_aload_n o 0 rfl rfl dX2_passes_0 ?_
  refine M_get20 o m_939 dX2_passes_1 ?_
  refine g_if_eq (tgt := 11) o rfl dX2_passes_4 hf (fun hc hf => ?_) (fun hc hf => ?_)
  · refine g_aload_n o 0 rfl rfl dX2_passes_11 ?_
    refine M_get17 o m_936 dX2_passes_12 ?_
    refine g_aload_n o 0 rfl rfl dX2_passes_15 ?_
    refine M_get18 o m_937 dX2_passes_16 ?_
    refine M_ld17 o dX2_passes_19 hf (fun hf => ?_)
    refine g_nmi hf (fun x2 hf => ?_)
    refine g_istore_n o [(2, .int x2), (0, .ref (a 0)), (1, .int p0)] (Nat.le_of_ble_eq_true rfl) rfl rfl dX2_passes_20 ?_
    refine g_aload_n o 1 rfl rfl dX2_passes_21 ?_
    refine M_get17 o m_936 dX2_passes_22 ?_
    refine g_aload_n o 1 rfl rfl dX2_passes_25 ?_
    refine M_get18 o m_937 dX2_passes_26 ?_
    refine g_iload_n o 0 rfl rfl dX2_passes_29 ?_
    refine M_st17 o dX2_passes_30 hf (fun hf => ?_)
    refine g_aload_n o 1 rfl rfl dX2_passes_31 ?_
    refine g_dup o rfl dX2_passes_32 ?_
    refine M_get18 o m_937 dX2_passes_33 ?_
    refine g_iconst o ic_1 dX2_passes_36 ?_
    refine g_iadd o dX2_passes_37 ?_
    refine M_put18 o m_937 dX2_passes_38 ?_
    refine g_iload_n o 0 rfl rfl dX2_passes_41 ?_
    cases Option.some.inj hf
    exact g_iret hret (Nat.le_of_ble_eq_true rfl) (Nat.le_of_ble_eq_true rfl) (vp_nar_int _) dX2_passes_42
  · refine g_iload_n o 1 rfl rfl dX2_passes_7 ?_
    refine g_goto (tgt := 20) o rfl dX2_passes_8 ?_
    refine g_istore_n o [(2, .int p0), (0, .ref (a 0)), (1, .int p0)] (Nat.le_of_ble_eq_true rfl) rfl rfl dX2_passes_20 ?_
    refine g_aload_n o 1 rfl rfl dX2_passes_21 ?_
    refine M_get17 o m_936 dX2_passes_22 ?_
    refine g_aload_n o 1 rfl rfl dX2_passes_25 ?_
    refine M_get18 o m_937 dX2_passes_26 ?_
    refine g_iload_n o 0 rfl rfl dX2_passes_29 ?_
    refine M_st17 o dX2_passes_30 hf (fun hf => ?_)
    refine g_aload_n o 1 rfl rfl dX2_passes_31 ?_
    refine g_dup o rfl dX2_passes_32 ?_
    refine M_get18 o m_937 dX2_passes_33 ?_
    refine g_iconst o ic_1 dX2_passes_36 ?_
    refine g_iadd o dX2_passes_37 ?_
    refine M_put18 o m_937 dX2_passes_38 ?_
    refine g_iload_n o 0 rfl rfl dX2_passes_41 ?_
    cases Option.some.inj hf
    exact g_iret hret (Nat.le_of_ble_eq_true rfl) (Nat.le_of_ble_eq_true rfl) (vp_nar_int _) dX2_passes_42
theorem c_X2_passes (l : Launch) (hst : l.stackTraces = false) (a : Nat → Nat) (u : St) (p0 : Int32) (t : Int32 × St) (hf : f_X2_passes u p0 = some t) : CoI l yX2_passes (.code yX2_passes cX2_passes 3 (some .int)) 0 0 0 [.ref (a 0), .int p0] (wM a u) (wM a t.2) (.inl t.1) := mkI hst (by decide +kernel) (Nat.le_of_ble_eq_true rfl) (fun x _ o hI hX => b_X2_passes o a u p0 t hf (hI _ rfl))
theorem k_X2_passes_ {x : Cx} {cc : ByteArray} {nL : Nat} {own : String} {d mc ms k n : Nat} {lv : List (Nat × Value)} {pc i : Nat} {rest : List Value} {a : Nat → Nat} {u : St} {p0 : Int32} (o : Ok x cc nL own d mc ms) {t : Int32 × St} (ht : f_X2_passes u p0 = some t) (hlk : Cond.methodLink own i yX2_passes ∈ Ug) (hd : 0 < d) (hr : (rest.map fun v => v.category).sum ≤ 8) (hk : k + 0 ≤ mc ∧ n + 0 ≤ ms) (dg : decode cc pc = .ok (.invokevirtual i, 3)) (kk : G x nL (k + 0) (n + 0) (wM a t.2 (cxT x)) lv (pc + 3) (.int t.1 :: rest)) : G x nL k n (wM a u (cxT x)) lv pc (.int p0 :: .ref (a 0) :: rest) := gcI (wd2 := (wM a t.2 (cxT x))) o (c_X2_passes (cxl x) o.2.2.2.2.2.2.2.2.2.1 a u p0 t ht) (can_V (q0 := 0) o rfl rfl hd (Nat.le_of_ble_eq_true rfl) m_1309 m_56 m_1308 m_51 hlk yk_X2_passes rfl hr hk dg) sp_M (fun E h => by cases h) (fun r h => by cases h; exact kk)
def rt_X2_passAll_1 (x : Cx) (a : Nat → Nat) (t : St) : Prop := RetV x cX2_passAll 0 0 (wM a t (cxT x))
set_option maxRecDepth 20000 in
set_option maxHeartbeats 2000000 in
theorem b_X2_passAll_1_L2 {x : Cx} (o : Ok x cX2_passAll 3 RX2 1 0 0) {k n : Nat} (hk : k ≤ 0) (hn : n ≤ 0) (a : Nat → Nat) (r : (Int32 × St) ⊕ (St)) (hX : ∀ s : Int32 × St, r = .inl s → G x 3 k n (wM a s.2 (cxT x)) [] 24 []) (hR : ∀ t, r = .inr t → rt_X2_passAll_1 x a t) : ∀ (m : Nat) (s : Int32 × St), loopN f_X2_passAll_1_s2 m s = some r → G x 3 k n (wM a s.2 (cxT x)) [(0, .ref (a 0)), (1, .ref (a 1)), (2, .int s.1)] 2 [] := by
  refine loop_W _ (fun (s : Int32 × St) => G x 3 k n (wM a s.2 (cxT x)) [(0, .ref (a 0)), (1, .ref (a 1)), (2, .int s.1)] 2 []) r ?_
  intro s ww hf hw
  unfold f_X2_passAll_1_s2 at hf
  obtain ⟨s_0, s_1⟩ := s
  try dsimp -simprocs only at hf ⊢
  refine g_iload_n o 2 rfl rfl dX2_passAll_2 ?_
  refine g_aload_n o 1 rfl rfl dX2_passAll_3 ?_
  refine M_len1 o dX2_passAll_4 ?_
  refine g_ic_ge (tgt := 24) o rfl dX2_passAll_5 hf (fun hc hf => ?_) (fun hc hf => ?_)
  · exact g_perm [] rfl (hX _ (lf_x hf hw))
  · refine g_aload_n o 1 rfl rfl dX2_passAll_8 ?_
    refine g_iload_n o 2 rfl rfl dX2_passAll_9 ?_
    refine g_aload_n o 0 rfl rfl dX2_passAll_10 ?_
    refine g_aload_n o 1 rfl rfl dX2_passAll_11 ?_
    refine g_iload_n o 2 rfl rfl dX2_passAll_12 ?_
    refine M_ld1 o dX2_passAll_13 hf (fun hf => ?_)
    obtain ⟨r2, hr2, hf⟩ := bd_some hf
    refine k_X2_passes_ o hr2 m_1306 (Nat.le_of_ble_eq_true rfl) (Nat.le_of_ble_eq_true rfl) ⟨hk, hn⟩ dX2_passAll_14 ?_
    refine M_st1 o dX2_passAll_17 hf (fun hf => ?_)
    refine g_iinc o [(2, .int (s_0 + 1)), (0, .ref (a 0)), (1, .ref (a 1))] 2 rfl (inc_1 _) (Nat.le_of_ble_eq_true rfl) rfl dX2_passAll_18 ?_
    refine g_goto (tgt := 2) o rfl dX2_passAll_21 ?_
    have hp := lf_c hf hw
    exact g_perm [1, 2, 0] rfl hp
set_option maxRecDepth 20000 in
set_option maxHeartbeats 2000000 in
theorem b_X2_passAll_1 {x : Cx} (o : Ok x cX2_passAll 3 RX2 1 0 0) (a : Nat → Nat) (u : St) (t : St) (hf : f_X2_passAll_1 u = some t) (hret : rt_X2_passAll_1 x a t) : G x 3 0 0 (wM a u (cxT x)) [(0, .ref (a 0)), (1, .ref (a 1))] 0 [] := by
  unfold f_X2_passAll_1 at hf
  refine g_iconst o ic_0 dX2_passAll_0 ?_
  refine g_istore_n o [(2, .int 0), (0, .ref (a 0)), (1, .ref (a 1))] (Nat.le_of_ble_eq_true rfl) rfl rfl dX2_passAll_1 ?_
  obtain ⟨r6, hr6, hxr6, hrr6⟩ := bl_some hf
  refine g_perm [1, 2, 0] rfl (b_X2_passAll_1_L2 o (Nat.le_of_ble_eq_true rfl) (Nat.le_of_ble_eq_true rfl) a  r6 (fun s2 hs => ?_) (fun t5 ht => ?_) FU (0, u) hr6)
  · have hf := hxr6 s2 hs
    obtain ⟨s2_0, s2_1⟩ := s2
    try dsimp -simprocs only at hf ⊢
    cases Option.some.inj hf
    exact g_vret hret (Nat.le_of_ble_eq_true rfl) (Nat.le_of_ble_eq_true rfl) dX2_passAll_24
  · have hf := hrr6 t5 ht
    cases Option.some.inj hf
    exact hret
theorem c_X2_passAll_1 (l : Launch) (hst : l.stackTraces = false) (a : Nat → Nat) (u : St) (t : St) (hf : f_X2_passAll_1 u = some t) : CoV l yX2_passAll (.code yX2_passAll cX2_passAll 3 none) 1 0 0 [.ref (a 0), .ref (a 1)] (wM a u) (wM a t) (.inl ()) := mkV hst (by decide +kernel) (Nat.le_of_ble_eq_true rfl) (fun x _ o hI hX => b_X2_passAll_1 o a u t hf (hI rfl))
theorem k_X2_passAll_1_ {x : Cx} {cc : ByteArray} {nL : Nat} {own : String} {d mc ms k n : Nat} {lv : List (Nat × Value)} {pc i : Nat} {rest : List Value} {a : Nat → Nat} {u : St} (o : Ok x cc nL own d mc ms) {t : St} (ht : f_X2_passAll_1 u = some t) (hlk : Cond.methodLink own i yX2_passAll ∈ Ug) (hd : 1 < d) (hr : (rest.map fun v => v.category).sum ≤ 8) (hk : k + 0 ≤ mc ∧ n + 0 ≤ ms) (dg : decode cc pc = .ok (.invokevirtual i, 3)) (kk : G x nL (k + 0) (n + 0) (wM a t (cxT x)) lv (pc + 3) rest) : G x nL k n (wM a u (cxT x)) lv pc (.ref (a 1) :: .ref (a 0) :: rest) := gcV (wd2 := (wM a t (cxT x))) o (c_X2_passAll_1 (cxl x) o.2.2.2.2.2.2.2.2.2.1 a u t ht) (can_V (q0 := 0) o rfl rfl hd (Nat.le_of_ble_eq_true rfl) m_1313 m_56 m_1312 m_52 hlk yk_X2_passAll rfl hr hk dg) sp_M (fun E h => by cases h) (fun h => kk)
def rt_X2_passAll_2 (x : Cx) (a : Nat → Nat) (t : St) : Prop := RetV x cX2_passAll 0 0 (wM a t (cxT x))
set_option maxRecDepth 20000 in
set_option maxHeartbeats 2000000 in
theorem b_X2_passAll_2_L2 {x : Cx} (o : Ok x cX2_passAll 3 RX2 1 0 0) {k n : Nat} (hk : k ≤ 0) (hn : n ≤ 0) (a : Nat → Nat) (r : (Int32 × St) ⊕ (St)) (hX : ∀ s : Int32 × St, r = .inl s → G x 3 k n (wM a s.2 (cxT x)) [] 24 []) (hR : ∀ t, r = .inr t → rt_X2_passAll_2 x a t) : ∀ (m : Nat) (s : Int32 × St), loopN f_X2_passAll_2_s2 m s = some r → G x 3 k n (wM a s.2 (cxT x)) [(0, .ref (a 0)), (1, .ref (a 2)), (2, .int s.1)] 2 [] := by
  refine loop_W _ (fun (s : Int32 × St) => G x 3 k n (wM a s.2 (cxT x)) [(0, .ref (a 0)), (1, .ref (a 2)), (2, .int s.1)] 2 []) r ?_
  intro s ww hf hw
  unfold f_X2_passAll_2_s2 at hf
  obtain ⟨s_0, s_1⟩ := s
  try dsimp -simprocs only at hf ⊢
  refine g_iload_n o 2 rfl rfl dX2_passAll_2 ?_
  refine g_aload_n o 1 rfl rfl dX2_passAll_3 ?_
  refine M_len2 o dX2_passAll_4 ?_
  refine g_ic_ge (tgt := 24) o rfl dX2_passAll_5 hf (fun hc hf => ?_) (fun hc hf => ?_)
  · exact g_perm [] rfl (hX _ (lf_x hf hw))
  · refine g_aload_n o 1 rfl rfl dX2_passAll_8 ?_
    refine g_iload_n o 2 rfl rfl dX2_passAll_9 ?_
    refine g_aload_n o 0 rfl rfl dX2_passAll_10 ?_
    refine g_aload_n o 1 rfl rfl dX2_passAll_11 ?_
    refine g_iload_n o 2 rfl rfl dX2_passAll_12 ?_
    refine M_ld2 o dX2_passAll_13 hf (fun hf => ?_)
    obtain ⟨r2, hr2, hf⟩ := bd_some hf
    refine k_X2_passes_ o hr2 m_1306 (Nat.le_of_ble_eq_true rfl) (Nat.le_of_ble_eq_true rfl) ⟨hk, hn⟩ dX2_passAll_14 ?_
    refine M_st2 o dX2_passAll_17 hf (fun hf => ?_)
    refine g_iinc o [(2, .int (s_0 + 1)), (0, .ref (a 0)), (1, .ref (a 2))] 2 rfl (inc_1 _) (Nat.le_of_ble_eq_true rfl) rfl dX2_passAll_18 ?_
    refine g_goto (tgt := 2) o rfl dX2_passAll_21 ?_
    have hp := lf_c hf hw
    exact g_perm [1, 2, 0] rfl hp
set_option maxRecDepth 20000 in
set_option maxHeartbeats 2000000 in
theorem b_X2_passAll_2 {x : Cx} (o : Ok x cX2_passAll 3 RX2 1 0 0) (a : Nat → Nat) (u : St) (t : St) (hf : f_X2_passAll_2 u = some t) (hret : rt_X2_passAll_2 x a t) : G x 3 0 0 (wM a u (cxT x)) [(0, .ref (a 0)), (1, .ref (a 2))] 0 [] := by
  unfold f_X2_passAll_2 at hf
  refine g_iconst o ic_0 dX2_passAll_0 ?_
  refine g_istore_n o [(2, .int 0), (0, .ref (a 0)), (1, .ref (a 2))] (Nat.le_of_ble_eq_true rfl) rfl rfl dX2_passAll_1 ?_
  obtain ⟨r6, hr6, hxr6, hrr6⟩ := bl_some hf
  refine g_perm [1, 2, 0] rfl (b_X2_passAll_2_L2 o (Nat.le_of_ble_eq_true rfl) (Nat.le_of_ble_eq_true rfl) a  r6 (fun s2 hs => ?_) (fun t5 ht => ?_) FU (0, u) hr6)
  · have hf := hxr6 s2 hs
    obtain ⟨s2_0, s2_1⟩ := s2
    try dsimp -simprocs only at hf ⊢
    cases Option.some.inj hf
    exact g_vret hret (Nat.le_of_ble_eq_true rfl) (Nat.le_of_ble_eq_true rfl) dX2_passAll_24
  · have hf := hrr6 t5 ht
    cases Option.some.inj hf
    exact hret
theorem c_X2_passAll_2 (l : Launch) (hst : l.stackTraces = false) (a : Nat → Nat) (u : St) (t : St) (hf : f_X2_passAll_2 u = some t) : CoV l yX2_passAll (.code yX2_passAll cX2_passAll 3 none) 1 0 0 [.ref (a 0), .ref (a 2)] (wM a u) (wM a t) (.inl ()) := mkV hst (by decide +kernel) (Nat.le_of_ble_eq_true rfl) (fun x _ o hI hX => b_X2_passAll_2 o a u t hf (hI rfl))
theorem k_X2_passAll_2_ {x : Cx} {cc : ByteArray} {nL : Nat} {own : String} {d mc ms k n : Nat} {lv : List (Nat × Value)} {pc i : Nat} {rest : List Value} {a : Nat → Nat} {u : St} (o : Ok x cc nL own d mc ms) {t : St} (ht : f_X2_passAll_2 u = some t) (hlk : Cond.methodLink own i yX2_passAll ∈ Ug) (hd : 1 < d) (hr : (rest.map fun v => v.category).sum ≤ 8) (hk : k + 0 ≤ mc ∧ n + 0 ≤ ms) (dg : decode cc pc = .ok (.invokevirtual i, 3)) (kk : G x nL (k + 0) (n + 0) (wM a t (cxT x)) lv (pc + 3) rest) : G x nL k n (wM a u (cxT x)) lv pc (.ref (a 2) :: .ref (a 0) :: rest) := gcV (wd2 := (wM a t (cxT x))) o (c_X2_passAll_2 (cxl x) o.2.2.2.2.2.2.2.2.2.1 a u t ht) (can_V (q0 := 0) o rfl rfl hd (Nat.le_of_ble_eq_true rfl) m_1313 m_56 m_1312 m_52 hlk yk_X2_passAll rfl hr hk dg) sp_M (fun E h => by cases h) (fun h => kk)
def rt_X2_passAll_4 (x : Cx) (a : Nat → Nat) (t : St) : Prop := RetV x cX2_passAll 0 0 (wM a t (cxT x))
set_option maxRecDepth 20000 in
set_option maxHeartbeats 2000000 in
theorem b_X2_passAll_4_L2 {x : Cx} (o : Ok x cX2_passAll 3 RX2 1 0 0) {k n : Nat} (hk : k ≤ 0) (hn : n ≤ 0) (a : Nat → Nat) (r : (Int32 × St) ⊕ (St)) (hX : ∀ s : Int32 × St, r = .inl s → G x 3 k n (wM a s.2 (cxT x)) [] 24 []) (hR : ∀ t, r = .inr t → rt_X2_passAll_4 x a t) : ∀ (m : Nat) (s : Int32 × St), loopN f_X2_passAll_4_s2 m s = some r → G x 3 k n (wM a s.2 (cxT x)) [(0, .ref (a 0)), (1, .ref (a 4)), (2, .int s.1)] 2 [] := by
  refine loop_W _ (fun (s : Int32 × St) => G x 3 k n (wM a s.2 (cxT x)) [(0, .ref (a 0)), (1, .ref (a 4)), (2, .int s.1)] 2 []) r ?_
  intro s ww hf hw
  unfold f_X2_passAll_4_s2 at hf
  obtain ⟨s_0, s_1⟩ := s
  try dsimp -simprocs only at hf ⊢
  refine g_iload_n o 2 rfl rfl dX2_passAll_2 ?_
  refine g_aload_n o 1 rfl rfl dX2_passAll_3 ?_
  refine M_len4 o dX2_passAll_4 ?_
  refine g_ic_ge (tgt := 24) o rfl dX2_passAll_5 hf (fun hc hf => ?_) (fun hc hf => ?_)
  · exact g_perm [] rfl (hX _ (lf_x hf hw))
  · refine g_aload_n o 1 rfl rfl dX2_passAll_8 ?_
    refine g_iload_n o 2 rfl rfl dX2_passAll_9 ?_
    refine g_aload_n o 0 rfl rfl dX2_passAll_10 ?_
    refine g_aload_n o 1 rfl rfl dX2_passAll_11 ?_
    refine g_iload_n o 2 rfl rfl dX2_passAll_12 ?_
    refine M_ld4 o dX2_passAll_13 hf (fun hf => ?_)
    obtain ⟨r2, hr2, hf⟩ := bd_some hf
    refine k_X2_passes_ o hr2 m_1306 (Nat.le_of_ble_eq_true rfl) (Nat.le_of_ble_eq_true rfl) ⟨hk, hn⟩ dX2_passAll_14 ?_
    refine M_st4 o dX2_passAll_17 hf (fun hf => ?_)
    refine g_iinc o [(2, .int (s_0 + 1)), (0, .ref (a 0)), (1, .ref (a 4))] 2 rfl (inc_1 _) (Nat.le_of_ble_eq_true rfl) rfl dX2_passAll_18 ?_
    refine g_goto (tgt := 2) o rfl dX2_passAll_21 ?_
    have hp := lf_c hf hw
    exact g_perm [1, 2, 0] rfl hp
set_option maxRecDepth 20000 in
set_option maxHeartbeats 2000000 in
theorem b_X2_passAll_4 {x : Cx} (o : Ok x cX2_passAll 3 RX2 1 0 0) (a : Nat → Nat) (u : St) (t : St) (hf : f_X2_passAll_4 u = some t) (hret : rt_X2_passAll_4 x a t) : G x 3 0 0 (wM a u (cxT x)) [(0, .ref (a 0)), (1, .ref (a 4))] 0 [] := by
  unfold f_X2_passAll_4 at hf
  refine g_iconst o ic_0 dX2_passAll_0 ?_
  refine g_istore_n o [(2, .int 0), (0, .ref (a 0)), (1, .ref (a 4))] (Nat.le_of_ble_eq_true rfl) rfl rfl dX2_passAll_1 ?_
  obtain ⟨r6, hr6, hxr6, hrr6⟩ := bl_some hf
  refine g_perm [1, 2, 0] rfl (b_X2_passAll_4_L2 o (Nat.le_of_ble_eq_true rfl) (Nat.le_of_ble_eq_true rfl) a  r6 (fun s2 hs => ?_) (fun t5 ht => ?_) FU (0, u) hr6)
  · have hf := hxr6 s2 hs
    obtain ⟨s2_0, s2_1⟩ := s2
    try dsimp -simprocs only at hf ⊢
    cases Option.some.inj hf
    exact g_vret hret (Nat.le_of_ble_eq_true rfl) (Nat.le_of_ble_eq_true rfl) dX2_passAll_24
  · have hf := hrr6 t5 ht
    cases Option.some.inj hf
    exact hret
theorem c_X2_passAll_4 (l : Launch) (hst : l.stackTraces = false) (a : Nat → Nat) (u : St) (t : St) (hf : f_X2_passAll_4 u = some t) : CoV l yX2_passAll (.code yX2_passAll cX2_passAll 3 none) 1 0 0 [.ref (a 0), .ref (a 4)] (wM a u) (wM a t) (.inl ()) := mkV hst (by decide +kernel) (Nat.le_of_ble_eq_true rfl) (fun x _ o hI hX => b_X2_passAll_4 o a u t hf (hI rfl))
theorem k_X2_passAll_4_ {x : Cx} {cc : ByteArray} {nL : Nat} {own : String} {d mc ms k n : Nat} {lv : List (Nat × Value)} {pc i : Nat} {rest : List Value} {a : Nat → Nat} {u : St} (o : Ok x cc nL own d mc ms) {t : St} (ht : f_X2_passAll_4 u = some t) (hlk : Cond.methodLink own i yX2_passAll ∈ Ug) (hd : 1 < d) (hr : (rest.map fun v => v.category).sum ≤ 8) (hk : k + 0 ≤ mc ∧ n + 0 ≤ ms) (dg : decode cc pc = .ok (.invokevirtual i, 3)) (kk : G x nL (k + 0) (n + 0) (wM a t (cxT x)) lv (pc + 3) rest) : G x nL k n (wM a u (cxT x)) lv pc (.ref (a 4) :: .ref (a 0) :: rest) := gcV (wd2 := (wM a t (cxT x))) o (c_X2_passAll_4 (cxl x) o.2.2.2.2.2.2.2.2.2.1 a u t ht) (can_V (q0 := 0) o rfl rfl hd (Nat.le_of_ble_eq_true rfl) m_1313 m_56 m_1312 m_52 hlk yk_X2_passAll rfl hr hk dg) sp_M (fun E h => by cases h) (fun h => kk)
def rt_X2_passAll_5 (x : Cx) (a : Nat → Nat) (t : St) : Prop := RetV x cX2_passAll 0 0 (wM a t (cxT x))
set_option maxRecDepth 20000 in
set_option maxHeartbeats 2000000 in
theorem b_X2_passAll_5_L2 {x : Cx} (o : Ok x cX2_passAll 3 RX2 1 0 0) {k n : Nat} (hk : k ≤ 0) (hn : n ≤ 0) (a : Nat → Nat) (r : (Int32 × St) ⊕ (St)) (hX : ∀ s : Int32 × St, r = .inl s → G x 3 k n (wM a s.2 (cxT x)) [] 24 []) (hR : ∀ t, r = .inr t → rt_X2_passAll_5 x a t) : ∀ (m : Nat) (s : Int32 × St), loopN f_X2_passAll_5_s2 m s = some r → G x 3 k n (wM a s.2 (cxT x)) [(0, .ref (a 0)), (1, .ref (a 5)), (2, .int s.1)] 2 [] := by
  refine loop_W _ (fun (s : Int32 × St) => G x 3 k n (wM a s.2 (cxT x)) [(0, .ref (a 0)), (1, .ref (a 5)), (2, .int s.1)] 2 []) r ?_
  intro s ww hf hw
  unfold f_X2_passAll_5_s2 at hf
  obtain ⟨s_0, s_1⟩ := s
  try dsimp -simprocs only at hf ⊢
  refine g_iload_n o 2 rfl rfl dX2_passAll_2 ?_
  refine g_aload_n o 1 rfl rfl dX2_passAll_3 ?_
  refine M_len5 o dX2_passAll_4 ?_
  refine g_ic_ge (tgt := 24) o rfl dX2_passAll_5 hf (fun hc hf => ?_) (fun hc hf => ?_)
  · exact g_perm [] rfl (hX _ (lf_x hf hw))
  · refine g_aload_n o 1 rfl rfl dX2_passAll_8 ?_
    refine g_iload_n o 2 rfl rfl dX2_passAll_9 ?_
    refine g_aload_n o 0 rfl rfl dX2_passAll_10 ?_
    refine g_aload_n o 1 rfl rfl dX2_passAll_11 ?_
    refine g_iload_n o 2 rfl rfl dX2_passAll_12 ?_
    refine M_ld5 o dX2_passAll_13 hf (fun hf => ?_)
    obtain ⟨r2, hr2, hf⟩ := bd_some hf
    refine k_X2_passes_ o hr2 m_1306 (Nat.le_of_ble_eq_true rfl) (Nat.le_of_ble_eq_true rfl) ⟨hk, hn⟩ dX2_passAll_14 ?_
    refine M_st5 o dX2_passAll_17 hf (fun hf => ?_)
    refine g_iinc o [(2, .int (s_0 + 1)), (0, .ref (a 0)), (1, .ref (a 5))] 2 rfl (inc_1 _) (Nat.le_of_ble_eq_true rfl) rfl dX2_passAll_18 ?_
    refine g_goto (tgt := 2) o rfl dX2_passAll_21 ?_
    have hp := lf_c hf hw
    exact g_perm [1, 2, 0] rfl hp
set_option maxRecDepth 20000 in
set_option maxHeartbeats 2000000 in
theorem b_X2_passAll_5 {x : Cx} (o : Ok x cX2_passAll 3 RX2 1 0 0) (a : Nat → Nat) (u : St) (t : St) (hf : f_X2_passAll_5 u = some t) (hret : rt_X2_passAll_5 x a t) : G x 3 0 0 (wM a u (cxT x)) [(0, .ref (a 0)), (1, .ref (a 5))] 0 [] := by
  unfold f_X2_passAll_5 at hf
  refine g_iconst o ic_0 dX2_passAll_0 ?_
  refine g_istore_n o [(2, .int 0), (0, .ref (a 0)), (1, .ref (a 5))] (Nat.le_of_ble_eq_true rfl) rfl rfl dX2_passAll_1 ?_
  obtain ⟨r6, hr6, hxr6, hrr6⟩ := bl_some hf
  refine g_perm [1, 2, 0] rfl (b_X2_passAll_5_L2 o (Nat.le_of_ble_eq_true rfl) (Nat.le_of_ble_eq_true rfl) a  r6 (fun s2 hs => ?_) (fun t5 ht => ?_) FU (0, u) hr6)
  · have hf := hxr6 s2 hs
    obtain ⟨s2_0, s2_1⟩ := s2
    try dsimp -simprocs only at hf ⊢
    cases Option.some.inj hf
    exact g_vret hret (Nat.le_of_ble_eq_true rfl) (Nat.le_of_ble_eq_true rfl) dX2_passAll_24
  · have hf := hrr6 t5 ht
    cases Option.some.inj hf
    exact hret
theorem c_X2_passAll_5 (l : Launch) (hst : l.stackTraces = false) (a : Nat → Nat) (u : St) (t : St) (hf : f_X2_passAll_5 u = some t) : CoV l yX2_passAll (.code yX2_passAll cX2_passAll 3 none) 1 0 0 [.ref (a 0), .ref (a 5)] (wM a u) (wM a t) (.inl ()) := mkV hst (by decide +kernel) (Nat.le_of_ble_eq_true rfl) (fun x _ o hI hX => b_X2_passAll_5 o a u t hf (hI rfl))
theorem k_X2_passAll_5_ {x : Cx} {cc : ByteArray} {nL : Nat} {own : String} {d mc ms k n : Nat} {lv : List (Nat × Value)} {pc i : Nat} {rest : List Value} {a : Nat → Nat} {u : St} (o : Ok x cc nL own d mc ms) {t : St} (ht : f_X2_passAll_5 u = some t) (hlk : Cond.methodLink own i yX2_passAll ∈ Ug) (hd : 1 < d) (hr : (rest.map fun v => v.category).sum ≤ 8) (hk : k + 0 ≤ mc ∧ n + 0 ≤ ms) (dg : decode cc pc = .ok (.invokevirtual i, 3)) (kk : G x nL (k + 0) (n + 0) (wM a t (cxT x)) lv (pc + 3) rest) : G x nL k n (wM a u (cxT x)) lv pc (.ref (a 5) :: .ref (a 0) :: rest) := gcV (wd2 := (wM a t (cxT x))) o (c_X2_passAll_5 (cxl x) o.2.2.2.2.2.2.2.2.2.1 a u t ht) (can_V (q0 := 0) o rfl rfl hd (Nat.le_of_ble_eq_true rfl) m_1313 m_56 m_1312 m_52 hlk yk_X2_passAll rfl hr hk dg) sp_M (fun E h => by cases h) (fun h => kk)
def rt_X2_passState (x : Cx) (a : Nat → Nat) (t : Int32 × St) : Prop := RetI x cX2_passState .int 0 0 (wM a t.2 (cxT x)) t.1
set_option maxRecDepth 20000 in
set_option maxHeartbeats 2000000 in
theorem b_X2_passState {x : Cx} (o : Ok x cX2_passState 2 RX2 2 0 0) (a : Nat → Nat) (u : St) (p0 : Int32) (t : Int32 × St) (hf : f_X2_passState u p0 = some t) (hret : rt_X2_passState x a t) : G x 2 0 0 (wM a u (cxT x)) [(0, .ref (a 0)), (1, .int p0)] 0 [] := by
  unfold f_X2_passState at hf
  refine g_aload_n o 0 rfl rfl dX2_passState_0 ?_
  refine g_iconst o ic_0 dX2_passState_1 ?_
  refine M_put0 o m_919 dX2_passState_2 ?_
  refine g_aload_n o 0 rfl rfl dX2_passState_5 ?_
  refine g_iload_n o 1 rfl rfl dX2_passState_6 ?_
  obtain ⟨hb, hf⟩ := gd_some hf
  refine M_put20 o hb m_939 dX2_passState_7 ?_
  refine g_aload_n o 0 rfl rfl dX2_passState_10 ?_
  refine g_iconst o ic_0 dX2_passState_11 ?_
  refine M_put18 o m_937 dX2_passState_12 ?_
  refine g_aload_n o 0 rfl rfl dX2_passState_15 ?_
  refine g_aload_n o 0 rfl rfl dX2_passState_16 ?_
  refine g_aload_n o 0 rfl rfl dX2_passState_17 ?_
  refine M_get3 o m_922 dX2_passState_18 ?_
  obtain ⟨r8, hr8, hf⟩ := bd_some hf
  refine k_X2_passes_ o hr8 m_1306 (Nat.le_of_ble_eq_true rfl) (Nat.le_of_ble_eq_true rfl) ⟨(Nat.le_of_ble_eq_true rfl), (Nat.le_of_ble_eq_true rfl)⟩ dX2_passState_21 ?_
  refine M_put3 o m_922 dX2_passState_24 ?_
  refine g_aload_n o 0 rfl rfl dX2_passState_27 ?_
  refine g_aload_n o 0 rfl rfl dX2_passState_28 ?_
  refine g_aload_n o 0 rfl rfl dX2_passState_29 ?_
  refine M_get6 o m_925 dX2_passState_30 ?_
  obtain ⟨r9, hr9, hf⟩ := bd_some hf
  refine k_X2_passes_ o hr9 m_1306 (Nat.le_of_ble_eq_true rfl) (Nat.le_of_ble_eq_true rfl) ⟨(Nat.le_of_ble_eq_true rfl), (Nat.le_of_ble_eq_true rfl)⟩ dX2_passState_33 ?_
  refine M_put6 o m_925 dX2_passState_36 ?_
  refine g_aload_n o 0 rfl rfl dX2_passState_39 ?_
  refine g_aload_n o 0 rfl rfl dX2_passState_40 ?_
  refine g_aload_n o 0 rfl rfl dX2_passState_41 ?_
  refine M_get7 o m_926 dX2_passState_42 ?_
  obtain ⟨r10, hr10, hf⟩ := bd_some hf
  refine k_X2_passes_ o hr10 m_1306 (Nat.le_of_ble_eq_true rfl) (Nat.le_of_ble_eq_true rfl) ⟨(Nat.le_of_ble_eq_true rfl), (Nat.le_of_ble_eq_true rfl)⟩ dX2_passState_45 ?_
  refine M_put7 o m_926 dX2_passState_48 ?_
  refine g_aload_n o 0 rfl rfl dX2_passState_51 ?_
  refine g_aload_n o 0 rfl rfl dX2_passState_52 ?_
  refine M_get1 o m_920 dX2_passState_53 ?_
  obtain ⟨r11, hr11, hf⟩ := bd_some hf
  refine k_X2_passAll_1_ o hr11 m_1310 (Nat.le_of_ble_eq_true rfl) (Nat.le_of_ble_eq_true rfl) ⟨(Nat.le_of_ble_eq_true rfl), (Nat.le_of_ble_eq_true rfl)⟩ dX2_passState_56 ?_
  refine g_aload_n o 0 rfl rfl dX2_passState_59 ?_
  refine g_aload_n o 0 rfl rfl dX2_passState_60 ?_
  refine M_get2 o m_921 dX2_passState_61 ?_
  obtain ⟨r12, hr12, hf⟩ := bd_some hf
  refine k_X2_passAll_2_ o hr12 m_1310 (Nat.le_of_ble_eq_true rfl) (Nat.le_of_ble_eq_true rfl) ⟨(Nat.le_of_ble_eq_true rfl), (Nat.le_of_ble_eq_true rfl)⟩ dX2_passState_64 ?_
  refine g_aload_n o 0 rfl rfl dX2_passState_67 ?_
  refine g_aload_n o 0 rfl rfl dX2_passState_68 ?_
  refine M_get4 o m_923 dX2_passState_69 ?_
  obtain ⟨r13, hr13, hf⟩ := bd_some hf
  refine k_X2_passAll_4_ o hr13 m_1310 (Nat.le_of_ble_eq_true rfl) (Nat.le_of_ble_eq_true rfl) ⟨(Nat.le_of_ble_eq_true rfl), (Nat.le_of_ble_eq_true rfl)⟩ dX2_passState_72 ?_
  refine g_aload_n o 0 rfl rfl dX2_passState_75 ?_
  refine g_aload_n o 0 rfl rfl dX2_passState_76 ?_
  refine M_get5 o m_924 dX2_passState_77 ?_
  obtain ⟨r14, hr14, hf⟩ := bd_some hf
  refine k_X2_passAll_5_ o hr14 m_1310 (Nat.le_of_ble_eq_true rfl) (Nat.le_of_ble_eq_true rfl) ⟨(Nat.le_of_ble_eq_true rfl), (Nat.le_of_ble_eq_true rfl)⟩ dX2_passState_80 ?_
  refine g_aload_n o 0 rfl rfl dX2_passState_83 ?_
  refine M_get3 o m_922 dX2_passState_84 ?_
  cases Option.some.inj hf
  exact g_iret hret (Nat.le_of_ble_eq_true rfl) (Nat.le_of_ble_eq_true rfl) (vp_nar_int _) dX2_passState_87
theorem c_X2_passState (l : Launch) (hst : l.stackTraces = false) (a : Nat → Nat) (u : St) (p0 : Int32) (t : Int32 × St) (hf : f_X2_passState u p0 = some t) : CoI l yX2_passState (.code yX2_passState cX2_passState 2 (some .int)) 2 0 0 [.ref (a 0), .int p0] (wM a u) (wM a t.2) (.inl t.1) := mkI hst (by decide +kernel) (Nat.le_of_ble_eq_true rfl) (fun x _ o hI hX => b_X2_passState o a u p0 t hf (hI _ rfl))
theorem k_X2_passState_ {x : Cx} {cc : ByteArray} {nL : Nat} {own : String} {d mc ms k n : Nat} {lv : List (Nat × Value)} {pc i : Nat} {rest : List Value} {a : Nat → Nat} {u : St} {p0 : Int32} (o : Ok x cc nL own d mc ms) {t : Int32 × St} (ht : f_X2_passState u p0 = some t) (hlk : Cond.methodLink own i yX2_passState ∈ Ug) (hd : 2 < d) (hr : (rest.map fun v => v.category).sum ≤ 8) (hk : k + 0 ≤ mc ∧ n + 0 ≤ ms) (dg : decode cc pc = .ok (.invokevirtual i, 3)) (kk : G x nL (k + 0) (n + 0) (wM a t.2 (cxT x)) lv (pc + 3) (.int t.1 :: rest)) : G x nL k n (wM a u (cxT x)) lv pc (.int p0 :: .ref (a 0) :: rest) := gcI (wd2 := (wM a t.2 (cxT x))) o (c_X2_passState (cxl x) o.2.2.2.2.2.2.2.2.2.1 a u p0 t ht) (can_V (q0 := 0) o rfl rfl hd (Nat.le_of_ble_eq_true rfl) m_1305 m_56 m_1304 m_50 hlk yk_X2_passState rfl hr hk dg) sp_M (fun E h => by cases h) (fun r h => by cases h; exact kk)
def rt_X2_saveSnapshot (x : Cx) (a : Nat → Nat) (t : Int32 × St) : Prop := RetI x cX2_saveSnapshot .int 0 0 (wM a t.2 (cxT x)) t.1
set_option maxRecDepth 20000 in
set_option maxHeartbeats 2000000 in
theorem b_X2_saveSnapshot {x : Cx} (o : Ok x cX2_saveSnapshot 1 RX2 3 0 0) (a : Nat → Nat) (u : St) (t : Int32 × St) (hf : f_X2_saveSnapshot u = some t) (hret : rt_X2_saveSnapshot x a t) : G x 1 0 0 (wM a u (cxT x)) [(0, .ref (a 0))] 0 [] := by
  unfold f_X2_saveSnapshot at hf
  refine g_aload_n o 0 rfl rfl dX2_saveSnapshot_0 ?_
  refine g_iconst o ic_1 dX2_saveSnapshot_1 ?_
  refine M_put19 o ob_1 m_938 dX2_saveSnapshot_2 ?_
  refine g_aload_n o 0 rfl rfl dX2_saveSnapshot_5 ?_
  refine g_iconst o ic_1 dX2_saveSnapshot_6 ?_
  obtain ⟨r2, hr2, hf⟩ := bd_some hf
  refine k_X2_passState_ o hr2 m_1302 (Nat.le_of_ble_eq_true rfl) (Nat.le_of_ble_eq_true rfl) ⟨(Nat.le_of_ble_eq_true rfl), (Nat.le_of_ble_eq_true rfl)⟩ dX2_saveSnapshot_7 ?_
  cases Option.some.inj hf
  exact g_iret hret (Nat.le_of_ble_eq_true rfl) (Nat.le_of_ble_eq_true rfl) (vp_nar_int _) dX2_saveSnapshot_10
theorem c_X2_saveSnapshot (l : Launch) (hst : l.stackTraces = false) (a : Nat → Nat) (u : St) (t : Int32 × St) (hf : f_X2_saveSnapshot u = some t) : CoI l yX2_saveSnapshot (.code yX2_saveSnapshot cX2_saveSnapshot 1 (some .int)) 3 0 0 [.ref (a 0)] (wM a u) (wM a t.2) (.inl t.1) := mkI hst (by decide +kernel) (Nat.le_of_ble_eq_true rfl) (fun x _ o hI hX => b_X2_saveSnapshot o a u t hf (hI _ rfl))
def rt_X2_restoreSnapshot (x : Cx) (a : Nat → Nat) (t : Int32 × St) : Prop := RetI x cX2_restoreSnapshot .int 0 0 (wM a t.2 (cxT x)) t.1
set_option maxRecDepth 20000 in
set_option maxHeartbeats 2000000 in
theorem b_X2_restoreSnapshot {x : Cx} (o : Ok x cX2_restoreSnapshot 1 RX2 3 0 0) (a : Nat → Nat) (u : St) (t : Int32 × St) (hf : f_X2_restoreSnapshot u = some t) (hret : rt_X2_restoreSnapshot x a t) : G x 1 0 0 (wM a u (cxT x)) [(0, .ref (a 0))] 0 [] := by
  unfold f_X2_restoreSnapshot at hf
  refine g_aload_n o 0 rfl rfl dX2_restoreSnapshot_0 ?_
  refine M_get19 o m_938 dX2_restoreSnapshot_1 ?_
  refine g_if_eq (tgt := 15) o rfl dX2_restoreSnapshot_4 hf (fun hc hf => ?_) (fun hc hf => ?_)
  · refine g_aload_n o 0 rfl rfl dX2_restoreSnapshot_15 ?_
    refine g_iconst o ic_1 dX2_restoreSnapshot_16 ?_
    obtain ⟨r3, hr3, hf⟩ := bd_some hf
    refine k_X2_fails_ o hr3 m_995 (Nat.le_of_ble_eq_true rfl) (Nat.le_of_ble_eq_true rfl) ⟨(Nat.le_of_ble_eq_true rfl), (Nat.le_of_ble_eq_true rfl)⟩ dX2_restoreSnapshot_17 ?_
    cases Option.some.inj hf
    exact g_iret hret (Nat.le_of_ble_eq_true rfl) (Nat.le_of_ble_eq_true rfl) (vp_nar_int _) dX2_restoreSnapshot_20
  · refine g_aload_n o 0 rfl rfl dX2_restoreSnapshot_7 ?_
    refine g_iconst o ic_0 dX2_restoreSnapshot_8 ?_
    obtain ⟨r4, hr4, hf⟩ := bd_some hf
    refine k_X2_passState_ o hr4 m_1302 (Nat.le_of_ble_eq_true rfl) (Nat.le_of_ble_eq_true rfl) ⟨(Nat.le_of_ble_eq_true rfl), (Nat.le_of_ble_eq_true rfl)⟩ dX2_restoreSnapshot_9 ?_
    refine g_goto (tgt := 20) o rfl dX2_restoreSnapshot_12 ?_
    cases Option.some.inj hf
    exact g_iret hret (Nat.le_of_ble_eq_true rfl) (Nat.le_of_ble_eq_true rfl) (vp_nar_int _) dX2_restoreSnapshot_20
theorem c_X2_restoreSnapshot (l : Launch) (hst : l.stackTraces = false) (a : Nat → Nat) (u : St) (t : Int32 × St) (hf : f_X2_restoreSnapshot u = some t) : CoI l yX2_restoreSnapshot (.code yX2_restoreSnapshot cX2_restoreSnapshot 1 (some .int)) 3 0 0 [.ref (a 0)] (wM a u) (wM a t.2) (.inl t.1) := mkI hst (by decide +kernel) (Nat.le_of_ble_eq_true rfl) (fun x _ o hI hX => b_X2_restoreSnapshot o a u t hf (hI _ rfl))
