def rt_X2_polymorphism (x : Cx) (a : Nat → Nat) (t : Int32 × St) : Prop := RetI x cX2_polymorphism .int 0 0 (wM a t.2 (cxT x)) t.1
set_option maxRecDepth 20000 in
set_option maxHeartbeats 2000000 in
theorem b_X2_polymorphism_L25 {x : Cx} (o : Ok x cX2_polymorphism 5 RX2 4 0 0) {k n : Nat} (hk : k ≤ 0) (hn : n ≤ 0) (a : Nat → Nat) (u : St) (c1 : Int32) (r : (Int32 × Int32) ⊕ (Int32 × St)) (hX : ∀ s : Int32 × Int32, r = .inl s → G x 5 k n (wM a u (cxT x)) [(0, .ref (a 0))] 68 []) (hR : ∀ t, r = .inr t → rt_X2_polymorphism x a t) : ∀ (m : Nat) (s : Int32 × Int32), loopN (f_X2_polymorphism_s25 u c1) m s = some r → G x 5 k n (wM a u (cxT x)) [(0, .ref (a 0)), (1, .int c1), (3, .int s.1), (4, .int s.2)] 25 [] := by
  refine loop_W _ (fun (s : Int32 × Int32) => G x 5 k n (wM a u (cxT x)) [(0, .ref (a 0)), (1, .int c1), (3, .int s.1), (4, .int s.2)] 25 []) r ?_
  intro s ww hf hw
  unfold f_X2_polymorphism_s25 at hf
  obtain ⟨s_0, s_1⟩ := s
  try dsimp -simprocs only at hf ⊢
  refine g_iload o 3 rfl dX2_polymorphism_25 ?_
  refine g_iconst o ic_1 dX2_polymorphism_27 ?_
  refine g_iconst o ic_1 dX2_polymorphism_28 ?_
  refine g_iload_n o 1 rfl rfl dX2_polymorphism_29 ?_
  refine g_ishl o dX2_polymorphism_30 ?_
  refine g_ishl o dX2_polymorphism_31 ?_
  refine g_ic_ge (tgt := 68) o rfl dX2_polymorphism_32 hf (fun hc hf => ?_) (fun hc hf => ?_)
  · exact g_perm [0] rfl (hX _ (lf_x hf hw))
  · refine g_iload_n o 2 rfl rfl dX2_polymorphism_35 ?_
    refine g_if_lt (tgt := 68) o rfl dX2_polymorphism_36 hf (fun hc hf => ?_) (fun hc hf => ?_)
    · exact g_perm [0] rfl (hX _ (lf_x hf hw))
    · refine g_aload_n o 0 rfl rfl dX2_polymorphism_39 ?_
      refine g_iload_n o 1 rfl rfl dX2_polymorphism_40 ?_
      refine g_iload o 3 rfl dX2_polymorphism_41 ?_
      obtain ⟨r3, hr3, hf⟩ := bd_some hf
      refine k_X2_isKept_ o hr3 m_1108 (Nat.le_of_ble_eq_true rfl) (Nat.le_of_ble_eq_true rfl) ⟨hk, hn⟩ dX2_polymorphism_43 ?_
      refine g_if_ne (tgt := 52) o rfl dX2_polymorphism_46 hf (fun hc hf => ?_) (fun hc hf => ?_)
      · refine g_iload_n o 2 rfl rfl dX2_polymorphism_52 ?_
        refine g_if_ne (tgt := 59) o rfl dX2_polymorphism_53 hf (fun hc hf => ?_) (fun hc hf => ?_)
        · refine g_iinc o [(3, .int (s_0 + (-1))), (0, .ref (a 0)), (1, .int c1), (4, .int s_1)] 2 rfl (inc_m1 _) (Nat.le_of_ble_eq_true rfl) rfl dX2_polymorphism_59 ?_
          refine g_iinc o [(4, .int (s_1 + 1)), (3, .int (s_0 + (-1))), (0, .ref (a 0)), (1, .int c1)] 3 rfl (inc_1 _) (Nat.le_of_ble_eq_true rfl) rfl dX2_polymorphism_62 ?_
          refine g_goto (tgt := 25) o rfl dX2_polymorphism_65 ?_
          have hp := lf_c hf hw
          exact g_perm [2, 3, 1, 0] rfl hp
        · refine g_iload o 3 rfl dX2_polymorphism_56 ?_
          exact g_iret (hR _ (lf_x hf hw)) hk hn (vp_nar_int _) dX2_polymorphism_58
      · refine g_goto (tgt := 62) o rfl dX2_polymorphism_49 ?_
        refine g_iinc o [(4, .int (s_1 + 1)), (0, .ref (a 0)), (1, .int c1), (3, .int s_0)] 3 rfl (inc_1 _) (Nat.le_of_ble_eq_true rfl) rfl dX2_polymorphism_62 ?_
        refine g_goto (tgt := 25) o rfl dX2_polymorphism_65 ?_
        have hp := lf_c hf hw
        exact g_perm [1, 2, 3, 0] rfl hp
set_option maxRecDepth 20000 in
set_option maxHeartbeats 2000000 in
theorem b_X2_polymorphism {x : Cx} (o : Ok x cX2_polymorphism 5 RX2 4 0 0) (a : Nat → Nat) (u : St) (p0 : Int32) (p1 : Int32) (t : Int32 × St) (hf : f_X2_polymorphism u p0 p1 = some t) (hret : rt_X2_polymorphism x a t) : G x 5 0 0 (wM a u (cxT x)) [(0, .ref (a 0)), (1, .int p0), (2, .int p1)] 0 [] := by
  unfold f_X2_polymorphism at hf
  refine g_iload_n o 1 rfl rfl dX2_polymorphism_0 ?_
  refine g_iconst o ic_1 dX2_polymorphism_1 ?_
  refine g_iconst o ic_3 dX2_polymorphism_2 ?_
  obtain ⟨r8, hr8, hf⟩ := bd_some hf
  refine k_X2_isBetween_ o hr8 m_992 (Nat.le_of_ble_eq_true rfl) (Nat.le_of_ble_eq_true rfl) ⟨(Nat.le_of_ble_eq_true rfl), (Nat.le_of_ble_eq_true rfl)⟩ dX2_polymorphism_3 ?_
  refine g_if_ne (tgt := 15) o rfl dX2_polymorphism_6 hf (fun hc hf => ?_) (fun hc hf => ?_)
  · refine g_aload_n o 0 rfl rfl dX2_polymorphism_15 ?_
    refine g_iconst o ic_0 dX2_polymorphism_16 ?_
    refine M_put0 o m_919 dX2_polymorphism_17 ?_
    refine g_iload_n o 2 rfl rfl dX2_polymorphism_20 ?_
    refine g_istore_n o [(3, .int p1), (0, .ref (a 0)), (1, .int p0), (2, .int p1)] (Nat.le_of_ble_eq_true rfl) rfl rfl dX2_polymorphism_21 ?_
    refine g_iconst o ic_0 dX2_polymorphism_22 ?_
    refine g_istore o [(4, .int 0), (3, .int p1), (0, .ref (a 0)), (1, .int p0), (2, .int p1)] (Nat.le_of_ble_eq_true rfl) rfl dX2_polymorphism_23 ?_
    obtain ⟨r10, hr10, hxr10, hrr10⟩ := bl_some hf
    refine g_perm [2, 3, 1, 0] rfl (b_X2_polymorphism_L25 o (Nat.le_of_ble_eq_true rfl) (Nat.le_of_ble_eq_true rfl) a (us u 0 0) p0 r10 (fun s25 hs => ?_) (fun t9 ht => ?_) FU (p1, 0) hr10)
    · have hf := hxr10 s25 hs
      obtain ⟨s25_0, s25_1⟩ := s25
      try dsimp -simprocs only at hf ⊢
      refine g_aload_n o 0 rfl rfl dX2_polymorphism_68 ?_
      refine g_iconst o ic_2 dX2_polymorphism_69 ?_
      obtain ⟨r11, hr11, hf⟩ := bd_some hf
      refine k_X2_fails_ o hr11 m_995 (Nat.le_of_ble_eq_true rfl) (Nat.le_of_ble_eq_true rfl) ⟨(Nat.le_of_ble_eq_true rfl), (Nat.le_of_ble_eq_true rfl)⟩ dX2_polymorphism_70 ?_
      cases Option.some.inj hf
      exact g_iret hret (Nat.le_of_ble_eq_true rfl) (Nat.le_of_ble_eq_true rfl) (vp_nar_int _) dX2_polymorphism_73
    · have hf := hrr10 t9 ht
      cases Option.some.inj hf
      exact hret
  · refine g_aload_n o 0 rfl rfl dX2_polymorphism_9 ?_
    refine g_iconst o ic_1 dX2_polymorphism_10 ?_
    obtain ⟨r12, hr12, hf⟩ := bd_some hf
    refine k_X2_fails_ o hr12 m_995 (Nat.le_of_ble_eq_true rfl) (Nat.le_of_ble_eq_true rfl) ⟨(Nat.le_of_ble_eq_true rfl), (Nat.le_of_ble_eq_true rfl)⟩ dX2_polymorphism_11 ?_
    cases Option.some.inj hf
    exact g_iret hret (Nat.le_of_ble_eq_true rfl) (Nat.le_of_ble_eq_true rfl) (vp_nar_int _) dX2_polymorphism_14
theorem c_X2_polymorphism (l : Launch) (hst : l.stackTraces = false) (a : Nat → Nat) (u : St) (p0 : Int32) (p1 : Int32) (t : Int32 × St) (hf : f_X2_polymorphism u p0 p1 = some t) : CoI l yX2_polymorphism (.code yX2_polymorphism cX2_polymorphism 5 (some .int)) 4 0 0 [.ref (a 0), .int p0, .int p1] (wM a u) (wM a t.2) (.inl t.1) := mkI hst (by decide +kernel) (Nat.le_of_ble_eq_true rfl) (fun x _ o hI hX => b_X2_polymorphism o a u p0 p1 t hf (hI _ rfl))
def rt_X2_isIdempotent (x : Cx) (a : Nat → Nat) (t : Int32 × St) : Prop := RetI x cX2_isIdempotent .boolean 0 0 (wM a t.2 (cxT x)) t.1
set_option maxRecDepth 20000 in
set_option maxHeartbeats 2000000 in
theorem b_X2_isIdempotent {x : Cx} (o : Ok x cX2_isIdempotent 3 RX2 2 0 0) (a : Nat → Nat) (u : St) (p0 : Int32) (p1 : Int32) (t : Int32 × St) (hf : f_X2_isIdempotent u p0 p1 = some t) (hret : rt_X2_isIdempotent x a t) : G x 3 0 0 (wM a u (cxT x)) [(0, .ref (a 0)), (1, .int p0), (2, .int p1)] 0 [] := by
  unfold f_X2_isIdempotent at hf
  refine g_iload_n o 1 rfl rfl dX2_isIdempotent_0 ?_
  refine g_iload_n o 2 rfl rfl dX2_isIdempotent_1 ?_
  obtain ⟨r3, hr3, hf⟩ := bd_some hf
  refine k_X2_isOperation_ o hr3 m_1083 (Nat.le_of_ble_eq_true rfl) (Nat.le_of_ble_eq_true rfl) ⟨(Nat.le_of_ble_eq_true rfl), (Nat.le_of_ble_eq_true rfl)⟩ dX2_isIdempotent_2 ?_
  refine g_if_ne (tgt := 14) o rfl dX2_isIdempotent_5 hf (fun hc hf => ?_) (fun hc hf => ?_)
  · refine g_aload_n o 0 rfl rfl dX2_isIdempotent_14 ?_
    refine g_iconst o ic_0 dX2_isIdempotent_15 ?_
    refine M_put0 o m_919 dX2_isIdempotent_16 ?_
    refine g_iload_n o 2 rfl rfl dX2_isIdempotent_19 ?_
    refine g_iconst o ic_1 dX2_isIdempotent_20 ?_
    refine g_iand o dX2_isIdempotent_21 ?_
    refine g_if_ne (tgt := 42) o rfl dX2_isIdempotent_22 hf (fun hc hf => ?_) (fun hc hf => ?_)
    · refine g_iconst o ic_0 dX2_isIdempotent_42 ?_
      cases Option.some.inj hf
      exact g_iret hret (Nat.le_of_ble_eq_true rfl) (Nat.le_of_ble_eq_true rfl) nb_0 dX2_isIdempotent_43
    · refine g_iload_n o 2 rfl rfl dX2_isIdempotent_25 ?_
      refine g_iconst o ic_1 dX2_isIdempotent_26 ?_
      refine g_iload_n o 1 rfl rfl dX2_isIdempotent_27 ?_
      refine g_ishl o dX2_isIdempotent_28 ?_
      refine g_iconst o ic_1 dX2_isIdempotent_29 ?_
      refine g_isub o dX2_isIdempotent_30 ?_
      refine g_ishr o dX2_isIdempotent_31 ?_
      refine g_iconst o ic_1 dX2_isIdempotent_32 ?_
      refine g_iand o dX2_isIdempotent_33 ?_
      refine g_iconst o ic_1 dX2_isIdempotent_34 ?_
      refine g_ic_ne (tgt := 42) o rfl dX2_isIdempotent_35 hf (fun hc hf => ?_) (fun hc hf => ?_)
      · refine g_iconst o ic_0 dX2_isIdempotent_42 ?_
        cases Option.some.inj hf
        exact g_iret hret (Nat.le_of_ble_eq_true rfl) (Nat.le_of_ble_eq_true rfl) nb_0 dX2_isIdempotent_43
      · refine g_iconst o ic_1 dX2_isIdempotent_38 ?_
        refine g_goto (tgt := 43) o rfl dX2_isIdempotent_39 ?_
        cases Option.some.inj hf
        exact g_iret hret (Nat.le_of_ble_eq_true rfl) (Nat.le_of_ble_eq_true rfl) nb_1 dX2_isIdempotent_43
  · refine g_aload_n o 0 rfl rfl dX2_isIdempotent_8 ?_
    refine g_iconst o ic_1 dX2_isIdempotent_9 ?_
    obtain ⟨r4, hr4, hf⟩ := bd_some hf
    refine k_X2_refuses_ o hr4 m_1093 (Nat.le_of_ble_eq_true rfl) (Nat.le_of_ble_eq_true rfl) ⟨(Nat.le_of_ble_eq_true rfl), (Nat.le_of_ble_eq_true rfl)⟩ dX2_isIdempotent_10 ?_
    obtain ⟨hb, hf⟩ := gd_some hf
    cases Option.some.inj hf
    exact g_iret hret (Nat.le_of_ble_eq_true rfl) (Nat.le_of_ble_eq_true rfl) (okB_n hb) dX2_isIdempotent_13
theorem c_X2_isIdempotent (l : Launch) (hst : l.stackTraces = false) (a : Nat → Nat) (u : St) (p0 : Int32) (p1 : Int32) (t : Int32 × St) (hf : f_X2_isIdempotent u p0 p1 = some t) : CoI l yX2_isIdempotent (.code yX2_isIdempotent cX2_isIdempotent 3 (some .boolean)) 2 0 0 [.ref (a 0), .int p0, .int p1] (wM a u) (wM a t.2) (.inl t.1) := mkI hst (by decide +kernel) (Nat.le_of_ble_eq_true rfl) (fun x _ o hI hX => b_X2_isIdempotent o a u p0 p1 t hf (hI _ rfl))
def rt_X2_isMonotone (x : Cx) (a : Nat → Nat) (t : Int32 × St) : Prop := RetI x cX2_isMonotone .boolean 0 0 (wM a t.2 (cxT x)) t.1
set_option maxRecDepth 20000 in
set_option maxHeartbeats 2000000 in
theorem b_X2_isMonotone_L31 {x : Cx} (o : Ok x cX2_isMonotone 5 RX2 2 0 0) {k n : Nat} (hk : k ≤ 0) (hn : n ≤ 0) (a : Nat → Nat) (u : St) (c1 : Int32) (c2 : Int32) (c3 : Int32) (r : (Int32) ⊕ (Int32 × St)) (hX : ∀ s : Int32, r = .inl s → G x 5 k n (wM a u (cxT x)) [(1, .int c1), (2, .int c2), (3, .int c3)] 72 []) (hR : ∀ t, r = .inr t → rt_X2_isMonotone x a t) : ∀ (m : Nat) (s : Int32), loopN (f_X2_isMonotone_s31 u c1 c2 c3) m s = some r → G x 5 k n (wM a u (cxT x)) [(1, .int c1), (2, .int c2), (3, .int c3), (4, .int s)] 31 [] := by
  refine loop_W _ (fun (s : Int32) => G x 5 k n (wM a u (cxT x)) [(1, .int c1), (2, .int c2), (3, .int c3), (4, .int s)] 31 []) r ?_
  intro s ww hf hw
  unfold f_X2_isMonotone_s31 at hf
  refine g_iload o 3 rfl dX2_isMonotone_31 ?_
  refine g_iload_n o 0 rfl rfl dX2_isMonotone_33 ?_
  refine g_ic_ge (tgt := 72) o rfl dX2_isMonotone_34 hf (fun hc hf => ?_) (fun hc hf => ?_)
  · exact g_perm [0, 1, 2] rfl (hX _ (lf_x hf hw))
  · refine g_iload_n o 2 rfl rfl dX2_isMonotone_37 ?_
    refine g_iload o 3 rfl dX2_isMonotone_38 ?_
    refine g_ishr o dX2_isMonotone_40 ?_
    refine g_iconst o ic_1 dX2_isMonotone_41 ?_
    refine g_iand o dX2_isMonotone_42 ?_
    refine g_if_ne (tgt := 66) o rfl dX2_isMonotone_43 hf (fun hc hf => ?_) (fun hc hf => ?_)
    · refine g_iinc o [(4, .int (s + 1)), (1, .int c1), (2, .int c2), (3, .int c3)] 3 rfl (inc_1 _) (Nat.le_of_ble_eq_true rfl) rfl dX2_isMonotone_66 ?_
      refine g_goto (tgt := 31) o rfl dX2_isMonotone_69 ?_
      have hp := lf_c hf hw
      exact g_perm [1, 2, 3, 0] rfl hp
    · refine g_iload_n o 1 rfl rfl dX2_isMonotone_46 ?_
      refine g_iload_n o 2 rfl rfl dX2_isMonotone_47 ?_
      refine g_ishr o dX2_isMonotone_48 ?_
      refine g_iconst o ic_1 dX2_isMonotone_49 ?_
      refine g_iand o dX2_isMonotone_50 ?_
      refine g_iload_n o 1 rfl rfl dX2_isMonotone_51 ?_
      refine g_iload_n o 2 rfl rfl dX2_isMonotone_52 ?_
      refine g_iconst o ic_1 dX2_isMonotone_53 ?_
      refine g_iload o 3 rfl dX2_isMonotone_54 ?_
      refine g_ishl o dX2_isMonotone_56 ?_
      refine g_ior o dX2_isMonotone_57 ?_
      refine g_ishr o dX2_isMonotone_58 ?_
      refine g_iconst o ic_1 dX2_isMonotone_59 ?_
      refine g_iand o dX2_isMonotone_60 ?_
      refine g_ic_le (tgt := 66) o rfl dX2_isMonotone_61 hf (fun hc hf => ?_) (fun hc hf => ?_)
      · refine g_iinc o [(4, .int (s + 1)), (1, .int c1), (2, .int c2), (3, .int c3)] 3 rfl (inc_1 _) (Nat.le_of_ble_eq_true rfl) rfl dX2_isMonotone_66 ?_
        refine g_goto (tgt := 31) o rfl dX2_isMonotone_69 ?_
        have hp := lf_c hf hw
        exact g_perm [1, 2, 3, 0] rfl hp
      · refine g_iconst o ic_0 dX2_isMonotone_64 ?_
        exact g_iret (hR _ (lf_x hf hw)) hk hn nb_0 dX2_isMonotone_65
set_option maxRecDepth 20000 in
set_option maxHeartbeats 2000000 in
theorem b_X2_isMonotone_L21 {x : Cx} (o : Ok x cX2_isMonotone 5 RX2 2 0 0) {k n : Nat} (hk : k ≤ 0) (hn : n ≤ 0) (a : Nat → Nat) (u : St) (c1 : Int32) (c2 : Int32) (r : (Int32) ⊕ (Int32 × St)) (hX : ∀ s : Int32, r = .inl s → G x 5 k n (wM a u (cxT x)) [] 78 []) (hR : ∀ t, r = .inr t → rt_X2_isMonotone x a t) : ∀ (m : Nat) (s : Int32), loopN (f_X2_isMonotone_s21 u c1 c2) m s = some r → G x 5 k n (wM a u (cxT x)) [(1, .int c1), (2, .int c2), (3, .int s)] 21 [] := by
  refine loop_W _ (fun (s : Int32) => G x 5 k n (wM a u (cxT x)) [(1, .int c1), (2, .int c2), (3, .int s)] 21 []) r ?_
  intro s ww hf hw
  unfold f_X2_isMonotone_s21 at hf
  refine g_iload_n o 2 rfl rfl dX2_isMonotone_21 ?_
  refine g_iconst o ic_1 dX2_isMonotone_22 ?_
  refine g_iload_n o 0 rfl rfl dX2_isMonotone_23 ?_
  refine g_ishl o dX2_isMonotone_24 ?_
  refine g_ic_ge (tgt := 78) o rfl dX2_isMonotone_25 hf (fun hc hf => ?_) (fun hc hf => ?_)
  · exact g_perm [] rfl (hX _ (lf_x hf hw))
  · refine g_iconst o ic_0 dX2_isMonotone_28 ?_
    refine g_istore o [(4, .int 0), (1, .int c1), (2, .int c2), (3, .int s)] (Nat.le_of_ble_eq_true rfl) rfl dX2_isMonotone_29 ?_
    obtain ⟨r7, hr7, hxr7, hrr7⟩ := bl_some hf
    refine g_perm [1, 2, 3, 0] rfl (b_X2_isMonotone_L31 o hk hn a u c1 c2 s r7 (fun s31_5 hs => ?_) (fun t6 ht => ?_) FU 0 hr7)
    · have hf := hxr7 s31_5 hs
      refine g_iinc o [(3, .int (s + 1)), (1, .int c1), (2, .int c2)] 2 rfl (inc_1 _) (Nat.le_of_ble_eq_true rfl) rfl dX2_isMonotone_72 ?_
      refine g_goto (tgt := 21) o rfl dX2_isMonotone_75 ?_
      have hp := lf_c hf hw
      exact g_perm [1, 2, 0] rfl hp
    · have hf := hrr7 t6 ht
      exact hR t6 (lf_x hf hw)
set_option maxRecDepth 20000 in
set_option maxHeartbeats 2000000 in
theorem b_X2_isMonotone {x : Cx} (o : Ok x cX2_isMonotone 5 RX2 2 0 0) (a : Nat → Nat) (u : St) (p0 : Int32) (p1 : Int32) (t : Int32 × St) (hf : f_X2_isMonotone u p0 p1 = some t) (hret : rt_X2_isMonotone x a t) : G x 5 0 0 (wM a u (cxT x)) [(0, .ref (a 0)), (1, .int p0), (2, .int p1)] 0 [] := by
  unfold f_X2_isMonotone at hf
  refine g_iload_n o 1 rfl rfl dX2_isMonotone_0 ?_
  refine g_iload_n o 2 rfl rfl dX2_isMonotone_1 ?_
  obtain ⟨r11, hr11, hf⟩ := bd_some hf
  refine k_X2_isOperation_ o hr11 m_1083 (Nat.le_of_ble_eq_true rfl) (Nat.le_of_ble_eq_true rfl) ⟨(Nat.le_of_ble_eq_true rfl), (Nat.le_of_ble_eq_true rfl)⟩ dX2_isMonotone_2 ?_
  refine g_if_ne (tgt := 14) o rfl dX2_isMonotone_5 hf (fun hc hf => ?_) (fun hc hf => ?_)
  · refine g_aload_n o 0 rfl rfl dX2_isMonotone_14 ?_
    refine g_iconst o ic_0 dX2_isMonotone_15 ?_
    refine M_put0 o m_919 dX2_isMonotone_16 ?_
    refine g_iconst o ic_0 dX2_isMonotone_19 ?_
    refine g_istore_n o [(3, .int 0), (0, .ref (a 0)), (1, .int p0), (2, .int p1)] (Nat.le_of_ble_eq_true rfl) rfl rfl dX2_isMonotone_20 ?_
    obtain ⟨r13, hr13, hxr13, hrr13⟩ := bl_some hf
    refine g_perm [2, 3, 0] rfl (b_X2_isMonotone_L21 o (Nat.le_of_ble_eq_true rfl) (Nat.le_of_ble_eq_true rfl) a (us u 0 0) p0 p1 r13 (fun s21 hs => ?_) (fun t12 ht => ?_) FU 0 hr13)
    · have hf := hxr13 s21 hs
      refine g_iconst o ic_1 dX2_isMonotone_78 ?_
      cases Option.some.inj hf
      exact g_iret hret (Nat.le_of_ble_eq_true rfl) (Nat.le_of_ble_eq_true rfl) nb_1 dX2_isMonotone_79
    · have hf := hrr13 t12 ht
      cases Option.some.inj hf
      exact hret
  · refine g_aload_n o 0 rfl rfl dX2_isMonotone_8 ?_
    refine g_iconst o ic_1 dX2_isMonotone_9 ?_
    obtain ⟨r14, hr14, hf⟩ := bd_some hf
    refine k_X2_refuses_ o hr14 m_1093 (Nat.le_of_ble_eq_true rfl) (Nat.le_of_ble_eq_true rfl) ⟨(Nat.le_of_ble_eq_true rfl), (Nat.le_of_ble_eq_true rfl)⟩ dX2_isMonotone_10 ?_
    obtain ⟨hb, hf⟩ := gd_some hf
    cases Option.some.inj hf
    exact g_iret hret (Nat.le_of_ble_eq_true rfl) (Nat.le_of_ble_eq_true rfl) (okB_n hb) dX2_isMonotone_13
theorem c_X2_isMonotone (l : Launch) (hst : l.stackTraces = false) (a : Nat → Nat) (u : St) (p0 : Int32) (p1 : Int32) (t : Int32 × St) (hf : f_X2_isMonotone u p0 p1 = some t) : CoI l yX2_isMonotone (.code yX2_isMonotone cX2_isMonotone 5 (some .boolean)) 2 0 0 [.ref (a 0), .int p0, .int p1] (wM a u) (wM a t.2) (.inl t.1) := mkI hst (by decide +kernel) (Nat.le_of_ble_eq_true rfl) (fun x _ o hI hX => b_X2_isMonotone o a u p0 p1 t hf (hI _ rfl))
def rt_X2_projectedArgument (x : Cx) (a : Nat → Nat) (t : Int32 × St) : Prop := RetI x cX2_projectedArgument .int 0 0 (wM a t.2 (cxT x)) t.1
set_option maxRecDepth 20000 in
set_option maxHeartbeats 2000000 in
theorem b_X2_projectedArgument_L32 {x : Cx} (o : Ok x cX2_projectedArgument 6 RX2 2 0 0) {k n : Nat} (hk : k ≤ 0) (hn : n ≤ 0) (a : Nat → Nat) (u : St) (c1 : Int32) (c2 : Int32) (c3 : Int32) (r : (Int32 × Int32) ⊕ (Int32 × St)) (hX : ∀ s : Int32 × Int32, r = .inl s → G x 6 k n (wM a u (cxT x)) [(0, .ref (a 0)), (1, .int c1), (2, .int c2), (3, .int c3), (4, .int s.1)] 71 []) (hR : ∀ t, r = .inr t → rt_X2_projectedArgument x a t) : ∀ (m : Nat) (s : Int32 × Int32), loopN (f_X2_projectedArgument_s32 u c1 c2 c3) m s = some r → G x 6 k n (wM a u (cxT x)) [(0, .ref (a 0)), (1, .int c1), (2, .int c2), (3, .int c3), (4, .int s.1), (5, .int s.2)] 32 [] := by
  refine loop_W _ (fun (s : Int32 × Int32) => G x 6 k n (wM a u (cxT x)) [(0, .ref (a 0)), (1, .int c1), (2, .int c2), (3, .int c3), (4, .int s.1), (5, .int s.2)] 32 []) r ?_
  intro s ww hf hw
  unfold f_X2_projectedArgument_s32 at hf
  obtain ⟨s_0, s_1⟩ := s
  try dsimp -simprocs only at hf ⊢
  refine g_iload o 5 rfl dX2_projectedArgument_32 ?_
  refine g_iconst o ic_1 dX2_projectedArgument_34 ?_
  refine g_iload_n o 1 rfl rfl dX2_projectedArgument_35 ?_
  refine g_ishl o dX2_projectedArgument_36 ?_
  refine g_ic_ge (tgt := 71) o rfl dX2_projectedArgument_37 hf (fun hc hf => ?_) (fun hc hf => ?_)
  · exact g_perm [0, 1, 2, 3, 4] rfl (hX _ (lf_x hf hw))
  · refine g_iload o 4 rfl dX2_projectedArgument_40 ?_
    refine g_iload_n o 2 rfl rfl dX2_projectedArgument_42 ?_
    refine g_iload o 5 rfl dX2_projectedArgument_43 ?_
    refine g_ishr o dX2_projectedArgument_45 ?_
    refine g_iconst o ic_1 dX2_projectedArgument_46 ?_
    refine g_iand o dX2_projectedArgument_47 ?_
    refine g_iload o 5 rfl dX2_projectedArgument_48 ?_
    refine g_iload_n o 3 rfl rfl dX2_projectedArgument_50 ?_
    refine g_ishr o dX2_projectedArgument_51 ?_
    refine g_iconst o ic_1 dX2_projectedArgument_52 ?_
    refine g_iand o dX2_projectedArgument_53 ?_
    refine g_ic_ne (tgt := 61) o rfl dX2_projectedArgument_54 hf (fun hc hf => ?_) (fun hc hf => ?_)
    · refine g_iconst o ic_0 dX2_projectedArgument_61 ?_
      refine g_iadd o dX2_projectedArgument_62 ?_
      refine g_nmi hf (fun x4 hf => ?_)
      refine g_istore o [(4, .int x4), (0, .ref (a 0)), (1, .int c1), (2, .int c2), (3, .int c3), (5, .int s_1)] (Nat.le_of_ble_eq_true rfl) rfl dX2_projectedArgument_63 ?_
      refine g_iinc o [(5, .int (s_1 + 1)), (4, .int x4), (0, .ref (a 0)), (1, .int c1), (2, .int c2), (3, .int c3)] 5 rfl (inc_1 _) (Nat.le_of_ble_eq_true rfl) rfl dX2_projectedArgument_65 ?_
      refine g_goto (tgt := 32) o rfl dX2_projectedArgument_68 ?_
      have hp := lf_c hf hw
      exact g_perm [2, 3, 4, 5, 1, 0] rfl hp
    · refine g_iconst o ic_1 dX2_projectedArgument_57 ?_
      refine g_goto (tgt := 62) o rfl dX2_projectedArgument_58 ?_
      refine g_iadd o dX2_projectedArgument_62 ?_
      refine g_nmi hf (fun x5 hf => ?_)
      refine g_istore o [(4, .int x5), (0, .ref (a 0)), (1, .int c1), (2, .int c2), (3, .int c3), (5, .int s_1)] (Nat.le_of_ble_eq_true rfl) rfl dX2_projectedArgument_63 ?_
      refine g_iinc o [(5, .int (s_1 + 1)), (4, .int x5), (0, .ref (a 0)), (1, .int c1), (2, .int c2), (3, .int c3)] 5 rfl (inc_1 _) (Nat.le_of_ble_eq_true rfl) rfl dX2_projectedArgument_65 ?_
      refine g_goto (tgt := 32) o rfl dX2_projectedArgument_68 ?_
      have hp := lf_c hf hw
      exact g_perm [2, 3, 4, 5, 1, 0] rfl hp
set_option maxRecDepth 20000 in
set_option maxHeartbeats 2000000 in
theorem b_X2_projectedArgument_L21 {x : Cx} (o : Ok x cX2_projectedArgument 6 RX2 2 0 0) {k n : Nat} (hk : k ≤ 0) (hn : n ≤ 0) (a : Nat → Nat) (u : St) (c1 : Int32) (c2 : Int32) (r : (Int32) ⊕ (Int32 × St)) (hX : ∀ s : Int32, r = .inl s → G x 6 k n (wM a u (cxT x)) [(0, .ref (a 0))] 87 []) (hR : ∀ t, r = .inr t → rt_X2_projectedArgument x a t) : ∀ (m : Nat) (s : Int32), loopN (f_X2_projectedArgument_s21 u c1 c2) m s = some r → G x 6 k n (wM a u (cxT x)) [(0, .ref (a 0)), (1, .int c1), (2, .int c2), (3, .int s)] 21 [] := by
  refine loop_W _ (fun (s : Int32) => G x 6 k n (wM a u (cxT x)) [(0, .ref (a 0)), (1, .int c1), (2, .int c2), (3, .int s)] 21 []) r ?_
  intro s ww hf hw
  unfold f_X2_projectedArgument_s21 at hf
  refine g_iload_n o 3 rfl rfl dX2_projectedArgument_21 ?_
  refine g_iload_n o 1 rfl rfl dX2_projectedArgument_22 ?_
  refine g_ic_ge (tgt := 87) o rfl dX2_projectedArgument_23 hf (fun hc hf => ?_) (fun hc hf => ?_)
  · exact g_perm [0] rfl (hX _ (lf_x hf hw))
  · refine g_iconst o ic_0 dX2_projectedArgument_26 ?_
    refine g_istore o [(4, .int 0), (0, .ref (a 0)), (1, .int c1), (2, .int c2), (3, .int s)] (Nat.le_of_ble_eq_true rfl) rfl dX2_projectedArgument_27 ?_
    refine g_iconst o ic_0 dX2_projectedArgument_29 ?_
    refine g_istore o [(5, .int 0), (4, .int 0), (0, .ref (a 0)), (1, .int c1), (2, .int c2), (3, .int s)] (Nat.le_of_ble_eq_true rfl) rfl dX2_projectedArgument_30 ?_
    obtain ⟨r11, hr11, hxr11, hrr11⟩ := bl_some hf
    refine g_perm [2, 3, 4, 5, 1, 0] rfl (b_X2_projectedArgument_L32 o hk hn a u c1 c2 s r11 (fun s32_9 hs => ?_) (fun t10 ht => ?_) FU (0, 0) hr11)
    · have hf := hxr11 s32_9 hs
      obtain ⟨s32_9_0, s32_9_1⟩ := s32_9
      try dsimp -simprocs only at hf ⊢
      refine g_iload o 4 rfl dX2_projectedArgument_71 ?_
      refine g_iconst o ic_1 dX2_projectedArgument_73 ?_
      refine g_iload_n o 1 rfl rfl dX2_projectedArgument_74 ?_
      refine g_ishl o dX2_projectedArgument_75 ?_
      refine g_ic_ne (tgt := 81) o rfl dX2_projectedArgument_76 hf (fun hc hf => ?_) (fun hc hf => ?_)
      · refine g_iinc o [(3, .int (s + 1)), (0, .ref (a 0)), (1, .int c1), (2, .int c2), (4, .int s32_9_0)] 3 rfl (inc_1 _) (Nat.le_of_ble_eq_true rfl) rfl dX2_projectedArgument_81 ?_
        refine g_goto (tgt := 21) o rfl dX2_projectedArgument_84 ?_
        have hp := lf_c hf hw
        exact g_perm [1, 2, 3, 0] rfl hp
      · refine g_iload_n o 3 rfl rfl dX2_projectedArgument_79 ?_
        exact g_iret (hR _ (lf_x hf hw)) hk hn (vp_nar_int _) dX2_projectedArgument_80
    · have hf := hrr11 t10 ht
      exact hR t10 (lf_x hf hw)
set_option maxRecDepth 20000 in
set_option maxHeartbeats 2000000 in
theorem b_X2_projectedArgument {x : Cx} (o : Ok x cX2_projectedArgument 6 RX2 2 0 0) (a : Nat → Nat) (u : St) (p0 : Int32) (p1 : Int32) (t : Int32 × St) (hf : f_X2_projectedArgument u p0 p1 = some t) (hret : rt_X2_projectedArgument x a t) : G x 6 0 0 (wM a u (cxT x)) [(0, .ref (a 0)), (1, .int p0), (2, .int p1)] 0 [] := by
  unfold f_X2_projectedArgument at hf
  refine g_iload_n o 1 rfl rfl dX2_projectedArgument_0 ?_
  refine g_iload_n o 2 rfl rfl dX2_projectedArgument_1 ?_
  obtain ⟨r16, hr16, hf⟩ := bd_some hf
  refine k_X2_isOperation_ o hr16 m_1083 (Nat.le_of_ble_eq_true rfl) (Nat.le_of_ble_eq_true rfl) ⟨(Nat.le_of_ble_eq_true rfl), (Nat.le_of_ble_eq_true rfl)⟩ dX2_projectedArgument_2 ?_
  refine g_if_ne (tgt := 14) o rfl dX2_projectedArgument_5 hf (fun hc hf => ?_) (fun hc hf => ?_)
  · refine g_aload_n o 0 rfl rfl dX2_projectedArgument_14 ?_
    refine g_iconst o ic_0 dX2_projectedArgument_15 ?_
    refine M_put0 o m_919 dX2_projectedArgument_16 ?_
    refine g_iconst o ic_0 dX2_projectedArgument_19 ?_
    refine g_istore_n o [(3, .int 0), (0, .ref (a 0)), (1, .int p0), (2, .int p1)] (Nat.le_of_ble_eq_true rfl) rfl rfl dX2_projectedArgument_20 ?_
    obtain ⟨r18, hr18, hxr18, hrr18⟩ := bl_some hf
    refine g_perm [1, 2, 3, 0] rfl (b_X2_projectedArgument_L21 o (Nat.le_of_ble_eq_true rfl) (Nat.le_of_ble_eq_true rfl) a (us u 0 0) p0 p1 r18 (fun s21 hs => ?_) (fun t17 ht => ?_) FU 0 hr18)
    · have hf := hxr18 s21 hs
      refine g_aload_n o 0 rfl rfl dX2_projectedArgument_87 ?_
      refine g_iconst o ic_2 dX2_projectedArgument_88 ?_
      obtain ⟨r19, hr19, hf⟩ := bd_some hf
      refine k_X2_fails_ o hr19 m_995 (Nat.le_of_ble_eq_true rfl) (Nat.le_of_ble_eq_true rfl) ⟨(Nat.le_of_ble_eq_true rfl), (Nat.le_of_ble_eq_true rfl)⟩ dX2_projectedArgument_89 ?_
      cases Option.some.inj hf
      exact g_iret hret (Nat.le_of_ble_eq_true rfl) (Nat.le_of_ble_eq_true rfl) (vp_nar_int _) dX2_projectedArgument_92
    · have hf := hrr18 t17 ht
      cases Option.some.inj hf
      exact hret
  · refine g_aload_n o 0 rfl rfl dX2_projectedArgument_8 ?_
    refine g_iconst o ic_1 dX2_projectedArgument_9 ?_
    obtain ⟨r20, hr20, hf⟩ := bd_some hf
    refine k_X2_fails_ o hr20 m_995 (Nat.le_of_ble_eq_true rfl) (Nat.le_of_ble_eq_true rfl) ⟨(Nat.le_of_ble_eq_true rfl), (Nat.le_of_ble_eq_true rfl)⟩ dX2_projectedArgument_10 ?_
    cases Option.some.inj hf
    exact g_iret hret (Nat.le_of_ble_eq_true rfl) (Nat.le_of_ble_eq_true rfl) (vp_nar_int _) dX2_projectedArgument_13
theorem c_X2_projectedArgument (l : Launch) (hst : l.stackTraces = false) (a : Nat → Nat) (u : St) (p0 : Int32) (p1 : Int32) (t : Int32 × St) (hf : f_X2_projectedArgument u p0 p1 = some t) : CoI l yX2_projectedArgument (.code yX2_projectedArgument cX2_projectedArgument 6 (some .int)) 2 0 0 [.ref (a 0), .int p0, .int p1] (wM a u) (wM a t.2) (.inl t.1) := mkI hst (by decide +kernel) (Nat.le_of_ble_eq_true rfl) (fun x _ o hI hX => b_X2_projectedArgument o a u p0 p1 t hf (hI _ rfl))
def rt_X2_madeOf (x : Cx) (t : Int32) : Prop := RetI x cX2_madeOf .int 0 0 (w0 (cxT x)) t
set_option maxRecDepth 20000 in
set_option maxHeartbeats 2000000 in
theorem b_X2_madeOf_L64 {x : Cx} (o : Ok x cX2_madeOf 8 RX2 2 0 0) {k n : Nat} (hk : k ≤ 0) (hn : n ≤ 0) (c0 : Int32) (c1 : Int32) (c2 : Int32) (c3 : Int32) (c5 : Int32) (c6 : Int32) (r : (Int32 × Int32) ⊕ (Int32)) (hX : ∀ s : Int32 × Int32, r = .inl s → G x 8 k n (w0 (cxT x)) [(0, .int c0), (1, .int c1), (2, .int c2), (3, .int c3), (4, .int s.1), (5, .int c5), (6, .int c6)] 121 []) (hR : ∀ t, r = .inr t → rt_X2_madeOf x  t) : ∀ (m : Nat) (s : Int32 × Int32), loopN (f_X2_madeOf_s64 c0 c1 c2 c3 c5 c6) m s = some r → G x 8 k n (w0 (cxT x)) [(0, .int c0), (1, .int c1), (2, .int c2), (3, .int c3), (4, .int s.1), (5, .int c5), (6, .int c6), (7, .int s.2)] 64 [] := by
  refine loop_W _ (fun (s : Int32 × Int32) => G x 8 k n (w0 (cxT x)) [(0, .int c0), (1, .int c1), (2, .int c2), (3, .int c3), (4, .int s.1), (5, .int c5), (6, .int c6), (7, .int s.2)] 64 []) r ?_
  intro s ww hf hw
  unfold f_X2_madeOf_s64 at hf
  obtain ⟨s_0, s_1⟩ := s
  try dsimp -simprocs only at hf ⊢
  refine g_iload o 7 rfl dX2_madeOf_64 ?_
  refine g_iload_n o 0 rfl rfl dX2_madeOf_66 ?_
  refine g_iconst o ic_2 dX2_madeOf_67 ?_
  refine g_ic_le (tgt := 76) o rfl dX2_madeOf_68 hf (fun hc hf => ?_) (fun hc hf => ?_)
  · refine g_iconst o ic_1 dX2_madeOf_76 ?_
    refine g_ic_ge (tgt := 121) o rfl dX2_madeOf_77 hf (fun hc hf => ?_) (fun hc hf => ?_)
    · exact g_perm [0, 1, 2, 3, 4, 5, 6] rfl (hX _ (lf_x hf hw))
    · refine g_iload_n o 0 rfl rfl dX2_madeOf_80 ?_
      refine g_iconst o ic_3 dX2_madeOf_81 ?_
      refine g_ic_lt (tgt := 95) o rfl dX2_madeOf_82 hf (fun hc hf => ?_) (fun hc hf => ?_)
      · refine g_iload o 4 rfl dX2_madeOf_95 ?_
        refine g_iconst o ic_1 dX2_madeOf_97 ?_
        refine g_iload_n o 0 rfl rfl dX2_madeOf_98 ?_
        refine g_iload_n o 1 rfl rfl dX2_madeOf_99 ?_
        refine g_iload o 5 rfl dX2_madeOf_100 ?_
        refine g_iload o 6 rfl dX2_madeOf_102 ?_
        refine g_iload o 7 rfl dX2_madeOf_104 ?_
        obtain ⟨r9, hr9, hf⟩ := bd_some hf
        refine k_X2_applied_ o hr9 m_1101 (Nat.le_of_ble_eq_true rfl) (Nat.le_of_ble_eq_true rfl) ⟨hk, hn⟩ dX2_madeOf_106 ?_
        refine g_iload_n o 3 rfl rfl dX2_madeOf_109 ?_
        refine g_iand o dX2_madeOf_110 ?_
        refine g_ishl o dX2_madeOf_111 ?_
        refine g_ior o dX2_madeOf_112 ?_
        refine g_nmi hf (fun x10 hf => ?_)
        refine g_istore o [(4, .int x10), (0, .int c0), (1, .int c1), (2, .int c2), (3, .int c3), (5, .int c5), (6, .int c6), (7, .int s_1)] (Nat.le_of_ble_eq_true rfl) rfl dX2_madeOf_113 ?_
        refine g_iinc o [(7, .int (s_1 + 1)), (4, .int x10), (0, .int c0), (1, .int c1), (2, .int c2), (3, .int c3), (5, .int c5), (6, .int c6)] 7 rfl (inc_1 _) (Nat.le_of_ble_eq_true rfl) rfl dX2_madeOf_115 ?_
        refine g_goto (tgt := 64) o rfl dX2_madeOf_118 ?_
        have hp := lf_c hf hw
        exact g_perm [2, 3, 4, 5, 1, 6, 7, 0] rfl hp
      · refine g_iload_n o 2 rfl rfl dX2_madeOf_85 ?_
        refine g_iload o 7 rfl dX2_madeOf_86 ?_
        refine g_ishr o dX2_madeOf_88 ?_
        refine g_iconst o ic_1 dX2_madeOf_89 ?_
        refine g_iand o dX2_madeOf_90 ?_
        refine g_iconst o ic_1 dX2_madeOf_91 ?_
        refine g_ic_ne (tgt := 115) o rfl dX2_madeOf_92 hf (fun hc hf => ?_) (fun hc hf => ?_)
        · refine g_iinc o [(7, .int (s_1 + 1)), (0, .int c0), (1, .int c1), (2, .int c2), (3, .int c3), (4, .int s_0), (5, .int c5), (6, .int c6)] 7 rfl (inc_1 _) (Nat.le_of_ble_eq_true rfl) rfl dX2_madeOf_115 ?_
          refine g_goto (tgt := 64) o rfl dX2_madeOf_118 ?_
          have hp := lf_c hf hw
          exact g_perm [1, 2, 3, 4, 5, 6, 7, 0] rfl hp
        · refine g_iload o 4 rfl dX2_madeOf_95 ?_
          refine g_iconst o ic_1 dX2_madeOf_97 ?_
          refine g_iload_n o 0 rfl rfl dX2_madeOf_98 ?_
          refine g_iload_n o 1 rfl rfl dX2_madeOf_99 ?_
          refine g_iload o 5 rfl dX2_madeOf_100 ?_
          refine g_iload o 6 rfl dX2_madeOf_102 ?_
          refine g_iload o 7 rfl dX2_madeOf_104 ?_
          obtain ⟨r11, hr11, hf⟩ := bd_some hf
          refine k_X2_applied_ o hr11 m_1101 (Nat.le_of_ble_eq_true rfl) (Nat.le_of_ble_eq_true rfl) ⟨hk, hn⟩ dX2_madeOf_106 ?_
          refine g_iload_n o 3 rfl rfl dX2_madeOf_109 ?_
          refine g_iand o dX2_madeOf_110 ?_
          refine g_ishl o dX2_madeOf_111 ?_
          refine g_ior o dX2_madeOf_112 ?_
          refine g_nmi hf (fun x12 hf => ?_)
          refine g_istore o [(4, .int x12), (0, .int c0), (1, .int c1), (2, .int c2), (3, .int c3), (5, .int c5), (6, .int c6), (7, .int s_1)] (Nat.le_of_ble_eq_true rfl) rfl dX2_madeOf_113 ?_
          refine g_iinc o [(7, .int (s_1 + 1)), (4, .int x12), (0, .int c0), (1, .int c1), (2, .int c2), (3, .int c3), (5, .int c5), (6, .int c6)] 7 rfl (inc_1 _) (Nat.le_of_ble_eq_true rfl) rfl dX2_madeOf_115 ?_
          refine g_goto (tgt := 64) o rfl dX2_madeOf_118 ?_
          have hp := lf_c hf hw
          exact g_perm [2, 3, 4, 5, 1, 6, 7, 0] rfl hp
  · refine g_bipush o bp_16 dX2_madeOf_71 ?_
    refine g_goto (tgt := 77) o rfl dX2_madeOf_73 ?_
    refine g_ic_ge (tgt := 121) o rfl dX2_madeOf_77 hf (fun hc hf => ?_) (fun hc hf => ?_)
    · exact g_perm [0, 1, 2, 3, 4, 5, 6] rfl (hX _ (lf_x hf hw))
    · refine g_iload_n o 0 rfl rfl dX2_madeOf_80 ?_
      refine g_iconst o ic_3 dX2_madeOf_81 ?_
      refine g_ic_lt (tgt := 95) o rfl dX2_madeOf_82 hf (fun hc hf => ?_) (fun hc hf => ?_)
      · refine g_iload o 4 rfl dX2_madeOf_95 ?_
        refine g_iconst o ic_1 dX2_madeOf_97 ?_
        refine g_iload_n o 0 rfl rfl dX2_madeOf_98 ?_
        refine g_iload_n o 1 rfl rfl dX2_madeOf_99 ?_
        refine g_iload o 5 rfl dX2_madeOf_100 ?_
        refine g_iload o 6 rfl dX2_madeOf_102 ?_
        refine g_iload o 7 rfl dX2_madeOf_104 ?_
        obtain ⟨r13, hr13, hf⟩ := bd_some hf
        refine k_X2_applied_ o hr13 m_1101 (Nat.le_of_ble_eq_true rfl) (Nat.le_of_ble_eq_true rfl) ⟨hk, hn⟩ dX2_madeOf_106 ?_
        refine g_iload_n o 3 rfl rfl dX2_madeOf_109 ?_
        refine g_iand o dX2_madeOf_110 ?_
        refine g_ishl o dX2_madeOf_111 ?_
        refine g_ior o dX2_madeOf_112 ?_
        refine g_nmi hf (fun x14 hf => ?_)
        refine g_istore o [(4, .int x14), (0, .int c0), (1, .int c1), (2, .int c2), (3, .int c3), (5, .int c5), (6, .int c6), (7, .int s_1)] (Nat.le_of_ble_eq_true rfl) rfl dX2_madeOf_113 ?_
        refine g_iinc o [(7, .int (s_1 + 1)), (4, .int x14), (0, .int c0), (1, .int c1), (2, .int c2), (3, .int c3), (5, .int c5), (6, .int c6)] 7 rfl (inc_1 _) (Nat.le_of_ble_eq_true rfl) rfl dX2_madeOf_115 ?_
        refine g_goto (tgt := 64) o rfl dX2_madeOf_118 ?_
        have hp := lf_c hf hw
        exact g_perm [2, 3, 4, 5, 1, 6, 7, 0] rfl hp
      · refine g_iload_n o 2 rfl rfl dX2_madeOf_85 ?_
        refine g_iload o 7 rfl dX2_madeOf_86 ?_
        refine g_ishr o dX2_madeOf_88 ?_
        refine g_iconst o ic_1 dX2_madeOf_89 ?_
        refine g_iand o dX2_madeOf_90 ?_
        refine g_iconst o ic_1 dX2_madeOf_91 ?_
        refine g_ic_ne (tgt := 115) o rfl dX2_madeOf_92 hf (fun hc hf => ?_) (fun hc hf => ?_)
        · refine g_iinc o [(7, .int (s_1 + 1)), (0, .int c0), (1, .int c1), (2, .int c2), (3, .int c3), (4, .int s_0), (5, .int c5), (6, .int c6)] 7 rfl (inc_1 _) (Nat.le_of_ble_eq_true rfl) rfl dX2_madeOf_115 ?_
          refine g_goto (tgt := 64) o rfl dX2_madeOf_118 ?_
          have hp := lf_c hf hw
          exact g_perm [1, 2, 3, 4, 5, 6, 7, 0] rfl hp
        · refine g_iload o 4 rfl dX2_madeOf_95 ?_
          refine g_iconst o ic_1 dX2_madeOf_97 ?_
          refine g_iload_n o 0 rfl rfl dX2_madeOf_98 ?_
          refine g_iload_n o 1 rfl rfl dX2_madeOf_99 ?_
          refine g_iload o 5 rfl dX2_madeOf_100 ?_
          refine g_iload o 6 rfl dX2_madeOf_102 ?_
          refine g_iload o 7 rfl dX2_madeOf_104 ?_
          obtain ⟨r15, hr15, hf⟩ := bd_some hf
          refine k_X2_applied_ o hr15 m_1101 (Nat.le_of_ble_eq_true rfl) (Nat.le_of_ble_eq_true rfl) ⟨hk, hn⟩ dX2_madeOf_106 ?_
          refine g_iload_n o 3 rfl rfl dX2_madeOf_109 ?_
          refine g_iand o dX2_madeOf_110 ?_
          refine g_ishl o dX2_madeOf_111 ?_
          refine g_ior o dX2_madeOf_112 ?_
          refine g_nmi hf (fun x16 hf => ?_)
          refine g_istore o [(4, .int x16), (0, .int c0), (1, .int c1), (2, .int c2), (3, .int c3), (5, .int c5), (6, .int c6), (7, .int s_1)] (Nat.le_of_ble_eq_true rfl) rfl dX2_madeOf_113 ?_
          refine g_iinc o [(7, .int (s_1 + 1)), (4, .int x16), (0, .int c0), (1, .int c1), (2, .int c2), (3, .int c3), (5, .int c5), (6, .int c6)] 7 rfl (inc_1 _) (Nat.le_of_ble_eq_true rfl) rfl dX2_madeOf_115 ?_
          refine g_goto (tgt := 64) o rfl dX2_madeOf_118 ?_
          have hp := lf_c hf hw
          exact g_perm [2, 3, 4, 5, 1, 6, 7, 0] rfl hp
set_option maxRecDepth 20000 in
set_option maxHeartbeats 2000000 in
theorem b_X2_madeOf_L28 {x : Cx} (o : Ok x cX2_madeOf 8 RX2 2 0 0) {k n : Nat} (hk : k ≤ 0) (hn : n ≤ 0) (c0 : Int32) (c1 : Int32) (c2 : Int32) (c3 : Int32) (c5 : Int32) (r : (Int32 × Int32) ⊕ (Int32)) (hX : ∀ s : Int32 × Int32, r = .inl s → G x 8 k n (w0 (cxT x)) [(0, .int c0), (1, .int c1), (2, .int c2), (3, .int c3), (4, .int s.1), (5, .int c5)] 127 []) (hR : ∀ t, r = .inr t → rt_X2_madeOf x  t) : ∀ (m : Nat) (s : Int32 × Int32), loopN (f_X2_madeOf_s28 c0 c1 c2 c3 c5) m s = some r → G x 8 k n (w0 (cxT x)) [(0, .int c0), (1, .int c1), (2, .int c2), (3, .int c3), (4, .int s.1), (5, .int c5), (6, .int s.2)] 28 [] := by
  refine loop_W _ (fun (s : Int32 × Int32) => G x 8 k n (w0 (cxT x)) [(0, .int c0), (1, .int c1), (2, .int c2), (3, .int c3), (4, .int s.1), (5, .int c5), (6, .int s.2)] 28 []) r ?_
  intro s ww hf hw
  unfold f_X2_madeOf_s28 at hf
  obtain ⟨s_0, s_1⟩ := s
  try dsimp -simprocs only at hf ⊢
  refine g_iload o 6 rfl dX2_madeOf_28 ?_
  refine g_iload_n o 0 rfl rfl dX2_madeOf_30 ?_
  refine g_iconst o ic_1 dX2_madeOf_31 ?_
  refine g_ic_le (tgt := 40) o rfl dX2_madeOf_32 hf (fun hc hf => ?_) (fun hc hf => ?_)
  · refine g_iconst o ic_1 dX2_madeOf_40 ?_
    refine g_ic_ge (tgt := 127) o rfl dX2_madeOf_41 hf (fun hc hf => ?_) (fun hc hf => ?_)
    · exact g_perm [0, 1, 2, 3, 4, 5] rfl (hX _ (lf_x hf hw))
    · refine g_iload_n o 0 rfl rfl dX2_madeOf_44 ?_
      refine g_iconst o ic_1 dX2_madeOf_45 ?_
      refine g_ic_le (tgt := 61) o rfl dX2_madeOf_46 hf (fun hc hf => ?_) (fun hc hf => ?_)
      · refine g_iconst o ic_0 dX2_madeOf_61 ?_
        refine g_istore o [(7, .int 0), (0, .int c0), (1, .int c1), (2, .int c2), (3, .int c3), (4, .int s_0), (5, .int c5), (6, .int s_1)] (Nat.le_of_ble_eq_true rfl) rfl dX2_madeOf_62 ?_
        obtain ⟨r31, hr31, hxr31, hrr31⟩ := bl_some hf
        refine g_perm [1, 2, 3, 4, 5, 6, 7, 0] rfl (b_X2_madeOf_L64 o hk hn  c0 c1 c2 c3 c5 s_1 r31 (fun s64_29 hs => ?_) (fun t30 ht => ?_) FU (s_0, 0) hr31)
        · have hf := hxr31 s64_29 hs
          obtain ⟨s64_29_0, s64_29_1⟩ := s64_29
          try dsimp -simprocs only at hf ⊢
          refine g_iinc o [(6, .int (s_1 + 1)), (0, .int c0), (1, .int c1), (2, .int c2), (3, .int c3), (4, .int s64_29_0), (5, .int c5)] 6 rfl (inc_1 _) (Nat.le_of_ble_eq_true rfl) rfl dX2_madeOf_121 ?_
          refine g_goto (tgt := 28) o rfl dX2_madeOf_124 ?_
          have hp := lf_c hf hw
          exact g_perm [1, 2, 3, 4, 5, 6, 0] rfl hp
        · have hf := hrr31 t30 ht
          exact hR t30 (lf_x hf hw)
      · refine g_iload_n o 2 rfl rfl dX2_madeOf_49 ?_
        refine g_iload o 6 rfl dX2_madeOf_50 ?_
        refine g_ishr o dX2_madeOf_52 ?_
        refine g_iconst o ic_1 dX2_madeOf_53 ?_
        refine g_iand o dX2_madeOf_54 ?_
        refine g_if_ne (tgt := 61) o rfl dX2_madeOf_55 hf (fun hc hf => ?_) (fun hc hf => ?_)
        · refine g_iconst o ic_0 dX2_madeOf_61 ?_
          refine g_istore o [(7, .int 0), (0, .int c0), (1, .int c1), (2, .int c2), (3, .int c3), (4, .int s_0), (5, .int c5), (6, .int s_1)] (Nat.le_of_ble_eq_true rfl) rfl dX2_madeOf_62 ?_
          obtain ⟨r34, hr34, hxr34, hrr34⟩ := bl_some hf
          refine g_perm [1, 2, 3, 4, 5, 6, 7, 0] rfl (b_X2_madeOf_L64 o hk hn  c0 c1 c2 c3 c5 s_1 r34 (fun s64_32 hs => ?_) (fun t33 ht => ?_) FU (s_0, 0) hr34)
          · have hf := hxr34 s64_32 hs
            obtain ⟨s64_32_0, s64_32_1⟩ := s64_32
            try dsimp -simprocs only at hf ⊢
            refine g_iinc o [(6, .int (s_1 + 1)), (0, .int c0), (1, .int c1), (2, .int c2), (3, .int c3), (4, .int s64_32_0), (5, .int c5)] 6 rfl (inc_1 _) (Nat.le_of_ble_eq_true rfl) rfl dX2_madeOf_121 ?_
            refine g_goto (tgt := 28) o rfl dX2_madeOf_124 ?_
            have hp := lf_c hf hw
            exact g_perm [1, 2, 3, 4, 5, 6, 0] rfl hp
          · have hf := hrr34 t33 ht
            exact hR t33 (lf_x hf hw)
        · refine g_goto (tgt := 121) o rfl dX2_madeOf_58 ?_
          refine g_iinc o [(6, .int (s_1 + 1)), (0, .int c0), (1, .int c1), (2, .int c2), (3, .int c3), (4, .int s_0), (5, .int c5)] 6 rfl (inc_1 _) (Nat.le_of_ble_eq_true rfl) rfl dX2_madeOf_121 ?_
          refine g_goto (tgt := 28) o rfl dX2_madeOf_124 ?_
          have hp := lf_c hf hw
          exact g_perm [1, 2, 3, 4, 5, 6, 0] rfl hp
  · refine g_bipush o bp_16 dX2_madeOf_35 ?_
    refine g_goto (tgt := 41) o rfl dX2_madeOf_37 ?_
    refine g_ic_ge (tgt := 127) o rfl dX2_madeOf_41 hf (fun hc hf => ?_) (fun hc hf => ?_)
    · exact g_perm [0, 1, 2, 3, 4, 5] rfl (hX _ (lf_x hf hw))
    · refine g_iload_n o 0 rfl rfl dX2_madeOf_44 ?_
      refine g_iconst o ic_1 dX2_madeOf_45 ?_
      refine g_ic_le (tgt := 61) o rfl dX2_madeOf_46 hf (fun hc hf => ?_) (fun hc hf => ?_)
      · refine g_iconst o ic_0 dX2_madeOf_61 ?_
        refine g_istore o [(7, .int 0), (0, .int c0), (1, .int c1), (2, .int c2), (3, .int c3), (4, .int s_0), (5, .int c5), (6, .int s_1)] (Nat.le_of_ble_eq_true rfl) rfl dX2_madeOf_62 ?_
        obtain ⟨r37, hr37, hxr37, hrr37⟩ := bl_some hf
        refine g_perm [1, 2, 3, 4, 5, 6, 7, 0] rfl (b_X2_madeOf_L64 o hk hn  c0 c1 c2 c3 c5 s_1 r37 (fun s64_35 hs => ?_) (fun t36 ht => ?_) FU (s_0, 0) hr37)
        · have hf := hxr37 s64_35 hs
          obtain ⟨s64_35_0, s64_35_1⟩ := s64_35
          try dsimp -simprocs only at hf ⊢
          refine g_iinc o [(6, .int (s_1 + 1)), (0, .int c0), (1, .int c1), (2, .int c2), (3, .int c3), (4, .int s64_35_0), (5, .int c5)] 6 rfl (inc_1 _) (Nat.le_of_ble_eq_true rfl) rfl dX2_madeOf_121 ?_
          refine g_goto (tgt := 28) o rfl dX2_madeOf_124 ?_
          have hp := lf_c hf hw
          exact g_perm [1, 2, 3, 4, 5, 6, 0] rfl hp
        · have hf := hrr37 t36 ht
          exact hR t36 (lf_x hf hw)
      · refine g_iload_n o 2 rfl rfl dX2_madeOf_49 ?_
        refine g_iload o 6 rfl dX2_madeOf_50 ?_
        refine g_ishr o dX2_madeOf_52 ?_
        refine g_iconst o ic_1 dX2_madeOf_53 ?_
        refine g_iand o dX2_madeOf_54 ?_
        refine g_if_ne (tgt := 61) o rfl dX2_madeOf_55 hf (fun hc hf => ?_) (fun hc hf => ?_)
        · refine g_iconst o ic_0 dX2_madeOf_61 ?_
          refine g_istore o [(7, .int 0), (0, .int c0), (1, .int c1), (2, .int c2), (3, .int c3), (4, .int s_0), (5, .int c5), (6, .int s_1)] (Nat.le_of_ble_eq_true rfl) rfl dX2_madeOf_62 ?_
          obtain ⟨r40, hr40, hxr40, hrr40⟩ := bl_some hf
          refine g_perm [1, 2, 3, 4, 5, 6, 7, 0] rfl (b_X2_madeOf_L64 o hk hn  c0 c1 c2 c3 c5 s_1 r40 (fun s64_38 hs => ?_) (fun t39 ht => ?_) FU (s_0, 0) hr40)
          · have hf := hxr40 s64_38 hs
            obtain ⟨s64_38_0, s64_38_1⟩ := s64_38
            try dsimp -simprocs only at hf ⊢
            refine g_iinc o [(6, .int (s_1 + 1)), (0, .int c0), (1, .int c1), (2, .int c2), (3, .int c3), (4, .int s64_38_0), (5, .int c5)] 6 rfl (inc_1 _) (Nat.le_of_ble_eq_true rfl) rfl dX2_madeOf_121 ?_
            refine g_goto (tgt := 28) o rfl dX2_madeOf_124 ?_
            have hp := lf_c hf hw
            exact g_perm [1, 2, 3, 4, 5, 6, 0] rfl hp
          · have hf := hrr40 t39 ht
            exact hR t39 (lf_x hf hw)
        · refine g_goto (tgt := 121) o rfl dX2_madeOf_58 ?_
          refine g_iinc o [(6, .int (s_1 + 1)), (0, .int c0), (1, .int c1), (2, .int c2), (3, .int c3), (4, .int s_0), (5, .int c5)] 6 rfl (inc_1 _) (Nat.le_of_ble_eq_true rfl) rfl dX2_madeOf_121 ?_
          refine g_goto (tgt := 28) o rfl dX2_madeOf_124 ?_
          have hp := lf_c hf hw
          exact g_perm [1, 2, 3, 4, 5, 6, 0] rfl hp
set_option maxRecDepth 20000 in
set_option maxHeartbeats 2000000 in
theorem b_X2_madeOf_L6 {x : Cx} (o : Ok x cX2_madeOf 8 RX2 2 0 0) {k n : Nat} (hk : k ≤ 0) (hn : n ≤ 0) (c0 : Int32) (c1 : Int32) (c2 : Int32) (c3 : Int32) (r : (Int32 × Int32) ⊕ (Int32)) (hX : ∀ s : Int32 × Int32, r = .inl s → G x 8 k n (w0 (cxT x)) [(4, .int s.1)] 133 []) (hR : ∀ t, r = .inr t → rt_X2_madeOf x  t) : ∀ (m : Nat) (s : Int32 × Int32), loopN (f_X2_madeOf_s6 c0 c1 c2 c3) m s = some r → G x 8 k n (w0 (cxT x)) [(0, .int c0), (1, .int c1), (2, .int c2), (3, .int c3), (4, .int s.1), (5, .int s.2)] 6 [] := by
  refine loop_W _ (fun (s : Int32 × Int32) => G x 8 k n (w0 (cxT x)) [(0, .int c0), (1, .int c1), (2, .int c2), (3, .int c3), (4, .int s.1), (5, .int s.2)] 6 []) r ?_
  intro s ww hf hw
  unfold f_X2_madeOf_s6 at hf
  obtain ⟨s_0, s_1⟩ := s
  try dsimp -simprocs only at hf ⊢
  refine g_iload o 5 rfl dX2_madeOf_6 ?_
  refine g_bipush o bp_16 dX2_madeOf_8 ?_
  refine g_ic_ge (tgt := 133) o rfl dX2_madeOf_10 hf (fun hc hf => ?_) (fun hc hf => ?_)
  · exact g_perm [4] rfl (hX _ (lf_x hf hw))
  · refine g_iload_n o 2 rfl rfl dX2_madeOf_13 ?_
    refine g_iload o 5 rfl dX2_madeOf_14 ?_
    refine g_ishr o dX2_madeOf_16 ?_
    refine g_iconst o ic_1 dX2_madeOf_17 ?_
    refine g_iand o dX2_madeOf_18 ?_
    refine g_if_ne (tgt := 25) o rfl dX2_madeOf_19 hf (fun hc hf => ?_) (fun hc hf => ?_)
    · refine g_iconst o ic_0 dX2_madeOf_25 ?_
      refine g_istore o [(6, .int 0), (0, .int c0), (1, .int c1), (2, .int c2), (3, .int c3), (4, .int s_0), (5, .int s_1)] (Nat.le_of_ble_eq_true rfl) rfl dX2_madeOf_26 ?_
      obtain ⟨r46, hr46, hxr46, hrr46⟩ := bl_some hf
      refine g_perm [1, 2, 3, 4, 5, 6, 0] rfl (b_X2_madeOf_L28 o hk hn  c0 c1 c2 c3 s_1 r46 (fun s28_44 hs => ?_) (fun t45 ht => ?_) FU (s_0, 0) hr46)
      · have hf := hxr46 s28_44 hs
        obtain ⟨s28_44_0, s28_44_1⟩ := s28_44
        try dsimp -simprocs only at hf ⊢
        refine g_iinc o [(5, .int (s_1 + 1)), (0, .int c0), (1, .int c1), (2, .int c2), (3, .int c3), (4, .int s28_44_0)] 5 rfl (inc_1 _) (Nat.le_of_ble_eq_true rfl) rfl dX2_madeOf_127 ?_
        refine g_goto (tgt := 6) o rfl dX2_madeOf_130 ?_
        have hp := lf_c hf hw
        exact g_perm [1, 2, 3, 4, 5, 0] rfl hp
      · have hf := hrr46 t45 ht
        exact hR t45 (lf_x hf hw)
    · refine g_goto (tgt := 127) o rfl dX2_madeOf_22 ?_
      refine g_iinc o [(5, .int (s_1 + 1)), (0, .int c0), (1, .int c1), (2, .int c2), (3, .int c3), (4, .int s_0)] 5 rfl (inc_1 _) (Nat.le_of_ble_eq_true rfl) rfl dX2_madeOf_127 ?_
      refine g_goto (tgt := 6) o rfl dX2_madeOf_130 ?_
      have hp := lf_c hf hw
      exact g_perm [1, 2, 3, 4, 5, 0] rfl hp
set_option maxRecDepth 20000 in
set_option maxHeartbeats 2000000 in
theorem b_X2_madeOf {x : Cx} (o : Ok x cX2_madeOf 8 RX2 2 0 0) (p0 : Int32) (p1 : Int32) (p2 : Int32) (p3 : Int32) (t : Int32) (hf : f_X2_madeOf p0 p1 p2 p3 = some t) (hret : rt_X2_madeOf x  t) : G x 8 0 0 (w0 (cxT x)) [(0, .int p0), (1, .int p1), (2, .int p2), (3, .int p3)] 0 [] := by
  unfold f_X2_madeOf at hf
  refine g_iconst o ic_0 dX2_madeOf_0 ?_
  refine g_istore o [(4, .int 0), (0, .int p0), (1, .int p1), (2, .int p2), (3, .int p3)] (Nat.le_of_ble_eq_true rfl) rfl dX2_madeOf_1 ?_
  refine g_iconst o ic_0 dX2_madeOf_3 ?_
  refine g_istore o [(5, .int 0), (4, .int 0), (0, .int p0), (1, .int p1), (2, .int p2), (3, .int p3)] (Nat.le_of_ble_eq_true rfl) rfl dX2_madeOf_4 ?_
  obtain ⟨r50, hr50, hxr50, hrr50⟩ := bl_some hf
  refine g_perm [2, 3, 4, 5, 1, 0] rfl (b_X2_madeOf_L6 o (Nat.le_of_ble_eq_true rfl) (Nat.le_of_ble_eq_true rfl)  p0 p1 p2 p3 r50 (fun s6 hs => ?_) (fun t49 ht => ?_) FU (0, 0) hr50)
  · have hf := hxr50 s6 hs
    obtain ⟨s6_0, s6_1⟩ := s6
    try dsimp -simprocs only at hf ⊢
    refine g_iload o 0 rfl dX2_madeOf_133 ?_
    cases Option.some.inj hf
    exact g_iret hret (Nat.le_of_ble_eq_true rfl) (Nat.le_of_ble_eq_true rfl) (vp_nar_int _) dX2_madeOf_135
  · have hf := hrr50 t49 ht
    cases Option.some.inj hf
    exact hret
theorem c_X2_madeOf (l : Launch) (hst : l.stackTraces = false) (p0 : Int32) (p1 : Int32) (p2 : Int32) (p3 : Int32) (t : Int32) (hf : f_X2_madeOf p0 p1 p2 p3 = some t) : CoI l yX2_madeOf (.code yX2_madeOf cX2_madeOf 8 (some .int)) 2 0 0 [.int p0, .int p1, .int p2, .int p3] w0 w0 (.inl t) := mkI hst (by decide +kernel) (Nat.le_of_ble_eq_true rfl) (fun x _ o hI hX => b_X2_madeOf o p0 p1 p2 p3 t hf (hI _ rfl))
theorem k_X2_madeOf_ {x : Cx} {cc : ByteArray} {nL : Nat} {own : String} {d mc ms k n : Nat} {lv : List (Nat × Value)} {pc i : Nat} {rest : List Value} {wd : va_W} {p0 : Int32} {p1 : Int32} {p2 : Int32} {p3 : Int32} (o : Ok x cc nL own d mc ms) {t : Int32} (ht : f_X2_madeOf p0 p1 p2 p3 = some t) (hlk : Cond.methodLink own i yX2_madeOf ∈ Ug) (hd : 2 < d) (hr : (rest.map fun v => v.category).sum ≤ 8) (hk : k + 0 ≤ mc ∧ n + 0 ≤ ms) (dg : decode cc pc = .ok (.invokestatic i, 3)) (kk : G x nL (k + 0) (n + 0) wd lv (pc + 3) (.int t :: rest)) : G x nL k n wd lv pc (.int p3 :: .int p2 :: .int p1 :: .int p0 :: rest) := gcI (wd2 := wd) o (c_X2_madeOf (cxl x) o.2.2.2.2.2.2.2.2.2.1 p0 p1 p2 p3 t ht) (can_S o hd (Nat.le_of_ble_eq_true rfl) m_1138 m_56 m_1137 hlk yk_X2_madeOf rfl hr hk dg) sp_none (fun E h => by cases h) (fun r h => by cases h; exact kk)
def rt_X2_close (x : Cx) (a : Nat → Nat) (t : Int32 × St) : Prop := RetI x cX2_close .int 0 0 (wM a t.2 (cxT x)) t.1
set_option maxRecDepth 20000 in
set_option maxHeartbeats 2000000 in
theorem b_X2_close_L36 {x : Cx} (o : Ok x cX2_close 5 RX2 3 0 0) {k n : Nat} (hk : k ≤ 0) (hn : n ≤ 0) (a : Nat → Nat) (c1 : Int32) (c2 : Int32) (c3 : Int32) (r : (Int32 × St) ⊕ (Int32 × St)) (hX : ∀ s : Int32 × St, r = .inl s → G x 5 k n (wM a s.2 (cxT x)) [(4, .int s.1)] 84 []) (hR : ∀ t, r = .inr t → rt_X2_close x a t) : ∀ (m : Nat) (s : Int32 × St), loopN (f_X2_close_s36 c1 c2 c3) m s = some r → G x 5 k n (wM a s.2 (cxT x)) [(0, .ref (a 0)), (1, .int c1), (2, .int c2), (3, .int c3), (4, .int s.1)] 36 [] := by
  refine loop_W _ (fun (s : Int32 × St) => G x 5 k n (wM a s.2 (cxT x)) [(0, .ref (a 0)), (1, .int c1), (2, .int c2), (3, .int c3), (4, .int s.1)] 36 []) r ?_
  intro s ww hf hw
  unfold f_X2_close_s36 at hf
  obtain ⟨s_0, s_1⟩ := s
  try dsimp -simprocs only at hf ⊢
  refine g_iload o 4 rfl dX2_close_36 ?_
  refine g_aload_n o 0 rfl rfl dX2_close_38 ?_
  refine M_get2 o m_921 dX2_close_39 ?_
  refine g_iload_n o 1 rfl rfl dX2_close_42 ?_
  refine M_ld2 o dX2_close_43 hf (fun hf => ?_)
  refine g_ic_eq (tgt := 84) o rfl dX2_close_44 hf (fun hc hf => ?_) (fun hc hf => ?_)
  · exact g_perm [4] rfl (hX _ (lf_x hf hw))
  · refine g_aload_n o 0 rfl rfl dX2_close_47 ?_
    refine M_get2 o m_921 dX2_close_48 ?_
    refine g_iload_n o 1 rfl rfl dX2_close_51 ?_
    refine M_ld2 o dX2_close_52 hf (fun hf => ?_)
    refine g_nmi hf (fun x5 hf => ?_)
    refine g_istore o [(4, .int x5), (0, .ref (a 0)), (1, .int c1), (2, .int c2), (3, .int c3)] (Nat.le_of_ble_eq_true rfl) rfl dX2_close_53 ?_
    refine g_aload_n o 1 rfl rfl dX2_close_55 ?_
    refine M_get2 o m_921 dX2_close_56 ?_
    refine g_iload_n o 2 rfl rfl dX2_close_59 ?_
    refine g_dup2 o rfl rfl dX2_close_60 ?_
    refine M_ld2 o dX2_close_61 hf (fun hf => ?_)
    refine g_iload_n o 3 rfl rfl dX2_close_62 ?_
    refine g_iload_n o 4 rfl rfl dX2_close_63 ?_
    refine g_iload o 0 rfl dX2_close_64 ?_
    refine g_iconst o ic_1 dX2_close_66 ?_
    refine g_aload_n o 1 rfl rfl dX2_close_67 ?_
    refine M_get1 o m_920 dX2_close_68 ?_
    refine g_iload_n o 2 rfl rfl dX2_close_71 ?_
    refine M_ld1 o dX2_close_72 hf (fun hf => ?_)
    refine g_ishl o dX2_close_73 ?_
    refine g_iconst o ic_1 dX2_close_74 ?_
    refine g_isub o dX2_close_75 ?_
    obtain ⟨r6, hr6, hf⟩ := bd_some hf
    refine k_X2_madeOf_ o hr6 m_1136 (Nat.le_of_ble_eq_true rfl) (Nat.le_of_ble_eq_true rfl) ⟨hk, hn⟩ dX2_close_76 ?_
    refine g_ior o dX2_close_79 ?_
    refine M_st2 o dX2_close_80 hf (fun hf => ?_)
    refine g_goto (tgt := 36) o rfl dX2_close_81 ?_
    have hp := lf_c hf hw
    exact g_perm [1, 2, 3, 4, 0] rfl hp
set_option maxRecDepth 20000 in
set_option maxHeartbeats 2000000 in
theorem b_X2_close {x : Cx} (o : Ok x cX2_close 5 RX2 3 0 0) (a : Nat → Nat) (u : St) (p0 : Int32) (p1 : Int32) (p2 : Int32) (t : Int32 × St) (hf : f_X2_close u p0 p1 p2 = some t) (hret : rt_X2_close x a t) : G x 5 0 0 (wM a u (cxT x)) [(0, .ref (a 0)), (1, .int p0), (2, .int p1), (3, .int p2)] 0 [] := by
  unfold f_X2_close at hf
  refine g_aload_n o 0 rfl rfl dX2_close_0 ?_
  refine g_iload_n o 1 rfl rfl dX2_close_1 ?_
  obtain ⟨r12, hr12, hf⟩ := bd_some hf
  refine k_X2_isRelation_ o hr12 m_1031 (Nat.le_of_ble_eq_true rfl) (Nat.le_of_ble_eq_true rfl) ⟨(Nat.le_of_ble_eq_true rfl), (Nat.le_of_ble_eq_true rfl)⟩ dX2_close_2 ?_
  refine g_if_ne (tgt := 14) o rfl dX2_close_5 hf (fun hc hf => ?_) (fun hc hf => ?_)
  · refine g_iload_n o 2 rfl rfl dX2_close_14 ?_
    refine g_iload_n o 3 rfl rfl dX2_close_15 ?_
    obtain ⟨r13, hr13, hf⟩ := bd_some hf
    refine k_X2_isOperation_ o hr13 m_1083 (Nat.le_of_ble_eq_true rfl) (Nat.le_of_ble_eq_true rfl) ⟨(Nat.le_of_ble_eq_true rfl), (Nat.le_of_ble_eq_true rfl)⟩ dX2_close_16 ?_
    refine g_if_ne (tgt := 28) o rfl dX2_close_19 hf (fun hc hf => ?_) (fun hc hf => ?_)
    · refine g_aload_n o 0 rfl rfl dX2_close_28 ?_
      refine g_iconst o ic_0 dX2_close_29 ?_
      refine M_put0 o m_919 dX2_close_30 ?_
      refine g_iconst o ic_m1 dX2_close_33 ?_
      refine g_istore o [(4, .int (-1)), (0, .ref (a 0)), (1, .int p0), (2, .int p1), (3, .int p2)] (Nat.le_of_ble_eq_true rfl) rfl dX2_close_34 ?_
      obtain ⟨r15, hr15, hxr15, hrr15⟩ := bl_some hf
      refine g_perm [1, 2, 3, 4, 0] rfl (b_X2_close_L36 o (Nat.le_of_ble_eq_true rfl) (Nat.le_of_ble_eq_true rfl) a p0 p1 p2 r15 (fun s36 hs => ?_) (fun t14 ht => ?_) FU ((-1), (us u 0 0)) hr15)
      · have hf := hxr15 s36 hs
        obtain ⟨s36_0, s36_1⟩ := s36
        try dsimp -simprocs only at hf ⊢
        refine g_iload o 0 rfl dX2_close_84 ?_
        obtain ⟨r16, hr16, hf⟩ := bd_some hf
        refine k_X2_bits_ o hr16 m_1020 (Nat.le_of_ble_eq_true rfl) (Nat.le_of_ble_eq_true rfl) ⟨(Nat.le_of_ble_eq_true rfl), (Nat.le_of_ble_eq_true rfl)⟩ dX2_close_86 ?_
        cases Option.some.inj hf
        exact g_iret hret (Nat.le_of_ble_eq_true rfl) (Nat.le_of_ble_eq_true rfl) (vp_nar_int _) dX2_close_89
      · have hf := hrr15 t14 ht
        cases Option.some.inj hf
        exact hret
    · refine g_aload_n o 0 rfl rfl dX2_close_22 ?_
      refine g_iconst o ic_2 dX2_close_23 ?_
      obtain ⟨r17, hr17, hf⟩ := bd_some hf
      refine k_X2_fails_ o hr17 m_995 (Nat.le_of_ble_eq_true rfl) (Nat.le_of_ble_eq_true rfl) ⟨(Nat.le_of_ble_eq_true rfl), (Nat.le_of_ble_eq_true rfl)⟩ dX2_close_24 ?_
      cases Option.some.inj hf
      exact g_iret hret (Nat.le_of_ble_eq_true rfl) (Nat.le_of_ble_eq_true rfl) (vp_nar_int _) dX2_close_27
  · refine g_aload_n o 0 rfl rfl dX2_close_8 ?_
    refine g_iconst o ic_1 dX2_close_9 ?_
    obtain ⟨r18, hr18, hf⟩ := bd_some hf
    refine k_X2_fails_ o hr18 m_995 (Nat.le_of_ble_eq_true rfl) (Nat.le_of_ble_eq_true rfl) ⟨(Nat.le_of_ble_eq_true rfl), (Nat.le_of_ble_eq_true rfl)⟩ dX2_close_10 ?_
    cases Option.some.inj hf
    exact g_iret hret (Nat.le_of_ble_eq_true rfl) (Nat.le_of_ble_eq_true rfl) (vp_nar_int _) dX2_close_13
theorem c_X2_close (l : Launch) (hst : l.stackTraces = false) (a : Nat → Nat) (u : St) (p0 : Int32) (p1 : Int32) (p2 : Int32) (t : Int32 × St) (hf : f_X2_close u p0 p1 p2 = some t) : CoI l yX2_close (.code yX2_close cX2_close 5 (some .int)) 3 0 0 [.ref (a 0), .int p0, .int p1, .int p2] (wM a u) (wM a t.2) (.inl t.1) := mkI hst (by decide +kernel) (Nat.le_of_ble_eq_true rfl) (fun x _ o hI hX => b_X2_close o a u p0 p1 p2 t hf (hI _ rfl))
def rt_X2_dual (x : Cx) (a : Nat → Nat) (t : Int32 × St) : Prop := RetI x cX2_dual .int 0 0 (wM a t.2 (cxT x)) t.1
set_option maxRecDepth 20000 in
set_option maxHeartbeats 2000000 in
theorem b_X2_dual_L31 {x : Cx} (o : Ok x cX2_dual 6 RX2 2 0 0) {k n : Nat} (hk : k ≤ 0) (hn : n ≤ 0) (a : Nat → Nat) (u : St) (c2 : Int32) (c4 : Int32) (r : (Int32 × Int32) ⊕ (Int32 × St)) (hX : ∀ s : Int32 × Int32, r = .inl s → G x 6 k n (wM a u (cxT x)) [(3, .int s.1)] 61 []) (hR : ∀ t, r = .inr t → rt_X2_dual x a t) : ∀ (m : Nat) (s : Int32 × Int32), loopN (f_X2_dual_s31 u c2 c4) m s = some r → G x 6 k n (wM a u (cxT x)) [(2, .int c2), (3, .int s.1), (4, .int c4), (5, .int s.2)] 31 [] := by
  refine loop_W _ (fun (s : Int32 × Int32) => G x 6 k n (wM a u (cxT x)) [(2, .int c2), (3, .int s.1), (4, .int c4), (5, .int s.2)] 31 []) r ?_
  intro s ww hf hw
  unfold f_X2_dual_s31 at hf
  obtain ⟨s_0, s_1⟩ := s
  try dsimp -simprocs only at hf ⊢
  refine g_iload o 3 rfl dX2_dual_31 ?_
  refine g_iload o 2 rfl dX2_dual_33 ?_
  refine g_ic_gt (tgt := 61) o rfl dX2_dual_35 hf (fun hc hf => ?_) (fun hc hf => ?_)
  · exact g_perm [1] rfl (hX _ (lf_x hf hw))
  · refine g_iload_n o 1 rfl rfl dX2_dual_38 ?_
    refine g_iconst o ic_1 dX2_dual_39 ?_
    refine g_iload_n o 0 rfl rfl dX2_dual_40 ?_
    refine g_iload o 2 rfl dX2_dual_41 ?_
    refine g_iload o 3 rfl dX2_dual_43 ?_
    refine g_isub o dX2_dual_45 ?_
    refine g_ishr o dX2_dual_46 ?_
    refine g_iconst o ic_1 dX2_dual_47 ?_
    refine g_iand o dX2_dual_48 ?_
    refine g_isub o dX2_dual_49 ?_
    refine g_iload o 3 rfl dX2_dual_50 ?_
    refine g_ishl o dX2_dual_52 ?_
    refine g_ior o dX2_dual_53 ?_
    refine g_nmi hf (fun x4 hf => ?_)
    refine g_istore_n o [(3, .int x4), (2, .int c2), (4, .int c4), (5, .int s_1)] (Nat.le_of_ble_eq_true rfl) rfl rfl dX2_dual_54 ?_
    refine g_iinc o [(5, .int (s_1 + 1)), (3, .int x4), (2, .int c2), (4, .int c4)] 3 rfl (inc_1 _) (Nat.le_of_ble_eq_true rfl) rfl dX2_dual_55 ?_
    refine g_goto (tgt := 31) o rfl dX2_dual_58 ?_
    have hp := lf_c hf hw
    exact g_perm [2, 1, 3, 0] rfl hp
set_option maxRecDepth 20000 in
set_option maxHeartbeats 2000000 in
theorem b_X2_dual {x : Cx} (o : Ok x cX2_dual 6 RX2 2 0 0) (a : Nat → Nat) (u : St) (p0 : Int32) (p1 : Int32) (t : Int32 × St) (hf : f_X2_dual u p0 p1 = some t) (hret : rt_X2_dual x a t) : G x 6 0 0 (wM a u (cxT x)) [(0, .ref (a 0)), (1, .int p0), (2, .int p1)] 0 [] := by
  unfold f_X2_dual at hf
  refine g_iload_n o 1 rfl rfl dX2_dual_0 ?_
  refine g_iload_n o 2 rfl rfl dX2_dual_1 ?_
  obtain ⟨r8, hr8, hf⟩ := bd_some hf
  refine k_X2_isOperation_ o hr8 m_1083 (Nat.le_of_ble_eq_true rfl) (Nat.le_of_ble_eq_true rfl) ⟨(Nat.le_of_ble_eq_true rfl), (Nat.le_of_ble_eq_true rfl)⟩ dX2_dual_2 ?_
  refine g_if_ne (tgt := 14) o rfl dX2_dual_5 hf (fun hc hf => ?_) (fun hc hf => ?_)
  · refine g_aload_n o 0 rfl rfl dX2_dual_14 ?_
    refine g_iconst o ic_0 dX2_dual_15 ?_
    refine M_put0 o m_919 dX2_dual_16 ?_
    refine g_iconst o ic_0 dX2_dual_19 ?_
    refine g_istore_n o [(3, .int 0), (0, .ref (a 0)), (1, .int p0), (2, .int p1)] (Nat.le_of_ble_eq_true rfl) rfl rfl dX2_dual_20 ?_
    refine g_iconst o ic_1 dX2_dual_21 ?_
    refine g_iload_n o 2 rfl rfl dX2_dual_22 ?_
    refine g_ishl o dX2_dual_23 ?_
    refine g_iconst o ic_1 dX2_dual_24 ?_
    refine g_isub o dX2_dual_25 ?_
    refine g_nmi hf (fun x9 hf => ?_)
    refine g_istore o [(4, .int x9), (3, .int 0), (0, .ref (a 0)), (1, .int p0), (2, .int p1)] (Nat.le_of_ble_eq_true rfl) rfl dX2_dual_26 ?_
    refine g_iconst o ic_0 dX2_dual_28 ?_
    refine g_istore o [(5, .int 0), (4, .int x9), (3, .int 0), (0, .ref (a 0)), (1, .int p0), (2, .int p1)] (Nat.le_of_ble_eq_true rfl) rfl dX2_dual_29 ?_
    obtain ⟨r11, hr11, hxr11, hrr11⟩ := bl_some hf
    refine g_perm [5, 2, 1, 0] rfl (b_X2_dual_L31 o (Nat.le_of_ble_eq_true rfl) (Nat.le_of_ble_eq_true rfl) a (us u 0 0) p1 x9 r11 (fun s31 hs => ?_) (fun t10 ht => ?_) FU (0, 0) hr11)
    · have hf := hxr11 s31 hs
      obtain ⟨s31_0, s31_1⟩ := s31
      try dsimp -simprocs only at hf ⊢
      refine g_iload_n o 0 rfl rfl dX2_dual_61 ?_
      cases Option.some.inj hf
      exact g_iret hret (Nat.le_of_ble_eq_true rfl) (Nat.le_of_ble_eq_true rfl) (vp_nar_int _) dX2_dual_62
    · have hf := hrr11 t10 ht
      cases Option.some.inj hf
      exact hret
  · refine g_aload_n o 0 rfl rfl dX2_dual_8 ?_
    refine g_iconst o ic_1 dX2_dual_9 ?_
    obtain ⟨r12, hr12, hf⟩ := bd_some hf
    refine k_X2_fails_ o hr12 m_995 (Nat.le_of_ble_eq_true rfl) (Nat.le_of_ble_eq_true rfl) ⟨(Nat.le_of_ble_eq_true rfl), (Nat.le_of_ble_eq_true rfl)⟩ dX2_dual_10 ?_
    cases Option.some.inj hf
    exact g_iret hret (Nat.le_of_ble_eq_true rfl) (Nat.le_of_ble_eq_true rfl) (vp_nar_int _) dX2_dual_13
theorem c_X2_dual (l : Launch) (hst : l.stackTraces = false) (a : Nat → Nat) (u : St) (p0 : Int32) (p1 : Int32) (t : Int32 × St) (hf : f_X2_dual u p0 p1 = some t) : CoI l yX2_dual (.code yX2_dual cX2_dual 6 (some .int)) 2 0 0 [.ref (a 0), .int p0, .int p1] (wM a u) (wM a t.2) (.inl t.1) := mkI hst (by decide +kernel) (Nat.le_of_ble_eq_true rfl) (fun x _ o hI hX => b_X2_dual o a u p0 p1 t hf (hI _ rfl))
def rt_X2_dependsOn (x : Cx) (a : Nat → Nat) (t : Int32 × St) : Prop := RetI x cX2_dependsOn .boolean 0 0 (wM a t.2 (cxT x)) t.1
set_option maxRecDepth 20000 in
set_option maxHeartbeats 2000000 in
theorem b_X2_dependsOn_L39 {x : Cx} (o : Ok x cX2_dependsOn 5 RX2 2 0 0) {k n : Nat} (hk : k ≤ 0) (hn : n ≤ 0) (a : Nat → Nat) (u : St) (c1 : Int32) (c2 : Int32) (c3 : Int32) (r : (Int32) ⊕ (Int32 × St)) (hX : ∀ s : Int32, r = .inl s → G x 5 k n (wM a u (cxT x)) [] 74 []) (hR : ∀ t, r = .inr t → rt_X2_dependsOn x a t) : ∀ (m : Nat) (s : Int32), loopN (f_X2_dependsOn_s39 u c1 c2 c3) m s = some r → G x 5 k n (wM a u (cxT x)) [(1, .int c1), (2, .int c2), (3, .int c3), (4, .int s)] 39 [] := by
  refine loop_W _ (fun (s : Int32) => G x 5 k n (wM a u (cxT x)) [(1, .int c1), (2, .int c2), (3, .int c3), (4, .int s)] 39 []) r ?_
  intro s ww hf hw
  unfold f_X2_dependsOn_s39 at hf
  refine g_iload o 3 rfl dX2_dependsOn_39 ?_
  refine g_iconst o ic_1 dX2_dependsOn_41 ?_
  refine g_iload_n o 0 rfl rfl dX2_dependsOn_42 ?_
  refine g_ishl o dX2_dependsOn_43 ?_
  refine g_ic_ge (tgt := 74) o rfl dX2_dependsOn_44 hf (fun hc hf => ?_) (fun hc hf => ?_)
  · exact g_perm [] rfl (hX _ (lf_x hf hw))
  · refine g_iload_n o 1 rfl rfl dX2_dependsOn_47 ?_
    refine g_iload o 3 rfl dX2_dependsOn_48 ?_
    refine g_ishr o dX2_dependsOn_50 ?_
    refine g_iconst o ic_1 dX2_dependsOn_51 ?_
    refine g_iand o dX2_dependsOn_52 ?_
    refine g_iload_n o 1 rfl rfl dX2_dependsOn_53 ?_
    refine g_iload o 3 rfl dX2_dependsOn_54 ?_
    refine g_iconst o ic_1 dX2_dependsOn_56 ?_
    refine g_iload_n o 2 rfl rfl dX2_dependsOn_57 ?_
    refine g_ishl o dX2_dependsOn_58 ?_
    refine g_ixor o dX2_dependsOn_59 ?_
    refine g_ishr o dX2_dependsOn_60 ?_
    refine g_iconst o ic_1 dX2_dependsOn_61 ?_
    refine g_iand o dX2_dependsOn_62 ?_
    refine g_ic_eq (tgt := 68) o rfl dX2_dependsOn_63 hf (fun hc hf => ?_) (fun hc hf => ?_)
    · refine g_iinc o [(4, .int (s + 1)), (1, .int c1), (2, .int c2), (3, .int c3)] 3 rfl (inc_1 _) (Nat.le_of_ble_eq_true rfl) rfl dX2_dependsOn_68 ?_
      refine g_goto (tgt := 39) o rfl dX2_dependsOn_71 ?_
      have hp := lf_c hf hw
      exact g_perm [1, 2, 3, 0] rfl hp
    · refine g_iconst o ic_1 dX2_dependsOn_66 ?_
      exact g_iret (hR _ (lf_x hf hw)) hk hn nb_1 dX2_dependsOn_67
set_option maxRecDepth 20000 in
set_option maxHeartbeats 2000000 in
theorem b_X2_dependsOn {x : Cx} (o : Ok x cX2_dependsOn 5 RX2 2 0 0) (a : Nat → Nat) (u : St) (p0 : Int32) (p1 : Int32) (p2 : Int32) (t : Int32 × St) (hf : f_X2_dependsOn u p0 p1 p2 = some t) (hret : rt_X2_dependsOn x a t) : G x 5 0 0 (wM a u (cxT x)) [(0, .ref (a 0)), (1, .int p0), (2, .int p1), (3, .int p2)] 0 [] := by
  unfold f_X2_dependsOn at hf
  refine g_iload_n o 1 rfl rfl dX2_dependsOn_0 ?_
  refine g_iload_n o 2 rfl rfl dX2_dependsOn_1 ?_
  obtain ⟨r7, hr7, hf⟩ := bd_some hf
  refine k_X2_isOperation_ o hr7 m_1083 (Nat.le_of_ble_eq_true rfl) (Nat.le_of_ble_eq_true rfl) ⟨(Nat.le_of_ble_eq_true rfl), (Nat.le_of_ble_eq_true rfl)⟩ dX2_dependsOn_2 ?_
  refine g_if_ne (tgt := 14) o rfl dX2_dependsOn_5 hf (fun hc hf => ?_) (fun hc hf => ?_)
  · refine g_iload_n o 3 rfl rfl dX2_dependsOn_14 ?_
    refine g_iconst o ic_0 dX2_dependsOn_15 ?_
    refine g_iload_n o 1 rfl rfl dX2_dependsOn_16 ?_
    refine g_iconst o ic_1 dX2_dependsOn_17 ?_
    refine g_isub o dX2_dependsOn_18 ?_
    obtain ⟨r8, hr8, hf⟩ := bd_some hf
    refine k_X2_isBetween_ o hr8 m_992 (Nat.le_of_ble_eq_true rfl) (Nat.le_of_ble_eq_true rfl) ⟨(Nat.le_of_ble_eq_true rfl), (Nat.le_of_ble_eq_true rfl)⟩ dX2_dependsOn_19 ?_
    refine g_if_ne (tgt := 31) o rfl dX2_dependsOn_22 hf (fun hc hf => ?_) (fun hc hf => ?_)
    · refine g_aload_n o 0 rfl rfl dX2_dependsOn_31 ?_
      refine g_iconst o ic_0 dX2_dependsOn_32 ?_
      refine M_put0 o m_919 dX2_dependsOn_33 ?_
      refine g_iconst o ic_0 dX2_dependsOn_36 ?_
      refine g_istore o [(4, .int 0), (0, .ref (a 0)), (1, .int p0), (2, .int p1), (3, .int p2)] (Nat.le_of_ble_eq_true rfl) rfl dX2_dependsOn_37 ?_
      obtain ⟨r10, hr10, hxr10, hrr10⟩ := bl_some hf
      refine g_perm [2, 3, 4, 0] rfl (b_X2_dependsOn_L39 o (Nat.le_of_ble_eq_true rfl) (Nat.le_of_ble_eq_true rfl) a (us u 0 0) p0 p1 p2 r10 (fun s39 hs => ?_) (fun t9 ht => ?_) FU 0 hr10)
      · have hf := hxr10 s39 hs
        refine g_iconst o ic_0 dX2_dependsOn_74 ?_
        cases Option.some.inj hf
        exact g_iret hret (Nat.le_of_ble_eq_true rfl) (Nat.le_of_ble_eq_true rfl) nb_0 dX2_dependsOn_75
      · have hf := hrr10 t9 ht
        cases Option.some.inj hf
        exact hret
    · refine g_aload_n o 0 rfl rfl dX2_dependsOn_25 ?_
      refine g_iconst o ic_2 dX2_dependsOn_26 ?_
      obtain ⟨r11, hr11, hf⟩ := bd_some hf
      refine k_X2_refuses_ o hr11 m_1093 (Nat.le_of_ble_eq_true rfl) (Nat.le_of_ble_eq_true rfl) ⟨(Nat.le_of_ble_eq_true rfl), (Nat.le_of_ble_eq_true rfl)⟩ dX2_dependsOn_27 ?_
      obtain ⟨hb, hf⟩ := gd_some hf
      cases Option.some.inj hf
      exact g_iret hret (Nat.le_of_ble_eq_true rfl) (Nat.le_of_ble_eq_true rfl) (okB_n hb) dX2_dependsOn_30
  · refine g_aload_n o 0 rfl rfl dX2_dependsOn_8 ?_
    refine g_iconst o ic_1 dX2_dependsOn_9 ?_
    obtain ⟨r12, hr12, hf⟩ := bd_some hf
    refine k_X2_refuses_ o hr12 m_1093 (Nat.le_of_ble_eq_true rfl) (Nat.le_of_ble_eq_true rfl) ⟨(Nat.le_of_ble_eq_true rfl), (Nat.le_of_ble_eq_true rfl)⟩ dX2_dependsOn_10 ?_
    obtain ⟨hb, hf⟩ := gd_some hf
    cases Option.some.inj hf
    exact g_iret hret (Nat.le_of_ble_eq_true rfl) (Nat.le_of_ble_eq_true rfl) (okB_n hb) dX2_dependsOn_13
theorem c_X2_dependsOn (l : Launch) (hst : l.stackTraces = false) (a : Nat → Nat) (u : St) (p0 : Int32) (p1 : Int32) (p2 : Int32) (t : Int32 × St) (hf : f_X2_dependsOn u p0 p1 p2 = some t) : CoI l yX2_dependsOn (.code yX2_dependsOn cX2_dependsOn 5 (some .boolean)) 2 0 0 [.ref (a 0), .int p0, .int p1, .int p2] (wM a u) (wM a t.2) (.inl t.1) := mkI hst (by decide +kernel) (Nat.le_of_ble_eq_true rfl) (fun x _ o hI hX => b_X2_dependsOn o a u p0 p1 p2 t hf (hI _ rfl))
def rt_X2_compose (x : Cx) (a : Nat → Nat) (t : Int32 × St) : Prop := RetI x cX2_compose .int 0 0 (wM a t.2 (cxT x)) t.1
set_option maxRecDepth 20000 in
set_option maxHeartbeats 2000000 in
theorem b_X2_compose_L35 {x : Cx} (o : Ok x cX2_compose 8 RX2 2 0 0) {k n : Nat} (hk : k ≤ 0) (hn : n ≤ 0) (a : Nat → Nat) (u : St) (c1 : Int32) (c2 : Int32) (c3 : Int32) (r : (Int32 × Int32) ⊕ (Int32 × St)) (hX : ∀ s : Int32 × Int32, r = .inl s → G x 8 k n (wM a u (cxT x)) [(4, .int s.1)] 105 []) (hR : ∀ t, r = .inr t → rt_X2_compose x a t) : ∀ (m : Nat) (s : Int32 × Int32), loopN (f_X2_compose_s35 u c1 c2 c3) m s = some r → G x 8 k n (wM a u (cxT x)) [(1, .int c1), (2, .int c2), (3, .int c3), (4, .int s.1), (5, .int s.2)] 35 [] := by
  refine loop_W _ (fun (s : Int32 × Int32) => G x 8 k n (wM a u (cxT x)) [(1, .int c1), (2, .int c2), (3, .int c3), (4, .int s.1), (5, .int s.2)] 35 []) r ?_
  intro s ww hf hw
  unfold f_X2_compose_s35 at hf
  obtain ⟨s_0, s_1⟩ := s
  try dsimp -simprocs only at hf ⊢
  refine g_iload o 4 rfl dX2_compose_35 ?_
  refine g_iconst o ic_4 dX2_compose_37 ?_
  refine g_ic_ge (tgt := 105) o rfl dX2_compose_38 hf (fun hc hf => ?_) (fun hc hf => ?_)
  · exact g_perm [3] rfl (hX _ (lf_x hf hw))
  · refine g_iload o 4 rfl dX2_compose_41 ?_
    refine g_iconst o ic_1 dX2_compose_43 ?_
    refine g_iand o dX2_compose_44 ?_
    refine g_nmi hf (fun x8 hf => ?_)
    refine g_istore o [(6, .int x8), (1, .int c1), (2, .int c2), (3, .int c3), (4, .int s_0), (5, .int s_1)] (Nat.le_of_ble_eq_true rfl) rfl dX2_compose_45 ?_
    refine g_iload o 5 rfl dX2_compose_47 ?_
    refine g_iconst o ic_1 dX2_compose_49 ?_
    refine g_ishr o dX2_compose_50 ?_
    refine g_nmi hf (fun x9 hf => ?_)
    refine g_istore o [(7, .int x9), (6, .int x8), (1, .int c1), (2, .int c2), (3, .int c3), (4, .int s_0), (5, .int s_1)] (Nat.le_of_ble_eq_true rfl) rfl dX2_compose_51 ?_
    refine g_iload o 5 rfl dX2_compose_53 ?_
    refine g_iload_n o 3 rfl rfl dX2_compose_55 ?_
    refine g_iload_n o 2 rfl rfl dX2_compose_56 ?_
    refine g_iload_n o 4 rfl rfl dX2_compose_57 ?_
    refine g_iload o 1 rfl dX2_compose_58 ?_
    refine g_iconst o ic_2 dX2_compose_60 ?_
    refine g_iload o 0 rfl dX2_compose_61 ?_
    refine g_imul o dX2_compose_63 ?_
    refine g_iadd o dX2_compose_64 ?_
    refine g_ishr o dX2_compose_65 ?_
    refine g_iconst o ic_1 dX2_compose_66 ?_
    refine g_iand o dX2_compose_67 ?_
    refine g_iload_n o 4 rfl rfl dX2_compose_68 ?_
    refine g_iload o 0 rfl dX2_compose_69 ?_
    refine g_iconst o ic_2 dX2_compose_71 ?_
    refine g_iload o 1 rfl dX2_compose_72 ?_
    refine g_imul o dX2_compose_74 ?_
    refine g_iadd o dX2_compose_75 ?_
    refine g_ishr o dX2_compose_76 ?_
    refine g_iconst o ic_1 dX2_compose_77 ?_
    refine g_iand o dX2_compose_78 ?_
    refine g_iload_n o 4 rfl rfl dX2_compose_79 ?_
    refine g_iconst o ic_3 dX2_compose_80 ?_
    refine g_iload o 1 rfl dX2_compose_81 ?_
    refine g_imul o dX2_compose_83 ?_
    refine g_ishr o dX2_compose_84 ?_
    refine g_iconst o ic_1 dX2_compose_85 ?_
    refine g_iand o dX2_compose_86 ?_
    obtain ⟨r10, hr10, hf⟩ := bd_some hf
    refine k_X2_placeOf_ o hr10 m_1086 (Nat.le_of_ble_eq_true rfl) (Nat.le_of_ble_eq_true rfl) ⟨hk, hn⟩ dX2_compose_87 ?_
    refine g_ishr o dX2_compose_90 ?_
    refine g_iconst o ic_1 dX2_compose_91 ?_
    refine g_iand o dX2_compose_92 ?_
    refine g_iload o 6 rfl dX2_compose_93 ?_
    refine g_ishl o dX2_compose_95 ?_
    refine g_ior o dX2_compose_96 ?_
    refine g_nmi hf (fun x11 hf => ?_)
    refine g_istore o [(4, .int x11), (7, .int x9), (6, .int x8), (1, .int c1), (2, .int c2), (3, .int c3), (5, .int s_1)] (Nat.le_of_ble_eq_true rfl) rfl dX2_compose_97 ?_
    refine g_iinc o [(5, .int (s_1 + 1)), (4, .int x11), (7, .int x9), (6, .int x8), (1, .int c1), (2, .int c2), (3, .int c3)] 6 rfl (inc_1 _) (Nat.le_of_ble_eq_true rfl) rfl dX2_compose_99 ?_
    refine g_goto (tgt := 35) o rfl dX2_compose_102 ?_
    have hp := lf_c hf hw
    exact g_perm [4, 5, 6, 1, 0] rfl hp
set_option maxRecDepth 20000 in
set_option maxHeartbeats 2000000 in
theorem b_X2_compose {x : Cx} (o : Ok x cX2_compose 8 RX2 2 0 0) (a : Nat → Nat) (u : St) (p0 : Int32) (p1 : Int32) (p2 : Int32) (t : Int32 × St) (hf : f_X2_compose u p0 p1 p2 = some t) (hret : rt_X2_compose x a t) : G x 8 0 0 (wM a u (cxT x)) [(0, .ref (a 0)), (1, .int p0), (2, .int p1), (3, .int p2)] 0 [] := by
  unfold f_X2_compose at hf
  refine g_iload_n o 1 rfl rfl dX2_compose_0 ?_
  refine g_iload_n o 2 rfl rfl dX2_compose_1 ?_
  obtain ⟨r15, hr15, hf⟩ := bd_some hf
  refine k_X2_isOperation_ o hr15 m_1083 (Nat.le_of_ble_eq_true rfl) (Nat.le_of_ble_eq_true rfl) ⟨(Nat.le_of_ble_eq_true rfl), (Nat.le_of_ble_eq_true rfl)⟩ dX2_compose_2 ?_
  refine g_if_eq (tgt := 18) o rfl dX2_compose_5 hf (fun hc hf => ?_) (fun hc hf => ?_)
  · refine g_aload_n o 0 rfl rfl dX2_compose_18 ?_
    refine g_iconst o ic_1 dX2_compose_19 ?_
    obtain ⟨r16, hr16, hf⟩ := bd_some hf
    refine k_X2_fails_ o hr16 m_995 (Nat.le_of_ble_eq_true rfl) (Nat.le_of_ble_eq_true rfl) ⟨(Nat.le_of_ble_eq_true rfl), (Nat.le_of_ble_eq_true rfl)⟩ dX2_compose_20 ?_
    cases Option.some.inj hf
    exact g_iret hret (Nat.le_of_ble_eq_true rfl) (Nat.le_of_ble_eq_true rfl) (vp_nar_int _) dX2_compose_23
  · refine g_iload_n o 3 rfl rfl dX2_compose_8 ?_
    refine g_iconst o ic_0 dX2_compose_9 ?_
    refine g_bipush o bp_15 dX2_compose_10 ?_
    obtain ⟨r17, hr17, hf⟩ := bd_some hf
    refine k_X2_isBetween_ o hr17 m_992 (Nat.le_of_ble_eq_true rfl) (Nat.le_of_ble_eq_true rfl) ⟨(Nat.le_of_ble_eq_true rfl), (Nat.le_of_ble_eq_true rfl)⟩ dX2_compose_12 ?_
    refine g_if_ne (tgt := 24) o rfl dX2_compose_15 hf (fun hc hf => ?_) (fun hc hf => ?_)
    · refine g_aload_n o 0 rfl rfl dX2_compose_24 ?_
      refine g_iconst o ic_0 dX2_compose_25 ?_
      refine M_put0 o m_919 dX2_compose_26 ?_
      refine g_iconst o ic_0 dX2_compose_29 ?_
      refine g_istore o [(4, .int 0), (0, .ref (a 0)), (1, .int p0), (2, .int p1), (3, .int p2)] (Nat.le_of_ble_eq_true rfl) rfl dX2_compose_30 ?_
      refine g_iconst o ic_0 dX2_compose_32 ?_
      refine g_istore o [(5, .int 0), (4, .int 0), (0, .ref (a 0)), (1, .int p0), (2, .int p1), (3, .int p2)] (Nat.le_of_ble_eq_true rfl) rfl dX2_compose_33 ?_
      obtain ⟨r19, hr19, hxr19, hrr19⟩ := bl_some hf
      refine g_perm [3, 4, 5, 1, 0] rfl (b_X2_compose_L35 o (Nat.le_of_ble_eq_true rfl) (Nat.le_of_ble_eq_true rfl) a (us u 0 0) p0 p1 p2 r19 (fun s35 hs => ?_) (fun t18 ht => ?_) FU (0, 0) hr19)
      · have hf := hxr19 s35 hs
        obtain ⟨s35_0, s35_1⟩ := s35
        try dsimp -simprocs only at hf ⊢
        refine g_iload o 0 rfl dX2_compose_105 ?_
        cases Option.some.inj hf
        exact g_iret hret (Nat.le_of_ble_eq_true rfl) (Nat.le_of_ble_eq_true rfl) (vp_nar_int _) dX2_compose_107
      · have hf := hrr19 t18 ht
        cases Option.some.inj hf
        exact hret
    · refine g_aload_n o 0 rfl rfl dX2_compose_18 ?_
      refine g_iconst o ic_1 dX2_compose_19 ?_
      obtain ⟨r20, hr20, hf⟩ := bd_some hf
      refine k_X2_fails_ o hr20 m_995 (Nat.le_of_ble_eq_true rfl) (Nat.le_of_ble_eq_true rfl) ⟨(Nat.le_of_ble_eq_true rfl), (Nat.le_of_ble_eq_true rfl)⟩ dX2_compose_20 ?_
      cases Option.some.inj hf
      exact g_iret hret (Nat.le_of_ble_eq_true rfl) (Nat.le_of_ble_eq_true rfl) (vp_nar_int _) dX2_compose_23
theorem c_X2_compose (l : Launch) (hst : l.stackTraces = false) (a : Nat → Nat) (u : St) (p0 : Int32) (p1 : Int32) (p2 : Int32) (t : Int32 × St) (hf : f_X2_compose u p0 p1 p2 = some t) : CoI l yX2_compose (.code yX2_compose cX2_compose 8 (some .int)) 2 0 0 [.ref (a 0), .int p0, .int p1, .int p2] (wM a u) (wM a t.2) (.inl t.1) := mkI hst (by decide +kernel) (Nat.le_of_ble_eq_true rfl) (fun x _ o hI hX => b_X2_compose o a u p0 p1 p2 t hf (hI _ rfl))
def rt_X2_relationHasKind (x : Cx) (a : Nat → Nat) (t : Int32 × St) : Prop := RetI x cX2_relationHasKind .boolean 0 0 (wM a t.2 (cxT x)) t.1
set_option maxRecDepth 20000 in
set_option maxHeartbeats 2000000 in
theorem b_X2_relationHasKind {x : Cx} (o : Ok x cX2_relationHasKind 3 RX2 3 0 0) (a : Nat → Nat) (u : St) (p0 : Int32) (p1 : Int32) (t : Int32 × St) (hf : f_X2_relationHasKind u p0 p1 = some t) (hret : rt_X2_relationHasKind x a t) : G x 3 0 0 (wM a u (cxT x)) [(0, .ref (a 0)), (1, .int p0), (2, .int p1)] 0 [] := by
  unfold f_X2_relationHasKind at hf
  refine g_aload_n o 0 rfl rfl dX2_relationHasKind_0 ?_
  refine g_iload_n o 1 rfl rfl dX2_relationHasKind_1 ?_
  obtain ⟨r8, hr8, hf⟩ := bd_some hf
  refine k_X2_isRelation_ o hr8 m_1031 (Nat.le_of_ble_eq_true rfl) (Nat.le_of_ble_eq_true rfl) ⟨(Nat.le_of_ble_eq_true rfl), (Nat.le_of_ble_eq_true rfl)⟩ dX2_relationHasKind_2 ?_
  refine g_if_ne (tgt := 14) o rfl dX2_relationHasKind_5 hf (fun hc hf => ?_) (fun hc hf => ?_)
  · refine g_iload_n o 2 rfl rfl dX2_relationHasKind_14 ?_
    refine g_iconst o ic_0 dX2_relationHasKind_15 ?_
    refine g_iconst o ic_5 dX2_relationHasKind_16 ?_
    obtain ⟨r9, hr9, hf⟩ := bd_some hf
    refine k_X2_isBetween_ o hr9 m_992 (Nat.le_of_ble_eq_true rfl) (Nat.le_of_ble_eq_true rfl) ⟨(Nat.le_of_ble_eq_true rfl), (Nat.le_of_ble_eq_true rfl)⟩ dX2_relationHasKind_17 ?_
    refine g_if_ne (tgt := 29) o rfl dX2_relationHasKind_20 hf (fun hc hf => ?_) (fun hc hf => ?_)
    · refine g_aload_n o 0 rfl rfl dX2_relationHasKind_29 ?_
      refine g_iconst o ic_0 dX2_relationHasKind_30 ?_
      refine M_put0 o m_919 dX2_relationHasKind_31 ?_
      refine g_aload_n o 0 rfl rfl dX2_relationHasKind_34 ?_
      refine g_gets o (ok_KIND_ARITY o) m_1155 dX2_relationHasKind_35 (fun t10 hTt10 => ?_)
      refine g_iload_n o 2 rfl rfl dX2_relationHasKind_38 ?_
      refine g_ti o hTt10 dX2_relationHasKind_39 hf (fun hf => ?_)
      refine g_gets o (ok_KIND_CODE o) m_1157 dX2_relationHasKind_40 (fun t11 hTt11 => ?_)
      refine g_iload_n o 2 rfl rfl dX2_relationHasKind_43 ?_
      refine g_ti o hTt11 dX2_relationHasKind_44 hf (fun hf => ?_)
      refine g_iload_n o 1 rfl rfl dX2_relationHasKind_45 ?_
      obtain ⟨r12, hr12, hf⟩ := bd_some hf
      refine k_X2_doesPreserve_ o hr12 m_1097 (Nat.le_of_ble_eq_true rfl) (Nat.le_of_ble_eq_true rfl) ⟨(Nat.le_of_ble_eq_true rfl), (Nat.le_of_ble_eq_true rfl)⟩ dX2_relationHasKind_46 ?_
      obtain ⟨hb, hf⟩ := gd_some hf
      cases Option.some.inj hf
      exact g_iret hret (Nat.le_of_ble_eq_true rfl) (Nat.le_of_ble_eq_true rfl) (okB_n hb) dX2_relationHasKind_49
    · refine g_aload_n o 0 rfl rfl dX2_relationHasKind_23 ?_
      refine g_iconst o ic_2 dX2_relationHasKind_24 ?_
      obtain ⟨r13, hr13, hf⟩ := bd_some hf
      refine k_X2_refuses_ o hr13 m_1093 (Nat.le_of_ble_eq_true rfl) (Nat.le_of_ble_eq_true rfl) ⟨(Nat.le_of_ble_eq_true rfl), (Nat.le_of_ble_eq_true rfl)⟩ dX2_relationHasKind_25 ?_
      obtain ⟨hb, hf⟩ := gd_some hf
      cases Option.some.inj hf
      exact g_iret hret (Nat.le_of_ble_eq_true rfl) (Nat.le_of_ble_eq_true rfl) (okB_n hb) dX2_relationHasKind_28
  · refine g_aload_n o 0 rfl rfl dX2_relationHasKind_8 ?_
    refine g_iconst o ic_1 dX2_relationHasKind_9 ?_
    obtain ⟨r14, hr14, hf⟩ := bd_some hf
    refine k_X2_refuses_ o hr14 m_1093 (Nat.le_of_ble_eq_true rfl) (Nat.le_of_ble_eq_true rfl) ⟨(Nat.le_of_ble_eq_true rfl), (Nat.le_of_ble_eq_true rfl)⟩ dX2_relationHasKind_10 ?_
    obtain ⟨hb, hf⟩ := gd_some hf
    cases Option.some.inj hf
    exact g_iret hret (Nat.le_of_ble_eq_true rfl) (Nat.le_of_ble_eq_true rfl) (okB_n hb) dX2_relationHasKind_13
theorem c_X2_relationHasKind (l : Launch) (hst : l.stackTraces = false) (a : Nat → Nat) (u : St) (p0 : Int32) (p1 : Int32) (t : Int32 × St) (hf : f_X2_relationHasKind u p0 p1 = some t) : CoI l yX2_relationHasKind (.code yX2_relationHasKind cX2_relationHasKind 3 (some .boolean)) 3 0 0 [.ref (a 0), .int p0, .int p1] (wM a u) (wM a t.2) (.inl t.1) := mkI hst (by decide +kernel) (Nat.le_of_ble_eq_true rfl) (fun x _ o hI hX => b_X2_relationHasKind o a u p0 p1 t hf (hI _ rfl))
def rt_X2_has (x : Cx) (a : Nat → Nat) (u : St) (t : Int32) : Prop := RetI x cX2_has .boolean 0 0 (wM a u (cxT x)) t
set_option maxRecDepth 20000 in
set_option maxHeartbeats 2000000 in
theorem b_X2_has {x : Cx} (o : Ok x cX2_has 2 RX2 4 0 0) (a : Nat → Nat) (u : St) (p0 : Int32) (t : Int32) (hf : f_X2_has u p0 = some t) (hret : rt_X2_has x a u t) : G x 2 0 0 (wM a u (cxT x)) [(0, .ref (a 0)), (1, .int p0)] 0 [] := by
  unfold f_X2_has at hf
  refine g_aload_n o 0 rfl rfl dX2_has_0 ?_
  refine g_gets o (ok_KIND_ARITY o) m_1155 dX2_has_1 (fun t4 hTt4 => ?_)
  refine g_iload_n o 1 rfl rfl dX2_has_4 ?_
  refine g_ti o hTt4 dX2_has_5 hf (fun hf => ?_)
  refine g_gets o (ok_KIND_CODE o) m_1157 dX2_has_6 (fun t5 hTt5 => ?_)
  refine g_iload_n o 1 rfl rfl dX2_has_9 ?_
  refine g_ti o hTt5 dX2_has_10 hf (fun hf => ?_)
  obtain ⟨r6, hr6, hf⟩ := bd_some hf
  refine k_X2_isKept_ o hr6 m_1108 (Nat.le_of_ble_eq_true rfl) (Nat.le_of_ble_eq_true rfl) ⟨(Nat.le_of_ble_eq_true rfl), (Nat.le_of_ble_eq_true rfl)⟩ dX2_has_11 ?_
  obtain ⟨hb, hf⟩ := gd_some hf
  cases Option.some.inj hf
  exact g_iret hret (Nat.le_of_ble_eq_true rfl) (Nat.le_of_ble_eq_true rfl) (okB_n hb) dX2_has_14
theorem c_X2_has (l : Launch) (hst : l.stackTraces = false) (a : Nat → Nat) (u : St) (p0 : Int32) (t : Int32) (hf : f_X2_has u p0 = some t) : CoI l yX2_has (.code yX2_has cX2_has 2 (some .boolean)) 4 0 0 [.ref (a 0), .int p0] (wM a u) (wM a u) (.inl t) := mkI hst (by decide +kernel) (Nat.le_of_ble_eq_true rfl) (fun x _ o hI hX => b_X2_has o a u p0 t hf (hI _ rfl))
theorem k_X2_has_ {x : Cx} {cc : ByteArray} {nL : Nat} {own : String} {d mc ms k n : Nat} {lv : List (Nat × Value)} {pc i : Nat} {rest : List Value} {a : Nat → Nat} {u : St} {p0 : Int32} (o : Ok x cc nL own d mc ms) {t : Int32} (ht : f_X2_has u p0 = some t) (hlk : Cond.methodLink own i yX2_has ∈ Ug) (hd : 4 < d) (hr : (rest.map fun v => v.category).sum ≤ 8) (hk : k + 0 ≤ mc ∧ n + 0 ≤ ms) (dg : decode cc pc = .ok (.invokevirtual i, 3)) (kk : G x nL (k + 0) (n + 0) (wM a u (cxT x)) lv (pc + 3) (.int t :: rest)) : G x nL k n (wM a u (cxT x)) lv pc (.int p0 :: .ref (a 0) :: rest) := gcI (wd2 := (wM a u (cxT x))) o (c_X2_has (cxl x) o.2.2.2.2.2.2.2.2.2.1 a u p0 t ht) (can_V (q0 := 0) o rfl rfl hd (Nat.le_of_ble_eq_true rfl) m_1166 m_56 m_1165 m_40 hlk yk_X2_has rfl hr hk dg) sp_M (fun E h => by cases h) (fun r h => by cases h; exact kk)
def rt_X2_hasKind (x : Cx) (a : Nat → Nat) (t : Int32 × St) : Prop := RetI x cX2_hasKind .boolean 0 0 (wM a t.2 (cxT x)) t.1
set_option maxRecDepth 20000 in
set_option maxHeartbeats 2000000 in
theorem b_X2_hasKind {x : Cx} (o : Ok x cX2_hasKind 2 RX2 5 0 0) (a : Nat → Nat) (u : St) (p0 : Int32) (t : Int32 × St) (hf : f_X2_hasKind u p0 = some t) (hret : rt_X2_hasKind x a t) : G x 2 0 0 (wM a u (cxT x)) [(0, .ref (a 0)), (1, .int p0)] 0 [] := by
  unfold f_X2_hasKind at hf
  refine g_iload_n o 1 rfl rfl dX2_hasKind_0 ?_
  refine g_iconst o ic_0 dX2_hasKind_1 ?_
  refine g_iconst o ic_5 dX2_hasKind_2 ?_
  obtain ⟨r4, hr4, hf⟩ := bd_some hf
  refine k_X2_isBetween_ o hr4 m_992 (Nat.le_of_ble_eq_true rfl) (Nat.le_of_ble_eq_true rfl) ⟨(Nat.le_of_ble_eq_true rfl), (Nat.le_of_ble_eq_true rfl)⟩ dX2_hasKind_3 ?_
  refine g_if_ne (tgt := 15) o rfl dX2_hasKind_6 hf (fun hc hf => ?_) (fun hc hf => ?_)
  · refine g_aload_n o 0 rfl rfl dX2_hasKind_15 ?_
    refine g_iconst o ic_0 dX2_hasKind_16 ?_
    refine M_put0 o m_919 dX2_hasKind_17 ?_
    refine g_aload_n o 0 rfl rfl dX2_hasKind_20 ?_
    refine g_iload_n o 1 rfl rfl dX2_hasKind_21 ?_
    obtain ⟨r5, hr5, hf⟩ := bd_some hf
    refine k_X2_has_ o hr5 m_1163 (Nat.le_of_ble_eq_true rfl) (Nat.le_of_ble_eq_true rfl) ⟨(Nat.le_of_ble_eq_true rfl), (Nat.le_of_ble_eq_true rfl)⟩ dX2_hasKind_22 ?_
    obtain ⟨hb, hf⟩ := gd_some hf
    cases Option.some.inj hf
    exact g_iret hret (Nat.le_of_ble_eq_true rfl) (Nat.le_of_ble_eq_true rfl) (okB_n hb) dX2_hasKind_25
  · refine g_aload_n o 0 rfl rfl dX2_hasKind_9 ?_
    refine g_iconst o ic_1 dX2_hasKind_10 ?_
    obtain ⟨r6, hr6, hf⟩ := bd_some hf
    refine k_X2_refuses_ o hr6 m_1093 (Nat.le_of_ble_eq_true rfl) (Nat.le_of_ble_eq_true rfl) ⟨(Nat.le_of_ble_eq_true rfl), (Nat.le_of_ble_eq_true rfl)⟩ dX2_hasKind_11 ?_
    obtain ⟨hb, hf⟩ := gd_some hf
    cases Option.some.inj hf
    exact g_iret hret (Nat.le_of_ble_eq_true rfl) (Nat.le_of_ble_eq_true rfl) (okB_n hb) dX2_hasKind_14
theorem c_X2_hasKind (l : Launch) (hst : l.stackTraces = false) (a : Nat → Nat) (u : St) (p0 : Int32) (t : Int32 × St) (hf : f_X2_hasKind u p0 = some t) : CoI l yX2_hasKind (.code yX2_hasKind cX2_hasKind 2 (some .boolean)) 5 0 0 [.ref (a 0), .int p0] (wM a u) (wM a t.2) (.inl t.1) := mkI hst (by decide +kernel) (Nat.le_of_ble_eq_true rfl) (fun x _ o hI hX => b_X2_hasKind o a u p0 t hf (hI _ rfl))
def rt_X2_lowestKind (x : Cx) (a : Nat → Nat) (t : Int32 × St) : Prop := RetI x cX2_lowestKind .int 0 0 (wM a t.2 (cxT x)) t.1
set_option maxRecDepth 20000 in
set_option maxHeartbeats 2000000 in
theorem b_X2_lowestKind_L7 {x : Cx} (o : Ok x cX2_lowestKind 2 RX2 5 0 0) {k n : Nat} (hk : k ≤ 0) (hn : n ≤ 0) (a : Nat → Nat) (u : St) (r : (Int32) ⊕ (Int32 × St)) (hX : ∀ s : Int32, r = .inl s → G x 2 k n (wM a u (cxT x)) [(0, .ref (a 0))] 29 []) (hR : ∀ t, r = .inr t → rt_X2_lowestKind x a t) : ∀ (m : Nat) (s : Int32), loopN (f_X2_lowestKind_s7 u) m s = some r → G x 2 k n (wM a u (cxT x)) [(0, .ref (a 0)), (1, .int s)] 7 [] := by
  refine loop_W _ (fun (s : Int32) => G x 2 k n (wM a u (cxT x)) [(0, .ref (a 0)), (1, .int s)] 7 []) r ?_
  intro s ww hf hw
  unfold f_X2_lowestKind_s7 at hf
  refine g_iload_n o 1 rfl rfl dX2_lowestKind_7 ?_
  refine g_bipush o bp_6 dX2_lowestKind_8 ?_
  refine g_ic_ge (tgt := 29) o rfl dX2_lowestKind_10 hf (fun hc hf => ?_) (fun hc hf => ?_)
  · exact g_perm [0] rfl (hX _ (lf_x hf hw))
  · refine g_aload_n o 0 rfl rfl dX2_lowestKind_13 ?_
    refine g_iload_n o 1 rfl rfl dX2_lowestKind_14 ?_
    obtain ⟨r2, hr2, hf⟩ := bd_some hf
    refine k_X2_has_ o hr2 m_1163 (Nat.le_of_ble_eq_true rfl) (Nat.le_of_ble_eq_true rfl) ⟨hk, hn⟩ dX2_lowestKind_15 ?_
    refine g_if_eq (tgt := 23) o rfl dX2_lowestKind_18 hf (fun hc hf => ?_) (fun hc hf => ?_)
    · refine g_iinc o [(1, .int (s + 1)), (0, .ref (a 0))] 1 rfl (inc_1 _) (Nat.le_of_ble_eq_true rfl) rfl dX2_lowestKind_23 ?_
      refine g_goto (tgt := 7) o rfl dX2_lowestKind_26 ?_
      have hp := lf_c hf hw
      exact g_perm [1, 0] rfl hp
    · refine g_iload_n o 1 rfl rfl dX2_lowestKind_21 ?_
      exact g_iret (hR _ (lf_x hf hw)) hk hn (vp_nar_int _) dX2_lowestKind_22
set_option maxRecDepth 20000 in
set_option maxHeartbeats 2000000 in
theorem b_X2_lowestKind {x : Cx} (o : Ok x cX2_lowestKind 2 RX2 5 0 0) (a : Nat → Nat) (u : St) (t : Int32 × St) (hf : f_X2_lowestKind u = some t) (hret : rt_X2_lowestKind x a t) : G x 2 0 0 (wM a u (cxT x)) [(0, .ref (a 0))] 0 [] := by
  unfold f_X2_lowestKind at hf
  refine g_aload_n o 0 rfl rfl dX2_lowestKind_0 ?_
  refine g_iconst o ic_0 dX2_lowestKind_1 ?_
  refine M_put0 o m_919 dX2_lowestKind_2 ?_
  refine g_iconst o ic_0 dX2_lowestKind_5 ?_
  refine g_istore_n o [(1, .int 0), (0, .ref (a 0))] (Nat.le_of_ble_eq_true rfl) rfl rfl dX2_lowestKind_6 ?_
  obtain ⟨r7, hr7, hxr7, hrr7⟩ := bl_some hf
  refine g_perm [1, 0] rfl (b_X2_lowestKind_L7 o (Nat.le_of_ble_eq_true rfl) (Nat.le_of_ble_eq_true rfl) a (us u 0 0) r7 (fun s7 hs => ?_) (fun t6 ht => ?_) FU 0 hr7)
  · have hf := hxr7 s7 hs
    refine g_aload_n o 0 rfl rfl dX2_lowestKind_29 ?_
    refine g_iconst o ic_1 dX2_lowestKind_30 ?_
    obtain ⟨r8, hr8, hf⟩ := bd_some hf
    refine k_X2_fails_ o hr8 m_995 (Nat.le_of_ble_eq_true rfl) (Nat.le_of_ble_eq_true rfl) ⟨(Nat.le_of_ble_eq_true rfl), (Nat.le_of_ble_eq_true rfl)⟩ dX2_lowestKind_31 ?_
    cases Option.some.inj hf
    exact g_iret hret (Nat.le_of_ble_eq_true rfl) (Nat.le_of_ble_eq_true rfl) (vp_nar_int _) dX2_lowestKind_34
  · have hf := hrr7 t6 ht
    cases Option.some.inj hf
    exact hret
theorem c_X2_lowestKind (l : Launch) (hst : l.stackTraces = false) (a : Nat → Nat) (u : St) (t : Int32 × St) (hf : f_X2_lowestKind u = some t) : CoI l yX2_lowestKind (.code yX2_lowestKind cX2_lowestKind 2 (some .int)) 5 0 0 [.ref (a 0)] (wM a u) (wM a t.2) (.inl t.1) := mkI hst (by decide +kernel) (Nat.le_of_ble_eq_true rfl) (fun x _ o hI hX => b_X2_lowestKind o a u t hf (hI _ rfl))
def rt_X2_setVariables (x : Cx) (a : Nat → Nat) (t : Int32 × St) : Prop := RetI x cX2_setVariables .int 0 0 (wM a t.2 (cxT x)) t.1
set_option maxRecDepth 20000 in
set_option maxHeartbeats 2000000 in
theorem b_X2_setVariables {x : Cx} (o : Ok x cX2_setVariables 3 RX2 1 0 0) (a : Nat → Nat) (u : St) (p0 : Int32) (t : Int32 × St) (hf : f_X2_setVariables u p0 = some t) (hret : rt_X2_setVariables x a t) : G x 3 0 0 (wM a u (cxT x)) [(0, .ref (a 0)), (1, .int p0)] 0 [] := by
  unfold f_X2_setVariables at hf
  refine g_iload_n o 1 rfl rfl dX2_setVariables_0 ?_
  refine g_iconst o ic_1 dX2_setVariables_1 ?_
  refine g_bipush o bp_10 dX2_setVariables_2 ?_
  obtain ⟨r4, hr4, hf⟩ := bd_some hf
  refine k_X2_isBetween_ o hr4 m_992 (Nat.le_of_ble_eq_true rfl) (Nat.le_of_ble_eq_true rfl) ⟨(Nat.le_of_ble_eq_true rfl), (Nat.le_of_ble_eq_true rfl)⟩ dX2_setVariables_4 ?_
  refine g_if_ne (tgt := 16) o rfl dX2_setVariables_7 hf (fun hc hf => ?_) (fun hc hf => ?_)
  · refine g_aload_n o 0 rfl rfl dX2_setVariables_16 ?_
    refine g_iconst o ic_0 dX2_setVariables_17 ?_
    refine M_put0 o m_919 dX2_setVariables_18 ?_
    refine g_aload_n o 0 rfl rfl dX2_setVariables_21 ?_
    refine M_get7 o m_926 dX2_setVariables_22 ?_
    refine g_nmi hf (fun x5 hf => ?_)
    refine g_istore_n o [(2, .int x5), (0, .ref (a 0)), (1, .int p0)] (Nat.le_of_ble_eq_true rfl) rfl rfl dX2_setVariables_25 ?_
    refine g_aload_n o 1 rfl rfl dX2_setVariables_26 ?_
    refine g_iconst o ic_0 dX2_setVariables_27 ?_
    refine M_put7 o m_926 dX2_setVariables_28 ?_
    refine g_aload_n o 1 rfl rfl dX2_setVariables_31 ?_
    refine g_iload_n o 2 rfl rfl dX2_setVariables_32 ?_
    refine M_put6 o m_925 dX2_setVariables_33 ?_
    refine g_iload_n o 0 rfl rfl dX2_setVariables_36 ?_
    cases Option.some.inj hf
    exact g_iret hret (Nat.le_of_ble_eq_true rfl) (Nat.le_of_ble_eq_true rfl) (vp_nar_int _) dX2_setVariables_37
  · refine g_aload_n o 0 rfl rfl dX2_setVariables_10 ?_
    refine g_iconst o ic_1 dX2_setVariables_11 ?_
    obtain ⟨r6, hr6, hf⟩ := bd_some hf
    refine k_X2_fails_ o hr6 m_995 (Nat.le_of_ble_eq_true rfl) (Nat.le_of_ble_eq_true rfl) ⟨(Nat.le_of_ble_eq_true rfl), (Nat.le_of_ble_eq_true rfl)⟩ dX2_setVariables_12 ?_
    cases Option.some.inj hf
    exact g_iret hret (Nat.le_of_ble_eq_true rfl) (Nat.le_of_ble_eq_true rfl) (vp_nar_int _) dX2_setVariables_15
theorem c_X2_setVariables (l : Launch) (hst : l.stackTraces = false) (a : Nat → Nat) (u : St) (p0 : Int32) (t : Int32 × St) (hf : f_X2_setVariables u p0 = some t) : CoI l yX2_setVariables (.code yX2_setVariables cX2_setVariables 3 (some .int)) 1 0 0 [.ref (a 0), .int p0] (wM a u) (wM a t.2) (.inl t.1) := mkI hst (by decide +kernel) (Nat.le_of_ble_eq_true rfl) (fun x _ o hI hX => b_X2_setVariables o a u p0 t hf (hI _ rfl))
def rt_X2_isVariable (x : Cx) (a : Nat → Nat) (u : St) (t : Int32) : Prop := RetI x cX2_isVariable .boolean 0 0 (wM a u (cxT x)) t
set_option maxRecDepth 20000 in
set_option maxHeartbeats 2000000 in
theorem b_X2_isVariable {x : Cx} (o : Ok x cX2_isVariable 2 RX2 0 0 0) (a : Nat → Nat) (u : St) (p0 : Int32) (t : Int32) (hf : f_X2_isVariable u p0 = some t) (hret : rt_X2_isVariable x a u t) : G x 2 0 0 (wM a u (cxT x)) [(0, .ref (a 0)), (1, .int p0)] 0 [] := by
  unfold f_X2_isVariable at hf
  refine g_iload_n o 1 rfl rfl dX2_isVariable_0 ?_
  refine g_if_lt (tgt := 16) o rfl dX2_isVariable_1 hf (fun hc hf => ?_) (fun hc hf => ?_)
  · refine g_iconst o ic_0 dX2_isVariable_16 ?_
    cases Option.some.inj hf
    exact g_iret hret (Nat.le_of_ble_eq_true rfl) (Nat.le_of_ble_eq_true rfl) nb_0 dX2_isVariable_17
  · refine g_iload_n o 1 rfl rfl dX2_isVariable_4 ?_
    refine g_aload_n o 0 rfl rfl dX2_isVariable_5 ?_
    refine M_get6 o m_925 dX2_isVariable_6 ?_
    refine g_ic_ge (tgt := 16) o rfl dX2_isVariable_9 hf (fun hc hf => ?_) (fun hc hf => ?_)
    · refine g_iconst o ic_0 dX2_isVariable_16 ?_
      cases Option.some.inj hf
      exact g_iret hret (Nat.le_of_ble_eq_true rfl) (Nat.le_of_ble_eq_true rfl) nb_0 dX2_isVariable_17
    · refine g_iconst o ic_1 dX2_isVariable_12 ?_
      refine g_goto (tgt := 17) o rfl dX2_isVariable_13 ?_
      cases Option.some.inj hf
      exact g_iret hret (Nat.le_of_ble_eq_true rfl) (Nat.le_of_ble_eq_true rfl) nb_1 dX2_isVariable_17
theorem c_X2_isVariable (l : Launch) (hst : l.stackTraces = false) (a : Nat → Nat) (u : St) (p0 : Int32) (t : Int32) (hf : f_X2_isVariable u p0 = some t) : CoI l yX2_isVariable (.code yX2_isVariable cX2_isVariable 2 (some .boolean)) 0 0 0 [.ref (a 0), .int p0] (wM a u) (wM a u) (.inl t) := mkI hst (by decide +kernel) (Nat.le_of_ble_eq_true rfl) (fun x _ o hI hX => b_X2_isVariable o a u p0 t hf (hI _ rfl))
theorem k_X2_isVariable_ {x : Cx} {cc : ByteArray} {nL : Nat} {own : String} {d mc ms k n : Nat} {lv : List (Nat × Value)} {pc i : Nat} {rest : List Value} {a : Nat → Nat} {u : St} {p0 : Int32} (o : Ok x cc nL own d mc ms) {t : Int32} (ht : f_X2_isVariable u p0 = some t) (hlk : Cond.methodLink own i yX2_isVariable ∈ Ug) (hd : 0 < d) (hr : (rest.map fun v => v.category).sum ≤ 8) (hk : k + 0 ≤ mc ∧ n + 0 ≤ ms) (dg : decode cc pc = .ok (.invokevirtual i, 3)) (kk : G x nL (k + 0) (n + 0) (wM a u (cxT x)) lv (pc + 3) (.int t :: rest)) : G x nL k n (wM a u (cxT x)) lv pc (.int p0 :: .ref (a 0) :: rest) := gcI (wd2 := (wM a u (cxT x))) o (c_X2_isVariable (cxl x) o.2.2.2.2.2.2.2.2.2.1 a u p0 t ht) (can_V (q0 := 0) o rfl rfl hd (Nat.le_of_ble_eq_true rfl) m_1186 m_56 m_1185 m_42 hlk yk_X2_isVariable rfl hr hk dg) sp_M (fun E h => by cases h) (fun r h => by cases h; exact kk)
def rt_X2_areVariables (x : Cx) (a : Nat → Nat) (u : St) (t : Int32) : Prop := RetI x cX2_areVariables .boolean 0 0 (wM a u (cxT x)) t
set_option maxRecDepth 20000 in
set_option maxHeartbeats 2000000 in
theorem b_X2_areVariables {x : Cx} (o : Ok x cX2_areVariables 6 RX2 1 0 0) (a : Nat → Nat) (u : St) (p0 : Int32) (p1 : Int32) (p2 : Int32) (p3 : Int32) (p4 : Int32) (t : Int32) (hf : f_X2_areVariables u p0 p1 p2 p3 p4 = some t) (hret : rt_X2_areVariables x a u t) : G x 6 0 0 (wM a u (cxT x)) [(0, .ref (a 0)), (1, .int p0), (2, .int p1), (3, .int p2), (4, .int p3), (5, .int p4)] 0 [] := by
  unfold f_X2_areVariables at hf
  refine g_aload_n o 0 rfl rfl dX2_areVariables_0 ?_
  refine g_iload_n o 2 rfl rfl dX2_areVariables_1 ?_
  obtain ⟨r9, hr9, hf⟩ := bd_some hf
  refine k_X2_isVariable_ o hr9 m_1183 (Nat.le_of_ble_eq_true rfl) (Nat.le_of_ble_eq_true rfl) ⟨(Nat.le_of_ble_eq_true rfl), (Nat.le_of_ble_eq_true rfl)⟩ dX2_areVariables_2 ?_
  refine g_if_eq (tgt := 53) o rfl dX2_areVariables_5 hf (fun hc hf => ?_) (fun hc hf => ?_)
  · refine g_iconst o ic_0 dX2_areVariables_53 ?_
    cases Option.some.inj hf
    exact g_iret hret (Nat.le_of_ble_eq_true rfl) (Nat.le_of_ble_eq_true rfl) nb_0 dX2_areVariables_54
  · refine g_iload_n o 1 rfl rfl dX2_areVariables_8 ?_
    refine g_iconst o ic_2 dX2_areVariables_9 ?_
    refine g_ic_lt (tgt := 21) o rfl dX2_areVariables_10 hf (fun hc hf => ?_) (fun hc hf => ?_)
    · refine g_iload_n o 1 rfl rfl dX2_areVariables_21 ?_
      refine g_iconst o ic_3 dX2_areVariables_22 ?_
      refine g_ic_lt (tgt := 35) o rfl dX2_areVariables_23 hf (fun hc hf => ?_) (fun hc hf => ?_)
      · refine g_iload_n o 1 rfl rfl dX2_areVariables_35 ?_
        refine g_iconst o ic_4 dX2_areVariables_36 ?_
        refine g_ic_lt (tgt := 49) o rfl dX2_areVariables_37 hf (fun hc hf => ?_) (fun hc hf => ?_)
        · refine g_iconst o ic_1 dX2_areVariables_49 ?_
          refine g_goto (tgt := 54) o rfl dX2_areVariables_50 ?_
          cases Option.some.inj hf
          exact g_iret hret (Nat.le_of_ble_eq_true rfl) (Nat.le_of_ble_eq_true rfl) nb_1 dX2_areVariables_54
        · refine g_aload_n o 0 rfl rfl dX2_areVariables_40 ?_
          refine g_iload o 5 rfl dX2_areVariables_41 ?_
          obtain ⟨r10, hr10, hf⟩ := bd_some hf
          refine k_X2_isVariable_ o hr10 m_1183 (Nat.le_of_ble_eq_true rfl) (Nat.le_of_ble_eq_true rfl) ⟨(Nat.le_of_ble_eq_true rfl), (Nat.le_of_ble_eq_true rfl)⟩ dX2_areVariables_43 ?_
          refine g_if_eq (tgt := 53) o rfl dX2_areVariables_46 hf (fun hc hf => ?_) (fun hc hf => ?_)
          · refine g_iconst o ic_0 dX2_areVariables_53 ?_
            cases Option.some.inj hf
            exact g_iret hret (Nat.le_of_ble_eq_true rfl) (Nat.le_of_ble_eq_true rfl) nb_0 dX2_areVariables_54
          · refine g_iconst o ic_1 dX2_areVariables_49 ?_
            refine g_goto (tgt := 54) o rfl dX2_areVariables_50 ?_
            cases Option.some.inj hf
            exact g_iret hret (Nat.le_of_ble_eq_true rfl) (Nat.le_of_ble_eq_true rfl) nb_1 dX2_areVariables_54
      · refine g_aload_n o 0 rfl rfl dX2_areVariables_26 ?_
        refine g_iload o 4 rfl dX2_areVariables_27 ?_
        obtain ⟨r11, hr11, hf⟩ := bd_some hf
        refine k_X2_isVariable_ o hr11 m_1183 (Nat.le_of_ble_eq_true rfl) (Nat.le_of_ble_eq_true rfl) ⟨(Nat.le_of_ble_eq_true rfl), (Nat.le_of_ble_eq_true rfl)⟩ dX2_areVariables_29 ?_
        refine g_if_eq (tgt := 53) o rfl dX2_areVariables_32 hf (fun hc hf => ?_) (fun hc hf => ?_)
        · refine g_iconst o ic_0 dX2_areVariables_53 ?_
          cases Option.some.inj hf
          exact g_iret hret (Nat.le_of_ble_eq_true rfl) (Nat.le_of_ble_eq_true rfl) nb_0 dX2_areVariables_54
        · refine g_iload_n o 1 rfl rfl dX2_areVariables_35 ?_
          refine g_iconst o ic_4 dX2_areVariables_36 ?_
          refine g_ic_lt (tgt := 49) o rfl dX2_areVariables_37 hf (fun hc hf => ?_) (fun hc hf => ?_)
          · refine g_iconst o ic_1 dX2_areVariables_49 ?_
            refine g_goto (tgt := 54) o rfl dX2_areVariables_50 ?_
            cases Option.some.inj hf
            exact g_iret hret (Nat.le_of_ble_eq_true rfl) (Nat.le_of_ble_eq_true rfl) nb_1 dX2_areVariables_54
          · refine g_aload_n o 0 rfl rfl dX2_areVariables_40 ?_
            refine g_iload o 5 rfl dX2_areVariables_41 ?_
            obtain ⟨r12, hr12, hf⟩ := bd_some hf
            refine k_X2_isVariable_ o hr12 m_1183 (Nat.le_of_ble_eq_true rfl) (Nat.le_of_ble_eq_true rfl) ⟨(Nat.le_of_ble_eq_true rfl), (Nat.le_of_ble_eq_true rfl)⟩ dX2_areVariables_43 ?_
            refine g_if_eq (tgt := 53) o rfl dX2_areVariables_46 hf (fun hc hf => ?_) (fun hc hf => ?_)
            · refine g_iconst o ic_0 dX2_areVariables_53 ?_
              cases Option.some.inj hf
              exact g_iret hret (Nat.le_of_ble_eq_true rfl) (Nat.le_of_ble_eq_true rfl) nb_0 dX2_areVariables_54
            · refine g_iconst o ic_1 dX2_areVariables_49 ?_
              refine g_goto (tgt := 54) o rfl dX2_areVariables_50 ?_
              cases Option.some.inj hf
              exact g_iret hret (Nat.le_of_ble_eq_true rfl) (Nat.le_of_ble_eq_true rfl) nb_1 dX2_areVariables_54
    · refine g_aload_n o 0 rfl rfl dX2_areVariables_13 ?_
      refine g_iload_n o 3 rfl rfl dX2_areVariables_14 ?_
      obtain ⟨r13, hr13, hf⟩ := bd_some hf
      refine k_X2_isVariable_ o hr13 m_1183 (Nat.le_of_ble_eq_true rfl) (Nat.le_of_ble_eq_true rfl) ⟨(Nat.le_of_ble_eq_true rfl), (Nat.le_of_ble_eq_true rfl)⟩ dX2_areVariables_15 ?_
      refine g_if_eq (tgt := 53) o rfl dX2_areVariables_18 hf (fun hc hf => ?_) (fun hc hf => ?_)
      · refine g_iconst o ic_0 dX2_areVariables_53 ?_
        cases Option.some.inj hf
        exact g_iret hret (Nat.le_of_ble_eq_true rfl) (Nat.le_of_ble_eq_true rfl) nb_0 dX2_areVariables_54
      · refine g_iload_n o 1 rfl rfl dX2_areVariables_21 ?_
        refine g_iconst o ic_3 dX2_areVariables_22 ?_
        refine g_ic_lt (tgt := 35) o rfl dX2_areVariables_23 hf (fun hc hf => ?_) (fun hc hf => ?_)
        · refine g_iload_n o 1 rfl rfl dX2_areVariables_35 ?_
          refine g_iconst o ic_4 dX2_areVariables_36 ?_
          refine g_ic_lt (tgt := 49) o rfl dX2_areVariables_37 hf (fun hc hf => ?_) (fun hc hf => ?_)
          · refine g_iconst o ic_1 dX2_areVariables_49 ?_
            refine g_goto (tgt := 54) o rfl dX2_areVariables_50 ?_
            cases Option.some.inj hf
            exact g_iret hret (Nat.le_of_ble_eq_true rfl) (Nat.le_of_ble_eq_true rfl) nb_1 dX2_areVariables_54
          · refine g_aload_n o 0 rfl rfl dX2_areVariables_40 ?_
            refine g_iload o 5 rfl dX2_areVariables_41 ?_
            obtain ⟨r14, hr14, hf⟩ := bd_some hf
            refine k_X2_isVariable_ o hr14 m_1183 (Nat.le_of_ble_eq_true rfl) (Nat.le_of_ble_eq_true rfl) ⟨(Nat.le_of_ble_eq_true rfl), (Nat.le_of_ble_eq_true rfl)⟩ dX2_areVariables_43 ?_
            refine g_if_eq (tgt := 53) o rfl dX2_areVariables_46 hf (fun hc hf => ?_) (fun hc hf => ?_)
            · refine g_iconst o ic_0 dX2_areVariables_53 ?_
              cases Option.some.inj hf
              exact g_iret hret (Nat.le_of_ble_eq_true rfl) (Nat.le_of_ble_eq_true rfl) nb_0 dX2_areVariables_54
            · refine g_iconst o ic_1 dX2_areVariables_49 ?_
              refine g_goto (tgt := 54) o rfl dX2_areVariables_50 ?_
              cases Option.some.inj hf
              exact g_iret hret (Nat.le_of_ble_eq_true rfl) (Nat.le_of_ble_eq_true rfl) nb_1 dX2_areVariables_54
        · refine g_aload_n o 0 rfl rfl dX2_areVariables_26 ?_
          refine g_iload o 4 rfl dX2_areVariables_27 ?_
          obtain ⟨r15, hr15, hf⟩ := bd_some hf
          refine k_X2_isVariable_ o hr15 m_1183 (Nat.le_of_ble_eq_true rfl) (Nat.le_of_ble_eq_true rfl) ⟨(Nat.le_of_ble_eq_true rfl), (Nat.le_of_ble_eq_true rfl)⟩ dX2_areVariables_29 ?_
          refine g_if_eq (tgt := 53) o rfl dX2_areVariables_32 hf (fun hc hf => ?_) (fun hc hf => ?_)
          · refine g_iconst o ic_0 dX2_areVariables_53 ?_
            cases Option.some.inj hf
            exact g_iret hret (Nat.le_of_ble_eq_true rfl) (Nat.le_of_ble_eq_true rfl) nb_0 dX2_areVariables_54
          · refine g_iload_n o 1 rfl rfl dX2_areVariables_35 ?_
            refine g_iconst o ic_4 dX2_areVariables_36 ?_
            refine g_ic_lt (tgt := 49) o rfl dX2_areVariables_37 hf (fun hc hf => ?_) (fun hc hf => ?_)
            · refine g_iconst o ic_1 dX2_areVariables_49 ?_
              refine g_goto (tgt := 54) o rfl dX2_areVariables_50 ?_
              cases Option.some.inj hf
              exact g_iret hret (Nat.le_of_ble_eq_true rfl) (Nat.le_of_ble_eq_true rfl) nb_1 dX2_areVariables_54
            · refine g_aload_n o 0 rfl rfl dX2_areVariables_40 ?_
              refine g_iload o 5 rfl dX2_areVariables_41 ?_
              obtain ⟨r16, hr16, hf⟩ := bd_some hf
              refine k_X2_isVariable_ o hr16 m_1183 (Nat.le_of_ble_eq_true rfl) (Nat.le_of_ble_eq_true rfl) ⟨(Nat.le_of_ble_eq_true rfl), (Nat.le_of_ble_eq_true rfl)⟩ dX2_areVariables_43 ?_
              refine g_if_eq (tgt := 53) o rfl dX2_areVariables_46 hf (fun hc hf => ?_) (fun hc hf => ?_)
              · refine g_iconst o ic_0 dX2_areVariables_53 ?_
                cases Option.some.inj hf
                exact g_iret hret (Nat.le_of_ble_eq_true rfl) (Nat.le_of_ble_eq_true rfl) nb_0 dX2_areVariables_54
              · refine g_iconst o ic_1 dX2_areVariables_49 ?_
                refine g_goto (tgt := 54) o rfl dX2_areVariables_50 ?_
                cases Option.some.inj hf
                exact g_iret hret (Nat.le_of_ble_eq_true rfl) (Nat.le_of_ble_eq_true rfl) nb_1 dX2_areVariables_54
theorem c_X2_areVariables (l : Launch) (hst : l.stackTraces = false) (a : Nat → Nat) (u : St) (p0 : Int32) (p1 : Int32) (p2 : Int32) (p3 : Int32) (p4 : Int32) (t : Int32) (hf : f_X2_areVariables u p0 p1 p2 p3 p4 = some t) : CoI l yX2_areVariables (.code yX2_areVariables cX2_areVariables 6 (some .boolean)) 1 0 0 [.ref (a 0), .int p0, .int p1, .int p2, .int p3, .int p4] (wM a u) (wM a u) (.inl t) := mkI hst (by decide +kernel) (Nat.le_of_ble_eq_true rfl) (fun x _ o hI hX => b_X2_areVariables o a u p0 p1 p2 p3 p4 t hf (hI _ rfl))
theorem k_X2_areVariables_ {x : Cx} {cc : ByteArray} {nL : Nat} {own : String} {d mc ms k n : Nat} {lv : List (Nat × Value)} {pc i : Nat} {rest : List Value} {a : Nat → Nat} {u : St} {p0 : Int32} {p1 : Int32} {p2 : Int32} {p3 : Int32} {p4 : Int32} (o : Ok x cc nL own d mc ms) {t : Int32} (ht : f_X2_areVariables u p0 p1 p2 p3 p4 = some t) (hlk : Cond.methodLink own i yX2_areVariables ∈ Ug) (hd : 1 < d) (hr : (rest.map fun v => v.category).sum ≤ 8) (hk : k + 0 ≤ mc ∧ n + 0 ≤ ms) (dg : decode cc pc = .ok (.invokevirtual i, 3)) (kk : G x nL (k + 0) (n + 0) (wM a u (cxT x)) lv (pc + 3) (.int t :: rest)) : G x nL k n (wM a u (cxT x)) lv pc (.int p4 :: .int p3 :: .int p2 :: .int p1 :: .int p0 :: .ref (a 0) :: rest) := gcI (wd2 := (wM a u (cxT x))) o (c_X2_areVariables (cxl x) o.2.2.2.2.2.2.2.2.2.1 a u p0 p1 p2 p3 p4 t ht) (can_V (q0 := 0) o rfl rfl hd (Nat.le_of_ble_eq_true rfl) m_1182 m_56 m_1181 m_41 hlk yk_X2_areVariables rfl hr hk dg) sp_M (fun E h => by cases h) (fun r h => by cases h; exact kk)
def rt_X2_addConstraint (x : Cx) (a : Nat → Nat) (t : Int32 × St) : Prop := RetI x cX2_addConstraint .int 0 0 (wM a t.2 (cxT x)) t.1
set_option maxRecDepth 20000 in
set_option maxHeartbeats 2000000 in
theorem b_X2_addConstraint {x : Cx} (o : Ok x cX2_addConstraint 7 RX2 2 0 0) (a : Nat → Nat) (u : St) (p0 : Int32) (p1 : Int32) (p2 : Int32) (p3 : Int32) (p4 : Int32) (t : Int32 × St) (hf : f_X2_addConstraint u p0 p1 p2 p3 p4 = some t) (hret : rt_X2_addConstraint x a t) : G x 7 0 0 (wM a u (cxT x)) [(0, .ref (a 0)), (1, .int p0), (2, .int p1), (3, .int p2), (4, .int p3), (5, .int p4)] 0 [] := by
  unfold f_X2_addConstraint at hf
  refine g_aload_n o 0 rfl rfl dX2_addConstraint_0 ?_
  refine g_iload_n o 1 rfl rfl dX2_addConstraint_1 ?_
  obtain ⟨r7, hr7, hf⟩ := bd_some hf
  refine k_X2_isRelation_ o hr7 m_1031 (Nat.le_of_ble_eq_true rfl) (Nat.le_of_ble_eq_true rfl) ⟨(Nat.le_of_ble_eq_true rfl), (Nat.le_of_ble_eq_true rfl)⟩ dX2_addConstraint_2 ?_
  refine g_if_eq (tgt := 27) o rfl dX2_addConstraint_5 hf (fun hc hf => ?_) (fun hc hf => ?_)
  · refine g_aload_n o 0 rfl rfl dX2_addConstraint_27 ?_
    refine g_iconst o ic_1 dX2_addConstraint_28 ?_
    obtain ⟨r8, hr8, hf⟩ := bd_some hf
    refine k_X2_fails_ o hr8 m_995 (Nat.le_of_ble_eq_true rfl) (Nat.le_of_ble_eq_true rfl) ⟨(Nat.le_of_ble_eq_true rfl), (Nat.le_of_ble_eq_true rfl)⟩ dX2_addConstraint_29 ?_
    cases Option.some.inj hf
    exact g_iret hret (Nat.le_of_ble_eq_true rfl) (Nat.le_of_ble_eq_true rfl) (vp_nar_int _) dX2_addConstraint_32
  · refine g_aload_n o 0 rfl rfl dX2_addConstraint_8 ?_
    refine g_aload_n o 0 rfl rfl dX2_addConstraint_9 ?_
    refine M_get1 o m_920 dX2_addConstraint_10 ?_
    refine g_iload_n o 1 rfl rfl dX2_addConstraint_13 ?_
    refine M_ld1 o dX2_addConstraint_14 hf (fun hf => ?_)
    refine g_iload_n o 2 rfl rfl dX2_addConstraint_15 ?_
    refine g_iload_n o 3 rfl rfl dX2_addConstraint_16 ?_
    refine g_iload o 4 rfl dX2_addConstraint_17 ?_
    refine g_iload o 5 rfl dX2_addConstraint_19 ?_
    obtain ⟨r9, hr9, hf⟩ := bd_some hf
    refine k_X2_areVariables_ o hr9 m_1179 (Nat.le_of_ble_eq_true rfl) (Nat.le_of_ble_eq_true rfl) ⟨(Nat.le_of_ble_eq_true rfl), (Nat.le_of_ble_eq_true rfl)⟩ dX2_addConstraint_21 ?_
    refine g_if_ne (tgt := 33) o rfl dX2_addConstraint_24 hf (fun hc hf => ?_) (fun hc hf => ?_)
    · refine g_aload_n o 0 rfl rfl dX2_addConstraint_33 ?_
      refine M_get7 o m_926 dX2_addConstraint_34 ?_
      refine g_bipush o bp_20 dX2_addConstraint_37 ?_
      refine g_ic_ne (tgt := 48) o rfl dX2_addConstraint_39 hf (fun hc hf => ?_) (fun hc hf => ?_)
      · refine g_aload_n o 0 rfl rfl dX2_addConstraint_48 ?_
        refine g_iconst o ic_0 dX2_addConstraint_49 ?_
        refine M_put0 o m_919 dX2_addConstraint_50 ?_
        refine g_iconst o ic_4 dX2_addConstraint_53 ?_
        refine g_aload_n o 0 rfl rfl dX2_addConstraint_54 ?_
        refine M_get7 o m_926 dX2_addConstraint_55 ?_
        refine g_imul o dX2_addConstraint_58 ?_
        refine g_nmi hf (fun x10 hf => ?_)
        refine g_istore o [(6, .int x10), (0, .ref (a 0)), (1, .int p0), (2, .int p1), (3, .int p2), (4, .int p3), (5, .int p4)] (Nat.le_of_ble_eq_true rfl) rfl dX2_addConstraint_59 ?_
        refine g_aload_n o 1 rfl rfl dX2_addConstraint_61 ?_
        refine M_get4 o m_923 dX2_addConstraint_62 ?_
        refine g_aload_n o 1 rfl rfl dX2_addConstraint_65 ?_
        refine M_get7 o m_926 dX2_addConstraint_66 ?_
        refine g_iload_n o 2 rfl rfl dX2_addConstraint_69 ?_
        refine M_st4 o dX2_addConstraint_70 hf (fun hf => ?_)
        refine g_aload_n o 1 rfl rfl dX2_addConstraint_71 ?_
        refine M_get5 o m_924 dX2_addConstraint_72 ?_
        refine g_iload o 0 rfl dX2_addConstraint_75 ?_
        refine g_iload_n o 3 rfl rfl dX2_addConstraint_77 ?_
        refine M_st5 o dX2_addConstraint_78 hf (fun hf => ?_)
        refine g_aload_n o 1 rfl rfl dX2_addConstraint_79 ?_
        refine M_get5 o m_924 dX2_addConstraint_80 ?_
        refine g_iload o 0 rfl dX2_addConstraint_83 ?_
        refine g_iconst o ic_1 dX2_addConstraint_85 ?_
        refine g_iadd o dX2_addConstraint_86 ?_
        refine g_iload_n o 4 rfl rfl dX2_addConstraint_87 ?_
        refine M_st5 o dX2_addConstraint_88 hf (fun hf => ?_)
        refine g_aload_n o 1 rfl rfl dX2_addConstraint_89 ?_
        refine M_get5 o m_924 dX2_addConstraint_90 ?_
        refine g_iload o 0 rfl dX2_addConstraint_93 ?_
        refine g_iconst o ic_2 dX2_addConstraint_95 ?_
        refine g_iadd o dX2_addConstraint_96 ?_
        refine g_iload o 5 rfl dX2_addConstraint_97 ?_
        refine M_st5 o dX2_addConstraint_99 hf (fun hf => ?_)
        refine g_aload_n o 1 rfl rfl dX2_addConstraint_100 ?_
        refine M_get5 o m_924 dX2_addConstraint_101 ?_
        refine g_iload o 0 rfl dX2_addConstraint_104 ?_
        refine g_iconst o ic_3 dX2_addConstraint_106 ?_
        refine g_iadd o dX2_addConstraint_107 ?_
        refine g_iload o 6 rfl dX2_addConstraint_108 ?_
        refine M_st5 o dX2_addConstraint_110 hf (fun hf => ?_)
        refine g_aload_n o 1 rfl rfl dX2_addConstraint_111 ?_
        refine g_dup o rfl dX2_addConstraint_112 ?_
        refine M_get7 o m_926 dX2_addConstraint_113 ?_
        refine g_iconst o ic_1 dX2_addConstraint_116 ?_
        refine g_iadd o dX2_addConstraint_117 ?_
        refine M_put7 o m_926 dX2_addConstraint_118 ?_
        refine g_aload_n o 1 rfl rfl dX2_addConstraint_121 ?_
        refine M_get7 o m_926 dX2_addConstraint_122 ?_
        refine g_iconst o ic_1 dX2_addConstraint_125 ?_
        refine g_isub o dX2_addConstraint_126 ?_
        cases Option.some.inj hf
        exact g_iret hret (Nat.le_of_ble_eq_true rfl) (Nat.le_of_ble_eq_true rfl) (vp_nar_int _) dX2_addConstraint_127
      · refine g_aload_n o 0 rfl rfl dX2_addConstraint_42 ?_
        refine g_iconst o ic_2 dX2_addConstraint_43 ?_
        obtain ⟨r11, hr11, hf⟩ := bd_some hf
        refine k_X2_fails_ o hr11 m_995 (Nat.le_of_ble_eq_true rfl) (Nat.le_of_ble_eq_true rfl) ⟨(Nat.le_of_ble_eq_true rfl), (Nat.le_of_ble_eq_true rfl)⟩ dX2_addConstraint_44 ?_
        cases Option.some.inj hf
        exact g_iret hret (Nat.le_of_ble_eq_true rfl) (Nat.le_of_ble_eq_true rfl) (vp_nar_int _) dX2_addConstraint_47
    · refine g_aload_n o 0 rfl rfl dX2_addConstraint_27 ?_
      refine g_iconst o ic_1 dX2_addConstraint_28 ?_
      obtain ⟨r12, hr12, hf⟩ := bd_some hf
      refine k_X2_fails_ o hr12 m_995 (Nat.le_of_ble_eq_true rfl) (Nat.le_of_ble_eq_true rfl) ⟨(Nat.le_of_ble_eq_true rfl), (Nat.le_of_ble_eq_true rfl)⟩ dX2_addConstraint_29 ?_
      cases Option.some.inj hf
      exact g_iret hret (Nat.le_of_ble_eq_true rfl) (Nat.le_of_ble_eq_true rfl) (vp_nar_int _) dX2_addConstraint_32
theorem c_X2_addConstraint (l : Launch) (hst : l.stackTraces = false) (a : Nat → Nat) (u : St) (p0 : Int32) (p1 : Int32) (p2 : Int32) (p3 : Int32) (p4 : Int32) (t : Int32 × St) (hf : f_X2_addConstraint u p0 p1 p2 p3 p4 = some t) : CoI l yX2_addConstraint (.code yX2_addConstraint cX2_addConstraint 7 (some .int)) 2 0 0 [.ref (a 0), .int p0, .int p1, .int p2, .int p3, .int p4] (wM a u) (wM a t.2) (.inl t.1) := mkI hst (by decide +kernel) (Nat.le_of_ble_eq_true rfl) (fun x _ o hI hX => b_X2_addConstraint o a u p0 p1 p2 p3 p4 t hf (hI _ rfl))
def rt_X2_removeLastConstraint (x : Cx) (a : Nat → Nat) (t : Int32 × St) : Prop := RetI x cX2_removeLastConstraint .int 0 0 (wM a t.2 (cxT x)) t.1
set_option maxRecDepth 20000 in
set_option maxHeartbeats 2000000 in
theorem b_X2_removeLastConstraint {x : Cx} (o : Ok x cX2_removeLastConstraint 1 RX2 1 0 0) (a : Nat → Nat) (u : St) (t : Int32 × St) (hf : f_X2_removeLastConstraint u = some t) (hret : rt_X2_removeLastConstraint x a t) : G x 1 0 0 (wM a u (cxT x)) [(0, .ref (a 0))] 0 [] := by
  unfold f_X2_removeLastConstraint at hf
  refine g_aload_n o 0 rfl rfl dX2_removeLastConstraint_0 ?_
  refine M_get7 o m_926 dX2_removeLastConstraint_1 ?_
  refine g_if_ne (tgt := 13) o rfl dX2_removeLastConstraint_4 hf (fun hc hf => ?_) (fun hc hf => ?_)
  · refine g_aload_n o 0 rfl rfl dX2_removeLastConstraint_13 ?_
    refine g_iconst o ic_0 dX2_removeLastConstraint_14 ?_
    refine M_put0 o m_919 dX2_removeLastConstraint_15 ?_
    refine g_aload_n o 0 rfl rfl dX2_removeLastConstraint_18 ?_
    refine g_dup o rfl dX2_removeLastConstraint_19 ?_
    refine M_get7 o m_926 dX2_removeLastConstraint_20 ?_
    refine g_iconst o ic_1 dX2_removeLastConstraint_23 ?_
    refine g_isub o dX2_removeLastConstraint_24 ?_
    refine M_put7 o m_926 dX2_removeLastConstraint_25 ?_
    refine g_aload_n o 0 rfl rfl dX2_removeLastConstraint_28 ?_
    refine M_get7 o m_926 dX2_removeLastConstraint_29 ?_
    cases Option.some.inj hf
    exact g_iret hret (Nat.le_of_ble_eq_true rfl) (Nat.le_of_ble_eq_true rfl) (vp_nar_int _) dX2_removeLastConstraint_32
  · refine g_aload_n o 0 rfl rfl dX2_removeLastConstraint_7 ?_
    refine g_iconst o ic_1 dX2_removeLastConstraint_8 ?_
    obtain ⟨r2, hr2, hf⟩ := bd_some hf
    refine k_X2_fails_ o hr2 m_995 (Nat.le_of_ble_eq_true rfl) (Nat.le_of_ble_eq_true rfl) ⟨(Nat.le_of_ble_eq_true rfl), (Nat.le_of_ble_eq_true rfl)⟩ dX2_removeLastConstraint_9 ?_
    cases Option.some.inj hf
    exact g_iret hret (Nat.le_of_ble_eq_true rfl) (Nat.le_of_ble_eq_true rfl) (vp_nar_int _) dX2_removeLastConstraint_12
theorem c_X2_removeLastConstraint (l : Launch) (hst : l.stackTraces = false) (a : Nat → Nat) (u : St) (t : Int32 × St) (hf : f_X2_removeLastConstraint u = some t) : CoI l yX2_removeLastConstraint (.code yX2_removeLastConstraint cX2_removeLastConstraint 1 (some .int)) 1 0 0 [.ref (a 0)] (wM a u) (wM a t.2) (.inl t.1) := mkI hst (by decide +kernel) (Nat.le_of_ble_eq_true rfl) (fun x _ o hI hX => b_X2_removeLastConstraint o a u t hf (hI _ rfl))
def rt_X2_isSatisfied (x : Cx) (a : Nat → Nat) (u : St) (t : Int32) : Prop := RetI x cX2_isSatisfied .boolean 0 0 (wM a u (cxT x)) t
set_option maxRecDepth 20000 in
set_option maxHeartbeats 2000000 in
theorem b_X2_isSatisfied_L5 {x : Cx} (o : Ok x cX2_isSatisfied 5 RX2 0 0 0) {k n : Nat} (hk : k ≤ 0) (hn : n ≤ 0) (a : Nat → Nat) (u : St) (c1 : Int32) (c2 : Int32) (r : (Int32 × Int32) ⊕ (Int32)) (hX : ∀ s : Int32 × Int32, r = .inl s → G x 5 k n (wM a u (cxT x)) [(0, .ref (a 0)), (1, .int c1), (3, .int s.1)] 48 []) (hR : ∀ t, r = .inr t → rt_X2_isSatisfied x a u t) : ∀ (m : Nat) (s : Int32 × Int32), loopN (f_X2_isSatisfied_s5 u c1 c2) m s = some r → G x 5 k n (wM a u (cxT x)) [(0, .ref (a 0)), (1, .int c1), (2, .int c2), (3, .int s.1), (4, .int s.2)] 5 [] := by
  refine loop_W _ (fun (s : Int32 × Int32) => G x 5 k n (wM a u (cxT x)) [(0, .ref (a 0)), (1, .int c1), (2, .int c2), (3, .int s.1), (4, .int s.2)] 5 []) r ?_
  intro s ww hf hw
  unfold f_X2_isSatisfied_s5 at hf
  obtain ⟨s_0, s_1⟩ := s
  try dsimp -simprocs only at hf ⊢
  refine g_iload o 4 rfl dX2_isSatisfied_5 ?_
  refine g_aload_n o 0 rfl rfl dX2_isSatisfied_7 ?_
  refine M_get1 o m_920 dX2_isSatisfied_8 ?_
  refine g_aload_n o 0 rfl rfl dX2_isSatisfied_11 ?_
  refine M_get4 o m_923 dX2_isSatisfied_12 ?_
  refine g_iload_n o 1 rfl rfl dX2_isSatisfied_15 ?_
  refine M_ld4 o dX2_isSatisfied_16 hf (fun hf => ?_)
  refine M_ld1 o dX2_isSatisfied_17 hf (fun hf => ?_)
  refine g_ic_ge (tgt := 48) o rfl dX2_isSatisfied_18 hf (fun hc hf => ?_) (fun hc hf => ?_)
  · exact g_perm [0, 1, 3] rfl (hX _ (lf_x hf hw))
  · refine g_iload_n o 3 rfl rfl dX2_isSatisfied_21 ?_
    refine g_iload_n o 2 rfl rfl dX2_isSatisfied_22 ?_
    refine g_aload_n o 0 rfl rfl dX2_isSatisfied_23 ?_
    refine M_get5 o m_924 dX2_isSatisfied_24 ?_
    refine g_iconst o ic_4 dX2_isSatisfied_27 ?_
    refine g_iload_n o 1 rfl rfl dX2_isSatisfied_28 ?_
    refine g_imul o dX2_isSatisfied_29 ?_
    refine g_iload o 4 rfl dX2_isSatisfied_30 ?_
    refine g_iadd o dX2_isSatisfied_32 ?_
    refine M_ld5 o dX2_isSatisfied_33 hf (fun hf => ?_)
    refine g_ishr o dX2_isSatisfied_34 ?_
    refine g_iconst o ic_1 dX2_isSatisfied_35 ?_
    refine g_iand o dX2_isSatisfied_36 ?_
    refine g_iload o 4 rfl dX2_isSatisfied_37 ?_
    refine g_ishl o dX2_isSatisfied_39 ?_
    refine g_ior o dX2_isSatisfied_40 ?_
    refine g_nmi hf (fun x2 hf => ?_)
    refine g_istore_n o [(3, .int x2), (0, .ref (a 0)), (1, .int c1), (2, .int c2), (4, .int s_1)] (Nat.le_of_ble_eq_true rfl) rfl rfl dX2_isSatisfied_41 ?_
    refine g_iinc o [(4, .int (s_1 + 1)), (3, .int x2), (0, .ref (a 0)), (1, .int c1), (2, .int c2)] 4 rfl (inc_1 _) (Nat.le_of_ble_eq_true rfl) rfl dX2_isSatisfied_42 ?_
    refine g_goto (tgt := 5) o rfl dX2_isSatisfied_45 ?_
    have hp := lf_c hf hw
    exact g_perm [2, 3, 4, 1, 0] rfl hp
set_option maxRecDepth 20000 in
set_option maxHeartbeats 2000000 in
theorem b_X2_isSatisfied {x : Cx} (o : Ok x cX2_isSatisfied 5 RX2 0 0 0) (a : Nat → Nat) (u : St) (p0 : Int32) (p1 : Int32) (t : Int32) (hf : f_X2_isSatisfied u p0 p1 = some t) (hret : rt_X2_isSatisfied x a u t) : G x 5 0 0 (wM a u (cxT x)) [(0, .ref (a 0)), (1, .int p0), (2, .int p1)] 0 [] := by
  unfold f_X2_isSatisfied at hf
  refine g_iconst o ic_0 dX2_isSatisfied_0 ?_
  refine g_istore_n o [(3, .int 0), (0, .ref (a 0)), (1, .int p0), (2, .int p1)] (Nat.le_of_ble_eq_true rfl) rfl rfl dX2_isSatisfied_1 ?_
  refine g_iconst o ic_0 dX2_isSatisfied_2 ?_
  refine g_istore o [(4, .int 0), (3, .int 0), (0, .ref (a 0)), (1, .int p0), (2, .int p1)] (Nat.le_of_ble_eq_true rfl) rfl dX2_isSatisfied_3 ?_
  obtain ⟨r6, hr6, hxr6, hrr6⟩ := bl_some hf
  refine g_perm [2, 3, 4, 1, 0] rfl (b_X2_isSatisfied_L5 o (Nat.le_of_ble_eq_true rfl) (Nat.le_of_ble_eq_true rfl) a u p0 p1 r6 (fun s5 hs => ?_) (fun t5 ht => ?_) FU (0, 0) hr6)
  · have hf := hxr6 s5 hs
    obtain ⟨s5_0, s5_1⟩ := s5
    try dsimp -simprocs only at hf ⊢
    refine g_aload_n o 0 rfl rfl dX2_isSatisfied_48 ?_
    refine M_get2 o m_921 dX2_isSatisfied_49 ?_
    refine g_aload_n o 0 rfl rfl dX2_isSatisfied_52 ?_
    refine M_get4 o m_923 dX2_isSatisfied_53 ?_
    refine g_iload_n o 1 rfl rfl dX2_isSatisfied_56 ?_
    refine M_ld4 o dX2_isSatisfied_57 hf (fun hf => ?_)
    refine M_ld2 o dX2_isSatisfied_58 hf (fun hf => ?_)
    refine g_iload_n o 2 rfl rfl dX2_isSatisfied_59 ?_
    refine g_ishr o dX2_isSatisfied_60 ?_
    refine g_iconst o ic_1 dX2_isSatisfied_61 ?_
    refine g_iand o dX2_isSatisfied_62 ?_
    refine g_iconst o ic_1 dX2_isSatisfied_63 ?_
    refine g_ic_ne (tgt := 71) o rfl dX2_isSatisfied_64 hf (fun hc hf => ?_) (fun hc hf => ?_)
    · refine g_iconst o ic_0 dX2_isSatisfied_71 ?_
      cases Option.some.inj hf
      exact g_iret hret (Nat.le_of_ble_eq_true rfl) (Nat.le_of_ble_eq_true rfl) nb_0 dX2_isSatisfied_72
    · refine g_iconst o ic_1 dX2_isSatisfied_67 ?_
      refine g_goto (tgt := 72) o rfl dX2_isSatisfied_68 ?_
      cases Option.some.inj hf
      exact g_iret hret (Nat.le_of_ble_eq_true rfl) (Nat.le_of_ble_eq_true rfl) nb_1 dX2_isSatisfied_72
  · have hf := hrr6 t5 ht
    cases Option.some.inj hf
    exact hret
theorem c_X2_isSatisfied (l : Launch) (hst : l.stackTraces = false) (a : Nat → Nat) (u : St) (p0 : Int32) (p1 : Int32) (t : Int32) (hf : f_X2_isSatisfied u p0 p1 = some t) : CoI l yX2_isSatisfied (.code yX2_isSatisfied cX2_isSatisfied 5 (some .boolean)) 0 0 0 [.ref (a 0), .int p0, .int p1] (wM a u) (wM a u) (.inl t) := mkI hst (by decide +kernel) (Nat.le_of_ble_eq_true rfl) (fun x _ o hI hX => b_X2_isSatisfied o a u p0 p1 t hf (hI _ rfl))
theorem k_X2_isSatisfied_ {x : Cx} {cc : ByteArray} {nL : Nat} {own : String} {d mc ms k n : Nat} {lv : List (Nat × Value)} {pc i : Nat} {rest : List Value} {a : Nat → Nat} {u : St} {p0 : Int32} {p1 : Int32} (o : Ok x cc nL own d mc ms) {t : Int32} (ht : f_X2_isSatisfied u p0 p1 = some t) (hlk : Cond.methodLink own i yX2_isSatisfied ∈ Ug) (hd : 0 < d) (hr : (rest.map fun v => v.category).sum ≤ 8) (hk : k + 0 ≤ mc ∧ n + 0 ≤ ms) (dg : decode cc pc = .ok (.invokevirtual i, 3)) (kk : G x nL (k + 0) (n + 0) (wM a u (cxT x)) lv (pc + 3) (.int t :: rest)) : G x nL k n (wM a u (cxT x)) lv pc (.int p1 :: .int p0 :: .ref (a 0) :: rest) := gcI (wd2 := (wM a u (cxT x))) o (c_X2_isSatisfied (cxl x) o.2.2.2.2.2.2.2.2.2.1 a u p0 p1 t ht) (can_V (q0 := 0) o rfl rfl hd (Nat.le_of_ble_eq_true rfl) m_1206 m_56 m_1205 m_45 hlk yk_X2_isSatisfied rfl hr hk dg) sp_M (fun E h => by cases h) (fun r h => by cases h; exact kk)
def rt_X2_solves (x : Cx) (a : Nat → Nat) (u : St) (t : Int32) : Prop := RetI x cX2_solves .boolean 0 0 (wM a u (cxT x)) t
set_option maxRecDepth 20000 in
set_option maxHeartbeats 2000000 in
theorem b_X2_solves_L2 {x : Cx} (o : Ok x cX2_solves 4 RX2 1 0 0) {k n : Nat} (hk : k ≤ 0) (hn : n ≤ 0) (a : Nat → Nat) (u : St) (c1 : Int32) (c2 : Int32) (r : (Int32) ⊕ (Int32)) (hX : ∀ s : Int32, r = .inl s → G x 4 k n (wM a u (cxT x)) [] 32 []) (hR : ∀ t, r = .inr t → rt_X2_solves x a u t) : ∀ (m : Nat) (s : Int32), loopN (f_X2_solves_s2 u c1 c2) m s = some r → G x 4 k n (wM a u (cxT x)) [(0, .ref (a 0)), (1, .int c1), (2, .int c2), (3, .int s)] 2 [] := by
  refine loop_W _ (fun (s : Int32) => G x 4 k n (wM a u (cxT x)) [(0, .ref (a 0)), (1, .int c1), (2, .int c2), (3, .int s)] 2 []) r ?_
  intro s ww hf hw
  unfold f_X2_solves_s2 at hf
  refine g_iload_n o 3 rfl rfl dX2_solves_2 ?_
  refine g_aload_n o 0 rfl rfl dX2_solves_3 ?_
  refine M_get7 o m_926 dX2_solves_4 ?_
  refine g_ic_ge (tgt := 32) o rfl dX2_solves_7 hf (fun hc hf => ?_) (fun hc hf => ?_)
  · exact g_perm [] rfl (hX _ (lf_x hf hw))
  · refine g_iload_n o 3 rfl rfl dX2_solves_10 ?_
    refine g_iload_n o 2 rfl rfl dX2_solves_11 ?_
    refine g_ic_eq (tgt := 26) o rfl dX2_solves_12 hf (fun hc hf => ?_) (fun hc hf => ?_)
    · refine g_iinc o [(3, .int (s + 1)), (0, .ref (a 0)), (1, .int c1), (2, .int c2)] 3 rfl (inc_1 _) (Nat.le_of_ble_eq_true rfl) rfl dX2_solves_26 ?_
      refine g_goto (tgt := 2) o rfl dX2_solves_29 ?_
      have hp := lf_c hf hw
      exact g_perm [1, 2, 3, 0] rfl hp
    · refine g_aload_n o 0 rfl rfl dX2_solves_15 ?_
      refine g_iload_n o 3 rfl rfl dX2_solves_16 ?_
      refine g_iload_n o 1 rfl rfl dX2_solves_17 ?_
      obtain ⟨r2, hr2, hf⟩ := bd_some hf
      refine k_X2_isSatisfied_ o hr2 m_1203 (Nat.le_of_ble_eq_true rfl) (Nat.le_of_ble_eq_true rfl) ⟨hk, hn⟩ dX2_solves_18 ?_
      refine g_if_ne (tgt := 26) o rfl dX2_solves_21 hf (fun hc hf => ?_) (fun hc hf => ?_)
      · refine g_iinc o [(3, .int (s + 1)), (0, .ref (a 0)), (1, .int c1), (2, .int c2)] 3 rfl (inc_1 _) (Nat.le_of_ble_eq_true rfl) rfl dX2_solves_26 ?_
        refine g_goto (tgt := 2) o rfl dX2_solves_29 ?_
        have hp := lf_c hf hw
        exact g_perm [1, 2, 3, 0] rfl hp
      · refine g_iconst o ic_0 dX2_solves_24 ?_
        exact g_iret (hR _ (lf_x hf hw)) hk hn nb_0 dX2_solves_25
set_option maxRecDepth 20000 in
set_option maxHeartbeats 2000000 in
theorem b_X2_solves {x : Cx} (o : Ok x cX2_solves 4 RX2 1 0 0) (a : Nat → Nat) (u : St) (p0 : Int32) (p1 : Int32) (t : Int32) (hf : f_X2_solves u p0 p1 = some t) (hret : rt_X2_solves x a u t) : G x 4 0 0 (wM a u (cxT x)) [(0, .ref (a 0)), (1, .int p0), (2, .int p1)] 0 [] := by
  unfold f_X2_solves at hf
  refine g_iconst o ic_0 dX2_solves_0 ?_
  refine g_istore_n o [(3, .int 0), (0, .ref (a 0)), (1, .int p0), (2, .int p1)] (Nat.le_of_ble_eq_true rfl) rfl rfl dX2_solves_1 ?_
  obtain ⟨r6, hr6, hxr6, hrr6⟩ := bl_some hf
  refine g_perm [1, 2, 3, 0] rfl (b_X2_solves_L2 o (Nat.le_of_ble_eq_true rfl) (Nat.le_of_ble_eq_true rfl) a u p0 p1 r6 (fun s2 hs => ?_) (fun t5 ht => ?_) FU 0 hr6)
  · have hf := hxr6 s2 hs
    refine g_iconst o ic_1 dX2_solves_32 ?_
    cases Option.some.inj hf
    exact g_iret hret (Nat.le_of_ble_eq_true rfl) (Nat.le_of_ble_eq_true rfl) nb_1 dX2_solves_33
  · have hf := hrr6 t5 ht
    cases Option.some.inj hf
    exact hret
theorem c_X2_solves (l : Launch) (hst : l.stackTraces = false) (a : Nat → Nat) (u : St) (p0 : Int32) (p1 : Int32) (t : Int32) (hf : f_X2_solves u p0 p1 = some t) : CoI l yX2_solves (.code yX2_solves cX2_solves 4 (some .boolean)) 1 0 0 [.ref (a 0), .int p0, .int p1] (wM a u) (wM a u) (.inl t) := mkI hst (by decide +kernel) (Nat.le_of_ble_eq_true rfl) (fun x _ o hI hX => b_X2_solves o a u p0 p1 t hf (hI _ rfl))
theorem k_X2_solves_ {x : Cx} {cc : ByteArray} {nL : Nat} {own : String} {d mc ms k n : Nat} {lv : List (Nat × Value)} {pc i : Nat} {rest : List Value} {a : Nat → Nat} {u : St} {p0 : Int32} {p1 : Int32} (o : Ok x cc nL own d mc ms) {t : Int32} (ht : f_X2_solves u p0 p1 = some t) (hlk : Cond.methodLink own i yX2_solves ∈ Ug) (hd : 1 < d) (hr : (rest.map fun v => v.category).sum ≤ 8) (hk : k + 0 ≤ mc ∧ n + 0 ≤ ms) (dg : decode cc pc = .ok (.invokevirtual i, 3)) (kk : G x nL (k + 0) (n + 0) (wM a u (cxT x)) lv (pc + 3) (.int t :: rest)) : G x nL k n (wM a u (cxT x)) lv pc (.int p1 :: .int p0 :: .ref (a 0) :: rest) := gcI (wd2 := (wM a u (cxT x))) o (c_X2_solves (cxl x) o.2.2.2.2.2.2.2.2.2.1 a u p0 p1 t ht) (can_V (q0 := 0) o rfl rfl hd (Nat.le_of_ble_eq_true rfl) m_1202 m_56 m_1201 m_44 hlk yk_X2_solves rfl hr hk dg) sp_M (fun E h => by cases h) (fun r h => by cases h; exact kk)
def rt_X2_solutions (x : Cx) (a : Nat → Nat) (u : St) (t : Int32) : Prop := RetI x cX2_solutions .int 0 0 (wM a u (cxT x)) t
set_option maxRecDepth 20000 in
set_option maxHeartbeats 2000000 in
theorem b_X2_solutions_L4 {x : Cx} (o : Ok x cX2_solutions 3 RX2 2 0 0) {k n : Nat} (hk : k ≤ 0) (hn : n ≤ 0) (a : Nat → Nat) (u : St) (r : (Int32 × Int32) ⊕ (Int32)) (hX : ∀ s : Int32 × Int32, r = .inl s → G x 3 k n (wM a u (cxT x)) [(1, .int s.1)] 37 []) (hR : ∀ t, r = .inr t → rt_X2_solutions x a u t) : ∀ (m : Nat) (s : Int32 × Int32), loopN (f_X2_solutions_s4 u) m s = some r → G x 3 k n (wM a u (cxT x)) [(0, .ref (a 0)), (1, .int s.1), (2, .int s.2)] 4 [] := by
  refine loop_W _ (fun (s : Int32 × Int32) => G x 3 k n (wM a u (cxT x)) [(0, .ref (a 0)), (1, .int s.1), (2, .int s.2)] 4 []) r ?_
  intro s ww hf hw
  unfold f_X2_solutions_s4 at hf
  obtain ⟨s_0, s_1⟩ := s
  try dsimp -simprocs only at hf ⊢
  refine g_iload_n o 2 rfl rfl dX2_solutions_4 ?_
  refine g_iconst o ic_1 dX2_solutions_5 ?_
  refine g_aload_n o 0 rfl rfl dX2_solutions_6 ?_
  refine M_get6 o m_925 dX2_solutions_7 ?_
  refine g_ishl o dX2_solutions_10 ?_
  refine g_ic_ge (tgt := 37) o rfl dX2_solutions_11 hf (fun hc hf => ?_) (fun hc hf => ?_)
  · exact g_perm [1] rfl (hX _ (lf_x hf hw))
  · refine g_iload_n o 1 rfl rfl dX2_solutions_14 ?_
    refine g_aload_n o 0 rfl rfl dX2_solutions_15 ?_
    refine g_iload_n o 2 rfl rfl dX2_solutions_16 ?_
    refine g_iconst o ic_m1 dX2_solutions_17 ?_
    obtain ⟨r4, hr4, hf⟩ := bd_some hf
    refine k_X2_solves_ o hr4 m_1199 (Nat.le_of_ble_eq_true rfl) (Nat.le_of_ble_eq_true rfl) ⟨hk, hn⟩ dX2_solutions_18 ?_
    refine g_if_eq (tgt := 28) o rfl dX2_solutions_21 hf (fun hc hf => ?_) (fun hc hf => ?_)
    · refine g_iconst o ic_0 dX2_solutions_28 ?_
      refine g_iadd o dX2_solutions_29 ?_
      refine g_nmi hf (fun x5 hf => ?_)
      refine g_istore_n o [(1, .int x5), (0, .ref (a 0)), (2, .int s_1)] (Nat.le_of_ble_eq_true rfl) rfl rfl dX2_solutions_30 ?_
      refine g_iinc o [(2, .int (s_1 + 1)), (1, .int x5), (0, .ref (a 0))] 2 rfl (inc_1 _) (Nat.le_of_ble_eq_true rfl) rfl dX2_solutions_31 ?_
      refine g_goto (tgt := 4) o rfl dX2_solutions_34 ?_
      have hp := lf_c hf hw
      exact g_perm [2, 1, 0] rfl hp
    · refine g_iconst o ic_1 dX2_solutions_24 ?_
      refine g_goto (tgt := 29) o rfl dX2_solutions_25 ?_
      refine g_iadd o dX2_solutions_29 ?_
      refine g_nmi hf (fun x6 hf => ?_)
      refine g_istore_n o [(1, .int x6), (0, .ref (a 0)), (2, .int s_1)] (Nat.le_of_ble_eq_true rfl) rfl rfl dX2_solutions_30 ?_
      refine g_iinc o [(2, .int (s_1 + 1)), (1, .int x6), (0, .ref (a 0))] 2 rfl (inc_1 _) (Nat.le_of_ble_eq_true rfl) rfl dX2_solutions_31 ?_
      refine g_goto (tgt := 4) o rfl dX2_solutions_34 ?_
      have hp := lf_c hf hw
      exact g_perm [2, 1, 0] rfl hp
set_option maxRecDepth 20000 in
set_option maxHeartbeats 2000000 in
theorem b_X2_solutions {x : Cx} (o : Ok x cX2_solutions 3 RX2 2 0 0) (a : Nat → Nat) (u : St) (t : Int32) (hf : f_X2_solutions u = some t) (hret : rt_X2_solutions x a u t) : G x 3 0 0 (wM a u (cxT x)) [(0, .ref (a 0))] 0 [] := by
  unfold f_X2_solutions at hf
  refine g_iconst o ic_0 dX2_solutions_0 ?_
  refine g_istore_n o [(1, .int 0), (0, .ref (a 0))] (Nat.le_of_ble_eq_true rfl) rfl rfl dX2_solutions_1 ?_
  refine g_iconst o ic_0 dX2_solutions_2 ?_
  refine g_istore_n o [(2, .int 0), (1, .int 0), (0, .ref (a 0))] (Nat.le_of_ble_eq_true rfl) rfl rfl dX2_solutions_3 ?_
  obtain ⟨r10, hr10, hxr10, hrr10⟩ := bl_some hf
  refine g_perm [2, 1, 0] rfl (b_X2_solutions_L4 o (Nat.le_of_ble_eq_true rfl) (Nat.le_of_ble_eq_true rfl) a u r10 (fun s4 hs => ?_) (fun t9 ht => ?_) FU (0, 0) hr10)
  · have hf := hxr10 s4 hs
    obtain ⟨s4_0, s4_1⟩ := s4
    try dsimp -simprocs only at hf ⊢
    refine g_iload_n o 0 rfl rfl dX2_solutions_37 ?_
    cases Option.some.inj hf
    exact g_iret hret (Nat.le_of_ble_eq_true rfl) (Nat.le_of_ble_eq_true rfl) (vp_nar_int _) dX2_solutions_38
  · have hf := hrr10 t9 ht
    cases Option.some.inj hf
    exact hret
theorem c_X2_solutions (l : Launch) (hst : l.stackTraces = false) (a : Nat → Nat) (u : St) (t : Int32) (hf : f_X2_solutions u = some t) : CoI l yX2_solutions (.code yX2_solutions cX2_solutions 3 (some .int)) 2 0 0 [.ref (a 0)] (wM a u) (wM a u) (.inl t) := mkI hst (by decide +kernel) (Nat.le_of_ble_eq_true rfl) (fun x _ o hI hX => b_X2_solutions o a u t hf (hI _ rfl))
theorem k_X2_solutions_ {x : Cx} {cc : ByteArray} {nL : Nat} {own : String} {d mc ms k n : Nat} {lv : List (Nat × Value)} {pc i : Nat} {rest : List Value} {a : Nat → Nat} {u : St} (o : Ok x cc nL own d mc ms) {t : Int32} (ht : f_X2_solutions u = some t) (hlk : Cond.methodLink own i yX2_solutions ∈ Ug) (hd : 2 < d) (hr : (rest.map fun v => v.category).sum ≤ 8) (hk : k + 0 ≤ mc ∧ n + 0 ≤ ms) (dg : decode cc pc = .ok (.invokevirtual i, 3)) (kk : G x nL (k + 0) (n + 0) (wM a u (cxT x)) lv (pc + 3) (.int t :: rest)) : G x nL k n (wM a u (cxT x)) lv pc (.ref (a 0) :: rest) := gcI (wd2 := (wM a u (cxT x))) o (c_X2_solutions (cxl x) o.2.2.2.2.2.2.2.2.2.1 a u t ht) (can_V (q0 := 0) o rfl rfl hd (Nat.le_of_ble_eq_true rfl) m_1198 m_56 m_1197 m_43 hlk yk_X2_solutions rfl hr hk dg) sp_M (fun E h => by cases h) (fun r h => by cases h; exact kk)
def rt_X2_solutionCount (x : Cx) (a : Nat → Nat) (t : Int32 × St) : Prop := RetI x cX2_solutionCount .int 0 0 (wM a t.2 (cxT x)) t.1
set_option maxRecDepth 20000 in
set_option maxHeartbeats 2000000 in
theorem b_X2_solutionCount {x : Cx} (o : Ok x cX2_solutionCount 1 RX2 3 0 0) (a : Nat → Nat) (u : St) (t : Int32 × St) (hf : f_X2_solutionCount u = some t) (hret : rt_X2_solutionCount x a t) : G x 1 0 0 (wM a u (cxT x)) [(0, .ref (a 0))] 0 [] := by
  unfold f_X2_solutionCount at hf
  refine g_aload_n o 0 rfl rfl dX2_solutionCount_0 ?_
  refine g_iconst o ic_0 dX2_solutionCount_1 ?_
  refine M_put0 o m_919 dX2_solutionCount_2 ?_
  refine g_aload_n o 0 rfl rfl dX2_solutionCount_5 ?_
  obtain ⟨r2, hr2, hf⟩ := bd_some hf
  refine k_X2_solutions_ o hr2 m_1195 (Nat.le_of_ble_eq_true rfl) (Nat.le_of_ble_eq_true rfl) ⟨(Nat.le_of_ble_eq_true rfl), (Nat.le_of_ble_eq_true rfl)⟩ dX2_solutionCount_6 ?_
  cases Option.some.inj hf
  exact g_iret hret (Nat.le_of_ble_eq_true rfl) (Nat.le_of_ble_eq_true rfl) (vp_nar_int _) dX2_solutionCount_9
theorem c_X2_solutionCount (l : Launch) (hst : l.stackTraces = false) (a : Nat → Nat) (u : St) (t : Int32 × St) (hf : f_X2_solutionCount u = some t) : CoI l yX2_solutionCount (.code yX2_solutionCount cX2_solutionCount 1 (some .int)) 3 0 0 [.ref (a 0)] (wM a u) (wM a t.2) (.inl t.1) := mkI hst (by decide +kernel) (Nat.le_of_ble_eq_true rfl) (fun x _ o hI hX => b_X2_solutionCount o a u t hf (hI _ rfl))
def rt_X2_solution (x : Cx) (a : Nat → Nat) (t : Int32 × St) : Prop := RetI x cX2_solution .int 0 0 (wM a t.2 (cxT x)) t.1
set_option maxRecDepth 20000 in
set_option maxHeartbeats 2000000 in
theorem b_X2_solution_L9 {x : Cx} (o : Ok x cX2_solution 4 RX2 2 0 0) {k n : Nat} (hk : k ≤ 0) (hn : n ≤ 0) (a : Nat → Nat) (u : St) (r : (Int32 × Int32) ⊕ (Int32 × St)) (hX : ∀ s : Int32 × Int32, r = .inl s → G x 4 k n (wM a u (cxT x)) [(0, .ref (a 0))] 50 []) (hR : ∀ t, r = .inr t → rt_X2_solution x a t) : ∀ (m : Nat) (s : Int32 × Int32), loopN (f_X2_solution_s9 u) m s = some r → G x 4 k n (wM a u (cxT x)) [(0, .ref (a 0)), (2, .int s.1), (3, .int s.2)] 9 [] := by
  refine loop_W _ (fun (s : Int32 × Int32) => G x 4 k n (wM a u (cxT x)) [(0, .ref (a 0)), (2, .int s.1), (3, .int s.2)] 9 []) r ?_
  intro s ww hf hw
  unfold f_X2_solution_s9 at hf
  obtain ⟨s_0, s_1⟩ := s
  try dsimp -simprocs only at hf ⊢
  refine g_iload_n o 2 rfl rfl dX2_solution_9 ?_
  refine g_iconst o ic_1 dX2_solution_10 ?_
  refine g_aload_n o 0 rfl rfl dX2_solution_11 ?_
  refine M_get6 o m_925 dX2_solution_12 ?_
  refine g_ishl o dX2_solution_15 ?_
  refine g_ic_ge (tgt := 50) o rfl dX2_solution_16 hf (fun hc hf => ?_) (fun hc hf => ?_)
  · exact g_perm [0] rfl (hX _ (lf_x hf hw))
  · refine g_iload_n o 1 rfl rfl dX2_solution_19 ?_
    refine g_if_lt (tgt := 50) o rfl dX2_solution_20 hf (fun hc hf => ?_) (fun hc hf => ?_)
    · exact g_perm [0] rfl (hX _ (lf_x hf hw))
    · refine g_aload_n o 0 rfl rfl dX2_solution_23 ?_
      refine g_iload_n o 2 rfl rfl dX2_solution_24 ?_
      refine g_iconst o ic_m1 dX2_solution_25 ?_
      obtain ⟨r2, hr2, hf⟩ := bd_some hf
      refine k_X2_solves_ o hr2 m_1199 (Nat.le_of_ble_eq_true rfl) (Nat.le_of_ble_eq_true rfl) ⟨hk, hn⟩ dX2_solution_26 ?_
      refine g_if_ne (tgt := 35) o rfl dX2_solution_29 hf (fun hc hf => ?_) (fun hc hf => ?_)
      · refine g_iload_n o 1 rfl rfl dX2_solution_35 ?_
        refine g_if_ne (tgt := 41) o rfl dX2_solution_36 hf (fun hc hf => ?_) (fun hc hf => ?_)
        · refine g_iinc o [(2, .int (s_0 + (-1))), (0, .ref (a 0)), (3, .int s_1)] 1 rfl (inc_m1 _) (Nat.le_of_ble_eq_true rfl) rfl dX2_solution_41 ?_
          refine g_iinc o [(3, .int (s_1 + 1)), (2, .int (s_0 + (-1))), (0, .ref (a 0))] 2 rfl (inc_1 _) (Nat.le_of_ble_eq_true rfl) rfl dX2_solution_44 ?_
          refine g_goto (tgt := 9) o rfl dX2_solution_47 ?_
          have hp := lf_c hf hw
          exact g_perm [2, 1, 0] rfl hp
        · refine g_iload_n o 2 rfl rfl dX2_solution_39 ?_
          exact g_iret (hR _ (lf_x hf hw)) hk hn (vp_nar_int _) dX2_solution_40
      · refine g_goto (tgt := 44) o rfl dX2_solution_32 ?_
        refine g_iinc o [(3, .int (s_1 + 1)), (0, .ref (a 0)), (2, .int s_0)] 2 rfl (inc_1 _) (Nat.le_of_ble_eq_true rfl) rfl dX2_solution_44 ?_
        refine g_goto (tgt := 9) o rfl dX2_solution_47 ?_
        have hp := lf_c hf hw
        exact g_perm [1, 2, 0] rfl hp
set_option maxRecDepth 20000 in
set_option maxHeartbeats 2000000 in
theorem b_X2_solution {x : Cx} (o : Ok x cX2_solution 4 RX2 2 0 0) (a : Nat → Nat) (u : St) (p0 : Int32) (t : Int32 × St) (hf : f_X2_solution u p0 = some t) (hret : rt_X2_solution x a t) : G x 4 0 0 (wM a u (cxT x)) [(0, .ref (a 0)), (1, .int p0)] 0 [] := by
  unfold f_X2_solution at hf
  refine g_aload_n o 0 rfl rfl dX2_solution_0 ?_
  refine g_iconst o ic_0 dX2_solution_1 ?_
  refine M_put0 o m_919 dX2_solution_2 ?_
  refine g_iload_n o 1 rfl rfl dX2_solution_5 ?_
  refine g_istore_n o [(2, .int p0), (0, .ref (a 0)), (1, .int p0)] (Nat.le_of_ble_eq_true rfl) rfl rfl dX2_solution_6 ?_
  refine g_iconst o ic_0 dX2_solution_7 ?_
  refine g_istore_n o [(3, .int 0), (2, .int p0), (0, .ref (a 0)), (1, .int p0)] (Nat.le_of_ble_eq_true rfl) rfl rfl dX2_solution_8 ?_
  obtain ⟨r7, hr7, hxr7, hrr7⟩ := bl_some hf
  refine g_perm [2, 1, 0] rfl (b_X2_solution_L9 o (Nat.le_of_ble_eq_true rfl) (Nat.le_of_ble_eq_true rfl) a (us u 0 0) r7 (fun s9 hs => ?_) (fun t6 ht => ?_) FU (p0, 0) hr7)
  · have hf := hxr7 s9 hs
    obtain ⟨s9_0, s9_1⟩ := s9
    try dsimp -simprocs only at hf ⊢
    refine g_aload_n o 0 rfl rfl dX2_solution_50 ?_
    refine g_iconst o ic_1 dX2_solution_51 ?_
    obtain ⟨r8, hr8, hf⟩ := bd_some hf
    refine k_X2_fails_ o hr8 m_995 (Nat.le_of_ble_eq_true rfl) (Nat.le_of_ble_eq_true rfl) ⟨(Nat.le_of_ble_eq_true rfl), (Nat.le_of_ble_eq_true rfl)⟩ dX2_solution_52 ?_
    cases Option.some.inj hf
    exact g_iret hret (Nat.le_of_ble_eq_true rfl) (Nat.le_of_ble_eq_true rfl) (vp_nar_int _) dX2_solution_55
  · have hf := hrr7 t6 ht
    cases Option.some.inj hf
    exact hret
theorem c_X2_solution (l : Launch) (hst : l.stackTraces = false) (a : Nat → Nat) (u : St) (p0 : Int32) (t : Int32 × St) (hf : f_X2_solution u p0 = some t) : CoI l yX2_solution (.code yX2_solution cX2_solution 4 (some .int)) 2 0 0 [.ref (a 0), .int p0] (wM a u) (wM a t.2) (.inl t.1) := mkI hst (by decide +kernel) (Nat.le_of_ble_eq_true rfl) (fun x _ o hI hX => b_X2_solution o a u p0 t hf (hI _ rfl))
def rt_X2_doesImply (x : Cx) (a : Nat → Nat) (u : St) (t : Int32) : Prop := RetI x cX2_doesImply .boolean 0 0 (wM a u (cxT x)) t
set_option maxRecDepth 20000 in
set_option maxHeartbeats 2000000 in
theorem b_X2_doesImply_L3 {x : Cx} (o : Ok x cX2_doesImply 6 RX2 2 0 0) {k n : Nat} (hk : k ≤ 0) (hn : n ≤ 0) (a : Nat → Nat) (u : St) (c1 : Int32) (c2 : Int32) (c3 : Int32) (c4 : Int32) (r : (Int32) ⊕ (Int32)) (hX : ∀ s : Int32, r = .inl s → G x 6 k n (wM a u (cxT x)) [] 53 []) (hR : ∀ t, r = .inr t → rt_X2_doesImply x a u t) : ∀ (m : Nat) (s : Int32), loopN (f_X2_doesImply_s3 u c1 c2 c3 c4) m s = some r → G x 6 k n (wM a u (cxT x)) [(0, .ref (a 0)), (1, .int c1), (2, .int c2), (3, .int c3), (4, .int c4), (5, .int s)] 3 [] := by
  refine loop_W _ (fun (s : Int32) => G x 6 k n (wM a u (cxT x)) [(0, .ref (a 0)), (1, .int c1), (2, .int c2), (3, .int c3), (4, .int c4), (5, .int s)] 3 []) r ?_
  intro s ww hf hw
  unfold f_X2_doesImply_s3 at hf
  refine g_iload o 5 rfl dX2_doesImply_3 ?_
  refine g_iconst o ic_1 dX2_doesImply_5 ?_
  refine g_aload_n o 0 rfl rfl dX2_doesImply_6 ?_
  refine M_get6 o m_925 dX2_doesImply_7 ?_
  refine g_ishl o dX2_doesImply_10 ?_
  refine g_ic_ge (tgt := 53) o rfl dX2_doesImply_11 hf (fun hc hf => ?_) (fun hc hf => ?_)
  · exact g_perm [] rfl (hX _ (lf_x hf hw))
  · refine g_iload o 5 rfl dX2_doesImply_14 ?_
    refine g_iload_n o 1 rfl rfl dX2_doesImply_16 ?_
    refine g_ishr o dX2_doesImply_17 ?_
    refine g_iconst o ic_1 dX2_doesImply_18 ?_
    refine g_iand o dX2_doesImply_19 ?_
    refine g_iload_n o 2 rfl rfl dX2_doesImply_20 ?_
    refine g_ic_ne (tgt := 47) o rfl dX2_doesImply_21 hf (fun hc hf => ?_) (fun hc hf => ?_)
    · refine g_iinc o [(5, .int (s + 1)), (0, .ref (a 0)), (1, .int c1), (2, .int c2), (3, .int c3), (4, .int c4)] 5 rfl (inc_1 _) (Nat.le_of_ble_eq_true rfl) rfl dX2_doesImply_47 ?_
      refine g_goto (tgt := 3) o rfl dX2_doesImply_50 ?_
      have hp := lf_c hf hw
      exact g_perm [1, 2, 3, 4, 5, 0] rfl hp
    · refine g_iload o 5 rfl dX2_doesImply_24 ?_
      refine g_iload_n o 3 rfl rfl dX2_doesImply_26 ?_
      refine g_ishr o dX2_doesImply_27 ?_
      refine g_iconst o ic_1 dX2_doesImply_28 ?_
      refine g_iand o dX2_doesImply_29 ?_
      refine g_iload o 4 rfl dX2_doesImply_30 ?_
      refine g_ic_eq (tgt := 47) o rfl dX2_doesImply_32 hf (fun hc hf => ?_) (fun hc hf => ?_)
      · refine g_iinc o [(5, .int (s + 1)), (0, .ref (a 0)), (1, .int c1), (2, .int c2), (3, .int c3), (4, .int c4)] 5 rfl (inc_1 _) (Nat.le_of_ble_eq_true rfl) rfl dX2_doesImply_47 ?_
        refine g_goto (tgt := 3) o rfl dX2_doesImply_50 ?_
        have hp := lf_c hf hw
        exact g_perm [1, 2, 3, 4, 5, 0] rfl hp
      · refine g_aload_n o 0 rfl rfl dX2_doesImply_35 ?_
        refine g_iload o 5 rfl dX2_doesImply_36 ?_
        refine g_iconst o ic_m1 dX2_doesImply_38 ?_
        obtain ⟨r2, hr2, hf⟩ := bd_some hf
        refine k_X2_solves_ o hr2 m_1199 (Nat.le_of_ble_eq_true rfl) (Nat.le_of_ble_eq_true rfl) ⟨hk, hn⟩ dX2_doesImply_39 ?_
        refine g_if_eq (tgt := 47) o rfl dX2_doesImply_42 hf (fun hc hf => ?_) (fun hc hf => ?_)
        · refine g_iinc o [(5, .int (s + 1)), (0, .ref (a 0)), (1, .int c1), (2, .int c2), (3, .int c3), (4, .int c4)] 5 rfl (inc_1 _) (Nat.le_of_ble_eq_true rfl) rfl dX2_doesImply_47 ?_
          refine g_goto (tgt := 3) o rfl dX2_doesImply_50 ?_
          have hp := lf_c hf hw
          exact g_perm [1, 2, 3, 4, 5, 0] rfl hp
        · refine g_iconst o ic_0 dX2_doesImply_45 ?_
          exact g_iret (hR _ (lf_x hf hw)) hk hn nb_0 dX2_doesImply_46
set_option maxRecDepth 20000 in
set_option maxHeartbeats 2000000 in
theorem b_X2_doesImply {x : Cx} (o : Ok x cX2_doesImply 6 RX2 2 0 0) (a : Nat → Nat) (u : St) (p0 : Int32) (p1 : Int32) (p2 : Int32) (p3 : Int32) (t : Int32) (hf : f_X2_doesImply u p0 p1 p2 p3 = some t) (hret : rt_X2_doesImply x a u t) : G x 6 0 0 (wM a u (cxT x)) [(0, .ref (a 0)), (1, .int p0), (2, .int p1), (3, .int p2), (4, .int p3)] 0 [] := by
  unfold f_X2_doesImply at hf
  refine g_iconst o ic_0 dX2_doesImply_0 ?_
  refine g_istore o [(5, .int 0), (0, .ref (a 0)), (1, .int p0), (2, .int p1), (3, .int p2), (4, .int p3)] (Nat.le_of_ble_eq_true rfl) rfl dX2_doesImply_1 ?_
  obtain ⟨r6, hr6, hxr6, hrr6⟩ := bl_some hf
  refine g_perm [1, 2, 3, 4, 5, 0] rfl (b_X2_doesImply_L3 o (Nat.le_of_ble_eq_true rfl) (Nat.le_of_ble_eq_true rfl) a u p0 p1 p2 p3 r6 (fun s3 hs => ?_) (fun t5 ht => ?_) FU 0 hr6)
  · have hf := hxr6 s3 hs
    refine g_iconst o ic_1 dX2_doesImply_53 ?_
    cases Option.some.inj hf
    exact g_iret hret (Nat.le_of_ble_eq_true rfl) (Nat.le_of_ble_eq_true rfl) nb_1 dX2_doesImply_54
  · have hf := hrr6 t5 ht
    cases Option.some.inj hf
    exact hret
theorem c_X2_doesImply (l : Launch) (hst : l.stackTraces = false) (a : Nat → Nat) (u : St) (p0 : Int32) (p1 : Int32) (p2 : Int32) (p3 : Int32) (t : Int32) (hf : f_X2_doesImply u p0 p1 p2 p3 = some t) : CoI l yX2_doesImply (.code yX2_doesImply cX2_doesImply 6 (some .boolean)) 2 0 0 [.ref (a 0), .int p0, .int p1, .int p2, .int p3] (wM a u) (wM a u) (.inl t) := mkI hst (by decide +kernel) (Nat.le_of_ble_eq_true rfl) (fun x _ o hI hX => b_X2_doesImply o a u p0 p1 p2 p3 t hf (hI _ rfl))
theorem k_X2_doesImply_ {x : Cx} {cc : ByteArray} {nL : Nat} {own : String} {d mc ms k n : Nat} {lv : List (Nat × Value)} {pc i : Nat} {rest : List Value} {a : Nat → Nat} {u : St} {p0 : Int32} {p1 : Int32} {p2 : Int32} {p3 : Int32} (o : Ok x cc nL own d mc ms) {t : Int32} (ht : f_X2_doesImply u p0 p1 p2 p3 = some t) (hlk : Cond.methodLink own i yX2_doesImply ∈ Ug) (hd : 2 < d) (hr : (rest.map fun v => v.category).sum ≤ 8) (hk : k + 0 ≤ mc ∧ n + 0 ≤ ms) (dg : decode cc pc = .ok (.invokevirtual i, 3)) (kk : G x nL (k + 0) (n + 0) (wM a u (cxT x)) lv (pc + 3) (.int t :: rest)) : G x nL k n (wM a u (cxT x)) lv pc (.int p3 :: .int p2 :: .int p1 :: .int p0 :: .ref (a 0) :: rest) := gcI (wd2 := (wM a u (cxT x))) o (c_X2_doesImply (cxl x) o.2.2.2.2.2.2.2.2.2.1 a u p0 p1 p2 p3 t ht) (can_V (q0 := 0) o rfl rfl hd (Nat.le_of_ble_eq_true rfl) m_1218 m_56 m_1217 m_46 hlk yk_X2_doesImply rfl hr hk dg) sp_M (fun E h => by cases h) (fun r h => by cases h; exact kk)
def rt_X2_isForced (x : Cx) (a : Nat → Nat) (t : Int32 × St) : Prop := RetI x cX2_isForced .boolean 0 0 (wM a t.2 (cxT x)) t.1
set_option maxRecDepth 20000 in
set_option maxHeartbeats 2000000 in
theorem b_X2_isForced {x : Cx} (o : Ok x cX2_isForced 3 RX2 3 0 0) (a : Nat → Nat) (u : St) (p0 : Int32) (p1 : Int32) (t : Int32 × St) (hf : f_X2_isForced u p0 p1 = some t) (hret : rt_X2_isForced x a t) : G x 3 0 0 (wM a u (cxT x)) [(0, .ref (a 0)), (1, .int p0), (2, .int p1)] 0 [] := by
  unfold f_X2_isForced at hf
  refine g_aload_n o 0 rfl rfl dX2_isForced_0 ?_
  refine g_iload_n o 1 rfl rfl dX2_isForced_1 ?_
  obtain ⟨r6, hr6, hf⟩ := bd_some hf
  refine k_X2_isVariable_ o hr6 m_1183 (Nat.le_of_ble_eq_true rfl) (Nat.le_of_ble_eq_true rfl) ⟨(Nat.le_of_ble_eq_true rfl), (Nat.le_of_ble_eq_true rfl)⟩ dX2_isForced_2 ?_
  refine g_if_ne (tgt := 14) o rfl dX2_isForced_5 hf (fun hc hf => ?_) (fun hc hf => ?_)
  · refine g_iload_n o 2 rfl rfl dX2_isForced_14 ?_
    obtain ⟨r7, hr7, hf⟩ := bd_some hf
    refine k_X2_isBit_ o hr7 m_1017 (Nat.le_of_ble_eq_true rfl) (Nat.le_of_ble_eq_true rfl) ⟨(Nat.le_of_ble_eq_true rfl), (Nat.le_of_ble_eq_true rfl)⟩ dX2_isForced_15 ?_
    refine g_if_ne (tgt := 27) o rfl dX2_isForced_18 hf (fun hc hf => ?_) (fun hc hf => ?_)
    · refine g_aload_n o 0 rfl rfl dX2_isForced_27 ?_
      refine g_iconst o ic_0 dX2_isForced_28 ?_
      refine M_put0 o m_919 dX2_isForced_29 ?_
      refine g_aload_n o 0 rfl rfl dX2_isForced_32 ?_
      refine g_iload_n o 1 rfl rfl dX2_isForced_33 ?_
      refine g_iconst o ic_1 dX2_isForced_34 ?_
      refine g_iload_n o 2 rfl rfl dX2_isForced_35 ?_
      refine g_isub o dX2_isForced_36 ?_
      refine g_iload_n o 1 rfl rfl dX2_isForced_37 ?_
      refine g_iload_n o 2 rfl rfl dX2_isForced_38 ?_
      obtain ⟨r8, hr8, hf⟩ := bd_some hf
      refine k_X2_doesImply_ o hr8 m_1215 (Nat.le_of_ble_eq_true rfl) (Nat.le_of_ble_eq_true rfl) ⟨(Nat.le_of_ble_eq_true rfl), (Nat.le_of_ble_eq_true rfl)⟩ dX2_isForced_39 ?_
      obtain ⟨hb, hf⟩ := gd_some hf
      cases Option.some.inj hf
      exact g_iret hret (Nat.le_of_ble_eq_true rfl) (Nat.le_of_ble_eq_true rfl) (okB_n hb) dX2_isForced_42
    · refine g_aload_n o 0 rfl rfl dX2_isForced_21 ?_
      refine g_iconst o ic_2 dX2_isForced_22 ?_
      obtain ⟨r9, hr9, hf⟩ := bd_some hf
      refine k_X2_refuses_ o hr9 m_1093 (Nat.le_of_ble_eq_true rfl) (Nat.le_of_ble_eq_true rfl) ⟨(Nat.le_of_ble_eq_true rfl), (Nat.le_of_ble_eq_true rfl)⟩ dX2_isForced_23 ?_
      obtain ⟨hb, hf⟩ := gd_some hf
      cases Option.some.inj hf
      exact g_iret hret (Nat.le_of_ble_eq_true rfl) (Nat.le_of_ble_eq_true rfl) (okB_n hb) dX2_isForced_26
  · refine g_aload_n o 0 rfl rfl dX2_isForced_8 ?_
    refine g_iconst o ic_1 dX2_isForced_9 ?_
    obtain ⟨r10, hr10, hf⟩ := bd_some hf
    refine k_X2_refuses_ o hr10 m_1093 (Nat.le_of_ble_eq_true rfl) (Nat.le_of_ble_eq_true rfl) ⟨(Nat.le_of_ble_eq_true rfl), (Nat.le_of_ble_eq_true rfl)⟩ dX2_isForced_10 ?_
    obtain ⟨hb, hf⟩ := gd_some hf
    cases Option.some.inj hf
    exact g_iret hret (Nat.le_of_ble_eq_true rfl) (Nat.le_of_ble_eq_true rfl) (okB_n hb) dX2_isForced_13
theorem c_X2_isForced (l : Launch) (hst : l.stackTraces = false) (a : Nat → Nat) (u : St) (p0 : Int32) (p1 : Int32) (t : Int32 × St) (hf : f_X2_isForced u p0 p1 = some t) : CoI l yX2_isForced (.code yX2_isForced cX2_isForced 3 (some .boolean)) 3 0 0 [.ref (a 0), .int p0, .int p1] (wM a u) (wM a t.2) (.inl t.1) := mkI hst (by decide +kernel) (Nat.le_of_ble_eq_true rfl) (fun x _ o hI hX => b_X2_isForced o a u p0 p1 t hf (hI _ rfl))
def rt_X2_leastSolution (x : Cx) (a : Nat → Nat) (t : Int32 × St) : Prop := RetI x cX2_leastSolution .int 0 0 (wM a t.2 (cxT x)) t.1
set_option maxRecDepth 20000 in
set_option maxHeartbeats 2000000 in
theorem b_X2_leastSolution_L43 {x : Cx} (o : Ok x cX2_leastSolution 3 RX2 5 0 0) {k n : Nat} (hk : k ≤ 0) (hn : n ≤ 0) (a : Nat → Nat) (u : St) (r : (Int32 × Int32) ⊕ (Int32 × St)) (hX : ∀ s : Int32 × Int32, r = .inl s → G x 3 k n (wM a u (cxT x)) [(1, .int s.1)] 76 []) (hR : ∀ t, r = .inr t → rt_X2_leastSolution x a t) : ∀ (m : Nat) (s : Int32 × Int32), loopN (f_X2_leastSolution_s43 u) m s = some r → G x 3 k n (wM a u (cxT x)) [(0, .ref (a 0)), (1, .int s.1), (2, .int s.2)] 43 [] := by
  refine loop_W _ (fun (s : Int32 × Int32) => G x 3 k n (wM a u (cxT x)) [(0, .ref (a 0)), (1, .int s.1), (2, .int s.2)] 43 []) r ?_
  intro s ww hf hw
  unfold f_X2_leastSolution_s43 at hf
  obtain ⟨s_0, s_1⟩ := s
  try dsimp -simprocs only at hf ⊢
  refine g_iload_n o 2 rfl rfl dX2_leastSolution_43 ?_
  refine g_iconst o ic_1 dX2_leastSolution_44 ?_
  refine g_aload_n o 0 rfl rfl dX2_leastSolution_45 ?_
  refine M_get6 o m_925 dX2_leastSolution_46 ?_
  refine g_ishl o dX2_leastSolution_49 ?_
  refine g_ic_ge (tgt := 76) o rfl dX2_leastSolution_50 hf (fun hc hf => ?_) (fun hc hf => ?_)
  · exact g_perm [1] rfl (hX _ (lf_x hf hw))
  · refine g_iload_n o 1 rfl rfl dX2_leastSolution_53 ?_
    refine g_aload_n o 0 rfl rfl dX2_leastSolution_54 ?_
    refine g_iload_n o 2 rfl rfl dX2_leastSolution_55 ?_
    refine g_iconst o ic_m1 dX2_leastSolution_56 ?_
    obtain ⟨r7, hr7, hf⟩ := bd_some hf
    refine k_X2_solves_ o hr7 m_1199 (Nat.le_of_ble_eq_true rfl) (Nat.le_of_ble_eq_true rfl) ⟨hk, hn⟩ dX2_leastSolution_57 ?_
    refine g_if_eq (tgt := 67) o rfl dX2_leastSolution_60 hf (fun hc hf => ?_) (fun hc hf => ?_)
    · refine g_iconst o ic_m1 dX2_leastSolution_67 ?_
      refine g_iand o dX2_leastSolution_68 ?_
      refine g_nmi hf (fun x8 hf => ?_)
      refine g_istore_n o [(1, .int x8), (0, .ref (a 0)), (2, .int s_1)] (Nat.le_of_ble_eq_true rfl) rfl rfl dX2_leastSolution_69 ?_
      refine g_iinc o [(2, .int (s_1 + 1)), (1, .int x8), (0, .ref (a 0))] 2 rfl (inc_1 _) (Nat.le_of_ble_eq_true rfl) rfl dX2_leastSolution_70 ?_
      refine g_goto (tgt := 43) o rfl dX2_leastSolution_73 ?_
      have hp := lf_c hf hw
      exact g_perm [2, 1, 0] rfl hp
    · refine g_iload_n o 2 rfl rfl dX2_leastSolution_63 ?_
      refine g_goto (tgt := 68) o rfl dX2_leastSolution_64 ?_
      refine g_iand o dX2_leastSolution_68 ?_
      refine g_nmi hf (fun x9 hf => ?_)
      refine g_istore_n o [(1, .int x9), (0, .ref (a 0)), (2, .int s_1)] (Nat.le_of_ble_eq_true rfl) rfl rfl dX2_leastSolution_69 ?_
      refine g_iinc o [(2, .int (s_1 + 1)), (1, .int x9), (0, .ref (a 0))] 2 rfl (inc_1 _) (Nat.le_of_ble_eq_true rfl) rfl dX2_leastSolution_70 ?_
      refine g_goto (tgt := 43) o rfl dX2_leastSolution_73 ?_
      have hp := lf_c hf hw
      exact g_perm [2, 1, 0] rfl hp
set_option maxRecDepth 20000 in
set_option maxHeartbeats 2000000 in
theorem b_X2_leastSolution {x : Cx} (o : Ok x cX2_leastSolution 3 RX2 5 0 0) (a : Nat → Nat) (u : St) (t : Int32 × St) (hf : f_X2_leastSolution u = some t) (hret : rt_X2_leastSolution x a t) : G x 3 0 0 (wM a u (cxT x)) [(0, .ref (a 0))] 0 [] := by
  unfold f_X2_leastSolution at hf
  refine g_aload_n o 0 rfl rfl dX2_leastSolution_0 ?_
  refine g_iconst o ic_2 dX2_leastSolution_1 ?_
  obtain ⟨r14, hr14, hf⟩ := bd_some hf
  refine k_X2_has_ o hr14 m_1163 (Nat.le_of_ble_eq_true rfl) (Nat.le_of_ble_eq_true rfl) ⟨(Nat.le_of_ble_eq_true rfl), (Nat.le_of_ble_eq_true rfl)⟩ dX2_leastSolution_2 ?_
  refine g_if_ne (tgt := 14) o rfl dX2_leastSolution_5 hf (fun hc hf => ?_) (fun hc hf => ?_)
  · refine g_aload_n o 0 rfl rfl dX2_leastSolution_14 ?_
    obtain ⟨r15, hr15, hf⟩ := bd_some hf
    refine k_X2_solutions_ o hr15 m_1195 (Nat.le_of_ble_eq_true rfl) (Nat.le_of_ble_eq_true rfl) ⟨(Nat.le_of_ble_eq_true rfl), (Nat.le_of_ble_eq_true rfl)⟩ dX2_leastSolution_15 ?_
    refine g_if_ne (tgt := 27) o rfl dX2_leastSolution_18 hf (fun hc hf => ?_) (fun hc hf => ?_)
    · refine g_aload_n o 0 rfl rfl dX2_leastSolution_27 ?_
      refine g_iconst o ic_0 dX2_leastSolution_28 ?_
      refine M_put0 o m_919 dX2_leastSolution_29 ?_
      refine g_iconst o ic_1 dX2_leastSolution_32 ?_
      refine g_aload_n o 0 rfl rfl dX2_leastSolution_33 ?_
      refine M_get6 o m_925 dX2_leastSolution_34 ?_
      refine g_ishl o dX2_leastSolution_37 ?_
      refine g_iconst o ic_1 dX2_leastSolution_38 ?_
      refine g_isub o dX2_leastSolution_39 ?_
      refine g_nmi hf (fun x16 hf => ?_)
      refine g_istore_n o [(1, .int x16), (0, .ref (a 0))] (Nat.le_of_ble_eq_true rfl) rfl rfl dX2_leastSolution_40 ?_
      refine g_iconst o ic_0 dX2_leastSolution_41 ?_
      refine g_istore_n o [(2, .int 0), (1, .int x16), (0, .ref (a 0))] (Nat.le_of_ble_eq_true rfl) rfl rfl dX2_leastSolution_42 ?_
      obtain ⟨r18, hr18, hxr18, hrr18⟩ := bl_some hf
      refine g_perm [2, 1, 0] rfl (b_X2_leastSolution_L43 o (Nat.le_of_ble_eq_true rfl) (Nat.le_of_ble_eq_true rfl) a (us u 0 0) r18 (fun s43 hs => ?_) (fun t17 ht => ?_) FU (x16, 0) hr18)
      · have hf := hxr18 s43 hs
        obtain ⟨s43_0, s43_1⟩ := s43
        try dsimp -simprocs only at hf ⊢
        refine g_iload_n o 0 rfl rfl dX2_leastSolution_76 ?_
        cases Option.some.inj hf
        exact g_iret hret (Nat.le_of_ble_eq_true rfl) (Nat.le_of_ble_eq_true rfl) (vp_nar_int _) dX2_leastSolution_77
      · have hf := hrr18 t17 ht
        cases Option.some.inj hf
        exact hret
    · refine g_aload_n o 0 rfl rfl dX2_leastSolution_21 ?_
      refine g_iconst o ic_2 dX2_leastSolution_22 ?_
      obtain ⟨r19, hr19, hf⟩ := bd_some hf
      refine k_X2_fails_ o hr19 m_995 (Nat.le_of_ble_eq_true rfl) (Nat.le_of_ble_eq_true rfl) ⟨(Nat.le_of_ble_eq_true rfl), (Nat.le_of_ble_eq_true rfl)⟩ dX2_leastSolution_23 ?_
      cases Option.some.inj hf
      exact g_iret hret (Nat.le_of_ble_eq_true rfl) (Nat.le_of_ble_eq_true rfl) (vp_nar_int _) dX2_leastSolution_26
  · refine g_aload_n o 0 rfl rfl dX2_leastSolution_8 ?_
    refine g_iconst o ic_1 dX2_leastSolution_9 ?_
    obtain ⟨r20, hr20, hf⟩ := bd_some hf
    refine k_X2_fails_ o hr20 m_995 (Nat.le_of_ble_eq_true rfl) (Nat.le_of_ble_eq_true rfl) ⟨(Nat.le_of_ble_eq_true rfl), (Nat.le_of_ble_eq_true rfl)⟩ dX2_leastSolution_10 ?_
    cases Option.some.inj hf
    exact g_iret hret (Nat.le_of_ble_eq_true rfl) (Nat.le_of_ble_eq_true rfl) (vp_nar_int _) dX2_leastSolution_13
theorem c_X2_leastSolution (l : Launch) (hst : l.stackTraces = false) (a : Nat → Nat) (u : St) (t : Int32 × St) (hf : f_X2_leastSolution u = some t) : CoI l yX2_leastSolution (.code yX2_leastSolution cX2_leastSolution 3 (some .int)) 5 0 0 [.ref (a 0)] (wM a u) (wM a t.2) (.inl t.1) := mkI hst (by decide +kernel) (Nat.le_of_ble_eq_true rfl) (fun x _ o hI hX => b_X2_leastSolution o a u t hf (hI _ rfl))
def rt_X2_greatestSolution (x : Cx) (a : Nat → Nat) (t : Int32 × St) : Prop := RetI x cX2_greatestSolution .int 0 0 (wM a t.2 (cxT x)) t.1
set_option maxRecDepth 20000 in
set_option maxHeartbeats 2000000 in
theorem b_X2_greatestSolution_L36 {x : Cx} (o : Ok x cX2_greatestSolution 3 RX2 5 0 0) {k n : Nat} (hk : k ≤ 0) (hn : n ≤ 0) (a : Nat → Nat) (u : St) (r : (Int32 × Int32) ⊕ (Int32 × St)) (hX : ∀ s : Int32 × Int32, r = .inl s → G x 3 k n (wM a u (cxT x)) [(1, .int s.1)] 69 []) (hR : ∀ t, r = .inr t → rt_X2_greatestSolution x a t) : ∀ (m : Nat) (s : Int32 × Int32), loopN (f_X2_greatestSolution_s36 u) m s = some r → G x 3 k n (wM a u (cxT x)) [(0, .ref (a 0)), (1, .int s.1), (2, .int s.2)] 36 [] := by
  refine loop_W _ (fun (s : Int32 × Int32) => G x 3 k n (wM a u (cxT x)) [(0, .ref (a 0)), (1, .int s.1), (2, .int s.2)] 36 []) r ?_
  intro s ww hf hw
  unfold f_X2_greatestSolution_s36 at hf
  obtain ⟨s_0, s_1⟩ := s
  try dsimp -simprocs only at hf ⊢
  refine g_iload_n o 2 rfl rfl dX2_greatestSolution_36 ?_
  refine g_iconst o ic_1 dX2_greatestSolution_37 ?_
  refine g_aload_n o 0 rfl rfl dX2_greatestSolution_38 ?_
  refine M_get6 o m_925 dX2_greatestSolution_39 ?_
  refine g_ishl o dX2_greatestSolution_42 ?_
  refine g_ic_ge (tgt := 69) o rfl dX2_greatestSolution_43 hf (fun hc hf => ?_) (fun hc hf => ?_)
  · exact g_perm [1] rfl (hX _ (lf_x hf hw))
  · refine g_iload_n o 1 rfl rfl dX2_greatestSolution_46 ?_
    refine g_aload_n o 0 rfl rfl dX2_greatestSolution_47 ?_
    refine g_iload_n o 2 rfl rfl dX2_greatestSolution_48 ?_
    refine g_iconst o ic_m1 dX2_greatestSolution_49 ?_
    obtain ⟨r6, hr6, hf⟩ := bd_some hf
    refine k_X2_solves_ o hr6 m_1199 (Nat.le_of_ble_eq_true rfl) (Nat.le_of_ble_eq_true rfl) ⟨hk, hn⟩ dX2_greatestSolution_50 ?_
    refine g_if_eq (tgt := 60) o rfl dX2_greatestSolution_53 hf (fun hc hf => ?_) (fun hc hf => ?_)
    · refine g_iconst o ic_0 dX2_greatestSolution_60 ?_
      refine g_ior o dX2_greatestSolution_61 ?_
      refine g_nmi hf (fun x7 hf => ?_)
      refine g_istore_n o [(1, .int x7), (0, .ref (a 0)), (2, .int s_1)] (Nat.le_of_ble_eq_true rfl) rfl rfl dX2_greatestSolution_62 ?_
      refine g_iinc o [(2, .int (s_1 + 1)), (1, .int x7), (0, .ref (a 0))] 2 rfl (inc_1 _) (Nat.le_of_ble_eq_true rfl) rfl dX2_greatestSolution_63 ?_
      refine g_goto (tgt := 36) o rfl dX2_greatestSolution_66 ?_
      have hp := lf_c hf hw
      exact g_perm [2, 1, 0] rfl hp
    · refine g_iload_n o 2 rfl rfl dX2_greatestSolution_56 ?_
      refine g_goto (tgt := 61) o rfl dX2_greatestSolution_57 ?_
      refine g_ior o dX2_greatestSolution_61 ?_
      refine g_nmi hf (fun x8 hf => ?_)
      refine g_istore_n o [(1, .int x8), (0, .ref (a 0)), (2, .int s_1)] (Nat.le_of_ble_eq_true rfl) rfl rfl dX2_greatestSolution_62 ?_
      refine g_iinc o [(2, .int (s_1 + 1)), (1, .int x8), (0, .ref (a 0))] 2 rfl (inc_1 _) (Nat.le_of_ble_eq_true rfl) rfl dX2_greatestSolution_63 ?_
      refine g_goto (tgt := 36) o rfl dX2_greatestSolution_66 ?_
      have hp := lf_c hf hw
      exact g_perm [2, 1, 0] rfl hp
set_option maxRecDepth 20000 in
set_option maxHeartbeats 2000000 in
theorem b_X2_greatestSolution {x : Cx} (o : Ok x cX2_greatestSolution 3 RX2 5 0 0) (a : Nat → Nat) (u : St) (t : Int32 × St) (hf : f_X2_greatestSolution u = some t) (hret : rt_X2_greatestSolution x a t) : G x 3 0 0 (wM a u (cxT x)) [(0, .ref (a 0))] 0 [] := by
  unfold f_X2_greatestSolution at hf
  refine g_aload_n o 0 rfl rfl dX2_greatestSolution_0 ?_
  refine g_iconst o ic_3 dX2_greatestSolution_1 ?_
  obtain ⟨r13, hr13, hf⟩ := bd_some hf
  refine k_X2_has_ o hr13 m_1163 (Nat.le_of_ble_eq_true rfl) (Nat.le_of_ble_eq_true rfl) ⟨(Nat.le_of_ble_eq_true rfl), (Nat.le_of_ble_eq_true rfl)⟩ dX2_greatestSolution_2 ?_
  refine g_if_ne (tgt := 14) o rfl dX2_greatestSolution_5 hf (fun hc hf => ?_) (fun hc hf => ?_)
  · refine g_aload_n o 0 rfl rfl dX2_greatestSolution_14 ?_
    obtain ⟨r14, hr14, hf⟩ := bd_some hf
    refine k_X2_solutions_ o hr14 m_1195 (Nat.le_of_ble_eq_true rfl) (Nat.le_of_ble_eq_true rfl) ⟨(Nat.le_of_ble_eq_true rfl), (Nat.le_of_ble_eq_true rfl)⟩ dX2_greatestSolution_15 ?_
    refine g_if_ne (tgt := 27) o rfl dX2_greatestSolution_18 hf (fun hc hf => ?_) (fun hc hf => ?_)
    · refine g_aload_n o 0 rfl rfl dX2_greatestSolution_27 ?_
      refine g_iconst o ic_0 dX2_greatestSolution_28 ?_
      refine M_put0 o m_919 dX2_greatestSolution_29 ?_
      refine g_iconst o ic_0 dX2_greatestSolution_32 ?_
      refine g_istore_n o [(1, .int 0), (0, .ref (a 0))] (Nat.le_of_ble_eq_true rfl) rfl rfl dX2_greatestSolution_33 ?_
      refine g_iconst o ic_0 dX2_greatestSolution_34 ?_
      refine g_istore_n o [(2, .int 0), (1, .int 0), (0, .ref (a 0))] (Nat.le_of_ble_eq_true rfl) rfl rfl dX2_greatestSolution_35 ?_
      obtain ⟨r16, hr16, hxr16, hrr16⟩ := bl_some hf
      refine g_perm [2, 1, 0] rfl (b_X2_greatestSolution_L36 o (Nat.le_of_ble_eq_true rfl) (Nat.le_of_ble_eq_true rfl) a (us u 0 0) r16 (fun s36 hs => ?_) (fun t15 ht => ?_) FU (0, 0) hr16)
      · have hf := hxr16 s36 hs
        obtain ⟨s36_0, s36_1⟩ := s36
        try dsimp -simprocs only at hf ⊢
        refine g_iload_n o 0 rfl rfl dX2_greatestSolution_69 ?_
        cases Option.some.inj hf
        exact g_iret hret (Nat.le_of_ble_eq_true rfl) (Nat.le_of_ble_eq_true rfl) (vp_nar_int _) dX2_greatestSolution_70
      · have hf := hrr16 t15 ht
        cases Option.some.inj hf
        exact hret
    · refine g_aload_n o 0 rfl rfl dX2_greatestSolution_21 ?_
      refine g_iconst o ic_2 dX2_greatestSolution_22 ?_
      obtain ⟨r17, hr17, hf⟩ := bd_some hf
      refine k_X2_fails_ o hr17 m_995 (Nat.le_of_ble_eq_true rfl) (Nat.le_of_ble_eq_true rfl) ⟨(Nat.le_of_ble_eq_true rfl), (Nat.le_of_ble_eq_true rfl)⟩ dX2_greatestSolution_23 ?_
      cases Option.some.inj hf
      exact g_iret hret (Nat.le_of_ble_eq_true rfl) (Nat.le_of_ble_eq_true rfl) (vp_nar_int _) dX2_greatestSolution_26
  · refine g_aload_n o 0 rfl rfl dX2_greatestSolution_8 ?_
    refine g_iconst o ic_1 dX2_greatestSolution_9 ?_
    obtain ⟨r18, hr18, hf⟩ := bd_some hf
    refine k_X2_fails_ o hr18 m_995 (Nat.le_of_ble_eq_true rfl) (Nat.le_of_ble_eq_true rfl) ⟨(Nat.le_of_ble_eq_true rfl), (Nat.le_of_ble_eq_true rfl)⟩ dX2_greatestSolution_10 ?_
    cases Option.some.inj hf
    exact g_iret hret (Nat.le_of_ble_eq_true rfl) (Nat.le_of_ble_eq_true rfl) (vp_nar_int _) dX2_greatestSolution_13
theorem c_X2_greatestSolution (l : Launch) (hst : l.stackTraces = false) (a : Nat → Nat) (u : St) (t : Int32 × St) (hf : f_X2_greatestSolution u = some t) : CoI l yX2_greatestSolution (.code yX2_greatestSolution cX2_greatestSolution 3 (some .int)) 5 0 0 [.ref (a 0)] (wM a u) (wM a t.2) (.inl t.1) := mkI hst (by decide +kernel) (Nat.le_of_ble_eq_true rfl) (fun x _ o hI hX => b_X2_greatestSolution o a u t hf (hI _ rfl))
def rt_X2_implies (x : Cx) (a : Nat → Nat) (t : Int32 × St) : Prop := RetI x cX2_implies .boolean 0 0 (wM a t.2 (cxT x)) t.1
set_option maxRecDepth 20000 in
set_option maxHeartbeats 2000000 in
theorem b_X2_implies {x : Cx} (o : Ok x cX2_implies 5 RX2 5 0 0) (a : Nat → Nat) (u : St) (p0 : Int32) (p1 : Int32) (p2 : Int32) (p3 : Int32) (t : Int32 × St) (hf : f_X2_implies u p0 p1 p2 p3 = some t) (hret : rt_X2_implies x a t) : G x 5 0 0 (wM a u (cxT x)) [(0, .ref (a 0)), (1, .int p0), (2, .int p1), (3, .int p2), (4, .int p3)] 0 [] := by
  unfold f_X2_implies at hf
  refine g_aload_n o 0 rfl rfl dX2_implies_0 ?_
  refine g_iconst o ic_4 dX2_implies_1 ?_
  obtain ⟨r12, hr12, hf⟩ := bd_some hf
  refine k_X2_has_ o hr12 m_1163 (Nat.le_of_ble_eq_true rfl) (Nat.le_of_ble_eq_true rfl) ⟨(Nat.le_of_ble_eq_true rfl), (Nat.le_of_ble_eq_true rfl)⟩ dX2_implies_2 ?_
  refine g_if_ne (tgt := 14) o rfl dX2_implies_5 hf (fun hc hf => ?_) (fun hc hf => ?_)
  · refine g_aload_n o 0 rfl rfl dX2_implies_14 ?_
    refine g_iload_n o 1 rfl rfl dX2_implies_15 ?_
    obtain ⟨r13, hr13, hf⟩ := bd_some hf
    refine k_X2_isVariable_ o hr13 m_1183 (Nat.le_of_ble_eq_true rfl) (Nat.le_of_ble_eq_true rfl) ⟨(Nat.le_of_ble_eq_true rfl), (Nat.le_of_ble_eq_true rfl)⟩ dX2_implies_16 ?_
    refine g_if_eq (tgt := 30) o rfl dX2_implies_19 hf (fun hc hf => ?_) (fun hc hf => ?_)
    · refine g_aload_n o 0 rfl rfl dX2_implies_30 ?_
      refine g_iconst o ic_2 dX2_implies_31 ?_
      obtain ⟨r14, hr14, hf⟩ := bd_some hf
      refine k_X2_refuses_ o hr14 m_1093 (Nat.le_of_ble_eq_true rfl) (Nat.le_of_ble_eq_true rfl) ⟨(Nat.le_of_ble_eq_true rfl), (Nat.le_of_ble_eq_true rfl)⟩ dX2_implies_32 ?_
      obtain ⟨hb, hf⟩ := gd_some hf
      cases Option.some.inj hf
      exact g_iret hret (Nat.le_of_ble_eq_true rfl) (Nat.le_of_ble_eq_true rfl) (okB_n hb) dX2_implies_35
    · refine g_aload_n o 0 rfl rfl dX2_implies_22 ?_
      refine g_iload_n o 3 rfl rfl dX2_implies_23 ?_
      obtain ⟨r15, hr15, hf⟩ := bd_some hf
      refine k_X2_isVariable_ o hr15 m_1183 (Nat.le_of_ble_eq_true rfl) (Nat.le_of_ble_eq_true rfl) ⟨(Nat.le_of_ble_eq_true rfl), (Nat.le_of_ble_eq_true rfl)⟩ dX2_implies_24 ?_
      refine g_if_ne (tgt := 36) o rfl dX2_implies_27 hf (fun hc hf => ?_) (fun hc hf => ?_)
      · refine g_iload_n o 2 rfl rfl dX2_implies_36 ?_
        obtain ⟨r16, hr16, hf⟩ := bd_some hf
        refine k_X2_isBit_ o hr16 m_1017 (Nat.le_of_ble_eq_true rfl) (Nat.le_of_ble_eq_true rfl) ⟨(Nat.le_of_ble_eq_true rfl), (Nat.le_of_ble_eq_true rfl)⟩ dX2_implies_37 ?_
        refine g_if_eq (tgt := 51) o rfl dX2_implies_40 hf (fun hc hf => ?_) (fun hc hf => ?_)
        · refine g_aload_n o 0 rfl rfl dX2_implies_51 ?_
          refine g_iconst o ic_3 dX2_implies_52 ?_
          obtain ⟨r17, hr17, hf⟩ := bd_some hf
          refine k_X2_refuses_ o hr17 m_1093 (Nat.le_of_ble_eq_true rfl) (Nat.le_of_ble_eq_true rfl) ⟨(Nat.le_of_ble_eq_true rfl), (Nat.le_of_ble_eq_true rfl)⟩ dX2_implies_53 ?_
          obtain ⟨hb, hf⟩ := gd_some hf
          cases Option.some.inj hf
          exact g_iret hret (Nat.le_of_ble_eq_true rfl) (Nat.le_of_ble_eq_true rfl) (okB_n hb) dX2_implies_56
        · refine g_iload o 4 rfl dX2_implies_43 ?_
          obtain ⟨r18, hr18, hf⟩ := bd_some hf
          refine k_X2_isBit_ o hr18 m_1017 (Nat.le_of_ble_eq_true rfl) (Nat.le_of_ble_eq_true rfl) ⟨(Nat.le_of_ble_eq_true rfl), (Nat.le_of_ble_eq_true rfl)⟩ dX2_implies_45 ?_
          refine g_if_ne (tgt := 57) o rfl dX2_implies_48 hf (fun hc hf => ?_) (fun hc hf => ?_)
          · refine g_aload_n o 0 rfl rfl dX2_implies_57 ?_
            refine g_iconst o ic_0 dX2_implies_58 ?_
            refine M_put0 o m_919 dX2_implies_59 ?_
            refine g_aload_n o 0 rfl rfl dX2_implies_62 ?_
            refine g_iload_n o 1 rfl rfl dX2_implies_63 ?_
            refine g_iload_n o 2 rfl rfl dX2_implies_64 ?_
            refine g_iload_n o 3 rfl rfl dX2_implies_65 ?_
            refine g_iload o 4 rfl dX2_implies_66 ?_
            obtain ⟨r19, hr19, hf⟩ := bd_some hf
            refine k_X2_doesImply_ o hr19 m_1215 (Nat.le_of_ble_eq_true rfl) (Nat.le_of_ble_eq_true rfl) ⟨(Nat.le_of_ble_eq_true rfl), (Nat.le_of_ble_eq_true rfl)⟩ dX2_implies_68 ?_
            obtain ⟨hb, hf⟩ := gd_some hf
            cases Option.some.inj hf
            exact g_iret hret (Nat.le_of_ble_eq_true rfl) (Nat.le_of_ble_eq_true rfl) (okB_n hb) dX2_implies_71
          · refine g_aload_n o 0 rfl rfl dX2_implies_51 ?_
            refine g_iconst o ic_3 dX2_implies_52 ?_
            obtain ⟨r20, hr20, hf⟩ := bd_some hf
            refine k_X2_refuses_ o hr20 m_1093 (Nat.le_of_ble_eq_true rfl) (Nat.le_of_ble_eq_true rfl) ⟨(Nat.le_of_ble_eq_true rfl), (Nat.le_of_ble_eq_true rfl)⟩ dX2_implies_53 ?_
            obtain ⟨hb, hf⟩ := gd_some hf
            cases Option.some.inj hf
            exact g_iret hret (Nat.le_of_ble_eq_true rfl) (Nat.le_of_ble_eq_true rfl) (okB_n hb) dX2_implies_56
      · refine g_aload_n o 0 rfl rfl dX2_implies_30 ?_
        refine g_iconst o ic_2 dX2_implies_31 ?_
        obtain ⟨r21, hr21, hf⟩ := bd_some hf
        refine k_X2_refuses_ o hr21 m_1093 (Nat.le_of_ble_eq_true rfl) (Nat.le_of_ble_eq_true rfl) ⟨(Nat.le_of_ble_eq_true rfl), (Nat.le_of_ble_eq_true rfl)⟩ dX2_implies_32 ?_
        obtain ⟨hb, hf⟩ := gd_some hf
        cases Option.some.inj hf
        exact g_iret hret (Nat.le_of_ble_eq_true rfl) (Nat.le_of_ble_eq_true rfl) (okB_n hb) dX2_implies_35
  · refine g_aload_n o 0 rfl rfl dX2_implies_8 ?_
    refine g_iconst o ic_1 dX2_implies_9 ?_
    obtain ⟨r22, hr22, hf⟩ := bd_some hf
    refine k_X2_refuses_ o hr22 m_1093 (Nat.le_of_ble_eq_true rfl) (Nat.le_of_ble_eq_true rfl) ⟨(Nat.le_of_ble_eq_true rfl), (Nat.le_of_ble_eq_true rfl)⟩ dX2_implies_10 ?_
    obtain ⟨hb, hf⟩ := gd_some hf
    cases Option.some.inj hf
    exact g_iret hret (Nat.le_of_ble_eq_true rfl) (Nat.le_of_ble_eq_true rfl) (okB_n hb) dX2_implies_13
theorem c_X2_implies (l : Launch) (hst : l.stackTraces = false) (a : Nat → Nat) (u : St) (p0 : Int32) (p1 : Int32) (p2 : Int32) (p3 : Int32) (t : Int32 × St) (hf : f_X2_implies u p0 p1 p2 p3 = some t) : CoI l yX2_implies (.code yX2_implies cX2_implies 5 (some .boolean)) 5 0 0 [.ref (a 0), .int p0, .int p1, .int p2, .int p3] (wM a u) (wM a t.2) (.inl t.1) := mkI hst (by decide +kernel) (Nat.le_of_ble_eq_true rfl) (fun x _ o hI hX => b_X2_implies o a u p0 p1 p2 p3 t hf (hI _ rfl))
def rt_X2_dimension (x : Cx) (a : Nat → Nat) (t : Int32 × St) : Prop := RetI x cX2_dimension .int 0 0 (wM a t.2 (cxT x)) t.1
set_option maxRecDepth 20000 in
set_option maxHeartbeats 2000000 in
theorem b_X2_dimension_L36 {x : Cx} (o : Ok x cX2_dimension 3 RX2 5 0 0) {k n : Nat} (hk : k ≤ 0) (hn : n ≤ 0) (a : Nat → Nat) (u : St) (c1 : Int32) (r : (Int32) ⊕ (Int32 × St)) (hX : ∀ s : Int32, r = .inl s → G x 3 k n (wM a u (cxT x)) [(2, .int s)] 49 []) (hR : ∀ t, r = .inr t → rt_X2_dimension x a t) : ∀ (m : Nat) (s : Int32), loopN (f_X2_dimension_s36 u c1) m s = some r → G x 3 k n (wM a u (cxT x)) [(1, .int c1), (2, .int s)] 36 [] := by
  refine loop_W _ (fun (s : Int32) => G x 3 k n (wM a u (cxT x)) [(1, .int c1), (2, .int s)] 36 []) r ?_
  intro s ww hf hw
  unfold f_X2_dimension_s36 at hf
  refine g_iconst o ic_1 dX2_dimension_36 ?_
  refine g_iload_n o 1 rfl rfl dX2_dimension_37 ?_
  refine g_ishl o dX2_dimension_38 ?_
  refine g_iload_n o 0 rfl rfl dX2_dimension_39 ?_
  refine g_ic_ge (tgt := 49) o rfl dX2_dimension_40 hf (fun hc hf => ?_) (fun hc hf => ?_)
  · exact g_perm [1] rfl (hX _ (lf_x hf hw))
  · refine g_iinc o [(2, .int (s + 1)), (1, .int c1)] 1 rfl (inc_1 _) (Nat.le_of_ble_eq_true rfl) rfl dX2_dimension_43 ?_
    refine g_goto (tgt := 36) o rfl dX2_dimension_46 ?_
    have hp := lf_c hf hw
    exact g_perm [1, 0] rfl hp
set_option maxRecDepth 20000 in
set_option maxHeartbeats 2000000 in
theorem b_X2_dimension {x : Cx} (o : Ok x cX2_dimension 3 RX2 5 0 0) (a : Nat → Nat) (u : St) (t : Int32 × St) (hf : f_X2_dimension u = some t) (hret : rt_X2_dimension x a t) : G x 3 0 0 (wM a u (cxT x)) [(0, .ref (a 0))] 0 [] := by
  unfold f_X2_dimension at hf
  refine g_aload_n o 0 rfl rfl dX2_dimension_0 ?_
  refine g_iconst o ic_5 dX2_dimension_1 ?_
  obtain ⟨r7, hr7, hf⟩ := bd_some hf
  refine k_X2_has_ o hr7 m_1163 (Nat.le_of_ble_eq_true rfl) (Nat.le_of_ble_eq_true rfl) ⟨(Nat.le_of_ble_eq_true rfl), (Nat.le_of_ble_eq_true rfl)⟩ dX2_dimension_2 ?_
  refine g_if_ne (tgt := 14) o rfl dX2_dimension_5 hf (fun hc hf => ?_) (fun hc hf => ?_)
  · refine g_aload_n o 0 rfl rfl dX2_dimension_14 ?_
    obtain ⟨r8, hr8, hf⟩ := bd_some hf
    refine k_X2_solutions_ o hr8 m_1195 (Nat.le_of_ble_eq_true rfl) (Nat.le_of_ble_eq_true rfl) ⟨(Nat.le_of_ble_eq_true rfl), (Nat.le_of_ble_eq_true rfl)⟩ dX2_dimension_15 ?_
    refine g_istore_n o [(1, .int r8), (0, .ref (a 0))] (Nat.le_of_ble_eq_true rfl) rfl rfl dX2_dimension_18 ?_
    refine g_iload_n o 0 rfl rfl dX2_dimension_19 ?_
    refine g_if_ne (tgt := 29) o rfl dX2_dimension_20 hf (fun hc hf => ?_) (fun hc hf => ?_)
    · refine g_aload_n o 1 rfl rfl dX2_dimension_29 ?_
      refine g_iconst o ic_0 dX2_dimension_30 ?_
      refine M_put0 o m_919 dX2_dimension_31 ?_
      refine g_iconst o ic_0 dX2_dimension_34 ?_
      refine g_istore_n o [(2, .int 0), (1, .int r8), (0, .ref (a 0))] (Nat.le_of_ble_eq_true rfl) rfl rfl dX2_dimension_35 ?_
      obtain ⟨r10, hr10, hxr10, hrr10⟩ := bl_some hf
      refine g_perm [1, 0] rfl (b_X2_dimension_L36 o (Nat.le_of_ble_eq_true rfl) (Nat.le_of_ble_eq_true rfl) a (us u 0 0) r8 r10 (fun s36 hs => ?_) (fun t9 ht => ?_) FU 0 hr10)
      · have hf := hxr10 s36 hs
        refine g_iload_n o 0 rfl rfl dX2_dimension_49 ?_
        cases Option.some.inj hf
        exact g_iret hret (Nat.le_of_ble_eq_true rfl) (Nat.le_of_ble_eq_true rfl) (vp_nar_int _) dX2_dimension_50
      · have hf := hrr10 t9 ht
        cases Option.some.inj hf
        exact hret
    · refine g_aload_n o 1 rfl rfl dX2_dimension_23 ?_
      refine g_iconst o ic_2 dX2_dimension_24 ?_
      obtain ⟨r11, hr11, hf⟩ := bd_some hf
      refine k_X2_fails_ o hr11 m_995 (Nat.le_of_ble_eq_true rfl) (Nat.le_of_ble_eq_true rfl) ⟨(Nat.le_of_ble_eq_true rfl), (Nat.le_of_ble_eq_true rfl)⟩ dX2_dimension_25 ?_
      cases Option.some.inj hf
      exact g_iret hret (Nat.le_of_ble_eq_true rfl) (Nat.le_of_ble_eq_true rfl) (vp_nar_int _) dX2_dimension_28
  · refine g_aload_n o 0 rfl rfl dX2_dimension_8 ?_
    refine g_iconst o ic_1 dX2_dimension_9 ?_
    obtain ⟨r12, hr12, hf⟩ := bd_some hf
    refine k_X2_fails_ o hr12 m_995 (Nat.le_of_ble_eq_true rfl) (Nat.le_of_ble_eq_true rfl) ⟨(Nat.le_of_ble_eq_true rfl), (Nat.le_of_ble_eq_true rfl)⟩ dX2_dimension_10 ?_
    cases Option.some.inj hf
    exact g_iret hret (Nat.le_of_ble_eq_true rfl) (Nat.le_of_ble_eq_true rfl) (vp_nar_int _) dX2_dimension_13
theorem c_X2_dimension (l : Launch) (hst : l.stackTraces = false) (a : Nat → Nat) (u : St) (t : Int32 × St) (hf : f_X2_dimension u = some t) : CoI l yX2_dimension (.code yX2_dimension cX2_dimension 3 (some .int)) 5 0 0 [.ref (a 0)] (wM a u) (wM a t.2) (.inl t.1) := mkI hst (by decide +kernel) (Nat.le_of_ble_eq_true rfl) (fun x _ o hI hX => b_X2_dimension o a u t hf (hI _ rfl))
def rt_X2_define (x : Cx) (a : Nat → Nat) (t : Int32 × St) : Prop := RetI x cX2_define .int 0 0 (wM a t.2 (cxT x)) t.1
set_option maxRecDepth 20000 in
set_option maxHeartbeats 2000000 in
theorem b_X2_define_L56 {x : Cx} (o : Ok x cX2_define 9 RX2 2 0 0) {k n : Nat} (hk : k ≤ 0) (hn : n ≤ 0) (a : Nat → Nat) (u : St) (c1 : Int32) (c2 : Int32) (c3 : Int32) (c4 : Int32) (c5 : Int32) (r : (Int32 × Int32) ⊕ (Int32 × St)) (hX : ∀ s : Int32 × Int32, r = .inl s → G x 9 k n (wM a u (cxT x)) [(0, .ref (a 0)), (1, .int c1), (6, .int s.1)] 171 []) (hR : ∀ t, r = .inr t → rt_X2_define x a t) : ∀ (m : Nat) (s : Int32 × Int32), loopN (f_X2_define_s56 u c1 c2 c3 c4 c5) m s = some r → G x 9 k n (wM a u (cxT x)) [(0, .ref (a 0)), (1, .int c1), (2, .int c2), (3, .int c3), (4, .int c4), (5, .int c5), (6, .int s.1), (7, .int s.2)] 56 [] := by
  refine loop_W _ (fun (s : Int32 × Int32) => G x 9 k n (wM a u (cxT x)) [(0, .ref (a 0)), (1, .int c1), (2, .int c2), (3, .int c3), (4, .int c4), (5, .int c5), (6, .int s.1), (7, .int s.2)] 56 []) r ?_
  intro s ww hf hw
  unfold f_X2_define_s56 at hf
  obtain ⟨s_0, s_1⟩ := s
  try dsimp -simprocs only at hf ⊢
  refine g_iload o 7 rfl dX2_define_56 ?_
  refine g_iconst o ic_1 dX2_define_58 ?_
  refine g_aload_n o 0 rfl rfl dX2_define_59 ?_
  refine M_get6 o m_925 dX2_define_60 ?_
  refine g_ishl o dX2_define_63 ?_
  refine g_ic_ge (tgt := 171) o rfl dX2_define_64 hf (fun hc hf => ?_) (fun hc hf => ?_)
  · exact g_perm [0, 1, 6] rfl (hX _ (lf_x hf hw))
  · refine g_aload_n o 0 rfl rfl dX2_define_67 ?_
    refine g_iload o 7 rfl dX2_define_68 ?_
    refine g_iconst o ic_m1 dX2_define_70 ?_
    obtain ⟨r27, hr27, hf⟩ := bd_some hf
    refine k_X2_solves_ o hr27 m_1199 (Nat.le_of_ble_eq_true rfl) (Nat.le_of_ble_eq_true rfl) ⟨hk, hn⟩ dX2_define_71 ?_
    refine g_if_ne (tgt := 80) o rfl dX2_define_74 hf (fun hc hf => ?_) (fun hc hf => ?_)
    · refine g_iload o 7 rfl dX2_define_80 ?_
      refine g_iload_n o 2 rfl rfl dX2_define_82 ?_
      refine g_ishr o dX2_define_83 ?_
      refine g_iconst o ic_1 dX2_define_84 ?_
      refine g_iand o dX2_define_85 ?_
      refine g_nmi hf (fun x28 hf => ?_)
      refine g_istore o [(8, .int x28), (0, .ref (a 0)), (1, .int c1), (2, .int c2), (3, .int c3), (4, .int c4), (5, .int c5), (6, .int s_0), (7, .int s_1)] (Nat.le_of_ble_eq_true rfl) rfl dX2_define_86 ?_
      refine g_iload o 0 rfl dX2_define_88 ?_
      refine g_iload_n o 2 rfl rfl dX2_define_90 ?_
      refine g_iconst o ic_1 dX2_define_91 ?_
      refine g_ic_le (tgt := 106) o rfl dX2_define_92 hf (fun hc hf => ?_) (fun hc hf => ?_)
      · refine g_iconst o ic_0 dX2_define_106 ?_
        refine g_ior o dX2_define_107 ?_
        refine g_nmi hf (fun x29 hf => ?_)
        refine g_istore o [(8, .int x29), (0, .ref (a 0)), (1, .int c1), (2, .int c2), (3, .int c3), (4, .int c4), (5, .int c5), (6, .int s_0), (7, .int s_1)] (Nat.le_of_ble_eq_true rfl) rfl dX2_define_108 ?_
        refine g_iload o 0 rfl dX2_define_110 ?_
        refine g_iload_n o 2 rfl rfl dX2_define_112 ?_
        refine g_iconst o ic_2 dX2_define_113 ?_
        refine g_ic_le (tgt := 129) o rfl dX2_define_114 hf (fun hc hf => ?_) (fun hc hf => ?_)
        · refine g_iconst o ic_0 dX2_define_129 ?_
          refine g_ior o dX2_define_130 ?_
          refine g_nmi hf (fun x30 hf => ?_)
          refine g_istore o [(8, .int x30), (0, .ref (a 0)), (1, .int c1), (2, .int c2), (3, .int c3), (4, .int c4), (5, .int c5), (6, .int s_0), (7, .int s_1)] (Nat.le_of_ble_eq_true rfl) rfl dX2_define_131 ?_
          refine g_iload o 0 rfl dX2_define_133 ?_
          refine g_iload_n o 2 rfl rfl dX2_define_135 ?_
          refine g_iconst o ic_3 dX2_define_136 ?_
          refine g_ic_le (tgt := 152) o rfl dX2_define_137 hf (fun hc hf => ?_) (fun hc hf => ?_)
          · refine g_iconst o ic_0 dX2_define_152 ?_
            refine g_ior o dX2_define_153 ?_
            refine g_nmi hf (fun x31 hf => ?_)
            refine g_istore o [(8, .int x31), (0, .ref (a 0)), (1, .int c1), (2, .int c2), (3, .int c3), (4, .int c4), (5, .int c5), (6, .int s_0), (7, .int s_1)] (Nat.le_of_ble_eq_true rfl) rfl dX2_define_154 ?_
            refine g_iload o 7 rfl dX2_define_156 ?_
            refine g_iconst o ic_1 dX2_define_158 ?_
            refine g_iload o 0 rfl dX2_define_159 ?_
            refine g_ishl o dX2_define_161 ?_
            refine g_ior o dX2_define_162 ?_
            refine g_nmi hf (fun x32 hf => ?_)
            refine g_istore o [(6, .int x32), (8, .int x31), (0, .ref (a 0)), (1, .int c1), (2, .int c2), (3, .int c3), (4, .int c4), (5, .int c5), (7, .int s_1)] (Nat.le_of_ble_eq_true rfl) rfl dX2_define_163 ?_
            refine g_iinc o [(7, .int (s_1 + 1)), (6, .int x32), (8, .int x31), (0, .ref (a 0)), (1, .int c1), (2, .int c2), (3, .int c3), (4, .int c4), (5, .int c5)] 8 rfl (inc_1 _) (Nat.le_of_ble_eq_true rfl) rfl dX2_define_165 ?_
            refine g_goto (tgt := 56) o rfl dX2_define_168 ?_
            have hp := lf_c hf hw
            exact g_perm [3, 4, 5, 6, 7, 8, 1, 0] rfl hp
          · refine g_iload o 8 rfl dX2_define_140 ?_
            refine g_iload o 6 rfl dX2_define_142 ?_
            refine g_ishr o dX2_define_144 ?_
            refine g_iconst o ic_1 dX2_define_145 ?_
            refine g_iand o dX2_define_146 ?_
            refine g_iconst o ic_3 dX2_define_147 ?_
            refine g_ishl o dX2_define_148 ?_
            refine g_goto (tgt := 153) o rfl dX2_define_149 ?_
            refine g_ior o dX2_define_153 ?_
            refine g_nmi hf (fun x33 hf => ?_)
            refine g_istore o [(8, .int x33), (0, .ref (a 0)), (1, .int c1), (2, .int c2), (3, .int c3), (4, .int c4), (5, .int c5), (6, .int s_0), (7, .int s_1)] (Nat.le_of_ble_eq_true rfl) rfl dX2_define_154 ?_
            refine g_iload o 7 rfl dX2_define_156 ?_
            refine g_iconst o ic_1 dX2_define_158 ?_
            refine g_iload o 0 rfl dX2_define_159 ?_
            refine g_ishl o dX2_define_161 ?_
            refine g_ior o dX2_define_162 ?_
            refine g_nmi hf (fun x34 hf => ?_)
            refine g_istore o [(6, .int x34), (8, .int x33), (0, .ref (a 0)), (1, .int c1), (2, .int c2), (3, .int c3), (4, .int c4), (5, .int c5), (7, .int s_1)] (Nat.le_of_ble_eq_true rfl) rfl dX2_define_163 ?_
            refine g_iinc o [(7, .int (s_1 + 1)), (6, .int x34), (8, .int x33), (0, .ref (a 0)), (1, .int c1), (2, .int c2), (3, .int c3), (4, .int c4), (5, .int c5)] 8 rfl (inc_1 _) (Nat.le_of_ble_eq_true rfl) rfl dX2_define_165 ?_
            refine g_goto (tgt := 56) o rfl dX2_define_168 ?_
            have hp := lf_c hf hw
            exact g_perm [3, 4, 5, 6, 7, 8, 1, 0] rfl hp
        · refine g_iload o 8 rfl dX2_define_117 ?_
          refine g_iload o 5 rfl dX2_define_119 ?_
          refine g_ishr o dX2_define_121 ?_
          refine g_iconst o ic_1 dX2_define_122 ?_
          refine g_iand o dX2_define_123 ?_
          refine g_iconst o ic_2 dX2_define_124 ?_
          refine g_ishl o dX2_define_125 ?_
          refine g_goto (tgt := 130) o rfl dX2_define_126 ?_
          refine g_ior o dX2_define_130 ?_
          refine g_nmi hf (fun x35 hf => ?_)
          refine g_istore o [(8, .int x35), (0, .ref (a 0)), (1, .int c1), (2, .int c2), (3, .int c3), (4, .int c4), (5, .int c5), (6, .int s_0), (7, .int s_1)] (Nat.le_of_ble_eq_true rfl) rfl dX2_define_131 ?_
          refine g_iload o 0 rfl dX2_define_133 ?_
          refine g_iload_n o 2 rfl rfl dX2_define_135 ?_
          refine g_iconst o ic_3 dX2_define_136 ?_
          refine g_ic_le (tgt := 152) o rfl dX2_define_137 hf (fun hc hf => ?_) (fun hc hf => ?_)
          · refine g_iconst o ic_0 dX2_define_152 ?_
            refine g_ior o dX2_define_153 ?_
            refine g_nmi hf (fun x36 hf => ?_)
            refine g_istore o [(8, .int x36), (0, .ref (a 0)), (1, .int c1), (2, .int c2), (3, .int c3), (4, .int c4), (5, .int c5), (6, .int s_0), (7, .int s_1)] (Nat.le_of_ble_eq_true rfl) rfl dX2_define_154 ?_
            refine g_iload o 7 rfl dX2_define_156 ?_
            refine g_iconst o ic_1 dX2_define_158 ?_
            refine g_iload o 0 rfl dX2_define_159 ?_
            refine g_ishl o dX2_define_161 ?_
            refine g_ior o dX2_define_162 ?_
            refine g_nmi hf (fun x37 hf => ?_)
            refine g_istore o [(6, .int x37), (8, .int x36), (0, .ref (a 0)), (1, .int c1), (2, .int c2), (3, .int c3), (4, .int c4), (5, .int c5), (7, .int s_1)] (Nat.le_of_ble_eq_true rfl) rfl dX2_define_163 ?_
            refine g_iinc o [(7, .int (s_1 + 1)), (6, .int x37), (8, .int x36), (0, .ref (a 0)), (1, .int c1), (2, .int c2), (3, .int c3), (4, .int c4), (5, .int c5)] 8 rfl (inc_1 _) (Nat.le_of_ble_eq_true rfl) rfl dX2_define_165 ?_
            refine g_goto (tgt := 56) o rfl dX2_define_168 ?_
            have hp := lf_c hf hw
            exact g_perm [3, 4, 5, 6, 7, 8, 1, 0] rfl hp
          · refine g_iload o 8 rfl dX2_define_140 ?_
            refine g_iload o 6 rfl dX2_define_142 ?_
            refine g_ishr o dX2_define_144 ?_
            refine g_iconst o ic_1 dX2_define_145 ?_
            refine g_iand o dX2_define_146 ?_
            refine g_iconst o ic_3 dX2_define_147 ?_
            refine g_ishl o dX2_define_148 ?_
            refine g_goto (tgt := 153) o rfl dX2_define_149 ?_
            refine g_ior o dX2_define_153 ?_
            refine g_nmi hf (fun x38 hf => ?_)
            refine g_istore o [(8, .int x38), (0, .ref (a 0)), (1, .int c1), (2, .int c2), (3, .int c3), (4, .int c4), (5, .int c5), (6, .int s_0), (7, .int s_1)] (Nat.le_of_ble_eq_true rfl) rfl dX2_define_154 ?_
            refine g_iload o 7 rfl dX2_define_156 ?_
            refine g_iconst o ic_1 dX2_define_158 ?_
            refine g_iload o 0 rfl dX2_define_159 ?_
            refine g_ishl o dX2_define_161 ?_
            refine g_ior o dX2_define_162 ?_
            refine g_nmi hf (fun x39 hf => ?_)
            refine g_istore o [(6, .int x39), (8, .int x38), (0, .ref (a 0)), (1, .int c1), (2, .int c2), (3, .int c3), (4, .int c4), (5, .int c5), (7, .int s_1)] (Nat.le_of_ble_eq_true rfl) rfl dX2_define_163 ?_
            refine g_iinc o [(7, .int (s_1 + 1)), (6, .int x39), (8, .int x38), (0, .ref (a 0)), (1, .int c1), (2, .int c2), (3, .int c3), (4, .int c4), (5, .int c5)] 8 rfl (inc_1 _) (Nat.le_of_ble_eq_true rfl) rfl dX2_define_165 ?_
            refine g_goto (tgt := 56) o rfl dX2_define_168 ?_
            have hp := lf_c hf hw
            exact g_perm [3, 4, 5, 6, 7, 8, 1, 0] rfl hp
      · refine g_iload o 8 rfl dX2_define_95 ?_
        refine g_iload_n o 4 rfl rfl dX2_define_97 ?_
        refine g_ishr o dX2_define_98 ?_
        refine g_iconst o ic_1 dX2_define_99 ?_
        refine g_iand o dX2_define_100 ?_
        refine g_iconst o ic_1 dX2_define_101 ?_
        refine g_ishl o dX2_define_102 ?_
        refine g_goto (tgt := 107) o rfl dX2_define_103 ?_
        refine g_ior o dX2_define_107 ?_
        refine g_nmi hf (fun x40 hf => ?_)
        refine g_istore o [(8, .int x40), (0, .ref (a 0)), (1, .int c1), (2, .int c2), (3, .int c3), (4, .int c4), (5, .int c5), (6, .int s_0), (7, .int s_1)] (Nat.le_of_ble_eq_true rfl) rfl dX2_define_108 ?_
        refine g_iload o 0 rfl dX2_define_110 ?_
        refine g_iload_n o 2 rfl rfl dX2_define_112 ?_
        refine g_iconst o ic_2 dX2_define_113 ?_
        refine g_ic_le (tgt := 129) o rfl dX2_define_114 hf (fun hc hf => ?_) (fun hc hf => ?_)
        · refine g_iconst o ic_0 dX2_define_129 ?_
          refine g_ior o dX2_define_130 ?_
          refine g_nmi hf (fun x41 hf => ?_)
          refine g_istore o [(8, .int x41), (0, .ref (a 0)), (1, .int c1), (2, .int c2), (3, .int c3), (4, .int c4), (5, .int c5), (6, .int s_0), (7, .int s_1)] (Nat.le_of_ble_eq_true rfl) rfl dX2_define_131 ?_
          refine g_iload o 0 rfl dX2_define_133 ?_
          refine g_iload_n o 2 rfl rfl dX2_define_135 ?_
          refine g_iconst o ic_3 dX2_define_136 ?_
          refine g_ic_le (tgt := 152) o rfl dX2_define_137 hf (fun hc hf => ?_) (fun hc hf => ?_)
          · refine g_iconst o ic_0 dX2_define_152 ?_
            refine g_ior o dX2_define_153 ?_
            refine g_nmi hf (fun x42 hf => ?_)
            refine g_istore o [(8, .int x42), (0, .ref (a 0)), (1, .int c1), (2, .int c2), (3, .int c3), (4, .int c4), (5, .int c5), (6, .int s_0), (7, .int s_1)] (Nat.le_of_ble_eq_true rfl) rfl dX2_define_154 ?_
            refine g_iload o 7 rfl dX2_define_156 ?_
            refine g_iconst o ic_1 dX2_define_158 ?_
            refine g_iload o 0 rfl dX2_define_159 ?_
            refine g_ishl o dX2_define_161 ?_
            refine g_ior o dX2_define_162 ?_
            refine g_nmi hf (fun x43 hf => ?_)
            refine g_istore o [(6, .int x43), (8, .int x42), (0, .ref (a 0)), (1, .int c1), (2, .int c2), (3, .int c3), (4, .int c4), (5, .int c5), (7, .int s_1)] (Nat.le_of_ble_eq_true rfl) rfl dX2_define_163 ?_
            refine g_iinc o [(7, .int (s_1 + 1)), (6, .int x43), (8, .int x42), (0, .ref (a 0)), (1, .int c1), (2, .int c2), (3, .int c3), (4, .int c4), (5, .int c5)] 8 rfl (inc_1 _) (Nat.le_of_ble_eq_true rfl) rfl dX2_define_165 ?_
            refine g_goto (tgt := 56) o rfl dX2_define_168 ?_
            have hp := lf_c hf hw
            exact g_perm [3, 4, 5, 6, 7, 8, 1, 0] rfl hp
          · refine g_iload o 8 rfl dX2_define_140 ?_
            refine g_iload o 6 rfl dX2_define_142 ?_
            refine g_ishr o dX2_define_144 ?_
            refine g_iconst o ic_1 dX2_define_145 ?_
            refine g_iand o dX2_define_146 ?_
            refine g_iconst o ic_3 dX2_define_147 ?_
            refine g_ishl o dX2_define_148 ?_
            refine g_goto (tgt := 153) o rfl dX2_define_149 ?_
            refine g_ior o dX2_define_153 ?_
            refine g_nmi hf (fun x44 hf => ?_)
            refine g_istore o [(8, .int x44), (0, .ref (a 0)), (1, .int c1), (2, .int c2), (3, .int c3), (4, .int c4), (5, .int c5), (6, .int s_0), (7, .int s_1)] (Nat.le_of_ble_eq_true rfl) rfl dX2_define_154 ?_
            refine g_iload o 7 rfl dX2_define_156 ?_
            refine g_iconst o ic_1 dX2_define_158 ?_
            refine g_iload o 0 rfl dX2_define_159 ?_
            refine g_ishl o dX2_define_161 ?_
            refine g_ior o dX2_define_162 ?_
            refine g_nmi hf (fun x45 hf => ?_)
            refine g_istore o [(6, .int x45), (8, .int x44), (0, .ref (a 0)), (1, .int c1), (2, .int c2), (3, .int c3), (4, .int c4), (5, .int c5), (7, .int s_1)] (Nat.le_of_ble_eq_true rfl) rfl dX2_define_163 ?_
            refine g_iinc o [(7, .int (s_1 + 1)), (6, .int x45), (8, .int x44), (0, .ref (a 0)), (1, .int c1), (2, .int c2), (3, .int c3), (4, .int c4), (5, .int c5)] 8 rfl (inc_1 _) (Nat.le_of_ble_eq_true rfl) rfl dX2_define_165 ?_
            refine g_goto (tgt := 56) o rfl dX2_define_168 ?_
            have hp := lf_c hf hw
            exact g_perm [3, 4, 5, 6, 7, 8, 1, 0] rfl hp
        · refine g_iload o 8 rfl dX2_define_117 ?_
          refine g_iload o 5 rfl dX2_define_119 ?_
          refine g_ishr o dX2_define_121 ?_
          refine g_iconst o ic_1 dX2_define_122 ?_
          refine g_iand o dX2_define_123 ?_
          refine g_iconst o ic_2 dX2_define_124 ?_
          refine g_ishl o dX2_define_125 ?_
          refine g_goto (tgt := 130) o rfl dX2_define_126 ?_
          refine g_ior o dX2_define_130 ?_
          refine g_nmi hf (fun x46 hf => ?_)
          refine g_istore o [(8, .int x46), (0, .ref (a 0)), (1, .int c1), (2, .int c2), (3, .int c3), (4, .int c4), (5, .int c5), (6, .int s_0), (7, .int s_1)] (Nat.le_of_ble_eq_true rfl) rfl dX2_define_131 ?_
          refine g_iload o 0 rfl dX2_define_133 ?_
          refine g_iload_n o 2 rfl rfl dX2_define_135 ?_
          refine g_iconst o ic_3 dX2_define_136 ?_
          refine g_ic_le (tgt := 152) o rfl dX2_define_137 hf (fun hc hf => ?_) (fun hc hf => ?_)
          · refine g_iconst o ic_0 dX2_define_152 ?_
            refine g_ior o dX2_define_153 ?_
            refine g_nmi hf (fun x47 hf => ?_)
            refine g_istore o [(8, .int x47), (0, .ref (a 0)), (1, .int c1), (2, .int c2), (3, .int c3), (4, .int c4), (5, .int c5), (6, .int s_0), (7, .int s_1)] (Nat.le_of_ble_eq_true rfl) rfl dX2_define_154 ?_
            refine g_iload o 7 rfl dX2_define_156 ?_
            refine g_iconst o ic_1 dX2_define_158 ?_
            refine g_iload o 0 rfl dX2_define_159 ?_
            refine g_ishl o dX2_define_161 ?_
            refine g_ior o dX2_define_162 ?_
            refine g_nmi hf (fun x48 hf => ?_)
            refine g_istore o [(6, .int x48), (8, .int x47), (0, .ref (a 0)), (1, .int c1), (2, .int c2), (3, .int c3), (4, .int c4), (5, .int c5), (7, .int s_1)] (Nat.le_of_ble_eq_true rfl) rfl dX2_define_163 ?_
            refine g_iinc o [(7, .int (s_1 + 1)), (6, .int x48), (8, .int x47), (0, .ref (a 0)), (1, .int c1), (2, .int c2), (3, .int c3), (4, .int c4), (5, .int c5)] 8 rfl (inc_1 _) (Nat.le_of_ble_eq_true rfl) rfl dX2_define_165 ?_
            refine g_goto (tgt := 56) o rfl dX2_define_168 ?_
            have hp := lf_c hf hw
            exact g_perm [3, 4, 5, 6, 7, 8, 1, 0] rfl hp
          · refine g_iload o 8 rfl dX2_define_140 ?_
            refine g_iload o 6 rfl dX2_define_142 ?_
            refine g_ishr o dX2_define_144 ?_
            refine g_iconst o ic_1 dX2_define_145 ?_
            refine g_iand o dX2_define_146 ?_
            refine g_iconst o ic_3 dX2_define_147 ?_
            refine g_ishl o dX2_define_148 ?_
            refine g_goto (tgt := 153) o rfl dX2_define_149 ?_
            refine g_ior o dX2_define_153 ?_
            refine g_nmi hf (fun x49 hf => ?_)
            refine g_istore o [(8, .int x49), (0, .ref (a 0)), (1, .int c1), (2, .int c2), (3, .int c3), (4, .int c4), (5, .int c5), (6, .int s_0), (7, .int s_1)] (Nat.le_of_ble_eq_true rfl) rfl dX2_define_154 ?_
            refine g_iload o 7 rfl dX2_define_156 ?_
            refine g_iconst o ic_1 dX2_define_158 ?_
            refine g_iload o 0 rfl dX2_define_159 ?_
            refine g_ishl o dX2_define_161 ?_
            refine g_ior o dX2_define_162 ?_
            refine g_nmi hf (fun x50 hf => ?_)
            refine g_istore o [(6, .int x50), (8, .int x49), (0, .ref (a 0)), (1, .int c1), (2, .int c2), (3, .int c3), (4, .int c4), (5, .int c5), (7, .int s_1)] (Nat.le_of_ble_eq_true rfl) rfl dX2_define_163 ?_
            refine g_iinc o [(7, .int (s_1 + 1)), (6, .int x50), (8, .int x49), (0, .ref (a 0)), (1, .int c1), (2, .int c2), (3, .int c3), (4, .int c4), (5, .int c5)] 8 rfl (inc_1 _) (Nat.le_of_ble_eq_true rfl) rfl dX2_define_165 ?_
            refine g_goto (tgt := 56) o rfl dX2_define_168 ?_
            have hp := lf_c hf hw
            exact g_perm [3, 4, 5, 6, 7, 8, 1, 0] rfl hp
    · refine g_goto (tgt := 165) o rfl dX2_define_77 ?_
      refine g_iinc o [(7, .int (s_1 + 1)), (0, .ref (a 0)), (1, .int c1), (2, .int c2), (3, .int c3), (4, .int c4), (5, .int c5), (6, .int s_0)] 7 rfl (inc_1 _) (Nat.le_of_ble_eq_true rfl) rfl dX2_define_165 ?_
      refine g_goto (tgt := 56) o rfl dX2_define_168 ?_
      have hp := lf_c hf hw
      exact g_perm [1, 2, 3, 4, 5, 6, 7, 0] rfl hp
set_option maxRecDepth 20000 in
set_option maxHeartbeats 2000000 in
theorem b_X2_define {x : Cx} (o : Ok x cX2_define 9 RX2 2 0 0) (a : Nat → Nat) (u : St) (p0 : Int32) (p1 : Int32) (p2 : Int32) (p3 : Int32) (p4 : Int32) (t : Int32 × St) (hf : f_X2_define u p0 p1 p2 p3 p4 = some t) (hret : rt_X2_define x a t) : G x 9 0 0 (wM a u (cxT x)) [(0, .ref (a 0)), (1, .int p0), (2, .int p1), (3, .int p2), (4, .int p3), (5, .int p4)] 0 [] := by
  unfold f_X2_define at hf
  refine g_iload_n o 1 rfl rfl dX2_define_0 ?_
  refine g_iconst o ic_1 dX2_define_1 ?_
  refine g_iconst o ic_4 dX2_define_2 ?_
  obtain ⟨r57, hr57, hf⟩ := bd_some hf
  refine k_X2_isBetween_ o hr57 m_992 (Nat.le_of_ble_eq_true rfl) (Nat.le_of_ble_eq_true rfl) ⟨(Nat.le_of_ble_eq_true rfl), (Nat.le_of_ble_eq_true rfl)⟩ dX2_define_3 ?_
  refine g_if_ne (tgt := 15) o rfl dX2_define_6 hf (fun hc hf => ?_) (fun hc hf => ?_)
  · refine g_aload_n o 0 rfl rfl dX2_define_15 ?_
    refine g_iload_n o 1 rfl rfl dX2_define_16 ?_
    refine g_iload_n o 2 rfl rfl dX2_define_17 ?_
    refine g_iload_n o 3 rfl rfl dX2_define_18 ?_
    refine g_iload o 4 rfl dX2_define_19 ?_
    refine g_iload o 5 rfl dX2_define_21 ?_
    obtain ⟨r58, hr58, hf⟩ := bd_some hf
    refine k_X2_areVariables_ o hr58 m_1179 (Nat.le_of_ble_eq_true rfl) (Nat.le_of_ble_eq_true rfl) ⟨(Nat.le_of_ble_eq_true rfl), (Nat.le_of_ble_eq_true rfl)⟩ dX2_define_23 ?_
    refine g_if_ne (tgt := 35) o rfl dX2_define_26 hf (fun hc hf => ?_) (fun hc hf => ?_)
    · refine g_aload_n o 0 rfl rfl dX2_define_35 ?_
      refine M_get3 o m_922 dX2_define_36 ?_
      refine g_bipush o bp_8 dX2_define_39 ?_
      refine g_ic_ne (tgt := 50) o rfl dX2_define_41 hf (fun hc hf => ?_) (fun hc hf => ?_)
      · refine g_iconst o ic_0 dX2_define_50 ?_
        refine g_istore o [(6, .int 0), (0, .ref (a 0)), (1, .int p0), (2, .int p1), (3, .int p2), (4, .int p3), (5, .int p4)] (Nat.le_of_ble_eq_true rfl) rfl dX2_define_51 ?_
        refine g_iconst o ic_0 dX2_define_53 ?_
        refine g_istore o [(7, .int 0), (6, .int 0), (0, .ref (a 0)), (1, .int p0), (2, .int p1), (3, .int p2), (4, .int p3), (5, .int p4)] (Nat.le_of_ble_eq_true rfl) rfl dX2_define_54 ?_
        obtain ⟨r60, hr60, hxr60, hrr60⟩ := bl_some hf
        refine g_perm [2, 3, 4, 5, 6, 7, 1, 0] rfl (b_X2_define_L56 o (Nat.le_of_ble_eq_true rfl) (Nat.le_of_ble_eq_true rfl) a u p0 p1 p2 p3 p4 r60 (fun s56 hs => ?_) (fun t59 ht => ?_) FU (0, 0) hr60)
        · have hf := hxr60 s56 hs
          obtain ⟨s56_0, s56_1⟩ := s56
          try dsimp -simprocs only at hf ⊢
          refine g_aload_n o 0 rfl rfl dX2_define_171 ?_
          refine g_iload_n o 1 rfl rfl dX2_define_172 ?_
          refine g_iload o 2 rfl dX2_define_173 ?_
          obtain ⟨r61, hr61, hf⟩ := bd_some hf
          refine k_X2_adds_ o hr61 m_999 (Nat.le_of_ble_eq_true rfl) (Nat.le_of_ble_eq_true rfl) ⟨(Nat.le_of_ble_eq_true rfl), (Nat.le_of_ble_eq_true rfl)⟩ dX2_define_175 ?_
          cases Option.some.inj hf
          exact g_iret hret (Nat.le_of_ble_eq_true rfl) (Nat.le_of_ble_eq_true rfl) (vp_nar_int _) dX2_define_178
        · have hf := hrr60 t59 ht
          cases Option.some.inj hf
          exact hret
      · refine g_aload_n o 0 rfl rfl dX2_define_44 ?_
        refine g_iconst o ic_3 dX2_define_45 ?_
        obtain ⟨r62, hr62, hf⟩ := bd_some hf
        refine k_X2_fails_ o hr62 m_995 (Nat.le_of_ble_eq_true rfl) (Nat.le_of_ble_eq_true rfl) ⟨(Nat.le_of_ble_eq_true rfl), (Nat.le_of_ble_eq_true rfl)⟩ dX2_define_46 ?_
        cases Option.some.inj hf
        exact g_iret hret (Nat.le_of_ble_eq_true rfl) (Nat.le_of_ble_eq_true rfl) (vp_nar_int _) dX2_define_49
    · refine g_aload_n o 0 rfl rfl dX2_define_29 ?_
      refine g_iconst o ic_2 dX2_define_30 ?_
      obtain ⟨r63, hr63, hf⟩ := bd_some hf
      refine k_X2_fails_ o hr63 m_995 (Nat.le_of_ble_eq_true rfl) (Nat.le_of_ble_eq_true rfl) ⟨(Nat.le_of_ble_eq_true rfl), (Nat.le_of_ble_eq_true rfl)⟩ dX2_define_31 ?_
      cases Option.some.inj hf
      exact g_iret hret (Nat.le_of_ble_eq_true rfl) (Nat.le_of_ble_eq_true rfl) (vp_nar_int _) dX2_define_34
  · refine g_aload_n o 0 rfl rfl dX2_define_9 ?_
    refine g_iconst o ic_1 dX2_define_10 ?_
    obtain ⟨r64, hr64, hf⟩ := bd_some hf
    refine k_X2_fails_ o hr64 m_995 (Nat.le_of_ble_eq_true rfl) (Nat.le_of_ble_eq_true rfl) ⟨(Nat.le_of_ble_eq_true rfl), (Nat.le_of_ble_eq_true rfl)⟩ dX2_define_11 ?_
    cases Option.some.inj hf
    exact g_iret hret (Nat.le_of_ble_eq_true rfl) (Nat.le_of_ble_eq_true rfl) (vp_nar_int _) dX2_define_14
theorem c_X2_define (l : Launch) (hst : l.stackTraces = false) (a : Nat → Nat) (u : St) (p0 : Int32) (p1 : Int32) (p2 : Int32) (p3 : Int32) (p4 : Int32) (t : Int32 × St) (hf : f_X2_define u p0 p1 p2 p3 p4 = some t) : CoI l yX2_define (.code yX2_define cX2_define 9 (some .int)) 2 0 0 [.ref (a 0), .int p0, .int p1, .int p2, .int p3, .int p4] (wM a u) (wM a t.2) (.inl t.1) := mkI hst (by decide +kernel) (Nat.le_of_ble_eq_true rfl) (fun x _ o hI hX => b_X2_define o a u p0 p1 p2 p3 p4 t hf (hI _ rfl))
