theorem m_76 : Cond.classLink RX1 7 RX0 ∈ Ug := Ug_at 76 (by decide +kernel) (by decide +kernel)
theorem m_77 : Cond.instantiable RX0 7 ∈ Ug := Ug_at 77 (by decide +kernel) (by decide +kernel)
theorem e_78 : Cond.methodLinkNest RX1 9 yX0_init RX1 ∈ Ue := Ue_at 78 (by decide +kernel) rfl
theorem m_79 : Cond.instanceMethod yX0_init ∈ Ug := Ug_at 79 (by decide +kernel) (by decide +kernel)
theorem m_80 : Cond.code yX0_init cX0_init 1 none ∈ Ug := Ug_at 80 (by decide +kernel) (by decide +kernel)
theorem dX0_init_0 : decode cX0_init 0 = .ok (.aload_n 0, 1) := by decide +kernel
theorem dX0_init_1 : decode cX0_init 1 = .ok (.invokespecial 3, 3) := by decide +kernel
theorem dX0_init_10 : decode cX0_init 10 = .ok (.bipush 8, 2) := by decide +kernel
theorem dX0_init_12 : decode cX0_init 12 = .ok (.newarray .int, 2) := by decide +kernel
theorem dX0_init_14 : decode cX0_init 14 = .ok (.putfield 15, 3) := by decide +kernel
theorem dX0_init_17 : decode cX0_init 17 = .ok (.aload_n 0, 1) := by decide +kernel
theorem dX0_init_18 : decode cX0_init 18 = .ok (.bipush 8, 2) := by decide +kernel
theorem dX0_init_20 : decode cX0_init 20 = .ok (.newarray .int, 2) := by decide +kernel
theorem dX0_init_22 : decode cX0_init 22 = .ok (.putfield 19, 3) := by decide +kernel
theorem dX0_init_25 : decode cX0_init 25 = .ok (.aload_n 0, 1) := by decide +kernel
theorem dX0_init_26 : decode cX0_init 26 = .ok (.iconst 1, 1) := by decide +kernel
theorem dX0_init_27 : decode cX0_init 27 = .ok (.putfield 22, 3) := by decide +kernel
theorem dX0_init_30 : decode cX0_init 30 = .ok (.aload_n 0, 1) := by decide +kernel
theorem dX0_init_31 : decode cX0_init 31 = .ok (.iconst 0, 1) := by decide +kernel
theorem dX0_init_32 : decode cX0_init 32 = .ok (.putfield 25, 3) := by decide +kernel
theorem dX0_init_35 : decode cX0_init 35 = .ok (.aload_n 0, 1) := by decide +kernel
theorem dX0_init_36 : decode cX0_init 36 = .ok (.bipush 20, 2) := by decide +kernel
theorem dX0_init_38 : decode cX0_init 38 = .ok (.newarray .int, 2) := by decide +kernel
theorem dX0_init_4 : decode cX0_init 4 = .ok (.aload_n 0, 1) := by decide +kernel
theorem dX0_init_40 : decode cX0_init 40 = .ok (.putfield 28, 3) := by decide +kernel
theorem dX0_init_43 : decode cX0_init 43 = .ok (.aload_n 0, 1) := by decide +kernel
theorem dX0_init_44 : decode cX0_init 44 = .ok (.bipush 20, 2) := by decide +kernel
theorem dX0_init_46 : decode cX0_init 46 = .ok (.newarray .int, 2) := by decide +kernel
theorem dX0_init_48 : decode cX0_init 48 = .ok (.putfield 31, 3) := by decide +kernel
theorem dX0_init_5 : decode cX0_init 5 = .ok (.iconst 0, 1) := by decide +kernel
theorem dX0_init_51 : decode cX0_init 51 = .ok (.return_, 1) := by decide +kernel
theorem dX0_init_6 : decode cX0_init 6 = .ok (.putfield 9, 3) := by decide +kernel
theorem dX0_init_9 : decode cX0_init 9 = .ok (.aload_n 0, 1) := by decide +kernel
theorem dX1_init_0 : decode cX1_init 0 = .ok (.aload_n 0, 1) := by decide +kernel
theorem dX1_init_1 : decode cX1_init 1 = .ok (.invokespecial 1, 3) := by decide +kernel
theorem dX1_init_12 : decode cX1_init 12 = .ok (.putfield 10, 3) := by decide +kernel
theorem dX1_init_15 : decode cX1_init 15 = .ok (.aload_n 0, 1) := by decide +kernel
theorem dX1_init_16 : decode cX1_init 16 = .ok (.new 7, 3) := by decide +kernel
theorem dX1_init_19 : decode cX1_init 19 = .ok (.dup, 1) := by decide +kernel
theorem dX1_init_20 : decode cX1_init 20 = .ok (.invokespecial 9, 3) := by decide +kernel
theorem dX1_init_23 : decode cX1_init 23 = .ok (.putfield 16, 3) := by decide +kernel
theorem dX1_init_26 : decode cX1_init 26 = .ok (.aload_n 0, 1) := by decide +kernel
theorem dX1_init_27 : decode cX1_init 27 = .ok (.iconst 0, 1) := by decide +kernel
theorem dX1_init_28 : decode cX1_init 28 = .ok (.putfield 19, 3) := by decide +kernel
theorem dX1_init_31 : decode cX1_init 31 = .ok (.aload_n 0, 1) := by decide +kernel
theorem dX1_init_32 : decode cX1_init 32 = .ok (.bipush 60, 2) := by decide +kernel
theorem dX1_init_34 : decode cX1_init 34 = .ok (.newarray .char, 2) := by decide +kernel
theorem dX1_init_36 : decode cX1_init 36 = .ok (.putfield 23, 3) := by decide +kernel
theorem dX1_init_39 : decode cX1_init 39 = .ok (.aload_n 0, 1) := by decide +kernel
theorem dX1_init_4 : decode cX1_init 4 = .ok (.aload_n 0, 1) := by decide +kernel
theorem dX1_init_40 : decode cX1_init 40 = .ok (.iconst 0, 1) := by decide +kernel
theorem dX1_init_41 : decode cX1_init 41 = .ok (.putfield 27, 3) := by decide +kernel
theorem dX1_init_44 : decode cX1_init 44 = .ok (.aload_n 0, 1) := by decide +kernel
theorem dX1_init_45 : decode cX1_init 45 = .ok (.iconst (-1), 1) := by decide +kernel
theorem dX1_init_46 : decode cX1_init 46 = .ok (.putfield 31, 3) := by decide +kernel
theorem dX1_init_49 : decode cX1_init 49 = .ok (.aload_n 0, 1) := by decide +kernel
theorem dX1_init_5 : decode cX1_init 5 = .ok (.new 7, 3) := by decide +kernel
theorem dX1_init_50 : decode cX1_init 50 = .ok (.bipush 79, 2) := by decide +kernel
theorem dX1_init_52 : decode cX1_init 52 = .ok (.newarray .char, 2) := by decide +kernel
theorem dX1_init_54 : decode cX1_init 54 = .ok (.putfield 34, 3) := by decide +kernel
theorem dX1_init_57 : decode cX1_init 57 = .ok (.aload_n 0, 1) := by decide +kernel
theorem dX1_init_58 : decode cX1_init 58 = .ok (.iconst 0, 1) := by decide +kernel
theorem dX1_init_59 : decode cX1_init 59 = .ok (.putfield 37, 3) := by decide +kernel
theorem dX1_init_62 : decode cX1_init 62 = .ok (.aload_n 0, 1) := by decide +kernel
theorem dX1_init_63 : decode cX1_init 63 = .ok (.iconst 3, 1) := by decide +kernel
theorem dX1_init_64 : decode cX1_init 64 = .ok (.newarray .int, 2) := by decide +kernel
theorem dX1_init_66 : decode cX1_init 66 = .ok (.dup, 1) := by decide +kernel
theorem dX1_init_67 : decode cX1_init 67 = .ok (.iconst 0, 1) := by decide +kernel
theorem dX1_init_68 : decode cX1_init 68 = .ok (.iconst (-1), 1) := by decide +kernel
theorem dX1_init_69 : decode cX1_init 69 = .ok (.iastore, 1) := by decide +kernel
theorem dX1_init_70 : decode cX1_init 70 = .ok (.dup, 1) := by decide +kernel
theorem dX1_init_71 : decode cX1_init 71 = .ok (.iconst 1, 1) := by decide +kernel
theorem dX1_init_72 : decode cX1_init 72 = .ok (.iconst (-1), 1) := by decide +kernel
theorem dX1_init_73 : decode cX1_init 73 = .ok (.iastore, 1) := by decide +kernel
theorem dX1_init_74 : decode cX1_init 74 = .ok (.dup, 1) := by decide +kernel
theorem dX1_init_75 : decode cX1_init 75 = .ok (.iconst 2, 1) := by decide +kernel
theorem dX1_init_76 : decode cX1_init 76 = .ok (.iconst (-1), 1) := by decide +kernel
theorem dX1_init_77 : decode cX1_init 77 = .ok (.iastore, 1) := by decide +kernel
theorem dX1_init_78 : decode cX1_init 78 = .ok (.putfield 40, 3) := by decide +kernel
theorem dX1_init_8 : decode cX1_init 8 = .ok (.dup, 1) := by decide +kernel
theorem dX1_init_81 : decode cX1_init 81 = .ok (.aload_n 0, 1) := by decide +kernel
theorem dX1_init_82 : decode cX1_init 82 = .ok (.iconst 3, 1) := by decide +kernel
theorem dX1_init_83 : decode cX1_init 83 = .ok (.newarray .int, 2) := by decide +kernel
theorem dX1_init_85 : decode cX1_init 85 = .ok (.putfield 44, 3) := by decide +kernel
theorem dX1_init_88 : decode cX1_init 88 = .ok (.return_, 1) := by decide +kernel
theorem dX1_init_9 : decode cX1_init 9 = .ok (.invokespecial 9, 3) := by decide +kernel
theorem dX2_init_0 : decode cX2_init 0 = .ok (.aload_n 0, 1) := by decide +kernel
theorem dX2_init_1 : decode cX2_init 1 = .ok (.invokespecial 1, 3) := by decide +kernel
theorem dX2_init_12 : decode cX2_init 12 = .ok (.aload_n 0, 1) := by decide +kernel
theorem dX2_init_13 : decode cX2_init 13 = .ok (.bipush 8, 2) := by decide +kernel
theorem dX2_init_15 : decode cX2_init 15 = .ok (.newarray .int, 2) := by decide +kernel
theorem dX2_init_17 : decode cX2_init 17 = .ok (.putfield 13, 3) := by decide +kernel
theorem dX2_init_20 : decode cX2_init 20 = .ok (.aload_n 0, 1) := by decide +kernel
theorem dX2_init_21 : decode cX2_init 21 = .ok (.bipush 20, 2) := by decide +kernel
theorem dX2_init_23 : decode cX2_init 23 = .ok (.newarray .int, 2) := by decide +kernel
theorem dX2_init_25 : decode cX2_init 25 = .ok (.putfield 16, 3) := by decide +kernel
theorem dX2_init_28 : decode cX2_init 28 = .ok (.aload_n 0, 1) := by decide +kernel
theorem dX2_init_29 : decode cX2_init 29 = .ok (.bipush 80, 2) := by decide +kernel
theorem dX2_init_31 : decode cX2_init 31 = .ok (.newarray .int, 2) := by decide +kernel
theorem dX2_init_33 : decode cX2_init 33 = .ok (.putfield 19, 3) := by decide +kernel
theorem dX2_init_36 : decode cX2_init 36 = .ok (.aload_n 0, 1) := by decide +kernel
theorem dX2_init_37 : decode cX2_init 37 = .ok (.iconst 1, 1) := by decide +kernel
theorem dX2_init_38 : decode cX2_init 38 = .ok (.putfield 22, 3) := by decide +kernel
theorem dX2_init_4 : decode cX2_init 4 = .ok (.aload_n 0, 1) := by decide +kernel
theorem dX2_init_41 : decode cX2_init 41 = .ok (.aload_n 0, 1) := by decide +kernel
theorem dX2_init_42 : decode cX2_init 42 = .ok (.bipush 60, 2) := by decide +kernel
theorem dX2_init_44 : decode cX2_init 44 = .ok (.newarray .char, 2) := by decide +kernel
theorem dX2_init_46 : decode cX2_init 46 = .ok (.putfield 26, 3) := by decide +kernel
theorem dX2_init_49 : decode cX2_init 49 = .ok (.aload_n 0, 1) := by decide +kernel
theorem dX2_init_5 : decode cX2_init 5 = .ok (.bipush 8, 2) := by decide +kernel
theorem dX2_init_50 : decode cX2_init 50 = .ok (.bipush 80, 2) := by decide +kernel
theorem dX2_init_52 : decode cX2_init 52 = .ok (.newarray .char, 2) := by decide +kernel
theorem dX2_init_54 : decode cX2_init 54 = .ok (.putfield 30, 3) := by decide +kernel
theorem dX2_init_57 : decode cX2_init 57 = .ok (.aload_n 0, 1) := by decide +kernel
theorem dX2_init_58 : decode cX2_init 58 = .ok (.iconst (-1), 1) := by decide +kernel
theorem dX2_init_59 : decode cX2_init 59 = .ok (.putfield 33, 3) := by decide +kernel
theorem dX2_init_62 : decode cX2_init 62 = .ok (.aload_n 0, 1) := by decide +kernel
theorem dX2_init_63 : decode cX2_init 63 = .ok (.bipush 48, 2) := by decide +kernel
theorem dX2_init_65 : decode cX2_init 65 = .ok (.newarray .boolean, 2) := by decide +kernel
theorem dX2_init_67 : decode cX2_init 67 = .ok (.putfield 36, 3) := by decide +kernel
theorem dX2_init_7 : decode cX2_init 7 = .ok (.newarray .int, 2) := by decide +kernel
theorem dX2_init_70 : decode cX2_init 70 = .ok (.aload_n 0, 1) := by decide +kernel
theorem dX2_init_71 : decode cX2_init 71 = .ok (.iconst 3, 1) := by decide +kernel
theorem dX2_init_72 : decode cX2_init 72 = .ok (.newarray .int, 2) := by decide +kernel
theorem dX2_init_74 : decode cX2_init 74 = .ok (.dup, 1) := by decide +kernel
theorem dX2_init_75 : decode cX2_init 75 = .ok (.iconst 0, 1) := by decide +kernel
theorem dX2_init_76 : decode cX2_init 76 = .ok (.iconst (-1), 1) := by decide +kernel
theorem dX2_init_77 : decode cX2_init 77 = .ok (.iastore, 1) := by decide +kernel
theorem dX2_init_78 : decode cX2_init 78 = .ok (.dup, 1) := by decide +kernel
theorem dX2_init_79 : decode cX2_init 79 = .ok (.iconst 1, 1) := by decide +kernel
theorem dX2_init_80 : decode cX2_init 80 = .ok (.iconst (-1), 1) := by decide +kernel
theorem dX2_init_81 : decode cX2_init 81 = .ok (.iastore, 1) := by decide +kernel
theorem dX2_init_82 : decode cX2_init 82 = .ok (.dup, 1) := by decide +kernel
theorem dX2_init_83 : decode cX2_init 83 = .ok (.iconst 2, 1) := by decide +kernel
theorem dX2_init_84 : decode cX2_init 84 = .ok (.iconst (-1), 1) := by decide +kernel
theorem dX2_init_85 : decode cX2_init 85 = .ok (.iastore, 1) := by decide +kernel
theorem dX2_init_86 : decode cX2_init 86 = .ok (.putfield 40, 3) := by decide +kernel
theorem dX2_init_89 : decode cX2_init 89 = .ok (.aload_n 0, 1) := by decide +kernel
theorem dX2_init_9 : decode cX2_init 9 = .ok (.putfield 7, 3) := by decide +kernel
theorem dX2_init_90 : decode cX2_init 90 = .ok (.sipush 128, 3) := by decide +kernel
theorem dX2_init_93 : decode cX2_init 93 = .ok (.newarray .int, 2) := by decide +kernel
theorem dX2_init_95 : decode cX2_init 95 = .ok (.putfield 43, 3) := by decide +kernel
theorem dX2_init_98 : decode cX2_init 98 = .ok (.return_, 1) := by decide +kernel
theorem oi_i : Cond.instanceMethod objectInit ∈ Ug := Ug_at 74 (by decide +kernel) (by decide +kernel)
theorem oi_c : Cond.code objectInit ⟨#[0xb1]⟩ 1 none ∈ Ug := Ug_at 75 (by decide +kernel) (by decide +kernel)
theorem oi_lX0 : Cond.methodLink RX0 3 objectInit ∈ Ug := Ug_at 81 (by decide +kernel) (by decide +kernel)
theorem oi_lX1 : Cond.methodLink RX1 1 objectInit ∈ Ug := Ug_at 73 (by decide +kernel) (by decide +kernel)
theorem oi_lX2 : Cond.methodLink RX2 1 objectInit ∈ Ug := Ug_at 918 (by decide +kernel) (by decide +kernel)
theorem ac_int : Cond.arrayClass .int ∈ Ug := Ug_at 111 (by decide +kernel) (by decide +kernel)
theorem ac_char : Cond.arrayClass .char ∈ Ug := Ug_at 143 (by decide +kernel) (by decide +kernel)
theorem ac_boolean : Cond.arrayClass .boolean ∈ Ug := Ug_at 983 (by decide +kernel) (by decide +kernel)
theorem ac_long : Cond.arrayClass .long ∈ Ug := Ug_at 1318 (by decide +kernel) (by decide +kernel)
section CT
variable {x : Cx} {cc : ByteArray} {nL : Nat} {own : String} {d mc ms k n : Nat} {wd : va_W} {lv : List (Nat × Value)} {pc : Nat} {st : List Value}
theorem g_objInit (o : Ok x cc nL own d mc ms) {i a : Nat} (hlk : Cond.methodLink own i objectInit ∈ Ug) (hr : (st.map fun v => v.category).sum ≤ 8) (dg : decode cc pc = .ok (.invokespecial i, 3)) (kk : G x nL k n wd lv (pc + 3) st) : G x nL k n wd lv pc (.ref a :: st) := by
  intro H locs ls hP hD hS hl
  obtain ⟨hR1, hR2, -, -⟩ := o.2.2.2.2.2.2.2.2.2.2
  exact W.objInit o.1 o.2.1 o.2.2.2.1 (o.2.2.2.2.1 _ hlk) (o.2.2.2.2.1 _ oi_i) (o.2.2.2.2.1 _ oi_c) rfl (hl.1.trans o.2.2.1.symm) rfl dg (by omega) (by have := lv_room (m := cxm x) (pc := pc) (ls := ls) (rest := Value.ref a :: st) hr; omega) (kk H locs ls hP hD hS hl)
theorem g_newa_int (o : Ok x cc nL own d mc ms) {z : Int32} {N : Nat} (hz : ¬ z < 0) (hN : z.toNatClampNeg = N) (hb : N * componentBytes .int ≤ 536870912) (hk : k + 1 ≤ mc) (hn : n + N ≤ ms) (dg : decode cc pc = .ok (.newarray .int, 2)) (kk : ∀ q : Nat, G x nL (k + 1) (n + N) (wd ++ [(q, .inl (cxT x 0, N, .inl (fun _ => 0)))]) lv (pc + 2) (.ref q :: st)) : G x nL k n wd lv pc (.int z :: st) := by
  intro H locs ls hP hD hS hl
  obtain ⟨-, -, hR3, hR4⟩ := o.2.2.2.2.2.2.2.2.2.2
  refine va_newa o.1 o.2.1 (atype := .int) (o.2.2.2.2.1 _ ac_int) (ty := .int) rfl o.2.2.2.2.2.1 hP hD hS o.2.2.2.2.2.2.1 (a0 := (N, .inl (fun _ => 0))) (fun _ => rfl) hz hN hb (Nat.le_trans hk hR3) (Nat.le_trans hn hR4) dg (fun q cA H1 hK1 hP1 hD1 hS1 => ?_)
  have e1 := (hK1.2 4 (cA, .int) rfl).2
  have e2 := (o.2.2.2.2.2.1.2 0 (cxT x 0, .int) rfl).2
  cases Option.some.inj (e1.symm.trans e2)
  exact kk q H1 locs ls hP1 hD1 hS1 hl
theorem g_newa_char (o : Ok x cc nL own d mc ms) {z : Int32} {N : Nat} (hz : ¬ z < 0) (hN : z.toNatClampNeg = N) (hb : N * componentBytes .char ≤ 536870912) (hk : k + 1 ≤ mc) (hn : n + N ≤ ms) (dg : decode cc pc = .ok (.newarray .char, 2)) (kk : ∀ q : Nat, G x nL (k + 1) (n + N) (wd ++ [(q, .inl (cxT x 1, N, .inl (fun _ => 0)))]) lv (pc + 2) (.ref q :: st)) : G x nL k n wd lv pc (.int z :: st) := by
  intro H locs ls hP hD hS hl
  obtain ⟨-, -, hR3, hR4⟩ := o.2.2.2.2.2.2.2.2.2.2
  refine va_newa o.1 o.2.1 (atype := .char) (o.2.2.2.2.1 _ ac_char) (ty := .char) rfl o.2.2.2.2.2.1 hP hD hS o.2.2.2.2.2.2.1 (a0 := (N, .inl (fun _ => 0))) (fun _ => rfl) hz hN hb (Nat.le_trans hk hR3) (Nat.le_trans hn hR4) dg (fun q cA H1 hK1 hP1 hD1 hS1 => ?_)
  have e1 := (hK1.2 4 (cA, .char) rfl).2
  have e2 := (o.2.2.2.2.2.1.2 1 (cxT x 1, .char) rfl).2
  cases Option.some.inj (e1.symm.trans e2)
  exact kk q H1 locs ls hP1 hD1 hS1 hl
theorem g_newa_boolean (o : Ok x cc nL own d mc ms) {z : Int32} {N : Nat} (hz : ¬ z < 0) (hN : z.toNatClampNeg = N) (hb : N * componentBytes .boolean ≤ 536870912) (hk : k + 1 ≤ mc) (hn : n + N ≤ ms) (dg : decode cc pc = .ok (.newarray .boolean, 2)) (kk : ∀ q : Nat, G x nL (k + 1) (n + N) (wd ++ [(q, .inl (cxT x 2, N, .inl (fun _ => 0)))]) lv (pc + 2) (.ref q :: st)) : G x nL k n wd lv pc (.int z :: st) := by
  intro H locs ls hP hD hS hl
  obtain ⟨-, -, hR3, hR4⟩ := o.2.2.2.2.2.2.2.2.2.2
  refine va_newa o.1 o.2.1 (atype := .boolean) (o.2.2.2.2.1 _ ac_boolean) (ty := .boolean) rfl o.2.2.2.2.2.1 hP hD hS o.2.2.2.2.2.2.1 (a0 := (N, .inl (fun _ => 0))) (fun _ => rfl) hz hN hb (Nat.le_trans hk hR3) (Nat.le_trans hn hR4) dg (fun q cA H1 hK1 hP1 hD1 hS1 => ?_)
  have e1 := (hK1.2 4 (cA, .boolean) rfl).2
  have e2 := (o.2.2.2.2.2.1.2 2 (cxT x 2, .boolean) rfl).2
  cases Option.some.inj (e1.symm.trans e2)
  exact kk q H1 locs ls hP1 hD1 hS1 hl
theorem g_newa_long (o : Ok x cc nL own d mc ms) {z : Int32} {N : Nat} (hz : ¬ z < 0) (hN : z.toNatClampNeg = N) (hb : N * componentBytes .long ≤ 536870912) (hk : k + 1 ≤ mc) (hn : n + N ≤ ms) (dg : decode cc pc = .ok (.newarray .long, 2)) (kk : ∀ q : Nat, G x nL (k + 1) (n + N) (wd ++ [(q, .inl (cxT x 3, N, .inr (.inl (fun _ => 0))))]) lv (pc + 2) (.ref q :: st)) : G x nL k n wd lv pc (.int z :: st) := by
  intro H locs ls hP hD hS hl
  obtain ⟨-, -, hR3, hR4⟩ := o.2.2.2.2.2.2.2.2.2.2
  refine va_newa o.1 o.2.1 (atype := .long) (o.2.2.2.2.1 _ ac_long) (ty := .long) rfl o.2.2.2.2.2.1 hP hD hS o.2.2.2.2.2.2.1 (a0 := (N, .inr (.inl (fun _ => 0)))) (fun _ => rfl) hz hN hb (Nat.le_trans hk hR3) (Nat.le_trans hn hR4) dg (fun q cA H1 hK1 hP1 hD1 hS1 => ?_)
  have e1 := (hK1.2 4 (cA, .long) rfl).2
  have e2 := (o.2.2.2.2.2.1.2 3 (cxT x 3, .long) rfl).2
  cases Option.some.inj (e1.symm.trans e2)
  exact kk q H1 locs ls hP1 hD1 hS1 hl
theorem g_putF (o : Ok x cc nL own d mc ms) (hini : (cxh x).name = "<init>") {C : String} {T : u_T} {N ci i a : Nat} {fs : List Value} (hin : ∀ w ∈ u_ws C T N, w ∈ Ug) (ty0 : Nat → FieldType) (hty : ∀ k, k < N → parseFieldDescriptor (T k).2.2.1 = some (ty0 k)) (hnm : ∀ a, a < N → ∀ b, b < N → a ≠ b → (T a).2.1 ≠ (T b).2.1) (q0 : Nat) (he : wd[q0]? = some (a, .inr (ci, fs))) (hc : vwCl[ci]? = some (C, T, N)) (j : Nat) (hj : j < N) {v : Value} {ref : String} (hsame : (T j).1 = ref) (hfin : (T j).2.2.2 = true) (hdecl : (T j).1 = own) (hn : narrow (ty0 j) v = v) (hfit : fits (ty0 j) v = true) (hlen : j < fs.length) (hlk : Cond.fieldLink own i ref (T j).2.1 (T j).2.2.1 ∈ Ug) (wd2 : va_W) (hw : wd.set q0 (a, .inr (ci, fs.set j v)) = wd2) (dg : decode cc pc = .ok (.putfield i, 3)) (kk : G x nL k n wd2 lv (pc + 3) st) : G x nL k n wd lv pc (v :: .ref a :: st) := fun H locs ls hP hD hS hl => va_putF o.1 o.2.1 o.2.2.2.2.1 hin ty0 hty hnm o.2.2.2.1 o.2.2.2.2.2.1 hP hD hS q0 he hc j hj (o.2.2.2.2.1 _ hlk) (fun _ h => by rw [← hsame]; exact h) hfin hini hdecl (hty j hj) hn hfit hlen dg (fun H1 locs1 hP1 hD1 hS1 => kk H1 locs1 ls (hw ▸ hP1) (hw ▸ hD1) hS1 hl)
theorem g_new (o : Ok x cc nL own d mc ms) {C : String} {T : u_T} {N ci i : Nat} (hin : ∀ w ∈ u_ws C T N, w ∈ Ug) (ty0 : Nat → FieldType) (hty : ∀ k, k < N → parseFieldDescriptor (T k).2.2.1 = some (ty0 k)) (hcl : Cond.classLink own i C ∈ Ug) (hinst : Cond.instantiable C N ∈ Ug) (hini : Cond.initialized C ∈ Ug) (hc : vwCl[ci]? = some (C, T, N)) (fs : List Value) (hfs : ∀ j, j < N → defaultValue (ty0 j) = vp_V fs j) (hk : k + 1 ≤ mc) (hn : n + N ≤ ms) (dg : decode cc pc = .ok (.new i, 3)) (kk : ∀ q : Nat, G x nL (k + 1) (n + N) (wd ++ [(q, .inr (ci, fs))]) lv (pc + 3) (.ref q :: st)) : G x nL k n wd lv pc st := by
  intro H locs ls hP hD hS hl
  obtain ⟨-, -, hR3, hR4⟩ := o.2.2.2.2.2.2.2.2.2.2
  exact va_new o.1 o.2.1 o.2.2.2.2.1 hin ty0 hty o.2.2.2.1 (o.2.2.2.2.1 _ hcl) (o.2.2.2.2.1 _ hinst) (o.2.2.2.2.1 _ hini) o.2.2.2.2.2.1 hP hD hS o.2.2.2.2.2.2.1 hc hfs (Nat.le_trans hk hR3) (Nat.le_trans hn hR4) dg (fun q H1 hP1 hD1 hS1 => kk q H1 locs ls hP1 hD1 hS1 hl)
/-- a constructor's contract: what it makes comes back by its addresses -/
def CoC {S : Type} (l : Launch) (y : MethodName) (cc : ByteArray) (d mc ms h0 : Nat) (wd : va_W) (post : S → Prop) (wf : S → (Nat → ClassId) → va_W) : Prop := ∀ (D : va_G) (T : Nat → ClassId) (sz : Nat),
  Met l y (.code y cc 1 none :: Ug) (rmD d mc ms) (PcG D T sz [.ref h0] wd) (va_Qv post (fun u t => WB D T (va_A wd sz) (wf u T) t) (va_A wd sz)) mc ms (va_A wd sz)
theorem mkC {S : Type} {l : Launch} {y : MethodName} {h0 : Nat} {post : S → Prop} {wf : S → (Nat → ClassId) → va_W} (hst : l.stackTraces = false) (hy : plainName y.cls = true) (hyn : y.name = "<init>")
    (body : ∀ x : Cx, cxl x = l → Ok x cc 1 y.cls d mc ms → (cxh x).name = "<init>" → (∀ u : S, post u → RetV x cc mc ms (wf u (cxT x))) → G x 1 0 0 wd [(0, .ref h0)] 0 []) : CoC l y cc d mc ms h0 wd post wf := by
  intro D T sz
  refine Met.ofW (cc := cc) (maxL := 1) (ret := none) hy rfl ?_
  intro p e s m args below meth c s₁ B hml hv
  obtain ⟨rfl, hsz, hP, hK, hD0, hSx⟩ := hv
  subst hsz
  have hts := atoms_spec (ws := Cond.code y cc 1 none :: Ug) B.pre
  have hD := hD0.self (sz := s.heap.size)
  have hl := lv_entry [Value.ref h0] (n := 1) (Nat.le_refl 1)
  rw [lg_entry_eq]
  refine body ((p, l, e, _, s, m, _, below, meth, c), (va_A wd s.heap.size, _, D, T)) rfl ⟨B.exec, B.bytes, hml, findClass_of_methodNamed B.named, fun w hw => hts w (List.mem_cons_of_mem _ hw), hK, fun q h => Or.inr h, hSx, B.notSynchronized, hst, Nat.le_refl _, Nat.le_refl _, Nat.le_refl _, Nat.le_refl _⟩ ((name_of_methodNamed B.named B.method).1.trans hyn) ?_ s.heap [] _ hP hD va_S.rf hl
  intro u hz k n pc H locs ls h1 h2 dg hP hD hS
  refine W.widen h1 h2 (W.vret B.exec B.bytes B.returns (fun t ht hW => ⟨⟨u, rfl, hz, by rw [ht]; exact hP, va_K.moved hW.alike hK, hD⟩, hS.F ht⟩) hS.2.2 dg B.notSynchronized)
section CC
variable {S : Type} {y : MethodName} {bytes : ByteArray} {d2 mc2 ms2 i h0 : Nat} {wc : va_W} {post : S → Prop} {wf : S → (Nat → ClassId) → va_W}
theorem gcC_fin (o : Ok x cc nL own d mc ms) {st0 rest : List Value} (hM : CoC (cxl x) y bytes d2 mc2 ms2 h0 wc post wf) (wd2 : S → va_W) (isC isR : List Nat) (wr : va_W) (hC : isC.map (fun i => wd[i]?) = wc.map some) (hnC : va_nd isC = true) (hR : isR.map (fun i => wd[i]?) = wr.map some) (hnR : va_nd isR = true) (hdis : ∀ i ∈ isR, i ∉ isC) (hw : ∀ u, wr ++ wf u (cxT x) = wd2 u)
    (run : ∀ (H : Heap) (locs : List Loc) (ls : Array Slot) (Pc : Array Value → State → Prop) (Qc : Array Value → State → Outcome → State → Prop) (free : Addr → Prop), ls.size = nL → Met (cxl x) y (.code y bytes 1 none :: Ug) (rmD d2 mc2 ms2) Pc Qc mc2 ms2 free → FrameBlind Pc → (∀ U : State, U.heap = H → (cxs x).WarmedH U.vm → Pc [Value.ref h0].toArray U) → va_Run (cxp x) (cxl x) (cxe x) (cxR x) (cxs x) (cxm x) (cxa x) (cxb x) (cxh x) (cxc x) H locs k n mc2 ms2 (F0 (cxm x) pc ls st0) rest (Qc [Value.ref h0].toArray) free)
    (kk : ∀ u, post u → G x nL (k + mc2) (n + ms2) (wd2 u) lv (pc + 3) rest) : G x nL k n wd lv pc st0 := by
  intro H locs ls hP hD hS hl
  have hF := va_free hD hS o.2.2.2.2.2.2.1 isC hC
  refine va_callv (run H locs ls _ _ _ hl.1 (hM (cxD x) (cxT x) H.size) PcG_blind (pre_call o hC hnC hP hD hS)) hS (fun q _ h => hF q h) hF ?_
  intro u t H1 locs1 ht hva hz2 hB hz hk hS1
  obtain ⟨hP1, -, hD1⟩ := hB
  rw [ht] at hP1
  obtain ⟨hP2, hD2⟩ := va_join hP hD isC isR hC hR hnR hdis hk hF hP1 hD1
  rw [hw u] at hP2 hD2
  exact kk u hz2 H1 locs1 ls hP2 hD2 hS1 hl
theorem gcC (o : Ok x cc nL own d mc ms) {rest : List Value} (hM : CoC (cxl x) y bytes d2 mc2 ms2 h0 wc post wf) (wd2 : S → va_W) (isC isR : List Nat) (wr : va_W) (hC : isC.map (fun i => wd[i]?) = wc.map some) (hnC : va_nd isC = true) (hR : isR.map (fun i => wd[i]?) = wr.map some) (hnR : va_nd isR = true) (hdis : ∀ i ∈ isR, i ∉ isC) (hw : ∀ u, wr ++ wf u (cxT x) = wd2 u) (hd : d2 < d) (hcode : Cond.code y bytes 1 none ∈ Ug) (hini : Cond.initialized y.cls ∈ Ug) (hin : Cond.instanceMethod y ∈ Ug) (hlk : Cond.methodLink own i y ∈ Ug) (hyn : y.name = "<init>")
    (hy : y.cls ≠ "java/lang/invoke/MethodHandle" ∧ y.cls ≠ "java/lang/invoke/VarHandle" ∧ (parseMethodDescriptor y.desc).map (fun d => d.parameters.length) = some 0) (hr : (rest.map fun v => v.category).sum ≤ 8) (hk : k + mc2 ≤ mc ∧ n + ms2 ≤ ms) (dg : decode cc pc = .ok (.invokespecial i, 3)) (kk : ∀ u, post u → G x nL (k + mc2) (n + ms2) (wd2 u) lv (pc + 3) rest) : G x nL k n wd lv pc (.ref h0 :: rest) := by
  refine gcC_fin o hM wd2 isC isR wr hC hnC hR hnR hdis hw ?_ kk
  intro H locs ls Pc Qc free hls hM2 hb hU
  have hts := o.2.2.2.2.1
  obtain ⟨-, -, hR3, hR4⟩ := o.2.2.2.2.2.2.2.2.2.2
  exact va_runI (As := []) ⟨o.1, o.2.1, o.2.2.1, o.2.2.2.1, hts⟩ hM2 ⟨callB_of 0 hts (Ug_cons hcode) rfl rfl rfl (hts _ hini) (hts _ hlk) hy (room_d o hd (by decide)), hyn, hts _ hin⟩ ⟨hb, hU⟩ rfl rfl hls rfl (lv_room hr) dg ⟨Nat.le_trans hk.1 hR3, Nat.le_trans hk.2 hR4⟩
theorem gcCN (o : Ok x cc nL own d mc ms) {host : String} {rest : List Value} (hM : CoC (cxl x) y bytes d2 mc2 ms2 h0 wc post wf) (wd2 : S → va_W) (isC isR : List Nat) (wr : va_W) (hC : isC.map (fun i => wd[i]?) = wc.map some) (hnC : va_nd isC = true) (hR : isR.map (fun i => wd[i]?) = wr.map some) (hnR : va_nd isR = true) (hdis : ∀ i ∈ isR, i ∉ isC) (hw : ∀ u, wr ++ wf u (cxT x) = wd2 u) (hd : d2 < d) (hcode : Cond.code y bytes 1 none ∈ Ug) (hini : Cond.initialized y.cls ∈ Ug) (hin : Cond.instanceMethod y ∈ Ug) (hlk : Cond.methodLinkNest own i y host ∈ Ue) (hyn : y.name = "<init>")
    (hy : y.cls ≠ "java/lang/invoke/MethodHandle" ∧ y.cls ≠ "java/lang/invoke/VarHandle" ∧ (parseMethodDescriptor y.desc).map (fun d => d.parameters.length) = some 0) (hr : (rest.map fun v => v.category).sum ≤ 8) (hk : k + mc2 ≤ mc ∧ n + ms2 ≤ ms) (dg : decode cc pc = .ok (.invokespecial i, 3)) (kk : ∀ u, post u → G x nL (k + mc2) (n + ms2) (wd2 u) lv (pc + 3) rest) : G x nL k n wd lv pc (.ref h0 :: rest) := by
  refine gcC_fin o hM wd2 isC isR wr hC hnC hR hnR hdis hw ?_ kk
  intro H locs ls Pc Qc free hls hM2 hb hU
  have hts := o.2.2.2.2.1
  obtain ⟨-, -, hR3, hR4⟩ := o.2.2.2.2.2.2.2.2.2.2
  exact va_runIN (As := []) ⟨o.1, o.2.1, o.2.2.1, o.2.2.2.1, hts⟩ hM2 ⟨va_cnB 0 hts (Ug_cons hcode) rfl rfl rfl (o.2.2.2.2.2.2.2.1.1 _ hlk) (hts _ hini) hy (room_d o hd (by decide)), hyn, hts _ hin⟩ ⟨hb, hU⟩ rfl rfl hls rfl (lv_room hr) dg ⟨Nat.le_trans hk.1 hR3, Nat.le_trans hk.2 hR4⟩
end CC
end CT
/-! ===== what new objects hold ===== -/
def FL : Nat → Int32 := upd (upd (upd (fun _ => 0) (0 : Int32).toNatClampNeg (-1)) (1 : Int32).toNatClampNeg (-1)) (2 : Int32).toNatClampNeg (-1)
def v0I : St := fun i j => bif Nat.beq i 0 then (bif Nat.beq j 3 then 1 else 0) else 0
def u0X : St := fun i => bif Nat.beq i 0 then (fun j => bif Nat.beq j 5 then (-1) else 0) else bif Nat.beq i 8 then FL else (fun _ => 0)
def m0M : St := fun i => bif Nat.beq i 0 then (fun j => bif Nat.beq j 6 then 1 else bif Nat.beq j 12 then (-1) else 0) else bif Nat.beq i 16 then FL else (fun _ => 0)
abbrev fr0 : List Value := [.int 0, .null, .null, .int 0, .int 0, .null, .null]
abbrev fr1 : List Value := [.null, .null, .int 0, .null, .int 0, .int 0, .null, .int 0, .null, .null]
abbrev fr2 : List Value := [.int 0, .null, .null, .int 0, .null, .null, .int 0, .int 0, .null, .null, .int 0, .int 0, .int 0, .int 0, .int 0, .null, .null, .null, .int 0, .int 0, .int 0]
theorem fr0_ok : ∀ j, j < 7 → defaultValue (tyX0 j) = vp_V fr0 j := by decide +kernel
theorem fr1_ok : ∀ j, j < 10 → defaultValue (tyX1 j) = vp_V fr1 j := by decide +kernel
theorem fr2_ok : ∀ j, j < 21 → defaultValue (tyX2 j) = vp_V fr2 j := by decide +kernel

theorem zc_1 : (1 : Int32).toNatClampNeg = 1 := by decide +kernel
theorem zc_3 : (3 : Int32).toNatClampNeg = 3 := by decide +kernel
theorem zc_8 : (8 : Int32).toNatClampNeg = 8 := by decide +kernel
theorem zc_20 : (20 : Int32).toNatClampNeg = 20 := by decide +kernel
theorem zc_48 : (48 : Int32).toNatClampNeg = 48 := by decide +kernel
theorem zc_60 : (60 : Int32).toNatClampNeg = 60 := by decide +kernel
theorem zc_79 : (79 : Int32).toNatClampNeg = 79 := by decide +kernel
theorem zc_80 : (80 : Int32).toNatClampNeg = 80 := by decide +kernel
theorem zc_128 : (128 : Int32).toNatClampNeg = 128 := by decide +kernel
theorem gi_0 : gd (inb 0 3) (some ()) = some () := by decide +kernel
theorem gi_1 : gd (inb 1 3) (some ()) = some () := by decide +kernel
theorem gi_2 : gd (inb 2 3) (some ()) = some () := by decide +kernel
theorem yk_init : yX0_init.cls ≠ "java/lang/invoke/MethodHandle" ∧ yX0_init.cls ≠ "java/lang/invoke/VarHandle" ∧ (parseMethodDescriptor yX0_init.desc).map (fun d => d.parameters.length) = some 0 := ⟨by decide +kernel, by decide +kernel, by decide +kernel⟩
set_option maxRecDepth 20000 in
set_option maxHeartbeats 4000000 in
theorem c_X0_init (l : Launch) (hst : l.stackTraces = false) (h0 : Nat) : CoC (S := Nat → Nat) l yX0_init cX0_init 0 4 56 h0 [(h0, .inr (0, fr0))] (fun b => b 0 = h0) (fun b T => wI b v0I T) := by
  refine mkC hst (by decide +kernel) rfl (fun x hx o hi hR => ?_)
  refine g_aload_n o 0 rfl rfl dX0_init_0 ?_
  refine g_objInit o oi_lX0 (Nat.le_of_ble_eq_true rfl) dX0_init_1 ?_
  refine g_aload_n o 0 rfl rfl dX0_init_4 ?_
  refine g_iconst o ic_0 dX0_init_5 ?_
  refine g_put (wd2 := [(h0, .inr (0, [.int 0, .null, .null, .int 0, .int 0, .null, .null]))]) o inX0 tyX0 tyX0_ok nmX0 0 rfl rfl 0 (Nat.le_of_ble_eq_true rfl) rfl rfl (vp_nar_int _) rfl (Nat.le_of_ble_eq_true rfl) m_82 rfl dX0_init_6 ?_
  refine g_aload_n o 0 rfl rfl dX0_init_9 ?_
  refine g_bipush o bp_8 dX0_init_10 ?_
  refine g_newa_int o (by decide) zc_8 (by decide +kernel) (Nat.le_of_ble_eq_true rfl) (Nat.le_of_ble_eq_true rfl) dX0_init_12 (fun q0 => ?_)
  show G x 1 _ _ [(h0, .inr (0, [.int 0, .null, .null, .int 0, .int 0, .null, .null])), (q0, .inl (cxT x 0, 8, .inl (fun _ => 0)))] [(0, .ref h0)] 14 [.ref q0, .ref h0]
  refine g_putF o hi inX0 tyX0 tyX0_ok nmX0 0 rfl rfl 1 (Nat.le_of_ble_eq_true rfl) rfl rfl rfl rfl rfl (Nat.le_of_ble_eq_true rfl) m_84 [(h0, .inr (0, [.int 0, .ref q0, .null, .int 0, .int 0, .null, .null])), (q0, .inl (cxT x 0, 8, .inl (fun _ => 0)))] rfl dX0_init_14 ?_
  refine g_aload_n o 0 rfl rfl dX0_init_17 ?_
  refine g_bipush o bp_8 dX0_init_18 ?_
  refine g_newa_int o (by decide) zc_8 (by decide +kernel) (Nat.le_of_ble_eq_true rfl) (Nat.le_of_ble_eq_true rfl) dX0_init_20 (fun q1 => ?_)
  show G x 1 _ _ [(h0, .inr (0, [.int 0, .ref q0, .null, .int 0, .int 0, .null, .null])), (q0, .inl (cxT x 0, 8, .inl (fun _ => 0))), (q1, .inl (cxT x 0, 8, .inl (fun _ => 0)))] [(0, .ref h0)] 22 [.ref q1, .ref h0]
  refine g_putF o hi inX0 tyX0 tyX0_ok nmX0 0 rfl rfl 2 (Nat.le_of_ble_eq_true rfl) rfl rfl rfl rfl rfl (Nat.le_of_ble_eq_true rfl) m_86 [(h0, .inr (0, [.int 0, .ref q0, .ref q1, .int 0, .int 0, .null, .null])), (q0, .inl (cxT x 0, 8, .inl (fun _ => 0))), (q1, .inl (cxT x 0, 8, .inl (fun _ => 0)))] rfl dX0_init_22 ?_
  refine g_aload_n o 0 rfl rfl dX0_init_25 ?_
  refine g_iconst o ic_1 dX0_init_26 ?_
  refine g_put (wd2 := [(h0, .inr (0, [.int 0, .ref q0, .ref q1, .int 1, .int 0, .null, .null])), (q0, .inl (cxT x 0, 8, .inl (fun _ => 0))), (q1, .inl (cxT x 0, 8, .inl (fun _ => 0)))]) o inX0 tyX0 tyX0_ok nmX0 0 rfl rfl 3 (Nat.le_of_ble_eq_true rfl) rfl rfl (vp_nar_int _) rfl (Nat.le_of_ble_eq_true rfl) m_88 rfl dX0_init_27 ?_
  refine g_aload_n o 0 rfl rfl dX0_init_30 ?_
  refine g_iconst o ic_0 dX0_init_31 ?_
  refine g_put (wd2 := [(h0, .inr (0, [.int 0, .ref q0, .ref q1, .int 1, .int 0, .null, .null])), (q0, .inl (cxT x 0, 8, .inl (fun _ => 0))), (q1, .inl (cxT x 0, 8, .inl (fun _ => 0)))]) o inX0 tyX0 tyX0_ok nmX0 0 rfl rfl 4 (Nat.le_of_ble_eq_true rfl) rfl rfl (vp_nar_int _) rfl (Nat.le_of_ble_eq_true rfl) m_90 rfl dX0_init_32 ?_
  refine g_aload_n o 0 rfl rfl dX0_init_35 ?_
  refine g_bipush o bp_20 dX0_init_36 ?_
  refine g_newa_int o (by decide) zc_20 (by decide +kernel) (Nat.le_of_ble_eq_true rfl) (Nat.le_of_ble_eq_true rfl) dX0_init_38 (fun q2 => ?_)
  show G x 1 _ _ [(h0, .inr (0, [.int 0, .ref q0, .ref q1, .int 1, .int 0, .null, .null])), (q0, .inl (cxT x 0, 8, .inl (fun _ => 0))), (q1, .inl (cxT x 0, 8, .inl (fun _ => 0))), (q2, .inl (cxT x 0, 20, .inl (fun _ => 0)))] [(0, .ref h0)] 40 [.ref q2, .ref h0]
  refine g_putF o hi inX0 tyX0 tyX0_ok nmX0 0 rfl rfl 5 (Nat.le_of_ble_eq_true rfl) rfl rfl rfl rfl rfl (Nat.le_of_ble_eq_true rfl) m_92 [(h0, .inr (0, [.int 0, .ref q0, .ref q1, .int 1, .int 0, .ref q2, .null])), (q0, .inl (cxT x 0, 8, .inl (fun _ => 0))), (q1, .inl (cxT x 0, 8, .inl (fun _ => 0))), (q2, .inl (cxT x 0, 20, .inl (fun _ => 0)))] rfl dX0_init_40 ?_
  refine g_aload_n o 0 rfl rfl dX0_init_43 ?_
  refine g_bipush o bp_20 dX0_init_44 ?_
  refine g_newa_int o (by decide) zc_20 (by decide +kernel) (Nat.le_of_ble_eq_true rfl) (Nat.le_of_ble_eq_true rfl) dX0_init_46 (fun q3 => ?_)
  show G x 1 _ _ [(h0, .inr (0, [.int 0, .ref q0, .ref q1, .int 1, .int 0, .ref q2, .null])), (q0, .inl (cxT x 0, 8, .inl (fun _ => 0))), (q1, .inl (cxT x 0, 8, .inl (fun _ => 0))), (q2, .inl (cxT x 0, 20, .inl (fun _ => 0))), (q3, .inl (cxT x 0, 20, .inl (fun _ => 0)))] [(0, .ref h0)] 48 [.ref q3, .ref h0]
  refine g_putF o hi inX0 tyX0 tyX0_ok nmX0 0 rfl rfl 6 (Nat.le_of_ble_eq_true rfl) rfl rfl rfl rfl rfl (Nat.le_of_ble_eq_true rfl) m_94 [(h0, .inr (0, [.int 0, .ref q0, .ref q1, .int 1, .int 0, .ref q2, .ref q3])), (q0, .inl (cxT x 0, 8, .inl (fun _ => 0))), (q1, .inl (cxT x 0, 8, .inl (fun _ => 0))), (q2, .inl (cxT x 0, 20, .inl (fun _ => 0))), (q3, .inl (cxT x 0, 20, .inl (fun _ => 0)))] rfl dX0_init_48 ?_
  exact g_vret (hR (fun i => ([h0, q0, q1, 0, 0, q2, q3] : List Nat).getD i 0) rfl) (Nat.le_of_ble_eq_true rfl) (Nat.le_of_ble_eq_true rfl) dX0_init_51
set_option maxRecDepth 20000 in
set_option maxHeartbeats 4000000 in
theorem c_X1_init (l : Launch) (hst : l.stackTraces = false) (h0 : Nat) : CoC (S := (Nat → Nat) × (Nat → Nat) × (Nat → Nat)) l yX1_init cX1_init 1 14 271 h0 [(h0, .inr (1, fr1))] (fun s => s.1 0 = h0) (fun s T => wX s.1 u0X s.2.1 v0I s.2.2 v0I T) := by
  refine mkC hst (by decide +kernel) rfl (fun x hx o hi hR => ?_)
  refine g_aload_n o 0 rfl rfl dX1_init_0 ?_
  refine g_objInit o oi_lX1 (Nat.le_of_ble_eq_true rfl) dX1_init_1 ?_
  refine g_aload_n o 0 rfl rfl dX1_init_4 ?_
  refine g_new (ci := 0) o inX0 tyX0 tyX0_ok m_76 m_77 m_55 rfl fr0 fr0_ok (Nat.le_of_ble_eq_true rfl) (Nat.le_of_ble_eq_true rfl) dX1_init_5 (fun q0 => ?_)
  refine g_dup o rfl dX1_init_8 ?_
  refine gcCN o (c_X0_init (cxl x) o.2.2.2.2.2.2.2.2.2.1 q0) (fun b => [(h0, .inr (1, [.null, .null, .int 0, .null, .int 0, .int 0, .null, .int 0, .null, .null]))] ++ wI b v0I (cxT x)) [1] [0] [(h0, .inr (1, [.null, .null, .int 0, .null, .int 0, .int 0, .null, .int 0, .null, .null]))] rfl (by decide) rfl (by decide) (by decide) (fun _ => rfl) (Nat.le_of_ble_eq_true rfl) m_80 m_55 m_79 e_78 rfl yk_init (Nat.le_of_ble_eq_true rfl) ⟨(Nat.le_of_ble_eq_true rfl), (Nat.le_of_ble_eq_true rfl)⟩ dX1_init_9 (fun bq0 hbq0 => ?_)
  cases hbq0
  show G x 1 _ _ [(h0, .inr (1, [.null, .null, .int 0, .null, .int 0, .int 0, .null, .int 0, .null, .null])), (bq0 0, .inr (0, [.int 0, .ref (bq0 1), .ref (bq0 2), .int 1, .int 0, .ref (bq0 5), .ref (bq0 6)])), (bq0 1, .inl (cxT x 0, 8, .inl (fun _ => 0))), (bq0 2, .inl (cxT x 0, 8, .inl (fun _ => 0))), (bq0 5, .inl (cxT x 0, 20, .inl (fun _ => 0))), (bq0 6, .inl (cxT x 0, 20, .inl (fun _ => 0)))] [(0, .ref h0)] 12 [.ref (bq0 0), .ref h0]
  refine g_putF o hi inX1 tyX1 tyX1_ok nmX1 0 rfl rfl 0 (Nat.le_of_ble_eq_true rfl) rfl rfl rfl rfl rfl (Nat.le_of_ble_eq_true rfl) m_112 [(h0, .inr (1, [.ref (bq0 0), .null, .int 0, .null, .int 0, .int 0, .null, .int 0, .null, .null])), (bq0 0, .inr (0, [.int 0, .ref (bq0 1), .ref (bq0 2), .int 1, .int 0, .ref (bq0 5), .ref (bq0 6)])), (bq0 1, .inl (cxT x 0, 8, .inl (fun _ => 0))), (bq0 2, .inl (cxT x 0, 8, .inl (fun _ => 0))), (bq0 5, .inl (cxT x 0, 20, .inl (fun _ => 0))), (bq0 6, .inl (cxT x 0, 20, .inl (fun _ => 0)))] rfl dX1_init_12 ?_
  refine g_aload_n o 0 rfl rfl dX1_init_15 ?_
  refine g_new (ci := 0) o inX0 tyX0 tyX0_ok m_76 m_77 m_55 rfl fr0 fr0_ok (Nat.le_of_ble_eq_true rfl) (Nat.le_of_ble_eq_true rfl) dX1_init_16 (fun q1 => ?_)
  refine g_dup o rfl dX1_init_19 ?_
  refine gcCN o (c_X0_init (cxl x) o.2.2.2.2.2.2.2.2.2.1 q1) (fun b => [(h0, .inr (1, [.ref (bq0 0), .null, .int 0, .null, .int 0, .int 0, .null, .int 0, .null, .null])), (bq0 0, .inr (0, [.int 0, .ref (bq0 1), .ref (bq0 2), .int 1, .int 0, .ref (bq0 5), .ref (bq0 6)])), (bq0 1, .inl (cxT x 0, 8, .inl (fun _ => 0))), (bq0 2, .inl (cxT x 0, 8, .inl (fun _ => 0))), (bq0 5, .inl (cxT x 0, 20, .inl (fun _ => 0))), (bq0 6, .inl (cxT x 0, 20, .inl (fun _ => 0)))] ++ wI b v0I (cxT x)) [6] [0, 1, 2, 3, 4, 5] [(h0, .inr (1, [.ref (bq0 0), .null, .int 0, .null, .int 0, .int 0, .null, .int 0, .null, .null])), (bq0 0, .inr (0, [.int 0, .ref (bq0 1), .ref (bq0 2), .int 1, .int 0, .ref (bq0 5), .ref (bq0 6)])), (bq0 1, .inl (cxT x 0, 8, .inl (fun _ => 0))), (bq0 2, .inl (cxT x 0, 8, .inl (fun _ => 0))), (bq0 5, .inl (cxT x 0, 20, .inl (fun _ => 0))), (bq0 6, .inl (cxT x 0, 20, .inl (fun _ => 0)))] rfl (by decide) rfl (by decide) (by decide) (fun _ => rfl) (Nat.le_of_ble_eq_true rfl) m_80 m_55 m_79 e_78 rfl yk_init (Nat.le_of_ble_eq_true rfl) ⟨(Nat.le_of_ble_eq_true rfl), (Nat.le_of_ble_eq_true rfl)⟩ dX1_init_20 (fun bq1 hbq1 => ?_)
  cases hbq1
  show G x 1 _ _ [(h0, .inr (1, [.ref (bq0 0), .null, .int 0, .null, .int 0, .int 0, .null, .int 0, .null, .null])), (bq0 0, .inr (0, [.int 0, .ref (bq0 1), .ref (bq0 2), .int 1, .int 0, .ref (bq0 5), .ref (bq0 6)])), (bq0 1, .inl (cxT x 0, 8, .inl (fun _ => 0))), (bq0 2, .inl (cxT x 0, 8, .inl (fun _ => 0))), (bq0 5, .inl (cxT x 0, 20, .inl (fun _ => 0))), (bq0 6, .inl (cxT x 0, 20, .inl (fun _ => 0))), (bq1 0, .inr (0, [.int 0, .ref (bq1 1), .ref (bq1 2), .int 1, .int 0, .ref (bq1 5), .ref (bq1 6)])), (bq1 1, .inl (cxT x 0, 8, .inl (fun _ => 0))), (bq1 2, .inl (cxT x 0, 8, .inl (fun _ => 0))), (bq1 5, .inl (cxT x 0, 20, .inl (fun _ => 0))), (bq1 6, .inl (cxT x 0, 20, .inl (fun _ => 0)))] [(0, .ref h0)] 23 [.ref (bq1 0), .ref h0]
  refine g_putF o hi inX1 tyX1 tyX1_ok nmX1 0 rfl rfl 1 (Nat.le_of_ble_eq_true rfl) rfl rfl rfl rfl rfl (Nat.le_of_ble_eq_true rfl) m_113 [(h0, .inr (1, [.ref (bq0 0), .ref (bq1 0), .int 0, .null, .int 0, .int 0, .null, .int 0, .null, .null])), (bq0 0, .inr (0, [.int 0, .ref (bq0 1), .ref (bq0 2), .int 1, .int 0, .ref (bq0 5), .ref (bq0 6)])), (bq0 1, .inl (cxT x 0, 8, .inl (fun _ => 0))), (bq0 2, .inl (cxT x 0, 8, .inl (fun _ => 0))), (bq0 5, .inl (cxT x 0, 20, .inl (fun _ => 0))), (bq0 6, .inl (cxT x 0, 20, .inl (fun _ => 0))), (bq1 0, .inr (0, [.int 0, .ref (bq1 1), .ref (bq1 2), .int 1, .int 0, .ref (bq1 5), .ref (bq1 6)])), (bq1 1, .inl (cxT x 0, 8, .inl (fun _ => 0))), (bq1 2, .inl (cxT x 0, 8, .inl (fun _ => 0))), (bq1 5, .inl (cxT x 0, 20, .inl (fun _ => 0))), (bq1 6, .inl (cxT x 0, 20, .inl (fun _ => 0)))] rfl dX1_init_23 ?_
  refine g_aload_n o 0 rfl rfl dX1_init_26 ?_
  refine g_iconst o ic_0 dX1_init_27 ?_
  refine g_put (wd2 := [(h0, .inr (1, [.ref (bq0 0), .ref (bq1 0), .int 0, .null, .int 0, .int 0, .null, .int 0, .null, .null])), (bq0 0, .inr (0, [.int 0, .ref (bq0 1), .ref (bq0 2), .int 1, .int 0, .ref (bq0 5), .ref (bq0 6)])), (bq0 1, .inl (cxT x 0, 8, .inl (fun _ => 0))), (bq0 2, .inl (cxT x 0, 8, .inl (fun _ => 0))), (bq0 5, .inl (cxT x 0, 20, .inl (fun _ => 0))), (bq0 6, .inl (cxT x 0, 20, .inl (fun _ => 0))), (bq1 0, .inr (0, [.int 0, .ref (bq1 1), .ref (bq1 2), .int 1, .int 0, .ref (bq1 5), .ref (bq1 6)])), (bq1 1, .inl (cxT x 0, 8, .inl (fun _ => 0))), (bq1 2, .inl (cxT x 0, 8, .inl (fun _ => 0))), (bq1 5, .inl (cxT x 0, 20, .inl (fun _ => 0))), (bq1 6, .inl (cxT x 0, 20, .inl (fun _ => 0)))]) o inX1 tyX1 tyX1_ok nmX1 0 rfl rfl 2 (Nat.le_of_ble_eq_true rfl) rfl rfl nb_0 (okB_f ob_0) (Nat.le_of_ble_eq_true rfl) m_114 rfl dX1_init_28 ?_
  refine g_aload_n o 0 rfl rfl dX1_init_31 ?_
  refine g_bipush o bp_60 dX1_init_32 ?_
  refine g_newa_char o (by decide) zc_60 (by decide +kernel) (Nat.le_of_ble_eq_true rfl) (Nat.le_of_ble_eq_true rfl) dX1_init_34 (fun q2 => ?_)
  show G x 1 _ _ [(h0, .inr (1, [.ref (bq0 0), .ref (bq1 0), .int 0, .null, .int 0, .int 0, .null, .int 0, .null, .null])), (bq0 0, .inr (0, [.int 0, .ref (bq0 1), .ref (bq0 2), .int 1, .int 0, .ref (bq0 5), .ref (bq0 6)])), (bq0 1, .inl (cxT x 0, 8, .inl (fun _ => 0))), (bq0 2, .inl (cxT x 0, 8, .inl (fun _ => 0))), (bq0 5, .inl (cxT x 0, 20, .inl (fun _ => 0))), (bq0 6, .inl (cxT x 0, 20, .inl (fun _ => 0))), (bq1 0, .inr (0, [.int 0, .ref (bq1 1), .ref (bq1 2), .int 1, .int 0, .ref (bq1 5), .ref (bq1 6)])), (bq1 1, .inl (cxT x 0, 8, .inl (fun _ => 0))), (bq1 2, .inl (cxT x 0, 8, .inl (fun _ => 0))), (bq1 5, .inl (cxT x 0, 20, .inl (fun _ => 0))), (bq1 6, .inl (cxT x 0, 20, .inl (fun _ => 0))), (q2, .inl (cxT x 1, 60, .inl (fun _ => 0)))] [(0, .ref h0)] 36 [.ref q2, .ref h0]
  refine g_putF o hi inX1 tyX1 tyX1_ok nmX1 0 rfl rfl 3 (Nat.le_of_ble_eq_true rfl) rfl rfl rfl rfl rfl (Nat.le_of_ble_eq_true rfl) m_115 [(h0, .inr (1, [.ref (bq0 0), .ref (bq1 0), .int 0, .ref q2, .int 0, .int 0, .null, .int 0, .null, .null])), (bq0 0, .inr (0, [.int 0, .ref (bq0 1), .ref (bq0 2), .int 1, .int 0, .ref (bq0 5), .ref (bq0 6)])), (bq0 1, .inl (cxT x 0, 8, .inl (fun _ => 0))), (bq0 2, .inl (cxT x 0, 8, .inl (fun _ => 0))), (bq0 5, .inl (cxT x 0, 20, .inl (fun _ => 0))), (bq0 6, .inl (cxT x 0, 20, .inl (fun _ => 0))), (bq1 0, .inr (0, [.int 0, .ref (bq1 1), .ref (bq1 2), .int 1, .int 0, .ref (bq1 5), .ref (bq1 6)])), (bq1 1, .inl (cxT x 0, 8, .inl (fun _ => 0))), (bq1 2, .inl (cxT x 0, 8, .inl (fun _ => 0))), (bq1 5, .inl (cxT x 0, 20, .inl (fun _ => 0))), (bq1 6, .inl (cxT x 0, 20, .inl (fun _ => 0))), (q2, .inl (cxT x 1, 60, .inl (fun _ => 0)))] rfl dX1_init_36 ?_
  refine g_aload_n o 0 rfl rfl dX1_init_39 ?_
  refine g_iconst o ic_0 dX1_init_40 ?_
  refine g_put (wd2 := [(h0, .inr (1, [.ref (bq0 0), .ref (bq1 0), .int 0, .ref q2, .int 0, .int 0, .null, .int 0, .null, .null])), (bq0 0, .inr (0, [.int 0, .ref (bq0 1), .ref (bq0 2), .int 1, .int 0, .ref (bq0 5), .ref (bq0 6)])), (bq0 1, .inl (cxT x 0, 8, .inl (fun _ => 0))), (bq0 2, .inl (cxT x 0, 8, .inl (fun _ => 0))), (bq0 5, .inl (cxT x 0, 20, .inl (fun _ => 0))), (bq0 6, .inl (cxT x 0, 20, .inl (fun _ => 0))), (bq1 0, .inr (0, [.int 0, .ref (bq1 1), .ref (bq1 2), .int 1, .int 0, .ref (bq1 5), .ref (bq1 6)])), (bq1 1, .inl (cxT x 0, 8, .inl (fun _ => 0))), (bq1 2, .inl (cxT x 0, 8, .inl (fun _ => 0))), (bq1 5, .inl (cxT x 0, 20, .inl (fun _ => 0))), (bq1 6, .inl (cxT x 0, 20, .inl (fun _ => 0))), (q2, .inl (cxT x 1, 60, .inl (fun _ => 0)))]) o inX1 tyX1 tyX1_ok nmX1 0 rfl rfl 4 (Nat.le_of_ble_eq_true rfl) rfl rfl (vp_nar_int _) rfl (Nat.le_of_ble_eq_true rfl) m_116 rfl dX1_init_41 ?_
  refine g_aload_n o 0 rfl rfl dX1_init_44 ?_
  refine g_iconst o ic_m1 dX1_init_45 ?_
  refine g_put (wd2 := [(h0, .inr (1, [.ref (bq0 0), .ref (bq1 0), .int 0, .ref q2, .int 0, .int (-1), .null, .int 0, .null, .null])), (bq0 0, .inr (0, [.int 0, .ref (bq0 1), .ref (bq0 2), .int 1, .int 0, .ref (bq0 5), .ref (bq0 6)])), (bq0 1, .inl (cxT x 0, 8, .inl (fun _ => 0))), (bq0 2, .inl (cxT x 0, 8, .inl (fun _ => 0))), (bq0 5, .inl (cxT x 0, 20, .inl (fun _ => 0))), (bq0 6, .inl (cxT x 0, 20, .inl (fun _ => 0))), (bq1 0, .inr (0, [.int 0, .ref (bq1 1), .ref (bq1 2), .int 1, .int 0, .ref (bq1 5), .ref (bq1 6)])), (bq1 1, .inl (cxT x 0, 8, .inl (fun _ => 0))), (bq1 2, .inl (cxT x 0, 8, .inl (fun _ => 0))), (bq1 5, .inl (cxT x 0, 20, .inl (fun _ => 0))), (bq1 6, .inl (cxT x 0, 20, .inl (fun _ => 0))), (q2, .inl (cxT x 1, 60, .inl (fun _ => 0)))]) o inX1 tyX1 tyX1_ok nmX1 0 rfl rfl 5 (Nat.le_of_ble_eq_true rfl) rfl rfl (vp_nar_int _) rfl (Nat.le_of_ble_eq_true rfl) m_117 rfl dX1_init_46 ?_
  refine g_aload_n o 0 rfl rfl dX1_init_49 ?_
  refine g_bipush o bp_79 dX1_init_50 ?_
  refine g_newa_char o (by decide) zc_79 (by decide +kernel) (Nat.le_of_ble_eq_true rfl) (Nat.le_of_ble_eq_true rfl) dX1_init_52 (fun q3 => ?_)
  show G x 1 _ _ [(h0, .inr (1, [.ref (bq0 0), .ref (bq1 0), .int 0, .ref q2, .int 0, .int (-1), .null, .int 0, .null, .null])), (bq0 0, .inr (0, [.int 0, .ref (bq0 1), .ref (bq0 2), .int 1, .int 0, .ref (bq0 5), .ref (bq0 6)])), (bq0 1, .inl (cxT x 0, 8, .inl (fun _ => 0))), (bq0 2, .inl (cxT x 0, 8, .inl (fun _ => 0))), (bq0 5, .inl (cxT x 0, 20, .inl (fun _ => 0))), (bq0 6, .inl (cxT x 0, 20, .inl (fun _ => 0))), (bq1 0, .inr (0, [.int 0, .ref (bq1 1), .ref (bq1 2), .int 1, .int 0, .ref (bq1 5), .ref (bq1 6)])), (bq1 1, .inl (cxT x 0, 8, .inl (fun _ => 0))), (bq1 2, .inl (cxT x 0, 8, .inl (fun _ => 0))), (bq1 5, .inl (cxT x 0, 20, .inl (fun _ => 0))), (bq1 6, .inl (cxT x 0, 20, .inl (fun _ => 0))), (q2, .inl (cxT x 1, 60, .inl (fun _ => 0))), (q3, .inl (cxT x 1, 79, .inl (fun _ => 0)))] [(0, .ref h0)] 54 [.ref q3, .ref h0]
  refine g_putF o hi inX1 tyX1 tyX1_ok nmX1 0 rfl rfl 6 (Nat.le_of_ble_eq_true rfl) rfl rfl rfl rfl rfl (Nat.le_of_ble_eq_true rfl) m_118 [(h0, .inr (1, [.ref (bq0 0), .ref (bq1 0), .int 0, .ref q2, .int 0, .int (-1), .ref q3, .int 0, .null, .null])), (bq0 0, .inr (0, [.int 0, .ref (bq0 1), .ref (bq0 2), .int 1, .int 0, .ref (bq0 5), .ref (bq0 6)])), (bq0 1, .inl (cxT x 0, 8, .inl (fun _ => 0))), (bq0 2, .inl (cxT x 0, 8, .inl (fun _ => 0))), (bq0 5, .inl (cxT x 0, 20, .inl (fun _ => 0))), (bq0 6, .inl (cxT x 0, 20, .inl (fun _ => 0))), (bq1 0, .inr (0, [.int 0, .ref (bq1 1), .ref (bq1 2), .int 1, .int 0, .ref (bq1 5), .ref (bq1 6)])), (bq1 1, .inl (cxT x 0, 8, .inl (fun _ => 0))), (bq1 2, .inl (cxT x 0, 8, .inl (fun _ => 0))), (bq1 5, .inl (cxT x 0, 20, .inl (fun _ => 0))), (bq1 6, .inl (cxT x 0, 20, .inl (fun _ => 0))), (q2, .inl (cxT x 1, 60, .inl (fun _ => 0))), (q3, .inl (cxT x 1, 79, .inl (fun _ => 0)))] rfl dX1_init_54 ?_
  refine g_aload_n o 0 rfl rfl dX1_init_57 ?_
  refine g_iconst o ic_0 dX1_init_58 ?_
  refine g_put (wd2 := [(h0, .inr (1, [.ref (bq0 0), .ref (bq1 0), .int 0, .ref q2, .int 0, .int (-1), .ref q3, .int 0, .null, .null])), (bq0 0, .inr (0, [.int 0, .ref (bq0 1), .ref (bq0 2), .int 1, .int 0, .ref (bq0 5), .ref (bq0 6)])), (bq0 1, .inl (cxT x 0, 8, .inl (fun _ => 0))), (bq0 2, .inl (cxT x 0, 8, .inl (fun _ => 0))), (bq0 5, .inl (cxT x 0, 20, .inl (fun _ => 0))), (bq0 6, .inl (cxT x 0, 20, .inl (fun _ => 0))), (bq1 0, .inr (0, [.int 0, .ref (bq1 1), .ref (bq1 2), .int 1, .int 0, .ref (bq1 5), .ref (bq1 6)])), (bq1 1, .inl (cxT x 0, 8, .inl (fun _ => 0))), (bq1 2, .inl (cxT x 0, 8, .inl (fun _ => 0))), (bq1 5, .inl (cxT x 0, 20, .inl (fun _ => 0))), (bq1 6, .inl (cxT x 0, 20, .inl (fun _ => 0))), (q2, .inl (cxT x 1, 60, .inl (fun _ => 0))), (q3, .inl (cxT x 1, 79, .inl (fun _ => 0)))]) o inX1 tyX1 tyX1_ok nmX1 0 rfl rfl 7 (Nat.le_of_ble_eq_true rfl) rfl rfl (vp_nar_int _) rfl (Nat.le_of_ble_eq_true rfl) m_119 rfl dX1_init_59 ?_
  refine g_aload_n o 0 rfl rfl dX1_init_62 ?_
  refine g_iconst o ic_3 dX1_init_63 ?_
  refine g_newa_int o (by decide) zc_3 (by decide +kernel) (Nat.le_of_ble_eq_true rfl) (Nat.le_of_ble_eq_true rfl) dX1_init_64 (fun q4 => ?_)
  show G x 1 _ _ [(h0, .inr (1, [.ref (bq0 0), .ref (bq1 0), .int 0, .ref q2, .int 0, .int (-1), .ref q3, .int 0, .null, .null])), (bq0 0, .inr (0, [.int 0, .ref (bq0 1), .ref (bq0 2), .int 1, .int 0, .ref (bq0 5), .ref (bq0 6)])), (bq0 1, .inl (cxT x 0, 8, .inl (fun _ => 0))), (bq0 2, .inl (cxT x 0, 8, .inl (fun _ => 0))), (bq0 5, .inl (cxT x 0, 20, .inl (fun _ => 0))), (bq0 6, .inl (cxT x 0, 20, .inl (fun _ => 0))), (bq1 0, .inr (0, [.int 0, .ref (bq1 1), .ref (bq1 2), .int 1, .int 0, .ref (bq1 5), .ref (bq1 6)])), (bq1 1, .inl (cxT x 0, 8, .inl (fun _ => 0))), (bq1 2, .inl (cxT x 0, 8, .inl (fun _ => 0))), (bq1 5, .inl (cxT x 0, 20, .inl (fun _ => 0))), (bq1 6, .inl (cxT x 0, 20, .inl (fun _ => 0))), (q2, .inl (cxT x 1, 60, .inl (fun _ => 0))), (q3, .inl (cxT x 1, 79, .inl (fun _ => 0))), (q4, .inl (cxT x 0, 3, .inl (fun _ => 0)))] [(0, .ref h0)] 66 [.ref q4, .ref h0]
  refine g_dup o rfl dX1_init_66 ?_
  refine g_iconst o ic_0 dX1_init_67 ?_
  refine g_iconst o ic_m1 dX1_init_68 ?_
  refine g_iast (wd2 := [(h0, .inr (1, [.ref (bq0 0), .ref (bq1 0), .int 0, .ref q2, .int 0, .int (-1), .ref q3, .int 0, .null, .null])), (bq0 0, .inr (0, [.int 0, .ref (bq0 1), .ref (bq0 2), .int 1, .int 0, .ref (bq0 5), .ref (bq0 6)])), (bq0 1, .inl (cxT x 0, 8, .inl (fun _ => 0))), (bq0 2, .inl (cxT x 0, 8, .inl (fun _ => 0))), (bq0 5, .inl (cxT x 0, 20, .inl (fun _ => 0))), (bq0 6, .inl (cxT x 0, 20, .inl (fun _ => 0))), (bq1 0, .inr (0, [.int 0, .ref (bq1 1), .ref (bq1 2), .int 1, .int 0, .ref (bq1 5), .ref (bq1 6)])), (bq1 1, .inl (cxT x 0, 8, .inl (fun _ => 0))), (bq1 2, .inl (cxT x 0, 8, .inl (fun _ => 0))), (bq1 5, .inl (cxT x 0, 20, .inl (fun _ => 0))), (bq1 6, .inl (cxT x 0, 20, .inl (fun _ => 0))), (q2, .inl (cxT x 1, 60, .inl (fun _ => 0))), (q3, .inl (cxT x 1, 79, .inl (fun _ => 0))), (q4, .inl (cxT x 0, 3, .inl (upd (fun _ => 0) (0 : Int32).toNatClampNeg (-1))))]) o 13 rfl rfl dX1_init_69 gi_0 (fun _ => ?_)
  refine g_dup o rfl dX1_init_70 ?_
  refine g_iconst o ic_1 dX1_init_71 ?_
  refine g_iconst o ic_m1 dX1_init_72 ?_
  refine g_iast (wd2 := [(h0, .inr (1, [.ref (bq0 0), .ref (bq1 0), .int 0, .ref q2, .int 0, .int (-1), .ref q3, .int 0, .null, .null])), (bq0 0, .inr (0, [.int 0, .ref (bq0 1), .ref (bq0 2), .int 1, .int 0, .ref (bq0 5), .ref (bq0 6)])), (bq0 1, .inl (cxT x 0, 8, .inl (fun _ => 0))), (bq0 2, .inl (cxT x 0, 8, .inl (fun _ => 0))), (bq0 5, .inl (cxT x 0, 20, .inl (fun _ => 0))), (bq0 6, .inl (cxT x 0, 20, .inl (fun _ => 0))), (bq1 0, .inr (0, [.int 0, .ref (bq1 1), .ref (bq1 2), .int 1, .int 0, .ref (bq1 5), .ref (bq1 6)])), (bq1 1, .inl (cxT x 0, 8, .inl (fun _ => 0))), (bq1 2, .inl (cxT x 0, 8, .inl (fun _ => 0))), (bq1 5, .inl (cxT x 0, 20, .inl (fun _ => 0))), (bq1 6, .inl (cxT x 0, 20, .inl (fun _ => 0))), (q2, .inl (cxT x 1, 60, .inl (fun _ => 0))), (q3, .inl (cxT x 1, 79, .inl (fun _ => 0))), (q4, .inl (cxT x 0, 3, .inl (upd (upd (fun _ => 0) (0 : Int32).toNatClampNeg (-1)) (1 : Int32).toNatClampNeg (-1))))]) o 13 rfl rfl dX1_init_73 gi_1 (fun _ => ?_)
  refine g_dup o rfl dX1_init_74 ?_
  refine g_iconst o ic_2 dX1_init_75 ?_
  refine g_iconst o ic_m1 dX1_init_76 ?_
  refine g_iast (wd2 := [(h0, .inr (1, [.ref (bq0 0), .ref (bq1 0), .int 0, .ref q2, .int 0, .int (-1), .ref q3, .int 0, .null, .null])), (bq0 0, .inr (0, [.int 0, .ref (bq0 1), .ref (bq0 2), .int 1, .int 0, .ref (bq0 5), .ref (bq0 6)])), (bq0 1, .inl (cxT x 0, 8, .inl (fun _ => 0))), (bq0 2, .inl (cxT x 0, 8, .inl (fun _ => 0))), (bq0 5, .inl (cxT x 0, 20, .inl (fun _ => 0))), (bq0 6, .inl (cxT x 0, 20, .inl (fun _ => 0))), (bq1 0, .inr (0, [.int 0, .ref (bq1 1), .ref (bq1 2), .int 1, .int 0, .ref (bq1 5), .ref (bq1 6)])), (bq1 1, .inl (cxT x 0, 8, .inl (fun _ => 0))), (bq1 2, .inl (cxT x 0, 8, .inl (fun _ => 0))), (bq1 5, .inl (cxT x 0, 20, .inl (fun _ => 0))), (bq1 6, .inl (cxT x 0, 20, .inl (fun _ => 0))), (q2, .inl (cxT x 1, 60, .inl (fun _ => 0))), (q3, .inl (cxT x 1, 79, .inl (fun _ => 0))), (q4, .inl (cxT x 0, 3, .inl (upd (upd (upd (fun _ => 0) (0 : Int32).toNatClampNeg (-1)) (1 : Int32).toNatClampNeg (-1)) (2 : Int32).toNatClampNeg (-1))))]) o 13 rfl rfl dX1_init_77 gi_2 (fun _ => ?_)
  refine g_putF o hi inX1 tyX1 tyX1_ok nmX1 0 rfl rfl 8 (Nat.le_of_ble_eq_true rfl) rfl rfl rfl rfl rfl (Nat.le_of_ble_eq_true rfl) m_120 [(h0, .inr (1, [.ref (bq0 0), .ref (bq1 0), .int 0, .ref q2, .int 0, .int (-1), .ref q3, .int 0, .ref q4, .null])), (bq0 0, .inr (0, [.int 0, .ref (bq0 1), .ref (bq0 2), .int 1, .int 0, .ref (bq0 5), .ref (bq0 6)])), (bq0 1, .inl (cxT x 0, 8, .inl (fun _ => 0))), (bq0 2, .inl (cxT x 0, 8, .inl (fun _ => 0))), (bq0 5, .inl (cxT x 0, 20, .inl (fun _ => 0))), (bq0 6, .inl (cxT x 0, 20, .inl (fun _ => 0))), (bq1 0, .inr (0, [.int 0, .ref (bq1 1), .ref (bq1 2), .int 1, .int 0, .ref (bq1 5), .ref (bq1 6)])), (bq1 1, .inl (cxT x 0, 8, .inl (fun _ => 0))), (bq1 2, .inl (cxT x 0, 8, .inl (fun _ => 0))), (bq1 5, .inl (cxT x 0, 20, .inl (fun _ => 0))), (bq1 6, .inl (cxT x 0, 20, .inl (fun _ => 0))), (q2, .inl (cxT x 1, 60, .inl (fun _ => 0))), (q3, .inl (cxT x 1, 79, .inl (fun _ => 0))), (q4, .inl (cxT x 0, 3, .inl (upd (upd (upd (fun _ => 0) (0 : Int32).toNatClampNeg (-1)) (1 : Int32).toNatClampNeg (-1)) (2 : Int32).toNatClampNeg (-1))))] rfl dX1_init_78 ?_
  refine g_aload_n o 0 rfl rfl dX1_init_81 ?_
  refine g_iconst o ic_3 dX1_init_82 ?_
  refine g_newa_int o (by decide) zc_3 (by decide +kernel) (Nat.le_of_ble_eq_true rfl) (Nat.le_of_ble_eq_true rfl) dX1_init_83 (fun q5 => ?_)
  show G x 1 _ _ [(h0, .inr (1, [.ref (bq0 0), .ref (bq1 0), .int 0, .ref q2, .int 0, .int (-1), .ref q3, .int 0, .ref q4, .null])), (bq0 0, .inr (0, [.int 0, .ref (bq0 1), .ref (bq0 2), .int 1, .int 0, .ref (bq0 5), .ref (bq0 6)])), (bq0 1, .inl (cxT x 0, 8, .inl (fun _ => 0))), (bq0 2, .inl (cxT x 0, 8, .inl (fun _ => 0))), (bq0 5, .inl (cxT x 0, 20, .inl (fun _ => 0))), (bq0 6, .inl (cxT x 0, 20, .inl (fun _ => 0))), (bq1 0, .inr (0, [.int 0, .ref (bq1 1), .ref (bq1 2), .int 1, .int 0, .ref (bq1 5), .ref (bq1 6)])), (bq1 1, .inl (cxT x 0, 8, .inl (fun _ => 0))), (bq1 2, .inl (cxT x 0, 8, .inl (fun _ => 0))), (bq1 5, .inl (cxT x 0, 20, .inl (fun _ => 0))), (bq1 6, .inl (cxT x 0, 20, .inl (fun _ => 0))), (q2, .inl (cxT x 1, 60, .inl (fun _ => 0))), (q3, .inl (cxT x 1, 79, .inl (fun _ => 0))), (q4, .inl (cxT x 0, 3, .inl (upd (upd (upd (fun _ => 0) (0 : Int32).toNatClampNeg (-1)) (1 : Int32).toNatClampNeg (-1)) (2 : Int32).toNatClampNeg (-1)))), (q5, .inl (cxT x 0, 3, .inl (fun _ => 0)))] [(0, .ref h0)] 85 [.ref q5, .ref h0]
  refine g_putF o hi inX1 tyX1 tyX1_ok nmX1 0 rfl rfl 9 (Nat.le_of_ble_eq_true rfl) rfl rfl rfl rfl rfl (Nat.le_of_ble_eq_true rfl) m_121 [(h0, .inr (1, [.ref (bq0 0), .ref (bq1 0), .int 0, .ref q2, .int 0, .int (-1), .ref q3, .int 0, .ref q4, .ref q5])), (bq0 0, .inr (0, [.int 0, .ref (bq0 1), .ref (bq0 2), .int 1, .int 0, .ref (bq0 5), .ref (bq0 6)])), (bq0 1, .inl (cxT x 0, 8, .inl (fun _ => 0))), (bq0 2, .inl (cxT x 0, 8, .inl (fun _ => 0))), (bq0 5, .inl (cxT x 0, 20, .inl (fun _ => 0))), (bq0 6, .inl (cxT x 0, 20, .inl (fun _ => 0))), (bq1 0, .inr (0, [.int 0, .ref (bq1 1), .ref (bq1 2), .int 1, .int 0, .ref (bq1 5), .ref (bq1 6)])), (bq1 1, .inl (cxT x 0, 8, .inl (fun _ => 0))), (bq1 2, .inl (cxT x 0, 8, .inl (fun _ => 0))), (bq1 5, .inl (cxT x 0, 20, .inl (fun _ => 0))), (bq1 6, .inl (cxT x 0, 20, .inl (fun _ => 0))), (q2, .inl (cxT x 1, 60, .inl (fun _ => 0))), (q3, .inl (cxT x 1, 79, .inl (fun _ => 0))), (q4, .inl (cxT x 0, 3, .inl (upd (upd (upd (fun _ => 0) (0 : Int32).toNatClampNeg (-1)) (1 : Int32).toNatClampNeg (-1)) (2 : Int32).toNatClampNeg (-1)))), (q5, .inl (cxT x 0, 3, .inl (fun _ => 0)))] rfl dX1_init_85 ?_
  have hF := hR ((fun i => ([h0, 0, 0, q2, 0, 0, q3, 0, q4, q5] : List Nat).getD i 0), bq0, bq1) rfl
  intro H locs ls hP hD hS hl
  exact hF _ _ _ H locs ls (Nat.le_of_ble_eq_true rfl) (Nat.le_of_ble_eq_true rfl) dX1_init_88 (hP.sub [0, 11, 12, 13, 14, 1, 2, 3, 4, 5, 6, 7, 8, 9, 10] rfl) (hD.sub [0, 11, 12, 13, 14, 1, 2, 3, 4, 5, 6, 7, 8, 9, 10] (by decide) rfl) hS
set_option maxRecDepth 20000 in
set_option maxHeartbeats 4000000 in
theorem c_X2_init (l : Launch) (hst : l.stackTraces = false) (h0 : Nat) : CoC (S := Nat → Nat) l yX2_init cX2_init 0 9 435 h0 [(h0, .inr (2, fr2))] (fun a => a 0 = h0) (fun a T => wM a m0M T) := by
  refine mkC hst (by decide +kernel) rfl (fun x hx o hi hR => ?_)
  refine g_aload_n o 0 rfl rfl dX2_init_0 ?_
  refine g_objInit o oi_lX2 (Nat.le_of_ble_eq_true rfl) dX2_init_1 ?_
  refine g_aload_n o 0 rfl rfl dX2_init_4 ?_
  refine g_bipush o bp_8 dX2_init_5 ?_
  refine g_newa_int o (by decide) zc_8 (by decide +kernel) (Nat.le_of_ble_eq_true rfl) (Nat.le_of_ble_eq_true rfl) dX2_init_7 (fun q0 => ?_)
  show G x 1 _ _ [(h0, .inr (2, [.int 0, .null, .null, .int 0, .null, .null, .int 0, .int 0, .null, .null, .int 0, .int 0, .int 0, .int 0, .int 0, .null, .null, .null, .int 0, .int 0, .int 0])), (q0, .inl (cxT x 0, 8, .inl (fun _ => 0)))] [(0, .ref h0)] 9 [.ref q0, .ref h0]
  refine g_putF o hi inX2 tyX2 tyX2_ok nmX2 0 rfl rfl 1 (Nat.le_of_ble_eq_true rfl) rfl rfl rfl rfl rfl (Nat.le_of_ble_eq_true rfl) m_920 [(h0, .inr (2, [.int 0, .ref q0, .null, .int 0, .null, .null, .int 0, .int 0, .null, .null, .int 0, .int 0, .int 0, .int 0, .int 0, .null, .null, .null, .int 0, .int 0, .int 0])), (q0, .inl (cxT x 0, 8, .inl (fun _ => 0)))] rfl dX2_init_9 ?_
  refine g_aload_n o 0 rfl rfl dX2_init_12 ?_
  refine g_bipush o bp_8 dX2_init_13 ?_
  refine g_newa_int o (by decide) zc_8 (by decide +kernel) (Nat.le_of_ble_eq_true rfl) (Nat.le_of_ble_eq_true rfl) dX2_init_15 (fun q1 => ?_)
  show G x 1 _ _ [(h0, .inr (2, [.int 0, .ref q0, .null, .int 0, .null, .null, .int 0, .int 0, .null, .null, .int 0, .int 0, .int 0, .int 0, .int 0, .null, .null, .null, .int 0, .int 0, .int 0])), (q0, .inl (cxT x 0, 8, .inl (fun _ => 0))), (q1, .inl (cxT x 0, 8, .inl (fun _ => 0)))] [(0, .ref h0)] 17 [.ref q1, .ref h0]
  refine g_putF o hi inX2 tyX2 tyX2_ok nmX2 0 rfl rfl 2 (Nat.le_of_ble_eq_true rfl) rfl rfl rfl rfl rfl (Nat.le_of_ble_eq_true rfl) m_921 [(h0, .inr (2, [.int 0, .ref q0, .ref q1, .int 0, .null, .null, .int 0, .int 0, .null, .null, .int 0, .int 0, .int 0, .int 0, .int 0, .null, .null, .null, .int 0, .int 0, .int 0])), (q0, .inl (cxT x 0, 8, .inl (fun _ => 0))), (q1, .inl (cxT x 0, 8, .inl (fun _ => 0)))] rfl dX2_init_17 ?_
  refine g_aload_n o 0 rfl rfl dX2_init_20 ?_
  refine g_bipush o bp_20 dX2_init_21 ?_
  refine g_newa_int o (by decide) zc_20 (by decide +kernel) (Nat.le_of_ble_eq_true rfl) (Nat.le_of_ble_eq_true rfl) dX2_init_23 (fun q2 => ?_)
  show G x 1 _ _ [(h0, .inr (2, [.int 0, .ref q0, .ref q1, .int 0, .null, .null, .int 0, .int 0, .null, .null, .int 0, .int 0, .int 0, .int 0, .int 0, .null, .null, .null, .int 0, .int 0, .int 0])), (q0, .inl (cxT x 0, 8, .inl (fun _ => 0))), (q1, .inl (cxT x 0, 8, .inl (fun _ => 0))), (q2, .inl (cxT x 0, 20, .inl (fun _ => 0)))] [(0, .ref h0)] 25 [.ref q2, .ref h0]
  refine g_putF o hi inX2 tyX2 tyX2_ok nmX2 0 rfl rfl 4 (Nat.le_of_ble_eq_true rfl) rfl rfl rfl rfl rfl (Nat.le_of_ble_eq_true rfl) m_923 [(h0, .inr (2, [.int 0, .ref q0, .ref q1, .int 0, .ref q2, .null, .int 0, .int 0, .null, .null, .int 0, .int 0, .int 0, .int 0, .int 0, .null, .null, .null, .int 0, .int 0, .int 0])), (q0, .inl (cxT x 0, 8, .inl (fun _ => 0))), (q1, .inl (cxT x 0, 8, .inl (fun _ => 0))), (q2, .inl (cxT x 0, 20, .inl (fun _ => 0)))] rfl dX2_init_25 ?_
  refine g_aload_n o 0 rfl rfl dX2_init_28 ?_
  refine g_bipush o bp_80 dX2_init_29 ?_
  refine g_newa_int o (by decide) zc_80 (by decide +kernel) (Nat.le_of_ble_eq_true rfl) (Nat.le_of_ble_eq_true rfl) dX2_init_31 (fun q3 => ?_)
  show G x 1 _ _ [(h0, .inr (2, [.int 0, .ref q0, .ref q1, .int 0, .ref q2, .null, .int 0, .int 0, .null, .null, .int 0, .int 0, .int 0, .int 0, .int 0, .null, .null, .null, .int 0, .int 0, .int 0])), (q0, .inl (cxT x 0, 8, .inl (fun _ => 0))), (q1, .inl (cxT x 0, 8, .inl (fun _ => 0))), (q2, .inl (cxT x 0, 20, .inl (fun _ => 0))), (q3, .inl (cxT x 0, 80, .inl (fun _ => 0)))] [(0, .ref h0)] 33 [.ref q3, .ref h0]
  refine g_putF o hi inX2 tyX2 tyX2_ok nmX2 0 rfl rfl 5 (Nat.le_of_ble_eq_true rfl) rfl rfl rfl rfl rfl (Nat.le_of_ble_eq_true rfl) m_924 [(h0, .inr (2, [.int 0, .ref q0, .ref q1, .int 0, .ref q2, .ref q3, .int 0, .int 0, .null, .null, .int 0, .int 0, .int 0, .int 0, .int 0, .null, .null, .null, .int 0, .int 0, .int 0])), (q0, .inl (cxT x 0, 8, .inl (fun _ => 0))), (q1, .inl (cxT x 0, 8, .inl (fun _ => 0))), (q2, .inl (cxT x 0, 20, .inl (fun _ => 0))), (q3, .inl (cxT x 0, 80, .inl (fun _ => 0)))] rfl dX2_init_33 ?_
  refine g_aload_n o 0 rfl rfl dX2_init_36 ?_
  refine g_iconst o ic_1 dX2_init_37 ?_
  refine g_put (wd2 := [(h0, .inr (2, [.int 0, .ref q0, .ref q1, .int 0, .ref q2, .ref q3, .int 1, .int 0, .null, .null, .int 0, .int 0, .int 0, .int 0, .int 0, .null, .null, .null, .int 0, .int 0, .int 0])), (q0, .inl (cxT x 0, 8, .inl (fun _ => 0))), (q1, .inl (cxT x 0, 8, .inl (fun _ => 0))), (q2, .inl (cxT x 0, 20, .inl (fun _ => 0))), (q3, .inl (cxT x 0, 80, .inl (fun _ => 0)))]) o inX2 tyX2 tyX2_ok nmX2 0 rfl rfl 6 (Nat.le_of_ble_eq_true rfl) rfl rfl (vp_nar_int _) rfl (Nat.le_of_ble_eq_true rfl) m_925 rfl dX2_init_38 ?_
  refine g_aload_n o 0 rfl rfl dX2_init_41 ?_
  refine g_bipush o bp_60 dX2_init_42 ?_
  refine g_newa_char o (by decide) zc_60 (by decide +kernel) (Nat.le_of_ble_eq_true rfl) (Nat.le_of_ble_eq_true rfl) dX2_init_44 (fun q4 => ?_)
  show G x 1 _ _ [(h0, .inr (2, [.int 0, .ref q0, .ref q1, .int 0, .ref q2, .ref q3, .int 1, .int 0, .null, .null, .int 0, .int 0, .int 0, .int 0, .int 0, .null, .null, .null, .int 0, .int 0, .int 0])), (q0, .inl (cxT x 0, 8, .inl (fun _ => 0))), (q1, .inl (cxT x 0, 8, .inl (fun _ => 0))), (q2, .inl (cxT x 0, 20, .inl (fun _ => 0))), (q3, .inl (cxT x 0, 80, .inl (fun _ => 0))), (q4, .inl (cxT x 1, 60, .inl (fun _ => 0)))] [(0, .ref h0)] 46 [.ref q4, .ref h0]
  refine g_putF o hi inX2 tyX2 tyX2_ok nmX2 0 rfl rfl 8 (Nat.le_of_ble_eq_true rfl) rfl rfl rfl rfl rfl (Nat.le_of_ble_eq_true rfl) m_927 [(h0, .inr (2, [.int 0, .ref q0, .ref q1, .int 0, .ref q2, .ref q3, .int 1, .int 0, .ref q4, .null, .int 0, .int 0, .int 0, .int 0, .int 0, .null, .null, .null, .int 0, .int 0, .int 0])), (q0, .inl (cxT x 0, 8, .inl (fun _ => 0))), (q1, .inl (cxT x 0, 8, .inl (fun _ => 0))), (q2, .inl (cxT x 0, 20, .inl (fun _ => 0))), (q3, .inl (cxT x 0, 80, .inl (fun _ => 0))), (q4, .inl (cxT x 1, 60, .inl (fun _ => 0)))] rfl dX2_init_46 ?_
  refine g_aload_n o 0 rfl rfl dX2_init_49 ?_
  refine g_bipush o bp_80 dX2_init_50 ?_
  refine g_newa_char o (by decide) zc_80 (by decide +kernel) (Nat.le_of_ble_eq_true rfl) (Nat.le_of_ble_eq_true rfl) dX2_init_52 (fun q5 => ?_)
  show G x 1 _ _ [(h0, .inr (2, [.int 0, .ref q0, .ref q1, .int 0, .ref q2, .ref q3, .int 1, .int 0, .ref q4, .null, .int 0, .int 0, .int 0, .int 0, .int 0, .null, .null, .null, .int 0, .int 0, .int 0])), (q0, .inl (cxT x 0, 8, .inl (fun _ => 0))), (q1, .inl (cxT x 0, 8, .inl (fun _ => 0))), (q2, .inl (cxT x 0, 20, .inl (fun _ => 0))), (q3, .inl (cxT x 0, 80, .inl (fun _ => 0))), (q4, .inl (cxT x 1, 60, .inl (fun _ => 0))), (q5, .inl (cxT x 1, 80, .inl (fun _ => 0)))] [(0, .ref h0)] 54 [.ref q5, .ref h0]
  refine g_putF o hi inX2 tyX2 tyX2_ok nmX2 0 rfl rfl 9 (Nat.le_of_ble_eq_true rfl) rfl rfl rfl rfl rfl (Nat.le_of_ble_eq_true rfl) m_928 [(h0, .inr (2, [.int 0, .ref q0, .ref q1, .int 0, .ref q2, .ref q3, .int 1, .int 0, .ref q4, .ref q5, .int 0, .int 0, .int 0, .int 0, .int 0, .null, .null, .null, .int 0, .int 0, .int 0])), (q0, .inl (cxT x 0, 8, .inl (fun _ => 0))), (q1, .inl (cxT x 0, 8, .inl (fun _ => 0))), (q2, .inl (cxT x 0, 20, .inl (fun _ => 0))), (q3, .inl (cxT x 0, 80, .inl (fun _ => 0))), (q4, .inl (cxT x 1, 60, .inl (fun _ => 0))), (q5, .inl (cxT x 1, 80, .inl (fun _ => 0)))] rfl dX2_init_54 ?_
  refine g_aload_n o 0 rfl rfl dX2_init_57 ?_
  refine g_iconst o ic_m1 dX2_init_58 ?_
  refine g_put (wd2 := [(h0, .inr (2, [.int 0, .ref q0, .ref q1, .int 0, .ref q2, .ref q3, .int 1, .int 0, .ref q4, .ref q5, .int 0, .int 0, .int (-1), .int 0, .int 0, .null, .null, .null, .int 0, .int 0, .int 0])), (q0, .inl (cxT x 0, 8, .inl (fun _ => 0))), (q1, .inl (cxT x 0, 8, .inl (fun _ => 0))), (q2, .inl (cxT x 0, 20, .inl (fun _ => 0))), (q3, .inl (cxT x 0, 80, .inl (fun _ => 0))), (q4, .inl (cxT x 1, 60, .inl (fun _ => 0))), (q5, .inl (cxT x 1, 80, .inl (fun _ => 0)))]) o inX2 tyX2 tyX2_ok nmX2 0 rfl rfl 12 (Nat.le_of_ble_eq_true rfl) rfl rfl (vp_nar_int _) rfl (Nat.le_of_ble_eq_true rfl) m_931 rfl dX2_init_59 ?_
  refine g_aload_n o 0 rfl rfl dX2_init_62 ?_
  refine g_bipush o bp_48 dX2_init_63 ?_
  refine g_newa_boolean o (by decide) zc_48 (by decide +kernel) (Nat.le_of_ble_eq_true rfl) (Nat.le_of_ble_eq_true rfl) dX2_init_65 (fun q6 => ?_)
  show G x 1 _ _ [(h0, .inr (2, [.int 0, .ref q0, .ref q1, .int 0, .ref q2, .ref q3, .int 1, .int 0, .ref q4, .ref q5, .int 0, .int 0, .int (-1), .int 0, .int 0, .null, .null, .null, .int 0, .int 0, .int 0])), (q0, .inl (cxT x 0, 8, .inl (fun _ => 0))), (q1, .inl (cxT x 0, 8, .inl (fun _ => 0))), (q2, .inl (cxT x 0, 20, .inl (fun _ => 0))), (q3, .inl (cxT x 0, 80, .inl (fun _ => 0))), (q4, .inl (cxT x 1, 60, .inl (fun _ => 0))), (q5, .inl (cxT x 1, 80, .inl (fun _ => 0))), (q6, .inl (cxT x 2, 48, .inl (fun _ => 0)))] [(0, .ref h0)] 67 [.ref q6, .ref h0]
  refine g_putF o hi inX2 tyX2 tyX2_ok nmX2 0 rfl rfl 15 (Nat.le_of_ble_eq_true rfl) rfl rfl rfl rfl rfl (Nat.le_of_ble_eq_true rfl) m_934 [(h0, .inr (2, [.int 0, .ref q0, .ref q1, .int 0, .ref q2, .ref q3, .int 1, .int 0, .ref q4, .ref q5, .int 0, .int 0, .int (-1), .int 0, .int 0, .ref q6, .null, .null, .int 0, .int 0, .int 0])), (q0, .inl (cxT x 0, 8, .inl (fun _ => 0))), (q1, .inl (cxT x 0, 8, .inl (fun _ => 0))), (q2, .inl (cxT x 0, 20, .inl (fun _ => 0))), (q3, .inl (cxT x 0, 80, .inl (fun _ => 0))), (q4, .inl (cxT x 1, 60, .inl (fun _ => 0))), (q5, .inl (cxT x 1, 80, .inl (fun _ => 0))), (q6, .inl (cxT x 2, 48, .inl (fun _ => 0)))] rfl dX2_init_67 ?_
  refine g_aload_n o 0 rfl rfl dX2_init_70 ?_
  refine g_iconst o ic_3 dX2_init_71 ?_
  refine g_newa_int o (by decide) zc_3 (by decide +kernel) (Nat.le_of_ble_eq_true rfl) (Nat.le_of_ble_eq_true rfl) dX2_init_72 (fun q7 => ?_)
  show G x 1 _ _ [(h0, .inr (2, [.int 0, .ref q0, .ref q1, .int 0, .ref q2, .ref q3, .int 1, .int 0, .ref q4, .ref q5, .int 0, .int 0, .int (-1), .int 0, .int 0, .ref q6, .null, .null, .int 0, .int 0, .int 0])), (q0, .inl (cxT x 0, 8, .inl (fun _ => 0))), (q1, .inl (cxT x 0, 8, .inl (fun _ => 0))), (q2, .inl (cxT x 0, 20, .inl (fun _ => 0))), (q3, .inl (cxT x 0, 80, .inl (fun _ => 0))), (q4, .inl (cxT x 1, 60, .inl (fun _ => 0))), (q5, .inl (cxT x 1, 80, .inl (fun _ => 0))), (q6, .inl (cxT x 2, 48, .inl (fun _ => 0))), (q7, .inl (cxT x 0, 3, .inl (fun _ => 0)))] [(0, .ref h0)] 74 [.ref q7, .ref h0]
  refine g_dup o rfl dX2_init_74 ?_
  refine g_iconst o ic_0 dX2_init_75 ?_
  refine g_iconst o ic_m1 dX2_init_76 ?_
  refine g_iast (wd2 := [(h0, .inr (2, [.int 0, .ref q0, .ref q1, .int 0, .ref q2, .ref q3, .int 1, .int 0, .ref q4, .ref q5, .int 0, .int 0, .int (-1), .int 0, .int 0, .ref q6, .null, .null, .int 0, .int 0, .int 0])), (q0, .inl (cxT x 0, 8, .inl (fun _ => 0))), (q1, .inl (cxT x 0, 8, .inl (fun _ => 0))), (q2, .inl (cxT x 0, 20, .inl (fun _ => 0))), (q3, .inl (cxT x 0, 80, .inl (fun _ => 0))), (q4, .inl (cxT x 1, 60, .inl (fun _ => 0))), (q5, .inl (cxT x 1, 80, .inl (fun _ => 0))), (q6, .inl (cxT x 2, 48, .inl (fun _ => 0))), (q7, .inl (cxT x 0, 3, .inl (upd (fun _ => 0) (0 : Int32).toNatClampNeg (-1))))]) o 8 rfl rfl dX2_init_77 gi_0 (fun _ => ?_)
  refine g_dup o rfl dX2_init_78 ?_
  refine g_iconst o ic_1 dX2_init_79 ?_
  refine g_iconst o ic_m1 dX2_init_80 ?_
  refine g_iast (wd2 := [(h0, .inr (2, [.int 0, .ref q0, .ref q1, .int 0, .ref q2, .ref q3, .int 1, .int 0, .ref q4, .ref q5, .int 0, .int 0, .int (-1), .int 0, .int 0, .ref q6, .null, .null, .int 0, .int 0, .int 0])), (q0, .inl (cxT x 0, 8, .inl (fun _ => 0))), (q1, .inl (cxT x 0, 8, .inl (fun _ => 0))), (q2, .inl (cxT x 0, 20, .inl (fun _ => 0))), (q3, .inl (cxT x 0, 80, .inl (fun _ => 0))), (q4, .inl (cxT x 1, 60, .inl (fun _ => 0))), (q5, .inl (cxT x 1, 80, .inl (fun _ => 0))), (q6, .inl (cxT x 2, 48, .inl (fun _ => 0))), (q7, .inl (cxT x 0, 3, .inl (upd (upd (fun _ => 0) (0 : Int32).toNatClampNeg (-1)) (1 : Int32).toNatClampNeg (-1))))]) o 8 rfl rfl dX2_init_81 gi_1 (fun _ => ?_)
  refine g_dup o rfl dX2_init_82 ?_
  refine g_iconst o ic_2 dX2_init_83 ?_
  refine g_iconst o ic_m1 dX2_init_84 ?_
  refine g_iast (wd2 := [(h0, .inr (2, [.int 0, .ref q0, .ref q1, .int 0, .ref q2, .ref q3, .int 1, .int 0, .ref q4, .ref q5, .int 0, .int 0, .int (-1), .int 0, .int 0, .ref q6, .null, .null, .int 0, .int 0, .int 0])), (q0, .inl (cxT x 0, 8, .inl (fun _ => 0))), (q1, .inl (cxT x 0, 8, .inl (fun _ => 0))), (q2, .inl (cxT x 0, 20, .inl (fun _ => 0))), (q3, .inl (cxT x 0, 80, .inl (fun _ => 0))), (q4, .inl (cxT x 1, 60, .inl (fun _ => 0))), (q5, .inl (cxT x 1, 80, .inl (fun _ => 0))), (q6, .inl (cxT x 2, 48, .inl (fun _ => 0))), (q7, .inl (cxT x 0, 3, .inl (upd (upd (upd (fun _ => 0) (0 : Int32).toNatClampNeg (-1)) (1 : Int32).toNatClampNeg (-1)) (2 : Int32).toNatClampNeg (-1))))]) o 8 rfl rfl dX2_init_85 gi_2 (fun _ => ?_)
  refine g_putF o hi inX2 tyX2 tyX2_ok nmX2 0 rfl rfl 16 (Nat.le_of_ble_eq_true rfl) rfl rfl rfl rfl rfl (Nat.le_of_ble_eq_true rfl) m_935 [(h0, .inr (2, [.int 0, .ref q0, .ref q1, .int 0, .ref q2, .ref q3, .int 1, .int 0, .ref q4, .ref q5, .int 0, .int 0, .int (-1), .int 0, .int 0, .ref q6, .ref q7, .null, .int 0, .int 0, .int 0])), (q0, .inl (cxT x 0, 8, .inl (fun _ => 0))), (q1, .inl (cxT x 0, 8, .inl (fun _ => 0))), (q2, .inl (cxT x 0, 20, .inl (fun _ => 0))), (q3, .inl (cxT x 0, 80, .inl (fun _ => 0))), (q4, .inl (cxT x 1, 60, .inl (fun _ => 0))), (q5, .inl (cxT x 1, 80, .inl (fun _ => 0))), (q6, .inl (cxT x 2, 48, .inl (fun _ => 0))), (q7, .inl (cxT x 0, 3, .inl (upd (upd (upd (fun _ => 0) (0 : Int32).toNatClampNeg (-1)) (1 : Int32).toNatClampNeg (-1)) (2 : Int32).toNatClampNeg (-1))))] rfl dX2_init_86 ?_
  refine g_aload_n o 0 rfl rfl dX2_init_89 ?_
  refine g_sipush o sp_128 dX2_init_90 ?_
  refine g_newa_int o (by decide) zc_128 (by decide +kernel) (Nat.le_of_ble_eq_true rfl) (Nat.le_of_ble_eq_true rfl) dX2_init_93 (fun q8 => ?_)
  show G x 1 _ _ [(h0, .inr (2, [.int 0, .ref q0, .ref q1, .int 0, .ref q2, .ref q3, .int 1, .int 0, .ref q4, .ref q5, .int 0, .int 0, .int (-1), .int 0, .int 0, .ref q6, .ref q7, .null, .int 0, .int 0, .int 0])), (q0, .inl (cxT x 0, 8, .inl (fun _ => 0))), (q1, .inl (cxT x 0, 8, .inl (fun _ => 0))), (q2, .inl (cxT x 0, 20, .inl (fun _ => 0))), (q3, .inl (cxT x 0, 80, .inl (fun _ => 0))), (q4, .inl (cxT x 1, 60, .inl (fun _ => 0))), (q5, .inl (cxT x 1, 80, .inl (fun _ => 0))), (q6, .inl (cxT x 2, 48, .inl (fun _ => 0))), (q7, .inl (cxT x 0, 3, .inl (upd (upd (upd (fun _ => 0) (0 : Int32).toNatClampNeg (-1)) (1 : Int32).toNatClampNeg (-1)) (2 : Int32).toNatClampNeg (-1)))), (q8, .inl (cxT x 0, 128, .inl (fun _ => 0)))] [(0, .ref h0)] 95 [.ref q8, .ref h0]
  refine g_putF o hi inX2 tyX2 tyX2_ok nmX2 0 rfl rfl 17 (Nat.le_of_ble_eq_true rfl) rfl rfl rfl rfl rfl (Nat.le_of_ble_eq_true rfl) m_936 [(h0, .inr (2, [.int 0, .ref q0, .ref q1, .int 0, .ref q2, .ref q3, .int 1, .int 0, .ref q4, .ref q5, .int 0, .int 0, .int (-1), .int 0, .int 0, .ref q6, .ref q7, .ref q8, .int 0, .int 0, .int 0])), (q0, .inl (cxT x 0, 8, .inl (fun _ => 0))), (q1, .inl (cxT x 0, 8, .inl (fun _ => 0))), (q2, .inl (cxT x 0, 20, .inl (fun _ => 0))), (q3, .inl (cxT x 0, 80, .inl (fun _ => 0))), (q4, .inl (cxT x 1, 60, .inl (fun _ => 0))), (q5, .inl (cxT x 1, 80, .inl (fun _ => 0))), (q6, .inl (cxT x 2, 48, .inl (fun _ => 0))), (q7, .inl (cxT x 0, 3, .inl (upd (upd (upd (fun _ => 0) (0 : Int32).toNatClampNeg (-1)) (1 : Int32).toNatClampNeg (-1)) (2 : Int32).toNatClampNeg (-1)))), (q8, .inl (cxT x 0, 128, .inl (fun _ => 0)))] rfl dX2_init_95 ?_
  exact g_vret (hR (fun i => ([h0, q0, q1, 0, q2, q3, 0, 0, q4, q5, 0, 0, 0, 0, 0, q6, q7, q8] : List Nat).getD i 0) rfl) (Nat.le_of_ble_eq_true rfl) (Nat.le_of_ble_eq_true rfl) dX2_init_98
