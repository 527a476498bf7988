/-! ===== what the start gives: class numbers, arrays, texts, statics ===== -/
abbrev gn : Cond := Jvm.Cond.and given_1 narrow_1
theorem fs_285 : (Cond.exactly (.string "BooleanConstraints" 285) "java/lang/String") ∈ flatC gn := by decide +kernel
theorem fs_303 : (Cond.exactly (.string "BooleanConstraints" 303) "java/lang/String") ∈ flatC gn := by decide +kernel
theorem fs_61 : (Cond.exactly (.string "BooleanConstraints" 61) "java/lang/String") ∈ flatC gn := by decide +kernel
theorem fs_289 : (Cond.exactly (.string "BooleanConstraints" 289) "java/lang/String") ∈ flatC gn := by decide +kernel
theorem fs_297 : (Cond.exactly (.string "BooleanConstraints" 297) "java/lang/String") ∈ flatC gn := by decide +kernel
theorem fs_299 : (Cond.exactly (.string "BooleanConstraints" 299) "java/lang/String") ∈ flatC gn := by decide +kernel
theorem fs_103 : (Cond.exactly (.string "BooleanConstraints" 103) "java/lang/String") ∈ flatC gn := by decide +kernel
theorem fs_301 : (Cond.exactly (.string "BooleanConstraints" 301) "java/lang/String") ∈ flatC gn := by decide +kernel
theorem fs_108 : (Cond.exactly (.string "BooleanConstraints" 108) "java/lang/String") ∈ flatC gn := by decide +kernel
theorem fs_287 : (Cond.exactly (.string "BooleanConstraints" 287) "java/lang/String") ∈ flatC gn := by decide +kernel
theorem fs_135 : (Cond.exactly (.string "BooleanConstraints" 135) "java/lang/String") ∈ flatC gn := by decide +kernel
theorem fs_147 : (Cond.exactly (.string "BooleanConstraints" 147) "java/lang/String") ∈ flatC gn := by decide +kernel
theorem fs_155 : (Cond.exactly (.string "BooleanConstraints" 155) "java/lang/String") ∈ flatC gn := by decide +kernel
theorem fs_158 : (Cond.exactly (.string "BooleanConstraints" 158) "java/lang/String") ∈ flatC gn := by decide +kernel
theorem fs_291 : (Cond.exactly (.string "BooleanConstraints" 291) "java/lang/String") ∈ flatC gn := by decide +kernel
theorem fs_173 : (Cond.exactly (.string "BooleanConstraints" 173) "java/lang/String") ∈ flatC gn := by decide +kernel
theorem fs_175 : (Cond.exactly (.string "BooleanConstraints" 175) "java/lang/String") ∈ flatC gn := by decide +kernel
theorem fs_305 : (Cond.exactly (.string "BooleanConstraints" 305) "java/lang/String") ∈ flatC gn := by decide +kernel
theorem fs_186 : (Cond.exactly (.string "BooleanConstraints" 186) "java/lang/String") ∈ flatC gn := by decide +kernel
theorem fs_199 : (Cond.exactly (.string "BooleanConstraints" 199) "java/lang/String") ∈ flatC gn := by decide +kernel
theorem fs_208 : (Cond.exactly (.string "BooleanConstraints" 208) "java/lang/String") ∈ flatC gn := by decide +kernel
theorem fs_309 : (Cond.exactly (.string "BooleanConstraints" 309) "java/lang/String") ∈ flatC gn := by decide +kernel
theorem fs_312 : (Cond.exactly (.string "BooleanConstraints" 312) "java/lang/String") ∈ flatC gn := by decide +kernel
theorem fs_232 : (Cond.exactly (.string "BooleanConstraints" 232) "java/lang/String") ∈ flatC gn := by decide +kernel
theorem fs_237 : (Cond.exactly (.string "BooleanConstraints" 237) "java/lang/String") ∈ flatC gn := by decide +kernel
theorem fs_239 : (Cond.exactly (.string "BooleanConstraints" 239) "java/lang/String") ∈ flatC gn := by decide +kernel
theorem fs_247 : (Cond.exactly (.string "BooleanConstraints" 247) "java/lang/String") ∈ flatC gn := by decide +kernel
theorem fs_249 : (Cond.exactly (.string "BooleanConstraints" 249) "java/lang/String") ∈ flatC gn := by decide +kernel
theorem fs_254 : (Cond.exactly (.string "BooleanConstraints" 254) "java/lang/String") ∈ flatC gn := by decide +kernel
theorem fs_262 : (Cond.exactly (.string "BooleanConstraints" 262) "java/lang/String") ∈ flatC gn := by decide +kernel
theorem fs_267 : (Cond.exactly (.string "BooleanConstraints" 267) "java/lang/String") ∈ flatC gn := by decide +kernel
theorem fs_293 : (Cond.exactly (.string "BooleanConstraints" 293) "java/lang/String") ∈ flatC gn := by decide +kernel
theorem fs_272 : (Cond.exactly (.string "BooleanConstraints" 272) "java/lang/String") ∈ flatC gn := by decide +kernel
theorem fs_295 : (Cond.exactly (.string "BooleanConstraints" 295) "java/lang/String") ∈ flatC gn := by decide +kernel
theorem fs_277 : (Cond.exactly (.string "BooleanConstraints" 277) "java/lang/String") ∈ flatC gn := by decide +kernel
theorem fs_283 : (Cond.exactly (.string "BooleanConstraints" 283) "java/lang/String") ∈ flatC gn := by decide +kernel
theorem fn_0 : (Cond.not (.castable "java/lang/IllegalStateException" "java/lang/IllegalArgumentException")) ∈ flatC gn := by decide +kernel
theorem fn_1 : (Cond.not (.castable "java/lang/IndexOutOfBoundsException" "java/lang/IllegalArgumentException")) ∈ flatC gn := by decide +kernel
theorem fn_2 : (Cond.not (.castable "java/util/NoSuchElementException" "java/lang/IllegalArgumentException")) ∈ flatC gn := by decide +kernel
theorem fn_3 : (Cond.not (.castable "java/lang/UnsupportedOperationException" "java/lang/IllegalArgumentException")) ∈ flatC gn := by decide +kernel
theorem fn_4 : (Cond.not (.castable "java/lang/IllegalArgumentException" "java/lang/IllegalStateException")) ∈ flatC gn := by decide +kernel
theorem fn_5 : (Cond.not (.castable "java/lang/IndexOutOfBoundsException" "java/lang/IllegalStateException")) ∈ flatC gn := by decide +kernel
theorem fn_6 : (Cond.not (.castable "java/util/NoSuchElementException" "java/lang/IllegalStateException")) ∈ flatC gn := by decide +kernel
theorem fn_7 : (Cond.not (.castable "java/lang/UnsupportedOperationException" "java/lang/IllegalStateException")) ∈ flatC gn := by decide +kernel
theorem fn_8 : (Cond.not (.castable "java/lang/IllegalArgumentException" "java/lang/IndexOutOfBoundsException")) ∈ flatC gn := by decide +kernel
theorem fn_9 : (Cond.not (.castable "java/lang/IllegalStateException" "java/lang/IndexOutOfBoundsException")) ∈ flatC gn := by decide +kernel
theorem fn_10 : (Cond.not (.castable "java/util/NoSuchElementException" "java/lang/IndexOutOfBoundsException")) ∈ flatC gn := by decide +kernel
theorem fn_11 : (Cond.not (.castable "java/lang/UnsupportedOperationException" "java/lang/IndexOutOfBoundsException")) ∈ flatC gn := by decide +kernel
theorem fn_12 : (Cond.not (.castable "java/lang/IllegalArgumentException" "java/util/NoSuchElementException")) ∈ flatC gn := by decide +kernel
theorem fn_13 : (Cond.not (.castable "java/lang/IllegalStateException" "java/util/NoSuchElementException")) ∈ flatC gn := by decide +kernel
theorem fn_14 : (Cond.not (.castable "java/lang/IndexOutOfBoundsException" "java/util/NoSuchElementException")) ∈ flatC gn := by decide +kernel
theorem fn_15 : (Cond.not (.castable "java/lang/UnsupportedOperationException" "java/util/NoSuchElementException")) ∈ flatC gn := by decide +kernel
theorem fn_16 : (Cond.not (.castable "java/lang/IllegalArgumentException" "java/lang/UnsupportedOperationException")) ∈ flatC gn := by decide +kernel
theorem fn_17 : (Cond.not (.castable "java/lang/IllegalStateException" "java/lang/UnsupportedOperationException")) ∈ flatC gn := by decide +kernel
theorem fn_18 : (Cond.not (.castable "java/lang/IndexOutOfBoundsException" "java/lang/UnsupportedOperationException")) ∈ flatC gn := by decide +kernel
theorem fn_19 : (Cond.not (.castable "java/util/NoSuchElementException" "java/lang/UnsupportedOperationException")) ∈ flatC gn := by decide +kernel
theorem fa_KIND_ARITIES : (Cond.arrayOf (.static "BooleanConstraints" "KIND_ARITIES" "[I") .int) ∈ flatC gn := by decide +kernel
theorem fl_KIND_ARITIES : (Cond.eq (.length (.static "BooleanConstraints" "KIND_ARITIES" "[I")) (.int 6)) ∈ flatC gn := by decide +kernel
theorem fe_KIND_ARITIES_0 : (Cond.eq (.elem (.static "BooleanConstraints" "KIND_ARITIES" "[I") (.int 0)) (.int 1)) ∈ flatC gn := by decide +kernel
theorem fe_KIND_ARITIES_1 : (Cond.eq (.elem (.static "BooleanConstraints" "KIND_ARITIES" "[I") (.int 1)) (.int 1)) ∈ flatC gn := by decide +kernel
theorem fe_KIND_ARITIES_2 : (Cond.eq (.elem (.static "BooleanConstraints" "KIND_ARITIES" "[I") (.int 2)) (.int 2)) ∈ flatC gn := by decide +kernel
theorem fe_KIND_ARITIES_3 : (Cond.eq (.elem (.static "BooleanConstraints" "KIND_ARITIES" "[I") (.int 3)) (.int 2)) ∈ flatC gn := by decide +kernel
theorem fe_KIND_ARITIES_4 : (Cond.eq (.elem (.static "BooleanConstraints" "KIND_ARITIES" "[I") (.int 4)) (.int 3)) ∈ flatC gn := by decide +kernel
theorem fe_KIND_ARITIES_5 : (Cond.eq (.elem (.static "BooleanConstraints" "KIND_ARITIES" "[I") (.int 5)) (.int 3)) ∈ flatC gn := by decide +kernel
theorem ls_KIND_ARITIES : Cond.laysStatic "BooleanConstraints" "KIND_ARITIES" "[I" ∈ lw_tbl := List.mem_of_getElem? (i := 625) (by decide +kernel)
theorem li_KIND_ARITIES : Cond.initialized "BooleanConstraints" ∈ lw_tbl := List.mem_of_getElem? (i := 54) (by decide +kernel)
theorem sa_KIND_ARITIES {args : Array Value} {s : State} {A : Nat → Prop} (hg : gn.before args s = true) (hts : ∀ w ∈ lw_tbl, w.before args s = true) (hA : ∀ a : Nat, a < s.heap.size → ¬ A a) : SA RX1 "KIND_ARITIES" "[I" .int 6 (fun j => .int (kAr j)) A s s.heap := by
  have hs := flat_of_before _ hg
  have hel : ∀ j : Nat, j < 6 → (Term.elem (.static "BooleanConstraints" "KIND_ARITIES" "[I") (.int (Int32.ofNat j))).eval args s none [] s = some (.int (kAr j)) := fun j hj => by
    match j, hj with
    | 0, _ => exact va_eqt (hs _ fe_KIND_ARITIES_0)
    | 1, _ => exact va_eqt (hs _ fe_KIND_ARITIES_1)
    | 2, _ => exact va_eqt (hs _ fe_KIND_ARITIES_2)
    | 3, _ => exact va_eqt (hs _ fe_KIND_ARITIES_3)
    | 4, _ => exact va_eqt (hs _ fe_KIND_ARITIES_4)
    | 5, _ => exact va_eqt (hs _ fe_KIND_ARITIES_5)
  obtain ⟨t, h1, h2⟩ := va_Tof (ty := .int) (N := 6) (f := fun j => .int (kAr j)) (by decide) (hs _ fa_KIND_ARITIES) (va_eqt (hs _ fl_KIND_ARITIES)) hel hA
  exact ⟨t, va_Zof (hts _ ls_KIND_ARITIES) (hts _ li_KIND_ARITIES) h1 hA, h2⟩
theorem fa_KIND_CODES : (Cond.arrayOf (.static "BooleanConstraints" "KIND_CODES" "[I") .int) ∈ flatC gn := by decide +kernel
theorem fl_KIND_CODES : (Cond.eq (.length (.static "BooleanConstraints" "KIND_CODES" "[I")) (.int 6)) ∈ flatC gn := by decide +kernel
theorem fe_KIND_CODES_0 : (Cond.eq (.elem (.static "BooleanConstraints" "KIND_CODES" "[I") (.int 0)) (.int 0)) ∈ flatC gn := by decide +kernel
theorem fe_KIND_CODES_1 : (Cond.eq (.elem (.static "BooleanConstraints" "KIND_CODES" "[I") (.int 1)) (.int 3)) ∈ flatC gn := by decide +kernel
theorem fe_KIND_CODES_2 : (Cond.eq (.elem (.static "BooleanConstraints" "KIND_CODES" "[I") (.int 2)) (.int 8)) ∈ flatC gn := by decide +kernel
theorem fe_KIND_CODES_3 : (Cond.eq (.elem (.static "BooleanConstraints" "KIND_CODES" "[I") (.int 3)) (.int 14)) ∈ flatC gn := by decide +kernel
theorem fe_KIND_CODES_4 : (Cond.eq (.elem (.static "BooleanConstraints" "KIND_CODES" "[I") (.int 4)) (.int 232)) ∈ flatC gn := by decide +kernel
theorem fe_KIND_CODES_5 : (Cond.eq (.elem (.static "BooleanConstraints" "KIND_CODES" "[I") (.int 5)) (.int 150)) ∈ flatC gn := by decide +kernel
theorem ls_KIND_CODES : Cond.laysStatic "BooleanConstraints" "KIND_CODES" "[I" ∈ lw_tbl := List.mem_of_getElem? (i := 627) (by decide +kernel)
theorem li_KIND_CODES : Cond.initialized "BooleanConstraints" ∈ lw_tbl := List.mem_of_getElem? (i := 54) (by decide +kernel)
theorem sa_KIND_CODES {args : Array Value} {s : State} {A : Nat → Prop} (hg : gn.before args s = true) (hts : ∀ w ∈ lw_tbl, w.before args s = true) (hA : ∀ a : Nat, a < s.heap.size → ¬ A a) : SA RX1 "KIND_CODES" "[I" .int 6 (fun j => .int (kCo j)) A s s.heap := by
  have hs := flat_of_before _ hg
  have hel : ∀ j : Nat, j < 6 → (Term.elem (.static "BooleanConstraints" "KIND_CODES" "[I") (.int (Int32.ofNat j))).eval args s none [] s = some (.int (kCo j)) := fun j hj => by
    match j, hj with
    | 0, _ => exact va_eqt (hs _ fe_KIND_CODES_0)
    | 1, _ => exact va_eqt (hs _ fe_KIND_CODES_1)
    | 2, _ => exact va_eqt (hs _ fe_KIND_CODES_2)
    | 3, _ => exact va_eqt (hs _ fe_KIND_CODES_3)
    | 4, _ => exact va_eqt (hs _ fe_KIND_CODES_4)
    | 5, _ => exact va_eqt (hs _ fe_KIND_CODES_5)
  obtain ⟨t, h1, h2⟩ := va_Tof (ty := .int) (N := 6) (f := fun j => .int (kCo j)) (by decide) (hs _ fa_KIND_CODES) (va_eqt (hs _ fl_KIND_CODES)) hel hA
  exact ⟨t, va_Zof (hts _ ls_KIND_CODES) (hts _ li_KIND_CODES) h1 hA, h2⟩
theorem fa_ARGUMENT_CODES : (Cond.arrayOf (.static "BooleanConstraints" "ARGUMENT_CODES" "[I") .int) ∈ flatC gn := by decide +kernel
theorem fl_ARGUMENT_CODES : (Cond.eq (.length (.static "BooleanConstraints" "ARGUMENT_CODES" "[I")) (.int 3)) ∈ flatC gn := by decide +kernel
theorem fe_ARGUMENT_CODES_0 : (Cond.eq (.elem (.static "BooleanConstraints" "ARGUMENT_CODES" "[I") (.int 0)) (.int 170)) ∈ flatC gn := by decide +kernel
theorem fe_ARGUMENT_CODES_1 : (Cond.eq (.elem (.static "BooleanConstraints" "ARGUMENT_CODES" "[I") (.int 1)) (.int 204)) ∈ flatC gn := by decide +kernel
theorem fe_ARGUMENT_CODES_2 : (Cond.eq (.elem (.static "BooleanConstraints" "ARGUMENT_CODES" "[I") (.int 2)) (.int 240)) ∈ flatC gn := by decide +kernel
theorem ls_ARGUMENT_CODES : Cond.laysStatic "BooleanConstraints" "ARGUMENT_CODES" "[I" ∈ lw_tbl := List.mem_of_getElem? (i := 571) (by decide +kernel)
theorem li_ARGUMENT_CODES : Cond.initialized "BooleanConstraints" ∈ lw_tbl := List.mem_of_getElem? (i := 54) (by decide +kernel)
theorem sa_ARGUMENT_CODES {args : Array Value} {s : State} {A : Nat → Prop} (hg : gn.before args s = true) (hts : ∀ w ∈ lw_tbl, w.before args s = true) (hA : ∀ a : Nat, a < s.heap.size → ¬ A a) : SA RX1 "ARGUMENT_CODES" "[I" .int 3 (fun j => .int (aCo j)) A s s.heap := by
  have hs := flat_of_before _ hg
  have hel : ∀ j : Nat, j < 3 → (Term.elem (.static "BooleanConstraints" "ARGUMENT_CODES" "[I") (.int (Int32.ofNat j))).eval args s none [] s = some (.int (aCo j)) := fun j hj => by
    match j, hj with
    | 0, _ => exact va_eqt (hs _ fe_ARGUMENT_CODES_0)
    | 1, _ => exact va_eqt (hs _ fe_ARGUMENT_CODES_1)
    | 2, _ => exact va_eqt (hs _ fe_ARGUMENT_CODES_2)
  obtain ⟨t, h1, h2⟩ := va_Tof (ty := .int) (N := 3) (f := fun j => .int (aCo j)) (by decide) (hs _ fa_ARGUMENT_CODES) (va_eqt (hs _ fl_ARGUMENT_CODES)) hel hA
  exact ⟨t, va_Zof (hts _ ls_ARGUMENT_CODES) (hts _ li_ARGUMENT_CODES) h1 hA, h2⟩
theorem fa_KIND_ARITY : (Cond.arrayOf (.static "BooleanConstraintsModel" "KIND_ARITY" "[I") .int) ∈ flatC gn := by decide +kernel
theorem fl_KIND_ARITY : (Cond.eq (.length (.static "BooleanConstraintsModel" "KIND_ARITY" "[I")) (.int 6)) ∈ flatC gn := by decide +kernel
theorem fe_KIND_ARITY_0 : (Cond.eq (.elem (.static "BooleanConstraintsModel" "KIND_ARITY" "[I") (.int 0)) (.int 1)) ∈ flatC gn := by decide +kernel
theorem fe_KIND_ARITY_1 : (Cond.eq (.elem (.static "BooleanConstraintsModel" "KIND_ARITY" "[I") (.int 1)) (.int 1)) ∈ flatC gn := by decide +kernel
theorem fe_KIND_ARITY_2 : (Cond.eq (.elem (.static "BooleanConstraintsModel" "KIND_ARITY" "[I") (.int 2)) (.int 2)) ∈ flatC gn := by decide +kernel
theorem fe_KIND_ARITY_3 : (Cond.eq (.elem (.static "BooleanConstraintsModel" "KIND_ARITY" "[I") (.int 3)) (.int 2)) ∈ flatC gn := by decide +kernel
theorem fe_KIND_ARITY_4 : (Cond.eq (.elem (.static "BooleanConstraintsModel" "KIND_ARITY" "[I") (.int 4)) (.int 3)) ∈ flatC gn := by decide +kernel
theorem fe_KIND_ARITY_5 : (Cond.eq (.elem (.static "BooleanConstraintsModel" "KIND_ARITY" "[I") (.int 5)) (.int 3)) ∈ flatC gn := by decide +kernel
theorem ls_KIND_ARITY : Cond.laysStatic "BooleanConstraintsModel" "KIND_ARITY" "[I" ∈ lw_tbl := List.mem_of_getElem? (i := 1156) (by decide +kernel)
theorem li_KIND_ARITY : Cond.initialized "BooleanConstraintsModel" ∈ lw_tbl := List.mem_of_getElem? (i := 56) (by decide +kernel)
theorem sa_KIND_ARITY {args : Array Value} {s : State} {A : Nat → Prop} (hg : gn.before args s = true) (hts : ∀ w ∈ lw_tbl, w.before args s = true) (hA : ∀ a : Nat, a < s.heap.size → ¬ A a) : SA RX2 "KIND_ARITY" "[I" .int 6 (fun j => .int (kAr j)) A s s.heap := by
  have hs := flat_of_before _ hg
  have hel : ∀ j : Nat, j < 6 → (Term.elem (.static "BooleanConstraintsModel" "KIND_ARITY" "[I") (.int (Int32.ofNat j))).eval args s none [] s = some (.int (kAr j)) := fun j hj => by
    match j, hj with
    | 0, _ => exact va_eqt (hs _ fe_KIND_ARITY_0)
    | 1, _ => exact va_eqt (hs _ fe_KIND_ARITY_1)
    | 2, _ => exact va_eqt (hs _ fe_KIND_ARITY_2)
    | 3, _ => exact va_eqt (hs _ fe_KIND_ARITY_3)
    | 4, _ => exact va_eqt (hs _ fe_KIND_ARITY_4)
    | 5, _ => exact va_eqt (hs _ fe_KIND_ARITY_5)
  obtain ⟨t, h1, h2⟩ := va_Tof (ty := .int) (N := 6) (f := fun j => .int (kAr j)) (by decide) (hs _ fa_KIND_ARITY) (va_eqt (hs _ fl_KIND_ARITY)) hel hA
  exact ⟨t, va_Zof (hts _ ls_KIND_ARITY) (hts _ li_KIND_ARITY) h1 hA, h2⟩
theorem fa_KIND_CODE : (Cond.arrayOf (.static "BooleanConstraintsModel" "KIND_CODE" "[I") .int) ∈ flatC gn := by decide +kernel
theorem fl_KIND_CODE : (Cond.eq (.length (.static "BooleanConstraintsModel" "KIND_CODE" "[I")) (.int 6)) ∈ flatC gn := by decide +kernel
theorem fe_KIND_CODE_0 : (Cond.eq (.elem (.static "BooleanConstraintsModel" "KIND_CODE" "[I") (.int 0)) (.int 0)) ∈ flatC gn := by decide +kernel
theorem fe_KIND_CODE_1 : (Cond.eq (.elem (.static "BooleanConstraintsModel" "KIND_CODE" "[I") (.int 1)) (.int 3)) ∈ flatC gn := by decide +kernel
theorem fe_KIND_CODE_2 : (Cond.eq (.elem (.static "BooleanConstraintsModel" "KIND_CODE" "[I") (.int 2)) (.int 8)) ∈ flatC gn := by decide +kernel
theorem fe_KIND_CODE_3 : (Cond.eq (.elem (.static "BooleanConstraintsModel" "KIND_CODE" "[I") (.int 3)) (.int 14)) ∈ flatC gn := by decide +kernel
theorem fe_KIND_CODE_4 : (Cond.eq (.elem (.static "BooleanConstraintsModel" "KIND_CODE" "[I") (.int 4)) (.int 232)) ∈ flatC gn := by decide +kernel
theorem fe_KIND_CODE_5 : (Cond.eq (.elem (.static "BooleanConstraintsModel" "KIND_CODE" "[I") (.int 5)) (.int 150)) ∈ flatC gn := by decide +kernel
theorem ls_KIND_CODE : Cond.laysStatic "BooleanConstraintsModel" "KIND_CODE" "[I" ∈ lw_tbl := List.mem_of_getElem? (i := 1158) (by decide +kernel)
theorem li_KIND_CODE : Cond.initialized "BooleanConstraintsModel" ∈ lw_tbl := List.mem_of_getElem? (i := 56) (by decide +kernel)
theorem sa_KIND_CODE {args : Array Value} {s : State} {A : Nat → Prop} (hg : gn.before args s = true) (hts : ∀ w ∈ lw_tbl, w.before args s = true) (hA : ∀ a : Nat, a < s.heap.size → ¬ A a) : SA RX2 "KIND_CODE" "[I" .int 6 (fun j => .int (kCo j)) A s s.heap := by
  have hs := flat_of_before _ hg
  have hel : ∀ j : Nat, j < 6 → (Term.elem (.static "BooleanConstraintsModel" "KIND_CODE" "[I") (.int (Int32.ofNat j))).eval args s none [] s = some (.int (kCo j)) := fun j hj => by
    match j, hj with
    | 0, _ => exact va_eqt (hs _ fe_KIND_CODE_0)
    | 1, _ => exact va_eqt (hs _ fe_KIND_CODE_1)
    | 2, _ => exact va_eqt (hs _ fe_KIND_CODE_2)
    | 3, _ => exact va_eqt (hs _ fe_KIND_CODE_3)
    | 4, _ => exact va_eqt (hs _ fe_KIND_CODE_4)
    | 5, _ => exact va_eqt (hs _ fe_KIND_CODE_5)
  obtain ⟨t, h1, h2⟩ := va_Tof (ty := .int) (N := 6) (f := fun j => .int (kCo j)) (by decide) (hs _ fa_KIND_CODE) (va_eqt (hs _ fl_KIND_CODE)) hel hA
  exact ⟨t, va_Zof (hts _ ls_KIND_CODE) (hts _ li_KIND_CODE) h1 hA, h2⟩
theorem fa_ONES : (Cond.arrayOf (.static "BooleanConstraints$Instance" "ONES" "[J") .long) ∈ flatC gn := by decide +kernel
theorem fl_ONES : (Cond.eq (.length (.static "BooleanConstraints$Instance" "ONES" "[J")) (.int 6)) ∈ flatC gn := by decide +kernel
theorem fe_ONES_0 : (Cond.eq (.elem (.static "BooleanConstraints$Instance" "ONES" "[J") (.int 0)) (.long (-6148914691236517206))) ∈ flatC gn := by decide +kernel
theorem fe_ONES_1 : (Cond.eq (.elem (.static "BooleanConstraints$Instance" "ONES" "[J") (.int 1)) (.long (-3689348814741910324))) ∈ flatC gn := by decide +kernel
theorem fe_ONES_2 : (Cond.eq (.elem (.static "BooleanConstraints$Instance" "ONES" "[J") (.int 2)) (.long (-1085102592571150096))) ∈ flatC gn := by decide +kernel
theorem fe_ONES_3 : (Cond.eq (.elem (.static "BooleanConstraints$Instance" "ONES" "[J") (.int 3)) (.long (-71777214294589696))) ∈ flatC gn := by decide +kernel
theorem fe_ONES_4 : (Cond.eq (.elem (.static "BooleanConstraints$Instance" "ONES" "[J") (.int 4)) (.long (-281470681808896))) ∈ flatC gn := by decide +kernel
theorem fe_ONES_5 : (Cond.eq (.elem (.static "BooleanConstraints$Instance" "ONES" "[J") (.int 5)) (.long (-4294967296))) ∈ flatC gn := by decide +kernel
theorem ls_ONES : Cond.laysStatic "BooleanConstraints$Instance" "ONES" "[J" ∈ lw_tbl := List.mem_of_getElem? (i := 193) (by decide +kernel)
theorem li_ONES : Cond.initialized "BooleanConstraints$Instance" ∈ lw_tbl := List.mem_of_getElem? (i := 55) (by decide +kernel)
theorem sa_ONES {args : Array Value} {s : State} {A : Nat → Prop} (hg : gn.before args s = true) (hts : ∀ w ∈ lw_tbl, w.before args s = true) (hA : ∀ a : Nat, a < s.heap.size → ¬ A a) : SA RX0 "ONES" "[J" .long 6 (fun j => .long (onL j)) A s s.heap := by
  have hs := flat_of_before _ hg
  have hel : ∀ j : Nat, j < 6 → (Term.elem (.static "BooleanConstraints$Instance" "ONES" "[J") (.int (Int32.ofNat j))).eval args s none [] s = some (.long (onL j)) := fun j hj => by
    match j, hj with
    | 0, _ => exact va_eqtl (hs _ fe_ONES_0)
    | 1, _ => exact va_eqtl (hs _ fe_ONES_1)
    | 2, _ => exact va_eqtl (hs _ fe_ONES_2)
    | 3, _ => exact va_eqtl (hs _ fe_ONES_3)
    | 4, _ => exact va_eqtl (hs _ fe_ONES_4)
    | 5, _ => exact va_eqtl (hs _ fe_ONES_5)
  obtain ⟨t, h1, h2⟩ := va_Tof (ty := .long) (N := 6) (f := fun j => .long (onL j)) (by decide) (hs _ fa_ONES) (va_eqt (hs _ fl_ONES)) hel hA
  exact ⟨t, va_Zof (hts _ ls_ONES) (hts _ li_ONES) h1 hA, h2⟩
theorem fz_UNASSIGNED_STACK : (Cond.isRef (.static "java/lang/Throwable" "UNASSIGNED_STACK" "[Ljava/lang/StackTraceElement;")) ∈ flatC gn := by decide +kernel
theorem lz_UNASSIGNED_STACK : Cond.laysStatic "java/lang/Throwable" "UNASSIGNED_STACK" "[Ljava/lang/StackTraceElement;" ∈ lw_tbl := List.mem_of_getElem? (i := 268) (by decide +kernel)
theorem fz_SUPPRESSED_SENTINEL : (Cond.isRef (.static "java/lang/Throwable" "SUPPRESSED_SENTINEL" "Ljava/util/List;")) ∈ flatC gn := by decide +kernel
theorem lz_SUPPRESSED_SENTINEL : Cond.laysStatic "java/lang/Throwable" "SUPPRESSED_SENTINEL" "Ljava/util/List;" ∈ lw_tbl := List.mem_of_getElem? (i := 270) (by decide +kernel)
theorem lz_i : Cond.initialized "java/lang/Throwable" ∈ lw_tbl := List.mem_of_getElem? (i := 57) (by decide +kernel)
theorem sr_285 : Cond.stringRef "BooleanConstraints" 285 "the arity is out of range" ∈ lw_tbl := List.mem_of_getElem? (i := 284) (by decide +kernel)
theorem sr_303 : Cond.stringRef "BooleanConstraints" 303 "there are already 8 relations" ∈ lw_tbl := List.mem_of_getElem? (i := 328) (by decide +kernel)
theorem sr_61 : Cond.stringRef "BooleanConstraints" 61 "signs are out of range" ∈ lw_tbl := List.mem_of_getElem? (i := 345) (by decide +kernel)
theorem sr_289 : Cond.stringRef "BooleanConstraints" 289 "a value is neither 0 nor 1" ∈ lw_tbl := List.mem_of_getElem? (i := 357) (by decide +kernel)
theorem sr_297 : Cond.stringRef "BooleanConstraints" 297 "there is no such relation" ∈ lw_tbl := List.mem_of_getElem? (i := 382) (by decide +kernel)
theorem sr_299 : Cond.stringRef "BooleanConstraints" 299 "there is no such tuple" ∈ lw_tbl := List.mem_of_getElem? (i := 393) (by decide +kernel)
theorem sr_103 : Cond.stringRef "BooleanConstraints" 103 "the relations have different arities" ∈ lw_tbl := List.mem_of_getElem? (i := 444) (by decide +kernel)
theorem sr_301 : Cond.stringRef "BooleanConstraints" 301 "there is no such position" ∈ lw_tbl := List.mem_of_getElem? (i := 456) (by decide +kernel)
theorem sr_108 : Cond.stringRef "BooleanConstraints" 108 "the relation has arity 1" ∈ lw_tbl := List.mem_of_getElem? (i := 457) (by decide +kernel)
theorem sr_287 : Cond.stringRef "BooleanConstraints" 287 "there is no operation of this arity with this code" ∈ lw_tbl := List.mem_of_getElem? (i := 484) (by decide +kernel)
theorem sr_135 : Cond.stringRef "BooleanConstraints" 135 "there is no such polymorphism" ∈ lw_tbl := List.mem_of_getElem? (i := 543) (by decide +kernel)
theorem sr_147 : Cond.stringRef "BooleanConstraints" 147 "the operation agrees with no argument" ∈ lw_tbl := List.mem_of_getElem? (i := 582) (by decide +kernel)
theorem sr_155 : Cond.stringRef "BooleanConstraints" 155 "there is no such argument" ∈ lw_tbl := List.mem_of_getElem? (i := 604) (by decide +kernel)
theorem sr_158 : Cond.stringRef "BooleanConstraints" 158 "inner is out of range" ∈ lw_tbl := List.mem_of_getElem? (i := 612) (by decide +kernel)
theorem sr_291 : Cond.stringRef "BooleanConstraints" 291 "the kind is out of range" ∈ lw_tbl := List.mem_of_getElem? (i := 623) (by decide +kernel)
theorem sr_173 : Cond.stringRef "BooleanConstraints" 173 "the language is not easy" ∈ lw_tbl := List.mem_of_getElem? (i := 646) (by decide +kernel)
theorem sr_175 : Cond.stringRef "BooleanConstraints" 175 "the number of variables is out of range" ∈ lw_tbl := List.mem_of_getElem? (i := 654) (by decide +kernel)
theorem sr_305 : Cond.stringRef "BooleanConstraints" 305 "there is no such variable" ∈ lw_tbl := List.mem_of_getElem? (i := 670) (by decide +kernel)
theorem sr_186 : Cond.stringRef "BooleanConstraints" 186 "there are already 20 constraints" ∈ lw_tbl := List.mem_of_getElem? (i := 671) (by decide +kernel)
theorem sr_199 : Cond.stringRef "BooleanConstraints" 199 "there are no constraints" ∈ lw_tbl := List.mem_of_getElem? (i := 682) (by decide +kernel)
theorem sr_208 : Cond.stringRef "BooleanConstraints" 208 "there is no such solution" ∈ lw_tbl := List.mem_of_getElem? (i := 697) (by decide +kernel)
theorem sr_309 : Cond.stringRef "BooleanConstraints" 309 "the language does not have the kind" ∈ lw_tbl := List.mem_of_getElem? (i := 733) (by decide +kernel)
theorem sr_312 : Cond.stringRef "BooleanConstraints" 312 "there are no solutions" ∈ lw_tbl := List.mem_of_getElem? (i := 744) (by decide +kernel)
theorem sr_232 : Cond.stringRef "BooleanConstraints" 232 "there is no such assignment" ∈ lw_tbl := List.mem_of_getElem? (i := 793) (by decide +kernel)
theorem sr_237 : Cond.stringRef "BooleanConstraints" 237 "the assignment is a solution" ∈ lw_tbl := List.mem_of_getElem? (i := 798) (by decide +kernel)
theorem sr_239 : Cond.stringRef "BooleanConstraints" 239 "there is no such constraint" ∈ lw_tbl := List.mem_of_getElem? (i := 806) (by decide +kernel)
theorem sr_247 : Cond.stringRef "BooleanConstraints" 247 "the character code is out of range" ∈ lw_tbl := List.mem_of_getElem? (i := 814) (by decide +kernel)
theorem sr_249 : Cond.stringRef "BooleanConstraints" 249 "the input has 60 characters" ∈ lw_tbl := List.mem_of_getElem? (i := 815) (by decide +kernel)
theorem sr_254 : Cond.stringRef "BooleanConstraints" 254 "the input is not a valid text" ∈ lw_tbl := List.mem_of_getElem? (i := 833) (by decide +kernel)
theorem sr_262 : Cond.stringRef "BooleanConstraints" 262 "no text was wrong so far" ∈ lw_tbl := List.mem_of_getElem? (i := 849) (by decide +kernel)
theorem sr_267 : Cond.stringRef "BooleanConstraints" 267 "there is no such index of the output" ∈ lw_tbl := List.mem_of_getElem? (i := 872) (by decide +kernel)
theorem sr_293 : Cond.stringRef "BooleanConstraints" 293 "there is no such slot" ∈ lw_tbl := List.mem_of_getElem? (i := 883) (by decide +kernel)
theorem sr_272 : Cond.stringRef "BooleanConstraints" 272 "the length is out of range" ∈ lw_tbl := List.mem_of_getElem? (i := 884) (by decide +kernel)
theorem sr_295 : Cond.stringRef "BooleanConstraints" 295 "the slot is empty" ∈ lw_tbl := List.mem_of_getElem? (i := 896) (by decide +kernel)
theorem sr_277 : Cond.stringRef "BooleanConstraints" 277 "there is no such element" ∈ lw_tbl := List.mem_of_getElem? (i := 897) (by decide +kernel)
theorem sr_283 : Cond.stringRef "BooleanConstraints" 283 "no snapshot was saved" ∈ lw_tbl := List.mem_of_getElem? (i := 912) (by decide +kernel)
theorem vk_at {args : Array Value} {s : State} {own tx : String} {k : Nat} (h1 : (Cond.stringRef own k tx).before args s = true) (h2 : (Cond.exactly (.string own k) "java/lang/String").before args s = true) : ∃ a, vk_R own k tx a s := by
  obtain ⟨a, c, cell, kc, q1, -⟩ := Cond.exactly_spec (args := args) (first := s) (o := none) (s := s) (idx := []) (t := .string own k) (cls := "java/lang/String") h2
  exact ⟨a, vk_R.of h1 q1⟩
theorem sx_str {args : Array Value} {s : State} (hg : gn.before args s = true) (hts : ∀ w ∈ lw_tbl, w.before args s = true) : ∀ e ∈ sTx, ∃ a, vk_R e.1 e.2.1 e.2.2 a s := by
  have hs := flat_of_before _ hg
  exact (List.forall_mem_cons.mpr ⟨vk_at (hts _ sr_285) (hs _ fs_285), (List.forall_mem_cons.mpr ⟨vk_at (hts _ sr_303) (hs _ fs_303), (List.forall_mem_cons.mpr ⟨vk_at (hts _ sr_61) (hs _ fs_61), (List.forall_mem_cons.mpr ⟨vk_at (hts _ sr_289) (hs _ fs_289), (List.forall_mem_cons.mpr ⟨vk_at (hts _ sr_297) (hs _ fs_297), (List.forall_mem_cons.mpr ⟨vk_at (hts _ sr_299) (hs _ fs_299), (List.forall_mem_cons.mpr ⟨vk_at (hts _ sr_103) (hs _ fs_103), (List.forall_mem_cons.mpr ⟨vk_at (hts _ sr_301) (hs _ fs_301), (List.forall_mem_cons.mpr ⟨vk_at (hts _ sr_108) (hs _ fs_108), (List.forall_mem_cons.mpr ⟨vk_at (hts _ sr_287) (hs _ fs_287), (List.forall_mem_cons.mpr ⟨vk_at (hts _ sr_135) (hs _ fs_135), (List.forall_mem_cons.mpr ⟨vk_at (hts _ sr_147) (hs _ fs_147), (List.forall_mem_cons.mpr ⟨vk_at (hts _ sr_155) (hs _ fs_155), (List.forall_mem_cons.mpr ⟨vk_at (hts _ sr_158) (hs _ fs_158), (List.forall_mem_cons.mpr ⟨vk_at (hts _ sr_291) (hs _ fs_291), (List.forall_mem_cons.mpr ⟨vk_at (hts _ sr_173) (hs _ fs_173), (List.forall_mem_cons.mpr ⟨vk_at (hts _ sr_175) (hs _ fs_175), (List.forall_mem_cons.mpr ⟨vk_at (hts _ sr_305) (hs _ fs_305), (List.forall_mem_cons.mpr ⟨vk_at (hts _ sr_186) (hs _ fs_186), (List.forall_mem_cons.mpr ⟨vk_at (hts _ sr_199) (hs _ fs_199), (List.forall_mem_cons.mpr ⟨vk_at (hts _ sr_208) (hs _ fs_208), (List.forall_mem_cons.mpr ⟨vk_at (hts _ sr_309) (hs _ fs_309), (List.forall_mem_cons.mpr ⟨vk_at (hts _ sr_312) (hs _ fs_312), (List.forall_mem_cons.mpr ⟨vk_at (hts _ sr_232) (hs _ fs_232), (List.forall_mem_cons.mpr ⟨vk_at (hts _ sr_237) (hs _ fs_237), (List.forall_mem_cons.mpr ⟨vk_at (hts _ sr_239) (hs _ fs_239), (List.forall_mem_cons.mpr ⟨vk_at (hts _ sr_247) (hs _ fs_247), (List.forall_mem_cons.mpr ⟨vk_at (hts _ sr_249) (hs _ fs_249), (List.forall_mem_cons.mpr ⟨vk_at (hts _ sr_254) (hs _ fs_254), (List.forall_mem_cons.mpr ⟨vk_at (hts _ sr_262) (hs _ fs_262), (List.forall_mem_cons.mpr ⟨vk_at (hts _ sr_267) (hs _ fs_267), (List.forall_mem_cons.mpr ⟨vk_at (hts _ sr_293) (hs _ fs_293), (List.forall_mem_cons.mpr ⟨vk_at (hts _ sr_272) (hs _ fs_272), (List.forall_mem_cons.mpr ⟨vk_at (hts _ sr_295) (hs _ fs_295), (List.forall_mem_cons.mpr ⟨vk_at (hts _ sr_277) (hs _ fs_277), (List.forall_mem_cons.mpr ⟨vk_at (hts _ sr_283) (hs _ fs_283), (fun _ h => absurd h List.not_mem_nil)⟩)⟩)⟩)⟩)⟩)⟩)⟩)⟩)⟩)⟩)⟩)⟩)⟩)⟩)⟩)⟩)⟩)⟩)⟩)⟩)⟩)⟩)⟩)⟩)⟩)⟩)⟩)⟩)⟩)⟩)⟩)⟩)⟩)⟩)⟩)⟩)
theorem sx_nc {args : Array Value} {s : State} (hg : gn.before args s = true) : ∀ e ∈ nCs, va_Nc e.1 e.2 s := by
  have hs := flat_of_before _ hg
  exact (List.forall_mem_cons.mpr ⟨va_Nc.of (hs _ fn_0), (List.forall_mem_cons.mpr ⟨va_Nc.of (hs _ fn_1), (List.forall_mem_cons.mpr ⟨va_Nc.of (hs _ fn_2), (List.forall_mem_cons.mpr ⟨va_Nc.of (hs _ fn_3), (List.forall_mem_cons.mpr ⟨va_Nc.of (hs _ fn_4), (List.forall_mem_cons.mpr ⟨va_Nc.of (hs _ fn_5), (List.forall_mem_cons.mpr ⟨va_Nc.of (hs _ fn_6), (List.forall_mem_cons.mpr ⟨va_Nc.of (hs _ fn_7), (List.forall_mem_cons.mpr ⟨va_Nc.of (hs _ fn_8), (List.forall_mem_cons.mpr ⟨va_Nc.of (hs _ fn_9), (List.forall_mem_cons.mpr ⟨va_Nc.of (hs _ fn_10), (List.forall_mem_cons.mpr ⟨va_Nc.of (hs _ fn_11), (List.forall_mem_cons.mpr ⟨va_Nc.of (hs _ fn_12), (List.forall_mem_cons.mpr ⟨va_Nc.of (hs _ fn_13), (List.forall_mem_cons.mpr ⟨va_Nc.of (hs _ fn_14), (List.forall_mem_cons.mpr ⟨va_Nc.of (hs _ fn_15), (List.forall_mem_cons.mpr ⟨va_Nc.of (hs _ fn_16), (List.forall_mem_cons.mpr ⟨va_Nc.of (hs _ fn_17), (List.forall_mem_cons.mpr ⟨va_Nc.of (hs _ fn_18), (List.forall_mem_cons.mpr ⟨va_Nc.of (hs _ fn_19), (fun _ h => absurd h List.not_mem_nil)⟩)⟩)⟩)⟩)⟩)⟩)⟩)⟩)⟩)⟩)⟩)⟩)⟩)⟩)⟩)⟩)⟩)⟩)⟩)⟩)
theorem sx_start {args : Array Value} {s : State} {A : Nat → Prop} (hg : gn.before args s = true) (hts : ∀ w ∈ lw_tbl, w.before args s = true) (hA : ∀ a : Nat, a < s.heap.size → ¬ A a) : Sx A s s.heap := by
  have hs := flat_of_before _ hg
  exact ⟨fun w hw => va_Nw.of (ex_tab (List.mem_filter.mp hw).2) (hts w (List.mem_filter.mp hw).1), sx_str hg hts, sx_nc hg, vx_Zqof (hts _ lz_UNASSIGNED_STACK) (hts _ lz_i) (hs _ fz_UNASSIGNED_STACK) hA, vx_Zqof (hts _ lz_SUPPRESSED_SENTINEL) (hts _ lz_i) (hs _ fz_SUPPRESSED_SENTINEL) hA, sa_KIND_ARITIES hg hts hA, sa_KIND_CODES hg hts hA, sa_ARGUMENT_CODES hg hts hA, sa_KIND_ARITY hg hts hA, sa_KIND_CODE hg hts hA, sa_ONES hg hts hA⟩
theorem arr_at {args : Array Value} {s : State} {ty : FieldType} (h : (Cond.arrayClass ty).before args s = true) : ∃ cA, ArrOfT s cA ty ∧ s.vm.findClass ("[" ++ ty.toString) = some cA := by
  obtain ⟨cA, kA, comp, h1, h2, h3⟩ := Cond.arrayClass_spec h
  exact ⟨cA, fun n z => ⟨(fun k h => by cases h), kA, h2, comp, h3⟩, h1⟩
theorem m_68 : Cond.classLink RL 8 RX1 ∈ Ug := Ug_at 68 (by decide +kernel) (by decide +kernel)
theorem m_913 : Cond.classLink RL 179 RX2 ∈ Ug := Ug_at 913 (by decide +kernel) (by decide +kernel)
theorem m_69 : Cond.instantiable RX1 10 ∈ Ug := Ug_at 69 (by decide +kernel) (by decide +kernel)
theorem m_914 : Cond.instantiable RX2 21 ∈ Ug := Ug_at 914 (by decide +kernel) (by decide +kernel)
theorem m_72 : Cond.code yX1_init cX1_init 1 none ∈ Ug := Ug_at 72 (by decide +kernel) (by decide +kernel)
theorem m_917 : Cond.code yX2_init cX2_init 1 none ∈ Ug := Ug_at 917 (by decide +kernel) (by decide +kernel)
theorem m_71 : Cond.instanceMethod yX1_init ∈ Ug := Ug_at 71 (by decide +kernel) (by decide +kernel)
theorem m_916 : Cond.instanceMethod yX2_init ∈ Ug := Ug_at 916 (by decide +kernel) (by decide +kernel)
theorem m_70 : Cond.methodLink RL 178 yX1_init ∈ Ug := Ug_at 70 (by decide +kernel) (by decide +kernel)
theorem m_915 : Cond.methodLink RL 181 yX2_init ∈ Ug := Ug_at 915 (by decide +kernel) (by decide +kernel)
theorem yk_X1i : yX1_init.cls ≠ "java/lang/invoke/MethodHandle" ∧ yX1_init.cls ≠ "java/lang/invoke/VarHandle" ∧ (parseMethodDescriptor yX1_init.desc).map (fun d => d.parameters.length) = some 0 := ⟨by decide +kernel, by decide +kernel, by decide +kernel⟩
theorem yk_X2i : yX2_init.cls ≠ "java/lang/invoke/MethodHandle" ∧ yX2_init.cls ≠ "java/lang/invoke/VarHandle" ∧ (parseMethodDescriptor yX2_init.desc).map (fun d => d.parameters.length) = some 0 := ⟨by decide +kernel, by decide +kernel, by decide +kernel⟩
theorem dL_law_0 : decode cL_law 0 = .ok (.new 8, 3) := by decide +kernel
theorem dL_law_3 : decode cL_law 3 = .ok (.dup, 1) := by decide +kernel
theorem dL_law_4 : decode cL_law 4 = .ok (.invokespecial 178, 3) := by decide +kernel
theorem dL_law_7 : decode cL_law 7 = .ok (.astore_n 1, 1) := by decide +kernel
theorem dL_law_8 : decode cL_law 8 = .ok (.new 179, 3) := by decide +kernel
theorem dL_law_11 : decode cL_law 11 = .ok (.dup, 1) := by decide +kernel
theorem dL_law_12 : decode cL_law 12 = .ok (.invokespecial 181, 3) := by decide +kernel
theorem dL_law_15 : decode cL_law 15 = .ok (.astore_n 2, 1) := by decide +kernel
theorem dL_law_16 : decode cL_law 16 = .ok (.iconst 1, 1) := by decide +kernel
theorem dL_law_17 : decode cL_law 17 = .ok (.newarray .long, 2) := by decide +kernel
theorem dL_law_19 : decode cL_law 19 = .ok (.astore_n 3, 1) := by decide +kernel
theorem dL_law_20 : decode cL_law 20 = .ok (.iconst 0, 1) := by decide +kernel
theorem dL_law_21 : decode cL_law 21 = .ok (.istore 4, 2) := by decide +kernel
theorem dL_law_3666 : decode cL_law 3666 = .ok (.iconst 1, 1) := by decide +kernel
theorem dL_law_3667 : decode cL_law 3667 = .ok (.ireturn, 1) := by decide +kernel
set_option maxRecDepth 20000 in
set_option maxHeartbeats 8000000 in
theorem law_walk {x : Cx} (o : Ok x cL_law 7 RL 100 601024 7293034) {sb LL : Nat} {xs : Nat → Int32} (hs9 : SF x sb LL xs) (hlaw : ∃ s, f_law xs LL = some (.inl s)) (hret : ∀ wd : va_W, RetI x cL_law .boolean 601024 7293034 wd 1) : G x 7 0 0 [] [(0, .ref sb)] 0 [] := by
  refine g_new (ci := 1) o inX1 tyX1 tyX1_ok m_68 m_69 m_54 rfl fr1 fr1_ok (Nat.le_of_ble_eq_true rfl) (Nat.le_of_ble_eq_true rfl) dL_law_0 (fun q => ?_)
  refine g_dup o rfl dL_law_3 ?_
  refine gcC o (c_X1_init (cxl x) o.2.2.2.2.2.2.2.2.2.1 q) (fun s => wX s.1 u0X s.2.1 v0I s.2.2 v0I (cxT x)) [0] [] [] rfl (by decide) rfl (by decide) (by decide) (fun _ => rfl) (Nat.le_of_ble_eq_true rfl) m_72 m_54 m_71 m_70 rfl yk_X1i (Nat.le_of_ble_eq_true rfl) ⟨(Nat.le_of_ble_eq_true rfl), (Nat.le_of_ble_eq_true rfl)⟩ dL_law_4 (fun s hs => ?_)
  obtain ⟨a, b, c⟩ := s
  dsimp only at hs
  subst hs
  try dsimp -simprocs only
  refine g_astore_n o [(1, .ref (a 0)), (0, .ref sb)] (Nat.le_of_ble_eq_true rfl) rfl rfl dL_law_7 ?_
  refine g_new (ci := 2) o inX2 tyX2 tyX2_ok m_913 m_914 m_56 rfl fr2 fr2_ok (Nat.le_of_ble_eq_true rfl) (Nat.le_of_ble_eq_true rfl) dL_law_8 (fun q => ?_)
  refine g_dup o rfl dL_law_11 ?_
  refine gcC o (c_X2_init (cxl x) o.2.2.2.2.2.2.2.2.2.1 q) (fun e => wX a u0X b v0I c v0I (cxT x) ++ wM e m0M (cxT x)) [15] [0, 1, 2, 3, 4, 5, 6, 7, 8, 9, 10, 11, 12, 13, 14] (wX a u0X b v0I c v0I (cxT x)) rfl (by decide) rfl (by decide) (by decide) (fun _ => rfl) (Nat.le_of_ble_eq_true rfl) m_917 m_56 m_916 m_915 rfl yk_X2i (Nat.le_of_ble_eq_true rfl) ⟨(Nat.le_of_ble_eq_true rfl), (Nat.le_of_ble_eq_true rfl)⟩ dL_law_12 (fun e hs => ?_)
  subst hs
  refine g_astore_n o [(2, .ref (e 0)), (1, .ref (a 0)), (0, .ref sb)] (Nat.le_of_ble_eq_true rfl) rfl rfl dL_law_15 ?_
  refine g_iconst o ic_1 dL_law_16 ?_
  refine g_newa_long o (by decide) zc_1 (by decide +kernel) (Nat.le_of_ble_eq_true rfl) (Nat.le_of_ble_eq_true rfl) dL_law_17 (fun oa => ?_)
  show G x 7 _ _ (wLw a u0X b v0I c v0I e m0M oa (fun _ => 0) (cxT x)) [(2, .ref (e 0)), (1, .ref (a 0)), (0, .ref sb)] 19 [.ref oa]
  refine g_astore_n o [(3, .ref oa), (2, .ref (e 0)), (1, .ref (a 0)), (0, .ref sb)] (Nat.le_of_ble_eq_true rfl) rfl rfl dL_law_19 ?_
  refine g_iconst o ic_0 dL_law_20 ?_
  refine g_istore o [(4, .int 0), (3, .ref oa), (2, .ref (e 0)), (1, .ref (a 0)), (0, .ref sb)] (Nat.le_of_ble_eq_true rfl) rfl dL_law_21 ?_
  obtain ⟨s, hf⟩ := hlaw
  refine g_perm [4, 3, 2, 1, 0] rfl (b_law_L o hs9 (.inl s) (fun t h => by cases h) (fun s2 hs2 k n h1 h2 => ?_) 600 (0, u0X, v0I, v0I, m0M, fun _ => 0) hf _ _ (Nat.le_of_ble_eq_true rfl) (Nat.le_of_ble_eq_true rfl))
  refine g_iconst o ic_1 dL_law_3666 ?_
  exact g_iret (hret _) h1 h2 nb_1 dL_law_3667
