theorem ac_l : Cond.methodLink RX0 34 arraycopyName ∈ Ug := Ug_at 226 (by decide +kernel) (by decide +kernel)
theorem ac_n : Cond.native arraycopyName ∈ Ug := Ug_at 228 (by decide +kernel) (by decide +kernel)
theorem ac_s : Cond.static arraycopyName ∈ Ug := Ug_at 227 (by decide +kernel) (by decide +kernel)
theorem ac_i : Cond.initialized "java/lang/System" ∈ Ug := Ug_at 67 (by decide +kernel) (by decide +kernel)
theorem ac_w : nativeFrameWords "java/lang/System" "arraycopy" 5 ≤ 100 := by decide +kernel
theorem cl_8 : (8 : Int32).toNatClampNeg = 8 := by decide +kernel
theorem cl_20 : (20 : Int32).toNatClampNeg = 20 := by decide +kernel
theorem g_copy1 {x : Cx} {cc : ByteArray} {nL d mc ms k n : Nat} {lv : List (Nat × Value)} {pc : Nat} {b c : Nat → Nat} {v w : St} (o : Ok x cc nL RX0 d mc ms) (dg : decode cc pc = .ok (.invokestatic 34, 3)) (kk : G x nL k n (wII b (ua v 1 (va_cpy (w 1) (v 1) 0 0 8)) c w (cxT x)) lv (pc + 3) []) : G x nL k n (wII b v c w (cxT x)) lv pc [.int 8, .int 0, .ref (b 1), .int 0, .ref (c 1)] := by
  intro H locs ls hP hD hS hl
  obtain ⟨hR1, hR2, -, -⟩ := o.2.2.2.2.2.2.2.2.2.2
  have h9 := ac_w
  refine va_copyi o.1 o.2.1 (o.2.2.1.trans hl.1.symm) o.2.2.2.1 (o.2.2.2.2.1 _ ac_l) (o.2.2.2.2.1 _ ac_n) (o.2.2.2.2.1 _ ac_s) (o.2.2.2.2.1 _ ac_i) o.2.2.2.2.2.1 hP hD hS 6 1 0 0 (n0 := 8) (n1 := 8) (f := w 1) (g := v 1) (ty := .int) rfl rfl rfl rfl rfl (by decide) (by decide) (by decide) (by rw [sb_cl0, cl_8]; decide) (by rw [sb_cl0, cl_8]; decide) (fun _ _ => rfl) (by omega) (by simp; omega) dg (fun H1 locs1 hP1 hD1 hS1 => ?_)
  rw [sb_cl0, cl_8] at hP1 hD1
  exact kk H1 locs1 ls hP1 hD1 hS1 hl
theorem g_copy2 {x : Cx} {cc : ByteArray} {nL d mc ms k n : Nat} {lv : List (Nat × Value)} {pc : Nat} {b c : Nat → Nat} {v w : St} (o : Ok x cc nL RX0 d mc ms) (dg : decode cc pc = .ok (.invokestatic 34, 3)) (kk : G x nL k n (wII b (ua v 2 (va_cpy (w 2) (v 2) 0 0 8)) c w (cxT x)) lv (pc + 3) []) : G x nL k n (wII b v c w (cxT x)) lv pc [.int 8, .int 0, .ref (b 2), .int 0, .ref (c 2)] := by
  intro H locs ls hP hD hS hl
  obtain ⟨hR1, hR2, -, -⟩ := o.2.2.2.2.2.2.2.2.2.2
  have h9 := ac_w
  refine va_copyi o.1 o.2.1 (o.2.2.1.trans hl.1.symm) o.2.2.2.1 (o.2.2.2.2.1 _ ac_l) (o.2.2.2.2.1 _ ac_n) (o.2.2.2.2.1 _ ac_s) (o.2.2.2.2.1 _ ac_i) o.2.2.2.2.2.1 hP hD hS 7 2 0 0 (n0 := 8) (n1 := 8) (f := w 2) (g := v 2) (ty := .int) rfl rfl rfl rfl rfl (by decide) (by decide) (by decide) (by rw [sb_cl0, cl_8]; decide) (by rw [sb_cl0, cl_8]; decide) (fun _ _ => rfl) (by omega) (by simp; omega) dg (fun H1 locs1 hP1 hD1 hS1 => ?_)
  rw [sb_cl0, cl_8] at hP1 hD1
  exact kk H1 locs1 ls hP1 hD1 hS1 hl
theorem g_copy5 {x : Cx} {cc : ByteArray} {nL d mc ms k n : Nat} {lv : List (Nat × Value)} {pc : Nat} {b c : Nat → Nat} {v w : St} (o : Ok x cc nL RX0 d mc ms) (dg : decode cc pc = .ok (.invokestatic 34, 3)) (kk : G x nL k n (wII b (ua v 5 (va_cpy (w 5) (v 5) 0 0 20)) c w (cxT x)) lv (pc + 3) []) : G x nL k n (wII b v c w (cxT x)) lv pc [.int 20, .int 0, .ref (b 5), .int 0, .ref (c 5)] := by
  intro H locs ls hP hD hS hl
  obtain ⟨hR1, hR2, -, -⟩ := o.2.2.2.2.2.2.2.2.2.2
  have h9 := ac_w
  refine va_copyi o.1 o.2.1 (o.2.2.1.trans hl.1.symm) o.2.2.2.1 (o.2.2.2.2.1 _ ac_l) (o.2.2.2.2.1 _ ac_n) (o.2.2.2.2.1 _ ac_s) (o.2.2.2.2.1 _ ac_i) o.2.2.2.2.2.1 hP hD hS 8 3 0 0 (n0 := 20) (n1 := 20) (f := w 5) (g := v 5) (ty := .int) rfl rfl rfl rfl rfl (by decide) (by decide) (by decide) (by rw [sb_cl0, cl_20]; decide) (by rw [sb_cl0, cl_20]; decide) (fun _ _ => rfl) (by omega) (by simp; omega) dg (fun H1 locs1 hP1 hD1 hS1 => ?_)
  rw [sb_cl0, cl_20] at hP1 hD1
  exact kk H1 locs1 ls hP1 hD1 hS1 hl
theorem g_copy6 {x : Cx} {cc : ByteArray} {nL d mc ms k n : Nat} {lv : List (Nat × Value)} {pc : Nat} {b c : Nat → Nat} {v w : St} (o : Ok x cc nL RX0 d mc ms) (dg : decode cc pc = .ok (.invokestatic 34, 3)) (kk : G x nL k n (wII b (ua v 6 (va_cpy (w 6) (v 6) 0 0 20)) c w (cxT x)) lv (pc + 3) []) : G x nL k n (wII b v c w (cxT x)) lv pc [.int 20, .int 0, .ref (b 6), .int 0, .ref (c 6)] := by
  intro H locs ls hP hD hS hl
  obtain ⟨hR1, hR2, -, -⟩ := o.2.2.2.2.2.2.2.2.2.2
  have h9 := ac_w
  refine va_copyi o.1 o.2.1 (o.2.2.1.trans hl.1.symm) o.2.2.2.1 (o.2.2.2.2.1 _ ac_l) (o.2.2.2.2.1 _ ac_n) (o.2.2.2.2.1 _ ac_s) (o.2.2.2.2.1 _ ac_i) o.2.2.2.2.2.1 hP hD hS 9 4 0 0 (n0 := 20) (n1 := 20) (f := w 6) (g := v 6) (ty := .int) rfl rfl rfl rfl rfl (by decide) (by decide) (by decide) (by rw [sb_cl0, cl_20]; decide) (by rw [sb_cl0, cl_20]; decide) (fun _ _ => rfl) (by omega) (by simp; omega) dg (fun H1 locs1 hP1 hD1 hS1 => ?_)
  rw [sb_cl0, cl_20] at hP1 hD1
  exact kk H1 locs1 ls hP1 hD1 hS1 hl
