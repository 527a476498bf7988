theorem g_throwN {x : Cx} {cc : ByteArray} {nL : Nat} {own : String} {d mc ms k n : Nat} {wd : va_W} {lv : List (Nat × Value)} {pc : Nat} (o : Ok x cc nL own d mc ms) {E text Y0 : String} {names : List String} {ik is ic j0 : Nat} {b0 : ByteArray} (hX : RetX x mc ms wd E) (hE : Bundle.fit E = true) (hY0 : Bundle.fit Y0 = true) (hnm : ∀ n ∈ names, Bundle.fit n = true) (hlen : names.length = 1)
    (e0 : decode b0 0 = .ok (.aload_n 0, 1)) (e1 : decode b0 1 = .ok (.aload_n 1, 1)) (e2 : decode b0 2 = .ok (.invokespecial j0, 3)) (e5 : decode b0 5 = .ok (.return_, 1))
    (hk : Cond.classLink own ik E ∈ Ug) (hini : Cond.initialized E ∈ Ug) (hs : (own, is, text) ∈ sTx) (hat : ∀ w ∈ ns_atS own ic E Y0 names j0 b0, w ∈ lw_tbl ∧ (goodWord w || exk w) = true) (hgo : ∀ w ∈ ns_atS own ic E Y0 names j0 b0, vx_ot w = true)
    (d0 : decode cc pc = .ok (.new ik, 3)) (d3 : decode cc (pc + 3) = .ok (.dup, 1)) (d4 : decode cc (pc + 4) = .ok (.ldc is, 2)) (d6 : decode cc (pc + 6) = .ok (.invokespecial ic, 3)) (d9 : decode cc (pc + 9) = .ok (.athrow, 1)) (h1 : k + 1 ≤ mc) (h2 : n + 6 ≤ ms) : G x nL k n wd lv pc [] := by
  intro H locs ls hP hD hS hl
  obtain ⟨a, ha⟩ := o.2.2.2.2.2.2.2.1.2.1 _ hs
  have hw : ∀ w ∈ ns_atS own ic E Y0 names j0 b0, w.before (cxa x) (cxs x) = true := fun w hw => by
    obtain ⟨q1, q2⟩ := hat w hw
    rcases Bool.or_eq_true _ _ ▸ q2 with q | q
    · exact o.2.2.2.2.1 w (Ug_in q1 q)
    · exact va_Nw.use (ex_tab q) (o.2.2.2.2.2.2.2.1.1 w (Ue_in q1 q))
  have hg : ∀ w ∈ Cond.classLink own ik E :: Cond.initialized E :: ns_atS own ic E Y0 names j0 b0, vx_ot w = true := fun w hw => by
    rcases List.mem_cons.mp hw with rfl | hw
    · rfl
    · rcases List.mem_cons.mp hw with rfl | hw
      · rfl
      · exact hgo w hw
  obtain ⟨hR1, hR2, hR3, hR4⟩ := o.2.2.2.2.2.2.2.2.2.2
  exact ns_make (sa := a) o.1 o.2.1 o.2.2.2.2.2.2.2.2.2.1 hY0 e0 e1 e2 e5 o.2.2.2.1 hE hnm (o.2.2.2.2.1 _ hk) (o.2.2.2.2.1 _ hini) ha hw hg o.2.2.2.2.2.2.2.1.2.2.2.1 o.2.2.2.2.2.2.2.1.2.2.2.2.1 hS (hl.1.trans o.2.2.1.symm) d0 d3 d4 d6 (by rw [hlen]; omega) (by rw [hlen]; simp; omega) (Nat.le_trans h1 hR3) (Nat.le_trans h2 hR4)
    (fun q ce H1 hq hv hcl hz hk9 hS1 => vx_athrow o.1 o.2.1 d9 (xw_out (pc := pc + 9) (st := []) o hX h1 h2 H1 locs ls q ce (hP.kept fun j q hq => hk9 q.1 (hP j q hq).lt) hD hS1 hl hq hv hcl))
theorem g_throwNW {x : Cx} {cc : ByteArray} {nL : Nat} {own : String} {d mc ms k n : Nat} {wd : va_W} {lv : List (Nat × Value)} {pc : Nat} (o : Ok x cc nL own d mc ms) {E text Y0 : String} {names : List String} {ik is ic j0 : Nat} {b0 : ByteArray} (hX : RetX x mc ms wd E) (hE : Bundle.fit E = true) (hY0 : Bundle.fit Y0 = true) (hnm : ∀ n ∈ names, Bundle.fit n = true) (hlen : names.length = 1)
    (e0 : decode b0 0 = .ok (.aload_n 0, 1)) (e1 : decode b0 1 = .ok (.aload_n 1, 1)) (e2 : decode b0 2 = .ok (.invokespecial j0, 3)) (e5 : decode b0 5 = .ok (.return_, 1))
    (hk : Cond.classLink own ik E ∈ Ug) (hini : Cond.initialized E ∈ Ug) (hs : (own, is, text) ∈ sTx) (hat : ∀ w ∈ ns_atS own ic E Y0 names j0 b0, w ∈ lw_tbl ∧ (goodWord w || exk w) = true) (hgo : ∀ w ∈ ns_atS own ic E Y0 names j0 b0, vx_ot w = true)
    (d0 : decode cc pc = .ok (.new ik, 3)) (d3 : decode cc (pc + 3) = .ok (.dup, 1)) (d4 : decode cc (pc + 4) = .ok (.ldc_w is, 3)) (d6 : decode cc (pc + 7) = .ok (.invokespecial ic, 3)) (d9 : decode cc (pc + 10) = .ok (.athrow, 1)) (h1 : k + 1 ≤ mc) (h2 : n + 6 ≤ ms) : G x nL k n wd lv pc [] := by
  intro H locs ls hP hD hS hl
  obtain ⟨a, ha⟩ := o.2.2.2.2.2.2.2.1.2.1 _ hs
  have hw : ∀ w ∈ ns_atS own ic E Y0 names j0 b0, w.before (cxa x) (cxs x) = true := fun w hw => by
    obtain ⟨q1, q2⟩ := hat w hw
    rcases Bool.or_eq_true _ _ ▸ q2 with q | q
    · exact o.2.2.2.2.1 w (Ug_in q1 q)
    · exact va_Nw.use (ex_tab q) (o.2.2.2.2.2.2.2.1.1 w (Ue_in q1 q))
  have hg : ∀ w ∈ Cond.classLink own ik E :: Cond.initialized E :: ns_atS own ic E Y0 names j0 b0, vx_ot w = true := fun w hw => by
    rcases List.mem_cons.mp hw with rfl | hw
    · rfl
    · rcases List.mem_cons.mp hw with rfl | hw
      · rfl
      · exact hgo w hw
  obtain ⟨hR1, hR2, hR3, hR4⟩ := o.2.2.2.2.2.2.2.2.2.2
  exact ns_makeW (sa := a) o.1 o.2.1 o.2.2.2.2.2.2.2.2.2.1 hY0 e0 e1 e2 e5 o.2.2.2.1 hE hnm (o.2.2.2.2.1 _ hk) (o.2.2.2.2.1 _ hini) ha hw hg o.2.2.2.2.2.2.2.1.2.2.2.1 o.2.2.2.2.2.2.2.1.2.2.2.2.1 hS (hl.1.trans o.2.2.1.symm) d0 d3 d4 d6 (by rw [hlen]; omega) (by rw [hlen]; simp; omega) (Nat.le_trans h1 hR3) (Nat.le_trans h2 hR4)
    (fun q ce H1 hq hv hcl hz hk9 hS1 => vx_athrow o.1 o.2.1 d9 (xw_out (pc := pc + 10) (st := []) o hX h1 h2 H1 locs ls q ce (hP.kept fun j q hq => hk9 q.1 (hP j q hq).lt) hD hS1 hl hq hv hcl))
theorem ns_e0 : decode prog_17_method_4_code 0 = .ok (.aload_n 0, 1) := by decide +kernel
theorem ns_e1 : decode prog_17_method_4_code 1 = .ok (.aload_n 1, 1) := by decide +kernel
theorem ns_e2 : decode prog_17_method_4_code 2 = .ok (.invokespecial 13, 3) := by decide +kernel
theorem ns_e5 : decode prog_17_method_4_code 5 = .ok (.return_, 1) := by decide +kernel
theorem fit_ns : Bundle.fit eNS = true := by decide +kernel
theorem fit_rt : Bundle.fit "java/lang/RuntimeException" = true := by decide +kernel
theorem fit_ex : ∀ n ∈ ["java/lang/Exception"], Bundle.fit n = true := by decide +kernel
theorem fit_re : ∀ n ∈ ["java/lang/RuntimeException", "java/lang/Exception"], Bundle.fit n = true := by decide +kernel
theorem fit_ia : Bundle.fit eIA = true := by decide +kernel
theorem fit_is : Bundle.fit eIS = true := by decide +kernel
theorem fit_io : Bundle.fit eIO = true := by decide +kernel
theorem fit_uo : Bundle.fit eUO = true := by decide +kernel
