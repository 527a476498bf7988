theorem k_X1_addClause_Ln {x : Cx} {cc : ByteArray} {nL : Nat} {own : String} {d mc ms k n : Nat} {lv : List (Nat × Value)} {pc i : Nat} {rest : List Value} {oa : Nat} {f : Nat → Int64} {a b c : Nat → Nat} {u v w : St} {p0 : Int32} {p1 : Int32} (o : Ok x cc nL own d mc ms) {r : Int32} {z : St} (ht : f_X1_addClause u v w p0 p1 = some (.inl r, z)) (hlk : Cond.methodLink own i yX1_addClause ∈ Ug) (hd : 2 < d) (hr : (rest.map fun v => v.category).sum ≤ 8) (hk : k + 3 ≤ mc ∧ n + 18 ≤ ms) (dg : decode cc pc = .ok (.invokevirtual i, 3)) (kk : G x nL (k + 3) (n + 18) (wXo a u b z c w oa f (cxT x)) lv (pc + 3) (.int r :: rest)) : G x nL k n (wXo a u b v c w oa f (cxT x)) lv pc (.int p1 :: .int p0 :: .ref (a 0) :: rest) := gcI (wd2 := (wXo a u b z c w oa f (cxT x))) o (c_X1_addClause (cxl x) o.2.2.2.2.2.2.2.2.2.1 a b c u v w p0 p1 (.inl r, z) ht) (can_V (q0 := 0) o rfl rfl hd (Nat.le_of_ble_eq_true rfl) m_341 m_54 m_339 m_340 hlk yk_X1_addClause rfl hr hk dg) sp_LX (fun E h => by cases h) (fun r h => by cases h; exact kk)
theorem k_X1_addClause_Lx {x : Cx} {cc : ByteArray} {nL : Nat} {own : String} {d mc ms k n : Nat} {lv : List (Nat × Value)} {pc i : Nat} {rest : List Value} {oa : Nat} {f : Nat → Int64} {a b c : Nat → Nat} {u v w : St} {p0 : Int32} {p1 : Int32} (o : Ok x cc nL own d mc ms) {E : String} {z : St} (ht : f_X1_addClause u v w p0 p1 = some (.inr E, z)) (hlk : Cond.methodLink own i yX1_addClause ∈ Ug) (hd : 2 < d) (hr : (rest.map fun v => v.category).sum ≤ 8) (hk : k + 3 ≤ mc ∧ n + 18 ≤ ms) (dg : decode cc pc = .ok (.invokevirtual i, 3)) (kk : XW x nL (k + 3) (n + 18) (wXo a u b z c w oa f (cxT x)) lv pc rest E) : G x nL k n (wXo a u b v c w oa f (cxT x)) lv pc (.int p1 :: .int p0 :: .ref (a 0) :: rest) := gcI (wd2 := (wXo a u b z c w oa f (cxT x))) o (c_X1_addClause (cxl x) o.2.2.2.2.2.2.2.2.2.1 a b c u v w p0 p1 (.inr E, z) ht) (can_V (q0 := 0) o rfl rfl hd (Nat.le_of_ble_eq_true rfl) m_341 m_54 m_339 m_340 hlk yk_X1_addClause rfl hr hk dg) sp_LX (fun E h => by cases h; exact kk) (fun r h => by cases h)
theorem k_X1_addComplement_Ln {x : Cx} {cc : ByteArray} {nL : Nat} {own : String} {d mc ms k n : Nat} {lv : List (Nat × Value)} {pc i : Nat} {rest : List Value} {oa : Nat} {f : Nat → Int64} {a b c : Nat → Nat} {u v w : St} {p0 : Int32} (o : Ok x cc nL own d mc ms) {r : Int32} {z : St} (ht : f_X1_addComplement u v w p0 = some (.inl r, z)) (hlk : Cond.methodLink own i yX1_addComplement ∈ Ug) (hd : 2 < d) (hr : (rest.map fun v => v.category).sum ≤ 8) (hk : k + 2 ≤ mc ∧ n + 12 ≤ ms) (dg : decode cc pc = .ok (.invokevirtual i, 3)) (kk : G x nL (k + 2) (n + 12) (wXo a u b z c w oa f (cxT x)) lv (pc + 3) (.int r :: rest)) : G x nL k n (wXo a u b v c w oa f (cxT x)) lv pc (.int p0 :: .ref (a 0) :: rest) := gcI (wd2 := (wXo a u b z c w oa f (cxT x))) o (c_X1_addComplement (cxl x) o.2.2.2.2.2.2.2.2.2.1 a b c u v w p0 (.inl r, z) ht) (can_V (q0 := 0) o rfl rfl hd (Nat.le_of_ble_eq_true rfl) m_436 m_54 m_434 m_435 hlk yk_X1_addComplement rfl hr hk dg) sp_LX (fun E h => by cases h) (fun r h => by cases h; exact kk)
theorem k_X1_addComplement_Lx {x : Cx} {cc : ByteArray} {nL : Nat} {own : String} {d mc ms k n : Nat} {lv : List (Nat × Value)} {pc i : Nat} {rest : List Value} {oa : Nat} {f : Nat → Int64} {a b c : Nat → Nat} {u v w : St} {p0 : Int32} (o : Ok x cc nL own d mc ms) {E : String} {z : St} (ht : f_X1_addComplement u v w p0 = some (.inr E, z)) (hlk : Cond.methodLink own i yX1_addComplement ∈ Ug) (hd : 2 < d) (hr : (rest.map fun v => v.category).sum ≤ 8) (hk : k + 2 ≤ mc ∧ n + 12 ≤ ms) (dg : decode cc pc = .ok (.invokevirtual i, 3)) (kk : XW x nL (k + 2) (n + 12) (wXo a u b z c w oa f (cxT x)) lv pc rest E) : G x nL k n (wXo a u b v c w oa f (cxT x)) lv pc (.int p0 :: .ref (a 0) :: rest) := gcI (wd2 := (wXo a u b z c w oa f (cxT x))) o (c_X1_addComplement (cxl x) o.2.2.2.2.2.2.2.2.2.1 a b c u v w p0 (.inr E, z) ht) (can_V (q0 := 0) o rfl rfl hd (Nat.le_of_ble_eq_true rfl) m_436 m_54 m_434 m_435 hlk yk_X1_addComplement rfl hr hk dg) sp_LX (fun E h => by cases h; exact kk) (fun r h => by cases h)
theorem k_X1_addConstraint_Ln {x : Cx} {cc : ByteArray} {nL : Nat} {own : String} {d mc ms k n : Nat} {lv : List (Nat × Value)} {pc i : Nat} {rest : List Value} {oa : Nat} {f : Nat → Int64} {a b c : Nat → Nat} {u v w : St} {p0 : Int32} {p1 : Int32} {p2 : Int32} {p3 : Int32} {p4 : Int32} (o : Ok x cc nL own d mc ms) {r : Int32} {z : St} (ht : f_X1_addConstraint u v w p0 p1 p2 p3 p4 = some (.inl r, z)) (hlk : Cond.methodLink own i yX1_addConstraint ∈ Ug) (hd : 2 < d) (hr : (rest.map fun v => v.category).sum ≤ 8) (hk : k + 6 ≤ mc ∧ n + 36 ≤ ms) (dg : decode cc pc = .ok (.invokevirtual i, 3)) (kk : G x nL (k + 6) (n + 36) (wXo a u b z c w oa f (cxT x)) lv (pc + 3) (.int r :: rest)) : G x nL k n (wXo a u b v c w oa f (cxT x)) lv pc (.int p4 :: .int p3 :: .int p2 :: .int p1 :: .int p0 :: .ref (a 0) :: rest) := gcI (wd2 := (wXo a u b z c w oa f (cxT x))) o (c_X1_addConstraint (cxl x) o.2.2.2.2.2.2.2.2.2.1 a b c u v w p0 p1 p2 p3 p4 (.inl r, z) ht) (can_V (q0 := 0) o rfl rfl hd (Nat.le_of_ble_eq_true rfl) m_661 m_54 m_659 m_660 hlk yk_X1_addConstraint rfl hr hk dg) sp_LX (fun E h => by cases h) (fun r h => by cases h; exact kk)
theorem k_X1_addConstraint_Lx {x : Cx} {cc : ByteArray} {nL : Nat} {own : String} {d mc ms k n : Nat} {lv : List (Nat × Value)} {pc i : Nat} {rest : List Value} {oa : Nat} {f : Nat → Int64} {a b c : Nat → Nat} {u v w : St} {p0 : Int32} {p1 : Int32} {p2 : Int32} {p3 : Int32} {p4 : Int32} (o : Ok x cc nL own d mc ms) {E : String} {z : St} (ht : f_X1_addConstraint u v w p0 p1 p2 p3 p4 = some (.inr E, z)) (hlk : Cond.methodLink own i yX1_addConstraint ∈ Ug) (hd : 2 < d) (hr : (rest.map fun v => v.category).sum ≤ 8) (hk : k + 6 ≤ mc ∧ n + 36 ≤ ms) (dg : decode cc pc = .ok (.invokevirtual i, 3)) (kk : XW x nL (k + 6) (n + 36) (wXo a u b z c w oa f (cxT x)) lv pc rest E) : G x nL k n (wXo a u b v c w oa f (cxT x)) lv pc (.int p4 :: .int p3 :: .int p2 :: .int p1 :: .int p0 :: .ref (a 0) :: rest) := gcI (wd2 := (wXo a u b z c w oa f (cxT x))) o (c_X1_addConstraint (cxl x) o.2.2.2.2.2.2.2.2.2.1 a b c u v w p0 p1 p2 p3 p4 (.inr E, z) ht) (can_V (q0 := 0) o rfl rfl hd (Nat.le_of_ble_eq_true rfl) m_661 m_54 m_659 m_660 hlk yk_X1_addConstraint rfl hr hk dg) sp_LX (fun E h => by cases h; exact kk) (fun r h => by cases h)
theorem k_X1_addExchanged_Ln {x : Cx} {cc : ByteArray} {nL : Nat} {own : String} {d mc ms k n : Nat} {lv : List (Nat × Value)} {pc i : Nat} {rest : List Value} {oa : Nat} {f : Nat → Int64} {a b c : Nat → Nat} {u v w : St} {p0 : Int32} {p1 : Int32} {p2 : Int32} (o : Ok x cc nL own d mc ms) {r : Int32} {z : St} (ht : f_X1_addExchanged u v w p0 p1 p2 = some (.inl r, z)) (hlk : Cond.methodLink own i yX1_addExchanged ∈ Ug) (hd : 2 < d) (hr : (rest.map fun v => v.category).sum ≤ 8) (hk : k + 4 ≤ mc ∧ n + 24 ≤ ms) (dg : decode cc pc = .ok (.invokevirtual i, 3)) (kk : G x nL (k + 4) (n + 24) (wXo a u b z c w oa f (cxT x)) lv (pc + 3) (.int r :: rest)) : G x nL k n (wXo a u b v c w oa f (cxT x)) lv pc (.int p2 :: .int p1 :: .int p0 :: .ref (a 0) :: rest) := gcI (wd2 := (wXo a u b z c w oa f (cxT x))) o (c_X1_addExchanged (cxl x) o.2.2.2.2.2.2.2.2.2.1 a b c u v w p0 p1 p2 (.inl r, z) ht) (can_V (q0 := 0) o rfl rfl hd (Nat.le_of_ble_eq_true rfl) m_467 m_54 m_465 m_466 hlk yk_X1_addExchanged rfl hr hk dg) sp_LX (fun E h => by cases h) (fun r h => by cases h; exact kk)
theorem k_X1_addExchanged_Lx {x : Cx} {cc : ByteArray} {nL : Nat} {own : String} {d mc ms k n : Nat} {lv : List (Nat × Value)} {pc i : Nat} {rest : List Value} {oa : Nat} {f : Nat → Int64} {a b c : Nat → Nat} {u v w : St} {p0 : Int32} {p1 : Int32} {p2 : Int32} (o : Ok x cc nL own d mc ms) {E : String} {z : St} (ht : f_X1_addExchanged u v w p0 p1 p2 = some (.inr E, z)) (hlk : Cond.methodLink own i yX1_addExchanged ∈ Ug) (hd : 2 < d) (hr : (rest.map fun v => v.category).sum ≤ 8) (hk : k + 4 ≤ mc ∧ n + 24 ≤ ms) (dg : decode cc pc = .ok (.invokevirtual i, 3)) (kk : XW x nL (k + 4) (n + 24) (wXo a u b z c w oa f (cxT x)) lv pc rest E) : G x nL k n (wXo a u b v c w oa f (cxT x)) lv pc (.int p2 :: .int p1 :: .int p0 :: .ref (a 0) :: rest) := gcI (wd2 := (wXo a u b z c w oa f (cxT x))) o (c_X1_addExchanged (cxl x) o.2.2.2.2.2.2.2.2.2.1 a b c u v w p0 p1 p2 (.inr E, z) ht) (can_V (q0 := 0) o rfl rfl hd (Nat.le_of_ble_eq_true rfl) m_467 m_54 m_465 m_466 hlk yk_X1_addExchanged rfl hr hk dg) sp_LX (fun E h => by cases h; exact kk) (fun r h => by cases h)
theorem k_X1_addIntersection_Ln {x : Cx} {cc : ByteArray} {nL : Nat} {own : String} {d mc ms k n : Nat} {lv : List (Nat × Value)} {pc i : Nat} {rest : List Value} {oa : Nat} {f : Nat → Int64} {a b c : Nat → Nat} {u v w : St} {p0 : Int32} {p1 : Int32} (o : Ok x cc nL own d mc ms) {r : Int32} {z : St} (ht : f_X1_addIntersection u v w p0 p1 = some (.inl r, z)) (hlk : Cond.methodLink own i yX1_addIntersection ∈ Ug) (hd : 2 < d) (hr : (rest.map fun v => v.category).sum ≤ 8) (hk : k + 4 ≤ mc ∧ n + 24 ≤ ms) (dg : decode cc pc = .ok (.invokevirtual i, 3)) (kk : G x nL (k + 4) (n + 24) (wXo a u b z c w oa f (cxT x)) lv (pc + 3) (.int r :: rest)) : G x nL k n (wXo a u b v c w oa f (cxT x)) lv pc (.int p1 :: .int p0 :: .ref (a 0) :: rest) := gcI (wd2 := (wXo a u b z c w oa f (cxT x))) o (c_X1_addIntersection (cxl x) o.2.2.2.2.2.2.2.2.2.1 a b c u v w p0 p1 (.inl r, z) ht) (can_V (q0 := 0) o rfl rfl hd (Nat.le_of_ble_eq_true rfl) m_443 m_54 m_441 m_442 hlk yk_X1_addIntersection rfl hr hk dg) sp_LX (fun E h => by cases h) (fun r h => by cases h; exact kk)
theorem k_X1_addIntersection_Lx {x : Cx} {cc : ByteArray} {nL : Nat} {own : String} {d mc ms k n : Nat} {lv : List (Nat × Value)} {pc i : Nat} {rest : List Value} {oa : Nat} {f : Nat → Int64} {a b c : Nat → Nat} {u v w : St} {p0 : Int32} {p1 : Int32} (o : Ok x cc nL own d mc ms) {E : String} {z : St} (ht : f_X1_addIntersection u v w p0 p1 = some (.inr E, z)) (hlk : Cond.methodLink own i yX1_addIntersection ∈ Ug) (hd : 2 < d) (hr : (rest.map fun v => v.category).sum ≤ 8) (hk : k + 4 ≤ mc ∧ n + 24 ≤ ms) (dg : decode cc pc = .ok (.invokevirtual i, 3)) (kk : XW x nL (k + 4) (n + 24) (wXo a u b z c w oa f (cxT x)) lv pc rest E) : G x nL k n (wXo a u b v c w oa f (cxT x)) lv pc (.int p1 :: .int p0 :: .ref (a 0) :: rest) := gcI (wd2 := (wXo a u b z c w oa f (cxT x))) o (c_X1_addIntersection (cxl x) o.2.2.2.2.2.2.2.2.2.1 a b c u v w p0 p1 (.inr E, z) ht) (can_V (q0 := 0) o rfl rfl hd (Nat.le_of_ble_eq_true rfl) m_443 m_54 m_441 m_442 hlk yk_X1_addIntersection rfl hr hk dg) sp_LX (fun E h => by cases h; exact kk) (fun r h => by cases h)
theorem k_X1_addParity_Ln {x : Cx} {cc : ByteArray} {nL : Nat} {own : String} {d mc ms k n : Nat} {lv : List (Nat × Value)} {pc i : Nat} {rest : List Value} {oa : Nat} {f : Nat → Int64} {a b c : Nat → Nat} {u v w : St} {p0 : Int32} {p1 : Int32} (o : Ok x cc nL own d mc ms) {r : Int32} {z : St} (ht : f_X1_addParity u v w p0 p1 = some (.inl r, z)) (hlk : Cond.methodLink own i yX1_addParity ∈ Ug) (hd : 2 < d) (hr : (rest.map fun v => v.category).sum ≤ 8) (hk : k + 3 ≤ mc ∧ n + 18 ≤ ms) (dg : decode cc pc = .ok (.invokevirtual i, 3)) (kk : G x nL (k + 3) (n + 18) (wXo a u b z c w oa f (cxT x)) lv (pc + 3) (.int r :: rest)) : G x nL k n (wXo a u b v c w oa f (cxT x)) lv pc (.int p1 :: .int p0 :: .ref (a 0) :: rest) := gcI (wd2 := (wXo a u b z c w oa f (cxT x))) o (c_X1_addParity (cxl x) o.2.2.2.2.2.2.2.2.2.1 a b c u v w p0 p1 (.inl r, z) ht) (can_V (q0 := 0) o rfl rfl hd (Nat.le_of_ble_eq_true rfl) m_353 m_54 m_351 m_352 hlk yk_X1_addParity rfl hr hk dg) sp_LX (fun E h => by cases h) (fun r h => by cases h; exact kk)
theorem k_X1_addParity_Lx {x : Cx} {cc : ByteArray} {nL : Nat} {own : String} {d mc ms k n : Nat} {lv : List (Nat × Value)} {pc i : Nat} {rest : List Value} {oa : Nat} {f : Nat → Int64} {a b c : Nat → Nat} {u v w : St} {p0 : Int32} {p1 : Int32} (o : Ok x cc nL own d mc ms) {E : String} {z : St} (ht : f_X1_addParity u v w p0 p1 = some (.inr E, z)) (hlk : Cond.methodLink own i yX1_addParity ∈ Ug) (hd : 2 < d) (hr : (rest.map fun v => v.category).sum ≤ 8) (hk : k + 3 ≤ mc ∧ n + 18 ≤ ms) (dg : decode cc pc = .ok (.invokevirtual i, 3)) (kk : XW x nL (k + 3) (n + 18) (wXo a u b z c w oa f (cxT x)) lv pc rest E) : G x nL k n (wXo a u b v c w oa f (cxT x)) lv pc (.int p1 :: .int p0 :: .ref (a 0) :: rest) := gcI (wd2 := (wXo a u b z c w oa f (cxT x))) o (c_X1_addParity (cxl x) o.2.2.2.2.2.2.2.2.2.1 a b c u v w p0 p1 (.inr E, z) ht) (can_V (q0 := 0) o rfl rfl hd (Nat.le_of_ble_eq_true rfl) m_353 m_54 m_351 m_352 hlk yk_X1_addParity rfl hr hk dg) sp_LX (fun E h => by cases h; exact kk) (fun r h => by cases h)
theorem k_X1_addProjection_Ln {x : Cx} {cc : ByteArray} {nL : Nat} {own : String} {d mc ms k n : Nat} {lv : List (Nat × Value)} {pc i : Nat} {rest : List Value} {oa : Nat} {f : Nat → Int64} {a b c : Nat → Nat} {u v w : St} {p0 : Int32} {p1 : Int32} (o : Ok x cc nL own d mc ms) {r : Int32} {z : St} (ht : f_X1_addProjection u v w p0 p1 = some (.inl r, z)) (hlk : Cond.methodLink own i yX1_addProjection ∈ Ug) (hd : 2 < d) (hr : (rest.map fun v => v.category).sum ≤ 8) (hk : k + 4 ≤ mc ∧ n + 24 ≤ ms) (dg : decode cc pc = .ok (.invokevirtual i, 3)) (kk : G x nL (k + 4) (n + 24) (wXo a u b z c w oa f (cxT x)) lv (pc + 3) (.int r :: rest)) : G x nL k n (wXo a u b v c w oa f (cxT x)) lv pc (.int p1 :: .int p0 :: .ref (a 0) :: rest) := gcI (wd2 := (wXo a u b z c w oa f (cxT x))) o (c_X1_addProjection (cxl x) o.2.2.2.2.2.2.2.2.2.1 a b c u v w p0 p1 (.inl r, z) ht) (can_V (q0 := 0) o rfl rfl hd (Nat.le_of_ble_eq_true rfl) m_451 m_54 m_449 m_450 hlk yk_X1_addProjection rfl hr hk dg) sp_LX (fun E h => by cases h) (fun r h => by cases h; exact kk)
theorem k_X1_addProjection_Lx {x : Cx} {cc : ByteArray} {nL : Nat} {own : String} {d mc ms k n : Nat} {lv : List (Nat × Value)} {pc i : Nat} {rest : List Value} {oa : Nat} {f : Nat → Int64} {a b c : Nat → Nat} {u v w : St} {p0 : Int32} {p1 : Int32} (o : Ok x cc nL own d mc ms) {E : String} {z : St} (ht : f_X1_addProjection u v w p0 p1 = some (.inr E, z)) (hlk : Cond.methodLink own i yX1_addProjection ∈ Ug) (hd : 2 < d) (hr : (rest.map fun v => v.category).sum ≤ 8) (hk : k + 4 ≤ mc ∧ n + 24 ≤ ms) (dg : decode cc pc = .ok (.invokevirtual i, 3)) (kk : XW x nL (k + 4) (n + 24) (wXo a u b z c w oa f (cxT x)) lv pc rest E) : G x nL k n (wXo a u b v c w oa f (cxT x)) lv pc (.int p1 :: .int p0 :: .ref (a 0) :: rest) := gcI (wd2 := (wXo a u b z c w oa f (cxT x))) o (c_X1_addProjection (cxl x) o.2.2.2.2.2.2.2.2.2.1 a b c u v w p0 p1 (.inr E, z) ht) (can_V (q0 := 0) o rfl rfl hd (Nat.le_of_ble_eq_true rfl) m_451 m_54 m_449 m_450 hlk yk_X1_addProjection rfl hr hk dg) sp_LX (fun E h => by cases h; exact kk) (fun r h => by cases h)
theorem k_X1_addRelation_Ln {x : Cx} {cc : ByteArray} {nL : Nat} {own : String} {d mc ms k n : Nat} {lv : List (Nat × Value)} {pc i : Nat} {rest : List Value} {oa : Nat} {f : Nat → Int64} {a b c : Nat → Nat} {u v w : St} {p0 : Int32} (o : Ok x cc nL own d mc ms) {r : Int32} {z : St} (ht : f_X1_addRelation u v w p0 = some (.inl r, z)) (hlk : Cond.methodLink own i yX1_addRelation ∈ Ug) (hd : 2 < d) (hr : (rest.map fun v => v.category).sum ≤ 8) (hk : k + 2 ≤ mc ∧ n + 12 ≤ ms) (dg : decode cc pc = .ok (.invokevirtual i, 3)) (kk : G x nL (k + 2) (n + 12) (wXo a u b z c w oa f (cxT x)) lv (pc + 3) (.int r :: rest)) : G x nL k n (wXo a u b v c w oa f (cxT x)) lv pc (.int p0 :: .ref (a 0) :: rest) := gcI (wd2 := (wXo a u b z c w oa f (cxT x))) o (c_X1_addRelation (cxl x) o.2.2.2.2.2.2.2.2.2.1 a b c u v w p0 (.inl r, z) ht) (can_V (q0 := 0) o rfl rfl hd (Nat.le_of_ble_eq_true rfl) m_237 m_54 m_235 m_236 hlk yk_X1_addRelation rfl hr hk dg) sp_LX (fun E h => by cases h) (fun r h => by cases h; exact kk)
theorem k_X1_addRelation_Lx {x : Cx} {cc : ByteArray} {nL : Nat} {own : String} {d mc ms k n : Nat} {lv : List (Nat × Value)} {pc i : Nat} {rest : List Value} {oa : Nat} {f : Nat → Int64} {a b c : Nat → Nat} {u v w : St} {p0 : Int32} (o : Ok x cc nL own d mc ms) {E : String} {z : St} (ht : f_X1_addRelation u v w p0 = some (.inr E, z)) (hlk : Cond.methodLink own i yX1_addRelation ∈ Ug) (hd : 2 < d) (hr : (rest.map fun v => v.category).sum ≤ 8) (hk : k + 2 ≤ mc ∧ n + 12 ≤ ms) (dg : decode cc pc = .ok (.invokevirtual i, 3)) (kk : XW x nL (k + 2) (n + 12) (wXo a u b z c w oa f (cxT x)) lv pc rest E) : G x nL k n (wXo a u b v c w oa f (cxT x)) lv pc (.int p0 :: .ref (a 0) :: rest) := gcI (wd2 := (wXo a u b z c w oa f (cxT x))) o (c_X1_addRelation (cxl x) o.2.2.2.2.2.2.2.2.2.1 a b c u v w p0 (.inr E, z) ht) (can_V (q0 := 0) o rfl rfl hd (Nat.le_of_ble_eq_true rfl) m_237 m_54 m_235 m_236 hlk yk_X1_addRelation rfl hr hk dg) sp_LX (fun E h => by cases h; exact kk) (fun r h => by cases h)
theorem k_X1_addTuple_Ln {x : Cx} {cc : ByteArray} {nL : Nat} {own : String} {d mc ms k n : Nat} {lv : List (Nat × Value)} {pc i : Nat} {rest : List Value} {oa : Nat} {f : Nat → Int64} {a b c : Nat → Nat} {u v w : St} {p0 : Int32} {p1 : Int32} (o : Ok x cc nL own d mc ms) {r : Int32} {z : St} (ht : f_X1_addTuple u v w p0 p1 = some (.inl r, z)) (hlk : Cond.methodLink own i yX1_addTuple ∈ Ug) (hd : 2 < d) (hr : (rest.map fun v => v.category).sum ≤ 8) (hk : k + 2 ≤ mc ∧ n + 12 ≤ ms) (dg : decode cc pc = .ok (.invokevirtual i, 3)) (kk : G x nL (k + 2) (n + 12) (wXo a u b z c w oa f (cxT x)) lv (pc + 3) (.int r :: rest)) : G x nL k n (wXo a u b v c w oa f (cxT x)) lv pc (.int p1 :: .int p0 :: .ref (a 0) :: rest) := gcI (wd2 := (wXo a u b z c w oa f (cxT x))) o (c_X1_addTuple (cxl x) o.2.2.2.2.2.2.2.2.2.1 a b c u v w p0 p1 (.inl r, z) ht) (can_V (q0 := 0) o rfl rfl hd (Nat.le_of_ble_eq_true rfl) m_368 m_54 m_366 m_367 hlk yk_X1_addTuple rfl hr hk dg) sp_LX (fun E h => by cases h) (fun r h => by cases h; exact kk)
theorem k_X1_addTuple_Lx {x : Cx} {cc : ByteArray} {nL : Nat} {own : String} {d mc ms k n : Nat} {lv : List (Nat × Value)} {pc i : Nat} {rest : List Value} {oa : Nat} {f : Nat → Int64} {a b c : Nat → Nat} {u v w : St} {p0 : Int32} {p1 : Int32} (o : Ok x cc nL own d mc ms) {E : String} {z : St} (ht : f_X1_addTuple u v w p0 p1 = some (.inr E, z)) (hlk : Cond.methodLink own i yX1_addTuple ∈ Ug) (hd : 2 < d) (hr : (rest.map fun v => v.category).sum ≤ 8) (hk : k + 2 ≤ mc ∧ n + 12 ≤ ms) (dg : decode cc pc = .ok (.invokevirtual i, 3)) (kk : XW x nL (k + 2) (n + 12) (wXo a u b z c w oa f (cxT x)) lv pc rest E) : G x nL k n (wXo a u b v c w oa f (cxT x)) lv pc (.int p1 :: .int p0 :: .ref (a 0) :: rest) := gcI (wd2 := (wXo a u b z c w oa f (cxT x))) o (c_X1_addTuple (cxl x) o.2.2.2.2.2.2.2.2.2.1 a b c u v w p0 p1 (.inr E, z) ht) (can_V (q0 := 0) o rfl rfl hd (Nat.le_of_ble_eq_true rfl) m_368 m_54 m_366 m_367 hlk yk_X1_addTuple rfl hr hk dg) sp_LX (fun E h => by cases h; exact kk) (fun r h => by cases h)
theorem k_X1_append_Ln {x : Cx} {cc : ByteArray} {nL : Nat} {own : String} {d mc ms k n : Nat} {lv : List (Nat × Value)} {pc i : Nat} {rest : List Value} {oa : Nat} {f : Nat → Int64} {a b c : Nat → Nat} {u v w : St} {p0 : Int32} (o : Ok x cc nL own d mc ms) {r : Int32} {z : St} (ht : f_X1_append u v w p0 = some (.inl r, z)) (hlk : Cond.methodLink own i yX1_append ∈ Ug) (hd : 0 < d) (hr : (rest.map fun v => v.category).sum ≤ 8) (hk : k + 2 ≤ mc ∧ n + 12 ≤ ms) (dg : decode cc pc = .ok (.invokevirtual i, 3)) (kk : G x nL (k + 2) (n + 12) (wXo a z b v c w oa f (cxT x)) lv (pc + 3) (.int r :: rest)) : G x nL k n (wXo a u b v c w oa f (cxT x)) lv pc (.int p0 :: .ref (a 0) :: rest) := gcI (wd2 := (wXo a z b v c w oa f (cxT x))) o (c_X1_append (cxl x) o.2.2.2.2.2.2.2.2.2.1 a b c u v w p0 (.inl r, z) ht) (can_V (q0 := 0) o rfl rfl hd (Nat.le_of_ble_eq_true rfl) m_813 m_54 m_811 m_812 hlk yk_X1_append rfl hr hk dg) sp_LX (fun E h => by cases h) (fun r h => by cases h; exact kk)
theorem k_X1_append_Lx {x : Cx} {cc : ByteArray} {nL : Nat} {own : String} {d mc ms k n : Nat} {lv : List (Nat × Value)} {pc i : Nat} {rest : List Value} {oa : Nat} {f : Nat → Int64} {a b c : Nat → Nat} {u v w : St} {p0 : Int32} (o : Ok x cc nL own d mc ms) {E : String} {z : St} (ht : f_X1_append u v w p0 = some (.inr E, z)) (hlk : Cond.methodLink own i yX1_append ∈ Ug) (hd : 0 < d) (hr : (rest.map fun v => v.category).sum ≤ 8) (hk : k + 2 ≤ mc ∧ n + 12 ≤ ms) (dg : decode cc pc = .ok (.invokevirtual i, 3)) (kk : XW x nL (k + 2) (n + 12) (wXo a z b v c w oa f (cxT x)) lv pc rest E) : G x nL k n (wXo a u b v c w oa f (cxT x)) lv pc (.int p0 :: .ref (a 0) :: rest) := gcI (wd2 := (wXo a z b v c w oa f (cxT x))) o (c_X1_append (cxl x) o.2.2.2.2.2.2.2.2.2.1 a b c u v w p0 (.inr E, z) ht) (can_V (q0 := 0) o rfl rfl hd (Nat.le_of_ble_eq_true rfl) m_813 m_54 m_811 m_812 hlk yk_X1_append rfl hr hk dg) sp_LX (fun E h => by cases h; exact kk) (fun r h => by cases h)
theorem k_X1_apply_Ln {x : Cx} {cc : ByteArray} {nL : Nat} {own : String} {d mc ms k n : Nat} {lv : List (Nat × Value)} {pc i : Nat} {rest : List Value} {oa : Nat} {f : Nat → Int64} {a b c : Nat → Nat} {u v w : St} {p0 : Int32} {p1 : Int32} {p2 : Int32} {p3 : Int32} {p4 : Int32} (o : Ok x cc nL own d mc ms) {r : Int32} (ht : f_X1_apply u v w p0 p1 p2 p3 p4 = some (.inl r)) (hlk : Cond.methodLink own i yX1_apply ∈ Ug) (hd : 2 < d) (hr : (rest.map fun v => v.category).sum ≤ 8) (hk : k + 5 ≤ mc ∧ n + 30 ≤ ms) (dg : decode cc pc = .ok (.invokevirtual i, 3)) (kk : G x nL (k + 5) (n + 30) (wXo a u b v c w oa f (cxT x)) lv (pc + 3) (.int r :: rest)) : G x nL k n (wXo a u b v c w oa f (cxT x)) lv pc (.int p4 :: .int p3 :: .int p2 :: .int p1 :: .int p0 :: .ref (a 0) :: rest) := gcI (wd2 := (wXo a u b v c w oa f (cxT x))) o (c_X1_apply (cxl x) o.2.2.2.2.2.2.2.2.2.1 a b c u v w p0 p1 p2 p3 p4 (.inl r) ht) (can_V (q0 := 0) o rfl rfl hd (Nat.le_of_ble_eq_true rfl) m_477 m_54 m_475 m_476 hlk yk_X1_apply rfl hr hk dg) sp_LX (fun E h => by cases h) (fun r h => by cases h; exact kk)
theorem k_X1_apply_Lx {x : Cx} {cc : ByteArray} {nL : Nat} {own : String} {d mc ms k n : Nat} {lv : List (Nat × Value)} {pc i : Nat} {rest : List Value} {oa : Nat} {f : Nat → Int64} {a b c : Nat → Nat} {u v w : St} {p0 : Int32} {p1 : Int32} {p2 : Int32} {p3 : Int32} {p4 : Int32} (o : Ok x cc nL own d mc ms) {E : String} (ht : f_X1_apply u v w p0 p1 p2 p3 p4 = some (.inr E)) (hlk : Cond.methodLink own i yX1_apply ∈ Ug) (hd : 2 < d) (hr : (rest.map fun v => v.category).sum ≤ 8) (hk : k + 5 ≤ mc ∧ n + 30 ≤ ms) (dg : decode cc pc = .ok (.invokevirtual i, 3)) (kk : XW x nL (k + 5) (n + 30) (wXo a u b v c w oa f (cxT x)) lv pc rest E) : G x nL k n (wXo a u b v c w oa f (cxT x)) lv pc (.int p4 :: .int p3 :: .int p2 :: .int p1 :: .int p0 :: .ref (a 0) :: rest) := gcI (wd2 := (wXo a u b v c w oa f (cxT x))) o (c_X1_apply (cxl x) o.2.2.2.2.2.2.2.2.2.1 a b c u v w p0 p1 p2 p3 p4 (.inr E) ht) (can_V (q0 := 0) o rfl rfl hd (Nat.le_of_ble_eq_true rfl) m_477 m_54 m_475 m_476 hlk yk_X1_apply rfl hr hk dg) sp_LX (fun E h => by cases h; exact kk) (fun r h => by cases h)
theorem k_X1_areEqual_Ln {x : Cx} {cc : ByteArray} {nL : Nat} {own : String} {d mc ms k n : Nat} {lv : List (Nat × Value)} {pc i : Nat} {rest : List Value} {oa : Nat} {f : Nat → Int64} {a b c : Nat → Nat} {u v w : St} {p0 : Int32} {p1 : Int32} (o : Ok x cc nL own d mc ms) {r : Int32} (ht : f_X1_areEqual u v w p0 p1 = some (.inl r)) (hlk : Cond.methodLink own i yX1_areEqual ∈ Ug) (hd : 1 < d) (hr : (rest.map fun v => v.category).sum ≤ 8) (hk : k + 2 ≤ mc ∧ n + 12 ≤ ms) (dg : decode cc pc = .ok (.invokevirtual i, 3)) (kk : G x nL (k + 2) (n + 12) (wXo a u b v c w oa f (cxT x)) lv (pc + 3) (.int r :: rest)) : G x nL k n (wXo a u b v c w oa f (cxT x)) lv pc (.int p1 :: .int p0 :: .ref (a 0) :: rest) := gcI (wd2 := (wXo a u b v c w oa f (cxT x))) o (c_X1_areEqual (cxl x) o.2.2.2.2.2.2.2.2.2.1 a b c u v w p0 p1 (.inl r) ht) (can_V (q0 := 0) o rfl rfl hd (Nat.le_of_ble_eq_true rfl) m_429 m_54 m_427 m_428 hlk yk_X1_areEqual rfl hr hk dg) sp_LX (fun E h => by cases h) (fun r h => by cases h; exact kk)
theorem k_X1_areEqual_Lx {x : Cx} {cc : ByteArray} {nL : Nat} {own : String} {d mc ms k n : Nat} {lv : List (Nat × Value)} {pc i : Nat} {rest : List Value} {oa : Nat} {f : Nat → Int64} {a b c : Nat → Nat} {u v w : St} {p0 : Int32} {p1 : Int32} (o : Ok x cc nL own d mc ms) {E : String} (ht : f_X1_areEqual u v w p0 p1 = some (.inr E)) (hlk : Cond.methodLink own i yX1_areEqual ∈ Ug) (hd : 1 < d) (hr : (rest.map fun v => v.category).sum ≤ 8) (hk : k + 2 ≤ mc ∧ n + 12 ≤ ms) (dg : decode cc pc = .ok (.invokevirtual i, 3)) (kk : XW x nL (k + 2) (n + 12) (wXo a u b v c w oa f (cxT x)) lv pc rest E) : G x nL k n (wXo a u b v c w oa f (cxT x)) lv pc (.int p1 :: .int p0 :: .ref (a 0) :: rest) := gcI (wd2 := (wXo a u b v c w oa f (cxT x))) o (c_X1_areEqual (cxl x) o.2.2.2.2.2.2.2.2.2.1 a b c u v w p0 p1 (.inr E) ht) (can_V (q0 := 0) o rfl rfl hd (Nat.le_of_ble_eq_true rfl) m_429 m_54 m_427 m_428 hlk yk_X1_areEqual rfl hr hk dg) sp_LX (fun E h => by cases h; exact kk) (fun r h => by cases h)
theorem k_X1_arity_Ln {x : Cx} {cc : ByteArray} {nL : Nat} {own : String} {d mc ms k n : Nat} {lv : List (Nat × Value)} {pc i : Nat} {rest : List Value} {oa : Nat} {f : Nat → Int64} {a b c : Nat → Nat} {u v w : St} {p0 : Int32} (o : Ok x cc nL own d mc ms) {r : Int32} (ht : f_X1_arity u v w p0 = some (.inl r)) (hlk : Cond.methodLink own i yX1_arity ∈ Ug) (hd : 1 < d) (hr : (rest.map fun v => v.category).sum ≤ 8) (hk : k + 1 ≤ mc ∧ n + 6 ≤ ms) (dg : decode cc pc = .ok (.invokevirtual i, 3)) (kk : G x nL (k + 1) (n + 6) (wXo a u b v c w oa f (cxT x)) lv (pc + 3) (.int r :: rest)) : G x nL k n (wXo a u b v c w oa f (cxT x)) lv pc (.int p0 :: .ref (a 0) :: rest) := gcI (wd2 := (wXo a u b v c w oa f (cxT x))) o (c_X1_arity (cxl x) o.2.2.2.2.2.2.2.2.2.1 a b c u v w p0 (.inl r) ht) (can_V (q0 := 0) o rfl rfl hd (Nat.le_of_ble_eq_true rfl) m_422 m_54 m_420 m_421 hlk yk_X1_arity rfl hr hk dg) sp_LX (fun E h => by cases h) (fun r h => by cases h; exact kk)
theorem k_X1_arity_Lx {x : Cx} {cc : ByteArray} {nL : Nat} {own : String} {d mc ms k n : Nat} {lv : List (Nat × Value)} {pc i : Nat} {rest : List Value} {oa : Nat} {f : Nat → Int64} {a b c : Nat → Nat} {u v w : St} {p0 : Int32} (o : Ok x cc nL own d mc ms) {E : String} (ht : f_X1_arity u v w p0 = some (.inr E)) (hlk : Cond.methodLink own i yX1_arity ∈ Ug) (hd : 1 < d) (hr : (rest.map fun v => v.category).sum ≤ 8) (hk : k + 1 ≤ mc ∧ n + 6 ≤ ms) (dg : decode cc pc = .ok (.invokevirtual i, 3)) (kk : XW x nL (k + 1) (n + 6) (wXo a u b v c w oa f (cxT x)) lv pc rest E) : G x nL k n (wXo a u b v c w oa f (cxT x)) lv pc (.int p0 :: .ref (a 0) :: rest) := gcI (wd2 := (wXo a u b v c w oa f (cxT x))) o (c_X1_arity (cxl x) o.2.2.2.2.2.2.2.2.2.1 a b c u v w p0 (.inr E) ht) (can_V (q0 := 0) o rfl rfl hd (Nat.le_of_ble_eq_true rfl) m_422 m_54 m_420 m_421 hlk yk_X1_arity rfl hr hk dg) sp_LX (fun E h => by cases h; exact kk) (fun r h => by cases h)
theorem k_X1_close_Ln {x : Cx} {cc : ByteArray} {nL : Nat} {own : String} {d mc ms k n : Nat} {lv : List (Nat × Value)} {pc i : Nat} {rest : List Value} {oa : Nat} {f : Nat → Int64} {a b c : Nat → Nat} {u v w : St} {p0 : Int32} {p1 : Int32} {p2 : Int32} (o : Ok x cc nL own d mc ms) {r : Int32} {z : St} (ht : f_X1_close u v w p0 p1 p2 = some (.inl r, z)) (hlk : Cond.methodLink own i yX1_close ∈ Ug) (hd : 2 < d) (hr : (rest.map fun v => v.category).sum ≤ 8) (hk : k + 3 ≤ mc ∧ n + 18 ≤ ms) (dg : decode cc pc = .ok (.invokevirtual i, 3)) (kk : G x nL (k + 3) (n + 18) (wXo a u b z c w oa f (cxT x)) lv (pc + 3) (.int r :: rest)) : G x nL k n (wXo a u b v c w oa f (cxT x)) lv pc (.int p2 :: .int p1 :: .int p0 :: .ref (a 0) :: rest) := gcI (wd2 := (wXo a u b z c w oa f (cxT x))) o (c_X1_close (cxl x) o.2.2.2.2.2.2.2.2.2.1 a b c u v w p0 p1 p2 (.inl r, z) ht) (can_V (q0 := 0) o rfl rfl hd (Nat.le_of_ble_eq_true rfl) m_589 m_54 m_587 m_588 hlk yk_X1_close rfl hr hk dg) sp_LX (fun E h => by cases h) (fun r h => by cases h; exact kk)
theorem k_X1_close_Lx {x : Cx} {cc : ByteArray} {nL : Nat} {own : String} {d mc ms k n : Nat} {lv : List (Nat × Value)} {pc i : Nat} {rest : List Value} {oa : Nat} {f : Nat → Int64} {a b c : Nat → Nat} {u v w : St} {p0 : Int32} {p1 : Int32} {p2 : Int32} (o : Ok x cc nL own d mc ms) {E : String} {z : St} (ht : f_X1_close u v w p0 p1 p2 = some (.inr E, z)) (hlk : Cond.methodLink own i yX1_close ∈ Ug) (hd : 2 < d) (hr : (rest.map fun v => v.category).sum ≤ 8) (hk : k + 3 ≤ mc ∧ n + 18 ≤ ms) (dg : decode cc pc = .ok (.invokevirtual i, 3)) (kk : XW x nL (k + 3) (n + 18) (wXo a u b z c w oa f (cxT x)) lv pc rest E) : G x nL k n (wXo a u b v c w oa f (cxT x)) lv pc (.int p2 :: .int p1 :: .int p0 :: .ref (a 0) :: rest) := gcI (wd2 := (wXo a u b z c w oa f (cxT x))) o (c_X1_close (cxl x) o.2.2.2.2.2.2.2.2.2.1 a b c u v w p0 p1 p2 (.inr E, z) ht) (can_V (q0 := 0) o rfl rfl hd (Nat.le_of_ble_eq_true rfl) m_589 m_54 m_587 m_588 hlk yk_X1_close rfl hr hk dg) sp_LX (fun E h => by cases h; exact kk) (fun r h => by cases h)
theorem k_X1_compose_Ln {x : Cx} {cc : ByteArray} {nL : Nat} {own : String} {d mc ms k n : Nat} {lv : List (Nat × Value)} {pc i : Nat} {rest : List Value} {oa : Nat} {f : Nat → Int64} {a b c : Nat → Nat} {u v w : St} {p0 : Int32} {p1 : Int32} {p2 : Int32} (o : Ok x cc nL own d mc ms) {r : Int32} (ht : f_X1_compose u v w p0 p1 p2 = some (.inl r)) (hlk : Cond.methodLink own i yX1_compose ∈ Ug) (hd : 2 < d) (hr : (rest.map fun v => v.category).sum ≤ 8) (hk : k + 3 ≤ mc ∧ n + 18 ≤ ms) (dg : decode cc pc = .ok (.invokevirtual i, 3)) (kk : G x nL (k + 3) (n + 18) (wXo a u b v c w oa f (cxT x)) lv (pc + 3) (.int r :: rest)) : G x nL k n (wXo a u b v c w oa f (cxT x)) lv pc (.int p2 :: .int p1 :: .int p0 :: .ref (a 0) :: rest) := gcI (wd2 := (wXo a u b v c w oa f (cxT x))) o (c_X1_compose (cxl x) o.2.2.2.2.2.2.2.2.2.1 a b c u v w p0 p1 p2 (.inl r) ht) (can_V (q0 := 0) o rfl rfl hd (Nat.le_of_ble_eq_true rfl) m_611 m_54 m_609 m_610 hlk yk_X1_compose rfl hr hk dg) sp_LX (fun E h => by cases h) (fun r h => by cases h; exact kk)
theorem k_X1_compose_Lx {x : Cx} {cc : ByteArray} {nL : Nat} {own : String} {d mc ms k n : Nat} {lv : List (Nat × Value)} {pc i : Nat} {rest : List Value} {oa : Nat} {f : Nat → Int64} {a b c : Nat → Nat} {u v w : St} {p0 : Int32} {p1 : Int32} {p2 : Int32} (o : Ok x cc nL own d mc ms) {E : String} (ht : f_X1_compose u v w p0 p1 p2 = some (.inr E)) (hlk : Cond.methodLink own i yX1_compose ∈ Ug) (hd : 2 < d) (hr : (rest.map fun v => v.category).sum ≤ 8) (hk : k + 3 ≤ mc ∧ n + 18 ≤ ms) (dg : decode cc pc = .ok (.invokevirtual i, 3)) (kk : XW x nL (k + 3) (n + 18) (wXo a u b v c w oa f (cxT x)) lv pc rest E) : G x nL k n (wXo a u b v c w oa f (cxT x)) lv pc (.int p2 :: .int p1 :: .int p0 :: .ref (a 0) :: rest) := gcI (wd2 := (wXo a u b v c w oa f (cxT x))) o (c_X1_compose (cxl x) o.2.2.2.2.2.2.2.2.2.1 a b c u v w p0 p1 p2 (.inr E) ht) (can_V (q0 := 0) o rfl rfl hd (Nat.le_of_ble_eq_true rfl) m_611 m_54 m_609 m_610 hlk yk_X1_compose rfl hr hk dg) sp_LX (fun E h => by cases h; exact kk) (fun r h => by cases h)
theorem k_X1_contains_Ln {x : Cx} {cc : ByteArray} {nL : Nat} {own : String} {d mc ms k n : Nat} {lv : List (Nat × Value)} {pc i : Nat} {rest : List Value} {oa : Nat} {f : Nat → Int64} {a b c : Nat → Nat} {u v w : St} {p0 : Int32} {p1 : Int32} (o : Ok x cc nL own d mc ms) {r : Int32} (ht : f_X1_contains u v w p0 p1 = some (.inl r)) (hlk : Cond.methodLink own i yX1_contains ∈ Ug) (hd : 2 < d) (hr : (rest.map fun v => v.category).sum ≤ 8) (hk : k + 2 ≤ mc ∧ n + 12 ≤ ms) (dg : decode cc pc = .ok (.invokevirtual i, 3)) (kk : G x nL (k + 2) (n + 12) (wXo a u b v c w oa f (cxT x)) lv (pc + 3) (.int r :: rest)) : G x nL k n (wXo a u b v c w oa f (cxT x)) lv pc (.int p1 :: .int p0 :: .ref (a 0) :: rest) := gcI (wd2 := (wXo a u b v c w oa f (cxT x))) o (c_X1_contains (cxl x) o.2.2.2.2.2.2.2.2.2.1 a b c u v w p0 p1 (.inl r) ht) (can_V (q0 := 0) o rfl rfl hd (Nat.le_of_ble_eq_true rfl) m_408 m_54 m_406 m_407 hlk yk_X1_contains rfl hr hk dg) sp_LX (fun E h => by cases h) (fun r h => by cases h; exact kk)
theorem k_X1_contains_Lx {x : Cx} {cc : ByteArray} {nL : Nat} {own : String} {d mc ms k n : Nat} {lv : List (Nat × Value)} {pc i : Nat} {rest : List Value} {oa : Nat} {f : Nat → Int64} {a b c : Nat → Nat} {u v w : St} {p0 : Int32} {p1 : Int32} (o : Ok x cc nL own d mc ms) {E : String} (ht : f_X1_contains u v w p0 p1 = some (.inr E)) (hlk : Cond.methodLink own i yX1_contains ∈ Ug) (hd : 2 < d) (hr : (rest.map fun v => v.category).sum ≤ 8) (hk : k + 2 ≤ mc ∧ n + 12 ≤ ms) (dg : decode cc pc = .ok (.invokevirtual i, 3)) (kk : XW x nL (k + 2) (n + 12) (wXo a u b v c w oa f (cxT x)) lv pc rest E) : G x nL k n (wXo a u b v c w oa f (cxT x)) lv pc (.int p1 :: .int p0 :: .ref (a 0) :: rest) := gcI (wd2 := (wXo a u b v c w oa f (cxT x))) o (c_X1_contains (cxl x) o.2.2.2.2.2.2.2.2.2.1 a b c u v w p0 p1 (.inr E) ht) (can_V (q0 := 0) o rfl rfl hd (Nat.le_of_ble_eq_true rfl) m_408 m_54 m_406 m_407 hlk yk_X1_contains rfl hr hk dg) sp_LX (fun E h => by cases h; exact kk) (fun r h => by cases h)
theorem k_X1_define_Ln {x : Cx} {cc : ByteArray} {nL : Nat} {own : String} {d mc ms k n : Nat} {lv : List (Nat × Value)} {pc i : Nat} {rest : List Value} {oa : Nat} {f : Nat → Int64} {a b c : Nat → Nat} {u v w : St} {p0 : Int32} {p1 : Int32} {p2 : Int32} {p3 : Int32} {p4 : Int32} (o : Ok x cc nL own d mc ms) {r : Int32} {z : St} (ht : f_X1_define u v w p0 p1 p2 p3 p4 = some (.inl r, z)) (hlk : Cond.methodLink own i yX1_define ∈ Ug) (hd : 14 < d) (hr : (rest.map fun v => v.category).sum ≤ 8) (hk : k + 6 ≤ mc ∧ n + 36 ≤ ms) (dg : decode cc pc = .ok (.invokevirtual i, 3)) (kk : G x nL (k + 6) (n + 36) (wXo a u b z c w oa f (cxT x)) lv (pc + 3) (.int r :: rest)) : G x nL k n (wXo a u b v c w oa f (cxT x)) lv pc (.int p4 :: .int p3 :: .int p2 :: .int p1 :: .int p0 :: .ref (a 0) :: rest) := gcI (wd2 := (wXo a u b z c w oa f (cxT x))) o (c_X1_define (cxl x) o.2.2.2.2.2.2.2.2.2.1 a b c u v w p0 p1 p2 p3 p4 (.inl r, z) ht) (can_V (q0 := 0) o rfl rfl hd (Nat.le_of_ble_eq_true rfl) m_780 m_54 m_778 m_779 hlk yk_X1_define rfl hr hk dg) sp_LX (fun E h => by cases h) (fun r h => by cases h; exact kk)
theorem k_X1_define_Lx {x : Cx} {cc : ByteArray} {nL : Nat} {own : String} {d mc ms k n : Nat} {lv : List (Nat × Value)} {pc i : Nat} {rest : List Value} {oa : Nat} {f : Nat → Int64} {a b c : Nat → Nat} {u v w : St} {p0 : Int32} {p1 : Int32} {p2 : Int32} {p3 : Int32} {p4 : Int32} (o : Ok x cc nL own d mc ms) {E : String} {z : St} (ht : f_X1_define u v w p0 p1 p2 p3 p4 = some (.inr E, z)) (hlk : Cond.methodLink own i yX1_define ∈ Ug) (hd : 14 < d) (hr : (rest.map fun v => v.category).sum ≤ 8) (hk : k + 6 ≤ mc ∧ n + 36 ≤ ms) (dg : decode cc pc = .ok (.invokevirtual i, 3)) (kk : XW x nL (k + 6) (n + 36) (wXo a u b z c w oa f (cxT x)) lv pc rest E) : G x nL k n (wXo a u b v c w oa f (cxT x)) lv pc (.int p4 :: .int p3 :: .int p2 :: .int p1 :: .int p0 :: .ref (a 0) :: rest) := gcI (wd2 := (wXo a u b z c w oa f (cxT x))) o (c_X1_define (cxl x) o.2.2.2.2.2.2.2.2.2.1 a b c u v w p0 p1 p2 p3 p4 (.inr E, z) ht) (can_V (q0 := 0) o rfl rfl hd (Nat.le_of_ble_eq_true rfl) m_780 m_54 m_778 m_779 hlk yk_X1_define rfl hr hk dg) sp_LX (fun E h => by cases h; exact kk) (fun r h => by cases h)
theorem k_X1_dependsOn_Ln {x : Cx} {cc : ByteArray} {nL : Nat} {own : String} {d mc ms k n : Nat} {lv : List (Nat × Value)} {pc i : Nat} {rest : List Value} {oa : Nat} {f : Nat → Int64} {a b c : Nat → Nat} {u v w : St} {p0 : Int32} {p1 : Int32} {p2 : Int32} (o : Ok x cc nL own d mc ms) {r : Int32} (ht : f_X1_dependsOn u v w p0 p1 p2 = some (.inl r)) (hlk : Cond.methodLink own i yX1_dependsOn ∈ Ug) (hd : 3 < d) (hr : (rest.map fun v => v.category).sum ≤ 8) (hk : k + 3 ≤ mc ∧ n + 18 ≤ ms) (dg : decode cc pc = .ok (.invokevirtual i, 3)) (kk : G x nL (k + 3) (n + 18) (wXo a u b v c w oa f (cxT x)) lv (pc + 3) (.int r :: rest)) : G x nL k n (wXo a u b v c w oa f (cxT x)) lv pc (.int p2 :: .int p1 :: .int p0 :: .ref (a 0) :: rest) := gcI (wd2 := (wXo a u b v c w oa f (cxT x))) o (c_X1_dependsOn (cxl x) o.2.2.2.2.2.2.2.2.2.1 a b c u v w p0 p1 p2 (.inl r) ht) (can_V (q0 := 0) o rfl rfl hd (Nat.le_of_ble_eq_true rfl) m_603 m_54 m_601 m_602 hlk yk_X1_dependsOn rfl hr hk dg) sp_LX (fun E h => by cases h) (fun r h => by cases h; exact kk)
theorem k_X1_dependsOn_Lx {x : Cx} {cc : ByteArray} {nL : Nat} {own : String} {d mc ms k n : Nat} {lv : List (Nat × Value)} {pc i : Nat} {rest : List Value} {oa : Nat} {f : Nat → Int64} {a b c : Nat → Nat} {u v w : St} {p0 : Int32} {p1 : Int32} {p2 : Int32} (o : Ok x cc nL own d mc ms) {E : String} (ht : f_X1_dependsOn u v w p0 p1 p2 = some (.inr E)) (hlk : Cond.methodLink own i yX1_dependsOn ∈ Ug) (hd : 3 < d) (hr : (rest.map fun v => v.category).sum ≤ 8) (hk : k + 3 ≤ mc ∧ n + 18 ≤ ms) (dg : decode cc pc = .ok (.invokevirtual i, 3)) (kk : XW x nL (k + 3) (n + 18) (wXo a u b v c w oa f (cxT x)) lv pc rest E) : G x nL k n (wXo a u b v c w oa f (cxT x)) lv pc (.int p2 :: .int p1 :: .int p0 :: .ref (a 0) :: rest) := gcI (wd2 := (wXo a u b v c w oa f (cxT x))) o (c_X1_dependsOn (cxl x) o.2.2.2.2.2.2.2.2.2.1 a b c u v w p0 p1 p2 (.inr E) ht) (can_V (q0 := 0) o rfl rfl hd (Nat.le_of_ble_eq_true rfl) m_603 m_54 m_601 m_602 hlk yk_X1_dependsOn rfl hr hk dg) sp_LX (fun E h => by cases h; exact kk) (fun r h => by cases h)
theorem k_X1_dimension_Ln {x : Cx} {cc : ByteArray} {nL : Nat} {own : String} {d mc ms k n : Nat} {lv : List (Nat × Value)} {pc i : Nat} {rest : List Value} {oa : Nat} {f : Nat → Int64} {a b c : Nat → Nat} {u v w : St} (o : Ok x cc nL own d mc ms) {r : Int32} (ht : f_X1_dimension u v w = some (.inl r)) (hlk : Cond.methodLink own i yX1_dimension ∈ Ug) (hd : 15 < d) (hr : (rest.map fun v => v.category).sum ≤ 8) (hk : k + 2 ≤ mc ∧ n + 12 ≤ ms) (dg : decode cc pc = .ok (.invokevirtual i, 3)) (kk : G x nL (k + 2) (n + 12) (wXo a u b v c w oa f (cxT x)) lv (pc + 3) (.int r :: rest)) : G x nL k n (wXo a u b v c w oa f (cxT x)) lv pc (.ref (a 0) :: rest) := gcI (wd2 := (wXo a u b v c w oa f (cxT x))) o (c_X1_dimension (cxl x) o.2.2.2.2.2.2.2.2.2.1 a b c u v w (.inl r) ht) (can_V (q0 := 0) o rfl rfl hd (Nat.le_of_ble_eq_true rfl) m_773 m_54 m_771 m_772 hlk yk_X1_dimension rfl hr hk dg) sp_LX (fun E h => by cases h) (fun r h => by cases h; exact kk)
theorem k_X1_dimension_Lx {x : Cx} {cc : ByteArray} {nL : Nat} {own : String} {d mc ms k n : Nat} {lv : List (Nat × Value)} {pc i : Nat} {rest : List Value} {oa : Nat} {f : Nat → Int64} {a b c : Nat → Nat} {u v w : St} (o : Ok x cc nL own d mc ms) {E : String} (ht : f_X1_dimension u v w = some (.inr E)) (hlk : Cond.methodLink own i yX1_dimension ∈ Ug) (hd : 15 < d) (hr : (rest.map fun v => v.category).sum ≤ 8) (hk : k + 2 ≤ mc ∧ n + 12 ≤ ms) (dg : decode cc pc = .ok (.invokevirtual i, 3)) (kk : XW x nL (k + 2) (n + 12) (wXo a u b v c w oa f (cxT x)) lv pc rest E) : G x nL k n (wXo a u b v c w oa f (cxT x)) lv pc (.ref (a 0) :: rest) := gcI (wd2 := (wXo a u b v c w oa f (cxT x))) o (c_X1_dimension (cxl x) o.2.2.2.2.2.2.2.2.2.1 a b c u v w (.inr E) ht) (can_V (q0 := 0) o rfl rfl hd (Nat.le_of_ble_eq_true rfl) m_773 m_54 m_771 m_772 hlk yk_X1_dimension rfl hr hk dg) sp_LX (fun E h => by cases h; exact kk) (fun r h => by cases h)
theorem k_X1_dual_Ln {x : Cx} {cc : ByteArray} {nL : Nat} {own : String} {d mc ms k n : Nat} {lv : List (Nat × Value)} {pc i : Nat} {rest : List Value} {oa : Nat} {f : Nat → Int64} {a b c : Nat → Nat} {u v w : St} {p0 : Int32} {p1 : Int32} (o : Ok x cc nL own d mc ms) {r : Int32} (ht : f_X1_dual u v w p0 p1 = some (.inl r)) (hlk : Cond.methodLink own i yX1_dual ∈ Ug) (hd : 2 < d) (hr : (rest.map fun v => v.category).sum ≤ 8) (hk : k + 2 ≤ mc ∧ n + 12 ≤ ms) (dg : decode cc pc = .ok (.invokevirtual i, 3)) (kk : G x nL (k + 2) (n + 12) (wXo a u b v c w oa f (cxT x)) lv (pc + 3) (.int r :: rest)) : G x nL k n (wXo a u b v c w oa f (cxT x)) lv pc (.int p1 :: .int p0 :: .ref (a 0) :: rest) := gcI (wd2 := (wXo a u b v c w oa f (cxT x))) o (c_X1_dual (cxl x) o.2.2.2.2.2.2.2.2.2.1 a b c u v w p0 p1 (.inl r) ht) (can_V (q0 := 0) o rfl rfl hd (Nat.le_of_ble_eq_true rfl) m_596 m_54 m_594 m_595 hlk yk_X1_dual rfl hr hk dg) sp_LX (fun E h => by cases h) (fun r h => by cases h; exact kk)
theorem k_X1_dual_Lx {x : Cx} {cc : ByteArray} {nL : Nat} {own : String} {d mc ms k n : Nat} {lv : List (Nat × Value)} {pc i : Nat} {rest : List Value} {oa : Nat} {f : Nat → Int64} {a b c : Nat → Nat} {u v w : St} {p0 : Int32} {p1 : Int32} (o : Ok x cc nL own d mc ms) {E : String} (ht : f_X1_dual u v w p0 p1 = some (.inr E)) (hlk : Cond.methodLink own i yX1_dual ∈ Ug) (hd : 2 < d) (hr : (rest.map fun v => v.category).sum ≤ 8) (hk : k + 2 ≤ mc ∧ n + 12 ≤ ms) (dg : decode cc pc = .ok (.invokevirtual i, 3)) (kk : XW x nL (k + 2) (n + 12) (wXo a u b v c w oa f (cxT x)) lv pc rest E) : G x nL k n (wXo a u b v c w oa f (cxT x)) lv pc (.int p1 :: .int p0 :: .ref (a 0) :: rest) := gcI (wd2 := (wXo a u b v c w oa f (cxT x))) o (c_X1_dual (cxl x) o.2.2.2.2.2.2.2.2.2.1 a b c u v w p0 p1 (.inr E) ht) (can_V (q0 := 0) o rfl rfl hd (Nat.le_of_ble_eq_true rfl) m_596 m_54 m_594 m_595 hlk yk_X1_dual rfl hr hk dg) sp_LX (fun E h => by cases h; exact kk) (fun r h => by cases h)
theorem k_X1_errorPosition_Ln {x : Cx} {cc : ByteArray} {nL : Nat} {own : String} {d mc ms k n : Nat} {lv : List (Nat × Value)} {pc i : Nat} {rest : List Value} {oa : Nat} {f : Nat → Int64} {a b c : Nat → Nat} {u v w : St} (o : Ok x cc nL own d mc ms) {r : Int32} (ht : f_X1_errorPosition u v w = some (.inl r)) (hlk : Cond.methodLink own i yX1_errorPosition ∈ Ug) (hd : 0 < d) (hr : (rest.map fun v => v.category).sum ≤ 8) (hk : k + 1 ≤ mc ∧ n + 6 ≤ ms) (dg : decode cc pc = .ok (.invokevirtual i, 3)) (kk : G x nL (k + 1) (n + 6) (wXo a u b v c w oa f (cxT x)) lv (pc + 3) (.int r :: rest)) : G x nL k n (wXo a u b v c w oa f (cxT x)) lv pc (.ref (a 0) :: rest) := gcI (wd2 := (wXo a u b v c w oa f (cxT x))) o (c_X1_errorPosition (cxl x) o.2.2.2.2.2.2.2.2.2.1 a b c u v w (.inl r) ht) (can_V (q0 := 0) o rfl rfl hd (Nat.le_of_ble_eq_true rfl) m_848 m_54 m_846 m_847 hlk yk_X1_errorPosition rfl hr hk dg) sp_LX (fun E h => by cases h) (fun r h => by cases h; exact kk)
theorem k_X1_errorPosition_Lx {x : Cx} {cc : ByteArray} {nL : Nat} {own : String} {d mc ms k n : Nat} {lv : List (Nat × Value)} {pc i : Nat} {rest : List Value} {oa : Nat} {f : Nat → Int64} {a b c : Nat → Nat} {u v w : St} (o : Ok x cc nL own d mc ms) {E : String} (ht : f_X1_errorPosition u v w = some (.inr E)) (hlk : Cond.methodLink own i yX1_errorPosition ∈ Ug) (hd : 0 < d) (hr : (rest.map fun v => v.category).sum ≤ 8) (hk : k + 1 ≤ mc ∧ n + 6 ≤ ms) (dg : decode cc pc = .ok (.invokevirtual i, 3)) (kk : XW x nL (k + 1) (n + 6) (wXo a u b v c w oa f (cxT x)) lv pc rest E) : G x nL k n (wXo a u b v c w oa f (cxT x)) lv pc (.ref (a 0) :: rest) := gcI (wd2 := (wXo a u b v c w oa f (cxT x))) o (c_X1_errorPosition (cxl x) o.2.2.2.2.2.2.2.2.2.1 a b c u v w (.inr E) ht) (can_V (q0 := 0) o rfl rfl hd (Nat.le_of_ble_eq_true rfl) m_848 m_54 m_846 m_847 hlk yk_X1_errorPosition rfl hr hk dg) sp_LX (fun E h => by cases h; exact kk) (fun r h => by cases h)
theorem k_X1_firstViolated_Ln {x : Cx} {cc : ByteArray} {nL : Nat} {own : String} {d mc ms k n : Nat} {lv : List (Nat × Value)} {pc i : Nat} {rest : List Value} {oa : Nat} {f : Nat → Int64} {a b c : Nat → Nat} {u v w : St} {p0 : Int32} (o : Ok x cc nL own d mc ms) {r : Int32} (ht : f_X1_firstViolated u v w p0 = some (.inl r)) (hlk : Cond.methodLink own i yX1_firstViolated ∈ Ug) (hd : 2 < d) (hr : (rest.map fun v => v.category).sum ≤ 8) (hk : k + 2 ≤ mc ∧ n + 12 ≤ ms) (dg : decode cc pc = .ok (.invokevirtual i, 3)) (kk : G x nL (k + 2) (n + 12) (wXo a u b v c w oa f (cxT x)) lv (pc + 3) (.int r :: rest)) : G x nL k n (wXo a u b v c w oa f (cxT x)) lv pc (.int p0 :: .ref (a 0) :: rest) := gcI (wd2 := (wXo a u b v c w oa f (cxT x))) o (c_X1_firstViolated (cxl x) o.2.2.2.2.2.2.2.2.2.1 a b c u v w p0 (.inl r) ht) (can_V (q0 := 0) o rfl rfl hd (Nat.le_of_ble_eq_true rfl) m_792 m_54 m_790 m_791 hlk yk_X1_firstViolated rfl hr hk dg) sp_LX (fun E h => by cases h) (fun r h => by cases h; exact kk)
theorem k_X1_firstViolated_Lx {x : Cx} {cc : ByteArray} {nL : Nat} {own : String} {d mc ms k n : Nat} {lv : List (Nat × Value)} {pc i : Nat} {rest : List Value} {oa : Nat} {f : Nat → Int64} {a b c : Nat → Nat} {u v w : St} {p0 : Int32} (o : Ok x cc nL own d mc ms) {E : String} (ht : f_X1_firstViolated u v w p0 = some (.inr E)) (hlk : Cond.methodLink own i yX1_firstViolated ∈ Ug) (hd : 2 < d) (hr : (rest.map fun v => v.category).sum ≤ 8) (hk : k + 2 ≤ mc ∧ n + 12 ≤ ms) (dg : decode cc pc = .ok (.invokevirtual i, 3)) (kk : XW x nL (k + 2) (n + 12) (wXo a u b v c w oa f (cxT x)) lv pc rest E) : G x nL k n (wXo a u b v c w oa f (cxT x)) lv pc (.int p0 :: .ref (a 0) :: rest) := gcI (wd2 := (wXo a u b v c w oa f (cxT x))) o (c_X1_firstViolated (cxl x) o.2.2.2.2.2.2.2.2.2.1 a b c u v w p0 (.inr E) ht) (can_V (q0 := 0) o rfl rfl hd (Nat.le_of_ble_eq_true rfl) m_792 m_54 m_790 m_791 hlk yk_X1_firstViolated rfl hr hk dg) sp_LX (fun E h => by cases h; exact kk) (fun r h => by cases h)
theorem k_X1_greatestSolution_Ln {x : Cx} {cc : ByteArray} {nL : Nat} {own : String} {d mc ms k n : Nat} {lv : List (Nat × Value)} {pc i : Nat} {rest : List Value} {oa : Nat} {f : Nat → Int64} {a b c : Nat → Nat} {u v w : St} (o : Ok x cc nL own d mc ms) {r : Int32} (ht : f_X1_greatestSolution u v w = some (.inl r)) (hlk : Cond.methodLink own i yX1_greatestSolution ∈ Ug) (hd : 15 < d) (hr : (rest.map fun v => v.category).sum ≤ 8) (hk : k + 2 ≤ mc ∧ n + 12 ≤ ms) (dg : decode cc pc = .ok (.invokevirtual i, 3)) (kk : G x nL (k + 2) (n + 12) (wXo a u b v c w oa f (cxT x)) lv (pc + 3) (.int r :: rest)) : G x nL k n (wXo a u b v c w oa f (cxT x)) lv pc (.ref (a 0) :: rest) := gcI (wd2 := (wXo a u b v c w oa f (cxT x))) o (c_X1_greatestSolution (cxl x) o.2.2.2.2.2.2.2.2.2.1 a b c u v w (.inl r) ht) (can_V (q0 := 0) o rfl rfl hd (Nat.le_of_ble_eq_true rfl) m_755 m_54 m_753 m_754 hlk yk_X1_greatestSolution rfl hr hk dg) sp_LX (fun E h => by cases h) (fun r h => by cases h; exact kk)
theorem k_X1_greatestSolution_Lx {x : Cx} {cc : ByteArray} {nL : Nat} {own : String} {d mc ms k n : Nat} {lv : List (Nat × Value)} {pc i : Nat} {rest : List Value} {oa : Nat} {f : Nat → Int64} {a b c : Nat → Nat} {u v w : St} (o : Ok x cc nL own d mc ms) {E : String} (ht : f_X1_greatestSolution u v w = some (.inr E)) (hlk : Cond.methodLink own i yX1_greatestSolution ∈ Ug) (hd : 15 < d) (hr : (rest.map fun v => v.category).sum ≤ 8) (hk : k + 2 ≤ mc ∧ n + 12 ≤ ms) (dg : decode cc pc = .ok (.invokevirtual i, 3)) (kk : XW x nL (k + 2) (n + 12) (wXo a u b v c w oa f (cxT x)) lv pc rest E) : G x nL k n (wXo a u b v c w oa f (cxT x)) lv pc (.ref (a 0) :: rest) := gcI (wd2 := (wXo a u b v c w oa f (cxT x))) o (c_X1_greatestSolution (cxl x) o.2.2.2.2.2.2.2.2.2.1 a b c u v w (.inr E) ht) (can_V (q0 := 0) o rfl rfl hd (Nat.le_of_ble_eq_true rfl) m_755 m_54 m_753 m_754 hlk yk_X1_greatestSolution rfl hr hk dg) sp_LX (fun E h => by cases h; exact kk) (fun r h => by cases h)
theorem k_X1_hasKind_Ln {x : Cx} {cc : ByteArray} {nL : Nat} {own : String} {d mc ms k n : Nat} {lv : List (Nat × Value)} {pc i : Nat} {rest : List Value} {oa : Nat} {f : Nat → Int64} {a b c : Nat → Nat} {u v w : St} {p0 : Int32} (o : Ok x cc nL own d mc ms) {r : Int32} (ht : f_X1_hasKind u v w p0 = some (.inl r)) (hlk : Cond.methodLink own i yX1_hasKind ∈ Ug) (hd : 5 < d) (hr : (rest.map fun v => v.category).sum ≤ 8) (hk : k + 1 ≤ mc ∧ n + 6 ≤ ms) (dg : decode cc pc = .ok (.invokevirtual i, 3)) (kk : G x nL (k + 1) (n + 6) (wXo a u b v c w oa f (cxT x)) lv (pc + 3) (.int r :: rest)) : G x nL k n (wXo a u b v c w oa f (cxT x)) lv pc (.int p0 :: .ref (a 0) :: rest) := gcI (wd2 := (wXo a u b v c w oa f (cxT x))) o (c_X1_hasKind (cxl x) o.2.2.2.2.2.2.2.2.2.1 a b c u v w p0 (.inl r) ht) (can_V (q0 := 0) o rfl rfl hd (Nat.le_of_ble_eq_true rfl) m_634 m_54 m_632 m_633 hlk yk_X1_hasKind rfl hr hk dg) sp_LX (fun E h => by cases h) (fun r h => by cases h; exact kk)
theorem k_X1_hasKind_Lx {x : Cx} {cc : ByteArray} {nL : Nat} {own : String} {d mc ms k n : Nat} {lv : List (Nat × Value)} {pc i : Nat} {rest : List Value} {oa : Nat} {f : Nat → Int64} {a b c : Nat → Nat} {u v w : St} {p0 : Int32} (o : Ok x cc nL own d mc ms) {E : String} (ht : f_X1_hasKind u v w p0 = some (.inr E)) (hlk : Cond.methodLink own i yX1_hasKind ∈ Ug) (hd : 5 < d) (hr : (rest.map fun v => v.category).sum ≤ 8) (hk : k + 1 ≤ mc ∧ n + 6 ≤ ms) (dg : decode cc pc = .ok (.invokevirtual i, 3)) (kk : XW x nL (k + 1) (n + 6) (wXo a u b v c w oa f (cxT x)) lv pc rest E) : G x nL k n (wXo a u b v c w oa f (cxT x)) lv pc (.int p0 :: .ref (a 0) :: rest) := gcI (wd2 := (wXo a u b v c w oa f (cxT x))) o (c_X1_hasKind (cxl x) o.2.2.2.2.2.2.2.2.2.1 a b c u v w p0 (.inr E) ht) (can_V (q0 := 0) o rfl rfl hd (Nat.le_of_ble_eq_true rfl) m_634 m_54 m_632 m_633 hlk yk_X1_hasKind rfl hr hk dg) sp_LX (fun E h => by cases h; exact kk) (fun r h => by cases h)
theorem k_X1_implies_Ln {x : Cx} {cc : ByteArray} {nL : Nat} {own : String} {d mc ms k n : Nat} {lv : List (Nat × Value)} {pc i : Nat} {rest : List Value} {oa : Nat} {f : Nat → Int64} {a b c : Nat → Nat} {u v w : St} {p0 : Int32} {p1 : Int32} {p2 : Int32} {p3 : Int32} (o : Ok x cc nL own d mc ms) {r : Int32} (ht : f_X1_implies u v w p0 p1 p2 p3 = some (.inl r)) (hlk : Cond.methodLink own i yX1_implies ∈ Ug) (hd : 14 < d) (hr : (rest.map fun v => v.category).sum ≤ 8) (hk : k + 5 ≤ mc ∧ n + 30 ≤ ms) (dg : decode cc pc = .ok (.invokevirtual i, 3)) (kk : G x nL (k + 5) (n + 30) (wXo a u b v c w oa f (cxT x)) lv (pc + 3) (.int r :: rest)) : G x nL k n (wXo a u b v c w oa f (cxT x)) lv pc (.int p3 :: .int p2 :: .int p1 :: .int p0 :: .ref (a 0) :: rest) := gcI (wd2 := (wXo a u b v c w oa f (cxT x))) o (c_X1_implies (cxl x) o.2.2.2.2.2.2.2.2.2.1 a b c u v w p0 p1 p2 p3 (.inl r) ht) (can_V (q0 := 0) o rfl rfl hd (Nat.le_of_ble_eq_true rfl) m_762 m_54 m_760 m_761 hlk yk_X1_implies rfl hr hk dg) sp_LX (fun E h => by cases h) (fun r h => by cases h; exact kk)
theorem k_X1_implies_Lx {x : Cx} {cc : ByteArray} {nL : Nat} {own : String} {d mc ms k n : Nat} {lv : List (Nat × Value)} {pc i : Nat} {rest : List Value} {oa : Nat} {f : Nat → Int64} {a b c : Nat → Nat} {u v w : St} {p0 : Int32} {p1 : Int32} {p2 : Int32} {p3 : Int32} (o : Ok x cc nL own d mc ms) {E : String} (ht : f_X1_implies u v w p0 p1 p2 p3 = some (.inr E)) (hlk : Cond.methodLink own i yX1_implies ∈ Ug) (hd : 14 < d) (hr : (rest.map fun v => v.category).sum ≤ 8) (hk : k + 5 ≤ mc ∧ n + 30 ≤ ms) (dg : decode cc pc = .ok (.invokevirtual i, 3)) (kk : XW x nL (k + 5) (n + 30) (wXo a u b v c w oa f (cxT x)) lv pc rest E) : G x nL k n (wXo a u b v c w oa f (cxT x)) lv pc (.int p3 :: .int p2 :: .int p1 :: .int p0 :: .ref (a 0) :: rest) := gcI (wd2 := (wXo a u b v c w oa f (cxT x))) o (c_X1_implies (cxl x) o.2.2.2.2.2.2.2.2.2.1 a b c u v w p0 p1 p2 p3 (.inr E) ht) (can_V (q0 := 0) o rfl rfl hd (Nat.le_of_ble_eq_true rfl) m_762 m_54 m_760 m_761 hlk yk_X1_implies rfl hr hk dg) sp_LX (fun E h => by cases h; exact kk) (fun r h => by cases h)
theorem k_X1_isForced_Ln {x : Cx} {cc : ByteArray} {nL : Nat} {own : String} {d mc ms k n : Nat} {lv : List (Nat × Value)} {pc i : Nat} {rest : List Value} {oa : Nat} {f : Nat → Int64} {a b c : Nat → Nat} {u v w : St} {p0 : Int32} {p1 : Int32} (o : Ok x cc nL own d mc ms) {r : Int32} (ht : f_X1_isForced u v w p0 p1 = some (.inl r)) (hlk : Cond.methodLink own i yX1_isForced ∈ Ug) (hd : 14 < d) (hr : (rest.map fun v => v.category).sum ≤ 8) (hk : k + 2 ≤ mc ∧ n + 12 ≤ ms) (dg : decode cc pc = .ok (.invokevirtual i, 3)) (kk : G x nL (k + 2) (n + 12) (wXo a u b v c w oa f (cxT x)) lv (pc + 3) (.int r :: rest)) : G x nL k n (wXo a u b v c w oa f (cxT x)) lv pc (.int p1 :: .int p0 :: .ref (a 0) :: rest) := gcI (wd2 := (wXo a u b v c w oa f (cxT x))) o (c_X1_isForced (cxl x) o.2.2.2.2.2.2.2.2.2.1 a b c u v w p0 p1 (.inl r) ht) (can_V (q0 := 0) o rfl rfl hd (Nat.le_of_ble_eq_true rfl) m_704 m_54 m_702 m_703 hlk yk_X1_isForced rfl hr hk dg) sp_LX (fun E h => by cases h) (fun r h => by cases h; exact kk)
theorem k_X1_isForced_Lx {x : Cx} {cc : ByteArray} {nL : Nat} {own : String} {d mc ms k n : Nat} {lv : List (Nat × Value)} {pc i : Nat} {rest : List Value} {oa : Nat} {f : Nat → Int64} {a b c : Nat → Nat} {u v w : St} {p0 : Int32} {p1 : Int32} (o : Ok x cc nL own d mc ms) {E : String} (ht : f_X1_isForced u v w p0 p1 = some (.inr E)) (hlk : Cond.methodLink own i yX1_isForced ∈ Ug) (hd : 14 < d) (hr : (rest.map fun v => v.category).sum ≤ 8) (hk : k + 2 ≤ mc ∧ n + 12 ≤ ms) (dg : decode cc pc = .ok (.invokevirtual i, 3)) (kk : XW x nL (k + 2) (n + 12) (wXo a u b v c w oa f (cxT x)) lv pc rest E) : G x nL k n (wXo a u b v c w oa f (cxT x)) lv pc (.int p1 :: .int p0 :: .ref (a 0) :: rest) := gcI (wd2 := (wXo a u b v c w oa f (cxT x))) o (c_X1_isForced (cxl x) o.2.2.2.2.2.2.2.2.2.1 a b c u v w p0 p1 (.inr E) ht) (can_V (q0 := 0) o rfl rfl hd (Nat.le_of_ble_eq_true rfl) m_704 m_54 m_702 m_703 hlk yk_X1_isForced rfl hr hk dg) sp_LX (fun E h => by cases h; exact kk) (fun r h => by cases h)
theorem k_X1_isIdempotent_Ln {x : Cx} {cc : ByteArray} {nL : Nat} {own : String} {d mc ms k n : Nat} {lv : List (Nat × Value)} {pc i : Nat} {rest : List Value} {oa : Nat} {f : Nat → Int64} {a b c : Nat → Nat} {u v w : St} {p0 : Int32} {p1 : Int32} (o : Ok x cc nL own d mc ms) {r : Int32} (ht : f_X1_isIdempotent u v w p0 p1 = some (.inl r)) (hlk : Cond.methodLink own i yX1_isIdempotent ∈ Ug) (hd : 2 < d) (hr : (rest.map fun v => v.category).sum ≤ 8) (hk : k + 2 ≤ mc ∧ n + 12 ≤ ms) (dg : decode cc pc = .ok (.invokevirtual i, 3)) (kk : G x nL (k + 2) (n + 12) (wXo a u b v c w oa f (cxT x)) lv (pc + 3) (.int r :: rest)) : G x nL k n (wXo a u b v c w oa f (cxT x)) lv pc (.int p1 :: .int p0 :: .ref (a 0) :: rest) := gcI (wd2 := (wXo a u b v c w oa f (cxT x))) o (c_X1_isIdempotent (cxl x) o.2.2.2.2.2.2.2.2.2.1 a b c u v w p0 p1 (.inl r) ht) (can_V (q0 := 0) o rfl rfl hd (Nat.le_of_ble_eq_true rfl) m_556 m_54 m_554 m_555 hlk yk_X1_isIdempotent rfl hr hk dg) sp_LX (fun E h => by cases h) (fun r h => by cases h; exact kk)
theorem k_X1_isIdempotent_Lx {x : Cx} {cc : ByteArray} {nL : Nat} {own : String} {d mc ms k n : Nat} {lv : List (Nat × Value)} {pc i : Nat} {rest : List Value} {oa : Nat} {f : Nat → Int64} {a b c : Nat → Nat} {u v w : St} {p0 : Int32} {p1 : Int32} (o : Ok x cc nL own d mc ms) {E : String} (ht : f_X1_isIdempotent u v w p0 p1 = some (.inr E)) (hlk : Cond.methodLink own i yX1_isIdempotent ∈ Ug) (hd : 2 < d) (hr : (rest.map fun v => v.category).sum ≤ 8) (hk : k + 2 ≤ mc ∧ n + 12 ≤ ms) (dg : decode cc pc = .ok (.invokevirtual i, 3)) (kk : XW x nL (k + 2) (n + 12) (wXo a u b v c w oa f (cxT x)) lv pc rest E) : G x nL k n (wXo a u b v c w oa f (cxT x)) lv pc (.int p1 :: .int p0 :: .ref (a 0) :: rest) := gcI (wd2 := (wXo a u b v c w oa f (cxT x))) o (c_X1_isIdempotent (cxl x) o.2.2.2.2.2.2.2.2.2.1 a b c u v w p0 p1 (.inr E) ht) (can_V (q0 := 0) o rfl rfl hd (Nat.le_of_ble_eq_true rfl) m_556 m_54 m_554 m_555 hlk yk_X1_isIdempotent rfl hr hk dg) sp_LX (fun E h => by cases h; exact kk) (fun r h => by cases h)
theorem k_X1_isMonotone_Ln {x : Cx} {cc : ByteArray} {nL : Nat} {own : String} {d mc ms k n : Nat} {lv : List (Nat × Value)} {pc i : Nat} {rest : List Value} {oa : Nat} {f : Nat → Int64} {a b c : Nat → Nat} {u v w : St} {p0 : Int32} {p1 : Int32} (o : Ok x cc nL own d mc ms) {r : Int32} (ht : f_X1_isMonotone u v w p0 p1 = some (.inl r)) (hlk : Cond.methodLink own i yX1_isMonotone ∈ Ug) (hd : 3 < d) (hr : (rest.map fun v => v.category).sum ≤ 8) (hk : k + 2 ≤ mc ∧ n + 12 ≤ ms) (dg : decode cc pc = .ok (.invokevirtual i, 3)) (kk : G x nL (k + 2) (n + 12) (wXo a u b v c w oa f (cxT x)) lv (pc + 3) (.int r :: rest)) : G x nL k n (wXo a u b v c w oa f (cxT x)) lv pc (.int p1 :: .int p0 :: .ref (a 0) :: rest) := gcI (wd2 := (wXo a u b v c w oa f (cxT x))) o (c_X1_isMonotone (cxl x) o.2.2.2.2.2.2.2.2.2.1 a b c u v w p0 p1 (.inl r) ht) (can_V (q0 := 0) o rfl rfl hd (Nat.le_of_ble_eq_true rfl) m_563 m_54 m_561 m_562 hlk yk_X1_isMonotone rfl hr hk dg) sp_LX (fun E h => by cases h) (fun r h => by cases h; exact kk)
theorem k_X1_isMonotone_Lx {x : Cx} {cc : ByteArray} {nL : Nat} {own : String} {d mc ms k n : Nat} {lv : List (Nat × Value)} {pc i : Nat} {rest : List Value} {oa : Nat} {f : Nat → Int64} {a b c : Nat → Nat} {u v w : St} {p0 : Int32} {p1 : Int32} (o : Ok x cc nL own d mc ms) {E : String} (ht : f_X1_isMonotone u v w p0 p1 = some (.inr E)) (hlk : Cond.methodLink own i yX1_isMonotone ∈ Ug) (hd : 3 < d) (hr : (rest.map fun v => v.category).sum ≤ 8) (hk : k + 2 ≤ mc ∧ n + 12 ≤ ms) (dg : decode cc pc = .ok (.invokevirtual i, 3)) (kk : XW x nL (k + 2) (n + 12) (wXo a u b v c w oa f (cxT x)) lv pc rest E) : G x nL k n (wXo a u b v c w oa f (cxT x)) lv pc (.int p1 :: .int p0 :: .ref (a 0) :: rest) := gcI (wd2 := (wXo a u b v c w oa f (cxT x))) o (c_X1_isMonotone (cxl x) o.2.2.2.2.2.2.2.2.2.1 a b c u v w p0 p1 (.inr E) ht) (can_V (q0 := 0) o rfl rfl hd (Nat.le_of_ble_eq_true rfl) m_563 m_54 m_561 m_562 hlk yk_X1_isMonotone rfl hr hk dg) sp_LX (fun E h => by cases h; exact kk) (fun r h => by cases h)
theorem k_X1_isPolymorphism_Ln {x : Cx} {cc : ByteArray} {nL : Nat} {own : String} {d mc ms k n : Nat} {lv : List (Nat × Value)} {pc i : Nat} {rest : List Value} {oa : Nat} {f : Nat → Int64} {a b c : Nat → Nat} {u v w : St} {p0 : Int32} {p1 : Int32} (o : Ok x cc nL own d mc ms) {r : Int32} (ht : f_X1_isPolymorphism u v w p0 p1 = some (.inl r)) (hlk : Cond.methodLink own i yX1_isPolymorphism ∈ Ug) (hd : 4 < d) (hr : (rest.map fun v => v.category).sum ≤ 8) (hk : k + 2 ≤ mc ∧ n + 12 ≤ ms) (dg : decode cc pc = .ok (.invokevirtual i, 3)) (kk : G x nL (k + 2) (n + 12) (wXo a u b v c w oa f (cxT x)) lv (pc + 3) (.int r :: rest)) : G x nL k n (wXo a u b v c w oa f (cxT x)) lv pc (.int p1 :: .int p0 :: .ref (a 0) :: rest) := gcI (wd2 := (wXo a u b v c w oa f (cxT x))) o (c_X1_isPolymorphism (cxl x) o.2.2.2.2.2.2.2.2.2.1 a b c u v w p0 p1 (.inl r) ht) (can_V (q0 := 0) o rfl rfl hd (Nat.le_of_ble_eq_true rfl) m_514 m_54 m_512 m_513 hlk yk_X1_isPolymorphism rfl hr hk dg) sp_LX (fun E h => by cases h) (fun r h => by cases h; exact kk)
theorem k_X1_isPolymorphism_Lx {x : Cx} {cc : ByteArray} {nL : Nat} {own : String} {d mc ms k n : Nat} {lv : List (Nat × Value)} {pc i : Nat} {rest : List Value} {oa : Nat} {f : Nat → Int64} {a b c : Nat → Nat} {u v w : St} {p0 : Int32} {p1 : Int32} (o : Ok x cc nL own d mc ms) {E : String} (ht : f_X1_isPolymorphism u v w p0 p1 = some (.inr E)) (hlk : Cond.methodLink own i yX1_isPolymorphism ∈ Ug) (hd : 4 < d) (hr : (rest.map fun v => v.category).sum ≤ 8) (hk : k + 2 ≤ mc ∧ n + 12 ≤ ms) (dg : decode cc pc = .ok (.invokevirtual i, 3)) (kk : XW x nL (k + 2) (n + 12) (wXo a u b v c w oa f (cxT x)) lv pc rest E) : G x nL k n (wXo a u b v c w oa f (cxT x)) lv pc (.int p1 :: .int p0 :: .ref (a 0) :: rest) := gcI (wd2 := (wXo a u b v c w oa f (cxT x))) o (c_X1_isPolymorphism (cxl x) o.2.2.2.2.2.2.2.2.2.1 a b c u v w p0 p1 (.inr E) ht) (can_V (q0 := 0) o rfl rfl hd (Nat.le_of_ble_eq_true rfl) m_514 m_54 m_512 m_513 hlk yk_X1_isPolymorphism rfl hr hk dg) sp_LX (fun E h => by cases h; exact kk) (fun r h => by cases h)
theorem k_X1_isRedundant_Ln {x : Cx} {cc : ByteArray} {nL : Nat} {own : String} {d mc ms k n : Nat} {lv : List (Nat × Value)} {pc i : Nat} {rest : List Value} {oa : Nat} {f : Nat → Int64} {a b c : Nat → Nat} {u v w : St} {p0 : Int32} (o : Ok x cc nL own d mc ms) {r : Int32} (ht : f_X1_isRedundant u v w p0 = some (.inl r)) (hlk : Cond.methodLink own i yX1_isRedundant ∈ Ug) (hd : 14 < d) (hr : (rest.map fun v => v.category).sum ≤ 8) (hk : k + 1 ≤ mc ∧ n + 6 ≤ ms) (dg : decode cc pc = .ok (.invokevirtual i, 3)) (kk : G x nL (k + 1) (n + 6) (wXo a u b v c w oa f (cxT x)) lv (pc + 3) (.int r :: rest)) : G x nL k n (wXo a u b v c w oa f (cxT x)) lv pc (.int p0 :: .ref (a 0) :: rest) := gcI (wd2 := (wXo a u b v c w oa f (cxT x))) o (c_X1_isRedundant (cxl x) o.2.2.2.2.2.2.2.2.2.1 a b c u v w p0 (.inl r) ht) (can_V (q0 := 0) o rfl rfl hd (Nat.le_of_ble_eq_true rfl) m_805 m_54 m_803 m_804 hlk yk_X1_isRedundant rfl hr hk dg) sp_LX (fun E h => by cases h) (fun r h => by cases h; exact kk)
theorem k_X1_isRedundant_Lx {x : Cx} {cc : ByteArray} {nL : Nat} {own : String} {d mc ms k n : Nat} {lv : List (Nat × Value)} {pc i : Nat} {rest : List Value} {oa : Nat} {f : Nat → Int64} {a b c : Nat → Nat} {u v w : St} {p0 : Int32} (o : Ok x cc nL own d mc ms) {E : String} (ht : f_X1_isRedundant u v w p0 = some (.inr E)) (hlk : Cond.methodLink own i yX1_isRedundant ∈ Ug) (hd : 14 < d) (hr : (rest.map fun v => v.category).sum ≤ 8) (hk : k + 1 ≤ mc ∧ n + 6 ≤ ms) (dg : decode cc pc = .ok (.invokevirtual i, 3)) (kk : XW x nL (k + 1) (n + 6) (wXo a u b v c w oa f (cxT x)) lv pc rest E) : G x nL k n (wXo a u b v c w oa f (cxT x)) lv pc (.int p0 :: .ref (a 0) :: rest) := gcI (wd2 := (wXo a u b v c w oa f (cxT x))) o (c_X1_isRedundant (cxl x) o.2.2.2.2.2.2.2.2.2.1 a b c u v w p0 (.inr E) ht) (can_V (q0 := 0) o rfl rfl hd (Nat.le_of_ble_eq_true rfl) m_805 m_54 m_803 m_804 hlk yk_X1_isRedundant rfl hr hk dg) sp_LX (fun E h => by cases h; exact kk) (fun r h => by cases h)
theorem k_X1_leastSolution_Ln {x : Cx} {cc : ByteArray} {nL : Nat} {own : String} {d mc ms k n : Nat} {lv : List (Nat × Value)} {pc i : Nat} {rest : List Value} {oa : Nat} {f : Nat → Int64} {a b c : Nat → Nat} {u v w : St} (o : Ok x cc nL own d mc ms) {r : Int32} (ht : f_X1_leastSolution u v w = some (.inl r)) (hlk : Cond.methodLink own i yX1_leastSolution ∈ Ug) (hd : 15 < d) (hr : (rest.map fun v => v.category).sum ≤ 8) (hk : k + 2 ≤ mc ∧ n + 12 ≤ ms) (dg : decode cc pc = .ok (.invokevirtual i, 3)) (kk : G x nL (k + 2) (n + 12) (wXo a u b v c w oa f (cxT x)) lv (pc + 3) (.int r :: rest)) : G x nL k n (wXo a u b v c w oa f (cxT x)) lv pc (.ref (a 0) :: rest) := gcI (wd2 := (wXo a u b v c w oa f (cxT x))) o (c_X1_leastSolution (cxl x) o.2.2.2.2.2.2.2.2.2.1 a b c u v w (.inl r) ht) (can_V (q0 := 0) o rfl rfl hd (Nat.le_of_ble_eq_true rfl) m_719 m_54 m_717 m_718 hlk yk_X1_leastSolution rfl hr hk dg) sp_LX (fun E h => by cases h) (fun r h => by cases h; exact kk)
theorem k_X1_leastSolution_Lx {x : Cx} {cc : ByteArray} {nL : Nat} {own : String} {d mc ms k n : Nat} {lv : List (Nat × Value)} {pc i : Nat} {rest : List Value} {oa : Nat} {f : Nat → Int64} {a b c : Nat → Nat} {u v w : St} (o : Ok x cc nL own d mc ms) {E : String} (ht : f_X1_leastSolution u v w = some (.inr E)) (hlk : Cond.methodLink own i yX1_leastSolution ∈ Ug) (hd : 15 < d) (hr : (rest.map fun v => v.category).sum ≤ 8) (hk : k + 2 ≤ mc ∧ n + 12 ≤ ms) (dg : decode cc pc = .ok (.invokevirtual i, 3)) (kk : XW x nL (k + 2) (n + 12) (wXo a u b v c w oa f (cxT x)) lv pc rest E) : G x nL k n (wXo a u b v c w oa f (cxT x)) lv pc (.ref (a 0) :: rest) := gcI (wd2 := (wXo a u b v c w oa f (cxT x))) o (c_X1_leastSolution (cxl x) o.2.2.2.2.2.2.2.2.2.1 a b c u v w (.inr E) ht) (can_V (q0 := 0) o rfl rfl hd (Nat.le_of_ble_eq_true rfl) m_719 m_54 m_717 m_718 hlk yk_X1_leastSolution rfl hr hk dg) sp_LX (fun E h => by cases h; exact kk) (fun r h => by cases h)
theorem k_X1_lowestKind_Ln {x : Cx} {cc : ByteArray} {nL : Nat} {own : String} {d mc ms k n : Nat} {lv : List (Nat × Value)} {pc i : Nat} {rest : List Value} {oa : Nat} {f : Nat → Int64} {a b c : Nat → Nat} {u v w : St} (o : Ok x cc nL own d mc ms) {r : Int32} (ht : f_X1_lowestKind u v w = some (.inl r)) (hlk : Cond.methodLink own i yX1_lowestKind ∈ Ug) (hd : 5 < d) (hr : (rest.map fun v => v.category).sum ≤ 8) (hk : k + 1 ≤ mc ∧ n + 6 ≤ ms) (dg : decode cc pc = .ok (.invokevirtual i, 3)) (kk : G x nL (k + 1) (n + 6) (wXo a u b v c w oa f (cxT x)) lv (pc + 3) (.int r :: rest)) : G x nL k n (wXo a u b v c w oa f (cxT x)) lv pc (.ref (a 0) :: rest) := gcI (wd2 := (wXo a u b v c w oa f (cxT x))) o (c_X1_lowestKind (cxl x) o.2.2.2.2.2.2.2.2.2.1 a b c u v w (.inl r) ht) (can_V (q0 := 0) o rfl rfl hd (Nat.le_of_ble_eq_true rfl) m_645 m_54 m_643 m_644 hlk yk_X1_lowestKind rfl hr hk dg) sp_LX (fun E h => by cases h) (fun r h => by cases h; exact kk)
theorem k_X1_lowestKind_Lx {x : Cx} {cc : ByteArray} {nL : Nat} {own : String} {d mc ms k n : Nat} {lv : List (Nat × Value)} {pc i : Nat} {rest : List Value} {oa : Nat} {f : Nat → Int64} {a b c : Nat → Nat} {u v w : St} (o : Ok x cc nL own d mc ms) {E : String} (ht : f_X1_lowestKind u v w = some (.inr E)) (hlk : Cond.methodLink own i yX1_lowestKind ∈ Ug) (hd : 5 < d) (hr : (rest.map fun v => v.category).sum ≤ 8) (hk : k + 1 ≤ mc ∧ n + 6 ≤ ms) (dg : decode cc pc = .ok (.invokevirtual i, 3)) (kk : XW x nL (k + 1) (n + 6) (wXo a u b v c w oa f (cxT x)) lv pc rest E) : G x nL k n (wXo a u b v c w oa f (cxT x)) lv pc (.ref (a 0) :: rest) := gcI (wd2 := (wXo a u b v c w oa f (cxT x))) o (c_X1_lowestKind (cxl x) o.2.2.2.2.2.2.2.2.2.1 a b c u v w (.inr E) ht) (can_V (q0 := 0) o rfl rfl hd (Nat.le_of_ble_eq_true rfl) m_645 m_54 m_643 m_644 hlk yk_X1_lowestKind rfl hr hk dg) sp_LX (fun E h => by cases h; exact kk) (fun r h => by cases h)
theorem k_X1_outputAt_Ln {x : Cx} {cc : ByteArray} {nL : Nat} {own : String} {d mc ms k n : Nat} {lv : List (Nat × Value)} {pc i : Nat} {rest : List Value} {oa : Nat} {f : Nat → Int64} {a b c : Nat → Nat} {u v w : St} {p0 : Int32} (o : Ok x cc nL own d mc ms) {r : Int32} (ht : f_X1_outputAt u v w p0 = some (.inl r)) (hlk : Cond.methodLink own i yX1_outputAt ∈ Ug) (hd : 0 < d) (hr : (rest.map fun v => v.category).sum ≤ 8) (hk : k + 1 ≤ mc ∧ n + 6 ≤ ms) (dg : decode cc pc = .ok (.invokevirtual i, 3)) (kk : G x nL (k + 1) (n + 6) (wXo a u b v c w oa f (cxT x)) lv (pc + 3) (.int r :: rest)) : G x nL k n (wXo a u b v c w oa f (cxT x)) lv pc (.int p0 :: .ref (a 0) :: rest) := gcI (wd2 := (wXo a u b v c w oa f (cxT x))) o (c_X1_outputAt (cxl x) o.2.2.2.2.2.2.2.2.2.1 a b c u v w p0 (.inl r) ht) (can_V (q0 := 0) o rfl rfl hd (Nat.le_of_ble_eq_true rfl) m_871 m_54 m_869 m_870 hlk yk_X1_outputAt rfl hr hk dg) sp_LX (fun E h => by cases h) (fun r h => by cases h; exact kk)
theorem k_X1_outputAt_Lx {x : Cx} {cc : ByteArray} {nL : Nat} {own : String} {d mc ms k n : Nat} {lv : List (Nat × Value)} {pc i : Nat} {rest : List Value} {oa : Nat} {f : Nat → Int64} {a b c : Nat → Nat} {u v w : St} {p0 : Int32} (o : Ok x cc nL own d mc ms) {E : String} (ht : f_X1_outputAt u v w p0 = some (.inr E)) (hlk : Cond.methodLink own i yX1_outputAt ∈ Ug) (hd : 0 < d) (hr : (rest.map fun v => v.category).sum ≤ 8) (hk : k + 1 ≤ mc ∧ n + 6 ≤ ms) (dg : decode cc pc = .ok (.invokevirtual i, 3)) (kk : XW x nL (k + 1) (n + 6) (wXo a u b v c w oa f (cxT x)) lv pc rest E) : G x nL k n (wXo a u b v c w oa f (cxT x)) lv pc (.int p0 :: .ref (a 0) :: rest) := gcI (wd2 := (wXo a u b v c w oa f (cxT x))) o (c_X1_outputAt (cxl x) o.2.2.2.2.2.2.2.2.2.1 a b c u v w p0 (.inr E) ht) (can_V (q0 := 0) o rfl rfl hd (Nat.le_of_ble_eq_true rfl) m_871 m_54 m_869 m_870 hlk yk_X1_outputAt rfl hr hk dg) sp_LX (fun E h => by cases h; exact kk) (fun r h => by cases h)
theorem k_X1_parse_Ln {x : Cx} {cc : ByteArray} {nL : Nat} {own : String} {d mc ms k n : Nat} {lv : List (Nat × Value)} {pc i : Nat} {rest : List Value} {oa : Nat} {f : Nat → Int64} {a b c : Nat → Nat} {u v w : St} (o : Ok x cc nL own d mc ms) {r : Int32} {z : St × St} (ht : f_X1_parse u v w = some (.inl r, z)) (hlk : Cond.methodLink own i yX1_parse ∈ Ug) (hd : 2 < d) (hr : (rest.map fun v => v.category).sum ≤ 8) (hk : k + 2 ≤ mc ∧ n + 12 ≤ ms) (dg : decode cc pc = .ok (.invokevirtual i, 3)) (kk : G x nL (k + 2) (n + 12) (wXo a z.1 b z.2 c w oa f (cxT x)) lv (pc + 3) (.int r :: rest)) : G x nL k n (wXo a u b v c w oa f (cxT x)) lv pc (.ref (a 0) :: rest) := gcI (wd2 := (wXo a z.1 b z.2 c w oa f (cxT x))) o (c_X1_parse (cxl x) o.2.2.2.2.2.2.2.2.2.1 a b c u v w (.inl r, z) ht) (can_V (q0 := 0) o rfl rfl hd (Nat.le_of_ble_eq_true rfl) m_822 m_54 m_820 m_821 hlk yk_X1_parse rfl hr hk dg) sp_LX (fun E h => by cases h) (fun r h => by cases h; exact kk)
theorem k_X1_parse_Lx {x : Cx} {cc : ByteArray} {nL : Nat} {own : String} {d mc ms k n : Nat} {lv : List (Nat × Value)} {pc i : Nat} {rest : List Value} {oa : Nat} {f : Nat → Int64} {a b c : Nat → Nat} {u v w : St} (o : Ok x cc nL own d mc ms) {E : String} {z : St × St} (ht : f_X1_parse u v w = some (.inr E, z)) (hlk : Cond.methodLink own i yX1_parse ∈ Ug) (hd : 2 < d) (hr : (rest.map fun v => v.category).sum ≤ 8) (hk : k + 2 ≤ mc ∧ n + 12 ≤ ms) (dg : decode cc pc = .ok (.invokevirtual i, 3)) (kk : XW x nL (k + 2) (n + 12) (wXo a z.1 b z.2 c w oa f (cxT x)) lv pc rest E) : G x nL k n (wXo a u b v c w oa f (cxT x)) lv pc (.ref (a 0) :: rest) := gcI (wd2 := (wXo a z.1 b z.2 c w oa f (cxT x))) o (c_X1_parse (cxl x) o.2.2.2.2.2.2.2.2.2.1 a b c u v w (.inr E, z) ht) (can_V (q0 := 0) o rfl rfl hd (Nat.le_of_ble_eq_true rfl) m_822 m_54 m_820 m_821 hlk yk_X1_parse rfl hr hk dg) sp_LX (fun E h => by cases h; exact kk) (fun r h => by cases h)
theorem k_X1_polymorphism_Ln {x : Cx} {cc : ByteArray} {nL : Nat} {own : String} {d mc ms k n : Nat} {lv : List (Nat × Value)} {pc i : Nat} {rest : List Value} {oa : Nat} {f : Nat → Int64} {a b c : Nat → Nat} {u v w : St} {p0 : Int32} {p1 : Int32} (o : Ok x cc nL own d mc ms) {r : Int32} (ht : f_X1_polymorphism u v w p0 p1 = some (.inl r)) (hlk : Cond.methodLink own i yX1_polymorphism ∈ Ug) (hd : 4 < d) (hr : (rest.map fun v => v.category).sum ≤ 8) (hk : k + 2 ≤ mc ∧ n + 12 ≤ ms) (dg : decode cc pc = .ok (.invokevirtual i, 3)) (kk : G x nL (k + 2) (n + 12) (wXo a u b v c w oa f (cxT x)) lv (pc + 3) (.int r :: rest)) : G x nL k n (wXo a u b v c w oa f (cxT x)) lv pc (.int p1 :: .int p0 :: .ref (a 0) :: rest) := gcI (wd2 := (wXo a u b v c w oa f (cxT x))) o (c_X1_polymorphism (cxl x) o.2.2.2.2.2.2.2.2.2.1 a b c u v w p0 p1 (.inl r) ht) (can_V (q0 := 0) o rfl rfl hd (Nat.le_of_ble_eq_true rfl) m_533 m_54 m_531 m_532 hlk yk_X1_polymorphism rfl hr hk dg) sp_LX (fun E h => by cases h) (fun r h => by cases h; exact kk)
theorem k_X1_polymorphism_Lx {x : Cx} {cc : ByteArray} {nL : Nat} {own : String} {d mc ms k n : Nat} {lv : List (Nat × Value)} {pc i : Nat} {rest : List Value} {oa : Nat} {f : Nat → Int64} {a b c : Nat → Nat} {u v w : St} {p0 : Int32} {p1 : Int32} (o : Ok x cc nL own d mc ms) {E : String} (ht : f_X1_polymorphism u v w p0 p1 = some (.inr E)) (hlk : Cond.methodLink own i yX1_polymorphism ∈ Ug) (hd : 4 < d) (hr : (rest.map fun v => v.category).sum ≤ 8) (hk : k + 2 ≤ mc ∧ n + 12 ≤ ms) (dg : decode cc pc = .ok (.invokevirtual i, 3)) (kk : XW x nL (k + 2) (n + 12) (wXo a u b v c w oa f (cxT x)) lv pc rest E) : G x nL k n (wXo a u b v c w oa f (cxT x)) lv pc (.int p1 :: .int p0 :: .ref (a 0) :: rest) := gcI (wd2 := (wXo a u b v c w oa f (cxT x))) o (c_X1_polymorphism (cxl x) o.2.2.2.2.2.2.2.2.2.1 a b c u v w p0 p1 (.inr E) ht) (can_V (q0 := 0) o rfl rfl hd (Nat.le_of_ble_eq_true rfl) m_533 m_54 m_531 m_532 hlk yk_X1_polymorphism rfl hr hk dg) sp_LX (fun E h => by cases h; exact kk) (fun r h => by cases h)
theorem k_X1_polymorphismCount_Ln {x : Cx} {cc : ByteArray} {nL : Nat} {own : String} {d mc ms k n : Nat} {lv : List (Nat × Value)} {pc i : Nat} {rest : List Value} {oa : Nat} {f : Nat → Int64} {a b c : Nat → Nat} {u v w : St} {p0 : Int32} (o : Ok x cc nL own d mc ms) {r : Int32} (ht : f_X1_polymorphismCount u v w p0 = some (.inl r)) (hlk : Cond.methodLink own i yX1_polymorphismCount ∈ Ug) (hd : 4 < d) (hr : (rest.map fun v => v.category).sum ≤ 8) (hk : k + 1 ≤ mc ∧ n + 6 ≤ ms) (dg : decode cc pc = .ok (.invokevirtual i, 3)) (kk : G x nL (k + 1) (n + 6) (wXo a u b v c w oa f (cxT x)) lv (pc + 3) (.int r :: rest)) : G x nL k n (wXo a u b v c w oa f (cxT x)) lv pc (.int p0 :: .ref (a 0) :: rest) := gcI (wd2 := (wXo a u b v c w oa f (cxT x))) o (c_X1_polymorphismCount (cxl x) o.2.2.2.2.2.2.2.2.2.1 a b c u v w p0 (.inl r) ht) (can_V (q0 := 0) o rfl rfl hd (Nat.le_of_ble_eq_true rfl) m_525 m_54 m_523 m_524 hlk yk_X1_polymorphismCount rfl hr hk dg) sp_LX (fun E h => by cases h) (fun r h => by cases h; exact kk)
theorem k_X1_polymorphismCount_Lx {x : Cx} {cc : ByteArray} {nL : Nat} {own : String} {d mc ms k n : Nat} {lv : List (Nat × Value)} {pc i : Nat} {rest : List Value} {oa : Nat} {f : Nat → Int64} {a b c : Nat → Nat} {u v w : St} {p0 : Int32} (o : Ok x cc nL own d mc ms) {E : String} (ht : f_X1_polymorphismCount u v w p0 = some (.inr E)) (hlk : Cond.methodLink own i yX1_polymorphismCount ∈ Ug) (hd : 4 < d) (hr : (rest.map fun v => v.category).sum ≤ 8) (hk : k + 1 ≤ mc ∧ n + 6 ≤ ms) (dg : decode cc pc = .ok (.invokevirtual i, 3)) (kk : XW x nL (k + 1) (n + 6) (wXo a u b v c w oa f (cxT x)) lv pc rest E) : G x nL k n (wXo a u b v c w oa f (cxT x)) lv pc (.int p0 :: .ref (a 0) :: rest) := gcI (wd2 := (wXo a u b v c w oa f (cxT x))) o (c_X1_polymorphismCount (cxl x) o.2.2.2.2.2.2.2.2.2.1 a b c u v w p0 (.inr E) ht) (can_V (q0 := 0) o rfl rfl hd (Nat.le_of_ble_eq_true rfl) m_525 m_54 m_523 m_524 hlk yk_X1_polymorphismCount rfl hr hk dg) sp_LX (fun E h => by cases h; exact kk) (fun r h => by cases h)
theorem k_X1_preserves_Ln {x : Cx} {cc : ByteArray} {nL : Nat} {own : String} {d mc ms k n : Nat} {lv : List (Nat × Value)} {pc i : Nat} {rest : List Value} {oa : Nat} {f : Nat → Int64} {a b c : Nat → Nat} {u v w : St} {p0 : Int32} {p1 : Int32} {p2 : Int32} (o : Ok x cc nL own d mc ms) {r : Int32} (ht : f_X1_preserves u v w p0 p1 p2 = some (.inl r)) (hlk : Cond.methodLink own i yX1_preserves ∈ Ug) (hd : 3 < d) (hr : (rest.map fun v => v.category).sum ≤ 8) (hk : k + 3 ≤ mc ∧ n + 18 ≤ ms) (dg : decode cc pc = .ok (.invokevirtual i, 3)) (kk : G x nL (k + 3) (n + 18) (wXo a u b v c w oa f (cxT x)) lv (pc + 3) (.int r :: rest)) : G x nL k n (wXo a u b v c w oa f (cxT x)) lv pc (.int p2 :: .int p1 :: .int p0 :: .ref (a 0) :: rest) := gcI (wd2 := (wXo a u b v c w oa f (cxT x))) o (c_X1_preserves (cxl x) o.2.2.2.2.2.2.2.2.2.1 a b c u v w p0 p1 p2 (.inl r) ht) (can_V (q0 := 0) o rfl rfl hd (Nat.le_of_ble_eq_true rfl) m_494 m_54 m_492 m_493 hlk yk_X1_preserves rfl hr hk dg) sp_LX (fun E h => by cases h) (fun r h => by cases h; exact kk)
theorem k_X1_preserves_Lx {x : Cx} {cc : ByteArray} {nL : Nat} {own : String} {d mc ms k n : Nat} {lv : List (Nat × Value)} {pc i : Nat} {rest : List Value} {oa : Nat} {f : Nat → Int64} {a b c : Nat → Nat} {u v w : St} {p0 : Int32} {p1 : Int32} {p2 : Int32} (o : Ok x cc nL own d mc ms) {E : String} (ht : f_X1_preserves u v w p0 p1 p2 = some (.inr E)) (hlk : Cond.methodLink own i yX1_preserves ∈ Ug) (hd : 3 < d) (hr : (rest.map fun v => v.category).sum ≤ 8) (hk : k + 3 ≤ mc ∧ n + 18 ≤ ms) (dg : decode cc pc = .ok (.invokevirtual i, 3)) (kk : XW x nL (k + 3) (n + 18) (wXo a u b v c w oa f (cxT x)) lv pc rest E) : G x nL k n (wXo a u b v c w oa f (cxT x)) lv pc (.int p2 :: .int p1 :: .int p0 :: .ref (a 0) :: rest) := gcI (wd2 := (wXo a u b v c w oa f (cxT x))) o (c_X1_preserves (cxl x) o.2.2.2.2.2.2.2.2.2.1 a b c u v w p0 p1 p2 (.inr E) ht) (can_V (q0 := 0) o rfl rfl hd (Nat.le_of_ble_eq_true rfl) m_494 m_54 m_492 m_493 hlk yk_X1_preserves rfl hr hk dg) sp_LX (fun E h => by cases h; exact kk) (fun r h => by cases h)
theorem k_X1_projectedArgument_Ln {x : Cx} {cc : ByteArray} {nL : Nat} {own : String} {d mc ms k n : Nat} {lv : List (Nat × Value)} {pc i : Nat} {rest : List Value} {oa : Nat} {f : Nat → Int64} {a b c : Nat → Nat} {u v w : St} {p0 : Int32} {p1 : Int32} (o : Ok x cc nL own d mc ms) {r : Int32} (ht : f_X1_projectedArgument u v w p0 p1 = some (.inl r)) (hlk : Cond.methodLink own i yX1_projectedArgument ∈ Ug) (hd : 2 < d) (hr : (rest.map fun v => v.category).sum ≤ 8) (hk : k + 3 ≤ mc ∧ n + 18 ≤ ms) (dg : decode cc pc = .ok (.invokevirtual i, 3)) (kk : G x nL (k + 3) (n + 18) (wXo a u b v c w oa f (cxT x)) lv (pc + 3) (.int r :: rest)) : G x nL k n (wXo a u b v c w oa f (cxT x)) lv pc (.int p1 :: .int p0 :: .ref (a 0) :: rest) := gcI (wd2 := (wXo a u b v c w oa f (cxT x))) o (c_X1_projectedArgument (cxl x) o.2.2.2.2.2.2.2.2.2.1 a b c u v w p0 p1 (.inl r) ht) (can_V (q0 := 0) o rfl rfl hd (Nat.le_of_ble_eq_true rfl) m_581 m_54 m_579 m_580 hlk yk_X1_projectedArgument rfl hr hk dg) sp_LX (fun E h => by cases h) (fun r h => by cases h; exact kk)
theorem k_X1_projectedArgument_Lx {x : Cx} {cc : ByteArray} {nL : Nat} {own : String} {d mc ms k n : Nat} {lv : List (Nat × Value)} {pc i : Nat} {rest : List Value} {oa : Nat} {f : Nat → Int64} {a b c : Nat → Nat} {u v w : St} {p0 : Int32} {p1 : Int32} (o : Ok x cc nL own d mc ms) {E : String} (ht : f_X1_projectedArgument u v w p0 p1 = some (.inr E)) (hlk : Cond.methodLink own i yX1_projectedArgument ∈ Ug) (hd : 2 < d) (hr : (rest.map fun v => v.category).sum ≤ 8) (hk : k + 3 ≤ mc ∧ n + 18 ≤ ms) (dg : decode cc pc = .ok (.invokevirtual i, 3)) (kk : XW x nL (k + 3) (n + 18) (wXo a u b v c w oa f (cxT x)) lv pc rest E) : G x nL k n (wXo a u b v c w oa f (cxT x)) lv pc (.int p1 :: .int p0 :: .ref (a 0) :: rest) := gcI (wd2 := (wXo a u b v c w oa f (cxT x))) o (c_X1_projectedArgument (cxl x) o.2.2.2.2.2.2.2.2.2.1 a b c u v w p0 p1 (.inr E) ht) (can_V (q0 := 0) o rfl rfl hd (Nat.le_of_ble_eq_true rfl) m_581 m_54 m_579 m_580 hlk yk_X1_projectedArgument rfl hr hk dg) sp_LX (fun E h => by cases h; exact kk) (fun r h => by cases h)
theorem k_X1_relationHasKind_Ln {x : Cx} {cc : ByteArray} {nL : Nat} {own : String} {d mc ms k n : Nat} {lv : List (Nat × Value)} {pc i : Nat} {rest : List Value} {oa : Nat} {f : Nat → Int64} {a b c : Nat → Nat} {u v w : St} {p0 : Int32} {p1 : Int32} (o : Ok x cc nL own d mc ms) {r : Int32} (ht : f_X1_relationHasKind u v w p0 p1 = some (.inl r)) (hlk : Cond.methodLink own i yX1_relationHasKind ∈ Ug) (hd : 3 < d) (hr : (rest.map fun v => v.category).sum ≤ 8) (hk : k + 2 ≤ mc ∧ n + 12 ≤ ms) (dg : decode cc pc = .ok (.invokevirtual i, 3)) (kk : G x nL (k + 2) (n + 12) (wXo a u b v c w oa f (cxT x)) lv (pc + 3) (.int r :: rest)) : G x nL k n (wXo a u b v c w oa f (cxT x)) lv pc (.int p1 :: .int p0 :: .ref (a 0) :: rest) := gcI (wd2 := (wXo a u b v c w oa f (cxT x))) o (c_X1_relationHasKind (cxl x) o.2.2.2.2.2.2.2.2.2.1 a b c u v w p0 p1 (.inl r) ht) (can_V (q0 := 0) o rfl rfl hd (Nat.le_of_ble_eq_true rfl) m_619 m_54 m_617 m_618 hlk yk_X1_relationHasKind rfl hr hk dg) sp_LX (fun E h => by cases h) (fun r h => by cases h; exact kk)
theorem k_X1_relationHasKind_Lx {x : Cx} {cc : ByteArray} {nL : Nat} {own : String} {d mc ms k n : Nat} {lv : List (Nat × Value)} {pc i : Nat} {rest : List Value} {oa : Nat} {f : Nat → Int64} {a b c : Nat → Nat} {u v w : St} {p0 : Int32} {p1 : Int32} (o : Ok x cc nL own d mc ms) {E : String} (ht : f_X1_relationHasKind u v w p0 p1 = some (.inr E)) (hlk : Cond.methodLink own i yX1_relationHasKind ∈ Ug) (hd : 3 < d) (hr : (rest.map fun v => v.category).sum ≤ 8) (hk : k + 2 ≤ mc ∧ n + 12 ≤ ms) (dg : decode cc pc = .ok (.invokevirtual i, 3)) (kk : XW x nL (k + 2) (n + 12) (wXo a u b v c w oa f (cxT x)) lv pc rest E) : G x nL k n (wXo a u b v c w oa f (cxT x)) lv pc (.int p1 :: .int p0 :: .ref (a 0) :: rest) := gcI (wd2 := (wXo a u b v c w oa f (cxT x))) o (c_X1_relationHasKind (cxl x) o.2.2.2.2.2.2.2.2.2.1 a b c u v w p0 p1 (.inr E) ht) (can_V (q0 := 0) o rfl rfl hd (Nat.le_of_ble_eq_true rfl) m_619 m_54 m_617 m_618 hlk yk_X1_relationHasKind rfl hr hk dg) sp_LX (fun E h => by cases h; exact kk) (fun r h => by cases h)
theorem k_X1_removeLastConstraint_Ln {x : Cx} {cc : ByteArray} {nL : Nat} {own : String} {d mc ms k n : Nat} {lv : List (Nat × Value)} {pc i : Nat} {rest : List Value} {oa : Nat} {f : Nat → Int64} {a b c : Nat → Nat} {u v w : St} (o : Ok x cc nL own d mc ms) {r : Int32} {z : St} (ht : f_X1_removeLastConstraint u v w = some (.inl r, z)) (hlk : Cond.methodLink own i yX1_removeLastConstraint ∈ Ug) (hd : 0 < d) (hr : (rest.map fun v => v.category).sum ≤ 8) (hk : k + 1 ≤ mc ∧ n + 6 ≤ ms) (dg : decode cc pc = .ok (.invokevirtual i, 3)) (kk : G x nL (k + 1) (n + 6) (wXo a u b z c w oa f (cxT x)) lv (pc + 3) (.int r :: rest)) : G x nL k n (wXo a u b v c w oa f (cxT x)) lv pc (.ref (a 0) :: rest) := gcI (wd2 := (wXo a u b z c w oa f (cxT x))) o (c_X1_removeLastConstraint (cxl x) o.2.2.2.2.2.2.2.2.2.1 a b c u v w (.inl r, z) ht) (can_V (q0 := 0) o rfl rfl hd (Nat.le_of_ble_eq_true rfl) m_681 m_54 m_679 m_680 hlk yk_X1_removeLastConstraint rfl hr hk dg) sp_LX (fun E h => by cases h) (fun r h => by cases h; exact kk)
theorem k_X1_removeLastConstraint_Lx {x : Cx} {cc : ByteArray} {nL : Nat} {own : String} {d mc ms k n : Nat} {lv : List (Nat × Value)} {pc i : Nat} {rest : List Value} {oa : Nat} {f : Nat → Int64} {a b c : Nat → Nat} {u v w : St} (o : Ok x cc nL own d mc ms) {E : String} {z : St} (ht : f_X1_removeLastConstraint u v w = some (.inr E, z)) (hlk : Cond.methodLink own i yX1_removeLastConstraint ∈ Ug) (hd : 0 < d) (hr : (rest.map fun v => v.category).sum ≤ 8) (hk : k + 1 ≤ mc ∧ n + 6 ≤ ms) (dg : decode cc pc = .ok (.invokevirtual i, 3)) (kk : XW x nL (k + 1) (n + 6) (wXo a u b z c w oa f (cxT x)) lv pc rest E) : G x nL k n (wXo a u b v c w oa f (cxT x)) lv pc (.ref (a 0) :: rest) := gcI (wd2 := (wXo a u b z c w oa f (cxT x))) o (c_X1_removeLastConstraint (cxl x) o.2.2.2.2.2.2.2.2.2.1 a b c u v w (.inr E, z) ht) (can_V (q0 := 0) o rfl rfl hd (Nat.le_of_ble_eq_true rfl) m_681 m_54 m_679 m_680 hlk yk_X1_removeLastConstraint rfl hr hk dg) sp_LX (fun E h => by cases h; exact kk) (fun r h => by cases h)
theorem k_X1_removeTuple_Ln {x : Cx} {cc : ByteArray} {nL : Nat} {own : String} {d mc ms k n : Nat} {lv : List (Nat × Value)} {pc i : Nat} {rest : List Value} {oa : Nat} {f : Nat → Int64} {a b c : Nat → Nat} {u v w : St} {p0 : Int32} {p1 : Int32} (o : Ok x cc nL own d mc ms) {r : Int32} {z : St} (ht : f_X1_removeTuple u v w p0 p1 = some (.inl r, z)) (hlk : Cond.methodLink own i yX1_removeTuple ∈ Ug) (hd : 2 < d) (hr : (rest.map fun v => v.category).sum ≤ 8) (hk : k + 2 ≤ mc ∧ n + 12 ≤ ms) (dg : decode cc pc = .ok (.invokevirtual i, 3)) (kk : G x nL (k + 2) (n + 12) (wXo a u b z c w oa f (cxT x)) lv (pc + 3) (.int r :: rest)) : G x nL k n (wXo a u b v c w oa f (cxT x)) lv pc (.int p1 :: .int p0 :: .ref (a 0) :: rest) := gcI (wd2 := (wXo a u b z c w oa f (cxT x))) o (c_X1_removeTuple (cxl x) o.2.2.2.2.2.2.2.2.2.1 a b c u v w p0 p1 (.inl r, z) ht) (can_V (q0 := 0) o rfl rfl hd (Nat.le_of_ble_eq_true rfl) m_401 m_54 m_399 m_400 hlk yk_X1_removeTuple rfl hr hk dg) sp_LX (fun E h => by cases h) (fun r h => by cases h; exact kk)
theorem k_X1_removeTuple_Lx {x : Cx} {cc : ByteArray} {nL : Nat} {own : String} {d mc ms k n : Nat} {lv : List (Nat × Value)} {pc i : Nat} {rest : List Value} {oa : Nat} {f : Nat → Int64} {a b c : Nat → Nat} {u v w : St} {p0 : Int32} {p1 : Int32} (o : Ok x cc nL own d mc ms) {E : String} {z : St} (ht : f_X1_removeTuple u v w p0 p1 = some (.inr E, z)) (hlk : Cond.methodLink own i yX1_removeTuple ∈ Ug) (hd : 2 < d) (hr : (rest.map fun v => v.category).sum ≤ 8) (hk : k + 2 ≤ mc ∧ n + 12 ≤ ms) (dg : decode cc pc = .ok (.invokevirtual i, 3)) (kk : XW x nL (k + 2) (n + 12) (wXo a u b z c w oa f (cxT x)) lv pc rest E) : G x nL k n (wXo a u b v c w oa f (cxT x)) lv pc (.int p1 :: .int p0 :: .ref (a 0) :: rest) := gcI (wd2 := (wXo a u b z c w oa f (cxT x))) o (c_X1_removeTuple (cxl x) o.2.2.2.2.2.2.2.2.2.1 a b c u v w p0 p1 (.inr E, z) ht) (can_V (q0 := 0) o rfl rfl hd (Nat.le_of_ble_eq_true rfl) m_401 m_54 m_399 m_400 hlk yk_X1_removeTuple rfl hr hk dg) sp_LX (fun E h => by cases h; exact kk) (fun r h => by cases h)
theorem k_X1_restoreSnapshot_Ln {x : Cx} {cc : ByteArray} {nL : Nat} {own : String} {d mc ms k n : Nat} {lv : List (Nat × Value)} {pc i : Nat} {rest : List Value} {oa : Nat} {f : Nat → Int64} {a b c : Nat → Nat} {u v w : St} (o : Ok x cc nL own d mc ms) {r : Int32} {z : St} (ht : f_X1_restoreSnapshot u v w = some (.inl r, z)) (hlk : Cond.methodLink own i yX1_restoreSnapshot ∈ Ug) (hd : 2 < d) (hr : (rest.map fun v => v.category).sum ≤ 8) (hk : k + 1 ≤ mc ∧ n + 6 ≤ ms) (dg : decode cc pc = .ok (.invokevirtual i, 3)) (kk : G x nL (k + 1) (n + 6) (wXo a u b z c w oa f (cxT x)) lv (pc + 3) (.int r :: rest)) : G x nL k n (wXo a u b v c w oa f (cxT x)) lv pc (.ref (a 0) :: rest) := gcI (wd2 := (wXo a u b z c w oa f (cxT x))) o (c_X1_restoreSnapshot (cxl x) o.2.2.2.2.2.2.2.2.2.1 a b c u v w (.inl r, z) ht) (can_V (q0 := 0) o rfl rfl hd (Nat.le_of_ble_eq_true rfl) m_911 m_54 m_909 m_910 hlk yk_X1_restoreSnapshot rfl hr hk dg) sp_LX (fun E h => by cases h) (fun r h => by cases h; exact kk)
theorem k_X1_restoreSnapshot_Lx {x : Cx} {cc : ByteArray} {nL : Nat} {own : String} {d mc ms k n : Nat} {lv : List (Nat × Value)} {pc i : Nat} {rest : List Value} {oa : Nat} {f : Nat → Int64} {a b c : Nat → Nat} {u v w : St} (o : Ok x cc nL own d mc ms) {E : String} {z : St} (ht : f_X1_restoreSnapshot u v w = some (.inr E, z)) (hlk : Cond.methodLink own i yX1_restoreSnapshot ∈ Ug) (hd : 2 < d) (hr : (rest.map fun v => v.category).sum ≤ 8) (hk : k + 1 ≤ mc ∧ n + 6 ≤ ms) (dg : decode cc pc = .ok (.invokevirtual i, 3)) (kk : XW x nL (k + 1) (n + 6) (wXo a u b z c w oa f (cxT x)) lv pc rest E) : G x nL k n (wXo a u b v c w oa f (cxT x)) lv pc (.ref (a 0) :: rest) := gcI (wd2 := (wXo a u b z c w oa f (cxT x))) o (c_X1_restoreSnapshot (cxl x) o.2.2.2.2.2.2.2.2.2.1 a b c u v w (.inr E, z) ht) (can_V (q0 := 0) o rfl rfl hd (Nat.le_of_ble_eq_true rfl) m_911 m_54 m_909 m_910 hlk yk_X1_restoreSnapshot rfl hr hk dg) sp_LX (fun E h => by cases h; exact kk) (fun r h => by cases h)
theorem k_X1_setFlag_Ln {x : Cx} {cc : ByteArray} {nL : Nat} {own : String} {d mc ms k n : Nat} {lv : List (Nat × Value)} {pc i : Nat} {rest : List Value} {oa : Nat} {f : Nat → Int64} {a b c : Nat → Nat} {u v w : St} {p0 : Int32} {p1 : Int32} {p2 : Int32} (o : Ok x cc nL own d mc ms) {r : Int32} {z : St} (ht : f_X1_setFlag u v w p0 p1 p2 = some (.inl r, z)) (hlk : Cond.methodLink own i yX1_setFlag ∈ Ug) (hd : 1 < d) (hr : (rest.map fun v => v.category).sum ≤ 8) (hk : k + 3 ≤ mc ∧ n + 18 ≤ ms) (dg : decode cc pc = .ok (.invokevirtual i, 3)) (kk : G x nL (k + 3) (n + 18) (wXo a z b v c w oa f (cxT x)) lv (pc + 3) (.int r :: rest)) : G x nL k n (wXo a u b v c w oa f (cxT x)) lv pc (.int p2 :: .int p1 :: .int p0 :: .ref (a 0) :: rest) := gcI (wd2 := (wXo a z b v c w oa f (cxT x))) o (c_X1_setFlag (cxl x) o.2.2.2.2.2.2.2.2.2.1 a b c u v w p0 p1 p2 (.inl r, z) ht) (can_V (q0 := 0) o rfl rfl hd (Nat.le_of_ble_eq_true rfl) m_891 m_54 m_889 m_890 hlk yk_X1_setFlag rfl hr hk dg) sp_LX (fun E h => by cases h) (fun r h => by cases h; exact kk)
theorem k_X1_setFlag_Lx {x : Cx} {cc : ByteArray} {nL : Nat} {own : String} {d mc ms k n : Nat} {lv : List (Nat × Value)} {pc i : Nat} {rest : List Value} {oa : Nat} {f : Nat → Int64} {a b c : Nat → Nat} {u v w : St} {p0 : Int32} {p1 : Int32} {p2 : Int32} (o : Ok x cc nL own d mc ms) {E : String} {z : St} (ht : f_X1_setFlag u v w p0 p1 p2 = some (.inr E, z)) (hlk : Cond.methodLink own i yX1_setFlag ∈ Ug) (hd : 1 < d) (hr : (rest.map fun v => v.category).sum ≤ 8) (hk : k + 3 ≤ mc ∧ n + 18 ≤ ms) (dg : decode cc pc = .ok (.invokevirtual i, 3)) (kk : XW x nL (k + 3) (n + 18) (wXo a z b v c w oa f (cxT x)) lv pc rest E) : G x nL k n (wXo a u b v c w oa f (cxT x)) lv pc (.int p2 :: .int p1 :: .int p0 :: .ref (a 0) :: rest) := gcI (wd2 := (wXo a z b v c w oa f (cxT x))) o (c_X1_setFlag (cxl x) o.2.2.2.2.2.2.2.2.2.1 a b c u v w p0 p1 p2 (.inr E, z) ht) (can_V (q0 := 0) o rfl rfl hd (Nat.le_of_ble_eq_true rfl) m_891 m_54 m_889 m_890 hlk yk_X1_setFlag rfl hr hk dg) sp_LX (fun E h => by cases h; exact kk) (fun r h => by cases h)
theorem k_X1_setVariables_Ln {x : Cx} {cc : ByteArray} {nL : Nat} {own : String} {d mc ms k n : Nat} {lv : List (Nat × Value)} {pc i : Nat} {rest : List Value} {oa : Nat} {f : Nat → Int64} {a b c : Nat → Nat} {u v w : St} {p0 : Int32} (o : Ok x cc nL own d mc ms) {r : Int32} {z : St} (ht : f_X1_setVariables u v w p0 = some (.inl r, z)) (hlk : Cond.methodLink own i yX1_setVariables ∈ Ug) (hd : 0 < d) (hr : (rest.map fun v => v.category).sum ≤ 8) (hk : k + 1 ≤ mc ∧ n + 6 ≤ ms) (dg : decode cc pc = .ok (.invokevirtual i, 3)) (kk : G x nL (k + 1) (n + 6) (wXo a u b z c w oa f (cxT x)) lv (pc + 3) (.int r :: rest)) : G x nL k n (wXo a u b v c w oa f (cxT x)) lv pc (.int p0 :: .ref (a 0) :: rest) := gcI (wd2 := (wXo a u b z c w oa f (cxT x))) o (c_X1_setVariables (cxl x) o.2.2.2.2.2.2.2.2.2.1 a b c u v w p0 (.inl r, z) ht) (can_V (q0 := 0) o rfl rfl hd (Nat.le_of_ble_eq_true rfl) m_653 m_54 m_651 m_652 hlk yk_X1_setVariables rfl hr hk dg) sp_LX (fun E h => by cases h) (fun r h => by cases h; exact kk)
theorem k_X1_setVariables_Lx {x : Cx} {cc : ByteArray} {nL : Nat} {own : String} {d mc ms k n : Nat} {lv : List (Nat × Value)} {pc i : Nat} {rest : List Value} {oa : Nat} {f : Nat → Int64} {a b c : Nat → Nat} {u v w : St} {p0 : Int32} (o : Ok x cc nL own d mc ms) {E : String} {z : St} (ht : f_X1_setVariables u v w p0 = some (.inr E, z)) (hlk : Cond.methodLink own i yX1_setVariables ∈ Ug) (hd : 0 < d) (hr : (rest.map fun v => v.category).sum ≤ 8) (hk : k + 1 ≤ mc ∧ n + 6 ≤ ms) (dg : decode cc pc = .ok (.invokevirtual i, 3)) (kk : XW x nL (k + 1) (n + 6) (wXo a u b z c w oa f (cxT x)) lv pc rest E) : G x nL k n (wXo a u b v c w oa f (cxT x)) lv pc (.int p0 :: .ref (a 0) :: rest) := gcI (wd2 := (wXo a u b z c w oa f (cxT x))) o (c_X1_setVariables (cxl x) o.2.2.2.2.2.2.2.2.2.1 a b c u v w p0 (.inr E, z) ht) (can_V (q0 := 0) o rfl rfl hd (Nat.le_of_ble_eq_true rfl) m_653 m_54 m_651 m_652 hlk yk_X1_setVariables rfl hr hk dg) sp_LX (fun E h => by cases h; exact kk) (fun r h => by cases h)
theorem k_X1_solution_Ln {x : Cx} {cc : ByteArray} {nL : Nat} {own : String} {d mc ms k n : Nat} {lv : List (Nat × Value)} {pc i : Nat} {rest : List Value} {oa : Nat} {f : Nat → Int64} {a b c : Nat → Nat} {u v w : St} {p0 : Int32} (o : Ok x cc nL own d mc ms) {r : Int32} (ht : f_X1_solution u v w p0 = some (.inl r)) (hlk : Cond.methodLink own i yX1_solution ∈ Ug) (hd : 14 < d) (hr : (rest.map fun v => v.category).sum ≤ 8) (hk : k + 1 ≤ mc ∧ n + 6 ≤ ms) (dg : decode cc pc = .ok (.invokevirtual i, 3)) (kk : G x nL (k + 1) (n + 6) (wXo a u b v c w oa f (cxT x)) lv (pc + 3) (.int r :: rest)) : G x nL k n (wXo a u b v c w oa f (cxT x)) lv pc (.int p0 :: .ref (a 0) :: rest) := gcI (wd2 := (wXo a u b v c w oa f (cxT x))) o (c_X1_solution (cxl x) o.2.2.2.2.2.2.2.2.2.1 a b c u v w p0 (.inl r) ht) (can_V (q0 := 0) o rfl rfl hd (Nat.le_of_ble_eq_true rfl) m_689 m_54 m_687 m_688 hlk yk_X1_solution rfl hr hk dg) sp_LX (fun E h => by cases h) (fun r h => by cases h; exact kk)
theorem k_X1_solution_Lx {x : Cx} {cc : ByteArray} {nL : Nat} {own : String} {d mc ms k n : Nat} {lv : List (Nat × Value)} {pc i : Nat} {rest : List Value} {oa : Nat} {f : Nat → Int64} {a b c : Nat → Nat} {u v w : St} {p0 : Int32} (o : Ok x cc nL own d mc ms) {E : String} (ht : f_X1_solution u v w p0 = some (.inr E)) (hlk : Cond.methodLink own i yX1_solution ∈ Ug) (hd : 14 < d) (hr : (rest.map fun v => v.category).sum ≤ 8) (hk : k + 1 ≤ mc ∧ n + 6 ≤ ms) (dg : decode cc pc = .ok (.invokevirtual i, 3)) (kk : XW x nL (k + 1) (n + 6) (wXo a u b v c w oa f (cxT x)) lv pc rest E) : G x nL k n (wXo a u b v c w oa f (cxT x)) lv pc (.int p0 :: .ref (a 0) :: rest) := gcI (wd2 := (wXo a u b v c w oa f (cxT x))) o (c_X1_solution (cxl x) o.2.2.2.2.2.2.2.2.2.1 a b c u v w p0 (.inr E) ht) (can_V (q0 := 0) o rfl rfl hd (Nat.le_of_ble_eq_true rfl) m_689 m_54 m_687 m_688 hlk yk_X1_solution rfl hr hk dg) sp_LX (fun E h => by cases h; exact kk) (fun r h => by cases h)
theorem k_X1_storeFlags_Ln {x : Cx} {cc : ByteArray} {nL : Nat} {own : String} {d mc ms k n : Nat} {lv : List (Nat × Value)} {pc i : Nat} {rest : List Value} {oa : Nat} {f : Nat → Int64} {a b c : Nat → Nat} {u v w : St} {p0 : Int32} {p1 : Int32} {p2 : Int32} (o : Ok x cc nL own d mc ms) {r : Int32} {z : St} (ht : f_X1_storeFlags u v w p0 p1 p2 = some (.inl r, z)) (hlk : Cond.methodLink own i yX1_storeFlags ∈ Ug) (hd : 1 < d) (hr : (rest.map fun v => v.category).sum ≤ 8) (hk : k + 3 ≤ mc ∧ n + 18 ≤ ms) (dg : decode cc pc = .ok (.invokevirtual i, 3)) (kk : G x nL (k + 3) (n + 18) (wXo a z b v c w oa f (cxT x)) lv (pc + 3) (.int r :: rest)) : G x nL k n (wXo a u b v c w oa f (cxT x)) lv pc (.int p2 :: .int p1 :: .int p0 :: .ref (a 0) :: rest) := gcI (wd2 := (wXo a z b v c w oa f (cxT x))) o (c_X1_storeFlags (cxl x) o.2.2.2.2.2.2.2.2.2.1 a b c u v w p0 p1 p2 (.inl r, z) ht) (can_V (q0 := 0) o rfl rfl hd (Nat.le_of_ble_eq_true rfl) m_879 m_54 m_877 m_878 hlk yk_X1_storeFlags rfl hr hk dg) sp_LX (fun E h => by cases h) (fun r h => by cases h; exact kk)
theorem k_X1_storeFlags_Lx {x : Cx} {cc : ByteArray} {nL : Nat} {own : String} {d mc ms k n : Nat} {lv : List (Nat × Value)} {pc i : Nat} {rest : List Value} {oa : Nat} {f : Nat → Int64} {a b c : Nat → Nat} {u v w : St} {p0 : Int32} {p1 : Int32} {p2 : Int32} (o : Ok x cc nL own d mc ms) {E : String} {z : St} (ht : f_X1_storeFlags u v w p0 p1 p2 = some (.inr E, z)) (hlk : Cond.methodLink own i yX1_storeFlags ∈ Ug) (hd : 1 < d) (hr : (rest.map fun v => v.category).sum ≤ 8) (hk : k + 3 ≤ mc ∧ n + 18 ≤ ms) (dg : decode cc pc = .ok (.invokevirtual i, 3)) (kk : XW x nL (k + 3) (n + 18) (wXo a z b v c w oa f (cxT x)) lv pc rest E) : G x nL k n (wXo a u b v c w oa f (cxT x)) lv pc (.int p2 :: .int p1 :: .int p0 :: .ref (a 0) :: rest) := gcI (wd2 := (wXo a z b v c w oa f (cxT x))) o (c_X1_storeFlags (cxl x) o.2.2.2.2.2.2.2.2.2.1 a b c u v w p0 p1 p2 (.inr E, z) ht) (can_V (q0 := 0) o rfl rfl hd (Nat.le_of_ble_eq_true rfl) m_879 m_54 m_877 m_878 hlk yk_X1_storeFlags rfl hr hk dg) sp_LX (fun E h => by cases h; exact kk) (fun r h => by cases h)
theorem k_X1_takeFlags_Ln {x : Cx} {cc : ByteArray} {nL : Nat} {own : String} {d mc ms k n : Nat} {lv : List (Nat × Value)} {pc i : Nat} {rest : List Value} {oa : Nat} {f : Nat → Int64} {a b c : Nat → Nat} {u v w : St} {p0 : Int32} {p1 : Int32} (o : Ok x cc nL own d mc ms) {r : Int32} {z : St} (ht : f_X1_takeFlags u v w p0 p1 = some (.inl r, z)) (hlk : Cond.methodLink own i yX1_takeFlags ∈ Ug) (hd : 1 < d) (hr : (rest.map fun v => v.category).sum ≤ 8) (hk : k + 3 ≤ mc ∧ n + 18 ≤ ms) (dg : decode cc pc = .ok (.invokevirtual i, 3)) (kk : G x nL (k + 3) (n + 18) (wXo a u b z c w oa f (cxT x)) lv (pc + 3) (.int r :: rest)) : G x nL k n (wXo a u b v c w oa f (cxT x)) lv pc (.int p1 :: .int p0 :: .ref (a 0) :: rest) := gcI (wd2 := (wXo a u b z c w oa f (cxT x))) o (c_X1_takeFlags (cxl x) o.2.2.2.2.2.2.2.2.2.1 a b c u v w p0 p1 (.inl r, z) ht) (can_V (q0 := 0) o rfl rfl hd (Nat.le_of_ble_eq_true rfl) m_904 m_54 m_902 m_903 hlk yk_X1_takeFlags rfl hr hk dg) sp_LX (fun E h => by cases h) (fun r h => by cases h; exact kk)
theorem k_X1_takeFlags_Lx {x : Cx} {cc : ByteArray} {nL : Nat} {own : String} {d mc ms k n : Nat} {lv : List (Nat × Value)} {pc i : Nat} {rest : List Value} {oa : Nat} {f : Nat → Int64} {a b c : Nat → Nat} {u v w : St} {p0 : Int32} {p1 : Int32} (o : Ok x cc nL own d mc ms) {E : String} {z : St} (ht : f_X1_takeFlags u v w p0 p1 = some (.inr E, z)) (hlk : Cond.methodLink own i yX1_takeFlags ∈ Ug) (hd : 1 < d) (hr : (rest.map fun v => v.category).sum ≤ 8) (hk : k + 3 ≤ mc ∧ n + 18 ≤ ms) (dg : decode cc pc = .ok (.invokevirtual i, 3)) (kk : XW x nL (k + 3) (n + 18) (wXo a u b z c w oa f (cxT x)) lv pc rest E) : G x nL k n (wXo a u b v c w oa f (cxT x)) lv pc (.int p1 :: .int p0 :: .ref (a 0) :: rest) := gcI (wd2 := (wXo a u b z c w oa f (cxT x))) o (c_X1_takeFlags (cxl x) o.2.2.2.2.2.2.2.2.2.1 a b c u v w p0 p1 (.inr E, z) ht) (can_V (q0 := 0) o rfl rfl hd (Nat.le_of_ble_eq_true rfl) m_904 m_54 m_902 m_903 hlk yk_X1_takeFlags rfl hr hk dg) sp_LX (fun E h => by cases h; exact kk) (fun r h => by cases h)
theorem k_X1_tupleCount_Ln {x : Cx} {cc : ByteArray} {nL : Nat} {own : String} {d mc ms k n : Nat} {lv : List (Nat × Value)} {pc i : Nat} {rest : List Value} {oa : Nat} {f : Nat → Int64} {a b c : Nat → Nat} {u v w : St} {p0 : Int32} (o : Ok x cc nL own d mc ms) {r : Int32} (ht : f_X1_tupleCount u v w p0 = some (.inl r)) (hlk : Cond.methodLink own i yX1_tupleCount ∈ Ug) (hd : 1 < d) (hr : (rest.map fun v => v.category).sum ≤ 8) (hk : k + 1 ≤ mc ∧ n + 6 ≤ ms) (dg : decode cc pc = .ok (.invokevirtual i, 3)) (kk : G x nL (k + 1) (n + 6) (wXo a u b v c w oa f (cxT x)) lv (pc + 3) (.int r :: rest)) : G x nL k n (wXo a u b v c w oa f (cxT x)) lv pc (.int p0 :: .ref (a 0) :: rest) := gcI (wd2 := (wXo a u b v c w oa f (cxT x))) o (c_X1_tupleCount (cxl x) o.2.2.2.2.2.2.2.2.2.1 a b c u v w p0 (.inl r) ht) (can_V (q0 := 0) o rfl rfl hd (Nat.le_of_ble_eq_true rfl) m_415 m_54 m_413 m_414 hlk yk_X1_tupleCount rfl hr hk dg) sp_LX (fun E h => by cases h) (fun r h => by cases h; exact kk)
theorem k_X1_tupleCount_Lx {x : Cx} {cc : ByteArray} {nL : Nat} {own : String} {d mc ms k n : Nat} {lv : List (Nat × Value)} {pc i : Nat} {rest : List Value} {oa : Nat} {f : Nat → Int64} {a b c : Nat → Nat} {u v w : St} {p0 : Int32} (o : Ok x cc nL own d mc ms) {E : String} (ht : f_X1_tupleCount u v w p0 = some (.inr E)) (hlk : Cond.methodLink own i yX1_tupleCount ∈ Ug) (hd : 1 < d) (hr : (rest.map fun v => v.category).sum ≤ 8) (hk : k + 1 ≤ mc ∧ n + 6 ≤ ms) (dg : decode cc pc = .ok (.invokevirtual i, 3)) (kk : XW x nL (k + 1) (n + 6) (wXo a u b v c w oa f (cxT x)) lv pc rest E) : G x nL k n (wXo a u b v c w oa f (cxT x)) lv pc (.int p0 :: .ref (a 0) :: rest) := gcI (wd2 := (wXo a u b v c w oa f (cxT x))) o (c_X1_tupleCount (cxl x) o.2.2.2.2.2.2.2.2.2.1 a b c u v w p0 (.inr E) ht) (can_V (q0 := 0) o rfl rfl hd (Nat.le_of_ble_eq_true rfl) m_415 m_54 m_413 m_414 hlk yk_X1_tupleCount rfl hr hk dg) sp_LX (fun E h => by cases h; exact kk) (fun r h => by cases h)
theorem k_X1_write_Ln {x : Cx} {cc : ByteArray} {nL : Nat} {own : String} {d mc ms k n : Nat} {lv : List (Nat × Value)} {pc i : Nat} {rest : List Value} {oa : Nat} {f : Nat → Int64} {a b c : Nat → Nat} {u v w : St} {p0 : Int32} (o : Ok x cc nL own d mc ms) {r : Int32} {z : St} (ht : f_X1_write u v w p0 = some (.inl r, z)) (hlk : Cond.methodLink own i yX1_write ∈ Ug) (hd : 2 < d) (hr : (rest.map fun v => v.category).sum ≤ 8) (hk : k + 1 ≤ mc ∧ n + 6 ≤ ms) (dg : decode cc pc = .ok (.invokevirtual i, 3)) (kk : G x nL (k + 1) (n + 6) (wXo a z b v c w oa f (cxT x)) lv (pc + 3) (.int r :: rest)) : G x nL k n (wXo a u b v c w oa f (cxT x)) lv pc (.int p0 :: .ref (a 0) :: rest) := gcI (wd2 := (wXo a z b v c w oa f (cxT x))) o (c_X1_write (cxl x) o.2.2.2.2.2.2.2.2.2.1 a b c u v w p0 (.inl r, z) ht) (can_V (q0 := 0) o rfl rfl hd (Nat.le_of_ble_eq_true rfl) m_856 m_54 m_854 m_855 hlk yk_X1_write rfl hr hk dg) sp_LX (fun E h => by cases h) (fun r h => by cases h; exact kk)
theorem k_X1_write_Lx {x : Cx} {cc : ByteArray} {nL : Nat} {own : String} {d mc ms k n : Nat} {lv : List (Nat × Value)} {pc i : Nat} {rest : List Value} {oa : Nat} {f : Nat → Int64} {a b c : Nat → Nat} {u v w : St} {p0 : Int32} (o : Ok x cc nL own d mc ms) {E : String} {z : St} (ht : f_X1_write u v w p0 = some (.inr E, z)) (hlk : Cond.methodLink own i yX1_write ∈ Ug) (hd : 2 < d) (hr : (rest.map fun v => v.category).sum ≤ 8) (hk : k + 1 ≤ mc ∧ n + 6 ≤ ms) (dg : decode cc pc = .ok (.invokevirtual i, 3)) (kk : XW x nL (k + 1) (n + 6) (wXo a z b v c w oa f (cxT x)) lv pc rest E) : G x nL k n (wXo a u b v c w oa f (cxT x)) lv pc (.int p0 :: .ref (a 0) :: rest) := gcI (wd2 := (wXo a z b v c w oa f (cxT x))) o (c_X1_write (cxl x) o.2.2.2.2.2.2.2.2.2.1 a b c u v w p0 (.inr E, z) ht) (can_V (q0 := 0) o rfl rfl hd (Nat.le_of_ble_eq_true rfl) m_856 m_54 m_854 m_855 hlk yk_X1_write rfl hr hk dg) sp_LX (fun E h => by cases h; exact kk) (fun r h => by cases h)
set_option maxRecDepth 20000 in
set_option maxHeartbeats 2000000 in
theorem b_L_addClause {x : Cx} (o : Ok x cL_addClause 5 RL 3 3 18) (htab : (cxc x).exceptionTable.toList = tableOf [(0, 10, 13, 13), (0, 10, 17, 15)]) (a b c : Nat → Nat) (oa : Nat) (u v w : St) (f : Nat → Int64) (p1 : Int32) (p2 : Int32) (t : Int32 × St × (Nat → Int64)) (hf : f_L_addClause u v w f p1 p2 = some t) (hret : RetI x cL_addClause .int 3 18 (wXo a u b t.2.1 c w oa t.2.2 (cxT x)) t.1) : G x 5 0 0 (wXo a u b v c w oa f (cxT x)) [(0, .ref (a 0)), (1, .int p1), (2, .int p2), (3, .ref oa)] 0 [] := by
  unfold f_L_addClause at hf
  refine g_aload_n o 3 rfl rfl dL_addClause_0 ?_
  refine g_iconst o ic_0 dL_addClause_1 ?_
  refine g_aload_n o 0 rfl rfl dL_addClause_2 ?_
  refine g_iload_n o 1 rfl rfl dL_addClause_3 ?_
  refine g_iload_n o 2 rfl rfl dL_addClause_4 ?_
  rcases bx_some hf with ⟨r4, z6, hr4, hf⟩ | ⟨E5, z6, hr4, hf⟩
  · refine k_X1_addClause_Ln o hr4 m_338 (Nat.le_of_ble_eq_true rfl) (Nat.le_of_ble_eq_true rfl) ⟨(Nat.le_of_ble_eq_true rfl), (Nat.le_of_ble_eq_true rfl)⟩ dL_addClause_5 ?_
    refine g_i2l o dL_addClause_8 ?_
    refine L_ost o dL_addClause_9 hf (fun hf => ?_)
    refine g_goto (tgt := 21) o rfl dL_addClause_10 ?_
    refine g_iconst o ic_0 dL_addClause_21 ?_
    cases Option.some.inj hf
    exact g_iret hret (Nat.le_of_ble_eq_true rfl) (Nat.le_of_ble_eq_true rfl) (vp_nar_int _) dL_addClause_22
  · refine k_X1_addClause_Lx o hr4 m_338 (Nat.le_of_ble_eq_true rfl) (Nat.le_of_ble_eq_true rfl) ⟨(Nat.le_of_ble_eq_true rfl), (Nat.le_of_ble_eq_true rfl)⟩ dL_addClause_5 ?_
    by_cases hE : E5 = eIA
    · subst hE
      rw [if_pos rfl] at hf
      refine xw_catch o htab [] ⟨0, 10, 13, 13⟩ [⟨0, 10, 17, 15⟩] rfl (fun q hq => by cases hq) (by decide) (by decide) m_232 e_243 rfl (fun q9 => ?_)
      refine g_astore o [(4, .ref q9), (0, .ref (a 0)), (1, .int p1), (2, .int p2), (3, .ref oa)] (Nat.le_of_ble_eq_true rfl) rfl dL_addClause_13 ?_
      refine g_iconst o ic_1 dL_addClause_15 ?_
      cases Option.some.inj hf
      exact g_iret hret (Nat.le_of_ble_eq_true rfl) (Nat.le_of_ble_eq_true rfl) (vp_nar_int _) dL_addClause_16
    rw [if_neg hE] at hf
    by_cases hE : E5 = eIS
    · subst hE
      rw [if_pos rfl] at hf
      refine xw_catch o htab [⟨0, 10, 13, 13⟩] ⟨0, 10, 17, 15⟩ [] rfl (List.forall_mem_cons.mpr ⟨⟨by decide, eIA, m_232, nc_eIS_eIA⟩, (fun q hq => by cases hq)⟩) (by decide) (by decide) m_233 e_321 rfl (fun q9 => ?_)
      refine g_astore o [(4, .ref q9), (0, .ref (a 0)), (1, .int p1), (2, .int p2), (3, .ref oa)] (Nat.le_of_ble_eq_true rfl) rfl dL_addClause_17 ?_
      refine g_iconst o ic_2 dL_addClause_19 ?_
      cases Option.some.inj hf
      exact g_iret hret (Nat.le_of_ble_eq_true rfl) (Nat.le_of_ble_eq_true rfl) (vp_nar_int _) dL_addClause_20
    rw [if_neg hE] at hf
    cases hf
theorem c_L_addClause (l : Launch) (hst : l.stackTraces = false) (a b c : Nat → Nat) (oa : Nat) (u v w : St) (f : Nat → Int64) (p1 : Int32) (p2 : Int32) (t : Int32 × St × (Nat → Int64)) (hf : f_L_addClause u v w f p1 p2 = some t) : CoI l yL_addClause (.codeWith yL_addClause cL_addClause 5 (some .int) [(0, 10, 13, 13), (0, 10, 17, 15)]) 3 3 18 [.ref (a 0), .int p1, .int p2, .ref oa] (wXo a u b v c w oa f) (wXo a u b t.2.1 c w oa t.2.2) (.inl t.1) := mkH hst (by decide +kernel) (Nat.le_of_ble_eq_true rfl) (fun x _ o htab hI => b_L_addClause o htab a b c oa u v w f p1 p2 t hf (hI _ rfl))
set_option maxRecDepth 20000 in
set_option maxHeartbeats 2000000 in
theorem b_L_addComplement {x : Cx} (o : Ok x cL_addComplement 4 RL 3 2 12) (htab : (cxc x).exceptionTable.toList = tableOf [(0, 9, 12, 28), (0, 9, 15, 15)]) (a b c : Nat → Nat) (oa : Nat) (u v w : St) (f : Nat → Int64) (p1 : Int32) (t : Int32 × St × (Nat → Int64)) (hf : f_L_addComplement u v w f p1 = some t) (hret : RetI x cL_addComplement .int 2 12 (wXo a u b t.2.1 c w oa t.2.2 (cxT x)) t.1) : G x 4 0 0 (wXo a u b v c w oa f (cxT x)) [(0, .ref (a 0)), (1, .int p1), (2, .ref oa)] 0 [] := by
  unfold f_L_addComplement at hf
  refine g_aload_n o 2 rfl rfl dL_addComplement_0 ?_
  refine g_iconst o ic_0 dL_addComplement_1 ?_
  refine g_aload_n o 0 rfl rfl dL_addComplement_2 ?_
  refine g_iload_n o 1 rfl rfl dL_addComplement_3 ?_
  rcases bx_some hf with ⟨r4, z6, hr4, hf⟩ | ⟨E5, z6, hr4, hf⟩
  · refine k_X1_addComplement_Ln o hr4 m_433 (Nat.le_of_ble_eq_true rfl) (Nat.le_of_ble_eq_true rfl) ⟨(Nat.le_of_ble_eq_true rfl), (Nat.le_of_ble_eq_true rfl)⟩ dL_addComplement_4 ?_
    refine g_i2l o dL_addComplement_7 ?_
    refine L_ost o dL_addComplement_8 hf (fun hf => ?_)
    refine g_goto (tgt := 18) o rfl dL_addComplement_9 ?_
    refine g_iconst o ic_0 dL_addComplement_18 ?_
    cases Option.some.inj hf
    exact g_iret hret (Nat.le_of_ble_eq_true rfl) (Nat.le_of_ble_eq_true rfl) (vp_nar_int _) dL_addComplement_19
  · refine k_X1_addComplement_Lx o hr4 m_433 (Nat.le_of_ble_eq_true rfl) (Nat.le_of_ble_eq_true rfl) ⟨(Nat.le_of_ble_eq_true rfl), (Nat.le_of_ble_eq_true rfl)⟩ dL_addComplement_4 ?_
    by_cases hE : E5 = eIO
    · subst hE
      rw [if_pos rfl] at hf
      refine xw_catch o htab [] ⟨0, 9, 12, 28⟩ [⟨0, 9, 15, 15⟩] rfl (fun q hq => by cases hq) (by decide) (by decide) m_364 e_375 rfl (fun q9 => ?_)
      refine g_astore_n o [(3, .ref q9), (0, .ref (a 0)), (1, .int p1), (2, .ref oa)] (Nat.le_of_ble_eq_true rfl) rfl rfl dL_addComplement_12 ?_
      refine g_iconst o ic_1 dL_addComplement_13 ?_
      cases Option.some.inj hf
      exact g_iret hret (Nat.le_of_ble_eq_true rfl) (Nat.le_of_ble_eq_true rfl) (vp_nar_int _) dL_addComplement_14
    rw [if_neg hE] at hf
    by_cases hE : E5 = eIS
    · subst hE
      rw [if_pos rfl] at hf
      refine xw_catch o htab [⟨0, 9, 12, 28⟩] ⟨0, 9, 15, 15⟩ [] rfl (List.forall_mem_cons.mpr ⟨⟨by decide, eIO, m_364, nc_eIS_eIO⟩, (fun q hq => by cases hq)⟩) (by decide) (by decide) m_233 e_321 rfl (fun q9 => ?_)
      refine g_astore_n o [(3, .ref q9), (0, .ref (a 0)), (1, .int p1), (2, .ref oa)] (Nat.le_of_ble_eq_true rfl) rfl rfl dL_addComplement_15 ?_
      refine g_iconst o ic_2 dL_addComplement_16 ?_
      cases Option.some.inj hf
      exact g_iret hret (Nat.le_of_ble_eq_true rfl) (Nat.le_of_ble_eq_true rfl) (vp_nar_int _) dL_addComplement_17
    rw [if_neg hE] at hf
    cases hf
theorem c_L_addComplement (l : Launch) (hst : l.stackTraces = false) (a b c : Nat → Nat) (oa : Nat) (u v w : St) (f : Nat → Int64) (p1 : Int32) (t : Int32 × St × (Nat → Int64)) (hf : f_L_addComplement u v w f p1 = some t) : CoI l yL_addComplement (.codeWith yL_addComplement cL_addComplement 4 (some .int) [(0, 9, 12, 28), (0, 9, 15, 15)]) 3 2 12 [.ref (a 0), .int p1, .ref oa] (wXo a u b v c w oa f) (wXo a u b t.2.1 c w oa t.2.2) (.inl t.1) := mkH hst (by decide +kernel) (Nat.le_of_ble_eq_true rfl) (fun x _ o htab hI => b_L_addComplement o htab a b c oa u v w f p1 t hf (hI _ rfl))
set_option maxRecDepth 20000 in
set_option maxHeartbeats 2000000 in
theorem b_L_addConstraint {x : Cx} (o : Ok x cL_addConstraint 8 RL 3 6 36) (htab : (cxc x).exceptionTable.toList = tableOf [(0, 16, 19, 28), (0, 16, 23, 15)]) (a b c : Nat → Nat) (oa : Nat) (u v w : St) (f : Nat → Int64) (p1 : Int32) (p2 : Int32) (p3 : Int32) (p4 : Int32) (p5 : Int32) (t : Int32 × St × (Nat → Int64)) (hf : f_L_addConstraint u v w f p1 p2 p3 p4 p5 = some t) (hret : RetI x cL_addConstraint .int 6 36 (wXo a u b t.2.1 c w oa t.2.2 (cxT x)) t.1) : G x 8 0 0 (wXo a u b v c w oa f (cxT x)) [(0, .ref (a 0)), (1, .int p1), (2, .int p2), (3, .int p3), (4, .int p4), (5, .int p5), (6, .ref oa)] 0 [] := by
  unfold f_L_addConstraint at hf
  refine g_aload o 6 rfl dL_addConstraint_0 ?_
  refine g_iconst o ic_0 dL_addConstraint_2 ?_
  refine g_aload_n o 0 rfl rfl dL_addConstraint_3 ?_
  refine g_iload_n o 1 rfl rfl dL_addConstraint_4 ?_
  refine g_iload_n o 2 rfl rfl dL_addConstraint_5 ?_
  refine g_iload_n o 3 rfl rfl dL_addConstraint_6 ?_
  refine g_iload o 4 rfl dL_addConstraint_7 ?_
  refine g_iload o 5 rfl dL_addConstraint_9 ?_
  rcases bx_some hf with ⟨r4, z6, hr4, hf⟩ | ⟨E5, z6, hr4, hf⟩
  · refine k_X1_addConstraint_Ln o hr4 m_658 (Nat.le_of_ble_eq_true rfl) (Nat.le_of_ble_eq_true rfl) ⟨(Nat.le_of_ble_eq_true rfl), (Nat.le_of_ble_eq_true rfl)⟩ dL_addConstraint_11 ?_
    refine g_i2l o dL_addConstraint_14 ?_
    refine L_ost o dL_addConstraint_15 hf (fun hf => ?_)
    refine g_goto (tgt := 27) o rfl dL_addConstraint_16 ?_
    refine g_iconst o ic_0 dL_addConstraint_27 ?_
    cases Option.some.inj hf
    exact g_iret hret (Nat.le_of_ble_eq_true rfl) (Nat.le_of_ble_eq_true rfl) (vp_nar_int _) dL_addConstraint_28
  · refine k_X1_addConstraint_Lx o hr4 m_658 (Nat.le_of_ble_eq_true rfl) (Nat.le_of_ble_eq_true rfl) ⟨(Nat.le_of_ble_eq_true rfl), (Nat.le_of_ble_eq_true rfl)⟩ dL_addConstraint_11 ?_
    by_cases hE : E5 = eIO
    · subst hE
      rw [if_pos rfl] at hf
      refine xw_catch o htab [] ⟨0, 16, 19, 28⟩ [⟨0, 16, 23, 15⟩] rfl (fun q hq => by cases hq) (by decide) (by decide) m_364 e_375 rfl (fun q9 => ?_)
      refine g_astore o [(7, .ref q9), (0, .ref (a 0)), (1, .int p1), (2, .int p2), (3, .int p3), (4, .int p4), (5, .int p5), (6, .ref oa)] (Nat.le_of_ble_eq_true rfl) rfl dL_addConstraint_19 ?_
      refine g_iconst o ic_1 dL_addConstraint_21 ?_
      cases Option.some.inj hf
      exact g_iret hret (Nat.le_of_ble_eq_true rfl) (Nat.le_of_ble_eq_true rfl) (vp_nar_int _) dL_addConstraint_22
    rw [if_neg hE] at hf
    by_cases hE : E5 = eIS
    · subst hE
      rw [if_pos rfl] at hf
      refine xw_catch o htab [⟨0, 16, 19, 28⟩] ⟨0, 16, 23, 15⟩ [] rfl (List.forall_mem_cons.mpr ⟨⟨by decide, eIO, m_364, nc_eIS_eIO⟩, (fun q hq => by cases hq)⟩) (by decide) (by decide) m_233 e_321 rfl (fun q9 => ?_)
      refine g_astore o [(7, .ref q9), (0, .ref (a 0)), (1, .int p1), (2, .int p2), (3, .int p3), (4, .int p4), (5, .int p5), (6, .ref oa)] (Nat.le_of_ble_eq_true rfl) rfl dL_addConstraint_23 ?_
      refine g_iconst o ic_2 dL_addConstraint_25 ?_
      cases Option.some.inj hf
      exact g_iret hret (Nat.le_of_ble_eq_true rfl) (Nat.le_of_ble_eq_true rfl) (vp_nar_int _) dL_addConstraint_26
    rw [if_neg hE] at hf
    cases hf
theorem c_L_addConstraint (l : Launch) (hst : l.stackTraces = false) (a b c : Nat → Nat) (oa : Nat) (u v w : St) (f : Nat → Int64) (p1 : Int32) (p2 : Int32) (p3 : Int32) (p4 : Int32) (p5 : Int32) (t : Int32 × St × (Nat → Int64)) (hf : f_L_addConstraint u v w f p1 p2 p3 p4 p5 = some t) : CoI l yL_addConstraint (.codeWith yL_addConstraint cL_addConstraint 8 (some .int) [(0, 16, 19, 28), (0, 16, 23, 15)]) 3 6 36 [.ref (a 0), .int p1, .int p2, .int p3, .int p4, .int p5, .ref oa] (wXo a u b v c w oa f) (wXo a u b t.2.1 c w oa t.2.2) (.inl t.1) := mkH hst (by decide +kernel) (Nat.le_of_ble_eq_true rfl) (fun x _ o htab hI => b_L_addConstraint o htab a b c oa u v w f p1 p2 p3 p4 p5 t hf (hI _ rfl))
set_option maxRecDepth 20000 in
set_option maxHeartbeats 2000000 in
theorem b_L_addExchanged {x : Cx} (o : Ok x cL_addExchanged 6 RL 3 4 24) (htab : (cxc x).exceptionTable.toList = tableOf [(0, 12, 15, 28), (0, 12, 19, 15)]) (a b c : Nat → Nat) (oa : Nat) (u v w : St) (f : Nat → Int64) (p1 : Int32) (p2 : Int32) (p3 : Int32) (t : Int32 × St × (Nat → Int64)) (hf : f_L_addExchanged u v w f p1 p2 p3 = some t) (hret : RetI x cL_addExchanged .int 4 24 (wXo a u b t.2.1 c w oa t.2.2 (cxT x)) t.1) : G x 6 0 0 (wXo a u b v c w oa f (cxT x)) [(0, .ref (a 0)), (1, .int p1), (2, .int p2), (3, .int p3), (4, .ref oa)] 0 [] := by
  unfold f_L_addExchanged at hf
  refine g_aload o 4 rfl dL_addExchanged_0 ?_
  refine g_iconst o ic_0 dL_addExchanged_2 ?_
  refine g_aload_n o 0 rfl rfl dL_addExchanged_3 ?_
  refine g_iload_n o 1 rfl rfl dL_addExchanged_4 ?_
  refine g_iload_n o 2 rfl rfl dL_addExchanged_5 ?_
  refine g_iload_n o 3 rfl rfl dL_addExchanged_6 ?_
  rcases bx_some hf with ⟨r4, z6, hr4, hf⟩ | ⟨E5, z6, hr4, hf⟩
  · refine k_X1_addExchanged_Ln o hr4 m_464 (Nat.le_of_ble_eq_true rfl) (Nat.le_of_ble_eq_true rfl) ⟨(Nat.le_of_ble_eq_true rfl), (Nat.le_of_ble_eq_true rfl)⟩ dL_addExchanged_7 ?_
    refine g_i2l o dL_addExchanged_10 ?_
    refine L_ost o dL_addExchanged_11 hf (fun hf => ?_)
    refine g_goto (tgt := 23) o rfl dL_addExchanged_12 ?_
    refine g_iconst o ic_0 dL_addExchanged_23 ?_
    cases Option.some.inj hf
    exact g_iret hret (Nat.le_of_ble_eq_true rfl) (Nat.le_of_ble_eq_true rfl) (vp_nar_int _) dL_addExchanged_24
  · refine k_X1_addExchanged_Lx o hr4 m_464 (Nat.le_of_ble_eq_true rfl) (Nat.le_of_ble_eq_true rfl) ⟨(Nat.le_of_ble_eq_true rfl), (Nat.le_of_ble_eq_true rfl)⟩ dL_addExchanged_7 ?_
    by_cases hE : E5 = eIO
    · subst hE
      rw [if_pos rfl] at hf
      refine xw_catch o htab [] ⟨0, 12, 15, 28⟩ [⟨0, 12, 19, 15⟩] rfl (fun q hq => by cases hq) (by decide) (by decide) m_364 e_375 rfl (fun q9 => ?_)
      refine g_astore o [(5, .ref q9), (0, .ref (a 0)), (1, .int p1), (2, .int p2), (3, .int p3), (4, .ref oa)] (Nat.le_of_ble_eq_true rfl) rfl dL_addExchanged_15 ?_
      refine g_iconst o ic_1 dL_addExchanged_17 ?_
      cases Option.some.inj hf
      exact g_iret hret (Nat.le_of_ble_eq_true rfl) (Nat.le_of_ble_eq_true rfl) (vp_nar_int _) dL_addExchanged_18
    rw [if_neg hE] at hf
    by_cases hE : E5 = eIS
    · subst hE
      rw [if_pos rfl] at hf
      refine xw_catch o htab [⟨0, 12, 15, 28⟩] ⟨0, 12, 19, 15⟩ [] rfl (List.forall_mem_cons.mpr ⟨⟨by decide, eIO, m_364, nc_eIS_eIO⟩, (fun q hq => by cases hq)⟩) (by decide) (by decide) m_233 e_321 rfl (fun q9 => ?_)
      refine g_astore o [(5, .ref q9), (0, .ref (a 0)), (1, .int p1), (2, .int p2), (3, .int p3), (4, .ref oa)] (Nat.le_of_ble_eq_true rfl) rfl dL_addExchanged_19 ?_
      refine g_iconst o ic_2 dL_addExchanged_21 ?_
      cases Option.some.inj hf
      exact g_iret hret (Nat.le_of_ble_eq_true rfl) (Nat.le_of_ble_eq_true rfl) (vp_nar_int _) dL_addExchanged_22
    rw [if_neg hE] at hf
    cases hf
theorem c_L_addExchanged (l : Launch) (hst : l.stackTraces = false) (a b c : Nat → Nat) (oa : Nat) (u v w : St) (f : Nat → Int64) (p1 : Int32) (p2 : Int32) (p3 : Int32) (t : Int32 × St × (Nat → Int64)) (hf : f_L_addExchanged u v w f p1 p2 p3 = some t) : CoI l yL_addExchanged (.codeWith yL_addExchanged cL_addExchanged 6 (some .int) [(0, 12, 15, 28), (0, 12, 19, 15)]) 3 4 24 [.ref (a 0), .int p1, .int p2, .int p3, .ref oa] (wXo a u b v c w oa f) (wXo a u b t.2.1 c w oa t.2.2) (.inl t.1) := mkH hst (by decide +kernel) (Nat.le_of_ble_eq_true rfl) (fun x _ o htab hI => b_L_addExchanged o htab a b c oa u v w f p1 p2 p3 t hf (hI _ rfl))
set_option maxRecDepth 20000 in
set_option maxHeartbeats 2000000 in
theorem b_L_addIntersection {x : Cx} (o : Ok x cL_addIntersection 5 RL 3 4 24) (htab : (cxc x).exceptionTable.toList = tableOf [(0, 10, 13, 28), (0, 10, 17, 13), (0, 10, 21, 15)]) (a b c : Nat → Nat) (oa : Nat) (u v w : St) (f : Nat → Int64) (p1 : Int32) (p2 : Int32) (t : Int32 × St × (Nat → Int64)) (hf : f_L_addIntersection u v w f p1 p2 = some t) (hret : RetI x cL_addIntersection .int 4 24 (wXo a u b t.2.1 c w oa t.2.2 (cxT x)) t.1) : G x 5 0 0 (wXo a u b v c w oa f (cxT x)) [(0, .ref (a 0)), (1, .int p1), (2, .int p2), (3, .ref oa)] 0 [] := by
  unfold f_L_addIntersection at hf
  refine g_aload_n o 3 rfl rfl dL_addIntersection_0 ?_
  refine g_iconst o ic_0 dL_addIntersection_1 ?_
  refine g_aload_n o 0 rfl rfl dL_addIntersection_2 ?_
  refine g_iload_n o 1 rfl rfl dL_addIntersection_3 ?_
  refine g_iload_n o 2 rfl rfl dL_addIntersection_4 ?_
  rcases bx_some hf with ⟨r4, z6, hr4, hf⟩ | ⟨E5, z6, hr4, hf⟩
  · refine k_X1_addIntersection_Ln o hr4 m_440 (Nat.le_of_ble_eq_true rfl) (Nat.le_of_ble_eq_true rfl) ⟨(Nat.le_of_ble_eq_true rfl), (Nat.le_of_ble_eq_true rfl)⟩ dL_addIntersection_5 ?_
    refine g_i2l o dL_addIntersection_8 ?_
    refine L_ost o dL_addIntersection_9 hf (fun hf => ?_)
    refine g_goto (tgt := 25) o rfl dL_addIntersection_10 ?_
    refine g_iconst o ic_0 dL_addIntersection_25 ?_
    cases Option.some.inj hf
    exact g_iret hret (Nat.le_of_ble_eq_true rfl) (Nat.le_of_ble_eq_true rfl) (vp_nar_int _) dL_addIntersection_26
  · refine k_X1_addIntersection_Lx o hr4 m_440 (Nat.le_of_ble_eq_true rfl) (Nat.le_of_ble_eq_true rfl) ⟨(Nat.le_of_ble_eq_true rfl), (Nat.le_of_ble_eq_true rfl)⟩ dL_addIntersection_5 ?_
    by_cases hE : E5 = eIO
    · subst hE
      rw [if_pos rfl] at hf
      refine xw_catch o htab [] ⟨0, 10, 13, 28⟩ [⟨0, 10, 17, 13⟩, ⟨0, 10, 21, 15⟩] rfl (fun q hq => by cases hq) (by decide) (by decide) m_364 e_375 rfl (fun q9 => ?_)
      refine g_astore o [(4, .ref q9), (0, .ref (a 0)), (1, .int p1), (2, .int p2), (3, .ref oa)] (Nat.le_of_ble_eq_true rfl) rfl dL_addIntersection_13 ?_
      refine g_iconst o ic_1 dL_addIntersection_15 ?_
      cases Option.some.inj hf
      exact g_iret hret (Nat.le_of_ble_eq_true rfl) (Nat.le_of_ble_eq_true rfl) (vp_nar_int _) dL_addIntersection_16
    rw [if_neg hE] at hf
    by_cases hE : E5 = eIA
    · subst hE
      rw [if_pos rfl] at hf
      refine xw_catch o htab [⟨0, 10, 13, 28⟩] ⟨0, 10, 17, 13⟩ [⟨0, 10, 21, 15⟩] rfl (List.forall_mem_cons.mpr ⟨⟨by decide, eIO, m_364, nc_eIA_eIO⟩, (fun q hq => by cases hq)⟩) (by decide) (by decide) m_232 e_243 rfl (fun q9 => ?_)
      refine g_astore o [(4, .ref q9), (0, .ref (a 0)), (1, .int p1), (2, .int p2), (3, .ref oa)] (Nat.le_of_ble_eq_true rfl) rfl dL_addIntersection_17 ?_
      refine g_iconst o ic_2 dL_addIntersection_19 ?_
      cases Option.some.inj hf
      exact g_iret hret (Nat.le_of_ble_eq_true rfl) (Nat.le_of_ble_eq_true rfl) (vp_nar_int _) dL_addIntersection_20
    rw [if_neg hE] at hf
    by_cases hE : E5 = eIS
    · subst hE
      rw [if_pos rfl] at hf
      refine xw_catch o htab [⟨0, 10, 13, 28⟩, ⟨0, 10, 17, 13⟩] ⟨0, 10, 21, 15⟩ [] rfl (List.forall_mem_cons.mpr ⟨⟨by decide, eIO, m_364, nc_eIS_eIO⟩, (List.forall_mem_cons.mpr ⟨⟨by decide, eIA, m_232, nc_eIS_eIA⟩, (fun q hq => by cases hq)⟩)⟩) (by decide) (by decide) m_233 e_321 rfl (fun q9 => ?_)
      refine g_astore o [(4, .ref q9), (0, .ref (a 0)), (1, .int p1), (2, .int p2), (3, .ref oa)] (Nat.le_of_ble_eq_true rfl) rfl dL_addIntersection_21 ?_
      refine g_iconst o ic_3 dL_addIntersection_23 ?_
      cases Option.some.inj hf
      exact g_iret hret (Nat.le_of_ble_eq_true rfl) (Nat.le_of_ble_eq_true rfl) (vp_nar_int _) dL_addIntersection_24
    rw [if_neg hE] at hf
    cases hf
theorem c_L_addIntersection (l : Launch) (hst : l.stackTraces = false) (a b c : Nat → Nat) (oa : Nat) (u v w : St) (f : Nat → Int64) (p1 : Int32) (p2 : Int32) (t : Int32 × St × (Nat → Int64)) (hf : f_L_addIntersection u v w f p1 p2 = some t) : CoI l yL_addIntersection (.codeWith yL_addIntersection cL_addIntersection 5 (some .int) [(0, 10, 13, 28), (0, 10, 17, 13), (0, 10, 21, 15)]) 3 4 24 [.ref (a 0), .int p1, .int p2, .ref oa] (wXo a u b v c w oa f) (wXo a u b t.2.1 c w oa t.2.2) (.inl t.1) := mkH hst (by decide +kernel) (Nat.le_of_ble_eq_true rfl) (fun x _ o htab hI => b_L_addIntersection o htab a b c oa u v w f p1 p2 t hf (hI _ rfl))
set_option maxRecDepth 20000 in
set_option maxHeartbeats 2000000 in
theorem b_L_addParity {x : Cx} (o : Ok x cL_addParity 5 RL 3 3 18) (htab : (cxc x).exceptionTable.toList = tableOf [(0, 10, 13, 13), (0, 10, 17, 15)]) (a b c : Nat → Nat) (oa : Nat) (u v w : St) (f : Nat → Int64) (p1 : Int32) (p2 : Int32) (t : Int32 × St × (Nat → Int64)) (hf : f_L_addParity u v w f p1 p2 = some t) (hret : RetI x cL_addParity .int 3 18 (wXo a u b t.2.1 c w oa t.2.2 (cxT x)) t.1) : G x 5 0 0 (wXo a u b v c w oa f (cxT x)) [(0, .ref (a 0)), (1, .int p1), (2, .int p2), (3, .ref oa)] 0 [] := by
  unfold f_L_addParity at hf
  refine g_aload_n o 3 rfl rfl dL_addParity_0 ?_
  refine g_iconst o ic_0 dL_addParity_1 ?_
  refine g_aload_n o 0 rfl rfl dL_addParity_2 ?_
  refine g_iload_n o 1 rfl rfl dL_addParity_3 ?_
  refine g_iload_n o 2 rfl rfl dL_addParity_4 ?_
  rcases bx_some hf with ⟨r4, z6, hr4, hf⟩ | ⟨E5, z6, hr4, hf⟩
  · refine k_X1_addParity_Ln o hr4 m_350 (Nat.le_of_ble_eq_true rfl) (Nat.le_of_ble_eq_true rfl) ⟨(Nat.le_of_ble_eq_true rfl), (Nat.le_of_ble_eq_true rfl)⟩ dL_addParity_5 ?_
    refine g_i2l o dL_addParity_8 ?_
    refine L_ost o dL_addParity_9 hf (fun hf => ?_)
    refine g_goto (tgt := 21) o rfl dL_addParity_10 ?_
    refine g_iconst o ic_0 dL_addParity_21 ?_
    cases Option.some.inj hf
    exact g_iret hret (Nat.le_of_ble_eq_true rfl) (Nat.le_of_ble_eq_true rfl) (vp_nar_int _) dL_addParity_22
  · refine k_X1_addParity_Lx o hr4 m_350 (Nat.le_of_ble_eq_true rfl) (Nat.le_of_ble_eq_true rfl) ⟨(Nat.le_of_ble_eq_true rfl), (Nat.le_of_ble_eq_true rfl)⟩ dL_addParity_5 ?_
    by_cases hE : E5 = eIA
    · subst hE
      rw [if_pos rfl] at hf
      refine xw_catch o htab [] ⟨0, 10, 13, 13⟩ [⟨0, 10, 17, 15⟩] rfl (fun q hq => by cases hq) (by decide) (by decide) m_232 e_243 rfl (fun q9 => ?_)
      refine g_astore o [(4, .ref q9), (0, .ref (a 0)), (1, .int p1), (2, .int p2), (3, .ref oa)] (Nat.le_of_ble_eq_true rfl) rfl dL_addParity_13 ?_
      refine g_iconst o ic_1 dL_addParity_15 ?_
      cases Option.some.inj hf
      exact g_iret hret (Nat.le_of_ble_eq_true rfl) (Nat.le_of_ble_eq_true rfl) (vp_nar_int _) dL_addParity_16
    rw [if_neg hE] at hf
    by_cases hE : E5 = eIS
    · subst hE
      rw [if_pos rfl] at hf
      refine xw_catch o htab [⟨0, 10, 13, 13⟩] ⟨0, 10, 17, 15⟩ [] rfl (List.forall_mem_cons.mpr ⟨⟨by decide, eIA, m_232, nc_eIS_eIA⟩, (fun q hq => by cases hq)⟩) (by decide) (by decide) m_233 e_321 rfl (fun q9 => ?_)
      refine g_astore o [(4, .ref q9), (0, .ref (a 0)), (1, .int p1), (2, .int p2), (3, .ref oa)] (Nat.le_of_ble_eq_true rfl) rfl dL_addParity_17 ?_
      refine g_iconst o ic_2 dL_addParity_19 ?_
      cases Option.some.inj hf
      exact g_iret hret (Nat.le_of_ble_eq_true rfl) (Nat.le_of_ble_eq_true rfl) (vp_nar_int _) dL_addParity_20
    rw [if_neg hE] at hf
    cases hf
theorem c_L_addParity (l : Launch) (hst : l.stackTraces = false) (a b c : Nat → Nat) (oa : Nat) (u v w : St) (f : Nat → Int64) (p1 : Int32) (p2 : Int32) (t : Int32 × St × (Nat → Int64)) (hf : f_L_addParity u v w f p1 p2 = some t) : CoI l yL_addParity (.codeWith yL_addParity cL_addParity 5 (some .int) [(0, 10, 13, 13), (0, 10, 17, 15)]) 3 3 18 [.ref (a 0), .int p1, .int p2, .ref oa] (wXo a u b v c w oa f) (wXo a u b t.2.1 c w oa t.2.2) (.inl t.1) := mkH hst (by decide +kernel) (Nat.le_of_ble_eq_true rfl) (fun x _ o htab hI => b_L_addParity o htab a b c oa u v w f p1 p2 t hf (hI _ rfl))
set_option maxRecDepth 20000 in
set_option maxHeartbeats 2000000 in
theorem b_L_addProjection {x : Cx} (o : Ok x cL_addProjection 5 RL 3 4 24) (htab : (cxc x).exceptionTable.toList = tableOf [(0, 10, 13, 28), (0, 10, 17, 13), (0, 10, 21, 15)]) (a b c : Nat → Nat) (oa : Nat) (u v w : St) (f : Nat → Int64) (p1 : Int32) (p2 : Int32) (t : Int32 × St × (Nat → Int64)) (hf : f_L_addProjection u v w f p1 p2 = some t) (hret : RetI x cL_addProjection .int 4 24 (wXo a u b t.2.1 c w oa t.2.2 (cxT x)) t.1) : G x 5 0 0 (wXo a u b v c w oa f (cxT x)) [(0, .ref (a 0)), (1, .int p1), (2, .int p2), (3, .ref oa)] 0 [] := by
  unfold f_L_addProjection at hf
  refine g_aload_n o 3 rfl rfl dL_addProjection_0 ?_
  refine g_iconst o ic_0 dL_addProjection_1 ?_
  refine g_aload_n o 0 rfl rfl dL_addProjection_2 ?_
  refine g_iload_n o 1 rfl rfl dL_addProjection_3 ?_
  refine g_iload_n o 2 rfl rfl dL_addProjection_4 ?_
  rcases bx_some hf with ⟨r4, z6, hr4, hf⟩ | ⟨E5, z6, hr4, hf⟩
  · refine k_X1_addProjection_Ln o hr4 m_448 (Nat.le_of_ble_eq_true rfl) (Nat.le_of_ble_eq_true rfl) ⟨(Nat.le_of_ble_eq_true rfl), (Nat.le_of_ble_eq_true rfl)⟩ dL_addProjection_5 ?_
    refine g_i2l o dL_addProjection_8 ?_
    refine L_ost o dL_addProjection_9 hf (fun hf => ?_)
    refine g_goto (tgt := 25) o rfl dL_addProjection_10 ?_
    refine g_iconst o ic_0 dL_addProjection_25 ?_
    cases Option.some.inj hf
    exact g_iret hret (Nat.le_of_ble_eq_true rfl) (Nat.le_of_ble_eq_true rfl) (vp_nar_int _) dL_addProjection_26
  · refine k_X1_addProjection_Lx o hr4 m_448 (Nat.le_of_ble_eq_true rfl) (Nat.le_of_ble_eq_true rfl) ⟨(Nat.le_of_ble_eq_true rfl), (Nat.le_of_ble_eq_true rfl)⟩ dL_addProjection_5 ?_
    by_cases hE : E5 = eIO
    · subst hE
      rw [if_pos rfl] at hf
      refine xw_catch o htab [] ⟨0, 10, 13, 28⟩ [⟨0, 10, 17, 13⟩, ⟨0, 10, 21, 15⟩] rfl (fun q hq => by cases hq) (by decide) (by decide) m_364 e_375 rfl (fun q9 => ?_)
      refine g_astore o [(4, .ref q9), (0, .ref (a 0)), (1, .int p1), (2, .int p2), (3, .ref oa)] (Nat.le_of_ble_eq_true rfl) rfl dL_addProjection_13 ?_
      refine g_iconst o ic_1 dL_addProjection_15 ?_
      cases Option.some.inj hf
      exact g_iret hret (Nat.le_of_ble_eq_true rfl) (Nat.le_of_ble_eq_true rfl) (vp_nar_int _) dL_addProjection_16
    rw [if_neg hE] at hf
    by_cases hE : E5 = eIA
    · subst hE
      rw [if_pos rfl] at hf
      refine xw_catch o htab [⟨0, 10, 13, 28⟩] ⟨0, 10, 17, 13⟩ [⟨0, 10, 21, 15⟩] rfl (List.forall_mem_cons.mpr ⟨⟨by decide, eIO, m_364, nc_eIA_eIO⟩, (fun q hq => by cases hq)⟩) (by decide) (by decide) m_232 e_243 rfl (fun q9 => ?_)
      refine g_astore o [(4, .ref q9), (0, .ref (a 0)), (1, .int p1), (2, .int p2), (3, .ref oa)] (Nat.le_of_ble_eq_true rfl) rfl dL_addProjection_17 ?_
      refine g_iconst o ic_2 dL_addProjection_19 ?_
      cases Option.some.inj hf
      exact g_iret hret (Nat.le_of_ble_eq_true rfl) (Nat.le_of_ble_eq_true rfl) (vp_nar_int _) dL_addProjection_20
    rw [if_neg hE] at hf
    by_cases hE : E5 = eIS
    · subst hE
      rw [if_pos rfl] at hf
      refine xw_catch o htab [⟨0, 10, 13, 28⟩, ⟨0, 10, 17, 13⟩] ⟨0, 10, 21, 15⟩ [] rfl (List.forall_mem_cons.mpr ⟨⟨by decide, eIO, m_364, nc_eIS_eIO⟩, (List.forall_mem_cons.mpr ⟨⟨by decide, eIA, m_232, nc_eIS_eIA⟩, (fun q hq => by cases hq)⟩)⟩) (by decide) (by decide) m_233 e_321 rfl (fun q9 => ?_)
      refine g_astore o [(4, .ref q9), (0, .ref (a 0)), (1, .int p1), (2, .int p2), (3, .ref oa)] (Nat.le_of_ble_eq_true rfl) rfl dL_addProjection_21 ?_
      refine g_iconst o ic_3 dL_addProjection_23 ?_
      cases Option.some.inj hf
      exact g_iret hret (Nat.le_of_ble_eq_true rfl) (Nat.le_of_ble_eq_true rfl) (vp_nar_int _) dL_addProjection_24
    rw [if_neg hE] at hf
    cases hf
theorem c_L_addProjection (l : Launch) (hst : l.stackTraces = false) (a b c : Nat → Nat) (oa : Nat) (u v w : St) (f : Nat → Int64) (p1 : Int32) (p2 : Int32) (t : Int32 × St × (Nat → Int64)) (hf : f_L_addProjection u v w f p1 p2 = some t) : CoI l yL_addProjection (.codeWith yL_addProjection cL_addProjection 5 (some .int) [(0, 10, 13, 28), (0, 10, 17, 13), (0, 10, 21, 15)]) 3 4 24 [.ref (a 0), .int p1, .int p2, .ref oa] (wXo a u b v c w oa f) (wXo a u b t.2.1 c w oa t.2.2) (.inl t.1) := mkH hst (by decide +kernel) (Nat.le_of_ble_eq_true rfl) (fun x _ o htab hI => b_L_addProjection o htab a b c oa u v w f p1 p2 t hf (hI _ rfl))
set_option maxRecDepth 20000 in
set_option maxHeartbeats 2000000 in
theorem b_L_addRelation {x : Cx} (o : Ok x cL_addRelation 4 RL 3 2 12) (htab : (cxc x).exceptionTable.toList = tableOf [(0, 9, 12, 13), (0, 9, 15, 15)]) (a b c : Nat → Nat) (oa : Nat) (u v w : St) (f : Nat → Int64) (p1 : Int32) (t : Int32 × St × (Nat → Int64)) (hf : f_L_addRelation u v w f p1 = some t) (hret : RetI x cL_addRelation .int 2 12 (wXo a u b t.2.1 c w oa t.2.2 (cxT x)) t.1) : G x 4 0 0 (wXo a u b v c w oa f (cxT x)) [(0, .ref (a 0)), (1, .int p1), (2, .ref oa)] 0 [] := by
  unfold f_L_addRelation at hf
  refine g_aload_n o 2 rfl rfl dL_addRelation_0 ?_
  refine g_iconst o ic_0 dL_addRelation_1 ?_
  refine g_aload_n o 0 rfl rfl dL_addRelation_2 ?_
  refine g_iload_n o 1 rfl rfl dL_addRelation_3 ?_
  rcases bx_some hf with ⟨r4, z6, hr4, hf⟩ | ⟨E5, z6, hr4, hf⟩
  · refine k_X1_addRelation_Ln o hr4 m_234 (Nat.le_of_ble_eq_true rfl) (Nat.le_of_ble_eq_true rfl) ⟨(Nat.le_of_ble_eq_true rfl), (Nat.le_of_ble_eq_true rfl)⟩ dL_addRelation_4 ?_
    refine g_i2l o dL_addRelation_7 ?_
    refine L_ost o dL_addRelation_8 hf (fun hf => ?_)
    refine g_goto (tgt := 18) o rfl dL_addRelation_9 ?_
    refine g_iconst o ic_0 dL_addRelation_18 ?_
    cases Option.some.inj hf
    exact g_iret hret (Nat.le_of_ble_eq_true rfl) (Nat.le_of_ble_eq_true rfl) (vp_nar_int _) dL_addRelation_19
  · refine k_X1_addRelation_Lx o hr4 m_234 (Nat.le_of_ble_eq_true rfl) (Nat.le_of_ble_eq_true rfl) ⟨(Nat.le_of_ble_eq_true rfl), (Nat.le_of_ble_eq_true rfl)⟩ dL_addRelation_4 ?_
    by_cases hE : E5 = eIA
    · subst hE
      rw [if_pos rfl] at hf
      refine xw_catch o htab [] ⟨0, 9, 12, 13⟩ [⟨0, 9, 15, 15⟩] rfl (fun q hq => by cases hq) (by decide) (by decide) m_232 e_243 rfl (fun q9 => ?_)
      refine g_astore_n o [(3, .ref q9), (0, .ref (a 0)), (1, .int p1), (2, .ref oa)] (Nat.le_of_ble_eq_true rfl) rfl rfl dL_addRelation_12 ?_
      refine g_iconst o ic_1 dL_addRelation_13 ?_
      cases Option.some.inj hf
      exact g_iret hret (Nat.le_of_ble_eq_true rfl) (Nat.le_of_ble_eq_true rfl) (vp_nar_int _) dL_addRelation_14
    rw [if_neg hE] at hf
    by_cases hE : E5 = eIS
    · subst hE
      rw [if_pos rfl] at hf
      refine xw_catch o htab [⟨0, 9, 12, 13⟩] ⟨0, 9, 15, 15⟩ [] rfl (List.forall_mem_cons.mpr ⟨⟨by decide, eIA, m_232, nc_eIS_eIA⟩, (fun q hq => by cases hq)⟩) (by decide) (by decide) m_233 e_321 rfl (fun q9 => ?_)
      refine g_astore_n o [(3, .ref q9), (0, .ref (a 0)), (1, .int p1), (2, .ref oa)] (Nat.le_of_ble_eq_true rfl) rfl rfl dL_addRelation_15 ?_
      refine g_iconst o ic_2 dL_addRelation_16 ?_
      cases Option.some.inj hf
      exact g_iret hret (Nat.le_of_ble_eq_true rfl) (Nat.le_of_ble_eq_true rfl) (vp_nar_int _) dL_addRelation_17
    rw [if_neg hE] at hf
    cases hf
theorem c_L_addRelation (l : Launch) (hst : l.stackTraces = false) (a b c : Nat → Nat) (oa : Nat) (u v w : St) (f : Nat → Int64) (p1 : Int32) (t : Int32 × St × (Nat → Int64)) (hf : f_L_addRelation u v w f p1 = some t) : CoI l yL_addRelation (.codeWith yL_addRelation cL_addRelation 4 (some .int) [(0, 9, 12, 13), (0, 9, 15, 15)]) 3 2 12 [.ref (a 0), .int p1, .ref oa] (wXo a u b v c w oa f) (wXo a u b t.2.1 c w oa t.2.2) (.inl t.1) := mkH hst (by decide +kernel) (Nat.le_of_ble_eq_true rfl) (fun x _ o htab hI => b_L_addRelation o htab a b c oa u v w f p1 t hf (hI _ rfl))
set_option maxRecDepth 20000 in
set_option maxHeartbeats 2000000 in
theorem b_L_addTuple {x : Cx} (o : Ok x cL_addTuple 5 RL 3 2 12) (htab : (cxc x).exceptionTable.toList = tableOf [(0, 17, 20, 28), (0, 17, 24, 13)]) (a b c : Nat → Nat) (oa : Nat) (u v w : St) (f : Nat → Int64) (p1 : Int32) (p2 : Int32) (t : Int32 × St × (Nat → Int64)) (hf : f_L_addTuple u v w f p1 p2 = some t) (hret : RetI x cL_addTuple .int 2 12 (wXo a u b t.2.1 c w oa t.2.2 (cxT x)) t.1) : G x 5 0 0 (wXo a u b v c w oa f (cxT x)) [(0, .ref (a 0)), (1, .int p1), (2, .int p2), (3, .ref oa)] 0 [] := by
  unfold f_L_addTuple at hf
  refine g_aload_n o 3 rfl rfl dL_addTuple_0 ?_
  refine g_iconst o ic_0 dL_addTuple_1 ?_
  refine g_aload_n o 0 rfl rfl dL_addTuple_2 ?_
  refine g_iload_n o 1 rfl rfl dL_addTuple_3 ?_
  refine g_iload_n o 2 rfl rfl dL_addTuple_4 ?_
  rcases bx_some hf with ⟨r4, z6, hr4, hf⟩ | ⟨E5, z6, hr4, hf⟩
  · refine k_X1_addTuple_Ln o hr4 m_365 (Nat.le_of_ble_eq_true rfl) (Nat.le_of_ble_eq_true rfl) ⟨(Nat.le_of_ble_eq_true rfl), (Nat.le_of_ble_eq_true rfl)⟩ dL_addTuple_5 ?_
    refine g_if_eq (tgt := 15) o rfl dL_addTuple_8 hf (fun hc hf => ?_) (fun hc hf => ?_)
    · refine g_lconst o lc_0 dL_addTuple_15 ?_
      refine L_ost o dL_addTuple_16 hf (fun hf => ?_)
      refine g_goto (tgt := 28) o rfl dL_addTuple_17 ?_
      refine g_iconst o ic_0 dL_addTuple_28 ?_
      cases Option.some.inj hf
      exact g_iret hret (Nat.le_of_ble_eq_true rfl) (Nat.le_of_ble_eq_true rfl) (vp_nar_int _) dL_addTuple_29
    · refine g_lconst o lc_1 dL_addTuple_11 ?_
      refine g_goto (tgt := 16) o rfl dL_addTuple_12 ?_
      refine L_ost o dL_addTuple_16 hf (fun hf => ?_)
      refine g_goto (tgt := 28) o rfl dL_addTuple_17 ?_
      refine g_iconst o ic_0 dL_addTuple_28 ?_
      cases Option.some.inj hf
      exact g_iret hret (Nat.le_of_ble_eq_true rfl) (Nat.le_of_ble_eq_true rfl) (vp_nar_int _) dL_addTuple_29
  · refine k_X1_addTuple_Lx o hr4 m_365 (Nat.le_of_ble_eq_true rfl) (Nat.le_of_ble_eq_true rfl) ⟨(Nat.le_of_ble_eq_true rfl), (Nat.le_of_ble_eq_true rfl)⟩ dL_addTuple_5 ?_
    by_cases hE : E5 = eIO
    · subst hE
      rw [if_pos rfl] at hf
      refine xw_catch o htab [] ⟨0, 17, 20, 28⟩ [⟨0, 17, 24, 13⟩] rfl (fun q hq => by cases hq) (by decide) (by decide) m_364 e_375 rfl (fun q9 => ?_)
      refine g_astore o [(4, .ref q9), (0, .ref (a 0)), (1, .int p1), (2, .int p2), (3, .ref oa)] (Nat.le_of_ble_eq_true rfl) rfl dL_addTuple_20 ?_
      refine g_iconst o ic_1 dL_addTuple_22 ?_
      cases Option.some.inj hf
      exact g_iret hret (Nat.le_of_ble_eq_true rfl) (Nat.le_of_ble_eq_true rfl) (vp_nar_int _) dL_addTuple_23
    rw [if_neg hE] at hf
    by_cases hE : E5 = eIA
    · subst hE
      rw [if_pos rfl] at hf
      refine xw_catch o htab [⟨0, 17, 20, 28⟩] ⟨0, 17, 24, 13⟩ [] rfl (List.forall_mem_cons.mpr ⟨⟨by decide, eIO, m_364, nc_eIA_eIO⟩, (fun q hq => by cases hq)⟩) (by decide) (by decide) m_232 e_243 rfl (fun q9 => ?_)
      refine g_astore o [(4, .ref q9), (0, .ref (a 0)), (1, .int p1), (2, .int p2), (3, .ref oa)] (Nat.le_of_ble_eq_true rfl) rfl dL_addTuple_24 ?_
      refine g_iconst o ic_2 dL_addTuple_26 ?_
      cases Option.some.inj hf
      exact g_iret hret (Nat.le_of_ble_eq_true rfl) (Nat.le_of_ble_eq_true rfl) (vp_nar_int _) dL_addTuple_27
    rw [if_neg hE] at hf
    cases hf
theorem c_L_addTuple (l : Launch) (hst : l.stackTraces = false) (a b c : Nat → Nat) (oa : Nat) (u v w : St) (f : Nat → Int64) (p1 : Int32) (p2 : Int32) (t : Int32 × St × (Nat → Int64)) (hf : f_L_addTuple u v w f p1 p2 = some t) : CoI l yL_addTuple (.codeWith yL_addTuple cL_addTuple 5 (some .int) [(0, 17, 20, 28), (0, 17, 24, 13)]) 3 2 12 [.ref (a 0), .int p1, .int p2, .ref oa] (wXo a u b v c w oa f) (wXo a u b t.2.1 c w oa t.2.2) (.inl t.1) := mkH hst (by decide +kernel) (Nat.le_of_ble_eq_true rfl) (fun x _ o htab hI => b_L_addTuple o htab a b c oa u v w f p1 p2 t hf (hI _ rfl))
set_option maxRecDepth 20000 in
set_option maxHeartbeats 2000000 in
theorem b_L_append {x : Cx} (o : Ok x cL_append 4 RL 1 2 12) (htab : (cxc x).exceptionTable.toList = tableOf [(0, 9, 12, 13), (0, 9, 15, 15)]) (a b c : Nat → Nat) (oa : Nat) (u v w : St) (f : Nat → Int64) (p1 : Int32) (t : Int32 × St × (Nat → Int64)) (hf : f_L_append u v w f p1 = some t) (hret : RetI x cL_append .int 2 12 (wXo a t.2.1 b v c w oa t.2.2 (cxT x)) t.1) : G x 4 0 0 (wXo a u b v c w oa f (cxT x)) [(0, .ref (a 0)), (1, .int p1), (2, .ref oa)] 0 [] := by
  unfold f_L_append at hf
  refine g_aload_n o 2 rfl rfl dL_append_0 ?_
  refine g_iconst o ic_0 dL_append_1 ?_
  refine g_aload_n o 0 rfl rfl dL_append_2 ?_
  refine g_iload_n o 1 rfl rfl dL_append_3 ?_
  rcases bx_some hf with ⟨r4, z6, hr4, hf⟩ | ⟨E5, z6, hr4, hf⟩
  · refine k_X1_append_Ln o hr4 m_810 (Nat.le_of_ble_eq_true rfl) (Nat.le_of_ble_eq_true rfl) ⟨(Nat.le_of_ble_eq_true rfl), (Nat.le_of_ble_eq_true rfl)⟩ dL_append_4 ?_
    refine g_i2l o dL_append_7 ?_
    refine L_ost o dL_append_8 hf (fun hf => ?_)
    refine g_goto (tgt := 18) o rfl dL_append_9 ?_
    refine g_iconst o ic_0 dL_append_18 ?_
    cases Option.some.inj hf
    exact g_iret hret (Nat.le_of_ble_eq_true rfl) (Nat.le_of_ble_eq_true rfl) (vp_nar_int _) dL_append_19
  · refine k_X1_append_Lx o hr4 m_810 (Nat.le_of_ble_eq_true rfl) (Nat.le_of_ble_eq_true rfl) ⟨(Nat.le_of_ble_eq_true rfl), (Nat.le_of_ble_eq_true rfl)⟩ dL_append_4 ?_
    by_cases hE : E5 = eIA
    · subst hE
      rw [if_pos rfl] at hf
      refine xw_catch o htab [] ⟨0, 9, 12, 13⟩ [⟨0, 9, 15, 15⟩] rfl (fun q hq => by cases hq) (by decide) (by decide) m_232 e_243 rfl (fun q9 => ?_)
      refine g_astore_n o [(3, .ref q9), (0, .ref (a 0)), (1, .int p1), (2, .ref oa)] (Nat.le_of_ble_eq_true rfl) rfl rfl dL_append_12 ?_
      refine g_iconst o ic_1 dL_append_13 ?_
      cases Option.some.inj hf
      exact g_iret hret (Nat.le_of_ble_eq_true rfl) (Nat.le_of_ble_eq_true rfl) (vp_nar_int _) dL_append_14
    rw [if_neg hE] at hf
    by_cases hE : E5 = eIS
    · subst hE
      rw [if_pos rfl] at hf
      refine xw_catch o htab [⟨0, 9, 12, 13⟩] ⟨0, 9, 15, 15⟩ [] rfl (List.forall_mem_cons.mpr ⟨⟨by decide, eIA, m_232, nc_eIS_eIA⟩, (fun q hq => by cases hq)⟩) (by decide) (by decide) m_233 e_321 rfl (fun q9 => ?_)
      refine g_astore_n o [(3, .ref q9), (0, .ref (a 0)), (1, .int p1), (2, .ref oa)] (Nat.le_of_ble_eq_true rfl) rfl rfl dL_append_15 ?_
      refine g_iconst o ic_2 dL_append_16 ?_
      cases Option.some.inj hf
      exact g_iret hret (Nat.le_of_ble_eq_true rfl) (Nat.le_of_ble_eq_true rfl) (vp_nar_int _) dL_append_17
    rw [if_neg hE] at hf
    cases hf
theorem c_L_append (l : Launch) (hst : l.stackTraces = false) (a b c : Nat → Nat) (oa : Nat) (u v w : St) (f : Nat → Int64) (p1 : Int32) (t : Int32 × St × (Nat → Int64)) (hf : f_L_append u v w f p1 = some t) : CoI l yL_append (.codeWith yL_append cL_append 4 (some .int) [(0, 9, 12, 13), (0, 9, 15, 15)]) 1 2 12 [.ref (a 0), .int p1, .ref oa] (wXo a u b v c w oa f) (wXo a t.2.1 b v c w oa t.2.2) (.inl t.1) := mkH hst (by decide +kernel) (Nat.le_of_ble_eq_true rfl) (fun x _ o htab hI => b_L_append o htab a b c oa u v w f p1 t hf (hI _ rfl))
set_option maxRecDepth 20000 in
set_option maxHeartbeats 2000000 in
theorem b_L_apply {x : Cx} (o : Ok x cL_apply 8 RL 3 5 30) (htab : (cxc x).exceptionTable.toList = tableOf [(0, 16, 19, 13)]) (a b c : Nat → Nat) (oa : Nat) (u v w : St) (f : Nat → Int64) (p1 : Int32) (p2 : Int32) (p3 : Int32) (p4 : Int32) (p5 : Int32) (t : Int32 × (Nat → Int64)) (hf : f_L_apply u v w f p1 p2 p3 p4 p5 = some t) (hret : RetI x cL_apply .int 5 30 (wXo a u b v c w oa t.2 (cxT x)) t.1) : G x 8 0 0 (wXo a u b v c w oa f (cxT x)) [(0, .ref (a 0)), (1, .int p1), (2, .int p2), (3, .int p3), (4, .int p4), (5, .int p5), (6, .ref oa)] 0 [] := by
  unfold f_L_apply at hf
  refine g_aload o 6 rfl dL_apply_0 ?_
  refine g_iconst o ic_0 dL_apply_2 ?_
  refine g_aload_n o 0 rfl rfl dL_apply_3 ?_
  refine g_iload_n o 1 rfl rfl dL_apply_4 ?_
  refine g_iload_n o 2 rfl rfl dL_apply_5 ?_
  refine g_iload_n o 3 rfl rfl dL_apply_6 ?_
  refine g_iload o 4 rfl dL_apply_7 ?_
  refine g_iload o 5 rfl dL_apply_9 ?_
  rcases bz_some hf with ⟨r3, hr3, hf⟩ | ⟨E4, hr3, hf⟩
  · refine k_X1_apply_Ln o hr3 m_474 (Nat.le_of_ble_eq_true rfl) (Nat.le_of_ble_eq_true rfl) ⟨(Nat.le_of_ble_eq_true rfl), (Nat.le_of_ble_eq_true rfl)⟩ dL_apply_11 ?_
    refine g_i2l o dL_apply_14 ?_
    refine L_ost o dL_apply_15 hf (fun hf => ?_)
    refine g_goto (tgt := 23) o rfl dL_apply_16 ?_
    refine g_iconst o ic_0 dL_apply_23 ?_
    cases Option.some.inj hf
    exact g_iret hret (Nat.le_of_ble_eq_true rfl) (Nat.le_of_ble_eq_true rfl) (vp_nar_int _) dL_apply_24
  · refine k_X1_apply_Lx o hr3 m_474 (Nat.le_of_ble_eq_true rfl) (Nat.le_of_ble_eq_true rfl) ⟨(Nat.le_of_ble_eq_true rfl), (Nat.le_of_ble_eq_true rfl)⟩ dL_apply_11 ?_
    by_cases hE : E4 = eIA
    · subst hE
      rw [if_pos rfl] at hf
      refine xw_catch o htab [] ⟨0, 16, 19, 13⟩ [] rfl (fun q hq => by cases hq) (by decide) (by decide) m_232 e_243 rfl (fun q9 => ?_)
      refine g_astore o [(7, .ref q9), (0, .ref (a 0)), (1, .int p1), (2, .int p2), (3, .int p3), (4, .int p4), (5, .int p5), (6, .ref oa)] (Nat.le_of_ble_eq_true rfl) rfl dL_apply_19 ?_
      refine g_iconst o ic_1 dL_apply_21 ?_
      cases Option.some.inj hf
      exact g_iret hret (Nat.le_of_ble_eq_true rfl) (Nat.le_of_ble_eq_true rfl) (vp_nar_int _) dL_apply_22
    rw [if_neg hE] at hf
    cases hf
theorem c_L_apply (l : Launch) (hst : l.stackTraces = false) (a b c : Nat → Nat) (oa : Nat) (u v w : St) (f : Nat → Int64) (p1 : Int32) (p2 : Int32) (p3 : Int32) (p4 : Int32) (p5 : Int32) (t : Int32 × (Nat → Int64)) (hf : f_L_apply u v w f p1 p2 p3 p4 p5 = some t) : CoI l yL_apply (.codeWith yL_apply cL_apply 8 (some .int) [(0, 16, 19, 13)]) 3 5 30 [.ref (a 0), .int p1, .int p2, .int p3, .int p4, .int p5, .ref oa] (wXo a u b v c w oa f) (wXo a u b v c w oa t.2) (.inl t.1) := mkH hst (by decide +kernel) (Nat.le_of_ble_eq_true rfl) (fun x _ o htab hI => b_L_apply o htab a b c oa u v w f p1 p2 p3 p4 p5 t hf (hI _ rfl))
set_option maxRecDepth 20000 in
set_option maxHeartbeats 2000000 in
theorem b_L_areEqual {x : Cx} (o : Ok x cL_areEqual 5 RL 2 2 12) (htab : (cxc x).exceptionTable.toList = tableOf [(0, 17, 20, 28)]) (a b c : Nat → Nat) (oa : Nat) (u v w : St) (f : Nat → Int64) (p1 : Int32) (p2 : Int32) (t : Int32 × (Nat → Int64)) (hf : f_L_areEqual u v w f p1 p2 = some t) (hret : RetI x cL_areEqual .int 2 12 (wXo a u b v c w oa t.2 (cxT x)) t.1) : G x 5 0 0 (wXo a u b v c w oa f (cxT x)) [(0, .ref (a 0)), (1, .int p1), (2, .int p2), (3, .ref oa)] 0 [] := by
  unfold f_L_areEqual at hf
  refine g_aload_n o 3 rfl rfl dL_areEqual_0 ?_
  refine g_iconst o ic_0 dL_areEqual_1 ?_
  refine g_aload_n o 0 rfl rfl dL_areEqual_2 ?_
  refine g_iload_n o 1 rfl rfl dL_areEqual_3 ?_
  refine g_iload_n o 2 rfl rfl dL_areEqual_4 ?_
  rcases bz_some hf with ⟨r3, hr3, hf⟩ | ⟨E4, hr3, hf⟩
  · refine k_X1_areEqual_Ln o hr3 m_426 (Nat.le_of_ble_eq_true rfl) (Nat.le_of_ble_eq_true rfl) ⟨(Nat.le_of_ble_eq_true rfl), (Nat.le_of_ble_eq_true rfl)⟩ dL_areEqual_5 ?_
    refine g_if_eq (tgt := 15) o rfl dL_areEqual_8 hf (fun hc hf => ?_) (fun hc hf => ?_)
    · refine g_lconst o lc_0 dL_areEqual_15 ?_
      refine L_ost o dL_areEqual_16 hf (fun hf => ?_)
      refine g_goto (tgt := 24) o rfl dL_areEqual_17 ?_
      refine g_iconst o ic_0 dL_areEqual_24 ?_
      cases Option.some.inj hf
      exact g_iret hret (Nat.le_of_ble_eq_true rfl) (Nat.le_of_ble_eq_true rfl) (vp_nar_int _) dL_areEqual_25
    · refine g_lconst o lc_1 dL_areEqual_11 ?_
      refine g_goto (tgt := 16) o rfl dL_areEqual_12 ?_
      refine L_ost o dL_areEqual_16 hf (fun hf => ?_)
      refine g_goto (tgt := 24) o rfl dL_areEqual_17 ?_
      refine g_iconst o ic_0 dL_areEqual_24 ?_
      cases Option.some.inj hf
      exact g_iret hret (Nat.le_of_ble_eq_true rfl) (Nat.le_of_ble_eq_true rfl) (vp_nar_int _) dL_areEqual_25
  · refine k_X1_areEqual_Lx o hr3 m_426 (Nat.le_of_ble_eq_true rfl) (Nat.le_of_ble_eq_true rfl) ⟨(Nat.le_of_ble_eq_true rfl), (Nat.le_of_ble_eq_true rfl)⟩ dL_areEqual_5 ?_
    by_cases hE : E4 = eIO
    · subst hE
      rw [if_pos rfl] at hf
      refine xw_catch o htab [] ⟨0, 17, 20, 28⟩ [] rfl (fun q hq => by cases hq) (by decide) (by decide) m_364 e_375 rfl (fun q9 => ?_)
      refine g_astore o [(4, .ref q9), (0, .ref (a 0)), (1, .int p1), (2, .int p2), (3, .ref oa)] (Nat.le_of_ble_eq_true rfl) rfl dL_areEqual_20 ?_
      refine g_iconst o ic_1 dL_areEqual_22 ?_
      cases Option.some.inj hf
      exact g_iret hret (Nat.le_of_ble_eq_true rfl) (Nat.le_of_ble_eq_true rfl) (vp_nar_int _) dL_areEqual_23
    rw [if_neg hE] at hf
    cases hf
theorem c_L_areEqual (l : Launch) (hst : l.stackTraces = false) (a b c : Nat → Nat) (oa : Nat) (u v w : St) (f : Nat → Int64) (p1 : Int32) (p2 : Int32) (t : Int32 × (Nat → Int64)) (hf : f_L_areEqual u v w f p1 p2 = some t) : CoI l yL_areEqual (.codeWith yL_areEqual cL_areEqual 5 (some .int) [(0, 17, 20, 28)]) 2 2 12 [.ref (a 0), .int p1, .int p2, .ref oa] (wXo a u b v c w oa f) (wXo a u b v c w oa t.2) (.inl t.1) := mkH hst (by decide +kernel) (Nat.le_of_ble_eq_true rfl) (fun x _ o htab hI => b_L_areEqual o htab a b c oa u v w f p1 p2 t hf (hI _ rfl))
set_option maxRecDepth 20000 in
set_option maxHeartbeats 2000000 in
theorem b_L_arity {x : Cx} (o : Ok x cL_arity 4 RL 2 1 6) (htab : (cxc x).exceptionTable.toList = tableOf [(0, 9, 12, 28)]) (a b c : Nat → Nat) (oa : Nat) (u v w : St) (f : Nat → Int64) (p1 : Int32) (t : Int32 × (Nat → Int64)) (hf : f_L_arity u v w f p1 = some t) (hret : RetI x cL_arity .int 1 6 (wXo a u b v c w oa t.2 (cxT x)) t.1) : G x 4 0 0 (wXo a u b v c w oa f (cxT x)) [(0, .ref (a 0)), (1, .int p1), (2, .ref oa)] 0 [] := by
  unfold f_L_arity at hf
  refine g_aload_n o 2 rfl rfl dL_arity_0 ?_
  refine g_iconst o ic_0 dL_arity_1 ?_
  refine g_aload_n o 0 rfl rfl dL_arity_2 ?_
  refine g_iload_n o 1 rfl rfl dL_arity_3 ?_
  rcases bz_some hf with ⟨r3, hr3, hf⟩ | ⟨E4, hr3, hf⟩
  · refine k_X1_arity_Ln o hr3 m_419 (Nat.le_of_ble_eq_true rfl) (Nat.le_of_ble_eq_true rfl) ⟨(Nat.le_of_ble_eq_true rfl), (Nat.le_of_ble_eq_true rfl)⟩ dL_arity_4 ?_
    refine g_i2l o dL_arity_7 ?_
    refine L_ost o dL_arity_8 hf (fun hf => ?_)
    refine g_goto (tgt := 15) o rfl dL_arity_9 ?_
    refine g_iconst o ic_0 dL_arity_15 ?_
    cases Option.some.inj hf
    exact g_iret hret (Nat.le_of_ble_eq_true rfl) (Nat.le_of_ble_eq_true rfl) (vp_nar_int _) dL_arity_16
  · refine k_X1_arity_Lx o hr3 m_419 (Nat.le_of_ble_eq_true rfl) (Nat.le_of_ble_eq_true rfl) ⟨(Nat.le_of_ble_eq_true rfl), (Nat.le_of_ble_eq_true rfl)⟩ dL_arity_4 ?_
    by_cases hE : E4 = eIO
    · subst hE
      rw [if_pos rfl] at hf
      refine xw_catch o htab [] ⟨0, 9, 12, 28⟩ [] rfl (fun q hq => by cases hq) (by decide) (by decide) m_364 e_375 rfl (fun q9 => ?_)
      refine g_astore_n o [(3, .ref q9), (0, .ref (a 0)), (1, .int p1), (2, .ref oa)] (Nat.le_of_ble_eq_true rfl) rfl rfl dL_arity_12 ?_
      refine g_iconst o ic_1 dL_arity_13 ?_
      cases Option.some.inj hf
      exact g_iret hret (Nat.le_of_ble_eq_true rfl) (Nat.le_of_ble_eq_true rfl) (vp_nar_int _) dL_arity_14
    rw [if_neg hE] at hf
    cases hf
theorem c_L_arity (l : Launch) (hst : l.stackTraces = false) (a b c : Nat → Nat) (oa : Nat) (u v w : St) (f : Nat → Int64) (p1 : Int32) (t : Int32 × (Nat → Int64)) (hf : f_L_arity u v w f p1 = some t) : CoI l yL_arity (.codeWith yL_arity cL_arity 4 (some .int) [(0, 9, 12, 28)]) 2 1 6 [.ref (a 0), .int p1, .ref oa] (wXo a u b v c w oa f) (wXo a u b v c w oa t.2) (.inl t.1) := mkH hst (by decide +kernel) (Nat.le_of_ble_eq_true rfl) (fun x _ o htab hI => b_L_arity o htab a b c oa u v w f p1 t hf (hI _ rfl))
set_option maxRecDepth 20000 in
set_option maxHeartbeats 2000000 in
theorem b_L_close {x : Cx} (o : Ok x cL_close 6 RL 3 3 18) (htab : (cxc x).exceptionTable.toList = tableOf [(0, 12, 15, 28), (0, 12, 19, 13)]) (a b c : Nat → Nat) (oa : Nat) (u v w : St) (f : Nat → Int64) (p1 : Int32) (p2 : Int32) (p3 : Int32) (t : Int32 × St × (Nat → Int64)) (hf : f_L_close u v w f p1 p2 p3 = some t) (hret : RetI x cL_close .int 3 18 (wXo a u b t.2.1 c w oa t.2.2 (cxT x)) t.1) : G x 6 0 0 (wXo a u b v c w oa f (cxT x)) [(0, .ref (a 0)), (1, .int p1), (2, .int p2), (3, .int p3), (4, .ref oa)] 0 [] := by
  unfold f_L_close at hf
  refine g_aload o 4 rfl dL_close_0 ?_
  refine g_iconst o ic_0 dL_close_2 ?_
  refine g_aload_n o 0 rfl rfl dL_close_3 ?_
  refine g_iload_n o 1 rfl rfl dL_close_4 ?_
  refine g_iload_n o 2 rfl rfl dL_close_5 ?_
  refine g_iload_n o 3 rfl rfl dL_close_6 ?_
  rcases bx_some hf with ⟨r4, z6, hr4, hf⟩ | ⟨E5, z6, hr4, hf⟩
  · refine k_X1_close_Ln o hr4 m_586 (Nat.le_of_ble_eq_true rfl) (Nat.le_of_ble_eq_true rfl) ⟨(Nat.le_of_ble_eq_true rfl), (Nat.le_of_ble_eq_true rfl)⟩ dL_close_7 ?_
    refine g_i2l o dL_close_10 ?_
    refine L_ost o dL_close_11 hf (fun hf => ?_)
    refine g_goto (tgt := 23) o rfl dL_close_12 ?_
    refine g_iconst o ic_0 dL_close_23 ?_
    cases Option.some.inj hf
    exact g_iret hret (Nat.le_of_ble_eq_true rfl) (Nat.le_of_ble_eq_true rfl) (vp_nar_int _) dL_close_24
  · refine k_X1_close_Lx o hr4 m_586 (Nat.le_of_ble_eq_true rfl) (Nat.le_of_ble_eq_true rfl) ⟨(Nat.le_of_ble_eq_true rfl), (Nat.le_of_ble_eq_true rfl)⟩ dL_close_7 ?_
    by_cases hE : E5 = eIO
    · subst hE
      rw [if_pos rfl] at hf
      refine xw_catch o htab [] ⟨0, 12, 15, 28⟩ [⟨0, 12, 19, 13⟩] rfl (fun q hq => by cases hq) (by decide) (by decide) m_364 e_375 rfl (fun q9 => ?_)
      refine g_astore o [(5, .ref q9), (0, .ref (a 0)), (1, .int p1), (2, .int p2), (3, .int p3), (4, .ref oa)] (Nat.le_of_ble_eq_true rfl) rfl dL_close_15 ?_
      refine g_iconst o ic_1 dL_close_17 ?_
      cases Option.some.inj hf
      exact g_iret hret (Nat.le_of_ble_eq_true rfl) (Nat.le_of_ble_eq_true rfl) (vp_nar_int _) dL_close_18
    rw [if_neg hE] at hf
    by_cases hE : E5 = eIA
    · subst hE
      rw [if_pos rfl] at hf
      refine xw_catch o htab [⟨0, 12, 15, 28⟩] ⟨0, 12, 19, 13⟩ [] rfl (List.forall_mem_cons.mpr ⟨⟨by decide, eIO, m_364, nc_eIA_eIO⟩, (fun q hq => by cases hq)⟩) (by decide) (by decide) m_232 e_243 rfl (fun q9 => ?_)
      refine g_astore o [(5, .ref q9), (0, .ref (a 0)), (1, .int p1), (2, .int p2), (3, .int p3), (4, .ref oa)] (Nat.le_of_ble_eq_true rfl) rfl dL_close_19 ?_
      refine g_iconst o ic_2 dL_close_21 ?_
      cases Option.some.inj hf
      exact g_iret hret (Nat.le_of_ble_eq_true rfl) (Nat.le_of_ble_eq_true rfl) (vp_nar_int _) dL_close_22
    rw [if_neg hE] at hf
    cases hf
theorem c_L_close (l : Launch) (hst : l.stackTraces = false) (a b c : Nat → Nat) (oa : Nat) (u v w : St) (f : Nat → Int64) (p1 : Int32) (p2 : Int32) (p3 : Int32) (t : Int32 × St × (Nat → Int64)) (hf : f_L_close u v w f p1 p2 p3 = some t) : CoI l yL_close (.codeWith yL_close cL_close 6 (some .int) [(0, 12, 15, 28), (0, 12, 19, 13)]) 3 3 18 [.ref (a 0), .int p1, .int p2, .int p3, .ref oa] (wXo a u b v c w oa f) (wXo a u b t.2.1 c w oa t.2.2) (.inl t.1) := mkH hst (by decide +kernel) (Nat.le_of_ble_eq_true rfl) (fun x _ o htab hI => b_L_close o htab a b c oa u v w f p1 p2 p3 t hf (hI _ rfl))
set_option maxRecDepth 20000 in
set_option maxHeartbeats 2000000 in
theorem b_L_compose {x : Cx} (o : Ok x cL_compose 6 RL 3 3 18) (htab : (cxc x).exceptionTable.toList = tableOf [(0, 12, 15, 13)]) (a b c : Nat → Nat) (oa : Nat) (u v w : St) (f : Nat → Int64) (p1 : Int32) (p2 : Int32) (p3 : Int32) (t : Int32 × (Nat → Int64)) (hf : f_L_compose u v w f p1 p2 p3 = some t) (hret : RetI x cL_compose .int 3 18 (wXo a u b v c w oa t.2 (cxT x)) t.1) : G x 6 0 0 (wXo a u b v c w oa f (cxT x)) [(0, .ref (a 0)), (1, .int p1), (2, .int p2), (3, .int p3), (4, .ref oa)] 0 [] := by
  unfold f_L_compose at hf
  refine g_aload o 4 rfl dL_compose_0 ?_
  refine g_iconst o ic_0 dL_compose_2 ?_
  refine g_aload_n o 0 rfl rfl dL_compose_3 ?_
  refine g_iload_n o 1 rfl rfl dL_compose_4 ?_
  refine g_iload_n o 2 rfl rfl dL_compose_5 ?_
  refine g_iload_n o 3 rfl rfl dL_compose_6 ?_
  rcases bz_some hf with ⟨r3, hr3, hf⟩ | ⟨E4, hr3, hf⟩
  · refine k_X1_compose_Ln o hr3 m_608 (Nat.le_of_ble_eq_true rfl) (Nat.le_of_ble_eq_true rfl) ⟨(Nat.le_of_ble_eq_true rfl), (Nat.le_of_ble_eq_true rfl)⟩ dL_compose_7 ?_
    refine g_i2l o dL_compose_10 ?_
    refine L_ost o dL_compose_11 hf (fun hf => ?_)
    refine g_goto (tgt := 19) o rfl dL_compose_12 ?_
    refine g_iconst o ic_0 dL_compose_19 ?_
    cases Option.some.inj hf
    exact g_iret hret (Nat.le_of_ble_eq_true rfl) (Nat.le_of_ble_eq_true rfl) (vp_nar_int _) dL_compose_20
  · refine k_X1_compose_Lx o hr3 m_608 (Nat.le_of_ble_eq_true rfl) (Nat.le_of_ble_eq_true rfl) ⟨(Nat.le_of_ble_eq_true rfl), (Nat.le_of_ble_eq_true rfl)⟩ dL_compose_7 ?_
    by_cases hE : E4 = eIA
    · subst hE
      rw [if_pos rfl] at hf
      refine xw_catch o htab [] ⟨0, 12, 15, 13⟩ [] rfl (fun q hq => by cases hq) (by decide) (by decide) m_232 e_243 rfl (fun q9 => ?_)
      refine g_astore o [(5, .ref q9), (0, .ref (a 0)), (1, .int p1), (2, .int p2), (3, .int p3), (4, .ref oa)] (Nat.le_of_ble_eq_true rfl) rfl dL_compose_15 ?_
      refine g_iconst o ic_1 dL_compose_17 ?_
      cases Option.some.inj hf
      exact g_iret hret (Nat.le_of_ble_eq_true rfl) (Nat.le_of_ble_eq_true rfl) (vp_nar_int _) dL_compose_18
    rw [if_neg hE] at hf
    cases hf
theorem c_L_compose (l : Launch) (hst : l.stackTraces = false) (a b c : Nat → Nat) (oa : Nat) (u v w : St) (f : Nat → Int64) (p1 : Int32) (p2 : Int32) (p3 : Int32) (t : Int32 × (Nat → Int64)) (hf : f_L_compose u v w f p1 p2 p3 = some t) : CoI l yL_compose (.codeWith yL_compose cL_compose 6 (some .int) [(0, 12, 15, 13)]) 3 3 18 [.ref (a 0), .int p1, .int p2, .int p3, .ref oa] (wXo a u b v c w oa f) (wXo a u b v c w oa t.2) (.inl t.1) := mkH hst (by decide +kernel) (Nat.le_of_ble_eq_true rfl) (fun x _ o htab hI => b_L_compose o htab a b c oa u v w f p1 p2 p3 t hf (hI _ rfl))
set_option maxRecDepth 20000 in
set_option maxHeartbeats 2000000 in
theorem b_L_contains {x : Cx} (o : Ok x cL_contains 5 RL 3 2 12) (htab : (cxc x).exceptionTable.toList = tableOf [(0, 17, 20, 28), (0, 17, 24, 13)]) (a b c : Nat → Nat) (oa : Nat) (u v w : St) (f : Nat → Int64) (p1 : Int32) (p2 : Int32) (t : Int32 × (Nat → Int64)) (hf : f_L_contains u v w f p1 p2 = some t) (hret : RetI x cL_contains .int 2 12 (wXo a u b v c w oa t.2 (cxT x)) t.1) : G x 5 0 0 (wXo a u b v c w oa f (cxT x)) [(0, .ref (a 0)), (1, .int p1), (2, .int p2), (3, .ref oa)] 0 [] := by
  unfold f_L_contains at hf
  refine g_aload_n o 3 rfl rfl dL_contains_0 ?_
  refine g_iconst o ic_0 dL_contains_1 ?_
  refine g_aload_n o 0 rfl rfl dL_contains_2 ?_
  refine g_iload_n o 1 rfl rfl dL_contains_3 ?_
  refine g_iload_n o 2 rfl rfl dL_contains_4 ?_
  rcases bz_some hf with ⟨r3, hr3, hf⟩ | ⟨E4, hr3, hf⟩
  · refine k_X1_contains_Ln o hr3 m_405 (Nat.le_of_ble_eq_true rfl) (Nat.le_of_ble_eq_true rfl) ⟨(Nat.le_of_ble_eq_true rfl), (Nat.le_of_ble_eq_true rfl)⟩ dL_contains_5 ?_
    refine g_if_eq (tgt := 15) o rfl dL_contains_8 hf (fun hc hf => ?_) (fun hc hf => ?_)
    · refine g_lconst o lc_0 dL_contains_15 ?_
      refine L_ost o dL_contains_16 hf (fun hf => ?_)
      refine g_goto (tgt := 28) o rfl dL_contains_17 ?_
      refine g_iconst o ic_0 dL_contains_28 ?_
      cases Option.some.inj hf
      exact g_iret hret (Nat.le_of_ble_eq_true rfl) (Nat.le_of_ble_eq_true rfl) (vp_nar_int _) dL_contains_29
    · refine g_lconst o lc_1 dL_contains_11 ?_
      refine g_goto (tgt := 16) o rfl dL_contains_12 ?_
      refine L_ost o dL_contains_16 hf (fun hf => ?_)
      refine g_goto (tgt := 28) o rfl dL_contains_17 ?_
      refine g_iconst o ic_0 dL_contains_28 ?_
      cases Option.some.inj hf
      exact g_iret hret (Nat.le_of_ble_eq_true rfl) (Nat.le_of_ble_eq_true rfl) (vp_nar_int _) dL_contains_29
  · refine k_X1_contains_Lx o hr3 m_405 (Nat.le_of_ble_eq_true rfl) (Nat.le_of_ble_eq_true rfl) ⟨(Nat.le_of_ble_eq_true rfl), (Nat.le_of_ble_eq_true rfl)⟩ dL_contains_5 ?_
    by_cases hE : E4 = eIO
    · subst hE
      rw [if_pos rfl] at hf
      refine xw_catch o htab [] ⟨0, 17, 20, 28⟩ [⟨0, 17, 24, 13⟩] rfl (fun q hq => by cases hq) (by decide) (by decide) m_364 e_375 rfl (fun q9 => ?_)
      refine g_astore o [(4, .ref q9), (0, .ref (a 0)), (1, .int p1), (2, .int p2), (3, .ref oa)] (Nat.le_of_ble_eq_true rfl) rfl dL_contains_20 ?_
      refine g_iconst o ic_1 dL_contains_22 ?_
      cases Option.some.inj hf
      exact g_iret hret (Nat.le_of_ble_eq_true rfl) (Nat.le_of_ble_eq_true rfl) (vp_nar_int _) dL_contains_23
    rw [if_neg hE] at hf
    by_cases hE : E4 = eIA
    · subst hE
      rw [if_pos rfl] at hf
      refine xw_catch o htab [⟨0, 17, 20, 28⟩] ⟨0, 17, 24, 13⟩ [] rfl (List.forall_mem_cons.mpr ⟨⟨by decide, eIO, m_364, nc_eIA_eIO⟩, (fun q hq => by cases hq)⟩) (by decide) (by decide) m_232 e_243 rfl (fun q9 => ?_)
      refine g_astore o [(4, .ref q9), (0, .ref (a 0)), (1, .int p1), (2, .int p2), (3, .ref oa)] (Nat.le_of_ble_eq_true rfl) rfl dL_contains_24 ?_
      refine g_iconst o ic_2 dL_contains_26 ?_
      cases Option.some.inj hf
      exact g_iret hret (Nat.le_of_ble_eq_true rfl) (Nat.le_of_ble_eq_true rfl) (vp_nar_int _) dL_contains_27
    rw [if_neg hE] at hf
    cases hf
theorem c_L_contains (l : Launch) (hst : l.stackTraces = false) (a b c : Nat → Nat) (oa : Nat) (u v w : St) (f : Nat → Int64) (p1 : Int32) (p2 : Int32) (t : Int32 × (Nat → Int64)) (hf : f_L_contains u v w f p1 p2 = some t) : CoI l yL_contains (.codeWith yL_contains cL_contains 5 (some .int) [(0, 17, 20, 28), (0, 17, 24, 13)]) 3 2 12 [.ref (a 0), .int p1, .int p2, .ref oa] (wXo a u b v c w oa f) (wXo a u b v c w oa t.2) (.inl t.1) := mkH hst (by decide +kernel) (Nat.le_of_ble_eq_true rfl) (fun x _ o htab hI => b_L_contains o htab a b c oa u v w f p1 p2 t hf (hI _ rfl))
set_option maxRecDepth 20000 in
set_option maxHeartbeats 2000000 in
theorem b_L_define {x : Cx} (o : Ok x cL_define 8 RL 15 6 36) (htab : (cxc x).exceptionTable.toList = tableOf [(0, 16, 19, 13), (0, 16, 23, 28), (0, 16, 27, 15)]) (a b c : Nat → Nat) (oa : Nat) (u v w : St) (f : Nat → Int64) (p1 : Int32) (p2 : Int32) (p3 : Int32) (p4 : Int32) (p5 : Int32) (t : Int32 × St × (Nat → Int64)) (hf : f_L_define u v w f p1 p2 p3 p4 p5 = some t) (hret : RetI x cL_define .int 6 36 (wXo a u b t.2.1 c w oa t.2.2 (cxT x)) t.1) : G x 8 0 0 (wXo a u b v c w oa f (cxT x)) [(0, .ref (a 0)), (1, .int p1), (2, .int p2), (3, .int p3), (4, .int p4), (5, .int p5), (6, .ref oa)] 0 [] := by
  unfold f_L_define at hf
  refine g_aload o 6 rfl dL_define_0 ?_
  refine g_iconst o ic_0 dL_define_2 ?_
  refine g_aload_n o 0 rfl rfl dL_define_3 ?_
  refine g_iload_n o 1 rfl rfl dL_define_4 ?_
  refine g_iload_n o 2 rfl rfl dL_define_5 ?_
  refine g_iload_n o 3 rfl rfl dL_define_6 ?_
  refine g_iload o 4 rfl dL_define_7 ?_
  refine g_iload o 5 rfl dL_define_9 ?_
  rcases bx_some hf with ⟨r4, z6, hr4, hf⟩ | ⟨E5, z6, hr4, hf⟩
  · refine k_X1_define_Ln o hr4 m_777 (Nat.le_of_ble_eq_true rfl) (Nat.le_of_ble_eq_true rfl) ⟨(Nat.le_of_ble_eq_true rfl), (Nat.le_of_ble_eq_true rfl)⟩ dL_define_11 ?_
    refine g_i2l o dL_define_14 ?_
    refine L_ost o dL_define_15 hf (fun hf => ?_)
    refine g_goto (tgt := 31) o rfl dL_define_16 ?_
    refine g_iconst o ic_0 dL_define_31 ?_
    cases Option.some.inj hf
    exact g_iret hret (Nat.le_of_ble_eq_true rfl) (Nat.le_of_ble_eq_true rfl) (vp_nar_int _) dL_define_32
  · refine k_X1_define_Lx o hr4 m_777 (Nat.le_of_ble_eq_true rfl) (Nat.le_of_ble_eq_true rfl) ⟨(Nat.le_of_ble_eq_true rfl), (Nat.le_of_ble_eq_true rfl)⟩ dL_define_11 ?_
    by_cases hE : E5 = eIA
    · subst hE
      rw [if_pos rfl] at hf
      refine xw_catch o htab [] ⟨0, 16, 19, 13⟩ [⟨0, 16, 23, 28⟩, ⟨0, 16, 27, 15⟩] rfl (fun q hq => by cases hq) (by decide) (by decide) m_232 e_243 rfl (fun q9 => ?_)
      refine g_astore o [(7, .ref q9), (0, .ref (a 0)), (1, .int p1), (2, .int p2), (3, .int p3), (4, .int p4), (5, .int p5), (6, .ref oa)] (Nat.le_of_ble_eq_true rfl) rfl dL_define_19 ?_
      refine g_iconst o ic_1 dL_define_21 ?_
      cases Option.some.inj hf
      exact g_iret hret (Nat.le_of_ble_eq_true rfl) (Nat.le_of_ble_eq_true rfl) (vp_nar_int _) dL_define_22
    rw [if_neg hE] at hf
    by_cases hE : E5 = eIO
    · subst hE
      rw [if_pos rfl] at hf
      refine xw_catch o htab [⟨0, 16, 19, 13⟩] ⟨0, 16, 23, 28⟩ [⟨0, 16, 27, 15⟩] rfl (List.forall_mem_cons.mpr ⟨⟨by decide, eIA, m_232, nc_eIO_eIA⟩, (fun q hq => by cases hq)⟩) (by decide) (by decide) m_364 e_375 rfl (fun q9 => ?_)
      refine g_astore o [(7, .ref q9), (0, .ref (a 0)), (1, .int p1), (2, .int p2), (3, .int p3), (4, .int p4), (5, .int p5), (6, .ref oa)] (Nat.le_of_ble_eq_true rfl) rfl dL_define_23 ?_
      refine g_iconst o ic_2 dL_define_25 ?_
      cases Option.some.inj hf
      exact g_iret hret (Nat.le_of_ble_eq_true rfl) (Nat.le_of_ble_eq_true rfl) (vp_nar_int _) dL_define_26
    rw [if_neg hE] at hf
    by_cases hE : E5 = eIS
    · subst hE
      rw [if_pos rfl] at hf
      refine xw_catch o htab [⟨0, 16, 19, 13⟩, ⟨0, 16, 23, 28⟩] ⟨0, 16, 27, 15⟩ [] rfl (List.forall_mem_cons.mpr ⟨⟨by decide, eIA, m_232, nc_eIS_eIA⟩, (List.forall_mem_cons.mpr ⟨⟨by decide, eIO, m_364, nc_eIS_eIO⟩, (fun q hq => by cases hq)⟩)⟩) (by decide) (by decide) m_233 e_321 rfl (fun q9 => ?_)
      refine g_astore o [(7, .ref q9), (0, .ref (a 0)), (1, .int p1), (2, .int p2), (3, .int p3), (4, .int p4), (5, .int p5), (6, .ref oa)] (Nat.le_of_ble_eq_true rfl) rfl dL_define_27 ?_
      refine g_iconst o ic_3 dL_define_29 ?_
      cases Option.some.inj hf
      exact g_iret hret (Nat.le_of_ble_eq_true rfl) (Nat.le_of_ble_eq_true rfl) (vp_nar_int _) dL_define_30
    rw [if_neg hE] at hf
    cases hf
theorem c_L_define (l : Launch) (hst : l.stackTraces = false) (a b c : Nat → Nat) (oa : Nat) (u v w : St) (f : Nat → Int64) (p1 : Int32) (p2 : Int32) (p3 : Int32) (p4 : Int32) (p5 : Int32) (t : Int32 × St × (Nat → Int64)) (hf : f_L_define u v w f p1 p2 p3 p4 p5 = some t) : CoI l yL_define (.codeWith yL_define cL_define 8 (some .int) [(0, 16, 19, 13), (0, 16, 23, 28), (0, 16, 27, 15)]) 15 6 36 [.ref (a 0), .int p1, .int p2, .int p3, .int p4, .int p5, .ref oa] (wXo a u b v c w oa f) (wXo a u b t.2.1 c w oa t.2.2) (.inl t.1) := mkH hst (by decide +kernel) (Nat.le_of_ble_eq_true rfl) (fun x _ o htab hI => b_L_define o htab a b c oa u v w f p1 p2 p3 p4 p5 t hf (hI _ rfl))
set_option maxRecDepth 20000 in
set_option maxHeartbeats 2000000 in
theorem b_L_dependsOn {x : Cx} (o : Ok x cL_dependsOn 6 RL 4 3 18) (htab : (cxc x).exceptionTable.toList = tableOf [(0, 19, 22, 13), (0, 19, 26, 28)]) (a b c : Nat → Nat) (oa : Nat) (u v w : St) (f : Nat → Int64) (p1 : Int32) (p2 : Int32) (p3 : Int32) (t : Int32 × (Nat → Int64)) (hf : f_L_dependsOn u v w f p1 p2 p3 = some t) (hret : RetI x cL_dependsOn .int 3 18 (wXo a u b v c w oa t.2 (cxT x)) t.1) : G x 6 0 0 (wXo a u b v c w oa f (cxT x)) [(0, .ref (a 0)), (1, .int p1), (2, .int p2), (3, .int p3), (4, .ref oa)] 0 [] := by
  unfold f_L_dependsOn at hf
  refine g_aload o 4 rfl dL_dependsOn_0 ?_
  refine g_iconst o ic_0 dL_dependsOn_2 ?_
  refine g_aload_n o 0 rfl rfl dL_dependsOn_3 ?_
  refine g_iload_n o 1 rfl rfl dL_dependsOn_4 ?_
  refine g_iload_n o 2 rfl rfl dL_dependsOn_5 ?_
  refine g_iload_n o 3 rfl rfl dL_dependsOn_6 ?_
  rcases bz_some hf with ⟨r3, hr3, hf⟩ | ⟨E4, hr3, hf⟩
  · refine k_X1_dependsOn_Ln o hr3 m_600 (Nat.le_of_ble_eq_true rfl) (Nat.le_of_ble_eq_true rfl) ⟨(Nat.le_of_ble_eq_true rfl), (Nat.le_of_ble_eq_true rfl)⟩ dL_dependsOn_7 ?_
    refine g_if_eq (tgt := 17) o rfl dL_dependsOn_10 hf (fun hc hf => ?_) (fun hc hf => ?_)
    · refine g_lconst o lc_0 dL_dependsOn_17 ?_
      refine L_ost o dL_dependsOn_18 hf (fun hf => ?_)
      refine g_goto (tgt := 30) o rfl dL_dependsOn_19 ?_
      refine g_iconst o ic_0 dL_dependsOn_30 ?_
      cases Option.some.inj hf
      exact g_iret hret (Nat.le_of_ble_eq_true rfl) (Nat.le_of_ble_eq_true rfl) (vp_nar_int _) dL_dependsOn_31
    · refine g_lconst o lc_1 dL_dependsOn_13 ?_
      refine g_goto (tgt := 18) o rfl dL_dependsOn_14 ?_
      refine L_ost o dL_dependsOn_18 hf (fun hf => ?_)
      refine g_goto (tgt := 30) o rfl dL_dependsOn_19 ?_
      refine g_iconst o ic_0 dL_dependsOn_30 ?_
      cases Option.some.inj hf
      exact g_iret hret (Nat.le_of_ble_eq_true rfl) (Nat.le_of_ble_eq_true rfl) (vp_nar_int _) dL_dependsOn_31
  · refine k_X1_dependsOn_Lx o hr3 m_600 (Nat.le_of_ble_eq_true rfl) (Nat.le_of_ble_eq_true rfl) ⟨(Nat.le_of_ble_eq_true rfl), (Nat.le_of_ble_eq_true rfl)⟩ dL_dependsOn_7 ?_
    by_cases hE : E4 = eIA
    · subst hE
      rw [if_pos rfl] at hf
      refine xw_catch o htab [] ⟨0, 19, 22, 13⟩ [⟨0, 19, 26, 28⟩] rfl (fun q hq => by cases hq) (by decide) (by decide) m_232 e_243 rfl (fun q9 => ?_)
      refine g_astore o [(5, .ref q9), (0, .ref (a 0)), (1, .int p1), (2, .int p2), (3, .int p3), (4, .ref oa)] (Nat.le_of_ble_eq_true rfl) rfl dL_dependsOn_22 ?_
      refine g_iconst o ic_1 dL_dependsOn_24 ?_
      cases Option.some.inj hf
      exact g_iret hret (Nat.le_of_ble_eq_true rfl) (Nat.le_of_ble_eq_true rfl) (vp_nar_int _) dL_dependsOn_25
    rw [if_neg hE] at hf
    by_cases hE : E4 = eIO
    · subst hE
      rw [if_pos rfl] at hf
      refine xw_catch o htab [⟨0, 19, 22, 13⟩] ⟨0, 19, 26, 28⟩ [] rfl (List.forall_mem_cons.mpr ⟨⟨by decide, eIA, m_232, nc_eIO_eIA⟩, (fun q hq => by cases hq)⟩) (by decide) (by decide) m_364 e_375 rfl (fun q9 => ?_)
      refine g_astore o [(5, .ref q9), (0, .ref (a 0)), (1, .int p1), (2, .int p2), (3, .int p3), (4, .ref oa)] (Nat.le_of_ble_eq_true rfl) rfl dL_dependsOn_26 ?_
      refine g_iconst o ic_2 dL_dependsOn_28 ?_
      cases Option.some.inj hf
      exact g_iret hret (Nat.le_of_ble_eq_true rfl) (Nat.le_of_ble_eq_true rfl) (vp_nar_int _) dL_dependsOn_29
    rw [if_neg hE] at hf
    cases hf
theorem c_L_dependsOn (l : Launch) (hst : l.stackTraces = false) (a b c : Nat → Nat) (oa : Nat) (u v w : St) (f : Nat → Int64) (p1 : Int32) (p2 : Int32) (p3 : Int32) (t : Int32 × (Nat → Int64)) (hf : f_L_dependsOn u v w f p1 p2 p3 = some t) : CoI l yL_dependsOn (.codeWith yL_dependsOn cL_dependsOn 6 (some .int) [(0, 19, 22, 13), (0, 19, 26, 28)]) 4 3 18 [.ref (a 0), .int p1, .int p2, .int p3, .ref oa] (wXo a u b v c w oa f) (wXo a u b v c w oa t.2) (.inl t.1) := mkH hst (by decide +kernel) (Nat.le_of_ble_eq_true rfl) (fun x _ o htab hI => b_L_dependsOn o htab a b c oa u v w f p1 p2 p3 t hf (hI _ rfl))
set_option maxRecDepth 20000 in
set_option maxHeartbeats 2000000 in
theorem b_L_dimension {x : Cx} (o : Ok x cL_dimension 3 RL 16 2 12) (htab : (cxc x).exceptionTable.toList = tableOf [(0, 8, 11, 127), (0, 8, 14, 75)]) (a b c : Nat → Nat) (oa : Nat) (u v w : St) (f : Nat → Int64) (t : Int32 × (Nat → Int64)) (hf : f_L_dimension u v w f = some t) (hret : RetI x cL_dimension .int 2 12 (wXo a u b v c w oa t.2 (cxT x)) t.1) : G x 3 0 0 (wXo a u b v c w oa f (cxT x)) [(0, .ref (a 0)), (1, .ref oa)] 0 [] := by
  unfold f_L_dimension at hf
  refine g_aload_n o 1 rfl rfl dL_dimension_0 ?_
  refine g_iconst o ic_0 dL_dimension_1 ?_
  refine g_aload_n o 0 rfl rfl dL_dimension_2 ?_
  rcases bz_some hf with ⟨r3, hr3, hf⟩ | ⟨E4, hr3, hf⟩
  · refine k_X1_dimension_Ln o hr3 m_770 (Nat.le_of_ble_eq_true rfl) (Nat.le_of_ble_eq_true rfl) ⟨(Nat.le_of_ble_eq_true rfl), (Nat.le_of_ble_eq_true rfl)⟩ dL_dimension_3 ?_
    refine g_i2l o dL_dimension_6 ?_
    refine L_ost o dL_dimension_7 hf (fun hf => ?_)
    refine g_goto (tgt := 17) o rfl dL_dimension_8 ?_
    refine g_iconst o ic_0 dL_dimension_17 ?_
    cases Option.some.inj hf
    exact g_iret hret (Nat.le_of_ble_eq_true rfl) (Nat.le_of_ble_eq_true rfl) (vp_nar_int _) dL_dimension_18
  · refine k_X1_dimension_Lx o hr3 m_770 (Nat.le_of_ble_eq_true rfl) (Nat.le_of_ble_eq_true rfl) ⟨(Nat.le_of_ble_eq_true rfl), (Nat.le_of_ble_eq_true rfl)⟩ dL_dimension_3 ?_
    by_cases hE : E4 = eUO
    · subst hE
      rw [if_pos rfl] at hf
      refine xw_catch o htab [] ⟨0, 8, 11, 127⟩ [⟨0, 8, 14, 75⟩] rfl (fun q hq => by cases hq) (by decide) (by decide) m_715 e_726 rfl (fun q9 => ?_)
      refine g_astore_n o [(2, .ref q9), (0, .ref (a 0)), (1, .ref oa)] (Nat.le_of_ble_eq_true rfl) rfl rfl dL_dimension_11 ?_
      refine g_iconst o ic_1 dL_dimension_12 ?_
      cases Option.some.inj hf
      exact g_iret hret (Nat.le_of_ble_eq_true rfl) (Nat.le_of_ble_eq_true rfl) (vp_nar_int _) dL_dimension_13
    rw [if_neg hE] at hf
    by_cases hE : E4 = eNS
    · subst hE
      rw [if_pos rfl] at hf
      refine xw_catch o htab [⟨0, 8, 11, 127⟩] ⟨0, 8, 14, 75⟩ [] rfl (List.forall_mem_cons.mpr ⟨⟨by decide, eUO, m_715, nc_eNS_eUO⟩, (fun q hq => by cases hq)⟩) (by decide) (by decide) m_529 e_536 rfl (fun q9 => ?_)
      refine g_astore_n o [(2, .ref q9), (0, .ref (a 0)), (1, .ref oa)] (Nat.le_of_ble_eq_true rfl) rfl rfl dL_dimension_14 ?_
      refine g_iconst o ic_2 dL_dimension_15 ?_
      cases Option.some.inj hf
      exact g_iret hret (Nat.le_of_ble_eq_true rfl) (Nat.le_of_ble_eq_true rfl) (vp_nar_int _) dL_dimension_16
    rw [if_neg hE] at hf
    cases hf
theorem c_L_dimension (l : Launch) (hst : l.stackTraces = false) (a b c : Nat → Nat) (oa : Nat) (u v w : St) (f : Nat → Int64) (t : Int32 × (Nat → Int64)) (hf : f_L_dimension u v w f = some t) : CoI l yL_dimension (.codeWith yL_dimension cL_dimension 3 (some .int) [(0, 8, 11, 127), (0, 8, 14, 75)]) 16 2 12 [.ref (a 0), .ref oa] (wXo a u b v c w oa f) (wXo a u b v c w oa t.2) (.inl t.1) := mkH hst (by decide +kernel) (Nat.le_of_ble_eq_true rfl) (fun x _ o htab hI => b_L_dimension o htab a b c oa u v w f t hf (hI _ rfl))
set_option maxRecDepth 20000 in
set_option maxHeartbeats 2000000 in
theorem b_L_dual {x : Cx} (o : Ok x cL_dual 5 RL 3 2 12) (htab : (cxc x).exceptionTable.toList = tableOf [(0, 10, 13, 13)]) (a b c : Nat → Nat) (oa : Nat) (u v w : St) (f : Nat → Int64) (p1 : Int32) (p2 : Int32) (t : Int32 × (Nat → Int64)) (hf : f_L_dual u v w f p1 p2 = some t) (hret : RetI x cL_dual .int 2 12 (wXo a u b v c w oa t.2 (cxT x)) t.1) : G x 5 0 0 (wXo a u b v c w oa f (cxT x)) [(0, .ref (a 0)), (1, .int p1), (2, .int p2), (3, .ref oa)] 0 [] := by
  unfold f_L_dual at hf
  refine g_aload_n o 3 rfl rfl dL_dual_0 ?_
  refine g_iconst o ic_0 dL_dual_1 ?_
  refine g_aload_n o 0 rfl rfl dL_dual_2 ?_
  refine g_iload_n o 1 rfl rfl dL_dual_3 ?_
  refine g_iload_n o 2 rfl rfl dL_dual_4 ?_
  rcases bz_some hf with ⟨r3, hr3, hf⟩ | ⟨E4, hr3, hf⟩
  · refine k_X1_dual_Ln o hr3 m_593 (Nat.le_of_ble_eq_true rfl) (Nat.le_of_ble_eq_true rfl) ⟨(Nat.le_of_ble_eq_true rfl), (Nat.le_of_ble_eq_true rfl)⟩ dL_dual_5 ?_
    refine g_i2l o dL_dual_8 ?_
    refine L_ost o dL_dual_9 hf (fun hf => ?_)
    refine g_goto (tgt := 17) o rfl dL_dual_10 ?_
    refine g_iconst o ic_0 dL_dual_17 ?_
    cases Option.some.inj hf
    exact g_iret hret (Nat.le_of_ble_eq_true rfl) (Nat.le_of_ble_eq_true rfl) (vp_nar_int _) dL_dual_18
  · refine k_X1_dual_Lx o hr3 m_593 (Nat.le_of_ble_eq_true rfl) (Nat.le_of_ble_eq_true rfl) ⟨(Nat.le_of_ble_eq_true rfl), (Nat.le_of_ble_eq_true rfl)⟩ dL_dual_5 ?_
    by_cases hE : E4 = eIA
    · subst hE
      rw [if_pos rfl] at hf
      refine xw_catch o htab [] ⟨0, 10, 13, 13⟩ [] rfl (fun q hq => by cases hq) (by decide) (by decide) m_232 e_243 rfl (fun q9 => ?_)
      refine g_astore o [(4, .ref q9), (0, .ref (a 0)), (1, .int p1), (2, .int p2), (3, .ref oa)] (Nat.le_of_ble_eq_true rfl) rfl dL_dual_13 ?_
      refine g_iconst o ic_1 dL_dual_15 ?_
      cases Option.some.inj hf
      exact g_iret hret (Nat.le_of_ble_eq_true rfl) (Nat.le_of_ble_eq_true rfl) (vp_nar_int _) dL_dual_16
    rw [if_neg hE] at hf
    cases hf
theorem c_L_dual (l : Launch) (hst : l.stackTraces = false) (a b c : Nat → Nat) (oa : Nat) (u v w : St) (f : Nat → Int64) (p1 : Int32) (p2 : Int32) (t : Int32 × (Nat → Int64)) (hf : f_L_dual u v w f p1 p2 = some t) : CoI l yL_dual (.codeWith yL_dual cL_dual 5 (some .int) [(0, 10, 13, 13)]) 3 2 12 [.ref (a 0), .int p1, .int p2, .ref oa] (wXo a u b v c w oa f) (wXo a u b v c w oa t.2) (.inl t.1) := mkH hst (by decide +kernel) (Nat.le_of_ble_eq_true rfl) (fun x _ o htab hI => b_L_dual o htab a b c oa u v w f p1 p2 t hf (hI _ rfl))
set_option maxRecDepth 20000 in
set_option maxHeartbeats 2000000 in
theorem b_L_errorPosition {x : Cx} (o : Ok x cL_errorPosition 3 RL 1 1 6) (htab : (cxc x).exceptionTable.toList = tableOf [(0, 8, 11, 15)]) (a b c : Nat → Nat) (oa : Nat) (u v w : St) (f : Nat → Int64) (t : Int32 × (Nat → Int64)) (hf : f_L_errorPosition u v w f = some t) (hret : RetI x cL_errorPosition .int 1 6 (wXo a u b v c w oa t.2 (cxT x)) t.1) : G x 3 0 0 (wXo a u b v c w oa f (cxT x)) [(0, .ref (a 0)), (1, .ref oa)] 0 [] := by
  unfold f_L_errorPosition at hf
  refine g_aload_n o 1 rfl rfl dL_errorPosition_0 ?_
  refine g_iconst o ic_0 dL_errorPosition_1 ?_
  refine g_aload_n o 0 rfl rfl dL_errorPosition_2 ?_
  rcases bz_some hf with ⟨r3, hr3, hf⟩ | ⟨E4, hr3, hf⟩
  · refine k_X1_errorPosition_Ln o hr3 m_845 (Nat.le_of_ble_eq_true rfl) (Nat.le_of_ble_eq_true rfl) ⟨(Nat.le_of_ble_eq_true rfl), (Nat.le_of_ble_eq_true rfl)⟩ dL_errorPosition_3 ?_
    refine g_i2l o dL_errorPosition_6 ?_
    refine L_ost o dL_errorPosition_7 hf (fun hf => ?_)
    refine g_goto (tgt := 14) o rfl dL_errorPosition_8 ?_
    refine g_iconst o ic_0 dL_errorPosition_14 ?_
    cases Option.some.inj hf
    exact g_iret hret (Nat.le_of_ble_eq_true rfl) (Nat.le_of_ble_eq_true rfl) (vp_nar_int _) dL_errorPosition_15
  · refine k_X1_errorPosition_Lx o hr3 m_845 (Nat.le_of_ble_eq_true rfl) (Nat.le_of_ble_eq_true rfl) ⟨(Nat.le_of_ble_eq_true rfl), (Nat.le_of_ble_eq_true rfl)⟩ dL_errorPosition_3 ?_
    by_cases hE : E4 = eIS
    · subst hE
      rw [if_pos rfl] at hf
      refine xw_catch o htab [] ⟨0, 8, 11, 15⟩ [] rfl (fun q hq => by cases hq) (by decide) (by decide) m_233 e_321 rfl (fun q9 => ?_)
      refine g_astore_n o [(2, .ref q9), (0, .ref (a 0)), (1, .ref oa)] (Nat.le_of_ble_eq_true rfl) rfl rfl dL_errorPosition_11 ?_
      refine g_iconst o ic_1 dL_errorPosition_12 ?_
      cases Option.some.inj hf
      exact g_iret hret (Nat.le_of_ble_eq_true rfl) (Nat.le_of_ble_eq_true rfl) (vp_nar_int _) dL_errorPosition_13
    rw [if_neg hE] at hf
    cases hf
theorem c_L_errorPosition (l : Launch) (hst : l.stackTraces = false) (a b c : Nat → Nat) (oa : Nat) (u v w : St) (f : Nat → Int64) (t : Int32 × (Nat → Int64)) (hf : f_L_errorPosition u v w f = some t) : CoI l yL_errorPosition (.codeWith yL_errorPosition cL_errorPosition 3 (some .int) [(0, 8, 11, 15)]) 1 1 6 [.ref (a 0), .ref oa] (wXo a u b v c w oa f) (wXo a u b v c w oa t.2) (.inl t.1) := mkH hst (by decide +kernel) (Nat.le_of_ble_eq_true rfl) (fun x _ o htab hI => b_L_errorPosition o htab a b c oa u v w f t hf (hI _ rfl))
set_option maxRecDepth 20000 in
set_option maxHeartbeats 2000000 in
theorem b_L_firstViolated {x : Cx} (o : Ok x cL_firstViolated 4 RL 3 2 12) (htab : (cxc x).exceptionTable.toList = tableOf [(0, 9, 12, 13), (0, 9, 15, 75)]) (a b c : Nat → Nat) (oa : Nat) (u v w : St) (f : Nat → Int64) (p1 : Int32) (t : Int32 × (Nat → Int64)) (hf : f_L_firstViolated u v w f p1 = some t) (hret : RetI x cL_firstViolated .int 2 12 (wXo a u b v c w oa t.2 (cxT x)) t.1) : G x 4 0 0 (wXo a u b v c w oa f (cxT x)) [(0, .ref (a 0)), (1, .int p1), (2, .ref oa)] 0 [] := by
  unfold f_L_firstViolated at hf
  refine g_aload_n o 2 rfl rfl dL_firstViolated_0 ?_
  refine g_iconst o ic_0 dL_firstViolated_1 ?_
  refine g_aload_n o 0 rfl rfl dL_firstViolated_2 ?_
  refine g_iload_n o 1 rfl rfl dL_firstViolated_3 ?_
  rcases bz_some hf with ⟨r3, hr3, hf⟩ | ⟨E4, hr3, hf⟩
  · refine k_X1_firstViolated_Ln o hr3 m_789 (Nat.le_of_ble_eq_true rfl) (Nat.le_of_ble_eq_true rfl) ⟨(Nat.le_of_ble_eq_true rfl), (Nat.le_of_ble_eq_true rfl)⟩ dL_firstViolated_4 ?_
    refine g_i2l o dL_firstViolated_7 ?_
    refine L_ost o dL_firstViolated_8 hf (fun hf => ?_)
    refine g_goto (tgt := 18) o rfl dL_firstViolated_9 ?_
    refine g_iconst o ic_0 dL_firstViolated_18 ?_
    cases Option.some.inj hf
    exact g_iret hret (Nat.le_of_ble_eq_true rfl) (Nat.le_of_ble_eq_true rfl) (vp_nar_int _) dL_firstViolated_19
  · refine k_X1_firstViolated_Lx o hr3 m_789 (Nat.le_of_ble_eq_true rfl) (Nat.le_of_ble_eq_true rfl) ⟨(Nat.le_of_ble_eq_true rfl), (Nat.le_of_ble_eq_true rfl)⟩ dL_firstViolated_4 ?_
    by_cases hE : E4 = eIA
    · subst hE
      rw [if_pos rfl] at hf
      refine xw_catch o htab [] ⟨0, 9, 12, 13⟩ [⟨0, 9, 15, 75⟩] rfl (fun q hq => by cases hq) (by decide) (by decide) m_232 e_243 rfl (fun q9 => ?_)
      refine g_astore_n o [(3, .ref q9), (0, .ref (a 0)), (1, .int p1), (2, .ref oa)] (Nat.le_of_ble_eq_true rfl) rfl rfl dL_firstViolated_12 ?_
      refine g_iconst o ic_1 dL_firstViolated_13 ?_
      cases Option.some.inj hf
      exact g_iret hret (Nat.le_of_ble_eq_true rfl) (Nat.le_of_ble_eq_true rfl) (vp_nar_int _) dL_firstViolated_14
    rw [if_neg hE] at hf
    by_cases hE : E4 = eNS
    · subst hE
      rw [if_pos rfl] at hf
      refine xw_catch o htab [⟨0, 9, 12, 13⟩] ⟨0, 9, 15, 75⟩ [] rfl (List.forall_mem_cons.mpr ⟨⟨by decide, eIA, m_232, nc_eNS_eIA⟩, (fun q hq => by cases hq)⟩) (by decide) (by decide) m_529 e_536 rfl (fun q9 => ?_)
      refine g_astore_n o [(3, .ref q9), (0, .ref (a 0)), (1, .int p1), (2, .ref oa)] (Nat.le_of_ble_eq_true rfl) rfl rfl dL_firstViolated_15 ?_
      refine g_iconst o ic_2 dL_firstViolated_16 ?_
      cases Option.some.inj hf
      exact g_iret hret (Nat.le_of_ble_eq_true rfl) (Nat.le_of_ble_eq_true rfl) (vp_nar_int _) dL_firstViolated_17
    rw [if_neg hE] at hf
    cases hf
theorem c_L_firstViolated (l : Launch) (hst : l.stackTraces = false) (a b c : Nat → Nat) (oa : Nat) (u v w : St) (f : Nat → Int64) (p1 : Int32) (t : Int32 × (Nat → Int64)) (hf : f_L_firstViolated u v w f p1 = some t) : CoI l yL_firstViolated (.codeWith yL_firstViolated cL_firstViolated 4 (some .int) [(0, 9, 12, 13), (0, 9, 15, 75)]) 3 2 12 [.ref (a 0), .int p1, .ref oa] (wXo a u b v c w oa f) (wXo a u b v c w oa t.2) (.inl t.1) := mkH hst (by decide +kernel) (Nat.le_of_ble_eq_true rfl) (fun x _ o htab hI => b_L_firstViolated o htab a b c oa u v w f p1 t hf (hI _ rfl))
set_option maxRecDepth 20000 in
set_option maxHeartbeats 2000000 in
theorem b_L_greatestSolution {x : Cx} (o : Ok x cL_greatestSolution 3 RL 16 2 12) (htab : (cxc x).exceptionTable.toList = tableOf [(0, 8, 11, 127), (0, 8, 14, 75)]) (a b c : Nat → Nat) (oa : Nat) (u v w : St) (f : Nat → Int64) (t : Int32 × (Nat → Int64)) (hf : f_L_greatestSolution u v w f = some t) (hret : RetI x cL_greatestSolution .int 2 12 (wXo a u b v c w oa t.2 (cxT x)) t.1) : G x 3 0 0 (wXo a u b v c w oa f (cxT x)) [(0, .ref (a 0)), (1, .ref oa)] 0 [] := by
  unfold f_L_greatestSolution at hf
  refine g_aload_n o 1 rfl rfl dL_greatestSolution_0 ?_
  refine g_iconst o ic_0 dL_greatestSolution_1 ?_
  refine g_aload_n o 0 rfl rfl dL_greatestSolution_2 ?_
  rcases bz_some hf with ⟨r3, hr3, hf⟩ | ⟨E4, hr3, hf⟩
  · refine k_X1_greatestSolution_Ln o hr3 m_752 (Nat.le_of_ble_eq_true rfl) (Nat.le_of_ble_eq_true rfl) ⟨(Nat.le_of_ble_eq_true rfl), (Nat.le_of_ble_eq_true rfl)⟩ dL_greatestSolution_3 ?_
    refine g_i2l o dL_greatestSolution_6 ?_
    refine L_ost o dL_greatestSolution_7 hf (fun hf => ?_)
    refine g_goto (tgt := 17) o rfl dL_greatestSolution_8 ?_
    refine g_iconst o ic_0 dL_greatestSolution_17 ?_
    cases Option.some.inj hf
    exact g_iret hret (Nat.le_of_ble_eq_true rfl) (Nat.le_of_ble_eq_true rfl) (vp_nar_int _) dL_greatestSolution_18
  · refine k_X1_greatestSolution_Lx o hr3 m_752 (Nat.le_of_ble_eq_true rfl) (Nat.le_of_ble_eq_true rfl) ⟨(Nat.le_of_ble_eq_true rfl), (Nat.le_of_ble_eq_true rfl)⟩ dL_greatestSolution_3 ?_
    by_cases hE : E4 = eUO
    · subst hE
      rw [if_pos rfl] at hf
      refine xw_catch o htab [] ⟨0, 8, 11, 127⟩ [⟨0, 8, 14, 75⟩] rfl (fun q hq => by cases hq) (by decide) (by decide) m_715 e_726 rfl (fun q9 => ?_)
      refine g_astore_n o [(2, .ref q9), (0, .ref (a 0)), (1, .ref oa)] (Nat.le_of_ble_eq_true rfl) rfl rfl dL_greatestSolution_11 ?_
      refine g_iconst o ic_1 dL_greatestSolution_12 ?_
      cases Option.some.inj hf
      exact g_iret hret (Nat.le_of_ble_eq_true rfl) (Nat.le_of_ble_eq_true rfl) (vp_nar_int _) dL_greatestSolution_13
    rw [if_neg hE] at hf
    by_cases hE : E4 = eNS
    · subst hE
      rw [if_pos rfl] at hf
      refine xw_catch o htab [⟨0, 8, 11, 127⟩] ⟨0, 8, 14, 75⟩ [] rfl (List.forall_mem_cons.mpr ⟨⟨by decide, eUO, m_715, nc_eNS_eUO⟩, (fun q hq => by cases hq)⟩) (by decide) (by decide) m_529 e_536 rfl (fun q9 => ?_)
      refine g_astore_n o [(2, .ref q9), (0, .ref (a 0)), (1, .ref oa)] (Nat.le_of_ble_eq_true rfl) rfl rfl dL_greatestSolution_14 ?_
      refine g_iconst o ic_2 dL_greatestSolution_15 ?_
      cases Option.some.inj hf
      exact g_iret hret (Nat.le_of_ble_eq_true rfl) (Nat.le_of_ble_eq_true rfl) (vp_nar_int _) dL_greatestSolution_16
    rw [if_neg hE] at hf
    cases hf
theorem c_L_greatestSolution (l : Launch) (hst : l.stackTraces = false) (a b c : Nat → Nat) (oa : Nat) (u v w : St) (f : Nat → Int64) (t : Int32 × (Nat → Int64)) (hf : f_L_greatestSolution u v w f = some t) : CoI l yL_greatestSolution (.codeWith yL_greatestSolution cL_greatestSolution 3 (some .int) [(0, 8, 11, 127), (0, 8, 14, 75)]) 16 2 12 [.ref (a 0), .ref oa] (wXo a u b v c w oa f) (wXo a u b v c w oa t.2) (.inl t.1) := mkH hst (by decide +kernel) (Nat.le_of_ble_eq_true rfl) (fun x _ o htab hI => b_L_greatestSolution o htab a b c oa u v w f t hf (hI _ rfl))
set_option maxRecDepth 20000 in
set_option maxHeartbeats 2000000 in
theorem b_L_hasKind {x : Cx} (o : Ok x cL_hasKind 4 RL 6 1 6) (htab : (cxc x).exceptionTable.toList = tableOf [(0, 16, 19, 13)]) (a b c : Nat → Nat) (oa : Nat) (u v w : St) (f : Nat → Int64) (p1 : Int32) (t : Int32 × (Nat → Int64)) (hf : f_L_hasKind u v w f p1 = some t) (hret : RetI x cL_hasKind .int 1 6 (wXo a u b v c w oa t.2 (cxT x)) t.1) : G x 4 0 0 (wXo a u b v c w oa f (cxT x)) [(0, .ref (a 0)), (1, .int p1), (2, .ref oa)] 0 [] := by
  unfold f_L_hasKind at hf
  refine g_aload_n o 2 rfl rfl dL_hasKind_0 ?_
  refine g_iconst o ic_0 dL_hasKind_1 ?_
  refine g_aload_n o 0 rfl rfl dL_hasKind_2 ?_
  refine g_iload_n o 1 rfl rfl dL_hasKind_3 ?_
  rcases bz_some hf with ⟨r3, hr3, hf⟩ | ⟨E4, hr3, hf⟩
  · refine k_X1_hasKind_Ln o hr3 m_631 (Nat.le_of_ble_eq_true rfl) (Nat.le_of_ble_eq_true rfl) ⟨(Nat.le_of_ble_eq_true rfl), (Nat.le_of_ble_eq_true rfl)⟩ dL_hasKind_4 ?_
    refine g_if_eq (tgt := 14) o rfl dL_hasKind_7 hf (fun hc hf => ?_) (fun hc hf => ?_)
    · refine g_lconst o lc_0 dL_hasKind_14 ?_
      refine L_ost o dL_hasKind_15 hf (fun hf => ?_)
      refine g_goto (tgt := 22) o rfl dL_hasKind_16 ?_
      refine g_iconst o ic_0 dL_hasKind_22 ?_
      cases Option.some.inj hf
      exact g_iret hret (Nat.le_of_ble_eq_true rfl) (Nat.le_of_ble_eq_true rfl) (vp_nar_int _) dL_hasKind_23
    · refine g_lconst o lc_1 dL_hasKind_10 ?_
      refine g_goto (tgt := 15) o rfl dL_hasKind_11 ?_
      refine L_ost o dL_hasKind_15 hf (fun hf => ?_)
      refine g_goto (tgt := 22) o rfl dL_hasKind_16 ?_
      refine g_iconst o ic_0 dL_hasKind_22 ?_
      cases Option.some.inj hf
      exact g_iret hret (Nat.le_of_ble_eq_true rfl) (Nat.le_of_ble_eq_true rfl) (vp_nar_int _) dL_hasKind_23
  · refine k_X1_hasKind_Lx o hr3 m_631 (Nat.le_of_ble_eq_true rfl) (Nat.le_of_ble_eq_true rfl) ⟨(Nat.le_of_ble_eq_true rfl), (Nat.le_of_ble_eq_true rfl)⟩ dL_hasKind_4 ?_
    by_cases hE : E4 = eIA
    · subst hE
      rw [if_pos rfl] at hf
      refine xw_catch o htab [] ⟨0, 16, 19, 13⟩ [] rfl (fun q hq => by cases hq) (by decide) (by decide) m_232 e_243 rfl (fun q9 => ?_)
      refine g_astore_n o [(3, .ref q9), (0, .ref (a 0)), (1, .int p1), (2, .ref oa)] (Nat.le_of_ble_eq_true rfl) rfl rfl dL_hasKind_19 ?_
      refine g_iconst o ic_1 dL_hasKind_20 ?_
      cases Option.some.inj hf
      exact g_iret hret (Nat.le_of_ble_eq_true rfl) (Nat.le_of_ble_eq_true rfl) (vp_nar_int _) dL_hasKind_21
    rw [if_neg hE] at hf
    cases hf
theorem c_L_hasKind (l : Launch) (hst : l.stackTraces = false) (a b c : Nat → Nat) (oa : Nat) (u v w : St) (f : Nat → Int64) (p1 : Int32) (t : Int32 × (Nat → Int64)) (hf : f_L_hasKind u v w f p1 = some t) : CoI l yL_hasKind (.codeWith yL_hasKind cL_hasKind 4 (some .int) [(0, 16, 19, 13)]) 6 1 6 [.ref (a 0), .int p1, .ref oa] (wXo a u b v c w oa f) (wXo a u b v c w oa t.2) (.inl t.1) := mkH hst (by decide +kernel) (Nat.le_of_ble_eq_true rfl) (fun x _ o htab hI => b_L_hasKind o htab a b c oa u v w f p1 t hf (hI _ rfl))
set_option maxRecDepth 20000 in
set_option maxHeartbeats 2000000 in
theorem b_L_implies {x : Cx} (o : Ok x cL_implies 7 RL 15 5 30) (htab : (cxc x).exceptionTable.toList = tableOf [(0, 21, 24, 127), (0, 21, 28, 28), (0, 21, 32, 13)]) (a b c : Nat → Nat) (oa : Nat) (u v w : St) (f : Nat → Int64) (p1 : Int32) (p2 : Int32) (p3 : Int32) (p4 : Int32) (t : Int32 × (Nat → Int64)) (hf : f_L_implies u v w f p1 p2 p3 p4 = some t) (hret : RetI x cL_implies .int 5 30 (wXo a u b v c w oa t.2 (cxT x)) t.1) : G x 7 0 0 (wXo a u b v c w oa f (cxT x)) [(0, .ref (a 0)), (1, .int p1), (2, .int p2), (3, .int p3), (4, .int p4), (5, .ref oa)] 0 [] := by
  unfold f_L_implies at hf
  refine g_aload o 5 rfl dL_implies_0 ?_
  refine g_iconst o ic_0 dL_implies_2 ?_
  refine g_aload_n o 0 rfl rfl dL_implies_3 ?_
  refine g_iload_n o 1 rfl rfl dL_implies_4 ?_
  refine g_iload_n o 2 rfl rfl dL_implies_5 ?_
  refine g_iload_n o 3 rfl rfl dL_implies_6 ?_
  refine g_iload o 4 rfl dL_implies_7 ?_
  rcases bz_some hf with ⟨r3, hr3, hf⟩ | ⟨E4, hr3, hf⟩
  · refine k_X1_implies_Ln o hr3 m_759 (Nat.le_of_ble_eq_true rfl) (Nat.le_of_ble_eq_true rfl) ⟨(Nat.le_of_ble_eq_true rfl), (Nat.le_of_ble_eq_true rfl)⟩ dL_implies_9 ?_
    refine g_if_eq (tgt := 19) o rfl dL_implies_12 hf (fun hc hf => ?_) (fun hc hf => ?_)
    · refine g_lconst o lc_0 dL_implies_19 ?_
      refine L_ost o dL_implies_20 hf (fun hf => ?_)
      refine g_goto (tgt := 36) o rfl dL_implies_21 ?_
      refine g_iconst o ic_0 dL_implies_36 ?_
      cases Option.some.inj hf
      exact g_iret hret (Nat.le_of_ble_eq_true rfl) (Nat.le_of_ble_eq_true rfl) (vp_nar_int _) dL_implies_37
    · refine g_lconst o lc_1 dL_implies_15 ?_
      refine g_goto (tgt := 20) o rfl dL_implies_16 ?_
      refine L_ost o dL_implies_20 hf (fun hf => ?_)
      refine g_goto (tgt := 36) o rfl dL_implies_21 ?_
      refine g_iconst o ic_0 dL_implies_36 ?_
      cases Option.some.inj hf
      exact g_iret hret (Nat.le_of_ble_eq_true rfl) (Nat.le_of_ble_eq_true rfl) (vp_nar_int _) dL_implies_37
  · refine k_X1_implies_Lx o hr3 m_759 (Nat.le_of_ble_eq_true rfl) (Nat.le_of_ble_eq_true rfl) ⟨(Nat.le_of_ble_eq_true rfl), (Nat.le_of_ble_eq_true rfl)⟩ dL_implies_9 ?_
    by_cases hE : E4 = eUO
    · subst hE
      rw [if_pos rfl] at hf
      refine xw_catch o htab [] ⟨0, 21, 24, 127⟩ [⟨0, 21, 28, 28⟩, ⟨0, 21, 32, 13⟩] rfl (fun q hq => by cases hq) (by decide) (by decide) m_715 e_726 rfl (fun q9 => ?_)
      refine g_astore o [(6, .ref q9), (0, .ref (a 0)), (1, .int p1), (2, .int p2), (3, .int p3), (4, .int p4), (5, .ref oa)] (Nat.le_of_ble_eq_true rfl) rfl dL_implies_24 ?_
      refine g_iconst o ic_1 dL_implies_26 ?_
      cases Option.some.inj hf
      exact g_iret hret (Nat.le_of_ble_eq_true rfl) (Nat.le_of_ble_eq_true rfl) (vp_nar_int _) dL_implies_27
    rw [if_neg hE] at hf
    by_cases hE : E4 = eIO
    · subst hE
      rw [if_pos rfl] at hf
      refine xw_catch o htab [⟨0, 21, 24, 127⟩] ⟨0, 21, 28, 28⟩ [⟨0, 21, 32, 13⟩] rfl (List.forall_mem_cons.mpr ⟨⟨by decide, eUO, m_715, nc_eIO_eUO⟩, (fun q hq => by cases hq)⟩) (by decide) (by decide) m_364 e_375 rfl (fun q9 => ?_)
      refine g_astore o [(6, .ref q9), (0, .ref (a 0)), (1, .int p1), (2, .int p2), (3, .int p3), (4, .int p4), (5, .ref oa)] (Nat.le_of_ble_eq_true rfl) rfl dL_implies_28 ?_
      refine g_iconst o ic_2 dL_implies_30 ?_
      cases Option.some.inj hf
      exact g_iret hret (Nat.le_of_ble_eq_true rfl) (Nat.le_of_ble_eq_true rfl) (vp_nar_int _) dL_implies_31
    rw [if_neg hE] at hf
    by_cases hE : E4 = eIA
    · subst hE
      rw [if_pos rfl] at hf
      refine xw_catch o htab [⟨0, 21, 24, 127⟩, ⟨0, 21, 28, 28⟩] ⟨0, 21, 32, 13⟩ [] rfl (List.forall_mem_cons.mpr ⟨⟨by decide, eUO, m_715, nc_eIA_eUO⟩, (List.forall_mem_cons.mpr ⟨⟨by decide, eIO, m_364, nc_eIA_eIO⟩, (fun q hq => by cases hq)⟩)⟩) (by decide) (by decide) m_232 e_243 rfl (fun q9 => ?_)
      refine g_astore o [(6, .ref q9), (0, .ref (a 0)), (1, .int p1), (2, .int p2), (3, .int p3), (4, .int p4), (5, .ref oa)] (Nat.le_of_ble_eq_true rfl) rfl dL_implies_32 ?_
      refine g_iconst o ic_3 dL_implies_34 ?_
      cases Option.some.inj hf
      exact g_iret hret (Nat.le_of_ble_eq_true rfl) (Nat.le_of_ble_eq_true rfl) (vp_nar_int _) dL_implies_35
    rw [if_neg hE] at hf
    cases hf
theorem c_L_implies (l : Launch) (hst : l.stackTraces = false) (a b c : Nat → Nat) (oa : Nat) (u v w : St) (f : Nat → Int64) (p1 : Int32) (p2 : Int32) (p3 : Int32) (p4 : Int32) (t : Int32 × (Nat → Int64)) (hf : f_L_implies u v w f p1 p2 p3 p4 = some t) : CoI l yL_implies (.codeWith yL_implies cL_implies 7 (some .int) [(0, 21, 24, 127), (0, 21, 28, 28), (0, 21, 32, 13)]) 15 5 30 [.ref (a 0), .int p1, .int p2, .int p3, .int p4, .ref oa] (wXo a u b v c w oa f) (wXo a u b v c w oa t.2) (.inl t.1) := mkH hst (by decide +kernel) (Nat.le_of_ble_eq_true rfl) (fun x _ o htab hI => b_L_implies o htab a b c oa u v w f p1 p2 p3 p4 t hf (hI _ rfl))
set_option maxRecDepth 20000 in
set_option maxHeartbeats 2000000 in
theorem b_L_isForced {x : Cx} (o : Ok x cL_isForced 5 RL 15 2 12) (htab : (cxc x).exceptionTable.toList = tableOf [(0, 17, 20, 28), (0, 17, 24, 13)]) (a b c : Nat → Nat) (oa : Nat) (u v w : St) (f : Nat → Int64) (p1 : Int32) (p2 : Int32) (t : Int32 × (Nat → Int64)) (hf : f_L_isForced u v w f p1 p2 = some t) (hret : RetI x cL_isForced .int 2 12 (wXo a u b v c w oa t.2 (cxT x)) t.1) : G x 5 0 0 (wXo a u b v c w oa f (cxT x)) [(0, .ref (a 0)), (1, .int p1), (2, .int p2), (3, .ref oa)] 0 [] := by
  unfold f_L_isForced at hf
  refine g_aload_n o 3 rfl rfl dL_isForced_0 ?_
  refine g_iconst o ic_0 dL_isForced_1 ?_
  refine g_aload_n o 0 rfl rfl dL_isForced_2 ?_
  refine g_iload_n o 1 rfl rfl dL_isForced_3 ?_
  refine g_iload_n o 2 rfl rfl dL_isForced_4 ?_
  rcases bz_some hf with ⟨r3, hr3, hf⟩ | ⟨E4, hr3, hf⟩
  · refine k_X1_isForced_Ln o hr3 m_701 (Nat.le_of_ble_eq_true rfl) (Nat.le_of_ble_eq_true rfl) ⟨(Nat.le_of_ble_eq_true rfl), (Nat.le_of_ble_eq_true rfl)⟩ dL_isForced_5 ?_
    refine g_if_eq (tgt := 15) o rfl dL_isForced_8 hf (fun hc hf => ?_) (fun hc hf => ?_)
    · refine g_lconst o lc_0 dL_isForced_15 ?_
      refine L_ost o dL_isForced_16 hf (fun hf => ?_)
      refine g_goto (tgt := 28) o rfl dL_isForced_17 ?_
      refine g_iconst o ic_0 dL_isForced_28 ?_
      cases Option.some.inj hf
      exact g_iret hret (Nat.le_of_ble_eq_true rfl) (Nat.le_of_ble_eq_true rfl) (vp_nar_int _) dL_isForced_29
    · refine g_lconst o lc_1 dL_isForced_11 ?_
      refine g_goto (tgt := 16) o rfl dL_isForced_12 ?_
      refine L_ost o dL_isForced_16 hf (fun hf => ?_)
      refine g_goto (tgt := 28) o rfl dL_isForced_17 ?_
      refine g_iconst o ic_0 dL_isForced_28 ?_
      cases Option.some.inj hf
      exact g_iret hret (Nat.le_of_ble_eq_true rfl) (Nat.le_of_ble_eq_true rfl) (vp_nar_int _) dL_isForced_29
  · refine k_X1_isForced_Lx o hr3 m_701 (Nat.le_of_ble_eq_true rfl) (Nat.le_of_ble_eq_true rfl) ⟨(Nat.le_of_ble_eq_true rfl), (Nat.le_of_ble_eq_true rfl)⟩ dL_isForced_5 ?_
    by_cases hE : E4 = eIO
    · subst hE
      rw [if_pos rfl] at hf
      refine xw_catch o htab [] ⟨0, 17, 20, 28⟩ [⟨0, 17, 24, 13⟩] rfl (fun q hq => by cases hq) (by decide) (by decide) m_364 e_375 rfl (fun q9 => ?_)
      refine g_astore o [(4, .ref q9), (0, .ref (a 0)), (1, .int p1), (2, .int p2), (3, .ref oa)] (Nat.le_of_ble_eq_true rfl) rfl dL_isForced_20 ?_
      refine g_iconst o ic_1 dL_isForced_22 ?_
      cases Option.some.inj hf
      exact g_iret hret (Nat.le_of_ble_eq_true rfl) (Nat.le_of_ble_eq_true rfl) (vp_nar_int _) dL_isForced_23
    rw [if_neg hE] at hf
    by_cases hE : E4 = eIA
    · subst hE
      rw [if_pos rfl] at hf
      refine xw_catch o htab [⟨0, 17, 20, 28⟩] ⟨0, 17, 24, 13⟩ [] rfl (List.forall_mem_cons.mpr ⟨⟨by decide, eIO, m_364, nc_eIA_eIO⟩, (fun q hq => by cases hq)⟩) (by decide) (by decide) m_232 e_243 rfl (fun q9 => ?_)
      refine g_astore o [(4, .ref q9), (0, .ref (a 0)), (1, .int p1), (2, .int p2), (3, .ref oa)] (Nat.le_of_ble_eq_true rfl) rfl dL_isForced_24 ?_
      refine g_iconst o ic_2 dL_isForced_26 ?_
      cases Option.some.inj hf
      exact g_iret hret (Nat.le_of_ble_eq_true rfl) (Nat.le_of_ble_eq_true rfl) (vp_nar_int _) dL_isForced_27
    rw [if_neg hE] at hf
    cases hf
theorem c_L_isForced (l : Launch) (hst : l.stackTraces = false) (a b c : Nat → Nat) (oa : Nat) (u v w : St) (f : Nat → Int64) (p1 : Int32) (p2 : Int32) (t : Int32 × (Nat → Int64)) (hf : f_L_isForced u v w f p1 p2 = some t) : CoI l yL_isForced (.codeWith yL_isForced cL_isForced 5 (some .int) [(0, 17, 20, 28), (0, 17, 24, 13)]) 15 2 12 [.ref (a 0), .int p1, .int p2, .ref oa] (wXo a u b v c w oa f) (wXo a u b v c w oa t.2) (.inl t.1) := mkH hst (by decide +kernel) (Nat.le_of_ble_eq_true rfl) (fun x _ o htab hI => b_L_isForced o htab a b c oa u v w f p1 p2 t hf (hI _ rfl))
set_option maxRecDepth 20000 in
set_option maxHeartbeats 2000000 in
theorem b_L_isIdempotent {x : Cx} (o : Ok x cL_isIdempotent 5 RL 3 2 12) (htab : (cxc x).exceptionTable.toList = tableOf [(0, 17, 20, 13)]) (a b c : Nat → Nat) (oa : Nat) (u v w : St) (f : Nat → Int64) (p1 : Int32) (p2 : Int32) (t : Int32 × (Nat → Int64)) (hf : f_L_isIdempotent u v w f p1 p2 = some t) (hret : RetI x cL_isIdempotent .int 2 12 (wXo a u b v c w oa t.2 (cxT x)) t.1) : G x 5 0 0 (wXo a u b v c w oa f (cxT x)) [(0, .ref (a 0)), (1, .int p1), (2, .int p2), (3, .ref oa)] 0 [] := by
  unfold f_L_isIdempotent at hf
  refine g_aload_n o 3 rfl rfl dL_isIdempotent_0 ?_
  refine g_iconst o ic_0 dL_isIdempotent_1 ?_
  refine g_aload_n o 0 rfl rfl dL_isIdempotent_2 ?_
  refine g_iload_n o 1 rfl rfl dL_isIdempotent_3 ?_
  refine g_iload_n o 2 rfl rfl dL_isIdempotent_4 ?_
  rcases bz_some hf with ⟨r3, hr3, hf⟩ | ⟨E4, hr3, hf⟩
  · refine k_X1_isIdempotent_Ln o hr3 m_553 (Nat.le_of_ble_eq_true rfl) (Nat.le_of_ble_eq_true rfl) ⟨(Nat.le_of_ble_eq_true rfl), (Nat.le_of_ble_eq_true rfl)⟩ dL_isIdempotent_5 ?_
    refine g_if_eq (tgt := 15) o rfl dL_isIdempotent_8 hf (fun hc hf => ?_) (fun hc hf => ?_)
    · refine g_lconst o lc_0 dL_isIdempotent_15 ?_
      refine L_ost o dL_isIdempotent_16 hf (fun hf => ?_)
      refine g_goto (tgt := 24) o rfl dL_isIdempotent_17 ?_
      refine g_iconst o ic_0 dL_isIdempotent_24 ?_
      cases Option.some.inj hf
      exact g_iret hret (Nat.le_of_ble_eq_true rfl) (Nat.le_of_ble_eq_true rfl) (vp_nar_int _) dL_isIdempotent_25
    · refine g_lconst o lc_1 dL_isIdempotent_11 ?_
      refine g_goto (tgt := 16) o rfl dL_isIdempotent_12 ?_
      refine L_ost o dL_isIdempotent_16 hf (fun hf => ?_)
      refine g_goto (tgt := 24) o rfl dL_isIdempotent_17 ?_
      refine g_iconst o ic_0 dL_isIdempotent_24 ?_
      cases Option.some.inj hf
      exact g_iret hret (Nat.le_of_ble_eq_true rfl) (Nat.le_of_ble_eq_true rfl) (vp_nar_int _) dL_isIdempotent_25
  · refine k_X1_isIdempotent_Lx o hr3 m_553 (Nat.le_of_ble_eq_true rfl) (Nat.le_of_ble_eq_true rfl) ⟨(Nat.le_of_ble_eq_true rfl), (Nat.le_of_ble_eq_true rfl)⟩ dL_isIdempotent_5 ?_
    by_cases hE : E4 = eIA
    · subst hE
      rw [if_pos rfl] at hf
      refine xw_catch o htab [] ⟨0, 17, 20, 13⟩ [] rfl (fun q hq => by cases hq) (by decide) (by decide) m_232 e_243 rfl (fun q9 => ?_)
      refine g_astore o [(4, .ref q9), (0, .ref (a 0)), (1, .int p1), (2, .int p2), (3, .ref oa)] (Nat.le_of_ble_eq_true rfl) rfl dL_isIdempotent_20 ?_
      refine g_iconst o ic_1 dL_isIdempotent_22 ?_
      cases Option.some.inj hf
      exact g_iret hret (Nat.le_of_ble_eq_true rfl) (Nat.le_of_ble_eq_true rfl) (vp_nar_int _) dL_isIdempotent_23
    rw [if_neg hE] at hf
    cases hf
theorem c_L_isIdempotent (l : Launch) (hst : l.stackTraces = false) (a b c : Nat → Nat) (oa : Nat) (u v w : St) (f : Nat → Int64) (p1 : Int32) (p2 : Int32) (t : Int32 × (Nat → Int64)) (hf : f_L_isIdempotent u v w f p1 p2 = some t) : CoI l yL_isIdempotent (.codeWith yL_isIdempotent cL_isIdempotent 5 (some .int) [(0, 17, 20, 13)]) 3 2 12 [.ref (a 0), .int p1, .int p2, .ref oa] (wXo a u b v c w oa f) (wXo a u b v c w oa t.2) (.inl t.1) := mkH hst (by decide +kernel) (Nat.le_of_ble_eq_true rfl) (fun x _ o htab hI => b_L_isIdempotent o htab a b c oa u v w f p1 p2 t hf (hI _ rfl))
set_option maxRecDepth 20000 in
set_option maxHeartbeats 2000000 in
theorem b_L_isMonotone {x : Cx} (o : Ok x cL_isMonotone 5 RL 4 2 12) (htab : (cxc x).exceptionTable.toList = tableOf [(0, 17, 20, 13)]) (a b c : Nat → Nat) (oa : Nat) (u v w : St) (f : Nat → Int64) (p1 : Int32) (p2 : Int32) (t : Int32 × (Nat → Int64)) (hf : f_L_isMonotone u v w f p1 p2 = some t) (hret : RetI x cL_isMonotone .int 2 12 (wXo a u b v c w oa t.2 (cxT x)) t.1) : G x 5 0 0 (wXo a u b v c w oa f (cxT x)) [(0, .ref (a 0)), (1, .int p1), (2, .int p2), (3, .ref oa)] 0 [] := by
  unfold f_L_isMonotone at hf
  refine g_aload_n o 3 rfl rfl dL_isMonotone_0 ?_
  refine g_iconst o ic_0 dL_isMonotone_1 ?_
  refine g_aload_n o 0 rfl rfl dL_isMonotone_2 ?_
  refine g_iload_n o 1 rfl rfl dL_isMonotone_3 ?_
  refine g_iload_n o 2 rfl rfl dL_isMonotone_4 ?_
  rcases bz_some hf with ⟨r3, hr3, hf⟩ | ⟨E4, hr3, hf⟩
  · refine k_X1_isMonotone_Ln o hr3 m_560 (Nat.le_of_ble_eq_true rfl) (Nat.le_of_ble_eq_true rfl) ⟨(Nat.le_of_ble_eq_true rfl), (Nat.le_of_ble_eq_true rfl)⟩ dL_isMonotone_5 ?_
    refine g_if_eq (tgt := 15) o rfl dL_isMonotone_8 hf (fun hc hf => ?_) (fun hc hf => ?_)
    · refine g_lconst o lc_0 dL_isMonotone_15 ?_
      refine L_ost o dL_isMonotone_16 hf (fun hf => ?_)
      refine g_goto (tgt := 24) o rfl dL_isMonotone_17 ?_
      refine g_iconst o ic_0 dL_isMonotone_24 ?_
      cases Option.some.inj hf
      exact g_iret hret (Nat.le_of_ble_eq_true rfl) (Nat.le_of_ble_eq_true rfl) (vp_nar_int _) dL_isMonotone_25
    · refine g_lconst o lc_1 dL_isMonotone_11 ?_
      refine g_goto (tgt := 16) o rfl dL_isMonotone_12 ?_
      refine L_ost o dL_isMonotone_16 hf (fun hf => ?_)
      refine g_goto (tgt := 24) o rfl dL_isMonotone_17 ?_
      refine g_iconst o ic_0 dL_isMonotone_24 ?_
      cases Option.some.inj hf
      exact g_iret hret (Nat.le_of_ble_eq_true rfl) (Nat.le_of_ble_eq_true rfl) (vp_nar_int _) dL_isMonotone_25
  · refine k_X1_isMonotone_Lx o hr3 m_560 (Nat.le_of_ble_eq_true rfl) (Nat.le_of_ble_eq_true rfl) ⟨(Nat.le_of_ble_eq_true rfl), (Nat.le_of_ble_eq_true rfl)⟩ dL_isMonotone_5 ?_
    by_cases hE : E4 = eIA
    · subst hE
      rw [if_pos rfl] at hf
      refine xw_catch o htab [] ⟨0, 17, 20, 13⟩ [] rfl (fun q hq => by cases hq) (by decide) (by decide) m_232 e_243 rfl (fun q9 => ?_)
      refine g_astore o [(4, .ref q9), (0, .ref (a 0)), (1, .int p1), (2, .int p2), (3, .ref oa)] (Nat.le_of_ble_eq_true rfl) rfl dL_isMonotone_20 ?_
      refine g_iconst o ic_1 dL_isMonotone_22 ?_
      cases Option.some.inj hf
      exact g_iret hret (Nat.le_of_ble_eq_true rfl) (Nat.le_of_ble_eq_true rfl) (vp_nar_int _) dL_isMonotone_23
    rw [if_neg hE] at hf
    cases hf
theorem c_L_isMonotone (l : Launch) (hst : l.stackTraces = false) (a b c : Nat → Nat) (oa : Nat) (u v w : St) (f : Nat → Int64) (p1 : Int32) (p2 : Int32) (t : Int32 × (Nat → Int64)) (hf : f_L_isMonotone u v w f p1 p2 = some t) : CoI l yL_isMonotone (.codeWith yL_isMonotone cL_isMonotone 5 (some .int) [(0, 17, 20, 13)]) 4 2 12 [.ref (a 0), .int p1, .int p2, .ref oa] (wXo a u b v c w oa f) (wXo a u b v c w oa t.2) (.inl t.1) := mkH hst (by decide +kernel) (Nat.le_of_ble_eq_true rfl) (fun x _ o htab hI => b_L_isMonotone o htab a b c oa u v w f p1 p2 t hf (hI _ rfl))
set_option maxRecDepth 20000 in
set_option maxHeartbeats 2000000 in
theorem b_L_isPolymorphism {x : Cx} (o : Ok x cL_isPolymorphism 5 RL 5 2 12) (htab : (cxc x).exceptionTable.toList = tableOf [(0, 17, 20, 13)]) (a b c : Nat → Nat) (oa : Nat) (u v w : St) (f : Nat → Int64) (p1 : Int32) (p2 : Int32) (t : Int32 × (Nat → Int64)) (hf : f_L_isPolymorphism u v w f p1 p2 = some t) (hret : RetI x cL_isPolymorphism .int 2 12 (wXo a u b v c w oa t.2 (cxT x)) t.1) : G x 5 0 0 (wXo a u b v c w oa f (cxT x)) [(0, .ref (a 0)), (1, .int p1), (2, .int p2), (3, .ref oa)] 0 [] := by
  unfold f_L_isPolymorphism at hf
  refine g_aload_n o 3 rfl rfl dL_isPolymorphism_0 ?_
  refine g_iconst o ic_0 dL_isPolymorphism_1 ?_
  refine g_aload_n o 0 rfl rfl dL_isPolymorphism_2 ?_
  refine g_iload_n o 1 rfl rfl dL_isPolymorphism_3 ?_
  refine g_iload_n o 2 rfl rfl dL_isPolymorphism_4 ?_
  rcases bz_some hf with ⟨r3, hr3, hf⟩ | ⟨E4, hr3, hf⟩
  · refine k_X1_isPolymorphism_Ln o hr3 m_511 (Nat.le_of_ble_eq_true rfl) (Nat.le_of_ble_eq_true rfl) ⟨(Nat.le_of_ble_eq_true rfl), (Nat.le_of_ble_eq_true rfl)⟩ dL_isPolymorphism_5 ?_
    refine g_if_eq (tgt := 15) o rfl dL_isPolymorphism_8 hf (fun hc hf => ?_) (fun hc hf => ?_)
    · refine g_lconst o lc_0 dL_isPolymorphism_15 ?_
      refine L_ost o dL_isPolymorphism_16 hf (fun hf => ?_)
      refine g_goto (tgt := 24) o rfl dL_isPolymorphism_17 ?_
      refine g_iconst o ic_0 dL_isPolymorphism_24 ?_
      cases Option.some.inj hf
      exact g_iret hret (Nat.le_of_ble_eq_true rfl) (Nat.le_of_ble_eq_true rfl) (vp_nar_int _) dL_isPolymorphism_25
    · refine g_lconst o lc_1 dL_isPolymorphism_11 ?_
      refine g_goto (tgt := 16) o rfl dL_isPolymorphism_12 ?_
      refine L_ost o dL_isPolymorphism_16 hf (fun hf => ?_)
      refine g_goto (tgt := 24) o rfl dL_isPolymorphism_17 ?_
      refine g_iconst o ic_0 dL_isPolymorphism_24 ?_
      cases Option.some.inj hf
      exact g_iret hret (Nat.le_of_ble_eq_true rfl) (Nat.le_of_ble_eq_true rfl) (vp_nar_int _) dL_isPolymorphism_25
  · refine k_X1_isPolymorphism_Lx o hr3 m_511 (Nat.le_of_ble_eq_true rfl) (Nat.le_of_ble_eq_true rfl) ⟨(Nat.le_of_ble_eq_true rfl), (Nat.le_of_ble_eq_true rfl)⟩ dL_isPolymorphism_5 ?_
    by_cases hE : E4 = eIA
    · subst hE
      rw [if_pos rfl] at hf
      refine xw_catch o htab [] ⟨0, 17, 20, 13⟩ [] rfl (fun q hq => by cases hq) (by decide) (by decide) m_232 e_243 rfl (fun q9 => ?_)
      refine g_astore o [(4, .ref q9), (0, .ref (a 0)), (1, .int p1), (2, .int p2), (3, .ref oa)] (Nat.le_of_ble_eq_true rfl) rfl dL_isPolymorphism_20 ?_
      refine g_iconst o ic_1 dL_isPolymorphism_22 ?_
      cases Option.some.inj hf
      exact g_iret hret (Nat.le_of_ble_eq_true rfl) (Nat.le_of_ble_eq_true rfl) (vp_nar_int _) dL_isPolymorphism_23
    rw [if_neg hE] at hf
    cases hf
theorem c_L_isPolymorphism (l : Launch) (hst : l.stackTraces = false) (a b c : Nat → Nat) (oa : Nat) (u v w : St) (f : Nat → Int64) (p1 : Int32) (p2 : Int32) (t : Int32 × (Nat → Int64)) (hf : f_L_isPolymorphism u v w f p1 p2 = some t) : CoI l yL_isPolymorphism (.codeWith yL_isPolymorphism cL_isPolymorphism 5 (some .int) [(0, 17, 20, 13)]) 5 2 12 [.ref (a 0), .int p1, .int p2, .ref oa] (wXo a u b v c w oa f) (wXo a u b v c w oa t.2) (.inl t.1) := mkH hst (by decide +kernel) (Nat.le_of_ble_eq_true rfl) (fun x _ o htab hI => b_L_isPolymorphism o htab a b c oa u v w f p1 p2 t hf (hI _ rfl))
set_option maxRecDepth 20000 in
set_option maxHeartbeats 2000000 in
theorem b_L_isRedundant {x : Cx} (o : Ok x cL_isRedundant 4 RL 15 1 6) (htab : (cxc x).exceptionTable.toList = tableOf [(0, 16, 19, 28)]) (a b c : Nat → Nat) (oa : Nat) (u v w : St) (f : Nat → Int64) (p1 : Int32) (t : Int32 × (Nat → Int64)) (hf : f_L_isRedundant u v w f p1 = some t) (hret : RetI x cL_isRedundant .int 1 6 (wXo a u b v c w oa t.2 (cxT x)) t.1) : G x 4 0 0 (wXo a u b v c w oa f (cxT x)) [(0, .ref (a 0)), (1, .int p1), (2, .ref oa)] 0 [] := by
  unfold f_L_isRedundant at hf
  refine g_aload_n o 2 rfl rfl dL_isRedundant_0 ?_
  refine g_iconst o ic_0 dL_isRedundant_1 ?_
  refine g_aload_n o 0 rfl rfl dL_isRedundant_2 ?_
  refine g_iload_n o 1 rfl rfl dL_isRedundant_3 ?_
  rcases bz_some hf with ⟨r3, hr3, hf⟩ | ⟨E4, hr3, hf⟩
  · refine k_X1_isRedundant_Ln o hr3 m_802 (Nat.le_of_ble_eq_true rfl) (Nat.le_of_ble_eq_true rfl) ⟨(Nat.le_of_ble_eq_true rfl), (Nat.le_of_ble_eq_true rfl)⟩ dL_isRedundant_4 ?_
    refine g_if_eq (tgt := 14) o rfl dL_isRedundant_7 hf (fun hc hf => ?_) (fun hc hf => ?_)
    · refine g_lconst o lc_0 dL_isRedundant_14 ?_
      refine L_ost o dL_isRedundant_15 hf (fun hf => ?_)
      refine g_goto (tgt := 22) o rfl dL_isRedundant_16 ?_
      refine g_iconst o ic_0 dL_isRedundant_22 ?_
      cases Option.some.inj hf
      exact g_iret hret (Nat.le_of_ble_eq_true rfl) (Nat.le_of_ble_eq_true rfl) (vp_nar_int _) dL_isRedundant_23
    · refine g_lconst o lc_1 dL_isRedundant_10 ?_
      refine g_goto (tgt := 15) o rfl dL_isRedundant_11 ?_
      refine L_ost o dL_isRedundant_15 hf (fun hf => ?_)
      refine g_goto (tgt := 22) o rfl dL_isRedundant_16 ?_
      refine g_iconst o ic_0 dL_isRedundant_22 ?_
      cases Option.some.inj hf
      exact g_iret hret (Nat.le_of_ble_eq_true rfl) (Nat.le_of_ble_eq_true rfl) (vp_nar_int _) dL_isRedundant_23
  · refine k_X1_isRedundant_Lx o hr3 m_802 (Nat.le_of_ble_eq_true rfl) (Nat.le_of_ble_eq_true rfl) ⟨(Nat.le_of_ble_eq_true rfl), (Nat.le_of_ble_eq_true rfl)⟩ dL_isRedundant_4 ?_
    by_cases hE : E4 = eIO
    · subst hE
      rw [if_pos rfl] at hf
      refine xw_catch o htab [] ⟨0, 16, 19, 28⟩ [] rfl (fun q hq => by cases hq) (by decide) (by decide) m_364 e_375 rfl (fun q9 => ?_)
      refine g_astore_n o [(3, .ref q9), (0, .ref (a 0)), (1, .int p1), (2, .ref oa)] (Nat.le_of_ble_eq_true rfl) rfl rfl dL_isRedundant_19 ?_
      refine g_iconst o ic_1 dL_isRedundant_20 ?_
      cases Option.some.inj hf
      exact g_iret hret (Nat.le_of_ble_eq_true rfl) (Nat.le_of_ble_eq_true rfl) (vp_nar_int _) dL_isRedundant_21
    rw [if_neg hE] at hf
    cases hf
theorem c_L_isRedundant (l : Launch) (hst : l.stackTraces = false) (a b c : Nat → Nat) (oa : Nat) (u v w : St) (f : Nat → Int64) (p1 : Int32) (t : Int32 × (Nat → Int64)) (hf : f_L_isRedundant u v w f p1 = some t) : CoI l yL_isRedundant (.codeWith yL_isRedundant cL_isRedundant 4 (some .int) [(0, 16, 19, 28)]) 15 1 6 [.ref (a 0), .int p1, .ref oa] (wXo a u b v c w oa f) (wXo a u b v c w oa t.2) (.inl t.1) := mkH hst (by decide +kernel) (Nat.le_of_ble_eq_true rfl) (fun x _ o htab hI => b_L_isRedundant o htab a b c oa u v w f p1 t hf (hI _ rfl))
set_option maxRecDepth 20000 in
set_option maxHeartbeats 2000000 in
theorem b_L_removeTuple {x : Cx} (o : Ok x cL_removeTuple 5 RL 3 2 12) (htab : (cxc x).exceptionTable.toList = tableOf [(0, 17, 20, 28), (0, 17, 24, 13)]) (a b c : Nat → Nat) (oa : Nat) (u v w : St) (f : Nat → Int64) (p1 : Int32) (p2 : Int32) (t : Int32 × St × (Nat → Int64)) (hf : f_L_removeTuple u v w f p1 p2 = some t) (hret : RetI x cL_removeTuple .int 2 12 (wXo a u b t.2.1 c w oa t.2.2 (cxT x)) t.1) : G x 5 0 0 (wXo a u b v c w oa f (cxT x)) [(0, .ref (a 0)), (1, .int p1), (2, .int p2), (3, .ref oa)] 0 [] := by
  unfold f_L_removeTuple at hf
  refine g_aload_n o 3 rfl rfl dL_removeTuple_0 ?_
  refine g_iconst o ic_0 dL_removeTuple_1 ?_
  refine g_aload_n o 0 rfl rfl dL_removeTuple_2 ?_
  refine g_iload_n o 1 rfl rfl dL_removeTuple_3 ?_
  refine g_iload_n o 2 rfl rfl dL_removeTuple_4 ?_
  rcases bx_some hf with ⟨r4, z6, hr4, hf⟩ | ⟨E5, z6, hr4, hf⟩
  · refine k_X1_removeTuple_Ln o hr4 m_398 (Nat.le_of_ble_eq_true rfl) (Nat.le_of_ble_eq_true rfl) ⟨(Nat.le_of_ble_eq_true rfl), (Nat.le_of_ble_eq_true rfl)⟩ dL_removeTuple_5 ?_
    refine g_if_eq (tgt := 15) o rfl dL_removeTuple_8 hf (fun hc hf => ?_) (fun hc hf => ?_)
    · refine g_lconst o lc_0 dL_removeTuple_15 ?_
      refine L_ost o dL_removeTuple_16 hf (fun hf => ?_)
      refine g_goto (tgt := 28) o rfl dL_removeTuple_17 ?_
      refine g_iconst o ic_0 dL_removeTuple_28 ?_
      cases Option.some.inj hf
      exact g_iret hret (Nat.le_of_ble_eq_true rfl) (Nat.le_of_ble_eq_true rfl) (vp_nar_int _) dL_removeTuple_29
    · refine g_lconst o lc_1 dL_removeTuple_11 ?_
      refine g_goto (tgt := 16) o rfl dL_removeTuple_12 ?_
      refine L_ost o dL_removeTuple_16 hf (fun hf => ?_)
      refine g_goto (tgt := 28) o rfl dL_removeTuple_17 ?_
      refine g_iconst o ic_0 dL_removeTuple_28 ?_
      cases Option.some.inj hf
      exact g_iret hret (Nat.le_of_ble_eq_true rfl) (Nat.le_of_ble_eq_true rfl) (vp_nar_int _) dL_removeTuple_29
  · refine k_X1_removeTuple_Lx o hr4 m_398 (Nat.le_of_ble_eq_true rfl) (Nat.le_of_ble_eq_true rfl) ⟨(Nat.le_of_ble_eq_true rfl), (Nat.le_of_ble_eq_true rfl)⟩ dL_removeTuple_5 ?_
    by_cases hE : E5 = eIO
    · subst hE
      rw [if_pos rfl] at hf
      refine xw_catch o htab [] ⟨0, 17, 20, 28⟩ [⟨0, 17, 24, 13⟩] rfl (fun q hq => by cases hq) (by decide) (by decide) m_364 e_375 rfl (fun q9 => ?_)
      refine g_astore o [(4, .ref q9), (0, .ref (a 0)), (1, .int p1), (2, .int p2), (3, .ref oa)] (Nat.le_of_ble_eq_true rfl) rfl dL_removeTuple_20 ?_
      refine g_iconst o ic_1 dL_removeTuple_22 ?_
      cases Option.some.inj hf
      exact g_iret hret (Nat.le_of_ble_eq_true rfl) (Nat.le_of_ble_eq_true rfl) (vp_nar_int _) dL_removeTuple_23
    rw [if_neg hE] at hf
    by_cases hE : E5 = eIA
    · subst hE
      rw [if_pos rfl] at hf
      refine xw_catch o htab [⟨0, 17, 20, 28⟩] ⟨0, 17, 24, 13⟩ [] rfl (List.forall_mem_cons.mpr ⟨⟨by decide, eIO, m_364, nc_eIA_eIO⟩, (fun q hq => by cases hq)⟩) (by decide) (by decide) m_232 e_243 rfl (fun q9 => ?_)
      refine g_astore o [(4, .ref q9), (0, .ref (a 0)), (1, .int p1), (2, .int p2), (3, .ref oa)] (Nat.le_of_ble_eq_true rfl) rfl dL_removeTuple_24 ?_
      refine g_iconst o ic_2 dL_removeTuple_26 ?_
      cases Option.some.inj hf
      exact g_iret hret (Nat.le_of_ble_eq_true rfl) (Nat.le_of_ble_eq_true rfl) (vp_nar_int _) dL_removeTuple_27
    rw [if_neg hE] at hf
    cases hf
theorem c_L_removeTuple (l : Launch) (hst : l.stackTraces = false) (a b c : Nat → Nat) (oa : Nat) (u v w : St) (f : Nat → Int64) (p1 : Int32) (p2 : Int32) (t : Int32 × St × (Nat → Int64)) (hf : f_L_removeTuple u v w f p1 p2 = some t) : CoI l yL_removeTuple (.codeWith yL_removeTuple cL_removeTuple 5 (some .int) [(0, 17, 20, 28), (0, 17, 24, 13)]) 3 2 12 [.ref (a 0), .int p1, .int p2, .ref oa] (wXo a u b v c w oa f) (wXo a u b t.2.1 c w oa t.2.2) (.inl t.1) := mkH hst (by decide +kernel) (Nat.le_of_ble_eq_true rfl) (fun x _ o htab hI => b_L_removeTuple o htab a b c oa u v w f p1 p2 t hf (hI _ rfl))
set_option maxRecDepth 20000 in
set_option maxHeartbeats 2000000 in
theorem b_L_tupleCount {x : Cx} (o : Ok x cL_tupleCount 4 RL 2 1 6) (htab : (cxc x).exceptionTable.toList = tableOf [(0, 9, 12, 28)]) (a b c : Nat → Nat) (oa : Nat) (u v w : St) (f : Nat → Int64) (p1 : Int32) (t : Int32 × (Nat → Int64)) (hf : f_L_tupleCount u v w f p1 = some t) (hret : RetI x cL_tupleCount .int 1 6 (wXo a u b v c w oa t.2 (cxT x)) t.1) : G x 4 0 0 (wXo a u b v c w oa f (cxT x)) [(0, .ref (a 0)), (1, .int p1), (2, .ref oa)] 0 [] := by
  unfold f_L_tupleCount at hf
  refine g_aload_n o 2 rfl rfl dL_tupleCount_0 ?_
  refine g_iconst o ic_0 dL_tupleCount_1 ?_
  refine g_aload_n o 0 rfl rfl dL_tupleCount_2 ?_
  refine g_iload_n o 1 rfl rfl dL_tupleCount_3 ?_
  rcases bz_some hf with ⟨r3, hr3, hf⟩ | ⟨E4, hr3, hf⟩
  · refine k_X1_tupleCount_Ln o hr3 m_412 (Nat.le_of_ble_eq_true rfl) (Nat.le_of_ble_eq_true rfl) ⟨(Nat.le_of_ble_eq_true rfl), (Nat.le_of_ble_eq_true rfl)⟩ dL_tupleCount_4 ?_
    refine g_i2l o dL_tupleCount_7 ?_
    refine L_ost o dL_tupleCount_8 hf (fun hf => ?_)
    refine g_goto (tgt := 15) o rfl dL_tupleCount_9 ?_
    refine g_iconst o ic_0 dL_tupleCount_15 ?_
    cases Option.some.inj hf
    exact g_iret hret (Nat.le_of_ble_eq_true rfl) (Nat.le_of_ble_eq_true rfl) (vp_nar_int _) dL_tupleCount_16
  · refine k_X1_tupleCount_Lx o hr3 m_412 (Nat.le_of_ble_eq_true rfl) (Nat.le_of_ble_eq_true rfl) ⟨(Nat.le_of_ble_eq_true rfl), (Nat.le_of_ble_eq_true rfl)⟩ dL_tupleCount_4 ?_
    by_cases hE : E4 = eIO
    · subst hE
      rw [if_pos rfl] at hf
      refine xw_catch o htab [] ⟨0, 9, 12, 28⟩ [] rfl (fun q hq => by cases hq) (by decide) (by decide) m_364 e_375 rfl (fun q9 => ?_)
      refine g_astore_n o [(3, .ref q9), (0, .ref (a 0)), (1, .int p1), (2, .ref oa)] (Nat.le_of_ble_eq_true rfl) rfl rfl dL_tupleCount_12 ?_
      refine g_iconst o ic_1 dL_tupleCount_13 ?_
      cases Option.some.inj hf
      exact g_iret hret (Nat.le_of_ble_eq_true rfl) (Nat.le_of_ble_eq_true rfl) (vp_nar_int _) dL_tupleCount_14
    rw [if_neg hE] at hf
    cases hf
theorem c_L_tupleCount (l : Launch) (hst : l.stackTraces = false) (a b c : Nat → Nat) (oa : Nat) (u v w : St) (f : Nat → Int64) (p1 : Int32) (t : Int32 × (Nat → Int64)) (hf : f_L_tupleCount u v w f p1 = some t) : CoI l yL_tupleCount (.codeWith yL_tupleCount cL_tupleCount 4 (some .int) [(0, 9, 12, 28)]) 2 1 6 [.ref (a 0), .int p1, .ref oa] (wXo a u b v c w oa f) (wXo a u b v c w oa t.2) (.inl t.1) := mkH hst (by decide +kernel) (Nat.le_of_ble_eq_true rfl) (fun x _ o htab hI => b_L_tupleCount o htab a b c oa u v w f p1 t hf (hI _ rfl))
set_option maxRecDepth 20000 in
set_option maxHeartbeats 2000000 in
theorem b_L_preserves {x : Cx} (o : Ok x cL_preserves 6 RL 4 3 18) (htab : (cxc x).exceptionTable.toList = tableOf [(0, 19, 22, 13), (0, 19, 26, 28)]) (a b c : Nat → Nat) (oa : Nat) (u v w : St) (f : Nat → Int64) (p1 : Int32) (p2 : Int32) (p3 : Int32) (t : Int32 × (Nat → Int64)) (hf : f_L_preserves u v w f p1 p2 p3 = some t) (hret : RetI x cL_preserves .int 3 18 (wXo a u b v c w oa t.2 (cxT x)) t.1) : G x 6 0 0 (wXo a u b v c w oa f (cxT x)) [(0, .ref (a 0)), (1, .int p1), (2, .int p2), (3, .int p3), (4, .ref oa)] 0 [] := by
  unfold f_L_preserves at hf
  refine g_aload o 4 rfl dL_preserves_0 ?_
  refine g_iconst o ic_0 dL_preserves_2 ?_
  refine g_aload_n o 0 rfl rfl dL_preserves_3 ?_
  refine g_iload_n o 1 rfl rfl dL_preserves_4 ?_
  refine g_iload_n o 2 rfl rfl dL_preserves_5 ?_
  refine g_iload_n o 3 rfl rfl dL_preserves_6 ?_
  rcases bz_some hf with ⟨r3, hr3, hf⟩ | ⟨E4, hr3, hf⟩
  · refine k_X1_preserves_Ln o hr3 m_491 (Nat.le_of_ble_eq_true rfl) (Nat.le_of_ble_eq_true rfl) ⟨(Nat.le_of_ble_eq_true rfl), (Nat.le_of_ble_eq_true rfl)⟩ dL_preserves_7 ?_
    refine g_if_eq (tgt := 17) o rfl dL_preserves_10 hf (fun hc hf => ?_) (fun hc hf => ?_)
    · refine g_lconst o lc_0 dL_preserves_17 ?_
      refine L_ost o dL_preserves_18 hf (fun hf => ?_)
      refine g_goto (tgt := 30) o rfl dL_preserves_19 ?_
      refine g_iconst o ic_0 dL_preserves_30 ?_
      cases Option.some.inj hf
      exact g_iret hret (Nat.le_of_ble_eq_true rfl) (Nat.le_of_ble_eq_true rfl) (vp_nar_int _) dL_preserves_31
    · refine g_lconst o lc_1 dL_preserves_13 ?_
      refine g_goto (tgt := 18) o rfl dL_preserves_14 ?_
      refine L_ost o dL_preserves_18 hf (fun hf => ?_)
      refine g_goto (tgt := 30) o rfl dL_preserves_19 ?_
      refine g_iconst o ic_0 dL_preserves_30 ?_
      cases Option.some.inj hf
      exact g_iret hret (Nat.le_of_ble_eq_true rfl) (Nat.le_of_ble_eq_true rfl) (vp_nar_int _) dL_preserves_31
  · refine k_X1_preserves_Lx o hr3 m_491 (Nat.le_of_ble_eq_true rfl) (Nat.le_of_ble_eq_true rfl) ⟨(Nat.le_of_ble_eq_true rfl), (Nat.le_of_ble_eq_true rfl)⟩ dL_preserves_7 ?_
    by_cases hE : E4 = eIA
    · subst hE
      rw [if_pos rfl] at hf
      refine xw_catch o htab [] ⟨0, 19, 22, 13⟩ [⟨0, 19, 26, 28⟩] rfl (fun q hq => by cases hq) (by decide) (by decide) m_232 e_243 rfl (fun q9 => ?_)
      refine g_astore o [(5, .ref q9), (0, .ref (a 0)), (1, .int p1), (2, .int p2), (3, .int p3), (4, .ref oa)] (Nat.le_of_ble_eq_true rfl) rfl dL_preserves_22 ?_
      refine g_iconst o ic_1 dL_preserves_24 ?_
      cases Option.some.inj hf
      exact g_iret hret (Nat.le_of_ble_eq_true rfl) (Nat.le_of_ble_eq_true rfl) (vp_nar_int _) dL_preserves_25
    rw [if_neg hE] at hf
    by_cases hE : E4 = eIO
    · subst hE
      rw [if_pos rfl] at hf
      refine xw_catch o htab [⟨0, 19, 22, 13⟩] ⟨0, 19, 26, 28⟩ [] rfl (List.forall_mem_cons.mpr ⟨⟨by decide, eIA, m_232, nc_eIO_eIA⟩, (fun q hq => by cases hq)⟩) (by decide) (by decide) m_364 e_375 rfl (fun q9 => ?_)
      refine g_astore o [(5, .ref q9), (0, .ref (a 0)), (1, .int p1), (2, .int p2), (3, .int p3), (4, .ref oa)] (Nat.le_of_ble_eq_true rfl) rfl dL_preserves_26 ?_
      refine g_iconst o ic_2 dL_preserves_28 ?_
      cases Option.some.inj hf
      exact g_iret hret (Nat.le_of_ble_eq_true rfl) (Nat.le_of_ble_eq_true rfl) (vp_nar_int _) dL_preserves_29
    rw [if_neg hE] at hf
    cases hf
theorem c_L_preserves (l : Launch) (hst : l.stackTraces = false) (a b c : Nat → Nat) (oa : Nat) (u v w : St) (f : Nat → Int64) (p1 : Int32) (p2 : Int32) (p3 : Int32) (t : Int32 × (Nat → Int64)) (hf : f_L_preserves u v w f p1 p2 p3 = some t) : CoI l yL_preserves (.codeWith yL_preserves cL_preserves 6 (some .int) [(0, 19, 22, 13), (0, 19, 26, 28)]) 4 3 18 [.ref (a 0), .int p1, .int p2, .int p3, .ref oa] (wXo a u b v c w oa f) (wXo a u b v c w oa t.2) (.inl t.1) := mkH hst (by decide +kernel) (Nat.le_of_ble_eq_true rfl) (fun x _ o htab hI => b_L_preserves o htab a b c oa u v w f p1 p2 p3 t hf (hI _ rfl))
set_option maxRecDepth 20000 in
set_option maxHeartbeats 2000000 in
theorem b_L_polymorphismCount {x : Cx} (o : Ok x cL_polymorphismCount 4 RL 5 1 6) (htab : (cxc x).exceptionTable.toList = tableOf [(0, 9, 12, 13)]) (a b c : Nat → Nat) (oa : Nat) (u v w : St) (f : Nat → Int64) (p1 : Int32) (t : Int32 × (Nat → Int64)) (hf : f_L_polymorphismCount u v w f p1 = some t) (hret : RetI x cL_polymorphismCount .int 1 6 (wXo a u b v c w oa t.2 (cxT x)) t.1) : G x 4 0 0 (wXo a u b v c w oa f (cxT x)) [(0, .ref (a 0)), (1, .int p1), (2, .ref oa)] 0 [] := by
  unfold f_L_polymorphismCount at hf
  refine g_aload_n o 2 rfl rfl dL_polymorphismCount_0 ?_
  refine g_iconst o ic_0 dL_polymorphismCount_1 ?_
  refine g_aload_n o 0 rfl rfl dL_polymorphismCount_2 ?_
  refine g_iload_n o 1 rfl rfl dL_polymorphismCount_3 ?_
  rcases bz_some hf with ⟨r3, hr3, hf⟩ | ⟨E4, hr3, hf⟩
  · refine k_X1_polymorphismCount_Ln o hr3 m_522 (Nat.le_of_ble_eq_true rfl) (Nat.le_of_ble_eq_true rfl) ⟨(Nat.le_of_ble_eq_true rfl), (Nat.le_of_ble_eq_true rfl)⟩ dL_polymorphismCount_4 ?_
    refine g_i2l o dL_polymorphismCount_7 ?_
    refine L_ost o dL_polymorphismCount_8 hf (fun hf => ?_)
    refine g_goto (tgt := 15) o rfl dL_polymorphismCount_9 ?_
    refine g_iconst o ic_0 dL_polymorphismCount_15 ?_
    cases Option.some.inj hf
    exact g_iret hret (Nat.le_of_ble_eq_true rfl) (Nat.le_of_ble_eq_true rfl) (vp_nar_int _) dL_polymorphismCount_16
  · refine k_X1_polymorphismCount_Lx o hr3 m_522 (Nat.le_of_ble_eq_true rfl) (Nat.le_of_ble_eq_true rfl) ⟨(Nat.le_of_ble_eq_true rfl), (Nat.le_of_ble_eq_true rfl)⟩ dL_polymorphismCount_4 ?_
    by_cases hE : E4 = eIA
    · subst hE
      rw [if_pos rfl] at hf
      refine xw_catch o htab [] ⟨0, 9, 12, 13⟩ [] rfl (fun q hq => by cases hq) (by decide) (by decide) m_232 e_243 rfl (fun q9 => ?_)
      refine g_astore_n o [(3, .ref q9), (0, .ref (a 0)), (1, .int p1), (2, .ref oa)] (Nat.le_of_ble_eq_true rfl) rfl rfl dL_polymorphismCount_12 ?_
      refine g_iconst o ic_1 dL_polymorphismCount_13 ?_
      cases Option.some.inj hf
      exact g_iret hret (Nat.le_of_ble_eq_true rfl) (Nat.le_of_ble_eq_true rfl) (vp_nar_int _) dL_polymorphismCount_14
    rw [if_neg hE] at hf
    cases hf
theorem c_L_polymorphismCount (l : Launch) (hst : l.stackTraces = false) (a b c : Nat → Nat) (oa : Nat) (u v w : St) (f : Nat → Int64) (p1 : Int32) (t : Int32 × (Nat → Int64)) (hf : f_L_polymorphismCount u v w f p1 = some t) : CoI l yL_polymorphismCount (.codeWith yL_polymorphismCount cL_polymorphismCount 4 (some .int) [(0, 9, 12, 13)]) 5 1 6 [.ref (a 0), .int p1, .ref oa] (wXo a u b v c w oa f) (wXo a u b v c w oa t.2) (.inl t.1) := mkH hst (by decide +kernel) (Nat.le_of_ble_eq_true rfl) (fun x _ o htab hI => b_L_polymorphismCount o htab a b c oa u v w f p1 t hf (hI _ rfl))
set_option maxRecDepth 20000 in
set_option maxHeartbeats 2000000 in
theorem b_L_polymorphism {x : Cx} (o : Ok x cL_polymorphism 5 RL 5 2 12) (htab : (cxc x).exceptionTable.toList = tableOf [(0, 10, 13, 13), (0, 10, 17, 75)]) (a b c : Nat → Nat) (oa : Nat) (u v w : St) (f : Nat → Int64) (p1 : Int32) (p2 : Int32) (t : Int32 × (Nat → Int64)) (hf : f_L_polymorphism u v w f p1 p2 = some t) (hret : RetI x cL_polymorphism .int 2 12 (wXo a u b v c w oa t.2 (cxT x)) t.1) : G x 5 0 0 (wXo a u b v c w oa f (cxT x)) [(0, .ref (a 0)), (1, .int p1), (2, .int p2), (3, .ref oa)] 0 [] := by
  unfold f_L_polymorphism at hf
  refine g_aload_n o 3 rfl rfl dL_polymorphism_0 ?_
  refine g_iconst o ic_0 dL_polymorphism_1 ?_
  refine g_aload_n o 0 rfl rfl dL_polymorphism_2 ?_
  refine g_iload_n o 1 rfl rfl dL_polymorphism_3 ?_
  refine g_iload_n o 2 rfl rfl dL_polymorphism_4 ?_
  rcases bz_some hf with ⟨r3, hr3, hf⟩ | ⟨E4, hr3, hf⟩
  · refine k_X1_polymorphism_Ln o hr3 m_530 (Nat.le_of_ble_eq_true rfl) (Nat.le_of_ble_eq_true rfl) ⟨(Nat.le_of_ble_eq_true rfl), (Nat.le_of_ble_eq_true rfl)⟩ dL_polymorphism_5 ?_
    refine g_i2l o dL_polymorphism_8 ?_
    refine L_ost o dL_polymorphism_9 hf (fun hf => ?_)
    refine g_goto (tgt := 21) o rfl dL_polymorphism_10 ?_
    refine g_iconst o ic_0 dL_polymorphism_21 ?_
    cases Option.some.inj hf
    exact g_iret hret (Nat.le_of_ble_eq_true rfl) (Nat.le_of_ble_eq_true rfl) (vp_nar_int _) dL_polymorphism_22
  · refine k_X1_polymorphism_Lx o hr3 m_530 (Nat.le_of_ble_eq_true rfl) (Nat.le_of_ble_eq_true rfl) ⟨(Nat.le_of_ble_eq_true rfl), (Nat.le_of_ble_eq_true rfl)⟩ dL_polymorphism_5 ?_
    by_cases hE : E4 = eIA
    · subst hE
      rw [if_pos rfl] at hf
      refine xw_catch o htab [] ⟨0, 10, 13, 13⟩ [⟨0, 10, 17, 75⟩] rfl (fun q hq => by cases hq) (by decide) (by decide) m_232 e_243 rfl (fun q9 => ?_)
      refine g_astore o [(4, .ref q9), (0, .ref (a 0)), (1, .int p1), (2, .int p2), (3, .ref oa)] (Nat.le_of_ble_eq_true rfl) rfl dL_polymorphism_13 ?_
      refine g_iconst o ic_1 dL_polymorphism_15 ?_
      cases Option.some.inj hf
      exact g_iret hret (Nat.le_of_ble_eq_true rfl) (Nat.le_of_ble_eq_true rfl) (vp_nar_int _) dL_polymorphism_16
    rw [if_neg hE] at hf
    by_cases hE : E4 = eNS
    · subst hE
      rw [if_pos rfl] at hf
      refine xw_catch o htab [⟨0, 10, 13, 13⟩] ⟨0, 10, 17, 75⟩ [] rfl (List.forall_mem_cons.mpr ⟨⟨by decide, eIA, m_232, nc_eNS_eIA⟩, (fun q hq => by cases hq)⟩) (by decide) (by decide) m_529 e_536 rfl (fun q9 => ?_)
      refine g_astore o [(4, .ref q9), (0, .ref (a 0)), (1, .int p1), (2, .int p2), (3, .ref oa)] (Nat.le_of_ble_eq_true rfl) rfl dL_polymorphism_17 ?_
      refine g_iconst o ic_2 dL_polymorphism_19 ?_
      cases Option.some.inj hf
      exact g_iret hret (Nat.le_of_ble_eq_true rfl) (Nat.le_of_ble_eq_true rfl) (vp_nar_int _) dL_polymorphism_20
    rw [if_neg hE] at hf
    cases hf
theorem c_L_polymorphism (l : Launch) (hst : l.stackTraces = false) (a b c : Nat → Nat) (oa : Nat) (u v w : St) (f : Nat → Int64) (p1 : Int32) (p2 : Int32) (t : Int32 × (Nat → Int64)) (hf : f_L_polymorphism u v w f p1 p2 = some t) : CoI l yL_polymorphism (.codeWith yL_polymorphism cL_polymorphism 5 (some .int) [(0, 10, 13, 13), (0, 10, 17, 75)]) 5 2 12 [.ref (a 0), .int p1, .int p2, .ref oa] (wXo a u b v c w oa f) (wXo a u b v c w oa t.2) (.inl t.1) := mkH hst (by decide +kernel) (Nat.le_of_ble_eq_true rfl) (fun x _ o htab hI => b_L_polymorphism o htab a b c oa u v w f p1 p2 t hf (hI _ rfl))
set_option maxRecDepth 20000 in
set_option maxHeartbeats 2000000 in
theorem b_L_projectedArgument {x : Cx} (o : Ok x cL_projectedArgument 5 RL 3 3 18) (htab : (cxc x).exceptionTable.toList = tableOf [(0, 10, 13, 13), (0, 10, 17, 75)]) (a b c : Nat → Nat) (oa : Nat) (u v w : St) (f : Nat → Int64) (p1 : Int32) (p2 : Int32) (t : Int32 × (Nat → Int64)) (hf : f_L_projectedArgument u v w f p1 p2 = some t) (hret : RetI x cL_projectedArgument .int 3 18 (wXo a u b v c w oa t.2 (cxT x)) t.1) : G x 5 0 0 (wXo a u b v c w oa f (cxT x)) [(0, .ref (a 0)), (1, .int p1), (2, .int p2), (3, .ref oa)] 0 [] := by
  unfold f_L_projectedArgument at hf
  refine g_aload_n o 3 rfl rfl dL_projectedArgument_0 ?_
  refine g_iconst o ic_0 dL_projectedArgument_1 ?_
  refine g_aload_n o 0 rfl rfl dL_projectedArgument_2 ?_
  refine g_iload_n o 1 rfl rfl dL_projectedArgument_3 ?_
  refine g_iload_n o 2 rfl rfl dL_projectedArgument_4 ?_
  rcases bz_some hf with ⟨r3, hr3, hf⟩ | ⟨E4, hr3, hf⟩
  · refine k_X1_projectedArgument_Ln o hr3 m_578 (Nat.le_of_ble_eq_true rfl) (Nat.le_of_ble_eq_true rfl) ⟨(Nat.le_of_ble_eq_true rfl), (Nat.le_of_ble_eq_true rfl)⟩ dL_projectedArgument_5 ?_
    refine g_i2l o dL_projectedArgument_8 ?_
    refine L_ost o dL_projectedArgument_9 hf (fun hf => ?_)
    refine g_goto (tgt := 21) o rfl dL_projectedArgument_10 ?_
    refine g_iconst o ic_0 dL_projectedArgument_21 ?_
    cases Option.some.inj hf
    exact g_iret hret (Nat.le_of_ble_eq_true rfl) (Nat.le_of_ble_eq_true rfl) (vp_nar_int _) dL_projectedArgument_22
  · refine k_X1_projectedArgument_Lx o hr3 m_578 (Nat.le_of_ble_eq_true rfl) (Nat.le_of_ble_eq_true rfl) ⟨(Nat.le_of_ble_eq_true rfl), (Nat.le_of_ble_eq_true rfl)⟩ dL_projectedArgument_5 ?_
    by_cases hE : E4 = eIA
    · subst hE
      rw [if_pos rfl] at hf
      refine xw_catch o htab [] ⟨0, 10, 13, 13⟩ [⟨0, 10, 17, 75⟩] rfl (fun q hq => by cases hq) (by decide) (by decide) m_232 e_243 rfl (fun q9 => ?_)
      refine g_astore o [(4, .ref q9), (0, .ref (a 0)), (1, .int p1), (2, .int p2), (3, .ref oa)] (Nat.le_of_ble_eq_true rfl) rfl dL_projectedArgument_13 ?_
      refine g_iconst o ic_1 dL_projectedArgument_15 ?_
      cases Option.some.inj hf
      exact g_iret hret (Nat.le_of_ble_eq_true rfl) (Nat.le_of_ble_eq_true rfl) (vp_nar_int _) dL_projectedArgument_16
    rw [if_neg hE] at hf
    by_cases hE : E4 = eNS
    · subst hE
      rw [if_pos rfl] at hf
      refine xw_catch o htab [⟨0, 10, 13, 13⟩] ⟨0, 10, 17, 75⟩ [] rfl (List.forall_mem_cons.mpr ⟨⟨by decide, eIA, m_232, nc_eNS_eIA⟩, (fun q hq => by cases hq)⟩) (by decide) (by decide) m_529 e_536 rfl (fun q9 => ?_)
      refine g_astore o [(4, .ref q9), (0, .ref (a 0)), (1, .int p1), (2, .int p2), (3, .ref oa)] (Nat.le_of_ble_eq_true rfl) rfl dL_projectedArgument_17 ?_
      refine g_iconst o ic_2 dL_projectedArgument_19 ?_
      cases Option.some.inj hf
      exact g_iret hret (Nat.le_of_ble_eq_true rfl) (Nat.le_of_ble_eq_true rfl) (vp_nar_int _) dL_projectedArgument_20
    rw [if_neg hE] at hf
    cases hf
theorem c_L_projectedArgument (l : Launch) (hst : l.stackTraces = false) (a b c : Nat → Nat) (oa : Nat) (u v w : St) (f : Nat → Int64) (p1 : Int32) (p2 : Int32) (t : Int32 × (Nat → Int64)) (hf : f_L_projectedArgument u v w f p1 p2 = some t) : CoI l yL_projectedArgument (.codeWith yL_projectedArgument cL_projectedArgument 5 (some .int) [(0, 10, 13, 13), (0, 10, 17, 75)]) 3 3 18 [.ref (a 0), .int p1, .int p2, .ref oa] (wXo a u b v c w oa f) (wXo a u b v c w oa t.2) (.inl t.1) := mkH hst (by decide +kernel) (Nat.le_of_ble_eq_true rfl) (fun x _ o htab hI => b_L_projectedArgument o htab a b c oa u v w f p1 p2 t hf (hI _ rfl))
set_option maxRecDepth 20000 in
set_option maxHeartbeats 2000000 in
theorem b_L_relationHasKind {x : Cx} (o : Ok x cL_relationHasKind 5 RL 4 2 12) (htab : (cxc x).exceptionTable.toList = tableOf [(0, 17, 20, 28), (0, 17, 24, 13)]) (a b c : Nat → Nat) (oa : Nat) (u v w : St) (f : Nat → Int64) (p1 : Int32) (p2 : Int32) (t : Int32 × (Nat → Int64)) (hf : f_L_relationHasKind u v w f p1 p2 = some t) (hret : RetI x cL_relationHasKind .int 2 12 (wXo a u b v c w oa t.2 (cxT x)) t.1) : G x 5 0 0 (wXo a u b v c w oa f (cxT x)) [(0, .ref (a 0)), (1, .int p1), (2, .int p2), (3, .ref oa)] 0 [] := by
  unfold f_L_relationHasKind at hf
  refine g_aload_n o 3 rfl rfl dL_relationHasKind_0 ?_
  refine g_iconst o ic_0 dL_relationHasKind_1 ?_
  refine g_aload_n o 0 rfl rfl dL_relationHasKind_2 ?_
  refine g_iload_n o 1 rfl rfl dL_relationHasKind_3 ?_
  refine g_iload_n o 2 rfl rfl dL_relationHasKind_4 ?_
  rcases bz_some hf with ⟨r3, hr3, hf⟩ | ⟨E4, hr3, hf⟩
  · refine k_X1_relationHasKind_Ln o hr3 m_616 (Nat.le_of_ble_eq_true rfl) (Nat.le_of_ble_eq_true rfl) ⟨(Nat.le_of_ble_eq_true rfl), (Nat.le_of_ble_eq_true rfl)⟩ dL_relationHasKind_5 ?_
    refine g_if_eq (tgt := 15) o rfl dL_relationHasKind_8 hf (fun hc hf => ?_) (fun hc hf => ?_)
    · refine g_lconst o lc_0 dL_relationHasKind_15 ?_
      refine L_ost o dL_relationHasKind_16 hf (fun hf => ?_)
      refine g_goto (tgt := 28) o rfl dL_relationHasKind_17 ?_
      refine g_iconst o ic_0 dL_relationHasKind_28 ?_
      cases Option.some.inj hf
      exact g_iret hret (Nat.le_of_ble_eq_true rfl) (Nat.le_of_ble_eq_true rfl) (vp_nar_int _) dL_relationHasKind_29
    · refine g_lconst o lc_1 dL_relationHasKind_11 ?_
      refine g_goto (tgt := 16) o rfl dL_relationHasKind_12 ?_
      refine L_ost o dL_relationHasKind_16 hf (fun hf => ?_)
      refine g_goto (tgt := 28) o rfl dL_relationHasKind_17 ?_
      refine g_iconst o ic_0 dL_relationHasKind_28 ?_
      cases Option.some.inj hf
      exact g_iret hret (Nat.le_of_ble_eq_true rfl) (Nat.le_of_ble_eq_true rfl) (vp_nar_int _) dL_relationHasKind_29
  · refine k_X1_relationHasKind_Lx o hr3 m_616 (Nat.le_of_ble_eq_true rfl) (Nat.le_of_ble_eq_true rfl) ⟨(Nat.le_of_ble_eq_true rfl), (Nat.le_of_ble_eq_true rfl)⟩ dL_relationHasKind_5 ?_
    by_cases hE : E4 = eIO
    · subst hE
      rw [if_pos rfl] at hf
      refine xw_catch o htab [] ⟨0, 17, 20, 28⟩ [⟨0, 17, 24, 13⟩] rfl (fun q hq => by cases hq) (by decide) (by decide) m_364 e_375 rfl (fun q9 => ?_)
      refine g_astore o [(4, .ref q9), (0, .ref (a 0)), (1, .int p1), (2, .int p2), (3, .ref oa)] (Nat.le_of_ble_eq_true rfl) rfl dL_relationHasKind_20 ?_
      refine g_iconst o ic_1 dL_relationHasKind_22 ?_
      cases Option.some.inj hf
      exact g_iret hret (Nat.le_of_ble_eq_true rfl) (Nat.le_of_ble_eq_true rfl) (vp_nar_int _) dL_relationHasKind_23
    rw [if_neg hE] at hf
    by_cases hE : E4 = eIA
    · subst hE
      rw [if_pos rfl] at hf
      refine xw_catch o htab [⟨0, 17, 20, 28⟩] ⟨0, 17, 24, 13⟩ [] rfl (List.forall_mem_cons.mpr ⟨⟨by decide, eIO, m_364, nc_eIA_eIO⟩, (fun q hq => by cases hq)⟩) (by decide) (by decide) m_232 e_243 rfl (fun q9 => ?_)
      refine g_astore o [(4, .ref q9), (0, .ref (a 0)), (1, .int p1), (2, .int p2), (3, .ref oa)] (Nat.le_of_ble_eq_true rfl) rfl dL_relationHasKind_24 ?_
      refine g_iconst o ic_2 dL_relationHasKind_26 ?_
      cases Option.some.inj hf
      exact g_iret hret (Nat.le_of_ble_eq_true rfl) (Nat.le_of_ble_eq_true rfl) (vp_nar_int _) dL_relationHasKind_27
    rw [if_neg hE] at hf
    cases hf
theorem c_L_relationHasKind (l : Launch) (hst : l.stackTraces = false) (a b c : Nat → Nat) (oa : Nat) (u v w : St) (f : Nat → Int64) (p1 : Int32) (p2 : Int32) (t : Int32 × (Nat → Int64)) (hf : f_L_relationHasKind u v w f p1 p2 = some t) : CoI l yL_relationHasKind (.codeWith yL_relationHasKind cL_relationHasKind 5 (some .int) [(0, 17, 20, 28), (0, 17, 24, 13)]) 4 2 12 [.ref (a 0), .int p1, .int p2, .ref oa] (wXo a u b v c w oa f) (wXo a u b v c w oa t.2) (.inl t.1) := mkH hst (by decide +kernel) (Nat.le_of_ble_eq_true rfl) (fun x _ o htab hI => b_L_relationHasKind o htab a b c oa u v w f p1 p2 t hf (hI _ rfl))
set_option maxRecDepth 20000 in
set_option maxHeartbeats 2000000 in
theorem b_L_lowestKind {x : Cx} (o : Ok x cL_lowestKind 3 RL 6 1 6) (htab : (cxc x).exceptionTable.toList = tableOf [(0, 8, 11, 75)]) (a b c : Nat → Nat) (oa : Nat) (u v w : St) (f : Nat → Int64) (t : Int32 × (Nat → Int64)) (hf : f_L_lowestKind u v w f = some t) (hret : RetI x cL_lowestKind .int 1 6 (wXo a u b v c w oa t.2 (cxT x)) t.1) : G x 3 0 0 (wXo a u b v c w oa f (cxT x)) [(0, .ref (a 0)), (1, .ref oa)] 0 [] := by
  unfold f_L_lowestKind at hf
  refine g_aload_n o 1 rfl rfl dL_lowestKind_0 ?_
  refine g_iconst o ic_0 dL_lowestKind_1 ?_
  refine g_aload_n o 0 rfl rfl dL_lowestKind_2 ?_
  rcases bz_some hf with ⟨r3, hr3, hf⟩ | ⟨E4, hr3, hf⟩
  · refine k_X1_lowestKind_Ln o hr3 m_642 (Nat.le_of_ble_eq_true rfl) (Nat.le_of_ble_eq_true rfl) ⟨(Nat.le_of_ble_eq_true rfl), (Nat.le_of_ble_eq_true rfl)⟩ dL_lowestKind_3 ?_
    refine g_i2l o dL_lowestKind_6 ?_
    refine L_ost o dL_lowestKind_7 hf (fun hf => ?_)
    refine g_goto (tgt := 14) o rfl dL_lowestKind_8 ?_
    refine g_iconst o ic_0 dL_lowestKind_14 ?_
    cases Option.some.inj hf
    exact g_iret hret (Nat.le_of_ble_eq_true rfl) (Nat.le_of_ble_eq_true rfl) (vp_nar_int _) dL_lowestKind_15
  · refine k_X1_lowestKind_Lx o hr3 m_642 (Nat.le_of_ble_eq_true rfl) (Nat.le_of_ble_eq_true rfl) ⟨(Nat.le_of_ble_eq_true rfl), (Nat.le_of_ble_eq_true rfl)⟩ dL_lowestKind_3 ?_
    by_cases hE : E4 = eNS
    · subst hE
      rw [if_pos rfl] at hf
      refine xw_catch o htab [] ⟨0, 8, 11, 75⟩ [] rfl (fun q hq => by cases hq) (by decide) (by decide) m_529 e_536 rfl (fun q9 => ?_)
      refine g_astore_n o [(2, .ref q9), (0, .ref (a 0)), (1, .ref oa)] (Nat.le_of_ble_eq_true rfl) rfl rfl dL_lowestKind_11 ?_
      refine g_iconst o ic_1 dL_lowestKind_12 ?_
      cases Option.some.inj hf
      exact g_iret hret (Nat.le_of_ble_eq_true rfl) (Nat.le_of_ble_eq_true rfl) (vp_nar_int _) dL_lowestKind_13
    rw [if_neg hE] at hf
    cases hf
theorem c_L_lowestKind (l : Launch) (hst : l.stackTraces = false) (a b c : Nat → Nat) (oa : Nat) (u v w : St) (f : Nat → Int64) (t : Int32 × (Nat → Int64)) (hf : f_L_lowestKind u v w f = some t) : CoI l yL_lowestKind (.codeWith yL_lowestKind cL_lowestKind 3 (some .int) [(0, 8, 11, 75)]) 6 1 6 [.ref (a 0), .ref oa] (wXo a u b v c w oa f) (wXo a u b v c w oa t.2) (.inl t.1) := mkH hst (by decide +kernel) (Nat.le_of_ble_eq_true rfl) (fun x _ o htab hI => b_L_lowestKind o htab a b c oa u v w f t hf (hI _ rfl))
set_option maxRecDepth 20000 in
set_option maxHeartbeats 2000000 in
theorem b_L_setVariables {x : Cx} (o : Ok x cL_setVariables 4 RL 1 1 6) (htab : (cxc x).exceptionTable.toList = tableOf [(0, 9, 12, 13)]) (a b c : Nat → Nat) (oa : Nat) (u v w : St) (f : Nat → Int64) (p1 : Int32) (t : Int32 × St × (Nat → Int64)) (hf : f_L_setVariables u v w f p1 = some t) (hret : RetI x cL_setVariables .int 1 6 (wXo a u b t.2.1 c w oa t.2.2 (cxT x)) t.1) : G x 4 0 0 (wXo a u b v c w oa f (cxT x)) [(0, .ref (a 0)), (1, .int p1), (2, .ref oa)] 0 [] := by
  unfold f_L_setVariables at hf
  refine g_aload_n o 2 rfl rfl dL_setVariables_0 ?_
  refine g_iconst o ic_0 dL_setVariables_1 ?_
  refine g_aload_n o 0 rfl rfl dL_setVariables_2 ?_
  refine g_iload_n o 1 rfl rfl dL_setVariables_3 ?_
  rcases bx_some hf with ⟨r4, z6, hr4, hf⟩ | ⟨E5, z6, hr4, hf⟩
  · refine k_X1_setVariables_Ln o hr4 m_650 (Nat.le_of_ble_eq_true rfl) (Nat.le_of_ble_eq_true rfl) ⟨(Nat.le_of_ble_eq_true rfl), (Nat.le_of_ble_eq_true rfl)⟩ dL_setVariables_4 ?_
    refine g_i2l o dL_setVariables_7 ?_
    refine L_ost o dL_setVariables_8 hf (fun hf => ?_)
    refine g_goto (tgt := 15) o rfl dL_setVariables_9 ?_
    refine g_iconst o ic_0 dL_setVariables_15 ?_
    cases Option.some.inj hf
    exact g_iret hret (Nat.le_of_ble_eq_true rfl) (Nat.le_of_ble_eq_true rfl) (vp_nar_int _) dL_setVariables_16
  · refine k_X1_setVariables_Lx o hr4 m_650 (Nat.le_of_ble_eq_true rfl) (Nat.le_of_ble_eq_true rfl) ⟨(Nat.le_of_ble_eq_true rfl), (Nat.le_of_ble_eq_true rfl)⟩ dL_setVariables_4 ?_
    by_cases hE : E5 = eIA
    · subst hE
      rw [if_pos rfl] at hf
      refine xw_catch o htab [] ⟨0, 9, 12, 13⟩ [] rfl (fun q hq => by cases hq) (by decide) (by decide) m_232 e_243 rfl (fun q9 => ?_)
      refine g_astore_n o [(3, .ref q9), (0, .ref (a 0)), (1, .int p1), (2, .ref oa)] (Nat.le_of_ble_eq_true rfl) rfl rfl dL_setVariables_12 ?_
      refine g_iconst o ic_1 dL_setVariables_13 ?_
      cases Option.some.inj hf
      exact g_iret hret (Nat.le_of_ble_eq_true rfl) (Nat.le_of_ble_eq_true rfl) (vp_nar_int _) dL_setVariables_14
    rw [if_neg hE] at hf
    cases hf
theorem c_L_setVariables (l : Launch) (hst : l.stackTraces = false) (a b c : Nat → Nat) (oa : Nat) (u v w : St) (f : Nat → Int64) (p1 : Int32) (t : Int32 × St × (Nat → Int64)) (hf : f_L_setVariables u v w f p1 = some t) : CoI l yL_setVariables (.codeWith yL_setVariables cL_setVariables 4 (some .int) [(0, 9, 12, 13)]) 1 1 6 [.ref (a 0), .int p1, .ref oa] (wXo a u b v c w oa f) (wXo a u b t.2.1 c w oa t.2.2) (.inl t.1) := mkH hst (by decide +kernel) (Nat.le_of_ble_eq_true rfl) (fun x _ o htab hI => b_L_setVariables o htab a b c oa u v w f p1 t hf (hI _ rfl))
set_option maxRecDepth 20000 in
set_option maxHeartbeats 2000000 in
theorem b_L_removeLastConstraint {x : Cx} (o : Ok x cL_removeLastConstraint 3 RL 1 1 6) (htab : (cxc x).exceptionTable.toList = tableOf [(0, 8, 11, 15)]) (a b c : Nat → Nat) (oa : Nat) (u v w : St) (f : Nat → Int64) (t : Int32 × St × (Nat → Int64)) (hf : f_L_removeLastConstraint u v w f = some t) (hret : RetI x cL_removeLastConstraint .int 1 6 (wXo a u b t.2.1 c w oa t.2.2 (cxT x)) t.1) : G x 3 0 0 (wXo a u b v c w oa f (cxT x)) [(0, .ref (a 0)), (1, .ref oa)] 0 [] := by
  unfold f_L_removeLastConstraint at hf
  refine g_aload_n o 1 rfl rfl dL_removeLastConstraint_0 ?_
  refine g_iconst o ic_0 dL_removeLastConstraint_1 ?_
  refine g_aload_n o 0 rfl rfl dL_removeLastConstraint_2 ?_
  rcases bx_some hf with ⟨r4, z6, hr4, hf⟩ | ⟨E5, z6, hr4, hf⟩
  · refine k_X1_removeLastConstraint_Ln o hr4 m_678 (Nat.le_of_ble_eq_true rfl) (Nat.le_of_ble_eq_true rfl) ⟨(Nat.le_of_ble_eq_true rfl), (Nat.le_of_ble_eq_true rfl)⟩ dL_removeLastConstraint_3 ?_
    refine g_i2l o dL_removeLastConstraint_6 ?_
    refine L_ost o dL_removeLastConstraint_7 hf (fun hf => ?_)
    refine g_goto (tgt := 14) o rfl dL_removeLastConstraint_8 ?_
    refine g_iconst o ic_0 dL_removeLastConstraint_14 ?_
    cases Option.some.inj hf
    exact g_iret hret (Nat.le_of_ble_eq_true rfl) (Nat.le_of_ble_eq_true rfl) (vp_nar_int _) dL_removeLastConstraint_15
  · refine k_X1_removeLastConstraint_Lx o hr4 m_678 (Nat.le_of_ble_eq_true rfl) (Nat.le_of_ble_eq_true rfl) ⟨(Nat.le_of_ble_eq_true rfl), (Nat.le_of_ble_eq_true rfl)⟩ dL_removeLastConstraint_3 ?_
    by_cases hE : E5 = eIS
    · subst hE
      rw [if_pos rfl] at hf
      refine xw_catch o htab [] ⟨0, 8, 11, 15⟩ [] rfl (fun q hq => by cases hq) (by decide) (by decide) m_233 e_321 rfl (fun q9 => ?_)
      refine g_astore_n o [(2, .ref q9), (0, .ref (a 0)), (1, .ref oa)] (Nat.le_of_ble_eq_true rfl) rfl rfl dL_removeLastConstraint_11 ?_
      refine g_iconst o ic_1 dL_removeLastConstraint_12 ?_
      cases Option.some.inj hf
      exact g_iret hret (Nat.le_of_ble_eq_true rfl) (Nat.le_of_ble_eq_true rfl) (vp_nar_int _) dL_removeLastConstraint_13
    rw [if_neg hE] at hf
    cases hf
theorem c_L_removeLastConstraint (l : Launch) (hst : l.stackTraces = false) (a b c : Nat → Nat) (oa : Nat) (u v w : St) (f : Nat → Int64) (t : Int32 × St × (Nat → Int64)) (hf : f_L_removeLastConstraint u v w f = some t) : CoI l yL_removeLastConstraint (.codeWith yL_removeLastConstraint cL_removeLastConstraint 3 (some .int) [(0, 8, 11, 15)]) 1 1 6 [.ref (a 0), .ref oa] (wXo a u b v c w oa f) (wXo a u b t.2.1 c w oa t.2.2) (.inl t.1) := mkH hst (by decide +kernel) (Nat.le_of_ble_eq_true rfl) (fun x _ o htab hI => b_L_removeLastConstraint o htab a b c oa u v w f t hf (hI _ rfl))
set_option maxRecDepth 20000 in
set_option maxHeartbeats 2000000 in
theorem b_L_solution {x : Cx} (o : Ok x cL_solution 4 RL 15 1 6) (htab : (cxc x).exceptionTable.toList = tableOf [(0, 9, 12, 75)]) (a b c : Nat → Nat) (oa : Nat) (u v w : St) (f : Nat → Int64) (p1 : Int32) (t : Int32 × (Nat → Int64)) (hf : f_L_solution u v w f p1 = some t) (hret : RetI x cL_solution .int 1 6 (wXo a u b v c w oa t.2 (cxT x)) t.1) : G x 4 0 0 (wXo a u b v c w oa f (cxT x)) [(0, .ref (a 0)), (1, .int p1), (2, .ref oa)] 0 [] := by
  unfold f_L_solution at hf
  refine g_aload_n o 2 rfl rfl dL_solution_0 ?_
  refine g_iconst o ic_0 dL_solution_1 ?_
  refine g_aload_n o 0 rfl rfl dL_solution_2 ?_
  refine g_iload_n o 1 rfl rfl dL_solution_3 ?_
  rcases bz_some hf with ⟨r3, hr3, hf⟩ | ⟨E4, hr3, hf⟩
  · refine k_X1_solution_Ln o hr3 m_686 (Nat.le_of_ble_eq_true rfl) (Nat.le_of_ble_eq_true rfl) ⟨(Nat.le_of_ble_eq_true rfl), (Nat.le_of_ble_eq_true rfl)⟩ dL_solution_4 ?_
    refine g_i2l o dL_solution_7 ?_
    refine L_ost o dL_solution_8 hf (fun hf => ?_)
    refine g_goto (tgt := 15) o rfl dL_solution_9 ?_
    refine g_iconst o ic_0 dL_solution_15 ?_
    cases Option.some.inj hf
    exact g_iret hret (Nat.le_of_ble_eq_true rfl) (Nat.le_of_ble_eq_true rfl) (vp_nar_int _) dL_solution_16
  · refine k_X1_solution_Lx o hr3 m_686 (Nat.le_of_ble_eq_true rfl) (Nat.le_of_ble_eq_true rfl) ⟨(Nat.le_of_ble_eq_true rfl), (Nat.le_of_ble_eq_true rfl)⟩ dL_solution_4 ?_
    by_cases hE : E4 = eNS
    · subst hE
      rw [if_pos rfl] at hf
      refine xw_catch o htab [] ⟨0, 9, 12, 75⟩ [] rfl (fun q hq => by cases hq) (by decide) (by decide) m_529 e_536 rfl (fun q9 => ?_)
      refine g_astore_n o [(3, .ref q9), (0, .ref (a 0)), (1, .int p1), (2, .ref oa)] (Nat.le_of_ble_eq_true rfl) rfl rfl dL_solution_12 ?_
      refine g_iconst o ic_1 dL_solution_13 ?_
      cases Option.some.inj hf
      exact g_iret hret (Nat.le_of_ble_eq_true rfl) (Nat.le_of_ble_eq_true rfl) (vp_nar_int _) dL_solution_14
    rw [if_neg hE] at hf
    cases hf
theorem c_L_solution (l : Launch) (hst : l.stackTraces = false) (a b c : Nat → Nat) (oa : Nat) (u v w : St) (f : Nat → Int64) (p1 : Int32) (t : Int32 × (Nat → Int64)) (hf : f_L_solution u v w f p1 = some t) : CoI l yL_solution (.codeWith yL_solution cL_solution 4 (some .int) [(0, 9, 12, 75)]) 15 1 6 [.ref (a 0), .int p1, .ref oa] (wXo a u b v c w oa f) (wXo a u b v c w oa t.2) (.inl t.1) := mkH hst (by decide +kernel) (Nat.le_of_ble_eq_true rfl) (fun x _ o htab hI => b_L_solution o htab a b c oa u v w f p1 t hf (hI _ rfl))
set_option maxRecDepth 20000 in
set_option maxHeartbeats 2000000 in
theorem b_L_leastSolution {x : Cx} (o : Ok x cL_leastSolution 3 RL 16 2 12) (htab : (cxc x).exceptionTable.toList = tableOf [(0, 8, 11, 127), (0, 8, 14, 75)]) (a b c : Nat → Nat) (oa : Nat) (u v w : St) (f : Nat → Int64) (t : Int32 × (Nat → Int64)) (hf : f_L_leastSolution u v w f = some t) (hret : RetI x cL_leastSolution .int 2 12 (wXo a u b v c w oa t.2 (cxT x)) t.1) : G x 3 0 0 (wXo a u b v c w oa f (cxT x)) [(0, .ref (a 0)), (1, .ref oa)] 0 [] := by
  unfold f_L_leastSolution at hf
  refine g_aload_n o 1 rfl rfl dL_leastSolution_0 ?_
  refine g_iconst o ic_0 dL_leastSolution_1 ?_
  refine g_aload_n o 0 rfl rfl dL_leastSolution_2 ?_
  rcases bz_some hf with ⟨r3, hr3, hf⟩ | ⟨E4, hr3, hf⟩
  · refine k_X1_leastSolution_Ln o hr3 m_716 (Nat.le_of_ble_eq_true rfl) (Nat.le_of_ble_eq_true rfl) ⟨(Nat.le_of_ble_eq_true rfl), (Nat.le_of_ble_eq_true rfl)⟩ dL_leastSolution_3 ?_
    refine g_i2l o dL_leastSolution_6 ?_
    refine L_ost o dL_leastSolution_7 hf (fun hf => ?_)
    refine g_goto (tgt := 17) o rfl dL_leastSolution_8 ?_
    refine g_iconst o ic_0 dL_leastSolution_17 ?_
    cases Option.some.inj hf
    exact g_iret hret (Nat.le_of_ble_eq_true rfl) (Nat.le_of_ble_eq_true rfl) (vp_nar_int _) dL_leastSolution_18
  · refine k_X1_leastSolution_Lx o hr3 m_716 (Nat.le_of_ble_eq_true rfl) (Nat.le_of_ble_eq_true rfl) ⟨(Nat.le_of_ble_eq_true rfl), (Nat.le_of_ble_eq_true rfl)⟩ dL_leastSolution_3 ?_
    by_cases hE : E4 = eUO
    · subst hE
      rw [if_pos rfl] at hf
      refine xw_catch o htab [] ⟨0, 8, 11, 127⟩ [⟨0, 8, 14, 75⟩] rfl (fun q hq => by cases hq) (by decide) (by decide) m_715 e_726 rfl (fun q9 => ?_)
      refine g_astore_n o [(2, .ref q9), (0, .ref (a 0)), (1, .ref oa)] (Nat.le_of_ble_eq_true rfl) rfl rfl dL_leastSolution_11 ?_
      refine g_iconst o ic_1 dL_leastSolution_12 ?_
      cases Option.some.inj hf
      exact g_iret hret (Nat.le_of_ble_eq_true rfl) (Nat.le_of_ble_eq_true rfl) (vp_nar_int _) dL_leastSolution_13
    rw [if_neg hE] at hf
    by_cases hE : E4 = eNS
    · subst hE
      rw [if_pos rfl] at hf
      refine xw_catch o htab [⟨0, 8, 11, 127⟩] ⟨0, 8, 14, 75⟩ [] rfl (List.forall_mem_cons.mpr ⟨⟨by decide, eUO, m_715, nc_eNS_eUO⟩, (fun q hq => by cases hq)⟩) (by decide) (by decide) m_529 e_536 rfl (fun q9 => ?_)
      refine g_astore_n o [(2, .ref q9), (0, .ref (a 0)), (1, .ref oa)] (Nat.le_of_ble_eq_true rfl) rfl rfl dL_leastSolution_14 ?_
      refine g_iconst o ic_2 dL_leastSolution_15 ?_
      cases Option.some.inj hf
      exact g_iret hret (Nat.le_of_ble_eq_true rfl) (Nat.le_of_ble_eq_true rfl) (vp_nar_int _) dL_leastSolution_16
    rw [if_neg hE] at hf
    cases hf
theorem c_L_leastSolution (l : Launch) (hst : l.stackTraces = false) (a b c : Nat → Nat) (oa : Nat) (u v w : St) (f : Nat → Int64) (t : Int32 × (Nat → Int64)) (hf : f_L_leastSolution u v w f = some t) : CoI l yL_leastSolution (.codeWith yL_leastSolution cL_leastSolution 3 (some .int) [(0, 8, 11, 127), (0, 8, 14, 75)]) 16 2 12 [.ref (a 0), .ref oa] (wXo a u b v c w oa f) (wXo a u b v c w oa t.2) (.inl t.1) := mkH hst (by decide +kernel) (Nat.le_of_ble_eq_true rfl) (fun x _ o htab hI => b_L_leastSolution o htab a b c oa u v w f t hf (hI _ rfl))
set_option maxRecDepth 20000 in
set_option maxHeartbeats 2000000 in
theorem b_L_parse {x : Cx} (o : Ok x cL_parse 3 RL 3 2 12) (htab : (cxc x).exceptionTable.toList = tableOf [(0, 8, 11, 13), (0, 8, 14, 15)]) (a b c : Nat → Nat) (oa : Nat) (u v w : St) (f : Nat → Int64) (t : Int32 × St × St × (Nat → Int64)) (hf : f_L_parse u v w f = some t) (hret : RetI x cL_parse .int 2 12 (wXo a t.2.1 b t.2.2.1 c w oa t.2.2.2 (cxT x)) t.1) : G x 3 0 0 (wXo a u b v c w oa f (cxT x)) [(0, .ref (a 0)), (1, .ref oa)] 0 [] := by
  unfold f_L_parse at hf
  refine g_aload_n o 1 rfl rfl dL_parse_0 ?_
  refine g_iconst o ic_0 dL_parse_1 ?_
  refine g_aload_n o 0 rfl rfl dL_parse_2 ?_
  rcases bx_some hf with ⟨r4, z6, hr4, hf⟩ | ⟨E5, z6, hr4, hf⟩
  · refine k_X1_parse_Ln o hr4 m_819 (Nat.le_of_ble_eq_true rfl) (Nat.le_of_ble_eq_true rfl) ⟨(Nat.le_of_ble_eq_true rfl), (Nat.le_of_ble_eq_true rfl)⟩ dL_parse_3 ?_
    refine g_i2l o dL_parse_6 ?_
    refine L_ost o dL_parse_7 hf (fun hf => ?_)
    refine g_goto (tgt := 17) o rfl dL_parse_8 ?_
    refine g_iconst o ic_0 dL_parse_17 ?_
    cases Option.some.inj hf
    exact g_iret hret (Nat.le_of_ble_eq_true rfl) (Nat.le_of_ble_eq_true rfl) (vp_nar_int _) dL_parse_18
  · refine k_X1_parse_Lx o hr4 m_819 (Nat.le_of_ble_eq_true rfl) (Nat.le_of_ble_eq_true rfl) ⟨(Nat.le_of_ble_eq_true rfl), (Nat.le_of_ble_eq_true rfl)⟩ dL_parse_3 ?_
    by_cases hE : E5 = eIA
    · subst hE
      rw [if_pos rfl] at hf
      refine xw_catch o htab [] ⟨0, 8, 11, 13⟩ [⟨0, 8, 14, 15⟩] rfl (fun q hq => by cases hq) (by decide) (by decide) m_232 e_243 rfl (fun q9 => ?_)
      refine g_astore_n o [(2, .ref q9), (0, .ref (a 0)), (1, .ref oa)] (Nat.le_of_ble_eq_true rfl) rfl rfl dL_parse_11 ?_
      refine g_iconst o ic_1 dL_parse_12 ?_
      cases Option.some.inj hf
      exact g_iret hret (Nat.le_of_ble_eq_true rfl) (Nat.le_of_ble_eq_true rfl) (vp_nar_int _) dL_parse_13
    rw [if_neg hE] at hf
    by_cases hE : E5 = eIS
    · subst hE
      rw [if_pos rfl] at hf
      refine xw_catch o htab [⟨0, 8, 11, 13⟩] ⟨0, 8, 14, 15⟩ [] rfl (List.forall_mem_cons.mpr ⟨⟨by decide, eIA, m_232, nc_eIS_eIA⟩, (fun q hq => by cases hq)⟩) (by decide) (by decide) m_233 e_321 rfl (fun q9 => ?_)
      refine g_astore_n o [(2, .ref q9), (0, .ref (a 0)), (1, .ref oa)] (Nat.le_of_ble_eq_true rfl) rfl rfl dL_parse_14 ?_
      refine g_iconst o ic_2 dL_parse_15 ?_
      cases Option.some.inj hf
      exact g_iret hret (Nat.le_of_ble_eq_true rfl) (Nat.le_of_ble_eq_true rfl) (vp_nar_int _) dL_parse_16
    rw [if_neg hE] at hf
    cases hf
theorem c_L_parse (l : Launch) (hst : l.stackTraces = false) (a b c : Nat → Nat) (oa : Nat) (u v w : St) (f : Nat → Int64) (t : Int32 × St × St × (Nat → Int64)) (hf : f_L_parse u v w f = some t) : CoI l yL_parse (.codeWith yL_parse cL_parse 3 (some .int) [(0, 8, 11, 13), (0, 8, 14, 15)]) 3 2 12 [.ref (a 0), .ref oa] (wXo a u b v c w oa f) (wXo a t.2.1 b t.2.2.1 c w oa t.2.2.2) (.inl t.1) := mkH hst (by decide +kernel) (Nat.le_of_ble_eq_true rfl) (fun x _ o htab hI => b_L_parse o htab a b c oa u v w f t hf (hI _ rfl))
set_option maxRecDepth 20000 in
set_option maxHeartbeats 2000000 in
theorem b_L_write {x : Cx} (o : Ok x cL_write 4 RL 3 1 6) (htab : (cxc x).exceptionTable.toList = tableOf [(0, 9, 12, 28)]) (a b c : Nat → Nat) (oa : Nat) (u v w : St) (f : Nat → Int64) (p1 : Int32) (t : Int32 × St × (Nat → Int64)) (hf : f_L_write u v w f p1 = some t) (hret : RetI x cL_write .int 1 6 (wXo a t.2.1 b v c w oa t.2.2 (cxT x)) t.1) : G x 4 0 0 (wXo a u b v c w oa f (cxT x)) [(0, .ref (a 0)), (1, .int p1), (2, .ref oa)] 0 [] := by
  unfold f_L_write at hf
  refine g_aload_n o 2 rfl rfl dL_write_0 ?_
  refine g_iconst o ic_0 dL_write_1 ?_
  refine g_aload_n o 0 rfl rfl dL_write_2 ?_
  refine g_iload_n o 1 rfl rfl dL_write_3 ?_
  rcases bx_some hf with ⟨r4, z6, hr4, hf⟩ | ⟨E5, z6, hr4, hf⟩
  · refine k_X1_write_Ln o hr4 m_853 (Nat.le_of_ble_eq_true rfl) (Nat.le_of_ble_eq_true rfl) ⟨(Nat.le_of_ble_eq_true rfl), (Nat.le_of_ble_eq_true rfl)⟩ dL_write_4 ?_
    refine g_i2l o dL_write_7 ?_
    refine L_ost o dL_write_8 hf (fun hf => ?_)
    refine g_goto (tgt := 15) o rfl dL_write_9 ?_
    refine g_iconst o ic_0 dL_write_15 ?_
    cases Option.some.inj hf
    exact g_iret hret (Nat.le_of_ble_eq_true rfl) (Nat.le_of_ble_eq_true rfl) (vp_nar_int _) dL_write_16
  · refine k_X1_write_Lx o hr4 m_853 (Nat.le_of_ble_eq_true rfl) (Nat.le_of_ble_eq_true rfl) ⟨(Nat.le_of_ble_eq_true rfl), (Nat.le_of_ble_eq_true rfl)⟩ dL_write_4 ?_
    by_cases hE : E5 = eIO
    · subst hE
      rw [if_pos rfl] at hf
      refine xw_catch o htab [] ⟨0, 9, 12, 28⟩ [] rfl (fun q hq => by cases hq) (by decide) (by decide) m_364 e_375 rfl (fun q9 => ?_)
      refine g_astore_n o [(3, .ref q9), (0, .ref (a 0)), (1, .int p1), (2, .ref oa)] (Nat.le_of_ble_eq_true rfl) rfl rfl dL_write_12 ?_
      refine g_iconst o ic_1 dL_write_13 ?_
      cases Option.some.inj hf
      exact g_iret hret (Nat.le_of_ble_eq_true rfl) (Nat.le_of_ble_eq_true rfl) (vp_nar_int _) dL_write_14
    rw [if_neg hE] at hf
    cases hf
theorem c_L_write (l : Launch) (hst : l.stackTraces = false) (a b c : Nat → Nat) (oa : Nat) (u v w : St) (f : Nat → Int64) (p1 : Int32) (t : Int32 × St × (Nat → Int64)) (hf : f_L_write u v w f p1 = some t) : CoI l yL_write (.codeWith yL_write cL_write 4 (some .int) [(0, 9, 12, 28)]) 3 1 6 [.ref (a 0), .int p1, .ref oa] (wXo a u b v c w oa f) (wXo a t.2.1 b v c w oa t.2.2) (.inl t.1) := mkH hst (by decide +kernel) (Nat.le_of_ble_eq_true rfl) (fun x _ o htab hI => b_L_write o htab a b c oa u v w f p1 t hf (hI _ rfl))
set_option maxRecDepth 20000 in
set_option maxHeartbeats 2000000 in
theorem b_L_outputAt {x : Cx} (o : Ok x cL_outputAt 4 RL 1 1 6) (htab : (cxc x).exceptionTable.toList = tableOf [(0, 9, 12, 28)]) (a b c : Nat → Nat) (oa : Nat) (u v w : St) (f : Nat → Int64) (p1 : Int32) (t : Int32 × (Nat → Int64)) (hf : f_L_outputAt u v w f p1 = some t) (hret : RetI x cL_outputAt .int 1 6 (wXo a u b v c w oa t.2 (cxT x)) t.1) : G x 4 0 0 (wXo a u b v c w oa f (cxT x)) [(0, .ref (a 0)), (1, .int p1), (2, .ref oa)] 0 [] := by
  unfold f_L_outputAt at hf
  refine g_aload_n o 2 rfl rfl dL_outputAt_0 ?_
  refine g_iconst o ic_0 dL_outputAt_1 ?_
  refine g_aload_n o 0 rfl rfl dL_outputAt_2 ?_
  refine g_iload_n o 1 rfl rfl dL_outputAt_3 ?_
  rcases bz_some hf with ⟨r3, hr3, hf⟩ | ⟨E4, hr3, hf⟩
  · refine k_X1_outputAt_Ln o hr3 m_868 (Nat.le_of_ble_eq_true rfl) (Nat.le_of_ble_eq_true rfl) ⟨(Nat.le_of_ble_eq_true rfl), (Nat.le_of_ble_eq_true rfl)⟩ dL_outputAt_4 ?_
    refine g_i2l o dL_outputAt_7 ?_
    refine L_ost o dL_outputAt_8 hf (fun hf => ?_)
    refine g_goto (tgt := 15) o rfl dL_outputAt_9 ?_
    refine g_iconst o ic_0 dL_outputAt_15 ?_
    cases Option.some.inj hf
    exact g_iret hret (Nat.le_of_ble_eq_true rfl) (Nat.le_of_ble_eq_true rfl) (vp_nar_int _) dL_outputAt_16
  · refine k_X1_outputAt_Lx o hr3 m_868 (Nat.le_of_ble_eq_true rfl) (Nat.le_of_ble_eq_true rfl) ⟨(Nat.le_of_ble_eq_true rfl), (Nat.le_of_ble_eq_true rfl)⟩ dL_outputAt_4 ?_
    by_cases hE : E4 = eIO
    · subst hE
      rw [if_pos rfl] at hf
      refine xw_catch o htab [] ⟨0, 9, 12, 28⟩ [] rfl (fun q hq => by cases hq) (by decide) (by decide) m_364 e_375 rfl (fun q9 => ?_)
      refine g_astore_n o [(3, .ref q9), (0, .ref (a 0)), (1, .int p1), (2, .ref oa)] (Nat.le_of_ble_eq_true rfl) rfl rfl dL_outputAt_12 ?_
      refine g_iconst o ic_1 dL_outputAt_13 ?_
      cases Option.some.inj hf
      exact g_iret hret (Nat.le_of_ble_eq_true rfl) (Nat.le_of_ble_eq_true rfl) (vp_nar_int _) dL_outputAt_14
    rw [if_neg hE] at hf
    cases hf
theorem c_L_outputAt (l : Launch) (hst : l.stackTraces = false) (a b c : Nat → Nat) (oa : Nat) (u v w : St) (f : Nat → Int64) (p1 : Int32) (t : Int32 × (Nat → Int64)) (hf : f_L_outputAt u v w f p1 = some t) : CoI l yL_outputAt (.codeWith yL_outputAt cL_outputAt 4 (some .int) [(0, 9, 12, 28)]) 1 1 6 [.ref (a 0), .int p1, .ref oa] (wXo a u b v c w oa f) (wXo a u b v c w oa t.2) (.inl t.1) := mkH hst (by decide +kernel) (Nat.le_of_ble_eq_true rfl) (fun x _ o htab hI => b_L_outputAt o htab a b c oa u v w f p1 t hf (hI _ rfl))
set_option maxRecDepth 20000 in
set_option maxHeartbeats 2000000 in
theorem b_L_storeFlags {x : Cx} (o : Ok x cL_storeFlags 6 RL 2 3 18) (htab : (cxc x).exceptionTable.toList = tableOf [(0, 12, 15, 28), (0, 12, 19, 13)]) (a b c : Nat → Nat) (oa : Nat) (u v w : St) (f : Nat → Int64) (p1 : Int32) (p2 : Int32) (p3 : Int32) (t : Int32 × St × (Nat → Int64)) (hf : f_L_storeFlags u v w f p1 p2 p3 = some t) (hret : RetI x cL_storeFlags .int 3 18 (wXo a t.2.1 b v c w oa t.2.2 (cxT x)) t.1) : G x 6 0 0 (wXo a u b v c w oa f (cxT x)) [(0, .ref (a 0)), (1, .int p1), (2, .int p2), (3, .int p3), (4, .ref oa)] 0 [] := by
  unfold f_L_storeFlags at hf
  refine g_aload o 4 rfl dL_storeFlags_0 ?_
  refine g_iconst o ic_0 dL_storeFlags_2 ?_
  refine g_aload_n o 0 rfl rfl dL_storeFlags_3 ?_
  refine g_iload_n o 1 rfl rfl dL_storeFlags_4 ?_
  refine g_iload_n o 2 rfl rfl dL_storeFlags_5 ?_
  refine g_iload_n o 3 rfl rfl dL_storeFlags_6 ?_
  rcases bx_some hf with ⟨r4, z6, hr4, hf⟩ | ⟨E5, z6, hr4, hf⟩
  · refine k_X1_storeFlags_Ln o hr4 m_876 (Nat.le_of_ble_eq_true rfl) (Nat.le_of_ble_eq_true rfl) ⟨(Nat.le_of_ble_eq_true rfl), (Nat.le_of_ble_eq_true rfl)⟩ dL_storeFlags_7 ?_
    refine g_i2l o dL_storeFlags_10 ?_
    refine L_ost o dL_storeFlags_11 hf (fun hf => ?_)
    refine g_goto (tgt := 23) o rfl dL_storeFlags_12 ?_
    refine g_iconst o ic_0 dL_storeFlags_23 ?_
    cases Option.some.inj hf
    exact g_iret hret (Nat.le_of_ble_eq_true rfl) (Nat.le_of_ble_eq_true rfl) (vp_nar_int _) dL_storeFlags_24
  · refine k_X1_storeFlags_Lx o hr4 m_876 (Nat.le_of_ble_eq_true rfl) (Nat.le_of_ble_eq_true rfl) ⟨(Nat.le_of_ble_eq_true rfl), (Nat.le_of_ble_eq_true rfl)⟩ dL_storeFlags_7 ?_
    by_cases hE : E5 = eIO
    · subst hE
      rw [if_pos rfl] at hf
      refine xw_catch o htab [] ⟨0, 12, 15, 28⟩ [⟨0, 12, 19, 13⟩] rfl (fun q hq => by cases hq) (by decide) (by decide) m_364 e_375 rfl (fun q9 => ?_)
      refine g_astore o [(5, .ref q9), (0, .ref (a 0)), (1, .int p1), (2, .int p2), (3, .int p3), (4, .ref oa)] (Nat.le_of_ble_eq_true rfl) rfl dL_storeFlags_15 ?_
      refine g_iconst o ic_1 dL_storeFlags_17 ?_
      cases Option.some.inj hf
      exact g_iret hret (Nat.le_of_ble_eq_true rfl) (Nat.le_of_ble_eq_true rfl) (vp_nar_int _) dL_storeFlags_18
    rw [if_neg hE] at hf
    by_cases hE : E5 = eIA
    · subst hE
      rw [if_pos rfl] at hf
      refine xw_catch o htab [⟨0, 12, 15, 28⟩] ⟨0, 12, 19, 13⟩ [] rfl (List.forall_mem_cons.mpr ⟨⟨by decide, eIO, m_364, nc_eIA_eIO⟩, (fun q hq => by cases hq)⟩) (by decide) (by decide) m_232 e_243 rfl (fun q9 => ?_)
      refine g_astore o [(5, .ref q9), (0, .ref (a 0)), (1, .int p1), (2, .int p2), (3, .int p3), (4, .ref oa)] (Nat.le_of_ble_eq_true rfl) rfl dL_storeFlags_19 ?_
      refine g_iconst o ic_2 dL_storeFlags_21 ?_
      cases Option.some.inj hf
      exact g_iret hret (Nat.le_of_ble_eq_true rfl) (Nat.le_of_ble_eq_true rfl) (vp_nar_int _) dL_storeFlags_22
    rw [if_neg hE] at hf
    cases hf
theorem c_L_storeFlags (l : Launch) (hst : l.stackTraces = false) (a b c : Nat → Nat) (oa : Nat) (u v w : St) (f : Nat → Int64) (p1 : Int32) (p2 : Int32) (p3 : Int32) (t : Int32 × St × (Nat → Int64)) (hf : f_L_storeFlags u v w f p1 p2 p3 = some t) : CoI l yL_storeFlags (.codeWith yL_storeFlags cL_storeFlags 6 (some .int) [(0, 12, 15, 28), (0, 12, 19, 13)]) 2 3 18 [.ref (a 0), .int p1, .int p2, .int p3, .ref oa] (wXo a u b v c w oa f) (wXo a t.2.1 b v c w oa t.2.2) (.inl t.1) := mkH hst (by decide +kernel) (Nat.le_of_ble_eq_true rfl) (fun x _ o htab hI => b_L_storeFlags o htab a b c oa u v w f p1 p2 p3 t hf (hI _ rfl))
set_option maxRecDepth 20000 in
set_option maxHeartbeats 2000000 in
theorem b_L_setFlag {x : Cx} (o : Ok x cL_setFlag 6 RL 2 3 18) (htab : (cxc x).exceptionTable.toList = tableOf [(0, 19, 22, 28), (0, 19, 26, 15)]) (a b c : Nat → Nat) (oa : Nat) (u v w : St) (f : Nat → Int64) (p1 : Int32) (p2 : Int32) (p3 : Int32) (t : Int32 × St × (Nat → Int64)) (hf : f_L_setFlag u v w f p1 p2 p3 = some t) (hret : RetI x cL_setFlag .int 3 18 (wXo a t.2.1 b v c w oa t.2.2 (cxT x)) t.1) : G x 6 0 0 (wXo a u b v c w oa f (cxT x)) [(0, .ref (a 0)), (1, .int p1), (2, .int p2), (3, .int p3), (4, .ref oa)] 0 [] := by
  unfold f_L_setFlag at hf
  refine g_aload o 4 rfl dL_setFlag_0 ?_
  refine g_iconst o ic_0 dL_setFlag_2 ?_
  refine g_aload_n o 0 rfl rfl dL_setFlag_3 ?_
  refine g_iload_n o 1 rfl rfl dL_setFlag_4 ?_
  refine g_iload_n o 2 rfl rfl dL_setFlag_5 ?_
  refine g_iload_n o 3 rfl rfl dL_setFlag_6 ?_
  rcases bx_some hf with ⟨r4, z6, hr4, hf⟩ | ⟨E5, z6, hr4, hf⟩
  · refine k_X1_setFlag_Ln o hr4 m_888 (Nat.le_of_ble_eq_true rfl) (Nat.le_of_ble_eq_true rfl) ⟨(Nat.le_of_ble_eq_true rfl), (Nat.le_of_ble_eq_true rfl)⟩ dL_setFlag_7 ?_
    refine g_if_eq (tgt := 17) o rfl dL_setFlag_10 hf (fun hc hf => ?_) (fun hc hf => ?_)
    · refine g_lconst o lc_0 dL_setFlag_17 ?_
      refine L_ost o dL_setFlag_18 hf (fun hf => ?_)
      refine g_goto (tgt := 30) o rfl dL_setFlag_19 ?_
      refine g_iconst o ic_0 dL_setFlag_30 ?_
      cases Option.some.inj hf
      exact g_iret hret (Nat.le_of_ble_eq_true rfl) (Nat.le_of_ble_eq_true rfl) (vp_nar_int _) dL_setFlag_31
    · refine g_lconst o lc_1 dL_setFlag_13 ?_
      refine g_goto (tgt := 18) o rfl dL_setFlag_14 ?_
      refine L_ost o dL_setFlag_18 hf (fun hf => ?_)
      refine g_goto (tgt := 30) o rfl dL_setFlag_19 ?_
      refine g_iconst o ic_0 dL_setFlag_30 ?_
      cases Option.some.inj hf
      exact g_iret hret (Nat.le_of_ble_eq_true rfl) (Nat.le_of_ble_eq_true rfl) (vp_nar_int _) dL_setFlag_31
  · refine k_X1_setFlag_Lx o hr4 m_888 (Nat.le_of_ble_eq_true rfl) (Nat.le_of_ble_eq_true rfl) ⟨(Nat.le_of_ble_eq_true rfl), (Nat.le_of_ble_eq_true rfl)⟩ dL_setFlag_7 ?_
    by_cases hE : E5 = eIO
    · subst hE
      rw [if_pos rfl] at hf
      refine xw_catch o htab [] ⟨0, 19, 22, 28⟩ [⟨0, 19, 26, 15⟩] rfl (fun q hq => by cases hq) (by decide) (by decide) m_364 e_375 rfl (fun q9 => ?_)
      refine g_astore o [(5, .ref q9), (0, .ref (a 0)), (1, .int p1), (2, .int p2), (3, .int p3), (4, .ref oa)] (Nat.le_of_ble_eq_true rfl) rfl dL_setFlag_22 ?_
      refine g_iconst o ic_1 dL_setFlag_24 ?_
      cases Option.some.inj hf
      exact g_iret hret (Nat.le_of_ble_eq_true rfl) (Nat.le_of_ble_eq_true rfl) (vp_nar_int _) dL_setFlag_25
    rw [if_neg hE] at hf
    by_cases hE : E5 = eIS
    · subst hE
      rw [if_pos rfl] at hf
      refine xw_catch o htab [⟨0, 19, 22, 28⟩] ⟨0, 19, 26, 15⟩ [] rfl (List.forall_mem_cons.mpr ⟨⟨by decide, eIO, m_364, nc_eIS_eIO⟩, (fun q hq => by cases hq)⟩) (by decide) (by decide) m_233 e_321 rfl (fun q9 => ?_)
      refine g_astore o [(5, .ref q9), (0, .ref (a 0)), (1, .int p1), (2, .int p2), (3, .int p3), (4, .ref oa)] (Nat.le_of_ble_eq_true rfl) rfl dL_setFlag_26 ?_
      refine g_iconst o ic_2 dL_setFlag_28 ?_
      cases Option.some.inj hf
      exact g_iret hret (Nat.le_of_ble_eq_true rfl) (Nat.le_of_ble_eq_true rfl) (vp_nar_int _) dL_setFlag_29
    rw [if_neg hE] at hf
    cases hf
theorem c_L_setFlag (l : Launch) (hst : l.stackTraces = false) (a b c : Nat → Nat) (oa : Nat) (u v w : St) (f : Nat → Int64) (p1 : Int32) (p2 : Int32) (p3 : Int32) (t : Int32 × St × (Nat → Int64)) (hf : f_L_setFlag u v w f p1 p2 p3 = some t) : CoI l yL_setFlag (.codeWith yL_setFlag cL_setFlag 6 (some .int) [(0, 19, 22, 28), (0, 19, 26, 15)]) 2 3 18 [.ref (a 0), .int p1, .int p2, .int p3, .ref oa] (wXo a u b v c w oa f) (wXo a t.2.1 b v c w oa t.2.2) (.inl t.1) := mkH hst (by decide +kernel) (Nat.le_of_ble_eq_true rfl) (fun x _ o htab hI => b_L_setFlag o htab a b c oa u v w f p1 p2 p3 t hf (hI _ rfl))
set_option maxRecDepth 20000 in
set_option maxHeartbeats 2000000 in
theorem b_L_takeFlags {x : Cx} (o : Ok x cL_takeFlags 5 RL 2 3 18) (htab : (cxc x).exceptionTable.toList = tableOf [(0, 10, 13, 28), (0, 10, 17, 15)]) (a b c : Nat → Nat) (oa : Nat) (u v w : St) (f : Nat → Int64) (p1 : Int32) (p2 : Int32) (t : Int32 × St × (Nat → Int64)) (hf : f_L_takeFlags u v w f p1 p2 = some t) (hret : RetI x cL_takeFlags .int 3 18 (wXo a u b t.2.1 c w oa t.2.2 (cxT x)) t.1) : G x 5 0 0 (wXo a u b v c w oa f (cxT x)) [(0, .ref (a 0)), (1, .int p1), (2, .int p2), (3, .ref oa)] 0 [] := by
  unfold f_L_takeFlags at hf
  refine g_aload_n o 3 rfl rfl dL_takeFlags_0 ?_
  refine g_iconst o ic_0 dL_takeFlags_1 ?_
  refine g_aload_n o 0 rfl rfl dL_takeFlags_2 ?_
  refine g_iload_n o 1 rfl rfl dL_takeFlags_3 ?_
  refine g_iload_n o 2 rfl rfl dL_takeFlags_4 ?_
  rcases bx_some hf with ⟨r4, z6, hr4, hf⟩ | ⟨E5, z6, hr4, hf⟩
  · refine k_X1_takeFlags_Ln o hr4 m_901 (Nat.le_of_ble_eq_true rfl) (Nat.le_of_ble_eq_true rfl) ⟨(Nat.le_of_ble_eq_true rfl), (Nat.le_of_ble_eq_true rfl)⟩ dL_takeFlags_5 ?_
    refine g_i2l o dL_takeFlags_8 ?_
    refine L_ost o dL_takeFlags_9 hf (fun hf => ?_)
    refine g_goto (tgt := 21) o rfl dL_takeFlags_10 ?_
    refine g_iconst o ic_0 dL_takeFlags_21 ?_
    cases Option.some.inj hf
    exact g_iret hret (Nat.le_of_ble_eq_true rfl) (Nat.le_of_ble_eq_true rfl) (vp_nar_int _) dL_takeFlags_22
  · refine k_X1_takeFlags_Lx o hr4 m_901 (Nat.le_of_ble_eq_true rfl) (Nat.le_of_ble_eq_true rfl) ⟨(Nat.le_of_ble_eq_true rfl), (Nat.le_of_ble_eq_true rfl)⟩ dL_takeFlags_5 ?_
    by_cases hE : E5 = eIO
    · subst hE
      rw [if_pos rfl] at hf
      refine xw_catch o htab [] ⟨0, 10, 13, 28⟩ [⟨0, 10, 17, 15⟩] rfl (fun q hq => by cases hq) (by decide) (by decide) m_364 e_375 rfl (fun q9 => ?_)
      refine g_astore o [(4, .ref q9), (0, .ref (a 0)), (1, .int p1), (2, .int p2), (3, .ref oa)] (Nat.le_of_ble_eq_true rfl) rfl dL_takeFlags_13 ?_
      refine g_iconst o ic_1 dL_takeFlags_15 ?_
      cases Option.some.inj hf
      exact g_iret hret (Nat.le_of_ble_eq_true rfl) (Nat.le_of_ble_eq_true rfl) (vp_nar_int _) dL_takeFlags_16
    rw [if_neg hE] at hf
    by_cases hE : E5 = eIS
    · subst hE
      rw [if_pos rfl] at hf
      refine xw_catch o htab [⟨0, 10, 13, 28⟩] ⟨0, 10, 17, 15⟩ [] rfl (List.forall_mem_cons.mpr ⟨⟨by decide, eIO, m_364, nc_eIS_eIO⟩, (fun q hq => by cases hq)⟩) (by decide) (by decide) m_233 e_321 rfl (fun q9 => ?_)
      refine g_astore o [(4, .ref q9), (0, .ref (a 0)), (1, .int p1), (2, .int p2), (3, .ref oa)] (Nat.le_of_ble_eq_true rfl) rfl dL_takeFlags_17 ?_
      refine g_iconst o ic_2 dL_takeFlags_19 ?_
      cases Option.some.inj hf
      exact g_iret hret (Nat.le_of_ble_eq_true rfl) (Nat.le_of_ble_eq_true rfl) (vp_nar_int _) dL_takeFlags_20
    rw [if_neg hE] at hf
    cases hf
theorem c_L_takeFlags (l : Launch) (hst : l.stackTraces = false) (a b c : Nat → Nat) (oa : Nat) (u v w : St) (f : Nat → Int64) (p1 : Int32) (p2 : Int32) (t : Int32 × St × (Nat → Int64)) (hf : f_L_takeFlags u v w f p1 p2 = some t) : CoI l yL_takeFlags (.codeWith yL_takeFlags cL_takeFlags 5 (some .int) [(0, 10, 13, 28), (0, 10, 17, 15)]) 2 3 18 [.ref (a 0), .int p1, .int p2, .ref oa] (wXo a u b v c w oa f) (wXo a u b t.2.1 c w oa t.2.2) (.inl t.1) := mkH hst (by decide +kernel) (Nat.le_of_ble_eq_true rfl) (fun x _ o htab hI => b_L_takeFlags o htab a b c oa u v w f p1 p2 t hf (hI _ rfl))
set_option maxRecDepth 20000 in
set_option maxHeartbeats 2000000 in
theorem b_L_restoreSnapshot {x : Cx} (o : Ok x cL_restoreSnapshot 3 RL 3 1 6) (htab : (cxc x).exceptionTable.toList = tableOf [(0, 8, 11, 15)]) (a b c : Nat → Nat) (oa : Nat) (u v w : St) (f : Nat → Int64) (t : Int32 × St × (Nat → Int64)) (hf : f_L_restoreSnapshot u v w f = some t) (hret : RetI x cL_restoreSnapshot .int 1 6 (wXo a u b t.2.1 c w oa t.2.2 (cxT x)) t.1) : G x 3 0 0 (wXo a u b v c w oa f (cxT x)) [(0, .ref (a 0)), (1, .ref oa)] 0 [] := by
  unfold f_L_restoreSnapshot at hf
  refine g_aload_n o 1 rfl rfl dL_restoreSnapshot_0 ?_
  refine g_iconst o ic_0 dL_restoreSnapshot_1 ?_
  refine g_aload_n o 0 rfl rfl dL_restoreSnapshot_2 ?_
  rcases bx_some hf with ⟨r4, z6, hr4, hf⟩ | ⟨E5, z6, hr4, hf⟩
  · refine k_X1_restoreSnapshot_Ln o hr4 m_908 (Nat.le_of_ble_eq_true rfl) (Nat.le_of_ble_eq_true rfl) ⟨(Nat.le_of_ble_eq_true rfl), (Nat.le_of_ble_eq_true rfl)⟩ dL_restoreSnapshot_3 ?_
    refine g_i2l o dL_restoreSnapshot_6 ?_
    refine L_ost o dL_restoreSnapshot_7 hf (fun hf => ?_)
    refine g_goto (tgt := 14) o rfl dL_restoreSnapshot_8 ?_
    refine g_iconst o ic_0 dL_restoreSnapshot_14 ?_
    cases Option.some.inj hf
    exact g_iret hret (Nat.le_of_ble_eq_true rfl) (Nat.le_of_ble_eq_true rfl) (vp_nar_int _) dL_restoreSnapshot_15
  · refine k_X1_restoreSnapshot_Lx o hr4 m_908 (Nat.le_of_ble_eq_true rfl) (Nat.le_of_ble_eq_true rfl) ⟨(Nat.le_of_ble_eq_true rfl), (Nat.le_of_ble_eq_true rfl)⟩ dL_restoreSnapshot_3 ?_
    by_cases hE : E5 = eIS
    · subst hE
      rw [if_pos rfl] at hf
      refine xw_catch o htab [] ⟨0, 8, 11, 15⟩ [] rfl (fun q hq => by cases hq) (by decide) (by decide) m_233 e_321 rfl (fun q9 => ?_)
      refine g_astore_n o [(2, .ref q9), (0, .ref (a 0)), (1, .ref oa)] (Nat.le_of_ble_eq_true rfl) rfl rfl dL_restoreSnapshot_11 ?_
      refine g_iconst o ic_1 dL_restoreSnapshot_12 ?_
      cases Option.some.inj hf
      exact g_iret hret (Nat.le_of_ble_eq_true rfl) (Nat.le_of_ble_eq_true rfl) (vp_nar_int _) dL_restoreSnapshot_13
    rw [if_neg hE] at hf
    cases hf
theorem c_L_restoreSnapshot (l : Launch) (hst : l.stackTraces = false) (a b c : Nat → Nat) (oa : Nat) (u v w : St) (f : Nat → Int64) (t : Int32 × St × (Nat → Int64)) (hf : f_L_restoreSnapshot u v w f = some t) : CoI l yL_restoreSnapshot (.codeWith yL_restoreSnapshot cL_restoreSnapshot 3 (some .int) [(0, 8, 11, 15)]) 3 1 6 [.ref (a 0), .ref oa] (wXo a u b v c w oa f) (wXo a u b t.2.1 c w oa t.2.2) (.inl t.1) := mkH hst (by decide +kernel) (Nat.le_of_ble_eq_true rfl) (fun x _ o htab hI => b_L_restoreSnapshot o htab a b c oa u v w f t hf (hI _ rfl))
