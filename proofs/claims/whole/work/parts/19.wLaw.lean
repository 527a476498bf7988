theorem k_L_addClause_W {x : Cx} {cc : ByteArray} {nL : Nat} {own : String} {d mc ms k n : Nat} {lv : List (Nat × Value)} {pc i : Nat} {rest : List Value} {e : Nat → Nat} {m : St} {oa : Nat} {a b c : Nat → Nat} {u v w : St} {f : Nat → Int64} {p1 : Int32} {p2 : Int32} (o : Ok x cc nL own d mc ms) {t : Int32 × St × (Nat → Int64)} (ht : f_L_addClause u v w f p1 p2 = some t) (hlk : Cond.methodLink own i yL_addClause ∈ Ug) (hd : 3 < d) (hr : (rest.map fun v => v.category).sum ≤ 8) (hk : k + 3 ≤ mc ∧ n + 18 ≤ ms) (dg : decode cc pc = .ok (.invokestatic i, 3)) (kk : G x nL (k + 3) (n + 18) (wLw a u b t.2.1 c w e m oa t.2.2 (cxT x)) lv (pc + 3) (.int t.1 :: rest)) : G x nL k n (wLw a u b v c w e m oa f (cxT x)) lv pc (.ref oa :: .int p2 :: .int p1 :: .ref (a 0) :: rest) := gcI (wd2 := (wLw a u b t.2.1 c w e m oa t.2.2 (cxT x))) o (c_L_addClause (cxl x) o.2.2.2.2.2.2.2.2.2.1 a b c oa u v w f p1 p2 t ht) (can_SX o hd (Nat.le_of_ble_eq_true rfl) m_337 m_53 m_336 hlk yk_L_addClause rfl hr hk dg) sp_WL (fun E h => by cases h) (fun r h => by cases h; exact kk)
theorem k_L_addComplement_W {x : Cx} {cc : ByteArray} {nL : Nat} {own : String} {d mc ms k n : Nat} {lv : List (Nat × Value)} {pc i : Nat} {rest : List Value} {e : Nat → Nat} {m : St} {oa : Nat} {a b c : Nat → Nat} {u v w : St} {f : Nat → Int64} {p1 : Int32} (o : Ok x cc nL own d mc ms) {t : Int32 × St × (Nat → Int64)} (ht : f_L_addComplement u v w f p1 = some t) (hlk : Cond.methodLink own i yL_addComplement ∈ Ug) (hd : 3 < d) (hr : (rest.map fun v => v.category).sum ≤ 8) (hk : k + 2 ≤ mc ∧ n + 12 ≤ ms) (dg : decode cc pc = .ok (.invokestatic i, 3)) (kk : G x nL (k + 2) (n + 12) (wLw a u b t.2.1 c w e m oa t.2.2 (cxT x)) lv (pc + 3) (.int t.1 :: rest)) : G x nL k n (wLw a u b v c w e m oa f (cxT x)) lv pc (.ref oa :: .int p1 :: .ref (a 0) :: rest) := gcI (wd2 := (wLw a u b t.2.1 c w e m oa t.2.2 (cxT x))) o (c_L_addComplement (cxl x) o.2.2.2.2.2.2.2.2.2.1 a b c oa u v w f p1 t ht) (can_SX o hd (Nat.le_of_ble_eq_true rfl) m_432 m_53 m_431 hlk yk_L_addComplement rfl hr hk dg) sp_WL (fun E h => by cases h) (fun r h => by cases h; exact kk)
theorem k_L_addConstraint_W {x : Cx} {cc : ByteArray} {nL : Nat} {own : String} {d mc ms k n : Nat} {lv : List (Nat × Value)} {pc i : Nat} {rest : List Value} {e : Nat → Nat} {m : St} {oa : Nat} {a b c : Nat → Nat} {u v w : St} {f : Nat → Int64} {p1 : Int32} {p2 : Int32} {p3 : Int32} {p4 : Int32} {p5 : Int32} (o : Ok x cc nL own d mc ms) {t : Int32 × St × (Nat → Int64)} (ht : f_L_addConstraint u v w f p1 p2 p3 p4 p5 = some t) (hlk : Cond.methodLink own i yL_addConstraint ∈ Ug) (hd : 3 < d) (hr : (rest.map fun v => v.category).sum ≤ 8) (hk : k + 6 ≤ mc ∧ n + 36 ≤ ms) (dg : decode cc pc = .ok (.invokestatic i, 3)) (kk : G x nL (k + 6) (n + 36) (wLw a u b t.2.1 c w e m oa t.2.2 (cxT x)) lv (pc + 3) (.int t.1 :: rest)) : G x nL k n (wLw a u b v c w e m oa f (cxT x)) lv pc (.ref oa :: .int p5 :: .int p4 :: .int p3 :: .int p2 :: .int p1 :: .ref (a 0) :: rest) := gcI (wd2 := (wLw a u b t.2.1 c w e m oa t.2.2 (cxT x))) o (c_L_addConstraint (cxl x) o.2.2.2.2.2.2.2.2.2.1 a b c oa u v w f p1 p2 p3 p4 p5 t ht) (can_SX o hd (Nat.le_of_ble_eq_true rfl) m_657 m_53 m_656 hlk yk_L_addConstraint rfl hr hk dg) sp_WL (fun E h => by cases h) (fun r h => by cases h; exact kk)
theorem k_L_addExchanged_W {x : Cx} {cc : ByteArray} {nL : Nat} {own : String} {d mc ms k n : Nat} {lv : List (Nat × Value)} {pc i : Nat} {rest : List Value} {e : Nat → Nat} {m : St} {oa : Nat} {a b c : Nat → Nat} {u v w : St} {f : Nat → Int64} {p1 : Int32} {p2 : Int32} {p3 : Int32} (o : Ok x cc nL own d mc ms) {t : Int32 × St × (Nat → Int64)} (ht : f_L_addExchanged u v w f p1 p2 p3 = some t) (hlk : Cond.methodLink own i yL_addExchanged ∈ Ug) (hd : 3 < d) (hr : (rest.map fun v => v.category).sum ≤ 8) (hk : k + 4 ≤ mc ∧ n + 24 ≤ ms) (dg : decode cc pc = .ok (.invokestatic i, 3)) (kk : G x nL (k + 4) (n + 24) (wLw a u b t.2.1 c w e m oa t.2.2 (cxT x)) lv (pc + 3) (.int t.1 :: rest)) : G x nL k n (wLw a u b v c w e m oa f (cxT x)) lv pc (.ref oa :: .int p3 :: .int p2 :: .int p1 :: .ref (a 0) :: rest) := gcI (wd2 := (wLw a u b t.2.1 c w e m oa t.2.2 (cxT x))) o (c_L_addExchanged (cxl x) o.2.2.2.2.2.2.2.2.2.1 a b c oa u v w f p1 p2 p3 t ht) (can_SX o hd (Nat.le_of_ble_eq_true rfl) m_463 m_53 m_462 hlk yk_L_addExchanged rfl hr hk dg) sp_WL (fun E h => by cases h) (fun r h => by cases h; exact kk)
theorem k_L_addIntersection_W {x : Cx} {cc : ByteArray} {nL : Nat} {own : String} {d mc ms k n : Nat} {lv : List (Nat × Value)} {pc i : Nat} {rest : List Value} {e : Nat → Nat} {m : St} {oa : Nat} {a b c : Nat → Nat} {u v w : St} {f : Nat → Int64} {p1 : Int32} {p2 : Int32} (o : Ok x cc nL own d mc ms) {t : Int32 × St × (Nat → Int64)} (ht : f_L_addIntersection u v w f p1 p2 = some t) (hlk : Cond.methodLink own i yL_addIntersection ∈ Ug) (hd : 3 < d) (hr : (rest.map fun v => v.category).sum ≤ 8) (hk : k + 4 ≤ mc ∧ n + 24 ≤ ms) (dg : decode cc pc = .ok (.invokestatic i, 3)) (kk : G x nL (k + 4) (n + 24) (wLw a u b t.2.1 c w e m oa t.2.2 (cxT x)) lv (pc + 3) (.int t.1 :: rest)) : G x nL k n (wLw a u b v c w e m oa f (cxT x)) lv pc (.ref oa :: .int p2 :: .int p1 :: .ref (a 0) :: rest) := gcI (wd2 := (wLw a u b t.2.1 c w e m oa t.2.2 (cxT x))) o (c_L_addIntersection (cxl x) o.2.2.2.2.2.2.2.2.2.1 a b c oa u v w f p1 p2 t ht) (can_SX o hd (Nat.le_of_ble_eq_true rfl) m_439 m_53 m_438 hlk yk_L_addIntersection rfl hr hk dg) sp_WL (fun E h => by cases h) (fun r h => by cases h; exact kk)
theorem k_L_addParity_W {x : Cx} {cc : ByteArray} {nL : Nat} {own : String} {d mc ms k n : Nat} {lv : List (Nat × Value)} {pc i : Nat} {rest : List Value} {e : Nat → Nat} {m : St} {oa : Nat} {a b c : Nat → Nat} {u v w : St} {f : Nat → Int64} {p1 : Int32} {p2 : Int32} (o : Ok x cc nL own d mc ms) {t : Int32 × St × (Nat → Int64)} (ht : f_L_addParity u v w f p1 p2 = some t) (hlk : Cond.methodLink own i yL_addParity ∈ Ug) (hd : 3 < d) (hr : (rest.map fun v => v.category).sum ≤ 8) (hk : k + 3 ≤ mc ∧ n + 18 ≤ ms) (dg : decode cc pc = .ok (.invokestatic i, 3)) (kk : G x nL (k + 3) (n + 18) (wLw a u b t.2.1 c w e m oa t.2.2 (cxT x)) lv (pc + 3) (.int t.1 :: rest)) : G x nL k n (wLw a u b v c w e m oa f (cxT x)) lv pc (.ref oa :: .int p2 :: .int p1 :: .ref (a 0) :: rest) := gcI (wd2 := (wLw a u b t.2.1 c w e m oa t.2.2 (cxT x))) o (c_L_addParity (cxl x) o.2.2.2.2.2.2.2.2.2.1 a b c oa u v w f p1 p2 t ht) (can_SX o hd (Nat.le_of_ble_eq_true rfl) m_349 m_53 m_348 hlk yk_L_addParity rfl hr hk dg) sp_WL (fun E h => by cases h) (fun r h => by cases h; exact kk)
theorem k_L_addProjection_W {x : Cx} {cc : ByteArray} {nL : Nat} {own : String} {d mc ms k n : Nat} {lv : List (Nat × Value)} {pc i : Nat} {rest : List Value} {e : Nat → Nat} {m : St} {oa : Nat} {a b c : Nat → Nat} {u v w : St} {f : Nat → Int64} {p1 : Int32} {p2 : Int32} (o : Ok x cc nL own d mc ms) {t : Int32 × St × (Nat → Int64)} (ht : f_L_addProjection u v w f p1 p2 = some t) (hlk : Cond.methodLink own i yL_addProjection ∈ Ug) (hd : 3 < d) (hr : (rest.map fun v => v.category).sum ≤ 8) (hk : k + 4 ≤ mc ∧ n + 24 ≤ ms) (dg : decode cc pc = .ok (.invokestatic i, 3)) (kk : G x nL (k + 4) (n + 24) (wLw a u b t.2.1 c w e m oa t.2.2 (cxT x)) lv (pc + 3) (.int t.1 :: rest)) : G x nL k n (wLw a u b v c w e m oa f (cxT x)) lv pc (.ref oa :: .int p2 :: .int p1 :: .ref (a 0) :: rest) := gcI (wd2 := (wLw a u b t.2.1 c w e m oa t.2.2 (cxT x))) o (c_L_addProjection (cxl x) o.2.2.2.2.2.2.2.2.2.1 a b c oa u v w f p1 p2 t ht) (can_SX o hd (Nat.le_of_ble_eq_true rfl) m_447 m_53 m_446 hlk yk_L_addProjection rfl hr hk dg) sp_WL (fun E h => by cases h) (fun r h => by cases h; exact kk)
theorem k_L_addRelation_W {x : Cx} {cc : ByteArray} {nL : Nat} {own : String} {d mc ms k n : Nat} {lv : List (Nat × Value)} {pc i : Nat} {rest : List Value} {e : Nat → Nat} {m : St} {oa : Nat} {a b c : Nat → Nat} {u v w : St} {f : Nat → Int64} {p1 : Int32} (o : Ok x cc nL own d mc ms) {t : Int32 × St × (Nat → Int64)} (ht : f_L_addRelation u v w f p1 = some t) (hlk : Cond.methodLink own i yL_addRelation ∈ Ug) (hd : 3 < d) (hr : (rest.map fun v => v.category).sum ≤ 8) (hk : k + 2 ≤ mc ∧ n + 12 ≤ ms) (dg : decode cc pc = .ok (.invokestatic i, 3)) (kk : G x nL (k + 2) (n + 12) (wLw a u b t.2.1 c w e m oa t.2.2 (cxT x)) lv (pc + 3) (.int t.1 :: rest)) : G x nL k n (wLw a u b v c w e m oa f (cxT x)) lv pc (.ref oa :: .int p1 :: .ref (a 0) :: rest) := gcI (wd2 := (wLw a u b t.2.1 c w e m oa t.2.2 (cxT x))) o (c_L_addRelation (cxl x) o.2.2.2.2.2.2.2.2.2.1 a b c oa u v w f p1 t ht) (can_SX o hd (Nat.le_of_ble_eq_true rfl) m_231 m_53 m_230 hlk yk_L_addRelation rfl hr hk dg) sp_WL (fun E h => by cases h) (fun r h => by cases h; exact kk)
theorem k_L_addTuple_W {x : Cx} {cc : ByteArray} {nL : Nat} {own : String} {d mc ms k n : Nat} {lv : List (Nat × Value)} {pc i : Nat} {rest : List Value} {e : Nat → Nat} {m : St} {oa : Nat} {a b c : Nat → Nat} {u v w : St} {f : Nat → Int64} {p1 : Int32} {p2 : Int32} (o : Ok x cc nL own d mc ms) {t : Int32 × St × (Nat → Int64)} (ht : f_L_addTuple u v w f p1 p2 = some t) (hlk : Cond.methodLink own i yL_addTuple ∈ Ug) (hd : 3 < d) (hr : (rest.map fun v => v.category).sum ≤ 8) (hk : k + 2 ≤ mc ∧ n + 12 ≤ ms) (dg : decode cc pc = .ok (.invokestatic i, 3)) (kk : G x nL (k + 2) (n + 12) (wLw a u b t.2.1 c w e m oa t.2.2 (cxT x)) lv (pc + 3) (.int t.1 :: rest)) : G x nL k n (wLw a u b v c w e m oa f (cxT x)) lv pc (.ref oa :: .int p2 :: .int p1 :: .ref (a 0) :: rest) := gcI (wd2 := (wLw a u b t.2.1 c w e m oa t.2.2 (cxT x))) o (c_L_addTuple (cxl x) o.2.2.2.2.2.2.2.2.2.1 a b c oa u v w f p1 p2 t ht) (can_SX o hd (Nat.le_of_ble_eq_true rfl) m_363 m_53 m_362 hlk yk_L_addTuple rfl hr hk dg) sp_WL (fun E h => by cases h) (fun r h => by cases h; exact kk)
theorem k_L_append_W {x : Cx} {cc : ByteArray} {nL : Nat} {own : String} {d mc ms k n : Nat} {lv : List (Nat × Value)} {pc i : Nat} {rest : List Value} {e : Nat → Nat} {m : St} {oa : Nat} {a b c : Nat → Nat} {u v w : St} {f : Nat → Int64} {p1 : Int32} (o : Ok x cc nL own d mc ms) {t : Int32 × St × (Nat → Int64)} (ht : f_L_append u v w f p1 = some t) (hlk : Cond.methodLink own i yL_append ∈ Ug) (hd : 1 < d) (hr : (rest.map fun v => v.category).sum ≤ 8) (hk : k + 2 ≤ mc ∧ n + 12 ≤ ms) (dg : decode cc pc = .ok (.invokestatic i, 3)) (kk : G x nL (k + 2) (n + 12) (wLw a t.2.1 b v c w e m oa t.2.2 (cxT x)) lv (pc + 3) (.int t.1 :: rest)) : G x nL k n (wLw a u b v c w e m oa f (cxT x)) lv pc (.ref oa :: .int p1 :: .ref (a 0) :: rest) := gcI (wd2 := (wLw a t.2.1 b v c w e m oa t.2.2 (cxT x))) o (c_L_append (cxl x) o.2.2.2.2.2.2.2.2.2.1 a b c oa u v w f p1 t ht) (can_SX o hd (Nat.le_of_ble_eq_true rfl) m_809 m_53 m_808 hlk yk_L_append rfl hr hk dg) sp_WL (fun E h => by cases h) (fun r h => by cases h; exact kk)
theorem k_L_apply_W {x : Cx} {cc : ByteArray} {nL : Nat} {own : String} {d mc ms k n : Nat} {lv : List (Nat × Value)} {pc i : Nat} {rest : List Value} {e : Nat → Nat} {m : St} {oa : Nat} {a b c : Nat → Nat} {u v w : St} {f : Nat → Int64} {p1 : Int32} {p2 : Int32} {p3 : Int32} {p4 : Int32} {p5 : Int32} (o : Ok x cc nL own d mc ms) {t : Int32 × (Nat → Int64)} (ht : f_L_apply u v w f p1 p2 p3 p4 p5 = some t) (hlk : Cond.methodLink own i yL_apply ∈ Ug) (hd : 3 < d) (hr : (rest.map fun v => v.category).sum ≤ 8) (hk : k + 5 ≤ mc ∧ n + 30 ≤ ms) (dg : decode cc pc = .ok (.invokestatic i, 3)) (kk : G x nL (k + 5) (n + 30) (wLw a u b v c w e m oa t.2 (cxT x)) lv (pc + 3) (.int t.1 :: rest)) : G x nL k n (wLw a u b v c w e m oa f (cxT x)) lv pc (.ref oa :: .int p5 :: .int p4 :: .int p3 :: .int p2 :: .int p1 :: .ref (a 0) :: rest) := gcI (wd2 := (wLw a u b v c w e m oa t.2 (cxT x))) o (c_L_apply (cxl x) o.2.2.2.2.2.2.2.2.2.1 a b c oa u v w f p1 p2 p3 p4 p5 t ht) (can_SX o hd (Nat.le_of_ble_eq_true rfl) m_473 m_53 m_472 hlk yk_L_apply rfl hr hk dg) sp_WL (fun E h => by cases h) (fun r h => by cases h; exact kk)
theorem k_L_areEqual_W {x : Cx} {cc : ByteArray} {nL : Nat} {own : String} {d mc ms k n : Nat} {lv : List (Nat × Value)} {pc i : Nat} {rest : List Value} {e : Nat → Nat} {m : St} {oa : Nat} {a b c : Nat → Nat} {u v w : St} {f : Nat → Int64} {p1 : Int32} {p2 : Int32} (o : Ok x cc nL own d mc ms) {t : Int32 × (Nat → Int64)} (ht : f_L_areEqual u v w f p1 p2 = some t) (hlk : Cond.methodLink own i yL_areEqual ∈ Ug) (hd : 2 < d) (hr : (rest.map fun v => v.category).sum ≤ 8) (hk : k + 2 ≤ mc ∧ n + 12 ≤ ms) (dg : decode cc pc = .ok (.invokestatic i, 3)) (kk : G x nL (k + 2) (n + 12) (wLw a u b v c w e m oa t.2 (cxT x)) lv (pc + 3) (.int t.1 :: rest)) : G x nL k n (wLw a u b v c w e m oa f (cxT x)) lv pc (.ref oa :: .int p2 :: .int p1 :: .ref (a 0) :: rest) := gcI (wd2 := (wLw a u b v c w e m oa t.2 (cxT x))) o (c_L_areEqual (cxl x) o.2.2.2.2.2.2.2.2.2.1 a b c oa u v w f p1 p2 t ht) (can_SX o hd (Nat.le_of_ble_eq_true rfl) m_425 m_53 m_424 hlk yk_L_areEqual rfl hr hk dg) sp_WL (fun E h => by cases h) (fun r h => by cases h; exact kk)
theorem k_L_arity_W {x : Cx} {cc : ByteArray} {nL : Nat} {own : String} {d mc ms k n : Nat} {lv : List (Nat × Value)} {pc i : Nat} {rest : List Value} {e : Nat → Nat} {m : St} {oa : Nat} {a b c : Nat → Nat} {u v w : St} {f : Nat → Int64} {p1 : Int32} (o : Ok x cc nL own d mc ms) {t : Int32 × (Nat → Int64)} (ht : f_L_arity u v w f p1 = some t) (hlk : Cond.methodLink own i yL_arity ∈ Ug) (hd : 2 < d) (hr : (rest.map fun v => v.category).sum ≤ 8) (hk : k + 1 ≤ mc ∧ n + 6 ≤ ms) (dg : decode cc pc = .ok (.invokestatic i, 3)) (kk : G x nL (k + 1) (n + 6) (wLw a u b v c w e m oa t.2 (cxT x)) lv (pc + 3) (.int t.1 :: rest)) : G x nL k n (wLw a u b v c w e m oa f (cxT x)) lv pc (.ref oa :: .int p1 :: .ref (a 0) :: rest) := gcI (wd2 := (wLw a u b v c w e m oa t.2 (cxT x))) o (c_L_arity (cxl x) o.2.2.2.2.2.2.2.2.2.1 a b c oa u v w f p1 t ht) (can_SX o hd (Nat.le_of_ble_eq_true rfl) m_418 m_53 m_417 hlk yk_L_arity rfl hr hk dg) sp_WL (fun E h => by cases h) (fun r h => by cases h; exact kk)
theorem k_L_close_W {x : Cx} {cc : ByteArray} {nL : Nat} {own : String} {d mc ms k n : Nat} {lv : List (Nat × Value)} {pc i : Nat} {rest : List Value} {e : Nat → Nat} {m : St} {oa : Nat} {a b c : Nat → Nat} {u v w : St} {f : Nat → Int64} {p1 : Int32} {p2 : Int32} {p3 : Int32} (o : Ok x cc nL own d mc ms) {t : Int32 × St × (Nat → Int64)} (ht : f_L_close u v w f p1 p2 p3 = some t) (hlk : Cond.methodLink own i yL_close ∈ Ug) (hd : 3 < d) (hr : (rest.map fun v => v.category).sum ≤ 8) (hk : k + 3 ≤ mc ∧ n + 18 ≤ ms) (dg : decode cc pc = .ok (.invokestatic i, 3)) (kk : G x nL (k + 3) (n + 18) (wLw a u b t.2.1 c w e m oa t.2.2 (cxT x)) lv (pc + 3) (.int t.1 :: rest)) : G x nL k n (wLw a u b v c w e m oa f (cxT x)) lv pc (.ref oa :: .int p3 :: .int p2 :: .int p1 :: .ref (a 0) :: rest) := gcI (wd2 := (wLw a u b t.2.1 c w e m oa t.2.2 (cxT x))) o (c_L_close (cxl x) o.2.2.2.2.2.2.2.2.2.1 a b c oa u v w f p1 p2 p3 t ht) (can_SX o hd (Nat.le_of_ble_eq_true rfl) m_585 m_53 m_584 hlk yk_L_close rfl hr hk dg) sp_WL (fun E h => by cases h) (fun r h => by cases h; exact kk)
theorem k_L_compose_W {x : Cx} {cc : ByteArray} {nL : Nat} {own : String} {d mc ms k n : Nat} {lv : List (Nat × Value)} {pc i : Nat} {rest : List Value} {e : Nat → Nat} {m : St} {oa : Nat} {a b c : Nat → Nat} {u v w : St} {f : Nat → Int64} {p1 : Int32} {p2 : Int32} {p3 : Int32} (o : Ok x cc nL own d mc ms) {t : Int32 × (Nat → Int64)} (ht : f_L_compose u v w f p1 p2 p3 = some t) (hlk : Cond.methodLink own i yL_compose ∈ Ug) (hd : 3 < d) (hr : (rest.map fun v => v.category).sum ≤ 8) (hk : k + 3 ≤ mc ∧ n + 18 ≤ ms) (dg : decode cc pc = .ok (.invokestatic i, 3)) (kk : G x nL (k + 3) (n + 18) (wLw a u b v c w e m oa t.2 (cxT x)) lv (pc + 3) (.int t.1 :: rest)) : G x nL k n (wLw a u b v c w e m oa f (cxT x)) lv pc (.ref oa :: .int p3 :: .int p2 :: .int p1 :: .ref (a 0) :: rest) := gcI (wd2 := (wLw a u b v c w e m oa t.2 (cxT x))) o (c_L_compose (cxl x) o.2.2.2.2.2.2.2.2.2.1 a b c oa u v w f p1 p2 p3 t ht) (can_SX o hd (Nat.le_of_ble_eq_true rfl) m_607 m_53 m_606 hlk yk_L_compose rfl hr hk dg) sp_WL (fun E h => by cases h) (fun r h => by cases h; exact kk)
theorem k_L_contains_W {x : Cx} {cc : ByteArray} {nL : Nat} {own : String} {d mc ms k n : Nat} {lv : List (Nat × Value)} {pc i : Nat} {rest : List Value} {e : Nat → Nat} {m : St} {oa : Nat} {a b c : Nat → Nat} {u v w : St} {f : Nat → Int64} {p1 : Int32} {p2 : Int32} (o : Ok x cc nL own d mc ms) {t : Int32 × (Nat → Int64)} (ht : f_L_contains u v w f p1 p2 = some t) (hlk : Cond.methodLink own i yL_contains ∈ Ug) (hd : 3 < d) (hr : (rest.map fun v => v.category).sum ≤ 8) (hk : k + 2 ≤ mc ∧ n + 12 ≤ ms) (dg : decode cc pc = .ok (.invokestatic i, 3)) (kk : G x nL (k + 2) (n + 12) (wLw a u b v c w e m oa t.2 (cxT x)) lv (pc + 3) (.int t.1 :: rest)) : G x nL k n (wLw a u b v c w e m oa f (cxT x)) lv pc (.ref oa :: .int p2 :: .int p1 :: .ref (a 0) :: rest) := gcI (wd2 := (wLw a u b v c w e m oa t.2 (cxT x))) o (c_L_contains (cxl x) o.2.2.2.2.2.2.2.2.2.1 a b c oa u v w f p1 p2 t ht) (can_SX o hd (Nat.le_of_ble_eq_true rfl) m_404 m_53 m_403 hlk yk_L_contains rfl hr hk dg) sp_WL (fun E h => by cases h) (fun r h => by cases h; exact kk)
theorem k_L_define_W {x : Cx} {cc : ByteArray} {nL : Nat} {own : String} {d mc ms k n : Nat} {lv : List (Nat × Value)} {pc i : Nat} {rest : List Value} {e : Nat → Nat} {m : St} {oa : Nat} {a b c : Nat → Nat} {u v w : St} {f : Nat → Int64} {p1 : Int32} {p2 : Int32} {p3 : Int32} {p4 : Int32} {p5 : Int32} (o : Ok x cc nL own d mc ms) {t : Int32 × St × (Nat → Int64)} (ht : f_L_define u v w f p1 p2 p3 p4 p5 = some t) (hlk : Cond.methodLink own i yL_define ∈ Ug) (hd : 15 < d) (hr : (rest.map fun v => v.category).sum ≤ 8) (hk : k + 6 ≤ mc ∧ n + 36 ≤ ms) (dg : decode cc pc = .ok (.invokestatic i, 3)) (kk : G x nL (k + 6) (n + 36) (wLw a u b t.2.1 c w e m oa t.2.2 (cxT x)) lv (pc + 3) (.int t.1 :: rest)) : G x nL k n (wLw a u b v c w e m oa f (cxT x)) lv pc (.ref oa :: .int p5 :: .int p4 :: .int p3 :: .int p2 :: .int p1 :: .ref (a 0) :: rest) := gcI (wd2 := (wLw a u b t.2.1 c w e m oa t.2.2 (cxT x))) o (c_L_define (cxl x) o.2.2.2.2.2.2.2.2.2.1 a b c oa u v w f p1 p2 p3 p4 p5 t ht) (can_SX o hd (Nat.le_of_ble_eq_true rfl) m_776 m_53 m_775 hlk yk_L_define rfl hr hk dg) sp_WL (fun E h => by cases h) (fun r h => by cases h; exact kk)
theorem k_L_dependsOn_W {x : Cx} {cc : ByteArray} {nL : Nat} {own : String} {d mc ms k n : Nat} {lv : List (Nat × Value)} {pc i : Nat} {rest : List Value} {e : Nat → Nat} {m : St} {oa : Nat} {a b c : Nat → Nat} {u v w : St} {f : Nat → Int64} {p1 : Int32} {p2 : Int32} {p3 : Int32} (o : Ok x cc nL own d mc ms) {t : Int32 × (Nat → Int64)} (ht : f_L_dependsOn u v w f p1 p2 p3 = some t) (hlk : Cond.methodLink own i yL_dependsOn ∈ Ug) (hd : 4 < d) (hr : (rest.map fun v => v.category).sum ≤ 8) (hk : k + 3 ≤ mc ∧ n + 18 ≤ ms) (dg : decode cc pc = .ok (.invokestatic i, 3)) (kk : G x nL (k + 3) (n + 18) (wLw a u b v c w e m oa t.2 (cxT x)) lv (pc + 3) (.int t.1 :: rest)) : G x nL k n (wLw a u b v c w e m oa f (cxT x)) lv pc (.ref oa :: .int p3 :: .int p2 :: .int p1 :: .ref (a 0) :: rest) := gcI (wd2 := (wLw a u b v c w e m oa t.2 (cxT x))) o (c_L_dependsOn (cxl x) o.2.2.2.2.2.2.2.2.2.1 a b c oa u v w f p1 p2 p3 t ht) (can_SX o hd (Nat.le_of_ble_eq_true rfl) m_599 m_53 m_598 hlk yk_L_dependsOn rfl hr hk dg) sp_WL (fun E h => by cases h) (fun r h => by cases h; exact kk)
theorem k_L_dimension_W {x : Cx} {cc : ByteArray} {nL : Nat} {own : String} {d mc ms k n : Nat} {lv : List (Nat × Value)} {pc i : Nat} {rest : List Value} {e : Nat → Nat} {m : St} {oa : Nat} {a b c : Nat → Nat} {u v w : St} {f : Nat → Int64} (o : Ok x cc nL own d mc ms) {t : Int32 × (Nat → Int64)} (ht : f_L_dimension u v w f = some t) (hlk : Cond.methodLink own i yL_dimension ∈ Ug) (hd : 16 < d) (hr : (rest.map fun v => v.category).sum ≤ 8) (hk : k + 2 ≤ mc ∧ n + 12 ≤ ms) (dg : decode cc pc = .ok (.invokestatic i, 3)) (kk : G x nL (k + 2) (n + 12) (wLw a u b v c w e m oa t.2 (cxT x)) lv (pc + 3) (.int t.1 :: rest)) : G x nL k n (wLw a u b v c w e m oa f (cxT x)) lv pc (.ref oa :: .ref (a 0) :: rest) := gcI (wd2 := (wLw a u b v c w e m oa t.2 (cxT x))) o (c_L_dimension (cxl x) o.2.2.2.2.2.2.2.2.2.1 a b c oa u v w f t ht) (can_SX o hd (Nat.le_of_ble_eq_true rfl) m_769 m_53 m_768 hlk yk_L_dimension rfl hr hk dg) sp_WL (fun E h => by cases h) (fun r h => by cases h; exact kk)
theorem k_L_dual_W {x : Cx} {cc : ByteArray} {nL : Nat} {own : String} {d mc ms k n : Nat} {lv : List (Nat × Value)} {pc i : Nat} {rest : List Value} {e : Nat → Nat} {m : St} {oa : Nat} {a b c : Nat → Nat} {u v w : St} {f : Nat → Int64} {p1 : Int32} {p2 : Int32} (o : Ok x cc nL own d mc ms) {t : Int32 × (Nat → Int64)} (ht : f_L_dual u v w f p1 p2 = some t) (hlk : Cond.methodLink own i yL_dual ∈ Ug) (hd : 3 < d) (hr : (rest.map fun v => v.category).sum ≤ 8) (hk : k + 2 ≤ mc ∧ n + 12 ≤ ms) (dg : decode cc pc = .ok (.invokestatic i, 3)) (kk : G x nL (k + 2) (n + 12) (wLw a u b v c w e m oa t.2 (cxT x)) lv (pc + 3) (.int t.1 :: rest)) : G x nL k n (wLw a u b v c w e m oa f (cxT x)) lv pc (.ref oa :: .int p2 :: .int p1 :: .ref (a 0) :: rest) := gcI (wd2 := (wLw a u b v c w e m oa t.2 (cxT x))) o (c_L_dual (cxl x) o.2.2.2.2.2.2.2.2.2.1 a b c oa u v w f p1 p2 t ht) (can_SX o hd (Nat.le_of_ble_eq_true rfl) m_592 m_53 m_591 hlk yk_L_dual rfl hr hk dg) sp_WL (fun E h => by cases h) (fun r h => by cases h; exact kk)
theorem k_L_errorPosition_W {x : Cx} {cc : ByteArray} {nL : Nat} {own : String} {d mc ms k n : Nat} {lv : List (Nat × Value)} {pc i : Nat} {rest : List Value} {e : Nat → Nat} {m : St} {oa : Nat} {a b c : Nat → Nat} {u v w : St} {f : Nat → Int64} (o : Ok x cc nL own d mc ms) {t : Int32 × (Nat → Int64)} (ht : f_L_errorPosition u v w f = some t) (hlk : Cond.methodLink own i yL_errorPosition ∈ Ug) (hd : 1 < d) (hr : (rest.map fun v => v.category).sum ≤ 8) (hk : k + 1 ≤ mc ∧ n + 6 ≤ ms) (dg : decode cc pc = .ok (.invokestatic i, 3)) (kk : G x nL (k + 1) (n + 6) (wLw a u b v c w e m oa t.2 (cxT x)) lv (pc + 3) (.int t.1 :: rest)) : G x nL k n (wLw a u b v c w e m oa f (cxT x)) lv pc (.ref oa :: .ref (a 0) :: rest) := gcI (wd2 := (wLw a u b v c w e m oa t.2 (cxT x))) o (c_L_errorPosition (cxl x) o.2.2.2.2.2.2.2.2.2.1 a b c oa u v w f t ht) (can_SX o hd (Nat.le_of_ble_eq_true rfl) m_844 m_53 m_843 hlk yk_L_errorPosition rfl hr hk dg) sp_WL (fun E h => by cases h) (fun r h => by cases h; exact kk)
theorem k_L_firstViolated_W {x : Cx} {cc : ByteArray} {nL : Nat} {own : String} {d mc ms k n : Nat} {lv : List (Nat × Value)} {pc i : Nat} {rest : List Value} {e : Nat → Nat} {m : St} {oa : Nat} {a b c : Nat → Nat} {u v w : St} {f : Nat → Int64} {p1 : Int32} (o : Ok x cc nL own d mc ms) {t : Int32 × (Nat → Int64)} (ht : f_L_firstViolated u v w f p1 = some t) (hlk : Cond.methodLink own i yL_firstViolated ∈ Ug) (hd : 3 < d) (hr : (rest.map fun v => v.category).sum ≤ 8) (hk : k + 2 ≤ mc ∧ n + 12 ≤ ms) (dg : decode cc pc = .ok (.invokestatic i, 3)) (kk : G x nL (k + 2) (n + 12) (wLw a u b v c w e m oa t.2 (cxT x)) lv (pc + 3) (.int t.1 :: rest)) : G x nL k n (wLw a u b v c w e m oa f (cxT x)) lv pc (.ref oa :: .int p1 :: .ref (a 0) :: rest) := gcI (wd2 := (wLw a u b v c w e m oa t.2 (cxT x))) o (c_L_firstViolated (cxl x) o.2.2.2.2.2.2.2.2.2.1 a b c oa u v w f p1 t ht) (can_SX o hd (Nat.le_of_ble_eq_true rfl) m_788 m_53 m_787 hlk yk_L_firstViolated rfl hr hk dg) sp_WL (fun E h => by cases h) (fun r h => by cases h; exact kk)
theorem k_L_greatestSolution_W {x : Cx} {cc : ByteArray} {nL : Nat} {own : String} {d mc ms k n : Nat} {lv : List (Nat × Value)} {pc i : Nat} {rest : List Value} {e : Nat → Nat} {m : St} {oa : Nat} {a b c : Nat → Nat} {u v w : St} {f : Nat → Int64} (o : Ok x cc nL own d mc ms) {t : Int32 × (Nat → Int64)} (ht : f_L_greatestSolution u v w f = some t) (hlk : Cond.methodLink own i yL_greatestSolution ∈ Ug) (hd : 16 < d) (hr : (rest.map fun v => v.category).sum ≤ 8) (hk : k + 2 ≤ mc ∧ n + 12 ≤ ms) (dg : decode cc pc = .ok (.invokestatic i, 3)) (kk : G x nL (k + 2) (n + 12) (wLw a u b v c w e m oa t.2 (cxT x)) lv (pc + 3) (.int t.1 :: rest)) : G x nL k n (wLw a u b v c w e m oa f (cxT x)) lv pc (.ref oa :: .ref (a 0) :: rest) := gcI (wd2 := (wLw a u b v c w e m oa t.2 (cxT x))) o (c_L_greatestSolution (cxl x) o.2.2.2.2.2.2.2.2.2.1 a b c oa u v w f t ht) (can_SX o hd (Nat.le_of_ble_eq_true rfl) m_751 m_53 m_750 hlk yk_L_greatestSolution rfl hr hk dg) sp_WL (fun E h => by cases h) (fun r h => by cases h; exact kk)
theorem k_L_hasKind_W {x : Cx} {cc : ByteArray} {nL : Nat} {own : String} {d mc ms k n : Nat} {lv : List (Nat × Value)} {pc i : Nat} {rest : List Value} {e : Nat → Nat} {m : St} {oa : Nat} {a b c : Nat → Nat} {u v w : St} {f : Nat → Int64} {p1 : Int32} (o : Ok x cc nL own d mc ms) {t : Int32 × (Nat → Int64)} (ht : f_L_hasKind u v w f p1 = some t) (hlk : Cond.methodLink own i yL_hasKind ∈ Ug) (hd : 6 < d) (hr : (rest.map fun v => v.category).sum ≤ 8) (hk : k + 1 ≤ mc ∧ n + 6 ≤ ms) (dg : decode cc pc = .ok (.invokestatic i, 3)) (kk : G x nL (k + 1) (n + 6) (wLw a u b v c w e m oa t.2 (cxT x)) lv (pc + 3) (.int t.1 :: rest)) : G x nL k n (wLw a u b v c w e m oa f (cxT x)) lv pc (.ref oa :: .int p1 :: .ref (a 0) :: rest) := gcI (wd2 := (wLw a u b v c w e m oa t.2 (cxT x))) o (c_L_hasKind (cxl x) o.2.2.2.2.2.2.2.2.2.1 a b c oa u v w f p1 t ht) (can_SX o hd (Nat.le_of_ble_eq_true rfl) m_630 m_53 m_629 hlk yk_L_hasKind rfl hr hk dg) sp_WL (fun E h => by cases h) (fun r h => by cases h; exact kk)
theorem k_L_implies_W {x : Cx} {cc : ByteArray} {nL : Nat} {own : String} {d mc ms k n : Nat} {lv : List (Nat × Value)} {pc i : Nat} {rest : List Value} {e : Nat → Nat} {m : St} {oa : Nat} {a b c : Nat → Nat} {u v w : St} {f : Nat → Int64} {p1 : Int32} {p2 : Int32} {p3 : Int32} {p4 : Int32} (o : Ok x cc nL own d mc ms) {t : Int32 × (Nat → Int64)} (ht : f_L_implies u v w f p1 p2 p3 p4 = some t) (hlk : Cond.methodLink own i yL_implies ∈ Ug) (hd : 15 < d) (hr : (rest.map fun v => v.category).sum ≤ 8) (hk : k + 5 ≤ mc ∧ n + 30 ≤ ms) (dg : decode cc pc = .ok (.invokestatic i, 3)) (kk : G x nL (k + 5) (n + 30) (wLw a u b v c w e m oa t.2 (cxT x)) lv (pc + 3) (.int t.1 :: rest)) : G x nL k n (wLw a u b v c w e m oa f (cxT x)) lv pc (.ref oa :: .int p4 :: .int p3 :: .int p2 :: .int p1 :: .ref (a 0) :: rest) := gcI (wd2 := (wLw a u b v c w e m oa t.2 (cxT x))) o (c_L_implies (cxl x) o.2.2.2.2.2.2.2.2.2.1 a b c oa u v w f p1 p2 p3 p4 t ht) (can_SX o hd (Nat.le_of_ble_eq_true rfl) m_758 m_53 m_757 hlk yk_L_implies rfl hr hk dg) sp_WL (fun E h => by cases h) (fun r h => by cases h; exact kk)
theorem k_L_isForced_W {x : Cx} {cc : ByteArray} {nL : Nat} {own : String} {d mc ms k n : Nat} {lv : List (Nat × Value)} {pc i : Nat} {rest : List Value} {e : Nat → Nat} {m : St} {oa : Nat} {a b c : Nat → Nat} {u v w : St} {f : Nat → Int64} {p1 : Int32} {p2 : Int32} (o : Ok x cc nL own d mc ms) {t : Int32 × (Nat → Int64)} (ht : f_L_isForced u v w f p1 p2 = some t) (hlk : Cond.methodLink own i yL_isForced ∈ Ug) (hd : 15 < d) (hr : (rest.map fun v => v.category).sum ≤ 8) (hk : k + 2 ≤ mc ∧ n + 12 ≤ ms) (dg : decode cc pc = .ok (.invokestatic i, 3)) (kk : G x nL (k + 2) (n + 12) (wLw a u b v c w e m oa t.2 (cxT x)) lv (pc + 3) (.int t.1 :: rest)) : G x nL k n (wLw a u b v c w e m oa f (cxT x)) lv pc (.ref oa :: .int p2 :: .int p1 :: .ref (a 0) :: rest) := gcI (wd2 := (wLw a u b v c w e m oa t.2 (cxT x))) o (c_L_isForced (cxl x) o.2.2.2.2.2.2.2.2.2.1 a b c oa u v w f p1 p2 t ht) (can_SX o hd (Nat.le_of_ble_eq_true rfl) m_700 m_53 m_699 hlk yk_L_isForced rfl hr hk dg) sp_WL (fun E h => by cases h) (fun r h => by cases h; exact kk)
theorem k_L_isIdempotent_W {x : Cx} {cc : ByteArray} {nL : Nat} {own : String} {d mc ms k n : Nat} {lv : List (Nat × Value)} {pc i : Nat} {rest : List Value} {e : Nat → Nat} {m : St} {oa : Nat} {a b c : Nat → Nat} {u v w : St} {f : Nat → Int64} {p1 : Int32} {p2 : Int32} (o : Ok x cc nL own d mc ms) {t : Int32 × (Nat → Int64)} (ht : f_L_isIdempotent u v w f p1 p2 = some t) (hlk : Cond.methodLink own i yL_isIdempotent ∈ Ug) (hd : 3 < d) (hr : (rest.map fun v => v.category).sum ≤ 8) (hk : k + 2 ≤ mc ∧ n + 12 ≤ ms) (dg : decode cc pc = .ok (.invokestatic i, 3)) (kk : G x nL (k + 2) (n + 12) (wLw a u b v c w e m oa t.2 (cxT x)) lv (pc + 3) (.int t.1 :: rest)) : G x nL k n (wLw a u b v c w e m oa f (cxT x)) lv pc (.ref oa :: .int p2 :: .int p1 :: .ref (a 0) :: rest) := gcI (wd2 := (wLw a u b v c w e m oa t.2 (cxT x))) o (c_L_isIdempotent (cxl x) o.2.2.2.2.2.2.2.2.2.1 a b c oa u v w f p1 p2 t ht) (can_SX o hd (Nat.le_of_ble_eq_true rfl) m_552 m_53 m_551 hlk yk_L_isIdempotent rfl hr hk dg) sp_WL (fun E h => by cases h) (fun r h => by cases h; exact kk)
theorem k_L_isMonotone_W {x : Cx} {cc : ByteArray} {nL : Nat} {own : String} {d mc ms k n : Nat} {lv : List (Nat × Value)} {pc i : Nat} {rest : List Value} {e : Nat → Nat} {m : St} {oa : Nat} {a b c : Nat → Nat} {u v w : St} {f : Nat → Int64} {p1 : Int32} {p2 : Int32} (o : Ok x cc nL own d mc ms) {t : Int32 × (Nat → Int64)} (ht : f_L_isMonotone u v w f p1 p2 = some t) (hlk : Cond.methodLink own i yL_isMonotone ∈ Ug) (hd : 4 < d) (hr : (rest.map fun v => v.category).sum ≤ 8) (hk : k + 2 ≤ mc ∧ n + 12 ≤ ms) (dg : decode cc pc = .ok (.invokestatic i, 3)) (kk : G x nL (k + 2) (n + 12) (wLw a u b v c w e m oa t.2 (cxT x)) lv (pc + 3) (.int t.1 :: rest)) : G x nL k n (wLw a u b v c w e m oa f (cxT x)) lv pc (.ref oa :: .int p2 :: .int p1 :: .ref (a 0) :: rest) := gcI (wd2 := (wLw a u b v c w e m oa t.2 (cxT x))) o (c_L_isMonotone (cxl x) o.2.2.2.2.2.2.2.2.2.1 a b c oa u v w f p1 p2 t ht) (can_SX o hd (Nat.le_of_ble_eq_true rfl) m_559 m_53 m_558 hlk yk_L_isMonotone rfl hr hk dg) sp_WL (fun E h => by cases h) (fun r h => by cases h; exact kk)
theorem k_L_isPolymorphism_W {x : Cx} {cc : ByteArray} {nL : Nat} {own : String} {d mc ms k n : Nat} {lv : List (Nat × Value)} {pc i : Nat} {rest : List Value} {e : Nat → Nat} {m : St} {oa : Nat} {a b c : Nat → Nat} {u v w : St} {f : Nat → Int64} {p1 : Int32} {p2 : Int32} (o : Ok x cc nL own d mc ms) {t : Int32 × (Nat → Int64)} (ht : f_L_isPolymorphism u v w f p1 p2 = some t) (hlk : Cond.methodLink own i yL_isPolymorphism ∈ Ug) (hd : 5 < d) (hr : (rest.map fun v => v.category).sum ≤ 8) (hk : k + 2 ≤ mc ∧ n + 12 ≤ ms) (dg : decode cc pc = .ok (.invokestatic i, 3)) (kk : G x nL (k + 2) (n + 12) (wLw a u b v c w e m oa t.2 (cxT x)) lv (pc + 3) (.int t.1 :: rest)) : G x nL k n (wLw a u b v c w e m oa f (cxT x)) lv pc (.ref oa :: .int p2 :: .int p1 :: .ref (a 0) :: rest) := gcI (wd2 := (wLw a u b v c w e m oa t.2 (cxT x))) o (c_L_isPolymorphism (cxl x) o.2.2.2.2.2.2.2.2.2.1 a b c oa u v w f p1 p2 t ht) (can_SX o hd (Nat.le_of_ble_eq_true rfl) m_510 m_53 m_509 hlk yk_L_isPolymorphism rfl hr hk dg) sp_WL (fun E h => by cases h) (fun r h => by cases h; exact kk)
theorem k_L_isRedundant_W {x : Cx} {cc : ByteArray} {nL : Nat} {own : String} {d mc ms k n : Nat} {lv : List (Nat × Value)} {pc i : Nat} {rest : List Value} {e : Nat → Nat} {m : St} {oa : Nat} {a b c : Nat → Nat} {u v w : St} {f : Nat → Int64} {p1 : Int32} (o : Ok x cc nL own d mc ms) {t : Int32 × (Nat → Int64)} (ht : f_L_isRedundant u v w f p1 = some t) (hlk : Cond.methodLink own i yL_isRedundant ∈ Ug) (hd : 15 < d) (hr : (rest.map fun v => v.category).sum ≤ 8) (hk : k + 1 ≤ mc ∧ n + 6 ≤ ms) (dg : decode cc pc = .ok (.invokestatic i, 3)) (kk : G x nL (k + 1) (n + 6) (wLw a u b v c w e m oa t.2 (cxT x)) lv (pc + 3) (.int t.1 :: rest)) : G x nL k n (wLw a u b v c w e m oa f (cxT x)) lv pc (.ref oa :: .int p1 :: .ref (a 0) :: rest) := gcI (wd2 := (wLw a u b v c w e m oa t.2 (cxT x))) o (c_L_isRedundant (cxl x) o.2.2.2.2.2.2.2.2.2.1 a b c oa u v w f p1 t ht) (can_SX o hd (Nat.le_of_ble_eq_true rfl) m_801 m_53 m_800 hlk yk_L_isRedundant rfl hr hk dg) sp_WL (fun E h => by cases h) (fun r h => by cases h; exact kk)
theorem k_L_leastSolution_W {x : Cx} {cc : ByteArray} {nL : Nat} {own : String} {d mc ms k n : Nat} {lv : List (Nat × Value)} {pc i : Nat} {rest : List Value} {e : Nat → Nat} {m : St} {oa : Nat} {a b c : Nat → Nat} {u v w : St} {f : Nat → Int64} (o : Ok x cc nL own d mc ms) {t : Int32 × (Nat → Int64)} (ht : f_L_leastSolution u v w f = some t) (hlk : Cond.methodLink own i yL_leastSolution ∈ Ug) (hd : 16 < d) (hr : (rest.map fun v => v.category).sum ≤ 8) (hk : k + 2 ≤ mc ∧ n + 12 ≤ ms) (dg : decode cc pc = .ok (.invokestatic i, 3)) (kk : G x nL (k + 2) (n + 12) (wLw a u b v c w e m oa t.2 (cxT x)) lv (pc + 3) (.int t.1 :: rest)) : G x nL k n (wLw a u b v c w e m oa f (cxT x)) lv pc (.ref oa :: .ref (a 0) :: rest) := gcI (wd2 := (wLw a u b v c w e m oa t.2 (cxT x))) o (c_L_leastSolution (cxl x) o.2.2.2.2.2.2.2.2.2.1 a b c oa u v w f t ht) (can_SX o hd (Nat.le_of_ble_eq_true rfl) m_714 m_53 m_713 hlk yk_L_leastSolution rfl hr hk dg) sp_WL (fun E h => by cases h) (fun r h => by cases h; exact kk)
theorem k_L_lowestKind_W {x : Cx} {cc : ByteArray} {nL : Nat} {own : String} {d mc ms k n : Nat} {lv : List (Nat × Value)} {pc i : Nat} {rest : List Value} {e : Nat → Nat} {m : St} {oa : Nat} {a b c : Nat → Nat} {u v w : St} {f : Nat → Int64} (o : Ok x cc nL own d mc ms) {t : Int32 × (Nat → Int64)} (ht : f_L_lowestKind u v w f = some t) (hlk : Cond.methodLink own i yL_lowestKind ∈ Ug) (hd : 6 < d) (hr : (rest.map fun v => v.category).sum ≤ 8) (hk : k + 1 ≤ mc ∧ n + 6 ≤ ms) (dg : decode cc pc = .ok (.invokestatic i, 3)) (kk : G x nL (k + 1) (n + 6) (wLw a u b v c w e m oa t.2 (cxT x)) lv (pc + 3) (.int t.1 :: rest)) : G x nL k n (wLw a u b v c w e m oa f (cxT x)) lv pc (.ref oa :: .ref (a 0) :: rest) := gcI (wd2 := (wLw a u b v c w e m oa t.2 (cxT x))) o (c_L_lowestKind (cxl x) o.2.2.2.2.2.2.2.2.2.1 a b c oa u v w f t ht) (can_SX o hd (Nat.le_of_ble_eq_true rfl) m_641 m_53 m_640 hlk yk_L_lowestKind rfl hr hk dg) sp_WL (fun E h => by cases h) (fun r h => by cases h; exact kk)
theorem k_L_outputAt_W {x : Cx} {cc : ByteArray} {nL : Nat} {own : String} {d mc ms k n : Nat} {lv : List (Nat × Value)} {pc i : Nat} {rest : List Value} {e : Nat → Nat} {m : St} {oa : Nat} {a b c : Nat → Nat} {u v w : St} {f : Nat → Int64} {p1 : Int32} (o : Ok x cc nL own d mc ms) {t : Int32 × (Nat → Int64)} (ht : f_L_outputAt u v w f p1 = some t) (hlk : Cond.methodLink own i yL_outputAt ∈ Ug) (hd : 1 < d) (hr : (rest.map fun v => v.category).sum ≤ 8) (hk : k + 1 ≤ mc ∧ n + 6 ≤ ms) (dg : decode cc pc = .ok (.invokestatic i, 3)) (kk : G x nL (k + 1) (n + 6) (wLw a u b v c w e m oa t.2 (cxT x)) lv (pc + 3) (.int t.1 :: rest)) : G x nL k n (wLw a u b v c w e m oa f (cxT x)) lv pc (.ref oa :: .int p1 :: .ref (a 0) :: rest) := gcI (wd2 := (wLw a u b v c w e m oa t.2 (cxT x))) o (c_L_outputAt (cxl x) o.2.2.2.2.2.2.2.2.2.1 a b c oa u v w f p1 t ht) (can_SX o hd (Nat.le_of_ble_eq_true rfl) m_867 m_53 m_866 hlk yk_L_outputAt rfl hr hk dg) sp_WL (fun E h => by cases h) (fun r h => by cases h; exact kk)
theorem k_L_parse_W {x : Cx} {cc : ByteArray} {nL : Nat} {own : String} {d mc ms k n : Nat} {lv : List (Nat × Value)} {pc i : Nat} {rest : List Value} {e : Nat → Nat} {m : St} {oa : Nat} {a b c : Nat → Nat} {u v w : St} {f : Nat → Int64} (o : Ok x cc nL own d mc ms) {t : Int32 × St × St × (Nat → Int64)} (ht : f_L_parse u v w f = some t) (hlk : Cond.methodLink own i yL_parse ∈ Ug) (hd : 3 < d) (hr : (rest.map fun v => v.category).sum ≤ 8) (hk : k + 2 ≤ mc ∧ n + 12 ≤ ms) (dg : decode cc pc = .ok (.invokestatic i, 3)) (kk : G x nL (k + 2) (n + 12) (wLw a t.2.1 b t.2.2.1 c w e m oa t.2.2.2 (cxT x)) lv (pc + 3) (.int t.1 :: rest)) : G x nL k n (wLw a u b v c w e m oa f (cxT x)) lv pc (.ref oa :: .ref (a 0) :: rest) := gcI (wd2 := (wLw a t.2.1 b t.2.2.1 c w e m oa t.2.2.2 (cxT x))) o (c_L_parse (cxl x) o.2.2.2.2.2.2.2.2.2.1 a b c oa u v w f t ht) (can_SX o hd (Nat.le_of_ble_eq_true rfl) m_818 m_53 m_817 hlk yk_L_parse rfl hr hk dg) sp_WL (fun E h => by cases h) (fun r h => by cases h; exact kk)
theorem k_L_polymorphism_W {x : Cx} {cc : ByteArray} {nL : Nat} {own : String} {d mc ms k n : Nat} {lv : List (Nat × Value)} {pc i : Nat} {rest : List Value} {e : Nat → Nat} {m : St} {oa : Nat} {a b c : Nat → Nat} {u v w : St} {f : Nat → Int64} {p1 : Int32} {p2 : Int32} (o : Ok x cc nL own d mc ms) {t : Int32 × (Nat → Int64)} (ht : f_L_polymorphism u v w f p1 p2 = some t) (hlk : Cond.methodLink own i yL_polymorphism ∈ Ug) (hd : 5 < d) (hr : (rest.map fun v => v.category).sum ≤ 8) (hk : k + 2 ≤ mc ∧ n + 12 ≤ ms) (dg : decode cc pc = .ok (.invokestatic i, 3)) (kk : G x nL (k + 2) (n + 12) (wLw a u b v c w e m oa t.2 (cxT x)) lv (pc + 3) (.int t.1 :: rest)) : G x nL k n (wLw a u b v c w e m oa f (cxT x)) lv pc (.ref oa :: .int p2 :: .int p1 :: .ref (a 0) :: rest) := gcI (wd2 := (wLw a u b v c w e m oa t.2 (cxT x))) o (c_L_polymorphism (cxl x) o.2.2.2.2.2.2.2.2.2.1 a b c oa u v w f p1 p2 t ht) (can_SX o hd (Nat.le_of_ble_eq_true rfl) m_528 m_53 m_527 hlk yk_L_polymorphism rfl hr hk dg) sp_WL (fun E h => by cases h) (fun r h => by cases h; exact kk)
theorem k_L_polymorphismCount_W {x : Cx} {cc : ByteArray} {nL : Nat} {own : String} {d mc ms k n : Nat} {lv : List (Nat × Value)} {pc i : Nat} {rest : List Value} {e : Nat → Nat} {m : St} {oa : Nat} {a b c : Nat → Nat} {u v w : St} {f : Nat → Int64} {p1 : Int32} (o : Ok x cc nL own d mc ms) {t : Int32 × (Nat → Int64)} (ht : f_L_polymorphismCount u v w f p1 = some t) (hlk : Cond.methodLink own i yL_polymorphismCount ∈ Ug) (hd : 5 < d) (hr : (rest.map fun v => v.category).sum ≤ 8) (hk : k + 1 ≤ mc ∧ n + 6 ≤ ms) (dg : decode cc pc = .ok (.invokestatic i, 3)) (kk : G x nL (k + 1) (n + 6) (wLw a u b v c w e m oa t.2 (cxT x)) lv (pc + 3) (.int t.1 :: rest)) : G x nL k n (wLw a u b v c w e m oa f (cxT x)) lv pc (.ref oa :: .int p1 :: .ref (a 0) :: rest) := gcI (wd2 := (wLw a u b v c w e m oa t.2 (cxT x))) o (c_L_polymorphismCount (cxl x) o.2.2.2.2.2.2.2.2.2.1 a b c oa u v w f p1 t ht) (can_SX o hd (Nat.le_of_ble_eq_true rfl) m_521 m_53 m_520 hlk yk_L_polymorphismCount rfl hr hk dg) sp_WL (fun E h => by cases h) (fun r h => by cases h; exact kk)
theorem k_L_preserves_W {x : Cx} {cc : ByteArray} {nL : Nat} {own : String} {d mc ms k n : Nat} {lv : List (Nat × Value)} {pc i : Nat} {rest : List Value} {e : Nat → Nat} {m : St} {oa : Nat} {a b c : Nat → Nat} {u v w : St} {f : Nat → Int64} {p1 : Int32} {p2 : Int32} {p3 : Int32} (o : Ok x cc nL own d mc ms) {t : Int32 × (Nat → Int64)} (ht : f_L_preserves u v w f p1 p2 p3 = some t) (hlk : Cond.methodLink own i yL_preserves ∈ Ug) (hd : 4 < d) (hr : (rest.map fun v => v.category).sum ≤ 8) (hk : k + 3 ≤ mc ∧ n + 18 ≤ ms) (dg : decode cc pc = .ok (.invokestatic i, 3)) (kk : G x nL (k + 3) (n + 18) (wLw a u b v c w e m oa t.2 (cxT x)) lv (pc + 3) (.int t.1 :: rest)) : G x nL k n (wLw a u b v c w e m oa f (cxT x)) lv pc (.ref oa :: .int p3 :: .int p2 :: .int p1 :: .ref (a 0) :: rest) := gcI (wd2 := (wLw a u b v c w e m oa t.2 (cxT x))) o (c_L_preserves (cxl x) o.2.2.2.2.2.2.2.2.2.1 a b c oa u v w f p1 p2 p3 t ht) (can_SX o hd (Nat.le_of_ble_eq_true rfl) m_490 m_53 m_489 hlk yk_L_preserves rfl hr hk dg) sp_WL (fun E h => by cases h) (fun r h => by cases h; exact kk)
theorem k_L_projectedArgument_W {x : Cx} {cc : ByteArray} {nL : Nat} {own : String} {d mc ms k n : Nat} {lv : List (Nat × Value)} {pc i : Nat} {rest : List Value} {e : Nat → Nat} {m : St} {oa : Nat} {a b c : Nat → Nat} {u v w : St} {f : Nat → Int64} {p1 : Int32} {p2 : Int32} (o : Ok x cc nL own d mc ms) {t : Int32 × (Nat → Int64)} (ht : f_L_projectedArgument u v w f p1 p2 = some t) (hlk : Cond.methodLink own i yL_projectedArgument ∈ Ug) (hd : 3 < d) (hr : (rest.map fun v => v.category).sum ≤ 8) (hk : k + 3 ≤ mc ∧ n + 18 ≤ ms) (dg : decode cc pc = .ok (.invokestatic i, 3)) (kk : G x nL (k + 3) (n + 18) (wLw a u b v c w e m oa t.2 (cxT x)) lv (pc + 3) (.int t.1 :: rest)) : G x nL k n (wLw a u b v c w e m oa f (cxT x)) lv pc (.ref oa :: .int p2 :: .int p1 :: .ref (a 0) :: rest) := gcI (wd2 := (wLw a u b v c w e m oa t.2 (cxT x))) o (c_L_projectedArgument (cxl x) o.2.2.2.2.2.2.2.2.2.1 a b c oa u v w f p1 p2 t ht) (can_SX o hd (Nat.le_of_ble_eq_true rfl) m_577 m_53 m_576 hlk yk_L_projectedArgument rfl hr hk dg) sp_WL (fun E h => by cases h) (fun r h => by cases h; exact kk)
theorem k_L_relationHasKind_W {x : Cx} {cc : ByteArray} {nL : Nat} {own : String} {d mc ms k n : Nat} {lv : List (Nat × Value)} {pc i : Nat} {rest : List Value} {e : Nat → Nat} {m : St} {oa : Nat} {a b c : Nat → Nat} {u v w : St} {f : Nat → Int64} {p1 : Int32} {p2 : Int32} (o : Ok x cc nL own d mc ms) {t : Int32 × (Nat → Int64)} (ht : f_L_relationHasKind u v w f p1 p2 = some t) (hlk : Cond.methodLink own i yL_relationHasKind ∈ Ug) (hd : 4 < d) (hr : (rest.map fun v => v.category).sum ≤ 8) (hk : k + 2 ≤ mc ∧ n + 12 ≤ ms) (dg : decode cc pc = .ok (.invokestatic i, 3)) (kk : G x nL (k + 2) (n + 12) (wLw a u b v c w e m oa t.2 (cxT x)) lv (pc + 3) (.int t.1 :: rest)) : G x nL k n (wLw a u b v c w e m oa f (cxT x)) lv pc (.ref oa :: .int p2 :: .int p1 :: .ref (a 0) :: rest) := gcI (wd2 := (wLw a u b v c w e m oa t.2 (cxT x))) o (c_L_relationHasKind (cxl x) o.2.2.2.2.2.2.2.2.2.1 a b c oa u v w f p1 p2 t ht) (can_SX o hd (Nat.le_of_ble_eq_true rfl) m_615 m_53 m_614 hlk yk_L_relationHasKind rfl hr hk dg) sp_WL (fun E h => by cases h) (fun r h => by cases h; exact kk)
theorem k_L_removeLastConstraint_W {x : Cx} {cc : ByteArray} {nL : Nat} {own : String} {d mc ms k n : Nat} {lv : List (Nat × Value)} {pc i : Nat} {rest : List Value} {e : Nat → Nat} {m : St} {oa : Nat} {a b c : Nat → Nat} {u v w : St} {f : Nat → Int64} (o : Ok x cc nL own d mc ms) {t : Int32 × St × (Nat → Int64)} (ht : f_L_removeLastConstraint u v w f = some t) (hlk : Cond.methodLink own i yL_removeLastConstraint ∈ Ug) (hd : 1 < d) (hr : (rest.map fun v => v.category).sum ≤ 8) (hk : k + 1 ≤ mc ∧ n + 6 ≤ ms) (dg : decode cc pc = .ok (.invokestatic i, 3)) (kk : G x nL (k + 1) (n + 6) (wLw a u b t.2.1 c w e m oa t.2.2 (cxT x)) lv (pc + 3) (.int t.1 :: rest)) : G x nL k n (wLw a u b v c w e m oa f (cxT x)) lv pc (.ref oa :: .ref (a 0) :: rest) := gcI (wd2 := (wLw a u b t.2.1 c w e m oa t.2.2 (cxT x))) o (c_L_removeLastConstraint (cxl x) o.2.2.2.2.2.2.2.2.2.1 a b c oa u v w f t ht) (can_SX o hd (Nat.le_of_ble_eq_true rfl) m_677 m_53 m_676 hlk yk_L_removeLastConstraint rfl hr hk dg) sp_WL (fun E h => by cases h) (fun r h => by cases h; exact kk)
theorem k_L_removeTuple_W {x : Cx} {cc : ByteArray} {nL : Nat} {own : String} {d mc ms k n : Nat} {lv : List (Nat × Value)} {pc i : Nat} {rest : List Value} {e : Nat → Nat} {m : St} {oa : Nat} {a b c : Nat → Nat} {u v w : St} {f : Nat → Int64} {p1 : Int32} {p2 : Int32} (o : Ok x cc nL own d mc ms) {t : Int32 × St × (Nat → Int64)} (ht : f_L_removeTuple u v w f p1 p2 = some t) (hlk : Cond.methodLink own i yL_removeTuple ∈ Ug) (hd : 3 < d) (hr : (rest.map fun v => v.category).sum ≤ 8) (hk : k + 2 ≤ mc ∧ n + 12 ≤ ms) (dg : decode cc pc = .ok (.invokestatic i, 3)) (kk : G x nL (k + 2) (n + 12) (wLw a u b t.2.1 c w e m oa t.2.2 (cxT x)) lv (pc + 3) (.int t.1 :: rest)) : G x nL k n (wLw a u b v c w e m oa f (cxT x)) lv pc (.ref oa :: .int p2 :: .int p1 :: .ref (a 0) :: rest) := gcI (wd2 := (wLw a u b t.2.1 c w e m oa t.2.2 (cxT x))) o (c_L_removeTuple (cxl x) o.2.2.2.2.2.2.2.2.2.1 a b c oa u v w f p1 p2 t ht) (can_SX o hd (Nat.le_of_ble_eq_true rfl) m_397 m_53 m_396 hlk yk_L_removeTuple rfl hr hk dg) sp_WL (fun E h => by cases h) (fun r h => by cases h; exact kk)
theorem k_L_restoreSnapshot_W {x : Cx} {cc : ByteArray} {nL : Nat} {own : String} {d mc ms k n : Nat} {lv : List (Nat × Value)} {pc i : Nat} {rest : List Value} {e : Nat → Nat} {m : St} {oa : Nat} {a b c : Nat → Nat} {u v w : St} {f : Nat → Int64} (o : Ok x cc nL own d mc ms) {t : Int32 × St × (Nat → Int64)} (ht : f_L_restoreSnapshot u v w f = some t) (hlk : Cond.methodLink own i yL_restoreSnapshot ∈ Ug) (hd : 3 < d) (hr : (rest.map fun v => v.category).sum ≤ 8) (hk : k + 1 ≤ mc ∧ n + 6 ≤ ms) (dg : decode cc pc = .ok (.invokestatic i, 3)) (kk : G x nL (k + 1) (n + 6) (wLw a u b t.2.1 c w e m oa t.2.2 (cxT x)) lv (pc + 3) (.int t.1 :: rest)) : G x nL k n (wLw a u b v c w e m oa f (cxT x)) lv pc (.ref oa :: .ref (a 0) :: rest) := gcI (wd2 := (wLw a u b t.2.1 c w e m oa t.2.2 (cxT x))) o (c_L_restoreSnapshot (cxl x) o.2.2.2.2.2.2.2.2.2.1 a b c oa u v w f t ht) (can_SX o hd (Nat.le_of_ble_eq_true rfl) m_907 m_53 m_906 hlk yk_L_restoreSnapshot rfl hr hk dg) sp_WL (fun E h => by cases h) (fun r h => by cases h; exact kk)
theorem k_L_setFlag_W {x : Cx} {cc : ByteArray} {nL : Nat} {own : String} {d mc ms k n : Nat} {lv : List (Nat × Value)} {pc i : Nat} {rest : List Value} {e : Nat → Nat} {m : St} {oa : Nat} {a b c : Nat → Nat} {u v w : St} {f : Nat → Int64} {p1 : Int32} {p2 : Int32} {p3 : Int32} (o : Ok x cc nL own d mc ms) {t : Int32 × St × (Nat → Int64)} (ht : f_L_setFlag u v w f p1 p2 p3 = some t) (hlk : Cond.methodLink own i yL_setFlag ∈ Ug) (hd : 2 < d) (hr : (rest.map fun v => v.category).sum ≤ 8) (hk : k + 3 ≤ mc ∧ n + 18 ≤ ms) (dg : decode cc pc = .ok (.invokestatic i, 3)) (kk : G x nL (k + 3) (n + 18) (wLw a t.2.1 b v c w e m oa t.2.2 (cxT x)) lv (pc + 3) (.int t.1 :: rest)) : G x nL k n (wLw a u b v c w e m oa f (cxT x)) lv pc (.ref oa :: .int p3 :: .int p2 :: .int p1 :: .ref (a 0) :: rest) := gcI (wd2 := (wLw a t.2.1 b v c w e m oa t.2.2 (cxT x))) o (c_L_setFlag (cxl x) o.2.2.2.2.2.2.2.2.2.1 a b c oa u v w f p1 p2 p3 t ht) (can_SX o hd (Nat.le_of_ble_eq_true rfl) m_887 m_53 m_886 hlk yk_L_setFlag rfl hr hk dg) sp_WL (fun E h => by cases h) (fun r h => by cases h; exact kk)
theorem k_L_setVariables_W {x : Cx} {cc : ByteArray} {nL : Nat} {own : String} {d mc ms k n : Nat} {lv : List (Nat × Value)} {pc i : Nat} {rest : List Value} {e : Nat → Nat} {m : St} {oa : Nat} {a b c : Nat → Nat} {u v w : St} {f : Nat → Int64} {p1 : Int32} (o : Ok x cc nL own d mc ms) {t : Int32 × St × (Nat → Int64)} (ht : f_L_setVariables u v w f p1 = some t) (hlk : Cond.methodLink own i yL_setVariables ∈ Ug) (hd : 1 < d) (hr : (rest.map fun v => v.category).sum ≤ 8) (hk : k + 1 ≤ mc ∧ n + 6 ≤ ms) (dg : decode cc pc = .ok (.invokestatic i, 3)) (kk : G x nL (k + 1) (n + 6) (wLw a u b t.2.1 c w e m oa t.2.2 (cxT x)) lv (pc + 3) (.int t.1 :: rest)) : G x nL k n (wLw a u b v c w e m oa f (cxT x)) lv pc (.ref oa :: .int p1 :: .ref (a 0) :: rest) := gcI (wd2 := (wLw a u b t.2.1 c w e m oa t.2.2 (cxT x))) o (c_L_setVariables (cxl x) o.2.2.2.2.2.2.2.2.2.1 a b c oa u v w f p1 t ht) (can_SX o hd (Nat.le_of_ble_eq_true rfl) m_649 m_53 m_648 hlk yk_L_setVariables rfl hr hk dg) sp_WL (fun E h => by cases h) (fun r h => by cases h; exact kk)
theorem k_L_solution_W {x : Cx} {cc : ByteArray} {nL : Nat} {own : String} {d mc ms k n : Nat} {lv : List (Nat × Value)} {pc i : Nat} {rest : List Value} {e : Nat → Nat} {m : St} {oa : Nat} {a b c : Nat → Nat} {u v w : St} {f : Nat → Int64} {p1 : Int32} (o : Ok x cc nL own d mc ms) {t : Int32 × (Nat → Int64)} (ht : f_L_solution u v w f p1 = some t) (hlk : Cond.methodLink own i yL_solution ∈ Ug) (hd : 15 < d) (hr : (rest.map fun v => v.category).sum ≤ 8) (hk : k + 1 ≤ mc ∧ n + 6 ≤ ms) (dg : decode cc pc = .ok (.invokestatic i, 3)) (kk : G x nL (k + 1) (n + 6) (wLw a u b v c w e m oa t.2 (cxT x)) lv (pc + 3) (.int t.1 :: rest)) : G x nL k n (wLw a u b v c w e m oa f (cxT x)) lv pc (.ref oa :: .int p1 :: .ref (a 0) :: rest) := gcI (wd2 := (wLw a u b v c w e m oa t.2 (cxT x))) o (c_L_solution (cxl x) o.2.2.2.2.2.2.2.2.2.1 a b c oa u v w f p1 t ht) (can_SX o hd (Nat.le_of_ble_eq_true rfl) m_685 m_53 m_684 hlk yk_L_solution rfl hr hk dg) sp_WL (fun E h => by cases h) (fun r h => by cases h; exact kk)
theorem k_L_storeFlags_W {x : Cx} {cc : ByteArray} {nL : Nat} {own : String} {d mc ms k n : Nat} {lv : List (Nat × Value)} {pc i : Nat} {rest : List Value} {e : Nat → Nat} {m : St} {oa : Nat} {a b c : Nat → Nat} {u v w : St} {f : Nat → Int64} {p1 : Int32} {p2 : Int32} {p3 : Int32} (o : Ok x cc nL own d mc ms) {t : Int32 × St × (Nat → Int64)} (ht : f_L_storeFlags u v w f p1 p2 p3 = some t) (hlk : Cond.methodLink own i yL_storeFlags ∈ Ug) (hd : 2 < d) (hr : (rest.map fun v => v.category).sum ≤ 8) (hk : k + 3 ≤ mc ∧ n + 18 ≤ ms) (dg : decode cc pc = .ok (.invokestatic i, 3)) (kk : G x nL (k + 3) (n + 18) (wLw a t.2.1 b v c w e m oa t.2.2 (cxT x)) lv (pc + 3) (.int t.1 :: rest)) : G x nL k n (wLw a u b v c w e m oa f (cxT x)) lv pc (.ref oa :: .int p3 :: .int p2 :: .int p1 :: .ref (a 0) :: rest) := gcI (wd2 := (wLw a t.2.1 b v c w e m oa t.2.2 (cxT x))) o (c_L_storeFlags (cxl x) o.2.2.2.2.2.2.2.2.2.1 a b c oa u v w f p1 p2 p3 t ht) (can_SX o hd (Nat.le_of_ble_eq_true rfl) m_875 m_53 m_874 hlk yk_L_storeFlags rfl hr hk dg) sp_WL (fun E h => by cases h) (fun r h => by cases h; exact kk)
theorem k_L_takeFlags_W {x : Cx} {cc : ByteArray} {nL : Nat} {own : String} {d mc ms k n : Nat} {lv : List (Nat × Value)} {pc i : Nat} {rest : List Value} {e : Nat → Nat} {m : St} {oa : Nat} {a b c : Nat → Nat} {u v w : St} {f : Nat → Int64} {p1 : Int32} {p2 : Int32} (o : Ok x cc nL own d mc ms) {t : Int32 × St × (Nat → Int64)} (ht : f_L_takeFlags u v w f p1 p2 = some t) (hlk : Cond.methodLink own i yL_takeFlags ∈ Ug) (hd : 2 < d) (hr : (rest.map fun v => v.category).sum ≤ 8) (hk : k + 3 ≤ mc ∧ n + 18 ≤ ms) (dg : decode cc pc = .ok (.invokestatic i, 3)) (kk : G x nL (k + 3) (n + 18) (wLw a u b t.2.1 c w e m oa t.2.2 (cxT x)) lv (pc + 3) (.int t.1 :: rest)) : G x nL k n (wLw a u b v c w e m oa f (cxT x)) lv pc (.ref oa :: .int p2 :: .int p1 :: .ref (a 0) :: rest) := gcI (wd2 := (wLw a u b t.2.1 c w e m oa t.2.2 (cxT x))) o (c_L_takeFlags (cxl x) o.2.2.2.2.2.2.2.2.2.1 a b c oa u v w f p1 p2 t ht) (can_SX o hd (Nat.le_of_ble_eq_true rfl) m_900 m_53 m_899 hlk yk_L_takeFlags rfl hr hk dg) sp_WL (fun E h => by cases h) (fun r h => by cases h; exact kk)
theorem k_L_tupleCount_W {x : Cx} {cc : ByteArray} {nL : Nat} {own : String} {d mc ms k n : Nat} {lv : List (Nat × Value)} {pc i : Nat} {rest : List Value} {e : Nat → Nat} {m : St} {oa : Nat} {a b c : Nat → Nat} {u v w : St} {f : Nat → Int64} {p1 : Int32} (o : Ok x cc nL own d mc ms) {t : Int32 × (Nat → Int64)} (ht : f_L_tupleCount u v w f p1 = some t) (hlk : Cond.methodLink own i yL_tupleCount ∈ Ug) (hd : 2 < d) (hr : (rest.map fun v => v.category).sum ≤ 8) (hk : k + 1 ≤ mc ∧ n + 6 ≤ ms) (dg : decode cc pc = .ok (.invokestatic i, 3)) (kk : G x nL (k + 1) (n + 6) (wLw a u b v c w e m oa t.2 (cxT x)) lv (pc + 3) (.int t.1 :: rest)) : G x nL k n (wLw a u b v c w e m oa f (cxT x)) lv pc (.ref oa :: .int p1 :: .ref (a 0) :: rest) := gcI (wd2 := (wLw a u b v c w e m oa t.2 (cxT x))) o (c_L_tupleCount (cxl x) o.2.2.2.2.2.2.2.2.2.1 a b c oa u v w f p1 t ht) (can_SX o hd (Nat.le_of_ble_eq_true rfl) m_411 m_53 m_410 hlk yk_L_tupleCount rfl hr hk dg) sp_WL (fun E h => by cases h) (fun r h => by cases h; exact kk)
theorem k_L_write_W {x : Cx} {cc : ByteArray} {nL : Nat} {own : String} {d mc ms k n : Nat} {lv : List (Nat × Value)} {pc i : Nat} {rest : List Value} {e : Nat → Nat} {m : St} {oa : Nat} {a b c : Nat → Nat} {u v w : St} {f : Nat → Int64} {p1 : Int32} (o : Ok x cc nL own d mc ms) {t : Int32 × St × (Nat → Int64)} (ht : f_L_write u v w f p1 = some t) (hlk : Cond.methodLink own i yL_write ∈ Ug) (hd : 3 < d) (hr : (rest.map fun v => v.category).sum ≤ 8) (hk : k + 1 ≤ mc ∧ n + 6 ≤ ms) (dg : decode cc pc = .ok (.invokestatic i, 3)) (kk : G x nL (k + 1) (n + 6) (wLw a t.2.1 b v c w e m oa t.2.2 (cxT x)) lv (pc + 3) (.int t.1 :: rest)) : G x nL k n (wLw a u b v c w e m oa f (cxT x)) lv pc (.ref oa :: .int p1 :: .ref (a 0) :: rest) := gcI (wd2 := (wLw a t.2.1 b v c w e m oa t.2.2 (cxT x))) o (c_L_write (cxl x) o.2.2.2.2.2.2.2.2.2.1 a b c oa u v w f p1 t ht) (can_SX o hd (Nat.le_of_ble_eq_true rfl) m_852 m_53 m_851 hlk yk_L_write rfl hr hk dg) sp_WL (fun E h => by cases h) (fun r h => by cases h; exact kk)
theorem k_X1_clear_W {x : Cx} {cc : ByteArray} {nL : Nat} {own : String} {d mc ms k n : Nat} {lv : List (Nat × Value)} {pc i : Nat} {rest : List Value} {e : Nat → Nat} {m : St} {oa : Nat} {f : Nat → Int64} {a b c : Nat → Nat} {u v w : St} (o : Ok x cc nL own d mc ms) {t : Int32 × St} (ht : f_X1_clear u v w = some t) (hlk : Cond.methodLink own i yX1_clear ∈ Ug) (hd : 0 < d) (hr : (rest.map fun v => v.category).sum ≤ 8) (hk : k + 0 ≤ mc ∧ n + 0 ≤ ms) (dg : decode cc pc = .ok (.invokevirtual i, 3)) (kk : G x nL (k + 0) (n + 0) (wLw a u b t.2 c w e m oa f (cxT x)) lv (pc + 3) (.int t.1 :: rest)) : G x nL k n (wLw a u b v c w e m oa f (cxT x)) lv pc (.ref (a 0) :: rest) := gcI (wd2 := (wLw a u b t.2 c w e m oa f (cxT x))) o (c_X1_clear (cxl x) o.2.2.2.2.2.2.2.2.2.1 a b c u v w t ht) (can_V (q0 := 0) o rfl rfl hd (Nat.le_of_ble_eq_true rfl) m_151 m_54 m_149 m_150 hlk yk_X1_clear rfl hr hk dg) sp_WX (fun E h => by cases h) (fun r h => by cases h; exact kk)
theorem k_X1_relationCount_W {x : Cx} {cc : ByteArray} {nL : Nat} {own : String} {d mc ms k n : Nat} {lv : List (Nat × Value)} {pc i : Nat} {rest : List Value} {e : Nat → Nat} {m : St} {oa : Nat} {f : Nat → Int64} {a b c : Nat → Nat} {u v w : St} (o : Ok x cc nL own d mc ms) {t : Int32} (ht : f_X1_relationCount u v w = some t) (hlk : Cond.methodLink own i yX1_relationCount ∈ Ug) (hd : 0 < d) (hr : (rest.map fun v => v.category).sum ≤ 8) (hk : k + 0 ≤ mc ∧ n + 0 ≤ ms) (dg : decode cc pc = .ok (.invokevirtual i, 3)) (kk : G x nL (k + 0) (n + 0) (wLw a u b v c w e m oa f (cxT x)) lv (pc + 3) (.int t :: rest)) : G x nL k n (wLw a u b v c w e m oa f (cxT x)) lv pc (.ref (a 0) :: rest) := gcI (wd2 := (wLw a u b v c w e m oa f (cxT x))) o (c_X1_relationCount (cxl x) o.2.2.2.2.2.2.2.2.2.1 a b c u v w t ht) (can_V (q0 := 0) o rfl rfl hd (Nat.le_of_ble_eq_true rfl) m_147 m_54 m_145 m_146 hlk yk_X1_relationCount rfl hr hk dg) sp_WX (fun E h => by cases h) (fun r h => by cases h; exact kk)
theorem k_X1_removeRedundant_W {x : Cx} {cc : ByteArray} {nL : Nat} {own : String} {d mc ms k n : Nat} {lv : List (Nat × Value)} {pc i : Nat} {rest : List Value} {e : Nat → Nat} {m : St} {oa : Nat} {f : Nat → Int64} {a b c : Nat → Nat} {u v w : St} (o : Ok x cc nL own d mc ms) {t : Int32 × St} (ht : f_X1_removeRedundant u v w = some t) (hlk : Cond.methodLink own i yX1_removeRedundant ∈ Ug) (hd : 14 < d) (hr : (rest.map fun v => v.category).sum ≤ 8) (hk : k + 0 ≤ mc ∧ n + 0 ≤ ms) (dg : decode cc pc = .ok (.invokevirtual i, 3)) (kk : G x nL (k + 0) (n + 0) (wLw a u b t.2 c w e m oa f (cxT x)) lv (pc + 3) (.int t.1 :: rest)) : G x nL k n (wLw a u b v c w e m oa f (cxT x)) lv pc (.ref (a 0) :: rest) := gcI (wd2 := (wLw a u b t.2 c w e m oa f (cxT x))) o (c_X1_removeRedundant (cxl x) o.2.2.2.2.2.2.2.2.2.1 a b c u v w t ht) (can_V (q0 := 0) o rfl rfl hd (Nat.le_of_ble_eq_true rfl) m_203 m_54 m_201 m_202 hlk yk_X1_removeRedundant rfl hr hk dg) sp_WX (fun E h => by cases h) (fun r h => by cases h; exact kk)
theorem k_X1_saveSnapshot_W {x : Cx} {cc : ByteArray} {nL : Nat} {own : String} {d mc ms k n : Nat} {lv : List (Nat × Value)} {pc i : Nat} {rest : List Value} {e : Nat → Nat} {m : St} {oa : Nat} {f : Nat → Int64} {a b c : Nat → Nat} {u v w : St} (o : Ok x cc nL own d mc ms) {t : Int32 × St × St} (ht : f_X1_saveSnapshot u v w = some t) (hlk : Cond.methodLink own i yX1_saveSnapshot ∈ Ug) (hd : 2 < d) (hr : (rest.map fun v => v.category).sum ≤ 8) (hk : k + 0 ≤ mc ∧ n + 0 ≤ ms) (dg : decode cc pc = .ok (.invokevirtual i, 3)) (kk : G x nL (k + 0) (n + 0) (wLw a t.2.1 b v c t.2.2 e m oa f (cxT x)) lv (pc + 3) (.int t.1 :: rest)) : G x nL k n (wLw a u b v c w e m oa f (cxT x)) lv pc (.ref (a 0) :: rest) := gcI (wd2 := (wLw a t.2.1 b v c t.2.2 e m oa f (cxT x))) o (c_X1_saveSnapshot (cxl x) o.2.2.2.2.2.2.2.2.2.1 a b c u v w t ht) (can_V (q0 := 0) o rfl rfl hd (Nat.le_of_ble_eq_true rfl) m_221 m_54 m_219 m_220 hlk yk_X1_saveSnapshot rfl hr hk dg) sp_WX (fun E h => by cases h) (fun r h => by cases h; exact kk)
theorem k_X1_solutionCount_W {x : Cx} {cc : ByteArray} {nL : Nat} {own : String} {d mc ms k n : Nat} {lv : List (Nat × Value)} {pc i : Nat} {rest : List Value} {e : Nat → Nat} {m : St} {oa : Nat} {f : Nat → Int64} {a b c : Nat → Nat} {u v w : St} (o : Ok x cc nL own d mc ms) {t : Int32} (ht : f_X1_solutionCount u v w = some t) (hlk : Cond.methodLink own i yX1_solutionCount ∈ Ug) (hd : 14 < d) (hr : (rest.map fun v => v.category).sum ≤ 8) (hk : k + 0 ≤ mc ∧ n + 0 ≤ ms) (dg : decode cc pc = .ok (.invokevirtual i, 3)) (kk : G x nL (k + 0) (n + 0) (wLw a u b v c w e m oa f (cxT x)) lv (pc + 3) (.int t :: rest)) : G x nL k n (wLw a u b v c w e m oa f (cxT x)) lv pc (.ref (a 0) :: rest) := gcI (wd2 := (wLw a u b v c w e m oa f (cxT x))) o (c_X1_solutionCount (cxl x) o.2.2.2.2.2.2.2.2.2.1 a b c u v w t ht) (can_V (q0 := 0) o rfl rfl hd (Nat.le_of_ble_eq_true rfl) m_155 m_54 m_153 m_154 hlk yk_X1_solutionCount rfl hr hk dg) sp_WX (fun E h => by cases h) (fun r h => by cases h; exact kk)
theorem k_X2_addClause_W {x : Cx} {cc : ByteArray} {nL : Nat} {own : String} {d mc ms k n : Nat} {lv : List (Nat × Value)} {pc i : Nat} {rest : List Value} {xa b c : Nat → Nat} {xu v w : St} {oa : Nat} {f : Nat → Int64} {a : Nat → Nat} {u : St} {p0 : Int32} {p1 : Int32} (o : Ok x cc nL own d mc ms) {t : Int32 × St} (ht : f_X2_addClause u p0 p1 = some t) (hlk : Cond.methodLink own i yX2_addClause ∈ Ug) (hd : 1 < d) (hr : (rest.map fun v => v.category).sum ≤ 8) (hk : k + 0 ≤ mc ∧ n + 0 ≤ ms) (dg : decode cc pc = .ok (.invokevirtual i, 3)) (kk : G x nL (k + 0) (n + 0) (wLw xa xu b v c w a t.2 oa f (cxT x)) lv (pc + 3) (.int t.1 :: rest)) : G x nL k n (wLw xa xu b v c w a u oa f (cxT x)) lv pc (.int p1 :: .int p0 :: .ref (a 0) :: rest) := gcI (wd2 := (wLw xa xu b v c w a t.2 oa f (cxT x))) o (c_X2_addClause (cxl x) o.2.2.2.2.2.2.2.2.2.1 a u p0 p1 t ht) (can_V (q0 := 15) o rfl rfl hd (Nat.le_of_ble_eq_true rfl) m_1006 m_56 m_1004 m_1005 hlk yk_X2_addClause rfl hr hk dg) sp_WM (fun E h => by cases h) (fun r h => by cases h; exact kk)
theorem k_X2_addComplement_W {x : Cx} {cc : ByteArray} {nL : Nat} {own : String} {d mc ms k n : Nat} {lv : List (Nat × Value)} {pc i : Nat} {rest : List Value} {xa b c : Nat → Nat} {xu v w : St} {oa : Nat} {f : Nat → Int64} {a : Nat → Nat} {u : St} {p0 : Int32} (o : Ok x cc nL own d mc ms) {t : Int32 × St} (ht : f_X2_addComplement u p0 = some t) (hlk : Cond.methodLink own i yX2_addComplement ∈ Ug) (hd : 1 < d) (hr : (rest.map fun v => v.category).sum ≤ 8) (hk : k + 0 ≤ mc ∧ n + 0 ≤ ms) (dg : decode cc pc = .ok (.invokevirtual i, 3)) (kk : G x nL (k + 0) (n + 0) (wLw xa xu b v c w a t.2 oa f (cxT x)) lv (pc + 3) (.int t.1 :: rest)) : G x nL k n (wLw xa xu b v c w a u oa f (cxT x)) lv pc (.int p0 :: .ref (a 0) :: rest) := gcI (wd2 := (wLw xa xu b v c w a t.2 oa f (cxT x))) o (c_X2_addComplement (cxl x) o.2.2.2.2.2.2.2.2.2.1 a u p0 t ht) (can_V (q0 := 15) o rfl rfl hd (Nat.le_of_ble_eq_true rfl) m_1066 m_56 m_1064 m_1065 hlk yk_X2_addComplement rfl hr hk dg) sp_WM (fun E h => by cases h) (fun r h => by cases h; exact kk)
theorem k_X2_addConstraint_W {x : Cx} {cc : ByteArray} {nL : Nat} {own : String} {d mc ms k n : Nat} {lv : List (Nat × Value)} {pc i : Nat} {rest : List Value} {xa b c : Nat → Nat} {xu v w : St} {oa : Nat} {f : Nat → Int64} {a : Nat → Nat} {u : St} {p0 : Int32} {p1 : Int32} {p2 : Int32} {p3 : Int32} {p4 : Int32} (o : Ok x cc nL own d mc ms) {t : Int32 × St} (ht : f_X2_addConstraint u p0 p1 p2 p3 p4 = some t) (hlk : Cond.methodLink own i yX2_addConstraint ∈ Ug) (hd : 2 < d) (hr : (rest.map fun v => v.category).sum ≤ 8) (hk : k + 0 ≤ mc ∧ n + 0 ≤ ms) (dg : decode cc pc = .ok (.invokevirtual i, 3)) (kk : G x nL (k + 0) (n + 0) (wLw xa xu b v c w a t.2 oa f (cxT x)) lv (pc + 3) (.int t.1 :: rest)) : G x nL k n (wLw xa xu b v c w a u oa f (cxT x)) lv pc (.int p4 :: .int p3 :: .int p2 :: .int p1 :: .int p0 :: .ref (a 0) :: rest) := gcI (wd2 := (wLw xa xu b v c w a t.2 oa f (cxT x))) o (c_X2_addConstraint (cxl x) o.2.2.2.2.2.2.2.2.2.1 a u p0 p1 p2 p3 p4 t ht) (can_V (q0 := 15) o rfl rfl hd (Nat.le_of_ble_eq_true rfl) m_1178 m_56 m_1176 m_1177 hlk yk_X2_addConstraint rfl hr hk dg) sp_WM (fun E h => by cases h) (fun r h => by cases h; exact kk)
theorem k_X2_addExchanged_W {x : Cx} {cc : ByteArray} {nL : Nat} {own : String} {d mc ms k n : Nat} {lv : List (Nat × Value)} {pc i : Nat} {rest : List Value} {xa b c : Nat → Nat} {xu v w : St} {oa : Nat} {f : Nat → Int64} {a : Nat → Nat} {u : St} {p0 : Int32} {p1 : Int32} {p2 : Int32} (o : Ok x cc nL own d mc ms) {t : Int32 × St} (ht : f_X2_addExchanged u p0 p1 p2 = some t) (hlk : Cond.methodLink own i yX2_addExchanged ∈ Ug) (hd : 1 < d) (hr : (rest.map fun v => v.category).sum ≤ 8) (hk : k + 0 ≤ mc ∧ n + 0 ≤ ms) (dg : decode cc pc = .ok (.invokevirtual i, 3)) (kk : G x nL (k + 0) (n + 0) (wLw xa xu b v c w a t.2 oa f (cxT x)) lv (pc + 3) (.int t.1 :: rest)) : G x nL k n (wLw xa xu b v c w a u oa f (cxT x)) lv pc (.int p2 :: .int p1 :: .int p0 :: .ref (a 0) :: rest) := gcI (wd2 := (wLw xa xu b v c w a t.2 oa f (cxT x))) o (c_X2_addExchanged (cxl x) o.2.2.2.2.2.2.2.2.2.1 a u p0 p1 p2 t ht) (can_V (q0 := 15) o rfl rfl hd (Nat.le_of_ble_eq_true rfl) m_1078 m_56 m_1076 m_1077 hlk yk_X2_addExchanged rfl hr hk dg) sp_WM (fun E h => by cases h) (fun r h => by cases h; exact kk)
theorem k_X2_addIntersection_W {x : Cx} {cc : ByteArray} {nL : Nat} {own : String} {d mc ms k n : Nat} {lv : List (Nat × Value)} {pc i : Nat} {rest : List Value} {xa b c : Nat → Nat} {xu v w : St} {oa : Nat} {f : Nat → Int64} {a : Nat → Nat} {u : St} {p0 : Int32} {p1 : Int32} (o : Ok x cc nL own d mc ms) {t : Int32 × St} (ht : f_X2_addIntersection u p0 p1 = some t) (hlk : Cond.methodLink own i yX2_addIntersection ∈ Ug) (hd : 1 < d) (hr : (rest.map fun v => v.category).sum ≤ 8) (hk : k + 0 ≤ mc ∧ n + 0 ≤ ms) (dg : decode cc pc = .ok (.invokevirtual i, 3)) (kk : G x nL (k + 0) (n + 0) (wLw xa xu b v c w a t.2 oa f (cxT x)) lv (pc + 3) (.int t.1 :: rest)) : G x nL k n (wLw xa xu b v c w a u oa f (cxT x)) lv pc (.int p1 :: .int p0 :: .ref (a 0) :: rest) := gcI (wd2 := (wLw xa xu b v c w a t.2 oa f (cxT x))) o (c_X2_addIntersection (cxl x) o.2.2.2.2.2.2.2.2.2.1 a u p0 p1 t ht) (can_V (q0 := 15) o rfl rfl hd (Nat.le_of_ble_eq_true rfl) m_1070 m_56 m_1068 m_1069 hlk yk_X2_addIntersection rfl hr hk dg) sp_WM (fun E h => by cases h) (fun r h => by cases h; exact kk)
theorem k_X2_addParity_W {x : Cx} {cc : ByteArray} {nL : Nat} {own : String} {d mc ms k n : Nat} {lv : List (Nat × Value)} {pc i : Nat} {rest : List Value} {xa b c : Nat → Nat} {xu v w : St} {oa : Nat} {f : Nat → Int64} {a : Nat → Nat} {u : St} {p0 : Int32} {p1 : Int32} (o : Ok x cc nL own d mc ms) {t : Int32 × St} (ht : f_X2_addParity u p0 p1 = some t) (hlk : Cond.methodLink own i yX2_addParity ∈ Ug) (hd : 1 < d) (hr : (rest.map fun v => v.category).sum ≤ 8) (hk : k + 0 ≤ mc ∧ n + 0 ≤ ms) (dg : decode cc pc = .ok (.invokevirtual i, 3)) (kk : G x nL (k + 0) (n + 0) (wLw xa xu b v c w a t.2 oa f (cxT x)) lv (pc + 3) (.int t.1 :: rest)) : G x nL k n (wLw xa xu b v c w a u oa f (cxT x)) lv pc (.int p1 :: .int p0 :: .ref (a 0) :: rest) := gcI (wd2 := (wLw xa xu b v c w a t.2 oa f (cxT x))) o (c_X2_addParity (cxl x) o.2.2.2.2.2.2.2.2.2.1 a u p0 p1 t ht) (can_V (q0 := 15) o rfl rfl hd (Nat.le_of_ble_eq_true rfl) m_1016 m_56 m_1014 m_1015 hlk yk_X2_addParity rfl hr hk dg) sp_WM (fun E h => by cases h) (fun r h => by cases h; exact kk)
theorem k_X2_addProjection_W {x : Cx} {cc : ByteArray} {nL : Nat} {own : String} {d mc ms k n : Nat} {lv : List (Nat × Value)} {pc i : Nat} {rest : List Value} {xa b c : Nat → Nat} {xu v w : St} {oa : Nat} {f : Nat → Int64} {a : Nat → Nat} {u : St} {p0 : Int32} {p1 : Int32} (o : Ok x cc nL own d mc ms) {t : Int32 × St} (ht : f_X2_addProjection u p0 p1 = some t) (hlk : Cond.methodLink own i yX2_addProjection ∈ Ug) (hd : 1 < d) (hr : (rest.map fun v => v.category).sum ≤ 8) (hk : k + 0 ≤ mc ∧ n + 0 ≤ ms) (dg : decode cc pc = .ok (.invokevirtual i, 3)) (kk : G x nL (k + 0) (n + 0) (wLw xa xu b v c w a t.2 oa f (cxT x)) lv (pc + 3) (.int t.1 :: rest)) : G x nL k n (wLw xa xu b v c w a u oa f (cxT x)) lv pc (.int p1 :: .int p0 :: .ref (a 0) :: rest) := gcI (wd2 := (wLw xa xu b v c w a t.2 oa f (cxT x))) o (c_X2_addProjection (cxl x) o.2.2.2.2.2.2.2.2.2.1 a u p0 p1 t ht) (can_V (q0 := 15) o rfl rfl hd (Nat.le_of_ble_eq_true rfl) m_1074 m_56 m_1072 m_1073 hlk yk_X2_addProjection rfl hr hk dg) sp_WM (fun E h => by cases h) (fun r h => by cases h; exact kk)
theorem k_X2_addRelation_W {x : Cx} {cc : ByteArray} {nL : Nat} {own : String} {d mc ms k n : Nat} {lv : List (Nat × Value)} {pc i : Nat} {rest : List Value} {xa b c : Nat → Nat} {xu v w : St} {oa : Nat} {f : Nat → Int64} {a : Nat → Nat} {u : St} {p0 : Int32} (o : Ok x cc nL own d mc ms) {t : Int32 × St} (ht : f_X2_addRelation u p0 = some t) (hlk : Cond.methodLink own i yX2_addRelation ∈ Ug) (hd : 1 < d) (hr : (rest.map fun v => v.category).sum ≤ 8) (hk : k + 0 ≤ mc ∧ n + 0 ≤ ms) (dg : decode cc pc = .ok (.invokevirtual i, 3)) (kk : G x nL (k + 0) (n + 0) (wLw xa xu b v c w a t.2 oa f (cxT x)) lv (pc + 3) (.int t.1 :: rest)) : G x nL k n (wLw xa xu b v c w a u oa f (cxT x)) lv pc (.int p0 :: .ref (a 0) :: rest) := gcI (wd2 := (wLw xa xu b v c w a t.2 oa f (cxT x))) o (c_X2_addRelation (cxl x) o.2.2.2.2.2.2.2.2.2.1 a u p0 t ht) (can_V (q0 := 15) o rfl rfl hd (Nat.le_of_ble_eq_true rfl) m_991 m_56 m_989 m_990 hlk yk_X2_addRelation rfl hr hk dg) sp_WM (fun E h => by cases h) (fun r h => by cases h; exact kk)
theorem k_X2_addTuple_W {x : Cx} {cc : ByteArray} {nL : Nat} {own : String} {d mc ms k n : Nat} {lv : List (Nat × Value)} {pc i : Nat} {rest : List Value} {xa b c : Nat → Nat} {xu v w : St} {oa : Nat} {f : Nat → Int64} {a : Nat → Nat} {u : St} {p0 : Int32} {p1 : Int32} (o : Ok x cc nL own d mc ms) {t : Int32 × St} (ht : f_X2_addTuple u p0 p1 = some t) (hlk : Cond.methodLink own i yX2_addTuple ∈ Ug) (hd : 2 < d) (hr : (rest.map fun v => v.category).sum ≤ 8) (hk : k + 0 ≤ mc ∧ n + 0 ≤ ms) (dg : decode cc pc = .ok (.invokevirtual i, 3)) (kk : G x nL (k + 0) (n + 0) (wLw xa xu b v c w a t.2 oa f (cxT x)) lv (pc + 3) (.int t.1 :: rest)) : G x nL k n (wLw xa xu b v c w a u oa f (cxT x)) lv pc (.int p1 :: .int p0 :: .ref (a 0) :: rest) := gcI (wd2 := (wLw xa xu b v c w a t.2 oa f (cxT x))) o (c_X2_addTuple (cxl x) o.2.2.2.2.2.2.2.2.2.1 a u p0 p1 t ht) (can_V (q0 := 15) o rfl rfl hd (Nat.le_of_ble_eq_true rfl) m_1026 m_56 m_1024 m_1025 hlk yk_X2_addTuple rfl hr hk dg) sp_WM (fun E h => by cases h) (fun r h => by cases h; exact kk)
theorem k_X2_append_W {x : Cx} {cc : ByteArray} {nL : Nat} {own : String} {d mc ms k n : Nat} {lv : List (Nat × Value)} {pc i : Nat} {rest : List Value} {xa b c : Nat → Nat} {xu v w : St} {oa : Nat} {f : Nat → Int64} {a : Nat → Nat} {u : St} {p0 : Int32} (o : Ok x cc nL own d mc ms) {t : Int32 × St} (ht : f_X2_append u p0 = some t) (hlk : Cond.methodLink own i yX2_append ∈ Ug) (hd : 1 < d) (hr : (rest.map fun v => v.category).sum ≤ 8) (hk : k + 0 ≤ mc ∧ n + 0 ≤ ms) (dg : decode cc pc = .ok (.invokevirtual i, 3)) (kk : G x nL (k + 0) (n + 0) (wLw xa xu b v c w a t.2 oa f (cxT x)) lv (pc + 3) (.int t.1 :: rest)) : G x nL k n (wLw xa xu b v c w a u oa f (cxT x)) lv pc (.int p0 :: .ref (a 0) :: rest) := gcI (wd2 := (wLw xa xu b v c w a t.2 oa f (cxT x))) o (c_X2_append (cxl x) o.2.2.2.2.2.2.2.2.2.1 a u p0 t ht) (can_V (q0 := 15) o rfl rfl hd (Nat.le_of_ble_eq_true rfl) m_1258 m_56 m_1256 m_1257 hlk yk_X2_append rfl hr hk dg) sp_WM (fun E h => by cases h) (fun r h => by cases h; exact kk)
theorem k_X2_apply_W {x : Cx} {cc : ByteArray} {nL : Nat} {own : String} {d mc ms k n : Nat} {lv : List (Nat × Value)} {pc i : Nat} {rest : List Value} {xa b c : Nat → Nat} {xu v w : St} {oa : Nat} {f : Nat → Int64} {a : Nat → Nat} {u : St} {p0 : Int32} {p1 : Int32} {p2 : Int32} {p3 : Int32} {p4 : Int32} (o : Ok x cc nL own d mc ms) {t : Int32 × St} (ht : f_X2_apply u p0 p1 p2 p3 p4 = some t) (hlk : Cond.methodLink own i yX2_apply ∈ Ug) (hd : 2 < d) (hr : (rest.map fun v => v.category).sum ≤ 8) (hk : k + 0 ≤ mc ∧ n + 0 ≤ ms) (dg : decode cc pc = .ok (.invokevirtual i, 3)) (kk : G x nL (k + 0) (n + 0) (wLw xa xu b v c w a t.2 oa f (cxT x)) lv (pc + 3) (.int t.1 :: rest)) : G x nL k n (wLw xa xu b v c w a u oa f (cxT x)) lv pc (.int p4 :: .int p3 :: .int p2 :: .int p1 :: .int p0 :: .ref (a 0) :: rest) := gcI (wd2 := (wLw xa xu b v c w a t.2 oa f (cxT x))) o (c_X2_apply (cxl x) o.2.2.2.2.2.2.2.2.2.1 a u p0 p1 p2 p3 p4 t ht) (can_V (q0 := 15) o rfl rfl hd (Nat.le_of_ble_eq_true rfl) m_1082 m_56 m_1080 m_1081 hlk yk_X2_apply rfl hr hk dg) sp_WM (fun E h => by cases h) (fun r h => by cases h; exact kk)
theorem k_X2_areEqual_W {x : Cx} {cc : ByteArray} {nL : Nat} {own : String} {d mc ms k n : Nat} {lv : List (Nat × Value)} {pc i : Nat} {rest : List Value} {xa b c : Nat → Nat} {xu v w : St} {oa : Nat} {f : Nat → Int64} {a : Nat → Nat} {u : St} {p0 : Int32} {p1 : Int32} (o : Ok x cc nL own d mc ms) {t : Int32 × St} (ht : f_X2_areEqual u p0 p1 = some t) (hlk : Cond.methodLink own i yX2_areEqual ∈ Ug) (hd : 1 < d) (hr : (rest.map fun v => v.category).sum ≤ 8) (hk : k + 0 ≤ mc ∧ n + 0 ≤ ms) (dg : decode cc pc = .ok (.invokevirtual i, 3)) (kk : G x nL (k + 0) (n + 0) (wLw xa xu b v c w a t.2 oa f (cxT x)) lv (pc + 3) (.int t.1 :: rest)) : G x nL k n (wLw xa xu b v c w a u oa f (cxT x)) lv pc (.int p1 :: .int p0 :: .ref (a 0) :: rest) := gcI (wd2 := (wLw xa xu b v c w a t.2 oa f (cxT x))) o (c_X2_areEqual (cxl x) o.2.2.2.2.2.2.2.2.2.1 a u p0 p1 t ht) (can_V (q0 := 15) o rfl rfl hd (Nat.le_of_ble_eq_true rfl) m_1058 m_56 m_1056 m_1057 hlk yk_X2_areEqual rfl hr hk dg) sp_WM (fun E h => by cases h) (fun r h => by cases h; exact kk)
theorem k_X2_arity_W {x : Cx} {cc : ByteArray} {nL : Nat} {own : String} {d mc ms k n : Nat} {lv : List (Nat × Value)} {pc i : Nat} {rest : List Value} {xa b c : Nat → Nat} {xu v w : St} {oa : Nat} {f : Nat → Int64} {a : Nat → Nat} {u : St} {p0 : Int32} (o : Ok x cc nL own d mc ms) {t : Int32 × St} (ht : f_X2_arity u p0 = some t) (hlk : Cond.methodLink own i yX2_arity ∈ Ug) (hd : 1 < d) (hr : (rest.map fun v => v.category).sum ≤ 8) (hk : k + 0 ≤ mc ∧ n + 0 ≤ ms) (dg : decode cc pc = .ok (.invokevirtual i, 3)) (kk : G x nL (k + 0) (n + 0) (wLw xa xu b v c w a t.2 oa f (cxT x)) lv (pc + 3) (.int t.1 :: rest)) : G x nL k n (wLw xa xu b v c w a u oa f (cxT x)) lv pc (.int p0 :: .ref (a 0) :: rest) := gcI (wd2 := (wLw xa xu b v c w a t.2 oa f (cxT x))) o (c_X2_arity (cxl x) o.2.2.2.2.2.2.2.2.2.1 a u p0 t ht) (can_V (q0 := 15) o rfl rfl hd (Nat.le_of_ble_eq_true rfl) m_1050 m_56 m_1048 m_1049 hlk yk_X2_arity rfl hr hk dg) sp_WM (fun E h => by cases h) (fun r h => by cases h; exact kk)
theorem k_X2_clear_W {x : Cx} {cc : ByteArray} {nL : Nat} {own : String} {d mc ms k n : Nat} {lv : List (Nat × Value)} {pc i : Nat} {rest : List Value} {xa b c : Nat → Nat} {xu v w : St} {oa : Nat} {f : Nat → Int64} {a : Nat → Nat} {u : St} (o : Ok x cc nL own d mc ms) {t : Int32 × St} (ht : f_X2_clear u = some t) (hlk : Cond.methodLink own i yX2_clear ∈ Ug) (hd : 0 < d) (hr : (rest.map fun v => v.category).sum ≤ 8) (hk : k + 0 ≤ mc ∧ n + 0 ≤ ms) (dg : decode cc pc = .ok (.invokevirtual i, 3)) (kk : G x nL (k + 0) (n + 0) (wLw xa xu b v c w a t.2 oa f (cxT x)) lv (pc + 3) (.int t.1 :: rest)) : G x nL k n (wLw xa xu b v c w a u oa f (cxT x)) lv pc (.ref (a 0) :: rest) := gcI (wd2 := (wLw xa xu b v c w a t.2 oa f (cxT x))) o (c_X2_clear (cxl x) o.2.2.2.2.2.2.2.2.2.1 a u t ht) (can_V (q0 := 15) o rfl rfl hd (Nat.le_of_ble_eq_true rfl) m_1062 m_56 m_1060 m_1061 hlk yk_X2_clear rfl hr hk dg) sp_WM (fun E h => by cases h) (fun r h => by cases h; exact kk)
theorem k_X2_close_W {x : Cx} {cc : ByteArray} {nL : Nat} {own : String} {d mc ms k n : Nat} {lv : List (Nat × Value)} {pc i : Nat} {rest : List Value} {xa b c : Nat → Nat} {xu v w : St} {oa : Nat} {f : Nat → Int64} {a : Nat → Nat} {u : St} {p0 : Int32} {p1 : Int32} {p2 : Int32} (o : Ok x cc nL own d mc ms) {t : Int32 × St} (ht : f_X2_close u p0 p1 p2 = some t) (hlk : Cond.methodLink own i yX2_close ∈ Ug) (hd : 3 < d) (hr : (rest.map fun v => v.category).sum ≤ 8) (hk : k + 0 ≤ mc ∧ n + 0 ≤ ms) (dg : decode cc pc = .ok (.invokevirtual i, 3)) (kk : G x nL (k + 0) (n + 0) (wLw xa xu b v c w a t.2 oa f (cxT x)) lv (pc + 3) (.int t.1 :: rest)) : G x nL k n (wLw xa xu b v c w a u oa f (cxT x)) lv pc (.int p2 :: .int p1 :: .int p0 :: .ref (a 0) :: rest) := gcI (wd2 := (wLw xa xu b v c w a t.2 oa f (cxT x))) o (c_X2_close (cxl x) o.2.2.2.2.2.2.2.2.2.1 a u p0 p1 p2 t ht) (can_V (q0 := 15) o rfl rfl hd (Nat.le_of_ble_eq_true rfl) m_1135 m_56 m_1133 m_1134 hlk yk_X2_close rfl hr hk dg) sp_WM (fun E h => by cases h) (fun r h => by cases h; exact kk)
theorem k_X2_compose_W {x : Cx} {cc : ByteArray} {nL : Nat} {own : String} {d mc ms k n : Nat} {lv : List (Nat × Value)} {pc i : Nat} {rest : List Value} {xa b c : Nat → Nat} {xu v w : St} {oa : Nat} {f : Nat → Int64} {a : Nat → Nat} {u : St} {p0 : Int32} {p1 : Int32} {p2 : Int32} (o : Ok x cc nL own d mc ms) {t : Int32 × St} (ht : f_X2_compose u p0 p1 p2 = some t) (hlk : Cond.methodLink own i yX2_compose ∈ Ug) (hd : 2 < d) (hr : (rest.map fun v => v.category).sum ≤ 8) (hk : k + 0 ≤ mc ∧ n + 0 ≤ ms) (dg : decode cc pc = .ok (.invokevirtual i, 3)) (kk : G x nL (k + 0) (n + 0) (wLw xa xu b v c w a t.2 oa f (cxT x)) lv (pc + 3) (.int t.1 :: rest)) : G x nL k n (wLw xa xu b v c w a u oa f (cxT x)) lv pc (.int p2 :: .int p1 :: .int p0 :: .ref (a 0) :: rest) := gcI (wd2 := (wLw xa xu b v c w a t.2 oa f (cxT x))) o (c_X2_compose (cxl x) o.2.2.2.2.2.2.2.2.2.1 a u p0 p1 p2 t ht) (can_V (q0 := 15) o rfl rfl hd (Nat.le_of_ble_eq_true rfl) m_1150 m_56 m_1148 m_1149 hlk yk_X2_compose rfl hr hk dg) sp_WM (fun E h => by cases h) (fun r h => by cases h; exact kk)
theorem k_X2_contains_W {x : Cx} {cc : ByteArray} {nL : Nat} {own : String} {d mc ms k n : Nat} {lv : List (Nat × Value)} {pc i : Nat} {rest : List Value} {xa b c : Nat → Nat} {xu v w : St} {oa : Nat} {f : Nat → Int64} {a : Nat → Nat} {u : St} {p0 : Int32} {p1 : Int32} (o : Ok x cc nL own d mc ms) {t : Int32 × St} (ht : f_X2_contains u p0 p1 = some t) (hlk : Cond.methodLink own i yX2_contains ∈ Ug) (hd : 2 < d) (hr : (rest.map fun v => v.category).sum ≤ 8) (hk : k + 0 ≤ mc ∧ n + 0 ≤ ms) (dg : decode cc pc = .ok (.invokevirtual i, 3)) (kk : G x nL (k + 0) (n + 0) (wLw xa xu b v c w a t.2 oa f (cxT x)) lv (pc + 3) (.int t.1 :: rest)) : G x nL k n (wLw xa xu b v c w a u oa f (cxT x)) lv pc (.int p1 :: .int p0 :: .ref (a 0) :: rest) := gcI (wd2 := (wLw xa xu b v c w a t.2 oa f (cxT x))) o (c_X2_contains (cxl x) o.2.2.2.2.2.2.2.2.2.1 a u p0 p1 t ht) (can_V (q0 := 15) o rfl rfl hd (Nat.le_of_ble_eq_true rfl) m_1042 m_56 m_1040 m_1041 hlk yk_X2_contains rfl hr hk dg) sp_WM (fun E h => by cases h) (fun r h => by cases h; exact kk)
theorem k_X2_define_W {x : Cx} {cc : ByteArray} {nL : Nat} {own : String} {d mc ms k n : Nat} {lv : List (Nat × Value)} {pc i : Nat} {rest : List Value} {xa b c : Nat → Nat} {xu v w : St} {oa : Nat} {f : Nat → Int64} {a : Nat → Nat} {u : St} {p0 : Int32} {p1 : Int32} {p2 : Int32} {p3 : Int32} {p4 : Int32} (o : Ok x cc nL own d mc ms) {t : Int32 × St} (ht : f_X2_define u p0 p1 p2 p3 p4 = some t) (hlk : Cond.methodLink own i yX2_define ∈ Ug) (hd : 2 < d) (hr : (rest.map fun v => v.category).sum ≤ 8) (hk : k + 0 ≤ mc ∧ n + 0 ≤ ms) (dg : decode cc pc = .ok (.invokevirtual i, 3)) (kk : G x nL (k + 0) (n + 0) (wLw xa xu b v c w a t.2 oa f (cxT x)) lv (pc + 3) (.int t.1 :: rest)) : G x nL k n (wLw xa xu b v c w a u oa f (cxT x)) lv pc (.int p4 :: .int p3 :: .int p2 :: .int p1 :: .int p0 :: .ref (a 0) :: rest) := gcI (wd2 := (wLw xa xu b v c w a t.2 oa f (cxT x))) o (c_X2_define (cxl x) o.2.2.2.2.2.2.2.2.2.1 a u p0 p1 p2 p3 p4 t ht) (can_V (q0 := 15) o rfl rfl hd (Nat.le_of_ble_eq_true rfl) m_1238 m_56 m_1236 m_1237 hlk yk_X2_define rfl hr hk dg) sp_WM (fun E h => by cases h) (fun r h => by cases h; exact kk)
theorem k_X2_dependsOn_W {x : Cx} {cc : ByteArray} {nL : Nat} {own : String} {d mc ms k n : Nat} {lv : List (Nat × Value)} {pc i : Nat} {rest : List Value} {xa b c : Nat → Nat} {xu v w : St} {oa : Nat} {f : Nat → Int64} {a : Nat → Nat} {u : St} {p0 : Int32} {p1 : Int32} {p2 : Int32} (o : Ok x cc nL own d mc ms) {t : Int32 × St} (ht : f_X2_dependsOn u p0 p1 p2 = some t) (hlk : Cond.methodLink own i yX2_dependsOn ∈ Ug) (hd : 2 < d) (hr : (rest.map fun v => v.category).sum ≤ 8) (hk : k + 0 ≤ mc ∧ n + 0 ≤ ms) (dg : decode cc pc = .ok (.invokevirtual i, 3)) (kk : G x nL (k + 0) (n + 0) (wLw xa xu b v c w a t.2 oa f (cxT x)) lv (pc + 3) (.int t.1 :: rest)) : G x nL k n (wLw xa xu b v c w a u oa f (cxT x)) lv pc (.int p2 :: .int p1 :: .int p0 :: .ref (a 0) :: rest) := gcI (wd2 := (wLw xa xu b v c w a t.2 oa f (cxT x))) o (c_X2_dependsOn (cxl x) o.2.2.2.2.2.2.2.2.2.1 a u p0 p1 p2 t ht) (can_V (q0 := 15) o rfl rfl hd (Nat.le_of_ble_eq_true rfl) m_1146 m_56 m_1144 m_1145 hlk yk_X2_dependsOn rfl hr hk dg) sp_WM (fun E h => by cases h) (fun r h => by cases h; exact kk)
theorem k_X2_dimension_W {x : Cx} {cc : ByteArray} {nL : Nat} {own : String} {d mc ms k n : Nat} {lv : List (Nat × Value)} {pc i : Nat} {rest : List Value} {xa b c : Nat → Nat} {xu v w : St} {oa : Nat} {f : Nat → Int64} {a : Nat → Nat} {u : St} (o : Ok x cc nL own d mc ms) {t : Int32 × St} (ht : f_X2_dimension u = some t) (hlk : Cond.methodLink own i yX2_dimension ∈ Ug) (hd : 5 < d) (hr : (rest.map fun v => v.category).sum ≤ 8) (hk : k + 0 ≤ mc ∧ n + 0 ≤ ms) (dg : decode cc pc = .ok (.invokevirtual i, 3)) (kk : G x nL (k + 0) (n + 0) (wLw xa xu b v c w a t.2 oa f (cxT x)) lv (pc + 3) (.int t.1 :: rest)) : G x nL k n (wLw xa xu b v c w a u oa f (cxT x)) lv pc (.ref (a 0) :: rest) := gcI (wd2 := (wLw xa xu b v c w a t.2 oa f (cxT x))) o (c_X2_dimension (cxl x) o.2.2.2.2.2.2.2.2.2.1 a u t ht) (can_V (q0 := 15) o rfl rfl hd (Nat.le_of_ble_eq_true rfl) m_1234 m_56 m_1232 m_1233 hlk yk_X2_dimension rfl hr hk dg) sp_WM (fun E h => by cases h) (fun r h => by cases h; exact kk)
theorem k_X2_dual_W {x : Cx} {cc : ByteArray} {nL : Nat} {own : String} {d mc ms k n : Nat} {lv : List (Nat × Value)} {pc i : Nat} {rest : List Value} {xa b c : Nat → Nat} {xu v w : St} {oa : Nat} {f : Nat → Int64} {a : Nat → Nat} {u : St} {p0 : Int32} {p1 : Int32} (o : Ok x cc nL own d mc ms) {t : Int32 × St} (ht : f_X2_dual u p0 p1 = some t) (hlk : Cond.methodLink own i yX2_dual ∈ Ug) (hd : 2 < d) (hr : (rest.map fun v => v.category).sum ≤ 8) (hk : k + 0 ≤ mc ∧ n + 0 ≤ ms) (dg : decode cc pc = .ok (.invokevirtual i, 3)) (kk : G x nL (k + 0) (n + 0) (wLw xa xu b v c w a t.2 oa f (cxT x)) lv (pc + 3) (.int t.1 :: rest)) : G x nL k n (wLw xa xu b v c w a u oa f (cxT x)) lv pc (.int p1 :: .int p0 :: .ref (a 0) :: rest) := gcI (wd2 := (wLw xa xu b v c w a t.2 oa f (cxT x))) o (c_X2_dual (cxl x) o.2.2.2.2.2.2.2.2.2.1 a u p0 p1 t ht) (can_V (q0 := 15) o rfl rfl hd (Nat.le_of_ble_eq_true rfl) m_1142 m_56 m_1140 m_1141 hlk yk_X2_dual rfl hr hk dg) sp_WM (fun E h => by cases h) (fun r h => by cases h; exact kk)
theorem k_X2_errorPosition_W {x : Cx} {cc : ByteArray} {nL : Nat} {own : String} {d mc ms k n : Nat} {lv : List (Nat × Value)} {pc i : Nat} {rest : List Value} {xa b c : Nat → Nat} {xu v w : St} {oa : Nat} {f : Nat → Int64} {a : Nat → Nat} {u : St} (o : Ok x cc nL own d mc ms) {t : Int32 × St} (ht : f_X2_errorPosition u = some t) (hlk : Cond.methodLink own i yX2_errorPosition ∈ Ug) (hd : 1 < d) (hr : (rest.map fun v => v.category).sum ≤ 8) (hk : k + 0 ≤ mc ∧ n + 0 ≤ ms) (dg : decode cc pc = .ok (.invokevirtual i, 3)) (kk : G x nL (k + 0) (n + 0) (wLw xa xu b v c w a t.2 oa f (cxT x)) lv (pc + 3) (.int t.1 :: rest)) : G x nL k n (wLw xa xu b v c w a u oa f (cxT x)) lv pc (.ref (a 0) :: rest) := gcI (wd2 := (wLw xa xu b v c w a t.2 oa f (cxT x))) o (c_X2_errorPosition (cxl x) o.2.2.2.2.2.2.2.2.2.1 a u t ht) (can_V (q0 := 15) o rfl rfl hd (Nat.le_of_ble_eq_true rfl) m_1270 m_56 m_1268 m_1269 hlk yk_X2_errorPosition rfl hr hk dg) sp_WM (fun E h => by cases h) (fun r h => by cases h; exact kk)
theorem k_X2_firstViolated_W {x : Cx} {cc : ByteArray} {nL : Nat} {own : String} {d mc ms k n : Nat} {lv : List (Nat × Value)} {pc i : Nat} {rest : List Value} {xa b c : Nat → Nat} {xu v w : St} {oa : Nat} {f : Nat → Int64} {a : Nat → Nat} {u : St} {p0 : Int32} (o : Ok x cc nL own d mc ms) {t : Int32 × St} (ht : f_X2_firstViolated u p0 = some t) (hlk : Cond.methodLink own i yX2_firstViolated ∈ Ug) (hd : 1 < d) (hr : (rest.map fun v => v.category).sum ≤ 8) (hk : k + 0 ≤ mc ∧ n + 0 ≤ ms) (dg : decode cc pc = .ok (.invokevirtual i, 3)) (kk : G x nL (k + 0) (n + 0) (wLw xa xu b v c w a t.2 oa f (cxT x)) lv (pc + 3) (.int t.1 :: rest)) : G x nL k n (wLw xa xu b v c w a u oa f (cxT x)) lv pc (.int p0 :: .ref (a 0) :: rest) := gcI (wd2 := (wLw xa xu b v c w a t.2 oa f (cxT x))) o (c_X2_firstViolated (cxl x) o.2.2.2.2.2.2.2.2.2.1 a u p0 t ht) (can_V (q0 := 15) o rfl rfl hd (Nat.le_of_ble_eq_true rfl) m_1242 m_56 m_1240 m_1241 hlk yk_X2_firstViolated rfl hr hk dg) sp_WM (fun E h => by cases h) (fun r h => by cases h; exact kk)
theorem k_X2_greatestSolution_W {x : Cx} {cc : ByteArray} {nL : Nat} {own : String} {d mc ms k n : Nat} {lv : List (Nat × Value)} {pc i : Nat} {rest : List Value} {xa b c : Nat → Nat} {xu v w : St} {oa : Nat} {f : Nat → Int64} {a : Nat → Nat} {u : St} (o : Ok x cc nL own d mc ms) {t : Int32 × St} (ht : f_X2_greatestSolution u = some t) (hlk : Cond.methodLink own i yX2_greatestSolution ∈ Ug) (hd : 5 < d) (hr : (rest.map fun v => v.category).sum ≤ 8) (hk : k + 0 ≤ mc ∧ n + 0 ≤ ms) (dg : decode cc pc = .ok (.invokevirtual i, 3)) (kk : G x nL (k + 0) (n + 0) (wLw xa xu b v c w a t.2 oa f (cxT x)) lv (pc + 3) (.int t.1 :: rest)) : G x nL k n (wLw xa xu b v c w a u oa f (cxT x)) lv pc (.ref (a 0) :: rest) := gcI (wd2 := (wLw xa xu b v c w a t.2 oa f (cxT x))) o (c_X2_greatestSolution (cxl x) o.2.2.2.2.2.2.2.2.2.1 a u t ht) (can_V (q0 := 15) o rfl rfl hd (Nat.le_of_ble_eq_true rfl) m_1226 m_56 m_1224 m_1225 hlk yk_X2_greatestSolution rfl hr hk dg) sp_WM (fun E h => by cases h) (fun r h => by cases h; exact kk)
theorem k_X2_hasKind_W {x : Cx} {cc : ByteArray} {nL : Nat} {own : String} {d mc ms k n : Nat} {lv : List (Nat × Value)} {pc i : Nat} {rest : List Value} {xa b c : Nat → Nat} {xu v w : St} {oa : Nat} {f : Nat → Int64} {a : Nat → Nat} {u : St} {p0 : Int32} (o : Ok x cc nL own d mc ms) {t : Int32 × St} (ht : f_X2_hasKind u p0 = some t) (hlk : Cond.methodLink own i yX2_hasKind ∈ Ug) (hd : 5 < d) (hr : (rest.map fun v => v.category).sum ≤ 8) (hk : k + 0 ≤ mc ∧ n + 0 ≤ ms) (dg : decode cc pc = .ok (.invokevirtual i, 3)) (kk : G x nL (k + 0) (n + 0) (wLw xa xu b v c w a t.2 oa f (cxT x)) lv (pc + 3) (.int t.1 :: rest)) : G x nL k n (wLw xa xu b v c w a u oa f (cxT x)) lv pc (.int p0 :: .ref (a 0) :: rest) := gcI (wd2 := (wLw xa xu b v c w a t.2 oa f (cxT x))) o (c_X2_hasKind (cxl x) o.2.2.2.2.2.2.2.2.2.1 a u p0 t ht) (can_V (q0 := 15) o rfl rfl hd (Nat.le_of_ble_eq_true rfl) m_1162 m_56 m_1160 m_1161 hlk yk_X2_hasKind rfl hr hk dg) sp_WM (fun E h => by cases h) (fun r h => by cases h; exact kk)
theorem k_X2_implies_W {x : Cx} {cc : ByteArray} {nL : Nat} {own : String} {d mc ms k n : Nat} {lv : List (Nat × Value)} {pc i : Nat} {rest : List Value} {xa b c : Nat → Nat} {xu v w : St} {oa : Nat} {f : Nat → Int64} {a : Nat → Nat} {u : St} {p0 : Int32} {p1 : Int32} {p2 : Int32} {p3 : Int32} (o : Ok x cc nL own d mc ms) {t : Int32 × St} (ht : f_X2_implies u p0 p1 p2 p3 = some t) (hlk : Cond.methodLink own i yX2_implies ∈ Ug) (hd : 5 < d) (hr : (rest.map fun v => v.category).sum ≤ 8) (hk : k + 0 ≤ mc ∧ n + 0 ≤ ms) (dg : decode cc pc = .ok (.invokevirtual i, 3)) (kk : G x nL (k + 0) (n + 0) (wLw xa xu b v c w a t.2 oa f (cxT x)) lv (pc + 3) (.int t.1 :: rest)) : G x nL k n (wLw xa xu b v c w a u oa f (cxT x)) lv pc (.int p3 :: .int p2 :: .int p1 :: .int p0 :: .ref (a 0) :: rest) := gcI (wd2 := (wLw xa xu b v c w a t.2 oa f (cxT x))) o (c_X2_implies (cxl x) o.2.2.2.2.2.2.2.2.2.1 a u p0 p1 p2 p3 t ht) (can_V (q0 := 15) o rfl rfl hd (Nat.le_of_ble_eq_true rfl) m_1230 m_56 m_1228 m_1229 hlk yk_X2_implies rfl hr hk dg) sp_WM (fun E h => by cases h) (fun r h => by cases h; exact kk)
theorem k_X2_isForced_W {x : Cx} {cc : ByteArray} {nL : Nat} {own : String} {d mc ms k n : Nat} {lv : List (Nat × Value)} {pc i : Nat} {rest : List Value} {xa b c : Nat → Nat} {xu v w : St} {oa : Nat} {f : Nat → Int64} {a : Nat → Nat} {u : St} {p0 : Int32} {p1 : Int32} (o : Ok x cc nL own d mc ms) {t : Int32 × St} (ht : f_X2_isForced u p0 p1 = some t) (hlk : Cond.methodLink own i yX2_isForced ∈ Ug) (hd : 3 < d) (hr : (rest.map fun v => v.category).sum ≤ 8) (hk : k + 0 ≤ mc ∧ n + 0 ≤ ms) (dg : decode cc pc = .ok (.invokevirtual i, 3)) (kk : G x nL (k + 0) (n + 0) (wLw xa xu b v c w a t.2 oa f (cxT x)) lv (pc + 3) (.int t.1 :: rest)) : G x nL k n (wLw xa xu b v c w a u oa f (cxT x)) lv pc (.int p1 :: .int p0 :: .ref (a 0) :: rest) := gcI (wd2 := (wLw xa xu b v c w a t.2 oa f (cxT x))) o (c_X2_isForced (cxl x) o.2.2.2.2.2.2.2.2.2.1 a u p0 p1 t ht) (can_V (q0 := 15) o rfl rfl hd (Nat.le_of_ble_eq_true rfl) m_1214 m_56 m_1212 m_1213 hlk yk_X2_isForced rfl hr hk dg) sp_WM (fun E h => by cases h) (fun r h => by cases h; exact kk)
theorem k_X2_isIdempotent_W {x : Cx} {cc : ByteArray} {nL : Nat} {own : String} {d mc ms k n : Nat} {lv : List (Nat × Value)} {pc i : Nat} {rest : List Value} {xa b c : Nat → Nat} {xu v w : St} {oa : Nat} {f : Nat → Int64} {a : Nat → Nat} {u : St} {p0 : Int32} {p1 : Int32} (o : Ok x cc nL own d mc ms) {t : Int32 × St} (ht : f_X2_isIdempotent u p0 p1 = some t) (hlk : Cond.methodLink own i yX2_isIdempotent ∈ Ug) (hd : 2 < d) (hr : (rest.map fun v => v.category).sum ≤ 8) (hk : k + 0 ≤ mc ∧ n + 0 ≤ ms) (dg : decode cc pc = .ok (.invokevirtual i, 3)) (kk : G x nL (k + 0) (n + 0) (wLw xa xu b v c w a t.2 oa f (cxT x)) lv (pc + 3) (.int t.1 :: rest)) : G x nL k n (wLw xa xu b v c w a u oa f (cxT x)) lv pc (.int p1 :: .int p0 :: .ref (a 0) :: rest) := gcI (wd2 := (wLw xa xu b v c w a t.2 oa f (cxT x))) o (c_X2_isIdempotent (cxl x) o.2.2.2.2.2.2.2.2.2.1 a u p0 p1 t ht) (can_V (q0 := 15) o rfl rfl hd (Nat.le_of_ble_eq_true rfl) m_1123 m_56 m_1121 m_1122 hlk yk_X2_isIdempotent rfl hr hk dg) sp_WM (fun E h => by cases h) (fun r h => by cases h; exact kk)
theorem k_X2_isMonotone_W {x : Cx} {cc : ByteArray} {nL : Nat} {own : String} {d mc ms k n : Nat} {lv : List (Nat × Value)} {pc i : Nat} {rest : List Value} {xa b c : Nat → Nat} {xu v w : St} {oa : Nat} {f : Nat → Int64} {a : Nat → Nat} {u : St} {p0 : Int32} {p1 : Int32} (o : Ok x cc nL own d mc ms) {t : Int32 × St} (ht : f_X2_isMonotone u p0 p1 = some t) (hlk : Cond.methodLink own i yX2_isMonotone ∈ Ug) (hd : 2 < d) (hr : (rest.map fun v => v.category).sum ≤ 8) (hk : k + 0 ≤ mc ∧ n + 0 ≤ ms) (dg : decode cc pc = .ok (.invokevirtual i, 3)) (kk : G x nL (k + 0) (n + 0) (wLw xa xu b v c w a t.2 oa f (cxT x)) lv (pc + 3) (.int t.1 :: rest)) : G x nL k n (wLw xa xu b v c w a u oa f (cxT x)) lv pc (.int p1 :: .int p0 :: .ref (a 0) :: rest) := gcI (wd2 := (wLw xa xu b v c w a t.2 oa f (cxT x))) o (c_X2_isMonotone (cxl x) o.2.2.2.2.2.2.2.2.2.1 a u p0 p1 t ht) (can_V (q0 := 15) o rfl rfl hd (Nat.le_of_ble_eq_true rfl) m_1127 m_56 m_1125 m_1126 hlk yk_X2_isMonotone rfl hr hk dg) sp_WM (fun E h => by cases h) (fun r h => by cases h; exact kk)
theorem k_X2_isPolymorphism_W {x : Cx} {cc : ByteArray} {nL : Nat} {own : String} {d mc ms k n : Nat} {lv : List (Nat × Value)} {pc i : Nat} {rest : List Value} {xa b c : Nat → Nat} {xu v w : St} {oa : Nat} {f : Nat → Int64} {a : Nat → Nat} {u : St} {p0 : Int32} {p1 : Int32} (o : Ok x cc nL own d mc ms) {t : Int32 × St} (ht : f_X2_isPolymorphism u p0 p1 = some t) (hlk : Cond.methodLink own i yX2_isPolymorphism ∈ Ug) (hd : 4 < d) (hr : (rest.map fun v => v.category).sum ≤ 8) (hk : k + 0 ≤ mc ∧ n + 0 ≤ ms) (dg : decode cc pc = .ok (.invokevirtual i, 3)) (kk : G x nL (k + 0) (n + 0) (wLw xa xu b v c w a t.2 oa f (cxT x)) lv (pc + 3) (.int t.1 :: rest)) : G x nL k n (wLw xa xu b v c w a u oa f (cxT x)) lv pc (.int p1 :: .int p0 :: .ref (a 0) :: rest) := gcI (wd2 := (wLw xa xu b v c w a t.2 oa f (cxT x))) o (c_X2_isPolymorphism (cxl x) o.2.2.2.2.2.2.2.2.2.1 a u p0 p1 t ht) (can_V (q0 := 15) o rfl rfl hd (Nat.le_of_ble_eq_true rfl) m_1107 m_56 m_1105 m_1106 hlk yk_X2_isPolymorphism rfl hr hk dg) sp_WM (fun E h => by cases h) (fun r h => by cases h; exact kk)
theorem k_X2_isRedundant_W {x : Cx} {cc : ByteArray} {nL : Nat} {own : String} {d mc ms k n : Nat} {lv : List (Nat × Value)} {pc i : Nat} {rest : List Value} {xa b c : Nat → Nat} {xu v w : St} {oa : Nat} {f : Nat → Int64} {a : Nat → Nat} {u : St} {p0 : Int32} (o : Ok x cc nL own d mc ms) {t : Int32 × St} (ht : f_X2_isRedundant u p0 = some t) (hlk : Cond.methodLink own i yX2_isRedundant ∈ Ug) (hd : 3 < d) (hr : (rest.map fun v => v.category).sum ≤ 8) (hk : k + 0 ≤ mc ∧ n + 0 ≤ ms) (dg : decode cc pc = .ok (.invokevirtual i, 3)) (kk : G x nL (k + 0) (n + 0) (wLw xa xu b v c w a t.2 oa f (cxT x)) lv (pc + 3) (.int t.1 :: rest)) : G x nL k n (wLw xa xu b v c w a u oa f (cxT x)) lv pc (.int p0 :: .ref (a 0) :: rest) := gcI (wd2 := (wLw xa xu b v c w a t.2 oa f (cxT x))) o (c_X2_isRedundant (cxl x) o.2.2.2.2.2.2.2.2.2.1 a u p0 t ht) (can_V (q0 := 15) o rfl rfl hd (Nat.le_of_ble_eq_true rfl) m_1246 m_56 m_1244 m_1245 hlk yk_X2_isRedundant rfl hr hk dg) sp_WM (fun E h => by cases h) (fun r h => by cases h; exact kk)
theorem k_X2_leastSolution_W {x : Cx} {cc : ByteArray} {nL : Nat} {own : String} {d mc ms k n : Nat} {lv : List (Nat × Value)} {pc i : Nat} {rest : List Value} {xa b c : Nat → Nat} {xu v w : St} {oa : Nat} {f : Nat → Int64} {a : Nat → Nat} {u : St} (o : Ok x cc nL own d mc ms) {t : Int32 × St} (ht : f_X2_leastSolution u = some t) (hlk : Cond.methodLink own i yX2_leastSolution ∈ Ug) (hd : 5 < d) (hr : (rest.map fun v => v.category).sum ≤ 8) (hk : k + 0 ≤ mc ∧ n + 0 ≤ ms) (dg : decode cc pc = .ok (.invokevirtual i, 3)) (kk : G x nL (k + 0) (n + 0) (wLw xa xu b v c w a t.2 oa f (cxT x)) lv (pc + 3) (.int t.1 :: rest)) : G x nL k n (wLw xa xu b v c w a u oa f (cxT x)) lv pc (.ref (a 0) :: rest) := gcI (wd2 := (wLw xa xu b v c w a t.2 oa f (cxT x))) o (c_X2_leastSolution (cxl x) o.2.2.2.2.2.2.2.2.2.1 a u t ht) (can_V (q0 := 15) o rfl rfl hd (Nat.le_of_ble_eq_true rfl) m_1222 m_56 m_1220 m_1221 hlk yk_X2_leastSolution rfl hr hk dg) sp_WM (fun E h => by cases h) (fun r h => by cases h; exact kk)
theorem k_X2_lowestKind_W {x : Cx} {cc : ByteArray} {nL : Nat} {own : String} {d mc ms k n : Nat} {lv : List (Nat × Value)} {pc i : Nat} {rest : List Value} {xa b c : Nat → Nat} {xu v w : St} {oa : Nat} {f : Nat → Int64} {a : Nat → Nat} {u : St} (o : Ok x cc nL own d mc ms) {t : Int32 × St} (ht : f_X2_lowestKind u = some t) (hlk : Cond.methodLink own i yX2_lowestKind ∈ Ug) (hd : 5 < d) (hr : (rest.map fun v => v.category).sum ≤ 8) (hk : k + 0 ≤ mc ∧ n + 0 ≤ ms) (dg : decode cc pc = .ok (.invokevirtual i, 3)) (kk : G x nL (k + 0) (n + 0) (wLw xa xu b v c w a t.2 oa f (cxT x)) lv (pc + 3) (.int t.1 :: rest)) : G x nL k n (wLw xa xu b v c w a u oa f (cxT x)) lv pc (.ref (a 0) :: rest) := gcI (wd2 := (wLw xa xu b v c w a t.2 oa f (cxT x))) o (c_X2_lowestKind (cxl x) o.2.2.2.2.2.2.2.2.2.1 a u t ht) (can_V (q0 := 15) o rfl rfl hd (Nat.le_of_ble_eq_true rfl) m_1170 m_56 m_1168 m_1169 hlk yk_X2_lowestKind rfl hr hk dg) sp_WM (fun E h => by cases h) (fun r h => by cases h; exact kk)
theorem k_X2_outputAt_W {x : Cx} {cc : ByteArray} {nL : Nat} {own : String} {d mc ms k n : Nat} {lv : List (Nat × Value)} {pc i : Nat} {rest : List Value} {xa b c : Nat → Nat} {xu v w : St} {oa : Nat} {f : Nat → Int64} {a : Nat → Nat} {u : St} {p0 : Int32} (o : Ok x cc nL own d mc ms) {t : Int32 × St} (ht : f_X2_outputAt u p0 = some t) (hlk : Cond.methodLink own i yX2_outputAt ∈ Ug) (hd : 1 < d) (hr : (rest.map fun v => v.category).sum ≤ 8) (hk : k + 0 ≤ mc ∧ n + 0 ≤ ms) (dg : decode cc pc = .ok (.invokevirtual i, 3)) (kk : G x nL (k + 0) (n + 0) (wLw xa xu b v c w a t.2 oa f (cxT x)) lv (pc + 3) (.int t.1 :: rest)) : G x nL k n (wLw xa xu b v c w a u oa f (cxT x)) lv pc (.int p0 :: .ref (a 0) :: rest) := gcI (wd2 := (wLw xa xu b v c w a t.2 oa f (cxT x))) o (c_X2_outputAt (cxl x) o.2.2.2.2.2.2.2.2.2.1 a u p0 t ht) (can_V (q0 := 15) o rfl rfl hd (Nat.le_of_ble_eq_true rfl) m_1282 m_56 m_1280 m_1281 hlk yk_X2_outputAt rfl hr hk dg) sp_WM (fun E h => by cases h) (fun r h => by cases h; exact kk)
theorem k_X2_parse_W {x : Cx} {cc : ByteArray} {nL : Nat} {own : String} {d mc ms k n : Nat} {lv : List (Nat × Value)} {pc i : Nat} {rest : List Value} {xa b c : Nat → Nat} {xu v w : St} {oa : Nat} {f : Nat → Int64} {a : Nat → Nat} {u : St} (o : Ok x cc nL own d mc ms) {t : Int32 × St} (ht : f_X2_parse u = some t) (hlk : Cond.methodLink own i yX2_parse ∈ Ug) (hd : 1 < d) (hr : (rest.map fun v => v.category).sum ≤ 8) (hk : k + 0 ≤ mc ∧ n + 0 ≤ ms) (dg : decode cc pc = .ok (.invokevirtual i, 3)) (kk : G x nL (k + 0) (n + 0) (wLw xa xu b v c w a t.2 oa f (cxT x)) lv (pc + 3) (.int t.1 :: rest)) : G x nL k n (wLw xa xu b v c w a u oa f (cxT x)) lv pc (.ref (a 0) :: rest) := gcI (wd2 := (wLw xa xu b v c w a t.2 oa f (cxT x))) o (c_X2_parse (cxl x) o.2.2.2.2.2.2.2.2.2.1 a u t ht) (can_V (q0 := 15) o rfl rfl hd (Nat.le_of_ble_eq_true rfl) m_1262 m_56 m_1260 m_1261 hlk yk_X2_parse rfl hr hk dg) sp_WM (fun E h => by cases h) (fun r h => by cases h; exact kk)
theorem k_X2_polymorphism_W {x : Cx} {cc : ByteArray} {nL : Nat} {own : String} {d mc ms k n : Nat} {lv : List (Nat × Value)} {pc i : Nat} {rest : List Value} {xa b c : Nat → Nat} {xu v w : St} {oa : Nat} {f : Nat → Int64} {a : Nat → Nat} {u : St} {p0 : Int32} {p1 : Int32} (o : Ok x cc nL own d mc ms) {t : Int32 × St} (ht : f_X2_polymorphism u p0 p1 = some t) (hlk : Cond.methodLink own i yX2_polymorphism ∈ Ug) (hd : 4 < d) (hr : (rest.map fun v => v.category).sum ≤ 8) (hk : k + 0 ≤ mc ∧ n + 0 ≤ ms) (dg : decode cc pc = .ok (.invokevirtual i, 3)) (kk : G x nL (k + 0) (n + 0) (wLw xa xu b v c w a t.2 oa f (cxT x)) lv (pc + 3) (.int t.1 :: rest)) : G x nL k n (wLw xa xu b v c w a u oa f (cxT x)) lv pc (.int p1 :: .int p0 :: .ref (a 0) :: rest) := gcI (wd2 := (wLw xa xu b v c w a t.2 oa f (cxT x))) o (c_X2_polymorphism (cxl x) o.2.2.2.2.2.2.2.2.2.1 a u p0 p1 t ht) (can_V (q0 := 15) o rfl rfl hd (Nat.le_of_ble_eq_true rfl) m_1119 m_56 m_1117 m_1118 hlk yk_X2_polymorphism rfl hr hk dg) sp_WM (fun E h => by cases h) (fun r h => by cases h; exact kk)
theorem k_X2_polymorphismCount_W {x : Cx} {cc : ByteArray} {nL : Nat} {own : String} {d mc ms k n : Nat} {lv : List (Nat × Value)} {pc i : Nat} {rest : List Value} {xa b c : Nat → Nat} {xu v w : St} {oa : Nat} {f : Nat → Int64} {a : Nat → Nat} {u : St} {p0 : Int32} (o : Ok x cc nL own d mc ms) {t : Int32 × St} (ht : f_X2_polymorphismCount u p0 = some t) (hlk : Cond.methodLink own i yX2_polymorphismCount ∈ Ug) (hd : 4 < d) (hr : (rest.map fun v => v.category).sum ≤ 8) (hk : k + 0 ≤ mc ∧ n + 0 ≤ ms) (dg : decode cc pc = .ok (.invokevirtual i, 3)) (kk : G x nL (k + 0) (n + 0) (wLw xa xu b v c w a t.2 oa f (cxT x)) lv (pc + 3) (.int t.1 :: rest)) : G x nL k n (wLw xa xu b v c w a u oa f (cxT x)) lv pc (.int p0 :: .ref (a 0) :: rest) := gcI (wd2 := (wLw xa xu b v c w a t.2 oa f (cxT x))) o (c_X2_polymorphismCount (cxl x) o.2.2.2.2.2.2.2.2.2.1 a u p0 t ht) (can_V (q0 := 15) o rfl rfl hd (Nat.le_of_ble_eq_true rfl) m_1115 m_56 m_1113 m_1114 hlk yk_X2_polymorphismCount rfl hr hk dg) sp_WM (fun E h => by cases h) (fun r h => by cases h; exact kk)
theorem k_X2_preserves_W {x : Cx} {cc : ByteArray} {nL : Nat} {own : String} {d mc ms k n : Nat} {lv : List (Nat × Value)} {pc i : Nat} {rest : List Value} {xa b c : Nat → Nat} {xu v w : St} {oa : Nat} {f : Nat → Int64} {a : Nat → Nat} {u : St} {p0 : Int32} {p1 : Int32} {p2 : Int32} (o : Ok x cc nL own d mc ms) {t : Int32 × St} (ht : f_X2_preserves u p0 p1 p2 = some t) (hlk : Cond.methodLink own i yX2_preserves ∈ Ug) (hd : 3 < d) (hr : (rest.map fun v => v.category).sum ≤ 8) (hk : k + 0 ≤ mc ∧ n + 0 ≤ ms) (dg : decode cc pc = .ok (.invokevirtual i, 3)) (kk : G x nL (k + 0) (n + 0) (wLw xa xu b v c w a t.2 oa f (cxT x)) lv (pc + 3) (.int t.1 :: rest)) : G x nL k n (wLw xa xu b v c w a u oa f (cxT x)) lv pc (.int p2 :: .int p1 :: .int p0 :: .ref (a 0) :: rest) := gcI (wd2 := (wLw xa xu b v c w a t.2 oa f (cxT x))) o (c_X2_preserves (cxl x) o.2.2.2.2.2.2.2.2.2.1 a u p0 p1 p2 t ht) (can_V (q0 := 15) o rfl rfl hd (Nat.le_of_ble_eq_true rfl) m_1092 m_56 m_1090 m_1091 hlk yk_X2_preserves rfl hr hk dg) sp_WM (fun E h => by cases h) (fun r h => by cases h; exact kk)
theorem k_X2_projectedArgument_W {x : Cx} {cc : ByteArray} {nL : Nat} {own : String} {d mc ms k n : Nat} {lv : List (Nat × Value)} {pc i : Nat} {rest : List Value} {xa b c : Nat → Nat} {xu v w : St} {oa : Nat} {f : Nat → Int64} {a : Nat → Nat} {u : St} {p0 : Int32} {p1 : Int32} (o : Ok x cc nL own d mc ms) {t : Int32 × St} (ht : f_X2_projectedArgument u p0 p1 = some t) (hlk : Cond.methodLink own i yX2_projectedArgument ∈ Ug) (hd : 2 < d) (hr : (rest.map fun v => v.category).sum ≤ 8) (hk : k + 0 ≤ mc ∧ n + 0 ≤ ms) (dg : decode cc pc = .ok (.invokevirtual i, 3)) (kk : G x nL (k + 0) (n + 0) (wLw xa xu b v c w a t.2 oa f (cxT x)) lv (pc + 3) (.int t.1 :: rest)) : G x nL k n (wLw xa xu b v c w a u oa f (cxT x)) lv pc (.int p1 :: .int p0 :: .ref (a 0) :: rest) := gcI (wd2 := (wLw xa xu b v c w a t.2 oa f (cxT x))) o (c_X2_projectedArgument (cxl x) o.2.2.2.2.2.2.2.2.2.1 a u p0 p1 t ht) (can_V (q0 := 15) o rfl rfl hd (Nat.le_of_ble_eq_true rfl) m_1131 m_56 m_1129 m_1130 hlk yk_X2_projectedArgument rfl hr hk dg) sp_WM (fun E h => by cases h) (fun r h => by cases h; exact kk)
theorem k_X2_relationCount_W {x : Cx} {cc : ByteArray} {nL : Nat} {own : String} {d mc ms k n : Nat} {lv : List (Nat × Value)} {pc i : Nat} {rest : List Value} {xa b c : Nat → Nat} {xu v w : St} {oa : Nat} {f : Nat → Int64} {a : Nat → Nat} {u : St} (o : Ok x cc nL own d mc ms) {t : Int32 × St} (ht : f_X2_relationCount u = some t) (hlk : Cond.methodLink own i yX2_relationCount ∈ Ug) (hd : 0 < d) (hr : (rest.map fun v => v.category).sum ≤ 8) (hk : k + 0 ≤ mc ∧ n + 0 ≤ ms) (dg : decode cc pc = .ok (.invokevirtual i, 3)) (kk : G x nL (k + 0) (n + 0) (wLw xa xu b v c w a t.2 oa f (cxT x)) lv (pc + 3) (.int t.1 :: rest)) : G x nL k n (wLw xa xu b v c w a u oa f (cxT x)) lv pc (.ref (a 0) :: rest) := gcI (wd2 := (wLw xa xu b v c w a t.2 oa f (cxT x))) o (c_X2_relationCount (cxl x) o.2.2.2.2.2.2.2.2.2.1 a u t ht) (can_V (q0 := 15) o rfl rfl hd (Nat.le_of_ble_eq_true rfl) m_1054 m_56 m_1052 m_1053 hlk yk_X2_relationCount rfl hr hk dg) sp_WM (fun E h => by cases h) (fun r h => by cases h; exact kk)
theorem k_X2_relationHasKind_W {x : Cx} {cc : ByteArray} {nL : Nat} {own : String} {d mc ms k n : Nat} {lv : List (Nat × Value)} {pc i : Nat} {rest : List Value} {xa b c : Nat → Nat} {xu v w : St} {oa : Nat} {f : Nat → Int64} {a : Nat → Nat} {u : St} {p0 : Int32} {p1 : Int32} (o : Ok x cc nL own d mc ms) {t : Int32 × St} (ht : f_X2_relationHasKind u p0 p1 = some t) (hlk : Cond.methodLink own i yX2_relationHasKind ∈ Ug) (hd : 3 < d) (hr : (rest.map fun v => v.category).sum ≤ 8) (hk : k + 0 ≤ mc ∧ n + 0 ≤ ms) (dg : decode cc pc = .ok (.invokevirtual i, 3)) (kk : G x nL (k + 0) (n + 0) (wLw xa xu b v c w a t.2 oa f (cxT x)) lv (pc + 3) (.int t.1 :: rest)) : G x nL k n (wLw xa xu b v c w a u oa f (cxT x)) lv pc (.int p1 :: .int p0 :: .ref (a 0) :: rest) := gcI (wd2 := (wLw xa xu b v c w a t.2 oa f (cxT x))) o (c_X2_relationHasKind (cxl x) o.2.2.2.2.2.2.2.2.2.1 a u p0 p1 t ht) (can_V (q0 := 15) o rfl rfl hd (Nat.le_of_ble_eq_true rfl) m_1154 m_56 m_1152 m_1153 hlk yk_X2_relationHasKind rfl hr hk dg) sp_WM (fun E h => by cases h) (fun r h => by cases h; exact kk)
theorem k_X2_removeLastConstraint_W {x : Cx} {cc : ByteArray} {nL : Nat} {own : String} {d mc ms k n : Nat} {lv : List (Nat × Value)} {pc i : Nat} {rest : List Value} {xa b c : Nat → Nat} {xu v w : St} {oa : Nat} {f : Nat → Int64} {a : Nat → Nat} {u : St} (o : Ok x cc nL own d mc ms) {t : Int32 × St} (ht : f_X2_removeLastConstraint u = some t) (hlk : Cond.methodLink own i yX2_removeLastConstraint ∈ Ug) (hd : 1 < d) (hr : (rest.map fun v => v.category).sum ≤ 8) (hk : k + 0 ≤ mc ∧ n + 0 ≤ ms) (dg : decode cc pc = .ok (.invokevirtual i, 3)) (kk : G x nL (k + 0) (n + 0) (wLw xa xu b v c w a t.2 oa f (cxT x)) lv (pc + 3) (.int t.1 :: rest)) : G x nL k n (wLw xa xu b v c w a u oa f (cxT x)) lv pc (.ref (a 0) :: rest) := gcI (wd2 := (wLw xa xu b v c w a t.2 oa f (cxT x))) o (c_X2_removeLastConstraint (cxl x) o.2.2.2.2.2.2.2.2.2.1 a u t ht) (can_V (q0 := 15) o rfl rfl hd (Nat.le_of_ble_eq_true rfl) m_1190 m_56 m_1188 m_1189 hlk yk_X2_removeLastConstraint rfl hr hk dg) sp_WM (fun E h => by cases h) (fun r h => by cases h; exact kk)
theorem k_X2_removeRedundant_W {x : Cx} {cc : ByteArray} {nL : Nat} {own : String} {d mc ms k n : Nat} {lv : List (Nat × Value)} {pc i : Nat} {rest : List Value} {xa b c : Nat → Nat} {xu v w : St} {oa : Nat} {f : Nat → Int64} {a : Nat → Nat} {u : St} (o : Ok x cc nL own d mc ms) {t : Int32 × St} (ht : f_X2_removeRedundant u = some t) (hlk : Cond.methodLink own i yX2_removeRedundant ∈ Ug) (hd : 3 < d) (hr : (rest.map fun v => v.category).sum ≤ 8) (hk : k + 0 ≤ mc ∧ n + 0 ≤ ms) (dg : decode cc pc = .ok (.invokevirtual i, 3)) (kk : G x nL (k + 0) (n + 0) (wLw xa xu b v c w a t.2 oa f (cxT x)) lv (pc + 3) (.int t.1 :: rest)) : G x nL k n (wLw xa xu b v c w a u oa f (cxT x)) lv pc (.ref (a 0) :: rest) := gcI (wd2 := (wLw xa xu b v c w a t.2 oa f (cxT x))) o (c_X2_removeRedundant (cxl x) o.2.2.2.2.2.2.2.2.2.1 a u t ht) (can_V (q0 := 15) o rfl rfl hd (Nat.le_of_ble_eq_true rfl) m_1254 m_56 m_1252 m_1253 hlk yk_X2_removeRedundant rfl hr hk dg) sp_WM (fun E h => by cases h) (fun r h => by cases h; exact kk)
theorem k_X2_removeTuple_W {x : Cx} {cc : ByteArray} {nL : Nat} {own : String} {d mc ms k n : Nat} {lv : List (Nat × Value)} {pc i : Nat} {rest : List Value} {xa b c : Nat → Nat} {xu v w : St} {oa : Nat} {f : Nat → Int64} {a : Nat → Nat} {u : St} {p0 : Int32} {p1 : Int32} (o : Ok x cc nL own d mc ms) {t : Int32 × St} (ht : f_X2_removeTuple u p0 p1 = some t) (hlk : Cond.methodLink own i yX2_removeTuple ∈ Ug) (hd : 2 < d) (hr : (rest.map fun v => v.category).sum ≤ 8) (hk : k + 0 ≤ mc ∧ n + 0 ≤ ms) (dg : decode cc pc = .ok (.invokevirtual i, 3)) (kk : G x nL (k + 0) (n + 0) (wLw xa xu b v c w a t.2 oa f (cxT x)) lv (pc + 3) (.int t.1 :: rest)) : G x nL k n (wLw xa xu b v c w a u oa f (cxT x)) lv pc (.int p1 :: .int p0 :: .ref (a 0) :: rest) := gcI (wd2 := (wLw xa xu b v c w a t.2 oa f (cxT x))) o (c_X2_removeTuple (cxl x) o.2.2.2.2.2.2.2.2.2.1 a u p0 p1 t ht) (can_V (q0 := 15) o rfl rfl hd (Nat.le_of_ble_eq_true rfl) m_1038 m_56 m_1036 m_1037 hlk yk_X2_removeTuple rfl hr hk dg) sp_WM (fun E h => by cases h) (fun r h => by cases h; exact kk)
theorem k_X2_restoreSnapshot_W {x : Cx} {cc : ByteArray} {nL : Nat} {own : String} {d mc ms k n : Nat} {lv : List (Nat × Value)} {pc i : Nat} {rest : List Value} {xa b c : Nat → Nat} {xu v w : St} {oa : Nat} {f : Nat → Int64} {a : Nat → Nat} {u : St} (o : Ok x cc nL own d mc ms) {t : Int32 × St} (ht : f_X2_restoreSnapshot u = some t) (hlk : Cond.methodLink own i yX2_restoreSnapshot ∈ Ug) (hd : 3 < d) (hr : (rest.map fun v => v.category).sum ≤ 8) (hk : k + 0 ≤ mc ∧ n + 0 ≤ ms) (dg : decode cc pc = .ok (.invokevirtual i, 3)) (kk : G x nL (k + 0) (n + 0) (wLw xa xu b v c w a t.2 oa f (cxT x)) lv (pc + 3) (.int t.1 :: rest)) : G x nL k n (wLw xa xu b v c w a u oa f (cxT x)) lv pc (.ref (a 0) :: rest) := gcI (wd2 := (wLw xa xu b v c w a t.2 oa f (cxT x))) o (c_X2_restoreSnapshot (cxl x) o.2.2.2.2.2.2.2.2.2.1 a u t ht) (can_V (q0 := 15) o rfl rfl hd (Nat.le_of_ble_eq_true rfl) m_1317 m_56 m_1315 m_1316 hlk yk_X2_restoreSnapshot rfl hr hk dg) sp_WM (fun E h => by cases h) (fun r h => by cases h; exact kk)
theorem k_X2_saveSnapshot_W {x : Cx} {cc : ByteArray} {nL : Nat} {own : String} {d mc ms k n : Nat} {lv : List (Nat × Value)} {pc i : Nat} {rest : List Value} {xa b c : Nat → Nat} {xu v w : St} {oa : Nat} {f : Nat → Int64} {a : Nat → Nat} {u : St} (o : Ok x cc nL own d mc ms) {t : Int32 × St} (ht : f_X2_saveSnapshot u = some t) (hlk : Cond.methodLink own i yX2_saveSnapshot ∈ Ug) (hd : 3 < d) (hr : (rest.map fun v => v.category).sum ≤ 8) (hk : k + 0 ≤ mc ∧ n + 0 ≤ ms) (dg : decode cc pc = .ok (.invokevirtual i, 3)) (kk : G x nL (k + 0) (n + 0) (wLw xa xu b v c w a t.2 oa f (cxT x)) lv (pc + 3) (.int t.1 :: rest)) : G x nL k n (wLw xa xu b v c w a u oa f (cxT x)) lv pc (.ref (a 0) :: rest) := gcI (wd2 := (wLw xa xu b v c w a t.2 oa f (cxT x))) o (c_X2_saveSnapshot (cxl x) o.2.2.2.2.2.2.2.2.2.1 a u t ht) (can_V (q0 := 15) o rfl rfl hd (Nat.le_of_ble_eq_true rfl) m_1301 m_56 m_1299 m_1300 hlk yk_X2_saveSnapshot rfl hr hk dg) sp_WM (fun E h => by cases h) (fun r h => by cases h; exact kk)
theorem k_X2_setFlag_W {x : Cx} {cc : ByteArray} {nL : Nat} {own : String} {d mc ms k n : Nat} {lv : List (Nat × Value)} {pc i : Nat} {rest : List Value} {xa b c : Nat → Nat} {xu v w : St} {oa : Nat} {f : Nat → Int64} {a : Nat → Nat} {u : St} {p0 : Int32} {p1 : Int32} {p2 : Int32} (o : Ok x cc nL own d mc ms) {t : Int32 × St} (ht : f_X2_setFlag u p0 p1 p2 = some t) (hlk : Cond.methodLink own i yX2_setFlag ∈ Ug) (hd : 1 < d) (hr : (rest.map fun v => v.category).sum ≤ 8) (hk : k + 0 ≤ mc ∧ n + 0 ≤ ms) (dg : decode cc pc = .ok (.invokevirtual i, 3)) (kk : G x nL (k + 0) (n + 0) (wLw xa xu b v c w a t.2 oa f (cxT x)) lv (pc + 3) (.int t.1 :: rest)) : G x nL k n (wLw xa xu b v c w a u oa f (cxT x)) lv pc (.int p2 :: .int p1 :: .int p0 :: .ref (a 0) :: rest) := gcI (wd2 := (wLw xa xu b v c w a t.2 oa f (cxT x))) o (c_X2_setFlag (cxl x) o.2.2.2.2.2.2.2.2.2.1 a u p0 p1 p2 t ht) (can_V (q0 := 15) o rfl rfl hd (Nat.le_of_ble_eq_true rfl) m_1293 m_56 m_1291 m_1292 hlk yk_X2_setFlag rfl hr hk dg) sp_WM (fun E h => by cases h) (fun r h => by cases h; exact kk)
theorem k_X2_setVariables_W {x : Cx} {cc : ByteArray} {nL : Nat} {own : String} {d mc ms k n : Nat} {lv : List (Nat × Value)} {pc i : Nat} {rest : List Value} {xa b c : Nat → Nat} {xu v w : St} {oa : Nat} {f : Nat → Int64} {a : Nat → Nat} {u : St} {p0 : Int32} (o : Ok x cc nL own d mc ms) {t : Int32 × St} (ht : f_X2_setVariables u p0 = some t) (hlk : Cond.methodLink own i yX2_setVariables ∈ Ug) (hd : 1 < d) (hr : (rest.map fun v => v.category).sum ≤ 8) (hk : k + 0 ≤ mc ∧ n + 0 ≤ ms) (dg : decode cc pc = .ok (.invokevirtual i, 3)) (kk : G x nL (k + 0) (n + 0) (wLw xa xu b v c w a t.2 oa f (cxT x)) lv (pc + 3) (.int t.1 :: rest)) : G x nL k n (wLw xa xu b v c w a u oa f (cxT x)) lv pc (.int p0 :: .ref (a 0) :: rest) := gcI (wd2 := (wLw xa xu b v c w a t.2 oa f (cxT x))) o (c_X2_setVariables (cxl x) o.2.2.2.2.2.2.2.2.2.1 a u p0 t ht) (can_V (q0 := 15) o rfl rfl hd (Nat.le_of_ble_eq_true rfl) m_1174 m_56 m_1172 m_1173 hlk yk_X2_setVariables rfl hr hk dg) sp_WM (fun E h => by cases h) (fun r h => by cases h; exact kk)
theorem k_X2_solution_W {x : Cx} {cc : ByteArray} {nL : Nat} {own : String} {d mc ms k n : Nat} {lv : List (Nat × Value)} {pc i : Nat} {rest : List Value} {xa b c : Nat → Nat} {xu v w : St} {oa : Nat} {f : Nat → Int64} {a : Nat → Nat} {u : St} {p0 : Int32} (o : Ok x cc nL own d mc ms) {t : Int32 × St} (ht : f_X2_solution u p0 = some t) (hlk : Cond.methodLink own i yX2_solution ∈ Ug) (hd : 2 < d) (hr : (rest.map fun v => v.category).sum ≤ 8) (hk : k + 0 ≤ mc ∧ n + 0 ≤ ms) (dg : decode cc pc = .ok (.invokevirtual i, 3)) (kk : G x nL (k + 0) (n + 0) (wLw xa xu b v c w a t.2 oa f (cxT x)) lv (pc + 3) (.int t.1 :: rest)) : G x nL k n (wLw xa xu b v c w a u oa f (cxT x)) lv pc (.int p0 :: .ref (a 0) :: rest) := gcI (wd2 := (wLw xa xu b v c w a t.2 oa f (cxT x))) o (c_X2_solution (cxl x) o.2.2.2.2.2.2.2.2.2.1 a u p0 t ht) (can_V (q0 := 15) o rfl rfl hd (Nat.le_of_ble_eq_true rfl) m_1210 m_56 m_1208 m_1209 hlk yk_X2_solution rfl hr hk dg) sp_WM (fun E h => by cases h) (fun r h => by cases h; exact kk)
theorem k_X2_solutionCount_W {x : Cx} {cc : ByteArray} {nL : Nat} {own : String} {d mc ms k n : Nat} {lv : List (Nat × Value)} {pc i : Nat} {rest : List Value} {xa b c : Nat → Nat} {xu v w : St} {oa : Nat} {f : Nat → Int64} {a : Nat → Nat} {u : St} (o : Ok x cc nL own d mc ms) {t : Int32 × St} (ht : f_X2_solutionCount u = some t) (hlk : Cond.methodLink own i yX2_solutionCount ∈ Ug) (hd : 3 < d) (hr : (rest.map fun v => v.category).sum ≤ 8) (hk : k + 0 ≤ mc ∧ n + 0 ≤ ms) (dg : decode cc pc = .ok (.invokevirtual i, 3)) (kk : G x nL (k + 0) (n + 0) (wLw xa xu b v c w a t.2 oa f (cxT x)) lv (pc + 3) (.int t.1 :: rest)) : G x nL k n (wLw xa xu b v c w a u oa f (cxT x)) lv pc (.ref (a 0) :: rest) := gcI (wd2 := (wLw xa xu b v c w a t.2 oa f (cxT x))) o (c_X2_solutionCount (cxl x) o.2.2.2.2.2.2.2.2.2.1 a u t ht) (can_V (q0 := 15) o rfl rfl hd (Nat.le_of_ble_eq_true rfl) m_1194 m_56 m_1192 m_1193 hlk yk_X2_solutionCount rfl hr hk dg) sp_WM (fun E h => by cases h) (fun r h => by cases h; exact kk)
theorem k_X2_storeFlags_W {x : Cx} {cc : ByteArray} {nL : Nat} {own : String} {d mc ms k n : Nat} {lv : List (Nat × Value)} {pc i : Nat} {rest : List Value} {xa b c : Nat → Nat} {xu v w : St} {oa : Nat} {f : Nat → Int64} {a : Nat → Nat} {u : St} {p0 : Int32} {p1 : Int32} {p2 : Int32} (o : Ok x cc nL own d mc ms) {t : Int32 × St} (ht : f_X2_storeFlags u p0 p1 p2 = some t) (hlk : Cond.methodLink own i yX2_storeFlags ∈ Ug) (hd : 1 < d) (hr : (rest.map fun v => v.category).sum ≤ 8) (hk : k + 0 ≤ mc ∧ n + 0 ≤ ms) (dg : decode cc pc = .ok (.invokevirtual i, 3)) (kk : G x nL (k + 0) (n + 0) (wLw xa xu b v c w a t.2 oa f (cxT x)) lv (pc + 3) (.int t.1 :: rest)) : G x nL k n (wLw xa xu b v c w a u oa f (cxT x)) lv pc (.int p2 :: .int p1 :: .int p0 :: .ref (a 0) :: rest) := gcI (wd2 := (wLw xa xu b v c w a t.2 oa f (cxT x))) o (c_X2_storeFlags (cxl x) o.2.2.2.2.2.2.2.2.2.1 a u p0 p1 p2 t ht) (can_V (q0 := 15) o rfl rfl hd (Nat.le_of_ble_eq_true rfl) m_1286 m_56 m_1284 m_1285 hlk yk_X2_storeFlags rfl hr hk dg) sp_WM (fun E h => by cases h) (fun r h => by cases h; exact kk)
theorem k_X2_takeFlags_W {x : Cx} {cc : ByteArray} {nL : Nat} {own : String} {d mc ms k n : Nat} {lv : List (Nat × Value)} {pc i : Nat} {rest : List Value} {xa b c : Nat → Nat} {xu v w : St} {oa : Nat} {f : Nat → Int64} {a : Nat → Nat} {u : St} {p0 : Int32} {p1 : Int32} (o : Ok x cc nL own d mc ms) {t : Int32 × St} (ht : f_X2_takeFlags u p0 p1 = some t) (hlk : Cond.methodLink own i yX2_takeFlags ∈ Ug) (hd : 1 < d) (hr : (rest.map fun v => v.category).sum ≤ 8) (hk : k + 0 ≤ mc ∧ n + 0 ≤ ms) (dg : decode cc pc = .ok (.invokevirtual i, 3)) (kk : G x nL (k + 0) (n + 0) (wLw xa xu b v c w a t.2 oa f (cxT x)) lv (pc + 3) (.int t.1 :: rest)) : G x nL k n (wLw xa xu b v c w a u oa f (cxT x)) lv pc (.int p1 :: .int p0 :: .ref (a 0) :: rest) := gcI (wd2 := (wLw xa xu b v c w a t.2 oa f (cxT x))) o (c_X2_takeFlags (cxl x) o.2.2.2.2.2.2.2.2.2.1 a u p0 p1 t ht) (can_V (q0 := 15) o rfl rfl hd (Nat.le_of_ble_eq_true rfl) m_1297 m_56 m_1295 m_1296 hlk yk_X2_takeFlags rfl hr hk dg) sp_WM (fun E h => by cases h) (fun r h => by cases h; exact kk)
theorem k_X2_thrown_W {x : Cx} {cc : ByteArray} {nL : Nat} {own : String} {d mc ms k n : Nat} {lv : List (Nat × Value)} {pc i : Nat} {rest : List Value} {xa b c : Nat → Nat} {xu v w : St} {oa : Nat} {f : Nat → Int64} {a : Nat → Nat} {u : St} (o : Ok x cc nL own d mc ms) {t : Int32} (ht : f_X2_thrown u = some t) (hlk : Cond.methodLink own i yX2_thrown ∈ Ug) (hd : 0 < d) (hr : (rest.map fun v => v.category).sum ≤ 8) (hk : k + 0 ≤ mc ∧ n + 0 ≤ ms) (dg : decode cc pc = .ok (.invokevirtual i, 3)) (kk : G x nL (k + 0) (n + 0) (wLw xa xu b v c w a u oa f (cxT x)) lv (pc + 3) (.int t :: rest)) : G x nL k n (wLw xa xu b v c w a u oa f (cxT x)) lv pc (.ref (a 0) :: rest) := gcI (wd2 := (wLw xa xu b v c w a u oa f (cxT x))) o (c_X2_thrown (cxl x) o.2.2.2.2.2.2.2.2.2.1 a u t ht) (can_V (q0 := 15) o rfl rfl hd (Nat.le_of_ble_eq_true rfl) m_987 m_56 m_985 m_986 hlk yk_X2_thrown rfl hr hk dg) sp_WM (fun E h => by cases h) (fun r h => by cases h; exact kk)
theorem k_X2_tupleCount_W {x : Cx} {cc : ByteArray} {nL : Nat} {own : String} {d mc ms k n : Nat} {lv : List (Nat × Value)} {pc i : Nat} {rest : List Value} {xa b c : Nat → Nat} {xu v w : St} {oa : Nat} {f : Nat → Int64} {a : Nat → Nat} {u : St} {p0 : Int32} (o : Ok x cc nL own d mc ms) {t : Int32 × St} (ht : f_X2_tupleCount u p0 = some t) (hlk : Cond.methodLink own i yX2_tupleCount ∈ Ug) (hd : 1 < d) (hr : (rest.map fun v => v.category).sum ≤ 8) (hk : k + 0 ≤ mc ∧ n + 0 ≤ ms) (dg : decode cc pc = .ok (.invokevirtual i, 3)) (kk : G x nL (k + 0) (n + 0) (wLw xa xu b v c w a t.2 oa f (cxT x)) lv (pc + 3) (.int t.1 :: rest)) : G x nL k n (wLw xa xu b v c w a u oa f (cxT x)) lv pc (.int p0 :: .ref (a 0) :: rest) := gcI (wd2 := (wLw xa xu b v c w a t.2 oa f (cxT x))) o (c_X2_tupleCount (cxl x) o.2.2.2.2.2.2.2.2.2.1 a u p0 t ht) (can_V (q0 := 15) o rfl rfl hd (Nat.le_of_ble_eq_true rfl) m_1046 m_56 m_1044 m_1045 hlk yk_X2_tupleCount rfl hr hk dg) sp_WM (fun E h => by cases h) (fun r h => by cases h; exact kk)
theorem k_X2_write_W {x : Cx} {cc : ByteArray} {nL : Nat} {own : String} {d mc ms k n : Nat} {lv : List (Nat × Value)} {pc i : Nat} {rest : List Value} {xa b c : Nat → Nat} {xu v w : St} {oa : Nat} {f : Nat → Int64} {a : Nat → Nat} {u : St} {p0 : Int32} (o : Ok x cc nL own d mc ms) {t : Int32 × St} (ht : f_X2_write u p0 = some t) (hlk : Cond.methodLink own i yX2_write ∈ Ug) (hd : 1 < d) (hr : (rest.map fun v => v.category).sum ≤ 8) (hk : k + 0 ≤ mc ∧ n + 0 ≤ ms) (dg : decode cc pc = .ok (.invokevirtual i, 3)) (kk : G x nL (k + 0) (n + 0) (wLw xa xu b v c w a t.2 oa f (cxT x)) lv (pc + 3) (.int t.1 :: rest)) : G x nL k n (wLw xa xu b v c w a u oa f (cxT x)) lv pc (.int p0 :: .ref (a 0) :: rest) := gcI (wd2 := (wLw xa xu b v c w a t.2 oa f (cxT x))) o (c_X2_write (cxl x) o.2.2.2.2.2.2.2.2.2.1 a u p0 t ht) (can_V (q0 := 15) o rfl rfl hd (Nat.le_of_ble_eq_true rfl) m_1274 m_56 m_1272 m_1273 hlk yk_X2_write rfl hr hk dg) sp_WM (fun E h => by cases h) (fun r h => by cases h; exact kk)
set_option maxRecDepth 20000 in
set_option maxHeartbeats 4000000 in
theorem b_law_c0 {x : Cx} (o : Ok x cL_law 7 RL 100 601024 7293034) {a b c e : Nat → Nat} {oa sb LL : Nat} {xs : Nat → Int32} (hs9 : SF x sb LL xs) {mm : Nat} (r : (Int32 × St × St × St × St × (Nat → Int64)) ⊕ Int32) (hR : ∀ t, r = .inr t → False) (i : Int32) (u v w m : St) (f : Nat → Int64) (ww : (Int32 × St × St × St × St × (Nat → Int64)) ⊕ ((Int32 × St × St × St × St × (Nat → Int64)) ⊕ Int32)) (hf : f_law_c0 xs LL i u v w m f = some ww) (hw : (∃ s2, ww = .inl s2 ∧ (fun (s : Int32 × St × St × St × St × (Nat → Int64)) => ∀ k n : Nat, k + 10 * mm ≤ 601024 → n + 60 * mm ≤ 7293034 → G x 7 k n (wLw a s.2.1 b s.2.2.1 c s.2.2.2.1 e s.2.2.2.2.1 oa s.2.2.2.2.2 (cxT x)) [(0, .ref sb), (1, .ref (a 0)), (2, .ref (e 0)), (3, .ref oa), (4, .int s.1)] 23 []) s2) ∨ ww = .inr r) {k n : Nat} (hk : k + 10 * (mm + 1) ≤ 601024) (hn : n + 60 * (mm + 1) ≤ 7293034) : G x 7 k n (wLw a u b v c w e m oa f (cxT x)) [(0, .ref sb), (1, .ref (a 0)), (2, .ref (e 0)), (3, .ref oa), (4, .int i)] 272 [] := by
  unfold f_law_c0 at hf
  refine g_aload_n o 1 rfl rfl dL_law_272 ?_
  refine g_aload_n o 0 rfl rfl dL_law_273 ?_
  refine g_iload o 4 rfl dL_law_274 ?_
  refine g_iconst o ic_1 dL_law_276 ?_
  refine g_iadd o dL_law_277 ?_
  refine g_sld o hs9 dL_law_278 hf (fun hf => ?_)
  refine g_aload_n o 3 rfl rfl dL_law_279 ?_
  obtain ⟨r4, hr4, hf⟩ := bd_some hf
  refine k_L_addRelation_W o hr4 m_229 (Nat.le_of_ble_eq_true rfl) (Nat.le_of_ble_eq_true rfl) ⟨by omega, by omega⟩ dL_law_280 ?_
  refine g_istore o [(5, .int r4.1), (0, .ref sb), (1, .ref (a 0)), (2, .ref (e 0)), (3, .ref oa), (4, .int i)] (Nat.le_of_ble_eq_true rfl) rfl dL_law_283 ?_
  refine g_aload_n o 3 rfl rfl dL_law_285 ?_
  refine g_aload_n o 1 rfl rfl dL_law_286 ?_
  refine g_iload o 5 rfl dL_law_287 ?_
  refine g_iconst o ic_1 dL_law_289 ?_
  refine g_iadd o dL_law_290 ?_
  refine g_sld o hs9 dL_law_291 hf (fun hf => ?_)
  obtain ⟨r5, hr5, hf⟩ := bd_some hf
  refine k_X2_addRelation_W o hr5 m_988 (Nat.le_of_ble_eq_true rfl) (Nat.le_of_ble_eq_true rfl) ⟨by omega, by omega⟩ dL_law_292 ?_
  refine g_istore o [(6, .int r5.1), (5, .int r4.1), (0, .ref sb), (1, .ref (a 0)), (2, .ref (e 0)), (3, .ref oa), (4, .int i)] (Nat.le_of_ble_eq_true rfl) rfl dL_law_295 ?_
  refine g_aload_n o 4 rfl rfl dL_law_297 ?_
  obtain ⟨r6, hr6, hf⟩ := bd_some hf
  refine k_X2_thrown_W o hr6 m_984 (Nat.le_of_ble_eq_true rfl) (Nat.le_of_ble_eq_true rfl) ⟨by omega, by omega⟩ dL_law_298 ?_
  refine g_iload o 1 rfl dL_law_301 ?_
  refine g_ic_eq (tgt := 308) o rfl dL_law_303 hf (fun hc hf => ?_) (fun hc hf => ?_)
  · refine g_iload o 1 rfl dL_law_308 ?_
    refine g_if_ne (tgt := 325) o rfl dL_law_310 hf (fun hc hf => ?_) (fun hc hf => ?_)
    · refine g_goto (tgt := 3660) o rfl dL_law_325 ?_
      refine g_iinc o [(4, .int (i + 6)), (6, .int r5.1), (5, .int r4.1), (0, .ref sb), (1, .ref (a 0)), (2, .ref (e 0)), (3, .ref oa)] 6 rfl (inc_6 _) (Nat.le_of_ble_eq_true rfl) rfl dL_law_3660 ?_
      refine g_goto (tgt := 23) o rfl dL_law_3663 ?_
      have hp := lf_c hf hw
      exact g_perm [3, 4, 5, 6, 0] rfl (hp _ _ (by omega) (by omega))
    · refine g_aload_n o 5 rfl rfl dL_law_313 ?_
      refine g_iconst o ic_0 dL_law_314 ?_
      refine W_old o dL_law_315 hf (fun hf => ?_)
      refine g_iload o 0 rfl dL_law_316 ?_
      refine g_i2l o dL_law_318 ?_
      refine g_lcmp o dL_law_319 ?_
      refine g_if_eq (tgt := 325) o rfl dL_law_320 hf (fun hc hf => ?_) (fun hc hf => ?_)
      · refine g_goto (tgt := 3660) o rfl dL_law_325 ?_
        refine g_iinc o [(4, .int (i + 6)), (6, .int r5.1), (5, .int r4.1), (0, .ref sb), (1, .ref (a 0)), (2, .ref (e 0)), (3, .ref oa)] 6 rfl (inc_6 _) (Nat.le_of_ble_eq_true rfl) rfl dL_law_3660 ?_
        refine g_goto (tgt := 23) o rfl dL_law_3663 ?_
        have hp := lf_c hf hw
        exact g_perm [3, 4, 5, 6, 0] rfl (hp _ _ (by omega) (by omega))
      · refine g_iconst o ic_0 dL_law_323 ?_
        exact (hR _ (lf_x hf hw)).elim
  · refine g_iconst o ic_0 dL_law_306 ?_
    exact (hR _ (lf_x hf hw)).elim
set_option maxRecDepth 20000 in
set_option maxHeartbeats 4000000 in
theorem b_law_c1 {x : Cx} (o : Ok x cL_law 7 RL 100 601024 7293034) {a b c e : Nat → Nat} {oa sb LL : Nat} {xs : Nat → Int32} (hs9 : SF x sb LL xs) {mm : Nat} (r : (Int32 × St × St × St × St × (Nat → Int64)) ⊕ Int32) (hR : ∀ t, r = .inr t → False) (i : Int32) (u v w m : St) (f : Nat → Int64) (ww : (Int32 × St × St × St × St × (Nat → Int64)) ⊕ ((Int32 × St × St × St × St × (Nat → Int64)) ⊕ Int32)) (hf : f_law_c1 xs LL i u v w m f = some ww) (hw : (∃ s2, ww = .inl s2 ∧ (fun (s : Int32 × St × St × St × St × (Nat → Int64)) => ∀ k n : Nat, k + 10 * mm ≤ 601024 → n + 60 * mm ≤ 7293034 → G x 7 k n (wLw a s.2.1 b s.2.2.1 c s.2.2.2.1 e s.2.2.2.2.1 oa s.2.2.2.2.2 (cxT x)) [(0, .ref sb), (1, .ref (a 0)), (2, .ref (e 0)), (3, .ref oa), (4, .int s.1)] 23 []) s2) ∨ ww = .inr r) {k n : Nat} (hk : k + 10 * (mm + 1) ≤ 601024) (hn : n + 60 * (mm + 1) ≤ 7293034) : G x 7 k n (wLw a u b v c w e m oa f (cxT x)) [(0, .ref sb), (1, .ref (a 0)), (2, .ref (e 0)), (3, .ref oa), (4, .int i)] 328 [] := by
  unfold f_law_c1 at hf
  refine g_aload_n o 1 rfl rfl dL_law_328 ?_
  refine g_aload_n o 0 rfl rfl dL_law_329 ?_
  refine g_iload o 4 rfl dL_law_330 ?_
  refine g_iconst o ic_1 dL_law_332 ?_
  refine g_iadd o dL_law_333 ?_
  refine g_sld o hs9 dL_law_334 hf (fun hf => ?_)
  refine g_aload_n o 0 rfl rfl dL_law_335 ?_
  refine g_iload o 4 rfl dL_law_336 ?_
  refine g_iconst o ic_2 dL_law_338 ?_
  refine g_iadd o dL_law_339 ?_
  refine g_sld o hs9 dL_law_340 hf (fun hf => ?_)
  refine g_aload_n o 3 rfl rfl dL_law_341 ?_
  obtain ⟨r10, hr10, hf⟩ := bd_some hf
  refine k_L_addClause_W o hr10 m_335 (Nat.le_of_ble_eq_true rfl) (Nat.le_of_ble_eq_true rfl) ⟨by omega, by omega⟩ dL_law_342 ?_
  refine g_istore o [(5, .int r10.1), (0, .ref sb), (1, .ref (a 0)), (2, .ref (e 0)), (3, .ref oa), (4, .int i)] (Nat.le_of_ble_eq_true rfl) rfl dL_law_345 ?_
  refine g_aload_n o 3 rfl rfl dL_law_347 ?_
  refine g_aload_n o 1 rfl rfl dL_law_348 ?_
  refine g_iload o 5 rfl dL_law_349 ?_
  refine g_iconst o ic_1 dL_law_351 ?_
  refine g_iadd o dL_law_352 ?_
  refine g_sld o hs9 dL_law_353 hf (fun hf => ?_)
  refine g_aload_n o 1 rfl rfl dL_law_354 ?_
  refine g_iload o 5 rfl dL_law_355 ?_
  refine g_iconst o ic_2 dL_law_357 ?_
  refine g_iadd o dL_law_358 ?_
  refine g_sld o hs9 dL_law_359 hf (fun hf => ?_)
  obtain ⟨r11, hr11, hf⟩ := bd_some hf
  refine k_X2_addClause_W o hr11 m_1003 (Nat.le_of_ble_eq_true rfl) (Nat.le_of_ble_eq_true rfl) ⟨by omega, by omega⟩ dL_law_360 ?_
  refine g_istore o [(6, .int r11.1), (5, .int r10.1), (0, .ref sb), (1, .ref (a 0)), (2, .ref (e 0)), (3, .ref oa), (4, .int i)] (Nat.le_of_ble_eq_true rfl) rfl dL_law_363 ?_
  refine g_aload_n o 4 rfl rfl dL_law_365 ?_
  obtain ⟨r12, hr12, hf⟩ := bd_some hf
  refine k_X2_thrown_W o hr12 m_984 (Nat.le_of_ble_eq_true rfl) (Nat.le_of_ble_eq_true rfl) ⟨by omega, by omega⟩ dL_law_366 ?_
  refine g_iload o 1 rfl dL_law_369 ?_
  refine g_ic_eq (tgt := 376) o rfl dL_law_371 hf (fun hc hf => ?_) (fun hc hf => ?_)
  · refine g_iload o 1 rfl dL_law_376 ?_
    refine g_if_ne (tgt := 393) o rfl dL_law_378 hf (fun hc hf => ?_) (fun hc hf => ?_)
    · refine g_goto (tgt := 3660) o rfl dL_law_393 ?_
      refine g_iinc o [(4, .int (i + 6)), (6, .int r11.1), (5, .int r10.1), (0, .ref sb), (1, .ref (a 0)), (2, .ref (e 0)), (3, .ref oa)] 6 rfl (inc_6 _) (Nat.le_of_ble_eq_true rfl) rfl dL_law_3660 ?_
      refine g_goto (tgt := 23) o rfl dL_law_3663 ?_
      have hp := lf_c hf hw
      exact g_perm [3, 4, 5, 6, 0] rfl (hp _ _ (by omega) (by omega))
    · refine g_aload_n o 5 rfl rfl dL_law_381 ?_
      refine g_iconst o ic_0 dL_law_382 ?_
      refine W_old o dL_law_383 hf (fun hf => ?_)
      refine g_iload o 0 rfl dL_law_384 ?_
      refine g_i2l o dL_law_386 ?_
      refine g_lcmp o dL_law_387 ?_
      refine g_if_eq (tgt := 393) o rfl dL_law_388 hf (fun hc hf => ?_) (fun hc hf => ?_)
      · refine g_goto (tgt := 3660) o rfl dL_law_393 ?_
        refine g_iinc o [(4, .int (i + 6)), (6, .int r11.1), (5, .int r10.1), (0, .ref sb), (1, .ref (a 0)), (2, .ref (e 0)), (3, .ref oa)] 6 rfl (inc_6 _) (Nat.le_of_ble_eq_true rfl) rfl dL_law_3660 ?_
        refine g_goto (tgt := 23) o rfl dL_law_3663 ?_
        have hp := lf_c hf hw
        exact g_perm [3, 4, 5, 6, 0] rfl (hp _ _ (by omega) (by omega))
      · refine g_iconst o ic_0 dL_law_391 ?_
        exact (hR _ (lf_x hf hw)).elim
  · refine g_iconst o ic_0 dL_law_374 ?_
    exact (hR _ (lf_x hf hw)).elim
set_option maxRecDepth 20000 in
set_option maxHeartbeats 4000000 in
theorem b_law_c2 {x : Cx} (o : Ok x cL_law 7 RL 100 601024 7293034) {a b c e : Nat → Nat} {oa sb LL : Nat} {xs : Nat → Int32} (hs9 : SF x sb LL xs) {mm : Nat} (r : (Int32 × St × St × St × St × (Nat → Int64)) ⊕ Int32) (hR : ∀ t, r = .inr t → False) (i : Int32) (u v w m : St) (f : Nat → Int64) (ww : (Int32 × St × St × St × St × (Nat → Int64)) ⊕ ((Int32 × St × St × St × St × (Nat → Int64)) ⊕ Int32)) (hf : f_law_c2 xs LL i u v w m f = some ww) (hw : (∃ s2, ww = .inl s2 ∧ (fun (s : Int32 × St × St × St × St × (Nat → Int64)) => ∀ k n : Nat, k + 10 * mm ≤ 601024 → n + 60 * mm ≤ 7293034 → G x 7 k n (wLw a s.2.1 b s.2.2.1 c s.2.2.2.1 e s.2.2.2.2.1 oa s.2.2.2.2.2 (cxT x)) [(0, .ref sb), (1, .ref (a 0)), (2, .ref (e 0)), (3, .ref oa), (4, .int s.1)] 23 []) s2) ∨ ww = .inr r) {k n : Nat} (hk : k + 10 * (mm + 1) ≤ 601024) (hn : n + 60 * (mm + 1) ≤ 7293034) : G x 7 k n (wLw a u b v c w e m oa f (cxT x)) [(0, .ref sb), (1, .ref (a 0)), (2, .ref (e 0)), (3, .ref oa), (4, .int i)] 396 [] := by
  unfold f_law_c2 at hf
  refine g_aload_n o 1 rfl rfl dL_law_396 ?_
  refine g_aload_n o 0 rfl rfl dL_law_397 ?_
  refine g_iload o 4 rfl dL_law_398 ?_
  refine g_iconst o ic_1 dL_law_400 ?_
  refine g_iadd o dL_law_401 ?_
  refine g_sld o hs9 dL_law_402 hf (fun hf => ?_)
  refine g_aload_n o 0 rfl rfl dL_law_403 ?_
  refine g_iload o 4 rfl dL_law_404 ?_
  refine g_iconst o ic_2 dL_law_406 ?_
  refine g_iadd o dL_law_407 ?_
  refine g_sld o hs9 dL_law_408 hf (fun hf => ?_)
  refine g_aload_n o 3 rfl rfl dL_law_409 ?_
  obtain ⟨r16, hr16, hf⟩ := bd_some hf
  refine k_L_addParity_W o hr16 m_347 (Nat.le_of_ble_eq_true rfl) (Nat.le_of_ble_eq_true rfl) ⟨by omega, by omega⟩ dL_law_410 ?_
  refine g_istore o [(5, .int r16.1), (0, .ref sb), (1, .ref (a 0)), (2, .ref (e 0)), (3, .ref oa), (4, .int i)] (Nat.le_of_ble_eq_true rfl) rfl dL_law_413 ?_
  refine g_aload_n o 3 rfl rfl dL_law_415 ?_
  refine g_aload_n o 1 rfl rfl dL_law_416 ?_
  refine g_iload o 5 rfl dL_law_417 ?_
  refine g_iconst o ic_1 dL_law_419 ?_
  refine g_iadd o dL_law_420 ?_
  refine g_sld o hs9 dL_law_421 hf (fun hf => ?_)
  refine g_aload_n o 1 rfl rfl dL_law_422 ?_
  refine g_iload o 5 rfl dL_law_423 ?_
  refine g_iconst o ic_2 dL_law_425 ?_
  refine g_iadd o dL_law_426 ?_
  refine g_sld o hs9 dL_law_427 hf (fun hf => ?_)
  obtain ⟨r17, hr17, hf⟩ := bd_some hf
  refine k_X2_addParity_W o hr17 m_1013 (Nat.le_of_ble_eq_true rfl) (Nat.le_of_ble_eq_true rfl) ⟨by omega, by omega⟩ dL_law_428 ?_
  refine g_istore o [(6, .int r17.1), (5, .int r16.1), (0, .ref sb), (1, .ref (a 0)), (2, .ref (e 0)), (3, .ref oa), (4, .int i)] (Nat.le_of_ble_eq_true rfl) rfl dL_law_431 ?_
  refine g_aload_n o 4 rfl rfl dL_law_433 ?_
  obtain ⟨r18, hr18, hf⟩ := bd_some hf
  refine k_X2_thrown_W o hr18 m_984 (Nat.le_of_ble_eq_true rfl) (Nat.le_of_ble_eq_true rfl) ⟨by omega, by omega⟩ dL_law_434 ?_
  refine g_iload o 1 rfl dL_law_437 ?_
  refine g_ic_eq (tgt := 444) o rfl dL_law_439 hf (fun hc hf => ?_) (fun hc hf => ?_)
  · refine g_iload o 1 rfl dL_law_444 ?_
    refine g_if_ne (tgt := 461) o rfl dL_law_446 hf (fun hc hf => ?_) (fun hc hf => ?_)
    · refine g_goto (tgt := 3660) o rfl dL_law_461 ?_
      refine g_iinc o [(4, .int (i + 6)), (6, .int r17.1), (5, .int r16.1), (0, .ref sb), (1, .ref (a 0)), (2, .ref (e 0)), (3, .ref oa)] 6 rfl (inc_6 _) (Nat.le_of_ble_eq_true rfl) rfl dL_law_3660 ?_
      refine g_goto (tgt := 23) o rfl dL_law_3663 ?_
      have hp := lf_c hf hw
      exact g_perm [3, 4, 5, 6, 0] rfl (hp _ _ (by omega) (by omega))
    · refine g_aload_n o 5 rfl rfl dL_law_449 ?_
      refine g_iconst o ic_0 dL_law_450 ?_
      refine W_old o dL_law_451 hf (fun hf => ?_)
      refine g_iload o 0 rfl dL_law_452 ?_
      refine g_i2l o dL_law_454 ?_
      refine g_lcmp o dL_law_455 ?_
      refine g_if_eq (tgt := 461) o rfl dL_law_456 hf (fun hc hf => ?_) (fun hc hf => ?_)
      · refine g_goto (tgt := 3660) o rfl dL_law_461 ?_
        refine g_iinc o [(4, .int (i + 6)), (6, .int r17.1), (5, .int r16.1), (0, .ref sb), (1, .ref (a 0)), (2, .ref (e 0)), (3, .ref oa)] 6 rfl (inc_6 _) (Nat.le_of_ble_eq_true rfl) rfl dL_law_3660 ?_
        refine g_goto (tgt := 23) o rfl dL_law_3663 ?_
        have hp := lf_c hf hw
        exact g_perm [3, 4, 5, 6, 0] rfl (hp _ _ (by omega) (by omega))
      · refine g_iconst o ic_0 dL_law_459 ?_
        exact (hR _ (lf_x hf hw)).elim
  · refine g_iconst o ic_0 dL_law_442 ?_
    exact (hR _ (lf_x hf hw)).elim
set_option maxRecDepth 20000 in
set_option maxHeartbeats 4000000 in
theorem b_law_c3 {x : Cx} (o : Ok x cL_law 7 RL 100 601024 7293034) {a b c e : Nat → Nat} {oa sb LL : Nat} {xs : Nat → Int32} (hs9 : SF x sb LL xs) {mm : Nat} (r : (Int32 × St × St × St × St × (Nat → Int64)) ⊕ Int32) (hR : ∀ t, r = .inr t → False) (i : Int32) (u v w m : St) (f : Nat → Int64) (ww : (Int32 × St × St × St × St × (Nat → Int64)) ⊕ ((Int32 × St × St × St × St × (Nat → Int64)) ⊕ Int32)) (hf : f_law_c3 xs LL i u v w m f = some ww) (hw : (∃ s2, ww = .inl s2 ∧ (fun (s : Int32 × St × St × St × St × (Nat → Int64)) => ∀ k n : Nat, k + 10 * mm ≤ 601024 → n + 60 * mm ≤ 7293034 → G x 7 k n (wLw a s.2.1 b s.2.2.1 c s.2.2.2.1 e s.2.2.2.2.1 oa s.2.2.2.2.2 (cxT x)) [(0, .ref sb), (1, .ref (a 0)), (2, .ref (e 0)), (3, .ref oa), (4, .int s.1)] 23 []) s2) ∨ ww = .inr r) {k n : Nat} (hk : k + 10 * (mm + 1) ≤ 601024) (hn : n + 60 * (mm + 1) ≤ 7293034) : G x 7 k n (wLw a u b v c w e m oa f (cxT x)) [(0, .ref sb), (1, .ref (a 0)), (2, .ref (e 0)), (3, .ref oa), (4, .int i)] 464 [] := by
  unfold f_law_c3 at hf
  refine g_aload_n o 1 rfl rfl dL_law_464 ?_
  refine g_aload_n o 0 rfl rfl dL_law_465 ?_
  refine g_iload o 4 rfl dL_law_466 ?_
  refine g_iconst o ic_1 dL_law_468 ?_
  refine g_iadd o dL_law_469 ?_
  refine g_sld o hs9 dL_law_470 hf (fun hf => ?_)
  refine g_aload_n o 0 rfl rfl dL_law_471 ?_
  refine g_iload o 4 rfl dL_law_472 ?_
  refine g_iconst o ic_2 dL_law_474 ?_
  refine g_iadd o dL_law_475 ?_
  refine g_sld o hs9 dL_law_476 hf (fun hf => ?_)
  refine g_aload_n o 3 rfl rfl dL_law_477 ?_
  obtain ⟨r22, hr22, hf⟩ := bd_some hf
  refine k_L_addTuple_W o hr22 m_361 (Nat.le_of_ble_eq_true rfl) (Nat.le_of_ble_eq_true rfl) ⟨by omega, by omega⟩ dL_law_478 ?_
  refine g_istore o [(5, .int r22.1), (0, .ref sb), (1, .ref (a 0)), (2, .ref (e 0)), (3, .ref oa), (4, .int i)] (Nat.le_of_ble_eq_true rfl) rfl dL_law_481 ?_
  refine g_aload_n o 3 rfl rfl dL_law_483 ?_
  refine g_aload_n o 1 rfl rfl dL_law_484 ?_
  refine g_iload o 5 rfl dL_law_485 ?_
  refine g_iconst o ic_1 dL_law_487 ?_
  refine g_iadd o dL_law_488 ?_
  refine g_sld o hs9 dL_law_489 hf (fun hf => ?_)
  refine g_aload_n o 1 rfl rfl dL_law_490 ?_
  refine g_iload o 5 rfl dL_law_491 ?_
  refine g_iconst o ic_2 dL_law_493 ?_
  refine g_iadd o dL_law_494 ?_
  refine g_sld o hs9 dL_law_495 hf (fun hf => ?_)
  obtain ⟨r23, hr23, hf⟩ := bd_some hf
  refine k_X2_addTuple_W o hr23 m_1023 (Nat.le_of_ble_eq_true rfl) (Nat.le_of_ble_eq_true rfl) ⟨by omega, by omega⟩ dL_law_496 ?_
  refine g_istore o [(6, .int r23.1), (5, .int r22.1), (0, .ref sb), (1, .ref (a 0)), (2, .ref (e 0)), (3, .ref oa), (4, .int i)] (Nat.le_of_ble_eq_true rfl) rfl dL_law_499 ?_
  refine g_aload_n o 4 rfl rfl dL_law_501 ?_
  obtain ⟨r24, hr24, hf⟩ := bd_some hf
  refine k_X2_thrown_W o hr24 m_984 (Nat.le_of_ble_eq_true rfl) (Nat.le_of_ble_eq_true rfl) ⟨by omega, by omega⟩ dL_law_502 ?_
  refine g_iload o 1 rfl dL_law_505 ?_
  refine g_ic_eq (tgt := 512) o rfl dL_law_507 hf (fun hc hf => ?_) (fun hc hf => ?_)
  · refine g_iload o 1 rfl dL_law_512 ?_
    refine g_if_ne (tgt := 536) o rfl dL_law_514 hf (fun hc hf => ?_) (fun hc hf => ?_)
    · refine g_goto (tgt := 3660) o rfl dL_law_536 ?_
      refine g_iinc o [(4, .int (i + 6)), (6, .int r23.1), (5, .int r22.1), (0, .ref sb), (1, .ref (a 0)), (2, .ref (e 0)), (3, .ref oa)] 6 rfl (inc_6 _) (Nat.le_of_ble_eq_true rfl) rfl dL_law_3660 ?_
      refine g_goto (tgt := 23) o rfl dL_law_3663 ?_
      have hp := lf_c hf hw
      exact g_perm [3, 4, 5, 6, 0] rfl (hp _ _ (by omega) (by omega))
    · refine g_aload_n o 5 rfl rfl dL_law_517 ?_
      refine g_iconst o ic_0 dL_law_518 ?_
      refine W_old o dL_law_519 hf (fun hf => ?_)
      refine g_iload o 0 rfl dL_law_520 ?_
      refine g_if_eq (tgt := 529) o rfl dL_law_522 hf (fun hc hf => ?_) (fun hc hf => ?_)
      · refine g_lconst o lc_0 dL_law_529 ?_
        refine g_lcmp o dL_law_530 ?_
        refine g_if_eq (tgt := 536) o rfl dL_law_531 hf (fun hc hf => ?_) (fun hc hf => ?_)
        · refine g_goto (tgt := 3660) o rfl dL_law_536 ?_
          refine g_iinc o [(4, .int (i + 6)), (6, .int r23.1), (5, .int r22.1), (0, .ref sb), (1, .ref (a 0)), (2, .ref (e 0)), (3, .ref oa)] 6 rfl (inc_6 _) (Nat.le_of_ble_eq_true rfl) rfl dL_law_3660 ?_
          refine g_goto (tgt := 23) o rfl dL_law_3663 ?_
          have hp := lf_c hf hw
          exact g_perm [3, 4, 5, 6, 0] rfl (hp _ _ (by omega) (by omega))
        · refine g_iconst o ic_0 dL_law_534 ?_
          exact (hR _ (lf_x hf hw)).elim
      · refine g_lconst o lc_1 dL_law_525 ?_
        refine g_goto (tgt := 530) o rfl dL_law_526 ?_
        refine g_lcmp o dL_law_530 ?_
        refine g_if_eq (tgt := 536) o rfl dL_law_531 hf (fun hc hf => ?_) (fun hc hf => ?_)
        · refine g_goto (tgt := 3660) o rfl dL_law_536 ?_
          refine g_iinc o [(4, .int (i + 6)), (6, .int r23.1), (5, .int r22.1), (0, .ref sb), (1, .ref (a 0)), (2, .ref (e 0)), (3, .ref oa)] 6 rfl (inc_6 _) (Nat.le_of_ble_eq_true rfl) rfl dL_law_3660 ?_
          refine g_goto (tgt := 23) o rfl dL_law_3663 ?_
          have hp := lf_c hf hw
          exact g_perm [3, 4, 5, 6, 0] rfl (hp _ _ (by omega) (by omega))
        · refine g_iconst o ic_0 dL_law_534 ?_
          exact (hR _ (lf_x hf hw)).elim
  · refine g_iconst o ic_0 dL_law_510 ?_
    exact (hR _ (lf_x hf hw)).elim
set_option maxRecDepth 20000 in
set_option maxHeartbeats 4000000 in
theorem b_law_c4 {x : Cx} (o : Ok x cL_law 7 RL 100 601024 7293034) {a b c e : Nat → Nat} {oa sb LL : Nat} {xs : Nat → Int32} (hs9 : SF x sb LL xs) {mm : Nat} (r : (Int32 × St × St × St × St × (Nat → Int64)) ⊕ Int32) (hR : ∀ t, r = .inr t → False) (i : Int32) (u v w m : St) (f : Nat → Int64) (ww : (Int32 × St × St × St × St × (Nat → Int64)) ⊕ ((Int32 × St × St × St × St × (Nat → Int64)) ⊕ Int32)) (hf : f_law_c4 xs LL i u v w m f = some ww) (hw : (∃ s2, ww = .inl s2 ∧ (fun (s : Int32 × St × St × St × St × (Nat → Int64)) => ∀ k n : Nat, k + 10 * mm ≤ 601024 → n + 60 * mm ≤ 7293034 → G x 7 k n (wLw a s.2.1 b s.2.2.1 c s.2.2.2.1 e s.2.2.2.2.1 oa s.2.2.2.2.2 (cxT x)) [(0, .ref sb), (1, .ref (a 0)), (2, .ref (e 0)), (3, .ref oa), (4, .int s.1)] 23 []) s2) ∨ ww = .inr r) {k n : Nat} (hk : k + 10 * (mm + 1) ≤ 601024) (hn : n + 60 * (mm + 1) ≤ 7293034) : G x 7 k n (wLw a u b v c w e m oa f (cxT x)) [(0, .ref sb), (1, .ref (a 0)), (2, .ref (e 0)), (3, .ref oa), (4, .int i)] 539 [] := by
  unfold f_law_c4 at hf
  refine g_aload_n o 1 rfl rfl dL_law_539 ?_
  refine g_aload_n o 0 rfl rfl dL_law_540 ?_
  refine g_iload o 4 rfl dL_law_541 ?_
  refine g_iconst o ic_1 dL_law_543 ?_
  refine g_iadd o dL_law_544 ?_
  refine g_sld o hs9 dL_law_545 hf (fun hf => ?_)
  refine g_aload_n o 0 rfl rfl dL_law_546 ?_
  refine g_iload o 4 rfl dL_law_547 ?_
  refine g_iconst o ic_2 dL_law_549 ?_
  refine g_iadd o dL_law_550 ?_
  refine g_sld o hs9 dL_law_551 hf (fun hf => ?_)
  refine g_aload_n o 3 rfl rfl dL_law_552 ?_
  obtain ⟨r28, hr28, hf⟩ := bd_some hf
  refine k_L_removeTuple_W o hr28 m_395 (Nat.le_of_ble_eq_true rfl) (Nat.le_of_ble_eq_true rfl) ⟨by omega, by omega⟩ dL_law_553 ?_
  refine g_istore o [(5, .int r28.1), (0, .ref sb), (1, .ref (a 0)), (2, .ref (e 0)), (3, .ref oa), (4, .int i)] (Nat.le_of_ble_eq_true rfl) rfl dL_law_556 ?_
  refine g_aload_n o 3 rfl rfl dL_law_558 ?_
  refine g_aload_n o 1 rfl rfl dL_law_559 ?_
  refine g_iload o 5 rfl dL_law_560 ?_
  refine g_iconst o ic_1 dL_law_562 ?_
  refine g_iadd o dL_law_563 ?_
  refine g_sld o hs9 dL_law_564 hf (fun hf => ?_)
  refine g_aload_n o 1 rfl rfl dL_law_565 ?_
  refine g_iload o 5 rfl dL_law_566 ?_
  refine g_iconst o ic_2 dL_law_568 ?_
  refine g_iadd o dL_law_569 ?_
  refine g_sld o hs9 dL_law_570 hf (fun hf => ?_)
  obtain ⟨r29, hr29, hf⟩ := bd_some hf
  refine k_X2_removeTuple_W o hr29 m_1035 (Nat.le_of_ble_eq_true rfl) (Nat.le_of_ble_eq_true rfl) ⟨by omega, by omega⟩ dL_law_571 ?_
  refine g_istore o [(6, .int r29.1), (5, .int r28.1), (0, .ref sb), (1, .ref (a 0)), (2, .ref (e 0)), (3, .ref oa), (4, .int i)] (Nat.le_of_ble_eq_true rfl) rfl dL_law_574 ?_
  refine g_aload_n o 4 rfl rfl dL_law_576 ?_
  obtain ⟨r30, hr30, hf⟩ := bd_some hf
  refine k_X2_thrown_W o hr30 m_984 (Nat.le_of_ble_eq_true rfl) (Nat.le_of_ble_eq_true rfl) ⟨by omega, by omega⟩ dL_law_577 ?_
  refine g_iload o 1 rfl dL_law_580 ?_
  refine g_ic_eq (tgt := 587) o rfl dL_law_582 hf (fun hc hf => ?_) (fun hc hf => ?_)
  · refine g_iload o 1 rfl dL_law_587 ?_
    refine g_if_ne (tgt := 611) o rfl dL_law_589 hf (fun hc hf => ?_) (fun hc hf => ?_)
    · refine g_goto (tgt := 3660) o rfl dL_law_611 ?_
      refine g_iinc o [(4, .int (i + 6)), (6, .int r29.1), (5, .int r28.1), (0, .ref sb), (1, .ref (a 0)), (2, .ref (e 0)), (3, .ref oa)] 6 rfl (inc_6 _) (Nat.le_of_ble_eq_true rfl) rfl dL_law_3660 ?_
      refine g_goto (tgt := 23) o rfl dL_law_3663 ?_
      have hp := lf_c hf hw
      exact g_perm [3, 4, 5, 6, 0] rfl (hp _ _ (by omega) (by omega))
    · refine g_aload_n o 5 rfl rfl dL_law_592 ?_
      refine g_iconst o ic_0 dL_law_593 ?_
      refine W_old o dL_law_594 hf (fun hf => ?_)
      refine g_iload o 0 rfl dL_law_595 ?_
      refine g_if_eq (tgt := 604) o rfl dL_law_597 hf (fun hc hf => ?_) (fun hc hf => ?_)
      · refine g_lconst o lc_0 dL_law_604 ?_
        refine g_lcmp o dL_law_605 ?_
        refine g_if_eq (tgt := 611) o rfl dL_law_606 hf (fun hc hf => ?_) (fun hc hf => ?_)
        · refine g_goto (tgt := 3660) o rfl dL_law_611 ?_
          refine g_iinc o [(4, .int (i + 6)), (6, .int r29.1), (5, .int r28.1), (0, .ref sb), (1, .ref (a 0)), (2, .ref (e 0)), (3, .ref oa)] 6 rfl (inc_6 _) (Nat.le_of_ble_eq_true rfl) rfl dL_law_3660 ?_
          refine g_goto (tgt := 23) o rfl dL_law_3663 ?_
          have hp := lf_c hf hw
          exact g_perm [3, 4, 5, 6, 0] rfl (hp _ _ (by omega) (by omega))
        · refine g_iconst o ic_0 dL_law_609 ?_
          exact (hR _ (lf_x hf hw)).elim
      · refine g_lconst o lc_1 dL_law_600 ?_
        refine g_goto (tgt := 605) o rfl dL_law_601 ?_
        refine g_lcmp o dL_law_605 ?_
        refine g_if_eq (tgt := 611) o rfl dL_law_606 hf (fun hc hf => ?_) (fun hc hf => ?_)
        · refine g_goto (tgt := 3660) o rfl dL_law_611 ?_
          refine g_iinc o [(4, .int (i + 6)), (6, .int r29.1), (5, .int r28.1), (0, .ref sb), (1, .ref (a 0)), (2, .ref (e 0)), (3, .ref oa)] 6 rfl (inc_6 _) (Nat.le_of_ble_eq_true rfl) rfl dL_law_3660 ?_
          refine g_goto (tgt := 23) o rfl dL_law_3663 ?_
          have hp := lf_c hf hw
          exact g_perm [3, 4, 5, 6, 0] rfl (hp _ _ (by omega) (by omega))
        · refine g_iconst o ic_0 dL_law_609 ?_
          exact (hR _ (lf_x hf hw)).elim
  · refine g_iconst o ic_0 dL_law_585 ?_
    exact (hR _ (lf_x hf hw)).elim
set_option maxRecDepth 20000 in
set_option maxHeartbeats 4000000 in
theorem b_law_c5 {x : Cx} (o : Ok x cL_law 7 RL 100 601024 7293034) {a b c e : Nat → Nat} {oa sb LL : Nat} {xs : Nat → Int32} (hs9 : SF x sb LL xs) {mm : Nat} (r : (Int32 × St × St × St × St × (Nat → Int64)) ⊕ Int32) (hR : ∀ t, r = .inr t → False) (i : Int32) (u v w m : St) (f : Nat → Int64) (ww : (Int32 × St × St × St × St × (Nat → Int64)) ⊕ ((Int32 × St × St × St × St × (Nat → Int64)) ⊕ Int32)) (hf : f_law_c5 xs LL i u v w m f = some ww) (hw : (∃ s2, ww = .inl s2 ∧ (fun (s : Int32 × St × St × St × St × (Nat → Int64)) => ∀ k n : Nat, k + 10 * mm ≤ 601024 → n + 60 * mm ≤ 7293034 → G x 7 k n (wLw a s.2.1 b s.2.2.1 c s.2.2.2.1 e s.2.2.2.2.1 oa s.2.2.2.2.2 (cxT x)) [(0, .ref sb), (1, .ref (a 0)), (2, .ref (e 0)), (3, .ref oa), (4, .int s.1)] 23 []) s2) ∨ ww = .inr r) {k n : Nat} (hk : k + 10 * (mm + 1) ≤ 601024) (hn : n + 60 * (mm + 1) ≤ 7293034) : G x 7 k n (wLw a u b v c w e m oa f (cxT x)) [(0, .ref sb), (1, .ref (a 0)), (2, .ref (e 0)), (3, .ref oa), (4, .int i)] 614 [] := by
  unfold f_law_c5 at hf
  refine g_aload_n o 1 rfl rfl dL_law_614 ?_
  refine g_aload_n o 0 rfl rfl dL_law_615 ?_
  refine g_iload o 4 rfl dL_law_616 ?_
  refine g_iconst o ic_1 dL_law_618 ?_
  refine g_iadd o dL_law_619 ?_
  refine g_sld o hs9 dL_law_620 hf (fun hf => ?_)
  refine g_aload_n o 0 rfl rfl dL_law_621 ?_
  refine g_iload o 4 rfl dL_law_622 ?_
  refine g_iconst o ic_2 dL_law_624 ?_
  refine g_iadd o dL_law_625 ?_
  refine g_sld o hs9 dL_law_626 hf (fun hf => ?_)
  refine g_aload_n o 3 rfl rfl dL_law_627 ?_
  obtain ⟨r34, hr34, hf⟩ := bd_some hf
  refine k_L_contains_W o hr34 m_402 (Nat.le_of_ble_eq_true rfl) (Nat.le_of_ble_eq_true rfl) ⟨by omega, by omega⟩ dL_law_628 ?_
  refine g_istore o [(5, .int r34.1), (0, .ref sb), (1, .ref (a 0)), (2, .ref (e 0)), (3, .ref oa), (4, .int i)] (Nat.le_of_ble_eq_true rfl) rfl dL_law_631 ?_
  refine g_aload_n o 3 rfl rfl dL_law_633 ?_
  refine g_aload_n o 1 rfl rfl dL_law_634 ?_
  refine g_iload o 5 rfl dL_law_635 ?_
  refine g_iconst o ic_1 dL_law_637 ?_
  refine g_iadd o dL_law_638 ?_
  refine g_sld o hs9 dL_law_639 hf (fun hf => ?_)
  refine g_aload_n o 1 rfl rfl dL_law_640 ?_
  refine g_iload o 5 rfl dL_law_641 ?_
  refine g_iconst o ic_2 dL_law_643 ?_
  refine g_iadd o dL_law_644 ?_
  refine g_sld o hs9 dL_law_645 hf (fun hf => ?_)
  obtain ⟨r35, hr35, hf⟩ := bd_some hf
  refine k_X2_contains_W o hr35 m_1039 (Nat.le_of_ble_eq_true rfl) (Nat.le_of_ble_eq_true rfl) ⟨by omega, by omega⟩ dL_law_646 ?_
  refine g_istore o [(6, .int r35.1), (5, .int r34.1), (0, .ref sb), (1, .ref (a 0)), (2, .ref (e 0)), (3, .ref oa), (4, .int i)] (Nat.le_of_ble_eq_true rfl) rfl dL_law_649 ?_
  refine g_aload_n o 4 rfl rfl dL_law_651 ?_
  obtain ⟨r36, hr36, hf⟩ := bd_some hf
  refine k_X2_thrown_W o hr36 m_984 (Nat.le_of_ble_eq_true rfl) (Nat.le_of_ble_eq_true rfl) ⟨by omega, by omega⟩ dL_law_652 ?_
  refine g_iload o 1 rfl dL_law_655 ?_
  refine g_ic_eq (tgt := 662) o rfl dL_law_657 hf (fun hc hf => ?_) (fun hc hf => ?_)
  · refine g_iload o 1 rfl dL_law_662 ?_
    refine g_if_ne (tgt := 686) o rfl dL_law_664 hf (fun hc hf => ?_) (fun hc hf => ?_)
    · refine g_goto (tgt := 3660) o rfl dL_law_686 ?_
      refine g_iinc o [(4, .int (i + 6)), (6, .int r35.1), (5, .int r34.1), (0, .ref sb), (1, .ref (a 0)), (2, .ref (e 0)), (3, .ref oa)] 6 rfl (inc_6 _) (Nat.le_of_ble_eq_true rfl) rfl dL_law_3660 ?_
      refine g_goto (tgt := 23) o rfl dL_law_3663 ?_
      have hp := lf_c hf hw
      exact g_perm [3, 4, 5, 6, 0] rfl (hp _ _ (by omega) (by omega))
    · refine g_aload_n o 5 rfl rfl dL_law_667 ?_
      refine g_iconst o ic_0 dL_law_668 ?_
      refine W_old o dL_law_669 hf (fun hf => ?_)
      refine g_iload o 0 rfl dL_law_670 ?_
      refine g_if_eq (tgt := 679) o rfl dL_law_672 hf (fun hc hf => ?_) (fun hc hf => ?_)
      · refine g_lconst o lc_0 dL_law_679 ?_
        refine g_lcmp o dL_law_680 ?_
        refine g_if_eq (tgt := 686) o rfl dL_law_681 hf (fun hc hf => ?_) (fun hc hf => ?_)
        · refine g_goto (tgt := 3660) o rfl dL_law_686 ?_
          refine g_iinc o [(4, .int (i + 6)), (6, .int r35.1), (5, .int r34.1), (0, .ref sb), (1, .ref (a 0)), (2, .ref (e 0)), (3, .ref oa)] 6 rfl (inc_6 _) (Nat.le_of_ble_eq_true rfl) rfl dL_law_3660 ?_
          refine g_goto (tgt := 23) o rfl dL_law_3663 ?_
          have hp := lf_c hf hw
          exact g_perm [3, 4, 5, 6, 0] rfl (hp _ _ (by omega) (by omega))
        · refine g_iconst o ic_0 dL_law_684 ?_
          exact (hR _ (lf_x hf hw)).elim
      · refine g_lconst o lc_1 dL_law_675 ?_
        refine g_goto (tgt := 680) o rfl dL_law_676 ?_
        refine g_lcmp o dL_law_680 ?_
        refine g_if_eq (tgt := 686) o rfl dL_law_681 hf (fun hc hf => ?_) (fun hc hf => ?_)
        · refine g_goto (tgt := 3660) o rfl dL_law_686 ?_
          refine g_iinc o [(4, .int (i + 6)), (6, .int r35.1), (5, .int r34.1), (0, .ref sb), (1, .ref (a 0)), (2, .ref (e 0)), (3, .ref oa)] 6 rfl (inc_6 _) (Nat.le_of_ble_eq_true rfl) rfl dL_law_3660 ?_
          refine g_goto (tgt := 23) o rfl dL_law_3663 ?_
          have hp := lf_c hf hw
          exact g_perm [3, 4, 5, 6, 0] rfl (hp _ _ (by omega) (by omega))
        · refine g_iconst o ic_0 dL_law_684 ?_
          exact (hR _ (lf_x hf hw)).elim
  · refine g_iconst o ic_0 dL_law_660 ?_
    exact (hR _ (lf_x hf hw)).elim
set_option maxRecDepth 20000 in
set_option maxHeartbeats 4000000 in
theorem b_law_c6 {x : Cx} (o : Ok x cL_law 7 RL 100 601024 7293034) {a b c e : Nat → Nat} {oa sb LL : Nat} {xs : Nat → Int32} (hs9 : SF x sb LL xs) {mm : Nat} (r : (Int32 × St × St × St × St × (Nat → Int64)) ⊕ Int32) (hR : ∀ t, r = .inr t → False) (i : Int32) (u v w m : St) (f : Nat → Int64) (ww : (Int32 × St × St × St × St × (Nat → Int64)) ⊕ ((Int32 × St × St × St × St × (Nat → Int64)) ⊕ Int32)) (hf : f_law_c6 xs LL i u v w m f = some ww) (hw : (∃ s2, ww = .inl s2 ∧ (fun (s : Int32 × St × St × St × St × (Nat → Int64)) => ∀ k n : Nat, k + 10 * mm ≤ 601024 → n + 60 * mm ≤ 7293034 → G x 7 k n (wLw a s.2.1 b s.2.2.1 c s.2.2.2.1 e s.2.2.2.2.1 oa s.2.2.2.2.2 (cxT x)) [(0, .ref sb), (1, .ref (a 0)), (2, .ref (e 0)), (3, .ref oa), (4, .int s.1)] 23 []) s2) ∨ ww = .inr r) {k n : Nat} (hk : k + 10 * (mm + 1) ≤ 601024) (hn : n + 60 * (mm + 1) ≤ 7293034) : G x 7 k n (wLw a u b v c w e m oa f (cxT x)) [(0, .ref sb), (1, .ref (a 0)), (2, .ref (e 0)), (3, .ref oa), (4, .int i)] 689 [] := by
  unfold f_law_c6 at hf
  refine g_aload_n o 1 rfl rfl dL_law_689 ?_
  refine g_aload_n o 0 rfl rfl dL_law_690 ?_
  refine g_iload o 4 rfl dL_law_691 ?_
  refine g_iconst o ic_1 dL_law_693 ?_
  refine g_iadd o dL_law_694 ?_
  refine g_sld o hs9 dL_law_695 hf (fun hf => ?_)
  refine g_aload_n o 3 rfl rfl dL_law_696 ?_
  obtain ⟨r40, hr40, hf⟩ := bd_some hf
  refine k_L_tupleCount_W o hr40 m_409 (Nat.le_of_ble_eq_true rfl) (Nat.le_of_ble_eq_true rfl) ⟨by omega, by omega⟩ dL_law_697 ?_
  refine g_istore o [(5, .int r40.1), (0, .ref sb), (1, .ref (a 0)), (2, .ref (e 0)), (3, .ref oa), (4, .int i)] (Nat.le_of_ble_eq_true rfl) rfl dL_law_700 ?_
  refine g_aload_n o 3 rfl rfl dL_law_702 ?_
  refine g_aload_n o 1 rfl rfl dL_law_703 ?_
  refine g_iload o 5 rfl dL_law_704 ?_
  refine g_iconst o ic_1 dL_law_706 ?_
  refine g_iadd o dL_law_707 ?_
  refine g_sld o hs9 dL_law_708 hf (fun hf => ?_)
  obtain ⟨r41, hr41, hf⟩ := bd_some hf
  refine k_X2_tupleCount_W o hr41 m_1043 (Nat.le_of_ble_eq_true rfl) (Nat.le_of_ble_eq_true rfl) ⟨by omega, by omega⟩ dL_law_709 ?_
  refine g_istore o [(6, .int r41.1), (5, .int r40.1), (0, .ref sb), (1, .ref (a 0)), (2, .ref (e 0)), (3, .ref oa), (4, .int i)] (Nat.le_of_ble_eq_true rfl) rfl dL_law_712 ?_
  refine g_aload_n o 4 rfl rfl dL_law_714 ?_
  obtain ⟨r42, hr42, hf⟩ := bd_some hf
  refine k_X2_thrown_W o hr42 m_984 (Nat.le_of_ble_eq_true rfl) (Nat.le_of_ble_eq_true rfl) ⟨by omega, by omega⟩ dL_law_715 ?_
  refine g_iload o 1 rfl dL_law_718 ?_
  refine g_ic_eq (tgt := 725) o rfl dL_law_720 hf (fun hc hf => ?_) (fun hc hf => ?_)
  · refine g_iload o 1 rfl dL_law_725 ?_
    refine g_if_ne (tgt := 742) o rfl dL_law_727 hf (fun hc hf => ?_) (fun hc hf => ?_)
    · refine g_goto (tgt := 3660) o rfl dL_law_742 ?_
      refine g_iinc o [(4, .int (i + 6)), (6, .int r41.1), (5, .int r40.1), (0, .ref sb), (1, .ref (a 0)), (2, .ref (e 0)), (3, .ref oa)] 6 rfl (inc_6 _) (Nat.le_of_ble_eq_true rfl) rfl dL_law_3660 ?_
      refine g_goto (tgt := 23) o rfl dL_law_3663 ?_
      have hp := lf_c hf hw
      exact g_perm [3, 4, 5, 6, 0] rfl (hp _ _ (by omega) (by omega))
    · refine g_aload_n o 5 rfl rfl dL_law_730 ?_
      refine g_iconst o ic_0 dL_law_731 ?_
      refine W_old o dL_law_732 hf (fun hf => ?_)
      refine g_iload o 0 rfl dL_law_733 ?_
      refine g_i2l o dL_law_735 ?_
      refine g_lcmp o dL_law_736 ?_
      refine g_if_eq (tgt := 742) o rfl dL_law_737 hf (fun hc hf => ?_) (fun hc hf => ?_)
      · refine g_goto (tgt := 3660) o rfl dL_law_742 ?_
        refine g_iinc o [(4, .int (i + 6)), (6, .int r41.1), (5, .int r40.1), (0, .ref sb), (1, .ref (a 0)), (2, .ref (e 0)), (3, .ref oa)] 6 rfl (inc_6 _) (Nat.le_of_ble_eq_true rfl) rfl dL_law_3660 ?_
        refine g_goto (tgt := 23) o rfl dL_law_3663 ?_
        have hp := lf_c hf hw
        exact g_perm [3, 4, 5, 6, 0] rfl (hp _ _ (by omega) (by omega))
      · refine g_iconst o ic_0 dL_law_740 ?_
        exact (hR _ (lf_x hf hw)).elim
  · refine g_iconst o ic_0 dL_law_723 ?_
    exact (hR _ (lf_x hf hw)).elim
set_option maxRecDepth 20000 in
set_option maxHeartbeats 4000000 in
theorem b_law_c7 {x : Cx} (o : Ok x cL_law 7 RL 100 601024 7293034) {a b c e : Nat → Nat} {oa sb LL : Nat} {xs : Nat → Int32} (hs9 : SF x sb LL xs) {mm : Nat} (r : (Int32 × St × St × St × St × (Nat → Int64)) ⊕ Int32) (hR : ∀ t, r = .inr t → False) (i : Int32) (u v w m : St) (f : Nat → Int64) (ww : (Int32 × St × St × St × St × (Nat → Int64)) ⊕ ((Int32 × St × St × St × St × (Nat → Int64)) ⊕ Int32)) (hf : f_law_c7 xs LL i u v w m f = some ww) (hw : (∃ s2, ww = .inl s2 ∧ (fun (s : Int32 × St × St × St × St × (Nat → Int64)) => ∀ k n : Nat, k + 10 * mm ≤ 601024 → n + 60 * mm ≤ 7293034 → G x 7 k n (wLw a s.2.1 b s.2.2.1 c s.2.2.2.1 e s.2.2.2.2.1 oa s.2.2.2.2.2 (cxT x)) [(0, .ref sb), (1, .ref (a 0)), (2, .ref (e 0)), (3, .ref oa), (4, .int s.1)] 23 []) s2) ∨ ww = .inr r) {k n : Nat} (hk : k + 10 * (mm + 1) ≤ 601024) (hn : n + 60 * (mm + 1) ≤ 7293034) : G x 7 k n (wLw a u b v c w e m oa f (cxT x)) [(0, .ref sb), (1, .ref (a 0)), (2, .ref (e 0)), (3, .ref oa), (4, .int i)] 745 [] := by
  unfold f_law_c7 at hf
  refine g_aload_n o 1 rfl rfl dL_law_745 ?_
  refine g_aload_n o 0 rfl rfl dL_law_746 ?_
  refine g_iload o 4 rfl dL_law_747 ?_
  refine g_iconst o ic_1 dL_law_749 ?_
  refine g_iadd o dL_law_750 ?_
  refine g_sld o hs9 dL_law_751 hf (fun hf => ?_)
  refine g_aload_n o 3 rfl rfl dL_law_752 ?_
  obtain ⟨r46, hr46, hf⟩ := bd_some hf
  refine k_L_arity_W o hr46 m_416 (Nat.le_of_ble_eq_true rfl) (Nat.le_of_ble_eq_true rfl) ⟨by omega, by omega⟩ dL_law_753 ?_
  refine g_istore o [(5, .int r46.1), (0, .ref sb), (1, .ref (a 0)), (2, .ref (e 0)), (3, .ref oa), (4, .int i)] (Nat.le_of_ble_eq_true rfl) rfl dL_law_756 ?_
  refine g_aload_n o 3 rfl rfl dL_law_758 ?_
  refine g_aload_n o 1 rfl rfl dL_law_759 ?_
  refine g_iload o 5 rfl dL_law_760 ?_
  refine g_iconst o ic_1 dL_law_762 ?_
  refine g_iadd o dL_law_763 ?_
  refine g_sld o hs9 dL_law_764 hf (fun hf => ?_)
  obtain ⟨r47, hr47, hf⟩ := bd_some hf
  refine k_X2_arity_W o hr47 m_1047 (Nat.le_of_ble_eq_true rfl) (Nat.le_of_ble_eq_true rfl) ⟨by omega, by omega⟩ dL_law_765 ?_
  refine g_istore o [(6, .int r47.1), (5, .int r46.1), (0, .ref sb), (1, .ref (a 0)), (2, .ref (e 0)), (3, .ref oa), (4, .int i)] (Nat.le_of_ble_eq_true rfl) rfl dL_law_768 ?_
  refine g_aload_n o 4 rfl rfl dL_law_770 ?_
  obtain ⟨r48, hr48, hf⟩ := bd_some hf
  refine k_X2_thrown_W o hr48 m_984 (Nat.le_of_ble_eq_true rfl) (Nat.le_of_ble_eq_true rfl) ⟨by omega, by omega⟩ dL_law_771 ?_
  refine g_iload o 1 rfl dL_law_774 ?_
  refine g_ic_eq (tgt := 781) o rfl dL_law_776 hf (fun hc hf => ?_) (fun hc hf => ?_)
  · refine g_iload o 1 rfl dL_law_781 ?_
    refine g_if_ne (tgt := 798) o rfl dL_law_783 hf (fun hc hf => ?_) (fun hc hf => ?_)
    · refine g_goto (tgt := 3660) o rfl dL_law_798 ?_
      refine g_iinc o [(4, .int (i + 6)), (6, .int r47.1), (5, .int r46.1), (0, .ref sb), (1, .ref (a 0)), (2, .ref (e 0)), (3, .ref oa)] 6 rfl (inc_6 _) (Nat.le_of_ble_eq_true rfl) rfl dL_law_3660 ?_
      refine g_goto (tgt := 23) o rfl dL_law_3663 ?_
      have hp := lf_c hf hw
      exact g_perm [3, 4, 5, 6, 0] rfl (hp _ _ (by omega) (by omega))
    · refine g_aload_n o 5 rfl rfl dL_law_786 ?_
      refine g_iconst o ic_0 dL_law_787 ?_
      refine W_old o dL_law_788 hf (fun hf => ?_)
      refine g_iload o 0 rfl dL_law_789 ?_
      refine g_i2l o dL_law_791 ?_
      refine g_lcmp o dL_law_792 ?_
      refine g_if_eq (tgt := 798) o rfl dL_law_793 hf (fun hc hf => ?_) (fun hc hf => ?_)
      · refine g_goto (tgt := 3660) o rfl dL_law_798 ?_
        refine g_iinc o [(4, .int (i + 6)), (6, .int r47.1), (5, .int r46.1), (0, .ref sb), (1, .ref (a 0)), (2, .ref (e 0)), (3, .ref oa)] 6 rfl (inc_6 _) (Nat.le_of_ble_eq_true rfl) rfl dL_law_3660 ?_
        refine g_goto (tgt := 23) o rfl dL_law_3663 ?_
        have hp := lf_c hf hw
        exact g_perm [3, 4, 5, 6, 0] rfl (hp _ _ (by omega) (by omega))
      · refine g_iconst o ic_0 dL_law_796 ?_
        exact (hR _ (lf_x hf hw)).elim
  · refine g_iconst o ic_0 dL_law_779 ?_
    exact (hR _ (lf_x hf hw)).elim
set_option maxRecDepth 20000 in
set_option maxHeartbeats 4000000 in
theorem b_law_c8 {x : Cx} (o : Ok x cL_law 7 RL 100 601024 7293034) {a b c e : Nat → Nat} {oa sb LL : Nat} {xs : Nat → Int32} (hs9 : SF x sb LL xs) {mm : Nat} (r : (Int32 × St × St × St × St × (Nat → Int64)) ⊕ Int32) (hR : ∀ t, r = .inr t → False) (i : Int32) (u v w m : St) (f : Nat → Int64) (ww : (Int32 × St × St × St × St × (Nat → Int64)) ⊕ ((Int32 × St × St × St × St × (Nat → Int64)) ⊕ Int32)) (hf : f_law_c8 xs LL i u v w m f = some ww) (hw : (∃ s2, ww = .inl s2 ∧ (fun (s : Int32 × St × St × St × St × (Nat → Int64)) => ∀ k n : Nat, k + 10 * mm ≤ 601024 → n + 60 * mm ≤ 7293034 → G x 7 k n (wLw a s.2.1 b s.2.2.1 c s.2.2.2.1 e s.2.2.2.2.1 oa s.2.2.2.2.2 (cxT x)) [(0, .ref sb), (1, .ref (a 0)), (2, .ref (e 0)), (3, .ref oa), (4, .int s.1)] 23 []) s2) ∨ ww = .inr r) {k n : Nat} (hk : k + 10 * (mm + 1) ≤ 601024) (hn : n + 60 * (mm + 1) ≤ 7293034) : G x 7 k n (wLw a u b v c w e m oa f (cxT x)) [(0, .ref sb), (1, .ref (a 0)), (2, .ref (e 0)), (3, .ref oa), (4, .int i)] 801 [] := by
  unfold f_law_c8 at hf
  refine g_aload_n o 1 rfl rfl dL_law_801 ?_
  obtain ⟨r51, hr51, hf⟩ := bd_some hf
  refine k_X1_relationCount_W o hr51 m_144 (Nat.le_of_ble_eq_true rfl) (Nat.le_of_ble_eq_true rfl) ⟨by omega, by omega⟩ dL_law_802 ?_
  refine g_aload_n o 2 rfl rfl dL_law_805 ?_
  obtain ⟨r52, hr52, hf⟩ := bd_some hf
  refine k_X2_relationCount_W o hr52 m_1051 (Nat.le_of_ble_eq_true rfl) (Nat.le_of_ble_eq_true rfl) ⟨by omega, by omega⟩ dL_law_806 ?_
  refine g_ic_eq (tgt := 3660) o rfl dL_law_809 hf (fun hc hf => ?_) (fun hc hf => ?_)
  · refine g_iinc o [(4, .int (i + 6)), (0, .ref sb), (1, .ref (a 0)), (2, .ref (e 0)), (3, .ref oa)] 4 rfl (inc_6 _) (Nat.le_of_ble_eq_true rfl) rfl dL_law_3660 ?_
    refine g_goto (tgt := 23) o rfl dL_law_3663 ?_
    have hp := lf_c hf hw
    exact g_perm [1, 2, 3, 4, 0] rfl (hp _ _ (by omega) (by omega))
  · refine g_iconst o ic_0 dL_law_812 ?_
    exact (hR _ (lf_x hf hw)).elim
set_option maxRecDepth 20000 in
set_option maxHeartbeats 4000000 in
theorem b_law_c9 {x : Cx} (o : Ok x cL_law 7 RL 100 601024 7293034) {a b c e : Nat → Nat} {oa sb LL : Nat} {xs : Nat → Int32} (hs9 : SF x sb LL xs) {mm : Nat} (r : (Int32 × St × St × St × St × (Nat → Int64)) ⊕ Int32) (hR : ∀ t, r = .inr t → False) (i : Int32) (u v w m : St) (f : Nat → Int64) (ww : (Int32 × St × St × St × St × (Nat → Int64)) ⊕ ((Int32 × St × St × St × St × (Nat → Int64)) ⊕ Int32)) (hf : f_law_c9 xs LL i u v w m f = some ww) (hw : (∃ s2, ww = .inl s2 ∧ (fun (s : Int32 × St × St × St × St × (Nat → Int64)) => ∀ k n : Nat, k + 10 * mm ≤ 601024 → n + 60 * mm ≤ 7293034 → G x 7 k n (wLw a s.2.1 b s.2.2.1 c s.2.2.2.1 e s.2.2.2.2.1 oa s.2.2.2.2.2 (cxT x)) [(0, .ref sb), (1, .ref (a 0)), (2, .ref (e 0)), (3, .ref oa), (4, .int s.1)] 23 []) s2) ∨ ww = .inr r) {k n : Nat} (hk : k + 10 * (mm + 1) ≤ 601024) (hn : n + 60 * (mm + 1) ≤ 7293034) : G x 7 k n (wLw a u b v c w e m oa f (cxT x)) [(0, .ref sb), (1, .ref (a 0)), (2, .ref (e 0)), (3, .ref oa), (4, .int i)] 814 [] := by
  unfold f_law_c9 at hf
  refine g_aload_n o 1 rfl rfl dL_law_814 ?_
  refine g_aload_n o 0 rfl rfl dL_law_815 ?_
  refine g_iload o 4 rfl dL_law_816 ?_
  refine g_iconst o ic_1 dL_law_818 ?_
  refine g_iadd o dL_law_819 ?_
  refine g_sld o hs9 dL_law_820 hf (fun hf => ?_)
  refine g_aload_n o 0 rfl rfl dL_law_821 ?_
  refine g_iload o 4 rfl dL_law_822 ?_
  refine g_iconst o ic_2 dL_law_824 ?_
  refine g_iadd o dL_law_825 ?_
  refine g_sld o hs9 dL_law_826 hf (fun hf => ?_)
  refine g_aload_n o 3 rfl rfl dL_law_827 ?_
  obtain ⟨r56, hr56, hf⟩ := bd_some hf
  refine k_L_areEqual_W o hr56 m_423 (Nat.le_of_ble_eq_true rfl) (Nat.le_of_ble_eq_true rfl) ⟨by omega, by omega⟩ dL_law_828 ?_
  refine g_istore o [(5, .int r56.1), (0, .ref sb), (1, .ref (a 0)), (2, .ref (e 0)), (3, .ref oa), (4, .int i)] (Nat.le_of_ble_eq_true rfl) rfl dL_law_831 ?_
  refine g_aload_n o 3 rfl rfl dL_law_833 ?_
  refine g_aload_n o 1 rfl rfl dL_law_834 ?_
  refine g_iload o 5 rfl dL_law_835 ?_
  refine g_iconst o ic_1 dL_law_837 ?_
  refine g_iadd o dL_law_838 ?_
  refine g_sld o hs9 dL_law_839 hf (fun hf => ?_)
  refine g_aload_n o 1 rfl rfl dL_law_840 ?_
  refine g_iload o 5 rfl dL_law_841 ?_
  refine g_iconst o ic_2 dL_law_843 ?_
  refine g_iadd o dL_law_844 ?_
  refine g_sld o hs9 dL_law_845 hf (fun hf => ?_)
  obtain ⟨r57, hr57, hf⟩ := bd_some hf
  refine k_X2_areEqual_W o hr57 m_1055 (Nat.le_of_ble_eq_true rfl) (Nat.le_of_ble_eq_true rfl) ⟨by omega, by omega⟩ dL_law_846 ?_
  refine g_istore o [(6, .int r57.1), (5, .int r56.1), (0, .ref sb), (1, .ref (a 0)), (2, .ref (e 0)), (3, .ref oa), (4, .int i)] (Nat.le_of_ble_eq_true rfl) rfl dL_law_849 ?_
  refine g_aload_n o 4 rfl rfl dL_law_851 ?_
  obtain ⟨r58, hr58, hf⟩ := bd_some hf
  refine k_X2_thrown_W o hr58 m_984 (Nat.le_of_ble_eq_true rfl) (Nat.le_of_ble_eq_true rfl) ⟨by omega, by omega⟩ dL_law_852 ?_
  refine g_iload o 1 rfl dL_law_855 ?_
  refine g_ic_eq (tgt := 862) o rfl dL_law_857 hf (fun hc hf => ?_) (fun hc hf => ?_)
  · refine g_iload o 1 rfl dL_law_862 ?_
    refine g_if_ne (tgt := 886) o rfl dL_law_864 hf (fun hc hf => ?_) (fun hc hf => ?_)
    · refine g_goto (tgt := 3660) o rfl dL_law_886 ?_
      refine g_iinc o [(4, .int (i + 6)), (6, .int r57.1), (5, .int r56.1), (0, .ref sb), (1, .ref (a 0)), (2, .ref (e 0)), (3, .ref oa)] 6 rfl (inc_6 _) (Nat.le_of_ble_eq_true rfl) rfl dL_law_3660 ?_
      refine g_goto (tgt := 23) o rfl dL_law_3663 ?_
      have hp := lf_c hf hw
      exact g_perm [3, 4, 5, 6, 0] rfl (hp _ _ (by omega) (by omega))
    · refine g_aload_n o 5 rfl rfl dL_law_867 ?_
      refine g_iconst o ic_0 dL_law_868 ?_
      refine W_old o dL_law_869 hf (fun hf => ?_)
      refine g_iload o 0 rfl dL_law_870 ?_
      refine g_if_eq (tgt := 879) o rfl dL_law_872 hf (fun hc hf => ?_) (fun hc hf => ?_)
      · refine g_lconst o lc_0 dL_law_879 ?_
        refine g_lcmp o dL_law_880 ?_
        refine g_if_eq (tgt := 886) o rfl dL_law_881 hf (fun hc hf => ?_) (fun hc hf => ?_)
        · refine g_goto (tgt := 3660) o rfl dL_law_886 ?_
          refine g_iinc o [(4, .int (i + 6)), (6, .int r57.1), (5, .int r56.1), (0, .ref sb), (1, .ref (a 0)), (2, .ref (e 0)), (3, .ref oa)] 6 rfl (inc_6 _) (Nat.le_of_ble_eq_true rfl) rfl dL_law_3660 ?_
          refine g_goto (tgt := 23) o rfl dL_law_3663 ?_
          have hp := lf_c hf hw
          exact g_perm [3, 4, 5, 6, 0] rfl (hp _ _ (by omega) (by omega))
        · refine g_iconst o ic_0 dL_law_884 ?_
          exact (hR _ (lf_x hf hw)).elim
      · refine g_lconst o lc_1 dL_law_875 ?_
        refine g_goto (tgt := 880) o rfl dL_law_876 ?_
        refine g_lcmp o dL_law_880 ?_
        refine g_if_eq (tgt := 886) o rfl dL_law_881 hf (fun hc hf => ?_) (fun hc hf => ?_)
        · refine g_goto (tgt := 3660) o rfl dL_law_886 ?_
          refine g_iinc o [(4, .int (i + 6)), (6, .int r57.1), (5, .int r56.1), (0, .ref sb), (1, .ref (a 0)), (2, .ref (e 0)), (3, .ref oa)] 6 rfl (inc_6 _) (Nat.le_of_ble_eq_true rfl) rfl dL_law_3660 ?_
          refine g_goto (tgt := 23) o rfl dL_law_3663 ?_
          have hp := lf_c hf hw
          exact g_perm [3, 4, 5, 6, 0] rfl (hp _ _ (by omega) (by omega))
        · refine g_iconst o ic_0 dL_law_884 ?_
          exact (hR _ (lf_x hf hw)).elim
  · refine g_iconst o ic_0 dL_law_860 ?_
    exact (hR _ (lf_x hf hw)).elim
set_option maxRecDepth 20000 in
set_option maxHeartbeats 4000000 in
theorem b_law_c10 {x : Cx} (o : Ok x cL_law 7 RL 100 601024 7293034) {a b c e : Nat → Nat} {oa sb LL : Nat} {xs : Nat → Int32} (hs9 : SF x sb LL xs) {mm : Nat} (r : (Int32 × St × St × St × St × (Nat → Int64)) ⊕ Int32) (hR : ∀ t, r = .inr t → False) (i : Int32) (u v w m : St) (f : Nat → Int64) (ww : (Int32 × St × St × St × St × (Nat → Int64)) ⊕ ((Int32 × St × St × St × St × (Nat → Int64)) ⊕ Int32)) (hf : f_law_c10 xs LL i u v w m f = some ww) (hw : (∃ s2, ww = .inl s2 ∧ (fun (s : Int32 × St × St × St × St × (Nat → Int64)) => ∀ k n : Nat, k + 10 * mm ≤ 601024 → n + 60 * mm ≤ 7293034 → G x 7 k n (wLw a s.2.1 b s.2.2.1 c s.2.2.2.1 e s.2.2.2.2.1 oa s.2.2.2.2.2 (cxT x)) [(0, .ref sb), (1, .ref (a 0)), (2, .ref (e 0)), (3, .ref oa), (4, .int s.1)] 23 []) s2) ∨ ww = .inr r) {k n : Nat} (hk : k + 10 * (mm + 1) ≤ 601024) (hn : n + 60 * (mm + 1) ≤ 7293034) : G x 7 k n (wLw a u b v c w e m oa f (cxT x)) [(0, .ref sb), (1, .ref (a 0)), (2, .ref (e 0)), (3, .ref oa), (4, .int i)] 889 [] := by
  unfold f_law_c10 at hf
  refine g_aload_n o 1 rfl rfl dL_law_889 ?_
  obtain ⟨r61, hr61, hf⟩ := bd_some hf
  refine k_X1_clear_W o hr61 m_148 (Nat.le_of_ble_eq_true rfl) (Nat.le_of_ble_eq_true rfl) ⟨by omega, by omega⟩ dL_law_890 ?_
  refine g_aload_n o 2 rfl rfl dL_law_893 ?_
  obtain ⟨r62, hr62, hf⟩ := bd_some hf
  refine k_X2_clear_W o hr62 m_1059 (Nat.le_of_ble_eq_true rfl) (Nat.le_of_ble_eq_true rfl) ⟨by omega, by omega⟩ dL_law_894 ?_
  refine g_ic_eq (tgt := 3660) o rfl dL_law_897 hf (fun hc hf => ?_) (fun hc hf => ?_)
  · refine g_iinc o [(4, .int (i + 6)), (0, .ref sb), (1, .ref (a 0)), (2, .ref (e 0)), (3, .ref oa)] 4 rfl (inc_6 _) (Nat.le_of_ble_eq_true rfl) rfl dL_law_3660 ?_
    refine g_goto (tgt := 23) o rfl dL_law_3663 ?_
    have hp := lf_c hf hw
    exact g_perm [1, 2, 3, 4, 0] rfl (hp _ _ (by omega) (by omega))
  · refine g_iconst o ic_0 dL_law_900 ?_
    exact (hR _ (lf_x hf hw)).elim
set_option maxRecDepth 20000 in
set_option maxHeartbeats 4000000 in
theorem b_law_c11 {x : Cx} (o : Ok x cL_law 7 RL 100 601024 7293034) {a b c e : Nat → Nat} {oa sb LL : Nat} {xs : Nat → Int32} (hs9 : SF x sb LL xs) {mm : Nat} (r : (Int32 × St × St × St × St × (Nat → Int64)) ⊕ Int32) (hR : ∀ t, r = .inr t → False) (i : Int32) (u v w m : St) (f : Nat → Int64) (ww : (Int32 × St × St × St × St × (Nat → Int64)) ⊕ ((Int32 × St × St × St × St × (Nat → Int64)) ⊕ Int32)) (hf : f_law_c11 xs LL i u v w m f = some ww) (hw : (∃ s2, ww = .inl s2 ∧ (fun (s : Int32 × St × St × St × St × (Nat → Int64)) => ∀ k n : Nat, k + 10 * mm ≤ 601024 → n + 60 * mm ≤ 7293034 → G x 7 k n (wLw a s.2.1 b s.2.2.1 c s.2.2.2.1 e s.2.2.2.2.1 oa s.2.2.2.2.2 (cxT x)) [(0, .ref sb), (1, .ref (a 0)), (2, .ref (e 0)), (3, .ref oa), (4, .int s.1)] 23 []) s2) ∨ ww = .inr r) {k n : Nat} (hk : k + 10 * (mm + 1) ≤ 601024) (hn : n + 60 * (mm + 1) ≤ 7293034) : G x 7 k n (wLw a u b v c w e m oa f (cxT x)) [(0, .ref sb), (1, .ref (a 0)), (2, .ref (e 0)), (3, .ref oa), (4, .int i)] 902 [] := by
  unfold f_law_c11 at hf
  refine g_aload_n o 1 rfl rfl dL_law_902 ?_
  refine g_aload_n o 0 rfl rfl dL_law_903 ?_
  refine g_iload o 4 rfl dL_law_904 ?_
  refine g_iconst o ic_1 dL_law_906 ?_
  refine g_iadd o dL_law_907 ?_
  refine g_sld o hs9 dL_law_908 hf (fun hf => ?_)
  refine g_aload_n o 3 rfl rfl dL_law_909 ?_
  obtain ⟨r66, hr66, hf⟩ := bd_some hf
  refine k_L_addComplement_W o hr66 m_430 (Nat.le_of_ble_eq_true rfl) (Nat.le_of_ble_eq_true rfl) ⟨by omega, by omega⟩ dL_law_910 ?_
  refine g_istore o [(5, .int r66.1), (0, .ref sb), (1, .ref (a 0)), (2, .ref (e 0)), (3, .ref oa), (4, .int i)] (Nat.le_of_ble_eq_true rfl) rfl dL_law_913 ?_
  refine g_aload_n o 3 rfl rfl dL_law_915 ?_
  refine g_aload_n o 1 rfl rfl dL_law_916 ?_
  refine g_iload o 5 rfl dL_law_917 ?_
  refine g_iconst o ic_1 dL_law_919 ?_
  refine g_iadd o dL_law_920 ?_
  refine g_sld o hs9 dL_law_921 hf (fun hf => ?_)
  obtain ⟨r67, hr67, hf⟩ := bd_some hf
  refine k_X2_addComplement_W o hr67 m_1063 (Nat.le_of_ble_eq_true rfl) (Nat.le_of_ble_eq_true rfl) ⟨by omega, by omega⟩ dL_law_922 ?_
  refine g_istore o [(6, .int r67.1), (5, .int r66.1), (0, .ref sb), (1, .ref (a 0)), (2, .ref (e 0)), (3, .ref oa), (4, .int i)] (Nat.le_of_ble_eq_true rfl) rfl dL_law_925 ?_
  refine g_aload_n o 4 rfl rfl dL_law_927 ?_
  obtain ⟨r68, hr68, hf⟩ := bd_some hf
  refine k_X2_thrown_W o hr68 m_984 (Nat.le_of_ble_eq_true rfl) (Nat.le_of_ble_eq_true rfl) ⟨by omega, by omega⟩ dL_law_928 ?_
  refine g_iload o 1 rfl dL_law_931 ?_
  refine g_ic_eq (tgt := 938) o rfl dL_law_933 hf (fun hc hf => ?_) (fun hc hf => ?_)
  · refine g_iload o 1 rfl dL_law_938 ?_
    refine g_if_ne (tgt := 955) o rfl dL_law_940 hf (fun hc hf => ?_) (fun hc hf => ?_)
    · refine g_goto (tgt := 3660) o rfl dL_law_955 ?_
      refine g_iinc o [(4, .int (i + 6)), (6, .int r67.1), (5, .int r66.1), (0, .ref sb), (1, .ref (a 0)), (2, .ref (e 0)), (3, .ref oa)] 6 rfl (inc_6 _) (Nat.le_of_ble_eq_true rfl) rfl dL_law_3660 ?_
      refine g_goto (tgt := 23) o rfl dL_law_3663 ?_
      have hp := lf_c hf hw
      exact g_perm [3, 4, 5, 6, 0] rfl (hp _ _ (by omega) (by omega))
    · refine g_aload_n o 5 rfl rfl dL_law_943 ?_
      refine g_iconst o ic_0 dL_law_944 ?_
      refine W_old o dL_law_945 hf (fun hf => ?_)
      refine g_iload o 0 rfl dL_law_946 ?_
      refine g_i2l o dL_law_948 ?_
      refine g_lcmp o dL_law_949 ?_
      refine g_if_eq (tgt := 955) o rfl dL_law_950 hf (fun hc hf => ?_) (fun hc hf => ?_)
      · refine g_goto (tgt := 3660) o rfl dL_law_955 ?_
        refine g_iinc o [(4, .int (i + 6)), (6, .int r67.1), (5, .int r66.1), (0, .ref sb), (1, .ref (a 0)), (2, .ref (e 0)), (3, .ref oa)] 6 rfl (inc_6 _) (Nat.le_of_ble_eq_true rfl) rfl dL_law_3660 ?_
        refine g_goto (tgt := 23) o rfl dL_law_3663 ?_
        have hp := lf_c hf hw
        exact g_perm [3, 4, 5, 6, 0] rfl (hp _ _ (by omega) (by omega))
      · refine g_iconst o ic_0 dL_law_953 ?_
        exact (hR _ (lf_x hf hw)).elim
  · refine g_iconst o ic_0 dL_law_936 ?_
    exact (hR _ (lf_x hf hw)).elim
set_option maxRecDepth 20000 in
set_option maxHeartbeats 4000000 in
theorem b_law_c12 {x : Cx} (o : Ok x cL_law 7 RL 100 601024 7293034) {a b c e : Nat → Nat} {oa sb LL : Nat} {xs : Nat → Int32} (hs9 : SF x sb LL xs) {mm : Nat} (r : (Int32 × St × St × St × St × (Nat → Int64)) ⊕ Int32) (hR : ∀ t, r = .inr t → False) (i : Int32) (u v w m : St) (f : Nat → Int64) (ww : (Int32 × St × St × St × St × (Nat → Int64)) ⊕ ((Int32 × St × St × St × St × (Nat → Int64)) ⊕ Int32)) (hf : f_law_c12 xs LL i u v w m f = some ww) (hw : (∃ s2, ww = .inl s2 ∧ (fun (s : Int32 × St × St × St × St × (Nat → Int64)) => ∀ k n : Nat, k + 10 * mm ≤ 601024 → n + 60 * mm ≤ 7293034 → G x 7 k n (wLw a s.2.1 b s.2.2.1 c s.2.2.2.1 e s.2.2.2.2.1 oa s.2.2.2.2.2 (cxT x)) [(0, .ref sb), (1, .ref (a 0)), (2, .ref (e 0)), (3, .ref oa), (4, .int s.1)] 23 []) s2) ∨ ww = .inr r) {k n : Nat} (hk : k + 10 * (mm + 1) ≤ 601024) (hn : n + 60 * (mm + 1) ≤ 7293034) : G x 7 k n (wLw a u b v c w e m oa f (cxT x)) [(0, .ref sb), (1, .ref (a 0)), (2, .ref (e 0)), (3, .ref oa), (4, .int i)] 958 [] := by
  unfold f_law_c12 at hf
  refine g_aload_n o 1 rfl rfl dL_law_958 ?_
  refine g_aload_n o 0 rfl rfl dL_law_959 ?_
  refine g_iload o 4 rfl dL_law_960 ?_
  refine g_iconst o ic_1 dL_law_962 ?_
  refine g_iadd o dL_law_963 ?_
  refine g_sld o hs9 dL_law_964 hf (fun hf => ?_)
  refine g_aload_n o 0 rfl rfl dL_law_965 ?_
  refine g_iload o 4 rfl dL_law_966 ?_
  refine g_iconst o ic_2 dL_law_968 ?_
  refine g_iadd o dL_law_969 ?_
  refine g_sld o hs9 dL_law_970 hf (fun hf => ?_)
  refine g_aload_n o 3 rfl rfl dL_law_971 ?_
  obtain ⟨r72, hr72, hf⟩ := bd_some hf
  refine k_L_addIntersection_W o hr72 m_437 (Nat.le_of_ble_eq_true rfl) (Nat.le_of_ble_eq_true rfl) ⟨by omega, by omega⟩ dL_law_972 ?_
  refine g_istore o [(5, .int r72.1), (0, .ref sb), (1, .ref (a 0)), (2, .ref (e 0)), (3, .ref oa), (4, .int i)] (Nat.le_of_ble_eq_true rfl) rfl dL_law_975 ?_
  refine g_aload_n o 3 rfl rfl dL_law_977 ?_
  refine g_aload_n o 1 rfl rfl dL_law_978 ?_
  refine g_iload o 5 rfl dL_law_979 ?_
  refine g_iconst o ic_1 dL_law_981 ?_
  refine g_iadd o dL_law_982 ?_
  refine g_sld o hs9 dL_law_983 hf (fun hf => ?_)
  refine g_aload_n o 1 rfl rfl dL_law_984 ?_
  refine g_iload o 5 rfl dL_law_985 ?_
  refine g_iconst o ic_2 dL_law_987 ?_
  refine g_iadd o dL_law_988 ?_
  refine g_sld o hs9 dL_law_989 hf (fun hf => ?_)
  obtain ⟨r73, hr73, hf⟩ := bd_some hf
  refine k_X2_addIntersection_W o hr73 m_1067 (Nat.le_of_ble_eq_true rfl) (Nat.le_of_ble_eq_true rfl) ⟨by omega, by omega⟩ dL_law_990 ?_
  refine g_istore o [(6, .int r73.1), (5, .int r72.1), (0, .ref sb), (1, .ref (a 0)), (2, .ref (e 0)), (3, .ref oa), (4, .int i)] (Nat.le_of_ble_eq_true rfl) rfl dL_law_993 ?_
  refine g_aload_n o 4 rfl rfl dL_law_995 ?_
  obtain ⟨r74, hr74, hf⟩ := bd_some hf
  refine k_X2_thrown_W o hr74 m_984 (Nat.le_of_ble_eq_true rfl) (Nat.le_of_ble_eq_true rfl) ⟨by omega, by omega⟩ dL_law_996 ?_
  refine g_iload o 1 rfl dL_law_999 ?_
  refine g_ic_eq (tgt := 1006) o rfl dL_law_1001 hf (fun hc hf => ?_) (fun hc hf => ?_)
  · refine g_iload o 1 rfl dL_law_1006 ?_
    refine g_if_ne (tgt := 1023) o rfl dL_law_1008 hf (fun hc hf => ?_) (fun hc hf => ?_)
    · refine g_goto (tgt := 3660) o rfl dL_law_1023 ?_
      refine g_iinc o [(4, .int (i + 6)), (6, .int r73.1), (5, .int r72.1), (0, .ref sb), (1, .ref (a 0)), (2, .ref (e 0)), (3, .ref oa)] 6 rfl (inc_6 _) (Nat.le_of_ble_eq_true rfl) rfl dL_law_3660 ?_
      refine g_goto (tgt := 23) o rfl dL_law_3663 ?_
      have hp := lf_c hf hw
      exact g_perm [3, 4, 5, 6, 0] rfl (hp _ _ (by omega) (by omega))
    · refine g_aload_n o 5 rfl rfl dL_law_1011 ?_
      refine g_iconst o ic_0 dL_law_1012 ?_
      refine W_old o dL_law_1013 hf (fun hf => ?_)
      refine g_iload o 0 rfl dL_law_1014 ?_
      refine g_i2l o dL_law_1016 ?_
      refine g_lcmp o dL_law_1017 ?_
      refine g_if_eq (tgt := 1023) o rfl dL_law_1018 hf (fun hc hf => ?_) (fun hc hf => ?_)
      · refine g_goto (tgt := 3660) o rfl dL_law_1023 ?_
        refine g_iinc o [(4, .int (i + 6)), (6, .int r73.1), (5, .int r72.1), (0, .ref sb), (1, .ref (a 0)), (2, .ref (e 0)), (3, .ref oa)] 6 rfl (inc_6 _) (Nat.le_of_ble_eq_true rfl) rfl dL_law_3660 ?_
        refine g_goto (tgt := 23) o rfl dL_law_3663 ?_
        have hp := lf_c hf hw
        exact g_perm [3, 4, 5, 6, 0] rfl (hp _ _ (by omega) (by omega))
      · refine g_iconst o ic_0 dL_law_1021 ?_
        exact (hR _ (lf_x hf hw)).elim
  · refine g_iconst o ic_0 dL_law_1004 ?_
    exact (hR _ (lf_x hf hw)).elim
set_option maxRecDepth 20000 in
set_option maxHeartbeats 4000000 in
theorem b_law_c13 {x : Cx} (o : Ok x cL_law 7 RL 100 601024 7293034) {a b c e : Nat → Nat} {oa sb LL : Nat} {xs : Nat → Int32} (hs9 : SF x sb LL xs) {mm : Nat} (r : (Int32 × St × St × St × St × (Nat → Int64)) ⊕ Int32) (hR : ∀ t, r = .inr t → False) (i : Int32) (u v w m : St) (f : Nat → Int64) (ww : (Int32 × St × St × St × St × (Nat → Int64)) ⊕ ((Int32 × St × St × St × St × (Nat → Int64)) ⊕ Int32)) (hf : f_law_c13 xs LL i u v w m f = some ww) (hw : (∃ s2, ww = .inl s2 ∧ (fun (s : Int32 × St × St × St × St × (Nat → Int64)) => ∀ k n : Nat, k + 10 * mm ≤ 601024 → n + 60 * mm ≤ 7293034 → G x 7 k n (wLw a s.2.1 b s.2.2.1 c s.2.2.2.1 e s.2.2.2.2.1 oa s.2.2.2.2.2 (cxT x)) [(0, .ref sb), (1, .ref (a 0)), (2, .ref (e 0)), (3, .ref oa), (4, .int s.1)] 23 []) s2) ∨ ww = .inr r) {k n : Nat} (hk : k + 10 * (mm + 1) ≤ 601024) (hn : n + 60 * (mm + 1) ≤ 7293034) : G x 7 k n (wLw a u b v c w e m oa f (cxT x)) [(0, .ref sb), (1, .ref (a 0)), (2, .ref (e 0)), (3, .ref oa), (4, .int i)] 1026 [] := by
  unfold f_law_c13 at hf
  refine g_aload_n o 1 rfl rfl dL_law_1026 ?_
  refine g_aload_n o 0 rfl rfl dL_law_1027 ?_
  refine g_iload o 4 rfl dL_law_1028 ?_
  refine g_iconst o ic_1 dL_law_1030 ?_
  refine g_iadd o dL_law_1031 ?_
  refine g_sld o hs9 dL_law_1032 hf (fun hf => ?_)
  refine g_aload_n o 0 rfl rfl dL_law_1033 ?_
  refine g_iload o 4 rfl dL_law_1034 ?_
  refine g_iconst o ic_2 dL_law_1036 ?_
  refine g_iadd o dL_law_1037 ?_
  refine g_sld o hs9 dL_law_1038 hf (fun hf => ?_)
  refine g_aload_n o 3 rfl rfl dL_law_1039 ?_
  obtain ⟨r78, hr78, hf⟩ := bd_some hf
  refine k_L_addProjection_W o hr78 m_445 (Nat.le_of_ble_eq_true rfl) (Nat.le_of_ble_eq_true rfl) ⟨by omega, by omega⟩ dL_law_1040 ?_
  refine g_istore o [(5, .int r78.1), (0, .ref sb), (1, .ref (a 0)), (2, .ref (e 0)), (3, .ref oa), (4, .int i)] (Nat.le_of_ble_eq_true rfl) rfl dL_law_1043 ?_
  refine g_aload_n o 3 rfl rfl dL_law_1045 ?_
  refine g_aload_n o 1 rfl rfl dL_law_1046 ?_
  refine g_iload o 5 rfl dL_law_1047 ?_
  refine g_iconst o ic_1 dL_law_1049 ?_
  refine g_iadd o dL_law_1050 ?_
  refine g_sld o hs9 dL_law_1051 hf (fun hf => ?_)
  refine g_aload_n o 1 rfl rfl dL_law_1052 ?_
  refine g_iload o 5 rfl dL_law_1053 ?_
  refine g_iconst o ic_2 dL_law_1055 ?_
  refine g_iadd o dL_law_1056 ?_
  refine g_sld o hs9 dL_law_1057 hf (fun hf => ?_)
  obtain ⟨r79, hr79, hf⟩ := bd_some hf
  refine k_X2_addProjection_W o hr79 m_1071 (Nat.le_of_ble_eq_true rfl) (Nat.le_of_ble_eq_true rfl) ⟨by omega, by omega⟩ dL_law_1058 ?_
  refine g_istore o [(6, .int r79.1), (5, .int r78.1), (0, .ref sb), (1, .ref (a 0)), (2, .ref (e 0)), (3, .ref oa), (4, .int i)] (Nat.le_of_ble_eq_true rfl) rfl dL_law_1061 ?_
  refine g_aload_n o 4 rfl rfl dL_law_1063 ?_
  obtain ⟨r80, hr80, hf⟩ := bd_some hf
  refine k_X2_thrown_W o hr80 m_984 (Nat.le_of_ble_eq_true rfl) (Nat.le_of_ble_eq_true rfl) ⟨by omega, by omega⟩ dL_law_1064 ?_
  refine g_iload o 1 rfl dL_law_1067 ?_
  refine g_ic_eq (tgt := 1074) o rfl dL_law_1069 hf (fun hc hf => ?_) (fun hc hf => ?_)
  · refine g_iload o 1 rfl dL_law_1074 ?_
    refine g_if_ne (tgt := 1091) o rfl dL_law_1076 hf (fun hc hf => ?_) (fun hc hf => ?_)
    · refine g_goto (tgt := 3660) o rfl dL_law_1091 ?_
      refine g_iinc o [(4, .int (i + 6)), (6, .int r79.1), (5, .int r78.1), (0, .ref sb), (1, .ref (a 0)), (2, .ref (e 0)), (3, .ref oa)] 6 rfl (inc_6 _) (Nat.le_of_ble_eq_true rfl) rfl dL_law_3660 ?_
      refine g_goto (tgt := 23) o rfl dL_law_3663 ?_
      have hp := lf_c hf hw
      exact g_perm [3, 4, 5, 6, 0] rfl (hp _ _ (by omega) (by omega))
    · refine g_aload_n o 5 rfl rfl dL_law_1079 ?_
      refine g_iconst o ic_0 dL_law_1080 ?_
      refine W_old o dL_law_1081 hf (fun hf => ?_)
      refine g_iload o 0 rfl dL_law_1082 ?_
      refine g_i2l o dL_law_1084 ?_
      refine g_lcmp o dL_law_1085 ?_
      refine g_if_eq (tgt := 1091) o rfl dL_law_1086 hf (fun hc hf => ?_) (fun hc hf => ?_)
      · refine g_goto (tgt := 3660) o rfl dL_law_1091 ?_
        refine g_iinc o [(4, .int (i + 6)), (6, .int r79.1), (5, .int r78.1), (0, .ref sb), (1, .ref (a 0)), (2, .ref (e 0)), (3, .ref oa)] 6 rfl (inc_6 _) (Nat.le_of_ble_eq_true rfl) rfl dL_law_3660 ?_
        refine g_goto (tgt := 23) o rfl dL_law_3663 ?_
        have hp := lf_c hf hw
        exact g_perm [3, 4, 5, 6, 0] rfl (hp _ _ (by omega) (by omega))
      · refine g_iconst o ic_0 dL_law_1089 ?_
        exact (hR _ (lf_x hf hw)).elim
  · refine g_iconst o ic_0 dL_law_1072 ?_
    exact (hR _ (lf_x hf hw)).elim
set_option maxRecDepth 20000 in
set_option maxHeartbeats 4000000 in
theorem b_law_c14 {x : Cx} (o : Ok x cL_law 7 RL 100 601024 7293034) {a b c e : Nat → Nat} {oa sb LL : Nat} {xs : Nat → Int32} (hs9 : SF x sb LL xs) {mm : Nat} (r : (Int32 × St × St × St × St × (Nat → Int64)) ⊕ Int32) (hR : ∀ t, r = .inr t → False) (i : Int32) (u v w m : St) (f : Nat → Int64) (ww : (Int32 × St × St × St × St × (Nat → Int64)) ⊕ ((Int32 × St × St × St × St × (Nat → Int64)) ⊕ Int32)) (hf : f_law_c14 xs LL i u v w m f = some ww) (hw : (∃ s2, ww = .inl s2 ∧ (fun (s : Int32 × St × St × St × St × (Nat → Int64)) => ∀ k n : Nat, k + 10 * mm ≤ 601024 → n + 60 * mm ≤ 7293034 → G x 7 k n (wLw a s.2.1 b s.2.2.1 c s.2.2.2.1 e s.2.2.2.2.1 oa s.2.2.2.2.2 (cxT x)) [(0, .ref sb), (1, .ref (a 0)), (2, .ref (e 0)), (3, .ref oa), (4, .int s.1)] 23 []) s2) ∨ ww = .inr r) {k n : Nat} (hk : k + 10 * (mm + 1) ≤ 601024) (hn : n + 60 * (mm + 1) ≤ 7293034) : G x 7 k n (wLw a u b v c w e m oa f (cxT x)) [(0, .ref sb), (1, .ref (a 0)), (2, .ref (e 0)), (3, .ref oa), (4, .int i)] 1094 [] := by
  unfold f_law_c14 at hf
  refine g_aload_n o 1 rfl rfl dL_law_1094 ?_
  refine g_aload_n o 0 rfl rfl dL_law_1095 ?_
  refine g_iload o 4 rfl dL_law_1096 ?_
  refine g_iconst o ic_1 dL_law_1098 ?_
  refine g_iadd o dL_law_1099 ?_
  refine g_sld o hs9 dL_law_1100 hf (fun hf => ?_)
  refine g_aload_n o 0 rfl rfl dL_law_1101 ?_
  refine g_iload o 4 rfl dL_law_1102 ?_
  refine g_iconst o ic_2 dL_law_1104 ?_
  refine g_iadd o dL_law_1105 ?_
  refine g_sld o hs9 dL_law_1106 hf (fun hf => ?_)
  refine g_aload_n o 0 rfl rfl dL_law_1107 ?_
  refine g_iload o 4 rfl dL_law_1108 ?_
  refine g_iconst o ic_3 dL_law_1110 ?_
  refine g_iadd o dL_law_1111 ?_
  refine g_sld o hs9 dL_law_1112 hf (fun hf => ?_)
  refine g_aload_n o 3 rfl rfl dL_law_1113 ?_
  obtain ⟨r84, hr84, hf⟩ := bd_some hf
  refine k_L_addExchanged_W o hr84 m_461 (Nat.le_of_ble_eq_true rfl) (Nat.le_of_ble_eq_true rfl) ⟨by omega, by omega⟩ dL_law_1114 ?_
  refine g_istore o [(5, .int r84.1), (0, .ref sb), (1, .ref (a 0)), (2, .ref (e 0)), (3, .ref oa), (4, .int i)] (Nat.le_of_ble_eq_true rfl) rfl dL_law_1117 ?_
  refine g_aload_n o 3 rfl rfl dL_law_1119 ?_
  refine g_aload_n o 1 rfl rfl dL_law_1120 ?_
  refine g_iload o 5 rfl dL_law_1121 ?_
  refine g_iconst o ic_1 dL_law_1123 ?_
  refine g_iadd o dL_law_1124 ?_
  refine g_sld o hs9 dL_law_1125 hf (fun hf => ?_)
  refine g_aload_n o 1 rfl rfl dL_law_1126 ?_
  refine g_iload o 5 rfl dL_law_1127 ?_
  refine g_iconst o ic_2 dL_law_1129 ?_
  refine g_iadd o dL_law_1130 ?_
  refine g_sld o hs9 dL_law_1131 hf (fun hf => ?_)
  refine g_aload_n o 1 rfl rfl dL_law_1132 ?_
  refine g_iload o 5 rfl dL_law_1133 ?_
  refine g_iconst o ic_3 dL_law_1135 ?_
  refine g_iadd o dL_law_1136 ?_
  refine g_sld o hs9 dL_law_1137 hf (fun hf => ?_)
  obtain ⟨r85, hr85, hf⟩ := bd_some hf
  refine k_X2_addExchanged_W o hr85 m_1075 (Nat.le_of_ble_eq_true rfl) (Nat.le_of_ble_eq_true rfl) ⟨by omega, by omega⟩ dL_law_1138 ?_
  refine g_istore o [(6, .int r85.1), (5, .int r84.1), (0, .ref sb), (1, .ref (a 0)), (2, .ref (e 0)), (3, .ref oa), (4, .int i)] (Nat.le_of_ble_eq_true rfl) rfl dL_law_1141 ?_
  refine g_aload_n o 4 rfl rfl dL_law_1143 ?_
  obtain ⟨r86, hr86, hf⟩ := bd_some hf
  refine k_X2_thrown_W o hr86 m_984 (Nat.le_of_ble_eq_true rfl) (Nat.le_of_ble_eq_true rfl) ⟨by omega, by omega⟩ dL_law_1144 ?_
  refine g_iload o 1 rfl dL_law_1147 ?_
  refine g_ic_eq (tgt := 1154) o rfl dL_law_1149 hf (fun hc hf => ?_) (fun hc hf => ?_)
  · refine g_iload o 1 rfl dL_law_1154 ?_
    refine g_if_ne (tgt := 1171) o rfl dL_law_1156 hf (fun hc hf => ?_) (fun hc hf => ?_)
    · refine g_goto (tgt := 3660) o rfl dL_law_1171 ?_
      refine g_iinc o [(4, .int (i + 6)), (6, .int r85.1), (5, .int r84.1), (0, .ref sb), (1, .ref (a 0)), (2, .ref (e 0)), (3, .ref oa)] 6 rfl (inc_6 _) (Nat.le_of_ble_eq_true rfl) rfl dL_law_3660 ?_
      refine g_goto (tgt := 23) o rfl dL_law_3663 ?_
      have hp := lf_c hf hw
      exact g_perm [3, 4, 5, 6, 0] rfl (hp _ _ (by omega) (by omega))
    · refine g_aload_n o 5 rfl rfl dL_law_1159 ?_
      refine g_iconst o ic_0 dL_law_1160 ?_
      refine W_old o dL_law_1161 hf (fun hf => ?_)
      refine g_iload o 0 rfl dL_law_1162 ?_
      refine g_i2l o dL_law_1164 ?_
      refine g_lcmp o dL_law_1165 ?_
      refine g_if_eq (tgt := 1171) o rfl dL_law_1166 hf (fun hc hf => ?_) (fun hc hf => ?_)
      · refine g_goto (tgt := 3660) o rfl dL_law_1171 ?_
        refine g_iinc o [(4, .int (i + 6)), (6, .int r85.1), (5, .int r84.1), (0, .ref sb), (1, .ref (a 0)), (2, .ref (e 0)), (3, .ref oa)] 6 rfl (inc_6 _) (Nat.le_of_ble_eq_true rfl) rfl dL_law_3660 ?_
        refine g_goto (tgt := 23) o rfl dL_law_3663 ?_
        have hp := lf_c hf hw
        exact g_perm [3, 4, 5, 6, 0] rfl (hp _ _ (by omega) (by omega))
      · refine g_iconst o ic_0 dL_law_1169 ?_
        exact (hR _ (lf_x hf hw)).elim
  · refine g_iconst o ic_0 dL_law_1152 ?_
    exact (hR _ (lf_x hf hw)).elim
set_option maxRecDepth 20000 in
set_option maxHeartbeats 4000000 in
theorem b_law_c15 {x : Cx} (o : Ok x cL_law 7 RL 100 601024 7293034) {a b c e : Nat → Nat} {oa sb LL : Nat} {xs : Nat → Int32} (hs9 : SF x sb LL xs) {mm : Nat} (r : (Int32 × St × St × St × St × (Nat → Int64)) ⊕ Int32) (hR : ∀ t, r = .inr t → False) (i : Int32) (u v w m : St) (f : Nat → Int64) (ww : (Int32 × St × St × St × St × (Nat → Int64)) ⊕ ((Int32 × St × St × St × St × (Nat → Int64)) ⊕ Int32)) (hf : f_law_c15 xs LL i u v w m f = some ww) (hw : (∃ s2, ww = .inl s2 ∧ (fun (s : Int32 × St × St × St × St × (Nat → Int64)) => ∀ k n : Nat, k + 10 * mm ≤ 601024 → n + 60 * mm ≤ 7293034 → G x 7 k n (wLw a s.2.1 b s.2.2.1 c s.2.2.2.1 e s.2.2.2.2.1 oa s.2.2.2.2.2 (cxT x)) [(0, .ref sb), (1, .ref (a 0)), (2, .ref (e 0)), (3, .ref oa), (4, .int s.1)] 23 []) s2) ∨ ww = .inr r) {k n : Nat} (hk : k + 10 * (mm + 1) ≤ 601024) (hn : n + 60 * (mm + 1) ≤ 7293034) : G x 7 k n (wLw a u b v c w e m oa f (cxT x)) [(0, .ref sb), (1, .ref (a 0)), (2, .ref (e 0)), (3, .ref oa), (4, .int i)] 1174 [] := by
  unfold f_law_c15 at hf
  refine g_aload_n o 1 rfl rfl dL_law_1174 ?_
  refine g_aload_n o 0 rfl rfl dL_law_1175 ?_
  refine g_iload o 4 rfl dL_law_1176 ?_
  refine g_iconst o ic_1 dL_law_1178 ?_
  refine g_iadd o dL_law_1179 ?_
  refine g_sld o hs9 dL_law_1180 hf (fun hf => ?_)
  refine g_aload_n o 0 rfl rfl dL_law_1181 ?_
  refine g_iload o 4 rfl dL_law_1182 ?_
  refine g_iconst o ic_2 dL_law_1184 ?_
  refine g_iadd o dL_law_1185 ?_
  refine g_sld o hs9 dL_law_1186 hf (fun hf => ?_)
  refine g_aload_n o 0 rfl rfl dL_law_1187 ?_
  refine g_iload o 4 rfl dL_law_1188 ?_
  refine g_iconst o ic_3 dL_law_1190 ?_
  refine g_iadd o dL_law_1191 ?_
  refine g_sld o hs9 dL_law_1192 hf (fun hf => ?_)
  refine g_aload_n o 0 rfl rfl dL_law_1193 ?_
  refine g_iload o 4 rfl dL_law_1194 ?_
  refine g_iconst o ic_4 dL_law_1196 ?_
  refine g_iadd o dL_law_1197 ?_
  refine g_sld o hs9 dL_law_1198 hf (fun hf => ?_)
  refine g_aload_n o 0 rfl rfl dL_law_1199 ?_
  refine g_iload o 4 rfl dL_law_1200 ?_
  refine g_iconst o ic_5 dL_law_1202 ?_
  refine g_iadd o dL_law_1203 ?_
  refine g_sld o hs9 dL_law_1204 hf (fun hf => ?_)
  refine g_aload_n o 3 rfl rfl dL_law_1205 ?_
  obtain ⟨r90, hr90, hf⟩ := bd_some hf
  refine k_L_apply_W o hr90 m_471 (Nat.le_of_ble_eq_true rfl) (Nat.le_of_ble_eq_true rfl) ⟨by omega, by omega⟩ dL_law_1206 ?_
  refine g_istore o [(5, .int r90.1), (0, .ref sb), (1, .ref (a 0)), (2, .ref (e 0)), (3, .ref oa), (4, .int i)] (Nat.le_of_ble_eq_true rfl) rfl dL_law_1209 ?_
  refine g_aload_n o 3 rfl rfl dL_law_1211 ?_
  refine g_aload_n o 1 rfl rfl dL_law_1212 ?_
  refine g_iload o 5 rfl dL_law_1213 ?_
  refine g_iconst o ic_1 dL_law_1215 ?_
  refine g_iadd o dL_law_1216 ?_
  refine g_sld o hs9 dL_law_1217 hf (fun hf => ?_)
  refine g_aload_n o 1 rfl rfl dL_law_1218 ?_
  refine g_iload o 5 rfl dL_law_1219 ?_
  refine g_iconst o ic_2 dL_law_1221 ?_
  refine g_iadd o dL_law_1222 ?_
  refine g_sld o hs9 dL_law_1223 hf (fun hf => ?_)
  refine g_aload_n o 1 rfl rfl dL_law_1224 ?_
  refine g_iload o 5 rfl dL_law_1225 ?_
  refine g_iconst o ic_3 dL_law_1227 ?_
  refine g_iadd o dL_law_1228 ?_
  refine g_sld o hs9 dL_law_1229 hf (fun hf => ?_)
  refine g_aload_n o 1 rfl rfl dL_law_1230 ?_
  refine g_iload o 5 rfl dL_law_1231 ?_
  refine g_iconst o ic_4 dL_law_1233 ?_
  refine g_iadd o dL_law_1234 ?_
  refine g_sld o hs9 dL_law_1235 hf (fun hf => ?_)
  refine g_aload_n o 1 rfl rfl dL_law_1236 ?_
  refine g_iload o 5 rfl dL_law_1237 ?_
  refine g_iconst o ic_5 dL_law_1239 ?_
  refine g_iadd o dL_law_1240 ?_
  refine g_sld o hs9 dL_law_1241 hf (fun hf => ?_)
  obtain ⟨r91, hr91, hf⟩ := bd_some hf
  refine k_X2_apply_W o hr91 m_1079 (Nat.le_of_ble_eq_true rfl) (Nat.le_of_ble_eq_true rfl) ⟨by omega, by omega⟩ dL_law_1242 ?_
  refine g_istore o [(6, .int r91.1), (5, .int r90.1), (0, .ref sb), (1, .ref (a 0)), (2, .ref (e 0)), (3, .ref oa), (4, .int i)] (Nat.le_of_ble_eq_true rfl) rfl dL_law_1245 ?_
  refine g_aload_n o 4 rfl rfl dL_law_1247 ?_
  obtain ⟨r92, hr92, hf⟩ := bd_some hf
  refine k_X2_thrown_W o hr92 m_984 (Nat.le_of_ble_eq_true rfl) (Nat.le_of_ble_eq_true rfl) ⟨by omega, by omega⟩ dL_law_1248 ?_
  refine g_iload o 1 rfl dL_law_1251 ?_
  refine g_ic_eq (tgt := 1258) o rfl dL_law_1253 hf (fun hc hf => ?_) (fun hc hf => ?_)
  · refine g_iload o 1 rfl dL_law_1258 ?_
    refine g_if_ne (tgt := 1275) o rfl dL_law_1260 hf (fun hc hf => ?_) (fun hc hf => ?_)
    · refine g_goto (tgt := 3660) o rfl dL_law_1275 ?_
      refine g_iinc o [(4, .int (i + 6)), (6, .int r91.1), (5, .int r90.1), (0, .ref sb), (1, .ref (a 0)), (2, .ref (e 0)), (3, .ref oa)] 6 rfl (inc_6 _) (Nat.le_of_ble_eq_true rfl) rfl dL_law_3660 ?_
      refine g_goto (tgt := 23) o rfl dL_law_3663 ?_
      have hp := lf_c hf hw
      exact g_perm [3, 4, 5, 6, 0] rfl (hp _ _ (by omega) (by omega))
    · refine g_aload_n o 5 rfl rfl dL_law_1263 ?_
      refine g_iconst o ic_0 dL_law_1264 ?_
      refine W_old o dL_law_1265 hf (fun hf => ?_)
      refine g_iload o 0 rfl dL_law_1266 ?_
      refine g_i2l o dL_law_1268 ?_
      refine g_lcmp o dL_law_1269 ?_
      refine g_if_eq (tgt := 1275) o rfl dL_law_1270 hf (fun hc hf => ?_) (fun hc hf => ?_)
      · refine g_goto (tgt := 3660) o rfl dL_law_1275 ?_
        refine g_iinc o [(4, .int (i + 6)), (6, .int r91.1), (5, .int r90.1), (0, .ref sb), (1, .ref (a 0)), (2, .ref (e 0)), (3, .ref oa)] 6 rfl (inc_6 _) (Nat.le_of_ble_eq_true rfl) rfl dL_law_3660 ?_
        refine g_goto (tgt := 23) o rfl dL_law_3663 ?_
        have hp := lf_c hf hw
        exact g_perm [3, 4, 5, 6, 0] rfl (hp _ _ (by omega) (by omega))
      · refine g_iconst o ic_0 dL_law_1273 ?_
        exact (hR _ (lf_x hf hw)).elim
  · refine g_iconst o ic_0 dL_law_1256 ?_
    exact (hR _ (lf_x hf hw)).elim
set_option maxRecDepth 20000 in
set_option maxHeartbeats 4000000 in
theorem b_law_c16 {x : Cx} (o : Ok x cL_law 7 RL 100 601024 7293034) {a b c e : Nat → Nat} {oa sb LL : Nat} {xs : Nat → Int32} (hs9 : SF x sb LL xs) {mm : Nat} (r : (Int32 × St × St × St × St × (Nat → Int64)) ⊕ Int32) (hR : ∀ t, r = .inr t → False) (i : Int32) (u v w m : St) (f : Nat → Int64) (ww : (Int32 × St × St × St × St × (Nat → Int64)) ⊕ ((Int32 × St × St × St × St × (Nat → Int64)) ⊕ Int32)) (hf : f_law_c16 xs LL i u v w m f = some ww) (hw : (∃ s2, ww = .inl s2 ∧ (fun (s : Int32 × St × St × St × St × (Nat → Int64)) => ∀ k n : Nat, k + 10 * mm ≤ 601024 → n + 60 * mm ≤ 7293034 → G x 7 k n (wLw a s.2.1 b s.2.2.1 c s.2.2.2.1 e s.2.2.2.2.1 oa s.2.2.2.2.2 (cxT x)) [(0, .ref sb), (1, .ref (a 0)), (2, .ref (e 0)), (3, .ref oa), (4, .int s.1)] 23 []) s2) ∨ ww = .inr r) {k n : Nat} (hk : k + 10 * (mm + 1) ≤ 601024) (hn : n + 60 * (mm + 1) ≤ 7293034) : G x 7 k n (wLw a u b v c w e m oa f (cxT x)) [(0, .ref sb), (1, .ref (a 0)), (2, .ref (e 0)), (3, .ref oa), (4, .int i)] 1278 [] := by
  unfold f_law_c16 at hf
  refine g_aload_n o 1 rfl rfl dL_law_1278 ?_
  refine g_aload_n o 0 rfl rfl dL_law_1279 ?_
  refine g_iload o 4 rfl dL_law_1280 ?_
  refine g_iconst o ic_1 dL_law_1282 ?_
  refine g_iadd o dL_law_1283 ?_
  refine g_sld o hs9 dL_law_1284 hf (fun hf => ?_)
  refine g_aload_n o 0 rfl rfl dL_law_1285 ?_
  refine g_iload o 4 rfl dL_law_1286 ?_
  refine g_iconst o ic_2 dL_law_1288 ?_
  refine g_iadd o dL_law_1289 ?_
  refine g_sld o hs9 dL_law_1290 hf (fun hf => ?_)
  refine g_aload_n o 0 rfl rfl dL_law_1291 ?_
  refine g_iload o 4 rfl dL_law_1292 ?_
  refine g_iconst o ic_3 dL_law_1294 ?_
  refine g_iadd o dL_law_1295 ?_
  refine g_sld o hs9 dL_law_1296 hf (fun hf => ?_)
  refine g_aload_n o 3 rfl rfl dL_law_1297 ?_
  obtain ⟨r96, hr96, hf⟩ := bd_some hf
  refine k_L_preserves_W o hr96 m_488 (Nat.le_of_ble_eq_true rfl) (Nat.le_of_ble_eq_true rfl) ⟨by omega, by omega⟩ dL_law_1298 ?_
  refine g_istore o [(5, .int r96.1), (0, .ref sb), (1, .ref (a 0)), (2, .ref (e 0)), (3, .ref oa), (4, .int i)] (Nat.le_of_ble_eq_true rfl) rfl dL_law_1301 ?_
  refine g_aload_n o 3 rfl rfl dL_law_1303 ?_
  refine g_aload_n o 1 rfl rfl dL_law_1304 ?_
  refine g_iload o 5 rfl dL_law_1305 ?_
  refine g_iconst o ic_1 dL_law_1307 ?_
  refine g_iadd o dL_law_1308 ?_
  refine g_sld o hs9 dL_law_1309 hf (fun hf => ?_)
  refine g_aload_n o 1 rfl rfl dL_law_1310 ?_
  refine g_iload o 5 rfl dL_law_1311 ?_
  refine g_iconst o ic_2 dL_law_1313 ?_
  refine g_iadd o dL_law_1314 ?_
  refine g_sld o hs9 dL_law_1315 hf (fun hf => ?_)
  refine g_aload_n o 1 rfl rfl dL_law_1316 ?_
  refine g_iload o 5 rfl dL_law_1317 ?_
  refine g_iconst o ic_3 dL_law_1319 ?_
  refine g_iadd o dL_law_1320 ?_
  refine g_sld o hs9 dL_law_1321 hf (fun hf => ?_)
  obtain ⟨r97, hr97, hf⟩ := bd_some hf
  refine k_X2_preserves_W o hr97 m_1089 (Nat.le_of_ble_eq_true rfl) (Nat.le_of_ble_eq_true rfl) ⟨by omega, by omega⟩ dL_law_1322 ?_
  refine g_istore o [(6, .int r97.1), (5, .int r96.1), (0, .ref sb), (1, .ref (a 0)), (2, .ref (e 0)), (3, .ref oa), (4, .int i)] (Nat.le_of_ble_eq_true rfl) rfl dL_law_1325 ?_
  refine g_aload_n o 4 rfl rfl dL_law_1327 ?_
  obtain ⟨r98, hr98, hf⟩ := bd_some hf
  refine k_X2_thrown_W o hr98 m_984 (Nat.le_of_ble_eq_true rfl) (Nat.le_of_ble_eq_true rfl) ⟨by omega, by omega⟩ dL_law_1328 ?_
  refine g_iload o 1 rfl dL_law_1331 ?_
  refine g_ic_eq (tgt := 1338) o rfl dL_law_1333 hf (fun hc hf => ?_) (fun hc hf => ?_)
  · refine g_iload o 1 rfl dL_law_1338 ?_
    refine g_if_ne (tgt := 1362) o rfl dL_law_1340 hf (fun hc hf => ?_) (fun hc hf => ?_)
    · refine g_goto (tgt := 3660) o rfl dL_law_1362 ?_
      refine g_iinc o [(4, .int (i + 6)), (6, .int r97.1), (5, .int r96.1), (0, .ref sb), (1, .ref (a 0)), (2, .ref (e 0)), (3, .ref oa)] 6 rfl (inc_6 _) (Nat.le_of_ble_eq_true rfl) rfl dL_law_3660 ?_
      refine g_goto (tgt := 23) o rfl dL_law_3663 ?_
      have hp := lf_c hf hw
      exact g_perm [3, 4, 5, 6, 0] rfl (hp _ _ (by omega) (by omega))
    · refine g_aload_n o 5 rfl rfl dL_law_1343 ?_
      refine g_iconst o ic_0 dL_law_1344 ?_
      refine W_old o dL_law_1345 hf (fun hf => ?_)
      refine g_iload o 0 rfl dL_law_1346 ?_
      refine g_if_eq (tgt := 1355) o rfl dL_law_1348 hf (fun hc hf => ?_) (fun hc hf => ?_)
      · refine g_lconst o lc_0 dL_law_1355 ?_
        refine g_lcmp o dL_law_1356 ?_
        refine g_if_eq (tgt := 1362) o rfl dL_law_1357 hf (fun hc hf => ?_) (fun hc hf => ?_)
        · refine g_goto (tgt := 3660) o rfl dL_law_1362 ?_
          refine g_iinc o [(4, .int (i + 6)), (6, .int r97.1), (5, .int r96.1), (0, .ref sb), (1, .ref (a 0)), (2, .ref (e 0)), (3, .ref oa)] 6 rfl (inc_6 _) (Nat.le_of_ble_eq_true rfl) rfl dL_law_3660 ?_
          refine g_goto (tgt := 23) o rfl dL_law_3663 ?_
          have hp := lf_c hf hw
          exact g_perm [3, 4, 5, 6, 0] rfl (hp _ _ (by omega) (by omega))
        · refine g_iconst o ic_0 dL_law_1360 ?_
          exact (hR _ (lf_x hf hw)).elim
      · refine g_lconst o lc_1 dL_law_1351 ?_
        refine g_goto (tgt := 1356) o rfl dL_law_1352 ?_
        refine g_lcmp o dL_law_1356 ?_
        refine g_if_eq (tgt := 1362) o rfl dL_law_1357 hf (fun hc hf => ?_) (fun hc hf => ?_)
        · refine g_goto (tgt := 3660) o rfl dL_law_1362 ?_
          refine g_iinc o [(4, .int (i + 6)), (6, .int r97.1), (5, .int r96.1), (0, .ref sb), (1, .ref (a 0)), (2, .ref (e 0)), (3, .ref oa)] 6 rfl (inc_6 _) (Nat.le_of_ble_eq_true rfl) rfl dL_law_3660 ?_
          refine g_goto (tgt := 23) o rfl dL_law_3663 ?_
          have hp := lf_c hf hw
          exact g_perm [3, 4, 5, 6, 0] rfl (hp _ _ (by omega) (by omega))
        · refine g_iconst o ic_0 dL_law_1360 ?_
          exact (hR _ (lf_x hf hw)).elim
  · refine g_iconst o ic_0 dL_law_1336 ?_
    exact (hR _ (lf_x hf hw)).elim
set_option maxRecDepth 20000 in
set_option maxHeartbeats 4000000 in
theorem b_law_c17 {x : Cx} (o : Ok x cL_law 7 RL 100 601024 7293034) {a b c e : Nat → Nat} {oa sb LL : Nat} {xs : Nat → Int32} (hs9 : SF x sb LL xs) {mm : Nat} (r : (Int32 × St × St × St × St × (Nat → Int64)) ⊕ Int32) (hR : ∀ t, r = .inr t → False) (i : Int32) (u v w m : St) (f : Nat → Int64) (ww : (Int32 × St × St × St × St × (Nat → Int64)) ⊕ ((Int32 × St × St × St × St × (Nat → Int64)) ⊕ Int32)) (hf : f_law_c17 xs LL i u v w m f = some ww) (hw : (∃ s2, ww = .inl s2 ∧ (fun (s : Int32 × St × St × St × St × (Nat → Int64)) => ∀ k n : Nat, k + 10 * mm ≤ 601024 → n + 60 * mm ≤ 7293034 → G x 7 k n (wLw a s.2.1 b s.2.2.1 c s.2.2.2.1 e s.2.2.2.2.1 oa s.2.2.2.2.2 (cxT x)) [(0, .ref sb), (1, .ref (a 0)), (2, .ref (e 0)), (3, .ref oa), (4, .int s.1)] 23 []) s2) ∨ ww = .inr r) {k n : Nat} (hk : k + 10 * (mm + 1) ≤ 601024) (hn : n + 60 * (mm + 1) ≤ 7293034) : G x 7 k n (wLw a u b v c w e m oa f (cxT x)) [(0, .ref sb), (1, .ref (a 0)), (2, .ref (e 0)), (3, .ref oa), (4, .int i)] 1365 [] := by
  unfold f_law_c17 at hf
  refine g_aload_n o 1 rfl rfl dL_law_1365 ?_
  refine g_aload_n o 0 rfl rfl dL_law_1366 ?_
  refine g_iload o 4 rfl dL_law_1367 ?_
  refine g_iconst o ic_1 dL_law_1369 ?_
  refine g_iadd o dL_law_1370 ?_
  refine g_sld o hs9 dL_law_1371 hf (fun hf => ?_)
  refine g_aload_n o 0 rfl rfl dL_law_1372 ?_
  refine g_iload o 4 rfl dL_law_1373 ?_
  refine g_iconst o ic_2 dL_law_1375 ?_
  refine g_iadd o dL_law_1376 ?_
  refine g_sld o hs9 dL_law_1377 hf (fun hf => ?_)
  refine g_aload_n o 3 rfl rfl dL_law_1378 ?_
  obtain ⟨r102, hr102, hf⟩ := bd_some hf
  refine k_L_isPolymorphism_W o hr102 m_508 (Nat.le_of_ble_eq_true rfl) (Nat.le_of_ble_eq_true rfl) ⟨by omega, by omega⟩ dL_law_1379 ?_
  refine g_istore o [(5, .int r102.1), (0, .ref sb), (1, .ref (a 0)), (2, .ref (e 0)), (3, .ref oa), (4, .int i)] (Nat.le_of_ble_eq_true rfl) rfl dL_law_1382 ?_
  refine g_aload_n o 3 rfl rfl dL_law_1384 ?_
  refine g_aload_n o 1 rfl rfl dL_law_1385 ?_
  refine g_iload o 5 rfl dL_law_1386 ?_
  refine g_iconst o ic_1 dL_law_1388 ?_
  refine g_iadd o dL_law_1389 ?_
  refine g_sld o hs9 dL_law_1390 hf (fun hf => ?_)
  refine g_aload_n o 1 rfl rfl dL_law_1391 ?_
  refine g_iload o 5 rfl dL_law_1392 ?_
  refine g_iconst o ic_2 dL_law_1394 ?_
  refine g_iadd o dL_law_1395 ?_
  refine g_sld o hs9 dL_law_1396 hf (fun hf => ?_)
  obtain ⟨r103, hr103, hf⟩ := bd_some hf
  refine k_X2_isPolymorphism_W o hr103 m_1104 (Nat.le_of_ble_eq_true rfl) (Nat.le_of_ble_eq_true rfl) ⟨by omega, by omega⟩ dL_law_1397 ?_
  refine g_istore o [(6, .int r103.1), (5, .int r102.1), (0, .ref sb), (1, .ref (a 0)), (2, .ref (e 0)), (3, .ref oa), (4, .int i)] (Nat.le_of_ble_eq_true rfl) rfl dL_law_1400 ?_
  refine g_aload_n o 4 rfl rfl dL_law_1402 ?_
  obtain ⟨r104, hr104, hf⟩ := bd_some hf
  refine k_X2_thrown_W o hr104 m_984 (Nat.le_of_ble_eq_true rfl) (Nat.le_of_ble_eq_true rfl) ⟨by omega, by omega⟩ dL_law_1403 ?_
  refine g_iload o 1 rfl dL_law_1406 ?_
  refine g_ic_eq (tgt := 1413) o rfl dL_law_1408 hf (fun hc hf => ?_) (fun hc hf => ?_)
  · refine g_iload o 1 rfl dL_law_1413 ?_
    refine g_if_ne (tgt := 1437) o rfl dL_law_1415 hf (fun hc hf => ?_) (fun hc hf => ?_)
    · refine g_goto (tgt := 3660) o rfl dL_law_1437 ?_
      refine g_iinc o [(4, .int (i + 6)), (6, .int r103.1), (5, .int r102.1), (0, .ref sb), (1, .ref (a 0)), (2, .ref (e 0)), (3, .ref oa)] 6 rfl (inc_6 _) (Nat.le_of_ble_eq_true rfl) rfl dL_law_3660 ?_
      refine g_goto (tgt := 23) o rfl dL_law_3663 ?_
      have hp := lf_c hf hw
      exact g_perm [3, 4, 5, 6, 0] rfl (hp _ _ (by omega) (by omega))
    · refine g_aload_n o 5 rfl rfl dL_law_1418 ?_
      refine g_iconst o ic_0 dL_law_1419 ?_
      refine W_old o dL_law_1420 hf (fun hf => ?_)
      refine g_iload o 0 rfl dL_law_1421 ?_
      refine g_if_eq (tgt := 1430) o rfl dL_law_1423 hf (fun hc hf => ?_) (fun hc hf => ?_)
      · refine g_lconst o lc_0 dL_law_1430 ?_
        refine g_lcmp o dL_law_1431 ?_
        refine g_if_eq (tgt := 1437) o rfl dL_law_1432 hf (fun hc hf => ?_) (fun hc hf => ?_)
        · refine g_goto (tgt := 3660) o rfl dL_law_1437 ?_
          refine g_iinc o [(4, .int (i + 6)), (6, .int r103.1), (5, .int r102.1), (0, .ref sb), (1, .ref (a 0)), (2, .ref (e 0)), (3, .ref oa)] 6 rfl (inc_6 _) (Nat.le_of_ble_eq_true rfl) rfl dL_law_3660 ?_
          refine g_goto (tgt := 23) o rfl dL_law_3663 ?_
          have hp := lf_c hf hw
          exact g_perm [3, 4, 5, 6, 0] rfl (hp _ _ (by omega) (by omega))
        · refine g_iconst o ic_0 dL_law_1435 ?_
          exact (hR _ (lf_x hf hw)).elim
      · refine g_lconst o lc_1 dL_law_1426 ?_
        refine g_goto (tgt := 1431) o rfl dL_law_1427 ?_
        refine g_lcmp o dL_law_1431 ?_
        refine g_if_eq (tgt := 1437) o rfl dL_law_1432 hf (fun hc hf => ?_) (fun hc hf => ?_)
        · refine g_goto (tgt := 3660) o rfl dL_law_1437 ?_
          refine g_iinc o [(4, .int (i + 6)), (6, .int r103.1), (5, .int r102.1), (0, .ref sb), (1, .ref (a 0)), (2, .ref (e 0)), (3, .ref oa)] 6 rfl (inc_6 _) (Nat.le_of_ble_eq_true rfl) rfl dL_law_3660 ?_
          refine g_goto (tgt := 23) o rfl dL_law_3663 ?_
          have hp := lf_c hf hw
          exact g_perm [3, 4, 5, 6, 0] rfl (hp _ _ (by omega) (by omega))
        · refine g_iconst o ic_0 dL_law_1435 ?_
          exact (hR _ (lf_x hf hw)).elim
  · refine g_iconst o ic_0 dL_law_1411 ?_
    exact (hR _ (lf_x hf hw)).elim
set_option maxRecDepth 20000 in
set_option maxHeartbeats 4000000 in
theorem b_law_c18 {x : Cx} (o : Ok x cL_law 7 RL 100 601024 7293034) {a b c e : Nat → Nat} {oa sb LL : Nat} {xs : Nat → Int32} (hs9 : SF x sb LL xs) {mm : Nat} (r : (Int32 × St × St × St × St × (Nat → Int64)) ⊕ Int32) (hR : ∀ t, r = .inr t → False) (i : Int32) (u v w m : St) (f : Nat → Int64) (ww : (Int32 × St × St × St × St × (Nat → Int64)) ⊕ ((Int32 × St × St × St × St × (Nat → Int64)) ⊕ Int32)) (hf : f_law_c18 xs LL i u v w m f = some ww) (hw : (∃ s2, ww = .inl s2 ∧ (fun (s : Int32 × St × St × St × St × (Nat → Int64)) => ∀ k n : Nat, k + 10 * mm ≤ 601024 → n + 60 * mm ≤ 7293034 → G x 7 k n (wLw a s.2.1 b s.2.2.1 c s.2.2.2.1 e s.2.2.2.2.1 oa s.2.2.2.2.2 (cxT x)) [(0, .ref sb), (1, .ref (a 0)), (2, .ref (e 0)), (3, .ref oa), (4, .int s.1)] 23 []) s2) ∨ ww = .inr r) {k n : Nat} (hk : k + 10 * (mm + 1) ≤ 601024) (hn : n + 60 * (mm + 1) ≤ 7293034) : G x 7 k n (wLw a u b v c w e m oa f (cxT x)) [(0, .ref sb), (1, .ref (a 0)), (2, .ref (e 0)), (3, .ref oa), (4, .int i)] 1440 [] := by
  unfold f_law_c18 at hf
  refine g_aload_n o 1 rfl rfl dL_law_1440 ?_
  refine g_aload_n o 0 rfl rfl dL_law_1441 ?_
  refine g_iload o 4 rfl dL_law_1442 ?_
  refine g_iconst o ic_1 dL_law_1444 ?_
  refine g_iadd o dL_law_1445 ?_
  refine g_sld o hs9 dL_law_1446 hf (fun hf => ?_)
  refine g_aload_n o 3 rfl rfl dL_law_1447 ?_
  obtain ⟨r108, hr108, hf⟩ := bd_some hf
  refine k_L_polymorphismCount_W o hr108 m_519 (Nat.le_of_ble_eq_true rfl) (Nat.le_of_ble_eq_true rfl) ⟨by omega, by omega⟩ dL_law_1448 ?_
  refine g_istore o [(5, .int r108.1), (0, .ref sb), (1, .ref (a 0)), (2, .ref (e 0)), (3, .ref oa), (4, .int i)] (Nat.le_of_ble_eq_true rfl) rfl dL_law_1451 ?_
  refine g_aload_n o 3 rfl rfl dL_law_1453 ?_
  refine g_aload_n o 1 rfl rfl dL_law_1454 ?_
  refine g_iload o 5 rfl dL_law_1455 ?_
  refine g_iconst o ic_1 dL_law_1457 ?_
  refine g_iadd o dL_law_1458 ?_
  refine g_sld o hs9 dL_law_1459 hf (fun hf => ?_)
  obtain ⟨r109, hr109, hf⟩ := bd_some hf
  refine k_X2_polymorphismCount_W o hr109 m_1112 (Nat.le_of_ble_eq_true rfl) (Nat.le_of_ble_eq_true rfl) ⟨by omega, by omega⟩ dL_law_1460 ?_
  refine g_istore o [(6, .int r109.1), (5, .int r108.1), (0, .ref sb), (1, .ref (a 0)), (2, .ref (e 0)), (3, .ref oa), (4, .int i)] (Nat.le_of_ble_eq_true rfl) rfl dL_law_1463 ?_
  refine g_aload_n o 4 rfl rfl dL_law_1465 ?_
  obtain ⟨r110, hr110, hf⟩ := bd_some hf
  refine k_X2_thrown_W o hr110 m_984 (Nat.le_of_ble_eq_true rfl) (Nat.le_of_ble_eq_true rfl) ⟨by omega, by omega⟩ dL_law_1466 ?_
  refine g_iload o 1 rfl dL_law_1469 ?_
  refine g_ic_eq (tgt := 1476) o rfl dL_law_1471 hf (fun hc hf => ?_) (fun hc hf => ?_)
  · refine g_iload o 1 rfl dL_law_1476 ?_
    refine g_if_ne (tgt := 1493) o rfl dL_law_1478 hf (fun hc hf => ?_) (fun hc hf => ?_)
    · refine g_goto (tgt := 3660) o rfl dL_law_1493 ?_
      refine g_iinc o [(4, .int (i + 6)), (6, .int r109.1), (5, .int r108.1), (0, .ref sb), (1, .ref (a 0)), (2, .ref (e 0)), (3, .ref oa)] 6 rfl (inc_6 _) (Nat.le_of_ble_eq_true rfl) rfl dL_law_3660 ?_
      refine g_goto (tgt := 23) o rfl dL_law_3663 ?_
      have hp := lf_c hf hw
      exact g_perm [3, 4, 5, 6, 0] rfl (hp _ _ (by omega) (by omega))
    · refine g_aload_n o 5 rfl rfl dL_law_1481 ?_
      refine g_iconst o ic_0 dL_law_1482 ?_
      refine W_old o dL_law_1483 hf (fun hf => ?_)
      refine g_iload o 0 rfl dL_law_1484 ?_
      refine g_i2l o dL_law_1486 ?_
      refine g_lcmp o dL_law_1487 ?_
      refine g_if_eq (tgt := 1493) o rfl dL_law_1488 hf (fun hc hf => ?_) (fun hc hf => ?_)
      · refine g_goto (tgt := 3660) o rfl dL_law_1493 ?_
        refine g_iinc o [(4, .int (i + 6)), (6, .int r109.1), (5, .int r108.1), (0, .ref sb), (1, .ref (a 0)), (2, .ref (e 0)), (3, .ref oa)] 6 rfl (inc_6 _) (Nat.le_of_ble_eq_true rfl) rfl dL_law_3660 ?_
        refine g_goto (tgt := 23) o rfl dL_law_3663 ?_
        have hp := lf_c hf hw
        exact g_perm [3, 4, 5, 6, 0] rfl (hp _ _ (by omega) (by omega))
      · refine g_iconst o ic_0 dL_law_1491 ?_
        exact (hR _ (lf_x hf hw)).elim
  · refine g_iconst o ic_0 dL_law_1474 ?_
    exact (hR _ (lf_x hf hw)).elim
set_option maxRecDepth 20000 in
set_option maxHeartbeats 4000000 in
theorem b_law_c19 {x : Cx} (o : Ok x cL_law 7 RL 100 601024 7293034) {a b c e : Nat → Nat} {oa sb LL : Nat} {xs : Nat → Int32} (hs9 : SF x sb LL xs) {mm : Nat} (r : (Int32 × St × St × St × St × (Nat → Int64)) ⊕ Int32) (hR : ∀ t, r = .inr t → False) (i : Int32) (u v w m : St) (f : Nat → Int64) (ww : (Int32 × St × St × St × St × (Nat → Int64)) ⊕ ((Int32 × St × St × St × St × (Nat → Int64)) ⊕ Int32)) (hf : f_law_c19 xs LL i u v w m f = some ww) (hw : (∃ s2, ww = .inl s2 ∧ (fun (s : Int32 × St × St × St × St × (Nat → Int64)) => ∀ k n : Nat, k + 10 * mm ≤ 601024 → n + 60 * mm ≤ 7293034 → G x 7 k n (wLw a s.2.1 b s.2.2.1 c s.2.2.2.1 e s.2.2.2.2.1 oa s.2.2.2.2.2 (cxT x)) [(0, .ref sb), (1, .ref (a 0)), (2, .ref (e 0)), (3, .ref oa), (4, .int s.1)] 23 []) s2) ∨ ww = .inr r) {k n : Nat} (hk : k + 10 * (mm + 1) ≤ 601024) (hn : n + 60 * (mm + 1) ≤ 7293034) : G x 7 k n (wLw a u b v c w e m oa f (cxT x)) [(0, .ref sb), (1, .ref (a 0)), (2, .ref (e 0)), (3, .ref oa), (4, .int i)] 1496 [] := by
  unfold f_law_c19 at hf
  refine g_aload_n o 1 rfl rfl dL_law_1496 ?_
  refine g_aload_n o 0 rfl rfl dL_law_1497 ?_
  refine g_iload o 4 rfl dL_law_1498 ?_
  refine g_iconst o ic_1 dL_law_1500 ?_
  refine g_iadd o dL_law_1501 ?_
  refine g_sld o hs9 dL_law_1502 hf (fun hf => ?_)
  refine g_aload_n o 0 rfl rfl dL_law_1503 ?_
  refine g_iload o 4 rfl dL_law_1504 ?_
  refine g_iconst o ic_2 dL_law_1506 ?_
  refine g_iadd o dL_law_1507 ?_
  refine g_sld o hs9 dL_law_1508 hf (fun hf => ?_)
  refine g_aload_n o 3 rfl rfl dL_law_1509 ?_
  obtain ⟨r114, hr114, hf⟩ := bd_some hf
  refine k_L_polymorphism_W o hr114 m_526 (Nat.le_of_ble_eq_true rfl) (Nat.le_of_ble_eq_true rfl) ⟨by omega, by omega⟩ dL_law_1510 ?_
  refine g_istore o [(5, .int r114.1), (0, .ref sb), (1, .ref (a 0)), (2, .ref (e 0)), (3, .ref oa), (4, .int i)] (Nat.le_of_ble_eq_true rfl) rfl dL_law_1513 ?_
  refine g_aload_n o 3 rfl rfl dL_law_1515 ?_
  refine g_aload_n o 1 rfl rfl dL_law_1516 ?_
  refine g_iload o 5 rfl dL_law_1517 ?_
  refine g_iconst o ic_1 dL_law_1519 ?_
  refine g_iadd o dL_law_1520 ?_
  refine g_sld o hs9 dL_law_1521 hf (fun hf => ?_)
  refine g_aload_n o 1 rfl rfl dL_law_1522 ?_
  refine g_iload o 5 rfl dL_law_1523 ?_
  refine g_iconst o ic_2 dL_law_1525 ?_
  refine g_iadd o dL_law_1526 ?_
  refine g_sld o hs9 dL_law_1527 hf (fun hf => ?_)
  obtain ⟨r115, hr115, hf⟩ := bd_some hf
  refine k_X2_polymorphism_W o hr115 m_1116 (Nat.le_of_ble_eq_true rfl) (Nat.le_of_ble_eq_true rfl) ⟨by omega, by omega⟩ dL_law_1528 ?_
  refine g_istore o [(6, .int r115.1), (5, .int r114.1), (0, .ref sb), (1, .ref (a 0)), (2, .ref (e 0)), (3, .ref oa), (4, .int i)] (Nat.le_of_ble_eq_true rfl) rfl dL_law_1531 ?_
  refine g_aload_n o 4 rfl rfl dL_law_1533 ?_
  obtain ⟨r116, hr116, hf⟩ := bd_some hf
  refine k_X2_thrown_W o hr116 m_984 (Nat.le_of_ble_eq_true rfl) (Nat.le_of_ble_eq_true rfl) ⟨by omega, by omega⟩ dL_law_1534 ?_
  refine g_iload o 1 rfl dL_law_1537 ?_
  refine g_ic_eq (tgt := 1544) o rfl dL_law_1539 hf (fun hc hf => ?_) (fun hc hf => ?_)
  · refine g_iload o 1 rfl dL_law_1544 ?_
    refine g_if_ne (tgt := 1561) o rfl dL_law_1546 hf (fun hc hf => ?_) (fun hc hf => ?_)
    · refine g_goto (tgt := 3660) o rfl dL_law_1561 ?_
      refine g_iinc o [(4, .int (i + 6)), (6, .int r115.1), (5, .int r114.1), (0, .ref sb), (1, .ref (a 0)), (2, .ref (e 0)), (3, .ref oa)] 6 rfl (inc_6 _) (Nat.le_of_ble_eq_true rfl) rfl dL_law_3660 ?_
      refine g_goto (tgt := 23) o rfl dL_law_3663 ?_
      have hp := lf_c hf hw
      exact g_perm [3, 4, 5, 6, 0] rfl (hp _ _ (by omega) (by omega))
    · refine g_aload_n o 5 rfl rfl dL_law_1549 ?_
      refine g_iconst o ic_0 dL_law_1550 ?_
      refine W_old o dL_law_1551 hf (fun hf => ?_)
      refine g_iload o 0 rfl dL_law_1552 ?_
      refine g_i2l o dL_law_1554 ?_
      refine g_lcmp o dL_law_1555 ?_
      refine g_if_eq (tgt := 1561) o rfl dL_law_1556 hf (fun hc hf => ?_) (fun hc hf => ?_)
      · refine g_goto (tgt := 3660) o rfl dL_law_1561 ?_
        refine g_iinc o [(4, .int (i + 6)), (6, .int r115.1), (5, .int r114.1), (0, .ref sb), (1, .ref (a 0)), (2, .ref (e 0)), (3, .ref oa)] 6 rfl (inc_6 _) (Nat.le_of_ble_eq_true rfl) rfl dL_law_3660 ?_
        refine g_goto (tgt := 23) o rfl dL_law_3663 ?_
        have hp := lf_c hf hw
        exact g_perm [3, 4, 5, 6, 0] rfl (hp _ _ (by omega) (by omega))
      · refine g_iconst o ic_0 dL_law_1559 ?_
        exact (hR _ (lf_x hf hw)).elim
  · refine g_iconst o ic_0 dL_law_1542 ?_
    exact (hR _ (lf_x hf hw)).elim
set_option maxRecDepth 20000 in
set_option maxHeartbeats 4000000 in
theorem b_law_c20 {x : Cx} (o : Ok x cL_law 7 RL 100 601024 7293034) {a b c e : Nat → Nat} {oa sb LL : Nat} {xs : Nat → Int32} (hs9 : SF x sb LL xs) {mm : Nat} (r : (Int32 × St × St × St × St × (Nat → Int64)) ⊕ Int32) (hR : ∀ t, r = .inr t → False) (i : Int32) (u v w m : St) (f : Nat → Int64) (ww : (Int32 × St × St × St × St × (Nat → Int64)) ⊕ ((Int32 × St × St × St × St × (Nat → Int64)) ⊕ Int32)) (hf : f_law_c20 xs LL i u v w m f = some ww) (hw : (∃ s2, ww = .inl s2 ∧ (fun (s : Int32 × St × St × St × St × (Nat → Int64)) => ∀ k n : Nat, k + 10 * mm ≤ 601024 → n + 60 * mm ≤ 7293034 → G x 7 k n (wLw a s.2.1 b s.2.2.1 c s.2.2.2.1 e s.2.2.2.2.1 oa s.2.2.2.2.2 (cxT x)) [(0, .ref sb), (1, .ref (a 0)), (2, .ref (e 0)), (3, .ref oa), (4, .int s.1)] 23 []) s2) ∨ ww = .inr r) {k n : Nat} (hk : k + 10 * (mm + 1) ≤ 601024) (hn : n + 60 * (mm + 1) ≤ 7293034) : G x 7 k n (wLw a u b v c w e m oa f (cxT x)) [(0, .ref sb), (1, .ref (a 0)), (2, .ref (e 0)), (3, .ref oa), (4, .int i)] 1564 [] := by
  unfold f_law_c20 at hf
  refine g_aload_n o 1 rfl rfl dL_law_1564 ?_
  refine g_aload_n o 0 rfl rfl dL_law_1565 ?_
  refine g_iload o 4 rfl dL_law_1566 ?_
  refine g_iconst o ic_1 dL_law_1568 ?_
  refine g_iadd o dL_law_1569 ?_
  refine g_sld o hs9 dL_law_1570 hf (fun hf => ?_)
  refine g_aload_n o 0 rfl rfl dL_law_1571 ?_
  refine g_iload o 4 rfl dL_law_1572 ?_
  refine g_iconst o ic_2 dL_law_1574 ?_
  refine g_iadd o dL_law_1575 ?_
  refine g_sld o hs9 dL_law_1576 hf (fun hf => ?_)
  refine g_aload_n o 3 rfl rfl dL_law_1577 ?_
  obtain ⟨r120, hr120, hf⟩ := bd_some hf
  refine k_L_isIdempotent_W o hr120 m_550 (Nat.le_of_ble_eq_true rfl) (Nat.le_of_ble_eq_true rfl) ⟨by omega, by omega⟩ dL_law_1578 ?_
  refine g_istore o [(5, .int r120.1), (0, .ref sb), (1, .ref (a 0)), (2, .ref (e 0)), (3, .ref oa), (4, .int i)] (Nat.le_of_ble_eq_true rfl) rfl dL_law_1581 ?_
  refine g_aload_n o 3 rfl rfl dL_law_1583 ?_
  refine g_aload_n o 1 rfl rfl dL_law_1584 ?_
  refine g_iload o 5 rfl dL_law_1585 ?_
  refine g_iconst o ic_1 dL_law_1587 ?_
  refine g_iadd o dL_law_1588 ?_
  refine g_sld o hs9 dL_law_1589 hf (fun hf => ?_)
  refine g_aload_n o 1 rfl rfl dL_law_1590 ?_
  refine g_iload o 5 rfl dL_law_1591 ?_
  refine g_iconst o ic_2 dL_law_1593 ?_
  refine g_iadd o dL_law_1594 ?_
  refine g_sld o hs9 dL_law_1595 hf (fun hf => ?_)
  obtain ⟨r121, hr121, hf⟩ := bd_some hf
  refine k_X2_isIdempotent_W o hr121 m_1120 (Nat.le_of_ble_eq_true rfl) (Nat.le_of_ble_eq_true rfl) ⟨by omega, by omega⟩ dL_law_1596 ?_
  refine g_istore o [(6, .int r121.1), (5, .int r120.1), (0, .ref sb), (1, .ref (a 0)), (2, .ref (e 0)), (3, .ref oa), (4, .int i)] (Nat.le_of_ble_eq_true rfl) rfl dL_law_1599 ?_
  refine g_aload_n o 4 rfl rfl dL_law_1601 ?_
  obtain ⟨r122, hr122, hf⟩ := bd_some hf
  refine k_X2_thrown_W o hr122 m_984 (Nat.le_of_ble_eq_true rfl) (Nat.le_of_ble_eq_true rfl) ⟨by omega, by omega⟩ dL_law_1602 ?_
  refine g_iload o 1 rfl dL_law_1605 ?_
  refine g_ic_eq (tgt := 1612) o rfl dL_law_1607 hf (fun hc hf => ?_) (fun hc hf => ?_)
  · refine g_iload o 1 rfl dL_law_1612 ?_
    refine g_if_ne (tgt := 1636) o rfl dL_law_1614 hf (fun hc hf => ?_) (fun hc hf => ?_)
    · refine g_goto (tgt := 3660) o rfl dL_law_1636 ?_
      refine g_iinc o [(4, .int (i + 6)), (6, .int r121.1), (5, .int r120.1), (0, .ref sb), (1, .ref (a 0)), (2, .ref (e 0)), (3, .ref oa)] 6 rfl (inc_6 _) (Nat.le_of_ble_eq_true rfl) rfl dL_law_3660 ?_
      refine g_goto (tgt := 23) o rfl dL_law_3663 ?_
      have hp := lf_c hf hw
      exact g_perm [3, 4, 5, 6, 0] rfl (hp _ _ (by omega) (by omega))
    · refine g_aload_n o 5 rfl rfl dL_law_1617 ?_
      refine g_iconst o ic_0 dL_law_1618 ?_
      refine W_old o dL_law_1619 hf (fun hf => ?_)
      refine g_iload o 0 rfl dL_law_1620 ?_
      refine g_if_eq (tgt := 1629) o rfl dL_law_1622 hf (fun hc hf => ?_) (fun hc hf => ?_)
      · refine g_lconst o lc_0 dL_law_1629 ?_
        refine g_lcmp o dL_law_1630 ?_
        refine g_if_eq (tgt := 1636) o rfl dL_law_1631 hf (fun hc hf => ?_) (fun hc hf => ?_)
        · refine g_goto (tgt := 3660) o rfl dL_law_1636 ?_
          refine g_iinc o [(4, .int (i + 6)), (6, .int r121.1), (5, .int r120.1), (0, .ref sb), (1, .ref (a 0)), (2, .ref (e 0)), (3, .ref oa)] 6 rfl (inc_6 _) (Nat.le_of_ble_eq_true rfl) rfl dL_law_3660 ?_
          refine g_goto (tgt := 23) o rfl dL_law_3663 ?_
          have hp := lf_c hf hw
          exact g_perm [3, 4, 5, 6, 0] rfl (hp _ _ (by omega) (by omega))
        · refine g_iconst o ic_0 dL_law_1634 ?_
          exact (hR _ (lf_x hf hw)).elim
      · refine g_lconst o lc_1 dL_law_1625 ?_
        refine g_goto (tgt := 1630) o rfl dL_law_1626 ?_
        refine g_lcmp o dL_law_1630 ?_
        refine g_if_eq (tgt := 1636) o rfl dL_law_1631 hf (fun hc hf => ?_) (fun hc hf => ?_)
        · refine g_goto (tgt := 3660) o rfl dL_law_1636 ?_
          refine g_iinc o [(4, .int (i + 6)), (6, .int r121.1), (5, .int r120.1), (0, .ref sb), (1, .ref (a 0)), (2, .ref (e 0)), (3, .ref oa)] 6 rfl (inc_6 _) (Nat.le_of_ble_eq_true rfl) rfl dL_law_3660 ?_
          refine g_goto (tgt := 23) o rfl dL_law_3663 ?_
          have hp := lf_c hf hw
          exact g_perm [3, 4, 5, 6, 0] rfl (hp _ _ (by omega) (by omega))
        · refine g_iconst o ic_0 dL_law_1634 ?_
          exact (hR _ (lf_x hf hw)).elim
  · refine g_iconst o ic_0 dL_law_1610 ?_
    exact (hR _ (lf_x hf hw)).elim
set_option maxRecDepth 20000 in
set_option maxHeartbeats 4000000 in
theorem b_law_c21 {x : Cx} (o : Ok x cL_law 7 RL 100 601024 7293034) {a b c e : Nat → Nat} {oa sb LL : Nat} {xs : Nat → Int32} (hs9 : SF x sb LL xs) {mm : Nat} (r : (Int32 × St × St × St × St × (Nat → Int64)) ⊕ Int32) (hR : ∀ t, r = .inr t → False) (i : Int32) (u v w m : St) (f : Nat → Int64) (ww : (Int32 × St × St × St × St × (Nat → Int64)) ⊕ ((Int32 × St × St × St × St × (Nat → Int64)) ⊕ Int32)) (hf : f_law_c21 xs LL i u v w m f = some ww) (hw : (∃ s2, ww = .inl s2 ∧ (fun (s : Int32 × St × St × St × St × (Nat → Int64)) => ∀ k n : Nat, k + 10 * mm ≤ 601024 → n + 60 * mm ≤ 7293034 → G x 7 k n (wLw a s.2.1 b s.2.2.1 c s.2.2.2.1 e s.2.2.2.2.1 oa s.2.2.2.2.2 (cxT x)) [(0, .ref sb), (1, .ref (a 0)), (2, .ref (e 0)), (3, .ref oa), (4, .int s.1)] 23 []) s2) ∨ ww = .inr r) {k n : Nat} (hk : k + 10 * (mm + 1) ≤ 601024) (hn : n + 60 * (mm + 1) ≤ 7293034) : G x 7 k n (wLw a u b v c w e m oa f (cxT x)) [(0, .ref sb), (1, .ref (a 0)), (2, .ref (e 0)), (3, .ref oa), (4, .int i)] 1639 [] := by
  unfold f_law_c21 at hf
  refine g_aload_n o 1 rfl rfl dL_law_1639 ?_
  refine g_aload_n o 0 rfl rfl dL_law_1640 ?_
  refine g_iload o 4 rfl dL_law_1641 ?_
  refine g_iconst o ic_1 dL_law_1643 ?_
  refine g_iadd o dL_law_1644 ?_
  refine g_sld o hs9 dL_law_1645 hf (fun hf => ?_)
  refine g_aload_n o 0 rfl rfl dL_law_1646 ?_
  refine g_iload o 4 rfl dL_law_1647 ?_
  refine g_iconst o ic_2 dL_law_1649 ?_
  refine g_iadd o dL_law_1650 ?_
  refine g_sld o hs9 dL_law_1651 hf (fun hf => ?_)
  refine g_aload_n o 3 rfl rfl dL_law_1652 ?_
  obtain ⟨r126, hr126, hf⟩ := bd_some hf
  refine k_L_isMonotone_W o hr126 m_557 (Nat.le_of_ble_eq_true rfl) (Nat.le_of_ble_eq_true rfl) ⟨by omega, by omega⟩ dL_law_1653 ?_
  refine g_istore o [(5, .int r126.1), (0, .ref sb), (1, .ref (a 0)), (2, .ref (e 0)), (3, .ref oa), (4, .int i)] (Nat.le_of_ble_eq_true rfl) rfl dL_law_1656 ?_
  refine g_aload_n o 3 rfl rfl dL_law_1658 ?_
  refine g_aload_n o 1 rfl rfl dL_law_1659 ?_
  refine g_iload o 5 rfl dL_law_1660 ?_
  refine g_iconst o ic_1 dL_law_1662 ?_
  refine g_iadd o dL_law_1663 ?_
  refine g_sld o hs9 dL_law_1664 hf (fun hf => ?_)
  refine g_aload_n o 1 rfl rfl dL_law_1665 ?_
  refine g_iload o 5 rfl dL_law_1666 ?_
  refine g_iconst o ic_2 dL_law_1668 ?_
  refine g_iadd o dL_law_1669 ?_
  refine g_sld o hs9 dL_law_1670 hf (fun hf => ?_)
  obtain ⟨r127, hr127, hf⟩ := bd_some hf
  refine k_X2_isMonotone_W o hr127 m_1124 (Nat.le_of_ble_eq_true rfl) (Nat.le_of_ble_eq_true rfl) ⟨by omega, by omega⟩ dL_law_1671 ?_
  refine g_istore o [(6, .int r127.1), (5, .int r126.1), (0, .ref sb), (1, .ref (a 0)), (2, .ref (e 0)), (3, .ref oa), (4, .int i)] (Nat.le_of_ble_eq_true rfl) rfl dL_law_1674 ?_
  refine g_aload_n o 4 rfl rfl dL_law_1676 ?_
  obtain ⟨r128, hr128, hf⟩ := bd_some hf
  refine k_X2_thrown_W o hr128 m_984 (Nat.le_of_ble_eq_true rfl) (Nat.le_of_ble_eq_true rfl) ⟨by omega, by omega⟩ dL_law_1677 ?_
  refine g_iload o 1 rfl dL_law_1680 ?_
  refine g_ic_eq (tgt := 1687) o rfl dL_law_1682 hf (fun hc hf => ?_) (fun hc hf => ?_)
  · refine g_iload o 1 rfl dL_law_1687 ?_
    refine g_if_ne (tgt := 1711) o rfl dL_law_1689 hf (fun hc hf => ?_) (fun hc hf => ?_)
    · refine g_goto (tgt := 3660) o rfl dL_law_1711 ?_
      refine g_iinc o [(4, .int (i + 6)), (6, .int r127.1), (5, .int r126.1), (0, .ref sb), (1, .ref (a 0)), (2, .ref (e 0)), (3, .ref oa)] 6 rfl (inc_6 _) (Nat.le_of_ble_eq_true rfl) rfl dL_law_3660 ?_
      refine g_goto (tgt := 23) o rfl dL_law_3663 ?_
      have hp := lf_c hf hw
      exact g_perm [3, 4, 5, 6, 0] rfl (hp _ _ (by omega) (by omega))
    · refine g_aload_n o 5 rfl rfl dL_law_1692 ?_
      refine g_iconst o ic_0 dL_law_1693 ?_
      refine W_old o dL_law_1694 hf (fun hf => ?_)
      refine g_iload o 0 rfl dL_law_1695 ?_
      refine g_if_eq (tgt := 1704) o rfl dL_law_1697 hf (fun hc hf => ?_) (fun hc hf => ?_)
      · refine g_lconst o lc_0 dL_law_1704 ?_
        refine g_lcmp o dL_law_1705 ?_
        refine g_if_eq (tgt := 1711) o rfl dL_law_1706 hf (fun hc hf => ?_) (fun hc hf => ?_)
        · refine g_goto (tgt := 3660) o rfl dL_law_1711 ?_
          refine g_iinc o [(4, .int (i + 6)), (6, .int r127.1), (5, .int r126.1), (0, .ref sb), (1, .ref (a 0)), (2, .ref (e 0)), (3, .ref oa)] 6 rfl (inc_6 _) (Nat.le_of_ble_eq_true rfl) rfl dL_law_3660 ?_
          refine g_goto (tgt := 23) o rfl dL_law_3663 ?_
          have hp := lf_c hf hw
          exact g_perm [3, 4, 5, 6, 0] rfl (hp _ _ (by omega) (by omega))
        · refine g_iconst o ic_0 dL_law_1709 ?_
          exact (hR _ (lf_x hf hw)).elim
      · refine g_lconst o lc_1 dL_law_1700 ?_
        refine g_goto (tgt := 1705) o rfl dL_law_1701 ?_
        refine g_lcmp o dL_law_1705 ?_
        refine g_if_eq (tgt := 1711) o rfl dL_law_1706 hf (fun hc hf => ?_) (fun hc hf => ?_)
        · refine g_goto (tgt := 3660) o rfl dL_law_1711 ?_
          refine g_iinc o [(4, .int (i + 6)), (6, .int r127.1), (5, .int r126.1), (0, .ref sb), (1, .ref (a 0)), (2, .ref (e 0)), (3, .ref oa)] 6 rfl (inc_6 _) (Nat.le_of_ble_eq_true rfl) rfl dL_law_3660 ?_
          refine g_goto (tgt := 23) o rfl dL_law_3663 ?_
          have hp := lf_c hf hw
          exact g_perm [3, 4, 5, 6, 0] rfl (hp _ _ (by omega) (by omega))
        · refine g_iconst o ic_0 dL_law_1709 ?_
          exact (hR _ (lf_x hf hw)).elim
  · refine g_iconst o ic_0 dL_law_1685 ?_
    exact (hR _ (lf_x hf hw)).elim
set_option maxRecDepth 20000 in
set_option maxHeartbeats 4000000 in
theorem b_law_c22 {x : Cx} (o : Ok x cL_law 7 RL 100 601024 7293034) {a b c e : Nat → Nat} {oa sb LL : Nat} {xs : Nat → Int32} (hs9 : SF x sb LL xs) {mm : Nat} (r : (Int32 × St × St × St × St × (Nat → Int64)) ⊕ Int32) (hR : ∀ t, r = .inr t → False) (i : Int32) (u v w m : St) (f : Nat → Int64) (ww : (Int32 × St × St × St × St × (Nat → Int64)) ⊕ ((Int32 × St × St × St × St × (Nat → Int64)) ⊕ Int32)) (hf : f_law_c22 xs LL i u v w m f = some ww) (hw : (∃ s2, ww = .inl s2 ∧ (fun (s : Int32 × St × St × St × St × (Nat → Int64)) => ∀ k n : Nat, k + 10 * mm ≤ 601024 → n + 60 * mm ≤ 7293034 → G x 7 k n (wLw a s.2.1 b s.2.2.1 c s.2.2.2.1 e s.2.2.2.2.1 oa s.2.2.2.2.2 (cxT x)) [(0, .ref sb), (1, .ref (a 0)), (2, .ref (e 0)), (3, .ref oa), (4, .int s.1)] 23 []) s2) ∨ ww = .inr r) {k n : Nat} (hk : k + 10 * (mm + 1) ≤ 601024) (hn : n + 60 * (mm + 1) ≤ 7293034) : G x 7 k n (wLw a u b v c w e m oa f (cxT x)) [(0, .ref sb), (1, .ref (a 0)), (2, .ref (e 0)), (3, .ref oa), (4, .int i)] 1714 [] := by
  unfold f_law_c22 at hf
  refine g_aload_n o 1 rfl rfl dL_law_1714 ?_
  refine g_aload_n o 0 rfl rfl dL_law_1715 ?_
  refine g_iload o 4 rfl dL_law_1716 ?_
  refine g_iconst o ic_1 dL_law_1718 ?_
  refine g_iadd o dL_law_1719 ?_
  refine g_sld o hs9 dL_law_1720 hf (fun hf => ?_)
  refine g_aload_n o 0 rfl rfl dL_law_1721 ?_
  refine g_iload o 4 rfl dL_law_1722 ?_
  refine g_iconst o ic_2 dL_law_1724 ?_
  refine g_iadd o dL_law_1725 ?_
  refine g_sld o hs9 dL_law_1726 hf (fun hf => ?_)
  refine g_aload_n o 3 rfl rfl dL_law_1727 ?_
  obtain ⟨r132, hr132, hf⟩ := bd_some hf
  refine k_L_projectedArgument_W o hr132 m_575 (Nat.le_of_ble_eq_true rfl) (Nat.le_of_ble_eq_true rfl) ⟨by omega, by omega⟩ dL_law_1728 ?_
  refine g_istore o [(5, .int r132.1), (0, .ref sb), (1, .ref (a 0)), (2, .ref (e 0)), (3, .ref oa), (4, .int i)] (Nat.le_of_ble_eq_true rfl) rfl dL_law_1731 ?_
  refine g_aload_n o 3 rfl rfl dL_law_1733 ?_
  refine g_aload_n o 1 rfl rfl dL_law_1734 ?_
  refine g_iload o 5 rfl dL_law_1735 ?_
  refine g_iconst o ic_1 dL_law_1737 ?_
  refine g_iadd o dL_law_1738 ?_
  refine g_sld o hs9 dL_law_1739 hf (fun hf => ?_)
  refine g_aload_n o 1 rfl rfl dL_law_1740 ?_
  refine g_iload o 5 rfl dL_law_1741 ?_
  refine g_iconst o ic_2 dL_law_1743 ?_
  refine g_iadd o dL_law_1744 ?_
  refine g_sld o hs9 dL_law_1745 hf (fun hf => ?_)
  obtain ⟨r133, hr133, hf⟩ := bd_some hf
  refine k_X2_projectedArgument_W o hr133 m_1128 (Nat.le_of_ble_eq_true rfl) (Nat.le_of_ble_eq_true rfl) ⟨by omega, by omega⟩ dL_law_1746 ?_
  refine g_istore o [(6, .int r133.1), (5, .int r132.1), (0, .ref sb), (1, .ref (a 0)), (2, .ref (e 0)), (3, .ref oa), (4, .int i)] (Nat.le_of_ble_eq_true rfl) rfl dL_law_1749 ?_
  refine g_aload_n o 4 rfl rfl dL_law_1751 ?_
  obtain ⟨r134, hr134, hf⟩ := bd_some hf
  refine k_X2_thrown_W o hr134 m_984 (Nat.le_of_ble_eq_true rfl) (Nat.le_of_ble_eq_true rfl) ⟨by omega, by omega⟩ dL_law_1752 ?_
  refine g_iload o 1 rfl dL_law_1755 ?_
  refine g_ic_eq (tgt := 1762) o rfl dL_law_1757 hf (fun hc hf => ?_) (fun hc hf => ?_)
  · refine g_iload o 1 rfl dL_law_1762 ?_
    refine g_if_ne (tgt := 1779) o rfl dL_law_1764 hf (fun hc hf => ?_) (fun hc hf => ?_)
    · refine g_goto (tgt := 3660) o rfl dL_law_1779 ?_
      refine g_iinc o [(4, .int (i + 6)), (6, .int r133.1), (5, .int r132.1), (0, .ref sb), (1, .ref (a 0)), (2, .ref (e 0)), (3, .ref oa)] 6 rfl (inc_6 _) (Nat.le_of_ble_eq_true rfl) rfl dL_law_3660 ?_
      refine g_goto (tgt := 23) o rfl dL_law_3663 ?_
      have hp := lf_c hf hw
      exact g_perm [3, 4, 5, 6, 0] rfl (hp _ _ (by omega) (by omega))
    · refine g_aload_n o 5 rfl rfl dL_law_1767 ?_
      refine g_iconst o ic_0 dL_law_1768 ?_
      refine W_old o dL_law_1769 hf (fun hf => ?_)
      refine g_iload o 0 rfl dL_law_1770 ?_
      refine g_i2l o dL_law_1772 ?_
      refine g_lcmp o dL_law_1773 ?_
      refine g_if_eq (tgt := 1779) o rfl dL_law_1774 hf (fun hc hf => ?_) (fun hc hf => ?_)
      · refine g_goto (tgt := 3660) o rfl dL_law_1779 ?_
        refine g_iinc o [(4, .int (i + 6)), (6, .int r133.1), (5, .int r132.1), (0, .ref sb), (1, .ref (a 0)), (2, .ref (e 0)), (3, .ref oa)] 6 rfl (inc_6 _) (Nat.le_of_ble_eq_true rfl) rfl dL_law_3660 ?_
        refine g_goto (tgt := 23) o rfl dL_law_3663 ?_
        have hp := lf_c hf hw
        exact g_perm [3, 4, 5, 6, 0] rfl (hp _ _ (by omega) (by omega))
      · refine g_iconst o ic_0 dL_law_1777 ?_
        exact (hR _ (lf_x hf hw)).elim
  · refine g_iconst o ic_0 dL_law_1760 ?_
    exact (hR _ (lf_x hf hw)).elim
set_option maxRecDepth 20000 in
set_option maxHeartbeats 4000000 in
theorem b_law_c23 {x : Cx} (o : Ok x cL_law 7 RL 100 601024 7293034) {a b c e : Nat → Nat} {oa sb LL : Nat} {xs : Nat → Int32} (hs9 : SF x sb LL xs) {mm : Nat} (r : (Int32 × St × St × St × St × (Nat → Int64)) ⊕ Int32) (hR : ∀ t, r = .inr t → False) (i : Int32) (u v w m : St) (f : Nat → Int64) (ww : (Int32 × St × St × St × St × (Nat → Int64)) ⊕ ((Int32 × St × St × St × St × (Nat → Int64)) ⊕ Int32)) (hf : f_law_c23 xs LL i u v w m f = some ww) (hw : (∃ s2, ww = .inl s2 ∧ (fun (s : Int32 × St × St × St × St × (Nat → Int64)) => ∀ k n : Nat, k + 10 * mm ≤ 601024 → n + 60 * mm ≤ 7293034 → G x 7 k n (wLw a s.2.1 b s.2.2.1 c s.2.2.2.1 e s.2.2.2.2.1 oa s.2.2.2.2.2 (cxT x)) [(0, .ref sb), (1, .ref (a 0)), (2, .ref (e 0)), (3, .ref oa), (4, .int s.1)] 23 []) s2) ∨ ww = .inr r) {k n : Nat} (hk : k + 10 * (mm + 1) ≤ 601024) (hn : n + 60 * (mm + 1) ≤ 7293034) : G x 7 k n (wLw a u b v c w e m oa f (cxT x)) [(0, .ref sb), (1, .ref (a 0)), (2, .ref (e 0)), (3, .ref oa), (4, .int i)] 1782 [] := by
  unfold f_law_c23 at hf
  refine g_aload_n o 1 rfl rfl dL_law_1782 ?_
  refine g_aload_n o 0 rfl rfl dL_law_1783 ?_
  refine g_iload o 4 rfl dL_law_1784 ?_
  refine g_iconst o ic_1 dL_law_1786 ?_
  refine g_iadd o dL_law_1787 ?_
  refine g_sld o hs9 dL_law_1788 hf (fun hf => ?_)
  refine g_aload_n o 0 rfl rfl dL_law_1789 ?_
  refine g_iload o 4 rfl dL_law_1790 ?_
  refine g_iconst o ic_2 dL_law_1792 ?_
  refine g_iadd o dL_law_1793 ?_
  refine g_sld o hs9 dL_law_1794 hf (fun hf => ?_)
  refine g_aload_n o 0 rfl rfl dL_law_1795 ?_
  refine g_iload o 4 rfl dL_law_1796 ?_
  refine g_iconst o ic_3 dL_law_1798 ?_
  refine g_iadd o dL_law_1799 ?_
  refine g_sld o hs9 dL_law_1800 hf (fun hf => ?_)
  refine g_aload_n o 3 rfl rfl dL_law_1801 ?_
  obtain ⟨r138, hr138, hf⟩ := bd_some hf
  refine k_L_close_W o hr138 m_583 (Nat.le_of_ble_eq_true rfl) (Nat.le_of_ble_eq_true rfl) ⟨by omega, by omega⟩ dL_law_1802 ?_
  refine g_istore o [(5, .int r138.1), (0, .ref sb), (1, .ref (a 0)), (2, .ref (e 0)), (3, .ref oa), (4, .int i)] (Nat.le_of_ble_eq_true rfl) rfl dL_law_1805 ?_
  refine g_aload_n o 3 rfl rfl dL_law_1807 ?_
  refine g_aload_n o 1 rfl rfl dL_law_1808 ?_
  refine g_iload o 5 rfl dL_law_1809 ?_
  refine g_iconst o ic_1 dL_law_1811 ?_
  refine g_iadd o dL_law_1812 ?_
  refine g_sld o hs9 dL_law_1813 hf (fun hf => ?_)
  refine g_aload_n o 1 rfl rfl dL_law_1814 ?_
  refine g_iload o 5 rfl dL_law_1815 ?_
  refine g_iconst o ic_2 dL_law_1817 ?_
  refine g_iadd o dL_law_1818 ?_
  refine g_sld o hs9 dL_law_1819 hf (fun hf => ?_)
  refine g_aload_n o 1 rfl rfl dL_law_1820 ?_
  refine g_iload o 5 rfl dL_law_1821 ?_
  refine g_iconst o ic_3 dL_law_1823 ?_
  refine g_iadd o dL_law_1824 ?_
  refine g_sld o hs9 dL_law_1825 hf (fun hf => ?_)
  obtain ⟨r139, hr139, hf⟩ := bd_some hf
  refine k_X2_close_W o hr139 m_1132 (Nat.le_of_ble_eq_true rfl) (Nat.le_of_ble_eq_true rfl) ⟨by omega, by omega⟩ dL_law_1826 ?_
  refine g_istore o [(6, .int r139.1), (5, .int r138.1), (0, .ref sb), (1, .ref (a 0)), (2, .ref (e 0)), (3, .ref oa), (4, .int i)] (Nat.le_of_ble_eq_true rfl) rfl dL_law_1829 ?_
  refine g_aload_n o 4 rfl rfl dL_law_1831 ?_
  obtain ⟨r140, hr140, hf⟩ := bd_some hf
  refine k_X2_thrown_W o hr140 m_984 (Nat.le_of_ble_eq_true rfl) (Nat.le_of_ble_eq_true rfl) ⟨by omega, by omega⟩ dL_law_1832 ?_
  refine g_iload o 1 rfl dL_law_1835 ?_
  refine g_ic_eq (tgt := 1842) o rfl dL_law_1837 hf (fun hc hf => ?_) (fun hc hf => ?_)
  · refine g_iload o 1 rfl dL_law_1842 ?_
    refine g_if_ne (tgt := 1859) o rfl dL_law_1844 hf (fun hc hf => ?_) (fun hc hf => ?_)
    · refine g_goto (tgt := 3660) o rfl dL_law_1859 ?_
      refine g_iinc o [(4, .int (i + 6)), (6, .int r139.1), (5, .int r138.1), (0, .ref sb), (1, .ref (a 0)), (2, .ref (e 0)), (3, .ref oa)] 6 rfl (inc_6 _) (Nat.le_of_ble_eq_true rfl) rfl dL_law_3660 ?_
      refine g_goto (tgt := 23) o rfl dL_law_3663 ?_
      have hp := lf_c hf hw
      exact g_perm [3, 4, 5, 6, 0] rfl (hp _ _ (by omega) (by omega))
    · refine g_aload_n o 5 rfl rfl dL_law_1847 ?_
      refine g_iconst o ic_0 dL_law_1848 ?_
      refine W_old o dL_law_1849 hf (fun hf => ?_)
      refine g_iload o 0 rfl dL_law_1850 ?_
      refine g_i2l o dL_law_1852 ?_
      refine g_lcmp o dL_law_1853 ?_
      refine g_if_eq (tgt := 1859) o rfl dL_law_1854 hf (fun hc hf => ?_) (fun hc hf => ?_)
      · refine g_goto (tgt := 3660) o rfl dL_law_1859 ?_
        refine g_iinc o [(4, .int (i + 6)), (6, .int r139.1), (5, .int r138.1), (0, .ref sb), (1, .ref (a 0)), (2, .ref (e 0)), (3, .ref oa)] 6 rfl (inc_6 _) (Nat.le_of_ble_eq_true rfl) rfl dL_law_3660 ?_
        refine g_goto (tgt := 23) o rfl dL_law_3663 ?_
        have hp := lf_c hf hw
        exact g_perm [3, 4, 5, 6, 0] rfl (hp _ _ (by omega) (by omega))
      · refine g_iconst o ic_0 dL_law_1857 ?_
        exact (hR _ (lf_x hf hw)).elim
  · refine g_iconst o ic_0 dL_law_1840 ?_
    exact (hR _ (lf_x hf hw)).elim
set_option maxRecDepth 20000 in
set_option maxHeartbeats 4000000 in
theorem b_law_c24 {x : Cx} (o : Ok x cL_law 7 RL 100 601024 7293034) {a b c e : Nat → Nat} {oa sb LL : Nat} {xs : Nat → Int32} (hs9 : SF x sb LL xs) {mm : Nat} (r : (Int32 × St × St × St × St × (Nat → Int64)) ⊕ Int32) (hR : ∀ t, r = .inr t → False) (i : Int32) (u v w m : St) (f : Nat → Int64) (ww : (Int32 × St × St × St × St × (Nat → Int64)) ⊕ ((Int32 × St × St × St × St × (Nat → Int64)) ⊕ Int32)) (hf : f_law_c24 xs LL i u v w m f = some ww) (hw : (∃ s2, ww = .inl s2 ∧ (fun (s : Int32 × St × St × St × St × (Nat → Int64)) => ∀ k n : Nat, k + 10 * mm ≤ 601024 → n + 60 * mm ≤ 7293034 → G x 7 k n (wLw a s.2.1 b s.2.2.1 c s.2.2.2.1 e s.2.2.2.2.1 oa s.2.2.2.2.2 (cxT x)) [(0, .ref sb), (1, .ref (a 0)), (2, .ref (e 0)), (3, .ref oa), (4, .int s.1)] 23 []) s2) ∨ ww = .inr r) {k n : Nat} (hk : k + 10 * (mm + 1) ≤ 601024) (hn : n + 60 * (mm + 1) ≤ 7293034) : G x 7 k n (wLw a u b v c w e m oa f (cxT x)) [(0, .ref sb), (1, .ref (a 0)), (2, .ref (e 0)), (3, .ref oa), (4, .int i)] 1862 [] := by
  unfold f_law_c24 at hf
  refine g_aload_n o 1 rfl rfl dL_law_1862 ?_
  refine g_aload_n o 0 rfl rfl dL_law_1863 ?_
  refine g_iload o 4 rfl dL_law_1864 ?_
  refine g_iconst o ic_1 dL_law_1866 ?_
  refine g_iadd o dL_law_1867 ?_
  refine g_sld o hs9 dL_law_1868 hf (fun hf => ?_)
  refine g_aload_n o 0 rfl rfl dL_law_1869 ?_
  refine g_iload o 4 rfl dL_law_1870 ?_
  refine g_iconst o ic_2 dL_law_1872 ?_
  refine g_iadd o dL_law_1873 ?_
  refine g_sld o hs9 dL_law_1874 hf (fun hf => ?_)
  refine g_aload_n o 3 rfl rfl dL_law_1875 ?_
  obtain ⟨r144, hr144, hf⟩ := bd_some hf
  refine k_L_dual_W o hr144 m_590 (Nat.le_of_ble_eq_true rfl) (Nat.le_of_ble_eq_true rfl) ⟨by omega, by omega⟩ dL_law_1876 ?_
  refine g_istore o [(5, .int r144.1), (0, .ref sb), (1, .ref (a 0)), (2, .ref (e 0)), (3, .ref oa), (4, .int i)] (Nat.le_of_ble_eq_true rfl) rfl dL_law_1879 ?_
  refine g_aload_n o 3 rfl rfl dL_law_1881 ?_
  refine g_aload_n o 1 rfl rfl dL_law_1882 ?_
  refine g_iload o 5 rfl dL_law_1883 ?_
  refine g_iconst o ic_1 dL_law_1885 ?_
  refine g_iadd o dL_law_1886 ?_
  refine g_sld o hs9 dL_law_1887 hf (fun hf => ?_)
  refine g_aload_n o 1 rfl rfl dL_law_1888 ?_
  refine g_iload o 5 rfl dL_law_1889 ?_
  refine g_iconst o ic_2 dL_law_1891 ?_
  refine g_iadd o dL_law_1892 ?_
  refine g_sld o hs9 dL_law_1893 hf (fun hf => ?_)
  obtain ⟨r145, hr145, hf⟩ := bd_some hf
  refine k_X2_dual_W o hr145 m_1139 (Nat.le_of_ble_eq_true rfl) (Nat.le_of_ble_eq_true rfl) ⟨by omega, by omega⟩ dL_law_1894 ?_
  refine g_istore o [(6, .int r145.1), (5, .int r144.1), (0, .ref sb), (1, .ref (a 0)), (2, .ref (e 0)), (3, .ref oa), (4, .int i)] (Nat.le_of_ble_eq_true rfl) rfl dL_law_1897 ?_
  refine g_aload_n o 4 rfl rfl dL_law_1899 ?_
  obtain ⟨r146, hr146, hf⟩ := bd_some hf
  refine k_X2_thrown_W o hr146 m_984 (Nat.le_of_ble_eq_true rfl) (Nat.le_of_ble_eq_true rfl) ⟨by omega, by omega⟩ dL_law_1900 ?_
  refine g_iload o 1 rfl dL_law_1903 ?_
  refine g_ic_eq (tgt := 1910) o rfl dL_law_1905 hf (fun hc hf => ?_) (fun hc hf => ?_)
  · refine g_iload o 1 rfl dL_law_1910 ?_
    refine g_if_ne (tgt := 1927) o rfl dL_law_1912 hf (fun hc hf => ?_) (fun hc hf => ?_)
    · refine g_goto (tgt := 3660) o rfl dL_law_1927 ?_
      refine g_iinc o [(4, .int (i + 6)), (6, .int r145.1), (5, .int r144.1), (0, .ref sb), (1, .ref (a 0)), (2, .ref (e 0)), (3, .ref oa)] 6 rfl (inc_6 _) (Nat.le_of_ble_eq_true rfl) rfl dL_law_3660 ?_
      refine g_goto (tgt := 23) o rfl dL_law_3663 ?_
      have hp := lf_c hf hw
      exact g_perm [3, 4, 5, 6, 0] rfl (hp _ _ (by omega) (by omega))
    · refine g_aload_n o 5 rfl rfl dL_law_1915 ?_
      refine g_iconst o ic_0 dL_law_1916 ?_
      refine W_old o dL_law_1917 hf (fun hf => ?_)
      refine g_iload o 0 rfl dL_law_1918 ?_
      refine g_i2l o dL_law_1920 ?_
      refine g_lcmp o dL_law_1921 ?_
      refine g_if_eq (tgt := 1927) o rfl dL_law_1922 hf (fun hc hf => ?_) (fun hc hf => ?_)
      · refine g_goto (tgt := 3660) o rfl dL_law_1927 ?_
        refine g_iinc o [(4, .int (i + 6)), (6, .int r145.1), (5, .int r144.1), (0, .ref sb), (1, .ref (a 0)), (2, .ref (e 0)), (3, .ref oa)] 6 rfl (inc_6 _) (Nat.le_of_ble_eq_true rfl) rfl dL_law_3660 ?_
        refine g_goto (tgt := 23) o rfl dL_law_3663 ?_
        have hp := lf_c hf hw
        exact g_perm [3, 4, 5, 6, 0] rfl (hp _ _ (by omega) (by omega))
      · refine g_iconst o ic_0 dL_law_1925 ?_
        exact (hR _ (lf_x hf hw)).elim
  · refine g_iconst o ic_0 dL_law_1908 ?_
    exact (hR _ (lf_x hf hw)).elim
set_option maxRecDepth 20000 in
set_option maxHeartbeats 4000000 in
theorem b_law_c25 {x : Cx} (o : Ok x cL_law 7 RL 100 601024 7293034) {a b c e : Nat → Nat} {oa sb LL : Nat} {xs : Nat → Int32} (hs9 : SF x sb LL xs) {mm : Nat} (r : (Int32 × St × St × St × St × (Nat → Int64)) ⊕ Int32) (hR : ∀ t, r = .inr t → False) (i : Int32) (u v w m : St) (f : Nat → Int64) (ww : (Int32 × St × St × St × St × (Nat → Int64)) ⊕ ((Int32 × St × St × St × St × (Nat → Int64)) ⊕ Int32)) (hf : f_law_c25 xs LL i u v w m f = some ww) (hw : (∃ s2, ww = .inl s2 ∧ (fun (s : Int32 × St × St × St × St × (Nat → Int64)) => ∀ k n : Nat, k + 10 * mm ≤ 601024 → n + 60 * mm ≤ 7293034 → G x 7 k n (wLw a s.2.1 b s.2.2.1 c s.2.2.2.1 e s.2.2.2.2.1 oa s.2.2.2.2.2 (cxT x)) [(0, .ref sb), (1, .ref (a 0)), (2, .ref (e 0)), (3, .ref oa), (4, .int s.1)] 23 []) s2) ∨ ww = .inr r) {k n : Nat} (hk : k + 10 * (mm + 1) ≤ 601024) (hn : n + 60 * (mm + 1) ≤ 7293034) : G x 7 k n (wLw a u b v c w e m oa f (cxT x)) [(0, .ref sb), (1, .ref (a 0)), (2, .ref (e 0)), (3, .ref oa), (4, .int i)] 1930 [] := by
  unfold f_law_c25 at hf
  refine g_aload_n o 1 rfl rfl dL_law_1930 ?_
  refine g_aload_n o 0 rfl rfl dL_law_1931 ?_
  refine g_iload o 4 rfl dL_law_1932 ?_
  refine g_iconst o ic_1 dL_law_1934 ?_
  refine g_iadd o dL_law_1935 ?_
  refine g_sld o hs9 dL_law_1936 hf (fun hf => ?_)
  refine g_aload_n o 0 rfl rfl dL_law_1937 ?_
  refine g_iload o 4 rfl dL_law_1938 ?_
  refine g_iconst o ic_2 dL_law_1940 ?_
  refine g_iadd o dL_law_1941 ?_
  refine g_sld o hs9 dL_law_1942 hf (fun hf => ?_)
  refine g_aload_n o 0 rfl rfl dL_law_1943 ?_
  refine g_iload o 4 rfl dL_law_1944 ?_
  refine g_iconst o ic_3 dL_law_1946 ?_
  refine g_iadd o dL_law_1947 ?_
  refine g_sld o hs9 dL_law_1948 hf (fun hf => ?_)
  refine g_aload_n o 3 rfl rfl dL_law_1949 ?_
  obtain ⟨r150, hr150, hf⟩ := bd_some hf
  refine k_L_dependsOn_W o hr150 m_597 (Nat.le_of_ble_eq_true rfl) (Nat.le_of_ble_eq_true rfl) ⟨by omega, by omega⟩ dL_law_1950 ?_
  refine g_istore o [(5, .int r150.1), (0, .ref sb), (1, .ref (a 0)), (2, .ref (e 0)), (3, .ref oa), (4, .int i)] (Nat.le_of_ble_eq_true rfl) rfl dL_law_1953 ?_
  refine g_aload_n o 3 rfl rfl dL_law_1955 ?_
  refine g_aload_n o 1 rfl rfl dL_law_1956 ?_
  refine g_iload o 5 rfl dL_law_1957 ?_
  refine g_iconst o ic_1 dL_law_1959 ?_
  refine g_iadd o dL_law_1960 ?_
  refine g_sld o hs9 dL_law_1961 hf (fun hf => ?_)
  refine g_aload_n o 1 rfl rfl dL_law_1962 ?_
  refine g_iload o 5 rfl dL_law_1963 ?_
  refine g_iconst o ic_2 dL_law_1965 ?_
  refine g_iadd o dL_law_1966 ?_
  refine g_sld o hs9 dL_law_1967 hf (fun hf => ?_)
  refine g_aload_n o 1 rfl rfl dL_law_1968 ?_
  refine g_iload o 5 rfl dL_law_1969 ?_
  refine g_iconst o ic_3 dL_law_1971 ?_
  refine g_iadd o dL_law_1972 ?_
  refine g_sld o hs9 dL_law_1973 hf (fun hf => ?_)
  obtain ⟨r151, hr151, hf⟩ := bd_some hf
  refine k_X2_dependsOn_W o hr151 m_1143 (Nat.le_of_ble_eq_true rfl) (Nat.le_of_ble_eq_true rfl) ⟨by omega, by omega⟩ dL_law_1974 ?_
  refine g_istore o [(6, .int r151.1), (5, .int r150.1), (0, .ref sb), (1, .ref (a 0)), (2, .ref (e 0)), (3, .ref oa), (4, .int i)] (Nat.le_of_ble_eq_true rfl) rfl dL_law_1977 ?_
  refine g_aload_n o 4 rfl rfl dL_law_1979 ?_
  obtain ⟨r152, hr152, hf⟩ := bd_some hf
  refine k_X2_thrown_W o hr152 m_984 (Nat.le_of_ble_eq_true rfl) (Nat.le_of_ble_eq_true rfl) ⟨by omega, by omega⟩ dL_law_1980 ?_
  refine g_iload o 1 rfl dL_law_1983 ?_
  refine g_ic_eq (tgt := 1990) o rfl dL_law_1985 hf (fun hc hf => ?_) (fun hc hf => ?_)
  · refine g_iload o 1 rfl dL_law_1990 ?_
    refine g_if_ne (tgt := 2014) o rfl dL_law_1992 hf (fun hc hf => ?_) (fun hc hf => ?_)
    · refine g_goto (tgt := 3660) o rfl dL_law_2014 ?_
      refine g_iinc o [(4, .int (i + 6)), (6, .int r151.1), (5, .int r150.1), (0, .ref sb), (1, .ref (a 0)), (2, .ref (e 0)), (3, .ref oa)] 6 rfl (inc_6 _) (Nat.le_of_ble_eq_true rfl) rfl dL_law_3660 ?_
      refine g_goto (tgt := 23) o rfl dL_law_3663 ?_
      have hp := lf_c hf hw
      exact g_perm [3, 4, 5, 6, 0] rfl (hp _ _ (by omega) (by omega))
    · refine g_aload_n o 5 rfl rfl dL_law_1995 ?_
      refine g_iconst o ic_0 dL_law_1996 ?_
      refine W_old o dL_law_1997 hf (fun hf => ?_)
      refine g_iload o 0 rfl dL_law_1998 ?_
      refine g_if_eq (tgt := 2007) o rfl dL_law_2000 hf (fun hc hf => ?_) (fun hc hf => ?_)
      · refine g_lconst o lc_0 dL_law_2007 ?_
        refine g_lcmp o dL_law_2008 ?_
        refine g_if_eq (tgt := 2014) o rfl dL_law_2009 hf (fun hc hf => ?_) (fun hc hf => ?_)
        · refine g_goto (tgt := 3660) o rfl dL_law_2014 ?_
          refine g_iinc o [(4, .int (i + 6)), (6, .int r151.1), (5, .int r150.1), (0, .ref sb), (1, .ref (a 0)), (2, .ref (e 0)), (3, .ref oa)] 6 rfl (inc_6 _) (Nat.le_of_ble_eq_true rfl) rfl dL_law_3660 ?_
          refine g_goto (tgt := 23) o rfl dL_law_3663 ?_
          have hp := lf_c hf hw
          exact g_perm [3, 4, 5, 6, 0] rfl (hp _ _ (by omega) (by omega))
        · refine g_iconst o ic_0 dL_law_2012 ?_
          exact (hR _ (lf_x hf hw)).elim
      · refine g_lconst o lc_1 dL_law_2003 ?_
        refine g_goto (tgt := 2008) o rfl dL_law_2004 ?_
        refine g_lcmp o dL_law_2008 ?_
        refine g_if_eq (tgt := 2014) o rfl dL_law_2009 hf (fun hc hf => ?_) (fun hc hf => ?_)
        · refine g_goto (tgt := 3660) o rfl dL_law_2014 ?_
          refine g_iinc o [(4, .int (i + 6)), (6, .int r151.1), (5, .int r150.1), (0, .ref sb), (1, .ref (a 0)), (2, .ref (e 0)), (3, .ref oa)] 6 rfl (inc_6 _) (Nat.le_of_ble_eq_true rfl) rfl dL_law_3660 ?_
          refine g_goto (tgt := 23) o rfl dL_law_3663 ?_
          have hp := lf_c hf hw
          exact g_perm [3, 4, 5, 6, 0] rfl (hp _ _ (by omega) (by omega))
        · refine g_iconst o ic_0 dL_law_2012 ?_
          exact (hR _ (lf_x hf hw)).elim
  · refine g_iconst o ic_0 dL_law_1988 ?_
    exact (hR _ (lf_x hf hw)).elim
set_option maxRecDepth 20000 in
set_option maxHeartbeats 4000000 in
theorem b_law_c26 {x : Cx} (o : Ok x cL_law 7 RL 100 601024 7293034) {a b c e : Nat → Nat} {oa sb LL : Nat} {xs : Nat → Int32} (hs9 : SF x sb LL xs) {mm : Nat} (r : (Int32 × St × St × St × St × (Nat → Int64)) ⊕ Int32) (hR : ∀ t, r = .inr t → False) (i : Int32) (u v w m : St) (f : Nat → Int64) (ww : (Int32 × St × St × St × St × (Nat → Int64)) ⊕ ((Int32 × St × St × St × St × (Nat → Int64)) ⊕ Int32)) (hf : f_law_c26 xs LL i u v w m f = some ww) (hw : (∃ s2, ww = .inl s2 ∧ (fun (s : Int32 × St × St × St × St × (Nat → Int64)) => ∀ k n : Nat, k + 10 * mm ≤ 601024 → n + 60 * mm ≤ 7293034 → G x 7 k n (wLw a s.2.1 b s.2.2.1 c s.2.2.2.1 e s.2.2.2.2.1 oa s.2.2.2.2.2 (cxT x)) [(0, .ref sb), (1, .ref (a 0)), (2, .ref (e 0)), (3, .ref oa), (4, .int s.1)] 23 []) s2) ∨ ww = .inr r) {k n : Nat} (hk : k + 10 * (mm + 1) ≤ 601024) (hn : n + 60 * (mm + 1) ≤ 7293034) : G x 7 k n (wLw a u b v c w e m oa f (cxT x)) [(0, .ref sb), (1, .ref (a 0)), (2, .ref (e 0)), (3, .ref oa), (4, .int i)] 2017 [] := by
  unfold f_law_c26 at hf
  refine g_aload_n o 1 rfl rfl dL_law_2017 ?_
  refine g_aload_n o 0 rfl rfl dL_law_2018 ?_
  refine g_iload o 4 rfl dL_law_2019 ?_
  refine g_iconst o ic_1 dL_law_2021 ?_
  refine g_iadd o dL_law_2022 ?_
  refine g_sld o hs9 dL_law_2023 hf (fun hf => ?_)
  refine g_aload_n o 0 rfl rfl dL_law_2024 ?_
  refine g_iload o 4 rfl dL_law_2025 ?_
  refine g_iconst o ic_2 dL_law_2027 ?_
  refine g_iadd o dL_law_2028 ?_
  refine g_sld o hs9 dL_law_2029 hf (fun hf => ?_)
  refine g_aload_n o 0 rfl rfl dL_law_2030 ?_
  refine g_iload o 4 rfl dL_law_2031 ?_
  refine g_iconst o ic_3 dL_law_2033 ?_
  refine g_iadd o dL_law_2034 ?_
  refine g_sld o hs9 dL_law_2035 hf (fun hf => ?_)
  refine g_aload_n o 3 rfl rfl dL_law_2036 ?_
  obtain ⟨r156, hr156, hf⟩ := bd_some hf
  refine k_L_compose_W o hr156 m_605 (Nat.le_of_ble_eq_true rfl) (Nat.le_of_ble_eq_true rfl) ⟨by omega, by omega⟩ dL_law_2037 ?_
  refine g_istore o [(5, .int r156.1), (0, .ref sb), (1, .ref (a 0)), (2, .ref (e 0)), (3, .ref oa), (4, .int i)] (Nat.le_of_ble_eq_true rfl) rfl dL_law_2040 ?_
  refine g_aload_n o 3 rfl rfl dL_law_2042 ?_
  refine g_aload_n o 1 rfl rfl dL_law_2043 ?_
  refine g_iload o 5 rfl dL_law_2044 ?_
  refine g_iconst o ic_1 dL_law_2046 ?_
  refine g_iadd o dL_law_2047 ?_
  refine g_sld o hs9 dL_law_2048 hf (fun hf => ?_)
  refine g_aload_n o 1 rfl rfl dL_law_2049 ?_
  refine g_iload o 5 rfl dL_law_2050 ?_
  refine g_iconst o ic_2 dL_law_2052 ?_
  refine g_iadd o dL_law_2053 ?_
  refine g_sld o hs9 dL_law_2054 hf (fun hf => ?_)
  refine g_aload_n o 1 rfl rfl dL_law_2055 ?_
  refine g_iload o 5 rfl dL_law_2056 ?_
  refine g_iconst o ic_3 dL_law_2058 ?_
  refine g_iadd o dL_law_2059 ?_
  refine g_sld o hs9 dL_law_2060 hf (fun hf => ?_)
  obtain ⟨r157, hr157, hf⟩ := bd_some hf
  refine k_X2_compose_W o hr157 m_1147 (Nat.le_of_ble_eq_true rfl) (Nat.le_of_ble_eq_true rfl) ⟨by omega, by omega⟩ dL_law_2061 ?_
  refine g_istore o [(6, .int r157.1), (5, .int r156.1), (0, .ref sb), (1, .ref (a 0)), (2, .ref (e 0)), (3, .ref oa), (4, .int i)] (Nat.le_of_ble_eq_true rfl) rfl dL_law_2064 ?_
  refine g_aload_n o 4 rfl rfl dL_law_2066 ?_
  obtain ⟨r158, hr158, hf⟩ := bd_some hf
  refine k_X2_thrown_W o hr158 m_984 (Nat.le_of_ble_eq_true rfl) (Nat.le_of_ble_eq_true rfl) ⟨by omega, by omega⟩ dL_law_2067 ?_
  refine g_iload o 1 rfl dL_law_2070 ?_
  refine g_ic_eq (tgt := 2077) o rfl dL_law_2072 hf (fun hc hf => ?_) (fun hc hf => ?_)
  · refine g_iload o 1 rfl dL_law_2077 ?_
    refine g_if_ne (tgt := 2094) o rfl dL_law_2079 hf (fun hc hf => ?_) (fun hc hf => ?_)
    · refine g_goto (tgt := 3660) o rfl dL_law_2094 ?_
      refine g_iinc o [(4, .int (i + 6)), (6, .int r157.1), (5, .int r156.1), (0, .ref sb), (1, .ref (a 0)), (2, .ref (e 0)), (3, .ref oa)] 6 rfl (inc_6 _) (Nat.le_of_ble_eq_true rfl) rfl dL_law_3660 ?_
      refine g_goto (tgt := 23) o rfl dL_law_3663 ?_
      have hp := lf_c hf hw
      exact g_perm [3, 4, 5, 6, 0] rfl (hp _ _ (by omega) (by omega))
    · refine g_aload_n o 5 rfl rfl dL_law_2082 ?_
      refine g_iconst o ic_0 dL_law_2083 ?_
      refine W_old o dL_law_2084 hf (fun hf => ?_)
      refine g_iload o 0 rfl dL_law_2085 ?_
      refine g_i2l o dL_law_2087 ?_
      refine g_lcmp o dL_law_2088 ?_
      refine g_if_eq (tgt := 2094) o rfl dL_law_2089 hf (fun hc hf => ?_) (fun hc hf => ?_)
      · refine g_goto (tgt := 3660) o rfl dL_law_2094 ?_
        refine g_iinc o [(4, .int (i + 6)), (6, .int r157.1), (5, .int r156.1), (0, .ref sb), (1, .ref (a 0)), (2, .ref (e 0)), (3, .ref oa)] 6 rfl (inc_6 _) (Nat.le_of_ble_eq_true rfl) rfl dL_law_3660 ?_
        refine g_goto (tgt := 23) o rfl dL_law_3663 ?_
        have hp := lf_c hf hw
        exact g_perm [3, 4, 5, 6, 0] rfl (hp _ _ (by omega) (by omega))
      · refine g_iconst o ic_0 dL_law_2092 ?_
        exact (hR _ (lf_x hf hw)).elim
  · refine g_iconst o ic_0 dL_law_2075 ?_
    exact (hR _ (lf_x hf hw)).elim
set_option maxRecDepth 20000 in
set_option maxHeartbeats 4000000 in
theorem b_law_c27 {x : Cx} (o : Ok x cL_law 7 RL 100 601024 7293034) {a b c e : Nat → Nat} {oa sb LL : Nat} {xs : Nat → Int32} (hs9 : SF x sb LL xs) {mm : Nat} (r : (Int32 × St × St × St × St × (Nat → Int64)) ⊕ Int32) (hR : ∀ t, r = .inr t → False) (i : Int32) (u v w m : St) (f : Nat → Int64) (ww : (Int32 × St × St × St × St × (Nat → Int64)) ⊕ ((Int32 × St × St × St × St × (Nat → Int64)) ⊕ Int32)) (hf : f_law_c27 xs LL i u v w m f = some ww) (hw : (∃ s2, ww = .inl s2 ∧ (fun (s : Int32 × St × St × St × St × (Nat → Int64)) => ∀ k n : Nat, k + 10 * mm ≤ 601024 → n + 60 * mm ≤ 7293034 → G x 7 k n (wLw a s.2.1 b s.2.2.1 c s.2.2.2.1 e s.2.2.2.2.1 oa s.2.2.2.2.2 (cxT x)) [(0, .ref sb), (1, .ref (a 0)), (2, .ref (e 0)), (3, .ref oa), (4, .int s.1)] 23 []) s2) ∨ ww = .inr r) {k n : Nat} (hk : k + 10 * (mm + 1) ≤ 601024) (hn : n + 60 * (mm + 1) ≤ 7293034) : G x 7 k n (wLw a u b v c w e m oa f (cxT x)) [(0, .ref sb), (1, .ref (a 0)), (2, .ref (e 0)), (3, .ref oa), (4, .int i)] 2097 [] := by
  unfold f_law_c27 at hf
  refine g_aload_n o 1 rfl rfl dL_law_2097 ?_
  refine g_aload_n o 0 rfl rfl dL_law_2098 ?_
  refine g_iload o 4 rfl dL_law_2099 ?_
  refine g_iconst o ic_1 dL_law_2101 ?_
  refine g_iadd o dL_law_2102 ?_
  refine g_sld o hs9 dL_law_2103 hf (fun hf => ?_)
  refine g_aload_n o 0 rfl rfl dL_law_2104 ?_
  refine g_iload o 4 rfl dL_law_2105 ?_
  refine g_iconst o ic_2 dL_law_2107 ?_
  refine g_iadd o dL_law_2108 ?_
  refine g_sld o hs9 dL_law_2109 hf (fun hf => ?_)
  refine g_aload_n o 3 rfl rfl dL_law_2110 ?_
  obtain ⟨r162, hr162, hf⟩ := bd_some hf
  refine k_L_relationHasKind_W o hr162 m_613 (Nat.le_of_ble_eq_true rfl) (Nat.le_of_ble_eq_true rfl) ⟨by omega, by omega⟩ dL_law_2111 ?_
  refine g_istore o [(5, .int r162.1), (0, .ref sb), (1, .ref (a 0)), (2, .ref (e 0)), (3, .ref oa), (4, .int i)] (Nat.le_of_ble_eq_true rfl) rfl dL_law_2114 ?_
  refine g_aload_n o 3 rfl rfl dL_law_2116 ?_
  refine g_aload_n o 1 rfl rfl dL_law_2117 ?_
  refine g_iload o 5 rfl dL_law_2118 ?_
  refine g_iconst o ic_1 dL_law_2120 ?_
  refine g_iadd o dL_law_2121 ?_
  refine g_sld o hs9 dL_law_2122 hf (fun hf => ?_)
  refine g_aload_n o 1 rfl rfl dL_law_2123 ?_
  refine g_iload o 5 rfl dL_law_2124 ?_
  refine g_iconst o ic_2 dL_law_2126 ?_
  refine g_iadd o dL_law_2127 ?_
  refine g_sld o hs9 dL_law_2128 hf (fun hf => ?_)
  obtain ⟨r163, hr163, hf⟩ := bd_some hf
  refine k_X2_relationHasKind_W o hr163 m_1151 (Nat.le_of_ble_eq_true rfl) (Nat.le_of_ble_eq_true rfl) ⟨by omega, by omega⟩ dL_law_2129 ?_
  refine g_istore o [(6, .int r163.1), (5, .int r162.1), (0, .ref sb), (1, .ref (a 0)), (2, .ref (e 0)), (3, .ref oa), (4, .int i)] (Nat.le_of_ble_eq_true rfl) rfl dL_law_2132 ?_
  refine g_aload_n o 4 rfl rfl dL_law_2134 ?_
  obtain ⟨r164, hr164, hf⟩ := bd_some hf
  refine k_X2_thrown_W o hr164 m_984 (Nat.le_of_ble_eq_true rfl) (Nat.le_of_ble_eq_true rfl) ⟨by omega, by omega⟩ dL_law_2135 ?_
  refine g_iload o 1 rfl dL_law_2138 ?_
  refine g_ic_eq (tgt := 2145) o rfl dL_law_2140 hf (fun hc hf => ?_) (fun hc hf => ?_)
  · refine g_iload o 1 rfl dL_law_2145 ?_
    refine g_if_ne (tgt := 2169) o rfl dL_law_2147 hf (fun hc hf => ?_) (fun hc hf => ?_)
    · refine g_goto (tgt := 3660) o rfl dL_law_2169 ?_
      refine g_iinc o [(4, .int (i + 6)), (6, .int r163.1), (5, .int r162.1), (0, .ref sb), (1, .ref (a 0)), (2, .ref (e 0)), (3, .ref oa)] 6 rfl (inc_6 _) (Nat.le_of_ble_eq_true rfl) rfl dL_law_3660 ?_
      refine g_goto (tgt := 23) o rfl dL_law_3663 ?_
      have hp := lf_c hf hw
      exact g_perm [3, 4, 5, 6, 0] rfl (hp _ _ (by omega) (by omega))
    · refine g_aload_n o 5 rfl rfl dL_law_2150 ?_
      refine g_iconst o ic_0 dL_law_2151 ?_
      refine W_old o dL_law_2152 hf (fun hf => ?_)
      refine g_iload o 0 rfl dL_law_2153 ?_
      refine g_if_eq (tgt := 2162) o rfl dL_law_2155 hf (fun hc hf => ?_) (fun hc hf => ?_)
      · refine g_lconst o lc_0 dL_law_2162 ?_
        refine g_lcmp o dL_law_2163 ?_
        refine g_if_eq (tgt := 2169) o rfl dL_law_2164 hf (fun hc hf => ?_) (fun hc hf => ?_)
        · refine g_goto (tgt := 3660) o rfl dL_law_2169 ?_
          refine g_iinc o [(4, .int (i + 6)), (6, .int r163.1), (5, .int r162.1), (0, .ref sb), (1, .ref (a 0)), (2, .ref (e 0)), (3, .ref oa)] 6 rfl (inc_6 _) (Nat.le_of_ble_eq_true rfl) rfl dL_law_3660 ?_
          refine g_goto (tgt := 23) o rfl dL_law_3663 ?_
          have hp := lf_c hf hw
          exact g_perm [3, 4, 5, 6, 0] rfl (hp _ _ (by omega) (by omega))
        · refine g_iconst o ic_0 dL_law_2167 ?_
          exact (hR _ (lf_x hf hw)).elim
      · refine g_lconst o lc_1 dL_law_2158 ?_
        refine g_goto (tgt := 2163) o rfl dL_law_2159 ?_
        refine g_lcmp o dL_law_2163 ?_
        refine g_if_eq (tgt := 2169) o rfl dL_law_2164 hf (fun hc hf => ?_) (fun hc hf => ?_)
        · refine g_goto (tgt := 3660) o rfl dL_law_2169 ?_
          refine g_iinc o [(4, .int (i + 6)), (6, .int r163.1), (5, .int r162.1), (0, .ref sb), (1, .ref (a 0)), (2, .ref (e 0)), (3, .ref oa)] 6 rfl (inc_6 _) (Nat.le_of_ble_eq_true rfl) rfl dL_law_3660 ?_
          refine g_goto (tgt := 23) o rfl dL_law_3663 ?_
          have hp := lf_c hf hw
          exact g_perm [3, 4, 5, 6, 0] rfl (hp _ _ (by omega) (by omega))
        · refine g_iconst o ic_0 dL_law_2167 ?_
          exact (hR _ (lf_x hf hw)).elim
  · refine g_iconst o ic_0 dL_law_2143 ?_
    exact (hR _ (lf_x hf hw)).elim
set_option maxRecDepth 20000 in
set_option maxHeartbeats 4000000 in
theorem b_law_c28 {x : Cx} (o : Ok x cL_law 7 RL 100 601024 7293034) {a b c e : Nat → Nat} {oa sb LL : Nat} {xs : Nat → Int32} (hs9 : SF x sb LL xs) {mm : Nat} (r : (Int32 × St × St × St × St × (Nat → Int64)) ⊕ Int32) (hR : ∀ t, r = .inr t → False) (i : Int32) (u v w m : St) (f : Nat → Int64) (ww : (Int32 × St × St × St × St × (Nat → Int64)) ⊕ ((Int32 × St × St × St × St × (Nat → Int64)) ⊕ Int32)) (hf : f_law_c28 xs LL i u v w m f = some ww) (hw : (∃ s2, ww = .inl s2 ∧ (fun (s : Int32 × St × St × St × St × (Nat → Int64)) => ∀ k n : Nat, k + 10 * mm ≤ 601024 → n + 60 * mm ≤ 7293034 → G x 7 k n (wLw a s.2.1 b s.2.2.1 c s.2.2.2.1 e s.2.2.2.2.1 oa s.2.2.2.2.2 (cxT x)) [(0, .ref sb), (1, .ref (a 0)), (2, .ref (e 0)), (3, .ref oa), (4, .int s.1)] 23 []) s2) ∨ ww = .inr r) {k n : Nat} (hk : k + 10 * (mm + 1) ≤ 601024) (hn : n + 60 * (mm + 1) ≤ 7293034) : G x 7 k n (wLw a u b v c w e m oa f (cxT x)) [(0, .ref sb), (1, .ref (a 0)), (2, .ref (e 0)), (3, .ref oa), (4, .int i)] 2172 [] := by
  unfold f_law_c28 at hf
  refine g_aload_n o 1 rfl rfl dL_law_2172 ?_
  refine g_aload_n o 0 rfl rfl dL_law_2173 ?_
  refine g_iload o 4 rfl dL_law_2174 ?_
  refine g_iconst o ic_1 dL_law_2176 ?_
  refine g_iadd o dL_law_2177 ?_
  refine g_sld o hs9 dL_law_2178 hf (fun hf => ?_)
  refine g_aload_n o 3 rfl rfl dL_law_2179 ?_
  obtain ⟨r168, hr168, hf⟩ := bd_some hf
  refine k_L_hasKind_W o hr168 m_628 (Nat.le_of_ble_eq_true rfl) (Nat.le_of_ble_eq_true rfl) ⟨by omega, by omega⟩ dL_law_2180 ?_
  refine g_istore o [(5, .int r168.1), (0, .ref sb), (1, .ref (a 0)), (2, .ref (e 0)), (3, .ref oa), (4, .int i)] (Nat.le_of_ble_eq_true rfl) rfl dL_law_2183 ?_
  refine g_aload_n o 3 rfl rfl dL_law_2185 ?_
  refine g_aload_n o 1 rfl rfl dL_law_2186 ?_
  refine g_iload o 5 rfl dL_law_2187 ?_
  refine g_iconst o ic_1 dL_law_2189 ?_
  refine g_iadd o dL_law_2190 ?_
  refine g_sld o hs9 dL_law_2191 hf (fun hf => ?_)
  obtain ⟨r169, hr169, hf⟩ := bd_some hf
  refine k_X2_hasKind_W o hr169 m_1159 (Nat.le_of_ble_eq_true rfl) (Nat.le_of_ble_eq_true rfl) ⟨by omega, by omega⟩ dL_law_2192 ?_
  refine g_istore o [(6, .int r169.1), (5, .int r168.1), (0, .ref sb), (1, .ref (a 0)), (2, .ref (e 0)), (3, .ref oa), (4, .int i)] (Nat.le_of_ble_eq_true rfl) rfl dL_law_2195 ?_
  refine g_aload_n o 4 rfl rfl dL_law_2197 ?_
  obtain ⟨r170, hr170, hf⟩ := bd_some hf
  refine k_X2_thrown_W o hr170 m_984 (Nat.le_of_ble_eq_true rfl) (Nat.le_of_ble_eq_true rfl) ⟨by omega, by omega⟩ dL_law_2198 ?_
  refine g_iload o 1 rfl dL_law_2201 ?_
  refine g_ic_eq (tgt := 2208) o rfl dL_law_2203 hf (fun hc hf => ?_) (fun hc hf => ?_)
  · refine g_iload o 1 rfl dL_law_2208 ?_
    refine g_if_ne (tgt := 2232) o rfl dL_law_2210 hf (fun hc hf => ?_) (fun hc hf => ?_)
    · refine g_goto (tgt := 3660) o rfl dL_law_2232 ?_
      refine g_iinc o [(4, .int (i + 6)), (6, .int r169.1), (5, .int r168.1), (0, .ref sb), (1, .ref (a 0)), (2, .ref (e 0)), (3, .ref oa)] 6 rfl (inc_6 _) (Nat.le_of_ble_eq_true rfl) rfl dL_law_3660 ?_
      refine g_goto (tgt := 23) o rfl dL_law_3663 ?_
      have hp := lf_c hf hw
      exact g_perm [3, 4, 5, 6, 0] rfl (hp _ _ (by omega) (by omega))
    · refine g_aload_n o 5 rfl rfl dL_law_2213 ?_
      refine g_iconst o ic_0 dL_law_2214 ?_
      refine W_old o dL_law_2215 hf (fun hf => ?_)
      refine g_iload o 0 rfl dL_law_2216 ?_
      refine g_if_eq (tgt := 2225) o rfl dL_law_2218 hf (fun hc hf => ?_) (fun hc hf => ?_)
      · refine g_lconst o lc_0 dL_law_2225 ?_
        refine g_lcmp o dL_law_2226 ?_
        refine g_if_eq (tgt := 2232) o rfl dL_law_2227 hf (fun hc hf => ?_) (fun hc hf => ?_)
        · refine g_goto (tgt := 3660) o rfl dL_law_2232 ?_
          refine g_iinc o [(4, .int (i + 6)), (6, .int r169.1), (5, .int r168.1), (0, .ref sb), (1, .ref (a 0)), (2, .ref (e 0)), (3, .ref oa)] 6 rfl (inc_6 _) (Nat.le_of_ble_eq_true rfl) rfl dL_law_3660 ?_
          refine g_goto (tgt := 23) o rfl dL_law_3663 ?_
          have hp := lf_c hf hw
          exact g_perm [3, 4, 5, 6, 0] rfl (hp _ _ (by omega) (by omega))
        · refine g_iconst o ic_0 dL_law_2230 ?_
          exact (hR _ (lf_x hf hw)).elim
      · refine g_lconst o lc_1 dL_law_2221 ?_
        refine g_goto (tgt := 2226) o rfl dL_law_2222 ?_
        refine g_lcmp o dL_law_2226 ?_
        refine g_if_eq (tgt := 2232) o rfl dL_law_2227 hf (fun hc hf => ?_) (fun hc hf => ?_)
        · refine g_goto (tgt := 3660) o rfl dL_law_2232 ?_
          refine g_iinc o [(4, .int (i + 6)), (6, .int r169.1), (5, .int r168.1), (0, .ref sb), (1, .ref (a 0)), (2, .ref (e 0)), (3, .ref oa)] 6 rfl (inc_6 _) (Nat.le_of_ble_eq_true rfl) rfl dL_law_3660 ?_
          refine g_goto (tgt := 23) o rfl dL_law_3663 ?_
          have hp := lf_c hf hw
          exact g_perm [3, 4, 5, 6, 0] rfl (hp _ _ (by omega) (by omega))
        · refine g_iconst o ic_0 dL_law_2230 ?_
          exact (hR _ (lf_x hf hw)).elim
  · refine g_iconst o ic_0 dL_law_2206 ?_
    exact (hR _ (lf_x hf hw)).elim
set_option maxRecDepth 20000 in
set_option maxHeartbeats 4000000 in
theorem b_law_c29 {x : Cx} (o : Ok x cL_law 7 RL 100 601024 7293034) {a b c e : Nat → Nat} {oa sb LL : Nat} {xs : Nat → Int32} (hs9 : SF x sb LL xs) {mm : Nat} (r : (Int32 × St × St × St × St × (Nat → Int64)) ⊕ Int32) (hR : ∀ t, r = .inr t → False) (i : Int32) (u v w m : St) (f : Nat → Int64) (ww : (Int32 × St × St × St × St × (Nat → Int64)) ⊕ ((Int32 × St × St × St × St × (Nat → Int64)) ⊕ Int32)) (hf : f_law_c29 xs LL i u v w m f = some ww) (hw : (∃ s2, ww = .inl s2 ∧ (fun (s : Int32 × St × St × St × St × (Nat → Int64)) => ∀ k n : Nat, k + 10 * mm ≤ 601024 → n + 60 * mm ≤ 7293034 → G x 7 k n (wLw a s.2.1 b s.2.2.1 c s.2.2.2.1 e s.2.2.2.2.1 oa s.2.2.2.2.2 (cxT x)) [(0, .ref sb), (1, .ref (a 0)), (2, .ref (e 0)), (3, .ref oa), (4, .int s.1)] 23 []) s2) ∨ ww = .inr r) {k n : Nat} (hk : k + 10 * (mm + 1) ≤ 601024) (hn : n + 60 * (mm + 1) ≤ 7293034) : G x 7 k n (wLw a u b v c w e m oa f (cxT x)) [(0, .ref sb), (1, .ref (a 0)), (2, .ref (e 0)), (3, .ref oa), (4, .int i)] 2235 [] := by
  unfold f_law_c29 at hf
  refine g_aload_n o 1 rfl rfl dL_law_2235 ?_
  refine g_aload_n o 3 rfl rfl dL_law_2236 ?_
  obtain ⟨r174, hr174, hf⟩ := bd_some hf
  refine k_L_lowestKind_W o hr174 m_639 (Nat.le_of_ble_eq_true rfl) (Nat.le_of_ble_eq_true rfl) ⟨by omega, by omega⟩ dL_law_2237 ?_
  refine g_istore o [(5, .int r174.1), (0, .ref sb), (1, .ref (a 0)), (2, .ref (e 0)), (3, .ref oa), (4, .int i)] (Nat.le_of_ble_eq_true rfl) rfl dL_law_2240 ?_
  refine g_aload_n o 3 rfl rfl dL_law_2242 ?_
  obtain ⟨r175, hr175, hf⟩ := bd_some hf
  refine k_X2_lowestKind_W o hr175 m_1167 (Nat.le_of_ble_eq_true rfl) (Nat.le_of_ble_eq_true rfl) ⟨by omega, by omega⟩ dL_law_2243 ?_
  refine g_istore o [(6, .int r175.1), (5, .int r174.1), (0, .ref sb), (1, .ref (a 0)), (2, .ref (e 0)), (3, .ref oa), (4, .int i)] (Nat.le_of_ble_eq_true rfl) rfl dL_law_2246 ?_
  refine g_aload_n o 4 rfl rfl dL_law_2248 ?_
  obtain ⟨r176, hr176, hf⟩ := bd_some hf
  refine k_X2_thrown_W o hr176 m_984 (Nat.le_of_ble_eq_true rfl) (Nat.le_of_ble_eq_true rfl) ⟨by omega, by omega⟩ dL_law_2249 ?_
  refine g_iload o 1 rfl dL_law_2252 ?_
  refine g_ic_eq (tgt := 2259) o rfl dL_law_2254 hf (fun hc hf => ?_) (fun hc hf => ?_)
  · refine g_iload o 1 rfl dL_law_2259 ?_
    refine g_if_ne (tgt := 2276) o rfl dL_law_2261 hf (fun hc hf => ?_) (fun hc hf => ?_)
    · refine g_goto (tgt := 3660) o rfl dL_law_2276 ?_
      refine g_iinc o [(4, .int (i + 6)), (6, .int r175.1), (5, .int r174.1), (0, .ref sb), (1, .ref (a 0)), (2, .ref (e 0)), (3, .ref oa)] 6 rfl (inc_6 _) (Nat.le_of_ble_eq_true rfl) rfl dL_law_3660 ?_
      refine g_goto (tgt := 23) o rfl dL_law_3663 ?_
      have hp := lf_c hf hw
      exact g_perm [3, 4, 5, 6, 0] rfl (hp _ _ (by omega) (by omega))
    · refine g_aload_n o 5 rfl rfl dL_law_2264 ?_
      refine g_iconst o ic_0 dL_law_2265 ?_
      refine W_old o dL_law_2266 hf (fun hf => ?_)
      refine g_iload o 0 rfl dL_law_2267 ?_
      refine g_i2l o dL_law_2269 ?_
      refine g_lcmp o dL_law_2270 ?_
      refine g_if_eq (tgt := 2276) o rfl dL_law_2271 hf (fun hc hf => ?_) (fun hc hf => ?_)
      · refine g_goto (tgt := 3660) o rfl dL_law_2276 ?_
        refine g_iinc o [(4, .int (i + 6)), (6, .int r175.1), (5, .int r174.1), (0, .ref sb), (1, .ref (a 0)), (2, .ref (e 0)), (3, .ref oa)] 6 rfl (inc_6 _) (Nat.le_of_ble_eq_true rfl) rfl dL_law_3660 ?_
        refine g_goto (tgt := 23) o rfl dL_law_3663 ?_
        have hp := lf_c hf hw
        exact g_perm [3, 4, 5, 6, 0] rfl (hp _ _ (by omega) (by omega))
      · refine g_iconst o ic_0 dL_law_2274 ?_
        exact (hR _ (lf_x hf hw)).elim
  · refine g_iconst o ic_0 dL_law_2257 ?_
    exact (hR _ (lf_x hf hw)).elim
set_option maxRecDepth 20000 in
set_option maxHeartbeats 4000000 in
theorem b_law_c30 {x : Cx} (o : Ok x cL_law 7 RL 100 601024 7293034) {a b c e : Nat → Nat} {oa sb LL : Nat} {xs : Nat → Int32} (hs9 : SF x sb LL xs) {mm : Nat} (r : (Int32 × St × St × St × St × (Nat → Int64)) ⊕ Int32) (hR : ∀ t, r = .inr t → False) (i : Int32) (u v w m : St) (f : Nat → Int64) (ww : (Int32 × St × St × St × St × (Nat → Int64)) ⊕ ((Int32 × St × St × St × St × (Nat → Int64)) ⊕ Int32)) (hf : f_law_c30 xs LL i u v w m f = some ww) (hw : (∃ s2, ww = .inl s2 ∧ (fun (s : Int32 × St × St × St × St × (Nat → Int64)) => ∀ k n : Nat, k + 10 * mm ≤ 601024 → n + 60 * mm ≤ 7293034 → G x 7 k n (wLw a s.2.1 b s.2.2.1 c s.2.2.2.1 e s.2.2.2.2.1 oa s.2.2.2.2.2 (cxT x)) [(0, .ref sb), (1, .ref (a 0)), (2, .ref (e 0)), (3, .ref oa), (4, .int s.1)] 23 []) s2) ∨ ww = .inr r) {k n : Nat} (hk : k + 10 * (mm + 1) ≤ 601024) (hn : n + 60 * (mm + 1) ≤ 7293034) : G x 7 k n (wLw a u b v c w e m oa f (cxT x)) [(0, .ref sb), (1, .ref (a 0)), (2, .ref (e 0)), (3, .ref oa), (4, .int i)] 2279 [] := by
  unfold f_law_c30 at hf
  refine g_aload_n o 1 rfl rfl dL_law_2279 ?_
  refine g_aload_n o 0 rfl rfl dL_law_2280 ?_
  refine g_iload o 4 rfl dL_law_2281 ?_
  refine g_iconst o ic_1 dL_law_2283 ?_
  refine g_iadd o dL_law_2284 ?_
  refine g_sld o hs9 dL_law_2285 hf (fun hf => ?_)
  refine g_aload_n o 3 rfl rfl dL_law_2286 ?_
  obtain ⟨r180, hr180, hf⟩ := bd_some hf
  refine k_L_setVariables_W o hr180 m_647 (Nat.le_of_ble_eq_true rfl) (Nat.le_of_ble_eq_true rfl) ⟨by omega, by omega⟩ dL_law_2287 ?_
  refine g_istore o [(5, .int r180.1), (0, .ref sb), (1, .ref (a 0)), (2, .ref (e 0)), (3, .ref oa), (4, .int i)] (Nat.le_of_ble_eq_true rfl) rfl dL_law_2290 ?_
  refine g_aload_n o 3 rfl rfl dL_law_2292 ?_
  refine g_aload_n o 1 rfl rfl dL_law_2293 ?_
  refine g_iload o 5 rfl dL_law_2294 ?_
  refine g_iconst o ic_1 dL_law_2296 ?_
  refine g_iadd o dL_law_2297 ?_
  refine g_sld o hs9 dL_law_2298 hf (fun hf => ?_)
  obtain ⟨r181, hr181, hf⟩ := bd_some hf
  refine k_X2_setVariables_W o hr181 m_1171 (Nat.le_of_ble_eq_true rfl) (Nat.le_of_ble_eq_true rfl) ⟨by omega, by omega⟩ dL_law_2299 ?_
  refine g_istore o [(6, .int r181.1), (5, .int r180.1), (0, .ref sb), (1, .ref (a 0)), (2, .ref (e 0)), (3, .ref oa), (4, .int i)] (Nat.le_of_ble_eq_true rfl) rfl dL_law_2302 ?_
  refine g_aload_n o 4 rfl rfl dL_law_2304 ?_
  obtain ⟨r182, hr182, hf⟩ := bd_some hf
  refine k_X2_thrown_W o hr182 m_984 (Nat.le_of_ble_eq_true rfl) (Nat.le_of_ble_eq_true rfl) ⟨by omega, by omega⟩ dL_law_2305 ?_
  refine g_iload o 1 rfl dL_law_2308 ?_
  refine g_ic_eq (tgt := 2315) o rfl dL_law_2310 hf (fun hc hf => ?_) (fun hc hf => ?_)
  · refine g_iload o 1 rfl dL_law_2315 ?_
    refine g_if_ne (tgt := 2332) o rfl dL_law_2317 hf (fun hc hf => ?_) (fun hc hf => ?_)
    · refine g_goto (tgt := 3660) o rfl dL_law_2332 ?_
      refine g_iinc o [(4, .int (i + 6)), (6, .int r181.1), (5, .int r180.1), (0, .ref sb), (1, .ref (a 0)), (2, .ref (e 0)), (3, .ref oa)] 6 rfl (inc_6 _) (Nat.le_of_ble_eq_true rfl) rfl dL_law_3660 ?_
      refine g_goto (tgt := 23) o rfl dL_law_3663 ?_
      have hp := lf_c hf hw
      exact g_perm [3, 4, 5, 6, 0] rfl (hp _ _ (by omega) (by omega))
    · refine g_aload_n o 5 rfl rfl dL_law_2320 ?_
      refine g_iconst o ic_0 dL_law_2321 ?_
      refine W_old o dL_law_2322 hf (fun hf => ?_)
      refine g_iload o 0 rfl dL_law_2323 ?_
      refine g_i2l o dL_law_2325 ?_
      refine g_lcmp o dL_law_2326 ?_
      refine g_if_eq (tgt := 2332) o rfl dL_law_2327 hf (fun hc hf => ?_) (fun hc hf => ?_)
      · refine g_goto (tgt := 3660) o rfl dL_law_2332 ?_
        refine g_iinc o [(4, .int (i + 6)), (6, .int r181.1), (5, .int r180.1), (0, .ref sb), (1, .ref (a 0)), (2, .ref (e 0)), (3, .ref oa)] 6 rfl (inc_6 _) (Nat.le_of_ble_eq_true rfl) rfl dL_law_3660 ?_
        refine g_goto (tgt := 23) o rfl dL_law_3663 ?_
        have hp := lf_c hf hw
        exact g_perm [3, 4, 5, 6, 0] rfl (hp _ _ (by omega) (by omega))
      · refine g_iconst o ic_0 dL_law_2330 ?_
        exact (hR _ (lf_x hf hw)).elim
  · refine g_iconst o ic_0 dL_law_2313 ?_
    exact (hR _ (lf_x hf hw)).elim
set_option maxRecDepth 20000 in
set_option maxHeartbeats 4000000 in
theorem b_law_c31 {x : Cx} (o : Ok x cL_law 7 RL 100 601024 7293034) {a b c e : Nat → Nat} {oa sb LL : Nat} {xs : Nat → Int32} (hs9 : SF x sb LL xs) {mm : Nat} (r : (Int32 × St × St × St × St × (Nat → Int64)) ⊕ Int32) (hR : ∀ t, r = .inr t → False) (i : Int32) (u v w m : St) (f : Nat → Int64) (ww : (Int32 × St × St × St × St × (Nat → Int64)) ⊕ ((Int32 × St × St × St × St × (Nat → Int64)) ⊕ Int32)) (hf : f_law_c31 xs LL i u v w m f = some ww) (hw : (∃ s2, ww = .inl s2 ∧ (fun (s : Int32 × St × St × St × St × (Nat → Int64)) => ∀ k n : Nat, k + 10 * mm ≤ 601024 → n + 60 * mm ≤ 7293034 → G x 7 k n (wLw a s.2.1 b s.2.2.1 c s.2.2.2.1 e s.2.2.2.2.1 oa s.2.2.2.2.2 (cxT x)) [(0, .ref sb), (1, .ref (a 0)), (2, .ref (e 0)), (3, .ref oa), (4, .int s.1)] 23 []) s2) ∨ ww = .inr r) {k n : Nat} (hk : k + 10 * (mm + 1) ≤ 601024) (hn : n + 60 * (mm + 1) ≤ 7293034) : G x 7 k n (wLw a u b v c w e m oa f (cxT x)) [(0, .ref sb), (1, .ref (a 0)), (2, .ref (e 0)), (3, .ref oa), (4, .int i)] 2335 [] := by
  unfold f_law_c31 at hf
  refine g_aload_n o 1 rfl rfl dL_law_2335 ?_
  refine g_aload_n o 0 rfl rfl dL_law_2336 ?_
  refine g_iload o 4 rfl dL_law_2337 ?_
  refine g_iconst o ic_1 dL_law_2339 ?_
  refine g_iadd o dL_law_2340 ?_
  refine g_sld o hs9 dL_law_2341 hf (fun hf => ?_)
  refine g_aload_n o 0 rfl rfl dL_law_2342 ?_
  refine g_iload o 4 rfl dL_law_2343 ?_
  refine g_iconst o ic_2 dL_law_2345 ?_
  refine g_iadd o dL_law_2346 ?_
  refine g_sld o hs9 dL_law_2347 hf (fun hf => ?_)
  refine g_aload_n o 0 rfl rfl dL_law_2348 ?_
  refine g_iload o 4 rfl dL_law_2349 ?_
  refine g_iconst o ic_3 dL_law_2351 ?_
  refine g_iadd o dL_law_2352 ?_
  refine g_sld o hs9 dL_law_2353 hf (fun hf => ?_)
  refine g_aload_n o 0 rfl rfl dL_law_2354 ?_
  refine g_iload o 4 rfl dL_law_2355 ?_
  refine g_iconst o ic_4 dL_law_2357 ?_
  refine g_iadd o dL_law_2358 ?_
  refine g_sld o hs9 dL_law_2359 hf (fun hf => ?_)
  refine g_aload_n o 0 rfl rfl dL_law_2360 ?_
  refine g_iload o 4 rfl dL_law_2361 ?_
  refine g_iconst o ic_5 dL_law_2363 ?_
  refine g_iadd o dL_law_2364 ?_
  refine g_sld o hs9 dL_law_2365 hf (fun hf => ?_)
  refine g_aload_n o 3 rfl rfl dL_law_2366 ?_
  obtain ⟨r186, hr186, hf⟩ := bd_some hf
  refine k_L_addConstraint_W o hr186 m_655 (Nat.le_of_ble_eq_true rfl) (Nat.le_of_ble_eq_true rfl) ⟨by omega, by omega⟩ dL_law_2367 ?_
  refine g_istore o [(5, .int r186.1), (0, .ref sb), (1, .ref (a 0)), (2, .ref (e 0)), (3, .ref oa), (4, .int i)] (Nat.le_of_ble_eq_true rfl) rfl dL_law_2370 ?_
  refine g_aload_n o 3 rfl rfl dL_law_2372 ?_
  refine g_aload_n o 1 rfl rfl dL_law_2373 ?_
  refine g_iload o 5 rfl dL_law_2374 ?_
  refine g_iconst o ic_1 dL_law_2376 ?_
  refine g_iadd o dL_law_2377 ?_
  refine g_sld o hs9 dL_law_2378 hf (fun hf => ?_)
  refine g_aload_n o 1 rfl rfl dL_law_2379 ?_
  refine g_iload o 5 rfl dL_law_2380 ?_
  refine g_iconst o ic_2 dL_law_2382 ?_
  refine g_iadd o dL_law_2383 ?_
  refine g_sld o hs9 dL_law_2384 hf (fun hf => ?_)
  refine g_aload_n o 1 rfl rfl dL_law_2385 ?_
  refine g_iload o 5 rfl dL_law_2386 ?_
  refine g_iconst o ic_3 dL_law_2388 ?_
  refine g_iadd o dL_law_2389 ?_
  refine g_sld o hs9 dL_law_2390 hf (fun hf => ?_)
  refine g_aload_n o 1 rfl rfl dL_law_2391 ?_
  refine g_iload o 5 rfl dL_law_2392 ?_
  refine g_iconst o ic_4 dL_law_2394 ?_
  refine g_iadd o dL_law_2395 ?_
  refine g_sld o hs9 dL_law_2396 hf (fun hf => ?_)
  refine g_aload_n o 1 rfl rfl dL_law_2397 ?_
  refine g_iload o 5 rfl dL_law_2398 ?_
  refine g_iconst o ic_5 dL_law_2400 ?_
  refine g_iadd o dL_law_2401 ?_
  refine g_sld o hs9 dL_law_2402 hf (fun hf => ?_)
  obtain ⟨r187, hr187, hf⟩ := bd_some hf
  refine k_X2_addConstraint_W o hr187 m_1175 (Nat.le_of_ble_eq_true rfl) (Nat.le_of_ble_eq_true rfl) ⟨by omega, by omega⟩ dL_law_2403 ?_
  refine g_istore o [(6, .int r187.1), (5, .int r186.1), (0, .ref sb), (1, .ref (a 0)), (2, .ref (e 0)), (3, .ref oa), (4, .int i)] (Nat.le_of_ble_eq_true rfl) rfl dL_law_2406 ?_
  refine g_aload_n o 4 rfl rfl dL_law_2408 ?_
  obtain ⟨r188, hr188, hf⟩ := bd_some hf
  refine k_X2_thrown_W o hr188 m_984 (Nat.le_of_ble_eq_true rfl) (Nat.le_of_ble_eq_true rfl) ⟨by omega, by omega⟩ dL_law_2409 ?_
  refine g_iload o 1 rfl dL_law_2412 ?_
  refine g_ic_eq (tgt := 2419) o rfl dL_law_2414 hf (fun hc hf => ?_) (fun hc hf => ?_)
  · refine g_iload o 1 rfl dL_law_2419 ?_
    refine g_if_ne (tgt := 2436) o rfl dL_law_2421 hf (fun hc hf => ?_) (fun hc hf => ?_)
    · refine g_goto (tgt := 3660) o rfl dL_law_2436 ?_
      refine g_iinc o [(4, .int (i + 6)), (6, .int r187.1), (5, .int r186.1), (0, .ref sb), (1, .ref (a 0)), (2, .ref (e 0)), (3, .ref oa)] 6 rfl (inc_6 _) (Nat.le_of_ble_eq_true rfl) rfl dL_law_3660 ?_
      refine g_goto (tgt := 23) o rfl dL_law_3663 ?_
      have hp := lf_c hf hw
      exact g_perm [3, 4, 5, 6, 0] rfl (hp _ _ (by omega) (by omega))
    · refine g_aload_n o 5 rfl rfl dL_law_2424 ?_
      refine g_iconst o ic_0 dL_law_2425 ?_
      refine W_old o dL_law_2426 hf (fun hf => ?_)
      refine g_iload o 0 rfl dL_law_2427 ?_
      refine g_i2l o dL_law_2429 ?_
      refine g_lcmp o dL_law_2430 ?_
      refine g_if_eq (tgt := 2436) o rfl dL_law_2431 hf (fun hc hf => ?_) (fun hc hf => ?_)
      · refine g_goto (tgt := 3660) o rfl dL_law_2436 ?_
        refine g_iinc o [(4, .int (i + 6)), (6, .int r187.1), (5, .int r186.1), (0, .ref sb), (1, .ref (a 0)), (2, .ref (e 0)), (3, .ref oa)] 6 rfl (inc_6 _) (Nat.le_of_ble_eq_true rfl) rfl dL_law_3660 ?_
        refine g_goto (tgt := 23) o rfl dL_law_3663 ?_
        have hp := lf_c hf hw
        exact g_perm [3, 4, 5, 6, 0] rfl (hp _ _ (by omega) (by omega))
      · refine g_iconst o ic_0 dL_law_2434 ?_
        exact (hR _ (lf_x hf hw)).elim
  · refine g_iconst o ic_0 dL_law_2417 ?_
    exact (hR _ (lf_x hf hw)).elim
set_option maxRecDepth 20000 in
set_option maxHeartbeats 4000000 in
theorem b_law_c32 {x : Cx} (o : Ok x cL_law 7 RL 100 601024 7293034) {a b c e : Nat → Nat} {oa sb LL : Nat} {xs : Nat → Int32} (hs9 : SF x sb LL xs) {mm : Nat} (r : (Int32 × St × St × St × St × (Nat → Int64)) ⊕ Int32) (hR : ∀ t, r = .inr t → False) (i : Int32) (u v w m : St) (f : Nat → Int64) (ww : (Int32 × St × St × St × St × (Nat → Int64)) ⊕ ((Int32 × St × St × St × St × (Nat → Int64)) ⊕ Int32)) (hf : f_law_c32 xs LL i u v w m f = some ww) (hw : (∃ s2, ww = .inl s2 ∧ (fun (s : Int32 × St × St × St × St × (Nat → Int64)) => ∀ k n : Nat, k + 10 * mm ≤ 601024 → n + 60 * mm ≤ 7293034 → G x 7 k n (wLw a s.2.1 b s.2.2.1 c s.2.2.2.1 e s.2.2.2.2.1 oa s.2.2.2.2.2 (cxT x)) [(0, .ref sb), (1, .ref (a 0)), (2, .ref (e 0)), (3, .ref oa), (4, .int s.1)] 23 []) s2) ∨ ww = .inr r) {k n : Nat} (hk : k + 10 * (mm + 1) ≤ 601024) (hn : n + 60 * (mm + 1) ≤ 7293034) : G x 7 k n (wLw a u b v c w e m oa f (cxT x)) [(0, .ref sb), (1, .ref (a 0)), (2, .ref (e 0)), (3, .ref oa), (4, .int i)] 2439 [] := by
  unfold f_law_c32 at hf
  refine g_aload_n o 1 rfl rfl dL_law_2439 ?_
  refine g_aload_n o 3 rfl rfl dL_law_2440 ?_
  obtain ⟨r192, hr192, hf⟩ := bd_some hf
  refine k_L_removeLastConstraint_W o hr192 m_675 (Nat.le_of_ble_eq_true rfl) (Nat.le_of_ble_eq_true rfl) ⟨by omega, by omega⟩ dL_law_2441 ?_
  refine g_istore o [(5, .int r192.1), (0, .ref sb), (1, .ref (a 0)), (2, .ref (e 0)), (3, .ref oa), (4, .int i)] (Nat.le_of_ble_eq_true rfl) rfl dL_law_2444 ?_
  refine g_aload_n o 3 rfl rfl dL_law_2446 ?_
  obtain ⟨r193, hr193, hf⟩ := bd_some hf
  refine k_X2_removeLastConstraint_W o hr193 m_1187 (Nat.le_of_ble_eq_true rfl) (Nat.le_of_ble_eq_true rfl) ⟨by omega, by omega⟩ dL_law_2447 ?_
  refine g_istore o [(6, .int r193.1), (5, .int r192.1), (0, .ref sb), (1, .ref (a 0)), (2, .ref (e 0)), (3, .ref oa), (4, .int i)] (Nat.le_of_ble_eq_true rfl) rfl dL_law_2450 ?_
  refine g_aload_n o 4 rfl rfl dL_law_2452 ?_
  obtain ⟨r194, hr194, hf⟩ := bd_some hf
  refine k_X2_thrown_W o hr194 m_984 (Nat.le_of_ble_eq_true rfl) (Nat.le_of_ble_eq_true rfl) ⟨by omega, by omega⟩ dL_law_2453 ?_
  refine g_iload o 1 rfl dL_law_2456 ?_
  refine g_ic_eq (tgt := 2463) o rfl dL_law_2458 hf (fun hc hf => ?_) (fun hc hf => ?_)
  · refine g_iload o 1 rfl dL_law_2463 ?_
    refine g_if_ne (tgt := 2480) o rfl dL_law_2465 hf (fun hc hf => ?_) (fun hc hf => ?_)
    · refine g_goto (tgt := 3660) o rfl dL_law_2480 ?_
      refine g_iinc o [(4, .int (i + 6)), (6, .int r193.1), (5, .int r192.1), (0, .ref sb), (1, .ref (a 0)), (2, .ref (e 0)), (3, .ref oa)] 6 rfl (inc_6 _) (Nat.le_of_ble_eq_true rfl) rfl dL_law_3660 ?_
      refine g_goto (tgt := 23) o rfl dL_law_3663 ?_
      have hp := lf_c hf hw
      exact g_perm [3, 4, 5, 6, 0] rfl (hp _ _ (by omega) (by omega))
    · refine g_aload_n o 5 rfl rfl dL_law_2468 ?_
      refine g_iconst o ic_0 dL_law_2469 ?_
      refine W_old o dL_law_2470 hf (fun hf => ?_)
      refine g_iload o 0 rfl dL_law_2471 ?_
      refine g_i2l o dL_law_2473 ?_
      refine g_lcmp o dL_law_2474 ?_
      refine g_if_eq (tgt := 2480) o rfl dL_law_2475 hf (fun hc hf => ?_) (fun hc hf => ?_)
      · refine g_goto (tgt := 3660) o rfl dL_law_2480 ?_
        refine g_iinc o [(4, .int (i + 6)), (6, .int r193.1), (5, .int r192.1), (0, .ref sb), (1, .ref (a 0)), (2, .ref (e 0)), (3, .ref oa)] 6 rfl (inc_6 _) (Nat.le_of_ble_eq_true rfl) rfl dL_law_3660 ?_
        refine g_goto (tgt := 23) o rfl dL_law_3663 ?_
        have hp := lf_c hf hw
        exact g_perm [3, 4, 5, 6, 0] rfl (hp _ _ (by omega) (by omega))
      · refine g_iconst o ic_0 dL_law_2478 ?_
        exact (hR _ (lf_x hf hw)).elim
  · refine g_iconst o ic_0 dL_law_2461 ?_
    exact (hR _ (lf_x hf hw)).elim
set_option maxRecDepth 20000 in
set_option maxHeartbeats 4000000 in
theorem b_law_c33 {x : Cx} (o : Ok x cL_law 7 RL 100 601024 7293034) {a b c e : Nat → Nat} {oa sb LL : Nat} {xs : Nat → Int32} (hs9 : SF x sb LL xs) {mm : Nat} (r : (Int32 × St × St × St × St × (Nat → Int64)) ⊕ Int32) (hR : ∀ t, r = .inr t → False) (i : Int32) (u v w m : St) (f : Nat → Int64) (ww : (Int32 × St × St × St × St × (Nat → Int64)) ⊕ ((Int32 × St × St × St × St × (Nat → Int64)) ⊕ Int32)) (hf : f_law_c33 xs LL i u v w m f = some ww) (hw : (∃ s2, ww = .inl s2 ∧ (fun (s : Int32 × St × St × St × St × (Nat → Int64)) => ∀ k n : Nat, k + 10 * mm ≤ 601024 → n + 60 * mm ≤ 7293034 → G x 7 k n (wLw a s.2.1 b s.2.2.1 c s.2.2.2.1 e s.2.2.2.2.1 oa s.2.2.2.2.2 (cxT x)) [(0, .ref sb), (1, .ref (a 0)), (2, .ref (e 0)), (3, .ref oa), (4, .int s.1)] 23 []) s2) ∨ ww = .inr r) {k n : Nat} (hk : k + 10 * (mm + 1) ≤ 601024) (hn : n + 60 * (mm + 1) ≤ 7293034) : G x 7 k n (wLw a u b v c w e m oa f (cxT x)) [(0, .ref sb), (1, .ref (a 0)), (2, .ref (e 0)), (3, .ref oa), (4, .int i)] 2483 [] := by
  unfold f_law_c33 at hf
  refine g_aload_n o 1 rfl rfl dL_law_2483 ?_
  obtain ⟨r197, hr197, hf⟩ := bd_some hf
  refine k_X1_solutionCount_W o hr197 m_152 (Nat.le_of_ble_eq_true rfl) (Nat.le_of_ble_eq_true rfl) ⟨by omega, by omega⟩ dL_law_2484 ?_
  refine g_aload_n o 2 rfl rfl dL_law_2487 ?_
  obtain ⟨r198, hr198, hf⟩ := bd_some hf
  refine k_X2_solutionCount_W o hr198 m_1191 (Nat.le_of_ble_eq_true rfl) (Nat.le_of_ble_eq_true rfl) ⟨by omega, by omega⟩ dL_law_2488 ?_
  refine g_ic_eq (tgt := 3660) o rfl dL_law_2491 hf (fun hc hf => ?_) (fun hc hf => ?_)
  · refine g_iinc o [(4, .int (i + 6)), (0, .ref sb), (1, .ref (a 0)), (2, .ref (e 0)), (3, .ref oa)] 4 rfl (inc_6 _) (Nat.le_of_ble_eq_true rfl) rfl dL_law_3660 ?_
    refine g_goto (tgt := 23) o rfl dL_law_3663 ?_
    have hp := lf_c hf hw
    exact g_perm [1, 2, 3, 4, 0] rfl (hp _ _ (by omega) (by omega))
  · refine g_iconst o ic_0 dL_law_2494 ?_
    exact (hR _ (lf_x hf hw)).elim
set_option maxRecDepth 20000 in
set_option maxHeartbeats 4000000 in
theorem b_law_c34 {x : Cx} (o : Ok x cL_law 7 RL 100 601024 7293034) {a b c e : Nat → Nat} {oa sb LL : Nat} {xs : Nat → Int32} (hs9 : SF x sb LL xs) {mm : Nat} (r : (Int32 × St × St × St × St × (Nat → Int64)) ⊕ Int32) (hR : ∀ t, r = .inr t → False) (i : Int32) (u v w m : St) (f : Nat → Int64) (ww : (Int32 × St × St × St × St × (Nat → Int64)) ⊕ ((Int32 × St × St × St × St × (Nat → Int64)) ⊕ Int32)) (hf : f_law_c34 xs LL i u v w m f = some ww) (hw : (∃ s2, ww = .inl s2 ∧ (fun (s : Int32 × St × St × St × St × (Nat → Int64)) => ∀ k n : Nat, k + 10 * mm ≤ 601024 → n + 60 * mm ≤ 7293034 → G x 7 k n (wLw a s.2.1 b s.2.2.1 c s.2.2.2.1 e s.2.2.2.2.1 oa s.2.2.2.2.2 (cxT x)) [(0, .ref sb), (1, .ref (a 0)), (2, .ref (e 0)), (3, .ref oa), (4, .int s.1)] 23 []) s2) ∨ ww = .inr r) {k n : Nat} (hk : k + 10 * (mm + 1) ≤ 601024) (hn : n + 60 * (mm + 1) ≤ 7293034) : G x 7 k n (wLw a u b v c w e m oa f (cxT x)) [(0, .ref sb), (1, .ref (a 0)), (2, .ref (e 0)), (3, .ref oa), (4, .int i)] 2496 [] := by
  unfold f_law_c34 at hf
  refine g_aload_n o 1 rfl rfl dL_law_2496 ?_
  refine g_aload_n o 0 rfl rfl dL_law_2497 ?_
  refine g_iload o 4 rfl dL_law_2498 ?_
  refine g_iconst o ic_1 dL_law_2500 ?_
  refine g_iadd o dL_law_2501 ?_
  refine g_sld o hs9 dL_law_2502 hf (fun hf => ?_)
  refine g_aload_n o 3 rfl rfl dL_law_2503 ?_
  obtain ⟨r202, hr202, hf⟩ := bd_some hf
  refine k_L_solution_W o hr202 m_683 (Nat.le_of_ble_eq_true rfl) (Nat.le_of_ble_eq_true rfl) ⟨by omega, by omega⟩ dL_law_2504 ?_
  refine g_istore o [(5, .int r202.1), (0, .ref sb), (1, .ref (a 0)), (2, .ref (e 0)), (3, .ref oa), (4, .int i)] (Nat.le_of_ble_eq_true rfl) rfl dL_law_2507 ?_
  refine g_aload_n o 3 rfl rfl dL_law_2509 ?_
  refine g_aload_n o 1 rfl rfl dL_law_2510 ?_
  refine g_iload o 5 rfl dL_law_2511 ?_
  refine g_iconst o ic_1 dL_law_2513 ?_
  refine g_iadd o dL_law_2514 ?_
  refine g_sld o hs9 dL_law_2515 hf (fun hf => ?_)
  obtain ⟨r203, hr203, hf⟩ := bd_some hf
  refine k_X2_solution_W o hr203 m_1207 (Nat.le_of_ble_eq_true rfl) (Nat.le_of_ble_eq_true rfl) ⟨by omega, by omega⟩ dL_law_2516 ?_
  refine g_istore o [(6, .int r203.1), (5, .int r202.1), (0, .ref sb), (1, .ref (a 0)), (2, .ref (e 0)), (3, .ref oa), (4, .int i)] (Nat.le_of_ble_eq_true rfl) rfl dL_law_2519 ?_
  refine g_aload_n o 4 rfl rfl dL_law_2521 ?_
  obtain ⟨r204, hr204, hf⟩ := bd_some hf
  refine k_X2_thrown_W o hr204 m_984 (Nat.le_of_ble_eq_true rfl) (Nat.le_of_ble_eq_true rfl) ⟨by omega, by omega⟩ dL_law_2522 ?_
  refine g_iload o 1 rfl dL_law_2525 ?_
  refine g_ic_eq (tgt := 2532) o rfl dL_law_2527 hf (fun hc hf => ?_) (fun hc hf => ?_)
  · refine g_iload o 1 rfl dL_law_2532 ?_
    refine g_if_ne (tgt := 2549) o rfl dL_law_2534 hf (fun hc hf => ?_) (fun hc hf => ?_)
    · refine g_goto (tgt := 3660) o rfl dL_law_2549 ?_
      refine g_iinc o [(4, .int (i + 6)), (6, .int r203.1), (5, .int r202.1), (0, .ref sb), (1, .ref (a 0)), (2, .ref (e 0)), (3, .ref oa)] 6 rfl (inc_6 _) (Nat.le_of_ble_eq_true rfl) rfl dL_law_3660 ?_
      refine g_goto (tgt := 23) o rfl dL_law_3663 ?_
      have hp := lf_c hf hw
      exact g_perm [3, 4, 5, 6, 0] rfl (hp _ _ (by omega) (by omega))
    · refine g_aload_n o 5 rfl rfl dL_law_2537 ?_
      refine g_iconst o ic_0 dL_law_2538 ?_
      refine W_old o dL_law_2539 hf (fun hf => ?_)
      refine g_iload o 0 rfl dL_law_2540 ?_
      refine g_i2l o dL_law_2542 ?_
      refine g_lcmp o dL_law_2543 ?_
      refine g_if_eq (tgt := 2549) o rfl dL_law_2544 hf (fun hc hf => ?_) (fun hc hf => ?_)
      · refine g_goto (tgt := 3660) o rfl dL_law_2549 ?_
        refine g_iinc o [(4, .int (i + 6)), (6, .int r203.1), (5, .int r202.1), (0, .ref sb), (1, .ref (a 0)), (2, .ref (e 0)), (3, .ref oa)] 6 rfl (inc_6 _) (Nat.le_of_ble_eq_true rfl) rfl dL_law_3660 ?_
        refine g_goto (tgt := 23) o rfl dL_law_3663 ?_
        have hp := lf_c hf hw
        exact g_perm [3, 4, 5, 6, 0] rfl (hp _ _ (by omega) (by omega))
      · refine g_iconst o ic_0 dL_law_2547 ?_
        exact (hR _ (lf_x hf hw)).elim
  · refine g_iconst o ic_0 dL_law_2530 ?_
    exact (hR _ (lf_x hf hw)).elim
set_option maxRecDepth 20000 in
set_option maxHeartbeats 4000000 in
theorem b_law_c35 {x : Cx} (o : Ok x cL_law 7 RL 100 601024 7293034) {a b c e : Nat → Nat} {oa sb LL : Nat} {xs : Nat → Int32} (hs9 : SF x sb LL xs) {mm : Nat} (r : (Int32 × St × St × St × St × (Nat → Int64)) ⊕ Int32) (hR : ∀ t, r = .inr t → False) (i : Int32) (u v w m : St) (f : Nat → Int64) (ww : (Int32 × St × St × St × St × (Nat → Int64)) ⊕ ((Int32 × St × St × St × St × (Nat → Int64)) ⊕ Int32)) (hf : f_law_c35 xs LL i u v w m f = some ww) (hw : (∃ s2, ww = .inl s2 ∧ (fun (s : Int32 × St × St × St × St × (Nat → Int64)) => ∀ k n : Nat, k + 10 * mm ≤ 601024 → n + 60 * mm ≤ 7293034 → G x 7 k n (wLw a s.2.1 b s.2.2.1 c s.2.2.2.1 e s.2.2.2.2.1 oa s.2.2.2.2.2 (cxT x)) [(0, .ref sb), (1, .ref (a 0)), (2, .ref (e 0)), (3, .ref oa), (4, .int s.1)] 23 []) s2) ∨ ww = .inr r) {k n : Nat} (hk : k + 10 * (mm + 1) ≤ 601024) (hn : n + 60 * (mm + 1) ≤ 7293034) : G x 7 k n (wLw a u b v c w e m oa f (cxT x)) [(0, .ref sb), (1, .ref (a 0)), (2, .ref (e 0)), (3, .ref oa), (4, .int i)] 2552 [] := by
  unfold f_law_c35 at hf
  refine g_aload_n o 1 rfl rfl dL_law_2552 ?_
  refine g_aload_n o 0 rfl rfl dL_law_2553 ?_
  refine g_iload o 4 rfl dL_law_2554 ?_
  refine g_iconst o ic_1 dL_law_2556 ?_
  refine g_iadd o dL_law_2557 ?_
  refine g_sld o hs9 dL_law_2558 hf (fun hf => ?_)
  refine g_aload_n o 0 rfl rfl dL_law_2559 ?_
  refine g_iload o 4 rfl dL_law_2560 ?_
  refine g_iconst o ic_2 dL_law_2562 ?_
  refine g_iadd o dL_law_2563 ?_
  refine g_sld o hs9 dL_law_2564 hf (fun hf => ?_)
  refine g_aload_n o 3 rfl rfl dL_law_2565 ?_
  obtain ⟨r208, hr208, hf⟩ := bd_some hf
  refine k_L_isForced_W o hr208 m_698 (Nat.le_of_ble_eq_true rfl) (Nat.le_of_ble_eq_true rfl) ⟨by omega, by omega⟩ dL_law_2566 ?_
  refine g_istore o [(5, .int r208.1), (0, .ref sb), (1, .ref (a 0)), (2, .ref (e 0)), (3, .ref oa), (4, .int i)] (Nat.le_of_ble_eq_true rfl) rfl dL_law_2569 ?_
  refine g_aload_n o 3 rfl rfl dL_law_2571 ?_
  refine g_aload_n o 1 rfl rfl dL_law_2572 ?_
  refine g_iload o 5 rfl dL_law_2573 ?_
  refine g_iconst o ic_1 dL_law_2575 ?_
  refine g_iadd o dL_law_2576 ?_
  refine g_sld o hs9 dL_law_2577 hf (fun hf => ?_)
  refine g_aload_n o 1 rfl rfl dL_law_2578 ?_
  refine g_iload o 5 rfl dL_law_2579 ?_
  refine g_iconst o ic_2 dL_law_2581 ?_
  refine g_iadd o dL_law_2582 ?_
  refine g_sld o hs9 dL_law_2583 hf (fun hf => ?_)
  obtain ⟨r209, hr209, hf⟩ := bd_some hf
  refine k_X2_isForced_W o hr209 m_1211 (Nat.le_of_ble_eq_true rfl) (Nat.le_of_ble_eq_true rfl) ⟨by omega, by omega⟩ dL_law_2584 ?_
  refine g_istore o [(6, .int r209.1), (5, .int r208.1), (0, .ref sb), (1, .ref (a 0)), (2, .ref (e 0)), (3, .ref oa), (4, .int i)] (Nat.le_of_ble_eq_true rfl) rfl dL_law_2587 ?_
  refine g_aload_n o 4 rfl rfl dL_law_2589 ?_
  obtain ⟨r210, hr210, hf⟩ := bd_some hf
  refine k_X2_thrown_W o hr210 m_984 (Nat.le_of_ble_eq_true rfl) (Nat.le_of_ble_eq_true rfl) ⟨by omega, by omega⟩ dL_law_2590 ?_
  refine g_iload o 1 rfl dL_law_2593 ?_
  refine g_ic_eq (tgt := 2600) o rfl dL_law_2595 hf (fun hc hf => ?_) (fun hc hf => ?_)
  · refine g_iload o 1 rfl dL_law_2600 ?_
    refine g_if_ne (tgt := 2624) o rfl dL_law_2602 hf (fun hc hf => ?_) (fun hc hf => ?_)
    · refine g_goto (tgt := 3660) o rfl dL_law_2624 ?_
      refine g_iinc o [(4, .int (i + 6)), (6, .int r209.1), (5, .int r208.1), (0, .ref sb), (1, .ref (a 0)), (2, .ref (e 0)), (3, .ref oa)] 6 rfl (inc_6 _) (Nat.le_of_ble_eq_true rfl) rfl dL_law_3660 ?_
      refine g_goto (tgt := 23) o rfl dL_law_3663 ?_
      have hp := lf_c hf hw
      exact g_perm [3, 4, 5, 6, 0] rfl (hp _ _ (by omega) (by omega))
    · refine g_aload_n o 5 rfl rfl dL_law_2605 ?_
      refine g_iconst o ic_0 dL_law_2606 ?_
      refine W_old o dL_law_2607 hf (fun hf => ?_)
      refine g_iload o 0 rfl dL_law_2608 ?_
      refine g_if_eq (tgt := 2617) o rfl dL_law_2610 hf (fun hc hf => ?_) (fun hc hf => ?_)
      · refine g_lconst o lc_0 dL_law_2617 ?_
        refine g_lcmp o dL_law_2618 ?_
        refine g_if_eq (tgt := 2624) o rfl dL_law_2619 hf (fun hc hf => ?_) (fun hc hf => ?_)
        · refine g_goto (tgt := 3660) o rfl dL_law_2624 ?_
          refine g_iinc o [(4, .int (i + 6)), (6, .int r209.1), (5, .int r208.1), (0, .ref sb), (1, .ref (a 0)), (2, .ref (e 0)), (3, .ref oa)] 6 rfl (inc_6 _) (Nat.le_of_ble_eq_true rfl) rfl dL_law_3660 ?_
          refine g_goto (tgt := 23) o rfl dL_law_3663 ?_
          have hp := lf_c hf hw
          exact g_perm [3, 4, 5, 6, 0] rfl (hp _ _ (by omega) (by omega))
        · refine g_iconst o ic_0 dL_law_2622 ?_
          exact (hR _ (lf_x hf hw)).elim
      · refine g_lconst o lc_1 dL_law_2613 ?_
        refine g_goto (tgt := 2618) o rfl dL_law_2614 ?_
        refine g_lcmp o dL_law_2618 ?_
        refine g_if_eq (tgt := 2624) o rfl dL_law_2619 hf (fun hc hf => ?_) (fun hc hf => ?_)
        · refine g_goto (tgt := 3660) o rfl dL_law_2624 ?_
          refine g_iinc o [(4, .int (i + 6)), (6, .int r209.1), (5, .int r208.1), (0, .ref sb), (1, .ref (a 0)), (2, .ref (e 0)), (3, .ref oa)] 6 rfl (inc_6 _) (Nat.le_of_ble_eq_true rfl) rfl dL_law_3660 ?_
          refine g_goto (tgt := 23) o rfl dL_law_3663 ?_
          have hp := lf_c hf hw
          exact g_perm [3, 4, 5, 6, 0] rfl (hp _ _ (by omega) (by omega))
        · refine g_iconst o ic_0 dL_law_2622 ?_
          exact (hR _ (lf_x hf hw)).elim
  · refine g_iconst o ic_0 dL_law_2598 ?_
    exact (hR _ (lf_x hf hw)).elim
set_option maxRecDepth 20000 in
set_option maxHeartbeats 4000000 in
theorem b_law_c36 {x : Cx} (o : Ok x cL_law 7 RL 100 601024 7293034) {a b c e : Nat → Nat} {oa sb LL : Nat} {xs : Nat → Int32} (hs9 : SF x sb LL xs) {mm : Nat} (r : (Int32 × St × St × St × St × (Nat → Int64)) ⊕ Int32) (hR : ∀ t, r = .inr t → False) (i : Int32) (u v w m : St) (f : Nat → Int64) (ww : (Int32 × St × St × St × St × (Nat → Int64)) ⊕ ((Int32 × St × St × St × St × (Nat → Int64)) ⊕ Int32)) (hf : f_law_c36 xs LL i u v w m f = some ww) (hw : (∃ s2, ww = .inl s2 ∧ (fun (s : Int32 × St × St × St × St × (Nat → Int64)) => ∀ k n : Nat, k + 10 * mm ≤ 601024 → n + 60 * mm ≤ 7293034 → G x 7 k n (wLw a s.2.1 b s.2.2.1 c s.2.2.2.1 e s.2.2.2.2.1 oa s.2.2.2.2.2 (cxT x)) [(0, .ref sb), (1, .ref (a 0)), (2, .ref (e 0)), (3, .ref oa), (4, .int s.1)] 23 []) s2) ∨ ww = .inr r) {k n : Nat} (hk : k + 10 * (mm + 1) ≤ 601024) (hn : n + 60 * (mm + 1) ≤ 7293034) : G x 7 k n (wLw a u b v c w e m oa f (cxT x)) [(0, .ref sb), (1, .ref (a 0)), (2, .ref (e 0)), (3, .ref oa), (4, .int i)] 2627 [] := by
  unfold f_law_c36 at hf
  refine g_aload_n o 1 rfl rfl dL_law_2627 ?_
  refine g_aload_n o 3 rfl rfl dL_law_2628 ?_
  obtain ⟨r214, hr214, hf⟩ := bd_some hf
  refine k_L_leastSolution_W o hr214 m_712 (Nat.le_of_ble_eq_true rfl) (Nat.le_of_ble_eq_true rfl) ⟨by omega, by omega⟩ dL_law_2629 ?_
  refine g_istore o [(5, .int r214.1), (0, .ref sb), (1, .ref (a 0)), (2, .ref (e 0)), (3, .ref oa), (4, .int i)] (Nat.le_of_ble_eq_true rfl) rfl dL_law_2632 ?_
  refine g_aload_n o 3 rfl rfl dL_law_2634 ?_
  obtain ⟨r215, hr215, hf⟩ := bd_some hf
  refine k_X2_leastSolution_W o hr215 m_1219 (Nat.le_of_ble_eq_true rfl) (Nat.le_of_ble_eq_true rfl) ⟨by omega, by omega⟩ dL_law_2635 ?_
  refine g_istore o [(6, .int r215.1), (5, .int r214.1), (0, .ref sb), (1, .ref (a 0)), (2, .ref (e 0)), (3, .ref oa), (4, .int i)] (Nat.le_of_ble_eq_true rfl) rfl dL_law_2638 ?_
  refine g_aload_n o 4 rfl rfl dL_law_2640 ?_
  obtain ⟨r216, hr216, hf⟩ := bd_some hf
  refine k_X2_thrown_W o hr216 m_984 (Nat.le_of_ble_eq_true rfl) (Nat.le_of_ble_eq_true rfl) ⟨by omega, by omega⟩ dL_law_2641 ?_
  refine g_iload o 1 rfl dL_law_2644 ?_
  refine g_ic_eq (tgt := 2651) o rfl dL_law_2646 hf (fun hc hf => ?_) (fun hc hf => ?_)
  · refine g_iload o 1 rfl dL_law_2651 ?_
    refine g_if_ne (tgt := 2668) o rfl dL_law_2653 hf (fun hc hf => ?_) (fun hc hf => ?_)
    · refine g_goto (tgt := 3660) o rfl dL_law_2668 ?_
      refine g_iinc o [(4, .int (i + 6)), (6, .int r215.1), (5, .int r214.1), (0, .ref sb), (1, .ref (a 0)), (2, .ref (e 0)), (3, .ref oa)] 6 rfl (inc_6 _) (Nat.le_of_ble_eq_true rfl) rfl dL_law_3660 ?_
      refine g_goto (tgt := 23) o rfl dL_law_3663 ?_
      have hp := lf_c hf hw
      exact g_perm [3, 4, 5, 6, 0] rfl (hp _ _ (by omega) (by omega))
    · refine g_aload_n o 5 rfl rfl dL_law_2656 ?_
      refine g_iconst o ic_0 dL_law_2657 ?_
      refine W_old o dL_law_2658 hf (fun hf => ?_)
      refine g_iload o 0 rfl dL_law_2659 ?_
      refine g_i2l o dL_law_2661 ?_
      refine g_lcmp o dL_law_2662 ?_
      refine g_if_eq (tgt := 2668) o rfl dL_law_2663 hf (fun hc hf => ?_) (fun hc hf => ?_)
      · refine g_goto (tgt := 3660) o rfl dL_law_2668 ?_
        refine g_iinc o [(4, .int (i + 6)), (6, .int r215.1), (5, .int r214.1), (0, .ref sb), (1, .ref (a 0)), (2, .ref (e 0)), (3, .ref oa)] 6 rfl (inc_6 _) (Nat.le_of_ble_eq_true rfl) rfl dL_law_3660 ?_
        refine g_goto (tgt := 23) o rfl dL_law_3663 ?_
        have hp := lf_c hf hw
        exact g_perm [3, 4, 5, 6, 0] rfl (hp _ _ (by omega) (by omega))
      · refine g_iconst o ic_0 dL_law_2666 ?_
        exact (hR _ (lf_x hf hw)).elim
  · refine g_iconst o ic_0 dL_law_2649 ?_
    exact (hR _ (lf_x hf hw)).elim
set_option maxRecDepth 20000 in
set_option maxHeartbeats 4000000 in
theorem b_law_c37 {x : Cx} (o : Ok x cL_law 7 RL 100 601024 7293034) {a b c e : Nat → Nat} {oa sb LL : Nat} {xs : Nat → Int32} (hs9 : SF x sb LL xs) {mm : Nat} (r : (Int32 × St × St × St × St × (Nat → Int64)) ⊕ Int32) (hR : ∀ t, r = .inr t → False) (i : Int32) (u v w m : St) (f : Nat → Int64) (ww : (Int32 × St × St × St × St × (Nat → Int64)) ⊕ ((Int32 × St × St × St × St × (Nat → Int64)) ⊕ Int32)) (hf : f_law_c37 xs LL i u v w m f = some ww) (hw : (∃ s2, ww = .inl s2 ∧ (fun (s : Int32 × St × St × St × St × (Nat → Int64)) => ∀ k n : Nat, k + 10 * mm ≤ 601024 → n + 60 * mm ≤ 7293034 → G x 7 k n (wLw a s.2.1 b s.2.2.1 c s.2.2.2.1 e s.2.2.2.2.1 oa s.2.2.2.2.2 (cxT x)) [(0, .ref sb), (1, .ref (a 0)), (2, .ref (e 0)), (3, .ref oa), (4, .int s.1)] 23 []) s2) ∨ ww = .inr r) {k n : Nat} (hk : k + 10 * (mm + 1) ≤ 601024) (hn : n + 60 * (mm + 1) ≤ 7293034) : G x 7 k n (wLw a u b v c w e m oa f (cxT x)) [(0, .ref sb), (1, .ref (a 0)), (2, .ref (e 0)), (3, .ref oa), (4, .int i)] 2671 [] := by
  unfold f_law_c37 at hf
  refine g_aload_n o 1 rfl rfl dL_law_2671 ?_
  refine g_aload_n o 3 rfl rfl dL_law_2672 ?_
  obtain ⟨r220, hr220, hf⟩ := bd_some hf
  refine k_L_greatestSolution_W o hr220 m_749 (Nat.le_of_ble_eq_true rfl) (Nat.le_of_ble_eq_true rfl) ⟨by omega, by omega⟩ dL_law_2673 ?_
  refine g_istore o [(5, .int r220.1), (0, .ref sb), (1, .ref (a 0)), (2, .ref (e 0)), (3, .ref oa), (4, .int i)] (Nat.le_of_ble_eq_true rfl) rfl dL_law_2676 ?_
  refine g_aload_n o 3 rfl rfl dL_law_2678 ?_
  obtain ⟨r221, hr221, hf⟩ := bd_some hf
  refine k_X2_greatestSolution_W o hr221 m_1223 (Nat.le_of_ble_eq_true rfl) (Nat.le_of_ble_eq_true rfl) ⟨by omega, by omega⟩ dL_law_2679 ?_
  refine g_istore o [(6, .int r221.1), (5, .int r220.1), (0, .ref sb), (1, .ref (a 0)), (2, .ref (e 0)), (3, .ref oa), (4, .int i)] (Nat.le_of_ble_eq_true rfl) rfl dL_law_2682 ?_
  refine g_aload_n o 4 rfl rfl dL_law_2684 ?_
  obtain ⟨r222, hr222, hf⟩ := bd_some hf
  refine k_X2_thrown_W o hr222 m_984 (Nat.le_of_ble_eq_true rfl) (Nat.le_of_ble_eq_true rfl) ⟨by omega, by omega⟩ dL_law_2685 ?_
  refine g_iload o 1 rfl dL_law_2688 ?_
  refine g_ic_eq (tgt := 2695) o rfl dL_law_2690 hf (fun hc hf => ?_) (fun hc hf => ?_)
  · refine g_iload o 1 rfl dL_law_2695 ?_
    refine g_if_ne (tgt := 2712) o rfl dL_law_2697 hf (fun hc hf => ?_) (fun hc hf => ?_)
    · refine g_goto (tgt := 3660) o rfl dL_law_2712 ?_
      refine g_iinc o [(4, .int (i + 6)), (6, .int r221.1), (5, .int r220.1), (0, .ref sb), (1, .ref (a 0)), (2, .ref (e 0)), (3, .ref oa)] 6 rfl (inc_6 _) (Nat.le_of_ble_eq_true rfl) rfl dL_law_3660 ?_
      refine g_goto (tgt := 23) o rfl dL_law_3663 ?_
      have hp := lf_c hf hw
      exact g_perm [3, 4, 5, 6, 0] rfl (hp _ _ (by omega) (by omega))
    · refine g_aload_n o 5 rfl rfl dL_law_2700 ?_
      refine g_iconst o ic_0 dL_law_2701 ?_
      refine W_old o dL_law_2702 hf (fun hf => ?_)
      refine g_iload o 0 rfl dL_law_2703 ?_
      refine g_i2l o dL_law_2705 ?_
      refine g_lcmp o dL_law_2706 ?_
      refine g_if_eq (tgt := 2712) o rfl dL_law_2707 hf (fun hc hf => ?_) (fun hc hf => ?_)
      · refine g_goto (tgt := 3660) o rfl dL_law_2712 ?_
        refine g_iinc o [(4, .int (i + 6)), (6, .int r221.1), (5, .int r220.1), (0, .ref sb), (1, .ref (a 0)), (2, .ref (e 0)), (3, .ref oa)] 6 rfl (inc_6 _) (Nat.le_of_ble_eq_true rfl) rfl dL_law_3660 ?_
        refine g_goto (tgt := 23) o rfl dL_law_3663 ?_
        have hp := lf_c hf hw
        exact g_perm [3, 4, 5, 6, 0] rfl (hp _ _ (by omega) (by omega))
      · refine g_iconst o ic_0 dL_law_2710 ?_
        exact (hR _ (lf_x hf hw)).elim
  · refine g_iconst o ic_0 dL_law_2693 ?_
    exact (hR _ (lf_x hf hw)).elim
set_option maxRecDepth 20000 in
set_option maxHeartbeats 4000000 in
theorem b_law_c38 {x : Cx} (o : Ok x cL_law 7 RL 100 601024 7293034) {a b c e : Nat → Nat} {oa sb LL : Nat} {xs : Nat → Int32} (hs9 : SF x sb LL xs) {mm : Nat} (r : (Int32 × St × St × St × St × (Nat → Int64)) ⊕ Int32) (hR : ∀ t, r = .inr t → False) (i : Int32) (u v w m : St) (f : Nat → Int64) (ww : (Int32 × St × St × St × St × (Nat → Int64)) ⊕ ((Int32 × St × St × St × St × (Nat → Int64)) ⊕ Int32)) (hf : f_law_c38 xs LL i u v w m f = some ww) (hw : (∃ s2, ww = .inl s2 ∧ (fun (s : Int32 × St × St × St × St × (Nat → Int64)) => ∀ k n : Nat, k + 10 * mm ≤ 601024 → n + 60 * mm ≤ 7293034 → G x 7 k n (wLw a s.2.1 b s.2.2.1 c s.2.2.2.1 e s.2.2.2.2.1 oa s.2.2.2.2.2 (cxT x)) [(0, .ref sb), (1, .ref (a 0)), (2, .ref (e 0)), (3, .ref oa), (4, .int s.1)] 23 []) s2) ∨ ww = .inr r) {k n : Nat} (hk : k + 10 * (mm + 1) ≤ 601024) (hn : n + 60 * (mm + 1) ≤ 7293034) : G x 7 k n (wLw a u b v c w e m oa f (cxT x)) [(0, .ref sb), (1, .ref (a 0)), (2, .ref (e 0)), (3, .ref oa), (4, .int i)] 2715 [] := by
  unfold f_law_c38 at hf
  refine g_aload_n o 1 rfl rfl dL_law_2715 ?_
  refine g_aload_n o 0 rfl rfl dL_law_2716 ?_
  refine g_iload o 4 rfl dL_law_2717 ?_
  refine g_iconst o ic_1 dL_law_2719 ?_
  refine g_iadd o dL_law_2720 ?_
  refine g_sld o hs9 dL_law_2721 hf (fun hf => ?_)
  refine g_aload_n o 0 rfl rfl dL_law_2722 ?_
  refine g_iload o 4 rfl dL_law_2723 ?_
  refine g_iconst o ic_2 dL_law_2725 ?_
  refine g_iadd o dL_law_2726 ?_
  refine g_sld o hs9 dL_law_2727 hf (fun hf => ?_)
  refine g_aload_n o 0 rfl rfl dL_law_2728 ?_
  refine g_iload o 4 rfl dL_law_2729 ?_
  refine g_iconst o ic_3 dL_law_2731 ?_
  refine g_iadd o dL_law_2732 ?_
  refine g_sld o hs9 dL_law_2733 hf (fun hf => ?_)
  refine g_aload_n o 0 rfl rfl dL_law_2734 ?_
  refine g_iload o 4 rfl dL_law_2735 ?_
  refine g_iconst o ic_4 dL_law_2737 ?_
  refine g_iadd o dL_law_2738 ?_
  refine g_sld o hs9 dL_law_2739 hf (fun hf => ?_)
  refine g_aload_n o 3 rfl rfl dL_law_2740 ?_
  obtain ⟨r226, hr226, hf⟩ := bd_some hf
  refine k_L_implies_W o hr226 m_756 (Nat.le_of_ble_eq_true rfl) (Nat.le_of_ble_eq_true rfl) ⟨by omega, by omega⟩ dL_law_2741 ?_
  refine g_istore o [(5, .int r226.1), (0, .ref sb), (1, .ref (a 0)), (2, .ref (e 0)), (3, .ref oa), (4, .int i)] (Nat.le_of_ble_eq_true rfl) rfl dL_law_2744 ?_
  refine g_aload_n o 3 rfl rfl dL_law_2746 ?_
  refine g_aload_n o 1 rfl rfl dL_law_2747 ?_
  refine g_iload o 5 rfl dL_law_2748 ?_
  refine g_iconst o ic_1 dL_law_2750 ?_
  refine g_iadd o dL_law_2751 ?_
  refine g_sld o hs9 dL_law_2752 hf (fun hf => ?_)
  refine g_aload_n o 1 rfl rfl dL_law_2753 ?_
  refine g_iload o 5 rfl dL_law_2754 ?_
  refine g_iconst o ic_2 dL_law_2756 ?_
  refine g_iadd o dL_law_2757 ?_
  refine g_sld o hs9 dL_law_2758 hf (fun hf => ?_)
  refine g_aload_n o 1 rfl rfl dL_law_2759 ?_
  refine g_iload o 5 rfl dL_law_2760 ?_
  refine g_iconst o ic_3 dL_law_2762 ?_
  refine g_iadd o dL_law_2763 ?_
  refine g_sld o hs9 dL_law_2764 hf (fun hf => ?_)
  refine g_aload_n o 1 rfl rfl dL_law_2765 ?_
  refine g_iload o 5 rfl dL_law_2766 ?_
  refine g_iconst o ic_4 dL_law_2768 ?_
  refine g_iadd o dL_law_2769 ?_
  refine g_sld o hs9 dL_law_2770 hf (fun hf => ?_)
  obtain ⟨r227, hr227, hf⟩ := bd_some hf
  refine k_X2_implies_W o hr227 m_1227 (Nat.le_of_ble_eq_true rfl) (Nat.le_of_ble_eq_true rfl) ⟨by omega, by omega⟩ dL_law_2771 ?_
  refine g_istore o [(6, .int r227.1), (5, .int r226.1), (0, .ref sb), (1, .ref (a 0)), (2, .ref (e 0)), (3, .ref oa), (4, .int i)] (Nat.le_of_ble_eq_true rfl) rfl dL_law_2774 ?_
  refine g_aload_n o 4 rfl rfl dL_law_2776 ?_
  obtain ⟨r228, hr228, hf⟩ := bd_some hf
  refine k_X2_thrown_W o hr228 m_984 (Nat.le_of_ble_eq_true rfl) (Nat.le_of_ble_eq_true rfl) ⟨by omega, by omega⟩ dL_law_2777 ?_
  refine g_iload o 1 rfl dL_law_2780 ?_
  refine g_ic_eq (tgt := 2787) o rfl dL_law_2782 hf (fun hc hf => ?_) (fun hc hf => ?_)
  · refine g_iload o 1 rfl dL_law_2787 ?_
    refine g_if_ne (tgt := 2811) o rfl dL_law_2789 hf (fun hc hf => ?_) (fun hc hf => ?_)
    · refine g_goto (tgt := 3660) o rfl dL_law_2811 ?_
      refine g_iinc o [(4, .int (i + 6)), (6, .int r227.1), (5, .int r226.1), (0, .ref sb), (1, .ref (a 0)), (2, .ref (e 0)), (3, .ref oa)] 6 rfl (inc_6 _) (Nat.le_of_ble_eq_true rfl) rfl dL_law_3660 ?_
      refine g_goto (tgt := 23) o rfl dL_law_3663 ?_
      have hp := lf_c hf hw
      exact g_perm [3, 4, 5, 6, 0] rfl (hp _ _ (by omega) (by omega))
    · refine g_aload_n o 5 rfl rfl dL_law_2792 ?_
      refine g_iconst o ic_0 dL_law_2793 ?_
      refine W_old o dL_law_2794 hf (fun hf => ?_)
      refine g_iload o 0 rfl dL_law_2795 ?_
      refine g_if_eq (tgt := 2804) o rfl dL_law_2797 hf (fun hc hf => ?_) (fun hc hf => ?_)
      · refine g_lconst o lc_0 dL_law_2804 ?_
        refine g_lcmp o dL_law_2805 ?_
        refine g_if_eq (tgt := 2811) o rfl dL_law_2806 hf (fun hc hf => ?_) (fun hc hf => ?_)
        · refine g_goto (tgt := 3660) o rfl dL_law_2811 ?_
          refine g_iinc o [(4, .int (i + 6)), (6, .int r227.1), (5, .int r226.1), (0, .ref sb), (1, .ref (a 0)), (2, .ref (e 0)), (3, .ref oa)] 6 rfl (inc_6 _) (Nat.le_of_ble_eq_true rfl) rfl dL_law_3660 ?_
          refine g_goto (tgt := 23) o rfl dL_law_3663 ?_
          have hp := lf_c hf hw
          exact g_perm [3, 4, 5, 6, 0] rfl (hp _ _ (by omega) (by omega))
        · refine g_iconst o ic_0 dL_law_2809 ?_
          exact (hR _ (lf_x hf hw)).elim
      · refine g_lconst o lc_1 dL_law_2800 ?_
        refine g_goto (tgt := 2805) o rfl dL_law_2801 ?_
        refine g_lcmp o dL_law_2805 ?_
        refine g_if_eq (tgt := 2811) o rfl dL_law_2806 hf (fun hc hf => ?_) (fun hc hf => ?_)
        · refine g_goto (tgt := 3660) o rfl dL_law_2811 ?_
          refine g_iinc o [(4, .int (i + 6)), (6, .int r227.1), (5, .int r226.1), (0, .ref sb), (1, .ref (a 0)), (2, .ref (e 0)), (3, .ref oa)] 6 rfl (inc_6 _) (Nat.le_of_ble_eq_true rfl) rfl dL_law_3660 ?_
          refine g_goto (tgt := 23) o rfl dL_law_3663 ?_
          have hp := lf_c hf hw
          exact g_perm [3, 4, 5, 6, 0] rfl (hp _ _ (by omega) (by omega))
        · refine g_iconst o ic_0 dL_law_2809 ?_
          exact (hR _ (lf_x hf hw)).elim
  · refine g_iconst o ic_0 dL_law_2785 ?_
    exact (hR _ (lf_x hf hw)).elim
set_option maxRecDepth 20000 in
set_option maxHeartbeats 4000000 in
theorem b_law_c39 {x : Cx} (o : Ok x cL_law 7 RL 100 601024 7293034) {a b c e : Nat → Nat} {oa sb LL : Nat} {xs : Nat → Int32} (hs9 : SF x sb LL xs) {mm : Nat} (r : (Int32 × St × St × St × St × (Nat → Int64)) ⊕ Int32) (hR : ∀ t, r = .inr t → False) (i : Int32) (u v w m : St) (f : Nat → Int64) (ww : (Int32 × St × St × St × St × (Nat → Int64)) ⊕ ((Int32 × St × St × St × St × (Nat → Int64)) ⊕ Int32)) (hf : f_law_c39 xs LL i u v w m f = some ww) (hw : (∃ s2, ww = .inl s2 ∧ (fun (s : Int32 × St × St × St × St × (Nat → Int64)) => ∀ k n : Nat, k + 10 * mm ≤ 601024 → n + 60 * mm ≤ 7293034 → G x 7 k n (wLw a s.2.1 b s.2.2.1 c s.2.2.2.1 e s.2.2.2.2.1 oa s.2.2.2.2.2 (cxT x)) [(0, .ref sb), (1, .ref (a 0)), (2, .ref (e 0)), (3, .ref oa), (4, .int s.1)] 23 []) s2) ∨ ww = .inr r) {k n : Nat} (hk : k + 10 * (mm + 1) ≤ 601024) (hn : n + 60 * (mm + 1) ≤ 7293034) : G x 7 k n (wLw a u b v c w e m oa f (cxT x)) [(0, .ref sb), (1, .ref (a 0)), (2, .ref (e 0)), (3, .ref oa), (4, .int i)] 2814 [] := by
  unfold f_law_c39 at hf
  refine g_aload_n o 1 rfl rfl dL_law_2814 ?_
  refine g_aload_n o 3 rfl rfl dL_law_2815 ?_
  obtain ⟨r232, hr232, hf⟩ := bd_some hf
  refine k_L_dimension_W o hr232 m_767 (Nat.le_of_ble_eq_true rfl) (Nat.le_of_ble_eq_true rfl) ⟨by omega, by omega⟩ dL_law_2816 ?_
  refine g_istore o [(5, .int r232.1), (0, .ref sb), (1, .ref (a 0)), (2, .ref (e 0)), (3, .ref oa), (4, .int i)] (Nat.le_of_ble_eq_true rfl) rfl dL_law_2819 ?_
  refine g_aload_n o 3 rfl rfl dL_law_2821 ?_
  obtain ⟨r233, hr233, hf⟩ := bd_some hf
  refine k_X2_dimension_W o hr233 m_1231 (Nat.le_of_ble_eq_true rfl) (Nat.le_of_ble_eq_true rfl) ⟨by omega, by omega⟩ dL_law_2822 ?_
  refine g_istore o [(6, .int r233.1), (5, .int r232.1), (0, .ref sb), (1, .ref (a 0)), (2, .ref (e 0)), (3, .ref oa), (4, .int i)] (Nat.le_of_ble_eq_true rfl) rfl dL_law_2825 ?_
  refine g_aload_n o 4 rfl rfl dL_law_2827 ?_
  obtain ⟨r234, hr234, hf⟩ := bd_some hf
  refine k_X2_thrown_W o hr234 m_984 (Nat.le_of_ble_eq_true rfl) (Nat.le_of_ble_eq_true rfl) ⟨by omega, by omega⟩ dL_law_2828 ?_
  refine g_iload o 1 rfl dL_law_2831 ?_
  refine g_ic_eq (tgt := 2838) o rfl dL_law_2833 hf (fun hc hf => ?_) (fun hc hf => ?_)
  · refine g_iload o 1 rfl dL_law_2838 ?_
    refine g_if_ne (tgt := 2855) o rfl dL_law_2840 hf (fun hc hf => ?_) (fun hc hf => ?_)
    · refine g_goto (tgt := 3660) o rfl dL_law_2855 ?_
      refine g_iinc o [(4, .int (i + 6)), (6, .int r233.1), (5, .int r232.1), (0, .ref sb), (1, .ref (a 0)), (2, .ref (e 0)), (3, .ref oa)] 6 rfl (inc_6 _) (Nat.le_of_ble_eq_true rfl) rfl dL_law_3660 ?_
      refine g_goto (tgt := 23) o rfl dL_law_3663 ?_
      have hp := lf_c hf hw
      exact g_perm [3, 4, 5, 6, 0] rfl (hp _ _ (by omega) (by omega))
    · refine g_aload_n o 5 rfl rfl dL_law_2843 ?_
      refine g_iconst o ic_0 dL_law_2844 ?_
      refine W_old o dL_law_2845 hf (fun hf => ?_)
      refine g_iload o 0 rfl dL_law_2846 ?_
      refine g_i2l o dL_law_2848 ?_
      refine g_lcmp o dL_law_2849 ?_
      refine g_if_eq (tgt := 2855) o rfl dL_law_2850 hf (fun hc hf => ?_) (fun hc hf => ?_)
      · refine g_goto (tgt := 3660) o rfl dL_law_2855 ?_
        refine g_iinc o [(4, .int (i + 6)), (6, .int r233.1), (5, .int r232.1), (0, .ref sb), (1, .ref (a 0)), (2, .ref (e 0)), (3, .ref oa)] 6 rfl (inc_6 _) (Nat.le_of_ble_eq_true rfl) rfl dL_law_3660 ?_
        refine g_goto (tgt := 23) o rfl dL_law_3663 ?_
        have hp := lf_c hf hw
        exact g_perm [3, 4, 5, 6, 0] rfl (hp _ _ (by omega) (by omega))
      · refine g_iconst o ic_0 dL_law_2853 ?_
        exact (hR _ (lf_x hf hw)).elim
  · refine g_iconst o ic_0 dL_law_2836 ?_
    exact (hR _ (lf_x hf hw)).elim
set_option maxRecDepth 20000 in
set_option maxHeartbeats 4000000 in
theorem b_law_c40 {x : Cx} (o : Ok x cL_law 7 RL 100 601024 7293034) {a b c e : Nat → Nat} {oa sb LL : Nat} {xs : Nat → Int32} (hs9 : SF x sb LL xs) {mm : Nat} (r : (Int32 × St × St × St × St × (Nat → Int64)) ⊕ Int32) (hR : ∀ t, r = .inr t → False) (i : Int32) (u v w m : St) (f : Nat → Int64) (ww : (Int32 × St × St × St × St × (Nat → Int64)) ⊕ ((Int32 × St × St × St × St × (Nat → Int64)) ⊕ Int32)) (hf : f_law_c40 xs LL i u v w m f = some ww) (hw : (∃ s2, ww = .inl s2 ∧ (fun (s : Int32 × St × St × St × St × (Nat → Int64)) => ∀ k n : Nat, k + 10 * mm ≤ 601024 → n + 60 * mm ≤ 7293034 → G x 7 k n (wLw a s.2.1 b s.2.2.1 c s.2.2.2.1 e s.2.2.2.2.1 oa s.2.2.2.2.2 (cxT x)) [(0, .ref sb), (1, .ref (a 0)), (2, .ref (e 0)), (3, .ref oa), (4, .int s.1)] 23 []) s2) ∨ ww = .inr r) {k n : Nat} (hk : k + 10 * (mm + 1) ≤ 601024) (hn : n + 60 * (mm + 1) ≤ 7293034) : G x 7 k n (wLw a u b v c w e m oa f (cxT x)) [(0, .ref sb), (1, .ref (a 0)), (2, .ref (e 0)), (3, .ref oa), (4, .int i)] 2858 [] := by
  unfold f_law_c40 at hf
  refine g_aload_n o 1 rfl rfl dL_law_2858 ?_
  refine g_aload_n o 0 rfl rfl dL_law_2859 ?_
  refine g_iload o 4 rfl dL_law_2860 ?_
  refine g_iconst o ic_1 dL_law_2862 ?_
  refine g_iadd o dL_law_2863 ?_
  refine g_sld o hs9 dL_law_2864 hf (fun hf => ?_)
  refine g_aload_n o 0 rfl rfl dL_law_2865 ?_
  refine g_iload o 4 rfl dL_law_2866 ?_
  refine g_iconst o ic_2 dL_law_2868 ?_
  refine g_iadd o dL_law_2869 ?_
  refine g_sld o hs9 dL_law_2870 hf (fun hf => ?_)
  refine g_aload_n o 0 rfl rfl dL_law_2871 ?_
  refine g_iload o 4 rfl dL_law_2872 ?_
  refine g_iconst o ic_3 dL_law_2874 ?_
  refine g_iadd o dL_law_2875 ?_
  refine g_sld o hs9 dL_law_2876 hf (fun hf => ?_)
  refine g_aload_n o 0 rfl rfl dL_law_2877 ?_
  refine g_iload o 4 rfl dL_law_2878 ?_
  refine g_iconst o ic_4 dL_law_2880 ?_
  refine g_iadd o dL_law_2881 ?_
  refine g_sld o hs9 dL_law_2882 hf (fun hf => ?_)
  refine g_aload_n o 0 rfl rfl dL_law_2883 ?_
  refine g_iload o 4 rfl dL_law_2884 ?_
  refine g_iconst o ic_5 dL_law_2886 ?_
  refine g_iadd o dL_law_2887 ?_
  refine g_sld o hs9 dL_law_2888 hf (fun hf => ?_)
  refine g_aload_n o 3 rfl rfl dL_law_2889 ?_
  obtain ⟨r238, hr238, hf⟩ := bd_some hf
  refine k_L_define_W o hr238 m_774 (Nat.le_of_ble_eq_true rfl) (Nat.le_of_ble_eq_true rfl) ⟨by omega, by omega⟩ dL_law_2890 ?_
  refine g_istore o [(5, .int r238.1), (0, .ref sb), (1, .ref (a 0)), (2, .ref (e 0)), (3, .ref oa), (4, .int i)] (Nat.le_of_ble_eq_true rfl) rfl dL_law_2893 ?_
  refine g_aload_n o 3 rfl rfl dL_law_2895 ?_
  refine g_aload_n o 1 rfl rfl dL_law_2896 ?_
  refine g_iload o 5 rfl dL_law_2897 ?_
  refine g_iconst o ic_1 dL_law_2899 ?_
  refine g_iadd o dL_law_2900 ?_
  refine g_sld o hs9 dL_law_2901 hf (fun hf => ?_)
  refine g_aload_n o 1 rfl rfl dL_law_2902 ?_
  refine g_iload o 5 rfl dL_law_2903 ?_
  refine g_iconst o ic_2 dL_law_2905 ?_
  refine g_iadd o dL_law_2906 ?_
  refine g_sld o hs9 dL_law_2907 hf (fun hf => ?_)
  refine g_aload_n o 1 rfl rfl dL_law_2908 ?_
  refine g_iload o 5 rfl dL_law_2909 ?_
  refine g_iconst o ic_3 dL_law_2911 ?_
  refine g_iadd o dL_law_2912 ?_
  refine g_sld o hs9 dL_law_2913 hf (fun hf => ?_)
  refine g_aload_n o 1 rfl rfl dL_law_2914 ?_
  refine g_iload o 5 rfl dL_law_2915 ?_
  refine g_iconst o ic_4 dL_law_2917 ?_
  refine g_iadd o dL_law_2918 ?_
  refine g_sld o hs9 dL_law_2919 hf (fun hf => ?_)
  refine g_aload_n o 1 rfl rfl dL_law_2920 ?_
  refine g_iload o 5 rfl dL_law_2921 ?_
  refine g_iconst o ic_5 dL_law_2923 ?_
  refine g_iadd o dL_law_2924 ?_
  refine g_sld o hs9 dL_law_2925 hf (fun hf => ?_)
  obtain ⟨r239, hr239, hf⟩ := bd_some hf
  refine k_X2_define_W o hr239 m_1235 (Nat.le_of_ble_eq_true rfl) (Nat.le_of_ble_eq_true rfl) ⟨by omega, by omega⟩ dL_law_2926 ?_
  refine g_istore o [(6, .int r239.1), (5, .int r238.1), (0, .ref sb), (1, .ref (a 0)), (2, .ref (e 0)), (3, .ref oa), (4, .int i)] (Nat.le_of_ble_eq_true rfl) rfl dL_law_2929 ?_
  refine g_aload_n o 4 rfl rfl dL_law_2931 ?_
  obtain ⟨r240, hr240, hf⟩ := bd_some hf
  refine k_X2_thrown_W o hr240 m_984 (Nat.le_of_ble_eq_true rfl) (Nat.le_of_ble_eq_true rfl) ⟨by omega, by omega⟩ dL_law_2932 ?_
  refine g_iload o 1 rfl dL_law_2935 ?_
  refine g_ic_eq (tgt := 2942) o rfl dL_law_2937 hf (fun hc hf => ?_) (fun hc hf => ?_)
  · refine g_iload o 1 rfl dL_law_2942 ?_
    refine g_if_ne (tgt := 2959) o rfl dL_law_2944 hf (fun hc hf => ?_) (fun hc hf => ?_)
    · refine g_goto (tgt := 3660) o rfl dL_law_2959 ?_
      refine g_iinc o [(4, .int (i + 6)), (6, .int r239.1), (5, .int r238.1), (0, .ref sb), (1, .ref (a 0)), (2, .ref (e 0)), (3, .ref oa)] 6 rfl (inc_6 _) (Nat.le_of_ble_eq_true rfl) rfl dL_law_3660 ?_
      refine g_goto (tgt := 23) o rfl dL_law_3663 ?_
      have hp := lf_c hf hw
      exact g_perm [3, 4, 5, 6, 0] rfl (hp _ _ (by omega) (by omega))
    · refine g_aload_n o 5 rfl rfl dL_law_2947 ?_
      refine g_iconst o ic_0 dL_law_2948 ?_
      refine W_old o dL_law_2949 hf (fun hf => ?_)
      refine g_iload o 0 rfl dL_law_2950 ?_
      refine g_i2l o dL_law_2952 ?_
      refine g_lcmp o dL_law_2953 ?_
      refine g_if_eq (tgt := 2959) o rfl dL_law_2954 hf (fun hc hf => ?_) (fun hc hf => ?_)
      · refine g_goto (tgt := 3660) o rfl dL_law_2959 ?_
        refine g_iinc o [(4, .int (i + 6)), (6, .int r239.1), (5, .int r238.1), (0, .ref sb), (1, .ref (a 0)), (2, .ref (e 0)), (3, .ref oa)] 6 rfl (inc_6 _) (Nat.le_of_ble_eq_true rfl) rfl dL_law_3660 ?_
        refine g_goto (tgt := 23) o rfl dL_law_3663 ?_
        have hp := lf_c hf hw
        exact g_perm [3, 4, 5, 6, 0] rfl (hp _ _ (by omega) (by omega))
      · refine g_iconst o ic_0 dL_law_2957 ?_
        exact (hR _ (lf_x hf hw)).elim
  · refine g_iconst o ic_0 dL_law_2940 ?_
    exact (hR _ (lf_x hf hw)).elim
set_option maxRecDepth 20000 in
set_option maxHeartbeats 4000000 in
theorem b_law_c41 {x : Cx} (o : Ok x cL_law 7 RL 100 601024 7293034) {a b c e : Nat → Nat} {oa sb LL : Nat} {xs : Nat → Int32} (hs9 : SF x sb LL xs) {mm : Nat} (r : (Int32 × St × St × St × St × (Nat → Int64)) ⊕ Int32) (hR : ∀ t, r = .inr t → False) (i : Int32) (u v w m : St) (f : Nat → Int64) (ww : (Int32 × St × St × St × St × (Nat → Int64)) ⊕ ((Int32 × St × St × St × St × (Nat → Int64)) ⊕ Int32)) (hf : f_law_c41 xs LL i u v w m f = some ww) (hw : (∃ s2, ww = .inl s2 ∧ (fun (s : Int32 × St × St × St × St × (Nat → Int64)) => ∀ k n : Nat, k + 10 * mm ≤ 601024 → n + 60 * mm ≤ 7293034 → G x 7 k n (wLw a s.2.1 b s.2.2.1 c s.2.2.2.1 e s.2.2.2.2.1 oa s.2.2.2.2.2 (cxT x)) [(0, .ref sb), (1, .ref (a 0)), (2, .ref (e 0)), (3, .ref oa), (4, .int s.1)] 23 []) s2) ∨ ww = .inr r) {k n : Nat} (hk : k + 10 * (mm + 1) ≤ 601024) (hn : n + 60 * (mm + 1) ≤ 7293034) : G x 7 k n (wLw a u b v c w e m oa f (cxT x)) [(0, .ref sb), (1, .ref (a 0)), (2, .ref (e 0)), (3, .ref oa), (4, .int i)] 2962 [] := by
  unfold f_law_c41 at hf
  refine g_aload_n o 1 rfl rfl dL_law_2962 ?_
  refine g_aload_n o 0 rfl rfl dL_law_2963 ?_
  refine g_iload o 4 rfl dL_law_2964 ?_
  refine g_iconst o ic_1 dL_law_2966 ?_
  refine g_iadd o dL_law_2967 ?_
  refine g_sld o hs9 dL_law_2968 hf (fun hf => ?_)
  refine g_aload_n o 3 rfl rfl dL_law_2969 ?_
  obtain ⟨r244, hr244, hf⟩ := bd_some hf
  refine k_L_firstViolated_W o hr244 m_786 (Nat.le_of_ble_eq_true rfl) (Nat.le_of_ble_eq_true rfl) ⟨by omega, by omega⟩ dL_law_2970 ?_
  refine g_istore o [(5, .int r244.1), (0, .ref sb), (1, .ref (a 0)), (2, .ref (e 0)), (3, .ref oa), (4, .int i)] (Nat.le_of_ble_eq_true rfl) rfl dL_law_2973 ?_
  refine g_aload_n o 3 rfl rfl dL_law_2975 ?_
  refine g_aload_n o 1 rfl rfl dL_law_2976 ?_
  refine g_iload o 5 rfl dL_law_2977 ?_
  refine g_iconst o ic_1 dL_law_2979 ?_
  refine g_iadd o dL_law_2980 ?_
  refine g_sld o hs9 dL_law_2981 hf (fun hf => ?_)
  obtain ⟨r245, hr245, hf⟩ := bd_some hf
  refine k_X2_firstViolated_W o hr245 m_1239 (Nat.le_of_ble_eq_true rfl) (Nat.le_of_ble_eq_true rfl) ⟨by omega, by omega⟩ dL_law_2982 ?_
  refine g_istore o [(6, .int r245.1), (5, .int r244.1), (0, .ref sb), (1, .ref (a 0)), (2, .ref (e 0)), (3, .ref oa), (4, .int i)] (Nat.le_of_ble_eq_true rfl) rfl dL_law_2985 ?_
  refine g_aload_n o 4 rfl rfl dL_law_2987 ?_
  obtain ⟨r246, hr246, hf⟩ := bd_some hf
  refine k_X2_thrown_W o hr246 m_984 (Nat.le_of_ble_eq_true rfl) (Nat.le_of_ble_eq_true rfl) ⟨by omega, by omega⟩ dL_law_2988 ?_
  refine g_iload o 1 rfl dL_law_2991 ?_
  refine g_ic_eq (tgt := 2998) o rfl dL_law_2993 hf (fun hc hf => ?_) (fun hc hf => ?_)
  · refine g_iload o 1 rfl dL_law_2998 ?_
    refine g_if_ne (tgt := 3015) o rfl dL_law_3000 hf (fun hc hf => ?_) (fun hc hf => ?_)
    · refine g_goto (tgt := 3660) o rfl dL_law_3015 ?_
      refine g_iinc o [(4, .int (i + 6)), (6, .int r245.1), (5, .int r244.1), (0, .ref sb), (1, .ref (a 0)), (2, .ref (e 0)), (3, .ref oa)] 6 rfl (inc_6 _) (Nat.le_of_ble_eq_true rfl) rfl dL_law_3660 ?_
      refine g_goto (tgt := 23) o rfl dL_law_3663 ?_
      have hp := lf_c hf hw
      exact g_perm [3, 4, 5, 6, 0] rfl (hp _ _ (by omega) (by omega))
    · refine g_aload_n o 5 rfl rfl dL_law_3003 ?_
      refine g_iconst o ic_0 dL_law_3004 ?_
      refine W_old o dL_law_3005 hf (fun hf => ?_)
      refine g_iload o 0 rfl dL_law_3006 ?_
      refine g_i2l o dL_law_3008 ?_
      refine g_lcmp o dL_law_3009 ?_
      refine g_if_eq (tgt := 3015) o rfl dL_law_3010 hf (fun hc hf => ?_) (fun hc hf => ?_)
      · refine g_goto (tgt := 3660) o rfl dL_law_3015 ?_
        refine g_iinc o [(4, .int (i + 6)), (6, .int r245.1), (5, .int r244.1), (0, .ref sb), (1, .ref (a 0)), (2, .ref (e 0)), (3, .ref oa)] 6 rfl (inc_6 _) (Nat.le_of_ble_eq_true rfl) rfl dL_law_3660 ?_
        refine g_goto (tgt := 23) o rfl dL_law_3663 ?_
        have hp := lf_c hf hw
        exact g_perm [3, 4, 5, 6, 0] rfl (hp _ _ (by omega) (by omega))
      · refine g_iconst o ic_0 dL_law_3013 ?_
        exact (hR _ (lf_x hf hw)).elim
  · refine g_iconst o ic_0 dL_law_2996 ?_
    exact (hR _ (lf_x hf hw)).elim
set_option maxRecDepth 20000 in
set_option maxHeartbeats 4000000 in
theorem b_law_c42 {x : Cx} (o : Ok x cL_law 7 RL 100 601024 7293034) {a b c e : Nat → Nat} {oa sb LL : Nat} {xs : Nat → Int32} (hs9 : SF x sb LL xs) {mm : Nat} (r : (Int32 × St × St × St × St × (Nat → Int64)) ⊕ Int32) (hR : ∀ t, r = .inr t → False) (i : Int32) (u v w m : St) (f : Nat → Int64) (ww : (Int32 × St × St × St × St × (Nat → Int64)) ⊕ ((Int32 × St × St × St × St × (Nat → Int64)) ⊕ Int32)) (hf : f_law_c42 xs LL i u v w m f = some ww) (hw : (∃ s2, ww = .inl s2 ∧ (fun (s : Int32 × St × St × St × St × (Nat → Int64)) => ∀ k n : Nat, k + 10 * mm ≤ 601024 → n + 60 * mm ≤ 7293034 → G x 7 k n (wLw a s.2.1 b s.2.2.1 c s.2.2.2.1 e s.2.2.2.2.1 oa s.2.2.2.2.2 (cxT x)) [(0, .ref sb), (1, .ref (a 0)), (2, .ref (e 0)), (3, .ref oa), (4, .int s.1)] 23 []) s2) ∨ ww = .inr r) {k n : Nat} (hk : k + 10 * (mm + 1) ≤ 601024) (hn : n + 60 * (mm + 1) ≤ 7293034) : G x 7 k n (wLw a u b v c w e m oa f (cxT x)) [(0, .ref sb), (1, .ref (a 0)), (2, .ref (e 0)), (3, .ref oa), (4, .int i)] 3018 [] := by
  unfold f_law_c42 at hf
  refine g_aload_n o 1 rfl rfl dL_law_3018 ?_
  refine g_aload_n o 0 rfl rfl dL_law_3019 ?_
  refine g_iload o 4 rfl dL_law_3020 ?_
  refine g_iconst o ic_1 dL_law_3022 ?_
  refine g_iadd o dL_law_3023 ?_
  refine g_sld o hs9 dL_law_3024 hf (fun hf => ?_)
  refine g_aload_n o 3 rfl rfl dL_law_3025 ?_
  obtain ⟨r250, hr250, hf⟩ := bd_some hf
  refine k_L_isRedundant_W o hr250 m_799 (Nat.le_of_ble_eq_true rfl) (Nat.le_of_ble_eq_true rfl) ⟨by omega, by omega⟩ dL_law_3026 ?_
  refine g_istore o [(5, .int r250.1), (0, .ref sb), (1, .ref (a 0)), (2, .ref (e 0)), (3, .ref oa), (4, .int i)] (Nat.le_of_ble_eq_true rfl) rfl dL_law_3029 ?_
  refine g_aload_n o 3 rfl rfl dL_law_3031 ?_
  refine g_aload_n o 1 rfl rfl dL_law_3032 ?_
  refine g_iload o 5 rfl dL_law_3033 ?_
  refine g_iconst o ic_1 dL_law_3035 ?_
  refine g_iadd o dL_law_3036 ?_
  refine g_sld o hs9 dL_law_3037 hf (fun hf => ?_)
  obtain ⟨r251, hr251, hf⟩ := bd_some hf
  refine k_X2_isRedundant_W o hr251 m_1243 (Nat.le_of_ble_eq_true rfl) (Nat.le_of_ble_eq_true rfl) ⟨by omega, by omega⟩ dL_law_3038 ?_
  refine g_istore o [(6, .int r251.1), (5, .int r250.1), (0, .ref sb), (1, .ref (a 0)), (2, .ref (e 0)), (3, .ref oa), (4, .int i)] (Nat.le_of_ble_eq_true rfl) rfl dL_law_3041 ?_
  refine g_aload_n o 4 rfl rfl dL_law_3043 ?_
  obtain ⟨r252, hr252, hf⟩ := bd_some hf
  refine k_X2_thrown_W o hr252 m_984 (Nat.le_of_ble_eq_true rfl) (Nat.le_of_ble_eq_true rfl) ⟨by omega, by omega⟩ dL_law_3044 ?_
  refine g_iload o 1 rfl dL_law_3047 ?_
  refine g_ic_eq (tgt := 3054) o rfl dL_law_3049 hf (fun hc hf => ?_) (fun hc hf => ?_)
  · refine g_iload o 1 rfl dL_law_3054 ?_
    refine g_if_ne (tgt := 3078) o rfl dL_law_3056 hf (fun hc hf => ?_) (fun hc hf => ?_)
    · refine g_goto (tgt := 3660) o rfl dL_law_3078 ?_
      refine g_iinc o [(4, .int (i + 6)), (6, .int r251.1), (5, .int r250.1), (0, .ref sb), (1, .ref (a 0)), (2, .ref (e 0)), (3, .ref oa)] 6 rfl (inc_6 _) (Nat.le_of_ble_eq_true rfl) rfl dL_law_3660 ?_
      refine g_goto (tgt := 23) o rfl dL_law_3663 ?_
      have hp := lf_c hf hw
      exact g_perm [3, 4, 5, 6, 0] rfl (hp _ _ (by omega) (by omega))
    · refine g_aload_n o 5 rfl rfl dL_law_3059 ?_
      refine g_iconst o ic_0 dL_law_3060 ?_
      refine W_old o dL_law_3061 hf (fun hf => ?_)
      refine g_iload o 0 rfl dL_law_3062 ?_
      refine g_if_eq (tgt := 3071) o rfl dL_law_3064 hf (fun hc hf => ?_) (fun hc hf => ?_)
      · refine g_lconst o lc_0 dL_law_3071 ?_
        refine g_lcmp o dL_law_3072 ?_
        refine g_if_eq (tgt := 3078) o rfl dL_law_3073 hf (fun hc hf => ?_) (fun hc hf => ?_)
        · refine g_goto (tgt := 3660) o rfl dL_law_3078 ?_
          refine g_iinc o [(4, .int (i + 6)), (6, .int r251.1), (5, .int r250.1), (0, .ref sb), (1, .ref (a 0)), (2, .ref (e 0)), (3, .ref oa)] 6 rfl (inc_6 _) (Nat.le_of_ble_eq_true rfl) rfl dL_law_3660 ?_
          refine g_goto (tgt := 23) o rfl dL_law_3663 ?_
          have hp := lf_c hf hw
          exact g_perm [3, 4, 5, 6, 0] rfl (hp _ _ (by omega) (by omega))
        · refine g_iconst o ic_0 dL_law_3076 ?_
          exact (hR _ (lf_x hf hw)).elim
      · refine g_lconst o lc_1 dL_law_3067 ?_
        refine g_goto (tgt := 3072) o rfl dL_law_3068 ?_
        refine g_lcmp o dL_law_3072 ?_
        refine g_if_eq (tgt := 3078) o rfl dL_law_3073 hf (fun hc hf => ?_) (fun hc hf => ?_)
        · refine g_goto (tgt := 3660) o rfl dL_law_3078 ?_
          refine g_iinc o [(4, .int (i + 6)), (6, .int r251.1), (5, .int r250.1), (0, .ref sb), (1, .ref (a 0)), (2, .ref (e 0)), (3, .ref oa)] 6 rfl (inc_6 _) (Nat.le_of_ble_eq_true rfl) rfl dL_law_3660 ?_
          refine g_goto (tgt := 23) o rfl dL_law_3663 ?_
          have hp := lf_c hf hw
          exact g_perm [3, 4, 5, 6, 0] rfl (hp _ _ (by omega) (by omega))
        · refine g_iconst o ic_0 dL_law_3076 ?_
          exact (hR _ (lf_x hf hw)).elim
  · refine g_iconst o ic_0 dL_law_3052 ?_
    exact (hR _ (lf_x hf hw)).elim
set_option maxRecDepth 20000 in
set_option maxHeartbeats 4000000 in
theorem b_law_c43 {x : Cx} (o : Ok x cL_law 7 RL 100 601024 7293034) {a b c e : Nat → Nat} {oa sb LL : Nat} {xs : Nat → Int32} (hs9 : SF x sb LL xs) {mm : Nat} (r : (Int32 × St × St × St × St × (Nat → Int64)) ⊕ Int32) (hR : ∀ t, r = .inr t → False) (i : Int32) (u v w m : St) (f : Nat → Int64) (ww : (Int32 × St × St × St × St × (Nat → Int64)) ⊕ ((Int32 × St × St × St × St × (Nat → Int64)) ⊕ Int32)) (hf : f_law_c43 xs LL i u v w m f = some ww) (hw : (∃ s2, ww = .inl s2 ∧ (fun (s : Int32 × St × St × St × St × (Nat → Int64)) => ∀ k n : Nat, k + 10 * mm ≤ 601024 → n + 60 * mm ≤ 7293034 → G x 7 k n (wLw a s.2.1 b s.2.2.1 c s.2.2.2.1 e s.2.2.2.2.1 oa s.2.2.2.2.2 (cxT x)) [(0, .ref sb), (1, .ref (a 0)), (2, .ref (e 0)), (3, .ref oa), (4, .int s.1)] 23 []) s2) ∨ ww = .inr r) {k n : Nat} (hk : k + 10 * (mm + 1) ≤ 601024) (hn : n + 60 * (mm + 1) ≤ 7293034) : G x 7 k n (wLw a u b v c w e m oa f (cxT x)) [(0, .ref sb), (1, .ref (a 0)), (2, .ref (e 0)), (3, .ref oa), (4, .int i)] 3081 [] := by
  unfold f_law_c43 at hf
  refine g_aload_n o 1 rfl rfl dL_law_3081 ?_
  obtain ⟨r255, hr255, hf⟩ := bd_some hf
  refine k_X1_removeRedundant_W o hr255 m_200 (Nat.le_of_ble_eq_true rfl) (Nat.le_of_ble_eq_true rfl) ⟨by omega, by omega⟩ dL_law_3082 ?_
  refine g_aload_n o 2 rfl rfl dL_law_3085 ?_
  obtain ⟨r256, hr256, hf⟩ := bd_some hf
  refine k_X2_removeRedundant_W o hr256 m_1251 (Nat.le_of_ble_eq_true rfl) (Nat.le_of_ble_eq_true rfl) ⟨by omega, by omega⟩ dL_law_3086 ?_
  refine g_ic_eq (tgt := 3660) o rfl dL_law_3089 hf (fun hc hf => ?_) (fun hc hf => ?_)
  · refine g_iinc o [(4, .int (i + 6)), (0, .ref sb), (1, .ref (a 0)), (2, .ref (e 0)), (3, .ref oa)] 4 rfl (inc_6 _) (Nat.le_of_ble_eq_true rfl) rfl dL_law_3660 ?_
    refine g_goto (tgt := 23) o rfl dL_law_3663 ?_
    have hp := lf_c hf hw
    exact g_perm [1, 2, 3, 4, 0] rfl (hp _ _ (by omega) (by omega))
  · refine g_iconst o ic_0 dL_law_3092 ?_
    exact (hR _ (lf_x hf hw)).elim
set_option maxRecDepth 20000 in
set_option maxHeartbeats 4000000 in
theorem b_law_c44 {x : Cx} (o : Ok x cL_law 7 RL 100 601024 7293034) {a b c e : Nat → Nat} {oa sb LL : Nat} {xs : Nat → Int32} (hs9 : SF x sb LL xs) {mm : Nat} (r : (Int32 × St × St × St × St × (Nat → Int64)) ⊕ Int32) (hR : ∀ t, r = .inr t → False) (i : Int32) (u v w m : St) (f : Nat → Int64) (ww : (Int32 × St × St × St × St × (Nat → Int64)) ⊕ ((Int32 × St × St × St × St × (Nat → Int64)) ⊕ Int32)) (hf : f_law_c44 xs LL i u v w m f = some ww) (hw : (∃ s2, ww = .inl s2 ∧ (fun (s : Int32 × St × St × St × St × (Nat → Int64)) => ∀ k n : Nat, k + 10 * mm ≤ 601024 → n + 60 * mm ≤ 7293034 → G x 7 k n (wLw a s.2.1 b s.2.2.1 c s.2.2.2.1 e s.2.2.2.2.1 oa s.2.2.2.2.2 (cxT x)) [(0, .ref sb), (1, .ref (a 0)), (2, .ref (e 0)), (3, .ref oa), (4, .int s.1)] 23 []) s2) ∨ ww = .inr r) {k n : Nat} (hk : k + 10 * (mm + 1) ≤ 601024) (hn : n + 60 * (mm + 1) ≤ 7293034) : G x 7 k n (wLw a u b v c w e m oa f (cxT x)) [(0, .ref sb), (1, .ref (a 0)), (2, .ref (e 0)), (3, .ref oa), (4, .int i)] 3094 [] := by
  unfold f_law_c44 at hf
  refine g_aload_n o 1 rfl rfl dL_law_3094 ?_
  refine g_aload_n o 0 rfl rfl dL_law_3095 ?_
  refine g_iload o 4 rfl dL_law_3096 ?_
  refine g_iconst o ic_1 dL_law_3098 ?_
  refine g_iadd o dL_law_3099 ?_
  refine g_sld o hs9 dL_law_3100 hf (fun hf => ?_)
  refine g_i2c o dL_law_3101 ?_
  refine g_aload_n o 3 rfl rfl dL_law_3102 ?_
  obtain ⟨r260, hr260, hf⟩ := bd_some hf
  refine k_L_append_W o hr260 m_807 (Nat.le_of_ble_eq_true rfl) (Nat.le_of_ble_eq_true rfl) ⟨by omega, by omega⟩ dL_law_3103 ?_
  refine g_istore o [(5, .int r260.1), (0, .ref sb), (1, .ref (a 0)), (2, .ref (e 0)), (3, .ref oa), (4, .int i)] (Nat.le_of_ble_eq_true rfl) rfl dL_law_3106 ?_
  refine g_aload_n o 3 rfl rfl dL_law_3108 ?_
  refine g_aload_n o 1 rfl rfl dL_law_3109 ?_
  refine g_iload o 5 rfl dL_law_3110 ?_
  refine g_iconst o ic_1 dL_law_3112 ?_
  refine g_iadd o dL_law_3113 ?_
  refine g_sld o hs9 dL_law_3114 hf (fun hf => ?_)
  refine g_i2c o dL_law_3115 ?_
  obtain ⟨r261, hr261, hf⟩ := bd_some hf
  refine k_X2_append_W o hr261 m_1255 (Nat.le_of_ble_eq_true rfl) (Nat.le_of_ble_eq_true rfl) ⟨by omega, by omega⟩ dL_law_3116 ?_
  refine g_istore o [(6, .int r261.1), (5, .int r260.1), (0, .ref sb), (1, .ref (a 0)), (2, .ref (e 0)), (3, .ref oa), (4, .int i)] (Nat.le_of_ble_eq_true rfl) rfl dL_law_3119 ?_
  refine g_aload_n o 4 rfl rfl dL_law_3121 ?_
  obtain ⟨r262, hr262, hf⟩ := bd_some hf
  refine k_X2_thrown_W o hr262 m_984 (Nat.le_of_ble_eq_true rfl) (Nat.le_of_ble_eq_true rfl) ⟨by omega, by omega⟩ dL_law_3122 ?_
  refine g_iload o 1 rfl dL_law_3125 ?_
  refine g_ic_eq (tgt := 3132) o rfl dL_law_3127 hf (fun hc hf => ?_) (fun hc hf => ?_)
  · refine g_iload o 1 rfl dL_law_3132 ?_
    refine g_if_ne (tgt := 3149) o rfl dL_law_3134 hf (fun hc hf => ?_) (fun hc hf => ?_)
    · refine g_goto (tgt := 3660) o rfl dL_law_3149 ?_
      refine g_iinc o [(4, .int (i + 6)), (6, .int r261.1), (5, .int r260.1), (0, .ref sb), (1, .ref (a 0)), (2, .ref (e 0)), (3, .ref oa)] 6 rfl (inc_6 _) (Nat.le_of_ble_eq_true rfl) rfl dL_law_3660 ?_
      refine g_goto (tgt := 23) o rfl dL_law_3663 ?_
      have hp := lf_c hf hw
      exact g_perm [3, 4, 5, 6, 0] rfl (hp _ _ (by omega) (by omega))
    · refine g_aload_n o 5 rfl rfl dL_law_3137 ?_
      refine g_iconst o ic_0 dL_law_3138 ?_
      refine W_old o dL_law_3139 hf (fun hf => ?_)
      refine g_iload o 0 rfl dL_law_3140 ?_
      refine g_i2l o dL_law_3142 ?_
      refine g_lcmp o dL_law_3143 ?_
      refine g_if_eq (tgt := 3149) o rfl dL_law_3144 hf (fun hc hf => ?_) (fun hc hf => ?_)
      · refine g_goto (tgt := 3660) o rfl dL_law_3149 ?_
        refine g_iinc o [(4, .int (i + 6)), (6, .int r261.1), (5, .int r260.1), (0, .ref sb), (1, .ref (a 0)), (2, .ref (e 0)), (3, .ref oa)] 6 rfl (inc_6 _) (Nat.le_of_ble_eq_true rfl) rfl dL_law_3660 ?_
        refine g_goto (tgt := 23) o rfl dL_law_3663 ?_
        have hp := lf_c hf hw
        exact g_perm [3, 4, 5, 6, 0] rfl (hp _ _ (by omega) (by omega))
      · refine g_iconst o ic_0 dL_law_3147 ?_
        exact (hR _ (lf_x hf hw)).elim
  · refine g_iconst o ic_0 dL_law_3130 ?_
    exact (hR _ (lf_x hf hw)).elim
set_option maxRecDepth 20000 in
set_option maxHeartbeats 4000000 in
theorem b_law_c45 {x : Cx} (o : Ok x cL_law 7 RL 100 601024 7293034) {a b c e : Nat → Nat} {oa sb LL : Nat} {xs : Nat → Int32} (hs9 : SF x sb LL xs) {mm : Nat} (r : (Int32 × St × St × St × St × (Nat → Int64)) ⊕ Int32) (hR : ∀ t, r = .inr t → False) (i : Int32) (u v w m : St) (f : Nat → Int64) (ww : (Int32 × St × St × St × St × (Nat → Int64)) ⊕ ((Int32 × St × St × St × St × (Nat → Int64)) ⊕ Int32)) (hf : f_law_c45 xs LL i u v w m f = some ww) (hw : (∃ s2, ww = .inl s2 ∧ (fun (s : Int32 × St × St × St × St × (Nat → Int64)) => ∀ k n : Nat, k + 10 * mm ≤ 601024 → n + 60 * mm ≤ 7293034 → G x 7 k n (wLw a s.2.1 b s.2.2.1 c s.2.2.2.1 e s.2.2.2.2.1 oa s.2.2.2.2.2 (cxT x)) [(0, .ref sb), (1, .ref (a 0)), (2, .ref (e 0)), (3, .ref oa), (4, .int s.1)] 23 []) s2) ∨ ww = .inr r) {k n : Nat} (hk : k + 10 * (mm + 1) ≤ 601024) (hn : n + 60 * (mm + 1) ≤ 7293034) : G x 7 k n (wLw a u b v c w e m oa f (cxT x)) [(0, .ref sb), (1, .ref (a 0)), (2, .ref (e 0)), (3, .ref oa), (4, .int i)] 3152 [] := by
  unfold f_law_c45 at hf
  refine g_aload_n o 1 rfl rfl dL_law_3152 ?_
  refine g_aload_n o 3 rfl rfl dL_law_3153 ?_
  obtain ⟨r266, hr266, hf⟩ := bd_some hf
  refine k_L_parse_W o hr266 m_816 (Nat.le_of_ble_eq_true rfl) (Nat.le_of_ble_eq_true rfl) ⟨by omega, by omega⟩ dL_law_3154 ?_
  refine g_istore o [(5, .int r266.1), (0, .ref sb), (1, .ref (a 0)), (2, .ref (e 0)), (3, .ref oa), (4, .int i)] (Nat.le_of_ble_eq_true rfl) rfl dL_law_3157 ?_
  refine g_aload_n o 3 rfl rfl dL_law_3159 ?_
  obtain ⟨r267, hr267, hf⟩ := bd_some hf
  refine k_X2_parse_W o hr267 m_1259 (Nat.le_of_ble_eq_true rfl) (Nat.le_of_ble_eq_true rfl) ⟨by omega, by omega⟩ dL_law_3160 ?_
  refine g_istore o [(6, .int r267.1), (5, .int r266.1), (0, .ref sb), (1, .ref (a 0)), (2, .ref (e 0)), (3, .ref oa), (4, .int i)] (Nat.le_of_ble_eq_true rfl) rfl dL_law_3163 ?_
  refine g_aload_n o 4 rfl rfl dL_law_3165 ?_
  obtain ⟨r268, hr268, hf⟩ := bd_some hf
  refine k_X2_thrown_W o hr268 m_984 (Nat.le_of_ble_eq_true rfl) (Nat.le_of_ble_eq_true rfl) ⟨by omega, by omega⟩ dL_law_3166 ?_
  refine g_iload o 1 rfl dL_law_3169 ?_
  refine g_ic_eq (tgt := 3176) o rfl dL_law_3171 hf (fun hc hf => ?_) (fun hc hf => ?_)
  · refine g_iload o 1 rfl dL_law_3176 ?_
    refine g_if_ne (tgt := 3193) o rfl dL_law_3178 hf (fun hc hf => ?_) (fun hc hf => ?_)
    · refine g_goto (tgt := 3660) o rfl dL_law_3193 ?_
      refine g_iinc o [(4, .int (i + 6)), (6, .int r267.1), (5, .int r266.1), (0, .ref sb), (1, .ref (a 0)), (2, .ref (e 0)), (3, .ref oa)] 6 rfl (inc_6 _) (Nat.le_of_ble_eq_true rfl) rfl dL_law_3660 ?_
      refine g_goto (tgt := 23) o rfl dL_law_3663 ?_
      have hp := lf_c hf hw
      exact g_perm [3, 4, 5, 6, 0] rfl (hp _ _ (by omega) (by omega))
    · refine g_aload_n o 5 rfl rfl dL_law_3181 ?_
      refine g_iconst o ic_0 dL_law_3182 ?_
      refine W_old o dL_law_3183 hf (fun hf => ?_)
      refine g_iload o 0 rfl dL_law_3184 ?_
      refine g_i2l o dL_law_3186 ?_
      refine g_lcmp o dL_law_3187 ?_
      refine g_if_eq (tgt := 3193) o rfl dL_law_3188 hf (fun hc hf => ?_) (fun hc hf => ?_)
      · refine g_goto (tgt := 3660) o rfl dL_law_3193 ?_
        refine g_iinc o [(4, .int (i + 6)), (6, .int r267.1), (5, .int r266.1), (0, .ref sb), (1, .ref (a 0)), (2, .ref (e 0)), (3, .ref oa)] 6 rfl (inc_6 _) (Nat.le_of_ble_eq_true rfl) rfl dL_law_3660 ?_
        refine g_goto (tgt := 23) o rfl dL_law_3663 ?_
        have hp := lf_c hf hw
        exact g_perm [3, 4, 5, 6, 0] rfl (hp _ _ (by omega) (by omega))
      · refine g_iconst o ic_0 dL_law_3191 ?_
        exact (hR _ (lf_x hf hw)).elim
  · refine g_iconst o ic_0 dL_law_3174 ?_
    exact (hR _ (lf_x hf hw)).elim
set_option maxRecDepth 20000 in
set_option maxHeartbeats 4000000 in
theorem b_law_c46 {x : Cx} (o : Ok x cL_law 7 RL 100 601024 7293034) {a b c e : Nat → Nat} {oa sb LL : Nat} {xs : Nat → Int32} (hs9 : SF x sb LL xs) {mm : Nat} (r : (Int32 × St × St × St × St × (Nat → Int64)) ⊕ Int32) (hR : ∀ t, r = .inr t → False) (i : Int32) (u v w m : St) (f : Nat → Int64) (ww : (Int32 × St × St × St × St × (Nat → Int64)) ⊕ ((Int32 × St × St × St × St × (Nat → Int64)) ⊕ Int32)) (hf : f_law_c46 xs LL i u v w m f = some ww) (hw : (∃ s2, ww = .inl s2 ∧ (fun (s : Int32 × St × St × St × St × (Nat → Int64)) => ∀ k n : Nat, k + 10 * mm ≤ 601024 → n + 60 * mm ≤ 7293034 → G x 7 k n (wLw a s.2.1 b s.2.2.1 c s.2.2.2.1 e s.2.2.2.2.1 oa s.2.2.2.2.2 (cxT x)) [(0, .ref sb), (1, .ref (a 0)), (2, .ref (e 0)), (3, .ref oa), (4, .int s.1)] 23 []) s2) ∨ ww = .inr r) {k n : Nat} (hk : k + 10 * (mm + 1) ≤ 601024) (hn : n + 60 * (mm + 1) ≤ 7293034) : G x 7 k n (wLw a u b v c w e m oa f (cxT x)) [(0, .ref sb), (1, .ref (a 0)), (2, .ref (e 0)), (3, .ref oa), (4, .int i)] 3196 [] := by
  unfold f_law_c46 at hf
  refine g_aload_n o 1 rfl rfl dL_law_3196 ?_
  refine g_aload_n o 3 rfl rfl dL_law_3197 ?_
  obtain ⟨r272, hr272, hf⟩ := bd_some hf
  refine k_L_errorPosition_W o hr272 m_842 (Nat.le_of_ble_eq_true rfl) (Nat.le_of_ble_eq_true rfl) ⟨by omega, by omega⟩ dL_law_3198 ?_
  refine g_istore o [(5, .int r272.1), (0, .ref sb), (1, .ref (a 0)), (2, .ref (e 0)), (3, .ref oa), (4, .int i)] (Nat.le_of_ble_eq_true rfl) rfl dL_law_3201 ?_
  refine g_aload_n o 3 rfl rfl dL_law_3203 ?_
  obtain ⟨r273, hr273, hf⟩ := bd_some hf
  refine k_X2_errorPosition_W o hr273 m_1267 (Nat.le_of_ble_eq_true rfl) (Nat.le_of_ble_eq_true rfl) ⟨by omega, by omega⟩ dL_law_3204 ?_
  refine g_istore o [(6, .int r273.1), (5, .int r272.1), (0, .ref sb), (1, .ref (a 0)), (2, .ref (e 0)), (3, .ref oa), (4, .int i)] (Nat.le_of_ble_eq_true rfl) rfl dL_law_3207 ?_
  refine g_aload_n o 4 rfl rfl dL_law_3209 ?_
  obtain ⟨r274, hr274, hf⟩ := bd_some hf
  refine k_X2_thrown_W o hr274 m_984 (Nat.le_of_ble_eq_true rfl) (Nat.le_of_ble_eq_true rfl) ⟨by omega, by omega⟩ dL_law_3210 ?_
  refine g_iload o 1 rfl dL_law_3213 ?_
  refine g_ic_eq (tgt := 3220) o rfl dL_law_3215 hf (fun hc hf => ?_) (fun hc hf => ?_)
  · refine g_iload o 1 rfl dL_law_3220 ?_
    refine g_if_ne (tgt := 3237) o rfl dL_law_3222 hf (fun hc hf => ?_) (fun hc hf => ?_)
    · refine g_goto (tgt := 3660) o rfl dL_law_3237 ?_
      refine g_iinc o [(4, .int (i + 6)), (6, .int r273.1), (5, .int r272.1), (0, .ref sb), (1, .ref (a 0)), (2, .ref (e 0)), (3, .ref oa)] 6 rfl (inc_6 _) (Nat.le_of_ble_eq_true rfl) rfl dL_law_3660 ?_
      refine g_goto (tgt := 23) o rfl dL_law_3663 ?_
      have hp := lf_c hf hw
      exact g_perm [3, 4, 5, 6, 0] rfl (hp _ _ (by omega) (by omega))
    · refine g_aload_n o 5 rfl rfl dL_law_3225 ?_
      refine g_iconst o ic_0 dL_law_3226 ?_
      refine W_old o dL_law_3227 hf (fun hf => ?_)
      refine g_iload o 0 rfl dL_law_3228 ?_
      refine g_i2l o dL_law_3230 ?_
      refine g_lcmp o dL_law_3231 ?_
      refine g_if_eq (tgt := 3237) o rfl dL_law_3232 hf (fun hc hf => ?_) (fun hc hf => ?_)
      · refine g_goto (tgt := 3660) o rfl dL_law_3237 ?_
        refine g_iinc o [(4, .int (i + 6)), (6, .int r273.1), (5, .int r272.1), (0, .ref sb), (1, .ref (a 0)), (2, .ref (e 0)), (3, .ref oa)] 6 rfl (inc_6 _) (Nat.le_of_ble_eq_true rfl) rfl dL_law_3660 ?_
        refine g_goto (tgt := 23) o rfl dL_law_3663 ?_
        have hp := lf_c hf hw
        exact g_perm [3, 4, 5, 6, 0] rfl (hp _ _ (by omega) (by omega))
      · refine g_iconst o ic_0 dL_law_3235 ?_
        exact (hR _ (lf_x hf hw)).elim
  · refine g_iconst o ic_0 dL_law_3218 ?_
    exact (hR _ (lf_x hf hw)).elim
set_option maxRecDepth 20000 in
set_option maxHeartbeats 4000000 in
theorem b_law_c47 {x : Cx} (o : Ok x cL_law 7 RL 100 601024 7293034) {a b c e : Nat → Nat} {oa sb LL : Nat} {xs : Nat → Int32} (hs9 : SF x sb LL xs) {mm : Nat} (r : (Int32 × St × St × St × St × (Nat → Int64)) ⊕ Int32) (hR : ∀ t, r = .inr t → False) (i : Int32) (u v w m : St) (f : Nat → Int64) (ww : (Int32 × St × St × St × St × (Nat → Int64)) ⊕ ((Int32 × St × St × St × St × (Nat → Int64)) ⊕ Int32)) (hf : f_law_c47 xs LL i u v w m f = some ww) (hw : (∃ s2, ww = .inl s2 ∧ (fun (s : Int32 × St × St × St × St × (Nat → Int64)) => ∀ k n : Nat, k + 10 * mm ≤ 601024 → n + 60 * mm ≤ 7293034 → G x 7 k n (wLw a s.2.1 b s.2.2.1 c s.2.2.2.1 e s.2.2.2.2.1 oa s.2.2.2.2.2 (cxT x)) [(0, .ref sb), (1, .ref (a 0)), (2, .ref (e 0)), (3, .ref oa), (4, .int s.1)] 23 []) s2) ∨ ww = .inr r) {k n : Nat} (hk : k + 10 * (mm + 1) ≤ 601024) (hn : n + 60 * (mm + 1) ≤ 7293034) : G x 7 k n (wLw a u b v c w e m oa f (cxT x)) [(0, .ref sb), (1, .ref (a 0)), (2, .ref (e 0)), (3, .ref oa), (4, .int i)] 3240 [] := by
  unfold f_law_c47 at hf
  refine g_aload_n o 1 rfl rfl dL_law_3240 ?_
  refine g_aload_n o 0 rfl rfl dL_law_3241 ?_
  refine g_iload o 4 rfl dL_law_3242 ?_
  refine g_iconst o ic_1 dL_law_3244 ?_
  refine g_iadd o dL_law_3245 ?_
  refine g_sld o hs9 dL_law_3246 hf (fun hf => ?_)
  refine g_aload_n o 3 rfl rfl dL_law_3247 ?_
  obtain ⟨r278, hr278, hf⟩ := bd_some hf
  refine k_L_write_W o hr278 m_850 (Nat.le_of_ble_eq_true rfl) (Nat.le_of_ble_eq_true rfl) ⟨by omega, by omega⟩ dL_law_3248 ?_
  refine g_istore o [(5, .int r278.1), (0, .ref sb), (1, .ref (a 0)), (2, .ref (e 0)), (3, .ref oa), (4, .int i)] (Nat.le_of_ble_eq_true rfl) rfl dL_law_3251 ?_
  refine g_aload_n o 3 rfl rfl dL_law_3253 ?_
  refine g_aload_n o 1 rfl rfl dL_law_3254 ?_
  refine g_iload o 5 rfl dL_law_3255 ?_
  refine g_iconst o ic_1 dL_law_3257 ?_
  refine g_iadd o dL_law_3258 ?_
  refine g_sld o hs9 dL_law_3259 hf (fun hf => ?_)
  obtain ⟨r279, hr279, hf⟩ := bd_some hf
  refine k_X2_write_W o hr279 m_1271 (Nat.le_of_ble_eq_true rfl) (Nat.le_of_ble_eq_true rfl) ⟨by omega, by omega⟩ dL_law_3260 ?_
  refine g_istore o [(6, .int r279.1), (5, .int r278.1), (0, .ref sb), (1, .ref (a 0)), (2, .ref (e 0)), (3, .ref oa), (4, .int i)] (Nat.le_of_ble_eq_true rfl) rfl dL_law_3263 ?_
  refine g_aload_n o 4 rfl rfl dL_law_3265 ?_
  obtain ⟨r280, hr280, hf⟩ := bd_some hf
  refine k_X2_thrown_W o hr280 m_984 (Nat.le_of_ble_eq_true rfl) (Nat.le_of_ble_eq_true rfl) ⟨by omega, by omega⟩ dL_law_3266 ?_
  refine g_iload o 1 rfl dL_law_3269 ?_
  refine g_ic_eq (tgt := 3276) o rfl dL_law_3271 hf (fun hc hf => ?_) (fun hc hf => ?_)
  · refine g_iload o 1 rfl dL_law_3276 ?_
    refine g_if_ne (tgt := 3293) o rfl dL_law_3278 hf (fun hc hf => ?_) (fun hc hf => ?_)
    · refine g_goto (tgt := 3660) o rfl dL_law_3293 ?_
      refine g_iinc o [(4, .int (i + 6)), (6, .int r279.1), (5, .int r278.1), (0, .ref sb), (1, .ref (a 0)), (2, .ref (e 0)), (3, .ref oa)] 6 rfl (inc_6 _) (Nat.le_of_ble_eq_true rfl) rfl dL_law_3660 ?_
      refine g_goto (tgt := 23) o rfl dL_law_3663 ?_
      have hp := lf_c hf hw
      exact g_perm [3, 4, 5, 6, 0] rfl (hp _ _ (by omega) (by omega))
    · refine g_aload_n o 5 rfl rfl dL_law_3281 ?_
      refine g_iconst o ic_0 dL_law_3282 ?_
      refine W_old o dL_law_3283 hf (fun hf => ?_)
      refine g_iload o 0 rfl dL_law_3284 ?_
      refine g_i2l o dL_law_3286 ?_
      refine g_lcmp o dL_law_3287 ?_
      refine g_if_eq (tgt := 3293) o rfl dL_law_3288 hf (fun hc hf => ?_) (fun hc hf => ?_)
      · refine g_goto (tgt := 3660) o rfl dL_law_3293 ?_
        refine g_iinc o [(4, .int (i + 6)), (6, .int r279.1), (5, .int r278.1), (0, .ref sb), (1, .ref (a 0)), (2, .ref (e 0)), (3, .ref oa)] 6 rfl (inc_6 _) (Nat.le_of_ble_eq_true rfl) rfl dL_law_3660 ?_
        refine g_goto (tgt := 23) o rfl dL_law_3663 ?_
        have hp := lf_c hf hw
        exact g_perm [3, 4, 5, 6, 0] rfl (hp _ _ (by omega) (by omega))
      · refine g_iconst o ic_0 dL_law_3291 ?_
        exact (hR _ (lf_x hf hw)).elim
  · refine g_iconst o ic_0 dL_law_3274 ?_
    exact (hR _ (lf_x hf hw)).elim
set_option maxRecDepth 20000 in
set_option maxHeartbeats 4000000 in
theorem b_law_c48 {x : Cx} (o : Ok x cL_law 7 RL 100 601024 7293034) {a b c e : Nat → Nat} {oa sb LL : Nat} {xs : Nat → Int32} (hs9 : SF x sb LL xs) {mm : Nat} (r : (Int32 × St × St × St × St × (Nat → Int64)) ⊕ Int32) (hR : ∀ t, r = .inr t → False) (i : Int32) (u v w m : St) (f : Nat → Int64) (ww : (Int32 × St × St × St × St × (Nat → Int64)) ⊕ ((Int32 × St × St × St × St × (Nat → Int64)) ⊕ Int32)) (hf : f_law_c48 xs LL i u v w m f = some ww) (hw : (∃ s2, ww = .inl s2 ∧ (fun (s : Int32 × St × St × St × St × (Nat → Int64)) => ∀ k n : Nat, k + 10 * mm ≤ 601024 → n + 60 * mm ≤ 7293034 → G x 7 k n (wLw a s.2.1 b s.2.2.1 c s.2.2.2.1 e s.2.2.2.2.1 oa s.2.2.2.2.2 (cxT x)) [(0, .ref sb), (1, .ref (a 0)), (2, .ref (e 0)), (3, .ref oa), (4, .int s.1)] 23 []) s2) ∨ ww = .inr r) {k n : Nat} (hk : k + 10 * (mm + 1) ≤ 601024) (hn : n + 60 * (mm + 1) ≤ 7293034) : G x 7 k n (wLw a u b v c w e m oa f (cxT x)) [(0, .ref sb), (1, .ref (a 0)), (2, .ref (e 0)), (3, .ref oa), (4, .int i)] 3296 [] := by
  unfold f_law_c48 at hf
  refine g_aload_n o 1 rfl rfl dL_law_3296 ?_
  refine g_aload_n o 0 rfl rfl dL_law_3297 ?_
  refine g_iload o 4 rfl dL_law_3298 ?_
  refine g_iconst o ic_1 dL_law_3300 ?_
  refine g_iadd o dL_law_3301 ?_
  refine g_sld o hs9 dL_law_3302 hf (fun hf => ?_)
  refine g_aload_n o 3 rfl rfl dL_law_3303 ?_
  obtain ⟨r284, hr284, hf⟩ := bd_some hf
  refine k_L_outputAt_W o hr284 m_865 (Nat.le_of_ble_eq_true rfl) (Nat.le_of_ble_eq_true rfl) ⟨by omega, by omega⟩ dL_law_3304 ?_
  refine g_istore o [(5, .int r284.1), (0, .ref sb), (1, .ref (a 0)), (2, .ref (e 0)), (3, .ref oa), (4, .int i)] (Nat.le_of_ble_eq_true rfl) rfl dL_law_3307 ?_
  refine g_aload_n o 3 rfl rfl dL_law_3309 ?_
  refine g_aload_n o 1 rfl rfl dL_law_3310 ?_
  refine g_iload o 5 rfl dL_law_3311 ?_
  refine g_iconst o ic_1 dL_law_3313 ?_
  refine g_iadd o dL_law_3314 ?_
  refine g_sld o hs9 dL_law_3315 hf (fun hf => ?_)
  obtain ⟨r285, hr285, hf⟩ := bd_some hf
  refine k_X2_outputAt_W o hr285 m_1279 (Nat.le_of_ble_eq_true rfl) (Nat.le_of_ble_eq_true rfl) ⟨by omega, by omega⟩ dL_law_3316 ?_
  refine g_istore o [(6, .int r285.1), (5, .int r284.1), (0, .ref sb), (1, .ref (a 0)), (2, .ref (e 0)), (3, .ref oa), (4, .int i)] (Nat.le_of_ble_eq_true rfl) rfl dL_law_3319 ?_
  refine g_aload_n o 4 rfl rfl dL_law_3321 ?_
  obtain ⟨r286, hr286, hf⟩ := bd_some hf
  refine k_X2_thrown_W o hr286 m_984 (Nat.le_of_ble_eq_true rfl) (Nat.le_of_ble_eq_true rfl) ⟨by omega, by omega⟩ dL_law_3322 ?_
  refine g_iload o 1 rfl dL_law_3325 ?_
  refine g_ic_eq (tgt := 3332) o rfl dL_law_3327 hf (fun hc hf => ?_) (fun hc hf => ?_)
  · refine g_iload o 1 rfl dL_law_3332 ?_
    refine g_if_ne (tgt := 3349) o rfl dL_law_3334 hf (fun hc hf => ?_) (fun hc hf => ?_)
    · refine g_goto (tgt := 3660) o rfl dL_law_3349 ?_
      refine g_iinc o [(4, .int (i + 6)), (6, .int r285.1), (5, .int r284.1), (0, .ref sb), (1, .ref (a 0)), (2, .ref (e 0)), (3, .ref oa)] 6 rfl (inc_6 _) (Nat.le_of_ble_eq_true rfl) rfl dL_law_3660 ?_
      refine g_goto (tgt := 23) o rfl dL_law_3663 ?_
      have hp := lf_c hf hw
      exact g_perm [3, 4, 5, 6, 0] rfl (hp _ _ (by omega) (by omega))
    · refine g_aload_n o 5 rfl rfl dL_law_3337 ?_
      refine g_iconst o ic_0 dL_law_3338 ?_
      refine W_old o dL_law_3339 hf (fun hf => ?_)
      refine g_iload o 0 rfl dL_law_3340 ?_
      refine g_i2l o dL_law_3342 ?_
      refine g_lcmp o dL_law_3343 ?_
      refine g_if_eq (tgt := 3349) o rfl dL_law_3344 hf (fun hc hf => ?_) (fun hc hf => ?_)
      · refine g_goto (tgt := 3660) o rfl dL_law_3349 ?_
        refine g_iinc o [(4, .int (i + 6)), (6, .int r285.1), (5, .int r284.1), (0, .ref sb), (1, .ref (a 0)), (2, .ref (e 0)), (3, .ref oa)] 6 rfl (inc_6 _) (Nat.le_of_ble_eq_true rfl) rfl dL_law_3660 ?_
        refine g_goto (tgt := 23) o rfl dL_law_3663 ?_
        have hp := lf_c hf hw
        exact g_perm [3, 4, 5, 6, 0] rfl (hp _ _ (by omega) (by omega))
      · refine g_iconst o ic_0 dL_law_3347 ?_
        exact (hR _ (lf_x hf hw)).elim
  · refine g_iconst o ic_0 dL_law_3330 ?_
    exact (hR _ (lf_x hf hw)).elim
set_option maxRecDepth 20000 in
set_option maxHeartbeats 4000000 in
theorem b_law_c49 {x : Cx} (o : Ok x cL_law 7 RL 100 601024 7293034) {a b c e : Nat → Nat} {oa sb LL : Nat} {xs : Nat → Int32} (hs9 : SF x sb LL xs) {mm : Nat} (r : (Int32 × St × St × St × St × (Nat → Int64)) ⊕ Int32) (hR : ∀ t, r = .inr t → False) (i : Int32) (u v w m : St) (f : Nat → Int64) (ww : (Int32 × St × St × St × St × (Nat → Int64)) ⊕ ((Int32 × St × St × St × St × (Nat → Int64)) ⊕ Int32)) (hf : f_law_c49 xs LL i u v w m f = some ww) (hw : (∃ s2, ww = .inl s2 ∧ (fun (s : Int32 × St × St × St × St × (Nat → Int64)) => ∀ k n : Nat, k + 10 * mm ≤ 601024 → n + 60 * mm ≤ 7293034 → G x 7 k n (wLw a s.2.1 b s.2.2.1 c s.2.2.2.1 e s.2.2.2.2.1 oa s.2.2.2.2.2 (cxT x)) [(0, .ref sb), (1, .ref (a 0)), (2, .ref (e 0)), (3, .ref oa), (4, .int s.1)] 23 []) s2) ∨ ww = .inr r) {k n : Nat} (hk : k + 10 * (mm + 1) ≤ 601024) (hn : n + 60 * (mm + 1) ≤ 7293034) : G x 7 k n (wLw a u b v c w e m oa f (cxT x)) [(0, .ref sb), (1, .ref (a 0)), (2, .ref (e 0)), (3, .ref oa), (4, .int i)] 3352 [] := by
  unfold f_law_c49 at hf
  refine g_aload_n o 1 rfl rfl dL_law_3352 ?_
  refine g_aload_n o 0 rfl rfl dL_law_3353 ?_
  refine g_iload o 4 rfl dL_law_3354 ?_
  refine g_iconst o ic_1 dL_law_3356 ?_
  refine g_iadd o dL_law_3357 ?_
  refine g_sld o hs9 dL_law_3358 hf (fun hf => ?_)
  refine g_aload_n o 0 rfl rfl dL_law_3359 ?_
  refine g_iload o 4 rfl dL_law_3360 ?_
  refine g_iconst o ic_2 dL_law_3362 ?_
  refine g_iadd o dL_law_3363 ?_
  refine g_sld o hs9 dL_law_3364 hf (fun hf => ?_)
  refine g_aload_n o 0 rfl rfl dL_law_3365 ?_
  refine g_iload o 4 rfl dL_law_3366 ?_
  refine g_iconst o ic_3 dL_law_3368 ?_
  refine g_iadd o dL_law_3369 ?_
  refine g_sld o hs9 dL_law_3370 hf (fun hf => ?_)
  refine g_aload_n o 3 rfl rfl dL_law_3371 ?_
  obtain ⟨r290, hr290, hf⟩ := bd_some hf
  refine k_L_storeFlags_W o hr290 m_873 (Nat.le_of_ble_eq_true rfl) (Nat.le_of_ble_eq_true rfl) ⟨by omega, by omega⟩ dL_law_3372 ?_
  refine g_istore o [(5, .int r290.1), (0, .ref sb), (1, .ref (a 0)), (2, .ref (e 0)), (3, .ref oa), (4, .int i)] (Nat.le_of_ble_eq_true rfl) rfl dL_law_3375 ?_
  refine g_aload_n o 3 rfl rfl dL_law_3377 ?_
  refine g_aload_n o 1 rfl rfl dL_law_3378 ?_
  refine g_iload o 5 rfl dL_law_3379 ?_
  refine g_iconst o ic_1 dL_law_3381 ?_
  refine g_iadd o dL_law_3382 ?_
  refine g_sld o hs9 dL_law_3383 hf (fun hf => ?_)
  refine g_aload_n o 1 rfl rfl dL_law_3384 ?_
  refine g_iload o 5 rfl dL_law_3385 ?_
  refine g_iconst o ic_2 dL_law_3387 ?_
  refine g_iadd o dL_law_3388 ?_
  refine g_sld o hs9 dL_law_3389 hf (fun hf => ?_)
  refine g_aload_n o 1 rfl rfl dL_law_3390 ?_
  refine g_iload o 5 rfl dL_law_3391 ?_
  refine g_iconst o ic_3 dL_law_3393 ?_
  refine g_iadd o dL_law_3394 ?_
  refine g_sld o hs9 dL_law_3395 hf (fun hf => ?_)
  obtain ⟨r291, hr291, hf⟩ := bd_some hf
  refine k_X2_storeFlags_W o hr291 m_1283 (Nat.le_of_ble_eq_true rfl) (Nat.le_of_ble_eq_true rfl) ⟨by omega, by omega⟩ dL_law_3396 ?_
  refine g_istore o [(6, .int r291.1), (5, .int r290.1), (0, .ref sb), (1, .ref (a 0)), (2, .ref (e 0)), (3, .ref oa), (4, .int i)] (Nat.le_of_ble_eq_true rfl) rfl dL_law_3399 ?_
  refine g_aload_n o 4 rfl rfl dL_law_3401 ?_
  obtain ⟨r292, hr292, hf⟩ := bd_some hf
  refine k_X2_thrown_W o hr292 m_984 (Nat.le_of_ble_eq_true rfl) (Nat.le_of_ble_eq_true rfl) ⟨by omega, by omega⟩ dL_law_3402 ?_
  refine g_iload o 1 rfl dL_law_3405 ?_
  refine g_ic_eq (tgt := 3412) o rfl dL_law_3407 hf (fun hc hf => ?_) (fun hc hf => ?_)
  · refine g_iload o 1 rfl dL_law_3412 ?_
    refine g_if_ne (tgt := 3429) o rfl dL_law_3414 hf (fun hc hf => ?_) (fun hc hf => ?_)
    · refine g_goto (tgt := 3660) o rfl dL_law_3429 ?_
      refine g_iinc o [(4, .int (i + 6)), (6, .int r291.1), (5, .int r290.1), (0, .ref sb), (1, .ref (a 0)), (2, .ref (e 0)), (3, .ref oa)] 6 rfl (inc_6 _) (Nat.le_of_ble_eq_true rfl) rfl dL_law_3660 ?_
      refine g_goto (tgt := 23) o rfl dL_law_3663 ?_
      have hp := lf_c hf hw
      exact g_perm [3, 4, 5, 6, 0] rfl (hp _ _ (by omega) (by omega))
    · refine g_aload_n o 5 rfl rfl dL_law_3417 ?_
      refine g_iconst o ic_0 dL_law_3418 ?_
      refine W_old o dL_law_3419 hf (fun hf => ?_)
      refine g_iload o 0 rfl dL_law_3420 ?_
      refine g_i2l o dL_law_3422 ?_
      refine g_lcmp o dL_law_3423 ?_
      refine g_if_eq (tgt := 3429) o rfl dL_law_3424 hf (fun hc hf => ?_) (fun hc hf => ?_)
      · refine g_goto (tgt := 3660) o rfl dL_law_3429 ?_
        refine g_iinc o [(4, .int (i + 6)), (6, .int r291.1), (5, .int r290.1), (0, .ref sb), (1, .ref (a 0)), (2, .ref (e 0)), (3, .ref oa)] 6 rfl (inc_6 _) (Nat.le_of_ble_eq_true rfl) rfl dL_law_3660 ?_
        refine g_goto (tgt := 23) o rfl dL_law_3663 ?_
        have hp := lf_c hf hw
        exact g_perm [3, 4, 5, 6, 0] rfl (hp _ _ (by omega) (by omega))
      · refine g_iconst o ic_0 dL_law_3427 ?_
        exact (hR _ (lf_x hf hw)).elim
  · refine g_iconst o ic_0 dL_law_3410 ?_
    exact (hR _ (lf_x hf hw)).elim
set_option maxRecDepth 20000 in
set_option maxHeartbeats 4000000 in
theorem b_law_c50 {x : Cx} (o : Ok x cL_law 7 RL 100 601024 7293034) {a b c e : Nat → Nat} {oa sb LL : Nat} {xs : Nat → Int32} (hs9 : SF x sb LL xs) {mm : Nat} (r : (Int32 × St × St × St × St × (Nat → Int64)) ⊕ Int32) (hR : ∀ t, r = .inr t → False) (i : Int32) (u v w m : St) (f : Nat → Int64) (ww : (Int32 × St × St × St × St × (Nat → Int64)) ⊕ ((Int32 × St × St × St × St × (Nat → Int64)) ⊕ Int32)) (hf : f_law_c50 xs LL i u v w m f = some ww) (hw : (∃ s2, ww = .inl s2 ∧ (fun (s : Int32 × St × St × St × St × (Nat → Int64)) => ∀ k n : Nat, k + 10 * mm ≤ 601024 → n + 60 * mm ≤ 7293034 → G x 7 k n (wLw a s.2.1 b s.2.2.1 c s.2.2.2.1 e s.2.2.2.2.1 oa s.2.2.2.2.2 (cxT x)) [(0, .ref sb), (1, .ref (a 0)), (2, .ref (e 0)), (3, .ref oa), (4, .int s.1)] 23 []) s2) ∨ ww = .inr r) {k n : Nat} (hk : k + 10 * (mm + 1) ≤ 601024) (hn : n + 60 * (mm + 1) ≤ 7293034) : G x 7 k n (wLw a u b v c w e m oa f (cxT x)) [(0, .ref sb), (1, .ref (a 0)), (2, .ref (e 0)), (3, .ref oa), (4, .int i)] 3432 [] := by
  unfold f_law_c50 at hf
  refine g_aload_n o 1 rfl rfl dL_law_3432 ?_
  refine g_aload_n o 0 rfl rfl dL_law_3433 ?_
  refine g_iload o 4 rfl dL_law_3434 ?_
  refine g_iconst o ic_1 dL_law_3436 ?_
  refine g_iadd o dL_law_3437 ?_
  refine g_sld o hs9 dL_law_3438 hf (fun hf => ?_)
  refine g_aload_n o 0 rfl rfl dL_law_3439 ?_
  refine g_iload o 4 rfl dL_law_3440 ?_
  refine g_iconst o ic_2 dL_law_3442 ?_
  refine g_iadd o dL_law_3443 ?_
  refine g_sld o hs9 dL_law_3444 hf (fun hf => ?_)
  refine g_aload_n o 0 rfl rfl dL_law_3445 ?_
  refine g_iload o 4 rfl dL_law_3446 ?_
  refine g_iconst o ic_3 dL_law_3448 ?_
  refine g_iadd o dL_law_3449 ?_
  refine g_sld o hs9 dL_law_3450 hf (fun hf => ?_)
  refine g_if_eq (tgt := 3458) o rfl dL_law_3451 hf (fun hc hf => ?_) (fun hc hf => ?_)
  · refine g_iconst o ic_0 dL_law_3458 ?_
    refine g_aload_n o 3 rfl rfl dL_law_3459 ?_
    obtain ⟨r303, hr303, hf⟩ := bd_some hf
    refine k_L_setFlag_W o hr303 m_885 (Nat.le_of_ble_eq_true rfl) (Nat.le_of_ble_eq_true rfl) ⟨by omega, by omega⟩ dL_law_3460 ?_
    refine g_istore o [(5, .int r303.1), (0, .ref sb), (1, .ref (a 0)), (2, .ref (e 0)), (3, .ref oa), (4, .int i)] (Nat.le_of_ble_eq_true rfl) rfl dL_law_3463 ?_
    refine g_aload_n o 3 rfl rfl dL_law_3465 ?_
    refine g_aload_n o 1 rfl rfl dL_law_3466 ?_
    refine g_iload o 5 rfl dL_law_3467 ?_
    refine g_iconst o ic_1 dL_law_3469 ?_
    refine g_iadd o dL_law_3470 ?_
    refine g_sld o hs9 dL_law_3471 hf (fun hf => ?_)
    refine g_aload_n o 1 rfl rfl dL_law_3472 ?_
    refine g_iload o 5 rfl dL_law_3473 ?_
    refine g_iconst o ic_2 dL_law_3475 ?_
    refine g_iadd o dL_law_3476 ?_
    refine g_sld o hs9 dL_law_3477 hf (fun hf => ?_)
    refine g_aload_n o 1 rfl rfl dL_law_3478 ?_
    refine g_iload o 5 rfl dL_law_3479 ?_
    refine g_iconst o ic_3 dL_law_3481 ?_
    refine g_iadd o dL_law_3482 ?_
    refine g_sld o hs9 dL_law_3483 hf (fun hf => ?_)
    refine g_if_eq (tgt := 3491) o rfl dL_law_3484 hf (fun hc hf => ?_) (fun hc hf => ?_)
    · refine g_iconst o ic_0 dL_law_3491 ?_
      obtain ⟨r304, hr304, hf⟩ := bd_some hf
      refine k_X2_setFlag_W o hr304 m_1290 (Nat.le_of_ble_eq_true rfl) (Nat.le_of_ble_eq_true rfl) ⟨by omega, by omega⟩ dL_law_3492 ?_
      refine g_istore o [(6, .int r304.1), (5, .int r303.1), (0, .ref sb), (1, .ref (a 0)), (2, .ref (e 0)), (3, .ref oa), (4, .int i)] (Nat.le_of_ble_eq_true rfl) rfl dL_law_3495 ?_
      refine g_aload_n o 4 rfl rfl dL_law_3497 ?_
      obtain ⟨r305, hr305, hf⟩ := bd_some hf
      refine k_X2_thrown_W o hr305 m_984 (Nat.le_of_ble_eq_true rfl) (Nat.le_of_ble_eq_true rfl) ⟨by omega, by omega⟩ dL_law_3498 ?_
      refine g_iload o 1 rfl dL_law_3501 ?_
      refine g_ic_eq (tgt := 3508) o rfl dL_law_3503 hf (fun hc hf => ?_) (fun hc hf => ?_)
      · refine g_iload o 1 rfl dL_law_3508 ?_
        refine g_if_ne (tgt := 3532) o rfl dL_law_3510 hf (fun hc hf => ?_) (fun hc hf => ?_)
        · refine g_goto (tgt := 3660) o rfl dL_law_3532 ?_
          refine g_iinc o [(4, .int (i + 6)), (6, .int r304.1), (5, .int r303.1), (0, .ref sb), (1, .ref (a 0)), (2, .ref (e 0)), (3, .ref oa)] 6 rfl (inc_6 _) (Nat.le_of_ble_eq_true rfl) rfl dL_law_3660 ?_
          refine g_goto (tgt := 23) o rfl dL_law_3663 ?_
          have hp := lf_c hf hw
          exact g_perm [3, 4, 5, 6, 0] rfl (hp _ _ (by omega) (by omega))
        · refine g_aload_n o 5 rfl rfl dL_law_3513 ?_
          refine g_iconst o ic_0 dL_law_3514 ?_
          refine W_old o dL_law_3515 hf (fun hf => ?_)
          refine g_iload o 0 rfl dL_law_3516 ?_
          refine g_if_eq (tgt := 3525) o rfl dL_law_3518 hf (fun hc hf => ?_) (fun hc hf => ?_)
          · refine g_lconst o lc_0 dL_law_3525 ?_
            refine g_lcmp o dL_law_3526 ?_
            refine g_if_eq (tgt := 3532) o rfl dL_law_3527 hf (fun hc hf => ?_) (fun hc hf => ?_)
            · refine g_goto (tgt := 3660) o rfl dL_law_3532 ?_
              refine g_iinc o [(4, .int (i + 6)), (6, .int r304.1), (5, .int r303.1), (0, .ref sb), (1, .ref (a 0)), (2, .ref (e 0)), (3, .ref oa)] 6 rfl (inc_6 _) (Nat.le_of_ble_eq_true rfl) rfl dL_law_3660 ?_
              refine g_goto (tgt := 23) o rfl dL_law_3663 ?_
              have hp := lf_c hf hw
              exact g_perm [3, 4, 5, 6, 0] rfl (hp _ _ (by omega) (by omega))
            · refine g_iconst o ic_0 dL_law_3530 ?_
              exact (hR _ (lf_x hf hw)).elim
          · refine g_lconst o lc_1 dL_law_3521 ?_
            refine g_goto (tgt := 3526) o rfl dL_law_3522 ?_
            refine g_lcmp o dL_law_3526 ?_
            refine g_if_eq (tgt := 3532) o rfl dL_law_3527 hf (fun hc hf => ?_) (fun hc hf => ?_)
            · refine g_goto (tgt := 3660) o rfl dL_law_3532 ?_
              refine g_iinc o [(4, .int (i + 6)), (6, .int r304.1), (5, .int r303.1), (0, .ref sb), (1, .ref (a 0)), (2, .ref (e 0)), (3, .ref oa)] 6 rfl (inc_6 _) (Nat.le_of_ble_eq_true rfl) rfl dL_law_3660 ?_
              refine g_goto (tgt := 23) o rfl dL_law_3663 ?_
              have hp := lf_c hf hw
              exact g_perm [3, 4, 5, 6, 0] rfl (hp _ _ (by omega) (by omega))
            · refine g_iconst o ic_0 dL_law_3530 ?_
              exact (hR _ (lf_x hf hw)).elim
      · refine g_iconst o ic_0 dL_law_3506 ?_
        exact (hR _ (lf_x hf hw)).elim
    · refine g_iconst o ic_1 dL_law_3487 ?_
      refine g_goto (tgt := 3492) o rfl dL_law_3488 ?_
      obtain ⟨r306, hr306, hf⟩ := bd_some hf
      refine k_X2_setFlag_W o hr306 m_1290 (Nat.le_of_ble_eq_true rfl) (Nat.le_of_ble_eq_true rfl) ⟨by omega, by omega⟩ dL_law_3492 ?_
      refine g_istore o [(6, .int r306.1), (5, .int r303.1), (0, .ref sb), (1, .ref (a 0)), (2, .ref (e 0)), (3, .ref oa), (4, .int i)] (Nat.le_of_ble_eq_true rfl) rfl dL_law_3495 ?_
      refine g_aload_n o 4 rfl rfl dL_law_3497 ?_
      obtain ⟨r307, hr307, hf⟩ := bd_some hf
      refine k_X2_thrown_W o hr307 m_984 (Nat.le_of_ble_eq_true rfl) (Nat.le_of_ble_eq_true rfl) ⟨by omega, by omega⟩ dL_law_3498 ?_
      refine g_iload o 1 rfl dL_law_3501 ?_
      refine g_ic_eq (tgt := 3508) o rfl dL_law_3503 hf (fun hc hf => ?_) (fun hc hf => ?_)
      · refine g_iload o 1 rfl dL_law_3508 ?_
        refine g_if_ne (tgt := 3532) o rfl dL_law_3510 hf (fun hc hf => ?_) (fun hc hf => ?_)
        · refine g_goto (tgt := 3660) o rfl dL_law_3532 ?_
          refine g_iinc o [(4, .int (i + 6)), (6, .int r306.1), (5, .int r303.1), (0, .ref sb), (1, .ref (a 0)), (2, .ref (e 0)), (3, .ref oa)] 6 rfl (inc_6 _) (Nat.le_of_ble_eq_true rfl) rfl dL_law_3660 ?_
          refine g_goto (tgt := 23) o rfl dL_law_3663 ?_
          have hp := lf_c hf hw
          exact g_perm [3, 4, 5, 6, 0] rfl (hp _ _ (by omega) (by omega))
        · refine g_aload_n o 5 rfl rfl dL_law_3513 ?_
          refine g_iconst o ic_0 dL_law_3514 ?_
          refine W_old o dL_law_3515 hf (fun hf => ?_)
          refine g_iload o 0 rfl dL_law_3516 ?_
          refine g_if_eq (tgt := 3525) o rfl dL_law_3518 hf (fun hc hf => ?_) (fun hc hf => ?_)
          · refine g_lconst o lc_0 dL_law_3525 ?_
            refine g_lcmp o dL_law_3526 ?_
            refine g_if_eq (tgt := 3532) o rfl dL_law_3527 hf (fun hc hf => ?_) (fun hc hf => ?_)
            · refine g_goto (tgt := 3660) o rfl dL_law_3532 ?_
              refine g_iinc o [(4, .int (i + 6)), (6, .int r306.1), (5, .int r303.1), (0, .ref sb), (1, .ref (a 0)), (2, .ref (e 0)), (3, .ref oa)] 6 rfl (inc_6 _) (Nat.le_of_ble_eq_true rfl) rfl dL_law_3660 ?_
              refine g_goto (tgt := 23) o rfl dL_law_3663 ?_
              have hp := lf_c hf hw
              exact g_perm [3, 4, 5, 6, 0] rfl (hp _ _ (by omega) (by omega))
            · refine g_iconst o ic_0 dL_law_3530 ?_
              exact (hR _ (lf_x hf hw)).elim
          · refine g_lconst o lc_1 dL_law_3521 ?_
            refine g_goto (tgt := 3526) o rfl dL_law_3522 ?_
            refine g_lcmp o dL_law_3526 ?_
            refine g_if_eq (tgt := 3532) o rfl dL_law_3527 hf (fun hc hf => ?_) (fun hc hf => ?_)
            · refine g_goto (tgt := 3660) o rfl dL_law_3532 ?_
              refine g_iinc o [(4, .int (i + 6)), (6, .int r306.1), (5, .int r303.1), (0, .ref sb), (1, .ref (a 0)), (2, .ref (e 0)), (3, .ref oa)] 6 rfl (inc_6 _) (Nat.le_of_ble_eq_true rfl) rfl dL_law_3660 ?_
              refine g_goto (tgt := 23) o rfl dL_law_3663 ?_
              have hp := lf_c hf hw
              exact g_perm [3, 4, 5, 6, 0] rfl (hp _ _ (by omega) (by omega))
            · refine g_iconst o ic_0 dL_law_3530 ?_
              exact (hR _ (lf_x hf hw)).elim
      · refine g_iconst o ic_0 dL_law_3506 ?_
        exact (hR _ (lf_x hf hw)).elim
  · refine g_iconst o ic_1 dL_law_3454 ?_
    refine g_goto (tgt := 3459) o rfl dL_law_3455 ?_
    refine g_aload_n o 3 rfl rfl dL_law_3459 ?_
    obtain ⟨r308, hr308, hf⟩ := bd_some hf
    refine k_L_setFlag_W o hr308 m_885 (Nat.le_of_ble_eq_true rfl) (Nat.le_of_ble_eq_true rfl) ⟨by omega, by omega⟩ dL_law_3460 ?_
    refine g_istore o [(5, .int r308.1), (0, .ref sb), (1, .ref (a 0)), (2, .ref (e 0)), (3, .ref oa), (4, .int i)] (Nat.le_of_ble_eq_true rfl) rfl dL_law_3463 ?_
    refine g_aload_n o 3 rfl rfl dL_law_3465 ?_
    refine g_aload_n o 1 rfl rfl dL_law_3466 ?_
    refine g_iload o 5 rfl dL_law_3467 ?_
    refine g_iconst o ic_1 dL_law_3469 ?_
    refine g_iadd o dL_law_3470 ?_
    refine g_sld o hs9 dL_law_3471 hf (fun hf => ?_)
    refine g_aload_n o 1 rfl rfl dL_law_3472 ?_
    refine g_iload o 5 rfl dL_law_3473 ?_
    refine g_iconst o ic_2 dL_law_3475 ?_
    refine g_iadd o dL_law_3476 ?_
    refine g_sld o hs9 dL_law_3477 hf (fun hf => ?_)
    refine g_aload_n o 1 rfl rfl dL_law_3478 ?_
    refine g_iload o 5 rfl dL_law_3479 ?_
    refine g_iconst o ic_3 dL_law_3481 ?_
    refine g_iadd o dL_law_3482 ?_
    refine g_sld o hs9 dL_law_3483 hf (fun hf => ?_)
    refine g_if_eq (tgt := 3491) o rfl dL_law_3484 hf (fun hc hf => ?_) (fun hc hf => ?_)
    · refine g_iconst o ic_0 dL_law_3491 ?_
      obtain ⟨r309, hr309, hf⟩ := bd_some hf
      refine k_X2_setFlag_W o hr309 m_1290 (Nat.le_of_ble_eq_true rfl) (Nat.le_of_ble_eq_true rfl) ⟨by omega, by omega⟩ dL_law_3492 ?_
      refine g_istore o [(6, .int r309.1), (5, .int r308.1), (0, .ref sb), (1, .ref (a 0)), (2, .ref (e 0)), (3, .ref oa), (4, .int i)] (Nat.le_of_ble_eq_true rfl) rfl dL_law_3495 ?_
      refine g_aload_n o 4 rfl rfl dL_law_3497 ?_
      obtain ⟨r310, hr310, hf⟩ := bd_some hf
      refine k_X2_thrown_W o hr310 m_984 (Nat.le_of_ble_eq_true rfl) (Nat.le_of_ble_eq_true rfl) ⟨by omega, by omega⟩ dL_law_3498 ?_
      refine g_iload o 1 rfl dL_law_3501 ?_
      refine g_ic_eq (tgt := 3508) o rfl dL_law_3503 hf (fun hc hf => ?_) (fun hc hf => ?_)
      · refine g_iload o 1 rfl dL_law_3508 ?_
        refine g_if_ne (tgt := 3532) o rfl dL_law_3510 hf (fun hc hf => ?_) (fun hc hf => ?_)
        · refine g_goto (tgt := 3660) o rfl dL_law_3532 ?_
          refine g_iinc o [(4, .int (i + 6)), (6, .int r309.1), (5, .int r308.1), (0, .ref sb), (1, .ref (a 0)), (2, .ref (e 0)), (3, .ref oa)] 6 rfl (inc_6 _) (Nat.le_of_ble_eq_true rfl) rfl dL_law_3660 ?_
          refine g_goto (tgt := 23) o rfl dL_law_3663 ?_
          have hp := lf_c hf hw
          exact g_perm [3, 4, 5, 6, 0] rfl (hp _ _ (by omega) (by omega))
        · refine g_aload_n o 5 rfl rfl dL_law_3513 ?_
          refine g_iconst o ic_0 dL_law_3514 ?_
          refine W_old o dL_law_3515 hf (fun hf => ?_)
          refine g_iload o 0 rfl dL_law_3516 ?_
          refine g_if_eq (tgt := 3525) o rfl dL_law_3518 hf (fun hc hf => ?_) (fun hc hf => ?_)
          · refine g_lconst o lc_0 dL_law_3525 ?_
            refine g_lcmp o dL_law_3526 ?_
            refine g_if_eq (tgt := 3532) o rfl dL_law_3527 hf (fun hc hf => ?_) (fun hc hf => ?_)
            · refine g_goto (tgt := 3660) o rfl dL_law_3532 ?_
              refine g_iinc o [(4, .int (i + 6)), (6, .int r309.1), (5, .int r308.1), (0, .ref sb), (1, .ref (a 0)), (2, .ref (e 0)), (3, .ref oa)] 6 rfl (inc_6 _) (Nat.le_of_ble_eq_true rfl) rfl dL_law_3660 ?_
              refine g_goto (tgt := 23) o rfl dL_law_3663 ?_
              have hp := lf_c hf hw
              exact g_perm [3, 4, 5, 6, 0] rfl (hp _ _ (by omega) (by omega))
            · refine g_iconst o ic_0 dL_law_3530 ?_
              exact (hR _ (lf_x hf hw)).elim
          · refine g_lconst o lc_1 dL_law_3521 ?_
            refine g_goto (tgt := 3526) o rfl dL_law_3522 ?_
            refine g_lcmp o dL_law_3526 ?_
            refine g_if_eq (tgt := 3532) o rfl dL_law_3527 hf (fun hc hf => ?_) (fun hc hf => ?_)
            · refine g_goto (tgt := 3660) o rfl dL_law_3532 ?_
              refine g_iinc o [(4, .int (i + 6)), (6, .int r309.1), (5, .int r308.1), (0, .ref sb), (1, .ref (a 0)), (2, .ref (e 0)), (3, .ref oa)] 6 rfl (inc_6 _) (Nat.le_of_ble_eq_true rfl) rfl dL_law_3660 ?_
              refine g_goto (tgt := 23) o rfl dL_law_3663 ?_
              have hp := lf_c hf hw
              exact g_perm [3, 4, 5, 6, 0] rfl (hp _ _ (by omega) (by omega))
            · refine g_iconst o ic_0 dL_law_3530 ?_
              exact (hR _ (lf_x hf hw)).elim
      · refine g_iconst o ic_0 dL_law_3506 ?_
        exact (hR _ (lf_x hf hw)).elim
    · refine g_iconst o ic_1 dL_law_3487 ?_
      refine g_goto (tgt := 3492) o rfl dL_law_3488 ?_
      obtain ⟨r311, hr311, hf⟩ := bd_some hf
      refine k_X2_setFlag_W o hr311 m_1290 (Nat.le_of_ble_eq_true rfl) (Nat.le_of_ble_eq_true rfl) ⟨by omega, by omega⟩ dL_law_3492 ?_
      refine g_istore o [(6, .int r311.1), (5, .int r308.1), (0, .ref sb), (1, .ref (a 0)), (2, .ref (e 0)), (3, .ref oa), (4, .int i)] (Nat.le_of_ble_eq_true rfl) rfl dL_law_3495 ?_
      refine g_aload_n o 4 rfl rfl dL_law_3497 ?_
      obtain ⟨r312, hr312, hf⟩ := bd_some hf
      refine k_X2_thrown_W o hr312 m_984 (Nat.le_of_ble_eq_true rfl) (Nat.le_of_ble_eq_true rfl) ⟨by omega, by omega⟩ dL_law_3498 ?_
      refine g_iload o 1 rfl dL_law_3501 ?_
      refine g_ic_eq (tgt := 3508) o rfl dL_law_3503 hf (fun hc hf => ?_) (fun hc hf => ?_)
      · refine g_iload o 1 rfl dL_law_3508 ?_
        refine g_if_ne (tgt := 3532) o rfl dL_law_3510 hf (fun hc hf => ?_) (fun hc hf => ?_)
        · refine g_goto (tgt := 3660) o rfl dL_law_3532 ?_
          refine g_iinc o [(4, .int (i + 6)), (6, .int r311.1), (5, .int r308.1), (0, .ref sb), (1, .ref (a 0)), (2, .ref (e 0)), (3, .ref oa)] 6 rfl (inc_6 _) (Nat.le_of_ble_eq_true rfl) rfl dL_law_3660 ?_
          refine g_goto (tgt := 23) o rfl dL_law_3663 ?_
          have hp := lf_c hf hw
          exact g_perm [3, 4, 5, 6, 0] rfl (hp _ _ (by omega) (by omega))
        · refine g_aload_n o 5 rfl rfl dL_law_3513 ?_
          refine g_iconst o ic_0 dL_law_3514 ?_
          refine W_old o dL_law_3515 hf (fun hf => ?_)
          refine g_iload o 0 rfl dL_law_3516 ?_
          refine g_if_eq (tgt := 3525) o rfl dL_law_3518 hf (fun hc hf => ?_) (fun hc hf => ?_)
          · refine g_lconst o lc_0 dL_law_3525 ?_
            refine g_lcmp o dL_law_3526 ?_
            refine g_if_eq (tgt := 3532) o rfl dL_law_3527 hf (fun hc hf => ?_) (fun hc hf => ?_)
            · refine g_goto (tgt := 3660) o rfl dL_law_3532 ?_
              refine g_iinc o [(4, .int (i + 6)), (6, .int r311.1), (5, .int r308.1), (0, .ref sb), (1, .ref (a 0)), (2, .ref (e 0)), (3, .ref oa)] 6 rfl (inc_6 _) (Nat.le_of_ble_eq_true rfl) rfl dL_law_3660 ?_
              refine g_goto (tgt := 23) o rfl dL_law_3663 ?_
              have hp := lf_c hf hw
              exact g_perm [3, 4, 5, 6, 0] rfl (hp _ _ (by omega) (by omega))
            · refine g_iconst o ic_0 dL_law_3530 ?_
              exact (hR _ (lf_x hf hw)).elim
          · refine g_lconst o lc_1 dL_law_3521 ?_
            refine g_goto (tgt := 3526) o rfl dL_law_3522 ?_
            refine g_lcmp o dL_law_3526 ?_
            refine g_if_eq (tgt := 3532) o rfl dL_law_3527 hf (fun hc hf => ?_) (fun hc hf => ?_)
            · refine g_goto (tgt := 3660) o rfl dL_law_3532 ?_
              refine g_iinc o [(4, .int (i + 6)), (6, .int r311.1), (5, .int r308.1), (0, .ref sb), (1, .ref (a 0)), (2, .ref (e 0)), (3, .ref oa)] 6 rfl (inc_6 _) (Nat.le_of_ble_eq_true rfl) rfl dL_law_3660 ?_
              refine g_goto (tgt := 23) o rfl dL_law_3663 ?_
              have hp := lf_c hf hw
              exact g_perm [3, 4, 5, 6, 0] rfl (hp _ _ (by omega) (by omega))
            · refine g_iconst o ic_0 dL_law_3530 ?_
              exact (hR _ (lf_x hf hw)).elim
      · refine g_iconst o ic_0 dL_law_3506 ?_
        exact (hR _ (lf_x hf hw)).elim
set_option maxRecDepth 20000 in
set_option maxHeartbeats 4000000 in
theorem b_law_c51 {x : Cx} (o : Ok x cL_law 7 RL 100 601024 7293034) {a b c e : Nat → Nat} {oa sb LL : Nat} {xs : Nat → Int32} (hs9 : SF x sb LL xs) {mm : Nat} (r : (Int32 × St × St × St × St × (Nat → Int64)) ⊕ Int32) (hR : ∀ t, r = .inr t → False) (i : Int32) (u v w m : St) (f : Nat → Int64) (ww : (Int32 × St × St × St × St × (Nat → Int64)) ⊕ ((Int32 × St × St × St × St × (Nat → Int64)) ⊕ Int32)) (hf : f_law_c51 xs LL i u v w m f = some ww) (hw : (∃ s2, ww = .inl s2 ∧ (fun (s : Int32 × St × St × St × St × (Nat → Int64)) => ∀ k n : Nat, k + 10 * mm ≤ 601024 → n + 60 * mm ≤ 7293034 → G x 7 k n (wLw a s.2.1 b s.2.2.1 c s.2.2.2.1 e s.2.2.2.2.1 oa s.2.2.2.2.2 (cxT x)) [(0, .ref sb), (1, .ref (a 0)), (2, .ref (e 0)), (3, .ref oa), (4, .int s.1)] 23 []) s2) ∨ ww = .inr r) {k n : Nat} (hk : k + 10 * (mm + 1) ≤ 601024) (hn : n + 60 * (mm + 1) ≤ 7293034) : G x 7 k n (wLw a u b v c w e m oa f (cxT x)) [(0, .ref sb), (1, .ref (a 0)), (2, .ref (e 0)), (3, .ref oa), (4, .int i)] 3535 [] := by
  unfold f_law_c51 at hf
  refine g_aload_n o 1 rfl rfl dL_law_3535 ?_
  refine g_aload_n o 0 rfl rfl dL_law_3536 ?_
  refine g_iload o 4 rfl dL_law_3537 ?_
  refine g_iconst o ic_1 dL_law_3539 ?_
  refine g_iadd o dL_law_3540 ?_
  refine g_sld o hs9 dL_law_3541 hf (fun hf => ?_)
  refine g_aload_n o 0 rfl rfl dL_law_3542 ?_
  refine g_iload o 4 rfl dL_law_3543 ?_
  refine g_iconst o ic_2 dL_law_3545 ?_
  refine g_iadd o dL_law_3546 ?_
  refine g_sld o hs9 dL_law_3547 hf (fun hf => ?_)
  refine g_aload_n o 3 rfl rfl dL_law_3548 ?_
  obtain ⟨r316, hr316, hf⟩ := bd_some hf
  refine k_L_takeFlags_W o hr316 m_898 (Nat.le_of_ble_eq_true rfl) (Nat.le_of_ble_eq_true rfl) ⟨by omega, by omega⟩ dL_law_3549 ?_
  refine g_istore o [(5, .int r316.1), (0, .ref sb), (1, .ref (a 0)), (2, .ref (e 0)), (3, .ref oa), (4, .int i)] (Nat.le_of_ble_eq_true rfl) rfl dL_law_3552 ?_
  refine g_aload_n o 3 rfl rfl dL_law_3554 ?_
  refine g_aload_n o 1 rfl rfl dL_law_3555 ?_
  refine g_iload o 5 rfl dL_law_3556 ?_
  refine g_iconst o ic_1 dL_law_3558 ?_
  refine g_iadd o dL_law_3559 ?_
  refine g_sld o hs9 dL_law_3560 hf (fun hf => ?_)
  refine g_aload_n o 1 rfl rfl dL_law_3561 ?_
  refine g_iload o 5 rfl dL_law_3562 ?_
  refine g_iconst o ic_2 dL_law_3564 ?_
  refine g_iadd o dL_law_3565 ?_
  refine g_sld o hs9 dL_law_3566 hf (fun hf => ?_)
  obtain ⟨r317, hr317, hf⟩ := bd_some hf
  refine k_X2_takeFlags_W o hr317 m_1294 (Nat.le_of_ble_eq_true rfl) (Nat.le_of_ble_eq_true rfl) ⟨by omega, by omega⟩ dL_law_3567 ?_
  refine g_istore o [(6, .int r317.1), (5, .int r316.1), (0, .ref sb), (1, .ref (a 0)), (2, .ref (e 0)), (3, .ref oa), (4, .int i)] (Nat.le_of_ble_eq_true rfl) rfl dL_law_3570 ?_
  refine g_aload_n o 4 rfl rfl dL_law_3572 ?_
  obtain ⟨r318, hr318, hf⟩ := bd_some hf
  refine k_X2_thrown_W o hr318 m_984 (Nat.le_of_ble_eq_true rfl) (Nat.le_of_ble_eq_true rfl) ⟨by omega, by omega⟩ dL_law_3573 ?_
  refine g_iload o 1 rfl dL_law_3576 ?_
  refine g_ic_eq (tgt := 3583) o rfl dL_law_3578 hf (fun hc hf => ?_) (fun hc hf => ?_)
  · refine g_iload o 1 rfl dL_law_3583 ?_
    refine g_if_ne (tgt := 3600) o rfl dL_law_3585 hf (fun hc hf => ?_) (fun hc hf => ?_)
    · refine g_goto (tgt := 3660) o rfl dL_law_3600 ?_
      refine g_iinc o [(4, .int (i + 6)), (6, .int r317.1), (5, .int r316.1), (0, .ref sb), (1, .ref (a 0)), (2, .ref (e 0)), (3, .ref oa)] 6 rfl (inc_6 _) (Nat.le_of_ble_eq_true rfl) rfl dL_law_3660 ?_
      refine g_goto (tgt := 23) o rfl dL_law_3663 ?_
      have hp := lf_c hf hw
      exact g_perm [3, 4, 5, 6, 0] rfl (hp _ _ (by omega) (by omega))
    · refine g_aload_n o 5 rfl rfl dL_law_3588 ?_
      refine g_iconst o ic_0 dL_law_3589 ?_
      refine W_old o dL_law_3590 hf (fun hf => ?_)
      refine g_iload o 0 rfl dL_law_3591 ?_
      refine g_i2l o dL_law_3593 ?_
      refine g_lcmp o dL_law_3594 ?_
      refine g_if_eq (tgt := 3600) o rfl dL_law_3595 hf (fun hc hf => ?_) (fun hc hf => ?_)
      · refine g_goto (tgt := 3660) o rfl dL_law_3600 ?_
        refine g_iinc o [(4, .int (i + 6)), (6, .int r317.1), (5, .int r316.1), (0, .ref sb), (1, .ref (a 0)), (2, .ref (e 0)), (3, .ref oa)] 6 rfl (inc_6 _) (Nat.le_of_ble_eq_true rfl) rfl dL_law_3660 ?_
        refine g_goto (tgt := 23) o rfl dL_law_3663 ?_
        have hp := lf_c hf hw
        exact g_perm [3, 4, 5, 6, 0] rfl (hp _ _ (by omega) (by omega))
      · refine g_iconst o ic_0 dL_law_3598 ?_
        exact (hR _ (lf_x hf hw)).elim
  · refine g_iconst o ic_0 dL_law_3581 ?_
    exact (hR _ (lf_x hf hw)).elim
set_option maxRecDepth 20000 in
set_option maxHeartbeats 4000000 in
theorem b_law_c52 {x : Cx} (o : Ok x cL_law 7 RL 100 601024 7293034) {a b c e : Nat → Nat} {oa sb LL : Nat} {xs : Nat → Int32} (hs9 : SF x sb LL xs) {mm : Nat} (r : (Int32 × St × St × St × St × (Nat → Int64)) ⊕ Int32) (hR : ∀ t, r = .inr t → False) (i : Int32) (u v w m : St) (f : Nat → Int64) (ww : (Int32 × St × St × St × St × (Nat → Int64)) ⊕ ((Int32 × St × St × St × St × (Nat → Int64)) ⊕ Int32)) (hf : f_law_c52 xs LL i u v w m f = some ww) (hw : (∃ s2, ww = .inl s2 ∧ (fun (s : Int32 × St × St × St × St × (Nat → Int64)) => ∀ k n : Nat, k + 10 * mm ≤ 601024 → n + 60 * mm ≤ 7293034 → G x 7 k n (wLw a s.2.1 b s.2.2.1 c s.2.2.2.1 e s.2.2.2.2.1 oa s.2.2.2.2.2 (cxT x)) [(0, .ref sb), (1, .ref (a 0)), (2, .ref (e 0)), (3, .ref oa), (4, .int s.1)] 23 []) s2) ∨ ww = .inr r) {k n : Nat} (hk : k + 10 * (mm + 1) ≤ 601024) (hn : n + 60 * (mm + 1) ≤ 7293034) : G x 7 k n (wLw a u b v c w e m oa f (cxT x)) [(0, .ref sb), (1, .ref (a 0)), (2, .ref (e 0)), (3, .ref oa), (4, .int i)] 3603 [] := by
  unfold f_law_c52 at hf
  refine g_aload_n o 1 rfl rfl dL_law_3603 ?_
  obtain ⟨r321, hr321, hf⟩ := bd_some hf
  refine k_X1_saveSnapshot_W o hr321 m_218 (Nat.le_of_ble_eq_true rfl) (Nat.le_of_ble_eq_true rfl) ⟨by omega, by omega⟩ dL_law_3604 ?_
  refine g_aload_n o 2 rfl rfl dL_law_3607 ?_
  obtain ⟨r322, hr322, hf⟩ := bd_some hf
  refine k_X2_saveSnapshot_W o hr322 m_1298 (Nat.le_of_ble_eq_true rfl) (Nat.le_of_ble_eq_true rfl) ⟨by omega, by omega⟩ dL_law_3608 ?_
  refine g_ic_eq (tgt := 3660) o rfl dL_law_3611 hf (fun hc hf => ?_) (fun hc hf => ?_)
  · refine g_iinc o [(4, .int (i + 6)), (0, .ref sb), (1, .ref (a 0)), (2, .ref (e 0)), (3, .ref oa)] 4 rfl (inc_6 _) (Nat.le_of_ble_eq_true rfl) rfl dL_law_3660 ?_
    refine g_goto (tgt := 23) o rfl dL_law_3663 ?_
    have hp := lf_c hf hw
    exact g_perm [1, 2, 3, 4, 0] rfl (hp _ _ (by omega) (by omega))
  · refine g_iconst o ic_0 dL_law_3614 ?_
    exact (hR _ (lf_x hf hw)).elim
set_option maxRecDepth 20000 in
set_option maxHeartbeats 4000000 in
theorem b_law_c53 {x : Cx} (o : Ok x cL_law 7 RL 100 601024 7293034) {a b c e : Nat → Nat} {oa sb LL : Nat} {xs : Nat → Int32} (hs9 : SF x sb LL xs) {mm : Nat} (r : (Int32 × St × St × St × St × (Nat → Int64)) ⊕ Int32) (hR : ∀ t, r = .inr t → False) (i : Int32) (u v w m : St) (f : Nat → Int64) (ww : (Int32 × St × St × St × St × (Nat → Int64)) ⊕ ((Int32 × St × St × St × St × (Nat → Int64)) ⊕ Int32)) (hf : f_law_c53 xs LL i u v w m f = some ww) (hw : (∃ s2, ww = .inl s2 ∧ (fun (s : Int32 × St × St × St × St × (Nat → Int64)) => ∀ k n : Nat, k + 10 * mm ≤ 601024 → n + 60 * mm ≤ 7293034 → G x 7 k n (wLw a s.2.1 b s.2.2.1 c s.2.2.2.1 e s.2.2.2.2.1 oa s.2.2.2.2.2 (cxT x)) [(0, .ref sb), (1, .ref (a 0)), (2, .ref (e 0)), (3, .ref oa), (4, .int s.1)] 23 []) s2) ∨ ww = .inr r) {k n : Nat} (hk : k + 10 * (mm + 1) ≤ 601024) (hn : n + 60 * (mm + 1) ≤ 7293034) : G x 7 k n (wLw a u b v c w e m oa f (cxT x)) [(0, .ref sb), (1, .ref (a 0)), (2, .ref (e 0)), (3, .ref oa), (4, .int i)] 3616 [] := by
  unfold f_law_c53 at hf
  refine g_aload_n o 1 rfl rfl dL_law_3616 ?_
  refine g_aload_n o 3 rfl rfl dL_law_3617 ?_
  obtain ⟨r326, hr326, hf⟩ := bd_some hf
  refine k_L_restoreSnapshot_W o hr326 m_905 (Nat.le_of_ble_eq_true rfl) (Nat.le_of_ble_eq_true rfl) ⟨by omega, by omega⟩ dL_law_3618 ?_
  refine g_istore o [(5, .int r326.1), (0, .ref sb), (1, .ref (a 0)), (2, .ref (e 0)), (3, .ref oa), (4, .int i)] (Nat.le_of_ble_eq_true rfl) rfl dL_law_3621 ?_
  refine g_aload_n o 3 rfl rfl dL_law_3623 ?_
  obtain ⟨r327, hr327, hf⟩ := bd_some hf
  refine k_X2_restoreSnapshot_W o hr327 m_1314 (Nat.le_of_ble_eq_true rfl) (Nat.le_of_ble_eq_true rfl) ⟨by omega, by omega⟩ dL_law_3624 ?_
  refine g_istore o [(6, .int r327.1), (5, .int r326.1), (0, .ref sb), (1, .ref (a 0)), (2, .ref (e 0)), (3, .ref oa), (4, .int i)] (Nat.le_of_ble_eq_true rfl) rfl dL_law_3627 ?_
  refine g_aload_n o 4 rfl rfl dL_law_3629 ?_
  obtain ⟨r328, hr328, hf⟩ := bd_some hf
  refine k_X2_thrown_W o hr328 m_984 (Nat.le_of_ble_eq_true rfl) (Nat.le_of_ble_eq_true rfl) ⟨by omega, by omega⟩ dL_law_3630 ?_
  refine g_iload o 1 rfl dL_law_3633 ?_
  refine g_ic_eq (tgt := 3640) o rfl dL_law_3635 hf (fun hc hf => ?_) (fun hc hf => ?_)
  · refine g_iload o 1 rfl dL_law_3640 ?_
    refine g_if_ne (tgt := 3657) o rfl dL_law_3642 hf (fun hc hf => ?_) (fun hc hf => ?_)
    · refine g_goto (tgt := 3660) o rfl dL_law_3657 ?_
      refine g_iinc o [(4, .int (i + 6)), (6, .int r327.1), (5, .int r326.1), (0, .ref sb), (1, .ref (a 0)), (2, .ref (e 0)), (3, .ref oa)] 6 rfl (inc_6 _) (Nat.le_of_ble_eq_true rfl) rfl dL_law_3660 ?_
      refine g_goto (tgt := 23) o rfl dL_law_3663 ?_
      have hp := lf_c hf hw
      exact g_perm [3, 4, 5, 6, 0] rfl (hp _ _ (by omega) (by omega))
    · refine g_aload_n o 5 rfl rfl dL_law_3645 ?_
      refine g_iconst o ic_0 dL_law_3646 ?_
      refine W_old o dL_law_3647 hf (fun hf => ?_)
      refine g_iload o 0 rfl dL_law_3648 ?_
      refine g_i2l o dL_law_3650 ?_
      refine g_lcmp o dL_law_3651 ?_
      refine g_if_eq (tgt := 3657) o rfl dL_law_3652 hf (fun hc hf => ?_) (fun hc hf => ?_)
      · refine g_goto (tgt := 3660) o rfl dL_law_3657 ?_
        refine g_iinc o [(4, .int (i + 6)), (6, .int r327.1), (5, .int r326.1), (0, .ref sb), (1, .ref (a 0)), (2, .ref (e 0)), (3, .ref oa)] 6 rfl (inc_6 _) (Nat.le_of_ble_eq_true rfl) rfl dL_law_3660 ?_
        refine g_goto (tgt := 23) o rfl dL_law_3663 ?_
        have hp := lf_c hf hw
        exact g_perm [3, 4, 5, 6, 0] rfl (hp _ _ (by omega) (by omega))
      · refine g_iconst o ic_0 dL_law_3655 ?_
        exact (hR _ (lf_x hf hw)).elim
  · refine g_iconst o ic_0 dL_law_3638 ?_
    exact (hR _ (lf_x hf hw)).elim
set_option maxRecDepth 20000 in
set_option maxHeartbeats 4000000 in
theorem b_law_c54 {x : Cx} (o : Ok x cL_law 7 RL 100 601024 7293034) {a b c e : Nat → Nat} {oa sb LL : Nat} {xs : Nat → Int32} (hs9 : SF x sb LL xs) {mm : Nat} (r : (Int32 × St × St × St × St × (Nat → Int64)) ⊕ Int32) (hR : ∀ t, r = .inr t → False) (i : Int32) (u v w m : St) (f : Nat → Int64) (ww : (Int32 × St × St × St × St × (Nat → Int64)) ⊕ ((Int32 × St × St × St × St × (Nat → Int64)) ⊕ Int32)) (hf : f_law_c54 xs LL i u v w m f = some ww) (hw : (∃ s2, ww = .inl s2 ∧ (fun (s : Int32 × St × St × St × St × (Nat → Int64)) => ∀ k n : Nat, k + 10 * mm ≤ 601024 → n + 60 * mm ≤ 7293034 → G x 7 k n (wLw a s.2.1 b s.2.2.1 c s.2.2.2.1 e s.2.2.2.2.1 oa s.2.2.2.2.2 (cxT x)) [(0, .ref sb), (1, .ref (a 0)), (2, .ref (e 0)), (3, .ref oa), (4, .int s.1)] 23 []) s2) ∨ ww = .inr r) {k n : Nat} (hk : k + 10 * (mm + 1) ≤ 601024) (hn : n + 60 * (mm + 1) ≤ 7293034) : G x 7 k n (wLw a u b v c w e m oa f (cxT x)) [(0, .ref sb), (1, .ref (a 0)), (2, .ref (e 0)), (3, .ref oa), (4, .int i)] 3660 [] := by
  unfold f_law_c54 at hf
  refine g_iinc o [(4, .int (i + 6)), (0, .ref sb), (1, .ref (a 0)), (2, .ref (e 0)), (3, .ref oa)] 4 rfl (inc_6 _) (Nat.le_of_ble_eq_true rfl) rfl dL_law_3660 ?_
  refine g_goto (tgt := 23) o rfl dL_law_3663 ?_
  have hp := lf_c hf hw
  exact g_perm [1, 2, 3, 4, 0] rfl (hp _ _ (by omega) (by omega))
