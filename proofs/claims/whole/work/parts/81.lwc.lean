/-! ===== every case of the law ===== -/
theorem law_c0 {xs : Nat → Int32} {LL : Nat} {i : Int32} {u v w m : St} {f : Nat → Int64} (hI : Inv u v w m) (g1 : inb (i + 1) LL = true) (g2 : inb (i + 2) LL = true) (g3 : inb (i + 3) LL = true) (g4 : inb (i + 4) LL = true) (g5 : inb (i + 5) LL = true) : LSt (f_law_c0 xs LL i u v w m f) i := by
  obtain ⟨k, s, f', b, m', h1, h2, h3, h4, h5⟩ := kX2i ne_eIS_eIA (fun k s f => (k, s, f)) f (show KX _ _ _ (fun v' m' => Inv u v' w m') from addRelation_j hI (xs (i + 1).toNatClampNeg))
  have h1' : f_L_addRelation u v w f (xs (i + 1).toNatClampNeg) = some (k, s, f') := h1
  unfold f_law_c0
  have h2' : f_X2_addRelation m (xs (i + 1).toNatClampNeg) = some (b, m') := h2
  try simp only [gd_t g1, gd_t g2, gd_t g3, gd_t g4, gd_t g5]
  rw [h1', bd_s, h2', bd_s]
  exact ⟨u, s, w, m', f', tl_i h3 h4, h5⟩
theorem law_c1 {xs : Nat → Int32} {LL : Nat} {i : Int32} {u v w m : St} {f : Nat → Int64} (hI : Inv u v w m) (g1 : inb (i + 1) LL = true) (g2 : inb (i + 2) LL = true) (g3 : inb (i + 3) LL = true) (g4 : inb (i + 4) LL = true) (g5 : inb (i + 5) LL = true) : LSt (f_law_c1 xs LL i u v w m f) i := by
  obtain ⟨k, s, f', b, m', h1, h2, h3, h4, h5⟩ := kX2i ne_eIS_eIA (fun k s f => (k, s, f)) f (show KX _ _ _ (fun v' m' => Inv u v' w m') from addClause_j hI (xs (i + 1).toNatClampNeg) (xs (i + 2).toNatClampNeg))
  have h1' : f_L_addClause u v w f (xs (i + 1).toNatClampNeg) (xs (i + 2).toNatClampNeg) = some (k, s, f') := h1
  unfold f_law_c1
  have h2' : f_X2_addClause m (xs (i + 1).toNatClampNeg) (xs (i + 2).toNatClampNeg) = some (b, m') := h2
  try simp only [gd_t g1, gd_t g2, gd_t g3, gd_t g4, gd_t g5]
  rw [h1', bd_s, h2', bd_s]
  exact ⟨u, s, w, m', f', tl_i h3 h4, h5⟩
theorem law_c2 {xs : Nat → Int32} {LL : Nat} {i : Int32} {u v w m : St} {f : Nat → Int64} (hI : Inv u v w m) (g1 : inb (i + 1) LL = true) (g2 : inb (i + 2) LL = true) (g3 : inb (i + 3) LL = true) (g4 : inb (i + 4) LL = true) (g5 : inb (i + 5) LL = true) : LSt (f_law_c2 xs LL i u v w m f) i := by
  obtain ⟨k, s, f', b, m', h1, h2, h3, h4, h5⟩ := kX2i ne_eIS_eIA (fun k s f => (k, s, f)) f (show KX _ _ _ (fun v' m' => Inv u v' w m') from addParity_j hI (xs (i + 1).toNatClampNeg) (xs (i + 2).toNatClampNeg))
  have h1' : f_L_addParity u v w f (xs (i + 1).toNatClampNeg) (xs (i + 2).toNatClampNeg) = some (k, s, f') := h1
  unfold f_law_c2
  have h2' : f_X2_addParity m (xs (i + 1).toNatClampNeg) (xs (i + 2).toNatClampNeg) = some (b, m') := h2
  try simp only [gd_t g1, gd_t g2, gd_t g3, gd_t g4, gd_t g5]
  rw [h1', bd_s, h2', bd_s]
  exact ⟨u, s, w, m', f', tl_i h3 h4, h5⟩
theorem law_c3 {xs : Nat → Int32} {LL : Nat} {i : Int32} {u v w m : St} {f : Nat → Int64} (hI : Inv u v w m) (g1 : inb (i + 1) LL = true) (g2 : inb (i + 2) LL = true) (g3 : inb (i + 3) LL = true) (g4 : inb (i + 4) LL = true) (g5 : inb (i + 5) LL = true) : LSt (f_law_c3 xs LL i u v w m f) i := by
  obtain ⟨k, s, f', b, m', h1, h2, h3, h4, h5⟩ := kX2b ne_eIA_eIO (fun k s f => (k, s, f)) f (show KX _ _ _ (fun v' m' => Inv u v' w m') from addTuple_j hI (xs (i + 1).toNatClampNeg) (xs (i + 2).toNatClampNeg))
  have h1' : f_L_addTuple u v w f (xs (i + 1).toNatClampNeg) (xs (i + 2).toNatClampNeg) = some (k, s, f') := h1
  unfold f_law_c3
  have h2' : f_X2_addTuple m (xs (i + 1).toNatClampNeg) (xs (i + 2).toNatClampNeg) = some (b, m') := h2
  try simp only [gd_t g1, gd_t g2, gd_t g3, gd_t g4, gd_t g5]
  rw [h1', bd_s, h2', bd_s]
  exact ⟨u, s, w, m', f', tl_b h3 h4, h5⟩
theorem law_c4 {xs : Nat → Int32} {LL : Nat} {i : Int32} {u v w m : St} {f : Nat → Int64} (hI : Inv u v w m) (g1 : inb (i + 1) LL = true) (g2 : inb (i + 2) LL = true) (g3 : inb (i + 3) LL = true) (g4 : inb (i + 4) LL = true) (g5 : inb (i + 5) LL = true) : LSt (f_law_c4 xs LL i u v w m f) i := by
  obtain ⟨k, s, f', b, m', h1, h2, h3, h4, h5⟩ := kX2b ne_eIA_eIO (fun k s f => (k, s, f)) f (show KX _ _ _ (fun v' m' => Inv u v' w m') from removeTuple_j hI (xs (i + 1).toNatClampNeg) (xs (i + 2).toNatClampNeg))
  have h1' : f_L_removeTuple u v w f (xs (i + 1).toNatClampNeg) (xs (i + 2).toNatClampNeg) = some (k, s, f') := h1
  unfold f_law_c4
  have h2' : f_X2_removeTuple m (xs (i + 1).toNatClampNeg) (xs (i + 2).toNatClampNeg) = some (b, m') := h2
  try simp only [gd_t g1, gd_t g2, gd_t g3, gd_t g4, gd_t g5]
  rw [h1', bd_s, h2', bd_s]
  exact ⟨u, s, w, m', f', tl_b h3 h4, h5⟩
theorem law_c5 {xs : Nat → Int32} {LL : Nat} {i : Int32} {u v w m : St} {f : Nat → Int64} (hI : Inv u v w m) (g1 : inb (i + 1) LL = true) (g2 : inb (i + 2) LL = true) (g3 : inb (i + 3) LL = true) (g4 : inb (i + 4) LL = true) (g5 : inb (i + 5) LL = true) : LSt (f_law_c5 xs LL i u v w m f) i := by
  obtain ⟨k, f', b, m', h1, h2, h3, h4, h5⟩ := kZ2b ne_eIA_eIO (fun k f => (k, f)) f (show KZ _ _ _ (fun m' => Inv u v w m') from contains_j hI (xs (i + 1).toNatClampNeg) (xs (i + 2).toNatClampNeg))
  have h1' : f_L_contains u v w f (xs (i + 1).toNatClampNeg) (xs (i + 2).toNatClampNeg) = some (k, f') := h1
  unfold f_law_c5
  have h2' : f_X2_contains m (xs (i + 1).toNatClampNeg) (xs (i + 2).toNatClampNeg) = some (b, m') := h2
  try simp only [gd_t g1, gd_t g2, gd_t g3, gd_t g4, gd_t g5]
  rw [h1', bd_s, h2', bd_s]
  exact ⟨u, v, w, m', f', tl_b h3 h4, h5⟩
theorem law_c6 {xs : Nat → Int32} {LL : Nat} {i : Int32} {u v w m : St} {f : Nat → Int64} (hI : Inv u v w m) (g1 : inb (i + 1) LL = true) (g2 : inb (i + 2) LL = true) (g3 : inb (i + 3) LL = true) (g4 : inb (i + 4) LL = true) (g5 : inb (i + 5) LL = true) : LSt (f_law_c6 xs LL i u v w m f) i := by
  obtain ⟨k, f', b, m', h1, h2, h3, h4, h5⟩ := kZ1i  (fun k f => (k, f)) f (show KZ _ _ _ (fun m' => Inv u v w m') from tupleCount_j hI (xs (i + 1).toNatClampNeg))
  have h1' : f_L_tupleCount u v w f (xs (i + 1).toNatClampNeg) = some (k, f') := h1
  unfold f_law_c6
  have h2' : f_X2_tupleCount m (xs (i + 1).toNatClampNeg) = some (b, m') := h2
  try simp only [gd_t g1, gd_t g2, gd_t g3, gd_t g4, gd_t g5]
  rw [h1', bd_s, h2', bd_s]
  exact ⟨u, v, w, m', f', tl_i h3 h4, h5⟩
theorem law_c7 {xs : Nat → Int32} {LL : Nat} {i : Int32} {u v w m : St} {f : Nat → Int64} (hI : Inv u v w m) (g1 : inb (i + 1) LL = true) (g2 : inb (i + 2) LL = true) (g3 : inb (i + 3) LL = true) (g4 : inb (i + 4) LL = true) (g5 : inb (i + 5) LL = true) : LSt (f_law_c7 xs LL i u v w m f) i := by
  obtain ⟨k, f', b, m', h1, h2, h3, h4, h5⟩ := kZ1i  (fun k f => (k, f)) f (show KZ _ _ _ (fun m' => Inv u v w m') from arity_j hI (xs (i + 1).toNatClampNeg))
  have h1' : f_L_arity u v w f (xs (i + 1).toNatClampNeg) = some (k, f') := h1
  unfold f_law_c7
  have h2' : f_X2_arity m (xs (i + 1).toNatClampNeg) = some (b, m') := h2
  try simp only [gd_t g1, gd_t g2, gd_t g3, gd_t g4, gd_t g5]
  rw [h1', bd_s, h2', bd_s]
  exact ⟨u, v, w, m', f', tl_i h3 h4, h5⟩
theorem law_c8 {xs : Nat → Int32} {LL : Nat} {i : Int32} {u v w m : St} {f : Nat → Int64} (hI : Inv u v w m) (g1 : inb (i + 1) LL = true) (g2 : inb (i + 2) LL = true) (g3 : inb (i + 3) LL = true) (g4 : inb (i + 4) LL = true) (g5 : inb (i + 5) LL = true) : LSt (f_law_c8 xs LL i u v w m f) i := by
  obtain ⟨b, m', h1, h2, h3, h4⟩ := relationCount_j hI
  unfold f_law_c8
  rw [h1, bd_s, h2, bd_s, if_pos rfl]
  exact ⟨u, v, w, m', f, rfl, h4⟩
theorem law_c9 {xs : Nat → Int32} {LL : Nat} {i : Int32} {u v w m : St} {f : Nat → Int64} (hI : Inv u v w m) (g1 : inb (i + 1) LL = true) (g2 : inb (i + 2) LL = true) (g3 : inb (i + 3) LL = true) (g4 : inb (i + 4) LL = true) (g5 : inb (i + 5) LL = true) : LSt (f_law_c9 xs LL i u v w m f) i := by
  obtain ⟨k, f', b, m', h1, h2, h3, h4, h5⟩ := kZ1b  (fun k f => (k, f)) f (show KZ _ _ _ (fun m' => Inv u v w m') from areEqual_j hI (xs (i + 1).toNatClampNeg) (xs (i + 2).toNatClampNeg))
  have h1' : f_L_areEqual u v w f (xs (i + 1).toNatClampNeg) (xs (i + 2).toNatClampNeg) = some (k, f') := h1
  unfold f_law_c9
  have h2' : f_X2_areEqual m (xs (i + 1).toNatClampNeg) (xs (i + 2).toNatClampNeg) = some (b, m') := h2
  try simp only [gd_t g1, gd_t g2, gd_t g3, gd_t g4, gd_t g5]
  rw [h1', bd_s, h2', bd_s]
  exact ⟨u, v, w, m', f', tl_b h3 h4, h5⟩
theorem law_c10 {xs : Nat → Int32} {LL : Nat} {i : Int32} {u v w m : St} {f : Nat → Int64} (hI : Inv u v w m) (g1 : inb (i + 1) LL = true) (g2 : inb (i + 2) LL = true) (g3 : inb (i + 3) LL = true) (g4 : inb (i + 4) LL = true) (g5 : inb (i + 5) LL = true) : LSt (f_law_c10 xs LL i u v w m f) i := by
  obtain ⟨b, v', m', h1, h2, h3, h4⟩ := clear_j hI
  unfold f_law_c10
  rw [h1, bd_s, h2, bd_s, if_pos rfl]
  exact ⟨u, v', w, m', f, rfl, h4⟩
theorem law_c11 {xs : Nat → Int32} {LL : Nat} {i : Int32} {u v w m : St} {f : Nat → Int64} (hI : Inv u v w m) (g1 : inb (i + 1) LL = true) (g2 : inb (i + 2) LL = true) (g3 : inb (i + 3) LL = true) (g4 : inb (i + 4) LL = true) (g5 : inb (i + 5) LL = true) : LSt (f_law_c11 xs LL i u v w m f) i := by
  obtain ⟨k, s, f', b, m', h1, h2, h3, h4, h5⟩ := kX2i ne_eIS_eIO (fun k s f => (k, s, f)) f (show KX _ _ _ (fun v' m' => Inv u v' w m') from addComplement_j hI (xs (i + 1).toNatClampNeg))
  have h1' : f_L_addComplement u v w f (xs (i + 1).toNatClampNeg) = some (k, s, f') := h1
  unfold f_law_c11
  have h2' : f_X2_addComplement m (xs (i + 1).toNatClampNeg) = some (b, m') := h2
  try simp only [gd_t g1, gd_t g2, gd_t g3, gd_t g4, gd_t g5]
  rw [h1', bd_s, h2', bd_s]
  exact ⟨u, s, w, m', f', tl_i h3 h4, h5⟩
theorem law_c12 {xs : Nat → Int32} {LL : Nat} {i : Int32} {u v w m : St} {f : Nat → Int64} (hI : Inv u v w m) (g1 : inb (i + 1) LL = true) (g2 : inb (i + 2) LL = true) (g3 : inb (i + 3) LL = true) (g4 : inb (i + 4) LL = true) (g5 : inb (i + 5) LL = true) : LSt (f_law_c12 xs LL i u v w m f) i := by
  obtain ⟨k, s, f', b, m', h1, h2, h3, h4, h5⟩ := kX3i ne_eIA_eIO ne_eIS_eIO ne_eIS_eIA (fun k s f => (k, s, f)) f (show KX _ _ _ (fun v' m' => Inv u v' w m') from addIntersection_j hI (xs (i + 1).toNatClampNeg) (xs (i + 2).toNatClampNeg))
  have h1' : f_L_addIntersection u v w f (xs (i + 1).toNatClampNeg) (xs (i + 2).toNatClampNeg) = some (k, s, f') := h1
  unfold f_law_c12
  have h2' : f_X2_addIntersection m (xs (i + 1).toNatClampNeg) (xs (i + 2).toNatClampNeg) = some (b, m') := h2
  try simp only [gd_t g1, gd_t g2, gd_t g3, gd_t g4, gd_t g5]
  rw [h1', bd_s, h2', bd_s]
  exact ⟨u, s, w, m', f', tl_i h3 h4, h5⟩
theorem law_c13 {xs : Nat → Int32} {LL : Nat} {i : Int32} {u v w m : St} {f : Nat → Int64} (hI : Inv u v w m) (g1 : inb (i + 1) LL = true) (g2 : inb (i + 2) LL = true) (g3 : inb (i + 3) LL = true) (g4 : inb (i + 4) LL = true) (g5 : inb (i + 5) LL = true) : LSt (f_law_c13 xs LL i u v w m f) i := by
  obtain ⟨k, s, f', b, m', h1, h2, h3, h4, h5⟩ := kX3i ne_eIA_eIO ne_eIS_eIO ne_eIS_eIA (fun k s f => (k, s, f)) f (show KX _ _ _ (fun v' m' => Inv u v' w m') from addProjection_j hI (xs (i + 1).toNatClampNeg) (xs (i + 2).toNatClampNeg))
  have h1' : f_L_addProjection u v w f (xs (i + 1).toNatClampNeg) (xs (i + 2).toNatClampNeg) = some (k, s, f') := h1
  unfold f_law_c13
  have h2' : f_X2_addProjection m (xs (i + 1).toNatClampNeg) (xs (i + 2).toNatClampNeg) = some (b, m') := h2
  try simp only [gd_t g1, gd_t g2, gd_t g3, gd_t g4, gd_t g5]
  rw [h1', bd_s, h2', bd_s]
  exact ⟨u, s, w, m', f', tl_i h3 h4, h5⟩
theorem law_c14 {xs : Nat → Int32} {LL : Nat} {i : Int32} {u v w m : St} {f : Nat → Int64} (hI : Inv u v w m) (g1 : inb (i + 1) LL = true) (g2 : inb (i + 2) LL = true) (g3 : inb (i + 3) LL = true) (g4 : inb (i + 4) LL = true) (g5 : inb (i + 5) LL = true) : LSt (f_law_c14 xs LL i u v w m f) i := by
  obtain ⟨k, s, f', b, m', h1, h2, h3, h4, h5⟩ := kX2i ne_eIS_eIO (fun k s f => (k, s, f)) f (show KX _ _ _ (fun v' m' => Inv u v' w m') from addExchanged_j hI (xs (i + 1).toNatClampNeg) (xs (i + 2).toNatClampNeg) (xs (i + 3).toNatClampNeg))
  have h1' : f_L_addExchanged u v w f (xs (i + 1).toNatClampNeg) (xs (i + 2).toNatClampNeg) (xs (i + 3).toNatClampNeg) = some (k, s, f') := h1
  unfold f_law_c14
  have h2' : f_X2_addExchanged m (xs (i + 1).toNatClampNeg) (xs (i + 2).toNatClampNeg) (xs (i + 3).toNatClampNeg) = some (b, m') := h2
  try simp only [gd_t g1, gd_t g2, gd_t g3, gd_t g4, gd_t g5]
  rw [h1', bd_s, h2', bd_s]
  exact ⟨u, s, w, m', f', tl_i h3 h4, h5⟩
theorem law_c15 {xs : Nat → Int32} {LL : Nat} {i : Int32} {u v w m : St} {f : Nat → Int64} (hI : Inv u v w m) (g1 : inb (i + 1) LL = true) (g2 : inb (i + 2) LL = true) (g3 : inb (i + 3) LL = true) (g4 : inb (i + 4) LL = true) (g5 : inb (i + 5) LL = true) : LSt (f_law_c15 xs LL i u v w m f) i := by
  obtain ⟨k, f', b, m', h1, h2, h3, h4, h5⟩ := kZ1i  (fun k f => (k, f)) f (show KZ _ _ _ (fun m' => Inv u v w m') from apply_j hI (xs (i + 1).toNatClampNeg) (xs (i + 2).toNatClampNeg) (xs (i + 3).toNatClampNeg) (xs (i + 4).toNatClampNeg) (xs (i + 5).toNatClampNeg))
  have h1' : f_L_apply u v w f (xs (i + 1).toNatClampNeg) (xs (i + 2).toNatClampNeg) (xs (i + 3).toNatClampNeg) (xs (i + 4).toNatClampNeg) (xs (i + 5).toNatClampNeg) = some (k, f') := h1
  unfold f_law_c15
  have h2' : f_X2_apply m (xs (i + 1).toNatClampNeg) (xs (i + 2).toNatClampNeg) (xs (i + 3).toNatClampNeg) (xs (i + 4).toNatClampNeg) (xs (i + 5).toNatClampNeg) = some (b, m') := h2
  try simp only [gd_t g1, gd_t g2, gd_t g3, gd_t g4, gd_t g5]
  rw [h1', bd_s, h2', bd_s]
  exact ⟨u, v, w, m', f', tl_i h3 h4, h5⟩
theorem law_c16 {xs : Nat → Int32} {LL : Nat} {i : Int32} {u v w m : St} {f : Nat → Int64} (hI : Inv u v w m) (g1 : inb (i + 1) LL = true) (g2 : inb (i + 2) LL = true) (g3 : inb (i + 3) LL = true) (g4 : inb (i + 4) LL = true) (g5 : inb (i + 5) LL = true) : LSt (f_law_c16 xs LL i u v w m f) i := by
  obtain ⟨k, f', b, m', h1, h2, h3, h4, h5⟩ := kZ2b ne_eIO_eIA (fun k f => (k, f)) f (show KZ _ _ _ (fun m' => Inv u v w m') from preserves_j hI (xs (i + 1).toNatClampNeg) (xs (i + 2).toNatClampNeg) (xs (i + 3).toNatClampNeg))
  have h1' : f_L_preserves u v w f (xs (i + 1).toNatClampNeg) (xs (i + 2).toNatClampNeg) (xs (i + 3).toNatClampNeg) = some (k, f') := h1
  unfold f_law_c16
  have h2' : f_X2_preserves m (xs (i + 1).toNatClampNeg) (xs (i + 2).toNatClampNeg) (xs (i + 3).toNatClampNeg) = some (b, m') := h2
  try simp only [gd_t g1, gd_t g2, gd_t g3, gd_t g4, gd_t g5]
  rw [h1', bd_s, h2', bd_s]
  exact ⟨u, v, w, m', f', tl_b h3 h4, h5⟩
theorem law_c17 {xs : Nat → Int32} {LL : Nat} {i : Int32} {u v w m : St} {f : Nat → Int64} (hI : Inv u v w m) (g1 : inb (i + 1) LL = true) (g2 : inb (i + 2) LL = true) (g3 : inb (i + 3) LL = true) (g4 : inb (i + 4) LL = true) (g5 : inb (i + 5) LL = true) : LSt (f_law_c17 xs LL i u v w m f) i := by
  obtain ⟨k, f', b, m', h1, h2, h3, h4, h5⟩ := kZ1b  (fun k f => (k, f)) f (show KZ _ _ _ (fun m' => Inv u v w m') from isPolymorphism_j hI (xs (i + 1).toNatClampNeg) (xs (i + 2).toNatClampNeg))
  have h1' : f_L_isPolymorphism u v w f (xs (i + 1).toNatClampNeg) (xs (i + 2).toNatClampNeg) = some (k, f') := h1
  unfold f_law_c17
  have h2' : f_X2_isPolymorphism m (xs (i + 1).toNatClampNeg) (xs (i + 2).toNatClampNeg) = some (b, m') := h2
  try simp only [gd_t g1, gd_t g2, gd_t g3, gd_t g4, gd_t g5]
  rw [h1', bd_s, h2', bd_s]
  exact ⟨u, v, w, m', f', tl_b h3 h4, h5⟩
theorem law_c18 {xs : Nat → Int32} {LL : Nat} {i : Int32} {u v w m : St} {f : Nat → Int64} (hI : Inv u v w m) (g1 : inb (i + 1) LL = true) (g2 : inb (i + 2) LL = true) (g3 : inb (i + 3) LL = true) (g4 : inb (i + 4) LL = true) (g5 : inb (i + 5) LL = true) : LSt (f_law_c18 xs LL i u v w m f) i := by
  obtain ⟨k, f', b, m', h1, h2, h3, h4, h5⟩ := kZ1i  (fun k f => (k, f)) f (show KZ _ _ _ (fun m' => Inv u v w m') from polymorphismCount_j hI (xs (i + 1).toNatClampNeg))
  have h1' : f_L_polymorphismCount u v w f (xs (i + 1).toNatClampNeg) = some (k, f') := h1
  unfold f_law_c18
  have h2' : f_X2_polymorphismCount m (xs (i + 1).toNatClampNeg) = some (b, m') := h2
  try simp only [gd_t g1, gd_t g2, gd_t g3, gd_t g4, gd_t g5]
  rw [h1', bd_s, h2', bd_s]
  exact ⟨u, v, w, m', f', tl_i h3 h4, h5⟩
theorem law_c19 {xs : Nat → Int32} {LL : Nat} {i : Int32} {u v w m : St} {f : Nat → Int64} (hI : Inv u v w m) (g1 : inb (i + 1) LL = true) (g2 : inb (i + 2) LL = true) (g3 : inb (i + 3) LL = true) (g4 : inb (i + 4) LL = true) (g5 : inb (i + 5) LL = true) : LSt (f_law_c19 xs LL i u v w m f) i := by
  obtain ⟨k, f', b, m', h1, h2, h3, h4, h5⟩ := kZ2i ne_eNS_eIA (fun k f => (k, f)) f (show KZ _ _ _ (fun m' => Inv u v w m') from polymorphism_j hI (xs (i + 1).toNatClampNeg) (xs (i + 2).toNatClampNeg))
  have h1' : f_L_polymorphism u v w f (xs (i + 1).toNatClampNeg) (xs (i + 2).toNatClampNeg) = some (k, f') := h1
  unfold f_law_c19
  have h2' : f_X2_polymorphism m (xs (i + 1).toNatClampNeg) (xs (i + 2).toNatClampNeg) = some (b, m') := h2
  try simp only [gd_t g1, gd_t g2, gd_t g3, gd_t g4, gd_t g5]
  rw [h1', bd_s, h2', bd_s]
  exact ⟨u, v, w, m', f', tl_i h3 h4, h5⟩
theorem law_c20 {xs : Nat → Int32} {LL : Nat} {i : Int32} {u v w m : St} {f : Nat → Int64} (hI : Inv u v w m) (g1 : inb (i + 1) LL = true) (g2 : inb (i + 2) LL = true) (g3 : inb (i + 3) LL = true) (g4 : inb (i + 4) LL = true) (g5 : inb (i + 5) LL = true) : LSt (f_law_c20 xs LL i u v w m f) i := by
  obtain ⟨k, f', b, m', h1, h2, h3, h4, h5⟩ := kZ1b  (fun k f => (k, f)) f (show KZ _ _ _ (fun m' => Inv u v w m') from isIdempotent_j hI (xs (i + 1).toNatClampNeg) (xs (i + 2).toNatClampNeg))
  have h1' : f_L_isIdempotent u v w f (xs (i + 1).toNatClampNeg) (xs (i + 2).toNatClampNeg) = some (k, f') := h1
  unfold f_law_c20
  have h2' : f_X2_isIdempotent m (xs (i + 1).toNatClampNeg) (xs (i + 2).toNatClampNeg) = some (b, m') := h2
  try simp only [gd_t g1, gd_t g2, gd_t g3, gd_t g4, gd_t g5]
  rw [h1', bd_s, h2', bd_s]
  exact ⟨u, v, w, m', f', tl_b h3 h4, h5⟩
theorem law_c21 {xs : Nat → Int32} {LL : Nat} {i : Int32} {u v w m : St} {f : Nat → Int64} (hI : Inv u v w m) (g1 : inb (i + 1) LL = true) (g2 : inb (i + 2) LL = true) (g3 : inb (i + 3) LL = true) (g4 : inb (i + 4) LL = true) (g5 : inb (i + 5) LL = true) : LSt (f_law_c21 xs LL i u v w m f) i := by
  obtain ⟨k, f', b, m', h1, h2, h3, h4, h5⟩ := kZ1b  (fun k f => (k, f)) f (show KZ _ _ _ (fun m' => Inv u v w m') from isMonotone_j hI (xs (i + 1).toNatClampNeg) (xs (i + 2).toNatClampNeg))
  have h1' : f_L_isMonotone u v w f (xs (i + 1).toNatClampNeg) (xs (i + 2).toNatClampNeg) = some (k, f') := h1
  unfold f_law_c21
  have h2' : f_X2_isMonotone m (xs (i + 1).toNatClampNeg) (xs (i + 2).toNatClampNeg) = some (b, m') := h2
  try simp only [gd_t g1, gd_t g2, gd_t g3, gd_t g4, gd_t g5]
  rw [h1', bd_s, h2', bd_s]
  exact ⟨u, v, w, m', f', tl_b h3 h4, h5⟩
theorem law_c22 {xs : Nat → Int32} {LL : Nat} {i : Int32} {u v w m : St} {f : Nat → Int64} (hI : Inv u v w m) (g1 : inb (i + 1) LL = true) (g2 : inb (i + 2) LL = true) (g3 : inb (i + 3) LL = true) (g4 : inb (i + 4) LL = true) (g5 : inb (i + 5) LL = true) : LSt (f_law_c22 xs LL i u v w m f) i := by
  obtain ⟨k, f', b, m', h1, h2, h3, h4, h5⟩ := kZ2i ne_eNS_eIA (fun k f => (k, f)) f (show KZ _ _ _ (fun m' => Inv u v w m') from projectedArgument_j hI (xs (i + 1).toNatClampNeg) (xs (i + 2).toNatClampNeg))
  have h1' : f_L_projectedArgument u v w f (xs (i + 1).toNatClampNeg) (xs (i + 2).toNatClampNeg) = some (k, f') := h1
  unfold f_law_c22
  have h2' : f_X2_projectedArgument m (xs (i + 1).toNatClampNeg) (xs (i + 2).toNatClampNeg) = some (b, m') := h2
  try simp only [gd_t g1, gd_t g2, gd_t g3, gd_t g4, gd_t g5]
  rw [h1', bd_s, h2', bd_s]
  exact ⟨u, v, w, m', f', tl_i h3 h4, h5⟩
theorem law_c23 {xs : Nat → Int32} {LL : Nat} {i : Int32} {u v w m : St} {f : Nat → Int64} (hI : Inv u v w m) (g1 : inb (i + 1) LL = true) (g2 : inb (i + 2) LL = true) (g3 : inb (i + 3) LL = true) (g4 : inb (i + 4) LL = true) (g5 : inb (i + 5) LL = true) : LSt (f_law_c23 xs LL i u v w m f) i := by
  obtain ⟨k, s, f', b, m', h1, h2, h3, h4, h5⟩ := kX2i ne_eIA_eIO (fun k s f => (k, s, f)) f (show KX _ _ _ (fun v' m' => Inv u v' w m') from close_j hI (xs (i + 1).toNatClampNeg) (xs (i + 2).toNatClampNeg) (xs (i + 3).toNatClampNeg))
  have h1' : f_L_close u v w f (xs (i + 1).toNatClampNeg) (xs (i + 2).toNatClampNeg) (xs (i + 3).toNatClampNeg) = some (k, s, f') := h1
  unfold f_law_c23
  have h2' : f_X2_close m (xs (i + 1).toNatClampNeg) (xs (i + 2).toNatClampNeg) (xs (i + 3).toNatClampNeg) = some (b, m') := h2
  try simp only [gd_t g1, gd_t g2, gd_t g3, gd_t g4, gd_t g5]
  rw [h1', bd_s, h2', bd_s]
  exact ⟨u, s, w, m', f', tl_i h3 h4, h5⟩
theorem law_c24 {xs : Nat → Int32} {LL : Nat} {i : Int32} {u v w m : St} {f : Nat → Int64} (hI : Inv u v w m) (g1 : inb (i + 1) LL = true) (g2 : inb (i + 2) LL = true) (g3 : inb (i + 3) LL = true) (g4 : inb (i + 4) LL = true) (g5 : inb (i + 5) LL = true) : LSt (f_law_c24 xs LL i u v w m f) i := by
  obtain ⟨k, f', b, m', h1, h2, h3, h4, h5⟩ := kZ1i  (fun k f => (k, f)) f (show KZ _ _ _ (fun m' => Inv u v w m') from dual_j hI (xs (i + 1).toNatClampNeg) (xs (i + 2).toNatClampNeg))
  have h1' : f_L_dual u v w f (xs (i + 1).toNatClampNeg) (xs (i + 2).toNatClampNeg) = some (k, f') := h1
  unfold f_law_c24
  have h2' : f_X2_dual m (xs (i + 1).toNatClampNeg) (xs (i + 2).toNatClampNeg) = some (b, m') := h2
  try simp only [gd_t g1, gd_t g2, gd_t g3, gd_t g4, gd_t g5]
  rw [h1', bd_s, h2', bd_s]
  exact ⟨u, v, w, m', f', tl_i h3 h4, h5⟩
theorem law_c25 {xs : Nat → Int32} {LL : Nat} {i : Int32} {u v w m : St} {f : Nat → Int64} (hI : Inv u v w m) (g1 : inb (i + 1) LL = true) (g2 : inb (i + 2) LL = true) (g3 : inb (i + 3) LL = true) (g4 : inb (i + 4) LL = true) (g5 : inb (i + 5) LL = true) : LSt (f_law_c25 xs LL i u v w m f) i := by
  obtain ⟨k, f', b, m', h1, h2, h3, h4, h5⟩ := kZ2b ne_eIO_eIA (fun k f => (k, f)) f (show KZ _ _ _ (fun m' => Inv u v w m') from dependsOn_j hI (xs (i + 1).toNatClampNeg) (xs (i + 2).toNatClampNeg) (xs (i + 3).toNatClampNeg))
  have h1' : f_L_dependsOn u v w f (xs (i + 1).toNatClampNeg) (xs (i + 2).toNatClampNeg) (xs (i + 3).toNatClampNeg) = some (k, f') := h1
  unfold f_law_c25
  have h2' : f_X2_dependsOn m (xs (i + 1).toNatClampNeg) (xs (i + 2).toNatClampNeg) (xs (i + 3).toNatClampNeg) = some (b, m') := h2
  try simp only [gd_t g1, gd_t g2, gd_t g3, gd_t g4, gd_t g5]
  rw [h1', bd_s, h2', bd_s]
  exact ⟨u, v, w, m', f', tl_b h3 h4, h5⟩
theorem law_c26 {xs : Nat → Int32} {LL : Nat} {i : Int32} {u v w m : St} {f : Nat → Int64} (hI : Inv u v w m) (g1 : inb (i + 1) LL = true) (g2 : inb (i + 2) LL = true) (g3 : inb (i + 3) LL = true) (g4 : inb (i + 4) LL = true) (g5 : inb (i + 5) LL = true) : LSt (f_law_c26 xs LL i u v w m f) i := by
  obtain ⟨k, f', b, m', h1, h2, h3, h4, h5⟩ := kZ1i  (fun k f => (k, f)) f (show KZ _ _ _ (fun m' => Inv u v w m') from compose_j hI (xs (i + 1).toNatClampNeg) (xs (i + 2).toNatClampNeg) (xs (i + 3).toNatClampNeg))
  have h1' : f_L_compose u v w f (xs (i + 1).toNatClampNeg) (xs (i + 2).toNatClampNeg) (xs (i + 3).toNatClampNeg) = some (k, f') := h1
  unfold f_law_c26
  have h2' : f_X2_compose m (xs (i + 1).toNatClampNeg) (xs (i + 2).toNatClampNeg) (xs (i + 3).toNatClampNeg) = some (b, m') := h2
  try simp only [gd_t g1, gd_t g2, gd_t g3, gd_t g4, gd_t g5]
  rw [h1', bd_s, h2', bd_s]
  exact ⟨u, v, w, m', f', tl_i h3 h4, h5⟩
theorem law_c27 {xs : Nat → Int32} {LL : Nat} {i : Int32} {u v w m : St} {f : Nat → Int64} (hI : Inv u v w m) (g1 : inb (i + 1) LL = true) (g2 : inb (i + 2) LL = true) (g3 : inb (i + 3) LL = true) (g4 : inb (i + 4) LL = true) (g5 : inb (i + 5) LL = true) : LSt (f_law_c27 xs LL i u v w m f) i := by
  obtain ⟨k, f', b, m', h1, h2, h3, h4, h5⟩ := kZ2b ne_eIA_eIO (fun k f => (k, f)) f (show KZ _ _ _ (fun m' => Inv u v w m') from relationHasKind_j hI (xs (i + 1).toNatClampNeg) (xs (i + 2).toNatClampNeg))
  have h1' : f_L_relationHasKind u v w f (xs (i + 1).toNatClampNeg) (xs (i + 2).toNatClampNeg) = some (k, f') := h1
  unfold f_law_c27
  have h2' : f_X2_relationHasKind m (xs (i + 1).toNatClampNeg) (xs (i + 2).toNatClampNeg) = some (b, m') := h2
  try simp only [gd_t g1, gd_t g2, gd_t g3, gd_t g4, gd_t g5]
  rw [h1', bd_s, h2', bd_s]
  exact ⟨u, v, w, m', f', tl_b h3 h4, h5⟩
theorem law_c28 {xs : Nat → Int32} {LL : Nat} {i : Int32} {u v w m : St} {f : Nat → Int64} (hI : Inv u v w m) (g1 : inb (i + 1) LL = true) (g2 : inb (i + 2) LL = true) (g3 : inb (i + 3) LL = true) (g4 : inb (i + 4) LL = true) (g5 : inb (i + 5) LL = true) : LSt (f_law_c28 xs LL i u v w m f) i := by
  obtain ⟨k, f', b, m', h1, h2, h3, h4, h5⟩ := kZ1b  (fun k f => (k, f)) f (show KZ _ _ _ (fun m' => Inv u v w m') from hasKind_j hI (xs (i + 1).toNatClampNeg))
  have h1' : f_L_hasKind u v w f (xs (i + 1).toNatClampNeg) = some (k, f') := h1
  unfold f_law_c28
  have h2' : f_X2_hasKind m (xs (i + 1).toNatClampNeg) = some (b, m') := h2
  try simp only [gd_t g1, gd_t g2, gd_t g3, gd_t g4, gd_t g5]
  rw [h1', bd_s, h2', bd_s]
  exact ⟨u, v, w, m', f', tl_b h3 h4, h5⟩
theorem law_c29 {xs : Nat → Int32} {LL : Nat} {i : Int32} {u v w m : St} {f : Nat → Int64} (hI : Inv u v w m) (g1 : inb (i + 1) LL = true) (g2 : inb (i + 2) LL = true) (g3 : inb (i + 3) LL = true) (g4 : inb (i + 4) LL = true) (g5 : inb (i + 5) LL = true) : LSt (f_law_c29 xs LL i u v w m f) i := by
  obtain ⟨k, f', b, m', h1, h2, h3, h4, h5⟩ := kZ1i  (fun k f => (k, f)) f (show KZ _ _ _ (fun m' => Inv u v w m') from lowestKind_j hI )
  have h1' : f_L_lowestKind u v w f = some (k, f') := h1
  unfold f_law_c29
  have h2' : f_X2_lowestKind m = some (b, m') := h2
  try simp only [gd_t g1, gd_t g2, gd_t g3, gd_t g4, gd_t g5]
  rw [h1', bd_s, h2', bd_s]
  exact ⟨u, v, w, m', f', tl_i h3 h4, h5⟩
theorem law_c30 {xs : Nat → Int32} {LL : Nat} {i : Int32} {u v w m : St} {f : Nat → Int64} (hI : Inv u v w m) (g1 : inb (i + 1) LL = true) (g2 : inb (i + 2) LL = true) (g3 : inb (i + 3) LL = true) (g4 : inb (i + 4) LL = true) (g5 : inb (i + 5) LL = true) : LSt (f_law_c30 xs LL i u v w m f) i := by
  obtain ⟨k, s, f', b, m', h1, h2, h3, h4, h5⟩ := kX1i  (fun k s f => (k, s, f)) f (show KX _ _ _ (fun v' m' => Inv u v' w m') from setVariables_j hI (xs (i + 1).toNatClampNeg))
  have h1' : f_L_setVariables u v w f (xs (i + 1).toNatClampNeg) = some (k, s, f') := h1
  unfold f_law_c30
  have h2' : f_X2_setVariables m (xs (i + 1).toNatClampNeg) = some (b, m') := h2
  try simp only [gd_t g1, gd_t g2, gd_t g3, gd_t g4, gd_t g5]
  rw [h1', bd_s, h2', bd_s]
  exact ⟨u, s, w, m', f', tl_i h3 h4, h5⟩
theorem law_c31 {xs : Nat → Int32} {LL : Nat} {i : Int32} {u v w m : St} {f : Nat → Int64} (hI : Inv u v w m) (g1 : inb (i + 1) LL = true) (g2 : inb (i + 2) LL = true) (g3 : inb (i + 3) LL = true) (g4 : inb (i + 4) LL = true) (g5 : inb (i + 5) LL = true) : LSt (f_law_c31 xs LL i u v w m f) i := by
  obtain ⟨k, s, f', b, m', h1, h2, h3, h4, h5⟩ := kX2i ne_eIS_eIO (fun k s f => (k, s, f)) f (show KX _ _ _ (fun v' m' => Inv u v' w m') from addConstraint_j hI (xs (i + 1).toNatClampNeg) (xs (i + 2).toNatClampNeg) (xs (i + 3).toNatClampNeg) (xs (i + 4).toNatClampNeg) (xs (i + 5).toNatClampNeg))
  have h1' : f_L_addConstraint u v w f (xs (i + 1).toNatClampNeg) (xs (i + 2).toNatClampNeg) (xs (i + 3).toNatClampNeg) (xs (i + 4).toNatClampNeg) (xs (i + 5).toNatClampNeg) = some (k, s, f') := h1
  unfold f_law_c31
  have h2' : f_X2_addConstraint m (xs (i + 1).toNatClampNeg) (xs (i + 2).toNatClampNeg) (xs (i + 3).toNatClampNeg) (xs (i + 4).toNatClampNeg) (xs (i + 5).toNatClampNeg) = some (b, m') := h2
  try simp only [gd_t g1, gd_t g2, gd_t g3, gd_t g4, gd_t g5]
  rw [h1', bd_s, h2', bd_s]
  exact ⟨u, s, w, m', f', tl_i h3 h4, h5⟩
theorem law_c32 {xs : Nat → Int32} {LL : Nat} {i : Int32} {u v w m : St} {f : Nat → Int64} (hI : Inv u v w m) (g1 : inb (i + 1) LL = true) (g2 : inb (i + 2) LL = true) (g3 : inb (i + 3) LL = true) (g4 : inb (i + 4) LL = true) (g5 : inb (i + 5) LL = true) : LSt (f_law_c32 xs LL i u v w m f) i := by
  obtain ⟨k, s, f', b, m', h1, h2, h3, h4, h5⟩ := kX1i  (fun k s f => (k, s, f)) f (show KX _ _ _ (fun v' m' => Inv u v' w m') from removeLastConstraint_j hI )
  have h1' : f_L_removeLastConstraint u v w f = some (k, s, f') := h1
  unfold f_law_c32
  have h2' : f_X2_removeLastConstraint m = some (b, m') := h2
  try simp only [gd_t g1, gd_t g2, gd_t g3, gd_t g4, gd_t g5]
  rw [h1', bd_s, h2', bd_s]
  exact ⟨u, s, w, m', f', tl_i h3 h4, h5⟩
theorem law_c33 {xs : Nat → Int32} {LL : Nat} {i : Int32} {u v w m : St} {f : Nat → Int64} (hI : Inv u v w m) (g1 : inb (i + 1) LL = true) (g2 : inb (i + 2) LL = true) (g3 : inb (i + 3) LL = true) (g4 : inb (i + 4) LL = true) (g5 : inb (i + 5) LL = true) : LSt (f_law_c33 xs LL i u v w m f) i := by
  obtain ⟨b, m', h1, h2, h3, h4⟩ := solutionCount_j hI
  unfold f_law_c33
  rw [h1, bd_s, h2, bd_s, if_pos rfl]
  exact ⟨u, v, w, m', f, rfl, h4⟩
theorem law_c34 {xs : Nat → Int32} {LL : Nat} {i : Int32} {u v w m : St} {f : Nat → Int64} (hI : Inv u v w m) (g1 : inb (i + 1) LL = true) (g2 : inb (i + 2) LL = true) (g3 : inb (i + 3) LL = true) (g4 : inb (i + 4) LL = true) (g5 : inb (i + 5) LL = true) : LSt (f_law_c34 xs LL i u v w m f) i := by
  obtain ⟨k, f', b, m', h1, h2, h3, h4, h5⟩ := kZ1i  (fun k f => (k, f)) f (show KZ _ _ _ (fun m' => Inv u v w m') from solution_j hI (xs (i + 1).toNatClampNeg))
  have h1' : f_L_solution u v w f (xs (i + 1).toNatClampNeg) = some (k, f') := h1
  unfold f_law_c34
  have h2' : f_X2_solution m (xs (i + 1).toNatClampNeg) = some (b, m') := h2
  try simp only [gd_t g1, gd_t g2, gd_t g3, gd_t g4, gd_t g5]
  rw [h1', bd_s, h2', bd_s]
  exact ⟨u, v, w, m', f', tl_i h3 h4, h5⟩
theorem law_c35 {xs : Nat → Int32} {LL : Nat} {i : Int32} {u v w m : St} {f : Nat → Int64} (hI : Inv u v w m) (g1 : inb (i + 1) LL = true) (g2 : inb (i + 2) LL = true) (g3 : inb (i + 3) LL = true) (g4 : inb (i + 4) LL = true) (g5 : inb (i + 5) LL = true) : LSt (f_law_c35 xs LL i u v w m f) i := by
  obtain ⟨k, f', b, m', h1, h2, h3, h4, h5⟩ := kZ2b ne_eIA_eIO (fun k f => (k, f)) f (show KZ _ _ _ (fun m' => Inv u v w m') from isForced_j hI (xs (i + 1).toNatClampNeg) (xs (i + 2).toNatClampNeg))
  have h1' : f_L_isForced u v w f (xs (i + 1).toNatClampNeg) (xs (i + 2).toNatClampNeg) = some (k, f') := h1
  unfold f_law_c35
  have h2' : f_X2_isForced m (xs (i + 1).toNatClampNeg) (xs (i + 2).toNatClampNeg) = some (b, m') := h2
  try simp only [gd_t g1, gd_t g2, gd_t g3, gd_t g4, gd_t g5]
  rw [h1', bd_s, h2', bd_s]
  exact ⟨u, v, w, m', f', tl_b h3 h4, h5⟩
theorem law_c36 {xs : Nat → Int32} {LL : Nat} {i : Int32} {u v w m : St} {f : Nat → Int64} (hI : Inv u v w m) (g1 : inb (i + 1) LL = true) (g2 : inb (i + 2) LL = true) (g3 : inb (i + 3) LL = true) (g4 : inb (i + 4) LL = true) (g5 : inb (i + 5) LL = true) : LSt (f_law_c36 xs LL i u v w m f) i := by
  obtain ⟨k, f', b, m', h1, h2, h3, h4, h5⟩ := kZ2i ne_eNS_eUO (fun k f => (k, f)) f (show KZ _ _ _ (fun m' => Inv u v w m') from leastSolution_j hI )
  have h1' : f_L_leastSolution u v w f = some (k, f') := h1
  unfold f_law_c36
  have h2' : f_X2_leastSolution m = some (b, m') := h2
  try simp only [gd_t g1, gd_t g2, gd_t g3, gd_t g4, gd_t g5]
  rw [h1', bd_s, h2', bd_s]
  exact ⟨u, v, w, m', f', tl_i h3 h4, h5⟩
theorem law_c37 {xs : Nat → Int32} {LL : Nat} {i : Int32} {u v w m : St} {f : Nat → Int64} (hI : Inv u v w m) (g1 : inb (i + 1) LL = true) (g2 : inb (i + 2) LL = true) (g3 : inb (i + 3) LL = true) (g4 : inb (i + 4) LL = true) (g5 : inb (i + 5) LL = true) : LSt (f_law_c37 xs LL i u v w m f) i := by
  obtain ⟨k, f', b, m', h1, h2, h3, h4, h5⟩ := kZ2i ne_eNS_eUO (fun k f => (k, f)) f (show KZ _ _ _ (fun m' => Inv u v w m') from greatestSolution_j hI )
  have h1' : f_L_greatestSolution u v w f = some (k, f') := h1
  unfold f_law_c37
  have h2' : f_X2_greatestSolution m = some (b, m') := h2
  try simp only [gd_t g1, gd_t g2, gd_t g3, gd_t g4, gd_t g5]
  rw [h1', bd_s, h2', bd_s]
  exact ⟨u, v, w, m', f', tl_i h3 h4, h5⟩
theorem law_c38 {xs : Nat → Int32} {LL : Nat} {i : Int32} {u v w m : St} {f : Nat → Int64} (hI : Inv u v w m) (g1 : inb (i + 1) LL = true) (g2 : inb (i + 2) LL = true) (g3 : inb (i + 3) LL = true) (g4 : inb (i + 4) LL = true) (g5 : inb (i + 5) LL = true) : LSt (f_law_c38 xs LL i u v w m f) i := by
  obtain ⟨k, f', b, m', h1, h2, h3, h4, h5⟩ := kZ3b ne_eIO_eUO ne_eIA_eUO ne_eIA_eIO (fun k f => (k, f)) f (show KZ _ _ _ (fun m' => Inv u v w m') from implies_j hI (xs (i + 1).toNatClampNeg) (xs (i + 2).toNatClampNeg) (xs (i + 3).toNatClampNeg) (xs (i + 4).toNatClampNeg))
  have h1' : f_L_implies u v w f (xs (i + 1).toNatClampNeg) (xs (i + 2).toNatClampNeg) (xs (i + 3).toNatClampNeg) (xs (i + 4).toNatClampNeg) = some (k, f') := h1
  unfold f_law_c38
  have h2' : f_X2_implies m (xs (i + 1).toNatClampNeg) (xs (i + 2).toNatClampNeg) (xs (i + 3).toNatClampNeg) (xs (i + 4).toNatClampNeg) = some (b, m') := h2
  try simp only [gd_t g1, gd_t g2, gd_t g3, gd_t g4, gd_t g5]
  rw [h1', bd_s, h2', bd_s]
  exact ⟨u, v, w, m', f', tl_b h3 h4, h5⟩
theorem law_c39 {xs : Nat → Int32} {LL : Nat} {i : Int32} {u v w m : St} {f : Nat → Int64} (hI : Inv u v w m) (g1 : inb (i + 1) LL = true) (g2 : inb (i + 2) LL = true) (g3 : inb (i + 3) LL = true) (g4 : inb (i + 4) LL = true) (g5 : inb (i + 5) LL = true) : LSt (f_law_c39 xs LL i u v w m f) i := by
  obtain ⟨k, f', b, m', h1, h2, h3, h4, h5⟩ := kZ2i ne_eNS_eUO (fun k f => (k, f)) f (show KZ _ _ _ (fun m' => Inv u v w m') from dimension_j hI )
  have h1' : f_L_dimension u v w f = some (k, f') := h1
  unfold f_law_c39
  have h2' : f_X2_dimension m = some (b, m') := h2
  try simp only [gd_t g1, gd_t g2, gd_t g3, gd_t g4, gd_t g5]
  rw [h1', bd_s, h2', bd_s]
  exact ⟨u, v, w, m', f', tl_i h3 h4, h5⟩
theorem law_c40 {xs : Nat → Int32} {LL : Nat} {i : Int32} {u v w m : St} {f : Nat → Int64} (hI : Inv u v w m) (g1 : inb (i + 1) LL = true) (g2 : inb (i + 2) LL = true) (g3 : inb (i + 3) LL = true) (g4 : inb (i + 4) LL = true) (g5 : inb (i + 5) LL = true) : LSt (f_law_c40 xs LL i u v w m f) i := by
  obtain ⟨k, s, f', b, m', h1, h2, h3, h4, h5⟩ := kX3i ne_eIO_eIA ne_eIS_eIA ne_eIS_eIO (fun k s f => (k, s, f)) f (show KX _ _ _ (fun v' m' => Inv u v' w m') from define_j hI (xs (i + 1).toNatClampNeg) (xs (i + 2).toNatClampNeg) (xs (i + 3).toNatClampNeg) (xs (i + 4).toNatClampNeg) (xs (i + 5).toNatClampNeg))
  have h1' : f_L_define u v w f (xs (i + 1).toNatClampNeg) (xs (i + 2).toNatClampNeg) (xs (i + 3).toNatClampNeg) (xs (i + 4).toNatClampNeg) (xs (i + 5).toNatClampNeg) = some (k, s, f') := h1
  unfold f_law_c40
  have h2' : f_X2_define m (xs (i + 1).toNatClampNeg) (xs (i + 2).toNatClampNeg) (xs (i + 3).toNatClampNeg) (xs (i + 4).toNatClampNeg) (xs (i + 5).toNatClampNeg) = some (b, m') := h2
  try simp only [gd_t g1, gd_t g2, gd_t g3, gd_t g4, gd_t g5]
  rw [h1', bd_s, h2', bd_s]
  exact ⟨u, s, w, m', f', tl_i h3 h4, h5⟩
theorem law_c41 {xs : Nat → Int32} {LL : Nat} {i : Int32} {u v w m : St} {f : Nat → Int64} (hI : Inv u v w m) (g1 : inb (i + 1) LL = true) (g2 : inb (i + 2) LL = true) (g3 : inb (i + 3) LL = true) (g4 : inb (i + 4) LL = true) (g5 : inb (i + 5) LL = true) : LSt (f_law_c41 xs LL i u v w m f) i := by
  obtain ⟨k, f', b, m', h1, h2, h3, h4, h5⟩ := kZ2i ne_eNS_eIA (fun k f => (k, f)) f (show KZ _ _ _ (fun m' => Inv u v w m') from firstViolated_j hI (xs (i + 1).toNatClampNeg))
  have h1' : f_L_firstViolated u v w f (xs (i + 1).toNatClampNeg) = some (k, f') := h1
  unfold f_law_c41
  have h2' : f_X2_firstViolated m (xs (i + 1).toNatClampNeg) = some (b, m') := h2
  try simp only [gd_t g1, gd_t g2, gd_t g3, gd_t g4, gd_t g5]
  rw [h1', bd_s, h2', bd_s]
  exact ⟨u, v, w, m', f', tl_i h3 h4, h5⟩
theorem law_c42 {xs : Nat → Int32} {LL : Nat} {i : Int32} {u v w m : St} {f : Nat → Int64} (hI : Inv u v w m) (g1 : inb (i + 1) LL = true) (g2 : inb (i + 2) LL = true) (g3 : inb (i + 3) LL = true) (g4 : inb (i + 4) LL = true) (g5 : inb (i + 5) LL = true) : LSt (f_law_c42 xs LL i u v w m f) i := by
  obtain ⟨k, f', b, m', h1, h2, h3, h4, h5⟩ := kZ1b  (fun k f => (k, f)) f (show KZ _ _ _ (fun m' => Inv u v w m') from isRedundant_j hI (xs (i + 1).toNatClampNeg))
  have h1' : f_L_isRedundant u v w f (xs (i + 1).toNatClampNeg) = some (k, f') := h1
  unfold f_law_c42
  have h2' : f_X2_isRedundant m (xs (i + 1).toNatClampNeg) = some (b, m') := h2
  try simp only [gd_t g1, gd_t g2, gd_t g3, gd_t g4, gd_t g5]
  rw [h1', bd_s, h2', bd_s]
  exact ⟨u, v, w, m', f', tl_b h3 h4, h5⟩
theorem law_c43 {xs : Nat → Int32} {LL : Nat} {i : Int32} {u v w m : St} {f : Nat → Int64} (hI : Inv u v w m) (g1 : inb (i + 1) LL = true) (g2 : inb (i + 2) LL = true) (g3 : inb (i + 3) LL = true) (g4 : inb (i + 4) LL = true) (g5 : inb (i + 5) LL = true) : LSt (f_law_c43 xs LL i u v w m f) i := by
  obtain ⟨b, v', m', h1, h2, h3, h4⟩ := removeRedundant_j hI
  unfold f_law_c43
  rw [h1, bd_s, h2, bd_s, if_pos rfl]
  exact ⟨u, v', w, m', f, rfl, h4⟩
theorem law_c44 {xs : Nat → Int32} {LL : Nat} {i : Int32} {u v w m : St} {f : Nat → Int64} (hI : Inv u v w m) (g1 : inb (i + 1) LL = true) (g2 : inb (i + 2) LL = true) (g3 : inb (i + 3) LL = true) (g4 : inb (i + 4) LL = true) (g5 : inb (i + 5) LL = true) : LSt (f_law_c44 xs LL i u v w m f) i := by
  obtain ⟨k, s, f', b, m', h1, h2, h3, h4, h5⟩ := kX2i ne_eIS_eIA (fun k s f => (k, s, f)) f (show KX _ _ _ (fun u' m' => Inv u' v w m') from append_j hI (ji2c (xs (i + 1).toNatClampNeg)))
  have h1' : f_L_append u v w f (ji2c (xs (i + 1).toNatClampNeg)) = some (k, s, f') := h1
  unfold f_law_c44
  have h2' : f_X2_append m (ji2c (xs (i + 1).toNatClampNeg)) = some (b, m') := h2
  try simp only [gd_t g1, gd_t g2, gd_t g3, gd_t g4, gd_t g5]
  rw [h1', bd_s, h2', bd_s]
  exact ⟨s, v, w, m', f', tl_i h3 h4, h5⟩
theorem law_c45 {xs : Nat → Int32} {LL : Nat} {i : Int32} {u v w m : St} {f : Nat → Int64} (hI : Inv u v w m) (g1 : inb (i + 1) LL = true) (g2 : inb (i + 2) LL = true) (g3 : inb (i + 3) LL = true) (g4 : inb (i + 4) LL = true) (g5 : inb (i + 5) LL = true) : LSt (f_law_c45 xs LL i u v w m f) i := by
  obtain ⟨z, u', v', b', m'', x1, x2, x3, x4⟩ := parse_j hI
  obtain ⟨k, s, f', b, m', h1, h2, h3, h4, h5⟩ := kX2i ne_eIS_eIA (fun k s f => (k, s.1, s.2, f)) f (show KX _ _ _ (fun s m' => Inv s.1 s.2 w m') from ⟨z, (u', v'), b', m'', x1, x2, x3, x4⟩)
  have h1' : f_L_parse u v w f = some (k, s.1, s.2, f') := h1
  unfold f_law_c45
  have h2' : f_X2_parse m = some (b, m') := h2
  try simp only [gd_t g1, gd_t g2, gd_t g3, gd_t g4, gd_t g5]
  rw [h1', bd_s, h2', bd_s]
  exact ⟨s.1, s.2, w, m', f', tl_i h3 h4, h5⟩
theorem law_c46 {xs : Nat → Int32} {LL : Nat} {i : Int32} {u v w m : St} {f : Nat → Int64} (hI : Inv u v w m) (g1 : inb (i + 1) LL = true) (g2 : inb (i + 2) LL = true) (g3 : inb (i + 3) LL = true) (g4 : inb (i + 4) LL = true) (g5 : inb (i + 5) LL = true) : LSt (f_law_c46 xs LL i u v w m f) i := by
  obtain ⟨k, f', b, m', h1, h2, h3, h4, h5⟩ := kZ1i  (fun k f => (k, f)) f (show KZ _ _ _ (fun m' => Inv u v w m') from errorPosition_j hI )
  have h1' : f_L_errorPosition u v w f = some (k, f') := h1
  unfold f_law_c46
  have h2' : f_X2_errorPosition m = some (b, m') := h2
  try simp only [gd_t g1, gd_t g2, gd_t g3, gd_t g4, gd_t g5]
  rw [h1', bd_s, h2', bd_s]
  exact ⟨u, v, w, m', f', tl_i h3 h4, h5⟩
theorem law_c47 {xs : Nat → Int32} {LL : Nat} {i : Int32} {u v w m : St} {f : Nat → Int64} (hI : Inv u v w m) (g1 : inb (i + 1) LL = true) (g2 : inb (i + 2) LL = true) (g3 : inb (i + 3) LL = true) (g4 : inb (i + 4) LL = true) (g5 : inb (i + 5) LL = true) : LSt (f_law_c47 xs LL i u v w m f) i := by
  obtain ⟨k, s, f', b, m', h1, h2, h3, h4, h5⟩ := kX1i  (fun k s f => (k, s, f)) f (show KX _ _ _ (fun u' m' => Inv u' v w m') from write_j hI (xs (i + 1).toNatClampNeg))
  have h1' : f_L_write u v w f (xs (i + 1).toNatClampNeg) = some (k, s, f') := h1
  unfold f_law_c47
  have h2' : f_X2_write m (xs (i + 1).toNatClampNeg) = some (b, m') := h2
  try simp only [gd_t g1, gd_t g2, gd_t g3, gd_t g4, gd_t g5]
  rw [h1', bd_s, h2', bd_s]
  exact ⟨s, v, w, m', f', tl_i h3 h4, h5⟩
theorem law_c48 {xs : Nat → Int32} {LL : Nat} {i : Int32} {u v w m : St} {f : Nat → Int64} (hI : Inv u v w m) (g1 : inb (i + 1) LL = true) (g2 : inb (i + 2) LL = true) (g3 : inb (i + 3) LL = true) (g4 : inb (i + 4) LL = true) (g5 : inb (i + 5) LL = true) : LSt (f_law_c48 xs LL i u v w m f) i := by
  obtain ⟨k, f', b, m', h1, h2, h3, h4, h5⟩ := kZ1i  (fun k f => (k, f)) f (show KZ _ _ _ (fun m' => Inv u v w m') from outputAt_j hI (xs (i + 1).toNatClampNeg))
  have h1' : f_L_outputAt u v w f (xs (i + 1).toNatClampNeg) = some (k, f') := h1
  unfold f_law_c48
  have h2' : f_X2_outputAt m (xs (i + 1).toNatClampNeg) = some (b, m') := h2
  try simp only [gd_t g1, gd_t g2, gd_t g3, gd_t g4, gd_t g5]
  rw [h1', bd_s, h2', bd_s]
  exact ⟨u, v, w, m', f', tl_i h3 h4, h5⟩
theorem law_c49 {xs : Nat → Int32} {LL : Nat} {i : Int32} {u v w m : St} {f : Nat → Int64} (hI : Inv u v w m) (g1 : inb (i + 1) LL = true) (g2 : inb (i + 2) LL = true) (g3 : inb (i + 3) LL = true) (g4 : inb (i + 4) LL = true) (g5 : inb (i + 5) LL = true) : LSt (f_law_c49 xs LL i u v w m f) i := by
  obtain ⟨k, s, f', b, m', h1, h2, h3, h4, h5⟩ := kX2i ne_eIA_eIO (fun k s f => (k, s, f)) f (show KX _ _ _ (fun u' m' => Inv u' v w m') from storeFlags_j hI (xs (i + 1).toNatClampNeg) (xs (i + 2).toNatClampNeg) (xs (i + 3).toNatClampNeg))
  have h1' : f_L_storeFlags u v w f (xs (i + 1).toNatClampNeg) (xs (i + 2).toNatClampNeg) (xs (i + 3).toNatClampNeg) = some (k, s, f') := h1
  unfold f_law_c49
  have h2' : f_X2_storeFlags m (xs (i + 1).toNatClampNeg) (xs (i + 2).toNatClampNeg) (xs (i + 3).toNatClampNeg) = some (b, m') := h2
  try simp only [gd_t g1, gd_t g2, gd_t g3, gd_t g4, gd_t g5]
  rw [h1', bd_s, h2', bd_s]
  exact ⟨s, v, w, m', f', tl_i h3 h4, h5⟩
theorem law_c50 {xs : Nat → Int32} {LL : Nat} {i : Int32} {u v w m : St} {f : Nat → Int64} (hI : Inv u v w m) (g1 : inb (i + 1) LL = true) (g2 : inb (i + 2) LL = true) (g3 : inb (i + 3) LL = true) (g4 : inb (i + 4) LL = true) (g5 : inb (i + 5) LL = true) : LSt (f_law_c50 xs LL i u v w m f) i := by
  by_cases e : xs (i + 3).toNatClampNeg = 0
  · obtain ⟨k, s, f', b, m', h1, h2, h3, h4, h5⟩ := kX2b ne_eIS_eIO (fun k s f => (k, s, f)) f (show KX _ _ _ (fun u' m' => Inv u' v w m') from setFlag_j hI (xs (i + 1).toNatClampNeg) (xs (i + 2).toNatClampNeg) false)
    have h1' : f_L_setFlag u v w f (xs (i + 1).toNatClampNeg) (xs (i + 2).toNatClampNeg) 0 = some (k, s, f') := h1
    unfold f_law_c50
    have h2' : f_X2_setFlag m (xs (i + 1).toNatClampNeg) (xs (i + 2).toNatClampNeg) 0 = some (b, m') := h2
    try simp only [e, if_true, gd_t g1, gd_t g2, gd_t g3, gd_t g4, gd_t g5]
    rw [h1', bd_s, h2', bd_s]
    exact ⟨s, v, w, m', f', tl_b h3 h4, h5⟩
  · obtain ⟨k, s, f', b, m', h1, h2, h3, h4, h5⟩ := kX2b ne_eIS_eIO (fun k s f => (k, s, f)) f (show KX _ _ _ (fun u' m' => Inv u' v w m') from setFlag_j hI (xs (i + 1).toNatClampNeg) (xs (i + 2).toNatClampNeg) true)
    have h1' : f_L_setFlag u v w f (xs (i + 1).toNatClampNeg) (xs (i + 2).toNatClampNeg) 1 = some (k, s, f') := h1
    unfold f_law_c50
    have h2' : f_X2_setFlag m (xs (i + 1).toNatClampNeg) (xs (i + 2).toNatClampNeg) 1 = some (b, m') := h2
    try simp only [e, if_false, gd_t g1, gd_t g2, gd_t g3, gd_t g4, gd_t g5]
    rw [h1', bd_s, h2', bd_s]
    exact ⟨s, v, w, m', f', tl_b h3 h4, h5⟩
theorem law_c51 {xs : Nat → Int32} {LL : Nat} {i : Int32} {u v w m : St} {f : Nat → Int64} (hI : Inv u v w m) (g1 : inb (i + 1) LL = true) (g2 : inb (i + 2) LL = true) (g3 : inb (i + 3) LL = true) (g4 : inb (i + 4) LL = true) (g5 : inb (i + 5) LL = true) : LSt (f_law_c51 xs LL i u v w m f) i := by
  obtain ⟨k, s, f', b, m', h1, h2, h3, h4, h5⟩ := kX2i ne_eIS_eIO (fun k s f => (k, s, f)) f (show KX _ _ _ (fun v' m' => Inv u v' w m') from takeFlags_j hI (xs (i + 1).toNatClampNeg) (xs (i + 2).toNatClampNeg))
  have h1' : f_L_takeFlags u v w f (xs (i + 1).toNatClampNeg) (xs (i + 2).toNatClampNeg) = some (k, s, f') := h1
  unfold f_law_c51
  have h2' : f_X2_takeFlags m (xs (i + 1).toNatClampNeg) (xs (i + 2).toNatClampNeg) = some (b, m') := h2
  try simp only [gd_t g1, gd_t g2, gd_t g3, gd_t g4, gd_t g5]
  rw [h1', bd_s, h2', bd_s]
  exact ⟨u, s, w, m', f', tl_i h3 h4, h5⟩
theorem law_c52 {xs : Nat → Int32} {LL : Nat} {i : Int32} {u v w m : St} {f : Nat → Int64} (hI : Inv u v w m) (g1 : inb (i + 1) LL = true) (g2 : inb (i + 2) LL = true) (g3 : inb (i + 3) LL = true) (g4 : inb (i + 4) LL = true) (g5 : inb (i + 5) LL = true) : LSt (f_law_c52 xs LL i u v w m f) i := by
  obtain ⟨b, u', w', m', h1, h2, h3, h4⟩ := saveSnapshot_j hI
  unfold f_law_c52
  rw [h1, bd_s, h2, bd_s, if_pos rfl]
  exact ⟨u', v, w', m', f, rfl, h4⟩
theorem law_c53 {xs : Nat → Int32} {LL : Nat} {i : Int32} {u v w m : St} {f : Nat → Int64} (hI : Inv u v w m) (g1 : inb (i + 1) LL = true) (g2 : inb (i + 2) LL = true) (g3 : inb (i + 3) LL = true) (g4 : inb (i + 4) LL = true) (g5 : inb (i + 5) LL = true) : LSt (f_law_c53 xs LL i u v w m f) i := by
  obtain ⟨k, s, f', b, m', h1, h2, h3, h4, h5⟩ := kX1i  (fun k s f => (k, s, f)) f (show KX _ _ _ (fun v' m' => Inv u v' w m') from restoreSnapshot_j hI )
  have h1' : f_L_restoreSnapshot u v w f = some (k, s, f') := h1
  unfold f_law_c53
  have h2' : f_X2_restoreSnapshot m = some (b, m') := h2
  try simp only [gd_t g1, gd_t g2, gd_t g3, gd_t g4, gd_t g5]
  rw [h1', bd_s, h2', bd_s]
  exact ⟨u, s, w, m', f', tl_i h3 h4, h5⟩
theorem law_c54 {xs : Nat → Int32} {LL : Nat} {i : Int32} {u v w m : St} {f : Nat → Int64} (hI : Inv u v w m) (g1 : inb (i + 1) LL = true) (g2 : inb (i + 2) LL = true) (g3 : inb (i + 3) LL = true) (g4 : inb (i + 4) LL = true) (g5 : inb (i + 5) LL = true) : LSt (f_law_c54 xs LL i u v w m f) i := by
  exact ⟨u, v, w, m, f, rfl, hI⟩
