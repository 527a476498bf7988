/-! ===== bitCount, byte by byte ===== -/
theorem by_tb {a y k : Nat} (ha : a < 256) : tb (a + 256 * y) k = if k < 8 then tb a k else tb y (k - 8) := by
  unfold tb
  rw [Nat.add_comm, show 256 * y = 2 ^ 8 * y by rfl, Nat.testBit_two_pow_mul_add y (show a < 2 ^ 8 from ha)]
theorem by_and {a y p q : Nat} (ha : a < 256) (hp : p < 256) : (a + 256 * y) &&& (p + 256 * q) = (a &&& p) + 256 * (y &&& q) := by
  have hc : a &&& p < 256 := Nat.lt_of_le_of_lt Nat.and_le_left ha
  apply tb_ext
  intro k
  rw [tb_and, by_tb ha, by_tb hp, by_tb hc]
  by_cases h : k < 8 <;> simp [h, tb_and]
def s_1 (m x : Nat) : Nat := x - ((x / 2) &&& m)
def s_2 (m x : Nat) : Nat := (x &&& m) + ((x / 4) &&& m)
def s_3 (m x : Nat) : Nat := (x + x / 16) &&& m
theorem by_1a : ∀ a, a < 256 → ∀ e, e < 2 → (a / 2 + 128 * e) &&& 85 = (a / 2) &&& 85 := by decide +kernel
theorem by_1b : ∀ a, a < 256 → (a / 2) &&& 85 ≤ a ∧ s_1 85 a < 256 := by decide +kernel
theorem by_1 {a y q : Nat} (ha : a < 256) : s_1 (85 + 256 * q) (a + 256 * y) = s_1 85 a + 256 * s_1 q y := by
  have h1 : (a + 256 * y) / 2 = (a / 2 + 128 * (y % 2)) + 256 * (y / 2) := by omega
  have h2 : a / 2 + 128 * (y % 2) < 256 := by omega
  unfold s_1
  rw [h1, by_and h2 (by decide), by_1a a ha _ (Nat.mod_lt _ (by decide))]
  have h3 := (by_1b a ha).1
  have h4 : (y / 2) &&& q ≤ y := Nat.le_trans Nat.and_le_left (Nat.div_le_self y 2)
  omega
theorem by_2a : ∀ a, a < 256 → ∀ e, e < 4 → (a / 4 + 64 * e) &&& 51 = (a / 4) &&& 51 := by decide +kernel
theorem by_2b : ∀ a, a < 256 → s_2 51 a < 256 := by decide +kernel
theorem by_2 {a y q : Nat} (ha : a < 256) : s_2 (51 + 256 * q) (a + 256 * y) = s_2 51 a + 256 * s_2 q y := by
  have h1 : (a + 256 * y) / 4 = (a / 4 + 64 * (y % 4)) + 256 * (y / 4) := by omega
  have h2 : a / 4 + 64 * (y % 4) < 256 := by omega
  unfold s_2
  rw [h1, by_and ha (by decide), by_and h2 (by decide), by_2a a ha _ (Nat.mod_lt _ (by decide))]
  omega
def nib (x : Nat) : Prop := x % 16 ≤ 4
theorem by_3a : ∀ a, a < 256 → a % 16 ≤ 4 → a / 16 ≤ 4 → ∀ e, e ≤ 4 → (a + a / 16 + 16 * e < 256 ∧ (a + a / 16 + 16 * e) &&& 15 = s_3 15 a) := by decide +kernel
theorem by_3 {a y q : Nat} (ha : a < 256) (h0 : a % 16 ≤ 4) (h1 : a / 16 ≤ 4) (hy : y % 16 ≤ 4) : s_3 (15 + 256 * q) (a + 256 * y) = s_3 15 a + 256 * s_3 q y := by
  have h2 : (a + 256 * y) + (a + 256 * y) / 16 = (a + a / 16 + 16 * (y % 16)) + 256 * (y + y / 16) := by omega
  have h3 := by_3a a ha h0 h1 _ hy
  unfold s_3 at h3 ⊢
  rw [h2, by_and h3.1 (by decide), h3.2]
/-- the three steps on a byte -/
theorem by_a : ∀ a, a < 256 → s_1 85 a < 256 ∧ s_2 51 (s_1 85 a) < 256 ∧ s_2 51 (s_1 85 a) % 16 ≤ 4 ∧ s_2 51 (s_1 85 a) / 16 ≤ 4 ∧ s_3 15 (s_2 51 (s_1 85 a)) = fb_ct (tb a) 8 ∧ fb_ct (tb a) 8 ≤ 8 := by decide +kernel
def s_a (m1 m2 m3 x : Nat) : Nat := s_3 m3 (s_2 m2 (s_1 m1 x))
theorem by_n (m1 m2 a y : Nat) (ha : a < 256) : s_2 (51 + 256 * m2) (s_1 (85 + 256 * m1) (a + 256 * y)) % 16 ≤ 4 := by
  obtain ⟨h1, h2, h3, -, -, -⟩ := by_a a ha
  rw [by_1 ha, by_2 h1]
  omega
theorem by_s {a b y m1 m2 m3 : Nat} (ha : a < 256) (hb : b < 256) : s_a (85 + 256 * (85 + 256 * m1)) (51 + 256 * (51 + 256 * m2)) (15 + 256 * m3) (a + 256 * (b + 256 * y)) = fb_ct (tb a) 8 + 256 * s_a (85 + 256 * m1) (51 + 256 * m2) m3 (b + 256 * y) := by
  obtain ⟨h1, h2, h3, h4, h5, -⟩ := by_a a ha
  unfold s_a
  rw [by_1 ha, by_2 h1, by_3 h2 h3 h4 (by_n m1 m2 b y hb), h5]
theorem by_l {a : Nat} (ha : a < 256) : s_a 85 51 15 a = fb_ct (tb a) 8 := (by_a a ha).2.2.2.2.1
theorem by_s1 {a b : Nat} (ha : a < 256) (hb : b < 256) : s_a (85 + 256 * 85) (51 + 256 * 51) (15 + 256 * 15) (a + 256 * b) = fb_ct (tb a) 8 + 256 * fb_ct (tb b) 8 := by
  have := by_s (a := a) (b := b) (y := 0) (m1 := 0) (m2 := 0) (m3 := 15) ha hb
  simp only [Nat.mul_zero, Nat.add_zero] at this
  rw [this, by_l hb]
theorem by_ct {a y n : Nat} (ha : a < 256) : fb_ct (tb (a + 256 * y)) (8 + n) = fb_ct (tb a) 8 + fb_ct (tb y) n := by
  rw [fb_ct_split]
  congr 1
  · exact fb_ct_cong fun k hk => by rw [by_tb ha, if_pos hk]
  · exact fb_ct_cong fun k hk => by rw [by_tb ha, if_neg (by omega), Nat.add_sub_cancel_left]
theorem by_of (x n : Nat) (h : x < 256 * n) : ∃ a y, a < 256 ∧ y < n ∧ x = a + 256 * y := ⟨x % 256, x / 256, Nat.mod_lt _ (by decide), Nat.div_lt_of_lt_mul h, (Nat.mod_add_div x 256).symm⟩
theorem ct_le8 {a : Nat} (ha : a < 256) : fb_ct (tb a) 8 ≤ 8 := (by_a a ha).2.2.2.2.2
theorem n_sub {a b : Nat} (h : b ≤ a) : nI a - nI b = nI (a - b) := pk_sub h
theorem n_add (a b : Nat) : nI a + nI b = nI (a + b) := nI_add a b
theorem lt_eq {α β : Type} {e e2 : α} {k : α → β} (h : e = e2) : lt e k = k e2 := by rw [lt, h]
theorem bc_nat {x : Nat} (hx : x < 4294967296) : ∃ y, y = s_a 1431655765 858993459 252645135 x ∧ (y + y / 256 + (y + y / 256) / 65536) % 64 = fb_ct (tb x) 32 ∧ y < 4294967296 ∧ y + y / 256 < 4294967296 ∧ y + y / 256 + (y + y / 256) / 65536 < 4294967296 := by
  obtain ⟨a, x1, ha, h1, rfl⟩ := by_of x 16777216 (by omega)
  obtain ⟨b, x2, hb, h2, rfl⟩ := by_of x1 65536 (by omega)
  obtain ⟨c, d, hc, hd, rfl⟩ := by_of x2 256 (by omega)
  refine ⟨_, rfl, ?_⟩
  have e : s_a 1431655765 858993459 252645135 (a + 256 * (b + 256 * (c + 256 * d))) = fb_ct (tb a) 8 + 256 * (fb_ct (tb b) 8 + 256 * (fb_ct (tb c) 8 + 256 * fb_ct (tb d) 8)) := by
    have q1 := by_s (a := a) (b := b) (y := c + 256 * d) (m1 := 85 + 256 * 85) (m2 := 51 + 256 * 51) (m3 := 15 + 256 * (15 + 256 * 15)) ha hb
    have q2 := by_s (a := b) (b := c) (y := d) (m1 := 85) (m2 := 51) (m3 := 15 + 256 * 15) hb hc
    have q3 := by_s1 hc hd
    rw [q3] at q2
    rw [q2] at q1
    exact q1
  have e2 : fb_ct (tb (a + 256 * (b + 256 * (c + 256 * d)))) 32 = fb_ct (tb a) 8 + (fb_ct (tb b) 8 + (fb_ct (tb c) 8 + fb_ct (tb d) 8)) := by
    rw [show 32 = 8 + 24 by rfl, by_ct ha, show 24 = 8 + 16 by rfl, by_ct hb, show 16 = 8 + 8 by rfl, by_ct hc]
  rw [e, e2]
  have q1 := ct_le8 ha
  have q2 := ct_le8 hb
  have q3 := ct_le8 hc
  have q4 := ct_le8 hd
  generalize fb_ct (tb a) 8 = p at q1 ⊢
  generalize fb_ct (tb b) 8 = q at q2 ⊢
  generalize fb_ct (tb c) 8 = r at q3 ⊢
  generalize fb_ct (tb d) 8 = t at q4 ⊢
  have d1 : (p + 256 * (q + 256 * (r + 256 * t))) / 256 = q + 256 * (r + 256 * t) := by omega
  rw [d1]
  have d2 : (p + 256 * (q + 256 * (r + 256 * t)) + (q + 256 * (r + 256 * t))) / 65536 = (r + t) + 256 * t := by omega
  rw [d2]
  refine ⟨?_, by omega, by omega, by omega⟩
  omega
theorem s_1_lt {m x n : Nat} (h : x < n) : s_1 m x < n := Nat.lt_of_le_of_lt (Nat.sub_le _ _) h
theorem bc32 {x : Nat} (hx : x < 4294967296) : f_J6_bitCount_0f7a4 (nI x) = some (nI (fb_ct (tb x) 32)) := by
  obtain ⟨y, hy, h1, h2, h3, h4⟩ := bc_nat hx
  have a1 : nI x - ((jushr (nI x) 1) &&& 1431655765) = nI (s_1 1431655765 x) := by
    rw [show (1 : Int32) = nI 1 from rfl, n_ushr (by decide) hx, show (1431655765 : Int32) = nI 1431655765 from rfl, n_and, n_sub (Nat.le_trans Nat.and_le_left (Nat.div_le_self _ _))]
    rfl
  have l1 : s_1 1431655765 x < 4294967296 := s_1_lt hx
  have a2 : ((nI (s_1 1431655765 x)) &&& 858993459) + ((jushr (nI (s_1 1431655765 x)) 2) &&& 858993459) = nI (s_2 858993459 (s_1 1431655765 x)) := by
    rw [show (2 : Int32) = nI 2 from rfl, n_ushr (by decide) l1, show (858993459 : Int32) = nI 858993459 from rfl, n_and, n_and, n_add]
    rfl
  have l2 : s_2 858993459 (s_1 1431655765 x) < 4294967296 := by
    have q1 : s_1 1431655765 x &&& 858993459 ≤ 858993459 := Nat.and_le_right
    have q2 : s_1 1431655765 x / 4 &&& 858993459 ≤ 858993459 := Nat.and_le_right
    unfold s_2
    omega
  have a3 : ((nI (s_2 858993459 (s_1 1431655765 x))) + (jushr (nI (s_2 858993459 (s_1 1431655765 x))) 4)) &&& 252645135 = nI y := by
    rw [show (4 : Int32) = nI 4 from rfl, n_ushr (by decide) l2, n_add, show (252645135 : Int32) = nI 252645135 from rfl, n_and, hy]
    rfl
  have a4 : nI y + (jushr (nI y) 8) = nI (y + y / 256) := by rw [show (8 : Int32) = nI 8 from rfl, n_ushr (by decide) h2, n_add]
  have a5 : nI (y + y / 256) + (jushr (nI (y + y / 256)) 16) = nI (y + y / 256 + (y + y / 256) / 65536) := by rw [show (16 : Int32) = nI 16 from rfl, n_ushr (by decide) h3, n_add]
  have a6 : nI (y + y / 256 + (y + y / 256) / 65536) &&& 63 = nI (fb_ct (tb x) 32) := by
    rw [show (63 : Int32) = nI (2 ^ 6 - 1) from rfl, fa_mask, show 2 ^ 6 = 64 by rfl, h1]
  unfold f_J6_bitCount_0f7a4
  rw [lt_eq a1, lt_eq a2, lt_eq a3, lt_eq a4, lt_eq a5, a6]
/-! ===== and of longs ===== -/
theorem l_tn {a : Nat} (h : a < 18446744073709551616) : (lN a).toBitVec.toNat = a := by
  show (BitVec.ofNat 64 a).toNat = a
  rw [BitVec.toNat_ofNat, Nat.mod_eq_of_lt h]
theorem l_inj {a b : Nat} (ha : a < 18446744073709551616) (hb : b < 18446744073709551616) (h : lN a = lN b) : a = b := by
  have := congrArg (fun q : Int64 => q.toBitVec.toNat) h
  simpa [l_tn ha, l_tn hb] using this
theorem l_eqb {a b : Int64} (h : a.toBitVec = b.toBitVec) : a = b := by
  cases a; cases b; rename_i x y; cases x; cases y; cases h; rfl
theorem l_of (x : Int64) : ∃ n, n < 18446744073709551616 ∧ x = lN n := ⟨x.toBitVec.toNat, x.toBitVec.isLt, l_eqb (by
  show x.toBitVec = BitVec.ofNat 64 x.toBitVec.toNat
  rw [BitVec.ofNat_toNat]; simp)⟩
theorem l_ushr {a k : Nat} (hk : k < 64) (h : a < 18446744073709551616) : jlushr (lN a) (nI k) = lN (a / 2 ^ k) := wb_shr h hk
theorem l_shl (a : Nat) {k : Nat} (hk : k < 64) : jlshl (lN a) (nI k) = lN (a * 2 ^ k) := wb_shl a hk
theorem l_and (a b : Nat) : lN a &&& lN b = lN (a &&& b) := fb_andL a b
theorem l_or (a b : Nat) : lN a ||| lN b = lN (a ||| b) := fb_orL a b
theorem l_xor (a b : Nat) : lN a ^^^ lN b = lN (a ^^^ b) := fb_xorL a b
theorem l_add (a b : Nat) : lN a + lN b = lN (a + b) := lN_add a b
theorem l_sub {a b : Nat} (h : b ≤ a) : lN a - lN b = lN (a - b) := lN_sub h
theorem l_m1 : (-1 : Int64) = lN 18446744073709551615 := by decide +kernel
theorem l_i (a : Nat) : (lN a).toInt32 = nI a := lN_i a
theorem sm_a {p1 p2 p3 A1 A2 A3 y : Nat} (q1 : p1 ≤ 8) (q2 : p2 ≤ 8) (q3 : p3 ≤ 8) (g0 : y = p1 + 256 * A1) (g1 : A1 = p2 + 256 * A2) (g2 : A2 = p3 + 256 * A3) : y / 256 = A1 ∧ (y + A1) / 65536 = A2 + A3 ∧ y + A1 = (p1 + p2) + 256 * (p2 + p3) + 65536 * (A2 + A3) := by
  have h1 : y / 256 = A1 := by omega
  have h2 : y + A1 = (p1 + p2) + 256 * (p2 + p3) + 65536 * (A2 + A3) := by omega
  refine ⟨h1, ?_, h2⟩
  rw [h2]
  generalize A2 + A3 = B
  omega
theorem sm_b {a b c d B x4 : Nat} (h : x4 = a + 256 * b + 65536 * (c + 256 * d + 65536 * B)) (ha : a ≤ 16) (hb : b ≤ 16) (hc : c ≤ 16) (hd : d ≤ 16) {e f C : Nat} (hB : B = e + 256 * f + 65536 * C) (he : e ≤ 16) (hf : f ≤ 16) : (x4 + (c + 256 * d + 65536 * B)) / 4294967296 = B + C ∧ (x4 + (c + 256 * d + 65536 * B)) % 256 = a + c := by
  have h2 : x4 + (c + 256 * d + 65536 * B) = ((a + c) + 256 * (b + d) + 65536 * (c + e) + 16777216 * (d + f)) + 4294967296 * (B + C) := by omega
  rw [h2]
  generalize B + C = Z
  constructor <;> omega
theorem le_s {p A y : Nat} (c d : Nat) (q : p ≤ 8) (h : A ≤ c) (g : y = p + 256 * A) (hd : 8 + 256 * c = d) : y ≤ d := by omega
theorem sm_c {p1 p2 p3 p4 X Z : Nat} (h1 : X % 256 = p1) (h2 : Z % 256 = p2) (h3 : p1 + p2 < 128) : (X + Z) % 128 = p1 + p2 := by omega
theorem sm_d {p5 p6 p7 p8 A6 : Nat} (q5 : p5 ≤ 8) (q6 : p6 ≤ 8) (q7 : p7 ≤ 8) (q8 : p8 ≤ 8) (g6 : A6 = p7 + 256 * p8) : ((p5 + p6) + 256 * (p6 + p7) + 65536 * (A6 + p8) + (A6 + p8)) % 256 = p5 + p6 + p7 + p8 := by
  subst g6
  omega
theorem sm_8 {p1 p2 p3 p4 p5 p6 p7 p8 A1 A2 A3 A4 A5 A6 y : Nat} (q1 : p1 ≤ 8) (q2 : p2 ≤ 8) (q3 : p3 ≤ 8) (q4 : p4 ≤ 8) (q5 : p5 ≤ 8) (q6 : p6 ≤ 8) (q7 : p7 ≤ 8) (q8 : p8 ≤ 8) (g0 : y = p1 + 256 * A1) (g1 : A1 = p2 + 256 * A2) (g2 : A2 = p3 + 256 * A3) (g3 : A3 = p4 + 256 * A4) (g4 : A4 = p5 + 256 * A5) (g5 : A5 = p6 + 256 * A6) (g6 : A6 = p7 + 256 * p8) : (y + y / 256 + (y + y / 256) / 65536 + (y + y / 256 + (y + y / 256) / 65536) / 4294967296) % 128 = p1 + (p2 + (p3 + (p4 + (p5 + (p6 + (p7 + p8)))))) ∧ y < 18446744073709551616 ∧ y + y / 256 < 18446744073709551616 ∧ y + y / 256 + (y + y / 256) / 65536 < 18446744073709551616 := by
  obtain ⟨a1, a2, a3⟩ := sm_a q1 q2 q3 g0 g1 g2
  have c6 := le_s 8 2056 q7 q8 g6 rfl
  have c5 := le_s 2056 526344 q6 c6 g5 rfl
  have c4 := le_s 526344 134744072 q5 c5 g4 rfl
  have c3 := le_s 134744072 34494482440 q4 c4 g3 rfl
  have c2 := le_s 34494482440 8830587504648 q3 c3 g2 rfl
  have c1 := le_s 8830587504648 2260630401189896 q2 c2 g1 rfl
  have c0 := le_s 2260630401189896 578721382704613384 q1 c1 g0 rfl
  have e1 : A2 + A3 = (p3 + p4) + 256 * (p4 + p5) + 65536 * (A4 + A5) := by
    rw [g2, g3, g4]; clear c0 c1 c2 c3 c4 a1 a2 a3; omega
  have e2 : A4 + A5 = (p5 + p6) + 256 * (p6 + p7) + 65536 * (A6 + p8) := by
    rw [g4, g5, g6]; clear c0 c1 c2 c3 c4 a1 a2 a3 e1; omega
  rw [a1, a2]
  have e3 := sm_b (x4 := y + A1) (a := p1 + p2) (b := p2 + p3) (c := p3 + p4) (d := p4 + p5) (B := A4 + A5) (by rw [a3, e1]) (Nat.add_le_add q1 q2) (Nat.add_le_add q2 q3) (Nat.add_le_add q3 q4) (Nat.add_le_add q4 q5) e2 (Nat.add_le_add q5 q6) (Nat.add_le_add q6 q7)
  rw [← e1] at e3
  obtain ⟨e4, e5⟩ := e3
  rw [e4]
  have e6 : (A4 + A5 + (A6 + p8)) % 256 = p5 + p6 + p7 + p8 := by
    rw [e2]
    exact sm_d q5 q6 q7 q8 g6
  clear a1 a2 a3 e1 e2 e4 g0 g1 g2 g3 g4 g5 g6
  refine ⟨?_, ?_, ?_, ?_⟩
  · rw [sm_c (p3 := 0) (p4 := 0) e5 e6 (by clear e5 e6; omega)]
    clear e5 e6
    omega
  · clear e5 e6; omega
  · clear e5 e6; omega
  · clear e5 e6; omega
theorem bc_nat64 {x : Nat} (hx : x < 18446744073709551616) : ∃ y, y = s_a 6148914691236517205 3689348814741910323 1085102592571150095 x ∧ (y + y / 256 + (y + y / 256) / 65536 + (y + y / 256 + (y + y / 256) / 65536) / 4294967296) % 128 = fb_ct (tb x) 64 ∧ y < 18446744073709551616 ∧ y + y / 256 < 18446744073709551616 ∧ y + y / 256 + (y + y / 256) / 65536 < 18446744073709551616 := by
  obtain ⟨a, x1, ha, h1, rfl⟩ := by_of x 72057594037927936 (by omega)
  obtain ⟨b, x2, hb, h2, rfl⟩ := by_of x1 281474976710656 (by omega)
  obtain ⟨c, x3, hc, h3, rfl⟩ := by_of x2 1099511627776 (by omega)
  obtain ⟨d, x4, hd, h4, rfl⟩ := by_of x3 4294967296 (by omega)
  obtain ⟨e, x5, he, h5, rfl⟩ := by_of x4 16777216 (by omega)
  obtain ⟨f, x6, hf, h6, rfl⟩ := by_of x5 65536 (by omega)
  obtain ⟨g, h, hg, hh, rfl⟩ := by_of x6 256 (by omega)
  refine ⟨_, rfl, ?_⟩
  have e1 : s_a 6148914691236517205 3689348814741910323 1085102592571150095 (a + 256 * (b + 256 * (c + 256 * (d + 256 * (e + 256 * (f + 256 * (g + 256 * h))))))) = fb_ct (tb a) 8 + 256 * (fb_ct (tb b) 8 + 256 * (fb_ct (tb c) 8 + 256 * (fb_ct (tb d) 8 + 256 * (fb_ct (tb e) 8 + 256 * (fb_ct (tb f) 8 + 256 * (fb_ct (tb g) 8 + 256 * fb_ct (tb h) 8)))))) := by
    have q1 := by_s (a := a) (b := b) (y := c + 256 * (d + 256 * (e + 256 * (f + 256 * (g + 256 * h))))) (m1 := 93824992236885) (m2 := 56294995342131) (m3 := 4238682002231055) ha hb
    have q2 := by_s (a := b) (b := c) (y := d + 256 * (e + 256 * (f + 256 * (g + 256 * h)))) (m1 := 366503875925) (m2 := 219902325555) (m3 := 16557351571215) hb hc
    have q3 := by_s (a := c) (b := d) (y := e + 256 * (f + 256 * (g + 256 * h))) (m1 := 1431655765) (m2 := 858993459) (m3 := 64677154575) hc hd
    have q4 := by_s (a := d) (b := e) (y := f + 256 * (g + 256 * h)) (m1 := 5592405) (m2 := 3355443) (m3 := 252645135) hd he
    have q5 := by_s (a := e) (b := f) (y := g + 256 * h) (m1 := 21845) (m2 := 13107) (m3 := 986895) he hf
    have q6 := by_s (a := f) (b := g) (y := h) (m1 := 85) (m2 := 51) (m3 := 3855) hf hg
    have q7 := by_s1 hg hh
    rw [q7] at q6
    rw [q6] at q5
    rw [q5] at q4
    rw [q4] at q3
    rw [q3] at q2
    rw [q2] at q1
    exact q1
  have e2 : fb_ct (tb (a + 256 * (b + 256 * (c + 256 * (d + 256 * (e + 256 * (f + 256 * (g + 256 * h)))))))) 64 = fb_ct (tb a) 8 + (fb_ct (tb b) 8 + (fb_ct (tb c) 8 + (fb_ct (tb d) 8 + (fb_ct (tb e) 8 + (fb_ct (tb f) 8 + (fb_ct (tb g) 8 + fb_ct (tb h) 8)))))) := by
    rw [show 64 = 8 + 56 by rfl, by_ct ha, show 56 = 8 + 48 by rfl, by_ct hb, show 48 = 8 + 40 by rfl, by_ct hc, show 40 = 8 + 32 by rfl, by_ct hd, show 32 = 8 + 24 by rfl, by_ct he, show 24 = 8 + 16 by rfl, by_ct hf, show 16 = 8 + 8 by rfl, by_ct hg]
  rw [e1, e2]
  exact sm_8 (ct_le8 ha) (ct_le8 hb) (ct_le8 hc) (ct_le8 hd) (ct_le8 he) (ct_le8 hf) (ct_le8 hg) (ct_le8 hh) rfl rfl rfl rfl rfl rfl rfl
theorem bc64 {x : Nat} (hx : x < 18446744073709551616) : f_J13_bitCount_95d88 (lN x) = some (nI (fb_ct (tb x) 64)) := by
  obtain ⟨y, hy, h1, h2, h3, h4⟩ := bc_nat64 hx
  have a1 : lN x - ((jlushr (lN x) 1) &&& 6148914691236517205) = lN (s_1 6148914691236517205 x) := by
    rw [show (1 : Int32) = nI 1 from rfl, l_ushr (by decide) hx, show (6148914691236517205 : Int64) = lN 6148914691236517205 from rfl, l_and, l_sub (Nat.le_trans Nat.and_le_left (Nat.div_le_self _ _))]
    rfl
  have l1 : s_1 6148914691236517205 x < 18446744073709551616 := s_1_lt hx
  have a2 : ((lN (s_1 6148914691236517205 x)) &&& 3689348814741910323) + ((jlushr (lN (s_1 6148914691236517205 x)) 2) &&& 3689348814741910323) = lN (s_2 3689348814741910323 (s_1 6148914691236517205 x)) := by
    rw [show (2 : Int32) = nI 2 from rfl, l_ushr (by decide) l1, show (3689348814741910323 : Int64) = lN 3689348814741910323 from rfl, l_and, l_and, l_add]
    rfl
  have l2 : s_2 3689348814741910323 (s_1 6148914691236517205 x) < 18446744073709551616 := by
    have q1 : s_1 6148914691236517205 x &&& 3689348814741910323 ≤ 3689348814741910323 := Nat.and_le_right
    have q2 : s_1 6148914691236517205 x / 4 &&& 3689348814741910323 ≤ 3689348814741910323 := Nat.and_le_right
    unfold s_2
    omega
  have a3 : ((lN (s_2 3689348814741910323 (s_1 6148914691236517205 x))) + (jlushr (lN (s_2 3689348814741910323 (s_1 6148914691236517205 x))) 4)) &&& 1085102592571150095 = lN y := by
    rw [show (4 : Int32) = nI 4 from rfl, l_ushr (by decide) l2, l_add, show (1085102592571150095 : Int64) = lN 1085102592571150095 from rfl, l_and, hy]
    rfl
  have a4 : lN y + (jlushr (lN y) 8) = lN (y + y / 256) := by rw [show (8 : Int32) = nI 8 from rfl, l_ushr (by decide) h2, l_add]
  have a5 : lN (y + y / 256) + (jlushr (lN (y + y / 256)) 16) = lN (y + y / 256 + (y + y / 256) / 65536) := by rw [show (16 : Int32) = nI 16 from rfl, l_ushr (by decide) h3, l_add]
  have a7 : lN (y + y / 256 + (y + y / 256) / 65536) + (jlushr (lN (y + y / 256 + (y + y / 256) / 65536)) 32) = lN (y + y / 256 + (y + y / 256) / 65536 + (y + y / 256 + (y + y / 256) / 65536) / 4294967296) := by rw [show (32 : Int32) = nI 32 from rfl, l_ushr (by decide) h4, l_add]
  have a6 : (lN (y + y / 256 + (y + y / 256) / 65536 + (y + y / 256 + (y + y / 256) / 65536) / 4294967296)).toInt32 &&& 127 = nI (fb_ct (tb x) 64) := by
    rw [l_i, show (127 : Int32) = nI (2 ^ 7 - 1) from rfl, fa_mask, show 2 ^ 7 = 128 by rfl, h1]
  unfold f_J13_bitCount_95d88
  rw [lt_eq a1, lt_eq a2, lt_eq a3, lt_eq a4, lt_eq a5, lt_eq a7, a6]
