/-! STEPS 13: by which rate: fits, fitsAt, ask -/
/-- how many are in a set of up to twenty -/
theorem and_sp {a p r s : Nat} (ha : a < 256) (hp : p < 256) : (a + 256 * r) &&& (p + 256 * s) = (a &&& p) + 256 * (r &&& s) := by
  have hl : a &&& p < 2 ^ 8 := Nat.lt_of_le_of_lt Nat.and_le_left ha
  apply Nat.eq_of_testBit_eq
  intro i
  rw [Nat.testBit_and, Nat.add_comm a, Nat.add_comm p, Nat.add_comm (a &&& p), show 256 = 2 ^ 8 from rfl, Nat.testBit_two_pow_mul_add r ha i, Nat.testBit_two_pow_mul_add s hp i, Nat.testBit_two_pow_mul_add (r &&& s) hl i]
  by_cases c : i < 8
  · rw [if_pos c, if_pos c, if_pos c, Nat.testBit_and]
  · rw [if_neg c, if_neg c, if_neg c, Nat.testBit_and]
def g1N (a : Nat) : Nat := a - (a / 2 &&& 85)
def g2N (a : Nat) : Nat := (a &&& 51) + (a / 4 &&& 51)
theorem g1_d : ∀ a, a < 256 → ∀ d, d < 2 → (a / 2 + 128 * d) &&& 85 = a / 2 &&& 85 := by decide +kernel
theorem g2_d : ∀ a, a < 256 → ∀ d, d < 4 → (a / 4 + 64 * d) &&& 51 = a / 4 &&& 51 := by decide +kernel
theorem g1_b : ∀ a, a < 256 → (a / 2 &&& 85) ≤ a ∧ g1N a < 256 := by decide +kernel
theorem g2_b : ∀ a, a < 256 → g2N (g1N a) % 16 ≤ 4 ∧ g2N (g1N a) / 16 ≤ 4 ∧ (g2N (g1N a) + g2N (g1N a) / 16) % 16 = pcF 8 a := by decide +kernel
theorem pc_4 : ∀ a, a < 16 → pcF 4 a = pcF 8 a := by decide +kernel
theorem pc_8b : ∀ a, a < 256 → pcF 8 a ≤ 8 := by decide +kernel
theorem pcF_cat (m : Nat) : ∀ k a b, a < 2 ^ k → pcF (k + m) (a + 2 ^ k * b) = pcF k a + pcF m b := by
  intro k
  induction k with
  | zero =>
    intro a b h
    have : a = 0 := by omega
    subst this
    simp only [Nat.zero_add, Nat.pow_zero, Nat.one_mul]
    show pcF m b = pcF 0 0 + pcF m b
    rw [pcF, Nat.zero_add]
  | succ k ih =>
    intro a b h
    rw [Nat.pow_succ] at h
    have e1 : (a + 2 ^ (k + 1) * b) % 2 = a % 2 := by
      rw [Nat.pow_succ, Nat.mul_right_comm]
      omega
    have e2 : (a + 2 ^ (k + 1) * b) / 2 = a / 2 + 2 ^ k * b := by
      rw [Nat.pow_succ, Nat.mul_right_comm]
      omega
    rw [show k + 1 + m = (k + m) + 1 by omega, pcF, pcF, e1, e2, ih (a / 2) b (by omega), Nat.add_assoc]
theorem u_shr (k : Nat) (hk : k < 32) {n : Nat} (h : n < 2 ^ 31) {s : Int32} (hs : s = nI k) : ((nI n).toUInt32 >>> (s.toUInt32 &&& Int32.toUInt32 31)).toInt32 = nI (n / 2 ^ k) := by
  subst hs
  apply i_bvx
  apply BitVec.eq_of_toNat_eq
  have e1 : (nI k).toUInt32 &&& Int32.toUInt32 31 = UInt32.ofNat k := by
    have : ∀ k, k < 32 → (nI k).toUInt32 &&& Int32.toUInt32 31 = UInt32.ofNat k := by decide +kernel
    exact this k hk
  rw [e1]
  show ((nI n).toUInt32 >>> UInt32.ofNat k).toNat = (nI (n / 2 ^ k)).toBitVec.toNat
  have hd : n / 2 ^ k ≤ n := Nat.div_le_self _ _
  rw [pk_tn (by omega), UInt32.toNat_shiftRight, show (nI n).toUInt32.toNat = n from pk_tn (by omega), UInt32.toNat_ofNat', Nat.mod_eq_of_lt (show k < 2 ^ 32 by omega), Nat.mod_eq_of_lt hk, Nat.shiftRight_eq_div_pow]
theorem bc_t1 {A B C : Nat} (hA : A < 256) (hB : B < 256) (hC : C < 16) : (A + 256 * (B + 256 * C)) - ((A + 256 * (B + 256 * C)) / 2 &&& (85 + 256 * (85 + 256 * 85))) = g1N A + 256 * (g1N B + 256 * g1N C) := by
  have a1 := (g1_b A hA).1
  have b1 := (g1_b B hB).1
  have c1 := (g1_b C (by omega)).1
  have s1 : (A + 256 * (B + 256 * C)) / 2 = (A / 2 + 128 * (B % 2)) + 256 * ((B / 2 + 128 * (C % 2)) + 256 * (C / 2)) := by omega
  rw [s1, and_sp (by omega) (by omega), and_sp (by omega) (by omega), g1_d A hA _ (by omega), g1_d B hB _ (by omega)]
  unfold g1N
  generalize A / 2 &&& 85 = x at *
  generalize B / 2 &&& 85 = y at *
  generalize C / 2 &&& 85 = z at *
  omega
theorem bc_t2 {x y z : Nat} (hx : x < 256) (hy : y < 256) (hz : z < 256) : (x + 256 * (y + 256 * z) &&& (51 + 256 * (51 + 256 * 51))) + ((x + 256 * (y + 256 * z)) / 4 &&& (51 + 256 * (51 + 256 * 51))) = g2N x + 256 * (g2N y + 256 * g2N z) := by
  have s2 : (x + 256 * (y + 256 * z)) / 4 = (x / 4 + 64 * (y % 4)) + 256 * ((y / 4 + 64 * (z % 4)) + 256 * (z / 4)) := by omega
  rw [s2, and_sp hx (by omega), and_sp hy (by omega), and_sp (by omega) (by omega), and_sp (by omega) (by omega), g2_d x hx _ (by omega), g2_d y hy _ (by omega)]
  unfold g2N
  generalize x / 4 &&& 51 = x1
  generalize y / 4 &&& 51 = y1
  generalize z / 4 &&& 51 = z1
  generalize x &&& 51 = x2
  generalize y &&& 51 = y2
  generalize z &&& 51 = z2
  omega
theorem and15 : ∀ c, c < 256 → c &&& 15 = c % 16 := by decide +kernel
theorem bc_t3 {p q r a b c : Nat} (p1 : p % 16 ≤ 4) (p2 : p / 16 ≤ 4) (p3 : (p + p / 16) % 16 = a) (q1 : q % 16 ≤ 4) (q2 : q / 16 ≤ 4) (q3 : (q + q / 16) % 16 = b) (r1 : r % 16 ≤ 4) (r2 : r / 16 ≤ 4) (r3 : (r + r / 16) % 16 = c) : (p + 256 * (q + 256 * r) + (p + 256 * (q + 256 * r)) / 16) &&& (15 + 256 * (15 + 256 * 15)) = a + 256 * (b + 256 * c) := by
  have s3 : p + 256 * (q + 256 * r) + (p + 256 * (q + 256 * r)) / 16 = (p + p / 16 + 16 * (q % 16)) + 256 * ((q + q / 16 + 16 * (r % 16)) + 256 * (r + r / 16)) := by omega
  have e1 := and15 (p + p / 16 + 16 * (q % 16)) (by omega)
  have e2 := and15 (q + q / 16 + 16 * (r % 16)) (by omega)
  have e3 := and15 (r + r / 16) (by omega)
  rw [s3, and_sp (by omega) (by omega), and_sp (by omega) (by omega), e1, e2, e3]
  omega
theorem and_hi {x m : Nat} (k : Nat) (hx : x < 2 ^ 24) (hm : m < 2 ^ 24) : x &&& (2 ^ 24 * k + m) = x &&& m := by
  apply Nat.eq_of_testBit_eq
  intro i
  rw [Nat.testBit_and, Nat.testBit_and, Nat.testBit_two_pow_mul_add k hm i]
  by_cases c : i < 24
  · rw [if_pos c]
  · rw [if_neg c, Nat.testBit_lt_two_pow (Nat.lt_of_lt_of_le hx (Nat.pow_le_pow_right (by decide) (by omega))), Bool.false_and, Bool.false_and]
theorem bc_fin {n X Y Z : Nat} (hn : n < 2 ^ 31) (hX : X < 2 ^ 31) (hY : Y < 2 ^ 30) (hZ : Z < 2 ^ 30) (e1 : n - (n / 2 &&& 1431655765) = X) (e2 : (X &&& 858993459) + (X / 4 &&& 858993459) = Y) (e3 : (Y + Y / 16) &&& 252645135 = Z) : bcI (nI n) = nI ((Z + Z / 256 + (Z + Z / 256) / 65536) % 64) := by
  have f1 : nI n - (((nI n).toUInt32 >>> (((1 : Int32)).toUInt32 &&& Int32.toUInt32 31)).toInt32 &&& (1431655765 : Int32)) = nI X := by
    rw [u_shr (s := 1) 1 (by omega) hn rfl, show (1431655765 : Int32) = nI 1431655765 from rfl, i_and, Nat.pow_one, pk_sub (Nat.le_trans Nat.and_le_left (Nat.div_le_self _ _)), e1]
  have f2 : (nI X &&& (858993459 : Int32)) + (((nI X).toUInt32 >>> (((2 : Int32)).toUInt32 &&& Int32.toUInt32 31)).toInt32 &&& (858993459 : Int32)) = nI Y := by
    rw [u_shr (s := 2) 2 (by omega) hX rfl, show (858993459 : Int32) = nI 858993459 from rfl, i_and, i_and, nI_add, show 2 ^ 2 = 4 from rfl, e2]
  have f3 : (nI Y + ((nI Y).toUInt32 >>> (((4 : Int32)).toUInt32 &&& Int32.toUInt32 31)).toInt32) &&& (252645135 : Int32) = nI Z := by
    rw [u_shr (s := 4) 4 (by omega) (by omega) rfl, nI_add, show (252645135 : Int32) = nI 252645135 from rfl, i_and, show 2 ^ 4 = 16 from rfl, e3]
  have f4 : nI Z + ((nI Z).toUInt32 >>> (((8 : Int32)).toUInt32 &&& Int32.toUInt32 31)).toInt32 = nI (Z + Z / 256) := by
    rw [u_shr (s := 8) 8 (by omega) (by omega) rfl, nI_add]
  have f5 : nI (Z + Z / 256) + ((nI (Z + Z / 256)).toUInt32 >>> (((16 : Int32)).toUInt32 &&& Int32.toUInt32 31)).toInt32 = nI (Z + Z / 256 + (Z + Z / 256) / 65536) := by
    rw [u_shr (s := 16) 16 (by omega) (by omega) rfl, nI_add]
  unfold bcI
  simp only []
  rw [f1, f2, f3, f4, f5]
  exact pk_andN (by omega) 6 rfl
theorem pc_cut {A B C : Nat} (hA : A < 256) (hB : B < 256) (hC : C < 16) : pc (A + 256 * (B + 256 * C)) = pcF 8 A + (pcF 8 B + pcF 8 C) := by
  have e1 := pcF_cat 12 8 A (B + 256 * C) hA
  have e2 := pcF_cat 4 8 B C hB
  rw [show (2 : Nat) ^ 8 = 256 from rfl] at e1 e2
  rw [← pc_4 C hC, ← e2]
  exact e1
theorem bc_b2 {p q r : Nat} (p1 : p % 16 ≤ 4) (p2 : p / 16 ≤ 4) (q1 : q % 16 ≤ 4) (q2 : q / 16 ≤ 4) (r1 : r % 16 ≤ 4) (r2 : r / 16 ≤ 4) : p + 256 * (q + 256 * r) < 2 ^ 23 := by omega
theorem bc_b1 {p q r : Nat} (hp : p < 256) (hq : q < 256) (hr : r < 256) : p + 256 * (q + 256 * r) < 2 ^ 24 := by omega
theorem bc_z {a b c : Nat} (ha : a ≤ 8) (hb : b ≤ 8) (hc : c ≤ 8) : (a + 256 * (b + 256 * c) + (a + 256 * (b + 256 * c)) / 256 + (a + 256 * (b + 256 * c) + (a + 256 * (b + 256 * c)) / 256) / 65536) % 64 = a + (b + c) := by
  have e1 : (a + 256 * (b + 256 * c)) / 256 = b + 256 * c := by omega
  rw [e1]
  have e2 : (a + 256 * (b + 256 * c) + (b + 256 * c)) / 65536 = c := by omega
  rw [e2, show a + 256 * (b + 256 * c) + (b + 256 * c) + c = a + (b + c) + 64 * (4 * b + 1028 * c) by omega, Nat.add_mul_mod_self_left]
  exact Nat.mod_eq_of_lt (by omega)
theorem lt_up {x : Nat} {k m : Nat} (h : x < 2 ^ k) (hk : k ≤ m) : x < 2 ^ m := Nat.lt_of_lt_of_le h (Nat.pow_le_pow_right (by decide) hk)
theorem bc20c {A B C : Nat} (hA : A < 256) (hB : B < 256) (hC : C < 16) : bcI (nI (A + 256 * (B + 256 * C))) = nI (pc (A + 256 * (B + 256 * C))) := by
  have hC2 : C < 256 := by omega
  rw [pc_cut hA hB hC, ← bc_z (pc_8b A hA) (pc_8b B hB) (pc_8b C hC2)]
  have a1 := (g1_b A hA).2
  have b1 := (g1_b B hB).2
  have c1 := (g1_b C hC2).2
  obtain ⟨a2, a3, a4⟩ := g2_b A hA
  obtain ⟨b2, b3, b4⟩ := g2_b B hB
  obtain ⟨c2, c3, c4⟩ := g2_b C hC2
  have n0 : A + 256 * (B + 256 * C) < 2 ^ 24 := bc_b1 hA hB hC2
  have bx := bc_b1 a1 b1 c1
  have bY := bc_b2 a2 a3 b2 b3 c2 c3
  have bZ : pcF 8 A + 256 * (pcF 8 B + 256 * pcF 8 C) < 2 ^ 24 := bc_b1 (Nat.lt_of_le_of_lt (pc_8b A hA) (by decide)) (Nat.lt_of_le_of_lt (pc_8b B hB) (by decide)) (Nat.lt_of_le_of_lt (pc_8b C hC2) (by decide))
  refine bc_fin (lt_up n0 (by decide)) (lt_up bx (by decide)) (lt_up bY (by decide)) (lt_up bZ (by decide)) ?_ ?_ ?_
  · rw [show 1431655765 = 2 ^ 24 * 85 + (85 + 256 * (85 + 256 * 85)) from rfl, and_hi _ (Nat.lt_of_le_of_lt (Nat.div_le_self _ _) n0) (by decide)]
    exact bc_t1 hA hB hC
  · rw [show 858993459 = 2 ^ 24 * 51 + (51 + 256 * (51 + 256 * 51)) from rfl, and_hi _ bx (by decide), and_hi _ (Nat.lt_of_le_of_lt (Nat.div_le_self _ _) bx) (by decide)]
    exact bc_t2 a1 b1 c1
  · rw [show 252645135 = 2 ^ 24 * 15 + (15 + 256 * (15 + 256 * 15)) from rfl, and_hi _ (Nat.lt_of_le_of_lt (Nat.add_le_add_left (Nat.div_le_self _ _) _) (by rw [← Nat.two_mul]; exact Nat.lt_of_lt_of_le (Nat.mul_lt_mul_of_pos_left bY (by decide)) (by decide))) (by decide)]
    exact bc_t3 a2 a3 a4 b2 b3 b4 c2 c3 c4
theorem bc20 {n : Nat} (h : n < 2 ^ 20) : bcI (nI n) = nI (pc n) := by
  have e : n % 256 + 256 * (n / 256 % 256 + 256 * (n / 65536)) = n := by omega
  have := bc20c (A := n % 256) (B := n / 256 % 256) (C := n / 65536) (by omega) (by omega) (by omega)
  rw [e] at this
  exact this
theorem r_bc20 {n : Nat} {post : Int32 → Prop} (h : n < 2 ^ 20) (hp : post (nI (pc n))) : qJ6_bitCount_0f7a4 (nI n) post := by
  intro a ea b eb c ec d ed e ee
  subst ea; subst eb; subst ec; subst ed; subst ee
  have := bc20 h
  rw [← this] at hp
  exact hp
