/-! STEPS 10: sums, sumAt, oddsThat -/
theorem nI_z {n : Nat} (h : n < 2 ^ 31) : nI n = 0 ↔ n = 0 := nI_eq (b := 0) h (by omega)
/-- in one and not in the other -/
def andn (a b : Nat) : Nat := a ^^^ (a &&& b)
theorem tb_andn (a b s : Nat) : (andn a b).testBit s = (a.testBit s && ! b.testBit s) := by
  unfold andn
  rw [Nat.testBit_xor, Nat.testBit_and]
  cases a.testBit s <;> cases b.testBit s <;> rfl
theorem andn_lt {a b n : Nat} (h : a < 2 ^ n) : andn a b < 2 ^ n := Nat.xor_lt_two_pow h (Nat.lt_of_le_of_lt Nat.and_le_left h)
theorem i_andn (a b : Nat) : nI a &&& (nI b ^^^ (-1)) = nI (andn a b) := by
  unfold andn
  rw [← i_xor, ← i_and]
  apply i_bvx
  rw [Int32.toBitVec_and, Int32.toBitVec_xor, Int32.toBitVec_xor, Int32.toBitVec_and, show (-1 : Int32).toBitVec = BitVec.allOnes 32 from rfl]
  apply BitVec.eq_of_getLsbD_eq
  intro i hi
  rw [BitVec.getLsbD_and, BitVec.getLsbD_xor, BitVec.getLsbD_xor, BitVec.getLsbD_and, BitVec.getLsbD_allOnes, decide_eq_true hi]
  cases (nI a).toBitVec.getLsbD i <;> cases (nI b).toBitVec.getLsbD i <;> rfl
theorem nz_bit {a : Nat} : a = 0 ↔ ∀ s, a.testBit s = false := by
  constructor
  · intro h s
    rw [h, Nat.zero_testBit]
  · intro h
    apply Nat.eq_of_testBit_eq
    intro s
    rw [h s, Nat.zero_testBit]
theorem tb_pred (n s : Nat) : (2 ^ n - 1).testBit s = decide (s < n) := by
  have := pw_sub (n := n) (x := 0) (Nat.two_pow_pos n) s
  rw [Nat.sub_zero, Nat.zero_testBit] at this
  rw [this]
  simp
/-- not outside of the ones that are not paid: none is paid -/
theorem open_iff {g p n : Nat} (hg : g < 2 ^ n) : andn g (andn (2 ^ n - 1) p) = 0 ↔ g &&& p = 0 := by
  rw [nz_bit, nz_bit]
  refine forall_congr' (fun s => ?_)
  rw [tb_andn, tb_andn, tb_pred, Nat.testBit_and]
  by_cases c : s < n
  · cases g.testBit s <;> cases p.testBit s <;> simp [c]
  · rw [Nat.testBit_lt_two_pow (Nat.lt_of_lt_of_le hg (Nat.pow_le_pow_right (by decide) (by omega)))]
    simp
def sF (M : MH) (g d : Nat) : Nat := if g.testBit d then owd M d else 0
def mkS (M : MH) (g n : Nat) : Bool := decide (g &&& M 6 0 = 0) && decide (sumF (sF M g) (M 2 0) = n)
theorem sF_le {M : MH} (ok : okH M) (g : Nat) : sumF (sF M g) (M 2 0) ≤ 7686 := by
  have h1 := sumF_le (f := sF M g) (b := 1098) (M 2 0) (fun i hi => by
    have := owd_le ok hi
    unfold sF
    split <;> omega)
  have h2 := ok_nd ok
  omega
theorem makes_loop {M : MH} {g : Nat} {y : Int32} {u : St} {post : Int32 → St → Prop} (ok : okH M) (hg : g < 2 ^ 31) (h : CH u M) (fin : qX2_makesSum_b53 post y (nI (sumF (sF M g) (M 2 0))) u) : ∀ (m i : Nat), i + m = M 2 0 → qX2_makesSum_L16 post (m + 1) (nI g) y (nI (sumF (sF M g) i)) (nI i) u := by
  have h7 := ok_nd ok
  intro m
  induction m with
  | zero =>
    intro i hi
    refine ⟨fun _ => ?_, fun c => absurd (by rw [ch_k h (by omega)]; exact nI_le (by omega) (by omega)) c⟩
    rw [show i = M 2 0 by omega]
    exact fin
  | succ m ih =>
    intro i hi
    have nx := ih (i + 1) (by omega)
    rw [sumF] at nx
    refine ⟨fun c => absurd c (by rw [ch_k h (by omega)]; exact nI_ge (by omega) (by omega)), fun _ => r_has hg (by omega) (fun c => ⟨fun c => absurd c (by decide), fun _ => r_owed ok h (by omega) (fun x e y e2 => ?_)⟩) (fun c => ⟨fun _ x e y e2 => ?_, fun c => absurd rfl c⟩)⟩
    · rw [nI_add] at e
      rw [nI_1] at e2
      subst e; subst e2
      rw [show sF M g i = owd M i from if_pos c] at nx
      exact nx
    · rw [Int32.add_zero] at e
      rw [nI_1] at e2
      subst e; subst e2
      rw [show sF M g i = 0 from if_neg (by rw [c]; decide), Nat.add_zero] at nx
      exact nx
theorem r_makesSum {M : MH} {g n : Nat} {u : St} {post : Int32 → St → Prop} (ok : okH M) (hg : g < 2 ^ 31) (hn : n < 2 ^ 31) (h : CH u M) (h1 : mkS M g n = true → post 1 u) (h0 : mkS M g n = false → post 0 u) : qX2_makesSum (nI g) (nI n) u post := by
  have hp := ok_paid ok
  have hl := sF_le ok g
  unfold qX2_makesSum
  rw [ch_k h (by omega), i_and]
  have hz : nI (g &&& M 6 0) = 0 ↔ g &&& M 6 0 = 0 := nI_eq (b := 0) (Nat.lt_of_le_of_lt Nat.and_le_left hg) (by omega)
  rw [hz]
  unfold mkS at h1 h0
  refine ⟨fun c => ⟨_, makes_loop ok hg h ⟨fun c2 => ⟨Or.inl rfl, h0 ?_⟩, fun c2 => ⟨Or.inr rfl, h1 ?_⟩⟩ (M 2 0) 0 (by omega)⟩, fun c => h0 ?_⟩
  · rw [nI_eq (by omega) (by omega)] at c2
    simp [c2]
  · rw [nI_eq (by omega) (by omega)] at c2
    simp [c, c2]
  · simp [c]
theorem m_isSum_loop {M : MH} {g : Nat} {y : Int32} {u : St} {post : Int32 → St → Prop} (ok : okH M) (hg : g < 2 ^ 31) (h : MC u M) (fin : qX12_isSum_b45 post (nI g) y (nI (sumF (sF M g) (M 2 0))) u) : ∀ (m i : Nat), i + m = M 2 0 → qX12_isSum_L5 post (m + 1) (nI g) y (nI (sumF (sF M g) i)) (nI i) u := by
  have h7 := ok_nd ok
  have e2 : ga u 0 (2 : Int32).toNatClampNeg = nI (M 2 0) := mc_k (k := 2) h (by omega)
  intro m
  induction m with
  | zero =>
    intro i hi
    refine ⟨fun _ => ?_, fun c => absurd (by rw [e2]; exact nI_le (by omega) (by omega)) c⟩
    rw [show i = M 2 0 by omega]
    exact fin
  | succ m ih =>
    intro i hi
    have nx := ih (i + 1) (by omega)
    rw [sumF] at nx
    refine ⟨fun c => absurd c (by rw [e2]; exact nI_ge (by omega) (by omega)), fun _ => m_isIn hg (by omega) (fun c => ⟨fun c => absurd c (by decide), fun _ => m_owedOf ok h (by omega) (fun x e y e2 => ?_)⟩) (fun c => ⟨fun _ x e y e2 => ?_, fun c => absurd rfl c⟩)⟩
    · rw [nI_add] at e
      rw [nI_1] at e2
      subst e; subst e2
      rw [show sF M g i = owd M i from if_pos c] at nx
      exact nx
    · rw [Int32.add_zero] at e
      rw [nI_1] at e2
      subst e; subst e2
      rw [show sF M g i = 0 from if_neg (by rw [c]; decide), Nat.add_zero] at nx
      exact nx
theorem m_openDebts {M : MH} {u : St} {post : Int32 → St → Prop} (ok : okH M) (h : MC u M) (hp : post (nI (andn (2 ^ M 2 0 - 1) (M 6 0))) u) : qX12_openDebts u post := by
  have h7 := ok_nd ok
  show post ((((1 : Int32) <<< (ga u 0 (2 : Int32).toNatClampNeg &&& 31)) - 1) &&& (ga u 0 (6 : Int32).toNatClampNeg ^^^ (-1))) u
  rw [show ga u 0 (2 : Int32).toNatClampNeg = nI (M 2 0) from mc_k (k := 2) h (by omega), show ga u 0 (6 : Int32).toNatClampNeg = nI (M 6 0) from mc_k (k := 6) h (by omega), i_all (by omega), i_andn]
  exact hp
theorem m_isSum {M : MH} {g n : Nat} {u : St} {post : Int32 → St → Prop} (ok : okH M) (hg : g < 2 ^ M 2 0) (hn : n < 2 ^ 31) (h : MC u M) (h1 : mkS M g n = true → post 1 u) (h0 : mkS M g n = false → post 0 u) : qX12_isSum (nI g) (nI n) u post := by
  have hp := ok_paid ok
  have hl := sF_le ok g
  have hg31 : g < 2 ^ 31 := pw_lt hg (by have := ok_nd ok; omega)
  unfold mkS at h1 h0
  refine ⟨_, m_isSum_loop ok hg31 h ⟨fun c2 => ⟨Or.inl rfl, h0 ?_⟩, fun c2 => m_openDebts ok h ?_⟩ (M 2 0) 0 (by omega)⟩
  · rw [nI_eq (by omega) (by omega)] at c2
    simp [c2]
  · rw [nI_eq (by omega) (by omega)] at c2
    rw [i_andn, nI_z (andn_lt hg31), open_iff hg]
    exact ⟨fun c => ⟨Or.inl rfl, h0 (by simp [c])⟩, fun c => ⟨Or.inr rfl, h1 (by simp [c, c2])⟩⟩
/-- how many sets below a number make a sum -/
def cS (P : Nat → Bool) : Nat → Nat
  | 0 => 0
  | k + 1 => cS P k + if P k then 1 else 0
theorem cS_le (P : Nat → Bool) : ∀ k, cS P k ≤ k := by
  intro k
  induction k with
  | zero => exact Nat.le_refl 0
  | succ k ih =>
    rw [cS]
    split <;> omega
def pS (M : MH) (n a g : Nat) : Bool := decide (g &&& a = a) && mkS M g n
theorem count_loop {M : MH} {n a : Nat} {u : St} {post : Int32 → St → Prop} (ok : okH M) (hn : n < 2 ^ 31) (ha : a < 2 ^ 31) (h : CH u M) (fin : post (nI (cS (pS M n a) (2 ^ M 2 0))) u) : ∀ (m i : Nat), i + m = 2 ^ M 2 0 → qX2_countSums_L5 post (m + 1) (nI n) (nI a) (nI (cS (pS M n a) i)) (nI i) u := by
  have h7 := ok_nd ok
  have h27 : 2 ^ M 2 0 < 2 ^ 8 := Nat.pow_lt_pow_right (by decide) (by omega)
  have e1 : (1 : Int32) <<< (gi u 2 &&& 31) = nI (2 ^ M 2 0) := by rw [ch_k h (by omega), i_one (by omega)]
  intro m
  induction m with
  | zero =>
    intro i hi
    refine ⟨fun _ => ?_, fun c => absurd (by rw [e1]; exact nI_le (by omega) (by omega)) c⟩
    rw [show i = 2 ^ M 2 0 by omega]
    exact fin
  | succ m ih =>
    intro i hi
    have nx := ih (i + 1) (by omega)
    rw [cS] at nx
    refine ⟨fun c => absurd c (by rw [e1]; exact nI_ge (by omega) (by omega)), fun _ => ?_⟩
    rw [i_and, nI_eq (Nat.lt_of_le_of_lt Nat.and_le_right ha) ha]
    refine ⟨fun c z ez => ?_, fun c => r_makesSum ok (by omega) hn h (fun c2 => ⟨fun c => absurd c (by decide), fun _ y ey z ez => ?_⟩) (fun c2 => ⟨fun _ z ez => ?_, fun c => absurd rfl c⟩)⟩
    · rw [nI_1] at ez
      subst ez
      rw [if_neg (by unfold pS; simp [c]), Nat.add_zero] at nx
      exact nx
    · rw [nI_1] at ez ey
      subst ez; subst ey
      rw [if_pos (by unfold pS; simp [c, c2])] at nx
      exact nx
    · rw [nI_1] at ez
      subst ez
      rw [if_neg (by unfold pS; simp [c2]), Nat.add_zero] at nx
      exact nx
theorem r_countSums {M : MH} {n a : Nat} {u : St} {post : Int32 → St → Prop} (ok : okH M) (hn : n < 2 ^ 31) (ha : a < 2 ^ 31) (h : CH u M) (fin : post (nI (cS (pS M n a) (2 ^ M 2 0))) u) : qX2_countSums (nI n) (nI a) u post := ⟨_, count_loop ok hn ha h fin (2 ^ M 2 0) 0 (by omega)⟩
/-- the k-th, from a set on -/
def nS (P : Nat → Bool) (K : Nat) : Nat → Nat → Nat → Int32
  | 0, _, _ => -1
  | m + 1, i, c => if P i then (if c = K then nI i else nS P K m (i + 1) (c + 1)) else nS P K m (i + 1) c
theorem nth_loop {M : MH} {n K : Nat} {u : St} {post : Int32 → St → Prop} (ok : okH M) (hn : n < 2 ^ 31) (hK : K < 2 ^ 31) (h : CH u M) : ∀ (m i c : Nat), i + m = 2 ^ M 2 0 → c ≤ K → post (nS (fun g => mkS M g n) K m i c) u → qX2_nthSum_L5 post (m + 1) (nI n) (nI (K - c)) (nI i) u := by
  have h7 := ok_nd ok
  have h27 : 2 ^ M 2 0 < 2 ^ 8 := Nat.pow_lt_pow_right (by decide) (by omega)
  have e1 : (1 : Int32) <<< (gi u 2 &&& 31) = nI (2 ^ M 2 0) := by rw [ch_k h (by omega), i_one (by omega)]
  intro m
  induction m with
  | zero =>
    intro i c hi hc fin
    exact ⟨fun _ => fin, fun c => absurd (by rw [e1]; exact nI_le (by omega) (by omega)) c⟩
  | succ m ih =>
    intro i c hi hc fin
    rw [nS] at fin
    refine ⟨fun c => absurd c (by rw [e1]; exact nI_ge (by omega) (by omega)), fun _ => r_makesSum ok (by omega) hn h (fun c2 => ⟨fun c => absurd c (by decide), fun _ => ?_⟩) (fun c2 => ⟨fun _ z ez => ?_, fun c => absurd rfl c⟩)⟩
    · rw [if_pos c2] at fin
      rw [nI_z (by omega)]
      refine ⟨fun c3 y ey z ez => ?_, fun c3 => ?_⟩
      · rw [show K - c = (K - (c + 1)) + 1 by omega, pk_m1] at ey
        rw [nI_1] at ez
        subst ez; subst ey
        rw [if_neg (by omega)] at fin
        exact ih (i + 1) (c + 1) (by omega) (by omega) fin
      · rw [if_pos (by omega)] at fin
        exact fin
    · rw [nI_1] at ez
      subst ez
      rw [if_neg (by rw [c2]; decide)] at fin
      exact ih (i + 1) c (by omega) hc fin
/-- the reference's count -/
theorem summed_count {M : MH} {n a : Nat} {x : Int32} {u : St} {post : Int32 → St → Prop} (ok : okH M) (hn : n < 2 ^ 31) (h : MC u M) (ha : (x = -1 ∧ a = 0) ∨ ∃ d, d < M 2 0 ∧ x = nI d ∧ a = 2 ^ d) (fin : post (nI (cS (pS M n a) (2 ^ M 2 0))) u) : ∀ (m i : Nat), i + m = 2 ^ M 2 0 → qX12_summed_L6 post (m + 1) (nI n) (-1) x (nI (cS (pS M n a) i)) (nI i) u := by
  have h7 := ok_nd ok
  have h27 : 2 ^ M 2 0 < 2 ^ 8 := Nat.pow_lt_pow_right (by decide) (by omega)
  have h2p := Nat.two_pow_pos (M 2 0)
  have e1 : ((1 : Int32) <<< (ga u 0 (2 : Int32).toNatClampNeg &&& 31)) - 1 = nI (2 ^ M 2 0 - 1) := by rw [show ga u 0 (2 : Int32).toNatClampNeg = nI (M 2 0) from mc_k (k := 2) h (by omega), i_all (by omega)]
  intro m
  induction m with
  | zero =>
    intro i hi
    unfold qX12_summed_L6 qX12_summed_l6 qX12_allDebts
    rw [e1]
    refine ⟨fun _ => ⟨fun c => absurd c (by decide), fun _ => ?_⟩, fun c => absurd (nI_lt (by omega) (by omega)) c⟩
    rw [show i = 2 ^ M 2 0 by omega]
    exact fin
  | succ m ih =>
    intro i hi
    have nx := ih (i + 1) (by omega)
    rw [cS] at nx
    have hcl := cS_le (pS M n a) i
    have sk : pS M n a i = false → qX12_summed_b55 post (qX12_summed_L6 post (m + 1)) (nI n) (-1) x (nI (cS (pS M n a) i)) (nI i) u := fun c z ez => by
      rw [nI_1] at ez
      subst ez
      rw [if_neg (by rw [c]; decide), Nat.add_zero] at nx
      exact nx
    have tk : pS M n a i = true → qX12_summed_b43 post (qX12_summed_L6 post (m + 1)) (nI n) (-1) x (nI (cS (pS M n a) i)) (nI i) u := fun c => by
      refine ⟨fun _ y ey z ez => ?_, fun c => ?_⟩
      · rw [nI_1] at ez ey
        subst ez; subst ey
        rw [if_pos c] at nx
        exact nx
      · rw [i_eq, nI_toInt (by omega)] at c
        have : (-1 : Int32).toInt = -1 := rfl
        omega
    unfold qX12_summed_L6 qX12_summed_l6 qX12_allDebts
    rw [e1]
    refine ⟨fun c => absurd ((nI_ltI (by omega) (by omega)).mp c) (by omega), fun _ => m_isSum ok (by omega) hn h (fun c2 => ⟨fun c => absurd c (by decide), fun _ => ?_⟩) (fun c2 => ⟨fun _ => sk (by unfold pS; simp [c2]), fun c => absurd rfl c⟩)⟩
    rcases ha with ⟨rfl, rfl⟩ | ⟨d, hd, rfl, rfl⟩
    · exact ⟨fun _ => tk (by unfold pS; simp [c2]), fun c => absurd rfl c⟩
    · have pw : (i &&& 2 ^ d = 2 ^ d) ↔ i.testBit d = true := by
        constructor
        · intro e
          have : (i &&& 2 ^ d).testBit d = true := by rw [e, Nat.testBit_two_pow_self]
          rw [Nat.testBit_and, Bool.and_eq_true] at this
          exact this.1
        · intro e
          apply Nat.eq_of_testBit_eq
          intro s
          rw [Nat.testBit_and, Nat.testBit_two_pow]
          by_cases q : d = s
          · subst q
            rw [e]
            simp
          · simp [q]
      refine ⟨fun c => ?_, fun _ => m_isIn (by omega) (by omega) (fun c3 => ⟨fun _ => tk (by unfold pS; simp [c2, pw.mpr c3]), fun c => absurd c (by decide)⟩) (fun c3 => ⟨fun c => absurd rfl c, fun _ => sk ?_⟩)⟩
      · rw [i_eq, nI_toInt (by omega)] at c
        have : (-1 : Int32).toInt = -1 := rfl
        omega
      · unfold pS
        have : ¬ (i &&& 2 ^ d = 2 ^ d) := fun q => by
          rw [pw.mp q] at c3
          exact absurd c3 (by decide)
        simp [this]
theorem m_count {M : MH} {n a : Nat} {x : Int32} {u : St} {post : Int32 → St → Prop} (ok : okH M) (hn : n < 2 ^ 31) (h : MC u M) (ha : (x = -1 ∧ a = 0) ∨ ∃ d, d < M 2 0 ∧ x = nI d ∧ a = 2 ^ d) (fin : post (nI (cS (pS M n a) (2 ^ M 2 0))) u) : qX12_summed (nI n) (-1) x u post := ⟨_, summed_count ok hn h ha fin (2 ^ M 2 0) 0 (by omega)⟩
theorem summed_nth {M : MH} {n K : Nat} {u : St} {post : Int32 → St → Prop} (ok : okH M) (hn : n < 2 ^ 31) (hK : K < 2 ^ 31) (h : MC u M) : ∀ (m i c : Nat), i + m = 2 ^ M 2 0 → c ≤ i → c ≤ K → post (nS (fun g => mkS M g n) K m i c) u → qX12_summed_L6 post (m + 1) (nI n) (nI K) (-1) (nI c) (nI i) u := by
  have h7 := ok_nd ok
  have h27 : 2 ^ M 2 0 < 2 ^ 8 := Nat.pow_lt_pow_right (by decide) (by omega)
  have h2p := Nat.two_pow_pos (M 2 0)
  have e1 : ((1 : Int32) <<< (ga u 0 (2 : Int32).toNatClampNeg &&& 31)) - 1 = nI (2 ^ M 2 0 - 1) := by rw [show ga u 0 (2 : Int32).toNatClampNeg = nI (M 2 0) from mc_k (k := 2) h (by omega), i_all (by omega)]
  intro m
  induction m with
  | zero =>
    intro i c hi hc hc2 fin
    unfold qX12_summed_L6 qX12_summed_l6 qX12_allDebts
    rw [e1]
    refine ⟨fun _ => ⟨fun _ => fin, fun c => absurd (nI_le (a := 0) (by omega) (by omega)) c⟩, fun c => absurd (nI_lt (by omega) (by omega)) c⟩
  | succ m ih =>
    intro i c hi hc hc2 fin
    rw [nS] at fin
    unfold qX12_summed_L6 qX12_summed_l6 qX12_allDebts
    rw [e1]
    refine ⟨fun c => absurd ((nI_ltI (by omega) (by omega)).mp c) (by omega), fun _ => m_isSum ok (by omega) hn h (fun c2 => ⟨fun c => absurd c (by decide), fun _ => ⟨fun _ => ?_, fun c => absurd rfl c⟩⟩) (fun c2 => ⟨fun _ z ez => ?_, fun c => absurd rfl c⟩)⟩
    · rw [if_pos c2] at fin
      unfold qX12_summed_b43
      rw [nI_eq (by omega) (by omega)]
      refine ⟨fun c3 y ey z ez => ?_, fun c3 => ?_⟩
      · rw [nI_1] at ez ey
        subst ez; subst ey
        rw [if_neg c3] at fin
        exact ih (i + 1) (c + 1) (by omega) (by omega) (by omega) fin
      · rw [if_pos c3] at fin
        exact fin
    · rw [nI_1] at ez
      subst ez
      rw [if_neg (by rw [c2]; decide)] at fin
      exact ih (i + 1) c (by omega) (by omega) (by omega) fin
theorem nS_cases (P : Nat → Bool) (K : Nat) : ∀ m i c, i + m < 2 ^ 31 → nS P K m i c = -1 ∨ ∃ j, j < 2 ^ 31 ∧ nS P K m i c = nI j := by
  intro m
  induction m with
  | zero => intro i c _; exact Or.inl rfl
  | succ m ih =>
    intro i c hi
    rw [nS]
    split
    · split
      · exact Or.inr ⟨i, by omega, rfl⟩
      · exact ih (i + 1) (c + 1) (by omega)
    · exact ih (i + 1) c (by omega)
theorem sp_sums : SP_sums RR := fun x cs ms h => by
  obtain ⟨M, ok, hs, hc, hm, ht⟩ := rr_house h
  have hr : ∀ v, RR (va_up (va_up cs 0 (si (cs 0) 0 v)) 5 (cs 5)) (si ms 2 v) := fun v => by
    rw [up_skip cs 0 5 _ (by decide)]
    exact rr_st h v
  refine r_within 0 9999 rfl rfl (fun p q => ⟨fun _ => ?_, fun c => absurd c (by decide)⟩) (fun p => ⟨fun c => absurd rfl c, fun _ => r_refuse (m_isFrom 0 9999 rfl rfl (fun a b => absurd p (by omega)) (fun _ => ⟨fun c => absurd rfl c, fun _ => m_refuse ⟨rfl, hr 1⟩⟩))⟩)
  obtain ⟨n, hn, rfl, hn31⟩ := i_nat (n := 9999) p q
  exact r_countSums (a := 0) ok hn31 (by omega) hc (r_answer (m_isFrom 0 9999 rfl rfl (fun a b => ⟨fun _ => m_count ok hn31 hm (Or.inl ⟨rfl, rfl⟩) (m_gives ⟨rfl, hr 0⟩), fun c => absurd c (by decide)⟩) (fun r => absurd r (by omega))))
theorem sp_sumAt : SP_sumAt RR := fun x y cs ms h => by
  obtain ⟨M, ok, hs, hc, hm, ht⟩ := rr_house h
  have h7 := ok_nd ok
  have h27 : 2 ^ M 2 0 < 2 ^ 8 := Nat.pow_lt_pow_right (by decide) (by omega)
  have hr : ∀ v, RR (va_up (va_up cs 0 (si (cs 0) 0 v)) 5 (cs 5)) (si ms 2 v) := fun v => by
    rw [up_skip cs 0 5 _ (by decide)]
    exact rr_st h v
  refine r_within 0 9999 rfl rfl (fun p q => ⟨fun c => absurd c (by decide), fun _ => ?_⟩) (fun p => ⟨fun _ => r_refuse (m_isFrom 0 9999 rfl rfl (fun a b => absurd p (by omega)) (fun _ => ⟨fun _ => m_refuse ⟨rfl, hr 1⟩, fun c => absurd rfl c⟩)), fun c => absurd rfl c⟩)
  obtain ⟨n, hn, rfl, hn31⟩ := i_nat (n := 9999) p q
  have mg : ∀ {post : Int32 → Prop}, post 1 → qX12_isFrom (nI n).toInt64 0 9999 post := fun hp => m_isFrom 0 9999 rfl rfl (fun a b => hp) (fun r => absurd r (by omega))
  refine ⟨fun c => ?_, fun c => r_refuse (mg ⟨fun c => absurd c (by decide), fun _ => ⟨fun c2 => absurd c2 c, fun _ => m_refuse ⟨rfl, hr 1⟩⟩⟩)⟩
  have hy := y.toInt_lt
  obtain ⟨K, -, rfl, hK⟩ := i_nat (x := y) (n := 2 ^ 31) (by rw [i_le] at c; exact c) (by omega)
  have fin := nS_cases (fun g => mkS M g n) K (2 ^ M 2 0) 0 0 (by omega)
  refine ⟨_, nth_loop (K := K) ok hn31 hK hc (2 ^ M 2 0) 0 0 (by omega) (by omega) ?_⟩
  refine ⟨fun c2 => r_answer (mg ⟨fun c => absurd c (by decide), fun _ => ⟨fun _ => ⟨_, summed_nth ok hn31 hK hm (2 ^ M 2 0) 0 0 (by omega) (by omega) (by omega) ⟨fun _ => m_gives ⟨rfl, hr 0⟩, fun c3 => absurd c3 c2⟩⟩, fun c2 => absurd c c2⟩⟩), fun c2 => r_refuse (mg ⟨fun c => absurd c (by decide), fun _ => ⟨fun _ => ⟨_, summed_nth ok hn31 hK hm (2 ^ M 2 0) 0 0 (by omega) (by omega) (by omega) ⟨fun c3 => absurd c2 c3, fun _ => m_refuse ⟨rfl, hr 6⟩⟩⟩, fun c2 => absurd c c2⟩⟩)⟩
theorem sp_oddsThat : SP_oddsThat RR := fun x y cs ms h => by
  obtain ⟨M, ok, hs, hc, hm, ht⟩ := rr_house h
  have h7 := ok_nd ok
  have h27 : 2 ^ M 2 0 < 2 ^ 8 := Nat.pow_lt_pow_right (by decide) (by omega)
  have hr : ∀ v, RR (va_up (va_up cs 0 (si (cs 0) 0 v)) 5 (cs 5)) (si ms 2 v) := fun v => by
    rw [up_skip cs 0 5 _ (by decide)]
    exact rr_st h v
  refine r_within 0 9999 rfl rfl (fun p q => ⟨fun c => absurd c (by decide), fun _ => ?_⟩) (fun p => ⟨fun _ => r_deny ⟨Or.inl rfl, m_isFrom 0 9999 rfl rfl (fun a b => absurd p (by omega)) (fun _ => ⟨fun _ => m_is1 (by decide) ⟨Or.inl rfl, rfl, hr 1⟩, fun c => absurd rfl c⟩)⟩, fun c => absurd rfl c⟩)
  obtain ⟨n, hn, rfl, hn31⟩ := i_nat (n := 9999) p q
  have mg : ∀ {post : Int32 → Prop}, post 1 → qX12_isFrom (nI n).toInt64 0 9999 post := fun hp => m_isFrom 0 9999 rfl rfl (fun a b => hp) (fun r => absurd r (by omega))
  refine r_isDebt (n := M 2 0) (by omega) (ch_k hc (by omega)) (fun c => ⟨fun _ => ?_, fun c => absurd c (by decide)⟩) (fun c => ⟨fun c => absurd rfl c, fun _ => ?_⟩)
  · have mi : ∀ {post : Int32 → St → Prop}, post 1 ms → qX12_isDebt y ms post := fun hp => m_isDebt (n := M 2 0) (by omega) (mc_k hm (by omega)) (fun _ => hp) (fun c2 => absurd c c2)
    obtain ⟨d, hd, rfl⟩ := c.nat (by omega)
    have hl1 := cS_le (pS M n 0) (2 ^ M 2 0)
    have hl2 := cS_le (pS M n (2 ^ d)) (2 ^ M 2 0)
    refine r_countSums (a := 0) ok hn31 (by omega) hc ?_
    by_cases c0 : cS (pS M n 0) (2 ^ M 2 0) = 0
    · rw [c0]
      refine ⟨fun c => absurd rfl c, fun _ => r_deny ⟨Or.inl rfl, mg ⟨fun c => absurd c (by decide), fun _ => mi ⟨fun _ => m_count ok hn31 hm (Or.inl ⟨rfl, rfl⟩) ?_, fun c => absurd c (by decide)⟩⟩⟩⟩
      rw [c0]
      exact ⟨fun c => absurd rfl c, fun _ => m_is1 (by decide) ⟨Or.inl rfl, rfl, hr 6⟩⟩
    · have cn : ¬ nI (cS (pS M n 0) (2 ^ M 2 0)) = 0 := fun q => c0 ((nI_eq (b := 0) (by omega) (by omega)).mp q)
      refine ⟨fun _ => ?_, fun c => absurd c cn⟩
      rw [i_one (by omega)]
      refine r_countSums ok hn31 (Nat.pow_lt_pow_right (by decide) (by omega)) hc ?_
      rw [i_long (by omega), i_long (by omega)]
      refine r_tell (by omega) (by omega) (by omega) ⟨Or.inr rfl, mg ⟨fun c => absurd c (by decide), fun _ => mi ⟨fun _ => m_count ok hn31 hm (Or.inl ⟨rfl, rfl⟩) ⟨fun _ => m_count ok hn31 hm (Or.inr ⟨d, hd, rfl, rfl⟩) ?_, fun c => absurd c cn⟩, fun c => absurd c (by decide)⟩⟩⟩
      rw [i_long (by omega), i_long (by omega)]
      refine m_tells (by omega) (by omega) (by omega) ⟨Or.inr rfl, rfl, ?_⟩
      rw [up_skip cs 0 5 _ (by decide)]
      exact rr_frac h _ _
  · exact r_deny ⟨Or.inl rfl, mg ⟨fun c => absurd c (by decide), fun _ => m_isDebt (n := M 2 0) (by omega) (mc_k hm (by omega)) (fun c2 => absurd c2 c) (fun _ => ⟨fun c => absurd rfl c, fun _ => m_is1 (by decide) ⟨Or.inl rfl, rfl, hr 1⟩⟩)⟩⟩
