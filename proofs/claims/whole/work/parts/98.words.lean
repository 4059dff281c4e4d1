/-! STEPS 33: reading, words and names -/
def kyL : List Nat := [32, 111, 100, 100, 115, 32, 115, 116, 111, 110, 101, 32, 112, 101, 114, 115, 111, 110, 32, 100, 101, 98, 116, 32, 109, 111, 114, 116, 97, 114, 32, 119, 101, 105, 103, 104, 116, 32, 111, 110, 32, 99, 97, 115, 104, 32, 115, 117, 109, 32, 114, 97, 116, 101, 32, 99, 111, 109, 112, 111, 117, 110, 100, 32, 97, 116, 32, 108, 101, 97, 118, 101, 115, 32, 121, 101, 97, 114, 32, 112, 97, 121, 32, 115, 110, 105, 112, 32, 109, 101, 110, 100, 32, 103, 105, 118, 101, 32, 97, 110, 121, 32, 119, 104, 101, 110, 32, 108, 111, 111, 112, 32, 101, 110, 100, 32, 115, 116, 111, 112, 32, 115, 116, 97, 110, 100, 115, 32, 112, 97, 105, 100, 32]
def kyT (i : Nat) : Nat := kyL.getD i 0
def kS (w : Nat) : Nat := [1, 6, 12, 19, 24, 31, 38, 41, 46, 50, 55, 64, 67, 74, 79, 83, 88, 93, 98, 102, 107, 112, 116, 121, 128, 133].getD w 0
def kE (w : Nat) : Nat := [5, 11, 18, 23, 30, 37, 40, 45, 49, 54, 63, 66, 73, 78, 82, 87, 92, 97, 101, 106, 111, 115, 120, 127, 132].getD w 0
/-- the class's words among the reference's -/
def wM (c : Nat) : Nat := [0, 1, 4, 5, 6, 2, 7, 3, 8, 9, 10, 11, 12, 13, 14, 15, 16, 17, 18, 19, 23, 24, 20, 21, 22].getD c 0
theorem ky_all : ∀ i, i < 133 → ((((kBy.getD i 0) &&& (255 : Int32))).toUInt32 % 65536).toInt32 = nI (kyT i) ∧ kyT i < 256 := by decide +kernel
theorem kw_all : ∀ w, w < 25 → kS w < kE w ∧ kE w ≤ 132 ∧ kE w - kS w ≤ 8 ∧ kS (w + 1) = kE w + 1 ∧ kyT (kE w) = 32 ∧ ∀ i, i < 133 → kS w ≤ i → i < kE w → 97 ≤ kyT i ∧ kyT i ≤ 122 := by decide +kernel
theorem kc_all : ∀ c, c < 25 → wM c < 25 ∧ wCd.getD c 0 = lN (c32 kyT (kS (wM c)) (kE (wM c) - kS (wM c))) ∧ c32 kyT (kS (wM c)) (kE (wM c) - kS (wM c)) < 2 ^ 40 := by decide +kernel
theorem kd_all : ∀ w, w < 25 → ∀ v, v < 25 → c32 kyT (kS w) (kE w - kS w) = c32 kyT (kS v) (kE v - kS v) → w = v := by decide +kernel
theorem ko_all : ∀ w, w < 25 → ∃ c, c < 25 ∧ wM c = w := by decide +kernel
theorem m_char {i : Nat} {post : Int32 → Prop} (hi : i < 133) (h : post (nI (kyT i))) : qJ0_charAt_5068e (nI i) post := by
  obtain ⟨e, hb⟩ := ky_all i hi
  refine ⟨fun q => absurd q (by decide), fun _ => ⟨fun q => absurd rfl q, fun _ => ⟨Or.inr rfl, fun q => absurd q (by decide), fun _ => ?_⟩⟩⟩
  intro v
  rw [← e] at h
  have nc : narrow .char (.int ((((kBy.getD (nI i).toNatClampNeg 0) &&& (255 : Int32))).toUInt32 % 65536).toInt32) = .int ((((kBy.getD (nI i).toNatClampNeg 0) &&& (255 : Int32))).toUInt32 % 65536).toInt32 := by
    rw [nI_clamp (by omega), e]
    exact (cz_i hb).1
  refine ⟨fun q => absurd q (nI_pos (by omega)), fun _ => ⟨fun _ => ⟨vp_in_nI hi (by omega), nc, nc, ?_⟩, fun q => absurd (nI_lt (b := 133) hi (by omega)) q⟩⟩
  rw [nI_clamp (by omega)]
  exact h
theorem m_len {post : Int32 → Prop} (h : post 133) : qJ0_length_8abf5 post := by
  refine ⟨fun q => absurd q (by decide), fun _ => ⟨?_, ?_⟩⟩
  · decide
  · exact h
theorem c32_lt (A : Nat → Nat) (p : Nat) : ∀ k, (∀ i, i < k → 97 ≤ A (p + i) ∧ A (p + i) ≤ 122) → c32 A p k < 32 ^ k := by
  intro k
  induction k with
  | zero => intro _; exact Nat.one_pos
  | succ k ih =>
    intro h
    have h1 := ih (fun i hi => h i (by omega))
    have h2 := h k (by omega)
    rw [c32, Nat.pow_succ]
    omega
theorem c32_inj {A B : Nat → Nat} {p r : Nat} : ∀ k l, (∀ i, i < k → 97 ≤ A (p + i) ∧ A (p + i) ≤ 122) → (∀ i, i < l → 97 ≤ B (r + i) ∧ B (r + i) ≤ 122) → c32 A p k = c32 B r l → k = l ∧ ∀ i, i < k → A (p + i) = B (r + i) := by
  intro k
  induction k with
  | zero =>
    intro l _ hB e
    cases l with
    | zero => exact ⟨rfl, fun i hi => absurd hi (by omega)⟩
    | succ l =>
      have := hB l (by omega)
      rw [c32, c32] at e
      omega
  | succ k ih =>
    intro l hA hB e
    cases l with
    | zero =>
      have := hA k (by omega)
      rw [c32, c32] at e
      omega
    | succ l =>
      have h1 := hA k (by omega)
      have h2 := hB l (by omega)
      rw [c32, c32] at e
      have e1 : c32 A p k = c32 B r l := by omega
      have e2 : A (p + k) = B (r + l) := by omega
      obtain ⟨q1, q2⟩ := ih l (fun i hi => hA i (by omega)) (fun i hi => hB i (by omega)) e1
      refine ⟨by omega, fun i hi => ?_⟩
      by_cases c : i = k
      · subst c
        rw [e2, q1]
      · exact q2 i (by omega)
theorem c32_eq {A B : Nat → Nat} {p r : Nat} : ∀ k, (∀ i, i < k → A (p + i) = B (r + i)) → c32 A p k = c32 B r k := by
  intro k
  induction k with
  | zero => intro _; rfl
  | succ k ih =>
    intro h
    rw [c32, c32, ih (fun i hi => h i (by omega)), h k (by omega)]
/-- the word at hand is that one -/
def mtW (T : Nat → Nat) (p q w : Nat) : Bool := decide (kE w - kS w = q - p ∧ c32 kyT (kS w) (kE w - kS w) = c32 T p (q - p))
theorem mt_uniq {T : Nat → Nat} {p q w v : Nat} (hw : w < 25) (hv : v < 25) (h1 : mtW T p q w = true) (h2 : mtW T p q v = true) : w = v := kd_all w hw v hv ((of_decide_eq_true h1).2.trans (of_decide_eq_true h2).2.symm)
/-- letters from p to q -/
def ltR (T : Nat → Nat) (p q : Nat) : Prop := p < q ∧ ∀ j, p ≤ j → j < q → 97 ≤ T j ∧ T j ≤ 122
theorem mt_code {T : Nat → Nat} {p q c : Nat} (hc : c < 25) (hl : ltR T p q) : (if q - p ≤ 8 then lN (c32 T p (q - p)) else -1) = wCd.getD c 0 ↔ mtW T p q (wM c) = true := by
  obtain ⟨k1, k2, k3⟩ := kc_all c hc
  obtain ⟨w1, w2, w3, w4, w5, w6⟩ := kw_all (wM c) k1
  have hA : ∀ i, i < q - p → 97 ≤ T (p + i) ∧ T (p + i) ≤ 122 := fun i hi => hl.2 (p + i) (by omega) (by omega)
  have hB : ∀ i, i < kE (wM c) - kS (wM c) → 97 ≤ kyT (kS (wM c) + i) ∧ kyT (kS (wM c) + i) ≤ 122 := fun i hi => w6 (kS (wM c) + i) (by omega) (by omega) (by omega)
  rw [k2]
  unfold mtW
  rw [decide_eq_true_iff]
  by_cases c8 : q - p ≤ 8
  · rw [if_pos c8]
    have hb : c32 T p (q - p) < 2 ^ 40 := Nat.lt_of_lt_of_le (c32_lt T p (q - p) hA) (show 32 ^ (q - p) ≤ 2 ^ 40 from by
      have : 32 ^ (q - p) ≤ 32 ^ 8 := Nat.pow_le_pow_right (by decide) c8
      exact Nat.le_trans this (by decide))
    rw [pk_lEQ (by omega) (by omega)]
    refine ⟨fun e => ?_, fun e => e.2.symm⟩
    have := c32_inj (q - p) (kE (wM c) - kS (wM c)) hA hB e
    exact ⟨this.1.symm, e.symm⟩
  · rw [if_neg c8]
    refine ⟨fun e => ?_, fun e => absurd e.1 (by omega)⟩
    have : (-1 : Int64).toInt = (lN (c32 kyT (kS (wM c)) (kE (wM c) - kS (wM c)))).toInt := by rw [e]
    rw [pk_lT (by omega), show (-1 : Int64).toInt = -1 from rfl] at this
    omega
def kwI (T : Nat → Nat) (p q : Nat) : Nat → Nat → Int32
  | 0, _ => -1
  | m + 1, w => if mtW T p q w then nI w else kwI T p q m (w + 1)
theorem kw_none {T : Nat → Nat} {p q : Nat} : ∀ m w, w + m = 25 → ((kwI T p q m w = -1 ↔ ∀ v, w ≤ v → v < 25 → mtW T p q v = false) ∧ ∀ v, w ≤ v → v < 25 → (kwI T p q m w = nI v ↔ mtW T p q v = true)) := by
  intro m
  induction m with
  | zero => intro w h; exact ⟨⟨fun _ v h1 h2 => absurd h2 (by omega), fun _ => rfl⟩, fun v h1 h2 => absurd h2 (by omega)⟩
  | succ m ih =>
    intro w h
    obtain ⟨i1, i2⟩ := ih (w + 1) (by omega)
    rw [kwI]
    by_cases c : mtW T p q w = true
    · rw [if_pos c]
      refine ⟨⟨fun e => absurd e (nI_m1 (by omega)), fun e => ?_⟩, fun v h1 h2 => ?_⟩
      · have := e w (Nat.le_refl _) (by omega)
        rw [c] at this
        exact absurd this (by decide)
      · rw [nI_eq (by omega) (by omega)]
        exact ⟨fun e => by rw [← e]; exact c, fun e => mt_uniq (by omega) h2 c e⟩
    · rw [if_neg c]
      have c' : mtW T p q w = false := by cases z : mtW T p q w with | true => exact absurd z c | false => rfl
      refine ⟨⟨fun e v h1 h2 => ?_, fun e => i1.mpr (fun v h1 h2 => e v (by omega) h2)⟩, fun v h1 h2 => ?_⟩
      · by_cases z : v = w
        · rw [z]; exact c'
        · exact i1.mp e v (by omega) h2
      · by_cases z : v = w
        · subst z
          refine ⟨fun e => ?_, fun e => absurd e c⟩
          cases m with
          | zero =>
            rw [kwI] at e
            exact absurd e.symm (nI_m1 (by omega))
          | succ m =>
            have hall : ∀ k x, v < x → x + k = 25 → kwI T p q k x ≠ nI v := by
              intro k
              induction k with
              | zero => intro x _ _ e2; exact absurd e2.symm (nI_m1 (by omega))
              | succ k ihk =>
                intro x hx hk e2
                rw [kwI] at e2
                by_cases cx : mtW T p q x = true
                · rw [if_pos cx, nI_eq (by omega) (by omega)] at e2
                  omega
                · rw [if_neg cx] at e2
                  exact ihk (x + 1) (by omega) (by omega) e2
            exact absurd e (hall (m + 1) (v + 1) (by omega) (by omega))
        · exact i2 v (by omega) h2
theorem mw_cmp {T : Nat → Nat} {n p q w : Nat} {u : St} {post : Int32 → St → Prop} {K : Int32 → Int32 → St → Prop} (h : txR (ga u 9) T n) (g11 : gi u 11 = nI n) (g13 : gi u 13 = nI p) (hq : q ≤ n) (hl : ltR T p q) (hw : w < 25) (hlen : kE w - kS w = q - p) (h1 : mtW T p q w = true → post (nI w) u) (h0 : mtW T p q w = false → K (nI (w + 1)) (nI (kS (w + 1))) u) : ∀ (m i : Nat), i + m = q - p → (∀ j, j < i → kyT (kS w + j) = T (p + j)) → qX12_inWords_L68 post K (m + 2) (nI w) (nI (kS w)) (nI (kE w)) 1 (nI (kS w + i)) u := by
  obtain ⟨w1, w2, w3, w4, w5, w6⟩ := kw_all w hw
  have hn := h.1
  have hA : ∀ i, i < q - p → 97 ≤ T (p + i) ∧ T (p + i) ≤ 122 := fun i hi => hl.2 (p + i) (by omega) (by omega)
  have hB : ∀ i, i < kE w - kS w → 97 ≤ kyT (kS w + i) ∧ kyT (kS w + i) ≤ 122 := fun i hi => w6 (kS w + i) (by omega) (by omega) (by omega)
  have no : mtW T p q w = false → qX12_inWords_b115 post K (nI w) (nI (kE w)) 0 u := fun c => by
    refine ⟨fun _ x ex z ez => ?_, fun q => absurd rfl q⟩
    rw [nI_1] at ex ez
    rw [ex, ez, ← w4]
    exact h0 c
  intro m
  induction m with
  | zero =>
    intro i hi he
    have c : mtW T p q w = true := decide_eq_true ⟨hlen, by rw [hlen]; exact c32_eq (q - p) (fun j hj => he j (by omega))⟩
    exact ⟨fun _ => ⟨fun z => absurd z (by decide), fun _ => h1 c⟩, fun z => absurd (nI_le (by omega) (by omega)) z⟩
  | succ m ih =>
    intro i hi he
    refine ⟨fun z => absurd z (nI_ge (by omega) (by omega)), fun _ => ⟨fun z => absurd z (by decide), fun _ => m_char (by omega) ?_⟩⟩
    rw [g13, nI_add, pk_sub (by omega), show p + (kS w + i) - kS w = p + i by omega]
    refine m_byteAt h g11 (by omega) (fun _ => ?_) (fun z => absurd z (by omega))
    have t1 := (h.2 (p + i) (by omega)).1
    have t2 := hB i (by omega)
    rw [nI_eq (by omega) (by omega)]
    refine ⟨fun z x ex => ?_, fun z x ex => ?_⟩
    · rw [nI_1] at ex
      subst ex
      have c : mtW T p q w = false := decide_eq_false (fun z2 => by
        have := (c32_inj (q - p) (kE w - kS w) hA hB z2.2.symm).2 i (by omega)
        exact z this.symm)
      exact ⟨fun _ => no c, fun _ => ⟨fun _ => no c, fun z2 => absurd rfl z2⟩⟩
    · rw [nI_1] at ex
      subst ex
      exact ih (i + 1) (by omega) (fun j hj => by
        by_cases c : j = i
        · rw [c]; exact z
        · exact he j (by omega))
theorem mw_find {T : Nat → Nat} {n p q w : Nat} {u : St} {post : Int32 → St → Prop} {K : Int32 → Int32 → St → Prop} (h : txR (ga u 9) T n) (g11 : gi u 11 = nI n) (g13 : gi u 13 = nI p) (g14 : gi u 14 = nI q) (hq : q ≤ n) (hl : ltR T p q) (hw : w < 25) (h1 : mtW T p q w = true → post (nI w) u) (h0 : mtW T p q w = false → K (nI (w + 1)) (nI (kS (w + 1))) u) : ∀ (m i : Nat), i + m = kE w - kS w → qX12_inWords_L25 post K (m + 1) (nI w) (nI (kS w)) (nI (kS w + i)) u := by
  obtain ⟨w1, w2, w3, w4, w5, w6⟩ := kw_all w hw
  have hn := h.1
  have hpq := hl.1
  intro m
  induction m with
  | zero =>
    intro i hi
    rw [show kS w + i = kE w by omega]
    refine m_char (by omega) ?_
    rw [w5]
    refine ⟨fun _ => ?_, fun z => absurd rfl z⟩
    unfold qX12_inWords_b42
    rw [g13, g14, pk_sub (by omega), pk_sub (by omega), nI_eq (by omega) (by omega)]
    refine ⟨fun z => ⟨1, fun z2 => absurd z2 (nI_ge (by omega) (by omega)), fun _ => ⟨fun _ => ⟨fun _ x ex y ey => ?_, fun z2 => absurd rfl z2⟩, fun z2 => absurd rfl z2⟩⟩, fun z => ?_⟩
    · rw [nI_1] at ex ey
      rw [ex, ey, ← w4]
      exact h0 (decide_eq_false (fun z2 => z z2.1))
    · have := mw_cmp (K := K) h g11 g13 hq hl hw z h1 h0 (q - p) 0 (by omega) (fun j hj => absurd hj (by omega))
      exact ⟨_, this⟩
  | succ m ih =>
    intro i hi
    have t2 := w6 (kS w + i) (by omega) (by omega) (by omega)
    refine m_char (by omega) ?_
    rw [show (32 : Int32) = nI 32 from rfl, nI_eq (by omega) (by omega)]
    refine ⟨fun z => absurd z (by omega), fun _ x ex => ?_⟩
    rw [nI_1] at ex
    subst ex
    exact ih (i + 1) (by omega)
theorem mw_all {T : Nat → Nat} {n p q : Nat} {u : St} {post : Int32 → St → Prop} (h : txR (ga u 9) T n) (g11 : gi u 11 = nI n) (g13 : gi u 13 = nI p) (g14 : gi u 14 = nI q) (hq : q ≤ n) (hl : ltR T p q) : ∀ (m w : Nat), w + m = 25 → post (kwI T p q m w) u → qX12_inWords_L14 post (m + 1) (nI w) (nI (kS w)) u := by
  intro m
  induction m with
  | zero =>
    intro w hw hp
    have : w = 25 := by omega
    subst this
    unfold qX12_inWords_L14 qX12_inWords_l14
    exact m_len ⟨fun _ => hp, fun z => absurd (by decide) z⟩
  | succ m ih =>
    intro w hw hp
    obtain ⟨w1, w2, -⟩ := kw_all w (by omega)
    unfold qX12_inWords_L14 qX12_inWords_l14
    refine m_len ⟨fun z => absurd z (nI_ge (b := 133) (by omega) (by omega)), fun _ => ?_⟩
    rw [kwI] at hp
    refine ⟨_, mw_find h g11 g13 g14 hq hl (by omega) (fun c => ?_) (fun c => ?_) (kE w - kS w) 0 (by omega)⟩
    · rw [if_pos c] at hp
      exact hp
    · rw [if_neg (by rw [c]; decide)] at hp
      exact ih (w + 1) (by omega) hp
/-- which word the token is -/
def wdT (T : Nat → Nat) (t : Nat × Nat × Nat × Nat) : Int32 := if t.1 = 1 then kwI T t.2.1 t.2.2.1 25 0 else -1
/-- a token as it may be -/
def tkO (T : Nat → Nat) (n : Nat) (t : Nat × Nat × Nat × Nat) : Prop := t.1 ≤ 4 ∧ t.2.1 ≤ t.2.2.1 ∧ t.2.2.1 ≤ n ∧ (t.1 = 1 → ltR T t.2.1 t.2.2.1) ∧ t.2.2.2 ≤ 9999
theorem m_inWords {T : Nat → Nat} {n : Nat} {t : Nat × Nat × Nat × Nat} {u : St} {post : Int32 → St → Prop} (h : txR (ga u 9) T n) (ht : tkM u n t) (ho : tkO T n t) (fin : post (wdT T t) u) : qX12_inWords u post := by
  obtain ⟨g11, g12, g13, g14, -⟩ := ht
  obtain ⟨o1, o2, o3, o4, -⟩ := ho
  unfold wdT at fin
  unfold qX12_inWords
  rw [g12]
  by_cases c : t.1 = 1
  · rw [if_pos c] at fin
    rw [c]
    exact ⟨fun _ => ⟨_, mw_all h g11 g13 g14 o3 (o4 c) 25 0 (by omega) fin⟩, fun z => absurd rfl z⟩
  · rw [if_neg c] at fin
    refine ⟨fun z => ?_, fun _ => fin⟩
    unfold kM at z
    rw [if_neg c] at z
    have : t.1 = 0 ∨ t.1 = 2 ∨ t.1 = 3 ∨ t.1 = 4 := by omega
    rcases this with e | e | e | e <;> rw [e] at z <;> exact absurd z (by decide)
