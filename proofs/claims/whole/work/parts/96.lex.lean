/-! STEPS 31: reading, bytes and tokens -/
theorem by_all : ∀ k, k < 256 → ((Int8.ofNat k).toInt32 &&& 255 = nI k) ∧ (if k < 128 then (Int8.ofNat k).toInt32 = nI k else (Int8.ofNat k).toInt32.toInt = (k : Int) - 256) := by decide +kernel
theorem by_of {x : Int32} (h : x.toInt8.toInt32 = x) : ∃ b, b < 256 ∧ x &&& 255 = nI b ∧ (if b < 128 then x = nI b else x.toInt = (b : Int) - 256) := by
  refine ⟨x.toInt8.toBitVec.toNat, x.toInt8.toBitVec.isLt, ?_⟩
  have e : Int8.ofNat x.toInt8.toBitVec.toNat = x.toInt8 := by
    apply Int8.toBitVec_inj.mp
    show BitVec.ofNat 8 x.toInt8.toBitVec.toNat = x.toInt8.toBitVec
    rw [BitVec.ofNat_toNat, BitVec.setWidth_eq]
  have := by_all x.toInt8.toBitVec.toNat x.toInt8.toBitVec.isLt
  rw [e, h] at this
  exact this
/-- a text: so many bytes, as the machine has them -/
def txR (g : Nat → Int32) (T : Nat → Nat) (n : Nat) : Prop := n ≤ 900 ∧ ∀ j, j < n → T j < 256 ∧ g j &&& 255 = nI (T j) ∧ (if T j < 128 then g j = nI (T j) else (g j).toInt = (T j : Int) - 256)
/-- as far as it goes -/
def runE (P : Nat → Bool) : Nat → Nat → Nat
  | 0, e => e
  | m + 1, e => if P e then runE P m (e + 1) else e
theorem runE_le (P : Nat → Bool) : ∀ m e, e ≤ runE P m e ∧ runE P m e ≤ e + m := by
  intro m
  induction m with
  | zero => intro e; exact ⟨Nat.le_refl _, Nat.le_refl _⟩
  | succ m ih =>
    intro e
    have := ih (e + 1)
    rw [runE]
    split <;> omega
def blB (T : Nat → Nat) (j : Nat) : Bool := decide (T j = 32 ∨ T j = 10)
def leB (T : Nat → Nat) (j : Nat) : Bool := decide (97 ≤ T j ∧ T j ≤ 122)
def diB (T : Nat → Nat) (j : Nat) : Bool := decide (48 ≤ T j ∧ T j ≤ 57)
/-- letters by 32, digits by 10 -/
def c32 (T : Nat → Nat) (p : Nat) : Nat → Nat
  | 0 => 0
  | k + 1 => c32 T p k * 32 + (T (p + k) - 96)
def dcN (T : Nat → Nat) (p : Nat) : Nat → Nat
  | 0 => 0
  | k + 1 => dcN T p k * 10 + (T (p + k) - 48)
/-- a token: kind, place, where the next begins, number or sign -/
def tkK (T : Nat → Nat) (n p : Nat) : Nat × Nat × Nat × Nat :=
  if n ≤ p then (0, p, p, 0)
  else if leB T p then (1, p, runE (leB T) (n - p) p, 0)
  else if diB T p then (if runE (diB T) (n - p) p - p ≤ 4 then (2, p, runE (diB T) (n - p) p, dcN T p (runE (diB T) (n - p) p - p)) else (4, p, runE (diB T) (n - p) p, 0))
  else if T p = 59 ∨ T p = 60 ∨ T p = 61 ∨ T p = 62 then (3, p, p + 1, T p) else (4, p, p + 1, 0)
def tok (T : Nat → Nat) (n e : Nat) : Nat × Nat × Nat × Nat := tkK T n (runE (blB T) (n - e) e)
theorem by_lt {g : Nat → Int32} {T : Nat → Nat} {n j : Nat} (h : txR g T n) (hj : j < n) (c : Nat) (hc : c ≤ 127) (hc1 : 1 ≤ c) : (g j < nI c ∨ 127 < T j ∧ g j < nI c) ↔ (T j < c ∨ 127 < T j) := by
  obtain ⟨h1, h2, h3⟩ := h.2 j hj
  rw [i_lt, nI_toInt (by omega)]
  by_cases q : T j < 128
  · rw [if_pos q] at h3
    rw [h3, nI_toInt (by omega)]
    omega
  · rw [if_neg q] at h3
    omega
/-- a byte between two -/
theorem by_in {g : Nat → Int32} {T : Nat → Nat} {n j a b : Nat} (h : txR g T n) (hj : j < n) (ha : 1 ≤ a) (hab : a ≤ b) (hb : b ≤ 127) : (¬ g j < nI a ∧ ¬ nI b < g j) ↔ (a ≤ T j ∧ T j ≤ b) := by
  obtain ⟨h1, h2, h3⟩ := h.2 j hj
  rw [i_lt, i_lt, nI_toInt (by omega), nI_toInt (by omega)]
  by_cases q : T j < 128
  · rw [if_pos q] at h3
    rw [h3, nI_toInt (by omega)]
    omega
  · rw [if_neg q] at h3
    omega
theorem by_eq {g : Nat → Int32} {T : Nat → Nat} {n j c : Nat} (h : txR g T n) (hj : j < n) (hc : c ≤ 127) : g j = nI c ↔ T j = c := by
  obtain ⟨h1, h2, h3⟩ := h.2 j hj
  rw [i_eq, nI_toInt (by omega)]
  by_cases q : T j < 128
  · rw [if_pos q] at h3
    rw [h3, nI_toInt (by omega)]
    omega
  · rw [if_neg q] at h3
    omega
theorem r_letter {g : Nat → Int32} {T : Nat → Nat} {n j : Nat} {post : Int32 → Prop} (h : txR g T n) (hj : j < n) (h1 : leB T j = true → post 1) (h0 : leB T j = false → post 0) : qX8_isLetter (g j) post := by
  have k := by_in (a := 97) (b := 122) h hj (by omega) (by omega) (by omega)
  refine ⟨fun c => ⟨Or.inl rfl, h0 (decide_eq_false (fun q => (k.mpr q).1 c))⟩, fun c => ⟨fun c2 => ⟨Or.inl rfl, h0 (decide_eq_false (fun q => (k.mpr q).2 c2))⟩, fun c2 => ⟨Or.inr rfl, h1 (decide_eq_true (k.mp ⟨c, c2⟩))⟩⟩⟩
theorem r_digit {g : Nat → Int32} {T : Nat → Nat} {n j : Nat} {post : Int32 → Prop} (h : txR g T n) (hj : j < n) (h1 : diB T j = true → post 1) (h0 : diB T j = false → post 0) : qX8_isDigit (g j) post := by
  have k := by_in (a := 48) (b := 57) h hj (by omega) (by omega) (by omega)
  refine ⟨fun c => ⟨Or.inl rfl, h0 (decide_eq_false (fun q => (k.mpr q).1 c))⟩, fun c => ⟨fun c2 => ⟨Or.inl rfl, h0 (decide_eq_false (fun q => (k.mpr q).2 c2))⟩, fun c2 => ⟨Or.inr rfl, h1 (decide_eq_true (k.mp ⟨c, c2⟩))⟩⟩⟩
theorem r_blank {g : Nat → Int32} {T : Nat → Nat} {n j : Nat} {post : Int32 → Prop} (h : txR g T n) (hj : j < n) (h1 : blB T j = true → post 1) (h0 : blB T j = false → post 0) : qX8_isBlank (g j) post := by
  have k1 := by_eq (c := 10) h hj (by omega)
  have k2 := by_eq (c := 32) h hj (by omega)
  refine ⟨fun c => ⟨Or.inr rfl, h1 (decide_eq_true (Or.inr (k1.mp c)))⟩, fun c => ⟨fun c2 => ⟨Or.inl rfl, h0 (decide_eq_false (fun q => q.elim (fun q => c2 (k2.mpr q)) (fun q => c (k1.mpr q))))⟩, fun c2 => ⟨Or.inr rfl, h1 (decide_eq_true (Or.inl (k2.mp c2)))⟩⟩⟩
/-- the class's token -/
def tkC (u : St) (T : Nat → Nat) (n : Nat) (t : Nat × Nat × Nat × Nat) : Prop := gi u 1 = nI n ∧ gi u 8 = 0 ∧ gi u 3 = nI t.1 ∧ gi u 7 = nI t.2.1 ∧ gi u 2 = nI t.2.2.1 ∧ (t.1 = 2 ∨ t.1 = 3 → gi u (t.1 + 2) = nI t.2.2.2) ∧ (t.1 = 1 → gj u 6 = if t.2.2.1 - t.2.1 ≤ 8 then lN (c32 T t.2.1 (t.2.2.1 - t.2.1)) else -1)
theorem rw_loop {T : Nat → Nat} {n p : Nat} {u1 : St} {post : St → St → Prop} (h : txR (ga u1 0) T n) (hp : p < n) : ∀ (m i : Nat) (u : St), i + m = n → p ≤ i → gi u 1 = nI n → gi u 8 = 0 → gi u 3 = 1 → gi u 7 = nI p → gi u 2 = nI i → gj u 6 = (if i - p ≤ 8 then lN (c32 T p (i - p)) else -1) → (∀ u', tkC u' T n (1, p, runE (leB T) m i, 0) → post u' u1) → qX8_readWord_L15 post (m + 1) (nI i) u u1 := by
  have hn := h.1
  intro m
  induction m with
  | zero =>
    intro i u hi hpi g1 g8 g3 g7 g2 g6 fin
    refine ⟨fun _ => fin u ⟨g1, g8, g3, g7, g2, fun q => absurd q (by simp), fun _ => g6⟩, fun c => absurd (by rw [g1]; exact nI_le (by omega) (by omega)) c⟩
  | succ m ih =>
    intro i u hi hpi g1 g8 g3 g7 g2 g6 fin
    have hin : vp_in (nI i) 900 := vp_in_nI (by omega) (by omega)
    have ec : (nI i).toNatClampNeg = i := nI_clamp (by omega)
    refine ⟨fun c => absurd c (by rw [g1]; exact nI_ge (by omega) (by omega)), fun _ => ⟨hin, ?_⟩⟩
    rw [ec]
    rw [runE] at fin
    refine r_letter h (by omega) (fun c => ⟨fun q => absurd q (by decide), fun _ => ?_⟩) (fun c => ⟨fun _ => ?_, fun q => absurd rfl q⟩)
    · rw [if_pos c] at fin
      have cl := of_decide_eq_true c
      have e8 : ga u1 0 i = nI (T i) := by
        have := (h.2 i (by omega)).2.2
        rw [if_pos (by omega)] at this
        exact this
      rw [g7, pk_sub hpi, show (8 : Int32) = nI 8 from rfl, nI_ltI (by omega) (by omega)]
      have go : ∀ s0 : Int64, s0 = (if i + 1 - p ≤ 8 then lN (c32 T p (i + 1 - p)) else -1) → qX8_readWord_b74 post (qX8_readWord_L15 post (m + 1)) (nI i) s0 u u1 := fun s0 hs v ev w ew z ez => by
        rw [nI_1] at ew ez
        subst ez; subst ew; subst ev
        exact ih (i + 1) _ (by omega) (by omega) g1 g8 g3 g7 rfl hs fin
      refine ⟨fun c8 => ⟨hin, go _ ?_⟩, fun c8 => go _ (by rw [if_neg (by omega)])⟩
      rw [g6, if_pos (by omega), if_pos (by omega), e8, show i + 1 - p = (i - p) + 1 by omega, c32, show p + (i - p) = i by omega, show nI (T i) - 97 + 1 = nI (T i - 96) from by rw [show (97 : Int32) = nI 97 from rfl, pk_sub (by omega), nI_1, show T i - 97 + 1 = T i - 96 by omega], i_long (by omega), show (32 : Int64) = lN 32 from rfl, lN_mul, lN_add]
    · rw [if_neg (by rw [c]; decide)] at fin
      exact fin u ⟨g1, g8, g3, g7, g2, fun q => absurd q (by simp), fun _ => g6⟩
theorem rn_loop {T : Nat → Nat} {n p : Nat} {u1 : St} {post : St → St → Prop} (h : txR (ga u1 0) T n) (hp : p < n) : ∀ (m i : Nat) (u : St), i + m = n → p ≤ i → gi u 1 = nI n → gi u 8 = 0 → gi u 7 = nI p → gi u 2 = nI i → (i - p ≤ 4 → gi u 4 = nI (dcN T p (i - p))) → (∀ u', tkC u' T n (if runE (diB T) m i - p ≤ 4 then (2, p, runE (diB T) m i, dcN T p (runE (diB T) m i - p)) else (4, p, runE (diB T) m i, 0)) → post u' u1) → qX8_readNumber_L10 post (m + 1) (nI i) u u1 := by
  have hn := h.1
  have done : ∀ (i : Nat) (u : St), p ≤ i → i ≤ n → gi u 1 = nI n → gi u 8 = 0 → gi u 7 = nI p → gi u 2 = nI i → (i - p ≤ 4 → gi u 4 = nI (dcN T p (i - p))) → (∀ u', tkC u' T n (if i - p ≤ 4 then (2, p, i, dcN T p (i - p)) else (4, p, i, 0)) → post u' u1) → qX8_readNumber_b78 post u u1 := fun i u h1 h2 g1 g8 g7 g2 g4 fin => by
    unfold qX8_readNumber_b78
    rw [g2, g7, pk_sub h1, show (4 : Int32) = nI 4 from rfl, nI_leI (by omega) (by omega)]
    refine ⟨fun c v ev => ?_, fun c v ev => ?_⟩
    · subst ev
      rw [if_pos c] at fin
      exact fin _ ⟨g1, g8, rfl, g7, g2, fun _ => g4 c, fun q => absurd q (by simp)⟩
    · subst ev
      rw [if_neg c] at fin
      exact fin _ ⟨g1, g8, rfl, g7, g2, fun q => absurd q (by simp), fun q => absurd q (by simp)⟩
  intro m
  induction m with
  | zero =>
    intro i u hi hpi g1 g8 g7 g2 g4 fin
    exact ⟨fun _ => done i u hpi (by omega) g1 g8 g7 g2 g4 fin, fun c => absurd (by rw [g1]; exact nI_le (by omega) (by omega)) c⟩
  | succ m ih =>
    intro i u hi hpi g1 g8 g7 g2 g4 fin
    have hin : vp_in (nI i) 900 := vp_in_nI (by omega) (by omega)
    have ec : (nI i).toNatClampNeg = i := nI_clamp (by omega)
    refine ⟨fun c => absurd c (by rw [g1]; exact nI_ge (by omega) (by omega)), fun _ => ⟨hin, ?_⟩⟩
    rw [ec]
    rw [runE] at fin
    refine r_digit h (by omega) (fun c => ⟨fun q => absurd q (by decide), fun _ => ?_⟩) (fun c => ⟨fun _ => ?_, fun q => absurd rfl q⟩)
    · rw [if_pos c] at fin
      have cl := of_decide_eq_true c
      have e8 : ga u1 0 i = nI (T i) := by
        have := (h.2 i (by omega)).2.2
        rw [if_pos (by omega)] at this
        exact this
      rw [g7, pk_sub hpi, show (4 : Int32) = nI 4 from rfl, nI_ltI (by omega) (by omega)]
      have go : ∀ s0 : Int32, (i + 1 - p ≤ 4 → s0 = nI (dcN T p (i + 1 - p))) → qX8_readNumber_b62 post (qX8_readNumber_L10 post (m + 1)) (nI i) s0 u u1 := fun s0 hs v ev w ew z ez => by
        rw [nI_1] at ew ez
        subst ez; subst ew; subst ev
        exact ih (i + 1) _ (by omega) (by omega) g1 g8 g7 rfl hs fin
      refine ⟨fun c4 => ⟨hin, go _ (fun _ => ?_)⟩, fun c4 => go _ (fun q => absurd q (by omega))⟩
      rw [g4 (by omega), e8, show i + 1 - p = (i - p) + 1 by omega, dcN, show p + (i - p) = i by omega, show (48 : Int32) = nI 48 from rfl, show (10 : Int32) = nI 10 from rfl, pk_sub (by omega), pk_mul, nI_add]
    · rw [if_neg (show ¬ diB T i = true by rw [c]; decide)] at fin
      exact done i u hpi (by omega) g1 g8 g7 g2 g4 fin
theorem sg_all : ∀ b, b < 256 → ((nI b).toUInt32 % 65536).toInt32 = nI b := by decide +kernel
theorem cz_b : ∀ b, b < 256 → (fits .char (.int (nI b)) = true) := by decide +kernel
theorem cz_i {b : Nat} (h : b < 256) : cz (nI b) := by
  refine ⟨?_, cz_b b h⟩
  unfold narrow
  simp [sg_all b h]
theorem r_adv {T : Nat → Nat} {n : Nat} {u1 : St} {post : St → St → Prop} (h : txR (ga u1 0) T n) : ∀ (m i : Nat) (u : St), i + m = n → gi u 1 = nI n → gi u 8 = 0 → gi u 2 = nI i → (∀ u', tkC u' T n (tkK T n (runE (blB T) m i)) → post u' u1) → qX8_advance_L13 post (m + 1) (nI i) u u1 := by
  have hn := h.1
  have b46 : ∀ (p : Nat) (u : St), p ≤ n → gi u 1 = nI n → gi u 8 = 0 → gi u 2 = nI p → (∀ u', tkC u' T n (tkK T n p) → post u' u1) → qX8_advance_b46 post u u1 := fun p u hp g1 g8 g2 fin v ev => by
    have v1 : gi v 1 = nI n := by rw [ev]; exact g1
    have v2 : gi v 2 = nI p := by rw [ev]; exact g2
    have v8 : gi v 8 = 0 := by rw [ev]; exact g8
    have v7 : gi v 7 = nI p := by rw [ev]; exact g2
    rw [v2, v1, nI_ltI (by omega) (by omega)]
    unfold tkK at fin
    refine ⟨fun c => ⟨vp_in_nI (by omega) (by omega), ?_⟩, fun c w ew => ?_⟩
    · rw [if_neg (by omega)] at fin
      rw [nI_clamp (by omega)]
      refine r_letter h c (fun c1 => ⟨fun q => absurd q (by decide), fun _ => ?_⟩) (fun c1 => ⟨fun _ => ⟨vp_in_nI (by omega) (by omega), ?_⟩, fun q => absurd rfl q⟩)
      · rw [if_pos c1] at fin
        intro a ea b eb x ex
        rw [show gi b 7 = nI p from by rw [eb, ea]; exact v7] at ex
        subst ex
        refine ⟨_, rw_loop h c (n - p) p b (by omega) (Nat.le_refl _) (by rw [eb, ea]; exact v1) (by rw [eb, ea]; exact v8) (by rw [eb, ea]; rfl) (by rw [eb, ea]; exact v7) (by rw [eb, ea]; exact v2) ?_ fin⟩
        rw [eb, ea, Nat.sub_self]
        rfl
      · rw [if_neg (show ¬ leB T p = true by rw [c1]; decide)] at fin
        refine r_digit h c (fun c2 => ⟨fun q => absurd q (by decide), fun _ => ?_⟩) (fun c2 => ⟨fun _ => ⟨vp_in_nI (by omega) (by omega), ?_⟩, fun q => absurd rfl q⟩)
        · rw [if_pos c2] at fin
          intro a ea x ex
          rw [show gi a 7 = nI p from by rw [ea]; exact v7] at ex
          subst ex
          refine ⟨_, rn_loop h c (n - p) p a (by omega) (Nat.le_refl _) (by rw [ea]; exact v1) (by rw [ea]; exact v8) (by rw [ea]; exact v7) (by rw [ea]; exact v2) (fun _ => ?_) fin⟩
          rw [ea, Nat.sub_self]
          rfl
        · rw [if_neg (show ¬ diB T p = true by rw [c2]; decide)] at fin
          obtain ⟨t1, t2, -⟩ := h.2 p c
          rw [t2, sg_all _ t1]
          refine ⟨cz_i t1, fun a ea => ?_⟩
          have a5 : gi a 5 = nI (T p) := by rw [ea]; rfl
          have sgn : (T p = 59 ∨ T p = 60 ∨ T p = 61 ∨ T p = 62) → qX8_advance_b172 post a u1 := fun q w ew z ez => by
            rw [if_pos q] at fin
            have z2 : gi z 2 = nI (p + 1) := by
              rw [ez, show gi w 2 = nI p from by rw [ew, ea]; exact v2, nI_1]
              rfl
            exact fin z ⟨by rw [ez, ew, ea]; exact v1, by rw [ez, ew, ea]; exact v8, by rw [ez, ew]; rfl, by rw [ez, ew, ea]; exact v7, z2, fun _ => by rw [ez, ew, ea]; rfl, fun q => absurd q (by simp)⟩
          rw [a5, show (59 : Int32) = nI 59 from rfl, show (60 : Int32) = nI 60 from rfl, show (61 : Int32) = nI 61 from rfl, show (62 : Int32) = nI 62 from rfl, nI_eq (by omega) (by omega), nI_eq (by omega) (by omega), nI_eq (by omega) (by omega), nI_eq (by omega) (by omega)]
          refine ⟨fun q => sgn (by omega), fun q1 => ⟨fun q => sgn (by omega), fun q2 => ⟨fun q => sgn (by omega), fun q3 => ⟨fun q4 w ew z ez => ?_, fun q => sgn (by omega)⟩⟩⟩⟩
          rw [if_neg (by omega)] at fin
          have z2 : gi z 2 = nI (p + 1) := by
            rw [ez, show gi w 2 = nI p from by rw [ew, ea]; exact v2, nI_1]
            rfl
          exact fin z ⟨by rw [ez, ew, ea]; exact v1, by rw [ez, ew, ea]; exact v8, by rw [ez, ew]; rfl, by rw [ez, ew, ea]; exact v7, z2, fun q => absurd q (by simp), fun q => absurd q (by simp)⟩
    · rw [if_pos (by omega)] at fin
      exact fin w ⟨by rw [ew]; exact v1, by rw [ew]; exact v8, by rw [ew]; rfl, by rw [ew]; exact v7, by rw [ew]; exact v2, fun q => absurd q (by simp), fun q => absurd q (by simp)⟩
  intro m
  induction m with
  | zero =>
    intro i u hi g1 g8 g2 fin
    exact ⟨fun _ => b46 i u (by omega) g1 g8 g2 fin, fun c => absurd (by rw [g1]; exact nI_le (by omega) (by omega)) c⟩
  | succ m ih =>
    intro i u hi g1 g8 g2 fin
    refine ⟨fun c => absurd c (by rw [g1]; exact nI_ge (by omega) (by omega)), fun _ => ⟨vp_in_nI (by omega) (by omega), ?_⟩⟩
    rw [nI_clamp (by omega)]
    rw [runE] at fin
    refine r_blank h (by omega) (fun c => ⟨fun q => absurd q (by decide), fun _ v ev z ez => ?_⟩) (fun c => ⟨fun _ => ?_, fun q => absurd rfl q⟩)
    · rw [if_pos c] at fin
      rw [nI_1] at ev ez
      subst ez; subst ev
      exact ih (i + 1) _ (by omega) g1 g8 rfl fin
    · rw [if_neg (by rw [c]; decide)] at fin
      exact b46 i u (by omega) g1 g8 g2 fin
/-- the class goes to the next token -/
theorem r_advance {T : Nat → Nat} {n e : Nat} {u u1 : St} {post : St → St → Prop} (h : txR (ga u1 0) T n) (he : e ≤ n) (g1 : gi u 1 = nI n) (g8 : gi u 8 = 0) (g2 : gi u 2 = nI e) (fin : ∀ u', tkC u' T n (tok T n e) → post u' u1) : qX8_advance u u1 post := by
  refine ⟨fun _ x ex => ?_, fun c => absurd g8 c⟩
  rw [g2] at ex
  subst ex
  exact ⟨_, r_adv h (n - e) e u (by omega) g1 g8 g2 fin⟩
