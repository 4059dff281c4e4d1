/-! STEPS 11: how many in a set; most, mostSet, fewest, fewestSet -/
def pcF : Nat → Nat → Nat
  | 0, _ => 0
  | f + 1, n => n % 2 + pcF f (n / 2)
/-- how many are in a set -/
def pc (n : Nat) : Nat := pcF 20 n
def bcI (x0 : Int32) : Int32 :=
  let x1 := x0 - (((x0).toUInt32 >>> (((1 : Int32)).toUInt32 &&& Int32.toUInt32 31)).toInt32 &&& (1431655765 : Int32))
  let x2 := (x1 &&& (858993459 : Int32)) + (((x1).toUInt32 >>> (((2 : Int32)).toUInt32 &&& Int32.toUInt32 31)).toInt32 &&& (858993459 : Int32))
  let x3 := (x2 + ((x2).toUInt32 >>> (((4 : Int32)).toUInt32 &&& Int32.toUInt32 31)).toInt32) &&& (252645135 : Int32)
  let x4 := x3 + ((x3).toUInt32 >>> (((8 : Int32)).toUInt32 &&& Int32.toUInt32 31)).toInt32
  let x5 := x4 + ((x4).toUInt32 >>> (((16 : Int32)).toUInt32 &&& Int32.toUInt32 31)).toInt32
  x5 &&& (63 : Int32)
theorem bc8 : ∀ n, n < 256 → bcI (nI n) = nI (pc n) := by decide +kernel
theorem pc8 : ∀ n, n < 256 → pc n ≤ 8 ∧ (n ≠ 0 → pc (n &&& (n - 1)) + 1 = pc n) := by decide +kernel
theorem pc_z8 : ∀ n, n < 256 → pc n = 0 → n = 0 := by decide +kernel
theorem r_bitCount {n : Nat} {post : Int32 → Prop} (h : n < 256) (hp : post (nI (pc n))) : qJ6_bitCount_0f7a4 (nI n) post := by
  intro a ea b eb c ec d ed e ee
  subst ea; subst eb; subst ec; subst ed; subst ee
  have := bc8 n h
  rw [← this] at hp
  exact hp
theorem bits_loop {post : Int32 → Prop} : ∀ (m n c : Nat), n < 256 → pc n = m → post (nI (c + m)) → qX12_bits_L4 post (m + 1) (nI c) (nI n) := by
  intro m
  induction m with
  | zero =>
    intro n c hn hm hp
    have := pc_z8 n hn hm
    subst this
    exact ⟨fun _ => hp, fun c => absurd rfl c⟩
  | succ m ih =>
    intro n c hn hm hp
    have h0 : n ≠ 0 := by
      intro q
      subst q
      exact absurd hm (by show 0 ≠ m + 1; omega)
    have h1 := (pc8 n hn).2 h0
    refine ⟨fun q => absurd ((nI_z (by omega)).mp q) h0, fun _ x ex y ey => ?_⟩
    rw [nI_1] at ex
    rw [show nI n - 1 = nI (n - 1) from pk_sub (b := 1) (by omega), i_and] at ey
    subst ex; subst ey
    refine ih (n &&& (n - 1)) (c + 1) (Nat.lt_of_le_of_lt Nat.and_le_left hn) (by omega) ?_
    rw [show c + 1 + m = c + (m + 1) by omega]
    exact hp
theorem m_bits {n : Nat} {post : Int32 → Prop} (h : n < 256) (hp : post (nI (pc n))) : qX12_bits (nI n) post := ⟨pc n + 1, bits_loop (pc n) n 0 h rfl (by rw [Nat.zero_add]; exact hp)⟩
/-- a house's state, but for its scratch -/
def S11 (u0 u : St) : Prop := u = u0 ∨ ∃ f, u = sw u0 11 f
theorem S11.rfl {u : St} : S11 u u := Or.inl _root_.rfl
theorem S11.step {u0 u : St} (h : S11 u0 u) (f : Nat → Int32) : S11 u0 (sw u 11 f) := by
  rcases h with rfl | ⟨g, rfl⟩
  · exact Or.inr ⟨f, _root_.rfl⟩
  · exact Or.inr ⟨f, by rw [sw_sw]⟩
theorem S11.ch {u0 u : St} {M : MH} (h : S11 u0 u) (hc : CH u0 M) : CH u M := by
  rcases h with rfl | ⟨g, rfl⟩
  · exact hc
  · exact hc.w11 g
theorem rr_s11 {cs : Nat → St} {ms u : St} (h : RR cs ms) (hs : S11 (cs 5) u) (v : Int32) : RR (va_up (va_up cs 0 (si (cs 0) 0 v)) 5 u) (si ms 2 v) := by
  rcases hs with rfl | ⟨g, rfl⟩
  · rw [up_skip cs 0 5 _ (by decide)]
    exact rr_st h v
  · exact rr_h5 h g v
/-- which fall without some leaves -/
def fwo (M : MH) (g : Nat) : Nat := andn (stn M 0 0 (M 0 0)) (stn M g 0 (M 0 0))
theorem fwo_lt {M : MH} (ok : okH M) (g : Nat) : fwo M g < 2 ^ 31 := andn_lt (stn31 ok 0 0)
theorem r_fwo {M : MH} {g : Nat} {u0 u : St} {post : Int32 → St → Prop} (ok : okH M) (st : setl M) (hg : g < 2 ^ 31) (h : CH u0 M) (hs : S11 u0 u) (hp : ∀ u', S11 u0 u' → (∀ s, s < M 0 0 → ga u' 11 s = nI (lvAt M g s (M 2 0))) → post (nI (fwo M g)) u') : qX2_fallingWithout (nI g) u post := by
  refine r_fallingWithout ok st hg (hs.ch h) (fun f hf => ?_)
  rw [i_andn]
  exact hp _ (hs.step f) (fun s hs => by rw [ga_sw, if_pos rfl]; exact hf s hs)
theorem m_fwo {M : MH} {g : Nat} {u : St} {post : Int32 → St → Prop} (ok : okH M) (hg : g < 2 ^ 31) (h : MC u M) (hp : post (nI (fwo M g)) u) : qX12_bareOf (nI g) u post := by
  refine m_bareOf ok hg h ?_
  rw [i_andn]
  exact hp
theorem fwo_0 (M : MH) : fwo M 0 = 0 := by
  rw [nz_bit]
  intro s
  unfold fwo
  rw [tb_andn]
  cases (stn M 0 0 (M 0 0)).testBit s <;> rfl
/-- the best set below a number -/
def bst (P : Nat → Bool) : Nat → Nat
  | 0 => 0
  | i + 1 => if pc (bst P i) < pc i ∧ P i = true then i else bst P i
theorem bst_lt (P : Nat → Bool) : ∀ i, bst P i ≤ i - 1 := by
  intro i
  induction i with
  | zero => exact Nat.le_refl 0
  | succ i ih =>
    rw [bst]
    split <;> omega
def pM (M : MH) (g : Nat) : Bool := decide (g &&& M 6 0 = 0) && decide (fwo M g = 0)
theorem idle_loop {M : MH} {u0 : St} {post : Int32 → St → Prop} (ok : okH M) (st : setl M) (h : CH u0 M) (fin : ∀ u, S11 u0 u → post (nI (bst (pM M) (2 ^ M 2 0))) u) : ∀ (m i : Nat) (u : St), S11 u0 u → i + m = 2 ^ M 2 0 → qX2_largestIdleSet_L4 post (m + 1) (nI (bst (pM M) i)) (nI i) u := by
  have h7 := ok_nd ok
  have h27 : 2 ^ M 2 0 < 2 ^ 8 := Nat.pow_lt_pow_right (by decide) (by omega)
  intro m
  induction m with
  | zero =>
    intro i u hu hi
    have e1 : (1 : Int32) <<< (gi u 2 &&& 31) = nI (2 ^ M 2 0) := by rw [ch_k (hu.ch h) (by omega), i_one (by omega)]
    refine ⟨fun _ => ?_, fun c => absurd (by rw [e1]; exact nI_le (by omega) (by omega)) c⟩
    rw [show i = 2 ^ M 2 0 by omega]
    exact fin u hu
  | succ m ih =>
    intro i u hu hi
    have e1 : (1 : Int32) <<< (gi u 2 &&& 31) = nI (2 ^ M 2 0) := by rw [ch_k (hu.ch h) (by omega), i_one (by omega)]
    have hb := bst_lt (pM M) i
    have p1 := (pc8 i (by omega)).1
    have p2 := (pc8 (bst (pM M) i) (by omega)).1
    have sk : ∀ u, S11 u0 u → ¬ (pc (bst (pM M) i) < pc i ∧ pM M i = true) → qX2_largestIdleSet_b54 post (qX2_largestIdleSet_L4 post (m + 1)) (nI (bst (pM M) i)) (nI i) u := fun u hu c z ez => by
      rw [nI_1] at ez
      subst ez
      have nx := ih (i + 1) u hu (by omega)
      rw [bst, if_neg c] at nx
      exact nx
    refine ⟨fun c => absurd c (by rw [e1]; exact nI_ge (by omega) (by omega)), fun _ => r_bitCount (by omega) (r_bitCount (by omega) ?_)⟩
    refine ⟨fun c => ⟨fun _ => sk u hu (fun q => absurd c (nI_ge q.1 (by omega))), fun c => absurd rfl c⟩, fun c => ⟨fun c => absurd c (by decide), fun _ => ?_⟩⟩
    have c' : pc (bst (pM M) i) < pc i := Nat.lt_of_not_le (fun q => c (nI_le q (by omega)))
    rw [ch_k (hu.ch h) (by omega), i_and, nI_z (Nat.lt_of_le_of_lt Nat.and_le_left (by omega))]
    refine ⟨fun c2 => sk u hu (fun q => ?_), fun c2 => r_fwo ok st (by omega) h hu (fun u' hu' _ => ?_)⟩
    · have := q.2
      unfold pM at this
      simp [c2] at this
    · rw [nI_z (fwo_lt ok i)]
      refine ⟨fun c3 => sk u' hu' (fun q => ?_), fun c3 z ez => ?_⟩
      · have := q.2
        unfold pM at this
        simp [c3] at this
      · rw [nI_1] at ez
        subst ez
        have nx := ih (i + 1) u' hu' (by omega)
        rw [bst, if_pos ⟨c', by unfold pM; simp [c2, c3]⟩] at nx
        exact nx
theorem r_idle {M : MH} {u0 : St} {post : Int32 → St → Prop} (ok : okH M) (st : setl M) (h : CH u0 M) (fin : ∀ u, S11 u0 u → post (nI (bst (pM M) (2 ^ M 2 0))) u) : qX2_largestIdleSet u0 post := ⟨_, idle_loop ok st h fin (2 ^ M 2 0) 0 u0 S11.rfl (by omega)⟩
/-- the sets of what is not paid -/
def opn (M : MH) : Nat := andn (2 ^ M 2 0 - 1) (M 6 0)
theorem opn_lt {M : MH} : opn M < 2 ^ M 2 0 := andn_lt (by have := Nat.two_pow_pos (M 2 0); omega)
theorem sub_le {a b : Nat} (h : ∀ s, a.testBit s = true → b.testBit s = true) : a ≤ b := by
  have : a &&& b = a := by
    apply Nat.eq_of_testBit_eq
    intro s
    rw [Nat.testBit_and]
    cases e : a.testBit s with
    | false => rfl
    | true => rw [h s e]; rfl
  rw [← this]
  exact Nat.and_le_right
/-- above all that is open, something is paid -/
theorem opn_paid {M : MH} {g : Nat} (hg : g < 2 ^ M 2 0) (h : opn M < g) : ¬ g &&& M 6 0 = 0 := fun q => by
  have : g ≤ opn M := sub_le (fun s hs => by
    have hb := (open_iff hg).mpr q
    have := (nz_bit.mp hb) s
    rw [tb_andn, hs] at this
    unfold opn
    cases e : (andn (2 ^ M 2 0 - 1) (M 6 0)).testBit s with
    | true => rfl
    | false => rw [e] at this; exact absurd this (by decide))
  omega
theorem bst_top {M : MH} : ∀ k, opn M + 1 + k ≤ 2 ^ M 2 0 → bst (pM M) (opn M + 1 + k) = bst (pM M) (opn M + 1) := by
  intro k
  induction k with
  | zero => intro _; rfl
  | succ k ih =>
    intro hk
    rw [← Nat.add_assoc, bst, if_neg, ih (by omega)]
    intro q
    have h1 := opn_paid (M := M) (g := opn M + 1 + k) (by omega) (by omega)
    have := q.2
    unfold pM at this
    simp [h1] at this
theorem m_most_loop {M : MH} {u : St} {post : Int32 → St → Prop} (ok : okH M) (h : MC u M) (fin : post (nI (bst (pM M) (2 ^ M 2 0))) u) : ∀ (m i : Nat), 1 ≤ i → i + m = opn M + 1 → qX12_bestBare_L10 post (m + 1) (-1) (nI (bst (pM M) i)) (nI (opn M)) (nI i) u := by
  have h7 := ok_nd ok
  have h27 : 2 ^ M 2 0 < 2 ^ 8 := Nat.pow_lt_pow_right (by decide) (by omega)
  have ho := opn_lt (M := M)
  intro m
  induction m with
  | zero =>
    intro i h1 hi
    refine ⟨fun _ => ?_, fun c => absurd (nI_lt (by omega) (by omega)) c⟩
    rw [show i = opn M + 1 by omega, ← bst_top (2 ^ M 2 0 - (opn M + 1)) (by omega), show opn M + 1 + (2 ^ M 2 0 - (opn M + 1)) = 2 ^ M 2 0 by omega]
    exact fin
  | succ m ih =>
    intro i h1 hi
    have hb := bst_lt (pM M) i
    have p1 := (pc8 i (by omega)).1
    have p2 := (pc8 (bst (pM M) i) (by omega)).1
    have nx := ih (i + 1) (by omega) (by omega)
    rw [bst] at nx
    have sk : ¬ (pc (bst (pM M) i) < pc i ∧ pM M i = true) → qX12_bestBare_b120 post (qX12_bestBare_L10 post (m + 1)) (-1) (nI (bst (pM M) i)) (nI (opn M)) (nI i) u := fun c z ez => by
      rw [nI_1] at ez
      subst ez
      rw [if_neg c] at nx
      exact nx
    have b61 : ∀ g : Int32, (g = 0 ↔ pM M i = false) → qX12_bestBare_b61 post (qX12_bestBare_L10 post (m + 1)) (-1) (nI (bst (pM M) i)) (nI (opn M)) (nI i) g u := fun g hg => by
      refine ⟨fun c => ?_, fun _ => ⟨fun c => absurd rfl c, fun _ => m_bits (by omega) (m_bits (by omega) ⟨fun c => ⟨fun _ => sk ?_, fun _ => ⟨fun _ => sk ?_, fun c => absurd rfl c⟩⟩, fun c => ⟨fun c2 => sk ?_, fun c2 => ⟨fun c => absurd c (by decide), fun _ z ez => ?_⟩⟩⟩)⟩⟩
      · rw [i_eq, nI_toInt (by omega)] at c
        have : (-1 : Int32).toInt = -1 := rfl
        omega
      · exact fun q => absurd c (nI_ge q.1 (by omega))
      · exact fun q => absurd c (nI_ge q.1 (by omega))
      · exact fun q => absurd q.2 (by rw [hg.mp c2]; decide)
      · rw [nI_1] at ez
        subst ez
        rw [if_pos ⟨Nat.lt_of_not_le (fun q => c (nI_le q (by omega))), by
          cases e : pM M i with
          | true => rfl
          | false => exact absurd (hg.mpr e) c2⟩] at nx
        exact nx
    have hin : i < 2 ^ M 2 0 := by omega
    refine ⟨fun c => absurd ((nI_ltI (by omega) (by omega)).mp c) (by omega), fun _ => ?_⟩
    rw [i_andn, nI_z (andn_lt (n := 31) (by omega))]
    unfold opn
    rw [open_iff hin]
    refine ⟨fun c => m_fwo ok (by omega) h ⟨fun c => absurd rfl c, fun _ => ?_⟩, fun c => sk (fun q => ?_)⟩
    · rw [nI_z (fwo_lt ok i)]
      exact ⟨fun c2 => b61 0 ⟨fun _ => by unfold pM; simp [c2], fun _ => rfl⟩, fun c2 => b61 1 ⟨fun q => absurd q (by decide), fun q => by unfold pM at q; simp [c, c2] at q⟩⟩
    · have := q.2
      unfold pM at this
      simp [c] at this
theorem m_most {M : MH} {u : St} {post : Int32 → St → Prop} (ok : okH M) (h : MC u M) (fin : post (nI (bst (pM M) (2 ^ M 2 0))) u) : qX12_bestBare (-1) u post := by
  have h7 := ok_nd ok
  have h27 : 2 ^ M 2 0 < 2 ^ 8 := Nat.pow_lt_pow_right (by decide) (by omega)
  have ho := opn_lt (M := M)
  refine m_openDebts ok h ⟨opn M + 1 + 1, ?_⟩
  show qX12_bestBare_l10 post (qX12_bestBare_L10 post (opn M + 1)) (-1) (-1) (nI (opn M)) (nI 0) u
  refine ⟨fun c => absurd ((nI_ltI (by omega) (by omega)).mp c) (by omega), fun _ => ?_⟩
  rw [i_andn, show andn 0 (opn M) = 0 from by unfold andn; rw [Nat.zero_and]; rfl]
  refine ⟨fun _ => m_fwo (g := 0) ok (by omega) h ⟨fun c => absurd rfl c, fun _ => ?_⟩, fun c => absurd rfl c⟩
  rw [fwo_0]
  refine ⟨fun c => absurd rfl c, fun _ => ⟨fun _ => ⟨fun c => absurd c (by decide), fun _ => ⟨fun c => absurd c (by decide), fun _ z ez => ?_⟩⟩, fun c => absurd rfl c⟩⟩
  rw [nI_1] at ez
  subst ez
  have := m_most_loop ok h fin (opn M) 1 (by omega) (by omega)
  rw [show bst (pM M) 1 = 0 from by rw [bst, if_neg (fun q => absurd q.1 (by show ¬ pc 0 < pc 0; omega))]; rfl] at this
  exact this
theorem sp_most : SP_most RR := fun cs ms h => by
  obtain ⟨M, ok, hs, hc, hm, ht⟩ := rr_house h
  have h7 := ok_nd ok
  have h27 : 2 ^ M 2 0 < 2 ^ 8 := Nat.pow_lt_pow_right (by decide) (by omega)
  have hb := bst_lt (pM M) (2 ^ M 2 0)
  exact r_idle ok hs hc (fun u hu => r_bitCount (by omega) (r_answer (m_most ok hm (m_bits (by omega) (m_gives ⟨rfl, rr_s11 h hu 0⟩)))))
theorem sp_mostSet : SP_mostSet RR := fun cs ms h => by
  obtain ⟨M, ok, hs, hc, hm, ht⟩ := rr_house h
  exact r_idle ok hs hc (fun u hu => r_answer (m_most ok hm (m_gives ⟨rfl, rr_s11 h hu 0⟩)))
