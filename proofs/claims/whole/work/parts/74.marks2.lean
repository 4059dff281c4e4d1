/-! HOUSE RULES 9: marks -/
theorem MR_sh {a : Nat → Int32} {nm : Nat → Int64} {b c : Nat} {M : MH} : MR a nm b c M ↔ MR (fun j => a (b + j)) (fun j => nm (c + j)) 0 0 M := by
  unfold MR
  simp only [Nat.zero_add, Nat.add_assoc]
theorem TR_sh {t : St} {a : Nat → Int32} {sl : Nat} {M : MH} : TR t a sl M ↔ TR t (fun j => a (456 * sl + j)) 0 M := by
  unfold TR
  simp only [Nat.mul_zero, Nat.zero_add, Nat.add_assoc]
/-- the times are the same -/
def TC (t t1 : St) : Prop := gi t1 0 = gi t 0 ∧ gi t1 2 = gi t 2 ∧ ∀ k i, 3 ≤ k → k ≤ 7 → i < 60 → ga t1 k i = ga t k i
theorem TR_tc {t t1 : St} {a : Nat → Int32} {sl : Nat} {M : MH} (h : TC t t1) (q : TR t a sl M) : TR t1 a sl M := by
  obtain ⟨h0, h2, hk⟩ := h
  rcases q with ⟨q, q'⟩ | ⟨q, n, N, ho, q2, q3, q4⟩
  · exact Or.inl ⟨h0.trans q, q'⟩
  · refine Or.inr ⟨h0.trans q, n, N, ho, h2.trans q2, q3, fun i hi => ?_⟩
    have hn := ho.1
    have := q4 i hi
    rw [hk 3 i (by omega) (by omega) (by omega), hk 4 i (by omega) (by omega) (by omega), hk 5 i (by omega) (by omega) (by omega), hk 6 i (by omega) (by omega) (by omega), hk 7 i (by omega) (by omega) (by omega)]
    exact this
theorem r_copyTimes {u0 u1 : St} {post : St → St → Prop} (hb : bz (gi u1 0)) (fin : ∀ u', TC u1 u' → post u' u1) : qX7_copyFrom u0 u1 post := by
  have c6 : cpOk 0 0 60 60 60 := by unfold cpOk; decide
  refine ⟨hb, fun a1 e1 a2 e2 a3 e3 => ⟨c6, fun a4 e4 => ⟨c6, fun a5 e5 => ⟨c6, fun a6 e6 => ⟨c6, fun a7 e7 => ⟨c6, fun a8 e8 => fin a8 ?_⟩⟩⟩⟩⟩⟩
  rw [show (0 : Int32).toNatClampNeg = 0 from rfl, show (60 : Int32).toNatClampNeg = 60 from rfl] at e4 e5 e6 e7 e8
  subst e8 e7 e6 e5 e4 e3 e2 e1
  refine ⟨rfl, rfl, fun k i h1 h2 hi => ?_⟩
  have : k = 3 ∨ k = 4 ∨ k = 5 ∨ k = 6 ∨ k = 7 := by omega
  rcases this with rfl | rfl | rfl | rfl | rfl <;> exact cp_at hi
theorem TR_bz {t : St} {a : Nat → Int32} {sl : Nat} {M : MH} (h : TR t a sl M) : bz (gi t 0) := h.elim (fun q => Or.inl q.1) (fun q => Or.inr q.1)
theorem SlR_move {h t h1 t1 : St} {a a1 : Nat → Int32} {nm nm1 : Nat → Int64} {sl sl1 : Nat} {M : MH} (ok : okH M) (st : setl M) (hc : CH h1 M) (hm : MR a nm (456 * sl) (5 * sl) M) (ht : TR t a sl M) (tc : TC t t1) (ha : ∀ j, j < 448 → a1 (456 * sl1 + j) = a (456 * sl + j)) (hn : ∀ j, j < 5 → nm1 (5 * sl1 + j) = nm (5 * sl + j)) : SlR h1 t1 a1 nm1 sl1 := by
  refine ⟨M, ⟨ok, st, hc, MR_sh.mpr (MR_congr ok (fun j hj => ?_) (fun j hj => ?_) (MR_sh.mp hm))⟩, TR_tc tc (TR_sh.mpr (TR_congr rfl rfl ?_ (fun j h1 h2 => ?_) (TR_sh.mp ht)))⟩
  · rw [Nat.zero_add]
    exact ha j (by omega)
  · rw [Nat.zero_add]
    exact hn j hj
  · exact ha 7 (by omega)
  · rw [Nat.mul_zero, Nat.zero_add]
    exact ha j h2
/-- a slot goes to another -/
def slF (a b n : Nat) (f : Nat → Int32) : Nat → Int32 := fun j => if 456 * b ≤ j ∧ j < 456 * b + n then f (456 * a + (j - 456 * b)) else f j
def slL (a b n : Nat) (f : Nat → Int64) : Nat → Int64 := fun j => if 5 * b ≤ j ∧ j < 5 * b + n then f (5 * a + (j - 5 * b)) else f j
theorem slF_s {a b n : Nat} {f : Nat → Int32} (hn : n < 456) (hab : a ≠ b) : upd (slF a b n f) (456 * b + n) (slF a b n f (456 * a + n)) = slF a b (n + 1) f := by
  funext j
  rw [upd_at]
  unfold slF
  by_cases c : j = 456 * b + n
  · rw [if_pos c, if_neg (by omega), if_pos (by omega), c, show 456 * b + n - 456 * b = n by omega]
  · rw [if_neg c]
    by_cases c2 : 456 * b ≤ j ∧ j < 456 * b + n
    · rw [if_pos c2, if_pos (by omega)]
    · rw [if_neg c2, if_neg (by omega)]
theorem slL_s {a b n : Nat} {f : Nat → Int64} (hn : n < 5) (hab : a ≠ b) : vp_updL (slL a b n f) (5 * b + n) (slL a b n f (5 * a + n)) = slL a b (n + 1) f := by
  funext j
  rw [updL_at]
  unfold slL
  by_cases c : j = 5 * b + n
  · rw [if_pos c, if_neg (by omega), if_pos (by omega), c, show 5 * b + n - 5 * b = n by omega]
  · rw [if_neg c]
    by_cases c2 : 5 * b ≤ j ∧ j < 5 * b + n
    · rw [if_pos c2, if_pos (by omega)]
    · rw [if_neg c2, if_neg (by omega)]
theorem slF_0 (a b : Nat) (f : Nat → Int32) : slF a b 0 f = f := by
  funext j
  unfold slF
  rw [if_neg (by omega)]
theorem slL_0 (a b : Nat) (f : Nat → Int64) : slL a b 0 f = f := by
  funext j
  unfold slL
  rw [if_neg (by omega)]
theorem i_456 (a j : Nat) : (456 : Int32) * nI a + nI j = nI (456 * a + j) := by rw [show (456 : Int32) = nI 456 from rfl, pk_mul, nI_add]
theorem i_5 (a j : Nat) : (5 : Int32) * nI a + nI j = nI (5 * a + j) := by rw [show (5 : Int32) = nI 5 from rfl, pk_mul, nI_add]
theorem copies_l2 {a b : Nat} {u : St} {post : St → Prop} (ha : a ≤ 3) (hb : b ≤ 3) (hab : a ≠ b) (fin : post (sx u 1 (slL a b 5 (gl u 1)))) : ∀ (m i : Nat), i + m = 5 → qX12_copies_L41 post (m + 1) (nI a) (nI b) (nI i) (sx u 1 (slL a b i (gl u 1))) := by
  intro m
  induction m with
  | zero =>
    intro i hi
    have : i = 5 := by omega
    subst this
    exact ⟨fun _ => fin, fun c => absurd (by decide) c⟩
  | succ m ih =>
    intro i hi
    refine ⟨fun c => absurd c (nI_ge (b := 5) (by omega) (by omega)), fun _ => ?_⟩
    rw [i_5, i_5, nI_clamp (n := 5 * a + i) (by omega), nI_clamp (n := 5 * b + i) (by omega)]
    refine ⟨vp_in_nI (by omega) (by omega), vp_in_nI (by omega) (by omega), fun u' e z ez => ?_⟩
    rw [nI_1] at ez
    rw [sx_sx, gl_sx, if_pos rfl, slL_s (by omega) hab] at e
    subst e; subst ez
    exact ih (i + 1) (by omega)
theorem copies_l1 {a b : Nat} {u : St} {post : St → Prop} (ha : a ≤ 3) (hb : b ≤ 3) (hab : a ≠ b) (fin : qX12_copies_b39 post (nI a) (nI b) (sw u 0 (slF a b 456 (ga u 0)))) : ∀ (m i : Nat), i + m = 456 → qX12_copies_L2 post (m + 1) (nI a) (nI b) (nI i) (sw u 0 (slF a b i (ga u 0))) := by
  intro m
  induction m with
  | zero =>
    intro i hi
    have : i = 456 := by omega
    subst this
    exact ⟨fun _ => fin, fun c => absurd (by decide) c⟩
  | succ m ih =>
    intro i hi
    refine ⟨fun c => absurd c (nI_ge (b := 456) (by omega) (by omega)), fun _ => ?_⟩
    rw [i_456, i_456, nI_clamp (n := 456 * a + i) (by omega), nI_clamp (n := 456 * b + i) (by omega)]
    refine ⟨vp_in_nI (by omega) (by omega), vp_in_nI (by omega) (by omega), fun u' e z ez => ?_⟩
    rw [nI_1] at ez
    rw [sw_sw, ga_sw, if_pos rfl, slF_s (by omega) hab] at e
    subst e; subst ez
    exact ih (i + 1) (by omega)
theorem m_copies {a b : Nat} {u : St} {post : St → Prop} (ha : a ≤ 3) (hb : b ≤ 3) (hab : a ≠ b) (fin : post (sx (sw u 0 (slF a b 456 (ga u 0))) 1 (slL a b 5 (gl u 1)))) : qX12_copies (nI a) (nI b) u post := by
  have l2 := copies_l2 (u := sw u 0 (slF a b 456 (ga u 0))) ha hb hab fin 5 0 (by omega)
  rw [slL_0, sx_same] at l2
  have l1 := copies_l1 ha hb hab ⟨_, l2⟩ 456 0 (by omega)
  rw [slF_0, sw_same] at l1
  exact ⟨_, l1⟩
theorem slF_to {a b j : Nat} {f : Nat → Int32} (hj : j < 456) : slF a b 456 f (456 * b + j) = f (456 * a + j) := by
  unfold slF
  rw [if_pos (by omega), show 456 * b + j - 456 * b = j by omega]
theorem slF_far {a b j : Nat} {f : Nat → Int32} (hj : j < 456 * b ∨ 456 * b + 456 ≤ j) : slF a b 456 f j = f j := by
  unfold slF
  rw [if_neg (by omega)]
theorem slL_to {a b j : Nat} {f : Nat → Int64} (hj : j < 5) : slL a b 5 f (5 * b + j) = f (5 * a + j) := by
  unfold slL
  rw [if_pos (by omega), show 5 * b + j - 5 * b = j by omega]
theorem slL_far {a b j : Nat} {f : Nat → Int64} (hj : j < 5 * b ∨ 5 * b + 5 ≤ j) : slL a b 5 f j = f j := by
  unfold slL
  rw [if_neg (by omega)]
theorem SlR_far {h t : St} {a b c : Nat} {f : Nat → Int32} {g : Nat → Int64} (hc : c ≠ b) (q : SlR h t f g c) : SlR h t (slF a b 456 f) (slL a b 5 g) c :=
  SlR_congr (fun j hj => slF_far (by omega)) (fun j hj => slL_far (by omega)) q
theorem SlR_to {h t h1 t1 : St} {a b : Nat} {f : Nat → Int32} {g : Nat → Int64} {M : MH} (ok : okH M) (st : setl M) (hc : CH h1 M) (hm : MR f g (456 * a) (5 * a) M) (ht : TR t f a M) (tc : TC t t1) : SlR h1 t1 (slF a b 456 f) (slL a b 5 g) b :=
  SlR_move (h := h) ok st hc hm ht tc (fun j hj => slF_to (by omega)) (fun j hj => slL_to hj)
theorem sp_mark : SP_mark RR := fun cs ms h => by
  obtain ⟨h1, h2, h3, h4, h5, h6, ⟨m1, n, hn, m2, s1, s2, s3⟩, h8⟩ := h
  have e9 : gi (cs 9) 0 = nI n := m1.trans m2
  by_cases c : n = 3
  · subst c
    exact ⟨fun q => absurd q (by rw [e9]; decide), fun _ => r_refuse ⟨fun q => absurd m2 q, fun _ => m_refuse ⟨rfl, ⟨rfl, h2, h3, h4, h5, h6, ⟨m1, 3, hn, m2, s1, s2, s3⟩, h8⟩⟩⟩⟩
  · have hn3 : n < 3 := by omega
    obtain ⟨M, ⟨ok, st, hc, hm⟩, ht⟩ := h6
    have tz := TR_bz ht
    have mref : ∀ {post : Int32 → St → Prop}, post (nI (n + 1)) (si (sx (sw (si ms 39 (nI (n + 1))) 0 (slF 0 (n + 1) 456 (ga ms 0))) 1 (slL 0 (n + 1) 5 (gl ms 1))) 2 0) → qX12_mark ms post := fun f => by
      refine ⟨fun _ u e => ?_, fun q => absurd ((nI_eq (b := 3) (by omega) (by omega)).mp (m2.symm.trans q)) (by omega)⟩
      rw [m2, nI_1] at e
      subst e
      exact m_copies (a := 0) (b := n + 1) (by omega) (by omega) (by omega) (m_gives f)
    have h60 : SlR (cs 5) (cs 7) (slF 0 (n + 1) 456 (ga ms 0)) (slL 0 (n + 1) 5 (gl ms 1)) 0 := SlR_far (by omega) ⟨M, ⟨ok, st, hc, hm⟩, ht⟩
    have nw : ∀ h' t', CH h' M → TC (cs 7) t' → SlR h' t' (slF 0 (n + 1) 456 (ga ms 0)) (slL 0 (n + 1) 5 (gl ms 1)) (n + 1) := fun h' t' a b => SlR_to (h := cs 5) ok st a hm ht b
    refine ⟨fun _ => ?_, fun q => absurd (by rw [e9]; exact nI_lt hn3 (by decide)) q⟩
    have hcase : n = 0 ∨ n = 1 ∨ n = 2 := by omega
    rcases hcase with rfl | rfl | rfl
    · have z1 : ¬ gi (cs 9) 0 = 1 := by rw [e9]; decide
      have z2 : ¬ gi (cs 9) 0 = 2 := by rw [e9]; decide
      refine ⟨fun _ => r_copyFrom ok hc (fun h' a => ⟨fun _ => r_copyTimes tz (fun t' b u e => ?_), fun q => absurd q z1, fun q => absurd q z2, Or.inl e9⟩), fun q => absurd q z1, fun q => absurd q z2, Or.inl e9⟩
      rw [e9] at e
      subst e
      exact r_answer (mref ⟨rfl, ⟨rfl, h2, h3, h4, h5, h60, ⟨rfl, 1, by omega, rfl, fun _ => nw h' t' a b, fun q => absurd q (by omega), fun q => absurd q (by omega)⟩, h8⟩⟩)
    · have z1 : ¬ gi (cs 9) 0 = 0 := by rw [e9]; decide
      have z2 : ¬ gi (cs 9) 0 = 2 := by rw [e9]; decide
      refine ⟨fun q => absurd q z1, fun _ => r_copyFrom ok hc (fun h' a => ⟨fun q => absurd q z1, fun _ => r_copyTimes tz (fun t' b u e => ?_), fun q => absurd q z2, Or.inr (Or.inl e9)⟩), fun q => absurd q z2, Or.inr (Or.inl e9)⟩
      rw [e9] at e
      subst e
      exact r_answer (mref ⟨rfl, ⟨rfl, h2, h3, h4, h5, h60, ⟨rfl, 2, by omega, rfl, fun _ => SlR_far (by omega) (s1 (by omega)), fun _ => nw h' t' a b, fun q => absurd q (by omega)⟩, h8⟩⟩)
    · have z1 : ¬ gi (cs 9) 0 = 0 := by rw [e9]; decide
      have z2 : ¬ gi (cs 9) 0 = 1 := by rw [e9]; decide
      refine ⟨fun q => absurd q z1, fun q => absurd q z2, fun _ => r_copyFrom ok hc (fun h' a => ⟨fun q => absurd q z1, fun q => absurd q z2, fun _ => r_copyTimes tz (fun t' b u e => ?_), Or.inr (Or.inr e9)⟩), Or.inr (Or.inr e9)⟩
      rw [e9] at e
      subst e
      exact r_answer (mref ⟨rfl, ⟨rfl, h2, h3, h4, h5, h60, ⟨rfl, 3, by omega, rfl, fun _ => SlR_far (by omega) (s1 (by omega)), fun _ => SlR_far (by omega) (s2 (by omega)), fun _ => nw h' t' a b⟩, h8⟩⟩)
theorem sp_undo : SP_undo RR := fun cs ms h => by
  obtain ⟨h1, h2, h3, h4, h5, h6, ⟨m1, n, hn, m2, s1, s2, s3⟩, h8⟩ := h
  have e9 : gi (cs 9) 0 = nI n := m1.trans m2
  by_cases c : n = 0
  · subst c
    exact ⟨fun q => absurd q (by rw [e9]; decide), fun _ => r_refuse ⟨fun q => absurd m2 q, fun _ => m_refuse ⟨rfl, ⟨rfl, h2, h3, h4, h5, h6, ⟨m1, 0, hn, m2, s1, s2, s3⟩, h8⟩⟩⟩⟩
  · obtain ⟨k, rfl⟩ : ∃ k, n = k + 1 := ⟨n - 1, by omega⟩
    have mref : ∀ {post : Int32 → St → Prop}, post (nI k) (si (si (sx (sw ms 0 (slF (k + 1) 0 456 (ga ms 0))) 1 (slL (k + 1) 0 5 (gl ms 1))) 39 (nI k)) 2 0) → qX12_undo ms post := fun f => by
      refine ⟨fun _ => ?_, fun q => absurd ((nI_z (by omega)).mp (m2.symm.trans q)) (by omega)⟩
      rw [m2]
      refine m_copies (a := k + 1) (b := 0) (by omega) (by omega) (by omega) (fun u e => ?_)
      have e39 : gi (sx (sw ms 0 (slF (k + 1) 0 456 (ga ms 0))) 1 (slL (k + 1) 0 5 (gl ms 1))) 39 = nI (k + 1) := m2
      rw [e39, nI_pred] at e
      subst e
      exact m_gives f
    have far : ∀ {h t : St} {sl : Nat}, sl ≠ 0 → SlR h t (ga ms 0) (gl ms 1) sl → SlR h t (slF (k + 1) 0 456 (ga ms 0)) (slL (k + 1) 0 5 (gl ms 1)) sl := fun a b => SlR_far a b
    refine ⟨fun _ => ?_, fun q => absurd (by rw [e9]; exact nI_lt (a := 0) (by omega) (by omega)) q⟩
    intro u8 e8
    rw [e9, nI_pred] at e8
    have g8 : gi u8 0 = nI k := by subst e8; rfl
    have hcase : k = 0 ∨ k = 1 ∨ k = 2 := by omega
    rcases hcase with rfl | rfl | rfl
    · have z1 : ¬ gi u8 0 = 1 := by rw [g8]; decide
      have z2 : ¬ gi u8 0 = 2 := by rw [g8]; decide
      obtain ⟨M, ⟨ok, st, hc, hm⟩, ht⟩ := s1 (by omega)
      refine ⟨fun _ => r_copyFrom ok hc (fun h' a => ⟨fun _ => r_copyTimes (TR_bz ht) (fun t' b => ?_), fun q => absurd q z1, fun q => absurd q z2, Or.inl g8⟩), fun q => absurd q z1, fun q => absurd q z2, Or.inl g8⟩
      show qX11_answer (gi u8 0) (cs 0) _
      rw [g8]
      exact r_answer (mref ⟨rfl, ⟨rfl, h2, h3, h4, h5, SlR_to (h := cs 5) ok st a hm ht b, ⟨g8, 0, by omega, rfl, fun q => absurd q (by omega), fun q => absurd q (by omega), fun q => absurd q (by omega)⟩, h8⟩⟩)
    · have z1 : ¬ gi u8 0 = 0 := by rw [g8]; decide
      have z2 : ¬ gi u8 0 = 2 := by rw [g8]; decide
      obtain ⟨M, ⟨ok, st, hc, hm⟩, ht⟩ := s2 (by omega)
      refine ⟨fun q => absurd q z1, fun _ => r_copyFrom ok hc (fun h' a => ⟨fun q => absurd q z1, fun _ => r_copyTimes (TR_bz ht) (fun t' b => ?_), fun q => absurd q z2, Or.inr (Or.inl g8)⟩), fun q => absurd q z2, Or.inr (Or.inl g8)⟩
      show qX11_answer (gi u8 0) (cs 0) _
      rw [g8]
      exact r_answer (mref ⟨rfl, ⟨rfl, h2, h3, h4, h5, SlR_to (h := cs 5) ok st a hm ht b, ⟨g8, 1, by omega, rfl, fun _ => far (by omega) (s1 (by omega)), fun q => absurd q (by omega), fun q => absurd q (by omega)⟩, h8⟩⟩)
    · have z1 : ¬ gi u8 0 = 0 := by rw [g8]; decide
      have z2 : ¬ gi u8 0 = 1 := by rw [g8]; decide
      obtain ⟨M, ⟨ok, st, hc, hm⟩, ht⟩ := s3 (by omega)
      refine ⟨fun q => absurd q z1, fun q => absurd q z2, fun _ => r_copyFrom ok hc (fun h' a => ⟨fun q => absurd q z1, fun q => absurd q z2, fun _ => r_copyTimes (TR_bz ht) (fun t' b => ?_), Or.inr (Or.inr g8)⟩), Or.inr (Or.inr g8)⟩
      show qX11_answer (gi u8 0) (cs 0) _
      rw [g8]
      exact r_answer (mref ⟨rfl, ⟨rfl, h2, h3, h4, h5, SlR_to (h := cs 5) ok st a hm ht b, ⟨g8, 2, by omega, rfl, fun _ => far (by omega) (s1 (by omega)), fun _ => far (by omega) (s2 (by omega)), fun q => absurd q (by omega)⟩, h8⟩⟩)
