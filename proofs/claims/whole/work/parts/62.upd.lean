/-! HOUSE CHANGES: a number of a house is another; what stands then; the relation under a new house -/
def mp (M : MH) (k i v : Nat) : MH := fun a b => if a = k ∧ b = i then v else M a b
theorem mp_eq (M : MH) (k i v : Nat) : mp M k i v k i = v := if_pos ⟨rfl, rfl⟩
theorem mp_ne {M : MH} {k i v a b : Nat} (h : a ≠ k ∨ b ≠ i) : mp M k i v a b = M a b := if_neg (fun q => h.elim (fun h => h q.1) (fun h => h q.2))
theorem lvAt_congr {M M' : MH} {g s : Nat} (h6 : M' 6 0 = M 6 0) (h18 : ∀ i, M' 18 i = M 18 i) (h19 : ∀ i, M' 19 i = M 19 i) : ∀ n, lvAt M' g s n = lvAt M g s n := by
  intro n
  induction n with
  | zero => rfl
  | succ n ih => rw [lvAt, lvAt, ih, h6, h18, h19]
theorem stn_congr {M M' : MH} {g w : Nat} (h2 : M' 2 0 = M 2 0) (h5 : M' 5 0 = M 5 0) (h6 : M' 6 0 = M 6 0) (h8 : ∀ i, M' 8 i = M 8 i) (h9 : ∀ i, M' 9 i = M 9 i) (h10 : ∀ i, M' 10 i = M 10 i) (h18 : ∀ i, M' 18 i = M 18 i) (h19 : ∀ i, M' 19 i = M 19 i) : ∀ n, stn M' g w n = stn M g w n := by
  intro n
  induction n with
  | zero => rfl
  | succ n ih => rw [stn, stn, ih, h2, h5, h8, h9, h10, lvAt_congr h6 h18 h19]
/-- a stone stands -/
def stc (M : MH) (g w s : Nat) : Prop := (M 10 s = 0 ∨ M 10 s &&& stn M g w s ≠ 0) ∧ (M 5 0).testBit s = false ∧ w.testBit s = false ∧ M 9 s ≤ M 8 s + lvAt M g s (M 2 0) / 5
theorem tb_add {x n : Nat} (h : x < 2 ^ n) (s : Nat) : (x + 2 ^ n).testBit s = (x.testBit s || decide (s = n)) := by
  rw [← or_pow h, Nat.testBit_or, Nat.testBit_two_pow]
  congr 1
  exact decide_eq_decide.mpr eq_comm
theorem stn_bit (M : MH) (g w s : Nat) : ∀ n, ((stn M g w n).testBit s = true ↔ s < n ∧ stc M g w s) := by
  intro n
  induction n with
  | zero => exact ⟨fun q => absurd q (by rw [stn, Nat.zero_testBit]; decide), fun q => absurd q.1 (by omega)⟩
  | succ n ih =>
    rw [stn]
    split
    · rename_i c
      rw [tb_add (stn_lt M g w n), Bool.or_eq_true, ih, decide_eq_true_iff]
      exact ⟨fun q => q.elim (fun q => ⟨by omega, q.2⟩) (fun q => by subst q; exact ⟨by omega, c⟩), fun q => by
        by_cases e : s = n
        · exact Or.inr e
        · exact Or.inl ⟨by omega, q.2⟩⟩
    · rename_i c
      rw [ih]
      exact ⟨fun q => ⟨by omega, q.2⟩, fun q => by
        by_cases e : s = n
        · subst e
          exact absurd q.2 c
        · exact ⟨by omega, q.2⟩⟩
theorem and_ne {a b : Nat} : a &&& b ≠ 0 ↔ ∃ s, a.testBit s = true ∧ b.testBit s = true := by
  constructor
  · intro h
    obtain ⟨s, hs⟩ := Nat.exists_testBit_of_ne_zero h
    rw [Nat.testBit_and, Bool.and_eq_true] at hs
    exact ⟨s, hs⟩
  · intro ⟨s, h1, h2⟩ h
    have : (a &&& b).testBit s = true := by rw [Nat.testBit_and, h1, h2]; rfl
    rw [h, Nat.zero_testBit] at this
    exact absurd this (by decide)
/-- more mortar, more leaves, fewer fallen: what stood stands -/
theorem stn_mono {M M' : MH} {g g' w w' : Nat} (h10 : ∀ i, M' 10 i = M 10 i) (h5 : ∀ s, (M 5 0).testBit s = false → (M' 5 0).testBit s = false) (hw : ∀ s, w.testBit s = false → w'.testBit s = false) : ∀ n, (∀ s, s < n → stc M g w s → M 9 s ≤ M 8 s + lvAt M g s (M 2 0) / 5 → M' 9 s ≤ M' 8 s + lvAt M' g' s (M' 2 0) / 5) → ∀ s, s < n → stc M g w s → stc M' g' w' s := by
  intro n
  induction n with
  | zero => intro _ s hs; omega
  | succ n ih =>
    intro hh s hs c
    by_cases e : s < n
    · exact ih (fun s hs => hh s (by omega)) s e c
    · obtain ⟨c1, c2, c3, c4⟩ := c
      refine ⟨?_, h5 s c2, hw s c3, hh s hs ⟨c1, c2, c3, c4⟩ c4⟩
      rw [h10]
      refine c1.imp id (fun q => ?_)
      rw [and_ne] at q ⊢
      obtain ⟨t, q1, q2⟩ := q
      rw [stn_bit] at q2
      have es : s = n := by omega
      subst es
      refine ⟨t, q1, ?_⟩
      rw [stn_bit]
      exact ⟨q2.1, ih (fun s hs => hh s (by omega)) t q2.1 q2.2⟩
theorem pw_sub {n x : Nat} (h : x < 2 ^ n) (s : Nat) : (2 ^ n - 1 - x).testBit s = (decide (s < n) && ! x.testBit s) := by
  rw [show 2 ^ n - 1 - x = 2 ^ n - (x + 1) by omega, Nat.testBit_two_pow_sub_succ h]
/-- settled: each stone that has not fallen stands -/
theorem setl_iff {M : MH} (ok : okH M) : setl M ↔ ∀ s, s < M 0 0 → (M 5 0).testBit s = false → stc M 0 0 s := by
  have hf := ok.2.2.2.2.2.1
  have hl := stn_lt M 0 0 (M 0 0)
  constructor
  · intro h s hs c
    have e : stn M 0 0 (M 0 0) = 2 ^ M 0 0 - 1 - M 5 0 := by unfold setl at h; omega
    have := (stn_bit M 0 0 s (M 0 0)).mp (by rw [e, pw_sub hf, c]; simp [hs])
    exact this.2
  · intro h
    have e : stn M 0 0 (M 0 0) = 2 ^ M 0 0 - 1 - M 5 0 := by
      apply Nat.eq_of_testBit_eq
      intro s
      rw [pw_sub hf]
      by_cases hs : s < M 0 0
      · cases c : (M 5 0).testBit s with
        | false =>
          rw [(stn_bit M 0 0 s (M 0 0)).mpr ⟨hs, h s hs c⟩]
          simp [hs]
        | true =>
          have : ¬ (stn M 0 0 (M 0 0)).testBit s = true := by
            rw [stn_bit]
            intro q
            have := q.2.2.1
            rw [c] at this
            exact absurd this (by decide)
          simp [this]
      · have : ¬ (stn M 0 0 (M 0 0)).testBit s = true := by
          rw [stn_bit]
          exact fun q => hs q.1
        simp [this, hs]
    unfold setl
    omega
theorem setl_congr {M M' : MH} (h0 : M' 0 0 = M 0 0) (h2 : M' 2 0 = M 2 0) (h5 : M' 5 0 = M 5 0) (h6 : M' 6 0 = M 6 0) (h8 : ∀ i, M' 8 i = M 8 i) (h9 : ∀ i, M' 9 i = M 9 i) (h10 : ∀ i, M' 10 i = M 10 i) (h18 : ∀ i, M' 18 i = M 18 i) (h19 : ∀ i, M' 19 i = M 19 i) (h : setl M) : setl M' := by
  unfold setl at h ⊢
  rw [h0, h5, stn_congr h2 h5 h6 h8 h9 h10 h18 h19]
  exact h
/-- what does not stand falls -/
def fal (M : MH) : MH := mp M 5 0 (2 ^ M 0 0 - 1 - stn M 0 0 (M 0 0))
theorem fal_ne {M : MH} {a b : Nat} (h : a ≠ 5) : fal M a b = M a b := mp_ne (Or.inl h)
theorem fal_5 (M : MH) : fal M 5 0 = 2 ^ M 0 0 - 1 - stn M 0 0 (M 0 0) := mp_eq M 5 0 _
theorem fal_stn (M : MH) : ∀ n, n ≤ M 0 0 → stn (fal M) 0 0 n = stn M 0 0 n := by
  intro n
  induction n with
  | zero => intro _; rfl
  | succ n ih =>
    intro hn
    have h1 := stn_bit M 0 0 n (M 0 0)
    have e5 : (fal M 5 0).testBit n = ! (stn M 0 0 (M 0 0)).testBit n := by
      rw [fal_5, pw_sub (stn_lt M 0 0 _)]
      simp [show n < M 0 0 by omega]
    have hc : stc (fal M) 0 0 n ↔ stc M 0 0 n := by
      unfold stc
      rw [ih (by omega), e5, fal_ne (by decide), fal_ne (by decide), fal_ne (by decide), fal_ne (by decide), lvAt_congr (M := M) (fal_ne (by decide)) (fun i => fal_ne (by decide)) (fun i => fal_ne (by decide))]
      constructor
      · intro ⟨c1, c2, c3, c4⟩
        have : (stn M 0 0 (M 0 0)).testBit n = true := by
          cases q : (stn M 0 0 (M 0 0)).testBit n with
          | true => rfl
          | false => rw [q] at c2; exact absurd c2 (by decide)
        exact (h1.mp this).2
      · intro c
        have : (stn M 0 0 (M 0 0)).testBit n = true := h1.mpr ⟨by omega, c⟩
        rw [this]
        exact ⟨c.1, rfl, c.2.2⟩
    by_cases q : stc M 0 0 n
    · have q2 := hc.mpr q
      unfold stc at q q2
      rw [stn, stn, if_pos q, if_pos q2, ih (by omega)]
    · have q2 : ¬ stc (fal M) 0 0 n := fun q2 => q (hc.mp q2)
      unfold stc at q q2
      rw [stn, stn, if_neg q, if_neg q2, ih (by omega)]
theorem fal_setl (M : MH) : setl (fal M) := by
  unfold setl
  rw [fal_ne (by decide), fal_5, fal_stn M _ (Nat.le_refl _)]
  have := stn_lt M 0 0 (M 0 0)
  omega
theorem fal_ok {M : MH} (ok : okH M) : okH (fal M) := by
  obtain ⟨h0, h1, h2, h3, h4, h5, h6, h7, h8, h9, h10⟩ := ok
  refine ⟨h0, h1, h2, h3, h4, ?_, h6, h7, h8, h9, h10⟩
  show fal M 5 0 < 2 ^ M 0 0
  rw [fal_5]
  have : 0 < 2 ^ M 0 0 := Nat.two_pow_pos _
  omega
/-- settled already: nothing changes -/
theorem fal_same {M : MH} (ok : okH M) (h : setl M) : fal M = M := by
  have hf := ok.2.2.2.2.2.1
  funext a b
  by_cases c : a = 5 ∧ b = 0
  · obtain ⟨rfl, rfl⟩ := c
    rw [fal_5]
    unfold setl at h
    omega
  · unfold fal
    rw [mp_ne (by omega)]
theorem okT_mono {M M' N : MH} {n : Nat} (h0 : M' 0 0 = M 0 0) (h1 : M' 1 0 = M 1 0) (h : okT M N n) : okT M' N n := by
  unfold okT at h ⊢
  rw [h0, h1]
  exact h
theorem TR_congr {t : St} {a a1 : Nat → Int32} {sl : Nat} {M M' : MH} (h0 : M' 0 0 = M 0 0) (h1 : M' 1 0 = M 1 0) (h7 : a1 (456 * sl + 7) = a (456 * sl + 7)) (hst : ∀ j, 88 ≤ j → j < 448 → a1 (456 * sl + j) = a (456 * sl + j)) (h : TR t a sl M) : TR t a1 sl M' := by
  rcases h with ⟨h, h'⟩ | ⟨h, n, N, ho, h2, h3, h4⟩
  · exact Or.inl ⟨h, h7.trans h'⟩
  · refine Or.inr ⟨h, n, N, okT_mono h0 h1 ho, h2, h7.trans h3, fun i hi => ?_⟩
    have hn := ho.1
    obtain ⟨b1, ⟨k1, b2, b2'⟩, b3, b4, b5, b6⟩ := h4 i hi
    have e : ∀ j, 88 ≤ j → j < 94 → a1 (456 * sl + j + 6 * i) = a (456 * sl + j + 6 * i) := fun j h1 h2 => by
      have := hst (j + 6 * i) (by omega) (by omega)
      rw [← Nat.add_assoc] at this
      exact this
    refine ⟨b1, ⟨k1, b2, (e 88 (by omega) (by omega)).trans b2'⟩, fun q1 q2 q3 => ?_, fun q => ?_, fun q => ?_, fun q => ?_⟩
    · rw [e 89 (by omega) (by omega)]; exact b3 q1 q2 q3
    · rw [e 90 (by omega) (by omega)]; exact b4 q
    · rw [e 93 (by omega) (by omega)]; exact b5 q
    · rw [e 92 (by omega) (by omega)]; exact b6 q
theorem MR_congr {a a1 : Nat → Int32} {nm nm1 : Nat → Int64} {b c : Nat} {M : MH} (ok : okH M) (ha : ∀ j, j < 88 → a1 (b + j) = a (b + j)) (hn : ∀ j, j < 5 → nm1 (c + j) = nm (c + j)) (h : MR a nm b c M) : MR a1 nm1 b c M := by
  have o0 := ok_ns ok
  have o1 := ok_np ok
  have o2 := ok_nd ok
  obtain ⟨h1, h2, h3, h4⟩ := h
  refine ⟨fun k hk => (ha k (by omega)).trans (h1 k hk), fun s hs => ?_, fun p hp => ⟨?_, (hn p (by omega)).trans (h3 p hp).2⟩, fun d hd => ?_⟩
  · have := h2 s hs
    have e : ∀ j, 10 ≤ j → j < 13 → a1 (b + j + 3 * s) = a (b + j + 3 * s) := fun j q1 q2 => by
      have := ha (j + 3 * s) (by omega)
      rw [← Nat.add_assoc] at this
      exact this
    rw [e 10 (by omega) (by omega), e 11 (by omega) (by omega), e 12 (by omega) (by omega)]
    exact this
  · have := ha (34 + p) (by omega)
    rw [← Nat.add_assoc] at this
    exact this.trans (h3 p hp).1
  · have := h4 d hd
    have e : ∀ j, 39 ≤ j → j < 46 → a1 (b + j + 7 * d) = a (b + j + 7 * d) := fun j q1 q2 => by
      have := ha (j + 7 * d) (by omega)
      rw [← Nat.add_assoc] at this
      exact this
    rw [e 39 (by omega) (by omega), e 40 (by omega) (by omega), e 41 (by omega) (by omega), e 42 (by omega) (by omega), e 43 (by omega) (by omega), e 44 (by omega) (by omega), e 45 (by omega) (by omega)]
    exact this
theorem SlR_congr {h t : St} {a a1 : Nat → Int32} {nm nm1 : Nat → Int64} {sl : Nat} (ha : ∀ j, j < 448 → a1 (456 * sl + j) = a (456 * sl + j)) (hn : ∀ j, j < 5 → nm1 (5 * sl + j) = nm (5 * sl + j)) (q : SlR h t a nm sl) : SlR h t a1 nm1 sl := by
  obtain ⟨M, ⟨q1, q2, q3, q4⟩, q5⟩ := q
  exact ⟨M, ⟨q1, q2, q3, MR_congr q1 (fun j hj => ha j (by omega)) hn q4⟩, TR_congr rfl rfl (ha 7 (by omega)) (fun j _ hj => ha j hj) q5⟩
/-- what the reference keeps -/
def mKeep (ms ms1 : St) : Prop := gj ms1 3 = gj ms 3 ∧ gj ms1 4 = gj ms 4 ∧ gi ms1 10 = gi ms 10 ∧ ga ms1 8 = ga ms 8 ∧ gi ms1 16 = gi ms 16 ∧ gi ms1 17 = gi ms 17 ∧ ga ms1 5 = ga ms 5 ∧ ga ms1 6 = ga ms 6 ∧ gl ms1 7 = gl ms 7 ∧ gi ms1 39 = gi ms 39 ∧ gi ms1 38 = gi ms 38 ∧ ga ms1 37 = ga ms 37 ∧ gl ms1 1 = gl ms 1
theorem MkR_congr {k h0 h1 h2 t0 t1 t2 : St} {mk : Int32} {a a1 : Nat → Int32} {nm : Nat → Int64} (ha : ∀ j, 456 ≤ j → j < 1824 → a1 j = a j) (q : MkR k h0 h1 h2 t0 t1 t2 mk a nm) : MkR k h0 h1 h2 t0 t1 t2 mk a1 nm := by
  obtain ⟨q1, n, q2, q3, q4, q5, q6⟩ := q
  exact ⟨q1, n, q2, q3, fun c => SlR_congr (fun j hj => ha _ (by omega) (by omega)) (fun _ _ => rfl) (q4 c), fun c => SlR_congr (fun j hj => ha _ (by omega) (by omega)) (fun _ _ => rfl) (q5 c), fun c => SlR_congr (fun j hj => ha _ (by omega) (by omega)) (fun _ _ => rfl) (q6 c)⟩
theorem rr_put {cs : Nat → St} {ms : St} (h : RR cs ms) {M' : MH} {u5 ms1 : St} {v : Int32} (ok : okH M') (st : setl M') (hc : CH u5 M') (hm : MC ms1 M') (ht : TR (cs 7) (ga ms1 0) 0 M') (hk : mKeep ms ms1) (hs : gi ms1 2 = v) (ha : ∀ j, 456 ≤ j → j < 1824 → ga ms1 0 j = ga ms 0 j) : RR (va_up (va_up cs 0 (si (cs 0) 0 v)) 5 u5) ms1 := by
  obtain ⟨h1, h2, h3, h4, h5, h6, h7, h8⟩ := h
  obtain ⟨k1, k2, k3, k4, k5, k6, k7, k8, k9, k10, k11, k12, k13⟩ := hk
  refine ⟨hs.symm, ?_, ?_, ?_, ?_, ⟨M', ⟨ok, st, hc, hm⟩, ht⟩, ?_, ?_⟩
  · rw [k1, k2]; exact h2
  · rw [k3, k4]; exact h3
  · rw [k5, k6]; exact h4
  · rw [k7, k8, k9]; exact h5
  · rw [k10, k13]; exact MkR_congr ha h7
  · rw [k11, k12]; exact h8
theorem rr_h5 {cs : Nat → St} {ms : St} (h : RR cs ms) (f : Nat → Int32) (v : Int32) : RR (va_up (va_up cs 0 (si (cs 0) 0 v)) 5 (sw (cs 5) 11 f)) (si ms 2 v) := by
  obtain ⟨M, ok, hs, hc, hm, ht⟩ := rr_house h
  exact rr_put h ok hs (hc.w11 f) hm ht ⟨rfl, rfl, rfl, rfl, rfl, rfl, rfl, rfl, rfl, rfl, rfl, rfl, rfl⟩ rfl (fun _ _ _ => rfl)
