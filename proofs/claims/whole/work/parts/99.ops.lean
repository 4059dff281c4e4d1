/-! STEPS 34: reading, what both do with a token -/
theorem runE_all (P : Nat → Bool) : ∀ m e j, e ≤ j → j < runE P m e → P j = true := by
  intro m
  induction m with
  | zero => intro e j h1 h2; exact absurd h2 (by show ¬ j < e; omega)
  | succ m ih =>
    intro e j h1 h2
    rw [runE] at h2
    by_cases c : P e = true
    · rw [if_pos c] at h2
      by_cases q : j = e
      · rw [q]; exact c
      · exact ih (e + 1) j (by omega) h2
    · rw [if_neg c] at h2
      omega
theorem runE_pos {P : Nat → Bool} {m e : Nat} (hm : 0 < m) (h : P e = true) : e < runE P m e := by
  obtain ⟨k, rfl⟩ : ∃ k, m = k + 1 := ⟨m - 1, by omega⟩
  have := runE_le P k (e + 1)
  rw [runE, if_pos h]
  omega
theorem dcN_lt (T : Nat → Nat) (p : Nat) : ∀ k, (∀ i, i < k → 48 ≤ T (p + i) ∧ T (p + i) ≤ 57) → dcN T p k < 10 ^ k := by
  intro k
  induction k with
  | zero => intro _; exact Nat.one_pos
  | succ k ih =>
    intro h
    have h1 := ih (fun i hi => h i (by omega))
    have h2 := h k (by omega)
    rw [dcN, Nat.pow_succ]
    omega
theorem tkK_ok {T : Nat → Nat} {n p : Nat} (hp : p ≤ n) : tkO T n (tkK T n p) ∧ (tkK T n p).2.1 = p ∧ ((tkK T n p).1 ≠ 0 → p < (tkK T n p).2.2.1) ∧ ((tkK T n p).1 = 0 ↔ n ≤ p) := by
  unfold tkK
  by_cases c : n ≤ p
  · rw [if_pos c]
    exact ⟨⟨by show 0 ≤ 4; omega, Nat.le_refl _, hp, fun q => absurd q (by simp), by show 0 ≤ 9999; omega⟩, rfl, fun q => absurd rfl q, fun _ => c, fun _ => rfl⟩
  · rw [if_neg c]
    by_cases c1 : leB T p = true
    · rw [if_pos c1]
      have h1 := runE_le (leB T) (n - p) p
      have h2 := runE_pos (m := n - p) (by omega) c1
      exact ⟨⟨by show 1 ≤ 4; omega, Nat.le_of_lt h2, by show runE (leB T) (n - p) p ≤ n; omega, fun _ => ⟨h2, fun j w1 w2 => of_decide_eq_true (runE_all (leB T) (n - p) p j w1 w2)⟩, by show 0 ≤ 9999; omega⟩, rfl, fun _ => h2, fun q => absurd q (by simp), fun q => absurd q c⟩
    · rw [if_neg c1]
      by_cases c2 : diB T p = true
      · rw [if_pos c2]
        have h1 := runE_le (diB T) (n - p) p
        have h2 := runE_pos (m := n - p) (by omega) c2
        by_cases c4 : runE (diB T) (n - p) p - p ≤ 4
        · rw [if_pos c4]
          have hd := dcN_lt T p (runE (diB T) (n - p) p - p) (fun i hi => of_decide_eq_true (runE_all (diB T) (n - p) p (p + i) (by omega) (by omega)))
          have h10 : 10 ^ (runE (diB T) (n - p) p - p) ≤ 10 ^ 4 := Nat.pow_le_pow_right (by decide) c4
          exact ⟨⟨by show 2 ≤ 4; omega, Nat.le_of_lt h2, by show runE (diB T) (n - p) p ≤ n; omega, fun q => absurd q (by simp), by show dcN T p (runE (diB T) (n - p) p - p) ≤ 9999; omega⟩, rfl, fun _ => h2, fun q => absurd q (by simp), fun q => absurd q c⟩
        · rw [if_neg c4]
          exact ⟨⟨by show 4 ≤ 4; omega, Nat.le_of_lt h2, by show runE (diB T) (n - p) p ≤ n; omega, fun q => absurd q (by simp), by show 0 ≤ 9999; omega⟩, rfl, fun _ => h2, fun q => absurd q (by simp), fun q => absurd q c⟩
      · rw [if_neg c2]
        by_cases c3 : T p = 59 ∨ T p = 60 ∨ T p = 61 ∨ T p = 62
        · rw [if_pos c3]
          exact ⟨⟨by show 3 ≤ 4; omega, by show p ≤ p + 1; omega, by show p + 1 ≤ n; omega, fun q => absurd q (by simp), by show T p ≤ 9999; omega⟩, rfl, fun _ => by show p < p + 1; omega, fun q => absurd q (by simp), fun q => absurd q c⟩
        · rw [if_neg c3]
          exact ⟨⟨by show 4 ≤ 4; omega, by show p ≤ p + 1; omega, by show p + 1 ≤ n; omega, fun q => absurd q (by simp), by show 0 ≤ 9999; omega⟩, rfl, fun _ => by show p < p + 1; omega, fun q => absurd q (by simp), fun q => absurd q c⟩
theorem tok_ok {T : Nat → Nat} {n e : Nat} (he : e ≤ n) : tkO T n (tok T n e) ∧ e ≤ (tok T n e).2.1 ∧ ((tok T n e).1 ≠ 0 → (tok T n e).2.1 < (tok T n e).2.2.1) := by
  have h1 := runE_le (blB T) (n - e) e
  obtain ⟨a, b, c, d⟩ := tkK_ok (T := T) (n := n) (p := runE (blB T) (n - e) e) (by omega)
  refine ⟨a, ?_, fun q => ?_⟩
  · show e ≤ (tkK T n _).2.1
    rw [b]
    omega
  · show (tkK T n _).2.1 < (tkK T n _).2.2.1
    rw [b]
    exact c q
/-- the token behind -/
def nxT (T : Nat → Nat) (n : Nat) (t : Nat × Nat × Nat × Nat) : Nat × Nat × Nat × Nat := tok T n t.2.2.1
/-- what is told of a fault at a token -/
def fltT (t : Nat × Nat × Nat × Nat) (why : Nat) : Nat := if t.1 = 4 then 1 else why
/-- the class has met a fault -/
def fdC (u : St) (f pl : Nat) : Prop := gi u 8 = nI f ∧ 1 ≤ f ∧ f ≤ 7 ∧ gi u 7 = nI pl
theorem fdC_n {u : St} {f pl : Nat} (h : fdC u f pl) : ¬ gi u 8 = 0 := by
  rw [h.1, nI_z (by have := h.2.2.1; omega)]
  have := h.2.1
  omega
theorem r_fail {T : Nat → Nat} {n why : Nat} {t : Nat × Nat × Nat × Nat} {u u1 : St} {post : Int32 → St → St → Prop} (h : tkC u T n t) (ho : tkO T n t) (hw : 1 ≤ why ∧ why ≤ 7) (fin : ∀ u', fdC u' (fltT t why) t.2.1 → post (-1) u' u1) : qX8_fail (nI why) u u1 post := by
  obtain ⟨g1, g8, g3, g7, -⟩ := h
  refine ⟨fun c => absurd g8 c, fun _ => ?_⟩
  rw [g3, show (4 : Int32) = nI 4 from rfl, nI_eq (by have := ho.1; omega) (by omega)]
  unfold fltT at fin
  refine ⟨fun c v ev => ?_, fun c v ev => ?_⟩
  · rw [if_neg c] at fin
    subst ev
    exact fin _ ⟨rfl, hw.1, hw.2, g7⟩
  · rw [if_pos c] at fin
    subst ev
    exact fin _ ⟨rfl, by omega, by omega, g7⟩
theorem f_fail {x : Int32} {f pl : Nat} {u u1 : St} {post : Int32 → St → St → Prop} (h : fdC u f pl) (fin : post (-1) u u1) : qX8_fail x u u1 post := ⟨fun _ => fin, fun c => absurd c (fdC_n h)⟩
theorem f_advance {f pl : Nat} {u u1 : St} {post : St → St → Prop} (h : fdC u f pl) (fin : post u u1) : qX8_advance u u1 post := ⟨fun c => absurd c (fdC_n h), fun _ => fin⟩
theorem f_isAt {w f pl : Nat} {u u1 : St} {post : Int32 → St → St → Prop} (h : fdC u f pl) (fin : post 0 u u1) : qX8_isAt w u u1 post := ⟨fun _ => ⟨Or.inl rfl, fin⟩, fun c => absurd c (fdC_n h)⟩
theorem r_isAt {T : Nat → Nat} {n w : Nat} {t : Nat × Nat × Nat × Nat} {u u1 : St} {post : Int32 → St → St → Prop} (hw : w < 25) (h : tkC u T n t) (ho : tkO T n t) (h1 : wdT T t = nI (wM w) → post 1 u u1) (h0 : wdT T t ≠ nI (wM w) → post 0 u u1) : qX8_isAt w u u1 post := by
  obtain ⟨g1, g8, g3, g7, g2, g5, g6⟩ := h
  obtain ⟨k1, -⟩ := kc_all w hw
  refine ⟨fun c => absurd g8 c, fun _ => ?_⟩
  rw [g3, show (1 : Int32) = nI 1 from rfl, nI_eq (by have := ho.1; omega) (by omega)]
  unfold wdT at h1 h0
  refine ⟨fun c => ⟨Or.inl rfl, ?_⟩, fun c => ⟨hw, ?_⟩⟩
  · rw [if_neg c] at h0
    exact h0 (fun q => nI_m1 (by omega) q.symm)
  · rw [if_pos c] at h1 h0
    have k := mt_code (c := w) hw (ho.2.2.2.1 c)
    have q := ((kw_none (T := T) (p := t.2.1) (q := t.2.2.1) 25 0 (by omega)).2 (wM w) (by omega) k1)
    rw [lg_z, g6 c, k, ← q]
    exact ⟨fun z => ⟨Or.inl rfl, h0 z⟩, fun z => ⟨Or.inr rfl, h1 z⟩⟩
