/-! STEPS 17: games, the class's way -/
theorem pcF_le : ∀ f n, pcF f n ≤ f := by
  intro f
  induction f with
  | zero => intro n; exact Nat.le_refl 0
  | succ f ih =>
    intro n
    have := ih (n / 2)
    rw [pcF]
    omega
/-- the least, the most of some -/
def mnV (f : Nat → Nat) (sk : Nat → Bool) (p : Nat) : Nat → Nat
  | 0 => p
  | k + 1 => if sk k then mnV f sk p k else min (mnV f sk p k) (f k)
def mxV (f : Nat → Nat) (p : Nat) : Nat → Nat
  | 0 => p
  | k + 1 => max (mxV f p k) (f k)
theorem mnV_le (f : Nat → Nat) (sk : Nat → Bool) (p : Nat) : ∀ k, mnV f sk p k ≤ p := by
  intro k
  induction k with
  | zero => exact Nat.le_refl p
  | succ k ih =>
    rw [mnV]
    split <;> omega
theorem mxV_ge (f : Nat → Nat) (p : Nat) : ∀ k, p ≤ mxV f p k := by
  intro k
  induction k with
  | zero => exact Nat.le_refl p
  | succ k ih => rw [mxV]; omega
theorem mxV_le {f : Nat → Nat} {p b : Nat} (hp : p ≤ b) (hf : ∀ i, f i ≤ b) : ∀ k, mxV f p k ≤ b := by
  intro k
  induction k with
  | zero => exact hp
  | succ k ih =>
    have := hf k
    rw [mxV]
    omega
/-- the value of a game: turns left, the bailiff is on -/
def gV : Nat → Bool → MH → Nat
  | 0, _, M => pc (stn M 0 0 (M 0 0))
  | n + 1, true, M => mnV (fun d => gV n false (mp M 19 d 0)) (fun d => (M 6 0).testBit d) (gV n false M) (M 2 0)
  | n + 1, false, M => mxV (fun s => gV n true (mp M 8 s (M 8 s + 1))) (gV n true M) (M 0 0)
theorem gV_le : ∀ n b M, gV n b M ≤ 20 := by
  intro n
  induction n with
  | zero => intro b M; exact pcF_le 20 _
  | succ n ih =>
    intro b M
    cases b with
    | true => exact Nat.le_trans (mnV_le _ _ _ _) (ih _ _)
    | false => exact mxV_le (ih _ _) (fun i => ih _ _) _
/-- without the leaves of the debts in g -/
def zl (M : MH) (g : Nat) : MH := fun k i => if k = 19 ∧ g.testBit i = true then 0 else M k i
theorem zl_ne {M : MH} {g k i : Nat} (h : k ≠ 19) : zl M g k i = M k i := if_neg (fun q => h q.1)
theorem zl_lv (M : MH) (g s : Nat) : ∀ n, lvAt (zl M g) 0 s n = lvAt M g s n := by
  intro n
  induction n with
  | zero => rfl
  | succ n ih =>
    rw [lvAt, lvAt, ih, zl_ne (by decide), zl_ne (by decide), Nat.zero_testBit]
    by_cases c : g.testBit n = true
    · have e : zl M g 19 n = 0 := if_pos ⟨rfl, c⟩
      rw [e, if_neg (show ¬ ((M 6 0).testBit n = false ∧ g.testBit n = false ∧ M 18 n = s) from fun q => by rw [c] at q; exact absurd q.2.1 (by decide))]
      split <;> rfl
    · have c' : g.testBit n = false := by cases q : g.testBit n with | true => exact absurd q c | false => rfl
      have e : zl M g 19 n = M 19 n := if_neg (fun q => c q.2)
      rw [e, c']
theorem zl_stn (M : MH) (g : Nat) : ∀ n, stn (zl M g) 0 0 n = stn M g 0 n := by
  intro n
  induction n with
  | zero => rfl
  | succ n ih => rw [stn, stn, ih, zl_ne (by decide), zl_ne (by decide), zl_ne (by decide), zl_ne (by decide), zl_ne (by decide), zl_lv]
theorem zl_0 (M : MH) : zl M 0 = M := by
  funext k i
  unfold zl
  rw [if_neg (fun q => by rw [Nat.zero_testBit] at q; exact absurd q.2 (by decide))]
theorem zl_or (M : MH) (g d : Nat) : mp (zl M g) 19 d 0 = zl M (g ||| 2 ^ d) := by
  funext k i
  unfold mp zl
  by_cases c : k = 19 ∧ i = d
  · rw [if_pos c, if_pos ⟨c.1, by rw [Nat.testBit_or, c.2, Nat.testBit_two_pow_self, Bool.or_true]⟩]
  · rw [if_neg c]
    by_cases c2 : k = 19 ∧ g.testBit i = true
    · rw [if_pos c2, if_pos ⟨c2.1, by rw [Nat.testBit_or, c2.2, Bool.true_or]⟩]
    · rw [if_neg c2, if_neg (fun q => by
        have := q.2
        rw [Nat.testBit_or, Nat.testBit_two_pow, Bool.or_eq_true] at this
        rcases this with w | w
        · exact c2 ⟨q.1, w⟩
        · exact c ⟨q.1, (of_decide_eq_true w).symm⟩)]
theorem zl_same {M : MH} {g d : Nat} (h : g.testBit d = true ∨ M 19 d = 0) : mp (zl M g) 19 d 0 = zl M g := by
  have : zl M g 19 d = 0 := by
    unfold zl
    rcases h with h | h
    · rw [if_pos ⟨rfl, h⟩]
    · split
      · rfl
      · exact h
  have e := mp_same (zl M g) 19 d
  rw [this] at e
  exact e
theorem mp_comm {M : MH} {k i v k2 i2 v2 : Nat} (h : k ≠ k2 ∨ i ≠ i2) : mp (mp M k i v) k2 i2 v2 = mp (mp M k2 i2 v2) k i v := by
  funext a b
  unfold mp
  by_cases c : a = k ∧ b = i
  · rw [if_neg (fun q => by omega), if_pos c, if_pos c]
  · rw [if_neg c, if_neg c]
theorem zl_8 (M : MH) (g s v : Nat) : zl (mp M 8 s v) g = mp (zl M g) 8 s v := by
  funext k i
  by_cases c : k = 19
  · subst c
    rfl
  · rw [zl_ne c]
    by_cases c2 : k = 8 ∧ i = s
    · obtain ⟨rfl, rfl⟩ := c2
      rw [mp_eq, mp_eq]
    · rw [mp_ne (by omega), mp_ne (by omega), zl_ne c]
/-- mortar that helps nothing -/
theorem stn_m8 {M : MH} {s v : Nat} (h : (M 5 0).testBit s = true ∨ (M 9 s ≤ v + lvAt M 0 s (M 2 0) / 5 ↔ M 9 s ≤ M 8 s + lvAt M 0 s (M 2 0) / 5)) : ∀ n, stn (mp M 8 s v) 0 0 n = stn M 0 0 n := by
  intro n
  induction n with
  | zero => rfl
  | succ n ih =>
    have hl : lvAt (mp M 8 s v) 0 n (M 2 0) = lvAt M 0 n (M 2 0) := lvAt_congr (M := M) (M' := mp M 8 s v) rfl (fun _ => rfl) (fun _ => rfl) _
    rw [stn, stn, ih, show mp M 8 s v 10 n = M 10 n from rfl, show mp M 8 s v 5 0 = M 5 0 from rfl, show mp M 8 s v 9 n = M 9 n from rfl, show mp M 8 s v 2 0 = M 2 0 from rfl, hl]
    by_cases c : n = s
    · subst c
      rw [mp_eq]
      rcases h with h | h
      · rw [if_neg (fun q => by rw [h] at q; exact absurd q.2.1 (by decide)), if_neg (fun q => by rw [h] at q; exact absurd q.2.1 (by decide))]
      · simp only [h]
    · rw [mp_ne (Or.inr c)]
theorem mnV_congr {f f' : Nat → Nat} {sk : Nat → Bool} {p : Nat} (h : ∀ i, f i = f' i) : ∀ k, mnV f sk p k = mnV f' sk p k := by
  intro k
  induction k with
  | zero => rfl
  | succ k ih => rw [mnV, mnV, ih, h]
theorem mxV_congr {f f' : Nat → Nat} {p : Nat} (h : ∀ i, f i = f' i) : ∀ k, mxV f p k = mxV f' p k := by
  intro k
  induction k with
  | zero => rfl
  | succ k ih => rw [mxV, mxV, ih, h]
theorem gV_fallen : ∀ (n : Nat) (b : Bool) (M : MH) (s v : Nat), (M 5 0).testBit s = true → gV n b (mp M 8 s v) = gV n b M := by
  intro n
  induction n with
  | zero =>
    intro b M s v h
    show pc (stn (mp M 8 s v) 0 0 (M 0 0)) = pc (stn M 0 0 (M 0 0))
    rw [stn_m8 (Or.inl h)]
  | succ n ih =>
    intro b M s v h
    cases b with
    | true =>
      show mnV (fun d => gV n false (mp (mp M 8 s v) 19 d 0)) (fun d => (M 6 0).testBit d) (gV n false (mp M 8 s v)) (M 2 0) = mnV (fun d => gV n false (mp M 19 d 0)) (fun d => (M 6 0).testBit d) (gV n false M) (M 2 0)
      rw [ih false M s v h]
      refine mnV_congr (fun d => ?_) _
      rw [mp_comm (Or.inl (by decide))]
      exact ih false (mp M 19 d 0) s v h
    | false =>
      show mxV (fun t => gV n true (mp (mp M 8 s v) 8 t (mp M 8 s v 8 t + 1))) (gV n true (mp M 8 s v)) (M 0 0) = mxV (fun t => gV n true (mp M 8 t (M 8 t + 1))) (gV n true M) (M 0 0)
      rw [ih true M s v h]
      refine mxV_congr (fun t => ?_) _
      by_cases c : t = s
      · subst c
        rw [mp_mp, ih true M t _ h, ih true M t _ h]
      · rw [mp_ne (M := M) (a := 8) (b := t) (Or.inr c), mp_comm (Or.inr (fun q => c q.symm))]
        exact ih true (mp M 8 t (M 8 t + 1)) s v h
def okN (M : MH) (n : Nat) : Prop := okG M ∧ ∀ s, s < M 0 0 → M 8 s + n ≤ 20
theorem okN_up {M : MH} {s n : Nat} (h : okN M (n + 1)) : okN (mp M 8 s (M 8 s + 1)) n := by
  obtain ⟨⟨h0, h1, h2, h3, h4, h5, h6, h7, h8, h9, h10⟩, hb⟩ := h
  have hn : ∀ t, t < M 0 0 → mp M 8 s (M 8 s + 1) 8 t + n ≤ 20 := fun t ht => by
    by_cases c : t = s
    · subst c
      rw [mp_eq]
      have := hb t ht
      omega
    · rw [mp_ne (Or.inr c)]
      have := hb t ht
      omega
  refine ⟨⟨h0, h1, h2, h3, h4, h5, h6, h7, fun q hq => ?_, h9, h10⟩, hn⟩
  have := h8 q hq
  refine ⟨?_, this.2⟩
  have := hn q hq
  omega
theorem okN_dn {M : MH} {n : Nat} (h : okN M (n + 1)) : okN M n := ⟨h.1, fun s hs => by have := h.2 s hs; omega⟩
/-- the scratch holds the leaves -/
def scr (u : St) (M : MH) (g : Nat) : Prop := ∀ s, s < M 0 0 → ga u 11 s = nI (lvAt M g s (M 2 0))
def rBl (n f : Nat) : Prop := ∀ (M : MH) (g : Nat) (u : St) (post : Int32 → St → Prop), okN M n → g < 2 ^ M 2 0 → CH u M → (∀ u', CH u' M → (n = 0 → scr u' M g) → post (nI (gV n true (zl M g))) u') → qX1_bailiff f (nI n) (nI g) u post
def rMs (n f : Nat) : Prop := ∀ (M : MH) (g : Nat) (u : St) (post : Int32 → St → Prop), okN M n → g < 2 ^ M 2 0 → CH u M → (∀ u', CH u' M → (n = 0 → scr u' M g) → post (nI (gV n false (zl M g))) u') → qX1_mason_body (qX1_bailiff f) (nI n) (nI g) u post
theorem r_leaf {M : MH} {g : Nat} {u : St} {post : Int32 → St → Prop} (ok : okG M) (hg : g < 2 ^ M 2 0) (h : CH u M) (b : Bool) (fin : ∀ u', CH u' M → scr u' M g → post (nI (gV 0 b (zl M g))) u') : qX2_standing (nI g) 0 u (fun r u1 => qJ6_bitCount_0f7a4 r (fun r2 => post r2 u1)) := by
  have h7 := ok_ndG ok
  have h8 := ok_nsG ok
  refine r_standingG (w := 0) ok (pw_lt hg (by omega)) (by omega) h (fun f hf => r_bitCount (Nat.lt_of_lt_of_le (stn_lt M g 0 _) (show 2 ^ M 0 0 ≤ 2 ^ 8 from Nat.pow_le_pow_right (by decide) h8)) ?_)
  have := fin (sw u 11 f) (h.w11 f) (fun s hs => hf s hs)
  rw [show gV 0 b (zl M g) = pc (stn (zl M g) 0 0 (zl M g 0 0)) from rfl, zl_stn, zl_ne (by decide)] at this
  exact this
theorem bl_loop {M : MH} {g n f : Nat} {post : Int32 → St → Prop} (hM : rMs n f) (ok : okN M (n + 1)) (hg : g < 2 ^ M 2 0) (fin : ∀ u', CH u' M → post (nI (gV (n + 1) true (zl M g))) u') : ∀ (m i : Nat) (u : St), i + m = M 2 0 → CH u M → qX1_bailiff_L26 (qX1_mason_body (qX1_bailiff f)) post (m + 1) (nI (n + 1)) (nI g) (nI (mnV (fun d => gV n false (mp (zl M g) 19 d 0)) (fun d => (M 6 0).testBit d) (gV n false (zl M g)) i)) (nI i) u := by
  have h7 := ok_ndG ok.1
  have hp := gV_le n false (zl M g)
  intro m
  induction m with
  | zero =>
    intro i u hi h
    have ei : i = M 2 0 := by omega
    subst ei
    have e2 : gi u 2 = nI (M 2 0) := ch_k h (by omega)
    exact ⟨fun _ => fin u h, fun c => absurd (by rw [e2]; exact nI_le (by omega) (by omega)) c⟩
  | succ m ih =>
    intro i u hi h
    have hd : i < M 2 0 := by omega
    have od := ok_dG ok.1 hd
    have e2 : gi u 2 = nI (M 2 0) := ch_k h (by omega)
    have e6 : gi u 6 = nI (M 6 0) := ch_k h (by omega)
    have ec : (nI i).toNatClampNeg = i := nI_clamp (by omega)
    have e19 : ga u 19 i = nI (M 19 i) := ch_d h (by omega) (by omega) hd
    have hm := mnV_le (fun d => gV n false (mp (zl M g) 19 d 0)) (fun d => (M 6 0).testBit d) (gV n false (zl M g)) i
    have go := fun v hv => ih (i + 1) v (by omega) hv
    rw [mnV] at go
    refine ⟨fun c => absurd c (by rw [e2]; exact nI_ge (by omega) (by omega)), fun _ => ?_⟩
    rw [e6, i_or]
    have pass : (M 6 0).testBit i = false → (g.testBit i = true ∨ M 19 i = 0) → qX1_bailiff_b77 (qX1_mason_body (qX1_bailiff f)) post (qX1_bailiff_L26 (qX1_mason_body (qX1_bailiff f)) post (m + 1)) (nI (n + 1)) (nI g) (nI (mnV (fun d => gV n false (mp (zl M g) 19 d 0)) (fun d => (M 6 0).testBit d) (gV n false (zl M g)) i)) (nI i) u := fun c1 c2 z ez => by
      rw [nI_1] at ez
      have := go u h
      rw [if_neg (by rw [c1]; decide), zl_same c2, Nat.min_eq_left hm] at this
      rw [ez]
      exact this
    refine r_has (Nat.or_lt_two_pow (pw_lt hg (by omega)) (ok_paidG ok.1)) (by omega) (fun c => ⟨fun _ => ?_, fun c => absurd c (by decide)⟩) (fun c => ⟨fun c => absurd rfl c, fun _ => ⟨vp_in_nI (by omega) (by omega), ?_⟩⟩)
    · rw [Nat.testBit_or, Bool.or_eq_true] at c
      cases q : (M 6 0).testBit i with
      | true =>
        intro z ez
        rw [nI_1] at ez
        have := go u h
        rw [if_pos q] at this
        rw [ez]
        exact this
      | false =>
        rw [q] at c
        exact pass q (Or.inl (c.resolve_right (by decide)))
    · rw [Nat.testBit_or, Bool.or_eq_false_iff] at c
      rw [ec, e19]
      refine ⟨fun c2 => pass c.2 (Or.inr ?_), fun c2 => ?_⟩
      · rw [i_le, nI_toInt (by omega)] at c2
        have : (0 : Int32).toInt = 0 := rfl
        omega
      · rw [nI_pred, i_one (by omega), i_or]
        have hor : g ||| 2 ^ i < 2 ^ M 2 0 := Nat.or_lt_two_pow hg (Nat.pow_lt_pow_right (by decide) hd)
        refine hM M (g ||| 2 ^ i) u _ (okN_dn ok) hor h (fun u' h' _ x ex z ez => ?_)
        have hv := gV_le n false (zl M (g ||| 2 ^ i))
        rw [i_min (by omega) (by omega), Nat.min_comm] at ex
        rw [nI_1] at ez
        have := go u' h'
        rw [if_neg (by rw [c.2]; decide), zl_or] at this
        rw [ex, ez]
        exact this
theorem ms_loop2 {M : MH} {g n f : Nat} {post : Int32 → St → Prop} (hB : rBl n f) (ok : okN M (n + 1)) (hg : g < 2 ^ M 2 0) (fin : ∀ u', CH u' M → post (nI (gV (n + 1) false (zl M g))) u') : ∀ (m i : Nat) (u : St), i + m = M 0 0 → CH u M → (n = 0 → scr u M g) → qX1_mason_L26 (qX1_bailiff f) post (m + 1) (nI (n + 1)) (nI g) (nI (mxV (fun s => gV n true (mp (zl M g) 8 s (zl M g 8 s + 1))) (gV n true (zl M g)) i)) (nI i) u := by
  have h8 := ok_nsG ok.1
  have hp := gV_le n true (zl M g)
  intro m
  induction m with
  | zero =>
    intro i u hi h hsc
    have ei : i = M 0 0 := by omega
    subst ei
    have e0 : gi u 0 = nI (M 0 0) := ch_k h (by omega)
    exact ⟨fun _ => fin u h, fun c => absurd (by rw [e0]; exact nI_le (by omega) (by omega)) c⟩
  | succ m ih =>
    intro i u hi h hsc
    have hs : i < M 0 0 := by omega
    have os := ok_sG ok.1 hs
    have hb := ok.2 i hs
    have e0 : gi u 0 = nI (M 0 0) := ch_k h (by omega)
    have ec : (nI i).toNatClampNeg = i := nI_clamp (by omega)
    have e8 : ga u 8 i = nI (M 8 i) := ch_s h (by omega) (by omega) hs
    have z8 : zl M g 8 i = M 8 i := zl_ne (by decide)
    have hin : vp_in (nI i) 8 := vp_in_nI (by omega) (by omega)
    have hm := mxV_ge (fun s => gV n true (mp (zl M g) 8 s (zl M g 8 s + 1))) (gV n true (zl M g)) i
    have hm2 := mxV_le (f := fun s => gV n true (mp (zl M g) 8 s (zl M g 8 s + 1))) hp (fun i => gV_le n true _) i
    have go := fun v hv hv2 => ih (i + 1) v (by omega) hv hv2
    rw [mxV] at go
    rw [z8] at go
    have pass : gV n true (mp (zl M g) 8 i (M 8 i + 1)) = gV n true (zl M g) → qX1_mason_b94 (qX1_bailiff f) post (qX1_mason_L26 (qX1_bailiff f) post (m + 1)) (nI (n + 1)) (nI g) (nI (mxV (fun s => gV n true (mp (zl M g) 8 s (zl M g 8 s + 1))) (gV n true (zl M g)) i)) (nI i) u := fun e z ez => by
      rw [nI_1] at ez
      have := go u h hsc
      rw [e, Nat.max_eq_left hm] at this
      rw [ez]
      exact this
    have take : qX1_mason_b59 (qX1_bailiff f) post (qX1_mason_L26 (qX1_bailiff f) post (m + 1)) (nI (n + 1)) (nI g) (nI (mxV (fun s => gV n true (mp (zl M g) 8 s (zl M g 8 s + 1))) (gV n true (zl M g)) i)) (nI i) u := by
      refine ⟨hin, hin, fun u1 e1 => ?_⟩
      rw [ec, e8, nI_1] at e1
      have h1 : CH u1 (mp M 8 i (M 8 i + 1)) := by subst e1; exact ch_up h (by omega) (by omega) (by omega)
      rw [nI_pred]
      refine hB (mp M 8 i (M 8 i + 1)) g u1 _ (okN_up ok) hg h1 (fun u2 h2 sc2 x ex => ⟨hin, hin, fun u3 e3 z ez => ?_⟩)
      have e82 : ga u2 8 i = nI (M 8 i + 1) := by
        have := ch_s h2 (k := 8) (s := i) (by omega) (by omega) hs
        rw [mp_eq] at this
        exact this
      rw [ec, e82, nI_pred] at e3
      have h3 : CH u3 M := by
        have := ch_up (k := 8) (i := i) (v := M 8 i) h2 (by omega) (by omega) (by omega)
        rw [mp_mp, mp_same, ← e3] at this
        exact this
      have sc3 : n = 0 → scr u3 M g := fun q s hs => by
        have := sc2 q s hs
        rw [lvAt_congr (M := M) (M' := mp M 8 i (M 8 i + 1)) rfl (fun _ => rfl) (fun _ => rfl)] at this
        subst e3
        exact this
      have hv := gV_le n true (zl (mp M 8 i (M 8 i + 1)) g)
      rw [i_max (by omega) (by omega), zl_8] at ex
      rw [nI_1] at ez
      rw [ex, ez]
      exact go u3 h3 sc3
    refine ⟨fun c => absurd c (by rw [e0]; exact nI_ge (by omega) (by omega)), fun _ => r_hasFallenG ok.1 h (by omega) (fun c => ⟨fun _ => pass (gV_fallen n true (zl M g) i _ c), fun c => absurd c (by decide)⟩) (fun c => ⟨fun c => absurd rfl c, fun _ => ⟨fun _ => take, fun c2 => ?_⟩⟩)⟩
    have n0 : n = 0 := by
      apply Classical.byContradiction
      intro q
      exact c2 (nI_lt (a := 1) (by omega) (by have := ok.2 i hs; omega))
    subst n0
    have ll := lvAt_le7G ok.1 g i
    refine r_lack (M := M) h8 h hs (by omega) (hsc rfl i hs) ?_
    have key : (nI (M 9 i) - nI (M 8 i) - nI (lvAt M g i (M 2 0) / 5) = 1) ↔ M 9 i = M 8 i + lvAt M g i (M 2 0) / 5 + 1 := by
      rw [i_eq, i_sub2 (by omega) (by omega) (by omega), show (1 : Int32).toInt = 1 from rfl]
      omega
    rw [key]
    refine ⟨fun q => pass ?_, fun _ => take⟩
    show pc (stn (mp (zl M g) 8 i (M 8 i + 1)) 0 0 (zl M g 0 0)) = pc (stn (zl M g) 0 0 (zl M g 0 0))
    rw [stn_m8 (Or.inr ?_)]
    rw [zl_lv, zl_ne (by decide), zl_ne (by decide), zl_ne (by decide)]
    omega
theorem r_game : ∀ n, n ≤ 5 → (∀ f, n + 1 ≤ 2 * f → rBl n f) ∧ (∀ f, n ≤ 2 * f → rMs n f) := by
  intro n
  induction n with
  | zero =>
    intro _
    refine ⟨fun f hf M g u post ok hg h fin => ?_, fun f hf M g u post ok hg h fin => ?_⟩
    · obtain ⟨f', rfl⟩ : ∃ k, f = k + 1 := ⟨f - 1, by omega⟩
      exact ⟨fun c => absurd c (by decide), fun _ => r_leaf ok.1 hg h true (fun u' a b => fin u' a (fun _ => b))⟩
    · exact ⟨fun c => absurd c (by decide), fun _ => r_leaf ok.1 hg h false (fun u' a b => fin u' a (fun _ => b))⟩
  | succ n ih =>
    intro hn
    obtain ⟨i1, i2⟩ := ih (by omega)
    refine ⟨fun f hf M g u post ok hg h fin => ?_, fun f hf M g u post ok hg h fin => ?_⟩
    · obtain ⟨f', rfl⟩ : ∃ k, f = k + 1 := ⟨f - 1, by omega⟩
      have hM := i2 f' (by omega)
      refine ⟨fun _ => ?_, fun c => absurd (nI_lt (a := 0) (by omega) (by omega)) c⟩
      rw [nI_pred]
      exact hM M g u _ (okN_dn ok) hg h (fun u' h' _ => ⟨_, bl_loop hM ok hg (fun u2 h2 => fin u2 h2 (fun q => absurd q (by omega))) (M 2 0) 0 u' (by omega) h'⟩)
    · have hB := i1 f (by omega)
      refine ⟨fun _ => ?_, fun c => absurd (nI_lt (a := 0) (by omega) (by omega)) c⟩
      rw [nI_pred]
      exact hB M g u _ (okN_dn ok) hg h (fun u' h' sc => ⟨_, ms_loop2 hB ok hg (fun u2 h2 => fin u2 h2 (fun q => absurd q (by omega))) (M 0 0) 0 u' (by omega) h' sc⟩)
