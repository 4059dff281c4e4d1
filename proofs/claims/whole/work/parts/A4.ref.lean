/-! STEPS 39: the reference reads: its state, words, numbers, names -/
def frR (u0 u : St) : Prop := (∀ k, k < 12 ∨ k = 16 ∨ 23 < k → gi u k = gi u0 k) ∧ (∀ k, gj u k = gj u0 k) ∧ (∀ k, k ≠ 0 → k ≠ 21 → ga u k = ga u0 k) ∧ (∀ k, k ≠ 1 → gl u k = gl u0 k) ∧ (∀ j, j < 1824 ∨ 2280 ≤ j → ga u 0 j = ga u0 0 j) ∧ ∀ j, j < 20 → gl u 1 j = gl u0 1 j
def wt (t : Tk) : Nat := t.2.2.1 + if t.1 = 0 then 1 else 0
abbrev Ex : Type := Int32 × Int32 × Int32 × (Nat → Int32)
def exO (u : St) : Ex := (gi u 20, gi u 22, gi u 23, ga u 21)
def mS (u0 : St) (T : Nat → Nat) (n m : Nat) (t : Tk) (E : Ex) (A : Nat → Int32) (NM : Nat → Int64) (u : St) : Prop := tkM u n t ∧ tkO T n t ∧ txR (ga u 9) T n ∧ gi u 18 = 0 ∧ gi u 17 = -1 ∧ ga u 0 = A ∧ gl u 1 = NM ∧ exO u = E ∧ frR u0 u ∧ m ≤ wt t
def mF (u0 : St) (f pl : Nat) (u : St) : Prop := fdM u f pl ∧ 1 ≤ f ∧ f ≤ 7 ∧ frR u0 u
theorem wt_nx {T : Nat → Nat} {n : Nat} {t : Tk} (ho : tkO T n t) (h : t.1 ≠ 0) : wt t + 1 ≤ wt (nxT T n t) := by
  obtain ⟨a, b, c⟩ := tok_ok (T := T) (n := n) (e := t.2.2.1) ho.2.2.1
  unfold wt nxT
  rw [if_neg h]
  by_cases z : (tok T n t.2.2.1).1 = 0
  · rw [if_pos z]
    have := a.2.1
    omega
  · rw [if_neg z]
    have := c z
    omega
theorem frR.T {u0 u u' : St} (h : frR u0 u) (q : frT u u') : frR u0 u' := by
  obtain ⟨q2, qi⟩ := q
  obtain ⟨a, b, c, d, e, f⟩ := h
  have ea : ∀ k, ga u' k = ga u k := fun k => by unfold ga; rw [q2]
  have ej : ∀ k, gj u' k = gj u k := fun k => by unfold gj; rw [q2]
  have el : ∀ k, gl u' k = gl u k := fun k => by unfold gl; rw [q2]
  refine ⟨fun k hk => (qi k (by omega)).trans (a k hk), fun k => (ej k).trans (b k), fun k h1 h2 => (ea k).trans (c k h1 h2), fun k h1 => (el k).trans (d k h1), fun j hj => ?_, fun j hj => ?_⟩
  · rw [ea]; exact e j hj
  · rw [el]; exact f j hj
theorem frR.F {u0 u u' : St} (h : frR u0 u) (q : frF u u') : frR u0 u' := by
  obtain ⟨q2, qi⟩ := q
  obtain ⟨a, b, c, d, e, f⟩ := h
  have ea : ∀ k, ga u' k = ga u k := fun k => by unfold ga; rw [q2]
  have ej : ∀ k, gj u' k = gj u k := fun k => by unfold gj; rw [q2]
  have el : ∀ k, gl u' k = gl u k := fun k => by unfold gl; rw [q2]
  refine ⟨fun k hk => (qi k (by omega)).trans (a k hk), fun k => (ej k).trans (b k), fun k h1 h2 => (ea k).trans (c k h1 h2), fun k h1 => (el k).trans (d k h1), fun j hj => ?_, fun j hj => ?_⟩
  · rw [ea]; exact e j hj
  · rw [el]; exact f j hj
theorem mS.le {u0 : St} {T : Nat → Nat} {n m m' : Nat} {t : Tk} {E : Ex} {A : Nat → Int32} {NM : Nat → Int64} {u : St} (h : mS u0 T n m t E A NM u) (q : m' ≤ m) : mS u0 T n m' t E A NM u := by
  obtain ⟨a, b, c, d, e, f, g, i, j, k⟩ := h
  exact ⟨a, b, c, d, e, f, g, i, j, Nat.le_trans q k⟩
theorem mS.go {u0 : St} {T : Nat → Nat} {n m : Nat} {t : Tk} {E : Ex} {A : Nat → Int32} {NM : Nat → Int64} {u u' : St} (h : mS u0 T n m t E A NM u) (h0 : t.1 ≠ 0) (q : frT u u') (ht : tkM u' n (nxT T n t)) : mS u0 T n (m + 1) (nxT T n t) E A NM u' := by
  obtain ⟨a, b, c, d, e, f, g, i, j, k⟩ := h
  have ea : ∀ k, ga u' k = ga u k := fun k => by unfold ga; rw [q.1]
  have el : ∀ k, gl u' k = gl u k := fun k => by unfold gl; rw [q.1]
  refine ⟨ht, nxT_ok b, by rw [ea]; exact c, (q.2 18 (by omega)).trans d, (q.2 17 (by omega)).trans e, (ea 0).trans f, (el 1).trans g, ?_, j.T q, ?_⟩
  · rw [← i]
    unfold exO
    rw [q.2 20 (by omega), q.2 22 (by omega), q.2 23 (by omega), ea]
  · have := wt_nx b h0
    omega
theorem mS.fl {u0 : St} {T : Nat → Nat} {n m f pl : Nat} {t : Tk} {E : Ex} {A : Nat → Int32} {NM : Nat → Int64} {u u' : St} (h : mS u0 T n m t E A NM u) (q : frF u u') (hf : fdM u' f pl) (h1 : 1 ≤ f) (h7 : f ≤ 7) : mF u0 f pl u' := ⟨hf, h1, h7, h.2.2.2.2.2.2.2.2.1.F q⟩
theorem flt_b (t : Tk) {w : Nat} (h : 1 ≤ w ∧ w ≤ 7) : 1 ≤ fltT t w ∧ fltT t w ≤ 7 := by
  unfold fltT
  split <;> omega
theorem d_next {u0 : St} {T : Nat → Nat} {n m : Nat} {t : Tk} {E : Ex} {A : Nat → Int32} {NM : Nat → Int64} {u : St} {post : St → Prop} (h : mS u0 T n m t E A NM u) (h0 : t.1 ≠ 0) (h1 : ∀ u', mS u0 T n (m + 1) (nxT T n t) E A NM u' → post u') : qX12_ahead u post := m_next h.2.2.1 h.1 h.2.1 (fun u' a b => h1 u' (h.go h0 a b))
theorem d_fail {u0 : St} {T : Nat → Nat} {n m why : Nat} {t : Tk} {E : Ex} {A : Nat → Int32} {NM : Nat → Int64} {u : St} {post : Int32 → St → Prop} (h : mS u0 T n m t E A NM u) (hw : 1 ≤ why ∧ why ≤ 7) (h0 : ∀ u', mF u0 (fltT t why) t.2.1 u' → post 0 u') : qX12_fails (nI why) u post := m_fails h.1 h.2.2.2.1 h.2.1.1 (fun u' a b => h0 u' (h.fl a b (flt_b t hw).1 (flt_b t hw).2))
theorem wd_1 {T : Nat → Nat} {t : Tk} {w : Nat} (h : wdT T t = nI w) (hw : w < 2 ^ 31) : t.1 = 1 := by
  unfold wdT at h
  by_cases c : t.1 = 1
  · exact c
  · rw [if_neg c] at h
    exact absurd h.symm (nI_m1 hw)
theorem d_want {R : Type} {r : R} {u0 : St} {T : Nat → Nat} {n m w : Nat} {t : Tk} {E : Ex} {A : Nat → Int32} {NM : Nat → Int64} {K : Tk → R} {F : Nat → Nat → R} {u : St} {post : Int32 → St → Prop} (h : mS u0 T n m t E A NM u) (hw : w < 2 ^ 31) (hp : pWd T n w t K F = r) (h1 : ∀ u', mS u0 T n m (nxT T n t) E A NM u' → K (nxT T n t) = r → post 1 u') (h0 : ∀ u' f pl, mF u0 f pl u' → F f pl = r → post 0 u') : qX12_wantWord (nI w) u post := by
  unfold pWd at hp
  refine m_wantWord h.2.2.1 h.1 h.2.1 h.2.2.2.1 (fun c u' a b => h1 u' ((h.go (by rw [wd_1 c hw]; decide) a b).le (by omega)) ?_) (fun c u' a b => h0 u' _ _ (h.fl a b (flt_b t (by omega)).1 (flt_b t (by omega)).2) ?_)
  · rw [if_pos c] at hp; exact hp
  · rw [if_neg c] at hp; exact hp
theorem d_there {R : Type} {r : R} {u0 : St} {T : Nat → Nat} {n m w : Nat} {t : Tk} {E : Ex} {A : Nat → Int32} {NM : Nat → Int64} {K1 K0 : Tk → R} {u : St} {post : Int32 → St → Prop} (h : mS u0 T n m t E A NM u) (hw : w < 2 ^ 31) (hp : pIf T n w t K1 K0 = r) (h1 : ∀ u', mS u0 T n m (nxT T n t) E A NM u' → K1 (nxT T n t) = r → post 1 u') (h0 : K0 t = r → post 0 u) : qX12_isThere (nI w) u post := by
  unfold pIf at hp
  refine m_isThere h.2.2.1 h.1 h.2.1 (fun c u' a b => h1 u' ((h.go (by rw [wd_1 c hw]; decide) a b).le (by omega)) ?_) (fun c => h0 ?_)
  · rw [if_pos c] at hp; exact hp
  · rw [if_neg c] at hp; exact hp
theorem d_semi {R : Type} {r : R} {u0 : St} {T : Nat → Nat} {n m : Nat} {t : Tk} {E : Ex} {A : Nat → Int32} {NM : Nat → Int64} {K : Tk → R} {F : Nat → Nat → R} {u : St} {post : Int32 → St → Prop} (h : mS u0 T n m t E A NM u) (hp : pSm T n t K F = r) (h1 : ∀ u', mS u0 T n m (nxT T n t) E A NM u' → K (nxT T n t) = r → post 1 u') (h0 : ∀ u' f pl, mF u0 f pl u' → F f pl = r → post 0 u') : qX12_wantSign 59 u post := by
  unfold pSm at hp
  refine m_wantSemi h.2.2.1 h.1 h.2.1 h.2.2.2.1 (fun c d u' a b => h1 u' ((h.go (by rw [c]; decide) a b).le (by omega)) ?_) (fun c u' a b => h0 u' _ _ (h.fl a b (flt_b t (by omega)).1 (flt_b t (by omega)).2) ?_)
  · rw [if_pos ⟨c, d⟩] at hp; exact hp
  · rw [if_neg c] at hp; exact hp
/-- a cell of the new slot is written -/
theorem mS.sw {u0 : St} {T : Nat → Nat} {n m : Nat} {t : Tk} {E : Ex} {A : Nat → Int32} {NM : Nat → Int64} {u : St} (h : mS u0 T n m t E A NM u) {j : Nat} (x : Int32) (h1 : 1824 ≤ j) (h2 : j < 2280) : mS u0 T n m t E (upd A j x) NM (sw u 0 (upd (ga u 0) j x)) := by
  obtain ⟨a, b, c, d, e, f, g, i, ⟨j1, j2, j3, j4, j5, j6⟩, k⟩ := h
  refine ⟨a, b, c, d, e, ?_, g, i, ⟨j1, j2, fun k hk hk2 => ?_, j4, fun i hi => ?_, j6⟩, k⟩
  · rw [ga_sw, if_pos rfl, f]
  · rw [ga_sw, if_neg hk]; exact j3 k hk hk2
  · rw [ga_sw, if_pos rfl, upd_at, if_neg (by omega)]; exact j5 i hi
theorem mS.sx {u0 : St} {T : Nat → Nat} {n m : Nat} {t : Tk} {E : Ex} {A : Nat → Int32} {NM : Nat → Int64} {u : St} (h : mS u0 T n m t E A NM u) {j : Nat} (x : Int64) (h1 : 20 ≤ j) : mS u0 T n m t E A (vp_updL NM j x) (sx u 1 (vp_updL (gl u 1) j x)) := by
  obtain ⟨a, b, c, d, e, f, g, i, ⟨j1, j2, j3, j4, j5, j6⟩, k⟩ := h
  refine ⟨a, b, c, d, e, f, ?_, i, ⟨j1, j2, j3, fun k hk => ?_, j5, fun i hi => ?_⟩, k⟩
  · rw [gl_sx, if_pos rfl, g]
  · rw [gl_sx, if_neg hk]; exact j4 k hk
  · rw [gl_sx, if_pos rfl, updL_at, if_neg (by omega)]; exact j6 i hi
theorem d_num2 {R : Type} {r : R} {u0 : St} {T : Nat → Nat} {n m to : Nat} {l g : Int} {lo hi : Int32} {t : Tk} {E : Ex} {A : Nat → Int32} {NM : Nat → Int64} {K : Nat → Tk → R} {F : Nat → Nat → R} {u : St} {post : Int32 → St → Prop} (h : mS u0 T n m t E A NM u) (t1 : 1824 ≤ to) (t2 : to < 2280) (el : lo.toInt = l) (eg : hi.toInt = g) (hp : pNu T n l g t K F = r) (h1 : ∀ (u' : St), mS u0 T n m (nxT T n t) E (upd A to (nI t.2.2.2)) NM u' → l ≤ (t.2.2.2 : Int) → (t.2.2.2 : Int) ≤ g → K t.2.2.2 (nxT T n t) = r → post 1 u') (h0 : ∀ u' f pl, mF u0 f pl u' → F f pl = r → post 0 u') : qX12_number (nI to) lo hi u post := by
  unfold pNu at hp
  subst el; subst eg
  refine m_number h.2.2.1 h.1 h.2.1 h.2.2.2.1 (by omega) (fun c a b u' q z => h1 u' (((h.sw (nI t.2.2.2) t1 t2).go (by rw [c]; decide) q z).le (by omega)) a b ?_) (fun c a u' q z => h0 u' _ _ (h.fl q z (by omega) (by omega)) ?_) (fun c u' q z => h0 u' _ _ (h.fl q z (flt_b t (by omega)).1 (flt_b t (by omega)).2) ?_)
  · rw [if_pos c, if_pos ⟨a, b⟩] at hp; exact hp
  · rw [if_pos c, if_neg (by omega)] at hp; exact hp
  · rw [if_neg c] at hp; exact hp
theorem d_num {R : Type} {r : R} {u0 : St} {T : Nat → Nat} {n m to : Nat} {l g : Int} {lo hi : Int32} {t : Tk} {E : Ex} {A : Nat → Int32} {NM : Nat → Int64} {K : Nat → Tk → R} {F : Nat → Nat → R} {u : St} {post : Int32 → St → Prop} (h : mS u0 T n m t E A NM u) (t1 : 1824 ≤ to) (t2 : to < 2280) (el : lo.toInt = l) (eg : hi.toInt = g) (hp : pNu T n l g t K F = r) (h1 : ∀ (u' : St) (v : Nat) (t' : Tk), mS u0 T n m t' E (upd A to (nI v)) NM u' → l ≤ (v : Int) → (v : Int) ≤ g → K v t' = r → post 1 u') (h0 : ∀ u' f pl, mF u0 f pl u' → F f pl = r → post 0 u') : qX12_number (nI to) lo hi u post := d_num2 h t1 t2 el eg hp (fun u' a b c e => h1 u' _ _ a b c e) h0
/-- names by 256 -/
def b256 (T : Nat → Nat) (p : Nat) : Nat → Nat
  | 0 => 0
  | k + 1 => b256 T p k * 256 + T (p + k)
theorem e256_b {T : Nat → Nat} {p : Nat} : ∀ k m, k ≤ m → (∀ i, i < k → 97 ≤ T (p + i) ∧ T (p + i) ≤ 122) → e256 m (c32 T p k) = b256 T p k := by
  intro k
  induction k with
  | zero =>
    intro m _ _
    cases m with
    | zero => rfl
    | succ m => rfl
  | succ k ih =>
    intro m hm hl
    obtain ⟨m, rfl⟩ : ∃ m', m = m' + 1 := ⟨m - 1, by omega⟩
    have := hl k (by omega)
    rw [e256, c32, if_neg (by omega), b256, show (c32 T p k * 32 + (T (p + k) - 96)) / 32 = c32 T p k by omega, ih m (by omega) (fun i hi => hl i (by omega))]
    omega
theorem b256_lt {T : Nat → Nat} {p : Nat} : ∀ k, (∀ i, i < k → 97 ≤ T (p + i) ∧ T (p + i) ≤ 122) → b256 T p k < 2 ^ (8 * k) := by
  intro k
  induction k with
  | zero => intro _; exact Nat.one_pos
  | succ k ih =>
    intro hl
    have a := ih (fun i hi => hl i (by omega))
    have b := hl k (by omega)
    rw [b256, show 8 * (k + 1) = 8 * k + 8 by omega, Nat.pow_add]
    omega
theorem e256_lt : ∀ m c, 2 * e256 m c < 256 ^ m := by
  intro m
  induction m with
  | zero => intro c; exact Nat.one_pos
  | succ m ih =>
    intro c
    rw [e256, Nat.pow_succ]
    have := ih (c / 32)
    split
    · have : 0 < 256 ^ m := Nat.pow_pos (by omega)
      omega
    · omega
theorem e256_inj : ∀ m a b, a < 32 ^ m → b < 32 ^ m → e256 m a = e256 m b → a = b := by
  intro m
  induction m with
  | zero => intro a b ha hb _; omega
  | succ m ih =>
    intro a b ha hb h
    rw [Nat.pow_succ] at ha hb
    rw [e256, e256] at h
    by_cases ca : a = 0
    · by_cases cb : b = 0
      · omega
      · rw [if_pos ca, if_neg cb] at h; omega
    · by_cases cb : b = 0
      · rw [if_pos cb, if_neg ca] at h; omega
      · rw [if_neg ca, if_neg cb] at h
        have := ih (a / 32) (b / 32) (by omega) (by omega) (by omega)
        omega
theorem l_shor {x b : Nat} (hb : b < 256) : (lN x <<< ((8 : Int32).toInt64 &&& 63)) ||| lN b = lN (x * 256 + b) := by
  have e : ((8 : Int32).toInt64 &&& 63) = 8 := by decide
  rw [e]
  apply Int64.toBitVec_inj.mp
  rw [Int64.toBitVec_or]
  have e1 : (lN x <<< (8 : Int64)).toBitVec = BitVec.ofNat 64 (x <<< 8) := by
    rw [Int64.toBitVec_shiftLeft]
    show BitVec.ofNat 64 x <<< 8 = _
    apply BitVec.eq_of_toNat_eq
    rw [BitVec.toNat_shiftLeft, BitVec.toNat_ofNat, BitVec.toNat_ofNat, Nat.shiftLeft_eq, Nat.shiftLeft_eq]
    omega
  have e2 : (lN b).toBitVec = BitVec.ofNat 64 b := rfl
  have e3 : (lN (x * 256 + b)).toBitVec = BitVec.ofNat 64 (x * 256 + b) := rfl
  rw [e1, e2, e3, show x * 256 + b = x <<< 8 + b by rw [Nat.shiftLeft_eq], Nat.shiftLeft_add_eq_or_of_lt hb, BitVec.ofNat_or]
theorem nh_loop {T : Nat → Nat} {n p q : Nat} {u : St} {post : Int64 → St → Prop} (h : txR (ga u 9) T n) (g11 : gi u 11 = nI n) (g14 : gi u 14 = nI q) (hq : q ≤ n) (hp : p ≤ q) (fin : post (lN (b256 T p (q - p))) u) : ∀ (m k : Nat), p + k + m = q → qX12_nameHere_L7 post (m + 1) (lN (b256 T p k)) (nI (p + k)) u := by
  have hn := h.1
  intro m
  induction m with
  | zero =>
    intro k hk
    unfold qX12_nameHere_L7 qX12_nameHere_l7
    rw [g14]
    refine ⟨fun _ => ?_, fun c => absurd (nI_le (by omega) (by omega)) c⟩
    rw [show q - p = k by omega] at fin
    exact fin
  | succ m ih =>
    intro k hk
    unfold qX12_nameHere_L7 qX12_nameHere_l7
    rw [g14]
    refine ⟨fun c => absurd c (nI_ge (by omega) (by omega)), fun _ => ?_⟩
    refine m_byteAt h g11 (by omega) (fun _ x ex y ey => ?_) (fun c => absurd c (by omega))
    have hb := (h.2 (p + k) (by omega)).1
    rw [i_long (by omega), l_shor hb] at ex
    rw [nI_1] at ey
    subst ex; subst ey
    exact ih (k + 1) (by omega)
theorem d_name {u0 : St} {T : Nat → Nat} {n m : Nat} {t : Tk} {E : Ex} {A : Nat → Int32} {NM : Nat → Int64} {u : St} {post : Int64 → St → Prop} (h : mS u0 T n m t E A NM u) (hn : nmB T t) (fin : post (lN (e256 8 (nmC T t))) u) : qX12_nameHere u post := by
  have ho := h.2.1
  have hl := (ho.2.2.2.1 hn.1)
  intro x ex
  rw [h.1.2.2.1] at ex
  subst ex
  refine ⟨t.2.2.1 - t.2.1 + 1, ?_⟩
  have e : e256 8 (nmC T t) = b256 T t.2.1 (t.2.2.1 - t.2.1) := e256_b _ 8 hn.2.1 (fun i hi => hl.2 _ (by omega) (by omega))
  rw [e] at fin
  exact nh_loop (k := 0) h.2.2.1 h.1.1 h.1.2.2.2.1 ho.2.2.1 ho.2.1 fin (t.2.2.1 - t.2.1) (by have := ho.2.1; omega)
theorem d_isName {u0 : St} {T : Nat → Nat} {n m : Nat} {t : Tk} {E : Ex} {A : Nat → Int32} {NM : Nat → Int64} {u : St} {post : Int32 → St → Prop} (h : mS u0 T n m t E A NM u) (h1 : nmB T t → post 1 u) (h0 : ¬ nmB T t → post 0 u) : qX12_isName u post := by
  have ho := h.2.1
  have hn := h.2.2.1.1
  unfold qX12_isName
  have km := kM_eq ho.1
  rw [h.1.2.1, show (2 : Int32) = nI 2 from rfl, nI_eq (by omega) (by omega), km.1]
  refine ⟨fun c => ⟨Or.inl rfl, h0 (fun q => c q.1)⟩, fun c => ?_⟩
  have e : (gi u 14 - gi u 13).toInt = (t.2.2.1 : Int) - t.2.1 := by
    rw [h.1.2.2.1, h.1.2.2.2.1]
    exact pk_sub_toInt (by have := ho.2.2.1; omega) (by have := ho.2.2.1; have := ho.2.1; omega)
  have hle := ho.2.1
  rw [i_lt, e, show (8 : Int32).toInt = 8 from rfl]
  refine ⟨fun c8 => ⟨Or.inl rfl, h0 (fun q => by have := q.2.1; omega)⟩, fun c8 => ?_⟩
  exact m_inWords h.2.2.1 h.1 ho ⟨fun z => ⟨Or.inl rfl, h0 (fun q => z q.2.2)⟩, fun z => ⟨Or.inr rfl, h1 ⟨c, by omega, z⟩⟩⟩
/-- the names of a house stand from place b on -/
def nmR (NM : Nat → Int64) (b : Nat) (M : MH) : Prop := ∀ p, p < M 1 0 → NM (b + p) = lN (e256 8 (M 13 p))
theorem fh_loop {u0 : St} {T : Nat → Nat} {n m b : Nat} {M : MH} {t : Tk} {E : Ex} {A : Nat → Int32} {NM : Nat → Int64} {u : St} {post : Int32 → St → Prop} (ok : okH M) (h : mS u0 T n m t E A NM u) (hb : b ≤ 20) (hn : nmB T t) (hM : nmR NM b M) : ∀ (k i : Nat), i + k = M 1 0 → (fnd M (nmC T t) k i < M 1 0 → post (nI (fnd M (nmC T t) k i)) u) → (¬ fnd M (nmC T t) k i < M 1 0 → post (-1) u) → qX12_findHere_L2 post (k + 1) (nI b) (nI (M 1 0)) (nI i) u := by
  have h5 := ok.2.1
  intro k
  induction k with
  | zero =>
    intro i hi h1 h0
    exact ⟨fun _ => h0 (by rw [fnd]; omega), fun q => absurd (nI_le (by omega) (by omega)) q⟩
  | succ k ih =>
    intro i hi h1 h0
    refine ⟨fun q => absurd q (nI_ge (by omega) (by omega)), fun _ => ?_⟩
    have hc := (ok.2.2.2.2.2.2.2.2.2.1 i (by omega)).2.2
    have hb2 := c32_b h.2.1 hn.1 hn.2.1
    have l1 := e256_lt 8 (M 13 i)
    have l2 := e256_lt 8 (nmC T t)
    rw [nI_add, nI_clamp (by omega), h.2.2.2.2.2.2.1, hM i (by omega)]
    refine ⟨vp_in_nI (by omega) (by omega), d_name h hn ?_⟩
    rw [lg_z, pk_lEQ (by omega) (by omega)]
    have iff : e256 8 (M 13 i) = e256 8 (nmC T t) ↔ M 13 i = nmC T t := ⟨fun q => e256_inj 8 _ _ (by omega) (by unfold nmC; omega) q, fun q => by rw [q]⟩
    rw [iff]
    refine ⟨fun q z ez => ?_, fun q => ?_⟩
    · rw [nI_1] at ez
      subst ez
      rw [fnd, if_neg q] at h1 h0
      exact ih (i + 1) (by omega) h1 h0
    · rw [fnd, if_pos q] at h1
      exact h1 (by omega)
theorem d_find {u0 : St} {T : Nat → Nat} {n m b : Nat} {M : MH} {t : Tk} {E : Ex} {A : Nat → Int32} {NM : Nat → Int64} {u : St} {post : Int32 → St → Prop} (ok : okH M) (h : mS u0 T n m t E A NM u) (hb : b ≤ 20) (hn : nmB T t) (hM : nmR NM b M) (h1 : fnd M (nmC T t) (M 1 0) 0 < M 1 0 → post (nI (fnd M (nmC T t) (M 1 0) 0)) u) (h0 : ¬ fnd M (nmC T t) (M 1 0) 0 < M 1 0 → post (-1) u) : qX12_findHere (nI b) (nI (M 1 0)) u post := ⟨_, fh_loop ok h hb hn hM (M 1 0) 0 (by omega) h1 h0⟩
theorem d_person {R : Type} {r : R} {u0 : St} {T : Nat → Nat} {n m b to but : Nat} {x4 : Int32} {M : MH} {t : Tk} {E : Ex} {A : Nat → Int32} {NM : Nat → Int64} {K : Nat → Tk → R} {F : Nat → Nat → R} {u : St} {post : Int32 → St → Prop} (ok : okH M) (h : mS u0 T n m t E A NM u) (hb : b ≤ 20) (hM : nmR NM b M) (t1 : 1824 ≤ to) (t2 : to < 2280) (hx : ∀ p, p < 5 → (nI p = x4 ↔ p = but)) (hp : pPe T n M but t K F = r) (h1 : ∀ (u' : St) (p : Nat) (t' : Tk), mS u0 T n m t' E (upd A to (nI p)) NM u' → p < M 1 0 → p ≠ but → K p t' = r → post 1 u') (h0 : ∀ u' f pl, mF u0 f pl u' → F f pl = r → post 0 u') : qX12_personTo (nI b) (nI (M 1 0)) (nI to) x4 u post := by
  have h5 := ok.2.1
  unfold pPe at hp
  refine d_isName h (fun c => ⟨fun _ => ?_, fun z => absurd z (by decide)⟩) (fun c => ⟨fun z => absurd rfl z, fun _ => d_fail (why := 2) h (by omega) (fun u' z => ⟨Or.inl rfl, h0 u' _ _ z (by rw [if_neg c] at hp; exact hp)⟩)⟩)
  rw [if_pos c] at hp
  have h4 : t.1 ≠ 4 := by rw [c.1]; decide
  have hin : vp_in (nI to) 3072 := vp_in_nI (by omega) (by omega)
  have ec : (nI to).toNatClampNeg = to := nI_clamp (by omega)
  refine d_find ok h hb c hM (fun q => ⟨hin, fun u' e => ⟨hin, ?_⟩⟩) (fun q => ⟨hin, fun u' e => ⟨hin, ?_⟩⟩)
  · rw [ec] at e ⊢
    have hs := h.sw (j := to) (nI (fnd M (nmC T t) (M 1 0) 0)) t1 t2
    rw [← e] at hs
    have ea : ga u' 0 to = nI (fnd M (nmC T t) (M 1 0) 0) := by rw [e, ga_sw, if_pos rfl, upd_at, if_pos rfl]
    rw [ea]
    rw [if_pos q] at hp
    refine ⟨fun _ => ⟨hin, fun z => ?_, fun z => ?_⟩, fun z => absurd z (nI_m1 (by omega))⟩
    · have z := fun y => z ((hx _ (by omega)).mpr y)
      rw [if_neg z] at hp
      exact d_next hs (by rw [c.1]; decide) (fun u2 h2 => h1 u2 _ _ (h2.le (by omega)) q z hp)
    · rw [if_pos ((hx _ (by omega)).mp z)] at hp
      exact d_fail (why := 5) hs (by omega) (fun u2 y => ⟨Or.inl rfl, h0 u2 _ _ y (by rw [flt_wd h4]; exact hp)⟩)
  · rw [ec] at e ⊢
    have hs := h.sw (j := to) (-1) t1 t2
    rw [← e] at hs
    have ea : ga u' 0 to = -1 := by rw [e, ga_sw, if_pos rfl, upd_at, if_pos rfl]
    rw [ea]
    rw [if_neg q] at hp
    exact ⟨fun z => absurd rfl z, fun _ => d_fail (why := 3) hs (by omega) (fun u2 y => ⟨Or.inl rfl, h0 u2 _ _ y (by rw [flt_wd h4]; exact hp)⟩)⟩
