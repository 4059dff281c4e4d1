/-! STEPS 15: the reference's rates; fits, fitsAt, ask -/
def bI (b : Bool) : Int32 := if b then 1 else 0
theorem bI_0 (b : Bool) : bI b = 0 ↔ b = false := by cases b <;> decide
theorem mlf_in {a r t n : Nat} {Y L : Nat → Nat} {v : St} {x4 : Int32} {post : Int32 → St → Prop} {K : Int32 → Int32 → Int32 → Int32 → Int32 → St → Prop} (ha : a ≤ 99) (hr : r < 20) (ht : t < 4) (hn : n ≤ 20) (hw : twR t n (gl v 7) Y L) (F : Nat → Bool) (fin : ∀ f, (∀ s, s < r → f s = bI (F s)) → f r = bI (fitB a r Y L n) → qX12_laysFits_b83 post K (nI a) (nI t) (nI n) x4 (nI r) (sw v 28 f)) : ∀ (m i : Nat) (f : Nat → Int32), i + m = n → (∀ s, s < r → f s = bI (F s)) → f r = bI (fitB a r Y L i) → qX12_laysFits_L24 post K (m + 1) (nI a) (nI t) (nI n) x4 (nI r) (nI i) (sw v 28 f) := by
  intro m
  induction m with
  | zero =>
    intro i f hi h1 h2
    have : i = n := by omega
    subst this
    exact ⟨fun _ => fin f h1 h2, fun c => absurd (nI_le (by omega) (by omega)) c⟩
  | succ m ih =>
    intro i f hi h1 h2
    obtain ⟨w1, w2, w3, w4⟩ := hw i (by omega)
    have hl := lvs_le a r (Y i)
    refine ⟨fun c => absurd c (nI_ge (by omega) (by omega)), fun _ x ex => ?_⟩
    rw [i_2, i_60mul] at ex
    subst ex
    have e7 : gl (sw v 28 f) 7 = gl v 7 := rfl
    rw [nI_1, show 60 * t + 2 * i + 1 = 60 * t + (2 * i + 1) by omega, nI_clamp (n := 60 * t + 2 * i) (by omega), nI_clamp (n := 60 * t + (2 * i + 1)) (by omega), e7, w3, w4, lN_i]
    refine ⟨vp_in_nI (by omega) (by omega), m_leavesBy ha hr (by omega) ⟨vp_in_nI (by omega) (by omega), ?_⟩⟩
    rw [i_long (by omega), l_cmp (by omega) (by omega)]
    refine ⟨fun c z ez => ?_, fun c => ⟨vp_in_nI (by omega) (by omega), fun u' e z ez => ?_⟩⟩
    · rw [nI_1] at ez
      subst ez
      exact ih (i + 1) f (by omega) h1 (by rw [h2, fitB, decide_eq_true c, Bool.and_true])
    · rw [nI_1] at ez
      rw [nI_clamp (by omega), sw_sw, ga_sw, if_pos rfl] at e
      subst ez; subst e
      refine ih (i + 1) _ (by omega) (fun s hs => ?_) ?_
      · rw [upd_at, if_neg (by omega)]
        exact h1 s hs
      · rw [upd_at, if_pos rfl, fitB, decide_eq_false c, Bool.and_false]
        rfl
theorem mlf_out {a t n : Nat} {Y L : Nat → Nat} {v : St} {post : Int32 → St → Prop} (ha : a ≤ 99) (ht : t < 4) (hn : n ≤ 20) (hw : twR t n (gl v 7) Y L) (fin : ∀ f, (∀ s, s < 20 → f s = bI (fitB a s Y L n)) → post (nI (cS (fun r => fitB a r Y L n) 20)) (sw v 28 f)) : ∀ (m i : Nat) (f : Nat → Int32), i + m = 20 → (∀ s, s < i → f s = bI (fitB a s Y L n)) → qX12_laysFits_L6 post (m + 1) (nI a) (nI t) (nI n) (nI (cS (fun r => fitB a r Y L n) i)) (nI i) (sw v 28 f) := by
  intro m
  induction m with
  | zero =>
    intro i f hi h1
    have : i = 20 := by omega
    subst this
    exact ⟨fun _ => fin f h1, fun c => absurd (by decide) c⟩
  | succ m ih =>
    intro i f hi h1
    refine ⟨fun c => absurd c (nI_ge (b := 20) (by omega) (by omega)), fun _ => ⟨vp_in_nI (by omega) (by omega), fun u' e => ?_⟩⟩
    rw [nI_clamp (by omega), sw_sw, ga_sw, if_pos rfl] at e
    subst e
    refine ⟨n + 1, mlf_in (v := v) ha (by omega) ht hn hw (fun s => fitB a s Y L n) (fun g g1 g2 => ⟨vp_in_nI (by omega) (by omega), ?_⟩) n 0 _ (by omega) (fun s hs => by rw [upd_at, if_neg (by omega)]; exact h1 s hs) (by rw [upd_at, if_pos rfl]; rfl)⟩
    have hall : ∀ s, s < i + 1 → g s = bI (fitB a s Y L n) := fun s hs => by
      by_cases c : s = i
      · rw [c]; exact g2
      · exact g1 s (by omega)
    rw [nI_clamp (by omega), ga_sw, if_pos rfl, g2, bI_0]
    refine ⟨fun c x ex z ez => ?_, fun c x ex z ez => ?_⟩
    · rw [nI_1] at ez
      rw [Int32.add_zero] at ex
      have := ih (i + 1) g (by omega) hall
      rw [cS, if_neg (by rw [c]; decide), Nat.add_zero] at this
      rw [ex, ez]
      exact this
    · rw [nI_1] at ez ex
      have := ih (i + 1) g (by omega) hall
      rw [cS, if_pos (by cases q : fitB a i Y L n with | true => rfl | false => exact absurd q c)] at this
      rw [ex, ez]
      exact this
theorem m_laysFits {a t n : Nat} {Y L : Nat → Nat} {v : St} {post : Int32 → St → Prop} (ha : a ≤ 99) (ht : t < 4) (hn : n ≤ 20) (hw : twR t n (gl v 7) Y L) (fin : ∀ f, (∀ s, s < 20 → f s = bI (fitB a s Y L n)) → post (nI (cS (fun r => fitB a r Y L n) 20)) (sw v 28 f)) : qX12_laysFits (nI a) (nI t) (nI n) v post := by
  have := mlf_out ha ht hn hw fin 20 0 (ga v 28) (by omega) (fun s hs => absurd hs (by omega))
  rw [sw_same] at this
  exact ⟨_, this⟩
/-- the k-th that is in -/
def nth (P : Nat → Bool) : Nat → Nat → Nat → Int32
  | 0, _, _ => -1
  | m + 1, i, k => if P i then (if k = 0 then nI i else nth P m (i + 1) (k - 1)) else nth P m (i + 1) k
theorem nth_cut {P : Nat → Bool} : ∀ m i k j, (∀ s, i + m ≤ s → P s = false) → nth P (m + j) i k = nth P m i k := by
  intro m
  induction m with
  | zero =>
    intro i k j h
    rw [Nat.zero_add]
    induction j generalizing i k with
    | zero => rfl
    | succ j ih =>
      have e : nth P (j + 1) i k = nth P j (i + 1) k := if_neg (by rw [h i (by omega)]; decide)
      rw [e]
      exact ih (i + 1) k (fun s hs => h s (by omega))
  | succ m ih =>
    intro i k j h
    rw [show m + 1 + j = m + j + 1 by omega, nth, nth, ih (i + 1) (k - 1) j (fun s hs => h s (by omega)), ih (i + 1) k j (fun s hs => h s (by omega))]
theorem i_m1 {k : Nat} (h : k ≠ 0) : nI k + (-1) = nI (k - 1) := by
  obtain ⟨j, rfl⟩ : ∃ j, k = j + 1 := ⟨k - 1, by omega⟩
  exact pk_m1 j
theorem nthOf_loop {s : Nat} {post : Int32 → Prop} (hs : s < 2 ^ 31) : ∀ (m i k : Nat), i + m = 31 → k < 2 ^ 31 → post (nth (fun d => s.testBit d) m i k) → qX11_nthOf_L4 post (m + 1) (nI s) (nI k) (nI i) := by
  intro m
  induction m with
  | zero =>
    intro i k hi hk hp
    have : i = 31 := by omega
    subst this
    exact ⟨fun _ => hp, fun c => absurd (by decide) c⟩
  | succ m ih =>
    intro i k hi hk hp
    refine ⟨fun c => absurd c (nI_ge (b := 31) (by omega) (by omega)), fun _ => r_has hs (by omega) (fun c => ⟨fun c => absurd c (by decide), fun _ => ⟨fun c2 x ex z ez => ?_, fun c2 => ?_⟩⟩) (fun c => ⟨fun _ z ez => ?_, fun c => absurd rfl c⟩)⟩
    · have k0 : k ≠ 0 := fun q => c2 (by rw [q]; rfl)
      rw [i_m1 k0] at ex
      rw [nI_1] at ez
      subst ex; subst ez
      rw [nth, if_pos c, if_neg k0] at hp
      exact ih (i + 1) (k - 1) (by omega) (by omega) hp
    · rw [nth, if_pos c, if_pos ((nI_z hk).mp c2)] at hp
      exact hp
    · rw [nI_1] at ez
      subst ez
      rw [nth, if_neg (by rw [c]; decide)] at hp
      exact ih (i + 1) k (by omega) hk hp
theorem mfa_loop {P : Nat → Bool} {u : St} {post : Int32 → St → Prop} (hf : ∀ s, s < 20 → ga u 28 s = bI (P s)) : ∀ (m i k : Nat), i + m = 20 → k < 2 ^ 31 → (nth P m i k = -1 → post (-1) (si u 2 6)) → (¬ nth P m i k = -1 → post (nth P m i k) (si u 2 0)) → qX12_fitsAt_L45 post (m + 1) (nI k) (nI i) u := by
  intro m
  induction m with
  | zero =>
    intro i k hi hk h1 h0
    have : i = 20 := by omega
    subst this
    exact ⟨fun _ => m_refuse (h1 rfl), fun c => absurd (by decide) c⟩
  | succ m ih =>
    intro i k hi hk h1 h0
    refine ⟨fun c => absurd c (nI_ge (b := 20) (by omega) (by omega)), fun _ => ⟨vp_in_nI (by omega) (by omega), ?_⟩⟩
    rw [nI_clamp (by omega), hf i (by omega), bI_0]
    refine ⟨fun c => ?_, fun c z ez => ?_⟩
    · have c' : P i = true := by cases q : P i with | true => rfl | false => exact absurd q c
      refine ⟨fun c2 x ex z ez => ?_, fun c2 => ?_⟩
      · have k0 : k ≠ 0 := fun q => c2 (by rw [q]; rfl)
        rw [i_m1 k0] at ex
        rw [nI_1] at ez
        subst ex; subst ez
        rw [nth, if_pos c', if_neg k0] at h1 h0
        exact ih (i + 1) (k - 1) (by omega) (by omega) h1 h0
      · rw [nth, if_pos c', if_pos ((nI_z hk).mp c2)] at h0
        exact m_gives (h0 (nI_m1 (by omega)))
    · rw [nI_1] at ez
      subst ez
      rw [nth, if_neg (by rw [c]; decide)] at h1 h0
      exact ih (i + 1) k (by omega) hk h1 h0
/-- as many as are alike -/
def alK (P : Nat → Bool) (v : Nat → Nat) (r : Nat) : Nat → Nat → Nat
  | 0, _ => 0
  | m + 1, i => (if P i = true ∧ v i = v r then 1 else 0) + alK P v r m (i + 1)
theorem alK_le (P : Nat → Bool) (v : Nat → Nat) (r : Nat) : ∀ m i, alK P v r m i ≤ m := by
  intro m
  induction m with
  | zero => intro i; exact Nat.le_refl 0
  | succ m ih =>
    intro i
    have := ih (i + 1)
    rw [alK]
    split <;> omega
theorem alK_v {P : Nat → Bool} {v : Nat → Nat} {r s : Nat} (h : v r = v s) : ∀ m i, alK P v r m i = alK P v s m i := by
  intro m
  induction m with
  | zero => intro i; rfl
  | succ m ih => intro i; rw [alK, alK, ih, h]
theorem alK_skip {P : Nat → Bool} {v : Nat → Nat} {r : Nat} : ∀ k m i, (∀ o, i ≤ o → o < i + k → ¬ (P o = true ∧ v o = v r)) → alK P v r (k + m) i = alK P v r m (i + k) := by
  intro k
  induction k with
  | zero => intro m i _; rw [Nat.zero_add, Nat.add_zero]
  | succ k ih =>
    intro m i h
    rw [show k + 1 + m = k + m + 1 by omega, alK, if_neg (h i (by omega) (by omega)), Nat.zero_add, ih m (i + 1) (fun o h1 h2 => h o (by omega) (by omega)), show i + 1 + k = i + (k + 1) by omega]
theorem alK_ge {P : Nat → Bool} {v : Nat → Nat} {r : Nat} : ∀ k m i, alK P v r m (i + k) ≤ alK P v r (k + m) i := by
  intro k
  induction k with
  | zero => intro m i; rw [Nat.zero_add, Nat.add_zero]; exact Nat.le_refl _
  | succ k ih =>
    intro m i
    have := ih m (i + 1)
    rw [show k + 1 + m = k + m + 1 by omega, alK, show i + (k + 1) = i + 1 + k by omega]
    split <;> omega
/-- the most alike: the class counts from each on, the reference all -/
def mxC (P : Nat → Bool) (v : Nat → Nat) : Nat → Nat
  | 0 => 0
  | r + 1 => if P r then max (mxC P v r) (alK P v r (20 - r) r) else mxC P v r
def mxA (P : Nat → Bool) (v : Nat → Nat) : Nat → Nat
  | 0 => 0
  | r + 1 => max (mxA P v r) (if P r then alK P v r 20 0 else 0)
theorem mxC_le (P : Nat → Bool) (v : Nat → Nat) : ∀ r, r ≤ 20 → mxC P v r ≤ 20 := by
  intro r
  induction r with
  | zero => intro _; exact Nat.zero_le _
  | succ r ih =>
    intro hr
    have h1 := ih (by omega)
    have h2 := alK_le P v r (20 - r) r
    rw [mxC]
    split <;> omega
theorem mxC_mono {P : Nat → Bool} {v : Nat → Nat} : ∀ k r, mxC P v r ≤ mxC P v (r + k) := by
  intro k
  induction k with
  | zero => intro r; exact Nat.le_refl _
  | succ k ih =>
    intro r
    have := ih r
    rw [← Nat.add_assoc, mxC]
    split <;> omega
theorem mx_a {P : Nat → Bool} {v : Nat → Nat} : ∀ r, r < 20 → P r = true → alK P v r 20 0 ≤ mxC P v 20 := by
  intro r
  induction r using Nat.strongRecOn with
  | ind r ih =>
    intro hr hp
    by_cases c : ∃ o, o < r ∧ P o = true ∧ v o = v r
    · obtain ⟨o, h1, h2, h3⟩ := c
      rw [← alK_v h3]
      exact ih o h1 (by omega) h2
    · have e := alK_skip (P := P) (v := v) (r := r) r (20 - r) 0 (fun o _ h2 q => c ⟨o, by omega, q.1, q.2⟩)
      rw [show r + (20 - r) = 20 by omega, Nat.zero_add] at e
      have h1 : alK P v r (20 - r) r ≤ mxC P v (r + 1) := by
        rw [mxC, if_pos hp]
        omega
      have h2 := mxC_mono (P := P) (v := v) (19 - r) (r + 1)
      rw [show r + 1 + (19 - r) = 20 by omega] at h2
      omega
theorem mx_le {P : Nat → Bool} {v : Nat → Nat} : ∀ r, r ≤ 20 → mxA P v r ≤ mxC P v 20 := by
  intro r
  induction r with
  | zero => intro _; exact Nat.zero_le _
  | succ r ih =>
    intro hr
    have h1 := ih (by omega)
    rw [mxA]
    by_cases c : P r = true
    · have := mx_a (P := P) (v := v) r (by omega) c
      rw [if_pos c]
      omega
    · rw [if_neg c]
      omega
theorem mx_ge {P : Nat → Bool} {v : Nat → Nat} : ∀ r, r ≤ 20 → mxC P v r ≤ mxA P v r := by
  intro r
  induction r with
  | zero => intro _; exact Nat.zero_le _
  | succ r ih =>
    intro hr
    have h1 := ih (by omega)
    have h2 := alK_ge (P := P) (v := v) (r := r) r (20 - r) 0
    rw [show r + (20 - r) = 20 by omega, Nat.zero_add] at h2
    rw [mxA, mxC]
    by_cases c : P r = true
    · rw [if_pos c, if_pos c]
      omega
    · rw [if_neg c]
      omega
theorem mx_eq (P : Nat → Bool) (v : Nat → Nat) : mxA P v 20 = mxC P v 20 := Nat.le_antisymm (mx_le 20 (by omega)) (mx_ge 20 (by omega))
theorem i_max {a b : Nat} (ha : a < 2 ^ 31) (hb : b < 2 ^ 31) : (if nI a < nI b then nI b else nI a) = nI (max a b) := by
  by_cases c : a < b
  · rw [if_pos ((nI_ltI ha hb).mpr c), Nat.max_eq_right (by omega)]
  · rw [if_neg (fun q => c ((nI_ltI ha hb).mp q)), Nat.max_eq_left (by omega)]
theorem ca_loop {a r y s : Nat} {u : St} {post : Int32 → St → Prop} (hs : s < 2 ^ 31) (hr : r < 20) (hy : y < 41) (hT : tbR a 20 (ga u 0)) : ∀ (m i c : Nat), i + m = 20 → c + m ≤ 20 → post (nI (c + alK (fun d => s.testBit d) (fun q => lvs a q y) r m i)) u → qX5_countAlike_L6 post (m + 1) (nI s) (nI y) (nI r) (nI c) (nI i) u := by
  intro m
  induction m with
  | zero =>
    intro i c hi hc hp
    have : i = 20 := by omega
    subst this
    exact ⟨fun _ => hp, fun c => absurd (by decide) c⟩
  | succ m ih =>
    intro i c hi hc hp
    have hl := lvs_le a i y
    have hl2 := lvs_le a r y
    refine ⟨fun c => absurd c (nI_ge (b := 20) (by omega) (by omega)), fun _ => r_has hs (by omega) (fun q => ⟨fun c => absurd c (by decide), fun _ => ?_⟩) (fun q => ⟨fun _ z ez => ?_, fun c => absurd rfl c⟩)⟩
    · rw [i_41, i_41, nI_clamp (n := 41 * i + y) (by omega), nI_clamp (n := 41 * r + y) (by omega), hT i y (by omega) hy, hT r y (by omega) hy, nI_eq (by omega) (by omega)]
      refine ⟨vp_in_nI (by omega) (by omega), vp_in_nI (by omega) (by omega), fun q2 z ez => ?_, fun q2 x ex z ez => ?_⟩
      · rw [nI_1] at ez
        subst ez
        rw [alK, if_neg (fun w => q2 w.2), Nat.zero_add] at hp
        exact ih (i + 1) c (by omega) (by omega) hp
      · rw [nI_1] at ez ex
        subst ez; subst ex
        rw [alK, if_pos ⟨q, q2⟩, ← Nat.add_assoc] at hp
        exact ih (i + 1) (c + 1) (by omega) (by omega) hp
    · rw [nI_1] at ez
      subst ez
      rw [alK, if_neg (fun w => by have := w.1; rw [q] at this; exact absurd this (by decide)), Nat.zero_add] at hp
      exact ih (i + 1) c (by omega) (by omega) hp
theorem ma_loop {a y s : Nat} {u : St} {post : Int32 → St → Prop} (hs : s < 2 ^ 31) (hy : y < 41) (hT : tbR a 20 (ga u 0)) (fin : post (nI (mxC (fun d => s.testBit d) (fun q => lvs a q y) 20)) u) : ∀ (m i : Nat), i + m = 20 → qX5_mostAlike_L5 post (m + 1) (nI s) (nI y) (nI (mxC (fun d => s.testBit d) (fun q => lvs a q y) i)) (nI i) u := by
  intro m
  induction m with
  | zero =>
    intro i hi
    have : i = 20 := by omega
    subst this
    exact ⟨fun _ => fin, fun c => absurd (by decide) c⟩
  | succ m ih =>
    intro i hi
    have hm := mxC_le (fun d => s.testBit d) (fun q => lvs a q y) i (by omega)
    have ha := alK_le (fun d => s.testBit d) (fun q => lvs a q y) i (20 - i) i
    refine ⟨fun c => absurd c (nI_ge (b := 20) (by omega) (by omega)), fun _ => r_has hs (by omega) (fun q => ⟨fun c => absurd c (by decide), fun _ => ⟨20 - i + 1, ca_loop hs (by omega) hy hT (20 - i) i 0 (by omega) (by omega) (fun x ex z ez => ?_)⟩⟩) (fun q => ⟨fun _ z ez => ?_, fun c => absurd rfl c⟩)⟩
    · rw [Nat.zero_add, i_max (by omega) (by omega)] at ex
      rw [nI_1] at ez
      have := ih (i + 1) (by omega)
      rw [mxC, if_pos q] at this
      rw [ex, ez]
      exact this
    · rw [nI_1] at ez
      have := ih (i + 1) (by omega)
      rw [mxC, if_neg (by rw [q]; decide)] at this
      rw [ez]
      exact this
theorem mma_in {P : Nat → Bool} {a r y : Nat} {u : St} {x3 : Int32} {post : Int32 → St → Prop} {K : Int32 → Int32 → Int32 → Int32 → St → Prop} (hf : ∀ s, s < 20 → ga u 28 s = bI (P s)) (ha : a ≤ 99) (hr : r < 20) (hy : y < 41) : ∀ (m i c : Nat), i + m = 20 → c + m ≤ 20 → qX12_mostAlike_b78 post K (nI a) (nI y) x3 (nI r) (nI (c + if P r then alK P (fun q => lvs a q y) r m i else 0)) u → qX12_mostAlike_L18 post K (m + 1) (nI a) (nI y) x3 (nI r) (nI c) (nI i) u := by
  intro m
  induction m with
  | zero =>
    intro i c hi hc hp
    have : i = 20 := by omega
    subst this
    refine ⟨fun _ => ?_, fun c => absurd (by decide) c⟩
    rw [show (c + if P r = true then alK P (fun q => lvs a q y) r 0 20 else 0) = c by split <;> rfl] at hp
    exact hp
  | succ m ih =>
    intro i c hi hc hp
    have hl := lvs_le a i y
    have hl2 := lvs_le a r y
    have sk : (if P r = true then alK P (fun q => lvs a q y) r (m + 1) i else 0) = (if P r = true then alK P (fun q => lvs a q y) r m (i + 1) else 0) → qX12_mostAlike_b68 post K (qX12_mostAlike_L18 post K (m + 1)) (nI a) (nI y) x3 (nI r) (nI i) (nI c) u := fun e x ex z ez => by
      rw [Int32.add_zero] at ex
      rw [nI_1] at ez
      rw [ex, ez]
      rw [e] at hp
      exact ih (i + 1) c (by omega) (by omega) hp
    refine ⟨fun c => absurd c (nI_ge (b := 20) (by omega) (by omega)), fun _ => ⟨vp_in_nI (by omega) (by omega), ?_⟩⟩
    rw [nI_clamp (n := r) (by omega), nI_clamp (n := i) (by omega), hf r hr, hf i (by omega), bI_0, bI_0]
    refine ⟨fun q => sk (by rw [if_neg (by rw [q]; decide), if_neg (by rw [q]; decide)]), fun q => ⟨vp_in_nI (by omega) (by omega), fun q2 => sk ?_, fun q2 => m_leavesBy ha hr (by omega) (m_leavesBy ha (by omega) (by omega) ?_)⟩⟩
    · have e : alK P (fun q => lvs a q y) r (m + 1) i = alK P (fun q => lvs a q y) r m (i + 1) := by rw [alK, if_neg (fun w => by have := w.1; rw [q2] at this; exact absurd this (by decide)), Nat.zero_add]
      rw [e]
    · have q' : P r = true := by cases w : P r with | true => rfl | false => exact absurd w q
      have q2' : P i = true := by cases w : P i with | true => rfl | false => exact absurd w q2
      rw [nI_eq (by omega) (by omega)]
      refine ⟨fun q3 => sk ?_, fun q3 x ex z ez => ?_⟩
      · have e : alK P (fun q => lvs a q y) r (m + 1) i = alK P (fun q => lvs a q y) r m (i + 1) := by rw [alK, if_neg (fun w => q3 w.2.symm), Nat.zero_add]
        rw [e]
      · rw [nI_1] at ex ez
        subst ex; subst ez
        rw [if_pos q', alK, if_pos ⟨q2', q3.symm⟩, ← Nat.add_assoc] at hp
        refine ih (i + 1) (c + 1) (by omega) (by omega) ?_
        rw [if_pos q']
        exact hp
theorem mxA_le {P : Nat → Bool} {v : Nat → Nat} : ∀ r, mxA P v r ≤ 20 := by
  intro r
  induction r with
  | zero => exact Nat.zero_le _
  | succ r ih =>
    have := alK_le P v r 20 0
    rw [mxA]
    split <;> omega
theorem mma_loop {P : Nat → Bool} {a y : Nat} {u : St} {post : Int32 → St → Prop} (hf : ∀ s, s < 20 → ga u 28 s = bI (P s)) (ha : a ≤ 99) (hy : y < 41) (fin : post (nI (mxA P (fun q => lvs a q y) 20)) u) : ∀ (m i : Nat), i + m = 20 → qX12_mostAlike_L5 post (m + 1) (nI a) (nI y) (nI (mxA P (fun q => lvs a q y) i)) (nI i) u := by
  intro m
  induction m with
  | zero =>
    intro i hi
    have : i = 20 := by omega
    subst this
    exact ⟨fun _ => fin, fun c => absurd (by decide) c⟩
  | succ m ih =>
    intro i hi
    have h1 := mxA_le (P := P) (v := fun q => lvs a q y) i
    have h2 := alK_le P (fun q => lvs a q y) i 20 0
    refine ⟨fun c => absurd c (nI_ge (b := 20) (by omega) (by omega)), fun _ => ⟨21, mma_in hf ha (by omega) hy 20 0 0 (by omega) (by omega) (fun x ex z ez => ?_)⟩⟩
    rw [Nat.zero_add, i_max (by omega) (by split <;> omega)] at ex
    rw [nI_1] at ez
    rw [ex, ez]
    exact ih (i + 1) (by omega)
theorem m_mostAlike {P : Nat → Bool} {a y : Nat} {u : St} {post : Int32 → St → Prop} (hf : ∀ s, s < 20 → ga u 28 s = bI (P s)) (ha : a ≤ 99) (hy : y < 41) (fin : post (nI (mxC P (fun q => lvs a q y) 20)) u) : qX12_mostAlike (nI a) (nI y) u post := by
  rw [← mx_eq] at fin
  exact ⟨_, mma_loop hf ha hy fin 20 0 (by omega)⟩
/-- the year that parts them most -/
def prt (g : Nat → Nat) : Nat → Nat → Nat → Nat → Nat
  | 0, _, b, _ => b
  | m + 1, y, b, w => if g y < w then prt g m (y + 1) y (g y) else prt g m (y + 1) b w
theorem prt_lt (g : Nat → Nat) : ∀ m y b w, y + m ≤ 21 → b ≤ 20 → prt g m y b w ≤ 20 := by
  intro m
  induction m with
  | zero => intro y b w _ h; exact h
  | succ m ih =>
    intro y b w h1 h2
    rw [prt]
    split
    · exact ih _ _ _ (by omega) (by omega)
    · exact ih _ _ _ (by omega) h2
theorem pt_loop {a s : Nat} {u : St} {post : Int32 → St → Prop} (hs : s < 2 ^ 31) (hT : tbR a 20 (ga u 0)) : ∀ (m i b w : Nat), i + m = 21 → w ≤ 21 → post (nI (prt (fun y => mxC (fun d => s.testBit d) (fun q => lvs a q y) 20) m i b w)) u → qX5_partingYears_L8 post (m + 1) (nI s) (nI b) (nI w) (nI i) u := by
  intro m
  induction m with
  | zero =>
    intro i b w hi hw hp
    have : i = 21 := by omega
    subst this
    exact ⟨fun _ => hp, fun c => absurd (by decide) c⟩
  | succ m ih =>
    intro i b w hi hw hp
    have hm := mxC_le (fun d => s.testBit d) (fun q => lvs a q i) 20 (by omega)
    refine ⟨fun c => absurd c (nI_nlt (a := 20) (by omega) (by omega)), fun _ => ⟨21, ma_loop hs (by omega) hT ?_ 20 0 (by omega)⟩⟩
    rw [nI_leI (by omega) (by omega)]
    refine ⟨fun c z ez => ?_, fun c z ez => ?_⟩
    · rw [nI_1] at ez
      subst ez
      rw [prt, if_neg (by omega)] at hp
      exact ih (i + 1) b w (by omega) hw hp
    · rw [nI_1] at ez
      subst ez
      rw [prt, if_pos (by omega)] at hp
      exact ih (i + 1) i _ (by omega) (by omega) hp
theorem mpt_loop {P : Nat → Bool} {a : Nat} {u : St} {post : Int32 → St → Prop} (hf : ∀ s, s < 20 → ga u 28 s = bI (P s)) (ha : a ≤ 99) : ∀ (m i b w : Nat), i + m = 21 → w ≤ 21 → post (nI (prt (fun y => mxC P (fun q => lvs a q y) 20) m i b w)) (si u 2 0) → qX12_ask_L53 post (m + 1) (nI a) (nI b) (nI w) (nI i) u := by
  intro m
  induction m with
  | zero =>
    intro i b w hi hw hp
    have : i = 21 := by omega
    subst this
    exact ⟨fun _ => m_gives hp, fun c => absurd (by decide) c⟩
  | succ m ih =>
    intro i b w hi hw hp
    have hm := mxC_le P (fun q => lvs a q i) 20 (by omega)
    refine ⟨fun c => absurd c (nI_nlt (a := 20) (by omega) (by omega)), fun _ => m_mostAlike hf ha (by omega) ?_⟩
    rw [nI_ltI (by omega) (by omega)]
    refine ⟨fun c z ez => ?_, fun c z ez => ?_⟩
    · rw [nI_1] at ez
      subst ez
      rw [prt, if_pos c] at hp
      exact ih (i + 1) i _ (by omega) (by omega) hp
    · rw [nI_1] at ez
      subst ez
      rw [prt, if_neg c] at hp
      exact ih (i + 1) b w (by omega) hw hp
theorem l_nat {x : Int64} {n : Nat} (hn : n < 2 ^ 31) (h0 : 0 ≤ x.toInt) (h1 : x.toInt ≤ n) : x.toInt.toNat ≤ n ∧ x = lN x.toInt.toNat := by
  refine ⟨by omega, ?_⟩
  rw [← Int64.toInt_inj, pk_lT (by omega)]
  omega
/-- the years and leaves of a tray -/
def twY (f : Nat → Int64) (t i : Nat) : Nat := (f (60 * t + 2 * i)).toInt.toNat
def twL (f : Nat → Int64) (t i : Nat) : Nat := (f (60 * t + (2 * i + 1))).toInt.toNat
theorem twos_loop {t n : Nat} {u0 u1 ms : St} (ht : t < 4) (hn : n ≤ 20) (he : ∀ j, j < 2 * n → gl u1 0 (60 * t + j) = gl ms 7 (60 * t + j)) : ∀ (m i : Nat), i + m = n → twR t i (gl u1 0) (twY (gl u1 0) t) (twL (gl u1 0) t) → ∃ c : Int32, (∀ post : Int32 → St → St → Prop, post c u0 u1 → qX11_lookAtTwos_L66 post (m + 1) (nI t) (nI n) (nI i) u0 u1) ∧ (∀ post : Int32 → St → Prop, post c ms → qX12_wrongSeen_L62 post (m + 1) (nI t) (nI n) (nI i) ms) ∧ (c = 0 ∨ c = 5) ∧ (c = 0 → twR t n (gl u1 0) (twY (gl u1 0) t) (twL (gl u1 0) t)) := by
  intro m
  induction m with
  | zero =>
    intro i hi hw
    have : i = n := by omega
    subst this
    exact ⟨0, fun post hp => ⟨fun _ => hp, fun c => absurd (nI_le (by omega) (by omega)) c⟩, fun post hp => ⟨fun _ => hp, fun c => absurd (nI_le (by omega) (by omega)) c⟩, Or.inl rfl, fun _ => hw⟩
  | succ m ih =>
    intro i hi hw
    have e1 := he (2 * i) (by omega)
    have e2 := he (2 * i + 1) (by omega)
    have z0 : (0 : Int64).toInt = 0 := rfl
    have z40 : (40 : Int64).toInt = 40 := rfl
    have z999 : (999 : Int64).toInt = 999 := rfl
    -- what each does with the twos here
    have cl : ∀ (post : Int32 → St → St → Prop), (((lg_cmp (gl u1 0 (60 * t + 2 * i)) (0 : Int64)) < 0 → qX11_lookAtTwos_b134 post u0 u1) ∧ (¬ (lg_cmp (gl u1 0 (60 * t + 2 * i)) (0 : Int64)) < 0 → ((0 < (lg_cmp (gl u1 0 (60 * t + 2 * i)) (40 : Int64)) → qX11_lookAtTwos_b134 post u0 u1) ∧ (¬ 0 < (lg_cmp (gl u1 0 (60 * t + 2 * i)) (40 : Int64)) → (((lg_cmp (gl u1 0 (60 * t + (2 * i + 1))) (0 : Int64)) < 0 → qX11_lookAtTwos_b134 post u0 u1) ∧ (¬ (lg_cmp (gl u1 0 (60 * t + (2 * i + 1))) (0 : Int64)) < 0 → (((lg_cmp (gl u1 0 (60 * t + (2 * i + 1))) (999 : Int64)) ≤ 0 → ∀ x4_29 : Int32, x4_29 = nI i + (1 : Int32) → qX11_lookAtTwos_L66 post (m + 1) (nI t) (nI n) x4_29 u0 u1) ∧ (¬ (lg_cmp (gl u1 0 (60 * t + (2 * i + 1))) (999 : Int64)) ≤ 0 → qX11_lookAtTwos_b134 post u0 u1)))))))) → qX11_lookAtTwos_L66 post (m + 1 + 1) (nI t) (nI n) (nI i) u0 u1 := fun post q => by
      refine ⟨fun c => absurd c (nI_ge (by omega) (by omega)), fun _ => ?_⟩
      rw [i_2, nI_1]
      exact r_at ht (by omega) (r_at ht (by omega) q)
    have mo : ∀ (post : Int32 → St → Prop), qX12_isFrom (gl u1 0 (60 * t + 2 * i)) (0 : Int64) (40 : Int64) (fun r_14 => ((r_14 = 0 → qX12_wrongSeen_b115 post ms) ∧ (¬ r_14 = 0 → qX12_isFrom (gl u1 0 (60 * t + (2 * i + 1))) (0 : Int64) (999 : Int64) (fun r_17 => ((¬ r_17 = 0 → ∀ x4_20 : Int32, x4_20 = nI i + (1 : Int32) → qX12_wrongSeen_L62 post (m + 1) (nI t) (nI n) x4_20 ms) ∧ (r_17 = 0 → qX12_wrongSeen_b115 post ms)))))) → qX12_wrongSeen_L62 post (m + 1 + 1) (nI t) (nI n) (nI i) ms := fun post q => by
      refine ⟨fun c => absurd c (nI_ge (by omega) (by omega)), fun _ x ex => ?_⟩
      rw [i_2, i_60mul] at ex
      subst ex
      rw [nI_1, show 60 * t + 2 * i + 1 = 60 * t + (2 * i + 1) by omega, nI_clamp (n := 60 * t + 2 * i) (by omega), nI_clamp (n := 60 * t + (2 * i + 1)) (by omega), ← e1, ← e2]
      refine ⟨vp_in_nI (by omega) (by omega), ?_⟩
      unfold qX12_isFrom at q ⊢
      refine ⟨fun c => ⟨(q.1 c).1, (q.1 c).2.1, fun c2 => ⟨vp_in_nI (by omega) (by omega), (q.1 c).2.2 c2⟩⟩, fun c => ?_⟩
      exact ⟨fun c2 => ⟨((q.2 c).1 c2).1, ((q.2 c).1 c2).2.1, fun c3 => ⟨vp_in_nI (by omega) (by omega), ((q.2 c).1 c2).2.2 c3⟩⟩, fun c2 => ⟨((q.2 c).2 c2).1, ((q.2 c).2 c2).2.1, fun c3 => ⟨vp_in_nI (by omega) (by omega), ((q.2 c).2 c2).2.2 c3⟩⟩⟩
    by_cases y1 : (gl u1 0 (60 * t + 2 * i)).toInt < 0
    · exact ⟨5, fun post hp => cl post ⟨fun _ => hp, fun c => absurd ((lg_neg _ _).mpr (by rw [z0]; exact y1)) c⟩, fun post hp => mo post (m_isFromL 0 40 rfl rfl (fun a b => absurd a (by omega)) (fun _ => ⟨fun _ => hp, fun c => absurd rfl c⟩)), Or.inr rfl, fun c => absurd c (by decide)⟩
    have y1' : ¬ (lg_cmp (gl u1 0 (60 * t + 2 * i)) (0 : Int64)) < 0 := fun q => y1 (by have := (lg_neg _ _).mp q; rw [z0] at this; exact this)
    by_cases y2 : 40 < (gl u1 0 (60 * t + 2 * i)).toInt
    · exact ⟨5, fun post hp => cl post ⟨fun q => absurd q y1', fun _ => ⟨fun _ => hp, fun c => absurd ((lg_pos _ _).mpr (by rw [z40]; exact y2)) c⟩⟩, fun post hp => mo post (m_isFromL 0 40 rfl rfl (fun a b => absurd b (by omega)) (fun _ => ⟨fun _ => hp, fun c => absurd rfl c⟩)), Or.inr rfl, fun c => absurd c (by decide)⟩
    have y2' : ¬ 0 < (lg_cmp (gl u1 0 (60 * t + 2 * i)) (40 : Int64)) := fun q => y2 (by have := (lg_pos _ _).mp q; rw [z40] at this; exact this)
    have mo2 : ∀ (post : Int32 → St → Prop), qX12_isFrom (gl u1 0 (60 * t + (2 * i + 1))) (0 : Int64) (999 : Int64) (fun r_17 => ((¬ r_17 = 0 → ∀ x4_20 : Int32, x4_20 = nI i + (1 : Int32) → qX12_wrongSeen_L62 post (m + 1) (nI t) (nI n) x4_20 ms) ∧ (r_17 = 0 → qX12_wrongSeen_b115 post ms))) → qX12_wrongSeen_L62 post (m + 1 + 1) (nI t) (nI n) (nI i) ms := fun post q => mo post (m_isFromL 0 40 rfl rfl (fun _ _ => ⟨fun c => absurd c (by decide), fun _ => q⟩) (fun a => absurd a (by omega)))
    by_cases y3 : (gl u1 0 (60 * t + (2 * i + 1))).toInt < 0
    · exact ⟨5, fun post hp => cl post ⟨fun q => absurd q y1', fun _ => ⟨fun q => absurd q y2', fun _ => ⟨fun _ => hp, fun c => absurd ((lg_neg _ _).mpr (by rw [z0]; exact y3)) c⟩⟩⟩, fun post hp => mo2 post (m_isFromL 0 999 rfl rfl (fun a b => absurd a (by omega)) (fun _ => ⟨fun c => absurd rfl c, fun _ => hp⟩)), Or.inr rfl, fun c => absurd c (by decide)⟩
    have y3' : ¬ (lg_cmp (gl u1 0 (60 * t + (2 * i + 1))) (0 : Int64)) < 0 := fun q => y3 (by have := (lg_neg _ _).mp q; rw [z0] at this; exact this)
    by_cases y4 : 999 < (gl u1 0 (60 * t + (2 * i + 1))).toInt
    · exact ⟨5, fun post hp => cl post ⟨fun q => absurd q y1', fun _ => ⟨fun q => absurd q y2', fun _ => ⟨fun q => absurd q y3', fun _ => ⟨fun c => absurd c (by rw [lg_cmp_le, l_le, z999]; omega), fun _ => hp⟩⟩⟩⟩, fun post hp => mo2 post (m_isFromL 0 999 rfl rfl (fun a b => absurd b (by omega)) (fun _ => ⟨fun c => absurd rfl c, fun _ => hp⟩)), Or.inr rfl, fun c => absurd c (by decide)⟩
    have w1 := l_nat (n := 40) (by omega) (by omega) (by omega : (gl u1 0 (60 * t + 2 * i)).toInt ≤ (40 : Nat))
    have w2 := l_nat (n := 999) (by omega) (by omega) (by omega : (gl u1 0 (60 * t + (2 * i + 1))).toInt ≤ (999 : Nat))
    obtain ⟨c, f1, f2, f3, f4⟩ := ih (i + 1) (by omega) (fun j hj => by
      by_cases q : j = i
      · subst q
        exact ⟨w1.1, w2.1, w1.2, w2.2⟩
      · exact hw j (by omega))
    rw [← nI_1] at f1 f2
    exact ⟨c, fun post hp => cl post ⟨fun q => absurd q y1', fun _ => ⟨fun q => absurd q y2', fun _ => ⟨fun q => absurd q y3', fun _ => ⟨fun _ z ez => by rw [ez]; exact f1 post hp, fun c => absurd (by rw [lg_cmp_le, l_le, z999]; omega) c⟩⟩⟩⟩, fun post hp => mo2 post (m_isFromL 0 999 rfl rfl (fun _ _ => ⟨fun _ z ez => by rw [ez]; exact f2 post hp, fun c => absurd c (by decide)⟩) (fun a => absurd a (by omega))), f3, f4⟩
