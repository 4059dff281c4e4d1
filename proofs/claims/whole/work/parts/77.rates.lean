/-! STEPS 14: rates that fit -/
theorem pcF_0 : ∀ f, pcF f 0 = 0 := by
  intro f
  induction f with
  | zero => rfl
  | succ f ih => rw [pcF, ih]
theorem pcF_pow : ∀ f n x, x < 2 ^ n → n < f → pcF f (x + 2 ^ n) = pcF f x + 1 := by
  intro f
  induction f with
  | zero => intro n x _ h; omega
  | succ f ih =>
    intro n x hx hn
    cases n with
    | zero =>
      have : x = 0 := by omega
      subst this
      rw [pcF, pcF, show (0 + 2 ^ 0) / 2 = 0 from rfl, pcF_0]
    | succ n =>
      rw [Nat.pow_succ] at hx
      rw [pcF, pcF, show (x + 2 ^ (n + 1)) % 2 = x % 2 by rw [Nat.pow_succ]; omega, show (x + 2 ^ (n + 1)) / 2 = x / 2 + 2 ^ n by rw [Nat.pow_succ]; omega, ih n (x / 2) (by omega) (by omega), Nat.add_assoc]
/-- a set by what is in it -/
def stF (P : Nat → Bool) : Nat → Nat
  | 0 => 0
  | i + 1 => if P i then stF P i + 2 ^ i else stF P i
theorem stF_lt (P : Nat → Bool) : ∀ i, stF P i < 2 ^ i := by
  intro i
  induction i with
  | zero => exact Nat.one_pos
  | succ i ih =>
    rw [stF, Nat.pow_succ]
    split <;> omega
theorem stF_bit (P : Nat → Bool) : ∀ i s, (stF P i).testBit s = (decide (s < i) && P s) := by
  intro i
  induction i with
  | zero => intro s; rw [stF, Nat.zero_testBit, decide_eq_false (by omega), Bool.false_and]
  | succ i ih =>
    intro s
    rw [stF]
    by_cases c : P i = true
    · rw [if_pos c, tb_add (stF_lt P i), ih]
      by_cases c2 : s = i
      · subst c2
        rw [decide_eq_true rfl, Bool.or_true, decide_eq_true (by omega), c]
        rfl
      · rw [decide_eq_false c2, Bool.or_false]
        congr 1
        exact decide_eq_decide.mpr (by omega)
    · rw [if_neg c, ih]
      by_cases c2 : s = i
      · subst c2
        have : P s = false := by
          cases h : P s with
          | true => exact absurd h c
          | false => rfl
        rw [this, Bool.and_false, Bool.and_false]
      · congr 1
        exact decide_eq_decide.mpr (by omega)
theorem stF_pc (P : Nat → Bool) : ∀ i, i ≤ 20 → pc (stF P i) = cS P i := by
  intro i
  induction i with
  | zero => intro _; exact pcF_0 20
  | succ i ih =>
    intro hi
    have h := ih (by omega)
    rw [stF, cS]
    by_cases c : P i = true
    · rw [if_pos c, if_pos c, ← h]
      exact pcF_pow 20 i _ (stF_lt P i) (by omega)
    · rw [if_neg c, if_neg c, h]
      rfl
/-- leaves of a sum by a rate, behind some years -/
def lvs (a r : Nat) : Nat → Nat
  | 0 => 0
  | y + 1 => min (lvs a r y + (if decide (r % 2 = 1) then a + lvs a r y else a) * (r / 2) / 20) 999
theorem lvs_le (a r : Nat) : ∀ y, lvs a r y ≤ 999 := by
  intro y
  cases y with
  | zero => exact Nat.zero_le _
  | succ y => exact Nat.min_le_right _ _
theorem i_odd {r : Nat} (hr : r < 2 ^ 31) : (nI r - nI r / 2 * 2 = 1) ↔ r % 2 = 1 := by
  rw [show nI r - nI r / 2 * 2 = nI (r % 2) from pk_rem (d := 2) hr (by omega) (by omega), show (1 : Int32) = nI 1 from rfl, nI_eq (by omega) (by omega)]
theorem i_half {r : Nat} (hr : r < 2 ^ 31) : nI r / 2 = nI (r / 2) := pk_div (d := 2) hr (by omega) (by omega)
theorem mlv_loop {a r y : Nat} {post : Int32 → Prop} (ha : a ≤ 99) (hr : r < 20) (hy : y < 2 ^ 31) (fin : post (nI (lvs a r y))) : ∀ (m i : Nat), i + m = y → qX12_leavesBy_L5 post (m + 1) (nI a) (nI r) (nI y) (nI (lvs a r i)) (nI i) := by
  intro m
  induction m with
  | zero =>
    intro i hi
    have : i = y := by omega
    subst this
    exact ⟨fun _ => fin, fun c => absurd (nI_le (by omega) (by omega)) c⟩
  | succ m ih =>
    intro i hi
    have hl := lvs_le a r i
    have go : ∀ f : Int32, (f = 0 ↔ decide (r % 2 = 1) = false) → qX12_leavesBy_b28 post (qX12_leavesBy_L5 post (m + 1)) (nI a) (nI r) (nI y) (nI i) f (nI r / 2) (nI (lvs a r i)) (nI a) := fun f hf => by
      unfold qX12_leavesBy_b28
      rw [i_half (by omega)]
      refine m_grown (decide (r % 2 = 1)) ha hl (by omega) hf (fun z ez => ?_)
      rw [nI_1] at ez
      subst ez
      exact ih (i + 1) (by omega)
    refine ⟨fun c => absurd c (nI_ge (by omega) (by omega)), fun _ => ⟨fun c => go 0 ⟨fun _ => decide_eq_false (fun q => c ((i_odd (by omega)).mpr q)), fun _ => rfl⟩, fun c => go 1 ⟨fun q => absurd q (by decide), fun q => absurd ((i_odd (by omega)).mp c) (of_decide_eq_false q)⟩⟩⟩
theorem m_leavesBy {a r y : Nat} {post : Int32 → Prop} (ha : a ≤ 99) (hr : r < 20) (hy : y < 2 ^ 31) (fin : post (nI (lvs a r y))) : qX12_leavesBy (nI a) (nI r) (nI y) post := ⟨_, mlv_loop ha hr hy fin y 0 (by omega)⟩
/-- the class's table: the rows of the first n rates -/
def tbR (a n : Nat) (f : Nat → Int32) : Prop := ∀ r y, r < n → y < 41 → f (41 * r + y) = nI (lvs a r y)
theorem i_41 (r y : Nat) : nI r * 41 + nI y = nI (41 * r + y) := by rw [show (41 : Int32) = nI 41 from rfl, pk_mul, nI_add, Nat.mul_comm]
theorem grow_l {a r : Nat} {u : St} {post : St → Prop} (ha : a ≤ 99) (hr : r < 20) (hT : tbR a r (ga u 0)) (fin : ∀ f, tbR a (r + 1) f → post (sw u 0 f)) : ∀ (m i : Nat) (f : Nat → Int32), i + m = 41 → tbR a r f → (∀ y, y < i → f (41 * r + y) = nI (lvs a r y)) → qX5_grow_L5 post (m + 1) (nI a) (nI r) (nI (lvs a r i)) (nI i) (sw u 0 f) := by
  intro m
  induction m with
  | zero =>
    intro i f hi h1 h2
    have : i = 41 := by omega
    subst this
    refine ⟨fun _ => fin f (fun s y hs hy => ?_), fun c => absurd (by decide) c⟩
    by_cases c : s = r
    · rw [c]; exact h2 y hy
    · exact h1 s y (by omega) hy
  | succ m ih =>
    intro i f hi h1 h2
    have hl := lvs_le a r i
    refine ⟨fun c => absurd c (nI_ge (b := 41) (by omega) (by omega)), fun _ => ?_⟩
    rw [i_41, nI_clamp (by omega)]
    refine ⟨vp_in_nI (by omega) (by omega), fun u' e => ?_⟩
    rw [sw_sw, ga_sw, if_pos rfl] at e
    have go : ∀ g : Int32, (g = 0 ↔ decide (r % 2 = 1) = false) → qX5_grow_b42 post (qX5_grow_L5 post (m + 1)) (nI a) (nI r) (nI i) g (nI r / 2) (nI (lvs a r i)) (nI a) u' := fun g hg => by
      unfold qX5_grow_b42
      rw [i_half (by omega)]
      refine r_growth (decide (r % 2 = 1)) ha hl (by omega) hg (fun z ez => ?_)
      rw [nI_1] at ez
      subst ez; subst e
      refine ih (i + 1) _ (by omega) (fun s y hs hy => ?_) (fun y hy => ?_)
      · rw [upd_at, if_neg (by omega)]
        exact h1 s y hs hy
      · rw [upd_at]
        by_cases c : y = i
        · rw [if_pos (by omega), c]
        · rw [if_neg (by omega)]
          exact h2 y (by omega)
    exact ⟨fun c => go 0 ⟨fun _ => decide_eq_false (fun q => c ((i_odd (by omega)).mpr q)), fun _ => rfl⟩, fun c => go 1 ⟨fun q => absurd q (by decide), fun q => absurd ((i_odd (by omega)).mp c) (of_decide_eq_false q)⟩⟩
theorem r_grow {a r : Nat} {u : St} {post : St → Prop} (ha : a ≤ 99) (hr : r < 20) (hT : tbR a r (ga u 0)) (fin : ∀ f, tbR a (r + 1) f → post (sw u 0 f)) : qX5_grow (nI a) (nI r) u post := by
  have := grow_l ha hr hT fin 41 0 (ga u 0) (by omega) hT (fun y hy => absurd hy (by omega))
  rw [sw_same] at this
  exact ⟨_, this⟩
/-- years and leaves seen: so many twos of a tray -/
def twR (t n : Nat) (f : Nat → Int64) (Y L : Nat → Nat) : Prop := ∀ i, i < n → Y i ≤ 40 ∧ L i ≤ 999 ∧ f (60 * t + 2 * i) = lN (Y i) ∧ f (60 * t + (2 * i + 1)) = lN (L i)
def fitB (a r : Nat) (Y L : Nat → Nat) : Nat → Bool
  | 0 => true
  | i + 1 => fitB a r Y L i && decide (lvs a r (Y i) = L i)
theorem fitB_f {a r : Nat} {Y L : Nat → Nat} {i : Nat} (h : fitB a r Y L i = false) : ∀ m, fitB a r Y L (i + m) = false := by
  intro m
  induction m with
  | zero => exact h
  | succ m ih => rw [← Nat.add_assoc, fitB, ih, Bool.false_and]
theorem i_2 (i : Nat) : (2 : Int32) * nI i = nI (2 * i) := pk_mul 2 i
theorem r_at {t j : Nat} {u : St} {post : Int64 → St → Prop} (ht : t < 4) (hj : j < 60) (h : post (gl u 0 (60 * t + j)) u) : qX9_at (nI t) (nI j) u post := by
  unfold qX9_at
  rw [i_mul60, nI_clamp (by omega)]
  exact ⟨vp_in_nI (by omega) (by omega), h⟩
theorem l_cmp {a b : Nat} (ha : a < 2 ^ 63) (hb : b < 2 ^ 63) : lg_cmp (lN a) (lN b) = 0 ↔ a = b := by
  rw [lg_z]
  exact pk_lEQ ha hb
theorem fa_loop {a r t n : Nat} {Y L : Nat → Nat} {u0 u1 : St} {post : Int32 → St → St → Prop} (hr : r < 20) (ht : t < 4) (hn : n ≤ 20) (hT : tbR a (r + 1) (ga u0 0)) (hw : twR t n (gl u1 0) Y L) (h1 : fitB a r Y L n = true → post 1 u0 u1) (h0 : fitB a r Y L n = false → post 0 u0 u1) : ∀ (m i : Nat), i + m = n → fitB a r Y L i = true → qX5_fitsAll_L3 post (m + 1) (nI r) (nI t) (nI n) (nI i) u0 u1 := by
  intro m
  induction m with
  | zero =>
    intro i hi hf
    have : i = n := by omega
    subst this
    exact ⟨fun _ => h1 hf, fun c => absurd (nI_le (by omega) (by omega)) c⟩
  | succ m ih =>
    intro i hi hf
    obtain ⟨w1, w2, w3, w4⟩ := hw i (by omega)
    have hl := lvs_le a r (Y i)
    refine ⟨fun c => absurd c (nI_ge (by omega) (by omega)), fun _ => ?_⟩
    rw [i_2, nI_1]
    refine r_at ht (by omega) (fun x ex => ?_)
    rw [w3, lN_i] at ex
    subst ex
    refine r_within 0 40 rfl rfl (fun _ _ => ⟨fun c => absurd c (by decide), fun _ => ?_⟩) (fun c => absurd c (by rw [nI_toInt (by omega)]; omega))
    rw [i_41, nI_clamp (by omega), hT r (Y i) (by omega) (by omega), i_long (by omega)]
    refine ⟨vp_in_nI (by omega) (by omega), r_at ht (by omega) ?_⟩
    rw [w4, l_cmp (by omega) (by omega)]
    refine ⟨fun c z ez => ?_, fun c => h0 ?_⟩
    · rw [nI_1] at ez
      subst ez
      exact ih (i + 1) (by omega) (by rw [fitB, hf, decide_eq_true c]; rfl)
    · have := fitB_f (a := a) (r := r) (Y := Y) (L := L) (i := i + 1) (by rw [fitB, decide_eq_false c, Bool.and_false]) m
      rw [show i + 1 + m = n by omega] at this
      exact this
theorem fitting_loop {a t n : Nat} {Y L : Nat → Nat} {v u1 : St} {post : Int32 → St → St → Prop} (ha : a ≤ 99) (ht : t < 4) (hn : n ≤ 20) (hw : twR t n (gl u1 0) Y L) (fin : ∀ f, tbR a 20 f → post (nI (stF (fun r => fitB a r Y L n) 20)) (sw v 0 f) u1) : ∀ (m i : Nat) (f : Nat → Int32), i + m = 20 → tbR a i f → qX5_fitting_L6 post (m + 1) (nI a) (nI t) (nI n) (nI (stF (fun r => fitB a r Y L n) i)) (nI i) (sw v 0 f) u1 := by
  intro m
  induction m with
  | zero =>
    intro i f hi hf
    have : i = 20 := by omega
    subst this
    exact ⟨fun _ => fin f hf, fun c => absurd (by decide) c⟩
  | succ m ih =>
    intro i f hi hf
    have hl := stF_lt (fun r => fitB a r Y L n) i
    refine ⟨fun c => absurd c (nI_ge (b := 20) (by omega) (by omega)), fun _ => r_grow ha (by omega) hf (fun g hg => ?_)⟩
    rw [sw_sw]
    refine ⟨n + 1, fa_loop (u0 := sw v 0 g) (by omega) ht hn hg hw (fun c => ⟨fun c => absurd c (by decide), fun _ x ex z ez => ?_⟩) (fun c => ⟨fun _ z ez => ?_, fun c => absurd rfl c⟩) n 0 (by omega) rfl⟩
    · rw [i_one (by omega), i_or, or_pow hl] at ex
      rw [nI_1] at ez
      subst ex; subst ez
      have := ih (i + 1) g (by omega) hg
      rw [stF, if_pos c] at this
      exact this
    · rw [nI_1] at ez
      subst ez
      have := ih (i + 1) g (by omega) hg
      rw [stF, if_neg (by rw [c]; decide)] at this
      exact this
theorem r_fitting {a t n : Nat} {Y L : Nat → Nat} {u0 u1 : St} {post : Int32 → St → St → Prop} (ha : a ≤ 99) (ht : t < 4) (hn : n ≤ 20) (hw : twR t n (gl u1 0) Y L) (fin : ∀ f, tbR a 20 f → post (nI (stF (fun r => fitB a r Y L n) 20)) (sw u0 0 f) u1) : qX5_fitting (nI a) (nI t) (nI n) u0 u1 post := by
  have := fitting_loop (v := u0) ha ht hn hw fin 20 0 (ga u0 0) (by omega) (fun r y hr => absurd hr (by omega))
  rw [sw_same] at this
  exact ⟨_, this⟩
