/-! HOUSE RULES 4: falling, years -/
theorem fal_sub {M : MH} (ok : okH M) (s : Nat) (h : (M 5 0).testBit s = true) : (fal M 5 0).testBit s = true := by
  have hf := ok.2.2.2.2.2.1
  rw [fal_5, pw_sub (stn_lt M 0 0 _)]
  have hs : s < M 0 0 := by
    apply Classical.byContradiction
    intro q
    rw [Nat.testBit_lt_two_pow (Nat.lt_of_lt_of_le hf (Nat.pow_le_pow_right (by decide) (by omega)))] at h
    exact absurd h (by decide)
  have : ¬ (stn M 0 0 (M 0 0)).testBit s = true := by
    rw [stn_bit]
    intro q
    have := q.2.2.1
    rw [h] at this
    exact absurd this (by decide)
  simp [hs, this]
theorem ok_f8 {M : MH} (ok : okH M) : M 5 0 < 256 := Nat.lt_of_lt_of_le ok.2.2.2.2.2.1 (show 2 ^ M 0 0 ≤ 2 ^ 8 from Nat.pow_le_pow_right (by decide) (ok_ns ok))
theorem i_settle {n x : Nat} (hn : n < 31) (hx : x < 2 ^ n) : (((1 : Int32) <<< (nI n &&& 31)) - 1) &&& (nI x ^^^ (-1)) = nI (2 ^ n - 1 - x) := by
  rw [i_all hn, i_andn]
  congr 1
  apply Nat.eq_of_testBit_eq
  intro s
  rw [tb_andn, tb_pred, pw_sub hx]
theorem r_settle {M : MH} {u : St} {post : St → Prop} (ok : okH M) (h : CH u M) (hp : ∀ u', CH u' (fal M) → post u') : qX2_settle u post := by
  have h8 := ok_ns ok
  refine r_standing (g := 0) (w := 0) ok (by omega) (by omega) h (fun f _ u' e => hp u' ?_)
  rw [ch_k h (by omega), i_settle (by omega) (stn_lt M 0 0 _)] at e
  subst e
  exact ch_si (h.w11 f) (by omega) (by omega)
theorem m_falling {M : MH} {u : St} {post : Int32 → St → Prop} (ok : okH M) (h : MC u M) (hp : ∀ u', MC u' (fal M) → mSame u u' → post (nI (pc (fal M 5 0)) - nI (pc (M 5 0))) u') : qX12_falling u post := by
  have h8 := ok_ns ok
  have e5 : ga u 0 (5 : Int32).toNatClampNeg = nI (M 5 0) := mc_k (k := 5) h (by omega)
  have e0 : ga u 0 (0 : Int32).toNatClampNeg = nI (M 0 0) := mc_k (k := 0) h (by omega)
  unfold qX12_falling
  rw [e5, e0]
  refine m_bits (ok_f8 ok) (m_standsNow ok h (fun u' e => ?_))
  rw [i_settle (by omega) (stn_lt M 0 0 _)] at e
  have hm : MC u' (fal M) := by subst e; exact mc_up5 ok h
  have hk : mSame u u' := by subst e; exact mSame_upd u _ (by decide) (by decide)
  rw [show ga u' 0 (5 : Int32).toNatClampNeg = nI (fal M 5 0) from mc_k (k := 5) hm (by omega)]
  exact m_bits (ok_f8 (fal_ok ok)) (hp u' hm hk)
/-- leaves behind a year -/
def gwn (M : MH) (d : Nat) : Nat := min (M 19 d + (if (M 7 0).testBit d then M 16 d + M 19 d else M 16 d) * M 17 d / 20) 999
theorem gwn_le (M : MH) (d : Nat) : gwn M d ≤ 999 := Nat.min_le_right _ _
/-- leaves grow at the first n debts -/
def grP (M : MH) (n : Nat) : MH := fun k i => if k = 19 ∧ i < n ∧ (M 6 0).testBit i = false then gwn M i else M k i
/-- mortar goes at the first n stones -/
def weP (M : MH) (n : Nat) : MH := fun k i => if k = 8 ∧ i < n ∧ 0 < lvAt M 0 i (M 2 0) then M 8 i - 1 else M k i
theorem grP_0 (M : MH) : grP M 0 = M := by
  funext k i
  unfold grP
  rw [if_neg (by omega)]
theorem grP_s (M : MH) (n : Nat) (h : (M 6 0).testBit n = false) : grP M (n + 1) = mp (grP M n) 19 n (gwn M n) := by
  funext k i
  show (if k = 19 ∧ i < n + 1 ∧ (M 6 0).testBit i = false then gwn M i else M k i) = if k = 19 ∧ i = n then gwn M n else (if k = 19 ∧ i < n ∧ (M 6 0).testBit i = false then gwn M i else M k i)
  by_cases c : k = 19 ∧ i = n
  · obtain ⟨rfl, rfl⟩ := c
    rw [if_pos ⟨rfl, by omega, h⟩, if_pos ⟨rfl, rfl⟩]
  · rw [if_neg c]
    by_cases c2 : k = 19 ∧ i < n ∧ (M 6 0).testBit i = false
    · rw [if_pos c2, if_pos ⟨c2.1, by omega, c2.2.2⟩]
    · rw [if_neg c2, if_neg (fun q => c2 ⟨q.1, by
        have := q.2.1
        by_cases e : i = n
        · exact absurd ⟨q.1, e⟩ c
        · omega, q.2.2⟩)]
theorem grP_p (M : MH) (n : Nat) (h : (M 6 0).testBit n = true) : grP M (n + 1) = grP M n := by
  funext k i
  unfold grP
  by_cases c2 : k = 19 ∧ i < n ∧ (M 6 0).testBit i = false
  · rw [if_pos c2, if_pos ⟨c2.1, by omega, c2.2.2⟩]
  · rw [if_neg c2, if_neg (fun q => c2 ⟨q.1, by
      have := q.2.1
      by_cases e : i = n
      · subst e
        rw [h] at q
        exact absurd q.2.2 (by decide)
      · omega, q.2.2⟩)]
theorem grP_ne {M : MH} {n a b : Nat} (h : a ≠ 19) : grP M n a b = M a b := if_neg (fun q => h q.1)
theorem grP_ge {M : MH} {n b : Nat} (h : n ≤ b) : grP M n 19 b = M 19 b := if_neg (fun q => by have := q.2.1; omega)
theorem grP_ok {M : MH} (ok : okH M) (n : Nat) : okH (grP M n) := by
  obtain ⟨h0, h1, h2, h3, h4, h5, h6, h7, h8, h9, h10⟩ := ok
  refine ⟨h0, h1, h2, h3, h4, h5, h6, h7, h8, h9, fun d hd => ?_⟩
  obtain ⟨b1, b2, b3, b4, b5, b6, b7, b8⟩ := h10 d hd
  refine ⟨b1, b2, b3, b4, b5, b6, b7, ?_⟩
  unfold grP
  split
  · exact gwn_le M d
  · exact b8
theorem weP_0 (M : MH) : weP M 0 = M := by
  funext k i
  unfold weP
  rw [if_neg (by omega)]
theorem weP_s (M : MH) (n : Nat) (h : 0 < lvAt M 0 n (M 2 0)) : weP M (n + 1) = mp (weP M n) 8 n (M 8 n - 1) := by
  funext k i
  show (if k = 8 ∧ i < n + 1 ∧ 0 < lvAt M 0 i (M 2 0) then M 8 i - 1 else M k i) = if k = 8 ∧ i = n then M 8 n - 1 else (if k = 8 ∧ i < n ∧ 0 < lvAt M 0 i (M 2 0) then M 8 i - 1 else M k i)
  by_cases c : k = 8 ∧ i = n
  · obtain ⟨rfl, rfl⟩ := c
    rw [if_pos ⟨rfl, by omega, h⟩, if_pos ⟨rfl, rfl⟩]
  · rw [if_neg c]
    by_cases c2 : k = 8 ∧ i < n ∧ 0 < lvAt M 0 i (M 2 0)
    · rw [if_pos c2, if_pos ⟨c2.1, by omega, c2.2.2⟩]
    · rw [if_neg c2, if_neg (fun q => c2 ⟨q.1, by
        have := q.2.1
        by_cases e : i = n
        · exact absurd ⟨q.1, e⟩ c
        · omega, q.2.2⟩)]
theorem weP_p (M : MH) (n : Nat) (h : ¬ 0 < lvAt M 0 n (M 2 0)) : weP M (n + 1) = weP M n := by
  funext k i
  unfold weP
  by_cases c2 : k = 8 ∧ i < n ∧ 0 < lvAt M 0 i (M 2 0)
  · rw [if_pos c2, if_pos ⟨c2.1, by omega, c2.2.2⟩]
  · rw [if_neg c2, if_neg (fun q => c2 ⟨q.1, by
      have := q.2.1
      by_cases e : i = n
      · subst e
        exact absurd q.2.2 h
      · omega, q.2.2⟩)]
theorem weP_ne {M : MH} {n a b : Nat} (h : a ≠ 8) : weP M n a b = M a b := if_neg (fun q => h q.1)
theorem weP_ge {M : MH} {n b : Nat} (h : n ≤ b) : weP M n 8 b = M 8 b := if_neg (fun q => by have := q.2.1; omega)
theorem weP_ok {M : MH} (ok : okH M) (n : Nat) : okH (weP M n) := by
  obtain ⟨h0, h1, h2, h3, h4, h5, h6, h7, h8, h9, h10⟩ := ok
  refine ⟨h0, h1, h2, h3, h4, h5, h6, h7, fun s hs => ?_, h9, h10⟩
  obtain ⟨b1, b2⟩ := h8 s hs
  refine ⟨?_, b2⟩
  unfold weP
  split
  · omega
  · exact b1
theorem lv_we (M : MH) (n g s k : Nat) : lvAt (weP M n) g s k = lvAt M g s k := lvAt_congr (M := M) (M' := weP M n) rfl (fun _ => rfl) (fun _ => rfl) k
def grw (M : MH) : MH := grP M (M 2 0)
def wer (M : MH) : MH := weP M (M 0 0)
/-- a year, but for its number -/
def yr0 (M : MH) : MH := fal (wer (grw M))
theorem yr0_ok {M : MH} (ok : okH M) : okH (yr0 M) := fal_ok (weP_ok (grP_ok ok _) _)
theorem yr0_setl (M : MH) : setl (yr0 M) := fal_setl _
/-- leaves that only grew hold no less than they did -/
theorem lv_gr {M : MH} (ok : okH M) (s : Nat) : ∀ n, n ≤ M 2 0 → lvAt M 0 s n ≤ lvAt (grw M) 0 s n := by
  intro n
  induction n with
  | zero => intro _; exact Nat.le_refl 0
  | succ n ih =>
    intro hn
    have h1 := ih (by omega)
    have h2 := (ok_d ok (d := n) (by omega)).2.2.2.2.2.2.2
    rw [lvAt, lvAt, show grw M 6 0 = M 6 0 from rfl, show grw M 18 n = M 18 n from rfl]
    have h3 : M 19 n ≤ grw M 19 n := by
      unfold grw grP
      split
      · unfold gwn
        omega
      · exact Nat.le_refl _
    split <;> omega
theorem gr_setl {M : MH} (ok : okH M) (h : setl M) : setl (grw M) := by
  refine (setl_iff (grP_ok ok _)).mpr (fun t ht c => ?_)
  refine stn_mono (M := M) (M' := grw M) (fun _ => rfl) (fun _ q => q) (fun _ q => q) (t + 1) (fun r _ _ q => ?_) t (by omega) ((setl_iff ok).mp h t ht c)
  have := lv_gr ok r (M 2 0) (Nat.le_refl _)
  show M 9 r ≤ M 8 r + lvAt (grw M) 0 r (M 2 0) / 5
  have h2 := Nat.div_le_div_right (c := 5) this
  omega
theorem mp4_gr (M : MH) (v n : Nat) : grP (mp M 4 0 v) n = mp (grP M n) 4 0 v := by
  funext k i
  by_cases c : k = 4 ∧ i = 0
  · obtain ⟨rfl, rfl⟩ := c
    rw [mp_eq, grP_ne (by decide), mp_eq]
  · rw [mp_ne (by omega)]
    by_cases c2 : k = 19
    · subst c2
      rfl
    · rw [grP_ne c2, grP_ne c2, mp_ne (by omega)]
theorem mp4_we (M : MH) (v n : Nat) : weP (mp M 4 0 v) n = mp (weP M n) 4 0 v := by
  have hl : ∀ i, lvAt (mp M 4 0 v) 0 i (M 2 0) = lvAt M 0 i (M 2 0) := fun i => lvAt_congr (M := M) (M' := mp M 4 0 v) rfl (fun _ => rfl) (fun _ => rfl) _
  funext k i
  by_cases c : k = 4 ∧ i = 0
  · obtain ⟨rfl, rfl⟩ := c
    rw [mp_eq, weP_ne (by decide), mp_eq]
  · rw [mp_ne (by omega)]
    by_cases c2 : k = 8
    · subst c2
      unfold weP
      rw [show mp M 4 0 v 2 0 = M 2 0 from rfl, hl i]
      rfl
    · rw [weP_ne c2, weP_ne c2, mp_ne (by omega)]
theorem mp4_fal (M : MH) (v : Nat) : fal (mp M 4 0 v) = mp (fal M) 4 0 v := by
  have hs : stn (mp M 4 0 v) 0 0 (M 0 0) = stn M 0 0 (M 0 0) := stn_congr (M := M) (M' := mp M 4 0 v) rfl rfl rfl (fun _ => rfl) (fun _ => rfl) (fun _ => rfl) (fun _ => rfl) (fun _ => rfl) _
  funext k i
  by_cases c : k = 4 ∧ i = 0
  · obtain ⟨rfl, rfl⟩ := c
    rw [mp_eq, fal_ne (by decide), mp_eq]
  · rw [mp_ne (by omega)]
    by_cases c2 : k = 5 ∧ i = 0
    · obtain ⟨rfl, rfl⟩ := c2
      rw [fal_5, fal_5, show mp M 4 0 v 0 0 = M 0 0 from rfl, hs]
    · unfold fal
      rw [mp_ne (by omega), mp_ne (by omega), mp_ne (by omega)]
theorem mp4_yr (M : MH) (v : Nat) : yr0 (mp M 4 0 v) = mp (yr0 M) 4 0 v := by
  unfold yr0 wer grw
  rw [show mp M 4 0 v 2 0 = M 2 0 from rfl, mp4_gr, show mp (grP M (M 2 0)) 4 0 v 0 0 = grP M (M 2 0) 0 0 from rfl, mp4_we, mp4_fal]
theorem mp_mp (M : MH) (k i v w : Nat) : mp (mp M k i v) k i w = mp M k i w := by
  funext a b
  unfold mp
  by_cases c : a = k ∧ b = i
  · rw [if_pos c, if_pos c]
  · rw [if_neg c, if_neg c, if_neg c]
theorem mp_same (M : MH) (k i : Nat) : mp M k i (M k i) = M := by
  funext a b
  unfold mp
  split
  · rename_i c
    rw [c.1, c.2]
  · rfl
theorem ok_mp4 {M : MH} (ok : okH M) (v : Nat) : okH (mp M 4 0 v) := ok
theorem setl_mp4 {M : MH} (h : setl M) (v : Nat) : setl (mp M 4 0 v) := setl_congr (M := M) rfl rfl rfl rfl (fun _ => rfl) (fun _ => rfl) (fun _ => rfl) (fun _ => rfl) (fun _ => rfl) h
/-- some years, but for their number -/
def yrs (M : MH) : Nat → MH
  | 0 => M
  | n + 1 => yr0 (yrs M n)
theorem yrs_ok {M : MH} (ok : okH M) : ∀ n, okH (yrs M n) := by
  intro n
  induction n with
  | zero => exact ok
  | succ n ih => exact yr0_ok ih
theorem yrs_setl {M : MH} (h : setl M) : ∀ n, setl (yrs M n) := by
  intro n
  cases n with
  | zero => exact h
  | succ n => exact yr0_setl _
theorem yrs_stop {M : MH} {n : Nat} (h : yr0 (yrs M n) = yrs M n) : ∀ k, yrs M (n + k) = yrs M n := by
  intro k
  induction k with
  | zero => rfl
  | succ k ih =>
    rw [← Nat.add_assoc, yrs, ih, h]
/-- the class: leaves grow -/
theorem growL_b {M : MH} {d : Nat} (ok : okH M) (hd : d < M 2 0) : (M 17 d = 0 ∨ 999 ≤ M 19 d) → gwn M d = M 19 d := by
  have h := (ok_d ok hd).2.2.2.2.2.2.2
  intro c
  unfold gwn
  rcases c with c | c
  · rw [c, Nat.mul_zero]
    omega
  · omega
theorem i_div20 {n : Nat} (h : n < 2 ^ 31) : nI n / 20 = nI (n / 20) := pk_div (d := 20) h (by omega) (by omega)
theorem r_growth {a b c : Nat} {f : Int32} {post : Int32 → Prop} (g : Bool) (ha : a ≤ 99) (hb : b ≤ 999) (hc : c ≤ 9) (hf : f = 0 ↔ g = false) (hp : post (nI (min (b + (if g then a + b else a) * c / 20) 999))) : qX11_growth (nI a) (nI b) (nI c) f post := by
  have key : ∀ m : Nat, m ≤ 1098 → (if nI b + nI m * nI c / 20 < 999 then nI b + nI m * nI c / 20 else (999 : Int32)) = nI (min (b + m * c / 20) 999) := fun m hm => by
    have h1 : m * c ≤ 1098 * 9 := Nat.mul_le_mul hm hc
    rw [pk_mul, i_div20 (by omega), nI_add, show (999 : Int32) = nI 999 from rfl, i_min (by omega) (by omega)]
  cases g with
  | false =>
    refine ⟨fun _ => ?_, fun c => absurd (hf.mpr rfl) c⟩
    unfold qX11_growth_b11
    rw [key a (by omega)]
    exact hp
  | true =>
    refine ⟨fun c => absurd (hf.mp c) (by decide), fun _ => ?_⟩
    unfold qX11_growth_b11
    rw [nI_add, key (a + b) (by omega)]
    exact hp
theorem m_grown {a b c : Nat} {f : Int32} {post : Int32 → Prop} (g : Bool) (ha : a ≤ 99) (hb : b ≤ 999) (hc : c ≤ 9) (hf : f = 0 ↔ g = false) (hp : post (nI (min (b + (if g then a + b else a) * c / 20) 999))) : qX12_grown (nI a) (nI b) (nI c) f post := by
  have key : ∀ m : Nat, m ≤ 1098 → (if nI b + nI m * nI c / 20 < 999 then nI b + nI m * nI c / 20 else (999 : Int32)) = nI (min (b + m * c / 20) 999) := fun m hm => by
    have h1 : m * c ≤ 1098 * 9 := Nat.mul_le_mul hm hc
    rw [pk_mul, i_div20 (by omega), nI_add, show (999 : Int32) = nI 999 from rfl, i_min (by omega) (by omega)]
  cases g with
  | false =>
    refine ⟨fun _ => ?_, fun c => absurd (hf.mpr rfl) c⟩
    unfold qX12_grown_b15
    rw [key a (by omega)]
    exact hp
  | true =>
    refine ⟨fun c => absurd (hf.mp c) (by decide), fun _ => ?_⟩
    unfold qX12_grown_b15
    rw [nI_add, key (a + b) (by omega)]
    exact hp
theorem grow_loop {M : MH} {post : Int32 → St → Prop} (ok : okH M) (fin : ∀ (u : St) (b : Int32), bz b → (b = 0 → grw M = M) → CH u (grw M) → post b u) : ∀ (m i : Nat) (b : Int32) (u : St), i + m = M 2 0 → bz b → (b = 0 → grP M i = M) → CH u (grP M i) → qX2_growLeaves_L4 post (m + 1) b (nI i) u := by
  have h7 := ok_nd ok
  intro m
  induction m with
  | zero =>
    intro i b u hi hb hz h
    have e2 : gi u 2 = nI (M 2 0) := ch_k h (by omega)
    have ei : i = M 2 0 := by omega
    subst ei
    refine ⟨fun _ => ⟨hb, fin u b hb hz h⟩, fun c => absurd (by rw [e2]; exact nI_le (by omega) (by omega)) c⟩
  | succ m ih =>
    intro i b u hi hb hz h
    have hd : i < M 2 0 := by omega
    have od := ok_d ok hd
    have e2 : gi u 2 = nI (M 2 0) := ch_k h (by omega)
    have e6 : gi u 6 = nI (M 6 0) := ch_k h (by omega)
    have e7 : gi u 7 = nI (M 7 0) := ch_k h (by omega)
    have ec : (nI i).toNatClampNeg = i := nI_clamp (by omega)
    have e19 : ga u 19 (nI i).toNatClampNeg = nI (M 19 i) := by rw [ec, ch_d h (by omega) (by omega) hd, grP_ge (Nat.le_refl _)]
    have e17 : ga u 17 (nI i).toNatClampNeg = nI (M 17 i) := by rw [ec]; exact ch_d h (by omega) (by omega) hd
    have e16 : ga u 16 (nI i).toNatClampNeg = nI (M 16 i) := by rw [ec]; exact ch_d h (by omega) (by omega) hd
    have hin : vp_in (nI i) 7 := vp_in_nI (by omega) (by omega)
    -- nothing is done
    have sk : grP M (i + 1) = grP M i → qX2_growLeaves_b94 post (qX2_growLeaves_L4 post (m + 1)) b (nI i) u := fun q z ez => by
      rw [nI_1] at ez
      subst ez
      exact ih (i + 1) b u (by omega) hb (fun c => by rw [q]; exact hz c) (by rw [q]; exact h)
    have sk2 : gwn M i = M 19 i → grP M (i + 1) = grP M i := fun q => by
      cases e : (M 6 0).testBit i with
      | true => exact grP_p M i e
      | false =>
        rw [grP_s M i e, q]
        have := mp_same (grP M i) 19 i
        rw [grP_ge (Nat.le_refl i)] at this
        exact this
    refine ⟨fun c => absurd c (by rw [e2]; exact nI_ge (by omega) (by omega)), fun _ => ⟨hin, fun x ex => ⟨hin, ?_⟩⟩⟩
    rw [e19] at ex
    subst ex
    rw [e17]
    refine ⟨fun c => sk (sk2 (growL_b ok hd (Or.inl ?_))), fun c => ⟨fun c2 => sk (sk2 (growL_b ok hd (Or.inr ?_))), fun c2 => ?_⟩⟩
    · rw [i_le, nI_toInt (by omega)] at c
      have : (0 : Int32).toInt = 0 := rfl
      omega
    · apply Classical.byContradiction
      intro q
      exact absurd c2 (nI_ge (b := 999) (by omega) (by omega))
    · rw [e6]
      refine r_has (ok_paid ok) (by omega) (fun c3 => ⟨fun _ => sk (grP_p M i c3), fun c => absurd c (by decide)⟩) (fun c3 => ⟨fun c => absurd rfl c, fun _ => ⟨hin, hin, ?_⟩⟩)
      have go : ∀ f : Int32, (f = 0 ↔ (M 7 0).testBit i = false) → qX11_growth (ga u 16 (nI i).toNatClampNeg) (nI (M 19 i)) (nI (M 17 i)) f (fun r_20 => (vp_in (nI i) 7 ∧ ∀ u_22 : St, u_22 = (sw u 19 (upd (ga u 19) (nI i).toNatClampNeg r_20)) → (vp_in (nI i) 7 ∧ (((ga u_22 19 (nI i).toNatClampNeg) = nI (M 19 i) → qX2_growLeaves_b92 post (qX2_growLeaves_L4 post (m + 1)) (nI i) (0 : Int32) b u_22) ∧ (¬ (ga u_22 19 (nI i).toNatClampNeg) = nI (M 19 i) → qX2_growLeaves_b92 post (qX2_growLeaves_L4 post (m + 1)) (nI i) (1 : Int32) b u_22))))) := fun f hf => by
        rw [e16]
        refine r_growth ((M 7 0).testBit i) (by omega) (by omega) (by omega) hf ⟨hin, fun u' e => ⟨hin, ?_⟩⟩
        have hv := gwn_le M i
        change u' = sw u 19 (upd (ga u 19) (nI i).toNatClampNeg (nI (gwn M i))) at e
        rw [ec] at e
        have hu : CH u' (grP M (i + 1)) := by
          rw [grP_s M i c3]
          subst e
          exact ch_up h (by omega) (by omega) (by omega)
        have ev : ga u' 19 (nI i).toNatClampNeg = nI (gwn M i) := by
          subst e
          rw [ec, ga_sw, if_pos rfl, upd_at, if_pos rfl]
        rw [ev, nI_eq (by omega) (by omega)]
        refine ⟨fun q y ey z ez => ?_, fun q y ey z ez => ?_⟩
        · rw [Int32.or_zero] at ey
          rw [nI_1] at ez
          rw [ey, ez]
          exact ih (i + 1) b u' (by omega) hb (fun c => by rw [sk2 q]; exact hz c) hu
        · rw [nI_1] at ez
          have e1 : b ||| 1 = 1 := by rcases hb with rfl | rfl <;> rfl
          rw [e1] at ey
          subst ey; subst ez
          exact ih (i + 1) 1 u' (by omega) (Or.inr rfl) (fun c => absurd c (by decide)) hu
      rw [e7]
      exact r_has (ok_comp ok) (by omega) (fun c4 => go 1 ⟨fun q => absurd q (by decide), fun q => by rw [c4] at q; exact absurd q (by decide)⟩) (fun c4 => go 0 ⟨fun _ => c4, fun _ => rfl⟩)
theorem r_growLeaves {M : MH} {u : St} {post : Int32 → St → Prop} (ok : okH M) (h : CH u M) (fin : ∀ (u : St) (b : Int32), bz b → (b = 0 → grw M = M) → CH u (grw M) → post b u) : qX2_growLeaves u post := ⟨_, grow_loop ok fin (M 2 0) 0 0 u (by omega) (Or.inl rfl) (fun _ => grP_0 M) (by rw [grP_0]; exact h)⟩
