/-! HOUSE RULES 5: mortar wears, years pass -/
/-- stones at which there are leaves -/
def cov (M : MH) : Nat → Nat
  | 0 => 0
  | d + 1 => if (M 6 0).testBit d = false ∧ M 19 d ≠ 0 then cov M d ||| 2 ^ M 18 d else cov M d
theorem cov_lt {M : MH} (ok : okH M) : ∀ n, n ≤ M 2 0 → cov M n < 2 ^ 8 := by
  intro n
  induction n with
  | zero => intro _; exact Nat.two_pow_pos 8
  | succ n ih =>
    intro hn
    have h1 := ih (by omega)
    have h2 := ok_d ok (d := n) (by omega)
    have h3 := ok_ns ok
    rw [cov]
    split
    · exact Nat.or_lt_two_pow h1 (Nat.pow_lt_pow_right (by decide) (by omega))
    · exact h1
theorem cov_bit (M : MH) (s : Nat) : ∀ n, ((cov M n).testBit s = true ↔ 0 < lvAt M 0 s n) := by
  intro n
  induction n with
  | zero => exact ⟨fun q => absurd q (by rw [cov, Nat.zero_testBit]; decide), fun q => absurd q (by rw [lvAt]; omega)⟩
  | succ n ih =>
    rw [cov, lvAt]
    have e0 : (0 : Nat).testBit n = false := Nat.zero_testBit n
    by_cases c : (M 6 0).testBit n = false ∧ M 19 n ≠ 0
    · rw [if_pos c, Nat.testBit_or, Bool.or_eq_true, ih, Nat.testBit_two_pow, decide_eq_true_iff]
      by_cases c2 : M 18 n = s
      · rw [if_pos ⟨c.1, e0, c2⟩]
        have := c.2
        omega
      · rw [if_neg (fun q => c2 q.2.2)]
        omega
    · rw [if_neg c, ih]
      split
      · rename_i q
        have : M 19 n = 0 := Classical.byContradiction (fun q2 => c ⟨q.1, q2⟩)
        omega
      · omega
theorem wear_loop2 {M : MH} {post : Int32 → St → Prop} (ok : okH M) (fin : ∀ (u : St) (b : Int32), bz b → (b = 0 → wer M = M) → CH u (wer M) → post b u) : ∀ (m i : Nat) (b : Int32) (u : St), i + m = M 0 0 → bz b → (b = 0 → weP M i = M) → CH u (weP M i) → qX2_wearMortar_L53 post (m + 1) (nI (cov M (M 2 0))) b (nI i) u := by
  have h8 := ok_ns ok
  have hcl := cov_lt ok (M 2 0) (Nat.le_refl _)
  intro m
  induction m with
  | zero =>
    intro i b u hi hb hz h
    have e0 : gi u 0 = nI (M 0 0) := ch_k h (by omega)
    have ei : i = M 0 0 := by omega
    subst ei
    exact ⟨fun _ => ⟨hb, fin u b hb hz h⟩, fun c => absurd (by rw [e0]; exact nI_le (by omega) (by omega)) c⟩
  | succ m ih =>
    intro i b u hi hb hz h
    have hs : i < M 0 0 := by omega
    have e0 : gi u 0 = nI (M 0 0) := ch_k h (by omega)
    have ec : (nI i).toNatClampNeg = i := nI_clamp (by omega)
    have os := ok_s ok hs
    have e8 : ga u 8 (nI i).toNatClampNeg = nI (M 8 i) := by rw [ec, ch_s h (by omega) (by omega) hs, weP_ge (Nat.le_refl _)]
    have hin : vp_in (nI i) 8 := vp_in_nI (by omega) (by omega)
    have sk : weP M (i + 1) = weP M i → qX2_wearMortar_b90 post (qX2_wearMortar_L53 post (m + 1)) (nI (cov M (M 2 0))) b (nI i) u := fun q z ez => by
      rw [nI_1] at ez
      subst ez
      exact ih (i + 1) b u (by omega) hb (fun c => by rw [q]; exact hz c) (by rw [q]; exact h)
    refine ⟨fun c => absurd c (by rw [e0]; exact nI_ge (by omega) (by omega)), fun _ => ?_⟩
    refine r_has (by omega) (by omega) (fun c => ⟨fun c => absurd c (by decide), fun _ => ⟨hin, ?_⟩⟩) (fun c => ⟨fun _ => sk (weP_p M i (fun q => by rw [← cov_bit, c] at q; exact absurd q (by decide))), fun c => absurd rfl c⟩)
    have hl := (cov_bit M i (M 2 0)).mp c
    rw [e8]
    refine ⟨fun c2 => sk ?_, fun c2 => ⟨hin, hin, fun u' e => ?_⟩⟩
    · rw [i_le, nI_toInt (by omega)] at c2
      have : (0 : Int32).toInt = 0 := rfl
      have e : M 8 i - 1 = weP M i 8 i := by rw [weP_ge (Nat.le_refl _)]; omega
      rw [weP_s M i hl, e, mp_same]
    · rw [ec, show nI (M 8 i) - 1 = nI (M 8 i - 1) from pk_sub (b := 1) (by
        apply Classical.byContradiction
        intro q
        exact c2 (by rw [show M 8 i = 0 by omega]; decide))] at e
      intro z ez
      rw [nI_1] at ez
      subst ez
      refine ih (i + 1) 1 u' (by omega) (Or.inr rfl) (fun c => absurd c (by decide)) ?_
      rw [weP_s M i hl]
      subst e
      exact ch_up h (by omega) (by omega) (by omega)
theorem wear_loop1 {M : MH} {u : St} {post : Int32 → St → Prop} (ok : okH M) (h : CH u M) (fin : qX2_wearMortar_b49 post (nI (cov M (M 2 0))) u) : ∀ (m i : Nat), i + m = M 2 0 → qX2_wearMortar_L4 post (m + 1) (nI (cov M i)) (nI i) u := by
  have h7 := ok_nd ok
  have h8 := ok_ns ok
  have e2 : gi u 2 = nI (M 2 0) := ch_k h (by omega)
  have e6 : gi u 6 = nI (M 6 0) := ch_k h (by omega)
  intro m
  induction m with
  | zero =>
    intro i hi
    have ei : i = M 2 0 := by omega
    subst ei
    exact ⟨fun _ => fin, fun c => absurd (by rw [e2]; exact nI_le (by omega) (by omega)) c⟩
  | succ m ih =>
    intro i hi
    have hd : i < M 2 0 := by omega
    have od := ok_d ok hd
    have ec : (nI i).toNatClampNeg = i := nI_clamp (by omega)
    have e19 : ga u 19 (nI i).toNatClampNeg = nI (M 19 i) := by rw [ec]; exact ch_d h (by omega) (by omega) hd
    have e18 : ga u 18 (nI i).toNatClampNeg = nI (M 18 i) := by rw [ec]; exact ch_d h (by omega) (by omega) hd
    have hin : vp_in (nI i) 7 := vp_in_nI (by omega) (by omega)
    have sk : cov M (i + 1) = cov M i → qX2_wearMortar_b43 post (qX2_wearMortar_L4 post (m + 1)) (nI (cov M i)) (nI i) u := fun q z ez => by
      rw [nI_1] at ez
      subst ez
      rw [← q]
      exact ih (i + 1) (by omega)
    refine ⟨fun c => absurd c (by rw [e2]; exact nI_ge (by omega) (by omega)), fun _ => ?_⟩
    rw [e6]
    refine r_has (ok_paid ok) (by omega) (fun c => ⟨fun _ => sk ?_, fun c => absurd c (by decide)⟩) (fun c => ⟨fun c => absurd rfl c, fun _ => ⟨hin, ?_⟩⟩)
    · rw [cov, if_neg (fun q => by rw [c] at q; exact absurd q.1 (by decide))]
    · rw [e19]
      refine ⟨fun c2 => sk ?_, fun c2 => ⟨hin, fun x ex z ez => ?_⟩⟩
      · rw [i_le, nI_toInt (by omega)] at c2
        have : (0 : Int32).toInt = 0 := rfl
        rw [cov, if_neg (fun q => by have := q.2; omega)]
      · have hne : M 19 i ≠ 0 := fun q => c2 (by rw [q]; decide)
        rw [e18, i_one (by omega), i_or] at ex
        rw [nI_1] at ez
        subst ex; subst ez
        have := ih (i + 1) (by omega)
        rw [cov, if_pos ⟨c, hne⟩] at this
        exact this
theorem r_wearMortar {M : MH} {u : St} {post : Int32 → St → Prop} (ok : okH M) (h : CH u M) (fin : ∀ (u : St) (b : Int32), bz b → (b = 0 → wer M = M) → CH u (wer M) → post b u) : qX2_wearMortar u post :=
  ⟨_, wear_loop1 ok h ⟨_, wear_loop2 ok fin (M 0 0) 0 0 u (by omega) (Or.inl rfl) (fun _ => weP_0 M) (by rw [weP_0]; exact h)⟩ (M 2 0) 0 (by omega)⟩
theorem yrs_4 (M : MH) : ∀ n, yrs M n 4 0 = M 4 0 := by
  intro n
  induction n with
  | zero => rfl
  | succ n ih => exact ih
theorem yrs_0 (M : MH) : ∀ n, yrs M n 0 0 = M 0 0 := by
  intro n
  induction n with
  | zero => rfl
  | succ n ih => exact ih
theorem yrs_1 (M : MH) : ∀ n, yrs M n 1 0 = M 1 0 := by
  intro n
  induction n with
  | zero => rfl
  | succ n ih => exact ih
theorem yrs_2 (M : MH) : ∀ n, yrs M n 2 0 = M 2 0 := by
  intro n
  induction n with
  | zero => rfl
  | succ n ih => exact ih
/-- the years are over -/
def yrN (M : MH) (n : Nat) : MH := mp (yrs M n) 4 0 (M 4 0 + n)
theorem yrN_ok {M : MH} (ok : okH M) (n : Nat) : okH (yrN M n) := ok_mp4 (yrs_ok ok n) _
theorem yrN_setl {M : MH} (h : setl M) (n : Nat) : setl (yrN M n) := setl_mp4 (yrs_setl h n) _
theorem yrN_0 (M : MH) : yrN M 0 = M := mp_same M 4 0
theorem mp4_inj {A B : MH} {v w : Nat} (ha : A 4 0 = w) (hb : B 4 0 = w) (h : mp A 4 0 v = mp B 4 0 v) : A = B := by
  have h1 : mp (mp A 4 0 v) 4 0 w = mp (mp B 4 0 v) 4 0 w := by rw [h]
  rw [mp_mp, mp_mp] at h1
  have h2 := mp_same A 4 0
  have h3 := mp_same B 4 0
  rw [ha] at h2
  rw [hb] at h3
  rw [← h2, ← h3]
  exact h1
theorem pass_loop {M : MH} {N Y : Nat} {post : St → Prop} (ok : okH M) (st : setl M) (hN : N < 2 ^ 31) (fin : ∀ u, CH u (mp (yrs M N) 4 0 Y) → post u) : ∀ (m i : Nat) (b : Int32) (u : St), i + m = N → (b = 0 → ∀ k, yrs M (i + k) = yrs M i) → CH u (mp (yrs M i) 4 0 Y) → qX2_passYears_L14 post (m + 1) (nI N) b (nI i) u := by
  intro m
  induction m with
  | zero =>
    intro i b u hi hb h
    have ei : i = N := by omega
    subst ei
    exact ⟨fun _ => fin u h, fun c => absurd (nI_le (by omega) (by omega)) c⟩
  | succ m ih =>
    intro i b u hi hb h
    refine ⟨fun c => absurd c (nI_ge (by omega) (by omega)), fun _ => ⟨fun c => ?_, fun _ => ?_⟩⟩
    · have := hb c (m + 1)
      rw [hi] at this
      exact fin u (by rw [this]; exact h)
    · have ok' : okH (mp (yrs M i) 4 0 Y) := ok_mp4 (yrs_ok ok i) Y
      have st' : setl (mp (yrs M i) 4 0 Y) := setl_mp4 (yrs_setl st i) Y
      have ey : yr0 (mp (yrs M i) 4 0 Y) = mp (yrs M (i + 1)) 4 0 Y := mp4_yr _ _
      have y4 := yrs_4 M i
      have y4' := yrs_4 M (i + 1)
      generalize hA : mp (yrs M i) 4 0 Y = A at h ok' st' ey
      refine r_growLeaves ok' h (fun u1 b1 z1 n1 h1 => r_wearMortar (M := grw A) (grP_ok ok' _) h1 (fun u2 b2 z2 n2 h2 => ?_))
      have nx : ∀ (c : Int32) (v : St), (c = 0 → ∀ k, yrs M (i + 1 + k) = yrs M (i + 1)) → CH v (yr0 A) → qX2_passYears_b60 post (qX2_passYears_L14 post (m + 1)) (nI N) c (nI i) v := fun c v hc hv z ez => by
        rw [nI_1] at ez
        subst ez
        exact ih (i + 1) c v (by omega) hc (by rw [← ey]; exact hv)
      have q0 : b2 = 0 → yr0 A = grw A := fun c => by
        unfold yr0
        rw [n2 c]
        exact fal_same (grP_ok ok' _) (gr_setl ok' st')
      have go : ∀ (c : Int32), (c = 0 → ∀ k, yrs M (i + 1 + k) = yrs M (i + 1)) → qX2_passYears_b50 post (qX2_passYears_L14 post (m + 1)) (nI N) (nI i) b2 c u2 := fun c hc => by
        refine ⟨fun c2 => nx c u2 hc ?_, fun c2 => r_settle (weP_ok (grP_ok ok' _) _) h2 (fun v hv => nx c v hc hv)⟩
        rw [q0 c2, ← n2 c2]
        exact h2
      refine ⟨fun c => go 1 (fun c => absurd c (by decide)), fun c => ⟨fun c2 => go 0 (fun _ => ?_), fun c2 => go 1 (fun c => absurd c (by decide))⟩⟩
      have e1 : yr0 A = A := (q0 c2).trans (n1 c)
      rw [ey, ← hA] at e1
      have e2 : yrs M (i + 1) = yrs M i := mp4_inj y4' y4 e1
      exact yrs_stop (by rw [e2]; exact e2)
theorem r_passYears {M : MH} {N : Nat} {u : St} {post : St → Prop} (ok : okH M) (st : setl M) (hN : N < 2 ^ 31) (h : CH u M) (fin : ∀ u, CH u (yrN M N) → post u) : qX2_passYears (nI N) u post := fun v ev => by
  rw [ch_k h (by omega), nI_add] at ev
  exact ⟨_, pass_loop ok st hN fin N 0 1 v (by omega) (fun c => absurd c (by decide)) (by subst ev; exact ch_si h (by omega) (by omega))⟩
theorem myear_loop2 {M : MH} {u0 : St} {post : Int32 → St → Prop} (ok : okH M) (fin : ∀ u, MC u (wer M) → mSame u0 u → qX12_yearGoes_b139 post u) : ∀ (m i : Nat) (u : St), i + m = M 0 0 → MC u (weP M i) → mSame u0 u → qX12_yearGoes_L90 post (m + 1) (nI i) u := by
  have h8 := ok_ns ok
  intro m
  induction m with
  | zero =>
    intro i u hi h hk
    have e0 : ga u 0 (0 : Int32).toNatClampNeg = nI (M 0 0) := mc_k (k := 0) h (by omega)
    have ei : i = M 0 0 := by omega
    subst ei
    exact ⟨fun _ => fin u h hk, fun c => absurd (by rw [e0]; exact nI_le (by omega) (by omega)) c⟩
  | succ m ih =>
    intro i u hi h hk
    have hs : i < M 0 0 := by omega
    have e0 : ga u 0 (0 : Int32).toNatClampNeg = nI (M 0 0) := mc_k (k := 0) h (by omega)
    have os := ok_s ok hs
    have ll := lvAt_le7 ok 0 i
    refine ⟨fun c => absurd c (by rw [e0]; exact nI_ge (by omega) (by omega)), fun _ => ?_⟩
    refine m_leavesAt (g := 0) (weP_ok ok i) (by omega) (by omega) h ?_
    rw [lv_we, show weP M i 2 0 = M 2 0 from rfl]
    refine ⟨fun c z ez => ?_, fun c => m_stoneRow (m_stoneRow ⟨vp_in_nI (by omega) (by omega), vp_in_nI (by omega) (by omega), fun u' e z ez => ?_⟩)⟩
    · rw [i_le, nI_toInt (by omega)] at c
      have : (0 : Int32).toInt = 0 := rfl
      rw [nI_1] at ez
      subst ez
      exact ih (i + 1) u (by omega) (by rw [weP_p M i (by omega)]; exact h) hk
    · have hl : 0 < lvAt M 0 i (M 2 0) := by
        apply Classical.byContradiction
        intro q
        exact c (by rw [show lvAt M 0 i (M 2 0) = 0 by omega]; decide)
      have e8 : ga u 0 (nI (10 + 3 * i)).toNatClampNeg = nI (M 8 i) := by
        rw [nI_clamp (by omega), (mc_st h hs).1, weP_ge (Nat.le_refl _)]
      have ev : (if (0 : Int32) < nI (M 8 i) - 1 then nI (M 8 i) - 1 else 0) = nI (M 8 i - 1) := by
        by_cases q : M 8 i = 0
        · rw [q]; decide
        · rw [show nI (M 8 i) - 1 = nI (M 8 i - 1) from pk_sub (b := 1) (by omega)]
          by_cases q2 : M 8 i - 1 = 0
          · rw [q2]; decide
          · rw [if_pos (show (0 : Int32) < nI (M 8 i - 1) from nI_lt (a := 0) (by omega) (by omega))]
      rw [e8, ev, nI_clamp (by omega)] at e
      rw [nI_1] at ez
      subst ez
      refine ih (i + 1) u' (by omega) ?_ (hk.trans ?_)
      · rw [weP_s M i hl]
        subst e
        exact mc_up8 (weP_ok ok i) h hs
      · subst e
        exact mSame_upd _ _ (by omega) (by omega)
theorem myear_loop1 {M : MH} {u0 : St} {post : Int32 → St → Prop} (ok : okH M) (fin : ∀ u, MC u (grw M) → mSame u0 u → qX12_yearGoes_b88 post u) : ∀ (m i : Nat) (u : St), i + m = M 2 0 → MC u (grP M i) → mSame u0 u → qX12_yearGoes_L2 post (m + 1) (nI i) u := by
  have h7 := ok_nd ok
  intro m
  induction m with
  | zero =>
    intro i u hi h hk
    have e0 : ga u 0 (2 : Int32).toNatClampNeg = nI (M 2 0) := mc_k (k := 2) h (by omega)
    have ei : i = M 2 0 := by omega
    subst ei
    exact ⟨fun _ => fin u h hk, fun c => absurd (by rw [e0]; exact nI_le (by omega) (by omega)) c⟩
  | succ m ih =>
    intro i u hi h hk
    have hd : i < M 2 0 := by omega
    have e0 : ga u 0 (2 : Int32).toNatClampNeg = nI (M 2 0) := mc_k (k := 2) h (by omega)
    have od := ok_d ok hd
    obtain ⟨d0, d1, d2, d3, d4, d5, d6⟩ := mc_d h hd
    refine ⟨fun c => absurd c (by rw [e0]; exact nI_ge (by omega) (by omega)), fun _ => ?_⟩
    refine m_isPaidUp (grP_ok ok i) h (by omega) (fun c => ⟨fun c => absurd c (by decide), fun _ z ez => ?_⟩) (fun c => ⟨fun _ => m_debtRow ?_, fun c => absurd rfl c⟩)
    · rw [nI_1] at ez
      subst ez
      exact ih (i + 1) u (by omega) (by rw [grP_p M i c]; exact h) hk
    · have E : ∀ j : Nat, nI (39 + 7 * i) + nI j = nI (39 + 7 * i + j) := fun j => nI_add _ _
      have E2 : nI (39 + 7 * i) + 2 = nI (41 + 7 * i) := (E 2).trans (by rw [show 39 + 7 * i + 2 = 41 + 7 * i by omega])
      have E3 : nI (39 + 7 * i) + 3 = nI (42 + 7 * i) := (E 3).trans (by rw [show 39 + 7 * i + 3 = 42 + 7 * i by omega])
      have E4 : nI (39 + 7 * i) + 4 = nI (43 + 7 * i) := (E 4).trans (by rw [show 39 + 7 * i + 4 = 43 + 7 * i by omega])
      have E6 : nI (39 + 7 * i) + 6 = nI (45 + 7 * i) := (E 6).trans (by rw [show 39 + 7 * i + 6 = 45 + 7 * i by omega])
      rw [E2, E3, E4, E6, nI_clamp (n := 41 + 7 * i) (by omega), nI_clamp (n := 42 + 7 * i) (by omega), nI_clamp (n := 43 + 7 * i) (by omega), nI_clamp (n := 45 + 7 * i) (by omega), d2, d3, d4, d6, grP_ge (Nat.le_refl _)]
      refine ⟨vp_in_nI (by omega) (by omega), vp_in_nI (by omega) (by omega), vp_in_nI (by omega) (by omega), vp_in_nI (by omega) (by omega), ?_⟩
      have go : ∀ f : Int32, (f = 0 ↔ (M 7 0).testBit i = false) → qX12_yearGoes_b78 post (qX12_yearGoes_L2 post (m + 1)) (nI i) f (nI (M 17 i)) (nI (M 19 i)) (nI (M 16 i)) (nI (45 + 7 * i)) u := fun f hf => by
        refine m_grown ((M 7 0).testBit i) (by omega) (by omega) (by omega) hf ⟨vp_in_nI (by omega) (by omega), fun u' e z ez => ?_⟩
        change u' = sw u 0 (upd (ga u 0) (nI (45 + 7 * i)).toNatClampNeg (nI (gwn M i))) at e
        rw [nI_clamp (by omega)] at e
        rw [nI_1] at ez
        subst ez
        refine ih (i + 1) u' (by omega) ?_ (hk.trans ?_)
        · rw [grP_s M i c]
          subst e
          exact mc_up19 (grP_ok ok i) h hd
        · subst e
          exact mSame_upd _ _ (by omega) (by omega)
      rw [show grP M i 7 0 = M 7 0 from rfl]
      cases e7 : (M 7 0).testBit i with
      | true => exact ⟨fun c => absurd rfl c, fun _ => go 1 ⟨fun q => absurd q (by decide), fun q => by rw [e7] at q; exact absurd q (by decide)⟩⟩
      | false => exact ⟨fun _ => go 0 ⟨fun _ => e7, fun _ => rfl⟩, fun c => absurd c (by decide)⟩
theorem m_yearGoes {M : MH} {u : St} {post : Int32 → St → Prop} (ok : okH M) (h : MC u M) (fin : ∀ u', MC u' (mp (yr0 M) 4 0 (M 4 0 + 1)) → mSame u u' → post (nI (pc (yr0 M 5 0)) - nI (pc (M 5 0))) u') : qX12_yearGoes u post := by
  refine ⟨_, myear_loop1 (u0 := u) ok (fun u1 h1 k1 => ⟨_, myear_loop2 (M := grw M) (u0 := u) (grP_ok ok _) (fun u2 h2 k2 v ev => ?_) (grw M 0 0) 0 u1 (by omega) (by rw [weP_0]; exact h1) k1⟩) (M 2 0) 0 u (by omega) (by rw [grP_0]; exact h) mSame.rfl⟩
  have ok2 : okH (wer (grw M)) := weP_ok (grP_ok ok _) _
  have e4 : ga u2 0 (4 : Int32).toNatClampNeg = nI (M 4 0) := mc_k (k := 4) h2 (by omega)
  rw [e4, nI_1] at ev
  have hv : MC v (mp (wer (grw M)) 4 0 (M 4 0 + 1)) := by subst ev; exact mc_up4 ok2 h2
  have kv : mSame u2 v := by subst ev; exact mSame_upd _ _ (by decide) (by decide)
  have ey : fal (mp (wer (grw M)) 4 0 (M 4 0 + 1)) = mp (yr0 M) 4 0 (M 4 0 + 1) := mp4_fal _ _
  have := fun u3 h3 k3 => fin u3 (by rw [← ey]; exact h3) (k2.trans (kv.trans k3))
  refine m_falling (ok_mp4 ok2 _) hv (fun u3 h3 k3 => ?_)
  have q := this u3 h3 k3
  rw [ey]
  exact q
theorem i_tel (a b c : Int32) : (a - c) + (b - a) = b - c := by grind
theorem myears_loop {M : MH} {u0 : St} {N : Nat} {post : Int32 → St → Prop} (ok : okH M) (hN : N < 2 ^ 31) (fin : ∀ u', MC u' (yrN M N) → mSame u0 u' → post (nI (pc (yrs M N 5 0)) - nI (pc (M 5 0))) u') : ∀ (m i : Nat) (u : St), i + m = N → MC u (yrN M i) → mSame u0 u → qX12_yearsGo_L4 post (m + 1) (nI N) (nI (pc (yrs M i 5 0)) - nI (pc (M 5 0))) (nI i) u := by
  intro m
  induction m with
  | zero =>
    intro i u hi h hk
    have ei : i = N := by omega
    subst ei
    exact ⟨fun _ => fin u h hk, fun c => absurd (nI_le (by omega) (by omega)) c⟩
  | succ m ih =>
    intro i u hi h hk
    refine ⟨fun c => absurd c (nI_ge (by omega) (by omega)), fun _ => m_yearGoes (yrN_ok ok i) h (fun u' h' k' x ex z ez => ?_)⟩
    have e1 : yr0 (yrN M i) = mp (yrs M (i + 1)) 4 0 (M 4 0 + i) := mp4_yr _ _
    have e2 : yrN M i 4 0 = M 4 0 + i := rfl
    rw [e1, e2, mp_mp] at h'
    rw [e1, show mp (yrs M (i + 1)) 4 0 (M 4 0 + i) 5 0 = yrs M (i + 1) 5 0 from rfl, show yrN M i 5 0 = yrs M i 5 0 from rfl, i_tel] at ex
    rw [nI_1] at ez
    subst ex; subst ez
    exact ih (i + 1) u' (by omega) h' (hk.trans k')
theorem m_yearsGo {M : MH} {u : St} {N : Nat} {post : Int32 → St → Prop} (ok : okH M) (hN : N < 2 ^ 31) (h : MC u M) (fin : ∀ u', MC u' (yrN M N) → mSame u u' → post (nI (pc (yrs M N 5 0)) - nI (pc (M 5 0))) u') : qX12_yearsGo (nI N) u post := by
  have := myears_loop ok hN fin N 0 u (by omega) (by rw [yrN_0]; exact h) mSame.rfl
  rw [show yrs M 0 = M from rfl, show nI (pc (M 5 0)) - nI (pc (M 5 0)) = 0 by grind] at this
  exact ⟨_, this⟩
theorem yrs_sub {M : MH} (ok : okH M) (s : Nat) (h : (M 5 0).testBit s = true) : ∀ n, (yrs M n 5 0).testBit s = true := by
  intro n
  induction n with
  | zero => exact h
  | succ n ih => exact fal_sub (weP_ok (grP_ok (yrs_ok ok n) _) _) s ih
theorem pcF_xor : ∀ (n a b : Nat), (∀ s, a.testBit s = true → b.testBit s = true) → pcF n (b ^^^ a) + pcF n a = pcF n b := by
  intro n
  induction n with
  | zero => intro a b _; rfl
  | succ n ih =>
    intro a b h
    have h1 := ih (a / 2) (b / 2) (fun s q => by rw [← Nat.testBit_succ] at q ⊢; exact h _ q)
    have h2 : (b ^^^ a) / 2 = b / 2 ^^^ a / 2 := Nat.xor_div_two
    have h3 : (b ^^^ a) % 2 = (b % 2 + a % 2) % 2 := by
      have t := Nat.testBit_xor b a 0
      rw [Nat.testBit_zero, Nat.testBit_zero, Nat.testBit_zero] at t
      rcases Nat.mod_two_eq_zero_or_one a with qa | qa <;> rcases Nat.mod_two_eq_zero_or_one b with qb | qb <;> rcases Nat.mod_two_eq_zero_or_one (b ^^^ a) with qc | qc <;> simp [qa, qb, qc] at t ⊢
    have h4 : a % 2 = 1 → b % 2 = 1 := fun q => by
      have := h 0
      rw [Nat.testBit_zero, Nat.testBit_zero, decide_eq_true_iff, decide_eq_true_iff] at this
      exact this q
    rw [pcF, pcF, pcF, h2, h3]
    omega
theorem pc_xor {a b : Nat} (h : ∀ s, a.testBit s = true → b.testBit s = true) : nI (pc (b ^^^ a)) = nI (pc b) - nI (pc a) := by
  have := pcF_xor 20 a b h
  change pc (b ^^^ a) + pc a = pc b at this
  rw [← this, pk_sub (by omega), Nat.add_sub_cancel]
theorem sp_year : SP_year RR := fun x cs ms h => by
  obtain ⟨M, ok, st, hc, hm, ht⟩ := rr_house h
  have hr : ∀ v, RR (va_up (va_up cs 0 (si (cs 0) 0 v)) 5 (cs 5)) (si ms 2 v) := fun v => by
    rw [up_skip cs 0 5 _ (by decide)]
    exact rr_st h v
  have e4 : ga ms 0 (4 : Int32).toNatClampNeg = gi (cs 5) 4 := (mc_k (k := 4) hm (by omega)).trans (ch_k hc (by omega)).symm
  refine r_within 1 99 rfl rfl (fun p q => ⟨fun _ => ⟨fun c y ey => ?_, fun c => r_refuse ?_⟩, fun c => absurd c (by decide)⟩) (fun p => ⟨fun c => absurd rfl c, fun _ => r_refuse ?_⟩)
  · obtain ⟨N, hN, rfl, -⟩ := i_nat (n := 99) (by omega) q
    rw [ch_k hc (by omega)] at ey
    subst ey
    refine r_passYears ok st (by omega) hc (fun u5 h5 => ?_)
    have e5 : gi u5 5 = nI (yrs M N 5 0) := ch_k h5 (by omega)
    rw [e5, i_xor]
    have f1 := ok_f8 ok
    have f2 := ok_f8 (yrs_ok ok N)
    refine r_bitCount (Nat.xor_lt_two_pow (n := 8) f2 f1) (r_answer (m_isFrom 1 99 rfl rfl (fun _ _ => ⟨fun _ => ⟨fun _ => ?_, fun c2 => absurd (by rw [e4]; exact c) c2⟩, fun c => absurd c (by decide)⟩) (fun r => absurd r (by omega))))
    refine m_yearsGo ok (by omega) hm (fun u' h' k' => m_gives ⟨?_, rr_new h ht (yrN_ok ok N) (yrN_setl st N) h5 h' (yrs_0 M N) (yrs_1 M N) k'⟩)
    exact pc_xor (fun s q => yrs_sub ok s q N)
  · exact m_isFrom 1 99 rfl rfl (fun _ _ => ⟨fun _ => ⟨fun c2 => absurd (by rw [← e4]; exact c2) c, fun _ => m_refuse ⟨rfl, hr 4⟩⟩, fun c => absurd c (by decide)⟩) (fun r => absurd r (by omega))
  · exact m_isFrom 1 99 rfl rfl (fun a b => absurd p (by omega)) (fun _ => ⟨fun c => absurd rfl c, fun _ => m_refuse ⟨rfl, hr 1⟩⟩)
