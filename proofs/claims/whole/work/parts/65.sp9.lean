/-! STEPS 9: mend; fractions; share -/
theorem ok_up8 {M : MH} {s v : Nat} (ok : okH M) (hv : v ≤ 9) : okH (mp M 8 s v) := by
  obtain ⟨h0, h1, h2, h3, h4, h5, h6, h7, h8, h9, h10⟩ := ok
  refine ⟨h0, h1, h2, h3, h4, h5, h6, h7, fun q hq => ?_, h9, h10⟩
  have := h8 q hq
  refine ⟨?_, this.2⟩
  by_cases c : q = s
  · subst c
    rw [mp_eq]
    exact hv
  · rw [mp_ne (Or.inr c)]
    exact this.1
theorem men_setl {M : MH} {s v : Nat} (ok : okH M) (h : setl M) (h8 : M 8 s ≤ v) (hv : v ≤ 9) : setl (mp M 8 s v) := by
  refine (setl_iff (ok_up8 ok hv)).mpr (fun t ht c => ?_)
  refine stn_mono (M := M) (M' := mp M 8 s v) (fun _ => rfl) (fun _ q => q) (fun _ q => q) (t + 1) (fun r _ _ q => ?_) t (by omega) ((setl_iff ok).mp h t ht c)
  rw [lvAt_congr (M := M) (M' := mp M 8 s v) rfl (fun _ => rfl) (fun _ => rfl)]
  show M 9 r ≤ mp M 8 s v 8 r + lvAt M 0 r (M 2 0) / 5
  by_cases e : r = s
  · subst e
    rw [mp_eq]
    omega
  · rw [mp_ne (Or.inr e)]
    exact q
theorem sp_mend : SP_mend RR := fun x cs ms h => by
  obtain ⟨M, ok, hs, hc, hm, ht⟩ := rr_house h
  have hn := ok_ns ok
  have hr : ∀ v, RR (va_up (va_up cs 0 (si (cs 0) 0 v)) 5 (cs 5)) (si ms 2 v) := fun v => by
    rw [up_skip cs 0 5 _ (by decide)]
    exact rr_st h v
  refine r_isStone (n := M 0 0) (by omega) (ch_k hc (by omega)) (fun c => ⟨fun _ => ?_, fun c => absurd c (by decide)⟩) (fun c => ⟨fun c => absurd rfl c, fun _ => ?_⟩)
  · have mi : ∀ {post : Int32 → St → Prop}, post 1 ms → qX12_isStone x ms post := fun hp => m_isStone (n := M 0 0) (by omega) (mc_k hm (by omega)) (fun _ => hp) (fun c2 => absurd c c2)
    obtain ⟨s, hss, rfl⟩ := c.nat (by omega)
    have o8 := ok_s ok hss
    have e5 : ga ms 0 (5 : Int32).toNatClampNeg = nI (M 5 0) := mc_k (k := 5) hm (by omega)
    have ec : (nI s).toNatClampNeg = s := nI_clamp (by omega)
    have em : ga (cs 5) 8 s = nI (M 8 s) := ch_s hc (by omega) (by omega) hss
    have hv : vp_in (nI s) 8 := vp_in_nI (by omega) (by omega)
    have hv2 : vp_in (nI (10 + 3 * s)) 3072 := vp_in_nI (by omega) (by omega)
    have ec2 : (nI (10 + 3 * s)).toNatClampNeg = 10 + 3 * s := nI_clamp (by omega)
    have mf : ∀ {post : Int32 → St → Prop}, ((M 5 0).testBit s = true → post 1 ms) → ((M 5 0).testBit s = false → post 0 ms) → qX12_isIn (ga ms 0 (5 : Int32).toNatClampNeg) (nI s) ms post := fun a b => by
      rw [e5]
      exact m_isIn (ok_fallen ok) (by omega) a b
    refine r_hasFallen ok hc (by omega) (fun c2 => ⟨fun _ => ?_, fun c => absurd c (by decide)⟩) (fun c2 => ⟨fun c => absurd rfl c, fun _ => ⟨hv, ?_⟩⟩)
    · exact ⟨Or.inl rfl, fun c => absurd rfl c, fun _ => r_refuse (mi ⟨fun _ => mf (fun _ => ⟨fun _ => ⟨fun _ => m_refuse ⟨rfl, hr 7⟩, fun c => absurd rfl c⟩, fun c => absurd c (by decide)⟩) (fun c3 => absurd c2 (by rw [c3]; decide)), fun c => absurd c (by decide)⟩)⟩
    · rw [ec, em]
      by_cases c9 : M 8 s = 9
      · rw [c9]
        refine ⟨fun _ => ⟨Or.inl rfl, fun c => absurd rfl c, fun _ => r_refuse (mi ⟨fun _ => mf (fun c3 => absurd c3 (by rw [c2]; decide)) (fun _ => ⟨fun c => absurd rfl c, fun _ => m_stoneRow ⟨hv2, fun c => absurd ?_ c, fun _ => ⟨fun _ => m_refuse ⟨rfl, hr 7⟩, fun c => absurd rfl c⟩⟩⟩), fun c => absurd c (by decide)⟩)⟩, fun c => absurd (by decide) c⟩
        rw [ec2, (mc_st hm hss).1, c9]
        rfl
      · have n9 : ¬ nI (M 8 s) = (9 : Int32) := fun q => c9 ((nI_eq (b := 9) (by omega) (by omega)).mp q)
        refine ⟨fun q => absurd q (nI_ge (b := 9) (by omega) (by omega)), fun _ => ⟨Or.inr rfl, fun _ => ⟨hv, hv, fun u5 e5 => ⟨hv, ?_⟩⟩, fun c => absurd c (by decide)⟩⟩
        rw [em, nI_1] at e5
        subst e5
        refine r_answer (mi ⟨fun _ => mf (fun c3 => absurd c3 (by rw [c2]; decide)) (fun _ => ⟨fun c => absurd rfl c, fun _ => m_stoneRow ⟨hv2, fun _ => m_stoneRow ⟨hv2, hv2, fun m1 e1 => ⟨fun c => absurd c (by decide), fun _ => m_stoneRow ⟨hv2, m_gives ?_⟩⟩⟩, fun c => absurd c ?_⟩⟩), fun c => absurd c (by decide)⟩)
        · rw [ec2, (mc_st hm hss).1, nI_1] at e1
          subst e1
          refine ⟨?_, rr_new h ht (ok_up8 ok (v := M 8 s + 1) (s := s) (by omega)) (men_setl ok hs (by omega) (by omega)) (ch_up hc (by omega) (by omega) (by omega)) (mc_up8 ok hm hss) rfl rfl (mSame_upd _ _ (by omega) (by omega))⟩
          rw [ec2, ga_sw, if_pos rfl, upd_at, if_pos rfl, ga_sw, if_pos rfl, upd_at, if_pos rfl]
        · rw [ec2, (mc_st hm hss).1]
          exact n9
  · exact r_refuse (m_isStone (n := M 0 0) (by omega) (mc_k hm (by omega)) (fun c2 => absurd c2 c) (fun _ => ⟨fun c => absurd rfl c, fun _ => m_refuse ⟨rfl, hr 1⟩⟩))
theorem lN_zero {n : Nat} (h : n < 2 ^ 63) : lN n = 0 ↔ n = 0 := pk_lEQ (b := 0) h (by decide)
theorem lg_z (x y : Int64) : lg_cmp x y = 0 ↔ x = y := by
  have h1 := lg_cmp_le x y
  have h2 := lg_cmp_ge x y
  rw [i_le, l_le] at h1 h2
  rw [i_eq, ← Int64.toInt_inj]
  have e0 : (0 : Int32).toInt = 0 := rfl
  omega
theorem gcd_step (x y : Nat) : Nat.gcd x y = Nat.gcd y (x % y) := by
  rw [Nat.gcd_comm x y, Nat.gcd_rec y x, Nat.gcd_comm]
theorem mod_half {y r : Nat} (h0 : r ≠ 0) (h : r < y) : 2 * (y % r) < y := by
  have h1 := Nat.mod_lt y (by omega : r > 0)
  have h2 := Nat.div_add_mod y r
  have h3 : 1 ≤ y / r := (Nat.one_le_div_iff (by omega)).mpr (by omega)
  have h4 : r * 1 ≤ r * (y / r) := Nat.mul_le_mul_left r h3
  omega
theorem tell_loop {a b g : Nat} {u0 : St} {post : Int32 → St → Prop} (fin : qX11_tellFraction_b44 post (lN a) (lN b) (lN g) u0) : ∀ (k x y i : Nat), x < 2 ^ 62 → y < 2 ^ k → k ≤ 49 → i + 2 * k < 100 → Nat.gcd x y = g → qX11_tellFraction_L9 post (2 * k + 1) (lN a) (lN b) (lN x) (lN y) (nI i) u0 := by
  have e : ∀ (n x i : Nat), i < 100 → Nat.gcd x 0 = g → qX11_tellFraction_L9 post (n + 1) (lN a) (lN b) (lN x) (lN 0) (nI i) u0 := fun n x i hi hg => by
    rw [Nat.gcd_zero_right] at hg
    subst hg
    exact ⟨fun _ => fin, fun _ => ⟨fun _ => fin, fun c => absurd ((lg_z _ _).mpr rfl) c⟩⟩
  have st : ∀ (n x y i : Nat), x < 2 ^ 62 → y < 2 ^ 62 → y ≠ 0 → i < 100 → qX11_tellFraction_L9 post n (lN a) (lN b) (lN y) (lN (x % y)) (nI (i + 1)) u0 → qX11_tellFraction_L9 post (n + 1) (lN a) (lN b) (lN x) (lN y) (nI i) u0 := fun n x y i hx hy h0 hi hk => by
    refine ⟨fun c => absurd c (nI_ge (b := 100) hi (by omega)), fun _ => ⟨fun c => absurd ((lN_zero (by omega)).mp ((lg_z _ _).mp c)) h0, fun _ => ⟨fun c => h0 ((lN_zero (by omega)).mp c), fun z ez w ew => ?_⟩⟩⟩
    rw [pk_lRem (by omega) (by omega) (by omega)] at ez
    rw [nI_1] at ew
    subst ez; subst ew
    exact hk
  intro k
  induction k with
  | zero =>
    intro x y i hx hy hk hi hg
    have : y = 0 := by omega
    subst this
    exact e 0 x i (by omega) hg
  | succ k ih =>
    intro x y i hx hy hk hi hg
    have hp : 2 ^ k ≤ 2 ^ 48 := Nat.pow_le_pow_right (by decide) (by omega)
    rw [Nat.pow_succ] at hy
    by_cases h0 : y = 0
    · subst h0
      exact e _ x i (by omega) hg
    · rw [gcd_step] at hg
      have hr := Nat.mod_lt x (by omega : y > 0)
      refine st _ x y i hx (by omega) h0 (by omega) ?_
      by_cases h1 : x % y = 0
      · rw [h1] at hg ⊢
        exact e _ y (i + 1) (by omega) hg
      · have h2 := mod_half h1 hr
        rw [gcd_step] at hg
        exact st _ y (x % y) (i + 1) (by omega) (by omega) h1 (by omega) (ih (x % y) (y % (x % y)) (i + 2) (by omega) (by omega) (by omega) (by omega) hg)
theorem r_tell {a b : Nat} {u0 : St} {post : Int32 → St → Prop} (ha : a < 2 ^ 62) (hb : b < 2 ^ 49) (h0 : 0 < b) (h : post 1 (si (sj (sj u0 1 (lN (a / Nat.gcd a b))) 2 (lN (b / Nat.gcd a b))) 0 0)) : qX11_tellFraction (lN a) (lN b) u0 post := by
  have hg : 0 < Nat.gcd a b := Nat.gcd_pos_of_pos_right a h0
  have hl : Nat.gcd a b ≤ b := Nat.gcd_le_right a h0
  have nz : ¬ lg_cmp (lN (Nat.gcd a b)) 0 ≤ 0 := fun c => by
    rw [lg_cmp_le] at c
    have := (pk_lLE (b := 0) (by omega) (by omega)).mp c
    omega
  have nz2 : ¬ lN (Nat.gcd a b) = 0 := fun c => by
    have := (lN_zero (by omega)).mp c
    omega
  refine ⟨_, tell_loop (g := Nat.gcd a b) ⟨fun c => absurd c nz, fun _ => ⟨nz2, fun u e => ⟨fun c => absurd c nz, fun _ => ⟨nz2, fun v e2 => ?_⟩⟩⟩⟩ 49 a b 0 ha hb (by omega) (by omega) rfl⟩
  rw [pk_lDiv (by omega) hg (by omega)] at e e2
  subst e; subst e2
  exact r_grant ⟨Or.inr rfl, h⟩
theorem mtell_loop {a b g : Nat} {u0 : St} {post : Int32 → St → Prop} (fin : qX12_tellsBy_b31 post (lN a) (lN b) (lN g) u0) : ∀ (k x y : Nat), x < 2 ^ 62 → y < 2 ^ k → k ≤ 49 → Nat.gcd x y = g → qX12_tellsBy_L6 post (2 * k + 1) (lN a) (lN b) (lN x) (lN y) u0 := by
  have e : ∀ (n x : Nat), Nat.gcd x 0 = g → qX12_tellsBy_L6 post (n + 1) (lN a) (lN b) (lN x) (lN 0) u0 := fun n x hg => by
    rw [Nat.gcd_zero_right] at hg
    subst hg
    exact ⟨fun _ => fin, fun c => absurd ((lg_z _ _).mpr rfl) c⟩
  have st : ∀ (n x y : Nat), x < 2 ^ 62 → y < 2 ^ 62 → y ≠ 0 → qX12_tellsBy_L6 post n (lN a) (lN b) (lN y) (lN (x % y)) u0 → qX12_tellsBy_L6 post (n + 1) (lN a) (lN b) (lN x) (lN y) u0 := fun n x y hx hy h0 hk => by
    refine ⟨fun c => absurd ((lN_zero (by omega)).mp ((lg_z _ _).mp c)) h0, fun _ => ⟨fun c => h0 ((lN_zero (by omega)).mp c), fun z ez => ?_⟩⟩
    rw [pk_lRem (by omega) (by omega) (by omega)] at ez
    subst ez
    exact hk
  intro k
  induction k with
  | zero =>
    intro x y hx hy hk hg
    have : y = 0 := by omega
    subst this
    exact e 0 x hg
  | succ k ih =>
    intro x y hx hy hk hg
    have hp : 2 ^ k ≤ 2 ^ 48 := Nat.pow_le_pow_right (by decide) (by omega)
    rw [Nat.pow_succ] at hy
    by_cases h0 : y = 0
    · subst h0
      exact e _ x hg
    · rw [gcd_step] at hg
      have hr := Nat.mod_lt x (by omega : y > 0)
      refine st _ x y hx (by omega) h0 ?_
      by_cases h1 : x % y = 0
      · rw [h1] at hg ⊢
        exact e _ y hg
      · have h2 := mod_half h1 hr
        rw [gcd_step] at hg
        exact st _ y (x % y) (by omega) (by omega) h1 (ih (x % y) (y % (x % y)) (by omega) (by omega) (by omega) hg)
theorem m_tells {a b : Nat} {u0 : St} {post : Int32 → St → Prop} (ha : a < 2 ^ 62) (hb : b < 2 ^ 49) (h0 : 0 < b) (h : post 1 (si (sj (sj u0 3 (lN (a / Nat.gcd a b))) 4 (lN (b / Nat.gcd a b))) 2 0)) : qX12_tellsBy (lN a) (lN b) u0 post := by
  have hg : 0 < Nat.gcd a b := Nat.gcd_pos_of_pos_right a h0
  have hl : Nat.gcd a b ≤ b := Nat.gcd_le_right a h0
  have nz2 : ¬ lN (Nat.gcd a b) = 0 := fun c => by
    have := (lN_zero (by omega)).mp c
    omega
  refine ⟨_, mtell_loop (g := Nat.gcd a b) ⟨nz2, fun u e => ⟨nz2, fun v e2 => ?_⟩⟩ 49 a b ha hb (by omega) rfl⟩
  rw [pk_lDiv (by omega) hg (by omega)] at e e2
  subst e; subst e2
  exact m_is0 ⟨Or.inr rfl, h⟩
theorem rr_frac {cs : Nat → St} {ms : St} (h : RR cs ms) (t b : Int64) : RR (va_up cs 0 (si (sj (sj (cs 0) 1 t) 2 b) 0 0)) (si (sj (sj ms 3 t) 4 b) 2 0) := by
  obtain ⟨h1, h2, h3, h4, h5, h6, h7, h8⟩ := h
  exact ⟨rfl, ⟨rfl, rfl⟩, h3, h4, h5, h6, h7, h8⟩
theorem i_long {n : Nat} (h : n < 2 ^ 31) : (nI n).toInt64 = lN n := by
  rw [← Int64.toInt_inj, Int32.toInt_toInt64, nI_toInt h, pk_lT (by omega)]
theorem sumF_le {f : Nat → Nat} {b : Nat} : ∀ n, (∀ i, i < n → f i ≤ b) → sumF f n ≤ b * n := by
  intro n
  induction n with
  | zero => intro _; exact Nat.le_refl 0
  | succ n ih =>
    intro h
    have h1 := ih (fun i hi => h i (by omega))
    have h2 := h n (by omega)
    rw [sumF, Nat.mul_succ]
    omega
theorem allOwed_le {M : MH} (ok : okH M) : sumF (owd M) (M 2 0) ≤ 7686 := by
  have h1 := sumF_le (f := owd M) (b := 1098) (M 2 0) (fun i hi => owd_le ok hi)
  have h2 := ok_nd ok
  omega
theorem sp_share : SP_share RR := fun x cs ms h => by
  obtain ⟨M, ok, hs, hc, hm, ht⟩ := rr_house h
  have hn := ok_nd ok
  have ha := allOwed_le ok
  have hr : ∀ v, RR (va_up (va_up cs 0 (si (cs 0) 0 v)) 5 (cs 5)) (si ms 2 v) := fun v => by
    rw [up_skip cs 0 5 _ (by decide)]
    exact rr_st h v
  refine r_isDebt (n := M 2 0) (by omega) (ch_k hc (by omega)) (fun c => ⟨fun _ => ?_, fun c => absurd c (by decide)⟩) (fun c => ⟨fun c => absurd rfl c, fun _ => ?_⟩)
  · have mi : ∀ {post : Int32 → St → Prop}, post 1 ms → qX12_isDebt x ms post := fun hp => m_isDebt (n := M 2 0) (by omega) (mc_k hm (by omega)) (fun _ => hp) (fun c2 => absurd c c2)
    obtain ⟨d, hd, rfl⟩ := c.nat (by omega)
    have hod := owd_le ok hd
    refine r_allOwed ok hc ?_
    by_cases c0 : sumF (owd M) (M 2 0) = 0
    · rw [c0]
      refine ⟨fun c => absurd rfl c, fun _ => r_deny ⟨Or.inl rfl, mi ⟨fun _ => m_allOwed ok hm ?_, fun c => absurd c (by decide)⟩⟩⟩
      rw [c0]
      exact ⟨fun c => absurd rfl c, fun _ => m_is1 (by decide) ⟨Or.inl rfl, rfl, hr 6⟩⟩
    · have cn : ¬ nI (sumF (owd M) (M 2 0)) = 0 := fun q => c0 ((nI_eq (b := 0) (by omega) (by omega)).mp q)
      refine ⟨fun _ => r_owed ok hc hd ?_, fun c => absurd c cn⟩
      rw [i_long (by omega), i_long (by omega)]
      refine r_tell (by omega) (by omega) (by omega) ⟨Or.inr rfl, mi ⟨fun _ => m_allOwed ok hm ⟨fun _ => m_owedOf ok hm hd (m_allOwed ok hm ?_), fun c => absurd c cn⟩, fun c => absurd c (by decide)⟩⟩
      rw [i_long (by omega), i_long (by omega)]
      refine m_tells (by omega) (by omega) (by omega) ⟨Or.inr rfl, rfl, ?_⟩
      rw [up_skip cs 0 5 _ (by decide)]
      exact rr_frac h _ _
  · exact r_deny ⟨Or.inl rfl, m_isDebt (n := M 2 0) (by omega) (mc_k hm (by omega)) (fun c2 => absurd c2 c) (fun _ => ⟨fun c => absurd rfl c, fun _ => m_is1 (by decide) ⟨Or.inl rfl, rfl, hr 1⟩⟩)⟩
