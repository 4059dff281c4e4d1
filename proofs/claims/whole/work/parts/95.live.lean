/-! STEPS 30: live, mean -/
theorem hseB.trans {A B C : MH} (h : hseB A B) (q : hseB B C) : hseB A C := ⟨q.1, q.2.1, q.2.2.1.trans h.2.2.1, q.2.2.2.1.trans h.2.2.2.1, q.2.2.2.2.1.trans h.2.2.2.2.1, fun s w => q.2.2.2.2.2 s (h.2.2.2.2.2 s w)⟩
theorem run_B {M N : MH} {n : Nat} (hT : okT M N n) : ∀ (m k : Nat) (lp : Nat → Nat) (A : MH) (d : Nat) (ms yr sp : Int32), okH A → setl A → A 0 0 = M 0 0 → A 1 0 = M 1 0 → d < 65536 → hseB A (runA N n m k lp A d ms yr sp).1 := by
  intro m
  induction m with
  | zero => intro k lp A d ms yr sp ok st h0 h1 hd; exact hseB.rfl ok st
  | succ m ih =>
    intro k lp A d ms yr sp ok st h0 h1 hd
    rw [runA]
    by_cases c : n ≤ k
    · rw [if_pos c]
      exact hseB.rfl ok st
    · rw [if_neg c]
      by_cases c6 : N 0 k = 6
      · rw [if_pos c6]
        exact hseB.rfl ok st
      · rw [if_neg c6]
        obtain ⟨hB, hdd⟩ := act_B (k := N 0 k) (a := N 1 k) (b := N 2 k) ok st hd (tm_act hT (by omega) h0 h1)
        exact hB.trans (ih _ _ _ _ _ _ _ hB.1 hB.2.1 (hB.2.2.1.trans h0) (hB.2.2.2.1.trans h1) hdd)
theorem lives_0 {u : St} {post : St → Prop} (fin : ∀ g, (∀ j, j < 5 → g j = 0) → qX12_lives_b30 post (sw u 36 g)) : ∀ (m i : Nat) (g : Nat → Int32), i + m = 5 → (∀ j, j < i → g j = 0) → qX12_lives_L12 post (m + 1) (nI i) (sw u 36 g) := by
  intro m
  induction m with
  | zero =>
    intro i g hi hg
    have : i = 5 := by omega
    subst this
    exact ⟨fun _ => fin g hg, fun c => absurd (by decide) c⟩
  | succ m ih =>
    intro i g hi hg
    refine ⟨fun c => absurd c (nI_ge (b := 5) (by omega) (by omega)), fun _ => ⟨vp_in_nI (by omega) (by omega), fun u' e z ez => ?_⟩⟩
    rw [nI_clamp (by omega), sw_sw, ga_sw, if_pos rfl] at e
    rw [nI_1] at ez
    subst e; subst ez
    refine ih (i + 1) _ (by omega) (fun j hj => ?_)
    rw [upd_at]
    by_cases c : j = i
    · rw [if_pos c]
    · rw [if_neg c]
      exact hg j (by omega)
theorem m_lives {M N : MH} {n seed : Nat} {u : St} {post : St → Prop} (hT : okT M N n) (ht : tmA (ga u 0) N n) (ok : okH M) (st : setl M) (h : MC u M) (hs : seed < 65536) (fin : ∀ u' d', MC u' (runA N n 300 0 (fun _ => 0) M seed 0 0 0).1 → FrL u u' → lfM u' (300 - (runA N n 300 0 (fun _ => 0) M seed 0 0 0).2.2.2.2.1) d' (runA N n 300 0 (fun _ => 0) M seed 0 0 0).2.1 (runA N n 300 0 (fun _ => 0) M seed 0 0 0).2.2.1 (runA N n 300 0 (fun _ => 0) M seed 0 0 0).2.2.2.1 (nI (pc ((runA N n 300 0 (fun _ => 0) M seed 0 0 0).1 5 0)) - nI (pc (M 5 0))) (bI (runA N n 300 0 (fun _ => 0) M seed 0 0 0).2.2.2.2.2) → post u') : qX12_lives (nI seed) u post := fun u1 e1 u2 e2 => by
  have h0 : 0 < n → N 0 0 ≠ 13 := fun hn q => by
    have := (tm_e hT hn q).1
    omega
  have g2 : ga u2 0 = ga u 0 := by rw [e2, e1]; rfl
  have := lives_0 (u := u2) (post := post) (fun g hg => ⟨301, m_runL (c := nI (pc (M 5 0))) (u00 := u) hT ht 300 0 (fun _ => 0) M seed 0 0 0 0 (sw u2 36 g) rfl (Nat.zero_le _) h0 ok st rfl rfl hs (by rw [e2, e1]; exact h) (by rw [e2, e1]; exact FrL.rfl) ⟨by rw [e2]; rfl, by rw [e2, e1]; rfl, hg 0 (by omega), hg 1 (by omega), hg 2 (by omega), (hg 3 (by omega)).trans (by grind), hg 4 (by omega)⟩ (fun o _ _ h3 => absurd h3 (by omega)) fin⟩) 5 0 (ga u2 36) (by omega) (fun j hj => absurd hj (by omega))
  rw [sw_same] at this
  exact ⟨_, this⟩
/-- the times of both -/
theorem tr_tm {t : St} {a : Nat → Int32} {M : MH} (h : TR t a 0 M) : (gi t 0 = 0 ∧ a 7 = -1) ∨ (gi t 0 = 1 ∧ ∃ n N, okT M N n ∧ tmC t N n ∧ tmA a N n) := by
  rcases h with ⟨h, h'⟩ | ⟨h, n, N, ho, h2, h3, h4⟩
  · exact Or.inl ⟨h, h'⟩
  · refine Or.inr ⟨h, n, N, ho, ⟨h2, fun i hi => ?_⟩, ⟨h3, fun i hi => ?_⟩⟩
    · obtain ⟨b1, b2, b3, b4, b5, b6⟩ := h4 i hi
      exact ⟨b1, fun q1 q2 q3 => (b3 q1 q2 q3).1, fun q => (b4 q).1, fun q => (b5 q).1, fun q => (b6 q).1⟩
    · obtain ⟨b1, b2, b3, b4, b5, b6⟩ := h4 i hi
      exact ⟨b2, fun q1 q2 q3 => (b3 q1 q2 q3).2, fun q => (b4 q).2, fun q => (b5 q).2, fun q => (b6 q).2⟩
theorem live_t {u : St} {post : Int32 → St → Prop} (fin : qX12_live_b66 post (sw u 37 (cpR (ga u 36) (ga u 37) 5))) : ∀ (m i : Nat), i + m = 5 → qX12_live_L43 post (m + 1) (nI i) (sw u 37 (cpR (ga u 36) (ga u 37) i)) := by
  intro m
  induction m with
  | zero =>
    intro i hi
    have : i = 5 := by omega
    subst this
    exact ⟨fun _ => fin, fun c => absurd (by decide) c⟩
  | succ m ih =>
    intro i hi
    refine ⟨fun c => absurd c (nI_ge (b := 5) (by omega) (by omega)), fun _ => ⟨vp_in_nI (by omega) (by omega), vp_in_nI (by omega) (by omega), fun u' e z ez => ?_⟩⟩
    rw [nI_clamp (by omega), sw_sw, ga_sw, if_pos rfl] at e
    rw [nI_1] at ez
    have e' : u' = sw u 37 (cpR (ga u 36) (ga u 37) (i + 1)) := by
      rw [e, ← cpR_s]
      rfl
    subst e'; subst ez
    exact ih (i + 1) (by omega)
theorem rr_life {cs : Nat → St} {ms ms0 u5 ul : St} {M M' : MH} {g : Nat → Int32} (h : RR cs ms) (ht : TR (cs 7) (ga ms 0) 0 M) (ok : okH M') (st : setl M') (hc : CH u5 M') (hm : MC ms0 M') (h0 : M' 0 0 = M 0 0) (h1 : M' 1 0 = M 1 0) (hk : FrL ms ms0) (hl : LifeR ul 1 g) : RR (va_up (va_up (va_up (va_up cs 0 (si (cs 0) 0 0)) 5 u5) 7 (cs 7)) 16 ul) (si (si (sw ms0 37 g) 38 1) 2 0) := by
  have q := rr_put h (M' := M') (u5 := u5) (ms1 := si ms0 2 0) (v := 0) ok st hc hm (TR_congr h0 h1 hk.2.2 (fun j w1 w2 => by rw [Nat.mul_zero, Nat.zero_add]; exact hk.2.1 j w1 (by omega)) ht) hk.1 rfl (fun j w1 w2 => hk.2.1 j (by omega) (by omega))
  obtain ⟨r1, r2, r3, r4, r5, r6, r7, r8⟩ := q
  exact ⟨r1, r2, r3, r4, r5, r6, r7, hl⟩
theorem rr_same4 {cs : Nat → St} {ms : St} (h : RR cs ms) (v : Int32) : RR (va_up (va_up (va_up (va_up cs 0 (si (cs 0) 0 v)) 5 (cs 5)) 7 (cs 7)) 16 (cs 16)) (si ms 2 v) := by
  obtain ⟨r1, r2, r3, r4, r5, r6, r7, r8⟩ := h
  exact ⟨rfl, r2, r3, r4, r5, r6, r7, r8⟩
theorem bI_bz (c : Bool) : bz (bI c) := by cases c with | true => exact Or.inr rfl | false => exact Or.inl rfl
theorem sp_live : SP_live RR := fun x cs ms h => by
  obtain ⟨M, ok, st, hc, hm, ht⟩ := rr_house h
  refine r_within 0 9999 rfl rfl (fun p q => ⟨fun _ => ?_, fun c => absurd c (by decide)⟩) (fun p => ⟨fun c => absurd rfl c, fun _ => r_refuse (m_isFrom 0 9999 rfl rfl (fun _ _ => absurd p (by omega)) (fun _ => ⟨fun c => absurd rfl c, fun _ => m_refuse ⟨rfl, rr_same4 h 1⟩⟩))⟩)
  obtain ⟨seed, hs, rfl, -⟩ := i_nat (n := 9999) p q
  have mi : ∀ {post : Int32 → St → Prop}, ((¬ (ga ms 0 ((7 : Int32)).toNatClampNeg) = (-1 : Int32) → qX12_lives (nI seed) ms (fun u_28 => ∃ n_30 : Nat, qX12_live_L43 post n_30 (0 : Int32) u_28)) ∧ ((ga ms 0 ((7 : Int32)).toNatClampNeg) = (-1 : Int32) → qX12_refuse (6 : Int32) ms (fun r_32 u_31 => post r_32 u_31))) → qX12_live (nI seed) ms post := fun f => m_isFrom 0 9999 rfl rfl (fun _ _ => ⟨fun _ => f, fun c => absurd c (by decide)⟩) (fun a => absurd a (by omega))
  rcases tr_tm ht with ⟨z1, z2⟩ | ⟨z1, n, N, hT, tC, tA⟩
  · exact ⟨fun c => absurd z1 c, fun _ => r_refuse (mi ⟨fun c => absurd z2 c, fun _ => m_refuse ⟨rfl, rr_same4 h 6⟩⟩)⟩
  · have hn := hT.1
    refine ⟨fun _ => ?_, fun c => by rw [z1] at c; exact absurd c (by decide)⟩
    have hB := run_B hT 300 0 (fun _ => 0) M seed 0 0 0 ok st rfl rfl (by omega)
    refine r_run hT tC ok st hc (by omega) (fun ul u1 d hch hlf => ?_)
    have mref := m_lives (u := ms) hT tA ok st hm (show seed < 65536 by omega) (post := fun u_28 => ∃ n_30 : Nat, qX12_live_L43 (fun r1 ms1 => nI (300 - (runA N n 300 0 (fun _ => 0) M seed 0 0 0).2.2.2.2.1) = r1 ∧ RR (va_up (va_up (va_up (va_up cs 0 (si (cs 0) 0 0)) 5 u1) 7 (cs 7)) 16 (si ul 5 (nI (pc ((runA N n 300 0 (fun _ => 0) M seed 0 0 0).1 5 0 ^^^ M 5 0))))) ms1) n_30 (0 : Int32) u_28)
    generalize runA N n 300 0 (fun _ => 0) M seed 0 0 0 = R at hB hch hlf mref
    obtain ⟨l0, l1, l2, l3, l4, l6, l7⟩ := hlf
    unfold qX3_run_b186
    rw [show gi u1 5 = nI (R.1 5 0) from ch_k hch (by omega), i_xor]
    refine r_bitCount (Nat.xor_lt_two_pow (n := 8) (ok_f8 hB.1) (ok_f8 ok)) (fun u37 e37 => ?_)
    subst e37
    rw [show gi (si ul 5 (nI (pc (R.1 5 0 ^^^ M 5 0)))) 1 = nI (300 - R.2.2.2.2.1) from l1]
    refine r_answer (mi ⟨fun _ => mref (fun u' d' mm fr lm => ?_), fun c => ?_⟩)
    · obtain ⟨m34, m33, m0, m1, m2, m3, m4⟩ := lm
      have := live_t (u := u') (post := fun r1 ms1 => nI (300 - R.2.2.2.2.1) = r1 ∧ RR (va_up (va_up (va_up (va_up cs 0 (si (cs 0) 0 0)) 5 u1) 7 (cs 7)) 16 (si ul 5 (nI (pc (R.1 5 0 ^^^ M 5 0))))) ms1) (fun v ev => by
        subst ev
        rw [show gi (si (sw u' 37 (cpR (ga u' 36) (ga u' 37) 5)) 38 1) 34 = nI (300 - R.2.2.2.2.1) from m34]
        refine m_gives ⟨rfl, rr_life h ht hB.1 hB.2.1 hch mm hB.2.2.1 hB.2.2.2.1 fr ⟨l0, Or.inr rfl, fun _ => ⟨?_, ?_, ?_, ?_, ?_, ?_⟩⟩⟩
        · exact l2.trans m0.symm
        · exact l3.trans m1.symm
        · exact l4.trans m2.symm
        · exact (pc_xor (fun s w => hB.2.2.2.2.2 s w)).trans m3.symm
        · exact l6.trans m4.symm
        · rw [show gi (si ul 5 (nI (pc (R.1 5 0 ^^^ M 5 0)))) 6 = bI R.2.2.2.2.2 from l6]
          exact bI_bz _) 5 0 (by omega)
      rw [cpR_0, sw_same] at this
      exact ⟨_, this⟩
    · rw [show ga ms 0 (7 : Int32).toNatClampNeg = nI n from tA.1] at c
      exact absurd c (nI_m1 (by omega))
/-- stones that stand behind lives by so many seeds -/
def mnS (N : MH) (n : Nat) (M : MH) (seed i : Nat) : Nat := pc (stn (runA N n 300 0 (fun _ => 0) M (seed + i) 0 0 0).1 0 0 ((runA N n 300 0 (fun _ => 0) M (seed + i) 0 0 0).1 0 0))
theorem mnS_le {M N : MH} {n seed i : Nat} (hT : okT M N n) (ok : okH M) (st : setl M) (hs : seed + i < 65536) : mnS N n M seed i ≤ 8 := by
  have hB := run_B hT 300 0 (fun _ => 0) M (seed + i) 0 0 0 ok st rfl rfl hs
  exact (pc8 _ (Nat.lt_of_lt_of_le (stn_lt _ 0 0 _) (show 2 ^ _ ≤ 2 ^ 8 from Nat.pow_le_pow_right (by decide) (ok_ns hB.1)))).1
theorem c_mean {M N : MH} {n seed many : Nat} {u0 u1 t : St} {post : Int32 → St → St → St → St → St → Prop} (hT : okT M N n) (ht : tmC t N n) (ok : okH M) (st : setl M) (h : CH u1 M) (hs : seed ≤ 9999) (hm : many ≤ 20) (fin : ∀ u2 u4, qX11_mean_b115 post (nI many) (nI (sumF (mnS N n M seed) many)) u0 u1 u2 t u4) : ∀ (m i : Nat) (u2 u4 : St), i + m = many → qX11_mean_L60 post (m + 1) (nI seed) (nI many) (nI (sumF (mnS N n M seed) i)) (nI i) u0 u1 u2 t u4 := by
  intro m
  induction m with
  | zero =>
    intro i u2 u4 hi
    have : i = many := by omega
    subst this
    exact ⟨fun _ => fin u2 u4, fun c => absurd (nI_le (by omega) (by omega)) c⟩
  | succ m ih =>
    intro i u2 u4 hi
    have hB := run_B hT 300 0 (fun _ => 0) M (seed + i) 0 0 0 ok st rfl rfl (by omega)
    refine ⟨fun c => absurd c (nI_ge (by omega) (by omega)), fun _ => r_copyFrom ok h (fun v2 h2 => ?_)⟩
    rw [nI_add]
    refine r_run hT ht ok st h2 (by omega) (fun ul v1 d hch hlf => ?_)
    unfold qX3_run_b186
    rw [show gi v1 5 = nI _ from ch_k hch (by omega), i_xor]
    refine r_bitCount (Nat.xor_lt_two_pow (n := 8) (ok_f8 hB.1) (ok_f8 ok)) (fun u37 e37 => r_standingNow hB.1 hB.2.1 hch (r_bitCount (Nat.lt_of_lt_of_le (stn_lt _ 0 0 _) (show 2 ^ _ ≤ 2 ^ 8 from Nat.pow_le_pow_right (by decide) (ok_ns hB.1))) (fun x ex z ez => ?_)))
    rw [nI_1] at ez
    rw [nI_add] at ex
    rw [ex, ez]
    exact ih (i + 1) v1 u37 (by omega)
theorem rr_mean {cs : Nat → St} {ms u u6 u17 : St} (h : RR cs ms) (t b : Int64) (hk : mKeep ms u) (ha : ∀ j, j < 1824 → ga u 0 j = ga ms 0 j) : RR (va_up (va_up (va_up (va_up (va_up cs 0 (si (sj (sj (cs 0) 1 t) 2 b) 0 0)) 5 (cs 5)) 6 u6) 7 (cs 7)) 17 u17) (si (sj (sj u 3 t) 4 b) 2 0) := by
  obtain ⟨r1, r2, r3, r4, r5, r6, r7, r8⟩ := rr_ms (u6 := u6) h 0 hk ha
  exact ⟨rfl, ⟨rfl, rfl⟩, r3, r4, r5, r6, r7, r8⟩
theorem rr_same5 {cs : Nat → St} {ms : St} (h : RR cs ms) (v : Int32) : RR (va_up (va_up (va_up (va_up (va_up cs 0 (si (cs 0) 0 v)) 5 (cs 5)) 6 (cs 6)) 7 (cs 7)) 17 (cs 17)) (si ms 2 v) := by
  obtain ⟨r1, r2, r3, r4, r5, r6, r7, r8⟩ := h
  exact ⟨rfl, r2, r3, r4, r5, r6, r7, r8⟩
/-- between two lives -/
def LI (ms u : St) : Prop := mKeep ms u ∧ (∀ j, j < 2280 → ga u 0 j = ga ms 0 j) ∧ ∀ j, j < 88 → ga u 0 (2280 + j) = ga ms 0 j
theorem m_mean {M N : MH} {n seed many : Nat} {ms : St} {post : Int32 → St → Prop} (hT : okT M N n) (ht : tmA (ga ms 0) N n) (ok : okH M) (st : setl M) (h : MC ms M) (hs : seed ≤ 9999) (hm : many ≤ 20) (fin : ∀ u, LI ms u → qX12_mean_b109 post (nI many) (lN (sumF (mnS N n M seed) many)) u) : ∀ (m i : Nat) (u : St), i + m = many → LI ms u → qX12_mean_L71 post (m + 1) (nI seed) (nI many) (lN (sumF (mnS N n M seed) i)) (nI i) u := by
  have hn := hT.1
  intro m
  induction m with
  | zero =>
    intro i u hi hl
    have : i = many := by omega
    subst this
    exact ⟨fun _ => fin u hl, fun c => absurd (nI_le (by omega) (by omega)) c⟩
  | succ m ih =>
    intro i u hi hl
    obtain ⟨k1, k2, k3⟩ := hl
    have hB := run_B hT 300 0 (fun _ => 0) M (seed + i) 0 0 0 ok st rfl rfl (by omega)
    have hle := mnS_le (seed := seed) (i := i) hT ok st (by omega)
    have mu : MC u M := MR_congr ok (fun j hj => by rw [Nat.zero_add]; exact k2 j (by omega)) (fun j _ => by rw [k1.2.2.2.2.2.2.2.2.2.2.2.2]) h
    have tu : tmA (ga u 0) N n := by
      refine ⟨(k2 7 (by omega)).trans ht.1, fun i hi => ?_⟩
      rw [k2 (88 + 6 * i) (by omega), k2 (89 + 6 * i) (by omega), k2 (90 + 6 * i) (by omega), k2 (93 + 6 * i) (by omega), k2 (92 + 6 * i) (by omega)]
      exact ht.2 i hi
    refine ⟨fun c => absurd c (nI_ge (by omega) (by omega)), fun _ => ?_⟩
    rw [nI_add]
    refine m_lives hT tu ok st mu (by omega) (fun u' d' mm fr _ => m_standsNow hB.1 mm (m_bits (Nat.lt_of_lt_of_le (stn_lt _ 0 0 _) (show 2 ^ _ ≤ 2 ^ 8 from Nat.pow_le_pow_right (by decide) (ok_ns hB.1))) (fun x ex => ?_)))
    refine m_restores (b := 2280) (by omega) (by omega) (fun z ez => ?_)
    have ex' : x = lN (sumF (mnS N n M seed) (i + 1)) := by
      have e0 : x = lN (sumF (mnS N n M seed) i) + (nI (mnS N n M seed i)).toInt64 := ex
      rw [e0, i_long (by omega), lN_add, sumF]
    rw [nI_1] at ez
    rw [ex', ez]
    refine ih (i + 1) _ (by omega) ⟨k1.trans fr.1, fun j hj => ?_, fun j hj => ?_⟩
    · show rsF 2280 88 (ga u' 0) j = ga ms 0 j
      unfold rsF
      by_cases c : j < 88
      · rw [if_pos c, fr.2.1 _ (by omega) (by omega)]
        exact k3 j c
      · rw [if_neg c, fr.2.1 _ (by omega) (by omega)]
        exact k2 j hj
    · show rsF 2280 88 (ga u' 0) (2280 + j) = ga ms 0 j
      unfold rsF
      rw [if_neg (by omega), fr.2.1 _ (by omega) (by omega)]
      exact k3 j hj
theorem sp_mean : SP_mean RR := fun x y cs ms h => by
  obtain ⟨M, ok, st, hc, hm, ht⟩ := rr_house h
  refine r_within 0 9999 rfl rfl (fun p q => ⟨fun c => absurd c (by decide), fun _ => ?_⟩) (fun p => ⟨fun _ => r_deny ⟨Or.inl rfl, m_isFrom 0 9999 rfl rfl (fun _ _ => absurd p (by omega)) (fun _ => ⟨fun _ => m_is1 (by decide) ⟨Or.inl rfl, rfl, rr_same5 h 1⟩, fun c => absurd rfl c⟩)⟩, fun c => absurd rfl c⟩)
  refine r_within 1 20 rfl rfl (fun p2 q2 => ⟨fun c => absurd c (by decide), fun _ => ?_⟩) (fun p2 => ⟨fun _ => r_deny ⟨Or.inl rfl, m_isFrom 0 9999 rfl rfl (fun _ _ => ⟨fun c => absurd c (by decide), fun _ => m_isFrom 1 20 rfl rfl (fun _ _ => absurd p2 (by omega)) (fun _ => ⟨fun _ => m_is1 (by decide) ⟨Or.inl rfl, rfl, rr_same5 h 1⟩, fun c => absurd rfl c⟩)⟩) (fun a => absurd a (by omega))⟩, fun c => absurd rfl c⟩)
  obtain ⟨seed, hs, rfl, -⟩ := i_nat (n := 9999) p q
  obtain ⟨many, hmm, rfl, -⟩ := i_nat (n := 20) (by omega) q2
  rw [nI_toInt (by omega)] at p2
  have mi : ∀ {post : Int32 → St → Prop}, ((((nI seed + nI many) - (1 : Int32)) ≤ (9999 : Int32) → ((¬ (ga ms 0 ((7 : Int32)).toNatClampNeg) = (-1 : Int32) → qX12_keeps (2280 : Int32) ms (fun u_52 => ∃ n_54 : Nat, qX12_mean_L71 post n_54 (nI seed) (nI many) (0 : Int64) (0 : Int32) u_52)) ∧ ((ga ms 0 ((7 : Int32)).toNatClampNeg) = (-1 : Int32) → qX12_is (6 : Int32) ms (fun r_56 u_55 => (bz r_56 ∧ post r_56 u_55))))) ∧ (¬ ((nI seed + nI many) - (1 : Int32)) ≤ (9999 : Int32) → qX12_mean_b35 post ms)) → qX12_mean (nI seed) (nI many) ms post := fun f => m_isFrom 0 9999 rfl rfl (fun _ _ => ⟨fun c => absurd c (by decide), fun _ => m_isFrom 1 20 rfl rfl (fun _ _ => ⟨fun c => absurd c (by decide), fun _ => f⟩) (fun a => absurd a (by rw [nI_toInt (by omega)]; omega))⟩) (fun a => absurd a (by omega))
  refine ⟨fun c => ?_, fun c => r_deny ⟨Or.inl rfl, mi ⟨fun w => absurd w c, fun _ => m_is1 (by decide) ⟨Or.inl rfl, rfl, rr_same5 h 1⟩⟩⟩⟩
  rcases tr_tm ht with ⟨z1, z2⟩ | ⟨z1, n, N, hT, tC, tA⟩
  · exact ⟨fun w => absurd z1 w, fun _ => r_deny ⟨Or.inl rfl, mi ⟨fun _ => ⟨fun w => absurd z2 w, fun _ => m_is1 (by decide) ⟨Or.inl rfl, rfl, rr_same5 h 6⟩⟩, fun w => absurd c w⟩⟩⟩
  · have hn := hT.1
    have hsum : sumF (mnS N n M seed) many ≤ 8 * many := sumF_le many (fun i hi => mnS_le hT ok st (by omega))
    refine ⟨fun _ => ⟨many + 1, c_mean hT tC ok st hc hs hmm (fun u2 u4 => ?_) many 0 (cs 6) (cs 17) (by omega)⟩, fun w => by rw [z1] at w; exact absurd w (by decide)⟩
    unfold qX11_mean_b115
    rw [i_long (by omega), i_long (by omega)]
    refine r_tell (by omega) (by omega) (by omega) ⟨Or.inr rfl, mi ⟨fun _ => ⟨fun _ => m_keeps (b := 2280) (by omega) (by omega) ⟨many + 1, ?_⟩, fun w => ?_⟩, fun w => absurd c w⟩⟩
    · refine m_mean hT tA ok st hm hs hmm (fun u hl => ?_) many 0 _ (by omega) ⟨mKeep_sw ms _, fun j hj => ?_, fun j hj => ?_⟩
      · unfold qX12_mean_b109
        rw [i_long (by omega)]
        exact m_tells (by omega) (by omega) (by omega) ⟨Or.inr rfl, rfl, rr_mean h _ _ hl.1 (fun j hj => hl.2.1 j (by omega))⟩
      · show kpF 2280 88 (ga ms 0) j = ga ms 0 j
        unfold kpF
        rw [if_neg (by omega)]
      · show kpF 2280 88 (ga ms 0) (2280 + j) = ga ms 0 j
        unfold kpF
        rw [if_pos (by omega), show 2280 + j - 2280 = j by omega]
    · rw [show ga ms 0 (7 : Int32).toNatClampNeg = nI n from tA.1] at w
      exact absurd w (nI_m1 (by omega))
