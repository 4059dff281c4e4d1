/-! HOUSE RULES 8: houses kept and brought back; owedIn, standsIn, fallsIn, lived -/
def kpF (b n : Nat) (f : Nat → Int32) : Nat → Int32 := fun j => if b ≤ j ∧ j < b + n then f (j - b) else f j
def rsF (b n : Nat) (f : Nat → Int32) : Nat → Int32 := fun j => if j < n then f (b + j) else f j
theorem kpF_s (b n : Nat) (f : Nat → Int32) (h : n < b) : upd (kpF b n f) (b + n) (kpF b n f n) = kpF b (n + 1) f := by
  funext j
  rw [upd_at]
  unfold kpF
  by_cases c : j = b + n
  · rw [if_pos c, if_neg (by omega), if_pos (by omega), show j - b = n by omega]
  · rw [if_neg c]
    by_cases c2 : b ≤ j ∧ j < b + n
    · rw [if_pos c2, if_pos (by omega)]
    · rw [if_neg c2, if_neg (by omega)]
theorem rsF_s (b n : Nat) (f : Nat → Int32) (h : n < b) : upd (rsF b n f) n (rsF b n f (b + n)) = rsF b (n + 1) f := by
  funext j
  rw [upd_at]
  unfold rsF
  by_cases c : j = n
  · rw [if_pos c, if_neg (by omega), if_pos (by omega), c]
  · rw [if_neg c]
    by_cases c2 : j < n
    · rw [if_pos c2, if_pos (by omega)]
    · rw [if_neg c2, if_neg (by omega)]
theorem sw_id (u : St) (k : Nat) (f : Nat → Int32) (h : f = ga u k) : sw u k f = u := by
  subst h
  show (u.1, u.2.1, va_up u.2.2.1 k (u.2.2.1 k), u.2.2.2) = u
  rw [up_same]
theorem kpF_0 (b : Nat) (f : Nat → Int32) : kpF b 0 f = f := by
  funext j
  unfold kpF
  rw [if_neg (by omega)]
theorem rsF_0 (b : Nat) (f : Nat → Int32) : rsF b 0 f = f := by
  funext j
  unfold rsF
  rw [if_neg (by omega)]
theorem keeps_loop {b : Nat} {u : St} {post : St → Prop} (hb : 88 ≤ b) (hb2 : b + 88 ≤ 3072) (fin : post (sw u 0 (kpF b 88 (ga u 0)))) : ∀ (m i : Nat), i + m = 88 → qX12_keeps_L2 post (m + 1) (nI b) (nI i) (sw u 0 (kpF b i (ga u 0))) := by
  intro m
  induction m with
  | zero =>
    intro i hi
    have : i = 88 := by omega
    subst this
    exact ⟨fun _ => fin, fun c => absurd (nI_le (a := 88) (by omega) (by omega)) c⟩
  | succ m ih =>
    intro i hi
    refine ⟨fun c => absurd c (nI_ge (b := 88) (by omega) (by omega)), fun _ => ?_⟩
    rw [nI_add, nI_clamp (n := b + i) (by omega), nI_clamp (n := i) (by omega)]
    refine ⟨vp_in_nI (by omega) (by omega), vp_in_nI (by omega) (by omega), fun u' e z ez => ?_⟩
    rw [nI_1] at ez
    rw [sw_sw, ga_sw, if_pos rfl, kpF_s _ _ _ (by omega)] at e
    subst e; subst ez
    exact ih (i + 1) (by omega)
theorem m_keeps {b : Nat} {u : St} {post : St → Prop} (hb : 88 ≤ b) (hb2 : b + 88 ≤ 3072) (fin : post (sw u 0 (kpF b 88 (ga u 0)))) : qX12_keeps (nI b) u post := by
  have := keeps_loop hb hb2 fin 88 0 (by omega)
  rw [sw_id u 0 _ (kpF_0 _ _)] at this
  exact ⟨_, this⟩
theorem restores_loop {b : Nat} {u : St} {post : St → Prop} (hb : 88 ≤ b) (hb2 : b + 88 ≤ 3072) (fin : post (sw u 0 (rsF b 88 (ga u 0)))) : ∀ (m i : Nat), i + m = 88 → qX12_restores_L2 post (m + 1) (nI b) (nI i) (sw u 0 (rsF b i (ga u 0))) := by
  intro m
  induction m with
  | zero =>
    intro i hi
    have : i = 88 := by omega
    subst this
    exact ⟨fun _ => fin, fun c => absurd (nI_le (a := 88) (by omega) (by omega)) c⟩
  | succ m ih =>
    intro i hi
    refine ⟨fun c => absurd c (nI_ge (b := 88) (by omega) (by omega)), fun _ => ?_⟩
    rw [nI_add, nI_clamp (n := b + i) (by omega), nI_clamp (n := i) (by omega)]
    refine ⟨vp_in_nI (by omega) (by omega), vp_in_nI (by omega) (by omega), fun u' e z ez => ?_⟩
    rw [nI_1] at ez
    rw [sw_sw, ga_sw, if_pos rfl, rsF_s _ _ _ (by omega)] at e
    subst e; subst ez
    exact ih (i + 1) (by omega)
theorem m_restores {b : Nat} {u : St} {post : St → Prop} (hb : 88 ≤ b) (hb2 : b + 88 ≤ 3072) (fin : post (sw u 0 (rsF b 88 (ga u 0)))) : qX12_restores (nI b) u post := by
  have := restores_loop hb hb2 fin 88 0 (by omega)
  rw [sw_id u 0 _ (rsF_0 _ _)] at this
  exact ⟨_, this⟩
theorem kp_mc {b : Nat} {u : St} {M : MH} (ok : okH M) (hb : 88 ≤ b) (h : MC u M) : MC (sw u 0 (kpF b 88 (ga u 0))) M :=
  MR_congr ok (fun j hj => by rw [ga_sw, if_pos rfl]; unfold kpF; rw [if_neg (by omega)]) (fun _ _ => rfl) h
/-- kept, changed, brought back: below the kept place all is as it was -/
theorem kp_back {b : Nat} {u v : St} (hb : 1824 ≤ b) (hb2 : b + 88 ≤ 3072) (h : mSame (sw u 0 (kpF b 88 (ga u 0))) v) : mKeep u (sw v 0 (rsF b 88 (ga v 0))) ∧ ∀ j, j < b ∨ (b + 88 ≤ j ∧ j < 3072) → ga (sw v 0 (rsF b 88 (ga v 0))) 0 j = ga u 0 j := by
  obtain ⟨k1, k2, k3⟩ := h
  refine ⟨k1, fun j hj => ?_⟩
  have E : ∀ j, ga (sw u 0 (kpF b 88 (ga u 0))) 0 j = kpF b 88 (ga u 0) j := fun _ => rfl
  show rsF b 88 (ga v 0) j = _
  unfold rsF
  by_cases c : j < 88
  · rw [if_pos c, k2 _ (by omega) (by omega), E]
    unfold kpF
    rw [if_pos (by omega), show b + j - b = j by omega]
  · rw [if_neg c, k2 _ (by omega) (by omega), E]
    unfold kpF
    rw [if_neg (by omega)]
theorem rr_ms {cs : Nat → St} {ms ms1 u6 : St} (h : RR cs ms) (v : Int32) (hk : mKeep ms ms1) (ha : ∀ j, j < 1824 → ga ms1 0 j = ga ms 0 j) : RR (va_up (va_up (va_up cs 0 (si (cs 0) 0 v)) 5 (cs 5)) 6 u6) (si ms1 2 v) := by
  obtain ⟨h1, h2, h3, h4, h5, h6, h7, h8⟩ := h
  obtain ⟨k1, k2, k3, k4, k5, k6, k7, k8, k9, k10, k11, k12, k13⟩ := hk
  refine ⟨rfl, ?_, ?_, ?_, ?_, ?_, ?_, ?_⟩
  · show gj (cs 0) 1 = gj ms1 3 ∧ gj (cs 0) 2 = gj ms1 4
    rw [k1, k2]; exact h2
  · show TapeR (gi (cs 0) 4) (ga (cs 1) 0) (gi ms1 10) (ga ms1 8)
    rw [k3, k4]; exact h3
  · show gi (cs 0) 12 = gi ms1 16 ∧ gi (cs 0) 13 = gi ms1 17
    rw [k5, k6]; exact h4
  · show TrayR (ga (cs 2) 1) (ga (cs 2) 2) (gl (cs 2) 0) (ga ms1 5) (ga ms1 6) (gl ms1 7)
    rw [k7, k8, k9]; exact h5
  · show SlR (cs 5) (cs 7) (ga ms1 0) (gl ms1 1) 0
    rw [k13]; exact SlR_congr (fun j hj => ha _ (by omega)) (fun _ _ => rfl) h6
  · show MkR (cs 9) (cs 10) (cs 11) (cs 12) (cs 13) (cs 14) (cs 15) (gi ms1 39) (ga ms1 0) (gl ms1 1)
    rw [k10, k13]; exact MkR_congr (fun j _ hj => ha j hj) h7
  · show LifeR (cs 16) (gi ms1 38) (ga ms1 37)
    rw [k11, k12]; exact h8
theorem cp_at {f g : Nat → Int32} {n j : Nat} (h : j < n) : va_cpy f g 0 0 n j = f j := by
  rw [pk_cpy_in (Nat.zero_le _) (by omega), Nat.zero_add, Nat.sub_zero]
theorem cp_atL {f g : Nat → Int64} {n j : Nat} (h : j < n) : va_cpy f g 0 0 n j = f j := by
  rw [pk_cpy_in (Nat.zero_le _) (by omega), Nat.zero_add, Nat.sub_zero]
theorem r_copyFrom {M : MH} {u0 u1 : St} {post : St → St → Prop} (ok : okH M) (h : CH u1 M) (fin : ∀ u', CH u' M → post u' u1) : qX2_copyFrom u0 u1 post := by
  have o0 := ok_ns ok
  have o1 := ok_np ok
  have o2 := ok_nd ok
  have c8 : cpOk 0 0 8 8 8 := by unfold cpOk; decide
  have c5 : cpOk 0 0 5 5 5 := by unfold cpOk; decide
  have c7 : cpOk 0 0 7 7 7 := by unfold cpOk; decide
  intro a1 e1 a2 e2 a3 e3 a4 e4 a5 e5 a6 e6 a7 e7 a8 e8
  refine ⟨c8, fun a9 e9 => ⟨c8, fun a10 e10 => ⟨c8, fun a11 e11 => ⟨c5, fun a12 e12 => ⟨c5, fun a13 e13 => ⟨c7, fun a14 e14 => ⟨c7, fun a15 e15 => ⟨c7, fun a16 e16 => ⟨c7, fun a17 e17 => ⟨c7, fun a18 e18 => ⟨c7, fun a19 e19 => fin a19 ?_⟩⟩⟩⟩⟩⟩⟩⟩⟩⟩⟩
  rw [show (0 : Int32).toNatClampNeg = 0 from rfl] at e9 e10 e11 e12 e13 e14 e15 e16 e17 e18 e19
  rw [show (8 : Int32).toNatClampNeg = 8 from rfl] at e9 e10 e11
  rw [show (5 : Int32).toNatClampNeg = 5 from rfl] at e12 e13
  rw [show (7 : Int32).toNatClampNeg = 7 from rfl] at e14 e15 e16 e17 e18 e19
  have gk : ∀ k, k < 8 → gi a19 k = gi u1 k := fun k hk => by
    have : k = 0 ∨ k = 1 ∨ k = 2 ∨ k = 3 ∨ k = 4 ∨ k = 5 ∨ k = 6 ∨ k = 7 := by omega
    subst e19 e18 e17 e16 e15 e14 e13 e12 e11 e10 e9 e8 e7 e6 e5 e4 e3 e2 e1
    rcases this with rfl | rfl | rfl | rfl | rfl | rfl | rfl | rfl <;> rfl
  have g8 : ∀ k s, 8 ≤ k → k ≤ 10 → s < 8 → ga a19 k s = ga u1 k s := fun k s h1 h2 hs => by
    have : k = 8 ∨ k = 9 ∨ k = 10 := by omega
    subst e19 e18 e17 e16 e15 e14 e13 e12 e11 e10 e9
    rcases this with rfl | rfl | rfl <;> exact cp_at hs
  have g12 : ∀ s, s < 5 → ga a19 12 s = ga u1 12 s ∧ gl a19 13 s = gl u1 13 s := fun s hs => by
    subst e19 e18 e17 e16 e15 e14 e13 e12
    exact ⟨cp_at hs, cp_atL hs⟩
  have g14 : ∀ k s, 14 ≤ k → k ≤ 19 → s < 7 → ga a19 k s = ga u1 k s := fun k s h1 h2 hs => by
    have : k = 14 ∨ k = 15 ∨ k = 16 ∨ k = 17 ∨ k = 18 ∨ k = 19 := by omega
    subst e19 e18 e17 e16 e15 e14
    rcases this with rfl | rfl | rfl | rfl | rfl | rfl <;> exact cp_at hs
  refine ⟨fun k hk => (gk k hk).trans (h.1 k hk), fun k h1 h2 s hs => (g8 k s h1 h2 (by omega)).trans (h.2.1 k h1 h2 s hs), fun p hp => ⟨(g12 p (by omega)).1.trans (h.2.2.1 p hp).1, (g12 p (by omega)).2.trans (h.2.2.1 p hp).2⟩, fun k h1 h2 d hd => (g14 k d h1 h2 (by omega)).trans (h.2.2.2 k h1 h2 d hd)⟩
theorem sp_owedIn : SP_owedIn RR := fun x y cs ms h => by
  obtain ⟨M, ok, st, hc, hm, ht⟩ := rr_house h
  have h7 := ok_nd ok
  have hr : ∀ v, RR (va_up (va_up (va_up cs 0 (si (cs 0) 0 v)) 5 (cs 5)) 6 (cs 6)) (si ms 2 v) := fun v => rr_ms h v mSame.rfl.1 (fun _ _ => rfl)
  refine r_isDebt (n := M 2 0) (by omega) (ch_k hc (by omega)) (fun c => ⟨fun c => absurd c (by decide), fun _ => ?_⟩) (fun c => ⟨fun _ => r_refuse (m_isDebt (n := M 2 0) (by omega) (mc_k hm (by omega)) (fun q => absurd q c) (fun _ => ⟨fun _ => m_refuse ⟨rfl, hr 1⟩, fun c => absurd rfl c⟩)), fun c => absurd rfl c⟩)
  have gom : ∀ (post : Int32 → St → Prop), qX12_isFrom (y).toInt64 (0 : Int64) (40 : Int64) (fun r_29 => ((¬ r_29 = 0 → qX12_keeps (2280 : Int32) ms (fun u_32 => qX12_yearsGo y u_32 (fun r_35 u_34 => qX12_owedOf x u_34 (fun r_38 u_37 => qX12_restores (2280 : Int32) u_37 (fun u_40 => qX12_gives r_38 u_40 (fun r_43 u_42 => post r_43 u_42)))))) ∧ (r_29 = 0 → qX12_owedIn_b20 post ms))) → qX12_owedIn x y ms post := fun post q => m_isDebt (n := M 2 0) (by omega) (mc_k hm (by omega)) (fun _ => ⟨fun c => absurd c (by decide), fun _ => q⟩) (fun q => absurd c q)
  obtain ⟨d, hd, rfl⟩ := c.nat (by omega)
  refine r_within 0 40 rfl rfl (fun p q => ⟨fun _ => ?_, fun c => absurd c (by decide)⟩) (fun p => ⟨fun c => absurd rfl c, fun _ => r_refuse (gom _ (m_isFrom 0 40 rfl rfl (fun _ _ => absurd p (by omega)) (fun _ => ⟨fun c => absurd rfl c, fun _ => m_refuse ⟨rfl, hr 1⟩⟩)))⟩)
  obtain ⟨N, hN, rfl, -⟩ := i_nat (n := 40) p q
  have okN := yrN_ok ok N
  have hdN : d < yrN M N 2 0 := by rw [show yrN M N 2 0 = M 2 0 from yrs_2 M N]; exact hd
  refine r_copyFrom ok hc (fun u6 h6 => r_passYears ok st (by omega) h6 (fun u7 h7 => r_owed okN h7 hdN (r_answer (gom _ (m_isFrom 0 40 rfl rfl (fun _ _ => ⟨fun _ => ?_, fun c => absurd c (by decide)⟩) (fun r => absurd r (by omega)))))))
  refine m_keeps (b := 2280) (by omega) (by omega) (m_yearsGo ok (by omega) (kp_mc ok (by omega) hm) (fun u1 m1 k1 => m_owedOf okN m1 hdN (m_restores (b := 2280) (by omega) (by omega) (m_gives ⟨rfl, ?_⟩))))
  have kb := kp_back (by omega) (by omega) k1
  exact rr_ms h 0 kb.1 (fun j hj => kb.2 j (by omega))
theorem sp_standsIn : SP_standsIn RR := fun x cs ms h => by
  obtain ⟨M, ok, st, hc, hm, ht⟩ := rr_house h
  have hr : ∀ v, RR (va_up (va_up (va_up cs 0 (si (cs 0) 0 v)) 5 (cs 5)) 6 (cs 6)) (si ms 2 v) := fun v => rr_ms h v mSame.rfl.1 (fun _ _ => rfl)
  refine r_within 0 40 rfl rfl (fun p q => ⟨fun _ => ?_, fun c => absurd c (by decide)⟩) (fun p => ⟨fun c => absurd rfl c, fun _ => r_refuse (m_isFrom 0 40 rfl rfl (fun _ _ => absurd p (by omega)) (fun _ => ⟨fun c => absurd rfl c, fun _ => m_refuse ⟨rfl, hr 1⟩⟩))⟩)
  obtain ⟨N, hN, rfl, -⟩ := i_nat (n := 40) p q
  have okN := yrN_ok ok N
  refine r_copyFrom ok hc (fun u6 h6 => r_passYears ok st (by omega) h6 (fun u7 h7 => r_standingNow okN (yrN_setl st N) h7 (r_answer (m_isFrom 0 40 rfl rfl (fun _ _ => ⟨fun _ => ?_, fun c => absurd c (by decide)⟩) (fun r => absurd r (by omega))))))
  refine m_keeps (b := 2280) (by omega) (by omega) (m_yearsGo ok (by omega) (kp_mc ok (by omega) hm) (fun u1 m1 k1 => m_standsNow okN m1 (m_restores (b := 2280) (by omega) (by omega) (m_gives ⟨rfl, ?_⟩))))
  have kb := kp_back (by omega) (by omega) k1
  exact rr_ms h 0 kb.1 (fun j hj => kb.2 j (by omega))
/-- the year in which a stone falls -/
def fIn (s : Nat) : Nat → Nat → MH → Int32
  | 0, _, _ => -1
  | m + 1, i, A => if (yrN A 1 5 0).testBit s = true then nI i else fIn s m (i + 1) (yrN A 1)
theorem nI_m1 {i : Nat} (h : i < 2 ^ 31) : ¬ nI i = -1 := fun q => by
  rw [i_eq, nI_toInt h] at q
  have : (-1 : Int32).toInt = -1 := rfl
  omega
theorem falls_loop {s : Nat} {u0 u1 : St} {post : Int32 → St → St → St → Prop} (hs : s < 31) : ∀ (m i : Nat) (A : MH) (u2 : St), okH A → setl A → i + m = 41 → CH u2 A → (∀ u6, (fIn s m i A = -1 → post (-1) (si u0 0 6) u1 u6) ∧ (¬ fIn s m i A = -1 → post (fIn s m i A) (si u0 0 0) u1 u6)) → qX11_fallsIn_L48 post (m + 1) (nI s) (nI i) u0 u1 u2 := by
  intro m
  induction m with
  | zero =>
    intro i A u2 ok st hi h fin
    have : i = 41 := by omega
    subst this
    exact ⟨fun _ => r_refuse ((fin u2).1 rfl), fun c => absurd (by decide) c⟩
  | succ m ih =>
    intro i A u2 ok st hi h fin
    refine ⟨fun c => absurd c (nI_nlt (a := 40) (by omega) (by omega)), fun _ => ?_⟩
    refine r_passYears (N := 1) ok st (by omega) h (fun u3 h3 => r_hasFallen (yrN_ok ok 1) h3 hs (fun c => ⟨fun c => absurd c (by decide), fun _ => ?_⟩) (fun c => ⟨fun _ z ez => ?_, fun c => absurd rfl c⟩))
    · have e : fIn s (m + 1) i A = nI i := by rw [fIn, if_pos c]
      have := (fin u3).2 (by rw [e]; exact nI_m1 (by omega))
      rw [e] at this
      exact r_answer this
    · rw [nI_1] at ez
      subst ez
      have e : fIn s (m + 1) i A = fIn s m (i + 1) (yrN A 1) := by rw [fIn, if_neg (by rw [c]; decide)]
      rw [e] at fin
      exact ih (i + 1) _ u3 (yrN_ok ok 1) (yrN_setl st 1) (by omega) h3 fin
theorem mfalls_loop {s : Nat} {v0 : St} {post : Int32 → St → Prop} (hs : s < 31) : ∀ (m i : Nat) (A : MH) (u : St), okH A → i + m = 41 → MC u A → mSame v0 u → (∀ u', mSame v0 u' → qX12_fallsIn_b90 post (fIn s m i A) u') → qX12_fallsIn_L46 post (m + 2) (nI s) (-1) 1 (nI i) u := by
  intro m
  induction m with
  | zero =>
    intro i A u ok hi h hk fin
    have : i = 41 := by omega
    subst this
    exact ⟨fun _ => fin u hk, fun c => absurd (by decide) c⟩
  | succ m ih =>
    intro i A u ok hi h hk fin
    refine ⟨fun c => absurd c (nI_nlt (a := 40) (by omega) (by omega)), fun _ => ⟨fun c => absurd c (by decide), fun _ => ⟨fun c => absurd rfl c, fun _ => ?_⟩⟩⟩
    refine m_yearGoes ok h (fun u3 h3 k3 => ?_)
    have h3 : MC u3 (yrN A 1) := h3
    rw [show ga u3 0 (5 : Int32).toNatClampNeg = nI (yrN A 1 5 0) from mc_k (k := 5) h3 (by omega)]
    refine m_isIn (ok_fallen (yrN_ok ok 1)) hs (fun c => ⟨fun c => absurd c (by decide), fun _ z ez => ?_⟩) (fun c => ⟨fun _ z ez => ?_, fun c => absurd rfl c⟩)
    · rw [nI_1] at ez
      subst ez
      have e : fIn s (m + 1) i A = nI i := by rw [fIn, if_pos c]
      have f := fin u3 (hk.trans k3)
      rw [e] at f
      exact ⟨fun _ => f, fun _ => ⟨fun c => absurd c (by decide), fun _ => ⟨fun _ => f, fun c => absurd c (nI_m1 (by omega))⟩⟩⟩
    · rw [nI_1] at ez
      subst ez
      have e : fIn s (m + 1) i A = fIn s m (i + 1) (yrN A 1) := by rw [fIn, if_neg (by rw [c]; decide)]
      rw [e] at fin
      exact ih (i + 1) _ u3 (yrN_ok ok 1) (by omega) h3 (hk.trans k3) fin
theorem sp_fallsIn : SP_fallsIn RR := fun x cs ms h => by
  obtain ⟨M, ok, st, hc, hm, ht⟩ := rr_house h
  have h8 := ok_ns ok
  have hr : ∀ v, RR (va_up (va_up (va_up cs 0 (si (cs 0) 0 v)) 5 (cs 5)) 6 (cs 6)) (si ms 2 v) := fun v => rr_ms h v mSame.rfl.1 (fun _ _ => rfl)
  refine r_isStone (n := M 0 0) (by omega) (ch_k hc (by omega)) (fun c => ⟨fun _ => ?_, fun c => absurd c (by decide)⟩) (fun c => ⟨fun c => absurd rfl c, fun _ => r_refuse (m_isStone (n := M 0 0) (by omega) (mc_k hm (by omega)) (fun q => absurd q c) (fun _ => ⟨fun c => absurd rfl c, fun _ => m_refuse ⟨rfl, hr 1⟩⟩))⟩)
  obtain ⟨s, hs, rfl⟩ := c.nat (by omega)
  have e5 : ga ms 0 (5 : Int32).toNatClampNeg = nI (M 5 0) := mc_k (k := 5) hm (by omega)
  have back : ∀ {u : St} {post : Int32 → St → Prop} {x2 : Int32}, mSame (sw ms 0 (kpF 2280 88 (ga ms 0))) u → (∀ u1, (∀ v u6, RR (va_up (va_up (va_up cs 0 (si (cs 0) 0 v)) 5 (cs 5)) 6 u6) (si u1 2 v)) → (¬ x2 = -1 → post x2 (si u1 2 0)) ∧ (x2 = -1 → post (-1) (si u1 2 6))) → qX12_fallsIn_b90 post x2 u := fun k f => by
    have kb := kp_back (by omega) (by omega) k
    have f' := f _ (fun v u6 => rr_ms h v kb.1 (fun j hj => kb.2 j (by omega)))
    exact m_restores (b := 2280) (by omega) (by omega) ⟨fun c => m_gives (f'.1 c), fun c => m_refuse (f'.2 c)⟩
  refine r_hasFallen ok hc (by omega) (fun c1 => ⟨fun c => absurd c (by decide), fun _ => r_refuse (m_isStone (n := M 0 0) (by omega) (mc_k hm (by omega)) (fun _ => ⟨fun _ => ?_, fun c => absurd c (by decide)⟩) (fun q => absurd c q))⟩) (fun c1 => ⟨fun _ => ?_, fun c => absurd rfl c⟩)
  · rw [e5]
    refine m_isIn (ok_fallen ok) (by omega) (fun _ => ⟨fun _ => m_keeps (b := 2280) (by omega) (by omega) ⟨1, ?_⟩, fun c => absurd c (by decide)⟩) (fun q => by rw [c1] at q; exact absurd q (by decide))
    refine ⟨fun c => absurd c (by decide), fun _ => ⟨fun _ => back mSame.rfl (fun u1 f => ⟨fun c => absurd rfl c, fun _ => ⟨rfl, f 6 _⟩⟩), fun c => absurd rfl c⟩⟩
  · refine r_copyFrom ok hc (fun u6 h6 => ⟨_, falls_loop (by omega) 40 1 M u6 ok st (by omega) h6 (fun u7 => ?_)⟩)
    have go : ∀ {post : Int32 → St → Prop}, (∀ u1, (∀ v u6, RR (va_up (va_up (va_up cs 0 (si (cs 0) 0 v)) 5 (cs 5)) 6 u6) (si u1 2 v)) → (¬ fIn s 40 1 M = -1 → post (fIn s 40 1 M) (si u1 2 0)) ∧ (fIn s 40 1 M = -1 → post (-1) (si u1 2 6))) → qX12_fallsIn (nI s) ms post := fun f => by
      refine m_isStone (n := M 0 0) (by omega) (mc_k hm (by omega)) (fun _ => ⟨fun _ => ?_, fun c => absurd c (by decide)⟩) (fun q => absurd c q)
      rw [e5]
      refine m_isIn (ok_fallen ok) (by omega) (fun q => by rw [c1] at q; exact absurd q (by decide)) (fun _ => ⟨fun c => absurd rfl c, fun _ => m_keeps (b := 2280) (by omega) (by omega) ⟨_, mfalls_loop (by omega) 40 1 M _ ok (by omega) (kp_mc ok (by omega) hm) mSame.rfl (fun u' k' => back k' f)⟩⟩)
    exact ⟨fun c2 => go (fun u1 f => ⟨fun c => absurd c2 c, fun _ => ⟨rfl, f 6 _⟩⟩), fun c2 => go (fun u1 f => ⟨fun _ => ⟨rfl, f 0 _⟩, fun c => absurd c c2⟩)⟩
theorem sp_lived : SP_lived RR := fun x cs ms h => by
  have hr : ∀ v, RR (va_up (va_up cs 0 (si (cs 0) 0 v)) 16 (cs 16)) (si ms 2 v) := fun v => by
    rw [up_skip cs 0 16 _ (by decide)]
    exact rr_st h v
  obtain ⟨l1, l2, l3⟩ := h.2.2.2.2.2.2.2
  have mw : ∀ {post : Int32 → St → Prop}, (x.toInt < 0 ∨ 4 < x.toInt → post (-1) (si ms 2 1)) → (0 ≤ x.toInt → x.toInt ≤ 4 → (((gi ms 38) = 0 → qX12_refuse (6 : Int32) ms (fun r_17 u_16 => qX12_lived_b41 post r_17 u_16)) ∧ (¬ (gi ms 38) = 0 → (vp_in x 5 ∧ qX12_gives (ga ms 37 (x).toNatClampNeg) ms (fun r_20 u_19 => qX12_lived_b41 post r_20 u_19))))) → qX12_lived x ms post := fun f g => by
    have e0 : (0 : Int32).toInt = 0 := rfl
    have e4 : (4 : Int32).toInt = 4 := rfl
    refine ⟨fun c => m_refuse (f (by rw [i_lt] at c; omega)), fun c => ⟨fun c2 => g ?_ ?_, fun c2 => m_refuse (f ?_)⟩⟩
    · rw [i_lt] at c; omega
    · rw [i_le] at c2; omega
    · rw [i_le] at c2; omega
  refine r_within 0 4 rfl rfl (fun p q => ⟨fun _ => ?_, fun c => absurd c (by decide)⟩) (fun p => ⟨fun c => absurd rfl c, fun _ => r_refuse (mw (fun _ => ⟨rfl, hr 1⟩) (fun a b => absurd p (by omega)))⟩)
  obtain ⟨k, hk, rfl, -⟩ := i_nat (n := 4) p q
  refine ⟨fun c => ?_, fun c => r_refuse (mw (fun a => absurd a (by omega)) (fun _ _ => ⟨fun _ => m_refuse ⟨rfl, hr 6⟩, fun c2 => absurd (by rw [← l1]; exact c) c2⟩))⟩
  have c1 : gi ms 38 = 1 := l2.resolve_left (by rw [← l1]; exact c)
  obtain ⟨t0, t1, t2, t3, t4, t5⟩ := l3 c1
  have go : ∀ v : Int32, v = ga ms 37 k → qX12_lived (nI k) ms (fun r1 ms1 => v = r1 ∧ RR (va_up (va_up cs 0 (si (cs 0) 0 0)) 16 (cs 16)) ms1) := fun v ev => by
    refine mw (fun a => absurd a (by omega)) (fun _ _ => ⟨fun c2 => absurd (by rw [l1]; exact c2) c, fun _ => ⟨vp_in_nI (by omega) (by omega), ?_⟩⟩)
    rw [nI_clamp (by omega)]
    exact m_gives ⟨ev, hr 0⟩
  have hk5 : k = 0 ∨ k = 1 ∨ k = 2 ∨ k = 3 ∨ k = 4 := by omega
  rcases hk5 with rfl | rfl | rfl | rfl | rfl
  · exact ⟨fun _ => r_answer (go _ t0), fun c => absurd c (by decide), fun c => absurd c (by decide), fun c => absurd c (by decide), fun c => absurd rfl c⟩
  · exact ⟨fun c => absurd c (by decide), fun _ => r_answer (go _ t1), fun c => absurd c (by decide), fun c => absurd c (by decide), fun _ c => absurd rfl c⟩
  · exact ⟨fun c => absurd c (by decide), fun c => absurd c (by decide), fun _ => r_answer (go _ t2), fun c => absurd c (by decide), fun _ _ c => absurd rfl c⟩
  · exact ⟨fun c => absurd c (by decide), fun c => absurd c (by decide), fun c => absurd c (by decide), fun _ => r_answer (go _ t3), fun _ _ _ c => absurd rfl c⟩
  · refine ⟨fun c => absurd c (by decide), fun c => absurd c (by decide), fun c => absurd c (by decide), fun c => absurd c (by decide), fun _ _ _ _ => ⟨fun q => r_answer (go _ ?_), fun q => r_answer (go _ ?_)⟩⟩
    · rw [← t4, q]
    · rw [← t4]
      exact (t5.resolve_left q).symm
/-- what is owed goes to a tray -/
def cow (M : MH) (t : Nat) (s : Int32) : Nat → (Nat → Int64) → Nat → Int64
  | 0, f => f
  | i + 1, f => vp_updL (cow M t s i f) (60 * t + i) (cutL (nI (owd M i)).toInt64 s)
theorem tr_cow {so sz : Nat → Int32} {nu : Nat → Int64} {so1 sz1 : Nat → Int32} {nu1 : Nat → Int64} (h : TrayR so sz nu so1 sz1 nu1) (M : MH) (t : Nat) (s : Int32) : ∀ i, TrayR so sz (cow M t s i nu) so1 sz1 (cow M t s i nu1) := by
  intro i
  induction i with
  | zero => exact h
  | succ i ih => exact tr_put ih _ _
theorem cow_loop {M : MH} {t : Nat} {u0 u1 u2 : St} {post : Int32 → St → St → St → Prop} (ok : okH M) (h : CH u2 M) (ht : t < 4) (fin : post (nI (M 2 0)) (si u0 0 0) (sx u1 0 (cow M t (ga u1 1 t) (M 2 0) (gl u1 0))) u2) : ∀ (m i : Nat), i + m = M 2 0 → qX11_copyOwed_L61 post (m + 1) (nI t) (nI i) u0 (sx u1 0 (cow M t (ga u1 1 t) i (gl u1 0))) u2 := by
  have h7 := ok_nd ok
  have e2 : gi u2 2 = nI (M 2 0) := ch_k h (by omega)
  intro m
  induction m with
  | zero =>
    intro i hi
    have ei : i = M 2 0 := by omega
    subst ei
    refine ⟨fun _ => r_answer ?_, fun c => absurd (by rw [e2]; exact nI_le (by omega) (by omega)) c⟩
    rw [e2]
    exact fin
  | succ m ih =>
    intro i hi
    refine ⟨fun c => absurd c (by rw [e2]; exact nI_ge (by omega) (by omega)), fun _ => r_owed ok h (by omega) ⟨vp_in_nI ht (by omega), ?_⟩⟩
    rw [nI_clamp (n := t) (by omega), i_mul60, nI_clamp (n := 60 * t + i) (by omega)]
    refine r_cut ⟨vp_in_nI (by omega) (by omega), fun v ev z ez => ?_⟩
    rw [nI_1] at ez
    rw [sx_sx] at ev
    subst ev; subst ez
    exact ih (i + 1) (by omega)
theorem mcow_loop {M : MH} {t : Nat} {u : St} {post : Int32 → St → Prop} (ok : okH M) (h : MC u M) (ht : t < 4) (fin : post (nI (M 2 0)) (si (sx u 7 (cow M t (ga u 5 t) (M 2 0) (gl u 7))) 2 0)) : ∀ (m i : Nat), i + m = M 2 0 → qX12_copyOwed_L52 post (m + 1) (nI t) (nI i) (sx u 7 (cow M t (ga u 5 t) i (gl u 7))) := by
  have h7 := ok_nd ok
  intro m
  induction m with
  | zero =>
    intro i hi
    have ei : i = M 2 0 := by omega
    subst ei
    have e2 : ga (sx u 7 (cow M t (ga u 5 t) (M 2 0) (gl u 7))) 0 (2 : Int32).toNatClampNeg = nI (M 2 0) := mc_k (k := 2) h (by omega)
    refine ⟨fun _ => ?_, fun c => absurd (by rw [e2]; exact nI_le (by omega) (by omega)) c⟩
    unfold qX12_copyOwed_b94
    rw [e2]
    exact m_gives fin
  | succ m ih =>
    intro i hi
    have hM : MC (sx u 7 (cow M t (ga u 5 t) i (gl u 7))) M := h
    have e2 : ga (sx u 7 (cow M t (ga u 5 t) i (gl u 7))) 0 (2 : Int32).toNatClampNeg = nI (M 2 0) := mc_k (k := 2) h (by omega)
    refine ⟨fun c => absurd c (by rw [e2]; exact nI_ge (by omega) (by omega)), fun _ => m_owedOf ok hM (by omega) ⟨vp_in_nI ht (by omega), ?_⟩⟩
    rw [nI_clamp (n := t) (by omega), i_60mul, nI_clamp (n := 60 * t + i) (by omega)]
    refine m_cut ⟨vp_in_nI (by omega) (by omega), fun v ev z ez => ?_⟩
    rw [nI_1] at ez
    rw [sx_sx] at ev
    subst ev; subst ez
    exact ih (i + 1) (by omega)
theorem sp_copyOwed : SP_copyOwed RR := fun x cs ms h => by
  obtain ⟨M, ok, st, hc, hm, ht⟩ := rr_house h
  have hT := h.2.2.2.2.1
  have h7 := ok_nd ok
  have e2 : ga ms 0 (2 : Int32).toNatClampNeg = nI (M 2 0) := mc_k (k := 2) hm (by omega)
  have hr : ∀ v, RR (va_up (va_up (va_up cs 0 (si (cs 0) 0 v)) 2 (cs 2)) 5 (cs 5)) (si ms 2 v) := fun v => by
    rw [up_skip cs 0 2 _ (by decide), up_skip cs 0 5 _ (by decide)]
    exact rr_st h v
  refine r_isTray (fun p q => ⟨fun _ => ?_, fun c => absurd c (by decide)⟩) (fun p => ⟨fun c => absurd rfl c, fun _ => r_refuse (m_isTray (fun a b => absurd p (by omega)) (fun _ => ⟨fun c => absurd rfl c, fun _ => m_refuse ⟨rfl, hr 1⟩⟩))⟩)
  obtain ⟨t, ht3, rfl, -⟩ := i_nat (n := 3) p q
  have hcl : (nI t).toNatClampNeg = t := nI_clamp (by omega)
  obtain ⟨z1, z2, z3⟩ := hT t (by omega)
  have mt : ∀ {post : Int32 → St → Prop}, (vp_in (nI t) 4 ∧ ((¬ (ga ms 6 (nI t).toNatClampNeg) = (-1 : Int32) → (vp_in (nI t) 4 ∧ (((ga ms 0 ((2 : Int32)).toNatClampNeg) ≤ (ga ms 6 (nI t).toNatClampNeg) → ∃ n_38 : Nat, qX12_copyOwed_L52 post n_38 (nI t) (0 : Int32) ms) ∧ (¬ (ga ms 0 ((2 : Int32)).toNatClampNeg) ≤ (ga ms 6 (nI t).toNatClampNeg) → qX12_refuse (3 : Int32) ms (fun r_40 u_39 => post r_40 u_39))))) ∧ ((ga ms 6 (nI t).toNatClampNeg) = (-1 : Int32) → qX12_refuse (2 : Int32) ms (fun r_43 u_42 => post r_43 u_42)))) → qX12_copyOwed (nI t) ms post := fun f => m_isTray (fun _ _ => ⟨fun _ => f, fun c => absurd c (by decide)⟩) (fun a => absurd a (by omega))
  have hin : vp_in (nI t) 4 := vp_in_nI (by omega) (by omega)
  rw [hcl, ← z2, e2] at mt
  refine r_isMissing p q (fun c => ⟨fun c => absurd c (by decide), fun _ => r_refuse (mt ⟨hin, fun c2 => absurd (by rw [hcl] at c; exact c) c2, fun _ => m_refuse ⟨rfl, hr 2⟩⟩)⟩) (fun c => ⟨fun _ => ⟨hin, ?_⟩, fun c => absurd rfl c⟩)
  rw [hcl] at c
  rw [hcl, show gi (cs 5) 2 = nI (M 2 0) from ch_k hc (by omega)]
  refine ⟨fun c2 => ⟨M 2 0 + 1, ?_⟩, fun c2 => r_refuse (mt ⟨hin, fun _ => ⟨hin, fun c3 => absurd c3 c2, fun _ => m_refuse ⟨rfl, hr 3⟩⟩, fun c3 => absurd c3 c⟩)⟩
  have l1 := cow_loop (u0 := cs 0) (u1 := cs 2) (u2 := cs 5) (post := fun r u0 u2 u5 => qX12_copyOwed (nI t) ms (fun r1 ms1 => r = r1 ∧ RR (va_up (va_up (va_up cs 0 u0) 2 u2) 5 u5) ms1)) ok hc (t := t) (by omega) (mt ⟨hin, fun _ => ⟨hin, fun _ => ⟨M 2 0 + 1, ?_⟩, fun c3 => absurd c2 c3⟩, fun c3 => absurd c3 c⟩) (M 2 0) 0 (by omega)
  · rw [show cow M t (ga (cs 2) 1 t) 0 (gl (cs 2) 0) = gl (cs 2) 0 from rfl, sx_same] at l1
    exact l1
  · have l2 := mcow_loop (post := fun r1 ms1 => nI (M 2 0) = r1 ∧ RR (va_up (va_up (va_up cs 0 (si (cs 0) 0 0)) 2 (sx (cs 2) 0 (cow M t (ga (cs 2) 1 t) (M 2 0) (gl (cs 2) 0)))) 5 (cs 5)) ms1) ok hm (t := t) (by omega) ⟨rfl, ?_⟩ (M 2 0) 0 (by omega)
    · rw [show cow M t (ga ms 5 t) 0 (gl ms 7) = gl ms 7 from rfl, sx_same] at l2
      exact l2
    · have e := up_same (va_up (va_up cs 0 (si (cs 0) 0 0)) 2 (sx (cs 2) 0 (cow M t (ga (cs 2) 1 t) (M 2 0) (gl (cs 2) 0)))) 5
      change va_up _ 5 (cs 5) = _ at e
      rw [e, ← z1]
      exact rr_trayN h 0 (tr_cow hT M t _ _)
