/-! STEPS 43: a house is read whole -/
abbrev RH : Type := Sum MH (Nat × Nat)
def rdH (T : Nat → Nat) (n : Nat) : RH := pHs T n 901 M00 false (tok T n 0) (fun M => Sum.inl M) (fun f p => Sum.inr (f, p))
theorem c_rdHouse {T : Nat → Nat} {n : Nat} {u0 u1 u2 u3 : St} {post : St → St → St → St → Prop} (h : txR (ga u2 0) T n) (h1 : ∀ u0' u1' u3' M, gi u1' 8 = 0 → okH M → CH u3' (fal M) → rdH T n = Sum.inl M → post u0' u1' u2 u3') (h0 : ∀ u0' u1' u3' f pl, fdC u1' f pl → rdH T n = Sum.inr (f, pl) → post u0' u1' u2 u3') : qX6_readHouse (nI n) u0 u1 u2 u3 post := by
  refine c_clear (fun u3' hM v ev => c_begin h (fun u' ht => ⟨902, ?_⟩))
  exact ch_loop (K := fun M => Sum.inl M) (F := fun f p => Sum.inr (f, p)) (r := rdH T n) h (fun a b c M g ok hM e => ⟨fun z => absurd g z, fun _ => r_settle ok hM (fun c' hc => h1 a b c' M g ok hc e.symm)⟩) (fun a c b f pl hf e => ⟨fun _ => h0 a b c f pl hf e.symm, fun z => absurd z (fdC_n hf)⟩) 901 0 M00 false (tok T n 0) v u' u3' rfl M00_ok hM ht (by rw [ev]; rfl) rfl
theorem mS.end0 {u0 : St} {T : Nat → Nat} {n m : Nat} {t : Tk} {E : Ex} {A : Nat → Int32} {NM : Nat → Int64} {u : St} (h : mS u0 T n m t E A NM u) : gi u 12 = 0 ↔ t.1 = 0 := by
  rw [h.1.2.1]
  have h4 := h.2.1.1
  unfold kM
  constructor
  · intro q
    split at q
    · exact absurd q (by decide)
    · split at q
      · exact absurd q (by decide)
      · split at q
        · exact absurd q (by decide)
        · split at q
          · exact absurd q (by decide)
          · omega
  · intro q
    rw [q]
    rfl
theorem rh_loop {R : Type} {r : R} {u0 : St} {T : Nat → Nat} {n : Nat} {K : MH → R} {F : Nat → Nat → R} {post : Int32 → St → Prop} (h1 : ∀ u' t' A' NM' M' E', mS u0 T n 0 t' E' A' NM' u' → okH M' → hR A' NM' M' → K M' = r → qX12_house_b50 post u') (h0 : ∀ u' f pl, mF u0 f pl u' → F f pl = r → qX12_house_b50 post u') : ∀ (m i : Nat) (M : MH) (o : Bool) (t : Tk) (E : Ex) (A : Nat → Int32) (NM : Nat → Int64) (u : St), i + m = 901 → okH M → hR A NM M → mS u0 T n i t E A NM u → (E.1 = if o then 1 else 0) → pHs T n m M o t K F = r → qX12_house_L31 post (m + 2) 1 u := by
  intro m
  induction m with
  | zero =>
    intro i M o t E A NM u hi ok hM h ho hp
    have hn := h.2.2.1.1
    have hw := h.2.2.2.2.2.2.2.2.2
    have ht := h.2.1.2.2.1
    have t0 : t.1 = 0 := by
      unfold wt at hw
      by_cases c : t.1 = 0
      · exact c
      · rw [if_neg c] at hw
        omega
    refine ⟨fun z => absurd z (by decide), fun _ => ⟨fun _ => h1 u t A NM M E (h.le (Nat.zero_le _)) ok hM hp, fun z => absurd (h.end0.mpr t0) z⟩⟩
  | succ m ih =>
    intro i M o t E A NM u hi ok hM h ho hp
    rw [pHs] at hp
    refine ⟨fun z => absurd z (by decide), fun _ => ⟨fun c => ?_, fun c => ?_⟩⟩
    · rw [if_pos (h.end0.mp c)] at hp
      exact h1 u t A NM M E (h.le (Nat.zero_le _)) ok hM hp
    · rw [if_neg (fun q => c (h.end0.mpr q))] at hp
      refine d_part ok h hM ho hp (fun u' t' A' NM' M' E' o' a b c d e => ih (i + 1) M' o' t' E' A' NM' u' (by omega) b c a d e) (fun u' f pl a e => ?_)
      exact ⟨fun _ => h0 u' f pl a e, fun z => absurd rfl z⟩
/-- rows of numbers and names alone differ -/
def smR (u0 : St) (A : Nat → Int32) (NM : Nat → Int64) (u : St) : Prop := (∀ k, gi u k = gi u0 k) ∧ (∀ k, gj u k = gj u0 k) ∧ (∀ k, k ≠ 0 → ga u k = ga u0 k) ∧ (∀ k, k ≠ 1 → gl u k = gl u0 k) ∧ ga u 0 = A ∧ gl u 1 = NM
theorem smR.sw {u0 u : St} {A : Nat → Int32} {NM : Nat → Int64} (h : smR u0 A NM u) (j : Nat) (x : Int32) : smR u0 (upd A j x) NM (sw u 0 (upd (ga u 0) j x)) := by
  obtain ⟨a, b, c, d, e, f⟩ := h
  refine ⟨a, b, fun k hk => ?_, d, ?_, f⟩
  · rw [ga_sw, if_neg hk]; exact c k hk
  · rw [ga_sw, if_pos rfl, e]
theorem smR.sx {u0 u : St} {A : Nat → Int32} {NM : Nat → Int64} (h : smR u0 A NM u) (j : Nat) (x : Int64) : smR u0 A (vp_updL NM j x) (sx u 1 (vp_updL (gl u 1) j x)) := by
  obtain ⟨a, b, c, d, e, f⟩ := h
  refine ⟨a, b, c, fun k hk => ?_, e, ?_⟩
  · rw [gl_sx, if_neg hk]; exact d k hk
  · rw [gl_sx, if_pos rfl, f]
theorem hn_loop {u0 : St} {A : Nat → Int32} {N0 : Nat → Int64} {post : Int32 → St → Prop} (fin : ∀ u NM, smR u0 A NM u → (∀ j, NM j = if j < 5 then N0 (20 + j) else N0 j) → qX12_house_b116 post u) : ∀ (k i : Nat) (NM : Nat → Int64) (u : St), i + k = 5 → smR u0 A NM u → (∀ j, NM j = if j < i then N0 (20 + j) else N0 j) → qX12_house_L90 post (k + 1) (nI i) u := by
  intro k
  induction k with
  | zero =>
    intro i NM u hi h hA
    have : i = 5 := by omega
    subst this
    exact ⟨fun _ => fin u NM h hA, fun c => absurd (by decide) c⟩
  | succ k ih =>
    intro i NM u hi h hA
    have ei : (20 : Int32) + nI i = nI (20 + i) := nI_add 20 i
    refine ⟨fun c => absurd c (nI_ge (b := 5) (by omega) (by omega)), fun _ => ?_⟩
    rw [ei, nI_clamp (by omega), nI_clamp (by omega)]
    refine ⟨vp_in_nI (by omega) (by omega), vp_in_nI (by omega) (by omega), fun u1 e1 x ex => ?_⟩
    rw [nI_1] at ex
    subst ex
    have h1 := h.sx i (gl u 1 (20 + i))
    rw [← e1] at h1
    refine ih (i + 1) _ u1 (by omega) h1 (fun j => ?_)
    rw [updL_at, h.2.2.2.2.2, hA, hA]
    by_cases c : j = i
    · subst c
      rw [if_pos rfl, if_neg (by omega), if_pos (by omega)]
    · rw [if_neg c]
      by_cases c2 : j < i
      · rw [if_pos c2, if_pos (by omega)]
      · rw [if_neg c2, if_neg (by omega)]
theorem hc_loop {u0 : St} {A0 : Nat → Int32} {NM : Nat → Int64} {post : Int32 → St → Prop} (fin : ∀ u A, smR u0 A NM u → (∀ j, A j = if j < 456 then A0 (1824 + j) else A0 j) → qX12_house_b88 post u) : ∀ (k i : Nat) (A : Nat → Int32) (u : St), i + k = 456 → smR u0 A NM u → (∀ j, A j = if j < i then A0 (1824 + j) else A0 j) → qX12_house_L59 post (k + 1) (nI i) u := by
  intro k
  induction k with
  | zero =>
    intro i A u hi h hA
    have : i = 456 := by omega
    subst this
    exact ⟨fun _ => fin u A h hA, fun c => absurd (by decide) c⟩
  | succ k ih =>
    intro i A u hi h hA
    have ei : (1824 : Int32) + nI i = nI (1824 + i) := nI_add 1824 i
    refine ⟨fun c => absurd c (nI_ge (b := 456) (by omega) (by omega)), fun _ => ?_⟩
    rw [ei, nI_clamp (by omega), nI_clamp (by omega)]
    refine ⟨vp_in_nI (by omega) (by omega), vp_in_nI (by omega) (by omega), fun u1 e1 x ex => ?_⟩
    rw [nI_1] at ex
    subst ex
    have h1 := h.sw i (ga u 0 (1824 + i))
    rw [← e1] at h1
    refine ih (i + 1) _ u1 (by omega) h1 (fun j => ?_)
    rw [upd_at, h.2.2.2.2.1, hA, hA]
    by_cases c : j = i
    · subst c
      rw [if_pos rfl, if_neg (by omega), if_pos (by omega)]
    · rw [if_neg c]
      by_cases c2 : j < i
      · rw [if_pos c2, if_pos (by omega)]
      · rw [if_neg c2, if_neg (by omega)]
theorem MR_shift {a a1 : Nat → Int32} {nm nm1 : Nat → Int64} {M : MH} (ok : okH M) (ha : ∀ j, j < 88 → a1 j = a (1824 + j)) (hn : ∀ j, j < 5 → nm1 j = nm (20 + j)) (h : MR a nm 1824 20 M) : MR a1 nm1 0 0 M := by
  have o0 := ok_ns ok
  have o1 := ok_np ok
  have o2 := ok_nd ok
  obtain ⟨h1, h2, h3, h4⟩ := h
  have E : ∀ j k, j < 88 → k = 1824 + j → a1 j = a k := fun j k hj e => by rw [e]; exact ha j hj
  refine ⟨fun k hk => (E _ (1824 + k) (by omega) (by omega)).trans (h1 k hk), fun s hs => ?_, fun p hp => ⟨(E _ _ (by omega) (by omega)).trans (h3 p hp).1, ?_⟩, fun d hd => ?_⟩
  · have := h2 s hs
    exact ⟨(E _ _ (by omega) (by omega)).trans this.1, (E _ _ (by omega) (by omega)).trans this.2.1, (E _ _ (by omega) (by omega)).trans this.2.2⟩
  · rw [Nat.zero_add]
    exact (hn p (by omega)).trans (h3 p hp).2
  · have := h4 d hd
    exact ⟨(E _ _ (by omega) (by omega)).trans this.1, (E _ _ (by omega) (by omega)).trans this.2.1, (E _ _ (by omega) (by omega)).trans this.2.2.1, (E _ _ (by omega) (by omega)).trans this.2.2.2.1, (E _ _ (by omega) (by omega)).trans this.2.2.2.2.1, (E _ _ (by omega) (by omega)).trans this.2.2.2.2.2.1, (E _ _ (by omega) (by omega)).trans this.2.2.2.2.2.2⟩
/-- what reading leaves as it was in the reference -/
def rdF (b v : St) : Prop := (∀ k, k < 12 → k ≠ 2 → gi v k = gi b k) ∧ (∀ k, 23 < k → gi v k = gi b k) ∧ (∀ k, gj v k = gj b k) ∧ (∀ k, k ≠ 0 → k ≠ 21 → ga v k = ga b k) ∧ (∀ k, k ≠ 1 → gl v k = gl b k) ∧ (∀ j, 456 ≤ j → j < 1824 → ga v 0 j = ga b 0 j) ∧ ∀ j, 5 ≤ j → j < 20 → gl v 1 j = gl b 1 j
theorem MkR_cong2 {k h0 h1 h2 t0 t1 t2 : St} {mk : Int32} {a a1 : Nat → Int32} {nm nm1 : Nat → Int64} (ha : ∀ j, 456 ≤ j → j < 1824 → a1 j = a j) (hn : ∀ j, 5 ≤ j → j < 20 → nm1 j = nm j) (q : MkR k h0 h1 h2 t0 t1 t2 mk a nm) : MkR k h0 h1 h2 t0 t1 t2 mk a1 nm1 := by
  obtain ⟨q1, n, q2, q3, q4, q5, q6⟩ := q
  exact ⟨q1, n, q2, q3, fun c => SlR_congr (fun j hj => ha _ (by omega) (by omega)) (fun j hj => hn _ (by omega) (by omega)) (q4 c), fun c => SlR_congr (fun j hj => ha _ (by omega) (by omega)) (fun j hj => hn _ (by omega) (by omega)) (q5 c), fun c => SlR_congr (fun j hj => ha _ (by omega) (by omega)) (fun j hj => hn _ (by omega) (by omega)) (q6 c)⟩
theorem rr_rd {cs cs' : Nat → St} {ms b v : St} (h : RR cs ms) (e0 : gi (cs' 0) 0 = gi v 2) (ej : gj (cs' 0) 1 = gj (cs 0) 1 ∧ gj (cs' 0) 2 = gj (cs 0) 2) (e4 : gi (cs' 0) 4 = 0) (ef : gi (cs' 0) 12 = gi v 16 ∧ gi (cs' 0) 13 = gi v 17) (ek : ∀ k, k = 2 ∨ 9 ≤ k → cs' k = cs k) (hb : bgF ms b) (hv : rdF b v) (hs : SlR (cs' 5) (cs' 7) (ga v 0) (gl v 1) 0) : RR cs' v := by
  obtain ⟨q1, q2, q3, q4, q5, q6, q7, q8⟩ := h
  obtain ⟨b1, b2, b3, b4, b5⟩ := hb
  obtain ⟨v1, v2, v3, v4, v5, v6, v7⟩ := hv
  refine ⟨e0, ⟨?_, ?_⟩, ⟨?_, 0, Nat.zero_le _, e4, fun j hj => absurd hj (by omega)⟩, ef, ?_, hs, ?_, ?_⟩
  · rw [ej.1, v3, b3]; exact q2.1
  · rw [ej.2, v3, b3]; exact q2.2
  · rw [e4, v1 10 (by omega) (by omega), b2]
  · rw [ek 2 (by omega), v4 5 (by omega) (by omega), v4 6 (by omega) (by omega), v5 7 (by omega), b4 5 (by omega), b4 6 (by omega), b5]
    exact q5
  · rw [ek 9 (by omega), ek 10 (by omega), ek 11 (by omega), ek 12 (by omega), ek 13 (by omega), ek 14 (by omega), ek 15 (by omega), v2 39 (by omega), b1 39 (by omega) (by omega) (by omega) (by omega) (by omega) (by omega)]
    refine MkR_cong2 (fun j h1 h2 => ?_) (fun j h1 h2 => ?_) q7
    · rw [v6 j h1 h2, b4 0 (by omega)]
    · rw [v7 j h1 h2, b5]
  · rw [ek 16 (by omega), v2 38 (by omega), v4 37 (by omega) (by omega), b1 38 (by omega) (by omega) (by omega) (by omega) (by omega) (by omega), b4 37 (by omega)]
    exact q8
theorem nI_f0 {f : Nat} (h1 : 1 ≤ f) (h7 : f ≤ 7) : ¬ nI f = 0 ∧ ¬ nI f ≤ 0 := by
  refine ⟨fun q => ?_, fun q => ?_⟩
  · have := (nI_eq (b := 0) (by omega) (by omega)).mp q
    omega
  · rw [i_le, nI_toInt (by omega), show (0 : Int32).toInt = 0 from rfl] at q
    omega
/-- a fault was met: what is told of it -/
theorem m_taken0 {x : Int32} {b u : St} {f pl : Nat} {post : Int32 → St → Prop} (h : mF b f pl u) (fin : ∀ v, rdF b v → (∀ j, j < 1824 → ga v 0 j = ga b 0 j) → (∀ j, j < 20 → gl v 1 j = gl b 1 j) → gi v 2 = 9 → gi v 16 = nI f → gi v 17 = nI pl → post (-1) v) : qX12_taken x u post := by
  obtain ⟨⟨f1, f2⟩, h1, h7, a, c, d, e, g, i⟩ := h
  intro u1 e1
  have g18 : gi u1 18 = nI f := by rw [e1, gi_si, if_neg (by omega)]; exact f1
  refine ⟨fun z => absurd z (by rw [g18]; exact (nI_f0 h1 h7).2), fun _ v ev => ?_⟩
  have gI : ∀ k, gi v k = if k = 2 then 9 else if k = 16 then nI f else gi u k := fun k => by rw [ev, gi_si, e1, gi_si, f1]
  have gA : ∀ k, ga v k = ga u k := fun k => by rw [ev, e1]; rfl
  have gJ : ∀ k, gj v k = gj u k := fun k => by rw [ev, e1]; rfl
  have gL : ∀ k, gl v k = gl u k := fun k => by rw [ev, e1]; rfl
  refine fin v ⟨fun k h h2 => ?_, fun k h => ?_, fun k => ?_, fun k h h2 => ?_, fun k h => ?_, fun j h h2 => ?_, fun j h h2 => ?_⟩ (fun j h => ?_) (fun j h => ?_) ?_ ?_ ?_
  · rw [gI, if_neg h2, if_neg (by omega)]; exact a k (by omega)
  · rw [gI, if_neg (by omega), if_neg (by omega)]; exact a k (by omega)
  · rw [gJ]; exact c k
  · rw [gA]; exact d k h h2
  · rw [gL]; exact e k h
  · rw [gA]; exact g j (by omega)
  · rw [gL]; exact i j (by omega)
  · rw [gA]; exact g j (by omega)
  · rw [gL]; exact i j (by omega)
  · rw [gI]; rfl
  · rw [gI]; rfl
  · rw [gI, if_neg (by omega), if_neg (by omega)]; exact f2
theorem m_rdHouse {T : Nat → Nat} {n : Nat} {b u : St} {A : Nat → Int32} {NM : Nat → Int64} {post : Int32 → St → Prop} (h : mS b T n 0 (tok T n 0) (exO b) A NM u) (h1 : ∀ v M, okH M → rdH T n = Sum.inl M → rdF b v → MC v (fal M) → ga v 0 7 = -1 → gi v 2 = 0 → gi v 16 = 0 → gi v 17 = -1 → post (nI (M 2 0)) v) (h0 : ∀ v f pl, rdH T n = Sum.inr (f, pl) → rdF b v → (∀ j, j < 1824 → ga v 0 j = ga b 0 j) → (∀ j, j < 20 → gl v 1 j = gl b 1 j) → gi v 2 = 9 → gi v 16 = nI f → gi v 17 = nI pl → post (-1) v) : qX12_plain (1824 : Int32) u (fun u_47 => ∀ u_49 : St, u_49 = (si u_47 20 (0 : Int32)) → ∃ n_50 : Nat, qX12_house_L31 post n_50 (1 : Int32) u_49) := by
  refine ⟨457, pl_loop (fun u A1 h hA u1 e1 => ⟨903, ?_⟩) 456 0 A u (by omega) h (fun j => by rw [if_neg (by omega)])⟩
  have h := h.odd 0
  rw [← e1] at h
  refine rh_loop (K := fun M => Sum.inl M) (F := fun f p => Sum.inr (f, p)) (r := rdH T n) (fun u t A NM M E h ok hM e => ?_) (fun u f pl hf e => ?_) 901 0 M00 false (tok T n 0) _ A1 NM u1 (by omega) M00_ok (hr_0 hA) h rfl rfl
  · obtain ⟨z1, z2, z3, z4, z5, z6, z7, z8, z9, z10⟩ := h
    refine ⟨fun z => absurd z4 z, fun _ => ⟨457, hc_loop (u0 := u) (A0 := A) (NM := NM) (fun u2 A2 s2 hA2 => ⟨6, hn_loop (u0 := u) (A := A2) (N0 := NM) (fun u3 N3 s3 hN3 => ?_) 5 0 NM u2 (by omega) s2 (fun j => by rw [if_neg (by omega)])⟩) 456 0 A u (by omega) ⟨fun _ => rfl, fun _ => rfl, fun _ _ => rfl, fun _ _ => rfl, z6, z7⟩ (fun j => by rw [if_neg (by omega)])⟩⟩
    obtain ⟨s1, s2', s3', s4, s5, s6⟩ := s3
    have hmc : MC u3 M := by
      refine MR_shift (a := A) (nm := NM) ok (fun j hj => ?_) (fun j hj => ?_) hM.1
      · rw [s5, hA2, if_pos (by omega)]
      · rw [s6, hN3, if_pos (by omega)]
    refine m_falling_x ok hmc ?_
    have hmf : MC (flS M u3) (fal M) := mc_up5 ok hmc
    have e2 : ga (flS M u3) 0 (2 : Int32).toNatClampNeg = nI (M 2 0) := (mc_k (k := 2) hmf (by omega)).trans (congrArg nI (fal_ne (by decide)))
    show qX12_taken (ga (flS M u3) 0 (2 : Int32).toNatClampNeg) (flS M u3) _
    rw [e2]
    intro u4 e4
    have g18 : gi u3 18 = 0 := (s1 18).trans z4
    have gI4 : ∀ k, gi u4 k = if k = 16 then 0 else gi u k := fun k => by
      rw [e4, gi_si]
      unfold flS
      rw [gi_sw, gi_sw, g18, s1]
    refine ⟨fun _ v ev => ?_, fun z => absurd (by rw [gI4, if_neg (by omega), z4]; decide) z⟩
    have gI : ∀ k, gi v k = if k = 2 then 0 else if k = 16 then 0 else gi u k := fun k => by rw [ev, gi_si, gI4]
    have gA : ∀ k, k ≠ 0 → ga v k = ga u k := fun k hk => by
      rw [ev, ga_si, e4, ga_si]
      unfold flS
      rw [ga_sw, if_neg hk]
      exact s3' k hk
    have gA0 : ∀ j, j ≠ 5 → ga v 0 j = if j < 456 then A (1824 + j) else A j := fun j hj => by
      rw [ev, ga_si, e4, ga_si]
      unfold flS
      rw [ga_sw, if_pos rfl, upd_at, if_neg hj, s5, hA2]
    have gJ : ∀ k, gj v k = gj u k := fun k => by rw [ev, gj_si, e4, gj_si]; exact s2' k
    have gL : ∀ k, gl v k = gl u3 k := fun k => by rw [ev, gl_si, e4, gl_si]; rfl
    obtain ⟨j1, j2, j3, j4, j5, j6⟩ := z9
    refine h1 v M ok e.symm ⟨fun k h h2 => ?_, fun k h => ?_, fun k => ?_, fun k h h2 => ?_, fun k h => ?_, fun j h h2 => ?_, fun j h h2 => ?_⟩ ?_ ?_ ?_ ?_ ?_
    · rw [gI, if_neg h2, if_neg (by omega)]; exact j1 k (by omega)
    · rw [gI, if_neg (by omega), if_neg (by omega)]; exact j1 k (by omega)
    · rw [gJ]; exact j2 k
    · rw [gA k h]; exact j3 k h h2
    · rw [gL]; exact (s4 k h).trans (j4 k h)
    · rw [gA0 j (by omega), if_neg (by omega), ← z6]; exact j5 j (by omega)
    · rw [gL, s6, hN3, if_neg (by omega), ← z7]; exact j6 j (by omega)
    · rw [ev, e4]; exact hmf
    · rw [gA0 7 (by omega), if_pos (by omega)]; exact hM.2
    · rw [gI]; rfl
    · rw [gI]; rfl
    · rw [gI, if_neg (by omega), if_neg (by omega)]; exact z5
  · refine ⟨fun _ => ?_, fun z => absurd z (by rw [hf.1.1]; exact (nI_f0 hf.2.1 hf.2.2.1).1)⟩
    exact m_taken0 hf (fun v a1 a2 a3 a4 a5 a6 => h0 v f pl e.symm a1 a2 a3 a4 a5 a6)
