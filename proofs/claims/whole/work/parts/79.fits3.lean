/-! STEPS 16: fits, fitsAt, ask -/
theorem r_twos {u0 u1 ms : St} {x1 x2 x3 : Int32} (hT : TrayR (ga u1 1) (ga u1 2) (gl u1 0) (ga ms 5) (ga ms 6) (gl ms 7)) : ∃ c : Int32, (∀ post : Int32 → St → St → Prop, post c u0 u1 → qX11_lookAtTwos x1 x2 x3 u0 u1 post) ∧ (∀ post : Int32 → St → Prop, post c ms → qX12_wrongSeen x1 x2 x3 ms post) ∧ ((c = 0 ∧ ∃ (a t n : Nat) (Y L : Nat → Nat), a ≤ 99 ∧ t < 4 ∧ n ≤ 20 ∧ x1 = nI a ∧ x2 = nI t ∧ x3 = nI n ∧ twR t n (gl u1 0) Y L ∧ twR t n (gl ms 7) Y L) ∨ 0 < c.toInt) := by
  by_cases g1 : 1 ≤ x1.toInt ∧ x1.toInt ≤ 99
  · by_cases g2 : 0 ≤ x2.toInt ∧ x2.toInt ≤ 3
    · by_cases g3 : 0 ≤ x3.toInt ∧ x3.toInt ≤ 20
      · obtain ⟨a, ha, rfl, -⟩ := i_nat (n := 99) (by omega) g1.2
        obtain ⟨t, ht, rfl, -⟩ := i_nat (n := 3) g2.1 g2.2
        obtain ⟨n, hn, rfl, -⟩ := i_nat (n := 20) g3.1 g3.2
        have ecl : (nI t).toNatClampNeg = t := nI_clamp (by omega)
        have hin : vp_in (nI t) 4 := vp_in_nI (by omega) (by omega)
        obtain ⟨z1, z2, z3⟩ := hT t (by omega)
        have cl : ∀ (post : Int32 → St → St → Prop), qX9_isMissing (nI t) u1 (fun r_41 u_40 => ((r_41 = 0 → (vp_in (nI t) 4 ∧ ((((2 : Int32) * nI n) ≤ (ga u_40 2 (nI t).toNatClampNeg) → ∃ n_45 : Nat, qX11_lookAtTwos_L66 post n_45 (nI t) (nI n) (0 : Int32) u0 u_40) ∧ (¬ ((2 : Int32) * nI n) ≤ (ga u_40 2 (nI t).toNatClampNeg) → post (3 : Int32) u0 u_40)))) ∧ (¬ r_41 = 0 → post (2 : Int32) u0 u_40))) → qX11_lookAtTwos (nI a) (nI t) (nI n) u0 u1 post := fun post q => r_within 1 99 rfl rfl (fun _ _ => ⟨fun c => absurd c (by decide), fun _ => r_isTray (fun _ _ => ⟨fun c => absurd c (by decide), fun _ => r_within 0 20 rfl rfl (fun _ _ => ⟨fun _ => q, fun c => absurd c (by decide)⟩) (fun c => absurd c (by omega))⟩) (fun c => absurd c (by omega))⟩) (fun c => absurd c (by omega))
        have mo : ∀ (post : Int32 → St → Prop), (vp_in (nI t) 4 ∧ ((¬ (ga ms 6 (nI t).toNatClampNeg) = (-1 : Int32) → (vp_in (nI t) 4 ∧ ((((2 : Int32) * nI n) ≤ (ga ms 6 (nI t).toNatClampNeg) → ∃ n_32 : Nat, qX12_wrongSeen_L62 post n_32 (nI t) (nI n) (0 : Int32) ms) ∧ (¬ ((2 : Int32) * nI n) ≤ (ga ms 6 (nI t).toNatClampNeg) → post (3 : Int32) ms)))) ∧ ((ga ms 6 (nI t).toNatClampNeg) = (-1 : Int32) → post (2 : Int32) ms))) → qX12_wrongSeen (nI a) (nI t) (nI n) ms post := fun post q => m_isFrom 1 99 rfl rfl (fun _ _ => ⟨fun c => absurd c (by decide), fun _ => m_isTray (fun _ _ => ⟨fun c => absurd c (by decide), fun _ => m_isFrom 0 20 rfl rfl (fun _ _ => ⟨fun _ => q, fun c => absurd c (by decide)⟩) (fun c => absurd c (by omega))⟩) (fun c => absurd c (by omega))⟩) (fun c => absurd c (by omega))
        rw [ecl, ← z2, i_2] at mo
        rw [ecl, i_2] at cl
        rcases z3 with z3 | ⟨k, hk, z3, z4⟩
        · exact ⟨2, fun post hp => cl post (r_isMissing g2.1 g2.2 (fun _ => ⟨fun c => absurd c (by decide), fun _ => hp⟩) (fun c => absurd (by rw [ecl]; exact z3) c)), fun post hp => mo post ⟨hin, fun c => absurd z3 c, fun _ => hp⟩, Or.inr (by decide)⟩
        · have nm : ¬ ga u1 2 t = -1 := by rw [z3]; exact nI_m1 (by omega)
          by_cases q : 2 * n ≤ k
          · obtain ⟨c, f1, f2, f3, f4⟩ := twos_loop (t := t) (n := n) (u0 := u0) (u1 := u1) (ms := ms) (by omega) hn (fun j hj => z4 j (by omega)) n 0 (by omega) (fun i hi => absurd hi (by omega))
            refine ⟨c, fun post hp => cl post (r_isMissing g2.1 g2.2 (fun c => absurd (by rw [ecl] at c; exact c) nm) (fun _ => ⟨fun _ => ⟨hin, fun _ => ⟨_, f1 post hp⟩, fun c => absurd (by rw [z3]; exact nI_le q (by omega)) c⟩, fun c => absurd rfl c⟩)), fun post hp => mo post ⟨hin, fun _ => ⟨hin, fun _ => ⟨_, f2 post hp⟩, fun c => absurd (by rw [z3]; exact nI_le q (by omega)) c⟩, fun c => absurd c nm⟩, ?_⟩
            rcases f3 with rfl | rfl
            · have w := f4 rfl
              refine Or.inl ⟨rfl, a, t, n, _, _, ha, by omega, hn, rfl, rfl, rfl, w, fun i hi => ?_⟩
              obtain ⟨w1, w2, w3, w4⟩ := w i hi
              rw [← z4 (2 * i) (by omega), ← z4 (2 * i + 1) (by omega)]
              exact ⟨w1, w2, w3, w4⟩
            · exact Or.inr (by decide)
          · have q' : ¬ nI (2 * n) ≤ ga u1 2 t := by rw [z3]; exact nI_ge (by omega) (by omega)
            exact ⟨3, fun post hp => cl post (r_isMissing g2.1 g2.2 (fun c => absurd (by rw [ecl] at c; exact c) nm) (fun _ => ⟨fun _ => ⟨hin, fun c => absurd c q', fun _ => hp⟩, fun c => absurd rfl c⟩)), fun post hp => mo post ⟨hin, fun _ => ⟨hin, fun c => absurd c q', fun _ => hp⟩, fun c => absurd c nm⟩, Or.inr (by decide)⟩
      · exact ⟨1, fun post hp => r_within 1 99 rfl rfl (fun _ _ => ⟨fun c => absurd c (by decide), fun _ => r_isTray (fun _ _ => ⟨fun c => absurd c (by decide), fun _ => r_within 0 20 rfl rfl (fun p q => absurd ⟨p, q⟩ g3) (fun _ => ⟨fun c => absurd rfl c, fun _ => hp⟩)⟩) (fun c => absurd c (by omega))⟩) (fun c => absurd c (by omega)), fun post hp => m_isFrom 1 99 rfl rfl (fun _ _ => ⟨fun c => absurd c (by decide), fun _ => m_isTray (fun _ _ => ⟨fun c => absurd c (by decide), fun _ => m_isFrom 0 20 rfl rfl (fun p q => absurd ⟨p, q⟩ g3) (fun _ => ⟨fun c => absurd rfl c, fun _ => hp⟩)⟩) (fun c => absurd c (by omega))⟩) (fun c => absurd c (by omega)), Or.inr (by decide)⟩
    · exact ⟨1, fun post hp => r_within 1 99 rfl rfl (fun _ _ => ⟨fun c => absurd c (by decide), fun _ => r_isTray (fun p q => absurd ⟨p, q⟩ g2) (fun _ => ⟨fun _ => hp, fun c => absurd rfl c⟩)⟩) (fun c => absurd c (by omega)), fun post hp => m_isFrom 1 99 rfl rfl (fun _ _ => ⟨fun c => absurd c (by decide), fun _ => m_isTray (fun p q => absurd ⟨p, q⟩ g2) (fun _ => ⟨fun _ => hp, fun c => absurd rfl c⟩)⟩) (fun c => absurd c (by omega)), Or.inr (by decide)⟩
  · exact ⟨1, fun post hp => r_within 1 99 rfl rfl (fun p q => absurd ⟨p, q⟩ g1) (fun _ => ⟨fun _ => hp, fun c => absurd rfl c⟩), fun post hp => m_isFrom 1 99 rfl rfl (fun p q => absurd ⟨p, q⟩ g1) (fun _ => ⟨fun _ => hp, fun c => absurd rfl c⟩), Or.inr (by decide)⟩
theorem rr_19 {cs : Nat → St} {ms u : St} (h : RR cs ms) (v : Int32) (f : Nat → Int32) : RR (va_up (va_up (va_up cs 0 (si (cs 0) 0 v)) 2 (cs 2)) 19 u) (si (sw ms 28 f) 2 v) := by
  obtain ⟨h1, h2, h3, h4, h5, h6, h7, h8⟩ := h
  exact ⟨rfl, h2, h3, h4, h5, h6, h7, h8⟩
theorem rr_19s {cs : Nat → St} {ms u : St} (h : RR cs ms) (v : Int32) : RR (va_up (va_up (va_up cs 0 (si (cs 0) 0 v)) 2 (cs 2)) 19 u) (si ms 2 v) := by
  obtain ⟨h1, h2, h3, h4, h5, h6, h7, h8⟩ := h
  exact ⟨rfl, h2, h3, h4, h5, h6, h7, h8⟩
theorem ne_0 {c : Int32} (h : 0 < c.toInt) : ¬ c = 0 := fun q => by
  rw [q] at h
  exact absurd h (by decide)
theorem sp_fits : SP_fits RR := fun x y z cs ms h => by
  obtain ⟨c, f1, f2, hc⟩ := r_twos (u0 := cs 0) (x1 := x) (x2 := y) (x3 := z) h.2.2.2.2.1
  refine f1 _ ?_
  rcases hc with ⟨rfl, a, t, n, Y, L, ha, ht, hn, rfl, rfl, rfl, w1, w2⟩ | hp
  · refine ⟨fun _ => r_fitting ha ht hn w1 (fun f hf => r_bc20 (stF_lt _ 20) (r_answer (f2 _ ⟨fun _ => m_laysFits ha ht hn w2 (fun g hg => m_gives ⟨?_, rr_19 h 0 g⟩), fun c => absurd (by decide) c⟩))), fun c => absurd rfl c⟩
    rw [stF_pc _ 20 (by omega)]
  · exact ⟨fun c => absurd c (ne_0 hp), fun _ => r_refuse (f2 _ ⟨fun c => absurd c (pos_le hp), fun _ => m_refuse ⟨rfl, rr_19s h c⟩⟩)⟩
theorem sp_fitsAt : SP_fitsAt RR := fun x y z k cs ms h => by
  by_cases k0 : 0 ≤ k
  · obtain ⟨j, hj, rfl⟩ := nI_of (x := k) (fun q => by rw [i_lt] at q; rw [i_le] at k0; omega)
    obtain ⟨c, f1, f2, hc⟩ := r_twos (u0 := cs 0) (x1 := x) (x2 := y) (x3 := z) h.2.2.2.2.1
    refine ⟨fun _ => f1 _ ?_, fun q => absurd k0 q⟩
    have mo : ∀ {post : Int32 → St → Prop}, qX12_fitsAt_b16 post x y z (nI j) c ms → qX12_fitsAt x y z (nI j) ms post := fun q => ⟨fun _ => f2 _ q, fun q => absurd k0 q⟩
    rcases hc with ⟨rfl, a, t, n, Y, L, ha, ht, hn, rfl, rfl, rfl, w1, w2⟩ | hp
    · refine ⟨fun _ => r_fitting ha ht hn w1 (fun f hf => ?_), fun c => absurd rfl c⟩
      have hs := stF_lt (fun r => fitB a r Y L n) 20
      have hb := stF_bit (fun r => fitB a r Y L n) 20
      generalize hS : stF (fun r => fitB a r Y L n) 20 = S at hs hb ⊢
      have hcut : nth (fun d => S.testBit d) 31 0 j = nth (fun d => S.testBit d) 20 0 j := nth_cut 20 0 j 11 (fun s hs => by rw [hb, decide_eq_false (by omega), Bool.false_and])
      refine ⟨32, nthOf_loop (by omega) 31 0 j (by omega) hj ?_⟩
      rw [hcut]
      have m2 : ∀ {post : Int32 → St → Prop}, (∀ g, (nth (fun d => S.testBit d) 20 0 j = -1 → post (-1) (si (sw ms 28 g) 2 6)) ∧ (¬ nth (fun d => S.testBit d) 20 0 j = -1 → post (nth (fun d => S.testBit d) 20 0 j) (si (sw ms 28 g) 2 0))) → qX12_fitsAt (nI a) (nI t) (nI n) (nI j) ms post := fun q => mo ⟨fun _ => m_laysFits ha ht hn w2 (fun g hg => ⟨21, mfa_loop (P := fun d => S.testBit d) (u := sw ms 28 g) (fun s hs => by rw [hb, decide_eq_true hs, Bool.true_and]; exact hg s hs) 20 0 j (by omega) hj (q g).1 (q g).2⟩), fun c => absurd (by decide) c⟩
      exact ⟨fun c => r_answer (m2 (fun g => ⟨fun q => absurd q c, fun _ => ⟨rfl, rr_19 h 0 g⟩⟩)), fun c => r_refuse (m2 (fun g => ⟨fun _ => ⟨rfl, rr_19 h 6 g⟩, fun q => absurd c q⟩))⟩
    · exact ⟨fun c => absurd c (ne_0 hp), fun _ => r_refuse (mo ⟨fun c => absurd c (pos_le hp), fun _ => m_refuse ⟨rfl, rr_19s h c⟩⟩)⟩
  · exact ⟨fun q => absurd q k0, fun _ => ⟨fun c => absurd c (by decide), fun _ => r_refuse ⟨fun q => absurd q k0, fun _ => ⟨fun c => absurd c (by decide), fun _ => m_refuse ⟨rfl, rr_19s h 1⟩⟩⟩⟩⟩
theorem sp_ask : SP_ask RR := fun x y z cs ms h => by
  obtain ⟨c, f1, f2, hc⟩ := r_twos (u0 := cs 0) (x1 := x) (x2 := y) (x3 := z) h.2.2.2.2.1
  refine f1 _ ?_
  rcases hc with ⟨rfl, a, t, n, Y, L, ha, ht, hn, rfl, rfl, rfl, w1, w2⟩ | hp
  · refine ⟨fun _ => r_fitting ha ht hn w1 (fun f hf => ?_), fun c => absurd rfl c⟩
    have hs := stF_lt (fun r => fitB a r Y L n) 20
    have hb := stF_bit (fun r => fitB a r Y L n) 20
    have hpc := stF_pc (fun r => fitB a r Y L n) 20 (by omega)
    generalize hS : stF (fun r => fitB a r Y L n) 20 = S at hs hb hpc ⊢
    have m2 : ∀ {post : Int32 → St → Prop}, (∀ g, (∀ s, s < 20 → g s = bI (S.testBit s)) → (((2 : Int32) ≤ nI (pc S) → qX12_mostAlike (nI a) (1 : Int32) (sw ms 28 g) (fun r_41 u_40 => ∃ n_43 : Nat, qX12_ask_L53 post n_43 (nI a) (1 : Int32) r_41 (2 : Int32) u_40)) ∧ (¬ (2 : Int32) ≤ nI (pc S) → qX12_refuse (6 : Int32) (sw ms 28 g) (fun r_45 u_44 => post r_45 u_44)))) → qX12_ask (nI a) (nI t) (nI n) ms post := fun q => f2 _ ⟨fun _ => m_laysFits ha ht hn w2 (fun g hg => by rw [← hpc]; exact q g (fun s hs => by rw [hb, decide_eq_true hs, Bool.true_and]; exact hg s hs)), fun c => absurd (by decide) c⟩
    refine r_bc20 hs ⟨fun c => ⟨21, pt_loop (u := sw (cs 19) 0 f) (by omega) hf 20 1 1 21 (by omega) (by omega) (r_answer (m2 (fun g hg => ⟨fun _ => m_mostAlike (P := fun d => S.testBit d) (y := 1) (u := sw ms 28 g) hg ha (by omega) ⟨20, ?_⟩, fun q => absurd c q⟩)))⟩, fun c => r_refuse (m2 (fun g hg => ⟨fun q => absurd q c, fun _ => m_refuse ⟨rfl, rr_19 h 6 g⟩⟩))⟩
    have hm := mxC_le (fun d => S.testBit d) (fun q => lvs a q 1) 20 (by omega)
    refine mpt_loop (P := fun d => S.testBit d) (u := sw ms 28 g) hg ha 19 2 1 _ (by omega) (by omega) ⟨?_, rr_19 h 0 g⟩
    rw [prt, if_pos (by omega)]
  · exact ⟨fun c => absurd c (ne_0 hp), fun _ => r_refuse (f2 _ ⟨fun c => absurd c (pos_le hp), fun _ => m_refuse ⟨rfl, rr_19s h c⟩⟩)⟩
