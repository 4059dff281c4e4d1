/-! STEPS 44: house -/
theorem c_keep0 {u0 u1 u2 u3 : St} {post : St → St → St → St → Prop} (h : gi u2 8 = 0) (fin : post (si (si u0 12 0) 13 (-1)) u1 u2 u3) : qX11_keepFault u0 u1 u2 u3 post := by
  intro v ev
  rw [h] at ev
  subst ev
  exact ⟨fun z => absurd rfl z, fun _ w ew => by subst ew; exact fin⟩
theorem c_keep1 {u0 u1 u2 u3 : St} {f pl : Nat} {post : St → St → St → St → Prop} (h : fdC u2 f pl) (fin : post (si (si u0 12 (nI f)) 13 (nI pl)) u1 u2 u3) : qX11_keepFault u0 u1 u2 u3 post := by
  intro v ev
  rw [h.1] at ev
  subst ev
  refine ⟨fun _ w ew => ?_, fun z => absurd z (nI_f0 h.2.1 h.2.2.1).1⟩
  rw [h.2.2.2] at ew
  subst ew
  exact fin
/-- the text of a call, if its length can be -/
theorem rr_text {cs : Nat → St} {ms : St} (h : RR cs ms) (x : Int32) : (∃ n N : Nat, x = nI n ∧ n ≤ N ∧ N ≤ 900 ∧ gi (cs 0) 4 = nI N ∧ gi ms 10 = nI N ∧ txR (ga ms 8) (txT (ga ms 8)) n ∧ txR (ga (cs 1) 0) (txT (ga ms 8)) n ∧ ∀ j, j < n → (ga ms 8 j).toInt8.toInt32 = ga ms 8 j) ∨ x < 0 ∨ (¬ x < 0 ∧ gi ms 10 < x ∧ gi (cs 0) 4 = gi ms 10) := by
  obtain ⟨t1, N, hN, t2, t3⟩ := h.2.2.1
  by_cases c0 : x < 0
  · exact Or.inr (Or.inl c0)
  by_cases c1 : gi ms 10 < x
  · exact Or.inr (Or.inr ⟨c0, c1, t1⟩)
  refine Or.inl ?_
  have e10 : gi ms 10 = nI N := t1.symm.trans t2
  rw [i_lt, show (0 : Int32).toInt = 0 from rfl] at c0
  rw [i_lt, e10, nI_toInt (by omega)] at c1
  have ex : x = nI x.toInt.toNat := by
    rw [i_eq, nI_toInt (by omega)]
    omega
  have hb : ∀ j, j < x.toInt.toNat → (ga ms 8 j).toInt8.toInt32 = ga ms 8 j := fun j hj => by
    have := t3 j (by omega)
    rw [← this.1]
    exact this.2
  have hx : txR (ga ms 8) (txT (ga ms 8)) x.toInt.toNat := tx_of (by omega) hb
  exact ⟨x.toInt.toNat, N, ex, by omega, hN, t2, e10, hx, tx_eq hx (fun j hj => (t3 j (by omega)).1), hb⟩
theorem sp_house : SP_house RR := fun x0 cs ms h => by
  rcases rr_text h x0 with ⟨n, N, ex, hn, hN, g4, g10, hx, hx1, hb⟩ | c | ⟨c, c1, e⟩
  · subst ex
    have cx : ¬ nI n < 0 := fun q => by
      rw [i_lt, nI_toInt (by omega), show (0 : Int32).toInt = 0 from rfl] at q
      omega
    have cy : nI n ≤ gi (cs 0) 4 := by rw [g4]; exact nI_le hn (by omega)
    obtain ⟨M, ok, hs, hc, hm, ht⟩ := rr_house h
    refine ⟨fun z => absurd z cx, fun _ => ⟨fun _ u28 e28 => ?_, fun z => absurd cy z⟩⟩
    refine c_rdHouse hx1 (fun u3 u4 u6 M1 g ok1 hC1 e => ?_) (fun u3 u4 u6 f pl hf e => ?_)
    · refine c_keep0 g ⟨fun _ => ?_, fun z => absurd rfl z⟩
      intro a ea b eb c ec d ed
      refine d_begin (N := N) (mo := 900) g10 hN hn (by omega) (by omega) hx hb (fun bb u' hbg hS => ⟨fun _ => ?_, fun z => absurd z (by decide)⟩)
      refine m_rdHouse hS (fun v M2 ok2 e2 hF hmc h7 v2 v16 v17 => ?_) (fun v f pl e2 => absurd (e.symm.trans e2) (by intro q; cases q))
      have em : M1 = M2 := Sum.inl.inj (e.symm.trans e2)
      subst em
      refine ⟨(hC1.1 2 (by omega)).trans (congrArg nI (fal_ne (by decide))), ?_⟩
      refine rr_rd h ?_ ⟨?_, ?_⟩ ?_ ⟨?_, ?_⟩ (fun k hk => ?_) hbg hF ⟨fal M1, ⟨fal_ok ok1, fal_setl M1, hC1, hmc⟩, Or.inl ⟨?_, h7⟩⟩
      · rw [v2, ed]; rfl
      · rw [ed, e28]; rfl
      · rw [ed, e28]; rfl
      · rw [ed, e28]; rfl
      · rw [v16, ed, e28]; rfl
      · rw [v17, ed, e28]; rfl
      · simp only [up_at]
        rw [if_neg (by omega), if_neg (by omega), if_neg (by omega), if_neg (by omega), if_neg (by omega), if_neg (by omega), if_neg (by omega)]
      · show gi c 0 = 0
        rw [ec, eb, ea]; rfl
    · refine c_keep1 hf ⟨fun z => absurd z (nI_f0 hf.2.1 hf.2.2.1).1, fun _ => ?_⟩
      intro d ed
      refine d_begin (N := N) (mo := 900) g10 hN hn (by omega) (by omega) hx hb (fun bb u' hbg hS => ⟨fun _ => ?_, fun z => absurd z (by decide)⟩)
      refine m_rdHouse hS (fun v M2 ok2 e2 => absurd (e.symm.trans e2) (by intro q; cases q)) (fun v f2 pl2 e2 hF hA hL v2 v16 v17 => ?_)
      have em := Sum.inr.inj (e.symm.trans e2)
      have em1 : f = f2 := congrArg Prod.fst em
      have em2 : pl = pl2 := congrArg Prod.snd em
      subst em1; subst em2
      refine ⟨rfl, ?_⟩
      refine rr_rd h ?_ ⟨?_, ?_⟩ ?_ ⟨?_, ?_⟩ (fun k hk => ?_) hbg hF (SlR_congr (a := ga ms 0) (nm := gl ms 1) (sl := 0) (fun j hj => ?_) (fun j hj => ?_) ⟨M, ⟨ok, hs, hc, hm⟩, ht⟩)
      · rw [v2, ed]; rfl
      · rw [ed, e28]; rfl
      · rw [ed, e28]; rfl
      · rw [ed, e28]; rfl
      · rw [v16, ed, e28]; rfl
      · rw [v17, ed, e28]; rfl
      · simp only [up_at]
        rw [if_neg (by omega), if_neg (by omega), if_neg (by omega), if_neg (by omega), if_neg (by omega), if_neg (by omega), if_neg (by omega)]
      · rw [hA _ (by omega), hbg.2.2.2.1 0 (by omega)]
      · rw [hL _ (by omega), hbg.2.2.2.2]
  · refine ⟨fun _ => ?_, fun z => absurd c z⟩
    intro d ed
    refine d_begin0 (Or.inl c) ⟨fun z => absurd rfl z, fun _ v ev => ?_⟩
    subst ed; subst ev
    exact ⟨rfl, rr_st h 1⟩
  · refine ⟨fun z => absurd z c, fun _ => ⟨fun z => absurd c1 ?_, fun _ => ?_⟩⟩
    · rw [e, i_le] at z
      rw [i_lt]
      omega
    intro d ed
    refine d_begin0 (Or.inr (Or.inl c1)) ⟨fun z => absurd rfl z, fun _ v ev => ?_⟩
    subst ed; subst ev
    exact ⟨rfl, rr_st h 1⟩
