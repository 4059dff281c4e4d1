/-! STEPS 7: stone, debt, under, bare -/
theorem r_gripAt {M : MH} {s : Nat} {u : St} {post : Int32 → St → Prop} (ok : okH M) (h : CH u M) (hs : s < M 0 0) (hp : ∀ f, post (nI (lvAt M 0 s (M 2 0) / 5)) (sw u 11 f)) : qX2_gripAt (nI s) u post := by
  have h8 := ok_ns ok
  have hv := lvAt_le7 ok 0 s
  refine r_gather (g := 0) ok (by omega) h (fun f hf => ⟨vp_in_nI (by omega) (by omega), ?_⟩)
  rw [ga_sw, if_pos rfl, nI_clamp (by omega), hf s hs, i_div5 (by omega)]
  exact hp f
theorem r_hasFallen {M : MH} {s : Nat} {u : St} {post : Int32 → St → Prop} (ok : okH M) (h : CH u M) (hs : s < 31) (h1 : (M 5 0).testBit s = true → post 1 u) (h0 : (M 5 0).testBit s = false → post 0 u) : qX2_hasFallen (nI s) u post := by
  unfold qX2_hasFallen
  rw [ch_k h (by omega)]
  exact r_has (ok_fallen ok) hs (fun c => ⟨Or.inr rfl, h1 c⟩) (fun c => ⟨Or.inl rfl, h0 c⟩)
theorem stn_now {M : MH} (ok : okH M) (st : setl M) {s : Nat} (hs : s < M 0 0) : (stn M 0 0 (M 0 0)).testBit s = ! (M 5 0).testBit s := by
  have hf := ok.2.2.2.2.2.1
  have e : stn M 0 0 (M 0 0) = 2 ^ M 0 0 - 1 - M 5 0 := by unfold setl at st; omega
  rw [e, pw_sub hf]
  simp [hs]
theorem i_row (s : Nat) : (10 : Int32) + 3 * nI s = nI (10 + 3 * s) := by rw [show (3 : Int32) = nI 3 from rfl, show (10 : Int32) = nI 10 from rfl, pk_mul, nI_add]
theorem m_stoneRow {s : Nat} {post : Int32 → Prop} (h : post (nI (10 + 3 * s))) : qX12_stoneRow (nI s) post := by
  unfold qX12_stoneRow
  rw [i_row]
  exact h
theorem i_drow (d : Nat) : (39 : Int32) + 7 * nI d = nI (39 + 7 * d) := by rw [show (7 : Int32) = nI 7 from rfl, show (39 : Int32) = nI 39 from rfl, pk_mul, nI_add]
theorem m_debtRow {s : Nat} {post : Int32 → Prop} (h : post (nI (39 + 7 * s))) : qX12_debtRow (nI s) post := by
  unfold qX12_debtRow
  rw [i_drow]
  exact h
theorem b48 {s j : Nat} {u : St} {post : Int32 → St → Prop} (hs : s < 8) (hj : j < 3) (h : post (ga u 0 (10 + 3 * s + j)) (si u 2 0)) : qX12_stone_b48 post (nI s) (nI j) u := by
  refine m_stoneRow ?_
  rw [nI_add, nI_clamp (by omega)]
  exact ⟨vp_in_nI (by omega) (by omega), m_gives h⟩
theorem stn31 {M : MH} (ok : okH M) (g w : Nat) : stn M g w (M 0 0) < 2 ^ 31 := pw_lt (stn_lt M g w (M 0 0)) (by have := ok_ns ok; omega)
theorem sp_stone : SP_stone RR := fun x y cs ms h => by
  obtain ⟨M, ok, hs, hc, hm, -⟩ := rr_house h
  have hn := ok_ns ok
  have hr : ∀ v, RR (va_up (va_up cs 0 (si (cs 0) 0 v)) 5 (cs 5)) (si ms 2 v) := fun v => by
    rw [up_skip cs 0 5 _ (by decide)]
    exact rr_st h v
  refine r_isStone (n := M 0 0) (by omega) (ch_k hc (by omega)) (fun c => ⟨fun _ => ?_, fun c => absurd c (by decide)⟩) (fun c => ⟨fun c => absurd rfl c, fun _ => ?_⟩)
  · have mi : ∀ {post : Int32 → St → Prop}, post 1 ms → qX12_isStone x ms post := fun hp => m_isStone (n := M 0 0) (by omega) (mc_k hm (by omega)) (fun _ => hp) (fun c2 => absurd c c2)
    obtain ⟨s, hss, rfl⟩ := c.nat (by omega)
    have hv : vp_in (nI s) 8 := vp_in_nI (by omega) (by omega)
    have ec : (nI s).toNatClampNeg = s := nI_clamp (by omega)
    have ms3 := mc_st hm hss
    by_cases hx : ∃ k : Nat, k < 5 ∧ y = nI k
    · obtain ⟨k, hk5, rfl⟩ := hx
      match k, hk5 with
      | 0, _ => exact ⟨fun _ => ⟨hv, r_answer (mi ⟨fun _ => ⟨fun _ => b48 (by omega) (by omega) ⟨by rw [ec, ch_s hc (by omega) (by omega) hss]; exact (ms3.1).symm.trans (congrArg (ga ms 0) (by omega)), hr 0⟩, fun q => absurd q (by decide), fun q => absurd q (by decide), fun q => absurd q (by decide), fun q => absurd q (by decide), fun q => absurd rfl q⟩, fun c => absurd c (by decide)⟩)⟩, fun q => absurd q (by decide), fun q => absurd q (by decide), fun q => absurd q (by decide), fun q => absurd q (by decide), fun q => absurd rfl q⟩
      | 1, _ => exact ⟨fun q => absurd q (by decide), fun _ => ⟨hv, r_answer (mi ⟨fun _ => ⟨fun q => absurd q (by decide), fun _ => b48 (by omega) (by omega) ⟨by rw [ec, ch_s hc (by omega) (by omega) hss]; exact (ms3.2.1).symm.trans (congrArg (ga ms 0) (by omega)), hr 0⟩, fun q => absurd q (by decide), fun q => absurd q (by decide), fun q => absurd q (by decide), fun _ q => absurd rfl q⟩, fun c => absurd c (by decide)⟩)⟩, fun q => absurd q (by decide), fun q => absurd q (by decide), fun q => absurd q (by decide), fun _ q => absurd rfl q⟩
      | 2, _ => exact ⟨fun q => absurd q (by decide), fun q => absurd q (by decide), fun _ => ⟨hv, r_answer (mi ⟨fun _ => ⟨fun q => absurd q (by decide), fun q => absurd q (by decide), fun _ => b48 (by omega) (by omega) ⟨by rw [ec, ch_s hc (by omega) (by omega) hss]; exact (ms3.2.2).symm.trans (congrArg (ga ms 0) (by omega)), hr 0⟩, fun q => absurd q (by decide), fun q => absurd q (by decide), fun _ _ q => absurd rfl q⟩, fun c => absurd c (by decide)⟩)⟩, fun q => absurd q (by decide), fun q => absurd q (by decide), fun _ _ q => absurd rfl q⟩
      | 3, _ => exact ⟨fun q => absurd q (by decide), fun q => absurd q (by decide), fun q => absurd q (by decide), fun _ => r_gripAt ok hc hss (fun f => r_answer (mi ⟨fun _ => ⟨fun q => absurd q (by decide), fun q => absurd q (by decide), fun q => absurd q (by decide), fun _ => m_leavesAt (g := 0) ok (by omega) (by omega) hm (m_gives ⟨by rw [i_div5 (by have := lvAt_le7 ok 0 s; omega)], rr_h5 h f 0⟩), fun q => absurd q (by decide), fun _ _ _ q => absurd rfl q⟩, fun c => absurd c (by decide)⟩)), fun q => absurd q (by decide), fun _ _ _ q => absurd rfl q⟩
      | 4, _ => exact ⟨fun q => absurd q (by decide), fun q => absurd q (by decide), fun q => absurd q (by decide), fun q => absurd q (by decide), fun _ => r_hasFallen ok hc (by omega) (fun c2 => ⟨fun c => absurd c (by decide), fun _ => r_answer (mi ⟨fun _ => ⟨fun q => absurd q (by decide), fun q => absurd q (by decide), fun q => absurd q (by decide), fun q => absurd q (by decide), fun _ => m_standsNow ok hm (m_gives ⟨by rw [i_bit (stn31 ok 0 0) (by omega), tb_0 (by rw [stn_now ok hs hss, c2]; rfl)]; rfl, hr 0⟩), fun _ _ _ _ q => absurd rfl q⟩, fun c => absurd c (by decide)⟩)⟩) (fun c2 => ⟨fun _ => r_answer (mi ⟨fun _ => ⟨fun q => absurd q (by decide), fun q => absurd q (by decide), fun q => absurd q (by decide), fun q => absurd q (by decide), fun _ => m_standsNow ok hm (m_gives ⟨by rw [i_bit (stn31 ok 0 0) (by omega), tb_1 (by rw [stn_now ok hs hss, c2]; rfl)]; rfl, hr 0⟩), fun _ _ _ _ q => absurd rfl q⟩, fun c => absurd c (by decide)⟩), fun c => absurd rfl c⟩), fun _ _ _ _ q => absurd rfl q⟩
      | k + 5, hk5 => exact absurd hk5 (by omega)
    · have f : ∀ {P : Prop} (k : Nat), k < 5 → y = nI k → P := fun k hk q => absurd ⟨k, hk, q⟩ hx
      exact ⟨f 0 (by omega), f 1 (by omega), f 2 (by omega), f 3 (by omega), f 4 (by omega), fun _ _ _ _ _ => r_refuse (mi ⟨fun _ => ⟨f 0 (by omega), f 1 (by omega), f 2 (by omega), f 3 (by omega), f 4 (by omega), fun _ _ _ _ _ => m_refuse ⟨rfl, hr 1⟩⟩, fun c => absurd c (by decide)⟩)⟩
  · exact r_refuse (m_isStone (n := M 0 0) (by omega) (mc_k hm (by omega)) (fun c2 => absurd c2 c) (fun _ => ⟨fun c => absurd rfl c, fun _ => m_refuse ⟨rfl, hr 1⟩⟩))
theorem sp_debt : SP_debt RR := fun x y cs ms h => by
  obtain ⟨M, ok, hs, hc, hm, -⟩ := rr_house h
  have hn := ok_nd ok
  have hr : ∀ v, RR (va_up (va_up cs 0 (si (cs 0) 0 v)) 5 (cs 5)) (si ms 2 v) := fun v => by
    rw [up_skip cs 0 5 _ (by decide)]
    exact rr_st h v
  refine r_isDebt (n := M 2 0) (by omega) (ch_k hc (by omega)) (fun c => ⟨fun _ => ?_, fun c => absurd c (by decide)⟩) (fun c => ⟨fun c => absurd rfl c, fun _ => ?_⟩)
  · have mi : ∀ {post : Int32 → St → Prop}, post 1 ms → qX12_isDebt x ms post := fun hp => m_isDebt (n := M 2 0) (by omega) (mc_k hm (by omega)) (fun _ => hp) (fun c2 => absurd c c2)
    obtain ⟨d, hd, rfl⟩ := c.nat (by omega)
    have hv : vp_in (nI d) 7 := vp_in_nI (by omega) (by omega)
    have ec : (nI d).toNatClampNeg = d := nI_clamp (by omega)
    have md := mc_d hm hd
    by_cases hx : inR y 8
    · have g : ∀ (k v : Nat), k < 7 → ga ms 0 (39 + 7 * d + k) = nI v → ∀ (r : Int32), r = nI v → qX11_answer r (cs 0) (fun r u0 => qX12_debt (nI d) (nI k) ms (fun r1 ms1 => r = r1 ∧ RR (va_up (va_up cs 0 u0) 5 (cs 5)) ms1)) := by
        intro k v hk e r er
        subst er
        have ek : (nI k).toInt = k := nI_toInt (by omega)
        have e0 : (0 : Int32).toInt = 0 := rfl
        have e7 : (7 : Int32).toInt = 7 := rfl
        refine r_answer (mi ⟨fun c => absurd c (by decide), fun _ => ⟨fun c => absurd ((i_lt _ _).mp c) (by omega), fun _ => ⟨fun _ => ⟨fun _ => m_debtOf (by omega) (by omega) (m_gives ⟨e.symm, hr 0⟩), fun c => absurd ((i_eq _ _).mp c) (by omega)⟩, fun c => absurd ((i_le _ _).mpr (by omega)) c⟩⟩⟩)
      obtain ⟨k, hk8, rfl⟩ := hx.nat (by omega)
      match k, hk8 with
      | 0, _ => exact ⟨fun _ => ⟨hv, g 0 (M 14 d) (by omega) ((congrArg (ga ms 0) (by omega)).trans md.1) _ (by rw [ec, ch_d hc (by omega) (by omega) hd])⟩, fun q => absurd q (by decide), fun q => absurd q (by decide), fun q => absurd q (by decide), fun q => absurd q (by decide), fun q => absurd q (by decide), fun q => absurd q (by decide), fun q => absurd q (by decide), fun q => absurd rfl q⟩
      | 1, _ => exact ⟨fun q => absurd q (by decide), fun _ => ⟨hv, g 1 (M 15 d) (by omega) ((congrArg (ga ms 0) (by omega)).trans md.2.1) _ (by rw [ec, ch_d hc (by omega) (by omega) hd])⟩, fun q => absurd q (by decide), fun q => absurd q (by decide), fun q => absurd q (by decide), fun q => absurd q (by decide), fun q => absurd q (by decide), fun q => absurd q (by decide), fun _ q => absurd rfl q⟩
      | 2, _ => exact ⟨fun q => absurd q (by decide), fun q => absurd q (by decide), fun _ => ⟨hv, g 2 (M 16 d) (by omega) ((congrArg (ga ms 0) (by omega)).trans md.2.2.1) _ (by rw [ec, ch_d hc (by omega) (by omega) hd])⟩, fun q => absurd q (by decide), fun q => absurd q (by decide), fun q => absurd q (by decide), fun q => absurd q (by decide), fun q => absurd q (by decide), fun _ _ q => absurd rfl q⟩
      | 3, _ => exact ⟨fun q => absurd q (by decide), fun q => absurd q (by decide), fun q => absurd q (by decide), fun _ => ⟨hv, g 3 (M 17 d) (by omega) ((congrArg (ga ms 0) (by omega)).trans md.2.2.2.1) _ (by rw [ec, ch_d hc (by omega) (by omega) hd])⟩, fun q => absurd q (by decide), fun q => absurd q (by decide), fun q => absurd q (by decide), fun q => absurd q (by decide), fun _ _ _ q => absurd rfl q⟩
      | 4, _ => exact ⟨fun q => absurd q (by decide), fun q => absurd q (by decide), fun q => absurd q (by decide), fun q => absurd q (by decide), fun _ => (by rw [ch_k hc (by omega)]; exact r_has (ok_comp ok) (by omega) (fun c2 => ⟨fun c => absurd c (by decide), fun _ => g 4 (if (M 7 0).testBit d then 1 else 0) (by omega) ((congrArg (ga ms 0) (by omega)).trans md.2.2.2.2.1) _ (by rw [if_pos c2]; rfl)⟩) (fun c2 => ⟨fun _ => g 4 (if (M 7 0).testBit d then 1 else 0) (by omega) ((congrArg (ga ms 0) (by omega)).trans md.2.2.2.2.1) _ (by rw [if_neg (by rw [c2]; decide)]; rfl), fun c => absurd rfl c⟩)), fun q => absurd q (by decide), fun q => absurd q (by decide), fun q => absurd q (by decide), fun _ _ _ _ q => absurd rfl q⟩
      | 5, _ => exact ⟨fun q => absurd q (by decide), fun q => absurd q (by decide), fun q => absurd q (by decide), fun q => absurd q (by decide), fun q => absurd q (by decide), fun _ => ⟨hv, g 5 (M 18 d) (by omega) ((congrArg (ga ms 0) (by omega)).trans md.2.2.2.2.2.1) _ (by rw [ec, ch_d hc (by omega) (by omega) hd])⟩, fun q => absurd q (by decide), fun q => absurd q (by decide), fun _ _ _ _ _ q => absurd rfl q⟩
      | 6, _ => exact ⟨fun q => absurd q (by decide), fun q => absurd q (by decide), fun q => absurd q (by decide), fun q => absurd q (by decide), fun q => absurd q (by decide), fun q => absurd q (by decide), fun _ => ⟨hv, g 6 (M 19 d) (by omega) ((congrArg (ga ms 0) (by omega)).trans md.2.2.2.2.2.2) _ (by rw [ec, ch_d hc (by omega) (by omega) hd])⟩, fun q => absurd q (by decide), fun _ _ _ _ _ _ q => absurd rfl q⟩
      | 7, _ => exact ⟨fun q => absurd q (by decide), fun q => absurd q (by decide), fun q => absurd q (by decide), fun q => absurd q (by decide), fun q => absurd q (by decide), fun q => absurd q (by decide), fun q => absurd q (by decide), fun _ => r_owed ok hc hd (r_answer (mi ⟨fun c => absurd c (by decide), fun _ => ⟨fun c => absurd c (by decide), fun _ => ⟨fun _ => ⟨fun c => absurd rfl c, fun _ => m_owedOf ok hm hd (m_gives ⟨rfl, hr 0⟩)⟩, fun c => absurd (by decide) c⟩⟩⟩)), fun _ _ _ _ _ _ _ q => absurd rfl q⟩
      | k + 8, hk8 => exact absurd hk8 (by omega)
    · have f : ∀ {P : Prop} (k : Nat), k < 8 → y = nI k → P := fun k hk q => absurd (q ▸ inR_nI hk (by omega)) hx
      refine ⟨f 0 (by omega), f 1 (by omega), f 2 (by omega), f 3 (by omega), f 4 (by omega), f 5 (by omega), f 6 (by omega), f 7 (by omega), fun _ _ _ _ _ _ _ _ => r_refuse (mi ⟨fun c => absurd c (by decide), fun _ => ⟨fun _ => m_refuse ⟨rfl, hr 1⟩, fun q0 => ⟨fun q7 => absurd ?_ hx, fun _ => m_refuse ⟨rfl, hr 1⟩⟩⟩⟩)⟩
      have e0 : (0 : Int32).toInt = 0 := rfl
      have e7 : (7 : Int32).toInt = 7 := rfl
      rw [i_lt] at q0
      rw [i_le] at q7
      exact ⟨by omega, by omega⟩
  · exact r_refuse (m_isDebt (n := M 2 0) (by omega) (mc_k hm (by omega)) (fun c2 => absurd c2 c) (fun _ => ⟨fun _ => m_refuse ⟨rfl, hr 1⟩, fun c => absurd rfl c⟩))
theorem sp_under : SP_under RR := fun x cs ms h => by
  obtain ⟨M, ok, hs, hc, hm, -⟩ := rr_house h
  have hn := ok_ns ok
  have hr : ∀ v, RR (va_up (va_up cs 0 (si (cs 0) 0 v)) 5 (cs 5)) (si ms 2 v) := fun v => by
    rw [up_skip cs 0 5 _ (by decide)]
    exact rr_st h v
  refine r_isStone (n := M 0 0) (by omega) (ch_k hc (by omega)) (fun c => ⟨fun _ => ?_, fun c => absurd c (by decide)⟩) (fun c => ⟨fun c => absurd rfl c, fun _ => ?_⟩)
  · have mi : ∀ {post : Int32 → St → Prop}, post 1 ms → qX12_isStone x ms post := fun hp => m_isStone (n := M 0 0) (by omega) (mc_k hm (by omega)) (fun _ => hp) (fun c2 => absurd c c2)
    obtain ⟨s, hss, rfl⟩ := c.nat (by omega)
    have e5 : ga ms 0 (5 : Int32).toNatClampNeg = nI (M 5 0) := mc_k (k := 5) hm (by omega)
    have mf : ∀ {post : Int32 → St → Prop}, ((M 5 0).testBit s = true → post 1 ms) → ((M 5 0).testBit s = false → post 0 ms) → qX12_isIn (ga ms 0 (5 : Int32).toNatClampNeg) (nI s) ms post := fun a b => by
      rw [e5]
      exact m_isIn (ok_fallen ok) (by omega) a b
    refine r_hasFallen ok hc (by omega) (fun c2 => ⟨fun c => absurd c (by decide), fun _ => r_refuse (mi ⟨fun _ => mf (fun _ => ⟨fun c => absurd c (by decide), fun _ => m_refuse ⟨rfl, hr 7⟩⟩) (fun c3 => absurd c2 (by rw [c3]; decide)), fun c => absurd c (by decide)⟩)⟩) (fun c2 => ⟨fun _ => r_standingNow ok hs hc ?_, fun c => absurd rfl c⟩)
    rw [i_one (by omega)]
    refine r_standing (g := 0) ok (by omega) (Nat.pow_lt_pow_right (by decide) (by omega)) hc (fun f _ => r_answer (mi ⟨fun _ => mf (fun c3 => absurd c3 (by rw [c2]; decide)) (fun _ => ⟨fun _ => m_standsNow ok hm (m_standing (g := 0) (w := 2 ^ s) ok (by omega) (Or.inr ⟨s, by omega, rfl, rfl⟩) hm (m_gives ⟨rfl, rr_h5 h f 0⟩)), fun c => absurd rfl c⟩), fun c => absurd c (by decide)⟩))
  · exact r_refuse (m_isStone (n := M 0 0) (by omega) (mc_k hm (by omega)) (fun c2 => absurd c2 c) (fun _ => ⟨fun c => absurd rfl c, fun _ => m_refuse ⟨rfl, hr 1⟩⟩))
theorem lg_neg (x y : Int64) : lg_cmp x y < 0 ↔ x.toInt < y.toInt := by
  have := lg_cmp_ge x y
  rw [i_le, l_le] at this
  rw [i_lt]
  omega
theorem lg_pos (x y : Int64) : 0 < lg_cmp x y ↔ y.toInt < x.toInt := by
  have := lg_cmp_le x y
  rw [i_le, l_le] at this
  rw [i_lt]
  omega
theorem m_isFromL {x a b : Int64} {post : Int32 → Prop} (lo hi : Int) (ha : a.toInt = lo) (hb : b.toInt = hi) (h1 : lo ≤ x.toInt → x.toInt ≤ hi → post 1) (h0 : x.toInt < lo ∨ hi < x.toInt → post 0) : qX12_isFrom x a b post := by
  subst ha; subst hb
  refine ⟨fun c => ⟨Or.inl rfl, h0 (Or.inl ((lg_neg _ _).mp c))⟩, fun c => ⟨fun c2 => ⟨Or.inl rfl, h0 (Or.inr ((lg_pos _ _).mp c2))⟩, fun c2 => ⟨Or.inr rfl, h1 ?_ ?_⟩⟩⟩
  · rw [lg_neg] at c; omega
  · rw [lg_pos] at c2; omega
theorem m_isFrom {x : Int32} {a b : Int64} {post : Int32 → Prop} (lo hi : Int) (ha : a.toInt = lo) (hb : b.toInt = hi) (h1 : lo ≤ x.toInt → x.toInt ≤ hi → post 1) (h0 : x.toInt < lo ∨ hi < x.toInt → post 0) : qX12_isFrom x.toInt64 a b post := by
  refine m_isFromL lo hi ha hb (fun p q => ?_) (fun p => ?_) <;> rw [Int32.toInt_toInt64] at *
  · exact h1 p q
  · exact h0 p
theorem i_all {n : Nat} (hn : n < 31) : ((1 : Int32) <<< (nI n &&& 31)) - 1 = nI (2 ^ n - 1) := by
  rw [i_one hn]
  exact pk_sub (b := 1) (Nat.two_pow_pos n)
theorem r_fallingWithout {M : MH} {g : Nat} {u : St} {post : Int32 → St → Prop} (ok : okH M) (st : setl M) (hg : g < 2 ^ 31) (h : CH u M) (hp : ∀ f : Nat → Int32, (∀ s, s < M 0 0 → f s = nI (lvAt M g s (M 2 0))) → post (nI (stn M 0 0 (M 0 0)) &&& (nI (stn M g 0 (M 0 0)) ^^^ (-1))) (sw u 11 f)) : qX2_fallingWithout (nI g) u post := r_standingNow ok st h (r_standing (w := 0) ok hg (by omega) h hp)
theorem m_bareOf {M : MH} {g : Nat} {u : St} {post : Int32 → St → Prop} (ok : okH M) (hg : g < 2 ^ 31) (h : MC u M) (hp : post (nI (stn M 0 0 (M 0 0)) &&& (nI (stn M g 0 (M 0 0)) ^^^ (-1))) u) : qX12_bareOf (nI g) u post := m_standsNow ok h (m_standing ok hg (Or.inl ⟨rfl, rfl⟩) h hp)
theorem sp_bare : SP_bare RR := fun x cs ms h => by
  obtain ⟨M, ok, hs, hc, hm, -⟩ := rr_house h
  have hn := ok_nd ok
  have hr : ∀ v, RR (va_up (va_up cs 0 (si (cs 0) 0 v)) 5 (cs 5)) (si ms 2 v) := fun v => by
    rw [up_skip cs 0 5 _ (by decide)]
    exact rr_st h v
  have h27 : 2 ^ M 2 0 < 2 ^ 8 := Nat.pow_lt_pow_right (by decide) (by omega)
  have h0p := Nat.two_pow_pos (M 2 0)
  have ea : (nI (2 ^ M 2 0 - 1)).toInt = (2 ^ M 2 0 - 1 : Nat) := nI_toInt (by omega)
  have e2 : ga ms 0 (2 : Int32).toNatClampNeg = nI (M 2 0) := mc_k (k := 2) hm (by omega)
  unfold qX11_bare
  rw [ch_k hc (by omega), i_all (by omega)]
  have mi : ∀ {post : Int32 → St → Prop}, (0 ≤ x.toInt → x.toInt ≤ (2 ^ M 2 0 - 1 : Nat) → post 1 ms) → (x.toInt < 0 ∨ (2 ^ M 2 0 - 1 : Nat) < x.toInt → post 0 ms) → qX12_areDebts x.toInt64 ms post := fun a b => by
    unfold qX12_areDebts qX12_allDebts
    rw [e2, i_all (by omega)]
    exact m_isFrom 0 (2 ^ M 2 0 - 1 : Nat) rfl (by rw [Int32.toInt_toInt64, ea]) (fun p q => ⟨Or.inr rfl, a p q⟩) (fun p => ⟨Or.inl rfl, b p⟩)
  refine r_within 0 (2 ^ M 2 0 - 1 : Nat) rfl ea (fun p q => ⟨fun _ => ?_, fun c => absurd c (by decide)⟩) (fun p => ⟨fun c => absurd rfl c, fun _ => r_refuse (mi (fun a b => absurd p (by omega)) (fun _ => ⟨fun c => absurd rfl c, fun _ => m_refuse ⟨rfl, hr 1⟩⟩))⟩)
  obtain ⟨g, hg, rfl, hg31⟩ := i_nat p q
  exact r_fallingWithout ok hs hg31 hc (fun f _ => r_answer (mi (fun _ _ => ⟨fun _ => m_bareOf ok hg31 hm (m_gives ⟨rfl, rr_h5 h f 0⟩), fun c => absurd c (by decide)⟩) (fun r => absurd r (by omega))))
