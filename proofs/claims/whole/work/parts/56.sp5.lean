/-! STEPS 5: pour -/
theorem i_sub {a b : Int32} (h1 : -2147483648 ≤ a.toInt - b.toInt) (h2 : a.toInt - b.toInt < 2147483648) : (a - b).toInt = a.toInt - b.toInt := by
  rw [Int32.toInt_sub]
  exact Int.bmod_eq_of_le (by omega) (by omega)
theorem i_add {a b : Int32} (h1 : -2147483648 ≤ a.toInt + b.toInt) (h2 : a.toInt + b.toInt < 2147483648) : (a + b).toInt = a.toInt + b.toInt := by
  rw [Int32.toInt_add]
  exact Int.bmod_eq_of_le (by omega) (by omega)
def pst (so sz : Nat → Int32) (x1 x2 x3 x4 x5 : Int32) : Int32 :=
  if x1.toInt < 0 ∨ 3 < x1.toInt ∨ x3.toInt < 0 ∨ 3 < x3.toInt ∨ x2.toInt < 0 ∨ x4.toInt < 0 ∨ x5.toInt < 0 then 1
  else if sz x1.toNatClampNeg = -1 ∨ sz x3.toNatClampNeg = -1 then 2
  else if so x1.toNatClampNeg ≠ so x3.toNatClampNeg then 8
  else if (sz x1.toNatClampNeg).toInt < x2.toInt + x5.toInt ∨ (sz x3.toNatClampNeg).toInt < x4.toInt + x5.toInt then 3 else 0
theorem szT {sz : Nat → Int32} (hs : szOk sz) {x : Int32} (a : 0 ≤ x.toInt) (b : x.toInt ≤ 3) (h : sz x.toNatClampNeg ≠ -1) : 0 ≤ (sz x.toNatClampNeg).toInt ∧ (sz x.toNatClampNeg).toInt ≤ 60 := by
  obtain ⟨n, hn, en⟩ := (hs _ (i_cl4 a b)).resolve_left h
  rw [en, nI_toInt (by omega)]
  omega
theorem c_pour {x1 x2 x3 x4 x5 : Int32} {u0 u1 : St} {post : Int32 → St → St → Prop} (hs : szOk (ga u1 2)) (h1 : pst (ga u1 1) (ga u1 2) x1 x2 x3 x4 x5 ≠ 0 → post 0 (si u0 0 (pst (ga u1 1) (ga u1 2) x1 x2 x3 x4 x5)) u1) (h0 : pst (ga u1 1) (ga u1 2) x1 x2 x3 x4 x5 = 0 → qX9_move x1 x2 x3 x4 x5 u1 (fun v => post 1 (si u0 0 0) v)) : qX11_pour x1 x2 x3 x4 x5 u0 u1 post := by
  unfold pst at h1 h0
  have e0 : (0 : Int32).toInt = 0 := rfl
  have bad1 : (x1.toInt < 0 ∨ 3 < x1.toInt ∨ x3.toInt < 0 ∨ 3 < x3.toInt ∨ x2.toInt < 0 ∨ x4.toInt < 0 ∨ x5.toInt < 0) → qX11_pour_b36 post u0 u1 := fun c => by
    rw [if_pos c] at h1
    exact r_deny ⟨Or.inl rfl, h1 (by decide)⟩
  refine r_isTray (fun a1 b1 => ⟨fun c => absurd c (by decide), fun _ => r_isTray (fun a3 b3 => ⟨fun c => absurd c (by decide), fun _ => ⟨fun c2 => ?_, fun c2 => ⟨fun c4 => ?_, fun c4 => ⟨fun c5 => ?_, fun c5 => ?_⟩⟩⟩⟩) (fun c => ⟨fun _ => bad1 (by omega), fun c => absurd rfl c⟩)⟩) (fun c => ⟨fun _ => bad1 (by omega), fun c => absurd rfl c⟩)
  · rw [i_lt] at c2
    exact bad1 (by omega)
  · rw [i_lt] at c4
    exact bad1 (by omega)
  · rw [i_lt] at c2 c4
    rw [i_le] at c5
    rw [if_neg (by omega)] at h1 h0
    have bad2 : (ga u1 2 x1.toNatClampNeg = -1 ∨ ga u1 2 x3.toNatClampNeg = -1) → qX11_pour_b64 post u0 u1 := fun c => by
      rw [if_pos c] at h1
      exact r_deny ⟨Or.inl rfl, h1 (by decide)⟩
    refine r_isMissing a1 b1 (fun m1 => ⟨fun _ => bad2 (Or.inl m1), fun c => absurd c (by decide)⟩) (fun m1 => ⟨fun c => absurd rfl c, fun _ => r_isMissing a3 b3 (fun m3 => ⟨fun c => absurd c (by decide), fun _ => bad2 (Or.inr m3)⟩) (fun m3 => ⟨fun _ => ⟨i_in4 a1 b1, i_in4 a3 b3, fun es => ⟨i_in4 a1 b1, ?_⟩, fun es => ?_⟩, fun c => absurd rfl c⟩)⟩)
    · rw [if_neg (fun c => c.elim m1 m3), if_neg (fun c => c es)] at h1 h0
      have z1 := szT hs a1 b1 m1
      have z3 := szT hs a3 b3 m3
      have hx5 := x5.toInt_lt
      have s1 := i_sub (a := ga u1 2 x1.toNatClampNeg) (b := x5) (by omega) (by omega)
      have s3 := i_sub (a := ga u1 2 x3.toNatClampNeg) (b := x5) (by omega) (by omega)
      have bad3 : ((ga u1 2 x1.toNatClampNeg).toInt < x2.toInt + x5.toInt ∨ (ga u1 2 x3.toNatClampNeg).toInt < x4.toInt + x5.toInt) → qX11_pour_b131 post u0 u1 := fun c => by
        rw [if_pos c] at h1
        exact r_deny ⟨Or.inl rfl, h1 (by decide)⟩
      refine ⟨fun c => ?_, fun c => ⟨i_in4 a3 b3, fun c3 => ?_, fun c3 => ?_⟩⟩
      · rw [i_lt, s1] at c
        exact bad3 (by omega)
      · rw [i_lt, s1] at c
        rw [i_le, s3] at c3
        rw [if_neg (by omega)] at h0
        obtain ⟨q1, q2⟩ := h0 rfl
        exact ⟨q1, fun v e => r_grant ⟨Or.inr rfl, q2 v e⟩⟩
      · rw [i_le, s3] at c3
        exact bad3 (by omega)
    · rw [if_neg (fun c => c.elim m1 m3), if_pos es] at h1
      exact r_deny ⟨Or.inl rfl, h1 (by decide)⟩
  · rw [i_le] at c5
    exact bad1 (by omega)
theorem m_pour {x1 x2 x3 x4 x5 : Int32} {u : St} {post : Int32 → St → Prop} (hs : szOk (ga u 6)) (h1 : pst (ga u 5) (ga u 6) x1 x2 x3 x4 x5 ≠ 0 → post 0 (si u 2 (pst (ga u 5) (ga u 6) x1 x2 x3 x4 x5))) (h0 : pst (ga u 5) (ga u 6) x1 x2 x3 x4 x5 = 0 → ∃ n, qX12_pour_L118 post n x1 x2 x3 x4 x5 0 u) : qX12_pour x1 x2 x3 x4 x5 u post := by
  unfold pst at h1 h0
  have e0 : (0 : Int32).toInt = 0 := rfl
  have bad1 : (x1.toInt < 0 ∨ 3 < x1.toInt ∨ x3.toInt < 0 ∨ 3 < x3.toInt ∨ x2.toInt < 0 ∨ x4.toInt < 0 ∨ x5.toInt < 0) → qX12_pour_b28 post u := fun c => by
    rw [if_pos c] at h1
    exact m_is1 (by decide) ⟨Or.inl rfl, h1 (by decide)⟩
  refine m_isTray (fun a1 b1 => ⟨fun c => absurd c (by decide), fun _ => m_isTray (fun a3 b3 => ⟨fun c => absurd c (by decide), fun _ => ⟨fun c2 => ?_, fun c2 => ⟨fun c4 => ?_, fun c4 => ⟨fun c5 => ?_, fun c5 => ?_⟩⟩⟩⟩) (fun c => ⟨fun _ => bad1 (by omega), fun c => absurd rfl c⟩)⟩) (fun c => ⟨fun _ => bad1 (by omega), fun c => absurd rfl c⟩)
  · rw [i_lt] at c2
    exact bad1 (by omega)
  · rw [i_lt] at c4
    exact bad1 (by omega)
  · rw [i_lt] at c2 c4
    rw [i_le] at c5
    rw [if_neg (by omega)] at h1 h0
    have bad2 : (ga u 6 x1.toNatClampNeg = -1 ∨ ga u 6 x3.toNatClampNeg = -1) → qX12_pour_b54 post u := fun c => by
      rw [if_pos c] at h1
      exact m_is1 (by decide) ⟨Or.inl rfl, h1 (by decide)⟩
    refine ⟨i_in4 a1 b1, fun m1 => bad2 (Or.inl m1), fun m1 => ⟨i_in4 a3 b3, fun m3 => ⟨i_in4 a1 b1, i_in4 a3 b3, fun es => ⟨i_in4 a1 b1, ?_⟩, fun es => ?_⟩, fun m3 => bad2 (Or.inr m3)⟩⟩
    · rw [if_neg (fun c => c.elim m1 m3), if_neg (fun c => c es)] at h1 h0
      have z1 := szT hs a1 b1 m1
      have z3 := szT hs a3 b3 m3
      have hx2 := x2.toInt_lt
      have hx4 := x4.toInt_lt
      have s1 := i_sub (a := ga u 6 x1.toNatClampNeg) (b := x2) (by omega) (by omega)
      have s3 := i_sub (a := ga u 6 x3.toNatClampNeg) (b := x4) (by omega) (by omega)
      have bad3 : ((ga u 6 x1.toNatClampNeg).toInt < x2.toInt + x5.toInt ∨ (ga u 6 x3.toNatClampNeg).toInt < x4.toInt + x5.toInt) → qX12_pour_b109 post u := fun c => by
        rw [if_pos c] at h1
        exact m_is1 (by decide) ⟨Or.inl rfl, h1 (by decide)⟩
      refine ⟨fun c => ?_, fun c => ⟨i_in4 a3 b3, fun c3 => ?_, fun c3 => ?_⟩⟩
      · rw [i_lt, s1] at c
        exact bad3 (by omega)
      · rw [i_lt, s1] at c
        rw [i_le, s3] at c3
        rw [if_neg (by omega)] at h0
        exact h0 rfl
      · rw [i_le, s3] at c3
        exact bad3 (by omega)
    · rw [if_neg (fun c => c.elim m1 m3), if_pos es] at h1
      exact m_is1 (by decide) ⟨Or.inl rfl, h1 (by decide)⟩
  · rw [i_le] at c5
    exact bad1 (by omega)
theorem pst_0 {so sz : Nat → Int32} {x1 x2 x3 x4 x5 : Int32} (hs : szOk sz) (h : pst so sz x1 x2 x3 x4 x5 = 0) : ∃ a p b q n na nb : Nat, a < 4 ∧ b < 4 ∧ x1 = nI a ∧ x2 = nI p ∧ x3 = nI b ∧ x4 = nI q ∧ x5 = nI n ∧ p + n ≤ na ∧ q + n ≤ nb ∧ na ≤ 60 ∧ nb ≤ 60 ∧ sz a = nI na ∧ sz b = nI nb := by
  unfold pst at h
  by_cases c1 : x1.toInt < 0 ∨ 3 < x1.toInt ∨ x3.toInt < 0 ∨ 3 < x3.toInt ∨ x2.toInt < 0 ∨ x4.toInt < 0 ∨ x5.toInt < 0
  · rw [if_pos c1] at h; exact absurd h (by decide)
  · rw [if_neg c1] at h
    obtain ⟨a, ha, rfl, -⟩ := i_nat (x := x1) (n := 3) (by omega) (by omega)
    obtain ⟨b, hb, rfl, -⟩ := i_nat (x := x3) (n := 3) (by omega) (by omega)
    rw [nI_clamp (by omega), nI_clamp (by omega)] at h
    by_cases c2 : sz a = -1 ∨ sz b = -1
    · rw [if_pos c2] at h; exact absurd h (by decide)
    · rw [if_neg c2] at h
      obtain ⟨na, hna, ena⟩ := (hs a (by omega)).resolve_left (fun q => c2 (Or.inl q))
      obtain ⟨nb, hnb, enb⟩ := (hs b (by omega)).resolve_left (fun q => c2 (Or.inr q))
      by_cases c3 : so a ≠ so b
      · rw [if_pos c3] at h; exact absurd h (by decide)
      · rw [if_neg c3, ena, enb, nI_toInt (by omega), nI_toInt (by omega)] at h
        by_cases c4 : (na : Int) < x2.toInt + x5.toInt ∨ (nb : Int) < x4.toInt + x5.toInt
        · rw [if_pos c4] at h; exact absurd h (by decide)
        · obtain ⟨p, hp, rfl, -⟩ := i_nat (x := x2) (n := 60) (by omega) (by omega)
          obtain ⟨q, hq, rfl, -⟩ := i_nat (x := x4) (n := 60) (by omega) (by omega)
          obtain ⟨n, hn, rfl, -⟩ := i_nat (x := x5) (n := 60) (by omega) (by omega)
          rw [nI_toInt (by omega), nI_toInt (by omega), nI_toInt (by omega)] at c4
          exact ⟨a, p, b, q, n, na, nb, by omega, by omega, rfl, rfl, rfl, rfl, rfl, by omega, by omega, hna, hnb, ena, enb⟩
theorem pst_eq {so sz : Nat → Int32} {nu : Nat → Int64} {so1 sz1 : Nat → Int32} {nu1 : Nat → Int64} (h : TrayR so sz nu so1 sz1 nu1) (x1 x2 x3 x4 x5 : Int32) : pst so sz x1 x2 x3 x4 x5 = pst so1 sz1 x1 x2 x3 x4 x5 := by
  unfold pst
  by_cases c1 : x1.toInt < 0 ∨ 3 < x1.toInt ∨ x3.toInt < 0 ∨ 3 < x3.toInt ∨ x2.toInt < 0 ∨ x4.toInt < 0 ∨ x5.toInt < 0
  · rw [if_pos c1, if_pos c1]
  · rw [if_neg c1, if_neg c1, (h _ (i_cl4 (x := x1) (by omega) (by omega))).2.1, (h _ (i_cl4 (x := x3) (by omega) (by omega))).2.1, (h _ (i_cl4 (x := x1) (by omega) (by omega))).1, (h _ (i_cl4 (x := x3) (by omega) (by omega))).1]
theorem tr_cpy {so sz : Nat → Int32} {nu : Nat → Int64} {so1 sz1 : Nat → Int32} {nu1 : Nat → Int64} (h : TrayR so sz nu so1 sz1 nu1) {a p b q n na nb : Nat} (ha : a < 4) (hb : b < 4) (hp : p + n ≤ na) (hq : q + n ≤ nb) (hna : na ≤ 60) (hnb : nb ≤ 60) (ea : sz a = nI na) : TrayR so sz (va_cpy nu nu (60 * a + p) (60 * b + q) n) so1 sz1 (va_cpy nu1 nu1 (60 * a + p) (60 * b + q) n) := by
  have hA : ∀ j, j < na → nu (60 * a + j) = nu1 (60 * a + j) := by
    obtain ⟨m, hm, q1, q2⟩ := (h a ha).2.2.resolve_left (by rw [ea]; intro q; have := congrArg Int32.toInt q; rw [nI_toInt (by omega)] at this; exact absurd this (by show ¬ ((na : Int) = -1); omega))
    have : m = na := (nI_eq (by omega) (by omega)).mp (q1.symm.trans ea)
    exact fun j hj => q2 j (by omega)
  intro i hi
  obtain ⟨e1, e2, e3⟩ := h i hi
  refine ⟨e1, e2, e3.elim Or.inl (fun ⟨m, hm, q1, q2⟩ => Or.inr ⟨m, hm, q1, fun j hj => ?_⟩)⟩
  unfold va_cpy
  by_cases c : 60 * b + q ≤ 60 * i + j ∧ 60 * i + j < 60 * b + q + n
  · rw [if_pos c, if_pos c]
    have := hA (p + (60 * i + j - (60 * b + q))) (by omega)
    rw [← Nat.add_assoc] at this
    exact this
  · rw [if_neg c, if_neg c]
    exact q2 j hj
theorem sp_pour : SP_pour RR := fun x0 x1 x2 x3 x4 cs ms h => by
  have hT := h.2.2.2.2.1
  have hT1 : szOk (ga ms 6) := fun t ht => by rw [← (hT t ht).2.1]; exact hT.sz t ht
  refine c_pour hT.sz (fun c => m_pour hT1 (fun _ => ⟨rfl, ?_⟩) (fun c2 => absurd (by rw [pst_eq hT]; exact c2) c)) (fun c => ?_)
  · rw [up_skip cs 0 2 _ (by decide), pst_eq hT]
    exact rr_st h _
  · obtain ⟨a, p, b, q, n, na, nb, ha, hb, rfl, rfl, rfl, rfl, rfl, hp, hq, hna, hnb, ena, enb⟩ := pst_0 hT.sz c
    have c' : pst (ga ms 5) (ga ms 6) (nI a) (nI p) (nI b) (nI q) (nI n) = 0 := by rw [← pst_eq hT]; exact c
    unfold qX9_move
    rw [i_mul60, i_mul60]
    unfold cpOk
    rw [nI_clamp (by omega), nI_clamp (by omega), nI_clamp (by omega)]
    refine ⟨⟨nI_pos (by omega), nI_pos (by omega), nI_pos (by omega), by omega, by omega⟩, fun v e => m_pour hT1 (fun c2 => absurd c' c2) (fun _ => ⟨n + 1, ?_⟩)⟩
    subst e
    have hfin : qX12_pour_b180 (fun r1 ms1 => (1 : Int32) = r1 ∧ RR (va_up (va_up cs 0 (si (cs 0) 0 0)) 2 (sx (cs 2) 0 (va_cpy (gl (cs 2) 0) (gl (cs 2) 0) (60 * a + p) (60 * b + q) n))) ms1) (sx ms 7 (va_cpy (gl ms 7) (gl ms 7) (60 * a + p) (60 * b + q) n)) :=
      m_is0 ⟨Or.inr rfl, rfl, rr_trayN h 0 (tr_cpy hT ha hb hp hq hna hnb ena)⟩
    by_cases hd : q ≤ p
    · have := pour_f (u := ms) ⟨ha, hb⟩ (by omega) (by omega) hd hfin n 0 (by omega)
      rw [cpy_0, sx_same] at this
      exact this
    · have := pour_b (u := ms) ⟨ha, hb⟩ (by omega) (by omega) (by omega) hfin n 0 (by omega)
      rw [cpyB_0, sx_same] at this
      exact this
