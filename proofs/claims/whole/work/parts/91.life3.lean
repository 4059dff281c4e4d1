/-! STEPS 26: life, what a 'when' asks -/
theorem paid_out {A : MH} (ok : okH A) {a : Nat} (h : ¬ a < A 2 0) : (A 6 0).testBit a = false := Nat.testBit_lt_two_pow (Nat.lt_of_lt_of_le ok.2.2.2.2.2.2.1 (Nat.pow_le_pow_right (by decide) (by omega)))
def cndO (kd a b c : Nat) (A : MH) : Prop := (kd = 9 ∨ kd = 10 ∨ kd = 11 ∨ kd = 12) ∧ a ≤ 99 ∧ b ≤ 9999 ∧ c ≤ 255 ∧ (kd = 9 → a < A 0 0) ∧ (kd = 11 → a < A 1 0) ∧ (kd = 10 ∨ kd = 12 → a ≤ 6)
theorem r_isSo {k kd a b c : Nat} {A : MH} {u1 u2 : St} {post : Int32 → St → St → Prop} (hk : k < 60) (ho : cndO kd a b c A) (h3 : ga u2 3 k = nI kd) (h4 : ga u2 4 k = nI a) (h5 : kd = 11 ∨ kd = 12 → ga u2 5 k = nI b) (h6 : kd = 11 ∨ kd = 12 → ga u2 6 k = nI c) (ok : okH A) (h : CH u1 A) (fin : post (bI (cndB kd a b c A)) u1 u2) : qX3_isSo (nI k) u1 u2 post := by
  have n7 := ok_nd ok
  have n5 := ok_np ok
  have n8 := ok_ns ok
  have hin : vp_in (nI k) 60 := vp_in_nI hk (by omega)
  obtain ⟨o0, o1, o2, o3, o4, o5, o6⟩ := ho
  unfold qX3_isSo
  rw [nI_clamp (n := k) (by omega), h3, h4]
  refine ⟨hin, fun x ex => ⟨hin, ?_⟩⟩
  subst ex
  rcases o0 with rfl | rfl | rfl | rfl
  · have hs := o4 rfl
    refine ⟨fun _ => ?_, fun q => absurd q (by decide), fun q => absurd q (by decide), fun q => absurd rfl q⟩
    refine r_isStone (n := A 0 0) (by omega) (ch_k h (by omega)) (fun _ => ⟨fun q => absurd q (by decide), fun _ => r_hasFallen ok h (by omega) (fun w => ⟨fun _ => ⟨Or.inl rfl, ?_⟩, fun q => absurd q (by decide)⟩) (fun w => ⟨fun q => absurd rfl q, fun _ => ⟨Or.inr rfl, ?_⟩⟩)⟩) (fun q => absurd (inR_nI hs (by omega)) q)
    · have e : cndB 9 a b c A = false := by
        show (! (A 5 0).testBit a) = false
        rw [w]
        rfl
      rw [e] at fin
      exact fin
    · have e : cndB 9 a b c A = true := by
        show (! (A 5 0).testBit a) = true
        rw [w]
        rfl
      rw [e] at fin
      exact fin
  · have h6' := o6 (Or.inl rfl)
    have fin : post (bI ((A 6 0).testBit a)) u1 u2 := fin
    refine ⟨fun q => absurd q (by decide), fun _ => ?_, fun q => absurd q (by decide), fun _ q => absurd rfl q⟩
    refine r_isDebt (n := A 2 0) (by omega) (ch_k h (by omega)) (fun q => ⟨fun q => absurd q (by decide), fun _ => ?_⟩) (fun q => ⟨fun _ => ⟨Or.inl rfl, ?_⟩, fun q => absurd rfl q⟩)
    · rw [ch_k h (by omega)]
      refine r_has (ok_paid ok) (by omega) (fun w => ⟨fun q => absurd q (by decide), fun _ => ⟨Or.inr rfl, ?_⟩⟩) (fun w => ⟨fun _ => ⟨Or.inl rfl, ?_⟩, fun q => absurd rfl q⟩)
      · rw [w] at fin
        exact fin
      · rw [w] at fin
        exact fin
    · rw [paid_out ok (fun w => q (inR_nI w (by omega)))] at fin
      exact fin
  · have hp := o5 rfl
    have h9 := (ok.2.2.2.2.2.2.2.2.2.1 a hp).1
    have fin : post (bI (cmpB (A 12 a) b c)) u1 u2 := fin
    refine ⟨fun q => absurd q (by decide), fun q => absurd q (by decide), fun _ => ?_, fun _ _ q => absurd rfl q⟩
    refine r_isPerson (n := A 1 0) (by omega) (ch_k h (by omega)) (fun _ => ⟨fun q => absurd q (by decide), fun _ => ⟨vp_in_nI (by omega) (by omega), ?_⟩⟩) (fun q => absurd (inR_nI hp (by omega)) q)
    rw [nI_clamp (by omega), (h.2.2.1 a hp).1]
    refine r_compares hk (by omega) (by omega) (by omega) (h5 (Or.inl rfl)) (h6 (Or.inl rfl)) ?_
    rw [bI_0]
    refine ⟨fun w => ⟨Or.inl rfl, ?_⟩, fun w => ⟨Or.inr rfl, ?_⟩⟩
    · rw [w] at fin
      exact fin
    · have w' : cmpB (A 12 a) b c = true := by cases z : cmpB (A 12 a) b c with | true => rfl | false => exact absurd z w
      rw [w'] at fin
      exact fin
  · have h6' := o6 (Or.inr rfl)
    have fin : post (bI (decide (a < A 2 0) && cmpB (A 19 a) b c)) u1 u2 := fin
    refine ⟨fun q => absurd q (by decide), fun q => absurd q (by decide), fun q => absurd q (by decide), fun _ _ _ => ?_⟩
    refine r_isDebt (n := A 2 0) (by omega) (ch_k h (by omega)) (fun q => ⟨fun q => absurd q (by decide), fun _ => ⟨vp_in_nI (by omega) (by omega), ?_⟩⟩) (fun q => ⟨fun _ => ⟨Or.inl rfl, ?_⟩, fun q => absurd rfl q⟩)
    · have ca : a < A 2 0 := by
        have := q.2
        rw [nI_toInt (by omega)] at this
        omega
      have od := ok_d ok ca
      rw [decide_eq_true ca, Bool.true_and] at fin
      rw [nI_clamp (by omega), ch_d h (by omega) (by omega) ca]
      refine r_compares hk (by omega) (by omega) (by omega) (h5 (Or.inr rfl)) (h6 (Or.inr rfl)) ?_
      rw [bI_0]
      refine ⟨fun w => ⟨Or.inl rfl, ?_⟩, fun w => ⟨Or.inr rfl, ?_⟩⟩
      · rw [w] at fin
        exact fin
      · have w' : cmpB (A 19 a) b c = true := by cases z : cmpB (A 19 a) b c with | true => rfl | false => exact absurd z w
        rw [w'] at fin
        exact fin
    · rw [decide_eq_false (fun w => q (inR_nI w (by omega))), Bool.false_and] at fin
      exact fin
theorem m_cmp {k v b c : Nat} {u : St} {post : Int32 → St → Prop} (hk : k < 60) (hv : v < 2 ^ 31) (hb : b < 2 ^ 31) (hc : c < 2 ^ 31) (h5 : ga u 0 (90 + 6 * k) = nI b) (h6 : ga u 0 (93 + 6 * k) = nI c) (fin : post (bI (cmpB v b c)) u) : qX12_holds_b89 post (nI (88 + 6 * k)) (nI v) u := by
  have E2 : nI (88 + 6 * k) + 2 = nI (90 + 6 * k) := (nI_add _ 2).trans (by rw [show 88 + 6 * k + 2 = 90 + 6 * k by omega])
  have E5 : nI (88 + 6 * k) + 5 = nI (93 + 6 * k) := (nI_add _ 5).trans (by rw [show 88 + 6 * k + 5 = 93 + 6 * k by omega])
  have i2 : vp_in (nI (90 + 6 * k)) 3072 := vp_in_nI (by omega) (by omega)
  have i5 : vp_in (nI (93 + 6 * k)) 3072 := vp_in_nI (by omega) (by omega)
  unfold qX12_holds_b89
  rw [E2, E5, nI_clamp (n := 90 + 6 * k) (by omega), nI_clamp (n := 93 + 6 * k) (by omega), h5, h6]
  unfold cmpB at fin
  rw [show (60 : Int32) = nI 60 from rfl, show (62 : Int32) = nI 62 from rfl, nI_eq hc (by omega), nI_eq hc (by omega), nI_leI hb hv, nI_leI hv hb, nI_eq hv hb]
  refine ⟨i5, fun q => ⟨i5, fun q2 => ⟨i2, ?_⟩, fun q2 => ⟨i2, ?_⟩⟩, fun q => ⟨i2, ?_⟩⟩
  · rw [if_neg q, if_neg q2] at fin
    refine ⟨fun w => ⟨Or.inl rfl, ?_⟩, fun w => ⟨Or.inr rfl, ?_⟩⟩
    · rw [decide_eq_false w] at fin
      exact fin
    · rw [decide_eq_true w] at fin
      exact fin
  · rw [if_neg q, if_pos q2] at fin
    refine ⟨fun w => ⟨Or.inl rfl, ?_⟩, fun w => ⟨Or.inr rfl, ?_⟩⟩
    · rw [decide_eq_false (by omega)] at fin
      exact fin
    · rw [decide_eq_true (by omega)] at fin
      exact fin
  · rw [if_pos q] at fin
    refine ⟨fun w => ⟨Or.inl rfl, ?_⟩, fun w => ⟨Or.inr rfl, ?_⟩⟩
    · rw [decide_eq_false (by omega)] at fin
      exact fin
    · rw [decide_eq_true (by omega)] at fin
      exact fin
theorem m_holds {k kd k1 a b c : Nat} {A : MH} {u : St} {post : Int32 → St → Prop} (hk : k < 60) (ho : cndO kd a b c A) (hR : kR kd k1) (h3 : ga u 0 (88 + 6 * k) = nI k1) (h4 : ga u 0 (89 + 6 * k) = nI a) (h5 : kd = 11 ∨ kd = 12 → ga u 0 (90 + 6 * k) = nI b) (h6 : kd = 11 ∨ kd = 12 → ga u 0 (93 + 6 * k) = nI c) (ok : okH A) (st : setl A) (h : MC u A) (fin : post (bI (cndB kd a b c A)) u) : qX12_holds (nI (88 + 6 * k)) u post := by
  have n7 := ok_nd ok
  have n5 := ok_np ok
  have n8 := ok_ns ok
  have E1 : nI (88 + 6 * k) + 1 = nI (89 + 6 * k) := (nI_add _ 1).trans (by rw [show 88 + 6 * k + 1 = 89 + 6 * k by omega])
  have i0 : vp_in (nI (88 + 6 * k)) 3072 := vp_in_nI (by omega) (by omega)
  have i1 : vp_in (nI (89 + 6 * k)) 3072 := vp_in_nI (by omega) (by omega)
  obtain ⟨o0, o1, o2, o3, o4, o5, o6⟩ := ho
  unfold qX12_holds
  rw [E1, nI_clamp (n := 88 + 6 * k) (by omega), nI_clamp (n := 89 + 6 * k) (by omega), h3, h4]
  refine ⟨i0, fun x ex => ⟨i1, fun y ey => ?_⟩⟩
  subst ey
  unfold kR at hR
  rcases o0 with rfl | rfl | rfl | rfl
  · have e1 : k1 = 1923 := by omega
    subst e1
    have ex' : x = 23 := ex
    subst ex'
    have hs := o4 rfl
    refine ⟨fun q => absurd rfl q, fun _ => m_standsNow ok h (m_isIn (stn31 ok 0 0) (by omega) (fun w => ⟨Or.inr rfl, ?_⟩) (fun w => ⟨Or.inl rfl, ?_⟩))⟩
    · rw [stn_now ok st hs] at w
      have e : cndB 9 a b c A = true := w
      rw [e] at fin
      exact fin
    · rw [stn_now ok st hs] at w
      have e : cndB 9 a b c A = false := w
      rw [e] at fin
      exact fin
  · have e1 : k1 = 1924 := by omega
    subst e1
    have ex' : x = 24 := ex
    subst ex'
    have h6' := o6 (Or.inl rfl)
    have fin : post (bI ((A 6 0).testBit a)) u := fin
    refine ⟨fun _ => ⟨fun q => absurd rfl q, fun _ => m_isPaidUp ok h (by omega) (fun w => ⟨Or.inr rfl, ?_⟩) (fun w => ⟨Or.inl rfl, ?_⟩)⟩, fun q => absurd q (by decide)⟩
    · rw [w] at fin
      exact fin
    · rw [w] at fin
      exact fin
  · have e1 : k1 = 1907 := by omega
    subst e1
    have ex' : x = 7 := ex
    subst ex'
    have hp := o5 rfl
    have h9 := (ok.2.2.2.2.2.2.2.2.2.1 a hp).1
    refine ⟨fun _ => ⟨fun _ => ⟨fun _ => ⟨fun q => absurd rfl q, fun _ => ?_⟩, fun q => absurd q (by decide)⟩, fun q => absurd q (by decide)⟩, fun q => absurd q (by decide)⟩
    rw [i_34, nI_clamp (by omega), mc_cash h hp]
    exact ⟨vp_in_nI (by omega) (by omega), m_cmp hk (by omega) (by omega) (by omega) (h5 (Or.inl rfl)) (h6 (Or.inl rfl)) fin⟩
  · have e1 : k1 = 1912 := by omega
    subst e1
    have ex' : x = 12 := ex
    subst ex'
    have h6' := o6 (Or.inr rfl)
    have fin : post (bI (decide (a < A 2 0) && cmpB (A 19 a) b c)) u := fin
    refine ⟨fun _ => ⟨fun _ => ⟨fun q => absurd rfl q, fun _ => ?_⟩, fun q => absurd q (by decide)⟩, fun q => absurd q (by decide)⟩
    refine m_isDebt (n := A 2 0) (by omega) (mc_k h (by omega)) (fun q => ⟨fun _ => ⟨fun _ => ?_, fun q => absurd q (by decide)⟩, fun q => absurd q (by decide)⟩) (fun q => ⟨fun q => absurd rfl q, fun _ => ?_⟩)
    · have ca : a < A 2 0 := by
        have := q.2
        rw [nI_toInt (by omega)] at this
        omega
      have od := ok_d ok ca
      rw [decide_eq_true ca, Bool.true_and] at fin
      refine m_debtOf (j := 6) (by omega) (by omega) ?_
      rw [show 39 + 7 * a + 6 = 45 + 7 * a by omega, (mc_d h ca).2.2.2.2.2.2]
      exact m_cmp hk (by omega) (by omega) (by omega) (h5 (Or.inr rfl)) (h6 (Or.inr rfl)) fin
    · rw [decide_eq_false (fun w => q (inR_nI w (by omega))), Bool.false_and] at fin
      exact fin
