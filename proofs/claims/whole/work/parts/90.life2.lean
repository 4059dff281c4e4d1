/-! STEPS 25: life, what the reference's step does; what holds -/
def LM (u u' : St) (d' : Nat) (y s f : Int32) : Prop := gi u' 33 = nI d' ∧ ga u' 36 1 = ga u 36 1 + y ∧ ga u' 36 2 = ga u 36 2 + s ∧ ga u' 36 3 = ga u 36 3 + f ∧ ga u' 36 0 = ga u 36 0 ∧ ga u' 36 4 = ga u 36 4 ∧ gi u' 34 = gi u 34 ∧ ga u' 35 = ga u 35 ∧ mKeep u u' ∧ (∀ j, 88 ≤ j → j < 3072 → ga u' 0 j = ga u 0 j) ∧ ga u' 0 7 = ga u 0 7
theorem i_z (a b : Int32) : a + (b - b) = a := by grind
theorem LM_same {u u' : St} {d : Nat} {b : Int32} (h : mSame u u') (hd : gi u' 33 = nI d) : LM u u' d 0 0 (b - b) := by
  obtain ⟨k, c, c7, s33, s34, s35, s36⟩ := h
  refine ⟨hd, ?_, ?_, ?_, ?_, ?_, s34, s35, k, c, c7⟩
  · rw [s36, Int32.add_zero]
  · rw [s36, Int32.add_zero]
  · rw [s36, i_z]
  · rw [s36]
  · rw [s36]
theorem LM_36 {u u' u2 : St} {d : Nat} {y s f : Int32} (h : mSame u u') (hd : gi u 33 = nI d) (e : ∃ g : Nat → Int32, u2 = sw u' 36 g ∧ g 1 = ga u 36 1 + y ∧ g 2 = ga u 36 2 + s ∧ g 3 = ga u 36 3 + f ∧ g 0 = ga u 36 0 ∧ g 4 = ga u 36 4) : LM u u2 d y s f := by
  obtain ⟨g, rfl, g1, g2, g3, g0, g4⟩ := e
  obtain ⟨k, c, c7, s33, s34, s35, s36⟩ := h
  exact ⟨s33.trans hd, g1, g2, g3, g0, g4, s34, s35, k, c, c7⟩
theorem m_yearsBy {A : MH} {x d : Nat} {u : St} {post : Int32 → St → Prop} (ok : okH A) (h : MC u A) (hx : x < 2 ^ 31) (hd : gi u 33 = nI d) (fin : ∀ u', MC u' (yr5 x A d).2.1 → LM u u' (yr5 x A d).2.2.1 (nI (yr5 x A d).2.2.2.1) (nI (yr5 x A d).2.2.2.2) (nI (pc ((yr5 x A d).2.1 5 0)) - nI (pc (A 5 0))) → post (bI (yr5 x A d).1) u') : qX12_yearsBy (nI x) u post := by
  unfold qX12_yearsBy
  rw [show ga u 0 (4 : Int32).toNatClampNeg = nI (A 4 0) from mc_k (k := 4) h (by omega)]
  refine ⟨fun c => m_yearsGo ok hx h (fun u1 h1 k1 u2 e2 u3 e3 => ?_), fun c => ?_⟩
  · have e : yr5 x A d = (true, yrN A x, d, x, 0) := if_pos c
    rw [e] at fin
    have s36 := k1.2.2.2.2.2.2
    refine fin u3 ?_ (LM_36 k1 hd ⟨upd (upd (ga u1 36) 3 (ga u 36 3 + (nI (pc (yrs A x 5 0)) - nI (pc (A 5 0))))) 1 (ga u1 36 1 + nI x), ?_, ?_, ?_, ?_, ?_, ?_⟩)
    · rw [e3, e2]
      exact h1
    · rw [e3, e2, sw_sw]
      rfl
    · rw [upd_at, if_pos rfl, s36]
    · rw [upd_at, if_neg (by decide), upd_at, if_neg (by decide), s36]
      exact (Int32.add_zero _).symm
    · rw [upd_at, if_neg (by decide), upd_at, if_pos rfl]
      rfl
    · rw [upd_at, if_neg (by decide), upd_at, if_neg (by decide), s36]
    · rw [upd_at, if_neg (by decide), upd_at, if_neg (by decide), s36]
  · have e : yr5 x A d = (false, A, d, 0, 0) := if_neg c
    rw [e] at fin
    exact fin u h (LM_same mSame.rfl hd)
theorem m_draw {m d : Nat} {u : St} {post : Int32 → St → Prop} (h0 : 0 < m) (hm : m < 2 ^ 31) (hd : d < 65536) (h : gi u 33 = nI d) (fin : post (nI (nxD d / 8 % m)) (si u 33 (nI (nxD d)))) : qX12_draw (nI m) u post := fun u2 e2 => by
  rw [h, i_nxD hd] at e2
  subst e2
  refine ⟨nI_ne0 h0 hm, ?_⟩
  have e : gi (si u 33 (nI (nxD d))) 33 = nI (nxD d) := rfl
  rw [e, i_drw (nxD_lt d) h0 hm]
  exact fin
theorem m_does {k kd k1 a b d : Nat} {A : MH} {u : St} {post : Int32 → St → Prop} (hk : k < 60) (hR : kR kd k1) (h6 : kd ≠ 6) (h13 : kd ≠ 13) (h3 : ga u 0 (88 + 6 * k) = nI k1) (h4 : kd ≤ 4 → ga u 0 (89 + 6 * k) = nI a) (h5 : kd = 2 ∨ kd = 4 → ga u 0 (90 + 6 * k) = nI b) (ho : actO kd a b A) (ok : okH A) (h : MC u A) (hd : d < 65536) (h33 : gi u 33 = nI d) (fin : ∀ u', MC u' (act5 kd a b A d).2.1 → LM u u' (act5 kd a b A d).2.2.1 (nI (act5 kd a b A d).2.2.2.1) (nI (act5 kd a b A d).2.2.2.2) (nI (pc ((act5 kd a b A d).2.1 5 0)) - nI (pc (A 5 0))) → post (bI (act5 kd a b A d).1) u') : qX12_does (nI (88 + 6 * k)) u post := by
  have n7 := ok_nd ok
  have n5 := ok_np ok
  have n8 := ok_ns ok
  have bzI : ∀ c : Bool, bz (bI c) := fun c => by cases c with | true => exact Or.inr rfl | false => exact Or.inl rfl
  have E1 : nI (88 + 6 * k) + 1 = nI (89 + 6 * k) := (nI_add _ 1).trans (by rw [show 88 + 6 * k + 1 = 89 + 6 * k by omega])
  have E2 : nI (88 + 6 * k) + 2 = nI (90 + 6 * k) := (nI_add _ 2).trans (by rw [show 88 + 6 * k + 2 = 90 + 6 * k by omega])
  unfold qX12_does
  rw [E1, E2, nI_clamp (n := 88 + 6 * k) (by omega), nI_clamp (n := 89 + 6 * k) (by omega), nI_clamp (n := 90 + 6 * k) (by omega), h3]
  refine ⟨vp_in_nI (by omega) (by omega), fun x ex => ⟨vp_in_nI (by omega) (by omega), ?_⟩⟩
  obtain ⟨o1, o2, o3, o4, o5⟩ := ho
  have hin2 : vp_in (nI (90 + 6 * k)) 3072 := vp_in_nI (by omega) (by omega)
  have other : kd = 7 ∨ 9 ≤ kd → post 1 u := fun q => by
    have e : act5 kd a b A d = (true, A, d, 0, 0) := by
      unfold act5
      rw [if_neg (by omega), if_neg (by omega), if_neg (by omega), if_neg (by omega), if_neg (by omega), if_neg (by omega)]
    rw [e] at fin
    exact fin u h (LM_same mSame.rfl h33)
  unfold kR at hR
  rcases hR with ⟨rfl, rfl⟩ | ⟨rfl, rfl⟩ | ⟨rfl, rfl⟩ | ⟨rfl, rfl⟩ | ⟨rfl, rfl⟩ | ⟨rfl, rfl⟩ | ⟨rfl, rfl⟩ | ⟨rfl, rfl⟩ | ⟨rfl, rfl⟩ | ⟨rfl, rfl⟩ | ⟨rfl, rfl⟩ | ⟨rfl, rfl⟩ | ⟨rfl, rfl⟩
  · rw [h4 (by decide)] at ex
    subst ex
    exact ⟨fun _ => m_yearsBy ok h (by omega) h33 (fun u' a1 a2 => ⟨bzI _, fin u' a1 a2⟩), fun c => absurd c (by decide), fun c => absurd c (by decide), fun c => absurd c (by decide), fun c => absurd c (by decide), fun c => absurd c (by decide), fun c => absurd rfl c⟩
  · rw [h4 (by decide)] at ex
    subst ex
    refine ⟨fun c => absurd c (by decide), fun _ => ?_, fun c => absurd c (by decide), fun c => absurd c (by decide), fun c => absurd c (by decide), fun c => absurd c (by decide), fun _ c => absurd rfl c⟩
    have no : ¬ (a < A 2 0 ∧ (A 6 0).testBit a = false ∧ owd A a ≤ A 12 (A 14 a)) → ∀ u', MC u' A → mSame u u' → bz 0 ∧ post 0 u' := fun c u' m' k' => by
      have e : act5 1 a b A d = (false, A, d, 0, 0) := if_neg c
      rw [e] at fin
      exact ⟨Or.inl rfl, fin u' m' (LM_same k' (k'.2.2.2.1.trans h33))⟩
    refine m_isDebt (n := A 2 0) (by omega) (mc_k h (by omega)) (fun c => ⟨fun c => absurd c (by decide), fun _ => ?_⟩) (fun c => ⟨fun _ => ⟨fun q => absurd rfl q, fun _ => no (fun w => c (inR_nI w.1 (by omega))) u h mSame.rfl⟩, fun c => absurd rfl c⟩)
    have ca : a < A 2 0 := by
      have := c.2
      rw [nI_toInt (by omega)] at this
      omega
    have ow := owd_le ok ca
    refine m_paysAndFalls ok h ca (fun q u1 m1 k1 e24 => ⟨fun _ u2 e2 u3 e3 => ?_, fun w => absurd w (nI_m1 (by omega))⟩) (fun q => ⟨fun w => absurd rfl w, fun _ => no (fun w => q w.2) _ h (mSame_24 _ _)⟩)
    have hc : a < A 2 0 ∧ (A 6 0).testBit a = false ∧ owd A a ≤ A 12 (A 14 a) := ⟨ca, q⟩
    have e : act5 1 a b A d = (true, pyd A a, d, 0, owd A a) := if_pos hc
    rw [e] at fin
    have s36 := k1.2.2.2.2.2.2
    refine ⟨Or.inr rfl, fin u3 ?_ (LM_36 k1 h33 ⟨upd (upd (ga u1 36) 2 (ga u1 36 2 + nI (owd A a))) 3 (ga u1 36 3 + (nI (pc (pyd A a 5 0)) - nI (pc (A 5 0)))), ?_, ?_, ?_, ?_, ?_, ?_⟩)⟩
    · rw [e3, e2]
      exact m1
    · rw [e3, show gi u2 24 = nI (pc (pyd A a 5 0)) - nI (pc (A 5 0)) from by rw [e2]; exact e24, e2, sw_sw]
      rfl
    · rw [upd_at, if_neg (by decide), upd_at, if_neg (by decide), s36]
      exact (Int32.add_zero _).symm
    · rw [upd_at, if_neg (by decide), upd_at, if_pos rfl, s36]
    · rw [upd_at, if_pos rfl, s36]
    · rw [upd_at, if_neg (by decide), upd_at, if_neg (by decide), s36]
    · rw [upd_at, if_neg (by decide), upd_at, if_neg (by decide), s36]
  · rw [h4 (by decide)] at ex
    subst ex
    rw [h5 (Or.inl rfl)]
    refine ⟨fun c => absurd c (by decide), fun c => absurd c (by decide), fun _ => ⟨hin2, ?_⟩, fun c => absurd c (by decide), fun c => absurd c (by decide), fun c => absurd c (by decide), fun _ _ c => absurd rfl c⟩
    have no : ¬ (a < A 2 0 ∧ (A 6 0).testBit a = false ∧ b ≤ A 19 a ∧ b ≤ A 12 (A 14 a)) → ∀ u', MC u' A → mSame u u' → bz 0 ∧ post 0 u' := fun c u' m' k' => by
      have e : act5 2 a b A d = (false, A, d, 0, 0) := if_neg c
      rw [e] at fin
      exact ⟨Or.inl rfl, fin u' m' (LM_same k' (k'.2.2.2.1.trans h33))⟩
    refine m_isDebt (n := A 2 0) (by omega) (mc_k h (by omega)) (fun c => ⟨fun c => absurd c (by decide), fun _ => ?_⟩) (fun c => ⟨fun _ => no (fun w => c (inR_nI w.1 (by omega))) u h mSame.rfl, fun c => absurd rfl c⟩)
    have ca : a < A 2 0 := by
      have := c.2
      rw [nI_toInt (by omega)] at this
      omega
    refine m_snips ok h ca (by omega) (fun q u1 m1 k1 e24 => ⟨fun _ u2 e2 u3 e3 => ?_, fun w => absurd w (by decide)⟩) (fun q => ⟨fun w => absurd rfl w, fun _ => no (fun w => q w.2) _ h (mSame_24 _ _)⟩)
    have hc : a < A 2 0 ∧ (A 6 0).testBit a = false ∧ b ≤ A 19 a ∧ b ≤ A 12 (A 14 a) := ⟨ca, q⟩
    have e : act5 2 a b A d = (true, snp A a b, d, 0, b) := if_pos hc
    rw [e] at fin
    have s36 := k1.2.2.2.2.2.2
    refine ⟨Or.inr rfl, fin u3 ?_ (LM_36 k1 h33 ⟨upd (upd (ga u1 36) 2 (ga u1 36 2 + nI b)) 3 (ga u1 36 3 + (nI (pc (snp A a b 5 0)) - nI (pc (A 5 0)))), ?_, ?_, ?_, ?_, ?_, ?_⟩)⟩
    · rw [e3, e2]
      exact m1
    · rw [e3, show gi u2 24 = nI (pc (snp A a b 5 0)) - nI (pc (A 5 0)) from by rw [e2]; exact e24, e2, sw_sw]
      rfl
    · rw [upd_at, if_neg (by decide), upd_at, if_neg (by decide), s36]
      exact (Int32.add_zero _).symm
    · rw [upd_at, if_neg (by decide), upd_at, if_pos rfl, s36]
    · rw [upd_at, if_pos rfl, s36]
    · rw [upd_at, if_neg (by decide), upd_at, if_neg (by decide), s36]
    · rw [upd_at, if_neg (by decide), upd_at, if_neg (by decide), s36]
  · rw [h4 (by decide)] at ex
    subst ex
    have hs := o3 rfl
    have os := ok_s ok hs
    have hv2 : vp_in (nI (10 + 3 * a)) 3072 := vp_in_nI (by omega) (by omega)
    refine ⟨fun c => absurd c (by decide), fun c => absurd c (by decide), fun c => absurd c (by decide), fun _ => ?_, fun c => absurd c (by decide), fun c => absurd c (by decide), fun _ _ _ c => absurd rfl c⟩
    have no : ¬ ((A 5 0).testBit a = false ∧ A 8 a ≠ 9) → bz 0 ∧ post 0 u := fun c => by
      have e : act5 3 a b A d = (false, A, d, 0, 0) := if_neg c
      rw [e] at fin
      exact ⟨Or.inl rfl, fin u h (LM_same mSame.rfl h33)⟩
    unfold qX12_mends
    rw [show ga u 0 (5 : Int32).toNatClampNeg = nI (A 5 0) from mc_k (k := 5) h (by omega)]
    refine m_isIn (ok_fallen ok) (by omega) (fun c2 => ⟨fun _ => no (fun w => by rw [w.1] at c2; exact absurd c2 (by decide)), fun c => absurd c (by decide)⟩) (fun c2 => ⟨fun c => absurd rfl c, fun _ => m_stoneRow ?_⟩)
    rw [nI_clamp (by omega), (mc_st h hs).1]
    refine ⟨hv2, fun c9 => m_stoneRow ?_, fun c9 => no (fun w => w.2 ((nI_eq (b := 9) (by omega) (by omega)).mp c9))⟩
    rw [nI_clamp (by omega), (mc_st h hs).1, nI_1]
    refine ⟨hv2, hv2, fun u1 e1 => ?_⟩
    have hc : (A 5 0).testBit a = false ∧ A 8 a ≠ 9 := ⟨c2, fun q => c9 (by rw [q]; rfl)⟩
    have e : act5 3 a b A d = (true, mp A 8 a (A 8 a + 1), d, 0, 0) := if_pos hc
    rw [e] at fin
    refine ⟨Or.inr rfl, fin u1 ?_ (LM_same ?_ ?_)⟩
    · subst e1
      exact mc_up8 ok h hs
    · subst e1
      exact mSame_upd _ _ (by omega) (by omega)
    · subst e1
      exact h33
  · rw [h4 (by decide)] at ex
    subst ex
    rw [h5 (Or.inr rfl)]
    have o4' := o4 rfl
    refine ⟨fun c => absurd c (by decide), fun c => absurd c (by decide), fun c => absurd c (by decide), fun c => absurd c (by decide), fun _ => ⟨hin2, ?_⟩, fun c => absurd c (by decide), fun _ _ _ _ c => absurd rfl c⟩
    exact m_givesTo ok h o4'.1 (by omega) (fun u1 m1 k1 => fin u1 m1 (LM_same k1 (k1.2.2.2.1.trans h33)))
  · refine ⟨fun c => absurd c (by decide), fun c => absurd c (by decide), fun c => absurd c (by decide), fun c => absurd c (by decide), fun c => absurd c (by decide), fun _ => ?_, fun _ _ _ _ _ c => absurd rfl c⟩
    have h16 := ok.2.2.2.1
    unfold qX12_doesAny
    rw [show ga u 0 (1 : Int32).toNatClampNeg = nI (A 1 0) from mc_k (k := 1) h (by omega)]
    by_cases c0 : A 1 0 = 0
    · have e : act5 5 a b A d = (false, A, d, 0, 0) := if_pos c0
      rw [e] at fin
      rw [c0]
      exact ⟨fun c => absurd rfl c, fun _ => ⟨Or.inl rfl, fin u h (LM_same mSame.rfl h33)⟩⟩
    · have hp0 : 0 < A 1 0 := by omega
      refine ⟨fun _ => m_draw hp0 (by omega) hd h33 (m_draw (m := 16) (by omega) (by omega) (nxD_lt d) rfl ?_), fun c => absurd c (nI_ne0 hp0 (by omega))⟩
      have hml : nxD (nxD d) / 8 % 16 < 16 := Nat.mod_lt _ (by decide)
      have hpl : nxD d / 8 % A 1 0 < A 1 0 := Nat.mod_lt _ hp0
      have h2 : MC (si (si u 33 (nI (nxD d))) 33 (nI (nxD (nxD d)))) A := h
      have k2 : ∀ u', mSame (si (si u 33 (nI (nxD d))) 33 (nI (nxD (nxD d)))) u' → LM u u' (nxD (nxD d)) 0 0 (nI (pc (A 5 0)) - nI (pc (A 5 0))) := fun u' q => by
        obtain ⟨k, c, c7, s33, s34, s35, s36⟩ := q
        refine ⟨s33, ?_, ?_, ?_, ?_, ?_, s34, s35, k, c, c7⟩
        · rw [s36, Int32.add_zero]; rfl
        · rw [s36, Int32.add_zero]; rfl
        · rw [s36, i_z]; rfl
        · rw [s36]; rfl
        · rw [s36]; rfl
      rw [show ga (si (si u 33 (nI (nxD d))) 33 (nI (nxD (nxD d)))) 0 (3 : Int32).toNatClampNeg = nI (A 3 0) from mc_k (k := 3) h (by omega), nI_ltI (by omega) (by omega)]
      refine ⟨fun c => m_givesTo (c := 20) ok h2 hpl (by omega) (fun u1 m1 k1 => ⟨Or.inr rfl, ?_⟩), fun c => m_yearsBy (x := 1) ok h2 (by omega) rfl (fun u1 m1 l1 => ⟨bzI _, bzI _, ?_⟩)⟩
      · have e : act5 5 a b A d = (true, gan A (nxD d / 8 % A 1 0) 20, nxD (nxD d), 0, 0) := by
          show (if A 1 0 = 0 then _ else if nxD (nxD d) / 8 % 16 < A 3 0 then (true, gan A (nxD d / 8 % A 1 0) 20, nxD (nxD d), 0, 0) else _) = _
          rw [if_neg c0, if_pos c]
        rw [e] at fin
        exact fin u1 m1 (k2 u1 k1)
      · have e : act5 5 a b A d = yr5 1 A (nxD (nxD d)) := by
          show (if A 1 0 = 0 then _ else if nxD (nxD d) / 8 % 16 < A 3 0 then _ else yr5 1 A (nxD (nxD d))) = _
          rw [if_neg c0, if_neg c]
        rw [e] at fin
        exact fin u1 m1 l1
  · exact absurd rfl h6
  · exact ⟨fun c => absurd c (by decide), fun c => absurd c (by decide), fun c => absurd c (by decide), fun c => absurd c (by decide), fun c => absurd c (by decide), fun c => absurd c (by decide), fun _ _ _ _ _ _ => other (Or.inl rfl)⟩
  · exact ⟨fun c => absurd c (by decide), fun c => absurd c (by decide), fun c => absurd c (by decide), fun c => absurd c (by decide), fun c => absurd c (by decide), fun c => absurd c (by decide), fun _ _ _ _ _ _ => other (Or.inr (by decide))⟩
  · exact ⟨fun c => absurd c (by decide), fun c => absurd c (by decide), fun c => absurd c (by decide), fun c => absurd c (by decide), fun c => absurd c (by decide), fun c => absurd c (by decide), fun _ _ _ _ _ _ => other (Or.inr (by decide))⟩
  · exact ⟨fun c => absurd c (by decide), fun c => absurd c (by decide), fun c => absurd c (by decide), fun c => absurd c (by decide), fun c => absurd c (by decide), fun c => absurd c (by decide), fun _ _ _ _ _ _ => other (Or.inr (by decide))⟩
  · exact ⟨fun c => absurd c (by decide), fun c => absurd c (by decide), fun c => absurd c (by decide), fun c => absurd c (by decide), fun c => absurd c (by decide), fun c => absurd c (by decide), fun _ _ _ _ _ _ => other (Or.inr (by decide))⟩
  · exact absurd rfl h13
/-- what a 'when' asks -/
def cmpB (v b c : Nat) : Bool := if c = 60 then decide (v < b) else if c = 62 then decide (b < v) else decide (v = b)
def cndB (k a b c : Nat) (A : MH) : Bool := if k = 9 then ! (A 5 0).testBit a else if k = 10 then (A 6 0).testBit a else if k = 11 then cmpB (A 12 a) b c else decide (a < A 2 0) && cmpB (A 19 a) b c
theorem r_compares {k v b c : Nat} {u : St} {post : Int32 → St → Prop} (hk : k < 60) (hv : v < 2 ^ 31) (hb : b < 2 ^ 31) (hc : c < 2 ^ 31) (h5 : ga u 5 k = nI b) (h6 : ga u 6 k = nI c) (fin : post (bI (cmpB v b c)) u) : qX3_compares (nI v) (nI k) u post := by
  have hin : vp_in (nI k) 60 := vp_in_nI hk (by omega)
  unfold qX3_compares
  rw [nI_clamp (by omega), h5, h6]
  refine ⟨hin, fun x ex => ⟨hin, ?_⟩⟩
  subst ex
  unfold cmpB at fin
  rw [show (60 : Int32) = nI 60 from rfl, show (62 : Int32) = nI 62 from rfl, nI_eq hc (by omega), nI_eq hc (by omega), nI_leI hb hv, nI_leI hv hb, nI_eq hv hb]
  refine ⟨fun q => ?_, fun q => ?_, fun q q2 => ?_⟩
  · rw [if_pos q] at fin
    refine ⟨fun w => ⟨Or.inl rfl, ?_⟩, fun w => ⟨Or.inr rfl, ?_⟩⟩
    · rw [decide_eq_false (by omega)] at fin
      exact fin
    · rw [decide_eq_true (by omega)] at fin
      exact fin
  · rw [if_neg (by omega), if_pos q] at fin
    refine ⟨fun w => ⟨Or.inl rfl, ?_⟩, fun w => ⟨Or.inr rfl, ?_⟩⟩
    · rw [decide_eq_false (by omega)] at fin
      exact fin
    · rw [decide_eq_true (by omega)] at fin
      exact fin
  · rw [if_neg q, if_neg q2] at fin
    refine ⟨fun w => ⟨Or.inl rfl, ?_⟩, fun w => ⟨Or.inr rfl, ?_⟩⟩
    · rw [decide_eq_false w] at fin
      exact fin
    · rw [decide_eq_true w] at fin
      exact fin
