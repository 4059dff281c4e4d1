/-! STEPS 24: life, what a step does -/
def nxD (d : Nat) : Nat := (d * 3259 + 11489) % 65536
theorem nxD_lt (d : Nat) : nxD d < 65536 := Nat.mod_lt _ (by decide)
theorem i_nxD {d : Nat} (h : d < 65536) : (nI d * 3259 + 11489) - (nI d * 3259 + 11489) / 65536 * 65536 = nI (nxD d) := by
  have h1 : d * 3259 ≤ 65535 * 3259 := Nat.mul_le_mul_right _ (by omega)
  rw [show (3259 : Int32) = nI 3259 from rfl, show (11489 : Int32) = nI 11489 from rfl, pk_mul, nI_add]
  exact pk_rem (d := 65536) (by omega) (by omega) (by omega)
theorem i_drw {d m : Nat} (h : d < 65536) (h0 : 0 < m) (hm : m < 2 ^ 31) : nI d / 8 - nI d / 8 / nI m * nI m = nI (d / 8 % m) := by
  rw [show nI d / 8 = nI (d / 8) from pk_div (d := 8) (by omega) (by omega) (by omega)]
  exact pk_rem (by omega) h0 hm
/-- years go, if they may -/
def yr5 (x : Nat) (A : MH) (d : Nat) : Bool × MH × Nat × Nat × Nat := if nI (A 4 0) + nI x ≤ (9999 : Int32) then (true, yrN A x, d, x, 0) else (false, A, d, 0, 0)
/-- a step: could it be done; the house, what is drawn, years, spent -/
def act5 (k a b : Nat) (A : MH) (d : Nat) : Bool × MH × Nat × Nat × Nat :=
  if k = 0 then yr5 a A d
  else if k = 1 then (if a < A 2 0 ∧ (A 6 0).testBit a = false ∧ owd A a ≤ A 12 (A 14 a) then (true, pyd A a, d, 0, owd A a) else (false, A, d, 0, 0))
  else if k = 2 then (if a < A 2 0 ∧ (A 6 0).testBit a = false ∧ b ≤ A 19 a ∧ b ≤ A 12 (A 14 a) then (true, snp A a b, d, 0, b) else (false, A, d, 0, 0))
  else if k = 3 then (if (A 5 0).testBit a = false ∧ A 8 a ≠ 9 then (true, mp A 8 a (A 8 a + 1), d, 0, 0) else (false, A, d, 0, 0))
  else if k = 4 then (true, gan A a b, d, 0, 0)
  else if k = 5 then (if A 1 0 = 0 then (false, A, d, 0, 0) else if nxD (nxD d) / 8 % 16 < A 3 0 then (true, gan A (nxD d / 8 % A 1 0) 20, nxD (nxD d), 0, 0) else yr5 1 A (nxD (nxD d)))
  else (true, A, d, 0, 0)
/-- what a step may be -/
def actO (k a b : Nat) (A : MH) : Prop := a ≤ 99 ∧ b ≤ 9999 ∧ (k = 3 → a < A 0 0) ∧ (k = 4 → a < A 1 0 ∧ b ≤ 99) ∧ (k = 2 → b ≤ 99)
/-- a house behind another: as large, settled, what fell lies -/
def hseB (A B : MH) : Prop := okH B ∧ setl B ∧ B 0 0 = A 0 0 ∧ B 1 0 = A 1 0 ∧ B 2 0 = A 2 0 ∧ ∀ s, (A 5 0).testBit s = true → (B 5 0).testBit s = true
theorem hseB.rfl {A : MH} (ok : okH A) (st : setl A) : hseB A A := ⟨ok, st, _root_.rfl, _root_.rfl, _root_.rfl, fun _ h => h⟩
theorem hseB_yr {A : MH} (ok : okH A) (st : setl A) (n : Nat) : hseB A (yrN A n) := ⟨yrN_ok ok n, yrN_setl st n, yrs_0 A n, yrs_1 A n, yrs_2 A n, fun s h => yrs_sub ok s h n⟩
theorem hseB_py {A : MH} (ok : okH A) {d : Nat} (hd : d < A 2 0) : hseB A (pyd A d) := ⟨pyd_ok ok hd, fal_setl _, rfl, rfl, rfl, fun s h => fal_sub (pyp_ok ok hd) s h⟩
theorem hseB_sn {A : MH} (ok : okH A) {d c : Nat} (hd : d < A 2 0) : hseB A (snp A d c) := ⟨snp_ok ok hd, fal_setl _, rfl, rfl, rfl, fun s h => fal_sub (snq_ok ok hd) s h⟩
theorem hseB_gv {A : MH} (ok : okH A) (st : setl A) (p c : Nat) : hseB A (gan A p c) := ⟨gan_ok ok, gan_setl st, rfl, rfl, rfl, fun _ h => h⟩
theorem hseB_mn {A : MH} (ok : okH A) (st : setl A) {s : Nat} (hs : s < A 0 0) (h9 : A 8 s ≠ 9) : hseB A (mp A 8 s (A 8 s + 1)) := by
  have := (ok_s ok hs).1
  exact ⟨ok_up8 ok (by omega), men_setl ok st (by omega) (by omega), rfl, rfl, rfl, fun _ h => h⟩
theorem yr5_B {x : Nat} {A : MH} {d : Nat} (ok : okH A) (st : setl A) (hd : d < 65536) : hseB A (yr5 x A d).2.1 ∧ (yr5 x A d).2.2.1 < 65536 := by
  unfold yr5
  split
  · exact ⟨hseB_yr ok st x, hd⟩
  · exact ⟨hseB.rfl ok st, hd⟩
theorem act_B {k a b : Nat} {A : MH} {d : Nat} (ok : okH A) (st : setl A) (hd : d < 65536) (ho : actO k a b A) : hseB A (act5 k a b A d).2.1 ∧ (act5 k a b A d).2.2.1 < 65536 := by
  unfold act5
  split
  · exact yr5_B ok st hd
  · split
    · split
      · rename_i c; exact ⟨hseB_py ok c.1, hd⟩
      · exact ⟨hseB.rfl ok st, hd⟩
    · split
      · split
        · rename_i c; exact ⟨hseB_sn ok c.1, hd⟩
        · exact ⟨hseB.rfl ok st, hd⟩
      · split
        · rename_i c3
          split
          · rename_i c; exact ⟨hseB_mn ok st (ho.2.2.1 c3) c.2, hd⟩
          · exact ⟨hseB.rfl ok st, hd⟩
        · split
          · exact ⟨hseB_gv ok st _ _, hd⟩
          · split
            · split
              · exact ⟨hseB.rfl ok st, hd⟩
              · split
                · exact ⟨hseB_gv ok st _ _, nxD_lt _⟩
                · exact yr5_B ok st (nxD_lt _)
            · exact ⟨hseB.rfl ok st, hd⟩
/-- the class's life behind a step -/
def LC (u0 u0' : St) (d' : Nat) (y s : Int32) : Prop := gi u0' 7 = nI d' ∧ gi u0' 3 = gi u0 3 + y ∧ gi u0' 4 = gi u0 4 + s ∧ (∀ k, k ≠ 7 → k ≠ 3 → k ≠ 4 → gi u0' k = gi u0 k) ∧ ga u0' 8 = ga u0 8
theorem LC_0 {u0 : St} {d : Nat} (h : gi u0 7 = nI d) : LC u0 u0 d 0 0 := ⟨h, (Int32.add_zero _).symm, (Int32.add_zero _).symm, fun _ _ _ _ => rfl, rfl⟩
theorem r_goBy {A : MH} {x d : Nat} {u0 u1 : St} {post : Int32 → St → St → Prop} (ok : okH A) (st : setl A) (h : CH u1 A) (hx : x < 2 ^ 31) (hd : gi u0 7 = nI d) (fin : ∀ u0' u1', CH u1' (yr5 x A d).2.1 → LC u0 u0' (yr5 x A d).2.2.1 (nI (yr5 x A d).2.2.2.1) (nI (yr5 x A d).2.2.2.2) → post (bI (yr5 x A d).1) u0' u1') : qX3_goBy (nI x) u0 u1 post := by
  unfold qX3_goBy
  rw [show gi u1 4 = nI (A 4 0) from ch_k h (by omega)]
  refine ⟨fun c => r_passYears ok st hx h (fun u5 h5 u7 e7 => ?_), fun c => ?_⟩
  · have e : yr5 x A d = (true, yrN A x, d, x, 0) := if_pos c
    rw [e] at fin
    refine fin u7 u5 h5 ?_
    subst e7
    exact ⟨hd, rfl, (Int32.add_zero _).symm, fun k h1 h2 h3 => if_neg h2, rfl⟩
  · have e : yr5 x A d = (false, A, d, 0, 0) := if_neg c
    rw [e] at fin
    exact fin u0 u1 h (LC_0 hd)
theorem r_draw {m d : Nat} {u0 : St} {post : Int32 → St → Prop} (h0 : 0 < m) (hm : m < 2 ^ 31) (hd : d < 65536) (h : gi u0 7 = nI d) (fin : post (nI (nxD d / 8 % m)) (si u0 7 (nI (nxD d)))) : qX3_draw (nI m) u0 post := fun u2 e2 => by
  rw [h, i_nxD hd] at e2
  subst e2
  refine ⟨fun c => absurd c (nI_nle h0 hm), fun _ => ⟨nI_ne0 h0 hm, ?_⟩⟩
  have e : gi (si u0 7 (nI (nxD d))) 7 = nI (nxD d) := rfl
  unfold qX3_draw_b36
  rw [e, i_drw (nxD_lt d) h0 hm]
  exact fin
theorem r_giveIf {A : MH} {p c : Nat} {u1 : St} {post : Int32 → St → Prop} (ok : okH A) (h : CH u1 A) (hp : p < A 1 0) (hc : c < 100000) (fin : ∀ u', CH u' (gan A p c) → post 1 u') : qX3_giveIfThere (nI p) (nI c) u1 post := by
  have h5 := ok_np ok
  exact r_isPerson (n := A 1 0) (by omega) (ch_k h (by omega)) (fun _ => ⟨fun _ => r_gain ok h hp hc fin, fun c => absurd c (by decide)⟩) (fun q => absurd (inR_nI hp (by omega)) q)
theorem r_act {k kd a b d : Nat} {A : MH} {u0 u1 u2 : St} {post : Int32 → St → St → St → Prop} (hk : k < 60) (hkd : kd ≤ 5) (h3 : ga u2 3 k = nI kd) (h4 : kd ≠ 5 → ga u2 4 k = nI a) (h5 : kd = 2 ∨ kd = 4 → ga u2 5 k = nI b) (ho : actO kd a b A) (ok : okH A) (st : setl A) (h : CH u1 A) (hd : d < 65536) (h7 : gi u0 7 = nI d) (fin : ∀ u0' u1', CH u1' (act5 kd a b A d).2.1 → LC u0 u0' (act5 kd a b A d).2.2.1 (nI (act5 kd a b A d).2.2.2.1) (nI (act5 kd a b A d).2.2.2.2) → post (bI (act5 kd a b A d).1) u0' u1' u2) : qX3_act (nI k) u0 u1 u2 post := by
  have n7 := ok_nd ok
  have n5 := ok_np ok
  have n8 := ok_ns ok
  have hin : vp_in (nI k) 60 := vp_in_nI hk (by omega)
  have bzI : ∀ c : Bool, bz (bI c) := fun c => by cases c with | true => exact Or.inr rfl | false => exact Or.inl rfl
  unfold qX3_act
  rw [nI_clamp (by omega), h3]
  refine ⟨hin, fun x4 e4 => ⟨hin, fun x5 e5 => ⟨hin, ?_⟩⟩⟩
  have hcase : kd = 0 ∨ kd = 1 ∨ kd = 2 ∨ kd = 3 ∨ kd = 4 ∨ kd = 5 := by omega
  obtain ⟨o1, o2, o3, o4, o5⟩ := ho
  rcases hcase with rfl | rfl | rfl | rfl | rfl | rfl
  · rw [h4 (by decide)] at e4
    subst e4
    exact ⟨fun _ => r_goBy ok st h (by omega) h7 (fun v0 v1 a1 a2 => ⟨bzI _, fin v0 v1 a1 a2⟩), fun c => absurd c (by decide), fun c => absurd c (by decide), fun c => absurd c (by decide), fun c => absurd c (by decide), fun c => absurd rfl c⟩
  · rw [h4 (by decide)] at e4
    subst e4
    refine ⟨fun c => absurd c (by decide), fun _ => ?_, fun c => absurd c (by decide), fun c => absurd c (by decide), fun c => absurd c (by decide), fun _ c => absurd rfl c⟩
    have no : ¬ (a < A 2 0 ∧ (A 6 0).testBit a = false ∧ owd A a ≤ A 12 (A 14 a)) → bz 0 ∧ post 0 u0 u1 u2 := fun c => by
      have e : act5 1 a b A d = (false, A, d, 0, 0) := if_neg c
      rw [e] at fin
      exact ⟨Or.inl rfl, fin u0 u1 h (LC_0 h7)⟩
    by_cases ca : a < A 2 0
    · refine r_canPay ok h ca (fun q => ⟨fun _ => r_payDebt ok h ca q (fun v1 hv1 v0 e0 => ?_), fun c => absurd c (by decide)⟩) (fun q => ⟨fun c => absurd rfl c, fun _ => no (fun w => q w.2)⟩)
      have hc : a < A 2 0 ∧ (A 6 0).testBit a = false ∧ owd A a ≤ A 12 (A 14 a) := ⟨ca, q⟩
      have e : act5 1 a b A d = (true, pyd A a, d, 0, owd A a) := if_pos hc
      rw [e] at fin
      refine ⟨Or.inr rfl, fin v0 v1 hv1 ?_⟩
      subst e0
      exact ⟨h7, (Int32.add_zero _).symm, rfl, fun k h1 h2 h3 => if_neg h3, rfl⟩
    · unfold qX3_payIfAble qX2_canPay
      exact r_isDebt (n := A 2 0) (by omega) (ch_k h (by omega)) (fun c => absurd (by have := c.2; rw [nI_toInt (by omega)] at this; omega) ca) (fun _ => ⟨fun _ => ⟨Or.inl rfl, fun c => absurd rfl c, fun _ => no (fun w => ca w.1)⟩, fun c => absurd rfl c⟩)
  · rw [h4 (by decide)] at e4
    rw [h5 (Or.inl rfl)] at e5
    subst e4; subst e5
    refine ⟨fun c => absurd c (by decide), fun c => absurd c (by decide), fun _ => ?_, fun c => absurd c (by decide), fun c => absurd c (by decide), fun _ _ c => absurd rfl c⟩
    have no : ¬ (a < A 2 0 ∧ (A 6 0).testBit a = false ∧ b ≤ A 19 a ∧ b ≤ A 12 (A 14 a)) → bz 0 ∧ post 0 u0 u1 u2 := fun c => by
      have e : act5 2 a b A d = (false, A, d, 0, 0) := if_neg c
      rw [e] at fin
      exact ⟨Or.inl rfl, fin u0 u1 h (LC_0 h7)⟩
    by_cases ca : a < A 2 0
    · refine r_canSnip ok h ca (by omega) (fun q => ⟨fun _ => r_snipDebt ok h ca q (fun v1 hv1 v0 e0 => ?_), fun c => absurd c (by decide)⟩) (fun q => ⟨fun c => absurd rfl c, fun _ => no (fun w => q w.2)⟩)
      have hc : a < A 2 0 ∧ (A 6 0).testBit a = false ∧ b ≤ A 19 a ∧ b ≤ A 12 (A 14 a) := ⟨ca, q⟩
      have e : act5 2 a b A d = (true, snp A a b, d, 0, b) := if_pos hc
      rw [e] at fin
      refine ⟨Or.inr rfl, fin v0 v1 hv1 ?_⟩
      subst e0
      exact ⟨h7, (Int32.add_zero _).symm, rfl, fun k h1 h2 h3 => if_neg h3, rfl⟩
    · unfold qX3_snipIfAble qX2_canSnip
      exact r_isDebt (n := A 2 0) (by omega) (ch_k h (by omega)) (fun c => absurd (by have := c.2; rw [nI_toInt (by omega)] at this; omega) ca) (fun _ => ⟨fun _ => ⟨Or.inl rfl, fun c => absurd rfl c, fun _ => no (fun w => ca w.1)⟩, fun c => absurd rfl c⟩)
  · rw [h4 (by decide)] at e4
    subst e4
    refine ⟨fun c => absurd c (by decide), fun c => absurd c (by decide), fun c => absurd c (by decide), fun _ => ?_, fun c => absurd c (by decide), fun _ _ _ c => absurd rfl c⟩
    have hs := o3 rfl
    have os := ok_s ok hs
    have ec : (nI a).toNatClampNeg = a := nI_clamp (by omega)
    have e8 : ga u1 8 a = nI (A 8 a) := ch_s h (by omega) (by omega) hs
    have hin8 : vp_in (nI a) 8 := vp_in_nI (by omega) (by omega)
    have no : ¬ ((A 5 0).testBit a = false ∧ A 8 a ≠ 9) → bz 0 ∧ post 0 u0 u1 u2 := fun c => by
      have e : act5 3 a b A d = (false, A, d, 0, 0) := if_neg c
      rw [e] at fin
      exact ⟨Or.inl rfl, fin u0 u1 h (LC_0 h7)⟩
    refine r_isStone (n := A 0 0) (by omega) (ch_k h (by omega)) (fun _ => ⟨fun c => absurd c (by decide), fun _ => ?_⟩) (fun q => absurd (inR_nI hs (by omega)) q)
    refine r_hasFallen ok h (by omega) (fun c2 => ⟨fun _ => ⟨Or.inl rfl, fun c => absurd rfl c, fun _ => no (fun w => by rw [w.1] at c2; exact absurd c2 (by decide))⟩, fun c => absurd c (by decide)⟩) (fun c2 => ⟨fun c => absurd rfl c, fun _ => ⟨hin8, ?_⟩⟩)
    rw [ec, e8]
    by_cases c9 : A 8 a = 9
    · rw [c9]
      exact ⟨fun _ => ⟨Or.inl rfl, fun c => absurd rfl c, fun _ => no (fun w => w.2 c9)⟩, fun c => absurd (by decide) c⟩
    · refine ⟨fun q => absurd q (nI_ge (b := 9) (by omega) (by omega)), fun _ => ⟨Or.inr rfl, fun _ => ⟨hin8, hin8, fun v1 e1 => ?_⟩, fun c => absurd c (by decide)⟩⟩
      rw [e8, nI_1] at e1
      have hc : (A 5 0).testBit a = false ∧ A 8 a ≠ 9 := ⟨c2, c9⟩
      have e : act5 3 a b A d = (true, mp A 8 a (A 8 a + 1), d, 0, 0) := if_pos hc
      rw [e] at fin
      refine ⟨Or.inr rfl, fin u0 v1 ?_ (LC_0 h7)⟩
      subst e1
      exact ch_up h (by omega) (by omega) (by omega)
  · rw [h4 (by decide)] at e4
    rw [h5 (Or.inr rfl)] at e5
    subst e4; subst e5
    have o4' := o4 rfl
    refine ⟨fun c => absurd c (by decide), fun c => absurd c (by decide), fun c => absurd c (by decide), fun c => absurd c (by decide), fun _ => ?_, fun _ _ _ _ c => absurd rfl c⟩
    exact r_giveIf ok h o4'.1 (by omega) (fun v1 hv1 => ⟨Or.inr rfl, fin u0 v1 hv1 (LC_0 h7)⟩)
  · refine ⟨fun c => absurd c (by decide), fun c => absurd c (by decide), fun c => absurd c (by decide), fun c => absurd c (by decide), fun c => absurd c (by decide), fun _ _ _ _ _ => ?_⟩
    have e1 : gi u1 1 = nI (A 1 0) := ch_k h (by omega)
    have e3 : gi u1 3 = nI (A 3 0) := ch_k h (by omega)
    have h16 := ok.2.2.2.1
    unfold qX3_hasWindfall
    rw [e1, e3]
    by_cases c0 : A 1 0 = 0
    · have e : act5 5 a b A d = (false, A, d, 0, 0) := if_pos c0
      rw [e] at fin
      rw [c0]
      exact ⟨fun _ => ⟨Or.inl rfl, fin u0 u1 h (LC_0 h7)⟩, fun c => absurd (by decide) c⟩
    · have hp0 : 0 < A 1 0 := by omega
      refine ⟨fun c => absurd c (nI_nle hp0 (by omega)), fun _ => r_draw hp0 (by omega) hd h7 (r_draw (m := 16) (by omega) (by omega) (nxD_lt d) rfl ?_)⟩
      have hml : nxD (nxD d) / 8 % 16 < 16 := Nat.mod_lt _ (by decide)
      have hpl : nxD d / 8 % A 1 0 < A 1 0 := Nat.mod_lt _ hp0
      have l2 : LC u0 (si (si u0 7 (nI (nxD d))) 7 (nI (nxD (nxD d)))) (nxD (nxD d)) 0 0 := ⟨rfl, (Int32.add_zero _).symm, (Int32.add_zero _).symm, fun k h1 _ _ => by rw [gi_si, if_neg h1, gi_si, if_neg h1], rfl⟩
      rw [nI_leI (by omega) (by omega)]
      refine ⟨fun c => ⟨Or.inl rfl, fun q => absurd rfl q, fun _ => ?_⟩, fun c => r_giveIf (c := 20) ok h hpl (by omega) (fun v1 hv1 => ⟨fun q => absurd q (by decide), fun _ => ⟨Or.inr rfl, fun _ => ⟨Or.inr rfl, ?_⟩, fun q => absurd q (by decide)⟩⟩)⟩
      · have e : act5 5 a b A d = yr5 1 A (nxD (nxD d)) := by
          show (if A 1 0 = 0 then _ else if nxD (nxD d) / 8 % 16 < A 3 0 then _ else yr5 1 A (nxD (nxD d))) = _
          rw [if_neg c0, if_neg (by omega)]
        rw [e] at fin
        refine r_goBy (x := 1) ok st h (by omega) l2.1 (fun v0 v1 a1 a2 => ?_)
        have l3 : LC u0 v0 (yr5 1 A (nxD (nxD d))).2.2.1 (nI (yr5 1 A (nxD (nxD d))).2.2.2.1) (nI (yr5 1 A (nxD (nxD d))).2.2.2.2) := ⟨a2.1, a2.2.1, a2.2.2.1, fun k h1 h2 h3 => (a2.2.2.2.1 k h1 h2 h3).trans (l2.2.2.2.1 k h1 h2 h3), a2.2.2.2.2⟩
        have f := fin v0 v1 a1 l3
        rw [bI_0]
        refine ⟨fun q => ?_, fun q => ?_⟩
        · rw [q] at f
          exact ⟨Or.inl rfl, f⟩
        · have q' : (yr5 1 A (nxD (nxD d))).1 = true := by cases w : (yr5 1 A (nxD (nxD d))).1 with | true => rfl | false => exact absurd w q
          rw [q'] at f
          exact ⟨Or.inr rfl, f⟩
      · have e : act5 5 a b A d = (true, gan A (nxD d / 8 % A 1 0) 20, nxD (nxD d), 0, 0) := by
          show (if A 1 0 = 0 then _ else if nxD (nxD d) / 8 % 16 < A 3 0 then (true, gan A (nxD d / 8 % A 1 0) 20, nxD (nxD d), 0, 0) else _) = _
          rw [if_neg c0, if_pos (by omega)]
        rw [e] at fin
        exact fin _ v1 hv1 l2
