/-! HOUSE RULES 7: a debt more -/
theorem ga_up0 (u : St) (i j : Nat) (v : Int32) : ga (sw u 0 (upd (ga u 0) i v)) 0 j = if j = i then v else ga u 0 j := rfl
/-- a debt behind the last one -/
def ad7 (M : MH) (g : Bool) : Nat := if g then M 7 0 ||| 2 ^ M 2 0 else M 7 0
def adt (M : MH) (a b c r : Nat) (g : Bool) (s : Nat) : MH := mp (mp (mp (mp (mp (mp (mp (mp M 14 (M 2 0) a) 15 (M 2 0) b) 16 (M 2 0) c) 17 (M 2 0) r) 7 0 (ad7 M g)) 18 (M 2 0) s) 19 (M 2 0) 0) 2 0 (M 2 0 + 1)
theorem adt_k (M : MH) (a b c r : Nat) (g : Bool) (s : Nat) {k i : Nat} (h2 : k ≠ 2) (h7 : k ≠ 7) (h : k < 14 ∨ 19 < k ∨ i ≠ M 2 0) : adt M a b c r g s k i = M k i := by
  unfold adt
  rw [mp_ne (by omega), mp_ne (by omega), mp_ne (by omega), mp_ne (by omega), mp_ne (by omega), mp_ne (by omega), mp_ne (by omega), mp_ne (by omega)]
theorem adt_2 (M : MH) (a b c r : Nat) (g : Bool) (s : Nat) : adt M a b c r g s 2 0 = M 2 0 + 1 := rfl
theorem adt_7 (M : MH) (a b c r : Nat) (g : Bool) (s : Nat) : adt M a b c r g s 7 0 = ad7 M g := rfl
theorem adt_14 (M : MH) (a b c r : Nat) (g : Bool) (s : Nat) : adt M a b c r g s 14 (M 2 0) = a := by
  unfold adt
  rw [mp_ne (by omega), mp_ne (by omega), mp_ne (by omega), mp_ne (by omega), mp_ne (by omega), mp_ne (by omega), mp_ne (by omega), mp_eq]
theorem adt_15 (M : MH) (a b c r : Nat) (g : Bool) (s : Nat) : adt M a b c r g s 15 (M 2 0) = b := by
  unfold adt
  rw [mp_ne (by omega), mp_ne (by omega), mp_ne (by omega), mp_ne (by omega), mp_ne (by omega), mp_ne (by omega), mp_eq]
theorem adt_16 (M : MH) (a b c r : Nat) (g : Bool) (s : Nat) : adt M a b c r g s 16 (M 2 0) = c := by
  unfold adt
  rw [mp_ne (by omega), mp_ne (by omega), mp_ne (by omega), mp_ne (by omega), mp_ne (by omega), mp_eq]
theorem adt_17 (M : MH) (a b c r : Nat) (g : Bool) (s : Nat) : adt M a b c r g s 17 (M 2 0) = r := by
  unfold adt
  rw [mp_ne (by omega), mp_ne (by omega), mp_ne (by omega), mp_ne (by omega), mp_eq]
theorem adt_18 (M : MH) (a b c r : Nat) (g : Bool) (s : Nat) : adt M a b c r g s 18 (M 2 0) = s := by
  unfold adt
  rw [mp_ne (by omega), mp_ne (by omega), mp_eq]
theorem adt_19 (M : MH) (a b c r : Nat) (g : Bool) (s : Nat) : adt M a b c r g s 19 (M 2 0) = 0 := by
  unfold adt
  rw [mp_ne (by omega), mp_eq]
theorem ad7_lt {M : MH} (ok : okH M) (g : Bool) : ad7 M g < 2 ^ (M 2 0 + 1) := by
  have h := ok.2.2.2.2.2.2.2.1
  have h1 : M 7 0 < 2 ^ (M 2 0 + 1) := Nat.lt_of_lt_of_le h (Nat.pow_le_pow_right (by decide) (by omega))
  unfold ad7
  split
  · exact Nat.or_lt_two_pow h1 (Nat.pow_lt_pow_right (by decide) (by omega))
  · exact h1
theorem ad7_bit {M : MH} (ok : okH M) (g : Bool) (d : Nat) : (ad7 M g).testBit d = if d = M 2 0 then g else (M 7 0).testBit d := by
  have h := ok.2.2.2.2.2.2.2.1
  have h1 : (M 7 0).testBit (M 2 0) = false := Nat.testBit_lt_two_pow h
  unfold ad7
  by_cases c : d = M 2 0
  · subst c
    rw [if_pos rfl]
    cases g with
    | true => rw [if_pos rfl, Nat.testBit_or, Nat.testBit_two_pow_self, Bool.or_true]
    | false => rw [if_neg (by decide), h1]
  · rw [if_neg c]
    cases g with
    | true => rw [if_pos rfl, Nat.testBit_or, Nat.testBit_two_pow, decide_eq_false (fun q => c q.symm), Bool.or_false]
    | false => rw [if_neg (by decide)]
theorem adt_ok {M : MH} {a b c r s : Nat} {g : Bool} (ok : okH M) (h7 : M 2 0 < 7) (ha : a < M 1 0) (hb : b < M 1 0) (hab : a ≠ b) (hc0 : 1 ≤ c) (hc : c ≤ 99) (hr : r ≤ 9) (hs : s < M 0 0) : okH (adt M a b c r g s) := by
  have h7' := ad7_lt ok g
  have h6' : M 6 0 < 2 ^ (M 2 0 + 1) := Nat.lt_of_lt_of_le ok.2.2.2.2.2.2.1 (Nat.pow_le_pow_right (by decide) (by omega))
  obtain ⟨q0, q1, q2, q3, q4, q5, q6, q7, q8, q9, q10⟩ := ok
  refine ⟨q0, q1, ?_, q3, q4, q5, h6', h7', q8, q9, fun d hd => ?_⟩
  · rw [adt_2]; omega
  · rw [adt_2] at hd
    rw [adt_k M a b c r g s (k := 1) (by decide) (by decide) (by omega), adt_k M a b c r g s (k := 0) (by decide) (by decide) (by omega)]
    by_cases e : d = M 2 0
    · subst e
      rw [adt_14, adt_15, adt_16, adt_17, adt_18, adt_19]
      exact ⟨ha, hb, hab, hc0, hc, hr, hs, by omega⟩
    · rw [adt_k M a b c r g s (k := 14) (by decide) (by decide) (by omega), adt_k M a b c r g s (k := 15) (by decide) (by decide) (by omega), adt_k M a b c r g s (k := 16) (by decide) (by decide) (by omega), adt_k M a b c r g s (k := 17) (by decide) (by decide) (by omega), adt_k M a b c r g s (k := 18) (by decide) (by decide) (by omega), adt_k M a b c r g s (k := 19) (by decide) (by decide) (by omega)]
      exact q10 d (by omega)
theorem adt_lv {M : MH} {a b c r s : Nat} {g : Bool} (x t : Nat) : ∀ n, n ≤ M 2 0 → lvAt (adt M a b c r g s) x t n = lvAt M x t n := by
  intro n
  induction n with
  | zero => intro _; rfl
  | succ n ih =>
    intro hn
    rw [lvAt, lvAt, ih (by omega), adt_k M a b c r g s (k := 6) (by decide) (by decide) (by omega), adt_k M a b c r g s (k := 18) (by decide) (by decide) (by omega), adt_k M a b c r g s (k := 19) (by decide) (by decide) (by omega)]
theorem adt_lv1 {M : MH} {a b c r s : Nat} {g : Bool} (x t : Nat) : lvAt (adt M a b c r g s) x t (M 2 0 + 1) = lvAt M x t (M 2 0) := by
  rw [lvAt, adt_lv x t _ (Nat.le_refl _), adt_19]
  split <;> rfl
theorem adt_stn {M : MH} {a b c r s : Nat} {g : Bool} : ∀ n, stn (adt M a b c r g s) 0 0 n = stn M 0 0 n := by
  intro n
  induction n with
  | zero => rfl
  | succ n ih =>
    rw [stn, stn, ih, adt_2, adt_lv1, adt_k M a b c r g s (k := 5) (by decide) (by decide) (by omega), adt_k M a b c r g s (k := 8) (by decide) (by decide) (by omega), adt_k M a b c r g s (k := 9) (by decide) (by decide) (by omega), adt_k M a b c r g s (k := 10) (by decide) (by decide) (by omega)]
theorem adt_setl {M : MH} {a b c r s : Nat} {g : Bool} (h : setl M) : setl (adt M a b c r g s) := by
  unfold setl at h ⊢
  rw [adt_stn, adt_k M a b c r g s (k := 5) (by decide) (by decide) (by omega), adt_k M a b c r g s (k := 0) (by decide) (by decide) (by omega)]
  exact h
theorem ch_grow {u : St} {M : MH} (h : CH u M) (hd : ∀ k, 14 ≤ k → k ≤ 19 → ga u k (M 2 0) = nI (M k (M 2 0))) : CH (si u 2 (nI (M 2 0 + 1))) (mp M 2 0 (M 2 0 + 1)) := by
  refine ⟨fun j hj => ?_, fun j h1 h2 s hs => ?_, fun p hp => ⟨?_, ?_⟩, fun j h1 h2 d hd' => ?_⟩
  · rw [gi_si]
    by_cases c : j = 2
    · subst c
      rw [if_pos rfl, mp_eq]
    · rw [if_neg c, mp_ne (Or.inl c)]
      exact h.1 j hj
  · have hs : s < M 0 0 := hs
    rw [ga_si, mp_ne (by omega)]
    exact h.2.1 j h1 h2 s hs
  · have hp : p < M 1 0 := hp
    rw [ga_si, mp_ne (by omega)]
    exact (h.2.2.1 p hp).1
  · have hp : p < M 1 0 := hp
    rw [gl_si, mp_ne (by omega)]
    exact (h.2.2.1 p hp).2
  · rw [mp_eq] at hd'
    rw [ga_si, mp_ne (by omega)]
    by_cases e : d = M 2 0
    · subst e
      exact hd j h1 h2
    · exact h.2.2.2 j h1 h2 d (by omega)
theorem ga_swu (u : St) (k j d : Nat) (v : Int32) : ga (sw u k (upd (ga u k) d v)) j d = if j = k then v else ga u j d := by
  rw [ga_sw]
  by_cases c : j = k
  · rw [if_pos c, if_pos c, upd_at, if_pos rfl]
  · rw [if_neg c, if_neg c]
theorem r_addDebt {M : MH} {a b c r s : Nat} {g : Bool} {x5 : Int32} {u : St} {post : St → Prop} (ok : okH M) (h7 : M 2 0 < 7) (h : CH u M) (hg : x5 = 0 ↔ g = false) (k : ∀ u', CH u' (adt M a b c r g s) → post u') : qX2_addDebt (nI a) (nI b) (nI c) (nI r) x5 (nI s) u post := by
  have hin : vp_in (nI (M 2 0)) 7 := vp_in_nI (by omega) (by omega)
  have ec : (nI (M 2 0)).toNatClampNeg = M 2 0 := nI_clamp (by omega)
  unfold qX2_addDebt
  rw [show gi u 2 = nI (M 2 0) from ch_k h (by omega)]
  refine ⟨hin, fun u1 e1 => ?_⟩
  rw [ec] at e1
  have h1 : CH u1 (mp M 14 (M 2 0) a) := by subst e1; exact ch_up h (by omega) (by omega) (by omega)
  have g1 : ∀ j, ga u1 j (M 2 0) = if j = 14 then nI a else ga u j (M 2 0) := fun j => by subst e1; exact ga_swu _ _ _ _ _
  rw [show gi u1 2 = nI (M 2 0) from ch_k h1 (by omega), ec]
  refine ⟨hin, fun u2 e2 => ?_⟩
  have h2 := ch_up (k := 15) (i := M 2 0) (v := b) h1 (by omega) (by omega) (by omega)
  rw [← e2] at h2
  have g2 : ∀ j, ga u2 j (M 2 0) = if j = 15 then nI b else ga u1 j (M 2 0) := fun j => by subst e2; exact ga_swu _ _ _ _ _
  rw [show gi u2 2 = nI (M 2 0) from ch_k h2 (by omega), ec]
  refine ⟨hin, fun u3 e3 => ?_⟩
  have h3 := ch_up (k := 16) (i := M 2 0) (v := c) h2 (by omega) (by omega) (by omega)
  rw [← e3] at h3
  have g3 : ∀ j, ga u3 j (M 2 0) = if j = 16 then nI c else ga u2 j (M 2 0) := fun j => by subst e3; exact ga_swu _ _ _ _ _
  rw [show gi u3 2 = nI (M 2 0) from ch_k h3 (by omega), ec]
  refine ⟨hin, fun u4 e4 => ?_⟩
  have h4 := ch_up (k := 17) (i := M 2 0) (v := r) h3 (by omega) (by omega) (by omega)
  rw [← e4] at h4
  have g4 : ∀ j, ga u4 j (M 2 0) = if j = 17 then nI r else ga u3 j (M 2 0) := fun j => by subst e4; exact ga_swu _ _ _ _ _
  rw [show gi u4 2 = nI (M 2 0) from ch_k h4 (by omega), show gi u4 7 = nI (M 7 0) from ch_k h4 (by omega), i_one (by omega)]
  have go : ∀ y : Int32, nI (M 7 0) ||| y = nI (ad7 M g) → qX2_addDebt_b61 post (nI s) y (nI (M 7 0)) u4 := fun y ey u5 e5 => by
    rw [ey] at e5
    have h5 := ch_si (k := 7) (v := ad7 M g) h4 (by omega) (by omega)
    rw [← e5] at h5
    have g5 : ∀ j, ga u5 j (M 2 0) = ga u4 j (M 2 0) := fun j => by subst e5; rfl
    rw [show gi u5 2 = nI (M 2 0) from ch_k h5 (by omega), ec]
    refine ⟨hin, fun u6 e6 => ?_⟩
    have h6 := ch_up (k := 18) (i := M 2 0) (v := s) h5 (by omega) (by omega) (by omega)
    rw [← e6] at h6
    have g6 : ∀ j, ga u6 j (M 2 0) = if j = 18 then nI s else ga u5 j (M 2 0) := fun j => by subst e6; exact ga_swu _ _ _ _ _
    rw [show gi u6 2 = nI (M 2 0) from ch_k h6 (by omega), ec]
    refine ⟨hin, fun u7 e7 u8 e8 => ?_⟩
    have h7 := ch_up (k := 19) (i := M 2 0) (v := 0) h6 (by omega) (by omega) (by omega)
    rw [show nI 0 = (0 : Int32) from rfl, ← e7] at h7
    have g7 : ∀ j, ga u7 j (M 2 0) = if j = 19 then 0 else ga u6 j (M 2 0) := fun j => by subst e7; exact ga_swu _ _ _ _ _
    rw [show gi u7 2 = nI (M 2 0) from ch_k h7 (by omega), nI_1] at e8
    refine k u8 ?_
    subst e8
    refine ch_grow h7 (fun j j1 j2 => ?_)
    have hj : j = 14 ∨ j = 15 ∨ j = 16 ∨ j = 17 ∨ j = 18 ∨ j = 19 := by omega
    show ga u7 j (M 2 0) = nI (mp (mp (mp (mp (mp (mp (mp M 14 (M 2 0) a) 15 (M 2 0) b) 16 (M 2 0) c) 17 (M 2 0) r) 7 0 (ad7 M g)) 18 (M 2 0) s) 19 (M 2 0) 0 j (M 2 0))
    rw [g7, g6, g5, g4, g3, g2, g1]
    rcases hj with rfl | rfl | rfl | rfl | rfl | rfl
    · rw [mp_ne (by omega), mp_ne (by omega), mp_ne (by omega), mp_ne (by omega), mp_ne (by omega), mp_ne (by omega), mp_eq]
      rfl
    · rw [mp_ne (by omega), mp_ne (by omega), mp_ne (by omega), mp_ne (by omega), mp_ne (by omega), mp_eq]
      rfl
    · rw [mp_ne (by omega), mp_ne (by omega), mp_ne (by omega), mp_ne (by omega), mp_eq]
      rfl
    · rw [mp_ne (by omega), mp_ne (by omega), mp_ne (by omega), mp_eq]
      rfl
    · rw [mp_ne (by omega), mp_eq]
      rfl
    · rw [mp_eq]
      rfl
  cases g with
  | true => exact ⟨fun q => absurd (hg.mp q) (by decide), fun _ => go _ (i_or _ _)⟩
  | false => exact ⟨fun _ => go 0 Int32.or_zero, fun q => absurd (hg.mpr rfl) q⟩
/-- the reference's row with a debt more -/
theorem mc_adt {M : MH} {a b c r s : Nat} {g : Bool} {u u' : St} (ok : okH M) (h7 : M 2 0 < 7) (h : MC u M) (hl : gl u' 1 = gl u 1) (hk : ∀ j, j < 39 + 7 * M 2 0 → j ≠ 2 → ga u' 0 j = ga u 0 j) (h2 : ga u' 0 2 = nI (M 2 0 + 1)) (c0 : ga u' 0 (39 + 7 * M 2 0) = nI a) (c1 : ga u' 0 (40 + 7 * M 2 0) = nI b) (c2 : ga u' 0 (41 + 7 * M 2 0) = nI c) (c3 : ga u' 0 (42 + 7 * M 2 0) = nI r) (c4 : ga u' 0 (43 + 7 * M 2 0) = nI (if g then 1 else 0)) (c5 : ga u' 0 (44 + 7 * M 2 0) = nI s) (c6 : ga u' 0 (45 + 7 * M 2 0) = 0) : MC u' (adt M a b c r g s) := by
  have o0 := ok_ns ok
  have o1 := ok_np ok
  refine ⟨fun j hj => ?_, fun t ht => ?_, fun p hp => ?_, fun d hd => ?_⟩
  · rw [Nat.zero_add]
    by_cases e : j = 2
    · subst e
      rw [adt_2]
      exact h2
    · rw [hk j (by omega) e, adt_k M a b c r g s e (by omega) (by omega)]
      exact mc_k h hj
  · have ht : t < M 0 0 := ht
    have q := mc_st h ht
    rw [Nat.zero_add, Nat.zero_add, Nat.zero_add, hk _ (by omega) (by omega), hk _ (by omega) (by omega), hk _ (by omega) (by omega), adt_k M a b c r g s (k := 8) (by decide) (by decide) (by omega), adt_k M a b c r g s (k := 9) (by decide) (by decide) (by omega), adt_k M a b c r g s (k := 10) (by decide) (by decide) (by omega)]
    exact q
  · have hp : p < M 1 0 := hp
    rw [Nat.zero_add, hk _ (by omega) (by omega), adt_k M a b c r g s (k := 12) (by decide) (by decide) (by omega), adt_k M a b c r g s (k := 13) (by decide) (by decide) (by omega), hl]
    exact ⟨mc_cash h hp, (h.2.2.1 p hp).2⟩
  · rw [adt_2] at hd
    simp only [Nat.zero_add]
    rw [adt_7, ad7_bit ok]
    by_cases e : d = M 2 0
    · subst e
      rw [if_pos rfl, adt_14, adt_15, adt_16, adt_17, adt_18, adt_19]
      exact ⟨c0, c1, c2, c3, c4, c5, c6⟩
    · have q := mc_d h (d := d) (by omega)
      rw [if_neg e, hk _ (by omega) (by omega), hk _ (by omega) (by omega), hk _ (by omega) (by omega), hk _ (by omega) (by omega), hk _ (by omega) (by omega), hk _ (by omega) (by omega), hk _ (by omega) (by omega), adt_k M a b c r g s (k := 14) (by decide) (by decide) (by omega), adt_k M a b c r g s (k := 15) (by decide) (by decide) (by omega), adt_k M a b c r g s (k := 16) (by decide) (by decide) (by omega), adt_k M a b c r g s (k := 17) (by decide) (by decide) (by omega), adt_k M a b c r g s (k := 18) (by decide) (by decide) (by omega), adt_k M a b c r g s (k := 19) (by decide) (by decide) (by omega)]
      exact q
theorem mp_congr {A B : MH} {a b v k i : Nat} (h : A k i = B k i) : mp A a b v k i = mp B a b v k i := by
  unfold mp
  rw [h]
theorem hnd_ne {M : MH} {x y z k i : Nat} (h : k ≠ 12) : hnd M x y z k i = M k i := by
  unfold hnd gan
  rw [mp_ne (Or.inl h), mp_ne (Or.inl h)]
theorem hnd12 {A B : MH} {x y z i : Nat} (h : ∀ i, A 12 i = B 12 i) : hnd A x y z 12 i = hnd B x y z 12 i := by
  unfold hnd gan mp
  simp only [h]
/-- cash first or debt first: the same house -/
theorem adt_hnd (M : MH) (a b c r : Nat) (g : Bool) (s x y z : Nat) : hnd (adt M a b c r g s) x y z = adt (hnd M x y z) a b c r g s := by
  funext k i
  by_cases e : k = 12
  · subst e
    rw [adt_k (hnd M x y z) a b c r g s (by decide) (by decide) (by omega)]
    exact hnd12 (fun i => adt_k M a b c r g s (by decide) (by decide) (by omega))
  · rw [hnd_ne e]
    exact mp_congr (mp_congr (mp_congr (mp_congr (mp_congr (mp_congr (mp_congr (mp_congr (hnd_ne e).symm)))))))
theorem mSame_of {u u' : St} (hk : mKeep u u') (hj : ∀ j, 88 ≤ j ∨ j = 7 → ga u' 0 j = ga u 0 j) (hx : gi u' 33 = gi u 33 ∧ gi u' 34 = gi u 34 ∧ ga u' 35 = ga u 35 ∧ ga u' 36 = ga u 36) : mSame u u' := ⟨hk, fun j h1 _ => hj j (Or.inl h1), hj 7 (Or.inr rfl), hx⟩
theorem mKeep_sw (u : St) (f : Nat → Int32) : mKeep u (sw u 0 f) := ⟨rfl, rfl, rfl, rfl, rfl, rfl, rfl, rfl, rfl, rfl, rfl, rfl, rfl⟩
theorem sp_lend : SP_lend RR := fun x1 x2 x3 x4 x5 x6 cs ms h5 h => by
  obtain ⟨M, ok, st, hc, hm, ht⟩ := rr_house h
  have n7 := ok_nd ok
  have n5 := ok_np ok
  have n8 := ok_ns ok
  have hr : ∀ v, RR (va_up (va_up cs 0 (si (cs 0) 0 v)) 5 (cs 5)) (si ms 2 v) := fun v => by
    rw [up_skip cs 0 5 _ (by decide)]
    exact rr_st h v
  have hp1 : gi (cs 5) 1 = nI (M 1 0) := ch_k hc (by omega)
  have hp0 : gi (cs 5) 0 = nI (M 0 0) := ch_k hc (by omega)
  have hq1 : ga ms 0 1 = nI (M 1 0) := mc_k hm (by omega)
  have hq0 : ga ms 0 0 = nI (M 0 0) := mc_k hm (by omega)
  refine r_isPerson (n := M 1 0) (by omega) hp1 (fun c1 => ⟨fun c => absurd c (by decide), fun _ => ?_⟩) (fun c1 => ⟨fun _ => r_refuse (m_isPerson (n := M 1 0) (by omega) hq1 (fun q => absurd q c1) (fun _ => ⟨fun _ => m_refuse ⟨rfl, hr 1⟩, fun c => absurd rfl c⟩)), fun c => absurd rfl c⟩)
  refine r_isPerson (n := M 1 0) (by omega) hp1 (fun c2 => ⟨fun c => absurd c (by decide), fun _ => ?_⟩) (fun c2 => ⟨fun _ => r_refuse (m_isPerson (n := M 1 0) (by omega) hq1 (fun _ => ⟨fun c => absurd c (by decide), fun _ => m_isPerson (n := M 1 0) (by omega) hq1 (fun q => absurd q c2) (fun _ => ⟨fun _ => m_refuse ⟨rfl, hr 1⟩, fun c => absurd rfl c⟩)⟩) (fun q => absurd c1 q)), fun c => absurd rfl c⟩)
  have A2 : ∀ {post : Int32 → St → Prop}, ((x1 = x2 → qX12_lend_b55 post ms) ∧ (¬ x1 = x2 → qX12_isFrom (x3).toInt64 (1 : Int64) (99 : Int64) (fun r_57 => ((r_57 = 0 → qX12_lend_b55 post ms) ∧ (¬ r_57 = 0 → qX12_isFrom (x4).toInt64 (0 : Int64) (9 : Int64) (fun r_60 => ((r_60 = 0 → qX12_lend_b55 post ms) ∧ (¬ r_60 = 0 → qX12_isStone x6 ms (fun r_64 u_63 => ((¬ r_64 = 0 → ∀ x7_67 : Int32, x7_67 = (ga u_63 0 ((2 : Int32)).toNatClampNeg) → ((¬ x7_67 = (7 : Int32) → qX12_moves x2 x1 x3 u_63 (fun r_70 u_69 => ((¬ r_70 = 0 → qX12_debtRow x7_67 (fun r_73 => ∀ u_75 : St, u_75 = (sw u_69 0 (upd (ga u_69 0) ((2 : Int32)).toNatClampNeg ((ga u_69 0 ((2 : Int32)).toNatClampNeg) + (1 : Int32)))) → (vp_in r_73 3072 ∧ ∀ u_76 : St, u_76 = (sw u_75 0 (upd (ga u_75 0) (r_73).toNatClampNeg x1)) → (vp_in (r_73 + (1 : Int32)) 3072 ∧ ∀ u_77 : St, u_77 = (sw u_76 0 (upd (ga u_76 0) ((r_73 + (1 : Int32))).toNatClampNeg x2)) → (vp_in (r_73 + (2 : Int32)) 3072 ∧ ∀ u_78 : St, u_78 = (sw u_77 0 (upd (ga u_77 0) ((r_73 + (2 : Int32))).toNatClampNeg x3)) → (vp_in (r_73 + (3 : Int32)) 3072 ∧ ∀ u_79 : St, u_79 = (sw u_78 0 (upd (ga u_78 0) ((r_73 + (3 : Int32))).toNatClampNeg x4)) → ((x5 = 0 → qX12_lend_b173 post x6 x7_67 r_73 (0 : Int32) (r_73 + (4 : Int32)) u_79) ∧ (¬ x5 = 0 → qX12_lend_b173 post x6 x7_67 r_73 (1 : Int32) (r_73 + (4 : Int32)) u_79)))))))) ∧ (r_70 = 0 → qX12_refuse (7 : Int32) u_69 (fun r_82 u_81 => post r_82 u_81))))) ∧ (x7_67 = (7 : Int32) → qX12_refuse (4 : Int32) u_63 (fun r_85 u_84 => post r_85 u_84)))) ∧ (r_64 = 0 → qX12_lend_b55 post u_63)))))))))))
      → qX12_lend x1 x2 x3 x4 x5 x6 ms post := fun q => m_isPerson (n := M 1 0) (by omega) hq1 (fun _ => ⟨fun c => absurd c (by decide), fun _ => m_isPerson (n := M 1 0) (by omega) hq1 (fun _ => ⟨fun c => absurd c (by decide), fun _ => q⟩) (fun q => absurd c2 q)⟩) (fun q => absurd c1 q)
  refine ⟨fun c3 => r_refuse (A2 ⟨fun _ => m_refuse ⟨rfl, hr 1⟩, fun q => absurd c3 q⟩), fun c3 => ?_⟩
  refine r_within 1 99 rfl rfl (fun l3 g3 => ⟨fun c => absurd c (by decide), fun _ => ?_⟩) (fun p => ⟨fun _ => r_refuse (A2 ⟨fun q => absurd q c3, fun _ => m_isFrom 1 99 rfl rfl (fun _ _ => absurd p (by omega)) (fun _ => ⟨fun _ => m_refuse ⟨rfl, hr 1⟩, fun c => absurd rfl c⟩)⟩), fun c => absurd rfl c⟩)
  refine r_within 0 9 rfl rfl (fun l4 g4 => ⟨fun c => absurd c (by decide), fun _ => ?_⟩) (fun p => ⟨fun _ => r_refuse (A2 ⟨fun q => absurd q c3, fun _ => m_isFrom 1 99 rfl rfl (fun _ _ => ⟨fun c => absurd c (by decide), fun _ => m_isFrom 0 9 rfl rfl (fun _ _ => absurd p (by omega)) (fun _ => ⟨fun _ => m_refuse ⟨rfl, hr 1⟩, fun c => absurd rfl c⟩)⟩) (fun q => absurd q (by omega))⟩), fun c => absurd rfl c⟩)
  have A4 : ∀ {post : Int32 → St → Prop}, qX12_isStone x6 ms (fun r_64 u_63 => ((¬ r_64 = 0 → ∀ x7_67 : Int32, x7_67 = (ga u_63 0 ((2 : Int32)).toNatClampNeg) → ((¬ x7_67 = (7 : Int32) → qX12_moves x2 x1 x3 u_63 (fun r_70 u_69 => ((¬ r_70 = 0 → qX12_debtRow x7_67 (fun r_73 => ∀ u_75 : St, u_75 = (sw u_69 0 (upd (ga u_69 0) ((2 : Int32)).toNatClampNeg ((ga u_69 0 ((2 : Int32)).toNatClampNeg) + (1 : Int32)))) → (vp_in r_73 3072 ∧ ∀ u_76 : St, u_76 = (sw u_75 0 (upd (ga u_75 0) (r_73).toNatClampNeg x1)) → (vp_in (r_73 + (1 : Int32)) 3072 ∧ ∀ u_77 : St, u_77 = (sw u_76 0 (upd (ga u_76 0) ((r_73 + (1 : Int32))).toNatClampNeg x2)) → (vp_in (r_73 + (2 : Int32)) 3072 ∧ ∀ u_78 : St, u_78 = (sw u_77 0 (upd (ga u_77 0) ((r_73 + (2 : Int32))).toNatClampNeg x3)) → (vp_in (r_73 + (3 : Int32)) 3072 ∧ ∀ u_79 : St, u_79 = (sw u_78 0 (upd (ga u_78 0) ((r_73 + (3 : Int32))).toNatClampNeg x4)) → ((x5 = 0 → qX12_lend_b173 post x6 x7_67 r_73 (0 : Int32) (r_73 + (4 : Int32)) u_79) ∧ (¬ x5 = 0 → qX12_lend_b173 post x6 x7_67 r_73 (1 : Int32) (r_73 + (4 : Int32)) u_79)))))))) ∧ (r_70 = 0 → qX12_refuse (7 : Int32) u_69 (fun r_82 u_81 => post r_82 u_81))))) ∧ (x7_67 = (7 : Int32) → qX12_refuse (4 : Int32) u_63 (fun r_85 u_84 => post r_85 u_84)))) ∧ (r_64 = 0 → qX12_lend_b55 post u_63)))
      → qX12_lend x1 x2 x3 x4 x5 x6 ms post := fun q => A2 ⟨fun q => absurd q c3, fun _ => m_isFrom 1 99 rfl rfl (fun _ _ => ⟨fun c => absurd c (by decide), fun _ => m_isFrom 0 9 rfl rfl (fun _ _ => ⟨fun c => absurd c (by decide), fun _ => q⟩) (fun q => absurd q (by omega))⟩) (fun q => absurd q (by omega))⟩
  refine r_isStone (n := M 0 0) (by omega) hp0 (fun c6 => ⟨fun _ => ?_, fun c => absurd c (by decide)⟩) (fun c6 => ⟨fun c => absurd rfl c, fun _ => r_refuse (A4 (m_isStone (n := M 0 0) (by omega) hq0 (fun q => absurd q c6) (fun _ => ⟨fun c => absurd rfl c, fun _ => m_refuse ⟨rfl, hr 1⟩⟩)))⟩)
  obtain ⟨a, ha, rfl⟩ := c1.nat (by omega)
  obtain ⟨b, hb, rfl⟩ := c2.nat (by omega)
  obtain ⟨s, hs, rfl⟩ := c6.nat (by omega)
  obtain ⟨c, hc9, rfl, -⟩ := i_nat (n := 99) (by omega) g3
  obtain ⟨r, hr9, rfl, -⟩ := i_nat (n := 9) l4 g4
  rw [nI_toInt (by omega)] at l3
  have hab : a ≠ b := fun q => c3 (by rw [q])
  have hb9 := (ok.2.2.2.2.2.2.2.2.2.1 b hb).1
  have e2 : ga ms 0 (2 : Int32).toNatClampNeg = nI (M 2 0) := mc_k (k := 2) hm (by omega)
  rw [show gi (cs 5) 2 = nI (M 2 0) from ch_k hc (by omega), nI_clamp (n := b) (by omega), (hc.2.2.1 b hb).1]
  refine ⟨fun q7 => ⟨vp_in_nI (by omega) (by omega), fun qc y ey => ?_, fun qc => r_refuse (A4 (m_isStone (n := M 0 0) (by omega) hq0 (fun _ => ⟨fun _ y ey => ⟨fun _ => m_moves ok hm hb ha (by omega) (fun q => absurd (nI_le q (by omega)) qc) (fun _ => ⟨fun c => absurd rfl c, fun _ => m_refuse ⟨rfl, hr 7⟩⟩), fun q => ?_⟩, fun c => absurd c (by decide)⟩) (fun q => absurd c6 q)))⟩, fun q7 => r_refuse (A4 (m_isStone (n := M 0 0) (by omega) hq0 (fun _ => ⟨fun _ y ey => ⟨fun q => absurd ?_ q, fun _ => m_refuse ⟨rfl, hr 4⟩⟩, fun c => absurd c (by decide)⟩) (fun q => absurd c6 q)))⟩
  · have q7' : M 2 0 < 7 := (nI_ltI (b := 7) (by omega) (by omega)).mp q7
    have qc' : c ≤ M 12 b := (nI_leI (by omega) (by omega)).mp qc
    subst ey
    have hg : ∃ g : Bool, x5 = 0 ↔ g = false := by
      rcases h5 with e | e
      · exact ⟨false, fun _ => rfl, fun _ => e⟩
      · exact ⟨true, fun q => by rw [e] at q; exact absurd q (by decide), fun q => absurd q (by decide)⟩
    obtain ⟨g, hg⟩ := hg
    refine r_addDebt ok q7' hc hg (fun u1 h1 => r_handOver (a := b) (b := a) (adt_ok ok q7' ha hb hab (by omega) hc9 hr9 hs) h1 hb ha ?_ (fun u2 h2 => r_answer (A4 (m_isStone (n := M 0 0) (by omega) hq0 (fun _ => ⟨fun _ y ey => ⟨fun _ => ?_, fun q => ?_⟩, fun c => absurd c (by decide)⟩) (fun q => absurd c6 q)))))
    · rw [adt_k M a b c r g s (k := 12) (by decide) (by decide) (by omega)]
      exact qc'
    · rw [e2] at ey
      subst ey
      rw [adt_hnd] at h2
      refine m_moves ok hm hb ha (by omega) (fun _ v0 m0 k0 => ⟨fun _ => m_debtRow ?_, fun c => absurd c (by decide)⟩) (fun q => absurd q (by omega))
      have ok0 : okH (hnd M b a c) := hnd_ok ok hb
      intro v1 e1
      have E : ∀ j : Nat, nI (39 + 7 * M 2 0) + nI j = nI (39 + j + 7 * M 2 0) := fun j => (nI_add _ _).trans (by rw [show 39 + 7 * M 2 0 + j = 39 + j + 7 * M 2 0 by omega])
      have E1 : nI (39 + 7 * M 2 0) + 1 = nI (40 + 7 * M 2 0) := E 1
      have E2 : nI (39 + 7 * M 2 0) + 2 = nI (41 + 7 * M 2 0) := E 2
      have E3 : nI (39 + 7 * M 2 0) + 3 = nI (42 + 7 * M 2 0) := E 3
      have E4 : nI (39 + 7 * M 2 0) + 4 = nI (43 + 7 * M 2 0) := E 4
      have E5 : nI (39 + 7 * M 2 0) + 5 = nI (44 + 7 * M 2 0) := E 5
      have E6 : nI (39 + 7 * M 2 0) + 6 = nI (45 + 7 * M 2 0) := E 6
      have z2 : ga v0 0 (2 : Int32).toNatClampNeg = nI (M 2 0) := mc_k (k := 2) m0 (by omega)
      rw [z2, nI_1, show (2 : Int32).toNatClampNeg = 2 from rfl] at e1
      unfold qX12_lend_b173
      rw [E1, E2, E3, E4, E5, E6, nI_clamp (n := 39 + 7 * M 2 0) (by omega), nI_clamp (n := 40 + 7 * M 2 0) (by omega), nI_clamp (n := 41 + 7 * M 2 0) (by omega), nI_clamp (n := 42 + 7 * M 2 0) (by omega), nI_clamp (n := 43 + 7 * M 2 0) (by omega), nI_clamp (n := 44 + 7 * M 2 0) (by omega), nI_clamp (n := 45 + 7 * M 2 0) (by omega)]
      refine ⟨vp_in_nI (by omega) (by omega), fun v2 e2 => ⟨vp_in_nI (by omega) (by omega), fun v3 e3 => ⟨vp_in_nI (by omega) (by omega), fun v4 e4 => ⟨vp_in_nI (by omega) (by omega), fun v5 e5 => ?_⟩⟩⟩⟩
      have go : ∀ y : Int32, y = nI (if g then 1 else 0) → ∀ v6, v6 = sw v5 0 (upd (ga v5 0) (43 + 7 * M 2 0) y) → ∀ v7, v7 = sw v6 0 (upd (ga v6 0) (44 + 7 * M 2 0) (nI s)) → ∀ v8, v8 = sw v7 0 (upd (ga v7 0) (45 + 7 * M 2 0) 0) → nI (M 2 0) = nI (M 2 0) ∧ RR (va_up (va_up cs 0 (si (cs 0) 0 0)) 5 u2) (si v8 2 0) := fun y hy v6 e6 v7 e7 v8 e8 => by
        have K : ∀ j, ga v8 0 j = if j = 45 + 7 * M 2 0 then 0 else if j = 44 + 7 * M 2 0 then nI s else if j = 43 + 7 * M 2 0 then y else if j = 42 + 7 * M 2 0 then nI r else if j = 41 + 7 * M 2 0 then nI c else if j = 40 + 7 * M 2 0 then nI b else if j = 39 + 7 * M 2 0 then nI a else if j = 2 then nI (M 2 0 + 1) else ga v0 0 j := fun j => by
          rw [e8, ga_up0, e7, ga_up0, e6, ga_up0, e5, ga_up0, e4, ga_up0, e3, ga_up0, e2, ga_up0, e1, ga_up0]
        have kk : mKeep v0 v8 := by
          rw [e8, e7, e6, e5, e4, e3, e2, e1]
          exact ⟨rfl, rfl, rfl, rfl, rfl, rfl, rfl, rfl, rfl, rfl, rfl, rfl, rfl⟩
        have far : ∀ j, (j < 39 + 7 * M 2 0 ∧ j ≠ 2) ∨ 88 ≤ j → ga v8 0 j = ga v0 0 j := fun j hj => by
          rw [K, if_neg (by omega), if_neg (by omega), if_neg (by omega), if_neg (by omega), if_neg (by omega), if_neg (by omega), if_neg (by omega), if_neg (by omega)]
        have m8 : MC v8 (adt (hnd M b a c) a b c r g s) := by
          refine mc_adt ok0 q7' m0 kk.2.2.2.2.2.2.2.2.2.2.2.2 (fun j j1 j2 => far j (Or.inl ⟨j1, j2⟩)) ?_ ?_ ?_ ?_ ?_ ?_ ?_ ?_
          · show ga v8 0 2 = nI (M 2 0 + 1)
            rw [K, if_neg (by omega), if_neg (by omega), if_neg (by omega), if_neg (by omega), if_neg (by omega), if_neg (by omega), if_neg (by omega), if_pos rfl]
          · show ga v8 0 (39 + 7 * M 2 0) = _
            rw [K, if_neg (by omega), if_neg (by omega), if_neg (by omega), if_neg (by omega), if_neg (by omega), if_neg (by omega), if_pos rfl]
          · show ga v8 0 (40 + 7 * M 2 0) = _
            rw [K, if_neg (by omega), if_neg (by omega), if_neg (by omega), if_neg (by omega), if_neg (by omega), if_pos rfl]
          · show ga v8 0 (41 + 7 * M 2 0) = _
            rw [K, if_neg (by omega), if_neg (by omega), if_neg (by omega), if_neg (by omega), if_pos rfl]
          · show ga v8 0 (42 + 7 * M 2 0) = _
            rw [K, if_neg (by omega), if_neg (by omega), if_neg (by omega), if_pos rfl]
          · show ga v8 0 (43 + 7 * M 2 0) = _
            rw [K, if_neg (by omega), if_neg (by omega), if_pos rfl, hy]
          · show ga v8 0 (44 + 7 * M 2 0) = _
            rw [K, if_neg (by omega), if_pos rfl]
          · show ga v8 0 (45 + 7 * M 2 0) = _
            rw [K, if_pos rfl]
        have k8 : mSame v0 v8 := mSame_of kk (fun j hj => far j (by omega)) (by rw [e8, e7, e6, e5, e4, e3, e2, e1]; exact ⟨rfl, rfl, rfl, rfl⟩)
        exact ⟨rfl, rr_new h ht (adt_ok ok0 q7' ha hb hab (by omega) hc9 hr9 hs) (adt_setl (hnd_setl st)) h2 m8 rfl rfl (k0.trans k8)⟩
      cases g with
      | true => exact ⟨fun q => absurd (hg.mp q) (by decide), fun _ => ⟨vp_in_nI (by omega) (by omega), fun v6 e6 => ⟨vp_in_nI (by omega) (by omega), fun v7 e7 => ⟨vp_in_nI (by omega) (by omega), fun v8 e8 => m_gives (go 1 rfl v6 e6 v7 e7 v8 e8)⟩⟩⟩⟩
      | false => exact ⟨fun _ => ⟨vp_in_nI (by omega) (by omega), fun v6 e6 => ⟨vp_in_nI (by omega) (by omega), fun v7 e7 => ⟨vp_in_nI (by omega) (by omega), fun v8 e8 => m_gives (go 0 rfl v6 e6 v7 e7 v8 e8)⟩⟩⟩, fun q => absurd (hg.mpr rfl) q⟩
    · rw [e2] at ey
      rw [ey, show (7 : Int32) = nI 7 from rfl, nI_eq (by omega) (by omega)] at q
      omega
  · rw [e2] at ey
    rw [ey] at q
    rw [q] at q7
    exact absurd q7 (by decide)
  · rw [e2] at ey
    have : ¬ M 2 0 < 7 := fun q => q7 (nI_lt q (by decide))
    rw [ey, show M 2 0 = 7 by omega]
    rfl
