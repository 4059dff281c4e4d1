/-! HOUSE RULES 3: leaves at a stone, what stands -/
theorem n_bv (n : Nat) : (nI n).toBitVec = BitVec.ofNat 32 n := rfl
theorem i_bvx {a b : Int32} (h : a.toBitVec = b.toBitVec) : a = b := Int32.toBitVec_inj.mp h
theorem i_or (a b : Nat) : nI a ||| nI b = nI (a ||| b) := i_bvx (by rw [Int32.toBitVec_or, n_bv, n_bv, n_bv, BitVec.ofNat_or])
theorem i_and (a b : Nat) : nI a &&& nI b = nI (a &&& b) := i_bvx (by rw [Int32.toBitVec_and, n_bv, n_bv, n_bv, BitVec.ofNat_and])
theorem i_xor (a b : Nat) : nI a ^^^ nI b = nI (a ^^^ b) := i_bvx (by rw [Int32.toBitVec_xor, n_bv, n_bv, n_bv, BitVec.ofNat_xor])
theorem i_one {i : Nat} (h : i < 31) : (1 : Int32) <<< (nI i &&& 31) = nI (2 ^ i) := by
  have := pk_shlN (n := 1) (nI i &&& 31) i (s_l i (by omega)) (by rw [Nat.one_mul]; exact Nat.pow_lt_pow_right (by decide) (by omega))
  rw [Nat.one_mul] at this
  exact this
theorem or_pow {x i : Nat} (h : x < 2 ^ i) : x ||| 2 ^ i = x + 2 ^ i := by
  have := Nat.two_pow_add_eq_or_of_lt h 1
  rw [Nat.mul_one] at this
  rw [Nat.or_comm, ← this, Nat.add_comm]
theorem lvAt_le {M : MH} (ok : okH M) (g s : Nat) : ∀ n, n ≤ M 2 0 → lvAt M g s n ≤ 999 * n := by
  intro n
  induction n with
  | zero => intro _; exact Nat.le_refl 0
  | succ n ih =>
    intro hn
    have h1 := ih (by omega)
    have h2 := (ok_d ok (d := n) (by omega)).2.2.2.2.2.2.2
    unfold lvAt
    split <;> omega
theorem lvAt_le7 {M : MH} (ok : okH M) (g s : Nat) : lvAt M g s (M 2 0) ≤ 6993 := by
  have h1 := lvAt_le ok g s (M 2 0) (Nat.le_refl _)
  have h2 := ok_nd ok
  omega
/-- the first loop: zeros -/
theorem gather_z {M : MH} {g : Int32} {u : St} {post : St → Prop} (ok : okH M) (h : CH u M) (hp : ∀ f : Nat → Int32, (∀ s, s < M 0 0 → f s = 0) → qX2_gatherLeaves_b23 post g (sw u 11 f)) : ∀ (m i : Nat) (f : Nat → Int32), i + m = M 0 0 → (∀ s, s < i → f s = 0) → qX2_gatherLeaves_L2 post (m + 1) g (nI i) (sw u 11 f) := by
  have h8 := ok_ns ok
  intro m
  induction m with
  | zero =>
    intro i f hi hf
    refine ⟨fun _ => hp f (fun s hs => hf s (by omega)), fun c => absurd (by rw [gi_sw, ch_k h (by omega)]; exact nI_le (by omega) (by omega)) c⟩
  | succ m ih =>
    intro i f hi hf
    refine ⟨fun c => absurd c (by rw [gi_sw, ch_k h (by omega)]; exact nI_ge (by omega) (by omega)), fun _ => ⟨vp_in_nI (by omega) (by omega), fun v e x ex => ?_⟩⟩
    rw [nI_clamp (by omega), sw_sw, ga_sw, if_pos rfl] at e
    rw [nI_1] at ex
    subst e; subst ex
    refine ih (i + 1) _ (by omega) (fun s hs => ?_)
    rw [upd_at]
    split
    · rfl
    · exact hf s (by omega)
theorem gather_l {M : MH} {g : Nat} {u : St} {post : St → Prop} (ok : okH M) (hg : g < 2 ^ 31) (h : CH u M) (hp : ∀ f : Nat → Int32, (∀ s, s < M 0 0 → f s = nI (lvAt M g s (M 2 0))) → post (sw u 11 f)) : ∀ (m i : Nat) (f : Nat → Int32), i + m = M 2 0 → (∀ s, s < M 0 0 → f s = nI (lvAt M g s i)) → qX2_gatherLeaves_L32 post (m + 1) (nI (g ||| M 6 0)) (nI i) (sw u 11 f) := by
  have h7 := ok_nd ok
  have h8 := ok_ns ok
  intro m
  induction m with
  | zero =>
    intro i f hi hf
    refine ⟨fun _ => hp f (fun s hs => ?_), fun c => absurd (by rw [gi_sw, ch_k h (by omega)]; exact nI_le (by omega) (by omega)) c⟩
    rw [← show i = M 2 0 by omega]
    exact hf s hs
  | succ m ih =>
    intro i f hi hf
    have hd : i < M 2 0 := by omega
    have od := ok_d ok hd
    have hor : g ||| M 6 0 < 2 ^ 31 := Nat.or_lt_two_pow hg (ok_paid ok)
    have e18 : ga (sw u 11 f) 18 (nI i).toNatClampNeg = nI (M 18 i) := by rw [nI_clamp (by omega), ga_sw, if_neg (by decide)]; exact ch_d h (by omega) (by omega) hd
    have e19 : ga (sw u 11 f) 19 (nI i).toNatClampNeg = nI (M 19 i) := by rw [nI_clamp (by omega), ga_sw, if_neg (by decide)]; exact ch_d h (by omega) (by omega) hd
    refine ⟨fun c => absurd c (by rw [gi_sw, ch_k h (by omega)]; exact nI_ge (by omega) (by omega)), fun _ => ?_⟩
    rw [i_bit hor (by omega), e18, e19, nI_clamp (by omega)]
    have hin : vp_in (nI i) 7 := vp_in_nI (by omega) (by omega)
    have hin2 : vp_in (nI (M 18 i)) 8 := vp_in_nI (by omega) (by omega)
    refine ⟨fun c x ex => ?_, fun c => ⟨hin, hin2, hin, hin2, fun v e x ex => ?_⟩⟩
    · rw [nI_1] at ex
      subst ex
      refine ih (i + 1) f (by omega) (fun s hs => ?_)
      rw [lvAt, if_neg, Nat.add_zero]
      · exact hf s hs
      · intro q
        refine c ?_
        rw [tb_0 (by rw [Nat.testBit_or, q.1, q.2.1]; rfl)]
        rfl
    · rw [sw_sw, ga_sw, if_pos rfl, hf _ od.2.2.2.2.2.2.1, nI_add] at e
      rw [nI_1] at ex
      subst e; subst ex
      have hb : (g ||| M 6 0).testBit i = false := by
        cases hq : (g ||| M 6 0).testBit i with
        | false => rfl
        | true =>
          rw [tb_1 hq] at c
          exact absurd c (by decide)
      rw [Nat.testBit_or, Bool.or_eq_false_iff] at hb
      refine ih (i + 1) _ (by omega) (fun s hs => ?_)
      rw [upd_at, lvAt]
      by_cases es : s = M 18 i
      · rw [if_pos es, if_pos ⟨hb.2, hb.1, es.symm⟩, es]
      · rw [if_neg es, if_neg (fun q => es q.2.2.symm), Nat.add_zero]
        exact hf s hs
theorem r_gather {M : MH} {g : Nat} {u : St} {post : St → Prop} (ok : okH M) (hg : g < 2 ^ 31) (h : CH u M) (hp : ∀ f : Nat → Int32, (∀ s, s < M 0 0 → f s = nI (lvAt M g s (M 2 0))) → post (sw u 11 f)) : qX2_gatherLeaves (nI g) u post := by
  refine ⟨M 0 0 + 1, ?_⟩
  have h1 := gather_z (g := nI g) (post := post) ok h (fun f hf x ex => ⟨M 2 0 + 1, ?_⟩) (M 0 0) 0 (ga u 11) (by omega) (fun s hs => absurd hs (by omega))
  · rw [sw_same] at h1
    exact h1
  · rw [gi_sw, ch_k h (by omega), i_or] at ex
    subst ex
    exact gather_l ok hg h hp (M 2 0) 0 f (by omega) hf
theorem stn_lt (M : MH) (g w : Nat) : ∀ n, stn M g w n < 2 ^ n := by
  intro n
  induction n with
  | zero => exact Nat.one_pos
  | succ n ih =>
    rw [stn, Nat.pow_succ]
    split <;> omega
theorem CH.w11 {u : St} {M : MH} (h : CH u M) (f : Nat → Int32) : CH (sw u 11 f) M := by
  obtain ⟨h1, h2, h3, h4⟩ := h
  refine ⟨h1, fun k a b s hs => ?_, fun p hp => h3 p hp, fun k a b d hd => ?_⟩
  · rw [ga_sw, if_neg (by omega)]
    exact h2 k a b s hs
  · rw [ga_sw, if_neg (by omega)]
    exact h4 k a b d hd
theorem ok_s {M : MH} (h : okH M) {s : Nat} (hs : s < M 0 0) : M 8 s ≤ 9 ∧ 1 ≤ M 9 s ∧ M 9 s ≤ 9 ∧ M 10 s < 2 ^ s := h.2.2.2.2.2.2.2.2.1 s hs
theorem i_div5 {n : Nat} (h : n < 2 ^ 31) : nI n / 5 = nI (n / 5) := pk_div (d := 5) h (by omega) (by omega)
/-- how much a stone lacks, by leaves gathered in u; W: mortar may be more than 9 in a game -/
theorem r_lack {M : MH} {u : St} {s l : Nat} {post : Int32 → St → Prop} (h8 : M 0 0 ≤ 8) (h : CH u M) (hs : s < M 0 0) (hl : l < 2 ^ 31) (el : ga u 11 s = nI l) (hp : post (nI (M 9 s) - nI (M 8 s) - nI (l / 5)) u) : qX2_lack (nI s) u post := by
  have hin : vp_in (nI s) 8 := vp_in_nI (by omega) (by omega)
  unfold qX2_lack
  rw [nI_clamp (by omega), ch_s h (by omega) (by omega) hs, ch_s h (by omega) (by omega) hs, el, i_div5 hl]
  exact ⟨hin, hin, hin, hp⟩
theorem i_sub2 {a b c : Nat} (ha : a < 10000) (hb : b < 10000) (hc : c < 10000) : (nI a - nI b - nI c).toInt = (a : Int) - b - c := by
  have e1 : (nI a - nI b).toInt = (a : Int) - b := pk_sub_toInt (by omega) (by omega)
  have e2 : (nI c).toInt = (c : Int) := nI_toInt (by omega)
  rw [i_sub (by rw [e1, e2]; omega) (by rw [e1, e2]; omega), e1, e2]
theorem stand_loop {M : MH} {g w : Nat} {u : St} {post : Int32 → St → Prop} (ok : okH M) (hw : w < 2 ^ 31) (h : CH u M) (hl : ∀ s, s < M 0 0 → ga u 11 s = nI (lvAt M g s (M 2 0))) (hp : post (nI (stn M g w (M 0 0))) u) : ∀ (m i : Nat), i + m = M 0 0 → qX2_standing_L18 post (m + 1) (nI (M 5 0 ||| w)) (nI (stn M g w i)) (nI i) u := by
  have h8 := ok_ns ok
  intro m
  induction m with
  | zero =>
    intro i hi
    refine ⟨fun _ => ?_, fun c => absurd (by rw [ch_k h (by omega)]; exact nI_le (by omega) (by omega)) c⟩
    rw [show i = M 0 0 by omega]
    exact hp
  | succ m ih =>
    intro i hi
    have hs : i < M 0 0 := by omega
    have os := ok_s ok hs
    have nx := ih (i + 1) (by omega)
    have hst := stn_lt M g w i
    have h31 : 2 ^ i < 2 ^ 31 := Nat.pow_lt_pow_right (by decide) (by omega)
    have hor : M 5 0 ||| w < 2 ^ 31 := Nat.or_lt_two_pow (ok_fallen ok) hw
    have e10 : ga u 10 (nI i).toNatClampNeg = nI (M 10 i) := by rw [nI_clamp (by omega)]; exact ch_s h (by omega) (by omega) hs
    have hin : vp_in (nI i) 8 := vp_in_nI (by omega) (by omega)
    have skip : (¬ ((M 10 i = 0 ∨ M 10 i &&& stn M g w i ≠ 0) ∧ (M 5 0).testBit i = false ∧ w.testBit i = false ∧ M 9 i ≤ M 8 i + lvAt M g i (M 2 0) / 5)) → qX2_standing_b89 post (qX2_standing_L18 post (m + 1)) (nI (M 5 0 ||| w)) (nI (stn M g w i)) (nI i) u := fun c x ex => by
      rw [nI_1] at ex
      subst ex
      rw [stn, if_neg c] at nx
      exact nx
    have take : ((M 10 i = 0 ∨ M 10 i &&& stn M g w i ≠ 0)) → qX2_standing_b50 post (qX2_standing_L18 post (m + 1)) (nI (M 5 0 ||| w)) (nI (stn M g w i)) (nI i) u := fun cr => by
      refine ⟨fun c => absurd c (by decide), fun _ => r_has hor (by omega) (fun c => ⟨fun _ => skip (fun q => ?_), fun c => absurd c (by decide)⟩) (fun c => ⟨fun c => absurd rfl c, fun _ => r_lack h8 h hs (Nat.lt_of_le_of_lt (lvAt_le7 ok g i) (by decide)) (hl i hs) ⟨fun c2 => skip (fun q => ?_), fun c2 y ey x ex => ?_⟩⟩)⟩
      · rw [Nat.testBit_or, q.2.1, q.2.2.1] at c
        exact absurd c (by decide)
      · have hv := lvAt_le7 ok g i
        rw [i_lt, i_sub2 (by omega) (by omega) (by omega)] at c2
        have e0 : (0 : Int32).toInt = 0 := rfl
        have := q.2.2.2
        omega
      · have hv := lvAt_le7 ok g i
        rw [i_lt, i_sub2 (by omega) (by omega) (by omega)] at c2
        have e0 : (0 : Int32).toInt = 0 := rfl
        rw [nI_1] at ex
        rw [i_one (by omega), i_or, or_pow hst] at ey
        subst ex; subst ey
        rw [Nat.testBit_or, Bool.or_eq_false_iff] at c
        rw [stn, if_pos ⟨cr, c.1, c.2, by omega⟩] at nx
        exact nx
    refine ⟨fun c => absurd c (by rw [ch_k h (by omega)]; exact nI_ge (by omega) (by omega)), fun _ => ⟨hin, ?_⟩⟩
    rw [e10, i_and]
    have z : ∀ k : Nat, k < 2 ^ 31 → (nI k = 0 ↔ k = 0) := fun k hk => nI_eq (b := 0) hk (by decide)
    have ha : M 10 i &&& stn M g w i < 2 ^ 31 := Nat.lt_of_le_of_lt Nat.and_le_left (by omega)
    rw [z _ (by omega), z _ ha]
    refine ⟨fun c => take (Or.inl c), fun c => ⟨hin, fun c2 => ?_, fun c2 => take (Or.inr c2)⟩⟩
    exact ⟨fun _ => skip (fun q => q.1.elim c (fun q => q c2)), fun c3 => absurd rfl c3⟩
theorem r_standing {M : MH} {g w : Nat} {u : St} {post : Int32 → St → Prop} (ok : okH M) (hg : g < 2 ^ 31) (hw : w < 2 ^ 31) (h : CH u M) (hp : ∀ f : Nat → Int32, (∀ s, s < M 0 0 → f s = nI (lvAt M g s (M 2 0))) → post (nI (stn M g w (M 0 0))) (sw u 11 f)) : qX2_standing (nI g) (nI w) u post := by
  refine r_gather ok hg h (fun f hf x ex => ⟨M 0 0 + 1, ?_⟩)
  rw [gi_sw, ch_k h (by omega), i_or] at ex
  subst ex
  exact stand_loop ok hw (h.w11 f) (fun s hs => by rw [ga_sw, if_pos rfl]; exact hf s hs) (hp f hf) (M 0 0) 0 (by omega)
