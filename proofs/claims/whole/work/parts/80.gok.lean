/-! RULES FOR A HOUSE WITH MORE MORTAR (a game's): as those before, by genG.py -/
def okG (M : MH) : Prop :=
  M 0 0 ≤ 8 ∧ M 1 0 ≤ 5 ∧ M 2 0 ≤ 7 ∧ M 3 0 ≤ 16 ∧ True ∧ M 5 0 < 2 ^ M 0 0 ∧ M 6 0 < 2 ^ M 2 0 ∧ M 7 0 < 2 ^ M 2 0 ∧
  (∀ s, s < M 0 0 → M 8 s ≤ 20 ∧ 1 ≤ M 9 s ∧ M 9 s ≤ 9 ∧ M 10 s < 2 ^ s) ∧
  (∀ p, p < M 1 0 → M 12 p ≤ 9999 ∧ 1 ≤ M 13 p ∧ M 13 p < 2 ^ 40) ∧
  ∀ d, d < M 2 0 → M 14 d < M 1 0 ∧ M 15 d < M 1 0 ∧ M 14 d ≠ M 15 d ∧ 1 ≤ M 16 d ∧ M 16 d ≤ 99 ∧ M 17 d ≤ 9 ∧ M 18 d < M 0 0 ∧ M 19 d ≤ 999
theorem ok_paidG {M : MH} (h : okG M) : M 6 0 < 2 ^ 31 := pw_lt h.2.2.2.2.2.2.1 (by have := h.2.2.1; omega)
theorem ok_fallenG {M : MH} (h : okG M) : M 5 0 < 2 ^ 31 := pw_lt h.2.2.2.2.2.1 (by have := h.1; omega)
theorem ok_compG {M : MH} (h : okG M) : M 7 0 < 2 ^ 31 := pw_lt h.2.2.2.2.2.2.2.1 (by have := h.2.2.1; omega)
theorem m_isPaidUpG {M : MH} {d : Nat} {u : St} {post : Int32 → St → Prop} (ok : okG M) (h : MC u M) (hd : d < 31) (h1 : (M 6 0).testBit d = true → post 1 u) (h0 : (M 6 0).testBit d = false → post 0 u) : qX12_isPaidUp (nI d) u post := by
  unfold qX12_isPaidUp
  rw [show (6 : Int32).toNatClampNeg = 6 from rfl, mc_k h (by omega)]
  exact m_isIn (ok_paidG ok) hd (fun c => ⟨Or.inr rfl, h1 c⟩) (fun c => ⟨Or.inl rfl, h0 c⟩)
theorem ok_dG {M : MH} (h : okG M) {d : Nat} (hd : d < M 2 0) : M 14 d < M 1 0 ∧ M 15 d < M 1 0 ∧ M 14 d ≠ M 15 d ∧ 1 ≤ M 16 d ∧ M 16 d ≤ 99 ∧ M 17 d ≤ 9 ∧ M 18 d < M 0 0 ∧ M 19 d ≤ 999 := h.2.2.2.2.2.2.2.2.2.2 d hd
theorem ok_ndG {M : MH} (h : okG M) : M 2 0 ≤ 7 := h.2.2.1
theorem ok_npG {M : MH} (h : okG M) : M 1 0 ≤ 5 := h.2.1
theorem ok_nsG {M : MH} (h : okG M) : M 0 0 ≤ 8 := h.1
theorem owd_leG {M : MH} (h : okG M) {d : Nat} (hd : d < M 2 0) : owd M d ≤ 1098 := by
  have := ok_dG h hd
  unfold owd
  split <;> omega
theorem r_owedG {M : MH} {d : Nat} {u : St} {post : Int32 → St → Prop} (ok : okG M) (h : CH u M) (hd : d < M 2 0) (hp : post (nI (owd M d)) u) : qX2_owed (nI d) u post := by
  have h7 := ok_ndG ok
  unfold qX2_owed
  rw [ch_k h (by omega), nI_clamp (by omega), ch_d h (by omega) (by omega) hd, ch_d h (by omega) (by omega) hd, nI_add]
  unfold owd at hp
  refine r_has (ok_paidG ok) (by omega) (fun c => ⟨fun c => absurd c (by decide), fun _ => ?_⟩) (fun c => ⟨fun _ => ⟨vp_in_nI (by omega) (by omega), vp_in_nI (by omega) (by omega), ?_⟩, fun c => absurd rfl c⟩)
  · rw [if_pos c] at hp
    exact hp
  · rw [if_neg (by rw [c]; decide)] at hp
    exact hp
theorem m_owedOfG {M : MH} {d : Nat} {u : St} {post : Int32 → St → Prop} (ok : okG M) (h : MC u M) (hd : d < M 2 0) (hp : post (nI (owd M d)) u) : qX12_owedOf (nI d) u post := by
  have h7 := ok_ndG ok
  have hm := mc_d h hd
  unfold owd at hp
  refine m_isPaidUpG ok h (by omega) (fun c => ⟨fun c => absurd c (by decide), fun _ => ?_⟩) (fun c => ⟨fun _ => ?_, fun c => absurd rfl c⟩)
  · rw [if_pos c] at hp
    exact hp
  · rw [if_neg (by rw [c]; decide)] at hp
    refine m_debtOf (j := 2) (by omega) (by omega) (m_debtOf (j := 6) (by omega) (by omega) ?_)
    rw [show 39 + 7 * d + 2 = 41 + 7 * d by omega, show 39 + 7 * d + 6 = 45 + 7 * d by omega, hm.2.2.1, hm.2.2.2.2.2.2, nI_add]
    exact hp
theorem lvAt_leG {M : MH} (ok : okG M) (g s : Nat) : ∀ n, n ≤ M 2 0 → lvAt M g s n ≤ 999 * n := by
  intro n
  induction n with
  | zero => intro _; exact Nat.le_refl 0
  | succ n ih =>
    intro hn
    have h1 := ih (by omega)
    have h2 := (ok_dG ok (d := n) (by omega)).2.2.2.2.2.2.2
    unfold lvAt
    split <;> omega
theorem lvAt_le7G {M : MH} (ok : okG M) (g s : Nat) : lvAt M g s (M 2 0) ≤ 6993 := by
  have h1 := lvAt_leG ok g s (M 2 0) (Nat.le_refl _)
  have h2 := ok_ndG ok
  omega
theorem gather_zG {M : MH} {g : Int32} {u : St} {post : St → Prop} (ok : okG M) (h : CH u M) (hp : ∀ f : Nat → Int32, (∀ s, s < M 0 0 → f s = 0) → qX2_gatherLeaves_b23 post g (sw u 11 f)) : ∀ (m i : Nat) (f : Nat → Int32), i + m = M 0 0 → (∀ s, s < i → f s = 0) → qX2_gatherLeaves_L2 post (m + 1) g (nI i) (sw u 11 f) := by
  have h8 := ok_nsG ok
  intro m
  induction m with
  | zero =>
    intro i f hi hf
    refine ⟨fun _ => hp f (fun s hs => hf s (by omega)), fun c => absurd (by rw [gi_sw, ch_k h (by omega)]; exact nI_le (by omega) (by omega)) c⟩
  | succ m ih =>
    intro i f hi hf
    refine ⟨fun c => absurd c (by rw [gi_sw, ch_k h (by omega)]; exact nI_ge (by omega) (by omega)), fun _ => ⟨vp_in_nI (by omega) (by omega), fun v e x ex => ?_⟩⟩
    rw [nI_clamp (by omega), sw_sw, ga_sw, if_pos rfl] at e
    rw [nI_1] at ex
    subst e; subst ex
    refine ih (i + 1) _ (by omega) (fun s hs => ?_)
    rw [upd_at]
    split
    · rfl
    · exact hf s (by omega)
theorem gather_lG {M : MH} {g : Nat} {u : St} {post : St → Prop} (ok : okG M) (hg : g < 2 ^ 31) (h : CH u M) (hp : ∀ f : Nat → Int32, (∀ s, s < M 0 0 → f s = nI (lvAt M g s (M 2 0))) → post (sw u 11 f)) : ∀ (m i : Nat) (f : Nat → Int32), i + m = M 2 0 → (∀ s, s < M 0 0 → f s = nI (lvAt M g s i)) → qX2_gatherLeaves_L32 post (m + 1) (nI (g ||| M 6 0)) (nI i) (sw u 11 f) := by
  have h7 := ok_ndG ok
  have h8 := ok_nsG ok
  intro m
  induction m with
  | zero =>
    intro i f hi hf
    refine ⟨fun _ => hp f (fun s hs => ?_), fun c => absurd (by rw [gi_sw, ch_k h (by omega)]; exact nI_le (by omega) (by omega)) c⟩
    rw [← show i = M 2 0 by omega]
    exact hf s hs
  | succ m ih =>
    intro i f hi hf
    have hd : i < M 2 0 := by omega
    have od := ok_dG ok hd
    have hor : g ||| M 6 0 < 2 ^ 31 := Nat.or_lt_two_pow hg (ok_paidG ok)
    have e18 : ga (sw u 11 f) 18 (nI i).toNatClampNeg = nI (M 18 i) := by rw [nI_clamp (by omega), ga_sw, if_neg (by decide)]; exact ch_d h (by omega) (by omega) hd
    have e19 : ga (sw u 11 f) 19 (nI i).toNatClampNeg = nI (M 19 i) := by rw [nI_clamp (by omega), ga_sw, if_neg (by decide)]; exact ch_d h (by omega) (by omega) hd
    refine ⟨fun c => absurd c (by rw [gi_sw, ch_k h (by omega)]; exact nI_ge (by omega) (by omega)), fun _ => ?_⟩
    rw [i_bit hor (by omega), e18, e19, nI_clamp (by omega)]
    have hin : vp_in (nI i) 7 := vp_in_nI (by omega) (by omega)
    have hin2 : vp_in (nI (M 18 i)) 8 := vp_in_nI (by omega) (by omega)
    refine ⟨fun c x ex => ?_, fun c => ⟨hin, hin2, hin, hin2, fun v e x ex => ?_⟩⟩
    · rw [nI_1] at ex
      subst ex
      refine ih (i + 1) f (by omega) (fun s hs => ?_)
      rw [lvAt, if_neg, Nat.add_zero]
      · exact hf s hs
      · intro q
        refine c ?_
        rw [tb_0 (by rw [Nat.testBit_or, q.1, q.2.1]; rfl)]
        rfl
    · rw [sw_sw, ga_sw, if_pos rfl, hf _ od.2.2.2.2.2.2.1, nI_add] at e
      rw [nI_1] at ex
      subst e; subst ex
      have hb : (g ||| M 6 0).testBit i = false := by
        cases hq : (g ||| M 6 0).testBit i with
        | false => rfl
        | true =>
          rw [tb_1 hq] at c
          exact absurd c (by decide)
      rw [Nat.testBit_or, Bool.or_eq_false_iff] at hb
      refine ih (i + 1) _ (by omega) (fun s hs => ?_)
      rw [upd_at, lvAt]
      by_cases es : s = M 18 i
      · rw [if_pos es, if_pos ⟨hb.2, hb.1, es.symm⟩, es]
      · rw [if_neg es, if_neg (fun q => es q.2.2.symm), Nat.add_zero]
        exact hf s hs
theorem r_gatherG {M : MH} {g : Nat} {u : St} {post : St → Prop} (ok : okG M) (hg : g < 2 ^ 31) (h : CH u M) (hp : ∀ f : Nat → Int32, (∀ s, s < M 0 0 → f s = nI (lvAt M g s (M 2 0))) → post (sw u 11 f)) : qX2_gatherLeaves (nI g) u post := by
  refine ⟨M 0 0 + 1, ?_⟩
  have h1 := gather_zG (g := nI g) (post := post) ok h (fun f hf x ex => ⟨M 2 0 + 1, ?_⟩) (M 0 0) 0 (ga u 11) (by omega) (fun s hs => absurd hs (by omega))
  · rw [sw_same] at h1
    exact h1
  · rw [gi_sw, ch_k h (by omega), i_or] at ex
    subst ex
    exact gather_lG ok hg h hp (M 2 0) 0 f (by omega) hf
theorem ok_sG {M : MH} (h : okG M) {s : Nat} (hs : s < M 0 0) : M 8 s ≤ 20 ∧ 1 ≤ M 9 s ∧ M 9 s ≤ 9 ∧ M 10 s < 2 ^ s := h.2.2.2.2.2.2.2.2.1 s hs
theorem stand_loopG {M : MH} {g w : Nat} {u : St} {post : Int32 → St → Prop} (ok : okG M) (hw : w < 2 ^ 31) (h : CH u M) (hl : ∀ s, s < M 0 0 → ga u 11 s = nI (lvAt M g s (M 2 0))) (hp : post (nI (stn M g w (M 0 0))) u) : ∀ (m i : Nat), i + m = M 0 0 → qX2_standing_L18 post (m + 1) (nI (M 5 0 ||| w)) (nI (stn M g w i)) (nI i) u := by
  have h8 := ok_nsG ok
  intro m
  induction m with
  | zero =>
    intro i hi
    refine ⟨fun _ => ?_, fun c => absurd (by rw [ch_k h (by omega)]; exact nI_le (by omega) (by omega)) c⟩
    rw [show i = M 0 0 by omega]
    exact hp
  | succ m ih =>
    intro i hi
    have hs : i < M 0 0 := by omega
    have os := ok_sG ok hs
    have nx := ih (i + 1) (by omega)
    have hst := stn_lt M g w i
    have h31 : 2 ^ i < 2 ^ 31 := Nat.pow_lt_pow_right (by decide) (by omega)
    have hor : M 5 0 ||| w < 2 ^ 31 := Nat.or_lt_two_pow (ok_fallenG ok) hw
    have e10 : ga u 10 (nI i).toNatClampNeg = nI (M 10 i) := by rw [nI_clamp (by omega)]; exact ch_s h (by omega) (by omega) hs
    have hin : vp_in (nI i) 8 := vp_in_nI (by omega) (by omega)
    have skip : (¬ ((M 10 i = 0 ∨ M 10 i &&& stn M g w i ≠ 0) ∧ (M 5 0).testBit i = false ∧ w.testBit i = false ∧ M 9 i ≤ M 8 i + lvAt M g i (M 2 0) / 5)) → qX2_standing_b89 post (qX2_standing_L18 post (m + 1)) (nI (M 5 0 ||| w)) (nI (stn M g w i)) (nI i) u := fun c x ex => by
      rw [nI_1] at ex
      subst ex
      rw [stn, if_neg c] at nx
      exact nx
    have take : ((M 10 i = 0 ∨ M 10 i &&& stn M g w i ≠ 0)) → qX2_standing_b50 post (qX2_standing_L18 post (m + 1)) (nI (M 5 0 ||| w)) (nI (stn M g w i)) (nI i) u := fun cr => by
      refine ⟨fun c => absurd c (by decide), fun _ => r_has hor (by omega) (fun c => ⟨fun _ => skip (fun q => ?_), fun c => absurd c (by decide)⟩) (fun c => ⟨fun c => absurd rfl c, fun _ => r_lack h8 h hs (Nat.lt_of_le_of_lt (lvAt_le7G ok g i) (by decide)) (hl i hs) ⟨fun c2 => skip (fun q => ?_), fun c2 y ey x ex => ?_⟩⟩)⟩
      · rw [Nat.testBit_or, q.2.1, q.2.2.1] at c
        exact absurd c (by decide)
      · have hv := lvAt_le7G ok g i
        rw [i_lt, i_sub2 (by omega) (by omega) (by omega)] at c2
        have e0 : (0 : Int32).toInt = 0 := rfl
        have := q.2.2.2
        omega
      · have hv := lvAt_le7G ok g i
        rw [i_lt, i_sub2 (by omega) (by omega) (by omega)] at c2
        have e0 : (0 : Int32).toInt = 0 := rfl
        rw [nI_1] at ex
        rw [i_one (by omega), i_or, or_pow hst] at ey
        subst ex; subst ey
        rw [Nat.testBit_or, Bool.or_eq_false_iff] at c
        rw [stn, if_pos ⟨cr, c.1, c.2, by omega⟩] at nx
        exact nx
    refine ⟨fun c => absurd c (by rw [ch_k h (by omega)]; exact nI_ge (by omega) (by omega)), fun _ => ⟨hin, ?_⟩⟩
    rw [e10, i_and]
    have z : ∀ k : Nat, k < 2 ^ 31 → (nI k = 0 ↔ k = 0) := fun k hk => nI_eq (b := 0) hk (by decide)
    have ha : M 10 i &&& stn M g w i < 2 ^ 31 := Nat.lt_of_le_of_lt Nat.and_le_left (by omega)
    rw [z _ (by omega), z _ ha]
    refine ⟨fun c => take (Or.inl c), fun c => ⟨hin, fun c2 => ?_, fun c2 => take (Or.inr c2)⟩⟩
    exact ⟨fun _ => skip (fun q => q.1.elim c (fun q => q c2)), fun c3 => absurd rfl c3⟩
theorem r_standingG {M : MH} {g w : Nat} {u : St} {post : Int32 → St → Prop} (ok : okG M) (hg : g < 2 ^ 31) (hw : w < 2 ^ 31) (h : CH u M) (hp : ∀ f : Nat → Int32, (∀ s, s < M 0 0 → f s = nI (lvAt M g s (M 2 0))) → post (nI (stn M g w (M 0 0))) (sw u 11 f)) : qX2_standing (nI g) (nI w) u post := by
  refine r_gatherG ok hg h (fun f hf x ex => ⟨M 0 0 + 1, ?_⟩)
  rw [gi_sw, ch_k h (by omega), i_or] at ex
  subst ex
  exact stand_loopG ok hw (h.w11 f) (fun s hs => by rw [ga_sw, if_pos rfl]; exact hf s hs) (hp f hf) (M 0 0) 0 (by omega)
theorem ml_loopG {M : MH} {g s : Nat} {u : St} {post : Int32 → St → Prop} (ok : okG M) (hg : g < 2 ^ 31) (hs : s < 100) (h : MC u M) (hp : post (nI (lvAt M g s (M 2 0))) u) : ∀ (m i : Nat), i + m = M 2 0 → qX12_leavesAt_L5 post (m + 1) (nI s) (nI g) (nI (lvAt M g s i)) (nI i) u := by
  have h7 := ok_ndG ok
  have h8 := ok_nsG ok
  have e2 : ga u 0 (2 : Int32).toNatClampNeg = nI (M 2 0) := mc_k (k := 2) h (by omega)
  intro m
  induction m with
  | zero =>
    intro i hi
    refine ⟨fun _ => ?_, fun c => absurd (by rw [e2]; exact nI_le (by omega) (by omega)) c⟩
    rw [show i = M 2 0 by omega]
    exact hp
  | succ m ih =>
    intro i hi
    have hd : i < M 2 0 := by omega
    have od := ok_dG ok hd
    have hm := mc_d h hd
    have nx := ih (i + 1) (by omega)
    have skip : ¬ ((M 6 0).testBit i = false ∧ g.testBit i = false ∧ M 18 i = s) → qX12_leavesAt_b62 post (qX12_leavesAt_L5 post (m + 1)) (nI s) (nI g) (nI (lvAt M g s i)) (nI i) u := fun c x ex => by
      rw [nI_1] at ex
      subst ex
      rw [lvAt, if_neg c, Nat.add_zero] at nx
      exact nx
    have ne1 : ¬ nI s = -1 := fun q => by
      have := congrArg Int32.toInt q
      rw [nI_toInt (by omega)] at this
      exact absurd this (by show ¬ ((s : Int) = -1); omega)
    refine ⟨fun c => absurd c (by rw [e2]; exact nI_ge (by omega) (by omega)), fun _ => m_isPaidUpG ok h (by omega) (fun c => ⟨fun _ => skip (fun q => by rw [q.1] at c; exact absurd c (by decide)), fun c => absurd c (by decide)⟩) (fun c => ⟨fun c => absurd rfl c, fun _ => m_isIn hg (by omega) (fun c2 => ⟨fun _ => skip (fun q => by rw [q.2.1] at c2; exact absurd c2 (by decide)), fun c => absurd c (by decide)⟩) (fun c2 => ⟨fun c => absurd rfl c, fun _ => ⟨fun c3 => absurd c3 ne1, fun _ => m_debtOf (j := 5) (by omega) (by omega) ?_⟩⟩)⟩)⟩
    rw [show 39 + 7 * i + 5 = 44 + 7 * i by omega, hm.2.2.2.2.2.1, nI_eq (by omega) (by omega)]
    refine ⟨fun c3 => skip (fun q => c3 q.2.2), fun c3 => m_debtOf (j := 6) (by omega) (by omega) ?_⟩
    rw [show 39 + 7 * i + 6 = 45 + 7 * i by omega, hm.2.2.2.2.2.2, nI_add]
    intro x ex y ey
    rw [nI_1] at ey
    subst ex; subst ey
    rw [lvAt, if_pos ⟨c, c2, c3⟩] at nx
    exact nx
theorem m_leavesAtG {M : MH} {g s : Nat} {u : St} {post : Int32 → St → Prop} (ok : okG M) (hg : g < 2 ^ 31) (hs : s < 100) (h : MC u M) (hp : post (nI (lvAt M g s (M 2 0))) u) : qX12_leavesAt (nI s) (nI g) u post := ⟨M 2 0 + 1, ml_loopG ok hg hs h hp (M 2 0) 0 (by omega)⟩
theorem ms_loopG {M : MH} {g w : Nat} {x : Int32} {u : St} {post : Int32 → St → Prop} (ok : okG M) (hg : g < 2 ^ 31) (hw : awy x w) (h : MC u M) (hp : post (nI (stn M g w (M 0 0))) u) : ∀ (m i : Nat), i + m = M 0 0 → qX12_standing_L5 post (m + 1) (nI g) x (nI (stn M g w i)) (nI i) u := by
  have h8 := ok_nsG ok
  have e0 : ga u 0 (0 : Int32).toNatClampNeg = nI (M 0 0) := mc_k (k := 0) h (by omega)
  intro m
  induction m with
  | zero =>
    intro i hi
    refine ⟨fun _ => ?_, fun c => absurd (by rw [e0]; exact nI_le (by omega) (by omega)) c⟩
    rw [show i = M 0 0 by omega]
    exact hp
  | succ m ih =>
    intro i hi
    have hs : i < M 0 0 := by omega
    have os := ok_sG ok hs
    have hm := mc_st h hs
    have nx := ih (i + 1) (by omega)
    have hst := stn_lt M g w i
    have hv := lvAt_le7G ok g i
    have h31 : 2 ^ i < 2 ^ 31 := Nat.pow_lt_pow_right (by decide) (by omega)
    have er : (10 : Int32) + 3 * nI i = nI (10 + 3 * i) := by rw [show (3 : Int32) = nI 3 from rfl, show (10 : Int32) = nI 10 from rfl, pk_mul, nI_add]
    have e1 : nI (10 + 3 * i) + 1 = nI (11 + 3 * i) := by rw [nI_1]; congr 1; omega
    have e2 : nI (10 + 3 * i) + 2 = nI (12 + 3 * i) := by rw [show (2 : Int32) = nI 2 from rfl, nI_add]; congr 1; omega
    have skip : (¬ ((M 10 i = 0 ∨ M 10 i &&& stn M g w i ≠ 0) ∧ (M 5 0).testBit i = false ∧ w.testBit i = false ∧ M 9 i ≤ M 8 i + lvAt M g i (M 2 0) / 5)) → qX12_standing_b131 post (qX12_standing_L5 post (m + 1)) (nI g) x (nI i) (nI (stn M g w i)) u := fun c y ey z ez => by
      rw [Int32.or_zero] at ey
      rw [nI_1] at ez
      subst ey; subst ez
      rw [stn, if_neg c] at nx
      exact nx
    have hb : ∀ (b r : Int32), (b = 0 ↔ ¬ M 9 i ≤ M 8 i + lvAt M g i (M 2 0) / 5) → (r = 0 ↔ ¬ (M 10 i = 0 ∨ M 10 i &&& stn M g w i ≠ 0)) → qX12_standing_b90 post (qX12_standing_L5 post (m + 1)) (nI g) x (nI (stn M g w i)) (nI i) b r u := by
      intro b r hb hr
      refine ⟨fun c => skip (fun q => hb.mp c q.2.2.2), fun c => ⟨fun c2 => skip (fun q => hr.mp c2 q.1), fun c2 => ⟨fun c3 => skip (fun q => ?_), fun c3 => ?_⟩⟩⟩
      · rw [(awy_bit hw (by omega)).mp c3] at q
        exact absurd q.2.2.1 (by decide)
      · rw [show (5 : Int32).toNatClampNeg = 5 from rfl, mc_k (k := 5) h (by omega)]
        refine m_isIn (ok_fallenG ok) (by omega) (fun c4 => ⟨fun _ => skip (fun q => by rw [q.2.1] at c4; exact absurd c4 (by decide)), fun c => absurd c (by decide)⟩) (fun c4 => ⟨fun c => absurd rfl c, fun _ y ey z ez => ?_⟩)
        rw [nI_1] at ez
        rw [i_one (by omega), i_or, or_pow hst] at ey
        subst ey; subst ez
        have hwf : w.testBit i = false := by
          cases hq : w.testBit i with
          | false => rfl
          | true => exact absurd ((awy_bit hw (by omega)).mpr hq) c3
        rw [stn, if_pos ⟨Classical.not_not.mp (fun q => c2 (hr.mpr q)), c4, hwf, Classical.not_not.mp (fun q => c (hb.mpr q))⟩] at nx
        exact nx
    have h57 : ∀ b : Int32, (b = 0 ↔ ¬ M 9 i ≤ M 8 i + lvAt M g i (M 2 0) / 5) → qX12_standing_b57 post (qX12_standing_L5 post (m + 1)) (nI g) x (nI (stn M g w i)) (nI i) (nI (10 + 3 * i)) b u := by
      intro b hb1
      unfold qX12_standing_b57
      rw [e2, nI_clamp (by omega), hm.2.2, i_and]
      have z : ∀ k : Nat, k < 2 ^ 31 → (nI k = 0 ↔ k = 0) := fun k hk => nI_eq (b := 0) hk (by decide)
      have ha : M 10 i &&& stn M g w i < 2 ^ 31 := Nat.lt_of_le_of_lt Nat.and_le_left (by omega)
      have hin : vp_in (nI (12 + 3 * i)) 3072 := vp_in_nI (by omega) (by omega)
      rw [z _ (by omega), z _ ha]
      refine ⟨hin, fun c => hb b 1 hb1 ⟨fun q => absurd q (by decide), fun q => absurd (Or.inl c) q⟩, fun c => ⟨hin, fun c2 => hb b 0 hb1 ⟨fun _ q => q.elim c (fun q => q c2), fun _ => rfl⟩, fun c2 => hb b 1 hb1 ⟨fun q => absurd q (by decide), fun q => absurd (Or.inr c2) q⟩⟩⟩
    refine ⟨fun c => absurd c (by rw [e0]; exact nI_ge (by omega) (by omega)), fun _ => ?_⟩
    unfold qX12_stoneRow
    rw [er]
    refine ⟨vp_in_nI (by omega) (by omega), m_leavesAtG ok hg (by omega) h ?_⟩
    rw [e1, nI_clamp (by omega), nI_clamp (by omega), hm.1, hm.2.1, i_div5 (by omega), nI_add]
    refine ⟨vp_in_nI (by omega) (by omega), fun c => h57 0 ⟨fun _ => ?_, fun _ => rfl⟩, fun c => h57 1 ⟨fun q => absurd q (by decide), fun q => ?_⟩⟩
    · rw [nI_ltI (by omega) (by omega)] at c
      omega
    · rw [nI_ltI (by omega) (by omega)] at c
      omega
theorem m_standingG {M : MH} {g w : Nat} {x : Int32} {u : St} {post : Int32 → St → Prop} (ok : okG M) (hg : g < 2 ^ 31) (hw : awy x w) (h : MC u M) (hp : post (nI (stn M g w (M 0 0))) u) : qX12_standing (nI g) x u post := ⟨M 0 0 + 1, ms_loopG ok hg hw h hp (M 0 0) 0 (by omega)⟩
theorem m_standsNowG {M : MH} {u : St} {post : Int32 → St → Prop} (ok : okG M) (h : MC u M) (hp : post (nI (stn M 0 0 (M 0 0))) u) : qX12_standsNow u post := m_standingG (g := 0) ok (by omega) (Or.inl ⟨rfl, rfl⟩) h hp
theorem MR_congrG {a a1 : Nat → Int32} {nm nm1 : Nat → Int64} {b c : Nat} {M : MH} (ok : okG M) (ha : ∀ j, j < 88 → a1 (b + j) = a (b + j)) (hn : ∀ j, j < 5 → nm1 (c + j) = nm (c + j)) (h : MR a nm b c M) : MR a1 nm1 b c M := by
  have o0 := ok_nsG ok
  have o1 := ok_npG ok
  have o2 := ok_ndG ok
  obtain ⟨h1, h2, h3, h4⟩ := h
  refine ⟨fun k hk => (ha k (by omega)).trans (h1 k hk), fun s hs => ?_, fun p hp => ⟨?_, (hn p (by omega)).trans (h3 p hp).2⟩, fun d hd => ?_⟩
  · have := h2 s hs
    have e : ∀ j, 10 ≤ j → j < 13 → a1 (b + j + 3 * s) = a (b + j + 3 * s) := fun j q1 q2 => by
      have := ha (j + 3 * s) (by omega)
      rw [← Nat.add_assoc] at this
      exact this
    rw [e 10 (by omega) (by omega), e 11 (by omega) (by omega), e 12 (by omega) (by omega)]
    exact this
  · have := ha (34 + p) (by omega)
    rw [← Nat.add_assoc] at this
    exact this.trans (h3 p hp).1
  · have := h4 d hd
    have e : ∀ j, 39 ≤ j → j < 46 → a1 (b + j + 7 * d) = a (b + j + 7 * d) := fun j q1 q2 => by
      have := ha (j + 7 * d) (by omega)
      rw [← Nat.add_assoc] at this
      exact this
    rw [e 39 (by omega) (by omega), e 40 (by omega) (by omega), e 41 (by omega) (by omega), e 42 (by omega) (by omega), e 43 (by omega) (by omega), e 44 (by omega) (by omega), e 45 (by omega) (by omega)]
    exact this
theorem r_hasFallenG {M : MH} {s : Nat} {u : St} {post : Int32 → St → Prop} (ok : okG M) (h : CH u M) (hs : s < 31) (h1 : (M 5 0).testBit s = true → post 1 u) (h0 : (M 5 0).testBit s = false → post 0 u) : qX2_hasFallen (nI s) u post := by
  unfold qX2_hasFallen
  rw [ch_k h (by omega)]
  exact r_has (ok_fallenG ok) hs (fun c => ⟨Or.inr rfl, h1 c⟩) (fun c => ⟨Or.inl rfl, h0 c⟩)
theorem stn31G {M : MH} (ok : okG M) (g w : Nat) : stn M g w (M 0 0) < 2 ^ 31 := pw_lt (stn_lt M g w (M 0 0)) (by have := ok_nsG ok; omega)
theorem mc_up8G {u : St} {M : MH} {i : Nat} {v : Nat} (ok : okG M) (h : MC u M) (hi : i < M 0 0) : MC (sw u 0 (upd (ga u 0) (10 + 3 * i) (nI v))) (mp M 8 i v) := by
  have o0 := ok_nsG ok
  have o1 := ok_npG ok
  have o2 := ok_ndG ok
  have E : ∀ j, j ≠ 10 + 3 * i → ga (sw u 0 (upd (ga u 0) (10 + 3 * i) (nI v))) 0 j = ga u 0 j := fun j hj => by rw [ga_sw, if_pos rfl, upd_at, if_neg hj]
  have E1 : ga (sw u 0 (upd (ga u 0) (10 + 3 * i) (nI v))) 0 (10 + 3 * i) = nI v := by rw [ga_sw, if_pos rfl, upd_at, if_pos rfl]
  obtain ⟨h1, h2, h3, h4⟩ := h
  refine ⟨fun j hj => ?_, fun s hs => ?_, fun p hp => ?_, fun d hd => ?_⟩
  · rw [E _ (by omega), mp_ne (by omega)]
    exact h1 j hj
  · have hs : s < M 0 0 := hs
    have q := h2 s hs
    by_cases c : s = i
    · subst c
      refine ⟨?_, ?_, ?_⟩
      · rw [mp_eq]
        exact (congrArg (ga (sw u 0 (upd (ga u 0) (10 + 3 * s) (nI v))) 0) (by omega)).trans E1
      · rw [E _ (by omega), mp_ne (by omega)]
        exact q.2.1
      · rw [E _ (by omega), mp_ne (by omega)]
        exact q.2.2
    · refine ⟨?_, ?_, ?_⟩
      · rw [E _ (by omega), mp_ne (by omega)]
        exact q.1
      · rw [E _ (by omega), mp_ne (by omega)]
        exact q.2.1
      · rw [E _ (by omega), mp_ne (by omega)]
        exact q.2.2
  · have hp : p < M 1 0 := hp
    have q := h3 p hp
    refine ⟨?_, ?_⟩
    · rw [E _ (by omega), mp_ne (by omega)]
      exact q.1
    · exact q.2
  · have hd : d < M 2 0 := hd
    have q := h4 d hd
    refine ⟨?_, ?_, ?_, ?_, ?_, ?_, ?_⟩
    · rw [E _ (by omega), mp_ne (by omega)]
      exact q.1
    · rw [E _ (by omega), mp_ne (by omega)]
      exact q.2.1
    · rw [E _ (by omega), mp_ne (by omega)]
      exact q.2.2.1
    · rw [E _ (by omega), mp_ne (by omega)]
      exact q.2.2.2.1
    · rw [E _ (by omega)]
      exact q.2.2.2.2.1
    · rw [E _ (by omega), mp_ne (by omega)]
      exact q.2.2.2.2.2.1
    · rw [E _ (by omega), mp_ne (by omega)]
      exact q.2.2.2.2.2.2
theorem mc_up19G {u : St} {M : MH} {i : Nat} {v : Nat} (ok : okG M) (h : MC u M) (hi : i < M 2 0) : MC (sw u 0 (upd (ga u 0) (45 + 7 * i) (nI v))) (mp M 19 i v) := by
  have o0 := ok_nsG ok
  have o1 := ok_npG ok
  have o2 := ok_ndG ok
  have E : ∀ j, j ≠ 45 + 7 * i → ga (sw u 0 (upd (ga u 0) (45 + 7 * i) (nI v))) 0 j = ga u 0 j := fun j hj => by rw [ga_sw, if_pos rfl, upd_at, if_neg hj]
  have E1 : ga (sw u 0 (upd (ga u 0) (45 + 7 * i) (nI v))) 0 (45 + 7 * i) = nI v := by rw [ga_sw, if_pos rfl, upd_at, if_pos rfl]
  obtain ⟨h1, h2, h3, h4⟩ := h
  refine ⟨fun j hj => ?_, fun s hs => ?_, fun p hp => ?_, fun d hd => ?_⟩
  · rw [E _ (by omega), mp_ne (by omega)]
    exact h1 j hj
  · have hs : s < M 0 0 := hs
    have q := h2 s hs
    refine ⟨?_, ?_, ?_⟩
    · rw [E _ (by omega), mp_ne (by omega)]
      exact q.1
    · rw [E _ (by omega), mp_ne (by omega)]
      exact q.2.1
    · rw [E _ (by omega), mp_ne (by omega)]
      exact q.2.2
  · have hp : p < M 1 0 := hp
    have q := h3 p hp
    refine ⟨?_, ?_⟩
    · rw [E _ (by omega), mp_ne (by omega)]
      exact q.1
    · exact q.2
  · have hd : d < M 2 0 := hd
    have q := h4 d hd
    by_cases c : d = i
    · subst c
      refine ⟨?_, ?_, ?_, ?_, ?_, ?_, ?_⟩
      · rw [E _ (by omega), mp_ne (by omega)]
        exact q.1
      · rw [E _ (by omega), mp_ne (by omega)]
        exact q.2.1
      · rw [E _ (by omega), mp_ne (by omega)]
        exact q.2.2.1
      · rw [E _ (by omega), mp_ne (by omega)]
        exact q.2.2.2.1
      · rw [E _ (by omega)]
        exact q.2.2.2.2.1
      · rw [E _ (by omega), mp_ne (by omega)]
        exact q.2.2.2.2.2.1
      · rw [mp_eq]
        exact (congrArg (ga (sw u 0 (upd (ga u 0) (45 + 7 * d) (nI v))) 0) (by omega)).trans E1
    · refine ⟨?_, ?_, ?_, ?_, ?_, ?_, ?_⟩
      · rw [E _ (by omega), mp_ne (by omega)]
        exact q.1
      · rw [E _ (by omega), mp_ne (by omega)]
        exact q.2.1
      · rw [E _ (by omega), mp_ne (by omega)]
        exact q.2.2.1
      · rw [E _ (by omega), mp_ne (by omega)]
        exact q.2.2.2.1
      · rw [E _ (by omega)]
        exact q.2.2.2.2.1
      · rw [E _ (by omega), mp_ne (by omega)]
        exact q.2.2.2.2.2.1
      · rw [E _ (by omega), mp_ne (by omega)]
        exact q.2.2.2.2.2.2
theorem kp_mcG {b : Nat} {u : St} {M : MH} (ok : okG M) (hb : 88 ≤ b) (h : MC u M) : MC (sw u 0 (kpF b 88 (ga u 0))) M :=
  MR_congrG ok (fun j hj => by rw [ga_sw, if_pos rfl]; unfold kpF; rw [if_neg (by omega)]) (fun _ _ => rfl) h
