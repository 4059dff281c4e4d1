/-! HOUSE RULES 4: the reference's leaves and what stands; steps told, stone, debt -/
theorem ml_loop {M : MH} {g s : Nat} {u : St} {post : Int32 → St → Prop} (ok : okH M) (hg : g < 2 ^ 31) (hs : s < 100) (h : MC u M) (hp : post (nI (lvAt M g s (M 2 0))) u) : ∀ (m i : Nat), i + m = M 2 0 → qX12_leavesAt_L5 post (m + 1) (nI s) (nI g) (nI (lvAt M g s i)) (nI i) u := by
  have h7 := ok_nd ok
  have h8 := ok_ns ok
  have e2 : ga u 0 (2 : Int32).toNatClampNeg = nI (M 2 0) := mc_k (k := 2) h (by omega)
  intro m
  induction m with
  | zero =>
    intro i hi
    refine ⟨fun _ => ?_, fun c => absurd (by rw [e2]; exact nI_le (by omega) (by omega)) c⟩
    rw [show i = M 2 0 by omega]
    exact hp
  | succ m ih =>
    intro i hi
    have hd : i < M 2 0 := by omega
    have od := ok_d ok hd
    have hm := mc_d h hd
    have nx := ih (i + 1) (by omega)
    have skip : ¬ ((M 6 0).testBit i = false ∧ g.testBit i = false ∧ M 18 i = s) → qX12_leavesAt_b62 post (qX12_leavesAt_L5 post (m + 1)) (nI s) (nI g) (nI (lvAt M g s i)) (nI i) u := fun c x ex => by
      rw [nI_1] at ex
      subst ex
      rw [lvAt, if_neg c, Nat.add_zero] at nx
      exact nx
    have ne1 : ¬ nI s = -1 := fun q => by
      have := congrArg Int32.toInt q
      rw [nI_toInt (by omega)] at this
      exact absurd this (by show ¬ ((s : Int) = -1); omega)
    refine ⟨fun c => absurd c (by rw [e2]; exact nI_ge (by omega) (by omega)), fun _ => m_isPaidUp ok h (by omega) (fun c => ⟨fun _ => skip (fun q => by rw [q.1] at c; exact absurd c (by decide)), fun c => absurd c (by decide)⟩) (fun c => ⟨fun c => absurd rfl c, fun _ => m_isIn hg (by omega) (fun c2 => ⟨fun _ => skip (fun q => by rw [q.2.1] at c2; exact absurd c2 (by decide)), fun c => absurd c (by decide)⟩) (fun c2 => ⟨fun c => absurd rfl c, fun _ => ⟨fun c3 => absurd c3 ne1, fun _ => m_debtOf (j := 5) (by omega) (by omega) ?_⟩⟩)⟩)⟩
    rw [show 39 + 7 * i + 5 = 44 + 7 * i by omega, hm.2.2.2.2.2.1, nI_eq (by omega) (by omega)]
    refine ⟨fun c3 => skip (fun q => c3 q.2.2), fun c3 => m_debtOf (j := 6) (by omega) (by omega) ?_⟩
    rw [show 39 + 7 * i + 6 = 45 + 7 * i by omega, hm.2.2.2.2.2.2, nI_add]
    intro x ex y ey
    rw [nI_1] at ey
    subst ex; subst ey
    rw [lvAt, if_pos ⟨c, c2, c3⟩] at nx
    exact nx
theorem m_leavesAt {M : MH} {g s : Nat} {u : St} {post : Int32 → St → Prop} (ok : okH M) (hg : g < 2 ^ 31) (hs : s < 100) (h : MC u M) (hp : post (nI (lvAt M g s (M 2 0))) u) : qX12_leavesAt (nI s) (nI g) u post := ⟨M 2 0 + 1, ml_loop ok hg hs h hp (M 2 0) 0 (by omega)⟩
/-- all leaves of debts that are not paid -/
def lvO (M : MH) (d : Nat) : Nat := if (M 6 0).testBit d then 0 else M 19 d
theorem mla_loop {M : MH} {u : St} {post : Int32 → St → Prop} (ok : okH M) (h : MC u M) (hp : post (nI (sumF (lvO M) (M 2 0))) u) : ∀ (m i : Nat), i + m = M 2 0 → qX12_leavesAt_L5 post (m + 1) (-1) (nI 0) (nI (sumF (lvO M) i)) (nI i) u := by
  have h7 := ok_nd ok
  have e2 : ga u 0 (2 : Int32).toNatClampNeg = nI (M 2 0) := mc_k (k := 2) h (by omega)
  intro m
  induction m with
  | zero =>
    intro i hi
    refine ⟨fun _ => ?_, fun c => absurd (by rw [e2]; exact nI_le (by omega) (by omega)) c⟩
    rw [show i = M 2 0 by omega]
    exact hp
  | succ m ih =>
    intro i hi
    have hd : i < M 2 0 := by omega
    have hm := mc_d h hd
    have nx := ih (i + 1) (by omega)
    rw [sumF] at nx
    refine ⟨fun c => absurd c (by rw [e2]; exact nI_ge (by omega) (by omega)), fun _ => m_isPaidUp ok h (by omega) (fun c => ⟨fun _ x ex => ?_, fun c => absurd c (by decide)⟩) (fun c => ⟨fun c => absurd rfl c, fun _ => m_isIn (by omega) (by omega) (fun c2 => by rw [Nat.zero_testBit] at c2; exact absurd c2 (by decide)) (fun _ => ⟨fun c => absurd rfl c, fun _ => ⟨fun _ => m_debtOf (j := 6) (by omega) (by omega) ?_, fun c => absurd rfl c⟩⟩)⟩)⟩
    · rw [nI_1] at ex
      subst ex
      rw [show lvO M i = 0 from if_pos c, Nat.add_zero] at nx
      exact nx
    · rw [show 39 + 7 * i + 6 = 45 + 7 * i by omega, hm.2.2.2.2.2.2, nI_add]
      intro x ex y ey
      rw [nI_1] at ey
      subst ex; subst ey
      rw [show lvO M i = M 19 i from if_neg (by rw [c]; decide)] at nx
      exact nx
theorem m_leavesAll {M : MH} {u : St} {post : Int32 → St → Prop} (ok : okH M) (h : MC u M) (hp : post (nI (sumF (lvO M) (M 2 0))) u) : qX12_leavesAt (-1) 0 u post := ⟨M 2 0 + 1, mla_loop ok h hp (M 2 0) 0 (by omega)⟩
/-- the stone taken away, as the reference has it -/
def awy (x : Int32) (w : Nat) : Prop := (x = -1 ∧ w = 0) ∨ ∃ s, s < 8 ∧ x = nI s ∧ w = 2 ^ s
theorem awy_bit {x : Int32} {w i : Nat} (h : awy x w) (hi : i < 8) : (nI i = x ↔ w.testBit i = true) := by
  rcases h with ⟨rfl, rfl⟩ | ⟨s, hs, rfl, rfl⟩
  · rw [Nat.zero_testBit]
    refine ⟨fun q => ?_, fun q => absurd q (by decide)⟩
    have := congrArg Int32.toInt q
    rw [nI_toInt (by omega)] at this
    exact absurd this (by show ¬ ((i : Int) = -1); omega)
  · rw [nI_eq (by omega) (by omega), Nat.testBit_two_pow]
    constructor
    · intro q; simp [q]
    · intro q; have := of_decide_eq_true q; omega
theorem ms_loop {M : MH} {g w : Nat} {x : Int32} {u : St} {post : Int32 → St → Prop} (ok : okH M) (hg : g < 2 ^ 31) (hw : awy x w) (h : MC u M) (hp : post (nI (stn M g w (M 0 0))) u) : ∀ (m i : Nat), i + m = M 0 0 → qX12_standing_L5 post (m + 1) (nI g) x (nI (stn M g w i)) (nI i) u := by
  have h8 := ok_ns ok
  have e0 : ga u 0 (0 : Int32).toNatClampNeg = nI (M 0 0) := mc_k (k := 0) h (by omega)
  intro m
  induction m with
  | zero =>
    intro i hi
    refine ⟨fun _ => ?_, fun c => absurd (by rw [e0]; exact nI_le (by omega) (by omega)) c⟩
    rw [show i = M 0 0 by omega]
    exact hp
  | succ m ih =>
    intro i hi
    have hs : i < M 0 0 := by omega
    have os := ok_s ok hs
    have hm := mc_st h hs
    have nx := ih (i + 1) (by omega)
    have hst := stn_lt M g w i
    have hv := lvAt_le7 ok g i
    have h31 : 2 ^ i < 2 ^ 31 := Nat.pow_lt_pow_right (by decide) (by omega)
    have er : (10 : Int32) + 3 * nI i = nI (10 + 3 * i) := by rw [show (3 : Int32) = nI 3 from rfl, show (10 : Int32) = nI 10 from rfl, pk_mul, nI_add]
    have e1 : nI (10 + 3 * i) + 1 = nI (11 + 3 * i) := by rw [nI_1]; congr 1; omega
    have e2 : nI (10 + 3 * i) + 2 = nI (12 + 3 * i) := by rw [show (2 : Int32) = nI 2 from rfl, nI_add]; congr 1; omega
    have skip : (¬ ((M 10 i = 0 ∨ M 10 i &&& stn M g w i ≠ 0) ∧ (M 5 0).testBit i = false ∧ w.testBit i = false ∧ M 9 i ≤ M 8 i + lvAt M g i (M 2 0) / 5)) → qX12_standing_b131 post (qX12_standing_L5 post (m + 1)) (nI g) x (nI i) (nI (stn M g w i)) u := fun c y ey z ez => by
      rw [Int32.or_zero] at ey
      rw [nI_1] at ez
      subst ey; subst ez
      rw [stn, if_neg c] at nx
      exact nx
    have hb : ∀ (b r : Int32), (b = 0 ↔ ¬ M 9 i ≤ M 8 i + lvAt M g i (M 2 0) / 5) → (r = 0 ↔ ¬ (M 10 i = 0 ∨ M 10 i &&& stn M g w i ≠ 0)) → qX12_standing_b90 post (qX12_standing_L5 post (m + 1)) (nI g) x (nI (stn M g w i)) (nI i) b r u := by
      intro b r hb hr
      refine ⟨fun c => skip (fun q => hb.mp c q.2.2.2), fun c => ⟨fun c2 => skip (fun q => hr.mp c2 q.1), fun c2 => ⟨fun c3 => skip (fun q => ?_), fun c3 => ?_⟩⟩⟩
      · rw [(awy_bit hw (by omega)).mp c3] at q
        exact absurd q.2.2.1 (by decide)
      · rw [show (5 : Int32).toNatClampNeg = 5 from rfl, mc_k (k := 5) h (by omega)]
        refine m_isIn (ok_fallen ok) (by omega) (fun c4 => ⟨fun _ => skip (fun q => by rw [q.2.1] at c4; exact absurd c4 (by decide)), fun c => absurd c (by decide)⟩) (fun c4 => ⟨fun c => absurd rfl c, fun _ y ey z ez => ?_⟩)
        rw [nI_1] at ez
        rw [i_one (by omega), i_or, or_pow hst] at ey
        subst ey; subst ez
        have hwf : w.testBit i = false := by
          cases hq : w.testBit i with
          | false => rfl
          | true => exact absurd ((awy_bit hw (by omega)).mpr hq) c3
        rw [stn, if_pos ⟨Classical.not_not.mp (fun q => c2 (hr.mpr q)), c4, hwf, Classical.not_not.mp (fun q => c (hb.mpr q))⟩] at nx
        exact nx
    have h57 : ∀ b : Int32, (b = 0 ↔ ¬ M 9 i ≤ M 8 i + lvAt M g i (M 2 0) / 5) → qX12_standing_b57 post (qX12_standing_L5 post (m + 1)) (nI g) x (nI (stn M g w i)) (nI i) (nI (10 + 3 * i)) b u := by
      intro b hb1
      unfold qX12_standing_b57
      rw [e2, nI_clamp (by omega), hm.2.2, i_and]
      have z : ∀ k : Nat, k < 2 ^ 31 → (nI k = 0 ↔ k = 0) := fun k hk => nI_eq (b := 0) hk (by decide)
      have ha : M 10 i &&& stn M g w i < 2 ^ 31 := Nat.lt_of_le_of_lt Nat.and_le_left (by omega)
      have hin : vp_in (nI (12 + 3 * i)) 3072 := vp_in_nI (by omega) (by omega)
      rw [z _ (by omega), z _ ha]
      refine ⟨hin, fun c => hb b 1 hb1 ⟨fun q => absurd q (by decide), fun q => absurd (Or.inl c) q⟩, fun c => ⟨hin, fun c2 => hb b 0 hb1 ⟨fun _ q => q.elim c (fun q => q c2), fun _ => rfl⟩, fun c2 => hb b 1 hb1 ⟨fun q => absurd q (by decide), fun q => absurd (Or.inr c2) q⟩⟩⟩
    refine ⟨fun c => absurd c (by rw [e0]; exact nI_ge (by omega) (by omega)), fun _ => ?_⟩
    unfold qX12_stoneRow
    rw [er]
    refine ⟨vp_in_nI (by omega) (by omega), m_leavesAt ok hg (by omega) h ?_⟩
    rw [e1, nI_clamp (by omega), nI_clamp (by omega), hm.1, hm.2.1, i_div5 (by omega), nI_add]
    refine ⟨vp_in_nI (by omega) (by omega), fun c => h57 0 ⟨fun _ => ?_, fun _ => rfl⟩, fun c => h57 1 ⟨fun q => absurd q (by decide), fun q => ?_⟩⟩
    · rw [nI_ltI (by omega) (by omega)] at c
      omega
    · rw [nI_ltI (by omega) (by omega)] at c
      omega
theorem m_standing {M : MH} {g w : Nat} {x : Int32} {u : St} {post : Int32 → St → Prop} (ok : okH M) (hg : g < 2 ^ 31) (hw : awy x w) (h : MC u M) (hp : post (nI (stn M g w (M 0 0))) u) : qX12_standing (nI g) x u post := ⟨M 0 0 + 1, ms_loop ok hg hw h hp (M 0 0) 0 (by omega)⟩
theorem m_standsNow {M : MH} {u : St} {post : Int32 → St → Prop} (ok : okH M) (h : MC u M) (hp : post (nI (stn M 0 0 (M 0 0))) u) : qX12_standsNow u post := m_standing (g := 0) ok (by omega) (Or.inl ⟨rfl, rfl⟩) h hp
/-- what stands now, out of the fallen -/
theorem now_and : ∀ n, n < 9 → ∀ f, f < 2 ^ n → (((1 : Int32) <<< (nI n &&& 31)) - 1) &&& (nI f ^^^ (-1)) = nI (2 ^ n - 1 - f) := by decide +kernel
theorem r_standingNow {M : MH} {u : St} {post : Int32 → St → Prop} (ok : okH M) (st : setl M) (h : CH u M) (hp : post (nI (stn M 0 0 (M 0 0))) u) : qX2_standingNow u post := by
  have h8 := ok_ns ok
  have hf := ok.2.2.2.2.2.1
  unfold qX2_standingNow
  rw [ch_k h (by omega), ch_k h (by omega), now_and _ (by omega) _ hf]
  have := st
  unfold setl at this
  rw [show 2 ^ M 0 0 - 1 - M 5 0 = stn M 0 0 (M 0 0) by omega]
  exact hp
theorem allLeaves_loop {M : MH} {u : St} {post : Int32 → St → Prop} (ok : okH M) (h : CH u M) (hp : post (nI (sumF (lvO M) (M 2 0))) u) : ∀ (m i : Nat), i + m = M 2 0 → qX2_allLeaves_L4 post (m + 1) (nI (sumF (lvO M) i)) (nI i) u := by
  have h7 := ok_nd ok
  intro m
  induction m with
  | zero =>
    intro i hi
    refine ⟨fun _ => ?_, fun c => absurd (by rw [ch_k h (by omega)]; exact nI_le (by omega) (by omega)) c⟩
    rw [show i = M 2 0 by omega]
    exact hp
  | succ m ih =>
    intro i hi
    have hd : i < M 2 0 := by omega
    have nx := ih (i + 1) (by omega)
    rw [sumF] at nx
    refine ⟨fun c => absurd c (by rw [ch_k h (by omega)]; exact nI_ge (by omega) (by omega)), fun _ => ?_⟩
    rw [ch_k h (by omega), nI_clamp (by omega), ch_d h (by omega) (by omega) hd]
    refine r_has (ok_paid ok) (by omega) (fun c => ⟨fun c => absurd c (by decide), fun _ x ex y ey => ?_⟩) (fun c => ⟨fun _ => ⟨vp_in_nI (by omega) (by omega), fun x ex y ey => ?_⟩, fun c => absurd rfl c⟩)
    · rw [Int32.add_zero] at ex
      rw [nI_1] at ey
      subst ex; subst ey
      rw [show lvO M i = 0 from if_pos c, Nat.add_zero] at nx
      exact nx
    · rw [nI_add] at ex
      rw [nI_1] at ey
      subst ex; subst ey
      rw [show lvO M i = M 19 i from if_neg (by rw [c]; decide)] at nx
      exact nx
theorem r_allLeaves {M : MH} {u : St} {post : Int32 → St → Prop} (ok : okH M) (h : CH u M) (hp : post (nI (sumF (lvO M) (M 2 0))) u) : qX2_allLeaves u post := ⟨_, allLeaves_loop ok h hp (M 2 0) 0 (by omega)⟩
