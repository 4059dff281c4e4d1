/-! STEPS 28: life, the class's way -/
theorem tm_act {M N A : MH} {n k : Nat} (hT : okT M N n) (hk : k < n) (h0 : A 0 0 = M 0 0) (h1 : A 1 0 = M 1 0) : actO (N 0 k) (N 1 k) (N 2 k) A := by
  obtain ⟨-, q1, q2, q3, -, -, -, q7, q8, q9, -⟩ := hT.2 k hk
  refine ⟨q1, q2, fun c => ?_, fun c => ⟨?_, (q9 (Or.inr c)).2⟩, fun c => (q9 (Or.inl c)).2⟩
  · rw [h0]; exact q7 (Or.inl c)
  · rw [h1]; exact q8 (Or.inl c)
theorem tm_cnd {M N A : MH} {n k : Nat} (hT : okT M N n) (hk : k < n) (h0 : A 0 0 = M 0 0) (h1 : A 1 0 = M 1 0) (hw : 9 ≤ N 0 k ∧ N 0 k ≤ 12) : cndO (N 0 k) (N 1 k) (N 2 k) (N 3 k) A := by
  obtain ⟨-, q1, q2, q3, -, -, q6, q7, q8, q9, -⟩ := hT.2 k hk
  refine ⟨by omega, q1, q2, q3, fun c => ?_, fun c => ?_, fun c => q6 (by omega)⟩
  · rw [h0]; exact q7 (Or.inr c)
  · rw [h1]; exact q8 (Or.inr c)
theorem act_else {k a b : Nat} {A : MH} {d : Nat} (h : 6 ≤ k) : act5 k a b A d = (true, A, d, 0, 0) := by
  unfold act5
  rw [if_neg (by omega), if_neg (by omega), if_neg (by omega), if_neg (by omega), if_neg (by omega), if_neg (by omega)]
theorem c_out {n i : Nat} {x4 : Int32} {ul u1 t : St} {post : St → St → St → Prop} (hn : n ≤ 60) (ht : gi t 2 = nI n) (hi : i < 100000) (fin : qX3_run_b186 post x4 ul u1 t) : qX3_run_L47 post (100001 - i) x4 (nI n) (nI i) ul u1 t := by
  rw [show 100001 - i = (100001 - (i + 1)) + 1 by omega]
  refine ⟨fun _ => fin, fun _ => ?_⟩
  rw [ht]
  exact within_n hn (by omega) (fun q => absurd q (by omega)) (fun _ => ⟨fun _ => fin, fun q => absurd rfl q⟩)
theorem c_run {M N : MH} {n : Nat} {x4 : Int32} {t : St} {post : St → St → St → Prop} (hT : okT M N n) (ht : tmC t N n) : ∀ (m k : Nat) (lp : Nat → Nat) (A : MH) (d : Nat) (ms yr sp : Int32) (dn i : Nat) (ul u1 : St), dn + m = 300 → k ≤ n → (k < n → N 0 k ≠ 13) → i ≤ 62 * dn + 61 → okH A → setl A → A 0 0 = M 0 0 → A 1 0 = M 1 0 → d < 65536 → CH u1 A → lfC ul dn d ms yr sp 0 → EnL N n k lp (ga ul 8) 1 → (∀ ul' u1' d', CH u1' (runA N n m k lp A d ms yr sp).1 → lfC ul' (300 - (runA N n m k lp A d ms yr sp).2.2.2.2.1) d' (runA N n m k lp A d ms yr sp).2.1 (runA N n m k lp A d ms yr sp).2.2.1 (runA N n m k lp A d ms yr sp).2.2.2.1 (bI (runA N n m k lp A d ms yr sp).2.2.2.2.2) → qX3_run_b186 post x4 ul' u1' t) → qX3_run_L47 post (100001 - i) x4 (nI k) (nI i) ul u1 t := by
  have hn := hT.1
  intro m
  induction m with
  | zero =>
    intro k lp A d ms yr sp dn i ul u1 hdn hkn hk13 hi ok st h0 h1 hd hc hl he fin
    have edn : dn = 300 := by omega
    by_cases c : k < n
    · have eR : runA N n 0 k lp A d ms yr sp = (A, ms, yr, sp, 0, true) := by
        show (A, ms, yr, sp, 0, decide (k < n)) = _
        rw [decide_eq_true c]
      rw [eR] at fin
      obtain ⟨l0, l1, l2, l3, l4, l6, l7⟩ := hl
      obtain ⟨t1, -⟩ := ht.2 k c
      have ec : (nI k).toNatClampNeg = k := nI_clamp (by omega)
      have hkk := (tm_k hT c).1
      rw [show 100001 - i = (100001 - (i + 2)) + 1 + 1 by omega]
      refine ⟨fun q => absurd q (nI_ge (b := 100000) (by omega) (by omega)), fun _ => ?_⟩
      rw [ht.1]
      refine within_n hn (by omega) (fun _ => ⟨fun q => absurd q (by decide), fun _ => ⟨fun q => absurd l6 q, fun _ => ⟨vp_in_nI (by omega) (by omega), ?_⟩⟩⟩) (fun q => absurd q (by omega))
      rw [ec, t1, show (13 : Int32) = nI 13 from rfl, nI_eq (by omega) (by omega), l1]
      refine ⟨fun _ => ⟨fun q => absurd q (nI_nlt (b := 300) (by omega) (by omega)), fun _ u58 e58 z ez => ?_⟩, fun q => absurd q (hk13 c)⟩
      subst ez
      refine ⟨fun _ => ?_, fun _ => ?_⟩
      · exact fin u58 u1 d hc (by rw [e58]; exact ⟨l0, l1.trans (congrArg nI edn), l2, l3, l4, rfl, l7⟩)
      · rw [ht.1]
        refine within_n hn (by omega) (fun _ => ⟨fun q => absurd q (by decide), fun _ => ⟨fun _ => ?_, fun q => ?_⟩⟩) (fun q => absurd q (by omega))
        · exact fin u58 u1 d hc (by rw [e58]; exact ⟨l0, l1.trans (congrArg nI edn), l2, l3, l4, rfl, l7⟩)
        · rw [e58] at q
          exact absurd (show (1 : Int32) = 0 from q) (by decide)
    · have ek : k = n := by omega
      subst ek
      have eR : runA N k 0 k lp A d ms yr sp = (A, ms, yr, sp, 0, false) := by
        show (A, ms, yr, sp, 0, decide (k < k)) = _
        rw [decide_eq_false c]
      rw [eR] at fin
      exact c_out hn ht.1 (by omega) (fin ul u1 d hc (by rw [edn] at hl; exact hl))
  | succ m ih =>
    intro k lp A d ms yr sp dn i ul u1 hdn hkn hk13 hi ok st h0 h1 hd hc hl he fin
    by_cases c : k < n
    · have hk := hk13 c
      obtain ⟨hkk, hk8⟩ := tm_k hT c
      obtain ⟨t1, t2, t3, t4, t5⟩ := ht.2 k c
      obtain ⟨l0, l1, l2, l3, l4, l6, l7⟩ := hl
      have ec : (nI k).toNatClampNeg = k := nI_clamp (by omega)
      have hin : vp_in (nI k) 60 := vp_in_nI (by omega) (by omega)
      have ho := tm_act hT c h0 h1
      obtain ⟨hB, hdd⟩ := act_B (k := N 0 k) (a := N 1 k) (b := N 2 k) ok st hd ho
      rw [show 100001 - i = (100001 - (i + 1)) + 1 by omega]
      refine ⟨fun q => absurd q (nI_ge (b := 100000) (by omega) (by omega)), fun _ => ?_⟩
      rw [ht.1]
      refine within_n hn (by omega) (fun _ => ⟨fun q => absurd q (by decide), fun _ => ⟨fun q => absurd l6 q, fun _ => ⟨hin, ?_⟩⟩⟩) (fun q => absurd q (by omega))
      rw [ec, t1, show (13 : Int32) = nI 13 from rfl, nI_eq (by omega) (by omega), l1, nI_1]
      refine ⟨fun _ => ⟨fun _ u45 e45 => ⟨hin, ?_⟩, fun q => absurd (nI_lt (b := 300) (by omega) (by omega)) q⟩, fun q => absurd q hk⟩
      have hl45 : lfC u45 (dn + 1) d ms yr sp 0 := by rw [e45]; exact ⟨l0, rfl, l2, l3, l4, l6, l7⟩
      have e845 : ga u45 8 = ga ul 8 := by rw [e45]; rfl
      -- on at another place, with what was done
      have go : ∀ (k1 : Nat) (lp1 : Nat → Nat) (v0 v1 : St), k1 ≤ n → beE N (n - k1) k1 lp1 = beE N (n - nxK N k A) (nxK N k A) (nxL N k lp) → N 0 k ≠ 6 → (k1 < n → N 0 k1 = 13 → N 0 (N 4 k1) = 7 → N 4 k1 + 1 ≠ k1) → CH v1 (act5 (N 0 k) (N 1 k) (N 2 k) A d).2.1 → lfC v0 (dn + 1) (act5 (N 0 k) (N 1 k) (N 2 k) A d).2.2.1 (ms + bI (! (act5 (N 0 k) (N 1 k) (N 2 k) A d).1)) (yr + nI (act5 (N 0 k) (N 1 k) (N 2 k) A d).2.2.2.1) (sp + nI (act5 (N 0 k) (N 1 k) (N 2 k) A d).2.2.2.2) 0 → EnL N n k1 lp1 (ga v0 8) 1 → qX3_run_b180 post (qX3_run_L47 post (100001 - (i + 1))) x4 (nI k1) (nI i) v0 v1 t := fun k1 lp1 v0 v1 hk1 hbe h6 hne hv1 hv0 hev z ez => by
        rw [nI_1] at ez
        subst ez
        have eR : runA N n (m + 1) k lp A d ms yr sp = runA N n m (beE N (n - nxK N k A) (nxK N k A) (nxL N k lp)).1 (beE N (n - nxK N k A) (nxK N k A) (nxL N k lp)).2 (act5 (N 0 k) (N 1 k) (N 2 k) A d).2.1 (act5 (N 0 k) (N 1 k) (N 2 k) A d).2.2.1 (ms + bI (! (act5 (N 0 k) (N 1 k) (N 2 k) A d).1)) (yr + nI (act5 (N 0 k) (N 1 k) (N 2 k) A d).2.2.2.1) (sp + nI (act5 (N 0 k) (N 1 k) (N 2 k) A d).2.2.2.2) := by
          rw [runA, if_neg (by omega), if_neg h6]
        rw [eR, ← hbe] at fin
        obtain ⟨p1, p2⟩ := be_place hT (n - k1) k1 lp1 (by omega)
        refine c_ends hT ht (by omega) (n - k1) k1 lp1 (i + 1) v0 v1 (by omega) hne (by omega) hv0 hev (fun i' ul' hi' hl' he' => ?_)
        exact ih _ _ _ _ _ _ _ (dn + 1) i' ul' v1 (by omega) p1 p2 hi' hB.1 hB.2.1 (hB.2.2.1.trans h0) (hB.2.2.2.1.trans h1) hdd hv1 hl' he' fin
      rw [show (5 : Int32) = nI 5 from rfl, nI_leI (by omega) (by omega)]
      refine ⟨fun c5 => ?_, fun c5 => ?_⟩
      · have enx : nxK N k A = k + 1 := if_neg (by omega)
        have elp : nxL N k lp = lp := if_neg (by omega)
        refine r_act (by omega) c5 t1 (fun q => t2 (by omega) q (by omega)) (fun q => t3 (by omega)) ho ok st hc hd hl45.2.2.2.2.2.2 (fun v0 v1 hv1 hv0 => ?_)
        obtain ⟨a7, a3, a4, ak, a8⟩ := hv0
        have fin2 : ∀ s0 : Int32, s0 = bI (! (act5 (N 0 k) (N 1 k) (N 2 k) A d).1) → qX3_run_b173 post (qX3_run_L47 post (100001 - (i + 1))) x4 (nI k) (nI i) s0 (gi u45 2) v0 v1 t := fun s0 hs0 u33 e33 z ez => by
          rw [nI_1] at ez
          subst ez
          refine go (k + 1) lp u33 v1 (by omega) (by rw [enx, elp]) (by omega) (fun _ w1 w2 w3 => ?_) hv1 ?_ ?_
          · have : N 4 (k + 1) = k := by omega
            rw [this] at w2
            omega
          · rw [e33, hl45.2.2.1, hs0]
            exact ⟨(ak 0 (by decide) (by decide) (by decide)).trans hl45.1, (ak 1 (by decide) (by decide) (by decide)).trans hl45.2.1, rfl, a3.trans (by rw [hl45.2.2.2.1]), a4.trans (by rw [hl45.2.2.2.2.1]), (ak 6 (by decide) (by decide) (by decide)).trans hl45.2.2.2.2.2.1, a7⟩
          · have e : ga u33 8 = ga ul 8 := by rw [e33]; exact a8.trans e845
            rw [e]
            exact en_next (M := M) (by omega) he
        rw [bI_0]
        refine ⟨fun w => fin2 1 (by rw [w]; rfl), fun w => fin2 0 ?_⟩
        have w' : (act5 (N 0 k) (N 1 k) (N 2 k) A d).1 = true := by cases z : (act5 (N 0 k) (N 1 k) (N 2 k) A d).1 with | true => rfl | false => exact absurd z w
        rw [w']
        rfl
      · have eact := act_else (a := N 1 k) (b := N 2 k) (A := A) (d := d) (show 6 ≤ N 0 k by omega)
        have go2 : ∀ (k1 : Nat) (lp1 : Nat → Nat) (v0 v1 : St), k1 ≤ n → beE N (n - k1) k1 lp1 = beE N (n - nxK N k A) (nxK N k A) (nxL N k lp) → N 0 k ≠ 6 → (k1 < n → N 0 k1 = 13 → N 0 (N 4 k1) = 7 → N 4 k1 + 1 ≠ k1) → CH v1 A → lfC v0 (dn + 1) d ms yr sp 0 → EnL N n k1 lp1 (ga v0 8) 1 → qX3_run_b180 post (qX3_run_L47 post (100001 - (i + 1))) x4 (nI k1) (nI i) v0 v1 t := fun k1 lp1 v0 v1 q1 q2 q3 q4 q5 q6 q7 => by
          refine go k1 lp1 v0 v1 q1 q2 q3 q4 (by rw [eact]; exact q5) ?_ q7
          rw [eact, show ms + bI (! (true, A, d, 0, 0).1) = ms from Int32.add_zero ms, show yr + nI (true, A, d, 0, 0).2.2.2.1 = yr from Int32.add_zero yr, show sp + nI (true, A, d, 0, 0).2.2.2.2 = sp from Int32.add_zero sp]
          exact q6
        unfold qX3_turnTo
        rw [ec, t1, show (6 : Int32) = nI 6 from rfl, show (7 : Int32) = nI 7 from rfl, nI_eq (by omega) (by omega), nI_eq (by omega) (by omega)]
        refine ⟨hin, fun c6 => ?_, fun c7 => ⟨hin, hin, fun u7 e7 => ⟨hin, ?_⟩⟩, fun c6 c7 => ?_⟩
        · intro z ez
          rw [nI_1] at ez
          subst ez
          rw [ht.1]
          have eR : runA N n (m + 1) k lp A d ms yr sp = (A, ms, yr, sp, m, false) := by rw [runA, if_neg (by omega), if_pos c6]
          rw [eR] at fin
          refine c_out hn ht.1 (by omega) (fin u45 u1 d hc ?_)
          rw [show 300 - (A, ms, yr, sp, m, false).2.2.2.2.1 = dn + 1 from by show 300 - m = dn + 1; omega]
          exact hl45
        · obtain ⟨b1, b2, b3, b4⟩ := tm_b hT c (Or.inl c7)
          have e1k : ga t 4 k = nI (N 1 k) := t2 (by omega) (by omega) (by omega)
          have e4k : ga t 7 k = nI (N 4 k) := t5 (Or.inl c7)
          have hN1 := (hT.2 k c).2.2.2.2.2.1 c7
          have hN99 := (hT.2 k c).2.1
          have enx : nxK N k A = k + 1 := if_neg (by omega)
          have elp : nxL N k lp = lpU lp k (N 1 k - 1) := if_pos c7
          rw [e1k, e845] at e7
          have l7' : lfC u7 (dn + 1) d ms yr sp 0 := by rw [e7]; exact hl45
          have g7 : ga u7 8 = upd (ga ul 8) k (nI (N 1 k)) := by rw [e7, ga_sw, if_pos rfl]
          rw [e4k, nI_1, nI_eq (by omega) (by omega)]
          refine ⟨fun w => go2 (k + 1) (lpU lp k (N 1 k - 1)) u7 u1 (by omega) (by rw [enx, elp]) (by omega) (fun _ w1 w2 w3 => ?_) hc l7' ?_, fun w => ?_⟩
          · have : N 4 (k + 1) = k := by omega
            have h4 := (tm_e hT (show k + 1 < n by omega) w1).2.2
            rw [this] at h4
            exact w h4
          · have := en_loop (v := N 1 k - 1) (off := 1) (by omega) he
            rw [show N 1 k - 1 + 1 = N 1 k by omega] at this
            rw [g7]
            exact this
          · rw [show nI k + 2 = nI (k + 2) from nI_add k 2]
            have h13 : N 0 (k + 1) = 13 := by rw [← w]; exact b3
            have h4k : N 4 (k + 1) = k := by rw [← w]; exact b4
            refine go2 (k + 2) (lpU lp k (N 1 k - 1)) u7 u1 (by omega) ?_ (by omega) (fun _ w1 w2 w3 => ?_) hc l7' ?_
            · rw [enx, elp, show n - (k + 1) = (n - (k + 2)) + 1 by omega]
              rw [beE, if_pos h13, if_neg (fun z => z.2.2 (by rw [h4k]))]
            · have : N 4 (k + 2) = k + 1 := by omega
              rw [this] at w2
              omega
            · rw [g7]
              exact en_skip h13 w he
        · have hw : 9 ≤ N 0 k ∧ N 0 k ≤ 12 := by omega
          obtain ⟨b1, b2, b3, b4⟩ := tm_b hT c (Or.inr hw)
          have e4k : ga t 7 k = nI (N 4 k) := t5 (Or.inr (by omega))
          have elp : nxL N k lp = lp := if_neg (by omega)
          have he45 : EnL N n k lp (ga u45 8) 1 := by rw [e845]; exact he
          refine r_isSo (by omega) (tm_cnd hT c h0 h1 hw) t1 (t2 (by omega) (by omega) (by omega)) (fun q => t3 (by omega)) t4 ok hc ?_
          rw [bI_0]
          refine ⟨fun w => ⟨hin, ?_⟩, fun w => ?_⟩
          · rw [e4k]
            unfold qX3_turnTo_b94
            rw [nI_1]
            have enx : nxK N k A = N 4 k + 1 := if_pos ⟨hw.1, w⟩
            refine go2 (N 4 k + 1) lp u45 u1 (by omega) (by rw [enx, elp]) (by omega) (fun _ w1 w2 w3 => ?_) hc hl45 (en_when hT c hw he45)
            have : N 4 (N 4 k + 1) = N 4 k := by omega
            rw [this] at w2
            omega
          · unfold qX3_turnTo_b94
            rw [nI_1]
            have enx : nxK N k A = k + 1 := if_neg (fun z => w z.2)
            refine go2 (k + 1) lp u45 u1 (by omega) (by rw [enx, elp]) (by omega) (fun _ w1 w2 w3 => ?_) hc hl45 (en_next (M := M) (by omega) he45)
            have : N 4 (k + 1) = k := by omega
            rw [this] at w2
            omega
    · have ek : k = n := by omega
      subst ek
      have eR : runA N k (m + 1) k lp A d ms yr sp = (A, ms, yr, sp, m + 1, false) := by rw [runA, if_pos (Nat.le_refl _)]
      rw [eR] at fin
      refine c_out hn ht.1 (by omega) (fin ul u1 d hc ?_)
      rw [show 300 - (A, ms, yr, sp, m + 1, false).2.2.2.2.1 = dn from by show 300 - (m + 1) = dn; omega]
      exact hl
/-- the class lives -/
theorem r_run {M N : MH} {n seed : Nat} {u0 u1 t : St} {post : St → St → St → Prop} (hT : okT M N n) (ht : tmC t N n) (ok : okH M) (st : setl M) (h : CH u1 M) (hs : seed < 65536) (fin : ∀ ul' u1' d', CH u1' (runA N n 300 0 (fun _ => 0) M seed 0 0 0).1 → lfC ul' (300 - (runA N n 300 0 (fun _ => 0) M seed 0 0 0).2.2.2.2.1) d' (runA N n 300 0 (fun _ => 0) M seed 0 0 0).2.1 (runA N n 300 0 (fun _ => 0) M seed 0 0 0).2.2.1 (runA N n 300 0 (fun _ => 0) M seed 0 0 0).2.2.2.1 (bI (runA N n 300 0 (fun _ => 0) M seed 0 0 0).2.2.2.2.2) → qX3_run_b186 post (nI (M 5 0)) ul' u1' t) : qX3_run (nI seed) u0 u1 t post := by
  intro a1 e1 a2 e2 a3 e3 a4 e4 a5 e5 a6 e6 a7 e7 x ex
  rw [ch_k h (by omega)] at ex
  subst ex
  have h0 : 0 < n → N 0 0 ≠ 13 := fun hn q => by
    have := (tm_e hT hn q).1
    omega
  refine ⟨100001, c_run hT ht 300 0 (fun _ => 0) M seed 0 0 0 0 0 a7 u1 rfl (Nat.zero_le _) h0 (by omega) ok st rfl rfl hs h ?_ (fun o _ _ h3 => absurd h3 (by omega)) fin⟩
  rw [e7, e6, e5, e4, e3, e2, e1]
  exact ⟨rfl, rfl, rfl, rfl, rfl, rfl, rfl⟩
