/-! STEPS 29: life, the reference's way -/
def tmA (a : Nat → Int32) (N : MH) (n : Nat) : Prop := a 7 = nI n ∧ ∀ i, i < n → (∃ k1, kR (N 0 i) k1 ∧ a (88 + 6 * i) = nI k1) ∧ (N 0 i ≤ 12 → N 0 i ≠ 5 → N 0 i ≠ 6 → a (89 + 6 * i) = nI (N 1 i)) ∧ (N 0 i = 2 ∨ N 0 i = 4 ∨ N 0 i = 11 ∨ N 0 i = 12 → a (90 + 6 * i) = nI (N 2 i)) ∧ (N 0 i = 11 ∨ N 0 i = 12 → a (93 + 6 * i) = nI (N 3 i)) ∧ (N 0 i = 7 ∨ (9 ≤ N 0 i ∧ N 0 i ≤ 13) → a (92 + 6 * i) = nI (N 4 i))
theorem tmA_congr {a a1 : Nat → Int32} {N : MH} {n : Nat} (hn : n ≤ 60) (h7 : a1 7 = a 7) (hc : ∀ j, 88 ≤ j → j < 3072 → a1 j = a j) (h : tmA a N n) : tmA a1 N n := by
  refine ⟨h7.trans h.1, fun i hi => ?_⟩
  rw [hc (88 + 6 * i) (by omega) (by omega), hc (89 + 6 * i) (by omega) (by omega), hc (90 + 6 * i) (by omega) (by omega), hc (93 + 6 * i) (by omega) (by omega), hc (92 + 6 * i) (by omega) (by omega)]
  exact h.2 i hi
theorem i_88 (k : Nat) : (88 : Int32) + 6 * nI k = nI (88 + 6 * k) := by rw [show (6 : Int32) = nI 6 from rfl, show (88 : Int32) = nI 88 from rfl, pk_mul, nI_add]
theorem upd_self (g : Nat → Int32) (o : Nat) : upd g o (g o) = g := by
  funext j
  rw [upd_at]
  split
  · rename_i c; rw [c]
  · rfl
theorem kR_lt {k k1 : Nat} (h : kR k k1) : k1 ≤ 1924 ∧ (k1 = 21 ↔ k = 13) ∧ (k1 = 20 ↔ k = 7) ∧ (k1 = 22 ↔ k = 6) ∧ (k1 < 1900 ↔ ¬ (9 ≤ k ∧ k ≤ 12)) := by
  unfold kR at h
  omega
theorem upd_upd (g : Nat → Int32) (o : Nat) (x y : Int32) : upd (upd g o x) o y = upd g o y := by
  funext j
  rw [upd_at, upd_at, upd_at]
  split <;> rfl
theorem m_ends {M N : MH} {n : Nat} {u : St} {post : Int32 → St → Prop} (hT : okT M N n) (ht : tmA (ga u 0) N n) : ∀ (m k : Nat) (lp : Nat → Nat) (g : Nat → Int32), k + m = n → EnL N n k lp g 0 → (∀ g', EnL N n (beE N m k lp).1 (beE N m k lp).2 g' 0 → post (nI (beE N m k lp).1) (sw u 35 g')) → ∃ f, qX12_behindEnds_L2 post f (nI k) (sw u 35 g) := by
  have hn := hT.1
  have e7 : ∀ g, ga (sw u 35 g) 0 (7 : Int32).toNatClampNeg = nI n := fun g => ht.1
  have e0 : ∀ g, ga (sw u 35 g) 0 = ga u 0 := fun g => rfl
  intro m
  induction m with
  | zero =>
    intro k lp g hk he fin
    have ek : k = n := by omega
    subst ek
    exact ⟨1, fun _ => fin g he, fun c => absurd (by rw [e7]; exact nI_le (by omega) (by omega)) c⟩
  | succ m ih =>
    intro k lp g hk he fin
    have hkn : k < n := by omega
    obtain ⟨⟨k1, r1, t1⟩, -, -, -, t5⟩ := ht.2 k hkn
    have q1 := kR_lt r1
    rw [beE] at fin
    have E4 : nI (88 + 6 * k) + 4 = nI (92 + 6 * k) := (nI_add _ 4).trans (by rw [show 88 + 6 * k + 4 = 92 + 6 * k by omega])
    by_cases c : N 0 k = 13
    · rw [if_pos c] at fin
      obtain ⟨b1, b2, b3⟩ := tm_e hT hkn c
      have ho : N 4 k < n := by omega
      obtain ⟨⟨k2, r2, t2⟩, -⟩ := ht.2 (N 4 k) ho
      have q2 := kR_lt r2
      have e92 : ga u 0 (92 + 6 * k) = nI (N 4 k) := t5 (Or.inr (by omega))
      have hino : vp_in (nI (N 4 k)) 80 := vp_in_nI (by omega) (by omega)
      have eo : (nI (N 4 k)).toNatClampNeg = N 4 k := nI_clamp (by omega)
      have step : ∀ (f : Nat) (g1 : Nat → Int32), ((¬ nI k2 = 20 → qX12_behindEnds_b75 post (qX12_behindEnds_L2 post f) (nI k) (nI (N 4 k)) (sw u 35 g1)) ∧ (nI k2 = 20 → (vp_in (nI (N 4 k)) 80 ∧ ((g1 (N 4 k) ≤ 0 → qX12_behindEnds_b75 post (qX12_behindEnds_L2 post f) (nI k) (nI (N 4 k)) (sw u 35 g1)) ∧ (¬ g1 (N 4 k) ≤ 0 → qX12_behindEnds_b76 post (qX12_behindEnds_L2 post f) (nI k) (nI (N 4 k)) (1 : Int32) (sw u 35 g1)))))) → qX12_behindEnds_L2 post (f + 1) (nI k) (sw u 35 g1) := fun f g1 q => by
        refine ⟨fun w => absurd w (by rw [e7]; exact nI_ge (by omega) (by omega)), fun _ => ?_⟩
        rw [i_88, E4, nI_clamp (n := 88 + 6 * k) (by omega), nI_clamp (n := 92 + 6 * k) (by omega), e0, t1, show (21 : Int32) = nI 21 from rfl, nI_eq (by omega) (by omega), e92]
        refine ⟨vp_in_nI (by omega) (by omega), fun w => absurd (q1.2.1.mpr c) w, fun _ => ⟨vp_in_nI (by omega) (by omega), fun x ex => ?_⟩⟩
        subst ex
        rw [i_88, nI_clamp (n := 88 + 6 * N 4 k) (by omega), t2, eo]
        exact ⟨vp_in_nI (by omega) (by omega), q⟩
      have b75 : ∀ (f : Nat) (g1 : Nat → Int32), qX12_behindEnds_L2 post f (nI (k + 1)) (sw u 35 g1) → qX12_behindEnds_b75 post (qX12_behindEnds_L2 post f) (nI k) (nI (N 4 k)) (sw u 35 g1) := fun f g1 q => by
        refine ⟨hino, fun _ => ⟨hino, fun v ev => ⟨fun _ => ?_, fun w => absurd rfl w⟩⟩, fun w => absurd rfl w⟩
        rw [eo, ga_sw, if_pos rfl, Int32.sub_zero, upd_self, sw_sw] at ev
        unfold qX12_behindEnds_b111
        rw [ev, nI_1]
        exact q
      have b76 : ∀ (f v : Nat) (g1 : Nat → Int32), g1 (N 4 k) = nI (v + 1) → qX12_behindEnds_L2 post f (nI (N 4 k + 1)) (sw u 35 (upd g1 (N 4 k) (nI v))) → qX12_behindEnds_b76 post (qX12_behindEnds_L2 post f) (nI k) (nI (N 4 k)) (1 : Int32) (sw u 35 g1) := fun f v g1 hv q => by
        refine ⟨hino, fun w => absurd w (by decide), fun _ => ⟨hino, fun v1 ev => ⟨fun w => absurd w (by decide), fun _ => ?_⟩⟩⟩
        rw [eo, ga_sw, if_pos rfl, hv, nI_pred, sw_sw] at ev
        unfold qX12_behindEnds_b111
        rw [ev, nI_1]
        exact q
      have n20 : nI k2 = 20 ↔ N 0 (N 4 k) = 7 := by rw [show (20 : Int32) = nI 20 from rfl, nI_eq (by omega) (by omega)]; exact q2.2.2.1
      by_cases c7 : N 0 (N 4 k) = 7
      · obtain ⟨g1, g2⟩ := he (N 4 k) ho c7 b1 (by omega)
        rw [Nat.add_zero] at g1
        -- the loop is over, or holds nothing
        have onw : ∀ x, (¬ (N 0 (N 4 k) = 7 ∧ lp (N 4 k) ≠ 0 ∧ N 4 k + 1 ≠ k)) → ∃ f, qX12_behindEnds_L2 post f (nI (k + 1)) (sw u 35 (upd g (N 4 k) x)) := fun x hc => by
          rw [if_neg hc] at fin
          refine ih (k + 1) lp _ (by omega) (fun o h1 h2 h3 h4 => ?_) fin
          have hok : o ≠ k := fun z => by rw [z] at h2; omega
          have hoo : o ≠ N 4 k := fun z => by
            rw [z, b3] at h4
            omega
          rw [upd_at, if_neg hoo]
          exact he o h1 h2 (by omega) (by omega)
        have z0 : ∀ g1 : Nat → Int32, g1 (N 4 k) = 0 → ∀ f, qX12_behindEnds_L2 post f (nI (k + 1)) (sw u 35 g1) → qX12_behindEnds_L2 post (f + 1) (nI k) (sw u 35 g1) := fun g1 hg f q => step f g1 ⟨fun w => absurd (n20.mpr c7) w, fun _ => ⟨hino, fun _ => b75 f g1 q, fun w => absurd (by rw [hg]; decide) w⟩⟩
        by_cases l0 : lp (N 4 k) = 0
        · obtain ⟨f, hf⟩ := onw (g (N 4 k)) (fun z => z.2.1 l0)
          rw [upd_self] at hf
          exact ⟨f + 1, z0 g (by rw [g1, l0]; rfl) f hf⟩
        · by_cases em : N 4 k + 1 = k
          · -- an empty loop goes round
            obtain ⟨f, hf⟩ := onw 0 (fun z => z.2.2 em)
            have rnd : ∀ v, v ≤ 98 → ∃ f, qX12_behindEnds_L2 post f (nI k) (sw u 35 (upd g (N 4 k) (nI v))) := by
              intro v
              induction v with
              | zero => intro _; exact ⟨f + 1, z0 _ (by rw [upd_at, if_pos rfl]; rfl) f hf⟩
              | succ v ihv =>
                intro hv
                obtain ⟨f2, hf2⟩ := ihv (by omega)
                refine ⟨f2 + 1, step f2 _ ⟨fun w => absurd (n20.mpr c7) w, fun _ => ⟨hino, fun w => absurd w (by rw [upd_at, if_pos rfl]; exact nI_nle (by omega) (by omega)), fun _ => b76 f2 v _ (by rw [upd_at, if_pos rfl]) ?_⟩⟩⟩
                rw [upd_upd, em]
                exact hf2
            have := rnd (lp (N 4 k)) g2
            rw [← g1, upd_self] at this
            exact this
          · have hc : N 0 (N 4 k) = 7 ∧ lp (N 4 k) ≠ 0 ∧ N 4 k + 1 ≠ k := ⟨c7, l0, em⟩
            rw [if_pos hc] at fin
            have hin := tm_in hT hkn c em
            obtain ⟨⟨k3, r3, t3⟩, -⟩ := ht.2 (N 4 k + 1) (by omega)
            have q3 := kR_lt r3
            refine ⟨2, step 1 g ⟨fun w => absurd (n20.mpr c7) w, fun _ => ⟨hino, fun w => absurd w (by rw [g1]; exact nI_nle (by omega) (by omega)), fun _ => b76 1 (lp (N 4 k) - 1) g (by rw [g1, show lp (N 4 k) - 1 + 1 = lp (N 4 k) by omega]) ?_⟩⟩⟩
            refine ⟨fun w => absurd w (by rw [e7]; exact nI_ge (by omega) (by omega)), fun _ => ?_⟩
            rw [i_88, nI_clamp (n := 88 + 6 * (N 4 k + 1)) (by omega), e0, t3, show (21 : Int32) = nI 21 from rfl, nI_eq (by omega) (by omega)]
            refine ⟨vp_in_nI (by omega) (by omega), fun _ => fin _ ?_, fun w => absurd (q3.2.1.mp w) hin⟩
            have := en_back (v := lp (N 4 k) - 1) (off := 0) hT hkn c (by omega) he
            rw [Nat.add_zero] at this
            exact this
      · rw [if_neg (fun z => c7 z.1)] at fin
        obtain ⟨f, hf⟩ := ih (k + 1) lp g (by omega) (en_next (M := M) (by omega) he) fin
        exact ⟨f + 1, step f g ⟨fun _ => b75 f g hf, fun w => absurd (n20.mp w) c7⟩⟩
    · rw [if_neg c] at fin
      refine ⟨1, fun w => absurd w (by rw [e7]; exact nI_ge (by omega) (by omega)), fun _ => ?_⟩
      rw [i_88, nI_clamp (n := 88 + 6 * k) (by omega), e0, t1, show (21 : Int32) = nI 21 from rfl, nI_eq (by omega) (by omega)]
      exact ⟨vp_in_nI (by omega) (by omega), fun _ => fin g he, fun w => absurd (q1.2.1.mp w) c⟩
/-- the reference's life at hand -/
def lfM (u : St) (dn d : Nat) (ms yr sp f lf : Int32) : Prop := gi u 34 = nI dn ∧ gi u 33 = nI d ∧ ga u 36 0 = ms ∧ ga u 36 1 = yr ∧ ga u 36 2 = sp ∧ ga u 36 3 = f ∧ ga u 36 4 = lf
/-- beside a life all is as it was -/
def FrL (u u' : St) : Prop := mKeep u u' ∧ (∀ j, 88 ≤ j → j < 3072 → ga u' 0 j = ga u 0 j) ∧ ga u' 0 7 = ga u 0 7
theorem FrL.trans {a b c : St} (h : FrL a b) (q : FrL b c) : FrL a c := ⟨h.1.trans q.1, fun j h1 h2 => (q.2.1 j h1 h2).trans (h.2.1 j h1 h2), q.2.2.trans h.2.2⟩
theorem FrL.rfl {a : St} : FrL a a := ⟨mSame.rfl.1, fun _ _ _ => _root_.rfl, _root_.rfl⟩
theorem m_runL {M N : MH} {n : Nat} {c : Int32} {u00 : St} {post : St → Prop} (hT : okT M N n) (ht : tmA (ga u00 0) N n) : ∀ (m k : Nat) (lp : Nat → Nat) (A : MH) (d : Nat) (ms yr sp : Int32) (dn : Nat) (u : St), dn + m = 300 → k ≤ n → (k < n → N 0 k ≠ 13) → okH A → setl A → A 0 0 = M 0 0 → A 1 0 = M 1 0 → d < 65536 → MC u A → FrL u00 u → lfM u dn d ms yr sp (nI (pc (A 5 0)) - c) 0 → EnL N n k lp (ga u 35) 0 → (∀ u' d', MC u' (runA N n m k lp A d ms yr sp).1 → FrL u00 u' → lfM u' (300 - (runA N n m k lp A d ms yr sp).2.2.2.2.1) d' (runA N n m k lp A d ms yr sp).2.1 (runA N n m k lp A d ms yr sp).2.2.1 (runA N n m k lp A d ms yr sp).2.2.2.1 (nI (pc ((runA N n m k lp A d ms yr sp).1 5 0)) - c) (bI (runA N n m k lp A d ms yr sp).2.2.2.2.2) → post u') → qX12_lives_L32 post (m + 1) (nI k) u := by
  have hn := hT.1
  intro m
  induction m with
  | zero =>
    intro k lp A d ms yr sp dn u hdn hkn hk13 ok st h0 h1 hd hm fr hl he fin
    have edn : dn = 300 := by omega
    have htu := tmA_congr hn fr.2.2 fr.2.1 ht
    have e7 : ga u 0 (7 : Int32).toNatClampNeg = nI n := htu.1
    obtain ⟨l34, l33, l0, l1, l2, l3, l4⟩ := hl
    by_cases cc : k < n
    · have eR : runA N n 0 k lp A d ms yr sp = (A, ms, yr, sp, 0, true) := by
        show (A, ms, yr, sp, 0, decide (k < n)) = _
        rw [decide_eq_true cc]
      rw [eR] at fin
      refine ⟨fun w => absurd w (by rw [e7]; exact nI_ge cc (by omega)), fun _ => ⟨fun w => absurd (by rw [l34, edn]; rfl) w, fun _ v ev => ?_⟩⟩
      rw [ev]
      refine fin _ d hm ⟨fr.1, fr.2.1, fr.2.2⟩ ⟨l34.trans (congrArg nI edn), l33, ?_, ?_, ?_, ?_, ?_⟩
      · exact l0
      · exact l1
      · exact l2
      · exact l3
      · rfl
    · have ek : k = n := by omega
      subst ek
      have eR : runA N k 0 k lp A d ms yr sp = (A, ms, yr, sp, 0, false) := by
        show (A, ms, yr, sp, 0, decide (k < k)) = _
        rw [decide_eq_false cc]
      rw [eR] at fin
      exact ⟨fun _ => fin u d hm fr ⟨l34.trans (congrArg nI edn), l33, l0, l1, l2, l3, l4⟩, fun w => absurd (by rw [e7]; exact nI_le (by omega) (by omega)) w⟩
  | succ m ih =>
    intro k lp A d ms yr sp dn u hdn hkn hk13 ok st h0 h1 hd hm fr hl he fin
    have htu := tmA_congr hn fr.2.2 fr.2.1 ht
    have e7 : ga u 0 (7 : Int32).toNatClampNeg = nI n := htu.1
    obtain ⟨l34, l33, l0, l1, l2, l3, l4⟩ := hl
    by_cases cc : k < n
    · have hk := hk13 cc
      obtain ⟨hkk, hk8⟩ := tm_k hT cc
      obtain ⟨⟨k1, r1, t1⟩, t2, t3, t4, t5⟩ := htu.2 k cc
      have q1 := kR_lt r1
      have ho := tm_act hT cc h0 h1
      obtain ⟨hB, hdd⟩ := act_B (k := N 0 k) (a := N 1 k) (b := N 2 k) ok st hd ho
      refine ⟨fun w => absurd w (by rw [e7]; exact nI_ge cc (by omega)), fun _ => ⟨fun _ x ex v ev => ?_, fun w => ?_⟩⟩
      · rw [i_88] at ex
        subst ex
        rw [l34, nI_1] at ev
        have ec : (nI (88 + 6 * k)).toNatClampNeg = 88 + 6 * k := nI_clamp (by omega)
        have hin : vp_in (nI (88 + 6 * k)) 3072 := vp_in_nI (by omega) (by omega)
        have mv : MC v A := by rw [ev]; exact hm
        have frv : FrL u00 v := by rw [ev]; exact ⟨fr.1, fr.2.1, fr.2.2⟩
        have gv : ga v 0 = ga u 0 := by rw [ev]; rfl
        have gv36 : ga v 36 = ga u 36 := by rw [ev]; rfl
        have gv35 : ga v 35 = ga u 35 := by rw [ev]; rfl
        have v34 : gi v 34 = nI (dn + 1) := by rw [ev]; rfl
        have v33 : gi v 33 = nI d := by rw [ev]; exact l33
        rw [ec, gv, t1, show (22 : Int32) = nI 22 from rfl, nI_eq (by omega) (by omega)]
        refine ⟨hin, fun c22 => ?_, fun c22 => ?_⟩
        · have c6 : N 0 k ≠ 6 := fun z => c22 (q1.2.2.2.1.mpr z)
          have eR : runA N n (m + 1) k lp A d ms yr sp = runA N n m (beE N (n - nxK N k A) (nxK N k A) (nxL N k lp)).1 (beE N (n - nxK N k A) (nxK N k A) (nxL N k lp)).2 (act5 (N 0 k) (N 1 k) (N 2 k) A d).2.1 (act5 (N 0 k) (N 1 k) (N 2 k) A d).2.2.1 (ms + bI (! (act5 (N 0 k) (N 1 k) (N 2 k) A d).1)) (yr + nI (act5 (N 0 k) (N 1 k) (N 2 k) A d).2.2.2.1) (sp + nI (act5 (N 0 k) (N 1 k) (N 2 k) A d).2.2.2.2) := by
            rw [runA, if_neg (by omega), if_neg c6]
          rw [eR] at fin
          refine m_does (kd := N 0 k) (a := N 1 k) (b := N 2 k) (by omega) r1 c6 hk (by rw [gv]; exact t1) (fun z => by rw [gv]; exact t2 (by omega) (by omega) (by omega)) (fun z => by rw [gv]; exact t3 (by omega)) ho ok mv hd v33 (fun v1 mv1 lm => ?_)
          obtain ⟨a33, a1, a2, a3, a0, a4, a34, a35, ak, ac, a7⟩ := lm
          have fr1 : FrL u00 v1 := frv.trans ⟨ak, ac, a7⟩
          have g1c : ∀ j, 88 ≤ j → j < 3072 → ga v1 0 j = ga u 0 j := fun j w1 w2 => by rw [ac j w1 w2, gv]
          have b111 : ∀ s0 : Int32, s0 = bI (! (act5 (N 0 k) (N 1 k) (N 2 k) A d).1) → qX12_lives_b111 post (qX12_lives_L32 post (m + 1)) (nI k) (nI (88 + 6 * k)) s0 (ga v 36 (0 : Int32).toNatClampNeg) 0 v1 := fun s0 hs0 => by
            refine ⟨vp_in_nI (n := 0) (by omega) (by omega), fun v2 e2 => ⟨hin, ?_⟩⟩
            have e2' : v2 = sw v1 36 (upd (ga v1 36) 0 (ms + s0)) := by
              rw [e2, show ga v 36 (0 : Int32).toNatClampNeg = ms from by rw [gv36]; exact l0]
              rfl
            have g0 : ga v2 0 = ga v1 0 := by rw [e2']; rfl
            have g35 : ga v2 35 = ga u 35 := by rw [e2']; exact a35.trans gv35
            have mv2 : MC v2 (act5 (N 0 k) (N 1 k) (N 2 k) A d).2.1 := by rw [e2']; exact mv1
            have fr2 : FrL u00 v2 := by rw [e2']; exact ⟨fr1.1, fr1.2.1, fr1.2.2⟩
            have lf2 : lfM v2 (dn + 1) (act5 (N 0 k) (N 1 k) (N 2 k) A d).2.2.1 (ms + bI (! (act5 (N 0 k) (N 1 k) (N 2 k) A d).1)) (yr + nI (act5 (N 0 k) (N 1 k) (N 2 k) A d).2.2.2.1) (sp + nI (act5 (N 0 k) (N 1 k) (N 2 k) A d).2.2.2.2) (nI (pc ((act5 (N 0 k) (N 1 k) (N 2 k) A d).2.1 5 0)) - c) 0 := by
              rw [gv36] at a0 a1 a2 a3 a4
              refine ⟨?_, ?_, ?_, ?_, ?_, ?_, ?_⟩
              · rw [e2']; exact a34.trans v34
              · rw [e2']; exact a33
              · rw [e2', hs0, ga_sw, if_pos rfl, upd_at, if_pos rfl]
              · rw [e2', ga_sw, if_pos rfl, upd_at, if_neg (by decide), a1, l1]
              · rw [e2', ga_sw, if_pos rfl, upd_at, if_neg (by decide), a2, l2]
              · rw [e2', ga_sw, if_pos rfl, upd_at, if_neg (by decide), a3, l3, i_tel]
              · rw [e2', ga_sw, if_pos rfl, upd_at, if_neg (by decide), a4, l4]
            -- behind the ends, on
            have on : ∀ (lp1 : Nat → Nat) (g : Nat → Int32), nxL N k lp = lp1 → nxK N k A ≤ n → EnL N n (nxK N k A) lp1 g 0 → qX12_behindEnds (nI (nxK N k A)) (sw v2 35 g) (fun r_20 u_19 => qX12_lives_L32 post (m + 1) r_20 u_19) := fun lp1 g hlp hkn1 heg => by
              subst hlp
              refine m_ends (u := v2) hT (tmA_congr hn fr2.2.2 fr2.2.1 ht) (n - nxK N k A) (nxK N k A) (nxL N k lp) g (by omega) heg (fun g' hg' => ?_)
              obtain ⟨p1, p2⟩ := be_place hT (n - nxK N k A) (nxK N k A) (nxL N k lp) (by omega)
              exact ih _ _ _ _ _ _ _ (dn + 1) (sw v2 35 g') (by omega) p1 p2 hB.1 hB.2.1 (hB.2.2.1.trans h0) (hB.2.2.2.1.trans h1) hdd mv2 ⟨fr2.1, fr2.2.1, fr2.2.2⟩ lf2 hg' fin
            have cell : ga v2 0 (88 + 6 * k) = nI k1 := by rw [g0, g1c _ (by omega) (by omega)]; exact t1
            have nK9 : N 0 k < 9 → nxK N k A = k + 1 := fun z => if_neg (by omega)
            rw [ec, cell, show (20 : Int32) = nI 20 from rfl, nI_eq (by omega) (by omega)]
            refine ⟨fun c20 => ⟨hin, ?_⟩, fun c20 => ?_⟩
            · have c7 : N 0 k ≠ 7 := fun z => c20 (q1.2.2.1.mpr z)
              have elp : nxL N k lp = lp := if_neg c7
              have he2 : EnL N n k lp (ga v2 35) 0 := by rw [g35]; exact he
              rw [ec, cell, show (1900 : Int32) = nI 1900 from rfl, nI_ltI (by omega) (by omega)]
              refine ⟨fun c19 => ?_, fun c19 => ?_⟩
              · have w9 : ¬ (9 ≤ N 0 k ∧ N 0 k ≤ 12) := q1.2.2.2.2.mp c19
                have enx := nK9 (by omega)
                have := on lp (ga v2 35) elp (by omega) (by rw [enx]; exact en_next (M := M) c7 he2)
                rw [sw_same, enx, ← nI_1] at this
                exact this
              · have hw : 9 ≤ N 0 k ∧ N 0 k ≤ 12 := Classical.byContradiction (fun z => c19 (q1.2.2.2.2.mpr z))
                obtain ⟨b1, b2, b3, b4⟩ := tm_b hT cc (Or.inr hw)
                have eact := act_else (a := N 1 k) (b := N 2 k) (A := A) (d := d) (show 6 ≤ N 0 k by omega)
                have mvA : MC v2 A := by rw [eact] at mv2; exact mv2
                have cl : ∀ j, 88 ≤ j → j < 3072 → ga v2 0 j = ga u 0 j := fun j w1 w2 => by rw [g0, g1c j w1 w2]
                refine m_holds (kd := N 0 k) (a := N 1 k) (b := N 2 k) (c := N 3 k) (by omega) (tm_cnd hT cc h0 h1 hw) r1 cell (by rw [cl _ (by omega) (by omega)]; exact t2 (by omega) (by omega) (by omega)) (fun z => by rw [cl _ (by omega) (by omega)]; exact t3 (by omega)) (fun z => by rw [cl _ (by omega) (by omega)]; exact t4 z) ok st mvA ?_
                rw [bI_0]
                refine ⟨fun w => ?_, fun w => ?_⟩
                · have enx : nxK N k A = k + 1 := if_neg (fun z => w z.2)
                  have := on lp (ga v2 35) elp (by omega) (by rw [enx]; exact en_next (M := M) c7 he2)
                  rw [sw_same, enx, ← nI_1] at this
                  exact this
                · have enx : nxK N k A = N 4 k + 1 := if_pos ⟨hw.1, w⟩
                  have E4 : nI (88 + 6 * k) + 4 = nI (92 + 6 * k) := (nI_add _ 4).trans (by rw [show 88 + 6 * k + 4 = 92 + 6 * k by omega])
                  have := on lp (ga v2 35) elp (by omega) (by rw [enx]; exact en_when hT cc hw he2)
                  rw [sw_same, enx, ← nI_1] at this
                  rw [E4, nI_clamp (by omega), cl _ (by omega) (by omega), t5 (Or.inr (by omega))]
                  exact ⟨vp_in_nI (by omega) (by omega), this⟩
            · have c7 : N 0 k = 7 := q1.2.2.1.mp c20
              have E1 : nI (88 + 6 * k) + 1 = nI (89 + 6 * k) := (nI_add _ 1).trans (by rw [show 88 + 6 * k + 1 = 89 + 6 * k by omega])
              have hN1 := (hT.2 k cc).2.2.2.2.2.1 c7
              have hN99 := (hT.2 k cc).2.1
              have e89 : ga v2 0 (89 + 6 * k) = nI (N 1 k) := by rw [g0, g1c _ (by omega) (by omega)]; exact t2 (by omega) (by omega) (by omega)
              have elp : nxL N k lp = lpU lp k (N 1 k - 1) := if_pos c7
              have enx := nK9 (by omega)
              refine ⟨by rw [E1]; exact vp_in_nI (by omega) (by omega), vp_in_nI (by omega) (by omega), fun v3 e3 => ⟨hin, ?_⟩⟩
              rw [E1, nI_clamp (n := 89 + 6 * k) (by omega), nI_clamp (n := k) (by omega), e89, show nI (N 1 k) - 1 = nI (N 1 k - 1) from pk_sub (b := 1) (by omega)] at e3
              have := on (lpU lp k (N 1 k - 1)) (upd (ga v2 35) k (nI (N 1 k - 1))) elp (by omega) (by
                rw [enx]
                have := en_loop (v := N 1 k - 1) (off := 0) (by omega) (show EnL N n k lp (ga v2 35) 0 by rw [g35]; exact he)
                rw [Nat.add_zero] at this
                exact this)
              rw [← e3, enx, ← nI_1] at this
              rw [ec, show ga v3 0 = ga v2 0 from by rw [e3]; rfl, cell, show (1900 : Int32) = nI 1900 from rfl, nI_ltI (by omega) (by omega)]
              exact ⟨fun _ => this, fun w => absurd (by omega) w⟩
          rw [bI_0]
          refine ⟨fun w => b111 1 (by rw [w]; rfl), fun w => b111 0 ?_⟩
          have w' : (act5 (N 0 k) (N 1 k) (N 2 k) A d).1 = true := by cases z : (act5 (N 0 k) (N 1 k) (N 2 k) A d).1 with | true => rfl | false => exact absurd z w
          rw [w']
          rfl
        · have c6 : N 0 k = 6 := q1.2.2.2.1.mp c22
          have eR : runA N n (m + 1) k lp A d ms yr sp = (A, ms, yr, sp, m, false) := by rw [runA, if_neg (by omega), if_pos c6]
          rw [eR] at fin
          refine fin v d mv frv ⟨v34.trans (congrArg nI (show dn + 1 = 300 - m by omega)), v33, ?_, ?_, ?_, ?_, ?_⟩
          · rw [gv36]; exact l0
          · rw [gv36]; exact l1
          · rw [gv36]; exact l2
          · rw [gv36]; exact l3
          · rw [gv36]; exact l4
      · rw [l34, show (300 : Int32) = nI 300 from rfl, nI_eq (by omega) (by omega)] at w
        omega
    · have ek : k = n := by omega
      subst ek
      have eR : runA N k (m + 1) k lp A d ms yr sp = (A, ms, yr, sp, m + 1, false) := by rw [runA, if_pos (Nat.le_refl _)]
      rw [eR] at fin
      exact ⟨fun _ => fin u d hm fr ⟨l34.trans (congrArg nI (show dn = 300 - (m + 1) by omega)), l33, l0, l1, l2, l3, l4⟩, fun w => absurd (by rw [e7]; exact nI_le (by omega) (by omega)) w⟩
