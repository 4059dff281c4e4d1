/-! STEPS 47: the class reads a step; all the times -/
theorem c_stepNow {T : Nat → Nat} {n : Nat} {t : Tk} {u0 u u1 : St} {post : Int32 → St → St → St → Prop} (ht : tC u T n t) (h1 : kN (wdT T t) ≠ 99 → post (nI (kN (wdT T t))) u0 u u1) (h0 : kN (wdT T t) = 99 → post (-1) u0 u u1) : qX6_stepNow u0 u u1 post := by
  unfold kN at h1 h0
  refine r_isAt (w := 13) (by omega) ht.1 ht.2 (fun c => ⟨fun z => absurd z (by decide), fun _ => ?_⟩) (fun c => ⟨fun _ => ?_, fun z => absurd rfl z⟩)
  · rw [if_pos (show wdT T t = nI 13 from c)] at h1
    exact h1 (by omega)
  rw [if_neg (show ¬ wdT T t = nI 13 from c)] at h1 h0
  refine r_isAt (w := 14) (by omega) ht.1 ht.2 (fun c => ⟨fun z => absurd z (by decide), fun _ => ?_⟩) (fun c => ⟨fun _ => ?_, fun z => absurd rfl z⟩)
  · rw [if_pos (show wdT T t = nI 14 from c)] at h1
    exact h1 (by omega)
  rw [if_neg (show ¬ wdT T t = nI 14 from c)] at h1 h0
  refine r_isAt (w := 15) (by omega) ht.1 ht.2 (fun c => ⟨fun z => absurd z (by decide), fun _ => ?_⟩) (fun c => ⟨fun _ => ?_, fun z => absurd rfl z⟩)
  · rw [if_pos (show wdT T t = nI 15 from c)] at h1
    exact h1 (by omega)
  rw [if_neg (show ¬ wdT T t = nI 15 from c)] at h1 h0
  refine r_isAt (w := 16) (by omega) ht.1 ht.2 (fun c => ⟨fun z => absurd z (by decide), fun _ => ?_⟩) (fun c => ⟨fun _ => ?_, fun z => absurd rfl z⟩)
  · rw [if_pos (show wdT T t = nI 16 from c)] at h1
    exact h1 (by omega)
  rw [if_neg (show ¬ wdT T t = nI 16 from c)] at h1 h0
  refine r_isAt (w := 17) (by omega) ht.1 ht.2 (fun c => ⟨fun z => absurd z (by decide), fun _ => ?_⟩) (fun c => ⟨fun _ => ?_, fun z => absurd rfl z⟩)
  · rw [if_pos (show wdT T t = nI 17 from c)] at h1
    exact h1 (by omega)
  rw [if_neg (show ¬ wdT T t = nI 17 from c)] at h1 h0
  refine r_isAt (w := 18) (by omega) ht.1 ht.2 (fun c => ⟨fun z => absurd z (by decide), fun _ => ?_⟩) (fun c => ⟨fun _ => ?_, fun z => absurd rfl z⟩)
  · rw [if_pos (show wdT T t = nI 18 from c)] at h1
    exact h1 (by omega)
  rw [if_neg (show ¬ wdT T t = nI 18 from c)] at h1 h0
  refine r_isAt (w := 19) (by omega) ht.1 ht.2 (fun c => ⟨fun z => absurd z (by decide), fun _ => ?_⟩) (fun c => ⟨fun _ => ?_, fun z => absurd rfl z⟩)
  · rw [if_pos (show wdT T t = nI 19 from c)] at h1
    exact h1 (by omega)
  rw [if_neg (show ¬ wdT T t = nI 19 from c)] at h1 h0
  refine r_isAt (w := 22) (by omega) ht.1 ht.2 (fun c => ⟨fun z => absurd z (by decide), fun _ => ?_⟩) (fun c => ⟨fun _ => ?_, fun z => absurd rfl z⟩)
  · rw [if_pos (show wdT T t = nI 20 from c)] at h1
    exact h1 (by omega)
  rw [if_neg (show ¬ wdT T t = nI 20 from c)] at h1 h0
  refine r_isAt (w := 24) (by omega) ht.1 ht.2 (fun c => ⟨fun z => absurd z (by decide), fun _ => ?_⟩) (fun c => ⟨fun _ => ?_, fun z => absurd rfl z⟩)
  · rw [if_pos (show wdT T t = nI 22 from c)] at h1
    exact h1 (by omega)
  · rw [if_neg (show ¬ wdT T t = nI 22 from c)] at h0
    exact h0 rfl
theorem kN_le (w : Int32) (h : kN w ≠ 99) : kN w ≤ 8 := by
  unfold kN at h ⊢
  repeat' split
  all_goals first | omega | skip
  rename_i a b c d e f g i j
  rw [if_neg a, if_neg b, if_neg c, if_neg d, if_neg e, if_neg f, if_neg g, if_neg i, if_neg j] at h
  exact absurd rfl h
theorem it_tsA {M : MH} {S : TS} {g : Bool} {k a b c : Nat} (h : iT M S) (hs : S.2.2.1 < 30) (hd : g = true → S.2.2.2.1 < 3) (hr : rwk M k a b c) (hk : if g then bkK k else k ≤ 6) : iT M (tsA S g k a b c) := by
  cases g with
  | false => exact it_add h hs hr hk
  | true => exact it_open h hs (hd rfl) hr hk
theorem c_act {R : Type} {r : R} {T : Nat → Nat} {n k : Nat} {M : MH} {S : TS} {t : Tk} {K : Nat → Nat → Nat → Nat → Tk → R} {F : Nat → Nat → R} {u0 u u1 u3 u4 : St} {post : Int32 → St → St → St → St → St → Prop} (ok : okH M) (hM : CH u3 M) (h : txR (ga u1 0) T n) (ht : tC u T n t) (h4 : ctS u4 S) (hn : S.2.1 < 60) (hk : k ≤ 8) (hp : pAc T n M k t K F = r) (h1 : ∀ u' u4' k' a b c t', tC u' T n t' → rwk M k' a b c → (if bkN k then bkK k' else k' ≤ 6) → CT u4' (tsA S (bkN k) k' a b c).1 (S.2.1 + 1) S.2.2.1 (opE (tsA S (bkN k) k' a b c).2.2.2.1 (tsA S (bkN k) k' a b c).2.2.2.2) → K k' a b c t' = r → post (nI S.2.1) u0 u' u1 u3 u4') (h0 : ∀ x u' u4' f pl, fdC u' f pl → F f pl = r → post x u0 u' u1 u3 u4') : (¬ nI k = 8 → qX6_readAct (nI k) u0 u u1 u3 u4 post) ∧ (nI k = 8 → qX6_readTest u0 u u1 u3 u4 post) := by
  have hc : k = 0 ∨ k = 1 ∨ k = 2 ∨ k = 3 ∨ k = 4 ∨ k = 5 ∨ k = 6 ∨ k = 7 ∨ k = 8 := by omega
  rcases hc with rfl | rfl | rfl | rfl | rfl | rfl | rfl | rfl | rfl
  · exact ⟨fun _ => c_act0 ok hM h ht h4 hn hp h1 h0, fun z => absurd z (by decide)⟩
  · exact ⟨fun _ => c_act1 ok hM h ht h4 hn hp h1 h0, fun z => absurd z (by decide)⟩
  · exact ⟨fun _ => c_act2 ok hM h ht h4 hn hp h1 h0, fun z => absurd z (by decide)⟩
  · exact ⟨fun _ => c_act3 ok hM h ht h4 hn hp h1 h0, fun z => absurd z (by decide)⟩
  · exact ⟨fun _ => c_act4 ok hM h ht h4 hn hp h1 h0, fun z => absurd z (by decide)⟩
  · exact ⟨fun _ => c_act5 ok hM h ht h4 hn hp h1 h0, fun z => absurd z (by decide)⟩
  · exact ⟨fun _ => c_act6 ok hM h ht h4 hn hp h1 h0, fun z => absurd z (by decide)⟩
  · exact ⟨fun _ => c_act7 ok hM h ht h4 hn hp h1 h0, fun z => absurd z (by decide)⟩
  · exact ⟨fun z => absurd rfl z, fun _ => c_test ok hM h ht h4 hn hp h1 h0⟩
theorem c_step {R : Type} {r : R} {T : Nat → Nat} {n : Nat} {M : MH} {S : TS} {t : Tk} {K : TS → Tk → R} {F : Nat → Nat → R} {u0 u u1 u3 u4 : St} {post : St → St → St → St → St → Prop} (ok : okH M) (hM : CH u3 M) (h : txR (ga u1 0) T n) (ht : tC u T n t) (hI : iT M S) (h4 : ctS u4 S) (hO : coS u0 S) (hw : ¬ wdT T t = nI 21) (hp : pSp T n M S t K F = r) (h1 : ∀ u0' u' u4' S' t', tC u' T n t' → iT M S' → ctS u4' S' → coS u0' S' → K S' t' = r → post u0' u' u1 u3 u4') (h0 : ∀ u0' u' u4' f pl, fdC u' f pl → F f pl = r → post u0' u' u1 u3 u4') : qX6_readStep u0 u u1 u3 u4 post := by
  unfold pSp at hp
  rw [if_neg hw] at hp
  have l60 := it_60 hI
  have hd3 := hI.2.2.1
  have hs3 := hI.2.1
  have g2 : gi u0 2 = nI S.2.2.2.1 := hO.1
  have g1 : gi u4 1 = nI S.2.2.1 := h4.1
  refine c_stepNow ht (fun hk => ?_) (fun hk => ?_)
  · have hk8 := kN_le _ hk
    rw [if_neg hk] at hp
    revert hp hk hk8
    generalize kN (wdT T t) = k
    intro hp hk hk8
    have b22 : ∀ s0 : Int32, (s0 = 0 ↔ bkN k = false) → qX6_readStep_b22 post (nI k) s0 u0 u u1 u3 u4 := fun s0 hs0 => by
      unfold qX6_readStep_b22
      rw [g1, g2]
      refine ⟨fun _ => ⟨fun c => ?_, fun c => c_fail (why := 6) ht (by omega) (fun u' q => h0 u0 u' u4 _ _ q (by rw [if_neg (fun z => c (nI_lt (b := 30) z (by omega)))] at hp; exact hp))⟩, fun z => absurd z (nI_m1 (by omega))⟩
      have c := (nI_ltI (b := 30) (by omega) (by omega)).mp c
      rw [if_pos c] at hp
      have go : (bkN k = true → S.2.2.2.1 < 3) → qX6_readStep_b89 post (nI k) s0 u0 u u1 u3 u4 := fun hd => by
        rw [if_neg (fun z => z.2 (hd z.1))] at hp
        refine c_next h ht (fun u ht => ?_)
        have fb : ∀ (x : Int32) (u : St) (u4' : St) (f pl : Nat), fdC u f pl → F f pl = r → qX6_readStep_b118 post s0 x u0 u u1 u3 u4' := fun x u u4' f pl hf e v ev => by
          refine f_takeSemi hf ⟨fun _ => h0 u0 u v f pl hf e, fun z => ?_⟩
          have hg : bkN k = true := by
            cases hb : bkN k with
            | true => rfl
            | false => exact absurd (hs0.mpr hb) z
          have := hd hg
          rw [g2]
          exact ⟨vp_in_nI (by omega) (by omega), fun a ea b eb => h0 b u v f pl hf e⟩
        refine c_act ok hM h ht h4 (l60.2.1 c) hk8 hp (fun u u4' k' a b c' t ht hr hb hc e => ?_) (fun x u u4' f pl hf e => fb x u u4' f pl hf e)
        have hI' := it_tsA hI c hd hr hb
        intro v ev
        have hv : ctS v (tsA S (bkN k) k' a b c') := by
          obtain ⟨y1, y2, y3⟩ := hc
          refine ⟨?_, ?_, fun i hi => ?_⟩
          · rw [ev, y1, nI_1]; rfl
          · rw [ev]; exact y2
          · rw [ev]; exact y3 i hi
        have fs : ∀ (u : St) (f pl : Nat), fdC u f pl → F f pl = r → ((s0 = 0 → qX6_readStep_b163 post u0 u u1 u3 v) ∧ (¬ s0 = 0 → (vp_in (gi u0 2) 3 ∧ ∀ u_46 : St, u_46 = (sw u0 1 (upd (ga u0 1) ((gi u0 2)).toNatClampNeg (nI S.2.1))) → ∀ u_47 : St, u_47 = (si u_46 2 ((gi u_46 2) + (1 : Int32))) → qX6_readStep_b163 post u_47 u u1 u3 v))) := fun u f pl hf e => by
          refine ⟨fun _ => h0 u0 u v f pl hf e, fun z => ?_⟩
          have hg : bkN k = true := by
            cases hb : bkN k with
            | true => rfl
            | false => exact absurd (hs0.mpr hb) z
          have := hd hg
          rw [g2]
          exact ⟨vp_in_nI (by omega) (by omega), fun a ea b eb => h0 b u v f pl hf e⟩
        refine c_semi h ht e (fun u ht e => ?_) (fun u f pl hf e => fs u f pl hf e)
        refine ⟨fun z => ?_, fun z => ?_⟩
        · have hg := hs0.mp z
          rw [hg] at hI' hv e
          exact h1 u0 u v _ _ ht hI' hv hO e
        · have hg : bkN k = true := by
            cases hb : bkN k with
            | true => rfl
            | false => exact absurd (hs0.mpr hb) z
          have hd := hd hg
          rw [hg] at hI' hv e
          rw [g2, nI_clamp (by omega)]
          refine ⟨vp_in_nI (by omega) (by omega), fun w ew w2 ew2 => h1 w2 u v _ _ ht hI' hv ⟨?_, fun e he => ?_⟩ e⟩
          · rw [ew2, gi_si, if_pos rfl, ew, gi_sw, g2, nI_1]; rfl
          · show ga w2 1 e = nI (upN S.2.2.2.2 S.2.2.2.1 S.2.1 e)
            have he : e < S.2.2.2.1 + 1 := he
            rw [ew2, ga_si, ew, ga_sw, if_pos rfl, upd_at]
            unfold upN
            by_cases q : e = S.2.2.2.1
            · rw [if_pos q, if_pos q]
            · rw [if_neg q, if_neg q]
              exact hO.2 e (by omega)
      refine ⟨fun z => go (fun q => absurd (hs0.mp z) (by rw [q]; decide)), fun z => ⟨fun c3 => go (fun _ => (nI_ltI (b := 3) (by omega) (by omega)).mp c3), fun c3 => c_fail (why := 7) ht (by omega) (fun u' q => h0 u0 u' u4 _ _ q ?_)⟩⟩
      have hg : bkN k = true := by
        cases hb : bkN k with
        | true => rfl
        | false => exact absurd (hs0.mpr hb) z
      rw [if_pos ⟨hg, fun q => c3 (nI_lt (b := 3) q (by omega))⟩] at hp
      exact hp
    refine ⟨fun z => b22 1 ⟨fun q => absurd q (by decide), fun q => ?_⟩, fun z => ⟨fun z2 => b22 0 ⟨fun _ => ?_, fun _ => rfl⟩, fun z2 => b22 1 ⟨fun q => absurd q (by decide), fun q => ?_⟩⟩⟩
    · have : k = 8 := (nI_eq (b := 8) (by omega) (by omega)).mp z
      rw [this] at q
      exact absurd q (by decide)
    · have a : k ≠ 8 := fun q => z (by rw [q]; rfl)
      have b : k ≠ 7 := fun q => z2 (by rw [q]; rfl)
      unfold bkN
      simp [a, b]
    · have : k = 7 := (nI_eq (b := 7) (by omega) (by omega)).mp z2
      rw [this] at q
      exact absurd q (by decide)
  · rw [if_pos hk] at hp
    refine ⟨fun z => absurd z (by decide), fun _ => ⟨fun _ => ⟨fun z => absurd rfl z, fun _ => ?_⟩, fun z => absurd z (by decide)⟩⟩
    exact c_fail (why := 2) ht (by omega) (fun u' q => h0 u0 u' u4 _ _ q hp)
theorem c_close {R : Type} {r : R} {T : Nat → Nat} {n : Nat} {M : MH} {S : TS} {t : Tk} {K : TS → Tk → R} {F : Nat → Nat → R} {u0 u u1 u4 : St} {post : St → St → St → St → Prop} (h : txR (ga u1 0) T n) (ht : tC u T n t) (hI : iT M S) (h4 : ctS u4 S) (hO : coS u0 S) (hw : wdT T t = nI 21) (hp : pSp T n M S t K F = r) (h1 : ∀ u0' u' u4' S' t', tC u' T n t' → iT M S' → ctS u4' S' → coS u0' S' → K S' t' = r → post u0' u' u1 u4') (h0 : ∀ u0' u' u4' f pl, fdC u' f pl → F f pl = r → post u0' u' u1 u4') : qX6_closeBlock u0 u u1 u4 post := by
  unfold pSp at hp
  rw [if_pos hw] at hp
  have l60 := it_60 hI
  have hd3 := hI.2.2.1
  have g2 : gi u0 2 = nI S.2.2.2.1 := hO.1
  unfold qX6_closeBlock
  rw [g2]
  refine ⟨fun c => ?_, fun c => c_fail (why := 2) ht (by omega) (fun u' q => h0 u0 u' u4 _ _ q ?_)⟩
  · have c := (nI_ltI (a := 0) (by omega) (by omega)).mp c
    rw [if_neg (by omega)] at hp
    obtain ⟨d, hd⟩ : ∃ d, S.2.2.2.1 = d + 1 := ⟨S.2.2.2.1 - 1, by omega⟩
    have ed : S.2.2.2.1 - 1 = d := by omega
    have hI' := it_end hI c
    have hop := hI.2.2.2.2.1 d (by omega)
    refine c_next h ht (fun u ht => ?_)
    have jn : ∀ (u : St), (∀ x v, (∀ e, e < d → ga x 1 e = nI (S.2.2.2.2 e)) → gi x 2 = nI d → ctS v (tsE S) → post x u u1 v) → ∀ u_24 : St, u_24 = (si u0 2 (nI S.2.2.2.1 - (1 : Int32))) → qX7_add (13 : Int32) (0 : Int32) (0 : Int32) (0 : Int32) u4 (fun r_26 u_25 => (vp_in (gi u_24 2) 3 ∧ qX7_join (ga u_24 1 ((gi u_24 2)).toNatClampNeg) r_26 u_25 (fun u_28 => post u_24 u u1 u_28))) := fun u hq x ex => by
      rw [hd, nI_pred] at ex
      have x2 : gi x 2 = nI d := by rw [ex]; rfl
      have x1 : ∀ e, ga x 1 e = ga u0 1 e := fun e => by rw [ex]; rfl
      refine c_add (k := 13) (a := 0) (b := 0) (c := 0) (P' := fun i => opE S.2.2.2.1 S.2.2.2.2 i ∨ i = S.2.1) h4 (l60.2.2 c) (fun i hi p => Or.inl p) (fun _ => Or.inr rfl) (fun v hv => ?_)
      rw [x2, nI_clamp (by omega), x1, hO.2 d (by omega)]
      refine ⟨vp_in_nI (by omega) (by omega), c_join hv (by have := l60.2.2 c; omega) (by omega) (by omega) (by omega) (P' := opE d S.2.2.2.2) (fun y hy y1 y2 => ?_) (fun v2 hv2 => hq x v2 (fun e he => ?_) x2 ?_)⟩
      · rcases hy with ⟨e, he, q⟩ | q
        · have : e ≠ d := fun z => y1 (by rw [← q, z])
          exact ⟨e, by omega, q⟩
        · exact absurd q y2
      · rw [x1]
        exact hO.2 e (by omega)
      · unfold ctS tsE
        dsimp only
        rw [ed]
        exact hv2
    have jx : ∀ (u : St), (∀ x v, post x u u1 v) → ∀ u_24 : St, u_24 = (si u0 2 (nI S.2.2.2.1 - (1 : Int32))) → qX7_add (13 : Int32) (0 : Int32) (0 : Int32) (0 : Int32) u4 (fun r_26 u_25 => (vp_in (gi u_24 2) 3 ∧ qX7_join (ga u_24 1 ((gi u_24 2)).toNatClampNeg) r_26 u_25 (fun u_28 => post u_24 u u1 u_28))) := fun u hq x ex => by
      rw [hd, nI_pred] at ex
      have x2 : gi x 2 = nI d := by rw [ex]; rfl
      refine c_addX h4.2.1 l60.1 (fun r' v n' hn' gv => ⟨by rw [x2]; exact vp_in_nI (by omega) (by omega), c_joinX gv hn' (fun v2 => hq x v2)⟩)
    refine c_semi h ht hp (fun u ht e => jn u (fun x v a b cc => ?_)) (fun u f pl hf e => jx u (fun x v => h0 x u v f pl hf e))
    refine h1 x u v (tsE S) _ ht hI' cc ⟨?_, fun e he => ?_⟩ e
    · rw [b]
      show nI d = nI (S.2.2.2.1 - 1)
      rw [ed]
    · have he : e < S.2.2.2.1 - 1 := he
      exact a e (by omega)
  · rw [if_pos (by
      by_cases q : S.2.2.2.1 = 0
      · exact q
      · exact absurd (nI_lt (a := 0) (b := S.2.2.2.1) (by omega) (by omega)) c)] at hp
    exact hp
theorem ct_loop {R : Type} {r : R} {T : Nat → Nat} {n : Nat} {M : MH} {K : TS → R} {F : Nat → Nat → R} {u1 u3 : St} {post : St → St → St → St → St → Prop} (ok : okH M) (hM : CH u3 M) (h : txR (ga u1 0) T n) (h1 : ∀ u0' u' u4' S t, tC u' T n t → iT M S → ctS u4' S → coS u0' S → pTe S t K F = r → qX6_readTimes_b81 post u0' u' u1 u3 u4') (h0 : ∀ u0' u' u4' f pl, fdC u' f pl → F f pl = r → qX6_readTimes_b81 post u0' u' u1 u3 u4') : ∀ (m i : Nat) (S : TS) (t : Tk) (u0 u u4 : St), i + m = 301 → tC u T n t → iT M S → ctS u4 S → coS u0 S → pTm T n M m S t K F = r → qX6_readTimes_L20 post (m + 1) (nI i) u0 u u1 u3 u4 := by
  intro m
  induction m with
  | zero =>
    intro i S t u0 u u4 hi ht hI h4 hO hp
    have : i = 301 := by omega
    subst this
    exact ⟨fun _ => h1 u0 u u4 S t ht hI h4 hO hp, fun c => absurd (by decide) c⟩
  | succ m ih =>
    intro i S t u0 u u4 hi ht hI h4 hO hp
    rw [pTm] at hp
    refine ⟨fun c => absurd (i_lt _ _ |>.mp c) (by rw [nI_toInt (by omega), show ((300 : Int32).toInt) = 300 from rfl]; omega), fun _ => ⟨fun c => absurd ht.1.2.1 c, fun _ => ?_⟩⟩
    refine c_atEnd ht (fun c => ⟨fun _ => ?_, fun z => absurd z (by decide)⟩) (fun c => ⟨fun z => absurd rfl z, fun _ => ?_⟩)
    · rw [if_pos c] at hp
      exact h1 u0 u u4 S t ht hI h4 hO hp
    · rw [if_neg c] at hp
      have nx : ∀ u0' u' u4' S' t', tC u' T n t' → iT M S' → ctS u4' S' → coS u0' S' → pTm T n M m S' t' K F = r → qX6_readTimes_b75 post (qX6_readTimes_L20 post (m + 1)) (nI i) u0' u' u1 u3 u4' := fun u0' u' u4' S' t' a b c d e x ex => by
        rw [nI_1] at ex
        subst ex
        exact ih (i + 1) S' t' u0' u' u4' (by omega) a b c d e
      have nf : ∀ u0' u' u4' f pl, fdC u' f pl → F f pl = r → qX6_readTimes_b75 post (qX6_readTimes_L20 post (m + 1)) (nI i) u0' u' u1 u3 u4' := fun u0' u' u4' f pl hf e x ex => by
        exact ⟨fun _ => h0 u0' u' u4' f pl hf e, fun _ => ⟨fun _ => h0 u0' u' u4' f pl hf e, fun z => absurd z (fdC_n hf)⟩⟩
      refine r_isAt (w := 23) (by omega) ht.1 ht.2 (fun c => ⟨fun z => absurd z (by decide), fun _ => ?_⟩) (fun c => ⟨fun _ => ?_, fun z => absurd rfl z⟩)
      · exact c_close h ht hI h4 hO c hp nx nf
      · exact c_step ok hM h ht hI h4 hO c hp nx nf
abbrev RT2 : Type := Sum TS (Nat × Nat)
def rdT (T : Nat → Nat) (n : Nat) (M : MH) : RT2 := pTm T n M 301 (M00, 0, 0, 0, fun _ => 0) (tok T n 0) (fun S => Sum.inl S) (fun f p => Sum.inr (f, p))
theorem c_rdTimes {T : Nat → Nat} {n : Nat} {M : MH} {u0 u1 u2 u3 u4 : St} {post : St → St → St → St → St → Prop} (ok : okH M) (hM : CH u3 M) (h : txR (ga u2 0) T n) (h1 : ∀ u0' u1' u4' S, gi u1' 8 = 0 → iT M S → S.2.2.2.1 = 0 → ctS u4' S → gi u4' 0 = 1 → rdT T n M = Sum.inl S → post u0' u1' u2 u3 u4') (h0 : ∀ u0' u1' u4' f pl, fdC u1' f pl → rdT T n M = Sum.inr (f, pl) → post u0' u1' u2 u3 u4') : qX6_readTimes (nI n) u0 u1 u2 u3 u4 post := by
  intro a ea b eb c ec v ev
  have hc : ctS c (M00, 0, 0, 0, fun _ => 0) := by
    refine ⟨?_, ?_, fun i hi => absurd hi (Nat.not_lt_zero _)⟩
    · rw [ec, eb]; rfl
    · rw [ec]; rfl
  refine c_begin h (fun u' ht => ⟨302, ?_⟩)
  have no : ∀ u0' u' u4' f pl, fdC u' f pl → Sum.inr (f, pl) = rdT T n M → qX6_readTimes_b97 post u0' u' u2 u3 u4' := fun u0' u' u4' f pl hf e => ⟨fun _ => ⟨Or.inl rfl, fun w ew => h0 u0' u' w f pl hf e.symm⟩, fun z => absurd z (fdC_n hf)⟩
  refine ct_loop (K := fun S => Sum.inl S) (F := fun f p => Sum.inr (f, p)) (r := rdT T n M) ok hM h (fun u0' u' u4' S t ht hI h4 hO e => ?_) (fun u0' u' u4' f pl hf e => ?_) 301 0 (M00, 0, 0, 0, fun _ => 0) (tok T n 0) v u' c rfl ht (it_0 M) hc ⟨by rw [ev]; rfl, fun e he => absurd he (Nat.not_lt_zero _)⟩ rfl
  · have hd3 := hI.2.2.1
    unfold pTe at e
    unfold qX6_readTimes_b81
    rw [hO.1]
    refine ⟨fun z => ?_, fun z => ?_⟩
    · have hd : S.2.2.2.1 = 0 := by
        have := (nI_leI (b := 0) (by omega) (by omega)).mp z
        omega
      rw [if_pos hd] at e
      refine ⟨fun z => absurd ht.1.2.1 z, fun _ => ⟨Or.inr rfl, fun w ew => ?_⟩⟩
      refine h1 u0' u' w S ht.1.2.1 hI hd ⟨?_, ?_, fun i hi => ?_⟩ (by rw [ew]; rfl) e.symm
      · rw [ew]; exact h4.1
      · rw [ew]; exact h4.2.1
      · rw [ew]; exact h4.2.2 i hi
    · have hd : ¬ S.2.2.2.1 = 0 := fun q => z (by rw [q]; decide)
      rw [if_neg hd] at e
      exact c_fail (why := 2) ht (by omega) (fun u2' q => no u0' u2' u4' _ _ q e)
  · exact ⟨fun _ => no u0' u' u4' f pl hf e, fun _ => f_fail hf (no u0' u' u4' f pl hf e)⟩
