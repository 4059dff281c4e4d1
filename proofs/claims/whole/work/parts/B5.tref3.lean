/-! STEPS 50: the reference reads a step; all the times -/
theorem kN_all : ∀ v, v < 25 → (v < 13 ∨ 22 < v ∨ v = 21 → kN (nI v) = 99) ∧ (13 ≤ v ∧ v ≤ 22 ∧ v ≠ 21 → kN (nI v) ≤ 8 ∧ (bkN (kN (nI v)) = true ↔ v = 19 ∨ v = 20)) := by decide +kernel
theorem d_tstep {R : Type} {r : R} {u0 : St} {T : Nat → Nat} {n m : Nat} {M : MH} {S : TS} {t : Tk} {E : Ex} {A : Nat → Int32} {NM : Nat → Int64} {K : TS → Tk → R} {F : Nat → Nat → R} {u : St} {post : Int32 → St → Prop} (ok : okH M) (hM : MR (ga u0 0) (gl u0 1) 0 0 M) (h : mS u0 T n m t E A NM u) (h00 : t.1 ≠ 0) (hI : iT M S) (hS : RTs A E S) (hp : pSp T n M S t K F = r) (h1 : ∀ u' t' A' E' S', mS u0 T n (m + 1) t' E' A' NM u' → iT M S' → RTs A' E' S' → K S' t' = r → post 1 u') (h0 : ∀ u' f pl, mF u0 f pl u' → F f pl = r → post 0 u') : qX12_timeStep u post := by
  unfold pSp at hp
  have hd3 := hI.2.2.1
  have hs30 := hI.2.1
  have l60 := it_60 hI
  have e22 : gi u 22 = nI S.2.2.2.1 := h.e.1.trans hS.2.1
  have e23 : gi u 23 = nI S.2.2.1 := h.e.2.1.trans hS.2.2.1
  refine m_inWords h.2.2.1 h.1 h.2.1 ?_
  intro x2 e2 x3 e3
  have e2 : x2 = nI S.2.1 := by
    rw [e2]
    show ga u 0 1831 = _
    rw [h.2.2.2.2.2.1]
    exact hS.1
  subst e2
  rw [show (6 : Int32) = nI 6 from rfl, pk_mul, show (1912 : Int32) = nI 1912 from rfl, nI_add] at e3
  subst e3
  have bad : F (fltT t 2) t.2.1 = r → qX12_timeStep_b69 post u := fun hp => d_fail (why := 2) h (by omega) (fun u' y => ⟨Or.inl rfl, h0 u' _ _ y hp⟩)
  rcases wd_rng T t with e | ⟨v, hv, e⟩
  · rw [e, if_neg (by decide), if_pos (by decide)] at hp
    rw [e]
    exact ⟨fun z => absurd z (by decide), fun _ => ⟨fun _ => ⟨fun _ => bad hp, fun z => absurd (by decide) z⟩, fun z => absurd z (by decide)⟩⟩
  · have kv := kN_all v hv
    rw [e] at hp ⊢
    have b42 : ∀ x4 : Int32, (x4 = 0 ↔ ¬ (v = 19 ∨ v = 20)) → qX12_timeStep_b42 post (nI v) (nI S.2.1) (nI (1912 + 6 * S.2.1)) x4 u := fun x4 hx => by
      refine ⟨fun z => ?_, fun z => ⟨fun z2 => ?_, fun z2 => ⟨fun z21 => ?_, fun z21 => ⟨fun zd => ?_, fun zd => ?_⟩⟩⟩⟩
      · have := (nI_ltI (b := 13) (by omega) (by omega)).mp z
        rw [if_neg (fun q => by rw [nI_eq (by omega) (by omega)] at q; omega), if_pos (kv.1 (by omega))] at hp
        exact bad hp
      · have := (nI_ltI (a := 22) (by omega) (by omega)).mp z2
        rw [if_neg (fun q => by rw [nI_eq (by omega) (by omega)] at q; omega), if_pos (kv.1 (by omega))] at hp
        exact bad hp
      · have v1 : 13 ≤ v := by
          by_cases q : 13 ≤ v
          · exact q
          · exact absurd (nI_lt (b := 13) (by omega) (by omega)) z
        have v2 : v ≤ 22 := by
          by_cases q : v ≤ 22
          · exact q
          · exact absurd (nI_lt (a := 22) (by omega) (by omega)) z2
        have v3 : v ≠ 21 := fun q => z21 (by rw [q]; rfl)
        obtain ⟨k8, kb⟩ := kv.2 ⟨v1, v2, v3⟩
        rw [if_neg (fun q => by rw [nI_eq (by omega) (by omega)] at q; omega), if_neg (by omega)] at hp
        have n21 : ¬ nI v = 21 := z21
        refine ⟨fun z => absurd z n21, fun _ => ?_⟩
        rw [e23, show (30 : Int32) = nI 30 from rfl, nI_eq (by omega) (by omega)]
        refine ⟨fun z30 => ?_, fun z30 => ?_⟩
        · rw [if_pos (by omega)] at hp
          have ln := l60.2.1 (by omega)
          have go : (bkN (kN (nI v)) = true → S.2.2.2.1 < 3) → qX12_timeStep_b117 post (nI v) (nI S.2.1) (nI (1912 + 6 * S.2.1)) x4 u := fun hd => by
            rw [if_neg (fun q => q.2 (hd q.1))] at hp
            refine ⟨fun _ => ?_, fun z => absurd z n21⟩
            refine d_row h h00 hS.1 ln (fun u' A' h' hr => ?_)
            refine d_order ok hM h' ln hr ⟨v1, v2, v3⟩ rfl hp (fun u2 t2 A2 k' k2 a b c h2 hr2 hkr hrw hb hp => ⟨fun _ => ⟨fun zx => ?_, fun zx => ?_⟩, fun z => absurd z (by decide)⟩) (fun u2 f pl hf e => ⟨fun z => absurd rfl z, fun _ => h0 u2 f pl hf e⟩)
            · have hg : bkN (kN (nI v)) = false := by
                cases q : bkN (kN (nI v)) with
                | false => rfl
                | true => exact absurd (kb.mp q) (hx.mp zx)
              have hI' := it_tsA hI (by omega) hd hrw hb
              rw [hg] at hI' hb hp
              refine ⟨fun _ => ?_, fun z => absurd z n21⟩
              refine d_semi h2 hp (fun u3 h3 hp => ⟨Or.inr rfl, h1 u3 _ A2 _ _ h3 hI' (rt_add hS hr2 hkr (fun _ => hb) hS.2.1 ?_ hS.2.2.2.1) hp⟩) (fun u3 f pl hf e => ⟨Or.inl rfl, h0 u3 f pl hf e⟩)
              show gi u 23 + 1 = _
              rw [e23, nI_1]
            · have hg : bkN (kN (nI v)) = true := by
                cases q : bkN (kN (nI v)) with
                | true => rfl
                | false =>
                  refine absurd (hx.mpr (fun y => ?_)) zx
                  rw [kb.mpr y] at q
                  exact absurd q (by decide)
              have hI' := it_tsA hI (by omega) hd hrw hb
              have hd := hd hg
              rw [hg] at hI' hb hp
              have f22 : gi u2 22 = nI S.2.2.2.1 := h2.e.1.trans hS.2.1
              have f21 : ga u2 21 = E.2.2.2 := h2.e.2.2
              rw [f22, nI_clamp (by omega)]
              refine ⟨vp_in_nI (by omega) (by omega), fun u3 e3 u4 e4 => ⟨fun _ => ?_, fun z => absurd z n21⟩⟩
              have h3 := ms_x21 h2 (upd (ga u2 21) S.2.2.2.1 (nI S.2.1))
              rw [← e3] at h3
              have f3 : gi u3 22 = nI S.2.2.2.1 := by rw [e3]; exact f22
              rw [f3, nI_1] at e4
              have h4 := h3.x22 (nI (S.2.2.2.1 + 1))
              rw [← e4] at h4
              refine d_semi h4 hp (fun u3 h3 hp => ⟨Or.inr rfl, h1 u3 _ A2 _ _ h3 hI' (rt_add hS hr2 hkr (fun z => absurd z (by decide)) rfl ?_ (fun f hf => ?_)) hp⟩) (fun u3 f pl hf e => ⟨Or.inl rfl, h0 u3 f pl hf e⟩)
              · show gi u 23 + 1 = _
                rw [e23, nI_1]
              · show upd (ga u2 21) S.2.2.2.1 (nI S.2.1) f = nI (upN S.2.2.2.2 S.2.2.2.1 S.2.1 f)
                have hf : f < S.2.2.2.1 + 1 := hf
                rw [upd_at]
                unfold upN
                by_cases q : f = S.2.2.2.1
                · rw [if_pos q, if_pos q]
                · rw [if_neg q, if_neg q, f21]
                  exact hS.2.2.2.1 f (by omega)
          refine ⟨fun zx => go (fun q => absurd (kb.mp q) (hx.mp zx)), fun zx => ?_⟩
          rw [e22, show (3 : Int32) = nI 3 from rfl, nI_eq (by omega) (by omega)]
          refine ⟨fun zd => go (fun _ => by omega), fun zd => ?_⟩
          have hg : bkN (kN (nI v)) = true := by
            cases q : bkN (kN (nI v)) with
            | true => rfl
            | false =>
              refine absurd (hx.mpr (fun y => ?_)) zx
              rw [kb.mpr y] at q
              exact absurd q (by decide)
          rw [if_pos ⟨hg, by omega⟩] at hp
          exact d_fail (why := 7) h (by omega) (fun u' y => ⟨Or.inl rfl, h0 u' _ _ y hp⟩)
        · rw [if_neg (by omega)] at hp
          exact d_fail (why := 6) h (by omega) (fun u' y => ⟨Or.inl rfl, h0 u' _ _ y hp⟩)
      · have v3 : v = 21 := (nI_eq (b := 21) (by omega) (by omega)).mp z21
        subst v3
        have dz : ¬ S.2.2.2.1 = 0 := fun q => zd (by rw [e22, q]; rfl)
        rw [if_pos rfl, if_neg dz] at hp
        obtain ⟨d, hd⟩ : ∃ d, S.2.2.2.1 = d + 1 := ⟨S.2.2.2.1 - 1, by omega⟩
        have ln := l60.2.2 (by omega)
        have hx0 : x4 = 0 := hx.mpr (by omega)
        have hop := hI.2.2.2.2.1 d (by omega)
        refine ⟨fun _ => ⟨fun _ => ⟨fun z => absurd rfl z, fun _ => ?_⟩, fun z => absurd hx0 z⟩, fun z => absurd rfl z⟩
        refine d_row h h00 hS.1 ln (fun u' A' h' hr => ?_)
        refine ⟨fun z => absurd z (by decide), fun z => absurd z (by decide), fun z => absurd z (by decide), fun z => absurd z (by decide), fun z => absurd z (by decide), fun z => absurd z (by decide), fun z => absurd z (by decide), fun z => absurd z (by decide), fun _ _ _ _ _ _ _ _ => ⟨fun _ => ⟨fun _ => ⟨fun z => absurd rfl z, fun _ => ?_⟩, fun z => absurd hx0 z⟩, fun z => absurd z (by decide)⟩⟩
        have f22 : gi u' 22 = nI (d + 1) := (h'.e.1.trans hS.2.1).trans (congrArg nI hd)
        have f21 : ga u' 21 = E.2.2.2 := h'.e.2.2
        rw [f22, nI_pred]
        intro u3 e3
        have h3 := h'.x22 (nI d)
        rw [← e3] at h3
        have g22 : gi u3 22 = nI d := by rw [e3]; rfl
        have g21 : ga u3 21 d = nI (S.2.2.2.2 d) := by
          rw [e3]
          show ga u' 21 d = _
          rw [f21]
          exact hS.2.2.2.1 d (by omega)
        have a4 : nI (1912 + 6 * S.2.1) + 4 = nI (1916 + 6 * S.2.1) := (nI_add _ 4).trans (congrArg nI (by omega))
        rw [g22, nI_clamp (by omega), g21, a4, nI_clamp (by omega)]
        refine ⟨vp_in_nI (by omega) (by omega), vp_in_nI (by omega) (by omega), fun u4 e4 => ?_⟩
        have h4 := h3.sw (j := 1916 + 6 * S.2.1) (nI (S.2.2.2.2 d)) (by omega) (by omega)
        rw [← e4] at h4
        have k22 : gi u4 22 = nI d := by rw [e4]; exact g22
        have k21 : ga u4 21 d = nI (S.2.2.2.2 d) := by rw [e4]; exact g21
        have a5 : (1912 : Int32) + (6 : Int32) * nI (S.2.2.2.2 d) + 4 = nI (1916 + 6 * S.2.2.2.2 d) := by
          rw [show (6 : Int32) = nI 6 from rfl, pk_mul, show (1912 : Int32) = nI 1912 from rfl, nI_add]
          exact (nI_add _ 4).trans (congrArg nI (by omega))
        rw [k22, nI_clamp (by omega), k21, a5, nI_clamp (by omega)]
        refine ⟨vp_in_nI (by omega) (by omega), vp_in_nI (by omega) (by omega), fun u5 e5 => ?_⟩
        have h5 := h4.sw (j := 1916 + 6 * S.2.2.2.2 d) (nI S.2.1) (by omega) (by omega)
        rw [← e5] at h5
        refine d_semi h5 hp (fun u6 h6 hp => ⟨Or.inr rfl, h1 u6 _ _ _ _ h6 (it_end hI (by omega)) (rt_end hS hI hd hr rfl ?_ (fun f hf => hS.2.2.2.1 f (by omega))) hp⟩) (fun u3 f pl hf e => ⟨Or.inl rfl, h0 u3 f pl hf e⟩)
        show gi u 23 + 0 = _
        rw [e23]
        exact Int32.add_zero _
      · have v3 : v = 21 := (nI_eq (b := 21) (by omega) (by omega)).mp z21
        subst v3
        have dz : S.2.2.2.1 = 0 := by
          rw [e22] at zd
          exact (nI_z (by omega)).mp zd
        rw [if_pos rfl, if_pos dz] at hp
        exact bad hp
    refine ⟨fun z => b42 1 ⟨fun q => absurd q (by decide), fun q => absurd (Or.inl ((nI_eq (b := 19) (by omega) (by omega)).mp z)) q⟩, fun z => ⟨fun z2 => b42 0 ⟨fun _ q => ?_, fun _ => rfl⟩, fun z2 => b42 1 ⟨fun q => absurd q (by decide), fun q => absurd (Or.inr ((nI_eq (b := 20) (by omega) (by omega)).mp z2)) q⟩⟩⟩
    rcases q with q | q
    · exact z (by rw [q]; rfl)
    · exact z2 (by rw [q]; rfl)
theorem tr_loop {R : Type} {r : R} {u0 : St} {T : Nat → Nat} {n : Nat} {M : MH} {NM : Nat → Int64} {K : TS → R} {F : Nat → Nat → R} {post : Int32 → St → Prop} (hn : n ≤ 300) (ok : okH M) (hM : MR (ga u0 0) (gl u0 1) 0 0 M) (h1 : ∀ u' t' A' E' S', mS u0 T n 0 t' E' A' NM u' → iT M S' → RTs A' E' S' → pTe S' t' K F = r → qX12_times_b57 post u') (h0 : ∀ u' f pl, mF u0 f pl u' → F f pl = r → qX12_times_b57 post u') : ∀ (m i : Nat) (S : TS) (t : Tk) (E : Ex) (A : Nat → Int32) (u : St), i + m = 301 → mS u0 T n i t E A NM u → iT M S → RTs A E S → pTm T n M m S t K F = r → qX12_times_L38 post (m + 2) 1 u := by
  intro m
  induction m with
  | zero =>
    intro i S t E A u hi h hI hS hp
    have hw := h.2.2.2.2.2.2.2.2.2
    have ht := h.2.1.2.2.1
    have t0 : t.1 = 0 := by
      unfold wt at hw
      by_cases c : t.1 = 0
      · exact c
      · rw [if_neg c] at hw
        omega
    refine ⟨fun z => absurd z (by decide), fun _ => ⟨fun _ => h1 u t A E S (h.le (Nat.zero_le _)) hI hS hp, fun z => absurd (h.end0.mpr t0) z⟩⟩
  | succ m ih =>
    intro i S t E A u hi h hI hS hp
    rw [pTm] at hp
    refine ⟨fun z => absurd z (by decide), fun _ => ⟨fun c => ?_, fun c => ?_⟩⟩
    · rw [if_pos (h.end0.mp c)] at hp
      exact h1 u t A E S (h.le (Nat.zero_le _)) hI hS hp
    · have c := fun q => c (h.end0.mpr q)
      rw [if_neg c] at hp
      refine d_tstep ok hM h c hI hS hp (fun u' t' A' E' S' a b c e => ih (i + 1) S' t' E' A' u' (by omega) a b c e) (fun u' f pl a e => ?_)
      exact ⟨fun _ => h0 u' f pl a e, fun z => absurd rfl z⟩
theorem tc_loop {u0 : St} {A0 : Nat → Int32} {NM : Nat → Int64} {post : Int32 → St → Prop} (fin : ∀ u A, smR u0 A NM u → (∀ j, A j = if 88 ≤ j ∧ j < 448 then A0 (1824 + j) else A0 j) → qX12_times_b131 post u) : ∀ (k i : Nat) (A : Nat → Int32) (u : St), i + k = 448 → 88 ≤ i → smR u0 A NM u → (∀ j, A j = if 88 ≤ j ∧ j < i then A0 (1824 + j) else A0 j) → qX12_times_L102 post (k + 1) (nI i) u := by
  intro k
  induction k with
  | zero =>
    intro i A u hi h88 h hA
    have : i = 448 := by omega
    subst this
    exact ⟨fun _ => fin u A h hA, fun c => absurd (by decide) c⟩
  | succ k ih =>
    intro i A u hi h88 h hA
    have ei : (1824 : Int32) + nI i = nI (1824 + i) := nI_add 1824 i
    refine ⟨fun c => absurd c (nI_ge (b := 448) (by omega) (by omega)), fun _ => ?_⟩
    rw [ei, nI_clamp (by omega), nI_clamp (by omega)]
    refine ⟨vp_in_nI (by omega) (by omega), vp_in_nI (by omega) (by omega), fun u1 e1 x ex => ?_⟩
    rw [nI_1] at ex
    subst ex
    have h1 := h.sw i (ga u 0 (1824 + i))
    rw [← e1] at h1
    refine ih (i + 1) _ u1 (by omega) (by omega) h1 (fun j => ?_)
    rw [upd_at, h.2.2.2.2.1, hA, hA]
    by_cases c : j = i
    · subst c
      rw [if_pos rfl, if_neg (by omega), if_pos (by omega)]
    · rw [if_neg c]
      by_cases c2 : 88 ≤ j ∧ j < i
      · rw [if_pos c2, if_pos (by omega)]
      · rw [if_neg c2, if_neg (by omega)]
/-- rows of times in the slot in use -/
def rwS (a : Nat → Int32) (S : TS) : Prop := ∀ i, i < S.2.1 → (∃ k1, kR (S.1 0 i) k1 ∧ a (88 + 6 * i) = nI k1) ∧ a (89 + 6 * i) = nI (S.1 1 i) ∧ a (90 + 6 * i) = nI (S.1 2 i) ∧ a (93 + 6 * i) = nI (S.1 3 i) ∧ (S.1 0 i = 7 ∨ (9 ≤ S.1 0 i ∧ S.1 0 i ≤ 13) → a (92 + 6 * i) = nI (S.1 4 i))
theorem m_rdTimes {T : Nat → Nat} {n : Nat} {M : MH} {b u : St} {A : Nat → Int32} {NM : Nat → Int64} {post : Int32 → St → Prop} (hn : n ≤ 300) (ok : okH M) (hM : MR (ga b 0) (gl b 1) 0 0 M) (h : mS b T n 0 (tok T n 0) (exO b) A NM u) (h1 : ∀ v S, iT M S → S.2.2.2.1 = 0 → rdT T n M = Sum.inl S → rdF b v → (∀ j, j < 88 → j ≠ 7 → ga v 0 j = ga b 0 j) → (∀ j, j < 20 → gl v 1 j = gl b 1 j) → ga v 0 7 = nI S.2.1 → rwS (ga v 0) S → gi v 2 = 0 → gi v 16 = 0 → gi v 17 = -1 → post (nI S.2.2.1) v) (h0 : ∀ v f pl, rdT T n M = Sum.inr (f, pl) → rdF b v → (∀ j, j < 1824 → ga v 0 j = ga b 0 j) → (∀ j, j < 20 → gl v 1 j = gl b 1 j) → gi v 2 = 9 → gi v 16 = nI f → gi v 17 = nI pl → post (-1) v) : ∀ u_45 : St, u_45 = (sw u 0 (upd (ga u 0) ((1831 : Int32)).toNatClampNeg (0 : Int32))) → ∀ u_46 : St, u_46 = (si u_45 22 (0 : Int32)) → ∀ u_47 : St, u_47 = (si u_46 23 (0 : Int32)) → ∃ n_48 : Nat, qX12_times_L38 post n_48 (1 : Int32) u_47 := by
  intro v1 e1 v2 e2 v3 e3
  have h := h.sw (j := 1831) 0 (by omega) (by omega)
  rw [show (1831 : Int32).toNatClampNeg = 1831 from rfl] at e1
  rw [← e1] at h
  have h := h.x22 0
  rw [← e2] at h
  have h := h.x23 0
  rw [← e3] at h
  refine ⟨303, ?_⟩
  have no : ∀ u f pl, mF b f pl u → Sum.inr (f, pl) = rdT T n M → qX12_times_b77 post u := fun u f pl hf e => by
    refine ⟨fun _ => ?_, fun z => absurd z (by rw [hf.1.1]; exact (nI_f0 hf.2.1 hf.2.2.1).1)⟩
    exact m_taken0 hf (fun v a1 a2 a3 a4 a5 a6 => h0 v f pl e.symm a1 a2 a3 a4 a5 a6)
  refine tr_loop (K := fun S => Sum.inl S) (F := fun f p => Sum.inr (f, p)) (r := rdT T n M) hn ok hM (fun u t A E S h hI hS e => ?_) (fun u f pl hf e => ?_) 301 0 (M00, 0, 0, 0, fun _ => 0) (tok T n 0) _ _ v3 rfl h (it_0 M) ⟨?_, rfl, rfl, fun e he => absurd he (Nat.not_lt_zero _), fun i hi => absurd hi (Nat.not_lt_zero _)⟩ rfl
  · have hd3 := hI.2.2.1
    have hs30 := hI.2.1
    have l60 := it_60 hI
    have e22 : gi u 22 = nI S.2.2.2.1 := h.e.1.trans hS.2.1
    have e23 : gi u 23 = nI S.2.2.1 := h.e.2.1.trans hS.2.2.1
    unfold pTe at e
    refine ⟨fun z => absurd h.2.2.2.1 z, fun _ => ?_⟩
    rw [e22]
    refine ⟨fun z => ?_, fun z => ?_⟩
    · have hd : S.2.2.2.1 = 0 := by
        have := (nI_leI (b := 0) (by omega) (by omega)).mp z
        omega
      rw [if_pos hd] at e
      obtain ⟨z1, z2, z3, z4, z5, z6, z7, z8, z9, z10⟩ := h
      refine ⟨fun z => absurd z4 z, fun _ w1 f1 => ⟨361, ?_⟩⟩
      have s1 : smR u (upd A 7 (nI S.2.1)) NM w1 := by
        have := (show smR u A NM u from ⟨fun _ => rfl, fun _ => rfl, fun _ _ => rfl, fun _ _ => rfl, z6, z7⟩).sw 7 (nI S.2.1)
        have q7 : ga u 0 (1831 : Int32).toNatClampNeg = nI S.2.1 := by
          show ga u 0 1831 = _
          rw [z6]
          exact hS.1
        rw [q7, show (7 : Int32).toNatClampNeg = 7 from rfl] at f1
        rw [f1]
        exact this
      refine tc_loop (u0 := u) (A0 := upd A 7 (nI S.2.1)) (NM := NM) (fun u2 A2 s2 hA2 => ?_) 360 88 _ w1 (by omega) (by omega) s1 (fun j => by rw [if_neg (by omega)])
      obtain ⟨y1, y2, y3, y4, y5, y6⟩ := s2
      show qX12_taken (gi u2 23) u2 _
      rw [y1 23, e23]
      intro u4 f4
      have gI4 : ∀ k, gi u4 k = if k = 16 then 0 else gi u k := fun k => by
        rw [f4, gi_si, y1 18, z4, y1]
      refine ⟨fun _ v ev => ?_, fun z => absurd (by rw [gI4, if_neg (by omega), z4]; decide) z⟩
      have gI : ∀ k, gi v k = if k = 2 then 0 else if k = 16 then 0 else gi u k := fun k => by rw [ev, gi_si, gI4]
      have gA : ∀ k, k ≠ 0 → ga v k = ga u k := fun k hk => by
        rw [ev, ga_si, f4, ga_si]
        exact y3 k hk
      have gA0 : ∀ j, ga v 0 j = if 88 ≤ j ∧ j < 448 then A (1824 + j) else if j = 7 then nI S.2.1 else A j := fun j => by
        rw [ev, ga_si, f4, ga_si, y5, hA2, upd_at, upd_at]
        by_cases c : 88 ≤ j ∧ j < 448
        · rw [if_pos c, if_pos c, if_neg (by omega)]
        · rw [if_neg c, if_neg c]
      have gJ : ∀ k, gj v k = gj u k := fun k => by rw [ev, gj_si, f4, gj_si]; exact y2 k
      have gL : ∀ k, k ≠ 1 → gl v k = gl u k := fun k hk => by rw [ev, gl_si, f4, gl_si]; exact y4 k hk
      have gL1 : gl v 1 = NM := by rw [ev, gl_si, f4, gl_si]; exact y6
      obtain ⟨j1, j2, j3, j4, j5, j6⟩ := z9
      refine h1 v S hI hd e.symm ⟨fun k h h2 => ?_, fun k h => ?_, fun k => ?_, fun k h h2 => ?_, fun k h => ?_, fun j h h2 => ?_, fun j h h2 => ?_⟩ (fun j hj hj7 => ?_) (fun j hj => ?_) ?_ (fun i hi => ?_) ?_ ?_ ?_
      · rw [gI, if_neg h2, if_neg (by omega)]; exact j1 k (by omega)
      · rw [gI, if_neg (by omega), if_neg (by omega)]; exact j1 k (by omega)
      · rw [gJ]; exact j2 k
      · rw [gA k h]; exact j3 k h h2
      · rw [gL k h]; exact j4 k h
      · rw [gA0 j, if_neg (by omega), if_neg (by omega), ← z6]; exact j5 j (by omega)
      · rw [gL1, ← z7]; exact j6 j (by omega)
      · rw [gA0 j, if_neg (by omega), if_neg hj7, ← z6]; exact j5 j (by omega)
      · rw [gL1, ← z7]; exact j6 j hj
      · rw [gA0 7, if_neg (by omega), if_pos rfl]
      · obtain ⟨⟨k1, q1, q1'⟩, q2, q3, q4, q5⟩ := hS.2.2.2.2 i hi
        have X : ∀ j k, 88 ≤ j → j < 448 → k = 1824 + j → ga v 0 j = A k := fun j k h1 h2 e => by rw [gA0, if_pos ⟨h1, h2⟩, e]
        refine ⟨⟨k1, q1, (X _ _ (by omega) (by omega) (by omega)).trans q1'⟩, (X _ _ (by omega) (by omega) (by omega)).trans q2, (X _ _ (by omega) (by omega) (by omega)).trans q3, (X _ _ (by omega) (by omega) (by omega)).trans q4, fun z => (X _ _ (by omega) (by omega) (by omega)).trans (q5 z (fun ⟨f, hf, _⟩ => by omega))⟩
      · rw [gI]; rfl
      · rw [gI]; rfl
      · rw [gI, if_neg (by omega), if_neg (by omega)]; exact z5
    · have hd : ¬ S.2.2.2.1 = 0 := fun q => z (by rw [q]; decide)
      rw [if_neg hd] at e
      exact d_fail (why := 2) h (by omega) (fun u' y => no u' _ _ y e)
  · exact ⟨fun _ => no u f pl hf e, fun z => absurd z (by rw [hf.1.1]; exact (nI_f0 hf.2.1 hf.2.2.1).1)⟩
  · rw [upd_at, if_pos rfl]; rfl
