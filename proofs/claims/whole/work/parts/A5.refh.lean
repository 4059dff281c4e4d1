/-! STEPS 40: a house's parts as the reference reads them -/
def hR (A : Nat → Int32) (NM : Nat → Int64) (M : MH) : Prop := MR A NM 1824 20 M ∧ A 1831 = -1
theorem hR.nm {A : Nat → Int32} {NM : Nat → Int64} {M : MH} (h : hR A NM M) : nmR NM 20 M := fun p hp => (h.1.2.2.1 p hp).2
theorem hR.k {A : Nat → Int32} {NM : Nat → Int64} {M : MH} (h : hR A NM M) {k : Nat} (hk : k < 7) : A (1824 + k) = nI (M k 0) := h.1.1 k hk
theorem pc_9 : ∀ o, o < 256 → pc o ≤ 8 := by decide +kernel
theorem hr_adS {M : MH} {a w o : Nat} {A A' : Nat → Int32} {NM : Nat → Int64} (ok : okH M) (h8 : M 0 0 < 8) (h : hR A NM M) (hk : ∀ j, 1824 < j → j < 1834 + 3 * M 0 0 ∨ 1858 ≤ j → j < 2272 → A' j = A j) (k0 : A' 1824 = nI (M 0 0 + 1)) (k1 : A' (1834 + 3 * M 0 0) = nI a) (k2 : A' (1835 + 3 * M 0 0) = nI w) (k3 : A' (1836 + 3 * M 0 0) = nI o) : hR A' NM (adS M a w o) := by
  have h5 := ok.2.1
  have h7 := ok.2.2.1
  obtain ⟨⟨m1, m2, m3, m4⟩, m5⟩ := h
  refine ⟨⟨fun k hk' => ?_, fun s hs => ?_, fun p hp => ?_, fun d hd => ?_⟩, (hk 1831 (by omega) (by omega) (by omega)).trans m5⟩
  · by_cases c : k = 0
    · subst c
      exact k0
    · rw [hk (1824 + k) (by omega) (by omega) (by omega), m1 k hk', adS_k M a w o c (by omega)]
  · rw [adS_0] at hs
    by_cases e : s = M 0 0
    · subst e
      rw [adS_8, adS_9, adS_10]
      exact ⟨k1, k2, k3⟩
    · rw [adS_k M a w o (k := 8) (by decide) (by omega), adS_k M a w o (k := 9) (by decide) (by omega), adS_k M a w o (k := 10) (by decide) (by omega), hk _ (by omega) (by omega) (by omega), hk _ (by omega) (by omega) (by omega), hk _ (by omega) (by omega) (by omega)]
      exact m2 s (by omega)
  · have hp' : p < M 1 0 := hp
    rw [hk _ (by omega) (by omega) (by omega)]
    exact m3 p hp'
  · have hd' : d < M 2 0 := hd
    rw [hk _ (by omega) (by omega) (by omega), hk _ (by omega) (by omega) (by omega), hk _ (by omega) (by omega) (by omega), hk _ (by omega) (by omega) (by omega), hk _ (by omega) (by omega) (by omega), hk _ (by omega) (by omega) (by omega), hk _ (by omega) (by omega) (by omega)]
    exact m4 d hd'
theorem hr_adP {M : MH} {c x : Nat} {A A' : Nat → Int32} {NM NM' : Nat → Int64} (ok : okH M) (h5 : M 1 0 < 5) (h : hR A NM M) (hk : ∀ j, 1824 ≤ j → j ≠ 1825 → j ≠ 1858 + M 1 0 → j < 2272 → A' j = A j) (k1 : A' 1825 = nI (M 1 0 + 1)) (kp : A' (1858 + M 1 0) = nI x) (hn : ∀ j, j < 20 + M 1 0 → NM' j = NM j) (kn : NM' (20 + M 1 0) = lN (e256 8 c)) : hR A' NM' (adP M c x) := by
  have h8 := ok.1
  have h7 := ok.2.2.1
  obtain ⟨⟨m1, m2, m3, m4⟩, m5⟩ := h
  refine ⟨⟨fun k hk' => ?_, fun s hs => ?_, fun p hp => ?_, fun d hd => ?_⟩, (hk 1831 (by omega) (by omega) (by omega) (by omega)).trans m5⟩
  · by_cases c1 : k = 1
    · subst c1
      exact k1
    · rw [hk (1824 + k) (by omega) (by omega) (by omega) (by omega), m1 k hk', adP_k M c x c1 (by omega)]
  · have hs' : s < M 0 0 := hs
    rw [hk _ (by omega) (by omega) (by omega) (by omega), hk _ (by omega) (by omega) (by omega) (by omega), hk _ (by omega) (by omega) (by omega) (by omega)]
    exact m2 s hs'
  · rw [adP_1] at hp
    by_cases e : p = M 1 0
    · subst e
      rw [adP_12, adP_13]
      exact ⟨kp, kn⟩
    · rw [adP_k M c x (k := 12) (by decide) (by omega), adP_k M c x (k := 13) (by decide) (by omega), hk _ (by omega) (by omega) (by omega) (by omega), hn _ (by omega)]
      exact m3 p (by omega)
  · have hd' : d < M 2 0 := hd
    rw [hk _ (by omega) (by omega) (by omega) (by omega), hk _ (by omega) (by omega) (by omega) (by omega), hk _ (by omega) (by omega) (by omega) (by omega), hk _ (by omega) (by omega) (by omega) (by omega), hk _ (by omega) (by omega) (by omega) (by omega), hk _ (by omega) (by omega) (by omega) (by omega), hk _ (by omega) (by omega) (by omega) (by omega)]
    exact m4 d hd'
theorem hr_adD {M : MH} {a b c r s l : Nat} {g : Bool} {A A' : Nat → Int32} {NM : Nat → Int64} (ok : okH M) (h7 : M 2 0 < 7) (h : hR A NM M) (hk : ∀ j, 1824 ≤ j → j ≠ 1826 → j < 1863 + 7 * M 2 0 → A' j = A j) (k2 : A' 1826 = nI (M 2 0 + 1)) (c0 : A' (1863 + 7 * M 2 0) = nI a) (c1 : A' (1864 + 7 * M 2 0) = nI b) (c2 : A' (1865 + 7 * M 2 0) = nI c) (c3 : A' (1866 + 7 * M 2 0) = nI r) (c4 : A' (1867 + 7 * M 2 0) = nI (if g then 1 else 0)) (c5 : A' (1868 + 7 * M 2 0) = nI s) (c6 : A' (1869 + 7 * M 2 0) = nI l) : hR A' NM (adD M a b c r g s l) := by
  have h8 := ok.1
  have h5 := ok.2.1
  obtain ⟨⟨m1, m2, m3, m4⟩, m5⟩ := h
  refine ⟨⟨fun k hk' => ?_, fun s' hs => ?_, fun p hp => ?_, fun d hd => ?_⟩, (hk 1831 (by omega) (by omega) (by omega)).trans m5⟩
  · by_cases e : k = 2
    · subst e
      exact k2
    · rw [hk (1824 + k) (by omega) (by omega) (by omega), m1 k hk', adD_ne (by omega), adt_k M a b c r g s e (by omega) (by omega)]
  · have hs' : s' < M 0 0 := hs
    rw [hk _ (by omega) (by omega) (by omega), hk _ (by omega) (by omega) (by omega), hk _ (by omega) (by omega) (by omega)]
    exact m2 s' hs'
  · have hp' : p < M 1 0 := hp
    rw [hk _ (by omega) (by omega) (by omega)]
    exact m3 p hp'
  · have hd' : d < M 2 0 + 1 := hd
    have e7 : adD M a b c r g s l 7 0 = ad7 M g := rfl
    rw [e7, ad7_bit ok]
    by_cases e : d = M 2 0
    · subst e
      rw [adD_ne (k := 14) (by omega), adD_ne (k := 15) (by omega), adD_ne (k := 16) (by omega), adD_ne (k := 17) (by omega), adD_ne (k := 18) (by omega), adt_14, adt_15, adt_16, adt_17, adt_18, show adD M a b c r g s l 19 (M 2 0) = l from mp_eq _ _ _ _, if_pos rfl]
      exact ⟨c0, c1, c2, c3, c4, c5, c6⟩
    · rw [adD_ne (k := 14) (by omega), adD_ne (k := 15) (by omega), adD_ne (k := 16) (by omega), adD_ne (k := 17) (by omega), adD_ne (k := 18) (by omega), adD_ne (k := 19) (by omega), adt_k M a b c r g s (k := 14) (by decide) (by decide) (by omega), adt_k M a b c r g s (k := 15) (by decide) (by decide) (by omega), adt_k M a b c r g s (k := 16) (by decide) (by decide) (by omega), adt_k M a b c r g s (k := 17) (by decide) (by decide) (by omega), adt_k M a b c r g s (k := 18) (by decide) (by decide) (by omega), adt_k M a b c r g s (k := 19) (by decide) (by decide) (by omega), if_neg e]
      rw [hk _ (by omega) (by omega) (by omega), hk _ (by omega) (by omega) (by omega), hk _ (by omega) (by omega) (by omega), hk _ (by omega) (by omega) (by omega), hk _ (by omega) (by omega) (by omega), hk _ (by omega) (by omega) (by omega), hk _ (by omega) (by omega) (by omega)]
      exact m4 d (by omega)
theorem hr_odd {M : MH} {v : Nat} {A : Nat → Int32} {NM : Nat → Int64} (ok : okH M) (h : hR A NM M) : hR (upd A 1827 (nI v)) NM (mp M 3 0 v) := by
  have h8 := ok.1
  have h5 := ok.2.1
  have h7 := ok.2.2.1
  have E : ∀ j, j ≠ 1827 → upd A 1827 (nI v) j = A j := fun j hj => by rw [upd_at, if_neg hj]
  obtain ⟨⟨m1, m2, m3, m4⟩, m5⟩ := h
  refine ⟨⟨fun k hk' => ?_, fun s hs => ?_, fun p hp => ?_, fun d hd => ?_⟩, (E _ (by omega)).trans m5⟩
  · by_cases e : k = 3
    · subst e
      rw [upd_at, if_pos rfl, mp_eq]
    · rw [E _ (by omega), mp_ne (by omega)]
      exact m1 k hk'
  · have hs' : s < M 0 0 := hs
    rw [E _ (by omega), E _ (by omega), E _ (by omega)]
    exact m2 s hs'
  · have hp' : p < M 1 0 := hp
    rw [E _ (by omega)]
    exact m3 p hp'
  · have hd' : d < M 2 0 := hd
    rw [E _ (by omega), E _ (by omega), E _ (by omega), E _ (by omega), E _ (by omega), E _ (by omega), E _ (by omega)]
    exact m4 d hd'
theorem d_full {u0 : St} {T : Nat → Nat} {n m k v w : Nat} {t : Tk} {E : Ex} {A : Nat → Int32} {NM : Nat → Int64} {u : St} {post : Int32 → St → Prop} (h : mS u0 T n m t E A NM u) (hk : k < 7) (hA : A (1824 + k) = nI v) (hv : v < 2 ^ 31) (hw : w < 2 ^ 31) (h1 : v = w → post 1 u) (h0 : ¬ v = w → post 0 u) : qX12_isFull (nI k) (nI w) u post := by
  have e : (1824 : Int32) + nI k = nI (1824 + k) := nI_add 1824 k
  unfold qX12_isFull
  rw [e, nI_clamp (by omega), h.2.2.2.2.2.1, hA, nI_eq hv hw]
  exact ⟨vp_in_nI (by omega) (by omega), fun c => ⟨Or.inl rfl, h0 c⟩, fun c => ⟨Or.inr rfl, h1 c⟩⟩
theorem mS.val {u0 : St} {T : Nat → Nat} {n m : Nat} {t : Tk} {E : Ex} {A : Nat → Int32} {NM : Nat → Int64} {u : St} (h : mS u0 T n m t E A NM u) (c : t.1 = 2 ∨ t.1 = 3) : gi u 15 = nI t.2.2.2 := h.1.2.2.2.2 c
theorem ron_loop {R : Type} {r : R} {u0 : St} {T : Nat → Nat} {n m st : Nat} {E : Ex} {B : Nat → Int32} {NM : Nat → Int64} {K : Nat → Tk → R} {F : Nat → Nat → R} {post : Int32 → St → Prop} (h8 : st < 8) (hB : B 1824 = nI st) (h1 : ∀ u' t' A' o, mS u0 T n m t' E A' NM u' → (∀ j, j ≠ 1836 + 3 * st → j ≠ 2272 → j ≠ 1824 → A' j = B j) → A' (1836 + 3 * st) = nI o → A' 1824 = nI (st + 1) → o < 2 ^ st → K o t' = r → post 1 u') (h0 : ∀ u' f pl, mF u0 f pl u' → F f pl = r → post 0 u') : ∀ (k o : Nat) (t : Tk) (A : Nat → Int32) (u : St), mS u0 T n m t E A NM u → (∀ j, j ≠ 1836 + 3 * st → j ≠ 2272 → A j = B j) → A (1836 + 3 * st) = nI o → o < 2 ^ st → pc o + k = 9 → pOn T n st k o t K F = r → qX12_aStone_L99 post (k + 1) (nI (1834 + 3 * st)) 1 u := by
  have fin : ∀ (o : Nat) (t : Tk) (A : Nat → Int32) (u : St), mS u0 T n m t E A NM u → (∀ j, j ≠ 1836 + 3 * st → j ≠ 2272 → A j = B j) → A (1836 + 3 * st) = nI o → o < 2 ^ st → K o t = r → qX12_aStone_b198 post u := fun o t A u h hA ho hb hp u' e => by
    have e18 : (1824 : Int32).toNatClampNeg = 1824 := rfl
    have hs := h.sw (j := 1824) (nI (st + 1)) (by omega) (by omega)
    rw [e18, h.2.2.2.2.2.1, show A 1824 = nI st from (hA 1824 (by omega) (by omega)).trans hB, nI_1] at e
    rw [h.2.2.2.2.2.1] at hs
    rw [← e] at hs
    refine h1 u' t _ o hs (fun j j1 j2 j3 => ?_) ?_ ?_ hb hp
    · rw [upd_at, if_neg j3]; exact hA j j1 j2
    · rw [upd_at, if_neg (by omega)]; exact ho
    · rw [upd_at, if_pos rfl]
  have p8 : 2 ^ st ≤ 2 ^ 7 := Nat.pow_le_pow_right (by decide) (by omega)
  intro k
  induction k with
  | zero =>
    intro o t A u h hA ho hb hk hp
    have := pc_9 o (by omega)
    omega
  | succ k ih =>
    intro o t A u h hA ho hb hk hp
    rw [pOn] at hp
    have km := kM_eq h.2.1.1
    have hv := h.2.1.2.2.2.2
    refine ⟨fun z => absurd z (by decide), fun _ => ?_⟩
    rw [h.1.2.1, show (3 : Int32) = nI 3 from rfl, nI_eq (by omega) (by omega), km.2.1]
    refine ⟨fun c => fin o t A u h hA ho hb (by rw [if_neg c] at hp; exact hp), fun c => ?_⟩
    rw [if_pos c] at hp
    have e18 : ga u 0 (1824 : Int32).toNatClampNeg = nI st := by
      show ga u 0 1824 = nI st
      rw [h.2.2.2.2.2.1]
      exact (hA 1824 (by omega) (by omega)).trans hB
    have e2 : nI (1834 + 3 * st) + 2 = nI (1836 + 3 * st) := nI_add (1834 + 3 * st) 2 |>.trans (congrArg nI (by omega))
    have go : (t.2.2.2 < st → o.testBit t.2.2.2 = false) → qX12_aStone_b151 post (qX12_aStone_L99 post (k + 1)) (nI (1834 + 3 * st)) 1 u := fun hbit => by
      unfold qX12_aStone_b151
      rw [e18]
      refine d_num2 (to := 2272) (l := 0) (g := (st : Int) - 1) (K := fun v t' => pOn T n st k (o ||| 2 ^ v) t' K F) (F := F) (r := r) h (by omega) (by omega) rfl (pk_sub_toInt (a := st) (b := 1) (by omega) (by omega)) ?_ (fun u' h' v1 v2 hp' => ⟨fun _ => ?_, fun z => absurd z (by decide)⟩) (fun u' f pl hf e => ⟨fun z => absurd rfl z, fun _ => h0 u' f pl hf e⟩)
      · unfold pNu
        rw [if_pos c]
        by_cases cs : t.2.2.2 < st
        · rw [if_pos cs, if_neg (by rw [hbit cs]; decide)] at hp
          rw [if_pos ⟨by omega, by omega⟩]
          exact hp
        · rw [if_neg cs] at hp
          rw [if_neg (by omega)]
          exact hp
      · have hin : vp_in (nI (1836 + 3 * st)) 3072 := vp_in_nI (by omega) (by omega)
        have cs : t.2.2.2 < st := by omega
        rw [e2, nI_clamp (by omega)]
        refine ⟨hin, hin, fun u2 e => ?_⟩
        have ga' : ga u' 0 = upd A 2272 (nI t.2.2.2) := h'.2.2.2.2.2.1
        have q1 : ga u' 0 (1836 + 3 * st) = nI o := by rw [ga', upd_at, if_neg (by omega)]; exact ho
        have q2 : ga u' 0 (2272 : Int32).toNatClampNeg = nI t.2.2.2 := by
          show ga u' 0 2272 = _
          rw [ga', upd_at, if_pos rfl]
        rw [q1, q2, i_one (by omega), i_or] at e
        have hs := h'.sw (j := 1836 + 3 * st) (nI (o ||| 2 ^ t.2.2.2)) (by omega) (by omega)
        rw [← e] at hs
        refine ih (o ||| 2 ^ t.2.2.2) _ _ u2 hs (fun j j1 j2 => ?_) ?_ (Nat.or_lt_two_pow hb (Nat.pow_lt_pow_right (by decide) cs)) ?_ hp'
        · rw [upd_at, if_neg j1, upd_at, if_neg j2]; exact hA j j1 j2
        · rw [upd_at, if_pos rfl]
        · rw [pc_or1 (by omega) (hbit cs)]
          omega
    rw [e18, h.val (Or.inl c)]
    refine ⟨fun z => go (fun cs => absurd z (nI_ge (by omega) (by omega))), fun z => ?_⟩
    have cs : t.2.2.2 < st := by
      by_cases q : t.2.2.2 < st
      · exact q
      · exact absurd (nI_le (by omega) (by omega)) z
    rw [e2, nI_clamp (by omega), h.2.2.2.2.2.1, ho]
    refine ⟨vp_in_nI (by omega) (by omega), m_isIn (by omega) (by omega) (fun b => ⟨fun z => absurd z (by decide), fun _ => ?_⟩) (fun b => ⟨fun _ => go (fun _ => b), fun z => absurd rfl z⟩)⟩
    rw [if_pos cs, if_pos b] at hp
    exact d_fail (why := 5) h (by omega) (fun u' y => ⟨Or.inl rfl, h0 u' _ _ y (by rw [flt_wd (by omega)]; exact hp)⟩)
theorem d_stone {R : Type} {r : R} {u0 : St} {T : Nat → Nat} {n m : Nat} {M : MH} {t : Tk} {E : Ex} {A : Nat → Int32} {NM : Nat → Int64} {K : MH → Tk → R} {F : Nat → Nat → R} {u : St} {post : Int32 → St → Prop} (ok : okH M) (h : mS u0 T n m t E A NM u) (h00 : t.1 ≠ 0) (hM : hR A NM M) (hp : pSt T n M t K F = r) (h1 : ∀ u' t' A' NM' M', mS u0 T n (m + 1) t' E A' NM' u' → okH M' → hR A' NM' M' → pSm T n t' (fun t => K M' t) F = r → post 1 u') (h0 : ∀ u' f pl, mF u0 f pl u' → F f pl = r → post 0 u') : qX12_aStone u post := by
  have h8 := ok.1
  unfold pSt at hp
  refine d_full (k := 0) (v := M 0 0) (w := 8) h (by omega) (hM.k (by omega)) (by omega) (by omega) (fun c => ⟨fun z => absurd z (by decide), fun _ => ?_⟩) (fun c => ⟨fun _ => ?_, fun z => absurd rfl z⟩)
  · rw [if_neg (by omega)] at hp
    exact d_fail (why := 6) h (by omega) (fun u' y => ⟨Or.inl rfl, h0 u' _ _ y hp⟩)
  rw [if_pos (by omega)] at hp
  have e18 : ga u 0 (1824 : Int32).toNatClampNeg = nI (M 0 0) := by
    show ga u 0 1824 = _
    rw [h.2.2.2.2.2.1]
    exact hM.k (k := 0) (by omega)
  rw [e18]
  refine m_stoneRow (fun x ex => ?_)
  have ex : x = nI (1834 + 3 * M 0 0) := ex.trans ((nI_add 1824 _).trans (congrArg nI (by omega)))
  subst ex
  have a1 : nI (1834 + 3 * M 0 0) + 1 = nI (1835 + 3 * M 0 0) := (nI_1 _).trans (congrArg nI (by omega))
  have a2 : nI (1834 + 3 * M 0 0) + 2 = nI (1836 + 3 * M 0 0) := (nI_add _ 2).trans (congrArg nI (by omega))
  rw [a1, a2]
  refine d_next h h00 (fun u h => ?_)
  refine d_want (w := 4) h (by omega) hp (fun u h hp => ⟨fun z => absurd z (by decide), fun _ => ?_⟩) (fun u f pl hf e => ⟨fun _ => h0 u f pl hf e, fun z => absurd rfl z⟩)
  refine d_num (l := 0) (g := 9) h (by omega) (by omega) rfl rfl hp (fun u v t h v1 v2 hp => ⟨fun z => absurd z (by decide), fun _ => ?_⟩) (fun u f pl hf e => ⟨fun _ => h0 u f pl hf e, fun z => absurd rfl z⟩)
  refine d_want (w := 5) h (by omega) hp (fun u h hp => ⟨fun z => absurd z (by decide), fun _ => ?_⟩) (fun u f pl hf e => ⟨fun _ => h0 u f pl hf e, fun z => absurd rfl z⟩)
  refine d_num (l := 1) (g := 9) h (by omega) (by omega) rfl rfl hp (fun u w t h w1 w2 hp => ⟨fun _ => ⟨vp_in_nI (by omega) (by omega), fun u2 e2 => ?_⟩, fun z => absurd z (by decide)⟩) (fun u f pl hf e => ⟨fun z => absurd rfl z, fun _ => h0 u f pl hf e⟩)
  rw [nI_clamp (by omega)] at e2
  have h := h.sw (j := 1836 + 3 * M 0 0) 0 (by omega) (by omega)
  rw [← e2] at h
  have hB : upd (upd (upd A (1834 + 3 * M 0 0) (nI v)) (1835 + 3 * M 0 0) (nI w)) (1836 + 3 * M 0 0) 0 1824 = nI (M 0 0) := by
    rw [upd_at, if_neg (by omega), upd_at, if_neg (by omega), upd_at, if_neg (by omega)]
    exact hM.k (k := 0) (by omega)
  have fin : ∀ (u' : St) (t' : Tk) (A' : Nat → Int32) (o : Nat), mS u0 T n (m + 1) t' E A' NM u' → (∀ j, j ≠ 1836 + 3 * M 0 0 → j ≠ 2272 → j ≠ 1824 → A' j = upd (upd (upd A (1834 + 3 * M 0 0) (nI v)) (1835 + 3 * M 0 0) (nI w)) (1836 + 3 * M 0 0) 0 j) → A' (1836 + 3 * M 0 0) = nI o → A' 1824 = nI (M 0 0 + 1) → o < 2 ^ M 0 0 → pSm T n t' (fun t => K (adS M v w o) t) F = r → post 1 u' := fun u' t' A' o h' hA ho hk hb hp => by
    refine h1 u' t' A' NM (adS M v w o) h' (adS_ok ok (by omega) (by omega) (by omega) hb) (hr_adS ok (by omega) hM (fun j j1 j2 j3 => ?_) hk ?_ ?_ ho) hp
    · rw [hA j (by omega) (by omega) (by omega), upd_at, if_neg (by omega), upd_at, if_neg (by omega), upd_at, if_neg (by omega)]
    · rw [hA _ (by omega) (by omega) (by omega), upd_at, if_neg (by omega), upd_at, if_neg (by omega), upd_at, if_pos rfl]
    · rw [hA _ (by omega) (by omega) (by omega), upd_at, if_neg (by omega), upd_at, if_pos rfl]
  refine d_there (w := 6) h (by omega) hp (fun u h hp => ⟨10, ?_⟩) (fun hp => ⟨1, fun _ u3 e3 => ?_, fun z => absurd rfl z⟩)
  · exact ron_loop (by omega) hB fin h0 9 0 _ _ u h (fun j j1 j2 => rfl) (by rw [upd_at, if_pos rfl]; rfl) (Nat.two_pow_pos _) rfl hp
  · have q : ga u2 0 (1824 : Int32).toNatClampNeg = nI (M 0 0) := by
      show ga u2 0 1824 = _
      rw [h.2.2.2.2.2.1]
      exact hB
    rw [q, nI_1, show (1824 : Int32).toNatClampNeg = 1824 from rfl] at e3
    have h := h.sw (j := 1824) (nI (M 0 0 + 1)) (by omega) (by omega)
    rw [← e3] at h
    exact fin u3 _ _ 0 h (fun j j1 j2 j3 => by rw [upd_at, if_neg j3]) (by rw [upd_at, if_neg (by omega), upd_at, if_pos rfl]; rfl) (by rw [upd_at, if_pos rfl]) (Nat.two_pow_pos _) hp
