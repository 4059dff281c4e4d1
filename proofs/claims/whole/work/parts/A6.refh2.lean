/-! STEPS 41: a house's parts as the reference reads them, the rest; a part -/
theorem d_persn {R : Type} {r : R} {u0 : St} {T : Nat → Nat} {n m : Nat} {M : MH} {t : Tk} {E : Ex} {A : Nat → Int32} {NM : Nat → Int64} {K : MH → Tk → R} {F : Nat → Nat → R} {u : St} {post : Int32 → St → Prop} (ok : okH M) (h : mS u0 T n m t E A NM u) (h00 : t.1 ≠ 0) (hM : hR A NM M) (hp : pPn T n M t K F = r) (h1 : ∀ u' t' A' NM' M', mS u0 T n (m + 1) t' E A' NM' u' → okH M' → hR A' NM' M' → pSm T n t' (fun t => K M' t) F = r → post 1 u') (h0 : ∀ u' f pl, mF u0 f pl u' → F f pl = r → post 0 u') : qX12_aPerson u post := by
  have h5 := ok.2.1
  unfold pPn at hp
  have e18 : ga u 0 (1825 : Int32).toNatClampNeg = nI (M 1 0) := by
    show ga u 0 1825 = _
    rw [h.2.2.2.2.2.1]
    exact hM.k (k := 1) (by omega)
  intro x ex
  rw [e18] at ex
  subst ex
  refine d_full (k := 1) (v := M 1 0) (w := 5) h (by omega) (hM.k (by omega)) (by omega) (by omega) (fun c => ⟨fun z => absurd z (by decide), fun _ => ?_⟩) (fun c => ⟨fun _ => ?_, fun z => absurd rfl z⟩)
  · rw [if_neg (by omega)] at hp
    exact d_fail (why := 6) h (by omega) (fun u' y => ⟨Or.inl rfl, h0 u' _ _ y hp⟩)
  rw [if_pos (by omega)] at hp
  have a1 : (20 : Int32) + nI (M 1 0) = nI (20 + M 1 0) := nI_add 20 _
  have a2 : (1858 : Int32) + nI (M 1 0) = nI (1858 + M 1 0) := nI_add 1858 _
  rw [a1, a2]
  refine d_next h h00 (fun u h => ?_)
  refine d_isName h (fun cn => ⟨fun _ => ?_, fun z => absurd z (by decide)⟩) (fun cn => ⟨fun z => absurd rfl z, fun _ => d_fail (why := 2) h (by omega) (fun u' z => ⟨Or.inl rfl, h0 u' _ _ z (by rw [if_neg cn] at hp; exact hp)⟩)⟩)
  rw [if_pos cn] at hp
  have h4 : (nxT T n t).1 ≠ 4 := by rw [cn.1]; decide
  have hb := c32_b h.2.1 cn.1 cn.2.1
  have hc := c32_p h.2.1 cn.1
  refine d_find (b := 20) ok h (by omega) cn hM.nm (fun q => ⟨fun z => absurd z (nI_m1 (by omega)), fun _ => d_fail (why := 3) h (by omega) (fun u' z => ⟨Or.inl rfl, h0 u' _ _ z ?_⟩)⟩) (fun q => ⟨fun _ => ?_, fun z => absurd rfl z⟩)
  · rw [if_pos q] at hp
    rw [flt_wd h4]
    exact hp
  rw [if_neg q] at hp
  refine d_name h cn ⟨vp_in_nI (by omega) (by omega), fun u2 e2 => ?_⟩
  rw [nI_clamp (by omega)] at e2
  have h := h.sx (j := 20 + M 1 0) (lN (e256 8 (nmC T (nxT T n t)))) (by omega)
  rw [← e2] at h
  refine d_next h (by rw [cn.1]; decide) (fun u h => ?_)
  refine d_want (w := 7) h (by omega) hp (fun u h hp => ⟨fun z => absurd z (by decide), fun _ => ?_⟩) (fun u f pl hf e => ⟨fun _ => h0 u f pl hf e, fun z => absurd rfl z⟩)
  refine d_num (l := 0) (g := 999) h (by omega) (by omega) rfl rfl hp (fun u v t' h v1 v2 hp => ⟨fun _ u3 e3 => ?_, fun z => absurd z (by decide)⟩) (fun u f pl hf e => ⟨fun z => absurd rfl z, fun _ => h0 u f pl hf e⟩)
  have q5 : ga u 0 (1825 : Int32).toNatClampNeg = nI (M 1 0) := by
    show ga u 0 1825 = _
    rw [h.2.2.2.2.2.1, upd_at, if_neg (by omega)]
    exact hM.k (k := 1) (by omega)
  rw [q5, nI_1, show (1825 : Int32).toNatClampNeg = 1825 from rfl] at e3
  have h := h.sw (j := 1825) (nI (M 1 0 + 1)) (by omega) (by omega)
  rw [← e3] at h
  refine h1 u3 t' _ _ (adP M (nmC T (nxT T n t)) v) (h.le (by omega)) (adP_ok ok (by omega) ⟨hc, hb⟩ (by omega)) (hr_adP ok (by omega) hM (fun j j1 j2 j3 j4 => ?_) ?_ ?_ (fun j hj => ?_) ?_) hp
  · rw [upd_at, if_neg j2, upd_at, if_neg j3]
  · rw [upd_at, if_pos rfl]
  · rw [upd_at, if_neg (by omega), upd_at, if_pos rfl]
  · rw [updL_at, if_neg (by omega)]
  · rw [updL_at, if_pos rfl]
theorem d_debt {R : Type} {r : R} {u0 : St} {T : Nat → Nat} {n m : Nat} {M : MH} {t : Tk} {E : Ex} {A : Nat → Int32} {NM : Nat → Int64} {K : MH → Tk → R} {F : Nat → Nat → R} {u : St} {post : Int32 → St → Prop} (ok : okH M) (h : mS u0 T n m t E A NM u) (h00 : t.1 ≠ 0) (hM : hR A NM M) (hp : pDb T n M t K F = r) (h1 : ∀ u' t' A' NM' M', mS u0 T n (m + 1) t' E A' NM' u' → okH M' → hR A' NM' M' → pSm T n t' (fun t => K M' t) F = r → post 1 u') (h0 : ∀ u' f pl, mF u0 f pl u' → F f pl = r → post 0 u') : qX12_aDebt u post := by
  have h7 := ok.2.2.1
  have h8 := ok.1
  have h5 := ok.2.1
  unfold pDb at hp
  refine d_full (k := 2) (v := M 2 0) (w := 7) h (by omega) (hM.k (by omega)) (by omega) (by omega) (fun c => ⟨fun z => absurd z (by decide), fun _ => ?_⟩) (fun c => ⟨fun _ => ?_, fun z => absurd rfl z⟩)
  · rw [if_neg (by omega)] at hp
    exact d_fail (why := 6) h (by omega) (fun u' y => ⟨Or.inl rfl, h0 u' _ _ y hp⟩)
  rw [if_pos (by omega)] at hp
  have e18 : ga u 0 (1826 : Int32).toNatClampNeg = nI (M 2 0) := by
    show ga u 0 1826 = _
    rw [h.2.2.2.2.2.1]
    exact hM.k (k := 2) (by omega)
  have e17 : ga u 0 (1825 : Int32).toNatClampNeg = nI (M 1 0) := by
    show ga u 0 1825 = _
    rw [h.2.2.2.2.2.1]
    exact hM.k (k := 1) (by omega)
  rw [e18, e17]
  refine m_debtRow (fun x ex y ey => ?_)
  have ex : x = nI (1863 + 7 * M 2 0) := ex.trans ((nI_add 1824 _).trans (congrArg nI (by omega)))
  subst ex; subst ey
  have a1 : nI (1863 + 7 * M 2 0) + 1 = nI (1864 + 7 * M 2 0) := (nI_1 _).trans (congrArg nI (by omega))
  have a2 : nI (1863 + 7 * M 2 0) + 2 = nI (1865 + 7 * M 2 0) := (nI_add _ 2).trans (congrArg nI (by omega))
  have a3 : nI (1863 + 7 * M 2 0) + 3 = nI (1866 + 7 * M 2 0) := (nI_add _ 3).trans (congrArg nI (by omega))
  have a4 : nI (1863 + 7 * M 2 0) + 4 = nI (1867 + 7 * M 2 0) := (nI_add _ 4).trans (congrArg nI (by omega))
  have a5 : nI (1863 + 7 * M 2 0) + 5 = nI (1868 + 7 * M 2 0) := (nI_add _ 5).trans (congrArg nI (by omega))
  have a6 : nI (1863 + 7 * M 2 0) + 6 = nI (1869 + 7 * M 2 0) := (nI_add _ 6).trans (congrArg nI (by omega))
  rw [a1, a2, a3, a4]
  have no : ∀ (u : St) (f pl : Nat) (X : Prop), mF u0 f pl u → F f pl = r → ((0 : Int32) = 0 → post 0 u) ∧ (¬ (0 : Int32) = 0 → X) := fun u f pl X hf e => ⟨fun _ => h0 u f pl hf e, fun z => absurd rfl z⟩
  have no2 : ∀ (u : St) (f pl : Nat) (X : Prop), mF u0 f pl u → F f pl = r → (¬ (0 : Int32) = 0 → X) ∧ ((0 : Int32) = 0 → post 0 u) := fun u f pl X hf e => ⟨fun z => absurd rfl z, fun _ => h0 u f pl hf e⟩
  refine d_next h h00 (fun u h => ?_)
  refine d_person (b := 20) (but := 99) ok h (by omega) hM.nm (by omega) (by omega) (fun p hp => ⟨fun z => absurd z (nI_m1 (by omega)), fun z => by omega⟩) hp (fun u a t h ha _ hp => ⟨fun z => absurd z (by decide), fun _ => ⟨vp_in_nI (by omega) (by omega), ?_⟩⟩) (fun u f pl hf e => no u f pl _ hf e)
  have eb : ga u 0 (nI (1863 + 7 * M 2 0)).toNatClampNeg = nI a := by rw [nI_clamp (by omega), h.2.2.2.2.2.1, upd_at, if_pos rfl]
  rw [eb]
  refine d_person (b := 20) (but := a) ok h (by omega) hM.nm (by omega) (by omega) (fun p hp => nI_eq (by omega) (by omega)) hp (fun u b t h hb hab hp => ⟨fun _ => ?_, fun z => absurd z (by decide)⟩) (fun u f pl hf e => no2 u f pl _ hf e)
  refine d_want (w := 8) h (by omega) hp (fun u h hp => ⟨fun z => absurd z (by decide), fun _ => ?_⟩) (fun u f pl hf e => no u f pl _ hf e)
  refine d_num (l := 1) (g := 99) h (by omega) (by omega) rfl rfl hp (fun u c t h c1 c2 hp => ⟨fun z => absurd z (by decide), fun _ => ?_⟩) (fun u f pl hf e => no u f pl _ hf e)
  refine d_want (w := 9) h (by omega) hp (fun u h hp => ⟨fun z => absurd z (by decide), fun _ => ?_⟩) (fun u f pl hf e => no u f pl _ hf e)
  refine d_num (l := 0) (g := 9) h (by omega) (by omega) rfl rfl hp (fun u r' t h r1 r2 hp => ⟨fun _ => ?_, fun z => absurd z (by decide)⟩) (fun u f pl hf e => no2 u f pl _ hf e)
  have fin : ∀ (g : Bool) (s l : Nat) (u : St) (t : Tk) (A' : Nat → Int32), s < M 0 0 → l ≤ 99 → mS u0 T n (m + 1) t E A' NM u → (∀ j, j < 1867 + 7 * M 2 0 → A' j = upd (upd (upd (upd A (1863 + 7 * M 2 0) (nI a)) (1864 + 7 * M 2 0) (nI b)) (1865 + 7 * M 2 0) (nI c)) (1866 + 7 * M 2 0) (nI r') j) → A' (1867 + 7 * M 2 0) = nI (if g then 1 else 0) → A' (1868 + 7 * M 2 0) = nI s → A' (1869 + 7 * M 2 0) = nI l → pSm T n t (fun t => K (adD M a b c r' g s l) t) F = r → qX12_aDebt_b220 post u := fun g s l u t A' hs hl h hA k4 k5 k6 hp u2 e => by
    have q6 : ga u 0 (1826 : Int32).toNatClampNeg = nI (M 2 0) := by
      show ga u 0 1826 = _
      rw [h.2.2.2.2.2.1, hA _ (by omega), upd_at, if_neg (by omega), upd_at, if_neg (by omega), upd_at, if_neg (by omega), upd_at, if_neg (by omega)]
      exact hM.k (k := 2) (by omega)
    rw [q6, nI_1, show (1826 : Int32).toNatClampNeg = 1826 from rfl] at e
    have h := h.sw (j := 1826) (nI (M 2 0 + 1)) (by omega) (by omega)
    rw [← e] at h
    refine h1 u2 t _ _ (adD M a b c r' g s l) h (adD_ok ok (by omega) ha hb (fun q => hab q.symm) (by omega) (by omega) (by omega) hs (by omega)) (hr_adD ok (by omega) hM (fun j j1 j2 j3 => ?_) ?_ ?_ ?_ ?_ ?_ ?_ ?_ ?_) hp
    · rw [upd_at, if_neg j2, hA _ (by omega), upd_at, if_neg (by omega), upd_at, if_neg (by omega), upd_at, if_neg (by omega), upd_at, if_neg (by omega)]
    · rw [upd_at, if_pos rfl]
    · rw [upd_at, if_neg (by omega), hA _ (by omega), upd_at, if_neg (by omega), upd_at, if_neg (by omega), upd_at, if_neg (by omega), upd_at, if_pos rfl]
    · rw [upd_at, if_neg (by omega), hA _ (by omega), upd_at, if_neg (by omega), upd_at, if_neg (by omega), upd_at, if_pos rfl]
    · rw [upd_at, if_neg (by omega), hA _ (by omega), upd_at, if_neg (by omega), upd_at, if_pos rfl]
    · rw [upd_at, if_neg (by omega), hA _ (by omega), upd_at, if_pos rfl]
    · rw [upd_at, if_neg (by omega)]; exact k4
    · rw [upd_at, if_neg (by omega)]; exact k5
    · rw [upd_at, if_neg (by omega)]; exact k6
  have go : ∀ (g : Bool) (x : Int32) (u : St) (t : Tk), x = nI (if g then 1 else 0) → mS u0 T n (m + 1) t E (upd (upd (upd (upd A (1863 + 7 * M 2 0) (nI a)) (1864 + 7 * M 2 0) (nI b)) (1865 + 7 * M 2 0) (nI c)) (1866 + 7 * M 2 0) (nI r')) NM u → pWd T n 11 t (fun t => pNu T n 0 ((M 0 0 : Int) - 1) t (fun s t => pIf T n 12 t (fun t => pNu T n 0 99 t (fun l t => pSm T n t (fun t => K (adD M a b c r' g s l) t) F) F) (fun t => pSm T n t (fun t => K (adD M a b c r' g s 0) t) F)) F) F = r → qX12_aDebt_b150 post (nI (1863 + 7 * M 2 0)) x (nI (1867 + 7 * M 2 0)) u := fun g x u t hx h hp => by
    unfold qX12_aDebt_b150
    rw [a5, a6]
    refine ⟨vp_in_nI (by omega) (by omega), fun u2 e2 => ?_⟩
    rw [nI_clamp (by omega), hx] at e2
    have h := h.sw (j := 1867 + 7 * M 2 0) (nI (if g then 1 else 0)) (by omega) (by omega)
    rw [← e2] at h
    refine d_want (w := 11) h (by omega) hp (fun u h hp => ⟨fun z => absurd z (by decide), fun _ => ?_⟩) (fun u f pl hf e => no u f pl _ hf e)
    have q0 : ga u 0 (1824 : Int32).toNatClampNeg = nI (M 0 0) := by
      show ga u 0 1824 = _
      rw [h.2.2.2.2.2.1, upd_at, if_neg (by omega), upd_at, if_neg (by omega), upd_at, if_neg (by omega), upd_at, if_neg (by omega), upd_at, if_neg (by omega)]
      exact hM.k (k := 0) (by omega)
    rw [q0]
    refine d_num (l := 0) (g := (M 0 0 : Int) - 1) h (by omega) (by omega) rfl (pk_sub_toInt (a := M 0 0) (b := 1) (by omega) (by omega)) hp (fun u s t h s1 s2 hp => ⟨fun _ => ⟨vp_in_nI (by omega) (by omega), fun u3 e3 => ?_⟩, fun z => absurd z (by decide)⟩) (fun u f pl hf e => no2 u f pl _ hf e)
    rw [nI_clamp (by omega)] at e3
    have h := h.sw (j := 1869 + 7 * M 2 0) 0 (by omega) (by omega)
    rw [← e3] at h
    refine d_there (w := 12) h (by omega) hp (fun u h hp => ⟨fun z => absurd z (by decide), fun _ => ?_⟩) (fun hp => ⟨fun _ => ?_, fun z => absurd rfl z⟩)
    · refine d_num (l := 0) (g := 99) h (by omega) (by omega) rfl rfl hp (fun u l t h l1 l2 hp => ⟨fun _ => ?_, fun z => absurd z (by decide)⟩) (fun u f pl hf e => no2 u f pl _ hf e)
      refine fin g s l u t _ (by omega) (by omega) h (fun j hj => ?_) ?_ ?_ ?_ hp
      · rw [upd_at, if_neg (by omega), upd_at, if_neg (by omega), upd_at, if_neg (by omega), upd_at, if_neg (by omega)]
      · rw [upd_at, if_neg (by omega), upd_at, if_neg (by omega), upd_at, if_neg (by omega), upd_at, if_pos rfl]
      · rw [upd_at, if_neg (by omega), upd_at, if_neg (by omega), upd_at, if_pos rfl]
      · rw [upd_at, if_pos rfl]
    · refine fin g s 0 u3 t _ (by omega) (by omega) h (fun j hj => ?_) ?_ ?_ ?_ hp
      · rw [upd_at, if_neg (by omega), upd_at, if_neg (by omega), upd_at, if_neg (by omega)]
      · rw [upd_at, if_neg (by omega), upd_at, if_neg (by omega), upd_at, if_pos rfl]
      · rw [upd_at, if_neg (by omega), upd_at, if_pos rfl]
      · rw [upd_at, if_pos rfl]; rfl
  exact d_there (w := 10) h (by omega) hp (fun u h hp => ⟨fun z => absurd z (by decide), fun _ => go true 1 u _ rfl h hp⟩) (fun hp => ⟨fun _ => go false 0 u _ rfl h hp, fun z => absurd rfl z⟩)
/-- the flag of the odds -/
theorem mS.odd {u0 : St} {T : Nat → Nat} {n m : Nat} {t : Tk} {E : Ex} {A : Nat → Int32} {NM : Nat → Int64} {u : St} (h : mS u0 T n m t E A NM u) (x : Int32) : mS u0 T n m t (x, E.2) A NM (si u 20 x) := by
  obtain ⟨⟨b1, b2, b3, b4, b5⟩, b, c, d, e, f, g, i, ⟨j1, j2, j3, j4, j5, j6⟩, k⟩ := h
  refine ⟨⟨b1, b2, b3, b4, b5⟩, b, c, d, e, f, g, ?_, ⟨fun k hk => ?_, j2, j3, j4, j5, j6⟩, k⟩
  · rw [← i]; rfl
  · rw [gi_si, if_neg (by omega)]; exact j1 k hk
theorem kw_rng {T : Nat → Nat} {p q : Nat} : ∀ m w, w + m = 25 → (kwI T p q m w = -1 ∨ ∃ v, v < 25 ∧ kwI T p q m w = nI v) := by
  intro m
  induction m with
  | zero => intro w _; exact Or.inl rfl
  | succ m ih =>
    intro w h
    rw [kwI]
    split
    · exact Or.inr ⟨w, by omega, rfl⟩
    · exact ih (w + 1) (by omega)
theorem wd_rng (T : Nat → Nat) (t : Tk) : wdT T t = -1 ∨ ∃ v, v < 25 ∧ wdT T t = nI v := by
  unfold wdT
  split
  · exact kw_rng 25 0 (by omega)
  · exact Or.inl rfl
theorem d_part {R : Type} {r : R} {u0 : St} {T : Nat → Nat} {n m : Nat} {M : MH} {o : Bool} {t : Tk} {E : Ex} {A : Nat → Int32} {NM : Nat → Int64} {K : MH → Bool → Tk → R} {F : Nat → Nat → R} {u : St} {post : Int32 → St → Prop} (ok : okH M) (h : mS u0 T n m t E A NM u) (hM : hR A NM M) (ho : E.1 = if o then 1 else 0) (hp : pPt T n M o t K F = r) (h1 : ∀ u' t' A' NM' M' E' (o' : Bool), mS u0 T n (m + 1) t' E' A' NM' u' → okH M' → hR A' NM' M' → (E'.1 = if o' then 1 else 0) → K M' o' t' = r → post 1 u') (h0 : ∀ u' f pl, mF u0 f pl u' → F f pl = r → post 0 u') : qX12_housePart u post := by
  unfold pPt at hp
  have eO : gi u 20 = if o then 1 else 0 := by
    rw [← ho, ← h.2.2.2.2.2.2.2.1]; rfl
  have fin : ∀ (u : St) (t : Tk) (A' : Nat → Int32) (NM' : Nat → Int64) (M' : MH) (E' : Ex) (o' : Bool), mS u0 T n (m + 1) t E' A' NM' u → okH M' → hR A' NM' M' → (E'.1 = if o' then 1 else 0) → pSm T n t (fun t => K M' o' t) F = r → qX12_housePart_b115 post 1 u := fun u t A' NM' M' E' o' h ok hM ho hp => by
    refine ⟨fun z => absurd z (by decide), fun _ => ?_⟩
    exact d_semi h hp (fun u h hp => ⟨fun z => absurd z (by decide), fun _ => ⟨Or.inr rfl, h1 u _ A' NM' M' E' o' h ok hM ho hp⟩⟩) (fun u f pl hf e => ⟨fun _ => ⟨Or.inl rfl, h0 u f pl hf e⟩, fun z => absurd rfl z⟩)
  have no : ∀ (u : St) (f pl : Nat), mF u0 f pl u → F f pl = r → qX12_housePart_b115 post 0 u := fun u f pl hf e => ⟨fun _ => ⟨Or.inl rfl, h0 u f pl hf e⟩, fun z => absurd rfl z⟩
  refine m_inWords h.2.2.1 h.1 h.2.1 ?_
  by_cases c0 : wdT T t = nI 0
  · have k1 := wd_1 c0 (by omega)
    rw [if_pos c0] at hp
    rw [c0]
    refine ⟨fun z => absurd z (by decide), fun _ => ⟨fun _ => ⟨fun z => absurd rfl z, fun _ => ?_⟩, fun z => absurd (by decide) z⟩⟩
    rw [eO]
    unfold pOd at hp
    cases o with
    | true =>
      refine ⟨fun z => absurd rfl z, fun _ => ?_⟩
      exact d_fail (why := 5) h (by omega) (fun u' y => ⟨Or.inl rfl, h0 u' _ _ y hp⟩)
    | false =>
      rw [if_neg (by decide)] at hp
      refine ⟨fun _ => ⟨fun z => absurd rfl z, fun _ u2 e2 => ?_⟩, fun z => absurd z (by decide)⟩
      have h := h.odd 1
      rw [← e2] at h
      refine d_next h (by rw [k1]; decide) (fun u h => ?_)
      refine ⟨fun _ => ?_, fun z => absurd z (by decide), fun z => absurd z (by decide), fun z => absurd rfl z⟩
      refine d_num (to := 1827) (l := 0) (g := 16) h (by omega) (by omega) rfl rfl hp (fun u v t' h v1 v2 hp => ?_) (fun u f pl hf e => no u f pl hf e)
      exact fin u t' _ _ (mp M 3 0 v) _ true h (odd_ok ok (by omega)) (hr_odd ok hM) rfl hp
  rw [if_neg c0] at hp
  by_cases c1 : wdT T t = nI 1
  · have k1 := wd_1 c1 (by omega)
    rw [if_pos c1] at hp
    rw [c1]
    refine ⟨fun z => absurd z (by decide), fun _ => ⟨fun _ => ⟨fun _ => ⟨fun _ => ⟨fun z => absurd z (by decide), fun _ => ?_, fun z => absurd z (by decide), fun _ z => absurd rfl z⟩, fun z => absurd z (by decide)⟩, fun z => absurd z (by decide)⟩, fun z => absurd (by decide) z⟩⟩
    exact d_stone ok h (by rw [k1]; decide) hM hp (fun u' t' A' NM' M' h ok hM hp => fin u' t' A' NM' M' E o h ok hM ho hp) no
  rw [if_neg c1] at hp
  by_cases c2 : wdT T t = nI 2
  · have k1 := wd_1 c2 (by omega)
    rw [if_pos c2] at hp
    rw [c2]
    refine ⟨fun z => absurd z (by decide), fun _ => ⟨fun _ => ⟨fun _ => ⟨fun _ => ⟨fun z => absurd z (by decide), fun z => absurd z (by decide), fun _ => ?_, fun _ _ z => absurd rfl z⟩, fun z => absurd z (by decide)⟩, fun z => absurd z (by decide)⟩, fun z => absurd (by decide) z⟩⟩
    exact d_persn ok h (by rw [k1]; decide) hM hp (fun u' t' A' NM' M' h ok hM hp => fin u' t' A' NM' M' E o h ok hM ho hp) no
  rw [if_neg c2] at hp
  by_cases c3 : wdT T t = nI 3
  · have k1 := wd_1 c3 (by omega)
    rw [if_pos c3] at hp
    rw [c3]
    refine ⟨fun z => absurd z (by decide), fun _ => ⟨fun _ => ⟨fun _ => ⟨fun _ => ⟨fun z => absurd z (by decide), fun z => absurd z (by decide), fun z => absurd z (by decide), fun _ _ _ => ?_⟩, fun z => absurd z (by decide)⟩, fun z => absurd z (by decide)⟩, fun z => absurd (by decide) z⟩⟩
    exact d_debt ok h (by rw [k1]; decide) hM hp (fun u' t' A' NM' M' h ok hM hp => fin u' t' A' NM' M' E o h ok hM ho hp) no
  rw [if_neg c3] at hp
  have bad : qX12_housePart_b16 post u := d_fail (why := 2) h (by omega) (fun u' y => ⟨Or.inl rfl, h0 u' _ _ y hp⟩)
  rcases wd_rng T t with e | ⟨v, hv, e⟩
  · rw [e]
    exact ⟨fun _ => bad, fun z => absurd (by decide) z⟩
  · have : 3 < v := by
      by_cases q : 3 < v
      · exact q
      · have : v = 0 ∨ v = 1 ∨ v = 2 ∨ v = 3 := by omega
        rcases this with rfl | rfl | rfl | rfl
        · exact absurd e c0
        · exact absurd e c1
        · exact absurd e c2
        · exact absurd e c3
    rw [e]
    exact ⟨fun _ => bad, fun _ => ⟨fun z => absurd z (nI_ge (b := v) (a := 3) (by omega) (by omega)), fun _ => bad⟩⟩
