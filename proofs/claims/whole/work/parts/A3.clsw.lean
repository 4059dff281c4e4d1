/-! STEPS 38: a house's parts as the class reads them -/
theorem on_loop {R : Type} {r : R} {T : Nat → Nat} {n : Nat} {M : MH} {K : Nat → Tk → R} {F : Nat → Nat → R} {u0 u1 u3 : St} {post : Int32 → St → St → St → St → Prop} (ok : okH M) (h8 : M 0 0 < 8) (hM : CH u3 M) (h : txR (ga u1 0) T n) (h1 : ∀ u' o t', tC u' T n t' → o < 2 ^ M 0 0 → K o t' = r → post (nI o) u0 u' u1 u3) (h0 : ∀ x u' f pl, fdC u' f pl → F f pl = r → post x u0 u' u1 u3) : ∀ (m i o : Nat) (t : Tk) (u : St), i + m = 9 → tC u T n t → o < 2 ^ M 0 0 → pOn T n (M 0 0) m o t K F = r → qX6_readOn_L4 post (m + 1) (nI o) (nI i) u0 u u1 u3 := by
  have fl : ∀ (m i : Nat) (x : Int32) (u : St) (f pl : Nat), i ≤ 9 → fdC u f pl → F f pl = r → qX6_readOn_b85 post (qX6_readOn_L4 post (m + 1)) x (nI i) u0 u u1 u3 := fun m i x u f pl hi hf e z ez => by
    exact ⟨fun _ => h0 x u f pl hf e, fun _ => f_isAtNumber hf ⟨fun _ => h0 x u f pl hf e, fun q => absurd rfl q⟩⟩
  intro m
  induction m with
  | zero =>
    intro i o t u hi ht ho hp
    have : i = 9 := by omega
    subst this
    exact ⟨fun _ => h1 u o t ht ho hp, fun c => absurd (by decide) c⟩
  | succ m ih =>
    intro i o t u hi ht ho hp
    rw [pOn] at hp
    refine ⟨fun c => absurd (i_lt _ _ |>.mp c) (by rw [nI_toInt (by omega), show ((8 : Int32).toInt) = 8 from rfl]; omega), fun _ => ?_⟩
    refine r_isAtNumber ht.1 ht.2 (fun c => ⟨fun q => absurd q (by decide), fun _ => ?_⟩) (fun c => ⟨fun _ => h1 u o t ht ho (by rw [if_neg c] at hp; exact hp), fun q => absurd rfl q⟩)
    have e4 : gi u 4 = nI t.2.2.2 := by
      have := ht.1.2.2.2.2.2.1 (Or.inl c)
      rw [c] at this
      exact this
    have hv := ht.2.2.2.2.2
    have h4 : t.1 ≠ 4 := by rw [c]; decide
    rw [if_pos c] at hp
    unfold qX8_numberNow
    rw [e4]
    refine r_isStone (n := M 0 0) (by omega) (ch_k hM (by omega)) (fun q => ⟨fun _ => ?_, fun z => absurd z (by decide)⟩) (fun q => ⟨fun z => absurd rfl z, fun _ => c_fail (why := 4) ht (by omega) (fun u' z => ?_)⟩)
    · have hs : t.2.2.2 < M 0 0 := by
        have := q.2
        rw [nI_toInt (by omega)] at this
        omega
      rw [if_pos hs] at hp
      have ho31 : o < 2 ^ 31 := Nat.lt_of_lt_of_le ho (Nat.pow_le_pow_right (by decide) (by omega))
      refine r_has ho31 (by omega) (fun b => ⟨fun z => absurd z (by decide), fun _ => c_fail (why := 5) ht (by omega) (fun u' z => ?_)⟩) (fun b => ⟨fun _ x ex => ?_, fun z => absurd rfl z⟩)
      · rw [if_pos b] at hp
        rw [flt_wd h4] at z
        exact fl m i _ u' _ _ (by omega) z hp
      · rw [if_neg (by rw [b]; decide)] at hp
        rw [i_one (by omega), i_or] at ex
        subst ex
        refine c_next h ht (fun u' a z ez => ?_)
        rw [nI_1] at ez
        subst ez
        exact ih (i + 1) _ _ u' (by omega) a (Nat.or_lt_two_pow ho (Nat.pow_lt_pow_right (by decide) hs)) hp
    · rw [if_neg (fun a => q (inR_nI a (by omega)))] at hp
      rw [flt_wd h4] at z
      exact fl m i _ u' _ _ (by omega) z hp
theorem c_stone {R : Type} {r : R} {T : Nat → Nat} {n : Nat} {M : MH} {t : Tk} {K : MH → Tk → R} {F : Nat → Nat → R} {u0 u u1 u3 : St} {post : St → St → St → St → Prop} (ok : okH M) (hM : CH u3 M) (h : txR (ga u1 0) T n) (ht : tC u T n t) (hp : pSt T n M t K F = r) (h1 : ∀ u' u3' M' t', tC u' T n t' → okH M' → CH u3' M' → K M' t' = r → post u0 u' u1 u3') (h0 : ∀ u' f pl, fdC u' f pl → F f pl = r → post u0 u' u1 u3) : qX6_readStone u0 u u1 u3 post := by
  have h8 := ok.1
  unfold pSt at hp
  unfold qX6_readStone
  rw [show gi u3 0 = nI (M 0 0) from ch_k hM (by omega), i_lt, nI_toInt (by omega), show (8 : Int32).toInt = 8 from rfl]
  refine ⟨fun c => ?_, fun c => c_fail (why := 6) ht (by omega) (fun u' z => h0 u' _ _ z (by rw [if_neg (by omega)] at hp; exact hp))⟩
  rw [if_pos (by omega)] at hp
  have fb : ∀ (x2 x3 x : Int32) (u : St) (f pl : Nat), fdC u f pl → F f pl = r → qX6_readStone_b91 post x2 x3 x u0 u u1 u3 := fun x2 x3 x u f pl hf e => f_takeSemi hf ⟨fun _ => h0 u f pl hf e, fun z => absurd z (fdC_n hf)⟩
  have sb : ∀ (m w o : Nat) (u : St) (t : Tk), m ≤ 9 → 1 ≤ w → w ≤ 9 → o < 2 ^ M 0 0 → tC u T n t → pSm T n t (fun t => K (adS M m w o) t) F = r → qX6_readStone_b91 post (nI m) (nI w) (nI o) u0 u u1 u3 := fun m w o u t hm hw hw2 ho ht hp => by
    refine c_semi h ht hp (fun u' a e => ⟨fun z => absurd a.1.2.1 z, fun _ => ?_⟩) (fun u' f pl hf e => ⟨fun _ => h0 u' f pl hf e, fun z => absurd z (fdC_n hf)⟩)
    exact c_addStone (by omega) hM (fun u3' hM' => h1 u' u3' _ _ a (adS_ok ok (by omega) hm ⟨hw, hw2⟩ ho) hM' e)
  refine c_next h ht (fun u ht => ?_)
  refine c_take (w := 2) h (by omega) ht hp (fun u ht hp => ?_) (fun u f pl hf e => ?_)
  · refine c_num (l := 0) (g := 9) h ht rfl rfl hp (fun u m t ht a b hp => ?_) (fun u f pl hf e => ?_)
    · refine c_take (w := 3) h (by omega) ht hp (fun u ht hp => ?_) (fun u f pl hf e => ?_)
      · refine c_num (l := 1) (g := 9) h ht rfl rfl hp (fun u w t ht a1 b1 hp => ?_) (fun u f pl hf e => ?_)
        · refine c_takeIf (w := 4) h (by omega) ht hp (fun u ht hp => ⟨fun z => absurd z (by decide), fun _ => ?_⟩) (fun hp => ⟨fun _ => sb m w 0 u t (by omega) (by omega) (by omega) (Nat.two_pow_pos _) ht hp, fun z => absurd rfl z⟩)
          exact ⟨_, on_loop ok (by omega) hM h (fun u' o t' ht' ho hp => sb m w o u' t' (by omega) (by omega) (by omega) ho ht' hp) (fun x u' f pl hf e => fb _ _ x u' f pl hf e) 9 0 0 _ u (by omega) ht (Nat.two_pow_pos _) hp⟩
        · exact f_takeIf hf ⟨fun _ => fb _ _ _ u f pl hf e, fun z => absurd rfl z⟩
      · exact f_takeNumber hf (f_takeIf hf ⟨fun _ => fb _ _ _ u f pl hf e, fun z => absurd rfl z⟩)
    · exact f_take hf (f_takeNumber hf (f_takeIf hf ⟨fun _ => fb _ _ _ u f pl hf e, fun z => absurd rfl z⟩))
  · exact f_takeNumber hf (f_take hf (f_takeNumber hf (f_takeIf hf ⟨fun _ => fb _ _ _ u f pl hf e, fun z => absurd rfl z⟩)))
theorem c_persn {R : Type} {r : R} {T : Nat → Nat} {n : Nat} {M : MH} {t : Tk} {K : MH → Tk → R} {F : Nat → Nat → R} {u0 u u1 u3 : St} {post : St → St → St → St → Prop} (ok : okH M) (hM : CH u3 M) (h : txR (ga u1 0) T n) (ht : tC u T n t) (hp : pPn T n M t K F = r) (h1 : ∀ u' u3' M' t', tC u' T n t' → okH M' → CH u3' M' → K M' t' = r → post u0 u' u1 u3') (h0 : ∀ u' f pl, fdC u' f pl → F f pl = r → post u0 u' u1 u3) : qX6_readPerson u0 u u1 u3 post := by
  have h5 := ok.2.1
  unfold pPn at hp
  unfold qX6_readPerson
  rw [show gi u3 1 = nI (M 1 0) from ch_k hM (by omega), i_lt, nI_toInt (by omega), show (5 : Int32).toInt = 5 from rfl]
  refine ⟨fun c => ?_, fun c => c_fail (why := 6) ht (by omega) (fun u' z => h0 u' _ _ z (by rw [if_neg (by omega)] at hp; exact hp))⟩
  rw [if_pos (by omega)] at hp
  have fb : ∀ (x : Int64) (u : St) (f pl : Nat), fdC u f pl → F f pl = r → qX6_readPerson_b74 post x u0 u u1 u3 := fun x u f pl hf e => f_advance hf (f_take hf (f_takeNumber hf (f_takeSemi hf ⟨fun _ => h0 u f pl hf e, fun z => absurd z (fdC_n hf)⟩)))
  refine c_next h ht (fun u ht => ?_)
  show qX8_isAtName u u1 _
  refine c_isName ht (fun cn en => ⟨fun _ => ?_, fun q => absurd q (by decide)⟩) (fun cn => ⟨fun q => absurd rfl q, fun _ => c_fail (why := 2) ht (by omega) (fun u' q => fb _ u' _ _ q (by rw [if_neg cn] at hp; exact hp))⟩)
  rw [if_pos cn] at hp
  rw [en]
  have h4 : (nxT T n t).1 ≠ 4 := by rw [cn.1]; decide
  have hb := c32_b ht.2 cn.1 cn.2.1
  refine c_person ok hM hb (fun q => ⟨fun z => absurd z (nI_m1 (by omega)), fun _ => c_fail (why := 3) ht (by omega) (fun u' z => fb _ u' _ _ z ?_)⟩) (fun q => ⟨fun _ => ?_, fun z => absurd rfl z⟩)
  · rw [if_pos q] at hp
    rw [flt_wd h4]
    exact hp
  · rw [if_neg q] at hp
    have hc := c32_p ht.2 cn.1
    refine c_next h ht (fun u ht => ?_)
    refine c_take (w := 6) h (by omega) ht hp (fun u ht hp => ?_) (fun u f pl hf e => f_takeNumber hf (f_takeSemi hf ⟨fun _ => h0 u f pl hf e, fun z => absurd z (fdC_n hf)⟩))
    refine c_num (l := 0) (g := 999) h ht rfl rfl hp (fun u x t ht a b hp => ?_) (fun u f pl hf e => f_takeSemi hf ⟨fun _ => h0 u f pl hf e, fun z => absurd z (fdC_n hf)⟩)
    refine c_semi h ht hp (fun u' a e => ⟨fun z => absurd a.1.2.1 z, fun _ => ?_⟩) (fun u' f pl hf e => ⟨fun _ => h0 u' f pl hf e, fun z => absurd z (fdC_n hf)⟩)
    exact c_addPerson (by omega) hM (fun u3' hM' => h1 u' u3' _ _ a (adP_ok ok (by omega) ⟨hc, hb⟩ (by omega)) hM' e)
theorem c_debt {R : Type} {r : R} {T : Nat → Nat} {n : Nat} {M : MH} {t : Tk} {K : MH → Tk → R} {F : Nat → Nat → R} {u0 u u1 u3 : St} {post : St → St → St → St → Prop} (ok : okH M) (hM : CH u3 M) (h : txR (ga u1 0) T n) (ht : tC u T n t) (hp : pDb T n M t K F = r) (h1 : ∀ u' u3' M' t', tC u' T n t' → okH M' → CH u3' M' → K M' t' = r → post u0 u' u1 u3') (h0 : ∀ u' f pl, fdC u' f pl → F f pl = r → post u0 u' u1 u3) : qX6_readDebt u0 u u1 u3 post := by
  have h7 := ok.2.2.1
  have h8 := ok.1
  unfold pDb at hp
  unfold qX6_readDebt
  rw [show gi u3 2 = nI (M 2 0) from ch_k hM (by omega), i_lt, nI_toInt (by omega), show (7 : Int32).toInt = 7 from rfl]
  refine ⟨fun c => ?_, fun c => c_fail (why := 6) ht (by omega) (fun u' z => h0 u' _ _ z (by rw [if_neg (by omega)] at hp; exact hp))⟩
  rw [if_pos (by omega)] at hp
  have g0 : gi u3 0 = nI (M 0 0) := ch_k hM (by omega)
  have es : (gi u3 0 - 1).toInt = (M 0 0 : Int) - 1 := by
    rw [g0]
    exact pk_sub_toInt (a := M 0 0) (b := 1) (by omega) (by omega)
  have fb : ∀ (x2 x3 x4 x5 x6 x7 x : Int32) (u : St) (f pl : Nat), fdC u f pl → F f pl = r → qX6_readDebt_b150 post x2 x3 x4 x5 x6 x7 x u0 u u1 u3 := fun x2 x3 x4 x5 x6 x7 x u f pl hf e => f_takeSemi hf ⟨fun _ => h0 u f pl hf e, fun z => absurd z (fdC_n hf)⟩
  have sb : ∀ (a b c r' s l : Nat) (g : Bool) (x6 : Int32) (u : St) (t : Tk), a < M 1 0 → b < M 1 0 → a ≠ b → 1 ≤ c → c ≤ 99 → r' ≤ 9 → s < M 0 0 → l ≤ 99 → (x6 = 0 ↔ g = false) → tC u T n t → pSm T n t (fun t => K (adD M a b c r' g s l) t) F = r → qX6_readDebt_b150 post (nI a) (nI b) (nI c) (nI r') x6 (nI s) (nI l) u0 u u1 u3 := fun a b c r' s l g x6 u t ha hb hab hc hc2 hr hs hl hx ht hp => by
    refine c_semi h ht hp (fun u' q e => ⟨fun z => absurd q.1.2.1 z, fun _ x ex => ?_⟩) (fun u' f pl hf e => ⟨fun _ => h0 u' f pl hf e, fun z => absurd z (fdC_n hf)⟩)
    rw [show gi u3 2 = nI (M 2 0) from ch_k hM (by omega)] at ex
    subst ex
    refine r_addDebt (g := g) ok (by omega) hM hx (fun u4 hM' => ⟨vp_in_nI (by omega) (by omega), fun u5 e5 => ?_⟩)
    rw [nI_clamp (by omega)] at e5
    subst e5
    exact h1 u' _ _ _ q (adD_ok (l := l) (g := g) ok (by omega) ha hb hab hc hc2 hr hs (by omega)) (ch_up (k := 19) hM' (by omega) (by omega) (by omega)) e
  refine c_next h ht (fun u ht => ?_)
  refine c_takePerson (but := 99) ok hM h ht (fun p hp => ⟨fun z => absurd z (nI_m1 (by omega)), fun z => by omega⟩) hp (fun u a t ht ha _ hp => ?_) (fun u f pl hf e => ?f0)
  refine c_takePerson (but := a) ok hM h ht (fun p hp => nI_eq (by omega) (by have := ok.2.1; omega)) hp (fun u b t ht hb hab hp => ?_) (fun u f pl hf e => ?f1)
  refine c_take (w := 8) h (by omega) ht hp (fun u ht hp => ?_) (fun u f pl hf e => ?f2)
  refine c_num (l := 1) (g := 99) h ht rfl rfl hp (fun u c t ht c1 c2 hp => ?_) (fun u f pl hf e => ?f3)
  refine c_take (w := 9) h (by omega) ht hp (fun u ht hp => ?_) (fun u f pl hf e => ?f4)
  refine c_num (l := 0) (g := 9) h ht rfl rfl hp (fun u r' t ht r1 r2 hp => ?_) (fun u f pl hf e => ?f5)
  refine c_takeIf (w := 10) h (by omega) ht hp (fun u ht hp => ?_) (fun hp => ?_)
  · refine c_take (w := 11) h (by omega) ht hp (fun u ht hp => ?_) (fun u f pl hf e => f_takeNumber hf (f_takeIf hf ⟨fun _ => fb _ _ _ _ _ _ _ u f pl hf e, fun z => absurd rfl z⟩))
    refine c_num (l := 0) h ht rfl es hp (fun u s t ht s1 s2 hp => ?_) (fun u f pl hf e => f_takeIf hf ⟨fun _ => fb _ _ _ _ _ _ _ u f pl hf e, fun z => absurd rfl z⟩)
    refine c_takeIf (w := 12) h (by omega) ht hp (fun u ht hp => ⟨fun z => absurd z (by decide), fun _ => ?_⟩) (fun hp => ⟨fun _ => ?_, fun z => absurd rfl z⟩)
    · refine c_num (l := 0) (g := 99) h ht rfl rfl hp (fun u l t ht l1 l2 hp => ?_) (fun u f pl hf e => fb _ _ _ _ _ _ _ u f pl hf e)
      exact sb a b c r' s l true 1 u t ha hb (fun q => hab q.symm) (by omega) (by omega) (by omega) (by omega) (by omega) (by decide) ht hp
    · exact sb a b c r' s 0 true 1 u t ha hb (fun q => hab q.symm) (by omega) (by omega) (by omega) (by omega) (by omega) (by decide) ht hp
  · refine c_take (w := 11) h (by omega) ht hp (fun u ht hp => ?_) (fun u f pl hf e => f_takeNumber hf (f_takeIf hf ⟨fun _ => fb _ _ _ _ _ _ _ u f pl hf e, fun z => absurd rfl z⟩))
    refine c_num (l := 0) h ht rfl es hp (fun u s t ht s1 s2 hp => ?_) (fun u f pl hf e => f_takeIf hf ⟨fun _ => fb _ _ _ _ _ _ _ u f pl hf e, fun z => absurd rfl z⟩)
    refine c_takeIf (w := 12) h (by omega) ht hp (fun u ht hp => ⟨fun z => absurd z (by decide), fun _ => ?_⟩) (fun hp => ⟨fun _ => ?_, fun z => absurd rfl z⟩)
    · refine c_num (l := 0) (g := 99) h ht rfl rfl hp (fun u l t ht l1 l2 hp => ?_) (fun u f pl hf e => fb _ _ _ _ _ _ _ u f pl hf e)
      exact sb a b c r' s l false 0 u t ha hb (fun q => hab q.symm) (by omega) (by omega) (by omega) (by omega) (by omega) (by decide) ht hp
    · exact sb a b c r' s 0 false 0 u t ha hb (fun q => hab q.symm) (by omega) (by omega) (by omega) (by omega) (by omega) (by decide) ht hp
  all_goals
    repeat first
      | exact fb _ _ _ _ _ _ _ u f pl hf e
      | refine f_takePerson hf ?_
      | refine f_take hf ?_
      | refine f_takeNumber hf ?_
      | refine f_takeIf hf ?_
      | refine And.intro (fun _ => fb _ _ _ _ _ _ _ u f pl hf e) (fun z => absurd rfl z)
theorem c_odds {R : Type} {r : R} {T : Nat → Nat} {n : Nat} {M : MH} {o : Bool} {t : Tk} {K : MH → Tk → R} {F : Nat → Nat → R} {u0 u u1 u3 : St} {post : St → St → St → St → Prop} (ok : okH M) (hM : CH u3 M) (h : txR (ga u1 0) T n) (ht : tC u T n t) (ho : gi u0 3 = if o then 1 else 0) (hp : pOd T n M o t K F = r) (h1 : ∀ u0' u' u3' M' t', gi u0' 3 = 1 → tC u' T n t' → okH M' → CH u3' M' → K M' t' = r → post u0' u' u1 u3') (h0 : ∀ u0' u3' u' f pl, fdC u' f pl → F f pl = r → post u0' u' u1 u3') : qX6_readOdds u0 u u1 u3 post := by
  unfold pOd at hp
  unfold qX6_readOdds
  rw [ho]
  cases o with
  | true =>
    exact ⟨fun z => absurd z (by decide), fun _ => c_fail (why := 5) ht (by omega) (fun u' z => h0 u0 u3 u' _ _ z hp)⟩
  | false =>
    rw [if_neg (by decide)] at hp
    refine ⟨fun _ u0' e0 => ?_, fun z => absurd rfl z⟩
    refine c_next h ht (fun u ht => ?_)
    refine c_num (l := 0) (g := 16) h ht rfl rfl hp (fun u v t ht a b hp => ?_) (fun u f pl hf e u3' e3 => f_takeSemi hf (h0 u0' u3' u f pl hf e))
    intro u3' e3
    subst e3
    refine c_semi h ht hp (fun u' q e => ?_) (fun u' f pl hf e => h0 u0' _ u' f pl hf e)
    exact h1 u0' u' _ _ _ (by rw [e0]; rfl) q (odd_ok ok (by omega)) (ch_si hM (by omega) (by omega)) e
theorem wd_ne {T : Nat → Nat} {t : Tk} {a b : Nat} (h : wdT T t = nI a) (ha : a < 2 ^ 31) (hb : b < 2 ^ 31) (hab : a ≠ b) : ¬ wdT T t = nI b := fun q => hab ((nI_eq ha hb).mp (h.symm.trans q))
theorem c_part {R : Type} {r : R} {T : Nat → Nat} {n : Nat} {M : MH} {o : Bool} {t : Tk} {K : MH → Bool → Tk → R} {F : Nat → Nat → R} {u0 u u1 u3 : St} {post : St → St → St → St → Prop} (ok : okH M) (hM : CH u3 M) (h : txR (ga u1 0) T n) (ht : tC u T n t) (ho : gi u0 3 = if o then 1 else 0) (hp : pPt T n M o t K F = r) (h1 : ∀ u0' u' u3' M' o' t', (gi u0' 3 = if o' then 1 else 0) → tC u' T n t' → okH M' → CH u3' M' → K M' o' t' = r → post u0' u' u1 u3') (h0 : ∀ u0' u3' u' f pl, fdC u' f pl → F f pl = r → post u0' u' u1 u3') : qX6_readPart u0 u u1 u3 post := by
  unfold pPt at hp
  refine r_isAt (w := 0) (by omega) ht.1 ht.2 (fun c => ⟨fun z => absurd z (by decide), fun _ => ?_⟩) (fun c => ⟨fun _ => ?_, fun z => absurd rfl z⟩)
  · rw [if_pos (show wdT T t = nI 0 from c)] at hp
    exact c_odds ok hM h ht ho hp (fun u0' u' u3' M' t' a b c d e => h1 u0' u' u3' M' true t' a b c d e) (fun u0' u3' u' f pl a b => h0 u0' u3' u' f pl a b)
  rw [if_neg (show ¬ wdT T t = nI 0 from c)] at hp
  refine r_isAt (w := 1) (by omega) ht.1 ht.2 (fun c => ⟨fun z => absurd z (by decide), fun _ => ?_⟩) (fun c => ⟨fun _ => ?_, fun z => absurd rfl z⟩)
  · rw [if_pos (show wdT T t = nI 1 from c)] at hp
    exact c_stone ok hM h ht hp (fun u' u3' M' t' b c d e => h1 u0 u' u3' M' o t' ho b c d e) (fun u' f pl a b => h0 u0 u3 u' f pl a b)
  rw [if_neg (show ¬ wdT T t = nI 1 from c)] at hp
  refine r_isAt (w := 5) (by omega) ht.1 ht.2 (fun c => ⟨fun z => absurd z (by decide), fun _ => ?_⟩) (fun c => ⟨fun _ => ?_, fun z => absurd rfl z⟩)
  · rw [if_pos (show wdT T t = nI 2 from c)] at hp
    exact c_persn ok hM h ht hp (fun u' u3' M' t' b c d e => h1 u0 u' u3' M' o t' ho b c d e) (fun u' f pl a b => h0 u0 u3 u' f pl a b)
  rw [if_neg (show ¬ wdT T t = nI 2 from c)] at hp
  refine r_isAt (w := 7) (by omega) ht.1 ht.2 (fun c => ⟨fun z => absurd z (by decide), fun _ => ?_⟩) (fun c => ⟨fun _ => ?_, fun z => absurd rfl z⟩)
  · rw [if_pos (show wdT T t = nI 3 from c)] at hp
    exact c_debt ok hM h ht hp (fun u' u3' M' t' b c d e => h1 u0 u' u3' M' o t' ho b c d e) (fun u' f pl a b => h0 u0 u3 u' f pl a b)
  rw [if_neg (show ¬ wdT T t = nI 3 from c)] at hp
  exact c_fail (why := 2) ht (by omega) (fun u' z => h0 u0 u3 u' _ _ z hp)
theorem c_atEnd {T : Nat → Nat} {n : Nat} {t : Tk} {u u1 : St} {post : Int32 → St → St → Prop} (ht : tC u T n t) (h1 : t.1 = 0 → post 1 u u1) (h0 : ¬ t.1 = 0 → post 0 u u1) : qX8_isAtEnd u u1 post := by
  unfold qX8_isAtEnd
  rw [ht.1.2.2.1, nI_z (by have := ht.2.1; omega)]
  exact ⟨fun c => ⟨Or.inl rfl, h0 c⟩, fun c => ⟨Or.inr rfl, h1 c⟩⟩
theorem ch_loop {R : Type} {r : R} {T : Nat → Nat} {n : Nat} {K : MH → R} {F : Nat → Nat → R} {u1 : St} {post : St → St → St → St → Prop} (h : txR (ga u1 0) T n) (h1 : ∀ u0' u' u3' M', gi u' 8 = 0 → okH M' → CH u3' M' → K M' = r → qX6_readHouse_b57 post u0' u' u1 u3') (h0 : ∀ u0' u3' u' f pl, fdC u' f pl → F f pl = r → qX6_readHouse_b57 post u0' u' u1 u3') : ∀ (m i : Nat) (M : MH) (o : Bool) (t : Tk) (u0 u u3 : St), i + m = 901 → okH M → CH u3 M → tC u T n t → (gi u0 3 = if o then 1 else 0) → pHs T n m M o t K F = r → qX6_readHouse_L19 post (m + 1) (nI i) u0 u u1 u3 := by
  intro m
  induction m with
  | zero =>
    intro i M o t u0 u u3 hi ok hM ht ho hp
    have : i = 901 := by omega
    subst this
    exact ⟨fun _ => h1 u0 u u3 M ht.1.2.1 ok hM hp, fun c => absurd (by decide) c⟩
  | succ m ih =>
    intro i M o t u0 u u3 hi ok hM ht ho hp
    rw [pHs] at hp
    refine ⟨fun c => absurd (i_lt _ _ |>.mp c) (by rw [nI_toInt (by omega), show ((900 : Int32).toInt) = 900 from rfl]; omega), fun _ => ⟨fun c => absurd ht.1.2.1 c, fun _ => ?_⟩⟩
    refine c_atEnd ht (fun c => ⟨fun _ => ?_, fun z => absurd z (by decide)⟩) (fun c => ⟨fun z => absurd rfl z, fun _ => ?_⟩)
    · rw [if_pos c] at hp
      exact h1 u0 u u3 M ht.1.2.1 ok hM hp
    · rw [if_neg c] at hp
      refine c_part ok hM h ht ho hp (fun u0' u' u3' M' o' t' a b c d e x ex => ?_) (fun u0' u3' u' f pl a b x ex => ?_)
      · rw [nI_1] at ex
        subst ex
        exact ih (i + 1) M' o' t' u0' u' u3' (by omega) c d b a e
      · exact ⟨fun _ => h0 u0' u3' u' f pl a b, fun _ => ⟨fun _ => h0 u0' u3' u' f pl a b, fun z => absurd z (fdC_n a)⟩⟩
