/-! STEPS 46: the class reads times -/
def CT (t : St) (N : MH) (n s : Nat) (P : Nat → Prop) : Prop := gi t 1 = nI s ∧ gi t 2 = nI n ∧ ∀ i, i < n → ga t 3 i = nI (N 0 i) ∧ ga t 4 i = nI (N 1 i) ∧ ga t 5 i = nI (N 2 i) ∧ ga t 6 i = nI (N 3 i) ∧ (N 0 i = 7 ∨ (9 ≤ N 0 i ∧ N 0 i ≤ 13) → ¬ P i → ga t 7 i = nI (N 4 i))
def opE (d : Nat) (O : Nat → Nat) (i : Nat) : Prop := ∃ e, e < d ∧ O e = i
def ctS (t : St) (S : TS) : Prop := CT t S.1 S.2.1 S.2.2.1 (opE S.2.2.2.1 S.2.2.2.2)
def coS (u : St) (S : TS) : Prop := gi u 2 = nI S.2.2.2.1 ∧ ∀ e, e < S.2.2.2.1 → ga u 1 e = nI (S.2.2.2.2 e)
theorem c_add {t : St} {N : MH} {n s k a b c : Nat} {P P' : Nat → Prop} {post : Int32 → St → Prop} (h : CT t N n s P) (hn : n < 60) (hP : ∀ i, i < n → P i → P' i) (hk : (k = 7 ∨ (9 ≤ k ∧ k ≤ 13)) → P' n) (fin : ∀ t', CT t' (adR N n k a b c) (n + 1) s P' → post (nI n) t') : qX7_add (nI k) (nI a) (nI b) (nI c) t post := by
  obtain ⟨g1, g2, hr⟩ := h
  have hin : vp_in (nI n) 60 := vp_in_nI (by omega) (by omega)
  have ec : (nI n).toNatClampNeg = n := nI_clamp (by omega)
  unfold qX7_add
  refine ⟨fun _ => ⟨by rw [g2]; exact hin, fun a1 e1 => ?_⟩, fun z => absurd (by rw [g2]; exact nI_lt (b := 60) hn (by omega)) z⟩
  have k1 : gi a1 2 = nI n := by rw [e1]; exact g2
  refine ⟨by rw [k1]; exact hin, fun a2 e2 => ?_⟩
  have k2 : gi a2 2 = nI n := by rw [e2]; exact k1
  refine ⟨by rw [k2]; exact hin, fun a3 e3 => ?_⟩
  have k3 : gi a3 2 = nI n := by rw [e3]; exact k2
  refine ⟨by rw [k3]; exact hin, fun a4 e4 => ?_⟩
  have k4 : gi a4 2 = nI n := by rw [e4]; exact k3
  refine ⟨by rw [k4]; exact hin, fun a5 e5 a6 e6 => ?_⟩
  have k5 : gi a5 2 = nI n := by rw [e5]; exact k4
  rw [g2, ec] at e1
  rw [k1, ec] at e2
  rw [k2, ec] at e3
  rw [k3, ec] at e4
  rw [k4, ec] at e5
  rw [k5, nI_1] at e6
  have k6 : gi a6 2 = nI (n + 1) := by rw [e6]; rfl
  rw [k6, nI_pred]
  have q3 : ∀ i, ga a6 3 i = if i = n then nI k else ga t 3 i := fun i => by
    rw [e6, ga_si, e5, ga_sw, if_neg (by omega), e4, ga_sw, if_neg (by omega), e3, ga_sw, if_neg (by omega), e2, ga_sw, if_neg (by omega), e1, ga_sw, if_pos rfl, upd_at]
  have q4 : ∀ i, ga a6 4 i = if i = n then nI a else ga t 4 i := fun i => by
    rw [e6, ga_si, e5, ga_sw, if_neg (by omega), e4, ga_sw, if_neg (by omega), e3, ga_sw, if_neg (by omega), e2, ga_sw, if_pos rfl, e1, ga_sw, if_neg (by omega), upd_at]
  have q5 : ∀ i, ga a6 5 i = if i = n then nI b else ga t 5 i := fun i => by
    rw [e6, ga_si, e5, ga_sw, if_neg (by omega), e4, ga_sw, if_neg (by omega), e3, ga_sw, if_pos rfl, e2, ga_sw, if_neg (by omega), e1, ga_sw, if_neg (by omega), upd_at]
  have q6 : ∀ i, ga a6 6 i = if i = n then nI c else ga t 6 i := fun i => by
    rw [e6, ga_si, e5, ga_sw, if_neg (by omega), e4, ga_sw, if_pos rfl, e3, ga_sw, if_neg (by omega), e2, ga_sw, if_neg (by omega), e1, ga_sw, if_neg (by omega), upd_at]
  have q7 : ∀ i, ga a6 7 i = if i = n then -1 else ga t 7 i := fun i => by
    rw [e6, ga_si, e5, ga_sw, if_pos rfl, e4, ga_sw, if_neg (by omega), e3, ga_sw, if_neg (by omega), e2, ga_sw, if_neg (by omega), e1, ga_sw, if_neg (by omega), upd_at]
  refine fin a6 ⟨?_, k6, fun i hi => ?_⟩
  · rw [e6, e5, e4, e3, e2, e1]; exact g1
  · rw [q3, q4, q5, q6, q7]
    by_cases e : i = n
    · subst e
      rw [if_pos rfl, if_pos rfl, if_pos rfl, if_pos rfl, adR_0, adR_1, adR_2, adR_3]
      exact ⟨rfl, rfl, rfl, rfl, fun z z2 => absurd (hk z) z2⟩
    · have := hr i (by omega)
      rw [if_neg e, if_neg e, if_neg e, if_neg e, if_neg e, adR_ne (Or.inl e), adR_ne (Or.inl e), adR_ne (Or.inl e), adR_ne (Or.inl e), adR_ne (Or.inl e)]
      exact ⟨this.1, this.2.1, this.2.2.1, this.2.2.2.1, fun z z2 => this.2.2.2.2 z (fun y => z2 (hP i (by omega) y))⟩
theorem c_addX {t : St} {n : Nat} {x y z w : Int32} {post : Int32 → St → Prop} (g2 : gi t 2 = nI n) (hn : n ≤ 60) (fin : ∀ r t' n', n' ≤ 60 → gi t' 2 = nI n' → post r t') : qX7_add x y z w t post := by
  refine ⟨fun c => ?_, fun _ => fin _ t n hn g2⟩
  have hn : n < 60 := by
    rw [g2, i_lt, nI_toInt (by omega), show (60 : Int32).toInt = 60 from rfl] at c
    omega
  have hin : vp_in (nI n) 60 := vp_in_nI (by omega) (by omega)
  refine ⟨by rw [g2]; exact hin, fun a1 e1 => ?_⟩
  have k1 : gi a1 2 = nI n := by rw [e1]; exact g2
  refine ⟨by rw [k1]; exact hin, fun a2 e2 => ?_⟩
  have k2 : gi a2 2 = nI n := by rw [e2]; exact k1
  refine ⟨by rw [k2]; exact hin, fun a3 e3 => ?_⟩
  have k3 : gi a3 2 = nI n := by rw [e3]; exact k2
  refine ⟨by rw [k3]; exact hin, fun a4 e4 => ?_⟩
  have k4 : gi a4 2 = nI n := by rw [e4]; exact k3
  refine ⟨by rw [k4]; exact hin, fun a5 e5 a6 e6 => ?_⟩
  have k5 : gi a5 2 = nI n := by rw [e5]; exact k4
  rw [k5, nI_1] at e6
  exact fin _ a6 (n + 1) (by omega) (by rw [e6]; rfl)
theorem c_join {t : St} {N : MH} {n s i j : Nat} {P P' : Nat → Prop} {post : St → Prop} (h : CT t N n s P) (hn : n ≤ 60) (hi : i < n) (hj : j < n) (hij : i ≠ j) (hP : ∀ x, P x → x ≠ i → x ≠ j → P' x) (fin : ∀ t', CT t' (mp (mp N 4 j i) 4 i j) n s P' → post t') : qX7_join (nI i) (nI j) t post := by
  obtain ⟨g1, g2, hr⟩ := h
  have e1 : (nI i).toNatClampNeg = i := nI_clamp (by omega)
  have e2 : (nI j).toNatClampNeg = j := nI_clamp (by omega)
  unfold qX7_join
  rw [g2, e1, e2]
  refine r_wn (by omega) (fun _ => ⟨fun z => absurd z (by decide), fun _ => ?_⟩) (fun z => absurd (inR_nI hi (by omega)) z)
  refine r_wn (by omega) (fun _ => ⟨fun z => absurd z (by decide), fun _ => ?_⟩) (fun z => absurd (inR_nI hj (by omega)) z)
  refine ⟨vp_in_nI (by omega) (by omega), fun a1 f1 => ⟨vp_in_nI (by omega) (by omega), fun a2 f2 => ?_⟩⟩
  have q : ∀ x y, x ≠ 7 → ga a2 x y = ga t x y := fun x y hx => by
    rw [f2, ga_sw, if_neg hx, f1, ga_sw, if_neg hx]
  have q7 : ∀ y, ga a2 7 y = if y = j then nI i else if y = i then nI j else ga t 7 y := fun y => by
    rw [f2, ga_sw, if_pos rfl, f1, ga_sw, if_pos rfl, upd_at, upd_at]
  refine fin a2 ⟨?_, ?_, fun y hy => ?_⟩
  · rw [f2, f1]; exact g1
  · rw [f2, f1]; exact g2
  · have := hr y hy
    rw [q 3 y (by omega), q 4 y (by omega), q 5 y (by omega), q 6 y (by omega), mp_ne (a := 0) (by omega), mp_ne (a := 0) (by omega), mp_ne (a := 1) (by omega), mp_ne (a := 1) (by omega), mp_ne (a := 2) (by omega), mp_ne (a := 2) (by omega), mp_ne (a := 3) (by omega), mp_ne (a := 3) (by omega)]
    refine ⟨this.1, this.2.1, this.2.2.1, this.2.2.2.1, fun z z2 => ?_⟩
    rw [q7]
    by_cases ej : y = j
    · subst ej
      rw [if_pos rfl, mp_ne (by omega), mp_eq]
    · by_cases ei : y = i
      · subst ei
        rw [if_neg ej, if_pos rfl, mp_eq]
      · rw [if_neg ej, if_neg ei, mp_ne (by omega), mp_ne (by omega)]
        exact this.2.2.2.2 z (fun p => z2 (hP y p ei ej))
theorem c_joinX {t : St} {n : Nat} {x y : Int32} {post : St → Prop} (g2 : gi t 2 = nI n) (hn : n ≤ 60) (fin : ∀ t', post t') : qX7_join x y t post := by
  unfold qX7_join
  rw [g2]
  refine r_wn (by omega) (fun hx => ⟨fun z => absurd z (by decide), fun _ => ?_⟩) (fun z => ⟨fun _ => fin t, fun z => absurd rfl z⟩)
  refine r_wn (by omega) (fun hy => ⟨fun z => absurd z (by decide), fun _ => ?_⟩) (fun z => ⟨fun _ => fin t, fun z => absurd rfl z⟩)
  obtain ⟨i, hi, rfl⟩ := hx.nat (by omega)
  obtain ⟨j, hj, rfl⟩ := hy.nat (by omega)
  exact ⟨vp_in_nI (by omega) (by omega), fun a1 f1 => ⟨vp_in_nI (by omega) (by omega), fun a2 f2 => fin a2⟩⟩
theorem c_addS {t : St} {S : TS} {g : Bool} {k a b c : Nat} {post : Int32 → St → Prop} (h : ctS t S) (hn : S.2.1 < 60) (hg : g = false → k ≤ 6) (fin : ∀ t', CT t' (tsA S g k a b c).1 (S.2.1 + 1) S.2.2.1 (opE (tsA S g k a b c).2.2.2.1 (tsA S g k a b c).2.2.2.2) → post (nI S.2.1) t') : qX7_add (nI k) (nI a) (nI b) (nI c) t post := by
  refine c_add h hn (fun i hi hp => ?_) (fun hk => ?_) fin
  · obtain ⟨e, he, q⟩ := hp
    cases g with
    | false => exact ⟨e, he, q⟩
    | true =>
      refine ⟨e, Nat.lt_succ_of_lt he, ?_⟩
      show upN S.2.2.2.2 S.2.2.2.1 S.2.1 e = i
      unfold upN
      rw [if_neg (by omega)]
      exact q
  · cases g with
    | false =>
      have := hg rfl
      omega
    | true => exact ⟨S.2.2.2.1, Nat.lt_succ_self _, if_pos rfl⟩
theorem it_60 {M : MH} {S : TS} (h : iT M S) : S.2.1 ≤ 60 ∧ (S.2.2.1 < 30 → S.2.1 < 60) ∧ (0 < S.2.2.2.1 → S.2.1 < 60) := by
  have h1 := h.1
  have h2 := h.2.1
  exact ⟨by omega, fun _ => by omega, fun _ => by omega⟩

theorem c_cmp2 {R : Type} {r : R} {T : Nat → Nat} {n : Nat} {t : Tk} {K : Nat → Tk → R} {F : Nat → Nat → R} {u u1 : St} {post : Int32 → St → St → Prop} (h : txR (ga u1 0) T n) (ht : tC u T n t) (hp : pCm T n t K F = r) (h1 : t.1 = 3 ∧ t.2.2.2 ≠ 59 → ∀ u', tC u' T n (nxT T n t) → K t.2.2.2 (nxT T n t) = r → post (nI t.2.2.2) u' u1) (h0 : ∀ u' f pl, fdC u' f pl → F f pl = r → post (-1) u' u1) : qX8_takeCompare u u1 post := by
  have hv := ht.2.2.2.2.2
  unfold pCm at hp
  refine ⟨fun c => absurd ht.1.2.1 c, fun _ => ?_⟩
  rw [ht.1.2.2.1, show (3 : Int32) = nI 3 from rfl, nI_eq (by have := ht.2.1; omega) (by omega)]
  refine ⟨fun c => c_fail (why := 2) ht (by omega) (fun u' q => h0 u' _ _ q (by rw [if_neg (fun z => c z.1)] at hp; exact hp)), fun c => ?_⟩
  have e5 : gi u 5 = nI t.2.2.2 := by
    have := ht.1.2.2.2.2.2.1 (Or.inr c)
    rw [c] at this
    exact this
  rw [e5, show (59 : Int32) = nI 59 from rfl, nI_eq (by omega) (by omega)]
  refine ⟨fun c2 x ex => ?_, fun c2 => c_fail (why := 2) ht (by omega) (fun u' q => h0 u' _ _ q (by rw [if_neg (fun z => z.2 c2)] at hp; exact hp))⟩
  subst ex
  exact c_next h ht (fun u' q => h1 ⟨c, c2⟩ u' q (by rw [if_pos ⟨c, c2⟩] at hp; exact hp))

theorem c_test {R : Type} {r : R} {T : Nat → Nat} {n : Nat} {M : MH} {S : TS} {t : Tk} {K : Nat → Nat → Nat → Nat → Tk → R} {F : Nat → Nat → R} {u0 u u1 u3 u4 : St} {post : Int32 → St → St → St → St → St → Prop} (ok : okH M) (hM : CH u3 M) (h : txR (ga u1 0) T n) (ht : tC u T n t) (h4 : ctS u4 S) (hn : S.2.1 < 60) (hp : pTs T n M t K F = r) (h1 : ∀ u' u4' k' a b c t', tC u' T n t' → rwk M k' a b c → (bkK k') → CT u4' (tsA S true k' a b c).1 (S.2.1 + 1) S.2.2.1 (opE (tsA S true k' a b c).2.2.2.1 (tsA S true k' a b c).2.2.2.2) → K k' a b c t' = r → post (nI S.2.1) u0 u' u1 u3 u4') (h0 : ∀ x u' u4' f pl, fdC u' f pl → F f pl = r → post x u0 u' u1 u3 u4') : qX6_readTest u0 u u1 u3 u4 post := by
  unfold pTs at hp
  have h8 := ok.1
  have h5 := ok.2.1
  have g2 := h4.2.1
  have fa : ∀ (x y z w : Int32) (u : St) (f pl : Nat), fdC u f pl → F f pl = r → qX7_add x y z w u4 (fun r' u' => post r' u0 u u1 u3 u') := fun x y z w u f pl hf e => c_addX g2 (by omega) (fun r' t' _ _ _ => h0 r' u t' f pl hf e)
  have ad : ∀ (k a b c : Nat) (u : St) (t : Tk), tC u T n t → rwk M k a b c → bkK k → K k a b c t = r → qX7_add (nI k) (nI a) (nI b) (nI c) u4 (fun r' u' => post r' u0 u u1 u3 u') := fun k a b c u t ht hw hk e => c_addS (g := true) h4 hn (fun z => absurd z (by decide)) (fun t' hc => h1 u t' k a b c t ht hw hk hc e)
  have es : (gi u3 0 - 1).toInt = (M 0 0 : Int) - 1 := by
    rw [show gi u3 0 = nI (M 0 0) from ch_k hM (by omega)]
    exact pk_sub_toInt (a := M 0 0) (b := 1) (by omega) (by omega)
  refine c_takeIf (w := 20) h (by omega) ht hp (fun u ht hp => ⟨fun z => absurd z (by decide), fun _ => ?_⟩) (fun hp => ⟨fun _ => ?_, fun z => absurd rfl z⟩)
  · refine c_num (l := 0) h ht rfl es hp (fun u a t ht a1 a2 hp => ad 9 a 0 0 u t ht ⟨⟨1923, by unfold kR; omega⟩, by omega, by omega, by omega, by omega, by omega, by omega, by omega, by omega, by omega⟩ (by omega) hp) (fun u f pl hf e => fa _ _ _ _ u f pl hf e)
  refine c_takeIf (w := 21) h (by omega) ht hp (fun u ht hp => ⟨fun z => absurd z (by decide), fun _ => ?_⟩) (fun hp => ⟨fun _ => ?_, fun z => absurd rfl z⟩)
  · refine c_num (l := 0) (g := 6) h ht rfl rfl hp (fun u a t ht a1 a2 hp => ad 10 a 0 0 u t ht ⟨⟨1924, by unfold kR; omega⟩, by omega, by omega, by omega, by omega, by omega, by omega, by omega, by omega, by omega⟩ (by omega) hp) (fun u f pl hf e => fa _ _ _ _ u f pl hf e)
  refine c_takeIf (w := 6) h (by omega) ht hp (fun u ht hp => ⟨fun z => absurd z (by decide), fun _ => ?_⟩) (fun hp => ⟨fun _ => ?_, fun z => absurd rfl z⟩)
  · refine c_takePerson (but := 99) ok hM h ht (fun p hp => ⟨fun z => absurd z (nI_m1 (by omega)), fun z => by omega⟩) (pPe_2 hp) (fun u p t ht hq _ hp => ?_) (fun u f pl hf e => f_cmp hf (f_takeNumber hf (fa _ _ _ _ u f pl hf (congrArg Prod.fst e))))
    have et := congrArg Prod.snd hp
    have hp := congrArg Prod.fst hp
    dsimp only at hp et
    have sg : sgT t := by
      rw [show t = _ from et]
      exact tok_sg _ _ _
    refine c_cmp2 h ht hp (fun c3 u ht' hp => ?_) (fun u f pl hf e => f_takeNumber hf (fa _ _ _ _ u f pl hf e))
    have hc : t.2.2.2 ≤ 255 := by
      have := sg c3.1
      omega
    refine c_num (l := 0) (g := 9999) h ht' rfl rfl hp (fun u a t ht a1 a2 hp => ad 11 p a _ u t ht ⟨⟨1907, by unfold kR; omega⟩, by omega, by omega, hc, by omega, by omega, by omega, by omega, by omega, by omega⟩ (by omega) hp) (fun u f pl hf e => fa _ _ _ _ u f pl hf e)
  refine c_take (w := 12) h (by omega) ht hp (fun u ht hp => ?_) (fun u f pl hf e => f_takeNumber hf (f_cmp hf (f_takeNumber hf (fa _ _ _ _ u f pl hf e))))
  refine c_num (l := 0) (g := 6) h ht rfl rfl (pNu_2 hp) (fun u p t ht p1 p2 hp => ?_) (fun u f pl hf e => f_cmp hf (f_takeNumber hf (fa _ _ _ _ u f pl hf (congrArg Prod.fst e))))
  have et := congrArg Prod.snd hp
  have hp := congrArg Prod.fst hp
  dsimp only at hp et
  have sg : sgT t := by
    rw [show t = _ from et]
    exact tok_sg _ _ _
  refine c_cmp2 h ht hp (fun c3 u ht' hp => ?_) (fun u f pl hf e => f_takeNumber hf (fa _ _ _ _ u f pl hf e))
  have hc : t.2.2.2 ≤ 255 := by
    have := sg c3.1
    omega
  refine c_num (l := 0) (g := 999) h ht' rfl rfl hp (fun u a t ht a1 a2 hp => ad 12 p a _ u t ht ⟨⟨1912, by unfold kR; omega⟩, by omega, by omega, hc, by omega, by omega, by omega, by omega, by omega, by omega⟩ (by omega) hp) (fun u f pl hf e => fa _ _ _ _ u f pl hf e)

theorem c_act0 {R : Type} {r : R} {T : Nat → Nat} {n : Nat} {M : MH} {S : TS} {t : Tk} {K : Nat → Nat → Nat → Nat → Tk → R} {F : Nat → Nat → R} {u0 u u1 u3 u4 : St} {post : Int32 → St → St → St → St → St → Prop} (ok : okH M) (hM : CH u3 M) (h : txR (ga u1 0) T n) (ht : tC u T n t) (h4 : ctS u4 S) (hn : S.2.1 < 60) (hp : pAc T n M 0 t K F = r) (h1 : ∀ u' u4' k' a b c t', tC u' T n t' → rwk M k' a b c → (k' ≤ 6) → CT u4' (tsA S false k' a b c).1 (S.2.1 + 1) S.2.2.1 (opE (tsA S false k' a b c).2.2.2.1 (tsA S false k' a b c).2.2.2.2) → K k' a b c t' = r → post (nI S.2.1) u0 u' u1 u3 u4') (h0 : ∀ x u' u4' f pl, fdC u' f pl → F f pl = r → post x u0 u' u1 u3 u4') : qX6_readAct 0 u0 u u1 u3 u4 post := by
  rw [pAc] at hp
  have h8 := ok.1
  have h5 := ok.2.1
  have g2 := h4.2.1
  have fa : ∀ (x y z w : Int32) (u : St) (f pl : Nat), fdC u f pl → F f pl = r → qX7_add x y z w u4 (fun r' u' => post r' u0 u u1 u3 u') := fun x y z w u f pl hf e => c_addX g2 (by omega) (fun r' t' _ _ _ => h0 r' u t' f pl hf e)
  have ad : ∀ (a b : Nat) (u : St) (t : Tk), tC u T n t → rwk M 0 a b 0 → K 0 a b 0 t = r → qX7_add (nI 0) (nI a) (nI b) (nI 0) u4 (fun r' u' => post r' u0 u u1 u3 u') := fun a b u t ht hw e => c_addS (g := false) h4 hn (fun z => by omega) (fun t' hc => h1 u t' 0 a b 0 t ht hw (by omega) hc e)
  refine ⟨fun _ => ?_, fun z => absurd z (by decide), fun z => absurd z (by decide), fun z => absurd z (by decide), fun z => absurd z (by decide), fun z => absurd z (by decide), fun z => absurd z (by decide), fun z => absurd z (by decide), fun z => absurd rfl z⟩
  exact c_num (l := 1) (g := 20) h ht rfl rfl hp (fun u a t ht a1 a2 hp => ad a 0 u t ht ⟨⟨13, by unfold kR; omega⟩, by omega, by omega, by omega, by omega, by omega, by omega, by omega, by omega, by omega⟩ hp) (fun u f pl hf e => fa _ _ _ _ u f pl hf e)
theorem c_act1 {R : Type} {r : R} {T : Nat → Nat} {n : Nat} {M : MH} {S : TS} {t : Tk} {K : Nat → Nat → Nat → Nat → Tk → R} {F : Nat → Nat → R} {u0 u u1 u3 u4 : St} {post : Int32 → St → St → St → St → St → Prop} (ok : okH M) (hM : CH u3 M) (h : txR (ga u1 0) T n) (ht : tC u T n t) (h4 : ctS u4 S) (hn : S.2.1 < 60) (hp : pAc T n M 1 t K F = r) (h1 : ∀ u' u4' k' a b c t', tC u' T n t' → rwk M k' a b c → (k' ≤ 6) → CT u4' (tsA S false k' a b c).1 (S.2.1 + 1) S.2.2.1 (opE (tsA S false k' a b c).2.2.2.1 (tsA S false k' a b c).2.2.2.2) → K k' a b c t' = r → post (nI S.2.1) u0 u' u1 u3 u4') (h0 : ∀ x u' u4' f pl, fdC u' f pl → F f pl = r → post x u0 u' u1 u3 u4') : qX6_readAct 1 u0 u u1 u3 u4 post := by
  rw [pAc] at hp
  have h8 := ok.1
  have h5 := ok.2.1
  have g2 := h4.2.1
  have fa : ∀ (x y z w : Int32) (u : St) (f pl : Nat), fdC u f pl → F f pl = r → qX7_add x y z w u4 (fun r' u' => post r' u0 u u1 u3 u') := fun x y z w u f pl hf e => c_addX g2 (by omega) (fun r' t' _ _ _ => h0 r' u t' f pl hf e)
  have ad : ∀ (a b : Nat) (u : St) (t : Tk), tC u T n t → rwk M 1 a b 0 → K 1 a b 0 t = r → qX7_add (nI 1) (nI a) (nI b) (nI 0) u4 (fun r' u' => post r' u0 u u1 u3 u') := fun a b u t ht hw e => c_addS (g := false) h4 hn (fun z => by omega) (fun t' hc => h1 u t' 1 a b 0 t ht hw (by omega) hc e)
  refine ⟨fun z => absurd z (by decide), fun _ => ?_, fun z => absurd z (by decide), fun z => absurd z (by decide), fun z => absurd z (by decide), fun z => absurd z (by decide), fun z => absurd z (by decide), fun z => absurd z (by decide), fun _ z => absurd rfl z⟩
  exact c_num (l := 0) (g := 6) h ht rfl rfl hp (fun u a t ht a1 a2 hp => ad a 0 u t ht ⟨⟨14, by unfold kR; omega⟩, by omega, by omega, by omega, by omega, by omega, by omega, by omega, by omega, by omega⟩ hp) (fun u f pl hf e => fa _ _ _ _ u f pl hf e)
theorem c_act2 {R : Type} {r : R} {T : Nat → Nat} {n : Nat} {M : MH} {S : TS} {t : Tk} {K : Nat → Nat → Nat → Nat → Tk → R} {F : Nat → Nat → R} {u0 u u1 u3 u4 : St} {post : Int32 → St → St → St → St → St → Prop} (ok : okH M) (hM : CH u3 M) (h : txR (ga u1 0) T n) (ht : tC u T n t) (h4 : ctS u4 S) (hn : S.2.1 < 60) (hp : pAc T n M 2 t K F = r) (h1 : ∀ u' u4' k' a b c t', tC u' T n t' → rwk M k' a b c → (k' ≤ 6) → CT u4' (tsA S false k' a b c).1 (S.2.1 + 1) S.2.2.1 (opE (tsA S false k' a b c).2.2.2.1 (tsA S false k' a b c).2.2.2.2) → K k' a b c t' = r → post (nI S.2.1) u0 u' u1 u3 u4') (h0 : ∀ x u' u4' f pl, fdC u' f pl → F f pl = r → post x u0 u' u1 u3 u4') : qX6_readAct 2 u0 u u1 u3 u4 post := by
  rw [pAc] at hp
  have h8 := ok.1
  have h5 := ok.2.1
  have g2 := h4.2.1
  have fa : ∀ (x y z w : Int32) (u : St) (f pl : Nat), fdC u f pl → F f pl = r → qX7_add x y z w u4 (fun r' u' => post r' u0 u u1 u3 u') := fun x y z w u f pl hf e => c_addX g2 (by omega) (fun r' t' _ _ _ => h0 r' u t' f pl hf e)
  have ad : ∀ (a b : Nat) (u : St) (t : Tk), tC u T n t → rwk M 2 a b 0 → K 2 a b 0 t = r → qX7_add (nI 2) (nI a) (nI b) (nI 0) u4 (fun r' u' => post r' u0 u u1 u3 u') := fun a b u t ht hw e => c_addS (g := false) h4 hn (fun z => by omega) (fun t' hc => h1 u t' 2 a b 0 t ht hw (by omega) hc e)
  refine ⟨fun z => absurd z (by decide), fun z => absurd z (by decide), fun _ => ?_, fun z => absurd z (by decide), fun z => absurd z (by decide), fun z => absurd z (by decide), fun z => absurd z (by decide), fun z => absurd z (by decide), fun _ _ z => absurd rfl z⟩
  refine c_num (l := 0) (g := 6) h ht rfl rfl hp (fun u a t ht a1 a2 hp => ?_) (fun u f pl hf e => f_takeNumber hf (fa _ _ _ _ u f pl hf e))
  exact c_num (l := 1) (g := 99) h ht rfl rfl hp (fun u b t ht b1 b2 hp => ad a b u t ht ⟨⟨15, by unfold kR; omega⟩, by omega, by omega, by omega, by omega, by omega, by omega, by omega, by omega, by omega⟩ hp) (fun u f pl hf e => fa _ _ _ _ u f pl hf e)
theorem c_act3 {R : Type} {r : R} {T : Nat → Nat} {n : Nat} {M : MH} {S : TS} {t : Tk} {K : Nat → Nat → Nat → Nat → Tk → R} {F : Nat → Nat → R} {u0 u u1 u3 u4 : St} {post : Int32 → St → St → St → St → St → Prop} (ok : okH M) (hM : CH u3 M) (h : txR (ga u1 0) T n) (ht : tC u T n t) (h4 : ctS u4 S) (hn : S.2.1 < 60) (hp : pAc T n M 3 t K F = r) (h1 : ∀ u' u4' k' a b c t', tC u' T n t' → rwk M k' a b c → (k' ≤ 6) → CT u4' (tsA S false k' a b c).1 (S.2.1 + 1) S.2.2.1 (opE (tsA S false k' a b c).2.2.2.1 (tsA S false k' a b c).2.2.2.2) → K k' a b c t' = r → post (nI S.2.1) u0 u' u1 u3 u4') (h0 : ∀ x u' u4' f pl, fdC u' f pl → F f pl = r → post x u0 u' u1 u3 u4') : qX6_readAct 3 u0 u u1 u3 u4 post := by
  rw [pAc] at hp
  have h8 := ok.1
  have h5 := ok.2.1
  have g2 := h4.2.1
  have fa : ∀ (x y z w : Int32) (u : St) (f pl : Nat), fdC u f pl → F f pl = r → qX7_add x y z w u4 (fun r' u' => post r' u0 u u1 u3 u') := fun x y z w u f pl hf e => c_addX g2 (by omega) (fun r' t' _ _ _ => h0 r' u t' f pl hf e)
  have ad : ∀ (a b : Nat) (u : St) (t : Tk), tC u T n t → rwk M 3 a b 0 → K 3 a b 0 t = r → qX7_add (nI 3) (nI a) (nI b) (nI 0) u4 (fun r' u' => post r' u0 u u1 u3 u') := fun a b u t ht hw e => c_addS (g := false) h4 hn (fun z => by omega) (fun t' hc => h1 u t' 3 a b 0 t ht hw (by omega) hc e)
  refine ⟨fun z => absurd z (by decide), fun z => absurd z (by decide), fun z => absurd z (by decide), fun _ => ?_, fun z => absurd z (by decide), fun z => absurd z (by decide), fun z => absurd z (by decide), fun z => absurd z (by decide), fun _ _ _ z => absurd rfl z⟩
  have es : (gi u3 0 - 1).toInt = (M 0 0 : Int) - 1 := by
    rw [show gi u3 0 = nI (M 0 0) from ch_k hM (by omega)]
    exact pk_sub_toInt (a := M 0 0) (b := 1) (by omega) (by omega)
  exact c_num (l := 0) h ht rfl es hp (fun u a t ht a1 a2 hp => ad a 0 u t ht ⟨⟨16, by unfold kR; omega⟩, by omega, by omega, by omega, by omega, by omega, by omega, by omega, by omega, by omega⟩ hp) (fun u f pl hf e => fa _ _ _ _ u f pl hf e)
theorem c_act4 {R : Type} {r : R} {T : Nat → Nat} {n : Nat} {M : MH} {S : TS} {t : Tk} {K : Nat → Nat → Nat → Nat → Tk → R} {F : Nat → Nat → R} {u0 u u1 u3 u4 : St} {post : Int32 → St → St → St → St → St → Prop} (ok : okH M) (hM : CH u3 M) (h : txR (ga u1 0) T n) (ht : tC u T n t) (h4 : ctS u4 S) (hn : S.2.1 < 60) (hp : pAc T n M 4 t K F = r) (h1 : ∀ u' u4' k' a b c t', tC u' T n t' → rwk M k' a b c → (k' ≤ 6) → CT u4' (tsA S false k' a b c).1 (S.2.1 + 1) S.2.2.1 (opE (tsA S false k' a b c).2.2.2.1 (tsA S false k' a b c).2.2.2.2) → K k' a b c t' = r → post (nI S.2.1) u0 u' u1 u3 u4') (h0 : ∀ x u' u4' f pl, fdC u' f pl → F f pl = r → post x u0 u' u1 u3 u4') : qX6_readAct 4 u0 u u1 u3 u4 post := by
  rw [pAc] at hp
  have h8 := ok.1
  have h5 := ok.2.1
  have g2 := h4.2.1
  have fa : ∀ (x y z w : Int32) (u : St) (f pl : Nat), fdC u f pl → F f pl = r → qX7_add x y z w u4 (fun r' u' => post r' u0 u u1 u3 u') := fun x y z w u f pl hf e => c_addX g2 (by omega) (fun r' t' _ _ _ => h0 r' u t' f pl hf e)
  have ad : ∀ (a b : Nat) (u : St) (t : Tk), tC u T n t → rwk M 4 a b 0 → K 4 a b 0 t = r → qX7_add (nI 4) (nI a) (nI b) (nI 0) u4 (fun r' u' => post r' u0 u u1 u3 u') := fun a b u t ht hw e => c_addS (g := false) h4 hn (fun z => by omega) (fun t' hc => h1 u t' 4 a b 0 t ht hw (by omega) hc e)
  refine ⟨fun z => absurd z (by decide), fun z => absurd z (by decide), fun z => absurd z (by decide), fun z => absurd z (by decide), fun _ => ?_, fun z => absurd z (by decide), fun z => absurd z (by decide), fun z => absurd z (by decide), fun _ _ _ _ z => absurd rfl z⟩
  refine c_takePerson (but := 99) ok hM h ht (fun p hp => ⟨fun z => absurd z (nI_m1 (by omega)), fun z => by omega⟩) hp (fun u a t ht ha _ hp => ?_) (fun u f pl hf e => f_takeNumber hf (fa _ _ _ _ u f pl hf e))
  exact c_num (l := 1) (g := 99) h ht rfl rfl hp (fun u b t ht b1 b2 hp => ad a b u t ht ⟨⟨17, by unfold kR; omega⟩, by omega, by omega, by omega, by omega, by omega, by omega, by omega, by omega, by omega⟩ hp) (fun u f pl hf e => fa _ _ _ _ u f pl hf e)
theorem c_act5 {R : Type} {r : R} {T : Nat → Nat} {n : Nat} {M : MH} {S : TS} {t : Tk} {K : Nat → Nat → Nat → Nat → Tk → R} {F : Nat → Nat → R} {u0 u u1 u3 u4 : St} {post : Int32 → St → St → St → St → St → Prop} (ok : okH M) (hM : CH u3 M) (h : txR (ga u1 0) T n) (ht : tC u T n t) (h4 : ctS u4 S) (hn : S.2.1 < 60) (hp : pAc T n M 5 t K F = r) (h1 : ∀ u' u4' k' a b c t', tC u' T n t' → rwk M k' a b c → (k' ≤ 6) → CT u4' (tsA S false k' a b c).1 (S.2.1 + 1) S.2.2.1 (opE (tsA S false k' a b c).2.2.2.1 (tsA S false k' a b c).2.2.2.2) → K k' a b c t' = r → post (nI S.2.1) u0 u' u1 u3 u4') (h0 : ∀ x u' u4' f pl, fdC u' f pl → F f pl = r → post x u0 u' u1 u3 u4') : qX6_readAct 5 u0 u u1 u3 u4 post := by
  rw [pAc] at hp
  have h8 := ok.1
  have h5 := ok.2.1
  have g2 := h4.2.1
  have fa : ∀ (x y z w : Int32) (u : St) (f pl : Nat), fdC u f pl → F f pl = r → qX7_add x y z w u4 (fun r' u' => post r' u0 u u1 u3 u') := fun x y z w u f pl hf e => c_addX g2 (by omega) (fun r' t' _ _ _ => h0 r' u t' f pl hf e)
  have ad : ∀ (a b : Nat) (u : St) (t : Tk), tC u T n t → rwk M 5 a b 0 → K 5 a b 0 t = r → qX7_add (nI 5) (nI a) (nI b) (nI 0) u4 (fun r' u' => post r' u0 u u1 u3 u') := fun a b u t ht hw e => c_addS (g := false) h4 hn (fun z => by omega) (fun t' hc => h1 u t' 5 a b 0 t ht hw (by omega) hc e)
  refine ⟨fun z => absurd z (by decide), fun z => absurd z (by decide), fun z => absurd z (by decide), fun z => absurd z (by decide), fun z => absurd z (by decide), fun _ => ?_, fun z => absurd z (by decide), fun z => absurd z (by decide), fun _ _ _ _ _ z => absurd rfl z⟩
  exact ad 0 0 u t ht ⟨⟨18, by unfold kR; omega⟩, by omega, by omega, by omega, by omega, by omega, by omega, by omega, by omega, by omega⟩ hp
theorem c_act6 {R : Type} {r : R} {T : Nat → Nat} {n : Nat} {M : MH} {S : TS} {t : Tk} {K : Nat → Nat → Nat → Nat → Tk → R} {F : Nat → Nat → R} {u0 u u1 u3 u4 : St} {post : Int32 → St → St → St → St → St → Prop} (ok : okH M) (hM : CH u3 M) (h : txR (ga u1 0) T n) (ht : tC u T n t) (h4 : ctS u4 S) (hn : S.2.1 < 60) (hp : pAc T n M 6 t K F = r) (h1 : ∀ u' u4' k' a b c t', tC u' T n t' → rwk M k' a b c → (k' ≤ 6) → CT u4' (tsA S false k' a b c).1 (S.2.1 + 1) S.2.2.1 (opE (tsA S false k' a b c).2.2.2.1 (tsA S false k' a b c).2.2.2.2) → K k' a b c t' = r → post (nI S.2.1) u0 u' u1 u3 u4') (h0 : ∀ x u' u4' f pl, fdC u' f pl → F f pl = r → post x u0 u' u1 u3 u4') : qX6_readAct 6 u0 u u1 u3 u4 post := by
  rw [pAc] at hp
  have h8 := ok.1
  have h5 := ok.2.1
  have g2 := h4.2.1
  have fa : ∀ (x y z w : Int32) (u : St) (f pl : Nat), fdC u f pl → F f pl = r → qX7_add x y z w u4 (fun r' u' => post r' u0 u u1 u3 u') := fun x y z w u f pl hf e => c_addX g2 (by omega) (fun r' t' _ _ _ => h0 r' u t' f pl hf e)
  have ad : ∀ (a b : Nat) (u : St) (t : Tk), tC u T n t → rwk M 6 a b 0 → K 6 a b 0 t = r → qX7_add (nI 6) (nI a) (nI b) (nI 0) u4 (fun r' u' => post r' u0 u u1 u3 u') := fun a b u t ht hw e => c_addS (g := false) h4 hn (fun z => by omega) (fun t' hc => h1 u t' 6 a b 0 t ht hw (by omega) hc e)
  refine ⟨fun z => absurd z (by decide), fun z => absurd z (by decide), fun z => absurd z (by decide), fun z => absurd z (by decide), fun z => absurd z (by decide), fun z => absurd z (by decide), fun _ => ?_, fun z => absurd z (by decide), fun _ _ _ _ _ _ z => absurd rfl z⟩
  exact ad 0 0 u t ht ⟨⟨22, by unfold kR; omega⟩, by omega, by omega, by omega, by omega, by omega, by omega, by omega, by omega, by omega⟩ hp
theorem c_act7 {R : Type} {r : R} {T : Nat → Nat} {n : Nat} {M : MH} {S : TS} {t : Tk} {K : Nat → Nat → Nat → Nat → Tk → R} {F : Nat → Nat → R} {u0 u u1 u3 u4 : St} {post : Int32 → St → St → St → St → St → Prop} (ok : okH M) (hM : CH u3 M) (h : txR (ga u1 0) T n) (ht : tC u T n t) (h4 : ctS u4 S) (hn : S.2.1 < 60) (hp : pAc T n M 7 t K F = r) (h1 : ∀ u' u4' k' a b c t', tC u' T n t' → rwk M k' a b c → (bkK k') → CT u4' (tsA S true k' a b c).1 (S.2.1 + 1) S.2.2.1 (opE (tsA S true k' a b c).2.2.2.1 (tsA S true k' a b c).2.2.2.2) → K k' a b c t' = r → post (nI S.2.1) u0 u' u1 u3 u4') (h0 : ∀ x u' u4' f pl, fdC u' f pl → F f pl = r → post x u0 u' u1 u3 u4') : qX6_readAct 7 u0 u u1 u3 u4 post := by
  rw [pAc] at hp
  have h8 := ok.1
  have h5 := ok.2.1
  have g2 := h4.2.1
  have fa : ∀ (x y z w : Int32) (u : St) (f pl : Nat), fdC u f pl → F f pl = r → qX7_add x y z w u4 (fun r' u' => post r' u0 u u1 u3 u') := fun x y z w u f pl hf e => c_addX g2 (by omega) (fun r' t' _ _ _ => h0 r' u t' f pl hf e)
  have ad : ∀ (a b : Nat) (u : St) (t : Tk), tC u T n t → rwk M 7 a b 0 → K 7 a b 0 t = r → qX7_add (nI 7) (nI a) (nI b) (nI 0) u4 (fun r' u' => post r' u0 u u1 u3 u') := fun a b u t ht hw e => c_addS (g := true) h4 hn (fun z => absurd z (by decide)) (fun t' hc => h1 u t' 7 a b 0 t ht hw (by omega) hc e)
  refine ⟨fun z => absurd z (by decide), fun z => absurd z (by decide), fun z => absurd z (by decide), fun z => absurd z (by decide), fun z => absurd z (by decide), fun z => absurd z (by decide), fun z => absurd z (by decide), fun _ => ?_, fun _ _ _ _ _ _ _ z => absurd rfl z⟩
  exact c_num (l := 1) (g := 99) h ht rfl rfl hp (fun u a t ht a1 a2 hp => ad a 0 u t ht ⟨⟨20, by unfold kR; omega⟩, by omega, by omega, by omega, by omega, by omega, by omega, by omega, by omega, by omega⟩ hp) (fun u f pl hf e => fa _ _ _ _ u f pl hf e)
