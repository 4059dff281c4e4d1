/-! STEPS 36: reading as a function of the text; the class's words for it -/
abbrev Tk : Type := Nat × Nat × Nat × Nat
def pWd {R : Type} (T : Nat → Nat) (n w : Nat) (t : Tk) (K : Tk → R) (F : Nat → Nat → R) : R := if wdT T t = nI w then K (nxT T n t) else F (fltT t 2) t.2.1
def pIf {R : Type} (T : Nat → Nat) (n w : Nat) (t : Tk) (K1 K0 : Tk → R) : R := if wdT T t = nI w then K1 (nxT T n t) else K0 t
def pNu {R : Type} (T : Nat → Nat) (n : Nat) (lo hi : Int) (t : Tk) (K : Nat → Tk → R) (F : Nat → Nat → R) : R := if t.1 = 2 then (if lo ≤ (t.2.2.2 : Int) ∧ (t.2.2.2 : Int) ≤ hi then K t.2.2.2 (nxT T n t) else F 4 t.2.1) else F (fltT t 2) t.2.1
def pSm {R : Type} (T : Nat → Nat) (n : Nat) (t : Tk) (K : Tk → R) (F : Nat → Nat → R) : R := if t.1 = 3 ∧ t.2.2.2 = 59 then K (nxT T n t) else F (fltT t 2) t.2.1
def pCm {R : Type} (T : Nat → Nat) (n : Nat) (t : Tk) (K : Nat → Tk → R) (F : Nat → Nat → R) : R := if t.1 = 3 ∧ t.2.2.2 ≠ 59 then K t.2.2.2 (nxT T n t) else F (fltT t 2) t.2.1
/-- a name stands there; its number -/
abbrev nmB (T : Nat → Nat) (t : Tk) : Prop := t.1 = 1 ∧ t.2.2.1 - t.2.1 ≤ 8 ∧ wdT T t = -1
def nmC (T : Nat → Nat) (t : Tk) : Nat := c32 T t.2.1 (t.2.2.1 - t.2.1)
/-- the first person of a name, from the i-th on -/
def fnd (M : MH) (c : Nat) : Nat → Nat → Nat
  | 0, i => i
  | m + 1, i => if M 13 i = c then i else fnd M c m (i + 1)
def pPe {R : Type} (T : Nat → Nat) (n : Nat) (M : MH) (but : Nat) (t : Tk) (K : Nat → Tk → R) (F : Nat → Nat → R) : R := if nmB T t then (if fnd M (nmC T t) (M 1 0) 0 < M 1 0 then (if fnd M (nmC T t) (M 1 0) 0 = but then F 5 t.2.1 else K (fnd M (nmC T t) (M 1 0) 0) (nxT T n t)) else F 3 t.2.1) else F (fltT t 2) t.2.1
/-- the class at a token -/
def tC (u : St) (T : Nat → Nat) (n : Nat) (t : Tk) : Prop := tkC u T n t ∧ tkO T n t
theorem c_next {T : Nat → Nat} {n : Nat} {t : Tk} {u u1 : St} {post : St → St → Prop} (h : txR (ga u1 0) T n) (ht : tC u T n t) (h1 : ∀ u', tC u' T n (nxT T n t) → post u' u1) : qX8_advance u u1 post := r_next h ht.1 ht.2 (fun u' q => h1 u' ⟨q, nxT_ok ht.2⟩)
theorem c_fail {T : Nat → Nat} {n why : Nat} {t : Tk} {u u1 : St} {post : Int32 → St → St → Prop} (ht : tC u T n t) (hw : 1 ≤ why ∧ why ≤ 7) (fin : ∀ u', fdC u' (fltT t why) t.2.1 → post (-1) u' u1) : qX8_fail (nI why) u u1 post := r_fail ht.1 ht.2 hw fin
theorem c_take {R : Type} {r : R} {T : Nat → Nat} {n w : Nat} {t : Tk} {K : Tk → R} {F : Nat → Nat → R} {u u1 : St} {post : St → St → Prop} (h : txR (ga u1 0) T n) (hw : w < 25) (ht : tC u T n t) (hp : pWd T n (wM w) t K F = r) (h1 : ∀ u', tC u' T n (nxT T n t) → K (nxT T n t) = r → post u' u1) (h0 : ∀ u' f pl, fdC u' f pl → F f pl = r → post u' u1) : qX8_take w u u1 post := by
  unfold pWd at hp
  exact r_take h hw ht.1 ht.2 (fun c u' q => h1 u' ⟨q, nxT_ok ht.2⟩ (by rw [if_pos c] at hp; exact hp)) (fun c u' q => h0 u' _ _ q (by rw [if_neg c] at hp; exact hp))
theorem c_takeIf {R : Type} {r : R} {T : Nat → Nat} {n w : Nat} {t : Tk} {K1 K0 : Tk → R} {u u1 : St} {post : Int32 → St → St → Prop} (h : txR (ga u1 0) T n) (hw : w < 25) (ht : tC u T n t) (hp : pIf T n (wM w) t K1 K0 = r) (h1 : ∀ u', tC u' T n (nxT T n t) → K1 (nxT T n t) = r → post 1 u' u1) (h0 : K0 t = r → post 0 u u1) : qX8_takeIf w u u1 post := by
  unfold pIf at hp
  exact r_takeIf h hw ht.1 ht.2 (fun c u' q => h1 u' ⟨q, nxT_ok ht.2⟩ (by rw [if_pos c] at hp; exact hp)) (fun c => h0 (by rw [if_neg c] at hp; exact hp))
theorem c_num {R : Type} {r : R} {T : Nat → Nat} {n : Nat} {l g : Int} {lo hi : Int32} {t : Tk} {K : Nat → Tk → R} {F : Nat → Nat → R} {u u1 : St} {post : Int32 → St → St → Prop} (h : txR (ga u1 0) T n) (ht : tC u T n t) (el : lo.toInt = l) (eg : hi.toInt = g) (hp : pNu T n l g t K F = r) (h1 : ∀ (u' : St) (v : Nat) (t' : Tk), tC u' T n t' → l ≤ (v : Int) → (v : Int) ≤ g → K v t' = r → post (nI v) u' u1) (h0 : ∀ u' f pl, fdC u' f pl → F f pl = r → post (-1) u' u1) : qX8_takeNumber lo hi u u1 post := by
  unfold pNu at hp
  subst el; subst eg
  refine r_takeNumber h ht.1 ht.2 (fun c a b u' q => h1 u' _ _ ⟨q, nxT_ok ht.2⟩ a b ?_) (fun c a u' q => h0 u' _ _ q ?_) (fun c u' q => h0 u' _ _ q ?_)
  · rw [if_pos c, if_pos ⟨a, b⟩] at hp; exact hp
  · rw [if_pos c, if_neg (by omega)] at hp; exact hp
  · rw [if_neg c] at hp; exact hp
theorem c_semi {R : Type} {r : R} {T : Nat → Nat} {n : Nat} {t : Tk} {K : Tk → R} {F : Nat → Nat → R} {u u1 : St} {post : St → St → Prop} (h : txR (ga u1 0) T n) (ht : tC u T n t) (hp : pSm T n t K F = r) (h1 : ∀ u', tC u' T n (nxT T n t) → K (nxT T n t) = r → post u' u1) (h0 : ∀ u' f pl, fdC u' f pl → F f pl = r → post u' u1) : qX8_takeSemicolon u u1 post := by
  unfold pSm at hp
  exact r_takeSemi h ht.1 ht.2 (fun c d u' q => h1 u' ⟨q, nxT_ok ht.2⟩ (by rw [if_pos ⟨c, d⟩] at hp; exact hp)) (fun c u' q => h0 u' _ _ q (by rw [if_neg c] at hp; exact hp))
theorem c_cmp {R : Type} {r : R} {T : Nat → Nat} {n : Nat} {t : Tk} {K : Nat → Tk → R} {F : Nat → Nat → R} {u u1 : St} {post : Int32 → St → St → Prop} (h : txR (ga u1 0) T n) (ht : tC u T n t) (hp : pCm T n t K F = r) (h1 : ∀ u', tC u' T n (nxT T n t) → K t.2.2.2 (nxT T n t) = r → post (nI t.2.2.2) u' u1) (h0 : ∀ u' f pl, fdC u' f pl → F f pl = r → post (-1) u' u1) : qX8_takeCompare u u1 post := by
  have hv := ht.2.2.2.2.2
  unfold pCm at hp
  refine ⟨fun c => absurd ht.1.2.1 c, fun _ => ?_⟩
  rw [ht.1.2.2.1, show (3 : Int32) = nI 3 from rfl, nI_eq (by have := ht.2.1; omega) (by omega)]
  refine ⟨fun c => c_fail (why := 2) ht (by omega) (fun u' q => h0 u' _ _ q (by rw [if_neg (fun z => c z.1)] at hp; exact hp)), fun c => ?_⟩
  have e5 : gi u 5 = nI t.2.2.2 := by
    have := ht.1.2.2.2.2.2.1 (Or.inr c)
    rw [c] at this
    exact this
  rw [e5, show (59 : Int32) = nI 59 from rfl, nI_eq (by omega) (by omega)]
  refine ⟨fun c2 x ex => ?_, fun c2 => c_fail (why := 2) ht (by omega) (fun u' q => h0 u' _ _ q (by rw [if_neg (fun z => z.2 c2)] at hp; exact hp))⟩
  subst ex
  exact c_next h ht (fun u' q => h1 u' q (by rw [if_pos ⟨c, c2⟩] at hp; exact hp))
theorem f_cmp {f pl : Nat} {u u1 : St} {post : Int32 → St → St → Prop} (h : fdC u f pl) (fin : post (-1) u u1) : qX8_takeCompare u u1 post := ⟨fun _ => f_fail h fin, fun c => absurd c (fdC_n h)⟩
theorem c32_b {T : Nat → Nat} {n : Nat} {t : Tk} (ho : tkO T n t) (h1 : t.1 = 1) (h8 : t.2.2.1 - t.2.1 ≤ 8) : c32 T t.2.1 (t.2.2.1 - t.2.1) < 2 ^ 40 := by
  have := c32_lt T t.2.1 (t.2.2.1 - t.2.1) (fun i hi => (ho.2.2.2.1 h1).2 _ (by omega) (by omega))
  have q : 32 ^ (t.2.2.1 - t.2.1) ≤ 32 ^ 8 := Nat.pow_le_pow_right (by omega) h8
  omega
theorem c32_p {T : Nat → Nat} {n : Nat} {t : Tk} (ho : tkO T n t) (h1 : t.1 = 1) : 1 ≤ c32 T t.2.1 (t.2.2.1 - t.2.1) := by
  obtain ⟨a, b⟩ := ho.2.2.2.1 h1
  obtain ⟨k, hk⟩ : ∃ k, t.2.2.1 - t.2.1 = k + 1 := ⟨t.2.2.1 - t.2.1 - 1, by omega⟩
  rw [hk, c32]
  have := b (t.2.1 + k) (by omega) (by omega)
  omega
theorem one_loop {x : Int64} {post : Int32 → Prop} (h1 : (∃ c, c < 25 ∧ wCd.getD c 0 = x) → post 1) (h0 : (¬ ∃ c, c < 25 ∧ wCd.getD c 0 = x) → post 0) : ∀ (m i : Nat), i + m = 25 → (∀ c, c < i → wCd.getD c 0 ≠ x) → qX10_isOne_L2 post (m + 1) x (nI i) := by
  intro m
  induction m with
  | zero =>
    intro i hi hn
    have : i = 25 := by omega
    subst this
    exact ⟨fun _ => h0 (fun ⟨c, a, b⟩ => hn c a b), fun c => absurd (by decide) c⟩
  | succ m ih =>
    intro i hi hn
    refine ⟨fun c => absurd c (nI_ge (b := 25) (by omega) (by omega)), fun _ => ?_⟩
    refine ⟨vp_in_nI (by omega) (by omega), by rw [nI_clamp (by omega)]; omega, ?_⟩
    rw [nI_clamp (by omega), lg_z]
    refine ⟨fun c z ez => ?_, fun c => h1 ⟨i, by omega, c⟩⟩
    rw [nI_1] at ez
    subst ez
    exact ih (i + 1) (by omega) (fun d hd => by
      by_cases q : d = i
      · subst q; exact c
      · exact hn d (by omega))
theorem c_isName {T : Nat → Nat} {n : Nat} {t : Tk} {u u1 : St} {post : Int32 → St → St → Prop} (ht : tC u T n t) (h1 : nmB T t → gj u 6 = lN (nmC T t) → post 1 u u1) (h0 : ¬ nmB T t → post 0 u u1) : qX8_isAtName u u1 post := by
  have g6 := ht.1.2.2.2.2.2.2
  refine ⟨fun c => absurd ht.1.2.1 c, fun _ => ?_⟩
  rw [ht.1.2.2.1, show (1 : Int32) = nI 1 from rfl, nI_eq (by have := ht.2.1; omega) (by omega)]
  refine ⟨fun c => ⟨Or.inl rfl, h0 (fun q => c q.1)⟩, fun c => ?_⟩
  have g6 := g6 c
  have hl := ht.2.2.2.2.1 c
  rw [lg_z]
  by_cases c8 : t.2.2.1 - t.2.1 ≤ 8
  · rw [if_pos c8] at g6
    have hb := c32_b ht.2 c c8
    have hn : ¬ lN (c32 T t.2.1 (t.2.2.1 - t.2.1)) = -1 := fun q => by
      have e := congrArg Int64.toInt q
      rw [pk_lT (by omega)] at e
      have : (-1 : Int64).toInt = -1 := by decide
      omega
    rw [g6]
    refine ⟨fun q => absurd q hn, fun _ => ?_⟩
    have kn := kw_none (T := T) (p := t.2.1) (q := t.2.2.1) 25 0 (by omega)
    have hw : wdT T t = kwI T t.2.1 t.2.2.1 25 0 := if_pos c
    refine ⟨26, one_loop (fun ⟨d, hd, e⟩ => ⟨fun _ => ⟨Or.inl rfl, h0 (fun q => ?_)⟩, fun q => absurd q (by decide)⟩) (fun ne => ⟨fun q => absurd rfl q, fun _ => ⟨Or.inr rfl, h1 ⟨c, c8, ?_⟩ g6⟩⟩) 25 0 (by omega) (fun d hd => absurd hd (by omega))⟩
    · have k := (mt_code (c := d) hd hl).mp (by rw [if_pos c8]; exact e.symm)
      have := (kn.1.mp (by rw [← hw]; exact q.2.2)) (wM d) (by omega) (kc_all d hd).1
      rw [k] at this
      exact absurd this (by decide)
    · rw [hw]
      refine kn.1.mpr (fun v _ hv => ?_)
      obtain ⟨d, hd, e⟩ := ko_all v hv
      cases hm : mtW T t.2.1 t.2.2.1 v with
      | false => rfl
      | true =>
        rw [← e] at hm
        have k := (mt_code (c := d) hd hl).mpr hm
        rw [if_pos c8] at k
        exact absurd ⟨d, hd, k.symm⟩ ne
  · rw [if_neg c8] at g6
    rw [g6]
    exact ⟨fun _ => ⟨Or.inl rfl, h0 (fun q => c8 q.2.1)⟩, fun q => absurd rfl q⟩
theorem f_isName {f pl : Nat} {u u1 : St} {post : Int32 → St → St → Prop} (h : fdC u f pl) (fin : post 0 u u1) : qX8_isAtName u u1 post := ⟨fun _ => ⟨Or.inl rfl, fin⟩, fun c => absurd c (fdC_n h)⟩
theorem fnd_le (M : MH) (c : Nat) : ∀ m i, i ≤ fnd M c m i ∧ fnd M c m i ≤ i + m := by
  intro m
  induction m with
  | zero => intro i; exact ⟨Nat.le_refl _, Nat.le_refl _⟩
  | succ m ih =>
    intro i
    rw [fnd]
    split
    · omega
    · have := ih (i + 1)
      omega
theorem pn_loop {M : MH} {c : Nat} {u : St} {post : Int32 → St → Prop} (ok : okH M) (h : CH u M) (hc : c < 2 ^ 40) : ∀ (m i : Nat), i + m = M 1 0 → (fnd M c m i < M 1 0 → post (nI (fnd M c m i)) u) → (¬ fnd M c m i < M 1 0 → post (-1) u) → qX2_personNamed_L2 post (m + 1) (lN c) (nI i) u := by
  have h5 := ok.2.1
  intro m
  induction m with
  | zero =>
    intro i hi h1 h0
    unfold qX2_personNamed_L2 qX2_personNamed_l2
    rw [show gi u 1 = nI (M 1 0) from h.1 1 (by omega)]
    refine ⟨fun _ => h0 (by rw [fnd]; omega), fun q => absurd (nI_le (by omega) (by omega)) q⟩
  | succ m ih =>
    intro i hi h1 h0
    unfold qX2_personNamed_L2 qX2_personNamed_l2
    rw [show gi u 1 = nI (M 1 0) from h.1 1 (by omega)]
    refine ⟨fun q => absurd q (nI_ge (by omega) (by omega)), fun _ => ⟨vp_in_nI (by omega) (by omega), ?_⟩⟩
    have hb := (ok.2.2.2.2.2.2.2.2.2.1 i (by omega)).2.2
    rw [nI_clamp (by omega), (h.2.2.1 i (by omega)).2, lg_z, pk_lEQ (by omega) (by omega)]
    refine ⟨fun q z ez => ?_, fun q => ?_⟩
    · rw [nI_1] at ez
      subst ez
      rw [fnd, if_neg q] at h1 h0
      exact ih (i + 1) (by omega) h1 h0
    · rw [fnd, if_pos q] at h1
      exact h1 (by omega)
theorem c_person {M : MH} {c : Nat} {u : St} {post : Int32 → St → Prop} (ok : okH M) (h : CH u M) (hc : c < 2 ^ 40) (h1 : fnd M c (M 1 0) 0 < M 1 0 → post (nI (fnd M c (M 1 0) 0)) u) (h0 : ¬ fnd M c (M 1 0) 0 < M 1 0 → post (-1) u) : qX2_personNamed (lN c) u post := ⟨_, pn_loop ok h hc (M 1 0) 0 (by omega) h1 h0⟩
theorem flt_wd {t : Tk} {w : Nat} (h : t.1 ≠ 4) : fltT t w = w := if_neg h
theorem c_takePerson {R : Type} {r : R} {T : Nat → Nat} {n but : Nat} {x2 : Int32} {M : MH} {t : Tk} {K : Nat → Tk → R} {F : Nat → Nat → R} {u0 u u1 u3 : St} {post : Int32 → St → St → St → St → Prop} (ok : okH M) (hM : CH u3 M) (h : txR (ga u1 0) T n) (ht : tC u T n t) (hb : ∀ p, p < 5 → (nI p = x2 ↔ p = but)) (hp : pPe T n M but t K F = r) (h1 : ∀ u' p t', tC u' T n t' → p < M 1 0 → p ≠ but → K p t' = r → post (nI p) u0 u' u1 u3) (h0 : ∀ u' f pl, fdC u' f pl → F f pl = r → post (-1) u0 u' u1 u3) : qX6_takePerson x2 u0 u u1 u3 post := by
  unfold pPe at hp
  have h5 := ok.2.1
  refine c_isName ht (fun c e => ⟨fun _ => ?_, fun q => absurd q (by decide)⟩) (fun c => ⟨fun q => absurd rfl q, fun _ => c_fail (why := 2) ht (by omega) (fun u' q => h0 u' _ _ q (by rw [if_neg c] at hp; exact hp))⟩)
  rw [if_pos c] at hp
  show qX2_personNamed (gj u 6) u3 _
  have h4 : t.1 ≠ 4 := by rw [c.1]; decide
  rw [e]
  refine c_person ok hM (c32_b ht.2 c.1 c.2.1) (fun q => ⟨fun _ => ?_, fun z => absurd z (nI_m1 (by omega))⟩) (fun q => ⟨fun z => absurd rfl z, fun _ => c_fail (why := 3) ht (by omega) (fun u' z => ?_)⟩)
  · rw [if_pos q] at hp
    refine ⟨fun z => c_next h ht (fun u' a => ?_), fun z => c_fail (why := 5) ht (by omega) (fun u' a => ?_)⟩
    · have z := fun y => z ((hb _ (by omega)).mpr y)
      rw [if_neg z] at hp
      exact h1 u' _ _ a q z hp
    · rw [if_pos ((hb _ (by omega)).mp z)] at hp
      rw [flt_wd h4] at a
      exact h0 u' _ _ a hp
  · rw [if_neg q] at hp
    rw [flt_wd h4] at z
    exact h0 u' _ _ z hp
theorem f_takePerson {x2 : Int32} {f pl : Nat} {u0 u u1 u3 : St} {post : Int32 → St → St → St → St → Prop} (h : fdC u f pl) (fin : post (-1) u0 u u1 u3) : qX6_takePerson x2 u0 u u1 u3 post := f_isName h ⟨fun q => absurd rfl q, fun _ => f_fail h fin⟩
