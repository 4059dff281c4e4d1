/-! STEPS 48: the reference reads times: its rows, tests, orders -/
theorem mS.x22 {u0 : St} {T : Nat → Nat} {n m : Nat} {t : Tk} {E : Ex} {A : Nat → Int32} {NM : Nat → Int64} {u : St} (h : mS u0 T n m t E A NM u) (x : Int32) : mS u0 T n m t (E.1, x, E.2.2) A NM (si u 22 x) := by
  obtain ⟨⟨b1, b2, b3, b4, b5⟩, b, c, d, e, f, g, i, ⟨j1, j2, j3, j4, j5, j6⟩, k⟩ := h
  refine ⟨⟨b1, b2, b3, b4, b5⟩, b, c, d, e, f, g, ?_, ⟨fun k hk => ?_, j2, j3, j4, j5, j6⟩, k⟩
  · rw [← i]; rfl
  · rw [gi_si, if_neg (by omega)]; exact j1 k hk
theorem mS.x23 {u0 : St} {T : Nat → Nat} {n m : Nat} {t : Tk} {E : Ex} {A : Nat → Int32} {NM : Nat → Int64} {u : St} (h : mS u0 T n m t E A NM u) (x : Int32) : mS u0 T n m t (E.1, E.2.1, x, E.2.2.2) A NM (si u 23 x) := by
  obtain ⟨⟨b1, b2, b3, b4, b5⟩, b, c, d, e, f, g, i, ⟨j1, j2, j3, j4, j5, j6⟩, k⟩ := h
  refine ⟨⟨b1, b2, b3, b4, b5⟩, b, c, d, e, f, g, ?_, ⟨fun k hk => ?_, j2, j3, j4, j5, j6⟩, k⟩
  · rw [← i]; rfl
  · rw [gi_si, if_neg (by omega)]; exact j1 k hk
theorem ms_x21 {u0 : St} {T : Nat → Nat} {n m : Nat} {t : Tk} {E : Ex} {A : Nat → Int32} {NM : Nat → Int64} {u : St} (h : mS u0 T n m t E A NM u) (x : Nat → Int32) : mS u0 T n m t (E.1, E.2.1, E.2.2.1, x) A NM (sw u 21 x) := by
  obtain ⟨⟨b1, b2, b3, b4, b5⟩, b, c, d, e, f, g, i, ⟨j1, j2, j3, j4, j5, j6⟩, k⟩ := h
  refine ⟨⟨b1, b2, b3, b4, b5⟩, b, c, d, e, f, g, ?_, ⟨j1, j2, fun k h1 h2 => ?_, j4, j5, j6⟩, k⟩
  · rw [← i]; rfl
  · rw [ga_sw, if_neg h2]; exact j3 k h1 h2
theorem mS.e {u0 : St} {T : Nat → Nat} {n m : Nat} {t : Tk} {E : Ex} {A : Nat → Int32} {NM : Nat → Int64} {u : St} (h : mS u0 T n m t E A NM u) : gi u 22 = E.2.1 ∧ gi u 23 = E.2.2.1 ∧ ga u 21 = E.2.2.2 := by
  rw [← h.2.2.2.2.2.2.2.1]
  exact ⟨rfl, rfl, rfl⟩
theorem mS.base {u0 : St} {T : Nat → Nat} {n m : Nat} {t : Tk} {E : Ex} {A : Nat → Int32} {NM : Nat → Int64} {u : St} (h : mS u0 T n m t E A NM u) {M : MH} (hM : MR (ga u0 0) (gl u0 1) 0 0 M) (ok : okH M) : ga u 0 (0 : Int32).toNatClampNeg = nI (M 0 0) ∧ ga u 0 (1 : Int32).toNatClampNeg = nI (M 1 0) ∧ nmR NM 0 M := by
  have h5 := ok.2.1
  have f5 := h.2.2.2.2.2.2.2.2.1.2.2.2.2.1
  have f6 := h.2.2.2.2.2.2.2.2.1.2.2.2.2.2
  have f7 := h.2.2.2.2.2.2.1
  refine ⟨?_, ?_, fun p hp => ?_⟩
  · exact (f5 0 (by omega)).trans (hM.1 0 (by omega))
  · exact (f5 1 (by omega)).trans (hM.1 1 (by omega))
  · rw [← f7, f6 _ (by omega)]
    exact (hM.2.2.1 p hp).2
def rowA (A A' : Nat → Int32) (n k1 a b c : Nat) : Prop := A' 1831 = nI (n + 1) ∧ (∀ j, j ≠ 1831 → (j < 1912 + 6 * n ∨ 1918 + 6 * n ≤ j) → A' j = A j) ∧ A' (1912 + 6 * n) = nI k1 ∧ A' (1913 + 6 * n) = nI a ∧ A' (1914 + 6 * n) = nI b ∧ A' (1917 + 6 * n) = nI c

theorem rowA.k {A A' : Nat → Int32} {n k1 a b c : Nat} (h : rowA A A' n k1 a b c) (v : Nat) : rowA A (upd A' (1912 + 6 * n) (nI v)) n v a b c := by
  obtain ⟨k1, k2, k3, k4, k5, k6⟩ := h
  refine ⟨?_, fun j j1 j2 => ?_, ?_, ?_, ?_, ?_⟩
  · rw [upd_at, if_neg (by omega)]; exact k1
  · rw [upd_at, if_neg (by omega)]; exact k2 j j1 j2
  · rw [upd_at, if_pos rfl]
  · rw [upd_at, if_neg (by omega)]; exact k4
  · rw [upd_at, if_neg (by omega)]; exact k5
  · rw [upd_at, if_neg (by omega)]; exact k6

theorem rowA.a {A A' : Nat → Int32} {n k1 a b c : Nat} (h : rowA A A' n k1 a b c) (v : Nat) : rowA A (upd A' (1913 + 6 * n) (nI v)) n k1 v b c := by
  obtain ⟨k1, k2, k3, k4, k5, k6⟩ := h
  refine ⟨?_, fun j j1 j2 => ?_, ?_, ?_, ?_, ?_⟩
  · rw [upd_at, if_neg (by omega)]; exact k1
  · rw [upd_at, if_neg (by omega)]; exact k2 j j1 j2
  · rw [upd_at, if_neg (by omega)]; exact k3
  · rw [upd_at, if_pos rfl]
  · rw [upd_at, if_neg (by omega)]; exact k5
  · rw [upd_at, if_neg (by omega)]; exact k6

theorem rowA.b {A A' : Nat → Int32} {n k1 a b c : Nat} (h : rowA A A' n k1 a b c) (v : Nat) : rowA A (upd A' (1914 + 6 * n) (nI v)) n k1 a v c := by
  obtain ⟨k1, k2, k3, k4, k5, k6⟩ := h
  refine ⟨?_, fun j j1 j2 => ?_, ?_, ?_, ?_, ?_⟩
  · rw [upd_at, if_neg (by omega)]; exact k1
  · rw [upd_at, if_neg (by omega)]; exact k2 j j1 j2
  · rw [upd_at, if_neg (by omega)]; exact k3
  · rw [upd_at, if_neg (by omega)]; exact k4
  · rw [upd_at, if_pos rfl]
  · rw [upd_at, if_neg (by omega)]; exact k6

theorem rowA.c {A A' : Nat → Int32} {n k1 a b c : Nat} (h : rowA A A' n k1 a b c) (v : Nat) : rowA A (upd A' (1917 + 6 * n) (nI v)) n k1 a b v := by
  obtain ⟨k1, k2, k3, k4, k5, k6⟩ := h
  refine ⟨?_, fun j j1 j2 => ?_, ?_, ?_, ?_, ?_⟩
  · rw [upd_at, if_neg (by omega)]; exact k1
  · rw [upd_at, if_neg (by omega)]; exact k2 j j1 j2
  · rw [upd_at, if_neg (by omega)]; exact k3
  · rw [upd_at, if_neg (by omega)]; exact k4
  · rw [upd_at, if_neg (by omega)]; exact k5
  · rw [upd_at, if_pos rfl]

theorem m_isSign {u0 : St} {T : Nat → Nat} {n m s : Nat} {t : Tk} {E : Ex} {A : Nat → Int32} {NM : Nat → Int64} {u : St} {post : Int32 → St → Prop} (h : mS u0 T n m t E A NM u) (hs : s < 1000) (h1 : t.1 = 3 → t.2.2.2 = s → post 1 u) (h0 : ¬ (t.1 = 3 ∧ t.2.2.2 = s) → post 0 u) : qX12_isSign (nI s) u post := by
  have ho := h.2.1
  have km := kM_eq ho.1
  have hv := ho.2.2.2.2
  unfold qX12_isSign
  rw [h.1.2.1, show (4 : Int32) = nI 4 from rfl, nI_eq (by omega) (by omega)]
  refine ⟨fun c => ⟨Or.inl rfl, h0 (fun q => c (km.2.2.1.mpr q.1))⟩, fun c => ?_⟩
  have c3 := km.2.2.1.mp c
  rw [h.1.2.2.2.2 (Or.inr c3), nI_eq (by omega) (by omega)]
  exact ⟨fun c2 => ⟨Or.inl rfl, h0 (fun q => c2 q.2)⟩, fun c2 => ⟨Or.inr rfl, h1 c3 c2⟩⟩
theorem d_cmp {R : Type} {r : R} {u0 : St} {T : Nat → Nat} {n m : Nat} {x1 x2 : Int32} {t : Tk} {E : Ex} {A : Nat → Int32} {NM : Nat → Int64} {K : Nat → Tk → R} {F : Nat → Nat → R} {u : St} {post : Int32 → St → Prop} (h : mS u0 T n m t E A NM u) (sg : sgT t) (hp : pCm T n t K F = r) (h1 : t.1 = 3 → t.2.2.2 ≤ 255 → K t.2.2.2 (nxT T n t) = r → qX12_test_b166 post x1 x2 u) (h0 : ∀ u' f pl, mF u0 f pl u' → F f pl = r → post 0 u') : qX12_test_b126 post x1 x2 1 u := by
  unfold pCm at hp
  refine ⟨fun _ => ?_, fun z => absurd z (by decide)⟩
  have good : ∀ s, s = 60 ∨ s = 61 ∨ s = 62 → t.1 = 3 → t.2.2.2 = s → qX12_test_b166 post x1 x2 u := fun s hs c e => by
    rw [if_pos ⟨c, by omega⟩] at hp
    exact h1 c (by omega) hp
  refine m_isSign (s := 60) h (by omega) (fun c e => ⟨fun _ => good 60 (by omega) c e, fun z => absurd z (by decide)⟩) (fun n1 => ⟨fun z => absurd rfl z, fun _ => ?_⟩)
  refine m_isSign (s := 62) h (by omega) (fun c e => ⟨fun _ => good 62 (by omega) c e, fun z => absurd z (by decide)⟩) (fun n2 => ⟨fun z => absurd rfl z, fun _ => ?_⟩)
  refine m_isSign (s := 61) h (by omega) (fun c e => ⟨fun _ => good 61 (by omega) c e, fun z => absurd z (by decide)⟩) (fun n3 => ⟨fun z => absurd rfl z, fun _ => ?_⟩)
  rw [if_neg (fun q => by
    have := sg q.1
    rcases this with e | e | e | e
    · exact q.2 e
    · exact n1 ⟨q.1, e⟩
    · exact n3 ⟨q.1, e⟩
    · exact n2 ⟨q.1, e⟩)] at hp
  exact d_fail (why := 2) h (by omega) (fun u' y => ⟨Or.inl rfl, h0 u' _ _ y hp⟩)

theorem d_test {R : Type} {r : R} {u0 : St} {T : Nat → Nat} {n m : Nat} {M : MH} {nn k1 : Nat} {t : Tk} {E : Ex} {A0 A : Nat → Int32} {NM : Nat → Int64} {K : Nat → Nat → Nat → Nat → Tk → R} {F : Nat → Nat → R} {u : St} {post : Int32 → St → Prop} (ok : okH M) (hM : MR (ga u0 0) (gl u0 1) 0 0 M) (h : mS u0 T n m t E A NM u) (hn : nn < 60) (hr : rowA A0 A nn k1 0 0 0) (hp : pTs T n M t K F = r) (h1 : ∀ u' t' A' k' k2 a b c, mS u0 T n m t' E A' NM u' → rowA A0 A' nn k2 a b c → kR k' k2 → rwk M k' a b c → (bkK k') → K k' a b c t' = r → post 1 u') (h0 : ∀ u' f pl, mF u0 f pl u' → F f pl = r → post 0 u') : qX12_test (nI (1912 + 6 * nn)) u post := by
  have h8 := ok.1
  have h5 := ok.2.1
  have a1 : nI (1912 + 6 * nn) + 1 = nI (1913 + 6 * nn) := (nI_1 _).trans (congrArg nI (by omega))
  have a2 : nI (1912 + 6 * nn) + 2 = nI (1914 + 6 * nn) := (nI_add _ 2).trans (congrArg nI (by omega))
  have a5 : nI (1912 + 6 * nn) + 5 = nI (1917 + 6 * nn) := (nI_add _ 5).trans (congrArg nI (by omega))
  have no : ∀ (u : St) (f pl : Nat), mF u0 f pl u → F f pl = r → bz (0 : Int32) ∧ post 0 u := fun u f pl hf e => ⟨Or.inl rfl, h0 u f pl hf e⟩
  have b166 : ∀ (u : St) (t : Tk) (A : Nat → Int32) (a k' k2 v : Nat) (x2 : Int32), v ≤ 9999 → mS u0 T n m t E A NM u → t.1 = 3 → t.2.2.2 ≤ 255 → rowA A0 A nn k2 a 0 0 → kR k' k2 → (x2 = 7 → v = 9999) → (¬ x2 = 7 → v = 999) → (∀ b, b ≤ v → rwk M k' a b t.2.2.2 ∧ bkK k') → pNu T n 0 v (nxT T n t) (fun b t' => K k' a b t.2.2.2 t') F = r → qX12_test_b166 post (nI (1912 + 6 * nn)) x2 u := fun u t A a k' k2 v x2 hv h c3 c255 hr hkr hv1 hv2 hw hp => by
    unfold qX12_test_b166
    rw [a5, a2]
    refine ⟨vp_in_nI (by omega) (by omega), fun u2 e2 => ?_⟩
    rw [nI_clamp (by omega), h.val (Or.inr c3)] at e2
    have hr := hr.c t.2.2.2
    have h := h.sw (j := 1917 + 6 * nn) (nI t.2.2.2) (by omega) (by omega)
    rw [← e2] at h
    refine d_next h (by rw [c3]; decide) (fun u h => ?_)
    have h := h.le (m' := m) (by omega)
    have go : ∀ (x : Int32), x.toInt = (v : Int) → qX12_test_b202 post x 0 (nI (1914 + 6 * nn)) u := fun x ex =>
      d_num (l := 0) (g := (v : Int)) h (by omega) (by omega) rfl ex hp (fun u b t' h' b1 b2 hp => ⟨Or.inr rfl, h1 u t' _ k' k2 a b t.2.2.2 h' (hr.b b) hkr (hw b (by omega)).1 (hw b (by omega)).2 hp⟩) (fun u f pl hf e => no u f pl hf e)
    exact ⟨fun z => go 999 (by rw [hv2 z]; rfl), fun z => go 9999 (by rw [hv1 z]; rfl)⟩
  unfold pTs pIf pWd at hp
  dsimp only at hp
  refine m_inWords h.2.2.1 h.1 h.2.1 ?_
  by_cases c23 : wdT T t = nI 23
  · rw [if_pos c23] at hp
    rw [c23]
    refine ⟨fun _ => ⟨vp_in_nI (by omega) (by omega), fun u2 e2 => ?_⟩, fun z => absurd rfl z⟩
    rw [nI_clamp (by omega), show (1900 : Int32) + nI 23 = nI 1923 from rfl] at e2
    have hr := hr.k 1923
    have h := h.sw (j := 1912 + 6 * nn) (nI 1923) (by omega) (by omega)
    rw [← e2] at h
    refine d_next h (by rw [wd_1 c23 (by omega)]; decide) (fun u h => ⟨fun z => absurd rfl z, fun _ => ?_⟩)
    have h := h.le (m' := m) (by omega)
    rw [a1, (h.base hM ok).1]
    exact d_num (l := 0) (g := (M 0 0 : Int) - 1) h (by omega) (by omega) rfl (pk_sub_toInt (a := M 0 0) (b := 1) (by omega) (by omega)) hp (fun u a t' h' x1 x2 hp => ⟨Or.inr rfl, h1 u t' _ 9 1923 a 0 0 h' (hr.a a) (by unfold kR; omega) ⟨⟨1923, by unfold kR; omega⟩, by omega, by omega, by omega, by omega, by omega, by omega, by omega, by omega, by omega⟩ (by omega) hp⟩) (fun u f pl hf e => no u f pl hf e)
  rw [if_neg c23] at hp
  by_cases c24 : wdT T t = nI 24
  · rw [if_pos c24] at hp
    rw [c24]
    refine ⟨fun z => absurd z (by decide), fun _ => ⟨fun _ => ⟨vp_in_nI (by omega) (by omega), fun u2 e2 => ?_⟩, fun z => absurd rfl z⟩⟩
    rw [nI_clamp (by omega), show (1900 : Int32) + nI 24 = nI 1924 from rfl] at e2
    have hr := hr.k 1924
    have h := h.sw (j := 1912 + 6 * nn) (nI 1924) (by omega) (by omega)
    rw [← e2] at h
    refine d_next h (by rw [wd_1 c24 (by omega)]; decide) (fun u h => ⟨fun _ => ⟨fun z => absurd rfl z, fun _ => ?_⟩, fun z => absurd z (by decide)⟩)
    have h := h.le (m' := m) (by omega)
    rw [a1]
    exact d_num (l := 0) (g := 6) h (by omega) (by omega) rfl rfl hp (fun u a t' h' x1 x2 hp => ⟨Or.inr rfl, h1 u t' _ 10 1924 a 0 0 h' (hr.a a) (by unfold kR; omega) ⟨⟨1924, by unfold kR; omega⟩, by omega, by omega, by omega, by omega, by omega, by omega, by omega, by omega, by omega⟩ (by omega) hp⟩) (fun u f pl hf e => no u f pl hf e)
  rw [if_neg c24] at hp
  by_cases c7 : wdT T t = nI 7
  · rw [if_pos c7] at hp
    rw [c7]
    refine ⟨fun z => absurd z (by decide), fun _ => ⟨fun z => absurd z (by decide), fun _ => ⟨fun _ => ⟨vp_in_nI (by omega) (by omega), fun u2 e2 => ?_⟩, fun z => absurd rfl z⟩⟩⟩
    rw [nI_clamp (by omega), show (1900 : Int32) + nI 7 = nI 1907 from rfl] at e2
    have hr := hr.k 1907
    have h := h.sw (j := 1912 + 6 * nn) (nI 1907) (by omega) (by omega)
    rw [← e2] at h
    refine d_next h (by rw [wd_1 c7 (by omega)]; decide) (fun u h => ⟨fun _ => ⟨fun _ => ⟨fun z => absurd rfl z, fun _ => ?_⟩, fun z => absurd z (by decide)⟩, fun z => absurd z (by decide)⟩)
    have h := h.le (m' := m) (by omega)
    rw [a1, (h.base hM ok).2.1]
    refine d_person (b := 0) (but := 99) ok h (by omega) (h.base hM ok).2.2 (by omega) (by omega) (fun p hp => ⟨fun z => absurd z (nI_m1 (by omega)), fun z => by omega⟩) (pPe_2 hp) (fun u a t' h' ha _ hp => ?_) (fun u f pl hf e => ⟨fun z => absurd rfl z, fun _ => h0 u f pl hf (congrArg Prod.fst e)⟩)
    have et := congrArg Prod.snd hp
    have hp := congrArg Prod.fst hp
    dsimp only at hp et
    have sg : sgT t' := by
      rw [show t' = _ from et]
      exact tok_sg _ _ _
    refine d_cmp h' sg hp (fun c3 c255 hp => ?_) h0
    exact b166 u t' _ a 11 1907 9999 _ (by omega) h' c3 c255 (hr.a a) (by unfold kR; omega) (fun _ => rfl) (fun z => absurd rfl z) (fun b hb => ⟨⟨⟨1907, by unfold kR; omega⟩, by omega, by omega, c255, by omega, by omega, by omega, by omega, by omega, by omega⟩, by omega⟩) hp
  rw [if_neg c7] at hp

  by_cases c12 : wdT T t = nI 12
  · rw [if_pos c12] at hp
    rw [c12]
    refine ⟨fun z => absurd z (by decide), fun _ => ⟨fun z => absurd z (by decide), fun _ => ⟨fun z => absurd z (by decide), fun _ => ⟨fun _ => ⟨vp_in_nI (by omega) (by omega), fun u2 e2 => ?_⟩, fun z => absurd rfl z⟩⟩⟩⟩
    rw [nI_clamp (by omega), show (1900 : Int32) + nI 12 = nI 1912 from rfl] at e2
    have hr := hr.k 1912
    have h := h.sw (j := 1912 + 6 * nn) (nI 1912) (by omega) (by omega)
    rw [← e2] at h
    refine d_next h (by rw [wd_1 c12 (by omega)]; decide) (fun u h => ⟨fun _ => ⟨fun _ => ⟨fun _ => ?_, fun z => absurd z (by decide)⟩, fun z => absurd z (by decide)⟩, fun z => absurd z (by decide)⟩)
    have h := h.le (m' := m) (by omega)
    rw [a1]
    refine d_num (l := 0) (g := 6) h (by omega) (by omega) rfl rfl (pNu_2 hp) (fun u a t' h' x1 x2 hp => ?_) (fun u f pl hf e => ⟨fun z => absurd rfl z, fun _ => h0 u f pl hf (congrArg Prod.fst e)⟩)
    have et := congrArg Prod.snd hp
    have hp := congrArg Prod.fst hp
    dsimp only at hp et
    have sg : sgT t' := by
      rw [show t' = _ from et]
      exact tok_sg _ _ _
    refine d_cmp h' sg hp (fun c3 c255 hp => ?_) h0
    exact b166 u t' _ a 12 1912 999 _ (by omega) h' c3 c255 (hr.a a) (by unfold kR; omega) (fun z => absurd z (by decide)) (fun _ => rfl) (fun b hb => ⟨⟨⟨1912, by unfold kR; omega⟩, by omega, by omega, c255, by omega, by omega, by omega, by omega, by omega, by omega⟩, by omega⟩) hp
  rw [if_neg c12] at hp
  exact ⟨fun z => absurd z c23, fun _ => ⟨fun z => absurd z c24, fun _ => ⟨fun z => absurd z c7, fun _ => ⟨fun z => absurd z c12, fun _ => d_fail (why := 2) h (by omega) (fun u' y => ⟨Or.inl rfl, h0 u' _ _ y hp⟩)⟩⟩⟩⟩

theorem d_ord0 {R : Type} {r : R} {u0 : St} {T : Nat → Nat} {n m : Nat} {M : MH} {nn : Nat} {t : Tk} {E : Ex} {A0 A : Nat → Int32} {NM : Nat → Int64} {K : Nat → Nat → Nat → Nat → Tk → R} {F : Nat → Nat → R} {u : St} {post : Int32 → St → Prop} (ok : okH M) (hM : MR (ga u0 0) (gl u0 1) 0 0 M) (h : mS u0 T n m t E A NM u) (hn : nn < 60) (hr : rowA A0 A nn 13 0 0 0) (hp : pAc T n M 0 t K F = r) (h1 : ∀ u' t' A' k' k2 a b c, mS u0 T n m t' E A' NM u' → rowA A0 A' nn k2 a b c → kR k' k2 → rwk M k' a b c → (k' ≤ 6) → K k' a b c t' = r → post 1 u') (h0 : ∀ u' f pl, mF u0 f pl u' → F f pl = r → post 0 u') : qX12_timeOrder 13 (nI (1912 + 6 * nn)) u post := by
  rw [pAc] at hp
  have h8 := ok.1
  have h5 := ok.2.1
  have a1 : nI (1912 + 6 * nn) + 1 = nI (1913 + 6 * nn) := (nI_1 _).trans (congrArg nI (by omega))
  have a2 : nI (1912 + 6 * nn) + 2 = nI (1914 + 6 * nn) := (nI_add _ 2).trans (congrArg nI (by omega))
  have a5 : nI (1912 + 6 * nn) + 5 = nI (1917 + 6 * nn) := (nI_add _ 5).trans (congrArg nI (by omega))
  have no : ∀ (u : St) (f pl : Nat), mF u0 f pl u → F f pl = r → bz (0 : Int32) ∧ post 0 u := fun u f pl hf e => ⟨Or.inl rfl, h0 u f pl hf e⟩
  unfold qX12_timeOrder
  rw [a1, a2]
  refine ⟨fun _ => ?_, fun z => absurd z (by decide), fun z => absurd z (by decide), fun z => absurd z (by decide), fun z => absurd z (by decide), fun z => absurd z (by decide), fun z => absurd z (by decide), fun z => absurd z (by decide), fun z => absurd rfl z⟩
  exact d_num (l := 1) (g := 20) h (by omega) (by omega) rfl rfl hp (fun u a t' h' x1 x2 hp => ⟨Or.inr rfl, h1 u t' _ 0 13 a 0 0 h' (hr.a a) (by unfold kR; omega) ⟨⟨13, by unfold kR; omega⟩, by omega, by omega, by omega, by omega, by omega, by omega, by omega, by omega, by omega⟩ (by omega) hp⟩) (fun u f pl hf e => no u f pl hf e)

theorem d_ord1 {R : Type} {r : R} {u0 : St} {T : Nat → Nat} {n m : Nat} {M : MH} {nn : Nat} {t : Tk} {E : Ex} {A0 A : Nat → Int32} {NM : Nat → Int64} {K : Nat → Nat → Nat → Nat → Tk → R} {F : Nat → Nat → R} {u : St} {post : Int32 → St → Prop} (ok : okH M) (hM : MR (ga u0 0) (gl u0 1) 0 0 M) (h : mS u0 T n m t E A NM u) (hn : nn < 60) (hr : rowA A0 A nn 14 0 0 0) (hp : pAc T n M 1 t K F = r) (h1 : ∀ u' t' A' k' k2 a b c, mS u0 T n m t' E A' NM u' → rowA A0 A' nn k2 a b c → kR k' k2 → rwk M k' a b c → (k' ≤ 6) → K k' a b c t' = r → post 1 u') (h0 : ∀ u' f pl, mF u0 f pl u' → F f pl = r → post 0 u') : qX12_timeOrder 14 (nI (1912 + 6 * nn)) u post := by
  rw [pAc] at hp
  have h8 := ok.1
  have h5 := ok.2.1
  have a1 : nI (1912 + 6 * nn) + 1 = nI (1913 + 6 * nn) := (nI_1 _).trans (congrArg nI (by omega))
  have a2 : nI (1912 + 6 * nn) + 2 = nI (1914 + 6 * nn) := (nI_add _ 2).trans (congrArg nI (by omega))
  have a5 : nI (1912 + 6 * nn) + 5 = nI (1917 + 6 * nn) := (nI_add _ 5).trans (congrArg nI (by omega))
  have no : ∀ (u : St) (f pl : Nat), mF u0 f pl u → F f pl = r → bz (0 : Int32) ∧ post 0 u := fun u f pl hf e => ⟨Or.inl rfl, h0 u f pl hf e⟩
  unfold qX12_timeOrder
  rw [a1, a2]
  refine ⟨fun z => absurd z (by decide), fun _ => ?_, fun z => absurd z (by decide), fun z => absurd z (by decide), fun z => absurd z (by decide), fun z => absurd z (by decide), fun z => absurd z (by decide), fun z => absurd z (by decide), fun _ z => absurd rfl z⟩
  exact d_num (l := 0) (g := 6) h (by omega) (by omega) rfl rfl hp (fun u a t' h' x1 x2 hp => ⟨Or.inr rfl, h1 u t' _ 1 14 a 0 0 h' (hr.a a) (by unfold kR; omega) ⟨⟨14, by unfold kR; omega⟩, by omega, by omega, by omega, by omega, by omega, by omega, by omega, by omega, by omega⟩ (by omega) hp⟩) (fun u f pl hf e => no u f pl hf e)

theorem d_ord2 {R : Type} {r : R} {u0 : St} {T : Nat → Nat} {n m : Nat} {M : MH} {nn : Nat} {t : Tk} {E : Ex} {A0 A : Nat → Int32} {NM : Nat → Int64} {K : Nat → Nat → Nat → Nat → Tk → R} {F : Nat → Nat → R} {u : St} {post : Int32 → St → Prop} (ok : okH M) (hM : MR (ga u0 0) (gl u0 1) 0 0 M) (h : mS u0 T n m t E A NM u) (hn : nn < 60) (hr : rowA A0 A nn 15 0 0 0) (hp : pAc T n M 2 t K F = r) (h1 : ∀ u' t' A' k' k2 a b c, mS u0 T n m t' E A' NM u' → rowA A0 A' nn k2 a b c → kR k' k2 → rwk M k' a b c → (k' ≤ 6) → K k' a b c t' = r → post 1 u') (h0 : ∀ u' f pl, mF u0 f pl u' → F f pl = r → post 0 u') : qX12_timeOrder 15 (nI (1912 + 6 * nn)) u post := by
  rw [pAc] at hp
  have h8 := ok.1
  have h5 := ok.2.1
  have a1 : nI (1912 + 6 * nn) + 1 = nI (1913 + 6 * nn) := (nI_1 _).trans (congrArg nI (by omega))
  have a2 : nI (1912 + 6 * nn) + 2 = nI (1914 + 6 * nn) := (nI_add _ 2).trans (congrArg nI (by omega))
  have a5 : nI (1912 + 6 * nn) + 5 = nI (1917 + 6 * nn) := (nI_add _ 5).trans (congrArg nI (by omega))
  have no : ∀ (u : St) (f pl : Nat), mF u0 f pl u → F f pl = r → bz (0 : Int32) ∧ post 0 u := fun u f pl hf e => ⟨Or.inl rfl, h0 u f pl hf e⟩
  unfold qX12_timeOrder
  rw [a1, a2]
  refine ⟨fun z => absurd z (by decide), fun z => absurd z (by decide), fun _ => ?_, fun z => absurd z (by decide), fun z => absurd z (by decide), fun z => absurd z (by decide), fun z => absurd z (by decide), fun z => absurd z (by decide), fun _ _ z => absurd rfl z⟩
  refine d_num (l := 0) (g := 6) h (by omega) (by omega) rfl rfl hp (fun u a t' h' x1 x2 hp => ⟨fun z => absurd z (by decide), fun _ => ?_⟩) (fun u f pl hf e => ⟨fun _ => no u f pl hf e, fun z => absurd rfl z⟩)
  exact d_num (l := 1) (g := 99) h' (by omega) (by omega) rfl rfl hp (fun u b t' h' y1 y2 hp => ⟨fun z => absurd z (by decide), fun _ => ⟨Or.inr rfl, h1 u t' _ 2 15 a b 0 h' ((hr.a a).b b) (by unfold kR; omega) ⟨⟨15, by unfold kR; omega⟩, by omega, by omega, by omega, by omega, by omega, by omega, by omega, by omega, by omega⟩ (by omega) hp⟩⟩) (fun u f pl hf e => ⟨fun _ => no u f pl hf e, fun z => absurd rfl z⟩)

theorem d_ord3 {R : Type} {r : R} {u0 : St} {T : Nat → Nat} {n m : Nat} {M : MH} {nn : Nat} {t : Tk} {E : Ex} {A0 A : Nat → Int32} {NM : Nat → Int64} {K : Nat → Nat → Nat → Nat → Tk → R} {F : Nat → Nat → R} {u : St} {post : Int32 → St → Prop} (ok : okH M) (hM : MR (ga u0 0) (gl u0 1) 0 0 M) (h : mS u0 T n m t E A NM u) (hn : nn < 60) (hr : rowA A0 A nn 16 0 0 0) (hp : pAc T n M 3 t K F = r) (h1 : ∀ u' t' A' k' k2 a b c, mS u0 T n m t' E A' NM u' → rowA A0 A' nn k2 a b c → kR k' k2 → rwk M k' a b c → (k' ≤ 6) → K k' a b c t' = r → post 1 u') (h0 : ∀ u' f pl, mF u0 f pl u' → F f pl = r → post 0 u') : qX12_timeOrder 16 (nI (1912 + 6 * nn)) u post := by
  rw [pAc] at hp
  have h8 := ok.1
  have h5 := ok.2.1
  have a1 : nI (1912 + 6 * nn) + 1 = nI (1913 + 6 * nn) := (nI_1 _).trans (congrArg nI (by omega))
  have a2 : nI (1912 + 6 * nn) + 2 = nI (1914 + 6 * nn) := (nI_add _ 2).trans (congrArg nI (by omega))
  have a5 : nI (1912 + 6 * nn) + 5 = nI (1917 + 6 * nn) := (nI_add _ 5).trans (congrArg nI (by omega))
  have no : ∀ (u : St) (f pl : Nat), mF u0 f pl u → F f pl = r → bz (0 : Int32) ∧ post 0 u := fun u f pl hf e => ⟨Or.inl rfl, h0 u f pl hf e⟩
  unfold qX12_timeOrder
  rw [a1, a2]
  refine ⟨fun z => absurd z (by decide), fun z => absurd z (by decide), fun z => absurd z (by decide), fun _ => ?_, fun z => absurd z (by decide), fun z => absurd z (by decide), fun z => absurd z (by decide), fun z => absurd z (by decide), fun _ _ _ z => absurd rfl z⟩
  rw [(h.base hM ok).1]
  exact d_num (l := 0) (g := (M 0 0 : Int) - 1) h (by omega) (by omega) rfl (pk_sub_toInt (a := M 0 0) (b := 1) (by omega) (by omega)) hp (fun u a t' h' x1 x2 hp => ⟨Or.inr rfl, h1 u t' _ 3 16 a 0 0 h' (hr.a a) (by unfold kR; omega) ⟨⟨16, by unfold kR; omega⟩, by omega, by omega, by omega, by omega, by omega, by omega, by omega, by omega, by omega⟩ (by omega) hp⟩) (fun u f pl hf e => no u f pl hf e)

theorem d_ord4 {R : Type} {r : R} {u0 : St} {T : Nat → Nat} {n m : Nat} {M : MH} {nn : Nat} {t : Tk} {E : Ex} {A0 A : Nat → Int32} {NM : Nat → Int64} {K : Nat → Nat → Nat → Nat → Tk → R} {F : Nat → Nat → R} {u : St} {post : Int32 → St → Prop} (ok : okH M) (hM : MR (ga u0 0) (gl u0 1) 0 0 M) (h : mS u0 T n m t E A NM u) (hn : nn < 60) (hr : rowA A0 A nn 17 0 0 0) (hp : pAc T n M 4 t K F = r) (h1 : ∀ u' t' A' k' k2 a b c, mS u0 T n m t' E A' NM u' → rowA A0 A' nn k2 a b c → kR k' k2 → rwk M k' a b c → (k' ≤ 6) → K k' a b c t' = r → post 1 u') (h0 : ∀ u' f pl, mF u0 f pl u' → F f pl = r → post 0 u') : qX12_timeOrder 17 (nI (1912 + 6 * nn)) u post := by
  rw [pAc] at hp
  have h8 := ok.1
  have h5 := ok.2.1
  have a1 : nI (1912 + 6 * nn) + 1 = nI (1913 + 6 * nn) := (nI_1 _).trans (congrArg nI (by omega))
  have a2 : nI (1912 + 6 * nn) + 2 = nI (1914 + 6 * nn) := (nI_add _ 2).trans (congrArg nI (by omega))
  have a5 : nI (1912 + 6 * nn) + 5 = nI (1917 + 6 * nn) := (nI_add _ 5).trans (congrArg nI (by omega))
  have no : ∀ (u : St) (f pl : Nat), mF u0 f pl u → F f pl = r → bz (0 : Int32) ∧ post 0 u := fun u f pl hf e => ⟨Or.inl rfl, h0 u f pl hf e⟩
  unfold qX12_timeOrder
  rw [a1, a2]
  refine ⟨fun z => absurd z (by decide), fun z => absurd z (by decide), fun z => absurd z (by decide), fun z => absurd z (by decide), fun _ => ?_, fun z => absurd z (by decide), fun z => absurd z (by decide), fun z => absurd z (by decide), fun _ _ _ _ z => absurd rfl z⟩
  rw [(h.base hM ok).2.1]
  refine d_person (b := 0) (but := 99) ok h (by omega) (h.base hM ok).2.2 (by omega) (by omega) (fun p hp => ⟨fun z => absurd z (nI_m1 (by omega)), fun z => by omega⟩) hp (fun u a t' h' ha _ hp => ⟨fun z => absurd z (by decide), fun _ => ?_⟩) (fun u f pl hf e => ⟨fun _ => no u f pl hf e, fun z => absurd rfl z⟩)
  exact d_num (l := 1) (g := 99) h' (by omega) (by omega) rfl rfl hp (fun u b t' h' y1 y2 hp => ⟨fun z => absurd z (by decide), fun _ => ⟨Or.inr rfl, h1 u t' _ 4 17 a b 0 h' ((hr.a a).b b) (by unfold kR; omega) ⟨⟨17, by unfold kR; omega⟩, by omega, by omega, by omega, by omega, by omega, by omega, by omega, by omega, by omega⟩ (by omega) hp⟩⟩) (fun u f pl hf e => ⟨fun _ => no u f pl hf e, fun z => absurd rfl z⟩)

theorem d_ord5 {R : Type} {r : R} {u0 : St} {T : Nat → Nat} {n m : Nat} {M : MH} {nn : Nat} {t : Tk} {E : Ex} {A0 A : Nat → Int32} {NM : Nat → Int64} {K : Nat → Nat → Nat → Nat → Tk → R} {F : Nat → Nat → R} {u : St} {post : Int32 → St → Prop} (ok : okH M) (hM : MR (ga u0 0) (gl u0 1) 0 0 M) (h : mS u0 T n m t E A NM u) (hn : nn < 60) (hr : rowA A0 A nn 18 0 0 0) (hp : pAc T n M 5 t K F = r) (h1 : ∀ u' t' A' k' k2 a b c, mS u0 T n m t' E A' NM u' → rowA A0 A' nn k2 a b c → kR k' k2 → rwk M k' a b c → (k' ≤ 6) → K k' a b c t' = r → post 1 u') (h0 : ∀ u' f pl, mF u0 f pl u' → F f pl = r → post 0 u') : qX12_timeOrder 18 (nI (1912 + 6 * nn)) u post := by
  rw [pAc] at hp
  have h8 := ok.1
  have h5 := ok.2.1
  have a1 : nI (1912 + 6 * nn) + 1 = nI (1913 + 6 * nn) := (nI_1 _).trans (congrArg nI (by omega))
  have a2 : nI (1912 + 6 * nn) + 2 = nI (1914 + 6 * nn) := (nI_add _ 2).trans (congrArg nI (by omega))
  have a5 : nI (1912 + 6 * nn) + 5 = nI (1917 + 6 * nn) := (nI_add _ 5).trans (congrArg nI (by omega))
  have no : ∀ (u : St) (f pl : Nat), mF u0 f pl u → F f pl = r → bz (0 : Int32) ∧ post 0 u := fun u f pl hf e => ⟨Or.inl rfl, h0 u f pl hf e⟩
  unfold qX12_timeOrder
  rw [a1, a2]
  refine ⟨fun z => absurd z (by decide), fun z => absurd z (by decide), fun z => absurd z (by decide), fun z => absurd z (by decide), fun z => absurd z (by decide), fun _ => ?_, fun z => absurd z (by decide), fun z => absurd z (by decide), fun _ _ _ _ _ z => absurd rfl z⟩
  exact h1 u t _ 5 18 0 0 0 h hr (by unfold kR; omega) ⟨⟨18, by unfold kR; omega⟩, by omega, by omega, by omega, by omega, by omega, by omega, by omega, by omega, by omega⟩ (by omega) hp

theorem d_ord8 {R : Type} {r : R} {u0 : St} {T : Nat → Nat} {n m : Nat} {M : MH} {nn : Nat} {t : Tk} {E : Ex} {A0 A : Nat → Int32} {NM : Nat → Int64} {K : Nat → Nat → Nat → Nat → Tk → R} {F : Nat → Nat → R} {u : St} {post : Int32 → St → Prop} (ok : okH M) (hM : MR (ga u0 0) (gl u0 1) 0 0 M) (h : mS u0 T n m t E A NM u) (hn : nn < 60) (hr : rowA A0 A nn 19 0 0 0) (hp : pAc T n M 8 t K F = r) (h1 : ∀ u' t' A' k' k2 a b c, mS u0 T n m t' E A' NM u' → rowA A0 A' nn k2 a b c → kR k' k2 → rwk M k' a b c → (bkK k') → K k' a b c t' = r → post 1 u') (h0 : ∀ u' f pl, mF u0 f pl u' → F f pl = r → post 0 u') : qX12_timeOrder 19 (nI (1912 + 6 * nn)) u post := by
  replace hp : pTs T n M t K F = r := hp
  have h8 := ok.1
  have h5 := ok.2.1
  have a1 : nI (1912 + 6 * nn) + 1 = nI (1913 + 6 * nn) := (nI_1 _).trans (congrArg nI (by omega))
  have a2 : nI (1912 + 6 * nn) + 2 = nI (1914 + 6 * nn) := (nI_add _ 2).trans (congrArg nI (by omega))
  have a5 : nI (1912 + 6 * nn) + 5 = nI (1917 + 6 * nn) := (nI_add _ 5).trans (congrArg nI (by omega))
  have no : ∀ (u : St) (f pl : Nat), mF u0 f pl u → F f pl = r → bz (0 : Int32) ∧ post 0 u := fun u f pl hf e => ⟨Or.inl rfl, h0 u f pl hf e⟩
  unfold qX12_timeOrder
  rw [a1, a2]
  refine ⟨fun z => absurd z (by decide), fun z => absurd z (by decide), fun z => absurd z (by decide), fun z => absurd z (by decide), fun z => absurd z (by decide), fun z => absurd z (by decide), fun _ => ?_, fun z => absurd z (by decide), fun _ _ _ _ _ _ z => absurd rfl z⟩
  exact d_test ok hM h hn hr hp (fun u' t' A' k' k2 a b c x1 x2 x3 x4 x5 x6 => ⟨Or.inr rfl, h1 u' t' A' k' k2 a b c x1 x2 x3 x4 x5 x6⟩) (fun u f pl hf e => no u f pl hf e)

theorem d_ord7 {R : Type} {r : R} {u0 : St} {T : Nat → Nat} {n m : Nat} {M : MH} {nn : Nat} {t : Tk} {E : Ex} {A0 A : Nat → Int32} {NM : Nat → Int64} {K : Nat → Nat → Nat → Nat → Tk → R} {F : Nat → Nat → R} {u : St} {post : Int32 → St → Prop} (ok : okH M) (hM : MR (ga u0 0) (gl u0 1) 0 0 M) (h : mS u0 T n m t E A NM u) (hn : nn < 60) (hr : rowA A0 A nn 20 0 0 0) (hp : pAc T n M 7 t K F = r) (h1 : ∀ u' t' A' k' k2 a b c, mS u0 T n m t' E A' NM u' → rowA A0 A' nn k2 a b c → kR k' k2 → rwk M k' a b c → (bkK k') → K k' a b c t' = r → post 1 u') (h0 : ∀ u' f pl, mF u0 f pl u' → F f pl = r → post 0 u') : qX12_timeOrder 20 (nI (1912 + 6 * nn)) u post := by
  rw [pAc] at hp
  have h8 := ok.1
  have h5 := ok.2.1
  have a1 : nI (1912 + 6 * nn) + 1 = nI (1913 + 6 * nn) := (nI_1 _).trans (congrArg nI (by omega))
  have a2 : nI (1912 + 6 * nn) + 2 = nI (1914 + 6 * nn) := (nI_add _ 2).trans (congrArg nI (by omega))
  have a5 : nI (1912 + 6 * nn) + 5 = nI (1917 + 6 * nn) := (nI_add _ 5).trans (congrArg nI (by omega))
  have no : ∀ (u : St) (f pl : Nat), mF u0 f pl u → F f pl = r → bz (0 : Int32) ∧ post 0 u := fun u f pl hf e => ⟨Or.inl rfl, h0 u f pl hf e⟩
  unfold qX12_timeOrder
  rw [a1, a2]
  refine ⟨fun z => absurd z (by decide), fun z => absurd z (by decide), fun z => absurd z (by decide), fun z => absurd z (by decide), fun z => absurd z (by decide), fun z => absurd z (by decide), fun z => absurd z (by decide), fun _ => ?_, fun _ _ _ _ _ _ _ z => absurd rfl z⟩
  exact d_num (l := 1) (g := 99) h (by omega) (by omega) rfl rfl hp (fun u a t' h' x1 x2 hp => ⟨Or.inr rfl, h1 u t' _ 7 20 a 0 0 h' (hr.a a) (by unfold kR; omega) ⟨⟨20, by unfold kR; omega⟩, by omega, by omega, by omega, by omega, by omega, by omega, by omega, by omega, by omega⟩ (by omega) hp⟩) (fun u f pl hf e => no u f pl hf e)

theorem d_ord6 {R : Type} {r : R} {u0 : St} {T : Nat → Nat} {n m : Nat} {M : MH} {nn : Nat} {t : Tk} {E : Ex} {A0 A : Nat → Int32} {NM : Nat → Int64} {K : Nat → Nat → Nat → Nat → Tk → R} {F : Nat → Nat → R} {u : St} {post : Int32 → St → Prop} (ok : okH M) (hM : MR (ga u0 0) (gl u0 1) 0 0 M) (h : mS u0 T n m t E A NM u) (hn : nn < 60) (hr : rowA A0 A nn 22 0 0 0) (hp : pAc T n M 6 t K F = r) (h1 : ∀ u' t' A' k' k2 a b c, mS u0 T n m t' E A' NM u' → rowA A0 A' nn k2 a b c → kR k' k2 → rwk M k' a b c → (k' ≤ 6) → K k' a b c t' = r → post 1 u') (h0 : ∀ u' f pl, mF u0 f pl u' → F f pl = r → post 0 u') : qX12_timeOrder 22 (nI (1912 + 6 * nn)) u post := by
  rw [pAc] at hp
  have h8 := ok.1
  have h5 := ok.2.1
  have a1 : nI (1912 + 6 * nn) + 1 = nI (1913 + 6 * nn) := (nI_1 _).trans (congrArg nI (by omega))
  have a2 : nI (1912 + 6 * nn) + 2 = nI (1914 + 6 * nn) := (nI_add _ 2).trans (congrArg nI (by omega))
  have a5 : nI (1912 + 6 * nn) + 5 = nI (1917 + 6 * nn) := (nI_add _ 5).trans (congrArg nI (by omega))
  have no : ∀ (u : St) (f pl : Nat), mF u0 f pl u → F f pl = r → bz (0 : Int32) ∧ post 0 u := fun u f pl hf e => ⟨Or.inl rfl, h0 u f pl hf e⟩
  unfold qX12_timeOrder
  rw [a1, a2]
  refine ⟨fun z => absurd z (by decide), fun z => absurd z (by decide), fun z => absurd z (by decide), fun z => absurd z (by decide), fun z => absurd z (by decide), fun z => absurd z (by decide), fun z => absurd z (by decide), fun z => absurd z (by decide), fun _ _ _ _ _ _ _ _ => ?_⟩
  exact h1 u t _ 6 22 0 0 0 h hr (by unfold kR; omega) ⟨⟨22, by unfold kR; omega⟩, by omega, by omega, by omega, by omega, by omega, by omega, by omega, by omega, by omega⟩ (by omega) hp

