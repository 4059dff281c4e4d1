/-! STEPS 35: reading, more of what both do with a token -/
theorem kM_eq {k : Nat} (h : k ≤ 4) : (kM k = 2 ↔ k = 1) ∧ (kM k = 3 ↔ k = 2) ∧ (kM k = 4 ↔ k = 3) ∧ (kM k = 1 ↔ k = 4) ∧ (kM k = 0 ↔ k = 0) ∧ kM k ≤ 4 := by
  have : k = 0 ∨ k = 1 ∨ k = 2 ∨ k = 3 ∨ k = 4 := by omega
  rcases this with rfl | rfl | rfl | rfl | rfl <;> decide
theorem r_next {T : Nat → Nat} {n : Nat} {t : Nat × Nat × Nat × Nat} {u u1 : St} {post : St → St → Prop} (h : txR (ga u1 0) T n) (ht : tkC u T n t) (ho : tkO T n t) (fin : ∀ u', tkC u' T n (nxT T n t) → post u' u1) : qX8_advance u u1 post := r_advance h ho.2.2.1 ht.1 ht.2.1 ht.2.2.2.2.1 fin
theorem nxT_ok {T : Nat → Nat} {n : Nat} {t : Nat × Nat × Nat × Nat} (ho : tkO T n t) : tkO T n (nxT T n t) := (tok_ok ho.2.2.1).1
theorem r_take {T : Nat → Nat} {n w : Nat} {t : Nat × Nat × Nat × Nat} {u u1 : St} {post : St → St → Prop} (h : txR (ga u1 0) T n) (hw : w < 25) (ht : tkC u T n t) (ho : tkO T n t) (h1 : wdT T t = nI (wM w) → ∀ u', tkC u' T n (nxT T n t) → post u' u1) (h0 : wdT T t ≠ nI (wM w) → ∀ u', fdC u' (fltT t 2) t.2.1 → post u' u1) : qX8_take w u u1 post :=
  r_isAt hw ht ho (fun c => ⟨fun q => absurd q (by decide), fun _ => r_next h ht ho (h1 c)⟩) (fun c => ⟨fun _ => r_fail (why := 2) ht ho (by omega) (h0 c), fun q => absurd rfl q⟩)
theorem f_take {w f pl : Nat} {u u1 : St} {post : St → St → Prop} (h : fdC u f pl) (fin : post u u1) : qX8_take w u u1 post := f_isAt h ⟨fun _ => f_fail h fin, fun q => absurd rfl q⟩
theorem r_takeIf {T : Nat → Nat} {n w : Nat} {t : Nat × Nat × Nat × Nat} {u u1 : St} {post : Int32 → St → St → Prop} (h : txR (ga u1 0) T n) (hw : w < 25) (ht : tkC u T n t) (ho : tkO T n t) (h1 : wdT T t = nI (wM w) → ∀ u', tkC u' T n (nxT T n t) → post 1 u' u1) (h0 : wdT T t ≠ nI (wM w) → post 0 u u1) : qX8_takeIf w u u1 post :=
  r_isAt hw ht ho (fun c => ⟨fun q => absurd q (by decide), fun _ => r_next h ht ho (fun u' q => ⟨Or.inr rfl, h1 c u' q⟩)⟩) (fun c => ⟨fun _ => ⟨Or.inl rfl, h0 c⟩, fun q => absurd rfl q⟩)
theorem f_takeIf {w f pl : Nat} {u u1 : St} {post : Int32 → St → St → Prop} (h : fdC u f pl) (fin : post 0 u u1) : qX8_takeIf w u u1 post := f_isAt h ⟨fun _ => ⟨Or.inl rfl, fin⟩, fun q => absurd rfl q⟩
theorem r_isAtNumber {T : Nat → Nat} {n : Nat} {t : Nat × Nat × Nat × Nat} {u u1 : St} {post : Int32 → St → St → Prop} (ht : tkC u T n t) (ho : tkO T n t) (h1 : t.1 = 2 → post 1 u u1) (h0 : t.1 ≠ 2 → post 0 u u1) : qX8_isAtNumber u u1 post := by
  refine ⟨fun c => absurd ht.2.1 c, fun _ => ?_⟩
  rw [ht.2.2.1, show (2 : Int32) = nI 2 from rfl, nI_eq (by have := ho.1; omega) (by omega)]
  exact ⟨fun c => ⟨Or.inl rfl, h0 c⟩, fun c => ⟨Or.inr rfl, h1 c⟩⟩
theorem f_isAtNumber {f pl : Nat} {u u1 : St} {post : Int32 → St → St → Prop} (h : fdC u f pl) (fin : post 0 u u1) : qX8_isAtNumber u u1 post := ⟨fun _ => ⟨Or.inl rfl, fin⟩, fun c => absurd c (fdC_n h)⟩
/-- a number between two; hi may be one below 0 -/
theorem r_takeNumber {T : Nat → Nat} {n : Nat} {lo hi : Int32} {t : Nat × Nat × Nat × Nat} {u u1 : St} {post : Int32 → St → St → Prop} (h : txR (ga u1 0) T n) (ht : tkC u T n t) (ho : tkO T n t) (h1 : t.1 = 2 → lo.toInt ≤ t.2.2.2 → (t.2.2.2 : Int) ≤ hi.toInt → ∀ u', tkC u' T n (nxT T n t) → post (nI t.2.2.2) u' u1) (h0 : t.1 = 2 → ((t.2.2.2 : Int) < lo.toInt ∨ hi.toInt < t.2.2.2) → ∀ u', fdC u' 4 t.2.1 → post (-1) u' u1) (h2 : t.1 ≠ 2 → ∀ u', fdC u' (fltT t 2) t.2.1 → post (-1) u' u1) : qX8_takeNumber lo hi u u1 post := by
  refine r_isAtNumber ht ho (fun c => ⟨fun _ x ex => ?_, fun q => absurd q (by decide)⟩) (fun c => ⟨fun q => absurd rfl q, fun _ => r_fail (why := 2) ht ho (by omega) (h2 c)⟩)
  have e4 : gi u 4 = nI t.2.2.2 := by
    have := ht.2.2.2.2.2.1 (Or.inl c)
    rw [c] at this
    exact this
  rw [e4] at ex
  subst ex
  have hv := ho.2.2.2.2
  refine r_within lo.toInt hi.toInt rfl rfl (fun a b => ⟨fun _ => r_next h ht ho (fun u' q => ?_), fun q => absurd q (by decide)⟩) (fun a => ⟨fun q => absurd rfl q, fun _ => r_fail (why := 4) ht ho (by omega) (fun u' q => ?_)⟩)
  · rw [nI_toInt (by omega)] at a b
    exact h1 c a b u' q
  · rw [nI_toInt (by omega)] at a
    refine h0 c a u' ?_
    unfold fltT at q
    rw [if_neg (by omega)] at q
    exact q
theorem f_takeNumber {lo hi : Int32} {f pl : Nat} {u u1 : St} {post : Int32 → St → St → Prop} (h : fdC u f pl) (fin : post (-1) u u1) : qX8_takeNumber lo hi u u1 post := f_isAtNumber h ⟨fun q => absurd rfl q, fun _ => f_fail h fin⟩
theorem r_takeSemi {T : Nat → Nat} {n : Nat} {t : Nat × Nat × Nat × Nat} {u u1 : St} {post : St → St → Prop} (h : txR (ga u1 0) T n) (ht : tkC u T n t) (ho : tkO T n t) (h1 : t.1 = 3 → t.2.2.2 = 59 → ∀ u', tkC u' T n (nxT T n t) → post u' u1) (h0 : ¬ (t.1 = 3 ∧ t.2.2.2 = 59) → ∀ u', fdC u' (fltT t 2) t.2.1 → post u' u1) : qX8_takeSemicolon u u1 post := by
  have hv := ho.2.2.2.2
  refine ⟨fun c => absurd ht.2.1 c, fun _ => ?_⟩
  rw [ht.2.2.1, show (3 : Int32) = nI 3 from rfl, nI_eq (by have := ho.1; omega) (by omega)]
  refine ⟨fun c => r_fail (why := 2) ht ho (by omega) (h0 (fun q => c q.1)), fun c => ?_⟩
  have e5 : gi u 5 = nI t.2.2.2 := by
    have := ht.2.2.2.2.2.1 (Or.inr c)
    rw [c] at this
    exact this
  rw [e5, show (59 : Int32) = nI 59 from rfl, nI_eq (by omega) (by omega)]
  exact ⟨fun c2 => r_fail (why := 2) ht ho (by omega) (h0 (fun q => c2 q.2)), fun c2 => r_next h ht ho (h1 c c2)⟩
theorem f_takeSemi {f pl : Nat} {u u1 : St} {post : St → St → Prop} (h : fdC u f pl) (fin : post u u1) : qX8_takeSemicolon u u1 post := ⟨fun _ => f_fail h fin, fun c => absurd c (fdC_n h)⟩
/-- the reference has met a fault -/
def fdM (u : St) (f pl : Nat) : Prop := gi u 18 = nI f ∧ gi u 17 = nI pl
def frF (u u' : St) : Prop := u'.2 = u.2 ∧ ∀ k, k < 12 ∨ k = 16 ∨ 18 < k → gi u' k = gi u k
theorem frT.F {u u' : St} (h : frT u u') : frF u u' := ⟨h.1, fun k hk => h.2 k (by omega)⟩
theorem frF.trans {a b c : St} (h : frF a b) (q : frF b c) : frF a c := ⟨q.1.trans h.1, fun k hk => (q.2 k hk).trans (h.2 k hk)⟩
theorem m_fails {n why : Nat} {t : Nat × Nat × Nat × Nat} {u : St} {post : Int32 → St → Prop} (ht : tkM u n t) (h18 : gi u 18 = 0) (hk : t.1 ≤ 4) (fin : ∀ u', frF u u' → fdM u' (fltT t why) t.2.1 → post 0 u') : qX12_fails (nI why) u post := by
  obtain ⟨g11, g12, g13, g14, g15⟩ := ht
  have km := kM_eq hk
  refine ⟨fun c => absurd h18 c, fun _ => ?_⟩
  rw [g12, show (1 : Int32) = nI 1 from rfl, nI_eq (by omega) (by omega)]
  unfold fltT at fin
  refine ⟨fun c v ev w ew => ?_, fun c v ev w ew => ?_⟩
  · rw [if_neg (fun q => c (km.2.2.2.1.mpr q))] at fin
    rw [ew]
    refine fin _ ⟨by rw [ev]; rfl, fun k hk => ?_⟩ ⟨by rw [ev]; rfl, by rw [ev]; exact g13⟩
    rw [gi_si, if_neg (by omega), ev, gi_si, if_neg (by omega)]
  · rw [if_pos (km.2.2.2.1.mp c)] at fin
    rw [ew]
    refine fin _ ⟨by rw [ev]; rfl, fun k hk => ?_⟩ ⟨by rw [ev]; rfl, by rw [ev]; exact g13⟩
    rw [gi_si, if_neg (by omega), ev, gi_si, if_neg (by omega)]
theorem m_next {T : Nat → Nat} {n : Nat} {t : Nat × Nat × Nat × Nat} {u : St} {post : St → Prop} (h : txR (ga u 9) T n) (ht : tkM u n t) (ho : tkO T n t) (fin : ∀ u', frT u u' → tkM u' n (nxT T n t) → post u') : qX12_ahead u post := m_ahead h ho.2.2.1 ht.1 ht.2.2.2.1 fin
theorem m_wantWord {T : Nat → Nat} {n w : Nat} {t : Nat × Nat × Nat × Nat} {u : St} {post : Int32 → St → Prop} (h : txR (ga u 9) T n) (ht : tkM u n t) (ho : tkO T n t) (h18 : gi u 18 = 0) (h1 : wdT T t = nI w → ∀ u', frT u u' → tkM u' n (nxT T n t) → post 1 u') (h0 : wdT T t ≠ nI w → ∀ u', frF u u' → fdM u' (fltT t 2) t.2.1 → post 0 u') : qX12_wantWord (nI w) u post :=
  m_inWords h ht ho ⟨fun c => m_next h ht ho (h1 c), fun c => m_fails (why := 2) ht h18 ho.1 (fun u' a b => ⟨Or.inl rfl, h0 c u' a b⟩)⟩
theorem m_isThere {T : Nat → Nat} {n w : Nat} {t : Nat × Nat × Nat × Nat} {u : St} {post : Int32 → St → Prop} (h : txR (ga u 9) T n) (ht : tkM u n t) (ho : tkO T n t) (h1 : wdT T t = nI w → ∀ u', frT u u' → tkM u' n (nxT T n t) → post 1 u') (h0 : wdT T t ≠ nI w → post 0 u) : qX12_isThere (nI w) u post :=
  m_inWords h ht ho ⟨fun c => m_next h ht ho (h1 c), fun c => h0 c⟩
theorem m_wantSemi {T : Nat → Nat} {n : Nat} {t : Nat × Nat × Nat × Nat} {u : St} {post : Int32 → St → Prop} (h : txR (ga u 9) T n) (ht : tkM u n t) (ho : tkO T n t) (h18 : gi u 18 = 0) (h1 : t.1 = 3 → t.2.2.2 = 59 → ∀ u', frT u u' → tkM u' n (nxT T n t) → post 1 u') (h0 : ¬ (t.1 = 3 ∧ t.2.2.2 = 59) → ∀ u', frF u u' → fdM u' (fltT t 2) t.2.1 → post 0 u') : qX12_wantSign 59 u post := by
  have km := kM_eq ho.1
  have hv := ho.2.2.2.2
  have no : ¬ (t.1 = 3 ∧ t.2.2.2 = 59) → qX12_fails 2 u (fun r_16 u_15 => bz r_16 ∧ post r_16 u_15) := fun c => m_fails (why := 2) ht h18 ho.1 (fun u' a b => ⟨Or.inl rfl, h0 c u' a b⟩)
  unfold qX12_wantSign qX12_isSign
  rw [ht.2.1, show (4 : Int32) = nI 4 from rfl, nI_eq (by omega) (by omega)]
  refine ⟨fun c => ⟨Or.inl rfl, fun q => absurd rfl q, fun _ => no (fun q => c (km.2.2.1.mpr q.1))⟩, fun c => ?_⟩
  have c3 := km.2.2.1.mp c
  rw [ht.2.2.2.2 (Or.inr c3), show (59 : Int32) = nI 59 from rfl, nI_eq (by omega) (by omega)]
  exact ⟨fun c2 => ⟨Or.inl rfl, fun q => absurd rfl q, fun _ => no (fun q => c2 q.2)⟩, fun c2 => ⟨Or.inr rfl, fun _ => m_next h ht ho (h1 c3 c2), fun q => absurd q (by decide)⟩⟩
theorem m_number {T : Nat → Nat} {n to : Nat} {lo hi : Int32} {t : Nat × Nat × Nat × Nat} {u : St} {post : Int32 → St → Prop} (h : txR (ga u 9) T n) (ht : tkM u n t) (ho : tkO T n t) (h18 : gi u 18 = 0) (hto : to < 3072) (h1 : t.1 = 2 → lo.toInt ≤ t.2.2.2 → (t.2.2.2 : Int) ≤ hi.toInt → ∀ u', frT (sw u 0 (upd (ga u 0) to (nI t.2.2.2))) u' → tkM u' n (nxT T n t) → post 1 u') (h0 : t.1 = 2 → ((t.2.2.2 : Int) < lo.toInt ∨ hi.toInt < t.2.2.2) → ∀ u', frF u u' → fdM u' 4 t.2.1 → post 0 u') (h2 : t.1 ≠ 2 → ∀ u', frF u u' → fdM u' (fltT t 2) t.2.1 → post 0 u') : qX12_number (nI to) lo hi u post := by
  have km := kM_eq ho.1
  have hv := ho.2.2.2.2
  unfold qX12_number
  rw [ht.2.1, show (3 : Int32) = nI 3 from rfl, nI_eq (by omega) (by omega)]
  refine ⟨fun c => ?_, fun c => m_fails (why := 2) ht h18 ho.1 (fun u' a b => ⟨Or.inl rfl, h2 (fun q => c (km.2.1.mpr q)) u' a b⟩)⟩
  have c2 := km.2.1.mp c
  have no : ((t.2.2.2 : Int) < lo.toInt ∨ hi.toInt < t.2.2.2) → qX12_number_b30 post u := fun q => m_fails (why := 4) ht h18 ho.1 (fun u' a b => ⟨Or.inl rfl, h0 c2 q u' a (by
    unfold fltT at b
    rw [if_neg (by omega)] at b
    exact b)⟩)
  rw [ht.2.2.2.2 (Or.inl c2), i_lt, i_le, nI_toInt (by omega), nI_clamp (by omega)]
  refine ⟨fun q => no (Or.inl q), fun q => ⟨fun q2 => ⟨vp_in_nI hto (by omega), fun v ev => ?_⟩, fun q2 => no (Or.inr (by omega))⟩⟩
  subst ev
  exact m_next (u := sw u 0 (upd (ga u 0) to (nI t.2.2.2))) h ht ho (h1 c2 (by omega) q2)
