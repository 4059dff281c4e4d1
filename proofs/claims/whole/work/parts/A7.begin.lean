/-! STEPS 42: both begin to read -/
def txT (g : Nat → Int32) (j : Nat) : Nat := (g j &&& 255).toNatClampNeg
theorem tx_of {g : Nat → Int32} {n : Nat} (hn : n ≤ 900) (h : ∀ j, j < n → (g j).toInt8.toInt32 = g j) : txR g (txT g) n := by
  refine ⟨hn, fun j hj => ?_⟩
  obtain ⟨b, hb, e, q⟩ := by_of (h j hj)
  have et : txT g j = b := by
    unfold txT
    rw [e, nI_clamp (by omega)]
  rw [et]
  exact ⟨hb, e, q⟩
theorem tx_eq {g g' : Nat → Int32} {T : Nat → Nat} {n : Nat} (h : txR g T n) (e : ∀ j, j < n → g' j = g j) : txR g' T n := ⟨h.1, fun j hj => by rw [e j hj]; exact h.2 j hj⟩
theorem c_begin {T : Nat → Nat} {n : Nat} {u u1 : St} {post : St → St → Prop} (h : txR (ga u1 0) T n) (fin : ∀ u', tC u' T n (tok T n 0) → post u' u1) : qX8_begin (nI n) u u1 post := by
  have hn := h.1
  intro a ea b eb c ec
  have e9 : ¬ (900 : Int32) < nI n := fun q => by
    rw [i_lt, nI_toInt (by omega), show (900 : Int32).toInt = 900 from rfl] at q
    omega
  rw [if_neg e9] at ea
  refine r_advance h (Nat.zero_le _) ?_ ?_ ?_ (fun u' q => fin u' ⟨q, (tok_ok (Nat.zero_le _)).1⟩)
  · rw [ec, eb, ea]; rfl
  · rw [ec]; rfl
  · rw [ec, eb]; rfl
/-- what the reference's beginning leaves as it was -/
def bgF (ms b : St) : Prop := (∀ k, k ≠ 10 → k ≠ 11 → k ≠ 14 → k ≠ 17 → k ≠ 18 → k ≠ 19 → gi b k = gi ms k) ∧ gi b 10 = 0 ∧ (∀ k, gj b k = gj ms k) ∧ (∀ k, k ≠ 9 → ga b k = ga ms k) ∧ (∀ k, gl b k = gl ms k)
theorem bg_loop {T : Nat → Nat} {n : Nat} {ms : St} {post : Int32 → St → Prop} (hT : txR (ga ms 8) T n) (hb : ∀ j, j < n → (ga ms 8 j).toInt8.toInt32 = ga ms 8 j) (fin : ∀ b u', bgF ms b → mS b T n 0 (tok T n 0) (exO b) (ga ms 0) (gl ms 1) u' → post 1 u') : ∀ (m i : Nat) (u : St), i + m = n → (∀ k, k ≠ 11 → gi u k = gi ms k) → gi u 11 = nI n → (∀ k, gj u k = gj ms k) → (∀ k, k ≠ 9 → ga u k = ga ms k) → (∀ k, gl u k = gl ms k) → (∀ j, j < i → ga u 9 j = ga ms 8 j) → qX12_begins_L26 post (m + 1) (nI n) (nI i) u := by
  have hn := hT.1
  intro m
  induction m with
  | zero =>
    intro i u hi gI g11 gJ gA gL g9
    have : i = n := by omega
    subst this
    refine ⟨fun _ => ?_, fun c => absurd (nI_le (Nat.le_refl _) (by omega)) c⟩
    intro a ea b eb c ec d ed e ee
    have hx : txR (ga e 9) T i := by
      rw [ee, ga_si, ed, ga_si, ec, ga_si, eb, ga_si, ea, ga_si]
      exact tx_eq hT g9
    have gi5 : ∀ k, gi e k = if k = 19 then 0 else if k = 14 then 0 else if k = 17 then -1 else if k = 18 then 0 else if k = 10 then 0 else gi u k := fun k => by
      rw [ee, gi_si, ed, gi_si, ec, gi_si, eb, gi_si, ea, gi_si]
    have ga5 : ∀ k, ga e k = ga u k := fun k => by rw [ee, ed, ec, eb, ea]; rfl
    have gj5 : ∀ k, gj e k = gj u k := fun k => by rw [ee, ed, ec, eb, ea]; rfl
    have gl5 : ∀ k, gl e k = gl u k := fun k => by rw [ee, ed, ec, eb, ea]; rfl
    have hbg : bgF ms e := by
      refine ⟨fun k k1 k2 k3 k4 k5 k6 => ?_, by rw [gi5]; rfl, fun k => (gj5 k).trans (gJ k), fun k hk => (ga5 k).trans (gA k hk), fun k => (gl5 k).trans (gL k)⟩
      rw [gi5, if_neg k6, if_neg k3, if_neg k4, if_neg k5, if_neg k1]
      exact gI k k2
    refine m_ahead hx (Nat.zero_le _) ((gi5 11).trans g11) (by rw [gi5]; rfl) (fun u' q z => fin e u' hbg ?_)
    have ea' : ∀ k, ga u' k = ga e k := fun k => by unfold ga; rw [q.1]
    have el' : ∀ k, gl u' k = gl e k := fun k => by unfold gl; rw [q.1]
    have ej' : ∀ k, gj u' k = gj e k := fun k => by unfold gj; rw [q.1]
    refine ⟨z, (tok_ok (Nat.zero_le _)).1, by rw [ea']; exact hx, (q.2 18 (by omega)).trans (by rw [gi5]; rfl), (q.2 17 (by omega)).trans (by rw [gi5]; rfl), (ea' 0).trans ((ga5 0).trans (gA 0 (by decide))), (el' 1).trans ((gl5 1).trans (gL 1)), ?_, ⟨fun k hk => q.2 k (by omega), ej', fun k _ _ => ea' k, fun k _ => el' k, fun j _ => by rw [ea'], fun j _ => by rw [el']⟩, Nat.zero_le _⟩
    unfold exO
    rw [q.2 20 (by omega), q.2 22 (by omega), q.2 23 (by omega), ea']
  | succ m ih =>
    intro i u hi gI g11 gJ gA gL g9
    refine ⟨fun c => absurd c (nI_ge (by omega) (by omega)), fun _ => ⟨vp_in_nI (by omega) (by omega), vp_in_nI (by omega) (by omega), fun u2 e2 x ex => ?_⟩⟩
    rw [nI_clamp (by omega)] at e2
    rw [nI_1] at ex
    subst ex
    have ev : vp_nar .byte (ga u 8 i) = ga ms 8 i := by
      rw [gA 8 (by decide)]
      conv => rhs; rw [← hb i (by omega)]
      exact (vp_nar_byte _).symm
    rw [ev] at e2
    refine ih (i + 1) u2 (by omega) (fun k hk => ?_) ?_ (fun k => ?_) (fun k hk => ?_) (fun k => ?_) (fun j hj => ?_)
    · rw [e2]; exact gI k hk
    · rw [e2]; exact g11
    · rw [e2]; exact gJ k
    · rw [e2, ga_sw, if_neg hk]; exact gA k hk
    · rw [e2]; exact gL k
    · rw [e2, ga_sw, if_pos rfl, upd_at]
      by_cases q : j = i
      · subst q; rw [if_pos rfl]
      · rw [if_neg q]; exact g9 j (by omega)
theorem d_begin {T : Nat → Nat} {n N mo : Nat} {ms : St} {post : Int32 → St → Prop} (g10 : gi ms 10 = nI N) (hN : N ≤ 900) (hn : n ≤ N) (hm : n ≤ mo) (hmo : mo ≤ 900) (hT : txR (ga ms 8) T n) (hb : ∀ j, j < n → (ga ms 8 j).toInt8.toInt32 = ga ms 8 j) (fin : ∀ b u', bgF ms b → mS b T n 0 (tok T n 0) (exO b) (ga ms 0) (gl ms 1) u' → post 1 u') : qX12_begins (nI n) (nI mo) ms post := by
  unfold qX12_begins
  rw [g10]
  refine ⟨fun c => absurd c (by rw [i_lt, nI_toInt (by omega), show (0 : Int32).toInt = 0 from rfl]; omega), fun _ => ⟨fun c => absurd c (by rw [i_lt, nI_toInt (by omega), nI_toInt (by omega)]; omega), fun _ => ⟨fun _ u e => ⟨n + 1, ?_⟩, fun c => absurd (nI_le hm (by omega)) c⟩⟩⟩
  refine bg_loop hT hb fin n 0 u (by omega) (fun k hk => ?_) ?_ (fun k => ?_) (fun k hk => ?_) (fun k => ?_) (fun j hj => absurd hj (by omega))
  · rw [e, gi_si, if_neg hk]
  · rw [e]; rfl
  · rw [e]; rfl
  · rw [e]; rfl
  · rw [e]; rfl
theorem d_begin0 {x mo : Int32} {ms : St} {post : Int32 → St → Prop} (h : x < 0 ∨ gi ms 10 < x ∨ ¬ x ≤ mo) (fin : post 0 ms) : qX12_begins x mo ms post :=
  ⟨fun _ => fin, fun c0 => ⟨fun _ => fin, fun c1 => ⟨fun c2 => (h.elim (fun q => absurd q c0) (fun q => q.elim (fun q => absurd q c1) (fun q => absurd c2 q))), fun _ => fin⟩⟩⟩
/-- the new slot is made plain -/
theorem pl_loop {u0 : St} {T : Nat → Nat} {n m : Nat} {t : Tk} {E : Ex} {A : Nat → Int32} {NM : Nat → Int64} {post : St → Prop} (fin : ∀ u A', mS u0 T n m t E A' NM u → (∀ j, A' j = if j = 1831 then -1 else if j = 1827 then 4 else if 1824 ≤ j ∧ j < 2280 then 0 else A j) → post u) : ∀ (k i : Nat) (A1 : Nat → Int32) (u : St), i + k = 456 → mS u0 T n m t E A1 NM u → (∀ j, A1 j = if 1824 ≤ j ∧ j < 1824 + i then 0 else A j) → qX12_plain_L2 post (k + 1) 1824 (nI i) u := by
  intro k
  induction k with
  | zero =>
    intro i A1 u hi h hA
    have : i = 456 := by omega
    subst this
    refine ⟨fun _ => ⟨vp_in_nI (n := 1827) (by omega) (by omega), fun u1 e1 => ⟨vp_in_nI (n := 1831) (by omega) (by omega), fun u2 e2 => ?_⟩⟩, fun c => absurd (by decide) c⟩
    have h1 := h.sw (j := 1827) 4 (by omega) (by omega)
    rw [show ((1824 : Int32) + 3).toNatClampNeg = 1827 from rfl] at e1
    rw [← e1] at h1
    have h2 := h1.sw (j := 1831) (-1) (by omega) (by omega)
    rw [show ((1824 : Int32) + 7).toNatClampNeg = 1831 from rfl] at e2
    rw [← e2] at h2
    refine fin u2 _ h2 (fun j => ?_)
    rw [upd_at, upd_at, hA]
  | succ k ih =>
    intro i A1 u hi h hA
    have ei : (1824 : Int32) + nI i = nI (1824 + i) := nI_add 1824 i
    refine ⟨fun c => absurd c (nI_ge (b := 456) (by omega) (by omega)), fun _ => ?_⟩
    rw [ei, nI_clamp (by omega)]
    refine ⟨vp_in_nI (by omega) (by omega), fun u1 e1 x ex => ?_⟩
    rw [nI_1] at ex
    subst ex
    have h1 := h.sw (j := 1824 + i) 0 (by omega) (by omega)
    rw [← e1] at h1
    refine ih (i + 1) _ u1 (by omega) h1 (fun j => ?_)
    rw [upd_at, hA]
    by_cases c : j = 1824 + i
    · rw [if_pos c, if_pos (by omega)]
    · rw [if_neg c]
      by_cases c2 : 1824 ≤ j ∧ j < 1824 + i
      · rw [if_pos c2, if_pos (by omega)]
      · rw [if_neg c2, if_neg (by omega)]
theorem M00_ok : okH M00 := ⟨by decide, by decide, by decide, by decide, trivial, by decide, by decide, by decide, fun s hs => absurd hs (Nat.not_lt_zero _), fun p hp => absurd hp (Nat.not_lt_zero _), fun d hd => absurd hd (Nat.not_lt_zero _)⟩
theorem hr_0 {A A' : Nat → Int32} {NM : Nat → Int64} (h : ∀ j, A' j = if j = 1831 then -1 else if j = 1827 then 4 else if 1824 ≤ j ∧ j < 2280 then 0 else A j) : hR A' NM M00 := by
  refine ⟨⟨fun k hk => ?_, fun s hs => absurd hs (Nat.not_lt_zero _), fun p hp => absurd hp (Nat.not_lt_zero _), fun d hd => absurd hd (Nat.not_lt_zero _)⟩, by rw [h]; rfl⟩
  rw [h, if_neg (by omega)]
  unfold M00
  by_cases c : k = 3
  · subst c
    rfl
  · rw [if_neg (by omega), if_pos (by omega), if_neg c]
    rfl
theorem c_clear {u : St} {post : St → Prop} (k : ∀ u', CH u' M00 → post u') : qX2_clear u post := by
  intro a ea b eb c ec d ed e ee f ef g eg i ei
  refine k i ⟨fun k hk => ?_, fun k _ _ s hs => absurd hs (Nat.not_lt_zero _), fun p hp => absurd hp (Nat.not_lt_zero _), fun k _ _ d hd => absurd hd (Nat.not_lt_zero _)⟩
  have : k = 0 ∨ k = 1 ∨ k = 2 ∨ k = 3 ∨ k = 4 ∨ k = 5 ∨ k = 6 ∨ k = 7 := by omega
  rw [ei, eg, ef, ee, ed, ec, eb, ea]
  rcases this with rfl | rfl | rfl | rfl | rfl | rfl | rfl | rfl <;> rfl
