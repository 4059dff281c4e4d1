/-! STEPS 32: reading, the reference's tokens -/
def kM (k : Nat) : Nat := if k = 1 then 2 else if k = 2 then 3 else if k = 3 then 4 else if k = 4 then 1 else 0
def tkM (u : St) (n : Nat) (t : Nat × Nat × Nat × Nat) : Prop := gi u 11 = nI n ∧ gi u 12 = nI (kM t.1) ∧ gi u 13 = nI t.2.1 ∧ gi u 14 = nI t.2.2.1 ∧ (t.1 = 2 ∨ t.1 = 3 → gi u 15 = nI t.2.2.2)
/-- but for the token all is as it was -/
def frT (u u' : St) : Prop := u'.2 = u.2 ∧ ∀ k, k < 12 ∨ 15 < k → gi u' k = gi u k
theorem frT.rfl {u : St} : frT u u := ⟨_root_.rfl, fun _ _ => _root_.rfl⟩
theorem frT.trans {a b c : St} (h : frT a b) (q : frT b c) : frT a c := ⟨q.1.trans h.1, fun k hk => (q.2 k hk).trans (h.2 k hk)⟩
theorem frT_si (u : St) {k : Nat} (v : Int32) (h : 12 ≤ k ∧ k ≤ 15) : frT u (si u k v) := ⟨rfl, fun j hj => by rw [gi_si, if_neg (by omega)]⟩
theorem frT.ga {u u' : St} (h : frT u u') (k : Nat) : ga u' k = ga u k := by
  show u'.2.2.1 k = u.2.2.1 k
  rw [h.1]
theorem m_byteAt {T : Nat → Nat} {n j : Nat} {u : St} {post : Int32 → St → Prop} (h : txR (ga u 9) T n) (g : gi u 11 = nI n) (hj : j ≤ n) (h1 : j < n → post (nI (T j)) u) (h0 : j = n → post (-1) u) : qX12_byteAt (nI j) u post := by
  have hn := h.1
  unfold qX12_byteAt
  rw [g, nI_leI (by omega) (by omega)]
  refine ⟨fun c => h0 (by omega), fun c => ⟨vp_in_nI (by omega) (by omega), ?_⟩⟩
  unfold qX12_byteAt_b22
  rw [nI_clamp (by omega), (h.2 j (by omega)).2.1]
  exact h1 (by omega)
theorem m_small {b : Nat} {post : Int32 → Prop} (hb : b < 256) (h1 : 97 ≤ b ∧ b ≤ 122 → post 1) (h0 : ¬ (97 ≤ b ∧ b ≤ 122) → post 0) : qX12_isSmall (nI b) post := by
  unfold qX12_isSmall
  rw [show (97 : Int32) = nI 97 from rfl, show (122 : Int32) = nI 122 from rfl, nI_ltI (by omega) (by omega), nI_ltI (by omega) (by omega)]
  exact ⟨fun c => ⟨Or.inl rfl, h0 (by omega)⟩, fun c => ⟨fun c2 => ⟨Or.inl rfl, h0 (by omega)⟩, fun c2 => ⟨Or.inr rfl, h1 (by omega)⟩⟩⟩
theorem m_small_m1 {post : Int32 → Prop} (h0 : post 0) : qX12_isSmall (-1) post := ⟨fun _ => ⟨Or.inl rfl, h0⟩, fun c => absurd (by decide) c⟩
theorem m_digit {b : Nat} {post : Int32 → Prop} (hb : b < 256) (h1 : 48 ≤ b ∧ b ≤ 57 → post 1) (h0 : ¬ (48 ≤ b ∧ b ≤ 57) → post 0) : qX12_isDigit (nI b) post := by
  unfold qX12_isDigit
  rw [show (48 : Int32) = nI 48 from rfl, show (57 : Int32) = nI 57 from rfl, nI_ltI (by omega) (by omega), nI_ltI (by omega) (by omega)]
  exact ⟨fun c => ⟨Or.inl rfl, h0 (by omega)⟩, fun c => ⟨fun c2 => ⟨Or.inl rfl, h0 (by omega)⟩, fun c2 => ⟨Or.inr rfl, h1 (by omega)⟩⟩⟩
theorem m_digit_m1 {post : Int32 → Prop} (h0 : post 0) : qX12_isDigit (-1) post := ⟨fun _ => ⟨Or.inl rfl, h0⟩, fun c => absurd (by decide) c⟩
theorem mw_loop {T : Nat → Nat} {n p : Nat} {u0 : St} {post : St → Prop} (h : txR (ga u0 9) T n) (g11 : gi u0 11 = nI n) : ∀ (m i : Nat) (u : St), i + m = n → frT u0 u → gi u 13 = nI p → gi u 14 = nI i → (∀ u', frT u0 u' → tkM u' n (1, p, runE (leB T) m i, 0) → post u') → qX12_ahead_L81 post (m + 1) u := by
  have hn := h.1
  have done : ∀ (i : Nat) (u : St), frT u0 u → gi u 13 = nI p → gi u 14 = nI i → (∀ u', frT u0 u' → tkM u' n (1, p, i, 0) → post u') → qX12_ahead_b108 post u := fun i u fr g13 g14 fin v ev => by
    subst ev
    exact fin _ (fr.trans (frT_si u 2 (by omega))) ⟨(fr.2 11 (by omega)).trans g11, rfl, g13, g14, fun q => absurd q (by simp)⟩
  intro m
  induction m with
  | zero =>
    intro i u hi fr g13 g14 fin
    have hu : txR (ga u 9) T n := by rw [fr.ga]; exact h
    show qX12_byteAt (gi u 14) u _
    rw [g14]
    exact m_byteAt hu ((fr.2 11 (by omega)).trans g11) (by omega) (fun c => absurd c (by omega)) (fun _ => m_small_m1 ⟨fun _ => done i u fr g13 g14 fin, fun c => absurd rfl c⟩)
  | succ m ih =>
    intro i u hi fr g13 g14 fin
    have hu : txR (ga u 9) T n := by rw [fr.ga]; exact h
    show qX12_byteAt (gi u 14) u _
    rw [g14]
    rw [runE] at fin
    refine m_byteAt hu ((fr.2 11 (by omega)).trans g11) (by omega) (fun c => m_small (h.2 i c).1 (fun c1 => ⟨fun q => absurd q (by decide), fun _ v ev => ?_⟩) (fun c1 => ⟨fun _ => ?_, fun q => absurd rfl q⟩)) (fun c => absurd c (by omega))
    · rw [if_pos (show leB T i = true from decide_eq_true c1)] at fin
      rw [g14, nI_1] at ev
      subst ev
      exact ih (i + 1) _ (by omega) (fr.trans (frT_si u _ (by omega))) g13 rfl fin
    · rw [if_neg (show ¬ leB T i = true from fun q => c1 (of_decide_eq_true q))] at fin
      exact done i u fr g13 g14 fin
theorem md_loop {T : Nat → Nat} {n p : Nat} {u0 : St} {post : St → Prop} (h : txR (ga u0 9) T n) (g11 : gi u0 11 = nI n) : ∀ (m i : Nat) (u : St), i + m = n → p ≤ i → frT u0 u → gi u 13 = nI p → gi u 14 = nI i → (∃ w, w ≤ 100000 ∧ gi u 15 = nI w ∧ (i - p ≤ 4 → w = dcN T p (i - p) ∧ w < 10 ^ (i - p))) → (∀ u', frT u0 u' → tkM u' n (if runE (diB T) m i - p ≤ 4 then (2, p, runE (diB T) m i, dcN T p (runE (diB T) m i - p)) else (4, p, runE (diB T) m i, 0)) → post u') → qX12_ahead_L128 post (m + 1) u := by
  have hn := h.1
  have done : ∀ (i : Nat) (u : St), p ≤ i → i ≤ n → frT u0 u → gi u 13 = nI p → gi u 14 = nI i → (∃ w, w ≤ 100000 ∧ gi u 15 = nI w ∧ (i - p ≤ 4 → w = dcN T p (i - p) ∧ w < 10 ^ (i - p))) → (∀ u', frT u0 u' → tkM u' n (if i - p ≤ 4 then (2, p, i, dcN T p (i - p)) else (4, p, i, 0)) → post u') → qX12_ahead_b183 post u := fun i u h1 h2 fr g13 g14 g15 fin => by
    obtain ⟨w, -, gw, hw⟩ := g15
    unfold qX12_ahead_b183
    rw [g13, g14, pk_sub h1, show (4 : Int32) = nI 4 from rfl, nI_leI (by omega) (by omega)]
    refine ⟨fun c v ev => ?_, fun c v ev => ?_⟩
    · subst ev
      rw [if_pos c] at fin
      exact fin _ (fr.trans (frT_si u 3 (by omega))) ⟨(fr.2 11 (by omega)).trans g11, rfl, g13, g14, fun _ => gw.trans (by rw [(hw c).1])⟩
    · subst ev
      rw [if_neg c] at fin
      exact fin _ (fr.trans (frT_si u 1 (by omega))) ⟨(fr.2 11 (by omega)).trans g11, rfl, g13, g14, fun q => absurd q (by simp)⟩
  intro m
  induction m with
  | zero =>
    intro i u hi hpi fr g13 g14 g15 fin
    have hu : txR (ga u 9) T n := by rw [fr.ga]; exact h
    show qX12_byteAt (gi u 14) u _
    rw [g14]
    exact m_byteAt hu ((fr.2 11 (by omega)).trans g11) (by omega) (fun c => absurd c (by omega)) (fun _ => m_digit_m1 ⟨fun _ => done i u hpi (by omega) fr g13 g14 g15 fin, fun c => absurd rfl c⟩)
  | succ m ih =>
    intro i u hi hpi fr g13 g14 g15 fin
    have hu : txR (ga u 9) T n := by rw [fr.ga]; exact h
    have h11 : gi u 11 = nI n := (fr.2 11 (by omega)).trans g11
    show qX12_byteAt (gi u 14) u _
    rw [g14]
    rw [runE] at fin
    refine m_byteAt hu h11 (by omega) (fun c => m_digit (h.2 i c).1 (fun c1 => ⟨fun q => absurd q (by decide), fun _ => ?_⟩) (fun c1 => ⟨fun _ => ?_, fun q => absurd rfl q⟩)) (fun c => absurd c (by omega))
    · rw [if_pos (show diB T i = true from decide_eq_true c1)] at fin
      rw [g14]
      obtain ⟨w, w1, gw, hw⟩ := g15
      refine m_byteAt hu h11 (by omega) (fun _ v ev v2 ev2 => ?_) (fun q => absurd q (by omega))
      rw [gw, show (10 : Int32) * nI w + nI (T i) - 48 = nI (10 * w + (T i - 48)) from by
        rw [show (10 : Int32) = nI 10 from rfl, show (48 : Int32) = nI 48 from rfl, pk_mul, nI_add, pk_sub (by omega), show 10 * w + T i - 48 = 10 * w + (T i - 48) by omega], show (100000 : Int32) = nI 100000 from rfl, i_min (by omega) (by omega)] at ev
      rw [show gi v 14 = nI i from by rw [ev]; exact g14, nI_1] at ev2
      refine ih (i + 1) v2 (by omega) (by omega) (by rw [ev2, ev]; exact fr.trans ((frT_si u _ (by omega)).trans (frT_si _ _ (by omega)))) (by rw [ev2, ev]; exact g13) (by rw [ev2]; rfl) ⟨min (10 * w + (T i - 48)) 100000, by omega, by rw [ev2, ev]; rfl, fun q => ?_⟩ fin
      obtain ⟨a1, a2⟩ := hw (by omega)
      have hp10 : 10 ^ (i + 1 - p) ≤ 10 ^ 4 := Nat.pow_le_pow_right (by decide) q
      have e10 : 10 ^ (i + 1 - p) = 10 ^ (i - p) * 10 := by rw [show i + 1 - p = (i - p) + 1 by omega, Nat.pow_succ]
      have lt : 10 * w + (T i - 48) < 10 ^ (i + 1 - p) := by omega
      rw [Nat.min_eq_left (by omega)]
      refine ⟨?_, lt⟩
      rw [show i + 1 - p = (i - p) + 1 by omega, dcN, show p + (i - p) = i by omega, ← a1, Nat.mul_comm]
    · rw [if_neg (show ¬ diB T i = true from fun q => c1 (of_decide_eq_true q))] at fin
      exact done i u hpi (by omega) fr g13 g14 g15 fin
theorem m_adv {T : Nat → Nat} {n : Nat} {u0 : St} {post : St → Prop} (h : txR (ga u0 9) T n) (g11 : gi u0 11 = nI n) : ∀ (m i : Nat) (u : St), i + m = n → frT u0 u → gi u 14 = nI i → (∀ u', frT u0 u' → tkM u' n (tkK T n (runE (blB T) m i)) → post u') → qX12_ahead_L0 post (m + 1) u := by
  have hn := h.1
  have b39 : ∀ (p : Nat) (u : St), p ≤ n → frT u0 u → gi u 14 = nI p → (∀ u', frT u0 u' → tkM u' n (tkK T n p) → post u') → qX12_ahead_b39 post u := fun p u hp fr g14 fin v ev => by
    rw [g14] at ev
    have frv : frT u0 v := by rw [ev]; exact fr.trans (frT_si u _ (by omega))
    have v11 : gi v 11 = nI n := (frv.2 11 (by omega)).trans g11
    have v13 : gi v 13 = nI p := by rw [ev]; rfl
    have v14 : gi v 14 = nI p := by rw [ev]; exact g14
    have hv : txR (ga v 9) T n := by rw [frv.ga]; exact h
    rw [v14]
    unfold tkK at fin
    refine m_byteAt hv v11 hp (fun c w ew => ?_) (fun c w ew => ?_)
    · rw [if_neg (by omega)] at fin
      have tb := (h.2 p c).1
      have frw : frT u0 w := by rw [ew]; exact frv.trans (frT_si v _ (by omega))
      have w11 : gi w 11 = nI n := (frw.2 11 (by omega)).trans g11
      have w13 : gi w 13 = nI p := by rw [ew]; exact v13
      have w14 : gi w 14 = nI p := by rw [ew]; exact v14
      have w15 : gi w 15 = nI (T p) := by rw [ew]; rfl
      refine ⟨fun _ => m_small tb (fun c1 => ⟨fun q => absurd q (by decide), fun _ => ?_⟩) (fun c1 => ⟨fun _ => ?_, fun q => absurd rfl q⟩), fun q => absurd q (nI_m1 (by omega))⟩
      · rw [if_pos (show leB T p = true from decide_eq_true c1)] at fin
        exact ⟨_, mw_loop h g11 (n - p) p w (by omega) frw w13 w14 fin⟩
      · rw [if_neg (show ¬ leB T p = true from fun q => c1 (of_decide_eq_true q))] at fin
        refine m_digit tb (fun c2 => ⟨fun q => absurd q (by decide), fun _ z ez => ?_⟩) (fun c2 => ⟨fun _ z ez => ?_, fun q => absurd rfl q⟩)
        · rw [if_pos (show diB T p = true from decide_eq_true c2)] at fin
          refine ⟨_, md_loop h g11 (n - p) p z (by omega) (Nat.le_refl _) (by rw [ez]; exact frw.trans (frT_si w _ (by omega))) (by rw [ez]; exact w13) (by rw [ez]; exact w14) ⟨0, by omega, by rw [ez]; rfl, fun _ => ?_⟩ fin⟩
          rw [Nat.sub_self]
          exact ⟨rfl, by decide⟩
        · rw [if_neg (show ¬ diB T p = true from fun q => c2 (of_decide_eq_true q))] at fin
          rw [w14, nI_1] at ez
          have frz : frT u0 z := by rw [ez]; exact frw.trans (frT_si w _ (by omega))
          have sgn : (T p = 59 ∨ T p = 60 ∨ T p = 61 ∨ T p = 62) → qX12_ahead_b243 post z := fun q y ey => by
            rw [if_pos q] at fin
            subst ey
            exact fin _ (frz.trans (frT_si z _ (by omega))) ⟨(frz.2 11 (by omega)).trans g11, rfl, by rw [ez]; exact w13, by rw [ez]; rfl, fun _ => by rw [ez]; exact w15⟩
          rw [show (59 : Int32) = nI 59 from rfl, show (60 : Int32) = nI 60 from rfl, show (61 : Int32) = nI 61 from rfl, show (62 : Int32) = nI 62 from rfl, nI_eq (by omega) (by omega), nI_eq (by omega) (by omega), nI_eq (by omega) (by omega), nI_eq (by omega) (by omega)]
          refine ⟨fun q => sgn (by omega), fun q1 => ⟨fun q => sgn (by omega), fun q2 => ⟨fun q => sgn (by omega), fun q3 => ⟨fun q4 y ey => ?_, fun q => sgn (by omega)⟩⟩⟩⟩
          rw [if_neg (by omega)] at fin
          subst ey
          exact fin _ (frz.trans (frT_si z _ (by omega))) ⟨(frz.2 11 (by omega)).trans g11, rfl, by rw [ez]; exact w13, by rw [ez]; rfl, fun q => absurd q (by simp)⟩
    · rw [if_pos (by omega)] at fin
      have frw : frT u0 w := by rw [ew]; exact frv.trans (frT_si v _ (by omega))
      refine ⟨fun q => absurd rfl q, fun _ z ez => ?_⟩
      subst ez
      exact fin _ (frw.trans (frT_si w _ (by omega))) ⟨(frw.2 11 (by omega)).trans g11, rfl, by rw [ew]; exact v13, by rw [ew]; exact v14, fun q => absurd q (by simp)⟩
  intro m
  induction m with
  | zero =>
    intro i u hi fr g14 fin
    have hu : txR (ga u 9) T n := by rw [fr.ga]; exact h
    have h11 : gi u 11 = nI n := (fr.2 11 (by omega)).trans g11
    show qX12_byteAt (gi u 14) u _
    rw [g14]
    refine m_byteAt hu h11 (by omega) (fun c => absurd c (by omega)) (fun _ => ⟨fun c => absurd c (by decide), fun _ => ?_⟩)
    rw [g14]
    exact m_byteAt hu h11 (by omega) (fun c => absurd c (by omega)) (fun _ => ⟨fun _ => b39 i u (by omega) fr g14 fin, fun c => absurd c (by decide)⟩)
  | succ m ih =>
    intro i u hi fr g14 fin
    have hu : txR (ga u 9) T n := by rw [fr.ga]; exact h
    have h11 : gi u 11 = nI n := (fr.2 11 (by omega)).trans g11
    have tb := (h.2 i (by omega)).1
    rw [runE] at fin
    have more : blB T i = true → qX12_ahead_b26 post (qX12_ahead_L0 post (m + 1)) u := fun c v ev => by
      rw [if_pos c] at fin
      rw [g14, nI_1] at ev
      subst ev
      exact ih (i + 1) _ (by omega) (fr.trans (frT_si u _ (by omega))) rfl fin
    show qX12_byteAt (gi u 14) u _
    rw [g14]
    refine m_byteAt hu h11 (by omega) (fun _ => ?_) (fun c => absurd c (by omega))
    rw [show (32 : Int32) = nI 32 from rfl, nI_eq (by omega) (by omega)]
    refine ⟨fun c => more (decide_eq_true (Or.inl c)), fun c => ?_⟩
    rw [g14]
    refine m_byteAt hu h11 (by omega) (fun _ => ?_) (fun c => absurd c (by omega))
    rw [show (10 : Int32) = nI 10 from rfl, nI_eq (by omega) (by omega)]
    refine ⟨fun c2 => ?_, fun c2 => more (decide_eq_true (Or.inr c2))⟩
    rw [if_neg (show ¬ blB T i = true from fun q => (of_decide_eq_true q).elim c c2)] at fin
    exact b39 i u (by omega) fr g14 fin
/-- the reference goes to the next token -/
theorem m_ahead {T : Nat → Nat} {n e : Nat} {u : St} {post : St → Prop} (h : txR (ga u 9) T n) (he : e ≤ n) (g11 : gi u 11 = nI n) (g14 : gi u 14 = nI e) (fin : ∀ u', frT u u' → tkM u' n (tok T n e) → post u') : qX12_ahead u post := ⟨_, m_adv h g11 (n - e) e u (by omega) frT.rfl g14 fin⟩
