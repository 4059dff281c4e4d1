/-! STEPS 18: games, the reference's way -/
def ac (b : Bool) (o : Option (Nat × Nat)) (k v : Nat) : Option (Nat × Nat) := match o with
  | none => some (v, k)
  | some (g, d) => if (if b then v < g else g < v) then some (v, k) else some (g, d)
def rnG (b : Bool) (f : Nat → Nat) (sk : Nat → Bool) : Nat → Option (Nat × Nat)
  | 0 => none
  | k + 1 => if sk k then rnG b f sk k else ac b (rnG b f sk k) k (f k)
def opH : Bool → MH → Nat → MH
  | true, M, k => if k < M 2 0 then mp M 19 k 0 else M
  | false, M, k => if k < M 0 0 then mp M 8 k (M 8 k + 1) else M
def lstG : Bool → MH → Nat
  | true, M => M 2 0
  | false, M => M 0 0
def skpG : Bool → MH → Nat → Bool
  | true, M, k => decide (k < M 2 0) && (M 6 0).testBit k
  | false, _, _ => false
def vlG (o : Option (Nat × Nat)) (b : Bool) (p : Nat) : Nat := match o with
  | none => p
  | some (g, _) => if b then min g p else max g p
theorem rn_mn {f f' : Nat → Nat} {sk sk' : Nat → Bool} {p D : Nat} (hf : ∀ k, k < D → f k = f' k ∧ sk k = sk' k) : ∀ k, k ≤ D → mnV f' sk' p k = vlG (rnG true f sk k) true p := by
  intro k
  induction k with
  | zero => intro _; rfl
  | succ k ih =>
    intro hk
    have h1 := ih (by omega)
    obtain ⟨e1, e2⟩ := hf k (by omega)
    rw [mnV, rnG, ← e2, ← e1, h1]
    by_cases c : sk k = true
    · rw [if_pos c, if_pos c]
    · rw [if_neg c, if_neg c]
      cases rnG true f sk k with
      | none => exact Nat.min_comm _ _
      | some q =>
        obtain ⟨g, d⟩ := q
        show min (min g p) (f k) = vlG (if f k < g then some (f k, k) else some (g, d)) true p
        split
        · show min (min g p) (f k) = min (f k) p
          omega
        · show min (min g p) (f k) = min g p
          omega
theorem rn_mx {f f' : Nat → Nat} {sk : Nat → Bool} {p D : Nat} (hf : ∀ k, k < D → f k = f' k ∧ sk k = false) : ∀ k, k ≤ D → mxV f' p k = vlG (rnG false f sk k) false p := by
  intro k
  induction k with
  | zero => intro _; rfl
  | succ k ih =>
    intro hk
    have h1 := ih (by omega)
    obtain ⟨e1, e2⟩ := hf k (by omega)
    rw [mxV, rnG, ← e1, h1, if_neg (by rw [e2]; decide)]
    cases rnG false f sk k with
    | none => exact Nat.max_comm _ _
    | some q =>
      obtain ⟨g, d⟩ := q
      show max (max g p) (f k) = vlG (if g < f k then some (f k, k) else some (g, d)) false p
      split
      · show max (max g p) (f k) = max (f k) p
        omega
      · show max (max g p) (f k) = max g p
        omega
/-- all options of a level -/
def gR (n : Nat) (b : Bool) (M : MH) : Option (Nat × Nat) := rnG b (fun k => gV n (! b) (opH b M k)) (skpG b M) (lstG b M + 1)
theorem ac_v (b : Bool) (o : Option (Nat × Nat)) (k p : Nat) : ∃ d, ac b o k p = some (vlG o b p, d) := by
  cases o with
  | none => exact ⟨k, rfl⟩
  | some q =>
    obtain ⟨g, d⟩ := q
    cases b with
    | true =>
      show ∃ e, (if p < g then some (p, k) else some (g, d)) = some (min g p, e)
      by_cases c : p < g
      · exact ⟨k, by rw [if_pos c, Nat.min_eq_right (by omega)]⟩
      · exact ⟨d, by rw [if_neg c, Nat.min_eq_left (by omega)]⟩
    | false =>
      show ∃ e, (if g < p then some (p, k) else some (g, d)) = some (max g p, e)
      by_cases c : g < p
      · exact ⟨k, by rw [if_pos c, Nat.max_eq_right (by omega)]⟩
      · exact ⟨d, by rw [if_neg c, Nat.max_eq_left (by omega)]⟩
theorem gR_last (n : Nat) (b : Bool) (M : MH) : gR n b M = ac b (rnG b (fun k => gV n (! b) (opH b M k)) (skpG b M) (lstG b M)) (lstG b M) (gV n (! b) M) := by
  unfold gR
  rw [rnG]
  cases b with
  | true =>
    have e1 : skpG true M (lstG true M) = false := by
      show (decide (M 2 0 < M 2 0) && _) = false
      rw [decide_eq_false (by omega), Bool.false_and]
    have e2 : opH true M (lstG true M) = M := if_neg (Nat.lt_irrefl _)
    rw [if_neg (by rw [e1]; decide), e2]
  | false =>
    have e2 : opH false M (lstG false M) = M := if_neg (Nat.lt_irrefl _)
    rw [if_neg (show ¬ skpG false M (lstG false M) = true from (by decide : ¬ (false = true))), e2]
theorem gR_v (n : Nat) (b : Bool) (M : MH) : ∃ d, gR n b M = some (gV (n + 1) b M, d) := by
  rw [gR_last]
  obtain ⟨d, e⟩ := ac_v b (rnG b (fun k => gV n (! b) (opH b M k)) (skpG b M) (lstG b M)) (lstG b M) (gV n (! b) M)
  refine ⟨d, ?_⟩
  rw [e]
  cases b with
  | true =>
    have := rn_mn (f := fun k => gV n false (opH true M k)) (f' := fun d => gV n false (mp M 19 d 0)) (sk := skpG true M) (sk' := fun d => (M 6 0).testBit d) (p := gV n false M) (D := M 2 0) (fun k hk => ⟨by show gV n false (if k < M 2 0 then mp M 19 k 0 else M) = _; rw [if_pos hk], by show (decide (k < M 2 0) && _) = _; rw [decide_eq_true hk, Bool.true_and]⟩) (M 2 0) (Nat.le_refl _)
    show some (vlG (rnG true (fun k => gV n false (opH true M k)) (skpG true M) (M 2 0)) true (gV n false M), d) = some (mnV (fun d => gV n false (mp M 19 d 0)) (fun d => (M 6 0).testBit d) (gV n false M) (M 2 0), d)
    rw [this]
  | false =>
    have := rn_mx (f := fun k => gV n true (opH false M k)) (f' := fun s => gV n true (mp M 8 s (M 8 s + 1))) (sk := skpG false M) (p := gV n true M) (D := M 0 0) (fun k hk => ⟨by show gV n true (if k < M 0 0 then mp M 8 k (M 8 k + 1) else M) = _; rw [if_pos hk], rfl⟩) (M 0 0) (Nat.le_refl _)
    show some (vlG (rnG false (fun k => gV n true (opH false M k)) (skpG false M) (M 0 0)) false (gV n true M), d) = some (mxV (fun s => gV n true (mp M 8 s (M 8 s + 1))) (gV n true M) (M 0 0), d)
    rw [this]
/-- what a level has got so far -/
def enc (u : St) (L : Nat) (o : Option (Nat × Nat)) : Prop := match o with
  | none => ga u 31 L = -1
  | some (g, d) => ga u 30 L = nI g ∧ ga u 31 L = nI d ∧ g ≤ 20 ∧ d ≤ 8
theorem enc_congr {u u' : St} {L : Nat} {o : Option (Nat × Nat)} (h0 : ga u' 30 L = ga u 30 L) (h1 : ga u' 31 L = ga u 31 L) (h : enc u L o) : enc u' L o := by
  cases o with
  | none => exact h1.trans h
  | some q => exact ⟨h0.trans h.1, h1.trans h.2.1, h.2.2⟩
/-- the settled state -/
def stl (u : St) (L : Nat) (x : Int32) : St := sw (sw u 30 (upd (ga u 30) L x)) 31 (upd (ga u 31) L (ga u 29 L))
def stC (u : St) (L : Nat) (x : Int32) : Prop := ga u 31 L = -1 ∨ (L % 2 = 0 ∧ x < ga u 30 L) ∨ (L % 2 = 1 ∧ ga u 30 L < x)
theorem i_par {L : Nat} (hL : L < 2 ^ 31) : nI L - nI L / 2 * 2 = nI (L % 2) := pk_rem (d := 2) hL (by omega) (by omega)
theorem m_settles {L : Nat} {x : Int32} {u : St} {post : St → Prop} (hL : L < 5) (h1 : stC u L x → post (stl u L x)) (h0 : ¬ stC u L x → post u) : qX12_settles (nI L) x u post := by
  have hin : vp_in (nI L) 5 := vp_in_nI hL (by omega)
  have ec : (nI L).toNatClampNeg = L := nI_clamp (by omega)
  have b50 : stC u L x → qX12_settles_b50 post (nI L) x u := fun c => by
    refine ⟨hin, fun u3 e3 => ⟨hin, hin, fun u4 e4 => ?_⟩⟩
    rw [ec] at e3 e4
    subst e3; subst e4
    exact h1 c
  unfold qX12_settles qX12_settles_b15
  rw [ec, i_par (by omega)]
  refine ⟨hin, fun c => ⟨fun q => absurd rfl q, fun _ => ⟨fun q => ⟨hin, fun c2 => b50 (Or.inr (Or.inr ⟨?_, c2⟩)), fun c2 => h0 (fun w => ?_)⟩, fun q => ⟨hin, fun c2 => b50 (Or.inr (Or.inl ⟨(nI_z (by omega)).mp q, c2⟩)), fun c2 => h0 (fun w => ?_)⟩⟩⟩, fun c => ⟨fun _ => b50 (Or.inl c), fun q => absurd q (by decide)⟩⟩
  · have : L % 2 ≠ 0 := fun w => q (by rw [w]; rfl)
    omega
  · rcases w with w | w | w
    · exact c w
    · exact q (by rw [w.1]; rfl)
    · exact c2 w.2
  · rcases w with w | w | w
    · exact c w
    · exact c2 w.2
    · have := (nI_z (by omega)).mp q
      omega
theorem stl_enc {u : St} {L k v : Nat} {b : Bool} {o : Option (Nat × Nat)} (hb : b = decide (L % 2 = 0)) (he : enc u L o) (hk : ga u 29 L = nI k) (hv : v ≤ 20) (hk8 : k ≤ 8) : (stC u L (nI v) → enc (stl u L (nI v)) L (ac b o k v)) ∧ (¬ stC u L (nI v) → enc u L (ac b o k v)) := by
  have nw : enc (stl u L (nI v)) L (some (v, k)) := by
    refine ⟨?_, ?_, hv, hk8⟩
    · show upd (ga u 30) L (nI v) L = nI v
      rw [upd_at, if_pos rfl]
    · show upd (ga u 31) L (ga u 29 L) L = nI k
      rw [upd_at, if_pos rfl, hk]
  cases o with
  | none => exact ⟨fun _ => nw, fun c => absurd (Or.inl he) c⟩
  | some q =>
    obtain ⟨g, d⟩ := q
    obtain ⟨h1, h2, h3, h4⟩ := he
    have hne : ¬ ga u 31 L = -1 := by rw [h2]; exact nI_m1 (by omega)
    show (stC u L (nI v) → enc (stl u L (nI v)) L (if (if b then v < g else g < v) then some (v, k) else some (g, d))) ∧ (¬ stC u L (nI v) → enc u L (if (if b then v < g else g < v) then some (v, k) else some (g, d)))
    have key : stC u L (nI v) ↔ (if b then v < g else g < v) := by
      unfold stC
      rw [h1, nI_ltI (by omega) (by omega), nI_ltI (by omega) (by omega), hb]
      by_cases p : L % 2 = 0
      · rw [decide_eq_true p, if_pos rfl]
        exact ⟨fun w => by rcases w with w | w | w
                           · exact absurd w hne
                           · exact w.2
                           · omega, fun w => Or.inr (Or.inl ⟨p, w⟩)⟩
      · rw [decide_eq_false p, if_neg (by decide)]
        exact ⟨fun w => by rcases w with w | w | w
                           · exact absurd w hne
                           · exact absurd w.1 p
                           · exact w.2, fun w => Or.inr (Or.inr ⟨by omega, w⟩)⟩
    rw [key]
    refine ⟨fun c => ?_, fun c => ?_⟩
    · rw [if_pos c]
      exact nw
    · rw [if_neg c]
      exact ⟨h1, h2, h3, h4⟩
/-- all but the levels from L on, and the house at hand, is as it was -/
def Fr (L : Nat) (u u' : St) : Prop := mKeep u u' ∧ (∀ j, 88 ≤ j → j < 2368 + 88 * (L + 1) → ga u' 0 j = ga u 0 j) ∧ ∀ i, i < L → ga u' 29 i = ga u 29 i ∧ ga u' 30 i = ga u 30 i ∧ ga u' 31 i = ga u 31 i
theorem Fr.trans {L : Nat} {a b c : St} (h : Fr L a b) (q : Fr L b c) : Fr L a c := ⟨h.1.trans q.1, fun j h1 h2 => (q.2.1 j h1 h2).trans (h.2.1 j h1 h2), fun i hi => ⟨(q.2.2 i hi).1.trans (h.2.2 i hi).1, (q.2.2 i hi).2.1.trans (h.2.2 i hi).2.1, (q.2.2 i hi).2.2.trans (h.2.2 i hi).2.2⟩⟩
theorem Fr.dn {L : Nat} {a b : St} (h : Fr (L + 1) a b) : Fr L a b := ⟨h.1, fun j h1 h2 => h.2.1 j h1 (by omega), fun i hi => h.2.2 i (by omega)⟩
theorem Fr.rfl {L : Nat} {a : St} : Fr L a a := ⟨mSame.rfl.1, fun _ _ _ => _root_.rfl, fun _ _ => ⟨_root_.rfl, _root_.rfl, _root_.rfl⟩⟩
/-- the house of a level is back, one option more -/
def rsD (L : Nat) (u : St) : St := sw (sw u 0 (rsF (2368 + 88 * L) 88 (ga u 0))) 29 (upd (ga u 29) L (ga u 29 L + 1))
theorem rsD_Fr (L : Nat) (u : St) : Fr L u (rsD L u) := by
  refine ⟨⟨rfl, rfl, rfl, rfl, rfl, rfl, rfl, rfl, rfl, rfl, rfl, rfl, rfl⟩, fun j h1 h2 => ?_, fun i hi => ⟨?_, rfl, rfl⟩⟩
  · show rsF (2368 + 88 * L) 88 (ga u 0) j = ga u 0 j
    unfold rsF
    rw [if_neg (by omega)]
  · show upd (ga u 29) L (ga u 29 L + 1) i = ga u 29 i
    rw [upd_at, if_neg (by omega)]
/-- a level begins -/
def bgn (L : Nat) (u : St) : St := sw (sw (sw u 0 (kpF (2368 + 88 * L) 88 (ga u 0))) 29 (upd (ga u 29) L (-1))) 31 (upd (ga u 31) L (-1))
theorem i_lvl (L : Nat) : (2368 : Int32) + 88 * nI L = nI (2368 + 88 * L) := by rw [show (88 : Int32) = nI 88 from rfl, show (2368 : Int32) = nI 2368 from rfl, pk_mul, nI_add]
theorem m_begins {L : Nat} {u : St} {post : St → Prop} (hL : L < 5) (fin : post (bgn L u)) : qX12_beginsAt (nI L) u post := by
  have hin : vp_in (nI L) 5 := vp_in_nI hL (by omega)
  have ec : (nI L).toNatClampNeg = L := nI_clamp (by omega)
  show qX12_keeps (2368 + 88 * nI L) u _
  rw [i_lvl]
  refine m_keeps (by omega) (by omega) ⟨hin, fun u1 e1 => ⟨hin, fun u2 e2 => ?_⟩⟩
  rw [ec] at e1 e2
  subst e1; subst e2
  exact fin
theorem bgn_Fr (L : Nat) (u : St) : Fr L u (bgn (L + 1) u) := by
  refine ⟨⟨rfl, rfl, rfl, rfl, rfl, rfl, rfl, rfl, rfl, rfl, rfl, rfl, rfl⟩, fun j h1 h2 => ?_, fun i hi => ⟨?_, rfl, ?_⟩⟩
  · show kpF (2368 + 88 * (L + 1)) 88 (ga u 0) j = ga u 0 j
    unfold kpF
    rw [if_neg (by omega)]
  · show upd (ga u 29) (L + 1) (-1) i = ga u 29 i
    rw [upd_at, if_neg (by omega)]
  · show upd (ga u 31) (L + 1) (-1) i = ga u 31 i
    rw [upd_at, if_neg (by omega)]
/-- an option is taken -/
def opS (b : Bool) (M : MH) (k : Nat) (u : St) : St := match b with
  | true => if k < M 2 0 then sw u 0 (upd (ga u 0) (45 + 7 * k) 0) else u
  | false => if k < M 0 0 then sw u 0 (upd (ga u 0) (10 + 3 * k) (ga u 0 (10 + 3 * k) + 1)) else u
theorem opS_mc {b : Bool} {M : MH} {k : Nat} {u : St} (ok : okG M) (h : MC u M) : MC (opS b M k u) (opH b M k) := by
  cases b with
  | true =>
    show MC (if k < M 2 0 then sw u 0 (upd (ga u 0) (45 + 7 * k) 0) else u) (if k < M 2 0 then mp M 19 k 0 else M)
    by_cases c : k < M 2 0
    · rw [if_pos c, if_pos c]
      exact mc_up19G ok h c
    · rw [if_neg c, if_neg c]
      exact h
  | false =>
    show MC (if k < M 0 0 then sw u 0 (upd (ga u 0) (10 + 3 * k) (ga u 0 (10 + 3 * k) + 1)) else u) (if k < M 0 0 then mp M 8 k (M 8 k + 1) else M)
    by_cases c : k < M 0 0
    · rw [if_pos c, if_pos c, (mc_st h c).1, nI_1]
      exact mc_up8G ok h c
    · rw [if_neg c, if_neg c]
      exact h
theorem opS_Fr {b : Bool} {M : MH} {k L : Nat} {u : St} (ok : okG M) : Fr (L + 1) u (opS b M k u) ∧ ga (opS b M k u) 29 = ga u 29 ∧ ga (opS b M k u) 30 = ga u 30 ∧ ga (opS b M k u) 31 = ga u 31 := by
  have h7 := ok_ndG ok
  have h8 := ok_nsG ok
  have key : ∀ i v, i < 88 → Fr (L + 1) u (sw u 0 (upd (ga u 0) i v)) := fun i v hi => ⟨mKeep_sw u _, fun j h1 _ => by rw [ga_up0, if_neg (by omega)], fun _ _ => ⟨rfl, rfl, rfl⟩⟩
  cases b with
  | true =>
    by_cases c : k < M 2 0
    · have e : opS true M k u = sw u 0 (upd (ga u 0) (45 + 7 * k) 0) := if_pos c
      rw [e]
      exact ⟨key _ _ (by omega), rfl, rfl, rfl⟩
    · have e : opS true M k u = u := if_neg c
      rw [e]
      exact ⟨Fr.rfl, rfl, rfl, rfl⟩
  | false =>
    by_cases c : k < M 0 0
    · have e : opS false M k u = sw u 0 (upd (ga u 0) (10 + 3 * k) (ga u 0 (10 + 3 * k) + 1)) := if_pos c
      rw [e]
      exact ⟨key _ _ (by omega), rfl, rfl, rfl⟩
    · have e : opS false M k u = u := if_neg c
      rw [e]
      exact ⟨Fr.rfl, rfl, rfl, rfl⟩
theorem opH_ok {b : Bool} {M : MH} {k n : Nat} (ok : okN M (n + 1)) : okN (opH b M k) n := by
  cases b with
  | true =>
    show okN (if k < M 2 0 then mp M 19 k 0 else M) n
    split
    · obtain ⟨⟨h0, h1, h2, h3, h4, h5, h6, h7, h8, h9, h10⟩, hb⟩ := okN_dn ok
      refine ⟨⟨h0, h1, h2, h3, h4, h5, h6, h7, h8, h9, fun i hi => ?_⟩, hb⟩
      obtain ⟨b1, b2, b3, b4, b5, b6, b7, b8⟩ := h10 i hi
      refine ⟨b1, b2, b3, b4, b5, b6, b7, ?_⟩
      by_cases c : i = k
      · subst c
        rw [mp_eq]
        omega
      · rw [mp_ne (Or.inr c)]
        exact b8
    · exact okN_dn ok
  | false =>
    show okN (if k < M 0 0 then mp M 8 k (M 8 k + 1) else M) n
    split
    · exact okN_up ok
    · exact okN_dn ok
theorem m_opt {b : Bool} {M : MH} {k L T : Nat} {u : St} {post : Int32 → St → Prop} {K : Int32 → Int32 → St → Prop} (ok : okG M) (h : MC u M) (hL : L < 5) (hb : b = decide (L % 2 = 0)) (hk : k ≤ lstG b M) (h1 : skpG b M k = true → K (nI T) (nI L) u) (h0 : skpG b M k = false → qX12_playing_b173 post K (nI T) (nI L) (opS b M k u)) : qX12_playing_b65 post K (nI T) (nI L) (nI k) (nI (lstG b M)) u := by
  have h7 := ok_ndG ok
  have h8 := ok_nsG ok
  unfold qX12_playing_b65 qX12_playing_b122 qX12_playing_b147
  rw [i_par (by omega)]
  cases b with
  | true =>
    have p : L % 2 = 0 := of_decide_eq_true hb.symm
    rw [p, show nI 0 = (0 : Int32) from rfl, show lstG true M = M 2 0 from rfl]
    have hk : k ≤ M 2 0 := hk
    refine ⟨fun _ => ⟨fun c => absurd rfl c, fun _ => ⟨fun c => ?_, fun c => ?_⟩⟩, fun c => absurd (nI_le hk (by omega)) c⟩
    · have ek : k = M 2 0 := by
        have := (nI_leI (by omega) (by omega)).mp c
        omega
      have := h0 (by show (decide (k < M 2 0) && _) = false; rw [decide_eq_false (by omega), Bool.false_and])
      rw [show opS true M k u = u from if_neg (by omega)] at this
      exact ⟨fun c => absurd rfl c, fun _ => ⟨fun _ => ⟨fun _ => this, fun c => absurd c (by decide)⟩, fun c2 => absurd c c2⟩⟩
    · have ek : k < M 2 0 := by
        apply Classical.byContradiction
        intro q
        exact c (nI_le (by omega) (by omega))
      refine m_isPaidUpG ok h (by omega) (fun c2 => ⟨fun c => absurd c (by decide), fun _ => h1 (by show (decide (k < M 2 0) && _) = true; rw [decide_eq_true ek, Bool.true_and]; exact c2)⟩) (fun c2 => ⟨fun _ => ⟨fun c => absurd rfl c, fun _ => ⟨fun c3 => absurd c3 c, fun _ => m_debtRow ?_⟩⟩, fun c => absurd rfl c⟩)
      have E6 : nI (39 + 7 * k) + 6 = nI (45 + 7 * k) := (nI_add _ 6).trans (by rw [show 39 + 7 * k + 6 = 45 + 7 * k by omega])
      rw [E6, nI_clamp (by omega)]
      refine ⟨vp_in_nI (by omega) (by omega), fun u2 e2 => ⟨fun _ => ?_, fun c => absurd c (by decide)⟩⟩
      have := h0 (by show (decide (k < M 2 0) && _) = false; rw [decide_eq_true ek, Bool.true_and]; exact c2)
      rw [show opS true M k u = sw u 0 (upd (ga u 0) (45 + 7 * k) 0) from if_pos ek, ← e2] at this
      exact this
  | false =>
    have p : L % 2 = 1 := by
      have := of_decide_eq_false hb.symm
      omega
    rw [p, show lstG false M = M 0 0 from rfl]
    have hk : k ≤ M 0 0 := hk
    have n10 : ¬ nI 1 = 0 := by decide
    refine ⟨fun _ => ⟨fun _ => ⟨fun _ => ⟨fun c => absurd rfl c, fun _ => ⟨fun c => ?_, fun c => m_stoneRow ?_⟩⟩, fun c => absurd c n10⟩, fun c => absurd c n10⟩, fun c => absurd (nI_le hk (by omega)) c⟩
    · have ek : ¬ k < M 0 0 := by
        have := (nI_leI (by omega) (by omega)).mp c
        have : M 0 0 ≤ k := this
        omega
      have := h0 rfl
      rw [show opS false M k u = u from if_neg ek] at this
      exact this
    · have ek : k < M 0 0 := by
        apply Classical.byContradiction
        intro q
        exact c (nI_le (show M 0 0 ≤ k by omega) (by omega))
      rw [nI_clamp (by omega)]
      refine ⟨vp_in_nI (by omega) (by omega), vp_in_nI (by omega) (by omega), fun u2 e2 => ?_⟩
      have := h0 rfl
      rw [show opS false M k u = sw u 0 (upd (ga u 0) (10 + 3 * k) (ga u 0 (10 + 3 * k) + 1)) from if_pos ek, ← e2] at this
      exact this
