/-! STEPS 19: games, the reference's loop; game, moveOf -/
def WPg (T : Nat) (post : Int32 → St → Prop) (L : Nat) (u : St) : Prop := ∃ n, qX12_playing_L19 post n (nI T) (nI L) u
def Xit (T : Nat) (post : Int32 → St → Prop) (L : Nat) (u : St) : Prop := ∃ n, ((¬ nI L = 0 → ∀ x2_72 : Int32, x2_72 = nI L + (-1 : Int32) → (vp_in (x2_72 + (1 : Int32)) 5 ∧ qX12_settles x2_72 (ga u 30 ((x2_72 + (1 : Int32))).toNatClampNeg) u (fun u_73 => qX12_playing_L19 post n (nI T) x2_72 u_73))) ∧ (nI L = 0 → qX12_playing_b77 post u))
theorem i_pm (a : Int32) : a - 1 + 1 = a := by grind
theorem m_head {b : Bool} {M : MH} {k L T : Nat} {u : St} {post : Int32 → St → Prop} {K : Int32 → Int32 → St → Prop} (hL : L < 5) (hb : b = decide (L % 2 = 0)) (h : MC (rsD L u) M) (hk : ga (rsD L u) 29 L = nI k) (h65 : qX12_playing_b65 post K (nI T) (nI L) (nI k) (nI (lstG b M)) (rsD L u)) : qX12_playing_l19 post K (nI T) (nI L) u := by
  have hin : vp_in (nI L) 5 := vp_in_nI hL (by omega)
  have ec : (nI L).toNatClampNeg = L := nI_clamp (by omega)
  show qX12_restores (2368 + 88 * nI L) u _
  rw [i_lvl]
  refine m_restores (by omega) (by omega) ⟨hin, hin, fun u1 e1 => ⟨hin, fun x ex => ?_⟩⟩
  rw [ec] at e1 ex
  have e1' : u1 = rsD L u := e1
  subst e1'
  rw [hk] at ex
  subst ex
  rw [i_par (by omega)]
  cases b with
  | true =>
    have p : L % 2 = 0 := of_decide_eq_true hb.symm
    rw [p]
    refine ⟨fun c => absurd rfl c, fun _ => ?_⟩
    rw [show ga (rsD L u) 0 (2 : Int32).toNatClampNeg = nI (M 2 0) from mc_k (k := 2) h (by omega)]
    exact h65
  | false =>
    have p : L % 2 = 1 := by
      have := of_decide_eq_false hb.symm
      omega
    rw [p]
    refine ⟨fun _ => ?_, fun c => absurd c (by decide)⟩
    rw [show ga (rsD L u) 0 (0 : Int32).toNatClampNeg = nI (M 0 0) from mc_k (k := 0) h (by omega)]
    exact h65
theorem rn_le {b : Bool} {f : Nat → Nat} {sk : Nat → Bool} : ∀ k g d, rnG b f sk k = some (g, d) → d < k := by
  intro k
  induction k with
  | zero => intro g d e; exact absurd e (by simp [rnG])
  | succ k ih =>
    intro g d e
    rw [rnG] at e
    by_cases c : sk k = true
    · rw [if_pos c] at e
      have := ih g d e
      omega
    · rw [if_neg c] at e
      cases o : rnG b f sk k with
      | none =>
        rw [o] at e
        have e : some (f k, k) = some (g, d) := e
        injection e with e
        injection e with _ e
        omega
      | some q =>
        obtain ⟨g1, d1⟩ := q
        rw [o] at e
        have h1 := ih g1 d1 o
        have e : (if (if b then f k < g1 else g1 < f k) then some (f k, k) else some (g1, d1)) = some (g, d) := e
        by_cases c2 : (if b then f k < g1 else g1 < f k)
        · rw [if_pos c2] at e
          injection e with e
          injection e with _ e
          omega
        · rw [if_neg c2] at e
          injection e with e
          injection e with _ e
          omega
theorem stl_Fr (L : Nat) (u : St) (x : Int32) : Fr L u (stl u L x) ∧ ga (stl u L x) 29 = ga u 29 := by
  refine ⟨⟨⟨rfl, rfl, rfl, rfl, rfl, rfl, rfl, rfl, rfl, rfl, rfl, rfl, rfl⟩, fun _ _ _ => rfl, fun i hi => ⟨rfl, ?_, ?_⟩⟩, rfl⟩
  · show upd (ga u 30) L x i = ga u 30 i
    rw [upd_at, if_neg (by omega)]
  · show upd (ga u 31) L (ga u 29 L) i = ga u 31 i
    rw [upd_at, if_neg (by omega)]
/-- a level, if its options are as they should be -/
theorem lvl_loop {T L r : Nat} {b : Bool} {M : MH} {c : Nat → Int32} {nm : Nat → Int64} {post : Int32 → St → Prop} (hL : L < 5) (hb : b = decide (L % 2 = 0)) (ok : okG M) (hc : MR c nm 0 0 M)
    (hstep : ∀ k u2, k ≤ lstG b M → skpG b M k = false → MC u2 (opH b M k) → gl u2 1 = nm → ga u2 29 L = nI k → (∀ u4, Fr L u2 u4 → ga u4 29 L = nI k → (∀ o, enc u2 L o → enc u4 L (ac b o k (gV r (! b) (opH b M k)))) → WPg T post L u4) → ∃ n, qX12_playing_b173 post (qX12_playing_L19 post n) (nI T) (nI L) u2) :
    ∀ (m k : Nat) (u : St), k + m = lstG b M + 1 → (∀ j, j < 88 → ga u 0 (2368 + 88 * L + j) = c j) → gl u 1 = nm → ga u 29 L = nI k - 1 → enc u L (rnG b (fun k => gV r (! b) (opH b M k)) (skpG b M) k) → (∀ u', Fr L u u' → (∀ j, j < 88 → ga u' 0 j = c j) → enc u' L (gR r b M) → Xit T post L u') → WPg T post L u := by
  have h7 := ok_ndG ok
  have h8 := ok_nsG ok
  have hl : lstG b M ≤ 8 := by cases b with | true => exact Nat.le_trans h7 (by omega) | false => exact h8
  have pre : ∀ (k : Nat) (u : St), (∀ j, j < 88 → ga u 0 (2368 + 88 * L + j) = c j) → gl u 1 = nm → ga u 29 L = nI k - 1 → (∀ j, j < 88 → ga (rsD L u) 0 j = c j) ∧ MC (rsD L u) M ∧ ga (rsD L u) 29 L = nI k := fun k u hR hn h29 => by
    have A : ∀ j, j < 88 → ga (rsD L u) 0 j = c j := fun j hj => by
      show rsF (2368 + 88 * L) 88 (ga u 0) j = c j
      unfold rsF
      rw [if_pos hj]
      exact hR j hj
    refine ⟨A, MR_congrG ok (fun j hj => by rw [Nat.zero_add]; exact A j hj) (fun j _ => by show gl u 1 (0 + j) = nm (0 + j); rw [hn]) hc, ?_⟩
    show upd (ga u 29) L (ga u 29 L + 1) L = nI k
    rw [upd_at, if_pos rfl, h29, i_pm]
  intro m
  induction m with
  | zero =>
    intro k u hk hR hn h29 he fin
    obtain ⟨A, mc, e29⟩ := pre k u hR hn h29
    have ek : k = lstG b M + 1 := by omega
    subst ek
    obtain ⟨n, hx⟩ := fin (rsD L u) (rsD_Fr L u) A (enc_congr rfl rfl he)
    exact ⟨n + 1, m_head hL hb mc e29 ⟨fun q => absurd q (nI_ge (by omega) (by omega)), fun _ => hx⟩⟩
  | succ m ih =>
    intro k u hk hR hn h29 he fin
    obtain ⟨A, mc, e29⟩ := pre k u hR hn h29
    have fr1 := rsD_Fr L u
    have hR1 : ∀ j, j < 88 → ga (rsD L u) 0 (2368 + 88 * L + j) = c j := fun j hj => by rw [fr1.2.1 _ (by omega) (by omega)]; exact hR j hj
    have he1 : enc (rsD L u) L (rnG b (fun k => gV r (! b) (opH b M k)) (skpG b M) k) := enc_congr rfl rfl he
    cases q : skpG b M k with
    | true =>
      obtain ⟨n, hn'⟩ := ih (k + 1) (rsD L u) (by omega) hR1 hn (by rw [e29, nI_pred]) (by rw [rnG, if_pos q]; exact he1) (fun u' f a e => fin u' (fr1.trans f) a e)
      exact ⟨n + 1, m_head hL hb mc e29 (m_opt ok mc hL hb (by omega) (fun _ => hn') (fun w => by rw [q] at w; exact absurd w (by decide)))⟩
    | false =>
      obtain ⟨fr2, f29, f30, f31⟩ := opS_Fr (b := b) (M := M) (k := k) (L := L) (u := rsD L u) ok
      have fr2' := fr2.dn
      obtain ⟨n, hn'⟩ := hstep k (opS b M k (rsD L u)) (by omega) q (opS_mc ok mc) (fr2.1.2.2.2.2.2.2.2.2.2.2.2.2.trans hn) (by rw [f29]; exact e29) (fun u4 fr4 g29 g => ih (k + 1) u4 (by omega) (fun j hj => by rw [fr4.2.1 _ (by omega) (by omega), fr2'.2.1 _ (by omega) (by omega)]; exact hR1 j hj) (fr4.1.2.2.2.2.2.2.2.2.2.2.2.2.trans (fr2.1.2.2.2.2.2.2.2.2.2.2.2.2.trans hn)) (by rw [g29, nI_pred]) (by rw [rnG, if_neg (by rw [q]; decide)]; exact g _ (enc_congr (by rw [f30]) (by rw [f31]) he1)) (fun u' f a e => fin u' (fr1.trans (fr2'.trans (fr4.trans f))) a e))
      exact ⟨n + 1, m_head hL hb mc e29 (m_opt ok mc hL hb (by omega) (fun w => by rw [q] at w; exact absurd w (by decide)) (fun _ => hn'))⟩
theorem play_loop {T : Nat} {nm : Nat → Int64} {post : Int32 → St → Prop} (hT : T ≤ 4) : ∀ (r L : Nat) (b : Bool), L + r + 1 = T → b = decide (L % 2 = 0) → ∀ (M : MH) (c : Nat → Int32), okN M (r + 1) → MR c nm 0 0 M → ∀ (m k : Nat) (u : St), k + m = lstG b M + 1 → (∀ j, j < 88 → ga u 0 (2368 + 88 * L + j) = c j) → gl u 1 = nm → ga u 29 L = nI k - 1 → enc u L (rnG b (fun k => gV r (! b) (opH b M k)) (skpG b M) k) → (∀ u', Fr L u u' → (∀ j, j < 88 → ga u' 0 j = c j) → enc u' L (gR r b M) → Xit T post L u') → WPg T post L u := by
  intro r
  induction r with
  | zero =>
    intro L b hr hb M c ok hc
    have h7 := ok_ndG ok.1
    have h8 := ok_nsG ok.1
    refine lvl_loop (by omega) hb ok.1 hc (fun k u2 hk hs mc hn h29 fin => ?_)
    have hk8 : k ≤ 8 := by
      have : lstG b M ≤ 8 := by cases b with | true => exact Nat.le_trans h7 (by omega) | false => exact h8
      omega
    have okO : okG (opH b M k) := (opH_ok ok).1
    have hv := gV_le 0 (! b) (opH b M k)
    have eT : nI L + 1 = nI T := by rw [nI_1, show L + 1 = T by omega]
    obtain ⟨s1, s2⟩ := stl_Fr L u2 (nI (gV 0 (! b) (opH b M k)))
    have b173 : ∀ n, qX12_settles (nI L) (nI (gV 0 (! b) (opH b M k))) u2 (fun u_52 => qX12_playing_L19 post n (nI T) (nI L) u_52) → qX12_playing_b173 post (qX12_playing_L19 post n) (nI T) (nI L) u2 := fun n q => ⟨fun c => absurd eT c, fun _ => m_standsNowG okO mc (m_bits (Nat.lt_of_lt_of_le (stn_lt _ 0 0 _) (show 2 ^ opH b M k 0 0 ≤ 2 ^ 8 from Nat.pow_le_pow_right (by decide) (ok_nsG okO))) q)⟩
    by_cases cc : stC u2 L (nI (gV 0 (! b) (opH b M k)))
    · obtain ⟨n, hn'⟩ := fin (stl u2 L (nI (gV 0 (! b) (opH b M k)))) s1 (by rw [s2]; exact h29) (fun o ho => (stl_enc hb ho h29 hv hk8).1 cc)
      exact ⟨n, b173 n (m_settles (by omega) (fun _ => hn') (fun q => absurd cc q))⟩
    · obtain ⟨n, hn'⟩ := fin u2 Fr.rfl h29 (fun o ho => (stl_enc hb ho h29 hv hk8).2 cc)
      exact ⟨n, b173 n (m_settles (by omega) (fun q => absurd q cc) (fun _ => hn'))⟩
  | succ r ih =>
    intro L b hr hb M c ok hc
    have h7 := ok_ndG ok.1
    have h8 := ok_nsG ok.1
    refine lvl_loop (by omega) hb ok.1 hc (fun k u2 hk hs mc hn h29 fin => ?_)
    have hk8 : k ≤ 8 := by
      have : lstG b M ≤ 8 := by cases b with | true => exact Nat.le_trans h7 (by omega) | false => exact h8
      omega
    have okO : okN (opH b M k) (r + 1) := opH_ok ok
    have hv := gV_le (r + 1) (! b) (opH b M k)
    have hb2 : (! b) = decide ((L + 1) % 2 = 0) := by
      rw [hb]
      by_cases p : L % 2 = 0
      · rw [decide_eq_true p, decide_eq_false (by omega)]
        rfl
      · rw [decide_eq_false p, decide_eq_true (by omega)]
        rfl
    have hrow : ∀ j, j < 88 → ga (bgn (L + 1) u2) 0 (2368 + 88 * (L + 1) + j) = ga u2 0 j := fun j hj => by
      show kpF (2368 + 88 * (L + 1)) 88 (ga u2 0) (2368 + 88 * (L + 1) + j) = ga u2 0 j
      unfold kpF
      rw [if_pos (by omega), show 2368 + 88 * (L + 1) + j - (2368 + 88 * (L + 1)) = j by omega]
    have mc' : MR (ga u2 0) nm 0 0 (opH b M k) := by
      rw [← hn]
      exact mc
    obtain ⟨n, hw⟩ := ih (L + 1) (! b) (by omega) hb2 (opH b M k) (ga u2 0) okO mc' (lstG (! b) (opH b M k) + 1) 0 (bgn (L + 1) u2) (by omega) hrow hn (by show upd (ga u2 29) (L + 1) (-1) (L + 1) = nI 0 - 1; rw [upd_at, if_pos rfl]; decide) (by show upd (ga u2 31) (L + 1) (-1) (L + 1) = -1; rw [upd_at, if_pos rfl]) (fun u' fr' _ he' => by
      obtain ⟨d, ed⟩ := gR_v r (! b) (opH b M k)
      rw [ed] at he'
      obtain ⟨e30, e31, -, -⟩ := he'
      have frb : Fr L u2 u' := (bgn_Fr L u2).trans fr'.dn
      have fL := fr'.2.2 L (by omega)
      have g29 : ga u' 29 L = nI k := by
        rw [fL.1]
        show upd (ga u2 29) (L + 1) (-1) L = nI k
        rw [upd_at, if_neg (by omega)]
        exact h29
      have ge : ∀ o, enc u2 L o → enc u' L o := fun o ho => enc_congr (by rw [fL.2.1]; rfl) (by rw [fL.2.2]; show upd (ga u2 31) (L + 1) (-1) L = ga u2 31 L; rw [upd_at, if_neg (by omega)]) ho
      obtain ⟨s1, s2⟩ := stl_Fr L u' (nI (gV (r + 1) (! b) (opH b M k)))
      have xit : ∀ n, qX12_settles (nI L) (nI (gV (r + 1) (! b) (opH b M k))) u' (fun u_73 => qX12_playing_L19 post n (nI T) (nI L) u_73) → Xit T post (L + 1) u' := fun n q => by
        refine ⟨n, fun _ x ex => ?_, fun w => absurd ((nI_z (by omega)).mp w) (by omega)⟩
        rw [pk_m1] at ex
        subst ex
        rw [nI_1, nI_clamp (n := L + 1) (by omega), e30]
        exact ⟨vp_in_nI (by omega) (by omega), q⟩
      by_cases cc : stC u' L (nI (gV (r + 1) (! b) (opH b M k)))
      · obtain ⟨n, hn'⟩ := fin (stl u' L (nI (gV (r + 1) (! b) (opH b M k)))) (frb.trans s1) (by rw [s2]; exact g29) (fun o ho => (stl_enc hb (ge o ho) g29 hv hk8).1 cc)
        exact xit n (m_settles (by omega) (fun _ => hn') (fun q => absurd cc q))
      · obtain ⟨n, hn'⟩ := fin u' frb g29 (fun o ho => (stl_enc hb (ge o ho) g29 hv hk8).2 cc)
        exact xit n (m_settles (by omega) (fun q => absurd q cc) (fun _ => hn')))
    refine ⟨n, fun _ x ex => ?_, fun q => ?_⟩
    · rw [nI_1] at ex
      subst ex
      exact m_begins (by omega) hw
    · rw [nI_1, nI_eq (by omega) (by omega)] at q
      omega
theorem okH_G {M : MH} (ok : okH M) : okN M 10 := by
  obtain ⟨h0, h1, h2, h3, h4, h5, h6, h7, h8, h9, h10⟩ := ok
  refine ⟨⟨h0, h1, h2, h3, h4, h5, h6, h7, fun s hs => ?_, h9, h10⟩, fun s hs => by have := (h8 s hs).1; omega⟩
  have := h8 s hs
  exact ⟨by omega, this.2⟩
theorem okN_le {M : MH} {n m : Nat} (h : okN M n) (hm : m ≤ n) : okN M m := ⟨h.1, fun s hs => by have := h.2 s hs; omega⟩
/-- the reference plays -/
theorem m_playing {M : MH} {u : St} {r : Nat} {post : Int32 → St → Prop} (hr : r + 1 ≤ 4) (ok : okH M) (h : MC u M) (fin : ∀ u' g d, gR r true M = some (g, d) → mKeep u u' → (∀ j, j < 1824 → ga u' 0 j = ga u 0 j) → ga u' 31 0 = nI d → post (nI g) u') : qX12_playing (nI (r + 1)) u post := by
  refine ⟨fun _ => m_begins (L := 0) (by omega) ?_, fun q => absurd ((nI_z (by omega)).mp q) (by omega)⟩
  refine play_loop (nm := gl u 1) hr r 0 true (by omega) rfl M (ga u 0) (okN_le (okH_G ok) (by omega)) h (lstG true M + 1) 0 (bgn 0 u) (by omega) (fun j hj => ?_) rfl (by show upd (ga u 29) 0 (-1) 0 = nI 0 - 1; rw [upd_at, if_pos rfl]; decide) (by show upd (ga u 31) 0 (-1) 0 = -1; rw [upd_at, if_pos rfl]) (fun u' fr a he => ⟨0, fun q => absurd rfl q, fun _ => ?_⟩)
  · show kpF (2368 + 88 * 0) 88 (ga u 0) (2368 + 88 * 0 + j) = ga u 0 j
    unfold kpF
    rw [if_pos (by omega), show 2368 + 88 * 0 + j - (2368 + 88 * 0) = j by omega]
  · show qX12_restores (2368 + 88 * nI 0) u' _
    rw [i_lvl]
    obtain ⟨d, ed⟩ := gR_v r true M
    rw [ed] at he
    obtain ⟨e30, e31, -, -⟩ := he
    refine m_restores (by omega) (by omega) ?_
    have := fin (sw u' 0 (rsF (2368 + 88 * 0) 88 (ga u' 0))) _ d ed fr.1 (fun j hj => ?_) e31
    · rw [show ga (sw u' 0 (rsF (2368 + 88 * 0) 88 (ga u' 0))) 30 (0 : Int32).toNatClampNeg = ga u' 30 0 from rfl, e30]
      exact this
    · show rsF (2368 + 88 * 0) 88 (ga u' 0) j = ga u 0 j
      have K : ∀ i, ga (bgn 0 u) 0 i = kpF (2368 + 88 * 0) 88 (ga u 0) i := fun _ => rfl
      unfold rsF
      by_cases q : j < 88
      · rw [if_pos q, fr.2.1 _ (by omega) (by omega), K]
        unfold kpF
        rw [if_pos (by omega), show 2368 + 88 * 0 + j - (2368 + 88 * 0) = j by omega]
      · rw [if_neg q, fr.2.1 _ (by omega) (by omega), K]
        unfold kpF
        rw [if_neg (by omega)]
theorem sp_game : SP_game RR := fun x cs ms h => by
  obtain ⟨M, ok, st, hc, hm, ht⟩ := rr_house h
  have h8 := ok_ns ok
  have hr : ∀ v, RR (va_up (va_up (va_up cs 0 (si (cs 0) 0 v)) 5 (cs 5)) 6 (cs 6)) (si ms 2 v) := fun v => rr_ms h v mSame.rfl.1 (fun _ _ => rfl)
  refine r_within 0 4 rfl rfl (fun p q => ⟨fun _ => r_copyFrom ok hc (fun u6 h6 => ?_), fun c => absurd c (by decide)⟩) (fun p => ⟨fun c => absurd rfl c, fun _ => r_refuse (m_isFrom 0 4 rfl rfl (fun _ _ => absurd p (by omega)) (fun _ => ⟨fun c => absurd rfl c, fun _ => m_refuse ⟨rfl, hr 1⟩⟩))⟩)
  obtain ⟨n, hn, rfl, -⟩ := i_nat (n := 4) p q
  refine (r_game n (by omega)).1 3 (by omega) M 0 u6 _ (okN_le (okH_G ok) (by omega)) (Nat.two_pow_pos _) h6 (fun u7 _ _ => r_answer (m_isFrom 0 4 rfl rfl (fun _ _ => ⟨fun _ => ?_, fun c => absurd c (by decide)⟩) (fun a => absurd a (by omega))))
  rw [zl_0]
  cases n with
  | zero => exact ⟨fun c => absurd rfl c, fun _ => m_standsNow ok hm (m_bits (Nat.lt_of_lt_of_le (stn_lt _ 0 0 _) (show 2 ^ M 0 0 ≤ 2 ^ 8 from Nat.pow_le_pow_right (by decide) h8)) (m_gives ⟨rfl, rr_ms h 0 mSame.rfl.1 (fun _ _ => rfl)⟩))⟩
  | succ r =>
    refine m_playing (by omega) ok hm (fun u' g d e k a _ => m_gives ⟨?_, rr_ms h 0 k a⟩)
    obtain ⟨d', e'⟩ := gR_v r true M
    rw [e'] at e
    injection e with e
    injection e with e _
    rw [e]
/-- the class's first move -/
def fmV (f : Nat → Nat) (sk : Nat → Bool) : Nat → Nat × Int32
  | 0 => (9, -1)
  | k + 1 => if sk k then fmV f sk k else if f k < (fmV f sk k).1 then (f k, nI k) else fmV f sk k
theorem fm_le (f : Nat → Nat) (sk : Nat → Bool) : ∀ k, (fmV f sk k).1 ≤ 9 := by
  intro k
  induction k with
  | zero => exact Nat.le_refl 9
  | succ k ih =>
    rw [fmV]
    split
    · exact ih
    · split
      · rename_i c
        show f k ≤ 9
        omega
      · exact ih
theorem fm_rn {f f' : Nat → Nat} {sk sk' : Nat → Bool} {D : Nat} (hb : ∀ k, f k ≤ 8) (hf : ∀ k, k < D → f' k = f k ∧ sk' k = sk k) : ∀ k, k ≤ D → (rnG true f' sk' k = none ∧ fmV f sk k = (9, -1)) ∨ ∃ g d, rnG true f' sk' k = some (g, d) ∧ fmV f sk k = (g, nI d) := by
  intro k
  induction k with
  | zero => intro _; exact Or.inl ⟨rfl, rfl⟩
  | succ k ih =>
    intro hk
    obtain ⟨e1, e2⟩ := hf k (by omega)
    have hfb := hb k
    rw [rnG, fmV, e2, e1]
    by_cases c : sk k = true
    · rw [if_pos c, if_pos c]
      exact ih (by omega)
    · rw [if_neg c, if_neg c]
      rcases ih (by omega) with ⟨a1, a2⟩ | ⟨g, d, a1, a2⟩
      · rw [a1, a2]
        refine Or.inr ⟨f k, k, rfl, ?_⟩
        rw [if_pos (show f k < 9 by omega)]
      · rw [a1, a2]
        by_cases c2 : f k < g
        · exact Or.inr ⟨f k, k, if_pos c2, if_pos c2⟩
        · exact Or.inr ⟨g, d, if_neg c2, if_neg c2⟩
theorem gV_le8 {n : Nat} {b : Bool} {M : MH} (h : M 0 0 ≤ 8) : gV n b M ≤ 8 := by
  induction n generalizing b M with
  | zero => exact (pc8 _ (Nat.lt_of_lt_of_le (stn_lt M 0 0 _) (show 2 ^ M 0 0 ≤ 2 ^ 8 from Nat.pow_le_pow_right (by decide) h))).1
  | succ n ih =>
    cases b with
    | true => exact Nat.le_trans (mnV_le _ _ _ _) (ih h)
    | false => exact mxV_le (ih h) (fun i => ih (M := mp M 8 i (M 8 i + 1)) h) _
theorem fm_loop {M : MH} {r : Nat} {post : Int32 → St → Prop} (hr : r ≤ 3) (ok : okH M) (fin : ∀ u', CH u' M → qX1_firstMove_b60 post (nI (r + 1)) (fmV (fun d => gV r false (mp M 19 d 0)) (fun d => (M 6 0).testBit d) (M 2 0)).2 (nI (fmV (fun d => gV r false (mp M 19 d 0)) (fun d => (M 6 0).testBit d) (M 2 0)).1) u') : ∀ (m i : Nat) (u : St), i + m = M 2 0 → CH u M → qX1_firstMove_L8 post (m + 1) (nI (r + 1)) (fmV (fun d => gV r false (mp M 19 d 0)) (fun d => (M 6 0).testBit d) i).2 (nI (fmV (fun d => gV r false (mp M 19 d 0)) (fun d => (M 6 0).testBit d) i).1) (nI i) u := by
  have h7 := ok_nd ok
  intro m
  induction m with
  | zero =>
    intro i u hi h
    have ei : i = M 2 0 := by omega
    subst ei
    have e2 : gi u 2 = nI (M 2 0) := ch_k h (by omega)
    exact ⟨fun _ => fin u h, fun c => absurd (by rw [e2]; exact nI_le (by omega) (by omega)) c⟩
  | succ m ih =>
    intro i u hi h
    have e2 : gi u 2 = nI (M 2 0) := ch_k h (by omega)
    have e6 : gi u 6 = nI (M 6 0) := ch_k h (by omega)
    have go := fun v hv => ih (i + 1) v (by omega) hv
    rw [fmV] at go
    have hle := fm_le (fun d => gV r false (mp M 19 d 0)) (fun d => (M 6 0).testBit d) i
    refine ⟨fun c => absurd c (by rw [e2]; exact nI_ge (by omega) (by omega)), fun _ => ?_⟩
    rw [e6]
    refine r_has (ok_paid ok) (by omega) (fun c => ⟨fun _ z ez => ?_, fun c => absurd c (by decide)⟩) (fun c => ⟨fun c => absurd rfl c, fun _ => ?_⟩)
    · rw [nI_1] at ez
      have := go u h
      rw [if_pos c] at this
      rw [ez]
      exact this
    · rw [nI_pred, i_one (by omega)]
      refine (r_game r (by omega)).2 3 (by omega) M (2 ^ i) u _ (okN_le (okH_G ok) (by omega)) (Nat.pow_lt_pow_right (by decide) (by omega)) h (fun u' h' _ => ?_)
      have ez0 : zl M (2 ^ i) = mp M 19 i 0 := by
        have := zl_or M 0 i
        rw [zl_0, Nat.zero_or] at this
        exact this.symm
      have hv := gV_le r false (mp M 19 i 0)
      have := go u' h'
      rw [if_neg (by rw [c]; decide)] at this
      rw [ez0, nI_leI (by omega) (by omega)]
      refine ⟨fun c2 z ez => ?_, fun c2 z ez => ?_⟩
      · rw [nI_1] at ez
        rw [if_neg (by omega)] at this
        rw [ez]
        exact this
      · rw [nI_1] at ez
        rw [if_pos (by omega)] at this
        rw [ez]
        exact this
theorem sp_moveOf : SP_moveOf RR := fun x cs ms h => by
  obtain ⟨M, ok, st, hc, hm, ht⟩ := rr_house h
  have h8 := ok_ns ok
  have h7 := ok_nd ok
  have hr : ∀ v, RR (va_up (va_up (va_up cs 0 (si (cs 0) 0 v)) 5 (cs 5)) 6 (cs 6)) (si ms 2 v) := fun v => rr_ms h v mSame.rfl.1 (fun _ _ => rfl)
  refine r_within 1 4 rfl rfl (fun p q => ⟨fun _ => r_copyFrom ok hc (fun u6 h6 => ?_), fun c => absurd c (by decide)⟩) (fun p => ⟨fun c => absurd rfl c, fun _ => r_refuse (m_isFrom 1 4 rfl rfl (fun _ _ => absurd p (by omega)) (fun _ => ⟨fun c => absurd rfl c, fun _ => m_refuse ⟨rfl, hr 1⟩⟩))⟩)
  obtain ⟨n, hn, rfl, -⟩ := i_nat (n := 4) (by omega) q
  rw [nI_toInt (by omega)] at p
  obtain ⟨r, rfl⟩ : ∃ r, n = r + 1 := ⟨n - 1, by omega⟩
  -- what the reference chooses
  have hrn := fm_rn (f := fun d => gV r false (mp M 19 d 0)) (f' := fun k => gV r false (opH true M k)) (sk := fun d => (M 6 0).testBit d) (sk' := skpG true M) (D := M 2 0) (fun k => gV_le8 h8) (fun k hk => ⟨by show gV r false (if k < M 2 0 then mp M 19 k 0 else M) = _; rw [if_pos hk], by show (decide (k < M 2 0) && _) = _; rw [decide_eq_true hk, Bool.true_and]⟩) (M 2 0) (Nat.le_refl _)
  have hl := gR_last r true M
  have hp8 := gV_le8 (n := r) (b := false) h8
  have mref : ∀ {post : Int32 → St → Prop}, (∀ u' g d, gR r true M = some (g, d) → mKeep ms u' → (∀ j, j < 1824 → ga u' 0 j = ga ms 0 j) → ((¬ nI d = nI (M 2 0) → post (nI d) (si u' 2 0)) ∧ (nI d = nI (M 2 0) → post (-1) (si u' 2 6)))) → qX12_moveOf (nI (r + 1)) ms post := fun f => by
    refine m_isFrom 1 4 rfl rfl (fun _ _ => ⟨fun _ => m_playing (by omega) ok hm (fun u' g d e k a e31 => ?_), fun c => absurd c (by decide)⟩) (fun a => absurd a (by rw [nI_toInt (by omega)]; omega))
    rw [show ga u' 31 (0 : Int32).toNatClampNeg = nI d from e31, show ga u' 0 (2 : Int32).toNatClampNeg = nI (M 2 0) from (a 2 (by omega)).trans (mc_k (k := 2) hm (by omega))]
    exact ⟨fun c => m_gives ((f u' g d e k a).1 c), fun c => m_refuse ((f u' g d e k a).2 c)⟩
  refine ⟨M 2 0 + 1, fm_loop (by omega) ok (fun u7 h7' => ?_) (M 2 0) 0 u6 (by omega) h6⟩
  unfold qX1_firstMove_b60
  rw [nI_pred]
  refine (r_game r (by omega)).2 3 (by omega) M 0 u7 _ (okN_le (okH_G ok) (by omega)) (Nat.two_pow_pos _) h7' (fun u8 _ _ => ?_)
  have hv := gV_le r false M
  rw [zl_0]
  rcases hrn with ⟨a1, a2⟩ | ⟨g, d, a1, a2⟩
  · rw [a2]
    have e : gR r true M = some (gV r false M, M 2 0) := by
      rw [hl]
      show ac true (rnG true (fun k => gV r false (opH true M k)) (skpG true M) (M 2 0)) (M 2 0) (gV r false M) = _
      rw [a1]
      rfl
    refine ⟨fun c => absurd c (nI_ge (b := 9) (by omega) (by omega)), fun _ => ⟨fun c => absurd rfl c, fun _ => r_refuse (mref (fun u' g d e' k a => ?_))⟩⟩
    rw [e] at e'
    injection e' with e'
    injection e' with _ e'
    exact ⟨fun c => absurd (by rw [e']) c, fun _ => ⟨rfl, rr_ms h 6 k a⟩⟩
  · rw [a2]
    have hd := rn_le _ _ _ a1
    have hle := fm_le (fun d => gV r false (mp M 19 d 0)) (fun d => (M 6 0).testBit d) (M 2 0)
    rw [a2] at hle
    have hle : g ≤ 9 := hle
    have e : gR r true M = if gV r false M < g then some (gV r false M, M 2 0) else some (g, d) := by
      rw [hl]
      show ac true (rnG true (fun k => gV r false (opH true M k)) (skpG true M) (M 2 0)) (M 2 0) (gV r false M) = _
      rw [a1]
      rfl
    show (nI g ≤ nI (gV r false M) → _) ∧ (¬ nI g ≤ nI (gV r false M) → _)
    rw [nI_leI (by omega) (by omega)]
    refine ⟨fun c => ⟨fun _ => r_answer (mref (fun u' g' d' e' k a => ?_)), fun c2 => absurd c2 (nI_m1 (by omega))⟩, fun c => ⟨fun c2 => absurd rfl c2, fun _ => r_refuse (mref (fun u' g' d' e' k a => ?_))⟩⟩
    · rw [e, if_neg (by omega)] at e'
      injection e' with e'
      injection e' with _ e'
      subst e'
      exact ⟨fun _ => ⟨rfl, rr_ms h 0 k a⟩, fun q => absurd ((nI_eq (by omega) (by omega)).mp q) (by omega)⟩
    · rw [e, if_pos (by omega)] at e'
      injection e' with e'
      injection e' with _ e'
      exact ⟨fun q => absurd (by rw [e']) q, fun _ => ⟨rfl, rr_ms h 6 k a⟩⟩
