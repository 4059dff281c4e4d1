/-! HOUSE RULES 6: cash goes over; debts paid and snipped -/
theorem mSame_24 (u : St) (v : Int32) : mSame u (si u 24 v) := ⟨⟨rfl, rfl, rfl, rfl, rfl, rfl, rfl, rfl, rfl, rfl, rfl, rfl, rfl⟩, fun _ _ _ => rfl, rfl, rfl, rfl, rfl, rfl⟩
def hnd (M : MH) (a b c : Nat) : MH := gan (mp M 12 a (M 12 a - c)) b c
theorem hnd_ok {M : MH} {a b c : Nat} (ok : okH M) (ha : a < M 1 0) : okH (hnd M a b c) := gan_ok (ok_up12 ok (by have := (ok.2.2.2.2.2.2.2.2.2.1 a ha).1; omega))
theorem hnd_setl {M : MH} {a b c : Nat} (h : setl M) : setl (hnd M a b c) := gan_setl (setl_12 h)
theorem ok_up6 {M : MH} {v : Nat} (ok : okH M) (hv : v < 2 ^ M 2 0) : okH (mp M 6 0 v) := by
  obtain ⟨h0, h1, h2, h3, h4, h5, h6, h7, h8, h9, h10⟩ := ok
  exact ⟨h0, h1, h2, h3, h4, h5, hv, h7, h8, h9, h10⟩
theorem ok_up19 {M : MH} {d v : Nat} (ok : okH M) (hv : v ≤ 999) : okH (mp M 19 d v) := by
  obtain ⟨h0, h1, h2, h3, h4, h5, h6, h7, h8, h9, h10⟩ := ok
  refine ⟨h0, h1, h2, h3, h4, h5, h6, h7, h8, h9, fun i hi => ?_⟩
  obtain ⟨b1, b2, b3, b4, b5, b6, b7, b8⟩ := h10 i hi
  refine ⟨b1, b2, b3, b4, b5, b6, b7, ?_⟩
  by_cases c : i = d
  · subst c
    rw [mp_eq]
    exact hv
  · rw [mp_ne (Or.inr c)]
    exact b8
theorem ok_or6 {M : MH} {d : Nat} (ok : okH M) (hd : d < M 2 0) : M 6 0 ||| 2 ^ d < 2 ^ M 2 0 := Nat.or_lt_two_pow ok.2.2.2.2.2.2.1 (Nat.pow_lt_pow_right (by decide) hd)
theorem r_handOver {M : MH} {a b c : Nat} {u : St} {post : St → Prop} (ok : okH M) (h : CH u M) (ha : a < M 1 0) (hb : b < M 1 0) (hc : c ≤ M 12 a) (k : ∀ u', CH u' (hnd M a b c) → post u') : qX2_handOver (nI a) (nI b) (nI c) u post := by
  have h5 := ok_np ok
  have h9 := (ok.2.2.2.2.2.2.2.2.2.1 a ha).1
  refine ⟨vp_in_nI (by omega) (by omega), vp_in_nI (by omega) (by omega), fun u' e => ?_⟩
  rw [nI_clamp (by omega), (h.2.2.1 a ha).1, pk_sub hc] at e
  exact r_gain (ok_up12 ok (by omega)) (by subst e; exact ch_up h (by omega) (by omega) (by omega)) hb (by omega) k
theorem m_moves {M : MH} {a b c : Nat} {u : St} {post : Int32 → St → Prop} (ok : okH M) (h : MC u M) (ha : a < M 1 0) (hb : b < M 1 0) (hc : c < 100000) (h1 : c ≤ M 12 a → ∀ u', MC u' (hnd M a b c) → mSame u u' → post 1 u') (h0 : M 12 a < c → post 0 u) : qX12_moves (nI a) (nI b) (nI c) u post := by
  have h5 := ok_np ok
  have h9 := (ok.2.2.2.2.2.2.2.2.2.1 a ha).1
  unfold qX12_moves
  rw [i_34, i_34, nI_clamp (n := 34 + a) (by omega), nI_clamp (n := 34 + b) (by omega), mc_cash h ha]
  refine ⟨vp_in_nI (by omega) (by omega), fun q => ⟨vp_in_nI (by omega) (by omega), vp_in_nI (by omega) (by omega), fun u1 e1 => ⟨vp_in_nI (by omega) (by omega), vp_in_nI (by omega) (by omega), fun u2 e2 => ?_⟩⟩, fun q => h0 ?_⟩
  · rw [nI_leI (by omega) (by omega)] at q
    rw [pk_sub q] at e1
    have m1 : MC u1 (mp M 12 a (M 12 a - c)) := by subst e1; exact mc_up12 ok h ha
    have k1 : mSame u u1 := by subst e1; exact mSame_upd _ _ (by omega) (by omega)
    have ok1 : okH (mp M 12 a (M 12 a - c)) := ok_up12 ok (by omega)
    have h9b := (ok1.2.2.2.2.2.2.2.2.2.1 b hb).1
    rw [mc_cash m1 hb, nI_add, show (9999 : Int32) = nI 9999 from rfl, i_min (by omega) (by omega)] at e2
    refine h1 q u2 ?_ (k1.trans ?_)
    · subst e2
      exact mc_up12 ok1 m1 hb
    · subst e2
      exact mSame_upd _ _ (by omega) (by omega)
  · rw [nI_leI (by omega) (by omega)] at q
    omega
/-- a debt can be paid; it is paid, and what does not stand falls -/
def cpy (M : MH) (d : Nat) : Prop := (M 6 0).testBit d = false ∧ owd M d ≤ M 12 (M 14 d)
def pyp (M : MH) (d : Nat) : MH := mp (hnd M (M 14 d) (M 15 d) (owd M d)) 6 0 (M 6 0 ||| 2 ^ d)
def pyd (M : MH) (d : Nat) : MH := fal (pyp M d)
theorem pyp_ok {M : MH} {d : Nat} (ok : okH M) (hd : d < M 2 0) : okH (pyp M d) := ok_up6 (hnd_ok ok (ok_d ok hd).1) (ok_or6 ok hd)
theorem pyd_ok {M : MH} {d : Nat} (ok : okH M) (hd : d < M 2 0) : okH (pyd M d) := fal_ok (pyp_ok ok hd)
theorem r_canPay {M : MH} {d : Nat} {u : St} {post : Int32 → St → Prop} (ok : okH M) (h : CH u M) (hd : d < M 2 0) (h1 : cpy M d → post 1 u) (h0 : ¬ cpy M d → post 0 u) : qX2_canPay (nI d) u post := by
  have h7 := ok_nd ok
  have h5 := ok_np ok
  have od := ok_d ok hd
  have ow := owd_le ok hd
  have h9 := (ok.2.2.2.2.2.2.2.2.2.1 (M 14 d) od.1).1
  refine r_isDebt (n := M 2 0) (by omega) (ch_k h (by omega)) (fun c => ⟨fun c => absurd c (by decide), fun _ => ?_⟩) (fun c => absurd (inR_nI hd (by omega)) c)
  rw [ch_k h (by omega), nI_clamp (n := d) (by omega), ch_d h (by omega) (by omega) hd, nI_clamp (n := M 14 d) (by omega), (h.2.2.1 _ od.1).1]
  refine r_has (ok_paid ok) (by omega) (fun c => ⟨fun _ => ⟨Or.inl rfl, h0 (fun q => by rw [q.1] at c; exact absurd c (by decide))⟩, fun c => absurd c (by decide)⟩) (fun c => ⟨fun c => absurd rfl c, fun _ => ⟨vp_in_nI (by omega) (by omega), vp_in_nI (by omega) (by omega), r_owed ok h hd ?_⟩⟩)
  rw [nI_ltI (by omega) (by omega)]
  exact ⟨fun q => ⟨Or.inl rfl, h0 (fun q2 => by have := q2.2; omega)⟩, fun q => ⟨Or.inr rfl, h1 ⟨c, by omega⟩⟩⟩
theorem r_payDebt {M : MH} {d : Nat} {u : St} {post : Int32 → St → Prop} (ok : okH M) (h : CH u M) (hd : d < M 2 0) (hc : cpy M d) (k : ∀ u', CH u' (pyd M d) → post (nI (owd M d)) u') : qX2_payDebt (nI d) u post := by
  have h7 := ok_nd ok
  have od := ok_d ok hd
  have ow := owd_le ok hd
  refine r_owed ok h hd ⟨vp_in_nI (by omega) (by omega), vp_in_nI (by omega) (by omega), ?_⟩
  rw [nI_clamp (n := d) (by omega), ch_d h (by omega) (by omega) hd, ch_d h (by omega) (by omega) hd]
  refine r_handOver ok h od.1 od.2.1 hc.2 (fun u1 h1 u2 e2 => ?_)
  have e6 : gi u1 6 = nI (M 6 0) := ch_k h1 (by omega)
  rw [e6, i_one (by omega), i_or] at e2
  have hu : CH u2 (pyp M d) := by subst e2; exact ch_si h1 (by omega) (by omega)
  exact r_settle (pyp_ok ok hd) hu (fun u3 h3 => k u3 h3)
theorem m_pays {M : MH} {d : Nat} {u : St} {post : Int32 → St → Prop} (ok : okH M) (h : MC u M) (hd : d < M 2 0) (h1 : cpy M d → ∀ u', MC u' (pyp M d) → mSame u u' → post (nI (owd M d)) u') (h0 : ¬ cpy M d → post (-1) u) : qX12_pays (nI d) u post := by
  have h7 := ok_nd ok
  have od := ok_d ok hd
  have ow := owd_le ok hd
  have hm := mc_d h hd
  refine m_owedOf ok h hd (m_isPaidUp ok h (by omega) (fun c => ⟨fun _ => h0 (fun q => by rw [q.1] at c; exact absurd c (by decide)), fun c => absurd c (by decide)⟩) (fun c => ⟨fun c => absurd rfl c, fun _ => m_debtOf (j := 0) (by omega) (by omega) (m_debtOf (j := 1) (by omega) (by omega) ?_)⟩))
  rw [show 39 + 7 * d + 0 = 39 + 7 * d by omega, show 39 + 7 * d + 1 = 40 + 7 * d by omega, hm.1, hm.2.1]
  refine m_moves ok h od.1 od.2.1 (by omega) (fun q u1 m1 k1 => ⟨fun _ u2 e2 => ?_, fun c => absurd c (by decide)⟩) (fun q => ⟨fun c => absurd rfl c, fun _ => h0 (fun q2 => by have := q2.2; omega)⟩)
  have e6 : ga u1 0 (6 : Int32).toNatClampNeg = nI (M 6 0) := mc_k (k := 6) m1 (by omega)
  rw [e6, i_one (by omega), i_or] at e2
  refine h1 ⟨c, q⟩ u2 ?_ (k1.trans ?_)
  · subst e2
    exact mc_up6 (hnd_ok ok od.1) m1
  · subst e2
    exact mSame_upd _ _ (by decide) (by decide)
theorem m_paysAndFalls {M : MH} {d : Nat} {u : St} {post : Int32 → St → Prop} (ok : okH M) (h : MC u M) (hd : d < M 2 0) (h1 : cpy M d → ∀ u', MC u' (pyd M d) → mSame u u' → gi u' 24 = nI (pc (pyd M d 5 0)) - nI (pc (M 5 0)) → post (nI (owd M d)) u') (h0 : ¬ cpy M d → post (-1) (si u 24 0)) : qX12_paysAndFalls (nI d) u post := by
  have ow := owd_le ok hd
  have hne : ¬ nI (owd M d) = -1 := fun q => by
    rw [i_eq, nI_toInt (by omega)] at q
    have : (-1 : Int32).toInt = -1 := rfl
    omega
  refine m_pays ok h hd (fun c u1 m1 k1 => ⟨fun _ => m_falling (pyp_ok ok hd) m1 (fun u2 m2 k2 u3 e3 => ?_), fun q => absurd q hne⟩) (fun c => ⟨fun q => absurd rfl q, fun _ u3 e3 => by subst e3; exact h0 c⟩)
  subst e3
  exact h1 c _ m2 (k1.trans (k2.trans (mSame_24 _ _))) rfl
theorem sp_pay : SP_pay RR := fun x cs ms h => by
  obtain ⟨M, ok, st, hc, hm, ht⟩ := rr_house h
  have h7 := ok_nd ok
  have hr : ∀ v, RR (va_up (va_up cs 0 (si (cs 0) 0 v)) 5 (cs 5)) (si ms 2 v) := fun v => by
    rw [up_skip cs 0 5 _ (by decide)]
    exact rr_st h v
  refine r_isDebt (n := M 2 0) (by omega) (ch_k hc (by omega)) (fun c => ⟨fun _ => ?_, fun c => absurd c (by decide)⟩) (fun c => ⟨fun c => absurd rfl c, fun _ => r_refuse (m_isDebt (n := M 2 0) (by omega) (mc_k hm (by omega)) (fun q => absurd q c) (fun _ => ⟨fun c => absurd rfl c, fun _ => m_refuse ⟨rfl, hr 1⟩⟩))⟩)
  obtain ⟨d, hd, rfl⟩ := c.nat (by omega)
  have ow := owd_le ok hd
  have hne : ¬ nI (owd M d) = -1 := fun q => by
    rw [i_eq, nI_toInt (by omega)] at q
    have : (-1 : Int32).toInt = -1 := rfl
    omega
  refine r_canPay ok hc hd (fun q => ⟨fun _ => r_payDebt ok hc hd q (fun u5 h5 => r_answer ?_), fun c => absurd c (by decide)⟩) (fun q => ⟨fun c => absurd rfl c, fun _ => r_refuse ?_⟩)
  · refine m_isDebt (n := M 2 0) (by omega) (mc_k hm (by omega)) (fun _ => ⟨fun _ => ?_, fun c => absurd c (by decide)⟩) (fun q => absurd c q)
    exact m_paysAndFalls ok hm hd (fun _ u' m' k' _ => ⟨fun _ => m_gives ⟨rfl, rr_new h ht (pyd_ok ok hd) (fal_setl _) h5 m' rfl rfl k'⟩, fun c => absurd c hne⟩) (fun q2 => absurd q q2)
  · refine m_isDebt (n := M 2 0) (by omega) (mc_k hm (by omega)) (fun _ => ⟨fun _ => ?_, fun c => absurd c (by decide)⟩) (fun q => absurd c q)
    exact m_paysAndFalls ok hm hd (fun q2 => absurd q2 q) (fun _ => ⟨fun c => absurd rfl c, fun _ => m_refuse ⟨rfl, rr_new h ht ok st hc hm rfl rfl (mSame_24 _ _)⟩⟩)
/-- leaves can be snipped; they are snipped, and what does not stand falls -/
def csn (M : MH) (d c : Nat) : Prop := (M 6 0).testBit d = false ∧ c ≤ M 19 d ∧ c ≤ M 12 (M 14 d)
def snq (M : MH) (d c : Nat) : MH := mp (hnd M (M 14 d) (M 15 d) c) 19 d (M 19 d - c)
def snp (M : MH) (d c : Nat) : MH := fal (snq M d c)
theorem snq_ok {M : MH} {d c : Nat} (ok : okH M) (hd : d < M 2 0) : okH (snq M d c) := ok_up19 (hnd_ok ok (ok_d ok hd).1) (by have := (ok_d ok hd).2.2.2.2.2.2.2; omega)
theorem snp_ok {M : MH} {d c : Nat} (ok : okH M) (hd : d < M 2 0) : okH (snp M d c) := fal_ok (snq_ok ok hd)
theorem r_canSnip {M : MH} {d k : Nat} {u : St} {post : Int32 → St → Prop} (ok : okH M) (h : CH u M) (hd : d < M 2 0) (hk : k < 2 ^ 31) (h1 : csn M d k → post 1 u) (h0 : ¬ csn M d k → post 0 u) : qX2_canSnip (nI d) (nI k) u post := by
  have h7 := ok_nd ok
  have h5 := ok_np ok
  have od := ok_d ok hd
  have h9 := (ok.2.2.2.2.2.2.2.2.2.1 (M 14 d) od.1).1
  refine r_isDebt (n := M 2 0) (by omega) (ch_k h (by omega)) (fun c => ⟨fun c => absurd c (by decide), fun _ => ?_⟩) (fun c => absurd (inR_nI hd (by omega)) c)
  rw [ch_k h (by omega), nI_clamp (n := d) (by omega), ch_d h (by omega) (by omega) hd, ch_d h (by omega) (by omega) hd, nI_clamp (n := M 14 d) (by omega), (h.2.2.1 _ od.1).1]
  refine r_has (ok_paid ok) (by omega) (fun c => ⟨fun _ => ⟨Or.inl rfl, h0 (fun q => by rw [q.1] at c; exact absurd c (by decide))⟩, fun c => absurd c (by decide)⟩) (fun c => ⟨fun c => absurd rfl c, fun _ => ⟨vp_in_nI (by omega) (by omega), ?_⟩⟩)
  rw [nI_ltI (by omega) (by omega), nI_ltI (by omega) (by omega)]
  exact ⟨fun q => ⟨Or.inl rfl, h0 (fun q2 => by have := q2.2.1; omega)⟩, fun q => ⟨vp_in_nI (by omega) (by omega), vp_in_nI (by omega) (by omega), fun q3 => ⟨Or.inl rfl, h0 (fun q2 => by have := q2.2.2; omega)⟩, fun q3 => ⟨Or.inr rfl, h1 ⟨c, by omega, by omega⟩⟩⟩⟩
theorem r_snipDebt {M : MH} {d k : Nat} {u : St} {post : St → Prop} (ok : okH M) (h : CH u M) (hd : d < M 2 0) (hc : csn M d k) (fin : ∀ u', CH u' (snp M d k) → post u') : qX2_snipDebt (nI d) (nI k) u post := by
  have h7 := ok_nd ok
  have od := ok_d ok hd
  refine ⟨vp_in_nI (by omega) (by omega), vp_in_nI (by omega) (by omega), ?_⟩
  rw [nI_clamp (n := d) (by omega), ch_d h (by omega) (by omega) hd, ch_d h (by omega) (by omega) hd]
  refine r_handOver ok h od.1 od.2.1 hc.2.2 (fun u1 h1 => ⟨vp_in_nI (by omega) (by omega), vp_in_nI (by omega) (by omega), fun u2 e2 => ?_⟩)
  have e19 : ga u1 19 d = nI (M 19 d) := ch_d h1 (by omega) (by omega) hd
  rw [e19, pk_sub hc.2.1] at e2
  have hu : CH u2 (snq M d k) := by subst e2; exact ch_up h1 (by omega) (by omega) (by omega)
  exact r_settle (snq_ok ok hd) hu (fun u3 h3 => fin u3 h3)
theorem m_snips {M : MH} {d k : Nat} {u : St} {post : Int32 → St → Prop} (ok : okH M) (h : MC u M) (hd : d < M 2 0) (hk : k < 100000) (h1 : csn M d k → ∀ u', MC u' (snp M d k) → mSame u u' → gi u' 24 = nI (pc (snp M d k 5 0)) - nI (pc (M 5 0)) → post 1 u') (h0 : ¬ csn M d k → post 0 (si u 24 0)) : qX12_snips (nI d) (nI k) u post := fun v ev => by
  have h7 := ok_nd ok
  have od := ok_d ok hd
  have hm := mc_d h hd
  have mv : MC v M := by subst ev; exact h
  have kv : mSame u v := by subst ev; exact mSame_24 _ _
  have hmv := mc_d mv hd
  have h0' : ¬ csn M d k → post 0 v := by subst ev; exact h0
  refine m_isPaidUp ok mv (by omega) (fun c => ⟨fun _ => h0' (fun q => by rw [q.1] at c; exact absurd c (by decide)), fun c => absurd c (by decide)⟩) (fun c => ⟨fun c => absurd rfl c, fun _ => m_debtOf (j := 6) (by omega) (by omega) ?_⟩)
  rw [show 39 + 7 * d + 6 = 45 + 7 * d by omega, hmv.2.2.2.2.2.2, nI_ltI (by omega) (by omega)]
  refine ⟨fun q => h0' (fun q2 => by have := q2.2.1; omega), fun q => m_debtOf (j := 0) (by omega) (by omega) (m_debtOf (j := 1) (by omega) (by omega) ?_)⟩
  rw [show 39 + 7 * d + 0 = 39 + 7 * d by omega, show 39 + 7 * d + 1 = 40 + 7 * d by omega, hmv.1, hmv.2.1]
  refine m_moves ok mv od.1 od.2.1 (by omega) (fun q1 u1 m1 k1 => ⟨fun _ => m_debtRow ?_, fun c => absurd c (by decide)⟩) (fun q1 => ⟨fun c => absurd rfl c, fun _ => h0' (fun q2 => by have := q2.2.2; omega)⟩)
  have E6 : nI (39 + 7 * d) + 6 = nI (45 + 7 * d) := (nI_add _ 6).trans (by rw [show 39 + 7 * d + 6 = 45 + 7 * d by omega])
  have e19 : ga u1 0 (45 + 7 * d) = nI (M 19 d) := (mc_d m1 hd).2.2.2.2.2.2
  rw [E6, nI_clamp (by omega), e19, pk_sub (by omega)]
  refine ⟨vp_in_nI (by omega) (by omega), vp_in_nI (by omega) (by omega), fun u2 e2 => ?_⟩
  have m2 : MC u2 (snq M d k) := by subst e2; exact mc_up19 (hnd_ok ok od.1) m1 hd
  have k2 : mSame u1 u2 := by subst e2; exact mSame_upd _ _ (by omega) (by omega)
  refine m_falling (snq_ok ok hd) m2 (fun u3 m3 k3 u4 e4 => ?_)
  subst e4
  exact h1 ⟨c, by omega, q1⟩ _ m3 (kv.trans (k1.trans (k2.trans (k3.trans (mSame_24 _ _))))) rfl
theorem sp_snip : SP_snip RR := fun x y cs ms h => by
  obtain ⟨M, ok, st, hc, hm, ht⟩ := rr_house h
  have h7 := ok_nd ok
  have hr : ∀ v, RR (va_up (va_up cs 0 (si (cs 0) 0 v)) 5 (cs 5)) (si ms 2 v) := fun v => by
    rw [up_skip cs 0 5 _ (by decide)]
    exact rr_st h v
  refine r_isDebt (n := M 2 0) (by omega) (ch_k hc (by omega)) (fun c => ⟨fun c => absurd c (by decide), fun _ => ?_⟩) (fun c => ⟨fun _ => r_refuse (m_isDebt (n := M 2 0) (by omega) (mc_k hm (by omega)) (fun q => absurd q c) (fun _ => ⟨fun _ => m_refuse ⟨rfl, hr 1⟩, fun c => absurd rfl c⟩)), fun c => absurd rfl c⟩)
  have gom : ∀ (post : Int32 → St → Prop), qX12_isFrom y.toInt64 1 99 (fun r_28 => ((¬ r_28 = 0 → qX12_snips x y ms (fun r_32 u_31 => ((r_32 = 0 → qX12_refuse (7 : Int32) u_31 (fun r_36 u_35 => qX12_snip_b55 post r_36 u_35)) ∧ (¬ r_32 = 0 → qX12_debtOf x (6 : Int32) u_31 (fun r_39 u_38 => qX12_gives r_39 u_38 (fun r_42 u_41 => qX12_snip_b55 post r_42 u_41)))))) ∧ (r_28 = 0 → qX12_snip_b20 post ms))) → qX12_snip x y ms post := fun post q => m_isDebt (n := M 2 0) (by omega) (mc_k hm (by omega)) (fun _ => ⟨fun c => absurd c (by decide), fun _ => q⟩) (fun q => absurd c q)
  obtain ⟨d, hd, rfl⟩ := c.nat (by omega)
  refine r_within 1 99 rfl rfl (fun p q => ⟨fun _ => ?_, fun c => absurd c (by decide)⟩) (fun p => ⟨fun c => absurd rfl c, fun _ => r_refuse (gom _ (m_isFrom 1 99 rfl rfl (fun _ _ => absurd p (by omega)) (fun _ => ⟨fun c => absurd rfl c, fun _ => m_refuse ⟨rfl, hr 1⟩⟩)))⟩)
  obtain ⟨k, hk, rfl, -⟩ := i_nat (n := 99) (by omega) q
  refine r_canSnip ok hc hd (by omega) (fun q2 => ⟨fun _ => r_snipDebt ok hc hd q2 (fun u5 h5 => ⟨vp_in_nI (by omega) (by omega), ?_⟩), fun c => absurd c (by decide)⟩) (fun q2 => ⟨fun c => absurd rfl c, fun _ => r_refuse (gom _ (m_isFrom 1 99 rfl rfl (fun _ _ => ⟨fun _ => ?_, fun c => absurd c (by decide)⟩) (fun r => absurd r (by omega))))⟩)
  · rw [nI_clamp (by omega)]
    refine r_answer (gom _ (m_isFrom 1 99 rfl rfl (fun _ _ => ⟨fun _ => ?_, fun c => absurd c (by decide)⟩) (fun r => absurd r (by omega))))
    refine m_snips ok hm hd (by omega) (fun _ u' m' k' _ => ⟨fun c => absurd c (by decide), fun _ => m_debtOf (j := 6) (by omega) (by omega) (m_gives ⟨?_, rr_new h ht (snp_ok ok hd) (fal_setl _) h5 m' rfl rfl k'⟩)⟩) (fun q3 => absurd q2 q3)
    have e1 : ga u5 19 d = nI (snp M d k 19 d) := ch_d h5 (by omega) (by omega) hd
    have e2 : ga u' 0 (45 + 7 * d) = nI (snp M d k 19 d) := (mc_d m' hd).2.2.2.2.2.2
    rw [show 39 + 7 * d + 6 = 45 + 7 * d by omega, e1, e2]
  · exact m_snips ok hm hd (by omega) (fun q3 => absurd q3 q2) (fun _ => ⟨fun _ => m_refuse ⟨rfl, rr_new h ht ok st hc hm rfl rfl (mSame_24 _ _)⟩, fun c => absurd rfl c⟩)
