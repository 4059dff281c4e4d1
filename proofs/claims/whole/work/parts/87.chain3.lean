/-! STEPS 22: chains, the reference's way -/
/-- beside the house at hand all is as it was -/
def sm0 (u u' : St) : Prop := (∀ k, k ≠ 0 → ga u' k = ga u k) ∧ (∀ k, gi u' k = gi u k) ∧ (∀ k, gl u' k = gl u k) ∧ (∀ k, gj u' k = gj u k) ∧ ∀ j, 88 ≤ j → ga u' 0 j = ga u 0 j
theorem sm0.trans {a b c : St} (h : sm0 a b) (q : sm0 b c) : sm0 a c := ⟨fun k hk => (q.1 k hk).trans (h.1 k hk), fun k => (q.2.1 k).trans (h.2.1 k), fun k => (q.2.2.1 k).trans (h.2.2.1 k), fun k => (q.2.2.2.1 k).trans (h.2.2.2.1 k), fun j hj => (q.2.2.2.2 j hj).trans (h.2.2.2.2 j hj)⟩
theorem sm0_up (u : St) (i : Nat) (v : Int32) (hi : i < 88) : sm0 u (sw u 0 (upd (ga u 0) i v)) := ⟨fun k hk => by rw [ga_sw, if_neg hk], fun _ => rfl, fun _ => rfl, fun _ => rfl, fun j hj => by rw [ga_up0, if_neg (by omega)]⟩
theorem sm0.keep {u u' : St} (h : sm0 u u') : mKeep u u' := ⟨h.2.2.2.1 3, h.2.2.2.1 4, h.2.1 10, h.1 8 (by decide), h.2.1 16, h.2.1 17, h.1 5 (by decide), h.1 6 (by decide), h.2.2.1 7, h.2.1 39, h.2.1 38, h.1 37 (by decide), h.2.2.1 1⟩
def mvS (M : MH) (a b c : Nat) (u : St) : St := sw (sw u 0 (upd (ga u 0) (34 + a) (nI (M 12 a - c)))) 0 (upd (ga (sw u 0 (upd (ga u 0) (34 + a) (nI (M 12 a - c)))) 0) (34 + b) (nI (min (mp M 12 a (M 12 a - c) 12 b + c) 9999)))
def pyS (M : MH) (d : Nat) (u : St) : St := sw (mvS M (M 14 d) (M 15 d) (owd M d) u) 0 (upd (ga (mvS M (M 14 d) (M 15 d) (owd M d) u) 0) 6 (nI (M 6 0 ||| 2 ^ d)))
def flS (M : MH) (u : St) : St := sw u 0 (upd (ga u 0) 5 (nI (fal M 5 0)))
theorem mvS_mc {M : MH} {a b c : Nat} {u : St} (ok : okH M) (h : MC u M) (ha : a < M 1 0) (hb : b < M 1 0) : MC (mvS M a b c u) (hnd M a b c) := by
  have h9 := (ok.2.2.2.2.2.2.2.2.2.1 a ha).1
  exact mc_up12 (ok_up12 ok (by omega)) (mc_up12 ok h ha) hb
theorem mvS_sm {M : MH} {a b c : Nat} {u : St} (ha : a < 5) (hb : b < 5) : sm0 u (mvS M a b c u) := (sm0_up u (34 + a) _ (by omega)).trans (sm0_up _ (34 + b) _ (by omega))
theorem m_moves_x {M : MH} {a b c : Nat} {u : St} {post : Int32 → St → Prop} (ok : okH M) (h : MC u M) (ha : a < M 1 0) (hb : b < M 1 0) (hc : c < 100000) (h1 : c ≤ M 12 a → post 1 (mvS M a b c u)) (h0 : M 12 a < c → post 0 u) : qX12_moves (nI a) (nI b) (nI c) u post := by
  have h5 := ok_np ok
  have h9 := (ok.2.2.2.2.2.2.2.2.2.1 a ha).1
  unfold qX12_moves
  rw [i_34, i_34, nI_clamp (n := 34 + a) (by omega), nI_clamp (n := 34 + b) (by omega), mc_cash h ha]
  refine ⟨vp_in_nI (by omega) (by omega), fun q => ⟨vp_in_nI (by omega) (by omega), vp_in_nI (by omega) (by omega), fun u1 e1 => ⟨vp_in_nI (by omega) (by omega), vp_in_nI (by omega) (by omega), fun u2 e2 => ?_⟩⟩, fun q => h0 ?_⟩
  · rw [nI_leI (by omega) (by omega)] at q
    rw [pk_sub q] at e1
    have m1 : MC u1 (mp M 12 a (M 12 a - c)) := by subst e1; exact mc_up12 ok h ha
    have ok1 : okH (mp M 12 a (M 12 a - c)) := ok_up12 ok (by omega)
    have h9b := (ok1.2.2.2.2.2.2.2.2.2.1 b hb).1
    rw [mc_cash m1 hb, nI_add, show (9999 : Int32) = nI 9999 from rfl, i_min (by omega) (by omega)] at e2
    subst e2; subst e1
    exact h1 q
  · rw [nI_leI (by omega) (by omega)] at q
    omega
theorem m_pays_x {M : MH} {d : Nat} {u : St} {post : Int32 → St → Prop} (ok : okH M) (h : MC u M) (hd : d < M 2 0) (h1 : cpy M d → post (nI (owd M d)) (pyS M d u)) (h0 : ¬ cpy M d → post (-1) u) : qX12_pays (nI d) u post := by
  have h7 := ok_nd ok
  have od := ok_d ok hd
  have ow := owd_le ok hd
  have hm := mc_d h hd
  refine m_owedOf ok h hd (m_isPaidUp ok h (by omega) (fun c => ⟨fun _ => h0 (fun q => by rw [q.1] at c; exact absurd c (by decide)), fun c => absurd c (by decide)⟩) (fun c => ⟨fun c => absurd rfl c, fun _ => m_debtOf (j := 0) (by omega) (by omega) (m_debtOf (j := 1) (by omega) (by omega) ?_)⟩))
  rw [show 39 + 7 * d + 0 = 39 + 7 * d by omega, show 39 + 7 * d + 1 = 40 + 7 * d by omega, hm.1, hm.2.1]
  refine m_moves_x ok h od.1 od.2.1 (by omega) (fun q => ⟨fun _ u2 e2 => ?_, fun c => absurd c (by decide)⟩) (fun q => ⟨fun c => absurd rfl c, fun _ => h0 (fun q2 => by have := q2.2; omega)⟩)
  have m1 : MC (mvS M (M 14 d) (M 15 d) (owd M d) u) (hnd M (M 14 d) (M 15 d) (owd M d)) := mvS_mc ok h od.1 od.2.1
  have e6 : ga (mvS M (M 14 d) (M 15 d) (owd M d) u) 0 (6 : Int32).toNatClampNeg = nI (M 6 0) := mc_k (k := 6) m1 (by omega)
  rw [e6, i_one (by omega), i_or] at e2
  subst e2
  exact h1 ⟨c, q⟩
theorem pyS_mc {M : MH} {d : Nat} {u : St} (ok : okH M) (h : MC u M) (hd : d < M 2 0) : MC (pyS M d u) (pyp M d) := by
  have od := ok_d ok hd
  exact mc_up6 (hnd_ok ok od.1) (mvS_mc ok h od.1 od.2.1)
theorem pyS_sm {M : MH} {d : Nat} {u : St} (ok : okH M) (hd : d < M 2 0) : sm0 u (pyS M d u) := by
  have od := ok_d ok hd
  have h5 := ok_np ok
  exact (mvS_sm (by omega) (by omega)).trans (sm0_up _ 6 _ (by omega))
theorem m_falling_x {M : MH} {u : St} {post : Int32 → St → Prop} (ok : okH M) (h : MC u M) (hp : post (nI (pc (fal M 5 0)) - nI (pc (M 5 0))) (flS M u)) : qX12_falling u post := by
  have h8 := ok_ns ok
  have e5 : ga u 0 (5 : Int32).toNatClampNeg = nI (M 5 0) := mc_k (k := 5) h (by omega)
  have e0 : ga u 0 (0 : Int32).toNatClampNeg = nI (M 0 0) := mc_k (k := 0) h (by omega)
  unfold qX12_falling
  rw [e5, e0]
  refine m_bits (ok_f8 ok) (m_standsNow ok h (fun u' e => ?_))
  rw [i_settle (by omega) (stn_lt M 0 0 _)] at e
  have e' : u' = flS M u := by rw [e]; unfold flS; rw [fal_5]; rfl
  subst e'
  have hm : MC (flS M u) (fal M) := mc_up5 ok h
  rw [show ga (flS M u) 0 (5 : Int32).toNatClampNeg = nI (fal M 5 0) from mc_k (k := 5) hm (by omega)]
  exact m_bits (ok_f8 (fal_ok ok)) hp
theorem fall_z {M H : MH} {S : Nat} (ok : okH M) (st : setl M) (h : relC M S H) : (fwo M S = 0 → nI (pc (fal H 5 0)) - nI (pc (H 5 0)) ≤ 0) ∧ (fwo M S ≠ 0 → ¬ nI (pc (fal H 5 0)) - nI (pc (H 5 0)) ≤ 0) := by
  have hr := rel_fal ok st h
  have f1 := ok_f8 h.1
  have f2 := ok_f8 (fal_ok h.1)
  have ex : nI (pc (fal H 5 0)) - nI (pc (H 5 0)) = nI (pc (fal H 5 0 ^^^ H 5 0)) := (pc_xor (fun s q => fal_sub h.1 s q)).symm
  have hx : fal H 5 0 ^^^ H 5 0 < 256 := Nat.xor_lt_two_pow (n := 8) f2 f1
  rw [ex]
  refine ⟨fun q => ?_, fun q w => ?_⟩
  · rw [hr.1 q, Nat.xor_self]
    decide
  · have hp := (pc8 _ hx).1
    rw [i_le, nI_toInt (by omega)] at w
    have z : (0 : Int32).toInt = 0 := rfl
    have := pc_z8 _ hx (by omega)
    apply hr.2 q
    have e : fal H 5 0 ^^^ H 5 0 ^^^ H 5 0 = H 5 0 := by rw [this, Nat.zero_xor]
    rw [Nat.xor_assoc, Nat.xor_self, Nat.xor_zero] at e
    exact e
/-- all but the levels from L on, the best row and the house at hand is as it was -/
def FrC (L : Nat) (u u' : St) : Prop := mKeep u u' ∧ (∀ j, 88 ≤ j → j < 2368 + 88 * (L + 1) → ga u' 0 j = ga u 0 j) ∧ ∀ i, i < L → ga u' 25 i = ga u 25 i
theorem FrC.trans {L : Nat} {a b c : St} (h : FrC L a b) (q : FrC L b c) : FrC L a c := ⟨h.1.trans q.1, fun j h1 h2 => (q.2.1 j h1 h2).trans (h.2.1 j h1 h2), fun i hi => (q.2.2 i hi).trans (h.2.2 i hi)⟩
theorem FrC.dn {L : Nat} {a b : St} (h : FrC (L + 1) a b) : FrC L a b := ⟨h.1, fun j h1 h2 => h.2.1 j h1 (by omega), fun i hi => h.2.2 i (by omega)⟩
theorem FrC.rfl {L : Nat} {a : St} : FrC L a a := ⟨mSame.rfl.1, fun _ _ _ => _root_.rfl, fun _ _ => _root_.rfl⟩
theorem sm0_Fr {L : Nat} {u u' : St} (h : sm0 u u') : FrC L u u' := ⟨h.keep, fun j h1 _ => h.2.2.2.2 j h1, fun i _ => by rw [h.1 25 (by decide)]⟩
def bsR (u : St) (b : List Nat) : Prop := gi u 27 = nI b.length ∧ rowR (ga u 26) b
theorem sm0_bs {u u' : St} {b : List Nat} (h : sm0 u u') (q : bsR u b) : bsR u' b := by
  show gi u' 27 = nI b.length ∧ rowR (ga u' 26) b
  rw [h.2.1 27, h.1 26 (by decide)]
  exact q
def WPc (post : St → Prop) (f : Bool) (x : Int32) (u : St) : Prop := ∃ n, qX12_laysChain_L22 post n (bI f) x u
/-- the house of a level is back, one more tried -/
def rsC (L : Nat) (u : St) : St := sw (sw u 0 (rsF (2368 + 88 * L) 88 (ga u 0))) 25 (upd (ga u 25) L (ga u 25 L + 1))
theorem rsC_Fr (L : Nat) (u : St) : FrC L u (rsC L u) := by
  refine ⟨⟨rfl, rfl, rfl, rfl, rfl, rfl, rfl, rfl, rfl, rfl, rfl, rfl, rfl⟩, fun j h1 h2 => ?_, fun i hi => ?_⟩
  · show rsF (2368 + 88 * L) 88 (ga u 0) j = ga u 0 j
    unfold rsF
    rw [if_neg (by omega)]
  · show upd (ga u 25) L (ga u 25 L + 1) i = ga u 25 i
    rw [upd_at, if_neg (by omega)]
/-- the row at hand is the best -/
def cpR (f g : Nat → Int32) (n : Nat) : Nat → Int32 := fun j => if j < n then f j else g j
theorem cpR_s (f g : Nat → Int32) (n : Nat) : upd (cpR f g n) n (f n) = cpR f g (n + 1) := by
  funext j
  rw [upd_at]
  unfold cpR
  by_cases c : j = n
  · rw [if_pos c, if_pos (by omega), c]
  · rw [if_neg c]
    by_cases c2 : j < n
    · rw [if_pos c2, if_pos (by omega)]
    · rw [if_neg c2, if_neg (by omega)]
theorem cpR_0 (f g : Nat → Int32) : cpR f g 0 = g := by
  funext j
  unfold cpR
  rw [if_neg (by omega)]
def bsS (L : Nat) (u : St) : St := sw (si u 27 (nI (L + 1))) 26 (cpR (ga u 25) (ga u 26) (L + 1))
theorem bs_loop {L : Nat} {x1 : Int32} {u : St} {post : St → Prop} {K : Int32 → Int32 → St → Prop} (hL : L < 7) (fin : qX12_laysChain_b136 post K x1 (nI L) (sw u 26 (cpR (ga u 25) (ga u 26) (L + 1)))) : ∀ (m i : Nat), i + m = L + 1 → qX12_laysChain_L110 post K (m + 1) x1 (nI L) (nI i) (sw u 26 (cpR (ga u 25) (ga u 26) i)) := by
  intro m
  induction m with
  | zero =>
    intro i hi
    have : i = L + 1 := by omega
    subst this
    exact ⟨fun _ => fin, fun c => absurd (nI_lt (by omega) (by omega)) c⟩
  | succ m ih =>
    intro i hi
    refine ⟨fun c => absurd c (nI_nlt (by omega) (by omega)), fun _ => ⟨vp_in_nI (by omega) (by omega), vp_in_nI (by omega) (by omega), fun u' e z ez => ?_⟩⟩
    rw [nI_clamp (by omega), sw_sw, ga_sw, if_pos rfl] at e
    rw [nI_1] at ez
    have e' : u' = sw u 26 (cpR (ga u 25) (ga u 26) (i + 1)) := by
      rw [e, ← cpR_s]
      rfl
    subst e'; subst ez
    exact ih (i + 1) (by omega)
theorem m_b90 {L : Nat} {x1 : Int32} {u : St} {row b : List Nat} {k : Nat} {post : St → Prop} {K : Int32 → Int32 → St → Prop} (hL : L < 7) (hb : bsR u b) (hb7 : b.length ≤ 7) (hl : row.length = L) (hr : rowR (ga u 25) (row ++ [k])) (h1 : L + 1 ≤ b.length → qX12_laysChain_b136 post K x1 (nI L) u) (h0 : ¬ L + 1 ≤ b.length → qX12_laysChain_b136 post K x1 (nI L) (bsS L u)) : qX12_laysChain_b90 post K x1 (nI L) u := by
  unfold qX12_laysChain_b90
  rw [nI_1, hb.1, nI_leI (by omega) (by omega)]
  refine ⟨h1, fun c u2 e2 => ?_⟩
  subst e2
  have := bs_loop (u := si u 27 (nI (L + 1))) (x1 := x1) (post := post) (K := K) hL (h0 c) (L + 1) 0 (by omega)
  rw [cpR_0, sw_same] at this
  exact ⟨_, this⟩
theorem bsS_R {L : Nat} {u : St} {row b : List Nat} {k : Nat} (hb : bsR u b) (hl : row.length = L) (hr : rowR (ga u 25) (row ++ [k])) : (L + 1 ≤ b.length → bsR u (rcd (row ++ [k]) b)) ∧ (¬ L + 1 ≤ b.length → bsR (bsS L u) (rcd (row ++ [k]) b)) := by
  have el : (row ++ [k]).length = L + 1 := by rw [List.length_append, List.length_singleton, hl]
  unfold rcd
  rw [el]
  refine ⟨fun c => ?_, fun c => ?_⟩
  · rw [if_neg (by omega)]
    exact hb
  · rw [if_pos (by omega)]
    refine ⟨?_, fun j v e => ?_⟩
    · rw [el]
      rfl
    · have hj : j < L + 1 := by
        have := (List.getElem?_eq_some_iff.mp e).1
        omega
      show cpR (ga u 25) (ga u 26) (L + 1) j = nI v
      unfold cpR
      rw [if_pos hj]
      exact hr j v e
/-- a level begins -/
def bgC (L : Nat) (u : St) : St := sw (sw u 25 (upd (ga u 25) L (-1))) 0 (kpF (2368 + 88 * L) 88 (ga u 0))
theorem m_b136 {L : Nat} {x1 : Int32} {u : St} {post : St → Prop} {K : Int32 → Int32 → St → Prop} (hL : L < 7) (fin : K x1 (nI (L + 1)) (bgC (L + 1) u)) : qX12_laysChain_b136 post K x1 (nI L) u := fun x ex => by
  rw [nI_1] at ex
  subst ex
  refine ⟨vp_in_nI (by omega) (by omega), fun u1 e1 => ?_⟩
  rw [nI_clamp (by omega)] at e1
  show qX12_keeps (2368 + 88 * nI (L + 1)) u1 _
  rw [i_lvl]
  refine m_keeps (by omega) (by omega) ?_
  subst e1
  exact fin
theorem bgC_Fr (L : Nat) (u : St) : FrC L u (bgC (L + 1) u) := by
  refine ⟨⟨rfl, rfl, rfl, rfl, rfl, rfl, rfl, rfl, rfl, rfl, rfl, rfl, rfl⟩, fun j h1 h2 => ?_, fun i hi => ?_⟩
  · show kpF (2368 + 88 * (L + 1)) 88 (ga u 0) j = ga u 0 j
    unfold kpF
    rw [if_neg (by omega)]
  · show upd (ga u 25) (L + 1) (-1) i = ga u 25 i
    rw [upd_at, if_neg (by omega)]
theorem bsS_Fr (L : Nat) (u : St) : FrC L u (bsS L u) := ⟨⟨rfl, rfl, rfl, rfl, rfl, rfl, rfl, rfl, rfl, rfl, rfl, rfl, rfl⟩, fun _ _ _ => rfl, fun _ _ => rfl⟩
