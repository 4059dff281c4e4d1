/-! STEPS 2: trays -/
theorem rr_tray {cs : Nat → St} {ms : St} (h : RR cs ms) (v : Int32) {t : St} {f g : Nat → Int32} {l : Nat → Int64} (ht : TrayR (ga t 1) (ga t 2) (gl t 0) f g l) : RR (va_up (va_up cs 0 (si (cs 0) 0 v)) 2 t) (si (sx (sw (sw ms 5 f) 6 g) 7 l) 2 v) := by
  obtain ⟨h1, h2, h3, h4, h5, h6, h7, h8⟩ := h
  exact ⟨rfl, h2, h3, h4, ht, h6, h7, h8⟩
theorem rr_trayN {cs : Nat → St} {ms : St} (h : RR cs ms) (v : Int32) {t : St} {l : Nat → Int64} (ht : TrayR (ga t 1) (ga t 2) (gl t 0) (ga ms 5) (ga ms 6) l) : RR (va_up (va_up cs 0 (si (cs 0) 0 v)) 2 t) (si (sx ms 7 l) 2 v) := by
  obtain ⟨h1, h2, h3, h4, h5, h6, h7, h8⟩ := h
  exact ⟨rfl, h2, h3, h4, ht, h6, h7, h8⟩
/-- so many longs from a place on are 0 -/
def zer (f : Nat → Int64) (b n : Nat) : Nat → Int64 := fun j => if b ≤ j ∧ j < b + n then 0 else f j
theorem zer_s (f : Nat → Int64) (b n : Nat) : vp_updL (zer f b n) (b + n) 0 = zer f b (n + 1) := by
  funext j
  unfold vp_updL zer
  by_cases h : j = b + n
  · rw [if_pos h, if_pos (by omega)]
  · rw [if_neg h]
    by_cases h2 : b ≤ j ∧ j < b + n
    · rw [if_pos h2, if_pos (by omega)]
    · rw [if_neg h2, if_neg (by omega)]
theorem zer_0 (f : Nat → Int64) (b : Nat) : zer f b 0 = f := by
  funext j
  unfold zer
  rw [if_neg (by omega)]
theorem sx_sx (u : St) (k : Nat) (f g : Nat → Int64) : sx (sx u k f) k g = sx u k g := by
  unfold sx
  simp only [bx_uu]
theorem sx_same (u : St) (k : Nat) : sx u k (gl u k) = u := by
  unfold sx gl
  rw [up_same]
theorem sw_same (u : St) (k : Nat) : sw u k (ga u k) = u := by
  unfold sw ga
  rw [up_same]
theorem si_same (u : St) (k : Nat) : si u k (gi u k) = u := by
  unfold si gi
  rw [up_same]
theorem i_mul60 {t j : Nat} : nI t * 60 + nI j = nI (60 * t + j) := by
  rw [show (60 : Int32) = nI 60 from rfl, pk_mul, nI_add, Nat.mul_comm]
theorem i_60mul {t j : Nat} : 60 * nI t + nI j = nI (60 * t + j) := by
  rw [show (60 : Int32) = nI 60 from rfl, pk_mul, nI_add]
theorem lay_loop {post : St → Prop} {t n : Nat} (ht : t < 4) (hn : n ≤ 60) {u : St} : ∀ (m j : Nat), j + m = n → post (sx u 0 (zer (gl u 0) (60 * t) n)) → qX9_lay_L17 post (m + 1) (nI t) (nI n) (nI j) (sx u 0 (zer (gl u 0) (60 * t) j)) := by
  intro m
  induction m with
  | zero =>
    intro j hj hp
    refine ⟨fun _ => ?_, fun c => absurd (nI_le (by omega) (by omega)) c⟩
    rw [show j = n by omega]
    exact hp
  | succ m ih =>
    intro j hj hp
    refine ⟨fun c => absurd c (nI_ge (by omega) (by omega)), fun c => ?_⟩
    rw [i_mul60]
    refine ⟨vp_in_nI (by omega) (by omega), fun u1 e1 x e => ?_⟩
    rw [nI_clamp (by omega)] at e1
    subst e1; subst e
    rw [nI_1, sx_sx, gl_sx, if_pos rfl, zer_s]
    exact ih (j + 1) (by omega) hp
theorem r_lay {post : St → Prop} {t n : Nat} {x2 : Int32} {u : St} (ht : t < 4) (hn : n ≤ 60) (h : post (sx (sw (sw u 1 (upd (ga u 1) t x2)) 2 (upd (ga u 2) t (nI n))) 0 (zer (gl u 0) (60 * t) n))) : qX9_lay (nI t) x2 (nI n) u post := by
  have hc : (nI t).toNatClampNeg = t := nI_clamp (by omega)
  refine ⟨vp_in_nI ht (by omega), fun u1 e1 => ⟨vp_in_nI ht (by omega), fun u2 e2 => ⟨n + 1, ?_⟩⟩⟩
  rw [hc] at e1 e2
  subst e1; subst e2
  have := lay_loop (post := post) (u := sw (sw u 1 (upd (ga u 1) t x2)) 2 (upd (ga u 2) t (nI n))) ht hn n 0 (by omega) h
  rw [zer_0, sx_same] at this
  exact this
theorem traym_loop {post : Int32 → St → Prop} {t n : Nat} (ht : t < 4) (hn : n ≤ 60) {u : St} : ∀ (m j : Nat), j + m = n → qX12_tray_b74 post (sx u 7 (zer (gl u 7) (60 * t) n)) → qX12_tray_L49 post (m + 1) (nI t) (nI n) (nI j) (sx u 7 (zer (gl u 7) (60 * t) j)) := by
  intro m
  induction m with
  | zero =>
    intro j hj hp
    refine ⟨fun _ => ?_, fun c => absurd (nI_le (by omega) (by omega)) c⟩
    rw [show j = n by omega]
    exact hp
  | succ m ih =>
    intro j hj hp
    refine ⟨fun c => absurd c (nI_ge (by omega) (by omega)), fun c => ?_⟩
    rw [i_60mul]
    refine ⟨vp_in_nI (by omega) (by omega), fun u1 e1 x e => ?_⟩
    rw [nI_clamp (by omega)] at e1
    subst e1; subst e
    rw [nI_1, sx_sx, gl_sx, if_pos rfl, zer_s]
    exact ih (j + 1) (by omega) hp
theorem m_tray_bad {x0 x1 x2 : Int32} {ms : St} {post : Int32 → St → Prop} (hv : ¬ ((0 ≤ x0.toInt ∧ x0.toInt ≤ 3) ∧ (0 ≤ x1.toInt ∧ x1.toInt ≤ 3) ∧ (0 ≤ x2.toInt ∧ x2.toInt ≤ 60))) (h : post 0 (si ms 2 1)) : qX12_tray x0 x1 x2 ms post := by
  have hb : qX12_tray_b26 post ms := m_is1 (by decide) ⟨Or.inl rfl, h⟩
  refine m_isTray (fun a b => ⟨fun c => absurd c (by decide), fun _ => ⟨fun _ => hb, fun c1 => ⟨fun _ => hb, fun c2 => ⟨fun _ => hb, fun c3 => ⟨fun c4 => ?_, fun _ => hb⟩⟩⟩⟩⟩) (fun a => ⟨fun _ => hb, fun c => absurd rfl c⟩)
  rw [i_lt] at c1 c2 c3
  rw [i_le] at c4
  have e0 : (0 : Int32).toInt = 0 := rfl
  have e3 : (3 : Int32).toInt = 3 := rfl
  have e60 : (60 : Int32).toInt = 60 := rfl
  exact absurd ⟨⟨a, b⟩, ⟨by omega, by omega⟩, by omega, by omega⟩ hv
theorem m_tray_good {t n : Nat} {x1 : Int32} {ms : St} {post : Int32 → St → Prop} (ht : t < 4) (hn : n ≤ 60) (h1 : 0 ≤ x1.toInt) (h3 : x1.toInt ≤ 3) (h : post 1 (si (sx (sw (sw ms 5 (upd (ga ms 5) t x1)) 6 (upd (ga ms 6) t (nI n))) 7 (zer (gl ms 7) (60 * t) n)) 2 0)) : qX12_tray (nI t) x1 (nI n) ms post := by
  have hc : (nI t).toNatClampNeg = t := nI_clamp (by omega)
  have et : (nI t).toInt = t := nI_toInt (by omega)
  have en : (nI n).toInt = n := nI_toInt (by omega)
  have e0 : (0 : Int32).toInt = 0 := rfl
  have e3 : (3 : Int32).toInt = 3 := rfl
  have e60 : (60 : Int32).toInt = 60 := rfl
  refine m_isTray (fun a b => ⟨fun c => absurd c (by decide), fun _ => ⟨fun c => ?_, fun _ => ⟨fun c => ?_, fun _ => ⟨fun c => ?_, fun _ => ⟨fun c => ?_, fun c => ?_⟩⟩⟩⟩⟩) (fun a => ?_)
  · rw [i_lt] at c; omega
  · rw [i_lt] at c; omega
  · rw [i_lt] at c; omega
  · refine ⟨vp_in_nI ht (by omega), fun u1 e1 => ⟨vp_in_nI ht (by omega), fun u2 e2 => ⟨n + 1, ?_⟩⟩⟩
    rw [hc] at e1 e2
    subst e1; subst e2
    have := traym_loop (post := post) (u := sw (sw ms 5 (upd (ga ms 5) t x1)) 6 (upd (ga ms 6) t (nI n))) ht hn n 0 (by omega) (m_is0 ⟨Or.inr rfl, h⟩)
    rw [zer_0, sx_same] at this
    exact this
  · rw [i_le] at c; omega
  · omega
theorem tr_lay {so sz : Nat → Int32} {nu : Nat → Int64} {so1 sz1 : Nat → Int32} {nu1 : Nat → Int64} (h : TrayR so sz nu so1 sz1 nu1) {t n : Nat} {x : Int32} (ht : t < 4) (hn : n ≤ 60) : TrayR (upd so t x) (upd sz t (nI n)) (zer nu (60 * t) n) (upd so1 t x) (upd sz1 t (nI n)) (zer nu1 (60 * t) n) := by
  intro i hi
  by_cases e : i = t
  · subst e
    simp only [upd_at, if_pos]
    refine ⟨trivial, trivial, Or.inr ⟨n, hn, rfl, fun j hj => ?_⟩⟩
    unfold zer
    rw [if_pos (by omega), if_pos (by omega)]
  · simp only [upd_at, if_neg e]
    obtain ⟨a, b, c⟩ := h i hi
    refine ⟨a, b, c.elim Or.inl (fun ⟨m, hm, q1, q2⟩ => Or.inr ⟨m, hm, q1, fun j hj => ?_⟩)⟩
    unfold zer
    rw [if_neg (by omega), if_neg (by omega)]
    exact q2 j hj
theorem sp_tray : SP_tray RR := fun x0 x1 x2 cs ms h => by
  by_cases hv : (0 ≤ x0.toInt ∧ x0.toInt ≤ 3) ∧ (0 ≤ x1.toInt ∧ x1.toInt ≤ 3) ∧ (0 ≤ x2.toInt ∧ x2.toInt ≤ 60)
  · obtain ⟨⟨a0, b0⟩, ⟨a1, b1⟩, a2, b2⟩ := hv
    obtain ⟨t, ht, rfl, -⟩ := i_nat (n := 3) a0 b0
    obtain ⟨n, hn, rfl, -⟩ := i_nat (n := 60) a2 b2
    refine r_isTray (fun _ _ => ⟨fun c => absurd c (by decide), fun _ => r_within 0 3 rfl rfl (fun _ _ => ⟨fun c => absurd c (by decide), fun _ => r_within 0 60 rfl rfl (fun _ _ => ⟨fun _ => ?_, fun c => absurd c (by decide)⟩) (fun c => by omega)⟩) (fun c => by omega)⟩) (fun c => by omega)
    refine r_lay (by omega) hn (r_grant ⟨Or.inr rfl, m_tray_good (by omega) hn a1 b1 ⟨rfl, ?_⟩⟩)
    exact rr_tray h 0 (tr_lay h.2.2.2.2.1 (by omega) hn)
  · have hb : qX11_tray_b30 (fun r u0 u2 => qX12_tray x0 x1 x2 ms (fun r1 ms1 => r = r1 ∧ RR (va_up (va_up cs 0 u0) 2 u2) ms1)) (cs 0) (cs 2) := by
      refine r_deny ⟨Or.inl rfl, m_tray_bad hv ⟨rfl, ?_⟩⟩
      rw [up_skip cs 0 2 _ (by decide)]
      exact rr_st h 1
    refine r_isTray (fun _ _ => ⟨fun _ => hb, fun _ => r_within 0 3 rfl rfl (fun _ _ => ⟨fun _ => hb, fun _ => r_within 0 60 rfl rfl (fun _ _ => ⟨fun _ => ?_, fun _ => hb⟩) (fun _ => ⟨fun c => absurd rfl c, fun _ => hb⟩)⟩) (fun _ => ⟨fun _ => hb, fun c => absurd rfl c⟩)⟩) (fun _ => ⟨fun _ => hb, fun c => absurd rfl c⟩)
    exact absurd ⟨⟨by assumption, by assumption⟩, ⟨by assumption, by assumption⟩, by assumption, by assumption⟩ hv
