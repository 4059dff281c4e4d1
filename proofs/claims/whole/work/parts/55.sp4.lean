/-! STEPS 4: feed, pour -/
def byt (x s : Int32) : Int32 := vp_nar .byte ((x >>> (s &&& 31))).toInt8.toInt32
theorem byt_ok (x s : Int32) : (byt x s).toInt8.toInt32 = byt x s := by
  unfold byt
  rw [pk_vb, ← vp_nar_byte, pk_vb]
theorem pot_s {post : St → St → Prop} {k n : Nat} {x s : Int32} {u0 u1 : St} (hs : ¬ s < 0) (hn : n < 900) (hg : gi u0 4 = nI n) (h : qX11_putOnTape_L3 post k x (s + -8) (si u0 4 (nI (n + 1))) (sw u1 0 (upd (ga u1 0) n (byt x s)))) : qX11_putOnTape_L3 post (k + 1) x s u0 u1 := by
  refine ⟨fun c => absurd c hs, fun _ => ⟨fun c => ?_, fun _ => ⟨?_, fun v e1 w e2 y e3 => ?_⟩⟩⟩
  · rw [hg] at c
    exact absurd c (nI_ge (b := 900) (by omega) (by omega))
  · rw [hg]
    exact vp_in_nI hn (by omega)
  · rw [hg, nI_clamp (by omega)] at e1
    rw [hg, nI_1] at e2
    subst e1; subst e2; subst e3
    exact h
theorem four_s {post : St → Prop} {k n : Nat} {x s : Int32} {u : St} (hs : ¬ s < 0) (hn : n < 900) (hg : gi u 10 = nI n) (h : qX12_four_L3 post k x (s + -8) (si (sw u 8 (upd (ga u 8) n (byt x s))) 10 (nI (n + 1)))) : qX12_four_L3 post (k + 1) x s u := by
  refine ⟨fun c => absurd c hs, fun _ => ⟨?_, fun v e1 w e2 y e3 => ?_⟩⟩
  · rw [hg]
    exact vp_in_nI hn (by omega)
  · rw [hg, nI_clamp (by omega)] at e1
    subst e1
    rw [gi_sw, hg, nI_1] at e2
    subst e2; subst e3
    exact h
def put4 (f : Nat → Int32) (n : Nat) (x : Int32) : Nat → Int32 := upd (upd (upd (upd f n (byt x 24)) (n + 1) (byt x 16)) (n + 2) (byt x 8)) (n + 3) (byt x 0)
theorem si_si (u : St) (k : Nat) (v w : Int32) : si (si u k v) k w = si u k w := by
  unfold si
  simp only [bx_uu]
theorem sw_sw (u : St) (k : Nat) (f g : Nat → Int32) : sw (sw u k f) k g = sw u k g := by
  unfold sw
  simp only [bx_uu]
theorem sw_siP (u : St) (k j : Nat) (f : Nat → Int32) (v : Int32) : sw (si u j v) k f = si (sw u k f) j v := id rfl
theorem ga_siP (u : St) (k j : Nat) (v : Int32) : ga (si u k v) j = ga u j := id rfl
theorem ga_swP (u : St) (k : Nat) (f : Nat → Int32) : ga (sw u k f) k = f := id (if_pos rfl)
theorem r_pot {post : St → St → Prop} {n : Nat} {x : Int32} {u0 u1 : St} (hn : n + 4 ≤ 900) (hg : gi u0 4 = nI n) (h : post (si u0 4 (nI (n + 4))) (sw u1 0 (put4 (ga u1 0) n x))) : qX11_putOnTape x u0 u1 post := by
  refine ⟨5, pot_s (by decide) (n := n) (by omega) hg (pot_s (by decide) (n := n + 1) (by omega) (by rw [gi_si, if_pos rfl]) (pot_s (by decide) (n := n + 2) (by omega) (by rw [gi_si, if_pos rfl]) (pot_s (by decide) (n := n + 3) (by omega) (by rw [gi_si, if_pos rfl]) ⟨fun _ => ?_, fun c => absurd (by decide) c⟩)))⟩
  simp only [si_si, sw_sw, ga_swP]
  exact h
theorem m_four {post : St → Prop} {n : Nat} {x : Int32} {u : St} (hn : n + 4 ≤ 900) (hg : gi u 10 = nI n) (h : post (si (sw u 8 (put4 (ga u 8) n x)) 10 (nI (n + 4)))) : qX12_four x u post := by
  refine ⟨5, four_s (by decide) (n := n) (by omega) hg (four_s (by decide) (n := n + 1) (by omega) (by rw [gi_si, if_pos rfl]) (four_s (by decide) (n := n + 2) (by omega) (by rw [gi_si, if_pos rfl]) (four_s (by decide) (n := n + 3) (by omega) (by rw [gi_si, if_pos rfl]) ⟨fun _ => ?_, fun c => absurd (by decide) c⟩)))⟩
  simp only [sw_siP, ga_siP, si_si, sw_sw, ga_swP]
  exact h
def tapN (n : Nat) (t t1 : Nat → Int32) : Prop := ∀ j, j < n → t j = t1 j ∧ (t j).toInt8.toInt32 = t j
theorem tapN_1 {n : Nat} {t t1 : Nat → Int32} (h : tapN n t t1) (x s : Int32) : tapN (n + 1) (upd t n (byt x s)) (upd t1 n (byt x s)) := by
  intro j hj
  simp only [upd_at]
  by_cases e : j = n
  · rw [if_pos e, if_pos e]
    exact ⟨rfl, byt_ok x s⟩
  · rw [if_neg e, if_neg e]
    exact h j (by omega)
theorem tapN_4 {n : Nat} {t t1 : Nat → Int32} (h : tapN n t t1) (x : Int32) : tapN (n + 4) (put4 t n x) (put4 t1 n x) := tapN_1 (tapN_1 (tapN_1 (tapN_1 h x 24) x 16) x 8) x 0
theorem rr_tape {cs : Nat → St} {ms : St} (h : RR cs ms) {n : Nat} (hn : n ≤ 900) {f g : Nat → Int32} (ht : tapN n f g) : RR (va_up (va_up cs 0 (si (cs 0) 4 (nI n))) 1 (sw (cs 1) 0 f)) (si (sw ms 8 g) 10 (nI n)) := by
  obtain ⟨h1, h2, h3, h4, h5, h6, h7, h8⟩ := h
  exact ⟨h1, h2, ⟨rfl, n, hn, rfl, ht⟩, h4, h5, h6, h7, h8⟩
theorem sp_feed : SP_feed RR := fun x0 x1 x2 x3 x4 cs ms h => by
  obtain ⟨e, n, hn, en, ht⟩ := h.2.2.1
  have hle : (nI n + 20 ≤ 900) ↔ n + 20 ≤ 900 := by
    rw [show (20 : Int32) = nI 20 from rfl, nI_add, show (900 : Int32) = nI 900 from rfl]
    exact nI_leI (by omega) (by omega)
  unfold qX11_feed
  rw [en]
  by_cases c : n + 20 ≤ 900
  · refine ⟨fun _ => ?_, fun c2 => absurd (hle.mpr c) c2⟩
    refine r_pot (n := n) (by omega) en (r_pot (n := n + 4) (by omega) (by rw [gi_si, if_pos rfl]) (r_pot (n := n + 8) (by omega) (by rw [gi_si, if_pos rfl]) (r_pot (n := n + 12) (by omega) (by rw [gi_si, if_pos rfl]) (r_pot (n := n + 16) (by omega) (by rw [gi_si, if_pos rfl]) ?_))))
    unfold qX12_feed
    have em : gi ms 10 = nI n := e ▸ en
    rw [em]
    refine ⟨fun _ => ?_, fun c2 => absurd (hle.mpr c) c2⟩
    refine m_four (n := n) (by omega) em (m_four (n := n + 4) (by omega) (by rw [gi_si, if_pos rfl]) (m_four (n := n + 8) (by omega) (by rw [gi_si, if_pos rfl]) (m_four (n := n + 12) (by omega) (by rw [gi_si, if_pos rfl]) (m_four (n := n + 16) (by omega) (by rw [gi_si, if_pos rfl]) ?_))))
    simp only [sw_siP, ga_siP, si_si, sw_sw, ga_swP]
    refine ⟨rfl, ?_⟩
    exact rr_tape h c (tapN_4 (tapN_4 (tapN_4 (tapN_4 (tapN_4 ht x0) x1) x2) x3) x4)
  · refine ⟨fun c2 => absurd (hle.mp c2) c, fun _ => ?_⟩
    unfold qX12_feed
    rw [← e, en]
    refine ⟨fun c2 => absurd (hle.mp c2) c, fun _ => ⟨rfl, ?_⟩⟩
    rw [up_same, up_same]
    exact h
-- pour
theorem cpy_f {f : Nat → Int64} {sp dp i : Nat} (h : ¬ (dp ≤ sp + i ∧ sp + i < dp + i)) : vp_updL (va_cpy f f sp dp i) (dp + i) (va_cpy f f sp dp i (sp + i)) = va_cpy f f sp dp (i + 1) := by
  funext j
  simp only [updL_at]
  unfold va_cpy
  rw [if_neg (c := dp ≤ sp + i ∧ sp + i < dp + i) h]
  by_cases e : j = dp + i
  · rw [if_pos e, if_pos (by omega)]
    congr 1
    omega
  · rw [if_neg e]
    by_cases c : dp ≤ j ∧ j < dp + i
    · rw [if_pos c, if_pos (by omega)]
    · rw [if_neg c, if_neg (by omega)]
def cpyB (f : Nat → Int64) (sp dp n i : Nat) : Nat → Int64 := fun j => if dp + (n - i) ≤ j ∧ j < dp + n then f (sp + (j - dp)) else f j
theorem cpy_b {f : Nat → Int64} {sp dp n i : Nat} (hi : i < n) (h : ¬ (dp + (n - i) ≤ sp + (n - 1 - i) ∧ sp + (n - 1 - i) < dp + n)) : vp_updL (cpyB f sp dp n i) (dp + (n - 1 - i)) (cpyB f sp dp n i (sp + (n - 1 - i))) = cpyB f sp dp n (i + 1) := by
  funext j
  simp only [updL_at]
  unfold cpyB
  rw [if_neg h]
  by_cases e : j = dp + (n - 1 - i)
  · rw [if_pos e, if_pos (by omega)]
    congr 1
    omega
  · rw [if_neg e]
    by_cases c : dp + (n - i) ≤ j ∧ j < dp + n
    · rw [if_pos c, if_pos (by omega)]
    · rw [if_neg c, if_neg (by omega)]
theorem cpyB_0 (f : Nat → Int64) (sp dp n : Nat) : cpyB f sp dp n 0 = f := by
  funext j
  unfold cpyB
  rw [if_neg (by omega)]
theorem cpyB_n (f : Nat → Int64) (sp dp n : Nat) : cpyB f sp dp n n = va_cpy f f sp dp n := by
  funext j
  unfold cpyB va_cpy
  rw [Nat.sub_self, Nat.add_zero]
theorem cpy_0 (f : Nat → Int64) (sp dp : Nat) : va_cpy f f sp dp 0 = f := by
  funext j
  unfold va_cpy
  rw [if_neg (by omega)]
theorem i_60a {t p j : Nat} : 60 * nI t + nI p + nI j = nI (60 * t + p + j) := by
  rw [i_60mul, nI_add]
theorem pour_f {post : Int32 → St → Prop} {a p b q n : Nat} {u : St} (hab : a < 4 ∧ b < 4) (hp : p + n ≤ 60) (hq : q + n ≤ 60) (hle : q ≤ p) (h : qX12_pour_b180 post (sx u 7 (va_cpy (gl u 7) (gl u 7) (60 * a + p) (60 * b + q) n))) : ∀ (m i : Nat), i + m = n → qX12_pour_L118 post (m + 1) (nI a) (nI p) (nI b) (nI q) (nI n) (nI i) (sx u 7 (va_cpy (gl u 7) (gl u 7) (60 * a + p) (60 * b + q) i)) := by
  intro m
  induction m with
  | zero =>
    intro i hi
    refine ⟨fun _ => ?_, fun c => absurd (nI_le (by omega) (by omega)) c⟩
    rw [show i = n by omega]
    exact h
  | succ m ih =>
    intro i hi
    refine ⟨fun c => absurd c (nI_ge (by omega) (by omega)), fun _ => ⟨fun _ => ?_, fun c => absurd (nI_le hle (by omega)) c⟩⟩
    unfold qX12_pour_b143
    rw [i_60a, i_60a, nI_clamp (by omega), nI_clamp (by omega)]
    refine ⟨vp_in_nI (by omega) (by omega), vp_in_nI (by omega) (by omega), fun v e x ex => ?_⟩
    subst e; subst ex
    rw [nI_1, sx_sx, gl_sx, if_pos rfl, cpy_f (by omega)]
    exact ih (i + 1) (by omega)
theorem pour_b {post : Int32 → St → Prop} {a p b q n : Nat} {u : St} (hab : a < 4 ∧ b < 4) (hp : p + n ≤ 60) (hq : q + n ≤ 60) (hle : p < q) (h : qX12_pour_b180 post (sx u 7 (va_cpy (gl u 7) (gl u 7) (60 * a + p) (60 * b + q) n))) : ∀ (m i : Nat), i + m = n → qX12_pour_L118 post (m + 1) (nI a) (nI p) (nI b) (nI q) (nI n) (nI i) (sx u 7 (cpyB (gl u 7) (60 * a + p) (60 * b + q) n i)) := by
  intro m
  induction m with
  | zero =>
    intro i hi
    refine ⟨fun _ => ?_, fun c => absurd (nI_le (by omega) (by omega)) c⟩
    rw [show i = n by omega, cpyB_n]
    exact h
  | succ m ih =>
    intro i hi
    refine ⟨fun c => absurd c (nI_ge (by omega) (by omega)), fun _ => ⟨fun c => absurd c (nI_ge hle (by omega)), fun _ => ?_⟩⟩
    unfold qX12_pour_b143
    rw [show nI n - 1 - nI i = nI (n - 1 - i) by rw [show (1 : Int32) = nI 1 from rfl, pk_sub (by omega), pk_sub (by omega)]]
    rw [i_60a, i_60a, nI_clamp (by omega), nI_clamp (by omega)]
    refine ⟨vp_in_nI (by omega) (by omega), vp_in_nI (by omega) (by omega), fun v e x ex => ?_⟩
    subst e; subst ex
    rw [nI_1, sx_sx, gl_sx, if_pos rfl, cpy_b (by omega) (by omega)]
    exact ih (i + 1) (by omega)
