/-! STEPS 3: write, read -/
/-- what is wrong with a place of a tray -/
def plc (sz : Nat → Int32) (x1 x2 : Int32) : Int32 := if x1.toInt < 0 ∨ 3 < x1.toInt then 1 else if sz x1.toNatClampNeg = -1 then 2 else if x2.toInt < 0 ∨ (sz x1.toNatClampNeg).toInt ≤ x2.toInt then 3 else 0
theorem i_in4 {x : Int32} (a : 0 ≤ x.toInt) (b : x.toInt ≤ 3) : vp_in x 4 := vp_in_iff.mpr ⟨a, by omega⟩
theorem i_cl4 {x : Int32} (a : 0 ≤ x.toInt) (b : x.toInt ≤ 3) : x.toNatClampNeg < 4 := by
  obtain ⟨t, ht, rfl, -⟩ := i_nat (n := 3) a b
  rw [nI_clamp (by omega)]
  omega
theorem r_isMissing {x : Int32} {u : St} {post : Int32 → St → Prop} (a : 0 ≤ x.toInt) (b : x.toInt ≤ 3) (h1 : ga u 2 x.toNatClampNeg = -1 → post 1 u) (h0 : ga u 2 x.toNatClampNeg ≠ -1 → post 0 u) : qX9_isMissing x u post :=
  ⟨i_in4 a b, fun c => ⟨Or.inl rfl, h0 c⟩, fun c => ⟨Or.inr rfl, h1 c⟩⟩
/-- sizes are -1 or small -/
def szOk (sz : Nat → Int32) : Prop := ∀ t : Nat, t < 4 → sz t = -1 ∨ ∃ n : Nat, n ≤ 60 ∧ sz t = nI n
theorem TrayR.sz {so sz : Nat → Int32} {nu : Nat → Int64} {so1 sz1 : Nat → Int32} {nu1 : Nat → Int64} (h : TrayR so sz nu so1 sz1 nu1) : szOk sz := fun t ht => (h t ht).2.2.elim Or.inl (fun ⟨n, a, b, _⟩ => Or.inr ⟨n, a, b⟩)
theorem i_sub1 {n : Nat} (h : n ≤ 60) : (nI n - 1).toInt = (n : Int) - 1 := pk_sub_toInt (a := n) (b := 1) (by omega) (by omega)
theorem r_lookAt {x1 x2 : Int32} {u : St} {post : Int32 → St → Prop} (hs : szOk (ga u 2)) (h : post (plc (ga u 2) x1 x2) u) : qX9_lookAt x1 x2 u post := by
  unfold plc at h
  refine r_isTray (fun a b => ⟨fun _ => ?_, fun c => absurd c (by decide)⟩) (fun a => ⟨fun c => absurd rfl c, fun _ => ?_⟩)
  · rw [if_neg (by omega)] at h
    refine r_isMissing a b (fun e => ⟨fun c => absurd c (by decide), fun _ => ?_⟩) (fun e => ⟨fun _ => ⟨i_in4 a b, ?_⟩, fun c => absurd rfl c⟩)
    · rw [if_pos e] at h
      exact h
    · rw [if_neg e] at h
      obtain ⟨n, hn, en⟩ := (hs _ (i_cl4 a b)).resolve_left e
      rw [en, nI_toInt (by omega)] at h
      rw [en]
      refine r_within 0 (n - 1) rfl (i_sub1 hn) (fun c d => ⟨fun c => absurd c (by decide), fun _ => ?_⟩) (fun c => ⟨fun _ => ?_, fun c => absurd rfl c⟩)
      · rw [if_neg (by omega)] at h
        exact h
      · rw [if_pos (by omega)] at h
        exact h
  · rw [if_pos a] at h
    exact h
theorem m_wrongPlace {x1 x2 : Int32} {u : St} {post : Int32 → St → Prop} (h : post (plc (ga u 6) x1 x2) u) : qX12_wrongPlace x1 x2 u post := by
  unfold plc at h
  have e0 : (0 : Int32).toInt = 0 := rfl
  refine m_isTray (fun a b => ⟨fun _ => ?_, fun c => absurd c (by decide)⟩) (fun a => ⟨fun c => absurd rfl c, fun _ => ?_⟩)
  · rw [if_neg (by omega)] at h
    refine ⟨i_in4 a b, fun e => ?_, fun e => ?_⟩
    · rw [if_neg e] at h
      refine ⟨fun c => ?_, fun c => ⟨i_in4 a b, fun d => ?_, fun d => ?_⟩⟩
      · rw [i_lt] at c
        rw [if_pos (by omega)] at h
        exact h
      · rw [i_lt] at c d
        rw [if_neg (by omega)] at h
        exact h
      · rw [i_lt] at c d
        rw [if_pos (by omega)] at h
        exact h
    · rw [if_pos e] at h
      exact h
  · rw [if_pos a] at h
    exact h
def cutL (v : Int64) (s : Int32) : Int64 := if s = 0 then ((v.toInt32).toInt8.toInt32).toInt64 else if s = 1 then ((v.toInt32).toInt16.toInt32).toInt64 else if s = 2 then (v.toInt32).toInt64 else v
theorem r_cut {v : Int64} {s : Int32} {post : Int64 → Prop} (h : post (cutL v s)) : qX9_cut v s post := by
  unfold cutL at h
  refine ⟨fun e => ?_, fun e => ?_, fun e => ?_, fun a b c => ?_⟩
  · rw [if_pos e] at h; exact h
  · rw [if_neg (by rw [e]; decide), if_pos e] at h; exact h
  · rw [if_neg (by rw [e]; decide), if_neg (by rw [e]; decide), if_pos e] at h; exact h
  · rw [if_neg a, if_neg b, if_neg c] at h; exact h
theorem m_cut {v : Int64} {s : Int32} {post : Int64 → Prop} (h : post (cutL v s)) : qX12_cut v s post := by
  unfold cutL at h
  refine ⟨fun a => ⟨fun b => ⟨fun c => ?_, fun c => ?_⟩, fun b => ?_⟩, fun a => ?_⟩
  · rw [if_neg a, if_neg b, if_neg c] at h; exact h
  · rw [if_neg a, if_neg b, if_pos c] at h; exact h
  · rw [if_neg a, if_pos b] at h; exact h
  · rw [if_pos a] at h; exact h
theorem plc_0 {sz : Nat → Int32} {x1 x2 : Int32} (hs : szOk sz) (h : plc sz x1 x2 = 0) : ∃ t j n : Nat, t < 4 ∧ j < n ∧ n ≤ 60 ∧ x1 = nI t ∧ x2 = nI j ∧ sz t = nI n := by
  unfold plc at h
  by_cases c1 : x1.toInt < 0 ∨ 3 < x1.toInt
  · rw [if_pos c1] at h; exact absurd h (by decide)
  · rw [if_neg c1] at h
    obtain ⟨t, ht, rfl, -⟩ := i_nat (x := x1) (n := 3) (by omega) (by omega)
    rw [nI_clamp (by omega)] at h
    by_cases c2 : sz t = -1
    · rw [if_pos c2] at h; exact absurd h (by decide)
    · rw [if_neg c2] at h
      obtain ⟨n, hn, en⟩ := (hs t (by omega)).resolve_left c2
      rw [en, nI_toInt (by omega)] at h
      by_cases c3 : x2.toInt < 0 ∨ (n : Int) ≤ x2.toInt
      · rw [if_pos c3] at h; exact absurd h (by decide)
      · obtain ⟨j, hj, rfl, -⟩ := i_nat (x := x2) (n := 60) (by omega) (by omega)
        rw [nI_toInt (by omega)] at c3
        exact ⟨t, j, n, by omega, by omega, hn, rfl, rfl, en⟩
theorem plc_eq {so sz : Nat → Int32} {nu : Nat → Int64} {so1 sz1 : Nat → Int32} {nu1 : Nat → Int64} (h : TrayR so sz nu so1 sz1 nu1) (x1 x2 : Int32) : plc sz x1 x2 = plc sz1 x1 x2 := by
  unfold plc
  by_cases c1 : x1.toInt < 0 ∨ 3 < x1.toInt
  · rw [if_pos c1, if_pos c1]
  · rw [if_neg c1, if_neg c1, (h _ (i_cl4 (by omega) (by omega))).2.1]
theorem tr_put {so sz : Nat → Int32} {nu : Nat → Int64} {so1 sz1 : Nat → Int32} {nu1 : Nat → Int64} (h : TrayR so sz nu so1 sz1 nu1) (p : Nat) (v : Int64) : TrayR so sz (vp_updL nu p v) so1 sz1 (vp_updL nu1 p v) := by
  intro i hi
  obtain ⟨a, b, c⟩ := h i hi
  refine ⟨a, b, c.elim Or.inl (fun ⟨m, hm, q1, q2⟩ => Or.inr ⟨m, hm, q1, fun j hj => ?_⟩)⟩
  simp only [updL_at]
  split
  · rfl
  · exact q2 j hj
theorem sp_write : SP_write RR := fun x0 x1 x2 cs ms h => by
  have hT := h.2.2.2.2.1
  refine r_lookAt hT.sz ?_
  by_cases e : plc (ga (cs 2) 2) x0 x1 = 0
  · refine ⟨fun _ => ?_, fun c => absurd e c⟩
    have e1 : plc (ga ms 6) x0 x1 = 0 := by rw [← plc_eq hT]; exact e
    obtain ⟨t, j, n, ht, hj, hn, rfl, rfl, en⟩ := plc_0 hT.sz e
    have hc : (nI t).toNatClampNeg = t := nI_clamp (by omega)
    refine ⟨vp_in_nI ht (by omega), ?_⟩
    rw [i_mul60, hc]
    refine r_cut ⟨vp_in_nI (by omega) (by omega), fun u1 eu => r_grant ⟨Or.inr rfl, ?_⟩⟩
    rw [nI_clamp (by omega)] at eu
    refine m_wrongPlace ?_
    rw [e1]
    refine ⟨fun c => absurd rfl c, fun _ => ⟨vp_in_nI ht (by omega), ?_⟩⟩
    rw [i_60mul, hc]
    refine m_cut ⟨vp_in_nI (by omega) (by omega), fun u2 eu2 => m_is0 ⟨Or.inr rfl, rfl, ?_⟩⟩
    rw [nI_clamp (by omega)] at eu2
    subst eu; subst eu2
    rw [(hT t ht).1]
    exact rr_trayN h 0 (tr_put hT _ _)
  · refine ⟨fun c => absurd c e, fun _ => r_deny ⟨Or.inl rfl, m_wrongPlace ?_⟩⟩
    rw [← plc_eq hT]
    refine ⟨fun _ => m_is1 e ⟨Or.inl rfl, rfl, ?_⟩, fun c => absurd c e⟩
    rw [up_skip cs 0 2 _ (by decide)]
    exact rr_st h _
theorem plc_pos {sz : Nat → Int32} {x1 x2 : Int32} (h : plc sz x1 x2 ≠ 0) : ¬ plc sz x1 x2 ≤ 0 := by
  unfold plc at *
  split
  · decide
  · split
    · decide
    · split
      · decide
      · rename_i a b c
        rw [if_neg a, if_neg b, if_neg c] at h
        exact absurd rfl h
theorem sp_read : SP_read RR := fun x0 x1 cs ms h => by
  have hT := h.2.2.2.2.1
  refine r_lookAt hT.sz ?_
  by_cases e : plc (ga (cs 2) 2) x0 x1 = 0
  · refine ⟨fun _ u eu => ?_, fun c => absurd e c⟩
    have e1 : plc (ga ms 6) x0 x1 = 0 := by rw [← plc_eq hT]; exact e
    obtain ⟨t, j, n, ht, hj, hn, rfl, rfl, en⟩ := plc_0 hT.sz e
    unfold qX9_at
    rw [i_mul60]
    refine ⟨vp_in_nI (by omega) (by omega), m_wrongPlace ?_⟩
    rw [e1]
    intro u2 eu2
    subst eu; subst eu2
    refine ⟨fun _ => ?_, fun c => absurd (by rw [gi_si, if_pos rfl]; decide) c⟩
    rw [i_60mul]
    refine ⟨vp_in_nI (by omega) (by omega), ?_, ?_⟩
    · rw [nI_clamp (by omega), gl_si]
      obtain ⟨m, hm, q1, q2⟩ := (hT t ht).2.2.resolve_left (by rw [en]; intro q; have := congrArg Int32.toInt q; rw [nI_toInt (by omega)] at this; exact absurd this (by show ¬ ((n : Int) = -1); omega))
      have : m = n := (nI_eq (by omega) (by omega)).mp (q1.symm.trans en)
      exact q2 j (by omega)
    · rw [up_skip cs 0 2 _ (by decide)]
      exact rr_st h 0
  · refine ⟨fun c => absurd c e, fun _ => r_refuse (m_wrongPlace ?_)⟩
    rw [← plc_eq hT]
    intro u2 eu2
    subst eu2
    refine ⟨fun c => ?_, fun _ => ⟨rfl, ?_⟩⟩
    · rw [gi_si, if_pos rfl] at c
      exact absurd c (plc_pos e)
    · rw [up_skip cs 0 2 _ (by decide)]
      exact rr_st h _
