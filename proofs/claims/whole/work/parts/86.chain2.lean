/-! STEPS 21: chains, the class's way -/
theorem pc_or1 {S d : Nat} (hd : d < 20) (h : S.testBit d = false) : pc (S ||| 2 ^ d) = pc S + 1 := by
  have e : (S ||| 2 ^ d) ^^^ S = 2 ^ d := by
    apply Nat.eq_of_testBit_eq
    intro i
    rw [Nat.testBit_xor, tb_or1, Nat.testBit_two_pow]
    by_cases c : i = d
    · subst c
      rw [h, decide_eq_true rfl]
      rfl
    · rw [decide_eq_false c, decide_eq_false (fun q => c q.symm), Bool.or_false, Bool.xor_self]
  have := pcF_xor 20 S (S ||| 2 ^ d) (fun s q => by rw [tb_or1, q, Bool.true_or])
  rw [e] at this
  have p1 := pcF_pow 20 d 0 (Nat.two_pow_pos d) hd
  rw [pcF_0, Nat.zero_add] at p1
  rw [p1] at this
  show pcF 20 (S ||| 2 ^ d) = pcF 20 S + 1
  omega
def subS (a b : Nat) : Prop := ∀ s, a.testBit s = true → b.testBit s = true
theorem pc_mono {a b : Nat} (h : subS a b) : pc a ≤ pc b := by
  have := pcF_xor 20 a b h
  show pcF 20 a ≤ pcF 20 b
  omega
theorem opn_bit (M : MH) (s : Nat) : (opn M).testBit s = (decide (s < M 2 0) && ! (M 6 0).testBit s) := by
  unfold opn
  rw [tb_andn, tb_pred]
theorem okC_p {M : MH} {f : Bool} {S d : Nat} (h : okC M f S d = true) : pyb M S d ∧ (f = true → fwo M (S ||| 2 ^ d) = 0) := by
  unfold okC at h
  rw [Bool.and_eq_true] at h
  have p1 := of_decide_eq_true h.1
  refine ⟨p1, fun q => ?_⟩
  rw [q] at h
  exact of_decide_eq_true h.2
theorem okC_t {M : MH} {f : Bool} {S d : Nat} (h1 : pyb M S d) (h2 : f = true → fwo M (S ||| 2 ^ d) = 0) : okC M f S d = true := by
  unfold okC
  rw [Bool.and_eq_true]
  refine ⟨decide_eq_true h1, ?_⟩
  cases f with
  | false => rfl
  | true => exact decide_eq_true (h2 rfl)
theorem sub_or {M : MH} {S d : Nat} (hd : d < M 2 0) (hs : subS S (opn M)) (hp : (M 6 0).testBit d = false) : subS (S ||| 2 ^ d) (opn M) := fun s q => by
  rw [tb_or1, Bool.or_eq_true] at q
  rcases q with q | q
  · exact hs s q
  · have := of_decide_eq_true q
    subst this
    rw [opn_bit, decide_eq_true hd, hp]
    rfl
theorem hgt_le {M : MH} (ok : okH M) {f : Bool} : ∀ n S, subS S (opn M) → pc S + hgt M f n S ≤ pc (opn M) := by
  have h7 := ok_nd ok
  intro n
  induction n with
  | zero => intro S h; rw [hgt, Nat.add_zero]; exact pc_mono h
  | succ n ih =>
    intro S h
    have h0 := pc_mono h
    rw [hgt]
    have := mxV_lt (g := fun d => if okC M f S d then 1 + hgt M f n (S ||| 2 ^ d) else 0) (p := 0) (x := pc (opn M) - pc S) (Nat.zero_le _) (M 2 0) (fun i hi => by
      by_cases c : okC M f S i = true
      · have c' := (okC_p c).1
        have h1 := ih (S ||| 2 ^ i) (sub_or hi h c'.1)
        have h2 := pc_or1 (S := S) (d := i) (by omega) c'.2.1
        rw [if_pos c]
        omega
      · rw [if_neg c]
        exact Nat.zero_le _)
    omega
theorem pcall : ∀ n, n ≤ 7 → pc (2 ^ n - 1) = n := by decide +kernel
theorem opn_pc {M : MH} (ok : okH M) : pc (opn M) + pc (M 6 0) = M 2 0 := by
  have h6 := ok.2.2.2.2.2.2.1
  have sb : ∀ s, (M 6 0).testBit s = true → (2 ^ M 2 0 - 1).testBit s = true := fun s q => by
    rw [tb_pred]
    apply decide_eq_true
    apply Classical.byContradiction
    intro c
    rw [Nat.testBit_lt_two_pow (Nat.lt_of_lt_of_le h6 (Nat.pow_le_pow_right (by decide) (by omega)))] at q
    exact absurd q (by decide)
  have := pcF_xor 20 (M 6 0) (2 ^ M 2 0 - 1) sb
  have e : (2 ^ M 2 0 - 1) ^^^ M 6 0 = opn M := by
    apply Nat.eq_of_testBit_eq
    intro s
    rw [Nat.testBit_xor, opn_bit, tb_pred]
    have := sb s
    rw [tb_pred] at this
    cases a : (M 6 0).testBit s with
    | true => rw [this a]; rfl
    | false => rw [Bool.xor_false, Bool.not_false, Bool.and_true]
  rw [e] at this
  have h := pcall (M 2 0) (ok_nd ok)
  show pcF 20 (opn M) + pcF 20 (M 6 0) = M 2 0
  rw [this]
  exact h
theorem goal_le {M : MH} (ok : okH M) : pc (opn M) ≤ 7 := by
  have := opn_pc ok
  have := ok_nd ok
  omega
/-- a row of the machine's holds a list -/
def rowR (g : Nat → Int32) (l : List Nat) : Prop := ∀ k v, l[k]? = some v → g k = nI v
theorem rowR_app {g : Nat → Int32} {l : List Nat} {v : Nat} (h : rowR g l) : rowR (upd g l.length (nI v)) (l ++ [v]) := fun k w e => by
  rw [List.getElem?_append] at e
  rw [upd_at]
  by_cases c : k < l.length
  · rw [if_pos c] at e
    rw [if_neg (by omega)]
    exact h k w e
  · rw [if_neg c] at e
    by_cases c2 : k = l.length
    · subst c2
      rw [Nat.sub_self] at e
      injection e with e
      rw [if_pos rfl, e]
    · rw [List.getElem?_eq_none (by rw [List.length_singleton]; omega)] at e
      exact absurd e (by simp)
theorem rowR_init {g : Nat → Int32} {l : List Nat} {v : Nat} (h : rowR g (l ++ [v])) : rowR g l := fun k w e => h k w (by
  rw [List.getElem?_append, if_pos (List.getElem?_eq_some_iff.mp e).1]
  exact e)
/-- the class's search at hand -/
def chS (u : St) (M H : MH) (f : Bool) (row b : List Nat) (sn : Nat → Bool) : Prop := gi u 5 = bI f ∧ gi u 6 = nI (pc (opn M)) ∧ gi u 1 = nI b.length ∧ rowR (ga u 0) b ∧ rowR (ga u 2) row ∧ (∀ p, p < M 1 0 → ga u 3 p = nI (H 12 p)) ∧ ∀ s, s < 128 → ga u 4 s = bI (sn s)
def invC (M : MH) (f : Bool) (L : Nat) (b : List Nat) (sn : Nat → Bool) : Prop := ∀ s, s < 2 ^ M 2 0 → sn s = true → L ≤ pc s → (f = true → fwo M s = 0) → pc s + hgt M f (8 - pc s) s ≤ b.length
theorem invC_b {M : MH} {f : Bool} {L : Nat} {b b' : List Nat} {sn : Nat → Bool} (h : b.length ≤ b'.length) (q : invC M f L b sn) : invC M f L b' sn := fun s h1 h2 h3 h4 => Nat.le_trans (q s h1 h2 h3 h4) h
def snU (sn : Nat → Bool) (S : Nat) : Nat → Bool := fun s => if s = S then true else sn s
theorem snU_S (sn : Nat → Bool) (S : Nat) : snU sn S S = true := if_pos rfl
theorem snU_ne {sn : Nat → Bool} {S s : Nat} (h : s ≠ S) : snU sn S s = sn s := if_neg h
/-- what a set brings -/
def resC (M : MH) (f : Bool) (n S : Nat) (row b : List Nat) : List Nat := if (f = true → fwo M S = 0) then flC M f n S row (rcd row b) else b
def rEx (M : MH) (f : Bool) (uh : St) (n : Nat) : Prop := ∀ (S : Nat) (row : List Nat) (H : MH) (b : List Nat) (sn : Nat → Bool) (u0 u1 : St) (post : St → St → Prop), row.length + n = 8 → relC M S H → pc S = row.length → subS S (opn M) → chS u0 M H f row b sn → S11 uh u1 → b.length ≤ 7 → invC M f row.length b sn →
  (∀ u0' u1' sn', chS u0' M H f row (resC M f n S row b) sn' → S11 uh u1' → (resC M f n S row b).length ≤ 7 → invC M f row.length (resC M f n S row b) sn' → (∀ s, s < 2 ^ M 2 0 → sn' s = true → sn s = true ∨ row.length ≤ pc s) → post u0' u1') → qX0_extend n (nI row.length) (nI S) u0 u1 post
def nxC (M : MH) (f : Bool) (n S : Nat) (row : List Nat) (i : Nat) (b : List Nat) : List Nat := if okC M f S i then flC M f n (S ||| 2 ^ i) (row ++ [i]) (rcd (row ++ [i]) b) else b
theorem nx_skip {M : MH} {f : Bool} {n S i : Nat} {row b : List Nat} (h : ¬ pyb M S i) : nxC M f n S row i b = b := if_neg (fun q => h (okC_p q).1)
theorem nx_take {M : MH} {f : Bool} {n S i : Nat} {row b : List Nat} (h : pyb M S i) : nxC M f n S row i b = resC M f n (S ||| 2 ^ i) (row ++ [i]) b := by
  unfold nxC resC
  by_cases c : f = true → fwo M (S ||| 2 ^ i) = 0
  · rw [if_pos (okC_t h c), if_pos c]
  · rw [if_neg (fun q => c (okC_p q).2), if_neg c]
theorem nx_stop {M : MH} (ok : okH M) {f : Bool} {n S i : Nat} {row b : List Nat} (hi : i < M 2 0) (hs : subS S (opn M)) (hp : pc S = row.length) (hb : pc (opn M) ≤ b.length) : nxC M f n S row i b = b := by
  have h7 := ok_nd ok
  unfold nxC
  by_cases c : okC M f S i = true
  · have c' := (okC_p c).1
    have h1 := hgt_le ok (f := f) n (S ||| 2 ^ i) (sub_or hi hs c'.1)
    have h2 := pc_or1 (S := S) (d := i) (by omega) c'.2.1
    rw [if_pos c]
    have e : rcd (row ++ [i]) b = b := by
      unfold rcd
      rw [List.length_append, List.length_singleton, if_neg (by omega)]
    rw [e]
    refine fl_id _ _ _ _ ?_
    rw [List.length_append, List.length_singleton]
    omega
  · rw [if_neg c]
theorem nx_ge {M : MH} {f : Bool} {n S i : Nat} {row b : List Nat} : b.length ≤ (nxC M f n S row i b).length := by
  unfold nxC
  split
  · exact Nat.le_trans (rcd_ge _ b).1 (fl_ge _ _ _ _)
  · exact Nat.le_refl _
theorem i_sub_add {a b : Nat} (h : b ≤ a) : nI (a - b) + nI b = nI a := by rw [nI_add, Nat.sub_add_cancel h]
theorem ex_loop {M H : MH} {f : Bool} {uh : St} {n S : Nat} {row : List Nat} {post : St → St → Prop} (ok : okH M) (hch : CH uh M) (hQ : rEx M f uh n) (hr : row.length + (n + 1) = 8) (hr7 : row.length < 7) (hrel : relC M S H) (hpc : pc S = row.length) (hsub : subS S (opn M)) : ∀ (m i : Nat) (b : List Nat) (sn : Nat → Bool) (u0 u1 : St), i + m = M 2 0 → chS u0 M H f row b sn → S11 uh u1 → b.length ≤ 7 → invC M f (row.length + 1) b sn → (∀ u0' u1' sn', chS u0' M H f row (flL (nxC M f n S row) m i b) sn' → S11 uh u1' → (flL (nxC M f n S row) m i b).length ≤ 7 → invC M f (row.length + 1) (flL (nxC M f n S row) m i b) sn' → (∀ s, s < 2 ^ M 2 0 → sn' s = true → sn s = true ∨ row.length + 1 ≤ pc s) → post u0' u1') → qX0_extend_L70 (qX0_extendBy_body (qX0_extend n)) post (m + 1) (nI row.length) (nI S) (nI i) u0 u1 := by
  have h7 := ok_nd ok
  have h5 := ok_np ok
  have hg7 := goal_le ok
  have hS7 : S < 2 ^ 7 := pw_lt hrel.2.2.2.1 h7
  have eH2 : H 2 0 = M 2 0 := rel_k hrel (by decide) (by decide)
  have eH1 : H 1 0 = M 1 0 := rel_k hrel (by decide) (by decide)
  intro m
  induction m with
  | zero =>
    intro i b sn u0 u1 hi hs h11 hb hinv fin
    have e2 : gi u1 2 = nI (M 2 0) := ch_k (h11.ch hch) (by omega)
    have ei : i = M 2 0 := by omega
    subst ei
    exact ⟨fun _ => fin u0 u1 sn hs h11 hb hinv (fun s _ q => Or.inl q), fun c => absurd (by rw [e2]; exact nI_le (by omega) (by omega)) c⟩
  | succ m ih =>
    intro i b sn u0 u1 hi hs h11 hb hinv fin
    have hc := h11.ch hch
    have hd : i < M 2 0 := by omega
    have od := ok_d ok hd
    have ow := owd_le ok hd
    have e2 : gi u1 2 = nI (M 2 0) := ch_k hc (by omega)
    have e6 : gi u1 6 = nI (M 6 0) := ch_k hc (by omega)
    have ec : (nI i).toNatClampNeg = i := nI_clamp (by omega)
    have e14 : ga u1 14 i = nI (M 14 i) := ch_d hc (by omega) (by omega) hd
    have e15 : ga u1 15 i = nI (M 15 i) := ch_d hc (by omega) (by omega) hd
    have hin : vp_in (nI i) 7 := vp_in_nI (by omega) (by omega)
    obtain ⟨s1, s2, s3, s4, s5, s6, s7⟩ := hs
    refine ⟨fun c => absurd c (by rw [e2]; exact nI_ge (by omega) (by omega)), fun _ => ⟨fun c => ?_, fun c => ?_⟩⟩
    · rw [s2, s3, nI_leI (by omega) (by omega)] at c
      have e : flL (nxC M f n S row) (m + 1) i b = b := flL_id (m + 1) i (fun j _ hj => nx_stop ok (by omega) hsub hpc c)
      rw [e] at fin
      exact fin u0 u1 sn ⟨s1, s2, s3, s4, s5, s6, s7⟩ h11 hb hinv (fun s _ q => Or.inl q)
    · have ecl : (nI (M 14 i)).toNatClampNeg = M 14 i := nI_clamp (by omega)
      have ecl2 : (nI (M 15 i)).toNatClampNeg = M 15 i := nI_clamp (by omega)
      have h9a := (hrel.1.2.2.2.2.2.2.2.2.2.1 (M 14 i) (by omega)).1
      have h9b := (hrel.1.2.2.2.2.2.2.2.2.2.1 (M 15 i) (by omega)).1
      have hin5 : vp_in (nI (M 14 i)) 5 := vp_in_nI (by omega) (by omega)
      have hin5' : vp_in (nI (M 15 i)) 5 := vp_in_nI (by omega) (by omega)
      rw [flL] at fin
      have skip : ¬ pyb M S i → qX0_extend_b142 (qX0_extendBy_body (qX0_extend n)) post (qX0_extend_L70 (qX0_extendBy_body (qX0_extend n)) post (m + 1)) (nI row.length) (nI S) (nI i) u0 u1 := fun q z ez => by
        rw [nI_1] at ez
        subst ez
        rw [nx_skip q] at fin
        exact ih (i + 1) b sn u0 u1 (by omega) ⟨s1, s2, s3, s4, s5, s6, s7⟩ h11 hb hinv fin
      rw [e6, i_or]
      refine r_has (Nat.or_lt_two_pow (lt_up hS7 (by omega)) (ok_paid ok)) (by omega) (fun q => ⟨fun _ => skip (fun w => ?_), fun c => absurd c (by decide)⟩) (fun q => ⟨fun c => absurd rfl c, fun _ => ⟨hin, ?_⟩⟩)
      · rw [Nat.testBit_or, w.1, w.2.1] at q
        exact absurd q (by decide)
      · rw [Nat.testBit_or, Bool.or_eq_false_iff] at q
        have ew := rel_owd hrel q.1
        have eo : H 14 i = M 14 i := rel_k hrel (by decide) (by decide)
        have el : H 15 i = M 15 i := rel_k hrel (by decide) (by decide)
        rw [ec, e14]
        refine ⟨hin5, r_owed ok hc hd ?_⟩
        rw [ecl, s6 _ od.1, nI_ltI (by omega) (by omega)]
        refine ⟨fun c2 => skip (fun w => ?_), fun c2 => ⟨vp_in_nI hr7 (by omega), fun a0 f0 => ?_⟩⟩
        · have := ((pay_iff ok hrel hd).mpr w).2
          rw [ew, eo] at this
          omega
        · rw [nI_clamp (n := row.length) (by omega)] at f0
          refine ⟨hin, fun x ex => ⟨hin, fun y ey => ?_⟩⟩
          rw [ec, e14] at ex
          rw [ec, e15] at ey
          subst ex
          subst ey
          refine ⟨hin5', fun z ez => r_owed ok hc hd ?_⟩
          refine ⟨hin5, hin5, fun a1 f1 => ⟨hin5', fun a2 f2 => ?_⟩⟩
          have e03 : ga a0 3 = ga u0 3 := by
            rw [f0]
            rfl
          rw [ecl2, e03, s6 _ od.2.1] at ez
          subst ez
          rw [e03, ecl, s6 _ od.1, pk_sub (by omega)] at f1
          rw [ecl2, nI_add, show (9999 : Int32) = nI 9999 from rfl, i_min (by omega) (by omega)] at f2
          have hcp : cpy H i := ⟨by rw [hrel.2.2.1, Nat.testBit_or, q.1, q.2]; rfl, by rw [ew, eo]; omega⟩
          have hpy := (pay_iff ok hrel hd).mp hcp
          have hrel' := rel_step ok hrel hd hcp
          have g3 : ∀ p, ga a2 3 p = if p = M 15 i then nI (min (H 12 (M 15 i) + owd M i) 9999) else if p = M 14 i then nI (H 12 (M 14 i) - owd M i) else ga u0 3 p := fun p => by
            rw [f2, f1]
            show upd (upd (ga u0 3) (M 14 i) _) (M 15 i) _ p = _
            rw [upd_at, upd_at]
          have hH' : ∀ p, pyp H i 12 p = if p = M 15 i then min (H 12 (M 15 i) + owd M i) 9999 else if p = M 14 i then H 12 (M 14 i) - owd M i else H 12 p := fun p => by
            unfold pyp
            rw [mp_ne (by omega), eo, el, ew]
            unfold hnd gan
            by_cases w : p = M 15 i
            · subst w
              rw [mp_eq, if_pos rfl, mp_ne (Or.inr (fun q => od.2.2.1 q.symm))]
            · rw [mp_ne (Or.inr w), if_neg w]
              by_cases w2 : p = M 14 i
              · subst w2
                rw [mp_eq, if_pos rfl]
              · rw [mp_ne (Or.inr w2), if_neg w2]
          have chs' : chS a2 M (pyp H i) f (row ++ [i]) b sn := by
            refine ⟨by rw [f2, f1, f0]; exact s1, by rw [f2, f1, f0]; exact s2, by rw [f2, f1, f0]; exact s3, by rw [f2, f1, f0]; exact s4, ?_, fun p hp => ?_, by rw [f2, f1, f0]; exact s7⟩
            · rw [f2, f1, f0]
              exact rowR_app s5
            · rw [g3, hH', s6 p hp]
              by_cases w : p = M 15 i
              · rw [if_pos w, if_pos w]
              · rw [if_neg w, if_neg w]
                by_cases w2 : p = M 14 i
                · rw [if_pos w2, if_pos w2]
                · rw [if_neg w2, if_neg w2]
          have el1 : (row ++ [i]).length = row.length + 1 := by rw [List.length_append, List.length_singleton]
          have hor : nI S ||| (1 : Int32) <<< (nI i &&& 31) = nI (S ||| 2 ^ i) := by rw [i_one (by omega), i_or]
          rw [hor, nI_1, ← el1]
          refine hQ (S ||| 2 ^ i) (row ++ [i]) (pyp H i) b sn a2 u1 _ (by omega) hrel' (by rw [pc_or1 (by omega) q.1, hpc, el1]) (sub_or hd hsub q.2) chs' h11 hb (by rw [el1]; exact hinv) (fun v0 v1 sn' hs' h11' hb' hinv' hsn' => ⟨hin5', fun w0 g0 => ⟨hin5, hin5, fun w1 g1 z ez => ?_⟩⟩)
          rw [← nx_take hpy] at hs' hb' hinv'
          obtain ⟨t1, t2, t3, t4, t5, t6, t7⟩ := hs'
          have eow : ga w0 3 (M 14 i) = nI (H 12 (M 14 i) - owd M i) := by
            rw [g0, ecl2, ga_sw, if_pos rfl, upd_at, if_neg od.2.2.1, t6 _ od.1, hH', if_neg od.2.2.1, if_pos rfl]
          rw [ecl, eow, i_sub_add (by omega)] at g1
          rw [nI_1] at ez
          subst ez
          rw [el1] at hinv' hsn'
          refine ih (i + 1) _ sn' w1 v1 (by omega) ⟨by rw [g1, g0]; exact t1, by rw [g1, g0]; exact t2, by rw [g1, g0]; exact t3, by rw [g1, g0]; exact t4, by rw [g1, g0]; exact rowR_init t5, fun p hp => ?_, by rw [g1, g0]; exact t7⟩ h11' hb' hinv' (fun x0 x1 sx a1 a2 a3 a4 a5 => fin x0 x1 sx a1 a2 a3 a4 (fun s w1 w2 => (a5 s w1 w2).elim (hsn' s w1) Or.inr))
          rw [g1, g0, ecl2]
          show upd (upd (ga v0 3) (M 15 i) (nI (H 12 (M 15 i)))) (M 14 i) (nI (H 12 (M 14 i))) p = nI (H 12 p)
          rw [upd_at, upd_at]
          by_cases w2 : p = M 14 i
          · rw [if_pos w2, w2]
          · rw [if_neg w2]
            by_cases w : p = M 15 i
            · rw [if_pos w, w]
            · rw [if_neg w, t6 p hp, hH', if_neg w, if_neg w2]
theorem chS_len {row b : List Nat} : (rcd row b) = if b.length < row.length then row else b := rfl
theorem r_ext {M : MH} {f : Bool} {uh : St} (ok : okH M) (st : setl M) (hch : CH uh M) : ∀ n, rEx M f uh n := by
  have h7 := ok_nd ok
  have hg7 := goal_le ok
  intro n
  induction n with
  | zero =>
    intro S row H b sn u0 u1 post hr hrel hpc hsub
    have := pc_mono hsub
    omega
  | succ n ih =>
    intro S row H b sn u0 u1 post hr hrel hpc hsub hs h11 hb hinv fin
    have hS7 : S < 2 ^ 7 := pw_lt hrel.2.2.2.1 h7
    have hS : S < 128 := hS7
    have hg := hgt_le ok (f := f) (n + 1) S hsub
    have hpm := pc_mono hsub
    have hin : vp_in (nI S) 128 := vp_in_nI hS (by omega)
    have ecl : (nI S).toNatClampNeg = S := nI_clamp (by omega)
    have h8 : 8 - pc S = n + 1 := by omega
    obtain ⟨s1, s2, s3, s4, s5, s6, s7⟩ := hs
    show qX0_extend_body (qX0_extendBy_body (qX0_extend n)) _ _ _ _ _
    unfold qX0_extend_body
    rw [ecl, s7 S hS, bI_0]
    refine ⟨hin, fun c => ⟨hin, fun u48 e48 => ?_⟩, fun c => ?_⟩
    · -- not seen before
      have e48' : u48 = sw u0 4 (upd (ga u0 4) S 1) := e48
      have hs48 : chS u48 M H f row b (snU sn S) := by
        refine ⟨by rw [e48']; exact s1, by rw [e48']; exact s2, by rw [e48']; exact s3, by rw [e48']; exact s4, by rw [e48']; exact s5, by rw [e48']; exact s6, fun s hs => ?_⟩
        rw [e48', ga_sw, if_pos rfl, upd_at]
        by_cases w : s = S
        · rw [if_pos w, w, snU_S]
          rfl
        · rw [if_neg w, snU_ne w]
          exact s7 s hs
      have inv1 : invC M f (row.length + 1) b (snU sn S) := fun s h1 h2 h3 h4 => by
        by_cases w : s = S
        · subst w
          omega
        · rw [snU_ne w] at h2
          exact hinv s h1 h2 (by omega) h4
      -- what comes behind the checks
      have b33 : (f = true → fwo M S = 0) → ∀ v1, S11 uh v1 → qX0_extend_b33 (qX0_extendBy_body (qX0_extend n)) post (nI row.length) (nI S) u48 v1 := fun hf v1 hv1 => by
        have eres : resC M f (n + 1) S row b = flC M f (n + 1) S row (rcd row b) := by
          unfold resC
          rw [if_pos hf]
        rw [eres] at fin
        have hb1 : (rcd row b).length ≤ 7 := by
          unfold rcd
          split <;> omega
        have hbr := (rcd_ge row b).2
        have b60 : ∀ v0, chS v0 M H f row (rcd row b) (snU sn S) → qX0_extend_b60 (qX0_extendBy_body (qX0_extend n)) post (nI row.length) (nI S) v0 v1 := fun v0 hv0 => by
          have done : ∀ sn', invC M f (row.length + 1) (flC M f (n + 1) S row (rcd row b)) sn' → (∀ s, s < 2 ^ M 2 0 → sn' s = true → snU sn S s = true ∨ row.length + 1 ≤ pc s) → invC M f row.length (flC M f (n + 1) S row (rcd row b)) sn' ∧ ∀ s, s < 2 ^ M 2 0 → sn' s = true → sn s = true ∨ row.length ≤ pc s := fun sn' q q2 => by
            refine ⟨fun s h1 h2 h3 h4 => ?_, fun s h1 h2 => ?_⟩
            · by_cases w : row.length + 1 ≤ pc s
              · exact q s h1 h2 w h4
              · have w2 := (q2 s h1 h2).resolve_right w
                by_cases w3 : s = S
                · subst w3
                  rw [h8, hpc]
                  exact fl_gt _ _ _ _ hbr
                · rw [snU_ne w3] at w2
                  exact Nat.le_trans (hinv s h1 w2 h3 h4) (Nat.le_trans (rcd_ge row b).1 (fl_ge _ _ _ _))
            · rcases q2 s h1 h2 with w | w
              · by_cases w3 : s = S
                · right
                  rw [w3]
                  omega
                · rw [snU_ne w3] at w
                  exact Or.inl w
              · right
                omega
          refine ⟨fun c7 => ⟨M 2 0 + 1, ?_⟩, fun c7 => ?_⟩
          · have hr7 : row.length < 7 := (nI_ltI (b := 7) (by omega) (by omega)).mp c7
            exact ex_loop ok hch ih (by omega) hr7 hrel hpc hsub (M 2 0) 0 (rcd row b) _ v0 v1 (by omega) hv0 hv1 hb1 (invC_b (rcd_ge row b).1 inv1) (fun x0 x1 sx a1 a2 a3 a4 a5 => fin x0 x1 sx a1 a2 a3 (done sx a4 a5).1 (done sx a4 a5).2)
          · have hr7 : ¬ row.length < 7 := fun q => c7 (nI_lt q (by decide))
            have e : flC M f (n + 1) S row (rcd row b) = rcd row b := fl_id _ _ _ _ (by omega)
            have i1 : invC M f (row.length + 1) (flC M f (n + 1) S row (rcd row b)) (snU sn S) := by
              rw [e]
              exact invC_b (rcd_ge row b).1 inv1
            have d := done _ i1 (fun s _ q => Or.inl q)
            refine fin v0 v1 _ ?_ hv1 ?_ d.1 d.2
            · rw [e]
              exact hv0
            · rw [e]
              exact hb1
        unfold qX0_extend_b33
        rw [hs48.2.2.1, nI_leI (by omega) (by omega)]
        refine ⟨fun q => b60 u48 ?_, fun q u45 e45 => ⟨?_, fun u46 e46 => b60 u46 ?_⟩⟩
        · have e : rcd row b = b := by
            unfold rcd
            rw [if_neg (by omega)]
          rw [e]
          exact hs48
        · unfold cpOk
          rw [nI_clamp (by omega)]
          exact ⟨by decide, by decide, nI_pos (by omega), by show 0 + row.length ≤ 7; omega, by show 0 + row.length ≤ 7; omega⟩
        · have e : rcd row b = row := by
            unfold rcd
            rw [if_pos (by omega)]
          obtain ⟨r1, r2, r3, r4, r5, r6, r7⟩ := hs48
          rw [e]
          rw [nI_clamp (by omega), show (0 : Int32).toNatClampNeg = 0 from rfl] at e46
          refine ⟨by rw [e46, e45]; exact r1, by rw [e46, e45]; exact r2, by rw [e46, e45]; rfl, fun k v ek => ?_, by rw [e46, e45]; exact r5, by rw [e46, e45]; exact r6, by rw [e46, e45]; exact r7⟩
          have hk : k < row.length := (List.getElem?_eq_some_iff.mp ek).1
          rw [e46, ga_sw, if_pos rfl, cp_at hk, e45]
          exact r5 k v ek
      rw [hs48.1, bI_0]
      refine ⟨fun q => b33 (fun w => by rw [q] at w; exact absurd w (by decide)) u1 h11, fun q => r_fwo ok st (by omega) hch h11 (fun u50 h50 _ => ?_)⟩
      have q' : f = true := by cases w : f with | true => rfl | false => exact absurd w q
      have hfl := fwo_lt ok S
      rw [nI_z hfl]
      refine ⟨fun w => b33 (fun _ => w) u50 h50, fun w => ?_⟩
      have eres : resC M f (n + 1) S row b = b := by
        unfold resC
        rw [if_neg (fun z => w (z q'))]
      rw [eres] at fin
      refine fin u48 u50 _ hs48 h50 hb (fun s h1 h2 h3 h4 => ?_) (fun s h1 h2 => ?_)
      · by_cases w3 : s = S
        · subst w3
          exact absurd (h4 q') w
        · rw [snU_ne w3] at h2
          exact hinv s h1 h2 h3 h4
      · by_cases w3 : s = S
        · right
          rw [w3]
          omega
        · rw [snU_ne w3] at h2
          exact Or.inl h2
    · -- seen before: nothing longer is come to by it
      have c' : sn S = true := by cases q : sn S with | true => rfl | false => exact absurd q c
      have eres : resC M f (n + 1) S row b = b := by
        unfold resC
        by_cases w : f = true → fwo M S = 0
        · rw [if_pos w]
          have h1 := hinv S hrel.2.2.2.1 c' (by omega) w
          rw [h8] at h1
          have e : rcd row b = b := by
            unfold rcd
            rw [if_neg (by omega)]
          rw [e]
          exact fl_id _ _ _ _ (by omega)
        · rw [if_neg w]
      rw [eres] at fin
      exact fin u0 u1 sn ⟨s1, s2, s3, s4, s5, s6, s7⟩ h11 hb hinv (fun s _ q => Or.inl q)
