/-! STEPS 27: life, the way it goes -/
def lpU (lp : Nat → Nat) (o v : Nat) : Nat → Nat := fun j => if j = o then v else lp j
/-- behind the ends that are come to -/
def beE (N : MH) : Nat → Nat → (Nat → Nat) → Nat × (Nat → Nat)
  | 0, k, lp => (k, lp)
  | m + 1, k, lp => if N 0 k = 13 then (if N 0 (N 4 k) = 7 ∧ lp (N 4 k) ≠ 0 ∧ N 4 k + 1 ≠ k then (N 4 k + 1, lpU lp (N 4 k) (lp (N 4 k) - 1)) else beE N m (k + 1) lp) else (k, lp)
/-- where it goes on, by a step at k -/
def nxK (N : MH) (k : Nat) (A : MH) : Nat := if 9 ≤ N 0 k ∧ cndB (N 0 k) (N 1 k) (N 2 k) (N 3 k) A = false then N 4 k + 1 else k + 1
def nxL (N : MH) (k : Nat) (lp : Nat → Nat) : Nat → Nat := if N 0 k = 7 then lpU lp k (N 1 k - 1) else lp
/-- a life: so many steps may still be done -/
def runA (N : MH) (n : Nat) : Nat → Nat → (Nat → Nat) → MH → Nat → Int32 → Int32 → Int32 → MH × Int32 × Int32 × Int32 × Nat × Bool
  | 0, k, _, A, _, ms, yr, sp => (A, ms, yr, sp, 0, decide (k < n))
  | m + 1, k, lp, A, d, ms, yr, sp => if n ≤ k then (A, ms, yr, sp, m + 1, false) else if N 0 k = 6 then (A, ms, yr, sp, m, false) else runA N n m (beE N (n - nxK N k A) (nxK N k A) (nxL N k lp)).1 (beE N (n - nxK N k A) (nxK N k A) (nxL N k lp)).2 (act5 (N 0 k) (N 1 k) (N 2 k) A d).2.1 (act5 (N 0 k) (N 1 k) (N 2 k) A d).2.2.1 (ms + bI (! (act5 (N 0 k) (N 1 k) (N 2 k) A d).1)) (yr + nI (act5 (N 0 k) (N 1 k) (N 2 k) A d).2.2.2.1) (sp + nI (act5 (N 0 k) (N 1 k) (N 2 k) A d).2.2.2.2)
/-- the loops around a place are counted -/
def EnL (N : MH) (n k : Nat) (lp : Nat → Nat) (g : Nat → Int32) (off : Nat) : Prop := ∀ o, o < n → N 0 o = 7 → o < k → k ≤ N 4 o → g o = nI (lp o + off) ∧ lp o ≤ 98
theorem kR_13 {k k1 : Nat} (h : kR k k1) : k ≤ 13 ∧ k ≠ 8 := by
  unfold kR at h
  omega
theorem tm_k {M N : MH} {n : Nat} (hT : okT M N n) {i : Nat} (hi : i < n) : N 0 i ≤ 13 ∧ N 0 i ≠ 8 := by
  obtain ⟨k1, h⟩ := (hT.2 i hi).1
  exact kR_13 h
theorem tm_b {M N : MH} {n : Nat} (hT : okT M N n) {i : Nat} (hi : i < n) (h : N 0 i = 7 ∨ (9 ≤ N 0 i ∧ N 0 i ≤ 12)) : i < N 4 i ∧ N 4 i < n ∧ N 0 (N 4 i) = 13 ∧ N 4 (N 4 i) = i := (hT.2 i hi).2.2.2.2.2.2.2.2.2.2.1 h
theorem tm_e {M N : MH} {n : Nat} (hT : okT M N n) {i : Nat} (hi : i < n) (h : N 0 i = 13) : N 4 i < i ∧ (N 0 (N 4 i) = 7 ∨ (9 ≤ N 0 (N 4 i) ∧ N 0 (N 4 i) ≤ 12)) ∧ N 4 (N 4 i) = i := (hT.2 i hi).2.2.2.2.2.2.2.2.2.2.2.1 h
theorem tm_n {M N : MH} {n : Nat} (hT : okT M N n) {i j : Nat} (hi : i < n) (hj : j < n) (h : N 0 i = 13 ∧ N 0 j = 13 ∧ N 4 i < j ∧ j < i) : N 4 i < N 4 j := (hT.2 i hi).2.2.2.2.2.2.2.2.2.2.2.2 j hj h
theorem en_next {M N : MH} {n k off : Nat} {lp : Nat → Nat} {g : Nat → Int32} (hk : N 0 k ≠ 7) (h : EnL N n k lp g off) : EnL N n (k + 1) lp g off := fun o h1 h2 h3 h4 => by
  have : o ≠ k := fun q => hk (by rw [← q]; exact h2)
  exact h o h1 h2 (by omega) (by omega)
theorem en_loop {N : MH} {n k off v : Nat} {lp : Nat → Nat} {g : Nat → Int32} (hv : v ≤ 98) (h : EnL N n k lp g off) : EnL N n (k + 1) (lpU lp k v) (upd g k (nI (v + off))) off := fun o h1 h2 h3 h4 => by
  unfold lpU
  rw [upd_at]
  by_cases c : o = k
  · rw [if_pos c, if_pos c]
    exact ⟨rfl, hv⟩
  · rw [if_neg c, if_neg c]
    exact h o h1 h2 (by omega) (by omega)
theorem en_skip {N : MH} {n k off v : Nat} {x : Int32} {lp : Nat → Nat} {g : Nat → Int32} (h13 : N 0 (k + 1) = 13) (h4k : N 4 k = k + 1) (h : EnL N n k lp g off) : EnL N n (k + 2) (lpU lp k v) (upd g k x) off := fun o h1 h2 h3 h4 => by
  have c : o ≠ k := fun q => by subst q; omega
  have c2 : o ≠ k + 1 := fun q => by subst q; omega
  unfold lpU
  rw [upd_at, if_neg c, if_neg c]
  exact h o h1 h2 (by omega) (by omega)
theorem en_when {M N : MH} {n k off : Nat} {lp : Nat → Nat} {g : Nat → Int32} (hT : okT M N n) (hk : k < n) (hw : 9 ≤ N 0 k ∧ N 0 k ≤ 12) (h : EnL N n k lp g off) : EnL N n (N 4 k + 1) lp g off := fun o h1 h2 h3 h4 => by
  obtain ⟨b1, b2, b3, b4⟩ := tm_b hT hk (Or.inr hw)
  obtain ⟨c1, c2, c3, c4⟩ := tm_b hT h1 (Or.inl h2)
  have e1 : o ≠ N 4 k := fun q => by rw [q] at h2; omega
  have e2 : o ≠ k := fun q => by rw [q] at h2; omega
  by_cases q : o < k
  · exact h o h1 h2 q (by omega)
  · have := tm_n hT c2 b2 ⟨c3, b3, by omega, by omega⟩
    rw [c4, b4] at this
    omega
theorem en_back {M N : MH} {n k off v : Nat} {lp : Nat → Nat} {g : Nat → Int32} (hT : okT M N n) (hk : k < n) (h13 : N 0 k = 13) (hv : v ≤ 98) (h : EnL N n k lp g off) : EnL N n (N 4 k + 1) (lpU lp (N 4 k) v) (upd g (N 4 k) (nI (v + off))) off := fun o h1 h2 h3 h4 => by
  obtain ⟨b1, b2, b3⟩ := tm_e hT hk h13
  obtain ⟨c1, c2, c3, c4⟩ := tm_b hT h1 (Or.inl h2)
  unfold lpU
  rw [upd_at]
  by_cases c : o = N 4 k
  · rw [if_pos c, if_pos c]
    exact ⟨rfl, hv⟩
  · rw [if_neg c, if_neg c]
    have e : N 4 o ≠ k := fun q => c (by rw [← q, c4])
    by_cases q : k < N 4 o
    · exact h o h1 h2 (by omega) (by omega)
    · have := tm_n hT hk c2 ⟨h13, c3, by omega, by omega⟩
      rw [c4] at this
      omega
/-- behind a loop's begin no end comes, but its own -/
theorem tm_in {M N : MH} {n k : Nat} (hT : okT M N n) (hk : k < n) (h13 : N 0 k = 13) (hne : N 4 k + 1 ≠ k) : N 0 (N 4 k + 1) ≠ 13 := fun q => by
  obtain ⟨b1, b2, b3⟩ := tm_e hT hk h13
  have hj : N 4 k + 1 < n := by omega
  obtain ⟨c1, c2, c3⟩ := tm_e hT hj q
  have := tm_n hT hk hj ⟨h13, q, by omega, by omega⟩
  omega
theorem be_place {M N : MH} {n : Nat} (hT : okT M N n) : ∀ m k lp, k + m = n → (beE N m k lp).1 ≤ n ∧ ((beE N m k lp).1 < n → N 0 (beE N m k lp).1 ≠ 13) := by
  intro m
  induction m with
  | zero => intro k lp h; exact ⟨by show k ≤ n; omega, fun q => absurd q (by show ¬ k < n; omega)⟩
  | succ m ih =>
    intro k lp h
    have hk : k < n := by omega
    rw [beE]
    by_cases c : N 0 k = 13
    · rw [if_pos c]
      obtain ⟨b1, b2, b3⟩ := tm_e hT hk c
      by_cases c2 : N 0 (N 4 k) = 7 ∧ lp (N 4 k) ≠ 0 ∧ N 4 k + 1 ≠ k
      · rw [if_pos c2]
        exact ⟨by show N 4 k + 1 ≤ n; omega, fun _ => tm_in hT hk c c2.2.2⟩
      · rw [if_neg c2]
        exact ih (k + 1) lp (by omega)
    · rw [if_neg c]
      exact ⟨by show k ≤ n; omega, fun _ => c⟩
/-- the class's times -/
def tmC (t : St) (N : MH) (n : Nat) : Prop := gi t 2 = nI n ∧ ∀ i, i < n → ga t 3 i = nI (N 0 i) ∧ (N 0 i ≤ 12 → N 0 i ≠ 5 → N 0 i ≠ 6 → ga t 4 i = nI (N 1 i)) ∧ (N 0 i = 2 ∨ N 0 i = 4 ∨ N 0 i = 11 ∨ N 0 i = 12 → ga t 5 i = nI (N 2 i)) ∧ (N 0 i = 11 ∨ N 0 i = 12 → ga t 6 i = nI (N 3 i)) ∧ (N 0 i = 7 ∨ (9 ≤ N 0 i ∧ N 0 i ≤ 13) → ga t 7 i = nI (N 4 i))
/-- the class's life at hand -/
def lfC (ul : St) (dn d : Nat) (ms yr sp lf : Int32) : Prop := gi ul 0 = 1 ∧ gi ul 1 = nI dn ∧ gi ul 2 = ms ∧ gi ul 3 = yr ∧ gi ul 4 = sp ∧ gi ul 6 = lf ∧ gi ul 7 = nI d
theorem within_n {k n : Nat} {post : Int32 → Prop} (hn : n ≤ 60) (hk : k ≤ n) (h1 : k < n → post 1) (h0 : k = n → post 0) : qX11_within (nI k) 0 (nI n - 1) post :=
  r_wn (by omega) (fun c => h1 (by have := c.2; rw [nI_toInt (by omega)] at this; omega)) (fun c => h0 (by
    apply Classical.byContradiction
    intro q
    exact c (inR_nI (by omega) (by omega))))
/-- ends, one by one -/
theorem c_ends {M N : MH} {n : Nat} {x4 : Int32} {t : St} {dn d : Nat} {ms yr sp : Int32} {post : St → St → St → Prop} (hT : okT M N n) (ht : tmC t N n) (hdn : dn ≤ 300) : ∀ (m k : Nat) (lp : Nat → Nat) (i : Nat) (ul u1 : St), k + m = n → (k < n → N 0 k = 13 → N 0 (N 4 k) = 7 → N 4 k + 1 ≠ k) → i ≤ 62 * dn + k → lfC ul dn d ms yr sp 0 → EnL N n k lp (ga ul 8) 1 → (∀ i' ul', i' ≤ 62 * dn + 61 → lfC ul' dn d ms yr sp 0 → EnL N n (beE N m k lp).1 (beE N m k lp).2 (ga ul' 8) 1 → qX3_run_L47 post (100001 - i') x4 (nI (beE N m k lp).1) (nI i') ul' u1 t) → qX3_run_L47 post (100001 - i) x4 (nI k) (nI i) ul u1 t := by
  have hn := hT.1
  intro m
  induction m with
  | zero =>
    intro k lp i ul u1 hk hne hi hl he fin
    exact fin i ul (by omega) hl he
  | succ m ih =>
    intro k lp i ul u1 hk hne hi hl he fin
    have hkn : k < n := by omega
    rw [beE] at fin
    by_cases c : N 0 k = 13
    · rw [if_pos c] at fin
      obtain ⟨b1, b2, b3⟩ := tm_e hT hkn c
      obtain ⟨t1, t2, t3, t4, t5⟩ := ht.2 k hkn
      have ec : (nI k).toNatClampNeg = k := nI_clamp (by omega)
      have eo : (nI (N 4 k)).toNatClampNeg = N 4 k := nI_clamp (by omega)
      have ho : N 4 k < n := by omega
      have e7 : ga t 7 k = nI (N 4 k) := t5 (Or.inr (by omega))
      have e3 : ga t 3 (N 4 k) = nI (N 0 (N 4 k)) := (ht.2 (N 4 k) ho).1
      have hino : vp_in (nI (N 4 k)) 60 := vp_in_nI (by omega) (by omega)
      have hk13 := tm_k hT ho
      obtain ⟨l0, l1, l2, l3, l4, l6, l7⟩ := hl
      rw [show 100001 - i = (100001 - (i + 1)) + 1 by omega]
      refine ⟨fun q => absurd q (nI_ge (b := 100000) (by omega) (by omega)), fun _ => ?_⟩
      rw [ht.1]
      refine within_n hn (by omega) (fun _ => ⟨fun q => absurd q (by decide), fun _ => ⟨fun q => absurd l6 q, fun _ => ⟨vp_in_nI (by omega) (by omega), ?_⟩⟩⟩) (fun q => absurd q (by omega))
      rw [ec, t1, c]
      refine ⟨fun q => absurd rfl q, fun _ => ?_⟩
      unfold qX3_behindEnd
      rw [ec, e7]
      refine ⟨vp_in_nI (by omega) (by omega), fun x ex => ?_⟩
      subst ex
      rw [ht.1, eo, e3, show (7 : Int32) = nI 7 from rfl, nI_eq (by omega) (by omega)]
      have on : ∀ v, lfC v dn d ms yr sp 0 → EnL N n (k + 1) lp (ga v 8) 1 → ¬ (N 0 (N 4 k) = 7 ∧ lp (N 4 k) ≠ 0 ∧ N 4 k + 1 ≠ k) → qX3_run_b180 post (qX3_run_L47 post (100001 - (i + 1))) x4 (nI k + 1) (nI i) v u1 t := fun v hv hev hc z ez => by
        rw [nI_1] at ez ⊢
        subst ez
        rw [if_neg hc] at fin
        refine ih (k + 1) lp (i + 1) v u1 (by omega) (fun _ w1 w2 w3 => ?_) (by omega) hv hev fin
        have : N 4 (k + 1) = k := by omega
        rw [this] at w2
        omega
      refine within_n hn (by omega) (fun _ => ⟨fun q => absurd q (by decide), fun _ => ⟨hino, fun q => ⟨hino, hino, fun v ev => ⟨hino, ?_⟩⟩, fun q => on ul ⟨l0, l1, l2, l3, l4, l6, l7⟩ (en_next (M := M) (by omega) he) (fun w => q w.1)⟩⟩) (fun q => absurd q (by omega))
      obtain ⟨g1, g2⟩ := he (N 4 k) ho q b1 (by omega)
      have hl' : lfC v dn d ms yr sp 0 := by rw [ev]; exact ⟨l0, l1, l2, l3, l4, l6, l7⟩
      rw [g1, nI_pred] at ev
      have e8 : ga v 8 (N 4 k) = nI (lp (N 4 k)) := by rw [ev, ga_sw, if_pos rfl, upd_at, if_pos rfl]
      rw [e8]
      refine ⟨fun w => ?_, fun w => ?_⟩
      · have w0 : lp (N 4 k) = 0 := by
          rw [i_le, nI_toInt (by omega)] at w
          have : (0 : Int32).toInt = 0 := rfl
          omega
        refine on v hl' (fun o h1 h2 h3 h4 => ?_) (fun z => z.2.1 w0)
        have hok : o ≠ k := fun z => by rw [z] at h2; omega
        have hoo : o ≠ N 4 k := fun z => by
          rw [z, b3] at h4
          omega
        rw [ev, ga_sw, if_pos rfl, upd_at, if_neg hoo]
        exact he o h1 h2 (by omega) (by omega)
      · have w0 : lp (N 4 k) ≠ 0 := fun z => w (by rw [z]; decide)
        have hc : N 0 (N 4 k) = 7 ∧ lp (N 4 k) ≠ 0 ∧ N 4 k + 1 ≠ k := ⟨q, w0, hne hkn c q⟩
        rw [if_pos hc] at fin
        intro z ez
        rw [nI_1] at ez ⊢
        subst ez
        refine fin (i + 1) v (by omega) hl' ?_
        have := en_back (v := lp (N 4 k) - 1) (off := 1) hT hkn c (by omega) he
        rw [show lp (N 4 k) - 1 + 1 = lp (N 4 k) by omega] at this
        rw [ev, ga_sw, if_pos rfl]
        exact this
    · rw [if_neg c] at fin
      exact fin i ul (by omega) hl he
