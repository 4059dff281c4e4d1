/-! STEPS 37: a house's parts: as functions, and as the class reads them -/
def adS (M : MH) (m w o : Nat) : MH := mp (mp (mp (mp M 8 (M 0 0) m) 9 (M 0 0) w) 10 (M 0 0) o) 0 0 (M 0 0 + 1)
def adP (M : MH) (c x : Nat) : MH := mp (mp (mp M 13 (M 1 0) c) 12 (M 1 0) x) 1 0 (M 1 0 + 1)
def adD (M : MH) (a b c r : Nat) (g : Bool) (s l : Nat) : MH := mp (adt M a b c r g s) 19 (M 2 0) l
theorem adS_k (M : MH) (m w o : Nat) {k i : Nat} (h0 : k ≠ 0) (h : k < 8 ∨ 10 < k ∨ i ≠ M 0 0) : adS M m w o k i = M k i := by
  unfold adS
  rw [mp_ne (by omega), mp_ne (by omega), mp_ne (by omega), mp_ne (by omega)]
theorem adS_0 (M : MH) (m w o : Nat) : adS M m w o 0 0 = M 0 0 + 1 := rfl
theorem adS_8 (M : MH) (m w o : Nat) : adS M m w o 8 (M 0 0) = m := by
  unfold adS
  rw [mp_ne (by omega), mp_ne (by omega), mp_ne (by omega), mp_eq]
theorem adS_9 (M : MH) (m w o : Nat) : adS M m w o 9 (M 0 0) = w := by
  unfold adS
  rw [mp_ne (by omega), mp_ne (by omega), mp_eq]
theorem adS_10 (M : MH) (m w o : Nat) : adS M m w o 10 (M 0 0) = o := by
  unfold adS
  rw [mp_ne (by omega), mp_eq]
theorem adP_k (M : MH) (c x : Nat) {k i : Nat} (h1 : k ≠ 1) (h : (k ≠ 12 ∧ k ≠ 13) ∨ i ≠ M 1 0) : adP M c x k i = M k i := by
  unfold adP
  rw [mp_ne (by omega), mp_ne (by omega), mp_ne (by omega)]
theorem adP_1 (M : MH) (c x : Nat) : adP M c x 1 0 = M 1 0 + 1 := rfl
theorem adP_12 (M : MH) (c x : Nat) : adP M c x 12 (M 1 0) = x := by
  unfold adP
  rw [mp_ne (by omega), mp_eq]
theorem adP_13 (M : MH) (c x : Nat) : adP M c x 13 (M 1 0) = c := by
  unfold adP
  rw [mp_ne (by omega), mp_ne (by omega), mp_eq]
theorem adS_ok {M : MH} {m w o : Nat} (ok : okH M) (h8 : M 0 0 < 8) (hm : m ≤ 9) (hw : 1 ≤ w ∧ w ≤ 9) (ho : o < 2 ^ M 0 0) : okH (adS M m w o) := by
  obtain ⟨q0, q1, q2, q3, q4, q5, q6, q7, q8, q9, q10⟩ := ok
  have h5 : M 5 0 < 2 ^ (M 0 0 + 1) := Nat.lt_of_lt_of_le q5 (Nat.pow_le_pow_right (by decide) (by omega))
  refine ⟨?_, q1, q2, q3, q4, h5, q6, q7, fun s hs => ?_, q9, fun d hd => ?_⟩
  · rw [adS_0]; omega
  · rw [adS_0] at hs
    by_cases e : s = M 0 0
    · subst e
      rw [adS_8, adS_9, adS_10]
      exact ⟨hm, hw.1, hw.2, ho⟩
    · rw [adS_k M m w o (k := 8) (by decide) (by omega), adS_k M m w o (k := 9) (by decide) (by omega), adS_k M m w o (k := 10) (by decide) (by omega)]
      exact q8 s (by omega)
  · have := q10 d hd
    rw [adS_0]
    refine ⟨this.1, this.2.1, this.2.2.1, this.2.2.2.1, this.2.2.2.2.1, this.2.2.2.2.2.1, ?_, this.2.2.2.2.2.2.2⟩
    have := this.2.2.2.2.2.2.1
    show M 18 d < M 0 0 + 1
    omega
theorem adP_ok {M : MH} {c x : Nat} (ok : okH M) (h5 : M 1 0 < 5) (hc : 1 ≤ c ∧ c < 2 ^ 40) (hx : x ≤ 9999) : okH (adP M c x) := by
  obtain ⟨q0, q1, q2, q3, q4, q5, q6, q7, q8, q9, q10⟩ := ok
  refine ⟨q0, ?_, q2, q3, q4, q5, q6, q7, q8, fun p hp => ?_, fun d hd => ?_⟩
  · rw [adP_1]; omega
  · rw [adP_1] at hp
    by_cases e : p = M 1 0
    · subst e
      rw [adP_12, adP_13]
      exact ⟨hx, hc.1, hc.2⟩
    · rw [adP_k M c x (k := 12) (by decide) (by omega), adP_k M c x (k := 13) (by decide) (by omega)]
      exact q9 p (by omega)
  · have := q10 d hd
    rw [adP_1]
    refine ⟨?_, ?_, this.2.2⟩
    · show M 14 d < M 1 0 + 1
      omega
    · show M 15 d < M 1 0 + 1
      omega
theorem adD_ne {M : MH} {a b c r s l : Nat} {g : Bool} {k i : Nat} (h : k ≠ 19 ∨ i ≠ M 2 0) : adD M a b c r g s l k i = adt M a b c r g s k i := mp_ne h
theorem adD_ok {M : MH} {a b c r s l : Nat} {g : Bool} (ok : okH M) (h7 : M 2 0 < 7) (ha : a < M 1 0) (hb : b < M 1 0) (hab : a ≠ b) (hc0 : 1 ≤ c) (hc : c ≤ 99) (hr : r ≤ 9) (hs : s < M 0 0) (hl : l ≤ 999) : okH (adD M a b c r g s l) := by
  obtain ⟨q0, q1, q2, q3, q4, q5, q6, q7, q8, q9, q10⟩ := adt_ok (g := g) ok h7 ha hb hab hc0 hc hr hs
  refine ⟨q0, q1, q2, q3, q4, q5, q6, q7, q8, q9, fun d hd => ?_⟩
  have := q10 d hd
  refine ⟨this.1, this.2.1, this.2.2.1, this.2.2.2.1, this.2.2.2.2.1, this.2.2.2.2.2.1, this.2.2.2.2.2.2.1, ?_⟩
  by_cases e : d = M 2 0
  · subst e
    unfold adD
    rw [mp_eq]
    exact hl
  · rw [adD_ne (by omega)]
    exact this.2.2.2.2.2.2.2
theorem odd_ok {M : MH} {v : Nat} (ok : okH M) (hv : v ≤ 16) : okH (mp M 3 0 v) := by
  obtain ⟨q0, q1, q2, q3, q4, q5, q6, q7, q8, q9, q10⟩ := ok
  exact ⟨q0, q1, q2, hv, q4, q5, q6, q7, q8, q9, q10⟩
/-- what rests on what; a stone, a person, a debt, the odds; a part; all -/
def pOn {R : Type} (T : Nat → Nat) (n st : Nat) : Nat → Nat → Tk → (Nat → Tk → R) → (Nat → Nat → R) → R
  | 0, o, t, K, _ => K o t
  | m + 1, o, t, K, F => if t.1 = 2 then (if t.2.2.2 < st then (if o.testBit t.2.2.2 = true then F 5 t.2.1 else pOn T n st m (o ||| 2 ^ t.2.2.2) (nxT T n t) K F) else F 4 t.2.1) else K o t
def pSt {R : Type} (T : Nat → Nat) (n : Nat) (M : MH) (t : Tk) (K : MH → Tk → R) (F : Nat → Nat → R) : R :=
  if M 0 0 < 8 then pWd T n 4 (nxT T n t) (fun t => pNu T n 0 9 t (fun m t => pWd T n 5 t (fun t => pNu T n 1 9 t (fun w t => pIf T n 6 t (fun t => pOn T n (M 0 0) 9 0 t (fun o t => pSm T n t (fun t => K (adS M m w o) t) F) F) (fun t => pSm T n t (fun t => K (adS M m w 0) t) F)) F) F) F) F else F (fltT t 6) t.2.1
def pPn {R : Type} (T : Nat → Nat) (n : Nat) (M : MH) (t : Tk) (K : MH → Tk → R) (F : Nat → Nat → R) : R :=
  if M 1 0 < 5 then (if nmB T (nxT T n t) then (if fnd M (nmC T (nxT T n t)) (M 1 0) 0 < M 1 0 then F 3 (nxT T n t).2.1 else pWd T n 7 (nxT T n (nxT T n t)) (fun t1 => pNu T n 0 999 t1 (fun x t1 => pSm T n t1 (fun t1 => K (adP M (nmC T (nxT T n t)) x) t1) F) F) F) else F (fltT (nxT T n t) 2) (nxT T n t).2.1) else F (fltT t 6) t.2.1
def pDb {R : Type} (T : Nat → Nat) (n : Nat) (M : MH) (t : Tk) (K : MH → Tk → R) (F : Nat → Nat → R) : R :=
  if M 2 0 < 7 then pPe T n M 99 (nxT T n t) (fun a t => pPe T n M a t (fun b t => pWd T n 8 t (fun t => pNu T n 1 99 t (fun c t => pWd T n 9 t (fun t => pNu T n 0 9 t (fun r t => pIf T n 10 t
    (fun t => pWd T n 11 t (fun t => pNu T n 0 ((M 0 0 : Int) - 1) t (fun s t => pIf T n 12 t (fun t => pNu T n 0 99 t (fun l t => pSm T n t (fun t => K (adD M a b c r true s l) t) F) F) (fun t => pSm T n t (fun t => K (adD M a b c r true s 0) t) F)) F) F)
    (fun t => pWd T n 11 t (fun t => pNu T n 0 ((M 0 0 : Int) - 1) t (fun s t => pIf T n 12 t (fun t => pNu T n 0 99 t (fun l t => pSm T n t (fun t => K (adD M a b c r false s l) t) F) F) (fun t => pSm T n t (fun t => K (adD M a b c r false s 0) t) F)) F) F)) F) F) F) F) F) F else F (fltT t 6) t.2.1
def pOd {R : Type} (T : Nat → Nat) (n : Nat) (M : MH) (o : Bool) (t : Tk) (K : MH → Tk → R) (F : Nat → Nat → R) : R :=
  if o then F (fltT t 5) t.2.1 else pNu T n 0 16 (nxT T n t) (fun v t => pSm T n t (fun t => K (mp M 3 0 v) t) F) F
def pPt {R : Type} (T : Nat → Nat) (n : Nat) (M : MH) (o : Bool) (t : Tk) (K : MH → Bool → Tk → R) (F : Nat → Nat → R) : R :=
  if wdT T t = nI 0 then pOd T n M o t (fun M t => K M true t) F else if wdT T t = nI 1 then pSt T n M t (fun M t => K M o t) F else if wdT T t = nI 2 then pPn T n M t (fun M t => K M o t) F else if wdT T t = nI 3 then pDb T n M t (fun M t => K M o t) F else F (fltT t 2) t.2.1
def pHs {R : Type} (T : Nat → Nat) (n : Nat) : Nat → MH → Bool → Tk → (MH → R) → (Nat → Nat → R) → R
  | 0, M, _, _, K, _ => K M
  | m + 1, M, o, t, K, F => if t.1 = 0 then K M else pPt T n M o t (fun M o t => pHs T n m M o t K F) F
/-- adding, the class -/
theorem c_addStone {M : MH} {m w o : Nat} {u : St} {post : St → Prop} (h8 : M 0 0 < 8) (h : CH u M) (k : ∀ u', CH u' (adS M m w o) → post u') : qX2_addStone (nI m) (nI w) (nI o) u post := by
  have hin : vp_in (nI (M 0 0)) 8 := vp_in_nI (by omega) (by omega)
  have ec : (nI (M 0 0)).toNatClampNeg = M 0 0 := nI_clamp (by omega)
  have g0 : gi u 0 = nI (M 0 0) := ch_k h (by omega)
  unfold qX2_addStone
  refine ⟨by rw [g0]; exact hin, fun u1 e1 => ?_⟩
  have g1 : gi u1 0 = nI (M 0 0) := by rw [e1]; exact g0
  refine ⟨by rw [g1]; exact hin, fun u2 e2 => ?_⟩
  have g2 : gi u2 0 = nI (M 0 0) := by rw [e2]; exact g1
  refine ⟨by rw [g2]; exact hin, fun u3 e3 u4 e4 => k u4 ?_⟩
  have g3 : gi u3 0 = nI (M 0 0) := by rw [e3]; exact g2
  rw [g0, ec] at e1
  rw [g1, ec] at e2
  rw [g2, ec] at e3
  rw [g3, nI_1] at e4
  have gI : ∀ j, gi u4 j = if j = 0 then nI (M 0 0 + 1) else gi u j := fun j => by rw [e4, e3, e2, e1]; rfl
  have gL : ∀ j, gl u4 j = gl u j := fun j => by rw [e4, e3, e2, e1]; rfl
  have gA : ∀ j i, ga u4 j i = if j = 10 ∧ i = M 0 0 then nI o else if j = 9 ∧ i = M 0 0 then nI w else if j = 8 ∧ i = M 0 0 then nI m else ga u j i := fun j i => by
    rw [e4, ga_si, e3, ga_sw]
    by_cases c10 : j = 10
    · subst c10
      rw [if_pos rfl, upd_at]
      by_cases ci : i = M 0 0
      · rw [if_pos ci, if_pos ⟨rfl, ci⟩]
      · rw [if_neg ci, if_neg (by omega), if_neg (by omega), if_neg (by omega), e2, e1]; rfl
    rw [if_neg c10, if_neg (by omega), e2, ga_sw]
    by_cases c9 : j = 9
    · subst c9
      rw [if_pos rfl, upd_at]
      by_cases ci : i = M 0 0
      · rw [if_pos ci, if_pos ⟨rfl, ci⟩]
      · rw [if_neg ci, if_neg (by omega), if_neg (by omega), e1]; rfl
    rw [if_neg c9, if_neg (by omega), e1, ga_sw]
    by_cases c8 : j = 8
    · subst c8
      rw [if_pos rfl, upd_at]
      by_cases ci : i = M 0 0
      · rw [if_pos ci, if_pos ⟨rfl, ci⟩]
      · rw [if_neg ci, if_neg (by omega)]
    rw [if_neg c8, if_neg (by omega)]
  obtain ⟨hi, hs, hq, hd⟩ := h
  refine ⟨fun j hj => ?_, fun j j1 j2 s hs' => ?_, fun p hp => ?_, fun j j1 j2 d hd' => ?_⟩
  · rw [gI]
    by_cases c : j = 0
    · subst c; rw [if_pos rfl]; rfl
    · rw [if_neg c, hi j hj, adS_k M m w o c (by omega)]
  · rw [adS_0] at hs'
    rw [gA]
    by_cases e : s = M 0 0
    · subst e
      have : j = 8 ∨ j = 9 ∨ j = 10 := by omega
      rcases this with rfl | rfl | rfl
      · rw [if_neg (by omega), if_neg (by omega), if_pos ⟨rfl, rfl⟩, adS_8]
      · rw [if_neg (by omega), if_pos ⟨rfl, rfl⟩, adS_9]
      · rw [if_pos ⟨rfl, rfl⟩, adS_10]
    · rw [if_neg (by omega), if_neg (by omega), if_neg (by omega), hs j j1 j2 s (by omega), adS_k M m w o (by omega) (by omega)]
  · rw [gA, if_neg (by omega), if_neg (by omega), if_neg (by omega), gL]
    exact hq p hp
  · rw [gA, if_neg (by omega), if_neg (by omega), if_neg (by omega), adS_k M m w o (by omega) (by omega)]
    exact hd j j1 j2 d hd'
theorem c_addPerson {M : MH} {c x : Nat} {u : St} {post : St → Prop} (h5 : M 1 0 < 5) (h : CH u M) (k : ∀ u', CH u' (adP M c x) → post u') : qX2_addPerson (lN c) (nI x) u post := by
  have hin : vp_in (nI (M 1 0)) 5 := vp_in_nI (by omega) (by omega)
  have ec : (nI (M 1 0)).toNatClampNeg = M 1 0 := nI_clamp (by omega)
  have g0 : gi u 1 = nI (M 1 0) := ch_k h (by omega)
  unfold qX2_addPerson
  refine ⟨by rw [g0]; exact hin, fun u1 e1 => ?_⟩
  have g1 : gi u1 1 = nI (M 1 0) := by rw [e1]; exact g0
  refine ⟨by rw [g1]; exact hin, fun u2 e2 u3 e3 => k u3 ?_⟩
  have g2 : gi u2 1 = nI (M 1 0) := by rw [e2]; exact g1
  rw [g0, ec] at e1
  rw [g1, ec] at e2
  rw [g2, nI_1] at e3
  have gI : ∀ j, gi u3 j = if j = 1 then nI (M 1 0 + 1) else gi u j := fun j => by rw [e3, e2, e1]; rfl
  have gL : ∀ i, gl u3 13 i = if i = M 1 0 then lN c else gl u 13 i := fun i => by rw [e3, gl_si, e2, gl_sw, e1, gl_sx, if_pos rfl, updL_at]
  have gA : ∀ j i, ga u3 j i = if j = 12 ∧ i = M 1 0 then nI x else ga u j i := fun j i => by
    rw [e3, ga_si, e2, ga_sw]
    by_cases c12 : j = 12
    · subst c12
      rw [if_pos rfl, upd_at]
      by_cases ci : i = M 1 0
      · rw [if_pos ci, if_pos ⟨rfl, ci⟩]
      · rw [if_neg ci, if_neg (by omega), e1]; rfl
    rw [if_neg c12, if_neg (by omega), e1]; rfl
  obtain ⟨hi, hs, hq, hd⟩ := h
  refine ⟨fun j hj => ?_, fun j j1 j2 s hs' => ?_, fun p hp => ?_, fun j j1 j2 d hd' => ?_⟩
  · rw [gI]
    by_cases c1 : j = 1
    · subst c1; rw [if_pos rfl]; rfl
    · rw [if_neg c1, hi j hj, adP_k M c x c1 (by omega)]
  · rw [gA, if_neg (by omega), adP_k M c x (by omega) (by omega)]
    exact hs j j1 j2 s hs'
  · rw [adP_1] at hp
    rw [gA, gL]
    by_cases e : p = M 1 0
    · subst e
      rw [if_pos ⟨rfl, rfl⟩, if_pos rfl, adP_12, adP_13]
      exact ⟨rfl, rfl⟩
    · rw [if_neg (by omega), if_neg e, adP_k M c x (k := 12) (by decide) (by omega), adP_k M c x (k := 13) (by decide) (by omega)]
      exact hq p (by omega)
  · rw [gA, if_neg (by omega), adP_k M c x (by omega) (by omega)]
    exact hd j j1 j2 d hd'
