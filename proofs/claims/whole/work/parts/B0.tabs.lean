/-! STEPS 45: times as a function of the text; what holds of rows -/
def pTs {R : Type} (T : Nat → Nat) (n : Nat) (M : MH) (t : Tk) (K : Nat → Nat → Nat → Nat → Tk → R) (F : Nat → Nat → R) : R :=
  pIf T n 23 t (fun t => pNu T n 0 ((M 0 0 : Int) - 1) t (fun a t => K 9 a 0 0 t) F) (fun t => pIf T n 24 t (fun t => pNu T n 0 6 t (fun a t => K 10 a 0 0 t) F) (fun t => pIf T n 7 t (fun t => pPe T n M 99 t (fun p t => pCm T n t (fun c t => pNu T n 0 9999 t (fun v t => K 11 p v c t) F) F) F) (fun t => pWd T n 12 t (fun t => pNu T n 0 6 t (fun a t => pCm T n t (fun c t => pNu T n 0 999 t (fun v t => K 12 a v c t) F) F) F) F)))
def pAc {R : Type} (T : Nat → Nat) (n : Nat) (M : MH) (k : Nat) (t : Tk) (K : Nat → Nat → Nat → Nat → Tk → R) (F : Nat → Nat → R) : R :=
  match k with
  | 0 => pNu T n 1 20 t (fun a t => K 0 a 0 0 t) F
  | 1 => pNu T n 0 6 t (fun a t => K 1 a 0 0 t) F
  | 2 => pNu T n 0 6 t (fun a t => pNu T n 1 99 t (fun b t => K 2 a b 0 t) F) F
  | 3 => pNu T n 0 ((M 0 0 : Int) - 1) t (fun a t => K 3 a 0 0 t) F
  | 4 => pPe T n M 99 t (fun a t => pNu T n 1 99 t (fun b t => K 4 a b 0 t) F) F
  | 5 => K 5 0 0 0 t
  | 6 => K 6 0 0 0 t
  | 7 => pNu T n 1 99 t (fun a t => K 7 a 0 0 t) F
  | _ => pTs T n M t K F
/-- a step's word: its kind (99: none) -/
def kN (w : Int32) : Nat := if w = nI 13 then 0 else if w = nI 14 then 1 else if w = nI 15 then 2 else if w = nI 16 then 3 else if w = nI 17 then 4 else if w = nI 18 then 5 else if w = nI 19 then 8 else if w = nI 20 then 7 else if w = nI 22 then 6 else 99
/-- rows, how many, steps, depth, what is open -/
abbrev TS : Type := MH × Nat × Nat × Nat × (Nat → Nat)
def adR (N : MH) (n k a b c : Nat) : MH := mp (mp (mp (mp N 0 n k) 1 n a) 2 n b) 3 n c
def upN (O : Nat → Nat) (d n : Nat) : Nat → Nat := fun e => if e = d then n else O e
def bkN (k : Nat) : Bool := k = 7 || k = 8
def tsA (S : TS) (g : Bool) (k a b c : Nat) : TS := (adR S.1 S.2.1 k a b c, S.2.1 + 1, S.2.2.1 + 1, if g then S.2.2.2.1 + 1 else S.2.2.2.1, if g then upN S.2.2.2.2 S.2.2.2.1 S.2.1 else S.2.2.2.2)
def tsE (S : TS) : TS := (mp (mp (adR S.1 S.2.1 13 0 0 0) 4 S.2.1 (S.2.2.2.2 (S.2.2.2.1 - 1))) 4 (S.2.2.2.2 (S.2.2.2.1 - 1)) S.2.1, S.2.1 + 1, S.2.2.1, S.2.2.2.1 - 1, S.2.2.2.2)
def pSp {R : Type} (T : Nat → Nat) (n : Nat) (M : MH) (S : TS) (t : Tk) (K : TS → Tk → R) (F : Nat → Nat → R) : R :=
  if wdT T t = nI 21 then (if S.2.2.2.1 = 0 then F (fltT t 2) t.2.1 else pSm T n (nxT T n t) (fun t => K (tsE S) t) F)
  else if kN (wdT T t) = 99 then F (fltT t 2) t.2.1
  else if S.2.2.1 < 30 then (if bkN (kN (wdT T t)) = true ∧ ¬ S.2.2.2.1 < 3 then F (fltT t 7) t.2.1 else pAc T n M (kN (wdT T t)) (nxT T n t) (fun k a b c t' => pSm T n t' (fun t' => K (tsA S (bkN (kN (wdT T t))) k a b c) t') F) F)
  else F (fltT t 6) t.2.1
def pTe {R : Type} (S : TS) (t : Tk) (K : TS → R) (F : Nat → Nat → R) : R := if S.2.2.2.1 = 0 then K S else F (fltT t 2) t.2.1
def pTm {R : Type} (T : Nat → Nat) (n : Nat) (M : MH) : Nat → TS → Tk → (TS → R) → (Nat → Nat → R) → R
  | 0, S, t, K, F => pTe S t K F
  | m + 1, S, t, K, F => if t.1 = 0 then pTe S t K F else pSp T n M S t (fun S t => pTm T n M m S t K F) F
/-- a row can be -/
def rwk (M : MH) (k a b c : Nat) : Prop := (∃ k1, kR k k1) ∧ a ≤ 99 ∧ b ≤ 9999 ∧ c ≤ 255 ∧ (k = 0 → 1 ≤ a ∧ a ≤ 20) ∧ (k = 7 → 1 ≤ a) ∧ (k = 1 ∨ k = 2 ∨ k = 10 ∨ k = 12 → a ≤ 6) ∧ (k = 3 ∨ k = 9 → a < M 0 0) ∧ (k = 4 ∨ k = 11 → a < M 1 0) ∧ (k = 2 ∨ k = 4 → 1 ≤ b ∧ b ≤ 99)
abbrev bkK (k : Nat) : Prop := k = 7 ∨ (9 ≤ k ∧ k ≤ 12)
def iT (M : MH) (S : TS) : Prop :=
  S.2.1 + S.2.2.2.1 ≤ 2 * S.2.2.1 ∧ S.2.2.1 ≤ 30 ∧ S.2.2.2.1 ≤ 3 ∧ (∀ i, i < S.2.1 → rwk M (S.1 0 i) (S.1 1 i) (S.1 2 i) (S.1 3 i)) ∧
  (∀ e, e < S.2.2.2.1 → S.2.2.2.2 e < S.2.1 ∧ bkK (S.1 0 (S.2.2.2.2 e))) ∧ (∀ e f, e < f → f < S.2.2.2.1 → S.2.2.2.2 e < S.2.2.2.2 f) ∧
  (∀ i, i < S.2.1 → bkK (S.1 0 i) → (∃ e, e < S.2.2.2.1 ∧ S.2.2.2.2 e = i) ∨ (i < S.1 4 i ∧ S.1 4 i < S.2.1 ∧ S.1 0 (S.1 4 i) = 13 ∧ S.1 4 (S.1 4 i) = i)) ∧
  (∀ i, i < S.2.1 → S.1 0 i = 13 → S.1 4 i < i ∧ bkK (S.1 0 (S.1 4 i)) ∧ S.1 4 (S.1 4 i) = i) ∧
  (∀ i j, i < S.2.1 → j < S.2.1 → S.1 0 i = 13 → S.1 0 j = 13 → S.1 4 i < j → j < i → S.1 4 i < S.1 4 j) ∧
  ∀ e j, e < S.2.2.2.1 → j < S.2.1 → S.1 0 j = 13 → S.2.2.2.2 e < j → S.2.2.2.2 e < S.1 4 j
theorem adR_ne {N : MH} {n k a b c x i : Nat} (h : i ≠ n ∨ 3 < x) : adR N n k a b c x i = N x i := by
  unfold adR
  rw [mp_ne (by omega), mp_ne (by omega), mp_ne (by omega), mp_ne (by omega)]
theorem adR_0 (N : MH) (n k a b c : Nat) : adR N n k a b c 0 n = k := by
  unfold adR
  rw [mp_ne (by omega), mp_ne (by omega), mp_ne (by omega), mp_eq]
theorem adR_1 (N : MH) (n k a b c : Nat) : adR N n k a b c 1 n = a := by
  unfold adR
  rw [mp_ne (by omega), mp_ne (by omega), mp_eq]
theorem adR_2 (N : MH) (n k a b c : Nat) : adR N n k a b c 2 n = b := by
  unfold adR
  rw [mp_ne (by omega), mp_eq]
theorem adR_3 (N : MH) (n k a b c : Nat) : adR N n k a b c 3 n = c := by
  unfold adR
  rw [mp_eq]
theorem it_0 (M : MH) : iT M (M00, 0, 0, 0, fun _ => 0) := ⟨by decide, by decide, by decide, fun i hi => absurd hi (Nat.not_lt_zero _), fun e he => absurd he (Nat.not_lt_zero _), fun e f _ he => absurd he (Nat.not_lt_zero _), fun i hi => absurd hi (Nat.not_lt_zero _), fun i hi => absurd hi (Nat.not_lt_zero _), fun i j hi => absurd hi (Nat.not_lt_zero _), fun e j he => absurd he (Nat.not_lt_zero _)⟩
theorem it_add {M : MH} {S : TS} {k a b c : Nat} (h : iT M S) (hs : S.2.2.1 < 30) (hr : rwk M k a b c) (hk : k ≤ 6) : iT M (tsA S false k a b c) := by
  obtain ⟨N, n, s, d, O⟩ := S
  obtain ⟨h1, h2, h3, h4, h5, h6, h7, h8, h9, h10⟩ := h
  simp only at h1 h2 h3 h4 h5 h6 h7 h8 h9 h10 hs
  have E : ∀ {x i : Nat}, i < n → adR N n k a b c x i = N x i := fun hi => adR_ne (by omega)
  have E4 : ∀ {i : Nat}, adR N n k a b c 4 i = N 4 i := adR_ne (by omega)
  have E0 := adR_0 N n k a b c
  refine ⟨?_, ?_, h3, fun i hi => ?_, fun e he => ?_, h6, fun i hi hb => ?_, fun i hi hb => ?_, fun i j hi hj hb hc => ?_, fun e j he hj hb => ?_⟩
  · show n + 1 + d ≤ 2 * (s + 1)
    omega
  · show s + 1 ≤ 30
    omega
  · show rwk M (adR N n k a b c 0 i) (adR N n k a b c 1 i) (adR N n k a b c 2 i) (adR N n k a b c 3 i)
    replace hi : i < n + 1 := hi
    by_cases e : i = n
    · subst e
      rw [adR_0, adR_1, adR_2, adR_3]
      exact hr
    · rw [E (by omega), E (by omega), E (by omega), E (by omega)]
      exact h4 i (by omega)
  · have := h5 e he
    show O e < n + 1 ∧ bkK (adR N n k a b c 0 (O e))
    rw [E this.1]
    exact ⟨by omega, this.2⟩
  · have hi : i < n + 1 := hi
    replace hb : bkK (adR N n k a b c 0 i) := hb
    show (∃ e, e < d ∧ O e = i) ∨ (i < adR N n k a b c 4 i ∧ adR N n k a b c 4 i < n + 1 ∧ adR N n k a b c 0 (adR N n k a b c 4 i) = 13 ∧ adR N n k a b c 4 (adR N n k a b c 4 i) = i)
    rw [E4, E4]
    by_cases e : i = n
    · subst e
      rw [E0] at hb
      omega
    · rw [E (by omega)] at hb
      refine (h7 i (by omega) hb).imp id (fun q => ?_)
      rw [E q.2.1]
      exact ⟨q.1, by omega, q.2.2⟩
  · have hi : i < n + 1 := hi
    replace hb : adR N n k a b c 0 i = 13 := hb
    show adR N n k a b c 4 i < i ∧ bkK (adR N n k a b c 0 (adR N n k a b c 4 i)) ∧ adR N n k a b c 4 (adR N n k a b c 4 i) = i
    rw [E4, E4]
    by_cases e : i = n
    · subst e
      rw [E0] at hb
      omega
    · rw [E (by omega)] at hb
      have q := h8 i (by omega) hb
      rw [E (by omega)]
      exact q
  · have hi : i < n + 1 := hi
    replace hj : j < n + 1 := hj
    replace hb : adR N n k a b c 0 i = 13 := hb
    replace hc : adR N n k a b c 0 j = 13 := hc
    show adR N n k a b c 4 i < j → j < i → adR N n k a b c 4 i < adR N n k a b c 4 j
    rw [E4, E4]
    by_cases e : i = n
    · subst e
      rw [E0] at hb
      omega
    by_cases e : j = n
    · subst e
      rw [E0] at hc
      omega
    rw [E (by omega)] at hb hc
    exact h9 i j (by omega) (by omega) hb hc
  · replace hj : j < n + 1 := hj
    replace hb : adR N n k a b c 0 j = 13 := hb
    show O e < j → O e < adR N n k a b c 4 j
    rw [E4]
    by_cases e : j = n
    · subst e
      rw [E0] at hb
      omega
    rw [E (by omega)] at hb
    exact h10 _ j he (by omega) hb
theorem it_open {M : MH} {S : TS} {k a b c : Nat} (h : iT M S) (hs : S.2.2.1 < 30) (hd : S.2.2.2.1 < 3) (hr : rwk M k a b c) (hk : bkK k) : iT M (tsA S true k a b c) := by
  obtain ⟨N, n, s, d, O⟩ := S
  obtain ⟨h1, h2, h3, h4, h5, h6, h7, h8, h9, h10⟩ := h
  simp only at h1 h2 h3 h4 h5 h6 h7 h8 h9 h10 hs hd
  have E : ∀ {x i : Nat}, i < n → adR N n k a b c x i = N x i := fun hi => adR_ne (by omega)
  have E4 : ∀ {i : Nat}, adR N n k a b c 4 i = N 4 i := adR_ne (by omega)
  have E0 := adR_0 N n k a b c
  have U : ∀ {e : Nat}, e < d → upN O d n e = O e := fun he => if_neg (by omega)
  have Ud : upN O d n d = n := if_pos rfl
  refine ⟨?_, ?_, ?_, fun i hi => ?_, fun e he => ?_, fun e f hef hf => ?_, fun i hi hb => ?_, fun i hi hb => ?_, fun i j hi hj hb hc => ?_, fun e j he hj hb => ?_⟩
  · show n + 1 + (d + 1) ≤ 2 * (s + 1)
    omega
  · show s + 1 ≤ 30
    omega
  · show d + 1 ≤ 3
    omega
  · show rwk M (adR N n k a b c 0 i) (adR N n k a b c 1 i) (adR N n k a b c 2 i) (adR N n k a b c 3 i)
    replace hi : i < n + 1 := hi
    by_cases e : i = n
    · subst e
      rw [adR_0, adR_1, adR_2, adR_3]
      exact hr
    · rw [E (by omega), E (by omega), E (by omega), E (by omega)]
      exact h4 i (by omega)
  · have he : e < d + 1 := he
    show upN O d n e < n + 1 ∧ bkK (adR N n k a b c 0 (upN O d n e))
    by_cases q : e = d
    · subst q
      rw [Ud, E0]
      exact ⟨by omega, hk⟩
    · have := h5 e (by omega)
      rw [U (by omega), E this.1]
      exact ⟨by omega, this.2⟩
  · have hf : f < d + 1 := hf
    show upN O d n e < upN O d n f
    by_cases q : f = d
    · subst q
      rw [Ud, U hef]
      exact (h5 e hef).1
    · rw [U (by omega), U (by omega)]
      exact h6 e f hef (by omega)
  · have hi : i < n + 1 := hi
    replace hb : bkK (adR N n k a b c 0 i) := hb
    show (∃ e, e < d + 1 ∧ upN O d n e = i) ∨ (i < adR N n k a b c 4 i ∧ adR N n k a b c 4 i < n + 1 ∧ adR N n k a b c 0 (adR N n k a b c 4 i) = 13 ∧ adR N n k a b c 4 (adR N n k a b c 4 i) = i)
    rw [E4, E4]
    by_cases e : i = n
    · subst e
      exact Or.inl ⟨d, by omega, Ud⟩
    · rw [E (by omega)] at hb
      refine (h7 i (by omega) hb).imp (fun ⟨e, he, q⟩ => ⟨e, by omega, by rw [U he]; exact q⟩) (fun q => ?_)
      rw [E q.2.1]
      exact ⟨q.1, by omega, q.2.2⟩
  · have hi : i < n + 1 := hi
    replace hb : adR N n k a b c 0 i = 13 := hb
    show adR N n k a b c 4 i < i ∧ bkK (adR N n k a b c 0 (adR N n k a b c 4 i)) ∧ adR N n k a b c 4 (adR N n k a b c 4 i) = i
    rw [E4, E4]
    by_cases e : i = n
    · subst e
      rw [E0] at hb
      omega
    · rw [E (by omega)] at hb
      have q := h8 i (by omega) hb
      rw [E (by omega)]
      exact q
  · have hi : i < n + 1 := hi
    replace hj : j < n + 1 := hj
    replace hb : adR N n k a b c 0 i = 13 := hb
    replace hc : adR N n k a b c 0 j = 13 := hc
    show adR N n k a b c 4 i < j → j < i → adR N n k a b c 4 i < adR N n k a b c 4 j
    rw [E4, E4]
    by_cases e : i = n
    · subst e
      rw [E0] at hb
      omega
    by_cases e : j = n
    · subst e
      rw [E0] at hc
      omega
    rw [E (by omega)] at hb hc
    exact h9 i j (by omega) (by omega) hb hc
  · replace hj : j < n + 1 := hj
    replace he : e < d + 1 := he
    replace hb : adR N n k a b c 0 j = 13 := hb
    show upN O d n e < j → upN O d n e < adR N n k a b c 4 j
    rw [E4]
    by_cases q : j = n
    · subst q
      rw [E0] at hb
      omega
    rw [E (by omega)] at hb
    by_cases q2 : e = d
    · subst q2
      rw [Ud]
      omega
    · rw [U (by omega)]
      exact h10 _ j (by omega) (by omega) hb
theorem it_end {M : MH} {S : TS} (h : iT M S) (hd : 0 < S.2.2.2.1) : iT M (tsE S) := by
  obtain ⟨N, n, s, d, O⟩ := S
  obtain ⟨h1, h2, h3, h4, h5, h6, h7, h8, h9, h10⟩ := h
  simp only at h1 h2 h3 h4 h5 h6 h7 h8 h9 h10 hd
  obtain ⟨q1, q2⟩ := h5 (d - 1) (by omega)
  have key : ∀ j, j < n → N 0 j = 13 → N 4 j ≠ O (d - 1) := fun j hj hb q => by
    have a := h8 j hj hb
    have b := h10 (d - 1) j (by omega) hj hb (by omega)
    omega
  have hne : ∀ e, e < d - 1 → O e < O (d - 1) := fun e he => h6 e (d - 1) he (by omega)
  show iT M (mp (mp (adR N n 13 0 0 0) 4 n (O (d - 1))) 4 (O (d - 1)) n, n + 1, s, d - 1, O)
  generalize hN : mp (mp (adR N n 13 0 0 0) 4 n (O (d - 1))) 4 (O (d - 1)) n = N1
  have X : ∀ {x i : Nat}, x ≠ 4 → i < n → N1 x i = N x i := fun hx hi => by
    rw [← hN, mp_ne (by omega), mp_ne (by omega), adR_ne (by omega)]
  have X4 : ∀ {i : Nat}, i < n → i ≠ O (d - 1) → N1 4 i = N 4 i := fun hi h => by
    rw [← hN, mp_ne (by omega), mp_ne (by omega), adR_ne (by omega)]
  have Xo : N1 4 (O (d - 1)) = n := by rw [← hN, mp_eq]
  have Xn : N1 4 n = O (d - 1) := by rw [← hN, mp_ne (by omega), mp_eq]
  have X0 : N1 0 n = 13 := by rw [← hN, mp_ne (by omega), mp_ne (by omega), adR_0]
  have X1 : N1 1 n = 0 := by rw [← hN, mp_ne (by omega), mp_ne (by omega), adR_1]
  have X2 : N1 2 n = 0 := by rw [← hN, mp_ne (by omega), mp_ne (by omega), adR_2]
  have X3 : N1 3 n = 0 := by rw [← hN, mp_ne (by omega), mp_ne (by omega), adR_3]
  refine ⟨?_, h2, ?_, fun i hi => ?_, fun e he => ?_, fun e f hef hf => ?_, fun i hi hb => ?_, fun i hi hb => ?_, fun i j hi hj hb hc => ?_, fun e j he hj hb => ?_⟩
  · show n + 1 + (d - 1) ≤ 2 * s
    omega
  · show d - 1 ≤ 3
    omega
  · show rwk M (N1 0 i) (N1 1 i) (N1 2 i) (N1 3 i)
    replace hi : i < n + 1 := hi
    by_cases e : i = n
    · subst e
      rw [X0, X1, X2, X3]
      exact ⟨⟨21, by unfold kR; omega⟩, by omega, by omega, by omega, by omega, by omega, by omega, by omega, by omega, by omega⟩
    · rw [X (by omega) (by omega), X (by omega) (by omega), X (by omega) (by omega), X (by omega) (by omega)]
      exact h4 i (by omega)
  · have he : e < d - 1 := he
    have := h5 e (by omega)
    show O e < n + 1 ∧ bkK (N1 0 (O e))
    rw [X (by omega) this.1]
    exact ⟨by omega, this.2⟩
  · have hf : f < d - 1 := hf
    exact h6 e f hef (by omega)
  · have hi : i < n + 1 := hi
    replace hb : bkK (N1 0 i) := hb
    show (∃ e, e < d - 1 ∧ O e = i) ∨ (i < N1 4 i ∧ N1 4 i < n + 1 ∧ N1 0 (N1 4 i) = 13 ∧ N1 4 (N1 4 i) = i)
    by_cases e : i = n
    · subst e
      rw [X0] at hb
      omega
    by_cases e2 : i = O (d - 1)
    · subst e2
      rw [Xo, X0, Xn]
      exact Or.inr ⟨q1, by omega, rfl, rfl⟩
    · rw [X (by omega) (by omega)] at hb
      rw [X4 (by omega) e2]
      rcases h7 i (by omega) hb with ⟨f, hf, q⟩ | q
      · have : f ≠ d - 1 := fun z => e2 (by rw [← q, z])
        exact Or.inl ⟨f, by omega, q⟩
      · have : N 4 i ≠ O (d - 1) := fun z => by
          rw [← z] at q2
          have := q.2.2.1
          omega
        rw [X (by omega) q.2.1, X4 q.2.1 this]
        exact Or.inr ⟨q.1, by omega, q.2.2⟩
  · have hi : i < n + 1 := hi
    replace hb : N1 0 i = 13 := hb
    show N1 4 i < i ∧ bkK (N1 0 (N1 4 i)) ∧ N1 4 (N1 4 i) = i
    by_cases e : i = n
    · subst e
      rw [Xn, Xo, X (by omega) q1]
      exact ⟨q1, q2, rfl⟩
    · rw [X (by omega) (by omega)] at hb
      have q := h8 i (by omega) hb
      have k1 := key i (by omega) hb
      have : i ≠ O (d - 1) := fun z => by
        rw [← z] at q2
        omega
      rw [X4 (by omega) this, X (by omega) (by omega), X4 (by omega) k1]
      exact q
  · have hi : i < n + 1 := hi
    replace hj : j < n + 1 := hj
    replace hb : N1 0 i = 13 := hb
    replace hc : N1 0 j = 13 := hc
    show N1 4 i < j → j < i → N1 4 i < N1 4 j
    intro a b
    have hj' : j < n := by omega
    rw [X (by omega) hj'] at hc
    have : j ≠ O (d - 1) := fun z => by
      rw [← z] at q2
      omega
    rw [X4 hj' this]
    by_cases e : i = n
    · subst e
      rw [Xn] at a ⊢
      exact h10 (d - 1) j (by omega) hj' hc a
    · rw [X (by omega) (by omega)] at hb
      have : i ≠ O (d - 1) := fun z => by
        rw [← z] at q2
        omega
      rw [X4 (by omega) this] at a ⊢
      exact h9 i j (by omega) hj' hb hc a b
  · replace hj : j < n + 1 := hj
    replace he : e < d - 1 := he
    replace hb : N1 0 j = 13 := hb
    show O e < j → O e < N1 4 j
    intro a
    by_cases q : j = n
    · subst q
      rw [Xn]
      exact hne e he
    · rw [X (by omega) (by omega)] at hb
      have : j ≠ O (d - 1) := fun z => by
        rw [← z] at q2
        omega
      rw [X4 (by omega) this]
      exact h10 e j (by omega) (by omega) hb a
theorem it_ok {M : MH} {S : TS} (h : iT M S) (h0 : S.2.2.2.1 = 0) : okT M S.1 S.2.1 := by
  obtain ⟨N, n, s, d, O⟩ := S
  obtain ⟨h1, h2, h3, h4, h5, h6, h7, h8, h9, h10⟩ := h
  simp only at h1 h2 h3 h4 h5 h6 h7 h8 h9 h10 h0
  refine ⟨by show n ≤ 60; omega, fun i hi => ?_⟩
  obtain ⟨r1, r2, r3, r4, r5, r6, r7, r8, r9, r10⟩ := h4 i hi
  refine ⟨r1, r2, r3, r4, r5, r6, r7, r8, r9, r10, fun q => ?_, fun q => h8 i hi q, fun j hj q => h9 i j hi hj q.1 q.2.1 q.2.2.1 q.2.2.2⟩
  rcases h7 i hi q with ⟨e, he, _⟩ | q
  · omega
  · exact q
/-- signs are four -/
def sgT (t : Tk) : Prop := t.1 = 3 → t.2.2.2 = 59 ∨ t.2.2.2 = 60 ∨ t.2.2.2 = 61 ∨ t.2.2.2 = 62
theorem tok_sg (T : Nat → Nat) (n e : Nat) : sgT (tok T n e) := by
  unfold tok
  generalize runE (blB T) (n - e) e = p
  unfold tkK
  split
  · intro h; exact absurd h (by show ¬ (0 = 3); omega)
  · split
    · intro h; exact absurd h (by show ¬ (1 = 3); omega)
    · split
      · split
        · intro h; exact absurd h (by show ¬ (2 = 3); omega)
        · intro h; exact absurd h (by show ¬ (4 = 3); omega)
      · split
        · rename_i c
          intro _
          exact c
        · intro h; exact absurd h (by show ¬ (4 = 3); omega)
theorem pPe_2 {R : Type} {r : R} {T : Nat → Nat} {n but : Nat} {M : MH} {t : Tk} {K : Nat → Tk → R} {F : Nat → Nat → R} (h : pPe T n M but t K F = r) : pPe T n M but t (fun v t' => (K v t', t')) (fun f p => (F f p, nxT T n t)) = (r, nxT T n t) := by
  rw [← h]
  unfold pPe
  split
  · split
    · split <;> rfl
    · rfl
  · rfl
theorem pNu_2 {R : Type} {r : R} {T : Nat → Nat} {n : Nat} {l g : Int} {t : Tk} {K : Nat → Tk → R} {F : Nat → Nat → R} (h : pNu T n l g t K F = r) : pNu T n l g t (fun v t' => (K v t', t')) (fun f p => (F f p, nxT T n t)) = (r, nxT T n t) := by
  rw [← h]
  unfold pNu
  split
  · split <;> rfl
  · rfl
