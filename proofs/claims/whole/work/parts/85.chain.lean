/-! STEPS 20: chains, what holds of them -/
/-- what of a set a person owes, is owed -/
def otS (M : MH) (p S : Nat) : Nat := sumF (fun d => if S.testBit d = true ∧ M 14 d = p then owd M d else 0) (M 2 0)
def inS (M : MH) (p S : Nat) : Nat := sumF (fun d => if S.testBit d = true ∧ M 15 d = p then owd M d else 0) (M 2 0)
theorem sumF_add {f g : Nat → Nat} {d x : Nat} (hf : ∀ i, i ≠ d → g i = f i) (hd : f d = 0 ∧ g d = x) : ∀ n, sumF g n = sumF f n + if d < n then x else 0 := by
  intro n
  induction n with
  | zero => rfl
  | succ n ih =>
    rw [sumF, sumF, ih]
    by_cases c : n = d
    · subst c
      rw [hd.1, hd.2, if_neg (by omega), if_pos (by omega)]
    · rw [hf n c]
      by_cases c2 : d < n
      · rw [if_pos c2, if_pos (by omega)]
        omega
      · rw [if_neg c2, if_neg (by omega)]
        omega
theorem tb_or1 (S d i : Nat) : (S ||| 2 ^ d).testBit i = (S.testBit i || decide (i = d)) := by
  rw [Nat.testBit_or, Nat.testBit_two_pow]
  congr 1
  exact decide_eq_decide.mpr eq_comm
theorem otS_add {M : MH} {p S d : Nat} (hd : d < M 2 0) (hS : S.testBit d = false) : otS M p (S ||| 2 ^ d) = otS M p S + if M 14 d = p then owd M d else 0 := by
  have := sumF_add (f := fun d => if S.testBit d = true ∧ M 14 d = p then owd M d else 0) (g := fun e => if (S ||| 2 ^ d).testBit e = true ∧ M 14 e = p then owd M e else 0) (d := d) (x := if M 14 d = p then owd M d else 0) (fun i hi => by
    show (if (S ||| 2 ^ d).testBit i = true ∧ M 14 i = p then owd M i else 0) = if S.testBit i = true ∧ M 14 i = p then owd M i else 0
    rw [tb_or1, decide_eq_false hi, Bool.or_false]) ⟨by
    show (if S.testBit d = true ∧ M 14 d = p then owd M d else 0) = 0
    rw [if_neg (fun q => by rw [hS] at q; exact absurd q.1 (by decide))], by
    show (if (S ||| 2 ^ d).testBit d = true ∧ M 14 d = p then owd M d else 0) = _
    rw [tb_or1, decide_eq_true rfl, Bool.or_true]
    by_cases c : M 14 d = p
    · rw [if_pos ⟨rfl, c⟩, if_pos c]
    · rw [if_neg (fun q => c q.2), if_neg c]⟩ (M 2 0)
  rw [if_pos hd] at this
  exact this
theorem inS_add {M : MH} {p S d : Nat} (hd : d < M 2 0) (hS : S.testBit d = false) : inS M p (S ||| 2 ^ d) = inS M p S + if M 15 d = p then owd M d else 0 := by
  have := sumF_add (f := fun d => if S.testBit d = true ∧ M 15 d = p then owd M d else 0) (g := fun e => if (S ||| 2 ^ d).testBit e = true ∧ M 15 e = p then owd M e else 0) (d := d) (x := if M 15 d = p then owd M d else 0) (fun i hi => by
    show (if (S ||| 2 ^ d).testBit i = true ∧ M 15 i = p then owd M i else 0) = if S.testBit i = true ∧ M 15 i = p then owd M i else 0
    rw [tb_or1, decide_eq_false hi, Bool.or_false]) ⟨by
    show (if S.testBit d = true ∧ M 15 d = p then owd M d else 0) = 0
    rw [if_neg (fun q => by rw [hS] at q; exact absurd q.1 (by decide))], by
    show (if (S ||| 2 ^ d).testBit d = true ∧ M 15 d = p then owd M d else 0) = _
    rw [tb_or1, decide_eq_true rfl, Bool.or_true]
    by_cases c : M 15 d = p
    · rw [if_pos ⟨rfl, c⟩, if_pos c]
    · rw [if_neg (fun q => c q.2), if_neg c]⟩ (M 2 0)
  rw [if_pos hd] at this
  exact this
theorem sumF_mono {f g : Nat → Nat} (h : ∀ i, f i ≤ g i) : ∀ n, sumF f n ≤ sumF g n := by
  intro n
  induction n with
  | zero => exact Nat.le_refl _
  | succ n ih =>
    have := h n
    rw [sumF, sumF]
    omega
theorem otS_le {M : MH} (ok : okH M) (p S : Nat) : otS M p S ≤ 7686 := Nat.le_trans (sumF_mono (fun i => by
  show (if S.testBit i = true ∧ M 14 i = p then owd M i else 0) ≤ owd M i
  split
  · exact Nat.le_refl _
  · exact Nat.zero_le _) _) (allOwed_le ok)
/-- the house when the debts of S are paid, in some order -/
def relC (M : MH) (S : Nat) (H : MH) : Prop := okH H ∧ (∀ k i, k ≠ 12 → (k ≠ 6 ∨ i ≠ 0) → H k i = M k i) ∧ H 6 0 = M 6 0 ||| S ∧ S < 2 ^ M 2 0 ∧ ∀ p, p < M 1 0 → H 12 p + otS M p S ≤ M 12 p + inS M p S ∧ (H 12 p + otS M p S = M 12 p + inS M p S ∨ 9999 ≤ H 12 p + otS M p S)
/-- a debt can be paid behind those of S -/
def pyb (M : MH) (S d : Nat) : Prop := (M 6 0).testBit d = false ∧ S.testBit d = false ∧ otS M (M 14 d) S + owd M d ≤ M 12 (M 14 d) + inS M (M 14 d) S
theorem rel_k {M H : MH} {S : Nat} (h : relC M S H) {k i : Nat} (h1 : k ≠ 12) (h2 : k ≠ 6) : H k i = M k i := h.2.1 k i h1 (Or.inl h2)
theorem rel_0 {M : MH} (ok : okH M) : relC M 0 M := by
  refine ⟨ok, fun _ _ _ _ => rfl, (Nat.or_zero _).symm, Nat.two_pow_pos _, fun p _ => ?_⟩
  have z : ∀ n, sumF (fun d => if (0 : Nat).testBit d = true ∧ M 14 d = p then owd M d else 0) n = 0 := by
    intro n
    induction n with
    | zero => rfl
    | succ n ih => rw [sumF, ih, Nat.zero_testBit, if_neg (fun q => absurd q.1 (by decide))]
  have z2 : ∀ n, sumF (fun d => if (0 : Nat).testBit d = true ∧ M 15 d = p then owd M d else 0) n = 0 := by
    intro n
    induction n with
    | zero => rfl
    | succ n ih => rw [sumF, ih, Nat.zero_testBit, if_neg (fun q => absurd q.1 (by decide))]
  unfold otS inS
  rw [z, z2]
  exact ⟨Nat.le_refl _, Or.inl rfl⟩
theorem rel_owd {M H : MH} {S d : Nat} (h : relC M S H) (hS : S.testBit d = false) : owd H d = owd M d := by
  unfold owd
  rw [h.2.2.1, Nat.testBit_or, hS, Bool.or_false, rel_k h (by decide) (by decide), rel_k h (by decide) (by decide)]
theorem pay_iff {M H : MH} {S d : Nat} (ok : okH M) (h : relC M S H) (hd : d < M 2 0) : cpy H d ↔ pyb M S d := by
  have od := ok_d ok hd
  unfold cpy pyb
  rw [h.2.2.1, Nat.testBit_or, Bool.or_eq_false_iff, and_assoc]
  refine and_congr_right (fun _ => and_congr_right (fun hS => ?_))
  rw [rel_owd h hS, rel_k h (k := 14) (by decide) (by decide)]
  obtain ⟨c1, c2⟩ := h.2.2.2.2 (M 14 d) od.1
  have h1 := otS_add (p := M 14 d) hd hS
  rw [if_pos rfl] at h1
  have h2 := otS_le ok (M 14 d) (S ||| 2 ^ d)
  omega
theorem rel_step {M H : MH} {S d : Nat} (ok : okH M) (h : relC M S H) (hd : d < M 2 0) (hc : cpy H d) : relC M (S ||| 2 ^ d) (pyp H d) := by
  have od := ok_d ok hd
  have e2 : H 2 0 = M 2 0 := rel_k h (by decide) (by decide)
  have e1 : H 1 0 = M 1 0 := rel_k h (by decide) (by decide)
  have e14 : H 14 d = M 14 d := rel_k h (by decide) (by decide)
  have e15 : H 15 d = M 15 d := rel_k h (by decide) (by decide)
  have hb := (pay_iff ok h hd).mp hc
  have hS := hb.2.1
  have ew := rel_owd h hS
  have hc2 : owd M d ≤ H 12 (M 14 d) := by have := hc.2; rw [ew, e14] at this; exact this
  refine ⟨pyp_ok h.1 (by omega), fun k i h1 h2 => ?_, ?_, Nat.or_lt_two_pow h.2.2.2.1 (Nat.pow_lt_pow_right (by decide) hd), fun p hp => ?_⟩
  · unfold pyp
    rw [mp_ne (by omega), hnd_ne h1]
    exact h.2.1 k i h1 h2
  · show mp _ 6 0 _ 6 0 = _
    rw [mp_eq, h.2.2.1, Nat.or_assoc]
  · have e12 : pyp H d 12 p = hnd H (M 14 d) (M 15 d) (owd M d) 12 p := by
      unfold pyp
      rw [mp_ne (by omega), e14, e15, ew]
    obtain ⟨c1, c2⟩ := h.2.2.2.2 p hp
    have h9 := (h.1.2.2.2.2.2.2.2.2.2.1 p (by omega)).1
    rw [e12, otS_add hd hS, inS_add hd hS]
    unfold hnd gan
    by_cases a : M 15 d = p
    · have na : ¬ M 14 d = p := fun q => od.2.2.1 (q.trans a.symm)
      rw [if_neg na, if_pos a, ← a, mp_eq, mp_ne (Or.inr (fun q => od.2.2.1 q.symm)), a]
      omega
    · rw [if_neg a, mp_ne (Or.inr (fun q => a q.symm))]
      by_cases a2 : M 14 d = p
      · rw [if_pos a2, a2, mp_eq]
        rw [a2] at hc2
        omega
      · rw [if_neg a2, mp_ne (Or.inr (fun q => a2 q.symm))]
        omega
theorem rel_lv {M H : MH} {S : Nat} (h : relC M S H) (s : Nat) : ∀ n, lvAt H 0 s n = lvAt M S s n := by
  intro n
  induction n with
  | zero => rfl
  | succ n ih =>
    rw [lvAt, lvAt, ih, h.2.2.1, Nat.testBit_or, rel_k h (by decide) (by decide), rel_k h (by decide) (by decide), Nat.zero_testBit]
    cases (M 6 0).testBit n <;> cases S.testBit n <;> simp
theorem rel_stn {M H : MH} {S : Nat} (h : relC M S H) : ∀ n, stn H 0 0 n = stn M S 0 n := by
  intro n
  induction n with
  | zero => rfl
  | succ n ih =>
    rw [stn, stn, ih, rel_k h (by decide) (by decide), rel_k h (by decide) (by decide), rel_k h (by decide) (by decide), rel_k h (by decide) (by decide), rel_k h (by decide) (by decide), rel_lv h]
/-- nothing falls by it: so the house is settled as it is -/
theorem rel_fal {M H : MH} {S : Nat} (ok : okH M) (st : setl M) (h : relC M S H) : (fwo M S = 0 → fal H = H) ∧ (fwo M S ≠ 0 → fal H 5 0 ≠ H 5 0) := by
  have e0 : H 0 0 = M 0 0 := rel_k h (by decide) (by decide)
  have e5 : H 5 0 = M 5 0 := rel_k h (by decide) (by decide)
  have hl := stn_lt M S 0 (M 0 0)
  have hl0 := stn_lt M 0 0 (M 0 0)
  have f5 : fal H 5 0 = 2 ^ M 0 0 - 1 - stn M S 0 (M 0 0) := by rw [fal_5, e0, rel_stn h]
  have sub : ∀ s, (stn M S 0 (M 0 0)).testBit s = true → (stn M 0 0 (M 0 0)).testBit s = true := fun s q => by
    rw [stn_bit] at q
    rw [stn_now ok st q.1, q.2.2.1]
    rfl
  refine ⟨fun q => ?_, fun q w => q ?_⟩
  · have e : stn M S 0 (M 0 0) = stn M 0 0 (M 0 0) := by
      apply Nat.eq_of_testBit_eq
      intro s
      have h1 := (nz_bit.mp q) s
      unfold fwo at h1
      rw [tb_andn] at h1
      cases a : (stn M 0 0 (M 0 0)).testBit s with
      | true =>
        rw [a, Bool.true_and] at h1
        cases b : (stn M S 0 (M 0 0)).testBit s with
        | true => rfl
        | false => rw [b] at h1; exact absurd h1 (by decide)
      | false =>
        cases b : (stn M S 0 (M 0 0)).testBit s with
        | true => have := sub s b; rw [a] at this; exact absurd this (by decide)
        | false => rfl
    have e2 : fal H 5 0 = H 5 0 := by
      rw [f5, e, e5]
      unfold setl at st
      omega
    have := mp_same H 5 0
    unfold fal
    rw [fal_5] at e2
    rw [e2]
    exact this
  · have e : stn M S 0 (M 0 0) = stn M 0 0 (M 0 0) := by
      rw [f5, e5] at w
      unfold setl at st
      omega
    unfold fwo
    rw [e]
    exact nz_bit.mpr (fun s => by rw [tb_andn]; cases (stn M 0 0 (M 0 0)).testBit s <;> rfl)
/-- the search: what may come next -/
def okC (M : MH) (f : Bool) (S d : Nat) : Bool := decide ((M 6 0).testBit d = false ∧ S.testBit d = false ∧ otS M (M 14 d) S + owd M d ≤ M 12 (M 14 d) + inS M (M 14 d) S) && (! f || decide (fwo M (S ||| 2 ^ d) = 0))
def rcd (row b : List Nat) : List Nat := if b.length < row.length then row else b
def flL (nx : Nat → List Nat → List Nat) : Nat → Nat → List Nat → List Nat
  | 0, _, b => b
  | m + 1, i, b => flL nx m (i + 1) (nx i b)
def flC (M : MH) (f : Bool) : Nat → Nat → List Nat → List Nat → List Nat
  | 0, _, _, b => b
  | n + 1, S, row, b => flL (fun i b => if okC M f S i then flC M f n (S ||| 2 ^ i) (row ++ [i]) (rcd (row ++ [i]) b) else b) (M 2 0) 0 b
def hgt (M : MH) (f : Bool) : Nat → Nat → Nat
  | 0, _ => 0
  | n + 1, S => mxV (fun d => if okC M f S d then 1 + hgt M f n (S ||| 2 ^ d) else 0) 0 (M 2 0)
theorem mxV_at {g : Nat → Nat} {p : Nat} : ∀ k i, i < k → g i ≤ mxV g p k := by
  intro k
  induction k with
  | zero => intro i h; omega
  | succ k ih =>
    intro i h
    rw [mxV]
    by_cases c : i = k
    · subst c
      omega
    · have := ih i (by omega)
      omega
theorem flL_id {nx : Nat → List Nat → List Nat} {b : List Nat} : ∀ m i, (∀ j, i ≤ j → j < i + m → nx j b = b) → flL nx m i b = b := by
  intro m
  induction m with
  | zero => intro i _; rfl
  | succ m ih =>
    intro i h
    rw [flL, h i (by omega) (by omega)]
    exact ih (i + 1) (fun j h1 h2 => h j (by omega) (by omega))
/-- where no longer row can be come to, nothing changes -/
theorem fl_id {M : MH} {f : Bool} : ∀ n S row b, row.length + hgt M f n S ≤ b.length → flC M f n S row b = b := by
  intro n
  induction n with
  | zero => intro S row b _; rfl
  | succ n ih =>
    intro S row b h
    rw [flC]
    refine flL_id (M 2 0) 0 (fun j _ hj => ?_)
    by_cases c : okC M f S j = true
    · have h1 := mxV_at (g := fun d => if okC M f S d then 1 + hgt M f n (S ||| 2 ^ d) else 0) (p := 0) (M 2 0) j (by omega)
      rw [if_pos c] at h1
      rw [hgt] at h
      rw [if_pos c]
      have e : rcd (row ++ [j]) b = b := by
        unfold rcd
        rw [List.length_append, List.length_singleton, if_neg (by omega)]
      rw [e]
      refine ih _ _ _ ?_
      rw [List.length_append, List.length_singleton]
      omega
    · rw [if_neg c]
theorem rcd_ge (row b : List Nat) : b.length ≤ (rcd row b).length ∧ row.length ≤ (rcd row b).length := by
  unfold rcd
  split <;> omega
theorem flL_ge {nx : Nat → List Nat → List Nat} (h : ∀ j b, b.length ≤ (nx j b).length) : ∀ m i b, b.length ≤ (flL nx m i b).length := by
  intro m
  induction m with
  | zero => intro i b; exact Nat.le_refl _
  | succ m ih =>
    intro i b
    rw [flL]
    exact Nat.le_trans (h i b) (ih _ _)
theorem fl_ge {M : MH} {f : Bool} : ∀ n S row b, b.length ≤ (flC M f n S row b).length := by
  intro n
  induction n with
  | zero => intro S row b; exact Nat.le_refl _
  | succ n ih =>
    intro S row b
    rw [flC]
    refine flL_ge (fun j b => ?_) _ _ _
    by_cases c : okC M f S j = true
    · simp only [if_pos c]
      exact Nat.le_trans (rcd_ge _ b).1 (ih _ _ _)
    · simp only [if_neg c]
      exact Nat.le_refl _
theorem flL_gt {nx : Nat → List Nat → List Nat} {g : Nat → Nat} (h : ∀ j b, b.length ≤ (nx j b).length) (hg : ∀ j b, g j ≤ (nx j b).length) : ∀ m i b p, p ≤ b.length → ∀ k, k ≤ m → (∀ j, i ≤ j → j < i + k → g j ≤ (flL nx m i b).length) := by
  intro m
  induction m with
  | zero => intro i b p _ k hk j h1 h2; omega
  | succ m ih =>
    intro i b p hp k hk j h1 h2
    rw [flL]
    by_cases c : j = i
    · subst c
      exact Nat.le_trans (hg j b) (flL_ge h m (j + 1) _)
    · exact ih (i + 1) _ 0 (Nat.zero_le _) (k - 1) (by omega) j (by omega) (by omega)
theorem mxV_lt {g : Nat → Nat} {p x : Nat} (hp : p ≤ x) : ∀ k, (∀ i, i < k → g i ≤ x) → mxV g p k ≤ x := by
  intro k
  induction k with
  | zero => intro _; exact hp
  | succ k ih =>
    intro h
    have h1 := ih (fun i hi => h i (by omega))
    have h2 := h k (by omega)
    rw [mxV]
    omega
/-- the search comes to the longest -/
theorem fl_gt {M : MH} {f : Bool} : ∀ n S row b, row.length ≤ b.length → row.length + hgt M f n S ≤ (flC M f n S row b).length := by
  intro n
  induction n with
  | zero => intro S row b h; exact h
  | succ n ih =>
    intro S row b h
    rw [flC, hgt]
    have mono : ∀ j b, b.length ≤ ((fun i b => if okC M f S i then flC M f n (S ||| 2 ^ i) (row ++ [i]) (rcd (row ++ [i]) b) else b) j b).length := fun j b => by
      by_cases c : okC M f S j = true
      · simp only [if_pos c]
        exact Nat.le_trans (rcd_ge _ b).1 (fl_ge _ _ _ _)
      · simp only [if_neg c]
        exact Nat.le_refl _
    have g0 := flL_ge mono (M 2 0) 0 b
    have key : ∀ j, j < M 2 0 → (if okC M f S j then 1 + hgt M f n (S ||| 2 ^ j) else 0) ≤ (flL (fun i b => if okC M f S i then flC M f n (S ||| 2 ^ i) (row ++ [i]) (rcd (row ++ [i]) b) else b) (M 2 0) 0 b).length - row.length := fun j hj => by
      by_cases c : okC M f S j = true
      · have := flL_gt (g := fun j => if okC M f S j then row.length + 1 + hgt M f n (S ||| 2 ^ j) else 0) mono (fun j b => by
          by_cases c : okC M f S j = true
          · simp only [if_pos c]
            have := ih (S ||| 2 ^ j) (row ++ [j]) (rcd (row ++ [j]) b) (rcd_ge _ b).2
            rw [List.length_append, List.length_singleton] at this
            exact this
          · simp only [if_neg c]
            exact Nat.zero_le _) (M 2 0) 0 b 0 (Nat.zero_le _) (M 2 0) (Nat.le_refl _) j (by omega) (by omega)
        rw [if_pos c] at this
        rw [if_pos c]
        omega
      · rw [if_neg c]
        exact Nat.zero_le _
    have := mxV_lt (p := 0) (Nat.zero_le _) (M 2 0) key
    omega
