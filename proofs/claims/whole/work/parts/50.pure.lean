/-! PURE: states read and written; the relation R -/
theorem gi_si (u : St) (k j : Nat) (v : Int32) : gi (si u k v) j = if j = k then v else gi u j := rfl
theorem gj_si (u : St) (k j : Nat) (v : Int32) : gj (si u k v) j = gj u j := rfl
theorem ga_si (u : St) (k j : Nat) (v : Int32) : ga (si u k v) j = ga u j := rfl
theorem gl_si (u : St) (k j : Nat) (v : Int32) : gl (si u k v) j = gl u j := rfl
theorem gi_sj (u : St) (k j : Nat) (v : Int64) : gi (sj u k v) j = gi u j := rfl
theorem gj_sj (u : St) (k j : Nat) (v : Int64) : gj (sj u k v) j = if j = k then v else gj u j := rfl
theorem ga_sj (u : St) (k j : Nat) (v : Int64) : ga (sj u k v) j = ga u j := rfl
theorem gl_sj (u : St) (k j : Nat) (v : Int64) : gl (sj u k v) j = gl u j := rfl
theorem gi_sw (u : St) (k j : Nat) (f : Nat → Int32) : gi (sw u k f) j = gi u j := rfl
theorem gj_sw (u : St) (k j : Nat) (f : Nat → Int32) : gj (sw u k f) j = gj u j := rfl
theorem ga_sw (u : St) (k j : Nat) (f : Nat → Int32) : ga (sw u k f) j = if j = k then f else ga u j := rfl
theorem gl_sw (u : St) (k j : Nat) (f : Nat → Int32) : gl (sw u k f) j = gl u j := rfl
theorem gi_sx (u : St) (k j : Nat) (f : Nat → Int64) : gi (sx u k f) j = gi u j := rfl
theorem gj_sx (u : St) (k j : Nat) (f : Nat → Int64) : gj (sx u k f) j = gj u j := rfl
theorem ga_sx (u : St) (k j : Nat) (f : Nat → Int64) : ga (sx u k f) j = ga u j := rfl
theorem gl_sx (u : St) (k j : Nat) (f : Nat → Int64) : gl (sx u k f) j = if j = k then f else gl u j := rfl
theorem up_same {α : Type} (f : Nat → α) (k : Nat) : va_up f k (f k) = f := by
  funext j
  unfold va_up
  split
  · rename_i h; rw [h]
  · rfl
theorem up_at {α : Type} (f : Nat → α) (k j : Nat) (v : α) : va_up f k v j = if j = k then v else f j := rfl
theorem upd_at (f : Nat → Int32) (k j : Nat) (v : Int32) : upd f k v j = if j = k then v else f j := rfl
theorem updL_at (f : Nat → Int64) (k j : Nat) (v : Int64) : vp_updL f k v j = if j = k then v else f j := rfl
theorem i_lt (a b : Int32) : a < b ↔ a.toInt < b.toInt := Int32.lt_iff_toInt_lt
theorem i_le (a b : Int32) : a ≤ b ↔ a.toInt ≤ b.toInt := Int32.le_iff_toInt_le
theorem i_eq (a b : Int32) : a = b ↔ a.toInt = b.toInt := Int32.toInt_inj.symm
theorem l_lt (a b : Int64) : a < b ↔ a.toInt < b.toInt := Int64.lt_iff_toInt_lt
theorem l_le (a b : Int64) : a ≤ b ↔ a.toInt ≤ b.toInt := Int64.le_iff_toInt_le
/-- the tape: as many bytes, the same ones -/
def TapeR (fed : Int32) (t : Nat → Int32) (taped : Int32) (t1 : Nat → Int32) : Prop := fed = taped ∧ ∃ n : Nat, n ≤ 900 ∧ fed = nI n ∧ ∀ j, j < n → t j = t1 j ∧ (t j).toInt8.toInt32 = t j
/-- trays: sort, size, numbers -/
def TrayR (so sz : Nat → Int32) (nu : Nat → Int64) (so1 sz1 : Nat → Int32) (nu1 : Nat → Int64) : Prop :=
  ∀ t : Nat, t < 4 → so t = so1 t ∧ sz t = sz1 t ∧ (sz t = -1 ∨ ∃ n : Nat, n ≤ 60 ∧ sz t = nI n ∧ ∀ j : Nat, j < n → nu (60 * t + j) = nu1 (60 * t + j))
/-- a house as numbers: M k i is field k (of the class's House), place i -/
abbrev MH : Type := Nat → Nat → Nat
/-- letters by 32 to letters by 256 -/
def e256 : Nat → Nat → Nat
  | 0, _ => 0
  | n + 1, c => if c = 0 then 0 else e256 n (c / 32) * 256 + (c % 32 + 96)
def okH (M : MH) : Prop :=
  M 0 0 ≤ 8 ∧ M 1 0 ≤ 5 ∧ M 2 0 ≤ 7 ∧ M 3 0 ≤ 16 ∧ True ∧ M 5 0 < 2 ^ M 0 0 ∧ M 6 0 < 2 ^ M 2 0 ∧ M 7 0 < 2 ^ M 2 0 ∧
  (∀ s, s < M 0 0 → M 8 s ≤ 9 ∧ 1 ≤ M 9 s ∧ M 9 s ≤ 9 ∧ M 10 s < 2 ^ s) ∧
  (∀ p, p < M 1 0 → M 12 p ≤ 9999 ∧ 1 ≤ M 13 p ∧ M 13 p < 2 ^ 40) ∧
  ∀ d, d < M 2 0 → M 14 d < M 1 0 ∧ M 15 d < M 1 0 ∧ M 14 d ≠ M 15 d ∧ 1 ≤ M 16 d ∧ M 16 d ≤ 99 ∧ M 17 d ≤ 9 ∧ M 18 d < M 0 0 ∧ M 19 d ≤ 999
/-- the class's House holds M -/
def CH (h : St) (M : MH) : Prop :=
  (∀ k, k < 8 → gi h k = nI (M k 0)) ∧ (∀ k, 8 ≤ k → k ≤ 10 → ∀ s, s < M 0 0 → ga h k s = nI (M k s)) ∧ (∀ p, p < M 1 0 → ga h 12 p = nI (M 12 p) ∧ gl h 13 p = lN (M 13 p)) ∧ ∀ k, 14 ≤ k → k ≤ 19 → ∀ d, d < M 2 0 → ga h k d = nI (M k d)
/-- the reference's row 'at' from place b on, its names from place c on, hold M -/
def MR (a : Nat → Int32) (nm : Nat → Int64) (b c : Nat) (M : MH) : Prop :=
  (∀ k, k < 7 → a (b + k) = nI (M k 0)) ∧ (∀ s, s < M 0 0 → a (b + 10 + 3 * s) = nI (M 8 s) ∧ a (b + 11 + 3 * s) = nI (M 9 s) ∧ a (b + 12 + 3 * s) = nI (M 10 s)) ∧ (∀ p, p < M 1 0 → a (b + 34 + p) = nI (M 12 p) ∧ nm (c + p) = lN (e256 8 (M 13 p))) ∧
  ∀ d, d < M 2 0 → a (b + 39 + 7 * d) = nI (M 14 d) ∧ a (b + 40 + 7 * d) = nI (M 15 d) ∧ a (b + 41 + 7 * d) = nI (M 16 d) ∧ a (b + 42 + 7 * d) = nI (M 17 d) ∧ a (b + 43 + 7 * d) = nI (if (M 7 0).testBit d then 1 else 0) ∧ a (b + 44 + 7 * d) = nI (M 18 d) ∧ a (b + 45 + 7 * d) = nI (M 19 d)
/-- leaves of debts at a stone that are neither paid nor in g -/
def lvAt (M : MH) (g s : Nat) : Nat → Nat
  | 0 => 0
  | d + 1 => lvAt M g s d + if (M 6 0).testBit d = false ∧ g.testBit d = false ∧ M 18 d = s then M 19 d else 0
/-- which stones stand, without the leaves of the debts in g and without stones in w -/
def stn (M : MH) (g w : Nat) : Nat → Nat
  | 0 => 0
  | s + 1 => if (M 10 s = 0 ∨ M 10 s &&& stn M g w s ≠ 0) ∧ (M 5 0).testBit s = false ∧ w.testBit s = false ∧ M 9 s ≤ M 8 s + lvAt M g s (M 2 0) / 5 then stn M g w s + 2 ^ s else stn M g w s
/-- all that has not fallen stands -/
def setl (M : MH) : Prop := stn M 0 0 (M 0 0) + M 5 0 = 2 ^ M 0 0 - 1
def HR (h : St) (a : Nat → Int32) (nm : Nat → Int64) (sl : Nat) (M : MH) : Prop := okH M ∧ setl M ∧ CH h M ∧ MR a nm (456 * sl) (5 * sl) M
/-- a row of the times: the class's kind and the reference's -/
def kR (k k1 : Nat) : Prop := (k = 0 ∧ k1 = 13) ∨ (k = 1 ∧ k1 = 14) ∨ (k = 2 ∧ k1 = 15) ∨ (k = 3 ∧ k1 = 16) ∨ (k = 4 ∧ k1 = 17) ∨ (k = 5 ∧ k1 = 18) ∨ (k = 6 ∧ k1 = 22) ∨ (k = 7 ∧ k1 = 20) ∨ (k = 9 ∧ k1 = 1923) ∨ (k = 10 ∧ k1 = 1924) ∨ (k = 11 ∧ k1 = 1907) ∨ (k = 12 ∧ k1 = 1912) ∨ (k = 13 ∧ k1 = 21)
/-- times as numbers: N 0 i kind, N 1 i first, N 2 i second, N 3 i compare, N 4 i partner; n rows; M: the house of which they speak -/
def okT (M : MH) (N : MH) (n : Nat) : Prop :=
  n ≤ 60 ∧ ∀ i, i < n → (∃ k1, kR (N 0 i) k1) ∧ N 1 i ≤ 99 ∧ N 2 i ≤ 9999 ∧ N 3 i ≤ 255 ∧ (N 0 i = 0 → 1 ≤ N 1 i ∧ N 1 i ≤ 20) ∧ (N 0 i = 7 → 1 ≤ N 1 i) ∧ (N 0 i = 1 ∨ N 0 i = 2 ∨ N 0 i = 10 ∨ N 0 i = 12 → N 1 i ≤ 6) ∧ (N 0 i = 3 ∨ N 0 i = 9 → N 1 i < M 0 0) ∧ (N 0 i = 4 ∨ N 0 i = 11 → N 1 i < M 1 0) ∧ (N 0 i = 2 ∨ N 0 i = 4 → 1 ≤ N 2 i ∧ N 2 i ≤ 99) ∧
    (N 0 i = 7 ∨ (9 ≤ N 0 i ∧ N 0 i ≤ 12) → i < N 4 i ∧ N 4 i < n ∧ N 0 (N 4 i) = 13 ∧ N 4 (N 4 i) = i) ∧ (N 0 i = 13 → N 4 i < i ∧ (N 0 (N 4 i) = 7 ∨ (9 ≤ N 0 (N 4 i) ∧ N 0 (N 4 i) ≤ 12)) ∧ N 4 (N 4 i) = i) ∧ ∀ j, j < n → (N 0 i = 13 ∧ N 0 j = 13 ∧ N 4 i < j ∧ j < i → N 4 i < N 4 j)
def TR (t : St) (a : Nat → Int32) (sl : Nat) (M : MH) : Prop :=
  (gi t 0 = 0 ∧ a (456 * sl + 7) = -1) ∨ (gi t 0 = 1 ∧ ∃ (n : Nat) (N : MH), okT M N n ∧ gi t 2 = nI n ∧ a (456 * sl + 7) = nI n ∧ ∀ i, i < n → ga t 3 i = nI (N 0 i) ∧ (∃ k1, kR (N 0 i) k1 ∧ a (456 * sl + 88 + 6 * i) = nI k1) ∧ (N 0 i ≤ 12 → N 0 i ≠ 5 → N 0 i ≠ 6 → ga t 4 i = nI (N 1 i) ∧ a (456 * sl + 89 + 6 * i) = nI (N 1 i)) ∧ (N 0 i = 2 ∨ N 0 i = 4 ∨ N 0 i = 11 ∨ N 0 i = 12 → ga t 5 i = nI (N 2 i) ∧ a (456 * sl + 90 + 6 * i) = nI (N 2 i)) ∧ (N 0 i = 11 ∨ N 0 i = 12 → ga t 6 i = nI (N 3 i) ∧ a (456 * sl + 93 + 6 * i) = nI (N 3 i)) ∧ (N 0 i = 7 ∨ (9 ≤ N 0 i ∧ N 0 i ≤ 13) → ga t 7 i = nI (N 4 i) ∧ a (456 * sl + 92 + 6 * i) = nI (N 4 i)))
/-- a house with its times, in a slot -/
def SlR (h t : St) (a : Nat → Int32) (nm : Nat → Int64) (sl : Nat) : Prop := ∃ M : MH, HR h a nm sl M ∧ TR t a sl M
def MkR (k h0 h1 h2 t0 t1 t2 : St) (mk : Int32) (a : Nat → Int32) (nm : Nat → Int64) : Prop := gi k 0 = mk ∧ ∃ n : Nat, n ≤ 3 ∧ mk = nI n ∧ (1 ≤ n → SlR h0 t0 a nm 1) ∧ (2 ≤ n → SlR h1 t1 a nm 2) ∧ (3 ≤ n → SlR h2 t2 a nm 3)
def LifeR (l : St) (told : Int32) (t1 : Nat → Int32) : Prop := gi l 0 = told ∧ bz told ∧ (told = 1 → gi l 2 = t1 0 ∧ gi l 3 = t1 1 ∧ gi l 4 = t1 2 ∧ gi l 5 = t1 3 ∧ gi l 6 = t1 4 ∧ bz (gi l 6))
/-- THE RELATION between the class's state and the reference's -/
def RR (cs : Nat → St) (ms : St) : Prop :=
  gi (cs 0) 0 = gi ms 2 ∧ (gj (cs 0) 1 = gj ms 3 ∧ gj (cs 0) 2 = gj ms 4) ∧ TapeR (gi (cs 0) 4) (ga (cs 1) 0) (gi ms 10) (ga ms 8) ∧ (gi (cs 0) 12 = gi ms 16 ∧ gi (cs 0) 13 = gi ms 17) ∧
  TrayR (ga (cs 2) 1) (ga (cs 2) 2) (gl (cs 2) 0) (ga ms 5) (ga ms 6) (gl ms 7) ∧ SlR (cs 5) (cs 7) (ga ms 0) (gl ms 1) 0 ∧ MkR (cs 9) (cs 10) (cs 11) (cs 12) (cs 13) (cs 14) (cs 15) (gi ms 39) (ga ms 0) (gl ms 1) ∧ LifeR (cs 16) (gi ms 38) (ga ms 37)
