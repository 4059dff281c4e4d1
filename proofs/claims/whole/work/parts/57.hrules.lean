/-! HOUSE RULES 1: bits, what there is, owed -/
theorem s_l : ∀ n, n < 32 → ((nI n &&& 31).toBitVec.smod 32).toNat = n := by decide +kernel
theorem i_bit {s d : Nat} (hs : s < 2 ^ 31) (hd : d < 31) : (nI s >>> (nI d &&& 31)) &&& 1 = nI (s / 2 ^ d % 2) := by
  rw [pk_shrN hs _ d (s_l d (by omega))]
  exact pk_andN (Nat.lt_of_le_of_lt (Nat.div_le_self _ _) (by omega)) 1 (by decide)
theorem tb_1 {s d : Nat} (h : s.testBit d = true) : s / 2 ^ d % 2 = 1 := by
  rw [Nat.testBit_eq_decide_div_mod_eq] at h
  exact of_decide_eq_true h
theorem tb_0 {s d : Nat} (h : s.testBit d = false) : s / 2 ^ d % 2 = 0 := by
  rw [Nat.testBit_eq_decide_div_mod_eq] at h
  have := of_decide_eq_false h
  omega
theorem r_has {s d : Nat} {post : Int32 → Prop} (hs : s < 2 ^ 31) (hd : d < 31) (h1 : s.testBit d = true → post 1) (h0 : s.testBit d = false → post 0) : qX11_has (nI s) (nI d) post := by
  unfold qX11_has
  rw [i_bit hs hd]
  cases e : s.testBit d with
  | true =>
    rw [tb_1 e]
    exact ⟨fun c => absurd c (by decide), fun _ => ⟨Or.inr rfl, h1 e⟩⟩
  | false =>
    rw [tb_0 e]
    exact ⟨fun _ => ⟨Or.inl rfl, h0 e⟩, fun c => absurd rfl c⟩
theorem m_isIn {s d : Nat} {u : St} {post : Int32 → St → Prop} (hs : s < 2 ^ 31) (hd : d < 31) (h1 : s.testBit d = true → post 1 u) (h0 : s.testBit d = false → post 0 u) : qX12_isIn (nI s) (nI d) u post := by
  unfold qX12_isIn
  rw [i_bit hs hd]
  cases e : s.testBit d with
  | true =>
    rw [tb_1 e]
    exact ⟨fun c => absurd rfl c, fun _ => ⟨Or.inr rfl, h1 e⟩⟩
  | false =>
    rw [tb_0 e]
    exact ⟨fun _ => ⟨Or.inl rfl, h0 e⟩, fun c => absurd c (by decide)⟩
/-- one of so many -/
def inR (x : Int32) (n : Nat) : Prop := 0 ≤ x.toInt ∧ x.toInt < n
theorem inR.nat {x : Int32} {n : Nat} (h : inR x n) (hn : n ≤ 100) : ∃ k : Nat, k < n ∧ x = nI k := by
  obtain ⟨k, hk, rfl, -⟩ := i_nat (x := x) (n := n - 1) h.1 (by have := h.2; omega)
  have := h.2
  rw [nI_toInt (by omega)] at this
  exact ⟨k, by omega, rfl⟩
theorem inR_nI {k n : Nat} (h : k < n) (hn : n ≤ 100) : inR (nI k) n := ⟨by rw [nI_toInt (by omega)]; omega, by rw [nI_toInt (by omega)]; omega⟩
theorem r_wn {x : Int32} {n : Nat} {post : Int32 → Prop} (hn : n ≤ 100) (h1 : inR x n → post 1) (h0 : ¬ inR x n → post 0) : qX11_within x 0 (nI n - 1) post :=
  r_within 0 (n - 1) rfl (pk_sub_toInt (a := n) (b := 1) (by omega) (by omega)) (fun a b => h1 ⟨a, by omega⟩) (fun c => h0 (fun q => by have := q.1; have := q.2; omega))
theorem r_isStone {x : Int32} {n : Nat} {u : St} {post : Int32 → St → Prop} (hn : n ≤ 100) (e : gi u 0 = nI n) (h1 : inR x n → post 1 u) (h0 : ¬ inR x n → post 0 u) : qX2_isStone x u post := by
  unfold qX2_isStone
  rw [e]
  exact r_wn hn (fun c => ⟨Or.inr rfl, h1 c⟩) (fun c => ⟨Or.inl rfl, h0 c⟩)
theorem r_isPerson {x : Int32} {n : Nat} {u : St} {post : Int32 → St → Prop} (hn : n ≤ 100) (e : gi u 1 = nI n) (h1 : inR x n → post 1 u) (h0 : ¬ inR x n → post 0 u) : qX2_isPerson x u post := by
  unfold qX2_isPerson
  rw [e]
  exact r_wn hn (fun c => ⟨Or.inr rfl, h1 c⟩) (fun c => ⟨Or.inl rfl, h0 c⟩)
theorem r_isDebt {x : Int32} {n : Nat} {u : St} {post : Int32 → St → Prop} (hn : n ≤ 100) (e : gi u 2 = nI n) (h1 : inR x n → post 1 u) (h0 : ¬ inR x n → post 0 u) : qX2_isDebt x u post := by
  unfold qX2_isDebt
  rw [e]
  exact r_wn hn (fun c => ⟨Or.inr rfl, h1 c⟩) (fun c => ⟨Or.inl rfl, h0 c⟩)
theorem m_wn {x : Int32} {n : Nat} {A B : Prop} (hn : n ≤ 100) (h1 : inR x n → B) (h0 : ¬ inR x n → A) : (x < 0 → A) ∧ (¬ x < 0 → ((nI n ≤ x → A) ∧ (¬ nI n ≤ x → B))) := by
  have e0 : (0 : Int32).toInt = 0 := rfl
  have en : (nI n).toInt = n := nI_toInt (by omega)
  refine ⟨fun c => h0 (fun q => ?_), fun c => ⟨fun d => h0 (fun q => ?_), fun d => h1 ?_⟩⟩
  · rw [i_lt] at c
    have := q.1
    omega
  · rw [i_le] at d
    have := q.2
    omega
  · rw [i_lt] at c
    rw [i_le] at d
    exact ⟨by omega, by omega⟩
theorem m_isStone {x : Int32} {n : Nat} {u : St} {post : Int32 → St → Prop} (hn : n ≤ 100) (e : ga u 0 0 = nI n) (h1 : inR x n → post 1 u) (h0 : ¬ inR x n → post 0 u) : qX12_isStone x u post := by
  unfold qX12_isStone
  rw [show (0 : Int32).toNatClampNeg = 0 from rfl, e]
  exact m_wn hn (fun c => ⟨Or.inr rfl, h1 c⟩) (fun c => ⟨Or.inl rfl, h0 c⟩)
theorem m_isPerson {x : Int32} {n : Nat} {u : St} {post : Int32 → St → Prop} (hn : n ≤ 100) (e : ga u 0 1 = nI n) (h1 : inR x n → post 1 u) (h0 : ¬ inR x n → post 0 u) : qX12_isPerson x u post := by
  unfold qX12_isPerson
  rw [show (1 : Int32).toNatClampNeg = 1 from rfl, e]
  exact m_wn hn (fun c => ⟨Or.inr rfl, h1 c⟩) (fun c => ⟨Or.inl rfl, h0 c⟩)
theorem m_isDebt {x : Int32} {n : Nat} {u : St} {post : Int32 → St → Prop} (hn : n ≤ 100) (e : ga u 0 2 = nI n) (h1 : inR x n → post 1 u) (h0 : ¬ inR x n → post 0 u) : qX12_isDebt x u post := by
  unfold qX12_isDebt
  rw [show (2 : Int32).toNatClampNeg = 2 from rfl, e]
  exact m_wn hn (fun c => ⟨Or.inr rfl, h1 c⟩) (fun c => ⟨Or.inl rfl, h0 c⟩)
/-- the reference's current house -/
abbrev MC (u : St) (M : MH) : Prop := MR (ga u 0) (gl u 1) 0 0 M
theorem mc_k {u : St} {M : MH} (h : MC u M) {k : Nat} (hk : k < 7) : ga u 0 k = nI (M k 0) := by
  have := h.1 k hk
  rwa [Nat.zero_add] at this
theorem mc_cash {u : St} {M : MH} (h : MC u M) {p : Nat} (hp : p < M 1 0) : ga u 0 (34 + p) = nI (M 12 p) := by
  have := (h.2.2.1 p hp).1
  rwa [Nat.zero_add] at this
theorem mc_st {u : St} {M : MH} (h : MC u M) {s : Nat} (hs : s < M 0 0) : ga u 0 (10 + 3 * s) = nI (M 8 s) ∧ ga u 0 (11 + 3 * s) = nI (M 9 s) ∧ ga u 0 (12 + 3 * s) = nI (M 10 s) := by
  have := h.2.1 s hs
  simp only [Nat.zero_add] at this
  exact this
theorem mc_d {u : St} {M : MH} (h : MC u M) {d : Nat} (hd : d < M 2 0) : ga u 0 (39 + 7 * d) = nI (M 14 d) ∧ ga u 0 (40 + 7 * d) = nI (M 15 d) ∧ ga u 0 (41 + 7 * d) = nI (M 16 d) ∧ ga u 0 (42 + 7 * d) = nI (M 17 d) ∧ ga u 0 (43 + 7 * d) = nI (if (M 7 0).testBit d then 1 else 0) ∧ ga u 0 (44 + 7 * d) = nI (M 18 d) ∧ ga u 0 (45 + 7 * d) = nI (M 19 d) := by
  have := h.2.2.2 d hd
  simp only [Nat.zero_add] at this
  exact this
theorem i_39 {d j : Nat} : (39 : Int32) + 7 * nI d + nI j = nI (39 + 7 * d + j) := by
  rw [show (39 : Int32) = nI 39 from rfl, show (7 : Int32) = nI 7 from rfl, pk_mul, nI_add, nI_add]
theorem m_debtOf {d j : Nat} {u : St} {post : Int32 → St → Prop} (hd : d < 7) (hj : j < 7) (h : post (ga u 0 (39 + 7 * d + j)) u) : qX12_debtOf (nI d) (nI j) u post := by
  show vp_in _ 3072 ∧ post _ u
  rw [i_39, nI_clamp (by omega)]
  exact ⟨vp_in_nI (by omega) (by omega), h⟩
theorem pw_lt {s n m : Nat} (h : s < 2 ^ n) (hn : n ≤ m) : s < 2 ^ m := Nat.lt_of_lt_of_le h (Nat.pow_le_pow_right (by decide) hn)
theorem ok_paid {M : MH} (h : okH M) : M 6 0 < 2 ^ 31 := pw_lt h.2.2.2.2.2.2.1 (by have := h.2.2.1; omega)
theorem ok_fallen {M : MH} (h : okH M) : M 5 0 < 2 ^ 31 := pw_lt h.2.2.2.2.2.1 (by have := h.1; omega)
theorem ok_comp {M : MH} (h : okH M) : M 7 0 < 2 ^ 31 := pw_lt h.2.2.2.2.2.2.2.1 (by have := h.2.2.1; omega)
theorem m_isPaidUp {M : MH} {d : Nat} {u : St} {post : Int32 → St → Prop} (ok : okH M) (h : MC u M) (hd : d < 31) (h1 : (M 6 0).testBit d = true → post 1 u) (h0 : (M 6 0).testBit d = false → post 0 u) : qX12_isPaidUp (nI d) u post := by
  unfold qX12_isPaidUp
  rw [show (6 : Int32).toNatClampNeg = 6 from rfl, mc_k h (by omega)]
  exact m_isIn (ok_paid ok) hd (fun c => ⟨Or.inr rfl, h1 c⟩) (fun c => ⟨Or.inl rfl, h0 c⟩)
/-- what is owed -/
def owd (M : MH) (d : Nat) : Nat := if (M 6 0).testBit d then 0 else M 16 d + M 19 d
theorem ok_d {M : MH} (h : okH M) {d : Nat} (hd : d < M 2 0) : M 14 d < M 1 0 ∧ M 15 d < M 1 0 ∧ M 14 d ≠ M 15 d ∧ 1 ≤ M 16 d ∧ M 16 d ≤ 99 ∧ M 17 d ≤ 9 ∧ M 18 d < M 0 0 ∧ M 19 d ≤ 999 := h.2.2.2.2.2.2.2.2.2.2 d hd
theorem ok_nd {M : MH} (h : okH M) : M 2 0 ≤ 7 := h.2.2.1
theorem ok_np {M : MH} (h : okH M) : M 1 0 ≤ 5 := h.2.1
theorem ok_ns {M : MH} (h : okH M) : M 0 0 ≤ 8 := h.1
theorem owd_le {M : MH} (h : okH M) {d : Nat} (hd : d < M 2 0) : owd M d ≤ 1098 := by
  have := ok_d h hd
  unfold owd
  split <;> omega
theorem ch_k {u : St} {M : MH} (h : CH u M) {k : Nat} (hk : k < 8) : gi u k = nI (M k 0) := h.1 k hk
theorem ch_d {u : St} {M : MH} (h : CH u M) {k d : Nat} (h1 : 14 ≤ k) (h2 : k ≤ 19) (hd : d < M 2 0) : ga u k d = nI (M k d) := h.2.2.2 k h1 h2 d hd
theorem ch_s {u : St} {M : MH} (h : CH u M) {k s : Nat} (h1 : 8 ≤ k) (h2 : k ≤ 10) (hs : s < M 0 0) : ga u k s = nI (M k s) := h.2.1 k h1 h2 s hs
theorem r_owed {M : MH} {d : Nat} {u : St} {post : Int32 → St → Prop} (ok : okH M) (h : CH u M) (hd : d < M 2 0) (hp : post (nI (owd M d)) u) : qX2_owed (nI d) u post := by
  have h7 := ok_nd ok
  unfold qX2_owed
  rw [ch_k h (by omega), nI_clamp (by omega), ch_d h (by omega) (by omega) hd, ch_d h (by omega) (by omega) hd, nI_add]
  unfold owd at hp
  refine r_has (ok_paid ok) (by omega) (fun c => ⟨fun c => absurd c (by decide), fun _ => ?_⟩) (fun c => ⟨fun _ => ⟨vp_in_nI (by omega) (by omega), vp_in_nI (by omega) (by omega), ?_⟩, fun c => absurd rfl c⟩)
  · rw [if_pos c] at hp
    exact hp
  · rw [if_neg (by rw [c]; decide)] at hp
    exact hp
theorem m_owedOf {M : MH} {d : Nat} {u : St} {post : Int32 → St → Prop} (ok : okH M) (h : MC u M) (hd : d < M 2 0) (hp : post (nI (owd M d)) u) : qX12_owedOf (nI d) u post := by
  have h7 := ok_nd ok
  have hm := mc_d h hd
  unfold owd at hp
  refine m_isPaidUp ok h (by omega) (fun c => ⟨fun c => absurd c (by decide), fun _ => ?_⟩) (fun c => ⟨fun _ => ?_, fun c => absurd rfl c⟩)
  · rw [if_pos c] at hp
    exact hp
  · rw [if_neg (by rw [c]; decide)] at hp
    refine m_debtOf (j := 2) (by omega) (by omega) (m_debtOf (j := 6) (by omega) (by omega) ?_)
    rw [show 39 + 7 * d + 2 = 41 + 7 * d by omega, show 39 + 7 * d + 6 = 45 + 7 * d by omega, hm.2.2.1, hm.2.2.2.2.2.2, nI_add]
    exact hp
theorem rr_house {cs : Nat → St} {ms : St} (h : RR cs ms) : ∃ M, okH M ∧ setl M ∧ CH (cs 5) M ∧ MC ms M ∧ TR (cs 7) (ga ms 0) 0 M := by
  obtain ⟨M, ⟨a, b, c, d⟩, e⟩ := h.2.2.2.2.2.1
  exact ⟨M, a, b, c, d, e⟩
theorem MC.si {u : St} {M : MH} (h : MC u M) (k : Nat) (v : Int32) : MC (si u k v) M := h
theorem sp_cash : SP_cash RR := fun x cs ms h => by
  obtain ⟨M, ok, hs, hc, hm, -⟩ := rr_house h
  have hn := ok_np ok
  refine r_isPerson (n := M 1 0) (by omega) (ch_k hc (by omega)) (fun c => ⟨fun _ => ?_, fun c => absurd c (by decide)⟩) (fun c => ⟨fun c => absurd rfl c, fun _ => ?_⟩)
  · obtain ⟨p, hp, rfl⟩ := c.nat (by omega)
    refine ⟨vp_in_nI (by omega) (by omega), ?_⟩
    rw [nI_clamp (by omega), (hc.2.2.1 p hp).1]
    refine r_answer (m_isPerson (n := M 1 0) (by omega) (mc_k hm (by omega)) (fun c => ⟨fun _ => ?_, fun c => absurd c (by decide)⟩) (fun c2 => absurd c c2))
    rw [show (34 : Int32) = nI 34 from rfl, nI_add, nI_clamp (by omega), mc_cash hm hp]
    refine ⟨vp_in_nI (by omega) (by omega), m_gives ⟨rfl, ?_⟩⟩
    rw [up_skip cs 0 5 _ (by decide)]
    exact rr_st h 0
  · refine r_refuse (m_isPerson (n := M 1 0) (by omega) (mc_k hm (by omega)) (fun c2 => absurd c2 c) (fun _ => ⟨fun c => absurd rfl c, fun _ => m_refuse ⟨rfl, ?_⟩⟩))
    rw [up_skip cs 0 5 _ (by decide)]
    exact rr_st h 1
