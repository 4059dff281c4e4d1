/-! HOUSE RULES 2: sums, net; steps net, shorts -/
def sumF (f : Nat → Nat) : Nat → Nat
  | 0 => 0
  | n + 1 => sumF f n + f n
theorem allOwed_loop {M : MH} {u : St} {post : Int32 → St → Prop} (ok : okH M) (h : CH u M) (hp : post (nI (sumF (owd M) (M 2 0))) u) : ∀ (m i : Nat), i + m = M 2 0 → qX2_allOwed_L4 post (m + 1) (nI (sumF (owd M) i)) (nI i) u := by
  have h7 := ok_nd ok
  intro m
  induction m with
  | zero =>
    intro i hi
    refine ⟨fun _ => ?_, fun c => absurd (by rw [ch_k h (by omega)]; exact nI_le (by omega) (by omega)) c⟩
    rw [show i = M 2 0 by omega]
    exact hp
  | succ m ih =>
    intro i hi
    refine ⟨fun c => absurd c (by rw [ch_k h (by omega)]; exact nI_ge (by omega) (by omega)), fun _ => r_owed ok h (by omega) (fun x e y e2 => ?_)⟩
    rw [nI_add] at e
    rw [nI_1] at e2
    subst e; subst e2
    exact ih (i + 1) (by omega)
theorem r_allOwed {M : MH} {u : St} {post : Int32 → St → Prop} (ok : okH M) (h : CH u M) (hp : post (nI (sumF (owd M) (M 2 0))) u) : qX2_allOwed u post := ⟨_, allOwed_loop ok h hp (M 2 0) 0 (by omega)⟩
theorem m_allOwed_loop {M : MH} {u : St} {post : Int32 → St → Prop} (ok : okH M) (h : MC u M) (hp : post (nI (sumF (owd M) (M 2 0))) u) : ∀ (m i : Nat), i + m = M 2 0 → qX12_allOwed_L4 post (m + 1) (nI (sumF (owd M) i)) (nI i) u := by
  have h7 := ok_nd ok
  have e2 : ga u 0 (2 : Int32).toNatClampNeg = nI (M 2 0) := mc_k (k := 2) h (by omega)
  intro m
  induction m with
  | zero =>
    intro i hi
    refine ⟨fun _ => ?_, fun c => absurd (by rw [e2]; exact nI_le (by omega) (by omega)) c⟩
    rw [show i = M 2 0 by omega]
    exact hp
  | succ m ih =>
    intro i hi
    refine ⟨fun c => absurd c (by rw [e2]; exact nI_ge (by omega) (by omega)), fun _ => m_owedOf ok h (by omega) (fun x e y e2 => ?_)⟩
    rw [nI_add] at e
    rw [nI_1] at e2
    subst e; subst e2
    exact ih (i + 1) (by omega)
theorem m_allOwed {M : MH} {u : St} {post : Int32 → St → Prop} (ok : okH M) (h : MC u M) (hp : post (nI (sumF (owd M) (M 2 0))) u) : qX12_allOwed u post := ⟨_, m_allOwed_loop ok h hp (M 2 0) 0 (by omega)⟩
theorem allCash_loop {M : MH} {u : St} {post : Int32 → St → Prop} (ok : okH M) (h : CH u M) (hp : post (nI (sumF (M 12) (M 1 0))) u) : ∀ (m i : Nat), i + m = M 1 0 → qX2_allCash_L4 post (m + 1) (nI (sumF (M 12) i)) (nI i) u := by
  have h7 := ok_np ok
  intro m
  induction m with
  | zero =>
    intro i hi
    refine ⟨fun _ => ?_, fun c => absurd (by rw [ch_k h (by omega)]; exact nI_le (by omega) (by omega)) c⟩
    rw [show i = M 1 0 by omega]
    exact hp
  | succ m ih =>
    intro i hi
    refine ⟨fun c => absurd c (by rw [ch_k h (by omega)]; exact nI_ge (by omega) (by omega)), fun _ => ⟨vp_in_nI (by omega) (by omega), fun x e y e2 => ?_⟩⟩
    rw [nI_clamp (by omega), (h.2.2.1 i (by omega)).1, nI_add] at e
    rw [nI_1] at e2
    subst e; subst e2
    exact ih (i + 1) (by omega)
theorem r_allCash {M : MH} {u : St} {post : Int32 → St → Prop} (ok : okH M) (h : CH u M) (hp : post (nI (sumF (M 12) (M 1 0))) u) : qX2_allCash u post := ⟨_, allCash_loop ok h hp (M 1 0) 0 (by omega)⟩
theorem m_allCash_loop {M : MH} {u : St} {post : Int32 → St → Prop} (ok : okH M) (h : MC u M) (hp : post (nI (sumF (M 12) (M 1 0))) u) : ∀ (m i : Nat), i + m = M 1 0 → qX12_allCash_L4 post (m + 1) (nI (sumF (M 12) i)) (nI i) u := by
  have h7 := ok_np ok
  have e2 : ga u 0 (1 : Int32).toNatClampNeg = nI (M 1 0) := mc_k (k := 1) h (by omega)
  intro m
  induction m with
  | zero =>
    intro i hi
    refine ⟨fun _ => ?_, fun c => absurd (by rw [e2]; exact nI_le (by omega) (by omega)) c⟩
    rw [show i = M 1 0 by omega]
    exact hp
  | succ m ih =>
    intro i hi
    have e34 : (34 : Int32) + nI i = nI (34 + i) := nI_add 34 i
    refine ⟨fun c => absurd c (by rw [e2]; exact nI_ge (by omega) (by omega)), fun _ => ⟨?_, fun x e y e2 => ?_⟩⟩
    · rw [e34]
      exact vp_in_nI (by omega) (by omega)
    · rw [e34, nI_clamp (by omega), mc_cash h (by omega), nI_add] at e
      rw [nI_1] at e2
      subst e; subst e2
      exact ih (i + 1) (by omega)
theorem m_allCash {M : MH} {u : St} {post : Int32 → St → Prop} (ok : okH M) (h : MC u M) (hp : post (nI (sumF (M 12) (M 1 0))) u) : qX12_allCash u post := ⟨_, m_allCash_loop ok h hp (M 1 0) 0 (by omega)⟩
/-- net, as the numbers of the machine -/
def ntF (M : MH) (p : Nat) : Nat → Int32
  | 0 => nI (M 12 p)
  | d + 1 => if M 15 d = p then ntF M p d + nI (owd M d) else if M 14 d = p then ntF M p d - nI (owd M d) else ntF M p d
theorem netOf_loop {M : MH} {u : St} {p : Nat} {post : Int32 → St → Prop} (ok : okH M) (h : CH u M) (hpp : p < M 1 0) (hp : post (ntF M p (M 2 0)) u) : ∀ (m i : Nat), i + m = M 2 0 → qX2_netOf_L9 post (m + 1) (nI p) (ntF M p i) (nI i) u := by
  have h7 := ok_nd ok
  have h5 := ok_np ok
  intro m
  induction m with
  | zero =>
    intro i hi
    refine ⟨fun _ => ?_, fun c => absurd (by rw [ch_k h (by omega)]; exact nI_le (by omega) (by omega)) c⟩
    rw [show i = M 2 0 by omega]
    exact hp
  | succ m ih =>
    intro i hi
    have hd : i < M 2 0 := by omega
    have od := ok_d ok hd
    have e15 : ga u 15 (nI i).toNatClampNeg = nI (M 15 i) := by rw [nI_clamp (by omega)]; exact ch_d h (by omega) (by omega) hd
    have e14 : ga u 14 (nI i).toNatClampNeg = nI (M 14 i) := by rw [nI_clamp (by omega)]; exact ch_d h (by omega) (by omega) hd
    have hin : vp_in (nI i) 7 := vp_in_nI (by omega) (by omega)
    refine ⟨fun c => absurd c (by rw [ch_k h (by omega)]; exact nI_ge (by omega) (by omega)), fun _ => ⟨hin, fun c => ⟨hin, fun c2 => ?_, fun c2 => ?_⟩, fun c => ?_⟩⟩
    · rw [e15, nI_eq (by omega) (by omega)] at c
      rw [e14, nI_eq (by omega) (by omega)] at c2
      intro x e
      rw [nI_1] at e
      subst e
      have := ih (i + 1) (by omega)
      rw [ntF, if_neg c, if_neg c2] at this
      exact this
    · rw [e15, nI_eq (by omega) (by omega)] at c
      rw [e14, nI_eq (by omega) (by omega)] at c2
      refine r_owed ok h hd (fun y ey x e => ?_)
      rw [nI_1] at e
      subst e; subst ey
      have := ih (i + 1) (by omega)
      rw [ntF, if_neg c, if_pos c2] at this
      exact this
    · rw [e15, nI_eq (by omega) (by omega)] at c
      refine r_owed ok h hd (fun y ey x e => ?_)
      rw [nI_1] at e
      subst e; subst ey
      have := ih (i + 1) (by omega)
      rw [ntF, if_pos c] at this
      exact this
theorem r_netOf {M : MH} {u : St} {p : Nat} {post : Int32 → St → Prop} (ok : okH M) (h : CH u M) (hpp : p < M 1 0) (hp : post (ntF M p (M 2 0)) u) : qX2_netOf (nI p) u post := by
  have h5 := ok_np ok
  refine ⟨vp_in_nI (by omega) (by omega), fun x e => ⟨M 2 0 + 1, ?_⟩⟩
  rw [nI_clamp (by omega), (h.2.2.1 p hpp).1] at e
  subst e
  exact netOf_loop ok h hpp hp (M 2 0) 0 (by omega)
theorem m_netOf_loop {M : MH} {u : St} {p : Nat} {post : Int32 → St → Prop} (ok : okH M) (h : MC u M) (hpp : p < M 1 0) (hp : post (ntF M p (M 2 0)) u) : ∀ (m i : Nat), i + m = M 2 0 → qX12_netOf_L12 post (m + 1) (nI p) (ntF M p i) (nI i) u := by
  have h7 := ok_nd ok
  have h5 := ok_np ok
  have e2 : ga u 0 (2 : Int32).toNatClampNeg = nI (M 2 0) := mc_k (k := 2) h (by omega)
  intro m
  induction m with
  | zero =>
    intro i hi
    refine ⟨fun _ => ?_, fun c => absurd (by rw [e2]; exact nI_le (by omega) (by omega)) c⟩
    rw [show i = M 2 0 by omega]
    exact hp
  | succ m ih =>
    intro i hi
    have hd : i < M 2 0 := by omega
    have od := ok_d ok hd
    have hm := mc_d h hd
    have nx := ih (i + 1) (by omega)
    -- the second half
    have two : ∀ z : Int32, (M 15 i = p → z + nI (owd M i) = ntF M p (i + 1)) → (M 15 i ≠ p → z = ntF M p (i + 1)) → ∀ (s0 s1 : Int32), s1 - s0 = z → qX12_netOf_b42 post (qX12_netOf_L12 post (m + 1)) (nI p) (nI i) s0 s1 u := by
      intro z h1 h2 s0 s1 hz x ex
      subst ex
      rw [hz]
      refine m_debtOf (j := 1) (by omega) (by omega) ?_
      rw [show 39 + 7 * i + 1 = 40 + 7 * i by omega, hm.2.1, nI_eq (by omega) (by omega)]
      refine ⟨fun c y ey w ew => ?_, fun c => m_owedOf ok h hd (fun y ey w ew => ?_)⟩
      · rw [Int32.add_zero, h2 c] at ey
        rw [nI_1] at ew
        subst ey; subst ew
        exact nx
      · rw [h1 c] at ey
        rw [nI_1] at ew
        subst ey; subst ew
        exact nx
    refine ⟨fun c => absurd c (by rw [e2]; exact nI_ge (by omega) (by omega)), fun _ => m_debtOf (j := 0) (by omega) (by omega) ?_⟩
    rw [Nat.add_zero, hm.1, nI_eq (by omega) (by omega)]
    refine ⟨fun c => two (ntF M p i) (fun c2 => ?_) (fun c2 => ?_) _ _ (Int32.sub_zero _), fun c => m_owedOf ok h hd (two (ntF M p i - nI (owd M i)) (fun c2 => ?_) (fun c2 => ?_) _ _ rfl)⟩
    · rw [ntF, if_pos c2]
    · rw [ntF, if_neg c2, if_neg c]
    · exact absurd (c.trans c2.symm) od.2.2.1
    · rw [ntF, if_neg c2, if_pos c]
theorem m_netOf {M : MH} {u : St} {p : Nat} {post : Int32 → St → Prop} (ok : okH M) (h : MC u M) (hpp : p < M 1 0) (hp : post (ntF M p (M 2 0)) u) : qX12_netOf (nI p) u post := by
  have h5 := ok_np ok
  have e34 : (34 : Int32) + nI p = nI (34 + p) := nI_add 34 p
  unfold qX12_netOf
  rw [e34, nI_clamp (by omega), mc_cash h hpp]
  refine ⟨vp_in_nI (by omega) (by omega), fun x e => ⟨M 2 0 + 1, ?_⟩⟩
  subst e
  exact m_netOf_loop ok h hpp hp (M 2 0) 0 (by omega)
theorem sp_net : SP_net RR := fun x cs ms h => by
  obtain ⟨M, ok, hs, hc, hm, -⟩ := rr_house h
  have hn := ok_np ok
  refine r_isPerson (n := M 1 0) (by omega) (ch_k hc (by omega)) (fun c => ⟨fun _ => ?_, fun c => absurd c (by decide)⟩) (fun c => ⟨fun c => absurd rfl c, fun _ => ?_⟩)
  · obtain ⟨p, hp, rfl⟩ := c.nat (by omega)
    refine r_netOf ok hc hp (r_answer (m_isPerson (n := M 1 0) (by omega) (mc_k hm (by omega)) (fun c => ⟨fun _ => m_netOf ok hm hp (m_gives ⟨rfl, ?_⟩), fun c => absurd c (by decide)⟩) (fun c2 => absurd c c2)))
    rw [up_skip cs 0 5 _ (by decide)]
    exact rr_st h 0
  · refine r_refuse (m_isPerson (n := M 1 0) (by omega) (mc_k hm (by omega)) (fun c2 => absurd c2 c) (fun _ => ⟨fun c => absurd rfl c, fun _ => m_refuse ⟨rfl, ?_⟩⟩))
    rw [up_skip cs 0 5 _ (by decide)]
    exact rr_st h 1
/-- who is short, as the machine's set -/
def shF (M : MH) : Nat → Int32
  | 0 => 0
  | p + 1 => if 0 ≤ ntF M p (M 2 0) then shF M p else shF M p ||| ((1 : Int32) <<< (nI p &&& 31))
theorem shorts_loop {M : MH} {u0 u : St} {post : Int32 → St → St → Prop} (ok : okH M) (h : CH u M) (hp : qX11_shorts_b38 post (shF M (M 1 0)) u0 u) : ∀ (m i : Nat), i + m = M 1 0 → qX11_shorts_L4 post (m + 1) (shF M i) (nI i) u0 u := by
  have h5 := ok_np ok
  intro m
  induction m with
  | zero =>
    intro i hi
    refine ⟨fun _ => ?_, fun c => absurd (by rw [ch_k h (by omega)]; exact nI_le (by omega) (by omega)) c⟩
    rw [show i = M 1 0 by omega]
    exact hp
  | succ m ih =>
    intro i hi
    have nx := ih (i + 1) (by omega)
    rw [shF] at nx
    refine ⟨fun c => absurd c (by rw [ch_k h (by omega)]; exact nI_ge (by omega) (by omega)), fun _ => r_netOf ok h (by omega) ⟨fun c x e => ?_, fun c y ey x e => ?_⟩⟩
    · rw [nI_1] at e
      subst e
      rw [if_pos c] at nx
      exact nx
    · rw [nI_1] at e
      subst e; subst ey
      rw [if_neg c] at nx
      exact nx
theorem m_shorts_loop {M : MH} {u : St} {post : Int32 → St → Prop} (ok : okH M) (h : MC u M) (hp : qX12_shorts_b38 post (shF M (M 1 0)) u) : ∀ (m i : Nat), i + m = M 1 0 → qX12_shorts_L4 post (m + 1) (shF M i) (nI i) u := by
  have h5 := ok_np ok
  have e2 : ga u 0 (1 : Int32).toNatClampNeg = nI (M 1 0) := mc_k (k := 1) h (by omega)
  intro m
  induction m with
  | zero =>
    intro i hi
    refine ⟨fun _ => ?_, fun c => absurd (by rw [e2]; exact nI_le (by omega) (by omega)) c⟩
    rw [show i = M 1 0 by omega]
    exact hp
  | succ m ih =>
    intro i hi
    have nx := ih (i + 1) (by omega)
    rw [shF] at nx
    refine ⟨fun c => absurd c (by rw [e2]; exact nI_ge (by omega) (by omega)), fun _ => m_netOf ok h (by omega) ⟨fun c y ey x e => ?_, fun c y ey x e => ?_⟩⟩
    · rw [nI_1] at e
      rw [Int32.or_zero] at ey
      subst e; subst ey
      rw [if_pos c] at nx
      exact nx
    · rw [nI_1] at e
      subst e; subst ey
      rw [if_neg c] at nx
      exact nx
theorem sp_shorts : SP_shorts RR := fun cs ms h => by
  obtain ⟨M, ok, hs, hc, hm, -⟩ := rr_house h
  refine ⟨_, shorts_loop ok hc (r_answer ⟨_, m_shorts_loop ok hm (m_gives ⟨rfl, ?_⟩) (M 1 0) 0 (by omega)⟩) (M 1 0) 0 (by omega)⟩
  rw [up_skip cs 0 5 _ (by decide)]
  exact rr_st h 0
