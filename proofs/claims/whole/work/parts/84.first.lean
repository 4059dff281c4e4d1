/-! THE START -/
theorem upd_z (j : Nat) : upd (fun _ => (0 : Int32)) j 0 = fun _ => 0 := by
  funext i
  rw [upd_at]
  split <;> rfl
theorem uM0_z (j : Nat) : sw uM0 0 (upd (ga uM0 0) j 0) = uM0 := by
  rw [show ga uM0 0 = fun _ => (0 : Int32) from rfl, upd_z, show (fun _ => (0 : Int32)) = ga uM0 0 from rfl, sw_same]
theorem plain_loop {post : St → Prop} (fin : qX12_plain_b24 post 0 uM0) : ∀ (m i : Nat), i + m = 456 → qX12_plain_L2 post (m + 1) 0 (nI i) uM0 := by
  intro m
  induction m with
  | zero =>
    intro i hi
    have : i = 456 := by omega
    subst this
    exact ⟨fun _ => fin, fun c => absurd (by decide) c⟩
  | succ m ih =>
    intro i hi
    refine ⟨fun c => absurd c (nI_ge (b := 456) (by omega) (by omega)), fun _ => ?_⟩
    rw [Int32.zero_add]
    refine ⟨vp_in_nI (by omega) (by omega), fun u e z ez => ?_⟩
    rw [uM0_z] at e
    rw [nI_1] at ez
    subst e; subst ez
    exact ih (i + 1) (by omega)
def M00 : MH := fun k _ => if k = 3 then 4 else 0
theorem start_ok : qX12_plain 0 uM0 (fun ms => RR cs0 ms) := by
  refine ⟨457, plain_loop ⟨vp_in_nI (n := 3) (by omega) (by omega), fun u1 e1 => ⟨vp_in_nI (n := 7) (by omega) (by omega), fun u2 e2 => ?_⟩⟩ 456 0 (by omega)⟩
  have K : ∀ j, ga u2 0 j = if j = 7 then -1 else if j = 3 then 4 else 0 := fun j => by
    rw [e2, show ((0 : Int32) + 7).toNatClampNeg = 7 from rfl, ga_up0, e1, show ((0 : Int32) + 3).toNatClampNeg = 3 from rfl, ga_up0]
    rfl
  have hm : MR (ga u2 0) (gl u2 1) (456 * 0) (5 * 0) M00 := by
    refine ⟨fun k hk => ?_, fun s hs => absurd hs (Nat.not_lt_zero _), fun p hp => absurd hp (Nat.not_lt_zero _), fun d hd => absurd hd (Nat.not_lt_zero _)⟩
    rw [Nat.mul_zero, Nat.zero_add, K]
    unfold M00
    by_cases c : k = 3
    · subst c
      rfl
    · rw [if_neg (by omega), if_neg c, if_neg c]
      rfl
  have hc : CH (cs0 5) M00 := by
    refine ⟨fun k hk => ?_, fun k _ _ s hs => absurd hs (Nat.not_lt_zero _), fun p hp => absurd hp (Nat.not_lt_zero _), fun k _ _ d hd => absurd hd (Nat.not_lt_zero _)⟩
    show (if k = 3 then (4 : Int32) else 0) = nI (if k = 3 then 4 else 0)
    by_cases c : k = 3
    · rw [if_pos c, if_pos c]
      rfl
    · rw [if_neg c, if_neg c]
      rfl
  have ok : okH M00 := ⟨by decide, by decide, by decide, by decide, trivial, by decide, by decide, by decide, fun s hs => absurd hs (Nat.not_lt_zero _), fun p hp => absurd hp (Nat.not_lt_zero _), fun d hd => absurd hd (Nat.not_lt_zero _)⟩
  have g2 : ∀ k, gi u2 k = gi uM0 k := fun k => by rw [e2, e1]; rfl
  have j2 : ∀ k, gj u2 k = gj uM0 k := fun k => by rw [e2, e1]; rfl
  have a2 : ∀ k, k ≠ 0 → ga u2 k = ga uM0 k := fun k hk => by rw [e2, e1, ga_sw, if_neg hk, ga_sw, if_neg hk]
  have l2 : ∀ k, gl u2 k = gl uM0 k := fun k => by rw [e2, e1]; rfl
  show RR cs0 u2
  unfold RR
  rw [g2, g2, g2, g2, g2, g2, j2, j2, l2, a2 8 (by decide), a2 5 (by decide), a2 6 (by decide), a2 37 (by decide)]
  refine ⟨rfl, ⟨rfl, rfl⟩, ⟨rfl, 0, by omega, rfl, fun j hj => absurd hj (by omega)⟩, ⟨rfl, rfl⟩, fun t ht => ?_, ⟨M00, ⟨ok, rfl, hc, hm⟩, Or.inl ⟨rfl, by rw [K]; rfl⟩⟩, ⟨rfl, 0, by omega, rfl, fun q => absurd q (by omega), fun q => absurd q (by omega), fun q => absurd q (by omega)⟩, ⟨rfl, Or.inl rfl, fun q => absurd q (by decide)⟩⟩
  have : t = 0 ∨ t = 1 ∨ t = 2 ∨ t = 3 := by omega
  rcases this with rfl | rfl | rfl | rfl <;> exact ⟨rfl, rfl, Or.inl rfl⟩
