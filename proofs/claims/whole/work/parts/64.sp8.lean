/-! STEPS 8: rule, give, rate, mend -/
theorem i_min {a b : Nat} (ha : a < 2 ^ 31) (hb : b < 2 ^ 31) : (if nI a < nI b then nI a else nI b) = nI (min a b) := by
  by_cases c : a < b
  · rw [if_pos ((nI_ltI ha hb).mpr c), Nat.min_eq_left (by omega)]
  · rw [if_neg (fun q => c ((nI_ltI ha hb).mp q)), Nat.min_eq_right (by omega)]
theorem ch_up {u : St} {M : MH} {k i v : Nat} (h : CH u M) (h8 : 8 ≤ k) (h19 : k ≤ 19) (h13 : k ≠ 13) : CH (sw u k (upd (ga u k) i (nI v))) (mp M k i v) := by
  have P : ∀ j x, ga u j x = nI (M j x) → ga (sw u k (upd (ga u k) i (nI v))) j x = nI (mp M k i v j x) := by
    intro j x e
    by_cases c : j = k
    · subst c
      rw [ga_sw, if_pos rfl, upd_at]
      by_cases c2 : x = i
      · subst c2
        rw [if_pos rfl, mp_eq]
      · rw [if_neg c2, mp_ne (Or.inr c2), e]
    · rw [ga_sw, if_neg c, mp_ne (Or.inl c), e]
  have e0 : mp M k i v 0 0 = M 0 0 := mp_ne (by omega)
  have e1 : mp M k i v 1 0 = M 1 0 := mp_ne (by omega)
  have e2 : mp M k i v 2 0 = M 2 0 := mp_ne (by omega)
  refine ⟨fun j hj => ?_, fun j h1 h2 s hs => P j s ?_, fun p hp => ⟨P 12 p ?_, ?_⟩, fun j h1 h2 d hd => P j d ?_⟩
  · rw [gi_sw, mp_ne (by omega)]
    exact h.1 j hj
  · rw [e0] at hs
    exact h.2.1 j h1 h2 s hs
  · rw [e1] at hp
    exact (h.2.2.1 p hp).1
  · rw [e1] at hp
    rw [gl_sw, mp_ne (by omega)]
    exact (h.2.2.1 p hp).2
  · rw [e2] at hd
    exact h.2.2.2 j h1 h2 d hd
theorem ch_si {u : St} {M : MH} {k v : Nat} (h : CH u M) (h3 : 3 ≤ k) (h8 : k < 8) : CH (si u k (nI v)) (mp M k 0 v) := by
  have e0 : mp M k 0 v 0 0 = M 0 0 := mp_ne (by omega)
  have e1 : mp M k 0 v 1 0 = M 1 0 := mp_ne (by omega)
  have e2 : mp M k 0 v 2 0 = M 2 0 := mp_ne (by omega)
  refine ⟨fun j hj => ?_, fun j h1 h2 s hs => ?_, fun p hp => ⟨?_, ?_⟩, fun j h1 h2 d hd => ?_⟩
  · rw [gi_si]
    by_cases c : j = k
    · subst c
      rw [if_pos rfl, mp_eq]
    · rw [if_neg c, mp_ne (Or.inl c)]
      exact h.1 j hj
  · rw [e0] at hs
    rw [ga_si, mp_ne (by omega)]
    exact h.2.1 j h1 h2 s hs
  · rw [e1] at hp
    rw [ga_si, mp_ne (by omega)]
    exact (h.2.2.1 p hp).1
  · rw [e1] at hp
    rw [gl_si, mp_ne (by omega)]
    exact (h.2.2.1 p hp).2
  · rw [e2] at hd
    rw [ga_si, mp_ne (by omega)]
    exact h.2.2.2 j h1 h2 d hd
theorem mc_up3 {u : St} {M : MH} {v : Nat} (ok : okH M) (h : MC u M) : MC (sw u 0 (upd (ga u 0) (3) (nI v))) (mp M 3 0 v) := by
  have o0 := ok_ns ok
  have o1 := ok_np ok
  have o2 := ok_nd ok
  have E : ∀ j, j ≠ 3 → ga (sw u 0 (upd (ga u 0) (3) (nI v))) 0 j = ga u 0 j := fun j hj => by rw [ga_sw, if_pos rfl, upd_at, if_neg hj]
  have E1 : ga (sw u 0 (upd (ga u 0) (3) (nI v))) 0 (3) = nI v := by rw [ga_sw, if_pos rfl, upd_at, if_pos rfl]
  obtain ⟨h1, h2, h3, h4⟩ := h
  refine ⟨fun j hj => ?_, fun s hs => ?_, fun p hp => ?_, fun d hd => ?_⟩
  · by_cases c : j = 3
    · subst c
      rw [mp_eq]
      exact E1
    · rw [E _ (by omega), mp_ne (Or.inl c)]
      exact h1 j hj
  · have hs : s < M 0 0 := hs
    have q := h2 s hs
    refine ⟨?_, ?_, ?_⟩
    · rw [E _ (by omega), mp_ne (by omega)]
      exact q.1
    · rw [E _ (by omega), mp_ne (by omega)]
      exact q.2.1
    · rw [E _ (by omega), mp_ne (by omega)]
      exact q.2.2
  · have hp : p < M 1 0 := hp
    have q := h3 p hp
    refine ⟨?_, ?_⟩
    · rw [E _ (by omega), mp_ne (by omega)]
      exact q.1
    · exact q.2
  · have hd : d < M 2 0 := hd
    have q := h4 d hd
    refine ⟨?_, ?_, ?_, ?_, ?_, ?_, ?_⟩
    · rw [E _ (by omega), mp_ne (by omega)]
      exact q.1
    · rw [E _ (by omega), mp_ne (by omega)]
      exact q.2.1
    · rw [E _ (by omega), mp_ne (by omega)]
      exact q.2.2.1
    · rw [E _ (by omega), mp_ne (by omega)]
      exact q.2.2.2.1
    · rw [E _ (by omega)]
      exact q.2.2.2.2.1
    · rw [E _ (by omega), mp_ne (by omega)]
      exact q.2.2.2.2.2.1
    · rw [E _ (by omega), mp_ne (by omega)]
      exact q.2.2.2.2.2.2
theorem mc_up4 {u : St} {M : MH} {v : Nat} (ok : okH M) (h : MC u M) : MC (sw u 0 (upd (ga u 0) (4) (nI v))) (mp M 4 0 v) := by
  have o0 := ok_ns ok
  have o1 := ok_np ok
  have o2 := ok_nd ok
  have E : ∀ j, j ≠ 4 → ga (sw u 0 (upd (ga u 0) (4) (nI v))) 0 j = ga u 0 j := fun j hj => by rw [ga_sw, if_pos rfl, upd_at, if_neg hj]
  have E1 : ga (sw u 0 (upd (ga u 0) (4) (nI v))) 0 (4) = nI v := by rw [ga_sw, if_pos rfl, upd_at, if_pos rfl]
  obtain ⟨h1, h2, h3, h4⟩ := h
  refine ⟨fun j hj => ?_, fun s hs => ?_, fun p hp => ?_, fun d hd => ?_⟩
  · by_cases c : j = 4
    · subst c
      rw [mp_eq]
      exact E1
    · rw [E _ (by omega), mp_ne (Or.inl c)]
      exact h1 j hj
  · have hs : s < M 0 0 := hs
    have q := h2 s hs
    refine ⟨?_, ?_, ?_⟩
    · rw [E _ (by omega), mp_ne (by omega)]
      exact q.1
    · rw [E _ (by omega), mp_ne (by omega)]
      exact q.2.1
    · rw [E _ (by omega), mp_ne (by omega)]
      exact q.2.2
  · have hp : p < M 1 0 := hp
    have q := h3 p hp
    refine ⟨?_, ?_⟩
    · rw [E _ (by omega), mp_ne (by omega)]
      exact q.1
    · exact q.2
  · have hd : d < M 2 0 := hd
    have q := h4 d hd
    refine ⟨?_, ?_, ?_, ?_, ?_, ?_, ?_⟩
    · rw [E _ (by omega), mp_ne (by omega)]
      exact q.1
    · rw [E _ (by omega), mp_ne (by omega)]
      exact q.2.1
    · rw [E _ (by omega), mp_ne (by omega)]
      exact q.2.2.1
    · rw [E _ (by omega), mp_ne (by omega)]
      exact q.2.2.2.1
    · rw [E _ (by omega)]
      exact q.2.2.2.2.1
    · rw [E _ (by omega), mp_ne (by omega)]
      exact q.2.2.2.2.2.1
    · rw [E _ (by omega), mp_ne (by omega)]
      exact q.2.2.2.2.2.2
theorem mc_up5 {u : St} {M : MH} {v : Nat} (ok : okH M) (h : MC u M) : MC (sw u 0 (upd (ga u 0) (5) (nI v))) (mp M 5 0 v) := by
  have o0 := ok_ns ok
  have o1 := ok_np ok
  have o2 := ok_nd ok
  have E : ∀ j, j ≠ 5 → ga (sw u 0 (upd (ga u 0) (5) (nI v))) 0 j = ga u 0 j := fun j hj => by rw [ga_sw, if_pos rfl, upd_at, if_neg hj]
  have E1 : ga (sw u 0 (upd (ga u 0) (5) (nI v))) 0 (5) = nI v := by rw [ga_sw, if_pos rfl, upd_at, if_pos rfl]
  obtain ⟨h1, h2, h3, h4⟩ := h
  refine ⟨fun j hj => ?_, fun s hs => ?_, fun p hp => ?_, fun d hd => ?_⟩
  · by_cases c : j = 5
    · subst c
      rw [mp_eq]
      exact E1
    · rw [E _ (by omega), mp_ne (Or.inl c)]
      exact h1 j hj
  · have hs : s < M 0 0 := hs
    have q := h2 s hs
    refine ⟨?_, ?_, ?_⟩
    · rw [E _ (by omega), mp_ne (by omega)]
      exact q.1
    · rw [E _ (by omega), mp_ne (by omega)]
      exact q.2.1
    · rw [E _ (by omega), mp_ne (by omega)]
      exact q.2.2
  · have hp : p < M 1 0 := hp
    have q := h3 p hp
    refine ⟨?_, ?_⟩
    · rw [E _ (by omega), mp_ne (by omega)]
      exact q.1
    · exact q.2
  · have hd : d < M 2 0 := hd
    have q := h4 d hd
    refine ⟨?_, ?_, ?_, ?_, ?_, ?_, ?_⟩
    · rw [E _ (by omega), mp_ne (by omega)]
      exact q.1
    · rw [E _ (by omega), mp_ne (by omega)]
      exact q.2.1
    · rw [E _ (by omega), mp_ne (by omega)]
      exact q.2.2.1
    · rw [E _ (by omega), mp_ne (by omega)]
      exact q.2.2.2.1
    · rw [E _ (by omega)]
      exact q.2.2.2.2.1
    · rw [E _ (by omega), mp_ne (by omega)]
      exact q.2.2.2.2.2.1
    · rw [E _ (by omega), mp_ne (by omega)]
      exact q.2.2.2.2.2.2
theorem mc_up6 {u : St} {M : MH} {v : Nat} (ok : okH M) (h : MC u M) : MC (sw u 0 (upd (ga u 0) (6) (nI v))) (mp M 6 0 v) := by
  have o0 := ok_ns ok
  have o1 := ok_np ok
  have o2 := ok_nd ok
  have E : ∀ j, j ≠ 6 → ga (sw u 0 (upd (ga u 0) (6) (nI v))) 0 j = ga u 0 j := fun j hj => by rw [ga_sw, if_pos rfl, upd_at, if_neg hj]
  have E1 : ga (sw u 0 (upd (ga u 0) (6) (nI v))) 0 (6) = nI v := by rw [ga_sw, if_pos rfl, upd_at, if_pos rfl]
  obtain ⟨h1, h2, h3, h4⟩ := h
  refine ⟨fun j hj => ?_, fun s hs => ?_, fun p hp => ?_, fun d hd => ?_⟩
  · by_cases c : j = 6
    · subst c
      rw [mp_eq]
      exact E1
    · rw [E _ (by omega), mp_ne (Or.inl c)]
      exact h1 j hj
  · have hs : s < M 0 0 := hs
    have q := h2 s hs
    refine ⟨?_, ?_, ?_⟩
    · rw [E _ (by omega), mp_ne (by omega)]
      exact q.1
    · rw [E _ (by omega), mp_ne (by omega)]
      exact q.2.1
    · rw [E _ (by omega), mp_ne (by omega)]
      exact q.2.2
  · have hp : p < M 1 0 := hp
    have q := h3 p hp
    refine ⟨?_, ?_⟩
    · rw [E _ (by omega), mp_ne (by omega)]
      exact q.1
    · exact q.2
  · have hd : d < M 2 0 := hd
    have q := h4 d hd
    refine ⟨?_, ?_, ?_, ?_, ?_, ?_, ?_⟩
    · rw [E _ (by omega), mp_ne (by omega)]
      exact q.1
    · rw [E _ (by omega), mp_ne (by omega)]
      exact q.2.1
    · rw [E _ (by omega), mp_ne (by omega)]
      exact q.2.2.1
    · rw [E _ (by omega), mp_ne (by omega)]
      exact q.2.2.2.1
    · rw [E _ (by omega)]
      exact q.2.2.2.2.1
    · rw [E _ (by omega), mp_ne (by omega)]
      exact q.2.2.2.2.2.1
    · rw [E _ (by omega), mp_ne (by omega)]
      exact q.2.2.2.2.2.2
theorem mc_up8 {u : St} {M : MH} {i : Nat} {v : Nat} (ok : okH M) (h : MC u M) (hi : i < M 0 0) : MC (sw u 0 (upd (ga u 0) (10 + 3 * i) (nI v))) (mp M 8 i v) := by
  have o0 := ok_ns ok
  have o1 := ok_np ok
  have o2 := ok_nd ok
  have E : ∀ j, j ≠ 10 + 3 * i → ga (sw u 0 (upd (ga u 0) (10 + 3 * i) (nI v))) 0 j = ga u 0 j := fun j hj => by rw [ga_sw, if_pos rfl, upd_at, if_neg hj]
  have E1 : ga (sw u 0 (upd (ga u 0) (10 + 3 * i) (nI v))) 0 (10 + 3 * i) = nI v := by rw [ga_sw, if_pos rfl, upd_at, if_pos rfl]
  obtain ⟨h1, h2, h3, h4⟩ := h
  refine ⟨fun j hj => ?_, fun s hs => ?_, fun p hp => ?_, fun d hd => ?_⟩
  · rw [E _ (by omega), mp_ne (by omega)]
    exact h1 j hj
  · have hs : s < M 0 0 := hs
    have q := h2 s hs
    by_cases c : s = i
    · subst c
      refine ⟨?_, ?_, ?_⟩
      · rw [mp_eq]
        exact (congrArg (ga (sw u 0 (upd (ga u 0) (10 + 3 * s) (nI v))) 0) (by omega)).trans E1
      · rw [E _ (by omega), mp_ne (by omega)]
        exact q.2.1
      · rw [E _ (by omega), mp_ne (by omega)]
        exact q.2.2
    · refine ⟨?_, ?_, ?_⟩
      · rw [E _ (by omega), mp_ne (by omega)]
        exact q.1
      · rw [E _ (by omega), mp_ne (by omega)]
        exact q.2.1
      · rw [E _ (by omega), mp_ne (by omega)]
        exact q.2.2
  · have hp : p < M 1 0 := hp
    have q := h3 p hp
    refine ⟨?_, ?_⟩
    · rw [E _ (by omega), mp_ne (by omega)]
      exact q.1
    · exact q.2
  · have hd : d < M 2 0 := hd
    have q := h4 d hd
    refine ⟨?_, ?_, ?_, ?_, ?_, ?_, ?_⟩
    · rw [E _ (by omega), mp_ne (by omega)]
      exact q.1
    · rw [E _ (by omega), mp_ne (by omega)]
      exact q.2.1
    · rw [E _ (by omega), mp_ne (by omega)]
      exact q.2.2.1
    · rw [E _ (by omega), mp_ne (by omega)]
      exact q.2.2.2.1
    · rw [E _ (by omega)]
      exact q.2.2.2.2.1
    · rw [E _ (by omega), mp_ne (by omega)]
      exact q.2.2.2.2.2.1
    · rw [E _ (by omega), mp_ne (by omega)]
      exact q.2.2.2.2.2.2
theorem mc_up12 {u : St} {M : MH} {i : Nat} {v : Nat} (ok : okH M) (h : MC u M) (hi : i < M 1 0) : MC (sw u 0 (upd (ga u 0) (34 + i) (nI v))) (mp M 12 i v) := by
  have o0 := ok_ns ok
  have o1 := ok_np ok
  have o2 := ok_nd ok
  have E : ∀ j, j ≠ 34 + i → ga (sw u 0 (upd (ga u 0) (34 + i) (nI v))) 0 j = ga u 0 j := fun j hj => by rw [ga_sw, if_pos rfl, upd_at, if_neg hj]
  have E1 : ga (sw u 0 (upd (ga u 0) (34 + i) (nI v))) 0 (34 + i) = nI v := by rw [ga_sw, if_pos rfl, upd_at, if_pos rfl]
  obtain ⟨h1, h2, h3, h4⟩ := h
  refine ⟨fun j hj => ?_, fun s hs => ?_, fun p hp => ?_, fun d hd => ?_⟩
  · rw [E _ (by omega), mp_ne (by omega)]
    exact h1 j hj
  · have hs : s < M 0 0 := hs
    have q := h2 s hs
    refine ⟨?_, ?_, ?_⟩
    · rw [E _ (by omega), mp_ne (by omega)]
      exact q.1
    · rw [E _ (by omega), mp_ne (by omega)]
      exact q.2.1
    · rw [E _ (by omega), mp_ne (by omega)]
      exact q.2.2
  · have hp : p < M 1 0 := hp
    have q := h3 p hp
    by_cases c : p = i
    · subst c
      refine ⟨?_, ?_⟩
      · rw [mp_eq]
        exact (congrArg (ga (sw u 0 (upd (ga u 0) (34 + p) (nI v))) 0) (by omega)).trans E1
      · exact q.2
    · refine ⟨?_, ?_⟩
      · rw [E _ (by omega), mp_ne (by omega)]
        exact q.1
      · exact q.2
  · have hd : d < M 2 0 := hd
    have q := h4 d hd
    refine ⟨?_, ?_, ?_, ?_, ?_, ?_, ?_⟩
    · rw [E _ (by omega), mp_ne (by omega)]
      exact q.1
    · rw [E _ (by omega), mp_ne (by omega)]
      exact q.2.1
    · rw [E _ (by omega), mp_ne (by omega)]
      exact q.2.2.1
    · rw [E _ (by omega), mp_ne (by omega)]
      exact q.2.2.2.1
    · rw [E _ (by omega)]
      exact q.2.2.2.2.1
    · rw [E _ (by omega), mp_ne (by omega)]
      exact q.2.2.2.2.2.1
    · rw [E _ (by omega), mp_ne (by omega)]
      exact q.2.2.2.2.2.2
theorem mc_up17 {u : St} {M : MH} {i : Nat} {v : Nat} (ok : okH M) (h : MC u M) (hi : i < M 2 0) : MC (sw u 0 (upd (ga u 0) (42 + 7 * i) (nI v))) (mp M 17 i v) := by
  have o0 := ok_ns ok
  have o1 := ok_np ok
  have o2 := ok_nd ok
  have E : ∀ j, j ≠ 42 + 7 * i → ga (sw u 0 (upd (ga u 0) (42 + 7 * i) (nI v))) 0 j = ga u 0 j := fun j hj => by rw [ga_sw, if_pos rfl, upd_at, if_neg hj]
  have E1 : ga (sw u 0 (upd (ga u 0) (42 + 7 * i) (nI v))) 0 (42 + 7 * i) = nI v := by rw [ga_sw, if_pos rfl, upd_at, if_pos rfl]
  obtain ⟨h1, h2, h3, h4⟩ := h
  refine ⟨fun j hj => ?_, fun s hs => ?_, fun p hp => ?_, fun d hd => ?_⟩
  · rw [E _ (by omega), mp_ne (by omega)]
    exact h1 j hj
  · have hs : s < M 0 0 := hs
    have q := h2 s hs
    refine ⟨?_, ?_, ?_⟩
    · rw [E _ (by omega), mp_ne (by omega)]
      exact q.1
    · rw [E _ (by omega), mp_ne (by omega)]
      exact q.2.1
    · rw [E _ (by omega), mp_ne (by omega)]
      exact q.2.2
  · have hp : p < M 1 0 := hp
    have q := h3 p hp
    refine ⟨?_, ?_⟩
    · rw [E _ (by omega), mp_ne (by omega)]
      exact q.1
    · exact q.2
  · have hd : d < M 2 0 := hd
    have q := h4 d hd
    by_cases c : d = i
    · subst c
      refine ⟨?_, ?_, ?_, ?_, ?_, ?_, ?_⟩
      · rw [E _ (by omega), mp_ne (by omega)]
        exact q.1
      · rw [E _ (by omega), mp_ne (by omega)]
        exact q.2.1
      · rw [E _ (by omega), mp_ne (by omega)]
        exact q.2.2.1
      · rw [mp_eq]
        exact (congrArg (ga (sw u 0 (upd (ga u 0) (42 + 7 * d) (nI v))) 0) (by omega)).trans E1
      · rw [E _ (by omega)]
        exact q.2.2.2.2.1
      · rw [E _ (by omega), mp_ne (by omega)]
        exact q.2.2.2.2.2.1
      · rw [E _ (by omega), mp_ne (by omega)]
        exact q.2.2.2.2.2.2
    · refine ⟨?_, ?_, ?_, ?_, ?_, ?_, ?_⟩
      · rw [E _ (by omega), mp_ne (by omega)]
        exact q.1
      · rw [E _ (by omega), mp_ne (by omega)]
        exact q.2.1
      · rw [E _ (by omega), mp_ne (by omega)]
        exact q.2.2.1
      · rw [E _ (by omega), mp_ne (by omega)]
        exact q.2.2.2.1
      · rw [E _ (by omega)]
        exact q.2.2.2.2.1
      · rw [E _ (by omega), mp_ne (by omega)]
        exact q.2.2.2.2.2.1
      · rw [E _ (by omega), mp_ne (by omega)]
        exact q.2.2.2.2.2.2
theorem mc_up19 {u : St} {M : MH} {i : Nat} {v : Nat} (ok : okH M) (h : MC u M) (hi : i < M 2 0) : MC (sw u 0 (upd (ga u 0) (45 + 7 * i) (nI v))) (mp M 19 i v) := by
  have o0 := ok_ns ok
  have o1 := ok_np ok
  have o2 := ok_nd ok
  have E : ∀ j, j ≠ 45 + 7 * i → ga (sw u 0 (upd (ga u 0) (45 + 7 * i) (nI v))) 0 j = ga u 0 j := fun j hj => by rw [ga_sw, if_pos rfl, upd_at, if_neg hj]
  have E1 : ga (sw u 0 (upd (ga u 0) (45 + 7 * i) (nI v))) 0 (45 + 7 * i) = nI v := by rw [ga_sw, if_pos rfl, upd_at, if_pos rfl]
  obtain ⟨h1, h2, h3, h4⟩ := h
  refine ⟨fun j hj => ?_, fun s hs => ?_, fun p hp => ?_, fun d hd => ?_⟩
  · rw [E _ (by omega), mp_ne (by omega)]
    exact h1 j hj
  · have hs : s < M 0 0 := hs
    have q := h2 s hs
    refine ⟨?_, ?_, ?_⟩
    · rw [E _ (by omega), mp_ne (by omega)]
      exact q.1
    · rw [E _ (by omega), mp_ne (by omega)]
      exact q.2.1
    · rw [E _ (by omega), mp_ne (by omega)]
      exact q.2.2
  · have hp : p < M 1 0 := hp
    have q := h3 p hp
    refine ⟨?_, ?_⟩
    · rw [E _ (by omega), mp_ne (by omega)]
      exact q.1
    · exact q.2
  · have hd : d < M 2 0 := hd
    have q := h4 d hd
    by_cases c : d = i
    · subst c
      refine ⟨?_, ?_, ?_, ?_, ?_, ?_, ?_⟩
      · rw [E _ (by omega), mp_ne (by omega)]
        exact q.1
      · rw [E _ (by omega), mp_ne (by omega)]
        exact q.2.1
      · rw [E _ (by omega), mp_ne (by omega)]
        exact q.2.2.1
      · rw [E _ (by omega), mp_ne (by omega)]
        exact q.2.2.2.1
      · rw [E _ (by omega)]
        exact q.2.2.2.2.1
      · rw [E _ (by omega), mp_ne (by omega)]
        exact q.2.2.2.2.2.1
      · rw [mp_eq]
        exact (congrArg (ga (sw u 0 (upd (ga u 0) (45 + 7 * d) (nI v))) 0) (by omega)).trans E1
    · refine ⟨?_, ?_, ?_, ?_, ?_, ?_, ?_⟩
      · rw [E _ (by omega), mp_ne (by omega)]
        exact q.1
      · rw [E _ (by omega), mp_ne (by omega)]
        exact q.2.1
      · rw [E _ (by omega), mp_ne (by omega)]
        exact q.2.2.1
      · rw [E _ (by omega), mp_ne (by omega)]
        exact q.2.2.2.1
      · rw [E _ (by omega)]
        exact q.2.2.2.2.1
      · rw [E _ (by omega), mp_ne (by omega)]
        exact q.2.2.2.2.2.1
      · rw [E _ (by omega), mp_ne (by omega)]
        exact q.2.2.2.2.2.2
/-- beside the house, the reference is as it was -/
def mSame (ms ms1 : St) : Prop := mKeep ms ms1 ∧ (∀ j, 88 ≤ j → j < 3072 → ga ms1 0 j = ga ms 0 j) ∧ ga ms1 0 7 = ga ms 0 7 ∧ gi ms1 33 = gi ms 33 ∧ gi ms1 34 = gi ms 34 ∧ ga ms1 35 = ga ms 35 ∧ ga ms1 36 = ga ms 36
theorem mSame.rfl {u : St} : mSame u u := ⟨⟨_root_.rfl, _root_.rfl, _root_.rfl, _root_.rfl, _root_.rfl, _root_.rfl, _root_.rfl, _root_.rfl, _root_.rfl, _root_.rfl, _root_.rfl, _root_.rfl, _root_.rfl⟩, fun _ _ _ => _root_.rfl, _root_.rfl, _root_.rfl, _root_.rfl, _root_.rfl, _root_.rfl⟩
theorem mKeep.trans {a b c : St} (h : mKeep a b) (q : mKeep b c) : mKeep a c := by
  obtain ⟨h1, h2, h3, h4, h5, h6, h7, h8, h9, h10, h11, h12, h13⟩ := h
  obtain ⟨q1, q2, q3, q4, q5, q6, q7, q8, q9, q10, q11, q12, q13⟩ := q
  exact ⟨q1.trans h1, q2.trans h2, q3.trans h3, q4.trans h4, q5.trans h5, q6.trans h6, q7.trans h7, q8.trans h8, q9.trans h9, q10.trans h10, q11.trans h11, q12.trans h12, q13.trans h13⟩
theorem mSame.trans {a b c : St} (h : mSame a b) (q : mSame b c) : mSame a c := ⟨h.1.trans q.1, fun j h1 h2 => (q.2.1 j h1 h2).trans (h.2.1 j h1 h2), q.2.2.1.trans h.2.2.1, q.2.2.2.1.trans h.2.2.2.1, q.2.2.2.2.1.trans h.2.2.2.2.1, q.2.2.2.2.2.1.trans h.2.2.2.2.2.1, q.2.2.2.2.2.2.trans h.2.2.2.2.2.2⟩
theorem mSame_upd (u : St) {i : Nat} (v : Int32) (hi : i < 88) (h7 : i ≠ 7) : mSame u (sw u 0 (upd (ga u 0) i v)) := ⟨⟨rfl, rfl, rfl, rfl, rfl, rfl, rfl, rfl, rfl, rfl, rfl, rfl, rfl⟩, fun j h1 h2 => by rw [ga_sw, if_pos rfl, upd_at, if_neg (by omega)], by rw [ga_sw, if_pos rfl, upd_at, if_neg (by omega)], rfl, rfl, rfl, rfl⟩
theorem rr_new {cs : Nat → St} {ms : St} (h : RR cs ms) {M M' : MH} {u5 ms1 : St} {v : Int32} (ht : TR (cs 7) (ga ms 0) 0 M) (ok : okH M') (st : setl M') (hc : CH u5 M') (hm : MC ms1 M') (h0 : M' 0 0 = M 0 0) (h1 : M' 1 0 = M 1 0) (hk : mSame ms ms1) : RR (va_up (va_up cs 0 (si (cs 0) 0 v)) 5 u5) (si ms1 2 v) :=
  rr_put h ok st hc hm (TR_congr h0 h1 hk.2.2.1 (fun j q1 q2 => by rw [Nat.mul_zero, Nat.zero_add]; exact hk.2.1 j q1 (by omega)) ht) hk.1 rfl (fun j q1 q2 => hk.2.1 j (by omega) (by omega))
theorem sp_rule : SP_rule RR := fun x cs ms h => by
  obtain ⟨M, ok, hs, hc, hm, ht⟩ := rr_house h
  have hr : ∀ v, RR (va_up (va_up cs 0 (si (cs 0) 0 v)) 5 (cs 5)) (si ms 2 v) := fun v => by
    rw [up_skip cs 0 5 _ (by decide)]
    exact rr_st h v
  refine r_within 0 16 rfl rfl (fun p q => ⟨fun _ u e => ?_, fun c => absurd c (by decide)⟩) (fun p => ⟨fun c => absurd rfl c, fun _ => r_deny ⟨Or.inl rfl, m_isFrom 0 16 rfl rfl (fun a b => absurd p (by omega)) (fun _ => ⟨fun c => absurd rfl c, fun _ => m_is1 (by decide) ⟨Or.inl rfl, rfl, hr 1⟩⟩)⟩⟩)
  obtain ⟨k, hk, rfl, -⟩ := i_nat (n := 16) p q
  subst e
  refine r_grant ⟨Or.inr rfl, m_isFrom 0 16 rfl rfl (fun a b => ⟨fun _ u e => ?_, fun c => absurd c (by decide)⟩) (fun r => absurd r (by omega))⟩
  subst e
  refine m_is0 ⟨Or.inr rfl, rfl, rr_new h ht (M' := mp M 3 0 k) ?_ ?_ (ch_si hc (by omega) (by omega)) (mc_up3 ok hm) rfl rfl (mSame_upd _ _ (by decide) (by decide))⟩
  · obtain ⟨h0, h1, h2, h3, h4, h5, h6, h7, h8, h9, h10⟩ := ok
    exact ⟨h0, h1, h2, hk, h4, h5, h6, h7, h8, h9, h10⟩
  · exact setl_congr (M := M) rfl rfl rfl rfl (fun _ => rfl) (fun _ => rfl) (fun _ => rfl) (fun _ => rfl) (fun _ => rfl) hs
theorem ok_up12 {M : MH} {p v : Nat} (ok : okH M) (hv : v ≤ 9999) : okH (mp M 12 p v) := by
  obtain ⟨h0, h1, h2, h3, h4, h5, h6, h7, h8, h9, h10⟩ := ok
  refine ⟨h0, h1, h2, h3, h4, h5, h6, h7, h8, fun q hq => ?_, h10⟩
  have := h9 q hq
  refine ⟨?_, this.2⟩
  by_cases c : q = p
  · subst c
    rw [mp_eq]
    exact hv
  · rw [mp_ne (Or.inr c)]
    exact this.1
theorem setl_12 {M : MH} {p v : Nat} (h : setl M) : setl (mp M 12 p v) := setl_congr (M := M) rfl rfl rfl rfl (fun _ => rfl) (fun _ => rfl) (fun _ => rfl) (fun _ => rfl) (fun _ => rfl) h
/-- some cash more, to the most -/
def gan (M : MH) (p c : Nat) : MH := mp M 12 p (min (M 12 p + c) 9999)
theorem r_gain {M : MH} {p c : Nat} {u : St} {post : St → Prop} (ok : okH M) (h : CH u M) (hp : p < M 1 0) (hc : c < 100000) (k : ∀ u', CH u' (gan M p c) → post u') : qX2_gain (nI p) (nI c) u post := by
  have h5 := ok_np ok
  have hcs := ok.2.2.2.2.2.2.2.2.2.1 p hp
  have hv : vp_in (nI p) 5 := vp_in_nI (by omega) (by omega)
  refine ⟨hv, hv, fun u' e => k u' ?_⟩
  rw [nI_clamp (by omega), (h.2.2.1 p hp).1, nI_add, show (9999 : Int32) = nI 9999 from rfl, i_min (by omega) (by omega)] at e
  subst e
  exact ch_up h (by omega) (by omega) (by omega)
theorem i_34 (p : Nat) : (34 : Int32) + nI p = nI (34 + p) := nI_add 34 p
theorem m_givesTo {M : MH} {p c : Nat} {u : St} {post : St → Prop} (ok : okH M) (h : MC u M) (hp : p < M 1 0) (hc : c < 100000) (k : ∀ u', MC u' (gan M p c) → mSame u u' → post u') : qX12_givesTo (nI p) (nI c) u post := by
  have h5 := ok_np ok
  have hcs := ok.2.2.2.2.2.2.2.2.2.1 p hp
  unfold qX12_givesTo
  rw [i_34]
  have hv : vp_in (nI (34 + p)) 3072 := vp_in_nI (by omega) (by omega)
  refine ⟨hv, hv, fun u' e => k u' ?_ ?_⟩
  · rw [nI_clamp (by omega), mc_cash h hp, nI_add, show (9999 : Int32) = nI 9999 from rfl, i_min (by omega) (by omega)] at e
    subst e
    exact mc_up12 ok h hp
  · rw [nI_clamp (by omega)] at e
    subst e
    exact mSame_upd _ _ (by omega) (by omega)
theorem gan_ok {M : MH} {p c : Nat} (ok : okH M) : okH (gan M p c) := ok_up12 ok (by omega)
theorem gan_setl {M : MH} {p c : Nat} (h : setl M) : setl (gan M p c) := setl_12 h
theorem sp_give : SP_give RR := fun x y cs ms h => by
  obtain ⟨M, ok, hs, hc, hm, ht⟩ := rr_house h
  have hn := ok_np ok
  have hr : ∀ v, RR (va_up (va_up cs 0 (si (cs 0) 0 v)) 5 (cs 5)) (si ms 2 v) := fun v => by
    rw [up_skip cs 0 5 _ (by decide)]
    exact rr_st h v
  refine r_isPerson (n := M 1 0) (by omega) (ch_k hc (by omega)) (fun c => ⟨fun c => absurd c (by decide), fun _ => ?_⟩) (fun c => ⟨fun _ => ?_, fun c => absurd rfl c⟩)
  · have mi : ∀ {post : Int32 → St → Prop}, post 1 ms → qX12_isPerson x ms post := fun hp => m_isPerson (n := M 1 0) (by omega) (mc_k hm (by omega)) (fun _ => hp) (fun c2 => absurd c c2)
    obtain ⟨p, hp, rfl⟩ := c.nat (by omega)
    refine r_within 1 999 rfl rfl (fun q1 q2 => ⟨fun _ => ?_, fun c => absurd c (by decide)⟩) (fun q => ⟨fun c => absurd rfl c, fun _ => r_refuse (mi ⟨fun c => absurd c (by decide), fun _ => m_isFrom 1 999 rfl rfl (fun a b => absurd q (by omega)) (fun _ => ⟨fun c => absurd rfl c, fun _ => m_refuse ⟨rfl, hr 1⟩⟩)⟩)⟩)
    obtain ⟨k, hk, rfl, -⟩ := i_nat (n := 999) (by omega) q2
    refine r_gain ok hc hp (by omega) (fun u5 h5 => ⟨vp_in_nI (by omega) (by omega), r_answer (mi ⟨fun c => absurd c (by decide), fun _ => m_isFrom 1 999 rfl rfl (fun a b => ⟨fun _ => m_givesTo ok hm hp (by omega) (fun m1 hm1 hk1 => ?_), fun c => absurd c (by decide)⟩) (fun r => absurd r (by omega))⟩)⟩)
    have hp1 : p < gan M p k 1 0 := hp
    rw [i_34]
    refine ⟨vp_in_nI (by omega) (by omega), m_gives ⟨?_, rr_new h ht (gan_ok ok) (gan_setl hs) h5 hm1 rfl rfl hk1⟩⟩
    rw [nI_clamp (by omega), nI_clamp (by omega), mc_cash hm1 hp1, (h5.2.2.1 p hp1).1]
  · exact r_refuse (m_isPerson (n := M 1 0) (by omega) (mc_k hm (by omega)) (fun c2 => absurd c2 c) (fun _ => ⟨fun _ => m_refuse ⟨rfl, hr 1⟩, fun c => absurd rfl c⟩))
theorem sp_rate : SP_rate RR := fun x y cs ms h => by
  obtain ⟨M, ok, hs, hc, hm, ht⟩ := rr_house h
  have hn := ok_nd ok
  have hr : ∀ v, RR (va_up (va_up cs 0 (si (cs 0) 0 v)) 5 (cs 5)) (si ms 2 v) := fun v => by
    rw [up_skip cs 0 5 _ (by decide)]
    exact rr_st h v
  refine r_isDebt (n := M 2 0) (by omega) (ch_k hc (by omega)) (fun c => ⟨fun c => absurd c (by decide), fun _ => ?_⟩) (fun c => ⟨fun _ => ?_, fun c => absurd rfl c⟩)
  · have mi : ∀ {post : Int32 → St → Prop}, post 1 ms → qX12_isDebt x ms post := fun hp => m_isDebt (n := M 2 0) (by omega) (mc_k hm (by omega)) (fun _ => hp) (fun c2 => absurd c c2)
    obtain ⟨d, hd, rfl⟩ := c.nat (by omega)
    refine r_within 0 9 rfl rfl (fun q1 q2 => ⟨fun _ => ?_, fun c => absurd c (by decide)⟩) (fun q => ⟨fun c => absurd rfl c, fun _ => r_refuse (mi ⟨fun c => absurd c (by decide), fun _ => m_isFrom 0 9 rfl rfl (fun a b => absurd q (by omega)) (fun _ => ⟨fun c => absurd rfl c, fun _ => m_refuse ⟨rfl, hr 1⟩⟩)⟩)⟩)
    obtain ⟨k, hk, rfl, -⟩ := i_nat (n := 9) (by omega) q2
    have mg : ∀ {post : Int32 → Prop}, post 1 → qX12_isFrom (nI k).toInt64 0 9 post := fun hp => m_isFrom 0 9 rfl rfl (fun a b => hp) (fun r => absurd r (by omega))
    rw [ch_k hc (by omega)]
    refine r_has (ok_paid ok) (by omega) (fun c2 => ⟨fun c => absurd c (by decide), fun _ => r_refuse (mi ⟨fun c => absurd c (by decide), fun _ => mg ⟨fun _ => m_isPaidUp ok hm (by omega) (fun _ => ⟨fun c => absurd c (by decide), fun _ => m_refuse ⟨rfl, hr 7⟩⟩) (fun c3 => absurd c2 (by rw [c3]; decide)), fun c => absurd c (by decide)⟩⟩)⟩) (fun c2 => ⟨fun _ => ⟨vp_in_nI (by omega) (by omega), fun y ey => ⟨vp_in_nI (by omega) (by omega), fun u5 e5 => ?_⟩⟩, fun c => absurd rfl c⟩)
    rw [nI_clamp (by omega)] at e5 ey
    subst e5
    rw [ch_d hc (by omega) (by omega) hd] at ey
    subst ey
    refine r_answer (mi ⟨fun c => absurd c (by decide), fun _ => mg ⟨fun _ => m_isPaidUp ok hm (by omega) (fun c3 => absurd c3 (by rw [c2]; decide)) (fun _ => ⟨fun _ => m_debtOf (j := 3) (by omega) (by omega) (m_debtRow ?_), fun c => absurd rfl c⟩), fun c => absurd c (by decide)⟩⟩)
    rw [show (3 : Int32) = nI 3 from rfl, nI_add, nI_clamp (by omega), show 39 + 7 * d + 3 = 42 + 7 * d by omega]
    refine ⟨vp_in_nI (by omega) (by omega), fun m1 e1 => m_gives ⟨?_, ?_⟩⟩
    · exact (mc_d hm hd).2.2.2.1.symm
    · subst e1
      refine rr_new h ht (M' := mp M 17 d k) ?_ (setl_congr (M := M) rfl rfl rfl rfl (fun _ => rfl) (fun _ => rfl) (fun _ => rfl) (fun _ => rfl) (fun _ => rfl) hs) (ch_up hc (by omega) (by omega) (by omega)) (mc_up17 ok hm hd) rfl rfl (mSame_upd _ _ (by omega) (by omega))
      obtain ⟨h0, h1, h2, h3, h4, h5, h6, h7, h8, h9, h10⟩ := ok
      refine ⟨h0, h1, h2, h3, h4, h5, h6, h7, h8, h9, fun e he => ?_⟩
      obtain ⟨b1, b2, b3, b4, b5, b6, b7, b8⟩ := h10 e he
      refine ⟨b1, b2, b3, b4, b5, ?_, b7, b8⟩
      by_cases c : e = d
      · subst c
        rw [mp_eq]
        exact hk
      · rw [mp_ne (Or.inr c)]
        exact b6
  · exact r_refuse (m_isDebt (n := M 2 0) (by omega) (mc_k hm (by omega)) (fun c2 => absurd c2 c) (fun _ => ⟨fun _ => m_refuse ⟨rfl, hr 1⟩, fun c => absurd rfl c⟩))
