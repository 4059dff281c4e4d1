/-! RULES: small methods; the relation under a new status -/
theorem r_within {x a b : Int32} {post : Int32 → Prop} (lo hi : Int) (ha : a.toInt = lo) (hb : b.toInt = hi) (h1 : lo ≤ x.toInt → x.toInt ≤ hi → post 1) (h0 : x.toInt < lo ∨ hi < x.toInt → post 0) : qX11_within x a b post := by
  subst ha; subst hb
  refine ⟨fun c => ⟨Or.inl rfl, h0 (Or.inl ((i_lt _ _).mp c))⟩, fun c => ⟨fun c2 => ⟨Or.inl rfl, h0 (Or.inr ((i_lt _ _).mp c2))⟩, fun c2 => ⟨Or.inr rfl, h1 ?_ ?_⟩⟩⟩
  · rw [i_lt] at c; omega
  · rw [i_lt] at c2; omega
theorem r_isTray {x : Int32} {u : St} {post : Int32 → St → Prop} (h1 : 0 ≤ x.toInt → x.toInt ≤ 3 → post 1 u) (h0 : x.toInt < 0 ∨ 3 < x.toInt → post 0 u) : qX9_isTray x u post :=
  r_within 0 3 rfl rfl (fun a b => ⟨Or.inr rfl, h1 a b⟩) (fun a => ⟨Or.inl rfl, h0 a⟩)
theorem r_deny {x : Int32} {u : St} {post : Int32 → St → Prop} (h : post 0 (si u 0 x)) : qX11_deny x u post := fun v e => e ▸ h
theorem r_grant {u : St} {post : Int32 → St → Prop} (h : post 1 (si u 0 0)) : qX11_grant u post := fun v e => e ▸ h
theorem r_refuse {x : Int32} {u : St} {post : Int32 → St → Prop} (h : post (-1) (si u 0 x)) : qX11_refuse x u post := fun v e => e ▸ h
theorem r_answer {x : Int32} {u : St} {post : Int32 → St → Prop} (h : post x (si u 0 0)) : qX11_answer x u post := fun v e => e ▸ h
theorem m_refuse {x : Int32} {u : St} {post : Int32 → St → Prop} (h : post (-1) (si u 2 x)) : qX12_refuse x u post := fun v e => e ▸ h
theorem m_gives {x : Int32} {u : St} {post : Int32 → St → Prop} (h : post x (si u 2 0)) : qX12_gives x u post := fun v e => e ▸ h
theorem m_is1 {x : Int32} {u : St} {post : Int32 → St → Prop} (hx : x ≠ 0) (h : post 0 (si u 2 x)) : qX12_is x u post := fun v e => ⟨fun _ => ⟨Or.inl rfl, e ▸ h⟩, fun c => absurd c hx⟩
theorem m_is0 {u : St} {post : Int32 → St → Prop} (h : post 1 (si u 2 0)) : qX12_is 0 u post := fun v e => ⟨fun c => absurd rfl c, fun _ => ⟨Or.inr rfl, e ▸ h⟩⟩
theorem m_isTray {x : Int32} {post : Int32 → Prop} (h1 : 0 ≤ x.toInt → x.toInt ≤ 3 → post 1) (h0 : x.toInt < 0 ∨ 3 < x.toInt → post 0) : qX12_isTray x post := by
  refine ⟨fun c => ⟨Or.inl rfl, h0 (Or.inl ((i_lt _ _).mp c))⟩, fun c => ⟨fun c2 => ⟨Or.inl rfl, h0 (Or.inr ?_)⟩, fun c2 => ⟨Or.inr rfl, h1 ?_ ?_⟩⟩⟩
  · have := (i_le _ _).mp c2
    have e : (4 : Int32).toInt = 4 := rfl
    omega
  · rw [i_lt] at c
    have e : (0 : Int32).toInt = 0 := rfl
    omega
  · rw [i_le] at c2
    have e : (4 : Int32).toInt = 4 := rfl
    omega
theorem up_skip {α : Type} (f : Nat → α) (k j : Nat) (v : α) (h : j ≠ k) : va_up (va_up f k v) j (f j) = va_up f k v := by
  funext i
  unfold va_up
  split
  · rename_i e
    rw [if_neg (by omega), e]
  · rfl
theorem rr_st {cs : Nat → St} {ms : St} (h : RR cs ms) (v : Int32) : RR (va_up cs 0 (si (cs 0) 0 v)) (si ms 2 v) := by
  obtain ⟨h1, h2, h3, h4, h5, h6, h7, h8⟩ := h
  exact ⟨rfl, h2, h3, h4, h5, h6, h7, h8⟩
/-- an int in a range is a number -/
theorem i_nat {x : Int32} {n : Nat} (h0 : 0 ≤ x.toInt) (h1 : x.toInt ≤ n) : ∃ k : Nat, k ≤ n ∧ x = nI k ∧ k < 2 ^ 31 := by
  have hx := x.toInt_lt
  refine ⟨x.toInt.toNat, by omega, ?_, by omega⟩
  rw [i_eq, nI_toInt (by omega)]
  omega
