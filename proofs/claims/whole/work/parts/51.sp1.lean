/-! STEPS 1: status, top, bottom, fault -/
theorem sp_status : SP_status RR := fun cs ms h => by
  show _ ∧ _
  rw [up_same]
  exact ⟨h.1, h⟩
theorem sp_top : SP_top RR := fun cs ms h => by
  show _ ∧ _
  rw [up_same]
  exact ⟨h.2.1.1, h⟩
theorem sp_bottom : SP_bottom RR := fun cs ms h => by
  show _ ∧ _
  rw [up_same]
  exact ⟨h.2.1.2, h⟩
theorem sp_fault : SP_fault RR := fun x cs ms h => by
  have e : RR (va_up cs 0 (cs 0)) ms := by rw [up_same]; exact h
  unfold qX11_fault qX11_fault_b22 qX12_fault qX12_fault_b24
  refine ⟨fun c => ⟨fun c1 => ⟨fun _ => ⟨fun _ => ⟨rfl, e⟩, fun c2 => absurd c2 c1⟩, fun c2 => absurd c2 c⟩, fun c1 => ⟨fun _ => ⟨fun c2 => absurd c1 c2, fun _ => ⟨h.2.2.2.1.2, e⟩⟩, fun c2 => absurd c2 c⟩⟩, fun c => ⟨fun c2 => absurd c c2, fun _ => ⟨h.2.2.2.1.1, e⟩⟩⟩
