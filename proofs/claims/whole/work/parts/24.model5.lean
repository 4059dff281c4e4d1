/-! reference -/
theorem dX12_isSum_0 : decode cX12_isSum 0 = .ok (.iconst 0, 1) := by decide +kernel
theorem dX12_isSum_1 : decode cX12_isSum 1 = .ok (.istore_n 3, 1) := by decide +kernel
theorem dX12_isSum_2 : decode cX12_isSum 2 = .ok (.iconst 0, 1) := by decide +kernel
theorem dX12_isSum_3 : decode cX12_isSum 3 = .ok (.istore 4, 2) := by decide +kernel
theorem dX12_isSum_5 : decode cX12_isSum 5 = .ok (.iload 4, 2) := by decide +kernel
theorem dX12_isSum_7 : decode cX12_isSum 7 = .ok (.aload_n 0, 1) := by decide +kernel
theorem dX12_isSum_8 : decode cX12_isSum 8 = .ok (.getfield 7, 3) := by decide +kernel
theorem dX12_isSum_11 : decode cX12_isSum 11 = .ok (.iconst 2, 1) := by decide +kernel
theorem dX12_isSum_12 : decode cX12_isSum 12 = .ok (.iaload, 1) := by decide +kernel
theorem dX12_isSum_13 : decode cX12_isSum 13 = .ok (.if_icmp .ge 32, 3) := by decide +kernel
theorem dX12_isSum_16 : decode cX12_isSum 16 = .ok (.iload_n 3, 1) := by decide +kernel
theorem dX12_isSum_17 : decode cX12_isSum 17 = .ok (.aload_n 0, 1) := by decide +kernel
theorem dX12_isSum_18 : decode cX12_isSum 18 = .ok (.iload_n 1, 1) := by decide +kernel
theorem dX12_isSum_19 : decode cX12_isSum 19 = .ok (.iload 4, 2) := by decide +kernel
theorem dX12_isSum_21 : decode cX12_isSum 21 = .ok (.invokevirtual 201, 3) := by decide +kernel
theorem dX12_isSum_24 : decode cX12_isSum 24 = .ok (.ifCond .eq 12, 3) := by decide +kernel
theorem dX12_isSum_27 : decode cX12_isSum 27 = .ok (.aload_n 0, 1) := by decide +kernel
theorem dX12_isSum_28 : decode cX12_isSum 28 = .ok (.iload 4, 2) := by decide +kernel
theorem dX12_isSum_30 : decode cX12_isSum 30 = .ok (.invokevirtual 282, 3) := by decide +kernel
theorem dX12_isSum_33 : decode cX12_isSum 33 = .ok (.goto 4, 3) := by decide +kernel
theorem dX12_isSum_36 : decode cX12_isSum 36 = .ok (.iconst 0, 1) := by decide +kernel
theorem dX12_isSum_37 : decode cX12_isSum 37 = .ok (.iadd, 1) := by decide +kernel
theorem dX12_isSum_38 : decode cX12_isSum 38 = .ok (.istore_n 3, 1) := by decide +kernel
theorem dX12_isSum_39 : decode cX12_isSum 39 = .ok (.iinc 4 1, 3) := by decide +kernel
theorem dX12_isSum_42 : decode cX12_isSum 42 = .ok (.goto (-37), 3) := by decide +kernel
theorem dX12_isSum_45 : decode cX12_isSum 45 = .ok (.iload_n 3, 1) := by decide +kernel
theorem dX12_isSum_46 : decode cX12_isSum 46 = .ok (.iload_n 2, 1) := by decide +kernel
theorem dX12_isSum_47 : decode cX12_isSum 47 = .ok (.if_icmp .ne 18, 3) := by decide +kernel
theorem dX12_isSum_50 : decode cX12_isSum 50 = .ok (.iload_n 1, 1) := by decide +kernel
theorem dX12_isSum_51 : decode cX12_isSum 51 = .ok (.aload_n 0, 1) := by decide +kernel
theorem dX12_isSum_52 : decode cX12_isSum 52 = .ok (.invokevirtual 368, 3) := by decide +kernel
theorem dX12_isSum_55 : decode cX12_isSum 55 = .ok (.iconst (-1), 1) := by decide +kernel
theorem dX12_isSum_56 : decode cX12_isSum 56 = .ok (.ixor, 1) := by decide +kernel
theorem dX12_isSum_57 : decode cX12_isSum 57 = .ok (.iand, 1) := by decide +kernel
theorem dX12_isSum_58 : decode cX12_isSum 58 = .ok (.ifCond .ne 7, 3) := by decide +kernel
theorem dX12_isSum_61 : decode cX12_isSum 61 = .ok (.iconst 1, 1) := by decide +kernel
theorem dX12_isSum_62 : decode cX12_isSum 62 = .ok (.goto 4, 3) := by decide +kernel
theorem dX12_isSum_65 : decode cX12_isSum 65 = .ok (.iconst 0, 1) := by decide +kernel
theorem dX12_isSum_66 : decode cX12_isSum 66 = .ok (.ireturn, 1) := by decide +kernel
def qX12_isSum_b37  (post : Int32 → St → Prop) (K5 : Int32 → Int32 → Int32 → Int32 → St → Prop) (x1 : Int32) (x2 : Int32) (x4 : Int32) (s0 : Int32) (s1 : Int32) (u0 : St) : Prop := ∀ x3_11 : Int32, x3_11 = (s1 + s0) → ∀ x4_12 : Int32, x4_12 = x4 + (1 : Int32) → K5 x1 x2 x3_11 x4_12 u0
set_option maxRecDepth 100000 in
set_option maxHeartbeats 4000000 in
theorem kX12_isSum_b37 {C : Cx} {o0 : Nat} {a0 : Nat → Nat} (hC : Fx C cX12_isSum 5 RX12) (hR0 : xR C = rm 4) {post : Int32 → St → Prop} (hR : RZ C cX12_isSum 5 (fun u : St => (wX12 o0 a0 (xy C) u [])) (fun r u => post r u)) {K5 : Int32 → Int32 → Int32 → Int32 → St → Prop} (hK5 : ∀ (x1 : Int32) (x2 : Int32) (x3 : Int32) (x4 : Int32) (u0 : St), K5 x1 x2 x3 x4 u0 → G C 0 0 5 (wX12 o0 a0 (xy C) u0 []) 5 [(0, .ref o0), (1, .int x1), (2, .int x2), (3, .int x3), (4, .int x4)] []) {x1 : Int32} {x2 : Int32} {x4 : Int32} {s0 : Int32} {s1 : Int32} {u0 : St} (h : qX12_isSum_b37 post K5 x1 x2 x4 s0 s1 u0) : G C 0 0 5 (wX12 o0 a0 (xy C) u0 []) 37 [(0, .ref o0), (1, .int x1), (2, .int x2), (4, .int x4)] [.int s0, .int s1] := by
  refine g_iadd (pc := 37) hC dX12_isSum_37 ?_
  refine g_topi (fun x3_11 ex3_11 => ?_)
  have h := h x3_11 ex3_11
  refine g_istore_n (pc := 38) (lv' := [(3, .int x3_11), (0, .ref o0), (1, .int x1), (2, .int x2), (4, .int x4)]) hC dX12_isSum_38 rfl (Nat.le_of_ble_eq_true rfl) rfl ?_
  obtain ⟨x4_12, ex4_12⟩ : ∃ z : Int32, z = x4 + (1 : Int32) := ⟨_, rfl⟩
  have h := h x4_12 ex4_12
  refine g_iinc (pc := 39) (v := x4_12) (lv' := [(4, .int x4_12), (3, .int x3_11), (0, .ref o0), (1, .int x1), (2, .int x2)]) hC 4 dX12_isSum_39 rfl (by rw [ex4_12]; rfl) (Nat.le_of_ble_eq_true rfl) rfl ?_
  refine g_goto (pc := 42) (tgt := 5) hC dX12_isSum_42 (by decide) ?_
  refine g_sub (lv' := [(0, .ref o0), (1, .int x1), (2, .int x2), (3, .int x3_11), (4, .int x4_12)]) [2, 3, 4, 1, 0] rfl ?_
  exact hK5 _ _ _ _ _ h
def qX12_isSum_b66  (post : Int32 → St → Prop)  (s0 : Int32) (u0 : St) : Prop := (bz s0 ∧ post s0 u0)
set_option maxRecDepth 100000 in
set_option maxHeartbeats 4000000 in
theorem kX12_isSum_b66 {C : Cx} {o0 : Nat} {a0 : Nat → Nat} (hC : Fx C cX12_isSum 5 RX12) (hR0 : xR C = rm 4) {post : Int32 → St → Prop} (hR : RZ C cX12_isSum 5 (fun u : St => (wX12 o0 a0 (xy C) u [])) (fun r u => post r u))  {s0 : Int32} {u0 : St} (h : qX12_isSum_b66 post s0 u0) : G C 0 0 5 (wX12 o0 a0 (xy C) u0 []) 66 [] [.int s0] := by
  exact hR _ _ _ u0 dX12_isSum_66 h.1 h.2
def qX12_isSum_b65  (post : Int32 → St → Prop)  (u0 : St) : Prop := qX12_isSum_b66 post (0 : Int32) u0
set_option maxRecDepth 100000 in
set_option maxHeartbeats 4000000 in
theorem kX12_isSum_b65 {C : Cx} {o0 : Nat} {a0 : Nat → Nat} (hC : Fx C cX12_isSum 5 RX12) (hR0 : xR C = rm 4) {post : Int32 → St → Prop} (hR : RZ C cX12_isSum 5 (fun u : St => (wX12 o0 a0 (xy C) u [])) (fun r u => post r u))  {u0 : St} (h : qX12_isSum_b65 post u0) : G C 0 0 5 (wX12 o0 a0 (xy C) u0 []) 65 [] [] := by
  refine g_iconst (pc := 65) (v := 0) hC dX12_isSum_65 (by decide) ?_
  exact kX12_isSum_b66 hC hR0 hR  h
def qX12_isSum_b45  (post : Int32 → St → Prop)  (x1 : Int32) (x2 : Int32) (x3 : Int32) (u0 : St) : Prop := ((¬ x3 = x2 → qX12_isSum_b65 post u0) ∧ (x3 = x2 → qX12_openDebts u0 (fun r_15 u_14 => ((¬ (x1 &&& (r_15 ^^^ (-1 : Int32))) = 0 → qX12_isSum_b65 post u_14) ∧ ((x1 &&& (r_15 ^^^ (-1 : Int32))) = 0 → qX12_isSum_b66 post (1 : Int32) u_14)))))
set_option maxRecDepth 100000 in
set_option maxHeartbeats 4000000 in
theorem kX12_isSum_b45 {C : Cx} {o0 : Nat} {a0 : Nat → Nat} (hC : Fx C cX12_isSum 5 RX12) (hR0 : xR C = rm 4) {post : Int32 → St → Prop} (hR : RZ C cX12_isSum 5 (fun u : St => (wX12 o0 a0 (xy C) u [])) (fun r u => post r u))  {x1 : Int32} {x2 : Int32} {x3 : Int32} {u0 : St} (h : qX12_isSum_b45 post x1 x2 x3 u0) : G C 0 0 5 (wX12 o0 a0 (xy C) u0 []) 45 [(0, .ref o0), (1, .int x1), (2, .int x2), (3, .int x3)] [] := by
  refine g_iload_n (pc := 45) hC 3 dX12_isSum_45 rfl rfl ?_
  refine g_iload_n (pc := 46) hC 2 dX12_isSum_46 rfl rfl ?_
  refine g_icmp_ne (pc := 47) (tgt := 65) hC dX12_isSum_47 (by decide) (fun c_13 => ?_) (fun c_13 => ?_)
  · have h := h.1 c_13
    refine g_sub (lv' := []) [] rfl ?_
    exact kX12_isSum_b65 hC hR0 hR  h
  · have h := h.2 c_13
    refine g_iload_n (pc := 50) hC 1 dX12_isSum_50 rfl rfl ?_
    refine g_aload_n (pc := 51) hC 0 dX12_isSum_51 rfl rfl ?_
    refine g_callV_i (pc := 52) (wd := fun (u : St) Y => (wX12 o0 a0 (xy C) u Y)) (F := fun Z => Z) (X := []) (As := []) (rest := [.int x1]) (u := u0) hC (fun _ _ => rfl) (fun _ => rfl) (ctX12_openDebts h) wvX12_openDebts ml_X12_368 (ci := 10) (q0 := 0) rfl rfl rfl rfl (rmok hR0 rfl) ⟨Nat.zero_le _, Nat.zero_le _⟩ rfl (Nat.le_of_ble_eq_true rfl) dX12_isSum_52 (fun r_15 u_14 h => ?_)
    refine g_iconst (pc := 55) (v := -1) hC dX12_isSum_55 (by decide) ?_
    refine g_ixor (pc := 56) hC dX12_isSum_56 ?_
    refine g_iand (pc := 57) hC dX12_isSum_57 ?_
    refine g_if_ne (pc := 58) (tgt := 65) hC dX12_isSum_58 (by decide) (fun c_17 => ?_) (fun c_17 => ?_)
    · have h := h.1 c_17
      refine g_sub (lv' := []) [] rfl ?_
      exact kX12_isSum_b65 hC hR0 hR  h
    · have h := h.2 c_17
      refine g_iconst (pc := 61) (v := 1) hC dX12_isSum_61 (by decide) ?_
      refine g_goto (pc := 62) (tgt := 66) hC dX12_isSum_62 (by decide) ?_
      refine g_sub (lv' := []) [] rfl ?_
      exact kX12_isSum_b66 hC hR0 hR  h
def qX12_isSum_l5  (post : Int32 → St → Prop) (K5 : Int32 → Int32 → Int32 → Int32 → St → Prop) (x1 : Int32) (x2 : Int32) (x3 : Int32) (x4 : Int32) (u0 : St) : Prop := (((ga u0 0 ((2 : Int32)).toNatClampNeg) ≤ x4 → qX12_isSum_b45 post x1 x2 x3 u0) ∧ (¬ (ga u0 0 ((2 : Int32)).toNatClampNeg) ≤ x4 → qX12_isIn x1 x4 u0 (fun r_20 u_19 => ((r_20 = 0 → qX12_isSum_b37 post K5 x1 x2 x4 (0 : Int32) x3 u_19) ∧ (¬ r_20 = 0 → qX12_owedOf x4 u_19 (fun r_24 u_23 => qX12_isSum_b37 post K5 x1 x2 x4 r_24 x3 u_23))))))
set_option maxRecDepth 100000 in
set_option maxHeartbeats 4000000 in
theorem kX12_isSum_l5 {C : Cx} {o0 : Nat} {a0 : Nat → Nat} (hC : Fx C cX12_isSum 5 RX12) (hR0 : xR C = rm 4) {post : Int32 → St → Prop} (hR : RZ C cX12_isSum 5 (fun u : St => (wX12 o0 a0 (xy C) u [])) (fun r u => post r u))  {K5 : Int32 → Int32 → Int32 → Int32 → St → Prop} (hK5 : ∀ (x1 : Int32) (x2 : Int32) (x3 : Int32) (x4 : Int32) (u0 : St), K5 x1 x2 x3 x4 u0 → G C 0 0 5 (wX12 o0 a0 (xy C) u0 []) 5 [(0, .ref o0), (1, .int x1), (2, .int x2), (3, .int x3), (4, .int x4)] []) {x1 : Int32} {x2 : Int32} {x3 : Int32} {x4 : Int32} {u0 : St} (h : qX12_isSum_l5 post K5 x1 x2 x3 x4 u0) : G C 0 0 5 (wX12 o0 a0 (xy C) u0 []) 5 [(0, .ref o0), (1, .int x1), (2, .int x2), (3, .int x3), (4, .int x4)] [] := by
  refine g_iload (pc := 5) hC 4 dX12_isSum_5 rfl ?_
  refine g_aload_n (pc := 7) hC 0 dX12_isSum_7 rfl rfl ?_
  refine getX12_0 (pc := 8) hC (F := fun Z => Z) (X := []) (fun _ => rfl) fl_X12_7 dX12_isSum_8 ?_
  refine g_iconst (pc := 11) (v := 2) hC dX12_isSum_11 (by decide) ?_
  refine aldX12_0 (pc := 12) hC (F := fun Z => Z) (X := []) (fun _ => rfl) (by unfold vp_in; decide) dX12_isSum_12 ?_
  refine g_icmp_ge (pc := 13) (tgt := 45) hC dX12_isSum_13 (by decide) (fun c_18 => ?_) (fun c_18 => ?_)
  · have h := h.1 c_18
    refine g_sub (lv' := [(0, .ref o0), (1, .int x1), (2, .int x2), (3, .int x3)]) [0, 1, 2, 3] rfl ?_
    exact kX12_isSum_b45 hC hR0 hR  h
  · have h := h.2 c_18
    refine g_iload_n (pc := 16) hC 3 dX12_isSum_16 rfl rfl ?_
    refine g_aload_n (pc := 17) hC 0 dX12_isSum_17 rfl rfl ?_
    refine g_iload_n (pc := 18) hC 1 dX12_isSum_18 rfl rfl ?_
    refine g_iload (pc := 19) hC 4 dX12_isSum_19 rfl ?_
    refine g_callV_i (pc := 21) (wd := fun (u : St) Y => (wX12 o0 a0 (xy C) u Y)) (F := fun Z => Z) (X := []) (As := [.int x1, .int x4]) (rest := [.int x3]) (u := u0) hC (fun _ _ => rfl) (fun _ => rfl) (ctX12_isIn h) wvX12_isIn ml_X12_201 (ci := 10) (q0 := 0) rfl rfl rfl rfl (rmok hR0 rfl) ⟨Nat.zero_le _, Nat.zero_le _⟩ rfl (Nat.le_of_ble_eq_true rfl) dX12_isSum_21 (fun r_20 u_19 h => ?_)
    refine g_if_eq (pc := 24) (tgt := 36) hC dX12_isSum_24 (by decide) (fun c_22 => ?_) (fun c_22 => ?_)
    · have h := h.1 c_22
      refine g_iconst (pc := 36) (v := 0) hC dX12_isSum_36 (by decide) ?_
      refine g_sub (lv' := [(0, .ref o0), (1, .int x1), (2, .int x2), (4, .int x4)]) [0, 1, 2, 4] rfl ?_
      exact kX12_isSum_b37 hC hR0 hR hK5 h
    · have h := h.2 c_22
      refine g_aload_n (pc := 27) hC 0 dX12_isSum_27 rfl rfl ?_
      refine g_iload (pc := 28) hC 4 dX12_isSum_28 rfl ?_
      refine g_callV_i (pc := 30) (wd := fun (u : St) Y => (wX12 o0 a0 (xy C) u Y)) (F := fun Z => Z) (X := []) (As := [.int x4]) (rest := [.int x3]) (u := u_19) hC (fun _ _ => rfl) (fun _ => rfl) (ctX12_owedOf h) wvX12_owedOf ml_X12_282 (ci := 10) (q0 := 0) rfl rfl rfl rfl (rmok hR0 rfl) ⟨Nat.zero_le _, Nat.zero_le _⟩ rfl (Nat.le_of_ble_eq_true rfl) dX12_isSum_30 (fun r_24 u_23 h => ?_)
      refine g_goto (pc := 33) (tgt := 37) hC dX12_isSum_33 (by decide) ?_
      refine g_sub (lv' := [(0, .ref o0), (1, .int x1), (2, .int x2), (4, .int x4)]) [0, 1, 2, 4] rfl ?_
      exact kX12_isSum_b37 hC hR0 hR hK5 h
def qX12_isSum_L5  (post : Int32 → St → Prop)  : Nat → Int32 → Int32 → Int32 → Int32 → St → Prop
  | 0 => fun _ _ _ _ _ => False
  | n + 1 => qX12_isSum_l5 post (qX12_isSum_L5 post n)
theorem kX12_isSum_L5 {C : Cx} {o0 : Nat} {a0 : Nat → Nat} (hC : Fx C cX12_isSum 5 RX12) (hR0 : xR C = rm 4) {post : Int32 → St → Prop} (hR : RZ C cX12_isSum 5 (fun u : St => (wX12 o0 a0 (xy C) u [])) (fun r u => post r u))  : ∀ (n : Nat) (x1 : Int32) (x2 : Int32) (x3 : Int32) (x4 : Int32) (u0 : St), qX12_isSum_L5 post n x1 x2 x3 x4 u0 → G C 0 0 5 (wX12 o0 a0 (xy C) u0 []) 5 [(0, .ref o0), (1, .int x1), (2, .int x2), (3, .int x3), (4, .int x4)] [] := by
  intro n
  induction n with
  | zero => intro x1 x2 x3 x4 u0 h; exact h.elim
  | succ n ih => intro x1 x2 x3 x4 u0 h; exact kX12_isSum_l5 hC hR0 hR  ih h
def qX12_isSum (x1 : Int32) (x2 : Int32) (u0 : St) (post : Int32 → St → Prop) : Prop := ∃ n_26 : Nat, qX12_isSum_L5 post n_26 x1 x2 (0 : Int32) (0 : Int32) u0
set_option maxRecDepth 100000 in
set_option maxHeartbeats 4000000 in
theorem kX12_isSum {C : Cx} {o0 : Nat} {a0 : Nat → Nat} (hC : Fx C cX12_isSum 5 RX12) (hR0 : xR C = rm 4) {post : Int32 → St → Prop} (hR : RZ C cX12_isSum 5 (fun u : St => (wX12 o0 a0 (xy C) u [])) (fun r u => post r u)) {x1 : Int32} {x2 : Int32} {u0 : St} (h : qX12_isSum x1 x2 u0 post) : G C 0 0 5 (wX12 o0 a0 (xy C) u0 []) 0 [(0, .ref o0), (1, .int x1), (2, .int x2)] [] := by
  refine g_iconst (pc := 0) (v := 0) hC dX12_isSum_0 (by decide) ?_
  refine g_istore_n (pc := 1) (lv' := [(3, .int (0 : Int32)), (0, .ref o0), (1, .int x1), (2, .int x2)]) hC dX12_isSum_1 rfl (Nat.le_of_ble_eq_true rfl) rfl ?_
  refine g_iconst (pc := 2) (v := 0) hC dX12_isSum_2 (by decide) ?_
  refine g_istore (pc := 3) (lv' := [(4, .int (0 : Int32)), (3, .int (0 : Int32)), (0, .ref o0), (1, .int x1), (2, .int x2)]) hC dX12_isSum_3 (Nat.le_of_ble_eq_true rfl) rfl ?_
  refine g_sub (lv' := [(0, .ref o0), (1, .int x1), (2, .int x2), (3, .int (0 : Int32)), (4, .int (0 : Int32))]) [2, 3, 4, 1, 0] rfl ?_
  obtain ⟨n_26, h⟩ := h
  exact kX12_isSum_L5 hC hR0 hR  n_26 _ _ _ _ _ h
theorem ctX12_isSum {l : Launch} {D : va_G} {cy : Nat → ClassId} {kd : Nat → Nat} {o0 : Nat} {a0 : Nat → Nat} {x1 : Int32} {x2 : Int32} {u0 : St} {post : Int32 → St → Prop} (h : qX12_isSum x1 x2 u0 post) : CtI l D cy kd yX12_isSum cX12_isSum 5 4 .boolean [.ref o0, .int x1, .int x2] (fun u : St => (wX12 o0 a0 cy u [])) u0 (fun r u => post r u) := met_z (by decide) (Nat.le_of_ble_eq_true rfl) (fun C e1 e2 e3 e4 e5 hC hR => by subst e1 e2 e3 e4; exact kX12_isSum hC e5 hR h)
theorem dX12_summed_0 : decode cX12_summed 0 = .ok (.iconst 0, 1) := by decide +kernel
theorem dX12_summed_1 : decode cX12_summed 1 = .ok (.istore 4, 2) := by decide +kernel
theorem dX12_summed_3 : decode cX12_summed 3 = .ok (.iconst 0, 1) := by decide +kernel
theorem dX12_summed_4 : decode cX12_summed 4 = .ok (.istore 5, 2) := by decide +kernel
theorem dX12_summed_6 : decode cX12_summed 6 = .ok (.iload 5, 2) := by decide +kernel
theorem dX12_summed_8 : decode cX12_summed 8 = .ok (.aload_n 0, 1) := by decide +kernel
theorem dX12_summed_9 : decode cX12_summed 9 = .ok (.invokevirtual 267, 3) := by decide +kernel
theorem dX12_summed_12 : decode cX12_summed 12 = .ok (.if_icmp .gt 49, 3) := by decide +kernel
theorem dX12_summed_15 : decode cX12_summed 15 = .ok (.aload_n 0, 1) := by decide +kernel
theorem dX12_summed_16 : decode cX12_summed 16 = .ok (.iload 5, 2) := by decide +kernel
theorem dX12_summed_18 : decode cX12_summed 18 = .ok (.iload_n 1, 1) := by decide +kernel
theorem dX12_summed_19 : decode cX12_summed 19 = .ok (.invokevirtual 387, 3) := by decide +kernel
theorem dX12_summed_22 : decode cX12_summed 22 = .ok (.ifCond .eq 33, 3) := by decide +kernel
theorem dX12_summed_25 : decode cX12_summed 25 = .ok (.iload_n 3, 1) := by decide +kernel
theorem dX12_summed_26 : decode cX12_summed 26 = .ok (.iconst (-1), 1) := by decide +kernel
theorem dX12_summed_27 : decode cX12_summed 27 = .ok (.if_icmp .eq 16, 3) := by decide +kernel
theorem dX12_summed_30 : decode cX12_summed 30 = .ok (.aload_n 0, 1) := by decide +kernel
theorem dX12_summed_31 : decode cX12_summed 31 = .ok (.iload 5, 2) := by decide +kernel
theorem dX12_summed_33 : decode cX12_summed 33 = .ok (.iload_n 3, 1) := by decide +kernel
theorem dX12_summed_34 : decode cX12_summed 34 = .ok (.invokevirtual 201, 3) := by decide +kernel
theorem dX12_summed_37 : decode cX12_summed 37 = .ok (.ifCond .ne 6, 3) := by decide +kernel
theorem dX12_summed_40 : decode cX12_summed 40 = .ok (.goto 15, 3) := by decide +kernel
theorem dX12_summed_43 : decode cX12_summed 43 = .ok (.iload 4, 2) := by decide +kernel
theorem dX12_summed_45 : decode cX12_summed 45 = .ok (.iload_n 2, 1) := by decide +kernel
theorem dX12_summed_46 : decode cX12_summed 46 = .ok (.if_icmp .ne 6, 3) := by decide +kernel
theorem dX12_summed_49 : decode cX12_summed 49 = .ok (.iload 5, 2) := by decide +kernel
theorem dX12_summed_51 : decode cX12_summed 51 = .ok (.ireturn, 1) := by decide +kernel
theorem dX12_summed_52 : decode cX12_summed 52 = .ok (.iinc 4 1, 3) := by decide +kernel
theorem dX12_summed_55 : decode cX12_summed 55 = .ok (.iinc 5 1, 3) := by decide +kernel
theorem dX12_summed_58 : decode cX12_summed 58 = .ok (.goto (-52), 3) := by decide +kernel
theorem dX12_summed_61 : decode cX12_summed 61 = .ok (.iload_n 2, 1) := by decide +kernel
theorem dX12_summed_62 : decode cX12_summed 62 = .ok (.ifCond .ge 8, 3) := by decide +kernel
theorem dX12_summed_65 : decode cX12_summed 65 = .ok (.iload 4, 2) := by decide +kernel
theorem dX12_summed_67 : decode cX12_summed 67 = .ok (.goto 4, 3) := by decide +kernel
theorem dX12_summed_70 : decode cX12_summed 70 = .ok (.iconst (-1), 1) := by decide +kernel
theorem dX12_summed_71 : decode cX12_summed 71 = .ok (.ireturn, 1) := by decide +kernel
def qX12_summed_b55  (post : Int32 → St → Prop) (K6 : Int32 → Int32 → Int32 → Int32 → Int32 → St → Prop) (x1 : Int32) (x2 : Int32) (x3 : Int32) (x4 : Int32) (x5 : Int32) (u0 : St) : Prop := ∀ x5_12 : Int32, x5_12 = x5 + (1 : Int32) → K6 x1 x2 x3 x4 x5_12 u0
set_option maxRecDepth 100000 in
set_option maxHeartbeats 4000000 in
theorem kX12_summed_b55 {C : Cx} {o0 : Nat} {a0 : Nat → Nat} (hC : Fx C cX12_summed 6 RX12) (hR0 : xR C = rm 5) {post : Int32 → St → Prop} (hR : RI C cX12_summed 6 (fun u : St => (wX12 o0 a0 (xy C) u [])) (fun r u => post r u)) {K6 : Int32 → Int32 → Int32 → Int32 → Int32 → St → Prop} (hK6 : ∀ (x1 : Int32) (x2 : Int32) (x3 : Int32) (x4 : Int32) (x5 : Int32) (u0 : St), K6 x1 x2 x3 x4 x5 u0 → G C 0 0 6 (wX12 o0 a0 (xy C) u0 []) 6 [(0, .ref o0), (1, .int x1), (2, .int x2), (3, .int x3), (4, .int x4), (5, .int x5)] []) {x1 : Int32} {x2 : Int32} {x3 : Int32} {x4 : Int32} {x5 : Int32} {u0 : St} (h : qX12_summed_b55 post K6 x1 x2 x3 x4 x5 u0) : G C 0 0 6 (wX12 o0 a0 (xy C) u0 []) 55 [(0, .ref o0), (1, .int x1), (2, .int x2), (3, .int x3), (4, .int x4), (5, .int x5)] [] := by
  obtain ⟨x5_12, ex5_12⟩ : ∃ z : Int32, z = x5 + (1 : Int32) := ⟨_, rfl⟩
  have h := h x5_12 ex5_12
  refine g_iinc (pc := 55) (v := x5_12) (lv' := [(5, .int x5_12), (0, .ref o0), (1, .int x1), (2, .int x2), (3, .int x3), (4, .int x4)]) hC 5 dX12_summed_55 rfl (by rw [ex5_12]; rfl) (Nat.le_of_ble_eq_true rfl) rfl ?_
  refine g_goto (pc := 58) (tgt := 6) hC dX12_summed_58 (by decide) ?_
  refine g_sub (lv' := [(0, .ref o0), (1, .int x1), (2, .int x2), (3, .int x3), (4, .int x4), (5, .int x5_12)]) [1, 2, 3, 4, 5, 0] rfl ?_
  exact hK6 _ _ _ _ _ _ h
def qX12_summed_b43  (post : Int32 → St → Prop) (K6 : Int32 → Int32 → Int32 → Int32 → Int32 → St → Prop) (x1 : Int32) (x2 : Int32) (x3 : Int32) (x4 : Int32) (x5 : Int32) (u0 : St) : Prop := ((¬ x4 = x2 → ∀ x4_14 : Int32, x4_14 = x4 + (1 : Int32) → qX12_summed_b55 post K6 x1 x2 x3 x4_14 x5 u0) ∧ (x4 = x2 → post x5 u0))
set_option maxRecDepth 100000 in
set_option maxHeartbeats 4000000 in
theorem kX12_summed_b43 {C : Cx} {o0 : Nat} {a0 : Nat → Nat} (hC : Fx C cX12_summed 6 RX12) (hR0 : xR C = rm 5) {post : Int32 → St → Prop} (hR : RI C cX12_summed 6 (fun u : St => (wX12 o0 a0 (xy C) u [])) (fun r u => post r u)) {K6 : Int32 → Int32 → Int32 → Int32 → Int32 → St → Prop} (hK6 : ∀ (x1 : Int32) (x2 : Int32) (x3 : Int32) (x4 : Int32) (x5 : Int32) (u0 : St), K6 x1 x2 x3 x4 x5 u0 → G C 0 0 6 (wX12 o0 a0 (xy C) u0 []) 6 [(0, .ref o0), (1, .int x1), (2, .int x2), (3, .int x3), (4, .int x4), (5, .int x5)] []) {x1 : Int32} {x2 : Int32} {x3 : Int32} {x4 : Int32} {x5 : Int32} {u0 : St} (h : qX12_summed_b43 post K6 x1 x2 x3 x4 x5 u0) : G C 0 0 6 (wX12 o0 a0 (xy C) u0 []) 43 [(0, .ref o0), (1, .int x1), (2, .int x2), (3, .int x3), (4, .int x4), (5, .int x5)] [] := by
  refine g_iload (pc := 43) hC 4 dX12_summed_43 rfl ?_
  refine g_iload_n (pc := 45) hC 2 dX12_summed_45 rfl rfl ?_
  refine g_icmp_ne (pc := 46) (tgt := 52) hC dX12_summed_46 (by decide) (fun c_13 => ?_) (fun c_13 => ?_)
  · have h := h.1 c_13
    obtain ⟨x4_14, ex4_14⟩ : ∃ z : Int32, z = x4 + (1 : Int32) := ⟨_, rfl⟩
    have h := h x4_14 ex4_14
    refine g_iinc (pc := 52) (v := x4_14) (lv' := [(4, .int x4_14), (0, .ref o0), (1, .int x1), (2, .int x2), (3, .int x3), (5, .int x5)]) hC 4 dX12_summed_52 rfl (by rw [ex4_14]; rfl) (Nat.le_of_ble_eq_true rfl) rfl ?_
    refine g_sub (lv' := [(0, .ref o0), (1, .int x1), (2, .int x2), (3, .int x3), (4, .int x4_14), (5, .int x5)]) [1, 2, 3, 4, 0, 5] rfl ?_
    exact kX12_summed_b55 hC hR0 hR hK6 h
  · have h := h.2 c_13
    refine g_iload (pc := 49) hC 5 dX12_summed_49 rfl ?_
    exact hR _ _ _ u0 dX12_summed_51 h
def qX12_summed_b71  (post : Int32 → St → Prop)  (s0 : Int32) (u0 : St) : Prop := post s0 u0
set_option maxRecDepth 100000 in
set_option maxHeartbeats 4000000 in
theorem kX12_summed_b71 {C : Cx} {o0 : Nat} {a0 : Nat → Nat} (hC : Fx C cX12_summed 6 RX12) (hR0 : xR C = rm 5) {post : Int32 → St → Prop} (hR : RI C cX12_summed 6 (fun u : St => (wX12 o0 a0 (xy C) u [])) (fun r u => post r u))  {s0 : Int32} {u0 : St} (h : qX12_summed_b71 post s0 u0) : G C 0 0 6 (wX12 o0 a0 (xy C) u0 []) 71 [] [.int s0] := by
  exact hR _ _ _ u0 dX12_summed_71 h
def qX12_summed_b61  (post : Int32 → St → Prop)  (x2 : Int32) (x4 : Int32) (u0 : St) : Prop := ((0 ≤ x2 → qX12_summed_b71 post (-1 : Int32) u0) ∧ (¬ 0 ≤ x2 → qX12_summed_b71 post x4 u0))
set_option maxRecDepth 100000 in
set_option maxHeartbeats 4000000 in
theorem kX12_summed_b61 {C : Cx} {o0 : Nat} {a0 : Nat → Nat} (hC : Fx C cX12_summed 6 RX12) (hR0 : xR C = rm 5) {post : Int32 → St → Prop} (hR : RI C cX12_summed 6 (fun u : St => (wX12 o0 a0 (xy C) u [])) (fun r u => post r u))  {x2 : Int32} {x4 : Int32} {u0 : St} (h : qX12_summed_b61 post x2 x4 u0) : G C 0 0 6 (wX12 o0 a0 (xy C) u0 []) 61 [(2, .int x2), (4, .int x4)] [] := by
  refine g_iload_n (pc := 61) hC 0 dX12_summed_61 rfl rfl ?_
  refine g_if_ge (pc := 62) (tgt := 70) hC dX12_summed_62 (by decide) (fun c_15 => ?_) (fun c_15 => ?_)
  · have h := h.1 c_15
    refine g_iconst (pc := 70) (v := -1) hC dX12_summed_70 (by decide) ?_
    refine g_sub (lv' := []) [] rfl ?_
    exact kX12_summed_b71 hC hR0 hR  h
  · have h := h.2 c_15
    refine g_iload (pc := 65) hC 1 dX12_summed_65 rfl ?_
    refine g_goto (pc := 67) (tgt := 71) hC dX12_summed_67 (by decide) ?_
    refine g_sub (lv' := []) [] rfl ?_
    exact kX12_summed_b71 hC hR0 hR  h
def qX12_summed_l6  (post : Int32 → St → Prop) (K6 : Int32 → Int32 → Int32 → Int32 → Int32 → St → Prop) (x1 : Int32) (x2 : Int32) (x3 : Int32) (x4 : Int32) (x5 : Int32) (u0 : St) : Prop := qX12_allDebts u0 (fun r_17 u_16 => ((r_17 < x5 → qX12_summed_b61 post x2 x4 u_16) ∧ (¬ r_17 < x5 → qX12_isSum x5 x1 u_16 (fun r_21 u_20 => ((r_21 = 0 → qX12_summed_b55 post K6 x1 x2 x3 x4 x5 u_20) ∧ (¬ r_21 = 0 → ((x3 = (-1 : Int32) → qX12_summed_b43 post K6 x1 x2 x3 x4 x5 u_20) ∧ (¬ x3 = (-1 : Int32) → qX12_isIn x5 x3 u_20 (fun r_26 u_25 => ((¬ r_26 = 0 → qX12_summed_b43 post K6 x1 x2 x3 x4 x5 u_25) ∧ (r_26 = 0 → qX12_summed_b55 post K6 x1 x2 x3 x4 x5 u_25)))))))))))
set_option maxRecDepth 100000 in
set_option maxHeartbeats 4000000 in
theorem kX12_summed_l6 {C : Cx} {o0 : Nat} {a0 : Nat → Nat} (hC : Fx C cX12_summed 6 RX12) (hR0 : xR C = rm 5) {post : Int32 → St → Prop} (hR : RI C cX12_summed 6 (fun u : St => (wX12 o0 a0 (xy C) u [])) (fun r u => post r u))  {K6 : Int32 → Int32 → Int32 → Int32 → Int32 → St → Prop} (hK6 : ∀ (x1 : Int32) (x2 : Int32) (x3 : Int32) (x4 : Int32) (x5 : Int32) (u0 : St), K6 x1 x2 x3 x4 x5 u0 → G C 0 0 6 (wX12 o0 a0 (xy C) u0 []) 6 [(0, .ref o0), (1, .int x1), (2, .int x2), (3, .int x3), (4, .int x4), (5, .int x5)] []) {x1 : Int32} {x2 : Int32} {x3 : Int32} {x4 : Int32} {x5 : Int32} {u0 : St} (h : qX12_summed_l6 post K6 x1 x2 x3 x4 x5 u0) : G C 0 0 6 (wX12 o0 a0 (xy C) u0 []) 6 [(0, .ref o0), (1, .int x1), (2, .int x2), (3, .int x3), (4, .int x4), (5, .int x5)] [] := by
  refine g_iload (pc := 6) hC 5 dX12_summed_6 rfl ?_
  refine g_aload_n (pc := 8) hC 0 dX12_summed_8 rfl rfl ?_
  refine g_callV_i (pc := 9) (wd := fun (u : St) Y => (wX12 o0 a0 (xy C) u Y)) (F := fun Z => Z) (X := []) (As := []) (rest := [.int x5]) (u := u0) hC (fun _ _ => rfl) (fun _ => rfl) (ctX12_allDebts h) wvX12_allDebts ml_X12_267 (ci := 10) (q0 := 0) rfl rfl rfl rfl (rmok hR0 rfl) ⟨Nat.zero_le _, Nat.zero_le _⟩ rfl (Nat.le_of_ble_eq_true rfl) dX12_summed_9 (fun r_17 u_16 h => ?_)
  refine g_icmp_gt (pc := 12) (tgt := 61) hC dX12_summed_12 (by decide) (fun c_19 => ?_) (fun c_19 => ?_)
  · have h := h.1 c_19
    refine g_sub (lv' := [(2, .int x2), (4, .int x4)]) [2, 4] rfl ?_
    exact kX12_summed_b61 hC hR0 hR  h
  · have h := h.2 c_19
    refine g_aload_n (pc := 15) hC 0 dX12_summed_15 rfl rfl ?_
    refine g_iload (pc := 16) hC 5 dX12_summed_16 rfl ?_
    refine g_iload_n (pc := 18) hC 1 dX12_summed_18 rfl rfl ?_
    refine g_callV_i (pc := 19) (wd := fun (u : St) Y => (wX12 o0 a0 (xy C) u Y)) (F := fun Z => Z) (X := []) (As := [.int x5, .int x1]) (rest := []) (u := u_16) hC (fun _ _ => rfl) (fun _ => rfl) (ctX12_isSum h) wvX12_isSum ml_X12_387 (ci := 10) (q0 := 0) rfl rfl rfl rfl (rmok hR0 rfl) ⟨Nat.zero_le _, Nat.zero_le _⟩ rfl (Nat.le_of_ble_eq_true rfl) dX12_summed_19 (fun r_21 u_20 h => ?_)
    refine g_if_eq (pc := 22) (tgt := 55) hC dX12_summed_22 (by decide) (fun c_23 => ?_) (fun c_23 => ?_)
    · have h := h.1 c_23
      exact kX12_summed_b55 hC hR0 hR hK6 h
    · have h := h.2 c_23
      refine g_iload_n (pc := 25) hC 3 dX12_summed_25 rfl rfl ?_
      refine g_iconst (pc := 26) (v := -1) hC dX12_summed_26 (by decide) ?_
      refine g_icmp_eq (pc := 27) (tgt := 43) hC dX12_summed_27 (by decide) (fun c_24 => ?_) (fun c_24 => ?_)
      · have h := h.1 c_24
        exact kX12_summed_b43 hC hR0 hR hK6 h
      · have h := h.2 c_24
        refine g_aload_n (pc := 30) hC 0 dX12_summed_30 rfl rfl ?_
        refine g_iload (pc := 31) hC 5 dX12_summed_31 rfl ?_
        refine g_iload_n (pc := 33) hC 3 dX12_summed_33 rfl rfl ?_
        refine g_callV_i (pc := 34) (wd := fun (u : St) Y => (wX12 o0 a0 (xy C) u Y)) (F := fun Z => Z) (X := []) (As := [.int x5, .int x3]) (rest := []) (u := u_20) hC (fun _ _ => rfl) (fun _ => rfl) (ctX12_isIn h) wvX12_isIn ml_X12_201 (ci := 10) (q0 := 0) rfl rfl rfl rfl (rmok hR0 rfl) ⟨Nat.zero_le _, Nat.zero_le _⟩ rfl (Nat.le_of_ble_eq_true rfl) dX12_summed_34 (fun r_26 u_25 h => ?_)
        refine g_if_ne (pc := 37) (tgt := 43) hC dX12_summed_37 (by decide) (fun c_28 => ?_) (fun c_28 => ?_)
        · have h := h.1 c_28
          exact kX12_summed_b43 hC hR0 hR hK6 h
        · have h := h.2 c_28
          refine g_goto (pc := 40) (tgt := 55) hC dX12_summed_40 (by decide) ?_
          exact kX12_summed_b55 hC hR0 hR hK6 h
def qX12_summed_L6  (post : Int32 → St → Prop)  : Nat → Int32 → Int32 → Int32 → Int32 → Int32 → St → Prop
  | 0 => fun _ _ _ _ _ _ => False
  | n + 1 => qX12_summed_l6 post (qX12_summed_L6 post n)
theorem kX12_summed_L6 {C : Cx} {o0 : Nat} {a0 : Nat → Nat} (hC : Fx C cX12_summed 6 RX12) (hR0 : xR C = rm 5) {post : Int32 → St → Prop} (hR : RI C cX12_summed 6 (fun u : St => (wX12 o0 a0 (xy C) u [])) (fun r u => post r u))  : ∀ (n : Nat) (x1 : Int32) (x2 : Int32) (x3 : Int32) (x4 : Int32) (x5 : Int32) (u0 : St), qX12_summed_L6 post n x1 x2 x3 x4 x5 u0 → G C 0 0 6 (wX12 o0 a0 (xy C) u0 []) 6 [(0, .ref o0), (1, .int x1), (2, .int x2), (3, .int x3), (4, .int x4), (5, .int x5)] [] := by
  intro n
  induction n with
  | zero => intro x1 x2 x3 x4 x5 u0 h; exact h.elim
  | succ n ih => intro x1 x2 x3 x4 x5 u0 h; exact kX12_summed_l6 hC hR0 hR  ih h
def qX12_summed (x1 : Int32) (x2 : Int32) (x3 : Int32) (u0 : St) (post : Int32 → St → Prop) : Prop := ∃ n_29 : Nat, qX12_summed_L6 post n_29 x1 x2 x3 (0 : Int32) (0 : Int32) u0
set_option maxRecDepth 100000 in
set_option maxHeartbeats 4000000 in
theorem kX12_summed {C : Cx} {o0 : Nat} {a0 : Nat → Nat} (hC : Fx C cX12_summed 6 RX12) (hR0 : xR C = rm 5) {post : Int32 → St → Prop} (hR : RI C cX12_summed 6 (fun u : St => (wX12 o0 a0 (xy C) u [])) (fun r u => post r u)) {x1 : Int32} {x2 : Int32} {x3 : Int32} {u0 : St} (h : qX12_summed x1 x2 x3 u0 post) : G C 0 0 6 (wX12 o0 a0 (xy C) u0 []) 0 [(0, .ref o0), (1, .int x1), (2, .int x2), (3, .int x3)] [] := by
  refine g_iconst (pc := 0) (v := 0) hC dX12_summed_0 (by decide) ?_
  refine g_istore (pc := 1) (lv' := [(4, .int (0 : Int32)), (0, .ref o0), (1, .int x1), (2, .int x2), (3, .int x3)]) hC dX12_summed_1 (Nat.le_of_ble_eq_true rfl) rfl ?_
  refine g_iconst (pc := 3) (v := 0) hC dX12_summed_3 (by decide) ?_
  refine g_istore (pc := 4) (lv' := [(5, .int (0 : Int32)), (4, .int (0 : Int32)), (0, .ref o0), (1, .int x1), (2, .int x2), (3, .int x3)]) hC dX12_summed_4 (Nat.le_of_ble_eq_true rfl) rfl ?_
  refine g_sub (lv' := [(0, .ref o0), (1, .int x1), (2, .int x2), (3, .int x3), (4, .int (0 : Int32)), (5, .int (0 : Int32))]) [2, 3, 4, 5, 1, 0] rfl ?_
  obtain ⟨n_29, h⟩ := h
  exact kX12_summed_L6 hC hR0 hR  n_29 _ _ _ _ _ _ h
theorem ctX12_summed {l : Launch} {D : va_G} {cy : Nat → ClassId} {kd : Nat → Nat} {o0 : Nat} {a0 : Nat → Nat} {x1 : Int32} {x2 : Int32} {x3 : Int32} {u0 : St} {post : Int32 → St → Prop} (h : qX12_summed x1 x2 x3 u0 post) : CtI l D cy kd yX12_summed cX12_summed 6 5 .int [.ref o0, .int x1, .int x2, .int x3] (fun u : St => (wX12 o0 a0 cy u [])) u0 (fun r u => post r u) := met_i (by decide) (Nat.le_of_ble_eq_true rfl) (fun C e1 e2 e3 e4 e5 hC hR => by subst e1 e2 e3 e4; exact kX12_summed hC e5 hR h)
theorem dX12_sums_0 : decode cX12_sums 0 = .ok (.iload_n 1, 1) := by decide +kernel
theorem dX12_sums_1 : decode cX12_sums 1 = .ok (.i2l, 1) := by decide +kernel
theorem dX12_sums_2 : decode cX12_sums 2 = .ok (.lconst 0, 1) := by decide +kernel
theorem dX12_sums_3 : decode cX12_sums 3 = .ok (.ldc2_w 390, 3) := by decide +kernel
theorem dX12_sums_6 : decode cX12_sums 6 = .ok (.invokestatic 315, 3) := by decide +kernel
theorem dX12_sums_9 : decode cX12_sums 9 = .ok (.ifCond .ne 9, 3) := by decide +kernel
theorem dX12_sums_12 : decode cX12_sums 12 = .ok (.aload_n 0, 1) := by decide +kernel
theorem dX12_sums_13 : decode cX12_sums 13 = .ok (.iconst 1, 1) := by decide +kernel
theorem dX12_sums_14 : decode cX12_sums 14 = .ok (.invokevirtual 88, 3) := by decide +kernel
theorem dX12_sums_17 : decode cX12_sums 17 = .ok (.ireturn, 1) := by decide +kernel
theorem dX12_sums_18 : decode cX12_sums 18 = .ok (.aload_n 0, 1) := by decide +kernel
theorem dX12_sums_19 : decode cX12_sums 19 = .ok (.aload_n 0, 1) := by decide +kernel
theorem dX12_sums_20 : decode cX12_sums 20 = .ok (.iload_n 1, 1) := by decide +kernel
theorem dX12_sums_21 : decode cX12_sums 21 = .ok (.iconst (-1), 1) := by decide +kernel
theorem dX12_sums_22 : decode cX12_sums 22 = .ok (.iconst (-1), 1) := by decide +kernel
theorem dX12_sums_23 : decode cX12_sums 23 = .ok (.invokevirtual 392, 3) := by decide +kernel
theorem dX12_sums_26 : decode cX12_sums 26 = .ok (.invokevirtual 92, 3) := by decide +kernel
theorem dX12_sums_29 : decode cX12_sums 29 = .ok (.ireturn, 1) := by decide +kernel
def qX12_sums (x1 : Int32) (u0 : St) (post : Int32 → St → Prop) : Prop := qX12_isFrom (x1).toInt64 (0 : Int64) (9999 : Int64) (fun r_12 => ((¬ r_12 = 0 → qX12_summed x1 (-1 : Int32) (-1 : Int32) u0 (fun r_16 u_15 => qX12_gives r_16 u_15 (fun r_19 u_18 => post r_19 u_18))) ∧ (r_12 = 0 → qX12_refuse (1 : Int32) u0 (fun r_22 u_21 => post r_22 u_21))))
set_option maxRecDepth 100000 in
set_option maxHeartbeats 4000000 in
theorem kX12_sums {C : Cx} {o0 : Nat} {a0 : Nat → Nat} (hC : Fx C cX12_sums 2 RX12) (hR0 : xR C = rm 6) {post : Int32 → St → Prop} (hR : RI C cX12_sums 2 (fun u : St => (wX12 o0 a0 (xy C) u [])) (fun r u => post r u)) {x1 : Int32} {u0 : St} (h : qX12_sums x1 u0 post) : G C 0 0 2 (wX12 o0 a0 (xy C) u0 []) 0 [(0, .ref o0), (1, .int x1)] [] := by
  refine g_iload_n (pc := 0) hC 1 dX12_sums_0 rfl rfl ?_
  refine g_i2l (pc := 1) hC dX12_sums_1 ?_
  refine g_lconst (pc := 2) (v := 0) hC dX12_sums_2 (by decide) ?_
  refine g_ldc2 (pc := 3) hC cn_X12_390 dX12_sums_3 ?_
  refine g_callS_i (pc := 6) (wd := fun (_ : Unit) Y => Y) (F := fun Z => Z) (X := []) (As := [.long (x1).toInt64, .long (0 : Int64), .long (9999 : Int64)]) (rest := []) (u := ()) hC (fun _ _ => rfl) (fun _ => rfl) (ctX12_isFrom h) wvX12_isFrom ml_X12_315 rfl (rmok hR0 rfl) ⟨Nat.zero_le _, Nat.zero_le _⟩ rfl (Nat.le_of_ble_eq_true rfl) dX12_sums_6 (fun r_12 u_13 h => ?_)
  refine g_if_ne (pc := 9) (tgt := 18) hC dX12_sums_9 (by decide) (fun c_14 => ?_) (fun c_14 => ?_)
  · have h := h.1 c_14
    refine g_aload_n (pc := 18) hC 0 dX12_sums_18 rfl rfl ?_
    refine g_aload_n (pc := 19) hC 0 dX12_sums_19 rfl rfl ?_
    refine g_iload_n (pc := 20) hC 1 dX12_sums_20 rfl rfl ?_
    refine g_iconst (pc := 21) (v := -1) hC dX12_sums_21 (by decide) ?_
    refine g_iconst (pc := 22) (v := -1) hC dX12_sums_22 (by decide) ?_
    refine g_callV_i (pc := 23) (wd := fun (u : St) Y => (wX12 o0 a0 (xy C) u Y)) (F := fun Z => Z) (X := []) (As := [.int x1, .int (-1 : Int32), .int (-1 : Int32)]) (rest := [.ref o0]) (u := u0) hC (fun _ _ => rfl) (fun _ => rfl) (ctX12_summed h) wvX12_summed ml_X12_392 (ci := 10) (q0 := 0) rfl rfl rfl rfl (rmok hR0 rfl) ⟨Nat.zero_le _, Nat.zero_le _⟩ rfl (Nat.le_of_ble_eq_true rfl) dX12_sums_23 (fun r_16 u_15 h => ?_)
    refine g_callV_i (pc := 26) (wd := fun (u : St) Y => (wX12 o0 a0 (xy C) u Y)) (F := fun Z => Z) (X := []) (As := [.int r_16]) (rest := []) (u := u_15) hC (fun _ _ => rfl) (fun _ => rfl) (ctX12_gives h) wvX12_gives ml_X12_92 (ci := 10) (q0 := 0) rfl rfl rfl rfl (rmok hR0 rfl) ⟨Nat.zero_le _, Nat.zero_le _⟩ rfl (Nat.le_of_ble_eq_true rfl) dX12_sums_26 (fun r_19 u_18 h => ?_)
    exact hR _ _ _ u_18 dX12_sums_29 h
  · have h := h.2 c_14
    refine g_aload_n (pc := 12) hC 0 dX12_sums_12 rfl rfl ?_
    refine g_iconst (pc := 13) (v := 1) hC dX12_sums_13 (by decide) ?_
    refine g_callV_i (pc := 14) (wd := fun (u : St) Y => (wX12 o0 a0 (xy C) u Y)) (F := fun Z => Z) (X := []) (As := [.int (1 : Int32)]) (rest := []) (u := u0) hC (fun _ _ => rfl) (fun _ => rfl) (ctX12_refuse h) wvX12_refuse ml_X12_88 (ci := 10) (q0 := 0) rfl rfl rfl rfl (rmok hR0 rfl) ⟨Nat.zero_le _, Nat.zero_le _⟩ rfl (Nat.le_of_ble_eq_true rfl) dX12_sums_14 (fun r_22 u_21 h => ?_)
    exact hR _ _ _ u_21 dX12_sums_17 h
theorem ctX12_sums {l : Launch} {D : va_G} {cy : Nat → ClassId} {kd : Nat → Nat} {o0 : Nat} {a0 : Nat → Nat} {x1 : Int32} {u0 : St} {post : Int32 → St → Prop} (h : qX12_sums x1 u0 post) : CtI l D cy kd yX12_sums cX12_sums 2 6 .int [.ref o0, .int x1] (fun u : St => (wX12 o0 a0 cy u [])) u0 (fun r u => post r u) := met_i (by decide) (Nat.le_of_ble_eq_true rfl) (fun C e1 e2 e3 e4 e5 hC hR => by subst e1 e2 e3 e4; exact kX12_sums hC e5 hR h)
theorem dX12_sumAt_0 : decode cX12_sumAt 0 = .ok (.iload_n 1, 1) := by decide +kernel
theorem dX12_sumAt_1 : decode cX12_sumAt 1 = .ok (.i2l, 1) := by decide +kernel
theorem dX12_sumAt_2 : decode cX12_sumAt 2 = .ok (.lconst 0, 1) := by decide +kernel
theorem dX12_sumAt_3 : decode cX12_sumAt 3 = .ok (.ldc2_w 390, 3) := by decide +kernel
theorem dX12_sumAt_6 : decode cX12_sumAt 6 = .ok (.invokestatic 315, 3) := by decide +kernel
theorem dX12_sumAt_9 : decode cX12_sumAt 9 = .ok (.ifCond .eq 7, 3) := by decide +kernel
theorem dX12_sumAt_12 : decode cX12_sumAt 12 = .ok (.iload_n 2, 1) := by decide +kernel
theorem dX12_sumAt_13 : decode cX12_sumAt 13 = .ok (.ifCond .ge 9, 3) := by decide +kernel
theorem dX12_sumAt_16 : decode cX12_sumAt 16 = .ok (.aload_n 0, 1) := by decide +kernel
theorem dX12_sumAt_17 : decode cX12_sumAt 17 = .ok (.iconst 1, 1) := by decide +kernel
theorem dX12_sumAt_18 : decode cX12_sumAt 18 = .ok (.invokevirtual 88, 3) := by decide +kernel
theorem dX12_sumAt_21 : decode cX12_sumAt 21 = .ok (.ireturn, 1) := by decide +kernel
theorem dX12_sumAt_22 : decode cX12_sumAt 22 = .ok (.aload_n 0, 1) := by decide +kernel
theorem dX12_sumAt_23 : decode cX12_sumAt 23 = .ok (.aload_n 0, 1) := by decide +kernel
theorem dX12_sumAt_24 : decode cX12_sumAt 24 = .ok (.iload_n 1, 1) := by decide +kernel
theorem dX12_sumAt_25 : decode cX12_sumAt 25 = .ok (.iload_n 2, 1) := by decide +kernel
theorem dX12_sumAt_26 : decode cX12_sumAt 26 = .ok (.iconst (-1), 1) := by decide +kernel
theorem dX12_sumAt_27 : decode cX12_sumAt 27 = .ok (.invokevirtual 392, 3) := by decide +kernel
theorem dX12_sumAt_30 : decode cX12_sumAt 30 = .ok (.invokevirtual 358, 3) := by decide +kernel
theorem dX12_sumAt_33 : decode cX12_sumAt 33 = .ok (.ireturn, 1) := by decide +kernel
def qX12_sumAt_b16  (post : Int32 → St → Prop)  (u0 : St) : Prop := qX12_refuse (1 : Int32) u0 (fun r_13 u_12 => post r_13 u_12)
set_option maxRecDepth 100000 in
set_option maxHeartbeats 4000000 in
theorem kX12_sumAt_b16 {C : Cx} {o0 : Nat} {a0 : Nat → Nat} (hC : Fx C cX12_sumAt 3 RX12) (hR0 : xR C = rm 6) {post : Int32 → St → Prop} (hR : RI C cX12_sumAt 3 (fun u : St => (wX12 o0 a0 (xy C) u [])) (fun r u => post r u))  {u0 : St} (h : qX12_sumAt_b16 post u0) : G C 0 0 3 (wX12 o0 a0 (xy C) u0 []) 16 [(0, .ref o0)] [] := by
  refine g_aload_n (pc := 16) hC 0 dX12_sumAt_16 rfl rfl ?_
  refine g_iconst (pc := 17) (v := 1) hC dX12_sumAt_17 (by decide) ?_
  refine g_callV_i (pc := 18) (wd := fun (u : St) Y => (wX12 o0 a0 (xy C) u Y)) (F := fun Z => Z) (X := []) (As := [.int (1 : Int32)]) (rest := []) (u := u0) hC (fun _ _ => rfl) (fun _ => rfl) (ctX12_refuse h) wvX12_refuse ml_X12_88 (ci := 10) (q0 := 0) rfl rfl rfl rfl (rmok hR0 rfl) ⟨Nat.zero_le _, Nat.zero_le _⟩ rfl (Nat.le_of_ble_eq_true rfl) dX12_sumAt_18 (fun r_13 u_12 h => ?_)
  exact hR _ _ _ u_12 dX12_sumAt_21 h
def qX12_sumAt (x1 : Int32) (x2 : Int32) (u0 : St) (post : Int32 → St → Prop) : Prop := qX12_isFrom (x1).toInt64 (0 : Int64) (9999 : Int64) (fun r_15 => ((r_15 = 0 → qX12_sumAt_b16 post u0) ∧ (¬ r_15 = 0 → ((0 ≤ x2 → qX12_summed x1 x2 (-1 : Int32) u0 (fun r_20 u_19 => qX12_orNone r_20 u_19 (fun r_23 u_22 => post r_23 u_22))) ∧ (¬ 0 ≤ x2 → qX12_sumAt_b16 post u0)))))
set_option maxRecDepth 100000 in
set_option maxHeartbeats 4000000 in
theorem kX12_sumAt {C : Cx} {o0 : Nat} {a0 : Nat → Nat} (hC : Fx C cX12_sumAt 3 RX12) (hR0 : xR C = rm 6) {post : Int32 → St → Prop} (hR : RI C cX12_sumAt 3 (fun u : St => (wX12 o0 a0 (xy C) u [])) (fun r u => post r u)) {x1 : Int32} {x2 : Int32} {u0 : St} (h : qX12_sumAt x1 x2 u0 post) : G C 0 0 3 (wX12 o0 a0 (xy C) u0 []) 0 [(0, .ref o0), (1, .int x1), (2, .int x2)] [] := by
  refine g_iload_n (pc := 0) hC 1 dX12_sumAt_0 rfl rfl ?_
  refine g_i2l (pc := 1) hC dX12_sumAt_1 ?_
  refine g_lconst (pc := 2) (v := 0) hC dX12_sumAt_2 (by decide) ?_
  refine g_ldc2 (pc := 3) hC cn_X12_390 dX12_sumAt_3 ?_
  refine g_callS_i (pc := 6) (wd := fun (_ : Unit) Y => Y) (F := fun Z => Z) (X := []) (As := [.long (x1).toInt64, .long (0 : Int64), .long (9999 : Int64)]) (rest := []) (u := ()) hC (fun _ _ => rfl) (fun _ => rfl) (ctX12_isFrom h) wvX12_isFrom ml_X12_315 rfl (rmok hR0 rfl) ⟨Nat.zero_le _, Nat.zero_le _⟩ rfl (Nat.le_of_ble_eq_true rfl) dX12_sumAt_6 (fun r_15 u_16 h => ?_)
  refine g_if_eq (pc := 9) (tgt := 16) hC dX12_sumAt_9 (by decide) (fun c_17 => ?_) (fun c_17 => ?_)
  · have h := h.1 c_17
    refine g_sub (lv' := [(0, .ref o0)]) [0] rfl ?_
    exact kX12_sumAt_b16 hC hR0 hR  h
  · have h := h.2 c_17
    refine g_iload_n (pc := 12) hC 2 dX12_sumAt_12 rfl rfl ?_
    refine g_if_ge (pc := 13) (tgt := 22) hC dX12_sumAt_13 (by decide) (fun c_18 => ?_) (fun c_18 => ?_)
    · have h := h.1 c_18
      refine g_aload_n (pc := 22) hC 0 dX12_sumAt_22 rfl rfl ?_
      refine g_aload_n (pc := 23) hC 0 dX12_sumAt_23 rfl rfl ?_
      refine g_iload_n (pc := 24) hC 1 dX12_sumAt_24 rfl rfl ?_
      refine g_iload_n (pc := 25) hC 2 dX12_sumAt_25 rfl rfl ?_
      refine g_iconst (pc := 26) (v := -1) hC dX12_sumAt_26 (by decide) ?_
      refine g_callV_i (pc := 27) (wd := fun (u : St) Y => (wX12 o0 a0 (xy C) u Y)) (F := fun Z => Z) (X := []) (As := [.int x1, .int x2, .int (-1 : Int32)]) (rest := [.ref o0]) (u := u0) hC (fun _ _ => rfl) (fun _ => rfl) (ctX12_summed h) wvX12_summed ml_X12_392 (ci := 10) (q0 := 0) rfl rfl rfl rfl (rmok hR0 rfl) ⟨Nat.zero_le _, Nat.zero_le _⟩ rfl (Nat.le_of_ble_eq_true rfl) dX12_sumAt_27 (fun r_20 u_19 h => ?_)
      refine g_callV_i (pc := 30) (wd := fun (u : St) Y => (wX12 o0 a0 (xy C) u Y)) (F := fun Z => Z) (X := []) (As := [.int r_20]) (rest := []) (u := u_19) hC (fun _ _ => rfl) (fun _ => rfl) (ctX12_orNone h) wvX12_orNone ml_X12_358 (ci := 10) (q0 := 0) rfl rfl rfl rfl (rmok hR0 rfl) ⟨Nat.zero_le _, Nat.zero_le _⟩ rfl (Nat.le_of_ble_eq_true rfl) dX12_sumAt_30 (fun r_23 u_22 h => ?_)
      exact hR _ _ _ u_22 dX12_sumAt_33 h
    · have h := h.2 c_18
      refine g_sub (lv' := [(0, .ref o0)]) [0] rfl ?_
      exact kX12_sumAt_b16 hC hR0 hR  h
theorem ctX12_sumAt {l : Launch} {D : va_G} {cy : Nat → ClassId} {kd : Nat → Nat} {o0 : Nat} {a0 : Nat → Nat} {x1 : Int32} {x2 : Int32} {u0 : St} {post : Int32 → St → Prop} (h : qX12_sumAt x1 x2 u0 post) : CtI l D cy kd yX12_sumAt cX12_sumAt 3 6 .int [.ref o0, .int x1, .int x2] (fun u : St => (wX12 o0 a0 cy u [])) u0 (fun r u => post r u) := met_i (by decide) (Nat.le_of_ble_eq_true rfl) (fun C e1 e2 e3 e4 e5 hC hR => by subst e1 e2 e3 e4; exact kX12_sumAt hC e5 hR h)
theorem dX12_oddsThat_0 : decode cX12_oddsThat 0 = .ok (.iload_n 1, 1) := by decide +kernel
theorem dX12_oddsThat_1 : decode cX12_oddsThat 1 = .ok (.i2l, 1) := by decide +kernel
theorem dX12_oddsThat_2 : decode cX12_oddsThat 2 = .ok (.lconst 0, 1) := by decide +kernel
theorem dX12_oddsThat_3 : decode cX12_oddsThat 3 = .ok (.ldc2_w 390, 3) := by decide +kernel
theorem dX12_oddsThat_6 : decode cX12_oddsThat 6 = .ok (.invokestatic 315, 3) := by decide +kernel
theorem dX12_oddsThat_9 : decode cX12_oddsThat 9 = .ok (.ifCond .eq 11, 3) := by decide +kernel
theorem dX12_oddsThat_12 : decode cX12_oddsThat 12 = .ok (.aload_n 0, 1) := by decide +kernel
theorem dX12_oddsThat_13 : decode cX12_oddsThat 13 = .ok (.iload_n 2, 1) := by decide +kernel
theorem dX12_oddsThat_14 : decode cX12_oddsThat 14 = .ok (.invokevirtual 294, 3) := by decide +kernel
theorem dX12_oddsThat_17 : decode cX12_oddsThat 17 = .ok (.ifCond .ne 9, 3) := by decide +kernel
theorem dX12_oddsThat_20 : decode cX12_oddsThat 20 = .ok (.aload_n 0, 1) := by decide +kernel
theorem dX12_oddsThat_21 : decode cX12_oddsThat 21 = .ok (.iconst 1, 1) := by decide +kernel
theorem dX12_oddsThat_22 : decode cX12_oddsThat 22 = .ok (.invokevirtual 95, 3) := by decide +kernel
theorem dX12_oddsThat_25 : decode cX12_oddsThat 25 = .ok (.ireturn, 1) := by decide +kernel
theorem dX12_oddsThat_26 : decode cX12_oddsThat 26 = .ok (.aload_n 0, 1) := by decide +kernel
theorem dX12_oddsThat_27 : decode cX12_oddsThat 27 = .ok (.iload_n 1, 1) := by decide +kernel
theorem dX12_oddsThat_28 : decode cX12_oddsThat 28 = .ok (.iconst (-1), 1) := by decide +kernel
theorem dX12_oddsThat_29 : decode cX12_oddsThat 29 = .ok (.iconst (-1), 1) := by decide +kernel
theorem dX12_oddsThat_30 : decode cX12_oddsThat 30 = .ok (.invokevirtual 392, 3) := by decide +kernel
theorem dX12_oddsThat_33 : decode cX12_oddsThat 33 = .ok (.istore_n 3, 1) := by decide +kernel
theorem dX12_oddsThat_34 : decode cX12_oddsThat 34 = .ok (.iload_n 3, 1) := by decide +kernel
theorem dX12_oddsThat_35 : decode cX12_oddsThat 35 = .ok (.ifCond .ne 12, 3) := by decide +kernel
theorem dX12_oddsThat_38 : decode cX12_oddsThat 38 = .ok (.aload_n 0, 1) := by decide +kernel
theorem dX12_oddsThat_39 : decode cX12_oddsThat 39 = .ok (.bipush 6, 2) := by decide +kernel
theorem dX12_oddsThat_41 : decode cX12_oddsThat 41 = .ok (.invokevirtual 95, 3) := by decide +kernel
theorem dX12_oddsThat_44 : decode cX12_oddsThat 44 = .ok (.goto 17, 3) := by decide +kernel
theorem dX12_oddsThat_47 : decode cX12_oddsThat 47 = .ok (.aload_n 0, 1) := by decide +kernel
theorem dX12_oddsThat_48 : decode cX12_oddsThat 48 = .ok (.aload_n 0, 1) := by decide +kernel
theorem dX12_oddsThat_49 : decode cX12_oddsThat 49 = .ok (.iload_n 1, 1) := by decide +kernel
theorem dX12_oddsThat_50 : decode cX12_oddsThat 50 = .ok (.iconst (-1), 1) := by decide +kernel
theorem dX12_oddsThat_51 : decode cX12_oddsThat 51 = .ok (.iload_n 2, 1) := by decide +kernel
theorem dX12_oddsThat_52 : decode cX12_oddsThat 52 = .ok (.invokevirtual 392, 3) := by decide +kernel
theorem dX12_oddsThat_55 : decode cX12_oddsThat 55 = .ok (.i2l, 1) := by decide +kernel
theorem dX12_oddsThat_56 : decode cX12_oddsThat 56 = .ok (.iload_n 3, 1) := by decide +kernel
theorem dX12_oddsThat_57 : decode cX12_oddsThat 57 = .ok (.i2l, 1) := by decide +kernel
theorem dX12_oddsThat_58 : decode cX12_oddsThat 58 = .ok (.invokevirtual 396, 3) := by decide +kernel
theorem dX12_oddsThat_61 : decode cX12_oddsThat 61 = .ok (.ireturn, 1) := by decide +kernel
def qX12_oddsThat_b20  (post : Int32 → St → Prop)  (u0 : St) : Prop := qX12_is (1 : Int32) u0 (fun r_22 u_21 => (bz r_22 ∧ post r_22 u_21))
set_option maxRecDepth 100000 in
set_option maxHeartbeats 4000000 in
theorem kX12_oddsThat_b20 {C : Cx} {o0 : Nat} {a0 : Nat → Nat} (hC : Fx C cX12_oddsThat 4 RX12) (hR0 : xR C = rm 6) {post : Int32 → St → Prop} (hR : RZ C cX12_oddsThat 4 (fun u : St => (wX12 o0 a0 (xy C) u [])) (fun r u => post r u))  {u0 : St} (h : qX12_oddsThat_b20 post u0) : G C 0 0 4 (wX12 o0 a0 (xy C) u0 []) 20 [(0, .ref o0)] [] := by
  refine g_aload_n (pc := 20) hC 0 dX12_oddsThat_20 rfl rfl ?_
  refine g_iconst (pc := 21) (v := 1) hC dX12_oddsThat_21 (by decide) ?_
  refine g_callV_i (pc := 22) (wd := fun (u : St) Y => (wX12 o0 a0 (xy C) u Y)) (F := fun Z => Z) (X := []) (As := [.int (1 : Int32)]) (rest := []) (u := u0) hC (fun _ _ => rfl) (fun _ => rfl) (ctX12_is h) wvX12_is ml_X12_95 (ci := 10) (q0 := 0) rfl rfl rfl rfl (rmok hR0 rfl) ⟨Nat.zero_le _, Nat.zero_le _⟩ rfl (Nat.le_of_ble_eq_true rfl) dX12_oddsThat_22 (fun r_22 u_21 h => ?_)
  exact hR _ _ _ u_21 dX12_oddsThat_25 h.1 h.2
def qX12_oddsThat_b61  (post : Int32 → St → Prop)  (s0 : Int32) (u0 : St) : Prop := (bz s0 ∧ post s0 u0)
set_option maxRecDepth 100000 in
set_option maxHeartbeats 4000000 in
theorem kX12_oddsThat_b61 {C : Cx} {o0 : Nat} {a0 : Nat → Nat} (hC : Fx C cX12_oddsThat 4 RX12) (hR0 : xR C = rm 6) {post : Int32 → St → Prop} (hR : RZ C cX12_oddsThat 4 (fun u : St => (wX12 o0 a0 (xy C) u [])) (fun r u => post r u))  {s0 : Int32} {u0 : St} (h : qX12_oddsThat_b61 post s0 u0) : G C 0 0 4 (wX12 o0 a0 (xy C) u0 []) 61 [] [.int s0] := by
  exact hR _ _ _ u0 dX12_oddsThat_61 h.1 h.2
def qX12_oddsThat (x1 : Int32) (x2 : Int32) (u0 : St) (post : Int32 → St → Prop) : Prop := qX12_isFrom (x1).toInt64 (0 : Int64) (9999 : Int64) (fun r_24 => ((r_24 = 0 → qX12_oddsThat_b20 post u0) ∧ (¬ r_24 = 0 → qX12_isDebt x2 u0 (fun r_28 u_27 => ((¬ r_28 = 0 → qX12_summed x1 (-1 : Int32) (-1 : Int32) u_27 (fun r_32 u_31 => ((¬ r_32 = 0 → qX12_summed x1 (-1 : Int32) x2 u_31 (fun r_36 u_35 => qX12_tellsBy (r_36).toInt64 (r_32).toInt64 u_35 (fun r_39 u_38 => qX12_oddsThat_b61 post r_39 u_38))) ∧ (r_32 = 0 → qX12_is (6 : Int32) u_31 (fun r_42 u_41 => qX12_oddsThat_b61 post r_42 u_41))))) ∧ (r_28 = 0 → qX12_oddsThat_b20 post u_27))))))
set_option maxRecDepth 100000 in
set_option maxHeartbeats 4000000 in
theorem kX12_oddsThat {C : Cx} {o0 : Nat} {a0 : Nat → Nat} (hC : Fx C cX12_oddsThat 4 RX12) (hR0 : xR C = rm 6) {post : Int32 → St → Prop} (hR : RZ C cX12_oddsThat 4 (fun u : St => (wX12 o0 a0 (xy C) u [])) (fun r u => post r u)) {x1 : Int32} {x2 : Int32} {u0 : St} (h : qX12_oddsThat x1 x2 u0 post) : G C 0 0 4 (wX12 o0 a0 (xy C) u0 []) 0 [(0, .ref o0), (1, .int x1), (2, .int x2)] [] := by
  refine g_iload_n (pc := 0) hC 1 dX12_oddsThat_0 rfl rfl ?_
  refine g_i2l (pc := 1) hC dX12_oddsThat_1 ?_
  refine g_lconst (pc := 2) (v := 0) hC dX12_oddsThat_2 (by decide) ?_
  refine g_ldc2 (pc := 3) hC cn_X12_390 dX12_oddsThat_3 ?_
  refine g_callS_i (pc := 6) (wd := fun (_ : Unit) Y => Y) (F := fun Z => Z) (X := []) (As := [.long (x1).toInt64, .long (0 : Int64), .long (9999 : Int64)]) (rest := []) (u := ()) hC (fun _ _ => rfl) (fun _ => rfl) (ctX12_isFrom h) wvX12_isFrom ml_X12_315 rfl (rmok hR0 rfl) ⟨Nat.zero_le _, Nat.zero_le _⟩ rfl (Nat.le_of_ble_eq_true rfl) dX12_oddsThat_6 (fun r_24 u_25 h => ?_)
  refine g_if_eq (pc := 9) (tgt := 20) hC dX12_oddsThat_9 (by decide) (fun c_26 => ?_) (fun c_26 => ?_)
  · have h := h.1 c_26
    refine g_sub (lv' := [(0, .ref o0)]) [0] rfl ?_
    exact kX12_oddsThat_b20 hC hR0 hR  h
  · have h := h.2 c_26
    refine g_aload_n (pc := 12) hC 0 dX12_oddsThat_12 rfl rfl ?_
    refine g_iload_n (pc := 13) hC 2 dX12_oddsThat_13 rfl rfl ?_
    refine g_callV_i (pc := 14) (wd := fun (u : St) Y => (wX12 o0 a0 (xy C) u Y)) (F := fun Z => Z) (X := []) (As := [.int x2]) (rest := []) (u := u0) hC (fun _ _ => rfl) (fun _ => rfl) (ctX12_isDebt h) wvX12_isDebt ml_X12_294 (ci := 10) (q0 := 0) rfl rfl rfl rfl (rmok hR0 rfl) ⟨Nat.zero_le _, Nat.zero_le _⟩ rfl (Nat.le_of_ble_eq_true rfl) dX12_oddsThat_14 (fun r_28 u_27 h => ?_)
    refine g_if_ne (pc := 17) (tgt := 26) hC dX12_oddsThat_17 (by decide) (fun c_30 => ?_) (fun c_30 => ?_)
    · have h := h.1 c_30
      refine g_aload_n (pc := 26) hC 0 dX12_oddsThat_26 rfl rfl ?_
      refine g_iload_n (pc := 27) hC 1 dX12_oddsThat_27 rfl rfl ?_
      refine g_iconst (pc := 28) (v := -1) hC dX12_oddsThat_28 (by decide) ?_
      refine g_iconst (pc := 29) (v := -1) hC dX12_oddsThat_29 (by decide) ?_
      refine g_callV_i (pc := 30) (wd := fun (u : St) Y => (wX12 o0 a0 (xy C) u Y)) (F := fun Z => Z) (X := []) (As := [.int x1, .int (-1 : Int32), .int (-1 : Int32)]) (rest := []) (u := u_27) hC (fun _ _ => rfl) (fun _ => rfl) (ctX12_summed h) wvX12_summed ml_X12_392 (ci := 10) (q0 := 0) rfl rfl rfl rfl (rmok hR0 rfl) ⟨Nat.zero_le _, Nat.zero_le _⟩ rfl (Nat.le_of_ble_eq_true rfl) dX12_oddsThat_30 (fun r_32 u_31 h => ?_)
      refine g_istore_n (pc := 33) (lv' := [(3, .int r_32), (0, .ref o0), (1, .int x1), (2, .int x2)]) hC dX12_oddsThat_33 rfl (Nat.le_of_ble_eq_true rfl) rfl ?_
      refine g_iload_n (pc := 34) hC 0 dX12_oddsThat_34 rfl rfl ?_
      refine g_if_ne (pc := 35) (tgt := 47) hC dX12_oddsThat_35 (by decide) (fun c_34 => ?_) (fun c_34 => ?_)
      · have h := h.1 c_34
        refine g_aload_n (pc := 47) hC 1 dX12_oddsThat_47 rfl rfl ?_
        refine g_aload_n (pc := 48) hC 1 dX12_oddsThat_48 rfl rfl ?_
        refine g_iload_n (pc := 49) hC 2 dX12_oddsThat_49 rfl rfl ?_
        refine g_iconst (pc := 50) (v := -1) hC dX12_oddsThat_50 (by decide) ?_
        refine g_iload_n (pc := 51) hC 3 dX12_oddsThat_51 rfl rfl ?_
        refine g_callV_i (pc := 52) (wd := fun (u : St) Y => (wX12 o0 a0 (xy C) u Y)) (F := fun Z => Z) (X := []) (As := [.int x1, .int (-1 : Int32), .int x2]) (rest := [.ref o0]) (u := u_31) hC (fun _ _ => rfl) (fun _ => rfl) (ctX12_summed h) wvX12_summed ml_X12_392 (ci := 10) (q0 := 0) rfl rfl rfl rfl (rmok hR0 rfl) ⟨Nat.zero_le _, Nat.zero_le _⟩ rfl (Nat.le_of_ble_eq_true rfl) dX12_oddsThat_52 (fun r_36 u_35 h => ?_)
        refine g_i2l (pc := 55) hC dX12_oddsThat_55 ?_
        refine g_iload_n (pc := 56) hC 0 dX12_oddsThat_56 rfl rfl ?_
        refine g_i2l (pc := 57) hC dX12_oddsThat_57 ?_
        refine g_callV_i (pc := 58) (wd := fun (u : St) Y => (wX12 o0 a0 (xy C) u Y)) (F := fun Z => Z) (X := []) (As := [.long (r_36).toInt64, .long (r_32).toInt64]) (rest := []) (u := u_35) hC (fun _ _ => rfl) (fun _ => rfl) (ctX12_tellsBy h) wvX12_tellsBy ml_X12_396 (ci := 10) (q0 := 0) rfl rfl rfl rfl (rmok hR0 rfl) ⟨Nat.zero_le _, Nat.zero_le _⟩ rfl (Nat.le_of_ble_eq_true rfl) dX12_oddsThat_58 (fun r_39 u_38 h => ?_)
        refine g_sub (lv' := []) [] rfl ?_
        exact kX12_oddsThat_b61 hC hR0 hR  h
      · have h := h.2 c_34
        refine g_aload_n (pc := 38) hC 1 dX12_oddsThat_38 rfl rfl ?_
        refine g_bipush (pc := 39) (v := 6) hC dX12_oddsThat_39 (by decide) ?_
        refine g_callV_i (pc := 41) (wd := fun (u : St) Y => (wX12 o0 a0 (xy C) u Y)) (F := fun Z => Z) (X := []) (As := [.int (6 : Int32)]) (rest := []) (u := u_31) hC (fun _ _ => rfl) (fun _ => rfl) (ctX12_is h) wvX12_is ml_X12_95 (ci := 10) (q0 := 0) rfl rfl rfl rfl (rmok hR0 rfl) ⟨Nat.zero_le _, Nat.zero_le _⟩ rfl (Nat.le_of_ble_eq_true rfl) dX12_oddsThat_41 (fun r_42 u_41 h => ?_)
        refine g_goto (pc := 44) (tgt := 61) hC dX12_oddsThat_44 (by decide) ?_
        refine g_sub (lv' := []) [] rfl ?_
        exact kX12_oddsThat_b61 hC hR0 hR  h
    · have h := h.2 c_30
      refine g_sub (lv' := [(0, .ref o0)]) [0] rfl ?_
      exact kX12_oddsThat_b20 hC hR0 hR  h
theorem ctX12_oddsThat {l : Launch} {D : va_G} {cy : Nat → ClassId} {kd : Nat → Nat} {o0 : Nat} {a0 : Nat → Nat} {x1 : Int32} {x2 : Int32} {u0 : St} {post : Int32 → St → Prop} (h : qX12_oddsThat x1 x2 u0 post) : CtI l D cy kd yX12_oddsThat cX12_oddsThat 4 6 .boolean [.ref o0, .int x1, .int x2] (fun u : St => (wX12 o0 a0 cy u [])) u0 (fun r u => post r u) := met_z (by decide) (Nat.le_of_ble_eq_true rfl) (fun C e1 e2 e3 e4 e5 hC hR => by subst e1 e2 e3 e4; exact kX12_oddsThat hC e5 hR h)
theorem dX12_leavesBy_0 : decode cX12_leavesBy 0 = .ok (.iconst 0, 1) := by decide +kernel
theorem dX12_leavesBy_1 : decode cX12_leavesBy 1 = .ok (.istore_n 3, 1) := by decide +kernel
theorem dX12_leavesBy_2 : decode cX12_leavesBy 2 = .ok (.iconst 0, 1) := by decide +kernel
theorem dX12_leavesBy_3 : decode cX12_leavesBy 3 = .ok (.istore 4, 2) := by decide +kernel
theorem dX12_leavesBy_5 : decode cX12_leavesBy 5 = .ok (.iload 4, 2) := by decide +kernel
theorem dX12_leavesBy_7 : decode cX12_leavesBy 7 = .ok (.iload_n 2, 1) := by decide +kernel
theorem dX12_leavesBy_8 : decode cX12_leavesBy 8 = .ok (.if_icmp .ge 30, 3) := by decide +kernel
theorem dX12_leavesBy_11 : decode cX12_leavesBy 11 = .ok (.iload_n 0, 1) := by decide +kernel
theorem dX12_leavesBy_12 : decode cX12_leavesBy 12 = .ok (.iload_n 3, 1) := by decide +kernel
theorem dX12_leavesBy_13 : decode cX12_leavesBy 13 = .ok (.iload_n 1, 1) := by decide +kernel
theorem dX12_leavesBy_14 : decode cX12_leavesBy 14 = .ok (.iconst 2, 1) := by decide +kernel
theorem dX12_leavesBy_15 : decode cX12_leavesBy 15 = .ok (.idiv, 1) := by decide +kernel
theorem dX12_leavesBy_16 : decode cX12_leavesBy 16 = .ok (.iload_n 1, 1) := by decide +kernel
theorem dX12_leavesBy_17 : decode cX12_leavesBy 17 = .ok (.iconst 2, 1) := by decide +kernel
theorem dX12_leavesBy_18 : decode cX12_leavesBy 18 = .ok (.irem, 1) := by decide +kernel
theorem dX12_leavesBy_19 : decode cX12_leavesBy 19 = .ok (.iconst 1, 1) := by decide +kernel
theorem dX12_leavesBy_20 : decode cX12_leavesBy 20 = .ok (.if_icmp .ne 7, 3) := by decide +kernel
theorem dX12_leavesBy_23 : decode cX12_leavesBy 23 = .ok (.iconst 1, 1) := by decide +kernel
theorem dX12_leavesBy_24 : decode cX12_leavesBy 24 = .ok (.goto 4, 3) := by decide +kernel
theorem dX12_leavesBy_27 : decode cX12_leavesBy 27 = .ok (.iconst 0, 1) := by decide +kernel
theorem dX12_leavesBy_28 : decode cX12_leavesBy 28 = .ok (.invokestatic 303, 3) := by decide +kernel
theorem dX12_leavesBy_31 : decode cX12_leavesBy 31 = .ok (.istore_n 3, 1) := by decide +kernel
theorem dX12_leavesBy_32 : decode cX12_leavesBy 32 = .ok (.iinc 4 1, 3) := by decide +kernel
theorem dX12_leavesBy_35 : decode cX12_leavesBy 35 = .ok (.goto (-30), 3) := by decide +kernel
theorem dX12_leavesBy_38 : decode cX12_leavesBy 38 = .ok (.iload_n 3, 1) := by decide +kernel
theorem dX12_leavesBy_39 : decode cX12_leavesBy 39 = .ok (.ireturn, 1) := by decide +kernel
def qX12_leavesBy_b28  (post : Int32 → Prop) (K5 : Int32 → Int32 → Int32 → Int32 → Int32 → Prop) (x0 : Int32) (x1 : Int32) (x2 : Int32) (x4 : Int32) (s0 : Int32) (s1 : Int32) (s2 : Int32) (s3 : Int32) : Prop := qX12_grown s3 s2 s1 s0 (fun r_4 => ∀ x4_6 : Int32, x4_6 = x4 + (1 : Int32) → K5 x0 x1 x2 r_4 x4_6)
set_option maxRecDepth 100000 in
set_option maxHeartbeats 4000000 in
theorem kX12_leavesBy_b28 {C : Cx}  (hC : Fx C cX12_leavesBy 5 RX12) (hR0 : xR C = rm 3) {post : Int32 → Prop} (hR : RI C cX12_leavesBy 5 (fun _ : Unit => ([] : va_W)) (fun r _ => post r )) {K5 : Int32 → Int32 → Int32 → Int32 → Int32 → Prop} (hK5 : ∀ (x0 : Int32) (x1 : Int32) (x2 : Int32) (x3 : Int32) (x4 : Int32), K5 x0 x1 x2 x3 x4 → G C 0 0 5 [] 5 [(0, .int x0), (1, .int x1), (2, .int x2), (3, .int x3), (4, .int x4)] []) {x0 : Int32} {x1 : Int32} {x2 : Int32} {x4 : Int32} {s0 : Int32} {s1 : Int32} {s2 : Int32} {s3 : Int32} (h : qX12_leavesBy_b28 post K5 x0 x1 x2 x4 s0 s1 s2 s3) : G C 0 0 5 [] 28 [(0, .int x0), (1, .int x1), (2, .int x2), (4, .int x4)] [.int s0, .int s1, .int s2, .int s3] := by
  refine g_callS_i (pc := 28) (wd := fun (_ : Unit) Y => Y) (F := fun Z => Z) (X := []) (As := [.int s3, .int s2, .int s1, .int s0]) (rest := []) (u := ()) hC (fun _ _ => rfl) (fun _ => rfl) (ctX12_grown h) wvX12_grown ml_X12_303 rfl (rmok hR0 rfl) ⟨Nat.zero_le _, Nat.zero_le _⟩ rfl (Nat.le_of_ble_eq_true rfl) dX12_leavesBy_28 (fun r_4 u_5 h => ?_)
  refine g_istore_n (pc := 31) (lv' := [(3, .int r_4), (0, .int x0), (1, .int x1), (2, .int x2), (4, .int x4)]) hC dX12_leavesBy_31 rfl (Nat.le_of_ble_eq_true rfl) rfl ?_
  obtain ⟨x4_6, ex4_6⟩ : ∃ z : Int32, z = x4 + (1 : Int32) := ⟨_, rfl⟩
  have h := h x4_6 ex4_6
  refine g_iinc (pc := 32) (v := x4_6) (lv' := [(4, .int x4_6), (3, .int r_4), (0, .int x0), (1, .int x1), (2, .int x2)]) hC 4 dX12_leavesBy_32 rfl (by rw [ex4_6]; rfl) (Nat.le_of_ble_eq_true rfl) rfl ?_
  refine g_goto (pc := 35) (tgt := 5) hC dX12_leavesBy_35 (by decide) ?_
  refine g_sub (lv' := [(0, .int x0), (1, .int x1), (2, .int x2), (3, .int r_4), (4, .int x4_6)]) [2, 3, 4, 1, 0] rfl ?_
  exact hK5 _ _ _ _ _ h
def qX12_leavesBy_l5  (post : Int32 → Prop) (K5 : Int32 → Int32 → Int32 → Int32 → Int32 → Prop) (x0 : Int32) (x1 : Int32) (x2 : Int32) (x3 : Int32) (x4 : Int32) : Prop := ((x2 ≤ x4 → post x3 ) ∧ (¬ x2 ≤ x4 → ((¬ (x1 - x1 / (2 : Int32) * (2 : Int32)) = (1 : Int32) → qX12_leavesBy_b28 post K5 x0 x1 x2 x4 (0 : Int32) (x1 / (2 : Int32)) x3 x0) ∧ ((x1 - x1 / (2 : Int32) * (2 : Int32)) = (1 : Int32) → qX12_leavesBy_b28 post K5 x0 x1 x2 x4 (1 : Int32) (x1 / (2 : Int32)) x3 x0))))
set_option maxRecDepth 100000 in
set_option maxHeartbeats 4000000 in
theorem kX12_leavesBy_l5 {C : Cx}  (hC : Fx C cX12_leavesBy 5 RX12) (hR0 : xR C = rm 3) {post : Int32 → Prop} (hR : RI C cX12_leavesBy 5 (fun _ : Unit => ([] : va_W)) (fun r _ => post r ))  {K5 : Int32 → Int32 → Int32 → Int32 → Int32 → Prop} (hK5 : ∀ (x0 : Int32) (x1 : Int32) (x2 : Int32) (x3 : Int32) (x4 : Int32), K5 x0 x1 x2 x3 x4 → G C 0 0 5 [] 5 [(0, .int x0), (1, .int x1), (2, .int x2), (3, .int x3), (4, .int x4)] []) {x0 : Int32} {x1 : Int32} {x2 : Int32} {x3 : Int32} {x4 : Int32} (h : qX12_leavesBy_l5 post K5 x0 x1 x2 x3 x4) : G C 0 0 5 [] 5 [(0, .int x0), (1, .int x1), (2, .int x2), (3, .int x3), (4, .int x4)] [] := by
  refine g_iload (pc := 5) hC 4 dX12_leavesBy_5 rfl ?_
  refine g_iload_n (pc := 7) hC 2 dX12_leavesBy_7 rfl rfl ?_
  refine g_icmp_ge (pc := 8) (tgt := 38) hC dX12_leavesBy_8 (by decide) (fun c_7 => ?_) (fun c_7 => ?_)
  · have h := h.1 c_7
    refine g_iload_n (pc := 38) hC 3 dX12_leavesBy_38 rfl rfl ?_
    exact hR _ _ _ () dX12_leavesBy_39 h
  · have h := h.2 c_7
    refine g_iload_n (pc := 11) hC 0 dX12_leavesBy_11 rfl rfl ?_
    refine g_iload_n (pc := 12) hC 3 dX12_leavesBy_12 rfl rfl ?_
    refine g_iload_n (pc := 13) hC 1 dX12_leavesBy_13 rfl rfl ?_
    refine g_iconst (pc := 14) (v := 2) hC dX12_leavesBy_14 (by decide) ?_
    refine g_idiv (pc := 15) hC dX12_leavesBy_15 (by decide) ?_
    refine g_iload_n (pc := 16) hC 1 dX12_leavesBy_16 rfl rfl ?_
    refine g_iconst (pc := 17) (v := 2) hC dX12_leavesBy_17 (by decide) ?_
    refine g_irem (pc := 18) hC dX12_leavesBy_18 (by decide) ?_
    refine g_iconst (pc := 19) (v := 1) hC dX12_leavesBy_19 (by decide) ?_
    refine g_icmp_ne (pc := 20) (tgt := 27) hC dX12_leavesBy_20 (by decide) (fun c_8 => ?_) (fun c_8 => ?_)
    · have h := h.1 c_8
      refine g_iconst (pc := 27) (v := 0) hC dX12_leavesBy_27 (by decide) ?_
      refine g_sub (lv' := [(0, .int x0), (1, .int x1), (2, .int x2), (4, .int x4)]) [0, 1, 2, 4] rfl ?_
      exact kX12_leavesBy_b28 hC hR0 hR hK5 h
    · have h := h.2 c_8
      refine g_iconst (pc := 23) (v := 1) hC dX12_leavesBy_23 (by decide) ?_
      refine g_goto (pc := 24) (tgt := 28) hC dX12_leavesBy_24 (by decide) ?_
      refine g_sub (lv' := [(0, .int x0), (1, .int x1), (2, .int x2), (4, .int x4)]) [0, 1, 2, 4] rfl ?_
      exact kX12_leavesBy_b28 hC hR0 hR hK5 h
def qX12_leavesBy_L5  (post : Int32 → Prop)  : Nat → Int32 → Int32 → Int32 → Int32 → Int32 → Prop
  | 0 => fun _ _ _ _ _ => False
  | n + 1 => qX12_leavesBy_l5 post (qX12_leavesBy_L5 post n)
theorem kX12_leavesBy_L5 {C : Cx}  (hC : Fx C cX12_leavesBy 5 RX12) (hR0 : xR C = rm 3) {post : Int32 → Prop} (hR : RI C cX12_leavesBy 5 (fun _ : Unit => ([] : va_W)) (fun r _ => post r ))  : ∀ (n : Nat) (x0 : Int32) (x1 : Int32) (x2 : Int32) (x3 : Int32) (x4 : Int32), qX12_leavesBy_L5 post n x0 x1 x2 x3 x4 → G C 0 0 5 [] 5 [(0, .int x0), (1, .int x1), (2, .int x2), (3, .int x3), (4, .int x4)] [] := by
  intro n
  induction n with
  | zero => intro x0 x1 x2 x3 x4 h; exact h.elim
  | succ n ih => intro x0 x1 x2 x3 x4 h; exact kX12_leavesBy_l5 hC hR0 hR  ih h
def qX12_leavesBy (x0 : Int32) (x1 : Int32) (x2 : Int32)  (post : Int32 → Prop) : Prop := ∃ n_9 : Nat, qX12_leavesBy_L5 post n_9 x0 x1 x2 (0 : Int32) (0 : Int32)
set_option maxRecDepth 100000 in
set_option maxHeartbeats 4000000 in
theorem kX12_leavesBy {C : Cx}  (hC : Fx C cX12_leavesBy 5 RX12) (hR0 : xR C = rm 3) {post : Int32 → Prop} (hR : RI C cX12_leavesBy 5 (fun _ : Unit => ([] : va_W)) (fun r _ => post r )) {x0 : Int32} {x1 : Int32} {x2 : Int32}  (h : qX12_leavesBy x0 x1 x2  post) : G C 0 0 5 [] 0 [(0, .int x0), (1, .int x1), (2, .int x2)] [] := by
  refine g_iconst (pc := 0) (v := 0) hC dX12_leavesBy_0 (by decide) ?_
  refine g_istore_n (pc := 1) (lv' := [(3, .int (0 : Int32)), (0, .int x0), (1, .int x1), (2, .int x2)]) hC dX12_leavesBy_1 rfl (Nat.le_of_ble_eq_true rfl) rfl ?_
  refine g_iconst (pc := 2) (v := 0) hC dX12_leavesBy_2 (by decide) ?_
  refine g_istore (pc := 3) (lv' := [(4, .int (0 : Int32)), (3, .int (0 : Int32)), (0, .int x0), (1, .int x1), (2, .int x2)]) hC dX12_leavesBy_3 (Nat.le_of_ble_eq_true rfl) rfl ?_
  refine g_sub (lv' := [(0, .int x0), (1, .int x1), (2, .int x2), (3, .int (0 : Int32)), (4, .int (0 : Int32))]) [2, 3, 4, 1, 0] rfl ?_
  obtain ⟨n_9, h⟩ := h
  exact kX12_leavesBy_L5 hC hR0 hR  n_9 _ _ _ _ _ h
theorem ctX12_leavesBy {l : Launch} {D : va_G} {cy : Nat → ClassId} {kd : Nat → Nat}  {x0 : Int32} {x1 : Int32} {x2 : Int32}  {post : Int32 → Prop} (h : qX12_leavesBy x0 x1 x2  post) : CtI l D cy kd yX12_leavesBy cX12_leavesBy 5 3 .int [.int x0, .int x1, .int x2] (fun _ : Unit => ([] : va_W)) () (fun r _ => post r ) := met_i (by decide) (Nat.le_of_ble_eq_true rfl) (fun C e1 e2 e3 e4 e5 hC hR => by subst e1 e2 e3 e4; exact kX12_leavesBy hC e5 hR h)
theorem dX12_wrongSeen_0 : decode cX12_wrongSeen 0 = .ok (.iload_n 1, 1) := by decide +kernel
theorem dX12_wrongSeen_1 : decode cX12_wrongSeen 1 = .ok (.i2l, 1) := by decide +kernel
theorem dX12_wrongSeen_2 : decode cX12_wrongSeen 2 = .ok (.lconst 1, 1) := by decide +kernel
theorem dX12_wrongSeen_3 : decode cX12_wrongSeen 3 = .ok (.ldc2_w 313, 3) := by decide +kernel
theorem dX12_wrongSeen_6 : decode cX12_wrongSeen 6 = .ok (.invokestatic 315, 3) := by decide +kernel
theorem dX12_wrongSeen_9 : decode cX12_wrongSeen 9 = .ok (.ifCond .eq 22, 3) := by decide +kernel
theorem dX12_wrongSeen_12 : decode cX12_wrongSeen 12 = .ok (.iload_n 2, 1) := by decide +kernel
theorem dX12_wrongSeen_13 : decode cX12_wrongSeen 13 = .ok (.invokestatic 99, 3) := by decide +kernel
theorem dX12_wrongSeen_16 : decode cX12_wrongSeen 16 = .ok (.ifCond .eq 15, 3) := by decide +kernel
theorem dX12_wrongSeen_19 : decode cX12_wrongSeen 19 = .ok (.iload_n 3, 1) := by decide +kernel
theorem dX12_wrongSeen_20 : decode cX12_wrongSeen 20 = .ok (.i2l, 1) := by decide +kernel
theorem dX12_wrongSeen_21 : decode cX12_wrongSeen 21 = .ok (.lconst 0, 1) := by decide +kernel
theorem dX12_wrongSeen_22 : decode cX12_wrongSeen 22 = .ok (.ldc2_w 400, 3) := by decide +kernel
theorem dX12_wrongSeen_25 : decode cX12_wrongSeen 25 = .ok (.invokestatic 315, 3) := by decide +kernel
theorem dX12_wrongSeen_28 : decode cX12_wrongSeen 28 = .ok (.ifCond .ne 5, 3) := by decide +kernel
theorem dX12_wrongSeen_31 : decode cX12_wrongSeen 31 = .ok (.iconst 1, 1) := by decide +kernel
theorem dX12_wrongSeen_32 : decode cX12_wrongSeen 32 = .ok (.ireturn, 1) := by decide +kernel
theorem dX12_wrongSeen_33 : decode cX12_wrongSeen 33 = .ok (.aload_n 0, 1) := by decide +kernel
theorem dX12_wrongSeen_34 : decode cX12_wrongSeen 34 = .ok (.getfield 24, 3) := by decide +kernel
theorem dX12_wrongSeen_37 : decode cX12_wrongSeen 37 = .ok (.iload_n 2, 1) := by decide +kernel
theorem dX12_wrongSeen_38 : decode cX12_wrongSeen 38 = .ok (.iaload, 1) := by decide +kernel
theorem dX12_wrongSeen_39 : decode cX12_wrongSeen 39 = .ok (.iconst (-1), 1) := by decide +kernel
theorem dX12_wrongSeen_40 : decode cX12_wrongSeen 40 = .ok (.if_icmp .ne 5, 3) := by decide +kernel
theorem dX12_wrongSeen_43 : decode cX12_wrongSeen 43 = .ok (.iconst 2, 1) := by decide +kernel
theorem dX12_wrongSeen_44 : decode cX12_wrongSeen 44 = .ok (.ireturn, 1) := by decide +kernel
theorem dX12_wrongSeen_45 : decode cX12_wrongSeen 45 = .ok (.aload_n 0, 1) := by decide +kernel
theorem dX12_wrongSeen_46 : decode cX12_wrongSeen 46 = .ok (.getfield 24, 3) := by decide +kernel
theorem dX12_wrongSeen_49 : decode cX12_wrongSeen 49 = .ok (.iload_n 2, 1) := by decide +kernel
theorem dX12_wrongSeen_50 : decode cX12_wrongSeen 50 = .ok (.iaload, 1) := by decide +kernel
theorem dX12_wrongSeen_51 : decode cX12_wrongSeen 51 = .ok (.iconst 2, 1) := by decide +kernel
theorem dX12_wrongSeen_52 : decode cX12_wrongSeen 52 = .ok (.iload_n 3, 1) := by decide +kernel
theorem dX12_wrongSeen_53 : decode cX12_wrongSeen 53 = .ok (.imul, 1) := by decide +kernel
theorem dX12_wrongSeen_54 : decode cX12_wrongSeen 54 = .ok (.if_icmp .ge 5, 3) := by decide +kernel
theorem dX12_wrongSeen_57 : decode cX12_wrongSeen 57 = .ok (.iconst 3, 1) := by decide +kernel
theorem dX12_wrongSeen_58 : decode cX12_wrongSeen 58 = .ok (.ireturn, 1) := by decide +kernel
theorem dX12_wrongSeen_59 : decode cX12_wrongSeen 59 = .ok (.iconst 0, 1) := by decide +kernel
theorem dX12_wrongSeen_60 : decode cX12_wrongSeen 60 = .ok (.istore 4, 2) := by decide +kernel
theorem dX12_wrongSeen_62 : decode cX12_wrongSeen 62 = .ok (.iload 4, 2) := by decide +kernel
theorem dX12_wrongSeen_64 : decode cX12_wrongSeen 64 = .ok (.iload_n 3, 1) := by decide +kernel
theorem dX12_wrongSeen_65 : decode cX12_wrongSeen 65 = .ok (.if_icmp .ge 58, 3) := by decide +kernel
theorem dX12_wrongSeen_68 : decode cX12_wrongSeen 68 = .ok (.bipush 60, 2) := by decide +kernel
theorem dX12_wrongSeen_70 : decode cX12_wrongSeen 70 = .ok (.iload_n 2, 1) := by decide +kernel
theorem dX12_wrongSeen_71 : decode cX12_wrongSeen 71 = .ok (.imul, 1) := by decide +kernel
theorem dX12_wrongSeen_72 : decode cX12_wrongSeen 72 = .ok (.iconst 2, 1) := by decide +kernel
theorem dX12_wrongSeen_73 : decode cX12_wrongSeen 73 = .ok (.iload 4, 2) := by decide +kernel
theorem dX12_wrongSeen_75 : decode cX12_wrongSeen 75 = .ok (.imul, 1) := by decide +kernel
theorem dX12_wrongSeen_76 : decode cX12_wrongSeen 76 = .ok (.iadd, 1) := by decide +kernel
theorem dX12_wrongSeen_77 : decode cX12_wrongSeen 77 = .ok (.istore 5, 2) := by decide +kernel
theorem dX12_wrongSeen_79 : decode cX12_wrongSeen 79 = .ok (.aload_n 0, 1) := by decide +kernel
theorem dX12_wrongSeen_80 : decode cX12_wrongSeen 80 = .ok (.getfield 27, 3) := by decide +kernel
theorem dX12_wrongSeen_83 : decode cX12_wrongSeen 83 = .ok (.iload 5, 2) := by decide +kernel
theorem dX12_wrongSeen_85 : decode cX12_wrongSeen 85 = .ok (.laload, 1) := by decide +kernel
theorem dX12_wrongSeen_86 : decode cX12_wrongSeen 86 = .ok (.lconst 0, 1) := by decide +kernel
theorem dX12_wrongSeen_87 : decode cX12_wrongSeen 87 = .ok (.ldc2_w 350, 3) := by decide +kernel
theorem dX12_wrongSeen_90 : decode cX12_wrongSeen 90 = .ok (.invokestatic 315, 3) := by decide +kernel
theorem dX12_wrongSeen_93 : decode cX12_wrongSeen 93 = .ok (.ifCond .eq 22, 3) := by decide +kernel
theorem dX12_wrongSeen_96 : decode cX12_wrongSeen 96 = .ok (.aload_n 0, 1) := by decide +kernel
theorem dX12_wrongSeen_97 : decode cX12_wrongSeen 97 = .ok (.getfield 27, 3) := by decide +kernel
theorem dX12_wrongSeen_100 : decode cX12_wrongSeen 100 = .ok (.iload 5, 2) := by decide +kernel
theorem dX12_wrongSeen_102 : decode cX12_wrongSeen 102 = .ok (.iconst 1, 1) := by decide +kernel
theorem dX12_wrongSeen_103 : decode cX12_wrongSeen 103 = .ok (.iadd, 1) := by decide +kernel
theorem dX12_wrongSeen_104 : decode cX12_wrongSeen 104 = .ok (.laload, 1) := by decide +kernel
theorem dX12_wrongSeen_105 : decode cX12_wrongSeen 105 = .ok (.lconst 0, 1) := by decide +kernel
theorem dX12_wrongSeen_106 : decode cX12_wrongSeen 106 = .ok (.ldc2_w 342, 3) := by decide +kernel
theorem dX12_wrongSeen_109 : decode cX12_wrongSeen 109 = .ok (.invokestatic 315, 3) := by decide +kernel
theorem dX12_wrongSeen_112 : decode cX12_wrongSeen 112 = .ok (.ifCond .ne 5, 3) := by decide +kernel
theorem dX12_wrongSeen_115 : decode cX12_wrongSeen 115 = .ok (.iconst 5, 1) := by decide +kernel
theorem dX12_wrongSeen_116 : decode cX12_wrongSeen 116 = .ok (.ireturn, 1) := by decide +kernel
theorem dX12_wrongSeen_117 : decode cX12_wrongSeen 117 = .ok (.iinc 4 1, 3) := by decide +kernel
theorem dX12_wrongSeen_120 : decode cX12_wrongSeen 120 = .ok (.goto (-58), 3) := by decide +kernel
theorem dX12_wrongSeen_123 : decode cX12_wrongSeen 123 = .ok (.iconst 0, 1) := by decide +kernel
theorem dX12_wrongSeen_124 : decode cX12_wrongSeen 124 = .ok (.ireturn, 1) := by decide +kernel
def qX12_wrongSeen_b31  (post : Int32 → St → Prop)  (u0 : St) : Prop := post (1 : Int32) u0
set_option maxRecDepth 100000 in
set_option maxHeartbeats 4000000 in
theorem kX12_wrongSeen_b31 {C : Cx} {o0 : Nat} {a0 : Nat → Nat} (hC : Fx C cX12_wrongSeen 6 RX12) (hR0 : xR C = rm 2) {post : Int32 → St → Prop} (hR : RI C cX12_wrongSeen 6 (fun u : St => (wX12 o0 a0 (xy C) u [])) (fun r u => post r u))  {u0 : St} (h : qX12_wrongSeen_b31 post u0) : G C 0 0 6 (wX12 o0 a0 (xy C) u0 []) 31 [] [] := by
  refine g_iconst (pc := 31) (v := 1) hC dX12_wrongSeen_31 (by decide) ?_
  exact hR _ _ _ u0 dX12_wrongSeen_32 h
def qX12_wrongSeen_b115  (post : Int32 → St → Prop)  (u0 : St) : Prop := post (5 : Int32) u0
set_option maxRecDepth 100000 in
set_option maxHeartbeats 4000000 in
theorem kX12_wrongSeen_b115 {C : Cx} {o0 : Nat} {a0 : Nat → Nat} (hC : Fx C cX12_wrongSeen 6 RX12) (hR0 : xR C = rm 2) {post : Int32 → St → Prop} (hR : RI C cX12_wrongSeen 6 (fun u : St => (wX12 o0 a0 (xy C) u [])) (fun r u => post r u))  {u0 : St} (h : qX12_wrongSeen_b115 post u0) : G C 0 0 6 (wX12 o0 a0 (xy C) u0 []) 115 [] [] := by
  refine g_iconst (pc := 115) (v := 5) hC dX12_wrongSeen_115 (by decide) ?_
  exact hR _ _ _ u0 dX12_wrongSeen_116 h
def qX12_wrongSeen_l62  (post : Int32 → St → Prop) (K62 : Int32 → Int32 → Int32 → St → Prop) (x2 : Int32) (x3 : Int32) (x4 : Int32) (u0 : St) : Prop := ((x3 ≤ x4 → post (0 : Int32) u0) ∧ (¬ x3 ≤ x4 → ∀ x5_13 : Int32, x5_13 = (((60 : Int32) * x2) + ((2 : Int32) * x4)) → (vp_in x5_13 240 ∧ qX12_isFrom (gl u0 7 (x5_13).toNatClampNeg) (0 : Int64) (40 : Int64) (fun r_14 => ((r_14 = 0 → qX12_wrongSeen_b115 post u0) ∧ (¬ r_14 = 0 → (vp_in (x5_13 + (1 : Int32)) 240 ∧ qX12_isFrom (gl u0 7 ((x5_13 + (1 : Int32))).toNatClampNeg) (0 : Int64) (999 : Int64) (fun r_17 => ((¬ r_17 = 0 → ∀ x4_20 : Int32, x4_20 = x4 + (1 : Int32) → K62 x2 x3 x4_20 u0) ∧ (r_17 = 0 → qX12_wrongSeen_b115 post u0))))))))))
set_option maxRecDepth 100000 in
set_option maxHeartbeats 4000000 in
theorem kX12_wrongSeen_l62 {C : Cx} {o0 : Nat} {a0 : Nat → Nat} (hC : Fx C cX12_wrongSeen 6 RX12) (hR0 : xR C = rm 2) {post : Int32 → St → Prop} (hR : RI C cX12_wrongSeen 6 (fun u : St => (wX12 o0 a0 (xy C) u [])) (fun r u => post r u))  {K62 : Int32 → Int32 → Int32 → St → Prop} (hK62 : ∀ (x2 : Int32) (x3 : Int32) (x4 : Int32) (u0 : St), K62 x2 x3 x4 u0 → G C 0 0 6 (wX12 o0 a0 (xy C) u0 []) 62 [(0, .ref o0), (2, .int x2), (3, .int x3), (4, .int x4)] []) {x2 : Int32} {x3 : Int32} {x4 : Int32} {u0 : St} (h : qX12_wrongSeen_l62 post K62 x2 x3 x4 u0) : G C 0 0 6 (wX12 o0 a0 (xy C) u0 []) 62 [(0, .ref o0), (2, .int x2), (3, .int x3), (4, .int x4)] [] := by
  refine g_iload (pc := 62) hC 3 dX12_wrongSeen_62 rfl ?_
  refine g_iload_n (pc := 64) hC 2 dX12_wrongSeen_64 rfl rfl ?_
  refine g_icmp_ge (pc := 65) (tgt := 123) hC dX12_wrongSeen_65 (by decide) (fun c_12 => ?_) (fun c_12 => ?_)
  · have h := h.1 c_12
    refine g_iconst (pc := 123) (v := 0) hC dX12_wrongSeen_123 (by decide) ?_
    exact hR _ _ _ u0 dX12_wrongSeen_124 h
  · have h := h.2 c_12
    refine g_bipush (pc := 68) (v := 60) hC dX12_wrongSeen_68 (by decide) ?_
    refine g_iload_n (pc := 70) hC 1 dX12_wrongSeen_70 rfl rfl ?_
    refine g_imul (pc := 71) hC dX12_wrongSeen_71 ?_
    refine g_iconst (pc := 72) (v := 2) hC dX12_wrongSeen_72 (by decide) ?_
    refine g_iload (pc := 73) hC 3 dX12_wrongSeen_73 rfl ?_
    refine g_imul (pc := 75) hC dX12_wrongSeen_75 ?_
    refine g_iadd (pc := 76) hC dX12_wrongSeen_76 ?_
    refine g_topi (fun x5_13 ex5_13 => ?_)
    have h := h x5_13 ex5_13
    refine g_istore (pc := 77) (lv' := [(5, .int x5_13), (0, .ref o0), (2, .int x2), (3, .int x3), (4, .int x4)]) hC dX12_wrongSeen_77 (Nat.le_of_ble_eq_true rfl) rfl ?_
    refine g_aload_n (pc := 79) hC 1 dX12_wrongSeen_79 rfl rfl ?_
    refine getX12_7 (pc := 80) hC (F := fun Z => Z) (X := []) (fun _ => rfl) fl_X12_27 dX12_wrongSeen_80 ?_
    refine g_iload (pc := 83) hC 0 dX12_wrongSeen_83 rfl ?_
    refine aldX12_7 (pc := 85) hC (F := fun Z => Z) (X := []) (fun _ => rfl) h.1 dX12_wrongSeen_85 ?_
    have h := h.2
    refine g_lconst (pc := 86) (v := 0) hC dX12_wrongSeen_86 (by decide) ?_
    refine g_ldc2 (pc := 87) hC cn_X12_350 dX12_wrongSeen_87 ?_
    refine g_callS_i (pc := 90) (wd := fun (_ : Unit) Y => Y) (F := fun Z => Z) (X := []) (As := [.long (gl u0 7 (x5_13).toNatClampNeg), .long (0 : Int64), .long (40 : Int64)]) (rest := []) (u := ()) hC (fun _ _ => rfl) (fun _ => rfl) (ctX12_isFrom h) wvX12_isFrom ml_X12_315 rfl (rmok hR0 rfl) ⟨Nat.zero_le _, Nat.zero_le _⟩ rfl (Nat.le_of_ble_eq_true rfl) dX12_wrongSeen_90 (fun r_14 u_15 h => ?_)
    refine g_if_eq (pc := 93) (tgt := 115) hC dX12_wrongSeen_93 (by decide) (fun c_16 => ?_) (fun c_16 => ?_)
    · have h := h.1 c_16
      refine g_sub (lv' := []) [] rfl ?_
      exact kX12_wrongSeen_b115 hC hR0 hR  h
    · have h := h.2 c_16
      refine g_aload_n (pc := 96) hC 1 dX12_wrongSeen_96 rfl rfl ?_
      refine getX12_7 (pc := 97) hC (F := fun Z => Z) (X := []) (fun _ => rfl) fl_X12_27 dX12_wrongSeen_97 ?_
      refine g_iload (pc := 100) hC 0 dX12_wrongSeen_100 rfl ?_
      refine g_iconst (pc := 102) (v := 1) hC dX12_wrongSeen_102 (by decide) ?_
      refine g_iadd (pc := 103) hC dX12_wrongSeen_103 ?_
      refine aldX12_7 (pc := 104) hC (F := fun Z => Z) (X := []) (fun _ => rfl) h.1 dX12_wrongSeen_104 ?_
      have h := h.2
      refine g_lconst (pc := 105) (v := 0) hC dX12_wrongSeen_105 (by decide) ?_
      refine g_ldc2 (pc := 106) hC cn_X12_342 dX12_wrongSeen_106 ?_
      refine g_callS_i (pc := 109) (wd := fun (_ : Unit) Y => Y) (F := fun Z => Z) (X := []) (As := [.long (gl u0 7 ((x5_13 + (1 : Int32))).toNatClampNeg), .long (0 : Int64), .long (999 : Int64)]) (rest := []) (u := ()) hC (fun _ _ => rfl) (fun _ => rfl) (ctX12_isFrom h) wvX12_isFrom ml_X12_315 rfl (rmok hR0 rfl) ⟨Nat.zero_le _, Nat.zero_le _⟩ rfl (Nat.le_of_ble_eq_true rfl) dX12_wrongSeen_109 (fun r_17 u_18 h => ?_)
      refine g_if_ne (pc := 112) (tgt := 117) hC dX12_wrongSeen_112 (by decide) (fun c_19 => ?_) (fun c_19 => ?_)
      · have h := h.1 c_19
        obtain ⟨x4_20, ex4_20⟩ : ∃ z : Int32, z = x4 + (1 : Int32) := ⟨_, rfl⟩
        have h := h x4_20 ex4_20
        refine g_iinc (pc := 117) (v := x4_20) (lv' := [(4, .int x4_20), (5, .int x5_13), (0, .ref o0), (2, .int x2), (3, .int x3)]) hC 4 dX12_wrongSeen_117 rfl (by rw [ex4_20]; rfl) (Nat.le_of_ble_eq_true rfl) rfl ?_
        refine g_goto (pc := 120) (tgt := 62) hC dX12_wrongSeen_120 (by decide) ?_
        refine g_sub (lv' := [(0, .ref o0), (2, .int x2), (3, .int x3), (4, .int x4_20)]) [2, 3, 4, 0] rfl ?_
        exact hK62 _ _ _ _ h
      · have h := h.2 c_19
        refine g_sub (lv' := []) [] rfl ?_
        exact kX12_wrongSeen_b115 hC hR0 hR  h
def qX12_wrongSeen_L62  (post : Int32 → St → Prop)  : Nat → Int32 → Int32 → Int32 → St → Prop
  | 0 => fun _ _ _ _ => False
  | n + 1 => qX12_wrongSeen_l62 post (qX12_wrongSeen_L62 post n)
theorem kX12_wrongSeen_L62 {C : Cx} {o0 : Nat} {a0 : Nat → Nat} (hC : Fx C cX12_wrongSeen 6 RX12) (hR0 : xR C = rm 2) {post : Int32 → St → Prop} (hR : RI C cX12_wrongSeen 6 (fun u : St => (wX12 o0 a0 (xy C) u [])) (fun r u => post r u))  : ∀ (n : Nat) (x2 : Int32) (x3 : Int32) (x4 : Int32) (u0 : St), qX12_wrongSeen_L62 post n x2 x3 x4 u0 → G C 0 0 6 (wX12 o0 a0 (xy C) u0 []) 62 [(0, .ref o0), (2, .int x2), (3, .int x3), (4, .int x4)] [] := by
  intro n
  induction n with
  | zero => intro x2 x3 x4 u0 h; exact h.elim
  | succ n ih => intro x2 x3 x4 u0 h; exact kX12_wrongSeen_l62 hC hR0 hR  ih h
def qX12_wrongSeen (x1 : Int32) (x2 : Int32) (x3 : Int32) (u0 : St) (post : Int32 → St → Prop) : Prop := qX12_isFrom (x1).toInt64 (1 : Int64) (99 : Int64) (fun r_21 => ((r_21 = 0 → qX12_wrongSeen_b31 post u0) ∧ (¬ r_21 = 0 → qX12_isTray x2 (fun r_24 => ((r_24 = 0 → qX12_wrongSeen_b31 post u0) ∧ (¬ r_24 = 0 → qX12_isFrom (x3).toInt64 (0 : Int64) (20 : Int64) (fun r_27 => ((¬ r_27 = 0 → (vp_in x2 4 ∧ ((¬ (ga u0 6 (x2).toNatClampNeg) = (-1 : Int32) → (vp_in x2 4 ∧ ((((2 : Int32) * x3) ≤ (ga u0 6 (x2).toNatClampNeg) → ∃ n_32 : Nat, qX12_wrongSeen_L62 post n_32 x2 x3 (0 : Int32) u0) ∧ (¬ ((2 : Int32) * x3) ≤ (ga u0 6 (x2).toNatClampNeg) → post (3 : Int32) u0)))) ∧ ((ga u0 6 (x2).toNatClampNeg) = (-1 : Int32) → post (2 : Int32) u0)))) ∧ (r_27 = 0 → qX12_wrongSeen_b31 post u0)))))))))
set_option maxRecDepth 100000 in
set_option maxHeartbeats 4000000 in
theorem kX12_wrongSeen {C : Cx} {o0 : Nat} {a0 : Nat → Nat} (hC : Fx C cX12_wrongSeen 6 RX12) (hR0 : xR C = rm 2) {post : Int32 → St → Prop} (hR : RI C cX12_wrongSeen 6 (fun u : St => (wX12 o0 a0 (xy C) u [])) (fun r u => post r u)) {x1 : Int32} {x2 : Int32} {x3 : Int32} {u0 : St} (h : qX12_wrongSeen x1 x2 x3 u0 post) : G C 0 0 6 (wX12 o0 a0 (xy C) u0 []) 0 [(0, .ref o0), (1, .int x1), (2, .int x2), (3, .int x3)] [] := by
  refine g_iload_n (pc := 0) hC 1 dX12_wrongSeen_0 rfl rfl ?_
  refine g_i2l (pc := 1) hC dX12_wrongSeen_1 ?_
  refine g_lconst (pc := 2) (v := 1) hC dX12_wrongSeen_2 (by decide) ?_
  refine g_ldc2 (pc := 3) hC cn_X12_313 dX12_wrongSeen_3 ?_
  refine g_callS_i (pc := 6) (wd := fun (_ : Unit) Y => Y) (F := fun Z => Z) (X := []) (As := [.long (x1).toInt64, .long (1 : Int64), .long (99 : Int64)]) (rest := []) (u := ()) hC (fun _ _ => rfl) (fun _ => rfl) (ctX12_isFrom h) wvX12_isFrom ml_X12_315 rfl (rmok hR0 rfl) ⟨Nat.zero_le _, Nat.zero_le _⟩ rfl (Nat.le_of_ble_eq_true rfl) dX12_wrongSeen_6 (fun r_21 u_22 h => ?_)
  refine g_if_eq (pc := 9) (tgt := 31) hC dX12_wrongSeen_9 (by decide) (fun c_23 => ?_) (fun c_23 => ?_)
  · have h := h.1 c_23
    refine g_sub (lv' := []) [] rfl ?_
    exact kX12_wrongSeen_b31 hC hR0 hR  h
  · have h := h.2 c_23
    refine g_iload_n (pc := 12) hC 2 dX12_wrongSeen_12 rfl rfl ?_
    refine g_callS_i (pc := 13) (wd := fun (_ : Unit) Y => Y) (F := fun Z => Z) (X := []) (As := [.int x2]) (rest := []) (u := ()) hC (fun _ _ => rfl) (fun _ => rfl) (ctX12_isTray h) wvX12_isTray ml_X12_99 rfl (rmok hR0 rfl) ⟨Nat.zero_le _, Nat.zero_le _⟩ rfl (Nat.le_of_ble_eq_true rfl) dX12_wrongSeen_13 (fun r_24 u_25 h => ?_)
    refine g_if_eq (pc := 16) (tgt := 31) hC dX12_wrongSeen_16 (by decide) (fun c_26 => ?_) (fun c_26 => ?_)
    · have h := h.1 c_26
      refine g_sub (lv' := []) [] rfl ?_
      exact kX12_wrongSeen_b31 hC hR0 hR  h
    · have h := h.2 c_26
      refine g_iload_n (pc := 19) hC 3 dX12_wrongSeen_19 rfl rfl ?_
      refine g_i2l (pc := 20) hC dX12_wrongSeen_20 ?_
      refine g_lconst (pc := 21) (v := 0) hC dX12_wrongSeen_21 (by decide) ?_
      refine g_ldc2 (pc := 22) hC cn_X12_400 dX12_wrongSeen_22 ?_
      refine g_callS_i (pc := 25) (wd := fun (_ : Unit) Y => Y) (F := fun Z => Z) (X := []) (As := [.long (x3).toInt64, .long (0 : Int64), .long (20 : Int64)]) (rest := []) (u := ()) hC (fun _ _ => rfl) (fun _ => rfl) (ctX12_isFrom h) wvX12_isFrom ml_X12_315 rfl (rmok hR0 rfl) ⟨Nat.zero_le _, Nat.zero_le _⟩ rfl (Nat.le_of_ble_eq_true rfl) dX12_wrongSeen_25 (fun r_27 u_28 h => ?_)
      refine g_if_ne (pc := 28) (tgt := 33) hC dX12_wrongSeen_28 (by decide) (fun c_29 => ?_) (fun c_29 => ?_)
      · have h := h.1 c_29
        refine g_aload_n (pc := 33) hC 0 dX12_wrongSeen_33 rfl rfl ?_
        refine getX12_6 (pc := 34) hC (F := fun Z => Z) (X := []) (fun _ => rfl) fl_X12_24 dX12_wrongSeen_34 ?_
        refine g_iload_n (pc := 37) hC 2 dX12_wrongSeen_37 rfl rfl ?_
        refine aldX12_6 (pc := 38) hC (F := fun Z => Z) (X := []) (fun _ => rfl) h.1 dX12_wrongSeen_38 ?_
        have h := h.2
        refine g_iconst (pc := 39) (v := -1) hC dX12_wrongSeen_39 (by decide) ?_
        refine g_icmp_ne (pc := 40) (tgt := 45) hC dX12_wrongSeen_40 (by decide) (fun c_30 => ?_) (fun c_30 => ?_)
        · have h := h.1 c_30
          refine g_aload_n (pc := 45) hC 0 dX12_wrongSeen_45 rfl rfl ?_
          refine getX12_6 (pc := 46) hC (F := fun Z => Z) (X := []) (fun _ => rfl) fl_X12_24 dX12_wrongSeen_46 ?_
          refine g_iload_n (pc := 49) hC 2 dX12_wrongSeen_49 rfl rfl ?_
          refine aldX12_6 (pc := 50) hC (F := fun Z => Z) (X := []) (fun _ => rfl) h.1 dX12_wrongSeen_50 ?_
          have h := h.2
          refine g_iconst (pc := 51) (v := 2) hC dX12_wrongSeen_51 (by decide) ?_
          refine g_iload_n (pc := 52) hC 3 dX12_wrongSeen_52 rfl rfl ?_
          refine g_imul (pc := 53) hC dX12_wrongSeen_53 ?_
          refine g_icmp_ge (pc := 54) (tgt := 59) hC dX12_wrongSeen_54 (by decide) (fun c_31 => ?_) (fun c_31 => ?_)
          · have h := h.1 c_31
            refine g_iconst (pc := 59) (v := 0) hC dX12_wrongSeen_59 (by decide) ?_
            refine g_istore (pc := 60) (lv' := [(4, .int (0 : Int32)), (0, .ref o0), (1, .int x1), (2, .int x2), (3, .int x3)]) hC dX12_wrongSeen_60 (Nat.le_of_ble_eq_true rfl) rfl ?_
            refine g_sub (lv' := [(0, .ref o0), (2, .int x2), (3, .int x3), (4, .int (0 : Int32))]) [1, 3, 4, 0] rfl ?_
            obtain ⟨n_32, h⟩ := h
            exact kX12_wrongSeen_L62 hC hR0 hR  n_32 _ _ _ _ h
          · have h := h.2 c_31
            refine g_iconst (pc := 57) (v := 3) hC dX12_wrongSeen_57 (by decide) ?_
            exact hR _ _ _ u0 dX12_wrongSeen_58 h
        · have h := h.2 c_30
          refine g_iconst (pc := 43) (v := 2) hC dX12_wrongSeen_43 (by decide) ?_
          exact hR _ _ _ u0 dX12_wrongSeen_44 h
      · have h := h.2 c_29
        refine g_sub (lv' := []) [] rfl ?_
        exact kX12_wrongSeen_b31 hC hR0 hR  h
theorem ctX12_wrongSeen {l : Launch} {D : va_G} {cy : Nat → ClassId} {kd : Nat → Nat} {o0 : Nat} {a0 : Nat → Nat} {x1 : Int32} {x2 : Int32} {x3 : Int32} {u0 : St} {post : Int32 → St → Prop} (h : qX12_wrongSeen x1 x2 x3 u0 post) : CtI l D cy kd yX12_wrongSeen cX12_wrongSeen 6 2 .int [.ref o0, .int x1, .int x2, .int x3] (fun u : St => (wX12 o0 a0 cy u [])) u0 (fun r u => post r u) := met_i (by decide) (Nat.le_of_ble_eq_true rfl) (fun C e1 e2 e3 e4 e5 hC hR => by subst e1 e2 e3 e4; exact kX12_wrongSeen hC e5 hR h)
theorem dX12_laysFits_0 : decode cX12_laysFits 0 = .ok (.iconst 0, 1) := by decide +kernel
theorem dX12_laysFits_1 : decode cX12_laysFits 1 = .ok (.istore 4, 2) := by decide +kernel
theorem dX12_laysFits_3 : decode cX12_laysFits 3 = .ok (.iconst 0, 1) := by decide +kernel
theorem dX12_laysFits_4 : decode cX12_laysFits 4 = .ok (.istore 5, 2) := by decide +kernel
theorem dX12_laysFits_6 : decode cX12_laysFits 6 = .ok (.iload 5, 2) := by decide +kernel
theorem dX12_laysFits_8 : decode cX12_laysFits 8 = .ok (.bipush 20, 2) := by decide +kernel
theorem dX12_laysFits_10 : decode cX12_laysFits 10 = .ok (.if_icmp .ge 99, 3) := by decide +kernel
theorem dX12_laysFits_13 : decode cX12_laysFits 13 = .ok (.aload_n 0, 1) := by decide +kernel
theorem dX12_laysFits_14 : decode cX12_laysFits 14 = .ok (.getfield 53, 3) := by decide +kernel
theorem dX12_laysFits_17 : decode cX12_laysFits 17 = .ok (.iload 5, 2) := by decide +kernel
theorem dX12_laysFits_19 : decode cX12_laysFits 19 = .ok (.iconst 1, 1) := by decide +kernel
theorem dX12_laysFits_20 : decode cX12_laysFits 20 = .ok (.bastore, 1) := by decide +kernel
theorem dX12_laysFits_21 : decode cX12_laysFits 21 = .ok (.iconst 0, 1) := by decide +kernel
theorem dX12_laysFits_22 : decode cX12_laysFits 22 = .ok (.istore 6, 2) := by decide +kernel
theorem dX12_laysFits_24 : decode cX12_laysFits 24 = .ok (.iload 6, 2) := by decide +kernel
theorem dX12_laysFits_26 : decode cX12_laysFits 26 = .ok (.iload_n 3, 1) := by decide +kernel
theorem dX12_laysFits_27 : decode cX12_laysFits 27 = .ok (.if_icmp .ge 56, 3) := by decide +kernel
theorem dX12_laysFits_30 : decode cX12_laysFits 30 = .ok (.bipush 60, 2) := by decide +kernel
theorem dX12_laysFits_32 : decode cX12_laysFits 32 = .ok (.iload_n 2, 1) := by decide +kernel
theorem dX12_laysFits_33 : decode cX12_laysFits 33 = .ok (.imul, 1) := by decide +kernel
theorem dX12_laysFits_34 : decode cX12_laysFits 34 = .ok (.iconst 2, 1) := by decide +kernel
theorem dX12_laysFits_35 : decode cX12_laysFits 35 = .ok (.iload 6, 2) := by decide +kernel
theorem dX12_laysFits_37 : decode cX12_laysFits 37 = .ok (.imul, 1) := by decide +kernel
theorem dX12_laysFits_38 : decode cX12_laysFits 38 = .ok (.iadd, 1) := by decide +kernel
theorem dX12_laysFits_39 : decode cX12_laysFits 39 = .ok (.istore 7, 2) := by decide +kernel
theorem dX12_laysFits_41 : decode cX12_laysFits 41 = .ok (.iload_n 1, 1) := by decide +kernel
theorem dX12_laysFits_42 : decode cX12_laysFits 42 = .ok (.iload 5, 2) := by decide +kernel
theorem dX12_laysFits_44 : decode cX12_laysFits 44 = .ok (.aload_n 0, 1) := by decide +kernel
theorem dX12_laysFits_45 : decode cX12_laysFits 45 = .ok (.getfield 27, 3) := by decide +kernel
theorem dX12_laysFits_48 : decode cX12_laysFits 48 = .ok (.iload 7, 2) := by decide +kernel
theorem dX12_laysFits_50 : decode cX12_laysFits 50 = .ok (.laload, 1) := by decide +kernel
theorem dX12_laysFits_51 : decode cX12_laysFits 51 = .ok (.l2i, 1) := by decide +kernel
theorem dX12_laysFits_52 : decode cX12_laysFits 52 = .ok (.invokestatic 402, 3) := by decide +kernel
theorem dX12_laysFits_55 : decode cX12_laysFits 55 = .ok (.i2l, 1) := by decide +kernel
theorem dX12_laysFits_56 : decode cX12_laysFits 56 = .ok (.aload_n 0, 1) := by decide +kernel
theorem dX12_laysFits_57 : decode cX12_laysFits 57 = .ok (.getfield 27, 3) := by decide +kernel
theorem dX12_laysFits_60 : decode cX12_laysFits 60 = .ok (.iload 7, 2) := by decide +kernel
theorem dX12_laysFits_62 : decode cX12_laysFits 62 = .ok (.iconst 1, 1) := by decide +kernel
theorem dX12_laysFits_63 : decode cX12_laysFits 63 = .ok (.iadd, 1) := by decide +kernel
theorem dX12_laysFits_64 : decode cX12_laysFits 64 = .ok (.laload, 1) := by decide +kernel
theorem dX12_laysFits_65 : decode cX12_laysFits 65 = .ok (.lcmp, 1) := by decide +kernel
theorem dX12_laysFits_66 : decode cX12_laysFits 66 = .ok (.ifCond .eq 11, 3) := by decide +kernel
theorem dX12_laysFits_69 : decode cX12_laysFits 69 = .ok (.aload_n 0, 1) := by decide +kernel
theorem dX12_laysFits_70 : decode cX12_laysFits 70 = .ok (.getfield 53, 3) := by decide +kernel
theorem dX12_laysFits_73 : decode cX12_laysFits 73 = .ok (.iload 5, 2) := by decide +kernel
theorem dX12_laysFits_75 : decode cX12_laysFits 75 = .ok (.iconst 0, 1) := by decide +kernel
theorem dX12_laysFits_76 : decode cX12_laysFits 76 = .ok (.bastore, 1) := by decide +kernel
theorem dX12_laysFits_77 : decode cX12_laysFits 77 = .ok (.iinc 6 1, 3) := by decide +kernel
theorem dX12_laysFits_80 : decode cX12_laysFits 80 = .ok (.goto (-56), 3) := by decide +kernel
theorem dX12_laysFits_83 : decode cX12_laysFits 83 = .ok (.iload 4, 2) := by decide +kernel
theorem dX12_laysFits_85 : decode cX12_laysFits 85 = .ok (.aload_n 0, 1) := by decide +kernel
theorem dX12_laysFits_86 : decode cX12_laysFits 86 = .ok (.getfield 53, 3) := by decide +kernel
theorem dX12_laysFits_89 : decode cX12_laysFits 89 = .ok (.iload 5, 2) := by decide +kernel
theorem dX12_laysFits_91 : decode cX12_laysFits 91 = .ok (.baload, 1) := by decide +kernel
theorem dX12_laysFits_92 : decode cX12_laysFits 92 = .ok (.ifCond .eq 7, 3) := by decide +kernel
theorem dX12_laysFits_95 : decode cX12_laysFits 95 = .ok (.iconst 1, 1) := by decide +kernel
theorem dX12_laysFits_96 : decode cX12_laysFits 96 = .ok (.goto 4, 3) := by decide +kernel
theorem dX12_laysFits_99 : decode cX12_laysFits 99 = .ok (.iconst 0, 1) := by decide +kernel
theorem dX12_laysFits_100 : decode cX12_laysFits 100 = .ok (.iadd, 1) := by decide +kernel
theorem dX12_laysFits_101 : decode cX12_laysFits 101 = .ok (.istore 4, 2) := by decide +kernel
theorem dX12_laysFits_103 : decode cX12_laysFits 103 = .ok (.iinc 5 1, 3) := by decide +kernel
theorem dX12_laysFits_106 : decode cX12_laysFits 106 = .ok (.goto (-100), 3) := by decide +kernel
theorem dX12_laysFits_109 : decode cX12_laysFits 109 = .ok (.iload 4, 2) := by decide +kernel
theorem dX12_laysFits_111 : decode cX12_laysFits 111 = .ok (.ireturn, 1) := by decide +kernel
def qX12_laysFits_b77  (post : Int32 → St → Prop) (K6 : Int32 → Int32 → Int32 → Int32 → Int32 → St → Prop) (K24 : Int32 → Int32 → Int32 → Int32 → Int32 → Int32 → St → Prop) (x1 : Int32) (x2 : Int32) (x3 : Int32) (x4 : Int32) (x5 : Int32) (x6 : Int32) (u0 : St) : Prop := ∀ x6_7 : Int32, x6_7 = x6 + (1 : Int32) → K24 x1 x2 x3 x4 x5 x6_7 u0
set_option maxRecDepth 100000 in
set_option maxHeartbeats 4000000 in
theorem kX12_laysFits_b77 {C : Cx} {o0 : Nat} {a0 : Nat → Nat} (hC : Fx C cX12_laysFits 8 RX12) (hR0 : xR C = rm 4) {post : Int32 → St → Prop} (hR : RI C cX12_laysFits 8 (fun u : St => (wX12 o0 a0 (xy C) u [])) (fun r u => post r u)) {K6 : Int32 → Int32 → Int32 → Int32 → Int32 → St → Prop} (hK6 : ∀ (x1 : Int32) (x2 : Int32) (x3 : Int32) (x4 : Int32) (x5 : Int32) (u0 : St), K6 x1 x2 x3 x4 x5 u0 → G C 0 0 8 (wX12 o0 a0 (xy C) u0 []) 6 [(0, .ref o0), (1, .int x1), (2, .int x2), (3, .int x3), (4, .int x4), (5, .int x5)] []) {K24 : Int32 → Int32 → Int32 → Int32 → Int32 → Int32 → St → Prop} (hK24 : ∀ (x1 : Int32) (x2 : Int32) (x3 : Int32) (x4 : Int32) (x5 : Int32) (x6 : Int32) (u0 : St), K24 x1 x2 x3 x4 x5 x6 u0 → G C 0 0 8 (wX12 o0 a0 (xy C) u0 []) 24 [(0, .ref o0), (1, .int x1), (2, .int x2), (3, .int x3), (4, .int x4), (5, .int x5), (6, .int x6)] []) {x1 : Int32} {x2 : Int32} {x3 : Int32} {x4 : Int32} {x5 : Int32} {x6 : Int32} {u0 : St} (h : qX12_laysFits_b77 post K6 K24 x1 x2 x3 x4 x5 x6 u0) : G C 0 0 8 (wX12 o0 a0 (xy C) u0 []) 77 [(0, .ref o0), (1, .int x1), (2, .int x2), (3, .int x3), (4, .int x4), (5, .int x5), (6, .int x6)] [] := by
  obtain ⟨x6_7, ex6_7⟩ : ∃ z : Int32, z = x6 + (1 : Int32) := ⟨_, rfl⟩
  have h := h x6_7 ex6_7
  refine g_iinc (pc := 77) (v := x6_7) (lv' := [(6, .int x6_7), (0, .ref o0), (1, .int x1), (2, .int x2), (3, .int x3), (4, .int x4), (5, .int x5)]) hC 6 dX12_laysFits_77 rfl (by rw [ex6_7]; rfl) (Nat.le_of_ble_eq_true rfl) rfl ?_
  refine g_goto (pc := 80) (tgt := 24) hC dX12_laysFits_80 (by decide) ?_
  refine g_sub (lv' := [(0, .ref o0), (1, .int x1), (2, .int x2), (3, .int x3), (4, .int x4), (5, .int x5), (6, .int x6_7)]) [1, 2, 3, 4, 5, 6, 0] rfl ?_
  exact hK24 _ _ _ _ _ _ _ h
def qX12_laysFits_b100  (post : Int32 → St → Prop) (K6 : Int32 → Int32 → Int32 → Int32 → Int32 → St → Prop) (x1 : Int32) (x2 : Int32) (x3 : Int32) (x5 : Int32) (s0 : Int32) (s1 : Int32) (u0 : St) : Prop := ∀ x4_8 : Int32, x4_8 = (s1 + s0) → ∀ x5_9 : Int32, x5_9 = x5 + (1 : Int32) → K6 x1 x2 x3 x4_8 x5_9 u0
set_option maxRecDepth 100000 in
set_option maxHeartbeats 4000000 in
theorem kX12_laysFits_b100 {C : Cx} {o0 : Nat} {a0 : Nat → Nat} (hC : Fx C cX12_laysFits 8 RX12) (hR0 : xR C = rm 4) {post : Int32 → St → Prop} (hR : RI C cX12_laysFits 8 (fun u : St => (wX12 o0 a0 (xy C) u [])) (fun r u => post r u)) {K6 : Int32 → Int32 → Int32 → Int32 → Int32 → St → Prop} (hK6 : ∀ (x1 : Int32) (x2 : Int32) (x3 : Int32) (x4 : Int32) (x5 : Int32) (u0 : St), K6 x1 x2 x3 x4 x5 u0 → G C 0 0 8 (wX12 o0 a0 (xy C) u0 []) 6 [(0, .ref o0), (1, .int x1), (2, .int x2), (3, .int x3), (4, .int x4), (5, .int x5)] []) {x1 : Int32} {x2 : Int32} {x3 : Int32} {x5 : Int32} {s0 : Int32} {s1 : Int32} {u0 : St} (h : qX12_laysFits_b100 post K6 x1 x2 x3 x5 s0 s1 u0) : G C 0 0 8 (wX12 o0 a0 (xy C) u0 []) 100 [(0, .ref o0), (1, .int x1), (2, .int x2), (3, .int x3), (5, .int x5)] [.int s0, .int s1] := by
  refine g_iadd (pc := 100) hC dX12_laysFits_100 ?_
  refine g_topi (fun x4_8 ex4_8 => ?_)
  have h := h x4_8 ex4_8
  refine g_istore (pc := 101) (lv' := [(4, .int x4_8), (0, .ref o0), (1, .int x1), (2, .int x2), (3, .int x3), (5, .int x5)]) hC dX12_laysFits_101 (Nat.le_of_ble_eq_true rfl) rfl ?_
  obtain ⟨x5_9, ex5_9⟩ : ∃ z : Int32, z = x5 + (1 : Int32) := ⟨_, rfl⟩
  have h := h x5_9 ex5_9
  refine g_iinc (pc := 103) (v := x5_9) (lv' := [(5, .int x5_9), (4, .int x4_8), (0, .ref o0), (1, .int x1), (2, .int x2), (3, .int x3)]) hC 5 dX12_laysFits_103 rfl (by rw [ex5_9]; rfl) (Nat.le_of_ble_eq_true rfl) rfl ?_
  refine g_goto (pc := 106) (tgt := 6) hC dX12_laysFits_106 (by decide) ?_
  refine g_sub (lv' := [(0, .ref o0), (1, .int x1), (2, .int x2), (3, .int x3), (4, .int x4_8), (5, .int x5_9)]) [2, 3, 4, 5, 1, 0] rfl ?_
  exact hK6 _ _ _ _ _ _ h
def qX12_laysFits_b83  (post : Int32 → St → Prop) (K6 : Int32 → Int32 → Int32 → Int32 → Int32 → St → Prop) (x1 : Int32) (x2 : Int32) (x3 : Int32) (x4 : Int32) (x5 : Int32) (u0 : St) : Prop := (vp_in x5 20 ∧ (((ga u0 28 (x5).toNatClampNeg) = 0 → qX12_laysFits_b100 post K6 x1 x2 x3 x5 (0 : Int32) x4 u0) ∧ (¬ (ga u0 28 (x5).toNatClampNeg) = 0 → qX12_laysFits_b100 post K6 x1 x2 x3 x5 (1 : Int32) x4 u0)))
set_option maxRecDepth 100000 in
set_option maxHeartbeats 4000000 in
theorem kX12_laysFits_b83 {C : Cx} {o0 : Nat} {a0 : Nat → Nat} (hC : Fx C cX12_laysFits 8 RX12) (hR0 : xR C = rm 4) {post : Int32 → St → Prop} (hR : RI C cX12_laysFits 8 (fun u : St => (wX12 o0 a0 (xy C) u [])) (fun r u => post r u)) {K6 : Int32 → Int32 → Int32 → Int32 → Int32 → St → Prop} (hK6 : ∀ (x1 : Int32) (x2 : Int32) (x3 : Int32) (x4 : Int32) (x5 : Int32) (u0 : St), K6 x1 x2 x3 x4 x5 u0 → G C 0 0 8 (wX12 o0 a0 (xy C) u0 []) 6 [(0, .ref o0), (1, .int x1), (2, .int x2), (3, .int x3), (4, .int x4), (5, .int x5)] []) {x1 : Int32} {x2 : Int32} {x3 : Int32} {x4 : Int32} {x5 : Int32} {u0 : St} (h : qX12_laysFits_b83 post K6 x1 x2 x3 x4 x5 u0) : G C 0 0 8 (wX12 o0 a0 (xy C) u0 []) 83 [(0, .ref o0), (1, .int x1), (2, .int x2), (3, .int x3), (4, .int x4), (5, .int x5)] [] := by
  refine g_iload (pc := 83) hC 4 dX12_laysFits_83 rfl ?_
  refine g_aload_n (pc := 85) hC 0 dX12_laysFits_85 rfl rfl ?_
  refine getX12_28 (pc := 86) hC (F := fun Z => Z) (X := []) (fun _ => rfl) fl_X12_53 dX12_laysFits_86 ?_
  refine g_iload (pc := 89) hC 5 dX12_laysFits_89 rfl ?_
  refine aldX12_28 (pc := 91) hC (F := fun Z => Z) (X := []) (fun _ => rfl) h.1 dX12_laysFits_91 ?_
  have h := h.2
  refine g_if_eq (pc := 92) (tgt := 99) hC dX12_laysFits_92 (by decide) (fun c_10 => ?_) (fun c_10 => ?_)
  · have h := h.1 c_10
    refine g_iconst (pc := 99) (v := 0) hC dX12_laysFits_99 (by decide) ?_
    refine g_sub (lv' := [(0, .ref o0), (1, .int x1), (2, .int x2), (3, .int x3), (5, .int x5)]) [0, 1, 2, 3, 5] rfl ?_
    exact kX12_laysFits_b100 hC hR0 hR hK6 h
  · have h := h.2 c_10
    refine g_iconst (pc := 95) (v := 1) hC dX12_laysFits_95 (by decide) ?_
    refine g_goto (pc := 96) (tgt := 100) hC dX12_laysFits_96 (by decide) ?_
    refine g_sub (lv' := [(0, .ref o0), (1, .int x1), (2, .int x2), (3, .int x3), (5, .int x5)]) [0, 1, 2, 3, 5] rfl ?_
    exact kX12_laysFits_b100 hC hR0 hR hK6 h
def qX12_laysFits_l24  (post : Int32 → St → Prop) (K6 : Int32 → Int32 → Int32 → Int32 → Int32 → St → Prop) (K24 : Int32 → Int32 → Int32 → Int32 → Int32 → Int32 → St → Prop) (x1 : Int32) (x2 : Int32) (x3 : Int32) (x4 : Int32) (x5 : Int32) (x6 : Int32) (u0 : St) : Prop := ((x3 ≤ x6 → qX12_laysFits_b83 post K6 x1 x2 x3 x4 x5 u0) ∧ (¬ x3 ≤ x6 → ∀ x7_12 : Int32, x7_12 = (((60 : Int32) * x2) + ((2 : Int32) * x6)) → (vp_in x7_12 240 ∧ qX12_leavesBy x1 x5 ((gl u0 7 (x7_12).toNatClampNeg)).toInt32 (fun r_13 => (vp_in (x7_12 + (1 : Int32)) 240 ∧ (((lg_cmp (r_13).toInt64 (gl u0 7 ((x7_12 + (1 : Int32))).toNatClampNeg)) = 0 → qX12_laysFits_b77 post K6 K24 x1 x2 x3 x4 x5 x6 u0) ∧ (¬ (lg_cmp (r_13).toInt64 (gl u0 7 ((x7_12 + (1 : Int32))).toNatClampNeg)) = 0 → (vp_in x5 20 ∧ ∀ u_16 : St, u_16 = (sw u0 28 (upd (ga u0 28) (x5).toNatClampNeg (vp_nar .boolean (0 : Int32)))) → qX12_laysFits_b77 post K6 K24 x1 x2 x3 x4 x5 x6 u_16))))))))
set_option maxRecDepth 100000 in
set_option maxHeartbeats 4000000 in
theorem kX12_laysFits_l24 {C : Cx} {o0 : Nat} {a0 : Nat → Nat} (hC : Fx C cX12_laysFits 8 RX12) (hR0 : xR C = rm 4) {post : Int32 → St → Prop} (hR : RI C cX12_laysFits 8 (fun u : St => (wX12 o0 a0 (xy C) u [])) (fun r u => post r u)) {K6 : Int32 → Int32 → Int32 → Int32 → Int32 → St → Prop} (hK6 : ∀ (x1 : Int32) (x2 : Int32) (x3 : Int32) (x4 : Int32) (x5 : Int32) (u0 : St), K6 x1 x2 x3 x4 x5 u0 → G C 0 0 8 (wX12 o0 a0 (xy C) u0 []) 6 [(0, .ref o0), (1, .int x1), (2, .int x2), (3, .int x3), (4, .int x4), (5, .int x5)] []) {K24 : Int32 → Int32 → Int32 → Int32 → Int32 → Int32 → St → Prop} (hK24 : ∀ (x1 : Int32) (x2 : Int32) (x3 : Int32) (x4 : Int32) (x5 : Int32) (x6 : Int32) (u0 : St), K24 x1 x2 x3 x4 x5 x6 u0 → G C 0 0 8 (wX12 o0 a0 (xy C) u0 []) 24 [(0, .ref o0), (1, .int x1), (2, .int x2), (3, .int x3), (4, .int x4), (5, .int x5), (6, .int x6)] []) {x1 : Int32} {x2 : Int32} {x3 : Int32} {x4 : Int32} {x5 : Int32} {x6 : Int32} {u0 : St} (h : qX12_laysFits_l24 post K6 K24 x1 x2 x3 x4 x5 x6 u0) : G C 0 0 8 (wX12 o0 a0 (xy C) u0 []) 24 [(0, .ref o0), (1, .int x1), (2, .int x2), (3, .int x3), (4, .int x4), (5, .int x5), (6, .int x6)] [] := by
  refine g_iload (pc := 24) hC 6 dX12_laysFits_24 rfl ?_
  refine g_iload_n (pc := 26) hC 3 dX12_laysFits_26 rfl rfl ?_
  refine g_icmp_ge (pc := 27) (tgt := 83) hC dX12_laysFits_27 (by decide) (fun c_11 => ?_) (fun c_11 => ?_)
  · have h := h.1 c_11
    refine g_sub (lv' := [(0, .ref o0), (1, .int x1), (2, .int x2), (3, .int x3), (4, .int x4), (5, .int x5)]) [0, 1, 2, 3, 4, 5] rfl ?_
    exact kX12_laysFits_b83 hC hR0 hR hK6 h
  · have h := h.2 c_11
    refine g_bipush (pc := 30) (v := 60) hC dX12_laysFits_30 (by decide) ?_
    refine g_iload_n (pc := 32) hC 2 dX12_laysFits_32 rfl rfl ?_
    refine g_imul (pc := 33) hC dX12_laysFits_33 ?_
    refine g_iconst (pc := 34) (v := 2) hC dX12_laysFits_34 (by decide) ?_
    refine g_iload (pc := 35) hC 6 dX12_laysFits_35 rfl ?_
    refine g_imul (pc := 37) hC dX12_laysFits_37 ?_
    refine g_iadd (pc := 38) hC dX12_laysFits_38 ?_
    refine g_topi (fun x7_12 ex7_12 => ?_)
    have h := h x7_12 ex7_12
    refine g_istore (pc := 39) (lv' := [(7, .int x7_12), (0, .ref o0), (1, .int x1), (2, .int x2), (3, .int x3), (4, .int x4), (5, .int x5), (6, .int x6)]) hC dX12_laysFits_39 (Nat.le_of_ble_eq_true rfl) rfl ?_
    refine g_iload_n (pc := 41) hC 2 dX12_laysFits_41 rfl rfl ?_
    refine g_iload (pc := 42) hC 6 dX12_laysFits_42 rfl ?_
    refine g_aload_n (pc := 44) hC 1 dX12_laysFits_44 rfl rfl ?_
    refine getX12_7 (pc := 45) hC (F := fun Z => Z) (X := []) (fun _ => rfl) fl_X12_27 dX12_laysFits_45 ?_
    refine g_iload (pc := 48) hC 0 dX12_laysFits_48 rfl ?_
    refine aldX12_7 (pc := 50) hC (F := fun Z => Z) (X := []) (fun _ => rfl) h.1 dX12_laysFits_50 ?_
    have h := h.2
    refine g_l2i (pc := 51) hC dX12_laysFits_51 ?_
    refine g_callS_i (pc := 52) (wd := fun (_ : Unit) Y => Y) (F := fun Z => Z) (X := []) (As := [.int x1, .int x5, .int ((gl u0 7 (x7_12).toNatClampNeg)).toInt32]) (rest := []) (u := ()) hC (fun _ _ => rfl) (fun _ => rfl) (ctX12_leavesBy h) wvX12_leavesBy ml_X12_402 rfl (rmok hR0 rfl) ⟨Nat.zero_le _, Nat.zero_le _⟩ rfl (Nat.le_of_ble_eq_true rfl) dX12_laysFits_52 (fun r_13 u_14 h => ?_)
    refine g_i2l (pc := 55) hC dX12_laysFits_55 ?_
    refine g_aload_n (pc := 56) hC 1 dX12_laysFits_56 rfl rfl ?_
    refine getX12_7 (pc := 57) hC (F := fun Z => Z) (X := []) (fun _ => rfl) fl_X12_27 dX12_laysFits_57 ?_
    refine g_iload (pc := 60) hC 0 dX12_laysFits_60 rfl ?_
    refine g_iconst (pc := 62) (v := 1) hC dX12_laysFits_62 (by decide) ?_
    refine g_iadd (pc := 63) hC dX12_laysFits_63 ?_
    refine aldX12_7 (pc := 64) hC (F := fun Z => Z) (X := []) (fun _ => rfl) h.1 dX12_laysFits_64 ?_
    have h := h.2
    refine g_lcmp (pc := 65) hC dX12_laysFits_65 ?_
    refine g_if_eq (pc := 66) (tgt := 77) hC dX12_laysFits_66 (by decide) (fun c_15 => ?_) (fun c_15 => ?_)
    · have h := h.1 c_15
      refine g_sub (lv' := [(0, .ref o0), (1, .int x1), (2, .int x2), (3, .int x3), (4, .int x4), (5, .int x5), (6, .int x6)]) [1, 2, 3, 4, 5, 6, 7] rfl ?_
      exact kX12_laysFits_b77 hC hR0 hR hK6 hK24 h
    · have h := h.2 c_15
      refine g_aload_n (pc := 69) hC 1 dX12_laysFits_69 rfl rfl ?_
      refine getX12_28 (pc := 70) hC (F := fun Z => Z) (X := []) (fun _ => rfl) fl_X12_53 dX12_laysFits_70 ?_
      refine g_iload (pc := 73) hC 6 dX12_laysFits_73 rfl ?_
      refine g_iconst (pc := 75) (v := 0) hC dX12_laysFits_75 (by decide) ?_
      refine astX12_28 (pc := 76) hC (F := fun Z => Z) (X := []) (fun _ => rfl) h.1 dX12_laysFits_76 ?_
      have h := h.2
      refine g_st (w := fun z => (wX12 o0 a0 (xy C) z [])) (u := (sw u0 28 (upd (ga u0 28) (x5).toNatClampNeg (vp_nar .boolean (0 : Int32))))) (fun u_16 eu_16 => ?_)
      have h := h u_16 eu_16
      refine g_sub (lv' := [(0, .ref o0), (1, .int x1), (2, .int x2), (3, .int x3), (4, .int x4), (5, .int x5), (6, .int x6)]) [1, 2, 3, 4, 5, 6, 7] rfl ?_
      exact kX12_laysFits_b77 hC hR0 hR hK6 hK24 h
def qX12_laysFits_L24  (post : Int32 → St → Prop) (K6 : Int32 → Int32 → Int32 → Int32 → Int32 → St → Prop) : Nat → Int32 → Int32 → Int32 → Int32 → Int32 → Int32 → St → Prop
  | 0 => fun _ _ _ _ _ _ _ => False
  | n + 1 => qX12_laysFits_l24 post K6 (qX12_laysFits_L24 post K6 n)
theorem kX12_laysFits_L24 {C : Cx} {o0 : Nat} {a0 : Nat → Nat} (hC : Fx C cX12_laysFits 8 RX12) (hR0 : xR C = rm 4) {post : Int32 → St → Prop} (hR : RI C cX12_laysFits 8 (fun u : St => (wX12 o0 a0 (xy C) u [])) (fun r u => post r u)) {K6 : Int32 → Int32 → Int32 → Int32 → Int32 → St → Prop} (hK6 : ∀ (x1 : Int32) (x2 : Int32) (x3 : Int32) (x4 : Int32) (x5 : Int32) (u0 : St), K6 x1 x2 x3 x4 x5 u0 → G C 0 0 8 (wX12 o0 a0 (xy C) u0 []) 6 [(0, .ref o0), (1, .int x1), (2, .int x2), (3, .int x3), (4, .int x4), (5, .int x5)] []) : ∀ (n : Nat) (x1 : Int32) (x2 : Int32) (x3 : Int32) (x4 : Int32) (x5 : Int32) (x6 : Int32) (u0 : St), qX12_laysFits_L24 post K6 n x1 x2 x3 x4 x5 x6 u0 → G C 0 0 8 (wX12 o0 a0 (xy C) u0 []) 24 [(0, .ref o0), (1, .int x1), (2, .int x2), (3, .int x3), (4, .int x4), (5, .int x5), (6, .int x6)] [] := by
  intro n
  induction n with
  | zero => intro x1 x2 x3 x4 x5 x6 u0 h; exact h.elim
  | succ n ih => intro x1 x2 x3 x4 x5 x6 u0 h; exact kX12_laysFits_l24 hC hR0 hR hK6 ih h
def qX12_laysFits_l6  (post : Int32 → St → Prop) (K6 : Int32 → Int32 → Int32 → Int32 → Int32 → St → Prop) (x1 : Int32) (x2 : Int32) (x3 : Int32) (x4 : Int32) (x5 : Int32) (u0 : St) : Prop := (((20 : Int32) ≤ x5 → post x4 u0) ∧ (¬ (20 : Int32) ≤ x5 → (vp_in x5 20 ∧ ∀ u_18 : St, u_18 = (sw u0 28 (upd (ga u0 28) (x5).toNatClampNeg (vp_nar .boolean (1 : Int32)))) → ∃ n_19 : Nat, qX12_laysFits_L24 post K6 n_19 x1 x2 x3 x4 x5 (0 : Int32) u_18)))
set_option maxRecDepth 100000 in
set_option maxHeartbeats 4000000 in
theorem kX12_laysFits_l6 {C : Cx} {o0 : Nat} {a0 : Nat → Nat} (hC : Fx C cX12_laysFits 8 RX12) (hR0 : xR C = rm 4) {post : Int32 → St → Prop} (hR : RI C cX12_laysFits 8 (fun u : St => (wX12 o0 a0 (xy C) u [])) (fun r u => post r u))  {K6 : Int32 → Int32 → Int32 → Int32 → Int32 → St → Prop} (hK6 : ∀ (x1 : Int32) (x2 : Int32) (x3 : Int32) (x4 : Int32) (x5 : Int32) (u0 : St), K6 x1 x2 x3 x4 x5 u0 → G C 0 0 8 (wX12 o0 a0 (xy C) u0 []) 6 [(0, .ref o0), (1, .int x1), (2, .int x2), (3, .int x3), (4, .int x4), (5, .int x5)] []) {x1 : Int32} {x2 : Int32} {x3 : Int32} {x4 : Int32} {x5 : Int32} {u0 : St} (h : qX12_laysFits_l6 post K6 x1 x2 x3 x4 x5 u0) : G C 0 0 8 (wX12 o0 a0 (xy C) u0 []) 6 [(0, .ref o0), (1, .int x1), (2, .int x2), (3, .int x3), (4, .int x4), (5, .int x5)] [] := by
  refine g_iload (pc := 6) hC 5 dX12_laysFits_6 rfl ?_
  refine g_bipush (pc := 8) (v := 20) hC dX12_laysFits_8 (by decide) ?_
  refine g_icmp_ge (pc := 10) (tgt := 109) hC dX12_laysFits_10 (by decide) (fun c_17 => ?_) (fun c_17 => ?_)
  · have h := h.1 c_17
    refine g_iload (pc := 109) hC 4 dX12_laysFits_109 rfl ?_
    exact hR _ _ _ u0 dX12_laysFits_111 h
  · have h := h.2 c_17
    refine g_aload_n (pc := 13) hC 0 dX12_laysFits_13 rfl rfl ?_
    refine getX12_28 (pc := 14) hC (F := fun Z => Z) (X := []) (fun _ => rfl) fl_X12_53 dX12_laysFits_14 ?_
    refine g_iload (pc := 17) hC 5 dX12_laysFits_17 rfl ?_
    refine g_iconst (pc := 19) (v := 1) hC dX12_laysFits_19 (by decide) ?_
    refine astX12_28 (pc := 20) hC (F := fun Z => Z) (X := []) (fun _ => rfl) h.1 dX12_laysFits_20 ?_
    have h := h.2
    refine g_st (w := fun z => (wX12 o0 a0 (xy C) z [])) (u := (sw u0 28 (upd (ga u0 28) (x5).toNatClampNeg (vp_nar .boolean (1 : Int32))))) (fun u_18 eu_18 => ?_)
    have h := h u_18 eu_18
    refine g_iconst (pc := 21) (v := 0) hC dX12_laysFits_21 (by decide) ?_
    refine g_istore (pc := 22) (lv' := [(6, .int (0 : Int32)), (0, .ref o0), (1, .int x1), (2, .int x2), (3, .int x3), (4, .int x4), (5, .int x5)]) hC dX12_laysFits_22 (Nat.le_of_ble_eq_true rfl) rfl ?_
    refine g_sub (lv' := [(0, .ref o0), (1, .int x1), (2, .int x2), (3, .int x3), (4, .int x4), (5, .int x5), (6, .int (0 : Int32))]) [1, 2, 3, 4, 5, 6, 0] rfl ?_
    obtain ⟨n_19, h⟩ := h
    exact kX12_laysFits_L24 hC hR0 hR hK6 n_19 _ _ _ _ _ _ _ h
def qX12_laysFits_L6  (post : Int32 → St → Prop)  : Nat → Int32 → Int32 → Int32 → Int32 → Int32 → St → Prop
  | 0 => fun _ _ _ _ _ _ => False
  | n + 1 => qX12_laysFits_l6 post (qX12_laysFits_L6 post n)
theorem kX12_laysFits_L6 {C : Cx} {o0 : Nat} {a0 : Nat → Nat} (hC : Fx C cX12_laysFits 8 RX12) (hR0 : xR C = rm 4) {post : Int32 → St → Prop} (hR : RI C cX12_laysFits 8 (fun u : St => (wX12 o0 a0 (xy C) u [])) (fun r u => post r u))  : ∀ (n : Nat) (x1 : Int32) (x2 : Int32) (x3 : Int32) (x4 : Int32) (x5 : Int32) (u0 : St), qX12_laysFits_L6 post n x1 x2 x3 x4 x5 u0 → G C 0 0 8 (wX12 o0 a0 (xy C) u0 []) 6 [(0, .ref o0), (1, .int x1), (2, .int x2), (3, .int x3), (4, .int x4), (5, .int x5)] [] := by
  intro n
  induction n with
  | zero => intro x1 x2 x3 x4 x5 u0 h; exact h.elim
  | succ n ih => intro x1 x2 x3 x4 x5 u0 h; exact kX12_laysFits_l6 hC hR0 hR  ih h
def qX12_laysFits (x1 : Int32) (x2 : Int32) (x3 : Int32) (u0 : St) (post : Int32 → St → Prop) : Prop := ∃ n_20 : Nat, qX12_laysFits_L6 post n_20 x1 x2 x3 (0 : Int32) (0 : Int32) u0
set_option maxRecDepth 100000 in
set_option maxHeartbeats 4000000 in
theorem kX12_laysFits {C : Cx} {o0 : Nat} {a0 : Nat → Nat} (hC : Fx C cX12_laysFits 8 RX12) (hR0 : xR C = rm 4) {post : Int32 → St → Prop} (hR : RI C cX12_laysFits 8 (fun u : St => (wX12 o0 a0 (xy C) u [])) (fun r u => post r u)) {x1 : Int32} {x2 : Int32} {x3 : Int32} {u0 : St} (h : qX12_laysFits x1 x2 x3 u0 post) : G C 0 0 8 (wX12 o0 a0 (xy C) u0 []) 0 [(0, .ref o0), (1, .int x1), (2, .int x2), (3, .int x3)] [] := by
  refine g_iconst (pc := 0) (v := 0) hC dX12_laysFits_0 (by decide) ?_
  refine g_istore (pc := 1) (lv' := [(4, .int (0 : Int32)), (0, .ref o0), (1, .int x1), (2, .int x2), (3, .int x3)]) hC dX12_laysFits_1 (Nat.le_of_ble_eq_true rfl) rfl ?_
  refine g_iconst (pc := 3) (v := 0) hC dX12_laysFits_3 (by decide) ?_
  refine g_istore (pc := 4) (lv' := [(5, .int (0 : Int32)), (4, .int (0 : Int32)), (0, .ref o0), (1, .int x1), (2, .int x2), (3, .int x3)]) hC dX12_laysFits_4 (Nat.le_of_ble_eq_true rfl) rfl ?_
  refine g_sub (lv' := [(0, .ref o0), (1, .int x1), (2, .int x2), (3, .int x3), (4, .int (0 : Int32)), (5, .int (0 : Int32))]) [2, 3, 4, 5, 1, 0] rfl ?_
  obtain ⟨n_20, h⟩ := h
  exact kX12_laysFits_L6 hC hR0 hR  n_20 _ _ _ _ _ _ h
theorem ctX12_laysFits {l : Launch} {D : va_G} {cy : Nat → ClassId} {kd : Nat → Nat} {o0 : Nat} {a0 : Nat → Nat} {x1 : Int32} {x2 : Int32} {x3 : Int32} {u0 : St} {post : Int32 → St → Prop} (h : qX12_laysFits x1 x2 x3 u0 post) : CtI l D cy kd yX12_laysFits cX12_laysFits 8 4 .int [.ref o0, .int x1, .int x2, .int x3] (fun u : St => (wX12 o0 a0 cy u [])) u0 (fun r u => post r u) := met_i (by decide) (Nat.le_of_ble_eq_true rfl) (fun C e1 e2 e3 e4 e5 hC hR => by subst e1 e2 e3 e4; exact kX12_laysFits hC e5 hR h)
theorem dX12_fits_0 : decode cX12_fits 0 = .ok (.aload_n 0, 1) := by decide +kernel
theorem dX12_fits_1 : decode cX12_fits 1 = .ok (.iload_n 1, 1) := by decide +kernel
theorem dX12_fits_2 : decode cX12_fits 2 = .ok (.iload_n 2, 1) := by decide +kernel
theorem dX12_fits_3 : decode cX12_fits 3 = .ok (.iload_n 3, 1) := by decide +kernel
theorem dX12_fits_4 : decode cX12_fits 4 = .ok (.invokevirtual 405, 3) := by decide +kernel
theorem dX12_fits_7 : decode cX12_fits 7 = .ok (.istore 4, 2) := by decide +kernel
theorem dX12_fits_9 : decode cX12_fits 9 = .ok (.iload 4, 2) := by decide +kernel
theorem dX12_fits_11 : decode cX12_fits 11 = .ok (.ifCond .le 12, 3) := by decide +kernel
theorem dX12_fits_14 : decode cX12_fits 14 = .ok (.aload_n 0, 1) := by decide +kernel
theorem dX12_fits_15 : decode cX12_fits 15 = .ok (.iload 4, 2) := by decide +kernel
theorem dX12_fits_17 : decode cX12_fits 17 = .ok (.invokevirtual 88, 3) := by decide +kernel
theorem dX12_fits_20 : decode cX12_fits 20 = .ok (.goto 14, 3) := by decide +kernel
theorem dX12_fits_23 : decode cX12_fits 23 = .ok (.aload_n 0, 1) := by decide +kernel
theorem dX12_fits_24 : decode cX12_fits 24 = .ok (.aload_n 0, 1) := by decide +kernel
theorem dX12_fits_25 : decode cX12_fits 25 = .ok (.iload_n 1, 1) := by decide +kernel
theorem dX12_fits_26 : decode cX12_fits 26 = .ok (.iload_n 2, 1) := by decide +kernel
theorem dX12_fits_27 : decode cX12_fits 27 = .ok (.iload_n 3, 1) := by decide +kernel
theorem dX12_fits_28 : decode cX12_fits 28 = .ok (.invokevirtual 408, 3) := by decide +kernel
theorem dX12_fits_31 : decode cX12_fits 31 = .ok (.invokevirtual 92, 3) := by decide +kernel
theorem dX12_fits_34 : decode cX12_fits 34 = .ok (.ireturn, 1) := by decide +kernel
def qX12_fits_b34  (post : Int32 → St → Prop)  (s0 : Int32) (u0 : St) : Prop := post s0 u0
set_option maxRecDepth 100000 in
set_option maxHeartbeats 4000000 in
theorem kX12_fits_b34 {C : Cx} {o0 : Nat} {a0 : Nat → Nat} (hC : Fx C cX12_fits 5 RX12) (hR0 : xR C = rm 5) {post : Int32 → St → Prop} (hR : RI C cX12_fits 5 (fun u : St => (wX12 o0 a0 (xy C) u [])) (fun r u => post r u))  {s0 : Int32} {u0 : St} (h : qX12_fits_b34 post s0 u0) : G C 0 0 5 (wX12 o0 a0 (xy C) u0 []) 34 [] [.int s0] := by
  exact hR _ _ _ u0 dX12_fits_34 h
def qX12_fits (x1 : Int32) (x2 : Int32) (x3 : Int32) (u0 : St) (post : Int32 → St → Prop) : Prop := qX12_wrongSeen x1 x2 x3 u0 (fun r_14 u_13 => ((r_14 ≤ 0 → qX12_laysFits x1 x2 x3 u_13 (fun r_18 u_17 => qX12_gives r_18 u_17 (fun r_21 u_20 => qX12_fits_b34 post r_21 u_20))) ∧ (¬ r_14 ≤ 0 → qX12_refuse r_14 u_13 (fun r_24 u_23 => qX12_fits_b34 post r_24 u_23))))
set_option maxRecDepth 100000 in
set_option maxHeartbeats 4000000 in
theorem kX12_fits {C : Cx} {o0 : Nat} {a0 : Nat → Nat} (hC : Fx C cX12_fits 5 RX12) (hR0 : xR C = rm 5) {post : Int32 → St → Prop} (hR : RI C cX12_fits 5 (fun u : St => (wX12 o0 a0 (xy C) u [])) (fun r u => post r u)) {x1 : Int32} {x2 : Int32} {x3 : Int32} {u0 : St} (h : qX12_fits x1 x2 x3 u0 post) : G C 0 0 5 (wX12 o0 a0 (xy C) u0 []) 0 [(0, .ref o0), (1, .int x1), (2, .int x2), (3, .int x3)] [] := by
  refine g_aload_n (pc := 0) hC 0 dX12_fits_0 rfl rfl ?_
  refine g_iload_n (pc := 1) hC 1 dX12_fits_1 rfl rfl ?_
  refine g_iload_n (pc := 2) hC 2 dX12_fits_2 rfl rfl ?_
  refine g_iload_n (pc := 3) hC 3 dX12_fits_3 rfl rfl ?_
  refine g_callV_i (pc := 4) (wd := fun (u : St) Y => (wX12 o0 a0 (xy C) u Y)) (F := fun Z => Z) (X := []) (As := [.int x1, .int x2, .int x3]) (rest := []) (u := u0) hC (fun _ _ => rfl) (fun _ => rfl) (ctX12_wrongSeen h) wvX12_wrongSeen ml_X12_405 (ci := 10) (q0 := 0) rfl rfl rfl rfl (rmok hR0 rfl) ⟨Nat.zero_le _, Nat.zero_le _⟩ rfl (Nat.le_of_ble_eq_true rfl) dX12_fits_4 (fun r_14 u_13 h => ?_)
  refine g_istore (pc := 7) (lv' := [(4, .int r_14), (0, .ref o0), (1, .int x1), (2, .int x2), (3, .int x3)]) hC dX12_fits_7 (Nat.le_of_ble_eq_true rfl) rfl ?_
  refine g_iload (pc := 9) hC 0 dX12_fits_9 rfl ?_
  refine g_if_le (pc := 11) (tgt := 23) hC dX12_fits_11 (by decide) (fun c_16 => ?_) (fun c_16 => ?_)
  · have h := h.1 c_16
    refine g_aload_n (pc := 23) hC 1 dX12_fits_23 rfl rfl ?_
    refine g_aload_n (pc := 24) hC 1 dX12_fits_24 rfl rfl ?_
    refine g_iload_n (pc := 25) hC 2 dX12_fits_25 rfl rfl ?_
    refine g_iload_n (pc := 26) hC 3 dX12_fits_26 rfl rfl ?_
    refine g_iload_n (pc := 27) hC 4 dX12_fits_27 rfl rfl ?_
    refine g_callV_i (pc := 28) (wd := fun (u : St) Y => (wX12 o0 a0 (xy C) u Y)) (F := fun Z => Z) (X := []) (As := [.int x1, .int x2, .int x3]) (rest := [.ref o0]) (u := u_13) hC (fun _ _ => rfl) (fun _ => rfl) (ctX12_laysFits h) wvX12_laysFits ml_X12_408 (ci := 10) (q0 := 0) rfl rfl rfl rfl (rmok hR0 rfl) ⟨Nat.zero_le _, Nat.zero_le _⟩ rfl (Nat.le_of_ble_eq_true rfl) dX12_fits_28 (fun r_18 u_17 h => ?_)
    refine g_callV_i (pc := 31) (wd := fun (u : St) Y => (wX12 o0 a0 (xy C) u Y)) (F := fun Z => Z) (X := []) (As := [.int r_18]) (rest := []) (u := u_17) hC (fun _ _ => rfl) (fun _ => rfl) (ctX12_gives h) wvX12_gives ml_X12_92 (ci := 10) (q0 := 0) rfl rfl rfl rfl (rmok hR0 rfl) ⟨Nat.zero_le _, Nat.zero_le _⟩ rfl (Nat.le_of_ble_eq_true rfl) dX12_fits_31 (fun r_21 u_20 h => ?_)
    refine g_sub (lv' := []) [] rfl ?_
    exact kX12_fits_b34 hC hR0 hR  h
  · have h := h.2 c_16
    refine g_aload_n (pc := 14) hC 1 dX12_fits_14 rfl rfl ?_
    refine g_iload (pc := 15) hC 0 dX12_fits_15 rfl ?_
    refine g_callV_i (pc := 17) (wd := fun (u : St) Y => (wX12 o0 a0 (xy C) u Y)) (F := fun Z => Z) (X := []) (As := [.int r_14]) (rest := []) (u := u_13) hC (fun _ _ => rfl) (fun _ => rfl) (ctX12_refuse h) wvX12_refuse ml_X12_88 (ci := 10) (q0 := 0) rfl rfl rfl rfl (rmok hR0 rfl) ⟨Nat.zero_le _, Nat.zero_le _⟩ rfl (Nat.le_of_ble_eq_true rfl) dX12_fits_17 (fun r_24 u_23 h => ?_)
    refine g_goto (pc := 20) (tgt := 34) hC dX12_fits_20 (by decide) ?_
    refine g_sub (lv' := []) [] rfl ?_
    exact kX12_fits_b34 hC hR0 hR  h
theorem ctX12_fits {l : Launch} {D : va_G} {cy : Nat → ClassId} {kd : Nat → Nat} {o0 : Nat} {a0 : Nat → Nat} {x1 : Int32} {x2 : Int32} {x3 : Int32} {u0 : St} {post : Int32 → St → Prop} (h : qX12_fits x1 x2 x3 u0 post) : CtI l D cy kd yX12_fits cX12_fits 5 5 .int [.ref o0, .int x1, .int x2, .int x3] (fun u : St => (wX12 o0 a0 cy u [])) u0 (fun r u => post r u) := met_i (by decide) (Nat.le_of_ble_eq_true rfl) (fun C e1 e2 e3 e4 e5 hC hR => by subst e1 e2 e3 e4; exact kX12_fits hC e5 hR h)
theorem dX12_fitsAt_0 : decode cX12_fitsAt 0 = .ok (.iload 4, 2) := by decide +kernel
theorem dX12_fitsAt_2 : decode cX12_fitsAt 2 = .ok (.ifCond .ge 7, 3) := by decide +kernel
theorem dX12_fitsAt_5 : decode cX12_fitsAt 5 = .ok (.iconst 1, 1) := by decide +kernel
theorem dX12_fitsAt_6 : decode cX12_fitsAt 6 = .ok (.goto 10, 3) := by decide +kernel
theorem dX12_fitsAt_9 : decode cX12_fitsAt 9 = .ok (.aload_n 0, 1) := by decide +kernel
theorem dX12_fitsAt_10 : decode cX12_fitsAt 10 = .ok (.iload_n 1, 1) := by decide +kernel
theorem dX12_fitsAt_11 : decode cX12_fitsAt 11 = .ok (.iload_n 2, 1) := by decide +kernel
theorem dX12_fitsAt_12 : decode cX12_fitsAt 12 = .ok (.iload_n 3, 1) := by decide +kernel
theorem dX12_fitsAt_13 : decode cX12_fitsAt 13 = .ok (.invokevirtual 405, 3) := by decide +kernel
theorem dX12_fitsAt_16 : decode cX12_fitsAt 16 = .ok (.istore 5, 2) := by decide +kernel
theorem dX12_fitsAt_18 : decode cX12_fitsAt 18 = .ok (.iload 5, 2) := by decide +kernel
theorem dX12_fitsAt_20 : decode cX12_fitsAt 20 = .ok (.ifCond .le 10, 3) := by decide +kernel
theorem dX12_fitsAt_23 : decode cX12_fitsAt 23 = .ok (.aload_n 0, 1) := by decide +kernel
theorem dX12_fitsAt_24 : decode cX12_fitsAt 24 = .ok (.iload 5, 2) := by decide +kernel
theorem dX12_fitsAt_26 : decode cX12_fitsAt 26 = .ok (.invokevirtual 88, 3) := by decide +kernel
theorem dX12_fitsAt_29 : decode cX12_fitsAt 29 = .ok (.ireturn, 1) := by decide +kernel
theorem dX12_fitsAt_30 : decode cX12_fitsAt 30 = .ok (.aload_n 0, 1) := by decide +kernel
theorem dX12_fitsAt_31 : decode cX12_fitsAt 31 = .ok (.iload_n 1, 1) := by decide +kernel
theorem dX12_fitsAt_32 : decode cX12_fitsAt 32 = .ok (.iload_n 2, 1) := by decide +kernel
theorem dX12_fitsAt_33 : decode cX12_fitsAt 33 = .ok (.iload_n 3, 1) := by decide +kernel
theorem dX12_fitsAt_34 : decode cX12_fitsAt 34 = .ok (.invokevirtual 408, 3) := by decide +kernel
theorem dX12_fitsAt_37 : decode cX12_fitsAt 37 = .ok (.pop, 1) := by decide +kernel
theorem dX12_fitsAt_38 : decode cX12_fitsAt 38 = .ok (.iload 4, 2) := by decide +kernel
theorem dX12_fitsAt_40 : decode cX12_fitsAt 40 = .ok (.istore 6, 2) := by decide +kernel
theorem dX12_fitsAt_42 : decode cX12_fitsAt 42 = .ok (.iconst 0, 1) := by decide +kernel
theorem dX12_fitsAt_43 : decode cX12_fitsAt 43 = .ok (.istore 7, 2) := by decide +kernel
theorem dX12_fitsAt_45 : decode cX12_fitsAt 45 = .ok (.iload 7, 2) := by decide +kernel
theorem dX12_fitsAt_47 : decode cX12_fitsAt 47 = .ok (.bipush 20, 2) := by decide +kernel
theorem dX12_fitsAt_49 : decode cX12_fitsAt 49 = .ok (.if_icmp .ge 37, 3) := by decide +kernel
theorem dX12_fitsAt_52 : decode cX12_fitsAt 52 = .ok (.aload_n 0, 1) := by decide +kernel
theorem dX12_fitsAt_53 : decode cX12_fitsAt 53 = .ok (.getfield 53, 3) := by decide +kernel
theorem dX12_fitsAt_56 : decode cX12_fitsAt 56 = .ok (.iload 7, 2) := by decide +kernel
theorem dX12_fitsAt_58 : decode cX12_fitsAt 58 = .ok (.baload, 1) := by decide +kernel
theorem dX12_fitsAt_59 : decode cX12_fitsAt 59 = .ok (.ifCond .ne 6, 3) := by decide +kernel
theorem dX12_fitsAt_62 : decode cX12_fitsAt 62 = .ok (.goto 18, 3) := by decide +kernel
theorem dX12_fitsAt_65 : decode cX12_fitsAt 65 = .ok (.iload 6, 2) := by decide +kernel
theorem dX12_fitsAt_67 : decode cX12_fitsAt 67 = .ok (.ifCond .ne 10, 3) := by decide +kernel
theorem dX12_fitsAt_70 : decode cX12_fitsAt 70 = .ok (.aload_n 0, 1) := by decide +kernel
theorem dX12_fitsAt_71 : decode cX12_fitsAt 71 = .ok (.iload 7, 2) := by decide +kernel
theorem dX12_fitsAt_73 : decode cX12_fitsAt 73 = .ok (.invokevirtual 92, 3) := by decide +kernel
theorem dX12_fitsAt_76 : decode cX12_fitsAt 76 = .ok (.ireturn, 1) := by decide +kernel
theorem dX12_fitsAt_77 : decode cX12_fitsAt 77 = .ok (.iinc 6 (-1), 3) := by decide +kernel
theorem dX12_fitsAt_80 : decode cX12_fitsAt 80 = .ok (.iinc 7 1, 3) := by decide +kernel
theorem dX12_fitsAt_83 : decode cX12_fitsAt 83 = .ok (.goto (-38), 3) := by decide +kernel
theorem dX12_fitsAt_86 : decode cX12_fitsAt 86 = .ok (.aload_n 0, 1) := by decide +kernel
theorem dX12_fitsAt_87 : decode cX12_fitsAt 87 = .ok (.bipush 6, 2) := by decide +kernel
theorem dX12_fitsAt_89 : decode cX12_fitsAt 89 = .ok (.invokevirtual 88, 3) := by decide +kernel
theorem dX12_fitsAt_92 : decode cX12_fitsAt 92 = .ok (.ireturn, 1) := by decide +kernel
def qX12_fitsAt_b70  (post : Int32 → St → Prop)  (x7 : Int32) (u0 : St) : Prop := qX12_gives x7 u0 (fun r_19 u_18 => post r_19 u_18)
set_option maxRecDepth 100000 in
set_option maxHeartbeats 4000000 in
theorem kX12_fitsAt_b70 {C : Cx} {o0 : Nat} {a0 : Nat → Nat} (hC : Fx C cX12_fitsAt 8 RX12) (hR0 : xR C = rm 5) {post : Int32 → St → Prop} (hR : RI C cX12_fitsAt 8 (fun u : St => (wX12 o0 a0 (xy C) u [])) (fun r u => post r u))  {x7 : Int32} {u0 : St} (h : qX12_fitsAt_b70 post x7 u0) : G C 0 0 8 (wX12 o0 a0 (xy C) u0 []) 70 [(0, .ref o0), (7, .int x7)] [] := by
  refine g_aload_n (pc := 70) hC 0 dX12_fitsAt_70 rfl rfl ?_
  refine g_iload (pc := 71) hC 1 dX12_fitsAt_71 rfl ?_
  refine g_callV_i (pc := 73) (wd := fun (u : St) Y => (wX12 o0 a0 (xy C) u Y)) (F := fun Z => Z) (X := []) (As := [.int x7]) (rest := []) (u := u0) hC (fun _ _ => rfl) (fun _ => rfl) (ctX12_gives h) wvX12_gives ml_X12_92 (ci := 10) (q0 := 0) rfl rfl rfl rfl (rmok hR0 rfl) ⟨Nat.zero_le _, Nat.zero_le _⟩ rfl (Nat.le_of_ble_eq_true rfl) dX12_fitsAt_73 (fun r_19 u_18 h => ?_)
  exact hR _ _ _ u_18 dX12_fitsAt_76 h
def qX12_fitsAt_b80  (post : Int32 → St → Prop) (K45 : Int32 → Int32 → St → Prop) (x6 : Int32) (x7 : Int32) (u0 : St) : Prop := ∀ x7_21 : Int32, x7_21 = x7 + (1 : Int32) → K45 x6 x7_21 u0
set_option maxRecDepth 100000 in
set_option maxHeartbeats 4000000 in
theorem kX12_fitsAt_b80 {C : Cx} {o0 : Nat} {a0 : Nat → Nat} (hC : Fx C cX12_fitsAt 8 RX12) (hR0 : xR C = rm 5) {post : Int32 → St → Prop} (hR : RI C cX12_fitsAt 8 (fun u : St => (wX12 o0 a0 (xy C) u [])) (fun r u => post r u)) {K45 : Int32 → Int32 → St → Prop} (hK45 : ∀ (x6 : Int32) (x7 : Int32) (u0 : St), K45 x6 x7 u0 → G C 0 0 8 (wX12 o0 a0 (xy C) u0 []) 45 [(0, .ref o0), (6, .int x6), (7, .int x7)] []) {x6 : Int32} {x7 : Int32} {u0 : St} (h : qX12_fitsAt_b80 post K45 x6 x7 u0) : G C 0 0 8 (wX12 o0 a0 (xy C) u0 []) 80 [(0, .ref o0), (6, .int x6), (7, .int x7)] [] := by
  obtain ⟨x7_21, ex7_21⟩ : ∃ z : Int32, z = x7 + (1 : Int32) := ⟨_, rfl⟩
  have h := h x7_21 ex7_21
  refine g_iinc (pc := 80) (v := x7_21) (lv' := [(7, .int x7_21), (0, .ref o0), (6, .int x6)]) hC 2 dX12_fitsAt_80 rfl (by rw [ex7_21]; rfl) (Nat.le_of_ble_eq_true rfl) rfl ?_
  refine g_goto (pc := 83) (tgt := 45) hC dX12_fitsAt_83 (by decide) ?_
  refine g_sub (lv' := [(0, .ref o0), (6, .int x6), (7, .int x7_21)]) [1, 2, 0] rfl ?_
  exact hK45 _ _ _ h
def qX12_fitsAt_b86  (post : Int32 → St → Prop)  (u0 : St) : Prop := qX12_refuse (6 : Int32) u0 (fun r_23 u_22 => post r_23 u_22)
set_option maxRecDepth 100000 in
set_option maxHeartbeats 4000000 in
theorem kX12_fitsAt_b86 {C : Cx} {o0 : Nat} {a0 : Nat → Nat} (hC : Fx C cX12_fitsAt 8 RX12) (hR0 : xR C = rm 5) {post : Int32 → St → Prop} (hR : RI C cX12_fitsAt 8 (fun u : St => (wX12 o0 a0 (xy C) u [])) (fun r u => post r u))  {u0 : St} (h : qX12_fitsAt_b86 post u0) : G C 0 0 8 (wX12 o0 a0 (xy C) u0 []) 86 [(0, .ref o0)] [] := by
  refine g_aload_n (pc := 86) hC 0 dX12_fitsAt_86 rfl rfl ?_
  refine g_bipush (pc := 87) (v := 6) hC dX12_fitsAt_87 (by decide) ?_
  refine g_callV_i (pc := 89) (wd := fun (u : St) Y => (wX12 o0 a0 (xy C) u Y)) (F := fun Z => Z) (X := []) (As := [.int (6 : Int32)]) (rest := []) (u := u0) hC (fun _ _ => rfl) (fun _ => rfl) (ctX12_refuse h) wvX12_refuse ml_X12_88 (ci := 10) (q0 := 0) rfl rfl rfl rfl (rmok hR0 rfl) ⟨Nat.zero_le _, Nat.zero_le _⟩ rfl (Nat.le_of_ble_eq_true rfl) dX12_fitsAt_89 (fun r_23 u_22 h => ?_)
  exact hR _ _ _ u_22 dX12_fitsAt_92 h
def qX12_fitsAt_l45  (post : Int32 → St → Prop) (K45 : Int32 → Int32 → St → Prop) (x6 : Int32) (x7 : Int32) (u0 : St) : Prop := (((20 : Int32) ≤ x7 → qX12_fitsAt_b86 post u0) ∧ (¬ (20 : Int32) ≤ x7 → (vp_in x7 20 ∧ ((¬ (ga u0 28 (x7).toNatClampNeg) = 0 → ((¬ x6 = 0 → ∀ x6_28 : Int32, x6_28 = x6 + (-1 : Int32) → qX12_fitsAt_b80 post K45 x6_28 x7 u0) ∧ (x6 = 0 → qX12_fitsAt_b70 post x7 u0))) ∧ ((ga u0 28 (x7).toNatClampNeg) = 0 → qX12_fitsAt_b80 post K45 x6 x7 u0)))))
set_option maxRecDepth 100000 in
set_option maxHeartbeats 4000000 in
theorem kX12_fitsAt_l45 {C : Cx} {o0 : Nat} {a0 : Nat → Nat} (hC : Fx C cX12_fitsAt 8 RX12) (hR0 : xR C = rm 5) {post : Int32 → St → Prop} (hR : RI C cX12_fitsAt 8 (fun u : St => (wX12 o0 a0 (xy C) u [])) (fun r u => post r u))  {K45 : Int32 → Int32 → St → Prop} (hK45 : ∀ (x6 : Int32) (x7 : Int32) (u0 : St), K45 x6 x7 u0 → G C 0 0 8 (wX12 o0 a0 (xy C) u0 []) 45 [(0, .ref o0), (6, .int x6), (7, .int x7)] []) {x6 : Int32} {x7 : Int32} {u0 : St} (h : qX12_fitsAt_l45 post K45 x6 x7 u0) : G C 0 0 8 (wX12 o0 a0 (xy C) u0 []) 45 [(0, .ref o0), (6, .int x6), (7, .int x7)] [] := by
  refine g_iload (pc := 45) hC 2 dX12_fitsAt_45 rfl ?_
  refine g_bipush (pc := 47) (v := 20) hC dX12_fitsAt_47 (by decide) ?_
  refine g_icmp_ge (pc := 49) (tgt := 86) hC dX12_fitsAt_49 (by decide) (fun c_25 => ?_) (fun c_25 => ?_)
  · have h := h.1 c_25
    refine g_sub (lv' := [(0, .ref o0)]) [0] rfl ?_
    exact kX12_fitsAt_b86 hC hR0 hR  h
  · have h := h.2 c_25
    refine g_aload_n (pc := 52) hC 0 dX12_fitsAt_52 rfl rfl ?_
    refine getX12_28 (pc := 53) hC (F := fun Z => Z) (X := []) (fun _ => rfl) fl_X12_53 dX12_fitsAt_53 ?_
    refine g_iload (pc := 56) hC 2 dX12_fitsAt_56 rfl ?_
    refine aldX12_28 (pc := 58) hC (F := fun Z => Z) (X := []) (fun _ => rfl) h.1 dX12_fitsAt_58 ?_
    have h := h.2
    refine g_if_ne (pc := 59) (tgt := 65) hC dX12_fitsAt_59 (by decide) (fun c_26 => ?_) (fun c_26 => ?_)
    · have h := h.1 c_26
      refine g_iload (pc := 65) hC 1 dX12_fitsAt_65 rfl ?_
      refine g_if_ne (pc := 67) (tgt := 77) hC dX12_fitsAt_67 (by decide) (fun c_27 => ?_) (fun c_27 => ?_)
      · have h := h.1 c_27
        obtain ⟨x6_28, ex6_28⟩ : ∃ z : Int32, z = x6 + (-1 : Int32) := ⟨_, rfl⟩
        have h := h x6_28 ex6_28
        refine g_iinc (pc := 77) (v := x6_28) (lv' := [(6, .int x6_28), (0, .ref o0), (7, .int x7)]) hC 1 dX12_fitsAt_77 rfl (by rw [ex6_28]; rfl) (Nat.le_of_ble_eq_true rfl) rfl ?_
        refine g_sub (lv' := [(0, .ref o0), (6, .int x6_28), (7, .int x7)]) [1, 0, 2] rfl ?_
        exact kX12_fitsAt_b80 hC hR0 hR hK45 h
      · have h := h.2 c_27
        refine g_sub (lv' := [(0, .ref o0), (7, .int x7)]) [0, 2] rfl ?_
        exact kX12_fitsAt_b70 hC hR0 hR  h
    · have h := h.2 c_26
      refine g_goto (pc := 62) (tgt := 80) hC dX12_fitsAt_62 (by decide) ?_
      exact kX12_fitsAt_b80 hC hR0 hR hK45 h
def qX12_fitsAt_L45  (post : Int32 → St → Prop)  : Nat → Int32 → Int32 → St → Prop
  | 0 => fun _ _ _ => False
  | n + 1 => qX12_fitsAt_l45 post (qX12_fitsAt_L45 post n)
theorem kX12_fitsAt_L45 {C : Cx} {o0 : Nat} {a0 : Nat → Nat} (hC : Fx C cX12_fitsAt 8 RX12) (hR0 : xR C = rm 5) {post : Int32 → St → Prop} (hR : RI C cX12_fitsAt 8 (fun u : St => (wX12 o0 a0 (xy C) u [])) (fun r u => post r u))  : ∀ (n : Nat) (x6 : Int32) (x7 : Int32) (u0 : St), qX12_fitsAt_L45 post n x6 x7 u0 → G C 0 0 8 (wX12 o0 a0 (xy C) u0 []) 45 [(0, .ref o0), (6, .int x6), (7, .int x7)] [] := by
  intro n
  induction n with
  | zero => intro x6 x7 u0 h; exact h.elim
  | succ n ih => intro x6 x7 u0 h; exact kX12_fitsAt_l45 hC hR0 hR  ih h
def qX12_fitsAt_b16  (post : Int32 → St → Prop)  (x1 : Int32) (x2 : Int32) (x3 : Int32) (x4 : Int32) (s0 : Int32) (u0 : St) : Prop := ((s0 ≤ 0 → qX12_laysFits x1 x2 x3 u0 (fun r_31 u_30 => ∃ n_33 : Nat, qX12_fitsAt_L45 post n_33 x4 (0 : Int32) u_30)) ∧ (¬ s0 ≤ 0 → qX12_refuse s0 u0 (fun r_35 u_34 => post r_35 u_34)))
set_option maxRecDepth 100000 in
set_option maxHeartbeats 4000000 in
theorem kX12_fitsAt_b16 {C : Cx} {o0 : Nat} {a0 : Nat → Nat} (hC : Fx C cX12_fitsAt 8 RX12) (hR0 : xR C = rm 5) {post : Int32 → St → Prop} (hR : RI C cX12_fitsAt 8 (fun u : St => (wX12 o0 a0 (xy C) u [])) (fun r u => post r u))  {x1 : Int32} {x2 : Int32} {x3 : Int32} {x4 : Int32} {s0 : Int32} {u0 : St} (h : qX12_fitsAt_b16 post x1 x2 x3 x4 s0 u0) : G C 0 0 8 (wX12 o0 a0 (xy C) u0 []) 16 [(0, .ref o0), (1, .int x1), (2, .int x2), (3, .int x3), (4, .int x4)] [.int s0] := by
  refine g_istore (pc := 16) (lv' := [(5, .int s0), (0, .ref o0), (1, .int x1), (2, .int x2), (3, .int x3), (4, .int x4)]) hC dX12_fitsAt_16 (Nat.le_of_ble_eq_true rfl) rfl ?_
  refine g_iload (pc := 18) hC 0 dX12_fitsAt_18 rfl ?_
  refine g_if_le (pc := 20) (tgt := 30) hC dX12_fitsAt_20 (by decide) (fun c_29 => ?_) (fun c_29 => ?_)
  · have h := h.1 c_29
    refine g_aload_n (pc := 30) hC 1 dX12_fitsAt_30 rfl rfl ?_
    refine g_iload_n (pc := 31) hC 2 dX12_fitsAt_31 rfl rfl ?_
    refine g_iload_n (pc := 32) hC 3 dX12_fitsAt_32 rfl rfl ?_
    refine g_iload_n (pc := 33) hC 4 dX12_fitsAt_33 rfl rfl ?_
    refine g_callV_i (pc := 34) (wd := fun (u : St) Y => (wX12 o0 a0 (xy C) u Y)) (F := fun Z => Z) (X := []) (As := [.int x1, .int x2, .int x3]) (rest := []) (u := u0) hC (fun _ _ => rfl) (fun _ => rfl) (ctX12_laysFits h) wvX12_laysFits ml_X12_408 (ci := 10) (q0 := 0) rfl rfl rfl rfl (rmok hR0 rfl) ⟨Nat.zero_le _, Nat.zero_le _⟩ rfl (Nat.le_of_ble_eq_true rfl) dX12_fitsAt_34 (fun r_31 u_30 h => ?_)
    refine g_pop (pc := 37) hC dX12_fitsAt_37 rfl ?_
    refine g_iload (pc := 38) hC 5 dX12_fitsAt_38 rfl ?_
    refine g_istore (pc := 40) (lv' := [(6, .int x4), (5, .int s0), (0, .ref o0), (1, .int x1), (2, .int x2), (3, .int x3), (4, .int x4)]) hC dX12_fitsAt_40 (Nat.le_of_ble_eq_true rfl) rfl ?_
    refine g_iconst (pc := 42) (v := 0) hC dX12_fitsAt_42 (by decide) ?_
    refine g_istore (pc := 43) (lv' := [(7, .int (0 : Int32)), (6, .int x4), (5, .int s0), (0, .ref o0), (1, .int x1), (2, .int x2), (3, .int x3), (4, .int x4)]) hC dX12_fitsAt_43 (Nat.le_of_ble_eq_true rfl) rfl ?_
    refine g_sub (lv' := [(0, .ref o0), (6, .int x4), (7, .int (0 : Int32))]) [3, 1, 0] rfl ?_
    obtain ⟨n_33, h⟩ := h
    exact kX12_fitsAt_L45 hC hR0 hR  n_33 _ _ _ h
  · have h := h.2 c_29
    refine g_aload_n (pc := 23) hC 1 dX12_fitsAt_23 rfl rfl ?_
    refine g_iload (pc := 24) hC 0 dX12_fitsAt_24 rfl ?_
    refine g_callV_i (pc := 26) (wd := fun (u : St) Y => (wX12 o0 a0 (xy C) u Y)) (F := fun Z => Z) (X := []) (As := [.int s0]) (rest := []) (u := u0) hC (fun _ _ => rfl) (fun _ => rfl) (ctX12_refuse h) wvX12_refuse ml_X12_88 (ci := 10) (q0 := 0) rfl rfl rfl rfl (rmok hR0 rfl) ⟨Nat.zero_le _, Nat.zero_le _⟩ rfl (Nat.le_of_ble_eq_true rfl) dX12_fitsAt_26 (fun r_35 u_34 h => ?_)
    exact hR _ _ _ u_34 dX12_fitsAt_29 h
def qX12_fitsAt (x1 : Int32) (x2 : Int32) (x3 : Int32) (x4 : Int32) (u0 : St) (post : Int32 → St → Prop) : Prop := ((0 ≤ x4 → qX12_wrongSeen x1 x2 x3 u0 (fun r_39 u_38 => qX12_fitsAt_b16 post x1 x2 x3 x4 r_39 u_38)) ∧ (¬ 0 ≤ x4 → qX12_fitsAt_b16 post x1 x2 x3 x4 (1 : Int32) u0))
set_option maxRecDepth 100000 in
set_option maxHeartbeats 4000000 in
theorem kX12_fitsAt {C : Cx} {o0 : Nat} {a0 : Nat → Nat} (hC : Fx C cX12_fitsAt 8 RX12) (hR0 : xR C = rm 5) {post : Int32 → St → Prop} (hR : RI C cX12_fitsAt 8 (fun u : St => (wX12 o0 a0 (xy C) u [])) (fun r u => post r u)) {x1 : Int32} {x2 : Int32} {x3 : Int32} {x4 : Int32} {u0 : St} (h : qX12_fitsAt x1 x2 x3 x4 u0 post) : G C 0 0 8 (wX12 o0 a0 (xy C) u0 []) 0 [(0, .ref o0), (1, .int x1), (2, .int x2), (3, .int x3), (4, .int x4)] [] := by
  refine g_iload (pc := 0) hC 4 dX12_fitsAt_0 rfl ?_
  refine g_if_ge (pc := 2) (tgt := 9) hC dX12_fitsAt_2 (by decide) (fun c_37 => ?_) (fun c_37 => ?_)
  · have h := h.1 c_37
    refine g_aload_n (pc := 9) hC 0 dX12_fitsAt_9 rfl rfl ?_
    refine g_iload_n (pc := 10) hC 1 dX12_fitsAt_10 rfl rfl ?_
    refine g_iload_n (pc := 11) hC 2 dX12_fitsAt_11 rfl rfl ?_
    refine g_iload_n (pc := 12) hC 3 dX12_fitsAt_12 rfl rfl ?_
    refine g_callV_i (pc := 13) (wd := fun (u : St) Y => (wX12 o0 a0 (xy C) u Y)) (F := fun Z => Z) (X := []) (As := [.int x1, .int x2, .int x3]) (rest := []) (u := u0) hC (fun _ _ => rfl) (fun _ => rfl) (ctX12_wrongSeen h) wvX12_wrongSeen ml_X12_405 (ci := 10) (q0 := 0) rfl rfl rfl rfl (rmok hR0 rfl) ⟨Nat.zero_le _, Nat.zero_le _⟩ rfl (Nat.le_of_ble_eq_true rfl) dX12_fitsAt_13 (fun r_39 u_38 h => ?_)
    exact kX12_fitsAt_b16 hC hR0 hR  h
  · have h := h.2 c_37
    refine g_iconst (pc := 5) (v := 1) hC dX12_fitsAt_5 (by decide) ?_
    refine g_goto (pc := 6) (tgt := 16) hC dX12_fitsAt_6 (by decide) ?_
    exact kX12_fitsAt_b16 hC hR0 hR  h
theorem ctX12_fitsAt {l : Launch} {D : va_G} {cy : Nat → ClassId} {kd : Nat → Nat} {o0 : Nat} {a0 : Nat → Nat} {x1 : Int32} {x2 : Int32} {x3 : Int32} {x4 : Int32} {u0 : St} {post : Int32 → St → Prop} (h : qX12_fitsAt x1 x2 x3 x4 u0 post) : CtI l D cy kd yX12_fitsAt cX12_fitsAt 8 5 .int [.ref o0, .int x1, .int x2, .int x3, .int x4] (fun u : St => (wX12 o0 a0 cy u [])) u0 (fun r u => post r u) := met_i (by decide) (Nat.le_of_ble_eq_true rfl) (fun C e1 e2 e3 e4 e5 hC hR => by subst e1 e2 e3 e4; exact kX12_fitsAt hC e5 hR h)
theorem dX12_mostAlike_0 : decode cX12_mostAlike 0 = .ok (.iconst 0, 1) := by decide +kernel
theorem dX12_mostAlike_1 : decode cX12_mostAlike 1 = .ok (.istore_n 3, 1) := by decide +kernel
theorem dX12_mostAlike_2 : decode cX12_mostAlike 2 = .ok (.iconst 0, 1) := by decide +kernel
theorem dX12_mostAlike_3 : decode cX12_mostAlike 3 = .ok (.istore 4, 2) := by decide +kernel
theorem dX12_mostAlike_5 : decode cX12_mostAlike 5 = .ok (.iload 4, 2) := by decide +kernel
theorem dX12_mostAlike_7 : decode cX12_mostAlike 7 = .ok (.bipush 20, 2) := by decide +kernel
theorem dX12_mostAlike_9 : decode cX12_mostAlike 9 = .ok (.if_icmp .ge 82, 3) := by decide +kernel
theorem dX12_mostAlike_12 : decode cX12_mostAlike 12 = .ok (.iconst 0, 1) := by decide +kernel
theorem dX12_mostAlike_13 : decode cX12_mostAlike 13 = .ok (.istore 5, 2) := by decide +kernel
theorem dX12_mostAlike_15 : decode cX12_mostAlike 15 = .ok (.iconst 0, 1) := by decide +kernel
theorem dX12_mostAlike_16 : decode cX12_mostAlike 16 = .ok (.istore 6, 2) := by decide +kernel
theorem dX12_mostAlike_18 : decode cX12_mostAlike 18 = .ok (.iload 6, 2) := by decide +kernel
theorem dX12_mostAlike_20 : decode cX12_mostAlike 20 = .ok (.bipush 20, 2) := by decide +kernel
theorem dX12_mostAlike_22 : decode cX12_mostAlike 22 = .ok (.if_icmp .ge 56, 3) := by decide +kernel
theorem dX12_mostAlike_25 : decode cX12_mostAlike 25 = .ok (.iload 5, 2) := by decide +kernel
theorem dX12_mostAlike_27 : decode cX12_mostAlike 27 = .ok (.aload_n 0, 1) := by decide +kernel
theorem dX12_mostAlike_28 : decode cX12_mostAlike 28 = .ok (.getfield 53, 3) := by decide +kernel
theorem dX12_mostAlike_31 : decode cX12_mostAlike 31 = .ok (.iload 4, 2) := by decide +kernel
theorem dX12_mostAlike_33 : decode cX12_mostAlike 33 = .ok (.baload, 1) := by decide +kernel
theorem dX12_mostAlike_34 : decode cX12_mostAlike 34 = .ok (.ifCond .eq 34, 3) := by decide +kernel
theorem dX12_mostAlike_37 : decode cX12_mostAlike 37 = .ok (.aload_n 0, 1) := by decide +kernel
theorem dX12_mostAlike_38 : decode cX12_mostAlike 38 = .ok (.getfield 53, 3) := by decide +kernel
theorem dX12_mostAlike_41 : decode cX12_mostAlike 41 = .ok (.iload 6, 2) := by decide +kernel
theorem dX12_mostAlike_43 : decode cX12_mostAlike 43 = .ok (.baload, 1) := by decide +kernel
theorem dX12_mostAlike_44 : decode cX12_mostAlike 44 = .ok (.ifCond .eq 24, 3) := by decide +kernel
theorem dX12_mostAlike_47 : decode cX12_mostAlike 47 = .ok (.iload_n 1, 1) := by decide +kernel
theorem dX12_mostAlike_48 : decode cX12_mostAlike 48 = .ok (.iload 4, 2) := by decide +kernel
theorem dX12_mostAlike_50 : decode cX12_mostAlike 50 = .ok (.iload_n 2, 1) := by decide +kernel
theorem dX12_mostAlike_51 : decode cX12_mostAlike 51 = .ok (.invokestatic 402, 3) := by decide +kernel
theorem dX12_mostAlike_54 : decode cX12_mostAlike 54 = .ok (.iload_n 1, 1) := by decide +kernel
theorem dX12_mostAlike_55 : decode cX12_mostAlike 55 = .ok (.iload 6, 2) := by decide +kernel
theorem dX12_mostAlike_57 : decode cX12_mostAlike 57 = .ok (.iload_n 2, 1) := by decide +kernel
theorem dX12_mostAlike_58 : decode cX12_mostAlike 58 = .ok (.invokestatic 402, 3) := by decide +kernel
theorem dX12_mostAlike_61 : decode cX12_mostAlike 61 = .ok (.if_icmp .ne 7, 3) := by decide +kernel
theorem dX12_mostAlike_64 : decode cX12_mostAlike 64 = .ok (.iconst 1, 1) := by decide +kernel
theorem dX12_mostAlike_65 : decode cX12_mostAlike 65 = .ok (.goto 4, 3) := by decide +kernel
theorem dX12_mostAlike_68 : decode cX12_mostAlike 68 = .ok (.iconst 0, 1) := by decide +kernel
theorem dX12_mostAlike_69 : decode cX12_mostAlike 69 = .ok (.iadd, 1) := by decide +kernel
theorem dX12_mostAlike_70 : decode cX12_mostAlike 70 = .ok (.istore 5, 2) := by decide +kernel
theorem dX12_mostAlike_72 : decode cX12_mostAlike 72 = .ok (.iinc 6 1, 3) := by decide +kernel
theorem dX12_mostAlike_75 : decode cX12_mostAlike 75 = .ok (.goto (-57), 3) := by decide +kernel
theorem dX12_mostAlike_78 : decode cX12_mostAlike 78 = .ok (.iload_n 3, 1) := by decide +kernel
theorem dX12_mostAlike_79 : decode cX12_mostAlike 79 = .ok (.iload 5, 2) := by decide +kernel
theorem dX12_mostAlike_81 : decode cX12_mostAlike 81 = .ok (.invokestatic 307, 3) := by decide +kernel
theorem dX12_mostAlike_84 : decode cX12_mostAlike 84 = .ok (.istore_n 3, 1) := by decide +kernel
theorem dX12_mostAlike_85 : decode cX12_mostAlike 85 = .ok (.iinc 4 1, 3) := by decide +kernel
theorem dX12_mostAlike_88 : decode cX12_mostAlike 88 = .ok (.goto (-83), 3) := by decide +kernel
theorem dX12_mostAlike_91 : decode cX12_mostAlike 91 = .ok (.iload_n 3, 1) := by decide +kernel
theorem dX12_mostAlike_92 : decode cX12_mostAlike 92 = .ok (.ireturn, 1) := by decide +kernel
def qX12_mostAlike_b69  (post : Int32 → St → Prop) (K5 : Int32 → Int32 → Int32 → Int32 → St → Prop) (K18 : Int32 → Int32 → Int32 → Int32 → Int32 → Int32 → St → Prop) (x1 : Int32) (x2 : Int32) (x3 : Int32) (x4 : Int32) (x6 : Int32) (s0 : Int32) (s1 : Int32) (u0 : St) : Prop := ∀ x5_7 : Int32, x5_7 = (s1 + s0) → ∀ x6_8 : Int32, x6_8 = x6 + (1 : Int32) → K18 x1 x2 x3 x4 x5_7 x6_8 u0
set_option maxRecDepth 100000 in
set_option maxHeartbeats 4000000 in
theorem kX12_mostAlike_b69 {C : Cx} {o0 : Nat} {a0 : Nat → Nat} (hC : Fx C cX12_mostAlike 7 RX12) (hR0 : xR C = rm 4) {post : Int32 → St → Prop} (hR : RI C cX12_mostAlike 7 (fun u : St => (wX12 o0 a0 (xy C) u [])) (fun r u => post r u)) {K5 : Int32 → Int32 → Int32 → Int32 → St → Prop} (hK5 : ∀ (x1 : Int32) (x2 : Int32) (x3 : Int32) (x4 : Int32) (u0 : St), K5 x1 x2 x3 x4 u0 → G C 0 0 7 (wX12 o0 a0 (xy C) u0 []) 5 [(0, .ref o0), (1, .int x1), (2, .int x2), (3, .int x3), (4, .int x4)] []) {K18 : Int32 → Int32 → Int32 → Int32 → Int32 → Int32 → St → Prop} (hK18 : ∀ (x1 : Int32) (x2 : Int32) (x3 : Int32) (x4 : Int32) (x5 : Int32) (x6 : Int32) (u0 : St), K18 x1 x2 x3 x4 x5 x6 u0 → G C 0 0 7 (wX12 o0 a0 (xy C) u0 []) 18 [(0, .ref o0), (1, .int x1), (2, .int x2), (3, .int x3), (4, .int x4), (5, .int x5), (6, .int x6)] []) {x1 : Int32} {x2 : Int32} {x3 : Int32} {x4 : Int32} {x6 : Int32} {s0 : Int32} {s1 : Int32} {u0 : St} (h : qX12_mostAlike_b69 post K5 K18 x1 x2 x3 x4 x6 s0 s1 u0) : G C 0 0 7 (wX12 o0 a0 (xy C) u0 []) 69 [(0, .ref o0), (1, .int x1), (2, .int x2), (3, .int x3), (4, .int x4), (6, .int x6)] [.int s0, .int s1] := by
  refine g_iadd (pc := 69) hC dX12_mostAlike_69 ?_
  refine g_topi (fun x5_7 ex5_7 => ?_)
  have h := h x5_7 ex5_7
  refine g_istore (pc := 70) (lv' := [(5, .int x5_7), (0, .ref o0), (1, .int x1), (2, .int x2), (3, .int x3), (4, .int x4), (6, .int x6)]) hC dX12_mostAlike_70 (Nat.le_of_ble_eq_true rfl) rfl ?_
  obtain ⟨x6_8, ex6_8⟩ : ∃ z : Int32, z = x6 + (1 : Int32) := ⟨_, rfl⟩
  have h := h x6_8 ex6_8
  refine g_iinc (pc := 72) (v := x6_8) (lv' := [(6, .int x6_8), (5, .int x5_7), (0, .ref o0), (1, .int x1), (2, .int x2), (3, .int x3), (4, .int x4)]) hC 6 dX12_mostAlike_72 rfl (by rw [ex6_8]; rfl) (Nat.le_of_ble_eq_true rfl) rfl ?_
  refine g_goto (pc := 75) (tgt := 18) hC dX12_mostAlike_75 (by decide) ?_
  refine g_sub (lv' := [(0, .ref o0), (1, .int x1), (2, .int x2), (3, .int x3), (4, .int x4), (5, .int x5_7), (6, .int x6_8)]) [2, 3, 4, 5, 6, 1, 0] rfl ?_
  exact hK18 _ _ _ _ _ _ _ h
def qX12_mostAlike_b68  (post : Int32 → St → Prop) (K5 : Int32 → Int32 → Int32 → Int32 → St → Prop) (K18 : Int32 → Int32 → Int32 → Int32 → Int32 → Int32 → St → Prop) (x1 : Int32) (x2 : Int32) (x3 : Int32) (x4 : Int32) (x6 : Int32) (s0 : Int32) (u0 : St) : Prop := qX12_mostAlike_b69 post K5 K18 x1 x2 x3 x4 x6 (0 : Int32) s0 u0
set_option maxRecDepth 100000 in
set_option maxHeartbeats 4000000 in
theorem kX12_mostAlike_b68 {C : Cx} {o0 : Nat} {a0 : Nat → Nat} (hC : Fx C cX12_mostAlike 7 RX12) (hR0 : xR C = rm 4) {post : Int32 → St → Prop} (hR : RI C cX12_mostAlike 7 (fun u : St => (wX12 o0 a0 (xy C) u [])) (fun r u => post r u)) {K5 : Int32 → Int32 → Int32 → Int32 → St → Prop} (hK5 : ∀ (x1 : Int32) (x2 : Int32) (x3 : Int32) (x4 : Int32) (u0 : St), K5 x1 x2 x3 x4 u0 → G C 0 0 7 (wX12 o0 a0 (xy C) u0 []) 5 [(0, .ref o0), (1, .int x1), (2, .int x2), (3, .int x3), (4, .int x4)] []) {K18 : Int32 → Int32 → Int32 → Int32 → Int32 → Int32 → St → Prop} (hK18 : ∀ (x1 : Int32) (x2 : Int32) (x3 : Int32) (x4 : Int32) (x5 : Int32) (x6 : Int32) (u0 : St), K18 x1 x2 x3 x4 x5 x6 u0 → G C 0 0 7 (wX12 o0 a0 (xy C) u0 []) 18 [(0, .ref o0), (1, .int x1), (2, .int x2), (3, .int x3), (4, .int x4), (5, .int x5), (6, .int x6)] []) {x1 : Int32} {x2 : Int32} {x3 : Int32} {x4 : Int32} {x6 : Int32} {s0 : Int32} {u0 : St} (h : qX12_mostAlike_b68 post K5 K18 x1 x2 x3 x4 x6 s0 u0) : G C 0 0 7 (wX12 o0 a0 (xy C) u0 []) 68 [(0, .ref o0), (1, .int x1), (2, .int x2), (3, .int x3), (4, .int x4), (6, .int x6)] [.int s0] := by
  refine g_iconst (pc := 68) (v := 0) hC dX12_mostAlike_68 (by decide) ?_
  exact kX12_mostAlike_b69 hC hR0 hR hK5 hK18 h
def qX12_mostAlike_b78  (post : Int32 → St → Prop) (K5 : Int32 → Int32 → Int32 → Int32 → St → Prop) (x1 : Int32) (x2 : Int32) (x3 : Int32) (x4 : Int32) (x5 : Int32) (u0 : St) : Prop := ∀ x3_9 : Int32, x3_9 = (if x3 < x5 then x5 else x3) → ∀ x4_10 : Int32, x4_10 = x4 + (1 : Int32) → K5 x1 x2 x3_9 x4_10 u0
set_option maxRecDepth 100000 in
set_option maxHeartbeats 4000000 in
theorem kX12_mostAlike_b78 {C : Cx} {o0 : Nat} {a0 : Nat → Nat} (hC : Fx C cX12_mostAlike 7 RX12) (hR0 : xR C = rm 4) {post : Int32 → St → Prop} (hR : RI C cX12_mostAlike 7 (fun u : St => (wX12 o0 a0 (xy C) u [])) (fun r u => post r u)) {K5 : Int32 → Int32 → Int32 → Int32 → St → Prop} (hK5 : ∀ (x1 : Int32) (x2 : Int32) (x3 : Int32) (x4 : Int32) (u0 : St), K5 x1 x2 x3 x4 u0 → G C 0 0 7 (wX12 o0 a0 (xy C) u0 []) 5 [(0, .ref o0), (1, .int x1), (2, .int x2), (3, .int x3), (4, .int x4)] []) {x1 : Int32} {x2 : Int32} {x3 : Int32} {x4 : Int32} {x5 : Int32} {u0 : St} (h : qX12_mostAlike_b78 post K5 x1 x2 x3 x4 x5 u0) : G C 0 0 7 (wX12 o0 a0 (xy C) u0 []) 78 [(0, .ref o0), (1, .int x1), (2, .int x2), (3, .int x3), (4, .int x4), (5, .int x5)] [] := by
  refine g_iload_n (pc := 78) hC 3 dX12_mostAlike_78 rfl rfl ?_
  refine g_iload (pc := 79) hC 5 dX12_mostAlike_79 rfl ?_
  refine g_mmax (pc := 81) hC hR0 ml_X12_307 dX12_mostAlike_81 (Nat.le_of_ble_eq_true rfl) ?_
  refine g_topi (fun x3_9 ex3_9 => ?_)
  have h := h x3_9 ex3_9
  refine g_istore_n (pc := 84) (lv' := [(3, .int x3_9), (0, .ref o0), (1, .int x1), (2, .int x2), (4, .int x4), (5, .int x5)]) hC dX12_mostAlike_84 rfl (Nat.le_of_ble_eq_true rfl) rfl ?_
  obtain ⟨x4_10, ex4_10⟩ : ∃ z : Int32, z = x4 + (1 : Int32) := ⟨_, rfl⟩
  have h := h x4_10 ex4_10
  refine g_iinc (pc := 85) (v := x4_10) (lv' := [(4, .int x4_10), (3, .int x3_9), (0, .ref o0), (1, .int x1), (2, .int x2), (5, .int x5)]) hC 4 dX12_mostAlike_85 rfl (by rw [ex4_10]; rfl) (Nat.le_of_ble_eq_true rfl) rfl ?_
  refine g_goto (pc := 88) (tgt := 5) hC dX12_mostAlike_88 (by decide) ?_
  refine g_sub (lv' := [(0, .ref o0), (1, .int x1), (2, .int x2), (3, .int x3_9), (4, .int x4_10)]) [2, 3, 4, 1, 0] rfl ?_
  exact hK5 _ _ _ _ _ h
def qX12_mostAlike_l18  (post : Int32 → St → Prop) (K5 : Int32 → Int32 → Int32 → Int32 → St → Prop) (K18 : Int32 → Int32 → Int32 → Int32 → Int32 → Int32 → St → Prop) (x1 : Int32) (x2 : Int32) (x3 : Int32) (x4 : Int32) (x5 : Int32) (x6 : Int32) (u0 : St) : Prop := (((20 : Int32) ≤ x6 → qX12_mostAlike_b78 post K5 x1 x2 x3 x4 x5 u0) ∧ (¬ (20 : Int32) ≤ x6 → (vp_in x4 20 ∧ (((ga u0 28 (x4).toNatClampNeg) = 0 → qX12_mostAlike_b68 post K5 K18 x1 x2 x3 x4 x6 x5 u0) ∧ (¬ (ga u0 28 (x4).toNatClampNeg) = 0 → (vp_in x6 20 ∧ (((ga u0 28 (x6).toNatClampNeg) = 0 → qX12_mostAlike_b68 post K5 K18 x1 x2 x3 x4 x6 x5 u0) ∧ (¬ (ga u0 28 (x6).toNatClampNeg) = 0 → qX12_leavesBy x1 x4 x2 (fun r_14 => qX12_leavesBy x1 x6 x2 (fun r_16 => ((¬ r_14 = r_16 → qX12_mostAlike_b68 post K5 K18 x1 x2 x3 x4 x6 x5 u0) ∧ (r_14 = r_16 → qX12_mostAlike_b69 post K5 K18 x1 x2 x3 x4 x6 (1 : Int32) x5 u0))))))))))))
set_option maxRecDepth 100000 in
set_option maxHeartbeats 4000000 in
theorem kX12_mostAlike_l18 {C : Cx} {o0 : Nat} {a0 : Nat → Nat} (hC : Fx C cX12_mostAlike 7 RX12) (hR0 : xR C = rm 4) {post : Int32 → St → Prop} (hR : RI C cX12_mostAlike 7 (fun u : St => (wX12 o0 a0 (xy C) u [])) (fun r u => post r u)) {K5 : Int32 → Int32 → Int32 → Int32 → St → Prop} (hK5 : ∀ (x1 : Int32) (x2 : Int32) (x3 : Int32) (x4 : Int32) (u0 : St), K5 x1 x2 x3 x4 u0 → G C 0 0 7 (wX12 o0 a0 (xy C) u0 []) 5 [(0, .ref o0), (1, .int x1), (2, .int x2), (3, .int x3), (4, .int x4)] []) {K18 : Int32 → Int32 → Int32 → Int32 → Int32 → Int32 → St → Prop} (hK18 : ∀ (x1 : Int32) (x2 : Int32) (x3 : Int32) (x4 : Int32) (x5 : Int32) (x6 : Int32) (u0 : St), K18 x1 x2 x3 x4 x5 x6 u0 → G C 0 0 7 (wX12 o0 a0 (xy C) u0 []) 18 [(0, .ref o0), (1, .int x1), (2, .int x2), (3, .int x3), (4, .int x4), (5, .int x5), (6, .int x6)] []) {x1 : Int32} {x2 : Int32} {x3 : Int32} {x4 : Int32} {x5 : Int32} {x6 : Int32} {u0 : St} (h : qX12_mostAlike_l18 post K5 K18 x1 x2 x3 x4 x5 x6 u0) : G C 0 0 7 (wX12 o0 a0 (xy C) u0 []) 18 [(0, .ref o0), (1, .int x1), (2, .int x2), (3, .int x3), (4, .int x4), (5, .int x5), (6, .int x6)] [] := by
  refine g_iload (pc := 18) hC 6 dX12_mostAlike_18 rfl ?_
  refine g_bipush (pc := 20) (v := 20) hC dX12_mostAlike_20 (by decide) ?_
  refine g_icmp_ge (pc := 22) (tgt := 78) hC dX12_mostAlike_22 (by decide) (fun c_11 => ?_) (fun c_11 => ?_)
  · have h := h.1 c_11
    refine g_sub (lv' := [(0, .ref o0), (1, .int x1), (2, .int x2), (3, .int x3), (4, .int x4), (5, .int x5)]) [0, 1, 2, 3, 4, 5] rfl ?_
    exact kX12_mostAlike_b78 hC hR0 hR hK5 h
  · have h := h.2 c_11
    refine g_iload (pc := 25) hC 5 dX12_mostAlike_25 rfl ?_
    refine g_aload_n (pc := 27) hC 0 dX12_mostAlike_27 rfl rfl ?_
    refine getX12_28 (pc := 28) hC (F := fun Z => Z) (X := []) (fun _ => rfl) fl_X12_53 dX12_mostAlike_28 ?_
    refine g_iload (pc := 31) hC 4 dX12_mostAlike_31 rfl ?_
    refine aldX12_28 (pc := 33) hC (F := fun Z => Z) (X := []) (fun _ => rfl) h.1 dX12_mostAlike_33 ?_
    have h := h.2
    refine g_if_eq (pc := 34) (tgt := 68) hC dX12_mostAlike_34 (by decide) (fun c_12 => ?_) (fun c_12 => ?_)
    · have h := h.1 c_12
      refine g_sub (lv' := [(0, .ref o0), (1, .int x1), (2, .int x2), (3, .int x3), (4, .int x4), (6, .int x6)]) [0, 1, 2, 3, 4, 6] rfl ?_
      exact kX12_mostAlike_b68 hC hR0 hR hK5 hK18 h
    · have h := h.2 c_12
      refine g_aload_n (pc := 37) hC 0 dX12_mostAlike_37 rfl rfl ?_
      refine getX12_28 (pc := 38) hC (F := fun Z => Z) (X := []) (fun _ => rfl) fl_X12_53 dX12_mostAlike_38 ?_
      refine g_iload (pc := 41) hC 6 dX12_mostAlike_41 rfl ?_
      refine aldX12_28 (pc := 43) hC (F := fun Z => Z) (X := []) (fun _ => rfl) h.1 dX12_mostAlike_43 ?_
      have h := h.2
      refine g_if_eq (pc := 44) (tgt := 68) hC dX12_mostAlike_44 (by decide) (fun c_13 => ?_) (fun c_13 => ?_)
      · have h := h.1 c_13
        refine g_sub (lv' := [(0, .ref o0), (1, .int x1), (2, .int x2), (3, .int x3), (4, .int x4), (6, .int x6)]) [0, 1, 2, 3, 4, 6] rfl ?_
        exact kX12_mostAlike_b68 hC hR0 hR hK5 hK18 h
      · have h := h.2 c_13
        refine g_iload_n (pc := 47) hC 1 dX12_mostAlike_47 rfl rfl ?_
        refine g_iload (pc := 48) hC 4 dX12_mostAlike_48 rfl ?_
        refine g_iload_n (pc := 50) hC 2 dX12_mostAlike_50 rfl rfl ?_
        refine g_callS_i (pc := 51) (wd := fun (_ : Unit) Y => Y) (F := fun Z => Z) (X := []) (As := [.int x1, .int x4, .int x2]) (rest := [.int x5]) (u := ()) hC (fun _ _ => rfl) (fun _ => rfl) (ctX12_leavesBy h) wvX12_leavesBy ml_X12_402 rfl (rmok hR0 rfl) ⟨Nat.zero_le _, Nat.zero_le _⟩ rfl (Nat.le_of_ble_eq_true rfl) dX12_mostAlike_51 (fun r_14 u_15 h => ?_)
        refine g_iload_n (pc := 54) hC 1 dX12_mostAlike_54 rfl rfl ?_
        refine g_iload (pc := 55) hC 6 dX12_mostAlike_55 rfl ?_
        refine g_iload_n (pc := 57) hC 2 dX12_mostAlike_57 rfl rfl ?_
        refine g_callS_i (pc := 58) (wd := fun (_ : Unit) Y => Y) (F := fun Z => Z) (X := []) (As := [.int x1, .int x6, .int x2]) (rest := [.int r_14, .int x5]) (u := ()) hC (fun _ _ => rfl) (fun _ => rfl) (ctX12_leavesBy h) wvX12_leavesBy ml_X12_402 rfl (rmok hR0 rfl) ⟨Nat.zero_le _, Nat.zero_le _⟩ rfl (Nat.le_of_ble_eq_true rfl) dX12_mostAlike_58 (fun r_16 u_17 h => ?_)
        refine g_icmp_ne (pc := 61) (tgt := 68) hC dX12_mostAlike_61 (by decide) (fun c_18 => ?_) (fun c_18 => ?_)
        · have h := h.1 c_18
          refine g_sub (lv' := [(0, .ref o0), (1, .int x1), (2, .int x2), (3, .int x3), (4, .int x4), (6, .int x6)]) [0, 1, 2, 3, 4, 6] rfl ?_
          exact kX12_mostAlike_b68 hC hR0 hR hK5 hK18 h
        · have h := h.2 c_18
          refine g_iconst (pc := 64) (v := 1) hC dX12_mostAlike_64 (by decide) ?_
          refine g_goto (pc := 65) (tgt := 69) hC dX12_mostAlike_65 (by decide) ?_
          refine g_sub (lv' := [(0, .ref o0), (1, .int x1), (2, .int x2), (3, .int x3), (4, .int x4), (6, .int x6)]) [0, 1, 2, 3, 4, 6] rfl ?_
          exact kX12_mostAlike_b69 hC hR0 hR hK5 hK18 h
def qX12_mostAlike_L18  (post : Int32 → St → Prop) (K5 : Int32 → Int32 → Int32 → Int32 → St → Prop) : Nat → Int32 → Int32 → Int32 → Int32 → Int32 → Int32 → St → Prop
  | 0 => fun _ _ _ _ _ _ _ => False
  | n + 1 => qX12_mostAlike_l18 post K5 (qX12_mostAlike_L18 post K5 n)
theorem kX12_mostAlike_L18 {C : Cx} {o0 : Nat} {a0 : Nat → Nat} (hC : Fx C cX12_mostAlike 7 RX12) (hR0 : xR C = rm 4) {post : Int32 → St → Prop} (hR : RI C cX12_mostAlike 7 (fun u : St => (wX12 o0 a0 (xy C) u [])) (fun r u => post r u)) {K5 : Int32 → Int32 → Int32 → Int32 → St → Prop} (hK5 : ∀ (x1 : Int32) (x2 : Int32) (x3 : Int32) (x4 : Int32) (u0 : St), K5 x1 x2 x3 x4 u0 → G C 0 0 7 (wX12 o0 a0 (xy C) u0 []) 5 [(0, .ref o0), (1, .int x1), (2, .int x2), (3, .int x3), (4, .int x4)] []) : ∀ (n : Nat) (x1 : Int32) (x2 : Int32) (x3 : Int32) (x4 : Int32) (x5 : Int32) (x6 : Int32) (u0 : St), qX12_mostAlike_L18 post K5 n x1 x2 x3 x4 x5 x6 u0 → G C 0 0 7 (wX12 o0 a0 (xy C) u0 []) 18 [(0, .ref o0), (1, .int x1), (2, .int x2), (3, .int x3), (4, .int x4), (5, .int x5), (6, .int x6)] [] := by
  intro n
  induction n with
  | zero => intro x1 x2 x3 x4 x5 x6 u0 h; exact h.elim
  | succ n ih => intro x1 x2 x3 x4 x5 x6 u0 h; exact kX12_mostAlike_l18 hC hR0 hR hK5 ih h
def qX12_mostAlike_l5  (post : Int32 → St → Prop) (K5 : Int32 → Int32 → Int32 → Int32 → St → Prop) (x1 : Int32) (x2 : Int32) (x3 : Int32) (x4 : Int32) (u0 : St) : Prop := (((20 : Int32) ≤ x4 → post x3 u0) ∧ (¬ (20 : Int32) ≤ x4 → ∃ n_20 : Nat, qX12_mostAlike_L18 post K5 n_20 x1 x2 x3 x4 (0 : Int32) (0 : Int32) u0))
set_option maxRecDepth 100000 in
set_option maxHeartbeats 4000000 in
theorem kX12_mostAlike_l5 {C : Cx} {o0 : Nat} {a0 : Nat → Nat} (hC : Fx C cX12_mostAlike 7 RX12) (hR0 : xR C = rm 4) {post : Int32 → St → Prop} (hR : RI C cX12_mostAlike 7 (fun u : St => (wX12 o0 a0 (xy C) u [])) (fun r u => post r u))  {K5 : Int32 → Int32 → Int32 → Int32 → St → Prop} (hK5 : ∀ (x1 : Int32) (x2 : Int32) (x3 : Int32) (x4 : Int32) (u0 : St), K5 x1 x2 x3 x4 u0 → G C 0 0 7 (wX12 o0 a0 (xy C) u0 []) 5 [(0, .ref o0), (1, .int x1), (2, .int x2), (3, .int x3), (4, .int x4)] []) {x1 : Int32} {x2 : Int32} {x3 : Int32} {x4 : Int32} {u0 : St} (h : qX12_mostAlike_l5 post K5 x1 x2 x3 x4 u0) : G C 0 0 7 (wX12 o0 a0 (xy C) u0 []) 5 [(0, .ref o0), (1, .int x1), (2, .int x2), (3, .int x3), (4, .int x4)] [] := by
  refine g_iload (pc := 5) hC 4 dX12_mostAlike_5 rfl ?_
  refine g_bipush (pc := 7) (v := 20) hC dX12_mostAlike_7 (by decide) ?_
  refine g_icmp_ge (pc := 9) (tgt := 91) hC dX12_mostAlike_9 (by decide) (fun c_19 => ?_) (fun c_19 => ?_)
  · have h := h.1 c_19
    refine g_iload_n (pc := 91) hC 3 dX12_mostAlike_91 rfl rfl ?_
    exact hR _ _ _ u0 dX12_mostAlike_92 h
  · have h := h.2 c_19
    refine g_iconst (pc := 12) (v := 0) hC dX12_mostAlike_12 (by decide) ?_
    refine g_istore (pc := 13) (lv' := [(5, .int (0 : Int32)), (0, .ref o0), (1, .int x1), (2, .int x2), (3, .int x3), (4, .int x4)]) hC dX12_mostAlike_13 (Nat.le_of_ble_eq_true rfl) rfl ?_
    refine g_iconst (pc := 15) (v := 0) hC dX12_mostAlike_15 (by decide) ?_
    refine g_istore (pc := 16) (lv' := [(6, .int (0 : Int32)), (5, .int (0 : Int32)), (0, .ref o0), (1, .int x1), (2, .int x2), (3, .int x3), (4, .int x4)]) hC dX12_mostAlike_16 (Nat.le_of_ble_eq_true rfl) rfl ?_
    refine g_sub (lv' := [(0, .ref o0), (1, .int x1), (2, .int x2), (3, .int x3), (4, .int x4), (5, .int (0 : Int32)), (6, .int (0 : Int32))]) [2, 3, 4, 5, 6, 1, 0] rfl ?_
    obtain ⟨n_20, h⟩ := h
    exact kX12_mostAlike_L18 hC hR0 hR hK5 n_20 _ _ _ _ _ _ _ h
def qX12_mostAlike_L5  (post : Int32 → St → Prop)  : Nat → Int32 → Int32 → Int32 → Int32 → St → Prop
  | 0 => fun _ _ _ _ _ => False
  | n + 1 => qX12_mostAlike_l5 post (qX12_mostAlike_L5 post n)
theorem kX12_mostAlike_L5 {C : Cx} {o0 : Nat} {a0 : Nat → Nat} (hC : Fx C cX12_mostAlike 7 RX12) (hR0 : xR C = rm 4) {post : Int32 → St → Prop} (hR : RI C cX12_mostAlike 7 (fun u : St => (wX12 o0 a0 (xy C) u [])) (fun r u => post r u))  : ∀ (n : Nat) (x1 : Int32) (x2 : Int32) (x3 : Int32) (x4 : Int32) (u0 : St), qX12_mostAlike_L5 post n x1 x2 x3 x4 u0 → G C 0 0 7 (wX12 o0 a0 (xy C) u0 []) 5 [(0, .ref o0), (1, .int x1), (2, .int x2), (3, .int x3), (4, .int x4)] [] := by
  intro n
  induction n with
  | zero => intro x1 x2 x3 x4 u0 h; exact h.elim
  | succ n ih => intro x1 x2 x3 x4 u0 h; exact kX12_mostAlike_l5 hC hR0 hR  ih h
def qX12_mostAlike (x1 : Int32) (x2 : Int32) (u0 : St) (post : Int32 → St → Prop) : Prop := ∃ n_21 : Nat, qX12_mostAlike_L5 post n_21 x1 x2 (0 : Int32) (0 : Int32) u0
set_option maxRecDepth 100000 in
set_option maxHeartbeats 4000000 in
theorem kX12_mostAlike {C : Cx} {o0 : Nat} {a0 : Nat → Nat} (hC : Fx C cX12_mostAlike 7 RX12) (hR0 : xR C = rm 4) {post : Int32 → St → Prop} (hR : RI C cX12_mostAlike 7 (fun u : St => (wX12 o0 a0 (xy C) u [])) (fun r u => post r u)) {x1 : Int32} {x2 : Int32} {u0 : St} (h : qX12_mostAlike x1 x2 u0 post) : G C 0 0 7 (wX12 o0 a0 (xy C) u0 []) 0 [(0, .ref o0), (1, .int x1), (2, .int x2)] [] := by
  refine g_iconst (pc := 0) (v := 0) hC dX12_mostAlike_0 (by decide) ?_
  refine g_istore_n (pc := 1) (lv' := [(3, .int (0 : Int32)), (0, .ref o0), (1, .int x1), (2, .int x2)]) hC dX12_mostAlike_1 rfl (Nat.le_of_ble_eq_true rfl) rfl ?_
  refine g_iconst (pc := 2) (v := 0) hC dX12_mostAlike_2 (by decide) ?_
  refine g_istore (pc := 3) (lv' := [(4, .int (0 : Int32)), (3, .int (0 : Int32)), (0, .ref o0), (1, .int x1), (2, .int x2)]) hC dX12_mostAlike_3 (Nat.le_of_ble_eq_true rfl) rfl ?_
  refine g_sub (lv' := [(0, .ref o0), (1, .int x1), (2, .int x2), (3, .int (0 : Int32)), (4, .int (0 : Int32))]) [2, 3, 4, 1, 0] rfl ?_
  obtain ⟨n_21, h⟩ := h
  exact kX12_mostAlike_L5 hC hR0 hR  n_21 _ _ _ _ _ h
theorem ctX12_mostAlike {l : Launch} {D : va_G} {cy : Nat → ClassId} {kd : Nat → Nat} {o0 : Nat} {a0 : Nat → Nat} {x1 : Int32} {x2 : Int32} {u0 : St} {post : Int32 → St → Prop} (h : qX12_mostAlike x1 x2 u0 post) : CtI l D cy kd yX12_mostAlike cX12_mostAlike 7 4 .int [.ref o0, .int x1, .int x2] (fun u : St => (wX12 o0 a0 cy u [])) u0 (fun r u => post r u) := met_i (by decide) (Nat.le_of_ble_eq_true rfl) (fun C e1 e2 e3 e4 e5 hC hR => by subst e1 e2 e3 e4; exact kX12_mostAlike hC e5 hR h)
theorem dX12_ask_0 : decode cX12_ask 0 = .ok (.aload_n 0, 1) := by decide +kernel
theorem dX12_ask_1 : decode cX12_ask 1 = .ok (.iload_n 1, 1) := by decide +kernel
theorem dX12_ask_2 : decode cX12_ask 2 = .ok (.iload_n 2, 1) := by decide +kernel
theorem dX12_ask_3 : decode cX12_ask 3 = .ok (.iload_n 3, 1) := by decide +kernel
theorem dX12_ask_4 : decode cX12_ask 4 = .ok (.invokevirtual 405, 3) := by decide +kernel
theorem dX12_ask_7 : decode cX12_ask 7 = .ok (.istore 4, 2) := by decide +kernel
theorem dX12_ask_9 : decode cX12_ask 9 = .ok (.iload 4, 2) := by decide +kernel
theorem dX12_ask_11 : decode cX12_ask 11 = .ok (.ifCond .le 10, 3) := by decide +kernel
theorem dX12_ask_14 : decode cX12_ask 14 = .ok (.aload_n 0, 1) := by decide +kernel
theorem dX12_ask_15 : decode cX12_ask 15 = .ok (.iload 4, 2) := by decide +kernel
theorem dX12_ask_17 : decode cX12_ask 17 = .ok (.invokevirtual 88, 3) := by decide +kernel
theorem dX12_ask_20 : decode cX12_ask 20 = .ok (.ireturn, 1) := by decide +kernel
theorem dX12_ask_21 : decode cX12_ask 21 = .ok (.aload_n 0, 1) := by decide +kernel
theorem dX12_ask_22 : decode cX12_ask 22 = .ok (.iload_n 1, 1) := by decide +kernel
theorem dX12_ask_23 : decode cX12_ask 23 = .ok (.iload_n 2, 1) := by decide +kernel
theorem dX12_ask_24 : decode cX12_ask 24 = .ok (.iload_n 3, 1) := by decide +kernel
theorem dX12_ask_25 : decode cX12_ask 25 = .ok (.invokevirtual 408, 3) := by decide +kernel
theorem dX12_ask_28 : decode cX12_ask 28 = .ok (.iconst 2, 1) := by decide +kernel
theorem dX12_ask_29 : decode cX12_ask 29 = .ok (.if_icmp .ge 10, 3) := by decide +kernel
theorem dX12_ask_32 : decode cX12_ask 32 = .ok (.aload_n 0, 1) := by decide +kernel
theorem dX12_ask_33 : decode cX12_ask 33 = .ok (.bipush 6, 2) := by decide +kernel
theorem dX12_ask_35 : decode cX12_ask 35 = .ok (.invokevirtual 88, 3) := by decide +kernel
theorem dX12_ask_38 : decode cX12_ask 38 = .ok (.ireturn, 1) := by decide +kernel
theorem dX12_ask_39 : decode cX12_ask 39 = .ok (.iconst 1, 1) := by decide +kernel
theorem dX12_ask_40 : decode cX12_ask 40 = .ok (.istore 5, 2) := by decide +kernel
theorem dX12_ask_42 : decode cX12_ask 42 = .ok (.aload_n 0, 1) := by decide +kernel
theorem dX12_ask_43 : decode cX12_ask 43 = .ok (.iload_n 1, 1) := by decide +kernel
theorem dX12_ask_44 : decode cX12_ask 44 = .ok (.iconst 1, 1) := by decide +kernel
theorem dX12_ask_45 : decode cX12_ask 45 = .ok (.invokevirtual 411, 3) := by decide +kernel
theorem dX12_ask_48 : decode cX12_ask 48 = .ok (.istore 6, 2) := by decide +kernel
theorem dX12_ask_50 : decode cX12_ask 50 = .ok (.iconst 2, 1) := by decide +kernel
theorem dX12_ask_51 : decode cX12_ask 51 = .ok (.istore 7, 2) := by decide +kernel
theorem dX12_ask_53 : decode cX12_ask 53 = .ok (.iload 7, 2) := by decide +kernel
theorem dX12_ask_55 : decode cX12_ask 55 = .ok (.bipush 20, 2) := by decide +kernel
theorem dX12_ask_57 : decode cX12_ask 57 = .ok (.if_icmp .gt 36, 3) := by decide +kernel
theorem dX12_ask_60 : decode cX12_ask 60 = .ok (.aload_n 0, 1) := by decide +kernel
theorem dX12_ask_61 : decode cX12_ask 61 = .ok (.iload_n 1, 1) := by decide +kernel
theorem dX12_ask_62 : decode cX12_ask 62 = .ok (.iload 7, 2) := by decide +kernel
theorem dX12_ask_64 : decode cX12_ask 64 = .ok (.invokevirtual 411, 3) := by decide +kernel
theorem dX12_ask_67 : decode cX12_ask 67 = .ok (.istore 8, 2) := by decide +kernel
theorem dX12_ask_69 : decode cX12_ask 69 = .ok (.iload 8, 2) := by decide +kernel
theorem dX12_ask_71 : decode cX12_ask 71 = .ok (.iload 6, 2) := by decide +kernel
theorem dX12_ask_73 : decode cX12_ask 73 = .ok (.if_icmp .lt 6, 3) := by decide +kernel
theorem dX12_ask_76 : decode cX12_ask 76 = .ok (.goto 11, 3) := by decide +kernel
theorem dX12_ask_79 : decode cX12_ask 79 = .ok (.iload 8, 2) := by decide +kernel
theorem dX12_ask_81 : decode cX12_ask 81 = .ok (.istore 6, 2) := by decide +kernel
theorem dX12_ask_83 : decode cX12_ask 83 = .ok (.iload 7, 2) := by decide +kernel
theorem dX12_ask_85 : decode cX12_ask 85 = .ok (.istore 5, 2) := by decide +kernel
theorem dX12_ask_87 : decode cX12_ask 87 = .ok (.iinc 7 1, 3) := by decide +kernel
theorem dX12_ask_90 : decode cX12_ask 90 = .ok (.goto (-37), 3) := by decide +kernel
theorem dX12_ask_93 : decode cX12_ask 93 = .ok (.aload_n 0, 1) := by decide +kernel
theorem dX12_ask_94 : decode cX12_ask 94 = .ok (.iload 5, 2) := by decide +kernel
theorem dX12_ask_96 : decode cX12_ask 96 = .ok (.invokevirtual 92, 3) := by decide +kernel
theorem dX12_ask_99 : decode cX12_ask 99 = .ok (.ireturn, 1) := by decide +kernel
def qX12_ask_b87  (post : Int32 → St → Prop) (K53 : Int32 → Int32 → Int32 → Int32 → St → Prop) (x1 : Int32) (x5 : Int32) (x6 : Int32) (x7 : Int32) (u0 : St) : Prop := ∀ x7_23 : Int32, x7_23 = x7 + (1 : Int32) → K53 x1 x5 x6 x7_23 u0
set_option maxRecDepth 100000 in
set_option maxHeartbeats 4000000 in
theorem kX12_ask_b87 {C : Cx} {o0 : Nat} {a0 : Nat → Nat} (hC : Fx C cX12_ask 9 RX12) (hR0 : xR C = rm 5) {post : Int32 → St → Prop} (hR : RI C cX12_ask 9 (fun u : St => (wX12 o0 a0 (xy C) u [])) (fun r u => post r u)) {K53 : Int32 → Int32 → Int32 → Int32 → St → Prop} (hK53 : ∀ (x1 : Int32) (x5 : Int32) (x6 : Int32) (x7 : Int32) (u0 : St), K53 x1 x5 x6 x7 u0 → G C 0 0 9 (wX12 o0 a0 (xy C) u0 []) 53 [(0, .ref o0), (1, .int x1), (5, .int x5), (6, .int x6), (7, .int x7)] []) {x1 : Int32} {x5 : Int32} {x6 : Int32} {x7 : Int32} {u0 : St} (h : qX12_ask_b87 post K53 x1 x5 x6 x7 u0) : G C 0 0 9 (wX12 o0 a0 (xy C) u0 []) 87 [(0, .ref o0), (1, .int x1), (5, .int x5), (6, .int x6), (7, .int x7)] [] := by
  obtain ⟨x7_23, ex7_23⟩ : ∃ z : Int32, z = x7 + (1 : Int32) := ⟨_, rfl⟩
  have h := h x7_23 ex7_23
  refine g_iinc (pc := 87) (v := x7_23) (lv' := [(7, .int x7_23), (0, .ref o0), (1, .int x1), (5, .int x5), (6, .int x6)]) hC 4 dX12_ask_87 rfl (by rw [ex7_23]; rfl) (Nat.le_of_ble_eq_true rfl) rfl ?_
  refine g_goto (pc := 90) (tgt := 53) hC dX12_ask_90 (by decide) ?_
  refine g_sub (lv' := [(0, .ref o0), (1, .int x1), (5, .int x5), (6, .int x6), (7, .int x7_23)]) [1, 2, 3, 4, 0] rfl ?_
  exact hK53 _ _ _ _ _ h
def qX12_ask_b93  (post : Int32 → St → Prop)  (x5 : Int32) (u0 : St) : Prop := qX12_gives x5 u0 (fun r_25 u_24 => post r_25 u_24)
set_option maxRecDepth 100000 in
set_option maxHeartbeats 4000000 in
theorem kX12_ask_b93 {C : Cx} {o0 : Nat} {a0 : Nat → Nat} (hC : Fx C cX12_ask 9 RX12) (hR0 : xR C = rm 5) {post : Int32 → St → Prop} (hR : RI C cX12_ask 9 (fun u : St => (wX12 o0 a0 (xy C) u [])) (fun r u => post r u))  {x5 : Int32} {u0 : St} (h : qX12_ask_b93 post x5 u0) : G C 0 0 9 (wX12 o0 a0 (xy C) u0 []) 93 [(0, .ref o0), (5, .int x5)] [] := by
  refine g_aload_n (pc := 93) hC 0 dX12_ask_93 rfl rfl ?_
  refine g_iload (pc := 94) hC 1 dX12_ask_94 rfl ?_
  refine g_callV_i (pc := 96) (wd := fun (u : St) Y => (wX12 o0 a0 (xy C) u Y)) (F := fun Z => Z) (X := []) (As := [.int x5]) (rest := []) (u := u0) hC (fun _ _ => rfl) (fun _ => rfl) (ctX12_gives h) wvX12_gives ml_X12_92 (ci := 10) (q0 := 0) rfl rfl rfl rfl (rmok hR0 rfl) ⟨Nat.zero_le _, Nat.zero_le _⟩ rfl (Nat.le_of_ble_eq_true rfl) dX12_ask_96 (fun r_25 u_24 h => ?_)
  exact hR _ _ _ u_24 dX12_ask_99 h
def qX12_ask_l53  (post : Int32 → St → Prop) (K53 : Int32 → Int32 → Int32 → Int32 → St → Prop) (x1 : Int32) (x5 : Int32) (x6 : Int32) (x7 : Int32) (u0 : St) : Prop := (((20 : Int32) < x7 → qX12_ask_b93 post x5 u0) ∧ (¬ (20 : Int32) < x7 → qX12_mostAlike x1 x7 u0 (fun r_29 u_28 => ((r_29 < x6 → qX12_ask_b87 post K53 x1 x7 r_29 x7 u_28) ∧ (¬ r_29 < x6 → qX12_ask_b87 post K53 x1 x5 x6 x7 u_28)))))
set_option maxRecDepth 100000 in
set_option maxHeartbeats 4000000 in
theorem kX12_ask_l53 {C : Cx} {o0 : Nat} {a0 : Nat → Nat} (hC : Fx C cX12_ask 9 RX12) (hR0 : xR C = rm 5) {post : Int32 → St → Prop} (hR : RI C cX12_ask 9 (fun u : St => (wX12 o0 a0 (xy C) u [])) (fun r u => post r u))  {K53 : Int32 → Int32 → Int32 → Int32 → St → Prop} (hK53 : ∀ (x1 : Int32) (x5 : Int32) (x6 : Int32) (x7 : Int32) (u0 : St), K53 x1 x5 x6 x7 u0 → G C 0 0 9 (wX12 o0 a0 (xy C) u0 []) 53 [(0, .ref o0), (1, .int x1), (5, .int x5), (6, .int x6), (7, .int x7)] []) {x1 : Int32} {x5 : Int32} {x6 : Int32} {x7 : Int32} {u0 : St} (h : qX12_ask_l53 post K53 x1 x5 x6 x7 u0) : G C 0 0 9 (wX12 o0 a0 (xy C) u0 []) 53 [(0, .ref o0), (1, .int x1), (5, .int x5), (6, .int x6), (7, .int x7)] [] := by
  refine g_iload (pc := 53) hC 4 dX12_ask_53 rfl ?_
  refine g_bipush (pc := 55) (v := 20) hC dX12_ask_55 (by decide) ?_
  refine g_icmp_gt (pc := 57) (tgt := 93) hC dX12_ask_57 (by decide) (fun c_27 => ?_) (fun c_27 => ?_)
  · have h := h.1 c_27
    refine g_sub (lv' := [(0, .ref o0), (5, .int x5)]) [0, 2] rfl ?_
    exact kX12_ask_b93 hC hR0 hR  h
  · have h := h.2 c_27
    refine g_aload_n (pc := 60) hC 0 dX12_ask_60 rfl rfl ?_
    refine g_iload_n (pc := 61) hC 1 dX12_ask_61 rfl rfl ?_
    refine g_iload (pc := 62) hC 4 dX12_ask_62 rfl ?_
    refine g_callV_i (pc := 64) (wd := fun (u : St) Y => (wX12 o0 a0 (xy C) u Y)) (F := fun Z => Z) (X := []) (As := [.int x1, .int x7]) (rest := []) (u := u0) hC (fun _ _ => rfl) (fun _ => rfl) (ctX12_mostAlike h) wvX12_mostAlike ml_X12_411 (ci := 10) (q0 := 0) rfl rfl rfl rfl (rmok hR0 rfl) ⟨Nat.zero_le _, Nat.zero_le _⟩ rfl (Nat.le_of_ble_eq_true rfl) dX12_ask_64 (fun r_29 u_28 h => ?_)
    refine g_istore (pc := 67) (lv' := [(8, .int r_29), (0, .ref o0), (1, .int x1), (5, .int x5), (6, .int x6), (7, .int x7)]) hC dX12_ask_67 (Nat.le_of_ble_eq_true rfl) rfl ?_
    refine g_iload (pc := 69) hC 0 dX12_ask_69 rfl ?_
    refine g_iload (pc := 71) hC 4 dX12_ask_71 rfl ?_
    refine g_icmp_lt (pc := 73) (tgt := 79) hC dX12_ask_73 (by decide) (fun c_31 => ?_) (fun c_31 => ?_)
    · have h := h.1 c_31
      refine g_iload (pc := 79) hC 0 dX12_ask_79 rfl ?_
      refine g_istore (pc := 81) (lv' := [(6, .int r_29), (8, .int r_29), (0, .ref o0), (1, .int x1), (5, .int x5), (7, .int x7)]) hC dX12_ask_81 (Nat.le_of_ble_eq_true rfl) rfl ?_
      refine g_iload (pc := 83) hC 5 dX12_ask_83 rfl ?_
      refine g_istore (pc := 85) (lv' := [(5, .int x7), (6, .int r_29), (8, .int r_29), (0, .ref o0), (1, .int x1), (7, .int x7)]) hC dX12_ask_85 (Nat.le_of_ble_eq_true rfl) rfl ?_
      refine g_sub (lv' := [(0, .ref o0), (1, .int x1), (5, .int x7), (6, .int r_29), (7, .int x7)]) [3, 4, 0, 1, 5] rfl ?_
      exact kX12_ask_b87 hC hR0 hR hK53 h
    · have h := h.2 c_31
      refine g_goto (pc := 76) (tgt := 87) hC dX12_ask_76 (by decide) ?_
      refine g_sub (lv' := [(0, .ref o0), (1, .int x1), (5, .int x5), (6, .int x6), (7, .int x7)]) [1, 2, 3, 4, 5] rfl ?_
      exact kX12_ask_b87 hC hR0 hR hK53 h
def qX12_ask_L53  (post : Int32 → St → Prop)  : Nat → Int32 → Int32 → Int32 → Int32 → St → Prop
  | 0 => fun _ _ _ _ _ => False
  | n + 1 => qX12_ask_l53 post (qX12_ask_L53 post n)
theorem kX12_ask_L53 {C : Cx} {o0 : Nat} {a0 : Nat → Nat} (hC : Fx C cX12_ask 9 RX12) (hR0 : xR C = rm 5) {post : Int32 → St → Prop} (hR : RI C cX12_ask 9 (fun u : St => (wX12 o0 a0 (xy C) u [])) (fun r u => post r u))  : ∀ (n : Nat) (x1 : Int32) (x5 : Int32) (x6 : Int32) (x7 : Int32) (u0 : St), qX12_ask_L53 post n x1 x5 x6 x7 u0 → G C 0 0 9 (wX12 o0 a0 (xy C) u0 []) 53 [(0, .ref o0), (1, .int x1), (5, .int x5), (6, .int x6), (7, .int x7)] [] := by
  intro n
  induction n with
  | zero => intro x1 x5 x6 x7 u0 h; exact h.elim
  | succ n ih => intro x1 x5 x6 x7 u0 h; exact kX12_ask_l53 hC hR0 hR  ih h
def qX12_ask (x1 : Int32) (x2 : Int32) (x3 : Int32) (u0 : St) (post : Int32 → St → Prop) : Prop := qX12_wrongSeen x1 x2 x3 u0 (fun r_33 u_32 => ((r_33 ≤ 0 → qX12_laysFits x1 x2 x3 u_32 (fun r_37 u_36 => (((2 : Int32) ≤ r_37 → qX12_mostAlike x1 (1 : Int32) u_36 (fun r_41 u_40 => ∃ n_43 : Nat, qX12_ask_L53 post n_43 x1 (1 : Int32) r_41 (2 : Int32) u_40)) ∧ (¬ (2 : Int32) ≤ r_37 → qX12_refuse (6 : Int32) u_36 (fun r_45 u_44 => post r_45 u_44))))) ∧ (¬ r_33 ≤ 0 → qX12_refuse r_33 u_32 (fun r_48 u_47 => post r_48 u_47))))
set_option maxRecDepth 100000 in
set_option maxHeartbeats 4000000 in
theorem kX12_ask {C : Cx} {o0 : Nat} {a0 : Nat → Nat} (hC : Fx C cX12_ask 9 RX12) (hR0 : xR C = rm 5) {post : Int32 → St → Prop} (hR : RI C cX12_ask 9 (fun u : St => (wX12 o0 a0 (xy C) u [])) (fun r u => post r u)) {x1 : Int32} {x2 : Int32} {x3 : Int32} {u0 : St} (h : qX12_ask x1 x2 x3 u0 post) : G C 0 0 9 (wX12 o0 a0 (xy C) u0 []) 0 [(0, .ref o0), (1, .int x1), (2, .int x2), (3, .int x3)] [] := by
  refine g_aload_n (pc := 0) hC 0 dX12_ask_0 rfl rfl ?_
  refine g_iload_n (pc := 1) hC 1 dX12_ask_1 rfl rfl ?_
  refine g_iload_n (pc := 2) hC 2 dX12_ask_2 rfl rfl ?_
  refine g_iload_n (pc := 3) hC 3 dX12_ask_3 rfl rfl ?_
  refine g_callV_i (pc := 4) (wd := fun (u : St) Y => (wX12 o0 a0 (xy C) u Y)) (F := fun Z => Z) (X := []) (As := [.int x1, .int x2, .int x3]) (rest := []) (u := u0) hC (fun _ _ => rfl) (fun _ => rfl) (ctX12_wrongSeen h) wvX12_wrongSeen ml_X12_405 (ci := 10) (q0 := 0) rfl rfl rfl rfl (rmok hR0 rfl) ⟨Nat.zero_le _, Nat.zero_le _⟩ rfl (Nat.le_of_ble_eq_true rfl) dX12_ask_4 (fun r_33 u_32 h => ?_)
  refine g_istore (pc := 7) (lv' := [(4, .int r_33), (0, .ref o0), (1, .int x1), (2, .int x2), (3, .int x3)]) hC dX12_ask_7 (Nat.le_of_ble_eq_true rfl) rfl ?_
  refine g_iload (pc := 9) hC 0 dX12_ask_9 rfl ?_
  refine g_if_le (pc := 11) (tgt := 21) hC dX12_ask_11 (by decide) (fun c_35 => ?_) (fun c_35 => ?_)
  · have h := h.1 c_35
    refine g_aload_n (pc := 21) hC 1 dX12_ask_21 rfl rfl ?_
    refine g_iload_n (pc := 22) hC 2 dX12_ask_22 rfl rfl ?_
    refine g_iload_n (pc := 23) hC 3 dX12_ask_23 rfl rfl ?_
    refine g_iload_n (pc := 24) hC 4 dX12_ask_24 rfl rfl ?_
    refine g_callV_i (pc := 25) (wd := fun (u : St) Y => (wX12 o0 a0 (xy C) u Y)) (F := fun Z => Z) (X := []) (As := [.int x1, .int x2, .int x3]) (rest := []) (u := u_32) hC (fun _ _ => rfl) (fun _ => rfl) (ctX12_laysFits h) wvX12_laysFits ml_X12_408 (ci := 10) (q0 := 0) rfl rfl rfl rfl (rmok hR0 rfl) ⟨Nat.zero_le _, Nat.zero_le _⟩ rfl (Nat.le_of_ble_eq_true rfl) dX12_ask_25 (fun r_37 u_36 h => ?_)
    refine g_iconst (pc := 28) (v := 2) hC dX12_ask_28 (by decide) ?_
    refine g_icmp_ge (pc := 29) (tgt := 39) hC dX12_ask_29 (by decide) (fun c_39 => ?_) (fun c_39 => ?_)
    · have h := h.1 c_39
      refine g_iconst (pc := 39) (v := 1) hC dX12_ask_39 (by decide) ?_
      refine g_istore (pc := 40) (lv' := [(5, .int (1 : Int32)), (4, .int r_33), (0, .ref o0), (1, .int x1), (2, .int x2), (3, .int x3)]) hC dX12_ask_40 (Nat.le_of_ble_eq_true rfl) rfl ?_
      refine g_aload_n (pc := 42) hC 2 dX12_ask_42 rfl rfl ?_
      refine g_iload_n (pc := 43) hC 3 dX12_ask_43 rfl rfl ?_
      refine g_iconst (pc := 44) (v := 1) hC dX12_ask_44 (by decide) ?_
      refine g_callV_i (pc := 45) (wd := fun (u : St) Y => (wX12 o0 a0 (xy C) u Y)) (F := fun Z => Z) (X := []) (As := [.int x1, .int (1 : Int32)]) (rest := []) (u := u_36) hC (fun _ _ => rfl) (fun _ => rfl) (ctX12_mostAlike h) wvX12_mostAlike ml_X12_411 (ci := 10) (q0 := 0) rfl rfl rfl rfl (rmok hR0 rfl) ⟨Nat.zero_le _, Nat.zero_le _⟩ rfl (Nat.le_of_ble_eq_true rfl) dX12_ask_45 (fun r_41 u_40 h => ?_)
      refine g_istore (pc := 48) (lv' := [(6, .int r_41), (5, .int (1 : Int32)), (4, .int r_33), (0, .ref o0), (1, .int x1), (2, .int x2), (3, .int x3)]) hC dX12_ask_48 (Nat.le_of_ble_eq_true rfl) rfl ?_
      refine g_iconst (pc := 50) (v := 2) hC dX12_ask_50 (by decide) ?_
      refine g_istore (pc := 51) (lv' := [(7, .int (2 : Int32)), (6, .int r_41), (5, .int (1 : Int32)), (4, .int r_33), (0, .ref o0), (1, .int x1), (2, .int x2), (3, .int x3)]) hC dX12_ask_51 (Nat.le_of_ble_eq_true rfl) rfl ?_
      refine g_sub (lv' := [(0, .ref o0), (1, .int x1), (5, .int (1 : Int32)), (6, .int r_41), (7, .int (2 : Int32))]) [4, 5, 2, 1, 0] rfl ?_
      obtain ⟨n_43, h⟩ := h
      exact kX12_ask_L53 hC hR0 hR  n_43 _ _ _ _ _ h
    · have h := h.2 c_39
      refine g_aload_n (pc := 32) hC 1 dX12_ask_32 rfl rfl ?_
      refine g_bipush (pc := 33) (v := 6) hC dX12_ask_33 (by decide) ?_
      refine g_callV_i (pc := 35) (wd := fun (u : St) Y => (wX12 o0 a0 (xy C) u Y)) (F := fun Z => Z) (X := []) (As := [.int (6 : Int32)]) (rest := []) (u := u_36) hC (fun _ _ => rfl) (fun _ => rfl) (ctX12_refuse h) wvX12_refuse ml_X12_88 (ci := 10) (q0 := 0) rfl rfl rfl rfl (rmok hR0 rfl) ⟨Nat.zero_le _, Nat.zero_le _⟩ rfl (Nat.le_of_ble_eq_true rfl) dX12_ask_35 (fun r_45 u_44 h => ?_)
      exact hR _ _ _ u_44 dX12_ask_38 h
  · have h := h.2 c_35
    refine g_aload_n (pc := 14) hC 1 dX12_ask_14 rfl rfl ?_
    refine g_iload (pc := 15) hC 0 dX12_ask_15 rfl ?_
    refine g_callV_i (pc := 17) (wd := fun (u : St) Y => (wX12 o0 a0 (xy C) u Y)) (F := fun Z => Z) (X := []) (As := [.int r_33]) (rest := []) (u := u_32) hC (fun _ _ => rfl) (fun _ => rfl) (ctX12_refuse h) wvX12_refuse ml_X12_88 (ci := 10) (q0 := 0) rfl rfl rfl rfl (rmok hR0 rfl) ⟨Nat.zero_le _, Nat.zero_le _⟩ rfl (Nat.le_of_ble_eq_true rfl) dX12_ask_17 (fun r_48 u_47 h => ?_)
    exact hR _ _ _ u_47 dX12_ask_20 h
theorem ctX12_ask {l : Launch} {D : va_G} {cy : Nat → ClassId} {kd : Nat → Nat} {o0 : Nat} {a0 : Nat → Nat} {x1 : Int32} {x2 : Int32} {x3 : Int32} {u0 : St} {post : Int32 → St → Prop} (h : qX12_ask x1 x2 x3 u0 post) : CtI l D cy kd yX12_ask cX12_ask 9 5 .int [.ref o0, .int x1, .int x2, .int x3] (fun u : St => (wX12 o0 a0 cy u [])) u0 (fun r u => post r u) := met_i (by decide) (Nat.le_of_ble_eq_true rfl) (fun C e1 e2 e3 e4 e5 hC hR => by subst e1 e2 e3 e4; exact kX12_ask hC e5 hR h)
theorem dX12_settles_0 : decode cX12_settles 0 = .ok (.aload_n 0, 1) := by decide +kernel
theorem dX12_settles_1 : decode cX12_settles 1 = .ok (.getfield 63, 3) := by decide +kernel
theorem dX12_settles_4 : decode cX12_settles 4 = .ok (.iload_n 1, 1) := by decide +kernel
theorem dX12_settles_5 : decode cX12_settles 5 = .ok (.iaload, 1) := by decide +kernel
theorem dX12_settles_6 : decode cX12_settles 6 = .ok (.iconst (-1), 1) := by decide +kernel
theorem dX12_settles_7 : decode cX12_settles 7 = .ok (.if_icmp .ne 7, 3) := by decide +kernel
theorem dX12_settles_10 : decode cX12_settles 10 = .ok (.iconst 1, 1) := by decide +kernel
theorem dX12_settles_11 : decode cX12_settles 11 = .ok (.goto 4, 3) := by decide +kernel
theorem dX12_settles_14 : decode cX12_settles 14 = .ok (.iconst 0, 1) := by decide +kernel
theorem dX12_settles_15 : decode cX12_settles 15 = .ok (.istore_n 3, 1) := by decide +kernel
theorem dX12_settles_16 : decode cX12_settles 16 = .ok (.iload_n 3, 1) := by decide +kernel
theorem dX12_settles_17 : decode cX12_settles 17 = .ok (.ifCond .ne 33, 3) := by decide +kernel
theorem dX12_settles_20 : decode cX12_settles 20 = .ok (.iload_n 1, 1) := by decide +kernel
theorem dX12_settles_21 : decode cX12_settles 21 = .ok (.iconst 2, 1) := by decide +kernel
theorem dX12_settles_22 : decode cX12_settles 22 = .ok (.irem, 1) := by decide +kernel
theorem dX12_settles_23 : decode cX12_settles 23 = .ok (.ifCond .ne 16, 3) := by decide +kernel
theorem dX12_settles_26 : decode cX12_settles 26 = .ok (.iload_n 2, 1) := by decide +kernel
theorem dX12_settles_27 : decode cX12_settles 27 = .ok (.aload_n 0, 1) := by decide +kernel
theorem dX12_settles_28 : decode cX12_settles 28 = .ok (.getfield 60, 3) := by decide +kernel
theorem dX12_settles_31 : decode cX12_settles 31 = .ok (.iload_n 1, 1) := by decide +kernel
theorem dX12_settles_32 : decode cX12_settles 32 = .ok (.iaload, 1) := by decide +kernel
theorem dX12_settles_33 : decode cX12_settles 33 = .ok (.if_icmp .lt 17, 3) := by decide +kernel
theorem dX12_settles_36 : decode cX12_settles 36 = .ok (.goto 13, 3) := by decide +kernel
theorem dX12_settles_39 : decode cX12_settles 39 = .ok (.iload_n 2, 1) := by decide +kernel
theorem dX12_settles_40 : decode cX12_settles 40 = .ok (.aload_n 0, 1) := by decide +kernel
theorem dX12_settles_41 : decode cX12_settles 41 = .ok (.getfield 60, 3) := by decide +kernel
theorem dX12_settles_44 : decode cX12_settles 44 = .ok (.iload_n 1, 1) := by decide +kernel
theorem dX12_settles_45 : decode cX12_settles 45 = .ok (.iaload, 1) := by decide +kernel
theorem dX12_settles_46 : decode cX12_settles 46 = .ok (.if_icmp .gt 4, 3) := by decide +kernel
theorem dX12_settles_49 : decode cX12_settles 49 = .ok (.return_, 1) := by decide +kernel
theorem dX12_settles_50 : decode cX12_settles 50 = .ok (.aload_n 0, 1) := by decide +kernel
theorem dX12_settles_51 : decode cX12_settles 51 = .ok (.getfield 60, 3) := by decide +kernel
theorem dX12_settles_54 : decode cX12_settles 54 = .ok (.iload_n 1, 1) := by decide +kernel
theorem dX12_settles_55 : decode cX12_settles 55 = .ok (.iload_n 2, 1) := by decide +kernel
theorem dX12_settles_56 : decode cX12_settles 56 = .ok (.iastore, 1) := by decide +kernel
theorem dX12_settles_57 : decode cX12_settles 57 = .ok (.aload_n 0, 1) := by decide +kernel
theorem dX12_settles_58 : decode cX12_settles 58 = .ok (.getfield 63, 3) := by decide +kernel
theorem dX12_settles_61 : decode cX12_settles 61 = .ok (.iload_n 1, 1) := by decide +kernel
theorem dX12_settles_62 : decode cX12_settles 62 = .ok (.aload_n 0, 1) := by decide +kernel
theorem dX12_settles_63 : decode cX12_settles 63 = .ok (.getfield 57, 3) := by decide +kernel
theorem dX12_settles_66 : decode cX12_settles 66 = .ok (.iload_n 1, 1) := by decide +kernel
theorem dX12_settles_67 : decode cX12_settles 67 = .ok (.iaload, 1) := by decide +kernel
theorem dX12_settles_68 : decode cX12_settles 68 = .ok (.iastore, 1) := by decide +kernel
theorem dX12_settles_69 : decode cX12_settles 69 = .ok (.return_, 1) := by decide +kernel
def qX12_settles_b49  (post : St → Prop)  (u0 : St) : Prop := post u0
set_option maxRecDepth 100000 in
set_option maxHeartbeats 4000000 in
theorem kX12_settles_b49 {C : Cx} {o0 : Nat} {a0 : Nat → Nat} (hC : Fx C cX12_settles 4 RX12) (hR0 : xR C = rm 1) {post : St → Prop} (hR : RV C cX12_settles 4 (fun u : St => (wX12 o0 a0 (xy C) u [])) (fun u => post u))  {u0 : St} (h : qX12_settles_b49 post u0) : G C 0 0 4 (wX12 o0 a0 (xy C) u0 []) 49 [] [] := by
  exact hR _ _ u0 dX12_settles_49 h
def qX12_settles_b50  (post : St → Prop)  (x1 : Int32) (x2 : Int32) (u0 : St) : Prop := (vp_in x1 5 ∧ ∀ u_3 : St, u_3 = (sw u0 30 (upd (ga u0 30) (x1).toNatClampNeg x2)) → (vp_in x1 5 ∧ (vp_in x1 5 ∧ ∀ u_4 : St, u_4 = (sw u_3 31 (upd (ga u_3 31) (x1).toNatClampNeg (ga u_3 29 (x1).toNatClampNeg))) → post u_4)))
set_option maxRecDepth 100000 in
set_option maxHeartbeats 4000000 in
theorem kX12_settles_b50 {C : Cx} {o0 : Nat} {a0 : Nat → Nat} (hC : Fx C cX12_settles 4 RX12) (hR0 : xR C = rm 1) {post : St → Prop} (hR : RV C cX12_settles 4 (fun u : St => (wX12 o0 a0 (xy C) u [])) (fun u => post u))  {x1 : Int32} {x2 : Int32} {u0 : St} (h : qX12_settles_b50 post x1 x2 u0) : G C 0 0 4 (wX12 o0 a0 (xy C) u0 []) 50 [(0, .ref o0), (1, .int x1), (2, .int x2)] [] := by
  refine g_aload_n (pc := 50) hC 0 dX12_settles_50 rfl rfl ?_
  refine getX12_30 (pc := 51) hC (F := fun Z => Z) (X := []) (fun _ => rfl) fl_X12_60 dX12_settles_51 ?_
  refine g_iload_n (pc := 54) hC 1 dX12_settles_54 rfl rfl ?_
  refine g_iload_n (pc := 55) hC 2 dX12_settles_55 rfl rfl ?_
  refine astX12_30 (pc := 56) hC (F := fun Z => Z) (X := []) (fun _ => rfl) h.1 dX12_settles_56 ?_
  have h := h.2
  refine g_st (w := fun z => (wX12 o0 a0 (xy C) z [])) (u := (sw u0 30 (upd (ga u0 30) (x1).toNatClampNeg x2))) (fun u_3 eu_3 => ?_)
  have h := h u_3 eu_3
  refine g_aload_n (pc := 57) hC 0 dX12_settles_57 rfl rfl ?_
  refine getX12_31 (pc := 58) hC (F := fun Z => Z) (X := []) (fun _ => rfl) fl_X12_63 dX12_settles_58 ?_
  refine g_iload_n (pc := 61) hC 1 dX12_settles_61 rfl rfl ?_
  refine g_aload_n (pc := 62) hC 0 dX12_settles_62 rfl rfl ?_
  refine getX12_29 (pc := 63) hC (F := fun Z => Z) (X := []) (fun _ => rfl) fl_X12_57 dX12_settles_63 ?_
  refine g_iload_n (pc := 66) hC 1 dX12_settles_66 rfl rfl ?_
  refine aldX12_29 (pc := 67) hC (F := fun Z => Z) (X := []) (fun _ => rfl) h.1 dX12_settles_67 ?_
  have h := h.2
  refine astX12_31 (pc := 68) hC (F := fun Z => Z) (X := []) (fun _ => rfl) h.1 dX12_settles_68 ?_
  have h := h.2
  refine g_st (w := fun z => (wX12 o0 a0 (xy C) z [])) (u := (sw u_3 31 (upd (ga u_3 31) (x1).toNatClampNeg (ga u_3 29 (x1).toNatClampNeg)))) (fun u_4 eu_4 => ?_)
  have h := h u_4 eu_4
  exact hR _ _ u_4 dX12_settles_69 h
def qX12_settles_b15  (post : St → Prop)  (x1 : Int32) (x2 : Int32) (s0 : Int32) (u0 : St) : Prop := ((¬ s0 = 0 → qX12_settles_b50 post x1 x2 u0) ∧ (s0 = 0 → ((¬ (x1 - x1 / (2 : Int32) * (2 : Int32)) = 0 → (vp_in x1 5 ∧ (((ga u0 30 (x1).toNatClampNeg) < x2 → qX12_settles_b50 post x1 x2 u0) ∧ (¬ (ga u0 30 (x1).toNatClampNeg) < x2 → qX12_settles_b49 post u0)))) ∧ ((x1 - x1 / (2 : Int32) * (2 : Int32)) = 0 → (vp_in x1 5 ∧ ((x2 < (ga u0 30 (x1).toNatClampNeg) → qX12_settles_b50 post x1 x2 u0) ∧ (¬ x2 < (ga u0 30 (x1).toNatClampNeg) → qX12_settles_b49 post u0)))))))
set_option maxRecDepth 100000 in
set_option maxHeartbeats 4000000 in
theorem kX12_settles_b15 {C : Cx} {o0 : Nat} {a0 : Nat → Nat} (hC : Fx C cX12_settles 4 RX12) (hR0 : xR C = rm 1) {post : St → Prop} (hR : RV C cX12_settles 4 (fun u : St => (wX12 o0 a0 (xy C) u [])) (fun u => post u))  {x1 : Int32} {x2 : Int32} {s0 : Int32} {u0 : St} (h : qX12_settles_b15 post x1 x2 s0 u0) : G C 0 0 4 (wX12 o0 a0 (xy C) u0 []) 15 [(0, .ref o0), (1, .int x1), (2, .int x2)] [.int s0] := by
  refine g_istore_n (pc := 15) (lv' := [(3, .int s0), (0, .ref o0), (1, .int x1), (2, .int x2)]) hC dX12_settles_15 rfl (Nat.le_of_ble_eq_true rfl) rfl ?_
  refine g_iload_n (pc := 16) hC 0 dX12_settles_16 rfl rfl ?_
  refine g_if_ne (pc := 17) (tgt := 50) hC dX12_settles_17 (by decide) (fun c_5 => ?_) (fun c_5 => ?_)
  · have h := h.1 c_5
    refine g_sub (lv' := [(0, .ref o0), (1, .int x1), (2, .int x2)]) [1, 2, 3] rfl ?_
    exact kX12_settles_b50 hC hR0 hR  h
  · have h := h.2 c_5
    refine g_iload_n (pc := 20) hC 2 dX12_settles_20 rfl rfl ?_
    refine g_iconst (pc := 21) (v := 2) hC dX12_settles_21 (by decide) ?_
    refine g_irem (pc := 22) hC dX12_settles_22 (by decide) ?_
    refine g_if_ne (pc := 23) (tgt := 39) hC dX12_settles_23 (by decide) (fun c_6 => ?_) (fun c_6 => ?_)
    · have h := h.1 c_6
      refine g_iload_n (pc := 39) hC 3 dX12_settles_39 rfl rfl ?_
      refine g_aload_n (pc := 40) hC 1 dX12_settles_40 rfl rfl ?_
      refine getX12_30 (pc := 41) hC (F := fun Z => Z) (X := []) (fun _ => rfl) fl_X12_60 dX12_settles_41 ?_
      refine g_iload_n (pc := 44) hC 2 dX12_settles_44 rfl rfl ?_
      refine aldX12_30 (pc := 45) hC (F := fun Z => Z) (X := []) (fun _ => rfl) h.1 dX12_settles_45 ?_
      have h := h.2
      refine g_icmp_gt (pc := 46) (tgt := 50) hC dX12_settles_46 (by decide) (fun c_7 => ?_) (fun c_7 => ?_)
      · have h := h.1 c_7
        refine g_sub (lv' := [(0, .ref o0), (1, .int x1), (2, .int x2)]) [1, 2, 3] rfl ?_
        exact kX12_settles_b50 hC hR0 hR  h
      · have h := h.2 c_7
        refine g_sub (lv' := []) [] rfl ?_
        exact kX12_settles_b49 hC hR0 hR  h
    · have h := h.2 c_6
      refine g_iload_n (pc := 26) hC 3 dX12_settles_26 rfl rfl ?_
      refine g_aload_n (pc := 27) hC 1 dX12_settles_27 rfl rfl ?_
      refine getX12_30 (pc := 28) hC (F := fun Z => Z) (X := []) (fun _ => rfl) fl_X12_60 dX12_settles_28 ?_
      refine g_iload_n (pc := 31) hC 2 dX12_settles_31 rfl rfl ?_
      refine aldX12_30 (pc := 32) hC (F := fun Z => Z) (X := []) (fun _ => rfl) h.1 dX12_settles_32 ?_
      have h := h.2
      refine g_icmp_lt (pc := 33) (tgt := 50) hC dX12_settles_33 (by decide) (fun c_8 => ?_) (fun c_8 => ?_)
      · have h := h.1 c_8
        refine g_sub (lv' := [(0, .ref o0), (1, .int x1), (2, .int x2)]) [1, 2, 3] rfl ?_
        exact kX12_settles_b50 hC hR0 hR  h
      · have h := h.2 c_8
        refine g_goto (pc := 36) (tgt := 49) hC dX12_settles_36 (by decide) ?_
        refine g_sub (lv' := []) [] rfl ?_
        exact kX12_settles_b49 hC hR0 hR  h
def qX12_settles (x1 : Int32) (x2 : Int32) (u0 : St) (post : St → Prop) : Prop := (vp_in x1 5 ∧ ((¬ (ga u0 31 (x1).toNatClampNeg) = (-1 : Int32) → qX12_settles_b15 post x1 x2 (0 : Int32) u0) ∧ ((ga u0 31 (x1).toNatClampNeg) = (-1 : Int32) → qX12_settles_b15 post x1 x2 (1 : Int32) u0)))
set_option maxRecDepth 100000 in
set_option maxHeartbeats 4000000 in
theorem kX12_settles {C : Cx} {o0 : Nat} {a0 : Nat → Nat} (hC : Fx C cX12_settles 4 RX12) (hR0 : xR C = rm 1) {post : St → Prop} (hR : RV C cX12_settles 4 (fun u : St => (wX12 o0 a0 (xy C) u [])) (fun u => post u)) {x1 : Int32} {x2 : Int32} {u0 : St} (h : qX12_settles x1 x2 u0 post) : G C 0 0 4 (wX12 o0 a0 (xy C) u0 []) 0 [(0, .ref o0), (1, .int x1), (2, .int x2)] [] := by
  refine g_aload_n (pc := 0) hC 0 dX12_settles_0 rfl rfl ?_
  refine getX12_31 (pc := 1) hC (F := fun Z => Z) (X := []) (fun _ => rfl) fl_X12_63 dX12_settles_1 ?_
  refine g_iload_n (pc := 4) hC 1 dX12_settles_4 rfl rfl ?_
  refine aldX12_31 (pc := 5) hC (F := fun Z => Z) (X := []) (fun _ => rfl) h.1 dX12_settles_5 ?_
  have h := h.2
  refine g_iconst (pc := 6) (v := -1) hC dX12_settles_6 (by decide) ?_
  refine g_icmp_ne (pc := 7) (tgt := 14) hC dX12_settles_7 (by decide) (fun c_9 => ?_) (fun c_9 => ?_)
  · have h := h.1 c_9
    refine g_iconst (pc := 14) (v := 0) hC dX12_settles_14 (by decide) ?_
    exact kX12_settles_b15 hC hR0 hR  h
  · have h := h.2 c_9
    refine g_iconst (pc := 10) (v := 1) hC dX12_settles_10 (by decide) ?_
    refine g_goto (pc := 11) (tgt := 15) hC dX12_settles_11 (by decide) ?_
    exact kX12_settles_b15 hC hR0 hR  h
theorem ctX12_settles {l : Launch} {D : va_G} {cy : Nat → ClassId} {kd : Nat → Nat} {o0 : Nat} {a0 : Nat → Nat} {x1 : Int32} {x2 : Int32} {u0 : St} {post : St → Prop} (h : qX12_settles x1 x2 u0 post) : CtV l D cy kd yX12_settles cX12_settles 4 1  [.ref o0, .int x1, .int x2] (fun u : St => (wX12 o0 a0 cy u [])) u0 (fun u => post u) := met_v (by decide) (Nat.le_of_ble_eq_true rfl) (fun C e1 e2 e3 e4 e5 hC hR => by subst e1 e2 e3 e4; exact kX12_settles hC e5 hR h)
theorem dX12_beginsAt_0 : decode cX12_beginsAt 0 = .ok (.aload_n 0, 1) := by decide +kernel
theorem dX12_beginsAt_1 : decode cX12_beginsAt 1 = .ok (.iload_n 1, 1) := by decide +kernel
theorem dX12_beginsAt_2 : decode cX12_beginsAt 2 = .ok (.invokestatic 380, 3) := by decide +kernel
theorem dX12_beginsAt_5 : decode cX12_beginsAt 5 = .ok (.invokevirtual 352, 3) := by decide +kernel
theorem dX12_beginsAt_8 : decode cX12_beginsAt 8 = .ok (.aload_n 0, 1) := by decide +kernel
theorem dX12_beginsAt_9 : decode cX12_beginsAt 9 = .ok (.getfield 57, 3) := by decide +kernel
theorem dX12_beginsAt_12 : decode cX12_beginsAt 12 = .ok (.iload_n 1, 1) := by decide +kernel
theorem dX12_beginsAt_13 : decode cX12_beginsAt 13 = .ok (.iconst (-1), 1) := by decide +kernel
theorem dX12_beginsAt_14 : decode cX12_beginsAt 14 = .ok (.iastore, 1) := by decide +kernel
theorem dX12_beginsAt_15 : decode cX12_beginsAt 15 = .ok (.aload_n 0, 1) := by decide +kernel
theorem dX12_beginsAt_16 : decode cX12_beginsAt 16 = .ok (.getfield 63, 3) := by decide +kernel
theorem dX12_beginsAt_19 : decode cX12_beginsAt 19 = .ok (.iload_n 1, 1) := by decide +kernel
theorem dX12_beginsAt_20 : decode cX12_beginsAt 20 = .ok (.iconst (-1), 1) := by decide +kernel
theorem dX12_beginsAt_21 : decode cX12_beginsAt 21 = .ok (.iastore, 1) := by decide +kernel
theorem dX12_beginsAt_22 : decode cX12_beginsAt 22 = .ok (.return_, 1) := by decide +kernel
def qX12_beginsAt (x1 : Int32) (u0 : St) (post : St → Prop) : Prop := qX12_levelAt x1 (fun r_7 => qX12_keeps r_7 u0 (fun u_9 => (vp_in x1 5 ∧ ∀ u_11 : St, u_11 = (sw u_9 29 (upd (ga u_9 29) (x1).toNatClampNeg (-1 : Int32))) → (vp_in x1 5 ∧ ∀ u_12 : St, u_12 = (sw u_11 31 (upd (ga u_11 31) (x1).toNatClampNeg (-1 : Int32))) → post u_12))))
set_option maxRecDepth 100000 in
set_option maxHeartbeats 4000000 in
theorem kX12_beginsAt {C : Cx} {o0 : Nat} {a0 : Nat → Nat} (hC : Fx C cX12_beginsAt 2 RX12) (hR0 : xR C = rm 2) {post : St → Prop} (hR : RV C cX12_beginsAt 2 (fun u : St => (wX12 o0 a0 (xy C) u [])) (fun u => post u)) {x1 : Int32} {u0 : St} (h : qX12_beginsAt x1 u0 post) : G C 0 0 2 (wX12 o0 a0 (xy C) u0 []) 0 [(0, .ref o0), (1, .int x1)] [] := by
  refine g_aload_n (pc := 0) hC 0 dX12_beginsAt_0 rfl rfl ?_
  refine g_iload_n (pc := 1) hC 1 dX12_beginsAt_1 rfl rfl ?_
  refine g_callS_i (pc := 2) (wd := fun (_ : Unit) Y => Y) (F := fun Z => Z) (X := []) (As := [.int x1]) (rest := [.ref o0]) (u := ()) hC (fun _ _ => rfl) (fun _ => rfl) (ctX12_levelAt h) wvX12_levelAt ml_X12_380 rfl (rmok hR0 rfl) ⟨Nat.zero_le _, Nat.zero_le _⟩ rfl (Nat.le_of_ble_eq_true rfl) dX12_beginsAt_2 (fun r_7 u_8 h => ?_)
  refine g_callV_v (pc := 5) (wd := fun (u : St) Y => (wX12 o0 a0 (xy C) u Y)) (F := fun Z => Z) (X := []) (As := [.int r_7]) (rest := []) (u := u0) hC (fun _ _ => rfl) (fun _ => rfl) (ctX12_keeps h) wvX12_keeps ml_X12_352 (ci := 10) (q0 := 0) rfl rfl rfl rfl (rmok hR0 rfl) ⟨Nat.zero_le _, Nat.zero_le _⟩ rfl (Nat.le_of_ble_eq_true rfl) dX12_beginsAt_5 (fun u_9 h => ?_)
  refine g_aload_n (pc := 8) hC 0 dX12_beginsAt_8 rfl rfl ?_
  refine getX12_29 (pc := 9) hC (F := fun Z => Z) (X := []) (fun _ => rfl) fl_X12_57 dX12_beginsAt_9 ?_
  refine g_iload_n (pc := 12) hC 1 dX12_beginsAt_12 rfl rfl ?_
  refine g_iconst (pc := 13) (v := -1) hC dX12_beginsAt_13 (by decide) ?_
  refine astX12_29 (pc := 14) hC (F := fun Z => Z) (X := []) (fun _ => rfl) h.1 dX12_beginsAt_14 ?_
  have h := h.2
  refine g_st (w := fun z => (wX12 o0 a0 (xy C) z [])) (u := (sw u_9 29 (upd (ga u_9 29) (x1).toNatClampNeg (-1 : Int32)))) (fun u_11 eu_11 => ?_)
  have h := h u_11 eu_11
  refine g_aload_n (pc := 15) hC 0 dX12_beginsAt_15 rfl rfl ?_
  refine getX12_31 (pc := 16) hC (F := fun Z => Z) (X := []) (fun _ => rfl) fl_X12_63 dX12_beginsAt_16 ?_
  refine g_iload_n (pc := 19) hC 1 dX12_beginsAt_19 rfl rfl ?_
  refine g_iconst (pc := 20) (v := -1) hC dX12_beginsAt_20 (by decide) ?_
  refine astX12_31 (pc := 21) hC (F := fun Z => Z) (X := []) (fun _ => rfl) h.1 dX12_beginsAt_21 ?_
  have h := h.2
  refine g_st (w := fun z => (wX12 o0 a0 (xy C) z [])) (u := (sw u_11 31 (upd (ga u_11 31) (x1).toNatClampNeg (-1 : Int32)))) (fun u_12 eu_12 => ?_)
  have h := h u_12 eu_12
  exact hR _ _ u_12 dX12_beginsAt_22 h
theorem ctX12_beginsAt {l : Launch} {D : va_G} {cy : Nat → ClassId} {kd : Nat → Nat} {o0 : Nat} {a0 : Nat → Nat} {x1 : Int32} {u0 : St} {post : St → Prop} (h : qX12_beginsAt x1 u0 post) : CtV l D cy kd yX12_beginsAt cX12_beginsAt 2 2  [.ref o0, .int x1] (fun u : St => (wX12 o0 a0 cy u [])) u0 (fun u => post u) := met_v (by decide) (Nat.le_of_ble_eq_true rfl) (fun C e1 e2 e3 e4 e5 hC hR => by subst e1 e2 e3 e4; exact kX12_beginsAt hC e5 hR h)
theorem dX12_playing_0 : decode cX12_playing 0 = .ok (.iload_n 1, 1) := by decide +kernel
theorem dX12_playing_1 : decode cX12_playing 1 = .ok (.ifCond .ne 11, 3) := by decide +kernel
theorem dX12_playing_4 : decode cX12_playing 4 = .ok (.aload_n 0, 1) := by decide +kernel
theorem dX12_playing_5 : decode cX12_playing 5 = .ok (.invokevirtual 279, 3) := by decide +kernel
theorem dX12_playing_8 : decode cX12_playing 8 = .ok (.invokestatic 276, 3) := by decide +kernel
theorem dX12_playing_11 : decode cX12_playing 11 = .ok (.ireturn, 1) := by decide +kernel
theorem dX12_playing_12 : decode cX12_playing 12 = .ok (.iconst 0, 1) := by decide +kernel
theorem dX12_playing_13 : decode cX12_playing 13 = .ok (.istore_n 2, 1) := by decide +kernel
theorem dX12_playing_14 : decode cX12_playing 14 = .ok (.aload_n 0, 1) := by decide +kernel
theorem dX12_playing_15 : decode cX12_playing 15 = .ok (.iconst 0, 1) := by decide +kernel
theorem dX12_playing_16 : decode cX12_playing 16 = .ok (.invokevirtual 414, 3) := by decide +kernel
theorem dX12_playing_19 : decode cX12_playing 19 = .ok (.aload_n 0, 1) := by decide +kernel
theorem dX12_playing_20 : decode cX12_playing 20 = .ok (.iload_n 2, 1) := by decide +kernel
theorem dX12_playing_21 : decode cX12_playing 21 = .ok (.invokestatic 380, 3) := by decide +kernel
theorem dX12_playing_24 : decode cX12_playing 24 = .ok (.invokevirtual 355, 3) := by decide +kernel
theorem dX12_playing_27 : decode cX12_playing 27 = .ok (.aload_n 0, 1) := by decide +kernel
theorem dX12_playing_28 : decode cX12_playing 28 = .ok (.getfield 57, 3) := by decide +kernel
theorem dX12_playing_31 : decode cX12_playing 31 = .ok (.iload_n 2, 1) := by decide +kernel
theorem dX12_playing_32 : decode cX12_playing 32 = .ok (.dup2, 1) := by decide +kernel
theorem dX12_playing_33 : decode cX12_playing 33 = .ok (.iaload, 1) := by decide +kernel
theorem dX12_playing_34 : decode cX12_playing 34 = .ok (.iconst 1, 1) := by decide +kernel
theorem dX12_playing_35 : decode cX12_playing 35 = .ok (.iadd, 1) := by decide +kernel
theorem dX12_playing_36 : decode cX12_playing 36 = .ok (.iastore, 1) := by decide +kernel
theorem dX12_playing_37 : decode cX12_playing 37 = .ok (.aload_n 0, 1) := by decide +kernel
theorem dX12_playing_38 : decode cX12_playing 38 = .ok (.getfield 57, 3) := by decide +kernel
theorem dX12_playing_41 : decode cX12_playing 41 = .ok (.iload_n 2, 1) := by decide +kernel
theorem dX12_playing_42 : decode cX12_playing 42 = .ok (.iaload, 1) := by decide +kernel
theorem dX12_playing_43 : decode cX12_playing 43 = .ok (.istore_n 3, 1) := by decide +kernel
theorem dX12_playing_44 : decode cX12_playing 44 = .ok (.iload_n 2, 1) := by decide +kernel
theorem dX12_playing_45 : decode cX12_playing 45 = .ok (.iconst 2, 1) := by decide +kernel
theorem dX12_playing_46 : decode cX12_playing 46 = .ok (.irem, 1) := by decide +kernel
theorem dX12_playing_47 : decode cX12_playing 47 = .ok (.ifCond .ne 12, 3) := by decide +kernel
theorem dX12_playing_50 : decode cX12_playing 50 = .ok (.aload_n 0, 1) := by decide +kernel
theorem dX12_playing_51 : decode cX12_playing 51 = .ok (.getfield 7, 3) := by decide +kernel
theorem dX12_playing_54 : decode cX12_playing 54 = .ok (.iconst 2, 1) := by decide +kernel
theorem dX12_playing_55 : decode cX12_playing 55 = .ok (.iaload, 1) := by decide +kernel
theorem dX12_playing_56 : decode cX12_playing 56 = .ok (.goto 9, 3) := by decide +kernel
theorem dX12_playing_59 : decode cX12_playing 59 = .ok (.aload_n 0, 1) := by decide +kernel
theorem dX12_playing_60 : decode cX12_playing 60 = .ok (.getfield 7, 3) := by decide +kernel
theorem dX12_playing_63 : decode cX12_playing 63 = .ok (.iconst 0, 1) := by decide +kernel
theorem dX12_playing_64 : decode cX12_playing 64 = .ok (.iaload, 1) := by decide +kernel
theorem dX12_playing_65 : decode cX12_playing 65 = .ok (.istore 4, 2) := by decide +kernel
theorem dX12_playing_67 : decode cX12_playing 67 = .ok (.iload_n 3, 1) := by decide +kernel
theorem dX12_playing_68 : decode cX12_playing 68 = .ok (.iload 4, 2) := by decide +kernel
theorem dX12_playing_70 : decode cX12_playing 70 = .ok (.if_icmp .le 29, 3) := by decide +kernel
theorem dX12_playing_73 : decode cX12_playing 73 = .ok (.iload_n 2, 1) := by decide +kernel
theorem dX12_playing_74 : decode cX12_playing 74 = .ok (.ifCond .ne 6, 3) := by decide +kernel
theorem dX12_playing_77 : decode cX12_playing 77 = .ok (.goto 129, 3) := by decide +kernel
theorem dX12_playing_80 : decode cX12_playing 80 = .ok (.iinc 2 (-1), 3) := by decide +kernel
theorem dX12_playing_83 : decode cX12_playing 83 = .ok (.aload_n 0, 1) := by decide +kernel
theorem dX12_playing_84 : decode cX12_playing 84 = .ok (.iload_n 2, 1) := by decide +kernel
theorem dX12_playing_85 : decode cX12_playing 85 = .ok (.aload_n 0, 1) := by decide +kernel
theorem dX12_playing_86 : decode cX12_playing 86 = .ok (.getfield 60, 3) := by decide +kernel
theorem dX12_playing_89 : decode cX12_playing 89 = .ok (.iload_n 2, 1) := by decide +kernel
theorem dX12_playing_90 : decode cX12_playing 90 = .ok (.iconst 1, 1) := by decide +kernel
theorem dX12_playing_91 : decode cX12_playing 91 = .ok (.iadd, 1) := by decide +kernel
theorem dX12_playing_92 : decode cX12_playing 92 = .ok (.iaload, 1) := by decide +kernel
theorem dX12_playing_93 : decode cX12_playing 93 = .ok (.invokevirtual 417, 3) := by decide +kernel
theorem dX12_playing_96 : decode cX12_playing 96 = .ok (.goto (-77), 3) := by decide +kernel
theorem dX12_playing_99 : decode cX12_playing 99 = .ok (.iload_n 2, 1) := by decide +kernel
theorem dX12_playing_100 : decode cX12_playing 100 = .ok (.iconst 2, 1) := by decide +kernel
theorem dX12_playing_101 : decode cX12_playing 101 = .ok (.irem, 1) := by decide +kernel
theorem dX12_playing_102 : decode cX12_playing 102 = .ok (.ifCond .ne 20, 3) := by decide +kernel
theorem dX12_playing_105 : decode cX12_playing 105 = .ok (.iload_n 3, 1) := by decide +kernel
theorem dX12_playing_106 : decode cX12_playing 106 = .ok (.iload 4, 2) := by decide +kernel
theorem dX12_playing_108 : decode cX12_playing 108 = .ok (.if_icmp .ge 14, 3) := by decide +kernel
theorem dX12_playing_111 : decode cX12_playing 111 = .ok (.aload_n 0, 1) := by decide +kernel
theorem dX12_playing_112 : decode cX12_playing 112 = .ok (.iload_n 3, 1) := by decide +kernel
theorem dX12_playing_113 : decode cX12_playing 113 = .ok (.invokevirtual 261, 3) := by decide +kernel
theorem dX12_playing_116 : decode cX12_playing 116 = .ok (.ifCond .eq 6, 3) := by decide +kernel
theorem dX12_playing_119 : decode cX12_playing 119 = .ok (.goto (-100), 3) := by decide +kernel
theorem dX12_playing_122 : decode cX12_playing 122 = .ok (.iload_n 2, 1) := by decide +kernel
theorem dX12_playing_123 : decode cX12_playing 123 = .ok (.iconst 2, 1) := by decide +kernel
theorem dX12_playing_124 : decode cX12_playing 124 = .ok (.irem, 1) := by decide +kernel
theorem dX12_playing_125 : decode cX12_playing 125 = .ok (.ifCond .ne 22, 3) := by decide +kernel
theorem dX12_playing_128 : decode cX12_playing 128 = .ok (.iload_n 3, 1) := by decide +kernel
theorem dX12_playing_129 : decode cX12_playing 129 = .ok (.iload 4, 2) := by decide +kernel
theorem dX12_playing_131 : decode cX12_playing 131 = .ok (.if_icmp .ge 16, 3) := by decide +kernel
theorem dX12_playing_134 : decode cX12_playing 134 = .ok (.aload_n 0, 1) := by decide +kernel
theorem dX12_playing_135 : decode cX12_playing 135 = .ok (.getfield 7, 3) := by decide +kernel
theorem dX12_playing_138 : decode cX12_playing 138 = .ok (.iload_n 3, 1) := by decide +kernel
theorem dX12_playing_139 : decode cX12_playing 139 = .ok (.invokestatic 211, 3) := by decide +kernel
theorem dX12_playing_142 : decode cX12_playing 142 = .ok (.bipush 6, 2) := by decide +kernel
theorem dX12_playing_144 : decode cX12_playing 144 = .ok (.iadd, 1) := by decide +kernel
theorem dX12_playing_145 : decode cX12_playing 145 = .ok (.iconst 0, 1) := by decide +kernel
theorem dX12_playing_146 : decode cX12_playing 146 = .ok (.iastore, 1) := by decide +kernel
theorem dX12_playing_147 : decode cX12_playing 147 = .ok (.iload_n 2, 1) := by decide +kernel
theorem dX12_playing_148 : decode cX12_playing 148 = .ok (.iconst 2, 1) := by decide +kernel
theorem dX12_playing_149 : decode cX12_playing 149 = .ok (.irem, 1) := by decide +kernel
theorem dX12_playing_150 : decode cX12_playing 150 = .ok (.iconst 1, 1) := by decide +kernel
theorem dX12_playing_151 : decode cX12_playing 151 = .ok (.if_icmp .ne 22, 3) := by decide +kernel
theorem dX12_playing_154 : decode cX12_playing 154 = .ok (.iload_n 3, 1) := by decide +kernel
theorem dX12_playing_155 : decode cX12_playing 155 = .ok (.iload 4, 2) := by decide +kernel
theorem dX12_playing_157 : decode cX12_playing 157 = .ok (.if_icmp .ge 16, 3) := by decide +kernel
theorem dX12_playing_160 : decode cX12_playing 160 = .ok (.aload_n 0, 1) := by decide +kernel
theorem dX12_playing_161 : decode cX12_playing 161 = .ok (.getfield 7, 3) := by decide +kernel
theorem dX12_playing_164 : decode cX12_playing 164 = .ok (.iload_n 3, 1) := by decide +kernel
theorem dX12_playing_165 : decode cX12_playing 165 = .ok (.invokestatic 187, 3) := by decide +kernel
theorem dX12_playing_168 : decode cX12_playing 168 = .ok (.dup2, 1) := by decide +kernel
theorem dX12_playing_169 : decode cX12_playing 169 = .ok (.iaload, 1) := by decide +kernel
theorem dX12_playing_170 : decode cX12_playing 170 = .ok (.iconst 1, 1) := by decide +kernel
theorem dX12_playing_171 : decode cX12_playing 171 = .ok (.iadd, 1) := by decide +kernel
theorem dX12_playing_172 : decode cX12_playing 172 = .ok (.iastore, 1) := by decide +kernel
theorem dX12_playing_173 : decode cX12_playing 173 = .ok (.iload_n 2, 1) := by decide +kernel
theorem dX12_playing_174 : decode cX12_playing 174 = .ok (.iconst 1, 1) := by decide +kernel
theorem dX12_playing_175 : decode cX12_playing 175 = .ok (.iadd, 1) := by decide +kernel
theorem dX12_playing_176 : decode cX12_playing 176 = .ok (.iload_n 1, 1) := by decide +kernel
theorem dX12_playing_177 : decode cX12_playing 177 = .ok (.if_icmp .ne 18, 3) := by decide +kernel
theorem dX12_playing_180 : decode cX12_playing 180 = .ok (.aload_n 0, 1) := by decide +kernel
theorem dX12_playing_181 : decode cX12_playing 181 = .ok (.iload_n 2, 1) := by decide +kernel
theorem dX12_playing_182 : decode cX12_playing 182 = .ok (.aload_n 0, 1) := by decide +kernel
theorem dX12_playing_183 : decode cX12_playing 183 = .ok (.invokevirtual 279, 3) := by decide +kernel
theorem dX12_playing_186 : decode cX12_playing 186 = .ok (.invokestatic 276, 3) := by decide +kernel
theorem dX12_playing_189 : decode cX12_playing 189 = .ok (.invokevirtual 417, 3) := by decide +kernel
theorem dX12_playing_192 : decode cX12_playing 192 = .ok (.goto 11, 3) := by decide +kernel
theorem dX12_playing_195 : decode cX12_playing 195 = .ok (.iinc 2 1, 3) := by decide +kernel
theorem dX12_playing_198 : decode cX12_playing 198 = .ok (.aload_n 0, 1) := by decide +kernel
theorem dX12_playing_199 : decode cX12_playing 199 = .ok (.iload_n 2, 1) := by decide +kernel
theorem dX12_playing_200 : decode cX12_playing 200 = .ok (.invokevirtual 414, 3) := by decide +kernel
theorem dX12_playing_203 : decode cX12_playing 203 = .ok (.goto (-184), 3) := by decide +kernel
theorem dX12_playing_206 : decode cX12_playing 206 = .ok (.aload_n 0, 1) := by decide +kernel
theorem dX12_playing_207 : decode cX12_playing 207 = .ok (.iconst 0, 1) := by decide +kernel
theorem dX12_playing_208 : decode cX12_playing 208 = .ok (.invokestatic 380, 3) := by decide +kernel
theorem dX12_playing_211 : decode cX12_playing 211 = .ok (.invokevirtual 355, 3) := by decide +kernel
theorem dX12_playing_214 : decode cX12_playing 214 = .ok (.aload_n 0, 1) := by decide +kernel
theorem dX12_playing_215 : decode cX12_playing 215 = .ok (.getfield 60, 3) := by decide +kernel
theorem dX12_playing_218 : decode cX12_playing 218 = .ok (.iconst 0, 1) := by decide +kernel
theorem dX12_playing_219 : decode cX12_playing 219 = .ok (.iaload, 1) := by decide +kernel
theorem dX12_playing_220 : decode cX12_playing 220 = .ok (.ireturn, 1) := by decide +kernel
def qX12_playing_b77  (post : Int32 → St → Prop)  (u0 : St) : Prop := qX12_levelAt (0 : Int32) (fun r_39 => qX12_restores r_39 u0 (fun u_41 => post (ga u_41 30 ((0 : Int32)).toNatClampNeg) u_41))
set_option maxRecDepth 100000 in
set_option maxHeartbeats 4000000 in
theorem kX12_playing_b77 {C : Cx} {o0 : Nat} {a0 : Nat → Nat} (hC : Fx C cX12_playing 5 RX12) (hR0 : xR C = rm 6) {post : Int32 → St → Prop} (hR : RI C cX12_playing 5 (fun u : St => (wX12 o0 a0 (xy C) u [])) (fun r u => post r u))  {u0 : St} (h : qX12_playing_b77 post u0) : G C 0 0 5 (wX12 o0 a0 (xy C) u0 []) 77 [(0, .ref o0)] [] := by
  refine g_goto (pc := 77) (tgt := 206) hC dX12_playing_77 (by decide) ?_
  refine g_aload_n (pc := 206) hC 0 dX12_playing_206 rfl rfl ?_
  refine g_iconst (pc := 207) (v := 0) hC dX12_playing_207 (by decide) ?_
  refine g_callS_i (pc := 208) (wd := fun (_ : Unit) Y => Y) (F := fun Z => Z) (X := []) (As := [.int (0 : Int32)]) (rest := [.ref o0]) (u := ()) hC (fun _ _ => rfl) (fun _ => rfl) (ctX12_levelAt h) wvX12_levelAt ml_X12_380 rfl (rmok hR0 rfl) ⟨Nat.zero_le _, Nat.zero_le _⟩ rfl (Nat.le_of_ble_eq_true rfl) dX12_playing_208 (fun r_39 u_40 h => ?_)
  refine g_callV_v (pc := 211) (wd := fun (u : St) Y => (wX12 o0 a0 (xy C) u Y)) (F := fun Z => Z) (X := []) (As := [.int r_39]) (rest := []) (u := u0) hC (fun _ _ => rfl) (fun _ => rfl) (ctX12_restores h) wvX12_restores ml_X12_355 (ci := 10) (q0 := 0) rfl rfl rfl rfl (rmok hR0 rfl) ⟨Nat.zero_le _, Nat.zero_le _⟩ rfl (Nat.le_of_ble_eq_true rfl) dX12_playing_211 (fun u_41 h => ?_)
  refine g_aload_n (pc := 214) hC 0 dX12_playing_214 rfl rfl ?_
  refine getX12_30 (pc := 215) hC (F := fun Z => Z) (X := []) (fun _ => rfl) fl_X12_60 dX12_playing_215 ?_
  refine g_iconst (pc := 218) (v := 0) hC dX12_playing_218 (by decide) ?_
  refine aldX12_30 (pc := 219) hC (F := fun Z => Z) (X := []) (fun _ => rfl) (by unfold vp_in; decide) dX12_playing_219 ?_
  exact hR _ _ _ u_41 dX12_playing_220 h
def qX12_playing_b203  (post : Int32 → St → Prop) (K19 : Int32 → Int32 → St → Prop) (x1 : Int32) (x2 : Int32) (u0 : St) : Prop := K19 x1 x2 u0
set_option maxRecDepth 100000 in
set_option maxHeartbeats 4000000 in
theorem kX12_playing_b203 {C : Cx} {o0 : Nat} {a0 : Nat → Nat} (hC : Fx C cX12_playing 5 RX12) (hR0 : xR C = rm 6) {post : Int32 → St → Prop} (hR : RI C cX12_playing 5 (fun u : St => (wX12 o0 a0 (xy C) u [])) (fun r u => post r u)) {K19 : Int32 → Int32 → St → Prop} (hK19 : ∀ (x1 : Int32) (x2 : Int32) (u0 : St), K19 x1 x2 u0 → G C 0 0 5 (wX12 o0 a0 (xy C) u0 []) 19 [(0, .ref o0), (1, .int x1), (2, .int x2)] []) {x1 : Int32} {x2 : Int32} {u0 : St} (h : qX12_playing_b203 post K19 x1 x2 u0) : G C 0 0 5 (wX12 o0 a0 (xy C) u0 []) 203 [(0, .ref o0), (1, .int x1), (2, .int x2)] [] := by
  refine g_goto (pc := 203) (tgt := 19) hC dX12_playing_203 (by decide) ?_
  exact hK19 _ _ _ h
def qX12_playing_b173  (post : Int32 → St → Prop) (K19 : Int32 → Int32 → St → Prop) (x1 : Int32) (x2 : Int32) (u0 : St) : Prop := ((¬ (x2 + (1 : Int32)) = x1 → ∀ x2_44 : Int32, x2_44 = x2 + (1 : Int32) → qX12_beginsAt x2_44 u0 (fun u_45 => qX12_playing_b203 post K19 x1 x2_44 u_45)) ∧ ((x2 + (1 : Int32)) = x1 → qX12_standsNow u0 (fun r_48 u_47 => qX12_bits r_48 (fun r_50 => qX12_settles x2 r_50 u_47 (fun u_52 => qX12_playing_b203 post K19 x1 x2 u_52)))))
set_option maxRecDepth 100000 in
set_option maxHeartbeats 4000000 in
theorem kX12_playing_b173 {C : Cx} {o0 : Nat} {a0 : Nat → Nat} (hC : Fx C cX12_playing 5 RX12) (hR0 : xR C = rm 6) {post : Int32 → St → Prop} (hR : RI C cX12_playing 5 (fun u : St => (wX12 o0 a0 (xy C) u [])) (fun r u => post r u)) {K19 : Int32 → Int32 → St → Prop} (hK19 : ∀ (x1 : Int32) (x2 : Int32) (u0 : St), K19 x1 x2 u0 → G C 0 0 5 (wX12 o0 a0 (xy C) u0 []) 19 [(0, .ref o0), (1, .int x1), (2, .int x2)] []) {x1 : Int32} {x2 : Int32} {u0 : St} (h : qX12_playing_b173 post K19 x1 x2 u0) : G C 0 0 5 (wX12 o0 a0 (xy C) u0 []) 173 [(0, .ref o0), (1, .int x1), (2, .int x2)] [] := by
  refine g_iload_n (pc := 173) hC 2 dX12_playing_173 rfl rfl ?_
  refine g_iconst (pc := 174) (v := 1) hC dX12_playing_174 (by decide) ?_
  refine g_iadd (pc := 175) hC dX12_playing_175 ?_
  refine g_iload_n (pc := 176) hC 1 dX12_playing_176 rfl rfl ?_
  refine g_icmp_ne (pc := 177) (tgt := 195) hC dX12_playing_177 (by decide) (fun c_43 => ?_) (fun c_43 => ?_)
  · have h := h.1 c_43
    obtain ⟨x2_44, ex2_44⟩ : ∃ z : Int32, z = x2 + (1 : Int32) := ⟨_, rfl⟩
    have h := h x2_44 ex2_44
    refine g_iinc (pc := 195) (v := x2_44) (lv' := [(2, .int x2_44), (0, .ref o0), (1, .int x1)]) hC 2 dX12_playing_195 rfl (by rw [ex2_44]; rfl) (Nat.le_of_ble_eq_true rfl) rfl ?_
    refine g_aload_n (pc := 198) hC 1 dX12_playing_198 rfl rfl ?_
    refine g_iload_n (pc := 199) hC 0 dX12_playing_199 rfl rfl ?_
    refine g_callV_v (pc := 200) (wd := fun (u : St) Y => (wX12 o0 a0 (xy C) u Y)) (F := fun Z => Z) (X := []) (As := [.int x2_44]) (rest := []) (u := u0) hC (fun _ _ => rfl) (fun _ => rfl) (ctX12_beginsAt h) wvX12_beginsAt ml_X12_414 (ci := 10) (q0 := 0) rfl rfl rfl rfl (rmok hR0 rfl) ⟨Nat.zero_le _, Nat.zero_le _⟩ rfl (Nat.le_of_ble_eq_true rfl) dX12_playing_200 (fun u_45 h => ?_)
    refine g_sub (lv' := [(0, .ref o0), (1, .int x1), (2, .int x2_44)]) [1, 2, 0] rfl ?_
    exact kX12_playing_b203 hC hR0 hR hK19 h
  · have h := h.2 c_43
    refine g_aload_n (pc := 180) hC 0 dX12_playing_180 rfl rfl ?_
    refine g_iload_n (pc := 181) hC 2 dX12_playing_181 rfl rfl ?_
    refine g_aload_n (pc := 182) hC 0 dX12_playing_182 rfl rfl ?_
    refine g_callV_i (pc := 183) (wd := fun (u : St) Y => (wX12 o0 a0 (xy C) u Y)) (F := fun Z => Z) (X := []) (As := []) (rest := [.int x2, .ref o0]) (u := u0) hC (fun _ _ => rfl) (fun _ => rfl) (ctX12_standsNow h) wvX12_standsNow ml_X12_279 (ci := 10) (q0 := 0) rfl rfl rfl rfl (rmok hR0 rfl) ⟨Nat.zero_le _, Nat.zero_le _⟩ rfl (Nat.le_of_ble_eq_true rfl) dX12_playing_183 (fun r_48 u_47 h => ?_)
    refine g_callS_i (pc := 186) (wd := fun (_ : Unit) Y => Y) (F := fun Z => Z) (X := []) (As := [.int r_48]) (rest := [.int x2, .ref o0]) (u := ()) hC (fun _ _ => rfl) (fun _ => rfl) (ctX12_bits h) wvX12_bits ml_X12_276 rfl (rmok hR0 rfl) ⟨Nat.zero_le _, Nat.zero_le _⟩ rfl (Nat.le_of_ble_eq_true rfl) dX12_playing_186 (fun r_50 u_51 h => ?_)
    refine g_callV_v (pc := 189) (wd := fun (u : St) Y => (wX12 o0 a0 (xy C) u Y)) (F := fun Z => Z) (X := []) (As := [.int x2, .int r_50]) (rest := []) (u := u_47) hC (fun _ _ => rfl) (fun _ => rfl) (ctX12_settles h) wvX12_settles ml_X12_417 (ci := 10) (q0 := 0) rfl rfl rfl rfl (rmok hR0 rfl) ⟨Nat.zero_le _, Nat.zero_le _⟩ rfl (Nat.le_of_ble_eq_true rfl) dX12_playing_189 (fun u_52 h => ?_)
    refine g_goto (pc := 192) (tgt := 203) hC dX12_playing_192 (by decide) ?_
    exact kX12_playing_b203 hC hR0 hR hK19 h
def qX12_playing_b147  (post : Int32 → St → Prop) (K19 : Int32 → Int32 → St → Prop) (x1 : Int32) (x2 : Int32) (x3 : Int32) (x4 : Int32) (u0 : St) : Prop := ((¬ (x2 - x2 / (2 : Int32) * (2 : Int32)) = (1 : Int32) → qX12_playing_b173 post K19 x1 x2 u0) ∧ ((x2 - x2 / (2 : Int32) * (2 : Int32)) = (1 : Int32) → ((x4 ≤ x3 → qX12_playing_b173 post K19 x1 x2 u0) ∧ (¬ x4 ≤ x3 → qX12_stoneRow x3 (fun r_56 => (vp_in r_56 3072 ∧ (vp_in r_56 3072 ∧ ∀ u_58 : St, u_58 = (sw u0 0 (upd (ga u0 0) (r_56).toNatClampNeg ((ga u0 0 (r_56).toNatClampNeg) + (1 : Int32)))) → qX12_playing_b173 post K19 x1 x2 u_58)))))))
set_option maxRecDepth 100000 in
set_option maxHeartbeats 4000000 in
theorem kX12_playing_b147 {C : Cx} {o0 : Nat} {a0 : Nat → Nat} (hC : Fx C cX12_playing 5 RX12) (hR0 : xR C = rm 6) {post : Int32 → St → Prop} (hR : RI C cX12_playing 5 (fun u : St => (wX12 o0 a0 (xy C) u [])) (fun r u => post r u)) {K19 : Int32 → Int32 → St → Prop} (hK19 : ∀ (x1 : Int32) (x2 : Int32) (u0 : St), K19 x1 x2 u0 → G C 0 0 5 (wX12 o0 a0 (xy C) u0 []) 19 [(0, .ref o0), (1, .int x1), (2, .int x2)] []) {x1 : Int32} {x2 : Int32} {x3 : Int32} {x4 : Int32} {u0 : St} (h : qX12_playing_b147 post K19 x1 x2 x3 x4 u0) : G C 0 0 5 (wX12 o0 a0 (xy C) u0 []) 147 [(0, .ref o0), (1, .int x1), (2, .int x2), (3, .int x3), (4, .int x4)] [] := by
  refine g_iload_n (pc := 147) hC 2 dX12_playing_147 rfl rfl ?_
  refine g_iconst (pc := 148) (v := 2) hC dX12_playing_148 (by decide) ?_
  refine g_irem (pc := 149) hC dX12_playing_149 (by decide) ?_
  refine g_iconst (pc := 150) (v := 1) hC dX12_playing_150 (by decide) ?_
  refine g_icmp_ne (pc := 151) (tgt := 173) hC dX12_playing_151 (by decide) (fun c_54 => ?_) (fun c_54 => ?_)
  · have h := h.1 c_54
    refine g_sub (lv' := [(0, .ref o0), (1, .int x1), (2, .int x2)]) [0, 1, 2] rfl ?_
    exact kX12_playing_b173 hC hR0 hR hK19 h
  · have h := h.2 c_54
    refine g_iload_n (pc := 154) hC 3 dX12_playing_154 rfl rfl ?_
    refine g_iload (pc := 155) hC 4 dX12_playing_155 rfl ?_
    refine g_icmp_ge (pc := 157) (tgt := 173) hC dX12_playing_157 (by decide) (fun c_55 => ?_) (fun c_55 => ?_)
    · have h := h.1 c_55
      refine g_sub (lv' := [(0, .ref o0), (1, .int x1), (2, .int x2)]) [0, 1, 2] rfl ?_
      exact kX12_playing_b173 hC hR0 hR hK19 h
    · have h := h.2 c_55
      refine g_aload_n (pc := 160) hC 0 dX12_playing_160 rfl rfl ?_
      refine getX12_0 (pc := 161) hC (F := fun Z => Z) (X := []) (fun _ => rfl) fl_X12_7 dX12_playing_161 ?_
      refine g_iload_n (pc := 164) hC 3 dX12_playing_164 rfl rfl ?_
      refine g_callS_i (pc := 165) (wd := fun (_ : Unit) Y => Y) (F := fun Z => Z) (X := []) (As := [.int x3]) (rest := [.ref (a0 0)]) (u := ()) hC (fun _ _ => rfl) (fun _ => rfl) (ctX12_stoneRow h) wvX12_stoneRow ml_X12_187 rfl (rmok hR0 rfl) ⟨Nat.zero_le _, Nat.zero_le _⟩ rfl (Nat.le_of_ble_eq_true rfl) dX12_playing_165 (fun r_56 u_57 h => ?_)
      refine g_dup2 (pc := 168) hC dX12_playing_168 rfl rfl ?_
      refine aldX12_0 (pc := 169) hC (F := fun Z => Z) (X := []) (fun _ => rfl) h.1 dX12_playing_169 ?_
      have h := h.2
      refine g_iconst (pc := 170) (v := 1) hC dX12_playing_170 (by decide) ?_
      refine g_iadd (pc := 171) hC dX12_playing_171 ?_
      refine astX12_0 (pc := 172) hC (F := fun Z => Z) (X := []) (fun _ => rfl) h.1 dX12_playing_172 ?_
      have h := h.2
      refine g_st (w := fun z => (wX12 o0 a0 (xy C) z [])) (u := (sw u0 0 (upd (ga u0 0) (r_56).toNatClampNeg ((ga u0 0 (r_56).toNatClampNeg) + (1 : Int32))))) (fun u_58 eu_58 => ?_)
      have h := h u_58 eu_58
      refine g_sub (lv' := [(0, .ref o0), (1, .int x1), (2, .int x2)]) [0, 1, 2] rfl ?_
      exact kX12_playing_b173 hC hR0 hR hK19 h
def qX12_playing_b122  (post : Int32 → St → Prop) (K19 : Int32 → Int32 → St → Prop) (x1 : Int32) (x2 : Int32) (x3 : Int32) (x4 : Int32) (u0 : St) : Prop := ((¬ (x2 - x2 / (2 : Int32) * (2 : Int32)) = 0 → qX12_playing_b147 post K19 x1 x2 x3 x4 u0) ∧ ((x2 - x2 / (2 : Int32) * (2 : Int32)) = 0 → ((x4 ≤ x3 → qX12_playing_b147 post K19 x1 x2 x3 x4 u0) ∧ (¬ x4 ≤ x3 → qX12_debtRow x3 (fun r_61 => (vp_in (r_61 + (6 : Int32)) 3072 ∧ ∀ u_63 : St, u_63 = (sw u0 0 (upd (ga u0 0) ((r_61 + (6 : Int32))).toNatClampNeg (0 : Int32))) → qX12_playing_b147 post K19 x1 x2 x3 x4 u_63))))))
set_option maxRecDepth 100000 in
set_option maxHeartbeats 4000000 in
theorem kX12_playing_b122 {C : Cx} {o0 : Nat} {a0 : Nat → Nat} (hC : Fx C cX12_playing 5 RX12) (hR0 : xR C = rm 6) {post : Int32 → St → Prop} (hR : RI C cX12_playing 5 (fun u : St => (wX12 o0 a0 (xy C) u [])) (fun r u => post r u)) {K19 : Int32 → Int32 → St → Prop} (hK19 : ∀ (x1 : Int32) (x2 : Int32) (u0 : St), K19 x1 x2 u0 → G C 0 0 5 (wX12 o0 a0 (xy C) u0 []) 19 [(0, .ref o0), (1, .int x1), (2, .int x2)] []) {x1 : Int32} {x2 : Int32} {x3 : Int32} {x4 : Int32} {u0 : St} (h : qX12_playing_b122 post K19 x1 x2 x3 x4 u0) : G C 0 0 5 (wX12 o0 a0 (xy C) u0 []) 122 [(0, .ref o0), (1, .int x1), (2, .int x2), (3, .int x3), (4, .int x4)] [] := by
  refine g_iload_n (pc := 122) hC 2 dX12_playing_122 rfl rfl ?_
  refine g_iconst (pc := 123) (v := 2) hC dX12_playing_123 (by decide) ?_
  refine g_irem (pc := 124) hC dX12_playing_124 (by decide) ?_
  refine g_if_ne (pc := 125) (tgt := 147) hC dX12_playing_125 (by decide) (fun c_59 => ?_) (fun c_59 => ?_)
  · have h := h.1 c_59
    exact kX12_playing_b147 hC hR0 hR hK19 h
  · have h := h.2 c_59
    refine g_iload_n (pc := 128) hC 3 dX12_playing_128 rfl rfl ?_
    refine g_iload (pc := 129) hC 4 dX12_playing_129 rfl ?_
    refine g_icmp_ge (pc := 131) (tgt := 147) hC dX12_playing_131 (by decide) (fun c_60 => ?_) (fun c_60 => ?_)
    · have h := h.1 c_60
      exact kX12_playing_b147 hC hR0 hR hK19 h
    · have h := h.2 c_60
      refine g_aload_n (pc := 134) hC 0 dX12_playing_134 rfl rfl ?_
      refine getX12_0 (pc := 135) hC (F := fun Z => Z) (X := []) (fun _ => rfl) fl_X12_7 dX12_playing_135 ?_
      refine g_iload_n (pc := 138) hC 3 dX12_playing_138 rfl rfl ?_
      refine g_callS_i (pc := 139) (wd := fun (_ : Unit) Y => Y) (F := fun Z => Z) (X := []) (As := [.int x3]) (rest := [.ref (a0 0)]) (u := ()) hC (fun _ _ => rfl) (fun _ => rfl) (ctX12_debtRow h) wvX12_debtRow ml_X12_211 rfl (rmok hR0 rfl) ⟨Nat.zero_le _, Nat.zero_le _⟩ rfl (Nat.le_of_ble_eq_true rfl) dX12_playing_139 (fun r_61 u_62 h => ?_)
      refine g_bipush (pc := 142) (v := 6) hC dX12_playing_142 (by decide) ?_
      refine g_iadd (pc := 144) hC dX12_playing_144 ?_
      refine g_iconst (pc := 145) (v := 0) hC dX12_playing_145 (by decide) ?_
      refine astX12_0 (pc := 146) hC (F := fun Z => Z) (X := []) (fun _ => rfl) h.1 dX12_playing_146 ?_
      have h := h.2
      refine g_st (w := fun z => (wX12 o0 a0 (xy C) z [])) (u := (sw u0 0 (upd (ga u0 0) ((r_61 + (6 : Int32))).toNatClampNeg (0 : Int32)))) (fun u_63 eu_63 => ?_)
      have h := h u_63 eu_63
      exact kX12_playing_b147 hC hR0 hR hK19 h
def qX12_playing_b65  (post : Int32 → St → Prop) (K19 : Int32 → Int32 → St → Prop) (x1 : Int32) (x2 : Int32) (x3 : Int32) (s0 : Int32) (u0 : St) : Prop := ((x3 ≤ s0 → ((¬ (x2 - x2 / (2 : Int32) * (2 : Int32)) = 0 → qX12_playing_b122 post K19 x1 x2 x3 s0 u0) ∧ ((x2 - x2 / (2 : Int32) * (2 : Int32)) = 0 → ((s0 ≤ x3 → qX12_playing_b122 post K19 x1 x2 x3 s0 u0) ∧ (¬ s0 ≤ x3 → qX12_isPaidUp x3 u0 (fun r_68 u_67 => ((r_68 = 0 → qX12_playing_b122 post K19 x1 x2 x3 s0 u_67) ∧ (¬ r_68 = 0 → K19 x1 x2 u_67)))))))) ∧ (¬ x3 ≤ s0 → ((¬ x2 = 0 → ∀ x2_72 : Int32, x2_72 = x2 + (-1 : Int32) → (vp_in (x2_72 + (1 : Int32)) 5 ∧ qX12_settles x2_72 (ga u0 30 ((x2_72 + (1 : Int32))).toNatClampNeg) u0 (fun u_73 => K19 x1 x2_72 u_73))) ∧ (x2 = 0 → qX12_playing_b77 post u0))))
set_option maxRecDepth 100000 in
set_option maxHeartbeats 4000000 in
theorem kX12_playing_b65 {C : Cx} {o0 : Nat} {a0 : Nat → Nat} (hC : Fx C cX12_playing 5 RX12) (hR0 : xR C = rm 6) {post : Int32 → St → Prop} (hR : RI C cX12_playing 5 (fun u : St => (wX12 o0 a0 (xy C) u [])) (fun r u => post r u)) {K19 : Int32 → Int32 → St → Prop} (hK19 : ∀ (x1 : Int32) (x2 : Int32) (u0 : St), K19 x1 x2 u0 → G C 0 0 5 (wX12 o0 a0 (xy C) u0 []) 19 [(0, .ref o0), (1, .int x1), (2, .int x2)] []) {x1 : Int32} {x2 : Int32} {x3 : Int32} {s0 : Int32} {u0 : St} (h : qX12_playing_b65 post K19 x1 x2 x3 s0 u0) : G C 0 0 5 (wX12 o0 a0 (xy C) u0 []) 65 [(0, .ref o0), (1, .int x1), (2, .int x2), (3, .int x3)] [.int s0] := by
  refine g_istore (pc := 65) (lv' := [(4, .int s0), (0, .ref o0), (1, .int x1), (2, .int x2), (3, .int x3)]) hC dX12_playing_65 (Nat.le_of_ble_eq_true rfl) rfl ?_
  refine g_iload_n (pc := 67) hC 4 dX12_playing_67 rfl rfl ?_
  refine g_iload (pc := 68) hC 0 dX12_playing_68 rfl ?_
  refine g_icmp_le (pc := 70) (tgt := 99) hC dX12_playing_70 (by decide) (fun c_64 => ?_) (fun c_64 => ?_)
  · have h := h.1 c_64
    refine g_iload_n (pc := 99) hC 3 dX12_playing_99 rfl rfl ?_
    refine g_iconst (pc := 100) (v := 2) hC dX12_playing_100 (by decide) ?_
    refine g_irem (pc := 101) hC dX12_playing_101 (by decide) ?_
    refine g_if_ne (pc := 102) (tgt := 122) hC dX12_playing_102 (by decide) (fun c_65 => ?_) (fun c_65 => ?_)
    · have h := h.1 c_65
      refine g_sub (lv' := [(0, .ref o0), (1, .int x1), (2, .int x2), (3, .int x3), (4, .int s0)]) [1, 2, 3, 4, 0] rfl ?_
      exact kX12_playing_b122 hC hR0 hR hK19 h
    · have h := h.2 c_65
      refine g_iload_n (pc := 105) hC 4 dX12_playing_105 rfl rfl ?_
      refine g_iload (pc := 106) hC 0 dX12_playing_106 rfl ?_
      refine g_icmp_ge (pc := 108) (tgt := 122) hC dX12_playing_108 (by decide) (fun c_66 => ?_) (fun c_66 => ?_)
      · have h := h.1 c_66
        refine g_sub (lv' := [(0, .ref o0), (1, .int x1), (2, .int x2), (3, .int x3), (4, .int s0)]) [1, 2, 3, 4, 0] rfl ?_
        exact kX12_playing_b122 hC hR0 hR hK19 h
      · have h := h.2 c_66
        refine g_aload_n (pc := 111) hC 1 dX12_playing_111 rfl rfl ?_
        refine g_iload_n (pc := 112) hC 4 dX12_playing_112 rfl rfl ?_
        refine g_callV_i (pc := 113) (wd := fun (u : St) Y => (wX12 o0 a0 (xy C) u Y)) (F := fun Z => Z) (X := []) (As := [.int x3]) (rest := []) (u := u0) hC (fun _ _ => rfl) (fun _ => rfl) (ctX12_isPaidUp h) wvX12_isPaidUp ml_X12_261 (ci := 10) (q0 := 0) rfl rfl rfl rfl (rmok hR0 rfl) ⟨Nat.zero_le _, Nat.zero_le _⟩ rfl (Nat.le_of_ble_eq_true rfl) dX12_playing_113 (fun r_68 u_67 h => ?_)
        refine g_if_eq (pc := 116) (tgt := 122) hC dX12_playing_116 (by decide) (fun c_70 => ?_) (fun c_70 => ?_)
        · have h := h.1 c_70
          refine g_sub (lv' := [(0, .ref o0), (1, .int x1), (2, .int x2), (3, .int x3), (4, .int s0)]) [1, 2, 3, 4, 0] rfl ?_
          exact kX12_playing_b122 hC hR0 hR hK19 h
        · have h := h.2 c_70
          refine g_goto (pc := 119) (tgt := 19) hC dX12_playing_119 (by decide) ?_
          refine g_sub (lv' := [(0, .ref o0), (1, .int x1), (2, .int x2)]) [1, 2, 3] rfl ?_
          exact hK19 _ _ _ h
  · have h := h.2 c_64
    refine g_iload_n (pc := 73) hC 3 dX12_playing_73 rfl rfl ?_
    refine g_if_ne (pc := 74) (tgt := 80) hC dX12_playing_74 (by decide) (fun c_71 => ?_) (fun c_71 => ?_)
    · have h := h.1 c_71
      obtain ⟨x2_72, ex2_72⟩ : ∃ z : Int32, z = x2 + (-1 : Int32) := ⟨_, rfl⟩
      have h := h x2_72 ex2_72
      refine g_iinc (pc := 80) (v := x2_72) (lv' := [(2, .int x2_72), (4, .int s0), (0, .ref o0), (1, .int x1), (3, .int x3)]) hC 3 dX12_playing_80 rfl (by rw [ex2_72]; rfl) (Nat.le_of_ble_eq_true rfl) rfl ?_
      refine g_aload_n (pc := 83) hC 2 dX12_playing_83 rfl rfl ?_
      refine g_iload_n (pc := 84) hC 0 dX12_playing_84 rfl rfl ?_
      refine g_aload_n (pc := 85) hC 2 dX12_playing_85 rfl rfl ?_
      refine getX12_30 (pc := 86) hC (F := fun Z => Z) (X := []) (fun _ => rfl) fl_X12_60 dX12_playing_86 ?_
      refine g_iload_n (pc := 89) hC 0 dX12_playing_89 rfl rfl ?_
      refine g_iconst (pc := 90) (v := 1) hC dX12_playing_90 (by decide) ?_
      refine g_iadd (pc := 91) hC dX12_playing_91 ?_
      refine aldX12_30 (pc := 92) hC (F := fun Z => Z) (X := []) (fun _ => rfl) h.1 dX12_playing_92 ?_
      have h := h.2
      refine g_callV_v (pc := 93) (wd := fun (u : St) Y => (wX12 o0 a0 (xy C) u Y)) (F := fun Z => Z) (X := []) (As := [.int x2_72, .int (ga u0 30 ((x2_72 + (1 : Int32))).toNatClampNeg)]) (rest := []) (u := u0) hC (fun _ _ => rfl) (fun _ => rfl) (ctX12_settles h) wvX12_settles ml_X12_417 (ci := 10) (q0 := 0) rfl rfl rfl rfl (rmok hR0 rfl) ⟨Nat.zero_le _, Nat.zero_le _⟩ rfl (Nat.le_of_ble_eq_true rfl) dX12_playing_93 (fun u_73 h => ?_)
      refine g_goto (pc := 96) (tgt := 19) hC dX12_playing_96 (by decide) ?_
      refine g_sub (lv' := [(0, .ref o0), (1, .int x1), (2, .int x2_72)]) [2, 3, 0] rfl ?_
      exact hK19 _ _ _ h
    · have h := h.2 c_71
      refine g_sub (lv' := [(0, .ref o0)]) [1] rfl ?_
      exact kX12_playing_b77 hC hR0 hR  h
def qX12_playing_l19  (post : Int32 → St → Prop) (K19 : Int32 → Int32 → St → Prop) (x1 : Int32) (x2 : Int32) (u0 : St) : Prop := qX12_levelAt x2 (fun r_75 => qX12_restores r_75 u0 (fun u_77 => (vp_in x2 5 ∧ (vp_in x2 5 ∧ ∀ u_79 : St, u_79 = (sw u_77 29 (upd (ga u_77 29) (x2).toNatClampNeg ((ga u_77 29 (x2).toNatClampNeg) + (1 : Int32)))) → (vp_in x2 5 ∧ ∀ x3_80 : Int32, x3_80 = (ga u_79 29 (x2).toNatClampNeg) → ((¬ (x2 - x2 / (2 : Int32) * (2 : Int32)) = 0 → qX12_playing_b65 post K19 x1 x2 x3_80 (ga u_79 0 ((0 : Int32)).toNatClampNeg) u_79) ∧ ((x2 - x2 / (2 : Int32) * (2 : Int32)) = 0 → qX12_playing_b65 post K19 x1 x2 x3_80 (ga u_79 0 ((2 : Int32)).toNatClampNeg) u_79)))))))
set_option maxRecDepth 100000 in
set_option maxHeartbeats 4000000 in
theorem kX12_playing_l19 {C : Cx} {o0 : Nat} {a0 : Nat → Nat} (hC : Fx C cX12_playing 5 RX12) (hR0 : xR C = rm 6) {post : Int32 → St → Prop} (hR : RI C cX12_playing 5 (fun u : St => (wX12 o0 a0 (xy C) u [])) (fun r u => post r u))  {K19 : Int32 → Int32 → St → Prop} (hK19 : ∀ (x1 : Int32) (x2 : Int32) (u0 : St), K19 x1 x2 u0 → G C 0 0 5 (wX12 o0 a0 (xy C) u0 []) 19 [(0, .ref o0), (1, .int x1), (2, .int x2)] []) {x1 : Int32} {x2 : Int32} {u0 : St} (h : qX12_playing_l19 post K19 x1 x2 u0) : G C 0 0 5 (wX12 o0 a0 (xy C) u0 []) 19 [(0, .ref o0), (1, .int x1), (2, .int x2)] [] := by
  refine g_aload_n (pc := 19) hC 0 dX12_playing_19 rfl rfl ?_
  refine g_iload_n (pc := 20) hC 2 dX12_playing_20 rfl rfl ?_
  refine g_callS_i (pc := 21) (wd := fun (_ : Unit) Y => Y) (F := fun Z => Z) (X := []) (As := [.int x2]) (rest := [.ref o0]) (u := ()) hC (fun _ _ => rfl) (fun _ => rfl) (ctX12_levelAt h) wvX12_levelAt ml_X12_380 rfl (rmok hR0 rfl) ⟨Nat.zero_le _, Nat.zero_le _⟩ rfl (Nat.le_of_ble_eq_true rfl) dX12_playing_21 (fun r_75 u_76 h => ?_)
  refine g_callV_v (pc := 24) (wd := fun (u : St) Y => (wX12 o0 a0 (xy C) u Y)) (F := fun Z => Z) (X := []) (As := [.int r_75]) (rest := []) (u := u0) hC (fun _ _ => rfl) (fun _ => rfl) (ctX12_restores h) wvX12_restores ml_X12_355 (ci := 10) (q0 := 0) rfl rfl rfl rfl (rmok hR0 rfl) ⟨Nat.zero_le _, Nat.zero_le _⟩ rfl (Nat.le_of_ble_eq_true rfl) dX12_playing_24 (fun u_77 h => ?_)
  refine g_aload_n (pc := 27) hC 0 dX12_playing_27 rfl rfl ?_
  refine getX12_29 (pc := 28) hC (F := fun Z => Z) (X := []) (fun _ => rfl) fl_X12_57 dX12_playing_28 ?_
  refine g_iload_n (pc := 31) hC 2 dX12_playing_31 rfl rfl ?_
  refine g_dup2 (pc := 32) hC dX12_playing_32 rfl rfl ?_
  refine aldX12_29 (pc := 33) hC (F := fun Z => Z) (X := []) (fun _ => rfl) h.1 dX12_playing_33 ?_
  have h := h.2
  refine g_iconst (pc := 34) (v := 1) hC dX12_playing_34 (by decide) ?_
  refine g_iadd (pc := 35) hC dX12_playing_35 ?_
  refine astX12_29 (pc := 36) hC (F := fun Z => Z) (X := []) (fun _ => rfl) h.1 dX12_playing_36 ?_
  have h := h.2
  refine g_st (w := fun z => (wX12 o0 a0 (xy C) z [])) (u := (sw u_77 29 (upd (ga u_77 29) (x2).toNatClampNeg ((ga u_77 29 (x2).toNatClampNeg) + (1 : Int32))))) (fun u_79 eu_79 => ?_)
  have h := h u_79 eu_79
  refine g_aload_n (pc := 37) hC 0 dX12_playing_37 rfl rfl ?_
  refine getX12_29 (pc := 38) hC (F := fun Z => Z) (X := []) (fun _ => rfl) fl_X12_57 dX12_playing_38 ?_
  refine g_iload_n (pc := 41) hC 2 dX12_playing_41 rfl rfl ?_
  refine aldX12_29 (pc := 42) hC (F := fun Z => Z) (X := []) (fun _ => rfl) h.1 dX12_playing_42 ?_
  have h := h.2
  refine g_topi (fun x3_80 ex3_80 => ?_)
  have h := h x3_80 ex3_80
  refine g_istore_n (pc := 43) (lv' := [(3, .int x3_80), (0, .ref o0), (1, .int x1), (2, .int x2)]) hC dX12_playing_43 rfl (Nat.le_of_ble_eq_true rfl) rfl ?_
  refine g_iload_n (pc := 44) hC 3 dX12_playing_44 rfl rfl ?_
  refine g_iconst (pc := 45) (v := 2) hC dX12_playing_45 (by decide) ?_
  refine g_irem (pc := 46) hC dX12_playing_46 (by decide) ?_
  refine g_if_ne (pc := 47) (tgt := 59) hC dX12_playing_47 (by decide) (fun c_81 => ?_) (fun c_81 => ?_)
  · have h := h.1 c_81
    refine g_aload_n (pc := 59) hC 1 dX12_playing_59 rfl rfl ?_
    refine getX12_0 (pc := 60) hC (F := fun Z => Z) (X := []) (fun _ => rfl) fl_X12_7 dX12_playing_60 ?_
    refine g_iconst (pc := 63) (v := 0) hC dX12_playing_63 (by decide) ?_
    refine aldX12_0 (pc := 64) hC (F := fun Z => Z) (X := []) (fun _ => rfl) (by unfold vp_in; decide) dX12_playing_64 ?_
    refine g_sub (lv' := [(0, .ref o0), (1, .int x1), (2, .int x2), (3, .int x3_80)]) [1, 2, 3, 0] rfl ?_
    exact kX12_playing_b65 hC hR0 hR hK19 h
  · have h := h.2 c_81
    refine g_aload_n (pc := 50) hC 1 dX12_playing_50 rfl rfl ?_
    refine getX12_0 (pc := 51) hC (F := fun Z => Z) (X := []) (fun _ => rfl) fl_X12_7 dX12_playing_51 ?_
    refine g_iconst (pc := 54) (v := 2) hC dX12_playing_54 (by decide) ?_
    refine aldX12_0 (pc := 55) hC (F := fun Z => Z) (X := []) (fun _ => rfl) (by unfold vp_in; decide) dX12_playing_55 ?_
    refine g_goto (pc := 56) (tgt := 65) hC dX12_playing_56 (by decide) ?_
    refine g_sub (lv' := [(0, .ref o0), (1, .int x1), (2, .int x2), (3, .int x3_80)]) [1, 2, 3, 0] rfl ?_
    exact kX12_playing_b65 hC hR0 hR hK19 h
def qX12_playing_L19  (post : Int32 → St → Prop)  : Nat → Int32 → Int32 → St → Prop
  | 0 => fun _ _ _ => False
  | n + 1 => qX12_playing_l19 post (qX12_playing_L19 post n)
theorem kX12_playing_L19 {C : Cx} {o0 : Nat} {a0 : Nat → Nat} (hC : Fx C cX12_playing 5 RX12) (hR0 : xR C = rm 6) {post : Int32 → St → Prop} (hR : RI C cX12_playing 5 (fun u : St => (wX12 o0 a0 (xy C) u [])) (fun r u => post r u))  : ∀ (n : Nat) (x1 : Int32) (x2 : Int32) (u0 : St), qX12_playing_L19 post n x1 x2 u0 → G C 0 0 5 (wX12 o0 a0 (xy C) u0 []) 19 [(0, .ref o0), (1, .int x1), (2, .int x2)] [] := by
  intro n
  induction n with
  | zero => intro x1 x2 u0 h; exact h.elim
  | succ n ih => intro x1 x2 u0 h; exact kX12_playing_l19 hC hR0 hR  ih h
def qX12_playing (x1 : Int32) (u0 : St) (post : Int32 → St → Prop) : Prop := ((¬ x1 = 0 → qX12_beginsAt (0 : Int32) u0 (fun u_83 => ∃ n_85 : Nat, qX12_playing_L19 post n_85 x1 (0 : Int32) u_83)) ∧ (x1 = 0 → qX12_standsNow u0 (fun r_87 u_86 => qX12_bits r_87 (fun r_89 => post r_89 u_86))))
set_option maxRecDepth 100000 in
set_option maxHeartbeats 4000000 in
theorem kX12_playing {C : Cx} {o0 : Nat} {a0 : Nat → Nat} (hC : Fx C cX12_playing 5 RX12) (hR0 : xR C = rm 6) {post : Int32 → St → Prop} (hR : RI C cX12_playing 5 (fun u : St => (wX12 o0 a0 (xy C) u [])) (fun r u => post r u)) {x1 : Int32} {u0 : St} (h : qX12_playing x1 u0 post) : G C 0 0 5 (wX12 o0 a0 (xy C) u0 []) 0 [(0, .ref o0), (1, .int x1)] [] := by
  refine g_iload_n (pc := 0) hC 1 dX12_playing_0 rfl rfl ?_
  refine g_if_ne (pc := 1) (tgt := 12) hC dX12_playing_1 (by decide) (fun c_82 => ?_) (fun c_82 => ?_)
  · have h := h.1 c_82
    refine g_iconst (pc := 12) (v := 0) hC dX12_playing_12 (by decide) ?_
    refine g_istore_n (pc := 13) (lv' := [(2, .int (0 : Int32)), (0, .ref o0), (1, .int x1)]) hC dX12_playing_13 rfl (Nat.le_of_ble_eq_true rfl) rfl ?_
    refine g_aload_n (pc := 14) hC 1 dX12_playing_14 rfl rfl ?_
    refine g_iconst (pc := 15) (v := 0) hC dX12_playing_15 (by decide) ?_
    refine g_callV_v (pc := 16) (wd := fun (u : St) Y => (wX12 o0 a0 (xy C) u Y)) (F := fun Z => Z) (X := []) (As := [.int (0 : Int32)]) (rest := []) (u := u0) hC (fun _ _ => rfl) (fun _ => rfl) (ctX12_beginsAt h) wvX12_beginsAt ml_X12_414 (ci := 10) (q0 := 0) rfl rfl rfl rfl (rmok hR0 rfl) ⟨Nat.zero_le _, Nat.zero_le _⟩ rfl (Nat.le_of_ble_eq_true rfl) dX12_playing_16 (fun u_83 h => ?_)
    refine g_sub (lv' := [(0, .ref o0), (1, .int x1), (2, .int (0 : Int32))]) [1, 2, 0] rfl ?_
    obtain ⟨n_85, h⟩ := h
    exact kX12_playing_L19 hC hR0 hR  n_85 _ _ _ h
  · have h := h.2 c_82
    refine g_aload_n (pc := 4) hC 0 dX12_playing_4 rfl rfl ?_
    refine g_callV_i (pc := 5) (wd := fun (u : St) Y => (wX12 o0 a0 (xy C) u Y)) (F := fun Z => Z) (X := []) (As := []) (rest := []) (u := u0) hC (fun _ _ => rfl) (fun _ => rfl) (ctX12_standsNow h) wvX12_standsNow ml_X12_279 (ci := 10) (q0 := 0) rfl rfl rfl rfl (rmok hR0 rfl) ⟨Nat.zero_le _, Nat.zero_le _⟩ rfl (Nat.le_of_ble_eq_true rfl) dX12_playing_5 (fun r_87 u_86 h => ?_)
    refine g_callS_i (pc := 8) (wd := fun (_ : Unit) Y => Y) (F := fun Z => Z) (X := []) (As := [.int r_87]) (rest := []) (u := ()) hC (fun _ _ => rfl) (fun _ => rfl) (ctX12_bits h) wvX12_bits ml_X12_276 rfl (rmok hR0 rfl) ⟨Nat.zero_le _, Nat.zero_le _⟩ rfl (Nat.le_of_ble_eq_true rfl) dX12_playing_8 (fun r_89 u_90 h => ?_)
    exact hR _ _ _ u_86 dX12_playing_11 h
theorem ctX12_playing {l : Launch} {D : va_G} {cy : Nat → ClassId} {kd : Nat → Nat} {o0 : Nat} {a0 : Nat → Nat} {x1 : Int32} {u0 : St} {post : Int32 → St → Prop} (h : qX12_playing x1 u0 post) : CtI l D cy kd yX12_playing cX12_playing 5 6 .int [.ref o0, .int x1] (fun u : St => (wX12 o0 a0 cy u [])) u0 (fun r u => post r u) := met_i (by decide) (Nat.le_of_ble_eq_true rfl) (fun C e1 e2 e3 e4 e5 hC hR => by subst e1 e2 e3 e4; exact kX12_playing hC e5 hR h)
theorem dX12_game_0 : decode cX12_game 0 = .ok (.iload_n 1, 1) := by decide +kernel
theorem dX12_game_1 : decode cX12_game 1 = .ok (.i2l, 1) := by decide +kernel
theorem dX12_game_2 : decode cX12_game 2 = .ok (.lconst 0, 1) := by decide +kernel
theorem dX12_game_3 : decode cX12_game 3 = .ok (.ldc2_w 420, 3) := by decide +kernel
theorem dX12_game_6 : decode cX12_game 6 = .ok (.invokestatic 315, 3) := by decide +kernel
theorem dX12_game_9 : decode cX12_game 9 = .ok (.ifCond .ne 9, 3) := by decide +kernel
theorem dX12_game_12 : decode cX12_game 12 = .ok (.aload_n 0, 1) := by decide +kernel
theorem dX12_game_13 : decode cX12_game 13 = .ok (.iconst 1, 1) := by decide +kernel
theorem dX12_game_14 : decode cX12_game 14 = .ok (.invokevirtual 88, 3) := by decide +kernel
theorem dX12_game_17 : decode cX12_game 17 = .ok (.ireturn, 1) := by decide +kernel
theorem dX12_game_18 : decode cX12_game 18 = .ok (.aload_n 0, 1) := by decide +kernel
theorem dX12_game_19 : decode cX12_game 19 = .ok (.aload_n 0, 1) := by decide +kernel
theorem dX12_game_20 : decode cX12_game 20 = .ok (.iload_n 1, 1) := by decide +kernel
theorem dX12_game_21 : decode cX12_game 21 = .ok (.invokevirtual 422, 3) := by decide +kernel
theorem dX12_game_24 : decode cX12_game 24 = .ok (.invokevirtual 92, 3) := by decide +kernel
theorem dX12_game_27 : decode cX12_game 27 = .ok (.ireturn, 1) := by decide +kernel
def qX12_game (x1 : Int32) (u0 : St) (post : Int32 → St → Prop) : Prop := qX12_isFrom (x1).toInt64 (0 : Int64) (4 : Int64) (fun r_12 => ((¬ r_12 = 0 → qX12_playing x1 u0 (fun r_16 u_15 => qX12_gives r_16 u_15 (fun r_19 u_18 => post r_19 u_18))) ∧ (r_12 = 0 → qX12_refuse (1 : Int32) u0 (fun r_22 u_21 => post r_22 u_21))))
set_option maxRecDepth 100000 in
set_option maxHeartbeats 4000000 in
theorem kX12_game {C : Cx} {o0 : Nat} {a0 : Nat → Nat} (hC : Fx C cX12_game 2 RX12) (hR0 : xR C = rm 7) {post : Int32 → St → Prop} (hR : RI C cX12_game 2 (fun u : St => (wX12 o0 a0 (xy C) u [])) (fun r u => post r u)) {x1 : Int32} {u0 : St} (h : qX12_game x1 u0 post) : G C 0 0 2 (wX12 o0 a0 (xy C) u0 []) 0 [(0, .ref o0), (1, .int x1)] [] := by
  refine g_iload_n (pc := 0) hC 1 dX12_game_0 rfl rfl ?_
  refine g_i2l (pc := 1) hC dX12_game_1 ?_
  refine g_lconst (pc := 2) (v := 0) hC dX12_game_2 (by decide) ?_
  refine g_ldc2 (pc := 3) hC cn_X12_420 dX12_game_3 ?_
  refine g_callS_i (pc := 6) (wd := fun (_ : Unit) Y => Y) (F := fun Z => Z) (X := []) (As := [.long (x1).toInt64, .long (0 : Int64), .long (4 : Int64)]) (rest := []) (u := ()) hC (fun _ _ => rfl) (fun _ => rfl) (ctX12_isFrom h) wvX12_isFrom ml_X12_315 rfl (rmok hR0 rfl) ⟨Nat.zero_le _, Nat.zero_le _⟩ rfl (Nat.le_of_ble_eq_true rfl) dX12_game_6 (fun r_12 u_13 h => ?_)
  refine g_if_ne (pc := 9) (tgt := 18) hC dX12_game_9 (by decide) (fun c_14 => ?_) (fun c_14 => ?_)
  · have h := h.1 c_14
    refine g_aload_n (pc := 18) hC 0 dX12_game_18 rfl rfl ?_
    refine g_aload_n (pc := 19) hC 0 dX12_game_19 rfl rfl ?_
    refine g_iload_n (pc := 20) hC 1 dX12_game_20 rfl rfl ?_
    refine g_callV_i (pc := 21) (wd := fun (u : St) Y => (wX12 o0 a0 (xy C) u Y)) (F := fun Z => Z) (X := []) (As := [.int x1]) (rest := [.ref o0]) (u := u0) hC (fun _ _ => rfl) (fun _ => rfl) (ctX12_playing h) wvX12_playing ml_X12_422 (ci := 10) (q0 := 0) rfl rfl rfl rfl (rmok hR0 rfl) ⟨Nat.zero_le _, Nat.zero_le _⟩ rfl (Nat.le_of_ble_eq_true rfl) dX12_game_21 (fun r_16 u_15 h => ?_)
    refine g_callV_i (pc := 24) (wd := fun (u : St) Y => (wX12 o0 a0 (xy C) u Y)) (F := fun Z => Z) (X := []) (As := [.int r_16]) (rest := []) (u := u_15) hC (fun _ _ => rfl) (fun _ => rfl) (ctX12_gives h) wvX12_gives ml_X12_92 (ci := 10) (q0 := 0) rfl rfl rfl rfl (rmok hR0 rfl) ⟨Nat.zero_le _, Nat.zero_le _⟩ rfl (Nat.le_of_ble_eq_true rfl) dX12_game_24 (fun r_19 u_18 h => ?_)
    exact hR _ _ _ u_18 dX12_game_27 h
  · have h := h.2 c_14
    refine g_aload_n (pc := 12) hC 0 dX12_game_12 rfl rfl ?_
    refine g_iconst (pc := 13) (v := 1) hC dX12_game_13 (by decide) ?_
    refine g_callV_i (pc := 14) (wd := fun (u : St) Y => (wX12 o0 a0 (xy C) u Y)) (F := fun Z => Z) (X := []) (As := [.int (1 : Int32)]) (rest := []) (u := u0) hC (fun _ _ => rfl) (fun _ => rfl) (ctX12_refuse h) wvX12_refuse ml_X12_88 (ci := 10) (q0 := 0) rfl rfl rfl rfl (rmok hR0 rfl) ⟨Nat.zero_le _, Nat.zero_le _⟩ rfl (Nat.le_of_ble_eq_true rfl) dX12_game_14 (fun r_22 u_21 h => ?_)
    exact hR _ _ _ u_21 dX12_game_17 h
theorem ctX12_game {l : Launch} {D : va_G} {cy : Nat → ClassId} {kd : Nat → Nat} {o0 : Nat} {a0 : Nat → Nat} {x1 : Int32} {u0 : St} {post : Int32 → St → Prop} (h : qX12_game x1 u0 post) : CtI l D cy kd yX12_game cX12_game 2 7 .int [.ref o0, .int x1] (fun u : St => (wX12 o0 a0 cy u [])) u0 (fun r u => post r u) := met_i (by decide) (Nat.le_of_ble_eq_true rfl) (fun C e1 e2 e3 e4 e5 hC hR => by subst e1 e2 e3 e4; exact kX12_game hC e5 hR h)
theorem dX12_moveOf_0 : decode cX12_moveOf 0 = .ok (.iload_n 1, 1) := by decide +kernel
theorem dX12_moveOf_1 : decode cX12_moveOf 1 = .ok (.i2l, 1) := by decide +kernel
theorem dX12_moveOf_2 : decode cX12_moveOf 2 = .ok (.lconst 1, 1) := by decide +kernel
theorem dX12_moveOf_3 : decode cX12_moveOf 3 = .ok (.ldc2_w 420, 3) := by decide +kernel
theorem dX12_moveOf_6 : decode cX12_moveOf 6 = .ok (.invokestatic 315, 3) := by decide +kernel
theorem dX12_moveOf_9 : decode cX12_moveOf 9 = .ok (.ifCond .ne 9, 3) := by decide +kernel
theorem dX12_moveOf_12 : decode cX12_moveOf 12 = .ok (.aload_n 0, 1) := by decide +kernel
theorem dX12_moveOf_13 : decode cX12_moveOf 13 = .ok (.iconst 1, 1) := by decide +kernel
theorem dX12_moveOf_14 : decode cX12_moveOf 14 = .ok (.invokevirtual 88, 3) := by decide +kernel
theorem dX12_moveOf_17 : decode cX12_moveOf 17 = .ok (.ireturn, 1) := by decide +kernel
theorem dX12_moveOf_18 : decode cX12_moveOf 18 = .ok (.aload_n 0, 1) := by decide +kernel
theorem dX12_moveOf_19 : decode cX12_moveOf 19 = .ok (.iload_n 1, 1) := by decide +kernel
theorem dX12_moveOf_20 : decode cX12_moveOf 20 = .ok (.invokevirtual 422, 3) := by decide +kernel
theorem dX12_moveOf_23 : decode cX12_moveOf 23 = .ok (.pop, 1) := by decide +kernel
theorem dX12_moveOf_24 : decode cX12_moveOf 24 = .ok (.aload_n 0, 1) := by decide +kernel
theorem dX12_moveOf_25 : decode cX12_moveOf 25 = .ok (.getfield 63, 3) := by decide +kernel
theorem dX12_moveOf_28 : decode cX12_moveOf 28 = .ok (.iconst 0, 1) := by decide +kernel
theorem dX12_moveOf_29 : decode cX12_moveOf 29 = .ok (.iaload, 1) := by decide +kernel
theorem dX12_moveOf_30 : decode cX12_moveOf 30 = .ok (.aload_n 0, 1) := by decide +kernel
theorem dX12_moveOf_31 : decode cX12_moveOf 31 = .ok (.getfield 7, 3) := by decide +kernel
theorem dX12_moveOf_34 : decode cX12_moveOf 34 = .ok (.iconst 2, 1) := by decide +kernel
theorem dX12_moveOf_35 : decode cX12_moveOf 35 = .ok (.iaload, 1) := by decide +kernel
theorem dX12_moveOf_36 : decode cX12_moveOf 36 = .ok (.if_icmp .ne 12, 3) := by decide +kernel
theorem dX12_moveOf_39 : decode cX12_moveOf 39 = .ok (.aload_n 0, 1) := by decide +kernel
theorem dX12_moveOf_40 : decode cX12_moveOf 40 = .ok (.bipush 6, 2) := by decide +kernel
theorem dX12_moveOf_42 : decode cX12_moveOf 42 = .ok (.invokevirtual 88, 3) := by decide +kernel
theorem dX12_moveOf_45 : decode cX12_moveOf 45 = .ok (.goto 13, 3) := by decide +kernel
theorem dX12_moveOf_48 : decode cX12_moveOf 48 = .ok (.aload_n 0, 1) := by decide +kernel
theorem dX12_moveOf_49 : decode cX12_moveOf 49 = .ok (.aload_n 0, 1) := by decide +kernel
theorem dX12_moveOf_50 : decode cX12_moveOf 50 = .ok (.getfield 63, 3) := by decide +kernel
theorem dX12_moveOf_53 : decode cX12_moveOf 53 = .ok (.iconst 0, 1) := by decide +kernel
theorem dX12_moveOf_54 : decode cX12_moveOf 54 = .ok (.iaload, 1) := by decide +kernel
theorem dX12_moveOf_55 : decode cX12_moveOf 55 = .ok (.invokevirtual 92, 3) := by decide +kernel
theorem dX12_moveOf_58 : decode cX12_moveOf 58 = .ok (.ireturn, 1) := by decide +kernel
def qX12_moveOf_b58  (post : Int32 → St → Prop)  (s0 : Int32) (u0 : St) : Prop := post s0 u0
set_option maxRecDepth 100000 in
set_option maxHeartbeats 4000000 in
theorem kX12_moveOf_b58 {C : Cx} {o0 : Nat} {a0 : Nat → Nat} (hC : Fx C cX12_moveOf 2 RX12) (hR0 : xR C = rm 7) {post : Int32 → St → Prop} (hR : RI C cX12_moveOf 2 (fun u : St => (wX12 o0 a0 (xy C) u [])) (fun r u => post r u))  {s0 : Int32} {u0 : St} (h : qX12_moveOf_b58 post s0 u0) : G C 0 0 2 (wX12 o0 a0 (xy C) u0 []) 58 [] [.int s0] := by
  exact hR _ _ _ u0 dX12_moveOf_58 h
def qX12_moveOf (x1 : Int32) (u0 : St) (post : Int32 → St → Prop) : Prop := qX12_isFrom (x1).toInt64 (1 : Int64) (4 : Int64) (fun r_15 => ((¬ r_15 = 0 → qX12_playing x1 u0 (fun r_19 u_18 => ((¬ (ga u_18 31 ((0 : Int32)).toNatClampNeg) = (ga u_18 0 ((2 : Int32)).toNatClampNeg) → qX12_gives (ga u_18 31 ((0 : Int32)).toNatClampNeg) u_18 (fun r_23 u_22 => qX12_moveOf_b58 post r_23 u_22)) ∧ ((ga u_18 31 ((0 : Int32)).toNatClampNeg) = (ga u_18 0 ((2 : Int32)).toNatClampNeg) → qX12_refuse (6 : Int32) u_18 (fun r_26 u_25 => qX12_moveOf_b58 post r_26 u_25))))) ∧ (r_15 = 0 → qX12_refuse (1 : Int32) u0 (fun r_29 u_28 => post r_29 u_28))))
set_option maxRecDepth 100000 in
set_option maxHeartbeats 4000000 in
theorem kX12_moveOf {C : Cx} {o0 : Nat} {a0 : Nat → Nat} (hC : Fx C cX12_moveOf 2 RX12) (hR0 : xR C = rm 7) {post : Int32 → St → Prop} (hR : RI C cX12_moveOf 2 (fun u : St => (wX12 o0 a0 (xy C) u [])) (fun r u => post r u)) {x1 : Int32} {u0 : St} (h : qX12_moveOf x1 u0 post) : G C 0 0 2 (wX12 o0 a0 (xy C) u0 []) 0 [(0, .ref o0), (1, .int x1)] [] := by
  refine g_iload_n (pc := 0) hC 1 dX12_moveOf_0 rfl rfl ?_
  refine g_i2l (pc := 1) hC dX12_moveOf_1 ?_
  refine g_lconst (pc := 2) (v := 1) hC dX12_moveOf_2 (by decide) ?_
  refine g_ldc2 (pc := 3) hC cn_X12_420 dX12_moveOf_3 ?_
  refine g_callS_i (pc := 6) (wd := fun (_ : Unit) Y => Y) (F := fun Z => Z) (X := []) (As := [.long (x1).toInt64, .long (1 : Int64), .long (4 : Int64)]) (rest := []) (u := ()) hC (fun _ _ => rfl) (fun _ => rfl) (ctX12_isFrom h) wvX12_isFrom ml_X12_315 rfl (rmok hR0 rfl) ⟨Nat.zero_le _, Nat.zero_le _⟩ rfl (Nat.le_of_ble_eq_true rfl) dX12_moveOf_6 (fun r_15 u_16 h => ?_)
  refine g_if_ne (pc := 9) (tgt := 18) hC dX12_moveOf_9 (by decide) (fun c_17 => ?_) (fun c_17 => ?_)
  · have h := h.1 c_17
    refine g_aload_n (pc := 18) hC 0 dX12_moveOf_18 rfl rfl ?_
    refine g_iload_n (pc := 19) hC 1 dX12_moveOf_19 rfl rfl ?_
    refine g_callV_i (pc := 20) (wd := fun (u : St) Y => (wX12 o0 a0 (xy C) u Y)) (F := fun Z => Z) (X := []) (As := [.int x1]) (rest := []) (u := u0) hC (fun _ _ => rfl) (fun _ => rfl) (ctX12_playing h) wvX12_playing ml_X12_422 (ci := 10) (q0 := 0) rfl rfl rfl rfl (rmok hR0 rfl) ⟨Nat.zero_le _, Nat.zero_le _⟩ rfl (Nat.le_of_ble_eq_true rfl) dX12_moveOf_20 (fun r_19 u_18 h => ?_)
    refine g_pop (pc := 23) hC dX12_moveOf_23 rfl ?_
    refine g_aload_n (pc := 24) hC 0 dX12_moveOf_24 rfl rfl ?_
    refine getX12_31 (pc := 25) hC (F := fun Z => Z) (X := []) (fun _ => rfl) fl_X12_63 dX12_moveOf_25 ?_
    refine g_iconst (pc := 28) (v := 0) hC dX12_moveOf_28 (by decide) ?_
    refine aldX12_31 (pc := 29) hC (F := fun Z => Z) (X := []) (fun _ => rfl) (by unfold vp_in; decide) dX12_moveOf_29 ?_
    refine g_aload_n (pc := 30) hC 0 dX12_moveOf_30 rfl rfl ?_
    refine getX12_0 (pc := 31) hC (F := fun Z => Z) (X := []) (fun _ => rfl) fl_X12_7 dX12_moveOf_31 ?_
    refine g_iconst (pc := 34) (v := 2) hC dX12_moveOf_34 (by decide) ?_
    refine aldX12_0 (pc := 35) hC (F := fun Z => Z) (X := []) (fun _ => rfl) (by unfold vp_in; decide) dX12_moveOf_35 ?_
    refine g_icmp_ne (pc := 36) (tgt := 48) hC dX12_moveOf_36 (by decide) (fun c_21 => ?_) (fun c_21 => ?_)
    · have h := h.1 c_21
      refine g_aload_n (pc := 48) hC 0 dX12_moveOf_48 rfl rfl ?_
      refine g_aload_n (pc := 49) hC 0 dX12_moveOf_49 rfl rfl ?_
      refine getX12_31 (pc := 50) hC (F := fun Z => Z) (X := []) (fun _ => rfl) fl_X12_63 dX12_moveOf_50 ?_
      refine g_iconst (pc := 53) (v := 0) hC dX12_moveOf_53 (by decide) ?_
      refine aldX12_31 (pc := 54) hC (F := fun Z => Z) (X := []) (fun _ => rfl) (by unfold vp_in; decide) dX12_moveOf_54 ?_
      refine g_callV_i (pc := 55) (wd := fun (u : St) Y => (wX12 o0 a0 (xy C) u Y)) (F := fun Z => Z) (X := []) (As := [.int (ga u_18 31 ((0 : Int32)).toNatClampNeg)]) (rest := []) (u := u_18) hC (fun _ _ => rfl) (fun _ => rfl) (ctX12_gives h) wvX12_gives ml_X12_92 (ci := 10) (q0 := 0) rfl rfl rfl rfl (rmok hR0 rfl) ⟨Nat.zero_le _, Nat.zero_le _⟩ rfl (Nat.le_of_ble_eq_true rfl) dX12_moveOf_55 (fun r_23 u_22 h => ?_)
      refine g_sub (lv' := []) [] rfl ?_
      exact kX12_moveOf_b58 hC hR0 hR  h
    · have h := h.2 c_21
      refine g_aload_n (pc := 39) hC 0 dX12_moveOf_39 rfl rfl ?_
      refine g_bipush (pc := 40) (v := 6) hC dX12_moveOf_40 (by decide) ?_
      refine g_callV_i (pc := 42) (wd := fun (u : St) Y => (wX12 o0 a0 (xy C) u Y)) (F := fun Z => Z) (X := []) (As := [.int (6 : Int32)]) (rest := []) (u := u_18) hC (fun _ _ => rfl) (fun _ => rfl) (ctX12_refuse h) wvX12_refuse ml_X12_88 (ci := 10) (q0 := 0) rfl rfl rfl rfl (rmok hR0 rfl) ⟨Nat.zero_le _, Nat.zero_le _⟩ rfl (Nat.le_of_ble_eq_true rfl) dX12_moveOf_42 (fun r_26 u_25 h => ?_)
      refine g_goto (pc := 45) (tgt := 58) hC dX12_moveOf_45 (by decide) ?_
      refine g_sub (lv' := []) [] rfl ?_
      exact kX12_moveOf_b58 hC hR0 hR  h
  · have h := h.2 c_17
    refine g_aload_n (pc := 12) hC 0 dX12_moveOf_12 rfl rfl ?_
    refine g_iconst (pc := 13) (v := 1) hC dX12_moveOf_13 (by decide) ?_
    refine g_callV_i (pc := 14) (wd := fun (u : St) Y => (wX12 o0 a0 (xy C) u Y)) (F := fun Z => Z) (X := []) (As := [.int (1 : Int32)]) (rest := []) (u := u0) hC (fun _ _ => rfl) (fun _ => rfl) (ctX12_refuse h) wvX12_refuse ml_X12_88 (ci := 10) (q0 := 0) rfl rfl rfl rfl (rmok hR0 rfl) ⟨Nat.zero_le _, Nat.zero_le _⟩ rfl (Nat.le_of_ble_eq_true rfl) dX12_moveOf_14 (fun r_29 u_28 h => ?_)
    exact hR _ _ _ u_28 dX12_moveOf_17 h
theorem ctX12_moveOf {l : Launch} {D : va_G} {cy : Nat → ClassId} {kd : Nat → Nat} {o0 : Nat} {a0 : Nat → Nat} {x1 : Int32} {u0 : St} {post : Int32 → St → Prop} (h : qX12_moveOf x1 u0 post) : CtI l D cy kd yX12_moveOf cX12_moveOf 2 7 .int [.ref o0, .int x1] (fun u : St => (wX12 o0 a0 cy u [])) u0 (fun r u => post r u) := met_i (by decide) (Nat.le_of_ble_eq_true rfl) (fun C e1 e2 e3 e4 e5 hC hR => by subst e1 e2 e3 e4; exact kX12_moveOf hC e5 hR h)
theorem dX12_luck_0 : decode cX12_luck 0 = .ok (.iload_n 1, 1) := by decide +kernel
theorem dX12_luck_1 : decode cX12_luck 1 = .ok (.i2l, 1) := by decide +kernel
theorem dX12_luck_2 : decode cX12_luck 2 = .ok (.lconst 0, 1) := by decide +kernel
theorem dX12_luck_3 : decode cX12_luck 3 = .ok (.ldc2_w 425, 3) := by decide +kernel
theorem dX12_luck_6 : decode cX12_luck 6 = .ok (.invokestatic 315, 3) := by decide +kernel
theorem dX12_luck_9 : decode cX12_luck 9 = .ok (.ifCond .eq 15, 3) := by decide +kernel
theorem dX12_luck_12 : decode cX12_luck 12 = .ok (.iload_n 2, 1) := by decide +kernel
theorem dX12_luck_13 : decode cX12_luck 13 = .ok (.i2l, 1) := by decide +kernel
theorem dX12_luck_14 : decode cX12_luck 14 = .ok (.lconst 0, 1) := by decide +kernel
theorem dX12_luck_15 : decode cX12_luck 15 = .ok (.ldc2_w 425, 3) := by decide +kernel
theorem dX12_luck_18 : decode cX12_luck 18 = .ok (.invokestatic 315, 3) := by decide +kernel
theorem dX12_luck_21 : decode cX12_luck 21 = .ok (.ifCond .ne 9, 3) := by decide +kernel
theorem dX12_luck_24 : decode cX12_luck 24 = .ok (.aload_n 0, 1) := by decide +kernel
theorem dX12_luck_25 : decode cX12_luck 25 = .ok (.iconst 1, 1) := by decide +kernel
theorem dX12_luck_26 : decode cX12_luck 26 = .ok (.invokevirtual 95, 3) := by decide +kernel
theorem dX12_luck_29 : decode cX12_luck 29 = .ok (.ireturn, 1) := by decide +kernel
theorem dX12_luck_30 : decode cX12_luck 30 = .ok (.lconst 1, 1) := by decide +kernel
theorem dX12_luck_31 : decode cX12_luck 31 = .ok (.lstore_n 3, 1) := by decide +kernel
theorem dX12_luck_32 : decode cX12_luck 32 = .ok (.iconst 0, 1) := by decide +kernel
theorem dX12_luck_33 : decode cX12_luck 33 = .ok (.istore 5, 2) := by decide +kernel
theorem dX12_luck_35 : decode cX12_luck 35 = .ok (.iload 5, 2) := by decide +kernel
theorem dX12_luck_37 : decode cX12_luck 37 = .ok (.bipush 13, 2) := by decide +kernel
theorem dX12_luck_39 : decode cX12_luck 39 = .ok (.if_icmp .ge 26, 3) := by decide +kernel
theorem dX12_luck_42 : decode cX12_luck 42 = .ok (.aload_n 0, 1) := by decide +kernel
theorem dX12_luck_43 : decode cX12_luck 43 = .ok (.getfield 66, 3) := by decide +kernel
theorem dX12_luck_46 : decode cX12_luck 46 = .ok (.iload 5, 2) := by decide +kernel
theorem dX12_luck_48 : decode cX12_luck 48 = .ok (.iload 5, 2) := by decide +kernel
theorem dX12_luck_50 : decode cX12_luck 50 = .ok (.ifCond .ne 7, 3) := by decide +kernel
theorem dX12_luck_53 : decode cX12_luck 53 = .ok (.lconst 1, 1) := by decide +kernel
theorem dX12_luck_54 : decode cX12_luck 54 = .ok (.goto 4, 3) := by decide +kernel
theorem dX12_luck_57 : decode cX12_luck 57 = .ok (.lconst 0, 1) := by decide +kernel
theorem dX12_luck_58 : decode cX12_luck 58 = .ok (.lastore, 1) := by decide +kernel
theorem dX12_luck_59 : decode cX12_luck 59 = .ok (.iinc 5 1, 3) := by decide +kernel
theorem dX12_luck_62 : decode cX12_luck 62 = .ok (.goto (-27), 3) := by decide +kernel
theorem dX12_luck_65 : decode cX12_luck 65 = .ok (.iconst 0, 1) := by decide +kernel
theorem dX12_luck_66 : decode cX12_luck 66 = .ok (.istore 5, 2) := by decide +kernel
theorem dX12_luck_68 : decode cX12_luck 68 = .ok (.iload 5, 2) := by decide +kernel
theorem dX12_luck_70 : decode cX12_luck 70 = .ok (.iload_n 1, 1) := by decide +kernel
theorem dX12_luck_71 : decode cX12_luck 71 = .ok (.if_icmp .ge 82, 3) := by decide +kernel
theorem dX12_luck_74 : decode cX12_luck 74 = .ok (.bipush 12, 2) := by decide +kernel
theorem dX12_luck_76 : decode cX12_luck 76 = .ok (.istore 6, 2) := by decide +kernel
theorem dX12_luck_78 : decode cX12_luck 78 = .ok (.iload 6, 2) := by decide +kernel
theorem dX12_luck_80 : decode cX12_luck 80 = .ok (.ifCond .lt 61, 3) := by decide +kernel
theorem dX12_luck_83 : decode cX12_luck 83 = .ok (.aload_n 0, 1) := by decide +kernel
theorem dX12_luck_84 : decode cX12_luck 84 = .ok (.getfield 66, 3) := by decide +kernel
theorem dX12_luck_87 : decode cX12_luck 87 = .ok (.iload 6, 2) := by decide +kernel
theorem dX12_luck_89 : decode cX12_luck 89 = .ok (.aload_n 0, 1) := by decide +kernel
theorem dX12_luck_90 : decode cX12_luck 90 = .ok (.getfield 66, 3) := by decide +kernel
theorem dX12_luck_93 : decode cX12_luck 93 = .ok (.iload 6, 2) := by decide +kernel
theorem dX12_luck_95 : decode cX12_luck 95 = .ok (.laload, 1) := by decide +kernel
theorem dX12_luck_96 : decode cX12_luck 96 = .ok (.bipush 16, 2) := by decide +kernel
theorem dX12_luck_98 : decode cX12_luck 98 = .ok (.aload_n 0, 1) := by decide +kernel
theorem dX12_luck_99 : decode cX12_luck 99 = .ok (.getfield 7, 3) := by decide +kernel
theorem dX12_luck_102 : decode cX12_luck 102 = .ok (.iconst 3, 1) := by decide +kernel
theorem dX12_luck_103 : decode cX12_luck 103 = .ok (.iaload, 1) := by decide +kernel
theorem dX12_luck_104 : decode cX12_luck 104 = .ok (.isub, 1) := by decide +kernel
theorem dX12_luck_105 : decode cX12_luck 105 = .ok (.i2l, 1) := by decide +kernel
theorem dX12_luck_106 : decode cX12_luck 106 = .ok (.lmul, 1) := by decide +kernel
theorem dX12_luck_107 : decode cX12_luck 107 = .ok (.iload 6, 2) := by decide +kernel
theorem dX12_luck_109 : decode cX12_luck 109 = .ok (.ifCond .ne 7, 3) := by decide +kernel
theorem dX12_luck_112 : decode cX12_luck 112 = .ok (.lconst 0, 1) := by decide +kernel
theorem dX12_luck_113 : decode cX12_luck 113 = .ok (.goto 20, 3) := by decide +kernel
theorem dX12_luck_116 : decode cX12_luck 116 = .ok (.aload_n 0, 1) := by decide +kernel
theorem dX12_luck_117 : decode cX12_luck 117 = .ok (.getfield 66, 3) := by decide +kernel
theorem dX12_luck_120 : decode cX12_luck 120 = .ok (.iload 6, 2) := by decide +kernel
theorem dX12_luck_122 : decode cX12_luck 122 = .ok (.iconst 1, 1) := by decide +kernel
theorem dX12_luck_123 : decode cX12_luck 123 = .ok (.isub, 1) := by decide +kernel
theorem dX12_luck_124 : decode cX12_luck 124 = .ok (.laload, 1) := by decide +kernel
theorem dX12_luck_125 : decode cX12_luck 125 = .ok (.aload_n 0, 1) := by decide +kernel
theorem dX12_luck_126 : decode cX12_luck 126 = .ok (.getfield 7, 3) := by decide +kernel
theorem dX12_luck_129 : decode cX12_luck 129 = .ok (.iconst 3, 1) := by decide +kernel
theorem dX12_luck_130 : decode cX12_luck 130 = .ok (.iaload, 1) := by decide +kernel
theorem dX12_luck_131 : decode cX12_luck 131 = .ok (.i2l, 1) := by decide +kernel
theorem dX12_luck_132 : decode cX12_luck 132 = .ok (.lmul, 1) := by decide +kernel
theorem dX12_luck_133 : decode cX12_luck 133 = .ok (.ladd, 1) := by decide +kernel
theorem dX12_luck_134 : decode cX12_luck 134 = .ok (.lastore, 1) := by decide +kernel
theorem dX12_luck_135 : decode cX12_luck 135 = .ok (.iinc 6 (-1), 3) := by decide +kernel
theorem dX12_luck_138 : decode cX12_luck 138 = .ok (.goto (-60), 3) := by decide +kernel
theorem dX12_luck_141 : decode cX12_luck 141 = .ok (.lload_n 3, 1) := by decide +kernel
theorem dX12_luck_142 : decode cX12_luck 142 = .ok (.ldc2_w 348, 3) := by decide +kernel
theorem dX12_luck_145 : decode cX12_luck 145 = .ok (.lmul, 1) := by decide +kernel
theorem dX12_luck_146 : decode cX12_luck 146 = .ok (.lstore_n 3, 1) := by decide +kernel
theorem dX12_luck_147 : decode cX12_luck 147 = .ok (.iinc 5 1, 3) := by decide +kernel
theorem dX12_luck_150 : decode cX12_luck 150 = .ok (.goto (-82), 3) := by decide +kernel
theorem dX12_luck_153 : decode cX12_luck 153 = .ok (.lconst 0, 1) := by decide +kernel
theorem dX12_luck_154 : decode cX12_luck 154 = .ok (.lstore 5, 2) := by decide +kernel
theorem dX12_luck_156 : decode cX12_luck 156 = .ok (.iload_n 2, 1) := by decide +kernel
theorem dX12_luck_157 : decode cX12_luck 157 = .ok (.istore 7, 2) := by decide +kernel
theorem dX12_luck_159 : decode cX12_luck 159 = .ok (.iload 7, 2) := by decide +kernel
theorem dX12_luck_161 : decode cX12_luck 161 = .ok (.bipush 13, 2) := by decide +kernel
theorem dX12_luck_163 : decode cX12_luck 163 = .ok (.if_icmp .ge 21, 3) := by decide +kernel
theorem dX12_luck_166 : decode cX12_luck 166 = .ok (.lload 5, 2) := by decide +kernel
theorem dX12_luck_168 : decode cX12_luck 168 = .ok (.aload_n 0, 1) := by decide +kernel
theorem dX12_luck_169 : decode cX12_luck 169 = .ok (.getfield 66, 3) := by decide +kernel
theorem dX12_luck_172 : decode cX12_luck 172 = .ok (.iload 7, 2) := by decide +kernel
theorem dX12_luck_174 : decode cX12_luck 174 = .ok (.laload, 1) := by decide +kernel
theorem dX12_luck_175 : decode cX12_luck 175 = .ok (.ladd, 1) := by decide +kernel
theorem dX12_luck_176 : decode cX12_luck 176 = .ok (.lstore 5, 2) := by decide +kernel
theorem dX12_luck_178 : decode cX12_luck 178 = .ok (.iinc 7 1, 3) := by decide +kernel
theorem dX12_luck_181 : decode cX12_luck 181 = .ok (.goto (-22), 3) := by decide +kernel
theorem dX12_luck_184 : decode cX12_luck 184 = .ok (.aload_n 0, 1) := by decide +kernel
theorem dX12_luck_185 : decode cX12_luck 185 = .ok (.lload 5, 2) := by decide +kernel
theorem dX12_luck_187 : decode cX12_luck 187 = .ok (.lload_n 3, 1) := by decide +kernel
theorem dX12_luck_188 : decode cX12_luck 188 = .ok (.invokevirtual 396, 3) := by decide +kernel
theorem dX12_luck_191 : decode cX12_luck 191 = .ok (.ireturn, 1) := by decide +kernel
def qX12_luck_b24  (post : Int32 → St → Prop)  (u0 : St) : Prop := qX12_is (1 : Int32) u0 (fun r_18 u_17 => (bz r_18 ∧ post r_18 u_17))
set_option maxRecDepth 100000 in
set_option maxHeartbeats 4000000 in
theorem kX12_luck_b24 {C : Cx} {o0 : Nat} {a0 : Nat → Nat} (hC : Fx C cX12_luck 8 RX12) (hR0 : xR C = rm 3) {post : Int32 → St → Prop} (hR : RZ C cX12_luck 8 (fun u : St => (wX12 o0 a0 (xy C) u [])) (fun r u => post r u))  {u0 : St} (h : qX12_luck_b24 post u0) : G C 0 0 8 (wX12 o0 a0 (xy C) u0 []) 24 [(0, .ref o0)] [] := by
  refine g_aload_n (pc := 24) hC 0 dX12_luck_24 rfl rfl ?_
  refine g_iconst (pc := 25) (v := 1) hC dX12_luck_25 (by decide) ?_
  refine g_callV_i (pc := 26) (wd := fun (u : St) Y => (wX12 o0 a0 (xy C) u Y)) (F := fun Z => Z) (X := []) (As := [.int (1 : Int32)]) (rest := []) (u := u0) hC (fun _ _ => rfl) (fun _ => rfl) (ctX12_is h) wvX12_is ml_X12_95 (ci := 10) (q0 := 0) rfl rfl rfl rfl (rmok hR0 rfl) ⟨Nat.zero_le _, Nat.zero_le _⟩ rfl (Nat.le_of_ble_eq_true rfl) dX12_luck_26 (fun r_18 u_17 h => ?_)
  exact hR _ _ _ u_17 dX12_luck_29 h.1 h.2
def qX12_luck_b58  (post : Int32 → St → Prop) (K35 : Int32 → Int32 → Int64 → Int32 → St → Prop) (x1 : Int32) (x2 : Int32) (x3 : Int64) (x5 : Int32) (s0 : Int64) (s1 : Int32) (u0 : St) : Prop := (vp_in s1 13 ∧ ∀ u_20 : St, u_20 = (sx u0 32 (vp_updL (gl u0 32) (s1).toNatClampNeg s0)) → ∀ x5_21 : Int32, x5_21 = x5 + (1 : Int32) → K35 x1 x2 x3 x5_21 u_20)
set_option maxRecDepth 100000 in
set_option maxHeartbeats 4000000 in
theorem kX12_luck_b58 {C : Cx} {o0 : Nat} {a0 : Nat → Nat} (hC : Fx C cX12_luck 8 RX12) (hR0 : xR C = rm 3) {post : Int32 → St → Prop} (hR : RZ C cX12_luck 8 (fun u : St => (wX12 o0 a0 (xy C) u [])) (fun r u => post r u)) {K35 : Int32 → Int32 → Int64 → Int32 → St → Prop} (hK35 : ∀ (x1 : Int32) (x2 : Int32) (x3 : Int64) (x5 : Int32) (u0 : St), K35 x1 x2 x3 x5 u0 → G C 0 0 8 (wX12 o0 a0 (xy C) u0 []) 35 [(0, .ref o0), (1, .int x1), (2, .int x2), (3, .long x3), (5, .int x5)] []) {x1 : Int32} {x2 : Int32} {x3 : Int64} {x5 : Int32} {s0 : Int64} {s1 : Int32} {u0 : St} (h : qX12_luck_b58 post K35 x1 x2 x3 x5 s0 s1 u0) : G C 0 0 8 (wX12 o0 a0 (xy C) u0 []) 58 [(0, .ref o0), (1, .int x1), (2, .int x2), (3, .long x3), (5, .int x5)] [.long s0, .int s1, .ref (a0 32)] := by
  refine astX12_32 (pc := 58) hC (F := fun Z => Z) (X := []) (fun _ => rfl) h.1 dX12_luck_58 ?_
  have h := h.2
  refine g_st (w := fun z => (wX12 o0 a0 (xy C) z [])) (u := (sx u0 32 (vp_updL (gl u0 32) (s1).toNatClampNeg s0))) (fun u_20 eu_20 => ?_)
  have h := h u_20 eu_20
  obtain ⟨x5_21, ex5_21⟩ : ∃ z : Int32, z = x5 + (1 : Int32) := ⟨_, rfl⟩
  have h := h x5_21 ex5_21
  refine g_iinc (pc := 59) (v := x5_21) (lv' := [(5, .int x5_21), (0, .ref o0), (1, .int x1), (2, .int x2), (3, .long x3)]) hC 4 dX12_luck_59 rfl (by rw [ex5_21]; rfl) (Nat.le_of_ble_eq_true rfl) rfl ?_
  refine g_goto (pc := 62) (tgt := 35) hC dX12_luck_62 (by decide) ?_
  refine g_sub (lv' := [(0, .ref o0), (1, .int x1), (2, .int x2), (3, .long x3), (5, .int x5_21)]) [1, 2, 3, 4, 0] rfl ?_
  exact hK35 _ _ _ _ _ h
def qX12_luck_b133  (post : Int32 → St → Prop) (K68 : Int32 → Int32 → Int64 → Int32 → St → Prop) (K78 : Int32 → Int32 → Int64 → Int32 → Int32 → St → Prop) (x1 : Int32) (x2 : Int32) (x3 : Int64) (x5 : Int32) (x6 : Int32) (s0 : Int64) (s1 : Int64) (s2 : Int32) (u0 : St) : Prop := (vp_in s2 13 ∧ ∀ u_22 : St, u_22 = (sx u0 32 (vp_updL (gl u0 32) (s2).toNatClampNeg (s1 + s0))) → ∀ x6_23 : Int32, x6_23 = x6 + (-1 : Int32) → K78 x1 x2 x3 x5 x6_23 u_22)
set_option maxRecDepth 100000 in
set_option maxHeartbeats 4000000 in
theorem kX12_luck_b133 {C : Cx} {o0 : Nat} {a0 : Nat → Nat} (hC : Fx C cX12_luck 8 RX12) (hR0 : xR C = rm 3) {post : Int32 → St → Prop} (hR : RZ C cX12_luck 8 (fun u : St => (wX12 o0 a0 (xy C) u [])) (fun r u => post r u)) {K68 : Int32 → Int32 → Int64 → Int32 → St → Prop} (hK68 : ∀ (x1 : Int32) (x2 : Int32) (x3 : Int64) (x5 : Int32) (u0 : St), K68 x1 x2 x3 x5 u0 → G C 0 0 8 (wX12 o0 a0 (xy C) u0 []) 68 [(0, .ref o0), (1, .int x1), (2, .int x2), (3, .long x3), (5, .int x5)] []) {K78 : Int32 → Int32 → Int64 → Int32 → Int32 → St → Prop} (hK78 : ∀ (x1 : Int32) (x2 : Int32) (x3 : Int64) (x5 : Int32) (x6 : Int32) (u0 : St), K78 x1 x2 x3 x5 x6 u0 → G C 0 0 8 (wX12 o0 a0 (xy C) u0 []) 78 [(0, .ref o0), (1, .int x1), (2, .int x2), (3, .long x3), (5, .int x5), (6, .int x6)] []) {x1 : Int32} {x2 : Int32} {x3 : Int64} {x5 : Int32} {x6 : Int32} {s0 : Int64} {s1 : Int64} {s2 : Int32} {u0 : St} (h : qX12_luck_b133 post K68 K78 x1 x2 x3 x5 x6 s0 s1 s2 u0) : G C 0 0 8 (wX12 o0 a0 (xy C) u0 []) 133 [(0, .ref o0), (1, .int x1), (2, .int x2), (3, .long x3), (5, .int x5), (6, .int x6)] [.long s0, .long s1, .int s2, .ref (a0 32)] := by
  refine g_ladd (pc := 133) hC dX12_luck_133 ?_
  refine astX12_32 (pc := 134) hC (F := fun Z => Z) (X := []) (fun _ => rfl) h.1 dX12_luck_134 ?_
  have h := h.2
  refine g_st (w := fun z => (wX12 o0 a0 (xy C) z [])) (u := (sx u0 32 (vp_updL (gl u0 32) (s2).toNatClampNeg (s1 + s0)))) (fun u_22 eu_22 => ?_)
  have h := h u_22 eu_22
  obtain ⟨x6_23, ex6_23⟩ : ∃ z : Int32, z = x6 + (-1 : Int32) := ⟨_, rfl⟩
  have h := h x6_23 ex6_23
  refine g_iinc (pc := 135) (v := x6_23) (lv' := [(6, .int x6_23), (0, .ref o0), (1, .int x1), (2, .int x2), (3, .long x3), (5, .int x5)]) hC 5 dX12_luck_135 rfl (by rw [ex6_23]; rfl) (Nat.le_of_ble_eq_true rfl) rfl ?_
  refine g_goto (pc := 138) (tgt := 78) hC dX12_luck_138 (by decide) ?_
  refine g_sub (lv' := [(0, .ref o0), (1, .int x1), (2, .int x2), (3, .long x3), (5, .int x5), (6, .int x6_23)]) [1, 2, 3, 4, 5, 0] rfl ?_
  exact hK78 _ _ _ _ _ _ h
def qX12_luck_b141  (post : Int32 → St → Prop) (K68 : Int32 → Int32 → Int64 → Int32 → St → Prop) (x1 : Int32) (x2 : Int32) (x3 : Int64) (x5 : Int32) (u0 : St) : Prop := ∀ x3_24 : Int64, x3_24 = (x3 * (16 : Int64)) → ∀ x5_25 : Int32, x5_25 = x5 + (1 : Int32) → K68 x1 x2 x3_24 x5_25 u0
set_option maxRecDepth 100000 in
set_option maxHeartbeats 4000000 in
theorem kX12_luck_b141 {C : Cx} {o0 : Nat} {a0 : Nat → Nat} (hC : Fx C cX12_luck 8 RX12) (hR0 : xR C = rm 3) {post : Int32 → St → Prop} (hR : RZ C cX12_luck 8 (fun u : St => (wX12 o0 a0 (xy C) u [])) (fun r u => post r u)) {K68 : Int32 → Int32 → Int64 → Int32 → St → Prop} (hK68 : ∀ (x1 : Int32) (x2 : Int32) (x3 : Int64) (x5 : Int32) (u0 : St), K68 x1 x2 x3 x5 u0 → G C 0 0 8 (wX12 o0 a0 (xy C) u0 []) 68 [(0, .ref o0), (1, .int x1), (2, .int x2), (3, .long x3), (5, .int x5)] []) {x1 : Int32} {x2 : Int32} {x3 : Int64} {x5 : Int32} {u0 : St} (h : qX12_luck_b141 post K68 x1 x2 x3 x5 u0) : G C 0 0 8 (wX12 o0 a0 (xy C) u0 []) 141 [(0, .ref o0), (1, .int x1), (2, .int x2), (3, .long x3), (5, .int x5)] [] := by
  refine g_lload_n (pc := 141) hC 3 dX12_luck_141 rfl rfl ?_
  refine g_ldc2 (pc := 142) hC cn_X12_348 dX12_luck_142 ?_
  refine g_lmul (pc := 145) hC dX12_luck_145 ?_
  refine g_topl (fun x3_24 ex3_24 => ?_)
  have h := h x3_24 ex3_24
  refine g_lstore_n (pc := 146) (lv' := [(3, .long x3_24), (0, .ref o0), (1, .int x1), (2, .int x2), (5, .int x5)]) hC dX12_luck_146 rfl (Nat.le_of_ble_eq_true rfl) rfl ?_
  obtain ⟨x5_25, ex5_25⟩ : ∃ z : Int32, z = x5 + (1 : Int32) := ⟨_, rfl⟩
  have h := h x5_25 ex5_25
  refine g_iinc (pc := 147) (v := x5_25) (lv' := [(5, .int x5_25), (3, .long x3_24), (0, .ref o0), (1, .int x1), (2, .int x2)]) hC 4 dX12_luck_147 rfl (by rw [ex5_25]; rfl) (Nat.le_of_ble_eq_true rfl) rfl ?_
  refine g_goto (pc := 150) (tgt := 68) hC dX12_luck_150 (by decide) ?_
  refine g_sub (lv' := [(0, .ref o0), (1, .int x1), (2, .int x2), (3, .long x3_24), (5, .int x5_25)]) [2, 3, 4, 1, 0] rfl ?_
  exact hK68 _ _ _ _ _ h
def qX12_luck_l78  (post : Int32 → St → Prop) (K68 : Int32 → Int32 → Int64 → Int32 → St → Prop) (K78 : Int32 → Int32 → Int64 → Int32 → Int32 → St → Prop) (x1 : Int32) (x2 : Int32) (x3 : Int64) (x5 : Int32) (x6 : Int32) (u0 : St) : Prop := ((x6 < 0 → qX12_luck_b141 post K68 x1 x2 x3 x5 u0) ∧ (¬ x6 < 0 → (vp_in x6 13 ∧ ((¬ x6 = 0 → (vp_in (x6 - (1 : Int32)) 13 ∧ qX12_luck_b133 post K68 K78 x1 x2 x3 x5 x6 ((gl u0 32 ((x6 - (1 : Int32))).toNatClampNeg) * ((ga u0 0 ((3 : Int32)).toNatClampNeg)).toInt64) ((gl u0 32 (x6).toNatClampNeg) * (((16 : Int32) - (ga u0 0 ((3 : Int32)).toNatClampNeg))).toInt64) x6 u0)) ∧ (x6 = 0 → qX12_luck_b133 post K68 K78 x1 x2 x3 x5 x6 (0 : Int64) ((gl u0 32 (x6).toNatClampNeg) * (((16 : Int32) - (ga u0 0 ((3 : Int32)).toNatClampNeg))).toInt64) x6 u0)))))
set_option maxRecDepth 100000 in
set_option maxHeartbeats 4000000 in
theorem kX12_luck_l78 {C : Cx} {o0 : Nat} {a0 : Nat → Nat} (hC : Fx C cX12_luck 8 RX12) (hR0 : xR C = rm 3) {post : Int32 → St → Prop} (hR : RZ C cX12_luck 8 (fun u : St => (wX12 o0 a0 (xy C) u [])) (fun r u => post r u)) {K68 : Int32 → Int32 → Int64 → Int32 → St → Prop} (hK68 : ∀ (x1 : Int32) (x2 : Int32) (x3 : Int64) (x5 : Int32) (u0 : St), K68 x1 x2 x3 x5 u0 → G C 0 0 8 (wX12 o0 a0 (xy C) u0 []) 68 [(0, .ref o0), (1, .int x1), (2, .int x2), (3, .long x3), (5, .int x5)] []) {K78 : Int32 → Int32 → Int64 → Int32 → Int32 → St → Prop} (hK78 : ∀ (x1 : Int32) (x2 : Int32) (x3 : Int64) (x5 : Int32) (x6 : Int32) (u0 : St), K78 x1 x2 x3 x5 x6 u0 → G C 0 0 8 (wX12 o0 a0 (xy C) u0 []) 78 [(0, .ref o0), (1, .int x1), (2, .int x2), (3, .long x3), (5, .int x5), (6, .int x6)] []) {x1 : Int32} {x2 : Int32} {x3 : Int64} {x5 : Int32} {x6 : Int32} {u0 : St} (h : qX12_luck_l78 post K68 K78 x1 x2 x3 x5 x6 u0) : G C 0 0 8 (wX12 o0 a0 (xy C) u0 []) 78 [(0, .ref o0), (1, .int x1), (2, .int x2), (3, .long x3), (5, .int x5), (6, .int x6)] [] := by
  refine g_iload (pc := 78) hC 5 dX12_luck_78 rfl ?_
  refine g_if_lt (pc := 80) (tgt := 141) hC dX12_luck_80 (by decide) (fun c_26 => ?_) (fun c_26 => ?_)
  · have h := h.1 c_26
    refine g_sub (lv' := [(0, .ref o0), (1, .int x1), (2, .int x2), (3, .long x3), (5, .int x5)]) [0, 1, 2, 3, 4] rfl ?_
    exact kX12_luck_b141 hC hR0 hR hK68 h
  · have h := h.2 c_26
    refine g_aload_n (pc := 83) hC 0 dX12_luck_83 rfl rfl ?_
    refine getX12_32 (pc := 84) hC (F := fun Z => Z) (X := []) (fun _ => rfl) fl_X12_66 dX12_luck_84 ?_
    refine g_iload (pc := 87) hC 5 dX12_luck_87 rfl ?_
    refine g_aload_n (pc := 89) hC 0 dX12_luck_89 rfl rfl ?_
    refine getX12_32 (pc := 90) hC (F := fun Z => Z) (X := []) (fun _ => rfl) fl_X12_66 dX12_luck_90 ?_
    refine g_iload (pc := 93) hC 5 dX12_luck_93 rfl ?_
    refine aldX12_32 (pc := 95) hC (F := fun Z => Z) (X := []) (fun _ => rfl) h.1 dX12_luck_95 ?_
    have h := h.2
    refine g_bipush (pc := 96) (v := 16) hC dX12_luck_96 (by decide) ?_
    refine g_aload_n (pc := 98) hC 0 dX12_luck_98 rfl rfl ?_
    refine getX12_0 (pc := 99) hC (F := fun Z => Z) (X := []) (fun _ => rfl) fl_X12_7 dX12_luck_99 ?_
    refine g_iconst (pc := 102) (v := 3) hC dX12_luck_102 (by decide) ?_
    refine aldX12_0 (pc := 103) hC (F := fun Z => Z) (X := []) (fun _ => rfl) (by unfold vp_in; decide) dX12_luck_103 ?_
    refine g_isub (pc := 104) hC dX12_luck_104 ?_
    refine g_i2l (pc := 105) hC dX12_luck_105 ?_
    refine g_lmul (pc := 106) hC dX12_luck_106 ?_
    refine g_iload (pc := 107) hC 5 dX12_luck_107 rfl ?_
    refine g_if_ne (pc := 109) (tgt := 116) hC dX12_luck_109 (by decide) (fun c_27 => ?_) (fun c_27 => ?_)
    · have h := h.1 c_27
      refine g_aload_n (pc := 116) hC 0 dX12_luck_116 rfl rfl ?_
      refine getX12_32 (pc := 117) hC (F := fun Z => Z) (X := []) (fun _ => rfl) fl_X12_66 dX12_luck_117 ?_
      refine g_iload (pc := 120) hC 5 dX12_luck_120 rfl ?_
      refine g_iconst (pc := 122) (v := 1) hC dX12_luck_122 (by decide) ?_
      refine g_isub (pc := 123) hC dX12_luck_123 ?_
      refine aldX12_32 (pc := 124) hC (F := fun Z => Z) (X := []) (fun _ => rfl) h.1 dX12_luck_124 ?_
      have h := h.2
      refine g_aload_n (pc := 125) hC 0 dX12_luck_125 rfl rfl ?_
      refine getX12_0 (pc := 126) hC (F := fun Z => Z) (X := []) (fun _ => rfl) fl_X12_7 dX12_luck_126 ?_
      refine g_iconst (pc := 129) (v := 3) hC dX12_luck_129 (by decide) ?_
      refine aldX12_0 (pc := 130) hC (F := fun Z => Z) (X := []) (fun _ => rfl) (by unfold vp_in; decide) dX12_luck_130 ?_
      refine g_i2l (pc := 131) hC dX12_luck_131 ?_
      refine g_lmul (pc := 132) hC dX12_luck_132 ?_
      exact kX12_luck_b133 hC hR0 hR hK68 hK78 h
    · have h := h.2 c_27
      refine g_lconst (pc := 112) (v := 0) hC dX12_luck_112 (by decide) ?_
      refine g_goto (pc := 113) (tgt := 133) hC dX12_luck_113 (by decide) ?_
      exact kX12_luck_b133 hC hR0 hR hK68 hK78 h
def qX12_luck_L78  (post : Int32 → St → Prop) (K68 : Int32 → Int32 → Int64 → Int32 → St → Prop) : Nat → Int32 → Int32 → Int64 → Int32 → Int32 → St → Prop
  | 0 => fun _ _ _ _ _ _ => False
  | n + 1 => qX12_luck_l78 post K68 (qX12_luck_L78 post K68 n)
theorem kX12_luck_L78 {C : Cx} {o0 : Nat} {a0 : Nat → Nat} (hC : Fx C cX12_luck 8 RX12) (hR0 : xR C = rm 3) {post : Int32 → St → Prop} (hR : RZ C cX12_luck 8 (fun u : St => (wX12 o0 a0 (xy C) u [])) (fun r u => post r u)) {K68 : Int32 → Int32 → Int64 → Int32 → St → Prop} (hK68 : ∀ (x1 : Int32) (x2 : Int32) (x3 : Int64) (x5 : Int32) (u0 : St), K68 x1 x2 x3 x5 u0 → G C 0 0 8 (wX12 o0 a0 (xy C) u0 []) 68 [(0, .ref o0), (1, .int x1), (2, .int x2), (3, .long x3), (5, .int x5)] []) : ∀ (n : Nat) (x1 : Int32) (x2 : Int32) (x3 : Int64) (x5 : Int32) (x6 : Int32) (u0 : St), qX12_luck_L78 post K68 n x1 x2 x3 x5 x6 u0 → G C 0 0 8 (wX12 o0 a0 (xy C) u0 []) 78 [(0, .ref o0), (1, .int x1), (2, .int x2), (3, .long x3), (5, .int x5), (6, .int x6)] [] := by
  intro n
  induction n with
  | zero => intro x1 x2 x3 x5 x6 u0 h; exact h.elim
  | succ n ih => intro x1 x2 x3 x5 x6 u0 h; exact kX12_luck_l78 hC hR0 hR hK68 ih h
def qX12_luck_b184  (post : Int32 → St → Prop)  (x3 : Int64) (x5 : Int64) (u0 : St) : Prop := qX12_tellsBy x5 x3 u0 (fun r_29 u_28 => (bz r_29 ∧ post r_29 u_28))
set_option maxRecDepth 100000 in
set_option maxHeartbeats 4000000 in
theorem kX12_luck_b184 {C : Cx} {o0 : Nat} {a0 : Nat → Nat} (hC : Fx C cX12_luck 8 RX12) (hR0 : xR C = rm 3) {post : Int32 → St → Prop} (hR : RZ C cX12_luck 8 (fun u : St => (wX12 o0 a0 (xy C) u [])) (fun r u => post r u))  {x3 : Int64} {x5 : Int64} {u0 : St} (h : qX12_luck_b184 post x3 x5 u0) : G C 0 0 8 (wX12 o0 a0 (xy C) u0 []) 184 [(0, .ref o0), (3, .long x3), (5, .long x5)] [] := by
  refine g_aload_n (pc := 184) hC 0 dX12_luck_184 rfl rfl ?_
  refine g_lload (pc := 185) hC 2 dX12_luck_185 rfl ?_
  refine g_lload_n (pc := 187) hC 1 dX12_luck_187 rfl rfl ?_
  refine g_callV_i (pc := 188) (wd := fun (u : St) Y => (wX12 o0 a0 (xy C) u Y)) (F := fun Z => Z) (X := []) (As := [.long x5, .long x3]) (rest := []) (u := u0) hC (fun _ _ => rfl) (fun _ => rfl) (ctX12_tellsBy h) wvX12_tellsBy ml_X12_396 (ci := 10) (q0 := 0) rfl rfl rfl rfl (rmok hR0 rfl) ⟨Nat.zero_le _, Nat.zero_le _⟩ rfl (Nat.le_of_ble_eq_true rfl) dX12_luck_188 (fun r_29 u_28 h => ?_)
  exact hR _ _ _ u_28 dX12_luck_191 h.1 h.2
def qX12_luck_l159  (post : Int32 → St → Prop) (K159 : Int64 → Int64 → Int32 → St → Prop) (x3 : Int64) (x5 : Int64) (x7 : Int32) (u0 : St) : Prop := (((13 : Int32) ≤ x7 → qX12_luck_b184 post x3 x5 u0) ∧ (¬ (13 : Int32) ≤ x7 → (vp_in x7 13 ∧ ∀ x5_32 : Int64, x5_32 = (x5 + (gl u0 32 (x7).toNatClampNeg)) → ∀ x7_33 : Int32, x7_33 = x7 + (1 : Int32) → K159 x3 x5_32 x7_33 u0)))
set_option maxRecDepth 100000 in
set_option maxHeartbeats 4000000 in
theorem kX12_luck_l159 {C : Cx} {o0 : Nat} {a0 : Nat → Nat} (hC : Fx C cX12_luck 8 RX12) (hR0 : xR C = rm 3) {post : Int32 → St → Prop} (hR : RZ C cX12_luck 8 (fun u : St => (wX12 o0 a0 (xy C) u [])) (fun r u => post r u))  {K159 : Int64 → Int64 → Int32 → St → Prop} (hK159 : ∀ (x3 : Int64) (x5 : Int64) (x7 : Int32) (u0 : St), K159 x3 x5 x7 u0 → G C 0 0 8 (wX12 o0 a0 (xy C) u0 []) 159 [(0, .ref o0), (3, .long x3), (5, .long x5), (7, .int x7)] []) {x3 : Int64} {x5 : Int64} {x7 : Int32} {u0 : St} (h : qX12_luck_l159 post K159 x3 x5 x7 u0) : G C 0 0 8 (wX12 o0 a0 (xy C) u0 []) 159 [(0, .ref o0), (3, .long x3), (5, .long x5), (7, .int x7)] [] := by
  refine g_iload (pc := 159) hC 3 dX12_luck_159 rfl ?_
  refine g_bipush (pc := 161) (v := 13) hC dX12_luck_161 (by decide) ?_
  refine g_icmp_ge (pc := 163) (tgt := 184) hC dX12_luck_163 (by decide) (fun c_31 => ?_) (fun c_31 => ?_)
  · have h := h.1 c_31
    refine g_sub (lv' := [(0, .ref o0), (3, .long x3), (5, .long x5)]) [0, 1, 2] rfl ?_
    exact kX12_luck_b184 hC hR0 hR  h
  · have h := h.2 c_31
    refine g_lload (pc := 166) hC 2 dX12_luck_166 rfl ?_
    refine g_aload_n (pc := 168) hC 0 dX12_luck_168 rfl rfl ?_
    refine getX12_32 (pc := 169) hC (F := fun Z => Z) (X := []) (fun _ => rfl) fl_X12_66 dX12_luck_169 ?_
    refine g_iload (pc := 172) hC 3 dX12_luck_172 rfl ?_
    refine aldX12_32 (pc := 174) hC (F := fun Z => Z) (X := []) (fun _ => rfl) h.1 dX12_luck_174 ?_
    have h := h.2
    refine g_ladd (pc := 175) hC dX12_luck_175 ?_
    refine g_topl (fun x5_32 ex5_32 => ?_)
    have h := h x5_32 ex5_32
    refine g_lstore (pc := 176) (lv' := [(5, .long x5_32), (0, .ref o0), (3, .long x3), (7, .int x7)]) hC dX12_luck_176 (Nat.le_of_ble_eq_true rfl) rfl ?_
    obtain ⟨x7_33, ex7_33⟩ : ∃ z : Int32, z = x7 + (1 : Int32) := ⟨_, rfl⟩
    have h := h x7_33 ex7_33
    refine g_iinc (pc := 178) (v := x7_33) (lv' := [(7, .int x7_33), (5, .long x5_32), (0, .ref o0), (3, .long x3)]) hC 3 dX12_luck_178 rfl (by rw [ex7_33]; rfl) (Nat.le_of_ble_eq_true rfl) rfl ?_
    refine g_goto (pc := 181) (tgt := 159) hC dX12_luck_181 (by decide) ?_
    refine g_sub (lv' := [(0, .ref o0), (3, .long x3), (5, .long x5_32), (7, .int x7_33)]) [2, 3, 1, 0] rfl ?_
    exact hK159 _ _ _ _ h
def qX12_luck_L159  (post : Int32 → St → Prop)  : Nat → Int64 → Int64 → Int32 → St → Prop
  | 0 => fun _ _ _ _ => False
  | n + 1 => qX12_luck_l159 post (qX12_luck_L159 post n)
theorem kX12_luck_L159 {C : Cx} {o0 : Nat} {a0 : Nat → Nat} (hC : Fx C cX12_luck 8 RX12) (hR0 : xR C = rm 3) {post : Int32 → St → Prop} (hR : RZ C cX12_luck 8 (fun u : St => (wX12 o0 a0 (xy C) u [])) (fun r u => post r u))  : ∀ (n : Nat) (x3 : Int64) (x5 : Int64) (x7 : Int32) (u0 : St), qX12_luck_L159 post n x3 x5 x7 u0 → G C 0 0 8 (wX12 o0 a0 (xy C) u0 []) 159 [(0, .ref o0), (3, .long x3), (5, .long x5), (7, .int x7)] [] := by
  intro n
  induction n with
  | zero => intro x3 x5 x7 u0 h; exact h.elim
  | succ n ih => intro x3 x5 x7 u0 h; exact kX12_luck_l159 hC hR0 hR  ih h
def qX12_luck_b153  (post : Int32 → St → Prop)  (x2 : Int32) (x3 : Int64) (u0 : St) : Prop := ∃ n_34 : Nat, qX12_luck_L159 post n_34 x3 (0 : Int64) x2 u0
set_option maxRecDepth 100000 in
set_option maxHeartbeats 4000000 in
theorem kX12_luck_b153 {C : Cx} {o0 : Nat} {a0 : Nat → Nat} (hC : Fx C cX12_luck 8 RX12) (hR0 : xR C = rm 3) {post : Int32 → St → Prop} (hR : RZ C cX12_luck 8 (fun u : St => (wX12 o0 a0 (xy C) u [])) (fun r u => post r u))  {x2 : Int32} {x3 : Int64} {u0 : St} (h : qX12_luck_b153 post x2 x3 u0) : G C 0 0 8 (wX12 o0 a0 (xy C) u0 []) 153 [(0, .ref o0), (2, .int x2), (3, .long x3)] [] := by
  refine g_lconst (pc := 153) (v := 0) hC dX12_luck_153 (by decide) ?_
  refine g_lstore (pc := 154) (lv' := [(5, .long (0 : Int64)), (0, .ref o0), (2, .int x2), (3, .long x3)]) hC dX12_luck_154 (Nat.le_of_ble_eq_true rfl) rfl ?_
  refine g_iload_n (pc := 156) hC 2 dX12_luck_156 rfl rfl ?_
  refine g_istore (pc := 157) (lv' := [(7, .int x2), (5, .long (0 : Int64)), (0, .ref o0), (2, .int x2), (3, .long x3)]) hC dX12_luck_157 (Nat.le_of_ble_eq_true rfl) rfl ?_
  refine g_sub (lv' := [(0, .ref o0), (3, .long x3), (5, .long (0 : Int64)), (7, .int x2)]) [2, 4, 1, 0] rfl ?_
  obtain ⟨n_34, h⟩ := h
  exact kX12_luck_L159 hC hR0 hR  n_34 _ _ _ _ h
def qX12_luck_l68  (post : Int32 → St → Prop) (K68 : Int32 → Int32 → Int64 → Int32 → St → Prop) (x1 : Int32) (x2 : Int32) (x3 : Int64) (x5 : Int32) (u0 : St) : Prop := ((x1 ≤ x5 → qX12_luck_b153 post x2 x3 u0) ∧ (¬ x1 ≤ x5 → ∃ n_36 : Nat, qX12_luck_L78 post K68 n_36 x1 x2 x3 x5 (12 : Int32) u0))
set_option maxRecDepth 100000 in
set_option maxHeartbeats 4000000 in
theorem kX12_luck_l68 {C : Cx} {o0 : Nat} {a0 : Nat → Nat} (hC : Fx C cX12_luck 8 RX12) (hR0 : xR C = rm 3) {post : Int32 → St → Prop} (hR : RZ C cX12_luck 8 (fun u : St => (wX12 o0 a0 (xy C) u [])) (fun r u => post r u))  {K68 : Int32 → Int32 → Int64 → Int32 → St → Prop} (hK68 : ∀ (x1 : Int32) (x2 : Int32) (x3 : Int64) (x5 : Int32) (u0 : St), K68 x1 x2 x3 x5 u0 → G C 0 0 8 (wX12 o0 a0 (xy C) u0 []) 68 [(0, .ref o0), (1, .int x1), (2, .int x2), (3, .long x3), (5, .int x5)] []) {x1 : Int32} {x2 : Int32} {x3 : Int64} {x5 : Int32} {u0 : St} (h : qX12_luck_l68 post K68 x1 x2 x3 x5 u0) : G C 0 0 8 (wX12 o0 a0 (xy C) u0 []) 68 [(0, .ref o0), (1, .int x1), (2, .int x2), (3, .long x3), (5, .int x5)] [] := by
  refine g_iload (pc := 68) hC 4 dX12_luck_68 rfl ?_
  refine g_iload_n (pc := 70) hC 1 dX12_luck_70 rfl rfl ?_
  refine g_icmp_ge (pc := 71) (tgt := 153) hC dX12_luck_71 (by decide) (fun c_35 => ?_) (fun c_35 => ?_)
  · have h := h.1 c_35
    refine g_sub (lv' := [(0, .ref o0), (2, .int x2), (3, .long x3)]) [0, 2, 3] rfl ?_
    exact kX12_luck_b153 hC hR0 hR  h
  · have h := h.2 c_35
    refine g_bipush (pc := 74) (v := 12) hC dX12_luck_74 (by decide) ?_
    refine g_istore (pc := 76) (lv' := [(6, .int (12 : Int32)), (0, .ref o0), (1, .int x1), (2, .int x2), (3, .long x3), (5, .int x5)]) hC dX12_luck_76 (Nat.le_of_ble_eq_true rfl) rfl ?_
    refine g_sub (lv' := [(0, .ref o0), (1, .int x1), (2, .int x2), (3, .long x3), (5, .int x5), (6, .int (12 : Int32))]) [1, 2, 3, 4, 5, 0] rfl ?_
    obtain ⟨n_36, h⟩ := h
    exact kX12_luck_L78 hC hR0 hR hK68 n_36 _ _ _ _ _ _ h
def qX12_luck_L68  (post : Int32 → St → Prop)  : Nat → Int32 → Int32 → Int64 → Int32 → St → Prop
  | 0 => fun _ _ _ _ _ => False
  | n + 1 => qX12_luck_l68 post (qX12_luck_L68 post n)
theorem kX12_luck_L68 {C : Cx} {o0 : Nat} {a0 : Nat → Nat} (hC : Fx C cX12_luck 8 RX12) (hR0 : xR C = rm 3) {post : Int32 → St → Prop} (hR : RZ C cX12_luck 8 (fun u : St => (wX12 o0 a0 (xy C) u [])) (fun r u => post r u))  : ∀ (n : Nat) (x1 : Int32) (x2 : Int32) (x3 : Int64) (x5 : Int32) (u0 : St), qX12_luck_L68 post n x1 x2 x3 x5 u0 → G C 0 0 8 (wX12 o0 a0 (xy C) u0 []) 68 [(0, .ref o0), (1, .int x1), (2, .int x2), (3, .long x3), (5, .int x5)] [] := by
  intro n
  induction n with
  | zero => intro x1 x2 x3 x5 u0 h; exact h.elim
  | succ n ih => intro x1 x2 x3 x5 u0 h; exact kX12_luck_l68 hC hR0 hR  ih h
def qX12_luck_b65  (post : Int32 → St → Prop)  (x1 : Int32) (x2 : Int32) (x3 : Int64) (u0 : St) : Prop := ∃ n_37 : Nat, qX12_luck_L68 post n_37 x1 x2 x3 (0 : Int32) u0
set_option maxRecDepth 100000 in
set_option maxHeartbeats 4000000 in
theorem kX12_luck_b65 {C : Cx} {o0 : Nat} {a0 : Nat → Nat} (hC : Fx C cX12_luck 8 RX12) (hR0 : xR C = rm 3) {post : Int32 → St → Prop} (hR : RZ C cX12_luck 8 (fun u : St => (wX12 o0 a0 (xy C) u [])) (fun r u => post r u))  {x1 : Int32} {x2 : Int32} {x3 : Int64} {u0 : St} (h : qX12_luck_b65 post x1 x2 x3 u0) : G C 0 0 8 (wX12 o0 a0 (xy C) u0 []) 65 [(0, .ref o0), (1, .int x1), (2, .int x2), (3, .long x3)] [] := by
  refine g_iconst (pc := 65) (v := 0) hC dX12_luck_65 (by decide) ?_
  refine g_istore (pc := 66) (lv' := [(5, .int (0 : Int32)), (0, .ref o0), (1, .int x1), (2, .int x2), (3, .long x3)]) hC dX12_luck_66 (Nat.le_of_ble_eq_true rfl) rfl ?_
  refine g_sub (lv' := [(0, .ref o0), (1, .int x1), (2, .int x2), (3, .long x3), (5, .int (0 : Int32))]) [1, 2, 3, 4, 0] rfl ?_
  obtain ⟨n_37, h⟩ := h
  exact kX12_luck_L68 hC hR0 hR  n_37 _ _ _ _ _ h
def qX12_luck_l35  (post : Int32 → St → Prop) (K35 : Int32 → Int32 → Int64 → Int32 → St → Prop) (x1 : Int32) (x2 : Int32) (x3 : Int64) (x5 : Int32) (u0 : St) : Prop := (((13 : Int32) ≤ x5 → qX12_luck_b65 post x1 x2 x3 u0) ∧ (¬ (13 : Int32) ≤ x5 → ((¬ x5 = 0 → qX12_luck_b58 post K35 x1 x2 x3 x5 (0 : Int64) x5 u0) ∧ (x5 = 0 → qX12_luck_b58 post K35 x1 x2 x3 x5 (1 : Int64) x5 u0))))
set_option maxRecDepth 100000 in
set_option maxHeartbeats 4000000 in
theorem kX12_luck_l35 {C : Cx} {o0 : Nat} {a0 : Nat → Nat} (hC : Fx C cX12_luck 8 RX12) (hR0 : xR C = rm 3) {post : Int32 → St → Prop} (hR : RZ C cX12_luck 8 (fun u : St => (wX12 o0 a0 (xy C) u [])) (fun r u => post r u))  {K35 : Int32 → Int32 → Int64 → Int32 → St → Prop} (hK35 : ∀ (x1 : Int32) (x2 : Int32) (x3 : Int64) (x5 : Int32) (u0 : St), K35 x1 x2 x3 x5 u0 → G C 0 0 8 (wX12 o0 a0 (xy C) u0 []) 35 [(0, .ref o0), (1, .int x1), (2, .int x2), (3, .long x3), (5, .int x5)] []) {x1 : Int32} {x2 : Int32} {x3 : Int64} {x5 : Int32} {u0 : St} (h : qX12_luck_l35 post K35 x1 x2 x3 x5 u0) : G C 0 0 8 (wX12 o0 a0 (xy C) u0 []) 35 [(0, .ref o0), (1, .int x1), (2, .int x2), (3, .long x3), (5, .int x5)] [] := by
  refine g_iload (pc := 35) hC 4 dX12_luck_35 rfl ?_
  refine g_bipush (pc := 37) (v := 13) hC dX12_luck_37 (by decide) ?_
  refine g_icmp_ge (pc := 39) (tgt := 65) hC dX12_luck_39 (by decide) (fun c_38 => ?_) (fun c_38 => ?_)
  · have h := h.1 c_38
    refine g_sub (lv' := [(0, .ref o0), (1, .int x1), (2, .int x2), (3, .long x3)]) [0, 1, 2, 3] rfl ?_
    exact kX12_luck_b65 hC hR0 hR  h
  · have h := h.2 c_38
    refine g_aload_n (pc := 42) hC 0 dX12_luck_42 rfl rfl ?_
    refine getX12_32 (pc := 43) hC (F := fun Z => Z) (X := []) (fun _ => rfl) fl_X12_66 dX12_luck_43 ?_
    refine g_iload (pc := 46) hC 4 dX12_luck_46 rfl ?_
    refine g_iload (pc := 48) hC 4 dX12_luck_48 rfl ?_
    refine g_if_ne (pc := 50) (tgt := 57) hC dX12_luck_50 (by decide) (fun c_39 => ?_) (fun c_39 => ?_)
    · have h := h.1 c_39
      refine g_lconst (pc := 57) (v := 0) hC dX12_luck_57 (by decide) ?_
      exact kX12_luck_b58 hC hR0 hR hK35 h
    · have h := h.2 c_39
      refine g_lconst (pc := 53) (v := 1) hC dX12_luck_53 (by decide) ?_
      refine g_goto (pc := 54) (tgt := 58) hC dX12_luck_54 (by decide) ?_
      exact kX12_luck_b58 hC hR0 hR hK35 h
def qX12_luck_L35  (post : Int32 → St → Prop)  : Nat → Int32 → Int32 → Int64 → Int32 → St → Prop
  | 0 => fun _ _ _ _ _ => False
  | n + 1 => qX12_luck_l35 post (qX12_luck_L35 post n)
theorem kX12_luck_L35 {C : Cx} {o0 : Nat} {a0 : Nat → Nat} (hC : Fx C cX12_luck 8 RX12) (hR0 : xR C = rm 3) {post : Int32 → St → Prop} (hR : RZ C cX12_luck 8 (fun u : St => (wX12 o0 a0 (xy C) u [])) (fun r u => post r u))  : ∀ (n : Nat) (x1 : Int32) (x2 : Int32) (x3 : Int64) (x5 : Int32) (u0 : St), qX12_luck_L35 post n x1 x2 x3 x5 u0 → G C 0 0 8 (wX12 o0 a0 (xy C) u0 []) 35 [(0, .ref o0), (1, .int x1), (2, .int x2), (3, .long x3), (5, .int x5)] [] := by
  intro n
  induction n with
  | zero => intro x1 x2 x3 x5 u0 h; exact h.elim
  | succ n ih => intro x1 x2 x3 x5 u0 h; exact kX12_luck_l35 hC hR0 hR  ih h
def qX12_luck (x1 : Int32) (x2 : Int32) (u0 : St) (post : Int32 → St → Prop) : Prop := qX12_isFrom (x1).toInt64 (0 : Int64) (12 : Int64) (fun r_40 => ((r_40 = 0 → qX12_luck_b24 post u0) ∧ (¬ r_40 = 0 → qX12_isFrom (x2).toInt64 (0 : Int64) (12 : Int64) (fun r_43 => ((¬ r_43 = 0 → ∃ n_46 : Nat, qX12_luck_L35 post n_46 x1 x2 (1 : Int64) (0 : Int32) u0) ∧ (r_43 = 0 → qX12_luck_b24 post u0))))))
set_option maxRecDepth 100000 in
set_option maxHeartbeats 4000000 in
theorem kX12_luck {C : Cx} {o0 : Nat} {a0 : Nat → Nat} (hC : Fx C cX12_luck 8 RX12) (hR0 : xR C = rm 3) {post : Int32 → St → Prop} (hR : RZ C cX12_luck 8 (fun u : St => (wX12 o0 a0 (xy C) u [])) (fun r u => post r u)) {x1 : Int32} {x2 : Int32} {u0 : St} (h : qX12_luck x1 x2 u0 post) : G C 0 0 8 (wX12 o0 a0 (xy C) u0 []) 0 [(0, .ref o0), (1, .int x1), (2, .int x2)] [] := by
  refine g_iload_n (pc := 0) hC 1 dX12_luck_0 rfl rfl ?_
  refine g_i2l (pc := 1) hC dX12_luck_1 ?_
  refine g_lconst (pc := 2) (v := 0) hC dX12_luck_2 (by decide) ?_
  refine g_ldc2 (pc := 3) hC cn_X12_425 dX12_luck_3 ?_
  refine g_callS_i (pc := 6) (wd := fun (_ : Unit) Y => Y) (F := fun Z => Z) (X := []) (As := [.long (x1).toInt64, .long (0 : Int64), .long (12 : Int64)]) (rest := []) (u := ()) hC (fun _ _ => rfl) (fun _ => rfl) (ctX12_isFrom h) wvX12_isFrom ml_X12_315 rfl (rmok hR0 rfl) ⟨Nat.zero_le _, Nat.zero_le _⟩ rfl (Nat.le_of_ble_eq_true rfl) dX12_luck_6 (fun r_40 u_41 h => ?_)
  refine g_if_eq (pc := 9) (tgt := 24) hC dX12_luck_9 (by decide) (fun c_42 => ?_) (fun c_42 => ?_)
  · have h := h.1 c_42
    refine g_sub (lv' := [(0, .ref o0)]) [0] rfl ?_
    exact kX12_luck_b24 hC hR0 hR  h
  · have h := h.2 c_42
    refine g_iload_n (pc := 12) hC 2 dX12_luck_12 rfl rfl ?_
    refine g_i2l (pc := 13) hC dX12_luck_13 ?_
    refine g_lconst (pc := 14) (v := 0) hC dX12_luck_14 (by decide) ?_
    refine g_ldc2 (pc := 15) hC cn_X12_425 dX12_luck_15 ?_
    refine g_callS_i (pc := 18) (wd := fun (_ : Unit) Y => Y) (F := fun Z => Z) (X := []) (As := [.long (x2).toInt64, .long (0 : Int64), .long (12 : Int64)]) (rest := []) (u := ()) hC (fun _ _ => rfl) (fun _ => rfl) (ctX12_isFrom h) wvX12_isFrom ml_X12_315 rfl (rmok hR0 rfl) ⟨Nat.zero_le _, Nat.zero_le _⟩ rfl (Nat.le_of_ble_eq_true rfl) dX12_luck_18 (fun r_43 u_44 h => ?_)
    refine g_if_ne (pc := 21) (tgt := 30) hC dX12_luck_21 (by decide) (fun c_45 => ?_) (fun c_45 => ?_)
    · have h := h.1 c_45
      refine g_lconst (pc := 30) (v := 1) hC dX12_luck_30 (by decide) ?_
      refine g_lstore_n (pc := 31) (lv' := [(3, .long (1 : Int64)), (0, .ref o0), (1, .int x1), (2, .int x2)]) hC dX12_luck_31 rfl (Nat.le_of_ble_eq_true rfl) rfl ?_
      refine g_iconst (pc := 32) (v := 0) hC dX12_luck_32 (by decide) ?_
      refine g_istore (pc := 33) (lv' := [(5, .int (0 : Int32)), (3, .long (1 : Int64)), (0, .ref o0), (1, .int x1), (2, .int x2)]) hC dX12_luck_33 (Nat.le_of_ble_eq_true rfl) rfl ?_
      refine g_sub (lv' := [(0, .ref o0), (1, .int x1), (2, .int x2), (3, .long (1 : Int64)), (5, .int (0 : Int32))]) [2, 3, 4, 1, 0] rfl ?_
      obtain ⟨n_46, h⟩ := h
      exact kX12_luck_L35 hC hR0 hR  n_46 _ _ _ _ _ h
    · have h := h.2 c_45
      refine g_sub (lv' := [(0, .ref o0)]) [0] rfl ?_
      exact kX12_luck_b24 hC hR0 hR  h
theorem ctX12_luck {l : Launch} {D : va_G} {cy : Nat → ClassId} {kd : Nat → Nat} {o0 : Nat} {a0 : Nat → Nat} {x1 : Int32} {x2 : Int32} {u0 : St} {post : Int32 → St → Prop} (h : qX12_luck x1 x2 u0 post) : CtI l D cy kd yX12_luck cX12_luck 8 3 .boolean [.ref o0, .int x1, .int x2] (fun u : St => (wX12 o0 a0 cy u [])) u0 (fun r u => post r u) := met_z (by decide) (Nat.le_of_ble_eq_true rfl) (fun C e1 e2 e3 e4 e5 hC hR => by subst e1 e2 e3 e4; exact kX12_luck hC e5 hR h)
theorem dX12_share_0 : decode cX12_share 0 = .ok (.aload_n 0, 1) := by decide +kernel
theorem dX12_share_1 : decode cX12_share 1 = .ok (.iload_n 1, 1) := by decide +kernel
theorem dX12_share_2 : decode cX12_share 2 = .ok (.invokevirtual 294, 3) := by decide +kernel
theorem dX12_share_5 : decode cX12_share 5 = .ok (.ifCond .ne 9, 3) := by decide +kernel
theorem dX12_share_8 : decode cX12_share 8 = .ok (.aload_n 0, 1) := by decide +kernel
theorem dX12_share_9 : decode cX12_share 9 = .ok (.iconst 1, 1) := by decide +kernel
theorem dX12_share_10 : decode cX12_share 10 = .ok (.invokevirtual 95, 3) := by decide +kernel
theorem dX12_share_13 : decode cX12_share 13 = .ok (.ireturn, 1) := by decide +kernel
theorem dX12_share_14 : decode cX12_share 14 = .ok (.aload_n 0, 1) := by decide +kernel
theorem dX12_share_15 : decode cX12_share 15 = .ok (.invokevirtual 285, 3) := by decide +kernel
theorem dX12_share_18 : decode cX12_share 18 = .ok (.ifCond .ne 12, 3) := by decide +kernel
theorem dX12_share_21 : decode cX12_share 21 = .ok (.aload_n 0, 1) := by decide +kernel
theorem dX12_share_22 : decode cX12_share 22 = .ok (.bipush 6, 2) := by decide +kernel
theorem dX12_share_24 : decode cX12_share 24 = .ok (.invokevirtual 95, 3) := by decide +kernel
theorem dX12_share_27 : decode cX12_share 27 = .ok (.goto 18, 3) := by decide +kernel
theorem dX12_share_30 : decode cX12_share 30 = .ok (.aload_n 0, 1) := by decide +kernel
theorem dX12_share_31 : decode cX12_share 31 = .ok (.aload_n 0, 1) := by decide +kernel
theorem dX12_share_32 : decode cX12_share 32 = .ok (.iload_n 1, 1) := by decide +kernel
theorem dX12_share_33 : decode cX12_share 33 = .ok (.invokevirtual 282, 3) := by decide +kernel
theorem dX12_share_36 : decode cX12_share 36 = .ok (.i2l, 1) := by decide +kernel
theorem dX12_share_37 : decode cX12_share 37 = .ok (.aload_n 0, 1) := by decide +kernel
theorem dX12_share_38 : decode cX12_share 38 = .ok (.invokevirtual 285, 3) := by decide +kernel
theorem dX12_share_41 : decode cX12_share 41 = .ok (.i2l, 1) := by decide +kernel
theorem dX12_share_42 : decode cX12_share 42 = .ok (.invokevirtual 396, 3) := by decide +kernel
theorem dX12_share_45 : decode cX12_share 45 = .ok (.ireturn, 1) := by decide +kernel
def qX12_share_b45  (post : Int32 → St → Prop)  (s0 : Int32) (u0 : St) : Prop := (bz s0 ∧ post s0 u0)
set_option maxRecDepth 100000 in
set_option maxHeartbeats 4000000 in
theorem kX12_share_b45 {C : Cx} {o0 : Nat} {a0 : Nat → Nat} (hC : Fx C cX12_share 2 RX12) (hR0 : xR C = rm 5) {post : Int32 → St → Prop} (hR : RZ C cX12_share 2 (fun u : St => (wX12 o0 a0 (xy C) u [])) (fun r u => post r u))  {s0 : Int32} {u0 : St} (h : qX12_share_b45 post s0 u0) : G C 0 0 2 (wX12 o0 a0 (xy C) u0 []) 45 [] [.int s0] := by
  exact hR _ _ _ u0 dX12_share_45 h.1 h.2
def qX12_share (x1 : Int32) (u0 : St) (post : Int32 → St → Prop) : Prop := qX12_isDebt x1 u0 (fun r_23 u_22 => ((¬ r_23 = 0 → qX12_allOwed u_22 (fun r_27 u_26 => ((¬ r_27 = 0 → qX12_owedOf x1 u_26 (fun r_31 u_30 => qX12_allOwed u_30 (fun r_34 u_33 => qX12_tellsBy (r_31).toInt64 (r_34).toInt64 u_33 (fun r_37 u_36 => qX12_share_b45 post r_37 u_36)))) ∧ (r_27 = 0 → qX12_is (6 : Int32) u_26 (fun r_40 u_39 => qX12_share_b45 post r_40 u_39))))) ∧ (r_23 = 0 → qX12_is (1 : Int32) u_22 (fun r_43 u_42 => (bz r_43 ∧ post r_43 u_42)))))
set_option maxRecDepth 100000 in
set_option maxHeartbeats 4000000 in
theorem kX12_share {C : Cx} {o0 : Nat} {a0 : Nat → Nat} (hC : Fx C cX12_share 2 RX12) (hR0 : xR C = rm 5) {post : Int32 → St → Prop} (hR : RZ C cX12_share 2 (fun u : St => (wX12 o0 a0 (xy C) u [])) (fun r u => post r u)) {x1 : Int32} {u0 : St} (h : qX12_share x1 u0 post) : G C 0 0 2 (wX12 o0 a0 (xy C) u0 []) 0 [(0, .ref o0), (1, .int x1)] [] := by
  refine g_aload_n (pc := 0) hC 0 dX12_share_0 rfl rfl ?_
  refine g_iload_n (pc := 1) hC 1 dX12_share_1 rfl rfl ?_
  refine g_callV_i (pc := 2) (wd := fun (u : St) Y => (wX12 o0 a0 (xy C) u Y)) (F := fun Z => Z) (X := []) (As := [.int x1]) (rest := []) (u := u0) hC (fun _ _ => rfl) (fun _ => rfl) (ctX12_isDebt h) wvX12_isDebt ml_X12_294 (ci := 10) (q0 := 0) rfl rfl rfl rfl (rmok hR0 rfl) ⟨Nat.zero_le _, Nat.zero_le _⟩ rfl (Nat.le_of_ble_eq_true rfl) dX12_share_2 (fun r_23 u_22 h => ?_)
  refine g_if_ne (pc := 5) (tgt := 14) hC dX12_share_5 (by decide) (fun c_25 => ?_) (fun c_25 => ?_)
  · have h := h.1 c_25
    refine g_aload_n (pc := 14) hC 0 dX12_share_14 rfl rfl ?_
    refine g_callV_i (pc := 15) (wd := fun (u : St) Y => (wX12 o0 a0 (xy C) u Y)) (F := fun Z => Z) (X := []) (As := []) (rest := []) (u := u_22) hC (fun _ _ => rfl) (fun _ => rfl) (ctX12_allOwed h) wvX12_allOwed ml_X12_285 (ci := 10) (q0 := 0) rfl rfl rfl rfl (rmok hR0 rfl) ⟨Nat.zero_le _, Nat.zero_le _⟩ rfl (Nat.le_of_ble_eq_true rfl) dX12_share_15 (fun r_27 u_26 h => ?_)
    refine g_if_ne (pc := 18) (tgt := 30) hC dX12_share_18 (by decide) (fun c_29 => ?_) (fun c_29 => ?_)
    · have h := h.1 c_29
      refine g_aload_n (pc := 30) hC 0 dX12_share_30 rfl rfl ?_
      refine g_aload_n (pc := 31) hC 0 dX12_share_31 rfl rfl ?_
      refine g_iload_n (pc := 32) hC 1 dX12_share_32 rfl rfl ?_
      refine g_callV_i (pc := 33) (wd := fun (u : St) Y => (wX12 o0 a0 (xy C) u Y)) (F := fun Z => Z) (X := []) (As := [.int x1]) (rest := [.ref o0]) (u := u_26) hC (fun _ _ => rfl) (fun _ => rfl) (ctX12_owedOf h) wvX12_owedOf ml_X12_282 (ci := 10) (q0 := 0) rfl rfl rfl rfl (rmok hR0 rfl) ⟨Nat.zero_le _, Nat.zero_le _⟩ rfl (Nat.le_of_ble_eq_true rfl) dX12_share_33 (fun r_31 u_30 h => ?_)
      refine g_i2l (pc := 36) hC dX12_share_36 ?_
      refine g_aload_n (pc := 37) hC 0 dX12_share_37 rfl rfl ?_
      refine g_callV_i (pc := 38) (wd := fun (u : St) Y => (wX12 o0 a0 (xy C) u Y)) (F := fun Z => Z) (X := []) (As := []) (rest := [.long (r_31).toInt64, .ref o0]) (u := u_30) hC (fun _ _ => rfl) (fun _ => rfl) (ctX12_allOwed h) wvX12_allOwed ml_X12_285 (ci := 10) (q0 := 0) rfl rfl rfl rfl (rmok hR0 rfl) ⟨Nat.zero_le _, Nat.zero_le _⟩ rfl (Nat.le_of_ble_eq_true rfl) dX12_share_38 (fun r_34 u_33 h => ?_)
      refine g_i2l (pc := 41) hC dX12_share_41 ?_
      refine g_callV_i (pc := 42) (wd := fun (u : St) Y => (wX12 o0 a0 (xy C) u Y)) (F := fun Z => Z) (X := []) (As := [.long (r_31).toInt64, .long (r_34).toInt64]) (rest := []) (u := u_33) hC (fun _ _ => rfl) (fun _ => rfl) (ctX12_tellsBy h) wvX12_tellsBy ml_X12_396 (ci := 10) (q0 := 0) rfl rfl rfl rfl (rmok hR0 rfl) ⟨Nat.zero_le _, Nat.zero_le _⟩ rfl (Nat.le_of_ble_eq_true rfl) dX12_share_42 (fun r_37 u_36 h => ?_)
      refine g_sub (lv' := []) [] rfl ?_
      exact kX12_share_b45 hC hR0 hR  h
    · have h := h.2 c_29
      refine g_aload_n (pc := 21) hC 0 dX12_share_21 rfl rfl ?_
      refine g_bipush (pc := 22) (v := 6) hC dX12_share_22 (by decide) ?_
      refine g_callV_i (pc := 24) (wd := fun (u : St) Y => (wX12 o0 a0 (xy C) u Y)) (F := fun Z => Z) (X := []) (As := [.int (6 : Int32)]) (rest := []) (u := u_26) hC (fun _ _ => rfl) (fun _ => rfl) (ctX12_is h) wvX12_is ml_X12_95 (ci := 10) (q0 := 0) rfl rfl rfl rfl (rmok hR0 rfl) ⟨Nat.zero_le _, Nat.zero_le _⟩ rfl (Nat.le_of_ble_eq_true rfl) dX12_share_24 (fun r_40 u_39 h => ?_)
      refine g_goto (pc := 27) (tgt := 45) hC dX12_share_27 (by decide) ?_
      refine g_sub (lv' := []) [] rfl ?_
      exact kX12_share_b45 hC hR0 hR  h
  · have h := h.2 c_25
    refine g_aload_n (pc := 8) hC 0 dX12_share_8 rfl rfl ?_
    refine g_iconst (pc := 9) (v := 1) hC dX12_share_9 (by decide) ?_
    refine g_callV_i (pc := 10) (wd := fun (u : St) Y => (wX12 o0 a0 (xy C) u Y)) (F := fun Z => Z) (X := []) (As := [.int (1 : Int32)]) (rest := []) (u := u_22) hC (fun _ _ => rfl) (fun _ => rfl) (ctX12_is h) wvX12_is ml_X12_95 (ci := 10) (q0 := 0) rfl rfl rfl rfl (rmok hR0 rfl) ⟨Nat.zero_le _, Nat.zero_le _⟩ rfl (Nat.le_of_ble_eq_true rfl) dX12_share_10 (fun r_43 u_42 h => ?_)
    exact hR _ _ _ u_42 dX12_share_13 h.1 h.2
theorem ctX12_share {l : Launch} {D : va_G} {cy : Nat → ClassId} {kd : Nat → Nat} {o0 : Nat} {a0 : Nat → Nat} {x1 : Int32} {u0 : St} {post : Int32 → St → Prop} (h : qX12_share x1 u0 post) : CtI l D cy kd yX12_share cX12_share 2 5 .boolean [.ref o0, .int x1] (fun u : St => (wX12 o0 a0 cy u [])) u0 (fun r u => post r u) := met_z (by decide) (Nat.le_of_ble_eq_true rfl) (fun C e1 e2 e3 e4 e5 hC hR => by subst e1 e2 e3 e4; exact kX12_share hC e5 hR h)
