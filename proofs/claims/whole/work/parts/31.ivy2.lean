/-! IvyHouse -/
theorem dX11_shorts_0 : decode cX11_shorts 0 = .ok (.iconst 0, 1) := by decide +kernel
theorem dX11_shorts_1 : decode cX11_shorts 1 = .ok (.istore_n 1, 1) := by decide +kernel
theorem dX11_shorts_2 : decode cX11_shorts 2 = .ok (.iconst 0, 1) := by decide +kernel
theorem dX11_shorts_3 : decode cX11_shorts 3 = .ok (.istore_n 2, 1) := by decide +kernel
theorem dX11_shorts_4 : decode cX11_shorts 4 = .ok (.iload_n 2, 1) := by decide +kernel
theorem dX11_shorts_5 : decode cX11_shorts 5 = .ok (.aload_n 0, 1) := by decide +kernel
theorem dX11_shorts_6 : decode cX11_shorts 6 = .ok (.getfield 46, 3) := by decide +kernel
theorem dX11_shorts_9 : decode cX11_shorts 9 = .ok (.getfield 179, 3) := by decide +kernel
theorem dX11_shorts_12 : decode cX11_shorts 12 = .ok (.if_icmp .ge 26, 3) := by decide +kernel
theorem dX11_shorts_15 : decode cX11_shorts 15 = .ok (.aload_n 0, 1) := by decide +kernel
theorem dX11_shorts_16 : decode cX11_shorts 16 = .ok (.getfield 46, 3) := by decide +kernel
theorem dX11_shorts_19 : decode cX11_shorts 19 = .ok (.iload_n 2, 1) := by decide +kernel
theorem dX11_shorts_20 : decode cX11_shorts 20 = .ok (.invokevirtual 258, 3) := by decide +kernel
theorem dX11_shorts_23 : decode cX11_shorts 23 = .ok (.ifCond .ge 9, 3) := by decide +kernel
theorem dX11_shorts_26 : decode cX11_shorts 26 = .ok (.iload_n 1, 1) := by decide +kernel
theorem dX11_shorts_27 : decode cX11_shorts 27 = .ok (.iconst 1, 1) := by decide +kernel
theorem dX11_shorts_28 : decode cX11_shorts 28 = .ok (.iload_n 2, 1) := by decide +kernel
theorem dX11_shorts_29 : decode cX11_shorts 29 = .ok (.ishl, 1) := by decide +kernel
theorem dX11_shorts_30 : decode cX11_shorts 30 = .ok (.ior, 1) := by decide +kernel
theorem dX11_shorts_31 : decode cX11_shorts 31 = .ok (.istore_n 1, 1) := by decide +kernel
theorem dX11_shorts_32 : decode cX11_shorts 32 = .ok (.iinc 2 1, 3) := by decide +kernel
theorem dX11_shorts_35 : decode cX11_shorts 35 = .ok (.goto (-31), 3) := by decide +kernel
theorem dX11_shorts_38 : decode cX11_shorts 38 = .ok (.aload_n 0, 1) := by decide +kernel
theorem dX11_shorts_39 : decode cX11_shorts 39 = .ok (.iload_n 1, 1) := by decide +kernel
theorem dX11_shorts_40 : decode cX11_shorts 40 = .ok (.invokevirtual 166, 3) := by decide +kernel
theorem dX11_shorts_43 : decode cX11_shorts 43 = .ok (.ireturn, 1) := by decide +kernel
def qX11_shorts_b32   (post : Int32 → St → St → Prop) (K4 : Int32 → Int32 → St → St → Prop) (x1 : Int32) (x2 : Int32) (u0 : St) (u1 : St) : Prop := ∀ x2_8 : Int32, x2_8 = x2 + (1 : Int32) → K4 x1 x2_8 u0 u1
set_option maxRecDepth 100000 in
set_option maxHeartbeats 4000000 in
theorem kX11_shorts_b32 {C : Cx} {o0 : Nat} {a0 : Nat → Nat} {aH : Nat → Nat} (hC : Fx C cX11_shorts 3 RX11) (hR0 : xR C = rm 4) {post : Int32 → St → St → Prop} (hR : RI C cX11_shorts 3 (fun u : St × St => (wX11 o0 a0 (xy C) u.1 (wX2 (a0 7) aH (xy C) u.2 []))) (fun r u => post r u.1 u.2)) {K4 : Int32 → Int32 → St → St → Prop} (hK4 : ∀ (x1 : Int32) (x2 : Int32) (u0 : St) (u1 : St), K4 x1 x2 u0 u1 → G C 0 0 3 (wX11 o0 a0 (xy C) u0 (wX2 (a0 7) aH (xy C) u1 [])) 4 [(0, .ref o0), (1, .int x1), (2, .int x2)] []) {x1 : Int32} {x2 : Int32} {u0 : St} {u1 : St} (h : qX11_shorts_b32 post K4 x1 x2 u0 u1) : G C 0 0 3 (wX11 o0 a0 (xy C) u0 (wX2 (a0 7) aH (xy C) u1 [])) 32 [(0, .ref o0), (1, .int x1), (2, .int x2)] [] := by
  obtain ⟨x2_8, ex2_8⟩ : ∃ z : Int32, z = x2 + (1 : Int32) := ⟨_, rfl⟩
  have h := h x2_8 ex2_8
  refine g_iinc (pc := 32) (v := x2_8) (lv' := [(2, .int x2_8), (0, .ref o0), (1, .int x1)]) hC 2 dX11_shorts_32 rfl (by rw [ex2_8]; rfl) (Nat.le_of_ble_eq_true rfl) rfl ?_
  refine g_goto (pc := 35) (tgt := 4) hC dX11_shorts_35 (by decide) ?_
  refine g_sub (lv' := [(0, .ref o0), (1, .int x1), (2, .int x2_8)]) [1, 2, 0] rfl ?_
  exact hK4 _ _ _ _ h
def qX11_shorts_b38   (post : Int32 → St → St → Prop)  (x1 : Int32) (u0 : St) (u1 : St) : Prop := qX11_answer x1 u0 (fun r_10 u_9 => post r_10 u_9 u1)
set_option maxRecDepth 100000 in
set_option maxHeartbeats 4000000 in
theorem kX11_shorts_b38 {C : Cx} {o0 : Nat} {a0 : Nat → Nat} {aH : Nat → Nat} (hC : Fx C cX11_shorts 3 RX11) (hR0 : xR C = rm 4) {post : Int32 → St → St → Prop} (hR : RI C cX11_shorts 3 (fun u : St × St => (wX11 o0 a0 (xy C) u.1 (wX2 (a0 7) aH (xy C) u.2 []))) (fun r u => post r u.1 u.2))  {x1 : Int32} {u0 : St} {u1 : St} (h : qX11_shorts_b38 post x1 u0 u1) : G C 0 0 3 (wX11 o0 a0 (xy C) u0 (wX2 (a0 7) aH (xy C) u1 [])) 38 [(0, .ref o0), (1, .int x1)] [] := by
  refine g_aload_n (pc := 38) hC 0 dX11_shorts_38 rfl rfl ?_
  refine g_iload_n (pc := 39) hC 1 dX11_shorts_39 rfl rfl ?_
  refine g_callV_i (pc := 40) (wd := fun (u : St) Y => (wX11 o0 a0 (xy C) u Y)) (F := fun Z => Z) (X := []) (As := [.int x1]) (rest := []) (u := u0) hC (fun _ _ => rfl) (fun _ => rfl) (ctX11_answer h) wvX11_answer ml_X11_166 (ci := 9) (q0 := 0) rfl rfl rfl rfl (rmok hR0 rfl) ⟨Nat.zero_le _, Nat.zero_le _⟩ rfl (Nat.le_of_ble_eq_true rfl) dX11_shorts_40 (fun r_10 u_9 h => ?_)
  exact hR _ _ _ (u_9, u1) dX11_shorts_43 h
def qX11_shorts_l4   (post : Int32 → St → St → Prop) (K4 : Int32 → Int32 → St → St → Prop) (x1 : Int32) (x2 : Int32) (u0 : St) (u1 : St) : Prop := (((gi u1 1) ≤ x2 → qX11_shorts_b38 post x1 u0 u1) ∧ (¬ (gi u1 1) ≤ x2 → qX2_netOf x2 u1 (fun r_14 u_13 => ((0 ≤ r_14 → qX11_shorts_b32 post K4 x1 x2 u0 u_13) ∧ (¬ 0 ≤ r_14 → ∀ x1_17 : Int32, x1_17 = (x1 ||| ((1 : Int32) <<< (x2 &&& 31))) → qX11_shorts_b32 post K4 x1_17 x2 u0 u_13)))))
set_option maxRecDepth 100000 in
set_option maxHeartbeats 4000000 in
theorem kX11_shorts_l4 {C : Cx} {o0 : Nat} {a0 : Nat → Nat} {aH : Nat → Nat} (hC : Fx C cX11_shorts 3 RX11) (hR0 : xR C = rm 4) {post : Int32 → St → St → Prop} (hR : RI C cX11_shorts 3 (fun u : St × St => (wX11 o0 a0 (xy C) u.1 (wX2 (a0 7) aH (xy C) u.2 []))) (fun r u => post r u.1 u.2))  {K4 : Int32 → Int32 → St → St → Prop} (hK4 : ∀ (x1 : Int32) (x2 : Int32) (u0 : St) (u1 : St), K4 x1 x2 u0 u1 → G C 0 0 3 (wX11 o0 a0 (xy C) u0 (wX2 (a0 7) aH (xy C) u1 [])) 4 [(0, .ref o0), (1, .int x1), (2, .int x2)] []) {x1 : Int32} {x2 : Int32} {u0 : St} {u1 : St} (h : qX11_shorts_l4 post K4 x1 x2 u0 u1) : G C 0 0 3 (wX11 o0 a0 (xy C) u0 (wX2 (a0 7) aH (xy C) u1 [])) 4 [(0, .ref o0), (1, .int x1), (2, .int x2)] [] := by
  refine g_iload_n (pc := 4) hC 2 dX11_shorts_4 rfl rfl ?_
  refine g_aload_n (pc := 5) hC 0 dX11_shorts_5 rfl rfl ?_
  refine getX11_7 (pc := 6) hC (F := fun Z => Z) (X := []) (fun _ => rfl) fl_X11_46 dX11_shorts_6 ?_
  refine getX2_1 (pc := 9) hC (F := fun Z => (wX11 o0 a0 (xy C) u0 Z)) (X := (wX11 o0 a0 (xy C) u0 [])) (fun _ => rfl) fl_X11_179 dX11_shorts_9 ?_
  refine g_icmp_ge (pc := 12) (tgt := 38) hC dX11_shorts_12 (by decide) (fun c_12 => ?_) (fun c_12 => ?_)
  · have h := h.1 c_12
    refine g_sub (lv' := [(0, .ref o0), (1, .int x1)]) [0, 1] rfl ?_
    exact kX11_shorts_b38 hC hR0 hR   h
  · have h := h.2 c_12
    refine g_aload_n (pc := 15) hC 0 dX11_shorts_15 rfl rfl ?_
    refine getX11_7 (pc := 16) hC (F := fun Z => Z) (X := []) (fun _ => rfl) fl_X11_46 dX11_shorts_16 ?_
    refine g_iload_n (pc := 19) hC 2 dX11_shorts_19 rfl rfl ?_
    refine g_callV_i (pc := 20) (wd := fun (u : St) Y => (wX2 (a0 7) aH (xy C) u Y)) (F := fun Z => (wX11 o0 a0 (xy C) u0 Z)) (X := (wX11 o0 a0 (xy C) u0 [])) (As := [.int x2]) (rest := []) (u := u1) hC (fun _ _ => rfl) (fun _ => rfl) (ctX2_netOf h) wvX2_netOf ml_X11_258 (ci := 1) (q0 := 0) rfl rfl rfl rfl (rmok hR0 rfl) ⟨Nat.zero_le _, Nat.zero_le _⟩ rfl (Nat.le_of_ble_eq_true rfl) dX11_shorts_20 (fun r_14 u_13 h => ?_)
    refine g_if_ge (pc := 23) (tgt := 32) hC dX11_shorts_23 (by decide) (fun c_16 => ?_) (fun c_16 => ?_)
    · have h := h.1 c_16
      exact kX11_shorts_b32 hC hR0 hR  hK4 h
    · have h := h.2 c_16
      refine g_iload_n (pc := 26) hC 1 dX11_shorts_26 rfl rfl ?_
      refine g_iconst (pc := 27) (v := 1) hC dX11_shorts_27 (by decide) ?_
      refine g_iload_n (pc := 28) hC 2 dX11_shorts_28 rfl rfl ?_
      refine g_ishl (pc := 29) hC dX11_shorts_29 ?_
      refine g_ior (pc := 30) hC dX11_shorts_30 ?_
      refine g_topi (fun x1_17 ex1_17 => ?_)
      have h := h x1_17 ex1_17
      refine g_istore_n (pc := 31) (lv' := [(1, .int x1_17), (0, .ref o0), (2, .int x2)]) hC dX11_shorts_31 rfl (Nat.le_of_ble_eq_true rfl) rfl ?_
      refine g_sub (lv' := [(0, .ref o0), (1, .int x1_17), (2, .int x2)]) [1, 0, 2] rfl ?_
      exact kX11_shorts_b32 hC hR0 hR  hK4 h
def qX11_shorts_L4   (post : Int32 → St → St → Prop)  : Nat → Int32 → Int32 → St → St → Prop
  | 0 => fun _ _ _ _ => False
  | n + 1 => qX11_shorts_l4 post (qX11_shorts_L4 post n)
theorem kX11_shorts_L4 {C : Cx} {o0 : Nat} {a0 : Nat → Nat} {aH : Nat → Nat} (hC : Fx C cX11_shorts 3 RX11) (hR0 : xR C = rm 4) {post : Int32 → St → St → Prop} (hR : RI C cX11_shorts 3 (fun u : St × St => (wX11 o0 a0 (xy C) u.1 (wX2 (a0 7) aH (xy C) u.2 []))) (fun r u => post r u.1 u.2))  : ∀ (n : Nat) (x1 : Int32) (x2 : Int32) (u0 : St) (u1 : St), qX11_shorts_L4 post n x1 x2 u0 u1 → G C 0 0 3 (wX11 o0 a0 (xy C) u0 (wX2 (a0 7) aH (xy C) u1 [])) 4 [(0, .ref o0), (1, .int x1), (2, .int x2)] [] := by
  intro n
  induction n with
  | zero => intro x1 x2 u0 u1 h; exact h.elim
  | succ n ih => intro x1 x2 u0 u1 h; exact kX11_shorts_l4 hC hR0 hR   ih h
def qX11_shorts   (u0 : St) (u1 : St) (post : Int32 → St → St → Prop) : Prop := ∃ n_18 : Nat, qX11_shorts_L4 post n_18 (0 : Int32) (0 : Int32) u0 u1
set_option maxRecDepth 100000 in
set_option maxHeartbeats 4000000 in
theorem kX11_shorts {C : Cx} {o0 : Nat} {a0 : Nat → Nat} {aH : Nat → Nat} (hC : Fx C cX11_shorts 3 RX11) (hR0 : xR C = rm 4) {post : Int32 → St → St → Prop} (hR : RI C cX11_shorts 3 (fun u : St × St => (wX11 o0 a0 (xy C) u.1 (wX2 (a0 7) aH (xy C) u.2 []))) (fun r u => post r u.1 u.2))  {u0 : St} {u1 : St} (h : qX11_shorts   u0 u1 post) : G C 0 0 3 (wX11 o0 a0 (xy C) u0 (wX2 (a0 7) aH (xy C) u1 [])) 0 [(0, .ref o0)] [] := by
  refine g_iconst (pc := 0) (v := 0) hC dX11_shorts_0 (by decide) ?_
  refine g_istore_n (pc := 1) (lv' := [(1, .int (0 : Int32)), (0, .ref o0)]) hC dX11_shorts_1 rfl (Nat.le_of_ble_eq_true rfl) rfl ?_
  refine g_iconst (pc := 2) (v := 0) hC dX11_shorts_2 (by decide) ?_
  refine g_istore_n (pc := 3) (lv' := [(2, .int (0 : Int32)), (1, .int (0 : Int32)), (0, .ref o0)]) hC dX11_shorts_3 rfl (Nat.le_of_ble_eq_true rfl) rfl ?_
  refine g_sub (lv' := [(0, .ref o0), (1, .int (0 : Int32)), (2, .int (0 : Int32))]) [2, 1, 0] rfl ?_
  obtain ⟨n_18, h⟩ := h
  exact kX11_shorts_L4 hC hR0 hR   n_18 _ _ _ _ h
theorem ctX11_shorts {l : Launch} {D : va_G} {cy : Nat → ClassId} {kd : Nat → Nat} {o0 : Nat} {a0 : Nat → Nat} {aH : Nat → Nat}  {u0 : St} {u1 : St} {post : Int32 → St → St → Prop} (h : qX11_shorts  u0 u1 post) : CtI l D cy kd yX11_shorts cX11_shorts 3 4 .int [.ref o0] (fun u : St × St => (wX11 o0 a0 cy u.1 (wX2 (a0 7) aH cy u.2 []))) (u0, u1) (fun r u => post r u.1 u.2) := met_i (by decide) (Nat.le_of_ble_eq_true rfl) (fun C e1 e2 e3 e4 e5 hC hR => by subst e1 e2 e3 e4; exact kX11_shorts hC e5 hR h)
theorem dX11_year_0 : decode cX11_year 0 = .ok (.iload_n 1, 1) := by decide +kernel
theorem dX11_year_1 : decode cX11_year 1 = .ok (.iconst 1, 1) := by decide +kernel
theorem dX11_year_2 : decode cX11_year 2 = .ok (.bipush 99, 2) := by decide +kernel
theorem dX11_year_4 : decode cX11_year 4 = .ok (.invokestatic 104, 3) := by decide +kernel
theorem dX11_year_7 : decode cX11_year 7 = .ok (.ifCond .ne 9, 3) := by decide +kernel
theorem dX11_year_10 : decode cX11_year 10 = .ok (.aload_n 0, 1) := by decide +kernel
theorem dX11_year_11 : decode cX11_year 11 = .ok (.iconst 1, 1) := by decide +kernel
theorem dX11_year_12 : decode cX11_year 12 = .ok (.invokevirtual 127, 3) := by decide +kernel
theorem dX11_year_15 : decode cX11_year 15 = .ok (.ireturn, 1) := by decide +kernel
theorem dX11_year_16 : decode cX11_year 16 = .ok (.aload_n 0, 1) := by decide +kernel
theorem dX11_year_17 : decode cX11_year 17 = .ok (.getfield 46, 3) := by decide +kernel
theorem dX11_year_20 : decode cX11_year 20 = .ok (.getfield 185, 3) := by decide +kernel
theorem dX11_year_23 : decode cX11_year 23 = .ok (.iload_n 1, 1) := by decide +kernel
theorem dX11_year_24 : decode cX11_year 24 = .ok (.iadd, 1) := by decide +kernel
theorem dX11_year_25 : decode cX11_year 25 = .ok (.sipush 9999, 3) := by decide +kernel
theorem dX11_year_28 : decode cX11_year 28 = .ok (.if_icmp .le 9, 3) := by decide +kernel
theorem dX11_year_31 : decode cX11_year 31 = .ok (.aload_n 0, 1) := by decide +kernel
theorem dX11_year_32 : decode cX11_year 32 = .ok (.iconst 4, 1) := by decide +kernel
theorem dX11_year_33 : decode cX11_year 33 = .ok (.invokevirtual 127, 3) := by decide +kernel
theorem dX11_year_36 : decode cX11_year 36 = .ok (.ireturn, 1) := by decide +kernel
theorem dX11_year_37 : decode cX11_year 37 = .ok (.aload_n 0, 1) := by decide +kernel
theorem dX11_year_38 : decode cX11_year 38 = .ok (.getfield 46, 3) := by decide +kernel
theorem dX11_year_41 : decode cX11_year 41 = .ok (.getfield 261, 3) := by decide +kernel
theorem dX11_year_44 : decode cX11_year 44 = .ok (.istore_n 2, 1) := by decide +kernel
theorem dX11_year_45 : decode cX11_year 45 = .ok (.aload_n 0, 1) := by decide +kernel
theorem dX11_year_46 : decode cX11_year 46 = .ok (.getfield 46, 3) := by decide +kernel
theorem dX11_year_49 : decode cX11_year 49 = .ok (.iload_n 1, 1) := by decide +kernel
theorem dX11_year_50 : decode cX11_year 50 = .ok (.invokevirtual 264, 3) := by decide +kernel
theorem dX11_year_53 : decode cX11_year 53 = .ok (.aload_n 0, 1) := by decide +kernel
theorem dX11_year_54 : decode cX11_year 54 = .ok (.aload_n 0, 1) := by decide +kernel
theorem dX11_year_55 : decode cX11_year 55 = .ok (.getfield 46, 3) := by decide +kernel
theorem dX11_year_58 : decode cX11_year 58 = .ok (.getfield 261, 3) := by decide +kernel
theorem dX11_year_61 : decode cX11_year 61 = .ok (.iload_n 2, 1) := by decide +kernel
theorem dX11_year_62 : decode cX11_year 62 = .ok (.ixor, 1) := by decide +kernel
theorem dX11_year_63 : decode cX11_year 63 = .ok (.invokestatic 267, 3) := by decide +kernel
theorem dX11_year_66 : decode cX11_year 66 = .ok (.invokevirtual 166, 3) := by decide +kernel
theorem dX11_year_69 : decode cX11_year 69 = .ok (.ireturn, 1) := by decide +kernel
def qX11_year  (x1 : Int32) (u0 : St) (u1 : St) (post : Int32 → St → St → Prop) : Prop := qX11_within x1 (1 : Int32) (99 : Int32) (fun r_16 => ((¬ r_16 = 0 → ((((gi u1 4) + x1) ≤ (9999 : Int32) → ∀ x2_20 : Int32, x2_20 = (gi u1 5) → qX2_passYears x1 u1 (fun u_21 => qJ6_bitCount_0f7a4 ((gi u_21 5) ^^^ x2_20) (fun r_23 => qX11_answer r_23 u0 (fun r_26 u_25 => post r_26 u_25 u_21)))) ∧ (¬ ((gi u1 4) + x1) ≤ (9999 : Int32) → qX11_refuse (4 : Int32) u0 (fun r_29 u_28 => post r_29 u_28 u1)))) ∧ (r_16 = 0 → qX11_refuse (1 : Int32) u0 (fun r_32 u_31 => post r_32 u_31 u1))))
set_option maxRecDepth 100000 in
set_option maxHeartbeats 4000000 in
theorem kX11_year {C : Cx} {o0 : Nat} {a0 : Nat → Nat} {aH : Nat → Nat} (hC : Fx C cX11_year 3 RX11) (hR0 : xR C = rm 5) {post : Int32 → St → St → Prop} (hR : RI C cX11_year 3 (fun u : St × St => (wX11 o0 a0 (xy C) u.1 (wX2 (a0 7) aH (xy C) u.2 []))) (fun r u => post r u.1 u.2)) {x1 : Int32} {u0 : St} {u1 : St} (h : qX11_year  x1 u0 u1 post) : G C 0 0 3 (wX11 o0 a0 (xy C) u0 (wX2 (a0 7) aH (xy C) u1 [])) 0 [(0, .ref o0), (1, .int x1)] [] := by
  refine g_iload_n (pc := 0) hC 1 dX11_year_0 rfl rfl ?_
  refine g_iconst (pc := 1) (v := 1) hC dX11_year_1 (by decide) ?_
  refine g_bipush (pc := 2) (v := 99) hC dX11_year_2 (by decide) ?_
  refine g_callS_i (pc := 4) (wd := fun (_ : Unit) Y => Y) (F := fun Z => Z) (X := []) (As := [.int x1, .int (1 : Int32), .int (99 : Int32)]) (rest := []) (u := ()) hC (fun _ _ => rfl) (fun _ => rfl) (ctX11_within h) wvX11_within ml_X11_104 rfl (rmok hR0 rfl) ⟨Nat.zero_le _, Nat.zero_le _⟩ rfl (Nat.le_of_ble_eq_true rfl) dX11_year_4 (fun r_16 u_17 h => ?_)
  refine g_if_ne (pc := 7) (tgt := 16) hC dX11_year_7 (by decide) (fun c_18 => ?_) (fun c_18 => ?_)
  · have h := h.1 c_18
    refine g_aload_n (pc := 16) hC 0 dX11_year_16 rfl rfl ?_
    refine getX11_7 (pc := 17) hC (F := fun Z => Z) (X := []) (fun _ => rfl) fl_X11_46 dX11_year_17 ?_
    refine getX2_4 (pc := 20) hC (F := fun Z => (wX11 o0 a0 (xy C) u0 Z)) (X := (wX11 o0 a0 (xy C) u0 [])) (fun _ => rfl) fl_X11_185 dX11_year_20 ?_
    refine g_iload_n (pc := 23) hC 1 dX11_year_23 rfl rfl ?_
    refine g_iadd (pc := 24) hC dX11_year_24 ?_
    refine g_sipush (pc := 25) (v := 9999) hC dX11_year_25 (by decide) ?_
    refine g_icmp_le (pc := 28) (tgt := 37) hC dX11_year_28 (by decide) (fun c_19 => ?_) (fun c_19 => ?_)
    · have h := h.1 c_19
      refine g_aload_n (pc := 37) hC 0 dX11_year_37 rfl rfl ?_
      refine getX11_7 (pc := 38) hC (F := fun Z => Z) (X := []) (fun _ => rfl) fl_X11_46 dX11_year_38 ?_
      refine getX2_5 (pc := 41) hC (F := fun Z => (wX11 o0 a0 (xy C) u0 Z)) (X := (wX11 o0 a0 (xy C) u0 [])) (fun _ => rfl) fl_X11_261 dX11_year_41 ?_
      refine g_topi (fun x2_20 ex2_20 => ?_)
      have h := h x2_20 ex2_20
      refine g_istore_n (pc := 44) (lv' := [(2, .int x2_20), (0, .ref o0), (1, .int x1)]) hC dX11_year_44 rfl (Nat.le_of_ble_eq_true rfl) rfl ?_
      refine g_aload_n (pc := 45) hC 1 dX11_year_45 rfl rfl ?_
      refine getX11_7 (pc := 46) hC (F := fun Z => Z) (X := []) (fun _ => rfl) fl_X11_46 dX11_year_46 ?_
      refine g_iload_n (pc := 49) hC 2 dX11_year_49 rfl rfl ?_
      refine g_callV_v (pc := 50) (wd := fun (u : St) Y => (wX2 (a0 7) aH (xy C) u Y)) (F := fun Z => (wX11 o0 a0 (xy C) u0 Z)) (X := (wX11 o0 a0 (xy C) u0 [])) (As := [.int x1]) (rest := []) (u := u1) hC (fun _ _ => rfl) (fun _ => rfl) (ctX2_passYears h) wvX2_passYears ml_X11_264 (ci := 1) (q0 := 0) rfl rfl rfl rfl (rmok hR0 rfl) ⟨Nat.zero_le _, Nat.zero_le _⟩ rfl (Nat.le_of_ble_eq_true rfl) dX11_year_50 (fun u_21 h => ?_)
      refine g_aload_n (pc := 53) hC 1 dX11_year_53 rfl rfl ?_
      refine g_aload_n (pc := 54) hC 1 dX11_year_54 rfl rfl ?_
      refine getX11_7 (pc := 55) hC (F := fun Z => Z) (X := []) (fun _ => rfl) fl_X11_46 dX11_year_55 ?_
      refine getX2_5 (pc := 58) hC (F := fun Z => (wX11 o0 a0 (xy C) u0 Z)) (X := (wX11 o0 a0 (xy C) u0 [])) (fun _ => rfl) fl_X11_261 dX11_year_58 ?_
      refine g_iload_n (pc := 61) hC 0 dX11_year_61 rfl rfl ?_
      refine g_ixor (pc := 62) hC dX11_year_62 ?_
      refine g_callS_i (pc := 63) (wd := fun (_ : Unit) Y => Y) (F := fun Z => Z) (X := []) (As := [.int ((gi u_21 5) ^^^ x2_20)]) (rest := [.ref o0]) (u := ()) hC (fun _ _ => rfl) (fun _ => rfl) (ctJ6_bitCount_0f7a4 h) wvJ6_bitCount_0f7a4 ml_X11_267 rfl (rmok hR0 rfl) ⟨Nat.zero_le _, Nat.zero_le _⟩ rfl (Nat.le_of_ble_eq_true rfl) dX11_year_63 (fun r_23 u_24 h => ?_)
      refine g_callV_i (pc := 66) (wd := fun (u : St) Y => (wX11 o0 a0 (xy C) u Y)) (F := fun Z => Z) (X := []) (As := [.int r_23]) (rest := []) (u := u0) hC (fun _ _ => rfl) (fun _ => rfl) (ctX11_answer h) wvX11_answer ml_X11_166 (ci := 9) (q0 := 0) rfl rfl rfl rfl (rmok hR0 rfl) ⟨Nat.zero_le _, Nat.zero_le _⟩ rfl (Nat.le_of_ble_eq_true rfl) dX11_year_66 (fun r_26 u_25 h => ?_)
      exact hR _ _ _ (u_25, u_21) dX11_year_69 h
    · have h := h.2 c_19
      refine g_aload_n (pc := 31) hC 0 dX11_year_31 rfl rfl ?_
      refine g_iconst (pc := 32) (v := 4) hC dX11_year_32 (by decide) ?_
      refine g_callV_i (pc := 33) (wd := fun (u : St) Y => (wX11 o0 a0 (xy C) u Y)) (F := fun Z => Z) (X := []) (As := [.int (4 : Int32)]) (rest := []) (u := u0) hC (fun _ _ => rfl) (fun _ => rfl) (ctX11_refuse h) wvX11_refuse ml_X11_127 (ci := 9) (q0 := 0) rfl rfl rfl rfl (rmok hR0 rfl) ⟨Nat.zero_le _, Nat.zero_le _⟩ rfl (Nat.le_of_ble_eq_true rfl) dX11_year_33 (fun r_29 u_28 h => ?_)
      exact hR _ _ _ (u_28, u1) dX11_year_36 h
  · have h := h.2 c_18
    refine g_aload_n (pc := 10) hC 0 dX11_year_10 rfl rfl ?_
    refine g_iconst (pc := 11) (v := 1) hC dX11_year_11 (by decide) ?_
    refine g_callV_i (pc := 12) (wd := fun (u : St) Y => (wX11 o0 a0 (xy C) u Y)) (F := fun Z => Z) (X := []) (As := [.int (1 : Int32)]) (rest := []) (u := u0) hC (fun _ _ => rfl) (fun _ => rfl) (ctX11_refuse h) wvX11_refuse ml_X11_127 (ci := 9) (q0 := 0) rfl rfl rfl rfl (rmok hR0 rfl) ⟨Nat.zero_le _, Nat.zero_le _⟩ rfl (Nat.le_of_ble_eq_true rfl) dX11_year_12 (fun r_32 u_31 h => ?_)
    exact hR _ _ _ (u_31, u1) dX11_year_15 h
theorem ctX11_year {l : Launch} {D : va_G} {cy : Nat → ClassId} {kd : Nat → Nat} {o0 : Nat} {a0 : Nat → Nat} {aH : Nat → Nat} {x1 : Int32} {u0 : St} {u1 : St} {post : Int32 → St → St → Prop} (h : qX11_year x1 u0 u1 post) : CtI l D cy kd yX11_year cX11_year 3 5 .int [.ref o0, .int x1] (fun u : St × St => (wX11 o0 a0 cy u.1 (wX2 (a0 7) aH cy u.2 []))) (u0, u1) (fun r u => post r u.1 u.2) := met_i (by decide) (Nat.le_of_ble_eq_true rfl) (fun C e1 e2 e3 e4 e5 hC hR => by subst e1 e2 e3 e4; exact kX11_year hC e5 hR h)
theorem dX11_pay_0 : decode cX11_pay 0 = .ok (.aload_n 0, 1) := by decide +kernel
theorem dX11_pay_1 : decode cX11_pay 1 = .ok (.getfield 46, 3) := by decide +kernel
theorem dX11_pay_4 : decode cX11_pay 4 = .ok (.iload_n 1, 1) := by decide +kernel
theorem dX11_pay_5 : decode cX11_pay 5 = .ok (.invokevirtual 222, 3) := by decide +kernel
theorem dX11_pay_8 : decode cX11_pay 8 = .ok (.ifCond .ne 9, 3) := by decide +kernel
theorem dX11_pay_11 : decode cX11_pay 11 = .ok (.aload_n 0, 1) := by decide +kernel
theorem dX11_pay_12 : decode cX11_pay 12 = .ok (.iconst 1, 1) := by decide +kernel
theorem dX11_pay_13 : decode cX11_pay 13 = .ok (.invokevirtual 127, 3) := by decide +kernel
theorem dX11_pay_16 : decode cX11_pay 16 = .ok (.ireturn, 1) := by decide +kernel
theorem dX11_pay_17 : decode cX11_pay 17 = .ok (.aload_n 0, 1) := by decide +kernel
theorem dX11_pay_18 : decode cX11_pay 18 = .ok (.getfield 46, 3) := by decide +kernel
theorem dX11_pay_21 : decode cX11_pay 21 = .ok (.iload_n 1, 1) := by decide +kernel
theorem dX11_pay_22 : decode cX11_pay 22 = .ok (.invokevirtual 272, 3) := by decide +kernel
theorem dX11_pay_25 : decode cX11_pay 25 = .ok (.ifCond .ne 10, 3) := by decide +kernel
theorem dX11_pay_28 : decode cX11_pay 28 = .ok (.aload_n 0, 1) := by decide +kernel
theorem dX11_pay_29 : decode cX11_pay 29 = .ok (.bipush 7, 2) := by decide +kernel
theorem dX11_pay_31 : decode cX11_pay 31 = .ok (.invokevirtual 127, 3) := by decide +kernel
theorem dX11_pay_34 : decode cX11_pay 34 = .ok (.ireturn, 1) := by decide +kernel
theorem dX11_pay_35 : decode cX11_pay 35 = .ok (.aload_n 0, 1) := by decide +kernel
theorem dX11_pay_36 : decode cX11_pay 36 = .ok (.aload_n 0, 1) := by decide +kernel
theorem dX11_pay_37 : decode cX11_pay 37 = .ok (.getfield 46, 3) := by decide +kernel
theorem dX11_pay_40 : decode cX11_pay 40 = .ok (.iload_n 1, 1) := by decide +kernel
theorem dX11_pay_41 : decode cX11_pay 41 = .ok (.invokevirtual 275, 3) := by decide +kernel
theorem dX11_pay_44 : decode cX11_pay 44 = .ok (.invokevirtual 166, 3) := by decide +kernel
theorem dX11_pay_47 : decode cX11_pay 47 = .ok (.ireturn, 1) := by decide +kernel
def qX11_pay  (x1 : Int32) (u0 : St) (u1 : St) (post : Int32 → St → St → Prop) : Prop := qX2_isDebt x1 u1 (fun r_20 u_19 => ((¬ r_20 = 0 → qX2_canPay x1 u_19 (fun r_24 u_23 => ((¬ r_24 = 0 → qX2_payDebt x1 u_23 (fun r_28 u_27 => qX11_answer r_28 u0 (fun r_31 u_30 => post r_31 u_30 u_27))) ∧ (r_24 = 0 → qX11_refuse (7 : Int32) u0 (fun r_34 u_33 => post r_34 u_33 u_23))))) ∧ (r_20 = 0 → qX11_refuse (1 : Int32) u0 (fun r_37 u_36 => post r_37 u_36 u_19))))
set_option maxRecDepth 100000 in
set_option maxHeartbeats 4000000 in
theorem kX11_pay {C : Cx} {o0 : Nat} {a0 : Nat → Nat} {aH : Nat → Nat} (hC : Fx C cX11_pay 2 RX11) (hR0 : xR C = rm 5) {post : Int32 → St → St → Prop} (hR : RI C cX11_pay 2 (fun u : St × St => (wX11 o0 a0 (xy C) u.1 (wX2 (a0 7) aH (xy C) u.2 []))) (fun r u => post r u.1 u.2)) {x1 : Int32} {u0 : St} {u1 : St} (h : qX11_pay  x1 u0 u1 post) : G C 0 0 2 (wX11 o0 a0 (xy C) u0 (wX2 (a0 7) aH (xy C) u1 [])) 0 [(0, .ref o0), (1, .int x1)] [] := by
  refine g_aload_n (pc := 0) hC 0 dX11_pay_0 rfl rfl ?_
  refine getX11_7 (pc := 1) hC (F := fun Z => Z) (X := []) (fun _ => rfl) fl_X11_46 dX11_pay_1 ?_
  refine g_iload_n (pc := 4) hC 1 dX11_pay_4 rfl rfl ?_
  refine g_callV_i (pc := 5) (wd := fun (u : St) Y => (wX2 (a0 7) aH (xy C) u Y)) (F := fun Z => (wX11 o0 a0 (xy C) u0 Z)) (X := (wX11 o0 a0 (xy C) u0 [])) (As := [.int x1]) (rest := []) (u := u1) hC (fun _ _ => rfl) (fun _ => rfl) (ctX2_isDebt h) wvX2_isDebt ml_X11_222 (ci := 1) (q0 := 0) rfl rfl rfl rfl (rmok hR0 rfl) ⟨Nat.zero_le _, Nat.zero_le _⟩ rfl (Nat.le_of_ble_eq_true rfl) dX11_pay_5 (fun r_20 u_19 h => ?_)
  refine g_if_ne (pc := 8) (tgt := 17) hC dX11_pay_8 (by decide) (fun c_22 => ?_) (fun c_22 => ?_)
  · have h := h.1 c_22
    refine g_aload_n (pc := 17) hC 0 dX11_pay_17 rfl rfl ?_
    refine getX11_7 (pc := 18) hC (F := fun Z => Z) (X := []) (fun _ => rfl) fl_X11_46 dX11_pay_18 ?_
    refine g_iload_n (pc := 21) hC 1 dX11_pay_21 rfl rfl ?_
    refine g_callV_i (pc := 22) (wd := fun (u : St) Y => (wX2 (a0 7) aH (xy C) u Y)) (F := fun Z => (wX11 o0 a0 (xy C) u0 Z)) (X := (wX11 o0 a0 (xy C) u0 [])) (As := [.int x1]) (rest := []) (u := u_19) hC (fun _ _ => rfl) (fun _ => rfl) (ctX2_canPay h) wvX2_canPay ml_X11_272 (ci := 1) (q0 := 0) rfl rfl rfl rfl (rmok hR0 rfl) ⟨Nat.zero_le _, Nat.zero_le _⟩ rfl (Nat.le_of_ble_eq_true rfl) dX11_pay_22 (fun r_24 u_23 h => ?_)
    refine g_if_ne (pc := 25) (tgt := 35) hC dX11_pay_25 (by decide) (fun c_26 => ?_) (fun c_26 => ?_)
    · have h := h.1 c_26
      refine g_aload_n (pc := 35) hC 0 dX11_pay_35 rfl rfl ?_
      refine g_aload_n (pc := 36) hC 0 dX11_pay_36 rfl rfl ?_
      refine getX11_7 (pc := 37) hC (F := fun Z => Z) (X := []) (fun _ => rfl) fl_X11_46 dX11_pay_37 ?_
      refine g_iload_n (pc := 40) hC 1 dX11_pay_40 rfl rfl ?_
      refine g_callV_i (pc := 41) (wd := fun (u : St) Y => (wX2 (a0 7) aH (xy C) u Y)) (F := fun Z => (wX11 o0 a0 (xy C) u0 Z)) (X := (wX11 o0 a0 (xy C) u0 [])) (As := [.int x1]) (rest := [.ref o0]) (u := u_23) hC (fun _ _ => rfl) (fun _ => rfl) (ctX2_payDebt h) wvX2_payDebt ml_X11_275 (ci := 1) (q0 := 0) rfl rfl rfl rfl (rmok hR0 rfl) ⟨Nat.zero_le _, Nat.zero_le _⟩ rfl (Nat.le_of_ble_eq_true rfl) dX11_pay_41 (fun r_28 u_27 h => ?_)
      refine g_callV_i (pc := 44) (wd := fun (u : St) Y => (wX11 o0 a0 (xy C) u Y)) (F := fun Z => Z) (X := []) (As := [.int r_28]) (rest := []) (u := u0) hC (fun _ _ => rfl) (fun _ => rfl) (ctX11_answer h) wvX11_answer ml_X11_166 (ci := 9) (q0 := 0) rfl rfl rfl rfl (rmok hR0 rfl) ⟨Nat.zero_le _, Nat.zero_le _⟩ rfl (Nat.le_of_ble_eq_true rfl) dX11_pay_44 (fun r_31 u_30 h => ?_)
      exact hR _ _ _ (u_30, u_27) dX11_pay_47 h
    · have h := h.2 c_26
      refine g_aload_n (pc := 28) hC 0 dX11_pay_28 rfl rfl ?_
      refine g_bipush (pc := 29) (v := 7) hC dX11_pay_29 (by decide) ?_
      refine g_callV_i (pc := 31) (wd := fun (u : St) Y => (wX11 o0 a0 (xy C) u Y)) (F := fun Z => Z) (X := []) (As := [.int (7 : Int32)]) (rest := []) (u := u0) hC (fun _ _ => rfl) (fun _ => rfl) (ctX11_refuse h) wvX11_refuse ml_X11_127 (ci := 9) (q0 := 0) rfl rfl rfl rfl (rmok hR0 rfl) ⟨Nat.zero_le _, Nat.zero_le _⟩ rfl (Nat.le_of_ble_eq_true rfl) dX11_pay_31 (fun r_34 u_33 h => ?_)
      exact hR _ _ _ (u_33, u_23) dX11_pay_34 h
  · have h := h.2 c_22
    refine g_aload_n (pc := 11) hC 0 dX11_pay_11 rfl rfl ?_
    refine g_iconst (pc := 12) (v := 1) hC dX11_pay_12 (by decide) ?_
    refine g_callV_i (pc := 13) (wd := fun (u : St) Y => (wX11 o0 a0 (xy C) u Y)) (F := fun Z => Z) (X := []) (As := [.int (1 : Int32)]) (rest := []) (u := u0) hC (fun _ _ => rfl) (fun _ => rfl) (ctX11_refuse h) wvX11_refuse ml_X11_127 (ci := 9) (q0 := 0) rfl rfl rfl rfl (rmok hR0 rfl) ⟨Nat.zero_le _, Nat.zero_le _⟩ rfl (Nat.le_of_ble_eq_true rfl) dX11_pay_13 (fun r_37 u_36 h => ?_)
    exact hR _ _ _ (u_36, u_19) dX11_pay_16 h
theorem ctX11_pay {l : Launch} {D : va_G} {cy : Nat → ClassId} {kd : Nat → Nat} {o0 : Nat} {a0 : Nat → Nat} {aH : Nat → Nat} {x1 : Int32} {u0 : St} {u1 : St} {post : Int32 → St → St → Prop} (h : qX11_pay x1 u0 u1 post) : CtI l D cy kd yX11_pay cX11_pay 2 5 .int [.ref o0, .int x1] (fun u : St × St => (wX11 o0 a0 cy u.1 (wX2 (a0 7) aH cy u.2 []))) (u0, u1) (fun r u => post r u.1 u.2) := met_i (by decide) (Nat.le_of_ble_eq_true rfl) (fun C e1 e2 e3 e4 e5 hC hR => by subst e1 e2 e3 e4; exact kX11_pay hC e5 hR h)
theorem dX11_snip_0 : decode cX11_snip 0 = .ok (.aload_n 0, 1) := by decide +kernel
theorem dX11_snip_1 : decode cX11_snip 1 = .ok (.getfield 46, 3) := by decide +kernel
theorem dX11_snip_4 : decode cX11_snip 4 = .ok (.iload_n 1, 1) := by decide +kernel
theorem dX11_snip_5 : decode cX11_snip 5 = .ok (.invokevirtual 222, 3) := by decide +kernel
theorem dX11_snip_8 : decode cX11_snip 8 = .ok (.ifCond .eq 13, 3) := by decide +kernel
theorem dX11_snip_11 : decode cX11_snip 11 = .ok (.iload_n 2, 1) := by decide +kernel
theorem dX11_snip_12 : decode cX11_snip 12 = .ok (.iconst 1, 1) := by decide +kernel
theorem dX11_snip_13 : decode cX11_snip 13 = .ok (.bipush 99, 2) := by decide +kernel
theorem dX11_snip_15 : decode cX11_snip 15 = .ok (.invokestatic 104, 3) := by decide +kernel
theorem dX11_snip_18 : decode cX11_snip 18 = .ok (.ifCond .ne 9, 3) := by decide +kernel
theorem dX11_snip_21 : decode cX11_snip 21 = .ok (.aload_n 0, 1) := by decide +kernel
theorem dX11_snip_22 : decode cX11_snip 22 = .ok (.iconst 1, 1) := by decide +kernel
theorem dX11_snip_23 : decode cX11_snip 23 = .ok (.invokevirtual 127, 3) := by decide +kernel
theorem dX11_snip_26 : decode cX11_snip 26 = .ok (.ireturn, 1) := by decide +kernel
theorem dX11_snip_27 : decode cX11_snip 27 = .ok (.aload_n 0, 1) := by decide +kernel
theorem dX11_snip_28 : decode cX11_snip 28 = .ok (.getfield 46, 3) := by decide +kernel
theorem dX11_snip_31 : decode cX11_snip 31 = .ok (.iload_n 1, 1) := by decide +kernel
theorem dX11_snip_32 : decode cX11_snip 32 = .ok (.iload_n 2, 1) := by decide +kernel
theorem dX11_snip_33 : decode cX11_snip 33 = .ok (.invokevirtual 278, 3) := by decide +kernel
theorem dX11_snip_36 : decode cX11_snip 36 = .ok (.ifCond .ne 10, 3) := by decide +kernel
theorem dX11_snip_39 : decode cX11_snip 39 = .ok (.aload_n 0, 1) := by decide +kernel
theorem dX11_snip_40 : decode cX11_snip 40 = .ok (.bipush 7, 2) := by decide +kernel
theorem dX11_snip_42 : decode cX11_snip 42 = .ok (.invokevirtual 127, 3) := by decide +kernel
theorem dX11_snip_45 : decode cX11_snip 45 = .ok (.ireturn, 1) := by decide +kernel
theorem dX11_snip_46 : decode cX11_snip 46 = .ok (.aload_n 0, 1) := by decide +kernel
theorem dX11_snip_47 : decode cX11_snip 47 = .ok (.getfield 46, 3) := by decide +kernel
theorem dX11_snip_50 : decode cX11_snip 50 = .ok (.iload_n 1, 1) := by decide +kernel
theorem dX11_snip_51 : decode cX11_snip 51 = .ok (.iload_n 2, 1) := by decide +kernel
theorem dX11_snip_52 : decode cX11_snip 52 = .ok (.invokevirtual 281, 3) := by decide +kernel
theorem dX11_snip_55 : decode cX11_snip 55 = .ok (.aload_n 0, 1) := by decide +kernel
theorem dX11_snip_56 : decode cX11_snip 56 = .ok (.aload_n 0, 1) := by decide +kernel
theorem dX11_snip_57 : decode cX11_snip 57 = .ok (.getfield 46, 3) := by decide +kernel
theorem dX11_snip_60 : decode cX11_snip 60 = .ok (.getfield 246, 3) := by decide +kernel
theorem dX11_snip_63 : decode cX11_snip 63 = .ok (.iload_n 1, 1) := by decide +kernel
theorem dX11_snip_64 : decode cX11_snip 64 = .ok (.iaload, 1) := by decide +kernel
theorem dX11_snip_65 : decode cX11_snip 65 = .ok (.invokevirtual 166, 3) := by decide +kernel
theorem dX11_snip_68 : decode cX11_snip 68 = .ok (.ireturn, 1) := by decide +kernel
def qX11_snip_b21   (post : Int32 → St → St → Prop)  (u0 : St) (u1 : St) : Prop := qX11_refuse (1 : Int32) u0 (fun r_21 u_20 => post r_21 u_20 u1)
set_option maxRecDepth 100000 in
set_option maxHeartbeats 4000000 in
theorem kX11_snip_b21 {C : Cx} {o0 : Nat} {a0 : Nat → Nat} {aH : Nat → Nat} (hC : Fx C cX11_snip 3 RX11) (hR0 : xR C = rm 5) {post : Int32 → St → St → Prop} (hR : RI C cX11_snip 3 (fun u : St × St => (wX11 o0 a0 (xy C) u.1 (wX2 (a0 7) aH (xy C) u.2 []))) (fun r u => post r u.1 u.2))  {u0 : St} {u1 : St} (h : qX11_snip_b21 post u0 u1) : G C 0 0 3 (wX11 o0 a0 (xy C) u0 (wX2 (a0 7) aH (xy C) u1 [])) 21 [(0, .ref o0)] [] := by
  refine g_aload_n (pc := 21) hC 0 dX11_snip_21 rfl rfl ?_
  refine g_iconst (pc := 22) (v := 1) hC dX11_snip_22 (by decide) ?_
  refine g_callV_i (pc := 23) (wd := fun (u : St) Y => (wX11 o0 a0 (xy C) u Y)) (F := fun Z => Z) (X := []) (As := [.int (1 : Int32)]) (rest := []) (u := u0) hC (fun _ _ => rfl) (fun _ => rfl) (ctX11_refuse h) wvX11_refuse ml_X11_127 (ci := 9) (q0 := 0) rfl rfl rfl rfl (rmok hR0 rfl) ⟨Nat.zero_le _, Nat.zero_le _⟩ rfl (Nat.le_of_ble_eq_true rfl) dX11_snip_23 (fun r_21 u_20 h => ?_)
  exact hR _ _ _ (u_20, u1) dX11_snip_26 h
def qX11_snip  (x1 : Int32) (x2 : Int32) (u0 : St) (u1 : St) (post : Int32 → St → St → Prop) : Prop := qX2_isDebt x1 u1 (fun r_24 u_23 => ((r_24 = 0 → qX11_snip_b21 post u0 u_23) ∧ (¬ r_24 = 0 → qX11_within x2 (1 : Int32) (99 : Int32) (fun r_27 => ((¬ r_27 = 0 → qX2_canSnip x1 x2 u_23 (fun r_31 u_30 => ((¬ r_31 = 0 → qX2_snipDebt x1 x2 u_30 (fun u_34 => (vp_in x1 7 ∧ qX11_answer (ga u_34 19 (x1).toNatClampNeg) u0 (fun r_37 u_36 => post r_37 u_36 u_34)))) ∧ (r_31 = 0 → qX11_refuse (7 : Int32) u0 (fun r_40 u_39 => post r_40 u_39 u_30))))) ∧ (r_27 = 0 → qX11_snip_b21 post u0 u_23))))))
set_option maxRecDepth 100000 in
set_option maxHeartbeats 4000000 in
theorem kX11_snip {C : Cx} {o0 : Nat} {a0 : Nat → Nat} {aH : Nat → Nat} (hC : Fx C cX11_snip 3 RX11) (hR0 : xR C = rm 5) {post : Int32 → St → St → Prop} (hR : RI C cX11_snip 3 (fun u : St × St => (wX11 o0 a0 (xy C) u.1 (wX2 (a0 7) aH (xy C) u.2 []))) (fun r u => post r u.1 u.2)) {x1 : Int32} {x2 : Int32} {u0 : St} {u1 : St} (h : qX11_snip  x1 x2 u0 u1 post) : G C 0 0 3 (wX11 o0 a0 (xy C) u0 (wX2 (a0 7) aH (xy C) u1 [])) 0 [(0, .ref o0), (1, .int x1), (2, .int x2)] [] := by
  refine g_aload_n (pc := 0) hC 0 dX11_snip_0 rfl rfl ?_
  refine getX11_7 (pc := 1) hC (F := fun Z => Z) (X := []) (fun _ => rfl) fl_X11_46 dX11_snip_1 ?_
  refine g_iload_n (pc := 4) hC 1 dX11_snip_4 rfl rfl ?_
  refine g_callV_i (pc := 5) (wd := fun (u : St) Y => (wX2 (a0 7) aH (xy C) u Y)) (F := fun Z => (wX11 o0 a0 (xy C) u0 Z)) (X := (wX11 o0 a0 (xy C) u0 [])) (As := [.int x1]) (rest := []) (u := u1) hC (fun _ _ => rfl) (fun _ => rfl) (ctX2_isDebt h) wvX2_isDebt ml_X11_222 (ci := 1) (q0 := 0) rfl rfl rfl rfl (rmok hR0 rfl) ⟨Nat.zero_le _, Nat.zero_le _⟩ rfl (Nat.le_of_ble_eq_true rfl) dX11_snip_5 (fun r_24 u_23 h => ?_)
  refine g_if_eq (pc := 8) (tgt := 21) hC dX11_snip_8 (by decide) (fun c_26 => ?_) (fun c_26 => ?_)
  · have h := h.1 c_26
    refine g_sub (lv' := [(0, .ref o0)]) [0] rfl ?_
    exact kX11_snip_b21 hC hR0 hR   h
  · have h := h.2 c_26
    refine g_iload_n (pc := 11) hC 2 dX11_snip_11 rfl rfl ?_
    refine g_iconst (pc := 12) (v := 1) hC dX11_snip_12 (by decide) ?_
    refine g_bipush (pc := 13) (v := 99) hC dX11_snip_13 (by decide) ?_
    refine g_callS_i (pc := 15) (wd := fun (_ : Unit) Y => Y) (F := fun Z => Z) (X := []) (As := [.int x2, .int (1 : Int32), .int (99 : Int32)]) (rest := []) (u := ()) hC (fun _ _ => rfl) (fun _ => rfl) (ctX11_within h) wvX11_within ml_X11_104 rfl (rmok hR0 rfl) ⟨Nat.zero_le _, Nat.zero_le _⟩ rfl (Nat.le_of_ble_eq_true rfl) dX11_snip_15 (fun r_27 u_28 h => ?_)
    refine g_if_ne (pc := 18) (tgt := 27) hC dX11_snip_18 (by decide) (fun c_29 => ?_) (fun c_29 => ?_)
    · have h := h.1 c_29
      refine g_aload_n (pc := 27) hC 0 dX11_snip_27 rfl rfl ?_
      refine getX11_7 (pc := 28) hC (F := fun Z => Z) (X := []) (fun _ => rfl) fl_X11_46 dX11_snip_28 ?_
      refine g_iload_n (pc := 31) hC 1 dX11_snip_31 rfl rfl ?_
      refine g_iload_n (pc := 32) hC 2 dX11_snip_32 rfl rfl ?_
      refine g_callV_i (pc := 33) (wd := fun (u : St) Y => (wX2 (a0 7) aH (xy C) u Y)) (F := fun Z => (wX11 o0 a0 (xy C) u0 Z)) (X := (wX11 o0 a0 (xy C) u0 [])) (As := [.int x1, .int x2]) (rest := []) (u := u_23) hC (fun _ _ => rfl) (fun _ => rfl) (ctX2_canSnip h) wvX2_canSnip ml_X11_278 (ci := 1) (q0 := 0) rfl rfl rfl rfl (rmok hR0 rfl) ⟨Nat.zero_le _, Nat.zero_le _⟩ rfl (Nat.le_of_ble_eq_true rfl) dX11_snip_33 (fun r_31 u_30 h => ?_)
      refine g_if_ne (pc := 36) (tgt := 46) hC dX11_snip_36 (by decide) (fun c_33 => ?_) (fun c_33 => ?_)
      · have h := h.1 c_33
        refine g_aload_n (pc := 46) hC 0 dX11_snip_46 rfl rfl ?_
        refine getX11_7 (pc := 47) hC (F := fun Z => Z) (X := []) (fun _ => rfl) fl_X11_46 dX11_snip_47 ?_
        refine g_iload_n (pc := 50) hC 1 dX11_snip_50 rfl rfl ?_
        refine g_iload_n (pc := 51) hC 2 dX11_snip_51 rfl rfl ?_
        refine g_callV_v (pc := 52) (wd := fun (u : St) Y => (wX2 (a0 7) aH (xy C) u Y)) (F := fun Z => (wX11 o0 a0 (xy C) u0 Z)) (X := (wX11 o0 a0 (xy C) u0 [])) (As := [.int x1, .int x2]) (rest := []) (u := u_30) hC (fun _ _ => rfl) (fun _ => rfl) (ctX2_snipDebt h) wvX2_snipDebt ml_X11_281 (ci := 1) (q0 := 0) rfl rfl rfl rfl (rmok hR0 rfl) ⟨Nat.zero_le _, Nat.zero_le _⟩ rfl (Nat.le_of_ble_eq_true rfl) dX11_snip_52 (fun u_34 h => ?_)
        refine g_aload_n (pc := 55) hC 0 dX11_snip_55 rfl rfl ?_
        refine g_aload_n (pc := 56) hC 0 dX11_snip_56 rfl rfl ?_
        refine getX11_7 (pc := 57) hC (F := fun Z => Z) (X := []) (fun _ => rfl) fl_X11_46 dX11_snip_57 ?_
        refine getX2_19 (pc := 60) hC (F := fun Z => (wX11 o0 a0 (xy C) u0 Z)) (X := (wX11 o0 a0 (xy C) u0 [])) (fun _ => rfl) fl_X11_246 dX11_snip_60 ?_
        refine g_iload_n (pc := 63) hC 1 dX11_snip_63 rfl rfl ?_
        refine aldX2_19 (pc := 64) hC (F := fun Z => (wX11 o0 a0 (xy C) u0 Z)) (X := (wX11 o0 a0 (xy C) u0 [])) (fun _ => rfl) h.1 dX11_snip_64 ?_
        have h := h.2
        refine g_callV_i (pc := 65) (wd := fun (u : St) Y => (wX11 o0 a0 (xy C) u Y)) (F := fun Z => Z) (X := []) (As := [.int (ga u_34 19 (x1).toNatClampNeg)]) (rest := []) (u := u0) hC (fun _ _ => rfl) (fun _ => rfl) (ctX11_answer h) wvX11_answer ml_X11_166 (ci := 9) (q0 := 0) rfl rfl rfl rfl (rmok hR0 rfl) ⟨Nat.zero_le _, Nat.zero_le _⟩ rfl (Nat.le_of_ble_eq_true rfl) dX11_snip_65 (fun r_37 u_36 h => ?_)
        exact hR _ _ _ (u_36, u_34) dX11_snip_68 h
      · have h := h.2 c_33
        refine g_aload_n (pc := 39) hC 0 dX11_snip_39 rfl rfl ?_
        refine g_bipush (pc := 40) (v := 7) hC dX11_snip_40 (by decide) ?_
        refine g_callV_i (pc := 42) (wd := fun (u : St) Y => (wX11 o0 a0 (xy C) u Y)) (F := fun Z => Z) (X := []) (As := [.int (7 : Int32)]) (rest := []) (u := u0) hC (fun _ _ => rfl) (fun _ => rfl) (ctX11_refuse h) wvX11_refuse ml_X11_127 (ci := 9) (q0 := 0) rfl rfl rfl rfl (rmok hR0 rfl) ⟨Nat.zero_le _, Nat.zero_le _⟩ rfl (Nat.le_of_ble_eq_true rfl) dX11_snip_42 (fun r_40 u_39 h => ?_)
        exact hR _ _ _ (u_39, u_30) dX11_snip_45 h
    · have h := h.2 c_29
      refine g_sub (lv' := [(0, .ref o0)]) [0] rfl ?_
      exact kX11_snip_b21 hC hR0 hR   h
theorem ctX11_snip {l : Launch} {D : va_G} {cy : Nat → ClassId} {kd : Nat → Nat} {o0 : Nat} {a0 : Nat → Nat} {aH : Nat → Nat} {x1 : Int32} {x2 : Int32} {u0 : St} {u1 : St} {post : Int32 → St → St → Prop} (h : qX11_snip x1 x2 u0 u1 post) : CtI l D cy kd yX11_snip cX11_snip 3 5 .int [.ref o0, .int x1, .int x2] (fun u : St × St => (wX11 o0 a0 cy u.1 (wX2 (a0 7) aH cy u.2 []))) (u0, u1) (fun r u => post r u.1 u.2) := met_i (by decide) (Nat.le_of_ble_eq_true rfl) (fun C e1 e2 e3 e4 e5 hC hR => by subst e1 e2 e3 e4; exact kX11_snip hC e5 hR h)
theorem dX11_mend_0 : decode cX11_mend 0 = .ok (.aload_n 0, 1) := by decide +kernel
theorem dX11_mend_1 : decode cX11_mend 1 = .ok (.getfield 46, 3) := by decide +kernel
theorem dX11_mend_4 : decode cX11_mend 4 = .ok (.iload_n 1, 1) := by decide +kernel
theorem dX11_mend_5 : decode cX11_mend 5 = .ok (.invokevirtual 204, 3) := by decide +kernel
theorem dX11_mend_8 : decode cX11_mend 8 = .ok (.ifCond .ne 9, 3) := by decide +kernel
theorem dX11_mend_11 : decode cX11_mend 11 = .ok (.aload_n 0, 1) := by decide +kernel
theorem dX11_mend_12 : decode cX11_mend 12 = .ok (.iconst 1, 1) := by decide +kernel
theorem dX11_mend_13 : decode cX11_mend 13 = .ok (.invokevirtual 127, 3) := by decide +kernel
theorem dX11_mend_16 : decode cX11_mend 16 = .ok (.ireturn, 1) := by decide +kernel
theorem dX11_mend_17 : decode cX11_mend 17 = .ok (.aload_n 0, 1) := by decide +kernel
theorem dX11_mend_18 : decode cX11_mend 18 = .ok (.getfield 46, 3) := by decide +kernel
theorem dX11_mend_21 : decode cX11_mend 21 = .ok (.iload_n 1, 1) := by decide +kernel
theorem dX11_mend_22 : decode cX11_mend 22 = .ok (.invokevirtual 285, 3) := by decide +kernel
theorem dX11_mend_25 : decode cX11_mend 25 = .ok (.ifCond .ne 10, 3) := by decide +kernel
theorem dX11_mend_28 : decode cX11_mend 28 = .ok (.aload_n 0, 1) := by decide +kernel
theorem dX11_mend_29 : decode cX11_mend 29 = .ok (.bipush 7, 2) := by decide +kernel
theorem dX11_mend_31 : decode cX11_mend 31 = .ok (.invokevirtual 127, 3) := by decide +kernel
theorem dX11_mend_34 : decode cX11_mend 34 = .ok (.ireturn, 1) := by decide +kernel
theorem dX11_mend_35 : decode cX11_mend 35 = .ok (.aload_n 0, 1) := by decide +kernel
theorem dX11_mend_36 : decode cX11_mend 36 = .ok (.getfield 46, 3) := by decide +kernel
theorem dX11_mend_39 : decode cX11_mend 39 = .ok (.getfield 207, 3) := by decide +kernel
theorem dX11_mend_42 : decode cX11_mend 42 = .ok (.iload_n 1, 1) := by decide +kernel
theorem dX11_mend_43 : decode cX11_mend 43 = .ok (.dup2, 1) := by decide +kernel
theorem dX11_mend_44 : decode cX11_mend 44 = .ok (.iaload, 1) := by decide +kernel
theorem dX11_mend_45 : decode cX11_mend 45 = .ok (.iconst 1, 1) := by decide +kernel
theorem dX11_mend_46 : decode cX11_mend 46 = .ok (.iadd, 1) := by decide +kernel
theorem dX11_mend_47 : decode cX11_mend 47 = .ok (.iastore, 1) := by decide +kernel
theorem dX11_mend_48 : decode cX11_mend 48 = .ok (.aload_n 0, 1) := by decide +kernel
theorem dX11_mend_49 : decode cX11_mend 49 = .ok (.aload_n 0, 1) := by decide +kernel
theorem dX11_mend_50 : decode cX11_mend 50 = .ok (.getfield 46, 3) := by decide +kernel
theorem dX11_mend_53 : decode cX11_mend 53 = .ok (.getfield 207, 3) := by decide +kernel
theorem dX11_mend_56 : decode cX11_mend 56 = .ok (.iload_n 1, 1) := by decide +kernel
theorem dX11_mend_57 : decode cX11_mend 57 = .ok (.iaload, 1) := by decide +kernel
theorem dX11_mend_58 : decode cX11_mend 58 = .ok (.invokevirtual 166, 3) := by decide +kernel
theorem dX11_mend_61 : decode cX11_mend 61 = .ok (.ireturn, 1) := by decide +kernel
def qX11_mend  (x1 : Int32) (u0 : St) (u1 : St) (post : Int32 → St → St → Prop) : Prop := qX2_isStone x1 u1 (fun r_18 u_17 => ((¬ r_18 = 0 → qX2_canMend x1 u_17 (fun r_22 u_21 => ((¬ r_22 = 0 → (vp_in x1 8 ∧ (vp_in x1 8 ∧ ∀ u_25 : St, u_25 = (sw u_21 8 (upd (ga u_21 8) (x1).toNatClampNeg ((ga u_21 8 (x1).toNatClampNeg) + (1 : Int32)))) → (vp_in x1 8 ∧ qX11_answer (ga u_25 8 (x1).toNatClampNeg) u0 (fun r_27 u_26 => post r_27 u_26 u_25))))) ∧ (r_22 = 0 → qX11_refuse (7 : Int32) u0 (fun r_30 u_29 => post r_30 u_29 u_21))))) ∧ (r_18 = 0 → qX11_refuse (1 : Int32) u0 (fun r_33 u_32 => post r_33 u_32 u_17))))
set_option maxRecDepth 100000 in
set_option maxHeartbeats 4000000 in
theorem kX11_mend {C : Cx} {o0 : Nat} {a0 : Nat → Nat} {aH : Nat → Nat} (hC : Fx C cX11_mend 2 RX11) (hR0 : xR C = rm 4) {post : Int32 → St → St → Prop} (hR : RI C cX11_mend 2 (fun u : St × St => (wX11 o0 a0 (xy C) u.1 (wX2 (a0 7) aH (xy C) u.2 []))) (fun r u => post r u.1 u.2)) {x1 : Int32} {u0 : St} {u1 : St} (h : qX11_mend  x1 u0 u1 post) : G C 0 0 2 (wX11 o0 a0 (xy C) u0 (wX2 (a0 7) aH (xy C) u1 [])) 0 [(0, .ref o0), (1, .int x1)] [] := by
  refine g_aload_n (pc := 0) hC 0 dX11_mend_0 rfl rfl ?_
  refine getX11_7 (pc := 1) hC (F := fun Z => Z) (X := []) (fun _ => rfl) fl_X11_46 dX11_mend_1 ?_
  refine g_iload_n (pc := 4) hC 1 dX11_mend_4 rfl rfl ?_
  refine g_callV_i (pc := 5) (wd := fun (u : St) Y => (wX2 (a0 7) aH (xy C) u Y)) (F := fun Z => (wX11 o0 a0 (xy C) u0 Z)) (X := (wX11 o0 a0 (xy C) u0 [])) (As := [.int x1]) (rest := []) (u := u1) hC (fun _ _ => rfl) (fun _ => rfl) (ctX2_isStone h) wvX2_isStone ml_X11_204 (ci := 1) (q0 := 0) rfl rfl rfl rfl (rmok hR0 rfl) ⟨Nat.zero_le _, Nat.zero_le _⟩ rfl (Nat.le_of_ble_eq_true rfl) dX11_mend_5 (fun r_18 u_17 h => ?_)
  refine g_if_ne (pc := 8) (tgt := 17) hC dX11_mend_8 (by decide) (fun c_20 => ?_) (fun c_20 => ?_)
  · have h := h.1 c_20
    refine g_aload_n (pc := 17) hC 0 dX11_mend_17 rfl rfl ?_
    refine getX11_7 (pc := 18) hC (F := fun Z => Z) (X := []) (fun _ => rfl) fl_X11_46 dX11_mend_18 ?_
    refine g_iload_n (pc := 21) hC 1 dX11_mend_21 rfl rfl ?_
    refine g_callV_i (pc := 22) (wd := fun (u : St) Y => (wX2 (a0 7) aH (xy C) u Y)) (F := fun Z => (wX11 o0 a0 (xy C) u0 Z)) (X := (wX11 o0 a0 (xy C) u0 [])) (As := [.int x1]) (rest := []) (u := u_17) hC (fun _ _ => rfl) (fun _ => rfl) (ctX2_canMend h) wvX2_canMend ml_X11_285 (ci := 1) (q0 := 0) rfl rfl rfl rfl (rmok hR0 rfl) ⟨Nat.zero_le _, Nat.zero_le _⟩ rfl (Nat.le_of_ble_eq_true rfl) dX11_mend_22 (fun r_22 u_21 h => ?_)
    refine g_if_ne (pc := 25) (tgt := 35) hC dX11_mend_25 (by decide) (fun c_24 => ?_) (fun c_24 => ?_)
    · have h := h.1 c_24
      refine g_aload_n (pc := 35) hC 0 dX11_mend_35 rfl rfl ?_
      refine getX11_7 (pc := 36) hC (F := fun Z => Z) (X := []) (fun _ => rfl) fl_X11_46 dX11_mend_36 ?_
      refine getX2_8 (pc := 39) hC (F := fun Z => (wX11 o0 a0 (xy C) u0 Z)) (X := (wX11 o0 a0 (xy C) u0 [])) (fun _ => rfl) fl_X11_207 dX11_mend_39 ?_
      refine g_iload_n (pc := 42) hC 1 dX11_mend_42 rfl rfl ?_
      refine g_dup2 (pc := 43) hC dX11_mend_43 rfl rfl ?_
      refine aldX2_8 (pc := 44) hC (F := fun Z => (wX11 o0 a0 (xy C) u0 Z)) (X := (wX11 o0 a0 (xy C) u0 [])) (fun _ => rfl) h.1 dX11_mend_44 ?_
      have h := h.2
      refine g_iconst (pc := 45) (v := 1) hC dX11_mend_45 (by decide) ?_
      refine g_iadd (pc := 46) hC dX11_mend_46 ?_
      refine astX2_8 (pc := 47) hC (F := fun Z => (wX11 o0 a0 (xy C) u0 Z)) (X := (wX11 o0 a0 (xy C) u0 [])) (fun _ => rfl) h.1 dX11_mend_47 ?_
      have h := h.2
      refine g_st (w := fun z => (wX11 o0 a0 (xy C) u0 (wX2 (a0 7) aH (xy C) z []))) (u := (sw u_21 8 (upd (ga u_21 8) (x1).toNatClampNeg ((ga u_21 8 (x1).toNatClampNeg) + (1 : Int32))))) (fun u_25 eu_25 => ?_)
      have h := h u_25 eu_25
      refine g_aload_n (pc := 48) hC 0 dX11_mend_48 rfl rfl ?_
      refine g_aload_n (pc := 49) hC 0 dX11_mend_49 rfl rfl ?_
      refine getX11_7 (pc := 50) hC (F := fun Z => Z) (X := []) (fun _ => rfl) fl_X11_46 dX11_mend_50 ?_
      refine getX2_8 (pc := 53) hC (F := fun Z => (wX11 o0 a0 (xy C) u0 Z)) (X := (wX11 o0 a0 (xy C) u0 [])) (fun _ => rfl) fl_X11_207 dX11_mend_53 ?_
      refine g_iload_n (pc := 56) hC 1 dX11_mend_56 rfl rfl ?_
      refine aldX2_8 (pc := 57) hC (F := fun Z => (wX11 o0 a0 (xy C) u0 Z)) (X := (wX11 o0 a0 (xy C) u0 [])) (fun _ => rfl) h.1 dX11_mend_57 ?_
      have h := h.2
      refine g_callV_i (pc := 58) (wd := fun (u : St) Y => (wX11 o0 a0 (xy C) u Y)) (F := fun Z => Z) (X := []) (As := [.int (ga u_25 8 (x1).toNatClampNeg)]) (rest := []) (u := u0) hC (fun _ _ => rfl) (fun _ => rfl) (ctX11_answer h) wvX11_answer ml_X11_166 (ci := 9) (q0 := 0) rfl rfl rfl rfl (rmok hR0 rfl) ⟨Nat.zero_le _, Nat.zero_le _⟩ rfl (Nat.le_of_ble_eq_true rfl) dX11_mend_58 (fun r_27 u_26 h => ?_)
      exact hR _ _ _ (u_26, u_25) dX11_mend_61 h
    · have h := h.2 c_24
      refine g_aload_n (pc := 28) hC 0 dX11_mend_28 rfl rfl ?_
      refine g_bipush (pc := 29) (v := 7) hC dX11_mend_29 (by decide) ?_
      refine g_callV_i (pc := 31) (wd := fun (u : St) Y => (wX11 o0 a0 (xy C) u Y)) (F := fun Z => Z) (X := []) (As := [.int (7 : Int32)]) (rest := []) (u := u0) hC (fun _ _ => rfl) (fun _ => rfl) (ctX11_refuse h) wvX11_refuse ml_X11_127 (ci := 9) (q0 := 0) rfl rfl rfl rfl (rmok hR0 rfl) ⟨Nat.zero_le _, Nat.zero_le _⟩ rfl (Nat.le_of_ble_eq_true rfl) dX11_mend_31 (fun r_30 u_29 h => ?_)
      exact hR _ _ _ (u_29, u_21) dX11_mend_34 h
  · have h := h.2 c_20
    refine g_aload_n (pc := 11) hC 0 dX11_mend_11 rfl rfl ?_
    refine g_iconst (pc := 12) (v := 1) hC dX11_mend_12 (by decide) ?_
    refine g_callV_i (pc := 13) (wd := fun (u : St) Y => (wX11 o0 a0 (xy C) u Y)) (F := fun Z => Z) (X := []) (As := [.int (1 : Int32)]) (rest := []) (u := u0) hC (fun _ _ => rfl) (fun _ => rfl) (ctX11_refuse h) wvX11_refuse ml_X11_127 (ci := 9) (q0 := 0) rfl rfl rfl rfl (rmok hR0 rfl) ⟨Nat.zero_le _, Nat.zero_le _⟩ rfl (Nat.le_of_ble_eq_true rfl) dX11_mend_13 (fun r_33 u_32 h => ?_)
    exact hR _ _ _ (u_32, u_17) dX11_mend_16 h
theorem ctX11_mend {l : Launch} {D : va_G} {cy : Nat → ClassId} {kd : Nat → Nat} {o0 : Nat} {a0 : Nat → Nat} {aH : Nat → Nat} {x1 : Int32} {u0 : St} {u1 : St} {post : Int32 → St → St → Prop} (h : qX11_mend x1 u0 u1 post) : CtI l D cy kd yX11_mend cX11_mend 2 4 .int [.ref o0, .int x1] (fun u : St × St => (wX11 o0 a0 cy u.1 (wX2 (a0 7) aH cy u.2 []))) (u0, u1) (fun r u => post r u.1 u.2) := met_i (by decide) (Nat.le_of_ble_eq_true rfl) (fun C e1 e2 e3 e4 e5 hC hR => by subst e1 e2 e3 e4; exact kX11_mend hC e5 hR h)
theorem dX11_lend_0 : decode cX11_lend 0 = .ok (.aload_n 0, 1) := by decide +kernel
theorem dX11_lend_1 : decode cX11_lend 1 = .ok (.getfield 46, 3) := by decide +kernel
theorem dX11_lend_4 : decode cX11_lend 4 = .ok (.iload_n 1, 1) := by decide +kernel
theorem dX11_lend_5 : decode cX11_lend 5 = .ok (.invokevirtual 252, 3) := by decide +kernel
theorem dX11_lend_8 : decode cX11_lend 8 = .ok (.ifCond .eq 52, 3) := by decide +kernel
theorem dX11_lend_11 : decode cX11_lend 11 = .ok (.aload_n 0, 1) := by decide +kernel
theorem dX11_lend_12 : decode cX11_lend 12 = .ok (.getfield 46, 3) := by decide +kernel
theorem dX11_lend_15 : decode cX11_lend 15 = .ok (.iload_n 2, 1) := by decide +kernel
theorem dX11_lend_16 : decode cX11_lend 16 = .ok (.invokevirtual 252, 3) := by decide +kernel
theorem dX11_lend_19 : decode cX11_lend 19 = .ok (.ifCond .eq 41, 3) := by decide +kernel
theorem dX11_lend_22 : decode cX11_lend 22 = .ok (.iload_n 1, 1) := by decide +kernel
theorem dX11_lend_23 : decode cX11_lend 23 = .ok (.iload_n 2, 1) := by decide +kernel
theorem dX11_lend_24 : decode cX11_lend 24 = .ok (.if_icmp .eq 36, 3) := by decide +kernel
theorem dX11_lend_27 : decode cX11_lend 27 = .ok (.iload_n 3, 1) := by decide +kernel
theorem dX11_lend_28 : decode cX11_lend 28 = .ok (.iconst 1, 1) := by decide +kernel
theorem dX11_lend_29 : decode cX11_lend 29 = .ok (.bipush 99, 2) := by decide +kernel
theorem dX11_lend_31 : decode cX11_lend 31 = .ok (.invokestatic 104, 3) := by decide +kernel
theorem dX11_lend_34 : decode cX11_lend 34 = .ok (.ifCond .eq 26, 3) := by decide +kernel
theorem dX11_lend_37 : decode cX11_lend 37 = .ok (.iload 4, 2) := by decide +kernel
theorem dX11_lend_39 : decode cX11_lend 39 = .ok (.iconst 0, 1) := by decide +kernel
theorem dX11_lend_40 : decode cX11_lend 40 = .ok (.bipush 9, 2) := by decide +kernel
theorem dX11_lend_42 : decode cX11_lend 42 = .ok (.invokestatic 104, 3) := by decide +kernel
theorem dX11_lend_45 : decode cX11_lend 45 = .ok (.ifCond .eq 15, 3) := by decide +kernel
theorem dX11_lend_48 : decode cX11_lend 48 = .ok (.aload_n 0, 1) := by decide +kernel
theorem dX11_lend_49 : decode cX11_lend 49 = .ok (.getfield 46, 3) := by decide +kernel
theorem dX11_lend_52 : decode cX11_lend 52 = .ok (.iload 6, 2) := by decide +kernel
theorem dX11_lend_54 : decode cX11_lend 54 = .ok (.invokevirtual 204, 3) := by decide +kernel
theorem dX11_lend_57 : decode cX11_lend 57 = .ok (.ifCond .ne 9, 3) := by decide +kernel
theorem dX11_lend_60 : decode cX11_lend 60 = .ok (.aload_n 0, 1) := by decide +kernel
theorem dX11_lend_61 : decode cX11_lend 61 = .ok (.iconst 1, 1) := by decide +kernel
theorem dX11_lend_62 : decode cX11_lend 62 = .ok (.invokevirtual 127, 3) := by decide +kernel
theorem dX11_lend_65 : decode cX11_lend 65 = .ok (.ireturn, 1) := by decide +kernel
theorem dX11_lend_66 : decode cX11_lend 66 = .ok (.aload_n 0, 1) := by decide +kernel
theorem dX11_lend_67 : decode cX11_lend 67 = .ok (.getfield 46, 3) := by decide +kernel
theorem dX11_lend_70 : decode cX11_lend 70 = .ok (.getfield 163, 3) := by decide +kernel
theorem dX11_lend_73 : decode cX11_lend 73 = .ok (.bipush 7, 2) := by decide +kernel
theorem dX11_lend_75 : decode cX11_lend 75 = .ok (.if_icmp .lt 9, 3) := by decide +kernel
theorem dX11_lend_78 : decode cX11_lend 78 = .ok (.aload_n 0, 1) := by decide +kernel
theorem dX11_lend_79 : decode cX11_lend 79 = .ok (.iconst 4, 1) := by decide +kernel
theorem dX11_lend_80 : decode cX11_lend 80 = .ok (.invokevirtual 127, 3) := by decide +kernel
theorem dX11_lend_83 : decode cX11_lend 83 = .ok (.ireturn, 1) := by decide +kernel
theorem dX11_lend_84 : decode cX11_lend 84 = .ok (.aload_n 0, 1) := by decide +kernel
theorem dX11_lend_85 : decode cX11_lend 85 = .ok (.getfield 46, 3) := by decide +kernel
theorem dX11_lend_88 : decode cX11_lend 88 = .ok (.getfield 255, 3) := by decide +kernel
theorem dX11_lend_91 : decode cX11_lend 91 = .ok (.iload_n 2, 1) := by decide +kernel
theorem dX11_lend_92 : decode cX11_lend 92 = .ok (.iaload, 1) := by decide +kernel
theorem dX11_lend_93 : decode cX11_lend 93 = .ok (.iload_n 3, 1) := by decide +kernel
theorem dX11_lend_94 : decode cX11_lend 94 = .ok (.if_icmp .ge 10, 3) := by decide +kernel
theorem dX11_lend_97 : decode cX11_lend 97 = .ok (.aload_n 0, 1) := by decide +kernel
theorem dX11_lend_98 : decode cX11_lend 98 = .ok (.bipush 7, 2) := by decide +kernel
theorem dX11_lend_100 : decode cX11_lend 100 = .ok (.invokevirtual 127, 3) := by decide +kernel
theorem dX11_lend_103 : decode cX11_lend 103 = .ok (.ireturn, 1) := by decide +kernel
theorem dX11_lend_104 : decode cX11_lend 104 = .ok (.aload_n 0, 1) := by decide +kernel
theorem dX11_lend_105 : decode cX11_lend 105 = .ok (.getfield 46, 3) := by decide +kernel
theorem dX11_lend_108 : decode cX11_lend 108 = .ok (.getfield 163, 3) := by decide +kernel
theorem dX11_lend_111 : decode cX11_lend 111 = .ok (.istore 7, 2) := by decide +kernel
theorem dX11_lend_113 : decode cX11_lend 113 = .ok (.aload_n 0, 1) := by decide +kernel
theorem dX11_lend_114 : decode cX11_lend 114 = .ok (.getfield 46, 3) := by decide +kernel
theorem dX11_lend_117 : decode cX11_lend 117 = .ok (.iload_n 1, 1) := by decide +kernel
theorem dX11_lend_118 : decode cX11_lend 118 = .ok (.iload_n 2, 1) := by decide +kernel
theorem dX11_lend_119 : decode cX11_lend 119 = .ok (.iload_n 3, 1) := by decide +kernel
theorem dX11_lend_120 : decode cX11_lend 120 = .ok (.iload 4, 2) := by decide +kernel
theorem dX11_lend_122 : decode cX11_lend 122 = .ok (.iload 5, 2) := by decide +kernel
theorem dX11_lend_124 : decode cX11_lend 124 = .ok (.iload 6, 2) := by decide +kernel
theorem dX11_lend_126 : decode cX11_lend 126 = .ok (.invokevirtual 288, 3) := by decide +kernel
theorem dX11_lend_129 : decode cX11_lend 129 = .ok (.aload_n 0, 1) := by decide +kernel
theorem dX11_lend_130 : decode cX11_lend 130 = .ok (.getfield 46, 3) := by decide +kernel
theorem dX11_lend_133 : decode cX11_lend 133 = .ok (.iload_n 2, 1) := by decide +kernel
theorem dX11_lend_134 : decode cX11_lend 134 = .ok (.iload_n 1, 1) := by decide +kernel
theorem dX11_lend_135 : decode cX11_lend 135 = .ok (.iload_n 3, 1) := by decide +kernel
theorem dX11_lend_136 : decode cX11_lend 136 = .ok (.invokevirtual 292, 3) := by decide +kernel
theorem dX11_lend_139 : decode cX11_lend 139 = .ok (.aload_n 0, 1) := by decide +kernel
theorem dX11_lend_140 : decode cX11_lend 140 = .ok (.iload 7, 2) := by decide +kernel
theorem dX11_lend_142 : decode cX11_lend 142 = .ok (.invokevirtual 166, 3) := by decide +kernel
theorem dX11_lend_145 : decode cX11_lend 145 = .ok (.ireturn, 1) := by decide +kernel
def qX11_lend_b60   (post : Int32 → St → St → Prop)  (u0 : St) (u1 : St) : Prop := qX11_refuse (1 : Int32) u0 (fun r_31 u_30 => post r_31 u_30 u1)
set_option maxRecDepth 100000 in
set_option maxHeartbeats 4000000 in
theorem kX11_lend_b60 {C : Cx} {o0 : Nat} {a0 : Nat → Nat} {aH : Nat → Nat} (hC : Fx C cX11_lend 8 RX11) (hR0 : xR C = rm 4) {post : Int32 → St → St → Prop} (hR : RI C cX11_lend 8 (fun u : St × St => (wX11 o0 a0 (xy C) u.1 (wX2 (a0 7) aH (xy C) u.2 []))) (fun r u => post r u.1 u.2))  {u0 : St} {u1 : St} (h : qX11_lend_b60 post u0 u1) : G C 0 0 8 (wX11 o0 a0 (xy C) u0 (wX2 (a0 7) aH (xy C) u1 [])) 60 [(0, .ref o0)] [] := by
  refine g_aload_n (pc := 60) hC 0 dX11_lend_60 rfl rfl ?_
  refine g_iconst (pc := 61) (v := 1) hC dX11_lend_61 (by decide) ?_
  refine g_callV_i (pc := 62) (wd := fun (u : St) Y => (wX11 o0 a0 (xy C) u Y)) (F := fun Z => Z) (X := []) (As := [.int (1 : Int32)]) (rest := []) (u := u0) hC (fun _ _ => rfl) (fun _ => rfl) (ctX11_refuse h) wvX11_refuse ml_X11_127 (ci := 9) (q0 := 0) rfl rfl rfl rfl (rmok hR0 rfl) ⟨Nat.zero_le _, Nat.zero_le _⟩ rfl (Nat.le_of_ble_eq_true rfl) dX11_lend_62 (fun r_31 u_30 h => ?_)
  exact hR _ _ _ (u_30, u1) dX11_lend_65 h
def qX11_lend  (x1 : Int32) (x2 : Int32) (x3 : Int32) (x4 : Int32) (x5 : Int32) (x6 : Int32) (u0 : St) (u1 : St) (post : Int32 → St → St → Prop) : Prop := qX2_isPerson x1 u1 (fun r_34 u_33 => ((r_34 = 0 → qX11_lend_b60 post u0 u_33) ∧ (¬ r_34 = 0 → qX2_isPerson x2 u_33 (fun r_38 u_37 => ((r_38 = 0 → qX11_lend_b60 post u0 u_37) ∧ (¬ r_38 = 0 → ((x1 = x2 → qX11_lend_b60 post u0 u_37) ∧ (¬ x1 = x2 → qX11_within x3 (1 : Int32) (99 : Int32) (fun r_42 => ((r_42 = 0 → qX11_lend_b60 post u0 u_37) ∧ (¬ r_42 = 0 → qX11_within x4 (0 : Int32) (9 : Int32) (fun r_45 => ((r_45 = 0 → qX11_lend_b60 post u0 u_37) ∧ (¬ r_45 = 0 → qX2_isStone x6 u_37 (fun r_49 u_48 => ((¬ r_49 = 0 → (((gi u_48 2) < (7 : Int32) → (vp_in x2 5 ∧ ((x3 ≤ (ga u_48 12 (x2).toNatClampNeg) → ∀ x7_54 : Int32, x7_54 = (gi u_48 2) → qX2_addDebt x1 x2 x3 x4 x5 x6 u_48 (fun u_55 => qX2_handOver x2 x1 x3 u_55 (fun u_57 => qX11_answer x7_54 u0 (fun r_60 u_59 => post r_60 u_59 u_57)))) ∧ (¬ x3 ≤ (ga u_48 12 (x2).toNatClampNeg) → qX11_refuse (7 : Int32) u0 (fun r_63 u_62 => post r_63 u_62 u_48))))) ∧ (¬ (gi u_48 2) < (7 : Int32) → qX11_refuse (4 : Int32) u0 (fun r_66 u_65 => post r_66 u_65 u_48)))) ∧ (r_49 = 0 → qX11_lend_b60 post u0 u_48)))))))))))))))))
set_option maxRecDepth 100000 in
set_option maxHeartbeats 4000000 in
theorem kX11_lend {C : Cx} {o0 : Nat} {a0 : Nat → Nat} {aH : Nat → Nat} (hC : Fx C cX11_lend 8 RX11) (hR0 : xR C = rm 4) {post : Int32 → St → St → Prop} (hR : RI C cX11_lend 8 (fun u : St × St => (wX11 o0 a0 (xy C) u.1 (wX2 (a0 7) aH (xy C) u.2 []))) (fun r u => post r u.1 u.2)) {x1 : Int32} {x2 : Int32} {x3 : Int32} {x4 : Int32} {x5 : Int32} {x6 : Int32} {u0 : St} {u1 : St} (h : qX11_lend  x1 x2 x3 x4 x5 x6 u0 u1 post) : G C 0 0 8 (wX11 o0 a0 (xy C) u0 (wX2 (a0 7) aH (xy C) u1 [])) 0 [(0, .ref o0), (1, .int x1), (2, .int x2), (3, .int x3), (4, .int x4), (5, .int x5), (6, .int x6)] [] := by
  refine g_aload_n (pc := 0) hC 0 dX11_lend_0 rfl rfl ?_
  refine getX11_7 (pc := 1) hC (F := fun Z => Z) (X := []) (fun _ => rfl) fl_X11_46 dX11_lend_1 ?_
  refine g_iload_n (pc := 4) hC 1 dX11_lend_4 rfl rfl ?_
  refine g_callV_i (pc := 5) (wd := fun (u : St) Y => (wX2 (a0 7) aH (xy C) u Y)) (F := fun Z => (wX11 o0 a0 (xy C) u0 Z)) (X := (wX11 o0 a0 (xy C) u0 [])) (As := [.int x1]) (rest := []) (u := u1) hC (fun _ _ => rfl) (fun _ => rfl) (ctX2_isPerson h) wvX2_isPerson ml_X11_252 (ci := 1) (q0 := 0) rfl rfl rfl rfl (rmok hR0 rfl) ⟨Nat.zero_le _, Nat.zero_le _⟩ rfl (Nat.le_of_ble_eq_true rfl) dX11_lend_5 (fun r_34 u_33 h => ?_)
  refine g_if_eq (pc := 8) (tgt := 60) hC dX11_lend_8 (by decide) (fun c_36 => ?_) (fun c_36 => ?_)
  · have h := h.1 c_36
    refine g_sub (lv' := [(0, .ref o0)]) [0] rfl ?_
    exact kX11_lend_b60 hC hR0 hR   h
  · have h := h.2 c_36
    refine g_aload_n (pc := 11) hC 0 dX11_lend_11 rfl rfl ?_
    refine getX11_7 (pc := 12) hC (F := fun Z => Z) (X := []) (fun _ => rfl) fl_X11_46 dX11_lend_12 ?_
    refine g_iload_n (pc := 15) hC 2 dX11_lend_15 rfl rfl ?_
    refine g_callV_i (pc := 16) (wd := fun (u : St) Y => (wX2 (a0 7) aH (xy C) u Y)) (F := fun Z => (wX11 o0 a0 (xy C) u0 Z)) (X := (wX11 o0 a0 (xy C) u0 [])) (As := [.int x2]) (rest := []) (u := u_33) hC (fun _ _ => rfl) (fun _ => rfl) (ctX2_isPerson h) wvX2_isPerson ml_X11_252 (ci := 1) (q0 := 0) rfl rfl rfl rfl (rmok hR0 rfl) ⟨Nat.zero_le _, Nat.zero_le _⟩ rfl (Nat.le_of_ble_eq_true rfl) dX11_lend_16 (fun r_38 u_37 h => ?_)
    refine g_if_eq (pc := 19) (tgt := 60) hC dX11_lend_19 (by decide) (fun c_40 => ?_) (fun c_40 => ?_)
    · have h := h.1 c_40
      refine g_sub (lv' := [(0, .ref o0)]) [0] rfl ?_
      exact kX11_lend_b60 hC hR0 hR   h
    · have h := h.2 c_40
      refine g_iload_n (pc := 22) hC 1 dX11_lend_22 rfl rfl ?_
      refine g_iload_n (pc := 23) hC 2 dX11_lend_23 rfl rfl ?_
      refine g_icmp_eq (pc := 24) (tgt := 60) hC dX11_lend_24 (by decide) (fun c_41 => ?_) (fun c_41 => ?_)
      · have h := h.1 c_41
        refine g_sub (lv' := [(0, .ref o0)]) [0] rfl ?_
        exact kX11_lend_b60 hC hR0 hR   h
      · have h := h.2 c_41
        refine g_iload_n (pc := 27) hC 3 dX11_lend_27 rfl rfl ?_
        refine g_iconst (pc := 28) (v := 1) hC dX11_lend_28 (by decide) ?_
        refine g_bipush (pc := 29) (v := 99) hC dX11_lend_29 (by decide) ?_
        refine g_callS_i (pc := 31) (wd := fun (_ : Unit) Y => Y) (F := fun Z => Z) (X := []) (As := [.int x3, .int (1 : Int32), .int (99 : Int32)]) (rest := []) (u := ()) hC (fun _ _ => rfl) (fun _ => rfl) (ctX11_within h) wvX11_within ml_X11_104 rfl (rmok hR0 rfl) ⟨Nat.zero_le _, Nat.zero_le _⟩ rfl (Nat.le_of_ble_eq_true rfl) dX11_lend_31 (fun r_42 u_43 h => ?_)
        refine g_if_eq (pc := 34) (tgt := 60) hC dX11_lend_34 (by decide) (fun c_44 => ?_) (fun c_44 => ?_)
        · have h := h.1 c_44
          refine g_sub (lv' := [(0, .ref o0)]) [0] rfl ?_
          exact kX11_lend_b60 hC hR0 hR   h
        · have h := h.2 c_44
          refine g_iload (pc := 37) hC 4 dX11_lend_37 rfl ?_
          refine g_iconst (pc := 39) (v := 0) hC dX11_lend_39 (by decide) ?_
          refine g_bipush (pc := 40) (v := 9) hC dX11_lend_40 (by decide) ?_
          refine g_callS_i (pc := 42) (wd := fun (_ : Unit) Y => Y) (F := fun Z => Z) (X := []) (As := [.int x4, .int (0 : Int32), .int (9 : Int32)]) (rest := []) (u := ()) hC (fun _ _ => rfl) (fun _ => rfl) (ctX11_within h) wvX11_within ml_X11_104 rfl (rmok hR0 rfl) ⟨Nat.zero_le _, Nat.zero_le _⟩ rfl (Nat.le_of_ble_eq_true rfl) dX11_lend_42 (fun r_45 u_46 h => ?_)
          refine g_if_eq (pc := 45) (tgt := 60) hC dX11_lend_45 (by decide) (fun c_47 => ?_) (fun c_47 => ?_)
          · have h := h.1 c_47
            refine g_sub (lv' := [(0, .ref o0)]) [0] rfl ?_
            exact kX11_lend_b60 hC hR0 hR   h
          · have h := h.2 c_47
            refine g_aload_n (pc := 48) hC 0 dX11_lend_48 rfl rfl ?_
            refine getX11_7 (pc := 49) hC (F := fun Z => Z) (X := []) (fun _ => rfl) fl_X11_46 dX11_lend_49 ?_
            refine g_iload (pc := 52) hC 6 dX11_lend_52 rfl ?_
            refine g_callV_i (pc := 54) (wd := fun (u : St) Y => (wX2 (a0 7) aH (xy C) u Y)) (F := fun Z => (wX11 o0 a0 (xy C) u0 Z)) (X := (wX11 o0 a0 (xy C) u0 [])) (As := [.int x6]) (rest := []) (u := u_37) hC (fun _ _ => rfl) (fun _ => rfl) (ctX2_isStone h) wvX2_isStone ml_X11_204 (ci := 1) (q0 := 0) rfl rfl rfl rfl (rmok hR0 rfl) ⟨Nat.zero_le _, Nat.zero_le _⟩ rfl (Nat.le_of_ble_eq_true rfl) dX11_lend_54 (fun r_49 u_48 h => ?_)
            refine g_if_ne (pc := 57) (tgt := 66) hC dX11_lend_57 (by decide) (fun c_51 => ?_) (fun c_51 => ?_)
            · have h := h.1 c_51
              refine g_aload_n (pc := 66) hC 0 dX11_lend_66 rfl rfl ?_
              refine getX11_7 (pc := 67) hC (F := fun Z => Z) (X := []) (fun _ => rfl) fl_X11_46 dX11_lend_67 ?_
              refine getX2_2 (pc := 70) hC (F := fun Z => (wX11 o0 a0 (xy C) u0 Z)) (X := (wX11 o0 a0 (xy C) u0 [])) (fun _ => rfl) fl_X11_163 dX11_lend_70 ?_
              refine g_bipush (pc := 73) (v := 7) hC dX11_lend_73 (by decide) ?_
              refine g_icmp_lt (pc := 75) (tgt := 84) hC dX11_lend_75 (by decide) (fun c_52 => ?_) (fun c_52 => ?_)
              · have h := h.1 c_52
                refine g_aload_n (pc := 84) hC 0 dX11_lend_84 rfl rfl ?_
                refine getX11_7 (pc := 85) hC (F := fun Z => Z) (X := []) (fun _ => rfl) fl_X11_46 dX11_lend_85 ?_
                refine getX2_12 (pc := 88) hC (F := fun Z => (wX11 o0 a0 (xy C) u0 Z)) (X := (wX11 o0 a0 (xy C) u0 [])) (fun _ => rfl) fl_X11_255 dX11_lend_88 ?_
                refine g_iload_n (pc := 91) hC 2 dX11_lend_91 rfl rfl ?_
                refine aldX2_12 (pc := 92) hC (F := fun Z => (wX11 o0 a0 (xy C) u0 Z)) (X := (wX11 o0 a0 (xy C) u0 [])) (fun _ => rfl) h.1 dX11_lend_92 ?_
                have h := h.2
                refine g_iload_n (pc := 93) hC 3 dX11_lend_93 rfl rfl ?_
                refine g_icmp_ge (pc := 94) (tgt := 104) hC dX11_lend_94 (by decide) (fun c_53 => ?_) (fun c_53 => ?_)
                · have h := h.1 c_53
                  refine g_aload_n (pc := 104) hC 0 dX11_lend_104 rfl rfl ?_
                  refine getX11_7 (pc := 105) hC (F := fun Z => Z) (X := []) (fun _ => rfl) fl_X11_46 dX11_lend_105 ?_
                  refine getX2_2 (pc := 108) hC (F := fun Z => (wX11 o0 a0 (xy C) u0 Z)) (X := (wX11 o0 a0 (xy C) u0 [])) (fun _ => rfl) fl_X11_163 dX11_lend_108 ?_
                  refine g_topi (fun x7_54 ex7_54 => ?_)
                  have h := h x7_54 ex7_54
                  refine g_istore (pc := 111) (lv' := [(7, .int x7_54), (0, .ref o0), (1, .int x1), (2, .int x2), (3, .int x3), (4, .int x4), (5, .int x5), (6, .int x6)]) hC dX11_lend_111 (Nat.le_of_ble_eq_true rfl) rfl ?_
                  refine g_aload_n (pc := 113) hC 1 dX11_lend_113 rfl rfl ?_
                  refine getX11_7 (pc := 114) hC (F := fun Z => Z) (X := []) (fun _ => rfl) fl_X11_46 dX11_lend_114 ?_
                  refine g_iload_n (pc := 117) hC 2 dX11_lend_117 rfl rfl ?_
                  refine g_iload_n (pc := 118) hC 3 dX11_lend_118 rfl rfl ?_
                  refine g_iload_n (pc := 119) hC 4 dX11_lend_119 rfl rfl ?_
                  refine g_iload (pc := 120) hC 5 dX11_lend_120 rfl ?_
                  refine g_iload (pc := 122) hC 6 dX11_lend_122 rfl ?_
                  refine g_iload (pc := 124) hC 7 dX11_lend_124 rfl ?_
                  refine g_callV_v (pc := 126) (wd := fun (u : St) Y => (wX2 (a0 7) aH (xy C) u Y)) (F := fun Z => (wX11 o0 a0 (xy C) u0 Z)) (X := (wX11 o0 a0 (xy C) u0 [])) (As := [.int x1, .int x2, .int x3, .int x4, .int x5, .int x6]) (rest := []) (u := u_48) hC (fun _ _ => rfl) (fun _ => rfl) (ctX2_addDebt h) wvX2_addDebt ml_X11_288 (ci := 1) (q0 := 0) rfl rfl rfl rfl (rmok hR0 rfl) ⟨Nat.zero_le _, Nat.zero_le _⟩ rfl (Nat.le_of_ble_eq_true rfl) dX11_lend_126 (fun u_55 h => ?_)
                  refine g_aload_n (pc := 129) hC 1 dX11_lend_129 rfl rfl ?_
                  refine getX11_7 (pc := 130) hC (F := fun Z => Z) (X := []) (fun _ => rfl) fl_X11_46 dX11_lend_130 ?_
                  refine g_iload_n (pc := 133) hC 3 dX11_lend_133 rfl rfl ?_
                  refine g_iload_n (pc := 134) hC 2 dX11_lend_134 rfl rfl ?_
                  refine g_iload_n (pc := 135) hC 4 dX11_lend_135 rfl rfl ?_
                  refine g_callV_v (pc := 136) (wd := fun (u : St) Y => (wX2 (a0 7) aH (xy C) u Y)) (F := fun Z => (wX11 o0 a0 (xy C) u0 Z)) (X := (wX11 o0 a0 (xy C) u0 [])) (As := [.int x2, .int x1, .int x3]) (rest := []) (u := u_55) hC (fun _ _ => rfl) (fun _ => rfl) (ctX2_handOver h) wvX2_handOver ml_X11_292 (ci := 1) (q0 := 0) rfl rfl rfl rfl (rmok hR0 rfl) ⟨Nat.zero_le _, Nat.zero_le _⟩ rfl (Nat.le_of_ble_eq_true rfl) dX11_lend_136 (fun u_57 h => ?_)
                  refine g_aload_n (pc := 139) hC 1 dX11_lend_139 rfl rfl ?_
                  refine g_iload (pc := 140) hC 0 dX11_lend_140 rfl ?_
                  refine g_callV_i (pc := 142) (wd := fun (u : St) Y => (wX11 o0 a0 (xy C) u Y)) (F := fun Z => Z) (X := []) (As := [.int x7_54]) (rest := []) (u := u0) hC (fun _ _ => rfl) (fun _ => rfl) (ctX11_answer h) wvX11_answer ml_X11_166 (ci := 9) (q0 := 0) rfl rfl rfl rfl (rmok hR0 rfl) ⟨Nat.zero_le _, Nat.zero_le _⟩ rfl (Nat.le_of_ble_eq_true rfl) dX11_lend_142 (fun r_60 u_59 h => ?_)
                  exact hR _ _ _ (u_59, u_57) dX11_lend_145 h
                · have h := h.2 c_53
                  refine g_aload_n (pc := 97) hC 0 dX11_lend_97 rfl rfl ?_
                  refine g_bipush (pc := 98) (v := 7) hC dX11_lend_98 (by decide) ?_
                  refine g_callV_i (pc := 100) (wd := fun (u : St) Y => (wX11 o0 a0 (xy C) u Y)) (F := fun Z => Z) (X := []) (As := [.int (7 : Int32)]) (rest := []) (u := u0) hC (fun _ _ => rfl) (fun _ => rfl) (ctX11_refuse h) wvX11_refuse ml_X11_127 (ci := 9) (q0 := 0) rfl rfl rfl rfl (rmok hR0 rfl) ⟨Nat.zero_le _, Nat.zero_le _⟩ rfl (Nat.le_of_ble_eq_true rfl) dX11_lend_100 (fun r_63 u_62 h => ?_)
                  exact hR _ _ _ (u_62, u_48) dX11_lend_103 h
              · have h := h.2 c_52
                refine g_aload_n (pc := 78) hC 0 dX11_lend_78 rfl rfl ?_
                refine g_iconst (pc := 79) (v := 4) hC dX11_lend_79 (by decide) ?_
                refine g_callV_i (pc := 80) (wd := fun (u : St) Y => (wX11 o0 a0 (xy C) u Y)) (F := fun Z => Z) (X := []) (As := [.int (4 : Int32)]) (rest := []) (u := u0) hC (fun _ _ => rfl) (fun _ => rfl) (ctX11_refuse h) wvX11_refuse ml_X11_127 (ci := 9) (q0 := 0) rfl rfl rfl rfl (rmok hR0 rfl) ⟨Nat.zero_le _, Nat.zero_le _⟩ rfl (Nat.le_of_ble_eq_true rfl) dX11_lend_80 (fun r_66 u_65 h => ?_)
                exact hR _ _ _ (u_65, u_48) dX11_lend_83 h
            · have h := h.2 c_51
              refine g_sub (lv' := [(0, .ref o0)]) [0] rfl ?_
              exact kX11_lend_b60 hC hR0 hR   h
theorem ctX11_lend {l : Launch} {D : va_G} {cy : Nat → ClassId} {kd : Nat → Nat} {o0 : Nat} {a0 : Nat → Nat} {aH : Nat → Nat} {x1 : Int32} {x2 : Int32} {x3 : Int32} {x4 : Int32} {x5 : Int32} {x6 : Int32} {u0 : St} {u1 : St} {post : Int32 → St → St → Prop} (h : qX11_lend x1 x2 x3 x4 x5 x6 u0 u1 post) : CtI l D cy kd yX11_lend cX11_lend 8 4 .int [.ref o0, .int x1, .int x2, .int x3, .int x4, .int x5, .int x6] (fun u : St × St => (wX11 o0 a0 cy u.1 (wX2 (a0 7) aH cy u.2 []))) (u0, u1) (fun r u => post r u.1 u.2) := met_i (by decide) (Nat.le_of_ble_eq_true rfl) (fun C e1 e2 e3 e4 e5 hC hR => by subst e1 e2 e3 e4; exact kX11_lend hC e5 hR h)
theorem dX11_give_0 : decode cX11_give 0 = .ok (.aload_n 0, 1) := by decide +kernel
theorem dX11_give_1 : decode cX11_give 1 = .ok (.getfield 46, 3) := by decide +kernel
theorem dX11_give_4 : decode cX11_give 4 = .ok (.iload_n 1, 1) := by decide +kernel
theorem dX11_give_5 : decode cX11_give 5 = .ok (.invokevirtual 252, 3) := by decide +kernel
theorem dX11_give_8 : decode cX11_give 8 = .ok (.ifCond .eq 14, 3) := by decide +kernel
theorem dX11_give_11 : decode cX11_give 11 = .ok (.iload_n 2, 1) := by decide +kernel
theorem dX11_give_12 : decode cX11_give 12 = .ok (.iconst 1, 1) := by decide +kernel
theorem dX11_give_13 : decode cX11_give 13 = .ok (.sipush 999, 3) := by decide +kernel
theorem dX11_give_16 : decode cX11_give 16 = .ok (.invokestatic 104, 3) := by decide +kernel
theorem dX11_give_19 : decode cX11_give 19 = .ok (.ifCond .ne 9, 3) := by decide +kernel
theorem dX11_give_22 : decode cX11_give 22 = .ok (.aload_n 0, 1) := by decide +kernel
theorem dX11_give_23 : decode cX11_give 23 = .ok (.iconst 1, 1) := by decide +kernel
theorem dX11_give_24 : decode cX11_give 24 = .ok (.invokevirtual 127, 3) := by decide +kernel
theorem dX11_give_27 : decode cX11_give 27 = .ok (.ireturn, 1) := by decide +kernel
theorem dX11_give_28 : decode cX11_give 28 = .ok (.aload_n 0, 1) := by decide +kernel
theorem dX11_give_29 : decode cX11_give 29 = .ok (.getfield 46, 3) := by decide +kernel
theorem dX11_give_32 : decode cX11_give 32 = .ok (.iload_n 1, 1) := by decide +kernel
theorem dX11_give_33 : decode cX11_give 33 = .ok (.iload_n 2, 1) := by decide +kernel
theorem dX11_give_34 : decode cX11_give 34 = .ok (.invokevirtual 295, 3) := by decide +kernel
theorem dX11_give_37 : decode cX11_give 37 = .ok (.aload_n 0, 1) := by decide +kernel
theorem dX11_give_38 : decode cX11_give 38 = .ok (.aload_n 0, 1) := by decide +kernel
theorem dX11_give_39 : decode cX11_give 39 = .ok (.getfield 46, 3) := by decide +kernel
theorem dX11_give_42 : decode cX11_give 42 = .ok (.getfield 255, 3) := by decide +kernel
theorem dX11_give_45 : decode cX11_give 45 = .ok (.iload_n 1, 1) := by decide +kernel
theorem dX11_give_46 : decode cX11_give 46 = .ok (.iaload, 1) := by decide +kernel
theorem dX11_give_47 : decode cX11_give 47 = .ok (.invokevirtual 166, 3) := by decide +kernel
theorem dX11_give_50 : decode cX11_give 50 = .ok (.ireturn, 1) := by decide +kernel
def qX11_give_b22   (post : Int32 → St → St → Prop)  (u0 : St) (u1 : St) : Prop := qX11_refuse (1 : Int32) u0 (fun r_15 u_14 => post r_15 u_14 u1)
set_option maxRecDepth 100000 in
set_option maxHeartbeats 4000000 in
theorem kX11_give_b22 {C : Cx} {o0 : Nat} {a0 : Nat → Nat} {aH : Nat → Nat} (hC : Fx C cX11_give 3 RX11) (hR0 : xR C = rm 3) {post : Int32 → St → St → Prop} (hR : RI C cX11_give 3 (fun u : St × St => (wX11 o0 a0 (xy C) u.1 (wX2 (a0 7) aH (xy C) u.2 []))) (fun r u => post r u.1 u.2))  {u0 : St} {u1 : St} (h : qX11_give_b22 post u0 u1) : G C 0 0 3 (wX11 o0 a0 (xy C) u0 (wX2 (a0 7) aH (xy C) u1 [])) 22 [(0, .ref o0)] [] := by
  refine g_aload_n (pc := 22) hC 0 dX11_give_22 rfl rfl ?_
  refine g_iconst (pc := 23) (v := 1) hC dX11_give_23 (by decide) ?_
  refine g_callV_i (pc := 24) (wd := fun (u : St) Y => (wX11 o0 a0 (xy C) u Y)) (F := fun Z => Z) (X := []) (As := [.int (1 : Int32)]) (rest := []) (u := u0) hC (fun _ _ => rfl) (fun _ => rfl) (ctX11_refuse h) wvX11_refuse ml_X11_127 (ci := 9) (q0 := 0) rfl rfl rfl rfl (rmok hR0 rfl) ⟨Nat.zero_le _, Nat.zero_le _⟩ rfl (Nat.le_of_ble_eq_true rfl) dX11_give_24 (fun r_15 u_14 h => ?_)
  exact hR _ _ _ (u_14, u1) dX11_give_27 h
def qX11_give  (x1 : Int32) (x2 : Int32) (u0 : St) (u1 : St) (post : Int32 → St → St → Prop) : Prop := qX2_isPerson x1 u1 (fun r_18 u_17 => ((r_18 = 0 → qX11_give_b22 post u0 u_17) ∧ (¬ r_18 = 0 → qX11_within x2 (1 : Int32) (999 : Int32) (fun r_21 => ((¬ r_21 = 0 → qX2_gain x1 x2 u_17 (fun u_24 => (vp_in x1 5 ∧ qX11_answer (ga u_24 12 (x1).toNatClampNeg) u0 (fun r_27 u_26 => post r_27 u_26 u_24)))) ∧ (r_21 = 0 → qX11_give_b22 post u0 u_17))))))
set_option maxRecDepth 100000 in
set_option maxHeartbeats 4000000 in
theorem kX11_give {C : Cx} {o0 : Nat} {a0 : Nat → Nat} {aH : Nat → Nat} (hC : Fx C cX11_give 3 RX11) (hR0 : xR C = rm 3) {post : Int32 → St → St → Prop} (hR : RI C cX11_give 3 (fun u : St × St => (wX11 o0 a0 (xy C) u.1 (wX2 (a0 7) aH (xy C) u.2 []))) (fun r u => post r u.1 u.2)) {x1 : Int32} {x2 : Int32} {u0 : St} {u1 : St} (h : qX11_give  x1 x2 u0 u1 post) : G C 0 0 3 (wX11 o0 a0 (xy C) u0 (wX2 (a0 7) aH (xy C) u1 [])) 0 [(0, .ref o0), (1, .int x1), (2, .int x2)] [] := by
  refine g_aload_n (pc := 0) hC 0 dX11_give_0 rfl rfl ?_
  refine getX11_7 (pc := 1) hC (F := fun Z => Z) (X := []) (fun _ => rfl) fl_X11_46 dX11_give_1 ?_
  refine g_iload_n (pc := 4) hC 1 dX11_give_4 rfl rfl ?_
  refine g_callV_i (pc := 5) (wd := fun (u : St) Y => (wX2 (a0 7) aH (xy C) u Y)) (F := fun Z => (wX11 o0 a0 (xy C) u0 Z)) (X := (wX11 o0 a0 (xy C) u0 [])) (As := [.int x1]) (rest := []) (u := u1) hC (fun _ _ => rfl) (fun _ => rfl) (ctX2_isPerson h) wvX2_isPerson ml_X11_252 (ci := 1) (q0 := 0) rfl rfl rfl rfl (rmok hR0 rfl) ⟨Nat.zero_le _, Nat.zero_le _⟩ rfl (Nat.le_of_ble_eq_true rfl) dX11_give_5 (fun r_18 u_17 h => ?_)
  refine g_if_eq (pc := 8) (tgt := 22) hC dX11_give_8 (by decide) (fun c_20 => ?_) (fun c_20 => ?_)
  · have h := h.1 c_20
    refine g_sub (lv' := [(0, .ref o0)]) [0] rfl ?_
    exact kX11_give_b22 hC hR0 hR   h
  · have h := h.2 c_20
    refine g_iload_n (pc := 11) hC 2 dX11_give_11 rfl rfl ?_
    refine g_iconst (pc := 12) (v := 1) hC dX11_give_12 (by decide) ?_
    refine g_sipush (pc := 13) (v := 999) hC dX11_give_13 (by decide) ?_
    refine g_callS_i (pc := 16) (wd := fun (_ : Unit) Y => Y) (F := fun Z => Z) (X := []) (As := [.int x2, .int (1 : Int32), .int (999 : Int32)]) (rest := []) (u := ()) hC (fun _ _ => rfl) (fun _ => rfl) (ctX11_within h) wvX11_within ml_X11_104 rfl (rmok hR0 rfl) ⟨Nat.zero_le _, Nat.zero_le _⟩ rfl (Nat.le_of_ble_eq_true rfl) dX11_give_16 (fun r_21 u_22 h => ?_)
    refine g_if_ne (pc := 19) (tgt := 28) hC dX11_give_19 (by decide) (fun c_23 => ?_) (fun c_23 => ?_)
    · have h := h.1 c_23
      refine g_aload_n (pc := 28) hC 0 dX11_give_28 rfl rfl ?_
      refine getX11_7 (pc := 29) hC (F := fun Z => Z) (X := []) (fun _ => rfl) fl_X11_46 dX11_give_29 ?_
      refine g_iload_n (pc := 32) hC 1 dX11_give_32 rfl rfl ?_
      refine g_iload_n (pc := 33) hC 2 dX11_give_33 rfl rfl ?_
      refine g_callV_v (pc := 34) (wd := fun (u : St) Y => (wX2 (a0 7) aH (xy C) u Y)) (F := fun Z => (wX11 o0 a0 (xy C) u0 Z)) (X := (wX11 o0 a0 (xy C) u0 [])) (As := [.int x1, .int x2]) (rest := []) (u := u_17) hC (fun _ _ => rfl) (fun _ => rfl) (ctX2_gain h) wvX2_gain ml_X11_295 (ci := 1) (q0 := 0) rfl rfl rfl rfl (rmok hR0 rfl) ⟨Nat.zero_le _, Nat.zero_le _⟩ rfl (Nat.le_of_ble_eq_true rfl) dX11_give_34 (fun u_24 h => ?_)
      refine g_aload_n (pc := 37) hC 0 dX11_give_37 rfl rfl ?_
      refine g_aload_n (pc := 38) hC 0 dX11_give_38 rfl rfl ?_
      refine getX11_7 (pc := 39) hC (F := fun Z => Z) (X := []) (fun _ => rfl) fl_X11_46 dX11_give_39 ?_
      refine getX2_12 (pc := 42) hC (F := fun Z => (wX11 o0 a0 (xy C) u0 Z)) (X := (wX11 o0 a0 (xy C) u0 [])) (fun _ => rfl) fl_X11_255 dX11_give_42 ?_
      refine g_iload_n (pc := 45) hC 1 dX11_give_45 rfl rfl ?_
      refine aldX2_12 (pc := 46) hC (F := fun Z => (wX11 o0 a0 (xy C) u0 Z)) (X := (wX11 o0 a0 (xy C) u0 [])) (fun _ => rfl) h.1 dX11_give_46 ?_
      have h := h.2
      refine g_callV_i (pc := 47) (wd := fun (u : St) Y => (wX11 o0 a0 (xy C) u Y)) (F := fun Z => Z) (X := []) (As := [.int (ga u_24 12 (x1).toNatClampNeg)]) (rest := []) (u := u0) hC (fun _ _ => rfl) (fun _ => rfl) (ctX11_answer h) wvX11_answer ml_X11_166 (ci := 9) (q0 := 0) rfl rfl rfl rfl (rmok hR0 rfl) ⟨Nat.zero_le _, Nat.zero_le _⟩ rfl (Nat.le_of_ble_eq_true rfl) dX11_give_47 (fun r_27 u_26 h => ?_)
      exact hR _ _ _ (u_26, u_24) dX11_give_50 h
    · have h := h.2 c_23
      refine g_sub (lv' := [(0, .ref o0)]) [0] rfl ?_
      exact kX11_give_b22 hC hR0 hR   h
theorem ctX11_give {l : Launch} {D : va_G} {cy : Nat → ClassId} {kd : Nat → Nat} {o0 : Nat} {a0 : Nat → Nat} {aH : Nat → Nat} {x1 : Int32} {x2 : Int32} {u0 : St} {u1 : St} {post : Int32 → St → St → Prop} (h : qX11_give x1 x2 u0 u1 post) : CtI l D cy kd yX11_give cX11_give 3 3 .int [.ref o0, .int x1, .int x2] (fun u : St × St => (wX11 o0 a0 cy u.1 (wX2 (a0 7) aH cy u.2 []))) (u0, u1) (fun r u => post r u.1 u.2) := met_i (by decide) (Nat.le_of_ble_eq_true rfl) (fun C e1 e2 e3 e4 e5 hC hR => by subst e1 e2 e3 e4; exact kX11_give hC e5 hR h)
theorem dX11_rate_0 : decode cX11_rate 0 = .ok (.aload_n 0, 1) := by decide +kernel
theorem dX11_rate_1 : decode cX11_rate 1 = .ok (.getfield 46, 3) := by decide +kernel
theorem dX11_rate_4 : decode cX11_rate 4 = .ok (.iload_n 1, 1) := by decide +kernel
theorem dX11_rate_5 : decode cX11_rate 5 = .ok (.invokevirtual 222, 3) := by decide +kernel
theorem dX11_rate_8 : decode cX11_rate 8 = .ok (.ifCond .eq 13, 3) := by decide +kernel
theorem dX11_rate_11 : decode cX11_rate 11 = .ok (.iload_n 2, 1) := by decide +kernel
theorem dX11_rate_12 : decode cX11_rate 12 = .ok (.iconst 0, 1) := by decide +kernel
theorem dX11_rate_13 : decode cX11_rate 13 = .ok (.bipush 9, 2) := by decide +kernel
theorem dX11_rate_15 : decode cX11_rate 15 = .ok (.invokestatic 104, 3) := by decide +kernel
theorem dX11_rate_18 : decode cX11_rate 18 = .ok (.ifCond .ne 9, 3) := by decide +kernel
theorem dX11_rate_21 : decode cX11_rate 21 = .ok (.aload_n 0, 1) := by decide +kernel
theorem dX11_rate_22 : decode cX11_rate 22 = .ok (.iconst 1, 1) := by decide +kernel
theorem dX11_rate_23 : decode cX11_rate 23 = .ok (.invokevirtual 127, 3) := by decide +kernel
theorem dX11_rate_26 : decode cX11_rate 26 = .ok (.ireturn, 1) := by decide +kernel
theorem dX11_rate_27 : decode cX11_rate 27 = .ok (.aload_n 0, 1) := by decide +kernel
theorem dX11_rate_28 : decode cX11_rate 28 = .ok (.getfield 46, 3) := by decide +kernel
theorem dX11_rate_31 : decode cX11_rate 31 = .ok (.getfield 192, 3) := by decide +kernel
theorem dX11_rate_34 : decode cX11_rate 34 = .ok (.iload_n 1, 1) := by decide +kernel
theorem dX11_rate_35 : decode cX11_rate 35 = .ok (.invokestatic 240, 3) := by decide +kernel
theorem dX11_rate_38 : decode cX11_rate 38 = .ok (.ifCond .eq 10, 3) := by decide +kernel
theorem dX11_rate_41 : decode cX11_rate 41 = .ok (.aload_n 0, 1) := by decide +kernel
theorem dX11_rate_42 : decode cX11_rate 42 = .ok (.bipush 7, 2) := by decide +kernel
theorem dX11_rate_44 : decode cX11_rate 44 = .ok (.invokevirtual 127, 3) := by decide +kernel
theorem dX11_rate_47 : decode cX11_rate 47 = .ok (.ireturn, 1) := by decide +kernel
theorem dX11_rate_48 : decode cX11_rate 48 = .ok (.aload_n 0, 1) := by decide +kernel
theorem dX11_rate_49 : decode cX11_rate 49 = .ok (.getfield 46, 3) := by decide +kernel
theorem dX11_rate_52 : decode cX11_rate 52 = .ok (.getfield 234, 3) := by decide +kernel
theorem dX11_rate_55 : decode cX11_rate 55 = .ok (.iload_n 1, 1) := by decide +kernel
theorem dX11_rate_56 : decode cX11_rate 56 = .ok (.iaload, 1) := by decide +kernel
theorem dX11_rate_57 : decode cX11_rate 57 = .ok (.istore_n 3, 1) := by decide +kernel
theorem dX11_rate_58 : decode cX11_rate 58 = .ok (.aload_n 0, 1) := by decide +kernel
theorem dX11_rate_59 : decode cX11_rate 59 = .ok (.getfield 46, 3) := by decide +kernel
theorem dX11_rate_62 : decode cX11_rate 62 = .ok (.getfield 234, 3) := by decide +kernel
theorem dX11_rate_65 : decode cX11_rate 65 = .ok (.iload_n 1, 1) := by decide +kernel
theorem dX11_rate_66 : decode cX11_rate 66 = .ok (.iload_n 2, 1) := by decide +kernel
theorem dX11_rate_67 : decode cX11_rate 67 = .ok (.iastore, 1) := by decide +kernel
theorem dX11_rate_68 : decode cX11_rate 68 = .ok (.aload_n 0, 1) := by decide +kernel
theorem dX11_rate_69 : decode cX11_rate 69 = .ok (.iload_n 3, 1) := by decide +kernel
theorem dX11_rate_70 : decode cX11_rate 70 = .ok (.invokevirtual 166, 3) := by decide +kernel
theorem dX11_rate_73 : decode cX11_rate 73 = .ok (.ireturn, 1) := by decide +kernel
def qX11_rate_b21   (post : Int32 → St → St → Prop)  (u0 : St) (u1 : St) : Prop := qX11_refuse (1 : Int32) u0 (fun r_19 u_18 => post r_19 u_18 u1)
set_option maxRecDepth 100000 in
set_option maxHeartbeats 4000000 in
theorem kX11_rate_b21 {C : Cx} {o0 : Nat} {a0 : Nat → Nat} {aH : Nat → Nat} (hC : Fx C cX11_rate 4 RX11) (hR0 : xR C = rm 3) {post : Int32 → St → St → Prop} (hR : RI C cX11_rate 4 (fun u : St × St => (wX11 o0 a0 (xy C) u.1 (wX2 (a0 7) aH (xy C) u.2 []))) (fun r u => post r u.1 u.2))  {u0 : St} {u1 : St} (h : qX11_rate_b21 post u0 u1) : G C 0 0 4 (wX11 o0 a0 (xy C) u0 (wX2 (a0 7) aH (xy C) u1 [])) 21 [(0, .ref o0)] [] := by
  refine g_aload_n (pc := 21) hC 0 dX11_rate_21 rfl rfl ?_
  refine g_iconst (pc := 22) (v := 1) hC dX11_rate_22 (by decide) ?_
  refine g_callV_i (pc := 23) (wd := fun (u : St) Y => (wX11 o0 a0 (xy C) u Y)) (F := fun Z => Z) (X := []) (As := [.int (1 : Int32)]) (rest := []) (u := u0) hC (fun _ _ => rfl) (fun _ => rfl) (ctX11_refuse h) wvX11_refuse ml_X11_127 (ci := 9) (q0 := 0) rfl rfl rfl rfl (rmok hR0 rfl) ⟨Nat.zero_le _, Nat.zero_le _⟩ rfl (Nat.le_of_ble_eq_true rfl) dX11_rate_23 (fun r_19 u_18 h => ?_)
  exact hR _ _ _ (u_18, u1) dX11_rate_26 h
def qX11_rate  (x1 : Int32) (x2 : Int32) (u0 : St) (u1 : St) (post : Int32 → St → St → Prop) : Prop := qX2_isDebt x1 u1 (fun r_22 u_21 => ((r_22 = 0 → qX11_rate_b21 post u0 u_21) ∧ (¬ r_22 = 0 → qX11_within x2 (0 : Int32) (9 : Int32) (fun r_25 => ((¬ r_25 = 0 → qX11_has (gi u_21 6) x1 (fun r_28 => ((r_28 = 0 → (vp_in x1 7 ∧ ∀ x3_31 : Int32, x3_31 = (ga u_21 17 (x1).toNatClampNeg) → (vp_in x1 7 ∧ ∀ u_32 : St, u_32 = (sw u_21 17 (upd (ga u_21 17) (x1).toNatClampNeg x2)) → qX11_answer x3_31 u0 (fun r_34 u_33 => post r_34 u_33 u_32)))) ∧ (¬ r_28 = 0 → qX11_refuse (7 : Int32) u0 (fun r_37 u_36 => post r_37 u_36 u_21))))) ∧ (r_25 = 0 → qX11_rate_b21 post u0 u_21))))))
set_option maxRecDepth 100000 in
set_option maxHeartbeats 4000000 in
theorem kX11_rate {C : Cx} {o0 : Nat} {a0 : Nat → Nat} {aH : Nat → Nat} (hC : Fx C cX11_rate 4 RX11) (hR0 : xR C = rm 3) {post : Int32 → St → St → Prop} (hR : RI C cX11_rate 4 (fun u : St × St => (wX11 o0 a0 (xy C) u.1 (wX2 (a0 7) aH (xy C) u.2 []))) (fun r u => post r u.1 u.2)) {x1 : Int32} {x2 : Int32} {u0 : St} {u1 : St} (h : qX11_rate  x1 x2 u0 u1 post) : G C 0 0 4 (wX11 o0 a0 (xy C) u0 (wX2 (a0 7) aH (xy C) u1 [])) 0 [(0, .ref o0), (1, .int x1), (2, .int x2)] [] := by
  refine g_aload_n (pc := 0) hC 0 dX11_rate_0 rfl rfl ?_
  refine getX11_7 (pc := 1) hC (F := fun Z => Z) (X := []) (fun _ => rfl) fl_X11_46 dX11_rate_1 ?_
  refine g_iload_n (pc := 4) hC 1 dX11_rate_4 rfl rfl ?_
  refine g_callV_i (pc := 5) (wd := fun (u : St) Y => (wX2 (a0 7) aH (xy C) u Y)) (F := fun Z => (wX11 o0 a0 (xy C) u0 Z)) (X := (wX11 o0 a0 (xy C) u0 [])) (As := [.int x1]) (rest := []) (u := u1) hC (fun _ _ => rfl) (fun _ => rfl) (ctX2_isDebt h) wvX2_isDebt ml_X11_222 (ci := 1) (q0 := 0) rfl rfl rfl rfl (rmok hR0 rfl) ⟨Nat.zero_le _, Nat.zero_le _⟩ rfl (Nat.le_of_ble_eq_true rfl) dX11_rate_5 (fun r_22 u_21 h => ?_)
  refine g_if_eq (pc := 8) (tgt := 21) hC dX11_rate_8 (by decide) (fun c_24 => ?_) (fun c_24 => ?_)
  · have h := h.1 c_24
    refine g_sub (lv' := [(0, .ref o0)]) [0] rfl ?_
    exact kX11_rate_b21 hC hR0 hR   h
  · have h := h.2 c_24
    refine g_iload_n (pc := 11) hC 2 dX11_rate_11 rfl rfl ?_
    refine g_iconst (pc := 12) (v := 0) hC dX11_rate_12 (by decide) ?_
    refine g_bipush (pc := 13) (v := 9) hC dX11_rate_13 (by decide) ?_
    refine g_callS_i (pc := 15) (wd := fun (_ : Unit) Y => Y) (F := fun Z => Z) (X := []) (As := [.int x2, .int (0 : Int32), .int (9 : Int32)]) (rest := []) (u := ()) hC (fun _ _ => rfl) (fun _ => rfl) (ctX11_within h) wvX11_within ml_X11_104 rfl (rmok hR0 rfl) ⟨Nat.zero_le _, Nat.zero_le _⟩ rfl (Nat.le_of_ble_eq_true rfl) dX11_rate_15 (fun r_25 u_26 h => ?_)
    refine g_if_ne (pc := 18) (tgt := 27) hC dX11_rate_18 (by decide) (fun c_27 => ?_) (fun c_27 => ?_)
    · have h := h.1 c_27
      refine g_aload_n (pc := 27) hC 0 dX11_rate_27 rfl rfl ?_
      refine getX11_7 (pc := 28) hC (F := fun Z => Z) (X := []) (fun _ => rfl) fl_X11_46 dX11_rate_28 ?_
      refine getX2_6 (pc := 31) hC (F := fun Z => (wX11 o0 a0 (xy C) u0 Z)) (X := (wX11 o0 a0 (xy C) u0 [])) (fun _ => rfl) fl_X11_192 dX11_rate_31 ?_
      refine g_iload_n (pc := 34) hC 1 dX11_rate_34 rfl rfl ?_
      refine g_callS_i (pc := 35) (wd := fun (_ : Unit) Y => Y) (F := fun Z => Z) (X := []) (As := [.int (gi u_21 6), .int x1]) (rest := []) (u := ()) hC (fun _ _ => rfl) (fun _ => rfl) (ctX11_has h) wvX11_has ml_X11_240 rfl (rmok hR0 rfl) ⟨Nat.zero_le _, Nat.zero_le _⟩ rfl (Nat.le_of_ble_eq_true rfl) dX11_rate_35 (fun r_28 u_29 h => ?_)
      refine g_if_eq (pc := 38) (tgt := 48) hC dX11_rate_38 (by decide) (fun c_30 => ?_) (fun c_30 => ?_)
      · have h := h.1 c_30
        refine g_aload_n (pc := 48) hC 0 dX11_rate_48 rfl rfl ?_
        refine getX11_7 (pc := 49) hC (F := fun Z => Z) (X := []) (fun _ => rfl) fl_X11_46 dX11_rate_49 ?_
        refine getX2_17 (pc := 52) hC (F := fun Z => (wX11 o0 a0 (xy C) u0 Z)) (X := (wX11 o0 a0 (xy C) u0 [])) (fun _ => rfl) fl_X11_234 dX11_rate_52 ?_
        refine g_iload_n (pc := 55) hC 1 dX11_rate_55 rfl rfl ?_
        refine aldX2_17 (pc := 56) hC (F := fun Z => (wX11 o0 a0 (xy C) u0 Z)) (X := (wX11 o0 a0 (xy C) u0 [])) (fun _ => rfl) h.1 dX11_rate_56 ?_
        have h := h.2
        refine g_topi (fun x3_31 ex3_31 => ?_)
        have h := h x3_31 ex3_31
        refine g_istore_n (pc := 57) (lv' := [(3, .int x3_31), (0, .ref o0), (1, .int x1), (2, .int x2)]) hC dX11_rate_57 rfl (Nat.le_of_ble_eq_true rfl) rfl ?_
        refine g_aload_n (pc := 58) hC 1 dX11_rate_58 rfl rfl ?_
        refine getX11_7 (pc := 59) hC (F := fun Z => Z) (X := []) (fun _ => rfl) fl_X11_46 dX11_rate_59 ?_
        refine getX2_17 (pc := 62) hC (F := fun Z => (wX11 o0 a0 (xy C) u0 Z)) (X := (wX11 o0 a0 (xy C) u0 [])) (fun _ => rfl) fl_X11_234 dX11_rate_62 ?_
        refine g_iload_n (pc := 65) hC 2 dX11_rate_65 rfl rfl ?_
        refine g_iload_n (pc := 66) hC 3 dX11_rate_66 rfl rfl ?_
        refine astX2_17 (pc := 67) hC (F := fun Z => (wX11 o0 a0 (xy C) u0 Z)) (X := (wX11 o0 a0 (xy C) u0 [])) (fun _ => rfl) h.1 dX11_rate_67 ?_
        have h := h.2
        refine g_st (w := fun z => (wX11 o0 a0 (xy C) u0 (wX2 (a0 7) aH (xy C) z []))) (u := (sw u_21 17 (upd (ga u_21 17) (x1).toNatClampNeg x2))) (fun u_32 eu_32 => ?_)
        have h := h u_32 eu_32
        refine g_aload_n (pc := 68) hC 1 dX11_rate_68 rfl rfl ?_
        refine g_iload_n (pc := 69) hC 0 dX11_rate_69 rfl rfl ?_
        refine g_callV_i (pc := 70) (wd := fun (u : St) Y => (wX11 o0 a0 (xy C) u Y)) (F := fun Z => Z) (X := []) (As := [.int x3_31]) (rest := []) (u := u0) hC (fun _ _ => rfl) (fun _ => rfl) (ctX11_answer h) wvX11_answer ml_X11_166 (ci := 9) (q0 := 0) rfl rfl rfl rfl (rmok hR0 rfl) ⟨Nat.zero_le _, Nat.zero_le _⟩ rfl (Nat.le_of_ble_eq_true rfl) dX11_rate_70 (fun r_34 u_33 h => ?_)
        exact hR _ _ _ (u_33, u_32) dX11_rate_73 h
      · have h := h.2 c_30
        refine g_aload_n (pc := 41) hC 0 dX11_rate_41 rfl rfl ?_
        refine g_bipush (pc := 42) (v := 7) hC dX11_rate_42 (by decide) ?_
        refine g_callV_i (pc := 44) (wd := fun (u : St) Y => (wX11 o0 a0 (xy C) u Y)) (F := fun Z => Z) (X := []) (As := [.int (7 : Int32)]) (rest := []) (u := u0) hC (fun _ _ => rfl) (fun _ => rfl) (ctX11_refuse h) wvX11_refuse ml_X11_127 (ci := 9) (q0 := 0) rfl rfl rfl rfl (rmok hR0 rfl) ⟨Nat.zero_le _, Nat.zero_le _⟩ rfl (Nat.le_of_ble_eq_true rfl) dX11_rate_44 (fun r_37 u_36 h => ?_)
        exact hR _ _ _ (u_36, u_21) dX11_rate_47 h
    · have h := h.2 c_27
      refine g_sub (lv' := [(0, .ref o0)]) [0] rfl ?_
      exact kX11_rate_b21 hC hR0 hR   h
theorem ctX11_rate {l : Launch} {D : va_G} {cy : Nat → ClassId} {kd : Nat → Nat} {o0 : Nat} {a0 : Nat → Nat} {aH : Nat → Nat} {x1 : Int32} {x2 : Int32} {u0 : St} {u1 : St} {post : Int32 → St → St → Prop} (h : qX11_rate x1 x2 u0 u1 post) : CtI l D cy kd yX11_rate cX11_rate 4 3 .int [.ref o0, .int x1, .int x2] (fun u : St × St => (wX11 o0 a0 cy u.1 (wX2 (a0 7) aH cy u.2 []))) (u0, u1) (fun r u => post r u.1 u.2) := met_i (by decide) (Nat.le_of_ble_eq_true rfl) (fun C e1 e2 e3 e4 e5 hC hR => by subst e1 e2 e3 e4; exact kX11_rate hC e5 hR h)
theorem dX11_rule_0 : decode cX11_rule 0 = .ok (.iload_n 1, 1) := by decide +kernel
theorem dX11_rule_1 : decode cX11_rule 1 = .ok (.iconst 0, 1) := by decide +kernel
theorem dX11_rule_2 : decode cX11_rule 2 = .ok (.bipush 16, 2) := by decide +kernel
theorem dX11_rule_4 : decode cX11_rule 4 = .ok (.invokestatic 104, 3) := by decide +kernel
theorem dX11_rule_7 : decode cX11_rule 7 = .ok (.ifCond .ne 9, 3) := by decide +kernel
theorem dX11_rule_10 : decode cX11_rule 10 = .ok (.aload_n 0, 1) := by decide +kernel
theorem dX11_rule_11 : decode cX11_rule 11 = .ok (.iconst 1, 1) := by decide +kernel
theorem dX11_rule_12 : decode cX11_rule 12 = .ok (.invokevirtual 108, 3) := by decide +kernel
theorem dX11_rule_15 : decode cX11_rule 15 = .ok (.ireturn, 1) := by decide +kernel
theorem dX11_rule_16 : decode cX11_rule 16 = .ok (.aload_n 0, 1) := by decide +kernel
theorem dX11_rule_17 : decode cX11_rule 17 = .ok (.getfield 46, 3) := by decide +kernel
theorem dX11_rule_20 : decode cX11_rule 20 = .ok (.iload_n 1, 1) := by decide +kernel
theorem dX11_rule_21 : decode cX11_rule 21 = .ok (.putfield 182, 3) := by decide +kernel
theorem dX11_rule_24 : decode cX11_rule 24 = .ok (.aload_n 0, 1) := by decide +kernel
theorem dX11_rule_25 : decode cX11_rule 25 = .ok (.invokevirtual 115, 3) := by decide +kernel
theorem dX11_rule_28 : decode cX11_rule 28 = .ok (.ireturn, 1) := by decide +kernel
def qX11_rule  (x1 : Int32) (u0 : St) (u1 : St) (post : Int32 → St → St → Prop) : Prop := qX11_within x1 (0 : Int32) (16 : Int32) (fun r_10 => ((¬ r_10 = 0 → ∀ u_13 : St, u_13 = (si u1 3 x1) → qX11_grant u0 (fun r_15 u_14 => (bz r_15 ∧ post r_15 u_14 u_13))) ∧ (r_10 = 0 → qX11_deny (1 : Int32) u0 (fun r_18 u_17 => (bz r_18 ∧ post r_18 u_17 u1)))))
set_option maxRecDepth 100000 in
set_option maxHeartbeats 4000000 in
theorem kX11_rule {C : Cx} {o0 : Nat} {a0 : Nat → Nat} {aH : Nat → Nat} (hC : Fx C cX11_rule 2 RX11) (hR0 : xR C = rm 2) {post : Int32 → St → St → Prop} (hR : RZ C cX11_rule 2 (fun u : St × St => (wX11 o0 a0 (xy C) u.1 (wX2 (a0 7) aH (xy C) u.2 []))) (fun r u => post r u.1 u.2)) {x1 : Int32} {u0 : St} {u1 : St} (h : qX11_rule  x1 u0 u1 post) : G C 0 0 2 (wX11 o0 a0 (xy C) u0 (wX2 (a0 7) aH (xy C) u1 [])) 0 [(0, .ref o0), (1, .int x1)] [] := by
  refine g_iload_n (pc := 0) hC 1 dX11_rule_0 rfl rfl ?_
  refine g_iconst (pc := 1) (v := 0) hC dX11_rule_1 (by decide) ?_
  refine g_bipush (pc := 2) (v := 16) hC dX11_rule_2 (by decide) ?_
  refine g_callS_i (pc := 4) (wd := fun (_ : Unit) Y => Y) (F := fun Z => Z) (X := []) (As := [.int x1, .int (0 : Int32), .int (16 : Int32)]) (rest := []) (u := ()) hC (fun _ _ => rfl) (fun _ => rfl) (ctX11_within h) wvX11_within ml_X11_104 rfl (rmok hR0 rfl) ⟨Nat.zero_le _, Nat.zero_le _⟩ rfl (Nat.le_of_ble_eq_true rfl) dX11_rule_4 (fun r_10 u_11 h => ?_)
  refine g_if_ne (pc := 7) (tgt := 16) hC dX11_rule_7 (by decide) (fun c_12 => ?_) (fun c_12 => ?_)
  · have h := h.1 c_12
    refine g_aload_n (pc := 16) hC 0 dX11_rule_16 rfl rfl ?_
    refine getX11_7 (pc := 17) hC (F := fun Z => Z) (X := []) (fun _ => rfl) fl_X11_46 dX11_rule_17 ?_
    refine g_iload_n (pc := 20) hC 1 dX11_rule_20 rfl rfl ?_
    refine putX2_3 (pc := 21) hC (F := fun Z => (wX11 o0 a0 (xy C) u0 Z)) (X := (wX11 o0 a0 (xy C) u0 [])) (fun _ => rfl) fl_X11_182 dX11_rule_21 ?_
    refine g_st (w := fun z => (wX11 o0 a0 (xy C) u0 (wX2 (a0 7) aH (xy C) z []))) (u := (si u1 3 x1)) (fun u_13 eu_13 => ?_)
    have h := h u_13 eu_13
    refine g_aload_n (pc := 24) hC 0 dX11_rule_24 rfl rfl ?_
    refine g_callV_i (pc := 25) (wd := fun (u : St) Y => (wX11 o0 a0 (xy C) u Y)) (F := fun Z => Z) (X := []) (As := []) (rest := []) (u := u0) hC (fun _ _ => rfl) (fun _ => rfl) (ctX11_grant h) wvX11_grant ml_X11_115 (ci := 9) (q0 := 0) rfl rfl rfl rfl (rmok hR0 rfl) ⟨Nat.zero_le _, Nat.zero_le _⟩ rfl (Nat.le_of_ble_eq_true rfl) dX11_rule_25 (fun r_15 u_14 h => ?_)
    exact hR _ _ _ (u_14, u_13) dX11_rule_28 h.1 h.2
  · have h := h.2 c_12
    refine g_aload_n (pc := 10) hC 0 dX11_rule_10 rfl rfl ?_
    refine g_iconst (pc := 11) (v := 1) hC dX11_rule_11 (by decide) ?_
    refine g_callV_i (pc := 12) (wd := fun (u : St) Y => (wX11 o0 a0 (xy C) u Y)) (F := fun Z => Z) (X := []) (As := [.int (1 : Int32)]) (rest := []) (u := u0) hC (fun _ _ => rfl) (fun _ => rfl) (ctX11_deny h) wvX11_deny ml_X11_108 (ci := 9) (q0 := 0) rfl rfl rfl rfl (rmok hR0 rfl) ⟨Nat.zero_le _, Nat.zero_le _⟩ rfl (Nat.le_of_ble_eq_true rfl) dX11_rule_12 (fun r_18 u_17 h => ?_)
    exact hR _ _ _ (u_17, u1) dX11_rule_15 h.1 h.2
theorem ctX11_rule {l : Launch} {D : va_G} {cy : Nat → ClassId} {kd : Nat → Nat} {o0 : Nat} {a0 : Nat → Nat} {aH : Nat → Nat} {x1 : Int32} {u0 : St} {u1 : St} {post : Int32 → St → St → Prop} (h : qX11_rule x1 u0 u1 post) : CtI l D cy kd yX11_rule cX11_rule 2 2 .boolean [.ref o0, .int x1] (fun u : St × St => (wX11 o0 a0 cy u.1 (wX2 (a0 7) aH cy u.2 []))) (u0, u1) (fun r u => post r u.1 u.2) := met_z (by decide) (Nat.le_of_ble_eq_true rfl) (fun C e1 e2 e3 e4 e5 hC hR => by subst e1 e2 e3 e4; exact kX11_rule hC e5 hR h)
theorem dX11_owedIn_0 : decode cX11_owedIn 0 = .ok (.aload_n 0, 1) := by decide +kernel
theorem dX11_owedIn_1 : decode cX11_owedIn 1 = .ok (.getfield 46, 3) := by decide +kernel
theorem dX11_owedIn_4 : decode cX11_owedIn 4 = .ok (.iload_n 1, 1) := by decide +kernel
theorem dX11_owedIn_5 : decode cX11_owedIn 5 = .ok (.invokevirtual 222, 3) := by decide +kernel
theorem dX11_owedIn_8 : decode cX11_owedIn 8 = .ok (.ifCond .eq 13, 3) := by decide +kernel
theorem dX11_owedIn_11 : decode cX11_owedIn 11 = .ok (.iload_n 2, 1) := by decide +kernel
theorem dX11_owedIn_12 : decode cX11_owedIn 12 = .ok (.iconst 0, 1) := by decide +kernel
theorem dX11_owedIn_13 : decode cX11_owedIn 13 = .ok (.bipush 40, 2) := by decide +kernel
theorem dX11_owedIn_15 : decode cX11_owedIn 15 = .ok (.invokestatic 104, 3) := by decide +kernel
theorem dX11_owedIn_18 : decode cX11_owedIn 18 = .ok (.ifCond .ne 9, 3) := by decide +kernel
theorem dX11_owedIn_21 : decode cX11_owedIn 21 = .ok (.aload_n 0, 1) := by decide +kernel
theorem dX11_owedIn_22 : decode cX11_owedIn 22 = .ok (.iconst 1, 1) := by decide +kernel
theorem dX11_owedIn_23 : decode cX11_owedIn 23 = .ok (.invokevirtual 127, 3) := by decide +kernel
theorem dX11_owedIn_26 : decode cX11_owedIn 26 = .ok (.ireturn, 1) := by decide +kernel
theorem dX11_owedIn_27 : decode cX11_owedIn 27 = .ok (.aload_n 0, 1) := by decide +kernel
theorem dX11_owedIn_28 : decode cX11_owedIn 28 = .ok (.getfield 50, 3) := by decide +kernel
theorem dX11_owedIn_31 : decode cX11_owedIn 31 = .ok (.aload_n 0, 1) := by decide +kernel
theorem dX11_owedIn_32 : decode cX11_owedIn 32 = .ok (.getfield 46, 3) := by decide +kernel
theorem dX11_owedIn_35 : decode cX11_owedIn 35 = .ok (.invokevirtual 298, 3) := by decide +kernel
theorem dX11_owedIn_38 : decode cX11_owedIn 38 = .ok (.aload_n 0, 1) := by decide +kernel
theorem dX11_owedIn_39 : decode cX11_owedIn 39 = .ok (.getfield 50, 3) := by decide +kernel
theorem dX11_owedIn_42 : decode cX11_owedIn 42 = .ok (.iload_n 2, 1) := by decide +kernel
theorem dX11_owedIn_43 : decode cX11_owedIn 43 = .ok (.invokevirtual 264, 3) := by decide +kernel
theorem dX11_owedIn_46 : decode cX11_owedIn 46 = .ok (.aload_n 0, 1) := by decide +kernel
theorem dX11_owedIn_47 : decode cX11_owedIn 47 = .ok (.aload_n 0, 1) := by decide +kernel
theorem dX11_owedIn_48 : decode cX11_owedIn 48 = .ok (.getfield 50, 3) := by decide +kernel
theorem dX11_owedIn_51 : decode cX11_owedIn 51 = .ok (.iload_n 1, 1) := by decide +kernel
theorem dX11_owedIn_52 : decode cX11_owedIn 52 = .ok (.invokevirtual 249, 3) := by decide +kernel
theorem dX11_owedIn_55 : decode cX11_owedIn 55 = .ok (.invokevirtual 166, 3) := by decide +kernel
theorem dX11_owedIn_58 : decode cX11_owedIn 58 = .ok (.ireturn, 1) := by decide +kernel
def qX11_owedIn_b21   (post : Int32 → St → St → St → Prop)  (u0 : St) (u1 : St) (u2 : St) : Prop := qX11_refuse (1 : Int32) u0 (fun r_21 u_20 => post r_21 u_20 u1 u2)
set_option maxRecDepth 100000 in
set_option maxHeartbeats 4000000 in
theorem kX11_owedIn_b21 {C : Cx} {o0 : Nat} {a0 : Nat → Nat} {aH : Nat → Nat} {aS : Nat → Nat} (hC : Fx C cX11_owedIn 3 RX11) (hR0 : xR C = rm 5) {post : Int32 → St → St → St → Prop} (hR : RI C cX11_owedIn 3 (fun u : St × St × St => (wX11 o0 a0 (xy C) u.1 (wX2 (a0 7) aH (xy C) u.2.1 (wX2 (a0 8) aS (xy C) u.2.2 [])))) (fun r u => post r u.1 u.2.1 u.2.2))  {u0 : St} {u1 : St} {u2 : St} (h : qX11_owedIn_b21 post u0 u1 u2) : G C 0 0 3 (wX11 o0 a0 (xy C) u0 (wX2 (a0 7) aH (xy C) u1 (wX2 (a0 8) aS (xy C) u2 []))) 21 [(0, .ref o0)] [] := by
  refine g_aload_n (pc := 21) hC 0 dX11_owedIn_21 rfl rfl ?_
  refine g_iconst (pc := 22) (v := 1) hC dX11_owedIn_22 (by decide) ?_
  refine g_callV_i (pc := 23) (wd := fun (u : St) Y => (wX11 o0 a0 (xy C) u Y)) (F := fun Z => Z) (X := []) (As := [.int (1 : Int32)]) (rest := []) (u := u0) hC (fun _ _ => rfl) (fun _ => rfl) (ctX11_refuse h) wvX11_refuse ml_X11_127 (ci := 9) (q0 := 0) rfl rfl rfl rfl (rmok hR0 rfl) ⟨Nat.zero_le _, Nat.zero_le _⟩ rfl (Nat.le_of_ble_eq_true rfl) dX11_owedIn_23 (fun r_21 u_20 h => ?_)
  exact hR _ _ _ (u_20, u1, u2) dX11_owedIn_26 h
def qX11_owedIn  (x1 : Int32) (x2 : Int32) (u0 : St) (u1 : St) (u2 : St) (post : Int32 → St → St → St → Prop) : Prop := qX2_isDebt x1 u1 (fun r_24 u_23 => ((r_24 = 0 → qX11_owedIn_b21 post u0 u_23 u2) ∧ (¬ r_24 = 0 → qX11_within x2 (0 : Int32) (40 : Int32) (fun r_27 => ((¬ r_27 = 0 → qX2_copyFrom u2 u_23 (fun u_30 u_31 => qX2_passYears x2 u_30 (fun u_33 => qX2_owed x1 u_33 (fun r_36 u_35 => qX11_answer r_36 u0 (fun r_39 u_38 => post r_39 u_38 u_31 u_35))))) ∧ (r_27 = 0 → qX11_owedIn_b21 post u0 u_23 u2))))))
set_option maxRecDepth 100000 in
set_option maxHeartbeats 4000000 in
theorem kX11_owedIn {C : Cx} {o0 : Nat} {a0 : Nat → Nat} {aH : Nat → Nat} {aS : Nat → Nat} (hC : Fx C cX11_owedIn 3 RX11) (hR0 : xR C = rm 5) {post : Int32 → St → St → St → Prop} (hR : RI C cX11_owedIn 3 (fun u : St × St × St => (wX11 o0 a0 (xy C) u.1 (wX2 (a0 7) aH (xy C) u.2.1 (wX2 (a0 8) aS (xy C) u.2.2 [])))) (fun r u => post r u.1 u.2.1 u.2.2)) {x1 : Int32} {x2 : Int32} {u0 : St} {u1 : St} {u2 : St} (h : qX11_owedIn  x1 x2 u0 u1 u2 post) : G C 0 0 3 (wX11 o0 a0 (xy C) u0 (wX2 (a0 7) aH (xy C) u1 (wX2 (a0 8) aS (xy C) u2 []))) 0 [(0, .ref o0), (1, .int x1), (2, .int x2)] [] := by
  refine g_aload_n (pc := 0) hC 0 dX11_owedIn_0 rfl rfl ?_
  refine getX11_7 (pc := 1) hC (F := fun Z => Z) (X := []) (fun _ => rfl) fl_X11_46 dX11_owedIn_1 ?_
  refine g_iload_n (pc := 4) hC 1 dX11_owedIn_4 rfl rfl ?_
  refine g_callV_i (pc := 5) (wd := fun (u : St) Y => (wX2 (a0 7) aH (xy C) u Y)) (F := fun Z => (wX11 o0 a0 (xy C) u0 Z)) (X := (wX11 o0 a0 (xy C) u0 [])) (As := [.int x1]) (rest := []) (u := u1) hC (fun _ _ => rfl) (fun _ => rfl) (ctX2_isDebt h) wvX2_isDebt ml_X11_222 (ci := 1) (q0 := 0) rfl rfl rfl rfl (rmok hR0 rfl) ⟨Nat.zero_le _, Nat.zero_le _⟩ rfl (Nat.le_of_ble_eq_true rfl) dX11_owedIn_5 (fun r_24 u_23 h => ?_)
  refine g_if_eq (pc := 8) (tgt := 21) hC dX11_owedIn_8 (by decide) (fun c_26 => ?_) (fun c_26 => ?_)
  · have h := h.1 c_26
    refine g_sub (lv' := [(0, .ref o0)]) [0] rfl ?_
    exact kX11_owedIn_b21 hC hR0 hR   h
  · have h := h.2 c_26
    refine g_iload_n (pc := 11) hC 2 dX11_owedIn_11 rfl rfl ?_
    refine g_iconst (pc := 12) (v := 0) hC dX11_owedIn_12 (by decide) ?_
    refine g_bipush (pc := 13) (v := 40) hC dX11_owedIn_13 (by decide) ?_
    refine g_callS_i (pc := 15) (wd := fun (_ : Unit) Y => Y) (F := fun Z => Z) (X := []) (As := [.int x2, .int (0 : Int32), .int (40 : Int32)]) (rest := []) (u := ()) hC (fun _ _ => rfl) (fun _ => rfl) (ctX11_within h) wvX11_within ml_X11_104 rfl (rmok hR0 rfl) ⟨Nat.zero_le _, Nat.zero_le _⟩ rfl (Nat.le_of_ble_eq_true rfl) dX11_owedIn_15 (fun r_27 u_28 h => ?_)
    refine g_if_ne (pc := 18) (tgt := 27) hC dX11_owedIn_18 (by decide) (fun c_29 => ?_) (fun c_29 => ?_)
    · have h := h.1 c_29
      refine g_aload_n (pc := 27) hC 0 dX11_owedIn_27 rfl rfl ?_
      refine getX11_8 (pc := 28) hC (F := fun Z => Z) (X := []) (fun _ => rfl) fl_X11_50 dX11_owedIn_28 ?_
      refine g_aload_n (pc := 31) hC 0 dX11_owedIn_31 rfl rfl ?_
      refine getX11_7 (pc := 32) hC (F := fun Z => Z) (X := []) (fun _ => rfl) fl_X11_46 dX11_owedIn_32 ?_
      refine g_swap (F := fun Z => (wX11 o0 a0 (xy C) u0 Z)) (X := (wX11 o0 a0 (xy C) u0 [])) (f := fun Z => (wX2 (a0 7) aH (xy C) u_23 Z)) (g := fun Z => (wX2 (a0 8) aS (xy C) u2 Z)) (Y := []) (fun _ => rfl) (fun _ => rfl) (fun _ => rfl) ?_
      refine g_callV_v (pc := 35) (wd := fun (u : St × St) Y => (wX2 (a0 8) aS (xy C) u.1 (wX2 (a0 7) aH (xy C) u.2 Y))) (F := fun Z => (wX11 o0 a0 (xy C) u0 Z)) (X := (wX11 o0 a0 (xy C) u0 [])) (As := [.ref (a0 7)]) (rest := []) (u := (u2, u_23)) hC (fun _ _ => rfl) (fun _ => rfl) (ctX2_copyFrom h) wvX2_copyFrom ml_X11_298 (ci := 1) (q0 := 0) rfl rfl rfl rfl (rmok hR0 rfl) ⟨Nat.zero_le _, Nat.zero_le _⟩ rfl (Nat.le_of_ble_eq_true rfl) dX11_owedIn_35 (fun u_32 h => ?_)
      obtain ⟨u_30, u_31⟩ := u_32
      refine g_aload_n (pc := 38) hC 0 dX11_owedIn_38 rfl rfl ?_
      refine getX11_8 (pc := 39) hC (F := fun Z => Z) (X := []) (fun _ => rfl) fl_X11_50 dX11_owedIn_39 ?_
      refine g_iload_n (pc := 42) hC 2 dX11_owedIn_42 rfl rfl ?_
      refine g_callV_v (pc := 43) (wd := fun (u : St) Y => (wX2 (a0 8) aS (xy C) u Y)) (F := fun Z => (wX11 o0 a0 (xy C) u0 Z)) (X := (wX11 o0 a0 (xy C) u0 [])) (As := [.int x2]) (rest := []) (u := u_30) hC (fun _ _ => rfl) (fun _ => rfl) (ctX2_passYears h) wvX2_passYears ml_X11_264 (ci := 1) (q0 := 0) rfl rfl rfl rfl (rmok hR0 rfl) ⟨Nat.zero_le _, Nat.zero_le _⟩ rfl (Nat.le_of_ble_eq_true rfl) dX11_owedIn_43 (fun u_33 h => ?_)
      refine g_aload_n (pc := 46) hC 0 dX11_owedIn_46 rfl rfl ?_
      refine g_aload_n (pc := 47) hC 0 dX11_owedIn_47 rfl rfl ?_
      refine getX11_8 (pc := 48) hC (F := fun Z => Z) (X := []) (fun _ => rfl) fl_X11_50 dX11_owedIn_48 ?_
      refine g_iload_n (pc := 51) hC 1 dX11_owedIn_51 rfl rfl ?_
      refine g_callV_i (pc := 52) (wd := fun (u : St) Y => (wX2 (a0 8) aS (xy C) u Y)) (F := fun Z => (wX11 o0 a0 (xy C) u0 Z)) (X := (wX11 o0 a0 (xy C) u0 [])) (As := [.int x1]) (rest := [.ref o0]) (u := u_33) hC (fun _ _ => rfl) (fun _ => rfl) (ctX2_owed h) wvX2_owed ml_X11_249 (ci := 1) (q0 := 0) rfl rfl rfl rfl (rmok hR0 rfl) ⟨Nat.zero_le _, Nat.zero_le _⟩ rfl (Nat.le_of_ble_eq_true rfl) dX11_owedIn_52 (fun r_36 u_35 h => ?_)
      refine g_callV_i (pc := 55) (wd := fun (u : St) Y => (wX11 o0 a0 (xy C) u Y)) (F := fun Z => Z) (X := []) (As := [.int r_36]) (rest := []) (u := u0) hC (fun _ _ => rfl) (fun _ => rfl) (ctX11_answer h) wvX11_answer ml_X11_166 (ci := 9) (q0 := 0) rfl rfl rfl rfl (rmok hR0 rfl) ⟨Nat.zero_le _, Nat.zero_le _⟩ rfl (Nat.le_of_ble_eq_true rfl) dX11_owedIn_55 (fun r_39 u_38 h => ?_)
      refine g_swap (F := fun Z => (wX11 o0 a0 (xy C) u_38 Z)) (X := (wX11 o0 a0 (xy C) u_38 [])) (f := fun Z => (wX2 (a0 8) aS (xy C) u_35 Z)) (g := fun Z => (wX2 (a0 7) aH (xy C) u_31 Z)) (Y := []) (fun _ => rfl) (fun _ => rfl) (fun _ => rfl) ?_
      exact hR _ _ _ (u_38, u_31, u_35) dX11_owedIn_58 h
    · have h := h.2 c_29
      refine g_sub (lv' := [(0, .ref o0)]) [0] rfl ?_
      exact kX11_owedIn_b21 hC hR0 hR   h
theorem ctX11_owedIn {l : Launch} {D : va_G} {cy : Nat → ClassId} {kd : Nat → Nat} {o0 : Nat} {a0 : Nat → Nat} {aH : Nat → Nat} {aS : Nat → Nat} {x1 : Int32} {x2 : Int32} {u0 : St} {u1 : St} {u2 : St} {post : Int32 → St → St → St → Prop} (h : qX11_owedIn x1 x2 u0 u1 u2 post) : CtI l D cy kd yX11_owedIn cX11_owedIn 3 5 .int [.ref o0, .int x1, .int x2] (fun u : St × St × St => (wX11 o0 a0 cy u.1 (wX2 (a0 7) aH cy u.2.1 (wX2 (a0 8) aS cy u.2.2 [])))) (u0, u1, u2) (fun r u => post r u.1 u.2.1 u.2.2) := met_i (by decide) (Nat.le_of_ble_eq_true rfl) (fun C e1 e2 e3 e4 e5 hC hR => by subst e1 e2 e3 e4; exact kX11_owedIn hC e5 hR h)
theorem dX11_standsIn_0 : decode cX11_standsIn 0 = .ok (.iload_n 1, 1) := by decide +kernel
theorem dX11_standsIn_1 : decode cX11_standsIn 1 = .ok (.iconst 0, 1) := by decide +kernel
theorem dX11_standsIn_2 : decode cX11_standsIn 2 = .ok (.bipush 40, 2) := by decide +kernel
theorem dX11_standsIn_4 : decode cX11_standsIn 4 = .ok (.invokestatic 104, 3) := by decide +kernel
theorem dX11_standsIn_7 : decode cX11_standsIn 7 = .ok (.ifCond .ne 9, 3) := by decide +kernel
theorem dX11_standsIn_10 : decode cX11_standsIn 10 = .ok (.aload_n 0, 1) := by decide +kernel
theorem dX11_standsIn_11 : decode cX11_standsIn 11 = .ok (.iconst 1, 1) := by decide +kernel
theorem dX11_standsIn_12 : decode cX11_standsIn 12 = .ok (.invokevirtual 127, 3) := by decide +kernel
theorem dX11_standsIn_15 : decode cX11_standsIn 15 = .ok (.ireturn, 1) := by decide +kernel
theorem dX11_standsIn_16 : decode cX11_standsIn 16 = .ok (.aload_n 0, 1) := by decide +kernel
theorem dX11_standsIn_17 : decode cX11_standsIn 17 = .ok (.getfield 50, 3) := by decide +kernel
theorem dX11_standsIn_20 : decode cX11_standsIn 20 = .ok (.aload_n 0, 1) := by decide +kernel
theorem dX11_standsIn_21 : decode cX11_standsIn 21 = .ok (.getfield 46, 3) := by decide +kernel
theorem dX11_standsIn_24 : decode cX11_standsIn 24 = .ok (.invokevirtual 298, 3) := by decide +kernel
theorem dX11_standsIn_27 : decode cX11_standsIn 27 = .ok (.aload_n 0, 1) := by decide +kernel
theorem dX11_standsIn_28 : decode cX11_standsIn 28 = .ok (.getfield 50, 3) := by decide +kernel
theorem dX11_standsIn_31 : decode cX11_standsIn 31 = .ok (.iload_n 1, 1) := by decide +kernel
theorem dX11_standsIn_32 : decode cX11_standsIn 32 = .ok (.invokevirtual 264, 3) := by decide +kernel
theorem dX11_standsIn_35 : decode cX11_standsIn 35 = .ok (.aload_n 0, 1) := by decide +kernel
theorem dX11_standsIn_36 : decode cX11_standsIn 36 = .ok (.aload_n 0, 1) := by decide +kernel
theorem dX11_standsIn_37 : decode cX11_standsIn 37 = .ok (.getfield 50, 3) := by decide +kernel
theorem dX11_standsIn_40 : decode cX11_standsIn 40 = .ok (.invokevirtual 188, 3) := by decide +kernel
theorem dX11_standsIn_43 : decode cX11_standsIn 43 = .ok (.invokevirtual 166, 3) := by decide +kernel
theorem dX11_standsIn_46 : decode cX11_standsIn 46 = .ok (.ireturn, 1) := by decide +kernel
def qX11_standsIn  (x1 : Int32) (u0 : St) (u1 : St) (u2 : St) (post : Int32 → St → St → St → Prop) : Prop := qX11_within x1 (0 : Int32) (40 : Int32) (fun r_17 => ((¬ r_17 = 0 → qX2_copyFrom u2 u1 (fun u_20 u_21 => qX2_passYears x1 u_20 (fun u_23 => qX2_standingNow u_23 (fun r_26 u_25 => qX11_answer r_26 u0 (fun r_29 u_28 => post r_29 u_28 u_21 u_25))))) ∧ (r_17 = 0 → qX11_refuse (1 : Int32) u0 (fun r_32 u_31 => post r_32 u_31 u1 u2))))
set_option maxRecDepth 100000 in
set_option maxHeartbeats 4000000 in
theorem kX11_standsIn {C : Cx} {o0 : Nat} {a0 : Nat → Nat} {aH : Nat → Nat} {aS : Nat → Nat} (hC : Fx C cX11_standsIn 2 RX11) (hR0 : xR C = rm 5) {post : Int32 → St → St → St → Prop} (hR : RI C cX11_standsIn 2 (fun u : St × St × St => (wX11 o0 a0 (xy C) u.1 (wX2 (a0 7) aH (xy C) u.2.1 (wX2 (a0 8) aS (xy C) u.2.2 [])))) (fun r u => post r u.1 u.2.1 u.2.2)) {x1 : Int32} {u0 : St} {u1 : St} {u2 : St} (h : qX11_standsIn  x1 u0 u1 u2 post) : G C 0 0 2 (wX11 o0 a0 (xy C) u0 (wX2 (a0 7) aH (xy C) u1 (wX2 (a0 8) aS (xy C) u2 []))) 0 [(0, .ref o0), (1, .int x1)] [] := by
  refine g_iload_n (pc := 0) hC 1 dX11_standsIn_0 rfl rfl ?_
  refine g_iconst (pc := 1) (v := 0) hC dX11_standsIn_1 (by decide) ?_
  refine g_bipush (pc := 2) (v := 40) hC dX11_standsIn_2 (by decide) ?_
  refine g_callS_i (pc := 4) (wd := fun (_ : Unit) Y => Y) (F := fun Z => Z) (X := []) (As := [.int x1, .int (0 : Int32), .int (40 : Int32)]) (rest := []) (u := ()) hC (fun _ _ => rfl) (fun _ => rfl) (ctX11_within h) wvX11_within ml_X11_104 rfl (rmok hR0 rfl) ⟨Nat.zero_le _, Nat.zero_le _⟩ rfl (Nat.le_of_ble_eq_true rfl) dX11_standsIn_4 (fun r_17 u_18 h => ?_)
  refine g_if_ne (pc := 7) (tgt := 16) hC dX11_standsIn_7 (by decide) (fun c_19 => ?_) (fun c_19 => ?_)
  · have h := h.1 c_19
    refine g_aload_n (pc := 16) hC 0 dX11_standsIn_16 rfl rfl ?_
    refine getX11_8 (pc := 17) hC (F := fun Z => Z) (X := []) (fun _ => rfl) fl_X11_50 dX11_standsIn_17 ?_
    refine g_aload_n (pc := 20) hC 0 dX11_standsIn_20 rfl rfl ?_
    refine getX11_7 (pc := 21) hC (F := fun Z => Z) (X := []) (fun _ => rfl) fl_X11_46 dX11_standsIn_21 ?_
    refine g_swap (F := fun Z => (wX11 o0 a0 (xy C) u0 Z)) (X := (wX11 o0 a0 (xy C) u0 [])) (f := fun Z => (wX2 (a0 7) aH (xy C) u1 Z)) (g := fun Z => (wX2 (a0 8) aS (xy C) u2 Z)) (Y := []) (fun _ => rfl) (fun _ => rfl) (fun _ => rfl) ?_
    refine g_callV_v (pc := 24) (wd := fun (u : St × St) Y => (wX2 (a0 8) aS (xy C) u.1 (wX2 (a0 7) aH (xy C) u.2 Y))) (F := fun Z => (wX11 o0 a0 (xy C) u0 Z)) (X := (wX11 o0 a0 (xy C) u0 [])) (As := [.ref (a0 7)]) (rest := []) (u := (u2, u1)) hC (fun _ _ => rfl) (fun _ => rfl) (ctX2_copyFrom h) wvX2_copyFrom ml_X11_298 (ci := 1) (q0 := 0) rfl rfl rfl rfl (rmok hR0 rfl) ⟨Nat.zero_le _, Nat.zero_le _⟩ rfl (Nat.le_of_ble_eq_true rfl) dX11_standsIn_24 (fun u_22 h => ?_)
    obtain ⟨u_20, u_21⟩ := u_22
    refine g_aload_n (pc := 27) hC 0 dX11_standsIn_27 rfl rfl ?_
    refine getX11_8 (pc := 28) hC (F := fun Z => Z) (X := []) (fun _ => rfl) fl_X11_50 dX11_standsIn_28 ?_
    refine g_iload_n (pc := 31) hC 1 dX11_standsIn_31 rfl rfl ?_
    refine g_callV_v (pc := 32) (wd := fun (u : St) Y => (wX2 (a0 8) aS (xy C) u Y)) (F := fun Z => (wX11 o0 a0 (xy C) u0 Z)) (X := (wX11 o0 a0 (xy C) u0 [])) (As := [.int x1]) (rest := []) (u := u_20) hC (fun _ _ => rfl) (fun _ => rfl) (ctX2_passYears h) wvX2_passYears ml_X11_264 (ci := 1) (q0 := 0) rfl rfl rfl rfl (rmok hR0 rfl) ⟨Nat.zero_le _, Nat.zero_le _⟩ rfl (Nat.le_of_ble_eq_true rfl) dX11_standsIn_32 (fun u_23 h => ?_)
    refine g_aload_n (pc := 35) hC 0 dX11_standsIn_35 rfl rfl ?_
    refine g_aload_n (pc := 36) hC 0 dX11_standsIn_36 rfl rfl ?_
    refine getX11_8 (pc := 37) hC (F := fun Z => Z) (X := []) (fun _ => rfl) fl_X11_50 dX11_standsIn_37 ?_
    refine g_callV_i (pc := 40) (wd := fun (u : St) Y => (wX2 (a0 8) aS (xy C) u Y)) (F := fun Z => (wX11 o0 a0 (xy C) u0 Z)) (X := (wX11 o0 a0 (xy C) u0 [])) (As := []) (rest := [.ref o0]) (u := u_23) hC (fun _ _ => rfl) (fun _ => rfl) (ctX2_standingNow h) wvX2_standingNow ml_X11_188 (ci := 1) (q0 := 0) rfl rfl rfl rfl (rmok hR0 rfl) ⟨Nat.zero_le _, Nat.zero_le _⟩ rfl (Nat.le_of_ble_eq_true rfl) dX11_standsIn_40 (fun r_26 u_25 h => ?_)
    refine g_callV_i (pc := 43) (wd := fun (u : St) Y => (wX11 o0 a0 (xy C) u Y)) (F := fun Z => Z) (X := []) (As := [.int r_26]) (rest := []) (u := u0) hC (fun _ _ => rfl) (fun _ => rfl) (ctX11_answer h) wvX11_answer ml_X11_166 (ci := 9) (q0 := 0) rfl rfl rfl rfl (rmok hR0 rfl) ⟨Nat.zero_le _, Nat.zero_le _⟩ rfl (Nat.le_of_ble_eq_true rfl) dX11_standsIn_43 (fun r_29 u_28 h => ?_)
    refine g_swap (F := fun Z => (wX11 o0 a0 (xy C) u_28 Z)) (X := (wX11 o0 a0 (xy C) u_28 [])) (f := fun Z => (wX2 (a0 8) aS (xy C) u_25 Z)) (g := fun Z => (wX2 (a0 7) aH (xy C) u_21 Z)) (Y := []) (fun _ => rfl) (fun _ => rfl) (fun _ => rfl) ?_
    exact hR _ _ _ (u_28, u_21, u_25) dX11_standsIn_46 h
  · have h := h.2 c_19
    refine g_aload_n (pc := 10) hC 0 dX11_standsIn_10 rfl rfl ?_
    refine g_iconst (pc := 11) (v := 1) hC dX11_standsIn_11 (by decide) ?_
    refine g_callV_i (pc := 12) (wd := fun (u : St) Y => (wX11 o0 a0 (xy C) u Y)) (F := fun Z => Z) (X := []) (As := [.int (1 : Int32)]) (rest := []) (u := u0) hC (fun _ _ => rfl) (fun _ => rfl) (ctX11_refuse h) wvX11_refuse ml_X11_127 (ci := 9) (q0 := 0) rfl rfl rfl rfl (rmok hR0 rfl) ⟨Nat.zero_le _, Nat.zero_le _⟩ rfl (Nat.le_of_ble_eq_true rfl) dX11_standsIn_12 (fun r_32 u_31 h => ?_)
    exact hR _ _ _ (u_31, u1, u2) dX11_standsIn_15 h
theorem ctX11_standsIn {l : Launch} {D : va_G} {cy : Nat → ClassId} {kd : Nat → Nat} {o0 : Nat} {a0 : Nat → Nat} {aH : Nat → Nat} {aS : Nat → Nat} {x1 : Int32} {u0 : St} {u1 : St} {u2 : St} {post : Int32 → St → St → St → Prop} (h : qX11_standsIn x1 u0 u1 u2 post) : CtI l D cy kd yX11_standsIn cX11_standsIn 2 5 .int [.ref o0, .int x1] (fun u : St × St × St => (wX11 o0 a0 cy u.1 (wX2 (a0 7) aH cy u.2.1 (wX2 (a0 8) aS cy u.2.2 [])))) (u0, u1, u2) (fun r u => post r u.1 u.2.1 u.2.2) := met_i (by decide) (Nat.le_of_ble_eq_true rfl) (fun C e1 e2 e3 e4 e5 hC hR => by subst e1 e2 e3 e4; exact kX11_standsIn hC e5 hR h)
theorem dX11_fallsIn_0 : decode cX11_fallsIn 0 = .ok (.aload_n 0, 1) := by decide +kernel
theorem dX11_fallsIn_1 : decode cX11_fallsIn 1 = .ok (.getfield 46, 3) := by decide +kernel
theorem dX11_fallsIn_4 : decode cX11_fallsIn 4 = .ok (.iload_n 1, 1) := by decide +kernel
theorem dX11_fallsIn_5 : decode cX11_fallsIn 5 = .ok (.invokevirtual 204, 3) := by decide +kernel
theorem dX11_fallsIn_8 : decode cX11_fallsIn 8 = .ok (.ifCond .ne 9, 3) := by decide +kernel
theorem dX11_fallsIn_11 : decode cX11_fallsIn 11 = .ok (.aload_n 0, 1) := by decide +kernel
theorem dX11_fallsIn_12 : decode cX11_fallsIn 12 = .ok (.iconst 1, 1) := by decide +kernel
theorem dX11_fallsIn_13 : decode cX11_fallsIn 13 = .ok (.invokevirtual 127, 3) := by decide +kernel
theorem dX11_fallsIn_16 : decode cX11_fallsIn 16 = .ok (.ireturn, 1) := by decide +kernel
theorem dX11_fallsIn_17 : decode cX11_fallsIn 17 = .ok (.aload_n 0, 1) := by decide +kernel
theorem dX11_fallsIn_18 : decode cX11_fallsIn 18 = .ok (.getfield 46, 3) := by decide +kernel
theorem dX11_fallsIn_21 : decode cX11_fallsIn 21 = .ok (.iload_n 1, 1) := by decide +kernel
theorem dX11_fallsIn_22 : decode cX11_fallsIn 22 = .ok (.invokevirtual 219, 3) := by decide +kernel
theorem dX11_fallsIn_25 : decode cX11_fallsIn 25 = .ok (.ifCond .eq 10, 3) := by decide +kernel
theorem dX11_fallsIn_28 : decode cX11_fallsIn 28 = .ok (.aload_n 0, 1) := by decide +kernel
theorem dX11_fallsIn_29 : decode cX11_fallsIn 29 = .ok (.bipush 6, 2) := by decide +kernel
theorem dX11_fallsIn_31 : decode cX11_fallsIn 31 = .ok (.invokevirtual 127, 3) := by decide +kernel
theorem dX11_fallsIn_34 : decode cX11_fallsIn 34 = .ok (.ireturn, 1) := by decide +kernel
theorem dX11_fallsIn_35 : decode cX11_fallsIn 35 = .ok (.aload_n 0, 1) := by decide +kernel
theorem dX11_fallsIn_36 : decode cX11_fallsIn 36 = .ok (.getfield 50, 3) := by decide +kernel
theorem dX11_fallsIn_39 : decode cX11_fallsIn 39 = .ok (.aload_n 0, 1) := by decide +kernel
theorem dX11_fallsIn_40 : decode cX11_fallsIn 40 = .ok (.getfield 46, 3) := by decide +kernel
theorem dX11_fallsIn_43 : decode cX11_fallsIn 43 = .ok (.invokevirtual 298, 3) := by decide +kernel
theorem dX11_fallsIn_46 : decode cX11_fallsIn 46 = .ok (.iconst 1, 1) := by decide +kernel
theorem dX11_fallsIn_47 : decode cX11_fallsIn 47 = .ok (.istore_n 2, 1) := by decide +kernel
theorem dX11_fallsIn_48 : decode cX11_fallsIn 48 = .ok (.iload_n 2, 1) := by decide +kernel
theorem dX11_fallsIn_49 : decode cX11_fallsIn 49 = .ok (.bipush 40, 2) := by decide +kernel
theorem dX11_fallsIn_51 : decode cX11_fallsIn 51 = .ok (.if_icmp .gt 34, 3) := by decide +kernel
theorem dX11_fallsIn_54 : decode cX11_fallsIn 54 = .ok (.aload_n 0, 1) := by decide +kernel
theorem dX11_fallsIn_55 : decode cX11_fallsIn 55 = .ok (.getfield 50, 3) := by decide +kernel
theorem dX11_fallsIn_58 : decode cX11_fallsIn 58 = .ok (.iconst 1, 1) := by decide +kernel
theorem dX11_fallsIn_59 : decode cX11_fallsIn 59 = .ok (.invokevirtual 264, 3) := by decide +kernel
theorem dX11_fallsIn_62 : decode cX11_fallsIn 62 = .ok (.aload_n 0, 1) := by decide +kernel
theorem dX11_fallsIn_63 : decode cX11_fallsIn 63 = .ok (.getfield 50, 3) := by decide +kernel
theorem dX11_fallsIn_66 : decode cX11_fallsIn 66 = .ok (.iload_n 1, 1) := by decide +kernel
theorem dX11_fallsIn_67 : decode cX11_fallsIn 67 = .ok (.invokevirtual 219, 3) := by decide +kernel
theorem dX11_fallsIn_70 : decode cX11_fallsIn 70 = .ok (.ifCond .eq 9, 3) := by decide +kernel
theorem dX11_fallsIn_73 : decode cX11_fallsIn 73 = .ok (.aload_n 0, 1) := by decide +kernel
theorem dX11_fallsIn_74 : decode cX11_fallsIn 74 = .ok (.iload_n 2, 1) := by decide +kernel
theorem dX11_fallsIn_75 : decode cX11_fallsIn 75 = .ok (.invokevirtual 166, 3) := by decide +kernel
theorem dX11_fallsIn_78 : decode cX11_fallsIn 78 = .ok (.ireturn, 1) := by decide +kernel
theorem dX11_fallsIn_79 : decode cX11_fallsIn 79 = .ok (.iinc 2 1, 3) := by decide +kernel
theorem dX11_fallsIn_82 : decode cX11_fallsIn 82 = .ok (.goto (-34), 3) := by decide +kernel
theorem dX11_fallsIn_85 : decode cX11_fallsIn 85 = .ok (.aload_n 0, 1) := by decide +kernel
theorem dX11_fallsIn_86 : decode cX11_fallsIn 86 = .ok (.bipush 6, 2) := by decide +kernel
theorem dX11_fallsIn_88 : decode cX11_fallsIn 88 = .ok (.invokevirtual 127, 3) := by decide +kernel
theorem dX11_fallsIn_91 : decode cX11_fallsIn 91 = .ok (.ireturn, 1) := by decide +kernel
def qX11_fallsIn_b73   (post : Int32 → St → St → St → Prop)  (x2 : Int32) (u0 : St) (u1 : St) (u2 : St) : Prop := qX11_answer x2 u0 (fun r_29 u_28 => post r_29 u_28 u1 u2)
set_option maxRecDepth 100000 in
set_option maxHeartbeats 4000000 in
theorem kX11_fallsIn_b73 {C : Cx} {o0 : Nat} {a0 : Nat → Nat} {aH : Nat → Nat} {aS : Nat → Nat} (hC : Fx C cX11_fallsIn 3 RX11) (hR0 : xR C = rm 5) {post : Int32 → St → St → St → Prop} (hR : RI C cX11_fallsIn 3 (fun u : St × St × St => (wX11 o0 a0 (xy C) u.1 (wX2 (a0 7) aH (xy C) u.2.1 (wX2 (a0 8) aS (xy C) u.2.2 [])))) (fun r u => post r u.1 u.2.1 u.2.2))  {x2 : Int32} {u0 : St} {u1 : St} {u2 : St} (h : qX11_fallsIn_b73 post x2 u0 u1 u2) : G C 0 0 3 (wX11 o0 a0 (xy C) u0 (wX2 (a0 7) aH (xy C) u1 (wX2 (a0 8) aS (xy C) u2 []))) 73 [(0, .ref o0), (2, .int x2)] [] := by
  refine g_aload_n (pc := 73) hC 0 dX11_fallsIn_73 rfl rfl ?_
  refine g_iload_n (pc := 74) hC 1 dX11_fallsIn_74 rfl rfl ?_
  refine g_callV_i (pc := 75) (wd := fun (u : St) Y => (wX11 o0 a0 (xy C) u Y)) (F := fun Z => Z) (X := []) (As := [.int x2]) (rest := []) (u := u0) hC (fun _ _ => rfl) (fun _ => rfl) (ctX11_answer h) wvX11_answer ml_X11_166 (ci := 9) (q0 := 0) rfl rfl rfl rfl (rmok hR0 rfl) ⟨Nat.zero_le _, Nat.zero_le _⟩ rfl (Nat.le_of_ble_eq_true rfl) dX11_fallsIn_75 (fun r_29 u_28 h => ?_)
  exact hR _ _ _ (u_28, u1, u2) dX11_fallsIn_78 h
def qX11_fallsIn_b85   (post : Int32 → St → St → St → Prop)  (u0 : St) (u1 : St) (u2 : St) : Prop := qX11_refuse (6 : Int32) u0 (fun r_32 u_31 => post r_32 u_31 u1 u2)
set_option maxRecDepth 100000 in
set_option maxHeartbeats 4000000 in
theorem kX11_fallsIn_b85 {C : Cx} {o0 : Nat} {a0 : Nat → Nat} {aH : Nat → Nat} {aS : Nat → Nat} (hC : Fx C cX11_fallsIn 3 RX11) (hR0 : xR C = rm 5) {post : Int32 → St → St → St → Prop} (hR : RI C cX11_fallsIn 3 (fun u : St × St × St => (wX11 o0 a0 (xy C) u.1 (wX2 (a0 7) aH (xy C) u.2.1 (wX2 (a0 8) aS (xy C) u.2.2 [])))) (fun r u => post r u.1 u.2.1 u.2.2))  {u0 : St} {u1 : St} {u2 : St} (h : qX11_fallsIn_b85 post u0 u1 u2) : G C 0 0 3 (wX11 o0 a0 (xy C) u0 (wX2 (a0 7) aH (xy C) u1 (wX2 (a0 8) aS (xy C) u2 []))) 85 [(0, .ref o0)] [] := by
  refine g_aload_n (pc := 85) hC 0 dX11_fallsIn_85 rfl rfl ?_
  refine g_bipush (pc := 86) (v := 6) hC dX11_fallsIn_86 (by decide) ?_
  refine g_callV_i (pc := 88) (wd := fun (u : St) Y => (wX11 o0 a0 (xy C) u Y)) (F := fun Z => Z) (X := []) (As := [.int (6 : Int32)]) (rest := []) (u := u0) hC (fun _ _ => rfl) (fun _ => rfl) (ctX11_refuse h) wvX11_refuse ml_X11_127 (ci := 9) (q0 := 0) rfl rfl rfl rfl (rmok hR0 rfl) ⟨Nat.zero_le _, Nat.zero_le _⟩ rfl (Nat.le_of_ble_eq_true rfl) dX11_fallsIn_88 (fun r_32 u_31 h => ?_)
  exact hR _ _ _ (u_31, u1, u2) dX11_fallsIn_91 h
def qX11_fallsIn_l48   (post : Int32 → St → St → St → Prop) (K48 : Int32 → Int32 → St → St → St → Prop) (x1 : Int32) (x2 : Int32) (u0 : St) (u1 : St) (u2 : St) : Prop := (((40 : Int32) < x2 → qX11_fallsIn_b85 post u0 u1 u2) ∧ (¬ (40 : Int32) < x2 → qX2_passYears (1 : Int32) u2 (fun u_35 => qX2_hasFallen x1 u_35 (fun r_38 u_37 => ((r_38 = 0 → ∀ x2_41 : Int32, x2_41 = x2 + (1 : Int32) → K48 x1 x2_41 u0 u1 u_37) ∧ (¬ r_38 = 0 → qX11_fallsIn_b73 post x2 u0 u1 u_37))))))
set_option maxRecDepth 100000 in
set_option maxHeartbeats 4000000 in
theorem kX11_fallsIn_l48 {C : Cx} {o0 : Nat} {a0 : Nat → Nat} {aH : Nat → Nat} {aS : Nat → Nat} (hC : Fx C cX11_fallsIn 3 RX11) (hR0 : xR C = rm 5) {post : Int32 → St → St → St → Prop} (hR : RI C cX11_fallsIn 3 (fun u : St × St × St => (wX11 o0 a0 (xy C) u.1 (wX2 (a0 7) aH (xy C) u.2.1 (wX2 (a0 8) aS (xy C) u.2.2 [])))) (fun r u => post r u.1 u.2.1 u.2.2))  {K48 : Int32 → Int32 → St → St → St → Prop} (hK48 : ∀ (x1 : Int32) (x2 : Int32) (u0 : St) (u1 : St) (u2 : St), K48 x1 x2 u0 u1 u2 → G C 0 0 3 (wX11 o0 a0 (xy C) u0 (wX2 (a0 7) aH (xy C) u1 (wX2 (a0 8) aS (xy C) u2 []))) 48 [(0, .ref o0), (1, .int x1), (2, .int x2)] []) {x1 : Int32} {x2 : Int32} {u0 : St} {u1 : St} {u2 : St} (h : qX11_fallsIn_l48 post K48 x1 x2 u0 u1 u2) : G C 0 0 3 (wX11 o0 a0 (xy C) u0 (wX2 (a0 7) aH (xy C) u1 (wX2 (a0 8) aS (xy C) u2 []))) 48 [(0, .ref o0), (1, .int x1), (2, .int x2)] [] := by
  refine g_iload_n (pc := 48) hC 2 dX11_fallsIn_48 rfl rfl ?_
  refine g_bipush (pc := 49) (v := 40) hC dX11_fallsIn_49 (by decide) ?_
  refine g_icmp_gt (pc := 51) (tgt := 85) hC dX11_fallsIn_51 (by decide) (fun c_34 => ?_) (fun c_34 => ?_)
  · have h := h.1 c_34
    refine g_sub (lv' := [(0, .ref o0)]) [0] rfl ?_
    exact kX11_fallsIn_b85 hC hR0 hR   h
  · have h := h.2 c_34
    refine g_aload_n (pc := 54) hC 0 dX11_fallsIn_54 rfl rfl ?_
    refine getX11_8 (pc := 55) hC (F := fun Z => Z) (X := []) (fun _ => rfl) fl_X11_50 dX11_fallsIn_55 ?_
    refine g_iconst (pc := 58) (v := 1) hC dX11_fallsIn_58 (by decide) ?_
    refine g_callV_v (pc := 59) (wd := fun (u : St) Y => (wX2 (a0 8) aS (xy C) u Y)) (F := fun Z => (wX11 o0 a0 (xy C) u0 (wX2 (a0 7) aH (xy C) u1 Z))) (X := (wX11 o0 a0 (xy C) u0 (wX2 (a0 7) aH (xy C) u1 []))) (As := [.int (1 : Int32)]) (rest := []) (u := u2) hC (fun _ _ => rfl) (fun _ => rfl) (ctX2_passYears h) wvX2_passYears ml_X11_264 (ci := 1) (q0 := 0) rfl rfl rfl rfl (rmok hR0 rfl) ⟨Nat.zero_le _, Nat.zero_le _⟩ rfl (Nat.le_of_ble_eq_true rfl) dX11_fallsIn_59 (fun u_35 h => ?_)
    refine g_aload_n (pc := 62) hC 0 dX11_fallsIn_62 rfl rfl ?_
    refine getX11_8 (pc := 63) hC (F := fun Z => Z) (X := []) (fun _ => rfl) fl_X11_50 dX11_fallsIn_63 ?_
    refine g_iload_n (pc := 66) hC 1 dX11_fallsIn_66 rfl rfl ?_
    refine g_callV_i (pc := 67) (wd := fun (u : St) Y => (wX2 (a0 8) aS (xy C) u Y)) (F := fun Z => (wX11 o0 a0 (xy C) u0 (wX2 (a0 7) aH (xy C) u1 Z))) (X := (wX11 o0 a0 (xy C) u0 (wX2 (a0 7) aH (xy C) u1 []))) (As := [.int x1]) (rest := []) (u := u_35) hC (fun _ _ => rfl) (fun _ => rfl) (ctX2_hasFallen h) wvX2_hasFallen ml_X11_219 (ci := 1) (q0 := 0) rfl rfl rfl rfl (rmok hR0 rfl) ⟨Nat.zero_le _, Nat.zero_le _⟩ rfl (Nat.le_of_ble_eq_true rfl) dX11_fallsIn_67 (fun r_38 u_37 h => ?_)
    refine g_if_eq (pc := 70) (tgt := 79) hC dX11_fallsIn_70 (by decide) (fun c_40 => ?_) (fun c_40 => ?_)
    · have h := h.1 c_40
      obtain ⟨x2_41, ex2_41⟩ : ∃ z : Int32, z = x2 + (1 : Int32) := ⟨_, rfl⟩
      have h := h x2_41 ex2_41
      refine g_iinc (pc := 79) (v := x2_41) (lv' := [(2, .int x2_41), (0, .ref o0), (1, .int x1)]) hC 2 dX11_fallsIn_79 rfl (by rw [ex2_41]; rfl) (Nat.le_of_ble_eq_true rfl) rfl ?_
      refine g_goto (pc := 82) (tgt := 48) hC dX11_fallsIn_82 (by decide) ?_
      refine g_sub (lv' := [(0, .ref o0), (1, .int x1), (2, .int x2_41)]) [1, 2, 0] rfl ?_
      exact hK48 _ _ _ _ _ h
    · have h := h.2 c_40
      refine g_sub (lv' := [(0, .ref o0), (2, .int x2)]) [0, 2] rfl ?_
      exact kX11_fallsIn_b73 hC hR0 hR   h
def qX11_fallsIn_L48   (post : Int32 → St → St → St → Prop)  : Nat → Int32 → Int32 → St → St → St → Prop
  | 0 => fun _ _ _ _ _ => False
  | n + 1 => qX11_fallsIn_l48 post (qX11_fallsIn_L48 post n)
theorem kX11_fallsIn_L48 {C : Cx} {o0 : Nat} {a0 : Nat → Nat} {aH : Nat → Nat} {aS : Nat → Nat} (hC : Fx C cX11_fallsIn 3 RX11) (hR0 : xR C = rm 5) {post : Int32 → St → St → St → Prop} (hR : RI C cX11_fallsIn 3 (fun u : St × St × St => (wX11 o0 a0 (xy C) u.1 (wX2 (a0 7) aH (xy C) u.2.1 (wX2 (a0 8) aS (xy C) u.2.2 [])))) (fun r u => post r u.1 u.2.1 u.2.2))  : ∀ (n : Nat) (x1 : Int32) (x2 : Int32) (u0 : St) (u1 : St) (u2 : St), qX11_fallsIn_L48 post n x1 x2 u0 u1 u2 → G C 0 0 3 (wX11 o0 a0 (xy C) u0 (wX2 (a0 7) aH (xy C) u1 (wX2 (a0 8) aS (xy C) u2 []))) 48 [(0, .ref o0), (1, .int x1), (2, .int x2)] [] := by
  intro n
  induction n with
  | zero => intro x1 x2 u0 u1 u2 h; exact h.elim
  | succ n ih => intro x1 x2 u0 u1 u2 h; exact kX11_fallsIn_l48 hC hR0 hR   ih h
def qX11_fallsIn  (x1 : Int32) (u0 : St) (u1 : St) (u2 : St) (post : Int32 → St → St → St → Prop) : Prop := qX2_isStone x1 u1 (fun r_43 u_42 => ((¬ r_43 = 0 → qX2_hasFallen x1 u_42 (fun r_47 u_46 => ((r_47 = 0 → qX2_copyFrom u2 u_46 (fun u_50 u_51 => ∃ n_53 : Nat, qX11_fallsIn_L48 post n_53 x1 (1 : Int32) u0 u_51 u_50)) ∧ (¬ r_47 = 0 → qX11_refuse (6 : Int32) u0 (fun r_55 u_54 => post r_55 u_54 u_46 u2))))) ∧ (r_43 = 0 → qX11_refuse (1 : Int32) u0 (fun r_58 u_57 => post r_58 u_57 u_42 u2))))
set_option maxRecDepth 100000 in
set_option maxHeartbeats 4000000 in
theorem kX11_fallsIn {C : Cx} {o0 : Nat} {a0 : Nat → Nat} {aH : Nat → Nat} {aS : Nat → Nat} (hC : Fx C cX11_fallsIn 3 RX11) (hR0 : xR C = rm 5) {post : Int32 → St → St → St → Prop} (hR : RI C cX11_fallsIn 3 (fun u : St × St × St => (wX11 o0 a0 (xy C) u.1 (wX2 (a0 7) aH (xy C) u.2.1 (wX2 (a0 8) aS (xy C) u.2.2 [])))) (fun r u => post r u.1 u.2.1 u.2.2)) {x1 : Int32} {u0 : St} {u1 : St} {u2 : St} (h : qX11_fallsIn  x1 u0 u1 u2 post) : G C 0 0 3 (wX11 o0 a0 (xy C) u0 (wX2 (a0 7) aH (xy C) u1 (wX2 (a0 8) aS (xy C) u2 []))) 0 [(0, .ref o0), (1, .int x1)] [] := by
  refine g_aload_n (pc := 0) hC 0 dX11_fallsIn_0 rfl rfl ?_
  refine getX11_7 (pc := 1) hC (F := fun Z => Z) (X := []) (fun _ => rfl) fl_X11_46 dX11_fallsIn_1 ?_
  refine g_iload_n (pc := 4) hC 1 dX11_fallsIn_4 rfl rfl ?_
  refine g_callV_i (pc := 5) (wd := fun (u : St) Y => (wX2 (a0 7) aH (xy C) u Y)) (F := fun Z => (wX11 o0 a0 (xy C) u0 Z)) (X := (wX11 o0 a0 (xy C) u0 [])) (As := [.int x1]) (rest := []) (u := u1) hC (fun _ _ => rfl) (fun _ => rfl) (ctX2_isStone h) wvX2_isStone ml_X11_204 (ci := 1) (q0 := 0) rfl rfl rfl rfl (rmok hR0 rfl) ⟨Nat.zero_le _, Nat.zero_le _⟩ rfl (Nat.le_of_ble_eq_true rfl) dX11_fallsIn_5 (fun r_43 u_42 h => ?_)
  refine g_if_ne (pc := 8) (tgt := 17) hC dX11_fallsIn_8 (by decide) (fun c_45 => ?_) (fun c_45 => ?_)
  · have h := h.1 c_45
    refine g_aload_n (pc := 17) hC 0 dX11_fallsIn_17 rfl rfl ?_
    refine getX11_7 (pc := 18) hC (F := fun Z => Z) (X := []) (fun _ => rfl) fl_X11_46 dX11_fallsIn_18 ?_
    refine g_iload_n (pc := 21) hC 1 dX11_fallsIn_21 rfl rfl ?_
    refine g_callV_i (pc := 22) (wd := fun (u : St) Y => (wX2 (a0 7) aH (xy C) u Y)) (F := fun Z => (wX11 o0 a0 (xy C) u0 Z)) (X := (wX11 o0 a0 (xy C) u0 [])) (As := [.int x1]) (rest := []) (u := u_42) hC (fun _ _ => rfl) (fun _ => rfl) (ctX2_hasFallen h) wvX2_hasFallen ml_X11_219 (ci := 1) (q0 := 0) rfl rfl rfl rfl (rmok hR0 rfl) ⟨Nat.zero_le _, Nat.zero_le _⟩ rfl (Nat.le_of_ble_eq_true rfl) dX11_fallsIn_22 (fun r_47 u_46 h => ?_)
    refine g_if_eq (pc := 25) (tgt := 35) hC dX11_fallsIn_25 (by decide) (fun c_49 => ?_) (fun c_49 => ?_)
    · have h := h.1 c_49
      refine g_aload_n (pc := 35) hC 0 dX11_fallsIn_35 rfl rfl ?_
      refine getX11_8 (pc := 36) hC (F := fun Z => Z) (X := []) (fun _ => rfl) fl_X11_50 dX11_fallsIn_36 ?_
      refine g_aload_n (pc := 39) hC 0 dX11_fallsIn_39 rfl rfl ?_
      refine getX11_7 (pc := 40) hC (F := fun Z => Z) (X := []) (fun _ => rfl) fl_X11_46 dX11_fallsIn_40 ?_
      refine g_swap (F := fun Z => (wX11 o0 a0 (xy C) u0 Z)) (X := (wX11 o0 a0 (xy C) u0 [])) (f := fun Z => (wX2 (a0 7) aH (xy C) u_46 Z)) (g := fun Z => (wX2 (a0 8) aS (xy C) u2 Z)) (Y := []) (fun _ => rfl) (fun _ => rfl) (fun _ => rfl) ?_
      refine g_callV_v (pc := 43) (wd := fun (u : St × St) Y => (wX2 (a0 8) aS (xy C) u.1 (wX2 (a0 7) aH (xy C) u.2 Y))) (F := fun Z => (wX11 o0 a0 (xy C) u0 Z)) (X := (wX11 o0 a0 (xy C) u0 [])) (As := [.ref (a0 7)]) (rest := []) (u := (u2, u_46)) hC (fun _ _ => rfl) (fun _ => rfl) (ctX2_copyFrom h) wvX2_copyFrom ml_X11_298 (ci := 1) (q0 := 0) rfl rfl rfl rfl (rmok hR0 rfl) ⟨Nat.zero_le _, Nat.zero_le _⟩ rfl (Nat.le_of_ble_eq_true rfl) dX11_fallsIn_43 (fun u_52 h => ?_)
      obtain ⟨u_50, u_51⟩ := u_52
      refine g_iconst (pc := 46) (v := 1) hC dX11_fallsIn_46 (by decide) ?_
      refine g_istore_n (pc := 47) (lv' := [(2, .int (1 : Int32)), (0, .ref o0), (1, .int x1)]) hC dX11_fallsIn_47 rfl (Nat.le_of_ble_eq_true rfl) rfl ?_
      refine g_swap (F := fun Z => (wX11 o0 a0 (xy C) u0 Z)) (X := (wX11 o0 a0 (xy C) u0 [])) (f := fun Z => (wX2 (a0 8) aS (xy C) u_50 Z)) (g := fun Z => (wX2 (a0 7) aH (xy C) u_51 Z)) (Y := []) (fun _ => rfl) (fun _ => rfl) (fun _ => rfl) ?_
      refine g_sub (lv' := [(0, .ref o0), (1, .int x1), (2, .int (1 : Int32))]) [1, 2, 0] rfl ?_
      obtain ⟨n_53, h⟩ := h
      exact kX11_fallsIn_L48 hC hR0 hR   n_53 _ _ _ _ _ h
    · have h := h.2 c_49
      refine g_aload_n (pc := 28) hC 0 dX11_fallsIn_28 rfl rfl ?_
      refine g_bipush (pc := 29) (v := 6) hC dX11_fallsIn_29 (by decide) ?_
      refine g_callV_i (pc := 31) (wd := fun (u : St) Y => (wX11 o0 a0 (xy C) u Y)) (F := fun Z => Z) (X := []) (As := [.int (6 : Int32)]) (rest := []) (u := u0) hC (fun _ _ => rfl) (fun _ => rfl) (ctX11_refuse h) wvX11_refuse ml_X11_127 (ci := 9) (q0 := 0) rfl rfl rfl rfl (rmok hR0 rfl) ⟨Nat.zero_le _, Nat.zero_le _⟩ rfl (Nat.le_of_ble_eq_true rfl) dX11_fallsIn_31 (fun r_55 u_54 h => ?_)
      exact hR _ _ _ (u_54, u_46, u2) dX11_fallsIn_34 h
  · have h := h.2 c_45
    refine g_aload_n (pc := 11) hC 0 dX11_fallsIn_11 rfl rfl ?_
    refine g_iconst (pc := 12) (v := 1) hC dX11_fallsIn_12 (by decide) ?_
    refine g_callV_i (pc := 13) (wd := fun (u : St) Y => (wX11 o0 a0 (xy C) u Y)) (F := fun Z => Z) (X := []) (As := [.int (1 : Int32)]) (rest := []) (u := u0) hC (fun _ _ => rfl) (fun _ => rfl) (ctX11_refuse h) wvX11_refuse ml_X11_127 (ci := 9) (q0 := 0) rfl rfl rfl rfl (rmok hR0 rfl) ⟨Nat.zero_le _, Nat.zero_le _⟩ rfl (Nat.le_of_ble_eq_true rfl) dX11_fallsIn_13 (fun r_58 u_57 h => ?_)
    exact hR _ _ _ (u_57, u_42, u2) dX11_fallsIn_16 h
theorem ctX11_fallsIn {l : Launch} {D : va_G} {cy : Nat → ClassId} {kd : Nat → Nat} {o0 : Nat} {a0 : Nat → Nat} {aH : Nat → Nat} {aS : Nat → Nat} {x1 : Int32} {u0 : St} {u1 : St} {u2 : St} {post : Int32 → St → St → St → Prop} (h : qX11_fallsIn x1 u0 u1 u2 post) : CtI l D cy kd yX11_fallsIn cX11_fallsIn 3 5 .int [.ref o0, .int x1] (fun u : St × St × St => (wX11 o0 a0 cy u.1 (wX2 (a0 7) aH cy u.2.1 (wX2 (a0 8) aS cy u.2.2 [])))) (u0, u1, u2) (fun r u => post r u.1 u.2.1 u.2.2) := met_i (by decide) (Nat.le_of_ble_eq_true rfl) (fun C e1 e2 e3 e4 e5 hC hR => by subst e1 e2 e3 e4; exact kX11_fallsIn hC e5 hR h)
theorem dX11_bare_0 : decode cX11_bare 0 = .ok (.iload_n 1, 1) := by decide +kernel
theorem dX11_bare_1 : decode cX11_bare 1 = .ok (.iconst 0, 1) := by decide +kernel
theorem dX11_bare_2 : decode cX11_bare 2 = .ok (.iconst 1, 1) := by decide +kernel
theorem dX11_bare_3 : decode cX11_bare 3 = .ok (.aload_n 0, 1) := by decide +kernel
theorem dX11_bare_4 : decode cX11_bare 4 = .ok (.getfield 46, 3) := by decide +kernel
theorem dX11_bare_7 : decode cX11_bare 7 = .ok (.getfield 163, 3) := by decide +kernel
theorem dX11_bare_10 : decode cX11_bare 10 = .ok (.ishl, 1) := by decide +kernel
theorem dX11_bare_11 : decode cX11_bare 11 = .ok (.iconst 1, 1) := by decide +kernel
theorem dX11_bare_12 : decode cX11_bare 12 = .ok (.isub, 1) := by decide +kernel
theorem dX11_bare_13 : decode cX11_bare 13 = .ok (.invokestatic 104, 3) := by decide +kernel
theorem dX11_bare_16 : decode cX11_bare 16 = .ok (.ifCond .ne 9, 3) := by decide +kernel
theorem dX11_bare_19 : decode cX11_bare 19 = .ok (.aload_n 0, 1) := by decide +kernel
theorem dX11_bare_20 : decode cX11_bare 20 = .ok (.iconst 1, 1) := by decide +kernel
theorem dX11_bare_21 : decode cX11_bare 21 = .ok (.invokevirtual 127, 3) := by decide +kernel
theorem dX11_bare_24 : decode cX11_bare 24 = .ok (.ireturn, 1) := by decide +kernel
theorem dX11_bare_25 : decode cX11_bare 25 = .ok (.aload_n 0, 1) := by decide +kernel
theorem dX11_bare_26 : decode cX11_bare 26 = .ok (.aload_n 0, 1) := by decide +kernel
theorem dX11_bare_27 : decode cX11_bare 27 = .ok (.getfield 46, 3) := by decide +kernel
theorem dX11_bare_30 : decode cX11_bare 30 = .ok (.iload_n 1, 1) := by decide +kernel
theorem dX11_bare_31 : decode cX11_bare 31 = .ok (.invokevirtual 302, 3) := by decide +kernel
theorem dX11_bare_34 : decode cX11_bare 34 = .ok (.invokevirtual 166, 3) := by decide +kernel
theorem dX11_bare_37 : decode cX11_bare 37 = .ok (.ireturn, 1) := by decide +kernel
def qX11_bare  (x1 : Int32) (u0 : St) (u1 : St) (post : Int32 → St → St → Prop) : Prop := qX11_within x1 (0 : Int32) (((1 : Int32) <<< ((gi u1 2) &&& 31)) - (1 : Int32)) (fun r_12 => ((¬ r_12 = 0 → qX2_fallingWithout x1 u1 (fun r_16 u_15 => qX11_answer r_16 u0 (fun r_19 u_18 => post r_19 u_18 u_15))) ∧ (r_12 = 0 → qX11_refuse (1 : Int32) u0 (fun r_22 u_21 => post r_22 u_21 u1))))
set_option maxRecDepth 100000 in
set_option maxHeartbeats 4000000 in
theorem kX11_bare {C : Cx} {o0 : Nat} {a0 : Nat → Nat} {aH : Nat → Nat} (hC : Fx C cX11_bare 2 RX11) (hR0 : xR C = rm 4) {post : Int32 → St → St → Prop} (hR : RI C cX11_bare 2 (fun u : St × St => (wX11 o0 a0 (xy C) u.1 (wX2 (a0 7) aH (xy C) u.2 []))) (fun r u => post r u.1 u.2)) {x1 : Int32} {u0 : St} {u1 : St} (h : qX11_bare  x1 u0 u1 post) : G C 0 0 2 (wX11 o0 a0 (xy C) u0 (wX2 (a0 7) aH (xy C) u1 [])) 0 [(0, .ref o0), (1, .int x1)] [] := by
  refine g_iload_n (pc := 0) hC 1 dX11_bare_0 rfl rfl ?_
  refine g_iconst (pc := 1) (v := 0) hC dX11_bare_1 (by decide) ?_
  refine g_iconst (pc := 2) (v := 1) hC dX11_bare_2 (by decide) ?_
  refine g_aload_n (pc := 3) hC 0 dX11_bare_3 rfl rfl ?_
  refine getX11_7 (pc := 4) hC (F := fun Z => Z) (X := []) (fun _ => rfl) fl_X11_46 dX11_bare_4 ?_
  refine getX2_2 (pc := 7) hC (F := fun Z => (wX11 o0 a0 (xy C) u0 Z)) (X := (wX11 o0 a0 (xy C) u0 [])) (fun _ => rfl) fl_X11_163 dX11_bare_7 ?_
  refine g_ishl (pc := 10) hC dX11_bare_10 ?_
  refine g_iconst (pc := 11) (v := 1) hC dX11_bare_11 (by decide) ?_
  refine g_isub (pc := 12) hC dX11_bare_12 ?_
  refine g_callS_i (pc := 13) (wd := fun (_ : Unit) Y => Y) (F := fun Z => Z) (X := []) (As := [.int x1, .int (0 : Int32), .int (((1 : Int32) <<< ((gi u1 2) &&& 31)) - (1 : Int32))]) (rest := []) (u := ()) hC (fun _ _ => rfl) (fun _ => rfl) (ctX11_within h) wvX11_within ml_X11_104 rfl (rmok hR0 rfl) ⟨Nat.zero_le _, Nat.zero_le _⟩ rfl (Nat.le_of_ble_eq_true rfl) dX11_bare_13 (fun r_12 u_13 h => ?_)
  refine g_if_ne (pc := 16) (tgt := 25) hC dX11_bare_16 (by decide) (fun c_14 => ?_) (fun c_14 => ?_)
  · have h := h.1 c_14
    refine g_aload_n (pc := 25) hC 0 dX11_bare_25 rfl rfl ?_
    refine g_aload_n (pc := 26) hC 0 dX11_bare_26 rfl rfl ?_
    refine getX11_7 (pc := 27) hC (F := fun Z => Z) (X := []) (fun _ => rfl) fl_X11_46 dX11_bare_27 ?_
    refine g_iload_n (pc := 30) hC 1 dX11_bare_30 rfl rfl ?_
    refine g_callV_i (pc := 31) (wd := fun (u : St) Y => (wX2 (a0 7) aH (xy C) u Y)) (F := fun Z => (wX11 o0 a0 (xy C) u0 Z)) (X := (wX11 o0 a0 (xy C) u0 [])) (As := [.int x1]) (rest := [.ref o0]) (u := u1) hC (fun _ _ => rfl) (fun _ => rfl) (ctX2_fallingWithout h) wvX2_fallingWithout ml_X11_302 (ci := 1) (q0 := 0) rfl rfl rfl rfl (rmok hR0 rfl) ⟨Nat.zero_le _, Nat.zero_le _⟩ rfl (Nat.le_of_ble_eq_true rfl) dX11_bare_31 (fun r_16 u_15 h => ?_)
    refine g_callV_i (pc := 34) (wd := fun (u : St) Y => (wX11 o0 a0 (xy C) u Y)) (F := fun Z => Z) (X := []) (As := [.int r_16]) (rest := []) (u := u0) hC (fun _ _ => rfl) (fun _ => rfl) (ctX11_answer h) wvX11_answer ml_X11_166 (ci := 9) (q0 := 0) rfl rfl rfl rfl (rmok hR0 rfl) ⟨Nat.zero_le _, Nat.zero_le _⟩ rfl (Nat.le_of_ble_eq_true rfl) dX11_bare_34 (fun r_19 u_18 h => ?_)
    exact hR _ _ _ (u_18, u_15) dX11_bare_37 h
  · have h := h.2 c_14
    refine g_aload_n (pc := 19) hC 0 dX11_bare_19 rfl rfl ?_
    refine g_iconst (pc := 20) (v := 1) hC dX11_bare_20 (by decide) ?_
    refine g_callV_i (pc := 21) (wd := fun (u : St) Y => (wX11 o0 a0 (xy C) u Y)) (F := fun Z => Z) (X := []) (As := [.int (1 : Int32)]) (rest := []) (u := u0) hC (fun _ _ => rfl) (fun _ => rfl) (ctX11_refuse h) wvX11_refuse ml_X11_127 (ci := 9) (q0 := 0) rfl rfl rfl rfl (rmok hR0 rfl) ⟨Nat.zero_le _, Nat.zero_le _⟩ rfl (Nat.le_of_ble_eq_true rfl) dX11_bare_21 (fun r_22 u_21 h => ?_)
    exact hR _ _ _ (u_21, u1) dX11_bare_24 h
theorem ctX11_bare {l : Launch} {D : va_G} {cy : Nat → ClassId} {kd : Nat → Nat} {o0 : Nat} {a0 : Nat → Nat} {aH : Nat → Nat} {x1 : Int32} {u0 : St} {u1 : St} {post : Int32 → St → St → Prop} (h : qX11_bare x1 u0 u1 post) : CtI l D cy kd yX11_bare cX11_bare 2 4 .int [.ref o0, .int x1] (fun u : St × St => (wX11 o0 a0 cy u.1 (wX2 (a0 7) aH cy u.2 []))) (u0, u1) (fun r u => post r u.1 u.2) := met_i (by decide) (Nat.le_of_ble_eq_true rfl) (fun C e1 e2 e3 e4 e5 hC hR => by subst e1 e2 e3 e4; exact kX11_bare hC e5 hR h)
theorem dX11_most_0 : decode cX11_most 0 = .ok (.aload_n 0, 1) := by decide +kernel
theorem dX11_most_1 : decode cX11_most 1 = .ok (.aload_n 0, 1) := by decide +kernel
theorem dX11_most_2 : decode cX11_most 2 = .ok (.getfield 46, 3) := by decide +kernel
theorem dX11_most_5 : decode cX11_most 5 = .ok (.invokevirtual 305, 3) := by decide +kernel
theorem dX11_most_8 : decode cX11_most 8 = .ok (.invokestatic 267, 3) := by decide +kernel
theorem dX11_most_11 : decode cX11_most 11 = .ok (.invokevirtual 166, 3) := by decide +kernel
theorem dX11_most_14 : decode cX11_most 14 = .ok (.ireturn, 1) := by decide +kernel
def qX11_most   (u0 : St) (u1 : St) (post : Int32 → St → St → Prop) : Prop := qX2_largestIdleSet u1 (fun r_10 u_9 => qJ6_bitCount_0f7a4 r_10 (fun r_12 => qX11_answer r_12 u0 (fun r_15 u_14 => post r_15 u_14 u_9)))
set_option maxRecDepth 100000 in
set_option maxHeartbeats 4000000 in
theorem kX11_most {C : Cx} {o0 : Nat} {a0 : Nat → Nat} {aH : Nat → Nat} (hC : Fx C cX11_most 1 RX11) (hR0 : xR C = rm 5) {post : Int32 → St → St → Prop} (hR : RI C cX11_most 1 (fun u : St × St => (wX11 o0 a0 (xy C) u.1 (wX2 (a0 7) aH (xy C) u.2 []))) (fun r u => post r u.1 u.2))  {u0 : St} {u1 : St} (h : qX11_most   u0 u1 post) : G C 0 0 1 (wX11 o0 a0 (xy C) u0 (wX2 (a0 7) aH (xy C) u1 [])) 0 [(0, .ref o0)] [] := by
  refine g_aload_n (pc := 0) hC 0 dX11_most_0 rfl rfl ?_
  refine g_aload_n (pc := 1) hC 0 dX11_most_1 rfl rfl ?_
  refine getX11_7 (pc := 2) hC (F := fun Z => Z) (X := []) (fun _ => rfl) fl_X11_46 dX11_most_2 ?_
  refine g_callV_i (pc := 5) (wd := fun (u : St) Y => (wX2 (a0 7) aH (xy C) u Y)) (F := fun Z => (wX11 o0 a0 (xy C) u0 Z)) (X := (wX11 o0 a0 (xy C) u0 [])) (As := []) (rest := [.ref o0]) (u := u1) hC (fun _ _ => rfl) (fun _ => rfl) (ctX2_largestIdleSet h) wvX2_largestIdleSet ml_X11_305 (ci := 1) (q0 := 0) rfl rfl rfl rfl (rmok hR0 rfl) ⟨Nat.zero_le _, Nat.zero_le _⟩ rfl (Nat.le_of_ble_eq_true rfl) dX11_most_5 (fun r_10 u_9 h => ?_)
  refine g_callS_i (pc := 8) (wd := fun (_ : Unit) Y => Y) (F := fun Z => Z) (X := []) (As := [.int r_10]) (rest := [.ref o0]) (u := ()) hC (fun _ _ => rfl) (fun _ => rfl) (ctJ6_bitCount_0f7a4 h) wvJ6_bitCount_0f7a4 ml_X11_267 rfl (rmok hR0 rfl) ⟨Nat.zero_le _, Nat.zero_le _⟩ rfl (Nat.le_of_ble_eq_true rfl) dX11_most_8 (fun r_12 u_13 h => ?_)
  refine g_callV_i (pc := 11) (wd := fun (u : St) Y => (wX11 o0 a0 (xy C) u Y)) (F := fun Z => Z) (X := []) (As := [.int r_12]) (rest := []) (u := u0) hC (fun _ _ => rfl) (fun _ => rfl) (ctX11_answer h) wvX11_answer ml_X11_166 (ci := 9) (q0 := 0) rfl rfl rfl rfl (rmok hR0 rfl) ⟨Nat.zero_le _, Nat.zero_le _⟩ rfl (Nat.le_of_ble_eq_true rfl) dX11_most_11 (fun r_15 u_14 h => ?_)
  exact hR _ _ _ (u_14, u_9) dX11_most_14 h
theorem ctX11_most {l : Launch} {D : va_G} {cy : Nat → ClassId} {kd : Nat → Nat} {o0 : Nat} {a0 : Nat → Nat} {aH : Nat → Nat}  {u0 : St} {u1 : St} {post : Int32 → St → St → Prop} (h : qX11_most  u0 u1 post) : CtI l D cy kd yX11_most cX11_most 1 5 .int [.ref o0] (fun u : St × St => (wX11 o0 a0 cy u.1 (wX2 (a0 7) aH cy u.2 []))) (u0, u1) (fun r u => post r u.1 u.2) := met_i (by decide) (Nat.le_of_ble_eq_true rfl) (fun C e1 e2 e3 e4 e5 hC hR => by subst e1 e2 e3 e4; exact kX11_most hC e5 hR h)
theorem dX11_mostSet_0 : decode cX11_mostSet 0 = .ok (.aload_n 0, 1) := by decide +kernel
theorem dX11_mostSet_1 : decode cX11_mostSet 1 = .ok (.aload_n 0, 1) := by decide +kernel
theorem dX11_mostSet_2 : decode cX11_mostSet 2 = .ok (.getfield 46, 3) := by decide +kernel
theorem dX11_mostSet_5 : decode cX11_mostSet 5 = .ok (.invokevirtual 305, 3) := by decide +kernel
theorem dX11_mostSet_8 : decode cX11_mostSet 8 = .ok (.invokevirtual 166, 3) := by decide +kernel
theorem dX11_mostSet_11 : decode cX11_mostSet 11 = .ok (.ireturn, 1) := by decide +kernel
def qX11_mostSet   (u0 : St) (u1 : St) (post : Int32 → St → St → Prop) : Prop := qX2_largestIdleSet u1 (fun r_8 u_7 => qX11_answer r_8 u0 (fun r_11 u_10 => post r_11 u_10 u_7))
set_option maxRecDepth 100000 in
set_option maxHeartbeats 4000000 in
theorem kX11_mostSet {C : Cx} {o0 : Nat} {a0 : Nat → Nat} {aH : Nat → Nat} (hC : Fx C cX11_mostSet 1 RX11) (hR0 : xR C = rm 5) {post : Int32 → St → St → Prop} (hR : RI C cX11_mostSet 1 (fun u : St × St => (wX11 o0 a0 (xy C) u.1 (wX2 (a0 7) aH (xy C) u.2 []))) (fun r u => post r u.1 u.2))  {u0 : St} {u1 : St} (h : qX11_mostSet   u0 u1 post) : G C 0 0 1 (wX11 o0 a0 (xy C) u0 (wX2 (a0 7) aH (xy C) u1 [])) 0 [(0, .ref o0)] [] := by
  refine g_aload_n (pc := 0) hC 0 dX11_mostSet_0 rfl rfl ?_
  refine g_aload_n (pc := 1) hC 0 dX11_mostSet_1 rfl rfl ?_
  refine getX11_7 (pc := 2) hC (F := fun Z => Z) (X := []) (fun _ => rfl) fl_X11_46 dX11_mostSet_2 ?_
  refine g_callV_i (pc := 5) (wd := fun (u : St) Y => (wX2 (a0 7) aH (xy C) u Y)) (F := fun Z => (wX11 o0 a0 (xy C) u0 Z)) (X := (wX11 o0 a0 (xy C) u0 [])) (As := []) (rest := [.ref o0]) (u := u1) hC (fun _ _ => rfl) (fun _ => rfl) (ctX2_largestIdleSet h) wvX2_largestIdleSet ml_X11_305 (ci := 1) (q0 := 0) rfl rfl rfl rfl (rmok hR0 rfl) ⟨Nat.zero_le _, Nat.zero_le _⟩ rfl (Nat.le_of_ble_eq_true rfl) dX11_mostSet_5 (fun r_8 u_7 h => ?_)
  refine g_callV_i (pc := 8) (wd := fun (u : St) Y => (wX11 o0 a0 (xy C) u Y)) (F := fun Z => Z) (X := []) (As := [.int r_8]) (rest := []) (u := u0) hC (fun _ _ => rfl) (fun _ => rfl) (ctX11_answer h) wvX11_answer ml_X11_166 (ci := 9) (q0 := 0) rfl rfl rfl rfl (rmok hR0 rfl) ⟨Nat.zero_le _, Nat.zero_le _⟩ rfl (Nat.le_of_ble_eq_true rfl) dX11_mostSet_8 (fun r_11 u_10 h => ?_)
  exact hR _ _ _ (u_10, u_7) dX11_mostSet_11 h
theorem ctX11_mostSet {l : Launch} {D : va_G} {cy : Nat → ClassId} {kd : Nat → Nat} {o0 : Nat} {a0 : Nat → Nat} {aH : Nat → Nat}  {u0 : St} {u1 : St} {post : Int32 → St → St → Prop} (h : qX11_mostSet  u0 u1 post) : CtI l D cy kd yX11_mostSet cX11_mostSet 1 5 .int [.ref o0] (fun u : St × St => (wX11 o0 a0 cy u.1 (wX2 (a0 7) aH cy u.2 []))) (u0, u1) (fun r u => post r u.1 u.2) := met_i (by decide) (Nat.le_of_ble_eq_true rfl) (fun C e1 e2 e3 e4 e5 hC hR => by subst e1 e2 e3 e4; exact kX11_mostSet hC e5 hR h)
theorem dX11_findFelling_0 : decode cX11_findFelling 0 = .ok (.aload_n 0, 1) := by decide +kernel
theorem dX11_findFelling_1 : decode cX11_findFelling 1 = .ok (.getfield 46, 3) := by decide +kernel
theorem dX11_findFelling_4 : decode cX11_findFelling 4 = .ok (.iload_n 1, 1) := by decide +kernel
theorem dX11_findFelling_5 : decode cX11_findFelling 5 = .ok (.invokevirtual 204, 3) := by decide +kernel
theorem dX11_findFelling_8 : decode cX11_findFelling 8 = .ok (.ifCond .ne 9, 3) := by decide +kernel
theorem dX11_findFelling_11 : decode cX11_findFelling 11 = .ok (.aload_n 0, 1) := by decide +kernel
theorem dX11_findFelling_12 : decode cX11_findFelling 12 = .ok (.iconst 1, 1) := by decide +kernel
theorem dX11_findFelling_13 : decode cX11_findFelling 13 = .ok (.invokevirtual 127, 3) := by decide +kernel
theorem dX11_findFelling_16 : decode cX11_findFelling 16 = .ok (.ireturn, 1) := by decide +kernel
theorem dX11_findFelling_17 : decode cX11_findFelling 17 = .ok (.aload_n 0, 1) := by decide +kernel
theorem dX11_findFelling_18 : decode cX11_findFelling 18 = .ok (.getfield 46, 3) := by decide +kernel
theorem dX11_findFelling_21 : decode cX11_findFelling 21 = .ok (.iload_n 1, 1) := by decide +kernel
theorem dX11_findFelling_22 : decode cX11_findFelling 22 = .ok (.invokevirtual 219, 3) := by decide +kernel
theorem dX11_findFelling_25 : decode cX11_findFelling 25 = .ok (.ifCond .eq 10, 3) := by decide +kernel
theorem dX11_findFelling_28 : decode cX11_findFelling 28 = .ok (.aload_n 0, 1) := by decide +kernel
theorem dX11_findFelling_29 : decode cX11_findFelling 29 = .ok (.bipush 7, 2) := by decide +kernel
theorem dX11_findFelling_31 : decode cX11_findFelling 31 = .ok (.invokevirtual 127, 3) := by decide +kernel
theorem dX11_findFelling_34 : decode cX11_findFelling 34 = .ok (.ireturn, 1) := by decide +kernel
theorem dX11_findFelling_35 : decode cX11_findFelling 35 = .ok (.aload_n 0, 1) := by decide +kernel
theorem dX11_findFelling_36 : decode cX11_findFelling 36 = .ok (.getfield 46, 3) := by decide +kernel
theorem dX11_findFelling_39 : decode cX11_findFelling 39 = .ok (.iload_n 1, 1) := by decide +kernel
theorem dX11_findFelling_40 : decode cX11_findFelling 40 = .ok (.invokevirtual 413, 3) := by decide +kernel
theorem dX11_findFelling_43 : decode cX11_findFelling 43 = .ok (.istore_n 2, 1) := by decide +kernel
theorem dX11_findFelling_44 : decode cX11_findFelling 44 = .ok (.iload_n 2, 1) := by decide +kernel
theorem dX11_findFelling_45 : decode cX11_findFelling 45 = .ok (.iconst (-1), 1) := by decide +kernel
theorem dX11_findFelling_46 : decode cX11_findFelling 46 = .ok (.if_icmp .ne 12, 3) := by decide +kernel
theorem dX11_findFelling_49 : decode cX11_findFelling 49 = .ok (.aload_n 0, 1) := by decide +kernel
theorem dX11_findFelling_50 : decode cX11_findFelling 50 = .ok (.bipush 6, 2) := by decide +kernel
theorem dX11_findFelling_52 : decode cX11_findFelling 52 = .ok (.invokevirtual 127, 3) := by decide +kernel
theorem dX11_findFelling_55 : decode cX11_findFelling 55 = .ok (.goto 8, 3) := by decide +kernel
theorem dX11_findFelling_58 : decode cX11_findFelling 58 = .ok (.aload_n 0, 1) := by decide +kernel
theorem dX11_findFelling_59 : decode cX11_findFelling 59 = .ok (.iload_n 2, 1) := by decide +kernel
theorem dX11_findFelling_60 : decode cX11_findFelling 60 = .ok (.invokevirtual 166, 3) := by decide +kernel
theorem dX11_findFelling_63 : decode cX11_findFelling 63 = .ok (.ireturn, 1) := by decide +kernel
def qX11_findFelling_b63   (post : Int32 → St → St → Prop)  (s0 : Int32) (u0 : St) (u1 : St) : Prop := post s0 u0 u1
set_option maxRecDepth 100000 in
set_option maxHeartbeats 4000000 in
theorem kX11_findFelling_b63 {C : Cx} {o0 : Nat} {a0 : Nat → Nat} {aH : Nat → Nat} (hC : Fx C cX11_findFelling 3 RX11) (hR0 : xR C = rm 5) {post : Int32 → St → St → Prop} (hR : RI C cX11_findFelling 3 (fun u : St × St => (wX11 o0 a0 (xy C) u.1 (wX2 (a0 7) aH (xy C) u.2 []))) (fun r u => post r u.1 u.2))  {s0 : Int32} {u0 : St} {u1 : St} (h : qX11_findFelling_b63 post s0 u0 u1) : G C 0 0 3 (wX11 o0 a0 (xy C) u0 (wX2 (a0 7) aH (xy C) u1 [])) 63 [] [.int s0] := by
  exact hR _ _ _ (u0, u1) dX11_findFelling_63 h
def qX11_findFelling  (x1 : Int32) (u0 : St) (u1 : St) (post : Int32 → St → St → Prop) : Prop := qX2_isStone x1 u1 (fun r_23 u_22 => ((¬ r_23 = 0 → qX2_hasFallen x1 u_22 (fun r_27 u_26 => ((r_27 = 0 → qX2_smallestFellingSet x1 u_26 (fun r_31 u_30 => ((¬ r_31 = (-1 : Int32) → qX11_answer r_31 u0 (fun r_35 u_34 => qX11_findFelling_b63 post r_35 u_34 u_30)) ∧ (r_31 = (-1 : Int32) → qX11_refuse (6 : Int32) u0 (fun r_38 u_37 => qX11_findFelling_b63 post r_38 u_37 u_30))))) ∧ (¬ r_27 = 0 → qX11_refuse (7 : Int32) u0 (fun r_41 u_40 => post r_41 u_40 u_26))))) ∧ (r_23 = 0 → qX11_refuse (1 : Int32) u0 (fun r_44 u_43 => post r_44 u_43 u_22))))
set_option maxRecDepth 100000 in
set_option maxHeartbeats 4000000 in
theorem kX11_findFelling {C : Cx} {o0 : Nat} {a0 : Nat → Nat} {aH : Nat → Nat} (hC : Fx C cX11_findFelling 3 RX11) (hR0 : xR C = rm 5) {post : Int32 → St → St → Prop} (hR : RI C cX11_findFelling 3 (fun u : St × St => (wX11 o0 a0 (xy C) u.1 (wX2 (a0 7) aH (xy C) u.2 []))) (fun r u => post r u.1 u.2)) {x1 : Int32} {u0 : St} {u1 : St} (h : qX11_findFelling  x1 u0 u1 post) : G C 0 0 3 (wX11 o0 a0 (xy C) u0 (wX2 (a0 7) aH (xy C) u1 [])) 0 [(0, .ref o0), (1, .int x1)] [] := by
  refine g_aload_n (pc := 0) hC 0 dX11_findFelling_0 rfl rfl ?_
  refine getX11_7 (pc := 1) hC (F := fun Z => Z) (X := []) (fun _ => rfl) fl_X11_46 dX11_findFelling_1 ?_
  refine g_iload_n (pc := 4) hC 1 dX11_findFelling_4 rfl rfl ?_
  refine g_callV_i (pc := 5) (wd := fun (u : St) Y => (wX2 (a0 7) aH (xy C) u Y)) (F := fun Z => (wX11 o0 a0 (xy C) u0 Z)) (X := (wX11 o0 a0 (xy C) u0 [])) (As := [.int x1]) (rest := []) (u := u1) hC (fun _ _ => rfl) (fun _ => rfl) (ctX2_isStone h) wvX2_isStone ml_X11_204 (ci := 1) (q0 := 0) rfl rfl rfl rfl (rmok hR0 rfl) ⟨Nat.zero_le _, Nat.zero_le _⟩ rfl (Nat.le_of_ble_eq_true rfl) dX11_findFelling_5 (fun r_23 u_22 h => ?_)
  refine g_if_ne (pc := 8) (tgt := 17) hC dX11_findFelling_8 (by decide) (fun c_25 => ?_) (fun c_25 => ?_)
  · have h := h.1 c_25
    refine g_aload_n (pc := 17) hC 0 dX11_findFelling_17 rfl rfl ?_
    refine getX11_7 (pc := 18) hC (F := fun Z => Z) (X := []) (fun _ => rfl) fl_X11_46 dX11_findFelling_18 ?_
    refine g_iload_n (pc := 21) hC 1 dX11_findFelling_21 rfl rfl ?_
    refine g_callV_i (pc := 22) (wd := fun (u : St) Y => (wX2 (a0 7) aH (xy C) u Y)) (F := fun Z => (wX11 o0 a0 (xy C) u0 Z)) (X := (wX11 o0 a0 (xy C) u0 [])) (As := [.int x1]) (rest := []) (u := u_22) hC (fun _ _ => rfl) (fun _ => rfl) (ctX2_hasFallen h) wvX2_hasFallen ml_X11_219 (ci := 1) (q0 := 0) rfl rfl rfl rfl (rmok hR0 rfl) ⟨Nat.zero_le _, Nat.zero_le _⟩ rfl (Nat.le_of_ble_eq_true rfl) dX11_findFelling_22 (fun r_27 u_26 h => ?_)
    refine g_if_eq (pc := 25) (tgt := 35) hC dX11_findFelling_25 (by decide) (fun c_29 => ?_) (fun c_29 => ?_)
    · have h := h.1 c_29
      refine g_aload_n (pc := 35) hC 0 dX11_findFelling_35 rfl rfl ?_
      refine getX11_7 (pc := 36) hC (F := fun Z => Z) (X := []) (fun _ => rfl) fl_X11_46 dX11_findFelling_36 ?_
      refine g_iload_n (pc := 39) hC 1 dX11_findFelling_39 rfl rfl ?_
      refine g_callV_i (pc := 40) (wd := fun (u : St) Y => (wX2 (a0 7) aH (xy C) u Y)) (F := fun Z => (wX11 o0 a0 (xy C) u0 Z)) (X := (wX11 o0 a0 (xy C) u0 [])) (As := [.int x1]) (rest := []) (u := u_26) hC (fun _ _ => rfl) (fun _ => rfl) (ctX2_smallestFellingSet h) wvX2_smallestFellingSet ml_X11_413 (ci := 1) (q0 := 0) rfl rfl rfl rfl (rmok hR0 rfl) ⟨Nat.zero_le _, Nat.zero_le _⟩ rfl (Nat.le_of_ble_eq_true rfl) dX11_findFelling_40 (fun r_31 u_30 h => ?_)
      refine g_istore_n (pc := 43) (lv' := [(2, .int r_31), (0, .ref o0), (1, .int x1)]) hC dX11_findFelling_43 rfl (Nat.le_of_ble_eq_true rfl) rfl ?_
      refine g_iload_n (pc := 44) hC 0 dX11_findFelling_44 rfl rfl ?_
      refine g_iconst (pc := 45) (v := -1) hC dX11_findFelling_45 (by decide) ?_
      refine g_icmp_ne (pc := 46) (tgt := 58) hC dX11_findFelling_46 (by decide) (fun c_33 => ?_) (fun c_33 => ?_)
      · have h := h.1 c_33
        refine g_aload_n (pc := 58) hC 1 dX11_findFelling_58 rfl rfl ?_
        refine g_iload_n (pc := 59) hC 0 dX11_findFelling_59 rfl rfl ?_
        refine g_callV_i (pc := 60) (wd := fun (u : St) Y => (wX11 o0 a0 (xy C) u Y)) (F := fun Z => Z) (X := []) (As := [.int r_31]) (rest := []) (u := u0) hC (fun _ _ => rfl) (fun _ => rfl) (ctX11_answer h) wvX11_answer ml_X11_166 (ci := 9) (q0 := 0) rfl rfl rfl rfl (rmok hR0 rfl) ⟨Nat.zero_le _, Nat.zero_le _⟩ rfl (Nat.le_of_ble_eq_true rfl) dX11_findFelling_60 (fun r_35 u_34 h => ?_)
        refine g_sub (lv' := []) [] rfl ?_
        exact kX11_findFelling_b63 hC hR0 hR   h
      · have h := h.2 c_33
        refine g_aload_n (pc := 49) hC 1 dX11_findFelling_49 rfl rfl ?_
        refine g_bipush (pc := 50) (v := 6) hC dX11_findFelling_50 (by decide) ?_
        refine g_callV_i (pc := 52) (wd := fun (u : St) Y => (wX11 o0 a0 (xy C) u Y)) (F := fun Z => Z) (X := []) (As := [.int (6 : Int32)]) (rest := []) (u := u0) hC (fun _ _ => rfl) (fun _ => rfl) (ctX11_refuse h) wvX11_refuse ml_X11_127 (ci := 9) (q0 := 0) rfl rfl rfl rfl (rmok hR0 rfl) ⟨Nat.zero_le _, Nat.zero_le _⟩ rfl (Nat.le_of_ble_eq_true rfl) dX11_findFelling_52 (fun r_38 u_37 h => ?_)
        refine g_goto (pc := 55) (tgt := 63) hC dX11_findFelling_55 (by decide) ?_
        refine g_sub (lv' := []) [] rfl ?_
        exact kX11_findFelling_b63 hC hR0 hR   h
    · have h := h.2 c_29
      refine g_aload_n (pc := 28) hC 0 dX11_findFelling_28 rfl rfl ?_
      refine g_bipush (pc := 29) (v := 7) hC dX11_findFelling_29 (by decide) ?_
      refine g_callV_i (pc := 31) (wd := fun (u : St) Y => (wX11 o0 a0 (xy C) u Y)) (F := fun Z => Z) (X := []) (As := [.int (7 : Int32)]) (rest := []) (u := u0) hC (fun _ _ => rfl) (fun _ => rfl) (ctX11_refuse h) wvX11_refuse ml_X11_127 (ci := 9) (q0 := 0) rfl rfl rfl rfl (rmok hR0 rfl) ⟨Nat.zero_le _, Nat.zero_le _⟩ rfl (Nat.le_of_ble_eq_true rfl) dX11_findFelling_31 (fun r_41 u_40 h => ?_)
      exact hR _ _ _ (u_40, u_26) dX11_findFelling_34 h
  · have h := h.2 c_25
    refine g_aload_n (pc := 11) hC 0 dX11_findFelling_11 rfl rfl ?_
    refine g_iconst (pc := 12) (v := 1) hC dX11_findFelling_12 (by decide) ?_
    refine g_callV_i (pc := 13) (wd := fun (u : St) Y => (wX11 o0 a0 (xy C) u Y)) (F := fun Z => Z) (X := []) (As := [.int (1 : Int32)]) (rest := []) (u := u0) hC (fun _ _ => rfl) (fun _ => rfl) (ctX11_refuse h) wvX11_refuse ml_X11_127 (ci := 9) (q0 := 0) rfl rfl rfl rfl (rmok hR0 rfl) ⟨Nat.zero_le _, Nat.zero_le _⟩ rfl (Nat.le_of_ble_eq_true rfl) dX11_findFelling_13 (fun r_44 u_43 h => ?_)
    exact hR _ _ _ (u_43, u_22) dX11_findFelling_16 h
theorem ctX11_findFelling {l : Launch} {D : va_G} {cy : Nat → ClassId} {kd : Nat → Nat} {o0 : Nat} {a0 : Nat → Nat} {aH : Nat → Nat} {x1 : Int32} {u0 : St} {u1 : St} {post : Int32 → St → St → Prop} (h : qX11_findFelling x1 u0 u1 post) : CtI l D cy kd yX11_findFelling cX11_findFelling 3 5 .int [.ref o0, .int x1] (fun u : St × St => (wX11 o0 a0 cy u.1 (wX2 (a0 7) aH cy u.2 []))) (u0, u1) (fun r u => post r u.1 u.2) := met_i (by decide) (Nat.le_of_ble_eq_true rfl) (fun C e1 e2 e3 e4 e5 hC hR => by subst e1 e2 e3 e4; exact kX11_findFelling hC e5 hR h)
theorem dX11_fewest_0 : decode cX11_fewest 0 = .ok (.aload_n 0, 1) := by decide +kernel
theorem dX11_fewest_1 : decode cX11_fewest 1 = .ok (.iload_n 1, 1) := by decide +kernel
theorem dX11_fewest_2 : decode cX11_fewest 2 = .ok (.invokevirtual 308, 3) := by decide +kernel
theorem dX11_fewest_5 : decode cX11_fewest 5 = .ok (.istore_n 2, 1) := by decide +kernel
theorem dX11_fewest_6 : decode cX11_fewest 6 = .ok (.iload_n 2, 1) := by decide +kernel
theorem dX11_fewest_7 : decode cX11_fewest 7 = .ok (.iconst (-1), 1) := by decide +kernel
theorem dX11_fewest_8 : decode cX11_fewest 8 = .ok (.if_icmp .ne 7, 3) := by decide +kernel
theorem dX11_fewest_11 : decode cX11_fewest 11 = .ok (.iconst (-1), 1) := by decide +kernel
theorem dX11_fewest_12 : decode cX11_fewest 12 = .ok (.goto 7, 3) := by decide +kernel
theorem dX11_fewest_15 : decode cX11_fewest 15 = .ok (.iload_n 2, 1) := by decide +kernel
theorem dX11_fewest_16 : decode cX11_fewest 16 = .ok (.invokestatic 267, 3) := by decide +kernel
theorem dX11_fewest_19 : decode cX11_fewest 19 = .ok (.ireturn, 1) := by decide +kernel
def qX11_fewest_b19   (post : Int32 → St → St → Prop)  (s0 : Int32) (u0 : St) (u1 : St) : Prop := post s0 u0 u1
set_option maxRecDepth 100000 in
set_option maxHeartbeats 4000000 in
theorem kX11_fewest_b19 {C : Cx} {o0 : Nat} {a0 : Nat → Nat} {aH : Nat → Nat} (hC : Fx C cX11_fewest 3 RX11) (hR0 : xR C = rm 6) {post : Int32 → St → St → Prop} (hR : RI C cX11_fewest 3 (fun u : St × St => (wX11 o0 a0 (xy C) u.1 (wX2 (a0 7) aH (xy C) u.2 []))) (fun r u => post r u.1 u.2))  {s0 : Int32} {u0 : St} {u1 : St} (h : qX11_fewest_b19 post s0 u0 u1) : G C 0 0 3 (wX11 o0 a0 (xy C) u0 (wX2 (a0 7) aH (xy C) u1 [])) 19 [] [.int s0] := by
  exact hR _ _ _ (u0, u1) dX11_fewest_19 h
def qX11_fewest  (x1 : Int32) (u0 : St) (u1 : St) (post : Int32 → St → St → Prop) : Prop := qX11_findFelling x1 u0 u1 (fun r_9 u_7 u_8 => ((¬ r_9 = (-1 : Int32) → qJ6_bitCount_0f7a4 r_9 (fun r_12 => qX11_fewest_b19 post r_12 u_7 u_8)) ∧ (r_9 = (-1 : Int32) → qX11_fewest_b19 post (-1 : Int32) u_7 u_8)))
set_option maxRecDepth 100000 in
set_option maxHeartbeats 4000000 in
theorem kX11_fewest {C : Cx} {o0 : Nat} {a0 : Nat → Nat} {aH : Nat → Nat} (hC : Fx C cX11_fewest 3 RX11) (hR0 : xR C = rm 6) {post : Int32 → St → St → Prop} (hR : RI C cX11_fewest 3 (fun u : St × St => (wX11 o0 a0 (xy C) u.1 (wX2 (a0 7) aH (xy C) u.2 []))) (fun r u => post r u.1 u.2)) {x1 : Int32} {u0 : St} {u1 : St} (h : qX11_fewest  x1 u0 u1 post) : G C 0 0 3 (wX11 o0 a0 (xy C) u0 (wX2 (a0 7) aH (xy C) u1 [])) 0 [(0, .ref o0), (1, .int x1)] [] := by
  refine g_aload_n (pc := 0) hC 0 dX11_fewest_0 rfl rfl ?_
  refine g_iload_n (pc := 1) hC 1 dX11_fewest_1 rfl rfl ?_
  refine g_callV_i (pc := 2) (wd := fun (u : St × St) Y => (wX11 o0 a0 (xy C) u.1 (wX2 (a0 7) aH (xy C) u.2 Y))) (F := fun Z => Z) (X := []) (As := [.int x1]) (rest := []) (u := (u0, u1)) hC (fun _ _ => rfl) (fun _ => rfl) (ctX11_findFelling h) wvX11_findFelling ml_X11_308 (ci := 9) (q0 := 0) rfl rfl rfl rfl (rmok hR0 rfl) ⟨Nat.zero_le _, Nat.zero_le _⟩ rfl (Nat.le_of_ble_eq_true rfl) dX11_fewest_2 (fun r_9 u_10 h => ?_)
  obtain ⟨u_7, u_8⟩ := u_10
  refine g_istore_n (pc := 5) (lv' := [(2, .int r_9), (0, .ref o0), (1, .int x1)]) hC dX11_fewest_5 rfl (Nat.le_of_ble_eq_true rfl) rfl ?_
  refine g_iload_n (pc := 6) hC 0 dX11_fewest_6 rfl rfl ?_
  refine g_iconst (pc := 7) (v := -1) hC dX11_fewest_7 (by decide) ?_
  refine g_icmp_ne (pc := 8) (tgt := 15) hC dX11_fewest_8 (by decide) (fun c_11 => ?_) (fun c_11 => ?_)
  · have h := h.1 c_11
    refine g_iload_n (pc := 15) hC 0 dX11_fewest_15 rfl rfl ?_
    refine g_callS_i (pc := 16) (wd := fun (_ : Unit) Y => Y) (F := fun Z => Z) (X := []) (As := [.int r_9]) (rest := []) (u := ()) hC (fun _ _ => rfl) (fun _ => rfl) (ctJ6_bitCount_0f7a4 h) wvJ6_bitCount_0f7a4 ml_X11_267 rfl (rmok hR0 rfl) ⟨Nat.zero_le _, Nat.zero_le _⟩ rfl (Nat.le_of_ble_eq_true rfl) dX11_fewest_16 (fun r_12 u_13 h => ?_)
    refine g_sub (lv' := []) [] rfl ?_
    exact kX11_fewest_b19 hC hR0 hR   h
  · have h := h.2 c_11
    refine g_iconst (pc := 11) (v := -1) hC dX11_fewest_11 (by decide) ?_
    refine g_goto (pc := 12) (tgt := 19) hC dX11_fewest_12 (by decide) ?_
    refine g_sub (lv' := []) [] rfl ?_
    exact kX11_fewest_b19 hC hR0 hR   h
theorem ctX11_fewest {l : Launch} {D : va_G} {cy : Nat → ClassId} {kd : Nat → Nat} {o0 : Nat} {a0 : Nat → Nat} {aH : Nat → Nat} {x1 : Int32} {u0 : St} {u1 : St} {post : Int32 → St → St → Prop} (h : qX11_fewest x1 u0 u1 post) : CtI l D cy kd yX11_fewest cX11_fewest 3 6 .int [.ref o0, .int x1] (fun u : St × St => (wX11 o0 a0 cy u.1 (wX2 (a0 7) aH cy u.2 []))) (u0, u1) (fun r u => post r u.1 u.2) := met_i (by decide) (Nat.le_of_ble_eq_true rfl) (fun C e1 e2 e3 e4 e5 hC hR => by subst e1 e2 e3 e4; exact kX11_fewest hC e5 hR h)
theorem dX11_fewestSet_0 : decode cX11_fewestSet 0 = .ok (.aload_n 0, 1) := by decide +kernel
theorem dX11_fewestSet_1 : decode cX11_fewestSet 1 = .ok (.iload_n 1, 1) := by decide +kernel
theorem dX11_fewestSet_2 : decode cX11_fewestSet 2 = .ok (.invokevirtual 308, 3) := by decide +kernel
theorem dX11_fewestSet_5 : decode cX11_fewestSet 5 = .ok (.ireturn, 1) := by decide +kernel
def qX11_fewestSet  (x1 : Int32) (u0 : St) (u1 : St) (post : Int32 → St → St → Prop) : Prop := qX11_findFelling x1 u0 u1 (fun r_7 u_5 u_6 => post r_7 u_5 u_6)
set_option maxRecDepth 100000 in
set_option maxHeartbeats 4000000 in
theorem kX11_fewestSet {C : Cx} {o0 : Nat} {a0 : Nat → Nat} {aH : Nat → Nat} (hC : Fx C cX11_fewestSet 2 RX11) (hR0 : xR C = rm 6) {post : Int32 → St → St → Prop} (hR : RI C cX11_fewestSet 2 (fun u : St × St => (wX11 o0 a0 (xy C) u.1 (wX2 (a0 7) aH (xy C) u.2 []))) (fun r u => post r u.1 u.2)) {x1 : Int32} {u0 : St} {u1 : St} (h : qX11_fewestSet  x1 u0 u1 post) : G C 0 0 2 (wX11 o0 a0 (xy C) u0 (wX2 (a0 7) aH (xy C) u1 [])) 0 [(0, .ref o0), (1, .int x1)] [] := by
  refine g_aload_n (pc := 0) hC 0 dX11_fewestSet_0 rfl rfl ?_
  refine g_iload_n (pc := 1) hC 1 dX11_fewestSet_1 rfl rfl ?_
  refine g_callV_i (pc := 2) (wd := fun (u : St × St) Y => (wX11 o0 a0 (xy C) u.1 (wX2 (a0 7) aH (xy C) u.2 Y))) (F := fun Z => Z) (X := []) (As := [.int x1]) (rest := []) (u := (u0, u1)) hC (fun _ _ => rfl) (fun _ => rfl) (ctX11_findFelling h) wvX11_findFelling ml_X11_308 (ci := 9) (q0 := 0) rfl rfl rfl rfl (rmok hR0 rfl) ⟨Nat.zero_le _, Nat.zero_le _⟩ rfl (Nat.le_of_ble_eq_true rfl) dX11_fewestSet_2 (fun r_7 u_8 h => ?_)
  obtain ⟨u_5, u_6⟩ := u_8
  exact hR _ _ _ (u_5, u_6) dX11_fewestSet_5 h
theorem ctX11_fewestSet {l : Launch} {D : va_G} {cy : Nat → ClassId} {kd : Nat → Nat} {o0 : Nat} {a0 : Nat → Nat} {aH : Nat → Nat} {x1 : Int32} {u0 : St} {u1 : St} {post : Int32 → St → St → Prop} (h : qX11_fewestSet x1 u0 u1 post) : CtI l D cy kd yX11_fewestSet cX11_fewestSet 2 6 .int [.ref o0, .int x1] (fun u : St × St => (wX11 o0 a0 cy u.1 (wX2 (a0 7) aH cy u.2 []))) (u0, u1) (fun r u => post r u.1 u.2) := met_i (by decide) (Nat.le_of_ble_eq_true rfl) (fun C e1 e2 e3 e4 e5 hC hR => by subst e1 e2 e3 e4; exact kX11_fewestSet hC e5 hR h)
theorem dX11_under_0 : decode cX11_under 0 = .ok (.aload_n 0, 1) := by decide +kernel
theorem dX11_under_1 : decode cX11_under 1 = .ok (.getfield 46, 3) := by decide +kernel
theorem dX11_under_4 : decode cX11_under 4 = .ok (.iload_n 1, 1) := by decide +kernel
theorem dX11_under_5 : decode cX11_under 5 = .ok (.invokevirtual 204, 3) := by decide +kernel
theorem dX11_under_8 : decode cX11_under 8 = .ok (.ifCond .ne 9, 3) := by decide +kernel
theorem dX11_under_11 : decode cX11_under 11 = .ok (.aload_n 0, 1) := by decide +kernel
theorem dX11_under_12 : decode cX11_under 12 = .ok (.iconst 1, 1) := by decide +kernel
theorem dX11_under_13 : decode cX11_under 13 = .ok (.invokevirtual 127, 3) := by decide +kernel
theorem dX11_under_16 : decode cX11_under 16 = .ok (.ireturn, 1) := by decide +kernel
theorem dX11_under_17 : decode cX11_under 17 = .ok (.aload_n 0, 1) := by decide +kernel
theorem dX11_under_18 : decode cX11_under 18 = .ok (.getfield 46, 3) := by decide +kernel
theorem dX11_under_21 : decode cX11_under 21 = .ok (.iload_n 1, 1) := by decide +kernel
theorem dX11_under_22 : decode cX11_under 22 = .ok (.invokevirtual 219, 3) := by decide +kernel
theorem dX11_under_25 : decode cX11_under 25 = .ok (.ifCond .eq 10, 3) := by decide +kernel
theorem dX11_under_28 : decode cX11_under 28 = .ok (.aload_n 0, 1) := by decide +kernel
theorem dX11_under_29 : decode cX11_under 29 = .ok (.bipush 7, 2) := by decide +kernel
theorem dX11_under_31 : decode cX11_under 31 = .ok (.invokevirtual 127, 3) := by decide +kernel
theorem dX11_under_34 : decode cX11_under 34 = .ok (.ireturn, 1) := by decide +kernel
theorem dX11_under_35 : decode cX11_under 35 = .ok (.aload_n 0, 1) := by decide +kernel
theorem dX11_under_36 : decode cX11_under 36 = .ok (.aload_n 0, 1) := by decide +kernel
theorem dX11_under_37 : decode cX11_under 37 = .ok (.getfield 46, 3) := by decide +kernel
theorem dX11_under_40 : decode cX11_under 40 = .ok (.invokevirtual 188, 3) := by decide +kernel
theorem dX11_under_43 : decode cX11_under 43 = .ok (.aload_n 0, 1) := by decide +kernel
theorem dX11_under_44 : decode cX11_under 44 = .ok (.getfield 46, 3) := by decide +kernel
theorem dX11_under_47 : decode cX11_under 47 = .ok (.iconst 0, 1) := by decide +kernel
theorem dX11_under_48 : decode cX11_under 48 = .ok (.iconst 1, 1) := by decide +kernel
theorem dX11_under_49 : decode cX11_under 49 = .ok (.iload_n 1, 1) := by decide +kernel
theorem dX11_under_50 : decode cX11_under 50 = .ok (.ishl, 1) := by decide +kernel
theorem dX11_under_51 : decode cX11_under 51 = .ok (.invokevirtual 311, 3) := by decide +kernel
theorem dX11_under_54 : decode cX11_under 54 = .ok (.iconst (-1), 1) := by decide +kernel
theorem dX11_under_55 : decode cX11_under 55 = .ok (.ixor, 1) := by decide +kernel
theorem dX11_under_56 : decode cX11_under 56 = .ok (.iand, 1) := by decide +kernel
theorem dX11_under_57 : decode cX11_under 57 = .ok (.invokevirtual 166, 3) := by decide +kernel
theorem dX11_under_60 : decode cX11_under 60 = .ok (.ireturn, 1) := by decide +kernel
def qX11_under  (x1 : Int32) (u0 : St) (u1 : St) (post : Int32 → St → St → Prop) : Prop := qX2_isStone x1 u1 (fun r_23 u_22 => ((¬ r_23 = 0 → qX2_hasFallen x1 u_22 (fun r_27 u_26 => ((r_27 = 0 → qX2_standingNow u_26 (fun r_31 u_30 => qX2_standing (0 : Int32) ((1 : Int32) <<< (x1 &&& 31)) u_30 (fun r_34 u_33 => qX11_answer (r_31 &&& (r_34 ^^^ (-1 : Int32))) u0 (fun r_37 u_36 => post r_37 u_36 u_33)))) ∧ (¬ r_27 = 0 → qX11_refuse (7 : Int32) u0 (fun r_40 u_39 => post r_40 u_39 u_26))))) ∧ (r_23 = 0 → qX11_refuse (1 : Int32) u0 (fun r_43 u_42 => post r_43 u_42 u_22))))
set_option maxRecDepth 100000 in
set_option maxHeartbeats 4000000 in
theorem kX11_under {C : Cx} {o0 : Nat} {a0 : Nat → Nat} {aH : Nat → Nat} (hC : Fx C cX11_under 2 RX11) (hR0 : xR C = rm 3) {post : Int32 → St → St → Prop} (hR : RI C cX11_under 2 (fun u : St × St => (wX11 o0 a0 (xy C) u.1 (wX2 (a0 7) aH (xy C) u.2 []))) (fun r u => post r u.1 u.2)) {x1 : Int32} {u0 : St} {u1 : St} (h : qX11_under  x1 u0 u1 post) : G C 0 0 2 (wX11 o0 a0 (xy C) u0 (wX2 (a0 7) aH (xy C) u1 [])) 0 [(0, .ref o0), (1, .int x1)] [] := by
  refine g_aload_n (pc := 0) hC 0 dX11_under_0 rfl rfl ?_
  refine getX11_7 (pc := 1) hC (F := fun Z => Z) (X := []) (fun _ => rfl) fl_X11_46 dX11_under_1 ?_
  refine g_iload_n (pc := 4) hC 1 dX11_under_4 rfl rfl ?_
  refine g_callV_i (pc := 5) (wd := fun (u : St) Y => (wX2 (a0 7) aH (xy C) u Y)) (F := fun Z => (wX11 o0 a0 (xy C) u0 Z)) (X := (wX11 o0 a0 (xy C) u0 [])) (As := [.int x1]) (rest := []) (u := u1) hC (fun _ _ => rfl) (fun _ => rfl) (ctX2_isStone h) wvX2_isStone ml_X11_204 (ci := 1) (q0 := 0) rfl rfl rfl rfl (rmok hR0 rfl) ⟨Nat.zero_le _, Nat.zero_le _⟩ rfl (Nat.le_of_ble_eq_true rfl) dX11_under_5 (fun r_23 u_22 h => ?_)
  refine g_if_ne (pc := 8) (tgt := 17) hC dX11_under_8 (by decide) (fun c_25 => ?_) (fun c_25 => ?_)
  · have h := h.1 c_25
    refine g_aload_n (pc := 17) hC 0 dX11_under_17 rfl rfl ?_
    refine getX11_7 (pc := 18) hC (F := fun Z => Z) (X := []) (fun _ => rfl) fl_X11_46 dX11_under_18 ?_
    refine g_iload_n (pc := 21) hC 1 dX11_under_21 rfl rfl ?_
    refine g_callV_i (pc := 22) (wd := fun (u : St) Y => (wX2 (a0 7) aH (xy C) u Y)) (F := fun Z => (wX11 o0 a0 (xy C) u0 Z)) (X := (wX11 o0 a0 (xy C) u0 [])) (As := [.int x1]) (rest := []) (u := u_22) hC (fun _ _ => rfl) (fun _ => rfl) (ctX2_hasFallen h) wvX2_hasFallen ml_X11_219 (ci := 1) (q0 := 0) rfl rfl rfl rfl (rmok hR0 rfl) ⟨Nat.zero_le _, Nat.zero_le _⟩ rfl (Nat.le_of_ble_eq_true rfl) dX11_under_22 (fun r_27 u_26 h => ?_)
    refine g_if_eq (pc := 25) (tgt := 35) hC dX11_under_25 (by decide) (fun c_29 => ?_) (fun c_29 => ?_)
    · have h := h.1 c_29
      refine g_aload_n (pc := 35) hC 0 dX11_under_35 rfl rfl ?_
      refine g_aload_n (pc := 36) hC 0 dX11_under_36 rfl rfl ?_
      refine getX11_7 (pc := 37) hC (F := fun Z => Z) (X := []) (fun _ => rfl) fl_X11_46 dX11_under_37 ?_
      refine g_callV_i (pc := 40) (wd := fun (u : St) Y => (wX2 (a0 7) aH (xy C) u Y)) (F := fun Z => (wX11 o0 a0 (xy C) u0 Z)) (X := (wX11 o0 a0 (xy C) u0 [])) (As := []) (rest := [.ref o0]) (u := u_26) hC (fun _ _ => rfl) (fun _ => rfl) (ctX2_standingNow h) wvX2_standingNow ml_X11_188 (ci := 1) (q0 := 0) rfl rfl rfl rfl (rmok hR0 rfl) ⟨Nat.zero_le _, Nat.zero_le _⟩ rfl (Nat.le_of_ble_eq_true rfl) dX11_under_40 (fun r_31 u_30 h => ?_)
      refine g_aload_n (pc := 43) hC 0 dX11_under_43 rfl rfl ?_
      refine getX11_7 (pc := 44) hC (F := fun Z => Z) (X := []) (fun _ => rfl) fl_X11_46 dX11_under_44 ?_
      refine g_iconst (pc := 47) (v := 0) hC dX11_under_47 (by decide) ?_
      refine g_iconst (pc := 48) (v := 1) hC dX11_under_48 (by decide) ?_
      refine g_iload_n (pc := 49) hC 1 dX11_under_49 rfl rfl ?_
      refine g_ishl (pc := 50) hC dX11_under_50 ?_
      refine g_callV_i (pc := 51) (wd := fun (u : St) Y => (wX2 (a0 7) aH (xy C) u Y)) (F := fun Z => (wX11 o0 a0 (xy C) u0 Z)) (X := (wX11 o0 a0 (xy C) u0 [])) (As := [.int (0 : Int32), .int ((1 : Int32) <<< (x1 &&& 31))]) (rest := [.int r_31, .ref o0]) (u := u_30) hC (fun _ _ => rfl) (fun _ => rfl) (ctX2_standing h) wvX2_standing ml_X11_311 (ci := 1) (q0 := 0) rfl rfl rfl rfl (rmok hR0 rfl) ⟨Nat.zero_le _, Nat.zero_le _⟩ rfl (Nat.le_of_ble_eq_true rfl) dX11_under_51 (fun r_34 u_33 h => ?_)
      refine g_iconst (pc := 54) (v := -1) hC dX11_under_54 (by decide) ?_
      refine g_ixor (pc := 55) hC dX11_under_55 ?_
      refine g_iand (pc := 56) hC dX11_under_56 ?_
      refine g_callV_i (pc := 57) (wd := fun (u : St) Y => (wX11 o0 a0 (xy C) u Y)) (F := fun Z => Z) (X := []) (As := [.int (r_31 &&& (r_34 ^^^ (-1 : Int32)))]) (rest := []) (u := u0) hC (fun _ _ => rfl) (fun _ => rfl) (ctX11_answer h) wvX11_answer ml_X11_166 (ci := 9) (q0 := 0) rfl rfl rfl rfl (rmok hR0 rfl) ⟨Nat.zero_le _, Nat.zero_le _⟩ rfl (Nat.le_of_ble_eq_true rfl) dX11_under_57 (fun r_37 u_36 h => ?_)
      exact hR _ _ _ (u_36, u_33) dX11_under_60 h
    · have h := h.2 c_29
      refine g_aload_n (pc := 28) hC 0 dX11_under_28 rfl rfl ?_
      refine g_bipush (pc := 29) (v := 7) hC dX11_under_29 (by decide) ?_
      refine g_callV_i (pc := 31) (wd := fun (u : St) Y => (wX11 o0 a0 (xy C) u Y)) (F := fun Z => Z) (X := []) (As := [.int (7 : Int32)]) (rest := []) (u := u0) hC (fun _ _ => rfl) (fun _ => rfl) (ctX11_refuse h) wvX11_refuse ml_X11_127 (ci := 9) (q0 := 0) rfl rfl rfl rfl (rmok hR0 rfl) ⟨Nat.zero_le _, Nat.zero_le _⟩ rfl (Nat.le_of_ble_eq_true rfl) dX11_under_31 (fun r_40 u_39 h => ?_)
      exact hR _ _ _ (u_39, u_26) dX11_under_34 h
  · have h := h.2 c_25
    refine g_aload_n (pc := 11) hC 0 dX11_under_11 rfl rfl ?_
    refine g_iconst (pc := 12) (v := 1) hC dX11_under_12 (by decide) ?_
    refine g_callV_i (pc := 13) (wd := fun (u : St) Y => (wX11 o0 a0 (xy C) u Y)) (F := fun Z => Z) (X := []) (As := [.int (1 : Int32)]) (rest := []) (u := u0) hC (fun _ _ => rfl) (fun _ => rfl) (ctX11_refuse h) wvX11_refuse ml_X11_127 (ci := 9) (q0 := 0) rfl rfl rfl rfl (rmok hR0 rfl) ⟨Nat.zero_le _, Nat.zero_le _⟩ rfl (Nat.le_of_ble_eq_true rfl) dX11_under_13 (fun r_43 u_42 h => ?_)
    exact hR _ _ _ (u_42, u_22) dX11_under_16 h
theorem ctX11_under {l : Launch} {D : va_G} {cy : Nat → ClassId} {kd : Nat → Nat} {o0 : Nat} {a0 : Nat → Nat} {aH : Nat → Nat} {x1 : Int32} {u0 : St} {u1 : St} {post : Int32 → St → St → Prop} (h : qX11_under x1 u0 u1 post) : CtI l D cy kd yX11_under cX11_under 2 3 .int [.ref o0, .int x1] (fun u : St × St => (wX11 o0 a0 cy u.1 (wX2 (a0 7) aH cy u.2 []))) (u0, u1) (fun r u => post r u.1 u.2) := met_i (by decide) (Nat.le_of_ble_eq_true rfl) (fun C e1 e2 e3 e4 e5 hC hR => by subst e1 e2 e3 e4; exact kX11_under hC e5 hR h)
theorem dX11_chain_0 : decode cX11_chain 0 = .ok (.iload_n 1, 1) := by decide +kernel
theorem dX11_chain_1 : decode cX11_chain 1 = .ok (.iconst 0, 1) := by decide +kernel
theorem dX11_chain_2 : decode cX11_chain 2 = .ok (.iconst 1, 1) := by decide +kernel
theorem dX11_chain_3 : decode cX11_chain 3 = .ok (.invokestatic 104, 3) := by decide +kernel
theorem dX11_chain_6 : decode cX11_chain 6 = .ok (.ifCond .ne 9, 3) := by decide +kernel
theorem dX11_chain_9 : decode cX11_chain 9 = .ok (.aload_n 0, 1) := by decide +kernel
theorem dX11_chain_10 : decode cX11_chain 10 = .ok (.iconst 1, 1) := by decide +kernel
theorem dX11_chain_11 : decode cX11_chain 11 = .ok (.invokevirtual 127, 3) := by decide +kernel
theorem dX11_chain_14 : decode cX11_chain 14 = .ok (.ireturn, 1) := by decide +kernel
theorem dX11_chain_15 : decode cX11_chain 15 = .ok (.aload_n 0, 1) := by decide +kernel
theorem dX11_chain_16 : decode cX11_chain 16 = .ok (.getfield 89, 3) := by decide +kernel
theorem dX11_chain_19 : decode cX11_chain 19 = .ok (.aload_n 0, 1) := by decide +kernel
theorem dX11_chain_20 : decode cX11_chain 20 = .ok (.getfield 46, 3) := by decide +kernel
theorem dX11_chain_23 : decode cX11_chain 23 = .ok (.iload_n 1, 1) := by decide +kernel
theorem dX11_chain_24 : decode cX11_chain 24 = .ok (.iconst 1, 1) := by decide +kernel
theorem dX11_chain_25 : decode cX11_chain 25 = .ok (.if_icmp .ne 7, 3) := by decide +kernel
theorem dX11_chain_28 : decode cX11_chain 28 = .ok (.iconst 1, 1) := by decide +kernel
theorem dX11_chain_29 : decode cX11_chain 29 = .ok (.goto 4, 3) := by decide +kernel
theorem dX11_chain_32 : decode cX11_chain 32 = .ok (.iconst 0, 1) := by decide +kernel
theorem dX11_chain_33 : decode cX11_chain 33 = .ok (.invokevirtual 314, 3) := by decide +kernel
theorem dX11_chain_36 : decode cX11_chain 36 = .ok (.aload_n 0, 1) := by decide +kernel
theorem dX11_chain_37 : decode cX11_chain 37 = .ok (.aload_n 0, 1) := by decide +kernel
theorem dX11_chain_38 : decode cX11_chain 38 = .ok (.getfield 89, 3) := by decide +kernel
theorem dX11_chain_41 : decode cX11_chain 41 = .ok (.getfield 318, 3) := by decide +kernel
theorem dX11_chain_44 : decode cX11_chain 44 = .ok (.invokevirtual 166, 3) := by decide +kernel
theorem dX11_chain_47 : decode cX11_chain 47 = .ok (.ireturn, 1) := by decide +kernel
def qX11_chain_b33   (post : Int32 → St → St → St → Prop)  (s0 : Int32) (u0 : St) (u1 : St) (u2 : St) : Prop := qX0_find s0 u2 u1 (fun u_12 u_13 => qX11_answer (gi u_12 1) u0 (fun r_16 u_15 => post r_16 u_15 u_13 u_12))
set_option maxRecDepth 100000 in
set_option maxHeartbeats 4000000 in
theorem kX11_chain_b33 {C : Cx} {o0 : Nat} {a0 : Nat → Nat} {aH : Nat → Nat} {aC : Nat → Nat} (hC : Fx C cX11_chain 2 RX11) (hR0 : xR C = rm 22) {post : Int32 → St → St → St → Prop} (hR : RI C cX11_chain 2 (fun u : St × St × St => (wX11 o0 a0 (xy C) u.1 (wX2 (a0 7) aH (xy C) u.2.1 (wX0 (a0 16) aC (xy C) u.2.2 [])))) (fun r u => post r u.1 u.2.1 u.2.2))  {s0 : Int32} {u0 : St} {u1 : St} {u2 : St} (h : qX11_chain_b33 post s0 u0 u1 u2) : G C 0 0 2 (wX11 o0 a0 (xy C) u0 (wX2 (a0 7) aH (xy C) u1 (wX0 (a0 16) aC (xy C) u2 []))) 33 [(0, .ref o0)] [.int s0, .ref (a0 7), .ref (a0 16)] := by
  refine g_swap (F := fun Z => (wX11 o0 a0 (xy C) u0 Z)) (X := (wX11 o0 a0 (xy C) u0 [])) (f := fun Z => (wX2 (a0 7) aH (xy C) u1 Z)) (g := fun Z => (wX0 (a0 16) aC (xy C) u2 Z)) (Y := []) (fun _ => rfl) (fun _ => rfl) (fun _ => rfl) ?_
  refine g_callV_v (pc := 33) (wd := fun (u : St × St) Y => (wX0 (a0 16) aC (xy C) u.1 (wX2 (a0 7) aH (xy C) u.2 Y))) (F := fun Z => (wX11 o0 a0 (xy C) u0 Z)) (X := (wX11 o0 a0 (xy C) u0 [])) (As := [.ref (a0 7), .int s0]) (rest := []) (u := (u2, u1)) hC (fun _ _ => rfl) (fun _ => rfl) (ctX0_find h) wvX0_find ml_X11_314 (ci := 0) (q0 := 0) rfl rfl rfl rfl (rmok hR0 rfl) ⟨Nat.zero_le _, Nat.zero_le _⟩ rfl (Nat.le_of_ble_eq_true rfl) dX11_chain_33 (fun u_14 h => ?_)
  obtain ⟨u_12, u_13⟩ := u_14
  refine g_aload_n (pc := 36) hC 0 dX11_chain_36 rfl rfl ?_
  refine g_aload_n (pc := 37) hC 0 dX11_chain_37 rfl rfl ?_
  refine getX11_16 (pc := 38) hC (F := fun Z => Z) (X := []) (fun _ => rfl) fl_X11_89 dX11_chain_38 ?_
  refine getX0_1 (pc := 41) hC (F := fun Z => (wX11 o0 a0 (xy C) u0 Z)) (X := (wX11 o0 a0 (xy C) u0 [])) (fun _ => rfl) fl_X11_318 dX11_chain_41 ?_
  refine g_callV_i (pc := 44) (wd := fun (u : St) Y => (wX11 o0 a0 (xy C) u Y)) (F := fun Z => Z) (X := []) (As := [.int (gi u_12 1)]) (rest := []) (u := u0) hC (fun _ _ => rfl) (fun _ => rfl) (ctX11_answer h) wvX11_answer ml_X11_166 (ci := 9) (q0 := 0) rfl rfl rfl rfl (rmok hR0 rfl) ⟨Nat.zero_le _, Nat.zero_le _⟩ rfl (Nat.le_of_ble_eq_true rfl) dX11_chain_44 (fun r_16 u_15 h => ?_)
  refine g_swap (F := fun Z => (wX11 o0 a0 (xy C) u_15 Z)) (X := (wX11 o0 a0 (xy C) u_15 [])) (f := fun Z => (wX0 (a0 16) aC (xy C) u_12 Z)) (g := fun Z => (wX2 (a0 7) aH (xy C) u_13 Z)) (Y := []) (fun _ => rfl) (fun _ => rfl) (fun _ => rfl) ?_
  exact hR _ _ _ (u_15, u_13, u_12) dX11_chain_47 h
def qX11_chain  (x1 : Int32) (u0 : St) (u1 : St) (u2 : St) (post : Int32 → St → St → St → Prop) : Prop := qX11_within x1 (0 : Int32) (1 : Int32) (fun r_18 => ((¬ r_18 = 0 → ((¬ x1 = (1 : Int32) → qX11_chain_b33 post (0 : Int32) u0 u1 u2) ∧ (x1 = (1 : Int32) → qX11_chain_b33 post (1 : Int32) u0 u1 u2))) ∧ (r_18 = 0 → qX11_refuse (1 : Int32) u0 (fun r_23 u_22 => post r_23 u_22 u1 u2))))
set_option maxRecDepth 100000 in
set_option maxHeartbeats 4000000 in
theorem kX11_chain {C : Cx} {o0 : Nat} {a0 : Nat → Nat} {aH : Nat → Nat} {aC : Nat → Nat} (hC : Fx C cX11_chain 2 RX11) (hR0 : xR C = rm 22) {post : Int32 → St → St → St → Prop} (hR : RI C cX11_chain 2 (fun u : St × St × St => (wX11 o0 a0 (xy C) u.1 (wX2 (a0 7) aH (xy C) u.2.1 (wX0 (a0 16) aC (xy C) u.2.2 [])))) (fun r u => post r u.1 u.2.1 u.2.2)) {x1 : Int32} {u0 : St} {u1 : St} {u2 : St} (h : qX11_chain  x1 u0 u1 u2 post) : G C 0 0 2 (wX11 o0 a0 (xy C) u0 (wX2 (a0 7) aH (xy C) u1 (wX0 (a0 16) aC (xy C) u2 []))) 0 [(0, .ref o0), (1, .int x1)] [] := by
  refine g_iload_n (pc := 0) hC 1 dX11_chain_0 rfl rfl ?_
  refine g_iconst (pc := 1) (v := 0) hC dX11_chain_1 (by decide) ?_
  refine g_iconst (pc := 2) (v := 1) hC dX11_chain_2 (by decide) ?_
  refine g_callS_i (pc := 3) (wd := fun (_ : Unit) Y => Y) (F := fun Z => Z) (X := []) (As := [.int x1, .int (0 : Int32), .int (1 : Int32)]) (rest := []) (u := ()) hC (fun _ _ => rfl) (fun _ => rfl) (ctX11_within h) wvX11_within ml_X11_104 rfl (rmok hR0 rfl) ⟨Nat.zero_le _, Nat.zero_le _⟩ rfl (Nat.le_of_ble_eq_true rfl) dX11_chain_3 (fun r_18 u_19 h => ?_)
  refine g_if_ne (pc := 6) (tgt := 15) hC dX11_chain_6 (by decide) (fun c_20 => ?_) (fun c_20 => ?_)
  · have h := h.1 c_20
    refine g_aload_n (pc := 15) hC 0 dX11_chain_15 rfl rfl ?_
    refine getX11_16 (pc := 16) hC (F := fun Z => Z) (X := []) (fun _ => rfl) fl_X11_89 dX11_chain_16 ?_
    refine g_aload_n (pc := 19) hC 0 dX11_chain_19 rfl rfl ?_
    refine getX11_7 (pc := 20) hC (F := fun Z => Z) (X := []) (fun _ => rfl) fl_X11_46 dX11_chain_20 ?_
    refine g_iload_n (pc := 23) hC 1 dX11_chain_23 rfl rfl ?_
    refine g_iconst (pc := 24) (v := 1) hC dX11_chain_24 (by decide) ?_
    refine g_icmp_ne (pc := 25) (tgt := 32) hC dX11_chain_25 (by decide) (fun c_21 => ?_) (fun c_21 => ?_)
    · have h := h.1 c_21
      refine g_iconst (pc := 32) (v := 0) hC dX11_chain_32 (by decide) ?_
      refine g_sub (lv' := [(0, .ref o0)]) [0] rfl ?_
      exact kX11_chain_b33 hC hR0 hR   h
    · have h := h.2 c_21
      refine g_iconst (pc := 28) (v := 1) hC dX11_chain_28 (by decide) ?_
      refine g_goto (pc := 29) (tgt := 33) hC dX11_chain_29 (by decide) ?_
      refine g_sub (lv' := [(0, .ref o0)]) [0] rfl ?_
      exact kX11_chain_b33 hC hR0 hR   h
  · have h := h.2 c_20
    refine g_aload_n (pc := 9) hC 0 dX11_chain_9 rfl rfl ?_
    refine g_iconst (pc := 10) (v := 1) hC dX11_chain_10 (by decide) ?_
    refine g_callV_i (pc := 11) (wd := fun (u : St) Y => (wX11 o0 a0 (xy C) u Y)) (F := fun Z => Z) (X := []) (As := [.int (1 : Int32)]) (rest := []) (u := u0) hC (fun _ _ => rfl) (fun _ => rfl) (ctX11_refuse h) wvX11_refuse ml_X11_127 (ci := 9) (q0 := 0) rfl rfl rfl rfl (rmok hR0 rfl) ⟨Nat.zero_le _, Nat.zero_le _⟩ rfl (Nat.le_of_ble_eq_true rfl) dX11_chain_11 (fun r_23 u_22 h => ?_)
    exact hR _ _ _ (u_22, u1, u2) dX11_chain_14 h
theorem ctX11_chain {l : Launch} {D : va_G} {cy : Nat → ClassId} {kd : Nat → Nat} {o0 : Nat} {a0 : Nat → Nat} {aH : Nat → Nat} {aC : Nat → Nat} {x1 : Int32} {u0 : St} {u1 : St} {u2 : St} {post : Int32 → St → St → St → Prop} (h : qX11_chain x1 u0 u1 u2 post) : CtI l D cy kd yX11_chain cX11_chain 2 22 .int [.ref o0, .int x1] (fun u : St × St × St => (wX11 o0 a0 cy u.1 (wX2 (a0 7) aH cy u.2.1 (wX0 (a0 16) aC cy u.2.2 [])))) (u0, u1, u2) (fun r u => post r u.1 u.2.1 u.2.2) := met_i (by decide) (Nat.le_of_ble_eq_true rfl) (fun C e1 e2 e3 e4 e5 hC hR => by subst e1 e2 e3 e4; exact kX11_chain hC e5 hR h)
