/-! IvyHouse -/
theorem dX11_chainAt_0 : decode cX11_chainAt 0 = .ok (.iload_n 1, 1) := by decide +kernel
theorem dX11_chainAt_1 : decode cX11_chainAt 1 = .ok (.iconst 0, 1) := by decide +kernel
theorem dX11_chainAt_2 : decode cX11_chainAt 2 = .ok (.iconst 1, 1) := by decide +kernel
theorem dX11_chainAt_3 : decode cX11_chainAt 3 = .ok (.invokestatic 104, 3) := by decide +kernel
theorem dX11_chainAt_6 : decode cX11_chainAt 6 = .ok (.ifCond .eq 7, 3) := by decide +kernel
theorem dX11_chainAt_9 : decode cX11_chainAt 9 = .ok (.iload_n 2, 1) := by decide +kernel
theorem dX11_chainAt_10 : decode cX11_chainAt 10 = .ok (.ifCond .ge 9, 3) := by decide +kernel
theorem dX11_chainAt_13 : decode cX11_chainAt 13 = .ok (.aload_n 0, 1) := by decide +kernel
theorem dX11_chainAt_14 : decode cX11_chainAt 14 = .ok (.iconst 1, 1) := by decide +kernel
theorem dX11_chainAt_15 : decode cX11_chainAt 15 = .ok (.invokevirtual 127, 3) := by decide +kernel
theorem dX11_chainAt_18 : decode cX11_chainAt 18 = .ok (.ireturn, 1) := by decide +kernel
theorem dX11_chainAt_19 : decode cX11_chainAt 19 = .ok (.aload_n 0, 1) := by decide +kernel
theorem dX11_chainAt_20 : decode cX11_chainAt 20 = .ok (.getfield 89, 3) := by decide +kernel
theorem dX11_chainAt_23 : decode cX11_chainAt 23 = .ok (.aload_n 0, 1) := by decide +kernel
theorem dX11_chainAt_24 : decode cX11_chainAt 24 = .ok (.getfield 46, 3) := by decide +kernel
theorem dX11_chainAt_27 : decode cX11_chainAt 27 = .ok (.iload_n 1, 1) := by decide +kernel
theorem dX11_chainAt_28 : decode cX11_chainAt 28 = .ok (.iconst 1, 1) := by decide +kernel
theorem dX11_chainAt_29 : decode cX11_chainAt 29 = .ok (.if_icmp .ne 7, 3) := by decide +kernel
theorem dX11_chainAt_32 : decode cX11_chainAt 32 = .ok (.iconst 1, 1) := by decide +kernel
theorem dX11_chainAt_33 : decode cX11_chainAt 33 = .ok (.goto 4, 3) := by decide +kernel
theorem dX11_chainAt_36 : decode cX11_chainAt 36 = .ok (.iconst 0, 1) := by decide +kernel
theorem dX11_chainAt_37 : decode cX11_chainAt 37 = .ok (.invokevirtual 314, 3) := by decide +kernel
theorem dX11_chainAt_40 : decode cX11_chainAt 40 = .ok (.iload_n 2, 1) := by decide +kernel
theorem dX11_chainAt_41 : decode cX11_chainAt 41 = .ok (.aload_n 0, 1) := by decide +kernel
theorem dX11_chainAt_42 : decode cX11_chainAt 42 = .ok (.getfield 89, 3) := by decide +kernel
theorem dX11_chainAt_45 : decode cX11_chainAt 45 = .ok (.getfield 318, 3) := by decide +kernel
theorem dX11_chainAt_48 : decode cX11_chainAt 48 = .ok (.if_icmp .lt 10, 3) := by decide +kernel
theorem dX11_chainAt_51 : decode cX11_chainAt 51 = .ok (.aload_n 0, 1) := by decide +kernel
theorem dX11_chainAt_52 : decode cX11_chainAt 52 = .ok (.bipush 6, 2) := by decide +kernel
theorem dX11_chainAt_54 : decode cX11_chainAt 54 = .ok (.invokevirtual 127, 3) := by decide +kernel
theorem dX11_chainAt_57 : decode cX11_chainAt 57 = .ok (.ireturn, 1) := by decide +kernel
theorem dX11_chainAt_58 : decode cX11_chainAt 58 = .ok (.aload_n 0, 1) := by decide +kernel
theorem dX11_chainAt_59 : decode cX11_chainAt 59 = .ok (.aload_n 0, 1) := by decide +kernel
theorem dX11_chainAt_60 : decode cX11_chainAt 60 = .ok (.getfield 89, 3) := by decide +kernel
theorem dX11_chainAt_63 : decode cX11_chainAt 63 = .ok (.getfield 321, 3) := by decide +kernel
theorem dX11_chainAt_66 : decode cX11_chainAt 66 = .ok (.iload_n 2, 1) := by decide +kernel
theorem dX11_chainAt_67 : decode cX11_chainAt 67 = .ok (.iaload, 1) := by decide +kernel
theorem dX11_chainAt_68 : decode cX11_chainAt 68 = .ok (.invokevirtual 166, 3) := by decide +kernel
theorem dX11_chainAt_71 : decode cX11_chainAt 71 = .ok (.ireturn, 1) := by decide +kernel
def qX11_chainAt_b13   (post : Int32 → St → St → St → Prop)  (u0 : St) (u1 : St) (u2 : St) : Prop := qX11_refuse (1 : Int32) u0 (fun r_16 u_15 => post r_16 u_15 u1 u2)
set_option maxRecDepth 100000 in
set_option maxHeartbeats 4000000 in
theorem kX11_chainAt_b13 {C : Cx} {o0 : Nat} {a0 : Nat → Nat} {aH : Nat → Nat} {aC : Nat → Nat} (hC : Fx C cX11_chainAt 3 RX11) (hR0 : xR C = rm 22) {post : Int32 → St → St → St → Prop} (hR : RI C cX11_chainAt 3 (fun u : St × St × St => (wX11 o0 a0 (xy C) u.1 (wX2 (a0 7) aH (xy C) u.2.1 (wX0 (a0 16) aC (xy C) u.2.2 [])))) (fun r u => post r u.1 u.2.1 u.2.2))  {u0 : St} {u1 : St} {u2 : St} (h : qX11_chainAt_b13 post u0 u1 u2) : G C 0 0 3 (wX11 o0 a0 (xy C) u0 (wX2 (a0 7) aH (xy C) u1 (wX0 (a0 16) aC (xy C) u2 []))) 13 [(0, .ref o0)] [] := by
  refine g_aload_n (pc := 13) hC 0 dX11_chainAt_13 rfl rfl ?_
  refine g_iconst (pc := 14) (v := 1) hC dX11_chainAt_14 (by decide) ?_
  refine g_callV_i (pc := 15) (wd := fun (u : St) Y => (wX11 o0 a0 (xy C) u Y)) (F := fun Z => Z) (X := []) (As := [.int (1 : Int32)]) (rest := []) (u := u0) hC (fun _ _ => rfl) (fun _ => rfl) (ctX11_refuse h) wvX11_refuse ml_X11_127 (ci := 9) (q0 := 0) rfl rfl rfl rfl (rmok hR0 rfl) ⟨Nat.zero_le _, Nat.zero_le _⟩ rfl (Nat.le_of_ble_eq_true rfl) dX11_chainAt_15 (fun r_16 u_15 h => ?_)
  exact hR _ _ _ (u_15, u1, u2) dX11_chainAt_18 h
def qX11_chainAt_b37   (post : Int32 → St → St → St → Prop)  (x2 : Int32) (s0 : Int32) (u0 : St) (u1 : St) (u2 : St) : Prop := qX0_find s0 u2 u1 (fun u_18 u_19 => ((x2 < (gi u_18 1) → (vp_in x2 7 ∧ qX11_answer (ga u_18 0 (x2).toNatClampNeg) u0 (fun r_23 u_22 => post r_23 u_22 u_19 u_18))) ∧ (¬ x2 < (gi u_18 1) → qX11_refuse (6 : Int32) u0 (fun r_26 u_25 => post r_26 u_25 u_19 u_18))))
set_option maxRecDepth 100000 in
set_option maxHeartbeats 4000000 in
theorem kX11_chainAt_b37 {C : Cx} {o0 : Nat} {a0 : Nat → Nat} {aH : Nat → Nat} {aC : Nat → Nat} (hC : Fx C cX11_chainAt 3 RX11) (hR0 : xR C = rm 22) {post : Int32 → St → St → St → Prop} (hR : RI C cX11_chainAt 3 (fun u : St × St × St => (wX11 o0 a0 (xy C) u.1 (wX2 (a0 7) aH (xy C) u.2.1 (wX0 (a0 16) aC (xy C) u.2.2 [])))) (fun r u => post r u.1 u.2.1 u.2.2))  {x2 : Int32} {s0 : Int32} {u0 : St} {u1 : St} {u2 : St} (h : qX11_chainAt_b37 post x2 s0 u0 u1 u2) : G C 0 0 3 (wX11 o0 a0 (xy C) u0 (wX2 (a0 7) aH (xy C) u1 (wX0 (a0 16) aC (xy C) u2 []))) 37 [(0, .ref o0), (2, .int x2)] [.int s0, .ref (a0 7), .ref (a0 16)] := by
  refine g_swap (F := fun Z => (wX11 o0 a0 (xy C) u0 Z)) (X := (wX11 o0 a0 (xy C) u0 [])) (f := fun Z => (wX2 (a0 7) aH (xy C) u1 Z)) (g := fun Z => (wX0 (a0 16) aC (xy C) u2 Z)) (Y := []) (fun _ => rfl) (fun _ => rfl) (fun _ => rfl) ?_
  refine g_callV_v (pc := 37) (wd := fun (u : St × St) Y => (wX0 (a0 16) aC (xy C) u.1 (wX2 (a0 7) aH (xy C) u.2 Y))) (F := fun Z => (wX11 o0 a0 (xy C) u0 Z)) (X := (wX11 o0 a0 (xy C) u0 [])) (As := [.ref (a0 7), .int s0]) (rest := []) (u := (u2, u1)) hC (fun _ _ => rfl) (fun _ => rfl) (ctX0_find h) wvX0_find ml_X11_314 (ci := 0) (q0 := 0) rfl rfl rfl rfl (rmok hR0 rfl) ⟨Nat.zero_le _, Nat.zero_le _⟩ rfl (Nat.le_of_ble_eq_true rfl) dX11_chainAt_37 (fun u_20 h => ?_)
  obtain ⟨u_18, u_19⟩ := u_20
  refine g_iload_n (pc := 40) hC 1 dX11_chainAt_40 rfl rfl ?_
  refine g_aload_n (pc := 41) hC 0 dX11_chainAt_41 rfl rfl ?_
  refine getX11_16 (pc := 42) hC (F := fun Z => Z) (X := []) (fun _ => rfl) fl_X11_89 dX11_chainAt_42 ?_
  refine getX0_1 (pc := 45) hC (F := fun Z => (wX11 o0 a0 (xy C) u0 Z)) (X := (wX11 o0 a0 (xy C) u0 [])) (fun _ => rfl) fl_X11_318 dX11_chainAt_45 ?_
  refine g_icmp_lt (pc := 48) (tgt := 58) hC dX11_chainAt_48 (by decide) (fun c_21 => ?_) (fun c_21 => ?_)
  · have h := h.1 c_21
    refine g_aload_n (pc := 58) hC 0 dX11_chainAt_58 rfl rfl ?_
    refine g_aload_n (pc := 59) hC 0 dX11_chainAt_59 rfl rfl ?_
    refine getX11_16 (pc := 60) hC (F := fun Z => Z) (X := []) (fun _ => rfl) fl_X11_89 dX11_chainAt_60 ?_
    refine getX0_0 (pc := 63) hC (F := fun Z => (wX11 o0 a0 (xy C) u0 Z)) (X := (wX11 o0 a0 (xy C) u0 [])) (fun _ => rfl) fl_X11_321 dX11_chainAt_63 ?_
    refine g_iload_n (pc := 66) hC 1 dX11_chainAt_66 rfl rfl ?_
    refine aldX0_0 (pc := 67) hC (F := fun Z => (wX11 o0 a0 (xy C) u0 Z)) (X := (wX11 o0 a0 (xy C) u0 [])) (fun _ => rfl) h.1 dX11_chainAt_67 ?_
    have h := h.2
    refine g_callV_i (pc := 68) (wd := fun (u : St) Y => (wX11 o0 a0 (xy C) u Y)) (F := fun Z => Z) (X := []) (As := [.int (ga u_18 0 (x2).toNatClampNeg)]) (rest := []) (u := u0) hC (fun _ _ => rfl) (fun _ => rfl) (ctX11_answer h) wvX11_answer ml_X11_166 (ci := 9) (q0 := 0) rfl rfl rfl rfl (rmok hR0 rfl) ⟨Nat.zero_le _, Nat.zero_le _⟩ rfl (Nat.le_of_ble_eq_true rfl) dX11_chainAt_68 (fun r_23 u_22 h => ?_)
    refine g_swap (F := fun Z => (wX11 o0 a0 (xy C) u_22 Z)) (X := (wX11 o0 a0 (xy C) u_22 [])) (f := fun Z => (wX0 (a0 16) aC (xy C) u_18 Z)) (g := fun Z => (wX2 (a0 7) aH (xy C) u_19 Z)) (Y := []) (fun _ => rfl) (fun _ => rfl) (fun _ => rfl) ?_
    exact hR _ _ _ (u_22, u_19, u_18) dX11_chainAt_71 h
  · have h := h.2 c_21
    refine g_aload_n (pc := 51) hC 0 dX11_chainAt_51 rfl rfl ?_
    refine g_bipush (pc := 52) (v := 6) hC dX11_chainAt_52 (by decide) ?_
    refine g_callV_i (pc := 54) (wd := fun (u : St) Y => (wX11 o0 a0 (xy C) u Y)) (F := fun Z => Z) (X := []) (As := [.int (6 : Int32)]) (rest := []) (u := u0) hC (fun _ _ => rfl) (fun _ => rfl) (ctX11_refuse h) wvX11_refuse ml_X11_127 (ci := 9) (q0 := 0) rfl rfl rfl rfl (rmok hR0 rfl) ⟨Nat.zero_le _, Nat.zero_le _⟩ rfl (Nat.le_of_ble_eq_true rfl) dX11_chainAt_54 (fun r_26 u_25 h => ?_)
    refine g_swap (F := fun Z => (wX11 o0 a0 (xy C) u_25 Z)) (X := (wX11 o0 a0 (xy C) u_25 [])) (f := fun Z => (wX0 (a0 16) aC (xy C) u_18 Z)) (g := fun Z => (wX2 (a0 7) aH (xy C) u_19 Z)) (Y := []) (fun _ => rfl) (fun _ => rfl) (fun _ => rfl) ?_
    exact hR _ _ _ (u_25, u_19, u_18) dX11_chainAt_57 h
def qX11_chainAt  (x1 : Int32) (x2 : Int32) (u0 : St) (u1 : St) (u2 : St) (post : Int32 → St → St → St → Prop) : Prop := qX11_within x1 (0 : Int32) (1 : Int32) (fun r_28 => ((r_28 = 0 → qX11_chainAt_b13 post u0 u1 u2) ∧ (¬ r_28 = 0 → ((0 ≤ x2 → ((¬ x1 = (1 : Int32) → qX11_chainAt_b37 post x2 (0 : Int32) u0 u1 u2) ∧ (x1 = (1 : Int32) → qX11_chainAt_b37 post x2 (1 : Int32) u0 u1 u2))) ∧ (¬ 0 ≤ x2 → qX11_chainAt_b13 post u0 u1 u2)))))
set_option maxRecDepth 100000 in
set_option maxHeartbeats 4000000 in
theorem kX11_chainAt {C : Cx} {o0 : Nat} {a0 : Nat → Nat} {aH : Nat → Nat} {aC : Nat → Nat} (hC : Fx C cX11_chainAt 3 RX11) (hR0 : xR C = rm 22) {post : Int32 → St → St → St → Prop} (hR : RI C cX11_chainAt 3 (fun u : St × St × St => (wX11 o0 a0 (xy C) u.1 (wX2 (a0 7) aH (xy C) u.2.1 (wX0 (a0 16) aC (xy C) u.2.2 [])))) (fun r u => post r u.1 u.2.1 u.2.2)) {x1 : Int32} {x2 : Int32} {u0 : St} {u1 : St} {u2 : St} (h : qX11_chainAt  x1 x2 u0 u1 u2 post) : G C 0 0 3 (wX11 o0 a0 (xy C) u0 (wX2 (a0 7) aH (xy C) u1 (wX0 (a0 16) aC (xy C) u2 []))) 0 [(0, .ref o0), (1, .int x1), (2, .int x2)] [] := by
  refine g_iload_n (pc := 0) hC 1 dX11_chainAt_0 rfl rfl ?_
  refine g_iconst (pc := 1) (v := 0) hC dX11_chainAt_1 (by decide) ?_
  refine g_iconst (pc := 2) (v := 1) hC dX11_chainAt_2 (by decide) ?_
  refine g_callS_i (pc := 3) (wd := fun (_ : Unit) Y => Y) (F := fun Z => Z) (X := []) (As := [.int x1, .int (0 : Int32), .int (1 : Int32)]) (rest := []) (u := ()) hC (fun _ _ => rfl) (fun _ => rfl) (ctX11_within h) wvX11_within ml_X11_104 rfl (rmok hR0 rfl) ⟨Nat.zero_le _, Nat.zero_le _⟩ rfl (Nat.le_of_ble_eq_true rfl) dX11_chainAt_3 (fun r_28 u_29 h => ?_)
  refine g_if_eq (pc := 6) (tgt := 13) hC dX11_chainAt_6 (by decide) (fun c_30 => ?_) (fun c_30 => ?_)
  · have h := h.1 c_30
    refine g_sub (lv' := [(0, .ref o0)]) [0] rfl ?_
    exact kX11_chainAt_b13 hC hR0 hR   h
  · have h := h.2 c_30
    refine g_iload_n (pc := 9) hC 2 dX11_chainAt_9 rfl rfl ?_
    refine g_if_ge (pc := 10) (tgt := 19) hC dX11_chainAt_10 (by decide) (fun c_31 => ?_) (fun c_31 => ?_)
    · have h := h.1 c_31
      refine g_aload_n (pc := 19) hC 0 dX11_chainAt_19 rfl rfl ?_
      refine getX11_16 (pc := 20) hC (F := fun Z => Z) (X := []) (fun _ => rfl) fl_X11_89 dX11_chainAt_20 ?_
      refine g_aload_n (pc := 23) hC 0 dX11_chainAt_23 rfl rfl ?_
      refine getX11_7 (pc := 24) hC (F := fun Z => Z) (X := []) (fun _ => rfl) fl_X11_46 dX11_chainAt_24 ?_
      refine g_iload_n (pc := 27) hC 1 dX11_chainAt_27 rfl rfl ?_
      refine g_iconst (pc := 28) (v := 1) hC dX11_chainAt_28 (by decide) ?_
      refine g_icmp_ne (pc := 29) (tgt := 36) hC dX11_chainAt_29 (by decide) (fun c_32 => ?_) (fun c_32 => ?_)
      · have h := h.1 c_32
        refine g_iconst (pc := 36) (v := 0) hC dX11_chainAt_36 (by decide) ?_
        refine g_sub (lv' := [(0, .ref o0), (2, .int x2)]) [0, 2] rfl ?_
        exact kX11_chainAt_b37 hC hR0 hR   h
      · have h := h.2 c_32
        refine g_iconst (pc := 32) (v := 1) hC dX11_chainAt_32 (by decide) ?_
        refine g_goto (pc := 33) (tgt := 37) hC dX11_chainAt_33 (by decide) ?_
        refine g_sub (lv' := [(0, .ref o0), (2, .int x2)]) [0, 2] rfl ?_
        exact kX11_chainAt_b37 hC hR0 hR   h
    · have h := h.2 c_31
      refine g_sub (lv' := [(0, .ref o0)]) [0] rfl ?_
      exact kX11_chainAt_b13 hC hR0 hR   h
theorem ctX11_chainAt {l : Launch} {D : va_G} {cy : Nat → ClassId} {kd : Nat → Nat} {o0 : Nat} {a0 : Nat → Nat} {aH : Nat → Nat} {aC : Nat → Nat} {x1 : Int32} {x2 : Int32} {u0 : St} {u1 : St} {u2 : St} {post : Int32 → St → St → St → Prop} (h : qX11_chainAt x1 x2 u0 u1 u2 post) : CtI l D cy kd yX11_chainAt cX11_chainAt 3 22 .int [.ref o0, .int x1, .int x2] (fun u : St × St × St => (wX11 o0 a0 cy u.1 (wX2 (a0 7) aH cy u.2.1 (wX0 (a0 16) aC cy u.2.2 [])))) (u0, u1, u2) (fun r u => post r u.1 u.2.1 u.2.2) := met_i (by decide) (Nat.le_of_ble_eq_true rfl) (fun C e1 e2 e3 e4 e5 hC hR => by subst e1 e2 e3 e4; exact kX11_chainAt hC e5 hR h)
theorem dX11_sums_0 : decode cX11_sums 0 = .ok (.iload_n 1, 1) := by decide +kernel
theorem dX11_sums_1 : decode cX11_sums 1 = .ok (.iconst 0, 1) := by decide +kernel
theorem dX11_sums_2 : decode cX11_sums 2 = .ok (.sipush 9999, 3) := by decide +kernel
theorem dX11_sums_5 : decode cX11_sums 5 = .ok (.invokestatic 104, 3) := by decide +kernel
theorem dX11_sums_8 : decode cX11_sums 8 = .ok (.ifCond .ne 9, 3) := by decide +kernel
theorem dX11_sums_11 : decode cX11_sums 11 = .ok (.aload_n 0, 1) := by decide +kernel
theorem dX11_sums_12 : decode cX11_sums 12 = .ok (.iconst 1, 1) := by decide +kernel
theorem dX11_sums_13 : decode cX11_sums 13 = .ok (.invokevirtual 127, 3) := by decide +kernel
theorem dX11_sums_16 : decode cX11_sums 16 = .ok (.ireturn, 1) := by decide +kernel
theorem dX11_sums_17 : decode cX11_sums 17 = .ok (.aload_n 0, 1) := by decide +kernel
theorem dX11_sums_18 : decode cX11_sums 18 = .ok (.aload_n 0, 1) := by decide +kernel
theorem dX11_sums_19 : decode cX11_sums 19 = .ok (.getfield 46, 3) := by decide +kernel
theorem dX11_sums_22 : decode cX11_sums 22 = .ok (.iload_n 1, 1) := by decide +kernel
theorem dX11_sums_23 : decode cX11_sums 23 = .ok (.iconst 0, 1) := by decide +kernel
theorem dX11_sums_24 : decode cX11_sums 24 = .ok (.invokevirtual 324, 3) := by decide +kernel
theorem dX11_sums_27 : decode cX11_sums 27 = .ok (.invokevirtual 166, 3) := by decide +kernel
theorem dX11_sums_30 : decode cX11_sums 30 = .ok (.ireturn, 1) := by decide +kernel
def qX11_sums  (x1 : Int32) (u0 : St) (u1 : St) (post : Int32 → St → St → Prop) : Prop := qX11_within x1 (0 : Int32) (9999 : Int32) (fun r_12 => ((¬ r_12 = 0 → qX2_countSums x1 (0 : Int32) u1 (fun r_16 u_15 => qX11_answer r_16 u0 (fun r_19 u_18 => post r_19 u_18 u_15))) ∧ (r_12 = 0 → qX11_refuse (1 : Int32) u0 (fun r_22 u_21 => post r_22 u_21 u1))))
set_option maxRecDepth 100000 in
set_option maxHeartbeats 4000000 in
theorem kX11_sums {C : Cx} {o0 : Nat} {a0 : Nat → Nat} {aH : Nat → Nat} (hC : Fx C cX11_sums 2 RX11) (hR0 : xR C = rm 5) {post : Int32 → St → St → Prop} (hR : RI C cX11_sums 2 (fun u : St × St => (wX11 o0 a0 (xy C) u.1 (wX2 (a0 7) aH (xy C) u.2 []))) (fun r u => post r u.1 u.2)) {x1 : Int32} {u0 : St} {u1 : St} (h : qX11_sums  x1 u0 u1 post) : G C 0 0 2 (wX11 o0 a0 (xy C) u0 (wX2 (a0 7) aH (xy C) u1 [])) 0 [(0, .ref o0), (1, .int x1)] [] := by
  refine g_iload_n (pc := 0) hC 1 dX11_sums_0 rfl rfl ?_
  refine g_iconst (pc := 1) (v := 0) hC dX11_sums_1 (by decide) ?_
  refine g_sipush (pc := 2) (v := 9999) hC dX11_sums_2 (by decide) ?_
  refine g_callS_i (pc := 5) (wd := fun (_ : Unit) Y => Y) (F := fun Z => Z) (X := []) (As := [.int x1, .int (0 : Int32), .int (9999 : Int32)]) (rest := []) (u := ()) hC (fun _ _ => rfl) (fun _ => rfl) (ctX11_within h) wvX11_within ml_X11_104 rfl (rmok hR0 rfl) ⟨Nat.zero_le _, Nat.zero_le _⟩ rfl (Nat.le_of_ble_eq_true rfl) dX11_sums_5 (fun r_12 u_13 h => ?_)
  refine g_if_ne (pc := 8) (tgt := 17) hC dX11_sums_8 (by decide) (fun c_14 => ?_) (fun c_14 => ?_)
  · have h := h.1 c_14
    refine g_aload_n (pc := 17) hC 0 dX11_sums_17 rfl rfl ?_
    refine g_aload_n (pc := 18) hC 0 dX11_sums_18 rfl rfl ?_
    refine getX11_7 (pc := 19) hC (F := fun Z => Z) (X := []) (fun _ => rfl) fl_X11_46 dX11_sums_19 ?_
    refine g_iload_n (pc := 22) hC 1 dX11_sums_22 rfl rfl ?_
    refine g_iconst (pc := 23) (v := 0) hC dX11_sums_23 (by decide) ?_
    refine g_callV_i (pc := 24) (wd := fun (u : St) Y => (wX2 (a0 7) aH (xy C) u Y)) (F := fun Z => (wX11 o0 a0 (xy C) u0 Z)) (X := (wX11 o0 a0 (xy C) u0 [])) (As := [.int x1, .int (0 : Int32)]) (rest := [.ref o0]) (u := u1) hC (fun _ _ => rfl) (fun _ => rfl) (ctX2_countSums h) wvX2_countSums ml_X11_324 (ci := 1) (q0 := 0) rfl rfl rfl rfl (rmok hR0 rfl) ⟨Nat.zero_le _, Nat.zero_le _⟩ rfl (Nat.le_of_ble_eq_true rfl) dX11_sums_24 (fun r_16 u_15 h => ?_)
    refine g_callV_i (pc := 27) (wd := fun (u : St) Y => (wX11 o0 a0 (xy C) u Y)) (F := fun Z => Z) (X := []) (As := [.int r_16]) (rest := []) (u := u0) hC (fun _ _ => rfl) (fun _ => rfl) (ctX11_answer h) wvX11_answer ml_X11_166 (ci := 9) (q0 := 0) rfl rfl rfl rfl (rmok hR0 rfl) ⟨Nat.zero_le _, Nat.zero_le _⟩ rfl (Nat.le_of_ble_eq_true rfl) dX11_sums_27 (fun r_19 u_18 h => ?_)
    exact hR _ _ _ (u_18, u_15) dX11_sums_30 h
  · have h := h.2 c_14
    refine g_aload_n (pc := 11) hC 0 dX11_sums_11 rfl rfl ?_
    refine g_iconst (pc := 12) (v := 1) hC dX11_sums_12 (by decide) ?_
    refine g_callV_i (pc := 13) (wd := fun (u : St) Y => (wX11 o0 a0 (xy C) u Y)) (F := fun Z => Z) (X := []) (As := [.int (1 : Int32)]) (rest := []) (u := u0) hC (fun _ _ => rfl) (fun _ => rfl) (ctX11_refuse h) wvX11_refuse ml_X11_127 (ci := 9) (q0 := 0) rfl rfl rfl rfl (rmok hR0 rfl) ⟨Nat.zero_le _, Nat.zero_le _⟩ rfl (Nat.le_of_ble_eq_true rfl) dX11_sums_13 (fun r_22 u_21 h => ?_)
    exact hR _ _ _ (u_21, u1) dX11_sums_16 h
theorem ctX11_sums {l : Launch} {D : va_G} {cy : Nat → ClassId} {kd : Nat → Nat} {o0 : Nat} {a0 : Nat → Nat} {aH : Nat → Nat} {x1 : Int32} {u0 : St} {u1 : St} {post : Int32 → St → St → Prop} (h : qX11_sums x1 u0 u1 post) : CtI l D cy kd yX11_sums cX11_sums 2 5 .int [.ref o0, .int x1] (fun u : St × St => (wX11 o0 a0 cy u.1 (wX2 (a0 7) aH cy u.2 []))) (u0, u1) (fun r u => post r u.1 u.2) := met_i (by decide) (Nat.le_of_ble_eq_true rfl) (fun C e1 e2 e3 e4 e5 hC hR => by subst e1 e2 e3 e4; exact kX11_sums hC e5 hR h)
theorem dX11_sumAt_0 : decode cX11_sumAt 0 = .ok (.iload_n 1, 1) := by decide +kernel
theorem dX11_sumAt_1 : decode cX11_sumAt 1 = .ok (.iconst 0, 1) := by decide +kernel
theorem dX11_sumAt_2 : decode cX11_sumAt 2 = .ok (.sipush 9999, 3) := by decide +kernel
theorem dX11_sumAt_5 : decode cX11_sumAt 5 = .ok (.invokestatic 104, 3) := by decide +kernel
theorem dX11_sumAt_8 : decode cX11_sumAt 8 = .ok (.ifCond .eq 7, 3) := by decide +kernel
theorem dX11_sumAt_11 : decode cX11_sumAt 11 = .ok (.iload_n 2, 1) := by decide +kernel
theorem dX11_sumAt_12 : decode cX11_sumAt 12 = .ok (.ifCond .ge 9, 3) := by decide +kernel
theorem dX11_sumAt_15 : decode cX11_sumAt 15 = .ok (.aload_n 0, 1) := by decide +kernel
theorem dX11_sumAt_16 : decode cX11_sumAt 16 = .ok (.iconst 1, 1) := by decide +kernel
theorem dX11_sumAt_17 : decode cX11_sumAt 17 = .ok (.invokevirtual 127, 3) := by decide +kernel
theorem dX11_sumAt_20 : decode cX11_sumAt 20 = .ok (.ireturn, 1) := by decide +kernel
theorem dX11_sumAt_21 : decode cX11_sumAt 21 = .ok (.aload_n 0, 1) := by decide +kernel
theorem dX11_sumAt_22 : decode cX11_sumAt 22 = .ok (.getfield 46, 3) := by decide +kernel
theorem dX11_sumAt_25 : decode cX11_sumAt 25 = .ok (.iload_n 1, 1) := by decide +kernel
theorem dX11_sumAt_26 : decode cX11_sumAt 26 = .ok (.iload_n 2, 1) := by decide +kernel
theorem dX11_sumAt_27 : decode cX11_sumAt 27 = .ok (.invokevirtual 327, 3) := by decide +kernel
theorem dX11_sumAt_30 : decode cX11_sumAt 30 = .ok (.istore_n 3, 1) := by decide +kernel
theorem dX11_sumAt_31 : decode cX11_sumAt 31 = .ok (.iload_n 3, 1) := by decide +kernel
theorem dX11_sumAt_32 : decode cX11_sumAt 32 = .ok (.iconst (-1), 1) := by decide +kernel
theorem dX11_sumAt_33 : decode cX11_sumAt 33 = .ok (.if_icmp .ne 12, 3) := by decide +kernel
theorem dX11_sumAt_36 : decode cX11_sumAt 36 = .ok (.aload_n 0, 1) := by decide +kernel
theorem dX11_sumAt_37 : decode cX11_sumAt 37 = .ok (.bipush 6, 2) := by decide +kernel
theorem dX11_sumAt_39 : decode cX11_sumAt 39 = .ok (.invokevirtual 127, 3) := by decide +kernel
theorem dX11_sumAt_42 : decode cX11_sumAt 42 = .ok (.goto 8, 3) := by decide +kernel
theorem dX11_sumAt_45 : decode cX11_sumAt 45 = .ok (.aload_n 0, 1) := by decide +kernel
theorem dX11_sumAt_46 : decode cX11_sumAt 46 = .ok (.iload_n 3, 1) := by decide +kernel
theorem dX11_sumAt_47 : decode cX11_sumAt 47 = .ok (.invokevirtual 166, 3) := by decide +kernel
theorem dX11_sumAt_50 : decode cX11_sumAt 50 = .ok (.ireturn, 1) := by decide +kernel
def qX11_sumAt_b15   (post : Int32 → St → St → Prop)  (u0 : St) (u1 : St) : Prop := qX11_refuse (1 : Int32) u0 (fun r_16 u_15 => post r_16 u_15 u1)
set_option maxRecDepth 100000 in
set_option maxHeartbeats 4000000 in
theorem kX11_sumAt_b15 {C : Cx} {o0 : Nat} {a0 : Nat → Nat} {aH : Nat → Nat} (hC : Fx C cX11_sumAt 4 RX11) (hR0 : xR C = rm 5) {post : Int32 → St → St → Prop} (hR : RI C cX11_sumAt 4 (fun u : St × St => (wX11 o0 a0 (xy C) u.1 (wX2 (a0 7) aH (xy C) u.2 []))) (fun r u => post r u.1 u.2))  {u0 : St} {u1 : St} (h : qX11_sumAt_b15 post u0 u1) : G C 0 0 4 (wX11 o0 a0 (xy C) u0 (wX2 (a0 7) aH (xy C) u1 [])) 15 [(0, .ref o0)] [] := by
  refine g_aload_n (pc := 15) hC 0 dX11_sumAt_15 rfl rfl ?_
  refine g_iconst (pc := 16) (v := 1) hC dX11_sumAt_16 (by decide) ?_
  refine g_callV_i (pc := 17) (wd := fun (u : St) Y => (wX11 o0 a0 (xy C) u Y)) (F := fun Z => Z) (X := []) (As := [.int (1 : Int32)]) (rest := []) (u := u0) hC (fun _ _ => rfl) (fun _ => rfl) (ctX11_refuse h) wvX11_refuse ml_X11_127 (ci := 9) (q0 := 0) rfl rfl rfl rfl (rmok hR0 rfl) ⟨Nat.zero_le _, Nat.zero_le _⟩ rfl (Nat.le_of_ble_eq_true rfl) dX11_sumAt_17 (fun r_16 u_15 h => ?_)
  exact hR _ _ _ (u_15, u1) dX11_sumAt_20 h
def qX11_sumAt_b50   (post : Int32 → St → St → Prop)  (s0 : Int32) (u0 : St) (u1 : St) : Prop := post s0 u0 u1
set_option maxRecDepth 100000 in
set_option maxHeartbeats 4000000 in
theorem kX11_sumAt_b50 {C : Cx} {o0 : Nat} {a0 : Nat → Nat} {aH : Nat → Nat} (hC : Fx C cX11_sumAt 4 RX11) (hR0 : xR C = rm 5) {post : Int32 → St → St → Prop} (hR : RI C cX11_sumAt 4 (fun u : St × St => (wX11 o0 a0 (xy C) u.1 (wX2 (a0 7) aH (xy C) u.2 []))) (fun r u => post r u.1 u.2))  {s0 : Int32} {u0 : St} {u1 : St} (h : qX11_sumAt_b50 post s0 u0 u1) : G C 0 0 4 (wX11 o0 a0 (xy C) u0 (wX2 (a0 7) aH (xy C) u1 [])) 50 [] [.int s0] := by
  exact hR _ _ _ (u0, u1) dX11_sumAt_50 h
def qX11_sumAt  (x1 : Int32) (x2 : Int32) (u0 : St) (u1 : St) (post : Int32 → St → St → Prop) : Prop := qX11_within x1 (0 : Int32) (9999 : Int32) (fun r_18 => ((r_18 = 0 → qX11_sumAt_b15 post u0 u1) ∧ (¬ r_18 = 0 → ((0 ≤ x2 → qX2_nthSum x1 x2 u1 (fun r_23 u_22 => ((¬ r_23 = (-1 : Int32) → qX11_answer r_23 u0 (fun r_27 u_26 => qX11_sumAt_b50 post r_27 u_26 u_22)) ∧ (r_23 = (-1 : Int32) → qX11_refuse (6 : Int32) u0 (fun r_30 u_29 => qX11_sumAt_b50 post r_30 u_29 u_22))))) ∧ (¬ 0 ≤ x2 → qX11_sumAt_b15 post u0 u1)))))
set_option maxRecDepth 100000 in
set_option maxHeartbeats 4000000 in
theorem kX11_sumAt {C : Cx} {o0 : Nat} {a0 : Nat → Nat} {aH : Nat → Nat} (hC : Fx C cX11_sumAt 4 RX11) (hR0 : xR C = rm 5) {post : Int32 → St → St → Prop} (hR : RI C cX11_sumAt 4 (fun u : St × St => (wX11 o0 a0 (xy C) u.1 (wX2 (a0 7) aH (xy C) u.2 []))) (fun r u => post r u.1 u.2)) {x1 : Int32} {x2 : Int32} {u0 : St} {u1 : St} (h : qX11_sumAt  x1 x2 u0 u1 post) : G C 0 0 4 (wX11 o0 a0 (xy C) u0 (wX2 (a0 7) aH (xy C) u1 [])) 0 [(0, .ref o0), (1, .int x1), (2, .int x2)] [] := by
  refine g_iload_n (pc := 0) hC 1 dX11_sumAt_0 rfl rfl ?_
  refine g_iconst (pc := 1) (v := 0) hC dX11_sumAt_1 (by decide) ?_
  refine g_sipush (pc := 2) (v := 9999) hC dX11_sumAt_2 (by decide) ?_
  refine g_callS_i (pc := 5) (wd := fun (_ : Unit) Y => Y) (F := fun Z => Z) (X := []) (As := [.int x1, .int (0 : Int32), .int (9999 : Int32)]) (rest := []) (u := ()) hC (fun _ _ => rfl) (fun _ => rfl) (ctX11_within h) wvX11_within ml_X11_104 rfl (rmok hR0 rfl) ⟨Nat.zero_le _, Nat.zero_le _⟩ rfl (Nat.le_of_ble_eq_true rfl) dX11_sumAt_5 (fun r_18 u_19 h => ?_)
  refine g_if_eq (pc := 8) (tgt := 15) hC dX11_sumAt_8 (by decide) (fun c_20 => ?_) (fun c_20 => ?_)
  · have h := h.1 c_20
    refine g_sub (lv' := [(0, .ref o0)]) [0] rfl ?_
    exact kX11_sumAt_b15 hC hR0 hR   h
  · have h := h.2 c_20
    refine g_iload_n (pc := 11) hC 2 dX11_sumAt_11 rfl rfl ?_
    refine g_if_ge (pc := 12) (tgt := 21) hC dX11_sumAt_12 (by decide) (fun c_21 => ?_) (fun c_21 => ?_)
    · have h := h.1 c_21
      refine g_aload_n (pc := 21) hC 0 dX11_sumAt_21 rfl rfl ?_
      refine getX11_7 (pc := 22) hC (F := fun Z => Z) (X := []) (fun _ => rfl) fl_X11_46 dX11_sumAt_22 ?_
      refine g_iload_n (pc := 25) hC 1 dX11_sumAt_25 rfl rfl ?_
      refine g_iload_n (pc := 26) hC 2 dX11_sumAt_26 rfl rfl ?_
      refine g_callV_i (pc := 27) (wd := fun (u : St) Y => (wX2 (a0 7) aH (xy C) u Y)) (F := fun Z => (wX11 o0 a0 (xy C) u0 Z)) (X := (wX11 o0 a0 (xy C) u0 [])) (As := [.int x1, .int x2]) (rest := []) (u := u1) hC (fun _ _ => rfl) (fun _ => rfl) (ctX2_nthSum h) wvX2_nthSum ml_X11_327 (ci := 1) (q0 := 0) rfl rfl rfl rfl (rmok hR0 rfl) ⟨Nat.zero_le _, Nat.zero_le _⟩ rfl (Nat.le_of_ble_eq_true rfl) dX11_sumAt_27 (fun r_23 u_22 h => ?_)
      refine g_istore_n (pc := 30) (lv' := [(3, .int r_23), (0, .ref o0), (1, .int x1), (2, .int x2)]) hC dX11_sumAt_30 rfl (Nat.le_of_ble_eq_true rfl) rfl ?_
      refine g_iload_n (pc := 31) hC 0 dX11_sumAt_31 rfl rfl ?_
      refine g_iconst (pc := 32) (v := -1) hC dX11_sumAt_32 (by decide) ?_
      refine g_icmp_ne (pc := 33) (tgt := 45) hC dX11_sumAt_33 (by decide) (fun c_25 => ?_) (fun c_25 => ?_)
      · have h := h.1 c_25
        refine g_aload_n (pc := 45) hC 1 dX11_sumAt_45 rfl rfl ?_
        refine g_iload_n (pc := 46) hC 0 dX11_sumAt_46 rfl rfl ?_
        refine g_callV_i (pc := 47) (wd := fun (u : St) Y => (wX11 o0 a0 (xy C) u Y)) (F := fun Z => Z) (X := []) (As := [.int r_23]) (rest := []) (u := u0) hC (fun _ _ => rfl) (fun _ => rfl) (ctX11_answer h) wvX11_answer ml_X11_166 (ci := 9) (q0 := 0) rfl rfl rfl rfl (rmok hR0 rfl) ⟨Nat.zero_le _, Nat.zero_le _⟩ rfl (Nat.le_of_ble_eq_true rfl) dX11_sumAt_47 (fun r_27 u_26 h => ?_)
        refine g_sub (lv' := []) [] rfl ?_
        exact kX11_sumAt_b50 hC hR0 hR   h
      · have h := h.2 c_25
        refine g_aload_n (pc := 36) hC 1 dX11_sumAt_36 rfl rfl ?_
        refine g_bipush (pc := 37) (v := 6) hC dX11_sumAt_37 (by decide) ?_
        refine g_callV_i (pc := 39) (wd := fun (u : St) Y => (wX11 o0 a0 (xy C) u Y)) (F := fun Z => Z) (X := []) (As := [.int (6 : Int32)]) (rest := []) (u := u0) hC (fun _ _ => rfl) (fun _ => rfl) (ctX11_refuse h) wvX11_refuse ml_X11_127 (ci := 9) (q0 := 0) rfl rfl rfl rfl (rmok hR0 rfl) ⟨Nat.zero_le _, Nat.zero_le _⟩ rfl (Nat.le_of_ble_eq_true rfl) dX11_sumAt_39 (fun r_30 u_29 h => ?_)
        refine g_goto (pc := 42) (tgt := 50) hC dX11_sumAt_42 (by decide) ?_
        refine g_sub (lv' := []) [] rfl ?_
        exact kX11_sumAt_b50 hC hR0 hR   h
    · have h := h.2 c_21
      refine g_sub (lv' := [(0, .ref o0)]) [0] rfl ?_
      exact kX11_sumAt_b15 hC hR0 hR   h
theorem ctX11_sumAt {l : Launch} {D : va_G} {cy : Nat → ClassId} {kd : Nat → Nat} {o0 : Nat} {a0 : Nat → Nat} {aH : Nat → Nat} {x1 : Int32} {x2 : Int32} {u0 : St} {u1 : St} {post : Int32 → St → St → Prop} (h : qX11_sumAt x1 x2 u0 u1 post) : CtI l D cy kd yX11_sumAt cX11_sumAt 4 5 .int [.ref o0, .int x1, .int x2] (fun u : St × St => (wX11 o0 a0 cy u.1 (wX2 (a0 7) aH cy u.2 []))) (u0, u1) (fun r u => post r u.1 u.2) := met_i (by decide) (Nat.le_of_ble_eq_true rfl) (fun C e1 e2 e3 e4 e5 hC hR => by subst e1 e2 e3 e4; exact kX11_sumAt hC e5 hR h)
theorem dX11_tellFraction_0 : decode cX11_tellFraction 0 = .ok (.lload_n 1, 1) := by decide +kernel
theorem dX11_tellFraction_1 : decode cX11_tellFraction 1 = .ok (.lstore 5, 2) := by decide +kernel
theorem dX11_tellFraction_3 : decode cX11_tellFraction 3 = .ok (.lload_n 3, 1) := by decide +kernel
theorem dX11_tellFraction_4 : decode cX11_tellFraction 4 = .ok (.lstore 7, 2) := by decide +kernel
theorem dX11_tellFraction_6 : decode cX11_tellFraction 6 = .ok (.iconst 0, 1) := by decide +kernel
theorem dX11_tellFraction_7 : decode cX11_tellFraction 7 = .ok (.istore 9, 2) := by decide +kernel
theorem dX11_tellFraction_9 : decode cX11_tellFraction 9 = .ok (.iload 9, 2) := by decide +kernel
theorem dX11_tellFraction_11 : decode cX11_tellFraction 11 = .ok (.bipush 100, 2) := by decide +kernel
theorem dX11_tellFraction_13 : decode cX11_tellFraction 13 = .ok (.if_icmp .ge 31, 3) := by decide +kernel
theorem dX11_tellFraction_16 : decode cX11_tellFraction 16 = .ok (.lload 7, 2) := by decide +kernel
theorem dX11_tellFraction_18 : decode cX11_tellFraction 18 = .ok (.lconst 0, 1) := by decide +kernel
theorem dX11_tellFraction_19 : decode cX11_tellFraction 19 = .ok (.lcmp, 1) := by decide +kernel
theorem dX11_tellFraction_20 : decode cX11_tellFraction 20 = .ok (.ifCond .eq 24, 3) := by decide +kernel
theorem dX11_tellFraction_23 : decode cX11_tellFraction 23 = .ok (.lload 5, 2) := by decide +kernel
theorem dX11_tellFraction_25 : decode cX11_tellFraction 25 = .ok (.lload 7, 2) := by decide +kernel
theorem dX11_tellFraction_27 : decode cX11_tellFraction 27 = .ok (.lrem, 1) := by decide +kernel
theorem dX11_tellFraction_28 : decode cX11_tellFraction 28 = .ok (.lstore 10, 2) := by decide +kernel
theorem dX11_tellFraction_30 : decode cX11_tellFraction 30 = .ok (.lload 7, 2) := by decide +kernel
theorem dX11_tellFraction_32 : decode cX11_tellFraction 32 = .ok (.lstore 5, 2) := by decide +kernel
theorem dX11_tellFraction_34 : decode cX11_tellFraction 34 = .ok (.lload 10, 2) := by decide +kernel
theorem dX11_tellFraction_36 : decode cX11_tellFraction 36 = .ok (.lstore 7, 2) := by decide +kernel
theorem dX11_tellFraction_38 : decode cX11_tellFraction 38 = .ok (.iinc 9 1, 3) := by decide +kernel
theorem dX11_tellFraction_41 : decode cX11_tellFraction 41 = .ok (.goto (-32), 3) := by decide +kernel
theorem dX11_tellFraction_44 : decode cX11_tellFraction 44 = .ok (.aload_n 0, 1) := by decide +kernel
theorem dX11_tellFraction_45 : decode cX11_tellFraction 45 = .ok (.lload 5, 2) := by decide +kernel
theorem dX11_tellFraction_47 : decode cX11_tellFraction 47 = .ok (.lconst 0, 1) := by decide +kernel
theorem dX11_tellFraction_48 : decode cX11_tellFraction 48 = .ok (.lcmp, 1) := by decide +kernel
theorem dX11_tellFraction_49 : decode cX11_tellFraction 49 = .ok (.ifCond .le 10, 3) := by decide +kernel
theorem dX11_tellFraction_52 : decode cX11_tellFraction 52 = .ok (.lload_n 1, 1) := by decide +kernel
theorem dX11_tellFraction_53 : decode cX11_tellFraction 53 = .ok (.lload 5, 2) := by decide +kernel
theorem dX11_tellFraction_55 : decode cX11_tellFraction 55 = .ok (.ldiv, 1) := by decide +kernel
theorem dX11_tellFraction_56 : decode cX11_tellFraction 56 = .ok (.goto 4, 3) := by decide +kernel
theorem dX11_tellFraction_59 : decode cX11_tellFraction 59 = .ok (.lconst 0, 1) := by decide +kernel
theorem dX11_tellFraction_60 : decode cX11_tellFraction 60 = .ok (.putfield 13, 3) := by decide +kernel
theorem dX11_tellFraction_63 : decode cX11_tellFraction 63 = .ok (.aload_n 0, 1) := by decide +kernel
theorem dX11_tellFraction_64 : decode cX11_tellFraction 64 = .ok (.lload 5, 2) := by decide +kernel
theorem dX11_tellFraction_66 : decode cX11_tellFraction 66 = .ok (.lconst 0, 1) := by decide +kernel
theorem dX11_tellFraction_67 : decode cX11_tellFraction 67 = .ok (.lcmp, 1) := by decide +kernel
theorem dX11_tellFraction_68 : decode cX11_tellFraction 68 = .ok (.ifCond .le 10, 3) := by decide +kernel
theorem dX11_tellFraction_71 : decode cX11_tellFraction 71 = .ok (.lload_n 3, 1) := by decide +kernel
theorem dX11_tellFraction_72 : decode cX11_tellFraction 72 = .ok (.lload 5, 2) := by decide +kernel
theorem dX11_tellFraction_74 : decode cX11_tellFraction 74 = .ok (.ldiv, 1) := by decide +kernel
theorem dX11_tellFraction_75 : decode cX11_tellFraction 75 = .ok (.goto 4, 3) := by decide +kernel
theorem dX11_tellFraction_78 : decode cX11_tellFraction 78 = .ok (.lconst 1, 1) := by decide +kernel
theorem dX11_tellFraction_79 : decode cX11_tellFraction 79 = .ok (.putfield 17, 3) := by decide +kernel
theorem dX11_tellFraction_82 : decode cX11_tellFraction 82 = .ok (.aload_n 0, 1) := by decide +kernel
theorem dX11_tellFraction_83 : decode cX11_tellFraction 83 = .ok (.invokevirtual 115, 3) := by decide +kernel
theorem dX11_tellFraction_86 : decode cX11_tellFraction 86 = .ok (.ireturn, 1) := by decide +kernel
def qX11_tellFraction_b79   (post : Int32 → St → Prop)  (s0 : Int64) (u0 : St) : Prop := ∀ u_7 : St, u_7 = (sj u0 2 s0) → qX11_grant u_7 (fun r_9 u_8 => (bz r_9 ∧ post r_9 u_8))
set_option maxRecDepth 100000 in
set_option maxHeartbeats 4000000 in
theorem kX11_tellFraction_b79 {C : Cx} {o0 : Nat} {a0 : Nat → Nat} (hC : Fx C cX11_tellFraction 12 RX11) (hR0 : xR C = rm 2) {post : Int32 → St → Prop} (hR : RZ C cX11_tellFraction 12 (fun u : St => (wX11 o0 a0 (xy C) u [])) (fun r u => post r u))  {s0 : Int64} {u0 : St} (h : qX11_tellFraction_b79 post s0 u0) : G C 0 0 12 (wX11 o0 a0 (xy C) u0 []) 79 [(0, .ref o0)] [.long s0, .ref o0] := by
  refine putX11_2 (pc := 79) hC (F := fun Z => Z) (X := []) (fun _ => rfl) fl_X11_17 dX11_tellFraction_79 ?_
  refine g_st (w := fun z => (wX11 o0 a0 (xy C) z [])) (u := (sj u0 2 s0)) (fun u_7 eu_7 => ?_)
  have h := h u_7 eu_7
  refine g_aload_n (pc := 82) hC 0 dX11_tellFraction_82 rfl rfl ?_
  refine g_callV_i (pc := 83) (wd := fun (u : St) Y => (wX11 o0 a0 (xy C) u Y)) (F := fun Z => Z) (X := []) (As := []) (rest := []) (u := u_7) hC (fun _ _ => rfl) (fun _ => rfl) (ctX11_grant h) wvX11_grant ml_X11_115 (ci := 9) (q0 := 0) rfl rfl rfl rfl (rmok hR0 rfl) ⟨Nat.zero_le _, Nat.zero_le _⟩ rfl (Nat.le_of_ble_eq_true rfl) dX11_tellFraction_83 (fun r_9 u_8 h => ?_)
  exact hR _ _ _ u_8 dX11_tellFraction_86 h.1 h.2
def qX11_tellFraction_b60   (post : Int32 → St → Prop)  (x3 : Int64) (x5 : Int64) (s0 : Int64) (u0 : St) : Prop := ∀ u_11 : St, u_11 = (sj u0 1 s0) → (((lg_cmp x5 (0 : Int64)) ≤ 0 → qX11_tellFraction_b79 post (1 : Int64) u_11) ∧ (¬ (lg_cmp x5 (0 : Int64)) ≤ 0 → (¬ x5 = 0 ∧ qX11_tellFraction_b79 post (x3 / x5) u_11)))
set_option maxRecDepth 100000 in
set_option maxHeartbeats 4000000 in
theorem kX11_tellFraction_b60 {C : Cx} {o0 : Nat} {a0 : Nat → Nat} (hC : Fx C cX11_tellFraction 12 RX11) (hR0 : xR C = rm 2) {post : Int32 → St → Prop} (hR : RZ C cX11_tellFraction 12 (fun u : St => (wX11 o0 a0 (xy C) u [])) (fun r u => post r u))  {x3 : Int64} {x5 : Int64} {s0 : Int64} {u0 : St} (h : qX11_tellFraction_b60 post x3 x5 s0 u0) : G C 0 0 12 (wX11 o0 a0 (xy C) u0 []) 60 [(0, .ref o0), (3, .long x3), (5, .long x5)] [.long s0, .ref o0] := by
  refine putX11_1 (pc := 60) hC (F := fun Z => Z) (X := []) (fun _ => rfl) fl_X11_13 dX11_tellFraction_60 ?_
  refine g_st (w := fun z => (wX11 o0 a0 (xy C) z [])) (u := (sj u0 1 s0)) (fun u_11 eu_11 => ?_)
  have h := h u_11 eu_11
  refine g_aload_n (pc := 63) hC 0 dX11_tellFraction_63 rfl rfl ?_
  refine g_lload (pc := 64) hC 2 dX11_tellFraction_64 rfl ?_
  refine g_lconst (pc := 66) (v := 0) hC dX11_tellFraction_66 (by decide) ?_
  refine g_lcmp (pc := 67) hC dX11_tellFraction_67 ?_
  refine g_if_le (pc := 68) (tgt := 78) hC dX11_tellFraction_68 (by decide) (fun c_12 => ?_) (fun c_12 => ?_)
  · have h := h.1 c_12
    refine g_lconst (pc := 78) (v := 1) hC dX11_tellFraction_78 (by decide) ?_
    refine g_sub (lv' := [(0, .ref o0)]) [0] rfl ?_
    exact kX11_tellFraction_b79 hC hR0 hR   h
  · have h := h.2 c_12
    refine g_lload_n (pc := 71) hC 1 dX11_tellFraction_71 rfl rfl ?_
    refine g_lload (pc := 72) hC 2 dX11_tellFraction_72 rfl ?_
    refine g_ldiv (pc := 74) hC dX11_tellFraction_74 h.1 ?_
    have h := h.2
    refine g_goto (pc := 75) (tgt := 79) hC dX11_tellFraction_75 (by decide) ?_
    refine g_sub (lv' := [(0, .ref o0)]) [0] rfl ?_
    exact kX11_tellFraction_b79 hC hR0 hR   h
def qX11_tellFraction_b44   (post : Int32 → St → Prop)  (x1 : Int64) (x3 : Int64) (x5 : Int64) (u0 : St) : Prop := (((lg_cmp x5 (0 : Int64)) ≤ 0 → qX11_tellFraction_b60 post x3 x5 (0 : Int64) u0) ∧ (¬ (lg_cmp x5 (0 : Int64)) ≤ 0 → (¬ x5 = 0 ∧ qX11_tellFraction_b60 post x3 x5 (x1 / x5) u0)))
set_option maxRecDepth 100000 in
set_option maxHeartbeats 4000000 in
theorem kX11_tellFraction_b44 {C : Cx} {o0 : Nat} {a0 : Nat → Nat} (hC : Fx C cX11_tellFraction 12 RX11) (hR0 : xR C = rm 2) {post : Int32 → St → Prop} (hR : RZ C cX11_tellFraction 12 (fun u : St => (wX11 o0 a0 (xy C) u [])) (fun r u => post r u))  {x1 : Int64} {x3 : Int64} {x5 : Int64} {u0 : St} (h : qX11_tellFraction_b44 post x1 x3 x5 u0) : G C 0 0 12 (wX11 o0 a0 (xy C) u0 []) 44 [(0, .ref o0), (1, .long x1), (3, .long x3), (5, .long x5)] [] := by
  refine g_aload_n (pc := 44) hC 0 dX11_tellFraction_44 rfl rfl ?_
  refine g_lload (pc := 45) hC 3 dX11_tellFraction_45 rfl ?_
  refine g_lconst (pc := 47) (v := 0) hC dX11_tellFraction_47 (by decide) ?_
  refine g_lcmp (pc := 48) hC dX11_tellFraction_48 ?_
  refine g_if_le (pc := 49) (tgt := 59) hC dX11_tellFraction_49 (by decide) (fun c_13 => ?_) (fun c_13 => ?_)
  · have h := h.1 c_13
    refine g_lconst (pc := 59) (v := 0) hC dX11_tellFraction_59 (by decide) ?_
    refine g_sub (lv' := [(0, .ref o0), (3, .long x3), (5, .long x5)]) [0, 2, 3] rfl ?_
    exact kX11_tellFraction_b60 hC hR0 hR   h
  · have h := h.2 c_13
    refine g_lload_n (pc := 52) hC 1 dX11_tellFraction_52 rfl rfl ?_
    refine g_lload (pc := 53) hC 3 dX11_tellFraction_53 rfl ?_
    refine g_ldiv (pc := 55) hC dX11_tellFraction_55 h.1 ?_
    have h := h.2
    refine g_goto (pc := 56) (tgt := 60) hC dX11_tellFraction_56 (by decide) ?_
    refine g_sub (lv' := [(0, .ref o0), (3, .long x3), (5, .long x5)]) [0, 2, 3] rfl ?_
    exact kX11_tellFraction_b60 hC hR0 hR   h
def qX11_tellFraction_l9   (post : Int32 → St → Prop) (K9 : Int64 → Int64 → Int64 → Int64 → Int32 → St → Prop) (x1 : Int64) (x3 : Int64) (x5 : Int64) (x7 : Int64) (x9 : Int32) (u0 : St) : Prop := (((100 : Int32) ≤ x9 → qX11_tellFraction_b44 post x1 x3 x5 u0) ∧ (¬ (100 : Int32) ≤ x9 → (((lg_cmp x7 (0 : Int64)) = 0 → qX11_tellFraction_b44 post x1 x3 x5 u0) ∧ (¬ (lg_cmp x7 (0 : Int64)) = 0 → (¬ x7 = 0 ∧ ∀ x10_16 : Int64, x10_16 = (x5 - x5 / x7 * x7) → ∀ x9_17 : Int32, x9_17 = x9 + (1 : Int32) → K9 x1 x3 x7 x10_16 x9_17 u0)))))
set_option maxRecDepth 100000 in
set_option maxHeartbeats 4000000 in
theorem kX11_tellFraction_l9 {C : Cx} {o0 : Nat} {a0 : Nat → Nat} (hC : Fx C cX11_tellFraction 12 RX11) (hR0 : xR C = rm 2) {post : Int32 → St → Prop} (hR : RZ C cX11_tellFraction 12 (fun u : St => (wX11 o0 a0 (xy C) u [])) (fun r u => post r u))  {K9 : Int64 → Int64 → Int64 → Int64 → Int32 → St → Prop} (hK9 : ∀ (x1 : Int64) (x3 : Int64) (x5 : Int64) (x7 : Int64) (x9 : Int32) (u0 : St), K9 x1 x3 x5 x7 x9 u0 → G C 0 0 12 (wX11 o0 a0 (xy C) u0 []) 9 [(0, .ref o0), (1, .long x1), (3, .long x3), (5, .long x5), (7, .long x7), (9, .int x9)] []) {x1 : Int64} {x3 : Int64} {x5 : Int64} {x7 : Int64} {x9 : Int32} {u0 : St} (h : qX11_tellFraction_l9 post K9 x1 x3 x5 x7 x9 u0) : G C 0 0 12 (wX11 o0 a0 (xy C) u0 []) 9 [(0, .ref o0), (1, .long x1), (3, .long x3), (5, .long x5), (7, .long x7), (9, .int x9)] [] := by
  refine g_iload (pc := 9) hC 5 dX11_tellFraction_9 rfl ?_
  refine g_bipush (pc := 11) (v := 100) hC dX11_tellFraction_11 (by decide) ?_
  refine g_icmp_ge (pc := 13) (tgt := 44) hC dX11_tellFraction_13 (by decide) (fun c_14 => ?_) (fun c_14 => ?_)
  · have h := h.1 c_14
    refine g_sub (lv' := [(0, .ref o0), (1, .long x1), (3, .long x3), (5, .long x5)]) [0, 1, 2, 3] rfl ?_
    exact kX11_tellFraction_b44 hC hR0 hR   h
  · have h := h.2 c_14
    refine g_lload (pc := 16) hC 4 dX11_tellFraction_16 rfl ?_
    refine g_lconst (pc := 18) (v := 0) hC dX11_tellFraction_18 (by decide) ?_
    refine g_lcmp (pc := 19) hC dX11_tellFraction_19 ?_
    refine g_if_eq (pc := 20) (tgt := 44) hC dX11_tellFraction_20 (by decide) (fun c_15 => ?_) (fun c_15 => ?_)
    · have h := h.1 c_15
      refine g_sub (lv' := [(0, .ref o0), (1, .long x1), (3, .long x3), (5, .long x5)]) [0, 1, 2, 3] rfl ?_
      exact kX11_tellFraction_b44 hC hR0 hR   h
    · have h := h.2 c_15
      refine g_lload (pc := 23) hC 3 dX11_tellFraction_23 rfl ?_
      refine g_lload (pc := 25) hC 4 dX11_tellFraction_25 rfl ?_
      refine g_lrem (pc := 27) hC dX11_tellFraction_27 h.1 ?_
      have h := h.2
      refine g_topl (fun x10_16 ex10_16 => ?_)
      have h := h x10_16 ex10_16
      refine g_lstore (pc := 28) (lv' := [(10, .long x10_16), (0, .ref o0), (1, .long x1), (3, .long x3), (5, .long x5), (7, .long x7), (9, .int x9)]) hC dX11_tellFraction_28 (Nat.le_of_ble_eq_true rfl) rfl ?_
      refine g_lload (pc := 30) hC 5 dX11_tellFraction_30 rfl ?_
      refine g_lstore (pc := 32) (lv' := [(5, .long x7), (10, .long x10_16), (0, .ref o0), (1, .long x1), (3, .long x3), (7, .long x7), (9, .int x9)]) hC dX11_tellFraction_32 (Nat.le_of_ble_eq_true rfl) rfl ?_
      refine g_lload (pc := 34) hC 1 dX11_tellFraction_34 rfl ?_
      refine g_lstore (pc := 36) (lv' := [(7, .long x10_16), (5, .long x7), (10, .long x10_16), (0, .ref o0), (1, .long x1), (3, .long x3), (9, .int x9)]) hC dX11_tellFraction_36 (Nat.le_of_ble_eq_true rfl) rfl ?_
      obtain ⟨x9_17, ex9_17⟩ : ∃ z : Int32, z = x9 + (1 : Int32) := ⟨_, rfl⟩
      have h := h x9_17 ex9_17
      refine g_iinc (pc := 38) (v := x9_17) (lv' := [(9, .int x9_17), (7, .long x10_16), (5, .long x7), (10, .long x10_16), (0, .ref o0), (1, .long x1), (3, .long x3)]) hC 6 dX11_tellFraction_38 rfl (by rw [ex9_17]; rfl) (Nat.le_of_ble_eq_true rfl) rfl ?_
      refine g_goto (pc := 41) (tgt := 9) hC dX11_tellFraction_41 (by decide) ?_
      refine g_sub (lv' := [(0, .ref o0), (1, .long x1), (3, .long x3), (5, .long x7), (7, .long x10_16), (9, .int x9_17)]) [4, 5, 6, 2, 1, 0] rfl ?_
      exact hK9 _ _ _ _ _ _ h
def qX11_tellFraction_L9   (post : Int32 → St → Prop)  : Nat → Int64 → Int64 → Int64 → Int64 → Int32 → St → Prop
  | 0 => fun _ _ _ _ _ _ => False
  | n + 1 => qX11_tellFraction_l9 post (qX11_tellFraction_L9 post n)
theorem kX11_tellFraction_L9 {C : Cx} {o0 : Nat} {a0 : Nat → Nat} (hC : Fx C cX11_tellFraction 12 RX11) (hR0 : xR C = rm 2) {post : Int32 → St → Prop} (hR : RZ C cX11_tellFraction 12 (fun u : St => (wX11 o0 a0 (xy C) u [])) (fun r u => post r u))  : ∀ (n : Nat) (x1 : Int64) (x3 : Int64) (x5 : Int64) (x7 : Int64) (x9 : Int32) (u0 : St), qX11_tellFraction_L9 post n x1 x3 x5 x7 x9 u0 → G C 0 0 12 (wX11 o0 a0 (xy C) u0 []) 9 [(0, .ref o0), (1, .long x1), (3, .long x3), (5, .long x5), (7, .long x7), (9, .int x9)] [] := by
  intro n
  induction n with
  | zero => intro x1 x3 x5 x7 x9 u0 h; exact h.elim
  | succ n ih => intro x1 x3 x5 x7 x9 u0 h; exact kX11_tellFraction_l9 hC hR0 hR   ih h
def qX11_tellFraction  (x1 : Int64) (x3 : Int64) (u0 : St) (post : Int32 → St → Prop) : Prop := ∃ n_18 : Nat, qX11_tellFraction_L9 post n_18 x1 x3 x1 x3 (0 : Int32) u0
set_option maxRecDepth 100000 in
set_option maxHeartbeats 4000000 in
theorem kX11_tellFraction {C : Cx} {o0 : Nat} {a0 : Nat → Nat} (hC : Fx C cX11_tellFraction 12 RX11) (hR0 : xR C = rm 2) {post : Int32 → St → Prop} (hR : RZ C cX11_tellFraction 12 (fun u : St => (wX11 o0 a0 (xy C) u [])) (fun r u => post r u)) {x1 : Int64} {x3 : Int64} {u0 : St} (h : qX11_tellFraction  x1 x3 u0 post) : G C 0 0 12 (wX11 o0 a0 (xy C) u0 []) 0 [(0, .ref o0), (1, .long x1), (3, .long x3)] [] := by
  refine g_lload_n (pc := 0) hC 1 dX11_tellFraction_0 rfl rfl ?_
  refine g_lstore (pc := 1) (lv' := [(5, .long x1), (0, .ref o0), (1, .long x1), (3, .long x3)]) hC dX11_tellFraction_1 (Nat.le_of_ble_eq_true rfl) rfl ?_
  refine g_lload_n (pc := 3) hC 3 dX11_tellFraction_3 rfl rfl ?_
  refine g_lstore (pc := 4) (lv' := [(7, .long x3), (5, .long x1), (0, .ref o0), (1, .long x1), (3, .long x3)]) hC dX11_tellFraction_4 (Nat.le_of_ble_eq_true rfl) rfl ?_
  refine g_iconst (pc := 6) (v := 0) hC dX11_tellFraction_6 (by decide) ?_
  refine g_istore (pc := 7) (lv' := [(9, .int (0 : Int32)), (7, .long x3), (5, .long x1), (0, .ref o0), (1, .long x1), (3, .long x3)]) hC dX11_tellFraction_7 (Nat.le_of_ble_eq_true rfl) rfl ?_
  refine g_sub (lv' := [(0, .ref o0), (1, .long x1), (3, .long x3), (5, .long x1), (7, .long x3), (9, .int (0 : Int32))]) [3, 4, 5, 2, 1, 0] rfl ?_
  obtain ⟨n_18, h⟩ := h
  exact kX11_tellFraction_L9 hC hR0 hR   n_18 _ _ _ _ _ _ h
theorem ctX11_tellFraction {l : Launch} {D : va_G} {cy : Nat → ClassId} {kd : Nat → Nat} {o0 : Nat} {a0 : Nat → Nat} {x1 : Int64} {x3 : Int64} {u0 : St} {post : Int32 → St → Prop} (h : qX11_tellFraction x1 x3 u0 post) : CtI l D cy kd yX11_tellFraction cX11_tellFraction 12 2 .boolean [.ref o0, .long x1, .long x3] (fun u : St => (wX11 o0 a0 cy u [])) u0 (fun r u => post r u) := met_z (by decide) (Nat.le_of_ble_eq_true rfl) (fun C e1 e2 e3 e4 e5 hC hR => by subst e1 e2 e3 e4; exact kX11_tellFraction hC e5 hR h)
theorem dX11_oddsThat_0 : decode cX11_oddsThat 0 = .ok (.iload_n 1, 1) := by decide +kernel
theorem dX11_oddsThat_1 : decode cX11_oddsThat 1 = .ok (.iconst 0, 1) := by decide +kernel
theorem dX11_oddsThat_2 : decode cX11_oddsThat 2 = .ok (.sipush 9999, 3) := by decide +kernel
theorem dX11_oddsThat_5 : decode cX11_oddsThat 5 = .ok (.invokestatic 104, 3) := by decide +kernel
theorem dX11_oddsThat_8 : decode cX11_oddsThat 8 = .ok (.ifCond .eq 14, 3) := by decide +kernel
theorem dX11_oddsThat_11 : decode cX11_oddsThat 11 = .ok (.aload_n 0, 1) := by decide +kernel
theorem dX11_oddsThat_12 : decode cX11_oddsThat 12 = .ok (.getfield 46, 3) := by decide +kernel
theorem dX11_oddsThat_15 : decode cX11_oddsThat 15 = .ok (.iload_n 2, 1) := by decide +kernel
theorem dX11_oddsThat_16 : decode cX11_oddsThat 16 = .ok (.invokevirtual 222, 3) := by decide +kernel
theorem dX11_oddsThat_19 : decode cX11_oddsThat 19 = .ok (.ifCond .ne 9, 3) := by decide +kernel
theorem dX11_oddsThat_22 : decode cX11_oddsThat 22 = .ok (.aload_n 0, 1) := by decide +kernel
theorem dX11_oddsThat_23 : decode cX11_oddsThat 23 = .ok (.iconst 1, 1) := by decide +kernel
theorem dX11_oddsThat_24 : decode cX11_oddsThat 24 = .ok (.invokevirtual 108, 3) := by decide +kernel
theorem dX11_oddsThat_27 : decode cX11_oddsThat 27 = .ok (.ireturn, 1) := by decide +kernel
theorem dX11_oddsThat_28 : decode cX11_oddsThat 28 = .ok (.aload_n 0, 1) := by decide +kernel
theorem dX11_oddsThat_29 : decode cX11_oddsThat 29 = .ok (.getfield 46, 3) := by decide +kernel
theorem dX11_oddsThat_32 : decode cX11_oddsThat 32 = .ok (.iload_n 1, 1) := by decide +kernel
theorem dX11_oddsThat_33 : decode cX11_oddsThat 33 = .ok (.iconst 0, 1) := by decide +kernel
theorem dX11_oddsThat_34 : decode cX11_oddsThat 34 = .ok (.invokevirtual 324, 3) := by decide +kernel
theorem dX11_oddsThat_37 : decode cX11_oddsThat 37 = .ok (.istore_n 3, 1) := by decide +kernel
theorem dX11_oddsThat_38 : decode cX11_oddsThat 38 = .ok (.iload_n 3, 1) := by decide +kernel
theorem dX11_oddsThat_39 : decode cX11_oddsThat 39 = .ok (.ifCond .ne 10, 3) := by decide +kernel
theorem dX11_oddsThat_42 : decode cX11_oddsThat 42 = .ok (.aload_n 0, 1) := by decide +kernel
theorem dX11_oddsThat_43 : decode cX11_oddsThat 43 = .ok (.bipush 6, 2) := by decide +kernel
theorem dX11_oddsThat_45 : decode cX11_oddsThat 45 = .ok (.invokevirtual 108, 3) := by decide +kernel
theorem dX11_oddsThat_48 : decode cX11_oddsThat 48 = .ok (.ireturn, 1) := by decide +kernel
theorem dX11_oddsThat_49 : decode cX11_oddsThat 49 = .ok (.aload_n 0, 1) := by decide +kernel
theorem dX11_oddsThat_50 : decode cX11_oddsThat 50 = .ok (.aload_n 0, 1) := by decide +kernel
theorem dX11_oddsThat_51 : decode cX11_oddsThat 51 = .ok (.getfield 46, 3) := by decide +kernel
theorem dX11_oddsThat_54 : decode cX11_oddsThat 54 = .ok (.iload_n 1, 1) := by decide +kernel
theorem dX11_oddsThat_55 : decode cX11_oddsThat 55 = .ok (.iconst 1, 1) := by decide +kernel
theorem dX11_oddsThat_56 : decode cX11_oddsThat 56 = .ok (.iload_n 2, 1) := by decide +kernel
theorem dX11_oddsThat_57 : decode cX11_oddsThat 57 = .ok (.ishl, 1) := by decide +kernel
theorem dX11_oddsThat_58 : decode cX11_oddsThat 58 = .ok (.invokevirtual 324, 3) := by decide +kernel
theorem dX11_oddsThat_61 : decode cX11_oddsThat 61 = .ok (.i2l, 1) := by decide +kernel
theorem dX11_oddsThat_62 : decode cX11_oddsThat 62 = .ok (.iload_n 3, 1) := by decide +kernel
theorem dX11_oddsThat_63 : decode cX11_oddsThat 63 = .ok (.i2l, 1) := by decide +kernel
theorem dX11_oddsThat_64 : decode cX11_oddsThat 64 = .ok (.invokevirtual 330, 3) := by decide +kernel
theorem dX11_oddsThat_67 : decode cX11_oddsThat 67 = .ok (.ireturn, 1) := by decide +kernel
def qX11_oddsThat_b22   (post : Int32 → St → St → Prop)  (u0 : St) (u1 : St) : Prop := qX11_deny (1 : Int32) u0 (fun r_22 u_21 => (bz r_22 ∧ post r_22 u_21 u1))
set_option maxRecDepth 100000 in
set_option maxHeartbeats 4000000 in
theorem kX11_oddsThat_b22 {C : Cx} {o0 : Nat} {a0 : Nat → Nat} {aH : Nat → Nat} (hC : Fx C cX11_oddsThat 4 RX11) (hR0 : xR C = rm 5) {post : Int32 → St → St → Prop} (hR : RZ C cX11_oddsThat 4 (fun u : St × St => (wX11 o0 a0 (xy C) u.1 (wX2 (a0 7) aH (xy C) u.2 []))) (fun r u => post r u.1 u.2))  {u0 : St} {u1 : St} (h : qX11_oddsThat_b22 post u0 u1) : G C 0 0 4 (wX11 o0 a0 (xy C) u0 (wX2 (a0 7) aH (xy C) u1 [])) 22 [(0, .ref o0)] [] := by
  refine g_aload_n (pc := 22) hC 0 dX11_oddsThat_22 rfl rfl ?_
  refine g_iconst (pc := 23) (v := 1) hC dX11_oddsThat_23 (by decide) ?_
  refine g_callV_i (pc := 24) (wd := fun (u : St) Y => (wX11 o0 a0 (xy C) u Y)) (F := fun Z => Z) (X := []) (As := [.int (1 : Int32)]) (rest := []) (u := u0) hC (fun _ _ => rfl) (fun _ => rfl) (ctX11_deny h) wvX11_deny ml_X11_108 (ci := 9) (q0 := 0) rfl rfl rfl rfl (rmok hR0 rfl) ⟨Nat.zero_le _, Nat.zero_le _⟩ rfl (Nat.le_of_ble_eq_true rfl) dX11_oddsThat_24 (fun r_22 u_21 h => ?_)
  exact hR _ _ _ (u_21, u1) dX11_oddsThat_27 h.1 h.2
def qX11_oddsThat  (x1 : Int32) (x2 : Int32) (u0 : St) (u1 : St) (post : Int32 → St → St → Prop) : Prop := qX11_within x1 (0 : Int32) (9999 : Int32) (fun r_24 => ((r_24 = 0 → qX11_oddsThat_b22 post u0 u1) ∧ (¬ r_24 = 0 → qX2_isDebt x2 u1 (fun r_28 u_27 => ((¬ r_28 = 0 → qX2_countSums x1 (0 : Int32) u_27 (fun r_32 u_31 => ((¬ r_32 = 0 → qX2_countSums x1 ((1 : Int32) <<< (x2 &&& 31)) u_31 (fun r_36 u_35 => qX11_tellFraction (r_36).toInt64 (r_32).toInt64 u0 (fun r_39 u_38 => (bz r_39 ∧ post r_39 u_38 u_35)))) ∧ (r_32 = 0 → qX11_deny (6 : Int32) u0 (fun r_42 u_41 => (bz r_42 ∧ post r_42 u_41 u_31)))))) ∧ (r_28 = 0 → qX11_oddsThat_b22 post u0 u_27))))))
set_option maxRecDepth 100000 in
set_option maxHeartbeats 4000000 in
theorem kX11_oddsThat {C : Cx} {o0 : Nat} {a0 : Nat → Nat} {aH : Nat → Nat} (hC : Fx C cX11_oddsThat 4 RX11) (hR0 : xR C = rm 5) {post : Int32 → St → St → Prop} (hR : RZ C cX11_oddsThat 4 (fun u : St × St => (wX11 o0 a0 (xy C) u.1 (wX2 (a0 7) aH (xy C) u.2 []))) (fun r u => post r u.1 u.2)) {x1 : Int32} {x2 : Int32} {u0 : St} {u1 : St} (h : qX11_oddsThat  x1 x2 u0 u1 post) : G C 0 0 4 (wX11 o0 a0 (xy C) u0 (wX2 (a0 7) aH (xy C) u1 [])) 0 [(0, .ref o0), (1, .int x1), (2, .int x2)] [] := by
  refine g_iload_n (pc := 0) hC 1 dX11_oddsThat_0 rfl rfl ?_
  refine g_iconst (pc := 1) (v := 0) hC dX11_oddsThat_1 (by decide) ?_
  refine g_sipush (pc := 2) (v := 9999) hC dX11_oddsThat_2 (by decide) ?_
  refine g_callS_i (pc := 5) (wd := fun (_ : Unit) Y => Y) (F := fun Z => Z) (X := []) (As := [.int x1, .int (0 : Int32), .int (9999 : Int32)]) (rest := []) (u := ()) hC (fun _ _ => rfl) (fun _ => rfl) (ctX11_within h) wvX11_within ml_X11_104 rfl (rmok hR0 rfl) ⟨Nat.zero_le _, Nat.zero_le _⟩ rfl (Nat.le_of_ble_eq_true rfl) dX11_oddsThat_5 (fun r_24 u_25 h => ?_)
  refine g_if_eq (pc := 8) (tgt := 22) hC dX11_oddsThat_8 (by decide) (fun c_26 => ?_) (fun c_26 => ?_)
  · have h := h.1 c_26
    refine g_sub (lv' := [(0, .ref o0)]) [0] rfl ?_
    exact kX11_oddsThat_b22 hC hR0 hR   h
  · have h := h.2 c_26
    refine g_aload_n (pc := 11) hC 0 dX11_oddsThat_11 rfl rfl ?_
    refine getX11_7 (pc := 12) hC (F := fun Z => Z) (X := []) (fun _ => rfl) fl_X11_46 dX11_oddsThat_12 ?_
    refine g_iload_n (pc := 15) hC 2 dX11_oddsThat_15 rfl rfl ?_
    refine g_callV_i (pc := 16) (wd := fun (u : St) Y => (wX2 (a0 7) aH (xy C) u Y)) (F := fun Z => (wX11 o0 a0 (xy C) u0 Z)) (X := (wX11 o0 a0 (xy C) u0 [])) (As := [.int x2]) (rest := []) (u := u1) hC (fun _ _ => rfl) (fun _ => rfl) (ctX2_isDebt h) wvX2_isDebt ml_X11_222 (ci := 1) (q0 := 0) rfl rfl rfl rfl (rmok hR0 rfl) ⟨Nat.zero_le _, Nat.zero_le _⟩ rfl (Nat.le_of_ble_eq_true rfl) dX11_oddsThat_16 (fun r_28 u_27 h => ?_)
    refine g_if_ne (pc := 19) (tgt := 28) hC dX11_oddsThat_19 (by decide) (fun c_30 => ?_) (fun c_30 => ?_)
    · have h := h.1 c_30
      refine g_aload_n (pc := 28) hC 0 dX11_oddsThat_28 rfl rfl ?_
      refine getX11_7 (pc := 29) hC (F := fun Z => Z) (X := []) (fun _ => rfl) fl_X11_46 dX11_oddsThat_29 ?_
      refine g_iload_n (pc := 32) hC 1 dX11_oddsThat_32 rfl rfl ?_
      refine g_iconst (pc := 33) (v := 0) hC dX11_oddsThat_33 (by decide) ?_
      refine g_callV_i (pc := 34) (wd := fun (u : St) Y => (wX2 (a0 7) aH (xy C) u Y)) (F := fun Z => (wX11 o0 a0 (xy C) u0 Z)) (X := (wX11 o0 a0 (xy C) u0 [])) (As := [.int x1, .int (0 : Int32)]) (rest := []) (u := u_27) hC (fun _ _ => rfl) (fun _ => rfl) (ctX2_countSums h) wvX2_countSums ml_X11_324 (ci := 1) (q0 := 0) rfl rfl rfl rfl (rmok hR0 rfl) ⟨Nat.zero_le _, Nat.zero_le _⟩ rfl (Nat.le_of_ble_eq_true rfl) dX11_oddsThat_34 (fun r_32 u_31 h => ?_)
      refine g_istore_n (pc := 37) (lv' := [(3, .int r_32), (0, .ref o0), (1, .int x1), (2, .int x2)]) hC dX11_oddsThat_37 rfl (Nat.le_of_ble_eq_true rfl) rfl ?_
      refine g_iload_n (pc := 38) hC 0 dX11_oddsThat_38 rfl rfl ?_
      refine g_if_ne (pc := 39) (tgt := 49) hC dX11_oddsThat_39 (by decide) (fun c_34 => ?_) (fun c_34 => ?_)
      · have h := h.1 c_34
        refine g_aload_n (pc := 49) hC 1 dX11_oddsThat_49 rfl rfl ?_
        refine g_aload_n (pc := 50) hC 1 dX11_oddsThat_50 rfl rfl ?_
        refine getX11_7 (pc := 51) hC (F := fun Z => Z) (X := []) (fun _ => rfl) fl_X11_46 dX11_oddsThat_51 ?_
        refine g_iload_n (pc := 54) hC 2 dX11_oddsThat_54 rfl rfl ?_
        refine g_iconst (pc := 55) (v := 1) hC dX11_oddsThat_55 (by decide) ?_
        refine g_iload_n (pc := 56) hC 3 dX11_oddsThat_56 rfl rfl ?_
        refine g_ishl (pc := 57) hC dX11_oddsThat_57 ?_
        refine g_callV_i (pc := 58) (wd := fun (u : St) Y => (wX2 (a0 7) aH (xy C) u Y)) (F := fun Z => (wX11 o0 a0 (xy C) u0 Z)) (X := (wX11 o0 a0 (xy C) u0 [])) (As := [.int x1, .int ((1 : Int32) <<< (x2 &&& 31))]) (rest := [.ref o0]) (u := u_31) hC (fun _ _ => rfl) (fun _ => rfl) (ctX2_countSums h) wvX2_countSums ml_X11_324 (ci := 1) (q0 := 0) rfl rfl rfl rfl (rmok hR0 rfl) ⟨Nat.zero_le _, Nat.zero_le _⟩ rfl (Nat.le_of_ble_eq_true rfl) dX11_oddsThat_58 (fun r_36 u_35 h => ?_)
        refine g_i2l (pc := 61) hC dX11_oddsThat_61 ?_
        refine g_iload_n (pc := 62) hC 0 dX11_oddsThat_62 rfl rfl ?_
        refine g_i2l (pc := 63) hC dX11_oddsThat_63 ?_
        refine g_callV_i (pc := 64) (wd := fun (u : St) Y => (wX11 o0 a0 (xy C) u Y)) (F := fun Z => Z) (X := []) (As := [.long (r_36).toInt64, .long (r_32).toInt64]) (rest := []) (u := u0) hC (fun _ _ => rfl) (fun _ => rfl) (ctX11_tellFraction h) wvX11_tellFraction ml_X11_330 (ci := 9) (q0 := 0) rfl rfl rfl rfl (rmok hR0 rfl) ⟨Nat.zero_le _, Nat.zero_le _⟩ rfl (Nat.le_of_ble_eq_true rfl) dX11_oddsThat_64 (fun r_39 u_38 h => ?_)
        exact hR _ _ _ (u_38, u_35) dX11_oddsThat_67 h.1 h.2
      · have h := h.2 c_34
        refine g_aload_n (pc := 42) hC 1 dX11_oddsThat_42 rfl rfl ?_
        refine g_bipush (pc := 43) (v := 6) hC dX11_oddsThat_43 (by decide) ?_
        refine g_callV_i (pc := 45) (wd := fun (u : St) Y => (wX11 o0 a0 (xy C) u Y)) (F := fun Z => Z) (X := []) (As := [.int (6 : Int32)]) (rest := []) (u := u0) hC (fun _ _ => rfl) (fun _ => rfl) (ctX11_deny h) wvX11_deny ml_X11_108 (ci := 9) (q0 := 0) rfl rfl rfl rfl (rmok hR0 rfl) ⟨Nat.zero_le _, Nat.zero_le _⟩ rfl (Nat.le_of_ble_eq_true rfl) dX11_oddsThat_45 (fun r_42 u_41 h => ?_)
        exact hR _ _ _ (u_41, u_31) dX11_oddsThat_48 h.1 h.2
    · have h := h.2 c_30
      refine g_sub (lv' := [(0, .ref o0)]) [0] rfl ?_
      exact kX11_oddsThat_b22 hC hR0 hR   h
theorem ctX11_oddsThat {l : Launch} {D : va_G} {cy : Nat → ClassId} {kd : Nat → Nat} {o0 : Nat} {a0 : Nat → Nat} {aH : Nat → Nat} {x1 : Int32} {x2 : Int32} {u0 : St} {u1 : St} {post : Int32 → St → St → Prop} (h : qX11_oddsThat x1 x2 u0 u1 post) : CtI l D cy kd yX11_oddsThat cX11_oddsThat 4 5 .boolean [.ref o0, .int x1, .int x2] (fun u : St × St => (wX11 o0 a0 cy u.1 (wX2 (a0 7) aH cy u.2 []))) (u0, u1) (fun r u => post r u.1 u.2) := met_z (by decide) (Nat.le_of_ble_eq_true rfl) (fun C e1 e2 e3 e4 e5 hC hR => by subst e1 e2 e3 e4; exact kX11_oddsThat hC e5 hR h)
theorem dX11_lookAtTwos_0 : decode cX11_lookAtTwos 0 = .ok (.iload_n 1, 1) := by decide +kernel
theorem dX11_lookAtTwos_1 : decode cX11_lookAtTwos 1 = .ok (.iconst 1, 1) := by decide +kernel
theorem dX11_lookAtTwos_2 : decode cX11_lookAtTwos 2 = .ok (.bipush 99, 2) := by decide +kernel
theorem dX11_lookAtTwos_4 : decode cX11_lookAtTwos 4 = .ok (.invokestatic 104, 3) := by decide +kernel
theorem dX11_lookAtTwos_7 : decode cX11_lookAtTwos 7 = .ok (.ifCond .eq 24, 3) := by decide +kernel
theorem dX11_lookAtTwos_10 : decode cX11_lookAtTwos 10 = .ok (.aload_n 0, 1) := by decide +kernel
theorem dX11_lookAtTwos_11 : decode cX11_lookAtTwos 11 = .ok (.getfield 30, 3) := by decide +kernel
theorem dX11_lookAtTwos_14 : decode cX11_lookAtTwos 14 = .ok (.iload_n 2, 1) := by decide +kernel
theorem dX11_lookAtTwos_15 : decode cX11_lookAtTwos 15 = .ok (.invokevirtual 100, 3) := by decide +kernel
theorem dX11_lookAtTwos_18 : decode cX11_lookAtTwos 18 = .ok (.ifCond .eq 13, 3) := by decide +kernel
theorem dX11_lookAtTwos_21 : decode cX11_lookAtTwos 21 = .ok (.iload_n 3, 1) := by decide +kernel
theorem dX11_lookAtTwos_22 : decode cX11_lookAtTwos 22 = .ok (.iconst 0, 1) := by decide +kernel
theorem dX11_lookAtTwos_23 : decode cX11_lookAtTwos 23 = .ok (.bipush 20, 2) := by decide +kernel
theorem dX11_lookAtTwos_25 : decode cX11_lookAtTwos 25 = .ok (.invokestatic 104, 3) := by decide +kernel
theorem dX11_lookAtTwos_28 : decode cX11_lookAtTwos 28 = .ok (.ifCond .ne 5, 3) := by decide +kernel
theorem dX11_lookAtTwos_31 : decode cX11_lookAtTwos 31 = .ok (.iconst 1, 1) := by decide +kernel
theorem dX11_lookAtTwos_32 : decode cX11_lookAtTwos 32 = .ok (.ireturn, 1) := by decide +kernel
theorem dX11_lookAtTwos_33 : decode cX11_lookAtTwos 33 = .ok (.aload_n 0, 1) := by decide +kernel
theorem dX11_lookAtTwos_34 : decode cX11_lookAtTwos 34 = .ok (.getfield 30, 3) := by decide +kernel
theorem dX11_lookAtTwos_37 : decode cX11_lookAtTwos 37 = .ok (.iload_n 2, 1) := by decide +kernel
theorem dX11_lookAtTwos_38 : decode cX11_lookAtTwos 38 = .ok (.invokevirtual 135, 3) := by decide +kernel
theorem dX11_lookAtTwos_41 : decode cX11_lookAtTwos 41 = .ok (.ifCond .eq 5, 3) := by decide +kernel
theorem dX11_lookAtTwos_44 : decode cX11_lookAtTwos 44 = .ok (.iconst 2, 1) := by decide +kernel
theorem dX11_lookAtTwos_45 : decode cX11_lookAtTwos 45 = .ok (.ireturn, 1) := by decide +kernel
theorem dX11_lookAtTwos_46 : decode cX11_lookAtTwos 46 = .ok (.aload_n 0, 1) := by decide +kernel
theorem dX11_lookAtTwos_47 : decode cX11_lookAtTwos 47 = .ok (.getfield 30, 3) := by decide +kernel
theorem dX11_lookAtTwos_50 : decode cX11_lookAtTwos 50 = .ok (.getfield 142, 3) := by decide +kernel
theorem dX11_lookAtTwos_53 : decode cX11_lookAtTwos 53 = .ok (.iload_n 2, 1) := by decide +kernel
theorem dX11_lookAtTwos_54 : decode cX11_lookAtTwos 54 = .ok (.iaload, 1) := by decide +kernel
theorem dX11_lookAtTwos_55 : decode cX11_lookAtTwos 55 = .ok (.iconst 2, 1) := by decide +kernel
theorem dX11_lookAtTwos_56 : decode cX11_lookAtTwos 56 = .ok (.iload_n 3, 1) := by decide +kernel
theorem dX11_lookAtTwos_57 : decode cX11_lookAtTwos 57 = .ok (.imul, 1) := by decide +kernel
theorem dX11_lookAtTwos_58 : decode cX11_lookAtTwos 58 = .ok (.if_icmp .ge 5, 3) := by decide +kernel
theorem dX11_lookAtTwos_61 : decode cX11_lookAtTwos 61 = .ok (.iconst 3, 1) := by decide +kernel
theorem dX11_lookAtTwos_62 : decode cX11_lookAtTwos 62 = .ok (.ireturn, 1) := by decide +kernel
theorem dX11_lookAtTwos_63 : decode cX11_lookAtTwos 63 = .ok (.iconst 0, 1) := by decide +kernel
theorem dX11_lookAtTwos_64 : decode cX11_lookAtTwos 64 = .ok (.istore 4, 2) := by decide +kernel
theorem dX11_lookAtTwos_66 : decode cX11_lookAtTwos 66 = .ok (.iload 4, 2) := by decide +kernel
theorem dX11_lookAtTwos_68 : decode cX11_lookAtTwos 68 = .ok (.iload_n 3, 1) := by decide +kernel
theorem dX11_lookAtTwos_69 : decode cX11_lookAtTwos 69 = .ok (.if_icmp .ge 73, 3) := by decide +kernel
theorem dX11_lookAtTwos_72 : decode cX11_lookAtTwos 72 = .ok (.aload_n 0, 1) := by decide +kernel
theorem dX11_lookAtTwos_73 : decode cX11_lookAtTwos 73 = .ok (.getfield 30, 3) := by decide +kernel
theorem dX11_lookAtTwos_76 : decode cX11_lookAtTwos 76 = .ok (.iload_n 2, 1) := by decide +kernel
theorem dX11_lookAtTwos_77 : decode cX11_lookAtTwos 77 = .ok (.iconst 2, 1) := by decide +kernel
theorem dX11_lookAtTwos_78 : decode cX11_lookAtTwos 78 = .ok (.iload 4, 2) := by decide +kernel
theorem dX11_lookAtTwos_80 : decode cX11_lookAtTwos 80 = .ok (.imul, 1) := by decide +kernel
theorem dX11_lookAtTwos_81 : decode cX11_lookAtTwos 81 = .ok (.invokevirtual 131, 3) := by decide +kernel
theorem dX11_lookAtTwos_84 : decode cX11_lookAtTwos 84 = .ok (.lstore 5, 2) := by decide +kernel
theorem dX11_lookAtTwos_86 : decode cX11_lookAtTwos 86 = .ok (.aload_n 0, 1) := by decide +kernel
theorem dX11_lookAtTwos_87 : decode cX11_lookAtTwos 87 = .ok (.getfield 30, 3) := by decide +kernel
theorem dX11_lookAtTwos_90 : decode cX11_lookAtTwos 90 = .ok (.iload_n 2, 1) := by decide +kernel
theorem dX11_lookAtTwos_91 : decode cX11_lookAtTwos 91 = .ok (.iconst 2, 1) := by decide +kernel
theorem dX11_lookAtTwos_92 : decode cX11_lookAtTwos 92 = .ok (.iload 4, 2) := by decide +kernel
theorem dX11_lookAtTwos_94 : decode cX11_lookAtTwos 94 = .ok (.imul, 1) := by decide +kernel
theorem dX11_lookAtTwos_95 : decode cX11_lookAtTwos 95 = .ok (.iconst 1, 1) := by decide +kernel
theorem dX11_lookAtTwos_96 : decode cX11_lookAtTwos 96 = .ok (.iadd, 1) := by decide +kernel
theorem dX11_lookAtTwos_97 : decode cX11_lookAtTwos 97 = .ok (.invokevirtual 131, 3) := by decide +kernel
theorem dX11_lookAtTwos_100 : decode cX11_lookAtTwos 100 = .ok (.lstore 7, 2) := by decide +kernel
theorem dX11_lookAtTwos_102 : decode cX11_lookAtTwos 102 = .ok (.lload 5, 2) := by decide +kernel
theorem dX11_lookAtTwos_104 : decode cX11_lookAtTwos 104 = .ok (.lconst 0, 1) := by decide +kernel
theorem dX11_lookAtTwos_105 : decode cX11_lookAtTwos 105 = .ok (.lcmp, 1) := by decide +kernel
theorem dX11_lookAtTwos_106 : decode cX11_lookAtTwos 106 = .ok (.ifCond .lt 28, 3) := by decide +kernel
theorem dX11_lookAtTwos_109 : decode cX11_lookAtTwos 109 = .ok (.lload 5, 2) := by decide +kernel
theorem dX11_lookAtTwos_111 : decode cX11_lookAtTwos 111 = .ok (.ldc2_w 416, 3) := by decide +kernel
theorem dX11_lookAtTwos_114 : decode cX11_lookAtTwos 114 = .ok (.lcmp, 1) := by decide +kernel
theorem dX11_lookAtTwos_115 : decode cX11_lookAtTwos 115 = .ok (.ifCond .gt 19, 3) := by decide +kernel
theorem dX11_lookAtTwos_118 : decode cX11_lookAtTwos 118 = .ok (.lload 7, 2) := by decide +kernel
theorem dX11_lookAtTwos_120 : decode cX11_lookAtTwos 120 = .ok (.lconst 0, 1) := by decide +kernel
theorem dX11_lookAtTwos_121 : decode cX11_lookAtTwos 121 = .ok (.lcmp, 1) := by decide +kernel
theorem dX11_lookAtTwos_122 : decode cX11_lookAtTwos 122 = .ok (.ifCond .lt 12, 3) := by decide +kernel
theorem dX11_lookAtTwos_125 : decode cX11_lookAtTwos 125 = .ok (.lload 7, 2) := by decide +kernel
theorem dX11_lookAtTwos_127 : decode cX11_lookAtTwos 127 = .ok (.ldc2_w 418, 3) := by decide +kernel
theorem dX11_lookAtTwos_130 : decode cX11_lookAtTwos 130 = .ok (.lcmp, 1) := by decide +kernel
theorem dX11_lookAtTwos_131 : decode cX11_lookAtTwos 131 = .ok (.ifCond .le 5, 3) := by decide +kernel
theorem dX11_lookAtTwos_134 : decode cX11_lookAtTwos 134 = .ok (.iconst 5, 1) := by decide +kernel
theorem dX11_lookAtTwos_135 : decode cX11_lookAtTwos 135 = .ok (.ireturn, 1) := by decide +kernel
theorem dX11_lookAtTwos_136 : decode cX11_lookAtTwos 136 = .ok (.iinc 4 1, 3) := by decide +kernel
theorem dX11_lookAtTwos_139 : decode cX11_lookAtTwos 139 = .ok (.goto (-73), 3) := by decide +kernel
theorem dX11_lookAtTwos_142 : decode cX11_lookAtTwos 142 = .ok (.iconst 0, 1) := by decide +kernel
theorem dX11_lookAtTwos_143 : decode cX11_lookAtTwos 143 = .ok (.ireturn, 1) := by decide +kernel
def qX11_lookAtTwos_b31   (post : Int32 → St → St → Prop)  (u0 : St) (u1 : St) : Prop := post (1 : Int32) u0 u1
set_option maxRecDepth 100000 in
set_option maxHeartbeats 4000000 in
theorem kX11_lookAtTwos_b31 {C : Cx} {o0 : Nat} {a0 : Nat → Nat} {aT : Nat → Nat} (hC : Fx C cX11_lookAtTwos 9 RX11) (hR0 : xR C = rm 3) {post : Int32 → St → St → Prop} (hR : RI C cX11_lookAtTwos 9 (fun u : St × St => (wX11 o0 a0 (xy C) u.1 (wX9 (a0 5) aT (xy C) u.2 []))) (fun r u => post r u.1 u.2))  {u0 : St} {u1 : St} (h : qX11_lookAtTwos_b31 post u0 u1) : G C 0 0 9 (wX11 o0 a0 (xy C) u0 (wX9 (a0 5) aT (xy C) u1 [])) 31 [] [] := by
  refine g_iconst (pc := 31) (v := 1) hC dX11_lookAtTwos_31 (by decide) ?_
  exact hR _ _ _ (u0, u1) dX11_lookAtTwos_32 h
def qX11_lookAtTwos_b134   (post : Int32 → St → St → Prop)  (u0 : St) (u1 : St) : Prop := post (5 : Int32) u0 u1
set_option maxRecDepth 100000 in
set_option maxHeartbeats 4000000 in
theorem kX11_lookAtTwos_b134 {C : Cx} {o0 : Nat} {a0 : Nat → Nat} {aT : Nat → Nat} (hC : Fx C cX11_lookAtTwos 9 RX11) (hR0 : xR C = rm 3) {post : Int32 → St → St → Prop} (hR : RI C cX11_lookAtTwos 9 (fun u : St × St => (wX11 o0 a0 (xy C) u.1 (wX9 (a0 5) aT (xy C) u.2 []))) (fun r u => post r u.1 u.2))  {u0 : St} {u1 : St} (h : qX11_lookAtTwos_b134 post u0 u1) : G C 0 0 9 (wX11 o0 a0 (xy C) u0 (wX9 (a0 5) aT (xy C) u1 [])) 134 [] [] := by
  refine g_iconst (pc := 134) (v := 5) hC dX11_lookAtTwos_134 (by decide) ?_
  exact hR _ _ _ (u0, u1) dX11_lookAtTwos_135 h
def qX11_lookAtTwos_l66   (post : Int32 → St → St → Prop) (K66 : Int32 → Int32 → Int32 → St → St → Prop) (x2 : Int32) (x3 : Int32) (x4 : Int32) (u0 : St) (u1 : St) : Prop := ((x3 ≤ x4 → post (0 : Int32) u0 u1) ∧ (¬ x3 ≤ x4 → qX9_at x2 ((2 : Int32) * x4) u1 (fun r_20 u_19 => qX9_at x2 (((2 : Int32) * x4) + (1 : Int32)) u_19 (fun r_23 u_22 => (((lg_cmp r_20 (0 : Int64)) < 0 → qX11_lookAtTwos_b134 post u0 u_22) ∧ (¬ (lg_cmp r_20 (0 : Int64)) < 0 → ((0 < (lg_cmp r_20 (40 : Int64)) → qX11_lookAtTwos_b134 post u0 u_22) ∧ (¬ 0 < (lg_cmp r_20 (40 : Int64)) → (((lg_cmp r_23 (0 : Int64)) < 0 → qX11_lookAtTwos_b134 post u0 u_22) ∧ (¬ (lg_cmp r_23 (0 : Int64)) < 0 → (((lg_cmp r_23 (999 : Int64)) ≤ 0 → ∀ x4_29 : Int32, x4_29 = x4 + (1 : Int32) → K66 x2 x3 x4_29 u0 u_22) ∧ (¬ (lg_cmp r_23 (999 : Int64)) ≤ 0 → qX11_lookAtTwos_b134 post u0 u_22))))))))))))
set_option maxRecDepth 100000 in
set_option maxHeartbeats 4000000 in
theorem kX11_lookAtTwos_l66 {C : Cx} {o0 : Nat} {a0 : Nat → Nat} {aT : Nat → Nat} (hC : Fx C cX11_lookAtTwos 9 RX11) (hR0 : xR C = rm 3) {post : Int32 → St → St → Prop} (hR : RI C cX11_lookAtTwos 9 (fun u : St × St => (wX11 o0 a0 (xy C) u.1 (wX9 (a0 5) aT (xy C) u.2 []))) (fun r u => post r u.1 u.2))  {K66 : Int32 → Int32 → Int32 → St → St → Prop} (hK66 : ∀ (x2 : Int32) (x3 : Int32) (x4 : Int32) (u0 : St) (u1 : St), K66 x2 x3 x4 u0 u1 → G C 0 0 9 (wX11 o0 a0 (xy C) u0 (wX9 (a0 5) aT (xy C) u1 [])) 66 [(0, .ref o0), (2, .int x2), (3, .int x3), (4, .int x4)] []) {x2 : Int32} {x3 : Int32} {x4 : Int32} {u0 : St} {u1 : St} (h : qX11_lookAtTwos_l66 post K66 x2 x3 x4 u0 u1) : G C 0 0 9 (wX11 o0 a0 (xy C) u0 (wX9 (a0 5) aT (xy C) u1 [])) 66 [(0, .ref o0), (2, .int x2), (3, .int x3), (4, .int x4)] [] := by
  refine g_iload (pc := 66) hC 3 dX11_lookAtTwos_66 rfl ?_
  refine g_iload_n (pc := 68) hC 2 dX11_lookAtTwos_68 rfl rfl ?_
  refine g_icmp_ge (pc := 69) (tgt := 142) hC dX11_lookAtTwos_69 (by decide) (fun c_18 => ?_) (fun c_18 => ?_)
  · have h := h.1 c_18
    refine g_iconst (pc := 142) (v := 0) hC dX11_lookAtTwos_142 (by decide) ?_
    exact hR _ _ _ (u0, u1) dX11_lookAtTwos_143 h
  · have h := h.2 c_18
    refine g_aload_n (pc := 72) hC 0 dX11_lookAtTwos_72 rfl rfl ?_
    refine getX11_5 (pc := 73) hC (F := fun Z => Z) (X := []) (fun _ => rfl) fl_X11_30 dX11_lookAtTwos_73 ?_
    refine g_iload_n (pc := 76) hC 1 dX11_lookAtTwos_76 rfl rfl ?_
    refine g_iconst (pc := 77) (v := 2) hC dX11_lookAtTwos_77 (by decide) ?_
    refine g_iload (pc := 78) hC 3 dX11_lookAtTwos_78 rfl ?_
    refine g_imul (pc := 80) hC dX11_lookAtTwos_80 ?_
    refine g_callV_l (pc := 81) (wd := fun (u : St) Y => (wX9 (a0 5) aT (xy C) u Y)) (F := fun Z => (wX11 o0 a0 (xy C) u0 Z)) (X := (wX11 o0 a0 (xy C) u0 [])) (As := [.int x2, .int ((2 : Int32) * x4)]) (rest := []) (u := u1) hC (fun _ _ => rfl) (fun _ => rfl) (ctX9_at h) wvX9_at ml_X11_131 (ci := 8) (q0 := 0) rfl rfl rfl rfl (rmok hR0 rfl) ⟨Nat.zero_le _, Nat.zero_le _⟩ rfl (Nat.le_of_ble_eq_true rfl) dX11_lookAtTwos_81 (fun r_20 u_19 h => ?_)
    refine g_lstore (pc := 84) (lv' := [(5, .long r_20), (0, .ref o0), (2, .int x2), (3, .int x3), (4, .int x4)]) hC dX11_lookAtTwos_84 (Nat.le_of_ble_eq_true rfl) rfl ?_
    refine g_aload_n (pc := 86) hC 1 dX11_lookAtTwos_86 rfl rfl ?_
    refine getX11_5 (pc := 87) hC (F := fun Z => Z) (X := []) (fun _ => rfl) fl_X11_30 dX11_lookAtTwos_87 ?_
    refine g_iload_n (pc := 90) hC 2 dX11_lookAtTwos_90 rfl rfl ?_
    refine g_iconst (pc := 91) (v := 2) hC dX11_lookAtTwos_91 (by decide) ?_
    refine g_iload (pc := 92) hC 4 dX11_lookAtTwos_92 rfl ?_
    refine g_imul (pc := 94) hC dX11_lookAtTwos_94 ?_
    refine g_iconst (pc := 95) (v := 1) hC dX11_lookAtTwos_95 (by decide) ?_
    refine g_iadd (pc := 96) hC dX11_lookAtTwos_96 ?_
    refine g_callV_l (pc := 97) (wd := fun (u : St) Y => (wX9 (a0 5) aT (xy C) u Y)) (F := fun Z => (wX11 o0 a0 (xy C) u0 Z)) (X := (wX11 o0 a0 (xy C) u0 [])) (As := [.int x2, .int (((2 : Int32) * x4) + (1 : Int32))]) (rest := []) (u := u_19) hC (fun _ _ => rfl) (fun _ => rfl) (ctX9_at h) wvX9_at ml_X11_131 (ci := 8) (q0 := 0) rfl rfl rfl rfl (rmok hR0 rfl) ⟨Nat.zero_le _, Nat.zero_le _⟩ rfl (Nat.le_of_ble_eq_true rfl) dX11_lookAtTwos_97 (fun r_23 u_22 h => ?_)
    refine g_lstore (pc := 100) (lv' := [(7, .long r_23), (5, .long r_20), (0, .ref o0), (2, .int x2), (3, .int x3), (4, .int x4)]) hC dX11_lookAtTwos_100 (Nat.le_of_ble_eq_true rfl) rfl ?_
    refine g_lload (pc := 102) hC 1 dX11_lookAtTwos_102 rfl ?_
    refine g_lconst (pc := 104) (v := 0) hC dX11_lookAtTwos_104 (by decide) ?_
    refine g_lcmp (pc := 105) hC dX11_lookAtTwos_105 ?_
    refine g_if_lt (pc := 106) (tgt := 134) hC dX11_lookAtTwos_106 (by decide) (fun c_25 => ?_) (fun c_25 => ?_)
    · have h := h.1 c_25
      refine g_sub (lv' := []) [] rfl ?_
      exact kX11_lookAtTwos_b134 hC hR0 hR   h
    · have h := h.2 c_25
      refine g_lload (pc := 109) hC 1 dX11_lookAtTwos_109 rfl ?_
      refine g_ldc2 (pc := 111) hC cn_X11_416 dX11_lookAtTwos_111 ?_
      refine g_lcmp (pc := 114) hC dX11_lookAtTwos_114 ?_
      refine g_if_gt (pc := 115) (tgt := 134) hC dX11_lookAtTwos_115 (by decide) (fun c_26 => ?_) (fun c_26 => ?_)
      · have h := h.1 c_26
        refine g_sub (lv' := []) [] rfl ?_
        exact kX11_lookAtTwos_b134 hC hR0 hR   h
      · have h := h.2 c_26
        refine g_lload (pc := 118) hC 0 dX11_lookAtTwos_118 rfl ?_
        refine g_lconst (pc := 120) (v := 0) hC dX11_lookAtTwos_120 (by decide) ?_
        refine g_lcmp (pc := 121) hC dX11_lookAtTwos_121 ?_
        refine g_if_lt (pc := 122) (tgt := 134) hC dX11_lookAtTwos_122 (by decide) (fun c_27 => ?_) (fun c_27 => ?_)
        · have h := h.1 c_27
          refine g_sub (lv' := []) [] rfl ?_
          exact kX11_lookAtTwos_b134 hC hR0 hR   h
        · have h := h.2 c_27
          refine g_lload (pc := 125) hC 0 dX11_lookAtTwos_125 rfl ?_
          refine g_ldc2 (pc := 127) hC cn_X11_418 dX11_lookAtTwos_127 ?_
          refine g_lcmp (pc := 130) hC dX11_lookAtTwos_130 ?_
          refine g_if_le (pc := 131) (tgt := 136) hC dX11_lookAtTwos_131 (by decide) (fun c_28 => ?_) (fun c_28 => ?_)
          · have h := h.1 c_28
            obtain ⟨x4_29, ex4_29⟩ : ∃ z : Int32, z = x4 + (1 : Int32) := ⟨_, rfl⟩
            have h := h x4_29 ex4_29
            refine g_iinc (pc := 136) (v := x4_29) (lv' := [(4, .int x4_29), (7, .long r_23), (5, .long r_20), (0, .ref o0), (2, .int x2), (3, .int x3)]) hC 5 dX11_lookAtTwos_136 rfl (by rw [ex4_29]; rfl) (Nat.le_of_ble_eq_true rfl) rfl ?_
            refine g_goto (pc := 139) (tgt := 66) hC dX11_lookAtTwos_139 (by decide) ?_
            refine g_sub (lv' := [(0, .ref o0), (2, .int x2), (3, .int x3), (4, .int x4_29)]) [3, 4, 5, 0] rfl ?_
            exact hK66 _ _ _ _ _ h
          · have h := h.2 c_28
            refine g_sub (lv' := []) [] rfl ?_
            exact kX11_lookAtTwos_b134 hC hR0 hR   h
def qX11_lookAtTwos_L66   (post : Int32 → St → St → Prop)  : Nat → Int32 → Int32 → Int32 → St → St → Prop
  | 0 => fun _ _ _ _ _ => False
  | n + 1 => qX11_lookAtTwos_l66 post (qX11_lookAtTwos_L66 post n)
theorem kX11_lookAtTwos_L66 {C : Cx} {o0 : Nat} {a0 : Nat → Nat} {aT : Nat → Nat} (hC : Fx C cX11_lookAtTwos 9 RX11) (hR0 : xR C = rm 3) {post : Int32 → St → St → Prop} (hR : RI C cX11_lookAtTwos 9 (fun u : St × St => (wX11 o0 a0 (xy C) u.1 (wX9 (a0 5) aT (xy C) u.2 []))) (fun r u => post r u.1 u.2))  : ∀ (n : Nat) (x2 : Int32) (x3 : Int32) (x4 : Int32) (u0 : St) (u1 : St), qX11_lookAtTwos_L66 post n x2 x3 x4 u0 u1 → G C 0 0 9 (wX11 o0 a0 (xy C) u0 (wX9 (a0 5) aT (xy C) u1 [])) 66 [(0, .ref o0), (2, .int x2), (3, .int x3), (4, .int x4)] [] := by
  intro n
  induction n with
  | zero => intro x2 x3 x4 u0 u1 h; exact h.elim
  | succ n ih => intro x2 x3 x4 u0 u1 h; exact kX11_lookAtTwos_l66 hC hR0 hR   ih h
def qX11_lookAtTwos  (x1 : Int32) (x2 : Int32) (x3 : Int32) (u0 : St) (u1 : St) (post : Int32 → St → St → Prop) : Prop := qX11_within x1 (1 : Int32) (99 : Int32) (fun r_30 => ((r_30 = 0 → qX11_lookAtTwos_b31 post u0 u1) ∧ (¬ r_30 = 0 → qX9_isTray x2 u1 (fun r_34 u_33 => ((r_34 = 0 → qX11_lookAtTwos_b31 post u0 u_33) ∧ (¬ r_34 = 0 → qX11_within x3 (0 : Int32) (20 : Int32) (fun r_37 => ((¬ r_37 = 0 → qX9_isMissing x2 u_33 (fun r_41 u_40 => ((r_41 = 0 → (vp_in x2 4 ∧ ((((2 : Int32) * x3) ≤ (ga u_40 2 (x2).toNatClampNeg) → ∃ n_45 : Nat, qX11_lookAtTwos_L66 post n_45 x2 x3 (0 : Int32) u0 u_40) ∧ (¬ ((2 : Int32) * x3) ≤ (ga u_40 2 (x2).toNatClampNeg) → post (3 : Int32) u0 u_40)))) ∧ (¬ r_41 = 0 → post (2 : Int32) u0 u_40)))) ∧ (r_37 = 0 → qX11_lookAtTwos_b31 post u0 u_33)))))))))
set_option maxRecDepth 100000 in
set_option maxHeartbeats 4000000 in
theorem kX11_lookAtTwos {C : Cx} {o0 : Nat} {a0 : Nat → Nat} {aT : Nat → Nat} (hC : Fx C cX11_lookAtTwos 9 RX11) (hR0 : xR C = rm 3) {post : Int32 → St → St → Prop} (hR : RI C cX11_lookAtTwos 9 (fun u : St × St => (wX11 o0 a0 (xy C) u.1 (wX9 (a0 5) aT (xy C) u.2 []))) (fun r u => post r u.1 u.2)) {x1 : Int32} {x2 : Int32} {x3 : Int32} {u0 : St} {u1 : St} (h : qX11_lookAtTwos  x1 x2 x3 u0 u1 post) : G C 0 0 9 (wX11 o0 a0 (xy C) u0 (wX9 (a0 5) aT (xy C) u1 [])) 0 [(0, .ref o0), (1, .int x1), (2, .int x2), (3, .int x3)] [] := by
  refine g_iload_n (pc := 0) hC 1 dX11_lookAtTwos_0 rfl rfl ?_
  refine g_iconst (pc := 1) (v := 1) hC dX11_lookAtTwos_1 (by decide) ?_
  refine g_bipush (pc := 2) (v := 99) hC dX11_lookAtTwos_2 (by decide) ?_
  refine g_callS_i (pc := 4) (wd := fun (_ : Unit) Y => Y) (F := fun Z => Z) (X := []) (As := [.int x1, .int (1 : Int32), .int (99 : Int32)]) (rest := []) (u := ()) hC (fun _ _ => rfl) (fun _ => rfl) (ctX11_within h) wvX11_within ml_X11_104 rfl (rmok hR0 rfl) ⟨Nat.zero_le _, Nat.zero_le _⟩ rfl (Nat.le_of_ble_eq_true rfl) dX11_lookAtTwos_4 (fun r_30 u_31 h => ?_)
  refine g_if_eq (pc := 7) (tgt := 31) hC dX11_lookAtTwos_7 (by decide) (fun c_32 => ?_) (fun c_32 => ?_)
  · have h := h.1 c_32
    refine g_sub (lv' := []) [] rfl ?_
    exact kX11_lookAtTwos_b31 hC hR0 hR   h
  · have h := h.2 c_32
    refine g_aload_n (pc := 10) hC 0 dX11_lookAtTwos_10 rfl rfl ?_
    refine getX11_5 (pc := 11) hC (F := fun Z => Z) (X := []) (fun _ => rfl) fl_X11_30 dX11_lookAtTwos_11 ?_
    refine g_iload_n (pc := 14) hC 2 dX11_lookAtTwos_14 rfl rfl ?_
    refine g_callV_i (pc := 15) (wd := fun (u : St) Y => (wX9 (a0 5) aT (xy C) u Y)) (F := fun Z => (wX11 o0 a0 (xy C) u0 Z)) (X := (wX11 o0 a0 (xy C) u0 [])) (As := [.int x2]) (rest := []) (u := u1) hC (fun _ _ => rfl) (fun _ => rfl) (ctX9_isTray h) wvX9_isTray ml_X11_100 (ci := 8) (q0 := 0) rfl rfl rfl rfl (rmok hR0 rfl) ⟨Nat.zero_le _, Nat.zero_le _⟩ rfl (Nat.le_of_ble_eq_true rfl) dX11_lookAtTwos_15 (fun r_34 u_33 h => ?_)
    refine g_if_eq (pc := 18) (tgt := 31) hC dX11_lookAtTwos_18 (by decide) (fun c_36 => ?_) (fun c_36 => ?_)
    · have h := h.1 c_36
      refine g_sub (lv' := []) [] rfl ?_
      exact kX11_lookAtTwos_b31 hC hR0 hR   h
    · have h := h.2 c_36
      refine g_iload_n (pc := 21) hC 3 dX11_lookAtTwos_21 rfl rfl ?_
      refine g_iconst (pc := 22) (v := 0) hC dX11_lookAtTwos_22 (by decide) ?_
      refine g_bipush (pc := 23) (v := 20) hC dX11_lookAtTwos_23 (by decide) ?_
      refine g_callS_i (pc := 25) (wd := fun (_ : Unit) Y => Y) (F := fun Z => Z) (X := []) (As := [.int x3, .int (0 : Int32), .int (20 : Int32)]) (rest := []) (u := ()) hC (fun _ _ => rfl) (fun _ => rfl) (ctX11_within h) wvX11_within ml_X11_104 rfl (rmok hR0 rfl) ⟨Nat.zero_le _, Nat.zero_le _⟩ rfl (Nat.le_of_ble_eq_true rfl) dX11_lookAtTwos_25 (fun r_37 u_38 h => ?_)
      refine g_if_ne (pc := 28) (tgt := 33) hC dX11_lookAtTwos_28 (by decide) (fun c_39 => ?_) (fun c_39 => ?_)
      · have h := h.1 c_39
        refine g_aload_n (pc := 33) hC 0 dX11_lookAtTwos_33 rfl rfl ?_
        refine getX11_5 (pc := 34) hC (F := fun Z => Z) (X := []) (fun _ => rfl) fl_X11_30 dX11_lookAtTwos_34 ?_
        refine g_iload_n (pc := 37) hC 2 dX11_lookAtTwos_37 rfl rfl ?_
        refine g_callV_i (pc := 38) (wd := fun (u : St) Y => (wX9 (a0 5) aT (xy C) u Y)) (F := fun Z => (wX11 o0 a0 (xy C) u0 Z)) (X := (wX11 o0 a0 (xy C) u0 [])) (As := [.int x2]) (rest := []) (u := u_33) hC (fun _ _ => rfl) (fun _ => rfl) (ctX9_isMissing h) wvX9_isMissing ml_X11_135 (ci := 8) (q0 := 0) rfl rfl rfl rfl (rmok hR0 rfl) ⟨Nat.zero_le _, Nat.zero_le _⟩ rfl (Nat.le_of_ble_eq_true rfl) dX11_lookAtTwos_38 (fun r_41 u_40 h => ?_)
        refine g_if_eq (pc := 41) (tgt := 46) hC dX11_lookAtTwos_41 (by decide) (fun c_43 => ?_) (fun c_43 => ?_)
        · have h := h.1 c_43
          refine g_aload_n (pc := 46) hC 0 dX11_lookAtTwos_46 rfl rfl ?_
          refine getX11_5 (pc := 47) hC (F := fun Z => Z) (X := []) (fun _ => rfl) fl_X11_30 dX11_lookAtTwos_47 ?_
          refine getX9_2 (pc := 50) hC (F := fun Z => (wX11 o0 a0 (xy C) u0 Z)) (X := (wX11 o0 a0 (xy C) u0 [])) (fun _ => rfl) fl_X11_142 dX11_lookAtTwos_50 ?_
          refine g_iload_n (pc := 53) hC 2 dX11_lookAtTwos_53 rfl rfl ?_
          refine aldX9_2 (pc := 54) hC (F := fun Z => (wX11 o0 a0 (xy C) u0 Z)) (X := (wX11 o0 a0 (xy C) u0 [])) (fun _ => rfl) h.1 dX11_lookAtTwos_54 ?_
          have h := h.2
          refine g_iconst (pc := 55) (v := 2) hC dX11_lookAtTwos_55 (by decide) ?_
          refine g_iload_n (pc := 56) hC 3 dX11_lookAtTwos_56 rfl rfl ?_
          refine g_imul (pc := 57) hC dX11_lookAtTwos_57 ?_
          refine g_icmp_ge (pc := 58) (tgt := 63) hC dX11_lookAtTwos_58 (by decide) (fun c_44 => ?_) (fun c_44 => ?_)
          · have h := h.1 c_44
            refine g_iconst (pc := 63) (v := 0) hC dX11_lookAtTwos_63 (by decide) ?_
            refine g_istore (pc := 64) (lv' := [(4, .int (0 : Int32)), (0, .ref o0), (1, .int x1), (2, .int x2), (3, .int x3)]) hC dX11_lookAtTwos_64 (Nat.le_of_ble_eq_true rfl) rfl ?_
            refine g_sub (lv' := [(0, .ref o0), (2, .int x2), (3, .int x3), (4, .int (0 : Int32))]) [1, 3, 4, 0] rfl ?_
            obtain ⟨n_45, h⟩ := h
            exact kX11_lookAtTwos_L66 hC hR0 hR   n_45 _ _ _ _ _ h
          · have h := h.2 c_44
            refine g_iconst (pc := 61) (v := 3) hC dX11_lookAtTwos_61 (by decide) ?_
            exact hR _ _ _ (u0, u_40) dX11_lookAtTwos_62 h
        · have h := h.2 c_43
          refine g_iconst (pc := 44) (v := 2) hC dX11_lookAtTwos_44 (by decide) ?_
          exact hR _ _ _ (u0, u_40) dX11_lookAtTwos_45 h
      · have h := h.2 c_39
        refine g_sub (lv' := []) [] rfl ?_
        exact kX11_lookAtTwos_b31 hC hR0 hR   h
theorem ctX11_lookAtTwos {l : Launch} {D : va_G} {cy : Nat → ClassId} {kd : Nat → Nat} {o0 : Nat} {a0 : Nat → Nat} {aT : Nat → Nat} {x1 : Int32} {x2 : Int32} {x3 : Int32} {u0 : St} {u1 : St} {post : Int32 → St → St → Prop} (h : qX11_lookAtTwos x1 x2 x3 u0 u1 post) : CtI l D cy kd yX11_lookAtTwos cX11_lookAtTwos 9 3 .int [.ref o0, .int x1, .int x2, .int x3] (fun u : St × St => (wX11 o0 a0 cy u.1 (wX9 (a0 5) aT cy u.2 []))) (u0, u1) (fun r u => post r u.1 u.2) := met_i (by decide) (Nat.le_of_ble_eq_true rfl) (fun C e1 e2 e3 e4 e5 hC hR => by subst e1 e2 e3 e4; exact kX11_lookAtTwos hC e5 hR h)
theorem dX11_fits_0 : decode cX11_fits 0 = .ok (.aload_n 0, 1) := by decide +kernel
theorem dX11_fits_1 : decode cX11_fits 1 = .ok (.iload_n 1, 1) := by decide +kernel
theorem dX11_fits_2 : decode cX11_fits 2 = .ok (.iload_n 2, 1) := by decide +kernel
theorem dX11_fits_3 : decode cX11_fits 3 = .ok (.iload_n 3, 1) := by decide +kernel
theorem dX11_fits_4 : decode cX11_fits 4 = .ok (.invokevirtual 334, 3) := by decide +kernel
theorem dX11_fits_7 : decode cX11_fits 7 = .ok (.istore 4, 2) := by decide +kernel
theorem dX11_fits_9 : decode cX11_fits 9 = .ok (.iload 4, 2) := by decide +kernel
theorem dX11_fits_11 : decode cX11_fits 11 = .ok (.ifCond .eq 10, 3) := by decide +kernel
theorem dX11_fits_14 : decode cX11_fits 14 = .ok (.aload_n 0, 1) := by decide +kernel
theorem dX11_fits_15 : decode cX11_fits 15 = .ok (.iload 4, 2) := by decide +kernel
theorem dX11_fits_17 : decode cX11_fits 17 = .ok (.invokevirtual 127, 3) := by decide +kernel
theorem dX11_fits_20 : decode cX11_fits 20 = .ok (.ireturn, 1) := by decide +kernel
theorem dX11_fits_21 : decode cX11_fits 21 = .ok (.aload_n 0, 1) := by decide +kernel
theorem dX11_fits_22 : decode cX11_fits 22 = .ok (.aload_n 0, 1) := by decide +kernel
theorem dX11_fits_23 : decode cX11_fits 23 = .ok (.getfield 96, 3) := by decide +kernel
theorem dX11_fits_26 : decode cX11_fits 26 = .ok (.iload_n 1, 1) := by decide +kernel
theorem dX11_fits_27 : decode cX11_fits 27 = .ok (.aload_n 0, 1) := by decide +kernel
theorem dX11_fits_28 : decode cX11_fits 28 = .ok (.getfield 30, 3) := by decide +kernel
theorem dX11_fits_31 : decode cX11_fits 31 = .ok (.iload_n 2, 1) := by decide +kernel
theorem dX11_fits_32 : decode cX11_fits 32 = .ok (.iload_n 3, 1) := by decide +kernel
theorem dX11_fits_33 : decode cX11_fits 33 = .ok (.invokevirtual 338, 3) := by decide +kernel
theorem dX11_fits_36 : decode cX11_fits 36 = .ok (.invokestatic 267, 3) := by decide +kernel
theorem dX11_fits_39 : decode cX11_fits 39 = .ok (.invokevirtual 166, 3) := by decide +kernel
theorem dX11_fits_42 : decode cX11_fits 42 = .ok (.ireturn, 1) := by decide +kernel
def qX11_fits  (x1 : Int32) (x2 : Int32) (x3 : Int32) (u0 : St) (u1 : St) (u2 : St) (post : Int32 → St → St → St → Prop) : Prop := qX11_lookAtTwos x1 x2 x3 u0 u1 (fun r_19 u_17 u_18 => ((r_19 = 0 → qX5_fitting x1 x2 x3 u2 u_18 (fun r_24 u_22 u_23 => qJ6_bitCount_0f7a4 r_24 (fun r_26 => qX11_answer r_26 u_17 (fun r_29 u_28 => post r_29 u_28 u_23 u_22)))) ∧ (¬ r_19 = 0 → qX11_refuse r_19 u_17 (fun r_32 u_31 => post r_32 u_31 u_18 u2))))
set_option maxRecDepth 100000 in
set_option maxHeartbeats 4000000 in
theorem kX11_fits {C : Cx} {o0 : Nat} {a0 : Nat → Nat} {aT : Nat → Nat} {aQ : Nat → Nat} (hC : Fx C cX11_fits 5 RX11) (hR0 : xR C = rm 5) {post : Int32 → St → St → St → Prop} (hR : RI C cX11_fits 5 (fun u : St × St × St => (wX11 o0 a0 (xy C) u.1 (wX9 (a0 5) aT (xy C) u.2.1 (wX5 (a0 17) aQ (xy C) u.2.2 [])))) (fun r u => post r u.1 u.2.1 u.2.2)) {x1 : Int32} {x2 : Int32} {x3 : Int32} {u0 : St} {u1 : St} {u2 : St} (h : qX11_fits  x1 x2 x3 u0 u1 u2 post) : G C 0 0 5 (wX11 o0 a0 (xy C) u0 (wX9 (a0 5) aT (xy C) u1 (wX5 (a0 17) aQ (xy C) u2 []))) 0 [(0, .ref o0), (1, .int x1), (2, .int x2), (3, .int x3)] [] := by
  refine g_aload_n (pc := 0) hC 0 dX11_fits_0 rfl rfl ?_
  refine g_iload_n (pc := 1) hC 1 dX11_fits_1 rfl rfl ?_
  refine g_iload_n (pc := 2) hC 2 dX11_fits_2 rfl rfl ?_
  refine g_iload_n (pc := 3) hC 3 dX11_fits_3 rfl rfl ?_
  refine g_callV_i (pc := 4) (wd := fun (u : St × St) Y => (wX11 o0 a0 (xy C) u.1 (wX9 (a0 5) aT (xy C) u.2 Y))) (F := fun Z => Z) (X := []) (As := [.int x1, .int x2, .int x3]) (rest := []) (u := (u0, u1)) hC (fun _ _ => rfl) (fun _ => rfl) (ctX11_lookAtTwos h) wvX11_lookAtTwos ml_X11_334 (ci := 9) (q0 := 0) rfl rfl rfl rfl (rmok hR0 rfl) ⟨Nat.zero_le _, Nat.zero_le _⟩ rfl (Nat.le_of_ble_eq_true rfl) dX11_fits_4 (fun r_19 u_20 h => ?_)
  obtain ⟨u_17, u_18⟩ := u_20
  refine g_istore (pc := 7) (lv' := [(4, .int r_19), (0, .ref o0), (1, .int x1), (2, .int x2), (3, .int x3)]) hC dX11_fits_7 (Nat.le_of_ble_eq_true rfl) rfl ?_
  refine g_iload (pc := 9) hC 0 dX11_fits_9 rfl ?_
  refine g_if_eq (pc := 11) (tgt := 21) hC dX11_fits_11 (by decide) (fun c_21 => ?_) (fun c_21 => ?_)
  · have h := h.1 c_21
    refine g_aload_n (pc := 21) hC 1 dX11_fits_21 rfl rfl ?_
    refine g_aload_n (pc := 22) hC 1 dX11_fits_22 rfl rfl ?_
    refine getX11_17 (pc := 23) hC (F := fun Z => Z) (X := []) (fun _ => rfl) fl_X11_96 dX11_fits_23 ?_
    refine g_iload_n (pc := 26) hC 2 dX11_fits_26 rfl rfl ?_
    refine g_aload_n (pc := 27) hC 1 dX11_fits_27 rfl rfl ?_
    refine getX11_5 (pc := 28) hC (F := fun Z => Z) (X := []) (fun _ => rfl) fl_X11_30 dX11_fits_28 ?_
    refine g_iload_n (pc := 31) hC 3 dX11_fits_31 rfl rfl ?_
    refine g_iload_n (pc := 32) hC 4 dX11_fits_32 rfl rfl ?_
    refine g_swap (F := fun Z => (wX11 o0 a0 (xy C) u_17 Z)) (X := (wX11 o0 a0 (xy C) u_17 [])) (f := fun Z => (wX9 (a0 5) aT (xy C) u_18 Z)) (g := fun Z => (wX5 (a0 17) aQ (xy C) u2 Z)) (Y := []) (fun _ => rfl) (fun _ => rfl) (fun _ => rfl) ?_
    refine g_callV_i (pc := 33) (wd := fun (u : St × St) Y => (wX5 (a0 17) aQ (xy C) u.1 (wX9 (a0 5) aT (xy C) u.2 Y))) (F := fun Z => (wX11 o0 a0 (xy C) u_17 Z)) (X := (wX11 o0 a0 (xy C) u_17 [])) (As := [.int x1, .ref (a0 5), .int x2, .int x3]) (rest := [.ref o0]) (u := (u2, u_18)) hC (fun _ _ => rfl) (fun _ => rfl) (ctX5_fitting h) wvX5_fitting ml_X11_338 (ci := 4) (q0 := 0) rfl rfl rfl rfl (rmok hR0 rfl) ⟨Nat.zero_le _, Nat.zero_le _⟩ rfl (Nat.le_of_ble_eq_true rfl) dX11_fits_33 (fun r_24 u_25 h => ?_)
    obtain ⟨u_22, u_23⟩ := u_25
    refine g_callS_i (pc := 36) (wd := fun (_ : Unit) Y => Y) (F := fun Z => Z) (X := []) (As := [.int r_24]) (rest := [.ref o0]) (u := ()) hC (fun _ _ => rfl) (fun _ => rfl) (ctJ6_bitCount_0f7a4 h) wvJ6_bitCount_0f7a4 ml_X11_267 rfl (rmok hR0 rfl) ⟨Nat.zero_le _, Nat.zero_le _⟩ rfl (Nat.le_of_ble_eq_true rfl) dX11_fits_36 (fun r_26 u_27 h => ?_)
    refine g_callV_i (pc := 39) (wd := fun (u : St) Y => (wX11 o0 a0 (xy C) u Y)) (F := fun Z => Z) (X := []) (As := [.int r_26]) (rest := []) (u := u_17) hC (fun _ _ => rfl) (fun _ => rfl) (ctX11_answer h) wvX11_answer ml_X11_166 (ci := 9) (q0 := 0) rfl rfl rfl rfl (rmok hR0 rfl) ⟨Nat.zero_le _, Nat.zero_le _⟩ rfl (Nat.le_of_ble_eq_true rfl) dX11_fits_39 (fun r_29 u_28 h => ?_)
    refine g_swap (F := fun Z => (wX11 o0 a0 (xy C) u_28 Z)) (X := (wX11 o0 a0 (xy C) u_28 [])) (f := fun Z => (wX5 (a0 17) aQ (xy C) u_22 Z)) (g := fun Z => (wX9 (a0 5) aT (xy C) u_23 Z)) (Y := []) (fun _ => rfl) (fun _ => rfl) (fun _ => rfl) ?_
    exact hR _ _ _ (u_28, u_23, u_22) dX11_fits_42 h
  · have h := h.2 c_21
    refine g_aload_n (pc := 14) hC 1 dX11_fits_14 rfl rfl ?_
    refine g_iload (pc := 15) hC 0 dX11_fits_15 rfl ?_
    refine g_callV_i (pc := 17) (wd := fun (u : St) Y => (wX11 o0 a0 (xy C) u Y)) (F := fun Z => Z) (X := []) (As := [.int r_19]) (rest := []) (u := u_17) hC (fun _ _ => rfl) (fun _ => rfl) (ctX11_refuse h) wvX11_refuse ml_X11_127 (ci := 9) (q0 := 0) rfl rfl rfl rfl (rmok hR0 rfl) ⟨Nat.zero_le _, Nat.zero_le _⟩ rfl (Nat.le_of_ble_eq_true rfl) dX11_fits_17 (fun r_32 u_31 h => ?_)
    exact hR _ _ _ (u_31, u_18, u2) dX11_fits_20 h
theorem ctX11_fits {l : Launch} {D : va_G} {cy : Nat → ClassId} {kd : Nat → Nat} {o0 : Nat} {a0 : Nat → Nat} {aT : Nat → Nat} {aQ : Nat → Nat} {x1 : Int32} {x2 : Int32} {x3 : Int32} {u0 : St} {u1 : St} {u2 : St} {post : Int32 → St → St → St → Prop} (h : qX11_fits x1 x2 x3 u0 u1 u2 post) : CtI l D cy kd yX11_fits cX11_fits 5 5 .int [.ref o0, .int x1, .int x2, .int x3] (fun u : St × St × St => (wX11 o0 a0 cy u.1 (wX9 (a0 5) aT cy u.2.1 (wX5 (a0 17) aQ cy u.2.2 [])))) (u0, u1, u2) (fun r u => post r u.1 u.2.1 u.2.2) := met_i (by decide) (Nat.le_of_ble_eq_true rfl) (fun C e1 e2 e3 e4 e5 hC hR => by subst e1 e2 e3 e4; exact kX11_fits hC e5 hR h)
theorem dX11_fitsAt_0 : decode cX11_fitsAt 0 = .ok (.iload 4, 2) := by decide +kernel
theorem dX11_fitsAt_2 : decode cX11_fitsAt 2 = .ok (.ifCond .ge 7, 3) := by decide +kernel
theorem dX11_fitsAt_5 : decode cX11_fitsAt 5 = .ok (.iconst 1, 1) := by decide +kernel
theorem dX11_fitsAt_6 : decode cX11_fitsAt 6 = .ok (.goto 10, 3) := by decide +kernel
theorem dX11_fitsAt_9 : decode cX11_fitsAt 9 = .ok (.aload_n 0, 1) := by decide +kernel
theorem dX11_fitsAt_10 : decode cX11_fitsAt 10 = .ok (.iload_n 1, 1) := by decide +kernel
theorem dX11_fitsAt_11 : decode cX11_fitsAt 11 = .ok (.iload_n 2, 1) := by decide +kernel
theorem dX11_fitsAt_12 : decode cX11_fitsAt 12 = .ok (.iload_n 3, 1) := by decide +kernel
theorem dX11_fitsAt_13 : decode cX11_fitsAt 13 = .ok (.invokevirtual 334, 3) := by decide +kernel
theorem dX11_fitsAt_16 : decode cX11_fitsAt 16 = .ok (.istore 5, 2) := by decide +kernel
theorem dX11_fitsAt_18 : decode cX11_fitsAt 18 = .ok (.iload 5, 2) := by decide +kernel
theorem dX11_fitsAt_20 : decode cX11_fitsAt 20 = .ok (.ifCond .eq 10, 3) := by decide +kernel
theorem dX11_fitsAt_23 : decode cX11_fitsAt 23 = .ok (.aload_n 0, 1) := by decide +kernel
theorem dX11_fitsAt_24 : decode cX11_fitsAt 24 = .ok (.iload 5, 2) := by decide +kernel
theorem dX11_fitsAt_26 : decode cX11_fitsAt 26 = .ok (.invokevirtual 127, 3) := by decide +kernel
theorem dX11_fitsAt_29 : decode cX11_fitsAt 29 = .ok (.ireturn, 1) := by decide +kernel
theorem dX11_fitsAt_30 : decode cX11_fitsAt 30 = .ok (.aload_n 0, 1) := by decide +kernel
theorem dX11_fitsAt_31 : decode cX11_fitsAt 31 = .ok (.getfield 96, 3) := by decide +kernel
theorem dX11_fitsAt_34 : decode cX11_fitsAt 34 = .ok (.iload_n 1, 1) := by decide +kernel
theorem dX11_fitsAt_35 : decode cX11_fitsAt 35 = .ok (.aload_n 0, 1) := by decide +kernel
theorem dX11_fitsAt_36 : decode cX11_fitsAt 36 = .ok (.getfield 30, 3) := by decide +kernel
theorem dX11_fitsAt_39 : decode cX11_fitsAt 39 = .ok (.iload_n 2, 1) := by decide +kernel
theorem dX11_fitsAt_40 : decode cX11_fitsAt 40 = .ok (.iload_n 3, 1) := by decide +kernel
theorem dX11_fitsAt_41 : decode cX11_fitsAt 41 = .ok (.invokevirtual 338, 3) := by decide +kernel
theorem dX11_fitsAt_44 : decode cX11_fitsAt 44 = .ok (.iload 4, 2) := by decide +kernel
theorem dX11_fitsAt_46 : decode cX11_fitsAt 46 = .ok (.invokestatic 342, 3) := by decide +kernel
theorem dX11_fitsAt_49 : decode cX11_fitsAt 49 = .ok (.istore 6, 2) := by decide +kernel
theorem dX11_fitsAt_51 : decode cX11_fitsAt 51 = .ok (.iload 6, 2) := by decide +kernel
theorem dX11_fitsAt_53 : decode cX11_fitsAt 53 = .ok (.iconst (-1), 1) := by decide +kernel
theorem dX11_fitsAt_54 : decode cX11_fitsAt 54 = .ok (.if_icmp .ne 12, 3) := by decide +kernel
theorem dX11_fitsAt_57 : decode cX11_fitsAt 57 = .ok (.aload_n 0, 1) := by decide +kernel
theorem dX11_fitsAt_58 : decode cX11_fitsAt 58 = .ok (.bipush 6, 2) := by decide +kernel
theorem dX11_fitsAt_60 : decode cX11_fitsAt 60 = .ok (.invokevirtual 127, 3) := by decide +kernel
theorem dX11_fitsAt_63 : decode cX11_fitsAt 63 = .ok (.goto 9, 3) := by decide +kernel
theorem dX11_fitsAt_66 : decode cX11_fitsAt 66 = .ok (.aload_n 0, 1) := by decide +kernel
theorem dX11_fitsAt_67 : decode cX11_fitsAt 67 = .ok (.iload 6, 2) := by decide +kernel
theorem dX11_fitsAt_69 : decode cX11_fitsAt 69 = .ok (.invokevirtual 166, 3) := by decide +kernel
theorem dX11_fitsAt_72 : decode cX11_fitsAt 72 = .ok (.ireturn, 1) := by decide +kernel
def qX11_fitsAt_b72   (post : Int32 → St → St → St → Prop)  (s0 : Int32) (u0 : St) (u1 : St) (u2 : St) : Prop := post s0 u0 u1 u2
set_option maxRecDepth 100000 in
set_option maxHeartbeats 4000000 in
theorem kX11_fitsAt_b72 {C : Cx} {o0 : Nat} {a0 : Nat → Nat} {aT : Nat → Nat} {aQ : Nat → Nat} (hC : Fx C cX11_fitsAt 7 RX11) (hR0 : xR C = rm 5) {post : Int32 → St → St → St → Prop} (hR : RI C cX11_fitsAt 7 (fun u : St × St × St => (wX11 o0 a0 (xy C) u.1 (wX9 (a0 5) aT (xy C) u.2.1 (wX5 (a0 17) aQ (xy C) u.2.2 [])))) (fun r u => post r u.1 u.2.1 u.2.2))  {s0 : Int32} {u0 : St} {u1 : St} {u2 : St} (h : qX11_fitsAt_b72 post s0 u0 u1 u2) : G C 0 0 7 (wX11 o0 a0 (xy C) u0 (wX9 (a0 5) aT (xy C) u1 (wX5 (a0 17) aQ (xy C) u2 []))) 72 [] [.int s0] := by
  exact hR _ _ _ (u0, u1, u2) dX11_fitsAt_72 h
def qX11_fitsAt_b16   (post : Int32 → St → St → St → Prop)  (x1 : Int32) (x2 : Int32) (x3 : Int32) (x4 : Int32) (s0 : Int32) (u0 : St) (u1 : St) (u2 : St) : Prop := ((s0 = 0 → qX5_fitting x1 x2 x3 u2 u1 (fun r_23 u_21 u_22 => qX11_nthOf r_23 x4 (fun r_25 => ((¬ r_25 = (-1 : Int32) → qX11_answer r_25 u0 (fun r_29 u_28 => qX11_fitsAt_b72 post r_29 u_28 u_22 u_21)) ∧ (r_25 = (-1 : Int32) → qX11_refuse (6 : Int32) u0 (fun r_32 u_31 => qX11_fitsAt_b72 post r_32 u_31 u_22 u_21)))))) ∧ (¬ s0 = 0 → qX11_refuse s0 u0 (fun r_35 u_34 => post r_35 u_34 u1 u2)))
set_option maxRecDepth 100000 in
set_option maxHeartbeats 4000000 in
theorem kX11_fitsAt_b16 {C : Cx} {o0 : Nat} {a0 : Nat → Nat} {aT : Nat → Nat} {aQ : Nat → Nat} (hC : Fx C cX11_fitsAt 7 RX11) (hR0 : xR C = rm 5) {post : Int32 → St → St → St → Prop} (hR : RI C cX11_fitsAt 7 (fun u : St × St × St => (wX11 o0 a0 (xy C) u.1 (wX9 (a0 5) aT (xy C) u.2.1 (wX5 (a0 17) aQ (xy C) u.2.2 [])))) (fun r u => post r u.1 u.2.1 u.2.2))  {x1 : Int32} {x2 : Int32} {x3 : Int32} {x4 : Int32} {s0 : Int32} {u0 : St} {u1 : St} {u2 : St} (h : qX11_fitsAt_b16 post x1 x2 x3 x4 s0 u0 u1 u2) : G C 0 0 7 (wX11 o0 a0 (xy C) u0 (wX9 (a0 5) aT (xy C) u1 (wX5 (a0 17) aQ (xy C) u2 []))) 16 [(0, .ref o0), (1, .int x1), (2, .int x2), (3, .int x3), (4, .int x4)] [.int s0] := by
  refine g_istore (pc := 16) (lv' := [(5, .int s0), (0, .ref o0), (1, .int x1), (2, .int x2), (3, .int x3), (4, .int x4)]) hC dX11_fitsAt_16 (Nat.le_of_ble_eq_true rfl) rfl ?_
  refine g_iload (pc := 18) hC 0 dX11_fitsAt_18 rfl ?_
  refine g_if_eq (pc := 20) (tgt := 30) hC dX11_fitsAt_20 (by decide) (fun c_20 => ?_) (fun c_20 => ?_)
  · have h := h.1 c_20
    refine g_aload_n (pc := 30) hC 1 dX11_fitsAt_30 rfl rfl ?_
    refine getX11_17 (pc := 31) hC (F := fun Z => Z) (X := []) (fun _ => rfl) fl_X11_96 dX11_fitsAt_31 ?_
    refine g_iload_n (pc := 34) hC 2 dX11_fitsAt_34 rfl rfl ?_
    refine g_aload_n (pc := 35) hC 1 dX11_fitsAt_35 rfl rfl ?_
    refine getX11_5 (pc := 36) hC (F := fun Z => Z) (X := []) (fun _ => rfl) fl_X11_30 dX11_fitsAt_36 ?_
    refine g_iload_n (pc := 39) hC 3 dX11_fitsAt_39 rfl rfl ?_
    refine g_iload_n (pc := 40) hC 4 dX11_fitsAt_40 rfl rfl ?_
    refine g_swap (F := fun Z => (wX11 o0 a0 (xy C) u0 Z)) (X := (wX11 o0 a0 (xy C) u0 [])) (f := fun Z => (wX9 (a0 5) aT (xy C) u1 Z)) (g := fun Z => (wX5 (a0 17) aQ (xy C) u2 Z)) (Y := []) (fun _ => rfl) (fun _ => rfl) (fun _ => rfl) ?_
    refine g_callV_i (pc := 41) (wd := fun (u : St × St) Y => (wX5 (a0 17) aQ (xy C) u.1 (wX9 (a0 5) aT (xy C) u.2 Y))) (F := fun Z => (wX11 o0 a0 (xy C) u0 Z)) (X := (wX11 o0 a0 (xy C) u0 [])) (As := [.int x1, .ref (a0 5), .int x2, .int x3]) (rest := []) (u := (u2, u1)) hC (fun _ _ => rfl) (fun _ => rfl) (ctX5_fitting h) wvX5_fitting ml_X11_338 (ci := 4) (q0 := 0) rfl rfl rfl rfl (rmok hR0 rfl) ⟨Nat.zero_le _, Nat.zero_le _⟩ rfl (Nat.le_of_ble_eq_true rfl) dX11_fitsAt_41 (fun r_23 u_24 h => ?_)
    obtain ⟨u_21, u_22⟩ := u_24
    refine g_iload (pc := 44) hC 5 dX11_fitsAt_44 rfl ?_
    refine g_callS_i (pc := 46) (wd := fun (_ : Unit) Y => Y) (F := fun Z => Z) (X := []) (As := [.int r_23, .int x4]) (rest := []) (u := ()) hC (fun _ _ => rfl) (fun _ => rfl) (ctX11_nthOf h) wvX11_nthOf ml_X11_342 rfl (rmok hR0 rfl) ⟨Nat.zero_le _, Nat.zero_le _⟩ rfl (Nat.le_of_ble_eq_true rfl) dX11_fitsAt_46 (fun r_25 u_26 h => ?_)
    refine g_istore (pc := 49) (lv' := [(6, .int r_25), (5, .int s0), (0, .ref o0), (1, .int x1), (2, .int x2), (3, .int x3), (4, .int x4)]) hC dX11_fitsAt_49 (Nat.le_of_ble_eq_true rfl) rfl ?_
    refine g_iload (pc := 51) hC 0 dX11_fitsAt_51 rfl ?_
    refine g_iconst (pc := 53) (v := -1) hC dX11_fitsAt_53 (by decide) ?_
    refine g_icmp_ne (pc := 54) (tgt := 66) hC dX11_fitsAt_54 (by decide) (fun c_27 => ?_) (fun c_27 => ?_)
    · have h := h.1 c_27
      refine g_aload_n (pc := 66) hC 2 dX11_fitsAt_66 rfl rfl ?_
      refine g_iload (pc := 67) hC 0 dX11_fitsAt_67 rfl ?_
      refine g_callV_i (pc := 69) (wd := fun (u : St) Y => (wX11 o0 a0 (xy C) u Y)) (F := fun Z => Z) (X := []) (As := [.int r_25]) (rest := []) (u := u0) hC (fun _ _ => rfl) (fun _ => rfl) (ctX11_answer h) wvX11_answer ml_X11_166 (ci := 9) (q0 := 0) rfl rfl rfl rfl (rmok hR0 rfl) ⟨Nat.zero_le _, Nat.zero_le _⟩ rfl (Nat.le_of_ble_eq_true rfl) dX11_fitsAt_69 (fun r_29 u_28 h => ?_)
      refine g_swap (F := fun Z => (wX11 o0 a0 (xy C) u_28 Z)) (X := (wX11 o0 a0 (xy C) u_28 [])) (f := fun Z => (wX5 (a0 17) aQ (xy C) u_21 Z)) (g := fun Z => (wX9 (a0 5) aT (xy C) u_22 Z)) (Y := []) (fun _ => rfl) (fun _ => rfl) (fun _ => rfl) ?_
      refine g_sub (lv' := []) [] rfl ?_
      exact kX11_fitsAt_b72 hC hR0 hR   h
    · have h := h.2 c_27
      refine g_aload_n (pc := 57) hC 2 dX11_fitsAt_57 rfl rfl ?_
      refine g_bipush (pc := 58) (v := 6) hC dX11_fitsAt_58 (by decide) ?_
      refine g_callV_i (pc := 60) (wd := fun (u : St) Y => (wX11 o0 a0 (xy C) u Y)) (F := fun Z => Z) (X := []) (As := [.int (6 : Int32)]) (rest := []) (u := u0) hC (fun _ _ => rfl) (fun _ => rfl) (ctX11_refuse h) wvX11_refuse ml_X11_127 (ci := 9) (q0 := 0) rfl rfl rfl rfl (rmok hR0 rfl) ⟨Nat.zero_le _, Nat.zero_le _⟩ rfl (Nat.le_of_ble_eq_true rfl) dX11_fitsAt_60 (fun r_32 u_31 h => ?_)
      refine g_goto (pc := 63) (tgt := 72) hC dX11_fitsAt_63 (by decide) ?_
      refine g_swap (F := fun Z => (wX11 o0 a0 (xy C) u_31 Z)) (X := (wX11 o0 a0 (xy C) u_31 [])) (f := fun Z => (wX5 (a0 17) aQ (xy C) u_21 Z)) (g := fun Z => (wX9 (a0 5) aT (xy C) u_22 Z)) (Y := []) (fun _ => rfl) (fun _ => rfl) (fun _ => rfl) ?_
      refine g_sub (lv' := []) [] rfl ?_
      exact kX11_fitsAt_b72 hC hR0 hR   h
  · have h := h.2 c_20
    refine g_aload_n (pc := 23) hC 1 dX11_fitsAt_23 rfl rfl ?_
    refine g_iload (pc := 24) hC 0 dX11_fitsAt_24 rfl ?_
    refine g_callV_i (pc := 26) (wd := fun (u : St) Y => (wX11 o0 a0 (xy C) u Y)) (F := fun Z => Z) (X := []) (As := [.int s0]) (rest := []) (u := u0) hC (fun _ _ => rfl) (fun _ => rfl) (ctX11_refuse h) wvX11_refuse ml_X11_127 (ci := 9) (q0 := 0) rfl rfl rfl rfl (rmok hR0 rfl) ⟨Nat.zero_le _, Nat.zero_le _⟩ rfl (Nat.le_of_ble_eq_true rfl) dX11_fitsAt_26 (fun r_35 u_34 h => ?_)
    exact hR _ _ _ (u_34, u1, u2) dX11_fitsAt_29 h
def qX11_fitsAt  (x1 : Int32) (x2 : Int32) (x3 : Int32) (x4 : Int32) (u0 : St) (u1 : St) (u2 : St) (post : Int32 → St → St → St → Prop) : Prop := ((0 ≤ x4 → qX11_lookAtTwos x1 x2 x3 u0 u1 (fun r_40 u_38 u_39 => qX11_fitsAt_b16 post x1 x2 x3 x4 r_40 u_38 u_39 u2)) ∧ (¬ 0 ≤ x4 → qX11_fitsAt_b16 post x1 x2 x3 x4 (1 : Int32) u0 u1 u2))
set_option maxRecDepth 100000 in
set_option maxHeartbeats 4000000 in
theorem kX11_fitsAt {C : Cx} {o0 : Nat} {a0 : Nat → Nat} {aT : Nat → Nat} {aQ : Nat → Nat} (hC : Fx C cX11_fitsAt 7 RX11) (hR0 : xR C = rm 5) {post : Int32 → St → St → St → Prop} (hR : RI C cX11_fitsAt 7 (fun u : St × St × St => (wX11 o0 a0 (xy C) u.1 (wX9 (a0 5) aT (xy C) u.2.1 (wX5 (a0 17) aQ (xy C) u.2.2 [])))) (fun r u => post r u.1 u.2.1 u.2.2)) {x1 : Int32} {x2 : Int32} {x3 : Int32} {x4 : Int32} {u0 : St} {u1 : St} {u2 : St} (h : qX11_fitsAt  x1 x2 x3 x4 u0 u1 u2 post) : G C 0 0 7 (wX11 o0 a0 (xy C) u0 (wX9 (a0 5) aT (xy C) u1 (wX5 (a0 17) aQ (xy C) u2 []))) 0 [(0, .ref o0), (1, .int x1), (2, .int x2), (3, .int x3), (4, .int x4)] [] := by
  refine g_iload (pc := 0) hC 4 dX11_fitsAt_0 rfl ?_
  refine g_if_ge (pc := 2) (tgt := 9) hC dX11_fitsAt_2 (by decide) (fun c_37 => ?_) (fun c_37 => ?_)
  · have h := h.1 c_37
    refine g_aload_n (pc := 9) hC 0 dX11_fitsAt_9 rfl rfl ?_
    refine g_iload_n (pc := 10) hC 1 dX11_fitsAt_10 rfl rfl ?_
    refine g_iload_n (pc := 11) hC 2 dX11_fitsAt_11 rfl rfl ?_
    refine g_iload_n (pc := 12) hC 3 dX11_fitsAt_12 rfl rfl ?_
    refine g_callV_i (pc := 13) (wd := fun (u : St × St) Y => (wX11 o0 a0 (xy C) u.1 (wX9 (a0 5) aT (xy C) u.2 Y))) (F := fun Z => Z) (X := []) (As := [.int x1, .int x2, .int x3]) (rest := []) (u := (u0, u1)) hC (fun _ _ => rfl) (fun _ => rfl) (ctX11_lookAtTwos h) wvX11_lookAtTwos ml_X11_334 (ci := 9) (q0 := 0) rfl rfl rfl rfl (rmok hR0 rfl) ⟨Nat.zero_le _, Nat.zero_le _⟩ rfl (Nat.le_of_ble_eq_true rfl) dX11_fitsAt_13 (fun r_40 u_41 h => ?_)
    obtain ⟨u_38, u_39⟩ := u_41
    exact kX11_fitsAt_b16 hC hR0 hR   h
  · have h := h.2 c_37
    refine g_iconst (pc := 5) (v := 1) hC dX11_fitsAt_5 (by decide) ?_
    refine g_goto (pc := 6) (tgt := 16) hC dX11_fitsAt_6 (by decide) ?_
    exact kX11_fitsAt_b16 hC hR0 hR   h
theorem ctX11_fitsAt {l : Launch} {D : va_G} {cy : Nat → ClassId} {kd : Nat → Nat} {o0 : Nat} {a0 : Nat → Nat} {aT : Nat → Nat} {aQ : Nat → Nat} {x1 : Int32} {x2 : Int32} {x3 : Int32} {x4 : Int32} {u0 : St} {u1 : St} {u2 : St} {post : Int32 → St → St → St → Prop} (h : qX11_fitsAt x1 x2 x3 x4 u0 u1 u2 post) : CtI l D cy kd yX11_fitsAt cX11_fitsAt 7 5 .int [.ref o0, .int x1, .int x2, .int x3, .int x4] (fun u : St × St × St => (wX11 o0 a0 cy u.1 (wX9 (a0 5) aT cy u.2.1 (wX5 (a0 17) aQ cy u.2.2 [])))) (u0, u1, u2) (fun r u => post r u.1 u.2.1 u.2.2) := met_i (by decide) (Nat.le_of_ble_eq_true rfl) (fun C e1 e2 e3 e4 e5 hC hR => by subst e1 e2 e3 e4; exact kX11_fitsAt hC e5 hR h)
theorem dX11_ask_0 : decode cX11_ask 0 = .ok (.aload_n 0, 1) := by decide +kernel
theorem dX11_ask_1 : decode cX11_ask 1 = .ok (.iload_n 1, 1) := by decide +kernel
theorem dX11_ask_2 : decode cX11_ask 2 = .ok (.iload_n 2, 1) := by decide +kernel
theorem dX11_ask_3 : decode cX11_ask 3 = .ok (.iload_n 3, 1) := by decide +kernel
theorem dX11_ask_4 : decode cX11_ask 4 = .ok (.invokevirtual 334, 3) := by decide +kernel
theorem dX11_ask_7 : decode cX11_ask 7 = .ok (.istore 4, 2) := by decide +kernel
theorem dX11_ask_9 : decode cX11_ask 9 = .ok (.iload 4, 2) := by decide +kernel
theorem dX11_ask_11 : decode cX11_ask 11 = .ok (.ifCond .eq 10, 3) := by decide +kernel
theorem dX11_ask_14 : decode cX11_ask 14 = .ok (.aload_n 0, 1) := by decide +kernel
theorem dX11_ask_15 : decode cX11_ask 15 = .ok (.iload 4, 2) := by decide +kernel
theorem dX11_ask_17 : decode cX11_ask 17 = .ok (.invokevirtual 127, 3) := by decide +kernel
theorem dX11_ask_20 : decode cX11_ask 20 = .ok (.ireturn, 1) := by decide +kernel
theorem dX11_ask_21 : decode cX11_ask 21 = .ok (.aload_n 0, 1) := by decide +kernel
theorem dX11_ask_22 : decode cX11_ask 22 = .ok (.getfield 96, 3) := by decide +kernel
theorem dX11_ask_25 : decode cX11_ask 25 = .ok (.iload_n 1, 1) := by decide +kernel
theorem dX11_ask_26 : decode cX11_ask 26 = .ok (.aload_n 0, 1) := by decide +kernel
theorem dX11_ask_27 : decode cX11_ask 27 = .ok (.getfield 30, 3) := by decide +kernel
theorem dX11_ask_30 : decode cX11_ask 30 = .ok (.iload_n 2, 1) := by decide +kernel
theorem dX11_ask_31 : decode cX11_ask 31 = .ok (.iload_n 3, 1) := by decide +kernel
theorem dX11_ask_32 : decode cX11_ask 32 = .ok (.invokevirtual 338, 3) := by decide +kernel
theorem dX11_ask_35 : decode cX11_ask 35 = .ok (.istore 5, 2) := by decide +kernel
theorem dX11_ask_37 : decode cX11_ask 37 = .ok (.iload 5, 2) := by decide +kernel
theorem dX11_ask_39 : decode cX11_ask 39 = .ok (.invokestatic 267, 3) := by decide +kernel
theorem dX11_ask_42 : decode cX11_ask 42 = .ok (.iconst 2, 1) := by decide +kernel
theorem dX11_ask_43 : decode cX11_ask 43 = .ok (.if_icmp .ge 12, 3) := by decide +kernel
theorem dX11_ask_46 : decode cX11_ask 46 = .ok (.aload_n 0, 1) := by decide +kernel
theorem dX11_ask_47 : decode cX11_ask 47 = .ok (.bipush 6, 2) := by decide +kernel
theorem dX11_ask_49 : decode cX11_ask 49 = .ok (.invokevirtual 127, 3) := by decide +kernel
theorem dX11_ask_52 : decode cX11_ask 52 = .ok (.goto 16, 3) := by decide +kernel
theorem dX11_ask_55 : decode cX11_ask 55 = .ok (.aload_n 0, 1) := by decide +kernel
theorem dX11_ask_56 : decode cX11_ask 56 = .ok (.aload_n 0, 1) := by decide +kernel
theorem dX11_ask_57 : decode cX11_ask 57 = .ok (.getfield 96, 3) := by decide +kernel
theorem dX11_ask_60 : decode cX11_ask 60 = .ok (.iload 5, 2) := by decide +kernel
theorem dX11_ask_62 : decode cX11_ask 62 = .ok (.invokevirtual 345, 3) := by decide +kernel
theorem dX11_ask_65 : decode cX11_ask 65 = .ok (.invokevirtual 166, 3) := by decide +kernel
theorem dX11_ask_68 : decode cX11_ask 68 = .ok (.ireturn, 1) := by decide +kernel
def qX11_ask_b68   (post : Int32 → St → St → St → Prop)  (s0 : Int32) (u0 : St) (u1 : St) (u2 : St) : Prop := post s0 u0 u1 u2
set_option maxRecDepth 100000 in
set_option maxHeartbeats 4000000 in
theorem kX11_ask_b68 {C : Cx} {o0 : Nat} {a0 : Nat → Nat} {aT : Nat → Nat} {aQ : Nat → Nat} (hC : Fx C cX11_ask 6 RX11) (hR0 : xR C = rm 5) {post : Int32 → St → St → St → Prop} (hR : RI C cX11_ask 6 (fun u : St × St × St => (wX11 o0 a0 (xy C) u.1 (wX9 (a0 5) aT (xy C) u.2.1 (wX5 (a0 17) aQ (xy C) u.2.2 [])))) (fun r u => post r u.1 u.2.1 u.2.2))  {s0 : Int32} {u0 : St} {u1 : St} {u2 : St} (h : qX11_ask_b68 post s0 u0 u1 u2) : G C 0 0 6 (wX11 o0 a0 (xy C) u0 (wX9 (a0 5) aT (xy C) u1 (wX5 (a0 17) aQ (xy C) u2 []))) 68 [] [.int s0] := by
  exact hR _ _ _ (u0, u1, u2) dX11_ask_68 h
def qX11_ask  (x1 : Int32) (x2 : Int32) (x3 : Int32) (u0 : St) (u1 : St) (u2 : St) (post : Int32 → St → St → St → Prop) : Prop := qX11_lookAtTwos x1 x2 x3 u0 u1 (fun r_25 u_23 u_24 => ((r_25 = 0 → qX5_fitting x1 x2 x3 u2 u_24 (fun r_30 u_28 u_29 => qJ6_bitCount_0f7a4 r_30 (fun r_32 => (((2 : Int32) ≤ r_32 → qX5_partingYears r_30 u_28 (fun r_36 u_35 => qX11_answer r_36 u_23 (fun r_39 u_38 => qX11_ask_b68 post r_39 u_38 u_29 u_35))) ∧ (¬ (2 : Int32) ≤ r_32 → qX11_refuse (6 : Int32) u_23 (fun r_42 u_41 => qX11_ask_b68 post r_42 u_41 u_29 u_28)))))) ∧ (¬ r_25 = 0 → qX11_refuse r_25 u_23 (fun r_45 u_44 => post r_45 u_44 u_24 u2))))
set_option maxRecDepth 100000 in
set_option maxHeartbeats 4000000 in
theorem kX11_ask {C : Cx} {o0 : Nat} {a0 : Nat → Nat} {aT : Nat → Nat} {aQ : Nat → Nat} (hC : Fx C cX11_ask 6 RX11) (hR0 : xR C = rm 5) {post : Int32 → St → St → St → Prop} (hR : RI C cX11_ask 6 (fun u : St × St × St => (wX11 o0 a0 (xy C) u.1 (wX9 (a0 5) aT (xy C) u.2.1 (wX5 (a0 17) aQ (xy C) u.2.2 [])))) (fun r u => post r u.1 u.2.1 u.2.2)) {x1 : Int32} {x2 : Int32} {x3 : Int32} {u0 : St} {u1 : St} {u2 : St} (h : qX11_ask  x1 x2 x3 u0 u1 u2 post) : G C 0 0 6 (wX11 o0 a0 (xy C) u0 (wX9 (a0 5) aT (xy C) u1 (wX5 (a0 17) aQ (xy C) u2 []))) 0 [(0, .ref o0), (1, .int x1), (2, .int x2), (3, .int x3)] [] := by
  refine g_aload_n (pc := 0) hC 0 dX11_ask_0 rfl rfl ?_
  refine g_iload_n (pc := 1) hC 1 dX11_ask_1 rfl rfl ?_
  refine g_iload_n (pc := 2) hC 2 dX11_ask_2 rfl rfl ?_
  refine g_iload_n (pc := 3) hC 3 dX11_ask_3 rfl rfl ?_
  refine g_callV_i (pc := 4) (wd := fun (u : St × St) Y => (wX11 o0 a0 (xy C) u.1 (wX9 (a0 5) aT (xy C) u.2 Y))) (F := fun Z => Z) (X := []) (As := [.int x1, .int x2, .int x3]) (rest := []) (u := (u0, u1)) hC (fun _ _ => rfl) (fun _ => rfl) (ctX11_lookAtTwos h) wvX11_lookAtTwos ml_X11_334 (ci := 9) (q0 := 0) rfl rfl rfl rfl (rmok hR0 rfl) ⟨Nat.zero_le _, Nat.zero_le _⟩ rfl (Nat.le_of_ble_eq_true rfl) dX11_ask_4 (fun r_25 u_26 h => ?_)
  obtain ⟨u_23, u_24⟩ := u_26
  refine g_istore (pc := 7) (lv' := [(4, .int r_25), (0, .ref o0), (1, .int x1), (2, .int x2), (3, .int x3)]) hC dX11_ask_7 (Nat.le_of_ble_eq_true rfl) rfl ?_
  refine g_iload (pc := 9) hC 0 dX11_ask_9 rfl ?_
  refine g_if_eq (pc := 11) (tgt := 21) hC dX11_ask_11 (by decide) (fun c_27 => ?_) (fun c_27 => ?_)
  · have h := h.1 c_27
    refine g_aload_n (pc := 21) hC 1 dX11_ask_21 rfl rfl ?_
    refine getX11_17 (pc := 22) hC (F := fun Z => Z) (X := []) (fun _ => rfl) fl_X11_96 dX11_ask_22 ?_
    refine g_iload_n (pc := 25) hC 2 dX11_ask_25 rfl rfl ?_
    refine g_aload_n (pc := 26) hC 1 dX11_ask_26 rfl rfl ?_
    refine getX11_5 (pc := 27) hC (F := fun Z => Z) (X := []) (fun _ => rfl) fl_X11_30 dX11_ask_27 ?_
    refine g_iload_n (pc := 30) hC 3 dX11_ask_30 rfl rfl ?_
    refine g_iload_n (pc := 31) hC 4 dX11_ask_31 rfl rfl ?_
    refine g_swap (F := fun Z => (wX11 o0 a0 (xy C) u_23 Z)) (X := (wX11 o0 a0 (xy C) u_23 [])) (f := fun Z => (wX9 (a0 5) aT (xy C) u_24 Z)) (g := fun Z => (wX5 (a0 17) aQ (xy C) u2 Z)) (Y := []) (fun _ => rfl) (fun _ => rfl) (fun _ => rfl) ?_
    refine g_callV_i (pc := 32) (wd := fun (u : St × St) Y => (wX5 (a0 17) aQ (xy C) u.1 (wX9 (a0 5) aT (xy C) u.2 Y))) (F := fun Z => (wX11 o0 a0 (xy C) u_23 Z)) (X := (wX11 o0 a0 (xy C) u_23 [])) (As := [.int x1, .ref (a0 5), .int x2, .int x3]) (rest := []) (u := (u2, u_24)) hC (fun _ _ => rfl) (fun _ => rfl) (ctX5_fitting h) wvX5_fitting ml_X11_338 (ci := 4) (q0 := 0) rfl rfl rfl rfl (rmok hR0 rfl) ⟨Nat.zero_le _, Nat.zero_le _⟩ rfl (Nat.le_of_ble_eq_true rfl) dX11_ask_32 (fun r_30 u_31 h => ?_)
    obtain ⟨u_28, u_29⟩ := u_31
    refine g_istore (pc := 35) (lv' := [(5, .int r_30), (4, .int r_25), (0, .ref o0), (1, .int x1), (2, .int x2), (3, .int x3)]) hC dX11_ask_35 (Nat.le_of_ble_eq_true rfl) rfl ?_
    refine g_iload (pc := 37) hC 0 dX11_ask_37 rfl ?_
    refine g_callS_i (pc := 39) (wd := fun (_ : Unit) Y => Y) (F := fun Z => Z) (X := []) (As := [.int r_30]) (rest := []) (u := ()) hC (fun _ _ => rfl) (fun _ => rfl) (ctJ6_bitCount_0f7a4 h) wvJ6_bitCount_0f7a4 ml_X11_267 rfl (rmok hR0 rfl) ⟨Nat.zero_le _, Nat.zero_le _⟩ rfl (Nat.le_of_ble_eq_true rfl) dX11_ask_39 (fun r_32 u_33 h => ?_)
    refine g_iconst (pc := 42) (v := 2) hC dX11_ask_42 (by decide) ?_
    refine g_icmp_ge (pc := 43) (tgt := 55) hC dX11_ask_43 (by decide) (fun c_34 => ?_) (fun c_34 => ?_)
    · have h := h.1 c_34
      refine g_aload_n (pc := 55) hC 2 dX11_ask_55 rfl rfl ?_
      refine g_aload_n (pc := 56) hC 2 dX11_ask_56 rfl rfl ?_
      refine getX11_17 (pc := 57) hC (F := fun Z => Z) (X := []) (fun _ => rfl) fl_X11_96 dX11_ask_57 ?_
      refine g_iload (pc := 60) hC 0 dX11_ask_60 rfl ?_
      refine g_callV_i (pc := 62) (wd := fun (u : St) Y => (wX5 (a0 17) aQ (xy C) u Y)) (F := fun Z => (wX11 o0 a0 (xy C) u_23 Z)) (X := (wX11 o0 a0 (xy C) u_23 [])) (As := [.int r_30]) (rest := [.ref o0]) (u := u_28) hC (fun _ _ => rfl) (fun _ => rfl) (ctX5_partingYears h) wvX5_partingYears ml_X11_345 (ci := 4) (q0 := 0) rfl rfl rfl rfl (rmok hR0 rfl) ⟨Nat.zero_le _, Nat.zero_le _⟩ rfl (Nat.le_of_ble_eq_true rfl) dX11_ask_62 (fun r_36 u_35 h => ?_)
      refine g_callV_i (pc := 65) (wd := fun (u : St) Y => (wX11 o0 a0 (xy C) u Y)) (F := fun Z => Z) (X := []) (As := [.int r_36]) (rest := []) (u := u_23) hC (fun _ _ => rfl) (fun _ => rfl) (ctX11_answer h) wvX11_answer ml_X11_166 (ci := 9) (q0 := 0) rfl rfl rfl rfl (rmok hR0 rfl) ⟨Nat.zero_le _, Nat.zero_le _⟩ rfl (Nat.le_of_ble_eq_true rfl) dX11_ask_65 (fun r_39 u_38 h => ?_)
      refine g_swap (F := fun Z => (wX11 o0 a0 (xy C) u_38 Z)) (X := (wX11 o0 a0 (xy C) u_38 [])) (f := fun Z => (wX5 (a0 17) aQ (xy C) u_35 Z)) (g := fun Z => (wX9 (a0 5) aT (xy C) u_29 Z)) (Y := []) (fun _ => rfl) (fun _ => rfl) (fun _ => rfl) ?_
      refine g_sub (lv' := []) [] rfl ?_
      exact kX11_ask_b68 hC hR0 hR   h
    · have h := h.2 c_34
      refine g_aload_n (pc := 46) hC 2 dX11_ask_46 rfl rfl ?_
      refine g_bipush (pc := 47) (v := 6) hC dX11_ask_47 (by decide) ?_
      refine g_callV_i (pc := 49) (wd := fun (u : St) Y => (wX11 o0 a0 (xy C) u Y)) (F := fun Z => Z) (X := []) (As := [.int (6 : Int32)]) (rest := []) (u := u_23) hC (fun _ _ => rfl) (fun _ => rfl) (ctX11_refuse h) wvX11_refuse ml_X11_127 (ci := 9) (q0 := 0) rfl rfl rfl rfl (rmok hR0 rfl) ⟨Nat.zero_le _, Nat.zero_le _⟩ rfl (Nat.le_of_ble_eq_true rfl) dX11_ask_49 (fun r_42 u_41 h => ?_)
      refine g_goto (pc := 52) (tgt := 68) hC dX11_ask_52 (by decide) ?_
      refine g_swap (F := fun Z => (wX11 o0 a0 (xy C) u_41 Z)) (X := (wX11 o0 a0 (xy C) u_41 [])) (f := fun Z => (wX5 (a0 17) aQ (xy C) u_28 Z)) (g := fun Z => (wX9 (a0 5) aT (xy C) u_29 Z)) (Y := []) (fun _ => rfl) (fun _ => rfl) (fun _ => rfl) ?_
      refine g_sub (lv' := []) [] rfl ?_
      exact kX11_ask_b68 hC hR0 hR   h
  · have h := h.2 c_27
    refine g_aload_n (pc := 14) hC 1 dX11_ask_14 rfl rfl ?_
    refine g_iload (pc := 15) hC 0 dX11_ask_15 rfl ?_
    refine g_callV_i (pc := 17) (wd := fun (u : St) Y => (wX11 o0 a0 (xy C) u Y)) (F := fun Z => Z) (X := []) (As := [.int r_25]) (rest := []) (u := u_23) hC (fun _ _ => rfl) (fun _ => rfl) (ctX11_refuse h) wvX11_refuse ml_X11_127 (ci := 9) (q0 := 0) rfl rfl rfl rfl (rmok hR0 rfl) ⟨Nat.zero_le _, Nat.zero_le _⟩ rfl (Nat.le_of_ble_eq_true rfl) dX11_ask_17 (fun r_45 u_44 h => ?_)
    exact hR _ _ _ (u_44, u_24, u2) dX11_ask_20 h
theorem ctX11_ask {l : Launch} {D : va_G} {cy : Nat → ClassId} {kd : Nat → Nat} {o0 : Nat} {a0 : Nat → Nat} {aT : Nat → Nat} {aQ : Nat → Nat} {x1 : Int32} {x2 : Int32} {x3 : Int32} {u0 : St} {u1 : St} {u2 : St} {post : Int32 → St → St → St → Prop} (h : qX11_ask x1 x2 x3 u0 u1 u2 post) : CtI l D cy kd yX11_ask cX11_ask 6 5 .int [.ref o0, .int x1, .int x2, .int x3] (fun u : St × St × St => (wX11 o0 a0 cy u.1 (wX9 (a0 5) aT cy u.2.1 (wX5 (a0 17) aQ cy u.2.2 [])))) (u0, u1, u2) (fun r u => post r u.1 u.2.1 u.2.2) := met_i (by decide) (Nat.le_of_ble_eq_true rfl) (fun C e1 e2 e3 e4 e5 hC hR => by subst e1 e2 e3 e4; exact kX11_ask hC e5 hR h)
theorem dX11_game_0 : decode cX11_game 0 = .ok (.iload_n 1, 1) := by decide +kernel
theorem dX11_game_1 : decode cX11_game 1 = .ok (.iconst 0, 1) := by decide +kernel
theorem dX11_game_2 : decode cX11_game 2 = .ok (.iconst 4, 1) := by decide +kernel
theorem dX11_game_3 : decode cX11_game 3 = .ok (.invokestatic 104, 3) := by decide +kernel
theorem dX11_game_6 : decode cX11_game 6 = .ok (.ifCond .ne 9, 3) := by decide +kernel
theorem dX11_game_9 : decode cX11_game 9 = .ok (.aload_n 0, 1) := by decide +kernel
theorem dX11_game_10 : decode cX11_game 10 = .ok (.iconst 1, 1) := by decide +kernel
theorem dX11_game_11 : decode cX11_game 11 = .ok (.invokevirtual 127, 3) := by decide +kernel
theorem dX11_game_14 : decode cX11_game 14 = .ok (.ireturn, 1) := by decide +kernel
theorem dX11_game_15 : decode cX11_game 15 = .ok (.aload_n 0, 1) := by decide +kernel
theorem dX11_game_16 : decode cX11_game 16 = .ok (.getfield 50, 3) := by decide +kernel
theorem dX11_game_19 : decode cX11_game 19 = .ok (.aload_n 0, 1) := by decide +kernel
theorem dX11_game_20 : decode cX11_game 20 = .ok (.getfield 46, 3) := by decide +kernel
theorem dX11_game_23 : decode cX11_game 23 = .ok (.invokevirtual 298, 3) := by decide +kernel
theorem dX11_game_26 : decode cX11_game 26 = .ok (.aload_n 0, 1) := by decide +kernel
theorem dX11_game_27 : decode cX11_game 27 = .ok (.aload_n 0, 1) := by decide +kernel
theorem dX11_game_28 : decode cX11_game 28 = .ok (.getfield 50, 3) := by decide +kernel
theorem dX11_game_31 : decode cX11_game 31 = .ok (.iload_n 1, 1) := by decide +kernel
theorem dX11_game_32 : decode cX11_game 32 = .ok (.iconst 0, 1) := by decide +kernel
theorem dX11_game_33 : decode cX11_game 33 = .ok (.invokestatic 348, 3) := by decide +kernel
theorem dX11_game_36 : decode cX11_game 36 = .ok (.invokevirtual 166, 3) := by decide +kernel
theorem dX11_game_39 : decode cX11_game 39 = .ok (.ireturn, 1) := by decide +kernel
def qX11_game  (x1 : Int32) (u0 : St) (u1 : St) (u2 : St) (post : Int32 → St → St → St → Prop) : Prop := qX11_within x1 (0 : Int32) (4 : Int32) (fun r_15 => ((¬ r_15 = 0 → qX2_copyFrom u2 u1 (fun u_18 u_19 => qX1_bailiff 3 x1 (0 : Int32) u_18 (fun r_22 u_21 => qX11_answer r_22 u0 (fun r_25 u_24 => post r_25 u_24 u_19 u_21)))) ∧ (r_15 = 0 → qX11_refuse (1 : Int32) u0 (fun r_28 u_27 => post r_28 u_27 u1 u2))))
set_option maxRecDepth 100000 in
set_option maxHeartbeats 4000000 in
theorem kX11_game {C : Cx} {o0 : Nat} {a0 : Nat → Nat} {aH : Nat → Nat} {aS : Nat → Nat} (hC : Fx C cX11_game 2 RX11) (hR0 : xR C = rm 10) {post : Int32 → St → St → St → Prop} (hR : RI C cX11_game 2 (fun u : St × St × St => (wX11 o0 a0 (xy C) u.1 (wX2 (a0 7) aH (xy C) u.2.1 (wX2 (a0 8) aS (xy C) u.2.2 [])))) (fun r u => post r u.1 u.2.1 u.2.2)) {x1 : Int32} {u0 : St} {u1 : St} {u2 : St} (h : qX11_game  x1 u0 u1 u2 post) : G C 0 0 2 (wX11 o0 a0 (xy C) u0 (wX2 (a0 7) aH (xy C) u1 (wX2 (a0 8) aS (xy C) u2 []))) 0 [(0, .ref o0), (1, .int x1)] [] := by
  refine g_iload_n (pc := 0) hC 1 dX11_game_0 rfl rfl ?_
  refine g_iconst (pc := 1) (v := 0) hC dX11_game_1 (by decide) ?_
  refine g_iconst (pc := 2) (v := 4) hC dX11_game_2 (by decide) ?_
  refine g_callS_i (pc := 3) (wd := fun (_ : Unit) Y => Y) (F := fun Z => Z) (X := []) (As := [.int x1, .int (0 : Int32), .int (4 : Int32)]) (rest := []) (u := ()) hC (fun _ _ => rfl) (fun _ => rfl) (ctX11_within h) wvX11_within ml_X11_104 rfl (rmok hR0 rfl) ⟨Nat.zero_le _, Nat.zero_le _⟩ rfl (Nat.le_of_ble_eq_true rfl) dX11_game_3 (fun r_15 u_16 h => ?_)
  refine g_if_ne (pc := 6) (tgt := 15) hC dX11_game_6 (by decide) (fun c_17 => ?_) (fun c_17 => ?_)
  · have h := h.1 c_17
    refine g_aload_n (pc := 15) hC 0 dX11_game_15 rfl rfl ?_
    refine getX11_8 (pc := 16) hC (F := fun Z => Z) (X := []) (fun _ => rfl) fl_X11_50 dX11_game_16 ?_
    refine g_aload_n (pc := 19) hC 0 dX11_game_19 rfl rfl ?_
    refine getX11_7 (pc := 20) hC (F := fun Z => Z) (X := []) (fun _ => rfl) fl_X11_46 dX11_game_20 ?_
    refine g_swap (F := fun Z => (wX11 o0 a0 (xy C) u0 Z)) (X := (wX11 o0 a0 (xy C) u0 [])) (f := fun Z => (wX2 (a0 7) aH (xy C) u1 Z)) (g := fun Z => (wX2 (a0 8) aS (xy C) u2 Z)) (Y := []) (fun _ => rfl) (fun _ => rfl) (fun _ => rfl) ?_
    refine g_callV_v (pc := 23) (wd := fun (u : St × St) Y => (wX2 (a0 8) aS (xy C) u.1 (wX2 (a0 7) aH (xy C) u.2 Y))) (F := fun Z => (wX11 o0 a0 (xy C) u0 Z)) (X := (wX11 o0 a0 (xy C) u0 [])) (As := [.ref (a0 7)]) (rest := []) (u := (u2, u1)) hC (fun _ _ => rfl) (fun _ => rfl) (ctX2_copyFrom h) wvX2_copyFrom ml_X11_298 (ci := 1) (q0 := 0) rfl rfl rfl rfl (rmok hR0 rfl) ⟨Nat.zero_le _, Nat.zero_le _⟩ rfl (Nat.le_of_ble_eq_true rfl) dX11_game_23 (fun u_20 h => ?_)
    obtain ⟨u_18, u_19⟩ := u_20
    refine g_aload_n (pc := 26) hC 0 dX11_game_26 rfl rfl ?_
    refine g_aload_n (pc := 27) hC 0 dX11_game_27 rfl rfl ?_
    refine getX11_8 (pc := 28) hC (F := fun Z => Z) (X := []) (fun _ => rfl) fl_X11_50 dX11_game_28 ?_
    refine g_iload_n (pc := 31) hC 1 dX11_game_31 rfl rfl ?_
    refine g_iconst (pc := 32) (v := 0) hC dX11_game_32 (by decide) ?_
    refine g_callSN_i (pc := 33) (wd := fun (u : St) Y => (wX2 (a0 8) aS (xy C) u Y)) (F := fun Z => (wX11 o0 a0 (xy C) u0 Z)) (X := (wX11 o0 a0 (xy C) u0 [])) (As := [.ref (a0 8), .int x1, .int (0 : Int32)]) (rest := [.ref o0]) (u := u_18) hC (fun _ _ => rfl) (fun _ => rfl) (ctX1_bailiff 3 h) wvX1_bailiff nl_X11_348 rfl (rmok hR0 rfl) ⟨Nat.zero_le _, Nat.zero_le _⟩ rfl (Nat.le_of_ble_eq_true rfl) dX11_game_33 (fun r_22 u_21 h => ?_)
    refine g_callV_i (pc := 36) (wd := fun (u : St) Y => (wX11 o0 a0 (xy C) u Y)) (F := fun Z => Z) (X := []) (As := [.int r_22]) (rest := []) (u := u0) hC (fun _ _ => rfl) (fun _ => rfl) (ctX11_answer h) wvX11_answer ml_X11_166 (ci := 9) (q0 := 0) rfl rfl rfl rfl (rmok hR0 rfl) ⟨Nat.zero_le _, Nat.zero_le _⟩ rfl (Nat.le_of_ble_eq_true rfl) dX11_game_36 (fun r_25 u_24 h => ?_)
    refine g_swap (F := fun Z => (wX11 o0 a0 (xy C) u_24 Z)) (X := (wX11 o0 a0 (xy C) u_24 [])) (f := fun Z => (wX2 (a0 8) aS (xy C) u_21 Z)) (g := fun Z => (wX2 (a0 7) aH (xy C) u_19 Z)) (Y := []) (fun _ => rfl) (fun _ => rfl) (fun _ => rfl) ?_
    exact hR _ _ _ (u_24, u_19, u_21) dX11_game_39 h
  · have h := h.2 c_17
    refine g_aload_n (pc := 9) hC 0 dX11_game_9 rfl rfl ?_
    refine g_iconst (pc := 10) (v := 1) hC dX11_game_10 (by decide) ?_
    refine g_callV_i (pc := 11) (wd := fun (u : St) Y => (wX11 o0 a0 (xy C) u Y)) (F := fun Z => Z) (X := []) (As := [.int (1 : Int32)]) (rest := []) (u := u0) hC (fun _ _ => rfl) (fun _ => rfl) (ctX11_refuse h) wvX11_refuse ml_X11_127 (ci := 9) (q0 := 0) rfl rfl rfl rfl (rmok hR0 rfl) ⟨Nat.zero_le _, Nat.zero_le _⟩ rfl (Nat.le_of_ble_eq_true rfl) dX11_game_11 (fun r_28 u_27 h => ?_)
    exact hR _ _ _ (u_27, u1, u2) dX11_game_14 h
theorem ctX11_game {l : Launch} {D : va_G} {cy : Nat → ClassId} {kd : Nat → Nat} {o0 : Nat} {a0 : Nat → Nat} {aH : Nat → Nat} {aS : Nat → Nat} {x1 : Int32} {u0 : St} {u1 : St} {u2 : St} {post : Int32 → St → St → St → Prop} (h : qX11_game x1 u0 u1 u2 post) : CtI l D cy kd yX11_game cX11_game 2 10 .int [.ref o0, .int x1] (fun u : St × St × St => (wX11 o0 a0 cy u.1 (wX2 (a0 7) aH cy u.2.1 (wX2 (a0 8) aS cy u.2.2 [])))) (u0, u1, u2) (fun r u => post r u.1 u.2.1 u.2.2) := met_i (by decide) (Nat.le_of_ble_eq_true rfl) (fun C e1 e2 e3 e4 e5 hC hR => by subst e1 e2 e3 e4; exact kX11_game hC e5 hR h)
theorem dX11_moveOf_0 : decode cX11_moveOf 0 = .ok (.iload_n 1, 1) := by decide +kernel
theorem dX11_moveOf_1 : decode cX11_moveOf 1 = .ok (.iconst 1, 1) := by decide +kernel
theorem dX11_moveOf_2 : decode cX11_moveOf 2 = .ok (.iconst 4, 1) := by decide +kernel
theorem dX11_moveOf_3 : decode cX11_moveOf 3 = .ok (.invokestatic 104, 3) := by decide +kernel
theorem dX11_moveOf_6 : decode cX11_moveOf 6 = .ok (.ifCond .ne 9, 3) := by decide +kernel
theorem dX11_moveOf_9 : decode cX11_moveOf 9 = .ok (.aload_n 0, 1) := by decide +kernel
theorem dX11_moveOf_10 : decode cX11_moveOf 10 = .ok (.iconst 1, 1) := by decide +kernel
theorem dX11_moveOf_11 : decode cX11_moveOf 11 = .ok (.invokevirtual 127, 3) := by decide +kernel
theorem dX11_moveOf_14 : decode cX11_moveOf 14 = .ok (.ireturn, 1) := by decide +kernel
theorem dX11_moveOf_15 : decode cX11_moveOf 15 = .ok (.aload_n 0, 1) := by decide +kernel
theorem dX11_moveOf_16 : decode cX11_moveOf 16 = .ok (.getfield 50, 3) := by decide +kernel
theorem dX11_moveOf_19 : decode cX11_moveOf 19 = .ok (.aload_n 0, 1) := by decide +kernel
theorem dX11_moveOf_20 : decode cX11_moveOf 20 = .ok (.getfield 46, 3) := by decide +kernel
theorem dX11_moveOf_23 : decode cX11_moveOf 23 = .ok (.invokevirtual 298, 3) := by decide +kernel
theorem dX11_moveOf_26 : decode cX11_moveOf 26 = .ok (.aload_n 0, 1) := by decide +kernel
theorem dX11_moveOf_27 : decode cX11_moveOf 27 = .ok (.getfield 50, 3) := by decide +kernel
theorem dX11_moveOf_30 : decode cX11_moveOf 30 = .ok (.iload_n 1, 1) := by decide +kernel
theorem dX11_moveOf_31 : decode cX11_moveOf 31 = .ok (.invokestatic 354, 3) := by decide +kernel
theorem dX11_moveOf_34 : decode cX11_moveOf 34 = .ok (.istore_n 2, 1) := by decide +kernel
theorem dX11_moveOf_35 : decode cX11_moveOf 35 = .ok (.iload_n 2, 1) := by decide +kernel
theorem dX11_moveOf_36 : decode cX11_moveOf 36 = .ok (.iconst (-1), 1) := by decide +kernel
theorem dX11_moveOf_37 : decode cX11_moveOf 37 = .ok (.if_icmp .ne 12, 3) := by decide +kernel
theorem dX11_moveOf_40 : decode cX11_moveOf 40 = .ok (.aload_n 0, 1) := by decide +kernel
theorem dX11_moveOf_41 : decode cX11_moveOf 41 = .ok (.bipush 6, 2) := by decide +kernel
theorem dX11_moveOf_43 : decode cX11_moveOf 43 = .ok (.invokevirtual 127, 3) := by decide +kernel
theorem dX11_moveOf_46 : decode cX11_moveOf 46 = .ok (.goto 8, 3) := by decide +kernel
theorem dX11_moveOf_49 : decode cX11_moveOf 49 = .ok (.aload_n 0, 1) := by decide +kernel
theorem dX11_moveOf_50 : decode cX11_moveOf 50 = .ok (.iload_n 2, 1) := by decide +kernel
theorem dX11_moveOf_51 : decode cX11_moveOf 51 = .ok (.invokevirtual 166, 3) := by decide +kernel
theorem dX11_moveOf_54 : decode cX11_moveOf 54 = .ok (.ireturn, 1) := by decide +kernel
def qX11_moveOf_b54   (post : Int32 → St → St → St → Prop)  (s0 : Int32) (u0 : St) (u1 : St) (u2 : St) : Prop := post s0 u0 u1 u2
set_option maxRecDepth 100000 in
set_option maxHeartbeats 4000000 in
theorem kX11_moveOf_b54 {C : Cx} {o0 : Nat} {a0 : Nat → Nat} {aH : Nat → Nat} {aS : Nat → Nat} (hC : Fx C cX11_moveOf 3 RX11) (hR0 : xR C = rm 12) {post : Int32 → St → St → St → Prop} (hR : RI C cX11_moveOf 3 (fun u : St × St × St => (wX11 o0 a0 (xy C) u.1 (wX2 (a0 7) aH (xy C) u.2.1 (wX2 (a0 8) aS (xy C) u.2.2 [])))) (fun r u => post r u.1 u.2.1 u.2.2))  {s0 : Int32} {u0 : St} {u1 : St} {u2 : St} (h : qX11_moveOf_b54 post s0 u0 u1 u2) : G C 0 0 3 (wX11 o0 a0 (xy C) u0 (wX2 (a0 7) aH (xy C) u1 (wX2 (a0 8) aS (xy C) u2 []))) 54 [] [.int s0] := by
  exact hR _ _ _ (u0, u1, u2) dX11_moveOf_54 h
def qX11_moveOf  (x1 : Int32) (u0 : St) (u1 : St) (u2 : St) (post : Int32 → St → St → St → Prop) : Prop := qX11_within x1 (1 : Int32) (4 : Int32) (fun r_18 => ((¬ r_18 = 0 → qX2_copyFrom u2 u1 (fun u_21 u_22 => qX1_firstMove x1 u_21 (fun r_25 u_24 => ((¬ r_25 = (-1 : Int32) → qX11_answer r_25 u0 (fun r_29 u_28 => qX11_moveOf_b54 post r_29 u_28 u_22 u_24)) ∧ (r_25 = (-1 : Int32) → qX11_refuse (6 : Int32) u0 (fun r_32 u_31 => qX11_moveOf_b54 post r_32 u_31 u_22 u_24)))))) ∧ (r_18 = 0 → qX11_refuse (1 : Int32) u0 (fun r_35 u_34 => post r_35 u_34 u1 u2))))
set_option maxRecDepth 100000 in
set_option maxHeartbeats 4000000 in
theorem kX11_moveOf {C : Cx} {o0 : Nat} {a0 : Nat → Nat} {aH : Nat → Nat} {aS : Nat → Nat} (hC : Fx C cX11_moveOf 3 RX11) (hR0 : xR C = rm 12) {post : Int32 → St → St → St → Prop} (hR : RI C cX11_moveOf 3 (fun u : St × St × St => (wX11 o0 a0 (xy C) u.1 (wX2 (a0 7) aH (xy C) u.2.1 (wX2 (a0 8) aS (xy C) u.2.2 [])))) (fun r u => post r u.1 u.2.1 u.2.2)) {x1 : Int32} {u0 : St} {u1 : St} {u2 : St} (h : qX11_moveOf  x1 u0 u1 u2 post) : G C 0 0 3 (wX11 o0 a0 (xy C) u0 (wX2 (a0 7) aH (xy C) u1 (wX2 (a0 8) aS (xy C) u2 []))) 0 [(0, .ref o0), (1, .int x1)] [] := by
  refine g_iload_n (pc := 0) hC 1 dX11_moveOf_0 rfl rfl ?_
  refine g_iconst (pc := 1) (v := 1) hC dX11_moveOf_1 (by decide) ?_
  refine g_iconst (pc := 2) (v := 4) hC dX11_moveOf_2 (by decide) ?_
  refine g_callS_i (pc := 3) (wd := fun (_ : Unit) Y => Y) (F := fun Z => Z) (X := []) (As := [.int x1, .int (1 : Int32), .int (4 : Int32)]) (rest := []) (u := ()) hC (fun _ _ => rfl) (fun _ => rfl) (ctX11_within h) wvX11_within ml_X11_104 rfl (rmok hR0 rfl) ⟨Nat.zero_le _, Nat.zero_le _⟩ rfl (Nat.le_of_ble_eq_true rfl) dX11_moveOf_3 (fun r_18 u_19 h => ?_)
  refine g_if_ne (pc := 6) (tgt := 15) hC dX11_moveOf_6 (by decide) (fun c_20 => ?_) (fun c_20 => ?_)
  · have h := h.1 c_20
    refine g_aload_n (pc := 15) hC 0 dX11_moveOf_15 rfl rfl ?_
    refine getX11_8 (pc := 16) hC (F := fun Z => Z) (X := []) (fun _ => rfl) fl_X11_50 dX11_moveOf_16 ?_
    refine g_aload_n (pc := 19) hC 0 dX11_moveOf_19 rfl rfl ?_
    refine getX11_7 (pc := 20) hC (F := fun Z => Z) (X := []) (fun _ => rfl) fl_X11_46 dX11_moveOf_20 ?_
    refine g_swap (F := fun Z => (wX11 o0 a0 (xy C) u0 Z)) (X := (wX11 o0 a0 (xy C) u0 [])) (f := fun Z => (wX2 (a0 7) aH (xy C) u1 Z)) (g := fun Z => (wX2 (a0 8) aS (xy C) u2 Z)) (Y := []) (fun _ => rfl) (fun _ => rfl) (fun _ => rfl) ?_
    refine g_callV_v (pc := 23) (wd := fun (u : St × St) Y => (wX2 (a0 8) aS (xy C) u.1 (wX2 (a0 7) aH (xy C) u.2 Y))) (F := fun Z => (wX11 o0 a0 (xy C) u0 Z)) (X := (wX11 o0 a0 (xy C) u0 [])) (As := [.ref (a0 7)]) (rest := []) (u := (u2, u1)) hC (fun _ _ => rfl) (fun _ => rfl) (ctX2_copyFrom h) wvX2_copyFrom ml_X11_298 (ci := 1) (q0 := 0) rfl rfl rfl rfl (rmok hR0 rfl) ⟨Nat.zero_le _, Nat.zero_le _⟩ rfl (Nat.le_of_ble_eq_true rfl) dX11_moveOf_23 (fun u_23 h => ?_)
    obtain ⟨u_21, u_22⟩ := u_23
    refine g_aload_n (pc := 26) hC 0 dX11_moveOf_26 rfl rfl ?_
    refine getX11_8 (pc := 27) hC (F := fun Z => Z) (X := []) (fun _ => rfl) fl_X11_50 dX11_moveOf_27 ?_
    refine g_iload_n (pc := 30) hC 1 dX11_moveOf_30 rfl rfl ?_
    refine g_callS_i (pc := 31) (wd := fun (u : St) Y => (wX2 (a0 8) aS (xy C) u Y)) (F := fun Z => (wX11 o0 a0 (xy C) u0 Z)) (X := (wX11 o0 a0 (xy C) u0 [])) (As := [.ref (a0 8), .int x1]) (rest := []) (u := u_21) hC (fun _ _ => rfl) (fun _ => rfl) (ctX1_firstMove h) wvX1_firstMove ml_X11_354 rfl (rmok hR0 rfl) ⟨Nat.zero_le _, Nat.zero_le _⟩ rfl (Nat.le_of_ble_eq_true rfl) dX11_moveOf_31 (fun r_25 u_24 h => ?_)
    refine g_istore_n (pc := 34) (lv' := [(2, .int r_25), (0, .ref o0), (1, .int x1)]) hC dX11_moveOf_34 rfl (Nat.le_of_ble_eq_true rfl) rfl ?_
    refine g_iload_n (pc := 35) hC 0 dX11_moveOf_35 rfl rfl ?_
    refine g_iconst (pc := 36) (v := -1) hC dX11_moveOf_36 (by decide) ?_
    refine g_icmp_ne (pc := 37) (tgt := 49) hC dX11_moveOf_37 (by decide) (fun c_27 => ?_) (fun c_27 => ?_)
    · have h := h.1 c_27
      refine g_aload_n (pc := 49) hC 1 dX11_moveOf_49 rfl rfl ?_
      refine g_iload_n (pc := 50) hC 0 dX11_moveOf_50 rfl rfl ?_
      refine g_callV_i (pc := 51) (wd := fun (u : St) Y => (wX11 o0 a0 (xy C) u Y)) (F := fun Z => Z) (X := []) (As := [.int r_25]) (rest := []) (u := u0) hC (fun _ _ => rfl) (fun _ => rfl) (ctX11_answer h) wvX11_answer ml_X11_166 (ci := 9) (q0 := 0) rfl rfl rfl rfl (rmok hR0 rfl) ⟨Nat.zero_le _, Nat.zero_le _⟩ rfl (Nat.le_of_ble_eq_true rfl) dX11_moveOf_51 (fun r_29 u_28 h => ?_)
      refine g_swap (F := fun Z => (wX11 o0 a0 (xy C) u_28 Z)) (X := (wX11 o0 a0 (xy C) u_28 [])) (f := fun Z => (wX2 (a0 8) aS (xy C) u_24 Z)) (g := fun Z => (wX2 (a0 7) aH (xy C) u_22 Z)) (Y := []) (fun _ => rfl) (fun _ => rfl) (fun _ => rfl) ?_
      refine g_sub (lv' := []) [] rfl ?_
      exact kX11_moveOf_b54 hC hR0 hR   h
    · have h := h.2 c_27
      refine g_aload_n (pc := 40) hC 1 dX11_moveOf_40 rfl rfl ?_
      refine g_bipush (pc := 41) (v := 6) hC dX11_moveOf_41 (by decide) ?_
      refine g_callV_i (pc := 43) (wd := fun (u : St) Y => (wX11 o0 a0 (xy C) u Y)) (F := fun Z => Z) (X := []) (As := [.int (6 : Int32)]) (rest := []) (u := u0) hC (fun _ _ => rfl) (fun _ => rfl) (ctX11_refuse h) wvX11_refuse ml_X11_127 (ci := 9) (q0 := 0) rfl rfl rfl rfl (rmok hR0 rfl) ⟨Nat.zero_le _, Nat.zero_le _⟩ rfl (Nat.le_of_ble_eq_true rfl) dX11_moveOf_43 (fun r_32 u_31 h => ?_)
      refine g_goto (pc := 46) (tgt := 54) hC dX11_moveOf_46 (by decide) ?_
      refine g_swap (F := fun Z => (wX11 o0 a0 (xy C) u_31 Z)) (X := (wX11 o0 a0 (xy C) u_31 [])) (f := fun Z => (wX2 (a0 8) aS (xy C) u_24 Z)) (g := fun Z => (wX2 (a0 7) aH (xy C) u_22 Z)) (Y := []) (fun _ => rfl) (fun _ => rfl) (fun _ => rfl) ?_
      refine g_sub (lv' := []) [] rfl ?_
      exact kX11_moveOf_b54 hC hR0 hR   h
  · have h := h.2 c_20
    refine g_aload_n (pc := 9) hC 0 dX11_moveOf_9 rfl rfl ?_
    refine g_iconst (pc := 10) (v := 1) hC dX11_moveOf_10 (by decide) ?_
    refine g_callV_i (pc := 11) (wd := fun (u : St) Y => (wX11 o0 a0 (xy C) u Y)) (F := fun Z => Z) (X := []) (As := [.int (1 : Int32)]) (rest := []) (u := u0) hC (fun _ _ => rfl) (fun _ => rfl) (ctX11_refuse h) wvX11_refuse ml_X11_127 (ci := 9) (q0 := 0) rfl rfl rfl rfl (rmok hR0 rfl) ⟨Nat.zero_le _, Nat.zero_le _⟩ rfl (Nat.le_of_ble_eq_true rfl) dX11_moveOf_11 (fun r_35 u_34 h => ?_)
    exact hR _ _ _ (u_34, u1, u2) dX11_moveOf_14 h
theorem ctX11_moveOf {l : Launch} {D : va_G} {cy : Nat → ClassId} {kd : Nat → Nat} {o0 : Nat} {a0 : Nat → Nat} {aH : Nat → Nat} {aS : Nat → Nat} {x1 : Int32} {u0 : St} {u1 : St} {u2 : St} {post : Int32 → St → St → St → Prop} (h : qX11_moveOf x1 u0 u1 u2 post) : CtI l D cy kd yX11_moveOf cX11_moveOf 3 12 .int [.ref o0, .int x1] (fun u : St × St × St => (wX11 o0 a0 cy u.1 (wX2 (a0 7) aH cy u.2.1 (wX2 (a0 8) aS cy u.2.2 [])))) (u0, u1, u2) (fun r u => post r u.1 u.2.1 u.2.2) := met_i (by decide) (Nat.le_of_ble_eq_true rfl) (fun C e1 e2 e3 e4 e5 hC hR => by subst e1 e2 e3 e4; exact kX11_moveOf hC e5 hR h)
theorem dX11_luck_0 : decode cX11_luck 0 = .ok (.iload_n 1, 1) := by decide +kernel
theorem dX11_luck_1 : decode cX11_luck 1 = .ok (.iconst 0, 1) := by decide +kernel
theorem dX11_luck_2 : decode cX11_luck 2 = .ok (.bipush 12, 2) := by decide +kernel
theorem dX11_luck_4 : decode cX11_luck 4 = .ok (.invokestatic 104, 3) := by decide +kernel
theorem dX11_luck_7 : decode cX11_luck 7 = .ok (.ifCond .eq 13, 3) := by decide +kernel
theorem dX11_luck_10 : decode cX11_luck 10 = .ok (.iload_n 2, 1) := by decide +kernel
theorem dX11_luck_11 : decode cX11_luck 11 = .ok (.iconst 0, 1) := by decide +kernel
theorem dX11_luck_12 : decode cX11_luck 12 = .ok (.bipush 12, 2) := by decide +kernel
theorem dX11_luck_14 : decode cX11_luck 14 = .ok (.invokestatic 104, 3) := by decide +kernel
theorem dX11_luck_17 : decode cX11_luck 17 = .ok (.ifCond .ne 9, 3) := by decide +kernel
theorem dX11_luck_20 : decode cX11_luck 20 = .ok (.aload_n 0, 1) := by decide +kernel
theorem dX11_luck_21 : decode cX11_luck 21 = .ok (.iconst 1, 1) := by decide +kernel
theorem dX11_luck_22 : decode cX11_luck 22 = .ok (.invokevirtual 108, 3) := by decide +kernel
theorem dX11_luck_25 : decode cX11_luck 25 = .ok (.ireturn, 1) := by decide +kernel
theorem dX11_luck_26 : decode cX11_luck 26 = .ok (.lconst 0, 1) := by decide +kernel
theorem dX11_luck_27 : decode cX11_luck 27 = .ok (.lstore_n 3, 1) := by decide +kernel
theorem dX11_luck_28 : decode cX11_luck 28 = .ok (.iload_n 2, 1) := by decide +kernel
theorem dX11_luck_29 : decode cX11_luck 29 = .ok (.istore 5, 2) := by decide +kernel
theorem dX11_luck_31 : decode cX11_luck 31 = .ok (.iload 5, 2) := by decide +kernel
theorem dX11_luck_33 : decode cX11_luck 33 = .ok (.iload_n 1, 1) := by decide +kernel
theorem dX11_luck_34 : decode cX11_luck 34 = .ok (.if_icmp .gt 49, 3) := by decide +kernel
theorem dX11_luck_37 : decode cX11_luck 37 = .ok (.lload_n 3, 1) := by decide +kernel
theorem dX11_luck_38 : decode cX11_luck 38 = .ok (.iload_n 1, 1) := by decide +kernel
theorem dX11_luck_39 : decode cX11_luck 39 = .ok (.iload 5, 2) := by decide +kernel
theorem dX11_luck_41 : decode cX11_luck 41 = .ok (.invokestatic 358, 3) := by decide +kernel
theorem dX11_luck_44 : decode cX11_luck 44 = .ok (.aload_n 0, 1) := by decide +kernel
theorem dX11_luck_45 : decode cX11_luck 45 = .ok (.getfield 46, 3) := by decide +kernel
theorem dX11_luck_48 : decode cX11_luck 48 = .ok (.getfield 182, 3) := by decide +kernel
theorem dX11_luck_51 : decode cX11_luck 51 = .ok (.iload 5, 2) := by decide +kernel
theorem dX11_luck_53 : decode cX11_luck 53 = .ok (.invokestatic 361, 3) := by decide +kernel
theorem dX11_luck_56 : decode cX11_luck 56 = .ok (.lmul, 1) := by decide +kernel
theorem dX11_luck_57 : decode cX11_luck 57 = .ok (.bipush 16, 2) := by decide +kernel
theorem dX11_luck_59 : decode cX11_luck 59 = .ok (.aload_n 0, 1) := by decide +kernel
theorem dX11_luck_60 : decode cX11_luck 60 = .ok (.getfield 46, 3) := by decide +kernel
theorem dX11_luck_63 : decode cX11_luck 63 = .ok (.getfield 182, 3) := by decide +kernel
theorem dX11_luck_66 : decode cX11_luck 66 = .ok (.isub, 1) := by decide +kernel
theorem dX11_luck_67 : decode cX11_luck 67 = .ok (.iload_n 1, 1) := by decide +kernel
theorem dX11_luck_68 : decode cX11_luck 68 = .ok (.iload 5, 2) := by decide +kernel
theorem dX11_luck_70 : decode cX11_luck 70 = .ok (.isub, 1) := by decide +kernel
theorem dX11_luck_71 : decode cX11_luck 71 = .ok (.invokestatic 361, 3) := by decide +kernel
theorem dX11_luck_74 : decode cX11_luck 74 = .ok (.lmul, 1) := by decide +kernel
theorem dX11_luck_75 : decode cX11_luck 75 = .ok (.ladd, 1) := by decide +kernel
theorem dX11_luck_76 : decode cX11_luck 76 = .ok (.lstore_n 3, 1) := by decide +kernel
theorem dX11_luck_77 : decode cX11_luck 77 = .ok (.iinc 5 1, 3) := by decide +kernel
theorem dX11_luck_80 : decode cX11_luck 80 = .ok (.goto (-49), 3) := by decide +kernel
theorem dX11_luck_83 : decode cX11_luck 83 = .ok (.aload_n 0, 1) := by decide +kernel
theorem dX11_luck_84 : decode cX11_luck 84 = .ok (.lload_n 3, 1) := by decide +kernel
theorem dX11_luck_85 : decode cX11_luck 85 = .ok (.bipush 16, 2) := by decide +kernel
theorem dX11_luck_87 : decode cX11_luck 87 = .ok (.iload_n 1, 1) := by decide +kernel
theorem dX11_luck_88 : decode cX11_luck 88 = .ok (.invokestatic 361, 3) := by decide +kernel
theorem dX11_luck_91 : decode cX11_luck 91 = .ok (.invokevirtual 330, 3) := by decide +kernel
theorem dX11_luck_94 : decode cX11_luck 94 = .ok (.ireturn, 1) := by decide +kernel
def qX11_luck_b20   (post : Int32 → St → St → Prop)  (u0 : St) (u1 : St) : Prop := qX11_deny (1 : Int32) u0 (fun r_21 u_20 => (bz r_21 ∧ post r_21 u_20 u1))
set_option maxRecDepth 100000 in
set_option maxHeartbeats 4000000 in
theorem kX11_luck_b20 {C : Cx} {o0 : Nat} {a0 : Nat → Nat} {aH : Nat → Nat} (hC : Fx C cX11_luck 6 RX11) (hR0 : xR C = rm 3) {post : Int32 → St → St → Prop} (hR : RZ C cX11_luck 6 (fun u : St × St => (wX11 o0 a0 (xy C) u.1 (wX2 (a0 7) aH (xy C) u.2 []))) (fun r u => post r u.1 u.2))  {u0 : St} {u1 : St} (h : qX11_luck_b20 post u0 u1) : G C 0 0 6 (wX11 o0 a0 (xy C) u0 (wX2 (a0 7) aH (xy C) u1 [])) 20 [(0, .ref o0)] [] := by
  refine g_aload_n (pc := 20) hC 0 dX11_luck_20 rfl rfl ?_
  refine g_iconst (pc := 21) (v := 1) hC dX11_luck_21 (by decide) ?_
  refine g_callV_i (pc := 22) (wd := fun (u : St) Y => (wX11 o0 a0 (xy C) u Y)) (F := fun Z => Z) (X := []) (As := [.int (1 : Int32)]) (rest := []) (u := u0) hC (fun _ _ => rfl) (fun _ => rfl) (ctX11_deny h) wvX11_deny ml_X11_108 (ci := 9) (q0 := 0) rfl rfl rfl rfl (rmok hR0 rfl) ⟨Nat.zero_le _, Nat.zero_le _⟩ rfl (Nat.le_of_ble_eq_true rfl) dX11_luck_22 (fun r_21 u_20 h => ?_)
  exact hR _ _ _ (u_20, u1) dX11_luck_25 h.1 h.2
def qX11_luck_b83   (post : Int32 → St → St → Prop)  (x1 : Int32) (x3 : Int64) (u0 : St) (u1 : St) : Prop := qX11_power (16 : Int32) x1 (fun r_23 => qX11_tellFraction x3 r_23 u0 (fun r_26 u_25 => (bz r_26 ∧ post r_26 u_25 u1)))
set_option maxRecDepth 100000 in
set_option maxHeartbeats 4000000 in
theorem kX11_luck_b83 {C : Cx} {o0 : Nat} {a0 : Nat → Nat} {aH : Nat → Nat} (hC : Fx C cX11_luck 6 RX11) (hR0 : xR C = rm 3) {post : Int32 → St → St → Prop} (hR : RZ C cX11_luck 6 (fun u : St × St => (wX11 o0 a0 (xy C) u.1 (wX2 (a0 7) aH (xy C) u.2 []))) (fun r u => post r u.1 u.2))  {x1 : Int32} {x3 : Int64} {u0 : St} {u1 : St} (h : qX11_luck_b83 post x1 x3 u0 u1) : G C 0 0 6 (wX11 o0 a0 (xy C) u0 (wX2 (a0 7) aH (xy C) u1 [])) 83 [(0, .ref o0), (1, .int x1), (3, .long x3)] [] := by
  refine g_aload_n (pc := 83) hC 0 dX11_luck_83 rfl rfl ?_
  refine g_lload_n (pc := 84) hC 2 dX11_luck_84 rfl rfl ?_
  refine g_bipush (pc := 85) (v := 16) hC dX11_luck_85 (by decide) ?_
  refine g_iload_n (pc := 87) hC 1 dX11_luck_87 rfl rfl ?_
  refine g_callS_l (pc := 88) (wd := fun (_ : Unit) Y => Y) (F := fun Z => Z) (X := []) (As := [.int (16 : Int32), .int x1]) (rest := [.long x3, .ref o0]) (u := ()) hC (fun _ _ => rfl) (fun _ => rfl) (ctX11_power h) wvX11_power ml_X11_361 rfl (rmok hR0 rfl) ⟨Nat.zero_le _, Nat.zero_le _⟩ rfl (Nat.le_of_ble_eq_true rfl) dX11_luck_88 (fun r_23 u_24 h => ?_)
  refine g_callV_i (pc := 91) (wd := fun (u : St) Y => (wX11 o0 a0 (xy C) u Y)) (F := fun Z => Z) (X := []) (As := [.long x3, .long r_23]) (rest := []) (u := u0) hC (fun _ _ => rfl) (fun _ => rfl) (ctX11_tellFraction h) wvX11_tellFraction ml_X11_330 (ci := 9) (q0 := 0) rfl rfl rfl rfl (rmok hR0 rfl) ⟨Nat.zero_le _, Nat.zero_le _⟩ rfl (Nat.le_of_ble_eq_true rfl) dX11_luck_91 (fun r_26 u_25 h => ?_)
  exact hR _ _ _ (u_25, u1) dX11_luck_94 h.1 h.2
def qX11_luck_l31   (post : Int32 → St → St → Prop) (K31 : Int32 → Int64 → Int32 → St → St → Prop) (x1 : Int32) (x3 : Int64) (x5 : Int32) (u0 : St) (u1 : St) : Prop := ((x1 < x5 → qX11_luck_b83 post x1 x3 u0 u1) ∧ (¬ x1 < x5 → qX11_choices x1 x5 (fun r_29 => qX11_power (gi u1 3) x5 (fun r_31 => qX11_power ((16 : Int32) - (gi u1 3)) (x1 - x5) (fun r_33 => ∀ x3_35 : Int64, x3_35 = (x3 + ((r_29 * r_31) * r_33)) → ∀ x5_36 : Int32, x5_36 = x5 + (1 : Int32) → K31 x1 x3_35 x5_36 u0 u1)))))
set_option maxRecDepth 100000 in
set_option maxHeartbeats 4000000 in
theorem kX11_luck_l31 {C : Cx} {o0 : Nat} {a0 : Nat → Nat} {aH : Nat → Nat} (hC : Fx C cX11_luck 6 RX11) (hR0 : xR C = rm 3) {post : Int32 → St → St → Prop} (hR : RZ C cX11_luck 6 (fun u : St × St => (wX11 o0 a0 (xy C) u.1 (wX2 (a0 7) aH (xy C) u.2 []))) (fun r u => post r u.1 u.2))  {K31 : Int32 → Int64 → Int32 → St → St → Prop} (hK31 : ∀ (x1 : Int32) (x3 : Int64) (x5 : Int32) (u0 : St) (u1 : St), K31 x1 x3 x5 u0 u1 → G C 0 0 6 (wX11 o0 a0 (xy C) u0 (wX2 (a0 7) aH (xy C) u1 [])) 31 [(0, .ref o0), (1, .int x1), (3, .long x3), (5, .int x5)] []) {x1 : Int32} {x3 : Int64} {x5 : Int32} {u0 : St} {u1 : St} (h : qX11_luck_l31 post K31 x1 x3 x5 u0 u1) : G C 0 0 6 (wX11 o0 a0 (xy C) u0 (wX2 (a0 7) aH (xy C) u1 [])) 31 [(0, .ref o0), (1, .int x1), (3, .long x3), (5, .int x5)] [] := by
  refine g_iload (pc := 31) hC 3 dX11_luck_31 rfl ?_
  refine g_iload_n (pc := 33) hC 1 dX11_luck_33 rfl rfl ?_
  refine g_icmp_gt (pc := 34) (tgt := 83) hC dX11_luck_34 (by decide) (fun c_28 => ?_) (fun c_28 => ?_)
  · have h := h.1 c_28
    refine g_sub (lv' := [(0, .ref o0), (1, .int x1), (3, .long x3)]) [0, 1, 2] rfl ?_
    exact kX11_luck_b83 hC hR0 hR   h
  · have h := h.2 c_28
    refine g_lload_n (pc := 37) hC 2 dX11_luck_37 rfl rfl ?_
    refine g_iload_n (pc := 38) hC 1 dX11_luck_38 rfl rfl ?_
    refine g_iload (pc := 39) hC 3 dX11_luck_39 rfl ?_
    refine g_callS_l (pc := 41) (wd := fun (_ : Unit) Y => Y) (F := fun Z => Z) (X := []) (As := [.int x1, .int x5]) (rest := [.long x3]) (u := ()) hC (fun _ _ => rfl) (fun _ => rfl) (ctX11_choices h) wvX11_choices ml_X11_358 rfl (rmok hR0 rfl) ⟨Nat.zero_le _, Nat.zero_le _⟩ rfl (Nat.le_of_ble_eq_true rfl) dX11_luck_41 (fun r_29 u_30 h => ?_)
    refine g_aload_n (pc := 44) hC 0 dX11_luck_44 rfl rfl ?_
    refine getX11_7 (pc := 45) hC (F := fun Z => Z) (X := []) (fun _ => rfl) fl_X11_46 dX11_luck_45 ?_
    refine getX2_3 (pc := 48) hC (F := fun Z => (wX11 o0 a0 (xy C) u0 Z)) (X := (wX11 o0 a0 (xy C) u0 [])) (fun _ => rfl) fl_X11_182 dX11_luck_48 ?_
    refine g_iload (pc := 51) hC 3 dX11_luck_51 rfl ?_
    refine g_callS_l (pc := 53) (wd := fun (_ : Unit) Y => Y) (F := fun Z => Z) (X := []) (As := [.int (gi u1 3), .int x5]) (rest := [.long r_29, .long x3]) (u := ()) hC (fun _ _ => rfl) (fun _ => rfl) (ctX11_power h) wvX11_power ml_X11_361 rfl (rmok hR0 rfl) ⟨Nat.zero_le _, Nat.zero_le _⟩ rfl (Nat.le_of_ble_eq_true rfl) dX11_luck_53 (fun r_31 u_32 h => ?_)
    refine g_lmul (pc := 56) hC dX11_luck_56 ?_
    refine g_bipush (pc := 57) (v := 16) hC dX11_luck_57 (by decide) ?_
    refine g_aload_n (pc := 59) hC 0 dX11_luck_59 rfl rfl ?_
    refine getX11_7 (pc := 60) hC (F := fun Z => Z) (X := []) (fun _ => rfl) fl_X11_46 dX11_luck_60 ?_
    refine getX2_3 (pc := 63) hC (F := fun Z => (wX11 o0 a0 (xy C) u0 Z)) (X := (wX11 o0 a0 (xy C) u0 [])) (fun _ => rfl) fl_X11_182 dX11_luck_63 ?_
    refine g_isub (pc := 66) hC dX11_luck_66 ?_
    refine g_iload_n (pc := 67) hC 1 dX11_luck_67 rfl rfl ?_
    refine g_iload (pc := 68) hC 3 dX11_luck_68 rfl ?_
    refine g_isub (pc := 70) hC dX11_luck_70 ?_
    refine g_callS_l (pc := 71) (wd := fun (_ : Unit) Y => Y) (F := fun Z => Z) (X := []) (As := [.int ((16 : Int32) - (gi u1 3)), .int (x1 - x5)]) (rest := [.long (r_29 * r_31), .long x3]) (u := ()) hC (fun _ _ => rfl) (fun _ => rfl) (ctX11_power h) wvX11_power ml_X11_361 rfl (rmok hR0 rfl) ⟨Nat.zero_le _, Nat.zero_le _⟩ rfl (Nat.le_of_ble_eq_true rfl) dX11_luck_71 (fun r_33 u_34 h => ?_)
    refine g_lmul (pc := 74) hC dX11_luck_74 ?_
    refine g_ladd (pc := 75) hC dX11_luck_75 ?_
    refine g_topl (fun x3_35 ex3_35 => ?_)
    have h := h x3_35 ex3_35
    refine g_lstore_n (pc := 76) (lv' := [(3, .long x3_35), (0, .ref o0), (1, .int x1), (5, .int x5)]) hC dX11_luck_76 rfl (Nat.le_of_ble_eq_true rfl) rfl ?_
    obtain ⟨x5_36, ex5_36⟩ : ∃ z : Int32, z = x5 + (1 : Int32) := ⟨_, rfl⟩
    have h := h x5_36 ex5_36
    refine g_iinc (pc := 77) (v := x5_36) (lv' := [(5, .int x5_36), (3, .long x3_35), (0, .ref o0), (1, .int x1)]) hC 3 dX11_luck_77 rfl (by rw [ex5_36]; rfl) (Nat.le_of_ble_eq_true rfl) rfl ?_
    refine g_goto (pc := 80) (tgt := 31) hC dX11_luck_80 (by decide) ?_
    refine g_sub (lv' := [(0, .ref o0), (1, .int x1), (3, .long x3_35), (5, .int x5_36)]) [2, 3, 1, 0] rfl ?_
    exact hK31 _ _ _ _ _ h
def qX11_luck_L31   (post : Int32 → St → St → Prop)  : Nat → Int32 → Int64 → Int32 → St → St → Prop
  | 0 => fun _ _ _ _ _ => False
  | n + 1 => qX11_luck_l31 post (qX11_luck_L31 post n)
theorem kX11_luck_L31 {C : Cx} {o0 : Nat} {a0 : Nat → Nat} {aH : Nat → Nat} (hC : Fx C cX11_luck 6 RX11) (hR0 : xR C = rm 3) {post : Int32 → St → St → Prop} (hR : RZ C cX11_luck 6 (fun u : St × St => (wX11 o0 a0 (xy C) u.1 (wX2 (a0 7) aH (xy C) u.2 []))) (fun r u => post r u.1 u.2))  : ∀ (n : Nat) (x1 : Int32) (x3 : Int64) (x5 : Int32) (u0 : St) (u1 : St), qX11_luck_L31 post n x1 x3 x5 u0 u1 → G C 0 0 6 (wX11 o0 a0 (xy C) u0 (wX2 (a0 7) aH (xy C) u1 [])) 31 [(0, .ref o0), (1, .int x1), (3, .long x3), (5, .int x5)] [] := by
  intro n
  induction n with
  | zero => intro x1 x3 x5 u0 u1 h; exact h.elim
  | succ n ih => intro x1 x3 x5 u0 u1 h; exact kX11_luck_l31 hC hR0 hR   ih h
def qX11_luck  (x1 : Int32) (x2 : Int32) (u0 : St) (u1 : St) (post : Int32 → St → St → Prop) : Prop := qX11_within x1 (0 : Int32) (12 : Int32) (fun r_37 => ((r_37 = 0 → qX11_luck_b20 post u0 u1) ∧ (¬ r_37 = 0 → qX11_within x2 (0 : Int32) (12 : Int32) (fun r_40 => ((¬ r_40 = 0 → ∃ n_43 : Nat, qX11_luck_L31 post n_43 x1 (0 : Int64) x2 u0 u1) ∧ (r_40 = 0 → qX11_luck_b20 post u0 u1))))))
set_option maxRecDepth 100000 in
set_option maxHeartbeats 4000000 in
theorem kX11_luck {C : Cx} {o0 : Nat} {a0 : Nat → Nat} {aH : Nat → Nat} (hC : Fx C cX11_luck 6 RX11) (hR0 : xR C = rm 3) {post : Int32 → St → St → Prop} (hR : RZ C cX11_luck 6 (fun u : St × St => (wX11 o0 a0 (xy C) u.1 (wX2 (a0 7) aH (xy C) u.2 []))) (fun r u => post r u.1 u.2)) {x1 : Int32} {x2 : Int32} {u0 : St} {u1 : St} (h : qX11_luck  x1 x2 u0 u1 post) : G C 0 0 6 (wX11 o0 a0 (xy C) u0 (wX2 (a0 7) aH (xy C) u1 [])) 0 [(0, .ref o0), (1, .int x1), (2, .int x2)] [] := by
  refine g_iload_n (pc := 0) hC 1 dX11_luck_0 rfl rfl ?_
  refine g_iconst (pc := 1) (v := 0) hC dX11_luck_1 (by decide) ?_
  refine g_bipush (pc := 2) (v := 12) hC dX11_luck_2 (by decide) ?_
  refine g_callS_i (pc := 4) (wd := fun (_ : Unit) Y => Y) (F := fun Z => Z) (X := []) (As := [.int x1, .int (0 : Int32), .int (12 : Int32)]) (rest := []) (u := ()) hC (fun _ _ => rfl) (fun _ => rfl) (ctX11_within h) wvX11_within ml_X11_104 rfl (rmok hR0 rfl) ⟨Nat.zero_le _, Nat.zero_le _⟩ rfl (Nat.le_of_ble_eq_true rfl) dX11_luck_4 (fun r_37 u_38 h => ?_)
  refine g_if_eq (pc := 7) (tgt := 20) hC dX11_luck_7 (by decide) (fun c_39 => ?_) (fun c_39 => ?_)
  · have h := h.1 c_39
    refine g_sub (lv' := [(0, .ref o0)]) [0] rfl ?_
    exact kX11_luck_b20 hC hR0 hR   h
  · have h := h.2 c_39
    refine g_iload_n (pc := 10) hC 2 dX11_luck_10 rfl rfl ?_
    refine g_iconst (pc := 11) (v := 0) hC dX11_luck_11 (by decide) ?_
    refine g_bipush (pc := 12) (v := 12) hC dX11_luck_12 (by decide) ?_
    refine g_callS_i (pc := 14) (wd := fun (_ : Unit) Y => Y) (F := fun Z => Z) (X := []) (As := [.int x2, .int (0 : Int32), .int (12 : Int32)]) (rest := []) (u := ()) hC (fun _ _ => rfl) (fun _ => rfl) (ctX11_within h) wvX11_within ml_X11_104 rfl (rmok hR0 rfl) ⟨Nat.zero_le _, Nat.zero_le _⟩ rfl (Nat.le_of_ble_eq_true rfl) dX11_luck_14 (fun r_40 u_41 h => ?_)
    refine g_if_ne (pc := 17) (tgt := 26) hC dX11_luck_17 (by decide) (fun c_42 => ?_) (fun c_42 => ?_)
    · have h := h.1 c_42
      refine g_lconst (pc := 26) (v := 0) hC dX11_luck_26 (by decide) ?_
      refine g_lstore_n (pc := 27) (lv' := [(3, .long (0 : Int64)), (0, .ref o0), (1, .int x1), (2, .int x2)]) hC dX11_luck_27 rfl (Nat.le_of_ble_eq_true rfl) rfl ?_
      refine g_iload_n (pc := 28) hC 3 dX11_luck_28 rfl rfl ?_
      refine g_istore (pc := 29) (lv' := [(5, .int x2), (3, .long (0 : Int64)), (0, .ref o0), (1, .int x1), (2, .int x2)]) hC dX11_luck_29 (Nat.le_of_ble_eq_true rfl) rfl ?_
      refine g_sub (lv' := [(0, .ref o0), (1, .int x1), (3, .long (0 : Int64)), (5, .int x2)]) [2, 3, 1, 0] rfl ?_
      obtain ⟨n_43, h⟩ := h
      exact kX11_luck_L31 hC hR0 hR   n_43 _ _ _ _ _ h
    · have h := h.2 c_42
      refine g_sub (lv' := [(0, .ref o0)]) [0] rfl ?_
      exact kX11_luck_b20 hC hR0 hR   h
theorem ctX11_luck {l : Launch} {D : va_G} {cy : Nat → ClassId} {kd : Nat → Nat} {o0 : Nat} {a0 : Nat → Nat} {aH : Nat → Nat} {x1 : Int32} {x2 : Int32} {u0 : St} {u1 : St} {post : Int32 → St → St → Prop} (h : qX11_luck x1 x2 u0 u1 post) : CtI l D cy kd yX11_luck cX11_luck 6 3 .boolean [.ref o0, .int x1, .int x2] (fun u : St × St => (wX11 o0 a0 cy u.1 (wX2 (a0 7) aH cy u.2 []))) (u0, u1) (fun r u => post r u.1 u.2) := met_z (by decide) (Nat.le_of_ble_eq_true rfl) (fun C e1 e2 e3 e4 e5 hC hR => by subst e1 e2 e3 e4; exact kX11_luck hC e5 hR h)
theorem dX11_share_0 : decode cX11_share 0 = .ok (.aload_n 0, 1) := by decide +kernel
theorem dX11_share_1 : decode cX11_share 1 = .ok (.getfield 46, 3) := by decide +kernel
theorem dX11_share_4 : decode cX11_share 4 = .ok (.iload_n 1, 1) := by decide +kernel
theorem dX11_share_5 : decode cX11_share 5 = .ok (.invokevirtual 222, 3) := by decide +kernel
theorem dX11_share_8 : decode cX11_share 8 = .ok (.ifCond .ne 9, 3) := by decide +kernel
theorem dX11_share_11 : decode cX11_share 11 = .ok (.aload_n 0, 1) := by decide +kernel
theorem dX11_share_12 : decode cX11_share 12 = .ok (.iconst 1, 1) := by decide +kernel
theorem dX11_share_13 : decode cX11_share 13 = .ok (.invokevirtual 108, 3) := by decide +kernel
theorem dX11_share_16 : decode cX11_share 16 = .ok (.ireturn, 1) := by decide +kernel
theorem dX11_share_17 : decode cX11_share 17 = .ok (.aload_n 0, 1) := by decide +kernel
theorem dX11_share_18 : decode cX11_share 18 = .ok (.getfield 46, 3) := by decide +kernel
theorem dX11_share_21 : decode cX11_share 21 = .ok (.invokevirtual 198, 3) := by decide +kernel
theorem dX11_share_24 : decode cX11_share 24 = .ok (.istore_n 2, 1) := by decide +kernel
theorem dX11_share_25 : decode cX11_share 25 = .ok (.iload_n 2, 1) := by decide +kernel
theorem dX11_share_26 : decode cX11_share 26 = .ok (.ifCond .ne 10, 3) := by decide +kernel
theorem dX11_share_29 : decode cX11_share 29 = .ok (.aload_n 0, 1) := by decide +kernel
theorem dX11_share_30 : decode cX11_share 30 = .ok (.bipush 6, 2) := by decide +kernel
theorem dX11_share_32 : decode cX11_share 32 = .ok (.invokevirtual 108, 3) := by decide +kernel
theorem dX11_share_35 : decode cX11_share 35 = .ok (.ireturn, 1) := by decide +kernel
theorem dX11_share_36 : decode cX11_share 36 = .ok (.aload_n 0, 1) := by decide +kernel
theorem dX11_share_37 : decode cX11_share 37 = .ok (.aload_n 0, 1) := by decide +kernel
theorem dX11_share_38 : decode cX11_share 38 = .ok (.getfield 46, 3) := by decide +kernel
theorem dX11_share_41 : decode cX11_share 41 = .ok (.iload_n 1, 1) := by decide +kernel
theorem dX11_share_42 : decode cX11_share 42 = .ok (.invokevirtual 249, 3) := by decide +kernel
theorem dX11_share_45 : decode cX11_share 45 = .ok (.i2l, 1) := by decide +kernel
theorem dX11_share_46 : decode cX11_share 46 = .ok (.iload_n 2, 1) := by decide +kernel
theorem dX11_share_47 : decode cX11_share 47 = .ok (.i2l, 1) := by decide +kernel
theorem dX11_share_48 : decode cX11_share 48 = .ok (.invokevirtual 330, 3) := by decide +kernel
theorem dX11_share_51 : decode cX11_share 51 = .ok (.ireturn, 1) := by decide +kernel
def qX11_share  (x1 : Int32) (u0 : St) (u1 : St) (post : Int32 → St → St → Prop) : Prop := qX2_isDebt x1 u1 (fun r_20 u_19 => ((¬ r_20 = 0 → qX2_allOwed u_19 (fun r_24 u_23 => ((¬ r_24 = 0 → qX2_owed x1 u_23 (fun r_28 u_27 => qX11_tellFraction (r_28).toInt64 (r_24).toInt64 u0 (fun r_31 u_30 => (bz r_31 ∧ post r_31 u_30 u_27)))) ∧ (r_24 = 0 → qX11_deny (6 : Int32) u0 (fun r_34 u_33 => (bz r_34 ∧ post r_34 u_33 u_23)))))) ∧ (r_20 = 0 → qX11_deny (1 : Int32) u0 (fun r_37 u_36 => (bz r_37 ∧ post r_37 u_36 u_19)))))
set_option maxRecDepth 100000 in
set_option maxHeartbeats 4000000 in
theorem kX11_share {C : Cx} {o0 : Nat} {a0 : Nat → Nat} {aH : Nat → Nat} (hC : Fx C cX11_share 3 RX11) (hR0 : xR C = rm 4) {post : Int32 → St → St → Prop} (hR : RZ C cX11_share 3 (fun u : St × St => (wX11 o0 a0 (xy C) u.1 (wX2 (a0 7) aH (xy C) u.2 []))) (fun r u => post r u.1 u.2)) {x1 : Int32} {u0 : St} {u1 : St} (h : qX11_share  x1 u0 u1 post) : G C 0 0 3 (wX11 o0 a0 (xy C) u0 (wX2 (a0 7) aH (xy C) u1 [])) 0 [(0, .ref o0), (1, .int x1)] [] := by
  refine g_aload_n (pc := 0) hC 0 dX11_share_0 rfl rfl ?_
  refine getX11_7 (pc := 1) hC (F := fun Z => Z) (X := []) (fun _ => rfl) fl_X11_46 dX11_share_1 ?_
  refine g_iload_n (pc := 4) hC 1 dX11_share_4 rfl rfl ?_
  refine g_callV_i (pc := 5) (wd := fun (u : St) Y => (wX2 (a0 7) aH (xy C) u Y)) (F := fun Z => (wX11 o0 a0 (xy C) u0 Z)) (X := (wX11 o0 a0 (xy C) u0 [])) (As := [.int x1]) (rest := []) (u := u1) hC (fun _ _ => rfl) (fun _ => rfl) (ctX2_isDebt h) wvX2_isDebt ml_X11_222 (ci := 1) (q0 := 0) rfl rfl rfl rfl (rmok hR0 rfl) ⟨Nat.zero_le _, Nat.zero_le _⟩ rfl (Nat.le_of_ble_eq_true rfl) dX11_share_5 (fun r_20 u_19 h => ?_)
  refine g_if_ne (pc := 8) (tgt := 17) hC dX11_share_8 (by decide) (fun c_22 => ?_) (fun c_22 => ?_)
  · have h := h.1 c_22
    refine g_aload_n (pc := 17) hC 0 dX11_share_17 rfl rfl ?_
    refine getX11_7 (pc := 18) hC (F := fun Z => Z) (X := []) (fun _ => rfl) fl_X11_46 dX11_share_18 ?_
    refine g_callV_i (pc := 21) (wd := fun (u : St) Y => (wX2 (a0 7) aH (xy C) u Y)) (F := fun Z => (wX11 o0 a0 (xy C) u0 Z)) (X := (wX11 o0 a0 (xy C) u0 [])) (As := []) (rest := []) (u := u_19) hC (fun _ _ => rfl) (fun _ => rfl) (ctX2_allOwed h) wvX2_allOwed ml_X11_198 (ci := 1) (q0 := 0) rfl rfl rfl rfl (rmok hR0 rfl) ⟨Nat.zero_le _, Nat.zero_le _⟩ rfl (Nat.le_of_ble_eq_true rfl) dX11_share_21 (fun r_24 u_23 h => ?_)
    refine g_istore_n (pc := 24) (lv' := [(2, .int r_24), (0, .ref o0), (1, .int x1)]) hC dX11_share_24 rfl (Nat.le_of_ble_eq_true rfl) rfl ?_
    refine g_iload_n (pc := 25) hC 0 dX11_share_25 rfl rfl ?_
    refine g_if_ne (pc := 26) (tgt := 36) hC dX11_share_26 (by decide) (fun c_26 => ?_) (fun c_26 => ?_)
    · have h := h.1 c_26
      refine g_aload_n (pc := 36) hC 1 dX11_share_36 rfl rfl ?_
      refine g_aload_n (pc := 37) hC 1 dX11_share_37 rfl rfl ?_
      refine getX11_7 (pc := 38) hC (F := fun Z => Z) (X := []) (fun _ => rfl) fl_X11_46 dX11_share_38 ?_
      refine g_iload_n (pc := 41) hC 2 dX11_share_41 rfl rfl ?_
      refine g_callV_i (pc := 42) (wd := fun (u : St) Y => (wX2 (a0 7) aH (xy C) u Y)) (F := fun Z => (wX11 o0 a0 (xy C) u0 Z)) (X := (wX11 o0 a0 (xy C) u0 [])) (As := [.int x1]) (rest := [.ref o0]) (u := u_23) hC (fun _ _ => rfl) (fun _ => rfl) (ctX2_owed h) wvX2_owed ml_X11_249 (ci := 1) (q0 := 0) rfl rfl rfl rfl (rmok hR0 rfl) ⟨Nat.zero_le _, Nat.zero_le _⟩ rfl (Nat.le_of_ble_eq_true rfl) dX11_share_42 (fun r_28 u_27 h => ?_)
      refine g_i2l (pc := 45) hC dX11_share_45 ?_
      refine g_iload_n (pc := 46) hC 0 dX11_share_46 rfl rfl ?_
      refine g_i2l (pc := 47) hC dX11_share_47 ?_
      refine g_callV_i (pc := 48) (wd := fun (u : St) Y => (wX11 o0 a0 (xy C) u Y)) (F := fun Z => Z) (X := []) (As := [.long (r_28).toInt64, .long (r_24).toInt64]) (rest := []) (u := u0) hC (fun _ _ => rfl) (fun _ => rfl) (ctX11_tellFraction h) wvX11_tellFraction ml_X11_330 (ci := 9) (q0 := 0) rfl rfl rfl rfl (rmok hR0 rfl) ⟨Nat.zero_le _, Nat.zero_le _⟩ rfl (Nat.le_of_ble_eq_true rfl) dX11_share_48 (fun r_31 u_30 h => ?_)
      exact hR _ _ _ (u_30, u_27) dX11_share_51 h.1 h.2
    · have h := h.2 c_26
      refine g_aload_n (pc := 29) hC 1 dX11_share_29 rfl rfl ?_
      refine g_bipush (pc := 30) (v := 6) hC dX11_share_30 (by decide) ?_
      refine g_callV_i (pc := 32) (wd := fun (u : St) Y => (wX11 o0 a0 (xy C) u Y)) (F := fun Z => Z) (X := []) (As := [.int (6 : Int32)]) (rest := []) (u := u0) hC (fun _ _ => rfl) (fun _ => rfl) (ctX11_deny h) wvX11_deny ml_X11_108 (ci := 9) (q0 := 0) rfl rfl rfl rfl (rmok hR0 rfl) ⟨Nat.zero_le _, Nat.zero_le _⟩ rfl (Nat.le_of_ble_eq_true rfl) dX11_share_32 (fun r_34 u_33 h => ?_)
      exact hR _ _ _ (u_33, u_23) dX11_share_35 h.1 h.2
  · have h := h.2 c_22
    refine g_aload_n (pc := 11) hC 0 dX11_share_11 rfl rfl ?_
    refine g_iconst (pc := 12) (v := 1) hC dX11_share_12 (by decide) ?_
    refine g_callV_i (pc := 13) (wd := fun (u : St) Y => (wX11 o0 a0 (xy C) u Y)) (F := fun Z => Z) (X := []) (As := [.int (1 : Int32)]) (rest := []) (u := u0) hC (fun _ _ => rfl) (fun _ => rfl) (ctX11_deny h) wvX11_deny ml_X11_108 (ci := 9) (q0 := 0) rfl rfl rfl rfl (rmok hR0 rfl) ⟨Nat.zero_le _, Nat.zero_le _⟩ rfl (Nat.le_of_ble_eq_true rfl) dX11_share_13 (fun r_37 u_36 h => ?_)
    exact hR _ _ _ (u_36, u_19) dX11_share_16 h.1 h.2
theorem ctX11_share {l : Launch} {D : va_G} {cy : Nat → ClassId} {kd : Nat → Nat} {o0 : Nat} {a0 : Nat → Nat} {aH : Nat → Nat} {x1 : Int32} {u0 : St} {u1 : St} {post : Int32 → St → St → Prop} (h : qX11_share x1 u0 u1 post) : CtI l D cy kd yX11_share cX11_share 3 4 .boolean [.ref o0, .int x1] (fun u : St × St => (wX11 o0 a0 cy u.1 (wX2 (a0 7) aH cy u.2 []))) (u0, u1) (fun r u => post r u.1 u.2) := met_z (by decide) (Nat.le_of_ble_eq_true rfl) (fun C e1 e2 e3 e4 e5 hC hR => by subst e1 e2 e3 e4; exact kX11_share hC e5 hR h)
theorem dX11_copyOwed_0 : decode cX11_copyOwed 0 = .ok (.aload_n 0, 1) := by decide +kernel
theorem dX11_copyOwed_1 : decode cX11_copyOwed 1 = .ok (.getfield 30, 3) := by decide +kernel
theorem dX11_copyOwed_4 : decode cX11_copyOwed 4 = .ok (.iload_n 1, 1) := by decide +kernel
theorem dX11_copyOwed_5 : decode cX11_copyOwed 5 = .ok (.invokevirtual 100, 3) := by decide +kernel
theorem dX11_copyOwed_8 : decode cX11_copyOwed 8 = .ok (.ifCond .ne 9, 3) := by decide +kernel
theorem dX11_copyOwed_11 : decode cX11_copyOwed 11 = .ok (.aload_n 0, 1) := by decide +kernel
theorem dX11_copyOwed_12 : decode cX11_copyOwed 12 = .ok (.iconst 1, 1) := by decide +kernel
theorem dX11_copyOwed_13 : decode cX11_copyOwed 13 = .ok (.invokevirtual 127, 3) := by decide +kernel
theorem dX11_copyOwed_16 : decode cX11_copyOwed 16 = .ok (.ireturn, 1) := by decide +kernel
theorem dX11_copyOwed_17 : decode cX11_copyOwed 17 = .ok (.aload_n 0, 1) := by decide +kernel
theorem dX11_copyOwed_18 : decode cX11_copyOwed 18 = .ok (.getfield 30, 3) := by decide +kernel
theorem dX11_copyOwed_21 : decode cX11_copyOwed 21 = .ok (.iload_n 1, 1) := by decide +kernel
theorem dX11_copyOwed_22 : decode cX11_copyOwed 22 = .ok (.invokevirtual 135, 3) := by decide +kernel
theorem dX11_copyOwed_25 : decode cX11_copyOwed 25 = .ok (.ifCond .eq 9, 3) := by decide +kernel
theorem dX11_copyOwed_28 : decode cX11_copyOwed 28 = .ok (.aload_n 0, 1) := by decide +kernel
theorem dX11_copyOwed_29 : decode cX11_copyOwed 29 = .ok (.iconst 2, 1) := by decide +kernel
theorem dX11_copyOwed_30 : decode cX11_copyOwed 30 = .ok (.invokevirtual 127, 3) := by decide +kernel
theorem dX11_copyOwed_33 : decode cX11_copyOwed 33 = .ok (.ireturn, 1) := by decide +kernel
theorem dX11_copyOwed_34 : decode cX11_copyOwed 34 = .ok (.aload_n 0, 1) := by decide +kernel
theorem dX11_copyOwed_35 : decode cX11_copyOwed 35 = .ok (.getfield 30, 3) := by decide +kernel
theorem dX11_copyOwed_38 : decode cX11_copyOwed 38 = .ok (.getfield 142, 3) := by decide +kernel
theorem dX11_copyOwed_41 : decode cX11_copyOwed 41 = .ok (.iload_n 1, 1) := by decide +kernel
theorem dX11_copyOwed_42 : decode cX11_copyOwed 42 = .ok (.iaload, 1) := by decide +kernel
theorem dX11_copyOwed_43 : decode cX11_copyOwed 43 = .ok (.aload_n 0, 1) := by decide +kernel
theorem dX11_copyOwed_44 : decode cX11_copyOwed 44 = .ok (.getfield 46, 3) := by decide +kernel
theorem dX11_copyOwed_47 : decode cX11_copyOwed 47 = .ok (.getfield 163, 3) := by decide +kernel
theorem dX11_copyOwed_50 : decode cX11_copyOwed 50 = .ok (.if_icmp .ge 9, 3) := by decide +kernel
theorem dX11_copyOwed_53 : decode cX11_copyOwed 53 = .ok (.aload_n 0, 1) := by decide +kernel
theorem dX11_copyOwed_54 : decode cX11_copyOwed 54 = .ok (.iconst 3, 1) := by decide +kernel
theorem dX11_copyOwed_55 : decode cX11_copyOwed 55 = .ok (.invokevirtual 127, 3) := by decide +kernel
theorem dX11_copyOwed_58 : decode cX11_copyOwed 58 = .ok (.ireturn, 1) := by decide +kernel
theorem dX11_copyOwed_59 : decode cX11_copyOwed 59 = .ok (.iconst 0, 1) := by decide +kernel
theorem dX11_copyOwed_60 : decode cX11_copyOwed 60 = .ok (.istore_n 2, 1) := by decide +kernel
theorem dX11_copyOwed_61 : decode cX11_copyOwed 61 = .ok (.iload_n 2, 1) := by decide +kernel
theorem dX11_copyOwed_62 : decode cX11_copyOwed 62 = .ok (.aload_n 0, 1) := by decide +kernel
theorem dX11_copyOwed_63 : decode cX11_copyOwed 63 = .ok (.getfield 46, 3) := by decide +kernel
theorem dX11_copyOwed_66 : decode cX11_copyOwed 66 = .ok (.getfield 163, 3) := by decide +kernel
theorem dX11_copyOwed_69 : decode cX11_copyOwed 69 = .ok (.if_icmp .ge 27, 3) := by decide +kernel
theorem dX11_copyOwed_72 : decode cX11_copyOwed 72 = .ok (.aload_n 0, 1) := by decide +kernel
theorem dX11_copyOwed_73 : decode cX11_copyOwed 73 = .ok (.getfield 30, 3) := by decide +kernel
theorem dX11_copyOwed_76 : decode cX11_copyOwed 76 = .ok (.iload_n 1, 1) := by decide +kernel
theorem dX11_copyOwed_77 : decode cX11_copyOwed 77 = .ok (.iload_n 2, 1) := by decide +kernel
theorem dX11_copyOwed_78 : decode cX11_copyOwed 78 = .ok (.aload_n 0, 1) := by decide +kernel
theorem dX11_copyOwed_79 : decode cX11_copyOwed 79 = .ok (.getfield 46, 3) := by decide +kernel
theorem dX11_copyOwed_82 : decode cX11_copyOwed 82 = .ok (.iload_n 2, 1) := by decide +kernel
theorem dX11_copyOwed_83 : decode cX11_copyOwed 83 = .ok (.invokevirtual 249, 3) := by decide +kernel
theorem dX11_copyOwed_86 : decode cX11_copyOwed 86 = .ok (.i2l, 1) := by decide +kernel
theorem dX11_copyOwed_87 : decode cX11_copyOwed 87 = .ok (.invokevirtual 123, 3) := by decide +kernel
theorem dX11_copyOwed_90 : decode cX11_copyOwed 90 = .ok (.iinc 2 1, 3) := by decide +kernel
theorem dX11_copyOwed_93 : decode cX11_copyOwed 93 = .ok (.goto (-32), 3) := by decide +kernel
theorem dX11_copyOwed_96 : decode cX11_copyOwed 96 = .ok (.aload_n 0, 1) := by decide +kernel
theorem dX11_copyOwed_97 : decode cX11_copyOwed 97 = .ok (.aload_n 0, 1) := by decide +kernel
theorem dX11_copyOwed_98 : decode cX11_copyOwed 98 = .ok (.getfield 46, 3) := by decide +kernel
theorem dX11_copyOwed_101 : decode cX11_copyOwed 101 = .ok (.getfield 163, 3) := by decide +kernel
theorem dX11_copyOwed_104 : decode cX11_copyOwed 104 = .ok (.invokevirtual 166, 3) := by decide +kernel
theorem dX11_copyOwed_107 : decode cX11_copyOwed 107 = .ok (.ireturn, 1) := by decide +kernel
def qX11_copyOwed_b96   (post : Int32 → St → St → St → Prop)  (u0 : St) (u1 : St) (u2 : St) : Prop := qX11_answer (gi u2 2) u0 (fun r_26 u_25 => post r_26 u_25 u1 u2)
set_option maxRecDepth 100000 in
set_option maxHeartbeats 4000000 in
theorem kX11_copyOwed_b96 {C : Cx} {o0 : Nat} {a0 : Nat → Nat} {aT : Nat → Nat} {aH : Nat → Nat} (hC : Fx C cX11_copyOwed 3 RX11) (hR0 : xR C = rm 3) {post : Int32 → St → St → St → Prop} (hR : RI C cX11_copyOwed 3 (fun u : St × St × St => (wX11 o0 a0 (xy C) u.1 (wX9 (a0 5) aT (xy C) u.2.1 (wX2 (a0 7) aH (xy C) u.2.2 [])))) (fun r u => post r u.1 u.2.1 u.2.2))  {u0 : St} {u1 : St} {u2 : St} (h : qX11_copyOwed_b96 post u0 u1 u2) : G C 0 0 3 (wX11 o0 a0 (xy C) u0 (wX9 (a0 5) aT (xy C) u1 (wX2 (a0 7) aH (xy C) u2 []))) 96 [(0, .ref o0)] [] := by
  refine g_aload_n (pc := 96) hC 0 dX11_copyOwed_96 rfl rfl ?_
  refine g_aload_n (pc := 97) hC 0 dX11_copyOwed_97 rfl rfl ?_
  refine getX11_7 (pc := 98) hC (F := fun Z => Z) (X := []) (fun _ => rfl) fl_X11_46 dX11_copyOwed_98 ?_
  refine getX2_2 (pc := 101) hC (F := fun Z => (wX11 o0 a0 (xy C) u0 (wX9 (a0 5) aT (xy C) u1 Z))) (X := (wX11 o0 a0 (xy C) u0 (wX9 (a0 5) aT (xy C) u1 []))) (fun _ => rfl) fl_X11_163 dX11_copyOwed_101 ?_
  refine g_callV_i (pc := 104) (wd := fun (u : St) Y => (wX11 o0 a0 (xy C) u Y)) (F := fun Z => Z) (X := []) (As := [.int (gi u2 2)]) (rest := []) (u := u0) hC (fun _ _ => rfl) (fun _ => rfl) (ctX11_answer h) wvX11_answer ml_X11_166 (ci := 9) (q0 := 0) rfl rfl rfl rfl (rmok hR0 rfl) ⟨Nat.zero_le _, Nat.zero_le _⟩ rfl (Nat.le_of_ble_eq_true rfl) dX11_copyOwed_104 (fun r_26 u_25 h => ?_)
  exact hR _ _ _ (u_25, u1, u2) dX11_copyOwed_107 h
def qX11_copyOwed_l61   (post : Int32 → St → St → St → Prop) (K61 : Int32 → Int32 → St → St → St → Prop) (x1 : Int32) (x2 : Int32) (u0 : St) (u1 : St) (u2 : St) : Prop := (((gi u2 2) ≤ x2 → qX11_copyOwed_b96 post u0 u1 u2) ∧ (¬ (gi u2 2) ≤ x2 → qX2_owed x2 u2 (fun r_30 u_29 => qX9_put x1 x2 (r_30).toInt64 u1 (fun u_32 => ∀ x2_34 : Int32, x2_34 = x2 + (1 : Int32) → K61 x1 x2_34 u0 u_32 u_29))))
set_option maxRecDepth 100000 in
set_option maxHeartbeats 4000000 in
theorem kX11_copyOwed_l61 {C : Cx} {o0 : Nat} {a0 : Nat → Nat} {aT : Nat → Nat} {aH : Nat → Nat} (hC : Fx C cX11_copyOwed 3 RX11) (hR0 : xR C = rm 3) {post : Int32 → St → St → St → Prop} (hR : RI C cX11_copyOwed 3 (fun u : St × St × St => (wX11 o0 a0 (xy C) u.1 (wX9 (a0 5) aT (xy C) u.2.1 (wX2 (a0 7) aH (xy C) u.2.2 [])))) (fun r u => post r u.1 u.2.1 u.2.2))  {K61 : Int32 → Int32 → St → St → St → Prop} (hK61 : ∀ (x1 : Int32) (x2 : Int32) (u0 : St) (u1 : St) (u2 : St), K61 x1 x2 u0 u1 u2 → G C 0 0 3 (wX11 o0 a0 (xy C) u0 (wX9 (a0 5) aT (xy C) u1 (wX2 (a0 7) aH (xy C) u2 []))) 61 [(0, .ref o0), (1, .int x1), (2, .int x2)] []) {x1 : Int32} {x2 : Int32} {u0 : St} {u1 : St} {u2 : St} (h : qX11_copyOwed_l61 post K61 x1 x2 u0 u1 u2) : G C 0 0 3 (wX11 o0 a0 (xy C) u0 (wX9 (a0 5) aT (xy C) u1 (wX2 (a0 7) aH (xy C) u2 []))) 61 [(0, .ref o0), (1, .int x1), (2, .int x2)] [] := by
  refine g_iload_n (pc := 61) hC 2 dX11_copyOwed_61 rfl rfl ?_
  refine g_aload_n (pc := 62) hC 0 dX11_copyOwed_62 rfl rfl ?_
  refine getX11_7 (pc := 63) hC (F := fun Z => Z) (X := []) (fun _ => rfl) fl_X11_46 dX11_copyOwed_63 ?_
  refine getX2_2 (pc := 66) hC (F := fun Z => (wX11 o0 a0 (xy C) u0 (wX9 (a0 5) aT (xy C) u1 Z))) (X := (wX11 o0 a0 (xy C) u0 (wX9 (a0 5) aT (xy C) u1 []))) (fun _ => rfl) fl_X11_163 dX11_copyOwed_66 ?_
  refine g_icmp_ge (pc := 69) (tgt := 96) hC dX11_copyOwed_69 (by decide) (fun c_28 => ?_) (fun c_28 => ?_)
  · have h := h.1 c_28
    refine g_sub (lv' := [(0, .ref o0)]) [0] rfl ?_
    exact kX11_copyOwed_b96 hC hR0 hR   h
  · have h := h.2 c_28
    refine g_aload_n (pc := 72) hC 0 dX11_copyOwed_72 rfl rfl ?_
    refine getX11_5 (pc := 73) hC (F := fun Z => Z) (X := []) (fun _ => rfl) fl_X11_30 dX11_copyOwed_73 ?_
    refine g_iload_n (pc := 76) hC 1 dX11_copyOwed_76 rfl rfl ?_
    refine g_iload_n (pc := 77) hC 2 dX11_copyOwed_77 rfl rfl ?_
    refine g_aload_n (pc := 78) hC 0 dX11_copyOwed_78 rfl rfl ?_
    refine getX11_7 (pc := 79) hC (F := fun Z => Z) (X := []) (fun _ => rfl) fl_X11_46 dX11_copyOwed_79 ?_
    refine g_iload_n (pc := 82) hC 2 dX11_copyOwed_82 rfl rfl ?_
    refine g_callV_i (pc := 83) (wd := fun (u : St) Y => (wX2 (a0 7) aH (xy C) u Y)) (F := fun Z => (wX11 o0 a0 (xy C) u0 (wX9 (a0 5) aT (xy C) u1 Z))) (X := (wX11 o0 a0 (xy C) u0 (wX9 (a0 5) aT (xy C) u1 []))) (As := [.int x2]) (rest := [.int x2, .int x1, .ref (a0 5)]) (u := u2) hC (fun _ _ => rfl) (fun _ => rfl) (ctX2_owed h) wvX2_owed ml_X11_249 (ci := 1) (q0 := 0) rfl rfl rfl rfl (rmok hR0 rfl) ⟨Nat.zero_le _, Nat.zero_le _⟩ rfl (Nat.le_of_ble_eq_true rfl) dX11_copyOwed_83 (fun r_30 u_29 h => ?_)
    refine g_i2l (pc := 86) hC dX11_copyOwed_86 ?_
    refine g_callV_v (pc := 87) (wd := fun (u : St) Y => (wX9 (a0 5) aT (xy C) u Y)) (F := fun Z => (wX11 o0 a0 (xy C) u0 Z)) (X := (wX11 o0 a0 (xy C) u0 [])) (As := [.int x1, .int x2, .long (r_30).toInt64]) (rest := []) (u := u1) hC (fun _ _ => rfl) (fun _ => rfl) (ctX9_put h) wvX9_put ml_X11_123 (ci := 8) (q0 := 0) rfl rfl rfl rfl (rmok hR0 rfl) ⟨Nat.zero_le _, Nat.zero_le _⟩ rfl (Nat.le_of_ble_eq_true rfl) dX11_copyOwed_87 (fun u_32 h => ?_)
    obtain ⟨x2_34, ex2_34⟩ : ∃ z : Int32, z = x2 + (1 : Int32) := ⟨_, rfl⟩
    have h := h x2_34 ex2_34
    refine g_iinc (pc := 90) (v := x2_34) (lv' := [(2, .int x2_34), (0, .ref o0), (1, .int x1)]) hC 2 dX11_copyOwed_90 rfl (by rw [ex2_34]; rfl) (Nat.le_of_ble_eq_true rfl) rfl ?_
    refine g_goto (pc := 93) (tgt := 61) hC dX11_copyOwed_93 (by decide) ?_
    refine g_sub (lv' := [(0, .ref o0), (1, .int x1), (2, .int x2_34)]) [1, 2, 0] rfl ?_
    exact hK61 _ _ _ _ _ h
def qX11_copyOwed_L61   (post : Int32 → St → St → St → Prop)  : Nat → Int32 → Int32 → St → St → St → Prop
  | 0 => fun _ _ _ _ _ => False
  | n + 1 => qX11_copyOwed_l61 post (qX11_copyOwed_L61 post n)
theorem kX11_copyOwed_L61 {C : Cx} {o0 : Nat} {a0 : Nat → Nat} {aT : Nat → Nat} {aH : Nat → Nat} (hC : Fx C cX11_copyOwed 3 RX11) (hR0 : xR C = rm 3) {post : Int32 → St → St → St → Prop} (hR : RI C cX11_copyOwed 3 (fun u : St × St × St => (wX11 o0 a0 (xy C) u.1 (wX9 (a0 5) aT (xy C) u.2.1 (wX2 (a0 7) aH (xy C) u.2.2 [])))) (fun r u => post r u.1 u.2.1 u.2.2))  : ∀ (n : Nat) (x1 : Int32) (x2 : Int32) (u0 : St) (u1 : St) (u2 : St), qX11_copyOwed_L61 post n x1 x2 u0 u1 u2 → G C 0 0 3 (wX11 o0 a0 (xy C) u0 (wX9 (a0 5) aT (xy C) u1 (wX2 (a0 7) aH (xy C) u2 []))) 61 [(0, .ref o0), (1, .int x1), (2, .int x2)] [] := by
  intro n
  induction n with
  | zero => intro x1 x2 u0 u1 u2 h; exact h.elim
  | succ n ih => intro x1 x2 u0 u1 u2 h; exact kX11_copyOwed_l61 hC hR0 hR   ih h
def qX11_copyOwed  (x1 : Int32) (u0 : St) (u1 : St) (u2 : St) (post : Int32 → St → St → St → Prop) : Prop := qX9_isTray x1 u1 (fun r_36 u_35 => ((¬ r_36 = 0 → qX9_isMissing x1 u_35 (fun r_40 u_39 => ((r_40 = 0 → (vp_in x1 4 ∧ (((gi u2 2) ≤ (ga u_39 2 (x1).toNatClampNeg) → ∃ n_44 : Nat, qX11_copyOwed_L61 post n_44 x1 (0 : Int32) u0 u_39 u2) ∧ (¬ (gi u2 2) ≤ (ga u_39 2 (x1).toNatClampNeg) → qX11_refuse (3 : Int32) u0 (fun r_46 u_45 => post r_46 u_45 u_39 u2))))) ∧ (¬ r_40 = 0 → qX11_refuse (2 : Int32) u0 (fun r_49 u_48 => post r_49 u_48 u_39 u2))))) ∧ (r_36 = 0 → qX11_refuse (1 : Int32) u0 (fun r_52 u_51 => post r_52 u_51 u_35 u2))))
set_option maxRecDepth 100000 in
set_option maxHeartbeats 4000000 in
theorem kX11_copyOwed {C : Cx} {o0 : Nat} {a0 : Nat → Nat} {aT : Nat → Nat} {aH : Nat → Nat} (hC : Fx C cX11_copyOwed 3 RX11) (hR0 : xR C = rm 3) {post : Int32 → St → St → St → Prop} (hR : RI C cX11_copyOwed 3 (fun u : St × St × St => (wX11 o0 a0 (xy C) u.1 (wX9 (a0 5) aT (xy C) u.2.1 (wX2 (a0 7) aH (xy C) u.2.2 [])))) (fun r u => post r u.1 u.2.1 u.2.2)) {x1 : Int32} {u0 : St} {u1 : St} {u2 : St} (h : qX11_copyOwed  x1 u0 u1 u2 post) : G C 0 0 3 (wX11 o0 a0 (xy C) u0 (wX9 (a0 5) aT (xy C) u1 (wX2 (a0 7) aH (xy C) u2 []))) 0 [(0, .ref o0), (1, .int x1)] [] := by
  refine g_aload_n (pc := 0) hC 0 dX11_copyOwed_0 rfl rfl ?_
  refine getX11_5 (pc := 1) hC (F := fun Z => Z) (X := []) (fun _ => rfl) fl_X11_30 dX11_copyOwed_1 ?_
  refine g_iload_n (pc := 4) hC 1 dX11_copyOwed_4 rfl rfl ?_
  refine g_callV_i (pc := 5) (wd := fun (u : St) Y => (wX9 (a0 5) aT (xy C) u Y)) (F := fun Z => (wX11 o0 a0 (xy C) u0 Z)) (X := (wX11 o0 a0 (xy C) u0 [])) (As := [.int x1]) (rest := []) (u := u1) hC (fun _ _ => rfl) (fun _ => rfl) (ctX9_isTray h) wvX9_isTray ml_X11_100 (ci := 8) (q0 := 0) rfl rfl rfl rfl (rmok hR0 rfl) ⟨Nat.zero_le _, Nat.zero_le _⟩ rfl (Nat.le_of_ble_eq_true rfl) dX11_copyOwed_5 (fun r_36 u_35 h => ?_)
  refine g_if_ne (pc := 8) (tgt := 17) hC dX11_copyOwed_8 (by decide) (fun c_38 => ?_) (fun c_38 => ?_)
  · have h := h.1 c_38
    refine g_aload_n (pc := 17) hC 0 dX11_copyOwed_17 rfl rfl ?_
    refine getX11_5 (pc := 18) hC (F := fun Z => Z) (X := []) (fun _ => rfl) fl_X11_30 dX11_copyOwed_18 ?_
    refine g_iload_n (pc := 21) hC 1 dX11_copyOwed_21 rfl rfl ?_
    refine g_callV_i (pc := 22) (wd := fun (u : St) Y => (wX9 (a0 5) aT (xy C) u Y)) (F := fun Z => (wX11 o0 a0 (xy C) u0 Z)) (X := (wX11 o0 a0 (xy C) u0 [])) (As := [.int x1]) (rest := []) (u := u_35) hC (fun _ _ => rfl) (fun _ => rfl) (ctX9_isMissing h) wvX9_isMissing ml_X11_135 (ci := 8) (q0 := 0) rfl rfl rfl rfl (rmok hR0 rfl) ⟨Nat.zero_le _, Nat.zero_le _⟩ rfl (Nat.le_of_ble_eq_true rfl) dX11_copyOwed_22 (fun r_40 u_39 h => ?_)
    refine g_if_eq (pc := 25) (tgt := 34) hC dX11_copyOwed_25 (by decide) (fun c_42 => ?_) (fun c_42 => ?_)
    · have h := h.1 c_42
      refine g_aload_n (pc := 34) hC 0 dX11_copyOwed_34 rfl rfl ?_
      refine getX11_5 (pc := 35) hC (F := fun Z => Z) (X := []) (fun _ => rfl) fl_X11_30 dX11_copyOwed_35 ?_
      refine getX9_2 (pc := 38) hC (F := fun Z => (wX11 o0 a0 (xy C) u0 Z)) (X := (wX11 o0 a0 (xy C) u0 [])) (fun _ => rfl) fl_X11_142 dX11_copyOwed_38 ?_
      refine g_iload_n (pc := 41) hC 1 dX11_copyOwed_41 rfl rfl ?_
      refine aldX9_2 (pc := 42) hC (F := fun Z => (wX11 o0 a0 (xy C) u0 Z)) (X := (wX11 o0 a0 (xy C) u0 [])) (fun _ => rfl) h.1 dX11_copyOwed_42 ?_
      have h := h.2
      refine g_aload_n (pc := 43) hC 0 dX11_copyOwed_43 rfl rfl ?_
      refine getX11_7 (pc := 44) hC (F := fun Z => Z) (X := []) (fun _ => rfl) fl_X11_46 dX11_copyOwed_44 ?_
      refine getX2_2 (pc := 47) hC (F := fun Z => (wX11 o0 a0 (xy C) u0 (wX9 (a0 5) aT (xy C) u_39 Z))) (X := (wX11 o0 a0 (xy C) u0 (wX9 (a0 5) aT (xy C) u_39 []))) (fun _ => rfl) fl_X11_163 dX11_copyOwed_47 ?_
      refine g_icmp_ge (pc := 50) (tgt := 59) hC dX11_copyOwed_50 (by decide) (fun c_43 => ?_) (fun c_43 => ?_)
      · have h := h.1 c_43
        refine g_iconst (pc := 59) (v := 0) hC dX11_copyOwed_59 (by decide) ?_
        refine g_istore_n (pc := 60) (lv' := [(2, .int (0 : Int32)), (0, .ref o0), (1, .int x1)]) hC dX11_copyOwed_60 rfl (Nat.le_of_ble_eq_true rfl) rfl ?_
        refine g_sub (lv' := [(0, .ref o0), (1, .int x1), (2, .int (0 : Int32))]) [1, 2, 0] rfl ?_
        obtain ⟨n_44, h⟩ := h
        exact kX11_copyOwed_L61 hC hR0 hR   n_44 _ _ _ _ _ h
      · have h := h.2 c_43
        refine g_aload_n (pc := 53) hC 0 dX11_copyOwed_53 rfl rfl ?_
        refine g_iconst (pc := 54) (v := 3) hC dX11_copyOwed_54 (by decide) ?_
        refine g_callV_i (pc := 55) (wd := fun (u : St) Y => (wX11 o0 a0 (xy C) u Y)) (F := fun Z => Z) (X := []) (As := [.int (3 : Int32)]) (rest := []) (u := u0) hC (fun _ _ => rfl) (fun _ => rfl) (ctX11_refuse h) wvX11_refuse ml_X11_127 (ci := 9) (q0 := 0) rfl rfl rfl rfl (rmok hR0 rfl) ⟨Nat.zero_le _, Nat.zero_le _⟩ rfl (Nat.le_of_ble_eq_true rfl) dX11_copyOwed_55 (fun r_46 u_45 h => ?_)
        exact hR _ _ _ (u_45, u_39, u2) dX11_copyOwed_58 h
    · have h := h.2 c_42
      refine g_aload_n (pc := 28) hC 0 dX11_copyOwed_28 rfl rfl ?_
      refine g_iconst (pc := 29) (v := 2) hC dX11_copyOwed_29 (by decide) ?_
      refine g_callV_i (pc := 30) (wd := fun (u : St) Y => (wX11 o0 a0 (xy C) u Y)) (F := fun Z => Z) (X := []) (As := [.int (2 : Int32)]) (rest := []) (u := u0) hC (fun _ _ => rfl) (fun _ => rfl) (ctX11_refuse h) wvX11_refuse ml_X11_127 (ci := 9) (q0 := 0) rfl rfl rfl rfl (rmok hR0 rfl) ⟨Nat.zero_le _, Nat.zero_le _⟩ rfl (Nat.le_of_ble_eq_true rfl) dX11_copyOwed_30 (fun r_49 u_48 h => ?_)
      exact hR _ _ _ (u_48, u_39, u2) dX11_copyOwed_33 h
  · have h := h.2 c_38
    refine g_aload_n (pc := 11) hC 0 dX11_copyOwed_11 rfl rfl ?_
    refine g_iconst (pc := 12) (v := 1) hC dX11_copyOwed_12 (by decide) ?_
    refine g_callV_i (pc := 13) (wd := fun (u : St) Y => (wX11 o0 a0 (xy C) u Y)) (F := fun Z => Z) (X := []) (As := [.int (1 : Int32)]) (rest := []) (u := u0) hC (fun _ _ => rfl) (fun _ => rfl) (ctX11_refuse h) wvX11_refuse ml_X11_127 (ci := 9) (q0 := 0) rfl rfl rfl rfl (rmok hR0 rfl) ⟨Nat.zero_le _, Nat.zero_le _⟩ rfl (Nat.le_of_ble_eq_true rfl) dX11_copyOwed_13 (fun r_52 u_51 h => ?_)
    exact hR _ _ _ (u_51, u_35, u2) dX11_copyOwed_16 h
theorem ctX11_copyOwed {l : Launch} {D : va_G} {cy : Nat → ClassId} {kd : Nat → Nat} {o0 : Nat} {a0 : Nat → Nat} {aT : Nat → Nat} {aH : Nat → Nat} {x1 : Int32} {u0 : St} {u1 : St} {u2 : St} {post : Int32 → St → St → St → Prop} (h : qX11_copyOwed x1 u0 u1 u2 post) : CtI l D cy kd yX11_copyOwed cX11_copyOwed 3 3 .int [.ref o0, .int x1] (fun u : St × St × St => (wX11 o0 a0 cy u.1 (wX9 (a0 5) aT cy u.2.1 (wX2 (a0 7) aH cy u.2.2 [])))) (u0, u1, u2) (fun r u => post r u.1 u.2.1 u.2.2) := met_i (by decide) (Nat.le_of_ble_eq_true rfl) (fun C e1 e2 e3 e4 e5 hC hR => by subst e1 e2 e3 e4; exact kX11_copyOwed hC e5 hR h)
theorem dX11_live_0 : decode cX11_live 0 = .ok (.iload_n 1, 1) := by decide +kernel
theorem dX11_live_1 : decode cX11_live 1 = .ok (.iconst 0, 1) := by decide +kernel
theorem dX11_live_2 : decode cX11_live 2 = .ok (.sipush 9999, 3) := by decide +kernel
theorem dX11_live_5 : decode cX11_live 5 = .ok (.invokestatic 104, 3) := by decide +kernel
theorem dX11_live_8 : decode cX11_live 8 = .ok (.ifCond .ne 9, 3) := by decide +kernel
theorem dX11_live_11 : decode cX11_live 11 = .ok (.aload_n 0, 1) := by decide +kernel
theorem dX11_live_12 : decode cX11_live 12 = .ok (.iconst 1, 1) := by decide +kernel
theorem dX11_live_13 : decode cX11_live 13 = .ok (.invokevirtual 127, 3) := by decide +kernel
theorem dX11_live_16 : decode cX11_live 16 = .ok (.ireturn, 1) := by decide +kernel
theorem dX11_live_17 : decode cX11_live 17 = .ok (.aload_n 0, 1) := by decide +kernel
theorem dX11_live_18 : decode cX11_live 18 = .ok (.getfield 56, 3) := by decide +kernel
theorem dX11_live_21 : decode cX11_live 21 = .ok (.getfield 364, 3) := by decide +kernel
theorem dX11_live_24 : decode cX11_live 24 = .ok (.ifCond .ne 10, 3) := by decide +kernel
theorem dX11_live_27 : decode cX11_live 27 = .ok (.aload_n 0, 1) := by decide +kernel
theorem dX11_live_28 : decode cX11_live 28 = .ok (.bipush 6, 2) := by decide +kernel
theorem dX11_live_30 : decode cX11_live 30 = .ok (.invokevirtual 127, 3) := by decide +kernel
theorem dX11_live_33 : decode cX11_live 33 = .ok (.ireturn, 1) := by decide +kernel
theorem dX11_live_34 : decode cX11_live 34 = .ok (.aload_n 0, 1) := by decide +kernel
theorem dX11_live_35 : decode cX11_live 35 = .ok (.getfield 79, 3) := by decide +kernel
theorem dX11_live_38 : decode cX11_live 38 = .ok (.aload_n 0, 1) := by decide +kernel
theorem dX11_live_39 : decode cX11_live 39 = .ok (.getfield 46, 3) := by decide +kernel
theorem dX11_live_42 : decode cX11_live 42 = .ok (.aload_n 0, 1) := by decide +kernel
theorem dX11_live_43 : decode cX11_live 43 = .ok (.getfield 56, 3) := by decide +kernel
theorem dX11_live_46 : decode cX11_live 46 = .ok (.iload_n 1, 1) := by decide +kernel
theorem dX11_live_47 : decode cX11_live 47 = .ok (.invokevirtual 368, 3) := by decide +kernel
theorem dX11_live_50 : decode cX11_live 50 = .ok (.aload_n 0, 1) := by decide +kernel
theorem dX11_live_51 : decode cX11_live 51 = .ok (.aload_n 0, 1) := by decide +kernel
theorem dX11_live_52 : decode cX11_live 52 = .ok (.getfield 79, 3) := by decide +kernel
theorem dX11_live_55 : decode cX11_live 55 = .ok (.getfield 372, 3) := by decide +kernel
theorem dX11_live_58 : decode cX11_live 58 = .ok (.invokevirtual 166, 3) := by decide +kernel
theorem dX11_live_61 : decode cX11_live 61 = .ok (.ireturn, 1) := by decide +kernel
def qX11_live  (x1 : Int32) (u0 : St) (u1 : St) (u2 : St) (u3 : St) (post : Int32 → St → St → St → St → Prop) : Prop := qX11_within x1 (0 : Int32) (9999 : Int32) (fun r_16 => ((¬ r_16 = 0 → ((¬ (gi u2 0) = 0 → qX3_run x1 u3 u1 u2 (fun u_20 u_21 u_22 => qX11_answer (gi u_20 1) u0 (fun r_25 u_24 => post r_25 u_24 u_21 u_22 u_20))) ∧ ((gi u2 0) = 0 → qX11_refuse (6 : Int32) u0 (fun r_28 u_27 => post r_28 u_27 u1 u2 u3)))) ∧ (r_16 = 0 → qX11_refuse (1 : Int32) u0 (fun r_31 u_30 => post r_31 u_30 u1 u2 u3))))
set_option maxRecDepth 100000 in
set_option maxHeartbeats 4000000 in
theorem kX11_live {C : Cx} {o0 : Nat} {a0 : Nat → Nat} {aH : Nat → Nat} {aM : Nat → Nat} {aL : Nat → Nat} (hC : Fx C cX11_live 2 RX11) (hR0 : xR C = rm 8) {post : Int32 → St → St → St → St → Prop} (hR : RI C cX11_live 2 (fun u : St × St × St × St => (wX11 o0 a0 (xy C) u.1 (wX2 (a0 7) aH (xy C) u.2.1 (wX7 (a0 9) aM (xy C) u.2.2.1 (wX3 (a0 14) aL (xy C) u.2.2.2 []))))) (fun r u => post r u.1 u.2.1 u.2.2.1 u.2.2.2)) {x1 : Int32} {u0 : St} {u1 : St} {u2 : St} {u3 : St} (h : qX11_live  x1 u0 u1 u2 u3 post) : G C 0 0 2 (wX11 o0 a0 (xy C) u0 (wX2 (a0 7) aH (xy C) u1 (wX7 (a0 9) aM (xy C) u2 (wX3 (a0 14) aL (xy C) u3 [])))) 0 [(0, .ref o0), (1, .int x1)] [] := by
  refine g_iload_n (pc := 0) hC 1 dX11_live_0 rfl rfl ?_
  refine g_iconst (pc := 1) (v := 0) hC dX11_live_1 (by decide) ?_
  refine g_sipush (pc := 2) (v := 9999) hC dX11_live_2 (by decide) ?_
  refine g_callS_i (pc := 5) (wd := fun (_ : Unit) Y => Y) (F := fun Z => Z) (X := []) (As := [.int x1, .int (0 : Int32), .int (9999 : Int32)]) (rest := []) (u := ()) hC (fun _ _ => rfl) (fun _ => rfl) (ctX11_within h) wvX11_within ml_X11_104 rfl (rmok hR0 rfl) ⟨Nat.zero_le _, Nat.zero_le _⟩ rfl (Nat.le_of_ble_eq_true rfl) dX11_live_5 (fun r_16 u_17 h => ?_)
  refine g_if_ne (pc := 8) (tgt := 17) hC dX11_live_8 (by decide) (fun c_18 => ?_) (fun c_18 => ?_)
  · have h := h.1 c_18
    refine g_aload_n (pc := 17) hC 0 dX11_live_17 rfl rfl ?_
    refine getX11_9 (pc := 18) hC (F := fun Z => Z) (X := []) (fun _ => rfl) fl_X11_56 dX11_live_18 ?_
    refine getX7_0 (pc := 21) hC (F := fun Z => (wX11 o0 a0 (xy C) u0 (wX2 (a0 7) aH (xy C) u1 Z))) (X := (wX11 o0 a0 (xy C) u0 (wX2 (a0 7) aH (xy C) u1 []))) (fun _ => rfl) fl_X11_364 dX11_live_21 ?_
    refine g_if_ne (pc := 24) (tgt := 34) hC dX11_live_24 (by decide) (fun c_19 => ?_) (fun c_19 => ?_)
    · have h := h.1 c_19
      refine g_aload_n (pc := 34) hC 0 dX11_live_34 rfl rfl ?_
      refine getX11_14 (pc := 35) hC (F := fun Z => Z) (X := []) (fun _ => rfl) fl_X11_79 dX11_live_35 ?_
      refine g_aload_n (pc := 38) hC 0 dX11_live_38 rfl rfl ?_
      refine getX11_7 (pc := 39) hC (F := fun Z => Z) (X := []) (fun _ => rfl) fl_X11_46 dX11_live_39 ?_
      refine g_aload_n (pc := 42) hC 0 dX11_live_42 rfl rfl ?_
      refine getX11_9 (pc := 43) hC (F := fun Z => Z) (X := []) (fun _ => rfl) fl_X11_56 dX11_live_43 ?_
      refine g_iload_n (pc := 46) hC 1 dX11_live_46 rfl rfl ?_
      refine g_swap (F := fun Z => (wX11 o0 a0 (xy C) u0 Z)) (X := (wX11 o0 a0 (xy C) u0 [])) (f := fun Z => (wX2 (a0 7) aH (xy C) u1 Z)) (g := fun Z => (wX7 (a0 9) aM (xy C) u2 Z)) (Y := (wX3 (a0 14) aL (xy C) u3 [])) (fun _ => rfl) (fun _ => rfl) (fun _ => rfl) ?_
      refine g_swap (F := fun Z => (wX11 o0 a0 (xy C) u0 (wX7 (a0 9) aM (xy C) u2 Z))) (X := (wX11 o0 a0 (xy C) u0 (wX7 (a0 9) aM (xy C) u2 []))) (f := fun Z => (wX2 (a0 7) aH (xy C) u1 Z)) (g := fun Z => (wX3 (a0 14) aL (xy C) u3 Z)) (Y := []) (fun _ => rfl) (fun _ => rfl) (fun _ => rfl) ?_
      refine g_swap (F := fun Z => (wX11 o0 a0 (xy C) u0 Z)) (X := (wX11 o0 a0 (xy C) u0 [])) (f := fun Z => (wX7 (a0 9) aM (xy C) u2 Z)) (g := fun Z => (wX3 (a0 14) aL (xy C) u3 Z)) (Y := (wX2 (a0 7) aH (xy C) u1 [])) (fun _ => rfl) (fun _ => rfl) (fun _ => rfl) ?_
      refine g_swap (F := fun Z => (wX11 o0 a0 (xy C) u0 (wX3 (a0 14) aL (xy C) u3 Z))) (X := (wX11 o0 a0 (xy C) u0 (wX3 (a0 14) aL (xy C) u3 []))) (f := fun Z => (wX7 (a0 9) aM (xy C) u2 Z)) (g := fun Z => (wX2 (a0 7) aH (xy C) u1 Z)) (Y := []) (fun _ => rfl) (fun _ => rfl) (fun _ => rfl) ?_
      refine g_callV_v (pc := 47) (wd := fun (u : St × St × St) Y => (wX3 (a0 14) aL (xy C) u.1 (wX2 (a0 7) aH (xy C) u.2.1 (wX7 (a0 9) aM (xy C) u.2.2 Y)))) (F := fun Z => (wX11 o0 a0 (xy C) u0 Z)) (X := (wX11 o0 a0 (xy C) u0 [])) (As := [.ref (a0 7), .ref (a0 9), .int x1]) (rest := []) (u := (u3, u1, u2)) hC (fun _ _ => rfl) (fun _ => rfl) (ctX3_run h) wvX3_run ml_X11_368 (ci := 2) (q0 := 0) rfl rfl rfl rfl (rmok hR0 rfl) ⟨Nat.zero_le _, Nat.zero_le _⟩ rfl (Nat.le_of_ble_eq_true rfl) dX11_live_47 (fun u_23 h => ?_)
      obtain ⟨u_20, u_21, u_22⟩ := u_23
      refine g_aload_n (pc := 50) hC 0 dX11_live_50 rfl rfl ?_
      refine g_aload_n (pc := 51) hC 0 dX11_live_51 rfl rfl ?_
      refine getX11_14 (pc := 52) hC (F := fun Z => Z) (X := []) (fun _ => rfl) fl_X11_79 dX11_live_52 ?_
      refine getX3_1 (pc := 55) hC (F := fun Z => (wX11 o0 a0 (xy C) u0 Z)) (X := (wX11 o0 a0 (xy C) u0 [])) (fun _ => rfl) fl_X11_372 dX11_live_55 ?_
      refine g_callV_i (pc := 58) (wd := fun (u : St) Y => (wX11 o0 a0 (xy C) u Y)) (F := fun Z => Z) (X := []) (As := [.int (gi u_20 1)]) (rest := []) (u := u0) hC (fun _ _ => rfl) (fun _ => rfl) (ctX11_answer h) wvX11_answer ml_X11_166 (ci := 9) (q0 := 0) rfl rfl rfl rfl (rmok hR0 rfl) ⟨Nat.zero_le _, Nat.zero_le _⟩ rfl (Nat.le_of_ble_eq_true rfl) dX11_live_58 (fun r_25 u_24 h => ?_)
      refine g_swap (F := fun Z => (wX11 o0 a0 (xy C) u_24 Z)) (X := (wX11 o0 a0 (xy C) u_24 [])) (f := fun Z => (wX3 (a0 14) aL (xy C) u_20 Z)) (g := fun Z => (wX2 (a0 7) aH (xy C) u_21 Z)) (Y := (wX7 (a0 9) aM (xy C) u_22 [])) (fun _ => rfl) (fun _ => rfl) (fun _ => rfl) ?_
      refine g_swap (F := fun Z => (wX11 o0 a0 (xy C) u_24 (wX2 (a0 7) aH (xy C) u_21 Z))) (X := (wX11 o0 a0 (xy C) u_24 (wX2 (a0 7) aH (xy C) u_21 []))) (f := fun Z => (wX3 (a0 14) aL (xy C) u_20 Z)) (g := fun Z => (wX7 (a0 9) aM (xy C) u_22 Z)) (Y := []) (fun _ => rfl) (fun _ => rfl) (fun _ => rfl) ?_
      exact hR _ _ _ (u_24, u_21, u_22, u_20) dX11_live_61 h
    · have h := h.2 c_19
      refine g_aload_n (pc := 27) hC 0 dX11_live_27 rfl rfl ?_
      refine g_bipush (pc := 28) (v := 6) hC dX11_live_28 (by decide) ?_
      refine g_callV_i (pc := 30) (wd := fun (u : St) Y => (wX11 o0 a0 (xy C) u Y)) (F := fun Z => Z) (X := []) (As := [.int (6 : Int32)]) (rest := []) (u := u0) hC (fun _ _ => rfl) (fun _ => rfl) (ctX11_refuse h) wvX11_refuse ml_X11_127 (ci := 9) (q0 := 0) rfl rfl rfl rfl (rmok hR0 rfl) ⟨Nat.zero_le _, Nat.zero_le _⟩ rfl (Nat.le_of_ble_eq_true rfl) dX11_live_30 (fun r_28 u_27 h => ?_)
      exact hR _ _ _ (u_27, u1, u2, u3) dX11_live_33 h
  · have h := h.2 c_18
    refine g_aload_n (pc := 11) hC 0 dX11_live_11 rfl rfl ?_
    refine g_iconst (pc := 12) (v := 1) hC dX11_live_12 (by decide) ?_
    refine g_callV_i (pc := 13) (wd := fun (u : St) Y => (wX11 o0 a0 (xy C) u Y)) (F := fun Z => Z) (X := []) (As := [.int (1 : Int32)]) (rest := []) (u := u0) hC (fun _ _ => rfl) (fun _ => rfl) (ctX11_refuse h) wvX11_refuse ml_X11_127 (ci := 9) (q0 := 0) rfl rfl rfl rfl (rmok hR0 rfl) ⟨Nat.zero_le _, Nat.zero_le _⟩ rfl (Nat.le_of_ble_eq_true rfl) dX11_live_13 (fun r_31 u_30 h => ?_)
    exact hR _ _ _ (u_30, u1, u2, u3) dX11_live_16 h
theorem ctX11_live {l : Launch} {D : va_G} {cy : Nat → ClassId} {kd : Nat → Nat} {o0 : Nat} {a0 : Nat → Nat} {aH : Nat → Nat} {aM : Nat → Nat} {aL : Nat → Nat} {x1 : Int32} {u0 : St} {u1 : St} {u2 : St} {u3 : St} {post : Int32 → St → St → St → St → Prop} (h : qX11_live x1 u0 u1 u2 u3 post) : CtI l D cy kd yX11_live cX11_live 2 8 .int [.ref o0, .int x1] (fun u : St × St × St × St => (wX11 o0 a0 cy u.1 (wX2 (a0 7) aH cy u.2.1 (wX7 (a0 9) aM cy u.2.2.1 (wX3 (a0 14) aL cy u.2.2.2 []))))) (u0, u1, u2, u3) (fun r u => post r u.1 u.2.1 u.2.2.1 u.2.2.2) := met_i (by decide) (Nat.le_of_ble_eq_true rfl) (fun C e1 e2 e3 e4 e5 hC hR => by subst e1 e2 e3 e4; exact kX11_live hC e5 hR h)
