/-! reference -/
theorem dX12_pay_0 : decode cX12_pay 0 = .ok (.aload_n 0, 1) := by decide +kernel
theorem dX12_pay_1 : decode cX12_pay 1 = .ok (.iload_n 1, 1) := by decide +kernel
theorem dX12_pay_2 : decode cX12_pay 2 = .ok (.invokevirtual 294, 3) := by decide +kernel
theorem dX12_pay_5 : decode cX12_pay 5 = .ok (.ifCond .ne 9, 3) := by decide +kernel
theorem dX12_pay_8 : decode cX12_pay 8 = .ok (.aload_n 0, 1) := by decide +kernel
theorem dX12_pay_9 : decode cX12_pay 9 = .ok (.iconst 1, 1) := by decide +kernel
theorem dX12_pay_10 : decode cX12_pay 10 = .ok (.invokevirtual 88, 3) := by decide +kernel
theorem dX12_pay_13 : decode cX12_pay 13 = .ok (.ireturn, 1) := by decide +kernel
theorem dX12_pay_14 : decode cX12_pay 14 = .ok (.aload_n 0, 1) := by decide +kernel
theorem dX12_pay_15 : decode cX12_pay 15 = .ok (.iload_n 1, 1) := by decide +kernel
theorem dX12_pay_16 : decode cX12_pay 16 = .ok (.invokevirtual 331, 3) := by decide +kernel
theorem dX12_pay_19 : decode cX12_pay 19 = .ok (.istore_n 2, 1) := by decide +kernel
theorem dX12_pay_20 : decode cX12_pay 20 = .ok (.iload_n 2, 1) := by decide +kernel
theorem dX12_pay_21 : decode cX12_pay 21 = .ok (.iconst (-1), 1) := by decide +kernel
theorem dX12_pay_22 : decode cX12_pay 22 = .ok (.if_icmp .ne 12, 3) := by decide +kernel
theorem dX12_pay_25 : decode cX12_pay 25 = .ok (.aload_n 0, 1) := by decide +kernel
theorem dX12_pay_26 : decode cX12_pay 26 = .ok (.bipush 7, 2) := by decide +kernel
theorem dX12_pay_28 : decode cX12_pay 28 = .ok (.invokevirtual 88, 3) := by decide +kernel
theorem dX12_pay_31 : decode cX12_pay 31 = .ok (.goto 8, 3) := by decide +kernel
theorem dX12_pay_34 : decode cX12_pay 34 = .ok (.aload_n 0, 1) := by decide +kernel
theorem dX12_pay_35 : decode cX12_pay 35 = .ok (.iload_n 2, 1) := by decide +kernel
theorem dX12_pay_36 : decode cX12_pay 36 = .ok (.invokevirtual 92, 3) := by decide +kernel
theorem dX12_pay_39 : decode cX12_pay 39 = .ok (.ireturn, 1) := by decide +kernel
def qX12_pay_b39  (post : Int32 → St → Prop)  (s0 : Int32) (u0 : St) : Prop := post s0 u0
set_option maxRecDepth 100000 in
set_option maxHeartbeats 4000000 in
theorem kX12_pay_b39 {C : Cx} {o0 : Nat} {a0 : Nat → Nat} (hC : Fx C cX12_pay 3 RX12) (hR0 : xR C = rm 8) {post : Int32 → St → Prop} (hR : RI C cX12_pay 3 (fun u : St => (wX12 o0 a0 (xy C) u [])) (fun r u => post r u))  {s0 : Int32} {u0 : St} (h : qX12_pay_b39 post s0 u0) : G C 0 0 3 (wX12 o0 a0 (xy C) u0 []) 39 [] [.int s0] := by
  exact hR _ _ _ u0 dX12_pay_39 h
def qX12_pay (x1 : Int32) (u0 : St) (post : Int32 → St → Prop) : Prop := qX12_isDebt x1 u0 (fun r_17 u_16 => ((¬ r_17 = 0 → qX12_paysAndFalls x1 u_16 (fun r_21 u_20 => ((¬ r_21 = (-1 : Int32) → qX12_gives r_21 u_20 (fun r_25 u_24 => qX12_pay_b39 post r_25 u_24)) ∧ (r_21 = (-1 : Int32) → qX12_refuse (7 : Int32) u_20 (fun r_28 u_27 => qX12_pay_b39 post r_28 u_27))))) ∧ (r_17 = 0 → qX12_refuse (1 : Int32) u_16 (fun r_31 u_30 => post r_31 u_30))))
set_option maxRecDepth 100000 in
set_option maxHeartbeats 4000000 in
theorem kX12_pay {C : Cx} {o0 : Nat} {a0 : Nat → Nat} (hC : Fx C cX12_pay 3 RX12) (hR0 : xR C = rm 8) {post : Int32 → St → Prop} (hR : RI C cX12_pay 3 (fun u : St => (wX12 o0 a0 (xy C) u [])) (fun r u => post r u)) {x1 : Int32} {u0 : St} (h : qX12_pay x1 u0 post) : G C 0 0 3 (wX12 o0 a0 (xy C) u0 []) 0 [(0, .ref o0), (1, .int x1)] [] := by
  refine g_aload_n (pc := 0) hC 0 dX12_pay_0 rfl rfl ?_
  refine g_iload_n (pc := 1) hC 1 dX12_pay_1 rfl rfl ?_
  refine g_callV_i (pc := 2) (wd := fun (u : St) Y => (wX12 o0 a0 (xy C) u Y)) (F := fun Z => Z) (X := []) (As := [.int x1]) (rest := []) (u := u0) hC (fun _ _ => rfl) (fun _ => rfl) (ctX12_isDebt h) wvX12_isDebt ml_X12_294 (ci := 10) (q0 := 0) rfl rfl rfl rfl (rmok hR0 rfl) ⟨Nat.zero_le _, Nat.zero_le _⟩ rfl (Nat.le_of_ble_eq_true rfl) dX12_pay_2 (fun r_17 u_16 h => ?_)
  refine g_if_ne (pc := 5) (tgt := 14) hC dX12_pay_5 (by decide) (fun c_19 => ?_) (fun c_19 => ?_)
  · have h := h.1 c_19
    refine g_aload_n (pc := 14) hC 0 dX12_pay_14 rfl rfl ?_
    refine g_iload_n (pc := 15) hC 1 dX12_pay_15 rfl rfl ?_
    refine g_callV_i (pc := 16) (wd := fun (u : St) Y => (wX12 o0 a0 (xy C) u Y)) (F := fun Z => Z) (X := []) (As := [.int x1]) (rest := []) (u := u_16) hC (fun _ _ => rfl) (fun _ => rfl) (ctX12_paysAndFalls h) wvX12_paysAndFalls ml_X12_331 (ci := 10) (q0 := 0) rfl rfl rfl rfl (rmok hR0 rfl) ⟨Nat.zero_le _, Nat.zero_le _⟩ rfl (Nat.le_of_ble_eq_true rfl) dX12_pay_16 (fun r_21 u_20 h => ?_)
    refine g_istore_n (pc := 19) (lv' := [(2, .int r_21), (0, .ref o0), (1, .int x1)]) hC dX12_pay_19 rfl (Nat.le_of_ble_eq_true rfl) rfl ?_
    refine g_iload_n (pc := 20) hC 0 dX12_pay_20 rfl rfl ?_
    refine g_iconst (pc := 21) (v := -1) hC dX12_pay_21 (by decide) ?_
    refine g_icmp_ne (pc := 22) (tgt := 34) hC dX12_pay_22 (by decide) (fun c_23 => ?_) (fun c_23 => ?_)
    · have h := h.1 c_23
      refine g_aload_n (pc := 34) hC 1 dX12_pay_34 rfl rfl ?_
      refine g_iload_n (pc := 35) hC 0 dX12_pay_35 rfl rfl ?_
      refine g_callV_i (pc := 36) (wd := fun (u : St) Y => (wX12 o0 a0 (xy C) u Y)) (F := fun Z => Z) (X := []) (As := [.int r_21]) (rest := []) (u := u_20) hC (fun _ _ => rfl) (fun _ => rfl) (ctX12_gives h) wvX12_gives ml_X12_92 (ci := 10) (q0 := 0) rfl rfl rfl rfl (rmok hR0 rfl) ⟨Nat.zero_le _, Nat.zero_le _⟩ rfl (Nat.le_of_ble_eq_true rfl) dX12_pay_36 (fun r_25 u_24 h => ?_)
      refine g_sub (lv' := []) [] rfl ?_
      exact kX12_pay_b39 hC hR0 hR  h
    · have h := h.2 c_23
      refine g_aload_n (pc := 25) hC 1 dX12_pay_25 rfl rfl ?_
      refine g_bipush (pc := 26) (v := 7) hC dX12_pay_26 (by decide) ?_
      refine g_callV_i (pc := 28) (wd := fun (u : St) Y => (wX12 o0 a0 (xy C) u Y)) (F := fun Z => Z) (X := []) (As := [.int (7 : Int32)]) (rest := []) (u := u_20) hC (fun _ _ => rfl) (fun _ => rfl) (ctX12_refuse h) wvX12_refuse ml_X12_88 (ci := 10) (q0 := 0) rfl rfl rfl rfl (rmok hR0 rfl) ⟨Nat.zero_le _, Nat.zero_le _⟩ rfl (Nat.le_of_ble_eq_true rfl) dX12_pay_28 (fun r_28 u_27 h => ?_)
      refine g_goto (pc := 31) (tgt := 39) hC dX12_pay_31 (by decide) ?_
      refine g_sub (lv' := []) [] rfl ?_
      exact kX12_pay_b39 hC hR0 hR  h
  · have h := h.2 c_19
    refine g_aload_n (pc := 8) hC 0 dX12_pay_8 rfl rfl ?_
    refine g_iconst (pc := 9) (v := 1) hC dX12_pay_9 (by decide) ?_
    refine g_callV_i (pc := 10) (wd := fun (u : St) Y => (wX12 o0 a0 (xy C) u Y)) (F := fun Z => Z) (X := []) (As := [.int (1 : Int32)]) (rest := []) (u := u_16) hC (fun _ _ => rfl) (fun _ => rfl) (ctX12_refuse h) wvX12_refuse ml_X12_88 (ci := 10) (q0 := 0) rfl rfl rfl rfl (rmok hR0 rfl) ⟨Nat.zero_le _, Nat.zero_le _⟩ rfl (Nat.le_of_ble_eq_true rfl) dX12_pay_10 (fun r_31 u_30 h => ?_)
    exact hR _ _ _ u_30 dX12_pay_13 h
theorem ctX12_pay {l : Launch} {D : va_G} {cy : Nat → ClassId} {kd : Nat → Nat} {o0 : Nat} {a0 : Nat → Nat} {x1 : Int32} {u0 : St} {post : Int32 → St → Prop} (h : qX12_pay x1 u0 post) : CtI l D cy kd yX12_pay cX12_pay 3 8 .int [.ref o0, .int x1] (fun u : St => (wX12 o0 a0 cy u [])) u0 (fun r u => post r u) := met_i (by decide) (Nat.le_of_ble_eq_true rfl) (fun C e1 e2 e3 e4 e5 hC hR => by subst e1 e2 e3 e4; exact kX12_pay hC e5 hR h)
theorem dX12_snips_0 : decode cX12_snips 0 = .ok (.aload_n 0, 1) := by decide +kernel
theorem dX12_snips_1 : decode cX12_snips 1 = .ok (.iconst 0, 1) := by decide +kernel
theorem dX12_snips_2 : decode cX12_snips 2 = .ok (.putfield 328, 3) := by decide +kernel
theorem dX12_snips_5 : decode cX12_snips 5 = .ok (.aload_n 0, 1) := by decide +kernel
theorem dX12_snips_6 : decode cX12_snips 6 = .ok (.iload_n 1, 1) := by decide +kernel
theorem dX12_snips_7 : decode cX12_snips 7 = .ok (.invokevirtual 261, 3) := by decide +kernel
theorem dX12_snips_10 : decode cX12_snips 10 = .ok (.ifCond .ne 34, 3) := by decide +kernel
theorem dX12_snips_13 : decode cX12_snips 13 = .ok (.aload_n 0, 1) := by decide +kernel
theorem dX12_snips_14 : decode cX12_snips 14 = .ok (.iload_n 1, 1) := by decide +kernel
theorem dX12_snips_15 : decode cX12_snips 15 = .ok (.bipush 6, 2) := by decide +kernel
theorem dX12_snips_17 : decode cX12_snips 17 = .ok (.invokevirtual 264, 3) := by decide +kernel
theorem dX12_snips_20 : decode cX12_snips 20 = .ok (.iload_n 2, 1) := by decide +kernel
theorem dX12_snips_21 : decode cX12_snips 21 = .ok (.if_icmp .lt 23, 3) := by decide +kernel
theorem dX12_snips_24 : decode cX12_snips 24 = .ok (.aload_n 0, 1) := by decide +kernel
theorem dX12_snips_25 : decode cX12_snips 25 = .ok (.aload_n 0, 1) := by decide +kernel
theorem dX12_snips_26 : decode cX12_snips 26 = .ok (.iload_n 1, 1) := by decide +kernel
theorem dX12_snips_27 : decode cX12_snips 27 = .ok (.iconst 0, 1) := by decide +kernel
theorem dX12_snips_28 : decode cX12_snips 28 = .ok (.invokevirtual 264, 3) := by decide +kernel
theorem dX12_snips_31 : decode cX12_snips 31 = .ok (.aload_n 0, 1) := by decide +kernel
theorem dX12_snips_32 : decode cX12_snips 32 = .ok (.iload_n 1, 1) := by decide +kernel
theorem dX12_snips_33 : decode cX12_snips 33 = .ok (.iconst 1, 1) := by decide +kernel
theorem dX12_snips_34 : decode cX12_snips 34 = .ok (.invokevirtual 264, 3) := by decide +kernel
theorem dX12_snips_37 : decode cX12_snips 37 = .ok (.iload_n 2, 1) := by decide +kernel
theorem dX12_snips_38 : decode cX12_snips 38 = .ok (.invokevirtual 322, 3) := by decide +kernel
theorem dX12_snips_41 : decode cX12_snips 41 = .ok (.ifCond .ne 5, 3) := by decide +kernel
theorem dX12_snips_44 : decode cX12_snips 44 = .ok (.iconst 0, 1) := by decide +kernel
theorem dX12_snips_45 : decode cX12_snips 45 = .ok (.ireturn, 1) := by decide +kernel
theorem dX12_snips_46 : decode cX12_snips 46 = .ok (.aload_n 0, 1) := by decide +kernel
theorem dX12_snips_47 : decode cX12_snips 47 = .ok (.getfield 7, 3) := by decide +kernel
theorem dX12_snips_50 : decode cX12_snips 50 = .ok (.iload_n 1, 1) := by decide +kernel
theorem dX12_snips_51 : decode cX12_snips 51 = .ok (.invokestatic 211, 3) := by decide +kernel
theorem dX12_snips_54 : decode cX12_snips 54 = .ok (.bipush 6, 2) := by decide +kernel
theorem dX12_snips_56 : decode cX12_snips 56 = .ok (.iadd, 1) := by decide +kernel
theorem dX12_snips_57 : decode cX12_snips 57 = .ok (.dup2, 1) := by decide +kernel
theorem dX12_snips_58 : decode cX12_snips 58 = .ok (.iaload, 1) := by decide +kernel
theorem dX12_snips_59 : decode cX12_snips 59 = .ok (.iload_n 2, 1) := by decide +kernel
theorem dX12_snips_60 : decode cX12_snips 60 = .ok (.isub, 1) := by decide +kernel
theorem dX12_snips_61 : decode cX12_snips 61 = .ok (.iastore, 1) := by decide +kernel
theorem dX12_snips_62 : decode cX12_snips 62 = .ok (.aload_n 0, 1) := by decide +kernel
theorem dX12_snips_63 : decode cX12_snips 63 = .ok (.aload_n 0, 1) := by decide +kernel
theorem dX12_snips_64 : decode cX12_snips 64 = .ok (.invokevirtual 240, 3) := by decide +kernel
theorem dX12_snips_67 : decode cX12_snips 67 = .ok (.putfield 328, 3) := by decide +kernel
theorem dX12_snips_70 : decode cX12_snips 70 = .ok (.iconst 1, 1) := by decide +kernel
theorem dX12_snips_71 : decode cX12_snips 71 = .ok (.ireturn, 1) := by decide +kernel
def qX12_snips_b44  (post : Int32 → St → Prop)  (u0 : St) : Prop := post (0 : Int32) u0
set_option maxRecDepth 100000 in
set_option maxHeartbeats 4000000 in
theorem kX12_snips_b44 {C : Cx} {o0 : Nat} {a0 : Nat → Nat} (hC : Fx C cX12_snips 3 RX12) (hR0 : xR C = rm 7) {post : Int32 → St → Prop} (hR : RZ C cX12_snips 3 (fun u : St => (wX12 o0 a0 (xy C) u [])) (fun r u => post r u))  {u0 : St} (h : qX12_snips_b44 post u0) : G C 0 0 3 (wX12 o0 a0 (xy C) u0 []) 44 [] [] := by
  refine g_iconst (pc := 44) (v := 0) hC dX12_snips_44 (by decide) ?_
  exact hR _ _ _ u0 dX12_snips_45 (Or.inl rfl) h
def qX12_snips (x1 : Int32) (x2 : Int32) (u0 : St) (post : Int32 → St → Prop) : Prop := ∀ u_24 : St, u_24 = (si u0 24 (0 : Int32)) → qX12_isPaidUp x1 u_24 (fun r_26 u_25 => ((¬ r_26 = 0 → qX12_snips_b44 post u_25) ∧ (r_26 = 0 → qX12_debtOf x1 (6 : Int32) u_25 (fun r_30 u_29 => ((r_30 < x2 → qX12_snips_b44 post u_29) ∧ (¬ r_30 < x2 → qX12_debtOf x1 (0 : Int32) u_29 (fun r_34 u_33 => qX12_debtOf x1 (1 : Int32) u_33 (fun r_37 u_36 => qX12_moves r_34 r_37 x2 u_36 (fun r_40 u_39 => ((¬ r_40 = 0 → qX12_debtRow x1 (fun r_43 => (vp_in (r_43 + (6 : Int32)) 3072 ∧ (vp_in (r_43 + (6 : Int32)) 3072 ∧ ∀ u_45 : St, u_45 = (sw u_39 0 (upd (ga u_39 0) ((r_43 + (6 : Int32))).toNatClampNeg ((ga u_39 0 ((r_43 + (6 : Int32))).toNatClampNeg) - x2))) → qX12_falling u_45 (fun r_47 u_46 => ∀ u_49 : St, u_49 = (si u_46 24 r_47) → post (1 : Int32) u_49))))) ∧ (r_40 = 0 → qX12_snips_b44 post u_39)))))))))))
set_option maxRecDepth 100000 in
set_option maxHeartbeats 4000000 in
theorem kX12_snips {C : Cx} {o0 : Nat} {a0 : Nat → Nat} (hC : Fx C cX12_snips 3 RX12) (hR0 : xR C = rm 7) {post : Int32 → St → Prop} (hR : RZ C cX12_snips 3 (fun u : St => (wX12 o0 a0 (xy C) u [])) (fun r u => post r u)) {x1 : Int32} {x2 : Int32} {u0 : St} (h : qX12_snips x1 x2 u0 post) : G C 0 0 3 (wX12 o0 a0 (xy C) u0 []) 0 [(0, .ref o0), (1, .int x1), (2, .int x2)] [] := by
  refine g_aload_n (pc := 0) hC 0 dX12_snips_0 rfl rfl ?_
  refine g_iconst (pc := 1) (v := 0) hC dX12_snips_1 (by decide) ?_
  refine putX12_24 (pc := 2) hC (F := fun Z => Z) (X := []) (fun _ => rfl) fl_X12_328 dX12_snips_2 ?_
  refine g_st (w := fun z => (wX12 o0 a0 (xy C) z [])) (u := (si u0 24 (0 : Int32))) (fun u_24 eu_24 => ?_)
  have h := h u_24 eu_24
  refine g_aload_n (pc := 5) hC 0 dX12_snips_5 rfl rfl ?_
  refine g_iload_n (pc := 6) hC 1 dX12_snips_6 rfl rfl ?_
  refine g_callV_i (pc := 7) (wd := fun (u : St) Y => (wX12 o0 a0 (xy C) u Y)) (F := fun Z => Z) (X := []) (As := [.int x1]) (rest := []) (u := u_24) hC (fun _ _ => rfl) (fun _ => rfl) (ctX12_isPaidUp h) wvX12_isPaidUp ml_X12_261 (ci := 10) (q0 := 0) rfl rfl rfl rfl (rmok hR0 rfl) ⟨Nat.zero_le _, Nat.zero_le _⟩ rfl (Nat.le_of_ble_eq_true rfl) dX12_snips_7 (fun r_26 u_25 h => ?_)
  refine g_if_ne (pc := 10) (tgt := 44) hC dX12_snips_10 (by decide) (fun c_28 => ?_) (fun c_28 => ?_)
  · have h := h.1 c_28
    refine g_sub (lv' := []) [] rfl ?_
    exact kX12_snips_b44 hC hR0 hR  h
  · have h := h.2 c_28
    refine g_aload_n (pc := 13) hC 0 dX12_snips_13 rfl rfl ?_
    refine g_iload_n (pc := 14) hC 1 dX12_snips_14 rfl rfl ?_
    refine g_bipush (pc := 15) (v := 6) hC dX12_snips_15 (by decide) ?_
    refine g_callV_i (pc := 17) (wd := fun (u : St) Y => (wX12 o0 a0 (xy C) u Y)) (F := fun Z => Z) (X := []) (As := [.int x1, .int (6 : Int32)]) (rest := []) (u := u_25) hC (fun _ _ => rfl) (fun _ => rfl) (ctX12_debtOf h) wvX12_debtOf ml_X12_264 (ci := 10) (q0 := 0) rfl rfl rfl rfl (rmok hR0 rfl) ⟨Nat.zero_le _, Nat.zero_le _⟩ rfl (Nat.le_of_ble_eq_true rfl) dX12_snips_17 (fun r_30 u_29 h => ?_)
    refine g_iload_n (pc := 20) hC 2 dX12_snips_20 rfl rfl ?_
    refine g_icmp_lt (pc := 21) (tgt := 44) hC dX12_snips_21 (by decide) (fun c_32 => ?_) (fun c_32 => ?_)
    · have h := h.1 c_32
      refine g_sub (lv' := []) [] rfl ?_
      exact kX12_snips_b44 hC hR0 hR  h
    · have h := h.2 c_32
      refine g_aload_n (pc := 24) hC 0 dX12_snips_24 rfl rfl ?_
      refine g_aload_n (pc := 25) hC 0 dX12_snips_25 rfl rfl ?_
      refine g_iload_n (pc := 26) hC 1 dX12_snips_26 rfl rfl ?_
      refine g_iconst (pc := 27) (v := 0) hC dX12_snips_27 (by decide) ?_
      refine g_callV_i (pc := 28) (wd := fun (u : St) Y => (wX12 o0 a0 (xy C) u Y)) (F := fun Z => Z) (X := []) (As := [.int x1, .int (0 : Int32)]) (rest := [.ref o0]) (u := u_29) hC (fun _ _ => rfl) (fun _ => rfl) (ctX12_debtOf h) wvX12_debtOf ml_X12_264 (ci := 10) (q0 := 0) rfl rfl rfl rfl (rmok hR0 rfl) ⟨Nat.zero_le _, Nat.zero_le _⟩ rfl (Nat.le_of_ble_eq_true rfl) dX12_snips_28 (fun r_34 u_33 h => ?_)
      refine g_aload_n (pc := 31) hC 0 dX12_snips_31 rfl rfl ?_
      refine g_iload_n (pc := 32) hC 1 dX12_snips_32 rfl rfl ?_
      refine g_iconst (pc := 33) (v := 1) hC dX12_snips_33 (by decide) ?_
      refine g_callV_i (pc := 34) (wd := fun (u : St) Y => (wX12 o0 a0 (xy C) u Y)) (F := fun Z => Z) (X := []) (As := [.int x1, .int (1 : Int32)]) (rest := [.int r_34, .ref o0]) (u := u_33) hC (fun _ _ => rfl) (fun _ => rfl) (ctX12_debtOf h) wvX12_debtOf ml_X12_264 (ci := 10) (q0 := 0) rfl rfl rfl rfl (rmok hR0 rfl) ⟨Nat.zero_le _, Nat.zero_le _⟩ rfl (Nat.le_of_ble_eq_true rfl) dX12_snips_34 (fun r_37 u_36 h => ?_)
      refine g_iload_n (pc := 37) hC 2 dX12_snips_37 rfl rfl ?_
      refine g_callV_i (pc := 38) (wd := fun (u : St) Y => (wX12 o0 a0 (xy C) u Y)) (F := fun Z => Z) (X := []) (As := [.int r_34, .int r_37, .int x2]) (rest := []) (u := u_36) hC (fun _ _ => rfl) (fun _ => rfl) (ctX12_moves h) wvX12_moves ml_X12_322 (ci := 10) (q0 := 0) rfl rfl rfl rfl (rmok hR0 rfl) ⟨Nat.zero_le _, Nat.zero_le _⟩ rfl (Nat.le_of_ble_eq_true rfl) dX12_snips_38 (fun r_40 u_39 h => ?_)
      refine g_if_ne (pc := 41) (tgt := 46) hC dX12_snips_41 (by decide) (fun c_42 => ?_) (fun c_42 => ?_)
      · have h := h.1 c_42
        refine g_aload_n (pc := 46) hC 0 dX12_snips_46 rfl rfl ?_
        refine getX12_0 (pc := 47) hC (F := fun Z => Z) (X := []) (fun _ => rfl) fl_X12_7 dX12_snips_47 ?_
        refine g_iload_n (pc := 50) hC 1 dX12_snips_50 rfl rfl ?_
        refine g_callS_i (pc := 51) (wd := fun (_ : Unit) Y => Y) (F := fun Z => Z) (X := []) (As := [.int x1]) (rest := [.ref (a0 0)]) (u := ()) hC (fun _ _ => rfl) (fun _ => rfl) (ctX12_debtRow h) wvX12_debtRow ml_X12_211 rfl (rmok hR0 rfl) ⟨Nat.zero_le _, Nat.zero_le _⟩ rfl (Nat.le_of_ble_eq_true rfl) dX12_snips_51 (fun r_43 u_44 h => ?_)
        refine g_bipush (pc := 54) (v := 6) hC dX12_snips_54 (by decide) ?_
        refine g_iadd (pc := 56) hC dX12_snips_56 ?_
        refine g_dup2 (pc := 57) hC dX12_snips_57 rfl rfl ?_
        refine aldX12_0 (pc := 58) hC (F := fun Z => Z) (X := []) (fun _ => rfl) h.1 dX12_snips_58 ?_
        have h := h.2
        refine g_iload_n (pc := 59) hC 2 dX12_snips_59 rfl rfl ?_
        refine g_isub (pc := 60) hC dX12_snips_60 ?_
        refine astX12_0 (pc := 61) hC (F := fun Z => Z) (X := []) (fun _ => rfl) h.1 dX12_snips_61 ?_
        have h := h.2
        refine g_st (w := fun z => (wX12 o0 a0 (xy C) z [])) (u := (sw u_39 0 (upd (ga u_39 0) ((r_43 + (6 : Int32))).toNatClampNeg ((ga u_39 0 ((r_43 + (6 : Int32))).toNatClampNeg) - x2)))) (fun u_45 eu_45 => ?_)
        have h := h u_45 eu_45
        refine g_aload_n (pc := 62) hC 0 dX12_snips_62 rfl rfl ?_
        refine g_aload_n (pc := 63) hC 0 dX12_snips_63 rfl rfl ?_
        refine g_callV_i (pc := 64) (wd := fun (u : St) Y => (wX12 o0 a0 (xy C) u Y)) (F := fun Z => Z) (X := []) (As := []) (rest := [.ref o0]) (u := u_45) hC (fun _ _ => rfl) (fun _ => rfl) (ctX12_falling h) wvX12_falling ml_X12_240 (ci := 10) (q0 := 0) rfl rfl rfl rfl (rmok hR0 rfl) ⟨Nat.zero_le _, Nat.zero_le _⟩ rfl (Nat.le_of_ble_eq_true rfl) dX12_snips_64 (fun r_47 u_46 h => ?_)
        refine putX12_24 (pc := 67) hC (F := fun Z => Z) (X := []) (fun _ => rfl) fl_X12_328 dX12_snips_67 ?_
        refine g_st (w := fun z => (wX12 o0 a0 (xy C) z [])) (u := (si u_46 24 r_47)) (fun u_49 eu_49 => ?_)
        have h := h u_49 eu_49
        refine g_iconst (pc := 70) (v := 1) hC dX12_snips_70 (by decide) ?_
        exact hR _ _ _ u_49 dX12_snips_71 (Or.inr rfl) h
      · have h := h.2 c_42
        refine g_sub (lv' := []) [] rfl ?_
        exact kX12_snips_b44 hC hR0 hR  h
theorem ctX12_snips {l : Launch} {D : va_G} {cy : Nat → ClassId} {kd : Nat → Nat} {o0 : Nat} {a0 : Nat → Nat} {x1 : Int32} {x2 : Int32} {u0 : St} {post : Int32 → St → Prop} (h : qX12_snips x1 x2 u0 post) : CtI l D cy kd yX12_snips cX12_snips 3 7 .boolean [.ref o0, .int x1, .int x2] (fun u : St => (wX12 o0 a0 cy u [])) u0 (fun r u => post r u) := met_z (by decide) (Nat.le_of_ble_eq_true rfl) (fun C e1 e2 e3 e4 e5 hC hR => by subst e1 e2 e3 e4; exact kX12_snips hC e5 hR h)
theorem dX12_snip_0 : decode cX12_snip 0 = .ok (.aload_n 0, 1) := by decide +kernel
theorem dX12_snip_1 : decode cX12_snip 1 = .ok (.iload_n 1, 1) := by decide +kernel
theorem dX12_snip_2 : decode cX12_snip 2 = .ok (.invokevirtual 294, 3) := by decide +kernel
theorem dX12_snip_5 : decode cX12_snip 5 = .ok (.ifCond .eq 15, 3) := by decide +kernel
theorem dX12_snip_8 : decode cX12_snip 8 = .ok (.iload_n 2, 1) := by decide +kernel
theorem dX12_snip_9 : decode cX12_snip 9 = .ok (.i2l, 1) := by decide +kernel
theorem dX12_snip_10 : decode cX12_snip 10 = .ok (.lconst 1, 1) := by decide +kernel
theorem dX12_snip_11 : decode cX12_snip 11 = .ok (.ldc2_w 313, 3) := by decide +kernel
theorem dX12_snip_14 : decode cX12_snip 14 = .ok (.invokestatic 315, 3) := by decide +kernel
theorem dX12_snip_17 : decode cX12_snip 17 = .ok (.ifCond .ne 9, 3) := by decide +kernel
theorem dX12_snip_20 : decode cX12_snip 20 = .ok (.aload_n 0, 1) := by decide +kernel
theorem dX12_snip_21 : decode cX12_snip 21 = .ok (.iconst 1, 1) := by decide +kernel
theorem dX12_snip_22 : decode cX12_snip 22 = .ok (.invokevirtual 88, 3) := by decide +kernel
theorem dX12_snip_25 : decode cX12_snip 25 = .ok (.ireturn, 1) := by decide +kernel
theorem dX12_snip_26 : decode cX12_snip 26 = .ok (.aload_n 0, 1) := by decide +kernel
theorem dX12_snip_27 : decode cX12_snip 27 = .ok (.iload_n 1, 1) := by decide +kernel
theorem dX12_snip_28 : decode cX12_snip 28 = .ok (.iload_n 2, 1) := by decide +kernel
theorem dX12_snip_29 : decode cX12_snip 29 = .ok (.invokevirtual 334, 3) := by decide +kernel
theorem dX12_snip_32 : decode cX12_snip 32 = .ok (.ifCond .eq 17, 3) := by decide +kernel
theorem dX12_snip_35 : decode cX12_snip 35 = .ok (.aload_n 0, 1) := by decide +kernel
theorem dX12_snip_36 : decode cX12_snip 36 = .ok (.aload_n 0, 1) := by decide +kernel
theorem dX12_snip_37 : decode cX12_snip 37 = .ok (.iload_n 1, 1) := by decide +kernel
theorem dX12_snip_38 : decode cX12_snip 38 = .ok (.bipush 6, 2) := by decide +kernel
theorem dX12_snip_40 : decode cX12_snip 40 = .ok (.invokevirtual 264, 3) := by decide +kernel
theorem dX12_snip_43 : decode cX12_snip 43 = .ok (.invokevirtual 92, 3) := by decide +kernel
theorem dX12_snip_46 : decode cX12_snip 46 = .ok (.goto 9, 3) := by decide +kernel
theorem dX12_snip_49 : decode cX12_snip 49 = .ok (.aload_n 0, 1) := by decide +kernel
theorem dX12_snip_50 : decode cX12_snip 50 = .ok (.bipush 7, 2) := by decide +kernel
theorem dX12_snip_52 : decode cX12_snip 52 = .ok (.invokevirtual 88, 3) := by decide +kernel
theorem dX12_snip_55 : decode cX12_snip 55 = .ok (.ireturn, 1) := by decide +kernel
def qX12_snip_b20  (post : Int32 → St → Prop)  (u0 : St) : Prop := qX12_refuse (1 : Int32) u0 (fun r_22 u_21 => post r_22 u_21)
set_option maxRecDepth 100000 in
set_option maxHeartbeats 4000000 in
theorem kX12_snip_b20 {C : Cx} {o0 : Nat} {a0 : Nat → Nat} (hC : Fx C cX12_snip 3 RX12) (hR0 : xR C = rm 8) {post : Int32 → St → Prop} (hR : RI C cX12_snip 3 (fun u : St => (wX12 o0 a0 (xy C) u [])) (fun r u => post r u))  {u0 : St} (h : qX12_snip_b20 post u0) : G C 0 0 3 (wX12 o0 a0 (xy C) u0 []) 20 [(0, .ref o0)] [] := by
  refine g_aload_n (pc := 20) hC 0 dX12_snip_20 rfl rfl ?_
  refine g_iconst (pc := 21) (v := 1) hC dX12_snip_21 (by decide) ?_
  refine g_callV_i (pc := 22) (wd := fun (u : St) Y => (wX12 o0 a0 (xy C) u Y)) (F := fun Z => Z) (X := []) (As := [.int (1 : Int32)]) (rest := []) (u := u0) hC (fun _ _ => rfl) (fun _ => rfl) (ctX12_refuse h) wvX12_refuse ml_X12_88 (ci := 10) (q0 := 0) rfl rfl rfl rfl (rmok hR0 rfl) ⟨Nat.zero_le _, Nat.zero_le _⟩ rfl (Nat.le_of_ble_eq_true rfl) dX12_snip_22 (fun r_22 u_21 h => ?_)
  exact hR _ _ _ u_21 dX12_snip_25 h
def qX12_snip_b55  (post : Int32 → St → Prop)  (s0 : Int32) (u0 : St) : Prop := post s0 u0
set_option maxRecDepth 100000 in
set_option maxHeartbeats 4000000 in
theorem kX12_snip_b55 {C : Cx} {o0 : Nat} {a0 : Nat → Nat} (hC : Fx C cX12_snip 3 RX12) (hR0 : xR C = rm 8) {post : Int32 → St → Prop} (hR : RI C cX12_snip 3 (fun u : St => (wX12 o0 a0 (xy C) u [])) (fun r u => post r u))  {s0 : Int32} {u0 : St} (h : qX12_snip_b55 post s0 u0) : G C 0 0 3 (wX12 o0 a0 (xy C) u0 []) 55 [] [.int s0] := by
  exact hR _ _ _ u0 dX12_snip_55 h
def qX12_snip (x1 : Int32) (x2 : Int32) (u0 : St) (post : Int32 → St → Prop) : Prop := qX12_isDebt x1 u0 (fun r_25 u_24 => ((r_25 = 0 → qX12_snip_b20 post u_24) ∧ (¬ r_25 = 0 → qX12_isFrom (x2).toInt64 (1 : Int64) (99 : Int64) (fun r_28 => ((¬ r_28 = 0 → qX12_snips x1 x2 u_24 (fun r_32 u_31 => ((r_32 = 0 → qX12_refuse (7 : Int32) u_31 (fun r_36 u_35 => qX12_snip_b55 post r_36 u_35)) ∧ (¬ r_32 = 0 → qX12_debtOf x1 (6 : Int32) u_31 (fun r_39 u_38 => qX12_gives r_39 u_38 (fun r_42 u_41 => qX12_snip_b55 post r_42 u_41)))))) ∧ (r_28 = 0 → qX12_snip_b20 post u_24))))))
set_option maxRecDepth 100000 in
set_option maxHeartbeats 4000000 in
theorem kX12_snip {C : Cx} {o0 : Nat} {a0 : Nat → Nat} (hC : Fx C cX12_snip 3 RX12) (hR0 : xR C = rm 8) {post : Int32 → St → Prop} (hR : RI C cX12_snip 3 (fun u : St => (wX12 o0 a0 (xy C) u [])) (fun r u => post r u)) {x1 : Int32} {x2 : Int32} {u0 : St} (h : qX12_snip x1 x2 u0 post) : G C 0 0 3 (wX12 o0 a0 (xy C) u0 []) 0 [(0, .ref o0), (1, .int x1), (2, .int x2)] [] := by
  refine g_aload_n (pc := 0) hC 0 dX12_snip_0 rfl rfl ?_
  refine g_iload_n (pc := 1) hC 1 dX12_snip_1 rfl rfl ?_
  refine g_callV_i (pc := 2) (wd := fun (u : St) Y => (wX12 o0 a0 (xy C) u Y)) (F := fun Z => Z) (X := []) (As := [.int x1]) (rest := []) (u := u0) hC (fun _ _ => rfl) (fun _ => rfl) (ctX12_isDebt h) wvX12_isDebt ml_X12_294 (ci := 10) (q0 := 0) rfl rfl rfl rfl (rmok hR0 rfl) ⟨Nat.zero_le _, Nat.zero_le _⟩ rfl (Nat.le_of_ble_eq_true rfl) dX12_snip_2 (fun r_25 u_24 h => ?_)
  refine g_if_eq (pc := 5) (tgt := 20) hC dX12_snip_5 (by decide) (fun c_27 => ?_) (fun c_27 => ?_)
  · have h := h.1 c_27
    refine g_sub (lv' := [(0, .ref o0)]) [0] rfl ?_
    exact kX12_snip_b20 hC hR0 hR  h
  · have h := h.2 c_27
    refine g_iload_n (pc := 8) hC 2 dX12_snip_8 rfl rfl ?_
    refine g_i2l (pc := 9) hC dX12_snip_9 ?_
    refine g_lconst (pc := 10) (v := 1) hC dX12_snip_10 (by decide) ?_
    refine g_ldc2 (pc := 11) hC cn_X12_313 dX12_snip_11 ?_
    refine g_callS_i (pc := 14) (wd := fun (_ : Unit) Y => Y) (F := fun Z => Z) (X := []) (As := [.long (x2).toInt64, .long (1 : Int64), .long (99 : Int64)]) (rest := []) (u := ()) hC (fun _ _ => rfl) (fun _ => rfl) (ctX12_isFrom h) wvX12_isFrom ml_X12_315 rfl (rmok hR0 rfl) ⟨Nat.zero_le _, Nat.zero_le _⟩ rfl (Nat.le_of_ble_eq_true rfl) dX12_snip_14 (fun r_28 u_29 h => ?_)
    refine g_if_ne (pc := 17) (tgt := 26) hC dX12_snip_17 (by decide) (fun c_30 => ?_) (fun c_30 => ?_)
    · have h := h.1 c_30
      refine g_aload_n (pc := 26) hC 0 dX12_snip_26 rfl rfl ?_
      refine g_iload_n (pc := 27) hC 1 dX12_snip_27 rfl rfl ?_
      refine g_iload_n (pc := 28) hC 2 dX12_snip_28 rfl rfl ?_
      refine g_callV_i (pc := 29) (wd := fun (u : St) Y => (wX12 o0 a0 (xy C) u Y)) (F := fun Z => Z) (X := []) (As := [.int x1, .int x2]) (rest := []) (u := u_24) hC (fun _ _ => rfl) (fun _ => rfl) (ctX12_snips h) wvX12_snips ml_X12_334 (ci := 10) (q0 := 0) rfl rfl rfl rfl (rmok hR0 rfl) ⟨Nat.zero_le _, Nat.zero_le _⟩ rfl (Nat.le_of_ble_eq_true rfl) dX12_snip_29 (fun r_32 u_31 h => ?_)
      refine g_if_eq (pc := 32) (tgt := 49) hC dX12_snip_32 (by decide) (fun c_34 => ?_) (fun c_34 => ?_)
      · have h := h.1 c_34
        refine g_aload_n (pc := 49) hC 0 dX12_snip_49 rfl rfl ?_
        refine g_bipush (pc := 50) (v := 7) hC dX12_snip_50 (by decide) ?_
        refine g_callV_i (pc := 52) (wd := fun (u : St) Y => (wX12 o0 a0 (xy C) u Y)) (F := fun Z => Z) (X := []) (As := [.int (7 : Int32)]) (rest := []) (u := u_31) hC (fun _ _ => rfl) (fun _ => rfl) (ctX12_refuse h) wvX12_refuse ml_X12_88 (ci := 10) (q0 := 0) rfl rfl rfl rfl (rmok hR0 rfl) ⟨Nat.zero_le _, Nat.zero_le _⟩ rfl (Nat.le_of_ble_eq_true rfl) dX12_snip_52 (fun r_36 u_35 h => ?_)
        refine g_sub (lv' := []) [] rfl ?_
        exact kX12_snip_b55 hC hR0 hR  h
      · have h := h.2 c_34
        refine g_aload_n (pc := 35) hC 0 dX12_snip_35 rfl rfl ?_
        refine g_aload_n (pc := 36) hC 0 dX12_snip_36 rfl rfl ?_
        refine g_iload_n (pc := 37) hC 1 dX12_snip_37 rfl rfl ?_
        refine g_bipush (pc := 38) (v := 6) hC dX12_snip_38 (by decide) ?_
        refine g_callV_i (pc := 40) (wd := fun (u : St) Y => (wX12 o0 a0 (xy C) u Y)) (F := fun Z => Z) (X := []) (As := [.int x1, .int (6 : Int32)]) (rest := [.ref o0]) (u := u_31) hC (fun _ _ => rfl) (fun _ => rfl) (ctX12_debtOf h) wvX12_debtOf ml_X12_264 (ci := 10) (q0 := 0) rfl rfl rfl rfl (rmok hR0 rfl) ⟨Nat.zero_le _, Nat.zero_le _⟩ rfl (Nat.le_of_ble_eq_true rfl) dX12_snip_40 (fun r_39 u_38 h => ?_)
        refine g_callV_i (pc := 43) (wd := fun (u : St) Y => (wX12 o0 a0 (xy C) u Y)) (F := fun Z => Z) (X := []) (As := [.int r_39]) (rest := []) (u := u_38) hC (fun _ _ => rfl) (fun _ => rfl) (ctX12_gives h) wvX12_gives ml_X12_92 (ci := 10) (q0 := 0) rfl rfl rfl rfl (rmok hR0 rfl) ⟨Nat.zero_le _, Nat.zero_le _⟩ rfl (Nat.le_of_ble_eq_true rfl) dX12_snip_43 (fun r_42 u_41 h => ?_)
        refine g_goto (pc := 46) (tgt := 55) hC dX12_snip_46 (by decide) ?_
        refine g_sub (lv' := []) [] rfl ?_
        exact kX12_snip_b55 hC hR0 hR  h
    · have h := h.2 c_30
      refine g_sub (lv' := [(0, .ref o0)]) [0] rfl ?_
      exact kX12_snip_b20 hC hR0 hR  h
theorem ctX12_snip {l : Launch} {D : va_G} {cy : Nat → ClassId} {kd : Nat → Nat} {o0 : Nat} {a0 : Nat → Nat} {x1 : Int32} {x2 : Int32} {u0 : St} {post : Int32 → St → Prop} (h : qX12_snip x1 x2 u0 post) : CtI l D cy kd yX12_snip cX12_snip 3 8 .int [.ref o0, .int x1, .int x2] (fun u : St => (wX12 o0 a0 cy u [])) u0 (fun r u => post r u) := met_i (by decide) (Nat.le_of_ble_eq_true rfl) (fun C e1 e2 e3 e4 e5 hC hR => by subst e1 e2 e3 e4; exact kX12_snip hC e5 hR h)
theorem dX12_mends_0 : decode cX12_mends 0 = .ok (.aload_n 0, 1) := by decide +kernel
theorem dX12_mends_1 : decode cX12_mends 1 = .ok (.aload_n 0, 1) := by decide +kernel
theorem dX12_mends_2 : decode cX12_mends 2 = .ok (.getfield 7, 3) := by decide +kernel
theorem dX12_mends_5 : decode cX12_mends 5 = .ok (.iconst 5, 1) := by decide +kernel
theorem dX12_mends_6 : decode cX12_mends 6 = .ok (.iaload, 1) := by decide +kernel
theorem dX12_mends_7 : decode cX12_mends 7 = .ok (.iload_n 1, 1) := by decide +kernel
theorem dX12_mends_8 : decode cX12_mends 8 = .ok (.invokevirtual 201, 3) := by decide +kernel
theorem dX12_mends_11 : decode cX12_mends 11 = .ok (.ifCond .ne 17, 3) := by decide +kernel
theorem dX12_mends_14 : decode cX12_mends 14 = .ok (.aload_n 0, 1) := by decide +kernel
theorem dX12_mends_15 : decode cX12_mends 15 = .ok (.getfield 7, 3) := by decide +kernel
theorem dX12_mends_18 : decode cX12_mends 18 = .ok (.iload_n 1, 1) := by decide +kernel
theorem dX12_mends_19 : decode cX12_mends 19 = .ok (.invokestatic 187, 3) := by decide +kernel
theorem dX12_mends_22 : decode cX12_mends 22 = .ok (.iaload, 1) := by decide +kernel
theorem dX12_mends_23 : decode cX12_mends 23 = .ok (.bipush 9, 2) := by decide +kernel
theorem dX12_mends_25 : decode cX12_mends 25 = .ok (.if_icmp .ne 5, 3) := by decide +kernel
theorem dX12_mends_28 : decode cX12_mends 28 = .ok (.iconst 0, 1) := by decide +kernel
theorem dX12_mends_29 : decode cX12_mends 29 = .ok (.ireturn, 1) := by decide +kernel
theorem dX12_mends_30 : decode cX12_mends 30 = .ok (.aload_n 0, 1) := by decide +kernel
theorem dX12_mends_31 : decode cX12_mends 31 = .ok (.getfield 7, 3) := by decide +kernel
theorem dX12_mends_34 : decode cX12_mends 34 = .ok (.iload_n 1, 1) := by decide +kernel
theorem dX12_mends_35 : decode cX12_mends 35 = .ok (.invokestatic 187, 3) := by decide +kernel
theorem dX12_mends_38 : decode cX12_mends 38 = .ok (.dup2, 1) := by decide +kernel
theorem dX12_mends_39 : decode cX12_mends 39 = .ok (.iaload, 1) := by decide +kernel
theorem dX12_mends_40 : decode cX12_mends 40 = .ok (.iconst 1, 1) := by decide +kernel
theorem dX12_mends_41 : decode cX12_mends 41 = .ok (.iadd, 1) := by decide +kernel
theorem dX12_mends_42 : decode cX12_mends 42 = .ok (.iastore, 1) := by decide +kernel
theorem dX12_mends_43 : decode cX12_mends 43 = .ok (.iconst 1, 1) := by decide +kernel
theorem dX12_mends_44 : decode cX12_mends 44 = .ok (.ireturn, 1) := by decide +kernel
def qX12_mends_b28  (post : Int32 → St → Prop)  (u0 : St) : Prop := post (0 : Int32) u0
set_option maxRecDepth 100000 in
set_option maxHeartbeats 4000000 in
theorem kX12_mends_b28 {C : Cx} {o0 : Nat} {a0 : Nat → Nat} (hC : Fx C cX12_mends 2 RX12) (hR0 : xR C = rm 2) {post : Int32 → St → Prop} (hR : RZ C cX12_mends 2 (fun u : St => (wX12 o0 a0 (xy C) u [])) (fun r u => post r u))  {u0 : St} (h : qX12_mends_b28 post u0) : G C 0 0 2 (wX12 o0 a0 (xy C) u0 []) 28 [] [] := by
  refine g_iconst (pc := 28) (v := 0) hC dX12_mends_28 (by decide) ?_
  exact hR _ _ _ u0 dX12_mends_29 (Or.inl rfl) h
def qX12_mends (x1 : Int32) (u0 : St) (post : Int32 → St → Prop) : Prop := qX12_isIn (ga u0 0 ((5 : Int32)).toNatClampNeg) x1 u0 (fun r_10 u_9 => ((¬ r_10 = 0 → qX12_mends_b28 post u_9) ∧ (r_10 = 0 → qX12_stoneRow x1 (fun r_13 => (vp_in r_13 3072 ∧ ((¬ (ga u_9 0 (r_13).toNatClampNeg) = (9 : Int32) → qX12_stoneRow x1 (fun r_16 => (vp_in r_16 3072 ∧ (vp_in r_16 3072 ∧ ∀ u_18 : St, u_18 = (sw u_9 0 (upd (ga u_9 0) (r_16).toNatClampNeg ((ga u_9 0 (r_16).toNatClampNeg) + (1 : Int32)))) → post (1 : Int32) u_18)))) ∧ ((ga u_9 0 (r_13).toNatClampNeg) = (9 : Int32) → qX12_mends_b28 post u_9)))))))
set_option maxRecDepth 100000 in
set_option maxHeartbeats 4000000 in
theorem kX12_mends {C : Cx} {o0 : Nat} {a0 : Nat → Nat} (hC : Fx C cX12_mends 2 RX12) (hR0 : xR C = rm 2) {post : Int32 → St → Prop} (hR : RZ C cX12_mends 2 (fun u : St => (wX12 o0 a0 (xy C) u [])) (fun r u => post r u)) {x1 : Int32} {u0 : St} (h : qX12_mends x1 u0 post) : G C 0 0 2 (wX12 o0 a0 (xy C) u0 []) 0 [(0, .ref o0), (1, .int x1)] [] := by
  refine g_aload_n (pc := 0) hC 0 dX12_mends_0 rfl rfl ?_
  refine g_aload_n (pc := 1) hC 0 dX12_mends_1 rfl rfl ?_
  refine getX12_0 (pc := 2) hC (F := fun Z => Z) (X := []) (fun _ => rfl) fl_X12_7 dX12_mends_2 ?_
  refine g_iconst (pc := 5) (v := 5) hC dX12_mends_5 (by decide) ?_
  refine aldX12_0 (pc := 6) hC (F := fun Z => Z) (X := []) (fun _ => rfl) (by unfold vp_in; decide) dX12_mends_6 ?_
  refine g_iload_n (pc := 7) hC 1 dX12_mends_7 rfl rfl ?_
  refine g_callV_i (pc := 8) (wd := fun (u : St) Y => (wX12 o0 a0 (xy C) u Y)) (F := fun Z => Z) (X := []) (As := [.int (ga u0 0 ((5 : Int32)).toNatClampNeg), .int x1]) (rest := []) (u := u0) hC (fun _ _ => rfl) (fun _ => rfl) (ctX12_isIn h) wvX12_isIn ml_X12_201 (ci := 10) (q0 := 0) rfl rfl rfl rfl (rmok hR0 rfl) ⟨Nat.zero_le _, Nat.zero_le _⟩ rfl (Nat.le_of_ble_eq_true rfl) dX12_mends_8 (fun r_10 u_9 h => ?_)
  refine g_if_ne (pc := 11) (tgt := 28) hC dX12_mends_11 (by decide) (fun c_12 => ?_) (fun c_12 => ?_)
  · have h := h.1 c_12
    refine g_sub (lv' := []) [] rfl ?_
    exact kX12_mends_b28 hC hR0 hR  h
  · have h := h.2 c_12
    refine g_aload_n (pc := 14) hC 0 dX12_mends_14 rfl rfl ?_
    refine getX12_0 (pc := 15) hC (F := fun Z => Z) (X := []) (fun _ => rfl) fl_X12_7 dX12_mends_15 ?_
    refine g_iload_n (pc := 18) hC 1 dX12_mends_18 rfl rfl ?_
    refine g_callS_i (pc := 19) (wd := fun (_ : Unit) Y => Y) (F := fun Z => Z) (X := []) (As := [.int x1]) (rest := [.ref (a0 0)]) (u := ()) hC (fun _ _ => rfl) (fun _ => rfl) (ctX12_stoneRow h) wvX12_stoneRow ml_X12_187 rfl (rmok hR0 rfl) ⟨Nat.zero_le _, Nat.zero_le _⟩ rfl (Nat.le_of_ble_eq_true rfl) dX12_mends_19 (fun r_13 u_14 h => ?_)
    refine aldX12_0 (pc := 22) hC (F := fun Z => Z) (X := []) (fun _ => rfl) h.1 dX12_mends_22 ?_
    have h := h.2
    refine g_bipush (pc := 23) (v := 9) hC dX12_mends_23 (by decide) ?_
    refine g_icmp_ne (pc := 25) (tgt := 30) hC dX12_mends_25 (by decide) (fun c_15 => ?_) (fun c_15 => ?_)
    · have h := h.1 c_15
      refine g_aload_n (pc := 30) hC 0 dX12_mends_30 rfl rfl ?_
      refine getX12_0 (pc := 31) hC (F := fun Z => Z) (X := []) (fun _ => rfl) fl_X12_7 dX12_mends_31 ?_
      refine g_iload_n (pc := 34) hC 1 dX12_mends_34 rfl rfl ?_
      refine g_callS_i (pc := 35) (wd := fun (_ : Unit) Y => Y) (F := fun Z => Z) (X := []) (As := [.int x1]) (rest := [.ref (a0 0)]) (u := ()) hC (fun _ _ => rfl) (fun _ => rfl) (ctX12_stoneRow h) wvX12_stoneRow ml_X12_187 rfl (rmok hR0 rfl) ⟨Nat.zero_le _, Nat.zero_le _⟩ rfl (Nat.le_of_ble_eq_true rfl) dX12_mends_35 (fun r_16 u_17 h => ?_)
      refine g_dup2 (pc := 38) hC dX12_mends_38 rfl rfl ?_
      refine aldX12_0 (pc := 39) hC (F := fun Z => Z) (X := []) (fun _ => rfl) h.1 dX12_mends_39 ?_
      have h := h.2
      refine g_iconst (pc := 40) (v := 1) hC dX12_mends_40 (by decide) ?_
      refine g_iadd (pc := 41) hC dX12_mends_41 ?_
      refine astX12_0 (pc := 42) hC (F := fun Z => Z) (X := []) (fun _ => rfl) h.1 dX12_mends_42 ?_
      have h := h.2
      refine g_st (w := fun z => (wX12 o0 a0 (xy C) z [])) (u := (sw u_9 0 (upd (ga u_9 0) (r_16).toNatClampNeg ((ga u_9 0 (r_16).toNatClampNeg) + (1 : Int32))))) (fun u_18 eu_18 => ?_)
      have h := h u_18 eu_18
      refine g_iconst (pc := 43) (v := 1) hC dX12_mends_43 (by decide) ?_
      exact hR _ _ _ u_18 dX12_mends_44 (Or.inr rfl) h
    · have h := h.2 c_15
      refine g_sub (lv' := []) [] rfl ?_
      exact kX12_mends_b28 hC hR0 hR  h
theorem ctX12_mends {l : Launch} {D : va_G} {cy : Nat → ClassId} {kd : Nat → Nat} {o0 : Nat} {a0 : Nat → Nat} {x1 : Int32} {u0 : St} {post : Int32 → St → Prop} (h : qX12_mends x1 u0 post) : CtI l D cy kd yX12_mends cX12_mends 2 2 .boolean [.ref o0, .int x1] (fun u : St => (wX12 o0 a0 cy u [])) u0 (fun r u => post r u) := met_z (by decide) (Nat.le_of_ble_eq_true rfl) (fun C e1 e2 e3 e4 e5 hC hR => by subst e1 e2 e3 e4; exact kX12_mends hC e5 hR h)
theorem dX12_mend_0 : decode cX12_mend 0 = .ok (.aload_n 0, 1) := by decide +kernel
theorem dX12_mend_1 : decode cX12_mend 1 = .ok (.iload_n 1, 1) := by decide +kernel
theorem dX12_mend_2 : decode cX12_mend 2 = .ok (.invokevirtual 291, 3) := by decide +kernel
theorem dX12_mend_5 : decode cX12_mend 5 = .ok (.ifCond .ne 9, 3) := by decide +kernel
theorem dX12_mend_8 : decode cX12_mend 8 = .ok (.aload_n 0, 1) := by decide +kernel
theorem dX12_mend_9 : decode cX12_mend 9 = .ok (.iconst 1, 1) := by decide +kernel
theorem dX12_mend_10 : decode cX12_mend 10 = .ok (.invokevirtual 88, 3) := by decide +kernel
theorem dX12_mend_13 : decode cX12_mend 13 = .ok (.ireturn, 1) := by decide +kernel
theorem dX12_mend_14 : decode cX12_mend 14 = .ok (.aload_n 0, 1) := by decide +kernel
theorem dX12_mend_15 : decode cX12_mend 15 = .ok (.iload_n 1, 1) := by decide +kernel
theorem dX12_mend_16 : decode cX12_mend 16 = .ok (.invokevirtual 337, 3) := by decide +kernel
theorem dX12_mend_19 : decode cX12_mend 19 = .ok (.ifCond .eq 19, 3) := by decide +kernel
theorem dX12_mend_22 : decode cX12_mend 22 = .ok (.aload_n 0, 1) := by decide +kernel
theorem dX12_mend_23 : decode cX12_mend 23 = .ok (.aload_n 0, 1) := by decide +kernel
theorem dX12_mend_24 : decode cX12_mend 24 = .ok (.getfield 7, 3) := by decide +kernel
theorem dX12_mend_27 : decode cX12_mend 27 = .ok (.iload_n 1, 1) := by decide +kernel
theorem dX12_mend_28 : decode cX12_mend 28 = .ok (.invokestatic 187, 3) := by decide +kernel
theorem dX12_mend_31 : decode cX12_mend 31 = .ok (.iaload, 1) := by decide +kernel
theorem dX12_mend_32 : decode cX12_mend 32 = .ok (.invokevirtual 92, 3) := by decide +kernel
theorem dX12_mend_35 : decode cX12_mend 35 = .ok (.goto 9, 3) := by decide +kernel
theorem dX12_mend_38 : decode cX12_mend 38 = .ok (.aload_n 0, 1) := by decide +kernel
theorem dX12_mend_39 : decode cX12_mend 39 = .ok (.bipush 7, 2) := by decide +kernel
theorem dX12_mend_41 : decode cX12_mend 41 = .ok (.invokevirtual 88, 3) := by decide +kernel
theorem dX12_mend_44 : decode cX12_mend 44 = .ok (.ireturn, 1) := by decide +kernel
def qX12_mend_b44  (post : Int32 → St → Prop)  (s0 : Int32) (u0 : St) : Prop := post s0 u0
set_option maxRecDepth 100000 in
set_option maxHeartbeats 4000000 in
theorem kX12_mend_b44 {C : Cx} {o0 : Nat} {a0 : Nat → Nat} (hC : Fx C cX12_mend 2 RX12) (hR0 : xR C = rm 3) {post : Int32 → St → Prop} (hR : RI C cX12_mend 2 (fun u : St => (wX12 o0 a0 (xy C) u [])) (fun r u => post r u))  {s0 : Int32} {u0 : St} (h : qX12_mend_b44 post s0 u0) : G C 0 0 2 (wX12 o0 a0 (xy C) u0 []) 44 [] [.int s0] := by
  exact hR _ _ _ u0 dX12_mend_44 h
def qX12_mend (x1 : Int32) (u0 : St) (post : Int32 → St → Prop) : Prop := qX12_isStone x1 u0 (fun r_19 u_18 => ((¬ r_19 = 0 → qX12_mends x1 u_18 (fun r_23 u_22 => ((r_23 = 0 → qX12_refuse (7 : Int32) u_22 (fun r_27 u_26 => qX12_mend_b44 post r_27 u_26)) ∧ (¬ r_23 = 0 → qX12_stoneRow x1 (fun r_29 => (vp_in r_29 3072 ∧ qX12_gives (ga u_22 0 (r_29).toNatClampNeg) u_22 (fun r_32 u_31 => qX12_mend_b44 post r_32 u_31))))))) ∧ (r_19 = 0 → qX12_refuse (1 : Int32) u_18 (fun r_35 u_34 => post r_35 u_34))))
set_option maxRecDepth 100000 in
set_option maxHeartbeats 4000000 in
theorem kX12_mend {C : Cx} {o0 : Nat} {a0 : Nat → Nat} (hC : Fx C cX12_mend 2 RX12) (hR0 : xR C = rm 3) {post : Int32 → St → Prop} (hR : RI C cX12_mend 2 (fun u : St => (wX12 o0 a0 (xy C) u [])) (fun r u => post r u)) {x1 : Int32} {u0 : St} (h : qX12_mend x1 u0 post) : G C 0 0 2 (wX12 o0 a0 (xy C) u0 []) 0 [(0, .ref o0), (1, .int x1)] [] := by
  refine g_aload_n (pc := 0) hC 0 dX12_mend_0 rfl rfl ?_
  refine g_iload_n (pc := 1) hC 1 dX12_mend_1 rfl rfl ?_
  refine g_callV_i (pc := 2) (wd := fun (u : St) Y => (wX12 o0 a0 (xy C) u Y)) (F := fun Z => Z) (X := []) (As := [.int x1]) (rest := []) (u := u0) hC (fun _ _ => rfl) (fun _ => rfl) (ctX12_isStone h) wvX12_isStone ml_X12_291 (ci := 10) (q0 := 0) rfl rfl rfl rfl (rmok hR0 rfl) ⟨Nat.zero_le _, Nat.zero_le _⟩ rfl (Nat.le_of_ble_eq_true rfl) dX12_mend_2 (fun r_19 u_18 h => ?_)
  refine g_if_ne (pc := 5) (tgt := 14) hC dX12_mend_5 (by decide) (fun c_21 => ?_) (fun c_21 => ?_)
  · have h := h.1 c_21
    refine g_aload_n (pc := 14) hC 0 dX12_mend_14 rfl rfl ?_
    refine g_iload_n (pc := 15) hC 1 dX12_mend_15 rfl rfl ?_
    refine g_callV_i (pc := 16) (wd := fun (u : St) Y => (wX12 o0 a0 (xy C) u Y)) (F := fun Z => Z) (X := []) (As := [.int x1]) (rest := []) (u := u_18) hC (fun _ _ => rfl) (fun _ => rfl) (ctX12_mends h) wvX12_mends ml_X12_337 (ci := 10) (q0 := 0) rfl rfl rfl rfl (rmok hR0 rfl) ⟨Nat.zero_le _, Nat.zero_le _⟩ rfl (Nat.le_of_ble_eq_true rfl) dX12_mend_16 (fun r_23 u_22 h => ?_)
    refine g_if_eq (pc := 19) (tgt := 38) hC dX12_mend_19 (by decide) (fun c_25 => ?_) (fun c_25 => ?_)
    · have h := h.1 c_25
      refine g_aload_n (pc := 38) hC 0 dX12_mend_38 rfl rfl ?_
      refine g_bipush (pc := 39) (v := 7) hC dX12_mend_39 (by decide) ?_
      refine g_callV_i (pc := 41) (wd := fun (u : St) Y => (wX12 o0 a0 (xy C) u Y)) (F := fun Z => Z) (X := []) (As := [.int (7 : Int32)]) (rest := []) (u := u_22) hC (fun _ _ => rfl) (fun _ => rfl) (ctX12_refuse h) wvX12_refuse ml_X12_88 (ci := 10) (q0 := 0) rfl rfl rfl rfl (rmok hR0 rfl) ⟨Nat.zero_le _, Nat.zero_le _⟩ rfl (Nat.le_of_ble_eq_true rfl) dX12_mend_41 (fun r_27 u_26 h => ?_)
      refine g_sub (lv' := []) [] rfl ?_
      exact kX12_mend_b44 hC hR0 hR  h
    · have h := h.2 c_25
      refine g_aload_n (pc := 22) hC 0 dX12_mend_22 rfl rfl ?_
      refine g_aload_n (pc := 23) hC 0 dX12_mend_23 rfl rfl ?_
      refine getX12_0 (pc := 24) hC (F := fun Z => Z) (X := []) (fun _ => rfl) fl_X12_7 dX12_mend_24 ?_
      refine g_iload_n (pc := 27) hC 1 dX12_mend_27 rfl rfl ?_
      refine g_callS_i (pc := 28) (wd := fun (_ : Unit) Y => Y) (F := fun Z => Z) (X := []) (As := [.int x1]) (rest := [.ref (a0 0), .ref o0]) (u := ()) hC (fun _ _ => rfl) (fun _ => rfl) (ctX12_stoneRow h) wvX12_stoneRow ml_X12_187 rfl (rmok hR0 rfl) ⟨Nat.zero_le _, Nat.zero_le _⟩ rfl (Nat.le_of_ble_eq_true rfl) dX12_mend_28 (fun r_29 u_30 h => ?_)
      refine aldX12_0 (pc := 31) hC (F := fun Z => Z) (X := []) (fun _ => rfl) h.1 dX12_mend_31 ?_
      have h := h.2
      refine g_callV_i (pc := 32) (wd := fun (u : St) Y => (wX12 o0 a0 (xy C) u Y)) (F := fun Z => Z) (X := []) (As := [.int (ga u_22 0 (r_29).toNatClampNeg)]) (rest := []) (u := u_22) hC (fun _ _ => rfl) (fun _ => rfl) (ctX12_gives h) wvX12_gives ml_X12_92 (ci := 10) (q0 := 0) rfl rfl rfl rfl (rmok hR0 rfl) ⟨Nat.zero_le _, Nat.zero_le _⟩ rfl (Nat.le_of_ble_eq_true rfl) dX12_mend_32 (fun r_32 u_31 h => ?_)
      refine g_goto (pc := 35) (tgt := 44) hC dX12_mend_35 (by decide) ?_
      refine g_sub (lv' := []) [] rfl ?_
      exact kX12_mend_b44 hC hR0 hR  h
  · have h := h.2 c_21
    refine g_aload_n (pc := 8) hC 0 dX12_mend_8 rfl rfl ?_
    refine g_iconst (pc := 9) (v := 1) hC dX12_mend_9 (by decide) ?_
    refine g_callV_i (pc := 10) (wd := fun (u : St) Y => (wX12 o0 a0 (xy C) u Y)) (F := fun Z => Z) (X := []) (As := [.int (1 : Int32)]) (rest := []) (u := u_18) hC (fun _ _ => rfl) (fun _ => rfl) (ctX12_refuse h) wvX12_refuse ml_X12_88 (ci := 10) (q0 := 0) rfl rfl rfl rfl (rmok hR0 rfl) ⟨Nat.zero_le _, Nat.zero_le _⟩ rfl (Nat.le_of_ble_eq_true rfl) dX12_mend_10 (fun r_35 u_34 h => ?_)
    exact hR _ _ _ u_34 dX12_mend_13 h
theorem ctX12_mend {l : Launch} {D : va_G} {cy : Nat → ClassId} {kd : Nat → Nat} {o0 : Nat} {a0 : Nat → Nat} {x1 : Int32} {u0 : St} {post : Int32 → St → Prop} (h : qX12_mend x1 u0 post) : CtI l D cy kd yX12_mend cX12_mend 2 3 .int [.ref o0, .int x1] (fun u : St => (wX12 o0 a0 cy u [])) u0 (fun r u => post r u) := met_i (by decide) (Nat.le_of_ble_eq_true rfl) (fun C e1 e2 e3 e4 e5 hC hR => by subst e1 e2 e3 e4; exact kX12_mend hC e5 hR h)
theorem dX12_lend_0 : decode cX12_lend 0 = .ok (.aload_n 0, 1) := by decide +kernel
theorem dX12_lend_1 : decode cX12_lend 1 = .ok (.iload_n 1, 1) := by decide +kernel
theorem dX12_lend_2 : decode cX12_lend 2 = .ok (.invokevirtual 297, 3) := by decide +kernel
theorem dX12_lend_5 : decode cX12_lend 5 = .ok (.ifCond .eq 50, 3) := by decide +kernel
theorem dX12_lend_8 : decode cX12_lend 8 = .ok (.aload_n 0, 1) := by decide +kernel
theorem dX12_lend_9 : decode cX12_lend 9 = .ok (.iload_n 2, 1) := by decide +kernel
theorem dX12_lend_10 : decode cX12_lend 10 = .ok (.invokevirtual 297, 3) := by decide +kernel
theorem dX12_lend_13 : decode cX12_lend 13 = .ok (.ifCond .eq 42, 3) := by decide +kernel
theorem dX12_lend_16 : decode cX12_lend 16 = .ok (.iload_n 1, 1) := by decide +kernel
theorem dX12_lend_17 : decode cX12_lend 17 = .ok (.iload_n 2, 1) := by decide +kernel
theorem dX12_lend_18 : decode cX12_lend 18 = .ok (.if_icmp .eq 37, 3) := by decide +kernel
theorem dX12_lend_21 : decode cX12_lend 21 = .ok (.iload_n 3, 1) := by decide +kernel
theorem dX12_lend_22 : decode cX12_lend 22 = .ok (.i2l, 1) := by decide +kernel
theorem dX12_lend_23 : decode cX12_lend 23 = .ok (.lconst 1, 1) := by decide +kernel
theorem dX12_lend_24 : decode cX12_lend 24 = .ok (.ldc2_w 313, 3) := by decide +kernel
theorem dX12_lend_27 : decode cX12_lend 27 = .ok (.invokestatic 315, 3) := by decide +kernel
theorem dX12_lend_30 : decode cX12_lend 30 = .ok (.ifCond .eq 25, 3) := by decide +kernel
theorem dX12_lend_33 : decode cX12_lend 33 = .ok (.iload 4, 2) := by decide +kernel
theorem dX12_lend_35 : decode cX12_lend 35 = .ok (.i2l, 1) := by decide +kernel
theorem dX12_lend_36 : decode cX12_lend 36 = .ok (.lconst 0, 1) := by decide +kernel
theorem dX12_lend_37 : decode cX12_lend 37 = .ok (.ldc2_w 340, 3) := by decide +kernel
theorem dX12_lend_40 : decode cX12_lend 40 = .ok (.invokestatic 315, 3) := by decide +kernel
theorem dX12_lend_43 : decode cX12_lend 43 = .ok (.ifCond .eq 12, 3) := by decide +kernel
theorem dX12_lend_46 : decode cX12_lend 46 = .ok (.aload_n 0, 1) := by decide +kernel
theorem dX12_lend_47 : decode cX12_lend 47 = .ok (.iload 6, 2) := by decide +kernel
theorem dX12_lend_49 : decode cX12_lend 49 = .ok (.invokevirtual 291, 3) := by decide +kernel
theorem dX12_lend_52 : decode cX12_lend 52 = .ok (.ifCond .ne 9, 3) := by decide +kernel
theorem dX12_lend_55 : decode cX12_lend 55 = .ok (.aload_n 0, 1) := by decide +kernel
theorem dX12_lend_56 : decode cX12_lend 56 = .ok (.iconst 1, 1) := by decide +kernel
theorem dX12_lend_57 : decode cX12_lend 57 = .ok (.invokevirtual 88, 3) := by decide +kernel
theorem dX12_lend_60 : decode cX12_lend 60 = .ok (.ireturn, 1) := by decide +kernel
theorem dX12_lend_61 : decode cX12_lend 61 = .ok (.aload_n 0, 1) := by decide +kernel
theorem dX12_lend_62 : decode cX12_lend 62 = .ok (.getfield 7, 3) := by decide +kernel
theorem dX12_lend_65 : decode cX12_lend 65 = .ok (.iconst 2, 1) := by decide +kernel
theorem dX12_lend_66 : decode cX12_lend 66 = .ok (.iaload, 1) := by decide +kernel
theorem dX12_lend_67 : decode cX12_lend 67 = .ok (.istore 7, 2) := by decide +kernel
theorem dX12_lend_69 : decode cX12_lend 69 = .ok (.iload 7, 2) := by decide +kernel
theorem dX12_lend_71 : decode cX12_lend 71 = .ok (.bipush 7, 2) := by decide +kernel
theorem dX12_lend_73 : decode cX12_lend 73 = .ok (.if_icmp .ne 9, 3) := by decide +kernel
theorem dX12_lend_76 : decode cX12_lend 76 = .ok (.aload_n 0, 1) := by decide +kernel
theorem dX12_lend_77 : decode cX12_lend 77 = .ok (.iconst 4, 1) := by decide +kernel
theorem dX12_lend_78 : decode cX12_lend 78 = .ok (.invokevirtual 88, 3) := by decide +kernel
theorem dX12_lend_81 : decode cX12_lend 81 = .ok (.ireturn, 1) := by decide +kernel
theorem dX12_lend_82 : decode cX12_lend 82 = .ok (.aload_n 0, 1) := by decide +kernel
theorem dX12_lend_83 : decode cX12_lend 83 = .ok (.iload_n 2, 1) := by decide +kernel
theorem dX12_lend_84 : decode cX12_lend 84 = .ok (.iload_n 1, 1) := by decide +kernel
theorem dX12_lend_85 : decode cX12_lend 85 = .ok (.iload_n 3, 1) := by decide +kernel
theorem dX12_lend_86 : decode cX12_lend 86 = .ok (.invokevirtual 322, 3) := by decide +kernel
theorem dX12_lend_89 : decode cX12_lend 89 = .ok (.ifCond .ne 10, 3) := by decide +kernel
theorem dX12_lend_92 : decode cX12_lend 92 = .ok (.aload_n 0, 1) := by decide +kernel
theorem dX12_lend_93 : decode cX12_lend 93 = .ok (.bipush 7, 2) := by decide +kernel
theorem dX12_lend_95 : decode cX12_lend 95 = .ok (.invokevirtual 88, 3) := by decide +kernel
theorem dX12_lend_98 : decode cX12_lend 98 = .ok (.ireturn, 1) := by decide +kernel
theorem dX12_lend_99 : decode cX12_lend 99 = .ok (.iload 7, 2) := by decide +kernel
theorem dX12_lend_101 : decode cX12_lend 101 = .ok (.invokestatic 211, 3) := by decide +kernel
theorem dX12_lend_104 : decode cX12_lend 104 = .ok (.istore 8, 2) := by decide +kernel
theorem dX12_lend_106 : decode cX12_lend 106 = .ok (.aload_n 0, 1) := by decide +kernel
theorem dX12_lend_107 : decode cX12_lend 107 = .ok (.getfield 7, 3) := by decide +kernel
theorem dX12_lend_110 : decode cX12_lend 110 = .ok (.iconst 2, 1) := by decide +kernel
theorem dX12_lend_111 : decode cX12_lend 111 = .ok (.dup2, 1) := by decide +kernel
theorem dX12_lend_112 : decode cX12_lend 112 = .ok (.iaload, 1) := by decide +kernel
theorem dX12_lend_113 : decode cX12_lend 113 = .ok (.iconst 1, 1) := by decide +kernel
theorem dX12_lend_114 : decode cX12_lend 114 = .ok (.iadd, 1) := by decide +kernel
theorem dX12_lend_115 : decode cX12_lend 115 = .ok (.iastore, 1) := by decide +kernel
theorem dX12_lend_116 : decode cX12_lend 116 = .ok (.aload_n 0, 1) := by decide +kernel
theorem dX12_lend_117 : decode cX12_lend 117 = .ok (.getfield 7, 3) := by decide +kernel
theorem dX12_lend_120 : decode cX12_lend 120 = .ok (.iload 8, 2) := by decide +kernel
theorem dX12_lend_122 : decode cX12_lend 122 = .ok (.iload_n 1, 1) := by decide +kernel
theorem dX12_lend_123 : decode cX12_lend 123 = .ok (.iastore, 1) := by decide +kernel
theorem dX12_lend_124 : decode cX12_lend 124 = .ok (.aload_n 0, 1) := by decide +kernel
theorem dX12_lend_125 : decode cX12_lend 125 = .ok (.getfield 7, 3) := by decide +kernel
theorem dX12_lend_128 : decode cX12_lend 128 = .ok (.iload 8, 2) := by decide +kernel
theorem dX12_lend_130 : decode cX12_lend 130 = .ok (.iconst 1, 1) := by decide +kernel
theorem dX12_lend_131 : decode cX12_lend 131 = .ok (.iadd, 1) := by decide +kernel
theorem dX12_lend_132 : decode cX12_lend 132 = .ok (.iload_n 2, 1) := by decide +kernel
theorem dX12_lend_133 : decode cX12_lend 133 = .ok (.iastore, 1) := by decide +kernel
theorem dX12_lend_134 : decode cX12_lend 134 = .ok (.aload_n 0, 1) := by decide +kernel
theorem dX12_lend_135 : decode cX12_lend 135 = .ok (.getfield 7, 3) := by decide +kernel
theorem dX12_lend_138 : decode cX12_lend 138 = .ok (.iload 8, 2) := by decide +kernel
theorem dX12_lend_140 : decode cX12_lend 140 = .ok (.iconst 2, 1) := by decide +kernel
theorem dX12_lend_141 : decode cX12_lend 141 = .ok (.iadd, 1) := by decide +kernel
theorem dX12_lend_142 : decode cX12_lend 142 = .ok (.iload_n 3, 1) := by decide +kernel
theorem dX12_lend_143 : decode cX12_lend 143 = .ok (.iastore, 1) := by decide +kernel
theorem dX12_lend_144 : decode cX12_lend 144 = .ok (.aload_n 0, 1) := by decide +kernel
theorem dX12_lend_145 : decode cX12_lend 145 = .ok (.getfield 7, 3) := by decide +kernel
theorem dX12_lend_148 : decode cX12_lend 148 = .ok (.iload 8, 2) := by decide +kernel
theorem dX12_lend_150 : decode cX12_lend 150 = .ok (.iconst 3, 1) := by decide +kernel
theorem dX12_lend_151 : decode cX12_lend 151 = .ok (.iadd, 1) := by decide +kernel
theorem dX12_lend_152 : decode cX12_lend 152 = .ok (.iload 4, 2) := by decide +kernel
theorem dX12_lend_154 : decode cX12_lend 154 = .ok (.iastore, 1) := by decide +kernel
theorem dX12_lend_155 : decode cX12_lend 155 = .ok (.aload_n 0, 1) := by decide +kernel
theorem dX12_lend_156 : decode cX12_lend 156 = .ok (.getfield 7, 3) := by decide +kernel
theorem dX12_lend_159 : decode cX12_lend 159 = .ok (.iload 8, 2) := by decide +kernel
theorem dX12_lend_161 : decode cX12_lend 161 = .ok (.iconst 4, 1) := by decide +kernel
theorem dX12_lend_162 : decode cX12_lend 162 = .ok (.iadd, 1) := by decide +kernel
theorem dX12_lend_163 : decode cX12_lend 163 = .ok (.iload 5, 2) := by decide +kernel
theorem dX12_lend_165 : decode cX12_lend 165 = .ok (.ifCond .eq 7, 3) := by decide +kernel
theorem dX12_lend_168 : decode cX12_lend 168 = .ok (.iconst 1, 1) := by decide +kernel
theorem dX12_lend_169 : decode cX12_lend 169 = .ok (.goto 4, 3) := by decide +kernel
theorem dX12_lend_172 : decode cX12_lend 172 = .ok (.iconst 0, 1) := by decide +kernel
theorem dX12_lend_173 : decode cX12_lend 173 = .ok (.iastore, 1) := by decide +kernel
theorem dX12_lend_174 : decode cX12_lend 174 = .ok (.aload_n 0, 1) := by decide +kernel
theorem dX12_lend_175 : decode cX12_lend 175 = .ok (.getfield 7, 3) := by decide +kernel
theorem dX12_lend_178 : decode cX12_lend 178 = .ok (.iload 8, 2) := by decide +kernel
theorem dX12_lend_180 : decode cX12_lend 180 = .ok (.iconst 5, 1) := by decide +kernel
theorem dX12_lend_181 : decode cX12_lend 181 = .ok (.iadd, 1) := by decide +kernel
theorem dX12_lend_182 : decode cX12_lend 182 = .ok (.iload 6, 2) := by decide +kernel
theorem dX12_lend_184 : decode cX12_lend 184 = .ok (.iastore, 1) := by decide +kernel
theorem dX12_lend_185 : decode cX12_lend 185 = .ok (.aload_n 0, 1) := by decide +kernel
theorem dX12_lend_186 : decode cX12_lend 186 = .ok (.getfield 7, 3) := by decide +kernel
theorem dX12_lend_189 : decode cX12_lend 189 = .ok (.iload 8, 2) := by decide +kernel
theorem dX12_lend_191 : decode cX12_lend 191 = .ok (.bipush 6, 2) := by decide +kernel
theorem dX12_lend_193 : decode cX12_lend 193 = .ok (.iadd, 1) := by decide +kernel
theorem dX12_lend_194 : decode cX12_lend 194 = .ok (.iconst 0, 1) := by decide +kernel
theorem dX12_lend_195 : decode cX12_lend 195 = .ok (.iastore, 1) := by decide +kernel
theorem dX12_lend_196 : decode cX12_lend 196 = .ok (.aload_n 0, 1) := by decide +kernel
theorem dX12_lend_197 : decode cX12_lend 197 = .ok (.iload 7, 2) := by decide +kernel
theorem dX12_lend_199 : decode cX12_lend 199 = .ok (.invokevirtual 92, 3) := by decide +kernel
theorem dX12_lend_202 : decode cX12_lend 202 = .ok (.ireturn, 1) := by decide +kernel
def qX12_lend_b55  (post : Int32 → St → Prop)  (u0 : St) : Prop := qX12_refuse (1 : Int32) u0 (fun r_40 u_39 => post r_40 u_39)
set_option maxRecDepth 100000 in
set_option maxHeartbeats 4000000 in
theorem kX12_lend_b55 {C : Cx} {o0 : Nat} {a0 : Nat → Nat} (hC : Fx C cX12_lend 9 RX12) (hR0 : xR C = rm 3) {post : Int32 → St → Prop} (hR : RI C cX12_lend 9 (fun u : St => (wX12 o0 a0 (xy C) u [])) (fun r u => post r u))  {u0 : St} (h : qX12_lend_b55 post u0) : G C 0 0 9 (wX12 o0 a0 (xy C) u0 []) 55 [(0, .ref o0)] [] := by
  refine g_aload_n (pc := 55) hC 0 dX12_lend_55 rfl rfl ?_
  refine g_iconst (pc := 56) (v := 1) hC dX12_lend_56 (by decide) ?_
  refine g_callV_i (pc := 57) (wd := fun (u : St) Y => (wX12 o0 a0 (xy C) u Y)) (F := fun Z => Z) (X := []) (As := [.int (1 : Int32)]) (rest := []) (u := u0) hC (fun _ _ => rfl) (fun _ => rfl) (ctX12_refuse h) wvX12_refuse ml_X12_88 (ci := 10) (q0 := 0) rfl rfl rfl rfl (rmok hR0 rfl) ⟨Nat.zero_le _, Nat.zero_le _⟩ rfl (Nat.le_of_ble_eq_true rfl) dX12_lend_57 (fun r_40 u_39 h => ?_)
  exact hR _ _ _ u_39 dX12_lend_60 h
def qX12_lend_b173  (post : Int32 → St → Prop)  (x6 : Int32) (x7 : Int32) (x8 : Int32) (s0 : Int32) (s1 : Int32) (u0 : St) : Prop := (vp_in s1 3072 ∧ ∀ u_42 : St, u_42 = (sw u0 0 (upd (ga u0 0) (s1).toNatClampNeg s0)) → (vp_in (x8 + (5 : Int32)) 3072 ∧ ∀ u_43 : St, u_43 = (sw u_42 0 (upd (ga u_42 0) ((x8 + (5 : Int32))).toNatClampNeg x6)) → (vp_in (x8 + (6 : Int32)) 3072 ∧ ∀ u_44 : St, u_44 = (sw u_43 0 (upd (ga u_43 0) ((x8 + (6 : Int32))).toNatClampNeg (0 : Int32))) → qX12_gives x7 u_44 (fun r_46 u_45 => post r_46 u_45))))
set_option maxRecDepth 100000 in
set_option maxHeartbeats 4000000 in
theorem kX12_lend_b173 {C : Cx} {o0 : Nat} {a0 : Nat → Nat} (hC : Fx C cX12_lend 9 RX12) (hR0 : xR C = rm 3) {post : Int32 → St → Prop} (hR : RI C cX12_lend 9 (fun u : St => (wX12 o0 a0 (xy C) u [])) (fun r u => post r u))  {x6 : Int32} {x7 : Int32} {x8 : Int32} {s0 : Int32} {s1 : Int32} {u0 : St} (h : qX12_lend_b173 post x6 x7 x8 s0 s1 u0) : G C 0 0 9 (wX12 o0 a0 (xy C) u0 []) 173 [(0, .ref o0), (6, .int x6), (7, .int x7), (8, .int x8)] [.int s0, .int s1, .ref (a0 0)] := by
  refine astX12_0 (pc := 173) hC (F := fun Z => Z) (X := []) (fun _ => rfl) h.1 dX12_lend_173 ?_
  have h := h.2
  refine g_st (w := fun z => (wX12 o0 a0 (xy C) z [])) (u := (sw u0 0 (upd (ga u0 0) (s1).toNatClampNeg s0))) (fun u_42 eu_42 => ?_)
  have h := h u_42 eu_42
  refine g_aload_n (pc := 174) hC 0 dX12_lend_174 rfl rfl ?_
  refine getX12_0 (pc := 175) hC (F := fun Z => Z) (X := []) (fun _ => rfl) fl_X12_7 dX12_lend_175 ?_
  refine g_iload (pc := 178) hC 3 dX12_lend_178 rfl ?_
  refine g_iconst (pc := 180) (v := 5) hC dX12_lend_180 (by decide) ?_
  refine g_iadd (pc := 181) hC dX12_lend_181 ?_
  refine g_iload (pc := 182) hC 1 dX12_lend_182 rfl ?_
  refine astX12_0 (pc := 184) hC (F := fun Z => Z) (X := []) (fun _ => rfl) h.1 dX12_lend_184 ?_
  have h := h.2
  refine g_st (w := fun z => (wX12 o0 a0 (xy C) z [])) (u := (sw u_42 0 (upd (ga u_42 0) ((x8 + (5 : Int32))).toNatClampNeg x6))) (fun u_43 eu_43 => ?_)
  have h := h u_43 eu_43
  refine g_aload_n (pc := 185) hC 0 dX12_lend_185 rfl rfl ?_
  refine getX12_0 (pc := 186) hC (F := fun Z => Z) (X := []) (fun _ => rfl) fl_X12_7 dX12_lend_186 ?_
  refine g_iload (pc := 189) hC 3 dX12_lend_189 rfl ?_
  refine g_bipush (pc := 191) (v := 6) hC dX12_lend_191 (by decide) ?_
  refine g_iadd (pc := 193) hC dX12_lend_193 ?_
  refine g_iconst (pc := 194) (v := 0) hC dX12_lend_194 (by decide) ?_
  refine astX12_0 (pc := 195) hC (F := fun Z => Z) (X := []) (fun _ => rfl) h.1 dX12_lend_195 ?_
  have h := h.2
  refine g_st (w := fun z => (wX12 o0 a0 (xy C) z [])) (u := (sw u_43 0 (upd (ga u_43 0) ((x8 + (6 : Int32))).toNatClampNeg (0 : Int32)))) (fun u_44 eu_44 => ?_)
  have h := h u_44 eu_44
  refine g_aload_n (pc := 196) hC 0 dX12_lend_196 rfl rfl ?_
  refine g_iload (pc := 197) hC 2 dX12_lend_197 rfl ?_
  refine g_callV_i (pc := 199) (wd := fun (u : St) Y => (wX12 o0 a0 (xy C) u Y)) (F := fun Z => Z) (X := []) (As := [.int x7]) (rest := []) (u := u_44) hC (fun _ _ => rfl) (fun _ => rfl) (ctX12_gives h) wvX12_gives ml_X12_92 (ci := 10) (q0 := 0) rfl rfl rfl rfl (rmok hR0 rfl) ⟨Nat.zero_le _, Nat.zero_le _⟩ rfl (Nat.le_of_ble_eq_true rfl) dX12_lend_199 (fun r_46 u_45 h => ?_)
  exact hR _ _ _ u_45 dX12_lend_202 h
def qX12_lend (x1 : Int32) (x2 : Int32) (x3 : Int32) (x4 : Int32) (x5 : Int32) (x6 : Int32) (u0 : St) (post : Int32 → St → Prop) : Prop := qX12_isPerson x1 u0 (fun r_49 u_48 => ((r_49 = 0 → qX12_lend_b55 post u_48) ∧ (¬ r_49 = 0 → qX12_isPerson x2 u_48 (fun r_53 u_52 => ((r_53 = 0 → qX12_lend_b55 post u_52) ∧ (¬ r_53 = 0 → ((x1 = x2 → qX12_lend_b55 post u_52) ∧ (¬ x1 = x2 → qX12_isFrom (x3).toInt64 (1 : Int64) (99 : Int64) (fun r_57 => ((r_57 = 0 → qX12_lend_b55 post u_52) ∧ (¬ r_57 = 0 → qX12_isFrom (x4).toInt64 (0 : Int64) (9 : Int64) (fun r_60 => ((r_60 = 0 → qX12_lend_b55 post u_52) ∧ (¬ r_60 = 0 → qX12_isStone x6 u_52 (fun r_64 u_63 => ((¬ r_64 = 0 → ∀ x7_67 : Int32, x7_67 = (ga u_63 0 ((2 : Int32)).toNatClampNeg) → ((¬ x7_67 = (7 : Int32) → qX12_moves x2 x1 x3 u_63 (fun r_70 u_69 => ((¬ r_70 = 0 → qX12_debtRow x7_67 (fun r_73 => ∀ u_75 : St, u_75 = (sw u_69 0 (upd (ga u_69 0) ((2 : Int32)).toNatClampNeg ((ga u_69 0 ((2 : Int32)).toNatClampNeg) + (1 : Int32)))) → (vp_in r_73 3072 ∧ ∀ u_76 : St, u_76 = (sw u_75 0 (upd (ga u_75 0) (r_73).toNatClampNeg x1)) → (vp_in (r_73 + (1 : Int32)) 3072 ∧ ∀ u_77 : St, u_77 = (sw u_76 0 (upd (ga u_76 0) ((r_73 + (1 : Int32))).toNatClampNeg x2)) → (vp_in (r_73 + (2 : Int32)) 3072 ∧ ∀ u_78 : St, u_78 = (sw u_77 0 (upd (ga u_77 0) ((r_73 + (2 : Int32))).toNatClampNeg x3)) → (vp_in (r_73 + (3 : Int32)) 3072 ∧ ∀ u_79 : St, u_79 = (sw u_78 0 (upd (ga u_78 0) ((r_73 + (3 : Int32))).toNatClampNeg x4)) → ((x5 = 0 → qX12_lend_b173 post x6 x7_67 r_73 (0 : Int32) (r_73 + (4 : Int32)) u_79) ∧ (¬ x5 = 0 → qX12_lend_b173 post x6 x7_67 r_73 (1 : Int32) (r_73 + (4 : Int32)) u_79)))))))) ∧ (r_70 = 0 → qX12_refuse (7 : Int32) u_69 (fun r_82 u_81 => post r_82 u_81))))) ∧ (x7_67 = (7 : Int32) → qX12_refuse (4 : Int32) u_63 (fun r_85 u_84 => post r_85 u_84)))) ∧ (r_64 = 0 → qX12_lend_b55 post u_63)))))))))))))))))
set_option maxRecDepth 100000 in
set_option maxHeartbeats 4000000 in
theorem kX12_lend {C : Cx} {o0 : Nat} {a0 : Nat → Nat} (hC : Fx C cX12_lend 9 RX12) (hR0 : xR C = rm 3) {post : Int32 → St → Prop} (hR : RI C cX12_lend 9 (fun u : St => (wX12 o0 a0 (xy C) u [])) (fun r u => post r u)) {x1 : Int32} {x2 : Int32} {x3 : Int32} {x4 : Int32} {x5 : Int32} {x6 : Int32} {u0 : St} (h : qX12_lend x1 x2 x3 x4 x5 x6 u0 post) : G C 0 0 9 (wX12 o0 a0 (xy C) u0 []) 0 [(0, .ref o0), (1, .int x1), (2, .int x2), (3, .int x3), (4, .int x4), (5, .int x5), (6, .int x6)] [] := by
  refine g_aload_n (pc := 0) hC 0 dX12_lend_0 rfl rfl ?_
  refine g_iload_n (pc := 1) hC 1 dX12_lend_1 rfl rfl ?_
  refine g_callV_i (pc := 2) (wd := fun (u : St) Y => (wX12 o0 a0 (xy C) u Y)) (F := fun Z => Z) (X := []) (As := [.int x1]) (rest := []) (u := u0) hC (fun _ _ => rfl) (fun _ => rfl) (ctX12_isPerson h) wvX12_isPerson ml_X12_297 (ci := 10) (q0 := 0) rfl rfl rfl rfl (rmok hR0 rfl) ⟨Nat.zero_le _, Nat.zero_le _⟩ rfl (Nat.le_of_ble_eq_true rfl) dX12_lend_2 (fun r_49 u_48 h => ?_)
  refine g_if_eq (pc := 5) (tgt := 55) hC dX12_lend_5 (by decide) (fun c_51 => ?_) (fun c_51 => ?_)
  · have h := h.1 c_51
    refine g_sub (lv' := [(0, .ref o0)]) [0] rfl ?_
    exact kX12_lend_b55 hC hR0 hR  h
  · have h := h.2 c_51
    refine g_aload_n (pc := 8) hC 0 dX12_lend_8 rfl rfl ?_
    refine g_iload_n (pc := 9) hC 2 dX12_lend_9 rfl rfl ?_
    refine g_callV_i (pc := 10) (wd := fun (u : St) Y => (wX12 o0 a0 (xy C) u Y)) (F := fun Z => Z) (X := []) (As := [.int x2]) (rest := []) (u := u_48) hC (fun _ _ => rfl) (fun _ => rfl) (ctX12_isPerson h) wvX12_isPerson ml_X12_297 (ci := 10) (q0 := 0) rfl rfl rfl rfl (rmok hR0 rfl) ⟨Nat.zero_le _, Nat.zero_le _⟩ rfl (Nat.le_of_ble_eq_true rfl) dX12_lend_10 (fun r_53 u_52 h => ?_)
    refine g_if_eq (pc := 13) (tgt := 55) hC dX12_lend_13 (by decide) (fun c_55 => ?_) (fun c_55 => ?_)
    · have h := h.1 c_55
      refine g_sub (lv' := [(0, .ref o0)]) [0] rfl ?_
      exact kX12_lend_b55 hC hR0 hR  h
    · have h := h.2 c_55
      refine g_iload_n (pc := 16) hC 1 dX12_lend_16 rfl rfl ?_
      refine g_iload_n (pc := 17) hC 2 dX12_lend_17 rfl rfl ?_
      refine g_icmp_eq (pc := 18) (tgt := 55) hC dX12_lend_18 (by decide) (fun c_56 => ?_) (fun c_56 => ?_)
      · have h := h.1 c_56
        refine g_sub (lv' := [(0, .ref o0)]) [0] rfl ?_
        exact kX12_lend_b55 hC hR0 hR  h
      · have h := h.2 c_56
        refine g_iload_n (pc := 21) hC 3 dX12_lend_21 rfl rfl ?_
        refine g_i2l (pc := 22) hC dX12_lend_22 ?_
        refine g_lconst (pc := 23) (v := 1) hC dX12_lend_23 (by decide) ?_
        refine g_ldc2 (pc := 24) hC cn_X12_313 dX12_lend_24 ?_
        refine g_callS_i (pc := 27) (wd := fun (_ : Unit) Y => Y) (F := fun Z => Z) (X := []) (As := [.long (x3).toInt64, .long (1 : Int64), .long (99 : Int64)]) (rest := []) (u := ()) hC (fun _ _ => rfl) (fun _ => rfl) (ctX12_isFrom h) wvX12_isFrom ml_X12_315 rfl (rmok hR0 rfl) ⟨Nat.zero_le _, Nat.zero_le _⟩ rfl (Nat.le_of_ble_eq_true rfl) dX12_lend_27 (fun r_57 u_58 h => ?_)
        refine g_if_eq (pc := 30) (tgt := 55) hC dX12_lend_30 (by decide) (fun c_59 => ?_) (fun c_59 => ?_)
        · have h := h.1 c_59
          refine g_sub (lv' := [(0, .ref o0)]) [0] rfl ?_
          exact kX12_lend_b55 hC hR0 hR  h
        · have h := h.2 c_59
          refine g_iload (pc := 33) hC 4 dX12_lend_33 rfl ?_
          refine g_i2l (pc := 35) hC dX12_lend_35 ?_
          refine g_lconst (pc := 36) (v := 0) hC dX12_lend_36 (by decide) ?_
          refine g_ldc2 (pc := 37) hC cn_X12_340 dX12_lend_37 ?_
          refine g_callS_i (pc := 40) (wd := fun (_ : Unit) Y => Y) (F := fun Z => Z) (X := []) (As := [.long (x4).toInt64, .long (0 : Int64), .long (9 : Int64)]) (rest := []) (u := ()) hC (fun _ _ => rfl) (fun _ => rfl) (ctX12_isFrom h) wvX12_isFrom ml_X12_315 rfl (rmok hR0 rfl) ⟨Nat.zero_le _, Nat.zero_le _⟩ rfl (Nat.le_of_ble_eq_true rfl) dX12_lend_40 (fun r_60 u_61 h => ?_)
          refine g_if_eq (pc := 43) (tgt := 55) hC dX12_lend_43 (by decide) (fun c_62 => ?_) (fun c_62 => ?_)
          · have h := h.1 c_62
            refine g_sub (lv' := [(0, .ref o0)]) [0] rfl ?_
            exact kX12_lend_b55 hC hR0 hR  h
          · have h := h.2 c_62
            refine g_aload_n (pc := 46) hC 0 dX12_lend_46 rfl rfl ?_
            refine g_iload (pc := 47) hC 6 dX12_lend_47 rfl ?_
            refine g_callV_i (pc := 49) (wd := fun (u : St) Y => (wX12 o0 a0 (xy C) u Y)) (F := fun Z => Z) (X := []) (As := [.int x6]) (rest := []) (u := u_52) hC (fun _ _ => rfl) (fun _ => rfl) (ctX12_isStone h) wvX12_isStone ml_X12_291 (ci := 10) (q0 := 0) rfl rfl rfl rfl (rmok hR0 rfl) ⟨Nat.zero_le _, Nat.zero_le _⟩ rfl (Nat.le_of_ble_eq_true rfl) dX12_lend_49 (fun r_64 u_63 h => ?_)
            refine g_if_ne (pc := 52) (tgt := 61) hC dX12_lend_52 (by decide) (fun c_66 => ?_) (fun c_66 => ?_)
            · have h := h.1 c_66
              refine g_aload_n (pc := 61) hC 0 dX12_lend_61 rfl rfl ?_
              refine getX12_0 (pc := 62) hC (F := fun Z => Z) (X := []) (fun _ => rfl) fl_X12_7 dX12_lend_62 ?_
              refine g_iconst (pc := 65) (v := 2) hC dX12_lend_65 (by decide) ?_
              refine aldX12_0 (pc := 66) hC (F := fun Z => Z) (X := []) (fun _ => rfl) (by unfold vp_in; decide) dX12_lend_66 ?_
              refine g_topi (fun x7_67 ex7_67 => ?_)
              have h := h x7_67 ex7_67
              refine g_istore (pc := 67) (lv' := [(7, .int x7_67), (0, .ref o0), (1, .int x1), (2, .int x2), (3, .int x3), (4, .int x4), (5, .int x5), (6, .int x6)]) hC dX12_lend_67 (Nat.le_of_ble_eq_true rfl) rfl ?_
              refine g_iload (pc := 69) hC 0 dX12_lend_69 rfl ?_
              refine g_bipush (pc := 71) (v := 7) hC dX12_lend_71 (by decide) ?_
              refine g_icmp_ne (pc := 73) (tgt := 82) hC dX12_lend_73 (by decide) (fun c_68 => ?_) (fun c_68 => ?_)
              · have h := h.1 c_68
                refine g_aload_n (pc := 82) hC 1 dX12_lend_82 rfl rfl ?_
                refine g_iload_n (pc := 83) hC 3 dX12_lend_83 rfl rfl ?_
                refine g_iload_n (pc := 84) hC 2 dX12_lend_84 rfl rfl ?_
                refine g_iload_n (pc := 85) hC 4 dX12_lend_85 rfl rfl ?_
                refine g_callV_i (pc := 86) (wd := fun (u : St) Y => (wX12 o0 a0 (xy C) u Y)) (F := fun Z => Z) (X := []) (As := [.int x2, .int x1, .int x3]) (rest := []) (u := u_63) hC (fun _ _ => rfl) (fun _ => rfl) (ctX12_moves h) wvX12_moves ml_X12_322 (ci := 10) (q0 := 0) rfl rfl rfl rfl (rmok hR0 rfl) ⟨Nat.zero_le _, Nat.zero_le _⟩ rfl (Nat.le_of_ble_eq_true rfl) dX12_lend_86 (fun r_70 u_69 h => ?_)
                refine g_if_ne (pc := 89) (tgt := 99) hC dX12_lend_89 (by decide) (fun c_72 => ?_) (fun c_72 => ?_)
                · have h := h.1 c_72
                  refine g_iload (pc := 99) hC 0 dX12_lend_99 rfl ?_
                  refine g_callS_i (pc := 101) (wd := fun (_ : Unit) Y => Y) (F := fun Z => Z) (X := []) (As := [.int x7_67]) (rest := []) (u := ()) hC (fun _ _ => rfl) (fun _ => rfl) (ctX12_debtRow h) wvX12_debtRow ml_X12_211 rfl (rmok hR0 rfl) ⟨Nat.zero_le _, Nat.zero_le _⟩ rfl (Nat.le_of_ble_eq_true rfl) dX12_lend_101 (fun r_73 u_74 h => ?_)
                  refine g_istore (pc := 104) (lv' := [(8, .int r_73), (7, .int x7_67), (0, .ref o0), (1, .int x1), (2, .int x2), (3, .int x3), (4, .int x4), (5, .int x5), (6, .int x6)]) hC dX12_lend_104 (Nat.le_of_ble_eq_true rfl) rfl ?_
                  refine g_aload_n (pc := 106) hC 2 dX12_lend_106 rfl rfl ?_
                  refine getX12_0 (pc := 107) hC (F := fun Z => Z) (X := []) (fun _ => rfl) fl_X12_7 dX12_lend_107 ?_
                  refine g_iconst (pc := 110) (v := 2) hC dX12_lend_110 (by decide) ?_
                  refine g_dup2 (pc := 111) hC dX12_lend_111 rfl rfl ?_
                  refine aldX12_0 (pc := 112) hC (F := fun Z => Z) (X := []) (fun _ => rfl) (by unfold vp_in; decide) dX12_lend_112 ?_
                  refine g_iconst (pc := 113) (v := 1) hC dX12_lend_113 (by decide) ?_
                  refine g_iadd (pc := 114) hC dX12_lend_114 ?_
                  refine astX12_0 (pc := 115) hC (F := fun Z => Z) (X := []) (fun _ => rfl) (by unfold vp_in; decide) dX12_lend_115 ?_
                  refine g_st (w := fun z => (wX12 o0 a0 (xy C) z [])) (u := (sw u_69 0 (upd (ga u_69 0) ((2 : Int32)).toNatClampNeg ((ga u_69 0 ((2 : Int32)).toNatClampNeg) + (1 : Int32))))) (fun u_75 eu_75 => ?_)
                  have h := h u_75 eu_75
                  refine g_aload_n (pc := 116) hC 2 dX12_lend_116 rfl rfl ?_
                  refine getX12_0 (pc := 117) hC (F := fun Z => Z) (X := []) (fun _ => rfl) fl_X12_7 dX12_lend_117 ?_
                  refine g_iload (pc := 120) hC 0 dX12_lend_120 rfl ?_
                  refine g_iload_n (pc := 122) hC 3 dX12_lend_122 rfl rfl ?_
                  refine astX12_0 (pc := 123) hC (F := fun Z => Z) (X := []) (fun _ => rfl) h.1 dX12_lend_123 ?_
                  have h := h.2
                  refine g_st (w := fun z => (wX12 o0 a0 (xy C) z [])) (u := (sw u_75 0 (upd (ga u_75 0) (r_73).toNatClampNeg x1))) (fun u_76 eu_76 => ?_)
                  have h := h u_76 eu_76
                  refine g_aload_n (pc := 124) hC 2 dX12_lend_124 rfl rfl ?_
                  refine getX12_0 (pc := 125) hC (F := fun Z => Z) (X := []) (fun _ => rfl) fl_X12_7 dX12_lend_125 ?_
                  refine g_iload (pc := 128) hC 0 dX12_lend_128 rfl ?_
                  refine g_iconst (pc := 130) (v := 1) hC dX12_lend_130 (by decide) ?_
                  refine g_iadd (pc := 131) hC dX12_lend_131 ?_
                  refine g_iload_n (pc := 132) hC 4 dX12_lend_132 rfl rfl ?_
                  refine astX12_0 (pc := 133) hC (F := fun Z => Z) (X := []) (fun _ => rfl) h.1 dX12_lend_133 ?_
                  have h := h.2
                  refine g_st (w := fun z => (wX12 o0 a0 (xy C) z [])) (u := (sw u_76 0 (upd (ga u_76 0) ((r_73 + (1 : Int32))).toNatClampNeg x2))) (fun u_77 eu_77 => ?_)
                  have h := h u_77 eu_77
                  refine g_aload_n (pc := 134) hC 2 dX12_lend_134 rfl rfl ?_
                  refine getX12_0 (pc := 135) hC (F := fun Z => Z) (X := []) (fun _ => rfl) fl_X12_7 dX12_lend_135 ?_
                  refine g_iload (pc := 138) hC 0 dX12_lend_138 rfl ?_
                  refine g_iconst (pc := 140) (v := 2) hC dX12_lend_140 (by decide) ?_
                  refine g_iadd (pc := 141) hC dX12_lend_141 ?_
                  refine g_iload_n (pc := 142) hC 5 dX12_lend_142 rfl rfl ?_
                  refine astX12_0 (pc := 143) hC (F := fun Z => Z) (X := []) (fun _ => rfl) h.1 dX12_lend_143 ?_
                  have h := h.2
                  refine g_st (w := fun z => (wX12 o0 a0 (xy C) z [])) (u := (sw u_77 0 (upd (ga u_77 0) ((r_73 + (2 : Int32))).toNatClampNeg x3))) (fun u_78 eu_78 => ?_)
                  have h := h u_78 eu_78
                  refine g_aload_n (pc := 144) hC 2 dX12_lend_144 rfl rfl ?_
                  refine getX12_0 (pc := 145) hC (F := fun Z => Z) (X := []) (fun _ => rfl) fl_X12_7 dX12_lend_145 ?_
                  refine g_iload (pc := 148) hC 0 dX12_lend_148 rfl ?_
                  refine g_iconst (pc := 150) (v := 3) hC dX12_lend_150 (by decide) ?_
                  refine g_iadd (pc := 151) hC dX12_lend_151 ?_
                  refine g_iload (pc := 152) hC 6 dX12_lend_152 rfl ?_
                  refine astX12_0 (pc := 154) hC (F := fun Z => Z) (X := []) (fun _ => rfl) h.1 dX12_lend_154 ?_
                  have h := h.2
                  refine g_st (w := fun z => (wX12 o0 a0 (xy C) z [])) (u := (sw u_78 0 (upd (ga u_78 0) ((r_73 + (3 : Int32))).toNatClampNeg x4))) (fun u_79 eu_79 => ?_)
                  have h := h u_79 eu_79
                  refine g_aload_n (pc := 155) hC 2 dX12_lend_155 rfl rfl ?_
                  refine getX12_0 (pc := 156) hC (F := fun Z => Z) (X := []) (fun _ => rfl) fl_X12_7 dX12_lend_156 ?_
                  refine g_iload (pc := 159) hC 0 dX12_lend_159 rfl ?_
                  refine g_iconst (pc := 161) (v := 4) hC dX12_lend_161 (by decide) ?_
                  refine g_iadd (pc := 162) hC dX12_lend_162 ?_
                  refine g_iload (pc := 163) hC 7 dX12_lend_163 rfl ?_
                  refine g_if_eq (pc := 165) (tgt := 172) hC dX12_lend_165 (by decide) (fun c_80 => ?_) (fun c_80 => ?_)
                  · have h := h.1 c_80
                    refine g_iconst (pc := 172) (v := 0) hC dX12_lend_172 (by decide) ?_
                    refine g_sub (lv' := [(0, .ref o0), (6, .int x6), (7, .int x7_67), (8, .int r_73)]) [2, 8, 1, 0] rfl ?_
                    exact kX12_lend_b173 hC hR0 hR  h
                  · have h := h.2 c_80
                    refine g_iconst (pc := 168) (v := 1) hC dX12_lend_168 (by decide) ?_
                    refine g_goto (pc := 169) (tgt := 173) hC dX12_lend_169 (by decide) ?_
                    refine g_sub (lv' := [(0, .ref o0), (6, .int x6), (7, .int x7_67), (8, .int r_73)]) [2, 8, 1, 0] rfl ?_
                    exact kX12_lend_b173 hC hR0 hR  h
                · have h := h.2 c_72
                  refine g_aload_n (pc := 92) hC 1 dX12_lend_92 rfl rfl ?_
                  refine g_bipush (pc := 93) (v := 7) hC dX12_lend_93 (by decide) ?_
                  refine g_callV_i (pc := 95) (wd := fun (u : St) Y => (wX12 o0 a0 (xy C) u Y)) (F := fun Z => Z) (X := []) (As := [.int (7 : Int32)]) (rest := []) (u := u_69) hC (fun _ _ => rfl) (fun _ => rfl) (ctX12_refuse h) wvX12_refuse ml_X12_88 (ci := 10) (q0 := 0) rfl rfl rfl rfl (rmok hR0 rfl) ⟨Nat.zero_le _, Nat.zero_le _⟩ rfl (Nat.le_of_ble_eq_true rfl) dX12_lend_95 (fun r_82 u_81 h => ?_)
                  exact hR _ _ _ u_81 dX12_lend_98 h
              · have h := h.2 c_68
                refine g_aload_n (pc := 76) hC 1 dX12_lend_76 rfl rfl ?_
                refine g_iconst (pc := 77) (v := 4) hC dX12_lend_77 (by decide) ?_
                refine g_callV_i (pc := 78) (wd := fun (u : St) Y => (wX12 o0 a0 (xy C) u Y)) (F := fun Z => Z) (X := []) (As := [.int (4 : Int32)]) (rest := []) (u := u_63) hC (fun _ _ => rfl) (fun _ => rfl) (ctX12_refuse h) wvX12_refuse ml_X12_88 (ci := 10) (q0 := 0) rfl rfl rfl rfl (rmok hR0 rfl) ⟨Nat.zero_le _, Nat.zero_le _⟩ rfl (Nat.le_of_ble_eq_true rfl) dX12_lend_78 (fun r_85 u_84 h => ?_)
                exact hR _ _ _ u_84 dX12_lend_81 h
            · have h := h.2 c_66
              refine g_sub (lv' := [(0, .ref o0)]) [0] rfl ?_
              exact kX12_lend_b55 hC hR0 hR  h
theorem ctX12_lend {l : Launch} {D : va_G} {cy : Nat → ClassId} {kd : Nat → Nat} {o0 : Nat} {a0 : Nat → Nat} {x1 : Int32} {x2 : Int32} {x3 : Int32} {x4 : Int32} {x5 : Int32} {x6 : Int32} {u0 : St} {post : Int32 → St → Prop} (h : qX12_lend x1 x2 x3 x4 x5 x6 u0 post) : CtI l D cy kd yX12_lend cX12_lend 9 3 .int [.ref o0, .int x1, .int x2, .int x3, .int x4, .int x5, .int x6] (fun u : St => (wX12 o0 a0 cy u [])) u0 (fun r u => post r u) := met_i (by decide) (Nat.le_of_ble_eq_true rfl) (fun C e1 e2 e3 e4 e5 hC hR => by subst e1 e2 e3 e4; exact kX12_lend hC e5 hR h)
theorem dX12_givesTo_0 : decode cX12_givesTo 0 = .ok (.aload_n 0, 1) := by decide +kernel
theorem dX12_givesTo_1 : decode cX12_givesTo 1 = .ok (.getfield 7, 3) := by decide +kernel
theorem dX12_givesTo_4 : decode cX12_givesTo 4 = .ok (.bipush 34, 2) := by decide +kernel
theorem dX12_givesTo_6 : decode cX12_givesTo 6 = .ok (.iload_n 1, 1) := by decide +kernel
theorem dX12_givesTo_7 : decode cX12_givesTo 7 = .ok (.iadd, 1) := by decide +kernel
theorem dX12_givesTo_8 : decode cX12_givesTo 8 = .ok (.sipush 9999, 3) := by decide +kernel
theorem dX12_givesTo_11 : decode cX12_givesTo 11 = .ok (.aload_n 0, 1) := by decide +kernel
theorem dX12_givesTo_12 : decode cX12_givesTo 12 = .ok (.getfield 7, 3) := by decide +kernel
theorem dX12_givesTo_15 : decode cX12_givesTo 15 = .ok (.bipush 34, 2) := by decide +kernel
theorem dX12_givesTo_17 : decode cX12_givesTo 17 = .ok (.iload_n 1, 1) := by decide +kernel
theorem dX12_givesTo_18 : decode cX12_givesTo 18 = .ok (.iadd, 1) := by decide +kernel
theorem dX12_givesTo_19 : decode cX12_givesTo 19 = .ok (.iaload, 1) := by decide +kernel
theorem dX12_givesTo_20 : decode cX12_givesTo 20 = .ok (.iload_n 2, 1) := by decide +kernel
theorem dX12_givesTo_21 : decode cX12_givesTo 21 = .ok (.iadd, 1) := by decide +kernel
theorem dX12_givesTo_22 : decode cX12_givesTo 22 = .ok (.invokestatic 143, 3) := by decide +kernel
theorem dX12_givesTo_25 : decode cX12_givesTo 25 = .ok (.iastore, 1) := by decide +kernel
theorem dX12_givesTo_26 : decode cX12_givesTo 26 = .ok (.return_, 1) := by decide +kernel
def qX12_givesTo (x1 : Int32) (x2 : Int32) (u0 : St) (post : St → Prop) : Prop := (vp_in ((34 : Int32) + x1) 3072 ∧ (vp_in ((34 : Int32) + x1) 3072 ∧ ∀ u_2 : St, u_2 = (sw u0 0 (upd (ga u0 0) (((34 : Int32) + x1)).toNatClampNeg (if ((ga u0 0 (((34 : Int32) + x1)).toNatClampNeg) + x2) < (9999 : Int32) then ((ga u0 0 (((34 : Int32) + x1)).toNatClampNeg) + x2) else (9999 : Int32)))) → post u_2))
set_option maxRecDepth 100000 in
set_option maxHeartbeats 4000000 in
theorem kX12_givesTo {C : Cx} {o0 : Nat} {a0 : Nat → Nat} (hC : Fx C cX12_givesTo 3 RX12) (hR0 : xR C = rm 2) {post : St → Prop} (hR : RV C cX12_givesTo 3 (fun u : St => (wX12 o0 a0 (xy C) u [])) (fun u => post u)) {x1 : Int32} {x2 : Int32} {u0 : St} (h : qX12_givesTo x1 x2 u0 post) : G C 0 0 3 (wX12 o0 a0 (xy C) u0 []) 0 [(0, .ref o0), (1, .int x1), (2, .int x2)] [] := by
  refine g_aload_n (pc := 0) hC 0 dX12_givesTo_0 rfl rfl ?_
  refine getX12_0 (pc := 1) hC (F := fun Z => Z) (X := []) (fun _ => rfl) fl_X12_7 dX12_givesTo_1 ?_
  refine g_bipush (pc := 4) (v := 34) hC dX12_givesTo_4 (by decide) ?_
  refine g_iload_n (pc := 6) hC 1 dX12_givesTo_6 rfl rfl ?_
  refine g_iadd (pc := 7) hC dX12_givesTo_7 ?_
  refine g_sipush (pc := 8) (v := 9999) hC dX12_givesTo_8 (by decide) ?_
  refine g_aload_n (pc := 11) hC 0 dX12_givesTo_11 rfl rfl ?_
  refine getX12_0 (pc := 12) hC (F := fun Z => Z) (X := []) (fun _ => rfl) fl_X12_7 dX12_givesTo_12 ?_
  refine g_bipush (pc := 15) (v := 34) hC dX12_givesTo_15 (by decide) ?_
  refine g_iload_n (pc := 17) hC 1 dX12_givesTo_17 rfl rfl ?_
  refine g_iadd (pc := 18) hC dX12_givesTo_18 ?_
  refine aldX12_0 (pc := 19) hC (F := fun Z => Z) (X := []) (fun _ => rfl) h.1 dX12_givesTo_19 ?_
  have h := h.2
  refine g_iload_n (pc := 20) hC 2 dX12_givesTo_20 rfl rfl ?_
  refine g_iadd (pc := 21) hC dX12_givesTo_21 ?_
  refine g_mmin (pc := 22) hC hR0 ml_X12_143 dX12_givesTo_22 (Nat.le_of_ble_eq_true rfl) ?_
  refine astX12_0 (pc := 25) hC (F := fun Z => Z) (X := []) (fun _ => rfl) h.1 dX12_givesTo_25 ?_
  have h := h.2
  refine g_st (w := fun z => (wX12 o0 a0 (xy C) z [])) (u := (sw u0 0 (upd (ga u0 0) (((34 : Int32) + x1)).toNatClampNeg (if ((ga u0 0 (((34 : Int32) + x1)).toNatClampNeg) + x2) < (9999 : Int32) then ((ga u0 0 (((34 : Int32) + x1)).toNatClampNeg) + x2) else (9999 : Int32))))) (fun u_2 eu_2 => ?_)
  have h := h u_2 eu_2
  exact hR _ _ u_2 dX12_givesTo_26 h
theorem ctX12_givesTo {l : Launch} {D : va_G} {cy : Nat → ClassId} {kd : Nat → Nat} {o0 : Nat} {a0 : Nat → Nat} {x1 : Int32} {x2 : Int32} {u0 : St} {post : St → Prop} (h : qX12_givesTo x1 x2 u0 post) : CtV l D cy kd yX12_givesTo cX12_givesTo 3 2  [.ref o0, .int x1, .int x2] (fun u : St => (wX12 o0 a0 cy u [])) u0 (fun u => post u) := met_v (by decide) (Nat.le_of_ble_eq_true rfl) (fun C e1 e2 e3 e4 e5 hC hR => by subst e1 e2 e3 e4; exact kX12_givesTo hC e5 hR h)
theorem dX12_give_0 : decode cX12_give 0 = .ok (.aload_n 0, 1) := by decide +kernel
theorem dX12_give_1 : decode cX12_give 1 = .ok (.iload_n 1, 1) := by decide +kernel
theorem dX12_give_2 : decode cX12_give 2 = .ok (.invokevirtual 297, 3) := by decide +kernel
theorem dX12_give_5 : decode cX12_give 5 = .ok (.ifCond .eq 15, 3) := by decide +kernel
theorem dX12_give_8 : decode cX12_give 8 = .ok (.iload_n 2, 1) := by decide +kernel
theorem dX12_give_9 : decode cX12_give 9 = .ok (.i2l, 1) := by decide +kernel
theorem dX12_give_10 : decode cX12_give 10 = .ok (.lconst 1, 1) := by decide +kernel
theorem dX12_give_11 : decode cX12_give 11 = .ok (.ldc2_w 342, 3) := by decide +kernel
theorem dX12_give_14 : decode cX12_give 14 = .ok (.invokestatic 315, 3) := by decide +kernel
theorem dX12_give_17 : decode cX12_give 17 = .ok (.ifCond .ne 9, 3) := by decide +kernel
theorem dX12_give_20 : decode cX12_give 20 = .ok (.aload_n 0, 1) := by decide +kernel
theorem dX12_give_21 : decode cX12_give 21 = .ok (.iconst 1, 1) := by decide +kernel
theorem dX12_give_22 : decode cX12_give 22 = .ok (.invokevirtual 88, 3) := by decide +kernel
theorem dX12_give_25 : decode cX12_give 25 = .ok (.ireturn, 1) := by decide +kernel
theorem dX12_give_26 : decode cX12_give 26 = .ok (.aload_n 0, 1) := by decide +kernel
theorem dX12_give_27 : decode cX12_give 27 = .ok (.iload_n 1, 1) := by decide +kernel
theorem dX12_give_28 : decode cX12_give 28 = .ok (.iload_n 2, 1) := by decide +kernel
theorem dX12_give_29 : decode cX12_give 29 = .ok (.invokevirtual 344, 3) := by decide +kernel
theorem dX12_give_32 : decode cX12_give 32 = .ok (.aload_n 0, 1) := by decide +kernel
theorem dX12_give_33 : decode cX12_give 33 = .ok (.aload_n 0, 1) := by decide +kernel
theorem dX12_give_34 : decode cX12_give 34 = .ok (.getfield 7, 3) := by decide +kernel
theorem dX12_give_37 : decode cX12_give 37 = .ok (.bipush 34, 2) := by decide +kernel
theorem dX12_give_39 : decode cX12_give 39 = .ok (.iload_n 1, 1) := by decide +kernel
theorem dX12_give_40 : decode cX12_give 40 = .ok (.iadd, 1) := by decide +kernel
theorem dX12_give_41 : decode cX12_give 41 = .ok (.iaload, 1) := by decide +kernel
theorem dX12_give_42 : decode cX12_give 42 = .ok (.invokevirtual 92, 3) := by decide +kernel
theorem dX12_give_45 : decode cX12_give 45 = .ok (.ireturn, 1) := by decide +kernel
def qX12_give_b20  (post : Int32 → St → Prop)  (u0 : St) : Prop := qX12_refuse (1 : Int32) u0 (fun r_15 u_14 => post r_15 u_14)
set_option maxRecDepth 100000 in
set_option maxHeartbeats 4000000 in
theorem kX12_give_b20 {C : Cx} {o0 : Nat} {a0 : Nat → Nat} (hC : Fx C cX12_give 3 RX12) (hR0 : xR C = rm 3) {post : Int32 → St → Prop} (hR : RI C cX12_give 3 (fun u : St => (wX12 o0 a0 (xy C) u [])) (fun r u => post r u))  {u0 : St} (h : qX12_give_b20 post u0) : G C 0 0 3 (wX12 o0 a0 (xy C) u0 []) 20 [(0, .ref o0)] [] := by
  refine g_aload_n (pc := 20) hC 0 dX12_give_20 rfl rfl ?_
  refine g_iconst (pc := 21) (v := 1) hC dX12_give_21 (by decide) ?_
  refine g_callV_i (pc := 22) (wd := fun (u : St) Y => (wX12 o0 a0 (xy C) u Y)) (F := fun Z => Z) (X := []) (As := [.int (1 : Int32)]) (rest := []) (u := u0) hC (fun _ _ => rfl) (fun _ => rfl) (ctX12_refuse h) wvX12_refuse ml_X12_88 (ci := 10) (q0 := 0) rfl rfl rfl rfl (rmok hR0 rfl) ⟨Nat.zero_le _, Nat.zero_le _⟩ rfl (Nat.le_of_ble_eq_true rfl) dX12_give_22 (fun r_15 u_14 h => ?_)
  exact hR _ _ _ u_14 dX12_give_25 h
def qX12_give (x1 : Int32) (x2 : Int32) (u0 : St) (post : Int32 → St → Prop) : Prop := qX12_isPerson x1 u0 (fun r_18 u_17 => ((r_18 = 0 → qX12_give_b20 post u_17) ∧ (¬ r_18 = 0 → qX12_isFrom (x2).toInt64 (1 : Int64) (999 : Int64) (fun r_21 => ((¬ r_21 = 0 → qX12_givesTo x1 x2 u_17 (fun u_24 => (vp_in ((34 : Int32) + x1) 3072 ∧ qX12_gives (ga u_24 0 (((34 : Int32) + x1)).toNatClampNeg) u_24 (fun r_27 u_26 => post r_27 u_26)))) ∧ (r_21 = 0 → qX12_give_b20 post u_17))))))
set_option maxRecDepth 100000 in
set_option maxHeartbeats 4000000 in
theorem kX12_give {C : Cx} {o0 : Nat} {a0 : Nat → Nat} (hC : Fx C cX12_give 3 RX12) (hR0 : xR C = rm 3) {post : Int32 → St → Prop} (hR : RI C cX12_give 3 (fun u : St => (wX12 o0 a0 (xy C) u [])) (fun r u => post r u)) {x1 : Int32} {x2 : Int32} {u0 : St} (h : qX12_give x1 x2 u0 post) : G C 0 0 3 (wX12 o0 a0 (xy C) u0 []) 0 [(0, .ref o0), (1, .int x1), (2, .int x2)] [] := by
  refine g_aload_n (pc := 0) hC 0 dX12_give_0 rfl rfl ?_
  refine g_iload_n (pc := 1) hC 1 dX12_give_1 rfl rfl ?_
  refine g_callV_i (pc := 2) (wd := fun (u : St) Y => (wX12 o0 a0 (xy C) u Y)) (F := fun Z => Z) (X := []) (As := [.int x1]) (rest := []) (u := u0) hC (fun _ _ => rfl) (fun _ => rfl) (ctX12_isPerson h) wvX12_isPerson ml_X12_297 (ci := 10) (q0 := 0) rfl rfl rfl rfl (rmok hR0 rfl) ⟨Nat.zero_le _, Nat.zero_le _⟩ rfl (Nat.le_of_ble_eq_true rfl) dX12_give_2 (fun r_18 u_17 h => ?_)
  refine g_if_eq (pc := 5) (tgt := 20) hC dX12_give_5 (by decide) (fun c_20 => ?_) (fun c_20 => ?_)
  · have h := h.1 c_20
    refine g_sub (lv' := [(0, .ref o0)]) [0] rfl ?_
    exact kX12_give_b20 hC hR0 hR  h
  · have h := h.2 c_20
    refine g_iload_n (pc := 8) hC 2 dX12_give_8 rfl rfl ?_
    refine g_i2l (pc := 9) hC dX12_give_9 ?_
    refine g_lconst (pc := 10) (v := 1) hC dX12_give_10 (by decide) ?_
    refine g_ldc2 (pc := 11) hC cn_X12_342 dX12_give_11 ?_
    refine g_callS_i (pc := 14) (wd := fun (_ : Unit) Y => Y) (F := fun Z => Z) (X := []) (As := [.long (x2).toInt64, .long (1 : Int64), .long (999 : Int64)]) (rest := []) (u := ()) hC (fun _ _ => rfl) (fun _ => rfl) (ctX12_isFrom h) wvX12_isFrom ml_X12_315 rfl (rmok hR0 rfl) ⟨Nat.zero_le _, Nat.zero_le _⟩ rfl (Nat.le_of_ble_eq_true rfl) dX12_give_14 (fun r_21 u_22 h => ?_)
    refine g_if_ne (pc := 17) (tgt := 26) hC dX12_give_17 (by decide) (fun c_23 => ?_) (fun c_23 => ?_)
    · have h := h.1 c_23
      refine g_aload_n (pc := 26) hC 0 dX12_give_26 rfl rfl ?_
      refine g_iload_n (pc := 27) hC 1 dX12_give_27 rfl rfl ?_
      refine g_iload_n (pc := 28) hC 2 dX12_give_28 rfl rfl ?_
      refine g_callV_v (pc := 29) (wd := fun (u : St) Y => (wX12 o0 a0 (xy C) u Y)) (F := fun Z => Z) (X := []) (As := [.int x1, .int x2]) (rest := []) (u := u_17) hC (fun _ _ => rfl) (fun _ => rfl) (ctX12_givesTo h) wvX12_givesTo ml_X12_344 (ci := 10) (q0 := 0) rfl rfl rfl rfl (rmok hR0 rfl) ⟨Nat.zero_le _, Nat.zero_le _⟩ rfl (Nat.le_of_ble_eq_true rfl) dX12_give_29 (fun u_24 h => ?_)
      refine g_aload_n (pc := 32) hC 0 dX12_give_32 rfl rfl ?_
      refine g_aload_n (pc := 33) hC 0 dX12_give_33 rfl rfl ?_
      refine getX12_0 (pc := 34) hC (F := fun Z => Z) (X := []) (fun _ => rfl) fl_X12_7 dX12_give_34 ?_
      refine g_bipush (pc := 37) (v := 34) hC dX12_give_37 (by decide) ?_
      refine g_iload_n (pc := 39) hC 1 dX12_give_39 rfl rfl ?_
      refine g_iadd (pc := 40) hC dX12_give_40 ?_
      refine aldX12_0 (pc := 41) hC (F := fun Z => Z) (X := []) (fun _ => rfl) h.1 dX12_give_41 ?_
      have h := h.2
      refine g_callV_i (pc := 42) (wd := fun (u : St) Y => (wX12 o0 a0 (xy C) u Y)) (F := fun Z => Z) (X := []) (As := [.int (ga u_24 0 (((34 : Int32) + x1)).toNatClampNeg)]) (rest := []) (u := u_24) hC (fun _ _ => rfl) (fun _ => rfl) (ctX12_gives h) wvX12_gives ml_X12_92 (ci := 10) (q0 := 0) rfl rfl rfl rfl (rmok hR0 rfl) ⟨Nat.zero_le _, Nat.zero_le _⟩ rfl (Nat.le_of_ble_eq_true rfl) dX12_give_42 (fun r_27 u_26 h => ?_)
      exact hR _ _ _ u_26 dX12_give_45 h
    · have h := h.2 c_23
      refine g_sub (lv' := [(0, .ref o0)]) [0] rfl ?_
      exact kX12_give_b20 hC hR0 hR  h
theorem ctX12_give {l : Launch} {D : va_G} {cy : Nat → ClassId} {kd : Nat → Nat} {o0 : Nat} {a0 : Nat → Nat} {x1 : Int32} {x2 : Int32} {u0 : St} {post : Int32 → St → Prop} (h : qX12_give x1 x2 u0 post) : CtI l D cy kd yX12_give cX12_give 3 3 .int [.ref o0, .int x1, .int x2] (fun u : St => (wX12 o0 a0 cy u [])) u0 (fun r u => post r u) := met_i (by decide) (Nat.le_of_ble_eq_true rfl) (fun C e1 e2 e3 e4 e5 hC hR => by subst e1 e2 e3 e4; exact kX12_give hC e5 hR h)
theorem dX12_rate_0 : decode cX12_rate 0 = .ok (.aload_n 0, 1) := by decide +kernel
theorem dX12_rate_1 : decode cX12_rate 1 = .ok (.iload_n 1, 1) := by decide +kernel
theorem dX12_rate_2 : decode cX12_rate 2 = .ok (.invokevirtual 294, 3) := by decide +kernel
theorem dX12_rate_5 : decode cX12_rate 5 = .ok (.ifCond .eq 15, 3) := by decide +kernel
theorem dX12_rate_8 : decode cX12_rate 8 = .ok (.iload_n 2, 1) := by decide +kernel
theorem dX12_rate_9 : decode cX12_rate 9 = .ok (.i2l, 1) := by decide +kernel
theorem dX12_rate_10 : decode cX12_rate 10 = .ok (.lconst 0, 1) := by decide +kernel
theorem dX12_rate_11 : decode cX12_rate 11 = .ok (.ldc2_w 340, 3) := by decide +kernel
theorem dX12_rate_14 : decode cX12_rate 14 = .ok (.invokestatic 315, 3) := by decide +kernel
theorem dX12_rate_17 : decode cX12_rate 17 = .ok (.ifCond .ne 9, 3) := by decide +kernel
theorem dX12_rate_20 : decode cX12_rate 20 = .ok (.aload_n 0, 1) := by decide +kernel
theorem dX12_rate_21 : decode cX12_rate 21 = .ok (.iconst 1, 1) := by decide +kernel
theorem dX12_rate_22 : decode cX12_rate 22 = .ok (.invokevirtual 88, 3) := by decide +kernel
theorem dX12_rate_25 : decode cX12_rate 25 = .ok (.ireturn, 1) := by decide +kernel
theorem dX12_rate_26 : decode cX12_rate 26 = .ok (.aload_n 0, 1) := by decide +kernel
theorem dX12_rate_27 : decode cX12_rate 27 = .ok (.iload_n 1, 1) := by decide +kernel
theorem dX12_rate_28 : decode cX12_rate 28 = .ok (.invokevirtual 261, 3) := by decide +kernel
theorem dX12_rate_31 : decode cX12_rate 31 = .ok (.ifCond .eq 10, 3) := by decide +kernel
theorem dX12_rate_34 : decode cX12_rate 34 = .ok (.aload_n 0, 1) := by decide +kernel
theorem dX12_rate_35 : decode cX12_rate 35 = .ok (.bipush 7, 2) := by decide +kernel
theorem dX12_rate_37 : decode cX12_rate 37 = .ok (.invokevirtual 88, 3) := by decide +kernel
theorem dX12_rate_40 : decode cX12_rate 40 = .ok (.ireturn, 1) := by decide +kernel
theorem dX12_rate_41 : decode cX12_rate 41 = .ok (.aload_n 0, 1) := by decide +kernel
theorem dX12_rate_42 : decode cX12_rate 42 = .ok (.iload_n 1, 1) := by decide +kernel
theorem dX12_rate_43 : decode cX12_rate 43 = .ok (.iconst 3, 1) := by decide +kernel
theorem dX12_rate_44 : decode cX12_rate 44 = .ok (.invokevirtual 264, 3) := by decide +kernel
theorem dX12_rate_47 : decode cX12_rate 47 = .ok (.istore_n 3, 1) := by decide +kernel
theorem dX12_rate_48 : decode cX12_rate 48 = .ok (.aload_n 0, 1) := by decide +kernel
theorem dX12_rate_49 : decode cX12_rate 49 = .ok (.getfield 7, 3) := by decide +kernel
theorem dX12_rate_52 : decode cX12_rate 52 = .ok (.iload_n 1, 1) := by decide +kernel
theorem dX12_rate_53 : decode cX12_rate 53 = .ok (.invokestatic 211, 3) := by decide +kernel
theorem dX12_rate_56 : decode cX12_rate 56 = .ok (.iconst 3, 1) := by decide +kernel
theorem dX12_rate_57 : decode cX12_rate 57 = .ok (.iadd, 1) := by decide +kernel
theorem dX12_rate_58 : decode cX12_rate 58 = .ok (.iload_n 2, 1) := by decide +kernel
theorem dX12_rate_59 : decode cX12_rate 59 = .ok (.iastore, 1) := by decide +kernel
theorem dX12_rate_60 : decode cX12_rate 60 = .ok (.aload_n 0, 1) := by decide +kernel
theorem dX12_rate_61 : decode cX12_rate 61 = .ok (.iload_n 3, 1) := by decide +kernel
theorem dX12_rate_62 : decode cX12_rate 62 = .ok (.invokevirtual 92, 3) := by decide +kernel
theorem dX12_rate_65 : decode cX12_rate 65 = .ok (.ireturn, 1) := by decide +kernel
def qX12_rate_b20  (post : Int32 → St → Prop)  (u0 : St) : Prop := qX12_refuse (1 : Int32) u0 (fun r_25 u_24 => post r_25 u_24)
set_option maxRecDepth 100000 in
set_option maxHeartbeats 4000000 in
theorem kX12_rate_b20 {C : Cx} {o0 : Nat} {a0 : Nat → Nat} (hC : Fx C cX12_rate 4 RX12) (hR0 : xR C = rm 3) {post : Int32 → St → Prop} (hR : RI C cX12_rate 4 (fun u : St => (wX12 o0 a0 (xy C) u [])) (fun r u => post r u))  {u0 : St} (h : qX12_rate_b20 post u0) : G C 0 0 4 (wX12 o0 a0 (xy C) u0 []) 20 [(0, .ref o0)] [] := by
  refine g_aload_n (pc := 20) hC 0 dX12_rate_20 rfl rfl ?_
  refine g_iconst (pc := 21) (v := 1) hC dX12_rate_21 (by decide) ?_
  refine g_callV_i (pc := 22) (wd := fun (u : St) Y => (wX12 o0 a0 (xy C) u Y)) (F := fun Z => Z) (X := []) (As := [.int (1 : Int32)]) (rest := []) (u := u0) hC (fun _ _ => rfl) (fun _ => rfl) (ctX12_refuse h) wvX12_refuse ml_X12_88 (ci := 10) (q0 := 0) rfl rfl rfl rfl (rmok hR0 rfl) ⟨Nat.zero_le _, Nat.zero_le _⟩ rfl (Nat.le_of_ble_eq_true rfl) dX12_rate_22 (fun r_25 u_24 h => ?_)
  exact hR _ _ _ u_24 dX12_rate_25 h
def qX12_rate (x1 : Int32) (x2 : Int32) (u0 : St) (post : Int32 → St → Prop) : Prop := qX12_isDebt x1 u0 (fun r_28 u_27 => ((r_28 = 0 → qX12_rate_b20 post u_27) ∧ (¬ r_28 = 0 → qX12_isFrom (x2).toInt64 (0 : Int64) (9 : Int64) (fun r_31 => ((¬ r_31 = 0 → qX12_isPaidUp x1 u_27 (fun r_35 u_34 => ((r_35 = 0 → qX12_debtOf x1 (3 : Int32) u_34 (fun r_39 u_38 => qX12_debtRow x1 (fun r_41 => (vp_in (r_41 + (3 : Int32)) 3072 ∧ ∀ u_43 : St, u_43 = (sw u_38 0 (upd (ga u_38 0) ((r_41 + (3 : Int32))).toNatClampNeg x2)) → qX12_gives r_39 u_43 (fun r_45 u_44 => post r_45 u_44))))) ∧ (¬ r_35 = 0 → qX12_refuse (7 : Int32) u_34 (fun r_48 u_47 => post r_48 u_47))))) ∧ (r_31 = 0 → qX12_rate_b20 post u_27))))))
set_option maxRecDepth 100000 in
set_option maxHeartbeats 4000000 in
theorem kX12_rate {C : Cx} {o0 : Nat} {a0 : Nat → Nat} (hC : Fx C cX12_rate 4 RX12) (hR0 : xR C = rm 3) {post : Int32 → St → Prop} (hR : RI C cX12_rate 4 (fun u : St => (wX12 o0 a0 (xy C) u [])) (fun r u => post r u)) {x1 : Int32} {x2 : Int32} {u0 : St} (h : qX12_rate x1 x2 u0 post) : G C 0 0 4 (wX12 o0 a0 (xy C) u0 []) 0 [(0, .ref o0), (1, .int x1), (2, .int x2)] [] := by
  refine g_aload_n (pc := 0) hC 0 dX12_rate_0 rfl rfl ?_
  refine g_iload_n (pc := 1) hC 1 dX12_rate_1 rfl rfl ?_
  refine g_callV_i (pc := 2) (wd := fun (u : St) Y => (wX12 o0 a0 (xy C) u Y)) (F := fun Z => Z) (X := []) (As := [.int x1]) (rest := []) (u := u0) hC (fun _ _ => rfl) (fun _ => rfl) (ctX12_isDebt h) wvX12_isDebt ml_X12_294 (ci := 10) (q0 := 0) rfl rfl rfl rfl (rmok hR0 rfl) ⟨Nat.zero_le _, Nat.zero_le _⟩ rfl (Nat.le_of_ble_eq_true rfl) dX12_rate_2 (fun r_28 u_27 h => ?_)
  refine g_if_eq (pc := 5) (tgt := 20) hC dX12_rate_5 (by decide) (fun c_30 => ?_) (fun c_30 => ?_)
  · have h := h.1 c_30
    refine g_sub (lv' := [(0, .ref o0)]) [0] rfl ?_
    exact kX12_rate_b20 hC hR0 hR  h
  · have h := h.2 c_30
    refine g_iload_n (pc := 8) hC 2 dX12_rate_8 rfl rfl ?_
    refine g_i2l (pc := 9) hC dX12_rate_9 ?_
    refine g_lconst (pc := 10) (v := 0) hC dX12_rate_10 (by decide) ?_
    refine g_ldc2 (pc := 11) hC cn_X12_340 dX12_rate_11 ?_
    refine g_callS_i (pc := 14) (wd := fun (_ : Unit) Y => Y) (F := fun Z => Z) (X := []) (As := [.long (x2).toInt64, .long (0 : Int64), .long (9 : Int64)]) (rest := []) (u := ()) hC (fun _ _ => rfl) (fun _ => rfl) (ctX12_isFrom h) wvX12_isFrom ml_X12_315 rfl (rmok hR0 rfl) ⟨Nat.zero_le _, Nat.zero_le _⟩ rfl (Nat.le_of_ble_eq_true rfl) dX12_rate_14 (fun r_31 u_32 h => ?_)
    refine g_if_ne (pc := 17) (tgt := 26) hC dX12_rate_17 (by decide) (fun c_33 => ?_) (fun c_33 => ?_)
    · have h := h.1 c_33
      refine g_aload_n (pc := 26) hC 0 dX12_rate_26 rfl rfl ?_
      refine g_iload_n (pc := 27) hC 1 dX12_rate_27 rfl rfl ?_
      refine g_callV_i (pc := 28) (wd := fun (u : St) Y => (wX12 o0 a0 (xy C) u Y)) (F := fun Z => Z) (X := []) (As := [.int x1]) (rest := []) (u := u_27) hC (fun _ _ => rfl) (fun _ => rfl) (ctX12_isPaidUp h) wvX12_isPaidUp ml_X12_261 (ci := 10) (q0 := 0) rfl rfl rfl rfl (rmok hR0 rfl) ⟨Nat.zero_le _, Nat.zero_le _⟩ rfl (Nat.le_of_ble_eq_true rfl) dX12_rate_28 (fun r_35 u_34 h => ?_)
      refine g_if_eq (pc := 31) (tgt := 41) hC dX12_rate_31 (by decide) (fun c_37 => ?_) (fun c_37 => ?_)
      · have h := h.1 c_37
        refine g_aload_n (pc := 41) hC 0 dX12_rate_41 rfl rfl ?_
        refine g_iload_n (pc := 42) hC 1 dX12_rate_42 rfl rfl ?_
        refine g_iconst (pc := 43) (v := 3) hC dX12_rate_43 (by decide) ?_
        refine g_callV_i (pc := 44) (wd := fun (u : St) Y => (wX12 o0 a0 (xy C) u Y)) (F := fun Z => Z) (X := []) (As := [.int x1, .int (3 : Int32)]) (rest := []) (u := u_34) hC (fun _ _ => rfl) (fun _ => rfl) (ctX12_debtOf h) wvX12_debtOf ml_X12_264 (ci := 10) (q0 := 0) rfl rfl rfl rfl (rmok hR0 rfl) ⟨Nat.zero_le _, Nat.zero_le _⟩ rfl (Nat.le_of_ble_eq_true rfl) dX12_rate_44 (fun r_39 u_38 h => ?_)
        refine g_istore_n (pc := 47) (lv' := [(3, .int r_39), (0, .ref o0), (1, .int x1), (2, .int x2)]) hC dX12_rate_47 rfl (Nat.le_of_ble_eq_true rfl) rfl ?_
        refine g_aload_n (pc := 48) hC 1 dX12_rate_48 rfl rfl ?_
        refine getX12_0 (pc := 49) hC (F := fun Z => Z) (X := []) (fun _ => rfl) fl_X12_7 dX12_rate_49 ?_
        refine g_iload_n (pc := 52) hC 2 dX12_rate_52 rfl rfl ?_
        refine g_callS_i (pc := 53) (wd := fun (_ : Unit) Y => Y) (F := fun Z => Z) (X := []) (As := [.int x1]) (rest := [.ref (a0 0)]) (u := ()) hC (fun _ _ => rfl) (fun _ => rfl) (ctX12_debtRow h) wvX12_debtRow ml_X12_211 rfl (rmok hR0 rfl) ⟨Nat.zero_le _, Nat.zero_le _⟩ rfl (Nat.le_of_ble_eq_true rfl) dX12_rate_53 (fun r_41 u_42 h => ?_)
        refine g_iconst (pc := 56) (v := 3) hC dX12_rate_56 (by decide) ?_
        refine g_iadd (pc := 57) hC dX12_rate_57 ?_
        refine g_iload_n (pc := 58) hC 3 dX12_rate_58 rfl rfl ?_
        refine astX12_0 (pc := 59) hC (F := fun Z => Z) (X := []) (fun _ => rfl) h.1 dX12_rate_59 ?_
        have h := h.2
        refine g_st (w := fun z => (wX12 o0 a0 (xy C) z [])) (u := (sw u_38 0 (upd (ga u_38 0) ((r_41 + (3 : Int32))).toNatClampNeg x2))) (fun u_43 eu_43 => ?_)
        have h := h u_43 eu_43
        refine g_aload_n (pc := 60) hC 1 dX12_rate_60 rfl rfl ?_
        refine g_iload_n (pc := 61) hC 0 dX12_rate_61 rfl rfl ?_
        refine g_callV_i (pc := 62) (wd := fun (u : St) Y => (wX12 o0 a0 (xy C) u Y)) (F := fun Z => Z) (X := []) (As := [.int r_39]) (rest := []) (u := u_43) hC (fun _ _ => rfl) (fun _ => rfl) (ctX12_gives h) wvX12_gives ml_X12_92 (ci := 10) (q0 := 0) rfl rfl rfl rfl (rmok hR0 rfl) ⟨Nat.zero_le _, Nat.zero_le _⟩ rfl (Nat.le_of_ble_eq_true rfl) dX12_rate_62 (fun r_45 u_44 h => ?_)
        exact hR _ _ _ u_44 dX12_rate_65 h
      · have h := h.2 c_37
        refine g_aload_n (pc := 34) hC 0 dX12_rate_34 rfl rfl ?_
        refine g_bipush (pc := 35) (v := 7) hC dX12_rate_35 (by decide) ?_
        refine g_callV_i (pc := 37) (wd := fun (u : St) Y => (wX12 o0 a0 (xy C) u Y)) (F := fun Z => Z) (X := []) (As := [.int (7 : Int32)]) (rest := []) (u := u_34) hC (fun _ _ => rfl) (fun _ => rfl) (ctX12_refuse h) wvX12_refuse ml_X12_88 (ci := 10) (q0 := 0) rfl rfl rfl rfl (rmok hR0 rfl) ⟨Nat.zero_le _, Nat.zero_le _⟩ rfl (Nat.le_of_ble_eq_true rfl) dX12_rate_37 (fun r_48 u_47 h => ?_)
        exact hR _ _ _ u_47 dX12_rate_40 h
    · have h := h.2 c_33
      refine g_sub (lv' := [(0, .ref o0)]) [0] rfl ?_
      exact kX12_rate_b20 hC hR0 hR  h
theorem ctX12_rate {l : Launch} {D : va_G} {cy : Nat → ClassId} {kd : Nat → Nat} {o0 : Nat} {a0 : Nat → Nat} {x1 : Int32} {x2 : Int32} {u0 : St} {post : Int32 → St → Prop} (h : qX12_rate x1 x2 u0 post) : CtI l D cy kd yX12_rate cX12_rate 4 3 .int [.ref o0, .int x1, .int x2] (fun u : St => (wX12 o0 a0 cy u [])) u0 (fun r u => post r u) := met_i (by decide) (Nat.le_of_ble_eq_true rfl) (fun C e1 e2 e3 e4 e5 hC hR => by subst e1 e2 e3 e4; exact kX12_rate hC e5 hR h)
theorem dX12_rule_0 : decode cX12_rule 0 = .ok (.iload_n 1, 1) := by decide +kernel
theorem dX12_rule_1 : decode cX12_rule 1 = .ok (.i2l, 1) := by decide +kernel
theorem dX12_rule_2 : decode cX12_rule 2 = .ok (.lconst 0, 1) := by decide +kernel
theorem dX12_rule_3 : decode cX12_rule 3 = .ok (.ldc2_w 348, 3) := by decide +kernel
theorem dX12_rule_6 : decode cX12_rule 6 = .ok (.invokestatic 315, 3) := by decide +kernel
theorem dX12_rule_9 : decode cX12_rule 9 = .ok (.ifCond .ne 9, 3) := by decide +kernel
theorem dX12_rule_12 : decode cX12_rule 12 = .ok (.aload_n 0, 1) := by decide +kernel
theorem dX12_rule_13 : decode cX12_rule 13 = .ok (.iconst 1, 1) := by decide +kernel
theorem dX12_rule_14 : decode cX12_rule 14 = .ok (.invokevirtual 95, 3) := by decide +kernel
theorem dX12_rule_17 : decode cX12_rule 17 = .ok (.ireturn, 1) := by decide +kernel
theorem dX12_rule_18 : decode cX12_rule 18 = .ok (.aload_n 0, 1) := by decide +kernel
theorem dX12_rule_19 : decode cX12_rule 19 = .ok (.getfield 7, 3) := by decide +kernel
theorem dX12_rule_22 : decode cX12_rule 22 = .ok (.iconst 3, 1) := by decide +kernel
theorem dX12_rule_23 : decode cX12_rule 23 = .ok (.iload_n 1, 1) := by decide +kernel
theorem dX12_rule_24 : decode cX12_rule 24 = .ok (.iastore, 1) := by decide +kernel
theorem dX12_rule_25 : decode cX12_rule 25 = .ok (.aload_n 0, 1) := by decide +kernel
theorem dX12_rule_26 : decode cX12_rule 26 = .ok (.iconst 0, 1) := by decide +kernel
theorem dX12_rule_27 : decode cX12_rule 27 = .ok (.invokevirtual 95, 3) := by decide +kernel
theorem dX12_rule_30 : decode cX12_rule 30 = .ok (.ireturn, 1) := by decide +kernel
def qX12_rule (x1 : Int32) (u0 : St) (post : Int32 → St → Prop) : Prop := qX12_isFrom (x1).toInt64 (0 : Int64) (16 : Int64) (fun r_10 => ((¬ r_10 = 0 → ∀ u_13 : St, u_13 = (sw u0 0 (upd (ga u0 0) ((3 : Int32)).toNatClampNeg x1)) → qX12_is (0 : Int32) u_13 (fun r_15 u_14 => (bz r_15 ∧ post r_15 u_14))) ∧ (r_10 = 0 → qX12_is (1 : Int32) u0 (fun r_18 u_17 => (bz r_18 ∧ post r_18 u_17)))))
set_option maxRecDepth 100000 in
set_option maxHeartbeats 4000000 in
theorem kX12_rule {C : Cx} {o0 : Nat} {a0 : Nat → Nat} (hC : Fx C cX12_rule 2 RX12) (hR0 : xR C = rm 2) {post : Int32 → St → Prop} (hR : RZ C cX12_rule 2 (fun u : St => (wX12 o0 a0 (xy C) u [])) (fun r u => post r u)) {x1 : Int32} {u0 : St} (h : qX12_rule x1 u0 post) : G C 0 0 2 (wX12 o0 a0 (xy C) u0 []) 0 [(0, .ref o0), (1, .int x1)] [] := by
  refine g_iload_n (pc := 0) hC 1 dX12_rule_0 rfl rfl ?_
  refine g_i2l (pc := 1) hC dX12_rule_1 ?_
  refine g_lconst (pc := 2) (v := 0) hC dX12_rule_2 (by decide) ?_
  refine g_ldc2 (pc := 3) hC cn_X12_348 dX12_rule_3 ?_
  refine g_callS_i (pc := 6) (wd := fun (_ : Unit) Y => Y) (F := fun Z => Z) (X := []) (As := [.long (x1).toInt64, .long (0 : Int64), .long (16 : Int64)]) (rest := []) (u := ()) hC (fun _ _ => rfl) (fun _ => rfl) (ctX12_isFrom h) wvX12_isFrom ml_X12_315 rfl (rmok hR0 rfl) ⟨Nat.zero_le _, Nat.zero_le _⟩ rfl (Nat.le_of_ble_eq_true rfl) dX12_rule_6 (fun r_10 u_11 h => ?_)
  refine g_if_ne (pc := 9) (tgt := 18) hC dX12_rule_9 (by decide) (fun c_12 => ?_) (fun c_12 => ?_)
  · have h := h.1 c_12
    refine g_aload_n (pc := 18) hC 0 dX12_rule_18 rfl rfl ?_
    refine getX12_0 (pc := 19) hC (F := fun Z => Z) (X := []) (fun _ => rfl) fl_X12_7 dX12_rule_19 ?_
    refine g_iconst (pc := 22) (v := 3) hC dX12_rule_22 (by decide) ?_
    refine g_iload_n (pc := 23) hC 1 dX12_rule_23 rfl rfl ?_
    refine astX12_0 (pc := 24) hC (F := fun Z => Z) (X := []) (fun _ => rfl) (by unfold vp_in; decide) dX12_rule_24 ?_
    refine g_st (w := fun z => (wX12 o0 a0 (xy C) z [])) (u := (sw u0 0 (upd (ga u0 0) ((3 : Int32)).toNatClampNeg x1))) (fun u_13 eu_13 => ?_)
    have h := h u_13 eu_13
    refine g_aload_n (pc := 25) hC 0 dX12_rule_25 rfl rfl ?_
    refine g_iconst (pc := 26) (v := 0) hC dX12_rule_26 (by decide) ?_
    refine g_callV_i (pc := 27) (wd := fun (u : St) Y => (wX12 o0 a0 (xy C) u Y)) (F := fun Z => Z) (X := []) (As := [.int (0 : Int32)]) (rest := []) (u := u_13) hC (fun _ _ => rfl) (fun _ => rfl) (ctX12_is h) wvX12_is ml_X12_95 (ci := 10) (q0 := 0) rfl rfl rfl rfl (rmok hR0 rfl) ⟨Nat.zero_le _, Nat.zero_le _⟩ rfl (Nat.le_of_ble_eq_true rfl) dX12_rule_27 (fun r_15 u_14 h => ?_)
    exact hR _ _ _ u_14 dX12_rule_30 h.1 h.2
  · have h := h.2 c_12
    refine g_aload_n (pc := 12) hC 0 dX12_rule_12 rfl rfl ?_
    refine g_iconst (pc := 13) (v := 1) hC dX12_rule_13 (by decide) ?_
    refine g_callV_i (pc := 14) (wd := fun (u : St) Y => (wX12 o0 a0 (xy C) u Y)) (F := fun Z => Z) (X := []) (As := [.int (1 : Int32)]) (rest := []) (u := u0) hC (fun _ _ => rfl) (fun _ => rfl) (ctX12_is h) wvX12_is ml_X12_95 (ci := 10) (q0 := 0) rfl rfl rfl rfl (rmok hR0 rfl) ⟨Nat.zero_le _, Nat.zero_le _⟩ rfl (Nat.le_of_ble_eq_true rfl) dX12_rule_14 (fun r_18 u_17 h => ?_)
    exact hR _ _ _ u_17 dX12_rule_17 h.1 h.2
theorem ctX12_rule {l : Launch} {D : va_G} {cy : Nat → ClassId} {kd : Nat → Nat} {o0 : Nat} {a0 : Nat → Nat} {x1 : Int32} {u0 : St} {post : Int32 → St → Prop} (h : qX12_rule x1 u0 post) : CtI l D cy kd yX12_rule cX12_rule 2 2 .boolean [.ref o0, .int x1] (fun u : St => (wX12 o0 a0 cy u [])) u0 (fun r u => post r u) := met_z (by decide) (Nat.le_of_ble_eq_true rfl) (fun C e1 e2 e3 e4 e5 hC hR => by subst e1 e2 e3 e4; exact kX12_rule hC e5 hR h)
theorem dX12_levelAt_0 : decode cX12_levelAt 0 = .ok (.sipush 2368, 3) := by decide +kernel
theorem dX12_levelAt_3 : decode cX12_levelAt 3 = .ok (.bipush 88, 2) := by decide +kernel
theorem dX12_levelAt_5 : decode cX12_levelAt 5 = .ok (.iload_n 0, 1) := by decide +kernel
theorem dX12_levelAt_6 : decode cX12_levelAt 6 = .ok (.imul, 1) := by decide +kernel
theorem dX12_levelAt_7 : decode cX12_levelAt 7 = .ok (.iadd, 1) := by decide +kernel
theorem dX12_levelAt_8 : decode cX12_levelAt 8 = .ok (.ireturn, 1) := by decide +kernel
def qX12_levelAt (x0 : Int32)  (post : Int32 → Prop) : Prop := post ((2368 : Int32) + ((88 : Int32) * x0)) 
set_option maxRecDepth 100000 in
set_option maxHeartbeats 4000000 in
theorem kX12_levelAt {C : Cx}  (hC : Fx C cX12_levelAt 1 RX12) (hR0 : xR C = rm 1) {post : Int32 → Prop} (hR : RI C cX12_levelAt 1 (fun _ : Unit => ([] : va_W)) (fun r _ => post r )) {x0 : Int32}  (h : qX12_levelAt x0  post) : G C 0 0 1 [] 0 [(0, .int x0)] [] := by
  refine g_sipush (pc := 0) (v := 2368) hC dX12_levelAt_0 (by decide) ?_
  refine g_bipush (pc := 3) (v := 88) hC dX12_levelAt_3 (by decide) ?_
  refine g_iload_n (pc := 5) hC 0 dX12_levelAt_5 rfl rfl ?_
  refine g_imul (pc := 6) hC dX12_levelAt_6 ?_
  refine g_iadd (pc := 7) hC dX12_levelAt_7 ?_
  exact hR _ _ _ () dX12_levelAt_8 h
theorem ctX12_levelAt {l : Launch} {D : va_G} {cy : Nat → ClassId} {kd : Nat → Nat}  {x0 : Int32}  {post : Int32 → Prop} (h : qX12_levelAt x0  post) : CtI l D cy kd yX12_levelAt cX12_levelAt 1 1 .int [.int x0] (fun _ : Unit => ([] : va_W)) () (fun r _ => post r ) := met_i (by decide) (Nat.le_of_ble_eq_true rfl) (fun C e1 e2 e3 e4 e5 hC hR => by subst e1 e2 e3 e4; exact kX12_levelAt hC e5 hR h)
theorem dX12_keeps_0 : decode cX12_keeps 0 = .ok (.iconst 0, 1) := by decide +kernel
theorem dX12_keeps_1 : decode cX12_keeps 1 = .ok (.istore_n 2, 1) := by decide +kernel
theorem dX12_keeps_2 : decode cX12_keeps 2 = .ok (.iload_n 2, 1) := by decide +kernel
theorem dX12_keeps_3 : decode cX12_keeps 3 = .ok (.bipush 88, 2) := by decide +kernel
theorem dX12_keeps_5 : decode cX12_keeps 5 = .ok (.if_icmp .ge 23, 3) := by decide +kernel
theorem dX12_keeps_8 : decode cX12_keeps 8 = .ok (.aload_n 0, 1) := by decide +kernel
theorem dX12_keeps_9 : decode cX12_keeps 9 = .ok (.getfield 7, 3) := by decide +kernel
theorem dX12_keeps_12 : decode cX12_keeps 12 = .ok (.iload_n 1, 1) := by decide +kernel
theorem dX12_keeps_13 : decode cX12_keeps 13 = .ok (.iload_n 2, 1) := by decide +kernel
theorem dX12_keeps_14 : decode cX12_keeps 14 = .ok (.iadd, 1) := by decide +kernel
theorem dX12_keeps_15 : decode cX12_keeps 15 = .ok (.aload_n 0, 1) := by decide +kernel
theorem dX12_keeps_16 : decode cX12_keeps 16 = .ok (.getfield 7, 3) := by decide +kernel
theorem dX12_keeps_19 : decode cX12_keeps 19 = .ok (.iload_n 2, 1) := by decide +kernel
theorem dX12_keeps_20 : decode cX12_keeps 20 = .ok (.iaload, 1) := by decide +kernel
theorem dX12_keeps_21 : decode cX12_keeps 21 = .ok (.iastore, 1) := by decide +kernel
theorem dX12_keeps_22 : decode cX12_keeps 22 = .ok (.iinc 2 1, 3) := by decide +kernel
theorem dX12_keeps_25 : decode cX12_keeps 25 = .ok (.goto (-23), 3) := by decide +kernel
theorem dX12_keeps_28 : decode cX12_keeps 28 = .ok (.return_, 1) := by decide +kernel
def qX12_keeps_l2  (post : St → Prop) (K2 : Int32 → Int32 → St → Prop) (x1 : Int32) (x2 : Int32) (u0 : St) : Prop := (((88 : Int32) ≤ x2 → post u0) ∧ (¬ (88 : Int32) ≤ x2 → (vp_in x2 3072 ∧ (vp_in (x1 + x2) 3072 ∧ ∀ u_4 : St, u_4 = (sw u0 0 (upd (ga u0 0) ((x1 + x2)).toNatClampNeg (ga u0 0 (x2).toNatClampNeg))) → ∀ x2_5 : Int32, x2_5 = x2 + (1 : Int32) → K2 x1 x2_5 u_4))))
set_option maxRecDepth 100000 in
set_option maxHeartbeats 4000000 in
theorem kX12_keeps_l2 {C : Cx} {o0 : Nat} {a0 : Nat → Nat} (hC : Fx C cX12_keeps 3 RX12) (hR0 : xR C = rm 1) {post : St → Prop} (hR : RV C cX12_keeps 3 (fun u : St => (wX12 o0 a0 (xy C) u [])) (fun u => post u))  {K2 : Int32 → Int32 → St → Prop} (hK2 : ∀ (x1 : Int32) (x2 : Int32) (u0 : St), K2 x1 x2 u0 → G C 0 0 3 (wX12 o0 a0 (xy C) u0 []) 2 [(0, .ref o0), (1, .int x1), (2, .int x2)] []) {x1 : Int32} {x2 : Int32} {u0 : St} (h : qX12_keeps_l2 post K2 x1 x2 u0) : G C 0 0 3 (wX12 o0 a0 (xy C) u0 []) 2 [(0, .ref o0), (1, .int x1), (2, .int x2)] [] := by
  refine g_iload_n (pc := 2) hC 2 dX12_keeps_2 rfl rfl ?_
  refine g_bipush (pc := 3) (v := 88) hC dX12_keeps_3 (by decide) ?_
  refine g_icmp_ge (pc := 5) (tgt := 28) hC dX12_keeps_5 (by decide) (fun c_3 => ?_) (fun c_3 => ?_)
  · have h := h.1 c_3
    exact hR _ _ u0 dX12_keeps_28 h
  · have h := h.2 c_3
    refine g_aload_n (pc := 8) hC 0 dX12_keeps_8 rfl rfl ?_
    refine getX12_0 (pc := 9) hC (F := fun Z => Z) (X := []) (fun _ => rfl) fl_X12_7 dX12_keeps_9 ?_
    refine g_iload_n (pc := 12) hC 1 dX12_keeps_12 rfl rfl ?_
    refine g_iload_n (pc := 13) hC 2 dX12_keeps_13 rfl rfl ?_
    refine g_iadd (pc := 14) hC dX12_keeps_14 ?_
    refine g_aload_n (pc := 15) hC 0 dX12_keeps_15 rfl rfl ?_
    refine getX12_0 (pc := 16) hC (F := fun Z => Z) (X := []) (fun _ => rfl) fl_X12_7 dX12_keeps_16 ?_
    refine g_iload_n (pc := 19) hC 2 dX12_keeps_19 rfl rfl ?_
    refine aldX12_0 (pc := 20) hC (F := fun Z => Z) (X := []) (fun _ => rfl) h.1 dX12_keeps_20 ?_
    have h := h.2
    refine astX12_0 (pc := 21) hC (F := fun Z => Z) (X := []) (fun _ => rfl) h.1 dX12_keeps_21 ?_
    have h := h.2
    refine g_st (w := fun z => (wX12 o0 a0 (xy C) z [])) (u := (sw u0 0 (upd (ga u0 0) ((x1 + x2)).toNatClampNeg (ga u0 0 (x2).toNatClampNeg)))) (fun u_4 eu_4 => ?_)
    have h := h u_4 eu_4
    obtain ⟨x2_5, ex2_5⟩ : ∃ z : Int32, z = x2 + (1 : Int32) := ⟨_, rfl⟩
    have h := h x2_5 ex2_5
    refine g_iinc (pc := 22) (v := x2_5) (lv' := [(2, .int x2_5), (0, .ref o0), (1, .int x1)]) hC 2 dX12_keeps_22 rfl (by rw [ex2_5]; rfl) (Nat.le_of_ble_eq_true rfl) rfl ?_
    refine g_goto (pc := 25) (tgt := 2) hC dX12_keeps_25 (by decide) ?_
    refine g_sub (lv' := [(0, .ref o0), (1, .int x1), (2, .int x2_5)]) [1, 2, 0] rfl ?_
    exact hK2 _ _ _ h
def qX12_keeps_L2  (post : St → Prop)  : Nat → Int32 → Int32 → St → Prop
  | 0 => fun _ _ _ => False
  | n + 1 => qX12_keeps_l2 post (qX12_keeps_L2 post n)
theorem kX12_keeps_L2 {C : Cx} {o0 : Nat} {a0 : Nat → Nat} (hC : Fx C cX12_keeps 3 RX12) (hR0 : xR C = rm 1) {post : St → Prop} (hR : RV C cX12_keeps 3 (fun u : St => (wX12 o0 a0 (xy C) u [])) (fun u => post u))  : ∀ (n : Nat) (x1 : Int32) (x2 : Int32) (u0 : St), qX12_keeps_L2 post n x1 x2 u0 → G C 0 0 3 (wX12 o0 a0 (xy C) u0 []) 2 [(0, .ref o0), (1, .int x1), (2, .int x2)] [] := by
  intro n
  induction n with
  | zero => intro x1 x2 u0 h; exact h.elim
  | succ n ih => intro x1 x2 u0 h; exact kX12_keeps_l2 hC hR0 hR  ih h
def qX12_keeps (x1 : Int32) (u0 : St) (post : St → Prop) : Prop := ∃ n_6 : Nat, qX12_keeps_L2 post n_6 x1 (0 : Int32) u0
set_option maxRecDepth 100000 in
set_option maxHeartbeats 4000000 in
theorem kX12_keeps {C : Cx} {o0 : Nat} {a0 : Nat → Nat} (hC : Fx C cX12_keeps 3 RX12) (hR0 : xR C = rm 1) {post : St → Prop} (hR : RV C cX12_keeps 3 (fun u : St => (wX12 o0 a0 (xy C) u [])) (fun u => post u)) {x1 : Int32} {u0 : St} (h : qX12_keeps x1 u0 post) : G C 0 0 3 (wX12 o0 a0 (xy C) u0 []) 0 [(0, .ref o0), (1, .int x1)] [] := by
  refine g_iconst (pc := 0) (v := 0) hC dX12_keeps_0 (by decide) ?_
  refine g_istore_n (pc := 1) (lv' := [(2, .int (0 : Int32)), (0, .ref o0), (1, .int x1)]) hC dX12_keeps_1 rfl (Nat.le_of_ble_eq_true rfl) rfl ?_
  refine g_sub (lv' := [(0, .ref o0), (1, .int x1), (2, .int (0 : Int32))]) [1, 2, 0] rfl ?_
  obtain ⟨n_6, h⟩ := h
  exact kX12_keeps_L2 hC hR0 hR  n_6 _ _ _ h
theorem ctX12_keeps {l : Launch} {D : va_G} {cy : Nat → ClassId} {kd : Nat → Nat} {o0 : Nat} {a0 : Nat → Nat} {x1 : Int32} {u0 : St} {post : St → Prop} (h : qX12_keeps x1 u0 post) : CtV l D cy kd yX12_keeps cX12_keeps 3 1  [.ref o0, .int x1] (fun u : St => (wX12 o0 a0 cy u [])) u0 (fun u => post u) := met_v (by decide) (Nat.le_of_ble_eq_true rfl) (fun C e1 e2 e3 e4 e5 hC hR => by subst e1 e2 e3 e4; exact kX12_keeps hC e5 hR h)
theorem dX12_restores_0 : decode cX12_restores 0 = .ok (.iconst 0, 1) := by decide +kernel
theorem dX12_restores_1 : decode cX12_restores 1 = .ok (.istore_n 2, 1) := by decide +kernel
theorem dX12_restores_2 : decode cX12_restores 2 = .ok (.iload_n 2, 1) := by decide +kernel
theorem dX12_restores_3 : decode cX12_restores 3 = .ok (.bipush 88, 2) := by decide +kernel
theorem dX12_restores_5 : decode cX12_restores 5 = .ok (.if_icmp .ge 23, 3) := by decide +kernel
theorem dX12_restores_8 : decode cX12_restores 8 = .ok (.aload_n 0, 1) := by decide +kernel
theorem dX12_restores_9 : decode cX12_restores 9 = .ok (.getfield 7, 3) := by decide +kernel
theorem dX12_restores_12 : decode cX12_restores 12 = .ok (.iload_n 2, 1) := by decide +kernel
theorem dX12_restores_13 : decode cX12_restores 13 = .ok (.aload_n 0, 1) := by decide +kernel
theorem dX12_restores_14 : decode cX12_restores 14 = .ok (.getfield 7, 3) := by decide +kernel
theorem dX12_restores_17 : decode cX12_restores 17 = .ok (.iload_n 1, 1) := by decide +kernel
theorem dX12_restores_18 : decode cX12_restores 18 = .ok (.iload_n 2, 1) := by decide +kernel
theorem dX12_restores_19 : decode cX12_restores 19 = .ok (.iadd, 1) := by decide +kernel
theorem dX12_restores_20 : decode cX12_restores 20 = .ok (.iaload, 1) := by decide +kernel
theorem dX12_restores_21 : decode cX12_restores 21 = .ok (.iastore, 1) := by decide +kernel
theorem dX12_restores_22 : decode cX12_restores 22 = .ok (.iinc 2 1, 3) := by decide +kernel
theorem dX12_restores_25 : decode cX12_restores 25 = .ok (.goto (-23), 3) := by decide +kernel
theorem dX12_restores_28 : decode cX12_restores 28 = .ok (.return_, 1) := by decide +kernel
def qX12_restores_l2  (post : St → Prop) (K2 : Int32 → Int32 → St → Prop) (x1 : Int32) (x2 : Int32) (u0 : St) : Prop := (((88 : Int32) ≤ x2 → post u0) ∧ (¬ (88 : Int32) ≤ x2 → (vp_in (x1 + x2) 3072 ∧ (vp_in x2 3072 ∧ ∀ u_4 : St, u_4 = (sw u0 0 (upd (ga u0 0) (x2).toNatClampNeg (ga u0 0 ((x1 + x2)).toNatClampNeg))) → ∀ x2_5 : Int32, x2_5 = x2 + (1 : Int32) → K2 x1 x2_5 u_4))))
set_option maxRecDepth 100000 in
set_option maxHeartbeats 4000000 in
theorem kX12_restores_l2 {C : Cx} {o0 : Nat} {a0 : Nat → Nat} (hC : Fx C cX12_restores 3 RX12) (hR0 : xR C = rm 1) {post : St → Prop} (hR : RV C cX12_restores 3 (fun u : St => (wX12 o0 a0 (xy C) u [])) (fun u => post u))  {K2 : Int32 → Int32 → St → Prop} (hK2 : ∀ (x1 : Int32) (x2 : Int32) (u0 : St), K2 x1 x2 u0 → G C 0 0 3 (wX12 o0 a0 (xy C) u0 []) 2 [(0, .ref o0), (1, .int x1), (2, .int x2)] []) {x1 : Int32} {x2 : Int32} {u0 : St} (h : qX12_restores_l2 post K2 x1 x2 u0) : G C 0 0 3 (wX12 o0 a0 (xy C) u0 []) 2 [(0, .ref o0), (1, .int x1), (2, .int x2)] [] := by
  refine g_iload_n (pc := 2) hC 2 dX12_restores_2 rfl rfl ?_
  refine g_bipush (pc := 3) (v := 88) hC dX12_restores_3 (by decide) ?_
  refine g_icmp_ge (pc := 5) (tgt := 28) hC dX12_restores_5 (by decide) (fun c_3 => ?_) (fun c_3 => ?_)
  · have h := h.1 c_3
    exact hR _ _ u0 dX12_restores_28 h
  · have h := h.2 c_3
    refine g_aload_n (pc := 8) hC 0 dX12_restores_8 rfl rfl ?_
    refine getX12_0 (pc := 9) hC (F := fun Z => Z) (X := []) (fun _ => rfl) fl_X12_7 dX12_restores_9 ?_
    refine g_iload_n (pc := 12) hC 2 dX12_restores_12 rfl rfl ?_
    refine g_aload_n (pc := 13) hC 0 dX12_restores_13 rfl rfl ?_
    refine getX12_0 (pc := 14) hC (F := fun Z => Z) (X := []) (fun _ => rfl) fl_X12_7 dX12_restores_14 ?_
    refine g_iload_n (pc := 17) hC 1 dX12_restores_17 rfl rfl ?_
    refine g_iload_n (pc := 18) hC 2 dX12_restores_18 rfl rfl ?_
    refine g_iadd (pc := 19) hC dX12_restores_19 ?_
    refine aldX12_0 (pc := 20) hC (F := fun Z => Z) (X := []) (fun _ => rfl) h.1 dX12_restores_20 ?_
    have h := h.2
    refine astX12_0 (pc := 21) hC (F := fun Z => Z) (X := []) (fun _ => rfl) h.1 dX12_restores_21 ?_
    have h := h.2
    refine g_st (w := fun z => (wX12 o0 a0 (xy C) z [])) (u := (sw u0 0 (upd (ga u0 0) (x2).toNatClampNeg (ga u0 0 ((x1 + x2)).toNatClampNeg)))) (fun u_4 eu_4 => ?_)
    have h := h u_4 eu_4
    obtain ⟨x2_5, ex2_5⟩ : ∃ z : Int32, z = x2 + (1 : Int32) := ⟨_, rfl⟩
    have h := h x2_5 ex2_5
    refine g_iinc (pc := 22) (v := x2_5) (lv' := [(2, .int x2_5), (0, .ref o0), (1, .int x1)]) hC 2 dX12_restores_22 rfl (by rw [ex2_5]; rfl) (Nat.le_of_ble_eq_true rfl) rfl ?_
    refine g_goto (pc := 25) (tgt := 2) hC dX12_restores_25 (by decide) ?_
    refine g_sub (lv' := [(0, .ref o0), (1, .int x1), (2, .int x2_5)]) [1, 2, 0] rfl ?_
    exact hK2 _ _ _ h
def qX12_restores_L2  (post : St → Prop)  : Nat → Int32 → Int32 → St → Prop
  | 0 => fun _ _ _ => False
  | n + 1 => qX12_restores_l2 post (qX12_restores_L2 post n)
theorem kX12_restores_L2 {C : Cx} {o0 : Nat} {a0 : Nat → Nat} (hC : Fx C cX12_restores 3 RX12) (hR0 : xR C = rm 1) {post : St → Prop} (hR : RV C cX12_restores 3 (fun u : St => (wX12 o0 a0 (xy C) u [])) (fun u => post u))  : ∀ (n : Nat) (x1 : Int32) (x2 : Int32) (u0 : St), qX12_restores_L2 post n x1 x2 u0 → G C 0 0 3 (wX12 o0 a0 (xy C) u0 []) 2 [(0, .ref o0), (1, .int x1), (2, .int x2)] [] := by
  intro n
  induction n with
  | zero => intro x1 x2 u0 h; exact h.elim
  | succ n ih => intro x1 x2 u0 h; exact kX12_restores_l2 hC hR0 hR  ih h
def qX12_restores (x1 : Int32) (u0 : St) (post : St → Prop) : Prop := ∃ n_6 : Nat, qX12_restores_L2 post n_6 x1 (0 : Int32) u0
set_option maxRecDepth 100000 in
set_option maxHeartbeats 4000000 in
theorem kX12_restores {C : Cx} {o0 : Nat} {a0 : Nat → Nat} (hC : Fx C cX12_restores 3 RX12) (hR0 : xR C = rm 1) {post : St → Prop} (hR : RV C cX12_restores 3 (fun u : St => (wX12 o0 a0 (xy C) u [])) (fun u => post u)) {x1 : Int32} {u0 : St} (h : qX12_restores x1 u0 post) : G C 0 0 3 (wX12 o0 a0 (xy C) u0 []) 0 [(0, .ref o0), (1, .int x1)] [] := by
  refine g_iconst (pc := 0) (v := 0) hC dX12_restores_0 (by decide) ?_
  refine g_istore_n (pc := 1) (lv' := [(2, .int (0 : Int32)), (0, .ref o0), (1, .int x1)]) hC dX12_restores_1 rfl (Nat.le_of_ble_eq_true rfl) rfl ?_
  refine g_sub (lv' := [(0, .ref o0), (1, .int x1), (2, .int (0 : Int32))]) [1, 2, 0] rfl ?_
  obtain ⟨n_6, h⟩ := h
  exact kX12_restores_L2 hC hR0 hR  n_6 _ _ _ h
theorem ctX12_restores {l : Launch} {D : va_G} {cy : Nat → ClassId} {kd : Nat → Nat} {o0 : Nat} {a0 : Nat → Nat} {x1 : Int32} {u0 : St} {post : St → Prop} (h : qX12_restores x1 u0 post) : CtV l D cy kd yX12_restores cX12_restores 3 1  [.ref o0, .int x1] (fun u : St => (wX12 o0 a0 cy u [])) u0 (fun u => post u) := met_v (by decide) (Nat.le_of_ble_eq_true rfl) (fun C e1 e2 e3 e4 e5 hC hR => by subst e1 e2 e3 e4; exact kX12_restores hC e5 hR h)
theorem dX12_owedIn_0 : decode cX12_owedIn 0 = .ok (.aload_n 0, 1) := by decide +kernel
theorem dX12_owedIn_1 : decode cX12_owedIn 1 = .ok (.iload_n 1, 1) := by decide +kernel
theorem dX12_owedIn_2 : decode cX12_owedIn 2 = .ok (.invokevirtual 294, 3) := by decide +kernel
theorem dX12_owedIn_5 : decode cX12_owedIn 5 = .ok (.ifCond .eq 15, 3) := by decide +kernel
theorem dX12_owedIn_8 : decode cX12_owedIn 8 = .ok (.iload_n 2, 1) := by decide +kernel
theorem dX12_owedIn_9 : decode cX12_owedIn 9 = .ok (.i2l, 1) := by decide +kernel
theorem dX12_owedIn_10 : decode cX12_owedIn 10 = .ok (.lconst 0, 1) := by decide +kernel
theorem dX12_owedIn_11 : decode cX12_owedIn 11 = .ok (.ldc2_w 350, 3) := by decide +kernel
theorem dX12_owedIn_14 : decode cX12_owedIn 14 = .ok (.invokestatic 315, 3) := by decide +kernel
theorem dX12_owedIn_17 : decode cX12_owedIn 17 = .ok (.ifCond .ne 9, 3) := by decide +kernel
theorem dX12_owedIn_20 : decode cX12_owedIn 20 = .ok (.aload_n 0, 1) := by decide +kernel
theorem dX12_owedIn_21 : decode cX12_owedIn 21 = .ok (.iconst 1, 1) := by decide +kernel
theorem dX12_owedIn_22 : decode cX12_owedIn 22 = .ok (.invokevirtual 88, 3) := by decide +kernel
theorem dX12_owedIn_25 : decode cX12_owedIn 25 = .ok (.ireturn, 1) := by decide +kernel
theorem dX12_owedIn_26 : decode cX12_owedIn 26 = .ok (.aload_n 0, 1) := by decide +kernel
theorem dX12_owedIn_27 : decode cX12_owedIn 27 = .ok (.sipush 2280, 3) := by decide +kernel
theorem dX12_owedIn_30 : decode cX12_owedIn 30 = .ok (.invokevirtual 352, 3) := by decide +kernel
theorem dX12_owedIn_33 : decode cX12_owedIn 33 = .ok (.aload_n 0, 1) := by decide +kernel
theorem dX12_owedIn_34 : decode cX12_owedIn 34 = .ok (.iload_n 2, 1) := by decide +kernel
theorem dX12_owedIn_35 : decode cX12_owedIn 35 = .ok (.invokevirtual 319, 3) := by decide +kernel
theorem dX12_owedIn_38 : decode cX12_owedIn 38 = .ok (.pop, 1) := by decide +kernel
theorem dX12_owedIn_39 : decode cX12_owedIn 39 = .ok (.aload_n 0, 1) := by decide +kernel
theorem dX12_owedIn_40 : decode cX12_owedIn 40 = .ok (.iload_n 1, 1) := by decide +kernel
theorem dX12_owedIn_41 : decode cX12_owedIn 41 = .ok (.invokevirtual 282, 3) := by decide +kernel
theorem dX12_owedIn_44 : decode cX12_owedIn 44 = .ok (.istore_n 3, 1) := by decide +kernel
theorem dX12_owedIn_45 : decode cX12_owedIn 45 = .ok (.aload_n 0, 1) := by decide +kernel
theorem dX12_owedIn_46 : decode cX12_owedIn 46 = .ok (.sipush 2280, 3) := by decide +kernel
theorem dX12_owedIn_49 : decode cX12_owedIn 49 = .ok (.invokevirtual 355, 3) := by decide +kernel
theorem dX12_owedIn_52 : decode cX12_owedIn 52 = .ok (.aload_n 0, 1) := by decide +kernel
theorem dX12_owedIn_53 : decode cX12_owedIn 53 = .ok (.iload_n 3, 1) := by decide +kernel
theorem dX12_owedIn_54 : decode cX12_owedIn 54 = .ok (.invokevirtual 92, 3) := by decide +kernel
theorem dX12_owedIn_57 : decode cX12_owedIn 57 = .ok (.ireturn, 1) := by decide +kernel
def qX12_owedIn_b20  (post : Int32 → St → Prop)  (u0 : St) : Prop := qX12_refuse (1 : Int32) u0 (fun r_23 u_22 => post r_23 u_22)
set_option maxRecDepth 100000 in
set_option maxHeartbeats 4000000 in
theorem kX12_owedIn_b20 {C : Cx} {o0 : Nat} {a0 : Nat → Nat} (hC : Fx C cX12_owedIn 4 RX12) (hR0 : xR C = rm 9) {post : Int32 → St → Prop} (hR : RI C cX12_owedIn 4 (fun u : St => (wX12 o0 a0 (xy C) u [])) (fun r u => post r u))  {u0 : St} (h : qX12_owedIn_b20 post u0) : G C 0 0 4 (wX12 o0 a0 (xy C) u0 []) 20 [(0, .ref o0)] [] := by
  refine g_aload_n (pc := 20) hC 0 dX12_owedIn_20 rfl rfl ?_
  refine g_iconst (pc := 21) (v := 1) hC dX12_owedIn_21 (by decide) ?_
  refine g_callV_i (pc := 22) (wd := fun (u : St) Y => (wX12 o0 a0 (xy C) u Y)) (F := fun Z => Z) (X := []) (As := [.int (1 : Int32)]) (rest := []) (u := u0) hC (fun _ _ => rfl) (fun _ => rfl) (ctX12_refuse h) wvX12_refuse ml_X12_88 (ci := 10) (q0 := 0) rfl rfl rfl rfl (rmok hR0 rfl) ⟨Nat.zero_le _, Nat.zero_le _⟩ rfl (Nat.le_of_ble_eq_true rfl) dX12_owedIn_22 (fun r_23 u_22 h => ?_)
  exact hR _ _ _ u_22 dX12_owedIn_25 h
def qX12_owedIn (x1 : Int32) (x2 : Int32) (u0 : St) (post : Int32 → St → Prop) : Prop := qX12_isDebt x1 u0 (fun r_26 u_25 => ((r_26 = 0 → qX12_owedIn_b20 post u_25) ∧ (¬ r_26 = 0 → qX12_isFrom (x2).toInt64 (0 : Int64) (40 : Int64) (fun r_29 => ((¬ r_29 = 0 → qX12_keeps (2280 : Int32) u_25 (fun u_32 => qX12_yearsGo x2 u_32 (fun r_35 u_34 => qX12_owedOf x1 u_34 (fun r_38 u_37 => qX12_restores (2280 : Int32) u_37 (fun u_40 => qX12_gives r_38 u_40 (fun r_43 u_42 => post r_43 u_42)))))) ∧ (r_29 = 0 → qX12_owedIn_b20 post u_25))))))
set_option maxRecDepth 100000 in
set_option maxHeartbeats 4000000 in
theorem kX12_owedIn {C : Cx} {o0 : Nat} {a0 : Nat → Nat} (hC : Fx C cX12_owedIn 4 RX12) (hR0 : xR C = rm 9) {post : Int32 → St → Prop} (hR : RI C cX12_owedIn 4 (fun u : St => (wX12 o0 a0 (xy C) u [])) (fun r u => post r u)) {x1 : Int32} {x2 : Int32} {u0 : St} (h : qX12_owedIn x1 x2 u0 post) : G C 0 0 4 (wX12 o0 a0 (xy C) u0 []) 0 [(0, .ref o0), (1, .int x1), (2, .int x2)] [] := by
  refine g_aload_n (pc := 0) hC 0 dX12_owedIn_0 rfl rfl ?_
  refine g_iload_n (pc := 1) hC 1 dX12_owedIn_1 rfl rfl ?_
  refine g_callV_i (pc := 2) (wd := fun (u : St) Y => (wX12 o0 a0 (xy C) u Y)) (F := fun Z => Z) (X := []) (As := [.int x1]) (rest := []) (u := u0) hC (fun _ _ => rfl) (fun _ => rfl) (ctX12_isDebt h) wvX12_isDebt ml_X12_294 (ci := 10) (q0 := 0) rfl rfl rfl rfl (rmok hR0 rfl) ⟨Nat.zero_le _, Nat.zero_le _⟩ rfl (Nat.le_of_ble_eq_true rfl) dX12_owedIn_2 (fun r_26 u_25 h => ?_)
  refine g_if_eq (pc := 5) (tgt := 20) hC dX12_owedIn_5 (by decide) (fun c_28 => ?_) (fun c_28 => ?_)
  · have h := h.1 c_28
    refine g_sub (lv' := [(0, .ref o0)]) [0] rfl ?_
    exact kX12_owedIn_b20 hC hR0 hR  h
  · have h := h.2 c_28
    refine g_iload_n (pc := 8) hC 2 dX12_owedIn_8 rfl rfl ?_
    refine g_i2l (pc := 9) hC dX12_owedIn_9 ?_
    refine g_lconst (pc := 10) (v := 0) hC dX12_owedIn_10 (by decide) ?_
    refine g_ldc2 (pc := 11) hC cn_X12_350 dX12_owedIn_11 ?_
    refine g_callS_i (pc := 14) (wd := fun (_ : Unit) Y => Y) (F := fun Z => Z) (X := []) (As := [.long (x2).toInt64, .long (0 : Int64), .long (40 : Int64)]) (rest := []) (u := ()) hC (fun _ _ => rfl) (fun _ => rfl) (ctX12_isFrom h) wvX12_isFrom ml_X12_315 rfl (rmok hR0 rfl) ⟨Nat.zero_le _, Nat.zero_le _⟩ rfl (Nat.le_of_ble_eq_true rfl) dX12_owedIn_14 (fun r_29 u_30 h => ?_)
    refine g_if_ne (pc := 17) (tgt := 26) hC dX12_owedIn_17 (by decide) (fun c_31 => ?_) (fun c_31 => ?_)
    · have h := h.1 c_31
      refine g_aload_n (pc := 26) hC 0 dX12_owedIn_26 rfl rfl ?_
      refine g_sipush (pc := 27) (v := 2280) hC dX12_owedIn_27 (by decide) ?_
      refine g_callV_v (pc := 30) (wd := fun (u : St) Y => (wX12 o0 a0 (xy C) u Y)) (F := fun Z => Z) (X := []) (As := [.int (2280 : Int32)]) (rest := []) (u := u_25) hC (fun _ _ => rfl) (fun _ => rfl) (ctX12_keeps h) wvX12_keeps ml_X12_352 (ci := 10) (q0 := 0) rfl rfl rfl rfl (rmok hR0 rfl) ⟨Nat.zero_le _, Nat.zero_le _⟩ rfl (Nat.le_of_ble_eq_true rfl) dX12_owedIn_30 (fun u_32 h => ?_)
      refine g_aload_n (pc := 33) hC 0 dX12_owedIn_33 rfl rfl ?_
      refine g_iload_n (pc := 34) hC 2 dX12_owedIn_34 rfl rfl ?_
      refine g_callV_i (pc := 35) (wd := fun (u : St) Y => (wX12 o0 a0 (xy C) u Y)) (F := fun Z => Z) (X := []) (As := [.int x2]) (rest := []) (u := u_32) hC (fun _ _ => rfl) (fun _ => rfl) (ctX12_yearsGo h) wvX12_yearsGo ml_X12_319 (ci := 10) (q0 := 0) rfl rfl rfl rfl (rmok hR0 rfl) ⟨Nat.zero_le _, Nat.zero_le _⟩ rfl (Nat.le_of_ble_eq_true rfl) dX12_owedIn_35 (fun r_35 u_34 h => ?_)
      refine g_pop (pc := 38) hC dX12_owedIn_38 rfl ?_
      refine g_aload_n (pc := 39) hC 0 dX12_owedIn_39 rfl rfl ?_
      refine g_iload_n (pc := 40) hC 1 dX12_owedIn_40 rfl rfl ?_
      refine g_callV_i (pc := 41) (wd := fun (u : St) Y => (wX12 o0 a0 (xy C) u Y)) (F := fun Z => Z) (X := []) (As := [.int x1]) (rest := []) (u := u_34) hC (fun _ _ => rfl) (fun _ => rfl) (ctX12_owedOf h) wvX12_owedOf ml_X12_282 (ci := 10) (q0 := 0) rfl rfl rfl rfl (rmok hR0 rfl) ⟨Nat.zero_le _, Nat.zero_le _⟩ rfl (Nat.le_of_ble_eq_true rfl) dX12_owedIn_41 (fun r_38 u_37 h => ?_)
      refine g_istore_n (pc := 44) (lv' := [(3, .int r_38), (0, .ref o0), (1, .int x1), (2, .int x2)]) hC dX12_owedIn_44 rfl (Nat.le_of_ble_eq_true rfl) rfl ?_
      refine g_aload_n (pc := 45) hC 1 dX12_owedIn_45 rfl rfl ?_
      refine g_sipush (pc := 46) (v := 2280) hC dX12_owedIn_46 (by decide) ?_
      refine g_callV_v (pc := 49) (wd := fun (u : St) Y => (wX12 o0 a0 (xy C) u Y)) (F := fun Z => Z) (X := []) (As := [.int (2280 : Int32)]) (rest := []) (u := u_37) hC (fun _ _ => rfl) (fun _ => rfl) (ctX12_restores h) wvX12_restores ml_X12_355 (ci := 10) (q0 := 0) rfl rfl rfl rfl (rmok hR0 rfl) ⟨Nat.zero_le _, Nat.zero_le _⟩ rfl (Nat.le_of_ble_eq_true rfl) dX12_owedIn_49 (fun u_40 h => ?_)
      refine g_aload_n (pc := 52) hC 1 dX12_owedIn_52 rfl rfl ?_
      refine g_iload_n (pc := 53) hC 0 dX12_owedIn_53 rfl rfl ?_
      refine g_callV_i (pc := 54) (wd := fun (u : St) Y => (wX12 o0 a0 (xy C) u Y)) (F := fun Z => Z) (X := []) (As := [.int r_38]) (rest := []) (u := u_40) hC (fun _ _ => rfl) (fun _ => rfl) (ctX12_gives h) wvX12_gives ml_X12_92 (ci := 10) (q0 := 0) rfl rfl rfl rfl (rmok hR0 rfl) ⟨Nat.zero_le _, Nat.zero_le _⟩ rfl (Nat.le_of_ble_eq_true rfl) dX12_owedIn_54 (fun r_43 u_42 h => ?_)
      exact hR _ _ _ u_42 dX12_owedIn_57 h
    · have h := h.2 c_31
      refine g_sub (lv' := [(0, .ref o0)]) [0] rfl ?_
      exact kX12_owedIn_b20 hC hR0 hR  h
theorem ctX12_owedIn {l : Launch} {D : va_G} {cy : Nat → ClassId} {kd : Nat → Nat} {o0 : Nat} {a0 : Nat → Nat} {x1 : Int32} {x2 : Int32} {u0 : St} {post : Int32 → St → Prop} (h : qX12_owedIn x1 x2 u0 post) : CtI l D cy kd yX12_owedIn cX12_owedIn 4 9 .int [.ref o0, .int x1, .int x2] (fun u : St => (wX12 o0 a0 cy u [])) u0 (fun r u => post r u) := met_i (by decide) (Nat.le_of_ble_eq_true rfl) (fun C e1 e2 e3 e4 e5 hC hR => by subst e1 e2 e3 e4; exact kX12_owedIn hC e5 hR h)
theorem dX12_standsIn_0 : decode cX12_standsIn 0 = .ok (.iload_n 1, 1) := by decide +kernel
theorem dX12_standsIn_1 : decode cX12_standsIn 1 = .ok (.i2l, 1) := by decide +kernel
theorem dX12_standsIn_2 : decode cX12_standsIn 2 = .ok (.lconst 0, 1) := by decide +kernel
theorem dX12_standsIn_3 : decode cX12_standsIn 3 = .ok (.ldc2_w 350, 3) := by decide +kernel
theorem dX12_standsIn_6 : decode cX12_standsIn 6 = .ok (.invokestatic 315, 3) := by decide +kernel
theorem dX12_standsIn_9 : decode cX12_standsIn 9 = .ok (.ifCond .ne 9, 3) := by decide +kernel
theorem dX12_standsIn_12 : decode cX12_standsIn 12 = .ok (.aload_n 0, 1) := by decide +kernel
theorem dX12_standsIn_13 : decode cX12_standsIn 13 = .ok (.iconst 1, 1) := by decide +kernel
theorem dX12_standsIn_14 : decode cX12_standsIn 14 = .ok (.invokevirtual 88, 3) := by decide +kernel
theorem dX12_standsIn_17 : decode cX12_standsIn 17 = .ok (.ireturn, 1) := by decide +kernel
theorem dX12_standsIn_18 : decode cX12_standsIn 18 = .ok (.aload_n 0, 1) := by decide +kernel
theorem dX12_standsIn_19 : decode cX12_standsIn 19 = .ok (.sipush 2280, 3) := by decide +kernel
theorem dX12_standsIn_22 : decode cX12_standsIn 22 = .ok (.invokevirtual 352, 3) := by decide +kernel
theorem dX12_standsIn_25 : decode cX12_standsIn 25 = .ok (.aload_n 0, 1) := by decide +kernel
theorem dX12_standsIn_26 : decode cX12_standsIn 26 = .ok (.iload_n 1, 1) := by decide +kernel
theorem dX12_standsIn_27 : decode cX12_standsIn 27 = .ok (.invokevirtual 319, 3) := by decide +kernel
theorem dX12_standsIn_30 : decode cX12_standsIn 30 = .ok (.pop, 1) := by decide +kernel
theorem dX12_standsIn_31 : decode cX12_standsIn 31 = .ok (.aload_n 0, 1) := by decide +kernel
theorem dX12_standsIn_32 : decode cX12_standsIn 32 = .ok (.invokevirtual 279, 3) := by decide +kernel
theorem dX12_standsIn_35 : decode cX12_standsIn 35 = .ok (.istore_n 2, 1) := by decide +kernel
theorem dX12_standsIn_36 : decode cX12_standsIn 36 = .ok (.aload_n 0, 1) := by decide +kernel
theorem dX12_standsIn_37 : decode cX12_standsIn 37 = .ok (.sipush 2280, 3) := by decide +kernel
theorem dX12_standsIn_40 : decode cX12_standsIn 40 = .ok (.invokevirtual 355, 3) := by decide +kernel
theorem dX12_standsIn_43 : decode cX12_standsIn 43 = .ok (.aload_n 0, 1) := by decide +kernel
theorem dX12_standsIn_44 : decode cX12_standsIn 44 = .ok (.iload_n 2, 1) := by decide +kernel
theorem dX12_standsIn_45 : decode cX12_standsIn 45 = .ok (.invokevirtual 92, 3) := by decide +kernel
theorem dX12_standsIn_48 : decode cX12_standsIn 48 = .ok (.ireturn, 1) := by decide +kernel
def qX12_standsIn (x1 : Int32) (u0 : St) (post : Int32 → St → Prop) : Prop := qX12_isFrom (x1).toInt64 (0 : Int64) (40 : Int64) (fun r_19 => ((¬ r_19 = 0 → qX12_keeps (2280 : Int32) u0 (fun u_22 => qX12_yearsGo x1 u_22 (fun r_25 u_24 => qX12_standsNow u_24 (fun r_28 u_27 => qX12_restores (2280 : Int32) u_27 (fun u_30 => qX12_gives r_28 u_30 (fun r_33 u_32 => post r_33 u_32)))))) ∧ (r_19 = 0 → qX12_refuse (1 : Int32) u0 (fun r_36 u_35 => post r_36 u_35))))
set_option maxRecDepth 100000 in
set_option maxHeartbeats 4000000 in
theorem kX12_standsIn {C : Cx} {o0 : Nat} {a0 : Nat → Nat} (hC : Fx C cX12_standsIn 3 RX12) (hR0 : xR C = rm 9) {post : Int32 → St → Prop} (hR : RI C cX12_standsIn 3 (fun u : St => (wX12 o0 a0 (xy C) u [])) (fun r u => post r u)) {x1 : Int32} {u0 : St} (h : qX12_standsIn x1 u0 post) : G C 0 0 3 (wX12 o0 a0 (xy C) u0 []) 0 [(0, .ref o0), (1, .int x1)] [] := by
  refine g_iload_n (pc := 0) hC 1 dX12_standsIn_0 rfl rfl ?_
  refine g_i2l (pc := 1) hC dX12_standsIn_1 ?_
  refine g_lconst (pc := 2) (v := 0) hC dX12_standsIn_2 (by decide) ?_
  refine g_ldc2 (pc := 3) hC cn_X12_350 dX12_standsIn_3 ?_
  refine g_callS_i (pc := 6) (wd := fun (_ : Unit) Y => Y) (F := fun Z => Z) (X := []) (As := [.long (x1).toInt64, .long (0 : Int64), .long (40 : Int64)]) (rest := []) (u := ()) hC (fun _ _ => rfl) (fun _ => rfl) (ctX12_isFrom h) wvX12_isFrom ml_X12_315 rfl (rmok hR0 rfl) ⟨Nat.zero_le _, Nat.zero_le _⟩ rfl (Nat.le_of_ble_eq_true rfl) dX12_standsIn_6 (fun r_19 u_20 h => ?_)
  refine g_if_ne (pc := 9) (tgt := 18) hC dX12_standsIn_9 (by decide) (fun c_21 => ?_) (fun c_21 => ?_)
  · have h := h.1 c_21
    refine g_aload_n (pc := 18) hC 0 dX12_standsIn_18 rfl rfl ?_
    refine g_sipush (pc := 19) (v := 2280) hC dX12_standsIn_19 (by decide) ?_
    refine g_callV_v (pc := 22) (wd := fun (u : St) Y => (wX12 o0 a0 (xy C) u Y)) (F := fun Z => Z) (X := []) (As := [.int (2280 : Int32)]) (rest := []) (u := u0) hC (fun _ _ => rfl) (fun _ => rfl) (ctX12_keeps h) wvX12_keeps ml_X12_352 (ci := 10) (q0 := 0) rfl rfl rfl rfl (rmok hR0 rfl) ⟨Nat.zero_le _, Nat.zero_le _⟩ rfl (Nat.le_of_ble_eq_true rfl) dX12_standsIn_22 (fun u_22 h => ?_)
    refine g_aload_n (pc := 25) hC 0 dX12_standsIn_25 rfl rfl ?_
    refine g_iload_n (pc := 26) hC 1 dX12_standsIn_26 rfl rfl ?_
    refine g_callV_i (pc := 27) (wd := fun (u : St) Y => (wX12 o0 a0 (xy C) u Y)) (F := fun Z => Z) (X := []) (As := [.int x1]) (rest := []) (u := u_22) hC (fun _ _ => rfl) (fun _ => rfl) (ctX12_yearsGo h) wvX12_yearsGo ml_X12_319 (ci := 10) (q0 := 0) rfl rfl rfl rfl (rmok hR0 rfl) ⟨Nat.zero_le _, Nat.zero_le _⟩ rfl (Nat.le_of_ble_eq_true rfl) dX12_standsIn_27 (fun r_25 u_24 h => ?_)
    refine g_pop (pc := 30) hC dX12_standsIn_30 rfl ?_
    refine g_aload_n (pc := 31) hC 0 dX12_standsIn_31 rfl rfl ?_
    refine g_callV_i (pc := 32) (wd := fun (u : St) Y => (wX12 o0 a0 (xy C) u Y)) (F := fun Z => Z) (X := []) (As := []) (rest := []) (u := u_24) hC (fun _ _ => rfl) (fun _ => rfl) (ctX12_standsNow h) wvX12_standsNow ml_X12_279 (ci := 10) (q0 := 0) rfl rfl rfl rfl (rmok hR0 rfl) ⟨Nat.zero_le _, Nat.zero_le _⟩ rfl (Nat.le_of_ble_eq_true rfl) dX12_standsIn_32 (fun r_28 u_27 h => ?_)
    refine g_istore_n (pc := 35) (lv' := [(2, .int r_28), (0, .ref o0), (1, .int x1)]) hC dX12_standsIn_35 rfl (Nat.le_of_ble_eq_true rfl) rfl ?_
    refine g_aload_n (pc := 36) hC 1 dX12_standsIn_36 rfl rfl ?_
    refine g_sipush (pc := 37) (v := 2280) hC dX12_standsIn_37 (by decide) ?_
    refine g_callV_v (pc := 40) (wd := fun (u : St) Y => (wX12 o0 a0 (xy C) u Y)) (F := fun Z => Z) (X := []) (As := [.int (2280 : Int32)]) (rest := []) (u := u_27) hC (fun _ _ => rfl) (fun _ => rfl) (ctX12_restores h) wvX12_restores ml_X12_355 (ci := 10) (q0 := 0) rfl rfl rfl rfl (rmok hR0 rfl) ⟨Nat.zero_le _, Nat.zero_le _⟩ rfl (Nat.le_of_ble_eq_true rfl) dX12_standsIn_40 (fun u_30 h => ?_)
    refine g_aload_n (pc := 43) hC 1 dX12_standsIn_43 rfl rfl ?_
    refine g_iload_n (pc := 44) hC 0 dX12_standsIn_44 rfl rfl ?_
    refine g_callV_i (pc := 45) (wd := fun (u : St) Y => (wX12 o0 a0 (xy C) u Y)) (F := fun Z => Z) (X := []) (As := [.int r_28]) (rest := []) (u := u_30) hC (fun _ _ => rfl) (fun _ => rfl) (ctX12_gives h) wvX12_gives ml_X12_92 (ci := 10) (q0 := 0) rfl rfl rfl rfl (rmok hR0 rfl) ⟨Nat.zero_le _, Nat.zero_le _⟩ rfl (Nat.le_of_ble_eq_true rfl) dX12_standsIn_45 (fun r_33 u_32 h => ?_)
    exact hR _ _ _ u_32 dX12_standsIn_48 h
  · have h := h.2 c_21
    refine g_aload_n (pc := 12) hC 0 dX12_standsIn_12 rfl rfl ?_
    refine g_iconst (pc := 13) (v := 1) hC dX12_standsIn_13 (by decide) ?_
    refine g_callV_i (pc := 14) (wd := fun (u : St) Y => (wX12 o0 a0 (xy C) u Y)) (F := fun Z => Z) (X := []) (As := [.int (1 : Int32)]) (rest := []) (u := u0) hC (fun _ _ => rfl) (fun _ => rfl) (ctX12_refuse h) wvX12_refuse ml_X12_88 (ci := 10) (q0 := 0) rfl rfl rfl rfl (rmok hR0 rfl) ⟨Nat.zero_le _, Nat.zero_le _⟩ rfl (Nat.le_of_ble_eq_true rfl) dX12_standsIn_14 (fun r_36 u_35 h => ?_)
    exact hR _ _ _ u_35 dX12_standsIn_17 h
theorem ctX12_standsIn {l : Launch} {D : va_G} {cy : Nat → ClassId} {kd : Nat → Nat} {o0 : Nat} {a0 : Nat → Nat} {x1 : Int32} {u0 : St} {post : Int32 → St → Prop} (h : qX12_standsIn x1 u0 post) : CtI l D cy kd yX12_standsIn cX12_standsIn 3 9 .int [.ref o0, .int x1] (fun u : St => (wX12 o0 a0 cy u [])) u0 (fun r u => post r u) := met_i (by decide) (Nat.le_of_ble_eq_true rfl) (fun C e1 e2 e3 e4 e5 hC hR => by subst e1 e2 e3 e4; exact kX12_standsIn hC e5 hR h)
theorem dX12_fallsIn_0 : decode cX12_fallsIn 0 = .ok (.aload_n 0, 1) := by decide +kernel
theorem dX12_fallsIn_1 : decode cX12_fallsIn 1 = .ok (.iload_n 1, 1) := by decide +kernel
theorem dX12_fallsIn_2 : decode cX12_fallsIn 2 = .ok (.invokevirtual 291, 3) := by decide +kernel
theorem dX12_fallsIn_5 : decode cX12_fallsIn 5 = .ok (.ifCond .ne 9, 3) := by decide +kernel
theorem dX12_fallsIn_8 : decode cX12_fallsIn 8 = .ok (.aload_n 0, 1) := by decide +kernel
theorem dX12_fallsIn_9 : decode cX12_fallsIn 9 = .ok (.iconst 1, 1) := by decide +kernel
theorem dX12_fallsIn_10 : decode cX12_fallsIn 10 = .ok (.invokevirtual 88, 3) := by decide +kernel
theorem dX12_fallsIn_13 : decode cX12_fallsIn 13 = .ok (.ireturn, 1) := by decide +kernel
theorem dX12_fallsIn_14 : decode cX12_fallsIn 14 = .ok (.iconst (-1), 1) := by decide +kernel
theorem dX12_fallsIn_15 : decode cX12_fallsIn 15 = .ok (.istore_n 2, 1) := by decide +kernel
theorem dX12_fallsIn_16 : decode cX12_fallsIn 16 = .ok (.aload_n 0, 1) := by decide +kernel
theorem dX12_fallsIn_17 : decode cX12_fallsIn 17 = .ok (.aload_n 0, 1) := by decide +kernel
theorem dX12_fallsIn_18 : decode cX12_fallsIn 18 = .ok (.getfield 7, 3) := by decide +kernel
theorem dX12_fallsIn_21 : decode cX12_fallsIn 21 = .ok (.iconst 5, 1) := by decide +kernel
theorem dX12_fallsIn_22 : decode cX12_fallsIn 22 = .ok (.iaload, 1) := by decide +kernel
theorem dX12_fallsIn_23 : decode cX12_fallsIn 23 = .ok (.iload_n 1, 1) := by decide +kernel
theorem dX12_fallsIn_24 : decode cX12_fallsIn 24 = .ok (.invokevirtual 201, 3) := by decide +kernel
theorem dX12_fallsIn_27 : decode cX12_fallsIn 27 = .ok (.ifCond .ne 7, 3) := by decide +kernel
theorem dX12_fallsIn_30 : decode cX12_fallsIn 30 = .ok (.iconst 1, 1) := by decide +kernel
theorem dX12_fallsIn_31 : decode cX12_fallsIn 31 = .ok (.goto 4, 3) := by decide +kernel
theorem dX12_fallsIn_34 : decode cX12_fallsIn 34 = .ok (.iconst 0, 1) := by decide +kernel
theorem dX12_fallsIn_35 : decode cX12_fallsIn 35 = .ok (.istore_n 3, 1) := by decide +kernel
theorem dX12_fallsIn_36 : decode cX12_fallsIn 36 = .ok (.aload_n 0, 1) := by decide +kernel
theorem dX12_fallsIn_37 : decode cX12_fallsIn 37 = .ok (.sipush 2280, 3) := by decide +kernel
theorem dX12_fallsIn_40 : decode cX12_fallsIn 40 = .ok (.invokevirtual 352, 3) := by decide +kernel
theorem dX12_fallsIn_43 : decode cX12_fallsIn 43 = .ok (.iconst 1, 1) := by decide +kernel
theorem dX12_fallsIn_44 : decode cX12_fallsIn 44 = .ok (.istore 4, 2) := by decide +kernel
theorem dX12_fallsIn_46 : decode cX12_fallsIn 46 = .ok (.iload 4, 2) := by decide +kernel
theorem dX12_fallsIn_48 : decode cX12_fallsIn 48 = .ok (.bipush 40, 2) := by decide +kernel
theorem dX12_fallsIn_50 : decode cX12_fallsIn 50 = .ok (.if_icmp .gt 40, 3) := by decide +kernel
theorem dX12_fallsIn_53 : decode cX12_fallsIn 53 = .ok (.iload_n 3, 1) := by decide +kernel
theorem dX12_fallsIn_54 : decode cX12_fallsIn 54 = .ok (.ifCond .eq 36, 3) := by decide +kernel
theorem dX12_fallsIn_57 : decode cX12_fallsIn 57 = .ok (.iload_n 2, 1) := by decide +kernel
theorem dX12_fallsIn_58 : decode cX12_fallsIn 58 = .ok (.iconst (-1), 1) := by decide +kernel
theorem dX12_fallsIn_59 : decode cX12_fallsIn 59 = .ok (.if_icmp .ne 31, 3) := by decide +kernel
theorem dX12_fallsIn_62 : decode cX12_fallsIn 62 = .ok (.aload_n 0, 1) := by decide +kernel
theorem dX12_fallsIn_63 : decode cX12_fallsIn 63 = .ok (.invokevirtual 310, 3) := by decide +kernel
theorem dX12_fallsIn_66 : decode cX12_fallsIn 66 = .ok (.pop, 1) := by decide +kernel
theorem dX12_fallsIn_67 : decode cX12_fallsIn 67 = .ok (.aload_n 0, 1) := by decide +kernel
theorem dX12_fallsIn_68 : decode cX12_fallsIn 68 = .ok (.aload_n 0, 1) := by decide +kernel
theorem dX12_fallsIn_69 : decode cX12_fallsIn 69 = .ok (.getfield 7, 3) := by decide +kernel
theorem dX12_fallsIn_72 : decode cX12_fallsIn 72 = .ok (.iconst 5, 1) := by decide +kernel
theorem dX12_fallsIn_73 : decode cX12_fallsIn 73 = .ok (.iaload, 1) := by decide +kernel
theorem dX12_fallsIn_74 : decode cX12_fallsIn 74 = .ok (.iload_n 1, 1) := by decide +kernel
theorem dX12_fallsIn_75 : decode cX12_fallsIn 75 = .ok (.invokevirtual 201, 3) := by decide +kernel
theorem dX12_fallsIn_78 : decode cX12_fallsIn 78 = .ok (.ifCond .eq 6, 3) := by decide +kernel
theorem dX12_fallsIn_81 : decode cX12_fallsIn 81 = .ok (.iload 4, 2) := by decide +kernel
theorem dX12_fallsIn_83 : decode cX12_fallsIn 83 = .ok (.istore_n 2, 1) := by decide +kernel
theorem dX12_fallsIn_84 : decode cX12_fallsIn 84 = .ok (.iinc 4 1, 3) := by decide +kernel
theorem dX12_fallsIn_87 : decode cX12_fallsIn 87 = .ok (.goto (-41), 3) := by decide +kernel
theorem dX12_fallsIn_90 : decode cX12_fallsIn 90 = .ok (.aload_n 0, 1) := by decide +kernel
theorem dX12_fallsIn_91 : decode cX12_fallsIn 91 = .ok (.sipush 2280, 3) := by decide +kernel
theorem dX12_fallsIn_94 : decode cX12_fallsIn 94 = .ok (.invokevirtual 355, 3) := by decide +kernel
theorem dX12_fallsIn_97 : decode cX12_fallsIn 97 = .ok (.aload_n 0, 1) := by decide +kernel
theorem dX12_fallsIn_98 : decode cX12_fallsIn 98 = .ok (.iload_n 2, 1) := by decide +kernel
theorem dX12_fallsIn_99 : decode cX12_fallsIn 99 = .ok (.invokevirtual 358, 3) := by decide +kernel
theorem dX12_fallsIn_102 : decode cX12_fallsIn 102 = .ok (.ireturn, 1) := by decide +kernel
def qX12_fallsIn_b84  (post : Int32 → St → Prop) (K46 : Int32 → Int32 → Int32 → Int32 → St → Prop) (x1 : Int32) (x2 : Int32) (x3 : Int32) (x4 : Int32) (u0 : St) : Prop := ∀ x4_24 : Int32, x4_24 = x4 + (1 : Int32) → K46 x1 x2 x3 x4_24 u0
set_option maxRecDepth 100000 in
set_option maxHeartbeats 4000000 in
theorem kX12_fallsIn_b84 {C : Cx} {o0 : Nat} {a0 : Nat → Nat} (hC : Fx C cX12_fallsIn 5 RX12) (hR0 : xR C = rm 8) {post : Int32 → St → Prop} (hR : RI C cX12_fallsIn 5 (fun u : St => (wX12 o0 a0 (xy C) u [])) (fun r u => post r u)) {K46 : Int32 → Int32 → Int32 → Int32 → St → Prop} (hK46 : ∀ (x1 : Int32) (x2 : Int32) (x3 : Int32) (x4 : Int32) (u0 : St), K46 x1 x2 x3 x4 u0 → G C 0 0 5 (wX12 o0 a0 (xy C) u0 []) 46 [(0, .ref o0), (1, .int x1), (2, .int x2), (3, .int x3), (4, .int x4)] []) {x1 : Int32} {x2 : Int32} {x3 : Int32} {x4 : Int32} {u0 : St} (h : qX12_fallsIn_b84 post K46 x1 x2 x3 x4 u0) : G C 0 0 5 (wX12 o0 a0 (xy C) u0 []) 84 [(0, .ref o0), (1, .int x1), (2, .int x2), (3, .int x3), (4, .int x4)] [] := by
  obtain ⟨x4_24, ex4_24⟩ : ∃ z : Int32, z = x4 + (1 : Int32) := ⟨_, rfl⟩
  have h := h x4_24 ex4_24
  refine g_iinc (pc := 84) (v := x4_24) (lv' := [(4, .int x4_24), (0, .ref o0), (1, .int x1), (2, .int x2), (3, .int x3)]) hC 4 dX12_fallsIn_84 rfl (by rw [ex4_24]; rfl) (Nat.le_of_ble_eq_true rfl) rfl ?_
  refine g_goto (pc := 87) (tgt := 46) hC dX12_fallsIn_87 (by decide) ?_
  refine g_sub (lv' := [(0, .ref o0), (1, .int x1), (2, .int x2), (3, .int x3), (4, .int x4_24)]) [1, 2, 3, 4, 0] rfl ?_
  exact hK46 _ _ _ _ _ h
def qX12_fallsIn_b90  (post : Int32 → St → Prop)  (x2 : Int32) (u0 : St) : Prop := qX12_restores (2280 : Int32) u0 (fun u_25 => qX12_orNone x2 u_25 (fun r_28 u_27 => post r_28 u_27))
set_option maxRecDepth 100000 in
set_option maxHeartbeats 4000000 in
theorem kX12_fallsIn_b90 {C : Cx} {o0 : Nat} {a0 : Nat → Nat} (hC : Fx C cX12_fallsIn 5 RX12) (hR0 : xR C = rm 8) {post : Int32 → St → Prop} (hR : RI C cX12_fallsIn 5 (fun u : St => (wX12 o0 a0 (xy C) u [])) (fun r u => post r u))  {x2 : Int32} {u0 : St} (h : qX12_fallsIn_b90 post x2 u0) : G C 0 0 5 (wX12 o0 a0 (xy C) u0 []) 90 [(0, .ref o0), (2, .int x2)] [] := by
  refine g_aload_n (pc := 90) hC 0 dX12_fallsIn_90 rfl rfl ?_
  refine g_sipush (pc := 91) (v := 2280) hC dX12_fallsIn_91 (by decide) ?_
  refine g_callV_v (pc := 94) (wd := fun (u : St) Y => (wX12 o0 a0 (xy C) u Y)) (F := fun Z => Z) (X := []) (As := [.int (2280 : Int32)]) (rest := []) (u := u0) hC (fun _ _ => rfl) (fun _ => rfl) (ctX12_restores h) wvX12_restores ml_X12_355 (ci := 10) (q0 := 0) rfl rfl rfl rfl (rmok hR0 rfl) ⟨Nat.zero_le _, Nat.zero_le _⟩ rfl (Nat.le_of_ble_eq_true rfl) dX12_fallsIn_94 (fun u_25 h => ?_)
  refine g_aload_n (pc := 97) hC 0 dX12_fallsIn_97 rfl rfl ?_
  refine g_iload_n (pc := 98) hC 1 dX12_fallsIn_98 rfl rfl ?_
  refine g_callV_i (pc := 99) (wd := fun (u : St) Y => (wX12 o0 a0 (xy C) u Y)) (F := fun Z => Z) (X := []) (As := [.int x2]) (rest := []) (u := u_25) hC (fun _ _ => rfl) (fun _ => rfl) (ctX12_orNone h) wvX12_orNone ml_X12_358 (ci := 10) (q0 := 0) rfl rfl rfl rfl (rmok hR0 rfl) ⟨Nat.zero_le _, Nat.zero_le _⟩ rfl (Nat.le_of_ble_eq_true rfl) dX12_fallsIn_99 (fun r_28 u_27 h => ?_)
  exact hR _ _ _ u_27 dX12_fallsIn_102 h
def qX12_fallsIn_l46  (post : Int32 → St → Prop) (K46 : Int32 → Int32 → Int32 → Int32 → St → Prop) (x1 : Int32) (x2 : Int32) (x3 : Int32) (x4 : Int32) (u0 : St) : Prop := (((40 : Int32) < x4 → qX12_fallsIn_b90 post x2 u0) ∧ (¬ (40 : Int32) < x4 → ((x3 = 0 → qX12_fallsIn_b90 post x2 u0) ∧ (¬ x3 = 0 → ((¬ x2 = (-1 : Int32) → qX12_fallsIn_b90 post x2 u0) ∧ (x2 = (-1 : Int32) → qX12_yearGoes u0 (fun r_34 u_33 => qX12_isIn (ga u_33 0 ((5 : Int32)).toNatClampNeg) x1 u_33 (fun r_37 u_36 => ((r_37 = 0 → qX12_fallsIn_b84 post K46 x1 x2 x3 x4 u_36) ∧ (¬ r_37 = 0 → qX12_fallsIn_b84 post K46 x1 x4 x3 x4 u_36))))))))))
set_option maxRecDepth 100000 in
set_option maxHeartbeats 4000000 in
theorem kX12_fallsIn_l46 {C : Cx} {o0 : Nat} {a0 : Nat → Nat} (hC : Fx C cX12_fallsIn 5 RX12) (hR0 : xR C = rm 8) {post : Int32 → St → Prop} (hR : RI C cX12_fallsIn 5 (fun u : St => (wX12 o0 a0 (xy C) u [])) (fun r u => post r u))  {K46 : Int32 → Int32 → Int32 → Int32 → St → Prop} (hK46 : ∀ (x1 : Int32) (x2 : Int32) (x3 : Int32) (x4 : Int32) (u0 : St), K46 x1 x2 x3 x4 u0 → G C 0 0 5 (wX12 o0 a0 (xy C) u0 []) 46 [(0, .ref o0), (1, .int x1), (2, .int x2), (3, .int x3), (4, .int x4)] []) {x1 : Int32} {x2 : Int32} {x3 : Int32} {x4 : Int32} {u0 : St} (h : qX12_fallsIn_l46 post K46 x1 x2 x3 x4 u0) : G C 0 0 5 (wX12 o0 a0 (xy C) u0 []) 46 [(0, .ref o0), (1, .int x1), (2, .int x2), (3, .int x3), (4, .int x4)] [] := by
  refine g_iload (pc := 46) hC 4 dX12_fallsIn_46 rfl ?_
  refine g_bipush (pc := 48) (v := 40) hC dX12_fallsIn_48 (by decide) ?_
  refine g_icmp_gt (pc := 50) (tgt := 90) hC dX12_fallsIn_50 (by decide) (fun c_30 => ?_) (fun c_30 => ?_)
  · have h := h.1 c_30
    refine g_sub (lv' := [(0, .ref o0), (2, .int x2)]) [0, 2] rfl ?_
    exact kX12_fallsIn_b90 hC hR0 hR  h
  · have h := h.2 c_30
    refine g_iload_n (pc := 53) hC 3 dX12_fallsIn_53 rfl rfl ?_
    refine g_if_eq (pc := 54) (tgt := 90) hC dX12_fallsIn_54 (by decide) (fun c_31 => ?_) (fun c_31 => ?_)
    · have h := h.1 c_31
      refine g_sub (lv' := [(0, .ref o0), (2, .int x2)]) [0, 2] rfl ?_
      exact kX12_fallsIn_b90 hC hR0 hR  h
    · have h := h.2 c_31
      refine g_iload_n (pc := 57) hC 2 dX12_fallsIn_57 rfl rfl ?_
      refine g_iconst (pc := 58) (v := -1) hC dX12_fallsIn_58 (by decide) ?_
      refine g_icmp_ne (pc := 59) (tgt := 90) hC dX12_fallsIn_59 (by decide) (fun c_32 => ?_) (fun c_32 => ?_)
      · have h := h.1 c_32
        refine g_sub (lv' := [(0, .ref o0), (2, .int x2)]) [0, 2] rfl ?_
        exact kX12_fallsIn_b90 hC hR0 hR  h
      · have h := h.2 c_32
        refine g_aload_n (pc := 62) hC 0 dX12_fallsIn_62 rfl rfl ?_
        refine g_callV_i (pc := 63) (wd := fun (u : St) Y => (wX12 o0 a0 (xy C) u Y)) (F := fun Z => Z) (X := []) (As := []) (rest := []) (u := u0) hC (fun _ _ => rfl) (fun _ => rfl) (ctX12_yearGoes h) wvX12_yearGoes ml_X12_310 (ci := 10) (q0 := 0) rfl rfl rfl rfl (rmok hR0 rfl) ⟨Nat.zero_le _, Nat.zero_le _⟩ rfl (Nat.le_of_ble_eq_true rfl) dX12_fallsIn_63 (fun r_34 u_33 h => ?_)
        refine g_pop (pc := 66) hC dX12_fallsIn_66 rfl ?_
        refine g_aload_n (pc := 67) hC 0 dX12_fallsIn_67 rfl rfl ?_
        refine g_aload_n (pc := 68) hC 0 dX12_fallsIn_68 rfl rfl ?_
        refine getX12_0 (pc := 69) hC (F := fun Z => Z) (X := []) (fun _ => rfl) fl_X12_7 dX12_fallsIn_69 ?_
        refine g_iconst (pc := 72) (v := 5) hC dX12_fallsIn_72 (by decide) ?_
        refine aldX12_0 (pc := 73) hC (F := fun Z => Z) (X := []) (fun _ => rfl) (by unfold vp_in; decide) dX12_fallsIn_73 ?_
        refine g_iload_n (pc := 74) hC 1 dX12_fallsIn_74 rfl rfl ?_
        refine g_callV_i (pc := 75) (wd := fun (u : St) Y => (wX12 o0 a0 (xy C) u Y)) (F := fun Z => Z) (X := []) (As := [.int (ga u_33 0 ((5 : Int32)).toNatClampNeg), .int x1]) (rest := []) (u := u_33) hC (fun _ _ => rfl) (fun _ => rfl) (ctX12_isIn h) wvX12_isIn ml_X12_201 (ci := 10) (q0 := 0) rfl rfl rfl rfl (rmok hR0 rfl) ⟨Nat.zero_le _, Nat.zero_le _⟩ rfl (Nat.le_of_ble_eq_true rfl) dX12_fallsIn_75 (fun r_37 u_36 h => ?_)
        refine g_if_eq (pc := 78) (tgt := 84) hC dX12_fallsIn_78 (by decide) (fun c_39 => ?_) (fun c_39 => ?_)
        · have h := h.1 c_39
          exact kX12_fallsIn_b84 hC hR0 hR hK46 h
        · have h := h.2 c_39
          refine g_iload (pc := 81) hC 4 dX12_fallsIn_81 rfl ?_
          refine g_istore_n (pc := 83) (lv' := [(2, .int x4), (0, .ref o0), (1, .int x1), (3, .int x3), (4, .int x4)]) hC dX12_fallsIn_83 rfl (Nat.le_of_ble_eq_true rfl) rfl ?_
          refine g_sub (lv' := [(0, .ref o0), (1, .int x1), (2, .int x4), (3, .int x3), (4, .int x4)]) [1, 2, 0, 3, 4] rfl ?_
          exact kX12_fallsIn_b84 hC hR0 hR hK46 h
def qX12_fallsIn_L46  (post : Int32 → St → Prop)  : Nat → Int32 → Int32 → Int32 → Int32 → St → Prop
  | 0 => fun _ _ _ _ _ => False
  | n + 1 => qX12_fallsIn_l46 post (qX12_fallsIn_L46 post n)
theorem kX12_fallsIn_L46 {C : Cx} {o0 : Nat} {a0 : Nat → Nat} (hC : Fx C cX12_fallsIn 5 RX12) (hR0 : xR C = rm 8) {post : Int32 → St → Prop} (hR : RI C cX12_fallsIn 5 (fun u : St => (wX12 o0 a0 (xy C) u [])) (fun r u => post r u))  : ∀ (n : Nat) (x1 : Int32) (x2 : Int32) (x3 : Int32) (x4 : Int32) (u0 : St), qX12_fallsIn_L46 post n x1 x2 x3 x4 u0 → G C 0 0 5 (wX12 o0 a0 (xy C) u0 []) 46 [(0, .ref o0), (1, .int x1), (2, .int x2), (3, .int x3), (4, .int x4)] [] := by
  intro n
  induction n with
  | zero => intro x1 x2 x3 x4 u0 h; exact h.elim
  | succ n ih => intro x1 x2 x3 x4 u0 h; exact kX12_fallsIn_l46 hC hR0 hR  ih h
def qX12_fallsIn_b35  (post : Int32 → St → Prop)  (x1 : Int32) (x2 : Int32) (s0 : Int32) (u0 : St) : Prop := qX12_keeps (2280 : Int32) u0 (fun u_40 => ∃ n_42 : Nat, qX12_fallsIn_L46 post n_42 x1 x2 s0 (1 : Int32) u_40)
set_option maxRecDepth 100000 in
set_option maxHeartbeats 4000000 in
theorem kX12_fallsIn_b35 {C : Cx} {o0 : Nat} {a0 : Nat → Nat} (hC : Fx C cX12_fallsIn 5 RX12) (hR0 : xR C = rm 8) {post : Int32 → St → Prop} (hR : RI C cX12_fallsIn 5 (fun u : St => (wX12 o0 a0 (xy C) u [])) (fun r u => post r u))  {x1 : Int32} {x2 : Int32} {s0 : Int32} {u0 : St} (h : qX12_fallsIn_b35 post x1 x2 s0 u0) : G C 0 0 5 (wX12 o0 a0 (xy C) u0 []) 35 [(0, .ref o0), (1, .int x1), (2, .int x2)] [.int s0] := by
  refine g_istore_n (pc := 35) (lv' := [(3, .int s0), (0, .ref o0), (1, .int x1), (2, .int x2)]) hC dX12_fallsIn_35 rfl (Nat.le_of_ble_eq_true rfl) rfl ?_
  refine g_aload_n (pc := 36) hC 1 dX12_fallsIn_36 rfl rfl ?_
  refine g_sipush (pc := 37) (v := 2280) hC dX12_fallsIn_37 (by decide) ?_
  refine g_callV_v (pc := 40) (wd := fun (u : St) Y => (wX12 o0 a0 (xy C) u Y)) (F := fun Z => Z) (X := []) (As := [.int (2280 : Int32)]) (rest := []) (u := u0) hC (fun _ _ => rfl) (fun _ => rfl) (ctX12_keeps h) wvX12_keeps ml_X12_352 (ci := 10) (q0 := 0) rfl rfl rfl rfl (rmok hR0 rfl) ⟨Nat.zero_le _, Nat.zero_le _⟩ rfl (Nat.le_of_ble_eq_true rfl) dX12_fallsIn_40 (fun u_40 h => ?_)
  refine g_iconst (pc := 43) (v := 1) hC dX12_fallsIn_43 (by decide) ?_
  refine g_istore (pc := 44) (lv' := [(4, .int (1 : Int32)), (3, .int s0), (0, .ref o0), (1, .int x1), (2, .int x2)]) hC dX12_fallsIn_44 (Nat.le_of_ble_eq_true rfl) rfl ?_
  refine g_sub (lv' := [(0, .ref o0), (1, .int x1), (2, .int x2), (3, .int s0), (4, .int (1 : Int32))]) [2, 3, 4, 1, 0] rfl ?_
  obtain ⟨n_42, h⟩ := h
  exact kX12_fallsIn_L46 hC hR0 hR  n_42 _ _ _ _ _ h
def qX12_fallsIn (x1 : Int32) (u0 : St) (post : Int32 → St → Prop) : Prop := qX12_isStone x1 u0 (fun r_44 u_43 => ((¬ r_44 = 0 → qX12_isIn (ga u_43 0 ((5 : Int32)).toNatClampNeg) x1 u_43 (fun r_48 u_47 => ((¬ r_48 = 0 → qX12_fallsIn_b35 post x1 (-1 : Int32) (0 : Int32) u_47) ∧ (r_48 = 0 → qX12_fallsIn_b35 post x1 (-1 : Int32) (1 : Int32) u_47)))) ∧ (r_44 = 0 → qX12_refuse (1 : Int32) u_43 (fun r_52 u_51 => post r_52 u_51))))
set_option maxRecDepth 100000 in
set_option maxHeartbeats 4000000 in
theorem kX12_fallsIn {C : Cx} {o0 : Nat} {a0 : Nat → Nat} (hC : Fx C cX12_fallsIn 5 RX12) (hR0 : xR C = rm 8) {post : Int32 → St → Prop} (hR : RI C cX12_fallsIn 5 (fun u : St => (wX12 o0 a0 (xy C) u [])) (fun r u => post r u)) {x1 : Int32} {u0 : St} (h : qX12_fallsIn x1 u0 post) : G C 0 0 5 (wX12 o0 a0 (xy C) u0 []) 0 [(0, .ref o0), (1, .int x1)] [] := by
  refine g_aload_n (pc := 0) hC 0 dX12_fallsIn_0 rfl rfl ?_
  refine g_iload_n (pc := 1) hC 1 dX12_fallsIn_1 rfl rfl ?_
  refine g_callV_i (pc := 2) (wd := fun (u : St) Y => (wX12 o0 a0 (xy C) u Y)) (F := fun Z => Z) (X := []) (As := [.int x1]) (rest := []) (u := u0) hC (fun _ _ => rfl) (fun _ => rfl) (ctX12_isStone h) wvX12_isStone ml_X12_291 (ci := 10) (q0 := 0) rfl rfl rfl rfl (rmok hR0 rfl) ⟨Nat.zero_le _, Nat.zero_le _⟩ rfl (Nat.le_of_ble_eq_true rfl) dX12_fallsIn_2 (fun r_44 u_43 h => ?_)
  refine g_if_ne (pc := 5) (tgt := 14) hC dX12_fallsIn_5 (by decide) (fun c_46 => ?_) (fun c_46 => ?_)
  · have h := h.1 c_46
    refine g_iconst (pc := 14) (v := -1) hC dX12_fallsIn_14 (by decide) ?_
    refine g_istore_n (pc := 15) (lv' := [(2, .int (-1 : Int32)), (0, .ref o0), (1, .int x1)]) hC dX12_fallsIn_15 rfl (Nat.le_of_ble_eq_true rfl) rfl ?_
    refine g_aload_n (pc := 16) hC 1 dX12_fallsIn_16 rfl rfl ?_
    refine g_aload_n (pc := 17) hC 1 dX12_fallsIn_17 rfl rfl ?_
    refine getX12_0 (pc := 18) hC (F := fun Z => Z) (X := []) (fun _ => rfl) fl_X12_7 dX12_fallsIn_18 ?_
    refine g_iconst (pc := 21) (v := 5) hC dX12_fallsIn_21 (by decide) ?_
    refine aldX12_0 (pc := 22) hC (F := fun Z => Z) (X := []) (fun _ => rfl) (by unfold vp_in; decide) dX12_fallsIn_22 ?_
    refine g_iload_n (pc := 23) hC 2 dX12_fallsIn_23 rfl rfl ?_
    refine g_callV_i (pc := 24) (wd := fun (u : St) Y => (wX12 o0 a0 (xy C) u Y)) (F := fun Z => Z) (X := []) (As := [.int (ga u_43 0 ((5 : Int32)).toNatClampNeg), .int x1]) (rest := []) (u := u_43) hC (fun _ _ => rfl) (fun _ => rfl) (ctX12_isIn h) wvX12_isIn ml_X12_201 (ci := 10) (q0 := 0) rfl rfl rfl rfl (rmok hR0 rfl) ⟨Nat.zero_le _, Nat.zero_le _⟩ rfl (Nat.le_of_ble_eq_true rfl) dX12_fallsIn_24 (fun r_48 u_47 h => ?_)
    refine g_if_ne (pc := 27) (tgt := 34) hC dX12_fallsIn_27 (by decide) (fun c_50 => ?_) (fun c_50 => ?_)
    · have h := h.1 c_50
      refine g_iconst (pc := 34) (v := 0) hC dX12_fallsIn_34 (by decide) ?_
      refine g_sub (lv' := [(0, .ref o0), (1, .int x1), (2, .int (-1 : Int32))]) [1, 2, 0] rfl ?_
      exact kX12_fallsIn_b35 hC hR0 hR  h
    · have h := h.2 c_50
      refine g_iconst (pc := 30) (v := 1) hC dX12_fallsIn_30 (by decide) ?_
      refine g_goto (pc := 31) (tgt := 35) hC dX12_fallsIn_31 (by decide) ?_
      refine g_sub (lv' := [(0, .ref o0), (1, .int x1), (2, .int (-1 : Int32))]) [1, 2, 0] rfl ?_
      exact kX12_fallsIn_b35 hC hR0 hR  h
  · have h := h.2 c_46
    refine g_aload_n (pc := 8) hC 0 dX12_fallsIn_8 rfl rfl ?_
    refine g_iconst (pc := 9) (v := 1) hC dX12_fallsIn_9 (by decide) ?_
    refine g_callV_i (pc := 10) (wd := fun (u : St) Y => (wX12 o0 a0 (xy C) u Y)) (F := fun Z => Z) (X := []) (As := [.int (1 : Int32)]) (rest := []) (u := u_43) hC (fun _ _ => rfl) (fun _ => rfl) (ctX12_refuse h) wvX12_refuse ml_X12_88 (ci := 10) (q0 := 0) rfl rfl rfl rfl (rmok hR0 rfl) ⟨Nat.zero_le _, Nat.zero_le _⟩ rfl (Nat.le_of_ble_eq_true rfl) dX12_fallsIn_10 (fun r_52 u_51 h => ?_)
    exact hR _ _ _ u_51 dX12_fallsIn_13 h
theorem ctX12_fallsIn {l : Launch} {D : va_G} {cy : Nat → ClassId} {kd : Nat → Nat} {o0 : Nat} {a0 : Nat → Nat} {x1 : Int32} {u0 : St} {post : Int32 → St → Prop} (h : qX12_fallsIn x1 u0 post) : CtI l D cy kd yX12_fallsIn cX12_fallsIn 5 8 .int [.ref o0, .int x1] (fun u : St => (wX12 o0 a0 cy u [])) u0 (fun r u => post r u) := met_i (by decide) (Nat.le_of_ble_eq_true rfl) (fun C e1 e2 e3 e4 e5 hC hR => by subst e1 e2 e3 e4; exact kX12_fallsIn hC e5 hR h)
theorem dX12_areDebts_0 : decode cX12_areDebts 0 = .ok (.lload_n 1, 1) := by decide +kernel
theorem dX12_areDebts_1 : decode cX12_areDebts 1 = .ok (.lconst 0, 1) := by decide +kernel
theorem dX12_areDebts_2 : decode cX12_areDebts 2 = .ok (.aload_n 0, 1) := by decide +kernel
theorem dX12_areDebts_3 : decode cX12_areDebts 3 = .ok (.invokevirtual 267, 3) := by decide +kernel
theorem dX12_areDebts_6 : decode cX12_areDebts 6 = .ok (.i2l, 1) := by decide +kernel
theorem dX12_areDebts_7 : decode cX12_areDebts 7 = .ok (.invokestatic 315, 3) := by decide +kernel
theorem dX12_areDebts_10 : decode cX12_areDebts 10 = .ok (.ireturn, 1) := by decide +kernel
def qX12_areDebts (x1 : Int64) (u0 : St) (post : Int32 → St → Prop) : Prop := qX12_allDebts u0 (fun r_7 u_6 => qX12_isFrom x1 (0 : Int64) (r_7).toInt64 (fun r_9 => (bz r_9 ∧ post r_9 u_6)))
set_option maxRecDepth 100000 in
set_option maxHeartbeats 4000000 in
theorem kX12_areDebts {C : Cx} {o0 : Nat} {a0 : Nat → Nat} (hC : Fx C cX12_areDebts 3 RX12) (hR0 : xR C = rm 2) {post : Int32 → St → Prop} (hR : RZ C cX12_areDebts 3 (fun u : St => (wX12 o0 a0 (xy C) u [])) (fun r u => post r u)) {x1 : Int64} {u0 : St} (h : qX12_areDebts x1 u0 post) : G C 0 0 3 (wX12 o0 a0 (xy C) u0 []) 0 [(0, .ref o0), (1, .long x1)] [] := by
  refine g_lload_n (pc := 0) hC 1 dX12_areDebts_0 rfl rfl ?_
  refine g_lconst (pc := 1) (v := 0) hC dX12_areDebts_1 (by decide) ?_
  refine g_aload_n (pc := 2) hC 0 dX12_areDebts_2 rfl rfl ?_
  refine g_callV_i (pc := 3) (wd := fun (u : St) Y => (wX12 o0 a0 (xy C) u Y)) (F := fun Z => Z) (X := []) (As := []) (rest := [.long (0 : Int64), .long x1]) (u := u0) hC (fun _ _ => rfl) (fun _ => rfl) (ctX12_allDebts h) wvX12_allDebts ml_X12_267 (ci := 10) (q0 := 0) rfl rfl rfl rfl (rmok hR0 rfl) ⟨Nat.zero_le _, Nat.zero_le _⟩ rfl (Nat.le_of_ble_eq_true rfl) dX12_areDebts_3 (fun r_7 u_6 h => ?_)
  refine g_i2l (pc := 6) hC dX12_areDebts_6 ?_
  refine g_callS_i (pc := 7) (wd := fun (_ : Unit) Y => Y) (F := fun Z => Z) (X := []) (As := [.long x1, .long (0 : Int64), .long (r_7).toInt64]) (rest := []) (u := ()) hC (fun _ _ => rfl) (fun _ => rfl) (ctX12_isFrom h) wvX12_isFrom ml_X12_315 rfl (rmok hR0 rfl) ⟨Nat.zero_le _, Nat.zero_le _⟩ rfl (Nat.le_of_ble_eq_true rfl) dX12_areDebts_7 (fun r_9 u_10 h => ?_)
  exact hR _ _ _ u_6 dX12_areDebts_10 h.1 h.2
theorem ctX12_areDebts {l : Launch} {D : va_G} {cy : Nat → ClassId} {kd : Nat → Nat} {o0 : Nat} {a0 : Nat → Nat} {x1 : Int64} {u0 : St} {post : Int32 → St → Prop} (h : qX12_areDebts x1 u0 post) : CtI l D cy kd yX12_areDebts cX12_areDebts 3 2 .boolean [.ref o0, .long x1] (fun u : St => (wX12 o0 a0 cy u [])) u0 (fun r u => post r u) := met_z (by decide) (Nat.le_of_ble_eq_true rfl) (fun C e1 e2 e3 e4 e5 hC hR => by subst e1 e2 e3 e4; exact kX12_areDebts hC e5 hR h)
theorem dX12_bareOf_0 : decode cX12_bareOf 0 = .ok (.aload_n 0, 1) := by decide +kernel
theorem dX12_bareOf_1 : decode cX12_bareOf 1 = .ok (.invokevirtual 279, 3) := by decide +kernel
theorem dX12_bareOf_4 : decode cX12_bareOf 4 = .ok (.aload_n 0, 1) := by decide +kernel
theorem dX12_bareOf_5 : decode cX12_bareOf 5 = .ok (.iload_n 1, 1) := by decide +kernel
theorem dX12_bareOf_6 : decode cX12_bareOf 6 = .ok (.iconst (-1), 1) := by decide +kernel
theorem dX12_bareOf_7 : decode cX12_bareOf 7 = .ok (.invokevirtual 273, 3) := by decide +kernel
theorem dX12_bareOf_10 : decode cX12_bareOf 10 = .ok (.iconst (-1), 1) := by decide +kernel
theorem dX12_bareOf_11 : decode cX12_bareOf 11 = .ok (.ixor, 1) := by decide +kernel
theorem dX12_bareOf_12 : decode cX12_bareOf 12 = .ok (.iand, 1) := by decide +kernel
theorem dX12_bareOf_13 : decode cX12_bareOf 13 = .ok (.ireturn, 1) := by decide +kernel
def qX12_bareOf (x1 : Int32) (u0 : St) (post : Int32 → St → Prop) : Prop := qX12_standsNow u0 (fun r_8 u_7 => qX12_standing x1 (-1 : Int32) u_7 (fun r_11 u_10 => post (r_8 &&& (r_11 ^^^ (-1 : Int32))) u_10))
set_option maxRecDepth 100000 in
set_option maxHeartbeats 4000000 in
theorem kX12_bareOf {C : Cx} {o0 : Nat} {a0 : Nat → Nat} (hC : Fx C cX12_bareOf 2 RX12) (hR0 : xR C = rm 6) {post : Int32 → St → Prop} (hR : RI C cX12_bareOf 2 (fun u : St => (wX12 o0 a0 (xy C) u [])) (fun r u => post r u)) {x1 : Int32} {u0 : St} (h : qX12_bareOf x1 u0 post) : G C 0 0 2 (wX12 o0 a0 (xy C) u0 []) 0 [(0, .ref o0), (1, .int x1)] [] := by
  refine g_aload_n (pc := 0) hC 0 dX12_bareOf_0 rfl rfl ?_
  refine g_callV_i (pc := 1) (wd := fun (u : St) Y => (wX12 o0 a0 (xy C) u Y)) (F := fun Z => Z) (X := []) (As := []) (rest := []) (u := u0) hC (fun _ _ => rfl) (fun _ => rfl) (ctX12_standsNow h) wvX12_standsNow ml_X12_279 (ci := 10) (q0 := 0) rfl rfl rfl rfl (rmok hR0 rfl) ⟨Nat.zero_le _, Nat.zero_le _⟩ rfl (Nat.le_of_ble_eq_true rfl) dX12_bareOf_1 (fun r_8 u_7 h => ?_)
  refine g_aload_n (pc := 4) hC 0 dX12_bareOf_4 rfl rfl ?_
  refine g_iload_n (pc := 5) hC 1 dX12_bareOf_5 rfl rfl ?_
  refine g_iconst (pc := 6) (v := -1) hC dX12_bareOf_6 (by decide) ?_
  refine g_callV_i (pc := 7) (wd := fun (u : St) Y => (wX12 o0 a0 (xy C) u Y)) (F := fun Z => Z) (X := []) (As := [.int x1, .int (-1 : Int32)]) (rest := [.int r_8]) (u := u_7) hC (fun _ _ => rfl) (fun _ => rfl) (ctX12_standing h) wvX12_standing ml_X12_273 (ci := 10) (q0 := 0) rfl rfl rfl rfl (rmok hR0 rfl) ⟨Nat.zero_le _, Nat.zero_le _⟩ rfl (Nat.le_of_ble_eq_true rfl) dX12_bareOf_7 (fun r_11 u_10 h => ?_)
  refine g_iconst (pc := 10) (v := -1) hC dX12_bareOf_10 (by decide) ?_
  refine g_ixor (pc := 11) hC dX12_bareOf_11 ?_
  refine g_iand (pc := 12) hC dX12_bareOf_12 ?_
  exact hR _ _ _ u_10 dX12_bareOf_13 h
theorem ctX12_bareOf {l : Launch} {D : va_G} {cy : Nat → ClassId} {kd : Nat → Nat} {o0 : Nat} {a0 : Nat → Nat} {x1 : Int32} {u0 : St} {post : Int32 → St → Prop} (h : qX12_bareOf x1 u0 post) : CtI l D cy kd yX12_bareOf cX12_bareOf 2 6 .int [.ref o0, .int x1] (fun u : St => (wX12 o0 a0 cy u [])) u0 (fun r u => post r u) := met_i (by decide) (Nat.le_of_ble_eq_true rfl) (fun C e1 e2 e3 e4 e5 hC hR => by subst e1 e2 e3 e4; exact kX12_bareOf hC e5 hR h)
theorem dX12_bare_0 : decode cX12_bare 0 = .ok (.aload_n 0, 1) := by decide +kernel
theorem dX12_bare_1 : decode cX12_bare 1 = .ok (.iload_n 1, 1) := by decide +kernel
theorem dX12_bare_2 : decode cX12_bare 2 = .ok (.i2l, 1) := by decide +kernel
theorem dX12_bare_3 : decode cX12_bare 3 = .ok (.invokevirtual 361, 3) := by decide +kernel
theorem dX12_bare_6 : decode cX12_bare 6 = .ok (.ifCond .ne 9, 3) := by decide +kernel
theorem dX12_bare_9 : decode cX12_bare 9 = .ok (.aload_n 0, 1) := by decide +kernel
theorem dX12_bare_10 : decode cX12_bare 10 = .ok (.iconst 1, 1) := by decide +kernel
theorem dX12_bare_11 : decode cX12_bare 11 = .ok (.invokevirtual 88, 3) := by decide +kernel
theorem dX12_bare_14 : decode cX12_bare 14 = .ok (.ireturn, 1) := by decide +kernel
theorem dX12_bare_15 : decode cX12_bare 15 = .ok (.aload_n 0, 1) := by decide +kernel
theorem dX12_bare_16 : decode cX12_bare 16 = .ok (.aload_n 0, 1) := by decide +kernel
theorem dX12_bare_17 : decode cX12_bare 17 = .ok (.iload_n 1, 1) := by decide +kernel
theorem dX12_bare_18 : decode cX12_bare 18 = .ok (.invokevirtual 365, 3) := by decide +kernel
theorem dX12_bare_21 : decode cX12_bare 21 = .ok (.invokevirtual 92, 3) := by decide +kernel
theorem dX12_bare_24 : decode cX12_bare 24 = .ok (.ireturn, 1) := by decide +kernel
def qX12_bare (x1 : Int32) (u0 : St) (post : Int32 → St → Prop) : Prop := qX12_areDebts (x1).toInt64 u0 (fun r_14 u_13 => ((¬ r_14 = 0 → qX12_bareOf x1 u_13 (fun r_18 u_17 => qX12_gives r_18 u_17 (fun r_21 u_20 => post r_21 u_20))) ∧ (r_14 = 0 → qX12_refuse (1 : Int32) u_13 (fun r_24 u_23 => post r_24 u_23))))
set_option maxRecDepth 100000 in
set_option maxHeartbeats 4000000 in
theorem kX12_bare {C : Cx} {o0 : Nat} {a0 : Nat → Nat} (hC : Fx C cX12_bare 2 RX12) (hR0 : xR C = rm 7) {post : Int32 → St → Prop} (hR : RI C cX12_bare 2 (fun u : St => (wX12 o0 a0 (xy C) u [])) (fun r u => post r u)) {x1 : Int32} {u0 : St} (h : qX12_bare x1 u0 post) : G C 0 0 2 (wX12 o0 a0 (xy C) u0 []) 0 [(0, .ref o0), (1, .int x1)] [] := by
  refine g_aload_n (pc := 0) hC 0 dX12_bare_0 rfl rfl ?_
  refine g_iload_n (pc := 1) hC 1 dX12_bare_1 rfl rfl ?_
  refine g_i2l (pc := 2) hC dX12_bare_2 ?_
  refine g_callV_i (pc := 3) (wd := fun (u : St) Y => (wX12 o0 a0 (xy C) u Y)) (F := fun Z => Z) (X := []) (As := [.long (x1).toInt64]) (rest := []) (u := u0) hC (fun _ _ => rfl) (fun _ => rfl) (ctX12_areDebts h) wvX12_areDebts ml_X12_361 (ci := 10) (q0 := 0) rfl rfl rfl rfl (rmok hR0 rfl) ⟨Nat.zero_le _, Nat.zero_le _⟩ rfl (Nat.le_of_ble_eq_true rfl) dX12_bare_3 (fun r_14 u_13 h => ?_)
  refine g_if_ne (pc := 6) (tgt := 15) hC dX12_bare_6 (by decide) (fun c_16 => ?_) (fun c_16 => ?_)
  · have h := h.1 c_16
    refine g_aload_n (pc := 15) hC 0 dX12_bare_15 rfl rfl ?_
    refine g_aload_n (pc := 16) hC 0 dX12_bare_16 rfl rfl ?_
    refine g_iload_n (pc := 17) hC 1 dX12_bare_17 rfl rfl ?_
    refine g_callV_i (pc := 18) (wd := fun (u : St) Y => (wX12 o0 a0 (xy C) u Y)) (F := fun Z => Z) (X := []) (As := [.int x1]) (rest := [.ref o0]) (u := u_13) hC (fun _ _ => rfl) (fun _ => rfl) (ctX12_bareOf h) wvX12_bareOf ml_X12_365 (ci := 10) (q0 := 0) rfl rfl rfl rfl (rmok hR0 rfl) ⟨Nat.zero_le _, Nat.zero_le _⟩ rfl (Nat.le_of_ble_eq_true rfl) dX12_bare_18 (fun r_18 u_17 h => ?_)
    refine g_callV_i (pc := 21) (wd := fun (u : St) Y => (wX12 o0 a0 (xy C) u Y)) (F := fun Z => Z) (X := []) (As := [.int r_18]) (rest := []) (u := u_17) hC (fun _ _ => rfl) (fun _ => rfl) (ctX12_gives h) wvX12_gives ml_X12_92 (ci := 10) (q0 := 0) rfl rfl rfl rfl (rmok hR0 rfl) ⟨Nat.zero_le _, Nat.zero_le _⟩ rfl (Nat.le_of_ble_eq_true rfl) dX12_bare_21 (fun r_21 u_20 h => ?_)
    exact hR _ _ _ u_20 dX12_bare_24 h
  · have h := h.2 c_16
    refine g_aload_n (pc := 9) hC 0 dX12_bare_9 rfl rfl ?_
    refine g_iconst (pc := 10) (v := 1) hC dX12_bare_10 (by decide) ?_
    refine g_callV_i (pc := 11) (wd := fun (u : St) Y => (wX12 o0 a0 (xy C) u Y)) (F := fun Z => Z) (X := []) (As := [.int (1 : Int32)]) (rest := []) (u := u_13) hC (fun _ _ => rfl) (fun _ => rfl) (ctX12_refuse h) wvX12_refuse ml_X12_88 (ci := 10) (q0 := 0) rfl rfl rfl rfl (rmok hR0 rfl) ⟨Nat.zero_le _, Nat.zero_le _⟩ rfl (Nat.le_of_ble_eq_true rfl) dX12_bare_11 (fun r_24 u_23 h => ?_)
    exact hR _ _ _ u_23 dX12_bare_14 h
theorem ctX12_bare {l : Launch} {D : va_G} {cy : Nat → ClassId} {kd : Nat → Nat} {o0 : Nat} {a0 : Nat → Nat} {x1 : Int32} {u0 : St} {post : Int32 → St → Prop} (h : qX12_bare x1 u0 post) : CtI l D cy kd yX12_bare cX12_bare 2 7 .int [.ref o0, .int x1] (fun u : St => (wX12 o0 a0 cy u [])) u0 (fun r u => post r u) := met_i (by decide) (Nat.le_of_ble_eq_true rfl) (fun C e1 e2 e3 e4 e5 hC hR => by subst e1 e2 e3 e4; exact kX12_bare hC e5 hR h)
theorem dX12_bestBare_0 : decode cX12_bestBare 0 = .ok (.iconst (-1), 1) := by decide +kernel
theorem dX12_bestBare_1 : decode cX12_bestBare 1 = .ok (.istore_n 2, 1) := by decide +kernel
theorem dX12_bestBare_2 : decode cX12_bestBare 2 = .ok (.aload_n 0, 1) := by decide +kernel
theorem dX12_bestBare_3 : decode cX12_bestBare 3 = .ok (.invokevirtual 368, 3) := by decide +kernel
theorem dX12_bestBare_6 : decode cX12_bestBare 6 = .ok (.istore_n 3, 1) := by decide +kernel
theorem dX12_bestBare_7 : decode cX12_bestBare 7 = .ok (.iconst 0, 1) := by decide +kernel
theorem dX12_bestBare_8 : decode cX12_bestBare 8 = .ok (.istore 4, 2) := by decide +kernel
theorem dX12_bestBare_10 : decode cX12_bestBare 10 = .ok (.iload 4, 2) := by decide +kernel
theorem dX12_bestBare_12 : decode cX12_bestBare 12 = .ok (.iload_n 3, 1) := by decide +kernel
theorem dX12_bestBare_13 : decode cX12_bestBare 13 = .ok (.if_icmp .gt 113, 3) := by decide +kernel
theorem dX12_bestBare_16 : decode cX12_bestBare 16 = .ok (.iload 4, 2) := by decide +kernel
theorem dX12_bestBare_18 : decode cX12_bestBare 18 = .ok (.iload_n 3, 1) := by decide +kernel
theorem dX12_bestBare_19 : decode cX12_bestBare 19 = .ok (.iconst (-1), 1) := by decide +kernel
theorem dX12_bestBare_20 : decode cX12_bestBare 20 = .ok (.ixor, 1) := by decide +kernel
theorem dX12_bestBare_21 : decode cX12_bestBare 21 = .ok (.iand, 1) := by decide +kernel
theorem dX12_bestBare_22 : decode cX12_bestBare 22 = .ok (.ifCond .eq 6, 3) := by decide +kernel
theorem dX12_bestBare_25 : decode cX12_bestBare 25 = .ok (.goto 95, 3) := by decide +kernel
theorem dX12_bestBare_28 : decode cX12_bestBare 28 = .ok (.aload_n 0, 1) := by decide +kernel
theorem dX12_bestBare_29 : decode cX12_bestBare 29 = .ok (.iload 4, 2) := by decide +kernel
theorem dX12_bestBare_31 : decode cX12_bestBare 31 = .ok (.invokevirtual 365, 3) := by decide +kernel
theorem dX12_bestBare_34 : decode cX12_bestBare 34 = .ok (.istore 5, 2) := by decide +kernel
theorem dX12_bestBare_36 : decode cX12_bestBare 36 = .ok (.iload_n 1, 1) := by decide +kernel
theorem dX12_bestBare_37 : decode cX12_bestBare 37 = .ok (.iconst (-1), 1) := by decide +kernel
theorem dX12_bestBare_38 : decode cX12_bestBare 38 = .ok (.if_icmp .ne 16, 3) := by decide +kernel
theorem dX12_bestBare_41 : decode cX12_bestBare 41 = .ok (.iload 5, 2) := by decide +kernel
theorem dX12_bestBare_43 : decode cX12_bestBare 43 = .ok (.ifCond .ne 7, 3) := by decide +kernel
theorem dX12_bestBare_46 : decode cX12_bestBare 46 = .ok (.iconst 1, 1) := by decide +kernel
theorem dX12_bestBare_47 : decode cX12_bestBare 47 = .ok (.goto 14, 3) := by decide +kernel
theorem dX12_bestBare_50 : decode cX12_bestBare 50 = .ok (.iconst 0, 1) := by decide +kernel
theorem dX12_bestBare_51 : decode cX12_bestBare 51 = .ok (.goto 10, 3) := by decide +kernel
theorem dX12_bestBare_54 : decode cX12_bestBare 54 = .ok (.aload_n 0, 1) := by decide +kernel
theorem dX12_bestBare_55 : decode cX12_bestBare 55 = .ok (.iload 5, 2) := by decide +kernel
theorem dX12_bestBare_57 : decode cX12_bestBare 57 = .ok (.iload_n 1, 1) := by decide +kernel
theorem dX12_bestBare_58 : decode cX12_bestBare 58 = .ok (.invokevirtual 201, 3) := by decide +kernel
theorem dX12_bestBare_61 : decode cX12_bestBare 61 = .ok (.istore 6, 2) := by decide +kernel
theorem dX12_bestBare_63 : decode cX12_bestBare 63 = .ok (.iload_n 2, 1) := by decide +kernel
theorem dX12_bestBare_64 : decode cX12_bestBare 64 = .ok (.iconst (-1), 1) := by decide +kernel
theorem dX12_bestBare_65 : decode cX12_bestBare 65 = .ok (.if_icmp .eq 35, 3) := by decide +kernel
theorem dX12_bestBare_68 : decode cX12_bestBare 68 = .ok (.iload_n 1, 1) := by decide +kernel
theorem dX12_bestBare_69 : decode cX12_bestBare 69 = .ok (.iconst (-1), 1) := by decide +kernel
theorem dX12_bestBare_70 : decode cX12_bestBare 70 = .ok (.if_icmp .ne 18, 3) := by decide +kernel
theorem dX12_bestBare_73 : decode cX12_bestBare 73 = .ok (.iload 4, 2) := by decide +kernel
theorem dX12_bestBare_75 : decode cX12_bestBare 75 = .ok (.invokestatic 276, 3) := by decide +kernel
theorem dX12_bestBare_78 : decode cX12_bestBare 78 = .ok (.iload_n 2, 1) := by decide +kernel
theorem dX12_bestBare_79 : decode cX12_bestBare 79 = .ok (.invokestatic 276, 3) := by decide +kernel
theorem dX12_bestBare_82 : decode cX12_bestBare 82 = .ok (.if_icmp .le 22, 3) := by decide +kernel
theorem dX12_bestBare_85 : decode cX12_bestBare 85 = .ok (.goto 15, 3) := by decide +kernel
theorem dX12_bestBare_88 : decode cX12_bestBare 88 = .ok (.iload 4, 2) := by decide +kernel
theorem dX12_bestBare_90 : decode cX12_bestBare 90 = .ok (.invokestatic 276, 3) := by decide +kernel
theorem dX12_bestBare_93 : decode cX12_bestBare 93 = .ok (.iload_n 2, 1) := by decide +kernel
theorem dX12_bestBare_94 : decode cX12_bestBare 94 = .ok (.invokestatic 276, 3) := by decide +kernel
theorem dX12_bestBare_97 : decode cX12_bestBare 97 = .ok (.if_icmp .ge 7, 3) := by decide +kernel
theorem dX12_bestBare_100 : decode cX12_bestBare 100 = .ok (.iconst 1, 1) := by decide +kernel
theorem dX12_bestBare_101 : decode cX12_bestBare 101 = .ok (.goto 4, 3) := by decide +kernel
theorem dX12_bestBare_104 : decode cX12_bestBare 104 = .ok (.iconst 0, 1) := by decide +kernel
theorem dX12_bestBare_105 : decode cX12_bestBare 105 = .ok (.istore 7, 2) := by decide +kernel
theorem dX12_bestBare_107 : decode cX12_bestBare 107 = .ok (.iload 6, 2) := by decide +kernel
theorem dX12_bestBare_109 : decode cX12_bestBare 109 = .ok (.ifCond .eq 11, 3) := by decide +kernel
theorem dX12_bestBare_112 : decode cX12_bestBare 112 = .ok (.iload 7, 2) := by decide +kernel
theorem dX12_bestBare_114 : decode cX12_bestBare 114 = .ok (.ifCond .eq 6, 3) := by decide +kernel
theorem dX12_bestBare_117 : decode cX12_bestBare 117 = .ok (.iload 4, 2) := by decide +kernel
theorem dX12_bestBare_119 : decode cX12_bestBare 119 = .ok (.istore_n 2, 1) := by decide +kernel
theorem dX12_bestBare_120 : decode cX12_bestBare 120 = .ok (.iinc 4 1, 3) := by decide +kernel
theorem dX12_bestBare_123 : decode cX12_bestBare 123 = .ok (.goto (-113), 3) := by decide +kernel
theorem dX12_bestBare_126 : decode cX12_bestBare 126 = .ok (.iload_n 2, 1) := by decide +kernel
theorem dX12_bestBare_127 : decode cX12_bestBare 127 = .ok (.ireturn, 1) := by decide +kernel
def qX12_bestBare_b120  (post : Int32 → St → Prop) (K10 : Int32 → Int32 → Int32 → Int32 → St → Prop) (x1 : Int32) (x2 : Int32) (x3 : Int32) (x4 : Int32) (u0 : St) : Prop := ∀ x4_19 : Int32, x4_19 = x4 + (1 : Int32) → K10 x1 x2 x3 x4_19 u0
set_option maxRecDepth 100000 in
set_option maxHeartbeats 4000000 in
theorem kX12_bestBare_b120 {C : Cx} {o0 : Nat} {a0 : Nat → Nat} (hC : Fx C cX12_bestBare 8 RX12) (hR0 : xR C = rm 7) {post : Int32 → St → Prop} (hR : RI C cX12_bestBare 8 (fun u : St => (wX12 o0 a0 (xy C) u [])) (fun r u => post r u)) {K10 : Int32 → Int32 → Int32 → Int32 → St → Prop} (hK10 : ∀ (x1 : Int32) (x2 : Int32) (x3 : Int32) (x4 : Int32) (u0 : St), K10 x1 x2 x3 x4 u0 → G C 0 0 8 (wX12 o0 a0 (xy C) u0 []) 10 [(0, .ref o0), (1, .int x1), (2, .int x2), (3, .int x3), (4, .int x4)] []) {x1 : Int32} {x2 : Int32} {x3 : Int32} {x4 : Int32} {u0 : St} (h : qX12_bestBare_b120 post K10 x1 x2 x3 x4 u0) : G C 0 0 8 (wX12 o0 a0 (xy C) u0 []) 120 [(0, .ref o0), (1, .int x1), (2, .int x2), (3, .int x3), (4, .int x4)] [] := by
  obtain ⟨x4_19, ex4_19⟩ : ∃ z : Int32, z = x4 + (1 : Int32) := ⟨_, rfl⟩
  have h := h x4_19 ex4_19
  refine g_iinc (pc := 120) (v := x4_19) (lv' := [(4, .int x4_19), (0, .ref o0), (1, .int x1), (2, .int x2), (3, .int x3)]) hC 4 dX12_bestBare_120 rfl (by rw [ex4_19]; rfl) (Nat.le_of_ble_eq_true rfl) rfl ?_
  refine g_goto (pc := 123) (tgt := 10) hC dX12_bestBare_123 (by decide) ?_
  refine g_sub (lv' := [(0, .ref o0), (1, .int x1), (2, .int x2), (3, .int x3), (4, .int x4_19)]) [1, 2, 3, 4, 0] rfl ?_
  exact hK10 _ _ _ _ _ h
def qX12_bestBare_b105  (post : Int32 → St → Prop) (K10 : Int32 → Int32 → Int32 → Int32 → St → Prop) (x1 : Int32) (x2 : Int32) (x3 : Int32) (x4 : Int32) (x6 : Int32) (s0 : Int32) (u0 : St) : Prop := ((x6 = 0 → qX12_bestBare_b120 post K10 x1 x2 x3 x4 u0) ∧ (¬ x6 = 0 → ((s0 = 0 → qX12_bestBare_b120 post K10 x1 x2 x3 x4 u0) ∧ (¬ s0 = 0 → qX12_bestBare_b120 post K10 x1 x4 x3 x4 u0))))
set_option maxRecDepth 100000 in
set_option maxHeartbeats 4000000 in
theorem kX12_bestBare_b105 {C : Cx} {o0 : Nat} {a0 : Nat → Nat} (hC : Fx C cX12_bestBare 8 RX12) (hR0 : xR C = rm 7) {post : Int32 → St → Prop} (hR : RI C cX12_bestBare 8 (fun u : St => (wX12 o0 a0 (xy C) u [])) (fun r u => post r u)) {K10 : Int32 → Int32 → Int32 → Int32 → St → Prop} (hK10 : ∀ (x1 : Int32) (x2 : Int32) (x3 : Int32) (x4 : Int32) (u0 : St), K10 x1 x2 x3 x4 u0 → G C 0 0 8 (wX12 o0 a0 (xy C) u0 []) 10 [(0, .ref o0), (1, .int x1), (2, .int x2), (3, .int x3), (4, .int x4)] []) {x1 : Int32} {x2 : Int32} {x3 : Int32} {x4 : Int32} {x6 : Int32} {s0 : Int32} {u0 : St} (h : qX12_bestBare_b105 post K10 x1 x2 x3 x4 x6 s0 u0) : G C 0 0 8 (wX12 o0 a0 (xy C) u0 []) 105 [(0, .ref o0), (1, .int x1), (2, .int x2), (3, .int x3), (4, .int x4), (6, .int x6)] [.int s0] := by
  refine g_istore (pc := 105) (lv' := [(7, .int s0), (0, .ref o0), (1, .int x1), (2, .int x2), (3, .int x3), (4, .int x4), (6, .int x6)]) hC dX12_bestBare_105 (Nat.le_of_ble_eq_true rfl) rfl ?_
  refine g_iload (pc := 107) hC 6 dX12_bestBare_107 rfl ?_
  refine g_if_eq (pc := 109) (tgt := 120) hC dX12_bestBare_109 (by decide) (fun c_20 => ?_) (fun c_20 => ?_)
  · have h := h.1 c_20
    refine g_sub (lv' := [(0, .ref o0), (1, .int x1), (2, .int x2), (3, .int x3), (4, .int x4)]) [1, 2, 3, 4, 5] rfl ?_
    exact kX12_bestBare_b120 hC hR0 hR hK10 h
  · have h := h.2 c_20
    refine g_iload (pc := 112) hC 0 dX12_bestBare_112 rfl ?_
    refine g_if_eq (pc := 114) (tgt := 120) hC dX12_bestBare_114 (by decide) (fun c_21 => ?_) (fun c_21 => ?_)
    · have h := h.1 c_21
      refine g_sub (lv' := [(0, .ref o0), (1, .int x1), (2, .int x2), (3, .int x3), (4, .int x4)]) [1, 2, 3, 4, 5] rfl ?_
      exact kX12_bestBare_b120 hC hR0 hR hK10 h
    · have h := h.2 c_21
      refine g_iload (pc := 117) hC 5 dX12_bestBare_117 rfl ?_
      refine g_istore_n (pc := 119) (lv' := [(2, .int x4), (7, .int s0), (0, .ref o0), (1, .int x1), (3, .int x3), (4, .int x4), (6, .int x6)]) hC dX12_bestBare_119 rfl (Nat.le_of_ble_eq_true rfl) rfl ?_
      refine g_sub (lv' := [(0, .ref o0), (1, .int x1), (2, .int x4), (3, .int x3), (4, .int x4)]) [2, 3, 0, 4, 5] rfl ?_
      exact kX12_bestBare_b120 hC hR0 hR hK10 h
def qX12_bestBare_b100  (post : Int32 → St → Prop) (K10 : Int32 → Int32 → Int32 → Int32 → St → Prop) (x1 : Int32) (x2 : Int32) (x3 : Int32) (x4 : Int32) (x6 : Int32) (u0 : St) : Prop := qX12_bestBare_b105 post K10 x1 x2 x3 x4 x6 (1 : Int32) u0
set_option maxRecDepth 100000 in
set_option maxHeartbeats 4000000 in
theorem kX12_bestBare_b100 {C : Cx} {o0 : Nat} {a0 : Nat → Nat} (hC : Fx C cX12_bestBare 8 RX12) (hR0 : xR C = rm 7) {post : Int32 → St → Prop} (hR : RI C cX12_bestBare 8 (fun u : St => (wX12 o0 a0 (xy C) u [])) (fun r u => post r u)) {K10 : Int32 → Int32 → Int32 → Int32 → St → Prop} (hK10 : ∀ (x1 : Int32) (x2 : Int32) (x3 : Int32) (x4 : Int32) (u0 : St), K10 x1 x2 x3 x4 u0 → G C 0 0 8 (wX12 o0 a0 (xy C) u0 []) 10 [(0, .ref o0), (1, .int x1), (2, .int x2), (3, .int x3), (4, .int x4)] []) {x1 : Int32} {x2 : Int32} {x3 : Int32} {x4 : Int32} {x6 : Int32} {u0 : St} (h : qX12_bestBare_b100 post K10 x1 x2 x3 x4 x6 u0) : G C 0 0 8 (wX12 o0 a0 (xy C) u0 []) 100 [(0, .ref o0), (1, .int x1), (2, .int x2), (3, .int x3), (4, .int x4), (6, .int x6)] [] := by
  refine g_iconst (pc := 100) (v := 1) hC dX12_bestBare_100 (by decide) ?_
  refine g_goto (pc := 101) (tgt := 105) hC dX12_bestBare_101 (by decide) ?_
  exact kX12_bestBare_b105 hC hR0 hR hK10 h
def qX12_bestBare_b104  (post : Int32 → St → Prop) (K10 : Int32 → Int32 → Int32 → Int32 → St → Prop) (x1 : Int32) (x2 : Int32) (x3 : Int32) (x4 : Int32) (x6 : Int32) (u0 : St) : Prop := qX12_bestBare_b105 post K10 x1 x2 x3 x4 x6 (0 : Int32) u0
set_option maxRecDepth 100000 in
set_option maxHeartbeats 4000000 in
theorem kX12_bestBare_b104 {C : Cx} {o0 : Nat} {a0 : Nat → Nat} (hC : Fx C cX12_bestBare 8 RX12) (hR0 : xR C = rm 7) {post : Int32 → St → Prop} (hR : RI C cX12_bestBare 8 (fun u : St => (wX12 o0 a0 (xy C) u [])) (fun r u => post r u)) {K10 : Int32 → Int32 → Int32 → Int32 → St → Prop} (hK10 : ∀ (x1 : Int32) (x2 : Int32) (x3 : Int32) (x4 : Int32) (u0 : St), K10 x1 x2 x3 x4 u0 → G C 0 0 8 (wX12 o0 a0 (xy C) u0 []) 10 [(0, .ref o0), (1, .int x1), (2, .int x2), (3, .int x3), (4, .int x4)] []) {x1 : Int32} {x2 : Int32} {x3 : Int32} {x4 : Int32} {x6 : Int32} {u0 : St} (h : qX12_bestBare_b104 post K10 x1 x2 x3 x4 x6 u0) : G C 0 0 8 (wX12 o0 a0 (xy C) u0 []) 104 [(0, .ref o0), (1, .int x1), (2, .int x2), (3, .int x3), (4, .int x4), (6, .int x6)] [] := by
  refine g_iconst (pc := 104) (v := 0) hC dX12_bestBare_104 (by decide) ?_
  exact kX12_bestBare_b105 hC hR0 hR hK10 h
def qX12_bestBare_b61  (post : Int32 → St → Prop) (K10 : Int32 → Int32 → Int32 → Int32 → St → Prop) (x1 : Int32) (x2 : Int32) (x3 : Int32) (x4 : Int32) (s0 : Int32) (u0 : St) : Prop := ((x2 = (-1 : Int32) → qX12_bestBare_b100 post K10 x1 x2 x3 x4 s0 u0) ∧ (¬ x2 = (-1 : Int32) → ((¬ x1 = (-1 : Int32) → qX12_bits x4 (fun r_24 => qX12_bits x2 (fun r_26 => ((r_26 ≤ r_24 → qX12_bestBare_b104 post K10 x1 x2 x3 x4 s0 u0) ∧ (¬ r_26 ≤ r_24 → qX12_bestBare_b100 post K10 x1 x2 x3 x4 s0 u0))))) ∧ (x1 = (-1 : Int32) → qX12_bits x4 (fun r_29 => qX12_bits x2 (fun r_31 => ((r_29 ≤ r_31 → qX12_bestBare_b104 post K10 x1 x2 x3 x4 s0 u0) ∧ (¬ r_29 ≤ r_31 → qX12_bestBare_b100 post K10 x1 x2 x3 x4 s0 u0))))))))
set_option maxRecDepth 100000 in
set_option maxHeartbeats 4000000 in
theorem kX12_bestBare_b61 {C : Cx} {o0 : Nat} {a0 : Nat → Nat} (hC : Fx C cX12_bestBare 8 RX12) (hR0 : xR C = rm 7) {post : Int32 → St → Prop} (hR : RI C cX12_bestBare 8 (fun u : St => (wX12 o0 a0 (xy C) u [])) (fun r u => post r u)) {K10 : Int32 → Int32 → Int32 → Int32 → St → Prop} (hK10 : ∀ (x1 : Int32) (x2 : Int32) (x3 : Int32) (x4 : Int32) (u0 : St), K10 x1 x2 x3 x4 u0 → G C 0 0 8 (wX12 o0 a0 (xy C) u0 []) 10 [(0, .ref o0), (1, .int x1), (2, .int x2), (3, .int x3), (4, .int x4)] []) {x1 : Int32} {x2 : Int32} {x3 : Int32} {x4 : Int32} {s0 : Int32} {u0 : St} (h : qX12_bestBare_b61 post K10 x1 x2 x3 x4 s0 u0) : G C 0 0 8 (wX12 o0 a0 (xy C) u0 []) 61 [(0, .ref o0), (1, .int x1), (2, .int x2), (3, .int x3), (4, .int x4)] [.int s0] := by
  refine g_istore (pc := 61) (lv' := [(6, .int s0), (0, .ref o0), (1, .int x1), (2, .int x2), (3, .int x3), (4, .int x4)]) hC dX12_bestBare_61 (Nat.le_of_ble_eq_true rfl) rfl ?_
  refine g_iload_n (pc := 63) hC 3 dX12_bestBare_63 rfl rfl ?_
  refine g_iconst (pc := 64) (v := -1) hC dX12_bestBare_64 (by decide) ?_
  refine g_icmp_eq (pc := 65) (tgt := 100) hC dX12_bestBare_65 (by decide) (fun c_22 => ?_) (fun c_22 => ?_)
  · have h := h.1 c_22
    refine g_sub (lv' := [(0, .ref o0), (1, .int x1), (2, .int x2), (3, .int x3), (4, .int x4), (6, .int s0)]) [1, 2, 3, 4, 5, 0] rfl ?_
    exact kX12_bestBare_b100 hC hR0 hR hK10 h
  · have h := h.2 c_22
    refine g_iload_n (pc := 68) hC 2 dX12_bestBare_68 rfl rfl ?_
    refine g_iconst (pc := 69) (v := -1) hC dX12_bestBare_69 (by decide) ?_
    refine g_icmp_ne (pc := 70) (tgt := 88) hC dX12_bestBare_70 (by decide) (fun c_23 => ?_) (fun c_23 => ?_)
    · have h := h.1 c_23
      refine g_iload (pc := 88) hC 5 dX12_bestBare_88 rfl ?_
      refine g_callS_i (pc := 90) (wd := fun (_ : Unit) Y => Y) (F := fun Z => Z) (X := []) (As := [.int x4]) (rest := []) (u := ()) hC (fun _ _ => rfl) (fun _ => rfl) (ctX12_bits h) wvX12_bits ml_X12_276 rfl (rmok hR0 rfl) ⟨Nat.zero_le _, Nat.zero_le _⟩ rfl (Nat.le_of_ble_eq_true rfl) dX12_bestBare_90 (fun r_24 u_25 h => ?_)
      refine g_iload_n (pc := 93) hC 3 dX12_bestBare_93 rfl rfl ?_
      refine g_callS_i (pc := 94) (wd := fun (_ : Unit) Y => Y) (F := fun Z => Z) (X := []) (As := [.int x2]) (rest := [.int r_24]) (u := ()) hC (fun _ _ => rfl) (fun _ => rfl) (ctX12_bits h) wvX12_bits ml_X12_276 rfl (rmok hR0 rfl) ⟨Nat.zero_le _, Nat.zero_le _⟩ rfl (Nat.le_of_ble_eq_true rfl) dX12_bestBare_94 (fun r_26 u_27 h => ?_)
      refine g_icmp_ge (pc := 97) (tgt := 104) hC dX12_bestBare_97 (by decide) (fun c_28 => ?_) (fun c_28 => ?_)
      · have h := h.1 c_28
        refine g_sub (lv' := [(0, .ref o0), (1, .int x1), (2, .int x2), (3, .int x3), (4, .int x4), (6, .int s0)]) [1, 2, 3, 4, 5, 0] rfl ?_
        exact kX12_bestBare_b104 hC hR0 hR hK10 h
      · have h := h.2 c_28
        refine g_sub (lv' := [(0, .ref o0), (1, .int x1), (2, .int x2), (3, .int x3), (4, .int x4), (6, .int s0)]) [1, 2, 3, 4, 5, 0] rfl ?_
        exact kX12_bestBare_b100 hC hR0 hR hK10 h
    · have h := h.2 c_23
      refine g_iload (pc := 73) hC 5 dX12_bestBare_73 rfl ?_
      refine g_callS_i (pc := 75) (wd := fun (_ : Unit) Y => Y) (F := fun Z => Z) (X := []) (As := [.int x4]) (rest := []) (u := ()) hC (fun _ _ => rfl) (fun _ => rfl) (ctX12_bits h) wvX12_bits ml_X12_276 rfl (rmok hR0 rfl) ⟨Nat.zero_le _, Nat.zero_le _⟩ rfl (Nat.le_of_ble_eq_true rfl) dX12_bestBare_75 (fun r_29 u_30 h => ?_)
      refine g_iload_n (pc := 78) hC 3 dX12_bestBare_78 rfl rfl ?_
      refine g_callS_i (pc := 79) (wd := fun (_ : Unit) Y => Y) (F := fun Z => Z) (X := []) (As := [.int x2]) (rest := [.int r_29]) (u := ()) hC (fun _ _ => rfl) (fun _ => rfl) (ctX12_bits h) wvX12_bits ml_X12_276 rfl (rmok hR0 rfl) ⟨Nat.zero_le _, Nat.zero_le _⟩ rfl (Nat.le_of_ble_eq_true rfl) dX12_bestBare_79 (fun r_31 u_32 h => ?_)
      refine g_icmp_le (pc := 82) (tgt := 104) hC dX12_bestBare_82 (by decide) (fun c_33 => ?_) (fun c_33 => ?_)
      · have h := h.1 c_33
        refine g_sub (lv' := [(0, .ref o0), (1, .int x1), (2, .int x2), (3, .int x3), (4, .int x4), (6, .int s0)]) [1, 2, 3, 4, 5, 0] rfl ?_
        exact kX12_bestBare_b104 hC hR0 hR hK10 h
      · have h := h.2 c_33
        refine g_goto (pc := 85) (tgt := 100) hC dX12_bestBare_85 (by decide) ?_
        refine g_sub (lv' := [(0, .ref o0), (1, .int x1), (2, .int x2), (3, .int x3), (4, .int x4), (6, .int s0)]) [1, 2, 3, 4, 5, 0] rfl ?_
        exact kX12_bestBare_b100 hC hR0 hR hK10 h
def qX12_bestBare_l10  (post : Int32 → St → Prop) (K10 : Int32 → Int32 → Int32 → Int32 → St → Prop) (x1 : Int32) (x2 : Int32) (x3 : Int32) (x4 : Int32) (u0 : St) : Prop := ((x3 < x4 → post x2 u0) ∧ (¬ x3 < x4 → (((x4 &&& (x3 ^^^ (-1 : Int32))) = 0 → qX12_bareOf x4 u0 (fun r_37 u_36 => ((¬ x1 = (-1 : Int32) → qX12_isIn r_37 x1 u_36 (fun r_41 u_40 => qX12_bestBare_b61 post K10 x1 x2 x3 x4 r_41 u_40)) ∧ (x1 = (-1 : Int32) → ((¬ r_37 = 0 → qX12_bestBare_b61 post K10 x1 x2 x3 x4 (0 : Int32) u_36) ∧ (r_37 = 0 → qX12_bestBare_b61 post K10 x1 x2 x3 x4 (1 : Int32) u_36)))))) ∧ (¬ (x4 &&& (x3 ^^^ (-1 : Int32))) = 0 → qX12_bestBare_b120 post K10 x1 x2 x3 x4 u0))))
set_option maxRecDepth 100000 in
set_option maxHeartbeats 4000000 in
theorem kX12_bestBare_l10 {C : Cx} {o0 : Nat} {a0 : Nat → Nat} (hC : Fx C cX12_bestBare 8 RX12) (hR0 : xR C = rm 7) {post : Int32 → St → Prop} (hR : RI C cX12_bestBare 8 (fun u : St => (wX12 o0 a0 (xy C) u [])) (fun r u => post r u))  {K10 : Int32 → Int32 → Int32 → Int32 → St → Prop} (hK10 : ∀ (x1 : Int32) (x2 : Int32) (x3 : Int32) (x4 : Int32) (u0 : St), K10 x1 x2 x3 x4 u0 → G C 0 0 8 (wX12 o0 a0 (xy C) u0 []) 10 [(0, .ref o0), (1, .int x1), (2, .int x2), (3, .int x3), (4, .int x4)] []) {x1 : Int32} {x2 : Int32} {x3 : Int32} {x4 : Int32} {u0 : St} (h : qX12_bestBare_l10 post K10 x1 x2 x3 x4 u0) : G C 0 0 8 (wX12 o0 a0 (xy C) u0 []) 10 [(0, .ref o0), (1, .int x1), (2, .int x2), (3, .int x3), (4, .int x4)] [] := by
  refine g_iload (pc := 10) hC 4 dX12_bestBare_10 rfl ?_
  refine g_iload_n (pc := 12) hC 3 dX12_bestBare_12 rfl rfl ?_
  refine g_icmp_gt (pc := 13) (tgt := 126) hC dX12_bestBare_13 (by decide) (fun c_34 => ?_) (fun c_34 => ?_)
  · have h := h.1 c_34
    refine g_iload_n (pc := 126) hC 2 dX12_bestBare_126 rfl rfl ?_
    exact hR _ _ _ u0 dX12_bestBare_127 h
  · have h := h.2 c_34
    refine g_iload (pc := 16) hC 4 dX12_bestBare_16 rfl ?_
    refine g_iload_n (pc := 18) hC 3 dX12_bestBare_18 rfl rfl ?_
    refine g_iconst (pc := 19) (v := -1) hC dX12_bestBare_19 (by decide) ?_
    refine g_ixor (pc := 20) hC dX12_bestBare_20 ?_
    refine g_iand (pc := 21) hC dX12_bestBare_21 ?_
    refine g_if_eq (pc := 22) (tgt := 28) hC dX12_bestBare_22 (by decide) (fun c_35 => ?_) (fun c_35 => ?_)
    · have h := h.1 c_35
      refine g_aload_n (pc := 28) hC 0 dX12_bestBare_28 rfl rfl ?_
      refine g_iload (pc := 29) hC 4 dX12_bestBare_29 rfl ?_
      refine g_callV_i (pc := 31) (wd := fun (u : St) Y => (wX12 o0 a0 (xy C) u Y)) (F := fun Z => Z) (X := []) (As := [.int x4]) (rest := []) (u := u0) hC (fun _ _ => rfl) (fun _ => rfl) (ctX12_bareOf h) wvX12_bareOf ml_X12_365 (ci := 10) (q0 := 0) rfl rfl rfl rfl (rmok hR0 rfl) ⟨Nat.zero_le _, Nat.zero_le _⟩ rfl (Nat.le_of_ble_eq_true rfl) dX12_bestBare_31 (fun r_37 u_36 h => ?_)
      refine g_istore (pc := 34) (lv' := [(5, .int r_37), (0, .ref o0), (1, .int x1), (2, .int x2), (3, .int x3), (4, .int x4)]) hC dX12_bestBare_34 (Nat.le_of_ble_eq_true rfl) rfl ?_
      refine g_iload_n (pc := 36) hC 2 dX12_bestBare_36 rfl rfl ?_
      refine g_iconst (pc := 37) (v := -1) hC dX12_bestBare_37 (by decide) ?_
      refine g_icmp_ne (pc := 38) (tgt := 54) hC dX12_bestBare_38 (by decide) (fun c_39 => ?_) (fun c_39 => ?_)
      · have h := h.1 c_39
        refine g_aload_n (pc := 54) hC 1 dX12_bestBare_54 rfl rfl ?_
        refine g_iload (pc := 55) hC 0 dX12_bestBare_55 rfl ?_
        refine g_iload_n (pc := 57) hC 2 dX12_bestBare_57 rfl rfl ?_
        refine g_callV_i (pc := 58) (wd := fun (u : St) Y => (wX12 o0 a0 (xy C) u Y)) (F := fun Z => Z) (X := []) (As := [.int r_37, .int x1]) (rest := []) (u := u_36) hC (fun _ _ => rfl) (fun _ => rfl) (ctX12_isIn h) wvX12_isIn ml_X12_201 (ci := 10) (q0 := 0) rfl rfl rfl rfl (rmok hR0 rfl) ⟨Nat.zero_le _, Nat.zero_le _⟩ rfl (Nat.le_of_ble_eq_true rfl) dX12_bestBare_58 (fun r_41 u_40 h => ?_)
        refine g_sub (lv' := [(0, .ref o0), (1, .int x1), (2, .int x2), (3, .int x3), (4, .int x4)]) [1, 2, 3, 4, 5] rfl ?_
        exact kX12_bestBare_b61 hC hR0 hR hK10 h
      · have h := h.2 c_39
        refine g_iload (pc := 41) hC 0 dX12_bestBare_41 rfl ?_
        refine g_if_ne (pc := 43) (tgt := 50) hC dX12_bestBare_43 (by decide) (fun c_43 => ?_) (fun c_43 => ?_)
        · have h := h.1 c_43
          refine g_iconst (pc := 50) (v := 0) hC dX12_bestBare_50 (by decide) ?_
          refine g_goto (pc := 51) (tgt := 61) hC dX12_bestBare_51 (by decide) ?_
          refine g_sub (lv' := [(0, .ref o0), (1, .int x1), (2, .int x2), (3, .int x3), (4, .int x4)]) [1, 2, 3, 4, 5] rfl ?_
          exact kX12_bestBare_b61 hC hR0 hR hK10 h
        · have h := h.2 c_43
          refine g_iconst (pc := 46) (v := 1) hC dX12_bestBare_46 (by decide) ?_
          refine g_goto (pc := 47) (tgt := 61) hC dX12_bestBare_47 (by decide) ?_
          refine g_sub (lv' := [(0, .ref o0), (1, .int x1), (2, .int x2), (3, .int x3), (4, .int x4)]) [1, 2, 3, 4, 5] rfl ?_
          exact kX12_bestBare_b61 hC hR0 hR hK10 h
    · have h := h.2 c_35
      refine g_goto (pc := 25) (tgt := 120) hC dX12_bestBare_25 (by decide) ?_
      exact kX12_bestBare_b120 hC hR0 hR hK10 h
def qX12_bestBare_L10  (post : Int32 → St → Prop)  : Nat → Int32 → Int32 → Int32 → Int32 → St → Prop
  | 0 => fun _ _ _ _ _ => False
  | n + 1 => qX12_bestBare_l10 post (qX12_bestBare_L10 post n)
theorem kX12_bestBare_L10 {C : Cx} {o0 : Nat} {a0 : Nat → Nat} (hC : Fx C cX12_bestBare 8 RX12) (hR0 : xR C = rm 7) {post : Int32 → St → Prop} (hR : RI C cX12_bestBare 8 (fun u : St => (wX12 o0 a0 (xy C) u [])) (fun r u => post r u))  : ∀ (n : Nat) (x1 : Int32) (x2 : Int32) (x3 : Int32) (x4 : Int32) (u0 : St), qX12_bestBare_L10 post n x1 x2 x3 x4 u0 → G C 0 0 8 (wX12 o0 a0 (xy C) u0 []) 10 [(0, .ref o0), (1, .int x1), (2, .int x2), (3, .int x3), (4, .int x4)] [] := by
  intro n
  induction n with
  | zero => intro x1 x2 x3 x4 u0 h; exact h.elim
  | succ n ih => intro x1 x2 x3 x4 u0 h; exact kX12_bestBare_l10 hC hR0 hR  ih h
def qX12_bestBare (x1 : Int32) (u0 : St) (post : Int32 → St → Prop) : Prop := qX12_openDebts u0 (fun r_45 u_44 => ∃ n_47 : Nat, qX12_bestBare_L10 post n_47 x1 (-1 : Int32) r_45 (0 : Int32) u_44)
set_option maxRecDepth 100000 in
set_option maxHeartbeats 4000000 in
theorem kX12_bestBare {C : Cx} {o0 : Nat} {a0 : Nat → Nat} (hC : Fx C cX12_bestBare 8 RX12) (hR0 : xR C = rm 7) {post : Int32 → St → Prop} (hR : RI C cX12_bestBare 8 (fun u : St => (wX12 o0 a0 (xy C) u [])) (fun r u => post r u)) {x1 : Int32} {u0 : St} (h : qX12_bestBare x1 u0 post) : G C 0 0 8 (wX12 o0 a0 (xy C) u0 []) 0 [(0, .ref o0), (1, .int x1)] [] := by
  refine g_iconst (pc := 0) (v := -1) hC dX12_bestBare_0 (by decide) ?_
  refine g_istore_n (pc := 1) (lv' := [(2, .int (-1 : Int32)), (0, .ref o0), (1, .int x1)]) hC dX12_bestBare_1 rfl (Nat.le_of_ble_eq_true rfl) rfl ?_
  refine g_aload_n (pc := 2) hC 1 dX12_bestBare_2 rfl rfl ?_
  refine g_callV_i (pc := 3) (wd := fun (u : St) Y => (wX12 o0 a0 (xy C) u Y)) (F := fun Z => Z) (X := []) (As := []) (rest := []) (u := u0) hC (fun _ _ => rfl) (fun _ => rfl) (ctX12_openDebts h) wvX12_openDebts ml_X12_368 (ci := 10) (q0 := 0) rfl rfl rfl rfl (rmok hR0 rfl) ⟨Nat.zero_le _, Nat.zero_le _⟩ rfl (Nat.le_of_ble_eq_true rfl) dX12_bestBare_3 (fun r_45 u_44 h => ?_)
  refine g_istore_n (pc := 6) (lv' := [(3, .int r_45), (2, .int (-1 : Int32)), (0, .ref o0), (1, .int x1)]) hC dX12_bestBare_6 rfl (Nat.le_of_ble_eq_true rfl) rfl ?_
  refine g_iconst (pc := 7) (v := 0) hC dX12_bestBare_7 (by decide) ?_
  refine g_istore (pc := 8) (lv' := [(4, .int (0 : Int32)), (3, .int r_45), (2, .int (-1 : Int32)), (0, .ref o0), (1, .int x1)]) hC dX12_bestBare_8 (Nat.le_of_ble_eq_true rfl) rfl ?_
  refine g_sub (lv' := [(0, .ref o0), (1, .int x1), (2, .int (-1 : Int32)), (3, .int r_45), (4, .int (0 : Int32))]) [3, 4, 2, 1, 0] rfl ?_
  obtain ⟨n_47, h⟩ := h
  exact kX12_bestBare_L10 hC hR0 hR  n_47 _ _ _ _ _ h
theorem ctX12_bestBare {l : Launch} {D : va_G} {cy : Nat → ClassId} {kd : Nat → Nat} {o0 : Nat} {a0 : Nat → Nat} {x1 : Int32} {u0 : St} {post : Int32 → St → Prop} (h : qX12_bestBare x1 u0 post) : CtI l D cy kd yX12_bestBare cX12_bestBare 8 7 .int [.ref o0, .int x1] (fun u : St => (wX12 o0 a0 cy u [])) u0 (fun r u => post r u) := met_i (by decide) (Nat.le_of_ble_eq_true rfl) (fun C e1 e2 e3 e4 e5 hC hR => by subst e1 e2 e3 e4; exact kX12_bestBare hC e5 hR h)
theorem dX12_most_0 : decode cX12_most 0 = .ok (.aload_n 0, 1) := by decide +kernel
theorem dX12_most_1 : decode cX12_most 1 = .ok (.aload_n 0, 1) := by decide +kernel
theorem dX12_most_2 : decode cX12_most 2 = .ok (.iconst (-1), 1) := by decide +kernel
theorem dX12_most_3 : decode cX12_most 3 = .ok (.invokevirtual 371, 3) := by decide +kernel
theorem dX12_most_6 : decode cX12_most 6 = .ok (.invokestatic 276, 3) := by decide +kernel
theorem dX12_most_9 : decode cX12_most 9 = .ok (.invokevirtual 92, 3) := by decide +kernel
theorem dX12_most_12 : decode cX12_most 12 = .ok (.ireturn, 1) := by decide +kernel
def qX12_most  (u0 : St) (post : Int32 → St → Prop) : Prop := qX12_bestBare (-1 : Int32) u0 (fun r_10 u_9 => qX12_bits r_10 (fun r_12 => qX12_gives r_12 u_9 (fun r_15 u_14 => post r_15 u_14)))
set_option maxRecDepth 100000 in
set_option maxHeartbeats 4000000 in
theorem kX12_most {C : Cx} {o0 : Nat} {a0 : Nat → Nat} (hC : Fx C cX12_most 1 RX12) (hR0 : xR C = rm 8) {post : Int32 → St → Prop} (hR : RI C cX12_most 1 (fun u : St => (wX12 o0 a0 (xy C) u [])) (fun r u => post r u))  {u0 : St} (h : qX12_most  u0 post) : G C 0 0 1 (wX12 o0 a0 (xy C) u0 []) 0 [(0, .ref o0)] [] := by
  refine g_aload_n (pc := 0) hC 0 dX12_most_0 rfl rfl ?_
  refine g_aload_n (pc := 1) hC 0 dX12_most_1 rfl rfl ?_
  refine g_iconst (pc := 2) (v := -1) hC dX12_most_2 (by decide) ?_
  refine g_callV_i (pc := 3) (wd := fun (u : St) Y => (wX12 o0 a0 (xy C) u Y)) (F := fun Z => Z) (X := []) (As := [.int (-1 : Int32)]) (rest := [.ref o0]) (u := u0) hC (fun _ _ => rfl) (fun _ => rfl) (ctX12_bestBare h) wvX12_bestBare ml_X12_371 (ci := 10) (q0 := 0) rfl rfl rfl rfl (rmok hR0 rfl) ⟨Nat.zero_le _, Nat.zero_le _⟩ rfl (Nat.le_of_ble_eq_true rfl) dX12_most_3 (fun r_10 u_9 h => ?_)
  refine g_callS_i (pc := 6) (wd := fun (_ : Unit) Y => Y) (F := fun Z => Z) (X := []) (As := [.int r_10]) (rest := [.ref o0]) (u := ()) hC (fun _ _ => rfl) (fun _ => rfl) (ctX12_bits h) wvX12_bits ml_X12_276 rfl (rmok hR0 rfl) ⟨Nat.zero_le _, Nat.zero_le _⟩ rfl (Nat.le_of_ble_eq_true rfl) dX12_most_6 (fun r_12 u_13 h => ?_)
  refine g_callV_i (pc := 9) (wd := fun (u : St) Y => (wX12 o0 a0 (xy C) u Y)) (F := fun Z => Z) (X := []) (As := [.int r_12]) (rest := []) (u := u_9) hC (fun _ _ => rfl) (fun _ => rfl) (ctX12_gives h) wvX12_gives ml_X12_92 (ci := 10) (q0 := 0) rfl rfl rfl rfl (rmok hR0 rfl) ⟨Nat.zero_le _, Nat.zero_le _⟩ rfl (Nat.le_of_ble_eq_true rfl) dX12_most_9 (fun r_15 u_14 h => ?_)
  exact hR _ _ _ u_14 dX12_most_12 h
theorem ctX12_most {l : Launch} {D : va_G} {cy : Nat → ClassId} {kd : Nat → Nat} {o0 : Nat} {a0 : Nat → Nat}  {u0 : St} {post : Int32 → St → Prop} (h : qX12_most  u0 post) : CtI l D cy kd yX12_most cX12_most 1 8 .int [.ref o0] (fun u : St => (wX12 o0 a0 cy u [])) u0 (fun r u => post r u) := met_i (by decide) (Nat.le_of_ble_eq_true rfl) (fun C e1 e2 e3 e4 e5 hC hR => by subst e1 e2 e3 e4; exact kX12_most hC e5 hR h)
theorem dX12_mostSet_0 : decode cX12_mostSet 0 = .ok (.aload_n 0, 1) := by decide +kernel
theorem dX12_mostSet_1 : decode cX12_mostSet 1 = .ok (.aload_n 0, 1) := by decide +kernel
theorem dX12_mostSet_2 : decode cX12_mostSet 2 = .ok (.iconst (-1), 1) := by decide +kernel
theorem dX12_mostSet_3 : decode cX12_mostSet 3 = .ok (.invokevirtual 371, 3) := by decide +kernel
theorem dX12_mostSet_6 : decode cX12_mostSet 6 = .ok (.invokevirtual 92, 3) := by decide +kernel
theorem dX12_mostSet_9 : decode cX12_mostSet 9 = .ok (.ireturn, 1) := by decide +kernel
def qX12_mostSet  (u0 : St) (post : Int32 → St → Prop) : Prop := qX12_bestBare (-1 : Int32) u0 (fun r_8 u_7 => qX12_gives r_8 u_7 (fun r_11 u_10 => post r_11 u_10))
set_option maxRecDepth 100000 in
set_option maxHeartbeats 4000000 in
theorem kX12_mostSet {C : Cx} {o0 : Nat} {a0 : Nat → Nat} (hC : Fx C cX12_mostSet 1 RX12) (hR0 : xR C = rm 8) {post : Int32 → St → Prop} (hR : RI C cX12_mostSet 1 (fun u : St => (wX12 o0 a0 (xy C) u [])) (fun r u => post r u))  {u0 : St} (h : qX12_mostSet  u0 post) : G C 0 0 1 (wX12 o0 a0 (xy C) u0 []) 0 [(0, .ref o0)] [] := by
  refine g_aload_n (pc := 0) hC 0 dX12_mostSet_0 rfl rfl ?_
  refine g_aload_n (pc := 1) hC 0 dX12_mostSet_1 rfl rfl ?_
  refine g_iconst (pc := 2) (v := -1) hC dX12_mostSet_2 (by decide) ?_
  refine g_callV_i (pc := 3) (wd := fun (u : St) Y => (wX12 o0 a0 (xy C) u Y)) (F := fun Z => Z) (X := []) (As := [.int (-1 : Int32)]) (rest := [.ref o0]) (u := u0) hC (fun _ _ => rfl) (fun _ => rfl) (ctX12_bestBare h) wvX12_bestBare ml_X12_371 (ci := 10) (q0 := 0) rfl rfl rfl rfl (rmok hR0 rfl) ⟨Nat.zero_le _, Nat.zero_le _⟩ rfl (Nat.le_of_ble_eq_true rfl) dX12_mostSet_3 (fun r_8 u_7 h => ?_)
  refine g_callV_i (pc := 6) (wd := fun (u : St) Y => (wX12 o0 a0 (xy C) u Y)) (F := fun Z => Z) (X := []) (As := [.int r_8]) (rest := []) (u := u_7) hC (fun _ _ => rfl) (fun _ => rfl) (ctX12_gives h) wvX12_gives ml_X12_92 (ci := 10) (q0 := 0) rfl rfl rfl rfl (rmok hR0 rfl) ⟨Nat.zero_le _, Nat.zero_le _⟩ rfl (Nat.le_of_ble_eq_true rfl) dX12_mostSet_6 (fun r_11 u_10 h => ?_)
  exact hR _ _ _ u_10 dX12_mostSet_9 h
theorem ctX12_mostSet {l : Launch} {D : va_G} {cy : Nat → ClassId} {kd : Nat → Nat} {o0 : Nat} {a0 : Nat → Nat}  {u0 : St} {post : Int32 → St → Prop} (h : qX12_mostSet  u0 post) : CtI l D cy kd yX12_mostSet cX12_mostSet 1 8 .int [.ref o0] (fun u : St => (wX12 o0 a0 cy u [])) u0 (fun r u => post r u) := met_i (by decide) (Nat.le_of_ble_eq_true rfl) (fun C e1 e2 e3 e4 e5 hC hR => by subst e1 e2 e3 e4; exact kX12_mostSet hC e5 hR h)
theorem dX12_wrongStone_0 : decode cX12_wrongStone 0 = .ok (.aload_n 0, 1) := by decide +kernel
theorem dX12_wrongStone_1 : decode cX12_wrongStone 1 = .ok (.iload_n 1, 1) := by decide +kernel
theorem dX12_wrongStone_2 : decode cX12_wrongStone 2 = .ok (.invokevirtual 291, 3) := by decide +kernel
theorem dX12_wrongStone_5 : decode cX12_wrongStone 5 = .ok (.ifCond .ne 5, 3) := by decide +kernel
theorem dX12_wrongStone_8 : decode cX12_wrongStone 8 = .ok (.iconst 1, 1) := by decide +kernel
theorem dX12_wrongStone_9 : decode cX12_wrongStone 9 = .ok (.ireturn, 1) := by decide +kernel
theorem dX12_wrongStone_10 : decode cX12_wrongStone 10 = .ok (.aload_n 0, 1) := by decide +kernel
theorem dX12_wrongStone_11 : decode cX12_wrongStone 11 = .ok (.aload_n 0, 1) := by decide +kernel
theorem dX12_wrongStone_12 : decode cX12_wrongStone 12 = .ok (.getfield 7, 3) := by decide +kernel
theorem dX12_wrongStone_15 : decode cX12_wrongStone 15 = .ok (.iconst 5, 1) := by decide +kernel
theorem dX12_wrongStone_16 : decode cX12_wrongStone 16 = .ok (.iaload, 1) := by decide +kernel
theorem dX12_wrongStone_17 : decode cX12_wrongStone 17 = .ok (.iload_n 1, 1) := by decide +kernel
theorem dX12_wrongStone_18 : decode cX12_wrongStone 18 = .ok (.invokevirtual 201, 3) := by decide +kernel
theorem dX12_wrongStone_21 : decode cX12_wrongStone 21 = .ok (.ifCond .eq 6, 3) := by decide +kernel
theorem dX12_wrongStone_24 : decode cX12_wrongStone 24 = .ok (.bipush 7, 2) := by decide +kernel
theorem dX12_wrongStone_26 : decode cX12_wrongStone 26 = .ok (.ireturn, 1) := by decide +kernel
theorem dX12_wrongStone_27 : decode cX12_wrongStone 27 = .ok (.aload_n 0, 1) := by decide +kernel
theorem dX12_wrongStone_28 : decode cX12_wrongStone 28 = .ok (.iload_n 1, 1) := by decide +kernel
theorem dX12_wrongStone_29 : decode cX12_wrongStone 29 = .ok (.invokevirtual 371, 3) := by decide +kernel
theorem dX12_wrongStone_32 : decode cX12_wrongStone 32 = .ok (.iconst (-1), 1) := by decide +kernel
theorem dX12_wrongStone_33 : decode cX12_wrongStone 33 = .ok (.if_icmp .ne 8, 3) := by decide +kernel
theorem dX12_wrongStone_36 : decode cX12_wrongStone 36 = .ok (.bipush 6, 2) := by decide +kernel
theorem dX12_wrongStone_38 : decode cX12_wrongStone 38 = .ok (.goto 4, 3) := by decide +kernel
theorem dX12_wrongStone_41 : decode cX12_wrongStone 41 = .ok (.iconst 0, 1) := by decide +kernel
theorem dX12_wrongStone_42 : decode cX12_wrongStone 42 = .ok (.ireturn, 1) := by decide +kernel
def qX12_wrongStone_b42  (post : Int32 → St → Prop)  (s0 : Int32) (u0 : St) : Prop := post s0 u0
set_option maxRecDepth 100000 in
set_option maxHeartbeats 4000000 in
theorem kX12_wrongStone_b42 {C : Cx} {o0 : Nat} {a0 : Nat → Nat} (hC : Fx C cX12_wrongStone 2 RX12) (hR0 : xR C = rm 8) {post : Int32 → St → Prop} (hR : RI C cX12_wrongStone 2 (fun u : St => (wX12 o0 a0 (xy C) u [])) (fun r u => post r u))  {s0 : Int32} {u0 : St} (h : qX12_wrongStone_b42 post s0 u0) : G C 0 0 2 (wX12 o0 a0 (xy C) u0 []) 42 [] [.int s0] := by
  exact hR _ _ _ u0 dX12_wrongStone_42 h
def qX12_wrongStone (x1 : Int32) (u0 : St) (post : Int32 → St → Prop) : Prop := qX12_isStone x1 u0 (fun r_11 u_10 => ((¬ r_11 = 0 → qX12_isIn (ga u_10 0 ((5 : Int32)).toNatClampNeg) x1 u_10 (fun r_15 u_14 => ((r_15 = 0 → qX12_bestBare x1 u_14 (fun r_19 u_18 => ((¬ r_19 = (-1 : Int32) → qX12_wrongStone_b42 post (0 : Int32) u_18) ∧ (r_19 = (-1 : Int32) → qX12_wrongStone_b42 post (6 : Int32) u_18)))) ∧ (¬ r_15 = 0 → post (7 : Int32) u_14)))) ∧ (r_11 = 0 → post (1 : Int32) u_10)))
set_option maxRecDepth 100000 in
set_option maxHeartbeats 4000000 in
theorem kX12_wrongStone {C : Cx} {o0 : Nat} {a0 : Nat → Nat} (hC : Fx C cX12_wrongStone 2 RX12) (hR0 : xR C = rm 8) {post : Int32 → St → Prop} (hR : RI C cX12_wrongStone 2 (fun u : St => (wX12 o0 a0 (xy C) u [])) (fun r u => post r u)) {x1 : Int32} {u0 : St} (h : qX12_wrongStone x1 u0 post) : G C 0 0 2 (wX12 o0 a0 (xy C) u0 []) 0 [(0, .ref o0), (1, .int x1)] [] := by
  refine g_aload_n (pc := 0) hC 0 dX12_wrongStone_0 rfl rfl ?_
  refine g_iload_n (pc := 1) hC 1 dX12_wrongStone_1 rfl rfl ?_
  refine g_callV_i (pc := 2) (wd := fun (u : St) Y => (wX12 o0 a0 (xy C) u Y)) (F := fun Z => Z) (X := []) (As := [.int x1]) (rest := []) (u := u0) hC (fun _ _ => rfl) (fun _ => rfl) (ctX12_isStone h) wvX12_isStone ml_X12_291 (ci := 10) (q0 := 0) rfl rfl rfl rfl (rmok hR0 rfl) ⟨Nat.zero_le _, Nat.zero_le _⟩ rfl (Nat.le_of_ble_eq_true rfl) dX12_wrongStone_2 (fun r_11 u_10 h => ?_)
  refine g_if_ne (pc := 5) (tgt := 10) hC dX12_wrongStone_5 (by decide) (fun c_13 => ?_) (fun c_13 => ?_)
  · have h := h.1 c_13
    refine g_aload_n (pc := 10) hC 0 dX12_wrongStone_10 rfl rfl ?_
    refine g_aload_n (pc := 11) hC 0 dX12_wrongStone_11 rfl rfl ?_
    refine getX12_0 (pc := 12) hC (F := fun Z => Z) (X := []) (fun _ => rfl) fl_X12_7 dX12_wrongStone_12 ?_
    refine g_iconst (pc := 15) (v := 5) hC dX12_wrongStone_15 (by decide) ?_
    refine aldX12_0 (pc := 16) hC (F := fun Z => Z) (X := []) (fun _ => rfl) (by unfold vp_in; decide) dX12_wrongStone_16 ?_
    refine g_iload_n (pc := 17) hC 1 dX12_wrongStone_17 rfl rfl ?_
    refine g_callV_i (pc := 18) (wd := fun (u : St) Y => (wX12 o0 a0 (xy C) u Y)) (F := fun Z => Z) (X := []) (As := [.int (ga u_10 0 ((5 : Int32)).toNatClampNeg), .int x1]) (rest := []) (u := u_10) hC (fun _ _ => rfl) (fun _ => rfl) (ctX12_isIn h) wvX12_isIn ml_X12_201 (ci := 10) (q0 := 0) rfl rfl rfl rfl (rmok hR0 rfl) ⟨Nat.zero_le _, Nat.zero_le _⟩ rfl (Nat.le_of_ble_eq_true rfl) dX12_wrongStone_18 (fun r_15 u_14 h => ?_)
    refine g_if_eq (pc := 21) (tgt := 27) hC dX12_wrongStone_21 (by decide) (fun c_17 => ?_) (fun c_17 => ?_)
    · have h := h.1 c_17
      refine g_aload_n (pc := 27) hC 0 dX12_wrongStone_27 rfl rfl ?_
      refine g_iload_n (pc := 28) hC 1 dX12_wrongStone_28 rfl rfl ?_
      refine g_callV_i (pc := 29) (wd := fun (u : St) Y => (wX12 o0 a0 (xy C) u Y)) (F := fun Z => Z) (X := []) (As := [.int x1]) (rest := []) (u := u_14) hC (fun _ _ => rfl) (fun _ => rfl) (ctX12_bestBare h) wvX12_bestBare ml_X12_371 (ci := 10) (q0 := 0) rfl rfl rfl rfl (rmok hR0 rfl) ⟨Nat.zero_le _, Nat.zero_le _⟩ rfl (Nat.le_of_ble_eq_true rfl) dX12_wrongStone_29 (fun r_19 u_18 h => ?_)
      refine g_iconst (pc := 32) (v := -1) hC dX12_wrongStone_32 (by decide) ?_
      refine g_icmp_ne (pc := 33) (tgt := 41) hC dX12_wrongStone_33 (by decide) (fun c_21 => ?_) (fun c_21 => ?_)
      · have h := h.1 c_21
        refine g_iconst (pc := 41) (v := 0) hC dX12_wrongStone_41 (by decide) ?_
        refine g_sub (lv' := []) [] rfl ?_
        exact kX12_wrongStone_b42 hC hR0 hR  h
      · have h := h.2 c_21
        refine g_bipush (pc := 36) (v := 6) hC dX12_wrongStone_36 (by decide) ?_
        refine g_goto (pc := 38) (tgt := 42) hC dX12_wrongStone_38 (by decide) ?_
        refine g_sub (lv' := []) [] rfl ?_
        exact kX12_wrongStone_b42 hC hR0 hR  h
    · have h := h.2 c_17
      refine g_bipush (pc := 24) (v := 7) hC dX12_wrongStone_24 (by decide) ?_
      exact hR _ _ _ u_14 dX12_wrongStone_26 h
  · have h := h.2 c_13
    refine g_iconst (pc := 8) (v := 1) hC dX12_wrongStone_8 (by decide) ?_
    exact hR _ _ _ u_10 dX12_wrongStone_9 h
theorem ctX12_wrongStone {l : Launch} {D : va_G} {cy : Nat → ClassId} {kd : Nat → Nat} {o0 : Nat} {a0 : Nat → Nat} {x1 : Int32} {u0 : St} {post : Int32 → St → Prop} (h : qX12_wrongStone x1 u0 post) : CtI l D cy kd yX12_wrongStone cX12_wrongStone 2 8 .int [.ref o0, .int x1] (fun u : St => (wX12 o0 a0 cy u [])) u0 (fun r u => post r u) := met_i (by decide) (Nat.le_of_ble_eq_true rfl) (fun C e1 e2 e3 e4 e5 hC hR => by subst e1 e2 e3 e4; exact kX12_wrongStone hC e5 hR h)
theorem dX12_fewest_0 : decode cX12_fewest 0 = .ok (.aload_n 0, 1) := by decide +kernel
theorem dX12_fewest_1 : decode cX12_fewest 1 = .ok (.iload_n 1, 1) := by decide +kernel
theorem dX12_fewest_2 : decode cX12_fewest 2 = .ok (.invokevirtual 374, 3) := by decide +kernel
theorem dX12_fewest_5 : decode cX12_fewest 5 = .ok (.istore_n 2, 1) := by decide +kernel
theorem dX12_fewest_6 : decode cX12_fewest 6 = .ok (.iload_n 2, 1) := by decide +kernel
theorem dX12_fewest_7 : decode cX12_fewest 7 = .ok (.ifCond .le 11, 3) := by decide +kernel
theorem dX12_fewest_10 : decode cX12_fewest 10 = .ok (.aload_n 0, 1) := by decide +kernel
theorem dX12_fewest_11 : decode cX12_fewest 11 = .ok (.iload_n 2, 1) := by decide +kernel
theorem dX12_fewest_12 : decode cX12_fewest 12 = .ok (.invokevirtual 88, 3) := by decide +kernel
theorem dX12_fewest_15 : decode cX12_fewest 15 = .ok (.goto 15, 3) := by decide +kernel
theorem dX12_fewest_18 : decode cX12_fewest 18 = .ok (.aload_n 0, 1) := by decide +kernel
theorem dX12_fewest_19 : decode cX12_fewest 19 = .ok (.aload_n 0, 1) := by decide +kernel
theorem dX12_fewest_20 : decode cX12_fewest 20 = .ok (.iload_n 1, 1) := by decide +kernel
theorem dX12_fewest_21 : decode cX12_fewest 21 = .ok (.invokevirtual 371, 3) := by decide +kernel
theorem dX12_fewest_24 : decode cX12_fewest 24 = .ok (.invokestatic 276, 3) := by decide +kernel
theorem dX12_fewest_27 : decode cX12_fewest 27 = .ok (.invokevirtual 92, 3) := by decide +kernel
theorem dX12_fewest_30 : decode cX12_fewest 30 = .ok (.ireturn, 1) := by decide +kernel
def qX12_fewest_b30  (post : Int32 → St → Prop)  (s0 : Int32) (u0 : St) : Prop := post s0 u0
set_option maxRecDepth 100000 in
set_option maxHeartbeats 4000000 in
theorem kX12_fewest_b30 {C : Cx} {o0 : Nat} {a0 : Nat → Nat} (hC : Fx C cX12_fewest 3 RX12) (hR0 : xR C = rm 9) {post : Int32 → St → Prop} (hR : RI C cX12_fewest 3 (fun u : St => (wX12 o0 a0 (xy C) u [])) (fun r u => post r u))  {s0 : Int32} {u0 : St} (h : qX12_fewest_b30 post s0 u0) : G C 0 0 3 (wX12 o0 a0 (xy C) u0 []) 30 [] [.int s0] := by
  exact hR _ _ _ u0 dX12_fewest_30 h
def qX12_fewest (x1 : Int32) (u0 : St) (post : Int32 → St → Prop) : Prop := qX12_wrongStone x1 u0 (fun r_16 u_15 => ((r_16 ≤ 0 → qX12_bestBare x1 u_15 (fun r_20 u_19 => qX12_bits r_20 (fun r_22 => qX12_gives r_22 u_19 (fun r_25 u_24 => qX12_fewest_b30 post r_25 u_24)))) ∧ (¬ r_16 ≤ 0 → qX12_refuse r_16 u_15 (fun r_28 u_27 => qX12_fewest_b30 post r_28 u_27))))
set_option maxRecDepth 100000 in
set_option maxHeartbeats 4000000 in
theorem kX12_fewest {C : Cx} {o0 : Nat} {a0 : Nat → Nat} (hC : Fx C cX12_fewest 3 RX12) (hR0 : xR C = rm 9) {post : Int32 → St → Prop} (hR : RI C cX12_fewest 3 (fun u : St => (wX12 o0 a0 (xy C) u [])) (fun r u => post r u)) {x1 : Int32} {u0 : St} (h : qX12_fewest x1 u0 post) : G C 0 0 3 (wX12 o0 a0 (xy C) u0 []) 0 [(0, .ref o0), (1, .int x1)] [] := by
  refine g_aload_n (pc := 0) hC 0 dX12_fewest_0 rfl rfl ?_
  refine g_iload_n (pc := 1) hC 1 dX12_fewest_1 rfl rfl ?_
  refine g_callV_i (pc := 2) (wd := fun (u : St) Y => (wX12 o0 a0 (xy C) u Y)) (F := fun Z => Z) (X := []) (As := [.int x1]) (rest := []) (u := u0) hC (fun _ _ => rfl) (fun _ => rfl) (ctX12_wrongStone h) wvX12_wrongStone ml_X12_374 (ci := 10) (q0 := 0) rfl rfl rfl rfl (rmok hR0 rfl) ⟨Nat.zero_le _, Nat.zero_le _⟩ rfl (Nat.le_of_ble_eq_true rfl) dX12_fewest_2 (fun r_16 u_15 h => ?_)
  refine g_istore_n (pc := 5) (lv' := [(2, .int r_16), (0, .ref o0), (1, .int x1)]) hC dX12_fewest_5 rfl (Nat.le_of_ble_eq_true rfl) rfl ?_
  refine g_iload_n (pc := 6) hC 0 dX12_fewest_6 rfl rfl ?_
  refine g_if_le (pc := 7) (tgt := 18) hC dX12_fewest_7 (by decide) (fun c_18 => ?_) (fun c_18 => ?_)
  · have h := h.1 c_18
    refine g_aload_n (pc := 18) hC 1 dX12_fewest_18 rfl rfl ?_
    refine g_aload_n (pc := 19) hC 1 dX12_fewest_19 rfl rfl ?_
    refine g_iload_n (pc := 20) hC 2 dX12_fewest_20 rfl rfl ?_
    refine g_callV_i (pc := 21) (wd := fun (u : St) Y => (wX12 o0 a0 (xy C) u Y)) (F := fun Z => Z) (X := []) (As := [.int x1]) (rest := [.ref o0]) (u := u_15) hC (fun _ _ => rfl) (fun _ => rfl) (ctX12_bestBare h) wvX12_bestBare ml_X12_371 (ci := 10) (q0 := 0) rfl rfl rfl rfl (rmok hR0 rfl) ⟨Nat.zero_le _, Nat.zero_le _⟩ rfl (Nat.le_of_ble_eq_true rfl) dX12_fewest_21 (fun r_20 u_19 h => ?_)
    refine g_callS_i (pc := 24) (wd := fun (_ : Unit) Y => Y) (F := fun Z => Z) (X := []) (As := [.int r_20]) (rest := [.ref o0]) (u := ()) hC (fun _ _ => rfl) (fun _ => rfl) (ctX12_bits h) wvX12_bits ml_X12_276 rfl (rmok hR0 rfl) ⟨Nat.zero_le _, Nat.zero_le _⟩ rfl (Nat.le_of_ble_eq_true rfl) dX12_fewest_24 (fun r_22 u_23 h => ?_)
    refine g_callV_i (pc := 27) (wd := fun (u : St) Y => (wX12 o0 a0 (xy C) u Y)) (F := fun Z => Z) (X := []) (As := [.int r_22]) (rest := []) (u := u_19) hC (fun _ _ => rfl) (fun _ => rfl) (ctX12_gives h) wvX12_gives ml_X12_92 (ci := 10) (q0 := 0) rfl rfl rfl rfl (rmok hR0 rfl) ⟨Nat.zero_le _, Nat.zero_le _⟩ rfl (Nat.le_of_ble_eq_true rfl) dX12_fewest_27 (fun r_25 u_24 h => ?_)
    refine g_sub (lv' := []) [] rfl ?_
    exact kX12_fewest_b30 hC hR0 hR  h
  · have h := h.2 c_18
    refine g_aload_n (pc := 10) hC 1 dX12_fewest_10 rfl rfl ?_
    refine g_iload_n (pc := 11) hC 0 dX12_fewest_11 rfl rfl ?_
    refine g_callV_i (pc := 12) (wd := fun (u : St) Y => (wX12 o0 a0 (xy C) u Y)) (F := fun Z => Z) (X := []) (As := [.int r_16]) (rest := []) (u := u_15) hC (fun _ _ => rfl) (fun _ => rfl) (ctX12_refuse h) wvX12_refuse ml_X12_88 (ci := 10) (q0 := 0) rfl rfl rfl rfl (rmok hR0 rfl) ⟨Nat.zero_le _, Nat.zero_le _⟩ rfl (Nat.le_of_ble_eq_true rfl) dX12_fewest_12 (fun r_28 u_27 h => ?_)
    refine g_goto (pc := 15) (tgt := 30) hC dX12_fewest_15 (by decide) ?_
    refine g_sub (lv' := []) [] rfl ?_
    exact kX12_fewest_b30 hC hR0 hR  h
theorem ctX12_fewest {l : Launch} {D : va_G} {cy : Nat → ClassId} {kd : Nat → Nat} {o0 : Nat} {a0 : Nat → Nat} {x1 : Int32} {u0 : St} {post : Int32 → St → Prop} (h : qX12_fewest x1 u0 post) : CtI l D cy kd yX12_fewest cX12_fewest 3 9 .int [.ref o0, .int x1] (fun u : St => (wX12 o0 a0 cy u [])) u0 (fun r u => post r u) := met_i (by decide) (Nat.le_of_ble_eq_true rfl) (fun C e1 e2 e3 e4 e5 hC hR => by subst e1 e2 e3 e4; exact kX12_fewest hC e5 hR h)
theorem dX12_fewestSet_0 : decode cX12_fewestSet 0 = .ok (.aload_n 0, 1) := by decide +kernel
theorem dX12_fewestSet_1 : decode cX12_fewestSet 1 = .ok (.iload_n 1, 1) := by decide +kernel
theorem dX12_fewestSet_2 : decode cX12_fewestSet 2 = .ok (.invokevirtual 374, 3) := by decide +kernel
theorem dX12_fewestSet_5 : decode cX12_fewestSet 5 = .ok (.istore_n 2, 1) := by decide +kernel
theorem dX12_fewestSet_6 : decode cX12_fewestSet 6 = .ok (.iload_n 2, 1) := by decide +kernel
theorem dX12_fewestSet_7 : decode cX12_fewestSet 7 = .ok (.ifCond .le 11, 3) := by decide +kernel
theorem dX12_fewestSet_10 : decode cX12_fewestSet 10 = .ok (.aload_n 0, 1) := by decide +kernel
theorem dX12_fewestSet_11 : decode cX12_fewestSet 11 = .ok (.iload_n 2, 1) := by decide +kernel
theorem dX12_fewestSet_12 : decode cX12_fewestSet 12 = .ok (.invokevirtual 88, 3) := by decide +kernel
theorem dX12_fewestSet_15 : decode cX12_fewestSet 15 = .ok (.goto 12, 3) := by decide +kernel
theorem dX12_fewestSet_18 : decode cX12_fewestSet 18 = .ok (.aload_n 0, 1) := by decide +kernel
theorem dX12_fewestSet_19 : decode cX12_fewestSet 19 = .ok (.aload_n 0, 1) := by decide +kernel
theorem dX12_fewestSet_20 : decode cX12_fewestSet 20 = .ok (.iload_n 1, 1) := by decide +kernel
theorem dX12_fewestSet_21 : decode cX12_fewestSet 21 = .ok (.invokevirtual 371, 3) := by decide +kernel
theorem dX12_fewestSet_24 : decode cX12_fewestSet 24 = .ok (.invokevirtual 92, 3) := by decide +kernel
theorem dX12_fewestSet_27 : decode cX12_fewestSet 27 = .ok (.ireturn, 1) := by decide +kernel
def qX12_fewestSet_b27  (post : Int32 → St → Prop)  (s0 : Int32) (u0 : St) : Prop := post s0 u0
set_option maxRecDepth 100000 in
set_option maxHeartbeats 4000000 in
theorem kX12_fewestSet_b27 {C : Cx} {o0 : Nat} {a0 : Nat → Nat} (hC : Fx C cX12_fewestSet 3 RX12) (hR0 : xR C = rm 9) {post : Int32 → St → Prop} (hR : RI C cX12_fewestSet 3 (fun u : St => (wX12 o0 a0 (xy C) u [])) (fun r u => post r u))  {s0 : Int32} {u0 : St} (h : qX12_fewestSet_b27 post s0 u0) : G C 0 0 3 (wX12 o0 a0 (xy C) u0 []) 27 [] [.int s0] := by
  exact hR _ _ _ u0 dX12_fewestSet_27 h
def qX12_fewestSet (x1 : Int32) (u0 : St) (post : Int32 → St → Prop) : Prop := qX12_wrongStone x1 u0 (fun r_14 u_13 => ((r_14 ≤ 0 → qX12_bestBare x1 u_13 (fun r_18 u_17 => qX12_gives r_18 u_17 (fun r_21 u_20 => qX12_fewestSet_b27 post r_21 u_20))) ∧ (¬ r_14 ≤ 0 → qX12_refuse r_14 u_13 (fun r_24 u_23 => qX12_fewestSet_b27 post r_24 u_23))))
set_option maxRecDepth 100000 in
set_option maxHeartbeats 4000000 in
theorem kX12_fewestSet {C : Cx} {o0 : Nat} {a0 : Nat → Nat} (hC : Fx C cX12_fewestSet 3 RX12) (hR0 : xR C = rm 9) {post : Int32 → St → Prop} (hR : RI C cX12_fewestSet 3 (fun u : St => (wX12 o0 a0 (xy C) u [])) (fun r u => post r u)) {x1 : Int32} {u0 : St} (h : qX12_fewestSet x1 u0 post) : G C 0 0 3 (wX12 o0 a0 (xy C) u0 []) 0 [(0, .ref o0), (1, .int x1)] [] := by
  refine g_aload_n (pc := 0) hC 0 dX12_fewestSet_0 rfl rfl ?_
  refine g_iload_n (pc := 1) hC 1 dX12_fewestSet_1 rfl rfl ?_
  refine g_callV_i (pc := 2) (wd := fun (u : St) Y => (wX12 o0 a0 (xy C) u Y)) (F := fun Z => Z) (X := []) (As := [.int x1]) (rest := []) (u := u0) hC (fun _ _ => rfl) (fun _ => rfl) (ctX12_wrongStone h) wvX12_wrongStone ml_X12_374 (ci := 10) (q0 := 0) rfl rfl rfl rfl (rmok hR0 rfl) ⟨Nat.zero_le _, Nat.zero_le _⟩ rfl (Nat.le_of_ble_eq_true rfl) dX12_fewestSet_2 (fun r_14 u_13 h => ?_)
  refine g_istore_n (pc := 5) (lv' := [(2, .int r_14), (0, .ref o0), (1, .int x1)]) hC dX12_fewestSet_5 rfl (Nat.le_of_ble_eq_true rfl) rfl ?_
  refine g_iload_n (pc := 6) hC 0 dX12_fewestSet_6 rfl rfl ?_
  refine g_if_le (pc := 7) (tgt := 18) hC dX12_fewestSet_7 (by decide) (fun c_16 => ?_) (fun c_16 => ?_)
  · have h := h.1 c_16
    refine g_aload_n (pc := 18) hC 1 dX12_fewestSet_18 rfl rfl ?_
    refine g_aload_n (pc := 19) hC 1 dX12_fewestSet_19 rfl rfl ?_
    refine g_iload_n (pc := 20) hC 2 dX12_fewestSet_20 rfl rfl ?_
    refine g_callV_i (pc := 21) (wd := fun (u : St) Y => (wX12 o0 a0 (xy C) u Y)) (F := fun Z => Z) (X := []) (As := [.int x1]) (rest := [.ref o0]) (u := u_13) hC (fun _ _ => rfl) (fun _ => rfl) (ctX12_bestBare h) wvX12_bestBare ml_X12_371 (ci := 10) (q0 := 0) rfl rfl rfl rfl (rmok hR0 rfl) ⟨Nat.zero_le _, Nat.zero_le _⟩ rfl (Nat.le_of_ble_eq_true rfl) dX12_fewestSet_21 (fun r_18 u_17 h => ?_)
    refine g_callV_i (pc := 24) (wd := fun (u : St) Y => (wX12 o0 a0 (xy C) u Y)) (F := fun Z => Z) (X := []) (As := [.int r_18]) (rest := []) (u := u_17) hC (fun _ _ => rfl) (fun _ => rfl) (ctX12_gives h) wvX12_gives ml_X12_92 (ci := 10) (q0 := 0) rfl rfl rfl rfl (rmok hR0 rfl) ⟨Nat.zero_le _, Nat.zero_le _⟩ rfl (Nat.le_of_ble_eq_true rfl) dX12_fewestSet_24 (fun r_21 u_20 h => ?_)
    refine g_sub (lv' := []) [] rfl ?_
    exact kX12_fewestSet_b27 hC hR0 hR  h
  · have h := h.2 c_16
    refine g_aload_n (pc := 10) hC 1 dX12_fewestSet_10 rfl rfl ?_
    refine g_iload_n (pc := 11) hC 0 dX12_fewestSet_11 rfl rfl ?_
    refine g_callV_i (pc := 12) (wd := fun (u : St) Y => (wX12 o0 a0 (xy C) u Y)) (F := fun Z => Z) (X := []) (As := [.int r_14]) (rest := []) (u := u_13) hC (fun _ _ => rfl) (fun _ => rfl) (ctX12_refuse h) wvX12_refuse ml_X12_88 (ci := 10) (q0 := 0) rfl rfl rfl rfl (rmok hR0 rfl) ⟨Nat.zero_le _, Nat.zero_le _⟩ rfl (Nat.le_of_ble_eq_true rfl) dX12_fewestSet_12 (fun r_24 u_23 h => ?_)
    refine g_goto (pc := 15) (tgt := 27) hC dX12_fewestSet_15 (by decide) ?_
    refine g_sub (lv' := []) [] rfl ?_
    exact kX12_fewestSet_b27 hC hR0 hR  h
theorem ctX12_fewestSet {l : Launch} {D : va_G} {cy : Nat → ClassId} {kd : Nat → Nat} {o0 : Nat} {a0 : Nat → Nat} {x1 : Int32} {u0 : St} {post : Int32 → St → Prop} (h : qX12_fewestSet x1 u0 post) : CtI l D cy kd yX12_fewestSet cX12_fewestSet 3 9 .int [.ref o0, .int x1] (fun u : St => (wX12 o0 a0 cy u [])) u0 (fun r u => post r u) := met_i (by decide) (Nat.le_of_ble_eq_true rfl) (fun C e1 e2 e3 e4 e5 hC hR => by subst e1 e2 e3 e4; exact kX12_fewestSet hC e5 hR h)
theorem dX12_under_0 : decode cX12_under 0 = .ok (.aload_n 0, 1) := by decide +kernel
theorem dX12_under_1 : decode cX12_under 1 = .ok (.iload_n 1, 1) := by decide +kernel
theorem dX12_under_2 : decode cX12_under 2 = .ok (.invokevirtual 291, 3) := by decide +kernel
theorem dX12_under_5 : decode cX12_under 5 = .ok (.ifCond .ne 9, 3) := by decide +kernel
theorem dX12_under_8 : decode cX12_under 8 = .ok (.aload_n 0, 1) := by decide +kernel
theorem dX12_under_9 : decode cX12_under 9 = .ok (.iconst 1, 1) := by decide +kernel
theorem dX12_under_10 : decode cX12_under 10 = .ok (.invokevirtual 88, 3) := by decide +kernel
theorem dX12_under_13 : decode cX12_under 13 = .ok (.ireturn, 1) := by decide +kernel
theorem dX12_under_14 : decode cX12_under 14 = .ok (.aload_n 0, 1) := by decide +kernel
theorem dX12_under_15 : decode cX12_under 15 = .ok (.aload_n 0, 1) := by decide +kernel
theorem dX12_under_16 : decode cX12_under 16 = .ok (.getfield 7, 3) := by decide +kernel
theorem dX12_under_19 : decode cX12_under 19 = .ok (.iconst 5, 1) := by decide +kernel
theorem dX12_under_20 : decode cX12_under 20 = .ok (.iaload, 1) := by decide +kernel
theorem dX12_under_21 : decode cX12_under 21 = .ok (.iload_n 1, 1) := by decide +kernel
theorem dX12_under_22 : decode cX12_under 22 = .ok (.invokevirtual 201, 3) := by decide +kernel
theorem dX12_under_25 : decode cX12_under 25 = .ok (.ifCond .eq 10, 3) := by decide +kernel
theorem dX12_under_28 : decode cX12_under 28 = .ok (.aload_n 0, 1) := by decide +kernel
theorem dX12_under_29 : decode cX12_under 29 = .ok (.bipush 7, 2) := by decide +kernel
theorem dX12_under_31 : decode cX12_under 31 = .ok (.invokevirtual 88, 3) := by decide +kernel
theorem dX12_under_34 : decode cX12_under 34 = .ok (.ireturn, 1) := by decide +kernel
theorem dX12_under_35 : decode cX12_under 35 = .ok (.aload_n 0, 1) := by decide +kernel
theorem dX12_under_36 : decode cX12_under 36 = .ok (.aload_n 0, 1) := by decide +kernel
theorem dX12_under_37 : decode cX12_under 37 = .ok (.invokevirtual 279, 3) := by decide +kernel
theorem dX12_under_40 : decode cX12_under 40 = .ok (.aload_n 0, 1) := by decide +kernel
theorem dX12_under_41 : decode cX12_under 41 = .ok (.iconst 0, 1) := by decide +kernel
theorem dX12_under_42 : decode cX12_under 42 = .ok (.iload_n 1, 1) := by decide +kernel
theorem dX12_under_43 : decode cX12_under 43 = .ok (.invokevirtual 273, 3) := by decide +kernel
theorem dX12_under_46 : decode cX12_under 46 = .ok (.iconst (-1), 1) := by decide +kernel
theorem dX12_under_47 : decode cX12_under 47 = .ok (.ixor, 1) := by decide +kernel
theorem dX12_under_48 : decode cX12_under 48 = .ok (.iand, 1) := by decide +kernel
theorem dX12_under_49 : decode cX12_under 49 = .ok (.invokevirtual 92, 3) := by decide +kernel
theorem dX12_under_52 : decode cX12_under 52 = .ok (.ireturn, 1) := by decide +kernel
def qX12_under (x1 : Int32) (u0 : St) (post : Int32 → St → Prop) : Prop := qX12_isStone x1 u0 (fun r_23 u_22 => ((¬ r_23 = 0 → qX12_isIn (ga u_22 0 ((5 : Int32)).toNatClampNeg) x1 u_22 (fun r_27 u_26 => ((r_27 = 0 → qX12_standsNow u_26 (fun r_31 u_30 => qX12_standing (0 : Int32) x1 u_30 (fun r_34 u_33 => qX12_gives (r_31 &&& (r_34 ^^^ (-1 : Int32))) u_33 (fun r_37 u_36 => post r_37 u_36)))) ∧ (¬ r_27 = 0 → qX12_refuse (7 : Int32) u_26 (fun r_40 u_39 => post r_40 u_39))))) ∧ (r_23 = 0 → qX12_refuse (1 : Int32) u_22 (fun r_43 u_42 => post r_43 u_42))))
set_option maxRecDepth 100000 in
set_option maxHeartbeats 4000000 in
theorem kX12_under {C : Cx} {o0 : Nat} {a0 : Nat → Nat} (hC : Fx C cX12_under 2 RX12) (hR0 : xR C = rm 6) {post : Int32 → St → Prop} (hR : RI C cX12_under 2 (fun u : St => (wX12 o0 a0 (xy C) u [])) (fun r u => post r u)) {x1 : Int32} {u0 : St} (h : qX12_under x1 u0 post) : G C 0 0 2 (wX12 o0 a0 (xy C) u0 []) 0 [(0, .ref o0), (1, .int x1)] [] := by
  refine g_aload_n (pc := 0) hC 0 dX12_under_0 rfl rfl ?_
  refine g_iload_n (pc := 1) hC 1 dX12_under_1 rfl rfl ?_
  refine g_callV_i (pc := 2) (wd := fun (u : St) Y => (wX12 o0 a0 (xy C) u Y)) (F := fun Z => Z) (X := []) (As := [.int x1]) (rest := []) (u := u0) hC (fun _ _ => rfl) (fun _ => rfl) (ctX12_isStone h) wvX12_isStone ml_X12_291 (ci := 10) (q0 := 0) rfl rfl rfl rfl (rmok hR0 rfl) ⟨Nat.zero_le _, Nat.zero_le _⟩ rfl (Nat.le_of_ble_eq_true rfl) dX12_under_2 (fun r_23 u_22 h => ?_)
  refine g_if_ne (pc := 5) (tgt := 14) hC dX12_under_5 (by decide) (fun c_25 => ?_) (fun c_25 => ?_)
  · have h := h.1 c_25
    refine g_aload_n (pc := 14) hC 0 dX12_under_14 rfl rfl ?_
    refine g_aload_n (pc := 15) hC 0 dX12_under_15 rfl rfl ?_
    refine getX12_0 (pc := 16) hC (F := fun Z => Z) (X := []) (fun _ => rfl) fl_X12_7 dX12_under_16 ?_
    refine g_iconst (pc := 19) (v := 5) hC dX12_under_19 (by decide) ?_
    refine aldX12_0 (pc := 20) hC (F := fun Z => Z) (X := []) (fun _ => rfl) (by unfold vp_in; decide) dX12_under_20 ?_
    refine g_iload_n (pc := 21) hC 1 dX12_under_21 rfl rfl ?_
    refine g_callV_i (pc := 22) (wd := fun (u : St) Y => (wX12 o0 a0 (xy C) u Y)) (F := fun Z => Z) (X := []) (As := [.int (ga u_22 0 ((5 : Int32)).toNatClampNeg), .int x1]) (rest := []) (u := u_22) hC (fun _ _ => rfl) (fun _ => rfl) (ctX12_isIn h) wvX12_isIn ml_X12_201 (ci := 10) (q0 := 0) rfl rfl rfl rfl (rmok hR0 rfl) ⟨Nat.zero_le _, Nat.zero_le _⟩ rfl (Nat.le_of_ble_eq_true rfl) dX12_under_22 (fun r_27 u_26 h => ?_)
    refine g_if_eq (pc := 25) (tgt := 35) hC dX12_under_25 (by decide) (fun c_29 => ?_) (fun c_29 => ?_)
    · have h := h.1 c_29
      refine g_aload_n (pc := 35) hC 0 dX12_under_35 rfl rfl ?_
      refine g_aload_n (pc := 36) hC 0 dX12_under_36 rfl rfl ?_
      refine g_callV_i (pc := 37) (wd := fun (u : St) Y => (wX12 o0 a0 (xy C) u Y)) (F := fun Z => Z) (X := []) (As := []) (rest := [.ref o0]) (u := u_26) hC (fun _ _ => rfl) (fun _ => rfl) (ctX12_standsNow h) wvX12_standsNow ml_X12_279 (ci := 10) (q0 := 0) rfl rfl rfl rfl (rmok hR0 rfl) ⟨Nat.zero_le _, Nat.zero_le _⟩ rfl (Nat.le_of_ble_eq_true rfl) dX12_under_37 (fun r_31 u_30 h => ?_)
      refine g_aload_n (pc := 40) hC 0 dX12_under_40 rfl rfl ?_
      refine g_iconst (pc := 41) (v := 0) hC dX12_under_41 (by decide) ?_
      refine g_iload_n (pc := 42) hC 1 dX12_under_42 rfl rfl ?_
      refine g_callV_i (pc := 43) (wd := fun (u : St) Y => (wX12 o0 a0 (xy C) u Y)) (F := fun Z => Z) (X := []) (As := [.int (0 : Int32), .int x1]) (rest := [.int r_31, .ref o0]) (u := u_30) hC (fun _ _ => rfl) (fun _ => rfl) (ctX12_standing h) wvX12_standing ml_X12_273 (ci := 10) (q0 := 0) rfl rfl rfl rfl (rmok hR0 rfl) ⟨Nat.zero_le _, Nat.zero_le _⟩ rfl (Nat.le_of_ble_eq_true rfl) dX12_under_43 (fun r_34 u_33 h => ?_)
      refine g_iconst (pc := 46) (v := -1) hC dX12_under_46 (by decide) ?_
      refine g_ixor (pc := 47) hC dX12_under_47 ?_
      refine g_iand (pc := 48) hC dX12_under_48 ?_
      refine g_callV_i (pc := 49) (wd := fun (u : St) Y => (wX12 o0 a0 (xy C) u Y)) (F := fun Z => Z) (X := []) (As := [.int (r_31 &&& (r_34 ^^^ (-1 : Int32)))]) (rest := []) (u := u_33) hC (fun _ _ => rfl) (fun _ => rfl) (ctX12_gives h) wvX12_gives ml_X12_92 (ci := 10) (q0 := 0) rfl rfl rfl rfl (rmok hR0 rfl) ⟨Nat.zero_le _, Nat.zero_le _⟩ rfl (Nat.le_of_ble_eq_true rfl) dX12_under_49 (fun r_37 u_36 h => ?_)
      exact hR _ _ _ u_36 dX12_under_52 h
    · have h := h.2 c_29
      refine g_aload_n (pc := 28) hC 0 dX12_under_28 rfl rfl ?_
      refine g_bipush (pc := 29) (v := 7) hC dX12_under_29 (by decide) ?_
      refine g_callV_i (pc := 31) (wd := fun (u : St) Y => (wX12 o0 a0 (xy C) u Y)) (F := fun Z => Z) (X := []) (As := [.int (7 : Int32)]) (rest := []) (u := u_26) hC (fun _ _ => rfl) (fun _ => rfl) (ctX12_refuse h) wvX12_refuse ml_X12_88 (ci := 10) (q0 := 0) rfl rfl rfl rfl (rmok hR0 rfl) ⟨Nat.zero_le _, Nat.zero_le _⟩ rfl (Nat.le_of_ble_eq_true rfl) dX12_under_31 (fun r_40 u_39 h => ?_)
      exact hR _ _ _ u_39 dX12_under_34 h
  · have h := h.2 c_25
    refine g_aload_n (pc := 8) hC 0 dX12_under_8 rfl rfl ?_
    refine g_iconst (pc := 9) (v := 1) hC dX12_under_9 (by decide) ?_
    refine g_callV_i (pc := 10) (wd := fun (u : St) Y => (wX12 o0 a0 (xy C) u Y)) (F := fun Z => Z) (X := []) (As := [.int (1 : Int32)]) (rest := []) (u := u_22) hC (fun _ _ => rfl) (fun _ => rfl) (ctX12_refuse h) wvX12_refuse ml_X12_88 (ci := 10) (q0 := 0) rfl rfl rfl rfl (rmok hR0 rfl) ⟨Nat.zero_le _, Nat.zero_le _⟩ rfl (Nat.le_of_ble_eq_true rfl) dX12_under_10 (fun r_43 u_42 h => ?_)
    exact hR _ _ _ u_42 dX12_under_13 h
theorem ctX12_under {l : Launch} {D : va_G} {cy : Nat → ClassId} {kd : Nat → Nat} {o0 : Nat} {a0 : Nat → Nat} {x1 : Int32} {u0 : St} {post : Int32 → St → Prop} (h : qX12_under x1 u0 post) : CtI l D cy kd yX12_under cX12_under 2 6 .int [.ref o0, .int x1] (fun u : St => (wX12 o0 a0 cy u [])) u0 (fun r u => post r u) := met_i (by decide) (Nat.le_of_ble_eq_true rfl) (fun C e1 e2 e3 e4 e5 hC hR => by subst e1 e2 e3 e4; exact kX12_under hC e5 hR h)
theorem dX12_laysChain_0 : decode cX12_laysChain 0 = .ok (.iconst 0, 1) := by decide +kernel
theorem dX12_laysChain_1 : decode cX12_laysChain 1 = .ok (.istore_n 2, 1) := by decide +kernel
theorem dX12_laysChain_2 : decode cX12_laysChain 2 = .ok (.aload_n 0, 1) := by decide +kernel
theorem dX12_laysChain_3 : decode cX12_laysChain 3 = .ok (.iconst 0, 1) := by decide +kernel
theorem dX12_laysChain_4 : decode cX12_laysChain 4 = .ok (.putfield 377, 3) := by decide +kernel
theorem dX12_laysChain_7 : decode cX12_laysChain 7 = .ok (.aload_n 0, 1) := by decide +kernel
theorem dX12_laysChain_8 : decode cX12_laysChain 8 = .ok (.getfield 47, 3) := by decide +kernel
theorem dX12_laysChain_11 : decode cX12_laysChain 11 = .ok (.iconst 0, 1) := by decide +kernel
theorem dX12_laysChain_12 : decode cX12_laysChain 12 = .ok (.iconst (-1), 1) := by decide +kernel
theorem dX12_laysChain_13 : decode cX12_laysChain 13 = .ok (.iastore, 1) := by decide +kernel
theorem dX12_laysChain_14 : decode cX12_laysChain 14 = .ok (.aload_n 0, 1) := by decide +kernel
theorem dX12_laysChain_15 : decode cX12_laysChain 15 = .ok (.iconst 0, 1) := by decide +kernel
theorem dX12_laysChain_16 : decode cX12_laysChain 16 = .ok (.invokestatic 380, 3) := by decide +kernel
theorem dX12_laysChain_19 : decode cX12_laysChain 19 = .ok (.invokevirtual 352, 3) := by decide +kernel
theorem dX12_laysChain_22 : decode cX12_laysChain 22 = .ok (.iload_n 2, 1) := by decide +kernel
theorem dX12_laysChain_23 : decode cX12_laysChain 23 = .ok (.ifCond .lt 134, 3) := by decide +kernel
theorem dX12_laysChain_26 : decode cX12_laysChain 26 = .ok (.aload_n 0, 1) := by decide +kernel
theorem dX12_laysChain_27 : decode cX12_laysChain 27 = .ok (.iload_n 2, 1) := by decide +kernel
theorem dX12_laysChain_28 : decode cX12_laysChain 28 = .ok (.invokestatic 380, 3) := by decide +kernel
theorem dX12_laysChain_31 : decode cX12_laysChain 31 = .ok (.invokevirtual 355, 3) := by decide +kernel
theorem dX12_laysChain_34 : decode cX12_laysChain 34 = .ok (.aload_n 0, 1) := by decide +kernel
theorem dX12_laysChain_35 : decode cX12_laysChain 35 = .ok (.getfield 47, 3) := by decide +kernel
theorem dX12_laysChain_38 : decode cX12_laysChain 38 = .ok (.iload_n 2, 1) := by decide +kernel
theorem dX12_laysChain_39 : decode cX12_laysChain 39 = .ok (.dup2, 1) := by decide +kernel
theorem dX12_laysChain_40 : decode cX12_laysChain 40 = .ok (.iaload, 1) := by decide +kernel
theorem dX12_laysChain_41 : decode cX12_laysChain 41 = .ok (.iconst 1, 1) := by decide +kernel
theorem dX12_laysChain_42 : decode cX12_laysChain 42 = .ok (.iadd, 1) := by decide +kernel
theorem dX12_laysChain_43 : decode cX12_laysChain 43 = .ok (.iastore, 1) := by decide +kernel
theorem dX12_laysChain_44 : decode cX12_laysChain 44 = .ok (.aload_n 0, 1) := by decide +kernel
theorem dX12_laysChain_45 : decode cX12_laysChain 45 = .ok (.getfield 47, 3) := by decide +kernel
theorem dX12_laysChain_48 : decode cX12_laysChain 48 = .ok (.iload_n 2, 1) := by decide +kernel
theorem dX12_laysChain_49 : decode cX12_laysChain 49 = .ok (.iaload, 1) := by decide +kernel
theorem dX12_laysChain_50 : decode cX12_laysChain 50 = .ok (.istore_n 3, 1) := by decide +kernel
theorem dX12_laysChain_51 : decode cX12_laysChain 51 = .ok (.iload_n 3, 1) := by decide +kernel
theorem dX12_laysChain_52 : decode cX12_laysChain 52 = .ok (.aload_n 0, 1) := by decide +kernel
theorem dX12_laysChain_53 : decode cX12_laysChain 53 = .ok (.getfield 7, 3) := by decide +kernel
theorem dX12_laysChain_56 : decode cX12_laysChain 56 = .ok (.iconst 2, 1) := by decide +kernel
theorem dX12_laysChain_57 : decode cX12_laysChain 57 = .ok (.iaload, 1) := by decide +kernel
theorem dX12_laysChain_58 : decode cX12_laysChain 58 = .ok (.if_icmp .lt 9, 3) := by decide +kernel
theorem dX12_laysChain_61 : decode cX12_laysChain 61 = .ok (.iinc 2 (-1), 3) := by decide +kernel
theorem dX12_laysChain_64 : decode cX12_laysChain 64 = .ok (.goto (-42), 3) := by decide +kernel
theorem dX12_laysChain_67 : decode cX12_laysChain 67 = .ok (.aload_n 0, 1) := by decide +kernel
theorem dX12_laysChain_68 : decode cX12_laysChain 68 = .ok (.iload_n 3, 1) := by decide +kernel
theorem dX12_laysChain_69 : decode cX12_laysChain 69 = .ok (.invokevirtual 325, 3) := by decide +kernel
theorem dX12_laysChain_72 : decode cX12_laysChain 72 = .ok (.iconst (-1), 1) := by decide +kernel
theorem dX12_laysChain_73 : decode cX12_laysChain 73 = .ok (.if_icmp .eq (-51), 3) := by decide +kernel
theorem dX12_laysChain_76 : decode cX12_laysChain 76 = .ok (.iload_n 1, 1) := by decide +kernel
theorem dX12_laysChain_77 : decode cX12_laysChain 77 = .ok (.ifCond .eq 13, 3) := by decide +kernel
theorem dX12_laysChain_80 : decode cX12_laysChain 80 = .ok (.aload_n 0, 1) := by decide +kernel
theorem dX12_laysChain_81 : decode cX12_laysChain 81 = .ok (.invokevirtual 240, 3) := by decide +kernel
theorem dX12_laysChain_84 : decode cX12_laysChain 84 = .ok (.ifCond .le 6, 3) := by decide +kernel
theorem dX12_laysChain_87 : decode cX12_laysChain 87 = .ok (.goto (-65), 3) := by decide +kernel
theorem dX12_laysChain_90 : decode cX12_laysChain 90 = .ok (.iload_n 2, 1) := by decide +kernel
theorem dX12_laysChain_91 : decode cX12_laysChain 91 = .ok (.iconst 1, 1) := by decide +kernel
theorem dX12_laysChain_92 : decode cX12_laysChain 92 = .ok (.iadd, 1) := by decide +kernel
theorem dX12_laysChain_93 : decode cX12_laysChain 93 = .ok (.aload_n 0, 1) := by decide +kernel
theorem dX12_laysChain_94 : decode cX12_laysChain 94 = .ok (.getfield 377, 3) := by decide +kernel
theorem dX12_laysChain_97 : decode cX12_laysChain 97 = .ok (.if_icmp .le 39, 3) := by decide +kernel
theorem dX12_laysChain_100 : decode cX12_laysChain 100 = .ok (.aload_n 0, 1) := by decide +kernel
theorem dX12_laysChain_101 : decode cX12_laysChain 101 = .ok (.iload_n 2, 1) := by decide +kernel
theorem dX12_laysChain_102 : decode cX12_laysChain 102 = .ok (.iconst 1, 1) := by decide +kernel
theorem dX12_laysChain_103 : decode cX12_laysChain 103 = .ok (.iadd, 1) := by decide +kernel
theorem dX12_laysChain_104 : decode cX12_laysChain 104 = .ok (.putfield 377, 3) := by decide +kernel
theorem dX12_laysChain_107 : decode cX12_laysChain 107 = .ok (.iconst 0, 1) := by decide +kernel
theorem dX12_laysChain_108 : decode cX12_laysChain 108 = .ok (.istore 4, 2) := by decide +kernel
theorem dX12_laysChain_110 : decode cX12_laysChain 110 = .ok (.iload 4, 2) := by decide +kernel
theorem dX12_laysChain_112 : decode cX12_laysChain 112 = .ok (.iload_n 2, 1) := by decide +kernel
theorem dX12_laysChain_113 : decode cX12_laysChain 113 = .ok (.if_icmp .gt 23, 3) := by decide +kernel
theorem dX12_laysChain_116 : decode cX12_laysChain 116 = .ok (.aload_n 0, 1) := by decide +kernel
theorem dX12_laysChain_117 : decode cX12_laysChain 117 = .ok (.getfield 50, 3) := by decide +kernel
theorem dX12_laysChain_120 : decode cX12_laysChain 120 = .ok (.iload 4, 2) := by decide +kernel
theorem dX12_laysChain_122 : decode cX12_laysChain 122 = .ok (.aload_n 0, 1) := by decide +kernel
theorem dX12_laysChain_123 : decode cX12_laysChain 123 = .ok (.getfield 47, 3) := by decide +kernel
theorem dX12_laysChain_126 : decode cX12_laysChain 126 = .ok (.iload 4, 2) := by decide +kernel
theorem dX12_laysChain_128 : decode cX12_laysChain 128 = .ok (.iaload, 1) := by decide +kernel
theorem dX12_laysChain_129 : decode cX12_laysChain 129 = .ok (.iastore, 1) := by decide +kernel
theorem dX12_laysChain_130 : decode cX12_laysChain 130 = .ok (.iinc 4 1, 3) := by decide +kernel
theorem dX12_laysChain_133 : decode cX12_laysChain 133 = .ok (.goto (-23), 3) := by decide +kernel
theorem dX12_laysChain_136 : decode cX12_laysChain 136 = .ok (.iinc 2 1, 3) := by decide +kernel
theorem dX12_laysChain_139 : decode cX12_laysChain 139 = .ok (.aload_n 0, 1) := by decide +kernel
theorem dX12_laysChain_140 : decode cX12_laysChain 140 = .ok (.getfield 47, 3) := by decide +kernel
theorem dX12_laysChain_143 : decode cX12_laysChain 143 = .ok (.iload_n 2, 1) := by decide +kernel
theorem dX12_laysChain_144 : decode cX12_laysChain 144 = .ok (.iconst (-1), 1) := by decide +kernel
theorem dX12_laysChain_145 : decode cX12_laysChain 145 = .ok (.iastore, 1) := by decide +kernel
theorem dX12_laysChain_146 : decode cX12_laysChain 146 = .ok (.aload_n 0, 1) := by decide +kernel
theorem dX12_laysChain_147 : decode cX12_laysChain 147 = .ok (.iload_n 2, 1) := by decide +kernel
theorem dX12_laysChain_148 : decode cX12_laysChain 148 = .ok (.invokestatic 380, 3) := by decide +kernel
theorem dX12_laysChain_151 : decode cX12_laysChain 151 = .ok (.invokevirtual 352, 3) := by decide +kernel
theorem dX12_laysChain_154 : decode cX12_laysChain 154 = .ok (.goto (-132), 3) := by decide +kernel
theorem dX12_laysChain_157 : decode cX12_laysChain 157 = .ok (.aload_n 0, 1) := by decide +kernel
theorem dX12_laysChain_158 : decode cX12_laysChain 158 = .ok (.iconst 0, 1) := by decide +kernel
theorem dX12_laysChain_159 : decode cX12_laysChain 159 = .ok (.invokestatic 380, 3) := by decide +kernel
theorem dX12_laysChain_162 : decode cX12_laysChain 162 = .ok (.invokevirtual 355, 3) := by decide +kernel
theorem dX12_laysChain_165 : decode cX12_laysChain 165 = .ok (.return_, 1) := by decide +kernel
def qX12_laysChain_b136  (post : St → Prop) (K22 : Int32 → Int32 → St → Prop) (x1 : Int32) (x2 : Int32) (u0 : St) : Prop := ∀ x2_32 : Int32, x2_32 = x2 + (1 : Int32) → (vp_in x2_32 8 ∧ ∀ u_33 : St, u_33 = (sw u0 25 (upd (ga u0 25) (x2_32).toNatClampNeg (-1 : Int32))) → qX12_levelAt x2_32 (fun r_34 => qX12_keeps r_34 u_33 (fun u_36 => K22 x1 x2_32 u_36)))
set_option maxRecDepth 100000 in
set_option maxHeartbeats 4000000 in
theorem kX12_laysChain_b136 {C : Cx} {o0 : Nat} {a0 : Nat → Nat} (hC : Fx C cX12_laysChain 5 RX12) (hR0 : xR C = rm 7) {post : St → Prop} (hR : RV C cX12_laysChain 5 (fun u : St => (wX12 o0 a0 (xy C) u [])) (fun u => post u)) {K22 : Int32 → Int32 → St → Prop} (hK22 : ∀ (x1 : Int32) (x2 : Int32) (u0 : St), K22 x1 x2 u0 → G C 0 0 5 (wX12 o0 a0 (xy C) u0 []) 22 [(0, .ref o0), (1, .int x1), (2, .int x2)] []) {x1 : Int32} {x2 : Int32} {u0 : St} (h : qX12_laysChain_b136 post K22 x1 x2 u0) : G C 0 0 5 (wX12 o0 a0 (xy C) u0 []) 136 [(0, .ref o0), (1, .int x1), (2, .int x2)] [] := by
  obtain ⟨x2_32, ex2_32⟩ : ∃ z : Int32, z = x2 + (1 : Int32) := ⟨_, rfl⟩
  have h := h x2_32 ex2_32
  refine g_iinc (pc := 136) (v := x2_32) (lv' := [(2, .int x2_32), (0, .ref o0), (1, .int x1)]) hC 2 dX12_laysChain_136 rfl (by rw [ex2_32]; rfl) (Nat.le_of_ble_eq_true rfl) rfl ?_
  refine g_aload_n (pc := 139) hC 1 dX12_laysChain_139 rfl rfl ?_
  refine getX12_25 (pc := 140) hC (F := fun Z => Z) (X := []) (fun _ => rfl) fl_X12_47 dX12_laysChain_140 ?_
  refine g_iload_n (pc := 143) hC 0 dX12_laysChain_143 rfl rfl ?_
  refine g_iconst (pc := 144) (v := -1) hC dX12_laysChain_144 (by decide) ?_
  refine astX12_25 (pc := 145) hC (F := fun Z => Z) (X := []) (fun _ => rfl) h.1 dX12_laysChain_145 ?_
  have h := h.2
  refine g_st (w := fun z => (wX12 o0 a0 (xy C) z [])) (u := (sw u0 25 (upd (ga u0 25) (x2_32).toNatClampNeg (-1 : Int32)))) (fun u_33 eu_33 => ?_)
  have h := h u_33 eu_33
  refine g_aload_n (pc := 146) hC 1 dX12_laysChain_146 rfl rfl ?_
  refine g_iload_n (pc := 147) hC 0 dX12_laysChain_147 rfl rfl ?_
  refine g_callS_i (pc := 148) (wd := fun (_ : Unit) Y => Y) (F := fun Z => Z) (X := []) (As := [.int x2_32]) (rest := [.ref o0]) (u := ()) hC (fun _ _ => rfl) (fun _ => rfl) (ctX12_levelAt h) wvX12_levelAt ml_X12_380 rfl (rmok hR0 rfl) ⟨Nat.zero_le _, Nat.zero_le _⟩ rfl (Nat.le_of_ble_eq_true rfl) dX12_laysChain_148 (fun r_34 u_35 h => ?_)
  refine g_callV_v (pc := 151) (wd := fun (u : St) Y => (wX12 o0 a0 (xy C) u Y)) (F := fun Z => Z) (X := []) (As := [.int r_34]) (rest := []) (u := u_33) hC (fun _ _ => rfl) (fun _ => rfl) (ctX12_keeps h) wvX12_keeps ml_X12_352 (ci := 10) (q0 := 0) rfl rfl rfl rfl (rmok hR0 rfl) ⟨Nat.zero_le _, Nat.zero_le _⟩ rfl (Nat.le_of_ble_eq_true rfl) dX12_laysChain_151 (fun u_36 h => ?_)
  refine g_goto (pc := 154) (tgt := 22) hC dX12_laysChain_154 (by decide) ?_
  refine g_sub (lv' := [(0, .ref o0), (1, .int x1), (2, .int x2_32)]) [1, 2, 0] rfl ?_
  exact hK22 _ _ _ h
def qX12_laysChain_l110  (post : St → Prop) (K22 : Int32 → Int32 → St → Prop) (K110 : Int32 → Int32 → Int32 → St → Prop) (x1 : Int32) (x2 : Int32) (x4 : Int32) (u0 : St) : Prop := ((x2 < x4 → qX12_laysChain_b136 post K22 x1 x2 u0) ∧ (¬ x2 < x4 → (vp_in x4 8 ∧ (vp_in x4 7 ∧ ∀ u_39 : St, u_39 = (sw u0 26 (upd (ga u0 26) (x4).toNatClampNeg (ga u0 25 (x4).toNatClampNeg))) → ∀ x4_40 : Int32, x4_40 = x4 + (1 : Int32) → K110 x1 x2 x4_40 u_39))))
set_option maxRecDepth 100000 in
set_option maxHeartbeats 4000000 in
theorem kX12_laysChain_l110 {C : Cx} {o0 : Nat} {a0 : Nat → Nat} (hC : Fx C cX12_laysChain 5 RX12) (hR0 : xR C = rm 7) {post : St → Prop} (hR : RV C cX12_laysChain 5 (fun u : St => (wX12 o0 a0 (xy C) u [])) (fun u => post u)) {K22 : Int32 → Int32 → St → Prop} (hK22 : ∀ (x1 : Int32) (x2 : Int32) (u0 : St), K22 x1 x2 u0 → G C 0 0 5 (wX12 o0 a0 (xy C) u0 []) 22 [(0, .ref o0), (1, .int x1), (2, .int x2)] []) {K110 : Int32 → Int32 → Int32 → St → Prop} (hK110 : ∀ (x1 : Int32) (x2 : Int32) (x4 : Int32) (u0 : St), K110 x1 x2 x4 u0 → G C 0 0 5 (wX12 o0 a0 (xy C) u0 []) 110 [(0, .ref o0), (1, .int x1), (2, .int x2), (4, .int x4)] []) {x1 : Int32} {x2 : Int32} {x4 : Int32} {u0 : St} (h : qX12_laysChain_l110 post K22 K110 x1 x2 x4 u0) : G C 0 0 5 (wX12 o0 a0 (xy C) u0 []) 110 [(0, .ref o0), (1, .int x1), (2, .int x2), (4, .int x4)] [] := by
  refine g_iload (pc := 110) hC 3 dX12_laysChain_110 rfl ?_
  refine g_iload_n (pc := 112) hC 2 dX12_laysChain_112 rfl rfl ?_
  refine g_icmp_gt (pc := 113) (tgt := 136) hC dX12_laysChain_113 (by decide) (fun c_38 => ?_) (fun c_38 => ?_)
  · have h := h.1 c_38
    refine g_sub (lv' := [(0, .ref o0), (1, .int x1), (2, .int x2)]) [0, 1, 2] rfl ?_
    exact kX12_laysChain_b136 hC hR0 hR hK22 h
  · have h := h.2 c_38
    refine g_aload_n (pc := 116) hC 0 dX12_laysChain_116 rfl rfl ?_
    refine getX12_26 (pc := 117) hC (F := fun Z => Z) (X := []) (fun _ => rfl) fl_X12_50 dX12_laysChain_117 ?_
    refine g_iload (pc := 120) hC 3 dX12_laysChain_120 rfl ?_
    refine g_aload_n (pc := 122) hC 0 dX12_laysChain_122 rfl rfl ?_
    refine getX12_25 (pc := 123) hC (F := fun Z => Z) (X := []) (fun _ => rfl) fl_X12_47 dX12_laysChain_123 ?_
    refine g_iload (pc := 126) hC 3 dX12_laysChain_126 rfl ?_
    refine aldX12_25 (pc := 128) hC (F := fun Z => Z) (X := []) (fun _ => rfl) h.1 dX12_laysChain_128 ?_
    have h := h.2
    refine astX12_26 (pc := 129) hC (F := fun Z => Z) (X := []) (fun _ => rfl) h.1 dX12_laysChain_129 ?_
    have h := h.2
    refine g_st (w := fun z => (wX12 o0 a0 (xy C) z [])) (u := (sw u0 26 (upd (ga u0 26) (x4).toNatClampNeg (ga u0 25 (x4).toNatClampNeg)))) (fun u_39 eu_39 => ?_)
    have h := h u_39 eu_39
    obtain ⟨x4_40, ex4_40⟩ : ∃ z : Int32, z = x4 + (1 : Int32) := ⟨_, rfl⟩
    have h := h x4_40 ex4_40
    refine g_iinc (pc := 130) (v := x4_40) (lv' := [(4, .int x4_40), (0, .ref o0), (1, .int x1), (2, .int x2)]) hC 3 dX12_laysChain_130 rfl (by rw [ex4_40]; rfl) (Nat.le_of_ble_eq_true rfl) rfl ?_
    refine g_goto (pc := 133) (tgt := 110) hC dX12_laysChain_133 (by decide) ?_
    refine g_sub (lv' := [(0, .ref o0), (1, .int x1), (2, .int x2), (4, .int x4_40)]) [1, 2, 3, 0] rfl ?_
    exact hK110 _ _ _ _ h
def qX12_laysChain_L110  (post : St → Prop) (K22 : Int32 → Int32 → St → Prop) : Nat → Int32 → Int32 → Int32 → St → Prop
  | 0 => fun _ _ _ _ => False
  | n + 1 => qX12_laysChain_l110 post K22 (qX12_laysChain_L110 post K22 n)
theorem kX12_laysChain_L110 {C : Cx} {o0 : Nat} {a0 : Nat → Nat} (hC : Fx C cX12_laysChain 5 RX12) (hR0 : xR C = rm 7) {post : St → Prop} (hR : RV C cX12_laysChain 5 (fun u : St => (wX12 o0 a0 (xy C) u [])) (fun u => post u)) {K22 : Int32 → Int32 → St → Prop} (hK22 : ∀ (x1 : Int32) (x2 : Int32) (u0 : St), K22 x1 x2 u0 → G C 0 0 5 (wX12 o0 a0 (xy C) u0 []) 22 [(0, .ref o0), (1, .int x1), (2, .int x2)] []) : ∀ (n : Nat) (x1 : Int32) (x2 : Int32) (x4 : Int32) (u0 : St), qX12_laysChain_L110 post K22 n x1 x2 x4 u0 → G C 0 0 5 (wX12 o0 a0 (xy C) u0 []) 110 [(0, .ref o0), (1, .int x1), (2, .int x2), (4, .int x4)] [] := by
  intro n
  induction n with
  | zero => intro x1 x2 x4 u0 h; exact h.elim
  | succ n ih => intro x1 x2 x4 u0 h; exact kX12_laysChain_l110 hC hR0 hR hK22 ih h
def qX12_laysChain_b90  (post : St → Prop) (K22 : Int32 → Int32 → St → Prop) (x1 : Int32) (x2 : Int32) (u0 : St) : Prop := (((x2 + (1 : Int32)) ≤ (gi u0 27) → qX12_laysChain_b136 post K22 x1 x2 u0) ∧ (¬ (x2 + (1 : Int32)) ≤ (gi u0 27) → ∀ u_42 : St, u_42 = (si u0 27 (x2 + (1 : Int32))) → ∃ n_43 : Nat, qX12_laysChain_L110 post K22 n_43 x1 x2 (0 : Int32) u_42))
set_option maxRecDepth 100000 in
set_option maxHeartbeats 4000000 in
theorem kX12_laysChain_b90 {C : Cx} {o0 : Nat} {a0 : Nat → Nat} (hC : Fx C cX12_laysChain 5 RX12) (hR0 : xR C = rm 7) {post : St → Prop} (hR : RV C cX12_laysChain 5 (fun u : St => (wX12 o0 a0 (xy C) u [])) (fun u => post u)) {K22 : Int32 → Int32 → St → Prop} (hK22 : ∀ (x1 : Int32) (x2 : Int32) (u0 : St), K22 x1 x2 u0 → G C 0 0 5 (wX12 o0 a0 (xy C) u0 []) 22 [(0, .ref o0), (1, .int x1), (2, .int x2)] []) {x1 : Int32} {x2 : Int32} {u0 : St} (h : qX12_laysChain_b90 post K22 x1 x2 u0) : G C 0 0 5 (wX12 o0 a0 (xy C) u0 []) 90 [(0, .ref o0), (1, .int x1), (2, .int x2)] [] := by
  refine g_iload_n (pc := 90) hC 2 dX12_laysChain_90 rfl rfl ?_
  refine g_iconst (pc := 91) (v := 1) hC dX12_laysChain_91 (by decide) ?_
  refine g_iadd (pc := 92) hC dX12_laysChain_92 ?_
  refine g_aload_n (pc := 93) hC 0 dX12_laysChain_93 rfl rfl ?_
  refine getX12_27 (pc := 94) hC (F := fun Z => Z) (X := []) (fun _ => rfl) fl_X12_377 dX12_laysChain_94 ?_
  refine g_icmp_le (pc := 97) (tgt := 136) hC dX12_laysChain_97 (by decide) (fun c_41 => ?_) (fun c_41 => ?_)
  · have h := h.1 c_41
    exact kX12_laysChain_b136 hC hR0 hR hK22 h
  · have h := h.2 c_41
    refine g_aload_n (pc := 100) hC 0 dX12_laysChain_100 rfl rfl ?_
    refine g_iload_n (pc := 101) hC 2 dX12_laysChain_101 rfl rfl ?_
    refine g_iconst (pc := 102) (v := 1) hC dX12_laysChain_102 (by decide) ?_
    refine g_iadd (pc := 103) hC dX12_laysChain_103 ?_
    refine putX12_27 (pc := 104) hC (F := fun Z => Z) (X := []) (fun _ => rfl) fl_X12_377 dX12_laysChain_104 ?_
    refine g_st (w := fun z => (wX12 o0 a0 (xy C) z [])) (u := (si u0 27 (x2 + (1 : Int32)))) (fun u_42 eu_42 => ?_)
    have h := h u_42 eu_42
    refine g_iconst (pc := 107) (v := 0) hC dX12_laysChain_107 (by decide) ?_
    refine g_istore (pc := 108) (lv' := [(4, .int (0 : Int32)), (0, .ref o0), (1, .int x1), (2, .int x2)]) hC dX12_laysChain_108 (Nat.le_of_ble_eq_true rfl) rfl ?_
    refine g_sub (lv' := [(0, .ref o0), (1, .int x1), (2, .int x2), (4, .int (0 : Int32))]) [1, 2, 3, 0] rfl ?_
    obtain ⟨n_43, h⟩ := h
    exact kX12_laysChain_L110 hC hR0 hR hK22 n_43 _ _ _ _ h
def qX12_laysChain_b157  (post : St → Prop)  (u0 : St) : Prop := qX12_levelAt (0 : Int32) (fun r_44 => qX12_restores r_44 u0 (fun u_46 => post u_46))
set_option maxRecDepth 100000 in
set_option maxHeartbeats 4000000 in
theorem kX12_laysChain_b157 {C : Cx} {o0 : Nat} {a0 : Nat → Nat} (hC : Fx C cX12_laysChain 5 RX12) (hR0 : xR C = rm 7) {post : St → Prop} (hR : RV C cX12_laysChain 5 (fun u : St => (wX12 o0 a0 (xy C) u [])) (fun u => post u))  {u0 : St} (h : qX12_laysChain_b157 post u0) : G C 0 0 5 (wX12 o0 a0 (xy C) u0 []) 157 [(0, .ref o0)] [] := by
  refine g_aload_n (pc := 157) hC 0 dX12_laysChain_157 rfl rfl ?_
  refine g_iconst (pc := 158) (v := 0) hC dX12_laysChain_158 (by decide) ?_
  refine g_callS_i (pc := 159) (wd := fun (_ : Unit) Y => Y) (F := fun Z => Z) (X := []) (As := [.int (0 : Int32)]) (rest := [.ref o0]) (u := ()) hC (fun _ _ => rfl) (fun _ => rfl) (ctX12_levelAt h) wvX12_levelAt ml_X12_380 rfl (rmok hR0 rfl) ⟨Nat.zero_le _, Nat.zero_le _⟩ rfl (Nat.le_of_ble_eq_true rfl) dX12_laysChain_159 (fun r_44 u_45 h => ?_)
  refine g_callV_v (pc := 162) (wd := fun (u : St) Y => (wX12 o0 a0 (xy C) u Y)) (F := fun Z => Z) (X := []) (As := [.int r_44]) (rest := []) (u := u0) hC (fun _ _ => rfl) (fun _ => rfl) (ctX12_restores h) wvX12_restores ml_X12_355 (ci := 10) (q0 := 0) rfl rfl rfl rfl (rmok hR0 rfl) ⟨Nat.zero_le _, Nat.zero_le _⟩ rfl (Nat.le_of_ble_eq_true rfl) dX12_laysChain_162 (fun u_46 h => ?_)
  exact hR _ _ u_46 dX12_laysChain_165 h
def qX12_laysChain_l22  (post : St → Prop) (K22 : Int32 → Int32 → St → Prop) (x1 : Int32) (x2 : Int32) (u0 : St) : Prop := ((x2 < 0 → qX12_laysChain_b157 post u0) ∧ (¬ x2 < 0 → qX12_levelAt x2 (fun r_49 => qX12_restores r_49 u0 (fun u_51 => (vp_in x2 8 ∧ (vp_in x2 8 ∧ ∀ u_53 : St, u_53 = (sw u_51 25 (upd (ga u_51 25) (x2).toNatClampNeg ((ga u_51 25 (x2).toNatClampNeg) + (1 : Int32)))) → (vp_in x2 8 ∧ ∀ x3_54 : Int32, x3_54 = (ga u_53 25 (x2).toNatClampNeg) → ((x3_54 < (ga u_53 0 ((2 : Int32)).toNatClampNeg) → qX12_pays x3_54 u_53 (fun r_57 u_56 => ((r_57 = (-1 : Int32) → K22 x1 x2 u_56) ∧ (¬ r_57 = (-1 : Int32) → ((x1 = 0 → qX12_laysChain_b90 post K22 x1 x2 u_56) ∧ (¬ x1 = 0 → qX12_falling u_56 (fun r_62 u_61 => ((r_62 ≤ 0 → qX12_laysChain_b90 post K22 x1 x2 u_61) ∧ (¬ r_62 ≤ 0 → K22 x1 x2 u_61))))))))) ∧ (¬ x3_54 < (ga u_53 0 ((2 : Int32)).toNatClampNeg) → ∀ x2_65 : Int32, x2_65 = x2 + (-1 : Int32) → K22 x1 x2_65 u_53)))))))))
set_option maxRecDepth 100000 in
set_option maxHeartbeats 4000000 in
theorem kX12_laysChain_l22 {C : Cx} {o0 : Nat} {a0 : Nat → Nat} (hC : Fx C cX12_laysChain 5 RX12) (hR0 : xR C = rm 7) {post : St → Prop} (hR : RV C cX12_laysChain 5 (fun u : St => (wX12 o0 a0 (xy C) u [])) (fun u => post u))  {K22 : Int32 → Int32 → St → Prop} (hK22 : ∀ (x1 : Int32) (x2 : Int32) (u0 : St), K22 x1 x2 u0 → G C 0 0 5 (wX12 o0 a0 (xy C) u0 []) 22 [(0, .ref o0), (1, .int x1), (2, .int x2)] []) {x1 : Int32} {x2 : Int32} {u0 : St} (h : qX12_laysChain_l22 post K22 x1 x2 u0) : G C 0 0 5 (wX12 o0 a0 (xy C) u0 []) 22 [(0, .ref o0), (1, .int x1), (2, .int x2)] [] := by
  refine g_iload_n (pc := 22) hC 2 dX12_laysChain_22 rfl rfl ?_
  refine g_if_lt (pc := 23) (tgt := 157) hC dX12_laysChain_23 (by decide) (fun c_48 => ?_) (fun c_48 => ?_)
  · have h := h.1 c_48
    refine g_sub (lv' := [(0, .ref o0)]) [0] rfl ?_
    exact kX12_laysChain_b157 hC hR0 hR  h
  · have h := h.2 c_48
    refine g_aload_n (pc := 26) hC 0 dX12_laysChain_26 rfl rfl ?_
    refine g_iload_n (pc := 27) hC 2 dX12_laysChain_27 rfl rfl ?_
    refine g_callS_i (pc := 28) (wd := fun (_ : Unit) Y => Y) (F := fun Z => Z) (X := []) (As := [.int x2]) (rest := [.ref o0]) (u := ()) hC (fun _ _ => rfl) (fun _ => rfl) (ctX12_levelAt h) wvX12_levelAt ml_X12_380 rfl (rmok hR0 rfl) ⟨Nat.zero_le _, Nat.zero_le _⟩ rfl (Nat.le_of_ble_eq_true rfl) dX12_laysChain_28 (fun r_49 u_50 h => ?_)
    refine g_callV_v (pc := 31) (wd := fun (u : St) Y => (wX12 o0 a0 (xy C) u Y)) (F := fun Z => Z) (X := []) (As := [.int r_49]) (rest := []) (u := u0) hC (fun _ _ => rfl) (fun _ => rfl) (ctX12_restores h) wvX12_restores ml_X12_355 (ci := 10) (q0 := 0) rfl rfl rfl rfl (rmok hR0 rfl) ⟨Nat.zero_le _, Nat.zero_le _⟩ rfl (Nat.le_of_ble_eq_true rfl) dX12_laysChain_31 (fun u_51 h => ?_)
    refine g_aload_n (pc := 34) hC 0 dX12_laysChain_34 rfl rfl ?_
    refine getX12_25 (pc := 35) hC (F := fun Z => Z) (X := []) (fun _ => rfl) fl_X12_47 dX12_laysChain_35 ?_
    refine g_iload_n (pc := 38) hC 2 dX12_laysChain_38 rfl rfl ?_
    refine g_dup2 (pc := 39) hC dX12_laysChain_39 rfl rfl ?_
    refine aldX12_25 (pc := 40) hC (F := fun Z => Z) (X := []) (fun _ => rfl) h.1 dX12_laysChain_40 ?_
    have h := h.2
    refine g_iconst (pc := 41) (v := 1) hC dX12_laysChain_41 (by decide) ?_
    refine g_iadd (pc := 42) hC dX12_laysChain_42 ?_
    refine astX12_25 (pc := 43) hC (F := fun Z => Z) (X := []) (fun _ => rfl) h.1 dX12_laysChain_43 ?_
    have h := h.2
    refine g_st (w := fun z => (wX12 o0 a0 (xy C) z [])) (u := (sw u_51 25 (upd (ga u_51 25) (x2).toNatClampNeg ((ga u_51 25 (x2).toNatClampNeg) + (1 : Int32))))) (fun u_53 eu_53 => ?_)
    have h := h u_53 eu_53
    refine g_aload_n (pc := 44) hC 0 dX12_laysChain_44 rfl rfl ?_
    refine getX12_25 (pc := 45) hC (F := fun Z => Z) (X := []) (fun _ => rfl) fl_X12_47 dX12_laysChain_45 ?_
    refine g_iload_n (pc := 48) hC 2 dX12_laysChain_48 rfl rfl ?_
    refine aldX12_25 (pc := 49) hC (F := fun Z => Z) (X := []) (fun _ => rfl) h.1 dX12_laysChain_49 ?_
    have h := h.2
    refine g_topi (fun x3_54 ex3_54 => ?_)
    have h := h x3_54 ex3_54
    refine g_istore_n (pc := 50) (lv' := [(3, .int x3_54), (0, .ref o0), (1, .int x1), (2, .int x2)]) hC dX12_laysChain_50 rfl (Nat.le_of_ble_eq_true rfl) rfl ?_
    refine g_iload_n (pc := 51) hC 0 dX12_laysChain_51 rfl rfl ?_
    refine g_aload_n (pc := 52) hC 1 dX12_laysChain_52 rfl rfl ?_
    refine getX12_0 (pc := 53) hC (F := fun Z => Z) (X := []) (fun _ => rfl) fl_X12_7 dX12_laysChain_53 ?_
    refine g_iconst (pc := 56) (v := 2) hC dX12_laysChain_56 (by decide) ?_
    refine aldX12_0 (pc := 57) hC (F := fun Z => Z) (X := []) (fun _ => rfl) (by unfold vp_in; decide) dX12_laysChain_57 ?_
    refine g_icmp_lt (pc := 58) (tgt := 67) hC dX12_laysChain_58 (by decide) (fun c_55 => ?_) (fun c_55 => ?_)
    · have h := h.1 c_55
      refine g_aload_n (pc := 67) hC 1 dX12_laysChain_67 rfl rfl ?_
      refine g_iload_n (pc := 68) hC 0 dX12_laysChain_68 rfl rfl ?_
      refine g_callV_i (pc := 69) (wd := fun (u : St) Y => (wX12 o0 a0 (xy C) u Y)) (F := fun Z => Z) (X := []) (As := [.int x3_54]) (rest := []) (u := u_53) hC (fun _ _ => rfl) (fun _ => rfl) (ctX12_pays h) wvX12_pays ml_X12_325 (ci := 10) (q0 := 0) rfl rfl rfl rfl (rmok hR0 rfl) ⟨Nat.zero_le _, Nat.zero_le _⟩ rfl (Nat.le_of_ble_eq_true rfl) dX12_laysChain_69 (fun r_57 u_56 h => ?_)
      refine g_iconst (pc := 72) (v := -1) hC dX12_laysChain_72 (by decide) ?_
      refine g_icmp_eq (pc := 73) (tgt := 22) hC dX12_laysChain_73 (by decide) (fun c_59 => ?_) (fun c_59 => ?_)
      · have h := h.1 c_59
        refine g_sub (lv' := [(0, .ref o0), (1, .int x1), (2, .int x2)]) [1, 2, 3] rfl ?_
        exact hK22 _ _ _ h
      · have h := h.2 c_59
        refine g_iload_n (pc := 76) hC 2 dX12_laysChain_76 rfl rfl ?_
        refine g_if_eq (pc := 77) (tgt := 90) hC dX12_laysChain_77 (by decide) (fun c_60 => ?_) (fun c_60 => ?_)
        · have h := h.1 c_60
          refine g_sub (lv' := [(0, .ref o0), (1, .int x1), (2, .int x2)]) [1, 2, 3] rfl ?_
          exact kX12_laysChain_b90 hC hR0 hR hK22 h
        · have h := h.2 c_60
          refine g_aload_n (pc := 80) hC 1 dX12_laysChain_80 rfl rfl ?_
          refine g_callV_i (pc := 81) (wd := fun (u : St) Y => (wX12 o0 a0 (xy C) u Y)) (F := fun Z => Z) (X := []) (As := []) (rest := []) (u := u_56) hC (fun _ _ => rfl) (fun _ => rfl) (ctX12_falling h) wvX12_falling ml_X12_240 (ci := 10) (q0 := 0) rfl rfl rfl rfl (rmok hR0 rfl) ⟨Nat.zero_le _, Nat.zero_le _⟩ rfl (Nat.le_of_ble_eq_true rfl) dX12_laysChain_81 (fun r_62 u_61 h => ?_)
          refine g_if_le (pc := 84) (tgt := 90) hC dX12_laysChain_84 (by decide) (fun c_64 => ?_) (fun c_64 => ?_)
          · have h := h.1 c_64
            refine g_sub (lv' := [(0, .ref o0), (1, .int x1), (2, .int x2)]) [1, 2, 3] rfl ?_
            exact kX12_laysChain_b90 hC hR0 hR hK22 h
          · have h := h.2 c_64
            refine g_goto (pc := 87) (tgt := 22) hC dX12_laysChain_87 (by decide) ?_
            refine g_sub (lv' := [(0, .ref o0), (1, .int x1), (2, .int x2)]) [1, 2, 3] rfl ?_
            exact hK22 _ _ _ h
    · have h := h.2 c_55
      obtain ⟨x2_65, ex2_65⟩ : ∃ z : Int32, z = x2 + (-1 : Int32) := ⟨_, rfl⟩
      have h := h x2_65 ex2_65
      refine g_iinc (pc := 61) (v := x2_65) (lv' := [(2, .int x2_65), (3, .int x3_54), (0, .ref o0), (1, .int x1)]) hC 3 dX12_laysChain_61 rfl (by rw [ex2_65]; rfl) (Nat.le_of_ble_eq_true rfl) rfl ?_
      refine g_goto (pc := 64) (tgt := 22) hC dX12_laysChain_64 (by decide) ?_
      refine g_sub (lv' := [(0, .ref o0), (1, .int x1), (2, .int x2_65)]) [2, 3, 0] rfl ?_
      exact hK22 _ _ _ h
def qX12_laysChain_L22  (post : St → Prop)  : Nat → Int32 → Int32 → St → Prop
  | 0 => fun _ _ _ => False
  | n + 1 => qX12_laysChain_l22 post (qX12_laysChain_L22 post n)
theorem kX12_laysChain_L22 {C : Cx} {o0 : Nat} {a0 : Nat → Nat} (hC : Fx C cX12_laysChain 5 RX12) (hR0 : xR C = rm 7) {post : St → Prop} (hR : RV C cX12_laysChain 5 (fun u : St => (wX12 o0 a0 (xy C) u [])) (fun u => post u))  : ∀ (n : Nat) (x1 : Int32) (x2 : Int32) (u0 : St), qX12_laysChain_L22 post n x1 x2 u0 → G C 0 0 5 (wX12 o0 a0 (xy C) u0 []) 22 [(0, .ref o0), (1, .int x1), (2, .int x2)] [] := by
  intro n
  induction n with
  | zero => intro x1 x2 u0 h; exact h.elim
  | succ n ih => intro x1 x2 u0 h; exact kX12_laysChain_l22 hC hR0 hR  ih h
def qX12_laysChain (x1 : Int32) (u0 : St) (post : St → Prop) : Prop := ∀ u_66 : St, u_66 = (si u0 27 (0 : Int32)) → ∀ u_67 : St, u_67 = (sw u_66 25 (upd (ga u_66 25) ((0 : Int32)).toNatClampNeg (-1 : Int32))) → qX12_levelAt (0 : Int32) (fun r_68 => qX12_keeps r_68 u_67 (fun u_70 => ∃ n_72 : Nat, qX12_laysChain_L22 post n_72 x1 (0 : Int32) u_70))
set_option maxRecDepth 100000 in
set_option maxHeartbeats 4000000 in
theorem kX12_laysChain {C : Cx} {o0 : Nat} {a0 : Nat → Nat} (hC : Fx C cX12_laysChain 5 RX12) (hR0 : xR C = rm 7) {post : St → Prop} (hR : RV C cX12_laysChain 5 (fun u : St => (wX12 o0 a0 (xy C) u [])) (fun u => post u)) {x1 : Int32} {u0 : St} (h : qX12_laysChain x1 u0 post) : G C 0 0 5 (wX12 o0 a0 (xy C) u0 []) 0 [(0, .ref o0), (1, .int x1)] [] := by
  refine g_iconst (pc := 0) (v := 0) hC dX12_laysChain_0 (by decide) ?_
  refine g_istore_n (pc := 1) (lv' := [(2, .int (0 : Int32)), (0, .ref o0), (1, .int x1)]) hC dX12_laysChain_1 rfl (Nat.le_of_ble_eq_true rfl) rfl ?_
  refine g_aload_n (pc := 2) hC 1 dX12_laysChain_2 rfl rfl ?_
  refine g_iconst (pc := 3) (v := 0) hC dX12_laysChain_3 (by decide) ?_
  refine putX12_27 (pc := 4) hC (F := fun Z => Z) (X := []) (fun _ => rfl) fl_X12_377 dX12_laysChain_4 ?_
  refine g_st (w := fun z => (wX12 o0 a0 (xy C) z [])) (u := (si u0 27 (0 : Int32))) (fun u_66 eu_66 => ?_)
  have h := h u_66 eu_66
  refine g_aload_n (pc := 7) hC 1 dX12_laysChain_7 rfl rfl ?_
  refine getX12_25 (pc := 8) hC (F := fun Z => Z) (X := []) (fun _ => rfl) fl_X12_47 dX12_laysChain_8 ?_
  refine g_iconst (pc := 11) (v := 0) hC dX12_laysChain_11 (by decide) ?_
  refine g_iconst (pc := 12) (v := -1) hC dX12_laysChain_12 (by decide) ?_
  refine astX12_25 (pc := 13) hC (F := fun Z => Z) (X := []) (fun _ => rfl) (by unfold vp_in; decide) dX12_laysChain_13 ?_
  refine g_st (w := fun z => (wX12 o0 a0 (xy C) z [])) (u := (sw u_66 25 (upd (ga u_66 25) ((0 : Int32)).toNatClampNeg (-1 : Int32)))) (fun u_67 eu_67 => ?_)
  have h := h u_67 eu_67
  refine g_aload_n (pc := 14) hC 1 dX12_laysChain_14 rfl rfl ?_
  refine g_iconst (pc := 15) (v := 0) hC dX12_laysChain_15 (by decide) ?_
  refine g_callS_i (pc := 16) (wd := fun (_ : Unit) Y => Y) (F := fun Z => Z) (X := []) (As := [.int (0 : Int32)]) (rest := [.ref o0]) (u := ()) hC (fun _ _ => rfl) (fun _ => rfl) (ctX12_levelAt h) wvX12_levelAt ml_X12_380 rfl (rmok hR0 rfl) ⟨Nat.zero_le _, Nat.zero_le _⟩ rfl (Nat.le_of_ble_eq_true rfl) dX12_laysChain_16 (fun r_68 u_69 h => ?_)
  refine g_callV_v (pc := 19) (wd := fun (u : St) Y => (wX12 o0 a0 (xy C) u Y)) (F := fun Z => Z) (X := []) (As := [.int r_68]) (rest := []) (u := u_67) hC (fun _ _ => rfl) (fun _ => rfl) (ctX12_keeps h) wvX12_keeps ml_X12_352 (ci := 10) (q0 := 0) rfl rfl rfl rfl (rmok hR0 rfl) ⟨Nat.zero_le _, Nat.zero_le _⟩ rfl (Nat.le_of_ble_eq_true rfl) dX12_laysChain_19 (fun u_70 h => ?_)
  refine g_sub (lv' := [(0, .ref o0), (1, .int x1), (2, .int (0 : Int32))]) [1, 2, 0] rfl ?_
  obtain ⟨n_72, h⟩ := h
  exact kX12_laysChain_L22 hC hR0 hR  n_72 _ _ _ h
theorem ctX12_laysChain {l : Launch} {D : va_G} {cy : Nat → ClassId} {kd : Nat → Nat} {o0 : Nat} {a0 : Nat → Nat} {x1 : Int32} {u0 : St} {post : St → Prop} (h : qX12_laysChain x1 u0 post) : CtV l D cy kd yX12_laysChain cX12_laysChain 5 7  [.ref o0, .int x1] (fun u : St => (wX12 o0 a0 cy u [])) u0 (fun u => post u) := met_v (by decide) (Nat.le_of_ble_eq_true rfl) (fun C e1 e2 e3 e4 e5 hC hR => by subst e1 e2 e3 e4; exact kX12_laysChain hC e5 hR h)
theorem dX12_chain_0 : decode cX12_chain 0 = .ok (.iload_n 1, 1) := by decide +kernel
theorem dX12_chain_1 : decode cX12_chain 1 = .ok (.ifCond .lt 8, 3) := by decide +kernel
theorem dX12_chain_4 : decode cX12_chain 4 = .ok (.iload_n 1, 1) := by decide +kernel
theorem dX12_chain_5 : decode cX12_chain 5 = .ok (.iconst 1, 1) := by decide +kernel
theorem dX12_chain_6 : decode cX12_chain 6 = .ok (.if_icmp .le 9, 3) := by decide +kernel
theorem dX12_chain_9 : decode cX12_chain 9 = .ok (.aload_n 0, 1) := by decide +kernel
theorem dX12_chain_10 : decode cX12_chain 10 = .ok (.iconst 1, 1) := by decide +kernel
theorem dX12_chain_11 : decode cX12_chain 11 = .ok (.invokevirtual 88, 3) := by decide +kernel
theorem dX12_chain_14 : decode cX12_chain 14 = .ok (.ireturn, 1) := by decide +kernel
theorem dX12_chain_15 : decode cX12_chain 15 = .ok (.aload_n 0, 1) := by decide +kernel
theorem dX12_chain_16 : decode cX12_chain 16 = .ok (.iload_n 1, 1) := by decide +kernel
theorem dX12_chain_17 : decode cX12_chain 17 = .ok (.iconst 1, 1) := by decide +kernel
theorem dX12_chain_18 : decode cX12_chain 18 = .ok (.if_icmp .ne 7, 3) := by decide +kernel
theorem dX12_chain_21 : decode cX12_chain 21 = .ok (.iconst 1, 1) := by decide +kernel
theorem dX12_chain_22 : decode cX12_chain 22 = .ok (.goto 4, 3) := by decide +kernel
theorem dX12_chain_25 : decode cX12_chain 25 = .ok (.iconst 0, 1) := by decide +kernel
theorem dX12_chain_26 : decode cX12_chain 26 = .ok (.invokevirtual 383, 3) := by decide +kernel
theorem dX12_chain_29 : decode cX12_chain 29 = .ok (.aload_n 0, 1) := by decide +kernel
theorem dX12_chain_30 : decode cX12_chain 30 = .ok (.aload_n 0, 1) := by decide +kernel
theorem dX12_chain_31 : decode cX12_chain 31 = .ok (.getfield 377, 3) := by decide +kernel
theorem dX12_chain_34 : decode cX12_chain 34 = .ok (.invokevirtual 92, 3) := by decide +kernel
theorem dX12_chain_37 : decode cX12_chain 37 = .ok (.ireturn, 1) := by decide +kernel
def qX12_chain_b9  (post : Int32 → St → Prop)  (u0 : St) : Prop := qX12_refuse (1 : Int32) u0 (fun r_10 u_9 => post r_10 u_9)
set_option maxRecDepth 100000 in
set_option maxHeartbeats 4000000 in
theorem kX12_chain_b9 {C : Cx} {o0 : Nat} {a0 : Nat → Nat} (hC : Fx C cX12_chain 2 RX12) (hR0 : xR C = rm 8) {post : Int32 → St → Prop} (hR : RI C cX12_chain 2 (fun u : St => (wX12 o0 a0 (xy C) u [])) (fun r u => post r u))  {u0 : St} (h : qX12_chain_b9 post u0) : G C 0 0 2 (wX12 o0 a0 (xy C) u0 []) 9 [(0, .ref o0)] [] := by
  refine g_aload_n (pc := 9) hC 0 dX12_chain_9 rfl rfl ?_
  refine g_iconst (pc := 10) (v := 1) hC dX12_chain_10 (by decide) ?_
  refine g_callV_i (pc := 11) (wd := fun (u : St) Y => (wX12 o0 a0 (xy C) u Y)) (F := fun Z => Z) (X := []) (As := [.int (1 : Int32)]) (rest := []) (u := u0) hC (fun _ _ => rfl) (fun _ => rfl) (ctX12_refuse h) wvX12_refuse ml_X12_88 (ci := 10) (q0 := 0) rfl rfl rfl rfl (rmok hR0 rfl) ⟨Nat.zero_le _, Nat.zero_le _⟩ rfl (Nat.le_of_ble_eq_true rfl) dX12_chain_11 (fun r_10 u_9 h => ?_)
  exact hR _ _ _ u_9 dX12_chain_14 h
def qX12_chain_b26  (post : Int32 → St → Prop)  (s0 : Int32) (u0 : St) : Prop := qX12_laysChain s0 u0 (fun u_12 => qX12_gives (gi u_12 27) u_12 (fun r_15 u_14 => post r_15 u_14))
set_option maxRecDepth 100000 in
set_option maxHeartbeats 4000000 in
theorem kX12_chain_b26 {C : Cx} {o0 : Nat} {a0 : Nat → Nat} (hC : Fx C cX12_chain 2 RX12) (hR0 : xR C = rm 8) {post : Int32 → St → Prop} (hR : RI C cX12_chain 2 (fun u : St => (wX12 o0 a0 (xy C) u [])) (fun r u => post r u))  {s0 : Int32} {u0 : St} (h : qX12_chain_b26 post s0 u0) : G C 0 0 2 (wX12 o0 a0 (xy C) u0 []) 26 [(0, .ref o0)] [.int s0, .ref o0] := by
  refine g_callV_v (pc := 26) (wd := fun (u : St) Y => (wX12 o0 a0 (xy C) u Y)) (F := fun Z => Z) (X := []) (As := [.int s0]) (rest := []) (u := u0) hC (fun _ _ => rfl) (fun _ => rfl) (ctX12_laysChain h) wvX12_laysChain ml_X12_383 (ci := 10) (q0 := 0) rfl rfl rfl rfl (rmok hR0 rfl) ⟨Nat.zero_le _, Nat.zero_le _⟩ rfl (Nat.le_of_ble_eq_true rfl) dX12_chain_26 (fun u_12 h => ?_)
  refine g_aload_n (pc := 29) hC 0 dX12_chain_29 rfl rfl ?_
  refine g_aload_n (pc := 30) hC 0 dX12_chain_30 rfl rfl ?_
  refine getX12_27 (pc := 31) hC (F := fun Z => Z) (X := []) (fun _ => rfl) fl_X12_377 dX12_chain_31 ?_
  refine g_callV_i (pc := 34) (wd := fun (u : St) Y => (wX12 o0 a0 (xy C) u Y)) (F := fun Z => Z) (X := []) (As := [.int (gi u_12 27)]) (rest := []) (u := u_12) hC (fun _ _ => rfl) (fun _ => rfl) (ctX12_gives h) wvX12_gives ml_X12_92 (ci := 10) (q0 := 0) rfl rfl rfl rfl (rmok hR0 rfl) ⟨Nat.zero_le _, Nat.zero_le _⟩ rfl (Nat.le_of_ble_eq_true rfl) dX12_chain_34 (fun r_15 u_14 h => ?_)
  exact hR _ _ _ u_14 dX12_chain_37 h
def qX12_chain (x1 : Int32) (u0 : St) (post : Int32 → St → Prop) : Prop := ((x1 < 0 → qX12_chain_b9 post u0) ∧ (¬ x1 < 0 → ((x1 ≤ (1 : Int32) → ((¬ x1 = (1 : Int32) → qX12_chain_b26 post (0 : Int32) u0) ∧ (x1 = (1 : Int32) → qX12_chain_b26 post (1 : Int32) u0))) ∧ (¬ x1 ≤ (1 : Int32) → qX12_chain_b9 post u0))))
set_option maxRecDepth 100000 in
set_option maxHeartbeats 4000000 in
theorem kX12_chain {C : Cx} {o0 : Nat} {a0 : Nat → Nat} (hC : Fx C cX12_chain 2 RX12) (hR0 : xR C = rm 8) {post : Int32 → St → Prop} (hR : RI C cX12_chain 2 (fun u : St => (wX12 o0 a0 (xy C) u [])) (fun r u => post r u)) {x1 : Int32} {u0 : St} (h : qX12_chain x1 u0 post) : G C 0 0 2 (wX12 o0 a0 (xy C) u0 []) 0 [(0, .ref o0), (1, .int x1)] [] := by
  refine g_iload_n (pc := 0) hC 1 dX12_chain_0 rfl rfl ?_
  refine g_if_lt (pc := 1) (tgt := 9) hC dX12_chain_1 (by decide) (fun c_17 => ?_) (fun c_17 => ?_)
  · have h := h.1 c_17
    refine g_sub (lv' := [(0, .ref o0)]) [0] rfl ?_
    exact kX12_chain_b9 hC hR0 hR  h
  · have h := h.2 c_17
    refine g_iload_n (pc := 4) hC 1 dX12_chain_4 rfl rfl ?_
    refine g_iconst (pc := 5) (v := 1) hC dX12_chain_5 (by decide) ?_
    refine g_icmp_le (pc := 6) (tgt := 15) hC dX12_chain_6 (by decide) (fun c_18 => ?_) (fun c_18 => ?_)
    · have h := h.1 c_18
      refine g_aload_n (pc := 15) hC 0 dX12_chain_15 rfl rfl ?_
      refine g_iload_n (pc := 16) hC 1 dX12_chain_16 rfl rfl ?_
      refine g_iconst (pc := 17) (v := 1) hC dX12_chain_17 (by decide) ?_
      refine g_icmp_ne (pc := 18) (tgt := 25) hC dX12_chain_18 (by decide) (fun c_19 => ?_) (fun c_19 => ?_)
      · have h := h.1 c_19
        refine g_iconst (pc := 25) (v := 0) hC dX12_chain_25 (by decide) ?_
        refine g_sub (lv' := [(0, .ref o0)]) [0] rfl ?_
        exact kX12_chain_b26 hC hR0 hR  h
      · have h := h.2 c_19
        refine g_iconst (pc := 21) (v := 1) hC dX12_chain_21 (by decide) ?_
        refine g_goto (pc := 22) (tgt := 26) hC dX12_chain_22 (by decide) ?_
        refine g_sub (lv' := [(0, .ref o0)]) [0] rfl ?_
        exact kX12_chain_b26 hC hR0 hR  h
    · have h := h.2 c_18
      refine g_sub (lv' := [(0, .ref o0)]) [0] rfl ?_
      exact kX12_chain_b9 hC hR0 hR  h
theorem ctX12_chain {l : Launch} {D : va_G} {cy : Nat → ClassId} {kd : Nat → Nat} {o0 : Nat} {a0 : Nat → Nat} {x1 : Int32} {u0 : St} {post : Int32 → St → Prop} (h : qX12_chain x1 u0 post) : CtI l D cy kd yX12_chain cX12_chain 2 8 .int [.ref o0, .int x1] (fun u : St => (wX12 o0 a0 cy u [])) u0 (fun r u => post r u) := met_i (by decide) (Nat.le_of_ble_eq_true rfl) (fun C e1 e2 e3 e4 e5 hC hR => by subst e1 e2 e3 e4; exact kX12_chain hC e5 hR h)
theorem dX12_chainAt_0 : decode cX12_chainAt 0 = .ok (.iload_n 1, 1) := by decide +kernel
theorem dX12_chainAt_1 : decode cX12_chainAt 1 = .ok (.ifCond .lt 12, 3) := by decide +kernel
theorem dX12_chainAt_4 : decode cX12_chainAt 4 = .ok (.iload_n 1, 1) := by decide +kernel
theorem dX12_chainAt_5 : decode cX12_chainAt 5 = .ok (.iconst 1, 1) := by decide +kernel
theorem dX12_chainAt_6 : decode cX12_chainAt 6 = .ok (.if_icmp .gt 7, 3) := by decide +kernel
theorem dX12_chainAt_9 : decode cX12_chainAt 9 = .ok (.iload_n 2, 1) := by decide +kernel
theorem dX12_chainAt_10 : decode cX12_chainAt 10 = .ok (.ifCond .ge 9, 3) := by decide +kernel
theorem dX12_chainAt_13 : decode cX12_chainAt 13 = .ok (.aload_n 0, 1) := by decide +kernel
theorem dX12_chainAt_14 : decode cX12_chainAt 14 = .ok (.iconst 1, 1) := by decide +kernel
theorem dX12_chainAt_15 : decode cX12_chainAt 15 = .ok (.invokevirtual 88, 3) := by decide +kernel
theorem dX12_chainAt_18 : decode cX12_chainAt 18 = .ok (.ireturn, 1) := by decide +kernel
theorem dX12_chainAt_19 : decode cX12_chainAt 19 = .ok (.aload_n 0, 1) := by decide +kernel
theorem dX12_chainAt_20 : decode cX12_chainAt 20 = .ok (.iload_n 1, 1) := by decide +kernel
theorem dX12_chainAt_21 : decode cX12_chainAt 21 = .ok (.iconst 1, 1) := by decide +kernel
theorem dX12_chainAt_22 : decode cX12_chainAt 22 = .ok (.if_icmp .ne 7, 3) := by decide +kernel
theorem dX12_chainAt_25 : decode cX12_chainAt 25 = .ok (.iconst 1, 1) := by decide +kernel
theorem dX12_chainAt_26 : decode cX12_chainAt 26 = .ok (.goto 4, 3) := by decide +kernel
theorem dX12_chainAt_29 : decode cX12_chainAt 29 = .ok (.iconst 0, 1) := by decide +kernel
theorem dX12_chainAt_30 : decode cX12_chainAt 30 = .ok (.invokevirtual 383, 3) := by decide +kernel
theorem dX12_chainAt_33 : decode cX12_chainAt 33 = .ok (.iload_n 2, 1) := by decide +kernel
theorem dX12_chainAt_34 : decode cX12_chainAt 34 = .ok (.aload_n 0, 1) := by decide +kernel
theorem dX12_chainAt_35 : decode cX12_chainAt 35 = .ok (.getfield 377, 3) := by decide +kernel
theorem dX12_chainAt_38 : decode cX12_chainAt 38 = .ok (.if_icmp .lt 12, 3) := by decide +kernel
theorem dX12_chainAt_41 : decode cX12_chainAt 41 = .ok (.aload_n 0, 1) := by decide +kernel
theorem dX12_chainAt_42 : decode cX12_chainAt 42 = .ok (.bipush 6, 2) := by decide +kernel
theorem dX12_chainAt_44 : decode cX12_chainAt 44 = .ok (.invokevirtual 88, 3) := by decide +kernel
theorem dX12_chainAt_47 : decode cX12_chainAt 47 = .ok (.goto 13, 3) := by decide +kernel
theorem dX12_chainAt_50 : decode cX12_chainAt 50 = .ok (.aload_n 0, 1) := by decide +kernel
theorem dX12_chainAt_51 : decode cX12_chainAt 51 = .ok (.aload_n 0, 1) := by decide +kernel
theorem dX12_chainAt_52 : decode cX12_chainAt 52 = .ok (.getfield 50, 3) := by decide +kernel
theorem dX12_chainAt_55 : decode cX12_chainAt 55 = .ok (.iload_n 2, 1) := by decide +kernel
theorem dX12_chainAt_56 : decode cX12_chainAt 56 = .ok (.iaload, 1) := by decide +kernel
theorem dX12_chainAt_57 : decode cX12_chainAt 57 = .ok (.invokevirtual 92, 3) := by decide +kernel
theorem dX12_chainAt_60 : decode cX12_chainAt 60 = .ok (.ireturn, 1) := by decide +kernel
def qX12_chainAt_b13  (post : Int32 → St → Prop)  (u0 : St) : Prop := qX12_refuse (1 : Int32) u0 (fun r_13 u_12 => post r_13 u_12)
set_option maxRecDepth 100000 in
set_option maxHeartbeats 4000000 in
theorem kX12_chainAt_b13 {C : Cx} {o0 : Nat} {a0 : Nat → Nat} (hC : Fx C cX12_chainAt 3 RX12) (hR0 : xR C = rm 8) {post : Int32 → St → Prop} (hR : RI C cX12_chainAt 3 (fun u : St => (wX12 o0 a0 (xy C) u [])) (fun r u => post r u))  {u0 : St} (h : qX12_chainAt_b13 post u0) : G C 0 0 3 (wX12 o0 a0 (xy C) u0 []) 13 [(0, .ref o0)] [] := by
  refine g_aload_n (pc := 13) hC 0 dX12_chainAt_13 rfl rfl ?_
  refine g_iconst (pc := 14) (v := 1) hC dX12_chainAt_14 (by decide) ?_
  refine g_callV_i (pc := 15) (wd := fun (u : St) Y => (wX12 o0 a0 (xy C) u Y)) (F := fun Z => Z) (X := []) (As := [.int (1 : Int32)]) (rest := []) (u := u0) hC (fun _ _ => rfl) (fun _ => rfl) (ctX12_refuse h) wvX12_refuse ml_X12_88 (ci := 10) (q0 := 0) rfl rfl rfl rfl (rmok hR0 rfl) ⟨Nat.zero_le _, Nat.zero_le _⟩ rfl (Nat.le_of_ble_eq_true rfl) dX12_chainAt_15 (fun r_13 u_12 h => ?_)
  exact hR _ _ _ u_12 dX12_chainAt_18 h
def qX12_chainAt_b60  (post : Int32 → St → Prop)  (s0 : Int32) (u0 : St) : Prop := post s0 u0
set_option maxRecDepth 100000 in
set_option maxHeartbeats 4000000 in
theorem kX12_chainAt_b60 {C : Cx} {o0 : Nat} {a0 : Nat → Nat} (hC : Fx C cX12_chainAt 3 RX12) (hR0 : xR C = rm 8) {post : Int32 → St → Prop} (hR : RI C cX12_chainAt 3 (fun u : St => (wX12 o0 a0 (xy C) u [])) (fun r u => post r u))  {s0 : Int32} {u0 : St} (h : qX12_chainAt_b60 post s0 u0) : G C 0 0 3 (wX12 o0 a0 (xy C) u0 []) 60 [] [.int s0] := by
  exact hR _ _ _ u0 dX12_chainAt_60 h
def qX12_chainAt_b30  (post : Int32 → St → Prop)  (x2 : Int32) (s0 : Int32) (u0 : St) : Prop := qX12_laysChain s0 u0 (fun u_15 => ((x2 < (gi u_15 27) → (vp_in x2 7 ∧ qX12_gives (ga u_15 26 (x2).toNatClampNeg) u_15 (fun r_19 u_18 => qX12_chainAt_b60 post r_19 u_18))) ∧ (¬ x2 < (gi u_15 27) → qX12_refuse (6 : Int32) u_15 (fun r_22 u_21 => qX12_chainAt_b60 post r_22 u_21))))
set_option maxRecDepth 100000 in
set_option maxHeartbeats 4000000 in
theorem kX12_chainAt_b30 {C : Cx} {o0 : Nat} {a0 : Nat → Nat} (hC : Fx C cX12_chainAt 3 RX12) (hR0 : xR C = rm 8) {post : Int32 → St → Prop} (hR : RI C cX12_chainAt 3 (fun u : St => (wX12 o0 a0 (xy C) u [])) (fun r u => post r u))  {x2 : Int32} {s0 : Int32} {u0 : St} (h : qX12_chainAt_b30 post x2 s0 u0) : G C 0 0 3 (wX12 o0 a0 (xy C) u0 []) 30 [(0, .ref o0), (2, .int x2)] [.int s0, .ref o0] := by
  refine g_callV_v (pc := 30) (wd := fun (u : St) Y => (wX12 o0 a0 (xy C) u Y)) (F := fun Z => Z) (X := []) (As := [.int s0]) (rest := []) (u := u0) hC (fun _ _ => rfl) (fun _ => rfl) (ctX12_laysChain h) wvX12_laysChain ml_X12_383 (ci := 10) (q0 := 0) rfl rfl rfl rfl (rmok hR0 rfl) ⟨Nat.zero_le _, Nat.zero_le _⟩ rfl (Nat.le_of_ble_eq_true rfl) dX12_chainAt_30 (fun u_15 h => ?_)
  refine g_iload_n (pc := 33) hC 1 dX12_chainAt_33 rfl rfl ?_
  refine g_aload_n (pc := 34) hC 0 dX12_chainAt_34 rfl rfl ?_
  refine getX12_27 (pc := 35) hC (F := fun Z => Z) (X := []) (fun _ => rfl) fl_X12_377 dX12_chainAt_35 ?_
  refine g_icmp_lt (pc := 38) (tgt := 50) hC dX12_chainAt_38 (by decide) (fun c_17 => ?_) (fun c_17 => ?_)
  · have h := h.1 c_17
    refine g_aload_n (pc := 50) hC 0 dX12_chainAt_50 rfl rfl ?_
    refine g_aload_n (pc := 51) hC 0 dX12_chainAt_51 rfl rfl ?_
    refine getX12_26 (pc := 52) hC (F := fun Z => Z) (X := []) (fun _ => rfl) fl_X12_50 dX12_chainAt_52 ?_
    refine g_iload_n (pc := 55) hC 1 dX12_chainAt_55 rfl rfl ?_
    refine aldX12_26 (pc := 56) hC (F := fun Z => Z) (X := []) (fun _ => rfl) h.1 dX12_chainAt_56 ?_
    have h := h.2
    refine g_callV_i (pc := 57) (wd := fun (u : St) Y => (wX12 o0 a0 (xy C) u Y)) (F := fun Z => Z) (X := []) (As := [.int (ga u_15 26 (x2).toNatClampNeg)]) (rest := []) (u := u_15) hC (fun _ _ => rfl) (fun _ => rfl) (ctX12_gives h) wvX12_gives ml_X12_92 (ci := 10) (q0 := 0) rfl rfl rfl rfl (rmok hR0 rfl) ⟨Nat.zero_le _, Nat.zero_le _⟩ rfl (Nat.le_of_ble_eq_true rfl) dX12_chainAt_57 (fun r_19 u_18 h => ?_)
    refine g_sub (lv' := []) [] rfl ?_
    exact kX12_chainAt_b60 hC hR0 hR  h
  · have h := h.2 c_17
    refine g_aload_n (pc := 41) hC 0 dX12_chainAt_41 rfl rfl ?_
    refine g_bipush (pc := 42) (v := 6) hC dX12_chainAt_42 (by decide) ?_
    refine g_callV_i (pc := 44) (wd := fun (u : St) Y => (wX12 o0 a0 (xy C) u Y)) (F := fun Z => Z) (X := []) (As := [.int (6 : Int32)]) (rest := []) (u := u_15) hC (fun _ _ => rfl) (fun _ => rfl) (ctX12_refuse h) wvX12_refuse ml_X12_88 (ci := 10) (q0 := 0) rfl rfl rfl rfl (rmok hR0 rfl) ⟨Nat.zero_le _, Nat.zero_le _⟩ rfl (Nat.le_of_ble_eq_true rfl) dX12_chainAt_44 (fun r_22 u_21 h => ?_)
    refine g_goto (pc := 47) (tgt := 60) hC dX12_chainAt_47 (by decide) ?_
    refine g_sub (lv' := []) [] rfl ?_
    exact kX12_chainAt_b60 hC hR0 hR  h
def qX12_chainAt (x1 : Int32) (x2 : Int32) (u0 : St) (post : Int32 → St → Prop) : Prop := ((x1 < 0 → qX12_chainAt_b13 post u0) ∧ (¬ x1 < 0 → (((1 : Int32) < x1 → qX12_chainAt_b13 post u0) ∧ (¬ (1 : Int32) < x1 → ((0 ≤ x2 → ((¬ x1 = (1 : Int32) → qX12_chainAt_b30 post x2 (0 : Int32) u0) ∧ (x1 = (1 : Int32) → qX12_chainAt_b30 post x2 (1 : Int32) u0))) ∧ (¬ 0 ≤ x2 → qX12_chainAt_b13 post u0))))))
set_option maxRecDepth 100000 in
set_option maxHeartbeats 4000000 in
theorem kX12_chainAt {C : Cx} {o0 : Nat} {a0 : Nat → Nat} (hC : Fx C cX12_chainAt 3 RX12) (hR0 : xR C = rm 8) {post : Int32 → St → Prop} (hR : RI C cX12_chainAt 3 (fun u : St => (wX12 o0 a0 (xy C) u [])) (fun r u => post r u)) {x1 : Int32} {x2 : Int32} {u0 : St} (h : qX12_chainAt x1 x2 u0 post) : G C 0 0 3 (wX12 o0 a0 (xy C) u0 []) 0 [(0, .ref o0), (1, .int x1), (2, .int x2)] [] := by
  refine g_iload_n (pc := 0) hC 1 dX12_chainAt_0 rfl rfl ?_
  refine g_if_lt (pc := 1) (tgt := 13) hC dX12_chainAt_1 (by decide) (fun c_24 => ?_) (fun c_24 => ?_)
  · have h := h.1 c_24
    refine g_sub (lv' := [(0, .ref o0)]) [0] rfl ?_
    exact kX12_chainAt_b13 hC hR0 hR  h
  · have h := h.2 c_24
    refine g_iload_n (pc := 4) hC 1 dX12_chainAt_4 rfl rfl ?_
    refine g_iconst (pc := 5) (v := 1) hC dX12_chainAt_5 (by decide) ?_
    refine g_icmp_gt (pc := 6) (tgt := 13) hC dX12_chainAt_6 (by decide) (fun c_25 => ?_) (fun c_25 => ?_)
    · have h := h.1 c_25
      refine g_sub (lv' := [(0, .ref o0)]) [0] rfl ?_
      exact kX12_chainAt_b13 hC hR0 hR  h
    · have h := h.2 c_25
      refine g_iload_n (pc := 9) hC 2 dX12_chainAt_9 rfl rfl ?_
      refine g_if_ge (pc := 10) (tgt := 19) hC dX12_chainAt_10 (by decide) (fun c_26 => ?_) (fun c_26 => ?_)
      · have h := h.1 c_26
        refine g_aload_n (pc := 19) hC 0 dX12_chainAt_19 rfl rfl ?_
        refine g_iload_n (pc := 20) hC 1 dX12_chainAt_20 rfl rfl ?_
        refine g_iconst (pc := 21) (v := 1) hC dX12_chainAt_21 (by decide) ?_
        refine g_icmp_ne (pc := 22) (tgt := 29) hC dX12_chainAt_22 (by decide) (fun c_27 => ?_) (fun c_27 => ?_)
        · have h := h.1 c_27
          refine g_iconst (pc := 29) (v := 0) hC dX12_chainAt_29 (by decide) ?_
          refine g_sub (lv' := [(0, .ref o0), (2, .int x2)]) [0, 2] rfl ?_
          exact kX12_chainAt_b30 hC hR0 hR  h
        · have h := h.2 c_27
          refine g_iconst (pc := 25) (v := 1) hC dX12_chainAt_25 (by decide) ?_
          refine g_goto (pc := 26) (tgt := 30) hC dX12_chainAt_26 (by decide) ?_
          refine g_sub (lv' := [(0, .ref o0), (2, .int x2)]) [0, 2] rfl ?_
          exact kX12_chainAt_b30 hC hR0 hR  h
      · have h := h.2 c_26
        refine g_sub (lv' := [(0, .ref o0)]) [0] rfl ?_
        exact kX12_chainAt_b13 hC hR0 hR  h
theorem ctX12_chainAt {l : Launch} {D : va_G} {cy : Nat → ClassId} {kd : Nat → Nat} {o0 : Nat} {a0 : Nat → Nat} {x1 : Int32} {x2 : Int32} {u0 : St} {post : Int32 → St → Prop} (h : qX12_chainAt x1 x2 u0 post) : CtI l D cy kd yX12_chainAt cX12_chainAt 3 8 .int [.ref o0, .int x1, .int x2] (fun u : St => (wX12 o0 a0 cy u [])) u0 (fun r u => post r u) := met_i (by decide) (Nat.le_of_ble_eq_true rfl) (fun C e1 e2 e3 e4 e5 hC hR => by subst e1 e2 e3 e4; exact kX12_chainAt hC e5 hR h)
