/-! Reader -/
theorem dX6_readOdds_0 : decode cX6_readOdds 0 = .ok (.aload_n 0, 1) := by decide +kernel
theorem dX6_readOdds_1 : decode cX6_readOdds 1 = .ok (.getfield 29, 3) := by decide +kernel
theorem dX6_readOdds_4 : decode cX6_readOdds 4 = .ok (.ifCond .eq 13, 3) := by decide +kernel
theorem dX6_readOdds_7 : decode cX6_readOdds 7 = .ok (.aload_n 0, 1) := by decide +kernel
theorem dX6_readOdds_8 : decode cX6_readOdds 8 = .ok (.getfield 20, 3) := by decide +kernel
theorem dX6_readOdds_11 : decode cX6_readOdds 11 = .ok (.iconst 5, 1) := by decide +kernel
theorem dX6_readOdds_12 : decode cX6_readOdds 12 = .ok (.invokevirtual 83, 3) := by decide +kernel
theorem dX6_readOdds_15 : decode cX6_readOdds 15 = .ok (.pop, 1) := by decide +kernel
theorem dX6_readOdds_16 : decode cX6_readOdds 16 = .ok (.return_, 1) := by decide +kernel
theorem dX6_readOdds_17 : decode cX6_readOdds 17 = .ok (.aload_n 0, 1) := by decide +kernel
theorem dX6_readOdds_18 : decode cX6_readOdds 18 = .ok (.iconst 1, 1) := by decide +kernel
theorem dX6_readOdds_19 : decode cX6_readOdds 19 = .ok (.putfield 29, 3) := by decide +kernel
theorem dX6_readOdds_22 : decode cX6_readOdds 22 = .ok (.aload_n 0, 1) := by decide +kernel
theorem dX6_readOdds_23 : decode cX6_readOdds 23 = .ok (.getfield 20, 3) := by decide +kernel
theorem dX6_readOdds_26 : decode cX6_readOdds 26 = .ok (.invokevirtual 87, 3) := by decide +kernel
theorem dX6_readOdds_29 : decode cX6_readOdds 29 = .ok (.aload_n 1, 1) := by decide +kernel
theorem dX6_readOdds_30 : decode cX6_readOdds 30 = .ok (.aload_n 0, 1) := by decide +kernel
theorem dX6_readOdds_31 : decode cX6_readOdds 31 = .ok (.getfield 20, 3) := by decide +kernel
theorem dX6_readOdds_34 : decode cX6_readOdds 34 = .ok (.iconst 0, 1) := by decide +kernel
theorem dX6_readOdds_35 : decode cX6_readOdds 35 = .ok (.bipush 16, 2) := by decide +kernel
theorem dX6_readOdds_37 : decode cX6_readOdds 37 = .ok (.invokevirtual 90, 3) := by decide +kernel
theorem dX6_readOdds_40 : decode cX6_readOdds 40 = .ok (.putfield 94, 3) := by decide +kernel
theorem dX6_readOdds_43 : decode cX6_readOdds 43 = .ok (.aload_n 0, 1) := by decide +kernel
theorem dX6_readOdds_44 : decode cX6_readOdds 44 = .ok (.getfield 20, 3) := by decide +kernel
theorem dX6_readOdds_47 : decode cX6_readOdds 47 = .ok (.invokevirtual 97, 3) := by decide +kernel
theorem dX6_readOdds_50 : decode cX6_readOdds 50 = .ok (.return_, 1) := by decide +kernel
def qX6_readOdds  (u0 : St) (u1 : St) (u2 : St) (u3 : St) (post : St → St → St → St → Prop) : Prop := (((gi u0 3) = 0 → ∀ u_18 : St, u_18 = (si u0 3 (1 : Int32)) → qX8_advance u1 u2 (fun u_19 u_20 => qX8_takeNumber (0 : Int32) (16 : Int32) u_19 u_20 (fun r_24 u_22 u_23 => ∀ u_26 : St, u_26 = (si u3 3 r_24) → qX8_takeSemicolon u_22 u_23 (fun u_27 u_28 => post u_18 u_27 u_28 u_26)))) ∧ (¬ (gi u0 3) = 0 → qX8_fail (5 : Int32) u1 u2 (fun r_32 u_30 u_31 => post u0 u_30 u_31 u3)))
set_option maxRecDepth 100000 in
set_option maxHeartbeats 4000000 in
theorem kX6_readOdds {C : Cx} {o0 : Nat} {a0 : Nat → Nat} {a1 : Nat → Nat} {o3 : Nat} {a3 : Nat → Nat} (hC : Fx C cX6_readOdds 2 RX6) (hR0 : xR C = rm 5) {post : St → St → St → St → Prop} (hR : RV C cX6_readOdds 2 (fun u : St × St × St × St => (wX6 o0 a0 (xy C) u.1 (wX8 (a0 0) a1 (xy C) u.2.1 (wT (a1 0) (xy C) u.2.2.1 (wX2 o3 a3 (xy C) u.2.2.2 []))))) (fun u => post u.1 u.2.1 u.2.2.1 u.2.2.2))  {u0 : St} {u1 : St} {u2 : St} {u3 : St} (h : qX6_readOdds  u0 u1 u2 u3 post) : G C 0 0 2 (wX6 o0 a0 (xy C) u0 (wX8 (a0 0) a1 (xy C) u1 (wT (a1 0) (xy C) u2 (wX2 o3 a3 (xy C) u3 [])))) 0 [(0, .ref o0), (1, .ref o3)] [] := by
  refine g_aload_n (pc := 0) hC 0 dX6_readOdds_0 rfl rfl ?_
  refine getX6_3 (pc := 1) hC (F := fun Z => Z) (X := []) (fun _ => rfl) fl_X6_29 dX6_readOdds_1 ?_
  refine g_if_eq (pc := 4) (tgt := 17) hC dX6_readOdds_4 (by decide) (fun c_17 => ?_) (fun c_17 => ?_)
  · have h := h.1 c_17
    refine g_aload_n (pc := 17) hC 0 dX6_readOdds_17 rfl rfl ?_
    refine g_iconst (pc := 18) (v := 1) hC dX6_readOdds_18 (by decide) ?_
    refine putX6_3 (pc := 19) hC (F := fun Z => Z) (X := []) (fun _ => rfl) fl_X6_29 (Or.inr rfl) dX6_readOdds_19 ?_
    refine g_st (w := fun z => (wX6 o0 a0 (xy C) z (wX8 (a0 0) a1 (xy C) u1 (wT (a1 0) (xy C) u2 (wX2 o3 a3 (xy C) u3 []))))) (u := (si u0 3 (1 : Int32))) (fun u_18 eu_18 => ?_)
    have h := h u_18 eu_18
    refine g_aload_n (pc := 22) hC 0 dX6_readOdds_22 rfl rfl ?_
    refine getX6_0 (pc := 23) hC (F := fun Z => Z) (X := []) (fun _ => rfl) fl_X6_20 dX6_readOdds_23 ?_
    refine g_callV_v (pc := 26) (wd := fun (u : St × St) Y => (wX8 (a0 0) a1 (xy C) u.1 (wT (a1 0) (xy C) u.2 Y))) (F := fun Z => (wX6 o0 a0 (xy C) u_18 Z)) (X := (wX6 o0 a0 (xy C) u_18 [])) (As := []) (rest := []) (u := (u1, u2)) hC (fun _ _ => rfl) (fun _ => rfl) (ctX8_advance h) wvX8_advance ml_X6_87 (ci := 7) (q0 := 0) rfl rfl rfl rfl (rmok hR0 rfl) ⟨Nat.zero_le _, Nat.zero_le _⟩ rfl (Nat.le_of_ble_eq_true rfl) dX6_readOdds_26 (fun u_21 h => ?_)
    obtain ⟨u_19, u_20⟩ := u_21
    refine g_aload_n (pc := 29) hC 1 dX6_readOdds_29 rfl rfl ?_
    refine g_aload_n (pc := 30) hC 0 dX6_readOdds_30 rfl rfl ?_
    refine getX6_0 (pc := 31) hC (F := fun Z => Z) (X := []) (fun _ => rfl) fl_X6_20 dX6_readOdds_31 ?_
    refine g_iconst (pc := 34) (v := 0) hC dX6_readOdds_34 (by decide) ?_
    refine g_bipush (pc := 35) (v := 16) hC dX6_readOdds_35 (by decide) ?_
    refine g_callV_i (pc := 37) (wd := fun (u : St × St) Y => (wX8 (a0 0) a1 (xy C) u.1 (wT (a1 0) (xy C) u.2 Y))) (F := fun Z => (wX6 o0 a0 (xy C) u_18 Z)) (X := (wX6 o0 a0 (xy C) u_18 [])) (As := [.int (0 : Int32), .int (16 : Int32)]) (rest := [.ref o3]) (u := (u_19, u_20)) hC (fun _ _ => rfl) (fun _ => rfl) (ctX8_takeNumber h) wvX8_takeNumber ml_X6_90 (ci := 7) (q0 := 0) rfl rfl rfl rfl (rmok hR0 rfl) ⟨Nat.zero_le _, Nat.zero_le _⟩ rfl (Nat.le_of_ble_eq_true rfl) dX6_readOdds_37 (fun r_24 u_25 h => ?_)
    obtain ⟨u_22, u_23⟩ := u_25
    refine putX2_3 (pc := 40) hC (F := fun Z => (wX6 o0 a0 (xy C) u_18 (wX8 (a0 0) a1 (xy C) u_22 (wT (a1 0) (xy C) u_23 Z)))) (X := (wX6 o0 a0 (xy C) u_18 (wX8 (a0 0) a1 (xy C) u_22 (wT (a1 0) (xy C) u_23 [])))) (fun _ => rfl) fl_X6_94 dX6_readOdds_40 ?_
    refine g_st (w := fun z => (wX6 o0 a0 (xy C) u_18 (wX8 (a0 0) a1 (xy C) u_22 (wT (a1 0) (xy C) u_23 (wX2 o3 a3 (xy C) z []))))) (u := (si u3 3 r_24)) (fun u_26 eu_26 => ?_)
    have h := h u_26 eu_26
    refine g_aload_n (pc := 43) hC 0 dX6_readOdds_43 rfl rfl ?_
    refine getX6_0 (pc := 44) hC (F := fun Z => Z) (X := []) (fun _ => rfl) fl_X6_20 dX6_readOdds_44 ?_
    refine g_callV_v (pc := 47) (wd := fun (u : St × St) Y => (wX8 (a0 0) a1 (xy C) u.1 (wT (a1 0) (xy C) u.2 Y))) (F := fun Z => (wX6 o0 a0 (xy C) u_18 Z)) (X := (wX6 o0 a0 (xy C) u_18 [])) (As := []) (rest := []) (u := (u_22, u_23)) hC (fun _ _ => rfl) (fun _ => rfl) (ctX8_takeSemicolon h) wvX8_takeSemicolon ml_X6_97 (ci := 7) (q0 := 0) rfl rfl rfl rfl (rmok hR0 rfl) ⟨Nat.zero_le _, Nat.zero_le _⟩ rfl (Nat.le_of_ble_eq_true rfl) dX6_readOdds_47 (fun u_29 h => ?_)
    obtain ⟨u_27, u_28⟩ := u_29
    exact hR _ _ (u_18, u_27, u_28, u_26) dX6_readOdds_50 h
  · have h := h.2 c_17
    refine g_aload_n (pc := 7) hC 0 dX6_readOdds_7 rfl rfl ?_
    refine getX6_0 (pc := 8) hC (F := fun Z => Z) (X := []) (fun _ => rfl) fl_X6_20 dX6_readOdds_8 ?_
    refine g_iconst (pc := 11) (v := 5) hC dX6_readOdds_11 (by decide) ?_
    refine g_callV_i (pc := 12) (wd := fun (u : St × St) Y => (wX8 (a0 0) a1 (xy C) u.1 (wT (a1 0) (xy C) u.2 Y))) (F := fun Z => (wX6 o0 a0 (xy C) u0 Z)) (X := (wX6 o0 a0 (xy C) u0 [])) (As := [.int (5 : Int32)]) (rest := []) (u := (u1, u2)) hC (fun _ _ => rfl) (fun _ => rfl) (ctX8_fail h) wvX8_fail ml_X6_83 (ci := 7) (q0 := 0) rfl rfl rfl rfl (rmok hR0 rfl) ⟨Nat.zero_le _, Nat.zero_le _⟩ rfl (Nat.le_of_ble_eq_true rfl) dX6_readOdds_12 (fun r_32 u_33 h => ?_)
    obtain ⟨u_30, u_31⟩ := u_33
    refine g_pop (pc := 15) hC dX6_readOdds_15 rfl ?_
    exact hR _ _ (u0, u_30, u_31, u3) dX6_readOdds_16 h
theorem ctX6_readOdds {l : Launch} {D : va_G} {cy : Nat → ClassId} {kd : Nat → Nat} {o0 : Nat} {a0 : Nat → Nat} {a1 : Nat → Nat} {o3 : Nat} {a3 : Nat → Nat}  {u0 : St} {u1 : St} {u2 : St} {u3 : St} {post : St → St → St → St → Prop} (h : qX6_readOdds  u0 u1 u2 u3 post) : CtV l D cy kd yX6_readOdds cX6_readOdds 2 5  [.ref o0, .ref o3] (fun u : St × St × St × St => (wX6 o0 a0 cy u.1 (wX8 (a0 0) a1 cy u.2.1 (wT (a1 0) cy u.2.2.1 (wX2 o3 a3 cy u.2.2.2 []))))) (u0, u1, u2, u3) (fun u => post u.1 u.2.1 u.2.2.1 u.2.2.2) := met_v (by decide) (Nat.le_of_ble_eq_true rfl) (fun C e1 e2 e3 e4 e5 hC hR => by subst e1 e2 e3 e4; exact kX6_readOdds hC e5 hR h)
theorem dX6_readOn_0 : decode cX6_readOn 0 = .ok (.iconst 0, 1) := by decide +kernel
theorem dX6_readOn_1 : decode cX6_readOn 1 = .ok (.istore_n 2, 1) := by decide +kernel
theorem dX6_readOn_2 : decode cX6_readOn 2 = .ok (.iconst 0, 1) := by decide +kernel
theorem dX6_readOn_3 : decode cX6_readOn 3 = .ok (.istore_n 3, 1) := by decide +kernel
theorem dX6_readOn_4 : decode cX6_readOn 4 = .ok (.iload_n 3, 1) := by decide +kernel
theorem dX6_readOn_5 : decode cX6_readOn 5 = .ok (.bipush 8, 2) := by decide +kernel
theorem dX6_readOn_7 : decode cX6_readOn 7 = .ok (.if_icmp .gt 84, 3) := by decide +kernel
theorem dX6_readOn_10 : decode cX6_readOn 10 = .ok (.aload_n 0, 1) := by decide +kernel
theorem dX6_readOn_11 : decode cX6_readOn 11 = .ok (.getfield 20, 3) := by decide +kernel
theorem dX6_readOn_14 : decode cX6_readOn 14 = .ok (.invokevirtual 127, 3) := by decide +kernel
theorem dX6_readOn_17 : decode cX6_readOn 17 = .ok (.ifCond .eq 74, 3) := by decide +kernel
theorem dX6_readOn_20 : decode cX6_readOn 20 = .ok (.aload_n 0, 1) := by decide +kernel
theorem dX6_readOn_21 : decode cX6_readOn 21 = .ok (.getfield 20, 3) := by decide +kernel
theorem dX6_readOn_24 : decode cX6_readOn 24 = .ok (.invokevirtual 130, 3) := by decide +kernel
theorem dX6_readOn_27 : decode cX6_readOn 27 = .ok (.istore 4, 2) := by decide +kernel
theorem dX6_readOn_29 : decode cX6_readOn 29 = .ok (.aload_n 1, 1) := by decide +kernel
theorem dX6_readOn_30 : decode cX6_readOn 30 = .ok (.iload 4, 2) := by decide +kernel
theorem dX6_readOn_32 : decode cX6_readOn 32 = .ok (.invokevirtual 134, 3) := by decide +kernel
theorem dX6_readOn_35 : decode cX6_readOn 35 = .ok (.ifCond .ne 15, 3) := by decide +kernel
theorem dX6_readOn_38 : decode cX6_readOn 38 = .ok (.aload_n 0, 1) := by decide +kernel
theorem dX6_readOn_39 : decode cX6_readOn 39 = .ok (.getfield 20, 3) := by decide +kernel
theorem dX6_readOn_42 : decode cX6_readOn 42 = .ok (.iconst 4, 1) := by decide +kernel
theorem dX6_readOn_43 : decode cX6_readOn 43 = .ok (.invokevirtual 83, 3) := by decide +kernel
theorem dX6_readOn_46 : decode cX6_readOn 46 = .ok (.pop, 1) := by decide +kernel
theorem dX6_readOn_47 : decode cX6_readOn 47 = .ok (.goto 38, 3) := by decide +kernel
theorem dX6_readOn_50 : decode cX6_readOn 50 = .ok (.iload_n 2, 1) := by decide +kernel
theorem dX6_readOn_51 : decode cX6_readOn 51 = .ok (.iload 4, 2) := by decide +kernel
theorem dX6_readOn_53 : decode cX6_readOn 53 = .ok (.invokestatic 138, 3) := by decide +kernel
theorem dX6_readOn_56 : decode cX6_readOn 56 = .ok (.ifCond .eq 15, 3) := by decide +kernel
theorem dX6_readOn_59 : decode cX6_readOn 59 = .ok (.aload_n 0, 1) := by decide +kernel
theorem dX6_readOn_60 : decode cX6_readOn 60 = .ok (.getfield 20, 3) := by decide +kernel
theorem dX6_readOn_63 : decode cX6_readOn 63 = .ok (.iconst 5, 1) := by decide +kernel
theorem dX6_readOn_64 : decode cX6_readOn 64 = .ok (.invokevirtual 83, 3) := by decide +kernel
theorem dX6_readOn_67 : decode cX6_readOn 67 = .ok (.pop, 1) := by decide +kernel
theorem dX6_readOn_68 : decode cX6_readOn 68 = .ok (.goto 17, 3) := by decide +kernel
theorem dX6_readOn_71 : decode cX6_readOn 71 = .ok (.iload_n 2, 1) := by decide +kernel
theorem dX6_readOn_72 : decode cX6_readOn 72 = .ok (.iconst 1, 1) := by decide +kernel
theorem dX6_readOn_73 : decode cX6_readOn 73 = .ok (.iload 4, 2) := by decide +kernel
theorem dX6_readOn_75 : decode cX6_readOn 75 = .ok (.ishl, 1) := by decide +kernel
theorem dX6_readOn_76 : decode cX6_readOn 76 = .ok (.ior, 1) := by decide +kernel
theorem dX6_readOn_77 : decode cX6_readOn 77 = .ok (.istore_n 2, 1) := by decide +kernel
theorem dX6_readOn_78 : decode cX6_readOn 78 = .ok (.aload_n 0, 1) := by decide +kernel
theorem dX6_readOn_79 : decode cX6_readOn 79 = .ok (.getfield 20, 3) := by decide +kernel
theorem dX6_readOn_82 : decode cX6_readOn 82 = .ok (.invokevirtual 87, 3) := by decide +kernel
theorem dX6_readOn_85 : decode cX6_readOn 85 = .ok (.iinc 3 1, 3) := by decide +kernel
theorem dX6_readOn_88 : decode cX6_readOn 88 = .ok (.goto (-84), 3) := by decide +kernel
theorem dX6_readOn_91 : decode cX6_readOn 91 = .ok (.iload_n 2, 1) := by decide +kernel
theorem dX6_readOn_92 : decode cX6_readOn 92 = .ok (.ireturn, 1) := by decide +kernel
def qX6_readOn_b85  (post : Int32 → St → St → St → St → Prop) (K4 : Int32 → Int32 → St → St → St → St → Prop) (x2 : Int32) (x3 : Int32) (u0 : St) (u1 : St) (u2 : St) (u3 : St) : Prop := ∀ x3_26 : Int32, x3_26 = x3 + (1 : Int32) → K4 x2 x3_26 u0 u1 u2 u3
set_option maxRecDepth 100000 in
set_option maxHeartbeats 4000000 in
theorem kX6_readOn_b85 {C : Cx} {o0 : Nat} {a0 : Nat → Nat} {a1 : Nat → Nat} {o3 : Nat} {a3 : Nat → Nat} (hC : Fx C cX6_readOn 5 RX6) (hR0 : xR C = rm 4) {post : Int32 → St → St → St → St → Prop} (hR : RI C cX6_readOn 5 (fun u : St × St × St × St => (wX6 o0 a0 (xy C) u.1 (wX8 (a0 0) a1 (xy C) u.2.1 (wT (a1 0) (xy C) u.2.2.1 (wX2 o3 a3 (xy C) u.2.2.2 []))))) (fun r u => post r u.1 u.2.1 u.2.2.1 u.2.2.2)) {K4 : Int32 → Int32 → St → St → St → St → Prop} (hK4 : ∀ (x2 : Int32) (x3 : Int32) (u0 : St) (u1 : St) (u2 : St) (u3 : St), K4 x2 x3 u0 u1 u2 u3 → G C 0 0 5 (wX6 o0 a0 (xy C) u0 (wX8 (a0 0) a1 (xy C) u1 (wT (a1 0) (xy C) u2 (wX2 o3 a3 (xy C) u3 [])))) 4 [(0, .ref o0), (1, .ref o3), (2, .int x2), (3, .int x3)] []) {x2 : Int32} {x3 : Int32} {u0 : St} {u1 : St} {u2 : St} {u3 : St} (h : qX6_readOn_b85 post K4 x2 x3 u0 u1 u2 u3) : G C 0 0 5 (wX6 o0 a0 (xy C) u0 (wX8 (a0 0) a1 (xy C) u1 (wT (a1 0) (xy C) u2 (wX2 o3 a3 (xy C) u3 [])))) 85 [(0, .ref o0), (1, .ref o3), (2, .int x2), (3, .int x3)] [] := by
  obtain ⟨x3_26, ex3_26⟩ : ∃ z : Int32, z = x3 + (1 : Int32) := ⟨_, rfl⟩
  have h := h x3_26 ex3_26
  refine g_iinc (pc := 85) (v := x3_26) (lv' := [(3, .int x3_26), (0, .ref o0), (1, .ref o3), (2, .int x2)]) hC 3 dX6_readOn_85 rfl (by rw [ex3_26]; rfl) (Nat.le_of_ble_eq_true rfl) rfl ?_
  refine g_goto (pc := 88) (tgt := 4) hC dX6_readOn_88 (by decide) ?_
  refine g_sub (lv' := [(0, .ref o0), (1, .ref o3), (2, .int x2), (3, .int x3_26)]) [1, 2, 3, 0] rfl ?_
  exact hK4 _ _ _ _ _ _ h
def qX6_readOn_b91  (post : Int32 → St → St → St → St → Prop)  (x2 : Int32) (u0 : St) (u1 : St) (u2 : St) (u3 : St) : Prop := post x2 u0 u1 u2 u3
set_option maxRecDepth 100000 in
set_option maxHeartbeats 4000000 in
theorem kX6_readOn_b91 {C : Cx} {o0 : Nat} {a0 : Nat → Nat} {a1 : Nat → Nat} {o3 : Nat} {a3 : Nat → Nat} (hC : Fx C cX6_readOn 5 RX6) (hR0 : xR C = rm 4) {post : Int32 → St → St → St → St → Prop} (hR : RI C cX6_readOn 5 (fun u : St × St × St × St => (wX6 o0 a0 (xy C) u.1 (wX8 (a0 0) a1 (xy C) u.2.1 (wT (a1 0) (xy C) u.2.2.1 (wX2 o3 a3 (xy C) u.2.2.2 []))))) (fun r u => post r u.1 u.2.1 u.2.2.1 u.2.2.2))  {x2 : Int32} {u0 : St} {u1 : St} {u2 : St} {u3 : St} (h : qX6_readOn_b91 post x2 u0 u1 u2 u3) : G C 0 0 5 (wX6 o0 a0 (xy C) u0 (wX8 (a0 0) a1 (xy C) u1 (wT (a1 0) (xy C) u2 (wX2 o3 a3 (xy C) u3 [])))) 91 [(2, .int x2)] [] := by
  refine g_iload_n (pc := 91) hC 0 dX6_readOn_91 rfl rfl ?_
  exact hR _ _ _ (u0, u1, u2, u3) dX6_readOn_92 h
def qX6_readOn_l4  (post : Int32 → St → St → St → St → Prop) (K4 : Int32 → Int32 → St → St → St → St → Prop) (x2 : Int32) (x3 : Int32) (u0 : St) (u1 : St) (u2 : St) (u3 : St) : Prop := (((8 : Int32) < x3 → qX6_readOn_b91 post x2 u0 u1 u2 u3) ∧ (¬ (8 : Int32) < x3 → qX8_isAtNumber u1 u2 (fun r_30 u_28 u_29 => ((r_30 = 0 → qX6_readOn_b91 post x2 u0 u_28 u_29 u3) ∧ (¬ r_30 = 0 → qX8_numberNow u_28 u_29 (fun r_35 u_33 u_34 => qX2_isStone r_35 u3 (fun r_38 u_37 => ((¬ r_38 = 0 → qX11_has x2 r_35 (fun r_41 => ((r_41 = 0 → ∀ x2_44 : Int32, x2_44 = (x2 ||| ((1 : Int32) <<< (r_35 &&& 31))) → qX8_advance u_33 u_34 (fun u_45 u_46 => qX6_readOn_b85 post K4 x2_44 x3 u0 u_45 u_46 u_37)) ∧ (¬ r_41 = 0 → qX8_fail (5 : Int32) u_33 u_34 (fun r_50 u_48 u_49 => qX6_readOn_b85 post K4 x2 x3 u0 u_48 u_49 u_37))))) ∧ (r_38 = 0 → qX8_fail (4 : Int32) u_33 u_34 (fun r_54 u_52 u_53 => qX6_readOn_b85 post K4 x2 x3 u0 u_52 u_53 u_37))))))))))
set_option maxRecDepth 100000 in
set_option maxHeartbeats 4000000 in
theorem kX6_readOn_l4 {C : Cx} {o0 : Nat} {a0 : Nat → Nat} {a1 : Nat → Nat} {o3 : Nat} {a3 : Nat → Nat} (hC : Fx C cX6_readOn 5 RX6) (hR0 : xR C = rm 4) {post : Int32 → St → St → St → St → Prop} (hR : RI C cX6_readOn 5 (fun u : St × St × St × St => (wX6 o0 a0 (xy C) u.1 (wX8 (a0 0) a1 (xy C) u.2.1 (wT (a1 0) (xy C) u.2.2.1 (wX2 o3 a3 (xy C) u.2.2.2 []))))) (fun r u => post r u.1 u.2.1 u.2.2.1 u.2.2.2))  {K4 : Int32 → Int32 → St → St → St → St → Prop} (hK4 : ∀ (x2 : Int32) (x3 : Int32) (u0 : St) (u1 : St) (u2 : St) (u3 : St), K4 x2 x3 u0 u1 u2 u3 → G C 0 0 5 (wX6 o0 a0 (xy C) u0 (wX8 (a0 0) a1 (xy C) u1 (wT (a1 0) (xy C) u2 (wX2 o3 a3 (xy C) u3 [])))) 4 [(0, .ref o0), (1, .ref o3), (2, .int x2), (3, .int x3)] []) {x2 : Int32} {x3 : Int32} {u0 : St} {u1 : St} {u2 : St} {u3 : St} (h : qX6_readOn_l4 post K4 x2 x3 u0 u1 u2 u3) : G C 0 0 5 (wX6 o0 a0 (xy C) u0 (wX8 (a0 0) a1 (xy C) u1 (wT (a1 0) (xy C) u2 (wX2 o3 a3 (xy C) u3 [])))) 4 [(0, .ref o0), (1, .ref o3), (2, .int x2), (3, .int x3)] [] := by
  refine g_iload_n (pc := 4) hC 3 dX6_readOn_4 rfl rfl ?_
  refine g_bipush (pc := 5) (v := 8) hC dX6_readOn_5 (by decide) ?_
  refine g_icmp_gt (pc := 7) (tgt := 91) hC dX6_readOn_7 (by decide) (fun c_27 => ?_) (fun c_27 => ?_)
  · have h := h.1 c_27
    refine g_sub (lv' := [(2, .int x2)]) [2] rfl ?_
    exact kX6_readOn_b91 hC hR0 hR  h
  · have h := h.2 c_27
    refine g_aload_n (pc := 10) hC 0 dX6_readOn_10 rfl rfl ?_
    refine getX6_0 (pc := 11) hC (F := fun Z => Z) (X := []) (fun _ => rfl) fl_X6_20 dX6_readOn_11 ?_
    refine g_callV_i (pc := 14) (wd := fun (u : St × St) Y => (wX8 (a0 0) a1 (xy C) u.1 (wT (a1 0) (xy C) u.2 Y))) (F := fun Z => (wX6 o0 a0 (xy C) u0 Z)) (X := (wX6 o0 a0 (xy C) u0 [])) (As := []) (rest := []) (u := (u1, u2)) hC (fun _ _ => rfl) (fun _ => rfl) (ctX8_isAtNumber h) wvX8_isAtNumber ml_X6_127 (ci := 7) (q0 := 0) rfl rfl rfl rfl (rmok hR0 rfl) ⟨Nat.zero_le _, Nat.zero_le _⟩ rfl (Nat.le_of_ble_eq_true rfl) dX6_readOn_14 (fun r_30 u_31 h => ?_)
    obtain ⟨u_28, u_29⟩ := u_31
    refine g_if_eq (pc := 17) (tgt := 91) hC dX6_readOn_17 (by decide) (fun c_32 => ?_) (fun c_32 => ?_)
    · have h := h.1 c_32
      refine g_sub (lv' := [(2, .int x2)]) [2] rfl ?_
      exact kX6_readOn_b91 hC hR0 hR  h
    · have h := h.2 c_32
      refine g_aload_n (pc := 20) hC 0 dX6_readOn_20 rfl rfl ?_
      refine getX6_0 (pc := 21) hC (F := fun Z => Z) (X := []) (fun _ => rfl) fl_X6_20 dX6_readOn_21 ?_
      refine g_callV_i (pc := 24) (wd := fun (u : St × St) Y => (wX8 (a0 0) a1 (xy C) u.1 (wT (a1 0) (xy C) u.2 Y))) (F := fun Z => (wX6 o0 a0 (xy C) u0 Z)) (X := (wX6 o0 a0 (xy C) u0 [])) (As := []) (rest := []) (u := (u_28, u_29)) hC (fun _ _ => rfl) (fun _ => rfl) (ctX8_numberNow h) wvX8_numberNow ml_X6_130 (ci := 7) (q0 := 0) rfl rfl rfl rfl (rmok hR0 rfl) ⟨Nat.zero_le _, Nat.zero_le _⟩ rfl (Nat.le_of_ble_eq_true rfl) dX6_readOn_24 (fun r_35 u_36 h => ?_)
      obtain ⟨u_33, u_34⟩ := u_36
      refine g_istore (pc := 27) (lv' := [(4, .int r_35), (0, .ref o0), (1, .ref o3), (2, .int x2), (3, .int x3)]) hC dX6_readOn_27 (Nat.le_of_ble_eq_true rfl) rfl ?_
      refine g_aload_n (pc := 29) hC 2 dX6_readOn_29 rfl rfl ?_
      refine g_iload (pc := 30) hC 0 dX6_readOn_30 rfl ?_
      refine g_callV_i (pc := 32) (wd := fun (u : St) Y => (wX2 o3 a3 (xy C) u Y)) (F := fun Z => (wX6 o0 a0 (xy C) u0 (wX8 (a0 0) a1 (xy C) u_33 (wT (a1 0) (xy C) u_34 Z)))) (X := (wX6 o0 a0 (xy C) u0 (wX8 (a0 0) a1 (xy C) u_33 (wT (a1 0) (xy C) u_34 [])))) (As := [.int r_35]) (rest := []) (u := u3) hC (fun _ _ => rfl) (fun _ => rfl) (ctX2_isStone h) wvX2_isStone ml_X6_134 (ci := 1) (q0 := 0) rfl rfl rfl rfl (rmok hR0 rfl) ⟨Nat.zero_le _, Nat.zero_le _⟩ rfl (Nat.le_of_ble_eq_true rfl) dX6_readOn_32 (fun r_38 u_37 h => ?_)
      refine g_if_ne (pc := 35) (tgt := 50) hC dX6_readOn_35 (by decide) (fun c_40 => ?_) (fun c_40 => ?_)
      · have h := h.1 c_40
        refine g_iload_n (pc := 50) hC 3 dX6_readOn_50 rfl rfl ?_
        refine g_iload (pc := 51) hC 0 dX6_readOn_51 rfl ?_
        refine g_callSN_i (pc := 53) (wd := fun (_ : Unit) Y => Y) (F := fun Z => Z) (X := []) (As := [.int x2, .int r_35]) (rest := []) (u := ()) hC (fun _ _ => rfl) (fun _ => rfl) (ctX11_has h) wvX11_has nl_X6_138 rfl (rmok hR0 rfl) ⟨Nat.zero_le _, Nat.zero_le _⟩ rfl (Nat.le_of_ble_eq_true rfl) dX6_readOn_53 (fun r_41 u_42 h => ?_)
        refine g_if_eq (pc := 56) (tgt := 71) hC dX6_readOn_56 (by decide) (fun c_43 => ?_) (fun c_43 => ?_)
        · have h := h.1 c_43
          refine g_iload_n (pc := 71) hC 3 dX6_readOn_71 rfl rfl ?_
          refine g_iconst (pc := 72) (v := 1) hC dX6_readOn_72 (by decide) ?_
          refine g_iload (pc := 73) hC 0 dX6_readOn_73 rfl ?_
          refine g_ishl (pc := 75) hC dX6_readOn_75 ?_
          refine g_ior (pc := 76) hC dX6_readOn_76 ?_
          refine g_topi (fun x2_44 ex2_44 => ?_)
          have h := h x2_44 ex2_44
          refine g_istore_n (pc := 77) (lv' := [(2, .int x2_44), (4, .int r_35), (0, .ref o0), (1, .ref o3), (3, .int x3)]) hC dX6_readOn_77 rfl (Nat.le_of_ble_eq_true rfl) rfl ?_
          refine g_aload_n (pc := 78) hC 2 dX6_readOn_78 rfl rfl ?_
          refine getX6_0 (pc := 79) hC (F := fun Z => Z) (X := []) (fun _ => rfl) fl_X6_20 dX6_readOn_79 ?_
          refine g_callV_v (pc := 82) (wd := fun (u : St × St) Y => (wX8 (a0 0) a1 (xy C) u.1 (wT (a1 0) (xy C) u.2 Y))) (F := fun Z => (wX6 o0 a0 (xy C) u0 Z)) (X := (wX6 o0 a0 (xy C) u0 [])) (As := []) (rest := []) (u := (u_33, u_34)) hC (fun _ _ => rfl) (fun _ => rfl) (ctX8_advance h) wvX8_advance ml_X6_87 (ci := 7) (q0 := 0) rfl rfl rfl rfl (rmok hR0 rfl) ⟨Nat.zero_le _, Nat.zero_le _⟩ rfl (Nat.le_of_ble_eq_true rfl) dX6_readOn_82 (fun u_47 h => ?_)
          obtain ⟨u_45, u_46⟩ := u_47
          refine g_sub (lv' := [(0, .ref o0), (1, .ref o3), (2, .int x2_44), (3, .int x3)]) [2, 3, 0, 4] rfl ?_
          exact kX6_readOn_b85 hC hR0 hR hK4 h
        · have h := h.2 c_43
          refine g_aload_n (pc := 59) hC 1 dX6_readOn_59 rfl rfl ?_
          refine getX6_0 (pc := 60) hC (F := fun Z => Z) (X := []) (fun _ => rfl) fl_X6_20 dX6_readOn_60 ?_
          refine g_iconst (pc := 63) (v := 5) hC dX6_readOn_63 (by decide) ?_
          refine g_callV_i (pc := 64) (wd := fun (u : St × St) Y => (wX8 (a0 0) a1 (xy C) u.1 (wT (a1 0) (xy C) u.2 Y))) (F := fun Z => (wX6 o0 a0 (xy C) u0 Z)) (X := (wX6 o0 a0 (xy C) u0 [])) (As := [.int (5 : Int32)]) (rest := []) (u := (u_33, u_34)) hC (fun _ _ => rfl) (fun _ => rfl) (ctX8_fail h) wvX8_fail ml_X6_83 (ci := 7) (q0 := 0) rfl rfl rfl rfl (rmok hR0 rfl) ⟨Nat.zero_le _, Nat.zero_le _⟩ rfl (Nat.le_of_ble_eq_true rfl) dX6_readOn_64 (fun r_50 u_51 h => ?_)
          obtain ⟨u_48, u_49⟩ := u_51
          refine g_pop (pc := 67) hC dX6_readOn_67 rfl ?_
          refine g_goto (pc := 68) (tgt := 85) hC dX6_readOn_68 (by decide) ?_
          refine g_sub (lv' := [(0, .ref o0), (1, .ref o3), (2, .int x2), (3, .int x3)]) [1, 2, 3, 4] rfl ?_
          exact kX6_readOn_b85 hC hR0 hR hK4 h
      · have h := h.2 c_40
        refine g_aload_n (pc := 38) hC 1 dX6_readOn_38 rfl rfl ?_
        refine getX6_0 (pc := 39) hC (F := fun Z => Z) (X := []) (fun _ => rfl) fl_X6_20 dX6_readOn_39 ?_
        refine g_iconst (pc := 42) (v := 4) hC dX6_readOn_42 (by decide) ?_
        refine g_callV_i (pc := 43) (wd := fun (u : St × St) Y => (wX8 (a0 0) a1 (xy C) u.1 (wT (a1 0) (xy C) u.2 Y))) (F := fun Z => (wX6 o0 a0 (xy C) u0 Z)) (X := (wX6 o0 a0 (xy C) u0 [])) (As := [.int (4 : Int32)]) (rest := []) (u := (u_33, u_34)) hC (fun _ _ => rfl) (fun _ => rfl) (ctX8_fail h) wvX8_fail ml_X6_83 (ci := 7) (q0 := 0) rfl rfl rfl rfl (rmok hR0 rfl) ⟨Nat.zero_le _, Nat.zero_le _⟩ rfl (Nat.le_of_ble_eq_true rfl) dX6_readOn_43 (fun r_54 u_55 h => ?_)
        obtain ⟨u_52, u_53⟩ := u_55
        refine g_pop (pc := 46) hC dX6_readOn_46 rfl ?_
        refine g_goto (pc := 47) (tgt := 85) hC dX6_readOn_47 (by decide) ?_
        refine g_sub (lv' := [(0, .ref o0), (1, .ref o3), (2, .int x2), (3, .int x3)]) [1, 2, 3, 4] rfl ?_
        exact kX6_readOn_b85 hC hR0 hR hK4 h
def qX6_readOn_L4  (post : Int32 → St → St → St → St → Prop)  : Nat → Int32 → Int32 → St → St → St → St → Prop
  | 0 => fun _ _ _ _ _ _ => False
  | n + 1 => qX6_readOn_l4 post (qX6_readOn_L4 post n)
theorem kX6_readOn_L4 {C : Cx} {o0 : Nat} {a0 : Nat → Nat} {a1 : Nat → Nat} {o3 : Nat} {a3 : Nat → Nat} (hC : Fx C cX6_readOn 5 RX6) (hR0 : xR C = rm 4) {post : Int32 → St → St → St → St → Prop} (hR : RI C cX6_readOn 5 (fun u : St × St × St × St => (wX6 o0 a0 (xy C) u.1 (wX8 (a0 0) a1 (xy C) u.2.1 (wT (a1 0) (xy C) u.2.2.1 (wX2 o3 a3 (xy C) u.2.2.2 []))))) (fun r u => post r u.1 u.2.1 u.2.2.1 u.2.2.2))  : ∀ (n : Nat) (x2 : Int32) (x3 : Int32) (u0 : St) (u1 : St) (u2 : St) (u3 : St), qX6_readOn_L4 post n x2 x3 u0 u1 u2 u3 → G C 0 0 5 (wX6 o0 a0 (xy C) u0 (wX8 (a0 0) a1 (xy C) u1 (wT (a1 0) (xy C) u2 (wX2 o3 a3 (xy C) u3 [])))) 4 [(0, .ref o0), (1, .ref o3), (2, .int x2), (3, .int x3)] [] := by
  intro n
  induction n with
  | zero => intro x2 x3 u0 u1 u2 u3 h; exact h.elim
  | succ n ih => intro x2 x3 u0 u1 u2 u3 h; exact kX6_readOn_l4 hC hR0 hR  ih h
def qX6_readOn  (u0 : St) (u1 : St) (u2 : St) (u3 : St) (post : Int32 → St → St → St → St → Prop) : Prop := ∃ n_56 : Nat, qX6_readOn_L4 post n_56 (0 : Int32) (0 : Int32) u0 u1 u2 u3
set_option maxRecDepth 100000 in
set_option maxHeartbeats 4000000 in
theorem kX6_readOn {C : Cx} {o0 : Nat} {a0 : Nat → Nat} {a1 : Nat → Nat} {o3 : Nat} {a3 : Nat → Nat} (hC : Fx C cX6_readOn 5 RX6) (hR0 : xR C = rm 4) {post : Int32 → St → St → St → St → Prop} (hR : RI C cX6_readOn 5 (fun u : St × St × St × St => (wX6 o0 a0 (xy C) u.1 (wX8 (a0 0) a1 (xy C) u.2.1 (wT (a1 0) (xy C) u.2.2.1 (wX2 o3 a3 (xy C) u.2.2.2 []))))) (fun r u => post r u.1 u.2.1 u.2.2.1 u.2.2.2))  {u0 : St} {u1 : St} {u2 : St} {u3 : St} (h : qX6_readOn  u0 u1 u2 u3 post) : G C 0 0 5 (wX6 o0 a0 (xy C) u0 (wX8 (a0 0) a1 (xy C) u1 (wT (a1 0) (xy C) u2 (wX2 o3 a3 (xy C) u3 [])))) 0 [(0, .ref o0), (1, .ref o3)] [] := by
  refine g_iconst (pc := 0) (v := 0) hC dX6_readOn_0 (by decide) ?_
  refine g_istore_n (pc := 1) (lv' := [(2, .int (0 : Int32)), (0, .ref o0), (1, .ref o3)]) hC dX6_readOn_1 rfl (Nat.le_of_ble_eq_true rfl) rfl ?_
  refine g_iconst (pc := 2) (v := 0) hC dX6_readOn_2 (by decide) ?_
  refine g_istore_n (pc := 3) (lv' := [(3, .int (0 : Int32)), (2, .int (0 : Int32)), (0, .ref o0), (1, .ref o3)]) hC dX6_readOn_3 rfl (Nat.le_of_ble_eq_true rfl) rfl ?_
  refine g_sub (lv' := [(0, .ref o0), (1, .ref o3), (2, .int (0 : Int32)), (3, .int (0 : Int32))]) [2, 3, 1, 0] rfl ?_
  obtain ⟨n_56, h⟩ := h
  exact kX6_readOn_L4 hC hR0 hR  n_56 _ _ _ _ _ _ h
theorem ctX6_readOn {l : Launch} {D : va_G} {cy : Nat → ClassId} {kd : Nat → Nat} {o0 : Nat} {a0 : Nat → Nat} {a1 : Nat → Nat} {o3 : Nat} {a3 : Nat → Nat}  {u0 : St} {u1 : St} {u2 : St} {u3 : St} {post : Int32 → St → St → St → St → Prop} (h : qX6_readOn  u0 u1 u2 u3 post) : CtI l D cy kd yX6_readOn cX6_readOn 5 4 .int [.ref o0, .ref o3] (fun u : St × St × St × St => (wX6 o0 a0 cy u.1 (wX8 (a0 0) a1 cy u.2.1 (wT (a1 0) cy u.2.2.1 (wX2 o3 a3 cy u.2.2.2 []))))) (u0, u1, u2, u3) (fun r u => post r u.1 u.2.1 u.2.2.1 u.2.2.2) := met_i (by decide) (Nat.le_of_ble_eq_true rfl) (fun C e1 e2 e3 e4 e5 hC hR => by subst e1 e2 e3 e4; exact kX6_readOn hC e5 hR h)
theorem dX6_readStone_0 : decode cX6_readStone 0 = .ok (.aload_n 1, 1) := by decide +kernel
theorem dX6_readStone_1 : decode cX6_readStone 1 = .ok (.getfield 100, 3) := by decide +kernel
theorem dX6_readStone_4 : decode cX6_readStone 4 = .ok (.bipush 8, 2) := by decide +kernel
theorem dX6_readStone_6 : decode cX6_readStone 6 = .ok (.if_icmp .lt 14, 3) := by decide +kernel
theorem dX6_readStone_9 : decode cX6_readStone 9 = .ok (.aload_n 0, 1) := by decide +kernel
theorem dX6_readStone_10 : decode cX6_readStone 10 = .ok (.getfield 20, 3) := by decide +kernel
theorem dX6_readStone_13 : decode cX6_readStone 13 = .ok (.bipush 6, 2) := by decide +kernel
theorem dX6_readStone_15 : decode cX6_readStone 15 = .ok (.invokevirtual 83, 3) := by decide +kernel
theorem dX6_readStone_18 : decode cX6_readStone 18 = .ok (.pop, 1) := by decide +kernel
theorem dX6_readStone_19 : decode cX6_readStone 19 = .ok (.return_, 1) := by decide +kernel
theorem dX6_readStone_20 : decode cX6_readStone 20 = .ok (.aload_n 0, 1) := by decide +kernel
theorem dX6_readStone_21 : decode cX6_readStone 21 = .ok (.getfield 20, 3) := by decide +kernel
theorem dX6_readStone_24 : decode cX6_readStone 24 = .ok (.invokevirtual 87, 3) := by decide +kernel
theorem dX6_readStone_27 : decode cX6_readStone 27 = .ok (.aload_n 0, 1) := by decide +kernel
theorem dX6_readStone_28 : decode cX6_readStone 28 = .ok (.getfield 20, 3) := by decide +kernel
theorem dX6_readStone_31 : decode cX6_readStone 31 = .ok (.getstatic 103, 3) := by decide +kernel
theorem dX6_readStone_34 : decode cX6_readStone 34 = .ok (.invokevirtual 106, 3) := by decide +kernel
theorem dX6_readStone_37 : decode cX6_readStone 37 = .ok (.aload_n 0, 1) := by decide +kernel
theorem dX6_readStone_38 : decode cX6_readStone 38 = .ok (.getfield 20, 3) := by decide +kernel
theorem dX6_readStone_41 : decode cX6_readStone 41 = .ok (.iconst 0, 1) := by decide +kernel
theorem dX6_readStone_42 : decode cX6_readStone 42 = .ok (.bipush 9, 2) := by decide +kernel
theorem dX6_readStone_44 : decode cX6_readStone 44 = .ok (.invokevirtual 90, 3) := by decide +kernel
theorem dX6_readStone_47 : decode cX6_readStone 47 = .ok (.istore_n 2, 1) := by decide +kernel
theorem dX6_readStone_48 : decode cX6_readStone 48 = .ok (.aload_n 0, 1) := by decide +kernel
theorem dX6_readStone_49 : decode cX6_readStone 49 = .ok (.getfield 20, 3) := by decide +kernel
theorem dX6_readStone_52 : decode cX6_readStone 52 = .ok (.getstatic 110, 3) := by decide +kernel
theorem dX6_readStone_55 : decode cX6_readStone 55 = .ok (.invokevirtual 106, 3) := by decide +kernel
theorem dX6_readStone_58 : decode cX6_readStone 58 = .ok (.aload_n 0, 1) := by decide +kernel
theorem dX6_readStone_59 : decode cX6_readStone 59 = .ok (.getfield 20, 3) := by decide +kernel
theorem dX6_readStone_62 : decode cX6_readStone 62 = .ok (.iconst 1, 1) := by decide +kernel
theorem dX6_readStone_63 : decode cX6_readStone 63 = .ok (.bipush 9, 2) := by decide +kernel
theorem dX6_readStone_65 : decode cX6_readStone 65 = .ok (.invokevirtual 90, 3) := by decide +kernel
theorem dX6_readStone_68 : decode cX6_readStone 68 = .ok (.istore_n 3, 1) := by decide +kernel
theorem dX6_readStone_69 : decode cX6_readStone 69 = .ok (.aload_n 0, 1) := by decide +kernel
theorem dX6_readStone_70 : decode cX6_readStone 70 = .ok (.getfield 20, 3) := by decide +kernel
theorem dX6_readStone_73 : decode cX6_readStone 73 = .ok (.getstatic 113, 3) := by decide +kernel
theorem dX6_readStone_76 : decode cX6_readStone 76 = .ok (.invokevirtual 116, 3) := by decide +kernel
theorem dX6_readStone_79 : decode cX6_readStone 79 = .ok (.ifCond .eq 11, 3) := by decide +kernel
theorem dX6_readStone_82 : decode cX6_readStone 82 = .ok (.aload_n 0, 1) := by decide +kernel
theorem dX6_readStone_83 : decode cX6_readStone 83 = .ok (.aload_n 1, 1) := by decide +kernel
theorem dX6_readStone_84 : decode cX6_readStone 84 = .ok (.invokevirtual 119, 3) := by decide +kernel
theorem dX6_readStone_87 : decode cX6_readStone 87 = .ok (.goto 4, 3) := by decide +kernel
theorem dX6_readStone_90 : decode cX6_readStone 90 = .ok (.iconst 0, 1) := by decide +kernel
theorem dX6_readStone_91 : decode cX6_readStone 91 = .ok (.istore 4, 2) := by decide +kernel
theorem dX6_readStone_93 : decode cX6_readStone 93 = .ok (.aload_n 0, 1) := by decide +kernel
theorem dX6_readStone_94 : decode cX6_readStone 94 = .ok (.getfield 20, 3) := by decide +kernel
theorem dX6_readStone_97 : decode cX6_readStone 97 = .ok (.invokevirtual 97, 3) := by decide +kernel
theorem dX6_readStone_100 : decode cX6_readStone 100 = .ok (.aload_n 0, 1) := by decide +kernel
theorem dX6_readStone_101 : decode cX6_readStone 101 = .ok (.getfield 20, 3) := by decide +kernel
theorem dX6_readStone_104 : decode cX6_readStone 104 = .ok (.getfield 37, 3) := by decide +kernel
theorem dX6_readStone_107 : decode cX6_readStone 107 = .ok (.ifCond .ne 11, 3) := by decide +kernel
theorem dX6_readStone_110 : decode cX6_readStone 110 = .ok (.aload_n 1, 1) := by decide +kernel
theorem dX6_readStone_111 : decode cX6_readStone 111 = .ok (.iload_n 2, 1) := by decide +kernel
theorem dX6_readStone_112 : decode cX6_readStone 112 = .ok (.iload_n 3, 1) := by decide +kernel
theorem dX6_readStone_113 : decode cX6_readStone 113 = .ok (.iload 4, 2) := by decide +kernel
theorem dX6_readStone_115 : decode cX6_readStone 115 = .ok (.invokevirtual 123, 3) := by decide +kernel
theorem dX6_readStone_118 : decode cX6_readStone 118 = .ok (.return_, 1) := by decide +kernel
def qX6_readStone_b118  (post : St → St → St → St → Prop)  (u0 : St) (u1 : St) (u2 : St) (u3 : St) : Prop := post u0 u1 u2 u3
set_option maxRecDepth 100000 in
set_option maxHeartbeats 4000000 in
theorem kX6_readStone_b118 {C : Cx} {o0 : Nat} {a0 : Nat → Nat} {a1 : Nat → Nat} {o3 : Nat} {a3 : Nat → Nat} (hC : Fx C cX6_readStone 5 RX6) (hR0 : xR C = rm 5) {post : St → St → St → St → Prop} (hR : RV C cX6_readStone 5 (fun u : St × St × St × St => (wX6 o0 a0 (xy C) u.1 (wX8 (a0 0) a1 (xy C) u.2.1 (wT (a1 0) (xy C) u.2.2.1 (wX2 o3 a3 (xy C) u.2.2.2 []))))) (fun u => post u.1 u.2.1 u.2.2.1 u.2.2.2))  {u0 : St} {u1 : St} {u2 : St} {u3 : St} (h : qX6_readStone_b118 post u0 u1 u2 u3) : G C 0 0 5 (wX6 o0 a0 (xy C) u0 (wX8 (a0 0) a1 (xy C) u1 (wT (a1 0) (xy C) u2 (wX2 o3 a3 (xy C) u3 [])))) 118 [] [] := by
  exact hR _ _ (u0, u1, u2, u3) dX6_readStone_118 h
def qX6_readStone_b91  (post : St → St → St → St → Prop)  (x2 : Int32) (x3 : Int32) (s0 : Int32) (u0 : St) (u1 : St) (u2 : St) (u3 : St) : Prop := qX8_takeSemicolon u1 u2 (fun u_37 u_38 => ((¬ (gi u_37 8) = 0 → qX6_readStone_b118 post u0 u_37 u_38 u3) ∧ ((gi u_37 8) = 0 → qX2_addStone x2 x3 s0 u3 (fun u_41 => qX6_readStone_b118 post u0 u_37 u_38 u_41))))
set_option maxRecDepth 100000 in
set_option maxHeartbeats 4000000 in
theorem kX6_readStone_b91 {C : Cx} {o0 : Nat} {a0 : Nat → Nat} {a1 : Nat → Nat} {o3 : Nat} {a3 : Nat → Nat} (hC : Fx C cX6_readStone 5 RX6) (hR0 : xR C = rm 5) {post : St → St → St → St → Prop} (hR : RV C cX6_readStone 5 (fun u : St × St × St × St => (wX6 o0 a0 (xy C) u.1 (wX8 (a0 0) a1 (xy C) u.2.1 (wT (a1 0) (xy C) u.2.2.1 (wX2 o3 a3 (xy C) u.2.2.2 []))))) (fun u => post u.1 u.2.1 u.2.2.1 u.2.2.2))  {x2 : Int32} {x3 : Int32} {s0 : Int32} {u0 : St} {u1 : St} {u2 : St} {u3 : St} (h : qX6_readStone_b91 post x2 x3 s0 u0 u1 u2 u3) : G C 0 0 5 (wX6 o0 a0 (xy C) u0 (wX8 (a0 0) a1 (xy C) u1 (wT (a1 0) (xy C) u2 (wX2 o3 a3 (xy C) u3 [])))) 91 [(0, .ref o0), (1, .ref o3), (2, .int x2), (3, .int x3)] [.int s0] := by
  refine g_istore (pc := 91) (lv' := [(4, .int s0), (0, .ref o0), (1, .ref o3), (2, .int x2), (3, .int x3)]) hC dX6_readStone_91 (Nat.le_of_ble_eq_true rfl) rfl ?_
  refine g_aload_n (pc := 93) hC 1 dX6_readStone_93 rfl rfl ?_
  refine getX6_0 (pc := 94) hC (F := fun Z => Z) (X := []) (fun _ => rfl) fl_X6_20 dX6_readStone_94 ?_
  refine g_callV_v (pc := 97) (wd := fun (u : St × St) Y => (wX8 (a0 0) a1 (xy C) u.1 (wT (a1 0) (xy C) u.2 Y))) (F := fun Z => (wX6 o0 a0 (xy C) u0 Z)) (X := (wX6 o0 a0 (xy C) u0 [])) (As := []) (rest := []) (u := (u1, u2)) hC (fun _ _ => rfl) (fun _ => rfl) (ctX8_takeSemicolon h) wvX8_takeSemicolon ml_X6_97 (ci := 7) (q0 := 0) rfl rfl rfl rfl (rmok hR0 rfl) ⟨Nat.zero_le _, Nat.zero_le _⟩ rfl (Nat.le_of_ble_eq_true rfl) dX6_readStone_97 (fun u_39 h => ?_)
  obtain ⟨u_37, u_38⟩ := u_39
  refine g_aload_n (pc := 100) hC 1 dX6_readStone_100 rfl rfl ?_
  refine getX6_0 (pc := 101) hC (F := fun Z => Z) (X := []) (fun _ => rfl) fl_X6_20 dX6_readStone_101 ?_
  refine getX8_8 (pc := 104) hC (F := fun Z => (wX6 o0 a0 (xy C) u0 Z)) (X := (wX6 o0 a0 (xy C) u0 [])) (fun _ => rfl) fl_X6_37 dX6_readStone_104 ?_
  refine g_if_ne (pc := 107) (tgt := 118) hC dX6_readStone_107 (by decide) (fun c_40 => ?_) (fun c_40 => ?_)
  · have h := h.1 c_40
    refine g_sub (lv' := []) [] rfl ?_
    exact kX6_readStone_b118 hC hR0 hR  h
  · have h := h.2 c_40
    refine g_aload_n (pc := 110) hC 2 dX6_readStone_110 rfl rfl ?_
    refine g_iload_n (pc := 111) hC 3 dX6_readStone_111 rfl rfl ?_
    refine g_iload_n (pc := 112) hC 4 dX6_readStone_112 rfl rfl ?_
    refine g_iload (pc := 113) hC 0 dX6_readStone_113 rfl ?_
    refine g_callV_v (pc := 115) (wd := fun (u : St) Y => (wX2 o3 a3 (xy C) u Y)) (F := fun Z => (wX6 o0 a0 (xy C) u0 (wX8 (a0 0) a1 (xy C) u_37 (wT (a1 0) (xy C) u_38 Z)))) (X := (wX6 o0 a0 (xy C) u0 (wX8 (a0 0) a1 (xy C) u_37 (wT (a1 0) (xy C) u_38 [])))) (As := [.int x2, .int x3, .int s0]) (rest := []) (u := u3) hC (fun _ _ => rfl) (fun _ => rfl) (ctX2_addStone h) wvX2_addStone ml_X6_123 (ci := 1) (q0 := 0) rfl rfl rfl rfl (rmok hR0 rfl) ⟨Nat.zero_le _, Nat.zero_le _⟩ rfl (Nat.le_of_ble_eq_true rfl) dX6_readStone_115 (fun u_41 h => ?_)
    refine g_sub (lv' := []) [] rfl ?_
    exact kX6_readStone_b118 hC hR0 hR  h
def qX6_readStone  (u0 : St) (u1 : St) (u2 : St) (u3 : St) (post : St → St → St → St → Prop) : Prop := (((gi u3 0) < (8 : Int32) → qX8_advance u1 u2 (fun u_44 u_45 => qX8_take 2 u_44 u_45 (fun u_47 u_48 => qX8_takeNumber (0 : Int32) (9 : Int32) u_47 u_48 (fun r_52 u_50 u_51 => qX8_take 3 u_50 u_51 (fun u_54 u_55 => qX8_takeNumber (1 : Int32) (9 : Int32) u_54 u_55 (fun r_59 u_57 u_58 => qX8_takeIf 4 u_57 u_58 (fun r_63 u_61 u_62 => ((r_63 = 0 → qX6_readStone_b91 post r_52 r_59 (0 : Int32) u0 u_61 u_62 u3) ∧ (¬ r_63 = 0 → qX6_readOn u0 u_61 u_62 u3 (fun r_70 u_66 u_67 u_68 u_69 => qX6_readStone_b91 post r_52 r_59 r_70 u_66 u_67 u_68 u_69)))))))))) ∧ (¬ (gi u3 0) < (8 : Int32) → qX8_fail (6 : Int32) u1 u2 (fun r_74 u_72 u_73 => post u0 u_72 u_73 u3)))
set_option maxRecDepth 100000 in
set_option maxHeartbeats 4000000 in
theorem kX6_readStone {C : Cx} {o0 : Nat} {a0 : Nat → Nat} {a1 : Nat → Nat} {o3 : Nat} {a3 : Nat → Nat} (hC : Fx C cX6_readStone 5 RX6) (hR0 : xR C = rm 5) {post : St → St → St → St → Prop} (hR : RV C cX6_readStone 5 (fun u : St × St × St × St => (wX6 o0 a0 (xy C) u.1 (wX8 (a0 0) a1 (xy C) u.2.1 (wT (a1 0) (xy C) u.2.2.1 (wX2 o3 a3 (xy C) u.2.2.2 []))))) (fun u => post u.1 u.2.1 u.2.2.1 u.2.2.2))  {u0 : St} {u1 : St} {u2 : St} {u3 : St} (h : qX6_readStone  u0 u1 u2 u3 post) : G C 0 0 5 (wX6 o0 a0 (xy C) u0 (wX8 (a0 0) a1 (xy C) u1 (wT (a1 0) (xy C) u2 (wX2 o3 a3 (xy C) u3 [])))) 0 [(0, .ref o0), (1, .ref o3)] [] := by
  refine g_aload_n (pc := 0) hC 1 dX6_readStone_0 rfl rfl ?_
  refine getX2_0 (pc := 1) hC (F := fun Z => (wX6 o0 a0 (xy C) u0 (wX8 (a0 0) a1 (xy C) u1 (wT (a1 0) (xy C) u2 Z)))) (X := (wX6 o0 a0 (xy C) u0 (wX8 (a0 0) a1 (xy C) u1 (wT (a1 0) (xy C) u2 [])))) (fun _ => rfl) fl_X6_100 dX6_readStone_1 ?_
  refine g_bipush (pc := 4) (v := 8) hC dX6_readStone_4 (by decide) ?_
  refine g_icmp_lt (pc := 6) (tgt := 20) hC dX6_readStone_6 (by decide) (fun c_43 => ?_) (fun c_43 => ?_)
  · have h := h.1 c_43
    refine g_aload_n (pc := 20) hC 0 dX6_readStone_20 rfl rfl ?_
    refine getX6_0 (pc := 21) hC (F := fun Z => Z) (X := []) (fun _ => rfl) fl_X6_20 dX6_readStone_21 ?_
    refine g_callV_v (pc := 24) (wd := fun (u : St × St) Y => (wX8 (a0 0) a1 (xy C) u.1 (wT (a1 0) (xy C) u.2 Y))) (F := fun Z => (wX6 o0 a0 (xy C) u0 Z)) (X := (wX6 o0 a0 (xy C) u0 [])) (As := []) (rest := []) (u := (u1, u2)) hC (fun _ _ => rfl) (fun _ => rfl) (ctX8_advance h) wvX8_advance ml_X6_87 (ci := 7) (q0 := 0) rfl rfl rfl rfl (rmok hR0 rfl) ⟨Nat.zero_le _, Nat.zero_le _⟩ rfl (Nat.le_of_ble_eq_true rfl) dX6_readStone_24 (fun u_46 h => ?_)
    obtain ⟨u_44, u_45⟩ := u_46
    refine g_aload_n (pc := 27) hC 0 dX6_readStone_27 rfl rfl ?_
    refine getX6_0 (pc := 28) hC (F := fun Z => Z) (X := []) (fun _ => rfl) fl_X6_20 dX6_readStone_28 ?_
    refine g_gets (pc := 31) hC 2 (Nat.le_of_ble_eq_true rfl) fl_X6_103 dX6_readStone_31 ?_
    refine g_callV_v (pc := 34) (wd := fun (u : St × St) Y => (wX8 (a0 0) a1 (xy C) u.1 (wT (a1 0) (xy C) u.2 Y))) (F := fun Z => (wX6 o0 a0 (xy C) u0 Z)) (X := (wX6 o0 a0 (xy C) u0 [])) (As := [.ref (xk C 2)]) (rest := []) (u := (u_44, u_45)) hC (fun _ _ => rfl) (fun _ => rfl) (ctX8_take h) wvX8_take ml_X6_106 (ci := 7) (q0 := 0) rfl rfl rfl rfl (rmok hR0 rfl) ⟨Nat.zero_le _, Nat.zero_le _⟩ rfl (Nat.le_of_ble_eq_true rfl) dX6_readStone_34 (fun u_49 h => ?_)
    obtain ⟨u_47, u_48⟩ := u_49
    refine g_aload_n (pc := 37) hC 0 dX6_readStone_37 rfl rfl ?_
    refine getX6_0 (pc := 38) hC (F := fun Z => Z) (X := []) (fun _ => rfl) fl_X6_20 dX6_readStone_38 ?_
    refine g_iconst (pc := 41) (v := 0) hC dX6_readStone_41 (by decide) ?_
    refine g_bipush (pc := 42) (v := 9) hC dX6_readStone_42 (by decide) ?_
    refine g_callV_i (pc := 44) (wd := fun (u : St × St) Y => (wX8 (a0 0) a1 (xy C) u.1 (wT (a1 0) (xy C) u.2 Y))) (F := fun Z => (wX6 o0 a0 (xy C) u0 Z)) (X := (wX6 o0 a0 (xy C) u0 [])) (As := [.int (0 : Int32), .int (9 : Int32)]) (rest := []) (u := (u_47, u_48)) hC (fun _ _ => rfl) (fun _ => rfl) (ctX8_takeNumber h) wvX8_takeNumber ml_X6_90 (ci := 7) (q0 := 0) rfl rfl rfl rfl (rmok hR0 rfl) ⟨Nat.zero_le _, Nat.zero_le _⟩ rfl (Nat.le_of_ble_eq_true rfl) dX6_readStone_44 (fun r_52 u_53 h => ?_)
    obtain ⟨u_50, u_51⟩ := u_53
    refine g_istore_n (pc := 47) (lv' := [(2, .int r_52), (0, .ref o0), (1, .ref o3)]) hC dX6_readStone_47 rfl (Nat.le_of_ble_eq_true rfl) rfl ?_
    refine g_aload_n (pc := 48) hC 1 dX6_readStone_48 rfl rfl ?_
    refine getX6_0 (pc := 49) hC (F := fun Z => Z) (X := []) (fun _ => rfl) fl_X6_20 dX6_readStone_49 ?_
    refine g_gets (pc := 52) hC 3 (Nat.le_of_ble_eq_true rfl) fl_X6_110 dX6_readStone_52 ?_
    refine g_callV_v (pc := 55) (wd := fun (u : St × St) Y => (wX8 (a0 0) a1 (xy C) u.1 (wT (a1 0) (xy C) u.2 Y))) (F := fun Z => (wX6 o0 a0 (xy C) u0 Z)) (X := (wX6 o0 a0 (xy C) u0 [])) (As := [.ref (xk C 3)]) (rest := []) (u := (u_50, u_51)) hC (fun _ _ => rfl) (fun _ => rfl) (ctX8_take h) wvX8_take ml_X6_106 (ci := 7) (q0 := 0) rfl rfl rfl rfl (rmok hR0 rfl) ⟨Nat.zero_le _, Nat.zero_le _⟩ rfl (Nat.le_of_ble_eq_true rfl) dX6_readStone_55 (fun u_56 h => ?_)
    obtain ⟨u_54, u_55⟩ := u_56
    refine g_aload_n (pc := 58) hC 1 dX6_readStone_58 rfl rfl ?_
    refine getX6_0 (pc := 59) hC (F := fun Z => Z) (X := []) (fun _ => rfl) fl_X6_20 dX6_readStone_59 ?_
    refine g_iconst (pc := 62) (v := 1) hC dX6_readStone_62 (by decide) ?_
    refine g_bipush (pc := 63) (v := 9) hC dX6_readStone_63 (by decide) ?_
    refine g_callV_i (pc := 65) (wd := fun (u : St × St) Y => (wX8 (a0 0) a1 (xy C) u.1 (wT (a1 0) (xy C) u.2 Y))) (F := fun Z => (wX6 o0 a0 (xy C) u0 Z)) (X := (wX6 o0 a0 (xy C) u0 [])) (As := [.int (1 : Int32), .int (9 : Int32)]) (rest := []) (u := (u_54, u_55)) hC (fun _ _ => rfl) (fun _ => rfl) (ctX8_takeNumber h) wvX8_takeNumber ml_X6_90 (ci := 7) (q0 := 0) rfl rfl rfl rfl (rmok hR0 rfl) ⟨Nat.zero_le _, Nat.zero_le _⟩ rfl (Nat.le_of_ble_eq_true rfl) dX6_readStone_65 (fun r_59 u_60 h => ?_)
    obtain ⟨u_57, u_58⟩ := u_60
    refine g_istore_n (pc := 68) (lv' := [(3, .int r_59), (2, .int r_52), (0, .ref o0), (1, .ref o3)]) hC dX6_readStone_68 rfl (Nat.le_of_ble_eq_true rfl) rfl ?_
    refine g_aload_n (pc := 69) hC 2 dX6_readStone_69 rfl rfl ?_
    refine getX6_0 (pc := 70) hC (F := fun Z => Z) (X := []) (fun _ => rfl) fl_X6_20 dX6_readStone_70 ?_
    refine g_gets (pc := 73) hC 4 (Nat.le_of_ble_eq_true rfl) fl_X6_113 dX6_readStone_73 ?_
    refine g_callV_i (pc := 76) (wd := fun (u : St × St) Y => (wX8 (a0 0) a1 (xy C) u.1 (wT (a1 0) (xy C) u.2 Y))) (F := fun Z => (wX6 o0 a0 (xy C) u0 Z)) (X := (wX6 o0 a0 (xy C) u0 [])) (As := [.ref (xk C 4)]) (rest := []) (u := (u_57, u_58)) hC (fun _ _ => rfl) (fun _ => rfl) (ctX8_takeIf h) wvX8_takeIf ml_X6_116 (ci := 7) (q0 := 0) rfl rfl rfl rfl (rmok hR0 rfl) ⟨Nat.zero_le _, Nat.zero_le _⟩ rfl (Nat.le_of_ble_eq_true rfl) dX6_readStone_76 (fun r_63 u_64 h => ?_)
    obtain ⟨u_61, u_62⟩ := u_64
    refine g_if_eq (pc := 79) (tgt := 90) hC dX6_readStone_79 (by decide) (fun c_65 => ?_) (fun c_65 => ?_)
    · have h := h.1 c_65
      refine g_iconst (pc := 90) (v := 0) hC dX6_readStone_90 (by decide) ?_
      refine g_sub (lv' := [(0, .ref o0), (1, .ref o3), (2, .int r_52), (3, .int r_59)]) [2, 3, 1, 0] rfl ?_
      exact kX6_readStone_b91 hC hR0 hR  h
    · have h := h.2 c_65
      refine g_aload_n (pc := 82) hC 2 dX6_readStone_82 rfl rfl ?_
      refine g_aload_n (pc := 83) hC 3 dX6_readStone_83 rfl rfl ?_
      refine g_callV_i (pc := 84) (wd := fun (u : St × St × St × St) Y => (wX6 o0 a0 (xy C) u.1 (wX8 (a0 0) a1 (xy C) u.2.1 (wT (a1 0) (xy C) u.2.2.1 (wX2 o3 a3 (xy C) u.2.2.2 Y))))) (F := fun Z => Z) (X := []) (As := [.ref o3]) (rest := []) (u := (u0, u_61, u_62, u3)) hC (fun _ _ => rfl) (fun _ => rfl) (ctX6_readOn h) wvX6_readOn ml_X6_119 (ci := 5) (q0 := 0) rfl rfl rfl rfl (rmok hR0 rfl) ⟨Nat.zero_le _, Nat.zero_le _⟩ rfl (Nat.le_of_ble_eq_true rfl) dX6_readStone_84 (fun r_70 u_71 h => ?_)
      obtain ⟨u_66, u_67, u_68, u_69⟩ := u_71
      refine g_goto (pc := 87) (tgt := 91) hC dX6_readStone_87 (by decide) ?_
      refine g_sub (lv' := [(0, .ref o0), (1, .ref o3), (2, .int r_52), (3, .int r_59)]) [2, 3, 1, 0] rfl ?_
      exact kX6_readStone_b91 hC hR0 hR  h
  · have h := h.2 c_43
    refine g_aload_n (pc := 9) hC 0 dX6_readStone_9 rfl rfl ?_
    refine getX6_0 (pc := 10) hC (F := fun Z => Z) (X := []) (fun _ => rfl) fl_X6_20 dX6_readStone_10 ?_
    refine g_bipush (pc := 13) (v := 6) hC dX6_readStone_13 (by decide) ?_
    refine g_callV_i (pc := 15) (wd := fun (u : St × St) Y => (wX8 (a0 0) a1 (xy C) u.1 (wT (a1 0) (xy C) u.2 Y))) (F := fun Z => (wX6 o0 a0 (xy C) u0 Z)) (X := (wX6 o0 a0 (xy C) u0 [])) (As := [.int (6 : Int32)]) (rest := []) (u := (u1, u2)) hC (fun _ _ => rfl) (fun _ => rfl) (ctX8_fail h) wvX8_fail ml_X6_83 (ci := 7) (q0 := 0) rfl rfl rfl rfl (rmok hR0 rfl) ⟨Nat.zero_le _, Nat.zero_le _⟩ rfl (Nat.le_of_ble_eq_true rfl) dX6_readStone_15 (fun r_74 u_75 h => ?_)
    obtain ⟨u_72, u_73⟩ := u_75
    refine g_pop (pc := 18) hC dX6_readStone_18 rfl ?_
    exact hR _ _ (u0, u_72, u_73, u3) dX6_readStone_19 h
theorem ctX6_readStone {l : Launch} {D : va_G} {cy : Nat → ClassId} {kd : Nat → Nat} {o0 : Nat} {a0 : Nat → Nat} {a1 : Nat → Nat} {o3 : Nat} {a3 : Nat → Nat}  {u0 : St} {u1 : St} {u2 : St} {u3 : St} {post : St → St → St → St → Prop} (h : qX6_readStone  u0 u1 u2 u3 post) : CtV l D cy kd yX6_readStone cX6_readStone 5 5  [.ref o0, .ref o3] (fun u : St × St × St × St => (wX6 o0 a0 cy u.1 (wX8 (a0 0) a1 cy u.2.1 (wT (a1 0) cy u.2.2.1 (wX2 o3 a3 cy u.2.2.2 []))))) (u0, u1, u2, u3) (fun u => post u.1 u.2.1 u.2.2.1 u.2.2.2) := met_v (by decide) (Nat.le_of_ble_eq_true rfl) (fun C e1 e2 e3 e4 e5 hC hR => by subst e1 e2 e3 e4; exact kX6_readStone hC e5 hR h)
theorem dX6_readPerson_0 : decode cX6_readPerson 0 = .ok (.aload_n 1, 1) := by decide +kernel
theorem dX6_readPerson_1 : decode cX6_readPerson 1 = .ok (.getfield 142, 3) := by decide +kernel
theorem dX6_readPerson_4 : decode cX6_readPerson 4 = .ok (.iconst 5, 1) := by decide +kernel
theorem dX6_readPerson_5 : decode cX6_readPerson 5 = .ok (.if_icmp .lt 14, 3) := by decide +kernel
theorem dX6_readPerson_8 : decode cX6_readPerson 8 = .ok (.aload_n 0, 1) := by decide +kernel
theorem dX6_readPerson_9 : decode cX6_readPerson 9 = .ok (.getfield 20, 3) := by decide +kernel
theorem dX6_readPerson_12 : decode cX6_readPerson 12 = .ok (.bipush 6, 2) := by decide +kernel
theorem dX6_readPerson_14 : decode cX6_readPerson 14 = .ok (.invokevirtual 83, 3) := by decide +kernel
theorem dX6_readPerson_17 : decode cX6_readPerson 17 = .ok (.pop, 1) := by decide +kernel
theorem dX6_readPerson_18 : decode cX6_readPerson 18 = .ok (.return_, 1) := by decide +kernel
theorem dX6_readPerson_19 : decode cX6_readPerson 19 = .ok (.aload_n 0, 1) := by decide +kernel
theorem dX6_readPerson_20 : decode cX6_readPerson 20 = .ok (.getfield 20, 3) := by decide +kernel
theorem dX6_readPerson_23 : decode cX6_readPerson 23 = .ok (.invokevirtual 87, 3) := by decide +kernel
theorem dX6_readPerson_26 : decode cX6_readPerson 26 = .ok (.aload_n 0, 1) := by decide +kernel
theorem dX6_readPerson_27 : decode cX6_readPerson 27 = .ok (.getfield 20, 3) := by decide +kernel
theorem dX6_readPerson_30 : decode cX6_readPerson 30 = .ok (.invokevirtual 145, 3) := by decide +kernel
theorem dX6_readPerson_33 : decode cX6_readPerson 33 = .ok (.lstore_n 2, 1) := by decide +kernel
theorem dX6_readPerson_34 : decode cX6_readPerson 34 = .ok (.aload_n 0, 1) := by decide +kernel
theorem dX6_readPerson_35 : decode cX6_readPerson 35 = .ok (.getfield 20, 3) := by decide +kernel
theorem dX6_readPerson_38 : decode cX6_readPerson 38 = .ok (.invokevirtual 149, 3) := by decide +kernel
theorem dX6_readPerson_41 : decode cX6_readPerson 41 = .ok (.ifCond .ne 15, 3) := by decide +kernel
theorem dX6_readPerson_44 : decode cX6_readPerson 44 = .ok (.aload_n 0, 1) := by decide +kernel
theorem dX6_readPerson_45 : decode cX6_readPerson 45 = .ok (.getfield 20, 3) := by decide +kernel
theorem dX6_readPerson_48 : decode cX6_readPerson 48 = .ok (.iconst 2, 1) := by decide +kernel
theorem dX6_readPerson_49 : decode cX6_readPerson 49 = .ok (.invokevirtual 83, 3) := by decide +kernel
theorem dX6_readPerson_52 : decode cX6_readPerson 52 = .ok (.pop, 1) := by decide +kernel
theorem dX6_readPerson_53 : decode cX6_readPerson 53 = .ok (.goto 21, 3) := by decide +kernel
theorem dX6_readPerson_56 : decode cX6_readPerson 56 = .ok (.aload_n 1, 1) := by decide +kernel
theorem dX6_readPerson_57 : decode cX6_readPerson 57 = .ok (.lload_n 2, 1) := by decide +kernel
theorem dX6_readPerson_58 : decode cX6_readPerson 58 = .ok (.invokevirtual 152, 3) := by decide +kernel
theorem dX6_readPerson_61 : decode cX6_readPerson 61 = .ok (.iconst (-1), 1) := by decide +kernel
theorem dX6_readPerson_62 : decode cX6_readPerson 62 = .ok (.if_icmp .eq 12, 3) := by decide +kernel
theorem dX6_readPerson_65 : decode cX6_readPerson 65 = .ok (.aload_n 0, 1) := by decide +kernel
theorem dX6_readPerson_66 : decode cX6_readPerson 66 = .ok (.getfield 20, 3) := by decide +kernel
theorem dX6_readPerson_69 : decode cX6_readPerson 69 = .ok (.iconst 3, 1) := by decide +kernel
theorem dX6_readPerson_70 : decode cX6_readPerson 70 = .ok (.invokevirtual 83, 3) := by decide +kernel
theorem dX6_readPerson_73 : decode cX6_readPerson 73 = .ok (.pop, 1) := by decide +kernel
theorem dX6_readPerson_74 : decode cX6_readPerson 74 = .ok (.aload_n 0, 1) := by decide +kernel
theorem dX6_readPerson_75 : decode cX6_readPerson 75 = .ok (.getfield 20, 3) := by decide +kernel
theorem dX6_readPerson_78 : decode cX6_readPerson 78 = .ok (.invokevirtual 87, 3) := by decide +kernel
theorem dX6_readPerson_81 : decode cX6_readPerson 81 = .ok (.aload_n 0, 1) := by decide +kernel
theorem dX6_readPerson_82 : decode cX6_readPerson 82 = .ok (.getfield 20, 3) := by decide +kernel
theorem dX6_readPerson_85 : decode cX6_readPerson 85 = .ok (.getstatic 156, 3) := by decide +kernel
theorem dX6_readPerson_88 : decode cX6_readPerson 88 = .ok (.invokevirtual 106, 3) := by decide +kernel
theorem dX6_readPerson_91 : decode cX6_readPerson 91 = .ok (.aload_n 0, 1) := by decide +kernel
theorem dX6_readPerson_92 : decode cX6_readPerson 92 = .ok (.getfield 20, 3) := by decide +kernel
theorem dX6_readPerson_95 : decode cX6_readPerson 95 = .ok (.iconst 0, 1) := by decide +kernel
theorem dX6_readPerson_96 : decode cX6_readPerson 96 = .ok (.sipush 999, 3) := by decide +kernel
theorem dX6_readPerson_99 : decode cX6_readPerson 99 = .ok (.invokevirtual 90, 3) := by decide +kernel
theorem dX6_readPerson_102 : decode cX6_readPerson 102 = .ok (.istore 4, 2) := by decide +kernel
theorem dX6_readPerson_104 : decode cX6_readPerson 104 = .ok (.aload_n 0, 1) := by decide +kernel
theorem dX6_readPerson_105 : decode cX6_readPerson 105 = .ok (.getfield 20, 3) := by decide +kernel
theorem dX6_readPerson_108 : decode cX6_readPerson 108 = .ok (.invokevirtual 97, 3) := by decide +kernel
theorem dX6_readPerson_111 : decode cX6_readPerson 111 = .ok (.aload_n 0, 1) := by decide +kernel
theorem dX6_readPerson_112 : decode cX6_readPerson 112 = .ok (.getfield 20, 3) := by decide +kernel
theorem dX6_readPerson_115 : decode cX6_readPerson 115 = .ok (.getfield 37, 3) := by decide +kernel
theorem dX6_readPerson_118 : decode cX6_readPerson 118 = .ok (.ifCond .ne 10, 3) := by decide +kernel
theorem dX6_readPerson_121 : decode cX6_readPerson 121 = .ok (.aload_n 1, 1) := by decide +kernel
theorem dX6_readPerson_122 : decode cX6_readPerson 122 = .ok (.lload_n 2, 1) := by decide +kernel
theorem dX6_readPerson_123 : decode cX6_readPerson 123 = .ok (.iload 4, 2) := by decide +kernel
theorem dX6_readPerson_125 : decode cX6_readPerson 125 = .ok (.invokevirtual 159, 3) := by decide +kernel
theorem dX6_readPerson_128 : decode cX6_readPerson 128 = .ok (.return_, 1) := by decide +kernel
def qX6_readPerson_b128  (post : St → St → St → St → Prop)  (u0 : St) (u1 : St) (u2 : St) (u3 : St) : Prop := post u0 u1 u2 u3
set_option maxRecDepth 100000 in
set_option maxHeartbeats 4000000 in
theorem kX6_readPerson_b128 {C : Cx} {o0 : Nat} {a0 : Nat → Nat} {a1 : Nat → Nat} {o3 : Nat} {a3 : Nat → Nat} (hC : Fx C cX6_readPerson 5 RX6) (hR0 : xR C = rm 5) {post : St → St → St → St → Prop} (hR : RV C cX6_readPerson 5 (fun u : St × St × St × St => (wX6 o0 a0 (xy C) u.1 (wX8 (a0 0) a1 (xy C) u.2.1 (wT (a1 0) (xy C) u.2.2.1 (wX2 o3 a3 (xy C) u.2.2.2 []))))) (fun u => post u.1 u.2.1 u.2.2.1 u.2.2.2))  {u0 : St} {u1 : St} {u2 : St} {u3 : St} (h : qX6_readPerson_b128 post u0 u1 u2 u3) : G C 0 0 5 (wX6 o0 a0 (xy C) u0 (wX8 (a0 0) a1 (xy C) u1 (wT (a1 0) (xy C) u2 (wX2 o3 a3 (xy C) u3 [])))) 128 [] [] := by
  exact hR _ _ (u0, u1, u2, u3) dX6_readPerson_128 h
def qX6_readPerson_b74  (post : St → St → St → St → Prop)  (x2 : Int64) (u0 : St) (u1 : St) (u2 : St) (u3 : St) : Prop := qX8_advance u1 u2 (fun u_42 u_43 => qX8_take 6 u_42 u_43 (fun u_45 u_46 => qX8_takeNumber (0 : Int32) (999 : Int32) u_45 u_46 (fun r_50 u_48 u_49 => qX8_takeSemicolon u_48 u_49 (fun u_52 u_53 => ((¬ (gi u_52 8) = 0 → qX6_readPerson_b128 post u0 u_52 u_53 u3) ∧ ((gi u_52 8) = 0 → qX2_addPerson x2 r_50 u3 (fun u_56 => qX6_readPerson_b128 post u0 u_52 u_53 u_56)))))))
set_option maxRecDepth 100000 in
set_option maxHeartbeats 4000000 in
theorem kX6_readPerson_b74 {C : Cx} {o0 : Nat} {a0 : Nat → Nat} {a1 : Nat → Nat} {o3 : Nat} {a3 : Nat → Nat} (hC : Fx C cX6_readPerson 5 RX6) (hR0 : xR C = rm 5) {post : St → St → St → St → Prop} (hR : RV C cX6_readPerson 5 (fun u : St × St × St × St => (wX6 o0 a0 (xy C) u.1 (wX8 (a0 0) a1 (xy C) u.2.1 (wT (a1 0) (xy C) u.2.2.1 (wX2 o3 a3 (xy C) u.2.2.2 []))))) (fun u => post u.1 u.2.1 u.2.2.1 u.2.2.2))  {x2 : Int64} {u0 : St} {u1 : St} {u2 : St} {u3 : St} (h : qX6_readPerson_b74 post x2 u0 u1 u2 u3) : G C 0 0 5 (wX6 o0 a0 (xy C) u0 (wX8 (a0 0) a1 (xy C) u1 (wT (a1 0) (xy C) u2 (wX2 o3 a3 (xy C) u3 [])))) 74 [(0, .ref o0), (1, .ref o3), (2, .long x2)] [] := by
  refine g_aload_n (pc := 74) hC 0 dX6_readPerson_74 rfl rfl ?_
  refine getX6_0 (pc := 75) hC (F := fun Z => Z) (X := []) (fun _ => rfl) fl_X6_20 dX6_readPerson_75 ?_
  refine g_callV_v (pc := 78) (wd := fun (u : St × St) Y => (wX8 (a0 0) a1 (xy C) u.1 (wT (a1 0) (xy C) u.2 Y))) (F := fun Z => (wX6 o0 a0 (xy C) u0 Z)) (X := (wX6 o0 a0 (xy C) u0 [])) (As := []) (rest := []) (u := (u1, u2)) hC (fun _ _ => rfl) (fun _ => rfl) (ctX8_advance h) wvX8_advance ml_X6_87 (ci := 7) (q0 := 0) rfl rfl rfl rfl (rmok hR0 rfl) ⟨Nat.zero_le _, Nat.zero_le _⟩ rfl (Nat.le_of_ble_eq_true rfl) dX6_readPerson_78 (fun u_44 h => ?_)
  obtain ⟨u_42, u_43⟩ := u_44
  refine g_aload_n (pc := 81) hC 0 dX6_readPerson_81 rfl rfl ?_
  refine getX6_0 (pc := 82) hC (F := fun Z => Z) (X := []) (fun _ => rfl) fl_X6_20 dX6_readPerson_82 ?_
  refine g_gets (pc := 85) hC 6 (Nat.le_of_ble_eq_true rfl) fl_X6_156 dX6_readPerson_85 ?_
  refine g_callV_v (pc := 88) (wd := fun (u : St × St) Y => (wX8 (a0 0) a1 (xy C) u.1 (wT (a1 0) (xy C) u.2 Y))) (F := fun Z => (wX6 o0 a0 (xy C) u0 Z)) (X := (wX6 o0 a0 (xy C) u0 [])) (As := [.ref (xk C 6)]) (rest := []) (u := (u_42, u_43)) hC (fun _ _ => rfl) (fun _ => rfl) (ctX8_take h) wvX8_take ml_X6_106 (ci := 7) (q0 := 0) rfl rfl rfl rfl (rmok hR0 rfl) ⟨Nat.zero_le _, Nat.zero_le _⟩ rfl (Nat.le_of_ble_eq_true rfl) dX6_readPerson_88 (fun u_47 h => ?_)
  obtain ⟨u_45, u_46⟩ := u_47
  refine g_aload_n (pc := 91) hC 0 dX6_readPerson_91 rfl rfl ?_
  refine getX6_0 (pc := 92) hC (F := fun Z => Z) (X := []) (fun _ => rfl) fl_X6_20 dX6_readPerson_92 ?_
  refine g_iconst (pc := 95) (v := 0) hC dX6_readPerson_95 (by decide) ?_
  refine g_sipush (pc := 96) (v := 999) hC dX6_readPerson_96 (by decide) ?_
  refine g_callV_i (pc := 99) (wd := fun (u : St × St) Y => (wX8 (a0 0) a1 (xy C) u.1 (wT (a1 0) (xy C) u.2 Y))) (F := fun Z => (wX6 o0 a0 (xy C) u0 Z)) (X := (wX6 o0 a0 (xy C) u0 [])) (As := [.int (0 : Int32), .int (999 : Int32)]) (rest := []) (u := (u_45, u_46)) hC (fun _ _ => rfl) (fun _ => rfl) (ctX8_takeNumber h) wvX8_takeNumber ml_X6_90 (ci := 7) (q0 := 0) rfl rfl rfl rfl (rmok hR0 rfl) ⟨Nat.zero_le _, Nat.zero_le _⟩ rfl (Nat.le_of_ble_eq_true rfl) dX6_readPerson_99 (fun r_50 u_51 h => ?_)
  obtain ⟨u_48, u_49⟩ := u_51
  refine g_istore (pc := 102) (lv' := [(4, .int r_50), (0, .ref o0), (1, .ref o3), (2, .long x2)]) hC dX6_readPerson_102 (Nat.le_of_ble_eq_true rfl) rfl ?_
  refine g_aload_n (pc := 104) hC 1 dX6_readPerson_104 rfl rfl ?_
  refine getX6_0 (pc := 105) hC (F := fun Z => Z) (X := []) (fun _ => rfl) fl_X6_20 dX6_readPerson_105 ?_
  refine g_callV_v (pc := 108) (wd := fun (u : St × St) Y => (wX8 (a0 0) a1 (xy C) u.1 (wT (a1 0) (xy C) u.2 Y))) (F := fun Z => (wX6 o0 a0 (xy C) u0 Z)) (X := (wX6 o0 a0 (xy C) u0 [])) (As := []) (rest := []) (u := (u_48, u_49)) hC (fun _ _ => rfl) (fun _ => rfl) (ctX8_takeSemicolon h) wvX8_takeSemicolon ml_X6_97 (ci := 7) (q0 := 0) rfl rfl rfl rfl (rmok hR0 rfl) ⟨Nat.zero_le _, Nat.zero_le _⟩ rfl (Nat.le_of_ble_eq_true rfl) dX6_readPerson_108 (fun u_54 h => ?_)
  obtain ⟨u_52, u_53⟩ := u_54
  refine g_aload_n (pc := 111) hC 1 dX6_readPerson_111 rfl rfl ?_
  refine getX6_0 (pc := 112) hC (F := fun Z => Z) (X := []) (fun _ => rfl) fl_X6_20 dX6_readPerson_112 ?_
  refine getX8_8 (pc := 115) hC (F := fun Z => (wX6 o0 a0 (xy C) u0 Z)) (X := (wX6 o0 a0 (xy C) u0 [])) (fun _ => rfl) fl_X6_37 dX6_readPerson_115 ?_
  refine g_if_ne (pc := 118) (tgt := 128) hC dX6_readPerson_118 (by decide) (fun c_55 => ?_) (fun c_55 => ?_)
  · have h := h.1 c_55
    refine g_sub (lv' := []) [] rfl ?_
    exact kX6_readPerson_b128 hC hR0 hR  h
  · have h := h.2 c_55
    refine g_aload_n (pc := 121) hC 2 dX6_readPerson_121 rfl rfl ?_
    refine g_lload_n (pc := 122) hC 3 dX6_readPerson_122 rfl rfl ?_
    refine g_iload (pc := 123) hC 0 dX6_readPerson_123 rfl ?_
    refine g_callV_v (pc := 125) (wd := fun (u : St) Y => (wX2 o3 a3 (xy C) u Y)) (F := fun Z => (wX6 o0 a0 (xy C) u0 (wX8 (a0 0) a1 (xy C) u_52 (wT (a1 0) (xy C) u_53 Z)))) (X := (wX6 o0 a0 (xy C) u0 (wX8 (a0 0) a1 (xy C) u_52 (wT (a1 0) (xy C) u_53 [])))) (As := [.long x2, .int r_50]) (rest := []) (u := u3) hC (fun _ _ => rfl) (fun _ => rfl) (ctX2_addPerson h) wvX2_addPerson ml_X6_159 (ci := 1) (q0 := 0) rfl rfl rfl rfl (rmok hR0 rfl) ⟨Nat.zero_le _, Nat.zero_le _⟩ rfl (Nat.le_of_ble_eq_true rfl) dX6_readPerson_125 (fun u_56 h => ?_)
    refine g_sub (lv' := []) [] rfl ?_
    exact kX6_readPerson_b128 hC hR0 hR  h
def qX6_readPerson  (u0 : St) (u1 : St) (u2 : St) (u3 : St) (post : St → St → St → St → Prop) : Prop := (((gi u3 1) < (5 : Int32) → qX8_advance u1 u2 (fun u_59 u_60 => qX8_nameNow u_59 u_60 (fun r_64 u_62 u_63 => qX8_isAtName u_62 u_63 (fun r_68 u_66 u_67 => ((¬ r_68 = 0 → qX2_personNamed r_64 u3 (fun r_72 u_71 => ((r_72 = (-1 : Int32) → qX6_readPerson_b74 post r_64 u0 u_66 u_67 u_71) ∧ (¬ r_72 = (-1 : Int32) → qX8_fail (3 : Int32) u_66 u_67 (fun r_77 u_75 u_76 => qX6_readPerson_b74 post r_64 u0 u_75 u_76 u_71))))) ∧ (r_68 = 0 → qX8_fail (2 : Int32) u_66 u_67 (fun r_81 u_79 u_80 => qX6_readPerson_b74 post r_64 u0 u_79 u_80 u3))))))) ∧ (¬ (gi u3 1) < (5 : Int32) → qX8_fail (6 : Int32) u1 u2 (fun r_85 u_83 u_84 => post u0 u_83 u_84 u3)))
set_option maxRecDepth 100000 in
set_option maxHeartbeats 4000000 in
theorem kX6_readPerson {C : Cx} {o0 : Nat} {a0 : Nat → Nat} {a1 : Nat → Nat} {o3 : Nat} {a3 : Nat → Nat} (hC : Fx C cX6_readPerson 5 RX6) (hR0 : xR C = rm 5) {post : St → St → St → St → Prop} (hR : RV C cX6_readPerson 5 (fun u : St × St × St × St => (wX6 o0 a0 (xy C) u.1 (wX8 (a0 0) a1 (xy C) u.2.1 (wT (a1 0) (xy C) u.2.2.1 (wX2 o3 a3 (xy C) u.2.2.2 []))))) (fun u => post u.1 u.2.1 u.2.2.1 u.2.2.2))  {u0 : St} {u1 : St} {u2 : St} {u3 : St} (h : qX6_readPerson  u0 u1 u2 u3 post) : G C 0 0 5 (wX6 o0 a0 (xy C) u0 (wX8 (a0 0) a1 (xy C) u1 (wT (a1 0) (xy C) u2 (wX2 o3 a3 (xy C) u3 [])))) 0 [(0, .ref o0), (1, .ref o3)] [] := by
  refine g_aload_n (pc := 0) hC 1 dX6_readPerson_0 rfl rfl ?_
  refine getX2_1 (pc := 1) hC (F := fun Z => (wX6 o0 a0 (xy C) u0 (wX8 (a0 0) a1 (xy C) u1 (wT (a1 0) (xy C) u2 Z)))) (X := (wX6 o0 a0 (xy C) u0 (wX8 (a0 0) a1 (xy C) u1 (wT (a1 0) (xy C) u2 [])))) (fun _ => rfl) fl_X6_142 dX6_readPerson_1 ?_
  refine g_iconst (pc := 4) (v := 5) hC dX6_readPerson_4 (by decide) ?_
  refine g_icmp_lt (pc := 5) (tgt := 19) hC dX6_readPerson_5 (by decide) (fun c_58 => ?_) (fun c_58 => ?_)
  · have h := h.1 c_58
    refine g_aload_n (pc := 19) hC 0 dX6_readPerson_19 rfl rfl ?_
    refine getX6_0 (pc := 20) hC (F := fun Z => Z) (X := []) (fun _ => rfl) fl_X6_20 dX6_readPerson_20 ?_
    refine g_callV_v (pc := 23) (wd := fun (u : St × St) Y => (wX8 (a0 0) a1 (xy C) u.1 (wT (a1 0) (xy C) u.2 Y))) (F := fun Z => (wX6 o0 a0 (xy C) u0 Z)) (X := (wX6 o0 a0 (xy C) u0 [])) (As := []) (rest := []) (u := (u1, u2)) hC (fun _ _ => rfl) (fun _ => rfl) (ctX8_advance h) wvX8_advance ml_X6_87 (ci := 7) (q0 := 0) rfl rfl rfl rfl (rmok hR0 rfl) ⟨Nat.zero_le _, Nat.zero_le _⟩ rfl (Nat.le_of_ble_eq_true rfl) dX6_readPerson_23 (fun u_61 h => ?_)
    obtain ⟨u_59, u_60⟩ := u_61
    refine g_aload_n (pc := 26) hC 0 dX6_readPerson_26 rfl rfl ?_
    refine getX6_0 (pc := 27) hC (F := fun Z => Z) (X := []) (fun _ => rfl) fl_X6_20 dX6_readPerson_27 ?_
    refine g_callV_l (pc := 30) (wd := fun (u : St × St) Y => (wX8 (a0 0) a1 (xy C) u.1 (wT (a1 0) (xy C) u.2 Y))) (F := fun Z => (wX6 o0 a0 (xy C) u0 Z)) (X := (wX6 o0 a0 (xy C) u0 [])) (As := []) (rest := []) (u := (u_59, u_60)) hC (fun _ _ => rfl) (fun _ => rfl) (ctX8_nameNow h) wvX8_nameNow ml_X6_145 (ci := 7) (q0 := 0) rfl rfl rfl rfl (rmok hR0 rfl) ⟨Nat.zero_le _, Nat.zero_le _⟩ rfl (Nat.le_of_ble_eq_true rfl) dX6_readPerson_30 (fun r_64 u_65 h => ?_)
    obtain ⟨u_62, u_63⟩ := u_65
    refine g_lstore_n (pc := 33) (lv' := [(2, .long r_64), (0, .ref o0), (1, .ref o3)]) hC dX6_readPerson_33 rfl (Nat.le_of_ble_eq_true rfl) rfl ?_
    refine g_aload_n (pc := 34) hC 1 dX6_readPerson_34 rfl rfl ?_
    refine getX6_0 (pc := 35) hC (F := fun Z => Z) (X := []) (fun _ => rfl) fl_X6_20 dX6_readPerson_35 ?_
    refine g_callV_i (pc := 38) (wd := fun (u : St × St) Y => (wX8 (a0 0) a1 (xy C) u.1 (wT (a1 0) (xy C) u.2 Y))) (F := fun Z => (wX6 o0 a0 (xy C) u0 Z)) (X := (wX6 o0 a0 (xy C) u0 [])) (As := []) (rest := []) (u := (u_62, u_63)) hC (fun _ _ => rfl) (fun _ => rfl) (ctX8_isAtName h) wvX8_isAtName ml_X6_149 (ci := 7) (q0 := 0) rfl rfl rfl rfl (rmok hR0 rfl) ⟨Nat.zero_le _, Nat.zero_le _⟩ rfl (Nat.le_of_ble_eq_true rfl) dX6_readPerson_38 (fun r_68 u_69 h => ?_)
    obtain ⟨u_66, u_67⟩ := u_69
    refine g_if_ne (pc := 41) (tgt := 56) hC dX6_readPerson_41 (by decide) (fun c_70 => ?_) (fun c_70 => ?_)
    · have h := h.1 c_70
      refine g_aload_n (pc := 56) hC 2 dX6_readPerson_56 rfl rfl ?_
      refine g_lload_n (pc := 57) hC 0 dX6_readPerson_57 rfl rfl ?_
      refine g_callV_i (pc := 58) (wd := fun (u : St) Y => (wX2 o3 a3 (xy C) u Y)) (F := fun Z => (wX6 o0 a0 (xy C) u0 (wX8 (a0 0) a1 (xy C) u_66 (wT (a1 0) (xy C) u_67 Z)))) (X := (wX6 o0 a0 (xy C) u0 (wX8 (a0 0) a1 (xy C) u_66 (wT (a1 0) (xy C) u_67 [])))) (As := [.long r_64]) (rest := []) (u := u3) hC (fun _ _ => rfl) (fun _ => rfl) (ctX2_personNamed h) wvX2_personNamed ml_X6_152 (ci := 1) (q0 := 0) rfl rfl rfl rfl (rmok hR0 rfl) ⟨Nat.zero_le _, Nat.zero_le _⟩ rfl (Nat.le_of_ble_eq_true rfl) dX6_readPerson_58 (fun r_72 u_71 h => ?_)
      refine g_iconst (pc := 61) (v := -1) hC dX6_readPerson_61 (by decide) ?_
      refine g_icmp_eq (pc := 62) (tgt := 74) hC dX6_readPerson_62 (by decide) (fun c_74 => ?_) (fun c_74 => ?_)
      · have h := h.1 c_74
        refine g_sub (lv' := [(0, .ref o0), (1, .ref o3), (2, .long r_64)]) [1, 2, 0] rfl ?_
        exact kX6_readPerson_b74 hC hR0 hR  h
      · have h := h.2 c_74
        refine g_aload_n (pc := 65) hC 1 dX6_readPerson_65 rfl rfl ?_
        refine getX6_0 (pc := 66) hC (F := fun Z => Z) (X := []) (fun _ => rfl) fl_X6_20 dX6_readPerson_66 ?_
        refine g_iconst (pc := 69) (v := 3) hC dX6_readPerson_69 (by decide) ?_
        refine g_callV_i (pc := 70) (wd := fun (u : St × St) Y => (wX8 (a0 0) a1 (xy C) u.1 (wT (a1 0) (xy C) u.2 Y))) (F := fun Z => (wX6 o0 a0 (xy C) u0 Z)) (X := (wX6 o0 a0 (xy C) u0 [])) (As := [.int (3 : Int32)]) (rest := []) (u := (u_66, u_67)) hC (fun _ _ => rfl) (fun _ => rfl) (ctX8_fail h) wvX8_fail ml_X6_83 (ci := 7) (q0 := 0) rfl rfl rfl rfl (rmok hR0 rfl) ⟨Nat.zero_le _, Nat.zero_le _⟩ rfl (Nat.le_of_ble_eq_true rfl) dX6_readPerson_70 (fun r_77 u_78 h => ?_)
        obtain ⟨u_75, u_76⟩ := u_78
        refine g_pop (pc := 73) hC dX6_readPerson_73 rfl ?_
        refine g_sub (lv' := [(0, .ref o0), (1, .ref o3), (2, .long r_64)]) [1, 2, 0] rfl ?_
        exact kX6_readPerson_b74 hC hR0 hR  h
    · have h := h.2 c_70
      refine g_aload_n (pc := 44) hC 1 dX6_readPerson_44 rfl rfl ?_
      refine getX6_0 (pc := 45) hC (F := fun Z => Z) (X := []) (fun _ => rfl) fl_X6_20 dX6_readPerson_45 ?_
      refine g_iconst (pc := 48) (v := 2) hC dX6_readPerson_48 (by decide) ?_
      refine g_callV_i (pc := 49) (wd := fun (u : St × St) Y => (wX8 (a0 0) a1 (xy C) u.1 (wT (a1 0) (xy C) u.2 Y))) (F := fun Z => (wX6 o0 a0 (xy C) u0 Z)) (X := (wX6 o0 a0 (xy C) u0 [])) (As := [.int (2 : Int32)]) (rest := []) (u := (u_66, u_67)) hC (fun _ _ => rfl) (fun _ => rfl) (ctX8_fail h) wvX8_fail ml_X6_83 (ci := 7) (q0 := 0) rfl rfl rfl rfl (rmok hR0 rfl) ⟨Nat.zero_le _, Nat.zero_le _⟩ rfl (Nat.le_of_ble_eq_true rfl) dX6_readPerson_49 (fun r_81 u_82 h => ?_)
      obtain ⟨u_79, u_80⟩ := u_82
      refine g_pop (pc := 52) hC dX6_readPerson_52 rfl ?_
      refine g_goto (pc := 53) (tgt := 74) hC dX6_readPerson_53 (by decide) ?_
      refine g_sub (lv' := [(0, .ref o0), (1, .ref o3), (2, .long r_64)]) [1, 2, 0] rfl ?_
      exact kX6_readPerson_b74 hC hR0 hR  h
  · have h := h.2 c_58
    refine g_aload_n (pc := 8) hC 0 dX6_readPerson_8 rfl rfl ?_
    refine getX6_0 (pc := 9) hC (F := fun Z => Z) (X := []) (fun _ => rfl) fl_X6_20 dX6_readPerson_9 ?_
    refine g_bipush (pc := 12) (v := 6) hC dX6_readPerson_12 (by decide) ?_
    refine g_callV_i (pc := 14) (wd := fun (u : St × St) Y => (wX8 (a0 0) a1 (xy C) u.1 (wT (a1 0) (xy C) u.2 Y))) (F := fun Z => (wX6 o0 a0 (xy C) u0 Z)) (X := (wX6 o0 a0 (xy C) u0 [])) (As := [.int (6 : Int32)]) (rest := []) (u := (u1, u2)) hC (fun _ _ => rfl) (fun _ => rfl) (ctX8_fail h) wvX8_fail ml_X6_83 (ci := 7) (q0 := 0) rfl rfl rfl rfl (rmok hR0 rfl) ⟨Nat.zero_le _, Nat.zero_le _⟩ rfl (Nat.le_of_ble_eq_true rfl) dX6_readPerson_14 (fun r_85 u_86 h => ?_)
    obtain ⟨u_83, u_84⟩ := u_86
    refine g_pop (pc := 17) hC dX6_readPerson_17 rfl ?_
    exact hR _ _ (u0, u_83, u_84, u3) dX6_readPerson_18 h
theorem ctX6_readPerson {l : Launch} {D : va_G} {cy : Nat → ClassId} {kd : Nat → Nat} {o0 : Nat} {a0 : Nat → Nat} {a1 : Nat → Nat} {o3 : Nat} {a3 : Nat → Nat}  {u0 : St} {u1 : St} {u2 : St} {u3 : St} {post : St → St → St → St → Prop} (h : qX6_readPerson  u0 u1 u2 u3 post) : CtV l D cy kd yX6_readPerson cX6_readPerson 5 5  [.ref o0, .ref o3] (fun u : St × St × St × St => (wX6 o0 a0 cy u.1 (wX8 (a0 0) a1 cy u.2.1 (wT (a1 0) cy u.2.2.1 (wX2 o3 a3 cy u.2.2.2 []))))) (u0, u1, u2, u3) (fun u => post u.1 u.2.1 u.2.2.1 u.2.2.2) := met_v (by decide) (Nat.le_of_ble_eq_true rfl) (fun C e1 e2 e3 e4 e5 hC hR => by subst e1 e2 e3 e4; exact kX6_readPerson hC e5 hR h)
theorem dX6_takePerson_0 : decode cX6_takePerson 0 = .ok (.aload_n 0, 1) := by decide +kernel
theorem dX6_takePerson_1 : decode cX6_takePerson 1 = .ok (.getfield 20, 3) := by decide +kernel
theorem dX6_takePerson_4 : decode cX6_takePerson 4 = .ok (.invokevirtual 149, 3) := by decide +kernel
theorem dX6_takePerson_7 : decode cX6_takePerson 7 = .ok (.ifCond .ne 12, 3) := by decide +kernel
theorem dX6_takePerson_10 : decode cX6_takePerson 10 = .ok (.aload_n 0, 1) := by decide +kernel
theorem dX6_takePerson_11 : decode cX6_takePerson 11 = .ok (.getfield 20, 3) := by decide +kernel
theorem dX6_takePerson_14 : decode cX6_takePerson 14 = .ok (.iconst 2, 1) := by decide +kernel
theorem dX6_takePerson_15 : decode cX6_takePerson 15 = .ok (.invokevirtual 83, 3) := by decide +kernel
theorem dX6_takePerson_18 : decode cX6_takePerson 18 = .ok (.ireturn, 1) := by decide +kernel
theorem dX6_takePerson_19 : decode cX6_takePerson 19 = .ok (.aload_n 1, 1) := by decide +kernel
theorem dX6_takePerson_20 : decode cX6_takePerson 20 = .ok (.aload_n 0, 1) := by decide +kernel
theorem dX6_takePerson_21 : decode cX6_takePerson 21 = .ok (.getfield 20, 3) := by decide +kernel
theorem dX6_takePerson_24 : decode cX6_takePerson 24 = .ok (.invokevirtual 145, 3) := by decide +kernel
theorem dX6_takePerson_27 : decode cX6_takePerson 27 = .ok (.invokevirtual 152, 3) := by decide +kernel
theorem dX6_takePerson_30 : decode cX6_takePerson 30 = .ok (.istore_n 3, 1) := by decide +kernel
theorem dX6_takePerson_31 : decode cX6_takePerson 31 = .ok (.iload_n 3, 1) := by decide +kernel
theorem dX6_takePerson_32 : decode cX6_takePerson 32 = .ok (.iconst (-1), 1) := by decide +kernel
theorem dX6_takePerson_33 : decode cX6_takePerson 33 = .ok (.if_icmp .ne 12, 3) := by decide +kernel
theorem dX6_takePerson_36 : decode cX6_takePerson 36 = .ok (.aload_n 0, 1) := by decide +kernel
theorem dX6_takePerson_37 : decode cX6_takePerson 37 = .ok (.getfield 20, 3) := by decide +kernel
theorem dX6_takePerson_40 : decode cX6_takePerson 40 = .ok (.iconst 3, 1) := by decide +kernel
theorem dX6_takePerson_41 : decode cX6_takePerson 41 = .ok (.invokevirtual 83, 3) := by decide +kernel
theorem dX6_takePerson_44 : decode cX6_takePerson 44 = .ok (.ireturn, 1) := by decide +kernel
theorem dX6_takePerson_45 : decode cX6_takePerson 45 = .ok (.iload_n 3, 1) := by decide +kernel
theorem dX6_takePerson_46 : decode cX6_takePerson 46 = .ok (.iload_n 2, 1) := by decide +kernel
theorem dX6_takePerson_47 : decode cX6_takePerson 47 = .ok (.if_icmp .ne 12, 3) := by decide +kernel
theorem dX6_takePerson_50 : decode cX6_takePerson 50 = .ok (.aload_n 0, 1) := by decide +kernel
theorem dX6_takePerson_51 : decode cX6_takePerson 51 = .ok (.getfield 20, 3) := by decide +kernel
theorem dX6_takePerson_54 : decode cX6_takePerson 54 = .ok (.iconst 5, 1) := by decide +kernel
theorem dX6_takePerson_55 : decode cX6_takePerson 55 = .ok (.invokevirtual 83, 3) := by decide +kernel
theorem dX6_takePerson_58 : decode cX6_takePerson 58 = .ok (.ireturn, 1) := by decide +kernel
theorem dX6_takePerson_59 : decode cX6_takePerson 59 = .ok (.aload_n 0, 1) := by decide +kernel
theorem dX6_takePerson_60 : decode cX6_takePerson 60 = .ok (.getfield 20, 3) := by decide +kernel
theorem dX6_takePerson_63 : decode cX6_takePerson 63 = .ok (.invokevirtual 87, 3) := by decide +kernel
theorem dX6_takePerson_66 : decode cX6_takePerson 66 = .ok (.iload_n 3, 1) := by decide +kernel
theorem dX6_takePerson_67 : decode cX6_takePerson 67 = .ok (.ireturn, 1) := by decide +kernel
def qX6_takePerson (x2 : Int32) (u0 : St) (u1 : St) (u2 : St) (u3 : St) (post : Int32 → St → St → St → St → Prop) : Prop := qX8_isAtName u1 u2 (fun r_29 u_27 u_28 => ((¬ r_29 = 0 → qX8_nameNow u_27 u_28 (fun r_34 u_32 u_33 => qX2_personNamed r_34 u3 (fun r_37 u_36 => ((¬ r_37 = (-1 : Int32) → ((¬ r_37 = x2 → qX8_advance u_32 u_33 (fun u_41 u_42 => post r_37 u0 u_41 u_42 u_36)) ∧ (r_37 = x2 → qX8_fail (5 : Int32) u_32 u_33 (fun r_46 u_44 u_45 => post r_46 u0 u_44 u_45 u_36)))) ∧ (r_37 = (-1 : Int32) → qX8_fail (3 : Int32) u_32 u_33 (fun r_50 u_48 u_49 => post r_50 u0 u_48 u_49 u_36)))))) ∧ (r_29 = 0 → qX8_fail (2 : Int32) u_27 u_28 (fun r_54 u_52 u_53 => post r_54 u0 u_52 u_53 u3))))
set_option maxRecDepth 100000 in
set_option maxHeartbeats 4000000 in
theorem kX6_takePerson {C : Cx} {o0 : Nat} {a0 : Nat → Nat} {a1 : Nat → Nat} {o3 : Nat} {a3 : Nat → Nat} (hC : Fx C cX6_takePerson 4 RX6) (hR0 : xR C = rm 4) {post : Int32 → St → St → St → St → Prop} (hR : RI C cX6_takePerson 4 (fun u : St × St × St × St => (wX6 o0 a0 (xy C) u.1 (wX8 (a0 0) a1 (xy C) u.2.1 (wT (a1 0) (xy C) u.2.2.1 (wX2 o3 a3 (xy C) u.2.2.2 []))))) (fun r u => post r u.1 u.2.1 u.2.2.1 u.2.2.2)) {x2 : Int32} {u0 : St} {u1 : St} {u2 : St} {u3 : St} (h : qX6_takePerson x2 u0 u1 u2 u3 post) : G C 0 0 4 (wX6 o0 a0 (xy C) u0 (wX8 (a0 0) a1 (xy C) u1 (wT (a1 0) (xy C) u2 (wX2 o3 a3 (xy C) u3 [])))) 0 [(0, .ref o0), (1, .ref o3), (2, .int x2)] [] := by
  refine g_aload_n (pc := 0) hC 0 dX6_takePerson_0 rfl rfl ?_
  refine getX6_0 (pc := 1) hC (F := fun Z => Z) (X := []) (fun _ => rfl) fl_X6_20 dX6_takePerson_1 ?_
  refine g_callV_i (pc := 4) (wd := fun (u : St × St) Y => (wX8 (a0 0) a1 (xy C) u.1 (wT (a1 0) (xy C) u.2 Y))) (F := fun Z => (wX6 o0 a0 (xy C) u0 Z)) (X := (wX6 o0 a0 (xy C) u0 [])) (As := []) (rest := []) (u := (u1, u2)) hC (fun _ _ => rfl) (fun _ => rfl) (ctX8_isAtName h) wvX8_isAtName ml_X6_149 (ci := 7) (q0 := 0) rfl rfl rfl rfl (rmok hR0 rfl) ⟨Nat.zero_le _, Nat.zero_le _⟩ rfl (Nat.le_of_ble_eq_true rfl) dX6_takePerson_4 (fun r_29 u_30 h => ?_)
  obtain ⟨u_27, u_28⟩ := u_30
  refine g_if_ne (pc := 7) (tgt := 19) hC dX6_takePerson_7 (by decide) (fun c_31 => ?_) (fun c_31 => ?_)
  · have h := h.1 c_31
    refine g_aload_n (pc := 19) hC 1 dX6_takePerson_19 rfl rfl ?_
    refine g_aload_n (pc := 20) hC 0 dX6_takePerson_20 rfl rfl ?_
    refine getX6_0 (pc := 21) hC (F := fun Z => Z) (X := []) (fun _ => rfl) fl_X6_20 dX6_takePerson_21 ?_
    refine g_callV_l (pc := 24) (wd := fun (u : St × St) Y => (wX8 (a0 0) a1 (xy C) u.1 (wT (a1 0) (xy C) u.2 Y))) (F := fun Z => (wX6 o0 a0 (xy C) u0 Z)) (X := (wX6 o0 a0 (xy C) u0 [])) (As := []) (rest := [.ref o3]) (u := (u_27, u_28)) hC (fun _ _ => rfl) (fun _ => rfl) (ctX8_nameNow h) wvX8_nameNow ml_X6_145 (ci := 7) (q0 := 0) rfl rfl rfl rfl (rmok hR0 rfl) ⟨Nat.zero_le _, Nat.zero_le _⟩ rfl (Nat.le_of_ble_eq_true rfl) dX6_takePerson_24 (fun r_34 u_35 h => ?_)
    obtain ⟨u_32, u_33⟩ := u_35
    refine g_callV_i (pc := 27) (wd := fun (u : St) Y => (wX2 o3 a3 (xy C) u Y)) (F := fun Z => (wX6 o0 a0 (xy C) u0 (wX8 (a0 0) a1 (xy C) u_32 (wT (a1 0) (xy C) u_33 Z)))) (X := (wX6 o0 a0 (xy C) u0 (wX8 (a0 0) a1 (xy C) u_32 (wT (a1 0) (xy C) u_33 [])))) (As := [.long r_34]) (rest := []) (u := u3) hC (fun _ _ => rfl) (fun _ => rfl) (ctX2_personNamed h) wvX2_personNamed ml_X6_152 (ci := 1) (q0 := 0) rfl rfl rfl rfl (rmok hR0 rfl) ⟨Nat.zero_le _, Nat.zero_le _⟩ rfl (Nat.le_of_ble_eq_true rfl) dX6_takePerson_27 (fun r_37 u_36 h => ?_)
    refine g_istore_n (pc := 30) (lv' := [(3, .int r_37), (0, .ref o0), (1, .ref o3), (2, .int x2)]) hC dX6_takePerson_30 rfl (Nat.le_of_ble_eq_true rfl) rfl ?_
    refine g_iload_n (pc := 31) hC 0 dX6_takePerson_31 rfl rfl ?_
    refine g_iconst (pc := 32) (v := -1) hC dX6_takePerson_32 (by decide) ?_
    refine g_icmp_ne (pc := 33) (tgt := 45) hC dX6_takePerson_33 (by decide) (fun c_39 => ?_) (fun c_39 => ?_)
    · have h := h.1 c_39
      refine g_iload_n (pc := 45) hC 0 dX6_takePerson_45 rfl rfl ?_
      refine g_iload_n (pc := 46) hC 3 dX6_takePerson_46 rfl rfl ?_
      refine g_icmp_ne (pc := 47) (tgt := 59) hC dX6_takePerson_47 (by decide) (fun c_40 => ?_) (fun c_40 => ?_)
      · have h := h.1 c_40
        refine g_aload_n (pc := 59) hC 1 dX6_takePerson_59 rfl rfl ?_
        refine getX6_0 (pc := 60) hC (F := fun Z => Z) (X := []) (fun _ => rfl) fl_X6_20 dX6_takePerson_60 ?_
        refine g_callV_v (pc := 63) (wd := fun (u : St × St) Y => (wX8 (a0 0) a1 (xy C) u.1 (wT (a1 0) (xy C) u.2 Y))) (F := fun Z => (wX6 o0 a0 (xy C) u0 Z)) (X := (wX6 o0 a0 (xy C) u0 [])) (As := []) (rest := []) (u := (u_32, u_33)) hC (fun _ _ => rfl) (fun _ => rfl) (ctX8_advance h) wvX8_advance ml_X6_87 (ci := 7) (q0 := 0) rfl rfl rfl rfl (rmok hR0 rfl) ⟨Nat.zero_le _, Nat.zero_le _⟩ rfl (Nat.le_of_ble_eq_true rfl) dX6_takePerson_63 (fun u_43 h => ?_)
        obtain ⟨u_41, u_42⟩ := u_43
        refine g_iload_n (pc := 66) hC 0 dX6_takePerson_66 rfl rfl ?_
        exact hR _ _ _ (u0, u_41, u_42, u_36) dX6_takePerson_67 h
      · have h := h.2 c_40
        refine g_aload_n (pc := 50) hC 1 dX6_takePerson_50 rfl rfl ?_
        refine getX6_0 (pc := 51) hC (F := fun Z => Z) (X := []) (fun _ => rfl) fl_X6_20 dX6_takePerson_51 ?_
        refine g_iconst (pc := 54) (v := 5) hC dX6_takePerson_54 (by decide) ?_
        refine g_callV_i (pc := 55) (wd := fun (u : St × St) Y => (wX8 (a0 0) a1 (xy C) u.1 (wT (a1 0) (xy C) u.2 Y))) (F := fun Z => (wX6 o0 a0 (xy C) u0 Z)) (X := (wX6 o0 a0 (xy C) u0 [])) (As := [.int (5 : Int32)]) (rest := []) (u := (u_32, u_33)) hC (fun _ _ => rfl) (fun _ => rfl) (ctX8_fail h) wvX8_fail ml_X6_83 (ci := 7) (q0 := 0) rfl rfl rfl rfl (rmok hR0 rfl) ⟨Nat.zero_le _, Nat.zero_le _⟩ rfl (Nat.le_of_ble_eq_true rfl) dX6_takePerson_55 (fun r_46 u_47 h => ?_)
        obtain ⟨u_44, u_45⟩ := u_47
        exact hR _ _ _ (u0, u_44, u_45, u_36) dX6_takePerson_58 h
    · have h := h.2 c_39
      refine g_aload_n (pc := 36) hC 1 dX6_takePerson_36 rfl rfl ?_
      refine getX6_0 (pc := 37) hC (F := fun Z => Z) (X := []) (fun _ => rfl) fl_X6_20 dX6_takePerson_37 ?_
      refine g_iconst (pc := 40) (v := 3) hC dX6_takePerson_40 (by decide) ?_
      refine g_callV_i (pc := 41) (wd := fun (u : St × St) Y => (wX8 (a0 0) a1 (xy C) u.1 (wT (a1 0) (xy C) u.2 Y))) (F := fun Z => (wX6 o0 a0 (xy C) u0 Z)) (X := (wX6 o0 a0 (xy C) u0 [])) (As := [.int (3 : Int32)]) (rest := []) (u := (u_32, u_33)) hC (fun _ _ => rfl) (fun _ => rfl) (ctX8_fail h) wvX8_fail ml_X6_83 (ci := 7) (q0 := 0) rfl rfl rfl rfl (rmok hR0 rfl) ⟨Nat.zero_le _, Nat.zero_le _⟩ rfl (Nat.le_of_ble_eq_true rfl) dX6_takePerson_41 (fun r_50 u_51 h => ?_)
      obtain ⟨u_48, u_49⟩ := u_51
      exact hR _ _ _ (u0, u_48, u_49, u_36) dX6_takePerson_44 h
  · have h := h.2 c_31
    refine g_aload_n (pc := 10) hC 0 dX6_takePerson_10 rfl rfl ?_
    refine getX6_0 (pc := 11) hC (F := fun Z => Z) (X := []) (fun _ => rfl) fl_X6_20 dX6_takePerson_11 ?_
    refine g_iconst (pc := 14) (v := 2) hC dX6_takePerson_14 (by decide) ?_
    refine g_callV_i (pc := 15) (wd := fun (u : St × St) Y => (wX8 (a0 0) a1 (xy C) u.1 (wT (a1 0) (xy C) u.2 Y))) (F := fun Z => (wX6 o0 a0 (xy C) u0 Z)) (X := (wX6 o0 a0 (xy C) u0 [])) (As := [.int (2 : Int32)]) (rest := []) (u := (u_27, u_28)) hC (fun _ _ => rfl) (fun _ => rfl) (ctX8_fail h) wvX8_fail ml_X6_83 (ci := 7) (q0 := 0) rfl rfl rfl rfl (rmok hR0 rfl) ⟨Nat.zero_le _, Nat.zero_le _⟩ rfl (Nat.le_of_ble_eq_true rfl) dX6_takePerson_15 (fun r_54 u_55 h => ?_)
    obtain ⟨u_52, u_53⟩ := u_55
    exact hR _ _ _ (u0, u_52, u_53, u3) dX6_takePerson_18 h
theorem ctX6_takePerson {l : Launch} {D : va_G} {cy : Nat → ClassId} {kd : Nat → Nat} {o0 : Nat} {a0 : Nat → Nat} {a1 : Nat → Nat} {o3 : Nat} {a3 : Nat → Nat} {x2 : Int32} {u0 : St} {u1 : St} {u2 : St} {u3 : St} {post : Int32 → St → St → St → St → Prop} (h : qX6_takePerson x2 u0 u1 u2 u3 post) : CtI l D cy kd yX6_takePerson cX6_takePerson 4 4 .int [.ref o0, .ref o3, .int x2] (fun u : St × St × St × St => (wX6 o0 a0 cy u.1 (wX8 (a0 0) a1 cy u.2.1 (wT (a1 0) cy u.2.2.1 (wX2 o3 a3 cy u.2.2.2 []))))) (u0, u1, u2, u3) (fun r u => post r u.1 u.2.1 u.2.2.1 u.2.2.2) := met_i (by decide) (Nat.le_of_ble_eq_true rfl) (fun C e1 e2 e3 e4 e5 hC hR => by subst e1 e2 e3 e4; exact kX6_takePerson hC e5 hR h)
theorem dX6_readDebt_0 : decode cX6_readDebt 0 = .ok (.aload_n 1, 1) := by decide +kernel
theorem dX6_readDebt_1 : decode cX6_readDebt 1 = .ok (.getfield 163, 3) := by decide +kernel
theorem dX6_readDebt_4 : decode cX6_readDebt 4 = .ok (.bipush 7, 2) := by decide +kernel
theorem dX6_readDebt_6 : decode cX6_readDebt 6 = .ok (.if_icmp .lt 14, 3) := by decide +kernel
theorem dX6_readDebt_9 : decode cX6_readDebt 9 = .ok (.aload_n 0, 1) := by decide +kernel
theorem dX6_readDebt_10 : decode cX6_readDebt 10 = .ok (.getfield 20, 3) := by decide +kernel
theorem dX6_readDebt_13 : decode cX6_readDebt 13 = .ok (.bipush 6, 2) := by decide +kernel
theorem dX6_readDebt_15 : decode cX6_readDebt 15 = .ok (.invokevirtual 83, 3) := by decide +kernel
theorem dX6_readDebt_18 : decode cX6_readDebt 18 = .ok (.pop, 1) := by decide +kernel
theorem dX6_readDebt_19 : decode cX6_readDebt 19 = .ok (.return_, 1) := by decide +kernel
theorem dX6_readDebt_20 : decode cX6_readDebt 20 = .ok (.aload_n 0, 1) := by decide +kernel
theorem dX6_readDebt_21 : decode cX6_readDebt 21 = .ok (.getfield 20, 3) := by decide +kernel
theorem dX6_readDebt_24 : decode cX6_readDebt 24 = .ok (.invokevirtual 87, 3) := by decide +kernel
theorem dX6_readDebt_27 : decode cX6_readDebt 27 = .ok (.aload_n 0, 1) := by decide +kernel
theorem dX6_readDebt_28 : decode cX6_readDebt 28 = .ok (.aload_n 1, 1) := by decide +kernel
theorem dX6_readDebt_29 : decode cX6_readDebt 29 = .ok (.iconst (-1), 1) := by decide +kernel
theorem dX6_readDebt_30 : decode cX6_readDebt 30 = .ok (.invokevirtual 166, 3) := by decide +kernel
theorem dX6_readDebt_33 : decode cX6_readDebt 33 = .ok (.istore_n 2, 1) := by decide +kernel
theorem dX6_readDebt_34 : decode cX6_readDebt 34 = .ok (.aload_n 0, 1) := by decide +kernel
theorem dX6_readDebt_35 : decode cX6_readDebt 35 = .ok (.aload_n 1, 1) := by decide +kernel
theorem dX6_readDebt_36 : decode cX6_readDebt 36 = .ok (.iload_n 2, 1) := by decide +kernel
theorem dX6_readDebt_37 : decode cX6_readDebt 37 = .ok (.invokevirtual 166, 3) := by decide +kernel
theorem dX6_readDebt_40 : decode cX6_readDebt 40 = .ok (.istore_n 3, 1) := by decide +kernel
theorem dX6_readDebt_41 : decode cX6_readDebt 41 = .ok (.aload_n 0, 1) := by decide +kernel
theorem dX6_readDebt_42 : decode cX6_readDebt 42 = .ok (.getfield 20, 3) := by decide +kernel
theorem dX6_readDebt_45 : decode cX6_readDebt 45 = .ok (.getstatic 170, 3) := by decide +kernel
theorem dX6_readDebt_48 : decode cX6_readDebt 48 = .ok (.invokevirtual 106, 3) := by decide +kernel
theorem dX6_readDebt_51 : decode cX6_readDebt 51 = .ok (.aload_n 0, 1) := by decide +kernel
theorem dX6_readDebt_52 : decode cX6_readDebt 52 = .ok (.getfield 20, 3) := by decide +kernel
theorem dX6_readDebt_55 : decode cX6_readDebt 55 = .ok (.iconst 1, 1) := by decide +kernel
theorem dX6_readDebt_56 : decode cX6_readDebt 56 = .ok (.bipush 99, 2) := by decide +kernel
theorem dX6_readDebt_58 : decode cX6_readDebt 58 = .ok (.invokevirtual 90, 3) := by decide +kernel
theorem dX6_readDebt_61 : decode cX6_readDebt 61 = .ok (.istore 4, 2) := by decide +kernel
theorem dX6_readDebt_63 : decode cX6_readDebt 63 = .ok (.aload_n 0, 1) := by decide +kernel
theorem dX6_readDebt_64 : decode cX6_readDebt 64 = .ok (.getfield 20, 3) := by decide +kernel
theorem dX6_readDebt_67 : decode cX6_readDebt 67 = .ok (.getstatic 173, 3) := by decide +kernel
theorem dX6_readDebt_70 : decode cX6_readDebt 70 = .ok (.invokevirtual 106, 3) := by decide +kernel
theorem dX6_readDebt_73 : decode cX6_readDebt 73 = .ok (.aload_n 0, 1) := by decide +kernel
theorem dX6_readDebt_74 : decode cX6_readDebt 74 = .ok (.getfield 20, 3) := by decide +kernel
theorem dX6_readDebt_77 : decode cX6_readDebt 77 = .ok (.iconst 0, 1) := by decide +kernel
theorem dX6_readDebt_78 : decode cX6_readDebt 78 = .ok (.bipush 9, 2) := by decide +kernel
theorem dX6_readDebt_80 : decode cX6_readDebt 80 = .ok (.invokevirtual 90, 3) := by decide +kernel
theorem dX6_readDebt_83 : decode cX6_readDebt 83 = .ok (.istore 5, 2) := by decide +kernel
theorem dX6_readDebt_85 : decode cX6_readDebt 85 = .ok (.aload_n 0, 1) := by decide +kernel
theorem dX6_readDebt_86 : decode cX6_readDebt 86 = .ok (.getfield 20, 3) := by decide +kernel
theorem dX6_readDebt_89 : decode cX6_readDebt 89 = .ok (.getstatic 176, 3) := by decide +kernel
theorem dX6_readDebt_92 : decode cX6_readDebt 92 = .ok (.invokevirtual 116, 3) := by decide +kernel
theorem dX6_readDebt_95 : decode cX6_readDebt 95 = .ok (.istore 6, 2) := by decide +kernel
theorem dX6_readDebt_97 : decode cX6_readDebt 97 = .ok (.aload_n 0, 1) := by decide +kernel
theorem dX6_readDebt_98 : decode cX6_readDebt 98 = .ok (.getfield 20, 3) := by decide +kernel
theorem dX6_readDebt_101 : decode cX6_readDebt 101 = .ok (.getstatic 179, 3) := by decide +kernel
theorem dX6_readDebt_104 : decode cX6_readDebt 104 = .ok (.invokevirtual 106, 3) := by decide +kernel
theorem dX6_readDebt_107 : decode cX6_readDebt 107 = .ok (.aload_n 0, 1) := by decide +kernel
theorem dX6_readDebt_108 : decode cX6_readDebt 108 = .ok (.getfield 20, 3) := by decide +kernel
theorem dX6_readDebt_111 : decode cX6_readDebt 111 = .ok (.iconst 0, 1) := by decide +kernel
theorem dX6_readDebt_112 : decode cX6_readDebt 112 = .ok (.aload_n 1, 1) := by decide +kernel
theorem dX6_readDebt_113 : decode cX6_readDebt 113 = .ok (.getfield 100, 3) := by decide +kernel
theorem dX6_readDebt_116 : decode cX6_readDebt 116 = .ok (.iconst 1, 1) := by decide +kernel
theorem dX6_readDebt_117 : decode cX6_readDebt 117 = .ok (.isub, 1) := by decide +kernel
theorem dX6_readDebt_118 : decode cX6_readDebt 118 = .ok (.invokevirtual 90, 3) := by decide +kernel
theorem dX6_readDebt_121 : decode cX6_readDebt 121 = .ok (.istore 7, 2) := by decide +kernel
theorem dX6_readDebt_123 : decode cX6_readDebt 123 = .ok (.aload_n 0, 1) := by decide +kernel
theorem dX6_readDebt_124 : decode cX6_readDebt 124 = .ok (.getfield 20, 3) := by decide +kernel
theorem dX6_readDebt_127 : decode cX6_readDebt 127 = .ok (.getstatic 182, 3) := by decide +kernel
theorem dX6_readDebt_130 : decode cX6_readDebt 130 = .ok (.invokevirtual 116, 3) := by decide +kernel
theorem dX6_readDebt_133 : decode cX6_readDebt 133 = .ok (.ifCond .eq 16, 3) := by decide +kernel
theorem dX6_readDebt_136 : decode cX6_readDebt 136 = .ok (.aload_n 0, 1) := by decide +kernel
theorem dX6_readDebt_137 : decode cX6_readDebt 137 = .ok (.getfield 20, 3) := by decide +kernel
theorem dX6_readDebt_140 : decode cX6_readDebt 140 = .ok (.iconst 0, 1) := by decide +kernel
theorem dX6_readDebt_141 : decode cX6_readDebt 141 = .ok (.bipush 99, 2) := by decide +kernel
theorem dX6_readDebt_143 : decode cX6_readDebt 143 = .ok (.invokevirtual 90, 3) := by decide +kernel
theorem dX6_readDebt_146 : decode cX6_readDebt 146 = .ok (.goto 4, 3) := by decide +kernel
theorem dX6_readDebt_149 : decode cX6_readDebt 149 = .ok (.iconst 0, 1) := by decide +kernel
theorem dX6_readDebt_150 : decode cX6_readDebt 150 = .ok (.istore 8, 2) := by decide +kernel
theorem dX6_readDebt_152 : decode cX6_readDebt 152 = .ok (.aload_n 0, 1) := by decide +kernel
theorem dX6_readDebt_153 : decode cX6_readDebt 153 = .ok (.getfield 20, 3) := by decide +kernel
theorem dX6_readDebt_156 : decode cX6_readDebt 156 = .ok (.invokevirtual 97, 3) := by decide +kernel
theorem dX6_readDebt_159 : decode cX6_readDebt 159 = .ok (.aload_n 0, 1) := by decide +kernel
theorem dX6_readDebt_160 : decode cX6_readDebt 160 = .ok (.getfield 20, 3) := by decide +kernel
theorem dX6_readDebt_163 : decode cX6_readDebt 163 = .ok (.getfield 37, 3) := by decide +kernel
theorem dX6_readDebt_166 : decode cX6_readDebt 166 = .ok (.ifCond .ne 32, 3) := by decide +kernel
theorem dX6_readDebt_169 : decode cX6_readDebt 169 = .ok (.aload_n 1, 1) := by decide +kernel
theorem dX6_readDebt_170 : decode cX6_readDebt 170 = .ok (.getfield 163, 3) := by decide +kernel
theorem dX6_readDebt_173 : decode cX6_readDebt 173 = .ok (.istore 9, 2) := by decide +kernel
theorem dX6_readDebt_175 : decode cX6_readDebt 175 = .ok (.aload_n 1, 1) := by decide +kernel
theorem dX6_readDebt_176 : decode cX6_readDebt 176 = .ok (.iload_n 2, 1) := by decide +kernel
theorem dX6_readDebt_177 : decode cX6_readDebt 177 = .ok (.iload_n 3, 1) := by decide +kernel
theorem dX6_readDebt_178 : decode cX6_readDebt 178 = .ok (.iload 4, 2) := by decide +kernel
theorem dX6_readDebt_180 : decode cX6_readDebt 180 = .ok (.iload 5, 2) := by decide +kernel
theorem dX6_readDebt_182 : decode cX6_readDebt 182 = .ok (.iload 6, 2) := by decide +kernel
theorem dX6_readDebt_184 : decode cX6_readDebt 184 = .ok (.iload 7, 2) := by decide +kernel
theorem dX6_readDebt_186 : decode cX6_readDebt 186 = .ok (.invokevirtual 185, 3) := by decide +kernel
theorem dX6_readDebt_189 : decode cX6_readDebt 189 = .ok (.aload_n 1, 1) := by decide +kernel
theorem dX6_readDebt_190 : decode cX6_readDebt 190 = .ok (.getfield 189, 3) := by decide +kernel
theorem dX6_readDebt_193 : decode cX6_readDebt 193 = .ok (.iload 9, 2) := by decide +kernel
theorem dX6_readDebt_195 : decode cX6_readDebt 195 = .ok (.iload 8, 2) := by decide +kernel
theorem dX6_readDebt_197 : decode cX6_readDebt 197 = .ok (.iastore, 1) := by decide +kernel
theorem dX6_readDebt_198 : decode cX6_readDebt 198 = .ok (.return_, 1) := by decide +kernel
def qX6_readDebt_b198  (post : St → St → St → St → Prop)  (u0 : St) (u1 : St) (u2 : St) (u3 : St) : Prop := post u0 u1 u2 u3
set_option maxRecDepth 100000 in
set_option maxHeartbeats 4000000 in
theorem kX6_readDebt_b198 {C : Cx} {o0 : Nat} {a0 : Nat → Nat} {a1 : Nat → Nat} {o3 : Nat} {a3 : Nat → Nat} (hC : Fx C cX6_readDebt 10 RX6) (hR0 : xR C = rm 5) {post : St → St → St → St → Prop} (hR : RV C cX6_readDebt 10 (fun u : St × St × St × St => (wX6 o0 a0 (xy C) u.1 (wX8 (a0 0) a1 (xy C) u.2.1 (wT (a1 0) (xy C) u.2.2.1 (wX2 o3 a3 (xy C) u.2.2.2 []))))) (fun u => post u.1 u.2.1 u.2.2.1 u.2.2.2))  {u0 : St} {u1 : St} {u2 : St} {u3 : St} (h : qX6_readDebt_b198 post u0 u1 u2 u3) : G C 0 0 10 (wX6 o0 a0 (xy C) u0 (wX8 (a0 0) a1 (xy C) u1 (wT (a1 0) (xy C) u2 (wX2 o3 a3 (xy C) u3 [])))) 198 [] [] := by
  exact hR _ _ (u0, u1, u2, u3) dX6_readDebt_198 h
def qX6_readDebt_b150  (post : St → St → St → St → Prop)  (x2 : Int32) (x3 : Int32) (x4 : Int32) (x5 : Int32) (x6 : Int32) (x7 : Int32) (s0 : Int32) (u0 : St) (u1 : St) (u2 : St) (u3 : St) : Prop := qX8_takeSemicolon u1 u2 (fun u_59 u_60 => ((¬ (gi u_59 8) = 0 → qX6_readDebt_b198 post u0 u_59 u_60 u3) ∧ ((gi u_59 8) = 0 → ∀ x9_63 : Int32, x9_63 = (gi u3 2) → qX2_addDebt x2 x3 x4 x5 x6 x7 u3 (fun u_64 => (vp_in x9_63 7 ∧ ∀ u_66 : St, u_66 = (sw u_64 19 (upd (ga u_64 19) (x9_63).toNatClampNeg s0)) → qX6_readDebt_b198 post u0 u_59 u_60 u_66)))))
set_option maxRecDepth 100000 in
set_option maxHeartbeats 4000000 in
theorem kX6_readDebt_b150 {C : Cx} {o0 : Nat} {a0 : Nat → Nat} {a1 : Nat → Nat} {o3 : Nat} {a3 : Nat → Nat} (hC : Fx C cX6_readDebt 10 RX6) (hR0 : xR C = rm 5) {post : St → St → St → St → Prop} (hR : RV C cX6_readDebt 10 (fun u : St × St × St × St => (wX6 o0 a0 (xy C) u.1 (wX8 (a0 0) a1 (xy C) u.2.1 (wT (a1 0) (xy C) u.2.2.1 (wX2 o3 a3 (xy C) u.2.2.2 []))))) (fun u => post u.1 u.2.1 u.2.2.1 u.2.2.2))  {x2 : Int32} {x3 : Int32} {x4 : Int32} {x5 : Int32} {x6 : Int32} {x7 : Int32} {s0 : Int32} {u0 : St} {u1 : St} {u2 : St} {u3 : St} (h : qX6_readDebt_b150 post x2 x3 x4 x5 x6 x7 s0 u0 u1 u2 u3) : G C 0 0 10 (wX6 o0 a0 (xy C) u0 (wX8 (a0 0) a1 (xy C) u1 (wT (a1 0) (xy C) u2 (wX2 o3 a3 (xy C) u3 [])))) 150 [(0, .ref o0), (1, .ref o3), (2, .int x2), (3, .int x3), (4, .int x4), (5, .int x5), (6, .int x6), (7, .int x7)] [.int s0] := by
  refine g_istore (pc := 150) (lv' := [(8, .int s0), (0, .ref o0), (1, .ref o3), (2, .int x2), (3, .int x3), (4, .int x4), (5, .int x5), (6, .int x6), (7, .int x7)]) hC dX6_readDebt_150 (Nat.le_of_ble_eq_true rfl) rfl ?_
  refine g_aload_n (pc := 152) hC 1 dX6_readDebt_152 rfl rfl ?_
  refine getX6_0 (pc := 153) hC (F := fun Z => Z) (X := []) (fun _ => rfl) fl_X6_20 dX6_readDebt_153 ?_
  refine g_callV_v (pc := 156) (wd := fun (u : St × St) Y => (wX8 (a0 0) a1 (xy C) u.1 (wT (a1 0) (xy C) u.2 Y))) (F := fun Z => (wX6 o0 a0 (xy C) u0 Z)) (X := (wX6 o0 a0 (xy C) u0 [])) (As := []) (rest := []) (u := (u1, u2)) hC (fun _ _ => rfl) (fun _ => rfl) (ctX8_takeSemicolon h) wvX8_takeSemicolon ml_X6_97 (ci := 7) (q0 := 0) rfl rfl rfl rfl (rmok hR0 rfl) ⟨Nat.zero_le _, Nat.zero_le _⟩ rfl (Nat.le_of_ble_eq_true rfl) dX6_readDebt_156 (fun u_61 h => ?_)
  obtain ⟨u_59, u_60⟩ := u_61
  refine g_aload_n (pc := 159) hC 1 dX6_readDebt_159 rfl rfl ?_
  refine getX6_0 (pc := 160) hC (F := fun Z => Z) (X := []) (fun _ => rfl) fl_X6_20 dX6_readDebt_160 ?_
  refine getX8_8 (pc := 163) hC (F := fun Z => (wX6 o0 a0 (xy C) u0 Z)) (X := (wX6 o0 a0 (xy C) u0 [])) (fun _ => rfl) fl_X6_37 dX6_readDebt_163 ?_
  refine g_if_ne (pc := 166) (tgt := 198) hC dX6_readDebt_166 (by decide) (fun c_62 => ?_) (fun c_62 => ?_)
  · have h := h.1 c_62
    refine g_sub (lv' := []) [] rfl ?_
    exact kX6_readDebt_b198 hC hR0 hR  h
  · have h := h.2 c_62
    refine g_aload_n (pc := 169) hC 2 dX6_readDebt_169 rfl rfl ?_
    refine getX2_2 (pc := 170) hC (F := fun Z => (wX6 o0 a0 (xy C) u0 (wX8 (a0 0) a1 (xy C) u_59 (wT (a1 0) (xy C) u_60 Z)))) (X := (wX6 o0 a0 (xy C) u0 (wX8 (a0 0) a1 (xy C) u_59 (wT (a1 0) (xy C) u_60 [])))) (fun _ => rfl) fl_X6_163 dX6_readDebt_170 ?_
    refine g_topi (fun x9_63 ex9_63 => ?_)
    have h := h x9_63 ex9_63
    refine g_istore (pc := 173) (lv' := [(9, .int x9_63), (8, .int s0), (0, .ref o0), (1, .ref o3), (2, .int x2), (3, .int x3), (4, .int x4), (5, .int x5), (6, .int x6), (7, .int x7)]) hC dX6_readDebt_173 (Nat.le_of_ble_eq_true rfl) rfl ?_
    refine g_aload_n (pc := 175) hC 3 dX6_readDebt_175 rfl rfl ?_
    refine g_iload_n (pc := 176) hC 4 dX6_readDebt_176 rfl rfl ?_
    refine g_iload_n (pc := 177) hC 5 dX6_readDebt_177 rfl rfl ?_
    refine g_iload (pc := 178) hC 6 dX6_readDebt_178 rfl ?_
    refine g_iload (pc := 180) hC 7 dX6_readDebt_180 rfl ?_
    refine g_iload (pc := 182) hC 8 dX6_readDebt_182 rfl ?_
    refine g_iload (pc := 184) hC 9 dX6_readDebt_184 rfl ?_
    refine g_callV_v (pc := 186) (wd := fun (u : St) Y => (wX2 o3 a3 (xy C) u Y)) (F := fun Z => (wX6 o0 a0 (xy C) u0 (wX8 (a0 0) a1 (xy C) u_59 (wT (a1 0) (xy C) u_60 Z)))) (X := (wX6 o0 a0 (xy C) u0 (wX8 (a0 0) a1 (xy C) u_59 (wT (a1 0) (xy C) u_60 [])))) (As := [.int x2, .int x3, .int x4, .int x5, .int x6, .int x7]) (rest := []) (u := u3) hC (fun _ _ => rfl) (fun _ => rfl) (ctX2_addDebt h) wvX2_addDebt ml_X6_185 (ci := 1) (q0 := 0) rfl rfl rfl rfl (rmok hR0 rfl) ⟨Nat.zero_le _, Nat.zero_le _⟩ rfl (Nat.le_of_ble_eq_true rfl) dX6_readDebt_186 (fun u_64 h => ?_)
    refine g_aload_n (pc := 189) hC 3 dX6_readDebt_189 rfl rfl ?_
    refine getX2_19 (pc := 190) hC (F := fun Z => (wX6 o0 a0 (xy C) u0 (wX8 (a0 0) a1 (xy C) u_59 (wT (a1 0) (xy C) u_60 Z)))) (X := (wX6 o0 a0 (xy C) u0 (wX8 (a0 0) a1 (xy C) u_59 (wT (a1 0) (xy C) u_60 [])))) (fun _ => rfl) fl_X6_189 dX6_readDebt_190 ?_
    refine g_iload (pc := 193) hC 0 dX6_readDebt_193 rfl ?_
    refine g_iload (pc := 195) hC 1 dX6_readDebt_195 rfl ?_
    refine astX2_19 (pc := 197) hC (F := fun Z => (wX6 o0 a0 (xy C) u0 (wX8 (a0 0) a1 (xy C) u_59 (wT (a1 0) (xy C) u_60 Z)))) (X := (wX6 o0 a0 (xy C) u0 (wX8 (a0 0) a1 (xy C) u_59 (wT (a1 0) (xy C) u_60 [])))) (fun _ => rfl) h.1 dX6_readDebt_197 ?_
    have h := h.2
    refine g_st (w := fun z => (wX6 o0 a0 (xy C) u0 (wX8 (a0 0) a1 (xy C) u_59 (wT (a1 0) (xy C) u_60 (wX2 o3 a3 (xy C) z []))))) (u := (sw u_64 19 (upd (ga u_64 19) (x9_63).toNatClampNeg s0))) (fun u_66 eu_66 => ?_)
    have h := h u_66 eu_66
    refine g_sub (lv' := []) [] rfl ?_
    exact kX6_readDebt_b198 hC hR0 hR  h
def qX6_readDebt  (u0 : St) (u1 : St) (u2 : St) (u3 : St) (post : St → St → St → St → Prop) : Prop := (((gi u3 2) < (7 : Int32) → qX8_advance u1 u2 (fun u_68 u_69 => qX6_takePerson (-1 : Int32) u0 u_68 u_69 u3 (fun r_75 u_71 u_72 u_73 u_74 => qX6_takePerson r_75 u_71 u_72 u_73 u_74 (fun r_81 u_77 u_78 u_79 u_80 => qX8_take 8 u_78 u_79 (fun u_83 u_84 => qX8_takeNumber (1 : Int32) (99 : Int32) u_83 u_84 (fun r_88 u_86 u_87 => qX8_take 9 u_86 u_87 (fun u_90 u_91 => qX8_takeNumber (0 : Int32) (9 : Int32) u_90 u_91 (fun r_95 u_93 u_94 => qX8_takeIf 10 u_93 u_94 (fun r_99 u_97 u_98 => qX8_take 11 u_97 u_98 (fun u_101 u_102 => qX8_takeNumber (0 : Int32) ((gi u_80 0) - (1 : Int32)) u_101 u_102 (fun r_106 u_104 u_105 => qX8_takeIf 12 u_104 u_105 (fun r_110 u_108 u_109 => ((r_110 = 0 → qX6_readDebt_b150 post r_75 r_81 r_88 r_95 r_99 r_106 (0 : Int32) u_77 u_108 u_109 u_80) ∧ (¬ r_110 = 0 → qX8_takeNumber (0 : Int32) (99 : Int32) u_108 u_109 (fun r_115 u_113 u_114 => qX6_readDebt_b150 post r_75 r_81 r_88 r_95 r_99 r_106 r_115 u_77 u_113 u_114 u_80))))))))))))))) ∧ (¬ (gi u3 2) < (7 : Int32) → qX8_fail (6 : Int32) u1 u2 (fun r_119 u_117 u_118 => post u0 u_117 u_118 u3)))
set_option maxRecDepth 100000 in
set_option maxHeartbeats 4000000 in
theorem kX6_readDebt {C : Cx} {o0 : Nat} {a0 : Nat → Nat} {a1 : Nat → Nat} {o3 : Nat} {a3 : Nat → Nat} (hC : Fx C cX6_readDebt 10 RX6) (hR0 : xR C = rm 5) {post : St → St → St → St → Prop} (hR : RV C cX6_readDebt 10 (fun u : St × St × St × St => (wX6 o0 a0 (xy C) u.1 (wX8 (a0 0) a1 (xy C) u.2.1 (wT (a1 0) (xy C) u.2.2.1 (wX2 o3 a3 (xy C) u.2.2.2 []))))) (fun u => post u.1 u.2.1 u.2.2.1 u.2.2.2))  {u0 : St} {u1 : St} {u2 : St} {u3 : St} (h : qX6_readDebt  u0 u1 u2 u3 post) : G C 0 0 10 (wX6 o0 a0 (xy C) u0 (wX8 (a0 0) a1 (xy C) u1 (wT (a1 0) (xy C) u2 (wX2 o3 a3 (xy C) u3 [])))) 0 [(0, .ref o0), (1, .ref o3)] [] := by
  refine g_aload_n (pc := 0) hC 1 dX6_readDebt_0 rfl rfl ?_
  refine getX2_2 (pc := 1) hC (F := fun Z => (wX6 o0 a0 (xy C) u0 (wX8 (a0 0) a1 (xy C) u1 (wT (a1 0) (xy C) u2 Z)))) (X := (wX6 o0 a0 (xy C) u0 (wX8 (a0 0) a1 (xy C) u1 (wT (a1 0) (xy C) u2 [])))) (fun _ => rfl) fl_X6_163 dX6_readDebt_1 ?_
  refine g_bipush (pc := 4) (v := 7) hC dX6_readDebt_4 (by decide) ?_
  refine g_icmp_lt (pc := 6) (tgt := 20) hC dX6_readDebt_6 (by decide) (fun c_67 => ?_) (fun c_67 => ?_)
  · have h := h.1 c_67
    refine g_aload_n (pc := 20) hC 0 dX6_readDebt_20 rfl rfl ?_
    refine getX6_0 (pc := 21) hC (F := fun Z => Z) (X := []) (fun _ => rfl) fl_X6_20 dX6_readDebt_21 ?_
    refine g_callV_v (pc := 24) (wd := fun (u : St × St) Y => (wX8 (a0 0) a1 (xy C) u.1 (wT (a1 0) (xy C) u.2 Y))) (F := fun Z => (wX6 o0 a0 (xy C) u0 Z)) (X := (wX6 o0 a0 (xy C) u0 [])) (As := []) (rest := []) (u := (u1, u2)) hC (fun _ _ => rfl) (fun _ => rfl) (ctX8_advance h) wvX8_advance ml_X6_87 (ci := 7) (q0 := 0) rfl rfl rfl rfl (rmok hR0 rfl) ⟨Nat.zero_le _, Nat.zero_le _⟩ rfl (Nat.le_of_ble_eq_true rfl) dX6_readDebt_24 (fun u_70 h => ?_)
    obtain ⟨u_68, u_69⟩ := u_70
    refine g_aload_n (pc := 27) hC 0 dX6_readDebt_27 rfl rfl ?_
    refine g_aload_n (pc := 28) hC 1 dX6_readDebt_28 rfl rfl ?_
    refine g_iconst (pc := 29) (v := -1) hC dX6_readDebt_29 (by decide) ?_
    refine g_callV_i (pc := 30) (wd := fun (u : St × St × St × St) Y => (wX6 o0 a0 (xy C) u.1 (wX8 (a0 0) a1 (xy C) u.2.1 (wT (a1 0) (xy C) u.2.2.1 (wX2 o3 a3 (xy C) u.2.2.2 Y))))) (F := fun Z => Z) (X := []) (As := [.ref o3, .int (-1 : Int32)]) (rest := []) (u := (u0, u_68, u_69, u3)) hC (fun _ _ => rfl) (fun _ => rfl) (ctX6_takePerson h) wvX6_takePerson ml_X6_166 (ci := 5) (q0 := 0) rfl rfl rfl rfl (rmok hR0 rfl) ⟨Nat.zero_le _, Nat.zero_le _⟩ rfl (Nat.le_of_ble_eq_true rfl) dX6_readDebt_30 (fun r_75 u_76 h => ?_)
    obtain ⟨u_71, u_72, u_73, u_74⟩ := u_76
    refine g_istore_n (pc := 33) (lv' := [(2, .int r_75), (0, .ref o0), (1, .ref o3)]) hC dX6_readDebt_33 rfl (Nat.le_of_ble_eq_true rfl) rfl ?_
    refine g_aload_n (pc := 34) hC 1 dX6_readDebt_34 rfl rfl ?_
    refine g_aload_n (pc := 35) hC 2 dX6_readDebt_35 rfl rfl ?_
    refine g_iload_n (pc := 36) hC 0 dX6_readDebt_36 rfl rfl ?_
    refine g_callV_i (pc := 37) (wd := fun (u : St × St × St × St) Y => (wX6 o0 a0 (xy C) u.1 (wX8 (a0 0) a1 (xy C) u.2.1 (wT (a1 0) (xy C) u.2.2.1 (wX2 o3 a3 (xy C) u.2.2.2 Y))))) (F := fun Z => Z) (X := []) (As := [.ref o3, .int r_75]) (rest := []) (u := (u_71, u_72, u_73, u_74)) hC (fun _ _ => rfl) (fun _ => rfl) (ctX6_takePerson h) wvX6_takePerson ml_X6_166 (ci := 5) (q0 := 0) rfl rfl rfl rfl (rmok hR0 rfl) ⟨Nat.zero_le _, Nat.zero_le _⟩ rfl (Nat.le_of_ble_eq_true rfl) dX6_readDebt_37 (fun r_81 u_82 h => ?_)
    obtain ⟨u_77, u_78, u_79, u_80⟩ := u_82
    refine g_istore_n (pc := 40) (lv' := [(3, .int r_81), (2, .int r_75), (0, .ref o0), (1, .ref o3)]) hC dX6_readDebt_40 rfl (Nat.le_of_ble_eq_true rfl) rfl ?_
    refine g_aload_n (pc := 41) hC 2 dX6_readDebt_41 rfl rfl ?_
    refine getX6_0 (pc := 42) hC (F := fun Z => Z) (X := []) (fun _ => rfl) fl_X6_20 dX6_readDebt_42 ?_
    refine g_gets (pc := 45) hC 8 (Nat.le_of_ble_eq_true rfl) fl_X6_170 dX6_readDebt_45 ?_
    refine g_callV_v (pc := 48) (wd := fun (u : St × St) Y => (wX8 (a0 0) a1 (xy C) u.1 (wT (a1 0) (xy C) u.2 Y))) (F := fun Z => (wX6 o0 a0 (xy C) u_77 Z)) (X := (wX6 o0 a0 (xy C) u_77 [])) (As := [.ref (xk C 8)]) (rest := []) (u := (u_78, u_79)) hC (fun _ _ => rfl) (fun _ => rfl) (ctX8_take h) wvX8_take ml_X6_106 (ci := 7) (q0 := 0) rfl rfl rfl rfl (rmok hR0 rfl) ⟨Nat.zero_le _, Nat.zero_le _⟩ rfl (Nat.le_of_ble_eq_true rfl) dX6_readDebt_48 (fun u_85 h => ?_)
    obtain ⟨u_83, u_84⟩ := u_85
    refine g_aload_n (pc := 51) hC 2 dX6_readDebt_51 rfl rfl ?_
    refine getX6_0 (pc := 52) hC (F := fun Z => Z) (X := []) (fun _ => rfl) fl_X6_20 dX6_readDebt_52 ?_
    refine g_iconst (pc := 55) (v := 1) hC dX6_readDebt_55 (by decide) ?_
    refine g_bipush (pc := 56) (v := 99) hC dX6_readDebt_56 (by decide) ?_
    refine g_callV_i (pc := 58) (wd := fun (u : St × St) Y => (wX8 (a0 0) a1 (xy C) u.1 (wT (a1 0) (xy C) u.2 Y))) (F := fun Z => (wX6 o0 a0 (xy C) u_77 Z)) (X := (wX6 o0 a0 (xy C) u_77 [])) (As := [.int (1 : Int32), .int (99 : Int32)]) (rest := []) (u := (u_83, u_84)) hC (fun _ _ => rfl) (fun _ => rfl) (ctX8_takeNumber h) wvX8_takeNumber ml_X6_90 (ci := 7) (q0 := 0) rfl rfl rfl rfl (rmok hR0 rfl) ⟨Nat.zero_le _, Nat.zero_le _⟩ rfl (Nat.le_of_ble_eq_true rfl) dX6_readDebt_58 (fun r_88 u_89 h => ?_)
    obtain ⟨u_86, u_87⟩ := u_89
    refine g_istore (pc := 61) (lv' := [(4, .int r_88), (3, .int r_81), (2, .int r_75), (0, .ref o0), (1, .ref o3)]) hC dX6_readDebt_61 (Nat.le_of_ble_eq_true rfl) rfl ?_
    refine g_aload_n (pc := 63) hC 3 dX6_readDebt_63 rfl rfl ?_
    refine getX6_0 (pc := 64) hC (F := fun Z => Z) (X := []) (fun _ => rfl) fl_X6_20 dX6_readDebt_64 ?_
    refine g_gets (pc := 67) hC 9 (Nat.le_of_ble_eq_true rfl) fl_X6_173 dX6_readDebt_67 ?_
    refine g_callV_v (pc := 70) (wd := fun (u : St × St) Y => (wX8 (a0 0) a1 (xy C) u.1 (wT (a1 0) (xy C) u.2 Y))) (F := fun Z => (wX6 o0 a0 (xy C) u_77 Z)) (X := (wX6 o0 a0 (xy C) u_77 [])) (As := [.ref (xk C 9)]) (rest := []) (u := (u_86, u_87)) hC (fun _ _ => rfl) (fun _ => rfl) (ctX8_take h) wvX8_take ml_X6_106 (ci := 7) (q0 := 0) rfl rfl rfl rfl (rmok hR0 rfl) ⟨Nat.zero_le _, Nat.zero_le _⟩ rfl (Nat.le_of_ble_eq_true rfl) dX6_readDebt_70 (fun u_92 h => ?_)
    obtain ⟨u_90, u_91⟩ := u_92
    refine g_aload_n (pc := 73) hC 3 dX6_readDebt_73 rfl rfl ?_
    refine getX6_0 (pc := 74) hC (F := fun Z => Z) (X := []) (fun _ => rfl) fl_X6_20 dX6_readDebt_74 ?_
    refine g_iconst (pc := 77) (v := 0) hC dX6_readDebt_77 (by decide) ?_
    refine g_bipush (pc := 78) (v := 9) hC dX6_readDebt_78 (by decide) ?_
    refine g_callV_i (pc := 80) (wd := fun (u : St × St) Y => (wX8 (a0 0) a1 (xy C) u.1 (wT (a1 0) (xy C) u.2 Y))) (F := fun Z => (wX6 o0 a0 (xy C) u_77 Z)) (X := (wX6 o0 a0 (xy C) u_77 [])) (As := [.int (0 : Int32), .int (9 : Int32)]) (rest := []) (u := (u_90, u_91)) hC (fun _ _ => rfl) (fun _ => rfl) (ctX8_takeNumber h) wvX8_takeNumber ml_X6_90 (ci := 7) (q0 := 0) rfl rfl rfl rfl (rmok hR0 rfl) ⟨Nat.zero_le _, Nat.zero_le _⟩ rfl (Nat.le_of_ble_eq_true rfl) dX6_readDebt_80 (fun r_95 u_96 h => ?_)
    obtain ⟨u_93, u_94⟩ := u_96
    refine g_istore (pc := 83) (lv' := [(5, .int r_95), (4, .int r_88), (3, .int r_81), (2, .int r_75), (0, .ref o0), (1, .ref o3)]) hC dX6_readDebt_83 (Nat.le_of_ble_eq_true rfl) rfl ?_
    refine g_aload_n (pc := 85) hC 4 dX6_readDebt_85 rfl rfl ?_
    refine getX6_0 (pc := 86) hC (F := fun Z => Z) (X := []) (fun _ => rfl) fl_X6_20 dX6_readDebt_86 ?_
    refine g_gets (pc := 89) hC 10 (Nat.le_of_ble_eq_true rfl) fl_X6_176 dX6_readDebt_89 ?_
    refine g_callV_i (pc := 92) (wd := fun (u : St × St) Y => (wX8 (a0 0) a1 (xy C) u.1 (wT (a1 0) (xy C) u.2 Y))) (F := fun Z => (wX6 o0 a0 (xy C) u_77 Z)) (X := (wX6 o0 a0 (xy C) u_77 [])) (As := [.ref (xk C 10)]) (rest := []) (u := (u_93, u_94)) hC (fun _ _ => rfl) (fun _ => rfl) (ctX8_takeIf h) wvX8_takeIf ml_X6_116 (ci := 7) (q0 := 0) rfl rfl rfl rfl (rmok hR0 rfl) ⟨Nat.zero_le _, Nat.zero_le _⟩ rfl (Nat.le_of_ble_eq_true rfl) dX6_readDebt_92 (fun r_99 u_100 h => ?_)
    obtain ⟨u_97, u_98⟩ := u_100
    refine g_istore (pc := 95) (lv' := [(6, .int r_99), (5, .int r_95), (4, .int r_88), (3, .int r_81), (2, .int r_75), (0, .ref o0), (1, .ref o3)]) hC dX6_readDebt_95 (Nat.le_of_ble_eq_true rfl) rfl ?_
    refine g_aload_n (pc := 97) hC 5 dX6_readDebt_97 rfl rfl ?_
    refine getX6_0 (pc := 98) hC (F := fun Z => Z) (X := []) (fun _ => rfl) fl_X6_20 dX6_readDebt_98 ?_
    refine g_gets (pc := 101) hC 11 (Nat.le_of_ble_eq_true rfl) fl_X6_179 dX6_readDebt_101 ?_
    refine g_callV_v (pc := 104) (wd := fun (u : St × St) Y => (wX8 (a0 0) a1 (xy C) u.1 (wT (a1 0) (xy C) u.2 Y))) (F := fun Z => (wX6 o0 a0 (xy C) u_77 Z)) (X := (wX6 o0 a0 (xy C) u_77 [])) (As := [.ref (xk C 11)]) (rest := []) (u := (u_97, u_98)) hC (fun _ _ => rfl) (fun _ => rfl) (ctX8_take h) wvX8_take ml_X6_106 (ci := 7) (q0 := 0) rfl rfl rfl rfl (rmok hR0 rfl) ⟨Nat.zero_le _, Nat.zero_le _⟩ rfl (Nat.le_of_ble_eq_true rfl) dX6_readDebt_104 (fun u_103 h => ?_)
    obtain ⟨u_101, u_102⟩ := u_103
    refine g_aload_n (pc := 107) hC 5 dX6_readDebt_107 rfl rfl ?_
    refine getX6_0 (pc := 108) hC (F := fun Z => Z) (X := []) (fun _ => rfl) fl_X6_20 dX6_readDebt_108 ?_
    refine g_iconst (pc := 111) (v := 0) hC dX6_readDebt_111 (by decide) ?_
    refine g_aload_n (pc := 112) hC 6 dX6_readDebt_112 rfl rfl ?_
    refine getX2_0 (pc := 113) hC (F := fun Z => (wX6 o0 a0 (xy C) u_77 (wX8 (a0 0) a1 (xy C) u_101 (wT (a1 0) (xy C) u_102 Z)))) (X := (wX6 o0 a0 (xy C) u_77 (wX8 (a0 0) a1 (xy C) u_101 (wT (a1 0) (xy C) u_102 [])))) (fun _ => rfl) fl_X6_100 dX6_readDebt_113 ?_
    refine g_iconst (pc := 116) (v := 1) hC dX6_readDebt_116 (by decide) ?_
    refine g_isub (pc := 117) hC dX6_readDebt_117 ?_
    refine g_callV_i (pc := 118) (wd := fun (u : St × St) Y => (wX8 (a0 0) a1 (xy C) u.1 (wT (a1 0) (xy C) u.2 Y))) (F := fun Z => (wX6 o0 a0 (xy C) u_77 Z)) (X := (wX6 o0 a0 (xy C) u_77 [])) (As := [.int (0 : Int32), .int ((gi u_80 0) - (1 : Int32))]) (rest := []) (u := (u_101, u_102)) hC (fun _ _ => rfl) (fun _ => rfl) (ctX8_takeNumber h) wvX8_takeNumber ml_X6_90 (ci := 7) (q0 := 0) rfl rfl rfl rfl (rmok hR0 rfl) ⟨Nat.zero_le _, Nat.zero_le _⟩ rfl (Nat.le_of_ble_eq_true rfl) dX6_readDebt_118 (fun r_106 u_107 h => ?_)
    obtain ⟨u_104, u_105⟩ := u_107
    refine g_istore (pc := 121) (lv' := [(7, .int r_106), (6, .int r_99), (5, .int r_95), (4, .int r_88), (3, .int r_81), (2, .int r_75), (0, .ref o0), (1, .ref o3)]) hC dX6_readDebt_121 (Nat.le_of_ble_eq_true rfl) rfl ?_
    refine g_aload_n (pc := 123) hC 6 dX6_readDebt_123 rfl rfl ?_
    refine getX6_0 (pc := 124) hC (F := fun Z => Z) (X := []) (fun _ => rfl) fl_X6_20 dX6_readDebt_124 ?_
    refine g_gets (pc := 127) hC 12 (Nat.le_of_ble_eq_true rfl) fl_X6_182 dX6_readDebt_127 ?_
    refine g_callV_i (pc := 130) (wd := fun (u : St × St) Y => (wX8 (a0 0) a1 (xy C) u.1 (wT (a1 0) (xy C) u.2 Y))) (F := fun Z => (wX6 o0 a0 (xy C) u_77 Z)) (X := (wX6 o0 a0 (xy C) u_77 [])) (As := [.ref (xk C 12)]) (rest := []) (u := (u_104, u_105)) hC (fun _ _ => rfl) (fun _ => rfl) (ctX8_takeIf h) wvX8_takeIf ml_X6_116 (ci := 7) (q0 := 0) rfl rfl rfl rfl (rmok hR0 rfl) ⟨Nat.zero_le _, Nat.zero_le _⟩ rfl (Nat.le_of_ble_eq_true rfl) dX6_readDebt_130 (fun r_110 u_111 h => ?_)
    obtain ⟨u_108, u_109⟩ := u_111
    refine g_if_eq (pc := 133) (tgt := 149) hC dX6_readDebt_133 (by decide) (fun c_112 => ?_) (fun c_112 => ?_)
    · have h := h.1 c_112
      refine g_iconst (pc := 149) (v := 0) hC dX6_readDebt_149 (by decide) ?_
      refine g_sub (lv' := [(0, .ref o0), (1, .ref o3), (2, .int r_75), (3, .int r_81), (4, .int r_88), (5, .int r_95), (6, .int r_99), (7, .int r_106)]) [6, 7, 5, 4, 3, 2, 1, 0] rfl ?_
      exact kX6_readDebt_b150 hC hR0 hR  h
    · have h := h.2 c_112
      refine g_aload_n (pc := 136) hC 6 dX6_readDebt_136 rfl rfl ?_
      refine getX6_0 (pc := 137) hC (F := fun Z => Z) (X := []) (fun _ => rfl) fl_X6_20 dX6_readDebt_137 ?_
      refine g_iconst (pc := 140) (v := 0) hC dX6_readDebt_140 (by decide) ?_
      refine g_bipush (pc := 141) (v := 99) hC dX6_readDebt_141 (by decide) ?_
      refine g_callV_i (pc := 143) (wd := fun (u : St × St) Y => (wX8 (a0 0) a1 (xy C) u.1 (wT (a1 0) (xy C) u.2 Y))) (F := fun Z => (wX6 o0 a0 (xy C) u_77 Z)) (X := (wX6 o0 a0 (xy C) u_77 [])) (As := [.int (0 : Int32), .int (99 : Int32)]) (rest := []) (u := (u_108, u_109)) hC (fun _ _ => rfl) (fun _ => rfl) (ctX8_takeNumber h) wvX8_takeNumber ml_X6_90 (ci := 7) (q0 := 0) rfl rfl rfl rfl (rmok hR0 rfl) ⟨Nat.zero_le _, Nat.zero_le _⟩ rfl (Nat.le_of_ble_eq_true rfl) dX6_readDebt_143 (fun r_115 u_116 h => ?_)
      obtain ⟨u_113, u_114⟩ := u_116
      refine g_goto (pc := 146) (tgt := 150) hC dX6_readDebt_146 (by decide) ?_
      refine g_sub (lv' := [(0, .ref o0), (1, .ref o3), (2, .int r_75), (3, .int r_81), (4, .int r_88), (5, .int r_95), (6, .int r_99), (7, .int r_106)]) [6, 7, 5, 4, 3, 2, 1, 0] rfl ?_
      exact kX6_readDebt_b150 hC hR0 hR  h
  · have h := h.2 c_67
    refine g_aload_n (pc := 9) hC 0 dX6_readDebt_9 rfl rfl ?_
    refine getX6_0 (pc := 10) hC (F := fun Z => Z) (X := []) (fun _ => rfl) fl_X6_20 dX6_readDebt_10 ?_
    refine g_bipush (pc := 13) (v := 6) hC dX6_readDebt_13 (by decide) ?_
    refine g_callV_i (pc := 15) (wd := fun (u : St × St) Y => (wX8 (a0 0) a1 (xy C) u.1 (wT (a1 0) (xy C) u.2 Y))) (F := fun Z => (wX6 o0 a0 (xy C) u0 Z)) (X := (wX6 o0 a0 (xy C) u0 [])) (As := [.int (6 : Int32)]) (rest := []) (u := (u1, u2)) hC (fun _ _ => rfl) (fun _ => rfl) (ctX8_fail h) wvX8_fail ml_X6_83 (ci := 7) (q0 := 0) rfl rfl rfl rfl (rmok hR0 rfl) ⟨Nat.zero_le _, Nat.zero_le _⟩ rfl (Nat.le_of_ble_eq_true rfl) dX6_readDebt_15 (fun r_119 u_120 h => ?_)
    obtain ⟨u_117, u_118⟩ := u_120
    refine g_pop (pc := 18) hC dX6_readDebt_18 rfl ?_
    exact hR _ _ (u0, u_117, u_118, u3) dX6_readDebt_19 h
theorem ctX6_readDebt {l : Launch} {D : va_G} {cy : Nat → ClassId} {kd : Nat → Nat} {o0 : Nat} {a0 : Nat → Nat} {a1 : Nat → Nat} {o3 : Nat} {a3 : Nat → Nat}  {u0 : St} {u1 : St} {u2 : St} {u3 : St} {post : St → St → St → St → Prop} (h : qX6_readDebt  u0 u1 u2 u3 post) : CtV l D cy kd yX6_readDebt cX6_readDebt 10 5  [.ref o0, .ref o3] (fun u : St × St × St × St => (wX6 o0 a0 cy u.1 (wX8 (a0 0) a1 cy u.2.1 (wT (a1 0) cy u.2.2.1 (wX2 o3 a3 cy u.2.2.2 []))))) (u0, u1, u2, u3) (fun u => post u.1 u.2.1 u.2.2.1 u.2.2.2) := met_v (by decide) (Nat.le_of_ble_eq_true rfl) (fun C e1 e2 e3 e4 e5 hC hR => by subst e1 e2 e3 e4; exact kX6_readDebt hC e5 hR h)
theorem dX6_readPart_0 : decode cX6_readPart 0 = .ok (.aload_n 0, 1) := by decide +kernel
theorem dX6_readPart_1 : decode cX6_readPart 1 = .ok (.getfield 20, 3) := by decide +kernel
theorem dX6_readPart_4 : decode cX6_readPart 4 = .ok (.getstatic 52, 3) := by decide +kernel
theorem dX6_readPart_7 : decode cX6_readPart 7 = .ok (.invokevirtual 58, 3) := by decide +kernel
theorem dX6_readPart_10 : decode cX6_readPart 10 = .ok (.ifCond .eq 11, 3) := by decide +kernel
theorem dX6_readPart_13 : decode cX6_readPart 13 = .ok (.aload_n 0, 1) := by decide +kernel
theorem dX6_readPart_14 : decode cX6_readPart 14 = .ok (.aload_n 1, 1) := by decide +kernel
theorem dX6_readPart_15 : decode cX6_readPart 15 = .ok (.invokevirtual 62, 3) := by decide +kernel
theorem dX6_readPart_18 : decode cX6_readPart 18 = .ok (.goto 75, 3) := by decide +kernel
theorem dX6_readPart_21 : decode cX6_readPart 21 = .ok (.aload_n 0, 1) := by decide +kernel
theorem dX6_readPart_22 : decode cX6_readPart 22 = .ok (.getfield 20, 3) := by decide +kernel
theorem dX6_readPart_25 : decode cX6_readPart 25 = .ok (.getstatic 65, 3) := by decide +kernel
theorem dX6_readPart_28 : decode cX6_readPart 28 = .ok (.invokevirtual 58, 3) := by decide +kernel
theorem dX6_readPart_31 : decode cX6_readPart 31 = .ok (.ifCond .eq 11, 3) := by decide +kernel
theorem dX6_readPart_34 : decode cX6_readPart 34 = .ok (.aload_n 0, 1) := by decide +kernel
theorem dX6_readPart_35 : decode cX6_readPart 35 = .ok (.aload_n 1, 1) := by decide +kernel
theorem dX6_readPart_36 : decode cX6_readPart 36 = .ok (.invokevirtual 68, 3) := by decide +kernel
theorem dX6_readPart_39 : decode cX6_readPart 39 = .ok (.goto 54, 3) := by decide +kernel
theorem dX6_readPart_42 : decode cX6_readPart 42 = .ok (.aload_n 0, 1) := by decide +kernel
theorem dX6_readPart_43 : decode cX6_readPart 43 = .ok (.getfield 20, 3) := by decide +kernel
theorem dX6_readPart_46 : decode cX6_readPart 46 = .ok (.getstatic 71, 3) := by decide +kernel
theorem dX6_readPart_49 : decode cX6_readPart 49 = .ok (.invokevirtual 58, 3) := by decide +kernel
theorem dX6_readPart_52 : decode cX6_readPart 52 = .ok (.ifCond .eq 11, 3) := by decide +kernel
theorem dX6_readPart_55 : decode cX6_readPart 55 = .ok (.aload_n 0, 1) := by decide +kernel
theorem dX6_readPart_56 : decode cX6_readPart 56 = .ok (.aload_n 1, 1) := by decide +kernel
theorem dX6_readPart_57 : decode cX6_readPart 57 = .ok (.invokevirtual 74, 3) := by decide +kernel
theorem dX6_readPart_60 : decode cX6_readPart 60 = .ok (.goto 33, 3) := by decide +kernel
theorem dX6_readPart_63 : decode cX6_readPart 63 = .ok (.aload_n 0, 1) := by decide +kernel
theorem dX6_readPart_64 : decode cX6_readPart 64 = .ok (.getfield 20, 3) := by decide +kernel
theorem dX6_readPart_67 : decode cX6_readPart 67 = .ok (.getstatic 77, 3) := by decide +kernel
theorem dX6_readPart_70 : decode cX6_readPart 70 = .ok (.invokevirtual 58, 3) := by decide +kernel
theorem dX6_readPart_73 : decode cX6_readPart 73 = .ok (.ifCond .eq 11, 3) := by decide +kernel
theorem dX6_readPart_76 : decode cX6_readPart 76 = .ok (.aload_n 0, 1) := by decide +kernel
theorem dX6_readPart_77 : decode cX6_readPart 77 = .ok (.aload_n 1, 1) := by decide +kernel
theorem dX6_readPart_78 : decode cX6_readPart 78 = .ok (.invokevirtual 80, 3) := by decide +kernel
theorem dX6_readPart_81 : decode cX6_readPart 81 = .ok (.goto 12, 3) := by decide +kernel
theorem dX6_readPart_84 : decode cX6_readPart 84 = .ok (.aload_n 0, 1) := by decide +kernel
theorem dX6_readPart_85 : decode cX6_readPart 85 = .ok (.getfield 20, 3) := by decide +kernel
theorem dX6_readPart_88 : decode cX6_readPart 88 = .ok (.iconst 2, 1) := by decide +kernel
theorem dX6_readPart_89 : decode cX6_readPart 89 = .ok (.invokevirtual 83, 3) := by decide +kernel
theorem dX6_readPart_92 : decode cX6_readPart 92 = .ok (.pop, 1) := by decide +kernel
theorem dX6_readPart_93 : decode cX6_readPart 93 = .ok (.return_, 1) := by decide +kernel
def qX6_readPart_b93  (post : St → St → St → St → Prop)  (u0 : St) (u1 : St) (u2 : St) (u3 : St) : Prop := post u0 u1 u2 u3
set_option maxRecDepth 100000 in
set_option maxHeartbeats 4000000 in
theorem kX6_readPart_b93 {C : Cx} {o0 : Nat} {a0 : Nat → Nat} {a1 : Nat → Nat} {o3 : Nat} {a3 : Nat → Nat} (hC : Fx C cX6_readPart 2 RX6) (hR0 : xR C = rm 6) {post : St → St → St → St → Prop} (hR : RV C cX6_readPart 2 (fun u : St × St × St × St => (wX6 o0 a0 (xy C) u.1 (wX8 (a0 0) a1 (xy C) u.2.1 (wT (a1 0) (xy C) u.2.2.1 (wX2 o3 a3 (xy C) u.2.2.2 []))))) (fun u => post u.1 u.2.1 u.2.2.1 u.2.2.2))  {u0 : St} {u1 : St} {u2 : St} {u3 : St} (h : qX6_readPart_b93 post u0 u1 u2 u3) : G C 0 0 2 (wX6 o0 a0 (xy C) u0 (wX8 (a0 0) a1 (xy C) u1 (wT (a1 0) (xy C) u2 (wX2 o3 a3 (xy C) u3 [])))) 93 [] [] := by
  exact hR _ _ (u0, u1, u2, u3) dX6_readPart_93 h
def qX6_readPart  (u0 : St) (u1 : St) (u2 : St) (u3 : St) (post : St → St → St → St → Prop) : Prop := qX8_isAt 0 u1 u2 (fun r_43 u_41 u_42 => ((r_43 = 0 → qX8_isAt 1 u_41 u_42 (fun r_48 u_46 u_47 => ((r_48 = 0 → qX8_isAt 5 u_46 u_47 (fun r_53 u_51 u_52 => ((r_53 = 0 → qX8_isAt 7 u_51 u_52 (fun r_58 u_56 u_57 => ((r_58 = 0 → qX8_fail (2 : Int32) u_56 u_57 (fun r_63 u_61 u_62 => qX6_readPart_b93 post u0 u_61 u_62 u3)) ∧ (¬ r_58 = 0 → qX6_readDebt u0 u_56 u_57 u3 (fun u_65 u_66 u_67 u_68 => qX6_readPart_b93 post u_65 u_66 u_67 u_68))))) ∧ (¬ r_53 = 0 → qX6_readPerson u0 u_51 u_52 u3 (fun u_70 u_71 u_72 u_73 => qX6_readPart_b93 post u_70 u_71 u_72 u_73))))) ∧ (¬ r_48 = 0 → qX6_readStone u0 u_46 u_47 u3 (fun u_75 u_76 u_77 u_78 => qX6_readPart_b93 post u_75 u_76 u_77 u_78))))) ∧ (¬ r_43 = 0 → qX6_readOdds u0 u_41 u_42 u3 (fun u_80 u_81 u_82 u_83 => qX6_readPart_b93 post u_80 u_81 u_82 u_83))))
set_option maxRecDepth 100000 in
set_option maxHeartbeats 4000000 in
theorem kX6_readPart {C : Cx} {o0 : Nat} {a0 : Nat → Nat} {a1 : Nat → Nat} {o3 : Nat} {a3 : Nat → Nat} (hC : Fx C cX6_readPart 2 RX6) (hR0 : xR C = rm 6) {post : St → St → St → St → Prop} (hR : RV C cX6_readPart 2 (fun u : St × St × St × St => (wX6 o0 a0 (xy C) u.1 (wX8 (a0 0) a1 (xy C) u.2.1 (wT (a1 0) (xy C) u.2.2.1 (wX2 o3 a3 (xy C) u.2.2.2 []))))) (fun u => post u.1 u.2.1 u.2.2.1 u.2.2.2))  {u0 : St} {u1 : St} {u2 : St} {u3 : St} (h : qX6_readPart  u0 u1 u2 u3 post) : G C 0 0 2 (wX6 o0 a0 (xy C) u0 (wX8 (a0 0) a1 (xy C) u1 (wT (a1 0) (xy C) u2 (wX2 o3 a3 (xy C) u3 [])))) 0 [(0, .ref o0), (1, .ref o3)] [] := by
  refine g_aload_n (pc := 0) hC 0 dX6_readPart_0 rfl rfl ?_
  refine getX6_0 (pc := 1) hC (F := fun Z => Z) (X := []) (fun _ => rfl) fl_X6_20 dX6_readPart_1 ?_
  refine g_gets (pc := 4) hC 0 (Nat.le_of_ble_eq_true rfl) fl_X6_52 dX6_readPart_4 ?_
  refine g_callV_i (pc := 7) (wd := fun (u : St × St) Y => (wX8 (a0 0) a1 (xy C) u.1 (wT (a1 0) (xy C) u.2 Y))) (F := fun Z => (wX6 o0 a0 (xy C) u0 Z)) (X := (wX6 o0 a0 (xy C) u0 [])) (As := [.ref (xk C 0)]) (rest := []) (u := (u1, u2)) hC (fun _ _ => rfl) (fun _ => rfl) (ctX8_isAt h) wvX8_isAt ml_X6_58 (ci := 7) (q0 := 0) rfl rfl rfl rfl (rmok hR0 rfl) ⟨Nat.zero_le _, Nat.zero_le _⟩ rfl (Nat.le_of_ble_eq_true rfl) dX6_readPart_7 (fun r_43 u_44 h => ?_)
  obtain ⟨u_41, u_42⟩ := u_44
  refine g_if_eq (pc := 10) (tgt := 21) hC dX6_readPart_10 (by decide) (fun c_45 => ?_) (fun c_45 => ?_)
  · have h := h.1 c_45
    refine g_aload_n (pc := 21) hC 0 dX6_readPart_21 rfl rfl ?_
    refine getX6_0 (pc := 22) hC (F := fun Z => Z) (X := []) (fun _ => rfl) fl_X6_20 dX6_readPart_22 ?_
    refine g_gets (pc := 25) hC 1 (Nat.le_of_ble_eq_true rfl) fl_X6_65 dX6_readPart_25 ?_
    refine g_callV_i (pc := 28) (wd := fun (u : St × St) Y => (wX8 (a0 0) a1 (xy C) u.1 (wT (a1 0) (xy C) u.2 Y))) (F := fun Z => (wX6 o0 a0 (xy C) u0 Z)) (X := (wX6 o0 a0 (xy C) u0 [])) (As := [.ref (xk C 1)]) (rest := []) (u := (u_41, u_42)) hC (fun _ _ => rfl) (fun _ => rfl) (ctX8_isAt h) wvX8_isAt ml_X6_58 (ci := 7) (q0 := 0) rfl rfl rfl rfl (rmok hR0 rfl) ⟨Nat.zero_le _, Nat.zero_le _⟩ rfl (Nat.le_of_ble_eq_true rfl) dX6_readPart_28 (fun r_48 u_49 h => ?_)
    obtain ⟨u_46, u_47⟩ := u_49
    refine g_if_eq (pc := 31) (tgt := 42) hC dX6_readPart_31 (by decide) (fun c_50 => ?_) (fun c_50 => ?_)
    · have h := h.1 c_50
      refine g_aload_n (pc := 42) hC 0 dX6_readPart_42 rfl rfl ?_
      refine getX6_0 (pc := 43) hC (F := fun Z => Z) (X := []) (fun _ => rfl) fl_X6_20 dX6_readPart_43 ?_
      refine g_gets (pc := 46) hC 5 (Nat.le_of_ble_eq_true rfl) fl_X6_71 dX6_readPart_46 ?_
      refine g_callV_i (pc := 49) (wd := fun (u : St × St) Y => (wX8 (a0 0) a1 (xy C) u.1 (wT (a1 0) (xy C) u.2 Y))) (F := fun Z => (wX6 o0 a0 (xy C) u0 Z)) (X := (wX6 o0 a0 (xy C) u0 [])) (As := [.ref (xk C 5)]) (rest := []) (u := (u_46, u_47)) hC (fun _ _ => rfl) (fun _ => rfl) (ctX8_isAt h) wvX8_isAt ml_X6_58 (ci := 7) (q0 := 0) rfl rfl rfl rfl (rmok hR0 rfl) ⟨Nat.zero_le _, Nat.zero_le _⟩ rfl (Nat.le_of_ble_eq_true rfl) dX6_readPart_49 (fun r_53 u_54 h => ?_)
      obtain ⟨u_51, u_52⟩ := u_54
      refine g_if_eq (pc := 52) (tgt := 63) hC dX6_readPart_52 (by decide) (fun c_55 => ?_) (fun c_55 => ?_)
      · have h := h.1 c_55
        refine g_aload_n (pc := 63) hC 0 dX6_readPart_63 rfl rfl ?_
        refine getX6_0 (pc := 64) hC (F := fun Z => Z) (X := []) (fun _ => rfl) fl_X6_20 dX6_readPart_64 ?_
        refine g_gets (pc := 67) hC 7 (Nat.le_of_ble_eq_true rfl) fl_X6_77 dX6_readPart_67 ?_
        refine g_callV_i (pc := 70) (wd := fun (u : St × St) Y => (wX8 (a0 0) a1 (xy C) u.1 (wT (a1 0) (xy C) u.2 Y))) (F := fun Z => (wX6 o0 a0 (xy C) u0 Z)) (X := (wX6 o0 a0 (xy C) u0 [])) (As := [.ref (xk C 7)]) (rest := []) (u := (u_51, u_52)) hC (fun _ _ => rfl) (fun _ => rfl) (ctX8_isAt h) wvX8_isAt ml_X6_58 (ci := 7) (q0 := 0) rfl rfl rfl rfl (rmok hR0 rfl) ⟨Nat.zero_le _, Nat.zero_le _⟩ rfl (Nat.le_of_ble_eq_true rfl) dX6_readPart_70 (fun r_58 u_59 h => ?_)
        obtain ⟨u_56, u_57⟩ := u_59
        refine g_if_eq (pc := 73) (tgt := 84) hC dX6_readPart_73 (by decide) (fun c_60 => ?_) (fun c_60 => ?_)
        · have h := h.1 c_60
          refine g_aload_n (pc := 84) hC 0 dX6_readPart_84 rfl rfl ?_
          refine getX6_0 (pc := 85) hC (F := fun Z => Z) (X := []) (fun _ => rfl) fl_X6_20 dX6_readPart_85 ?_
          refine g_iconst (pc := 88) (v := 2) hC dX6_readPart_88 (by decide) ?_
          refine g_callV_i (pc := 89) (wd := fun (u : St × St) Y => (wX8 (a0 0) a1 (xy C) u.1 (wT (a1 0) (xy C) u.2 Y))) (F := fun Z => (wX6 o0 a0 (xy C) u0 Z)) (X := (wX6 o0 a0 (xy C) u0 [])) (As := [.int (2 : Int32)]) (rest := []) (u := (u_56, u_57)) hC (fun _ _ => rfl) (fun _ => rfl) (ctX8_fail h) wvX8_fail ml_X6_83 (ci := 7) (q0 := 0) rfl rfl rfl rfl (rmok hR0 rfl) ⟨Nat.zero_le _, Nat.zero_le _⟩ rfl (Nat.le_of_ble_eq_true rfl) dX6_readPart_89 (fun r_63 u_64 h => ?_)
          obtain ⟨u_61, u_62⟩ := u_64
          refine g_pop (pc := 92) hC dX6_readPart_92 rfl ?_
          refine g_sub (lv' := []) [] rfl ?_
          exact kX6_readPart_b93 hC hR0 hR  h
        · have h := h.2 c_60
          refine g_aload_n (pc := 76) hC 0 dX6_readPart_76 rfl rfl ?_
          refine g_aload_n (pc := 77) hC 1 dX6_readPart_77 rfl rfl ?_
          refine g_callV_v (pc := 78) (wd := fun (u : St × St × St × St) Y => (wX6 o0 a0 (xy C) u.1 (wX8 (a0 0) a1 (xy C) u.2.1 (wT (a1 0) (xy C) u.2.2.1 (wX2 o3 a3 (xy C) u.2.2.2 Y))))) (F := fun Z => Z) (X := []) (As := [.ref o3]) (rest := []) (u := (u0, u_56, u_57, u3)) hC (fun _ _ => rfl) (fun _ => rfl) (ctX6_readDebt h) wvX6_readDebt ml_X6_80 (ci := 5) (q0 := 0) rfl rfl rfl rfl (rmok hR0 rfl) ⟨Nat.zero_le _, Nat.zero_le _⟩ rfl (Nat.le_of_ble_eq_true rfl) dX6_readPart_78 (fun u_69 h => ?_)
          obtain ⟨u_65, u_66, u_67, u_68⟩ := u_69
          refine g_goto (pc := 81) (tgt := 93) hC dX6_readPart_81 (by decide) ?_
          refine g_sub (lv' := []) [] rfl ?_
          exact kX6_readPart_b93 hC hR0 hR  h
      · have h := h.2 c_55
        refine g_aload_n (pc := 55) hC 0 dX6_readPart_55 rfl rfl ?_
        refine g_aload_n (pc := 56) hC 1 dX6_readPart_56 rfl rfl ?_
        refine g_callV_v (pc := 57) (wd := fun (u : St × St × St × St) Y => (wX6 o0 a0 (xy C) u.1 (wX8 (a0 0) a1 (xy C) u.2.1 (wT (a1 0) (xy C) u.2.2.1 (wX2 o3 a3 (xy C) u.2.2.2 Y))))) (F := fun Z => Z) (X := []) (As := [.ref o3]) (rest := []) (u := (u0, u_51, u_52, u3)) hC (fun _ _ => rfl) (fun _ => rfl) (ctX6_readPerson h) wvX6_readPerson ml_X6_74 (ci := 5) (q0 := 0) rfl rfl rfl rfl (rmok hR0 rfl) ⟨Nat.zero_le _, Nat.zero_le _⟩ rfl (Nat.le_of_ble_eq_true rfl) dX6_readPart_57 (fun u_74 h => ?_)
        obtain ⟨u_70, u_71, u_72, u_73⟩ := u_74
        refine g_goto (pc := 60) (tgt := 93) hC dX6_readPart_60 (by decide) ?_
        refine g_sub (lv' := []) [] rfl ?_
        exact kX6_readPart_b93 hC hR0 hR  h
    · have h := h.2 c_50
      refine g_aload_n (pc := 34) hC 0 dX6_readPart_34 rfl rfl ?_
      refine g_aload_n (pc := 35) hC 1 dX6_readPart_35 rfl rfl ?_
      refine g_callV_v (pc := 36) (wd := fun (u : St × St × St × St) Y => (wX6 o0 a0 (xy C) u.1 (wX8 (a0 0) a1 (xy C) u.2.1 (wT (a1 0) (xy C) u.2.2.1 (wX2 o3 a3 (xy C) u.2.2.2 Y))))) (F := fun Z => Z) (X := []) (As := [.ref o3]) (rest := []) (u := (u0, u_46, u_47, u3)) hC (fun _ _ => rfl) (fun _ => rfl) (ctX6_readStone h) wvX6_readStone ml_X6_68 (ci := 5) (q0 := 0) rfl rfl rfl rfl (rmok hR0 rfl) ⟨Nat.zero_le _, Nat.zero_le _⟩ rfl (Nat.le_of_ble_eq_true rfl) dX6_readPart_36 (fun u_79 h => ?_)
      obtain ⟨u_75, u_76, u_77, u_78⟩ := u_79
      refine g_goto (pc := 39) (tgt := 93) hC dX6_readPart_39 (by decide) ?_
      refine g_sub (lv' := []) [] rfl ?_
      exact kX6_readPart_b93 hC hR0 hR  h
  · have h := h.2 c_45
    refine g_aload_n (pc := 13) hC 0 dX6_readPart_13 rfl rfl ?_
    refine g_aload_n (pc := 14) hC 1 dX6_readPart_14 rfl rfl ?_
    refine g_callV_v (pc := 15) (wd := fun (u : St × St × St × St) Y => (wX6 o0 a0 (xy C) u.1 (wX8 (a0 0) a1 (xy C) u.2.1 (wT (a1 0) (xy C) u.2.2.1 (wX2 o3 a3 (xy C) u.2.2.2 Y))))) (F := fun Z => Z) (X := []) (As := [.ref o3]) (rest := []) (u := (u0, u_41, u_42, u3)) hC (fun _ _ => rfl) (fun _ => rfl) (ctX6_readOdds h) wvX6_readOdds ml_X6_62 (ci := 5) (q0 := 0) rfl rfl rfl rfl (rmok hR0 rfl) ⟨Nat.zero_le _, Nat.zero_le _⟩ rfl (Nat.le_of_ble_eq_true rfl) dX6_readPart_15 (fun u_84 h => ?_)
    obtain ⟨u_80, u_81, u_82, u_83⟩ := u_84
    refine g_goto (pc := 18) (tgt := 93) hC dX6_readPart_18 (by decide) ?_
    refine g_sub (lv' := []) [] rfl ?_
    exact kX6_readPart_b93 hC hR0 hR  h
theorem ctX6_readPart {l : Launch} {D : va_G} {cy : Nat → ClassId} {kd : Nat → Nat} {o0 : Nat} {a0 : Nat → Nat} {a1 : Nat → Nat} {o3 : Nat} {a3 : Nat → Nat}  {u0 : St} {u1 : St} {u2 : St} {u3 : St} {post : St → St → St → St → Prop} (h : qX6_readPart  u0 u1 u2 u3 post) : CtV l D cy kd yX6_readPart cX6_readPart 2 6  [.ref o0, .ref o3] (fun u : St × St × St × St => (wX6 o0 a0 cy u.1 (wX8 (a0 0) a1 cy u.2.1 (wT (a1 0) cy u.2.2.1 (wX2 o3 a3 cy u.2.2.2 []))))) (u0, u1, u2, u3) (fun u => post u.1 u.2.1 u.2.2.1 u.2.2.2) := met_v (by decide) (Nat.le_of_ble_eq_true rfl) (fun C e1 e2 e3 e4 e5 hC hR => by subst e1 e2 e3 e4; exact kX6_readPart hC e5 hR h)
theorem dX6_readHouse_0 : decode cX6_readHouse 0 = .ok (.aload_n 2, 1) := by decide +kernel
theorem dX6_readHouse_1 : decode cX6_readHouse 1 = .ok (.invokevirtual 24, 3) := by decide +kernel
theorem dX6_readHouse_4 : decode cX6_readHouse 4 = .ok (.aload_n 0, 1) := by decide +kernel
theorem dX6_readHouse_5 : decode cX6_readHouse 5 = .ok (.iconst 0, 1) := by decide +kernel
theorem dX6_readHouse_6 : decode cX6_readHouse 6 = .ok (.putfield 29, 3) := by decide +kernel
theorem dX6_readHouse_9 : decode cX6_readHouse 9 = .ok (.aload_n 0, 1) := by decide +kernel
theorem dX6_readHouse_10 : decode cX6_readHouse 10 = .ok (.getfield 20, 3) := by decide +kernel
theorem dX6_readHouse_13 : decode cX6_readHouse 13 = .ok (.iload_n 1, 1) := by decide +kernel
theorem dX6_readHouse_14 : decode cX6_readHouse 14 = .ok (.invokevirtual 33, 3) := by decide +kernel
theorem dX6_readHouse_17 : decode cX6_readHouse 17 = .ok (.iconst 0, 1) := by decide +kernel
theorem dX6_readHouse_18 : decode cX6_readHouse 18 = .ok (.istore_n 3, 1) := by decide +kernel
theorem dX6_readHouse_19 : decode cX6_readHouse 19 = .ok (.iload_n 3, 1) := by decide +kernel
theorem dX6_readHouse_20 : decode cX6_readHouse 20 = .ok (.sipush 900, 3) := by decide +kernel
theorem dX6_readHouse_23 : decode cX6_readHouse 23 = .ok (.if_icmp .gt 34, 3) := by decide +kernel
theorem dX6_readHouse_26 : decode cX6_readHouse 26 = .ok (.aload_n 0, 1) := by decide +kernel
theorem dX6_readHouse_27 : decode cX6_readHouse 27 = .ok (.getfield 20, 3) := by decide +kernel
theorem dX6_readHouse_30 : decode cX6_readHouse 30 = .ok (.getfield 37, 3) := by decide +kernel
theorem dX6_readHouse_33 : decode cX6_readHouse 33 = .ok (.ifCond .ne 24, 3) := by decide +kernel
theorem dX6_readHouse_36 : decode cX6_readHouse 36 = .ok (.aload_n 0, 1) := by decide +kernel
theorem dX6_readHouse_37 : decode cX6_readHouse 37 = .ok (.getfield 20, 3) := by decide +kernel
theorem dX6_readHouse_40 : decode cX6_readHouse 40 = .ok (.invokevirtual 41, 3) := by decide +kernel
theorem dX6_readHouse_43 : decode cX6_readHouse 43 = .ok (.ifCond .ne 14, 3) := by decide +kernel
theorem dX6_readHouse_46 : decode cX6_readHouse 46 = .ok (.aload_n 0, 1) := by decide +kernel
theorem dX6_readHouse_47 : decode cX6_readHouse 47 = .ok (.aload_n 2, 1) := by decide +kernel
theorem dX6_readHouse_48 : decode cX6_readHouse 48 = .ok (.invokevirtual 45, 3) := by decide +kernel
theorem dX6_readHouse_51 : decode cX6_readHouse 51 = .ok (.iinc 3 1, 3) := by decide +kernel
theorem dX6_readHouse_54 : decode cX6_readHouse 54 = .ok (.goto (-35), 3) := by decide +kernel
theorem dX6_readHouse_57 : decode cX6_readHouse 57 = .ok (.aload_n 0, 1) := by decide +kernel
theorem dX6_readHouse_58 : decode cX6_readHouse 58 = .ok (.getfield 20, 3) := by decide +kernel
theorem dX6_readHouse_61 : decode cX6_readHouse 61 = .ok (.getfield 37, 3) := by decide +kernel
theorem dX6_readHouse_64 : decode cX6_readHouse 64 = .ok (.ifCond .ne 7, 3) := by decide +kernel
theorem dX6_readHouse_67 : decode cX6_readHouse 67 = .ok (.aload_n 2, 1) := by decide +kernel
theorem dX6_readHouse_68 : decode cX6_readHouse 68 = .ok (.invokevirtual 49, 3) := by decide +kernel
theorem dX6_readHouse_71 : decode cX6_readHouse 71 = .ok (.return_, 1) := by decide +kernel
def qX6_readHouse_b71  (post : St → St → St → St → Prop)  (u0 : St) (u1 : St) (u2 : St) (u3 : St) : Prop := post u0 u1 u2 u3
set_option maxRecDepth 100000 in
set_option maxHeartbeats 4000000 in
theorem kX6_readHouse_b71 {C : Cx} {o0 : Nat} {a0 : Nat → Nat} {a1 : Nat → Nat} {o3 : Nat} {a3 : Nat → Nat} (hC : Fx C cX6_readHouse 4 RX6) (hR0 : xR C = rm 7) {post : St → St → St → St → Prop} (hR : RV C cX6_readHouse 4 (fun u : St × St × St × St => (wX6 o0 a0 (xy C) u.1 (wX8 (a0 0) a1 (xy C) u.2.1 (wT (a1 0) (xy C) u.2.2.1 (wX2 o3 a3 (xy C) u.2.2.2 []))))) (fun u => post u.1 u.2.1 u.2.2.1 u.2.2.2))  {u0 : St} {u1 : St} {u2 : St} {u3 : St} (h : qX6_readHouse_b71 post u0 u1 u2 u3) : G C 0 0 4 (wX6 o0 a0 (xy C) u0 (wX8 (a0 0) a1 (xy C) u1 (wT (a1 0) (xy C) u2 (wX2 o3 a3 (xy C) u3 [])))) 71 [] [] := by
  exact hR _ _ (u0, u1, u2, u3) dX6_readHouse_71 h
def qX6_readHouse_b57  (post : St → St → St → St → Prop)  (u0 : St) (u1 : St) (u2 : St) (u3 : St) : Prop := ((¬ (gi u1 8) = 0 → qX6_readHouse_b71 post u0 u1 u2 u3) ∧ ((gi u1 8) = 0 → qX2_settle u3 (fun u_20 => qX6_readHouse_b71 post u0 u1 u2 u_20)))
set_option maxRecDepth 100000 in
set_option maxHeartbeats 4000000 in
theorem kX6_readHouse_b57 {C : Cx} {o0 : Nat} {a0 : Nat → Nat} {a1 : Nat → Nat} {o3 : Nat} {a3 : Nat → Nat} (hC : Fx C cX6_readHouse 4 RX6) (hR0 : xR C = rm 7) {post : St → St → St → St → Prop} (hR : RV C cX6_readHouse 4 (fun u : St × St × St × St => (wX6 o0 a0 (xy C) u.1 (wX8 (a0 0) a1 (xy C) u.2.1 (wT (a1 0) (xy C) u.2.2.1 (wX2 o3 a3 (xy C) u.2.2.2 []))))) (fun u => post u.1 u.2.1 u.2.2.1 u.2.2.2))  {u0 : St} {u1 : St} {u2 : St} {u3 : St} (h : qX6_readHouse_b57 post u0 u1 u2 u3) : G C 0 0 4 (wX6 o0 a0 (xy C) u0 (wX8 (a0 0) a1 (xy C) u1 (wT (a1 0) (xy C) u2 (wX2 o3 a3 (xy C) u3 [])))) 57 [(0, .ref o0), (2, .ref o3)] [] := by
  refine g_aload_n (pc := 57) hC 0 dX6_readHouse_57 rfl rfl ?_
  refine getX6_0 (pc := 58) hC (F := fun Z => Z) (X := []) (fun _ => rfl) fl_X6_20 dX6_readHouse_58 ?_
  refine getX8_8 (pc := 61) hC (F := fun Z => (wX6 o0 a0 (xy C) u0 Z)) (X := (wX6 o0 a0 (xy C) u0 [])) (fun _ => rfl) fl_X6_37 dX6_readHouse_61 ?_
  refine g_if_ne (pc := 64) (tgt := 71) hC dX6_readHouse_64 (by decide) (fun c_19 => ?_) (fun c_19 => ?_)
  · have h := h.1 c_19
    refine g_sub (lv' := []) [] rfl ?_
    exact kX6_readHouse_b71 hC hR0 hR  h
  · have h := h.2 c_19
    refine g_aload_n (pc := 67) hC 1 dX6_readHouse_67 rfl rfl ?_
    refine g_callV_v (pc := 68) (wd := fun (u : St) Y => (wX2 o3 a3 (xy C) u Y)) (F := fun Z => (wX6 o0 a0 (xy C) u0 (wX8 (a0 0) a1 (xy C) u1 (wT (a1 0) (xy C) u2 Z)))) (X := (wX6 o0 a0 (xy C) u0 (wX8 (a0 0) a1 (xy C) u1 (wT (a1 0) (xy C) u2 [])))) (As := []) (rest := []) (u := u3) hC (fun _ _ => rfl) (fun _ => rfl) (ctX2_settle h) wvX2_settle ml_X6_49 (ci := 1) (q0 := 0) rfl rfl rfl rfl (rmok hR0 rfl) ⟨Nat.zero_le _, Nat.zero_le _⟩ rfl (Nat.le_of_ble_eq_true rfl) dX6_readHouse_68 (fun u_20 h => ?_)
    refine g_sub (lv' := []) [] rfl ?_
    exact kX6_readHouse_b71 hC hR0 hR  h
def qX6_readHouse_l19  (post : St → St → St → St → Prop) (K19 : Int32 → St → St → St → St → Prop) (x3 : Int32) (u0 : St) (u1 : St) (u2 : St) (u3 : St) : Prop := (((900 : Int32) < x3 → qX6_readHouse_b57 post u0 u1 u2 u3) ∧ (¬ (900 : Int32) < x3 → ((¬ (gi u1 8) = 0 → qX6_readHouse_b57 post u0 u1 u2 u3) ∧ ((gi u1 8) = 0 → qX8_isAtEnd u1 u2 (fun r_26 u_24 u_25 => ((¬ r_26 = 0 → qX6_readHouse_b57 post u0 u_24 u_25 u3) ∧ (r_26 = 0 → qX6_readPart u0 u_24 u_25 u3 (fun u_29 u_30 u_31 u_32 => ∀ x3_34 : Int32, x3_34 = x3 + (1 : Int32) → K19 x3_34 u_29 u_30 u_31 u_32))))))))
set_option maxRecDepth 100000 in
set_option maxHeartbeats 4000000 in
theorem kX6_readHouse_l19 {C : Cx} {o0 : Nat} {a0 : Nat → Nat} {a1 : Nat → Nat} {o3 : Nat} {a3 : Nat → Nat} (hC : Fx C cX6_readHouse 4 RX6) (hR0 : xR C = rm 7) {post : St → St → St → St → Prop} (hR : RV C cX6_readHouse 4 (fun u : St × St × St × St => (wX6 o0 a0 (xy C) u.1 (wX8 (a0 0) a1 (xy C) u.2.1 (wT (a1 0) (xy C) u.2.2.1 (wX2 o3 a3 (xy C) u.2.2.2 []))))) (fun u => post u.1 u.2.1 u.2.2.1 u.2.2.2))  {K19 : Int32 → St → St → St → St → Prop} (hK19 : ∀ (x3 : Int32) (u0 : St) (u1 : St) (u2 : St) (u3 : St), K19 x3 u0 u1 u2 u3 → G C 0 0 4 (wX6 o0 a0 (xy C) u0 (wX8 (a0 0) a1 (xy C) u1 (wT (a1 0) (xy C) u2 (wX2 o3 a3 (xy C) u3 [])))) 19 [(0, .ref o0), (2, .ref o3), (3, .int x3)] []) {x3 : Int32} {u0 : St} {u1 : St} {u2 : St} {u3 : St} (h : qX6_readHouse_l19 post K19 x3 u0 u1 u2 u3) : G C 0 0 4 (wX6 o0 a0 (xy C) u0 (wX8 (a0 0) a1 (xy C) u1 (wT (a1 0) (xy C) u2 (wX2 o3 a3 (xy C) u3 [])))) 19 [(0, .ref o0), (2, .ref o3), (3, .int x3)] [] := by
  refine g_iload_n (pc := 19) hC 2 dX6_readHouse_19 rfl rfl ?_
  refine g_sipush (pc := 20) (v := 900) hC dX6_readHouse_20 (by decide) ?_
  refine g_icmp_gt (pc := 23) (tgt := 57) hC dX6_readHouse_23 (by decide) (fun c_22 => ?_) (fun c_22 => ?_)
  · have h := h.1 c_22
    refine g_sub (lv' := [(0, .ref o0), (2, .ref o3)]) [0, 1] rfl ?_
    exact kX6_readHouse_b57 hC hR0 hR  h
  · have h := h.2 c_22
    refine g_aload_n (pc := 26) hC 0 dX6_readHouse_26 rfl rfl ?_
    refine getX6_0 (pc := 27) hC (F := fun Z => Z) (X := []) (fun _ => rfl) fl_X6_20 dX6_readHouse_27 ?_
    refine getX8_8 (pc := 30) hC (F := fun Z => (wX6 o0 a0 (xy C) u0 Z)) (X := (wX6 o0 a0 (xy C) u0 [])) (fun _ => rfl) fl_X6_37 dX6_readHouse_30 ?_
    refine g_if_ne (pc := 33) (tgt := 57) hC dX6_readHouse_33 (by decide) (fun c_23 => ?_) (fun c_23 => ?_)
    · have h := h.1 c_23
      refine g_sub (lv' := [(0, .ref o0), (2, .ref o3)]) [0, 1] rfl ?_
      exact kX6_readHouse_b57 hC hR0 hR  h
    · have h := h.2 c_23
      refine g_aload_n (pc := 36) hC 0 dX6_readHouse_36 rfl rfl ?_
      refine getX6_0 (pc := 37) hC (F := fun Z => Z) (X := []) (fun _ => rfl) fl_X6_20 dX6_readHouse_37 ?_
      refine g_callV_i (pc := 40) (wd := fun (u : St × St) Y => (wX8 (a0 0) a1 (xy C) u.1 (wT (a1 0) (xy C) u.2 Y))) (F := fun Z => (wX6 o0 a0 (xy C) u0 Z)) (X := (wX6 o0 a0 (xy C) u0 [])) (As := []) (rest := []) (u := (u1, u2)) hC (fun _ _ => rfl) (fun _ => rfl) (ctX8_isAtEnd h) wvX8_isAtEnd ml_X6_41 (ci := 7) (q0 := 0) rfl rfl rfl rfl (rmok hR0 rfl) ⟨Nat.zero_le _, Nat.zero_le _⟩ rfl (Nat.le_of_ble_eq_true rfl) dX6_readHouse_40 (fun r_26 u_27 h => ?_)
      obtain ⟨u_24, u_25⟩ := u_27
      refine g_if_ne (pc := 43) (tgt := 57) hC dX6_readHouse_43 (by decide) (fun c_28 => ?_) (fun c_28 => ?_)
      · have h := h.1 c_28
        refine g_sub (lv' := [(0, .ref o0), (2, .ref o3)]) [0, 1] rfl ?_
        exact kX6_readHouse_b57 hC hR0 hR  h
      · have h := h.2 c_28
        refine g_aload_n (pc := 46) hC 0 dX6_readHouse_46 rfl rfl ?_
        refine g_aload_n (pc := 47) hC 1 dX6_readHouse_47 rfl rfl ?_
        refine g_callV_v (pc := 48) (wd := fun (u : St × St × St × St) Y => (wX6 o0 a0 (xy C) u.1 (wX8 (a0 0) a1 (xy C) u.2.1 (wT (a1 0) (xy C) u.2.2.1 (wX2 o3 a3 (xy C) u.2.2.2 Y))))) (F := fun Z => Z) (X := []) (As := [.ref o3]) (rest := []) (u := (u0, u_24, u_25, u3)) hC (fun _ _ => rfl) (fun _ => rfl) (ctX6_readPart h) wvX6_readPart ml_X6_45 (ci := 5) (q0 := 0) rfl rfl rfl rfl (rmok hR0 rfl) ⟨Nat.zero_le _, Nat.zero_le _⟩ rfl (Nat.le_of_ble_eq_true rfl) dX6_readHouse_48 (fun u_33 h => ?_)
        obtain ⟨u_29, u_30, u_31, u_32⟩ := u_33
        obtain ⟨x3_34, ex3_34⟩ : ∃ z : Int32, z = x3 + (1 : Int32) := ⟨_, rfl⟩
        have h := h x3_34 ex3_34
        refine g_iinc (pc := 51) (v := x3_34) (lv' := [(3, .int x3_34), (0, .ref o0), (2, .ref o3)]) hC 2 dX6_readHouse_51 rfl (by rw [ex3_34]; rfl) (Nat.le_of_ble_eq_true rfl) rfl ?_
        refine g_goto (pc := 54) (tgt := 19) hC dX6_readHouse_54 (by decide) ?_
        refine g_sub (lv' := [(0, .ref o0), (2, .ref o3), (3, .int x3_34)]) [1, 2, 0] rfl ?_
        exact hK19 _ _ _ _ _ h
def qX6_readHouse_L19  (post : St → St → St → St → Prop)  : Nat → Int32 → St → St → St → St → Prop
  | 0 => fun _ _ _ _ _ => False
  | n + 1 => qX6_readHouse_l19 post (qX6_readHouse_L19 post n)
theorem kX6_readHouse_L19 {C : Cx} {o0 : Nat} {a0 : Nat → Nat} {a1 : Nat → Nat} {o3 : Nat} {a3 : Nat → Nat} (hC : Fx C cX6_readHouse 4 RX6) (hR0 : xR C = rm 7) {post : St → St → St → St → Prop} (hR : RV C cX6_readHouse 4 (fun u : St × St × St × St => (wX6 o0 a0 (xy C) u.1 (wX8 (a0 0) a1 (xy C) u.2.1 (wT (a1 0) (xy C) u.2.2.1 (wX2 o3 a3 (xy C) u.2.2.2 []))))) (fun u => post u.1 u.2.1 u.2.2.1 u.2.2.2))  : ∀ (n : Nat) (x3 : Int32) (u0 : St) (u1 : St) (u2 : St) (u3 : St), qX6_readHouse_L19 post n x3 u0 u1 u2 u3 → G C 0 0 4 (wX6 o0 a0 (xy C) u0 (wX8 (a0 0) a1 (xy C) u1 (wT (a1 0) (xy C) u2 (wX2 o3 a3 (xy C) u3 [])))) 19 [(0, .ref o0), (2, .ref o3), (3, .int x3)] [] := by
  intro n
  induction n with
  | zero => intro x3 u0 u1 u2 u3 h; exact h.elim
  | succ n ih => intro x3 u0 u1 u2 u3 h; exact kX6_readHouse_l19 hC hR0 hR  ih h
def qX6_readHouse (x1 : Int32) (u0 : St) (u1 : St) (u2 : St) (u3 : St) (post : St → St → St → St → Prop) : Prop := qX2_clear u3 (fun u_35 => ∀ u_37 : St, u_37 = (si u0 3 (0 : Int32)) → qX8_begin x1 u1 u2 (fun u_38 u_39 => ∃ n_41 : Nat, qX6_readHouse_L19 post n_41 (0 : Int32) u_37 u_38 u_39 u_35))
set_option maxRecDepth 100000 in
set_option maxHeartbeats 4000000 in
theorem kX6_readHouse {C : Cx} {o0 : Nat} {a0 : Nat → Nat} {a1 : Nat → Nat} {o3 : Nat} {a3 : Nat → Nat} (hC : Fx C cX6_readHouse 4 RX6) (hR0 : xR C = rm 7) {post : St → St → St → St → Prop} (hR : RV C cX6_readHouse 4 (fun u : St × St × St × St => (wX6 o0 a0 (xy C) u.1 (wX8 (a0 0) a1 (xy C) u.2.1 (wT (a1 0) (xy C) u.2.2.1 (wX2 o3 a3 (xy C) u.2.2.2 []))))) (fun u => post u.1 u.2.1 u.2.2.1 u.2.2.2)) {x1 : Int32} {u0 : St} {u1 : St} {u2 : St} {u3 : St} (h : qX6_readHouse x1 u0 u1 u2 u3 post) : G C 0 0 4 (wX6 o0 a0 (xy C) u0 (wX8 (a0 0) a1 (xy C) u1 (wT (a1 0) (xy C) u2 (wX2 o3 a3 (xy C) u3 [])))) 0 [(0, .ref o0), (1, .int x1), (2, .ref o3)] [] := by
  refine g_aload_n (pc := 0) hC 2 dX6_readHouse_0 rfl rfl ?_
  refine g_callV_v (pc := 1) (wd := fun (u : St) Y => (wX2 o3 a3 (xy C) u Y)) (F := fun Z => (wX6 o0 a0 (xy C) u0 (wX8 (a0 0) a1 (xy C) u1 (wT (a1 0) (xy C) u2 Z)))) (X := (wX6 o0 a0 (xy C) u0 (wX8 (a0 0) a1 (xy C) u1 (wT (a1 0) (xy C) u2 [])))) (As := []) (rest := []) (u := u3) hC (fun _ _ => rfl) (fun _ => rfl) (ctX2_clear h) wvX2_clear ml_X6_24 (ci := 1) (q0 := 0) rfl rfl rfl rfl (rmok hR0 rfl) ⟨Nat.zero_le _, Nat.zero_le _⟩ rfl (Nat.le_of_ble_eq_true rfl) dX6_readHouse_1 (fun u_35 h => ?_)
  refine g_aload_n (pc := 4) hC 0 dX6_readHouse_4 rfl rfl ?_
  refine g_iconst (pc := 5) (v := 0) hC dX6_readHouse_5 (by decide) ?_
  refine putX6_3 (pc := 6) hC (F := fun Z => Z) (X := []) (fun _ => rfl) fl_X6_29 (Or.inl rfl) dX6_readHouse_6 ?_
  refine g_st (w := fun z => (wX6 o0 a0 (xy C) z (wX8 (a0 0) a1 (xy C) u1 (wT (a1 0) (xy C) u2 (wX2 o3 a3 (xy C) u_35 []))))) (u := (si u0 3 (0 : Int32))) (fun u_37 eu_37 => ?_)
  have h := h u_37 eu_37
  refine g_aload_n (pc := 9) hC 0 dX6_readHouse_9 rfl rfl ?_
  refine getX6_0 (pc := 10) hC (F := fun Z => Z) (X := []) (fun _ => rfl) fl_X6_20 dX6_readHouse_10 ?_
  refine g_iload_n (pc := 13) hC 1 dX6_readHouse_13 rfl rfl ?_
  refine g_callV_v (pc := 14) (wd := fun (u : St × St) Y => (wX8 (a0 0) a1 (xy C) u.1 (wT (a1 0) (xy C) u.2 Y))) (F := fun Z => (wX6 o0 a0 (xy C) u_37 Z)) (X := (wX6 o0 a0 (xy C) u_37 [])) (As := [.int x1]) (rest := []) (u := (u1, u2)) hC (fun _ _ => rfl) (fun _ => rfl) (ctX8_begin h) wvX8_begin ml_X6_33 (ci := 7) (q0 := 0) rfl rfl rfl rfl (rmok hR0 rfl) ⟨Nat.zero_le _, Nat.zero_le _⟩ rfl (Nat.le_of_ble_eq_true rfl) dX6_readHouse_14 (fun u_40 h => ?_)
  obtain ⟨u_38, u_39⟩ := u_40
  refine g_iconst (pc := 17) (v := 0) hC dX6_readHouse_17 (by decide) ?_
  refine g_istore_n (pc := 18) (lv' := [(3, .int (0 : Int32)), (0, .ref o0), (1, .int x1), (2, .ref o3)]) hC dX6_readHouse_18 rfl (Nat.le_of_ble_eq_true rfl) rfl ?_
  refine g_sub (lv' := [(0, .ref o0), (2, .ref o3), (3, .int (0 : Int32))]) [1, 3, 0] rfl ?_
  obtain ⟨n_41, h⟩ := h
  exact kX6_readHouse_L19 hC hR0 hR  n_41 _ _ _ _ _ h
theorem ctX6_readHouse {l : Launch} {D : va_G} {cy : Nat → ClassId} {kd : Nat → Nat} {o0 : Nat} {a0 : Nat → Nat} {a1 : Nat → Nat} {o3 : Nat} {a3 : Nat → Nat} {x1 : Int32} {u0 : St} {u1 : St} {u2 : St} {u3 : St} {post : St → St → St → St → Prop} (h : qX6_readHouse x1 u0 u1 u2 u3 post) : CtV l D cy kd yX6_readHouse cX6_readHouse 4 7  [.ref o0, .int x1, .ref o3] (fun u : St × St × St × St => (wX6 o0 a0 cy u.1 (wX8 (a0 0) a1 cy u.2.1 (wT (a1 0) cy u.2.2.1 (wX2 o3 a3 cy u.2.2.2 []))))) (u0, u1, u2, u3) (fun u => post u.1 u.2.1 u.2.2.1 u.2.2.2) := met_v (by decide) (Nat.le_of_ble_eq_true rfl) (fun C e1 e2 e3 e4 e5 hC hR => by subst e1 e2 e3 e4; exact kX6_readHouse hC e5 hR h)
theorem dX6_closeBlock_0 : decode cX6_closeBlock 0 = .ok (.aload_n 0, 1) := by decide +kernel
theorem dX6_closeBlock_1 : decode cX6_closeBlock 1 = .ok (.getfield 195, 3) := by decide +kernel
theorem dX6_closeBlock_4 : decode cX6_closeBlock 4 = .ok (.ifCond .gt 13, 3) := by decide +kernel
theorem dX6_closeBlock_7 : decode cX6_closeBlock 7 = .ok (.aload_n 0, 1) := by decide +kernel
theorem dX6_closeBlock_8 : decode cX6_closeBlock 8 = .ok (.getfield 20, 3) := by decide +kernel
theorem dX6_closeBlock_11 : decode cX6_closeBlock 11 = .ok (.iconst 2, 1) := by decide +kernel
theorem dX6_closeBlock_12 : decode cX6_closeBlock 12 = .ok (.invokevirtual 83, 3) := by decide +kernel
theorem dX6_closeBlock_15 : decode cX6_closeBlock 15 = .ok (.pop, 1) := by decide +kernel
theorem dX6_closeBlock_16 : decode cX6_closeBlock 16 = .ok (.return_, 1) := by decide +kernel
theorem dX6_closeBlock_17 : decode cX6_closeBlock 17 = .ok (.aload_n 0, 1) := by decide +kernel
theorem dX6_closeBlock_18 : decode cX6_closeBlock 18 = .ok (.getfield 20, 3) := by decide +kernel
theorem dX6_closeBlock_21 : decode cX6_closeBlock 21 = .ok (.invokevirtual 87, 3) := by decide +kernel
theorem dX6_closeBlock_24 : decode cX6_closeBlock 24 = .ok (.aload_n 0, 1) := by decide +kernel
theorem dX6_closeBlock_25 : decode cX6_closeBlock 25 = .ok (.getfield 20, 3) := by decide +kernel
theorem dX6_closeBlock_28 : decode cX6_closeBlock 28 = .ok (.invokevirtual 97, 3) := by decide +kernel
theorem dX6_closeBlock_31 : decode cX6_closeBlock 31 = .ok (.aload_n 0, 1) := by decide +kernel
theorem dX6_closeBlock_32 : decode cX6_closeBlock 32 = .ok (.dup, 1) := by decide +kernel
theorem dX6_closeBlock_33 : decode cX6_closeBlock 33 = .ok (.getfield 195, 3) := by decide +kernel
theorem dX6_closeBlock_36 : decode cX6_closeBlock 36 = .ok (.iconst 1, 1) := by decide +kernel
theorem dX6_closeBlock_37 : decode cX6_closeBlock 37 = .ok (.isub, 1) := by decide +kernel
theorem dX6_closeBlock_38 : decode cX6_closeBlock 38 = .ok (.putfield 195, 3) := by decide +kernel
theorem dX6_closeBlock_41 : decode cX6_closeBlock 41 = .ok (.aload_n 1, 1) := by decide +kernel
theorem dX6_closeBlock_42 : decode cX6_closeBlock 42 = .ok (.bipush 13, 2) := by decide +kernel
theorem dX6_closeBlock_44 : decode cX6_closeBlock 44 = .ok (.iconst 0, 1) := by decide +kernel
theorem dX6_closeBlock_45 : decode cX6_closeBlock 45 = .ok (.iconst 0, 1) := by decide +kernel
theorem dX6_closeBlock_46 : decode cX6_closeBlock 46 = .ok (.iconst 0, 1) := by decide +kernel
theorem dX6_closeBlock_47 : decode cX6_closeBlock 47 = .ok (.invokevirtual 212, 3) := by decide +kernel
theorem dX6_closeBlock_50 : decode cX6_closeBlock 50 = .ok (.istore_n 2, 1) := by decide +kernel
theorem dX6_closeBlock_51 : decode cX6_closeBlock 51 = .ok (.aload_n 1, 1) := by decide +kernel
theorem dX6_closeBlock_52 : decode cX6_closeBlock 52 = .ok (.aload_n 0, 1) := by decide +kernel
theorem dX6_closeBlock_53 : decode cX6_closeBlock 53 = .ok (.getfield 9, 3) := by decide +kernel
theorem dX6_closeBlock_56 : decode cX6_closeBlock 56 = .ok (.aload_n 0, 1) := by decide +kernel
theorem dX6_closeBlock_57 : decode cX6_closeBlock 57 = .ok (.getfield 195, 3) := by decide +kernel
theorem dX6_closeBlock_60 : decode cX6_closeBlock 60 = .ok (.iaload, 1) := by decide +kernel
theorem dX6_closeBlock_61 : decode cX6_closeBlock 61 = .ok (.iload_n 2, 1) := by decide +kernel
theorem dX6_closeBlock_62 : decode cX6_closeBlock 62 = .ok (.invokevirtual 216, 3) := by decide +kernel
theorem dX6_closeBlock_65 : decode cX6_closeBlock 65 = .ok (.return_, 1) := by decide +kernel
def qX6_closeBlock  (u0 : St) (u1 : St) (u2 : St) (u3 : St) (post : St → St → St → St → Prop) : Prop := ((0 < (gi u0 2) → qX8_advance u1 u2 (fun u_18 u_19 => qX8_takeSemicolon u_18 u_19 (fun u_21 u_22 => ∀ u_24 : St, u_24 = (si u0 2 ((gi u0 2) - (1 : Int32))) → qX7_add (13 : Int32) (0 : Int32) (0 : Int32) (0 : Int32) u3 (fun r_26 u_25 => (vp_in (gi u_24 2) 3 ∧ qX7_join (ga u_24 1 ((gi u_24 2)).toNatClampNeg) r_26 u_25 (fun u_28 => post u_24 u_21 u_22 u_28)))))) ∧ (¬ 0 < (gi u0 2) → qX8_fail (2 : Int32) u1 u2 (fun r_32 u_30 u_31 => post u0 u_30 u_31 u3)))
set_option maxRecDepth 100000 in
set_option maxHeartbeats 4000000 in
theorem kX6_closeBlock {C : Cx} {o0 : Nat} {a0 : Nat → Nat} {a1 : Nat → Nat} {o3 : Nat} {a3 : Nat → Nat} (hC : Fx C cX6_closeBlock 3 RX6) (hR0 : xR C = rm 5) {post : St → St → St → St → Prop} (hR : RV C cX6_closeBlock 3 (fun u : St × St × St × St => (wX6 o0 a0 (xy C) u.1 (wX8 (a0 0) a1 (xy C) u.2.1 (wT (a1 0) (xy C) u.2.2.1 (wX7 o3 a3 (xy C) u.2.2.2 []))))) (fun u => post u.1 u.2.1 u.2.2.1 u.2.2.2))  {u0 : St} {u1 : St} {u2 : St} {u3 : St} (h : qX6_closeBlock  u0 u1 u2 u3 post) : G C 0 0 3 (wX6 o0 a0 (xy C) u0 (wX8 (a0 0) a1 (xy C) u1 (wT (a1 0) (xy C) u2 (wX7 o3 a3 (xy C) u3 [])))) 0 [(0, .ref o0), (1, .ref o3)] [] := by
  refine g_aload_n (pc := 0) hC 0 dX6_closeBlock_0 rfl rfl ?_
  refine getX6_2 (pc := 1) hC (F := fun Z => Z) (X := []) (fun _ => rfl) fl_X6_195 dX6_closeBlock_1 ?_
  refine g_if_gt (pc := 4) (tgt := 17) hC dX6_closeBlock_4 (by decide) (fun c_17 => ?_) (fun c_17 => ?_)
  · have h := h.1 c_17
    refine g_aload_n (pc := 17) hC 0 dX6_closeBlock_17 rfl rfl ?_
    refine getX6_0 (pc := 18) hC (F := fun Z => Z) (X := []) (fun _ => rfl) fl_X6_20 dX6_closeBlock_18 ?_
    refine g_callV_v (pc := 21) (wd := fun (u : St × St) Y => (wX8 (a0 0) a1 (xy C) u.1 (wT (a1 0) (xy C) u.2 Y))) (F := fun Z => (wX6 o0 a0 (xy C) u0 Z)) (X := (wX6 o0 a0 (xy C) u0 [])) (As := []) (rest := []) (u := (u1, u2)) hC (fun _ _ => rfl) (fun _ => rfl) (ctX8_advance h) wvX8_advance ml_X6_87 (ci := 7) (q0 := 0) rfl rfl rfl rfl (rmok hR0 rfl) ⟨Nat.zero_le _, Nat.zero_le _⟩ rfl (Nat.le_of_ble_eq_true rfl) dX6_closeBlock_21 (fun u_20 h => ?_)
    obtain ⟨u_18, u_19⟩ := u_20
    refine g_aload_n (pc := 24) hC 0 dX6_closeBlock_24 rfl rfl ?_
    refine getX6_0 (pc := 25) hC (F := fun Z => Z) (X := []) (fun _ => rfl) fl_X6_20 dX6_closeBlock_25 ?_
    refine g_callV_v (pc := 28) (wd := fun (u : St × St) Y => (wX8 (a0 0) a1 (xy C) u.1 (wT (a1 0) (xy C) u.2 Y))) (F := fun Z => (wX6 o0 a0 (xy C) u0 Z)) (X := (wX6 o0 a0 (xy C) u0 [])) (As := []) (rest := []) (u := (u_18, u_19)) hC (fun _ _ => rfl) (fun _ => rfl) (ctX8_takeSemicolon h) wvX8_takeSemicolon ml_X6_97 (ci := 7) (q0 := 0) rfl rfl rfl rfl (rmok hR0 rfl) ⟨Nat.zero_le _, Nat.zero_le _⟩ rfl (Nat.le_of_ble_eq_true rfl) dX6_closeBlock_28 (fun u_23 h => ?_)
    obtain ⟨u_21, u_22⟩ := u_23
    refine g_aload_n (pc := 31) hC 0 dX6_closeBlock_31 rfl rfl ?_
    refine g_dup (pc := 32) hC dX6_closeBlock_32 rfl ?_
    refine getX6_2 (pc := 33) hC (F := fun Z => Z) (X := []) (fun _ => rfl) fl_X6_195 dX6_closeBlock_33 ?_
    refine g_iconst (pc := 36) (v := 1) hC dX6_closeBlock_36 (by decide) ?_
    refine g_isub (pc := 37) hC dX6_closeBlock_37 ?_
    refine putX6_2 (pc := 38) hC (F := fun Z => Z) (X := []) (fun _ => rfl) fl_X6_195 dX6_closeBlock_38 ?_
    refine g_st (w := fun z => (wX6 o0 a0 (xy C) z (wX8 (a0 0) a1 (xy C) u_21 (wT (a1 0) (xy C) u_22 (wX7 o3 a3 (xy C) u3 []))))) (u := (si u0 2 ((gi u0 2) - (1 : Int32)))) (fun u_24 eu_24 => ?_)
    have h := h u_24 eu_24
    refine g_aload_n (pc := 41) hC 1 dX6_closeBlock_41 rfl rfl ?_
    refine g_bipush (pc := 42) (v := 13) hC dX6_closeBlock_42 (by decide) ?_
    refine g_iconst (pc := 44) (v := 0) hC dX6_closeBlock_44 (by decide) ?_
    refine g_iconst (pc := 45) (v := 0) hC dX6_closeBlock_45 (by decide) ?_
    refine g_iconst (pc := 46) (v := 0) hC dX6_closeBlock_46 (by decide) ?_
    refine g_callV_i (pc := 47) (wd := fun (u : St) Y => (wX7 o3 a3 (xy C) u Y)) (F := fun Z => (wX6 o0 a0 (xy C) u_24 (wX8 (a0 0) a1 (xy C) u_21 (wT (a1 0) (xy C) u_22 Z)))) (X := (wX6 o0 a0 (xy C) u_24 (wX8 (a0 0) a1 (xy C) u_21 (wT (a1 0) (xy C) u_22 [])))) (As := [.int (13 : Int32), .int (0 : Int32), .int (0 : Int32), .int (0 : Int32)]) (rest := []) (u := u3) hC (fun _ _ => rfl) (fun _ => rfl) (ctX7_add h) wvX7_add ml_X6_212 (ci := 6) (q0 := 0) rfl rfl rfl rfl (rmok hR0 rfl) ⟨Nat.zero_le _, Nat.zero_le _⟩ rfl (Nat.le_of_ble_eq_true rfl) dX6_closeBlock_47 (fun r_26 u_25 h => ?_)
    refine g_istore_n (pc := 50) (lv' := [(2, .int r_26), (0, .ref o0), (1, .ref o3)]) hC dX6_closeBlock_50 rfl (Nat.le_of_ble_eq_true rfl) rfl ?_
    refine g_aload_n (pc := 51) hC 2 dX6_closeBlock_51 rfl rfl ?_
    refine g_aload_n (pc := 52) hC 1 dX6_closeBlock_52 rfl rfl ?_
    refine getX6_1 (pc := 53) hC (F := fun Z => Z) (X := []) (fun _ => rfl) fl_X6_9 dX6_closeBlock_53 ?_
    refine g_aload_n (pc := 56) hC 1 dX6_closeBlock_56 rfl rfl ?_
    refine getX6_2 (pc := 57) hC (F := fun Z => Z) (X := []) (fun _ => rfl) fl_X6_195 dX6_closeBlock_57 ?_
    refine aldX6_1 (pc := 60) hC (F := fun Z => Z) (X := []) (fun _ => rfl) h.1 dX6_closeBlock_60 ?_
    have h := h.2
    refine g_iload_n (pc := 61) hC 0 dX6_closeBlock_61 rfl rfl ?_
    refine g_callV_v (pc := 62) (wd := fun (u : St) Y => (wX7 o3 a3 (xy C) u Y)) (F := fun Z => (wX6 o0 a0 (xy C) u_24 (wX8 (a0 0) a1 (xy C) u_21 (wT (a1 0) (xy C) u_22 Z)))) (X := (wX6 o0 a0 (xy C) u_24 (wX8 (a0 0) a1 (xy C) u_21 (wT (a1 0) (xy C) u_22 [])))) (As := [.int (ga u_24 1 ((gi u_24 2)).toNatClampNeg), .int r_26]) (rest := []) (u := u_25) hC (fun _ _ => rfl) (fun _ => rfl) (ctX7_join h) wvX7_join ml_X6_216 (ci := 6) (q0 := 0) rfl rfl rfl rfl (rmok hR0 rfl) ⟨Nat.zero_le _, Nat.zero_le _⟩ rfl (Nat.le_of_ble_eq_true rfl) dX6_closeBlock_62 (fun u_28 h => ?_)
    exact hR _ _ (u_24, u_21, u_22, u_28) dX6_closeBlock_65 h
  · have h := h.2 c_17
    refine g_aload_n (pc := 7) hC 0 dX6_closeBlock_7 rfl rfl ?_
    refine getX6_0 (pc := 8) hC (F := fun Z => Z) (X := []) (fun _ => rfl) fl_X6_20 dX6_closeBlock_8 ?_
    refine g_iconst (pc := 11) (v := 2) hC dX6_closeBlock_11 (by decide) ?_
    refine g_callV_i (pc := 12) (wd := fun (u : St × St) Y => (wX8 (a0 0) a1 (xy C) u.1 (wT (a1 0) (xy C) u.2 Y))) (F := fun Z => (wX6 o0 a0 (xy C) u0 Z)) (X := (wX6 o0 a0 (xy C) u0 [])) (As := [.int (2 : Int32)]) (rest := []) (u := (u1, u2)) hC (fun _ _ => rfl) (fun _ => rfl) (ctX8_fail h) wvX8_fail ml_X6_83 (ci := 7) (q0 := 0) rfl rfl rfl rfl (rmok hR0 rfl) ⟨Nat.zero_le _, Nat.zero_le _⟩ rfl (Nat.le_of_ble_eq_true rfl) dX6_closeBlock_12 (fun r_32 u_33 h => ?_)
    obtain ⟨u_30, u_31⟩ := u_33
    refine g_pop (pc := 15) hC dX6_closeBlock_15 rfl ?_
    exact hR _ _ (u0, u_30, u_31, u3) dX6_closeBlock_16 h
theorem ctX6_closeBlock {l : Launch} {D : va_G} {cy : Nat → ClassId} {kd : Nat → Nat} {o0 : Nat} {a0 : Nat → Nat} {a1 : Nat → Nat} {o3 : Nat} {a3 : Nat → Nat}  {u0 : St} {u1 : St} {u2 : St} {u3 : St} {post : St → St → St → St → Prop} (h : qX6_closeBlock  u0 u1 u2 u3 post) : CtV l D cy kd yX6_closeBlock cX6_closeBlock 3 5  [.ref o0, .ref o3] (fun u : St × St × St × St => (wX6 o0 a0 cy u.1 (wX8 (a0 0) a1 cy u.2.1 (wT (a1 0) cy u.2.2.1 (wX7 o3 a3 cy u.2.2.2 []))))) (u0, u1, u2, u3) (fun u => post u.1 u.2.1 u.2.2.1 u.2.2.2) := met_v (by decide) (Nat.le_of_ble_eq_true rfl) (fun C e1 e2 e3 e4 e5 hC hR => by subst e1 e2 e3 e4; exact kX6_closeBlock hC e5 hR h)
theorem dX6_stepNow_0 : decode cX6_stepNow 0 = .ok (.aload_n 0, 1) := by decide +kernel
theorem dX6_stepNow_1 : decode cX6_stepNow 1 = .ok (.getfield 20, 3) := by decide +kernel
theorem dX6_stepNow_4 : decode cX6_stepNow 4 = .ok (.getstatic 234, 3) := by decide +kernel
theorem dX6_stepNow_7 : decode cX6_stepNow 7 = .ok (.invokevirtual 58, 3) := by decide +kernel
theorem dX6_stepNow_10 : decode cX6_stepNow 10 = .ok (.ifCond .eq 5, 3) := by decide +kernel
theorem dX6_stepNow_13 : decode cX6_stepNow 13 = .ok (.iconst 0, 1) := by decide +kernel
theorem dX6_stepNow_14 : decode cX6_stepNow 14 = .ok (.ireturn, 1) := by decide +kernel
theorem dX6_stepNow_15 : decode cX6_stepNow 15 = .ok (.aload_n 0, 1) := by decide +kernel
theorem dX6_stepNow_16 : decode cX6_stepNow 16 = .ok (.getfield 20, 3) := by decide +kernel
theorem dX6_stepNow_19 : decode cX6_stepNow 19 = .ok (.getstatic 237, 3) := by decide +kernel
theorem dX6_stepNow_22 : decode cX6_stepNow 22 = .ok (.invokevirtual 58, 3) := by decide +kernel
theorem dX6_stepNow_25 : decode cX6_stepNow 25 = .ok (.ifCond .eq 5, 3) := by decide +kernel
theorem dX6_stepNow_28 : decode cX6_stepNow 28 = .ok (.iconst 1, 1) := by decide +kernel
theorem dX6_stepNow_29 : decode cX6_stepNow 29 = .ok (.ireturn, 1) := by decide +kernel
theorem dX6_stepNow_30 : decode cX6_stepNow 30 = .ok (.aload_n 0, 1) := by decide +kernel
theorem dX6_stepNow_31 : decode cX6_stepNow 31 = .ok (.getfield 20, 3) := by decide +kernel
theorem dX6_stepNow_34 : decode cX6_stepNow 34 = .ok (.getstatic 240, 3) := by decide +kernel
theorem dX6_stepNow_37 : decode cX6_stepNow 37 = .ok (.invokevirtual 58, 3) := by decide +kernel
theorem dX6_stepNow_40 : decode cX6_stepNow 40 = .ok (.ifCond .eq 5, 3) := by decide +kernel
theorem dX6_stepNow_43 : decode cX6_stepNow 43 = .ok (.iconst 2, 1) := by decide +kernel
theorem dX6_stepNow_44 : decode cX6_stepNow 44 = .ok (.ireturn, 1) := by decide +kernel
theorem dX6_stepNow_45 : decode cX6_stepNow 45 = .ok (.aload_n 0, 1) := by decide +kernel
theorem dX6_stepNow_46 : decode cX6_stepNow 46 = .ok (.getfield 20, 3) := by decide +kernel
theorem dX6_stepNow_49 : decode cX6_stepNow 49 = .ok (.getstatic 243, 3) := by decide +kernel
theorem dX6_stepNow_52 : decode cX6_stepNow 52 = .ok (.invokevirtual 58, 3) := by decide +kernel
theorem dX6_stepNow_55 : decode cX6_stepNow 55 = .ok (.ifCond .eq 5, 3) := by decide +kernel
theorem dX6_stepNow_58 : decode cX6_stepNow 58 = .ok (.iconst 3, 1) := by decide +kernel
theorem dX6_stepNow_59 : decode cX6_stepNow 59 = .ok (.ireturn, 1) := by decide +kernel
theorem dX6_stepNow_60 : decode cX6_stepNow 60 = .ok (.aload_n 0, 1) := by decide +kernel
theorem dX6_stepNow_61 : decode cX6_stepNow 61 = .ok (.getfield 20, 3) := by decide +kernel
theorem dX6_stepNow_64 : decode cX6_stepNow 64 = .ok (.getstatic 246, 3) := by decide +kernel
theorem dX6_stepNow_67 : decode cX6_stepNow 67 = .ok (.invokevirtual 58, 3) := by decide +kernel
theorem dX6_stepNow_70 : decode cX6_stepNow 70 = .ok (.ifCond .eq 5, 3) := by decide +kernel
theorem dX6_stepNow_73 : decode cX6_stepNow 73 = .ok (.iconst 4, 1) := by decide +kernel
theorem dX6_stepNow_74 : decode cX6_stepNow 74 = .ok (.ireturn, 1) := by decide +kernel
theorem dX6_stepNow_75 : decode cX6_stepNow 75 = .ok (.aload_n 0, 1) := by decide +kernel
theorem dX6_stepNow_76 : decode cX6_stepNow 76 = .ok (.getfield 20, 3) := by decide +kernel
theorem dX6_stepNow_79 : decode cX6_stepNow 79 = .ok (.getstatic 249, 3) := by decide +kernel
theorem dX6_stepNow_82 : decode cX6_stepNow 82 = .ok (.invokevirtual 58, 3) := by decide +kernel
theorem dX6_stepNow_85 : decode cX6_stepNow 85 = .ok (.ifCond .eq 5, 3) := by decide +kernel
theorem dX6_stepNow_88 : decode cX6_stepNow 88 = .ok (.iconst 5, 1) := by decide +kernel
theorem dX6_stepNow_89 : decode cX6_stepNow 89 = .ok (.ireturn, 1) := by decide +kernel
theorem dX6_stepNow_90 : decode cX6_stepNow 90 = .ok (.aload_n 0, 1) := by decide +kernel
theorem dX6_stepNow_91 : decode cX6_stepNow 91 = .ok (.getfield 20, 3) := by decide +kernel
theorem dX6_stepNow_94 : decode cX6_stepNow 94 = .ok (.getstatic 252, 3) := by decide +kernel
theorem dX6_stepNow_97 : decode cX6_stepNow 97 = .ok (.invokevirtual 58, 3) := by decide +kernel
theorem dX6_stepNow_100 : decode cX6_stepNow 100 = .ok (.ifCond .eq 6, 3) := by decide +kernel
theorem dX6_stepNow_103 : decode cX6_stepNow 103 = .ok (.bipush 8, 2) := by decide +kernel
theorem dX6_stepNow_105 : decode cX6_stepNow 105 = .ok (.ireturn, 1) := by decide +kernel
theorem dX6_stepNow_106 : decode cX6_stepNow 106 = .ok (.aload_n 0, 1) := by decide +kernel
theorem dX6_stepNow_107 : decode cX6_stepNow 107 = .ok (.getfield 20, 3) := by decide +kernel
theorem dX6_stepNow_110 : decode cX6_stepNow 110 = .ok (.getstatic 255, 3) := by decide +kernel
theorem dX6_stepNow_113 : decode cX6_stepNow 113 = .ok (.invokevirtual 58, 3) := by decide +kernel
theorem dX6_stepNow_116 : decode cX6_stepNow 116 = .ok (.ifCond .eq 6, 3) := by decide +kernel
theorem dX6_stepNow_119 : decode cX6_stepNow 119 = .ok (.bipush 7, 2) := by decide +kernel
theorem dX6_stepNow_121 : decode cX6_stepNow 121 = .ok (.ireturn, 1) := by decide +kernel
theorem dX6_stepNow_122 : decode cX6_stepNow 122 = .ok (.aload_n 0, 1) := by decide +kernel
theorem dX6_stepNow_123 : decode cX6_stepNow 123 = .ok (.getfield 20, 3) := by decide +kernel
theorem dX6_stepNow_126 : decode cX6_stepNow 126 = .ok (.getstatic 258, 3) := by decide +kernel
theorem dX6_stepNow_129 : decode cX6_stepNow 129 = .ok (.invokevirtual 58, 3) := by decide +kernel
theorem dX6_stepNow_132 : decode cX6_stepNow 132 = .ok (.ifCond .eq 8, 3) := by decide +kernel
theorem dX6_stepNow_135 : decode cX6_stepNow 135 = .ok (.bipush 6, 2) := by decide +kernel
theorem dX6_stepNow_137 : decode cX6_stepNow 137 = .ok (.goto 4, 3) := by decide +kernel
theorem dX6_stepNow_140 : decode cX6_stepNow 140 = .ok (.iconst (-1), 1) := by decide +kernel
theorem dX6_stepNow_141 : decode cX6_stepNow 141 = .ok (.ireturn, 1) := by decide +kernel
def qX6_stepNow_b141  (post : Int32 → St → St → St → Prop)  (s0 : Int32) (u0 : St) (u1 : St) (u2 : St) : Prop := post s0 u0 u1 u2
set_option maxRecDepth 100000 in
set_option maxHeartbeats 4000000 in
theorem kX6_stepNow_b141 {C : Cx} {o0 : Nat} {a0 : Nat → Nat} {a1 : Nat → Nat} (hC : Fx C cX6_stepNow 1 RX6) (hR0 : xR C = rm 2) {post : Int32 → St → St → St → Prop} (hR : RI C cX6_stepNow 1 (fun u : St × St × St => (wX6 o0 a0 (xy C) u.1 (wX8 (a0 0) a1 (xy C) u.2.1 (wT (a1 0) (xy C) u.2.2 [])))) (fun r u => post r u.1 u.2.1 u.2.2))  {s0 : Int32} {u0 : St} {u1 : St} {u2 : St} (h : qX6_stepNow_b141 post s0 u0 u1 u2) : G C 0 0 1 (wX6 o0 a0 (xy C) u0 (wX8 (a0 0) a1 (xy C) u1 (wT (a1 0) (xy C) u2 []))) 141 [] [.int s0] := by
  exact hR _ _ _ (u0, u1, u2) dX6_stepNow_141 h
def qX6_stepNow  (u0 : St) (u1 : St) (u2 : St) (post : Int32 → St → St → St → Prop) : Prop := qX8_isAt 13 u1 u2 (fun r_39 u_37 u_38 => ((r_39 = 0 → qX8_isAt 14 u_37 u_38 (fun r_44 u_42 u_43 => ((r_44 = 0 → qX8_isAt 15 u_42 u_43 (fun r_49 u_47 u_48 => ((r_49 = 0 → qX8_isAt 16 u_47 u_48 (fun r_54 u_52 u_53 => ((r_54 = 0 → qX8_isAt 17 u_52 u_53 (fun r_59 u_57 u_58 => ((r_59 = 0 → qX8_isAt 18 u_57 u_58 (fun r_64 u_62 u_63 => ((r_64 = 0 → qX8_isAt 19 u_62 u_63 (fun r_69 u_67 u_68 => ((r_69 = 0 → qX8_isAt 22 u_67 u_68 (fun r_74 u_72 u_73 => ((r_74 = 0 → qX8_isAt 24 u_72 u_73 (fun r_79 u_77 u_78 => ((r_79 = 0 → qX6_stepNow_b141 post (-1 : Int32) u0 u_77 u_78) ∧ (¬ r_79 = 0 → qX6_stepNow_b141 post (6 : Int32) u0 u_77 u_78)))) ∧ (¬ r_74 = 0 → post (7 : Int32) u0 u_72 u_73)))) ∧ (¬ r_69 = 0 → post (8 : Int32) u0 u_67 u_68)))) ∧ (¬ r_64 = 0 → post (5 : Int32) u0 u_62 u_63)))) ∧ (¬ r_59 = 0 → post (4 : Int32) u0 u_57 u_58)))) ∧ (¬ r_54 = 0 → post (3 : Int32) u0 u_52 u_53)))) ∧ (¬ r_49 = 0 → post (2 : Int32) u0 u_47 u_48)))) ∧ (¬ r_44 = 0 → post (1 : Int32) u0 u_42 u_43)))) ∧ (¬ r_39 = 0 → post (0 : Int32) u0 u_37 u_38)))
set_option maxRecDepth 100000 in
set_option maxHeartbeats 4000000 in
theorem kX6_stepNow {C : Cx} {o0 : Nat} {a0 : Nat → Nat} {a1 : Nat → Nat} (hC : Fx C cX6_stepNow 1 RX6) (hR0 : xR C = rm 2) {post : Int32 → St → St → St → Prop} (hR : RI C cX6_stepNow 1 (fun u : St × St × St => (wX6 o0 a0 (xy C) u.1 (wX8 (a0 0) a1 (xy C) u.2.1 (wT (a1 0) (xy C) u.2.2 [])))) (fun r u => post r u.1 u.2.1 u.2.2))  {u0 : St} {u1 : St} {u2 : St} (h : qX6_stepNow  u0 u1 u2 post) : G C 0 0 1 (wX6 o0 a0 (xy C) u0 (wX8 (a0 0) a1 (xy C) u1 (wT (a1 0) (xy C) u2 []))) 0 [(0, .ref o0)] [] := by
  refine g_aload_n (pc := 0) hC 0 dX6_stepNow_0 rfl rfl ?_
  refine getX6_0 (pc := 1) hC (F := fun Z => Z) (X := []) (fun _ => rfl) fl_X6_20 dX6_stepNow_1 ?_
  refine g_gets (pc := 4) hC 13 (Nat.le_of_ble_eq_true rfl) fl_X6_234 dX6_stepNow_4 ?_
  refine g_callV_i (pc := 7) (wd := fun (u : St × St) Y => (wX8 (a0 0) a1 (xy C) u.1 (wT (a1 0) (xy C) u.2 Y))) (F := fun Z => (wX6 o0 a0 (xy C) u0 Z)) (X := (wX6 o0 a0 (xy C) u0 [])) (As := [.ref (xk C 13)]) (rest := []) (u := (u1, u2)) hC (fun _ _ => rfl) (fun _ => rfl) (ctX8_isAt h) wvX8_isAt ml_X6_58 (ci := 7) (q0 := 0) rfl rfl rfl rfl (rmok hR0 rfl) ⟨Nat.zero_le _, Nat.zero_le _⟩ rfl (Nat.le_of_ble_eq_true rfl) dX6_stepNow_7 (fun r_39 u_40 h => ?_)
  obtain ⟨u_37, u_38⟩ := u_40
  refine g_if_eq (pc := 10) (tgt := 15) hC dX6_stepNow_10 (by decide) (fun c_41 => ?_) (fun c_41 => ?_)
  · have h := h.1 c_41
    refine g_aload_n (pc := 15) hC 0 dX6_stepNow_15 rfl rfl ?_
    refine getX6_0 (pc := 16) hC (F := fun Z => Z) (X := []) (fun _ => rfl) fl_X6_20 dX6_stepNow_16 ?_
    refine g_gets (pc := 19) hC 14 (Nat.le_of_ble_eq_true rfl) fl_X6_237 dX6_stepNow_19 ?_
    refine g_callV_i (pc := 22) (wd := fun (u : St × St) Y => (wX8 (a0 0) a1 (xy C) u.1 (wT (a1 0) (xy C) u.2 Y))) (F := fun Z => (wX6 o0 a0 (xy C) u0 Z)) (X := (wX6 o0 a0 (xy C) u0 [])) (As := [.ref (xk C 14)]) (rest := []) (u := (u_37, u_38)) hC (fun _ _ => rfl) (fun _ => rfl) (ctX8_isAt h) wvX8_isAt ml_X6_58 (ci := 7) (q0 := 0) rfl rfl rfl rfl (rmok hR0 rfl) ⟨Nat.zero_le _, Nat.zero_le _⟩ rfl (Nat.le_of_ble_eq_true rfl) dX6_stepNow_22 (fun r_44 u_45 h => ?_)
    obtain ⟨u_42, u_43⟩ := u_45
    refine g_if_eq (pc := 25) (tgt := 30) hC dX6_stepNow_25 (by decide) (fun c_46 => ?_) (fun c_46 => ?_)
    · have h := h.1 c_46
      refine g_aload_n (pc := 30) hC 0 dX6_stepNow_30 rfl rfl ?_
      refine getX6_0 (pc := 31) hC (F := fun Z => Z) (X := []) (fun _ => rfl) fl_X6_20 dX6_stepNow_31 ?_
      refine g_gets (pc := 34) hC 15 (Nat.le_of_ble_eq_true rfl) fl_X6_240 dX6_stepNow_34 ?_
      refine g_callV_i (pc := 37) (wd := fun (u : St × St) Y => (wX8 (a0 0) a1 (xy C) u.1 (wT (a1 0) (xy C) u.2 Y))) (F := fun Z => (wX6 o0 a0 (xy C) u0 Z)) (X := (wX6 o0 a0 (xy C) u0 [])) (As := [.ref (xk C 15)]) (rest := []) (u := (u_42, u_43)) hC (fun _ _ => rfl) (fun _ => rfl) (ctX8_isAt h) wvX8_isAt ml_X6_58 (ci := 7) (q0 := 0) rfl rfl rfl rfl (rmok hR0 rfl) ⟨Nat.zero_le _, Nat.zero_le _⟩ rfl (Nat.le_of_ble_eq_true rfl) dX6_stepNow_37 (fun r_49 u_50 h => ?_)
      obtain ⟨u_47, u_48⟩ := u_50
      refine g_if_eq (pc := 40) (tgt := 45) hC dX6_stepNow_40 (by decide) (fun c_51 => ?_) (fun c_51 => ?_)
      · have h := h.1 c_51
        refine g_aload_n (pc := 45) hC 0 dX6_stepNow_45 rfl rfl ?_
        refine getX6_0 (pc := 46) hC (F := fun Z => Z) (X := []) (fun _ => rfl) fl_X6_20 dX6_stepNow_46 ?_
        refine g_gets (pc := 49) hC 16 (Nat.le_of_ble_eq_true rfl) fl_X6_243 dX6_stepNow_49 ?_
        refine g_callV_i (pc := 52) (wd := fun (u : St × St) Y => (wX8 (a0 0) a1 (xy C) u.1 (wT (a1 0) (xy C) u.2 Y))) (F := fun Z => (wX6 o0 a0 (xy C) u0 Z)) (X := (wX6 o0 a0 (xy C) u0 [])) (As := [.ref (xk C 16)]) (rest := []) (u := (u_47, u_48)) hC (fun _ _ => rfl) (fun _ => rfl) (ctX8_isAt h) wvX8_isAt ml_X6_58 (ci := 7) (q0 := 0) rfl rfl rfl rfl (rmok hR0 rfl) ⟨Nat.zero_le _, Nat.zero_le _⟩ rfl (Nat.le_of_ble_eq_true rfl) dX6_stepNow_52 (fun r_54 u_55 h => ?_)
        obtain ⟨u_52, u_53⟩ := u_55
        refine g_if_eq (pc := 55) (tgt := 60) hC dX6_stepNow_55 (by decide) (fun c_56 => ?_) (fun c_56 => ?_)
        · have h := h.1 c_56
          refine g_aload_n (pc := 60) hC 0 dX6_stepNow_60 rfl rfl ?_
          refine getX6_0 (pc := 61) hC (F := fun Z => Z) (X := []) (fun _ => rfl) fl_X6_20 dX6_stepNow_61 ?_
          refine g_gets (pc := 64) hC 17 (Nat.le_of_ble_eq_true rfl) fl_X6_246 dX6_stepNow_64 ?_
          refine g_callV_i (pc := 67) (wd := fun (u : St × St) Y => (wX8 (a0 0) a1 (xy C) u.1 (wT (a1 0) (xy C) u.2 Y))) (F := fun Z => (wX6 o0 a0 (xy C) u0 Z)) (X := (wX6 o0 a0 (xy C) u0 [])) (As := [.ref (xk C 17)]) (rest := []) (u := (u_52, u_53)) hC (fun _ _ => rfl) (fun _ => rfl) (ctX8_isAt h) wvX8_isAt ml_X6_58 (ci := 7) (q0 := 0) rfl rfl rfl rfl (rmok hR0 rfl) ⟨Nat.zero_le _, Nat.zero_le _⟩ rfl (Nat.le_of_ble_eq_true rfl) dX6_stepNow_67 (fun r_59 u_60 h => ?_)
          obtain ⟨u_57, u_58⟩ := u_60
          refine g_if_eq (pc := 70) (tgt := 75) hC dX6_stepNow_70 (by decide) (fun c_61 => ?_) (fun c_61 => ?_)
          · have h := h.1 c_61
            refine g_aload_n (pc := 75) hC 0 dX6_stepNow_75 rfl rfl ?_
            refine getX6_0 (pc := 76) hC (F := fun Z => Z) (X := []) (fun _ => rfl) fl_X6_20 dX6_stepNow_76 ?_
            refine g_gets (pc := 79) hC 18 (Nat.le_of_ble_eq_true rfl) fl_X6_249 dX6_stepNow_79 ?_
            refine g_callV_i (pc := 82) (wd := fun (u : St × St) Y => (wX8 (a0 0) a1 (xy C) u.1 (wT (a1 0) (xy C) u.2 Y))) (F := fun Z => (wX6 o0 a0 (xy C) u0 Z)) (X := (wX6 o0 a0 (xy C) u0 [])) (As := [.ref (xk C 18)]) (rest := []) (u := (u_57, u_58)) hC (fun _ _ => rfl) (fun _ => rfl) (ctX8_isAt h) wvX8_isAt ml_X6_58 (ci := 7) (q0 := 0) rfl rfl rfl rfl (rmok hR0 rfl) ⟨Nat.zero_le _, Nat.zero_le _⟩ rfl (Nat.le_of_ble_eq_true rfl) dX6_stepNow_82 (fun r_64 u_65 h => ?_)
            obtain ⟨u_62, u_63⟩ := u_65
            refine g_if_eq (pc := 85) (tgt := 90) hC dX6_stepNow_85 (by decide) (fun c_66 => ?_) (fun c_66 => ?_)
            · have h := h.1 c_66
              refine g_aload_n (pc := 90) hC 0 dX6_stepNow_90 rfl rfl ?_
              refine getX6_0 (pc := 91) hC (F := fun Z => Z) (X := []) (fun _ => rfl) fl_X6_20 dX6_stepNow_91 ?_
              refine g_gets (pc := 94) hC 19 (Nat.le_of_ble_eq_true rfl) fl_X6_252 dX6_stepNow_94 ?_
              refine g_callV_i (pc := 97) (wd := fun (u : St × St) Y => (wX8 (a0 0) a1 (xy C) u.1 (wT (a1 0) (xy C) u.2 Y))) (F := fun Z => (wX6 o0 a0 (xy C) u0 Z)) (X := (wX6 o0 a0 (xy C) u0 [])) (As := [.ref (xk C 19)]) (rest := []) (u := (u_62, u_63)) hC (fun _ _ => rfl) (fun _ => rfl) (ctX8_isAt h) wvX8_isAt ml_X6_58 (ci := 7) (q0 := 0) rfl rfl rfl rfl (rmok hR0 rfl) ⟨Nat.zero_le _, Nat.zero_le _⟩ rfl (Nat.le_of_ble_eq_true rfl) dX6_stepNow_97 (fun r_69 u_70 h => ?_)
              obtain ⟨u_67, u_68⟩ := u_70
              refine g_if_eq (pc := 100) (tgt := 106) hC dX6_stepNow_100 (by decide) (fun c_71 => ?_) (fun c_71 => ?_)
              · have h := h.1 c_71
                refine g_aload_n (pc := 106) hC 0 dX6_stepNow_106 rfl rfl ?_
                refine getX6_0 (pc := 107) hC (F := fun Z => Z) (X := []) (fun _ => rfl) fl_X6_20 dX6_stepNow_107 ?_
                refine g_gets (pc := 110) hC 22 (Nat.le_of_ble_eq_true rfl) fl_X6_255 dX6_stepNow_110 ?_
                refine g_callV_i (pc := 113) (wd := fun (u : St × St) Y => (wX8 (a0 0) a1 (xy C) u.1 (wT (a1 0) (xy C) u.2 Y))) (F := fun Z => (wX6 o0 a0 (xy C) u0 Z)) (X := (wX6 o0 a0 (xy C) u0 [])) (As := [.ref (xk C 22)]) (rest := []) (u := (u_67, u_68)) hC (fun _ _ => rfl) (fun _ => rfl) (ctX8_isAt h) wvX8_isAt ml_X6_58 (ci := 7) (q0 := 0) rfl rfl rfl rfl (rmok hR0 rfl) ⟨Nat.zero_le _, Nat.zero_le _⟩ rfl (Nat.le_of_ble_eq_true rfl) dX6_stepNow_113 (fun r_74 u_75 h => ?_)
                obtain ⟨u_72, u_73⟩ := u_75
                refine g_if_eq (pc := 116) (tgt := 122) hC dX6_stepNow_116 (by decide) (fun c_76 => ?_) (fun c_76 => ?_)
                · have h := h.1 c_76
                  refine g_aload_n (pc := 122) hC 0 dX6_stepNow_122 rfl rfl ?_
                  refine getX6_0 (pc := 123) hC (F := fun Z => Z) (X := []) (fun _ => rfl) fl_X6_20 dX6_stepNow_123 ?_
                  refine g_gets (pc := 126) hC 24 (Nat.le_of_ble_eq_true rfl) fl_X6_258 dX6_stepNow_126 ?_
                  refine g_callV_i (pc := 129) (wd := fun (u : St × St) Y => (wX8 (a0 0) a1 (xy C) u.1 (wT (a1 0) (xy C) u.2 Y))) (F := fun Z => (wX6 o0 a0 (xy C) u0 Z)) (X := (wX6 o0 a0 (xy C) u0 [])) (As := [.ref (xk C 24)]) (rest := []) (u := (u_72, u_73)) hC (fun _ _ => rfl) (fun _ => rfl) (ctX8_isAt h) wvX8_isAt ml_X6_58 (ci := 7) (q0 := 0) rfl rfl rfl rfl (rmok hR0 rfl) ⟨Nat.zero_le _, Nat.zero_le _⟩ rfl (Nat.le_of_ble_eq_true rfl) dX6_stepNow_129 (fun r_79 u_80 h => ?_)
                  obtain ⟨u_77, u_78⟩ := u_80
                  refine g_if_eq (pc := 132) (tgt := 140) hC dX6_stepNow_132 (by decide) (fun c_81 => ?_) (fun c_81 => ?_)
                  · have h := h.1 c_81
                    refine g_iconst (pc := 140) (v := -1) hC dX6_stepNow_140 (by decide) ?_
                    refine g_sub (lv' := []) [] rfl ?_
                    exact kX6_stepNow_b141 hC hR0 hR  h
                  · have h := h.2 c_81
                    refine g_bipush (pc := 135) (v := 6) hC dX6_stepNow_135 (by decide) ?_
                    refine g_goto (pc := 137) (tgt := 141) hC dX6_stepNow_137 (by decide) ?_
                    refine g_sub (lv' := []) [] rfl ?_
                    exact kX6_stepNow_b141 hC hR0 hR  h
                · have h := h.2 c_76
                  refine g_bipush (pc := 119) (v := 7) hC dX6_stepNow_119 (by decide) ?_
                  exact hR _ _ _ (u0, u_72, u_73) dX6_stepNow_121 h
              · have h := h.2 c_71
                refine g_bipush (pc := 103) (v := 8) hC dX6_stepNow_103 (by decide) ?_
                exact hR _ _ _ (u0, u_67, u_68) dX6_stepNow_105 h
            · have h := h.2 c_66
              refine g_iconst (pc := 88) (v := 5) hC dX6_stepNow_88 (by decide) ?_
              exact hR _ _ _ (u0, u_62, u_63) dX6_stepNow_89 h
          · have h := h.2 c_61
            refine g_iconst (pc := 73) (v := 4) hC dX6_stepNow_73 (by decide) ?_
            exact hR _ _ _ (u0, u_57, u_58) dX6_stepNow_74 h
        · have h := h.2 c_56
          refine g_iconst (pc := 58) (v := 3) hC dX6_stepNow_58 (by decide) ?_
          exact hR _ _ _ (u0, u_52, u_53) dX6_stepNow_59 h
      · have h := h.2 c_51
        refine g_iconst (pc := 43) (v := 2) hC dX6_stepNow_43 (by decide) ?_
        exact hR _ _ _ (u0, u_47, u_48) dX6_stepNow_44 h
    · have h := h.2 c_46
      refine g_iconst (pc := 28) (v := 1) hC dX6_stepNow_28 (by decide) ?_
      exact hR _ _ _ (u0, u_42, u_43) dX6_stepNow_29 h
  · have h := h.2 c_41
    refine g_iconst (pc := 13) (v := 0) hC dX6_stepNow_13 (by decide) ?_
    exact hR _ _ _ (u0, u_37, u_38) dX6_stepNow_14 h
theorem ctX6_stepNow {l : Launch} {D : va_G} {cy : Nat → ClassId} {kd : Nat → Nat} {o0 : Nat} {a0 : Nat → Nat} {a1 : Nat → Nat}  {u0 : St} {u1 : St} {u2 : St} {post : Int32 → St → St → St → Prop} (h : qX6_stepNow  u0 u1 u2 post) : CtI l D cy kd yX6_stepNow cX6_stepNow 1 2 .int [.ref o0] (fun u : St × St × St => (wX6 o0 a0 cy u.1 (wX8 (a0 0) a1 cy u.2.1 (wT (a1 0) cy u.2.2 [])))) (u0, u1, u2) (fun r u => post r u.1 u.2.1 u.2.2) := met_i (by decide) (Nat.le_of_ble_eq_true rfl) (fun C e1 e2 e3 e4 e5 hC hR => by subst e1 e2 e3 e4; exact kX6_stepNow hC e5 hR h)
theorem dX6_readTest_0 : decode cX6_readTest 0 = .ok (.aload_n 0, 1) := by decide +kernel
theorem dX6_readTest_1 : decode cX6_readTest 1 = .ok (.getfield 20, 3) := by decide +kernel
theorem dX6_readTest_4 : decode cX6_readTest 4 = .ok (.getstatic 261, 3) := by decide +kernel
theorem dX6_readTest_7 : decode cX6_readTest 7 = .ok (.invokevirtual 116, 3) := by decide +kernel
theorem dX6_readTest_10 : decode cX6_readTest 10 = .ok (.ifCond .eq 26, 3) := by decide +kernel
theorem dX6_readTest_13 : decode cX6_readTest 13 = .ok (.aload_n 2, 1) := by decide +kernel
theorem dX6_readTest_14 : decode cX6_readTest 14 = .ok (.bipush 9, 2) := by decide +kernel
theorem dX6_readTest_16 : decode cX6_readTest 16 = .ok (.aload_n 0, 1) := by decide +kernel
theorem dX6_readTest_17 : decode cX6_readTest 17 = .ok (.getfield 20, 3) := by decide +kernel
theorem dX6_readTest_20 : decode cX6_readTest 20 = .ok (.iconst 0, 1) := by decide +kernel
theorem dX6_readTest_21 : decode cX6_readTest 21 = .ok (.aload_n 1, 1) := by decide +kernel
theorem dX6_readTest_22 : decode cX6_readTest 22 = .ok (.getfield 100, 3) := by decide +kernel
theorem dX6_readTest_25 : decode cX6_readTest 25 = .ok (.iconst 1, 1) := by decide +kernel
theorem dX6_readTest_26 : decode cX6_readTest 26 = .ok (.isub, 1) := by decide +kernel
theorem dX6_readTest_27 : decode cX6_readTest 27 = .ok (.invokevirtual 90, 3) := by decide +kernel
theorem dX6_readTest_30 : decode cX6_readTest 30 = .ok (.iconst 0, 1) := by decide +kernel
theorem dX6_readTest_31 : decode cX6_readTest 31 = .ok (.iconst 0, 1) := by decide +kernel
theorem dX6_readTest_32 : decode cX6_readTest 32 = .ok (.invokevirtual 212, 3) := by decide +kernel
theorem dX6_readTest_35 : decode cX6_readTest 35 = .ok (.ireturn, 1) := by decide +kernel
theorem dX6_readTest_36 : decode cX6_readTest 36 = .ok (.aload_n 0, 1) := by decide +kernel
theorem dX6_readTest_37 : decode cX6_readTest 37 = .ok (.getfield 20, 3) := by decide +kernel
theorem dX6_readTest_40 : decode cX6_readTest 40 = .ok (.getstatic 264, 3) := by decide +kernel
theorem dX6_readTest_43 : decode cX6_readTest 43 = .ok (.invokevirtual 116, 3) := by decide +kernel
theorem dX6_readTest_46 : decode cX6_readTest 46 = .ok (.ifCond .eq 22, 3) := by decide +kernel
theorem dX6_readTest_49 : decode cX6_readTest 49 = .ok (.aload_n 2, 1) := by decide +kernel
theorem dX6_readTest_50 : decode cX6_readTest 50 = .ok (.bipush 10, 2) := by decide +kernel
theorem dX6_readTest_52 : decode cX6_readTest 52 = .ok (.aload_n 0, 1) := by decide +kernel
theorem dX6_readTest_53 : decode cX6_readTest 53 = .ok (.getfield 20, 3) := by decide +kernel
theorem dX6_readTest_56 : decode cX6_readTest 56 = .ok (.iconst 0, 1) := by decide +kernel
theorem dX6_readTest_57 : decode cX6_readTest 57 = .ok (.bipush 6, 2) := by decide +kernel
theorem dX6_readTest_59 : decode cX6_readTest 59 = .ok (.invokevirtual 90, 3) := by decide +kernel
theorem dX6_readTest_62 : decode cX6_readTest 62 = .ok (.iconst 0, 1) := by decide +kernel
theorem dX6_readTest_63 : decode cX6_readTest 63 = .ok (.iconst 0, 1) := by decide +kernel
theorem dX6_readTest_64 : decode cX6_readTest 64 = .ok (.invokevirtual 212, 3) := by decide +kernel
theorem dX6_readTest_67 : decode cX6_readTest 67 = .ok (.ireturn, 1) := by decide +kernel
theorem dX6_readTest_68 : decode cX6_readTest 68 = .ok (.aload_n 0, 1) := by decide +kernel
theorem dX6_readTest_69 : decode cX6_readTest 69 = .ok (.getfield 20, 3) := by decide +kernel
theorem dX6_readTest_72 : decode cX6_readTest 72 = .ok (.getstatic 156, 3) := by decide +kernel
theorem dX6_readTest_75 : decode cX6_readTest 75 = .ok (.invokevirtual 116, 3) := by decide +kernel
theorem dX6_readTest_78 : decode cX6_readTest 78 = .ok (.ifCond .eq 40, 3) := by decide +kernel
theorem dX6_readTest_81 : decode cX6_readTest 81 = .ok (.aload_n 0, 1) := by decide +kernel
theorem dX6_readTest_82 : decode cX6_readTest 82 = .ok (.aload_n 1, 1) := by decide +kernel
theorem dX6_readTest_83 : decode cX6_readTest 83 = .ok (.iconst (-1), 1) := by decide +kernel
theorem dX6_readTest_84 : decode cX6_readTest 84 = .ok (.invokevirtual 166, 3) := by decide +kernel
theorem dX6_readTest_87 : decode cX6_readTest 87 = .ok (.istore_n 3, 1) := by decide +kernel
theorem dX6_readTest_88 : decode cX6_readTest 88 = .ok (.aload_n 0, 1) := by decide +kernel
theorem dX6_readTest_89 : decode cX6_readTest 89 = .ok (.getfield 20, 3) := by decide +kernel
theorem dX6_readTest_92 : decode cX6_readTest 92 = .ok (.invokevirtual 267, 3) := by decide +kernel
theorem dX6_readTest_95 : decode cX6_readTest 95 = .ok (.istore 4, 2) := by decide +kernel
theorem dX6_readTest_97 : decode cX6_readTest 97 = .ok (.aload_n 2, 1) := by decide +kernel
theorem dX6_readTest_98 : decode cX6_readTest 98 = .ok (.bipush 11, 2) := by decide +kernel
theorem dX6_readTest_100 : decode cX6_readTest 100 = .ok (.iload_n 3, 1) := by decide +kernel
theorem dX6_readTest_101 : decode cX6_readTest 101 = .ok (.aload_n 0, 1) := by decide +kernel
theorem dX6_readTest_102 : decode cX6_readTest 102 = .ok (.getfield 20, 3) := by decide +kernel
theorem dX6_readTest_105 : decode cX6_readTest 105 = .ok (.iconst 0, 1) := by decide +kernel
theorem dX6_readTest_106 : decode cX6_readTest 106 = .ok (.sipush 9999, 3) := by decide +kernel
theorem dX6_readTest_109 : decode cX6_readTest 109 = .ok (.invokevirtual 90, 3) := by decide +kernel
theorem dX6_readTest_112 : decode cX6_readTest 112 = .ok (.iload 4, 2) := by decide +kernel
theorem dX6_readTest_114 : decode cX6_readTest 114 = .ok (.invokevirtual 212, 3) := by decide +kernel
theorem dX6_readTest_117 : decode cX6_readTest 117 = .ok (.ireturn, 1) := by decide +kernel
theorem dX6_readTest_118 : decode cX6_readTest 118 = .ok (.aload_n 0, 1) := by decide +kernel
theorem dX6_readTest_119 : decode cX6_readTest 119 = .ok (.getfield 20, 3) := by decide +kernel
theorem dX6_readTest_122 : decode cX6_readTest 122 = .ok (.getstatic 182, 3) := by decide +kernel
theorem dX6_readTest_125 : decode cX6_readTest 125 = .ok (.invokevirtual 106, 3) := by decide +kernel
theorem dX6_readTest_128 : decode cX6_readTest 128 = .ok (.aload_n 0, 1) := by decide +kernel
theorem dX6_readTest_129 : decode cX6_readTest 129 = .ok (.getfield 20, 3) := by decide +kernel
theorem dX6_readTest_132 : decode cX6_readTest 132 = .ok (.iconst 0, 1) := by decide +kernel
theorem dX6_readTest_133 : decode cX6_readTest 133 = .ok (.bipush 6, 2) := by decide +kernel
theorem dX6_readTest_135 : decode cX6_readTest 135 = .ok (.invokevirtual 90, 3) := by decide +kernel
theorem dX6_readTest_138 : decode cX6_readTest 138 = .ok (.istore_n 3, 1) := by decide +kernel
theorem dX6_readTest_139 : decode cX6_readTest 139 = .ok (.aload_n 0, 1) := by decide +kernel
theorem dX6_readTest_140 : decode cX6_readTest 140 = .ok (.getfield 20, 3) := by decide +kernel
theorem dX6_readTest_143 : decode cX6_readTest 143 = .ok (.invokevirtual 267, 3) := by decide +kernel
theorem dX6_readTest_146 : decode cX6_readTest 146 = .ok (.istore 4, 2) := by decide +kernel
theorem dX6_readTest_148 : decode cX6_readTest 148 = .ok (.aload_n 2, 1) := by decide +kernel
theorem dX6_readTest_149 : decode cX6_readTest 149 = .ok (.bipush 12, 2) := by decide +kernel
theorem dX6_readTest_151 : decode cX6_readTest 151 = .ok (.iload_n 3, 1) := by decide +kernel
theorem dX6_readTest_152 : decode cX6_readTest 152 = .ok (.aload_n 0, 1) := by decide +kernel
theorem dX6_readTest_153 : decode cX6_readTest 153 = .ok (.getfield 20, 3) := by decide +kernel
theorem dX6_readTest_156 : decode cX6_readTest 156 = .ok (.iconst 0, 1) := by decide +kernel
theorem dX6_readTest_157 : decode cX6_readTest 157 = .ok (.sipush 999, 3) := by decide +kernel
theorem dX6_readTest_160 : decode cX6_readTest 160 = .ok (.invokevirtual 90, 3) := by decide +kernel
theorem dX6_readTest_163 : decode cX6_readTest 163 = .ok (.iload 4, 2) := by decide +kernel
theorem dX6_readTest_165 : decode cX6_readTest 165 = .ok (.invokevirtual 212, 3) := by decide +kernel
theorem dX6_readTest_168 : decode cX6_readTest 168 = .ok (.ireturn, 1) := by decide +kernel
def qX6_readTest  (u0 : St) (u1 : St) (u2 : St) (u3 : St) (u4 : St) (post : Int32 → St → St → St → St → St → Prop) : Prop := qX8_takeIf 20 u1 u2 (fun r_64 u_62 u_63 => ((r_64 = 0 → qX8_takeIf 21 u_62 u_63 (fun r_69 u_67 u_68 => ((r_69 = 0 → qX8_takeIf 6 u_67 u_68 (fun r_74 u_72 u_73 => ((r_74 = 0 → qX8_take 12 u_72 u_73 (fun u_77 u_78 => qX8_takeNumber (0 : Int32) (6 : Int32) u_77 u_78 (fun r_82 u_80 u_81 => qX8_takeCompare u_80 u_81 (fun r_86 u_84 u_85 => qX8_takeNumber (0 : Int32) (999 : Int32) u_84 u_85 (fun r_90 u_88 u_89 => qX7_add (12 : Int32) r_82 r_90 r_86 u4 (fun r_93 u_92 => post r_93 u0 u_88 u_89 u3 u_92)))))) ∧ (¬ r_74 = 0 → qX6_takePerson (-1 : Int32) u0 u_72 u_73 u3 (fun r_99 u_95 u_96 u_97 u_98 => qX8_takeCompare u_96 u_97 (fun r_103 u_101 u_102 => qX8_takeNumber (0 : Int32) (9999 : Int32) u_101 u_102 (fun r_107 u_105 u_106 => qX7_add (11 : Int32) r_99 r_107 r_103 u4 (fun r_110 u_109 => post r_110 u_95 u_105 u_106 u_98 u_109)))))))) ∧ (¬ r_69 = 0 → qX8_takeNumber (0 : Int32) (6 : Int32) u_67 u_68 (fun r_114 u_112 u_113 => qX7_add (10 : Int32) r_114 (0 : Int32) (0 : Int32) u4 (fun r_117 u_116 => post r_117 u0 u_112 u_113 u3 u_116)))))) ∧ (¬ r_64 = 0 → qX8_takeNumber (0 : Int32) ((gi u3 0) - (1 : Int32)) u_62 u_63 (fun r_121 u_119 u_120 => qX7_add (9 : Int32) r_121 (0 : Int32) (0 : Int32) u4 (fun r_124 u_123 => post r_124 u0 u_119 u_120 u3 u_123)))))
set_option maxRecDepth 100000 in
set_option maxHeartbeats 4000000 in
theorem kX6_readTest {C : Cx} {o0 : Nat} {a0 : Nat → Nat} {a1 : Nat → Nat} {o3 : Nat} {a3 : Nat → Nat} {o4 : Nat} {a4 : Nat → Nat} (hC : Fx C cX6_readTest 5 RX6) (hR0 : xR C = rm 5) {post : Int32 → St → St → St → St → St → Prop} (hR : RI C cX6_readTest 5 (fun u : St × St × St × St × St => (wX6 o0 a0 (xy C) u.1 (wX8 (a0 0) a1 (xy C) u.2.1 (wT (a1 0) (xy C) u.2.2.1 (wX2 o3 a3 (xy C) u.2.2.2.1 (wX7 o4 a4 (xy C) u.2.2.2.2 [])))))) (fun r u => post r u.1 u.2.1 u.2.2.1 u.2.2.2.1 u.2.2.2.2))  {u0 : St} {u1 : St} {u2 : St} {u3 : St} {u4 : St} (h : qX6_readTest  u0 u1 u2 u3 u4 post) : G C 0 0 5 (wX6 o0 a0 (xy C) u0 (wX8 (a0 0) a1 (xy C) u1 (wT (a1 0) (xy C) u2 (wX2 o3 a3 (xy C) u3 (wX7 o4 a4 (xy C) u4 []))))) 0 [(0, .ref o0), (1, .ref o3), (2, .ref o4)] [] := by
  refine g_aload_n (pc := 0) hC 0 dX6_readTest_0 rfl rfl ?_
  refine getX6_0 (pc := 1) hC (F := fun Z => Z) (X := []) (fun _ => rfl) fl_X6_20 dX6_readTest_1 ?_
  refine g_gets (pc := 4) hC 20 (Nat.le_of_ble_eq_true rfl) fl_X6_261 dX6_readTest_4 ?_
  refine g_callV_i (pc := 7) (wd := fun (u : St × St) Y => (wX8 (a0 0) a1 (xy C) u.1 (wT (a1 0) (xy C) u.2 Y))) (F := fun Z => (wX6 o0 a0 (xy C) u0 Z)) (X := (wX6 o0 a0 (xy C) u0 [])) (As := [.ref (xk C 20)]) (rest := []) (u := (u1, u2)) hC (fun _ _ => rfl) (fun _ => rfl) (ctX8_takeIf h) wvX8_takeIf ml_X6_116 (ci := 7) (q0 := 0) rfl rfl rfl rfl (rmok hR0 rfl) ⟨Nat.zero_le _, Nat.zero_le _⟩ rfl (Nat.le_of_ble_eq_true rfl) dX6_readTest_7 (fun r_64 u_65 h => ?_)
  obtain ⟨u_62, u_63⟩ := u_65
  refine g_if_eq (pc := 10) (tgt := 36) hC dX6_readTest_10 (by decide) (fun c_66 => ?_) (fun c_66 => ?_)
  · have h := h.1 c_66
    refine g_aload_n (pc := 36) hC 0 dX6_readTest_36 rfl rfl ?_
    refine getX6_0 (pc := 37) hC (F := fun Z => Z) (X := []) (fun _ => rfl) fl_X6_20 dX6_readTest_37 ?_
    refine g_gets (pc := 40) hC 21 (Nat.le_of_ble_eq_true rfl) fl_X6_264 dX6_readTest_40 ?_
    refine g_callV_i (pc := 43) (wd := fun (u : St × St) Y => (wX8 (a0 0) a1 (xy C) u.1 (wT (a1 0) (xy C) u.2 Y))) (F := fun Z => (wX6 o0 a0 (xy C) u0 Z)) (X := (wX6 o0 a0 (xy C) u0 [])) (As := [.ref (xk C 21)]) (rest := []) (u := (u_62, u_63)) hC (fun _ _ => rfl) (fun _ => rfl) (ctX8_takeIf h) wvX8_takeIf ml_X6_116 (ci := 7) (q0 := 0) rfl rfl rfl rfl (rmok hR0 rfl) ⟨Nat.zero_le _, Nat.zero_le _⟩ rfl (Nat.le_of_ble_eq_true rfl) dX6_readTest_43 (fun r_69 u_70 h => ?_)
    obtain ⟨u_67, u_68⟩ := u_70
    refine g_if_eq (pc := 46) (tgt := 68) hC dX6_readTest_46 (by decide) (fun c_71 => ?_) (fun c_71 => ?_)
    · have h := h.1 c_71
      refine g_aload_n (pc := 68) hC 0 dX6_readTest_68 rfl rfl ?_
      refine getX6_0 (pc := 69) hC (F := fun Z => Z) (X := []) (fun _ => rfl) fl_X6_20 dX6_readTest_69 ?_
      refine g_gets (pc := 72) hC 6 (Nat.le_of_ble_eq_true rfl) fl_X6_156 dX6_readTest_72 ?_
      refine g_callV_i (pc := 75) (wd := fun (u : St × St) Y => (wX8 (a0 0) a1 (xy C) u.1 (wT (a1 0) (xy C) u.2 Y))) (F := fun Z => (wX6 o0 a0 (xy C) u0 Z)) (X := (wX6 o0 a0 (xy C) u0 [])) (As := [.ref (xk C 6)]) (rest := []) (u := (u_67, u_68)) hC (fun _ _ => rfl) (fun _ => rfl) (ctX8_takeIf h) wvX8_takeIf ml_X6_116 (ci := 7) (q0 := 0) rfl rfl rfl rfl (rmok hR0 rfl) ⟨Nat.zero_le _, Nat.zero_le _⟩ rfl (Nat.le_of_ble_eq_true rfl) dX6_readTest_75 (fun r_74 u_75 h => ?_)
      obtain ⟨u_72, u_73⟩ := u_75
      refine g_if_eq (pc := 78) (tgt := 118) hC dX6_readTest_78 (by decide) (fun c_76 => ?_) (fun c_76 => ?_)
      · have h := h.1 c_76
        refine g_aload_n (pc := 118) hC 0 dX6_readTest_118 rfl rfl ?_
        refine getX6_0 (pc := 119) hC (F := fun Z => Z) (X := []) (fun _ => rfl) fl_X6_20 dX6_readTest_119 ?_
        refine g_gets (pc := 122) hC 12 (Nat.le_of_ble_eq_true rfl) fl_X6_182 dX6_readTest_122 ?_
        refine g_callV_v (pc := 125) (wd := fun (u : St × St) Y => (wX8 (a0 0) a1 (xy C) u.1 (wT (a1 0) (xy C) u.2 Y))) (F := fun Z => (wX6 o0 a0 (xy C) u0 Z)) (X := (wX6 o0 a0 (xy C) u0 [])) (As := [.ref (xk C 12)]) (rest := []) (u := (u_72, u_73)) hC (fun _ _ => rfl) (fun _ => rfl) (ctX8_take h) wvX8_take ml_X6_106 (ci := 7) (q0 := 0) rfl rfl rfl rfl (rmok hR0 rfl) ⟨Nat.zero_le _, Nat.zero_le _⟩ rfl (Nat.le_of_ble_eq_true rfl) dX6_readTest_125 (fun u_79 h => ?_)
        obtain ⟨u_77, u_78⟩ := u_79
        refine g_aload_n (pc := 128) hC 0 dX6_readTest_128 rfl rfl ?_
        refine getX6_0 (pc := 129) hC (F := fun Z => Z) (X := []) (fun _ => rfl) fl_X6_20 dX6_readTest_129 ?_
        refine g_iconst (pc := 132) (v := 0) hC dX6_readTest_132 (by decide) ?_
        refine g_bipush (pc := 133) (v := 6) hC dX6_readTest_133 (by decide) ?_
        refine g_callV_i (pc := 135) (wd := fun (u : St × St) Y => (wX8 (a0 0) a1 (xy C) u.1 (wT (a1 0) (xy C) u.2 Y))) (F := fun Z => (wX6 o0 a0 (xy C) u0 Z)) (X := (wX6 o0 a0 (xy C) u0 [])) (As := [.int (0 : Int32), .int (6 : Int32)]) (rest := []) (u := (u_77, u_78)) hC (fun _ _ => rfl) (fun _ => rfl) (ctX8_takeNumber h) wvX8_takeNumber ml_X6_90 (ci := 7) (q0 := 0) rfl rfl rfl rfl (rmok hR0 rfl) ⟨Nat.zero_le _, Nat.zero_le _⟩ rfl (Nat.le_of_ble_eq_true rfl) dX6_readTest_135 (fun r_82 u_83 h => ?_)
        obtain ⟨u_80, u_81⟩ := u_83
        refine g_istore_n (pc := 138) (lv' := [(3, .int r_82), (0, .ref o0), (1, .ref o3), (2, .ref o4)]) hC dX6_readTest_138 rfl (Nat.le_of_ble_eq_true rfl) rfl ?_
        refine g_aload_n (pc := 139) hC 1 dX6_readTest_139 rfl rfl ?_
        refine getX6_0 (pc := 140) hC (F := fun Z => Z) (X := []) (fun _ => rfl) fl_X6_20 dX6_readTest_140 ?_
        refine g_callV_i (pc := 143) (wd := fun (u : St × St) Y => (wX8 (a0 0) a1 (xy C) u.1 (wT (a1 0) (xy C) u.2 Y))) (F := fun Z => (wX6 o0 a0 (xy C) u0 Z)) (X := (wX6 o0 a0 (xy C) u0 [])) (As := []) (rest := []) (u := (u_80, u_81)) hC (fun _ _ => rfl) (fun _ => rfl) (ctX8_takeCompare h) wvX8_takeCompare ml_X6_267 (ci := 7) (q0 := 0) rfl rfl rfl rfl (rmok hR0 rfl) ⟨Nat.zero_le _, Nat.zero_le _⟩ rfl (Nat.le_of_ble_eq_true rfl) dX6_readTest_143 (fun r_86 u_87 h => ?_)
        obtain ⟨u_84, u_85⟩ := u_87
        refine g_istore (pc := 146) (lv' := [(4, .int r_86), (3, .int r_82), (0, .ref o0), (1, .ref o3), (2, .ref o4)]) hC dX6_readTest_146 (Nat.le_of_ble_eq_true rfl) rfl ?_
        refine g_aload_n (pc := 148) hC 4 dX6_readTest_148 rfl rfl ?_
        refine g_bipush (pc := 149) (v := 12) hC dX6_readTest_149 (by decide) ?_
        refine g_iload_n (pc := 151) hC 1 dX6_readTest_151 rfl rfl ?_
        refine g_aload_n (pc := 152) hC 2 dX6_readTest_152 rfl rfl ?_
        refine getX6_0 (pc := 153) hC (F := fun Z => Z) (X := []) (fun _ => rfl) fl_X6_20 dX6_readTest_153 ?_
        refine g_iconst (pc := 156) (v := 0) hC dX6_readTest_156 (by decide) ?_
        refine g_sipush (pc := 157) (v := 999) hC dX6_readTest_157 (by decide) ?_
        refine g_callV_i (pc := 160) (wd := fun (u : St × St) Y => (wX8 (a0 0) a1 (xy C) u.1 (wT (a1 0) (xy C) u.2 Y))) (F := fun Z => (wX6 o0 a0 (xy C) u0 Z)) (X := (wX6 o0 a0 (xy C) u0 [])) (As := [.int (0 : Int32), .int (999 : Int32)]) (rest := [.int r_82, .int (12 : Int32), .ref o4]) (u := (u_84, u_85)) hC (fun _ _ => rfl) (fun _ => rfl) (ctX8_takeNumber h) wvX8_takeNumber ml_X6_90 (ci := 7) (q0 := 0) rfl rfl rfl rfl (rmok hR0 rfl) ⟨Nat.zero_le _, Nat.zero_le _⟩ rfl (Nat.le_of_ble_eq_true rfl) dX6_readTest_160 (fun r_90 u_91 h => ?_)
        obtain ⟨u_88, u_89⟩ := u_91
        refine g_iload (pc := 163) hC 0 dX6_readTest_163 rfl ?_
        refine g_callV_i (pc := 165) (wd := fun (u : St) Y => (wX7 o4 a4 (xy C) u Y)) (F := fun Z => (wX6 o0 a0 (xy C) u0 (wX8 (a0 0) a1 (xy C) u_88 (wT (a1 0) (xy C) u_89 (wX2 o3 a3 (xy C) u3 Z))))) (X := (wX6 o0 a0 (xy C) u0 (wX8 (a0 0) a1 (xy C) u_88 (wT (a1 0) (xy C) u_89 (wX2 o3 a3 (xy C) u3 []))))) (As := [.int (12 : Int32), .int r_82, .int r_90, .int r_86]) (rest := []) (u := u4) hC (fun _ _ => rfl) (fun _ => rfl) (ctX7_add h) wvX7_add ml_X6_212 (ci := 6) (q0 := 0) rfl rfl rfl rfl (rmok hR0 rfl) ⟨Nat.zero_le _, Nat.zero_le _⟩ rfl (Nat.le_of_ble_eq_true rfl) dX6_readTest_165 (fun r_93 u_92 h => ?_)
        exact hR _ _ _ (u0, u_88, u_89, u3, u_92) dX6_readTest_168 h
      · have h := h.2 c_76
        refine g_aload_n (pc := 81) hC 0 dX6_readTest_81 rfl rfl ?_
        refine g_aload_n (pc := 82) hC 1 dX6_readTest_82 rfl rfl ?_
        refine g_iconst (pc := 83) (v := -1) hC dX6_readTest_83 (by decide) ?_
        refine g_callV_i (pc := 84) (wd := fun (u : St × St × St × St) Y => (wX6 o0 a0 (xy C) u.1 (wX8 (a0 0) a1 (xy C) u.2.1 (wT (a1 0) (xy C) u.2.2.1 (wX2 o3 a3 (xy C) u.2.2.2 Y))))) (F := fun Z => Z) (X := []) (As := [.ref o3, .int (-1 : Int32)]) (rest := []) (u := (u0, u_72, u_73, u3)) hC (fun _ _ => rfl) (fun _ => rfl) (ctX6_takePerson h) wvX6_takePerson ml_X6_166 (ci := 5) (q0 := 0) rfl rfl rfl rfl (rmok hR0 rfl) ⟨Nat.zero_le _, Nat.zero_le _⟩ rfl (Nat.le_of_ble_eq_true rfl) dX6_readTest_84 (fun r_99 u_100 h => ?_)
        obtain ⟨u_95, u_96, u_97, u_98⟩ := u_100
        refine g_istore_n (pc := 87) (lv' := [(3, .int r_99), (0, .ref o0), (1, .ref o3), (2, .ref o4)]) hC dX6_readTest_87 rfl (Nat.le_of_ble_eq_true rfl) rfl ?_
        refine g_aload_n (pc := 88) hC 1 dX6_readTest_88 rfl rfl ?_
        refine getX6_0 (pc := 89) hC (F := fun Z => Z) (X := []) (fun _ => rfl) fl_X6_20 dX6_readTest_89 ?_
        refine g_callV_i (pc := 92) (wd := fun (u : St × St) Y => (wX8 (a0 0) a1 (xy C) u.1 (wT (a1 0) (xy C) u.2 Y))) (F := fun Z => (wX6 o0 a0 (xy C) u_95 Z)) (X := (wX6 o0 a0 (xy C) u_95 [])) (As := []) (rest := []) (u := (u_96, u_97)) hC (fun _ _ => rfl) (fun _ => rfl) (ctX8_takeCompare h) wvX8_takeCompare ml_X6_267 (ci := 7) (q0 := 0) rfl rfl rfl rfl (rmok hR0 rfl) ⟨Nat.zero_le _, Nat.zero_le _⟩ rfl (Nat.le_of_ble_eq_true rfl) dX6_readTest_92 (fun r_103 u_104 h => ?_)
        obtain ⟨u_101, u_102⟩ := u_104
        refine g_istore (pc := 95) (lv' := [(4, .int r_103), (3, .int r_99), (0, .ref o0), (1, .ref o3), (2, .ref o4)]) hC dX6_readTest_95 (Nat.le_of_ble_eq_true rfl) rfl ?_
        refine g_aload_n (pc := 97) hC 4 dX6_readTest_97 rfl rfl ?_
        refine g_bipush (pc := 98) (v := 11) hC dX6_readTest_98 (by decide) ?_
        refine g_iload_n (pc := 100) hC 1 dX6_readTest_100 rfl rfl ?_
        refine g_aload_n (pc := 101) hC 2 dX6_readTest_101 rfl rfl ?_
        refine getX6_0 (pc := 102) hC (F := fun Z => Z) (X := []) (fun _ => rfl) fl_X6_20 dX6_readTest_102 ?_
        refine g_iconst (pc := 105) (v := 0) hC dX6_readTest_105 (by decide) ?_
        refine g_sipush (pc := 106) (v := 9999) hC dX6_readTest_106 (by decide) ?_
        refine g_callV_i (pc := 109) (wd := fun (u : St × St) Y => (wX8 (a0 0) a1 (xy C) u.1 (wT (a1 0) (xy C) u.2 Y))) (F := fun Z => (wX6 o0 a0 (xy C) u_95 Z)) (X := (wX6 o0 a0 (xy C) u_95 [])) (As := [.int (0 : Int32), .int (9999 : Int32)]) (rest := [.int r_99, .int (11 : Int32), .ref o4]) (u := (u_101, u_102)) hC (fun _ _ => rfl) (fun _ => rfl) (ctX8_takeNumber h) wvX8_takeNumber ml_X6_90 (ci := 7) (q0 := 0) rfl rfl rfl rfl (rmok hR0 rfl) ⟨Nat.zero_le _, Nat.zero_le _⟩ rfl (Nat.le_of_ble_eq_true rfl) dX6_readTest_109 (fun r_107 u_108 h => ?_)
        obtain ⟨u_105, u_106⟩ := u_108
        refine g_iload (pc := 112) hC 0 dX6_readTest_112 rfl ?_
        refine g_callV_i (pc := 114) (wd := fun (u : St) Y => (wX7 o4 a4 (xy C) u Y)) (F := fun Z => (wX6 o0 a0 (xy C) u_95 (wX8 (a0 0) a1 (xy C) u_105 (wT (a1 0) (xy C) u_106 (wX2 o3 a3 (xy C) u_98 Z))))) (X := (wX6 o0 a0 (xy C) u_95 (wX8 (a0 0) a1 (xy C) u_105 (wT (a1 0) (xy C) u_106 (wX2 o3 a3 (xy C) u_98 []))))) (As := [.int (11 : Int32), .int r_99, .int r_107, .int r_103]) (rest := []) (u := u4) hC (fun _ _ => rfl) (fun _ => rfl) (ctX7_add h) wvX7_add ml_X6_212 (ci := 6) (q0 := 0) rfl rfl rfl rfl (rmok hR0 rfl) ⟨Nat.zero_le _, Nat.zero_le _⟩ rfl (Nat.le_of_ble_eq_true rfl) dX6_readTest_114 (fun r_110 u_109 h => ?_)
        exact hR _ _ _ (u_95, u_105, u_106, u_98, u_109) dX6_readTest_117 h
    · have h := h.2 c_71
      refine g_aload_n (pc := 49) hC 2 dX6_readTest_49 rfl rfl ?_
      refine g_bipush (pc := 50) (v := 10) hC dX6_readTest_50 (by decide) ?_
      refine g_aload_n (pc := 52) hC 0 dX6_readTest_52 rfl rfl ?_
      refine getX6_0 (pc := 53) hC (F := fun Z => Z) (X := []) (fun _ => rfl) fl_X6_20 dX6_readTest_53 ?_
      refine g_iconst (pc := 56) (v := 0) hC dX6_readTest_56 (by decide) ?_
      refine g_bipush (pc := 57) (v := 6) hC dX6_readTest_57 (by decide) ?_
      refine g_callV_i (pc := 59) (wd := fun (u : St × St) Y => (wX8 (a0 0) a1 (xy C) u.1 (wT (a1 0) (xy C) u.2 Y))) (F := fun Z => (wX6 o0 a0 (xy C) u0 Z)) (X := (wX6 o0 a0 (xy C) u0 [])) (As := [.int (0 : Int32), .int (6 : Int32)]) (rest := [.int (10 : Int32), .ref o4]) (u := (u_67, u_68)) hC (fun _ _ => rfl) (fun _ => rfl) (ctX8_takeNumber h) wvX8_takeNumber ml_X6_90 (ci := 7) (q0 := 0) rfl rfl rfl rfl (rmok hR0 rfl) ⟨Nat.zero_le _, Nat.zero_le _⟩ rfl (Nat.le_of_ble_eq_true rfl) dX6_readTest_59 (fun r_114 u_115 h => ?_)
      obtain ⟨u_112, u_113⟩ := u_115
      refine g_iconst (pc := 62) (v := 0) hC dX6_readTest_62 (by decide) ?_
      refine g_iconst (pc := 63) (v := 0) hC dX6_readTest_63 (by decide) ?_
      refine g_callV_i (pc := 64) (wd := fun (u : St) Y => (wX7 o4 a4 (xy C) u Y)) (F := fun Z => (wX6 o0 a0 (xy C) u0 (wX8 (a0 0) a1 (xy C) u_112 (wT (a1 0) (xy C) u_113 (wX2 o3 a3 (xy C) u3 Z))))) (X := (wX6 o0 a0 (xy C) u0 (wX8 (a0 0) a1 (xy C) u_112 (wT (a1 0) (xy C) u_113 (wX2 o3 a3 (xy C) u3 []))))) (As := [.int (10 : Int32), .int r_114, .int (0 : Int32), .int (0 : Int32)]) (rest := []) (u := u4) hC (fun _ _ => rfl) (fun _ => rfl) (ctX7_add h) wvX7_add ml_X6_212 (ci := 6) (q0 := 0) rfl rfl rfl rfl (rmok hR0 rfl) ⟨Nat.zero_le _, Nat.zero_le _⟩ rfl (Nat.le_of_ble_eq_true rfl) dX6_readTest_64 (fun r_117 u_116 h => ?_)
      exact hR _ _ _ (u0, u_112, u_113, u3, u_116) dX6_readTest_67 h
  · have h := h.2 c_66
    refine g_aload_n (pc := 13) hC 2 dX6_readTest_13 rfl rfl ?_
    refine g_bipush (pc := 14) (v := 9) hC dX6_readTest_14 (by decide) ?_
    refine g_aload_n (pc := 16) hC 0 dX6_readTest_16 rfl rfl ?_
    refine getX6_0 (pc := 17) hC (F := fun Z => Z) (X := []) (fun _ => rfl) fl_X6_20 dX6_readTest_17 ?_
    refine g_iconst (pc := 20) (v := 0) hC dX6_readTest_20 (by decide) ?_
    refine g_aload_n (pc := 21) hC 1 dX6_readTest_21 rfl rfl ?_
    refine getX2_0 (pc := 22) hC (F := fun Z => (wX6 o0 a0 (xy C) u0 (wX8 (a0 0) a1 (xy C) u_62 (wT (a1 0) (xy C) u_63 Z)))) (X := (wX6 o0 a0 (xy C) u0 (wX8 (a0 0) a1 (xy C) u_62 (wT (a1 0) (xy C) u_63 [])))) (fun _ => rfl) fl_X6_100 dX6_readTest_22 ?_
    refine g_iconst (pc := 25) (v := 1) hC dX6_readTest_25 (by decide) ?_
    refine g_isub (pc := 26) hC dX6_readTest_26 ?_
    refine g_callV_i (pc := 27) (wd := fun (u : St × St) Y => (wX8 (a0 0) a1 (xy C) u.1 (wT (a1 0) (xy C) u.2 Y))) (F := fun Z => (wX6 o0 a0 (xy C) u0 Z)) (X := (wX6 o0 a0 (xy C) u0 [])) (As := [.int (0 : Int32), .int ((gi u3 0) - (1 : Int32))]) (rest := [.int (9 : Int32), .ref o4]) (u := (u_62, u_63)) hC (fun _ _ => rfl) (fun _ => rfl) (ctX8_takeNumber h) wvX8_takeNumber ml_X6_90 (ci := 7) (q0 := 0) rfl rfl rfl rfl (rmok hR0 rfl) ⟨Nat.zero_le _, Nat.zero_le _⟩ rfl (Nat.le_of_ble_eq_true rfl) dX6_readTest_27 (fun r_121 u_122 h => ?_)
    obtain ⟨u_119, u_120⟩ := u_122
    refine g_iconst (pc := 30) (v := 0) hC dX6_readTest_30 (by decide) ?_
    refine g_iconst (pc := 31) (v := 0) hC dX6_readTest_31 (by decide) ?_
    refine g_callV_i (pc := 32) (wd := fun (u : St) Y => (wX7 o4 a4 (xy C) u Y)) (F := fun Z => (wX6 o0 a0 (xy C) u0 (wX8 (a0 0) a1 (xy C) u_119 (wT (a1 0) (xy C) u_120 (wX2 o3 a3 (xy C) u3 Z))))) (X := (wX6 o0 a0 (xy C) u0 (wX8 (a0 0) a1 (xy C) u_119 (wT (a1 0) (xy C) u_120 (wX2 o3 a3 (xy C) u3 []))))) (As := [.int (9 : Int32), .int r_121, .int (0 : Int32), .int (0 : Int32)]) (rest := []) (u := u4) hC (fun _ _ => rfl) (fun _ => rfl) (ctX7_add h) wvX7_add ml_X6_212 (ci := 6) (q0 := 0) rfl rfl rfl rfl (rmok hR0 rfl) ⟨Nat.zero_le _, Nat.zero_le _⟩ rfl (Nat.le_of_ble_eq_true rfl) dX6_readTest_32 (fun r_124 u_123 h => ?_)
    exact hR _ _ _ (u0, u_119, u_120, u3, u_123) dX6_readTest_35 h
theorem ctX6_readTest {l : Launch} {D : va_G} {cy : Nat → ClassId} {kd : Nat → Nat} {o0 : Nat} {a0 : Nat → Nat} {a1 : Nat → Nat} {o3 : Nat} {a3 : Nat → Nat} {o4 : Nat} {a4 : Nat → Nat}  {u0 : St} {u1 : St} {u2 : St} {u3 : St} {u4 : St} {post : Int32 → St → St → St → St → St → Prop} (h : qX6_readTest  u0 u1 u2 u3 u4 post) : CtI l D cy kd yX6_readTest cX6_readTest 5 5 .int [.ref o0, .ref o3, .ref o4] (fun u : St × St × St × St × St => (wX6 o0 a0 cy u.1 (wX8 (a0 0) a1 cy u.2.1 (wT (a1 0) cy u.2.2.1 (wX2 o3 a3 cy u.2.2.2.1 (wX7 o4 a4 cy u.2.2.2.2 [])))))) (u0, u1, u2, u3, u4) (fun r u => post r u.1 u.2.1 u.2.2.1 u.2.2.2.1 u.2.2.2.2) := met_i (by decide) (Nat.le_of_ble_eq_true rfl) (fun C e1 e2 e3 e4 e5 hC hR => by subst e1 e2 e3 e4; exact kX6_readTest hC e5 hR h)
theorem dX6_readAct_0 : decode cX6_readAct 0 = .ok (.iconst 0, 1) := by decide +kernel
theorem dX6_readAct_1 : decode cX6_readAct 1 = .ok (.istore 4, 2) := by decide +kernel
theorem dX6_readAct_3 : decode cX6_readAct 3 = .ok (.iconst 0, 1) := by decide +kernel
theorem dX6_readAct_4 : decode cX6_readAct 4 = .ok (.istore 5, 2) := by decide +kernel
theorem dX6_readAct_6 : decode cX6_readAct 6 = .ok (.iload_n 1, 1) := by decide +kernel
theorem dX6_readAct_7 : decode cX6_readAct 7 = .ok (.tableswitch 159 0 7 #[45, 60, 75, 102, 121, 159, 159, 144], 45) := by decide +kernel
theorem dX6_readAct_52 : decode cX6_readAct 52 = .ok (.aload_n 0, 1) := by decide +kernel
theorem dX6_readAct_53 : decode cX6_readAct 53 = .ok (.getfield 20, 3) := by decide +kernel
theorem dX6_readAct_56 : decode cX6_readAct 56 = .ok (.iconst 1, 1) := by decide +kernel
theorem dX6_readAct_57 : decode cX6_readAct 57 = .ok (.bipush 20, 2) := by decide +kernel
theorem dX6_readAct_59 : decode cX6_readAct 59 = .ok (.invokevirtual 90, 3) := by decide +kernel
theorem dX6_readAct_62 : decode cX6_readAct 62 = .ok (.istore 4, 2) := by decide +kernel
theorem dX6_readAct_64 : decode cX6_readAct 64 = .ok (.goto 102, 3) := by decide +kernel
theorem dX6_readAct_67 : decode cX6_readAct 67 = .ok (.aload_n 0, 1) := by decide +kernel
theorem dX6_readAct_68 : decode cX6_readAct 68 = .ok (.getfield 20, 3) := by decide +kernel
theorem dX6_readAct_71 : decode cX6_readAct 71 = .ok (.iconst 0, 1) := by decide +kernel
theorem dX6_readAct_72 : decode cX6_readAct 72 = .ok (.bipush 6, 2) := by decide +kernel
theorem dX6_readAct_74 : decode cX6_readAct 74 = .ok (.invokevirtual 90, 3) := by decide +kernel
theorem dX6_readAct_77 : decode cX6_readAct 77 = .ok (.istore 4, 2) := by decide +kernel
theorem dX6_readAct_79 : decode cX6_readAct 79 = .ok (.goto 87, 3) := by decide +kernel
theorem dX6_readAct_82 : decode cX6_readAct 82 = .ok (.aload_n 0, 1) := by decide +kernel
theorem dX6_readAct_83 : decode cX6_readAct 83 = .ok (.getfield 20, 3) := by decide +kernel
theorem dX6_readAct_86 : decode cX6_readAct 86 = .ok (.iconst 0, 1) := by decide +kernel
theorem dX6_readAct_87 : decode cX6_readAct 87 = .ok (.bipush 6, 2) := by decide +kernel
theorem dX6_readAct_89 : decode cX6_readAct 89 = .ok (.invokevirtual 90, 3) := by decide +kernel
theorem dX6_readAct_92 : decode cX6_readAct 92 = .ok (.istore 4, 2) := by decide +kernel
theorem dX6_readAct_94 : decode cX6_readAct 94 = .ok (.aload_n 0, 1) := by decide +kernel
theorem dX6_readAct_95 : decode cX6_readAct 95 = .ok (.getfield 20, 3) := by decide +kernel
theorem dX6_readAct_98 : decode cX6_readAct 98 = .ok (.iconst 1, 1) := by decide +kernel
theorem dX6_readAct_99 : decode cX6_readAct 99 = .ok (.bipush 99, 2) := by decide +kernel
theorem dX6_readAct_101 : decode cX6_readAct 101 = .ok (.invokevirtual 90, 3) := by decide +kernel
theorem dX6_readAct_104 : decode cX6_readAct 104 = .ok (.istore 5, 2) := by decide +kernel
theorem dX6_readAct_106 : decode cX6_readAct 106 = .ok (.goto 60, 3) := by decide +kernel
theorem dX6_readAct_109 : decode cX6_readAct 109 = .ok (.aload_n 0, 1) := by decide +kernel
theorem dX6_readAct_110 : decode cX6_readAct 110 = .ok (.getfield 20, 3) := by decide +kernel
theorem dX6_readAct_113 : decode cX6_readAct 113 = .ok (.iconst 0, 1) := by decide +kernel
theorem dX6_readAct_114 : decode cX6_readAct 114 = .ok (.aload_n 2, 1) := by decide +kernel
theorem dX6_readAct_115 : decode cX6_readAct 115 = .ok (.getfield 100, 3) := by decide +kernel
theorem dX6_readAct_118 : decode cX6_readAct 118 = .ok (.iconst 1, 1) := by decide +kernel
theorem dX6_readAct_119 : decode cX6_readAct 119 = .ok (.isub, 1) := by decide +kernel
theorem dX6_readAct_120 : decode cX6_readAct 120 = .ok (.invokevirtual 90, 3) := by decide +kernel
theorem dX6_readAct_123 : decode cX6_readAct 123 = .ok (.istore 4, 2) := by decide +kernel
theorem dX6_readAct_125 : decode cX6_readAct 125 = .ok (.goto 41, 3) := by decide +kernel
theorem dX6_readAct_128 : decode cX6_readAct 128 = .ok (.aload_n 0, 1) := by decide +kernel
theorem dX6_readAct_129 : decode cX6_readAct 129 = .ok (.aload_n 2, 1) := by decide +kernel
theorem dX6_readAct_130 : decode cX6_readAct 130 = .ok (.iconst (-1), 1) := by decide +kernel
theorem dX6_readAct_131 : decode cX6_readAct 131 = .ok (.invokevirtual 166, 3) := by decide +kernel
theorem dX6_readAct_134 : decode cX6_readAct 134 = .ok (.istore 4, 2) := by decide +kernel
theorem dX6_readAct_136 : decode cX6_readAct 136 = .ok (.aload_n 0, 1) := by decide +kernel
theorem dX6_readAct_137 : decode cX6_readAct 137 = .ok (.getfield 20, 3) := by decide +kernel
theorem dX6_readAct_140 : decode cX6_readAct 140 = .ok (.iconst 1, 1) := by decide +kernel
theorem dX6_readAct_141 : decode cX6_readAct 141 = .ok (.bipush 99, 2) := by decide +kernel
theorem dX6_readAct_143 : decode cX6_readAct 143 = .ok (.invokevirtual 90, 3) := by decide +kernel
theorem dX6_readAct_146 : decode cX6_readAct 146 = .ok (.istore 5, 2) := by decide +kernel
theorem dX6_readAct_148 : decode cX6_readAct 148 = .ok (.goto 18, 3) := by decide +kernel
theorem dX6_readAct_151 : decode cX6_readAct 151 = .ok (.aload_n 0, 1) := by decide +kernel
theorem dX6_readAct_152 : decode cX6_readAct 152 = .ok (.getfield 20, 3) := by decide +kernel
theorem dX6_readAct_155 : decode cX6_readAct 155 = .ok (.iconst 1, 1) := by decide +kernel
theorem dX6_readAct_156 : decode cX6_readAct 156 = .ok (.bipush 99, 2) := by decide +kernel
theorem dX6_readAct_158 : decode cX6_readAct 158 = .ok (.invokevirtual 90, 3) := by decide +kernel
theorem dX6_readAct_161 : decode cX6_readAct 161 = .ok (.istore 4, 2) := by decide +kernel
theorem dX6_readAct_163 : decode cX6_readAct 163 = .ok (.goto 3, 3) := by decide +kernel
theorem dX6_readAct_166 : decode cX6_readAct 166 = .ok (.aload_n 3, 1) := by decide +kernel
theorem dX6_readAct_167 : decode cX6_readAct 167 = .ok (.iload_n 1, 1) := by decide +kernel
theorem dX6_readAct_168 : decode cX6_readAct 168 = .ok (.iload 4, 2) := by decide +kernel
theorem dX6_readAct_170 : decode cX6_readAct 170 = .ok (.iload 5, 2) := by decide +kernel
theorem dX6_readAct_172 : decode cX6_readAct 172 = .ok (.iconst 0, 1) := by decide +kernel
theorem dX6_readAct_173 : decode cX6_readAct 173 = .ok (.invokevirtual 212, 3) := by decide +kernel
theorem dX6_readAct_176 : decode cX6_readAct 176 = .ok (.ireturn, 1) := by decide +kernel
def qX6_readAct_b166  (post : Int32 → St → St → St → St → St → Prop)  (x1 : Int32) (x4 : Int32) (x5 : Int32) (u0 : St) (u1 : St) (u2 : St) (u3 : St) (u4 : St) : Prop := qX7_add x1 x4 x5 (0 : Int32) u4 (fun r_39 u_38 => post r_39 u0 u1 u2 u3 u_38)
set_option maxRecDepth 100000 in
set_option maxHeartbeats 4000000 in
theorem kX6_readAct_b166 {C : Cx} {o0 : Nat} {a0 : Nat → Nat} {a1 : Nat → Nat} {o3 : Nat} {a3 : Nat → Nat} {o4 : Nat} {a4 : Nat → Nat} (hC : Fx C cX6_readAct 6 RX6) (hR0 : xR C = rm 5) {post : Int32 → St → St → St → St → St → Prop} (hR : RI C cX6_readAct 6 (fun u : St × St × St × St × St => (wX6 o0 a0 (xy C) u.1 (wX8 (a0 0) a1 (xy C) u.2.1 (wT (a1 0) (xy C) u.2.2.1 (wX2 o3 a3 (xy C) u.2.2.2.1 (wX7 o4 a4 (xy C) u.2.2.2.2 [])))))) (fun r u => post r u.1 u.2.1 u.2.2.1 u.2.2.2.1 u.2.2.2.2))  {x1 : Int32} {x4 : Int32} {x5 : Int32} {u0 : St} {u1 : St} {u2 : St} {u3 : St} {u4 : St} (h : qX6_readAct_b166 post x1 x4 x5 u0 u1 u2 u3 u4) : G C 0 0 6 (wX6 o0 a0 (xy C) u0 (wX8 (a0 0) a1 (xy C) u1 (wT (a1 0) (xy C) u2 (wX2 o3 a3 (xy C) u3 (wX7 o4 a4 (xy C) u4 []))))) 166 [(1, .int x1), (3, .ref o4), (4, .int x4), (5, .int x5)] [] := by
  refine g_aload_n (pc := 166) hC 1 dX6_readAct_166 rfl rfl ?_
  refine g_iload_n (pc := 167) hC 0 dX6_readAct_167 rfl rfl ?_
  refine g_iload (pc := 168) hC 2 dX6_readAct_168 rfl ?_
  refine g_iload (pc := 170) hC 3 dX6_readAct_170 rfl ?_
  refine g_iconst (pc := 172) (v := 0) hC dX6_readAct_172 (by decide) ?_
  refine g_callV_i (pc := 173) (wd := fun (u : St) Y => (wX7 o4 a4 (xy C) u Y)) (F := fun Z => (wX6 o0 a0 (xy C) u0 (wX8 (a0 0) a1 (xy C) u1 (wT (a1 0) (xy C) u2 (wX2 o3 a3 (xy C) u3 Z))))) (X := (wX6 o0 a0 (xy C) u0 (wX8 (a0 0) a1 (xy C) u1 (wT (a1 0) (xy C) u2 (wX2 o3 a3 (xy C) u3 []))))) (As := [.int x1, .int x4, .int x5, .int (0 : Int32)]) (rest := []) (u := u4) hC (fun _ _ => rfl) (fun _ => rfl) (ctX7_add h) wvX7_add ml_X6_212 (ci := 6) (q0 := 0) rfl rfl rfl rfl (rmok hR0 rfl) ⟨Nat.zero_le _, Nat.zero_le _⟩ rfl (Nat.le_of_ble_eq_true rfl) dX6_readAct_173 (fun r_39 u_38 h => ?_)
  exact hR _ _ _ (u0, u1, u2, u3, u_38) dX6_readAct_176 h
def qX6_readAct (x1 : Int32) (u0 : St) (u1 : St) (u2 : St) (u3 : St) (u4 : St) (post : Int32 → St → St → St → St → St → Prop) : Prop := ((x1 = (0 : Int32) → qX8_takeNumber (1 : Int32) (20 : Int32) u1 u2 (fun r_43 u_41 u_42 => qX6_readAct_b166 post x1 r_43 (0 : Int32) u0 u_41 u_42 u3 u4)) ∧ ((x1 = (1 : Int32) → qX8_takeNumber (0 : Int32) (6 : Int32) u1 u2 (fun r_48 u_46 u_47 => qX6_readAct_b166 post x1 r_48 (0 : Int32) u0 u_46 u_47 u3 u4)) ∧ ((x1 = (2 : Int32) → qX8_takeNumber (0 : Int32) (6 : Int32) u1 u2 (fun r_53 u_51 u_52 => qX8_takeNumber (1 : Int32) (99 : Int32) u_51 u_52 (fun r_57 u_55 u_56 => qX6_readAct_b166 post x1 r_53 r_57 u0 u_55 u_56 u3 u4))) ∧ ((x1 = (3 : Int32) → qX8_takeNumber (0 : Int32) ((gi u3 0) - (1 : Int32)) u1 u2 (fun r_62 u_60 u_61 => qX6_readAct_b166 post x1 r_62 (0 : Int32) u0 u_60 u_61 u3 u4)) ∧ ((x1 = (4 : Int32) → qX6_takePerson (-1 : Int32) u0 u1 u2 u3 (fun r_69 u_65 u_66 u_67 u_68 => qX8_takeNumber (1 : Int32) (99 : Int32) u_66 u_67 (fun r_73 u_71 u_72 => qX6_readAct_b166 post x1 r_69 r_73 u_65 u_71 u_72 u_68 u4))) ∧ ((x1 = (5 : Int32) → qX6_readAct_b166 post x1 (0 : Int32) (0 : Int32) u0 u1 u2 u3 u4) ∧ ((x1 = (6 : Int32) → qX6_readAct_b166 post x1 (0 : Int32) (0 : Int32) u0 u1 u2 u3 u4) ∧ ((x1 = (7 : Int32) → qX8_takeNumber (1 : Int32) (99 : Int32) u1 u2 (fun r_80 u_78 u_79 => qX6_readAct_b166 post x1 r_80 (0 : Int32) u0 u_78 u_79 u3 u4)) ∧ (¬ x1 = (0 : Int32) → ¬ x1 = (1 : Int32) → ¬ x1 = (2 : Int32) → ¬ x1 = (3 : Int32) → ¬ x1 = (4 : Int32) → ¬ x1 = (5 : Int32) → ¬ x1 = (6 : Int32) → ¬ x1 = (7 : Int32) → qX6_readAct_b166 post x1 (0 : Int32) (0 : Int32) u0 u1 u2 u3 u4)))))))))
set_option maxRecDepth 100000 in
set_option maxHeartbeats 4000000 in
theorem kX6_readAct {C : Cx} {o0 : Nat} {a0 : Nat → Nat} {a1 : Nat → Nat} {o3 : Nat} {a3 : Nat → Nat} {o4 : Nat} {a4 : Nat → Nat} (hC : Fx C cX6_readAct 6 RX6) (hR0 : xR C = rm 5) {post : Int32 → St → St → St → St → St → Prop} (hR : RI C cX6_readAct 6 (fun u : St × St × St × St × St => (wX6 o0 a0 (xy C) u.1 (wX8 (a0 0) a1 (xy C) u.2.1 (wT (a1 0) (xy C) u.2.2.1 (wX2 o3 a3 (xy C) u.2.2.2.1 (wX7 o4 a4 (xy C) u.2.2.2.2 [])))))) (fun r u => post r u.1 u.2.1 u.2.2.1 u.2.2.2.1 u.2.2.2.2)) {x1 : Int32} {u0 : St} {u1 : St} {u2 : St} {u3 : St} {u4 : St} (h : qX6_readAct x1 u0 u1 u2 u3 u4 post) : G C 0 0 6 (wX6 o0 a0 (xy C) u0 (wX8 (a0 0) a1 (xy C) u1 (wT (a1 0) (xy C) u2 (wX2 o3 a3 (xy C) u3 (wX7 o4 a4 (xy C) u4 []))))) 0 [(0, .ref o0), (1, .int x1), (2, .ref o3), (3, .ref o4)] [] := by
  refine g_iconst (pc := 0) (v := 0) hC dX6_readAct_0 (by decide) ?_
  refine g_istore (pc := 1) (lv' := [(4, .int (0 : Int32)), (0, .ref o0), (1, .int x1), (2, .ref o3), (3, .ref o4)]) hC dX6_readAct_1 (Nat.le_of_ble_eq_true rfl) rfl ?_
  refine g_iconst (pc := 3) (v := 0) hC dX6_readAct_3 (by decide) ?_
  refine g_istore (pc := 4) (lv' := [(5, .int (0 : Int32)), (4, .int (0 : Int32)), (0, .ref o0), (1, .int x1), (2, .ref o3), (3, .ref o4)]) hC dX6_readAct_4 (Nat.le_of_ble_eq_true rfl) rfl ?_
  refine g_iload_n (pc := 6) hC 3 dX6_readAct_6 rfl rfl ?_
  by_cases c_45 : x1 = (0 : Int32)
  · have h := h.1 c_45
    refine g_tabIn (pc := 7) (tgt := 52) hC dX6_readAct_7 (by rw [c_45]; decide) (by rw [c_45]; decide) (by rw [c_45]; rfl) (by decide) ?_
    refine g_aload_n (pc := 52) hC 2 dX6_readAct_52 rfl rfl ?_
    refine getX6_0 (pc := 53) hC (F := fun Z => Z) (X := []) (fun _ => rfl) fl_X6_20 dX6_readAct_53 ?_
    refine g_iconst (pc := 56) (v := 1) hC dX6_readAct_56 (by decide) ?_
    refine g_bipush (pc := 57) (v := 20) hC dX6_readAct_57 (by decide) ?_
    refine g_callV_i (pc := 59) (wd := fun (u : St × St) Y => (wX8 (a0 0) a1 (xy C) u.1 (wT (a1 0) (xy C) u.2 Y))) (F := fun Z => (wX6 o0 a0 (xy C) u0 Z)) (X := (wX6 o0 a0 (xy C) u0 [])) (As := [.int (1 : Int32), .int (20 : Int32)]) (rest := []) (u := (u1, u2)) hC (fun _ _ => rfl) (fun _ => rfl) (ctX8_takeNumber h) wvX8_takeNumber ml_X6_90 (ci := 7) (q0 := 0) rfl rfl rfl rfl (rmok hR0 rfl) ⟨Nat.zero_le _, Nat.zero_le _⟩ rfl (Nat.le_of_ble_eq_true rfl) dX6_readAct_59 (fun r_43 u_44 h => ?_)
    obtain ⟨u_41, u_42⟩ := u_44
    refine g_istore (pc := 62) (lv' := [(4, .int r_43), (5, .int (0 : Int32)), (0, .ref o0), (1, .int x1), (2, .ref o3), (3, .ref o4)]) hC dX6_readAct_62 (Nat.le_of_ble_eq_true rfl) rfl ?_
    refine g_goto (pc := 64) (tgt := 166) hC dX6_readAct_64 (by decide) ?_
    refine g_sub (lv' := [(1, .int x1), (3, .ref o4), (4, .int r_43), (5, .int (0 : Int32))]) [3, 5, 0, 1] rfl ?_
    exact kX6_readAct_b166 hC hR0 hR  h
  by_cases c_50 : x1 = (1 : Int32)
  · have h := h.2.1 c_50
    refine g_tabIn (pc := 7) (tgt := 67) hC dX6_readAct_7 (by rw [c_50]; decide) (by rw [c_50]; decide) (by rw [c_50]; rfl) (by decide) ?_
    refine g_aload_n (pc := 67) hC 2 dX6_readAct_67 rfl rfl ?_
    refine getX6_0 (pc := 68) hC (F := fun Z => Z) (X := []) (fun _ => rfl) fl_X6_20 dX6_readAct_68 ?_
    refine g_iconst (pc := 71) (v := 0) hC dX6_readAct_71 (by decide) ?_
    refine g_bipush (pc := 72) (v := 6) hC dX6_readAct_72 (by decide) ?_
    refine g_callV_i (pc := 74) (wd := fun (u : St × St) Y => (wX8 (a0 0) a1 (xy C) u.1 (wT (a1 0) (xy C) u.2 Y))) (F := fun Z => (wX6 o0 a0 (xy C) u0 Z)) (X := (wX6 o0 a0 (xy C) u0 [])) (As := [.int (0 : Int32), .int (6 : Int32)]) (rest := []) (u := (u1, u2)) hC (fun _ _ => rfl) (fun _ => rfl) (ctX8_takeNumber h) wvX8_takeNumber ml_X6_90 (ci := 7) (q0 := 0) rfl rfl rfl rfl (rmok hR0 rfl) ⟨Nat.zero_le _, Nat.zero_le _⟩ rfl (Nat.le_of_ble_eq_true rfl) dX6_readAct_74 (fun r_48 u_49 h => ?_)
    obtain ⟨u_46, u_47⟩ := u_49
    refine g_istore (pc := 77) (lv' := [(4, .int r_48), (5, .int (0 : Int32)), (0, .ref o0), (1, .int x1), (2, .ref o3), (3, .ref o4)]) hC dX6_readAct_77 (Nat.le_of_ble_eq_true rfl) rfl ?_
    refine g_goto (pc := 79) (tgt := 166) hC dX6_readAct_79 (by decide) ?_
    refine g_sub (lv' := [(1, .int x1), (3, .ref o4), (4, .int r_48), (5, .int (0 : Int32))]) [3, 5, 0, 1] rfl ?_
    exact kX6_readAct_b166 hC hR0 hR  h
  by_cases c_59 : x1 = (2 : Int32)
  · have h := h.2.2.1 c_59
    refine g_tabIn (pc := 7) (tgt := 82) hC dX6_readAct_7 (by rw [c_59]; decide) (by rw [c_59]; decide) (by rw [c_59]; rfl) (by decide) ?_
    refine g_aload_n (pc := 82) hC 2 dX6_readAct_82 rfl rfl ?_
    refine getX6_0 (pc := 83) hC (F := fun Z => Z) (X := []) (fun _ => rfl) fl_X6_20 dX6_readAct_83 ?_
    refine g_iconst (pc := 86) (v := 0) hC dX6_readAct_86 (by decide) ?_
    refine g_bipush (pc := 87) (v := 6) hC dX6_readAct_87 (by decide) ?_
    refine g_callV_i (pc := 89) (wd := fun (u : St × St) Y => (wX8 (a0 0) a1 (xy C) u.1 (wT (a1 0) (xy C) u.2 Y))) (F := fun Z => (wX6 o0 a0 (xy C) u0 Z)) (X := (wX6 o0 a0 (xy C) u0 [])) (As := [.int (0 : Int32), .int (6 : Int32)]) (rest := []) (u := (u1, u2)) hC (fun _ _ => rfl) (fun _ => rfl) (ctX8_takeNumber h) wvX8_takeNumber ml_X6_90 (ci := 7) (q0 := 0) rfl rfl rfl rfl (rmok hR0 rfl) ⟨Nat.zero_le _, Nat.zero_le _⟩ rfl (Nat.le_of_ble_eq_true rfl) dX6_readAct_89 (fun r_53 u_54 h => ?_)
    obtain ⟨u_51, u_52⟩ := u_54
    refine g_istore (pc := 92) (lv' := [(4, .int r_53), (5, .int (0 : Int32)), (0, .ref o0), (1, .int x1), (2, .ref o3), (3, .ref o4)]) hC dX6_readAct_92 (Nat.le_of_ble_eq_true rfl) rfl ?_
    refine g_aload_n (pc := 94) hC 2 dX6_readAct_94 rfl rfl ?_
    refine getX6_0 (pc := 95) hC (F := fun Z => Z) (X := []) (fun _ => rfl) fl_X6_20 dX6_readAct_95 ?_
    refine g_iconst (pc := 98) (v := 1) hC dX6_readAct_98 (by decide) ?_
    refine g_bipush (pc := 99) (v := 99) hC dX6_readAct_99 (by decide) ?_
    refine g_callV_i (pc := 101) (wd := fun (u : St × St) Y => (wX8 (a0 0) a1 (xy C) u.1 (wT (a1 0) (xy C) u.2 Y))) (F := fun Z => (wX6 o0 a0 (xy C) u0 Z)) (X := (wX6 o0 a0 (xy C) u0 [])) (As := [.int (1 : Int32), .int (99 : Int32)]) (rest := []) (u := (u_51, u_52)) hC (fun _ _ => rfl) (fun _ => rfl) (ctX8_takeNumber h) wvX8_takeNumber ml_X6_90 (ci := 7) (q0 := 0) rfl rfl rfl rfl (rmok hR0 rfl) ⟨Nat.zero_le _, Nat.zero_le _⟩ rfl (Nat.le_of_ble_eq_true rfl) dX6_readAct_101 (fun r_57 u_58 h => ?_)
    obtain ⟨u_55, u_56⟩ := u_58
    refine g_istore (pc := 104) (lv' := [(5, .int r_57), (4, .int r_53), (0, .ref o0), (1, .int x1), (2, .ref o3), (3, .ref o4)]) hC dX6_readAct_104 (Nat.le_of_ble_eq_true rfl) rfl ?_
    refine g_goto (pc := 106) (tgt := 166) hC dX6_readAct_106 (by decide) ?_
    refine g_sub (lv' := [(1, .int x1), (3, .ref o4), (4, .int r_53), (5, .int r_57)]) [3, 5, 1, 0] rfl ?_
    exact kX6_readAct_b166 hC hR0 hR  h
  by_cases c_64 : x1 = (3 : Int32)
  · have h := h.2.2.2.1 c_64
    refine g_tabIn (pc := 7) (tgt := 109) hC dX6_readAct_7 (by rw [c_64]; decide) (by rw [c_64]; decide) (by rw [c_64]; rfl) (by decide) ?_
    refine g_aload_n (pc := 109) hC 2 dX6_readAct_109 rfl rfl ?_
    refine getX6_0 (pc := 110) hC (F := fun Z => Z) (X := []) (fun _ => rfl) fl_X6_20 dX6_readAct_110 ?_
    refine g_iconst (pc := 113) (v := 0) hC dX6_readAct_113 (by decide) ?_
    refine g_aload_n (pc := 114) hC 4 dX6_readAct_114 rfl rfl ?_
    refine getX2_0 (pc := 115) hC (F := fun Z => (wX6 o0 a0 (xy C) u0 (wX8 (a0 0) a1 (xy C) u1 (wT (a1 0) (xy C) u2 Z)))) (X := (wX6 o0 a0 (xy C) u0 (wX8 (a0 0) a1 (xy C) u1 (wT (a1 0) (xy C) u2 [])))) (fun _ => rfl) fl_X6_100 dX6_readAct_115 ?_
    refine g_iconst (pc := 118) (v := 1) hC dX6_readAct_118 (by decide) ?_
    refine g_isub (pc := 119) hC dX6_readAct_119 ?_
    refine g_callV_i (pc := 120) (wd := fun (u : St × St) Y => (wX8 (a0 0) a1 (xy C) u.1 (wT (a1 0) (xy C) u.2 Y))) (F := fun Z => (wX6 o0 a0 (xy C) u0 Z)) (X := (wX6 o0 a0 (xy C) u0 [])) (As := [.int (0 : Int32), .int ((gi u3 0) - (1 : Int32))]) (rest := []) (u := (u1, u2)) hC (fun _ _ => rfl) (fun _ => rfl) (ctX8_takeNumber h) wvX8_takeNumber ml_X6_90 (ci := 7) (q0 := 0) rfl rfl rfl rfl (rmok hR0 rfl) ⟨Nat.zero_le _, Nat.zero_le _⟩ rfl (Nat.le_of_ble_eq_true rfl) dX6_readAct_120 (fun r_62 u_63 h => ?_)
    obtain ⟨u_60, u_61⟩ := u_63
    refine g_istore (pc := 123) (lv' := [(4, .int r_62), (5, .int (0 : Int32)), (0, .ref o0), (1, .int x1), (2, .ref o3), (3, .ref o4)]) hC dX6_readAct_123 (Nat.le_of_ble_eq_true rfl) rfl ?_
    refine g_goto (pc := 125) (tgt := 166) hC dX6_readAct_125 (by decide) ?_
    refine g_sub (lv' := [(1, .int x1), (3, .ref o4), (4, .int r_62), (5, .int (0 : Int32))]) [3, 5, 0, 1] rfl ?_
    exact kX6_readAct_b166 hC hR0 hR  h
  by_cases c_75 : x1 = (4 : Int32)
  · have h := h.2.2.2.2.1 c_75
    refine g_tabIn (pc := 7) (tgt := 128) hC dX6_readAct_7 (by rw [c_75]; decide) (by rw [c_75]; decide) (by rw [c_75]; rfl) (by decide) ?_
    refine g_aload_n (pc := 128) hC 2 dX6_readAct_128 rfl rfl ?_
    refine g_aload_n (pc := 129) hC 4 dX6_readAct_129 rfl rfl ?_
    refine g_iconst (pc := 130) (v := -1) hC dX6_readAct_130 (by decide) ?_
    refine g_callV_i (pc := 131) (wd := fun (u : St × St × St × St) Y => (wX6 o0 a0 (xy C) u.1 (wX8 (a0 0) a1 (xy C) u.2.1 (wT (a1 0) (xy C) u.2.2.1 (wX2 o3 a3 (xy C) u.2.2.2 Y))))) (F := fun Z => Z) (X := []) (As := [.ref o3, .int (-1 : Int32)]) (rest := []) (u := (u0, u1, u2, u3)) hC (fun _ _ => rfl) (fun _ => rfl) (ctX6_takePerson h) wvX6_takePerson ml_X6_166 (ci := 5) (q0 := 0) rfl rfl rfl rfl (rmok hR0 rfl) ⟨Nat.zero_le _, Nat.zero_le _⟩ rfl (Nat.le_of_ble_eq_true rfl) dX6_readAct_131 (fun r_69 u_70 h => ?_)
    obtain ⟨u_65, u_66, u_67, u_68⟩ := u_70
    refine g_istore (pc := 134) (lv' := [(4, .int r_69), (5, .int (0 : Int32)), (0, .ref o0), (1, .int x1), (2, .ref o3), (3, .ref o4)]) hC dX6_readAct_134 (Nat.le_of_ble_eq_true rfl) rfl ?_
    refine g_aload_n (pc := 136) hC 2 dX6_readAct_136 rfl rfl ?_
    refine getX6_0 (pc := 137) hC (F := fun Z => Z) (X := []) (fun _ => rfl) fl_X6_20 dX6_readAct_137 ?_
    refine g_iconst (pc := 140) (v := 1) hC dX6_readAct_140 (by decide) ?_
    refine g_bipush (pc := 141) (v := 99) hC dX6_readAct_141 (by decide) ?_
    refine g_callV_i (pc := 143) (wd := fun (u : St × St) Y => (wX8 (a0 0) a1 (xy C) u.1 (wT (a1 0) (xy C) u.2 Y))) (F := fun Z => (wX6 o0 a0 (xy C) u_65 Z)) (X := (wX6 o0 a0 (xy C) u_65 [])) (As := [.int (1 : Int32), .int (99 : Int32)]) (rest := []) (u := (u_66, u_67)) hC (fun _ _ => rfl) (fun _ => rfl) (ctX8_takeNumber h) wvX8_takeNumber ml_X6_90 (ci := 7) (q0 := 0) rfl rfl rfl rfl (rmok hR0 rfl) ⟨Nat.zero_le _, Nat.zero_le _⟩ rfl (Nat.le_of_ble_eq_true rfl) dX6_readAct_143 (fun r_73 u_74 h => ?_)
    obtain ⟨u_71, u_72⟩ := u_74
    refine g_istore (pc := 146) (lv' := [(5, .int r_73), (4, .int r_69), (0, .ref o0), (1, .int x1), (2, .ref o3), (3, .ref o4)]) hC dX6_readAct_146 (Nat.le_of_ble_eq_true rfl) rfl ?_
    refine g_goto (pc := 148) (tgt := 166) hC dX6_readAct_148 (by decide) ?_
    refine g_sub (lv' := [(1, .int x1), (3, .ref o4), (4, .int r_69), (5, .int r_73)]) [3, 5, 1, 0] rfl ?_
    exact kX6_readAct_b166 hC hR0 hR  h
  by_cases c_76 : x1 = (5 : Int32)
  · have h := h.2.2.2.2.2.1 c_76
    refine g_tabIn (pc := 7) (tgt := 166) hC dX6_readAct_7 (by rw [c_76]; decide) (by rw [c_76]; decide) (by rw [c_76]; rfl) (by decide) ?_
    refine g_sub (lv' := [(1, .int x1), (3, .ref o4), (4, .int (0 : Int32)), (5, .int (0 : Int32))]) [3, 5, 1, 0] rfl ?_
    exact kX6_readAct_b166 hC hR0 hR  h
  by_cases c_77 : x1 = (6 : Int32)
  · have h := h.2.2.2.2.2.2.1 c_77
    refine g_tabIn (pc := 7) (tgt := 166) hC dX6_readAct_7 (by rw [c_77]; decide) (by rw [c_77]; decide) (by rw [c_77]; rfl) (by decide) ?_
    refine g_sub (lv' := [(1, .int x1), (3, .ref o4), (4, .int (0 : Int32)), (5, .int (0 : Int32))]) [3, 5, 1, 0] rfl ?_
    exact kX6_readAct_b166 hC hR0 hR  h
  by_cases c_82 : x1 = (7 : Int32)
  · have h := h.2.2.2.2.2.2.2.1 c_82
    refine g_tabIn (pc := 7) (tgt := 151) hC dX6_readAct_7 (by rw [c_82]; decide) (by rw [c_82]; decide) (by rw [c_82]; rfl) (by decide) ?_
    refine g_aload_n (pc := 151) hC 2 dX6_readAct_151 rfl rfl ?_
    refine getX6_0 (pc := 152) hC (F := fun Z => Z) (X := []) (fun _ => rfl) fl_X6_20 dX6_readAct_152 ?_
    refine g_iconst (pc := 155) (v := 1) hC dX6_readAct_155 (by decide) ?_
    refine g_bipush (pc := 156) (v := 99) hC dX6_readAct_156 (by decide) ?_
    refine g_callV_i (pc := 158) (wd := fun (u : St × St) Y => (wX8 (a0 0) a1 (xy C) u.1 (wT (a1 0) (xy C) u.2 Y))) (F := fun Z => (wX6 o0 a0 (xy C) u0 Z)) (X := (wX6 o0 a0 (xy C) u0 [])) (As := [.int (1 : Int32), .int (99 : Int32)]) (rest := []) (u := (u1, u2)) hC (fun _ _ => rfl) (fun _ => rfl) (ctX8_takeNumber h) wvX8_takeNumber ml_X6_90 (ci := 7) (q0 := 0) rfl rfl rfl rfl (rmok hR0 rfl) ⟨Nat.zero_le _, Nat.zero_le _⟩ rfl (Nat.le_of_ble_eq_true rfl) dX6_readAct_158 (fun r_80 u_81 h => ?_)
    obtain ⟨u_78, u_79⟩ := u_81
    refine g_istore (pc := 161) (lv' := [(4, .int r_80), (5, .int (0 : Int32)), (0, .ref o0), (1, .int x1), (2, .ref o3), (3, .ref o4)]) hC dX6_readAct_161 (Nat.le_of_ble_eq_true rfl) rfl ?_
    refine g_goto (pc := 163) (tgt := 166) hC dX6_readAct_163 (by decide) ?_
    refine g_sub (lv' := [(1, .int x1), (3, .ref o4), (4, .int r_80), (5, .int (0 : Int32))]) [3, 5, 0, 1] rfl ?_
    exact kX6_readAct_b166 hC hR0 hR  h
  have h := h.2.2.2.2.2.2.2.2 c_45 c_50 c_59 c_64 c_75 c_76 c_77 c_82
  refine g_tabOut (pc := 7) (tgt := 166) hC dX6_readAct_7 (tab_out x1 (0) 8 (7) rfl (tab_s c_45 (tab_s c_50 (tab_s c_59 (tab_s c_64 (tab_s c_75 (tab_s c_76 (tab_s c_77 (tab_s c_82 tab_0))))))))) (by decide) ?_
  refine g_sub (lv' := [(1, .int x1), (3, .ref o4), (4, .int (0 : Int32)), (5, .int (0 : Int32))]) [3, 5, 1, 0] rfl ?_
  exact kX6_readAct_b166 hC hR0 hR  h
theorem ctX6_readAct {l : Launch} {D : va_G} {cy : Nat → ClassId} {kd : Nat → Nat} {o0 : Nat} {a0 : Nat → Nat} {a1 : Nat → Nat} {o3 : Nat} {a3 : Nat → Nat} {o4 : Nat} {a4 : Nat → Nat} {x1 : Int32} {u0 : St} {u1 : St} {u2 : St} {u3 : St} {u4 : St} {post : Int32 → St → St → St → St → St → Prop} (h : qX6_readAct x1 u0 u1 u2 u3 u4 post) : CtI l D cy kd yX6_readAct cX6_readAct 6 5 .int [.ref o0, .int x1, .ref o3, .ref o4] (fun u : St × St × St × St × St => (wX6 o0 a0 cy u.1 (wX8 (a0 0) a1 cy u.2.1 (wT (a1 0) cy u.2.2.1 (wX2 o3 a3 cy u.2.2.2.1 (wX7 o4 a4 cy u.2.2.2.2 [])))))) (u0, u1, u2, u3, u4) (fun r u => post r u.1 u.2.1 u.2.2.1 u.2.2.2.1 u.2.2.2.2) := met_i (by decide) (Nat.le_of_ble_eq_true rfl) (fun C e1 e2 e3 e4 e5 hC hR => by subst e1 e2 e3 e4; exact kX6_readAct hC e5 hR h)
theorem dX6_readStep_0 : decode cX6_readStep 0 = .ok (.aload_n 0, 1) := by decide +kernel
theorem dX6_readStep_1 : decode cX6_readStep 1 = .ok (.invokevirtual 220, 3) := by decide +kernel
theorem dX6_readStep_4 : decode cX6_readStep 4 = .ok (.istore_n 3, 1) := by decide +kernel
theorem dX6_readStep_5 : decode cX6_readStep 5 = .ok (.iload_n 3, 1) := by decide +kernel
theorem dX6_readStep_6 : decode cX6_readStep 6 = .ok (.bipush 8, 2) := by decide +kernel
theorem dX6_readStep_8 : decode cX6_readStep 8 = .ok (.if_icmp .eq 9, 3) := by decide +kernel
theorem dX6_readStep_11 : decode cX6_readStep 11 = .ok (.iload_n 3, 1) := by decide +kernel
theorem dX6_readStep_12 : decode cX6_readStep 12 = .ok (.bipush 7, 2) := by decide +kernel
theorem dX6_readStep_14 : decode cX6_readStep 14 = .ok (.if_icmp .ne 7, 3) := by decide +kernel
theorem dX6_readStep_17 : decode cX6_readStep 17 = .ok (.iconst 1, 1) := by decide +kernel
theorem dX6_readStep_18 : decode cX6_readStep 18 = .ok (.goto 4, 3) := by decide +kernel
theorem dX6_readStep_21 : decode cX6_readStep 21 = .ok (.iconst 0, 1) := by decide +kernel
theorem dX6_readStep_22 : decode cX6_readStep 22 = .ok (.istore 4, 2) := by decide +kernel
theorem dX6_readStep_24 : decode cX6_readStep 24 = .ok (.iload_n 3, 1) := by decide +kernel
theorem dX6_readStep_25 : decode cX6_readStep 25 = .ok (.iconst (-1), 1) := by decide +kernel
theorem dX6_readStep_26 : decode cX6_readStep 26 = .ok (.if_icmp .ne 15, 3) := by decide +kernel
theorem dX6_readStep_29 : decode cX6_readStep 29 = .ok (.aload_n 0, 1) := by decide +kernel
theorem dX6_readStep_30 : decode cX6_readStep 30 = .ok (.getfield 20, 3) := by decide +kernel
theorem dX6_readStep_33 : decode cX6_readStep 33 = .ok (.iconst 2, 1) := by decide +kernel
theorem dX6_readStep_34 : decode cX6_readStep 34 = .ok (.invokevirtual 83, 3) := by decide +kernel
theorem dX6_readStep_37 : decode cX6_readStep 37 = .ok (.pop, 1) := by decide +kernel
theorem dX6_readStep_38 : decode cX6_readStep 38 = .ok (.goto 125, 3) := by decide +kernel
theorem dX6_readStep_41 : decode cX6_readStep 41 = .ok (.aload_n 2, 1) := by decide +kernel
theorem dX6_readStep_42 : decode cX6_readStep 42 = .ok (.getfield 223, 3) := by decide +kernel
theorem dX6_readStep_45 : decode cX6_readStep 45 = .ok (.bipush 30, 2) := by decide +kernel
theorem dX6_readStep_47 : decode cX6_readStep 47 = .ok (.if_icmp .lt 16, 3) := by decide +kernel
theorem dX6_readStep_50 : decode cX6_readStep 50 = .ok (.aload_n 0, 1) := by decide +kernel
theorem dX6_readStep_51 : decode cX6_readStep 51 = .ok (.getfield 20, 3) := by decide +kernel
theorem dX6_readStep_54 : decode cX6_readStep 54 = .ok (.bipush 6, 2) := by decide +kernel
theorem dX6_readStep_56 : decode cX6_readStep 56 = .ok (.invokevirtual 83, 3) := by decide +kernel
theorem dX6_readStep_59 : decode cX6_readStep 59 = .ok (.pop, 1) := by decide +kernel
theorem dX6_readStep_60 : decode cX6_readStep 60 = .ok (.goto 103, 3) := by decide +kernel
theorem dX6_readStep_63 : decode cX6_readStep 63 = .ok (.iload 4, 2) := by decide +kernel
theorem dX6_readStep_65 : decode cX6_readStep 65 = .ok (.ifCond .eq 24, 3) := by decide +kernel
theorem dX6_readStep_68 : decode cX6_readStep 68 = .ok (.aload_n 0, 1) := by decide +kernel
theorem dX6_readStep_69 : decode cX6_readStep 69 = .ok (.getfield 195, 3) := by decide +kernel
theorem dX6_readStep_72 : decode cX6_readStep 72 = .ok (.iconst 3, 1) := by decide +kernel
theorem dX6_readStep_73 : decode cX6_readStep 73 = .ok (.if_icmp .lt 16, 3) := by decide +kernel
theorem dX6_readStep_76 : decode cX6_readStep 76 = .ok (.aload_n 0, 1) := by decide +kernel
theorem dX6_readStep_77 : decode cX6_readStep 77 = .ok (.getfield 20, 3) := by decide +kernel
theorem dX6_readStep_80 : decode cX6_readStep 80 = .ok (.bipush 7, 2) := by decide +kernel
theorem dX6_readStep_82 : decode cX6_readStep 82 = .ok (.invokevirtual 83, 3) := by decide +kernel
theorem dX6_readStep_85 : decode cX6_readStep 85 = .ok (.pop, 1) := by decide +kernel
theorem dX6_readStep_86 : decode cX6_readStep 86 = .ok (.goto 77, 3) := by decide +kernel
theorem dX6_readStep_89 : decode cX6_readStep 89 = .ok (.aload_n 0, 1) := by decide +kernel
theorem dX6_readStep_90 : decode cX6_readStep 90 = .ok (.getfield 20, 3) := by decide +kernel
theorem dX6_readStep_93 : decode cX6_readStep 93 = .ok (.invokevirtual 87, 3) := by decide +kernel
theorem dX6_readStep_96 : decode cX6_readStep 96 = .ok (.iload_n 3, 1) := by decide +kernel
theorem dX6_readStep_97 : decode cX6_readStep 97 = .ok (.bipush 8, 2) := by decide +kernel
theorem dX6_readStep_99 : decode cX6_readStep 99 = .ok (.if_icmp .ne 12, 3) := by decide +kernel
theorem dX6_readStep_102 : decode cX6_readStep 102 = .ok (.aload_n 0, 1) := by decide +kernel
theorem dX6_readStep_103 : decode cX6_readStep 103 = .ok (.aload_n 1, 1) := by decide +kernel
theorem dX6_readStep_104 : decode cX6_readStep 104 = .ok (.aload_n 2, 1) := by decide +kernel
theorem dX6_readStep_105 : decode cX6_readStep 105 = .ok (.invokevirtual 226, 3) := by decide +kernel
theorem dX6_readStep_108 : decode cX6_readStep 108 = .ok (.goto 10, 3) := by decide +kernel
theorem dX6_readStep_111 : decode cX6_readStep 111 = .ok (.aload_n 0, 1) := by decide +kernel
theorem dX6_readStep_112 : decode cX6_readStep 112 = .ok (.iload_n 3, 1) := by decide +kernel
theorem dX6_readStep_113 : decode cX6_readStep 113 = .ok (.aload_n 1, 1) := by decide +kernel
theorem dX6_readStep_114 : decode cX6_readStep 114 = .ok (.aload_n 2, 1) := by decide +kernel
theorem dX6_readStep_115 : decode cX6_readStep 115 = .ok (.invokevirtual 230, 3) := by decide +kernel
theorem dX6_readStep_118 : decode cX6_readStep 118 = .ok (.istore 5, 2) := by decide +kernel
theorem dX6_readStep_120 : decode cX6_readStep 120 = .ok (.aload_n 2, 1) := by decide +kernel
theorem dX6_readStep_121 : decode cX6_readStep 121 = .ok (.dup, 1) := by decide +kernel
theorem dX6_readStep_122 : decode cX6_readStep 122 = .ok (.getfield 223, 3) := by decide +kernel
theorem dX6_readStep_125 : decode cX6_readStep 125 = .ok (.iconst 1, 1) := by decide +kernel
theorem dX6_readStep_126 : decode cX6_readStep 126 = .ok (.iadd, 1) := by decide +kernel
theorem dX6_readStep_127 : decode cX6_readStep 127 = .ok (.putfield 223, 3) := by decide +kernel
theorem dX6_readStep_130 : decode cX6_readStep 130 = .ok (.aload_n 0, 1) := by decide +kernel
theorem dX6_readStep_131 : decode cX6_readStep 131 = .ok (.getfield 20, 3) := by decide +kernel
theorem dX6_readStep_134 : decode cX6_readStep 134 = .ok (.invokevirtual 97, 3) := by decide +kernel
theorem dX6_readStep_137 : decode cX6_readStep 137 = .ok (.iload 4, 2) := by decide +kernel
theorem dX6_readStep_139 : decode cX6_readStep 139 = .ok (.ifCond .eq 24, 3) := by decide +kernel
theorem dX6_readStep_142 : decode cX6_readStep 142 = .ok (.aload_n 0, 1) := by decide +kernel
theorem dX6_readStep_143 : decode cX6_readStep 143 = .ok (.getfield 9, 3) := by decide +kernel
theorem dX6_readStep_146 : decode cX6_readStep 146 = .ok (.aload_n 0, 1) := by decide +kernel
theorem dX6_readStep_147 : decode cX6_readStep 147 = .ok (.getfield 195, 3) := by decide +kernel
theorem dX6_readStep_150 : decode cX6_readStep 150 = .ok (.iload 5, 2) := by decide +kernel
theorem dX6_readStep_152 : decode cX6_readStep 152 = .ok (.iastore, 1) := by decide +kernel
theorem dX6_readStep_153 : decode cX6_readStep 153 = .ok (.aload_n 0, 1) := by decide +kernel
theorem dX6_readStep_154 : decode cX6_readStep 154 = .ok (.dup, 1) := by decide +kernel
theorem dX6_readStep_155 : decode cX6_readStep 155 = .ok (.getfield 195, 3) := by decide +kernel
theorem dX6_readStep_158 : decode cX6_readStep 158 = .ok (.iconst 1, 1) := by decide +kernel
theorem dX6_readStep_159 : decode cX6_readStep 159 = .ok (.iadd, 1) := by decide +kernel
theorem dX6_readStep_160 : decode cX6_readStep 160 = .ok (.putfield 195, 3) := by decide +kernel
theorem dX6_readStep_163 : decode cX6_readStep 163 = .ok (.return_, 1) := by decide +kernel
def qX6_readStep_b163  (post : St → St → St → St → St → Prop)  (u0 : St) (u1 : St) (u2 : St) (u3 : St) (u4 : St) : Prop := post u0 u1 u2 u3 u4
set_option maxRecDepth 100000 in
set_option maxHeartbeats 4000000 in
theorem kX6_readStep_b163 {C : Cx} {o0 : Nat} {a0 : Nat → Nat} {a1 : Nat → Nat} {o3 : Nat} {a3 : Nat → Nat} {o4 : Nat} {a4 : Nat → Nat} (hC : Fx C cX6_readStep 6 RX6) (hR0 : xR C = rm 6) {post : St → St → St → St → St → Prop} (hR : RV C cX6_readStep 6 (fun u : St × St × St × St × St => (wX6 o0 a0 (xy C) u.1 (wX8 (a0 0) a1 (xy C) u.2.1 (wT (a1 0) (xy C) u.2.2.1 (wX2 o3 a3 (xy C) u.2.2.2.1 (wX7 o4 a4 (xy C) u.2.2.2.2 [])))))) (fun u => post u.1 u.2.1 u.2.2.1 u.2.2.2.1 u.2.2.2.2))  {u0 : St} {u1 : St} {u2 : St} {u3 : St} {u4 : St} (h : qX6_readStep_b163 post u0 u1 u2 u3 u4) : G C 0 0 6 (wX6 o0 a0 (xy C) u0 (wX8 (a0 0) a1 (xy C) u1 (wT (a1 0) (xy C) u2 (wX2 o3 a3 (xy C) u3 (wX7 o4 a4 (xy C) u4 []))))) 163 [] [] := by
  exact hR _ _ (u0, u1, u2, u3, u4) dX6_readStep_163 h
def qX6_readStep_b118  (post : St → St → St → St → St → Prop)  (x4 : Int32) (s0 : Int32) (u0 : St) (u1 : St) (u2 : St) (u3 : St) (u4 : St) : Prop := ∀ u_41 : St, u_41 = (si u4 1 ((gi u4 1) + (1 : Int32))) → qX8_takeSemicolon u1 u2 (fun u_42 u_43 => ((x4 = 0 → qX6_readStep_b163 post u0 u_42 u_43 u3 u_41) ∧ (¬ x4 = 0 → (vp_in (gi u0 2) 3 ∧ ∀ u_46 : St, u_46 = (sw u0 1 (upd (ga u0 1) ((gi u0 2)).toNatClampNeg s0)) → ∀ u_47 : St, u_47 = (si u_46 2 ((gi u_46 2) + (1 : Int32))) → qX6_readStep_b163 post u_47 u_42 u_43 u3 u_41))))
set_option maxRecDepth 100000 in
set_option maxHeartbeats 4000000 in
theorem kX6_readStep_b118 {C : Cx} {o0 : Nat} {a0 : Nat → Nat} {a1 : Nat → Nat} {o3 : Nat} {a3 : Nat → Nat} {o4 : Nat} {a4 : Nat → Nat} (hC : Fx C cX6_readStep 6 RX6) (hR0 : xR C = rm 6) {post : St → St → St → St → St → Prop} (hR : RV C cX6_readStep 6 (fun u : St × St × St × St × St => (wX6 o0 a0 (xy C) u.1 (wX8 (a0 0) a1 (xy C) u.2.1 (wT (a1 0) (xy C) u.2.2.1 (wX2 o3 a3 (xy C) u.2.2.2.1 (wX7 o4 a4 (xy C) u.2.2.2.2 [])))))) (fun u => post u.1 u.2.1 u.2.2.1 u.2.2.2.1 u.2.2.2.2))  {x4 : Int32} {s0 : Int32} {u0 : St} {u1 : St} {u2 : St} {u3 : St} {u4 : St} (h : qX6_readStep_b118 post x4 s0 u0 u1 u2 u3 u4) : G C 0 0 6 (wX6 o0 a0 (xy C) u0 (wX8 (a0 0) a1 (xy C) u1 (wT (a1 0) (xy C) u2 (wX2 o3 a3 (xy C) u3 (wX7 o4 a4 (xy C) u4 []))))) 118 [(0, .ref o0), (2, .ref o4), (4, .int x4)] [.int s0] := by
  refine g_istore (pc := 118) (lv' := [(5, .int s0), (0, .ref o0), (2, .ref o4), (4, .int x4)]) hC dX6_readStep_118 (Nat.le_of_ble_eq_true rfl) rfl ?_
  refine g_aload_n (pc := 120) hC 2 dX6_readStep_120 rfl rfl ?_
  refine g_dup (pc := 121) hC dX6_readStep_121 rfl ?_
  refine getX7_1 (pc := 122) hC (F := fun Z => (wX6 o0 a0 (xy C) u0 (wX8 (a0 0) a1 (xy C) u1 (wT (a1 0) (xy C) u2 (wX2 o3 a3 (xy C) u3 Z))))) (X := (wX6 o0 a0 (xy C) u0 (wX8 (a0 0) a1 (xy C) u1 (wT (a1 0) (xy C) u2 (wX2 o3 a3 (xy C) u3 []))))) (fun _ => rfl) fl_X6_223 dX6_readStep_122 ?_
  refine g_iconst (pc := 125) (v := 1) hC dX6_readStep_125 (by decide) ?_
  refine g_iadd (pc := 126) hC dX6_readStep_126 ?_
  refine putX7_1 (pc := 127) hC (F := fun Z => (wX6 o0 a0 (xy C) u0 (wX8 (a0 0) a1 (xy C) u1 (wT (a1 0) (xy C) u2 (wX2 o3 a3 (xy C) u3 Z))))) (X := (wX6 o0 a0 (xy C) u0 (wX8 (a0 0) a1 (xy C) u1 (wT (a1 0) (xy C) u2 (wX2 o3 a3 (xy C) u3 []))))) (fun _ => rfl) fl_X6_223 dX6_readStep_127 ?_
  refine g_st (w := fun z => (wX6 o0 a0 (xy C) u0 (wX8 (a0 0) a1 (xy C) u1 (wT (a1 0) (xy C) u2 (wX2 o3 a3 (xy C) u3 (wX7 o4 a4 (xy C) z [])))))) (u := (si u4 1 ((gi u4 1) + (1 : Int32)))) (fun u_41 eu_41 => ?_)
  have h := h u_41 eu_41
  refine g_aload_n (pc := 130) hC 1 dX6_readStep_130 rfl rfl ?_
  refine getX6_0 (pc := 131) hC (F := fun Z => Z) (X := []) (fun _ => rfl) fl_X6_20 dX6_readStep_131 ?_
  refine g_callV_v (pc := 134) (wd := fun (u : St × St) Y => (wX8 (a0 0) a1 (xy C) u.1 (wT (a1 0) (xy C) u.2 Y))) (F := fun Z => (wX6 o0 a0 (xy C) u0 Z)) (X := (wX6 o0 a0 (xy C) u0 [])) (As := []) (rest := []) (u := (u1, u2)) hC (fun _ _ => rfl) (fun _ => rfl) (ctX8_takeSemicolon h) wvX8_takeSemicolon ml_X6_97 (ci := 7) (q0 := 0) rfl rfl rfl rfl (rmok hR0 rfl) ⟨Nat.zero_le _, Nat.zero_le _⟩ rfl (Nat.le_of_ble_eq_true rfl) dX6_readStep_134 (fun u_44 h => ?_)
  obtain ⟨u_42, u_43⟩ := u_44
  refine g_iload (pc := 137) hC 3 dX6_readStep_137 rfl ?_
  refine g_if_eq (pc := 139) (tgt := 163) hC dX6_readStep_139 (by decide) (fun c_45 => ?_) (fun c_45 => ?_)
  · have h := h.1 c_45
    refine g_sub (lv' := []) [] rfl ?_
    exact kX6_readStep_b163 hC hR0 hR  h
  · have h := h.2 c_45
    refine g_aload_n (pc := 142) hC 1 dX6_readStep_142 rfl rfl ?_
    refine getX6_1 (pc := 143) hC (F := fun Z => Z) (X := []) (fun _ => rfl) fl_X6_9 dX6_readStep_143 ?_
    refine g_aload_n (pc := 146) hC 1 dX6_readStep_146 rfl rfl ?_
    refine getX6_2 (pc := 147) hC (F := fun Z => Z) (X := []) (fun _ => rfl) fl_X6_195 dX6_readStep_147 ?_
    refine g_iload (pc := 150) hC 0 dX6_readStep_150 rfl ?_
    refine astX6_1 (pc := 152) hC (F := fun Z => Z) (X := []) (fun _ => rfl) h.1 dX6_readStep_152 ?_
    have h := h.2
    refine g_st (w := fun z => (wX6 o0 a0 (xy C) z (wX8 (a0 0) a1 (xy C) u_42 (wT (a1 0) (xy C) u_43 (wX2 o3 a3 (xy C) u3 (wX7 o4 a4 (xy C) u_41 [])))))) (u := (sw u0 1 (upd (ga u0 1) ((gi u0 2)).toNatClampNeg s0))) (fun u_46 eu_46 => ?_)
    have h := h u_46 eu_46
    refine g_aload_n (pc := 153) hC 1 dX6_readStep_153 rfl rfl ?_
    refine g_dup (pc := 154) hC dX6_readStep_154 rfl ?_
    refine getX6_2 (pc := 155) hC (F := fun Z => Z) (X := []) (fun _ => rfl) fl_X6_195 dX6_readStep_155 ?_
    refine g_iconst (pc := 158) (v := 1) hC dX6_readStep_158 (by decide) ?_
    refine g_iadd (pc := 159) hC dX6_readStep_159 ?_
    refine putX6_2 (pc := 160) hC (F := fun Z => Z) (X := []) (fun _ => rfl) fl_X6_195 dX6_readStep_160 ?_
    refine g_st (w := fun z => (wX6 o0 a0 (xy C) z (wX8 (a0 0) a1 (xy C) u_42 (wT (a1 0) (xy C) u_43 (wX2 o3 a3 (xy C) u3 (wX7 o4 a4 (xy C) u_41 [])))))) (u := (si u_46 2 ((gi u_46 2) + (1 : Int32)))) (fun u_47 eu_47 => ?_)
    have h := h u_47 eu_47
    refine g_sub (lv' := []) [] rfl ?_
    exact kX6_readStep_b163 hC hR0 hR  h
def qX6_readStep_b89  (post : St → St → St → St → St → Prop)  (x3 : Int32) (x4 : Int32) (u0 : St) (u1 : St) (u2 : St) (u3 : St) (u4 : St) : Prop := qX8_advance u1 u2 (fun u_48 u_49 => ((¬ x3 = (8 : Int32) → qX6_readAct x3 u0 u_48 u_49 u3 u4 (fun r_57 u_52 u_53 u_54 u_55 u_56 => qX6_readStep_b118 post x4 r_57 u_52 u_53 u_54 u_55 u_56)) ∧ (x3 = (8 : Int32) → qX6_readTest u0 u_48 u_49 u3 u4 (fun r_64 u_59 u_60 u_61 u_62 u_63 => qX6_readStep_b118 post x4 r_64 u_59 u_60 u_61 u_62 u_63))))
set_option maxRecDepth 100000 in
set_option maxHeartbeats 4000000 in
theorem kX6_readStep_b89 {C : Cx} {o0 : Nat} {a0 : Nat → Nat} {a1 : Nat → Nat} {o3 : Nat} {a3 : Nat → Nat} {o4 : Nat} {a4 : Nat → Nat} (hC : Fx C cX6_readStep 6 RX6) (hR0 : xR C = rm 6) {post : St → St → St → St → St → Prop} (hR : RV C cX6_readStep 6 (fun u : St × St × St × St × St => (wX6 o0 a0 (xy C) u.1 (wX8 (a0 0) a1 (xy C) u.2.1 (wT (a1 0) (xy C) u.2.2.1 (wX2 o3 a3 (xy C) u.2.2.2.1 (wX7 o4 a4 (xy C) u.2.2.2.2 [])))))) (fun u => post u.1 u.2.1 u.2.2.1 u.2.2.2.1 u.2.2.2.2))  {x3 : Int32} {x4 : Int32} {u0 : St} {u1 : St} {u2 : St} {u3 : St} {u4 : St} (h : qX6_readStep_b89 post x3 x4 u0 u1 u2 u3 u4) : G C 0 0 6 (wX6 o0 a0 (xy C) u0 (wX8 (a0 0) a1 (xy C) u1 (wT (a1 0) (xy C) u2 (wX2 o3 a3 (xy C) u3 (wX7 o4 a4 (xy C) u4 []))))) 89 [(0, .ref o0), (1, .ref o3), (2, .ref o4), (3, .int x3), (4, .int x4)] [] := by
  refine g_aload_n (pc := 89) hC 0 dX6_readStep_89 rfl rfl ?_
  refine getX6_0 (pc := 90) hC (F := fun Z => Z) (X := []) (fun _ => rfl) fl_X6_20 dX6_readStep_90 ?_
  refine g_callV_v (pc := 93) (wd := fun (u : St × St) Y => (wX8 (a0 0) a1 (xy C) u.1 (wT (a1 0) (xy C) u.2 Y))) (F := fun Z => (wX6 o0 a0 (xy C) u0 Z)) (X := (wX6 o0 a0 (xy C) u0 [])) (As := []) (rest := []) (u := (u1, u2)) hC (fun _ _ => rfl) (fun _ => rfl) (ctX8_advance h) wvX8_advance ml_X6_87 (ci := 7) (q0 := 0) rfl rfl rfl rfl (rmok hR0 rfl) ⟨Nat.zero_le _, Nat.zero_le _⟩ rfl (Nat.le_of_ble_eq_true rfl) dX6_readStep_93 (fun u_50 h => ?_)
  obtain ⟨u_48, u_49⟩ := u_50
  refine g_iload_n (pc := 96) hC 3 dX6_readStep_96 rfl rfl ?_
  refine g_bipush (pc := 97) (v := 8) hC dX6_readStep_97 (by decide) ?_
  refine g_icmp_ne (pc := 99) (tgt := 111) hC dX6_readStep_99 (by decide) (fun c_51 => ?_) (fun c_51 => ?_)
  · have h := h.1 c_51
    refine g_aload_n (pc := 111) hC 0 dX6_readStep_111 rfl rfl ?_
    refine g_iload_n (pc := 112) hC 3 dX6_readStep_112 rfl rfl ?_
    refine g_aload_n (pc := 113) hC 1 dX6_readStep_113 rfl rfl ?_
    refine g_aload_n (pc := 114) hC 2 dX6_readStep_114 rfl rfl ?_
    refine g_callV_i (pc := 115) (wd := fun (u : St × St × St × St × St) Y => (wX6 o0 a0 (xy C) u.1 (wX8 (a0 0) a1 (xy C) u.2.1 (wT (a1 0) (xy C) u.2.2.1 (wX2 o3 a3 (xy C) u.2.2.2.1 (wX7 o4 a4 (xy C) u.2.2.2.2 Y)))))) (F := fun Z => Z) (X := []) (As := [.int x3, .ref o3, .ref o4]) (rest := []) (u := (u0, u_48, u_49, u3, u4)) hC (fun _ _ => rfl) (fun _ => rfl) (ctX6_readAct h) wvX6_readAct ml_X6_230 (ci := 5) (q0 := 0) rfl rfl rfl rfl (rmok hR0 rfl) ⟨Nat.zero_le _, Nat.zero_le _⟩ rfl (Nat.le_of_ble_eq_true rfl) dX6_readStep_115 (fun r_57 u_58 h => ?_)
    obtain ⟨u_52, u_53, u_54, u_55, u_56⟩ := u_58
    refine g_sub (lv' := [(0, .ref o0), (2, .ref o4), (4, .int x4)]) [0, 2, 4] rfl ?_
    exact kX6_readStep_b118 hC hR0 hR  h
  · have h := h.2 c_51
    refine g_aload_n (pc := 102) hC 0 dX6_readStep_102 rfl rfl ?_
    refine g_aload_n (pc := 103) hC 1 dX6_readStep_103 rfl rfl ?_
    refine g_aload_n (pc := 104) hC 2 dX6_readStep_104 rfl rfl ?_
    refine g_callV_i (pc := 105) (wd := fun (u : St × St × St × St × St) Y => (wX6 o0 a0 (xy C) u.1 (wX8 (a0 0) a1 (xy C) u.2.1 (wT (a1 0) (xy C) u.2.2.1 (wX2 o3 a3 (xy C) u.2.2.2.1 (wX7 o4 a4 (xy C) u.2.2.2.2 Y)))))) (F := fun Z => Z) (X := []) (As := [.ref o3, .ref o4]) (rest := []) (u := (u0, u_48, u_49, u3, u4)) hC (fun _ _ => rfl) (fun _ => rfl) (ctX6_readTest h) wvX6_readTest ml_X6_226 (ci := 5) (q0 := 0) rfl rfl rfl rfl (rmok hR0 rfl) ⟨Nat.zero_le _, Nat.zero_le _⟩ rfl (Nat.le_of_ble_eq_true rfl) dX6_readStep_105 (fun r_64 u_65 h => ?_)
    obtain ⟨u_59, u_60, u_61, u_62, u_63⟩ := u_65
    refine g_goto (pc := 108) (tgt := 118) hC dX6_readStep_108 (by decide) ?_
    refine g_sub (lv' := [(0, .ref o0), (2, .ref o4), (4, .int x4)]) [0, 2, 4] rfl ?_
    exact kX6_readStep_b118 hC hR0 hR  h
def qX6_readStep_b22  (post : St → St → St → St → St → Prop)  (x3 : Int32) (s0 : Int32) (u0 : St) (u1 : St) (u2 : St) (u3 : St) (u4 : St) : Prop := ((¬ x3 = (-1 : Int32) → (((gi u4 1) < (30 : Int32) → ((s0 = 0 → qX6_readStep_b89 post x3 s0 u0 u1 u2 u3 u4) ∧ (¬ s0 = 0 → (((gi u0 2) < (3 : Int32) → qX6_readStep_b89 post x3 s0 u0 u1 u2 u3 u4) ∧ (¬ (gi u0 2) < (3 : Int32) → qX8_fail (7 : Int32) u1 u2 (fun r_72 u_70 u_71 => qX6_readStep_b163 post u0 u_70 u_71 u3 u4)))))) ∧ (¬ (gi u4 1) < (30 : Int32) → qX8_fail (6 : Int32) u1 u2 (fun r_76 u_74 u_75 => qX6_readStep_b163 post u0 u_74 u_75 u3 u4)))) ∧ (x3 = (-1 : Int32) → qX8_fail (2 : Int32) u1 u2 (fun r_80 u_78 u_79 => qX6_readStep_b163 post u0 u_78 u_79 u3 u4)))
set_option maxRecDepth 100000 in
set_option maxHeartbeats 4000000 in
theorem kX6_readStep_b22 {C : Cx} {o0 : Nat} {a0 : Nat → Nat} {a1 : Nat → Nat} {o3 : Nat} {a3 : Nat → Nat} {o4 : Nat} {a4 : Nat → Nat} (hC : Fx C cX6_readStep 6 RX6) (hR0 : xR C = rm 6) {post : St → St → St → St → St → Prop} (hR : RV C cX6_readStep 6 (fun u : St × St × St × St × St => (wX6 o0 a0 (xy C) u.1 (wX8 (a0 0) a1 (xy C) u.2.1 (wT (a1 0) (xy C) u.2.2.1 (wX2 o3 a3 (xy C) u.2.2.2.1 (wX7 o4 a4 (xy C) u.2.2.2.2 [])))))) (fun u => post u.1 u.2.1 u.2.2.1 u.2.2.2.1 u.2.2.2.2))  {x3 : Int32} {s0 : Int32} {u0 : St} {u1 : St} {u2 : St} {u3 : St} {u4 : St} (h : qX6_readStep_b22 post x3 s0 u0 u1 u2 u3 u4) : G C 0 0 6 (wX6 o0 a0 (xy C) u0 (wX8 (a0 0) a1 (xy C) u1 (wT (a1 0) (xy C) u2 (wX2 o3 a3 (xy C) u3 (wX7 o4 a4 (xy C) u4 []))))) 22 [(0, .ref o0), (1, .ref o3), (2, .ref o4), (3, .int x3)] [.int s0] := by
  refine g_istore (pc := 22) (lv' := [(4, .int s0), (0, .ref o0), (1, .ref o3), (2, .ref o4), (3, .int x3)]) hC dX6_readStep_22 (Nat.le_of_ble_eq_true rfl) rfl ?_
  refine g_iload_n (pc := 24) hC 4 dX6_readStep_24 rfl rfl ?_
  refine g_iconst (pc := 25) (v := -1) hC dX6_readStep_25 (by decide) ?_
  refine g_icmp_ne (pc := 26) (tgt := 41) hC dX6_readStep_26 (by decide) (fun c_66 => ?_) (fun c_66 => ?_)
  · have h := h.1 c_66
    refine g_aload_n (pc := 41) hC 3 dX6_readStep_41 rfl rfl ?_
    refine getX7_1 (pc := 42) hC (F := fun Z => (wX6 o0 a0 (xy C) u0 (wX8 (a0 0) a1 (xy C) u1 (wT (a1 0) (xy C) u2 (wX2 o3 a3 (xy C) u3 Z))))) (X := (wX6 o0 a0 (xy C) u0 (wX8 (a0 0) a1 (xy C) u1 (wT (a1 0) (xy C) u2 (wX2 o3 a3 (xy C) u3 []))))) (fun _ => rfl) fl_X6_223 dX6_readStep_42 ?_
    refine g_bipush (pc := 45) (v := 30) hC dX6_readStep_45 (by decide) ?_
    refine g_icmp_lt (pc := 47) (tgt := 63) hC dX6_readStep_47 (by decide) (fun c_67 => ?_) (fun c_67 => ?_)
    · have h := h.1 c_67
      refine g_iload (pc := 63) hC 0 dX6_readStep_63 rfl ?_
      refine g_if_eq (pc := 65) (tgt := 89) hC dX6_readStep_65 (by decide) (fun c_68 => ?_) (fun c_68 => ?_)
      · have h := h.1 c_68
        refine g_sub (lv' := [(0, .ref o0), (1, .ref o3), (2, .ref o4), (3, .int x3), (4, .int s0)]) [1, 2, 3, 4, 0] rfl ?_
        exact kX6_readStep_b89 hC hR0 hR  h
      · have h := h.2 c_68
        refine g_aload_n (pc := 68) hC 1 dX6_readStep_68 rfl rfl ?_
        refine getX6_2 (pc := 69) hC (F := fun Z => Z) (X := []) (fun _ => rfl) fl_X6_195 dX6_readStep_69 ?_
        refine g_iconst (pc := 72) (v := 3) hC dX6_readStep_72 (by decide) ?_
        refine g_icmp_lt (pc := 73) (tgt := 89) hC dX6_readStep_73 (by decide) (fun c_69 => ?_) (fun c_69 => ?_)
        · have h := h.1 c_69
          refine g_sub (lv' := [(0, .ref o0), (1, .ref o3), (2, .ref o4), (3, .int x3), (4, .int s0)]) [1, 2, 3, 4, 0] rfl ?_
          exact kX6_readStep_b89 hC hR0 hR  h
        · have h := h.2 c_69
          refine g_aload_n (pc := 76) hC 1 dX6_readStep_76 rfl rfl ?_
          refine getX6_0 (pc := 77) hC (F := fun Z => Z) (X := []) (fun _ => rfl) fl_X6_20 dX6_readStep_77 ?_
          refine g_bipush (pc := 80) (v := 7) hC dX6_readStep_80 (by decide) ?_
          refine g_callV_i (pc := 82) (wd := fun (u : St × St) Y => (wX8 (a0 0) a1 (xy C) u.1 (wT (a1 0) (xy C) u.2 Y))) (F := fun Z => (wX6 o0 a0 (xy C) u0 Z)) (X := (wX6 o0 a0 (xy C) u0 [])) (As := [.int (7 : Int32)]) (rest := []) (u := (u1, u2)) hC (fun _ _ => rfl) (fun _ => rfl) (ctX8_fail h) wvX8_fail ml_X6_83 (ci := 7) (q0 := 0) rfl rfl rfl rfl (rmok hR0 rfl) ⟨Nat.zero_le _, Nat.zero_le _⟩ rfl (Nat.le_of_ble_eq_true rfl) dX6_readStep_82 (fun r_72 u_73 h => ?_)
          obtain ⟨u_70, u_71⟩ := u_73
          refine g_pop (pc := 85) hC dX6_readStep_85 rfl ?_
          refine g_goto (pc := 86) (tgt := 163) hC dX6_readStep_86 (by decide) ?_
          refine g_sub (lv' := []) [] rfl ?_
          exact kX6_readStep_b163 hC hR0 hR  h
    · have h := h.2 c_67
      refine g_aload_n (pc := 50) hC 1 dX6_readStep_50 rfl rfl ?_
      refine getX6_0 (pc := 51) hC (F := fun Z => Z) (X := []) (fun _ => rfl) fl_X6_20 dX6_readStep_51 ?_
      refine g_bipush (pc := 54) (v := 6) hC dX6_readStep_54 (by decide) ?_
      refine g_callV_i (pc := 56) (wd := fun (u : St × St) Y => (wX8 (a0 0) a1 (xy C) u.1 (wT (a1 0) (xy C) u.2 Y))) (F := fun Z => (wX6 o0 a0 (xy C) u0 Z)) (X := (wX6 o0 a0 (xy C) u0 [])) (As := [.int (6 : Int32)]) (rest := []) (u := (u1, u2)) hC (fun _ _ => rfl) (fun _ => rfl) (ctX8_fail h) wvX8_fail ml_X6_83 (ci := 7) (q0 := 0) rfl rfl rfl rfl (rmok hR0 rfl) ⟨Nat.zero_le _, Nat.zero_le _⟩ rfl (Nat.le_of_ble_eq_true rfl) dX6_readStep_56 (fun r_76 u_77 h => ?_)
      obtain ⟨u_74, u_75⟩ := u_77
      refine g_pop (pc := 59) hC dX6_readStep_59 rfl ?_
      refine g_goto (pc := 60) (tgt := 163) hC dX6_readStep_60 (by decide) ?_
      refine g_sub (lv' := []) [] rfl ?_
      exact kX6_readStep_b163 hC hR0 hR  h
  · have h := h.2 c_66
    refine g_aload_n (pc := 29) hC 1 dX6_readStep_29 rfl rfl ?_
    refine getX6_0 (pc := 30) hC (F := fun Z => Z) (X := []) (fun _ => rfl) fl_X6_20 dX6_readStep_30 ?_
    refine g_iconst (pc := 33) (v := 2) hC dX6_readStep_33 (by decide) ?_
    refine g_callV_i (pc := 34) (wd := fun (u : St × St) Y => (wX8 (a0 0) a1 (xy C) u.1 (wT (a1 0) (xy C) u.2 Y))) (F := fun Z => (wX6 o0 a0 (xy C) u0 Z)) (X := (wX6 o0 a0 (xy C) u0 [])) (As := [.int (2 : Int32)]) (rest := []) (u := (u1, u2)) hC (fun _ _ => rfl) (fun _ => rfl) (ctX8_fail h) wvX8_fail ml_X6_83 (ci := 7) (q0 := 0) rfl rfl rfl rfl (rmok hR0 rfl) ⟨Nat.zero_le _, Nat.zero_le _⟩ rfl (Nat.le_of_ble_eq_true rfl) dX6_readStep_34 (fun r_80 u_81 h => ?_)
    obtain ⟨u_78, u_79⟩ := u_81
    refine g_pop (pc := 37) hC dX6_readStep_37 rfl ?_
    refine g_goto (pc := 38) (tgt := 163) hC dX6_readStep_38 (by decide) ?_
    refine g_sub (lv' := []) [] rfl ?_
    exact kX6_readStep_b163 hC hR0 hR  h
def qX6_readStep_b17  (post : St → St → St → St → St → Prop)  (x3 : Int32) (u0 : St) (u1 : St) (u2 : St) (u3 : St) (u4 : St) : Prop := qX6_readStep_b22 post x3 (1 : Int32) u0 u1 u2 u3 u4
set_option maxRecDepth 100000 in
set_option maxHeartbeats 4000000 in
theorem kX6_readStep_b17 {C : Cx} {o0 : Nat} {a0 : Nat → Nat} {a1 : Nat → Nat} {o3 : Nat} {a3 : Nat → Nat} {o4 : Nat} {a4 : Nat → Nat} (hC : Fx C cX6_readStep 6 RX6) (hR0 : xR C = rm 6) {post : St → St → St → St → St → Prop} (hR : RV C cX6_readStep 6 (fun u : St × St × St × St × St => (wX6 o0 a0 (xy C) u.1 (wX8 (a0 0) a1 (xy C) u.2.1 (wT (a1 0) (xy C) u.2.2.1 (wX2 o3 a3 (xy C) u.2.2.2.1 (wX7 o4 a4 (xy C) u.2.2.2.2 [])))))) (fun u => post u.1 u.2.1 u.2.2.1 u.2.2.2.1 u.2.2.2.2))  {x3 : Int32} {u0 : St} {u1 : St} {u2 : St} {u3 : St} {u4 : St} (h : qX6_readStep_b17 post x3 u0 u1 u2 u3 u4) : G C 0 0 6 (wX6 o0 a0 (xy C) u0 (wX8 (a0 0) a1 (xy C) u1 (wT (a1 0) (xy C) u2 (wX2 o3 a3 (xy C) u3 (wX7 o4 a4 (xy C) u4 []))))) 17 [(0, .ref o0), (1, .ref o3), (2, .ref o4), (3, .int x3)] [] := by
  refine g_iconst (pc := 17) (v := 1) hC dX6_readStep_17 (by decide) ?_
  refine g_goto (pc := 18) (tgt := 22) hC dX6_readStep_18 (by decide) ?_
  exact kX6_readStep_b22 hC hR0 hR  h
def qX6_readStep  (u0 : St) (u1 : St) (u2 : St) (u3 : St) (u4 : St) (post : St → St → St → St → St → Prop) : Prop := qX6_stepNow u0 u1 u2 (fun r_85 u_82 u_83 u_84 => ((r_85 = (8 : Int32) → qX6_readStep_b17 post r_85 u_82 u_83 u_84 u3 u4) ∧ (¬ r_85 = (8 : Int32) → ((¬ r_85 = (7 : Int32) → qX6_readStep_b22 post r_85 (0 : Int32) u_82 u_83 u_84 u3 u4) ∧ (r_85 = (7 : Int32) → qX6_readStep_b17 post r_85 u_82 u_83 u_84 u3 u4)))))
set_option maxRecDepth 100000 in
set_option maxHeartbeats 4000000 in
theorem kX6_readStep {C : Cx} {o0 : Nat} {a0 : Nat → Nat} {a1 : Nat → Nat} {o3 : Nat} {a3 : Nat → Nat} {o4 : Nat} {a4 : Nat → Nat} (hC : Fx C cX6_readStep 6 RX6) (hR0 : xR C = rm 6) {post : St → St → St → St → St → Prop} (hR : RV C cX6_readStep 6 (fun u : St × St × St × St × St => (wX6 o0 a0 (xy C) u.1 (wX8 (a0 0) a1 (xy C) u.2.1 (wT (a1 0) (xy C) u.2.2.1 (wX2 o3 a3 (xy C) u.2.2.2.1 (wX7 o4 a4 (xy C) u.2.2.2.2 [])))))) (fun u => post u.1 u.2.1 u.2.2.1 u.2.2.2.1 u.2.2.2.2))  {u0 : St} {u1 : St} {u2 : St} {u3 : St} {u4 : St} (h : qX6_readStep  u0 u1 u2 u3 u4 post) : G C 0 0 6 (wX6 o0 a0 (xy C) u0 (wX8 (a0 0) a1 (xy C) u1 (wT (a1 0) (xy C) u2 (wX2 o3 a3 (xy C) u3 (wX7 o4 a4 (xy C) u4 []))))) 0 [(0, .ref o0), (1, .ref o3), (2, .ref o4)] [] := by
  refine g_aload_n (pc := 0) hC 0 dX6_readStep_0 rfl rfl ?_
  refine g_callV_i (pc := 1) (wd := fun (u : St × St × St) Y => (wX6 o0 a0 (xy C) u.1 (wX8 (a0 0) a1 (xy C) u.2.1 (wT (a1 0) (xy C) u.2.2 Y)))) (F := fun Z => Z) (X := []) (As := []) (rest := []) (u := (u0, u1, u2)) hC (fun _ _ => rfl) (fun _ => rfl) (ctX6_stepNow h) wvX6_stepNow ml_X6_220 (ci := 5) (q0 := 0) rfl rfl rfl rfl (rmok hR0 rfl) ⟨Nat.zero_le _, Nat.zero_le _⟩ rfl (Nat.le_of_ble_eq_true rfl) dX6_readStep_1 (fun r_85 u_86 h => ?_)
  obtain ⟨u_82, u_83, u_84⟩ := u_86
  refine g_istore_n (pc := 4) (lv' := [(3, .int r_85), (0, .ref o0), (1, .ref o3), (2, .ref o4)]) hC dX6_readStep_4 rfl (Nat.le_of_ble_eq_true rfl) rfl ?_
  refine g_iload_n (pc := 5) hC 0 dX6_readStep_5 rfl rfl ?_
  refine g_bipush (pc := 6) (v := 8) hC dX6_readStep_6 (by decide) ?_
  refine g_icmp_eq (pc := 8) (tgt := 17) hC dX6_readStep_8 (by decide) (fun c_87 => ?_) (fun c_87 => ?_)
  · have h := h.1 c_87
    refine g_sub (lv' := [(0, .ref o0), (1, .ref o3), (2, .ref o4), (3, .int r_85)]) [1, 2, 3, 0] rfl ?_
    exact kX6_readStep_b17 hC hR0 hR  h
  · have h := h.2 c_87
    refine g_iload_n (pc := 11) hC 0 dX6_readStep_11 rfl rfl ?_
    refine g_bipush (pc := 12) (v := 7) hC dX6_readStep_12 (by decide) ?_
    refine g_icmp_ne (pc := 14) (tgt := 21) hC dX6_readStep_14 (by decide) (fun c_88 => ?_) (fun c_88 => ?_)
    · have h := h.1 c_88
      refine g_iconst (pc := 21) (v := 0) hC dX6_readStep_21 (by decide) ?_
      refine g_sub (lv' := [(0, .ref o0), (1, .ref o3), (2, .ref o4), (3, .int r_85)]) [1, 2, 3, 0] rfl ?_
      exact kX6_readStep_b22 hC hR0 hR  h
    · have h := h.2 c_88
      refine g_sub (lv' := [(0, .ref o0), (1, .ref o3), (2, .ref o4), (3, .int r_85)]) [1, 2, 3, 0] rfl ?_
      exact kX6_readStep_b17 hC hR0 hR  h
theorem ctX6_readStep {l : Launch} {D : va_G} {cy : Nat → ClassId} {kd : Nat → Nat} {o0 : Nat} {a0 : Nat → Nat} {a1 : Nat → Nat} {o3 : Nat} {a3 : Nat → Nat} {o4 : Nat} {a4 : Nat → Nat}  {u0 : St} {u1 : St} {u2 : St} {u3 : St} {u4 : St} {post : St → St → St → St → St → Prop} (h : qX6_readStep  u0 u1 u2 u3 u4 post) : CtV l D cy kd yX6_readStep cX6_readStep 6 6  [.ref o0, .ref o3, .ref o4] (fun u : St × St × St × St × St => (wX6 o0 a0 cy u.1 (wX8 (a0 0) a1 cy u.2.1 (wT (a1 0) cy u.2.2.1 (wX2 o3 a3 cy u.2.2.2.1 (wX7 o4 a4 cy u.2.2.2.2 [])))))) (u0, u1, u2, u3, u4) (fun u => post u.1 u.2.1 u.2.2.1 u.2.2.2.1 u.2.2.2.2) := met_v (by decide) (Nat.le_of_ble_eq_true rfl) (fun C e1 e2 e3 e4 e5 hC hR => by subst e1 e2 e3 e4; exact kX6_readStep hC e5 hR h)
theorem dX6_readTimes_0 : decode cX6_readTimes 0 = .ok (.aload_n 3, 1) := by decide +kernel
theorem dX6_readTimes_1 : decode cX6_readTimes 1 = .ok (.invokevirtual 192, 3) := by decide +kernel
theorem dX6_readTimes_4 : decode cX6_readTimes 4 = .ok (.aload_n 0, 1) := by decide +kernel
theorem dX6_readTimes_5 : decode cX6_readTimes 5 = .ok (.iconst 0, 1) := by decide +kernel
theorem dX6_readTimes_6 : decode cX6_readTimes 6 = .ok (.putfield 195, 3) := by decide +kernel
theorem dX6_readTimes_9 : decode cX6_readTimes 9 = .ok (.aload_n 0, 1) := by decide +kernel
theorem dX6_readTimes_10 : decode cX6_readTimes 10 = .ok (.getfield 20, 3) := by decide +kernel
theorem dX6_readTimes_13 : decode cX6_readTimes 13 = .ok (.iload_n 1, 1) := by decide +kernel
theorem dX6_readTimes_14 : decode cX6_readTimes 14 = .ok (.invokevirtual 33, 3) := by decide +kernel
theorem dX6_readTimes_17 : decode cX6_readTimes 17 = .ok (.iconst 0, 1) := by decide +kernel
theorem dX6_readTimes_18 : decode cX6_readTimes 18 = .ok (.istore 4, 2) := by decide +kernel
theorem dX6_readTimes_20 : decode cX6_readTimes 20 = .ok (.iload 4, 2) := by decide +kernel
theorem dX6_readTimes_22 : decode cX6_readTimes 22 = .ok (.sipush 300, 3) := by decide +kernel
theorem dX6_readTimes_25 : decode cX6_readTimes 25 = .ok (.if_icmp .gt 56, 3) := by decide +kernel
theorem dX6_readTimes_28 : decode cX6_readTimes 28 = .ok (.aload_n 0, 1) := by decide +kernel
theorem dX6_readTimes_29 : decode cX6_readTimes 29 = .ok (.getfield 20, 3) := by decide +kernel
theorem dX6_readTimes_32 : decode cX6_readTimes 32 = .ok (.getfield 37, 3) := by decide +kernel
theorem dX6_readTimes_35 : decode cX6_readTimes 35 = .ok (.ifCond .ne 46, 3) := by decide +kernel
theorem dX6_readTimes_38 : decode cX6_readTimes 38 = .ok (.aload_n 0, 1) := by decide +kernel
theorem dX6_readTimes_39 : decode cX6_readTimes 39 = .ok (.getfield 20, 3) := by decide +kernel
theorem dX6_readTimes_42 : decode cX6_readTimes 42 = .ok (.invokevirtual 41, 3) := by decide +kernel
theorem dX6_readTimes_45 : decode cX6_readTimes 45 = .ok (.ifCond .ne 36, 3) := by decide +kernel
theorem dX6_readTimes_48 : decode cX6_readTimes 48 = .ok (.aload_n 0, 1) := by decide +kernel
theorem dX6_readTimes_49 : decode cX6_readTimes 49 = .ok (.getfield 20, 3) := by decide +kernel
theorem dX6_readTimes_52 : decode cX6_readTimes 52 = .ok (.getstatic 198, 3) := by decide +kernel
theorem dX6_readTimes_55 : decode cX6_readTimes 55 = .ok (.invokevirtual 58, 3) := by decide +kernel
theorem dX6_readTimes_58 : decode cX6_readTimes 58 = .ok (.ifCond .eq 11, 3) := by decide +kernel
theorem dX6_readTimes_61 : decode cX6_readTimes 61 = .ok (.aload_n 0, 1) := by decide +kernel
theorem dX6_readTimes_62 : decode cX6_readTimes 62 = .ok (.aload_n 3, 1) := by decide +kernel
theorem dX6_readTimes_63 : decode cX6_readTimes 63 = .ok (.invokevirtual 201, 3) := by decide +kernel
theorem dX6_readTimes_66 : decode cX6_readTimes 66 = .ok (.goto 9, 3) := by decide +kernel
theorem dX6_readTimes_69 : decode cX6_readTimes 69 = .ok (.aload_n 0, 1) := by decide +kernel
theorem dX6_readTimes_70 : decode cX6_readTimes 70 = .ok (.aload_n 2, 1) := by decide +kernel
theorem dX6_readTimes_71 : decode cX6_readTimes 71 = .ok (.aload_n 3, 1) := by decide +kernel
theorem dX6_readTimes_72 : decode cX6_readTimes 72 = .ok (.invokevirtual 205, 3) := by decide +kernel
theorem dX6_readTimes_75 : decode cX6_readTimes 75 = .ok (.iinc 4 1, 3) := by decide +kernel
theorem dX6_readTimes_78 : decode cX6_readTimes 78 = .ok (.goto (-58), 3) := by decide +kernel
theorem dX6_readTimes_81 : decode cX6_readTimes 81 = .ok (.aload_n 0, 1) := by decide +kernel
theorem dX6_readTimes_82 : decode cX6_readTimes 82 = .ok (.getfield 195, 3) := by decide +kernel
theorem dX6_readTimes_85 : decode cX6_readTimes 85 = .ok (.ifCond .le 12, 3) := by decide +kernel
theorem dX6_readTimes_88 : decode cX6_readTimes 88 = .ok (.aload_n 0, 1) := by decide +kernel
theorem dX6_readTimes_89 : decode cX6_readTimes 89 = .ok (.getfield 20, 3) := by decide +kernel
theorem dX6_readTimes_92 : decode cX6_readTimes 92 = .ok (.iconst 2, 1) := by decide +kernel
theorem dX6_readTimes_93 : decode cX6_readTimes 93 = .ok (.invokevirtual 83, 3) := by decide +kernel
theorem dX6_readTimes_96 : decode cX6_readTimes 96 = .ok (.pop, 1) := by decide +kernel
theorem dX6_readTimes_97 : decode cX6_readTimes 97 = .ok (.aload_n 3, 1) := by decide +kernel
theorem dX6_readTimes_98 : decode cX6_readTimes 98 = .ok (.aload_n 0, 1) := by decide +kernel
theorem dX6_readTimes_99 : decode cX6_readTimes 99 = .ok (.getfield 20, 3) := by decide +kernel
theorem dX6_readTimes_102 : decode cX6_readTimes 102 = .ok (.getfield 37, 3) := by decide +kernel
theorem dX6_readTimes_105 : decode cX6_readTimes 105 = .ok (.ifCond .ne 7, 3) := by decide +kernel
theorem dX6_readTimes_108 : decode cX6_readTimes 108 = .ok (.iconst 1, 1) := by decide +kernel
theorem dX6_readTimes_109 : decode cX6_readTimes 109 = .ok (.goto 4, 3) := by decide +kernel
theorem dX6_readTimes_112 : decode cX6_readTimes 112 = .ok (.iconst 0, 1) := by decide +kernel
theorem dX6_readTimes_113 : decode cX6_readTimes 113 = .ok (.putfield 209, 3) := by decide +kernel
theorem dX6_readTimes_116 : decode cX6_readTimes 116 = .ok (.return_, 1) := by decide +kernel
def qX6_readTimes_b75  (post : St → St → St → St → St → Prop) (K20 : Int32 → St → St → St → St → St → Prop) (x4 : Int32) (u0 : St) (u1 : St) (u2 : St) (u3 : St) (u4 : St) : Prop := ∀ x4_32 : Int32, x4_32 = x4 + (1 : Int32) → K20 x4_32 u0 u1 u2 u3 u4
set_option maxRecDepth 100000 in
set_option maxHeartbeats 4000000 in
theorem kX6_readTimes_b75 {C : Cx} {o0 : Nat} {a0 : Nat → Nat} {a1 : Nat → Nat} {o3 : Nat} {a3 : Nat → Nat} {o4 : Nat} {a4 : Nat → Nat} (hC : Fx C cX6_readTimes 5 RX6) (hR0 : xR C = rm 7) {post : St → St → St → St → St → Prop} (hR : RV C cX6_readTimes 5 (fun u : St × St × St × St × St => (wX6 o0 a0 (xy C) u.1 (wX8 (a0 0) a1 (xy C) u.2.1 (wT (a1 0) (xy C) u.2.2.1 (wX2 o3 a3 (xy C) u.2.2.2.1 (wX7 o4 a4 (xy C) u.2.2.2.2 [])))))) (fun u => post u.1 u.2.1 u.2.2.1 u.2.2.2.1 u.2.2.2.2)) {K20 : Int32 → St → St → St → St → St → Prop} (hK20 : ∀ (x4 : Int32) (u0 : St) (u1 : St) (u2 : St) (u3 : St) (u4 : St), K20 x4 u0 u1 u2 u3 u4 → G C 0 0 5 (wX6 o0 a0 (xy C) u0 (wX8 (a0 0) a1 (xy C) u1 (wT (a1 0) (xy C) u2 (wX2 o3 a3 (xy C) u3 (wX7 o4 a4 (xy C) u4 []))))) 20 [(0, .ref o0), (2, .ref o3), (3, .ref o4), (4, .int x4)] []) {x4 : Int32} {u0 : St} {u1 : St} {u2 : St} {u3 : St} {u4 : St} (h : qX6_readTimes_b75 post K20 x4 u0 u1 u2 u3 u4) : G C 0 0 5 (wX6 o0 a0 (xy C) u0 (wX8 (a0 0) a1 (xy C) u1 (wT (a1 0) (xy C) u2 (wX2 o3 a3 (xy C) u3 (wX7 o4 a4 (xy C) u4 []))))) 75 [(0, .ref o0), (2, .ref o3), (3, .ref o4), (4, .int x4)] [] := by
  obtain ⟨x4_32, ex4_32⟩ : ∃ z : Int32, z = x4 + (1 : Int32) := ⟨_, rfl⟩
  have h := h x4_32 ex4_32
  refine g_iinc (pc := 75) (v := x4_32) (lv' := [(4, .int x4_32), (0, .ref o0), (2, .ref o3), (3, .ref o4)]) hC 3 dX6_readTimes_75 rfl (by rw [ex4_32]; rfl) (Nat.le_of_ble_eq_true rfl) rfl ?_
  refine g_goto (pc := 78) (tgt := 20) hC dX6_readTimes_78 (by decide) ?_
  refine g_sub (lv' := [(0, .ref o0), (2, .ref o3), (3, .ref o4), (4, .int x4_32)]) [1, 2, 3, 0] rfl ?_
  exact hK20 _ _ _ _ _ _ h
def qX6_readTimes_b113  (post : St → St → St → St → St → Prop)  (s0 : Int32) (u0 : St) (u1 : St) (u2 : St) (u3 : St) (u4 : St) : Prop := (bz s0 ∧ ∀ u_33 : St, u_33 = (si u4 0 s0) → post u0 u1 u2 u3 u_33)
set_option maxRecDepth 100000 in
set_option maxHeartbeats 4000000 in
theorem kX6_readTimes_b113 {C : Cx} {o0 : Nat} {a0 : Nat → Nat} {a1 : Nat → Nat} {o3 : Nat} {a3 : Nat → Nat} {o4 : Nat} {a4 : Nat → Nat} (hC : Fx C cX6_readTimes 5 RX6) (hR0 : xR C = rm 7) {post : St → St → St → St → St → Prop} (hR : RV C cX6_readTimes 5 (fun u : St × St × St × St × St => (wX6 o0 a0 (xy C) u.1 (wX8 (a0 0) a1 (xy C) u.2.1 (wT (a1 0) (xy C) u.2.2.1 (wX2 o3 a3 (xy C) u.2.2.2.1 (wX7 o4 a4 (xy C) u.2.2.2.2 [])))))) (fun u => post u.1 u.2.1 u.2.2.1 u.2.2.2.1 u.2.2.2.2))  {s0 : Int32} {u0 : St} {u1 : St} {u2 : St} {u3 : St} {u4 : St} (h : qX6_readTimes_b113 post s0 u0 u1 u2 u3 u4) : G C 0 0 5 (wX6 o0 a0 (xy C) u0 (wX8 (a0 0) a1 (xy C) u1 (wT (a1 0) (xy C) u2 (wX2 o3 a3 (xy C) u3 (wX7 o4 a4 (xy C) u4 []))))) 113 [] [.int s0, .ref o4] := by
  refine putX7_0 (pc := 113) hC (F := fun Z => (wX6 o0 a0 (xy C) u0 (wX8 (a0 0) a1 (xy C) u1 (wT (a1 0) (xy C) u2 (wX2 o3 a3 (xy C) u3 Z))))) (X := (wX6 o0 a0 (xy C) u0 (wX8 (a0 0) a1 (xy C) u1 (wT (a1 0) (xy C) u2 (wX2 o3 a3 (xy C) u3 []))))) (fun _ => rfl) fl_X6_209 h.1 dX6_readTimes_113 ?_
  have h := h.2
  refine g_st (w := fun z => (wX6 o0 a0 (xy C) u0 (wX8 (a0 0) a1 (xy C) u1 (wT (a1 0) (xy C) u2 (wX2 o3 a3 (xy C) u3 (wX7 o4 a4 (xy C) z [])))))) (u := (si u4 0 s0)) (fun u_33 eu_33 => ?_)
  have h := h u_33 eu_33
  exact hR _ _ (u0, u1, u2, u3, u_33) dX6_readTimes_116 h
def qX6_readTimes_b97  (post : St → St → St → St → St → Prop)  (u0 : St) (u1 : St) (u2 : St) (u3 : St) (u4 : St) : Prop := ((¬ (gi u1 8) = 0 → qX6_readTimes_b113 post (0 : Int32) u0 u1 u2 u3 u4) ∧ ((gi u1 8) = 0 → qX6_readTimes_b113 post (1 : Int32) u0 u1 u2 u3 u4))
set_option maxRecDepth 100000 in
set_option maxHeartbeats 4000000 in
theorem kX6_readTimes_b97 {C : Cx} {o0 : Nat} {a0 : Nat → Nat} {a1 : Nat → Nat} {o3 : Nat} {a3 : Nat → Nat} {o4 : Nat} {a4 : Nat → Nat} (hC : Fx C cX6_readTimes 5 RX6) (hR0 : xR C = rm 7) {post : St → St → St → St → St → Prop} (hR : RV C cX6_readTimes 5 (fun u : St × St × St × St × St => (wX6 o0 a0 (xy C) u.1 (wX8 (a0 0) a1 (xy C) u.2.1 (wT (a1 0) (xy C) u.2.2.1 (wX2 o3 a3 (xy C) u.2.2.2.1 (wX7 o4 a4 (xy C) u.2.2.2.2 [])))))) (fun u => post u.1 u.2.1 u.2.2.1 u.2.2.2.1 u.2.2.2.2))  {u0 : St} {u1 : St} {u2 : St} {u3 : St} {u4 : St} (h : qX6_readTimes_b97 post u0 u1 u2 u3 u4) : G C 0 0 5 (wX6 o0 a0 (xy C) u0 (wX8 (a0 0) a1 (xy C) u1 (wT (a1 0) (xy C) u2 (wX2 o3 a3 (xy C) u3 (wX7 o4 a4 (xy C) u4 []))))) 97 [(0, .ref o0), (3, .ref o4)] [] := by
  refine g_aload_n (pc := 97) hC 1 dX6_readTimes_97 rfl rfl ?_
  refine g_aload_n (pc := 98) hC 0 dX6_readTimes_98 rfl rfl ?_
  refine getX6_0 (pc := 99) hC (F := fun Z => Z) (X := []) (fun _ => rfl) fl_X6_20 dX6_readTimes_99 ?_
  refine getX8_8 (pc := 102) hC (F := fun Z => (wX6 o0 a0 (xy C) u0 Z)) (X := (wX6 o0 a0 (xy C) u0 [])) (fun _ => rfl) fl_X6_37 dX6_readTimes_102 ?_
  refine g_if_ne (pc := 105) (tgt := 112) hC dX6_readTimes_105 (by decide) (fun c_34 => ?_) (fun c_34 => ?_)
  · have h := h.1 c_34
    refine g_iconst (pc := 112) (v := 0) hC dX6_readTimes_112 (by decide) ?_
    refine g_sub (lv' := []) [] rfl ?_
    exact kX6_readTimes_b113 hC hR0 hR  h
  · have h := h.2 c_34
    refine g_iconst (pc := 108) (v := 1) hC dX6_readTimes_108 (by decide) ?_
    refine g_goto (pc := 109) (tgt := 113) hC dX6_readTimes_109 (by decide) ?_
    refine g_sub (lv' := []) [] rfl ?_
    exact kX6_readTimes_b113 hC hR0 hR  h
def qX6_readTimes_b81  (post : St → St → St → St → St → Prop)  (u0 : St) (u1 : St) (u2 : St) (u3 : St) (u4 : St) : Prop := (((gi u0 2) ≤ 0 → qX6_readTimes_b97 post u0 u1 u2 u3 u4) ∧ (¬ (gi u0 2) ≤ 0 → qX8_fail (2 : Int32) u1 u2 (fun r_38 u_36 u_37 => qX6_readTimes_b97 post u0 u_36 u_37 u3 u4)))
set_option maxRecDepth 100000 in
set_option maxHeartbeats 4000000 in
theorem kX6_readTimes_b81 {C : Cx} {o0 : Nat} {a0 : Nat → Nat} {a1 : Nat → Nat} {o3 : Nat} {a3 : Nat → Nat} {o4 : Nat} {a4 : Nat → Nat} (hC : Fx C cX6_readTimes 5 RX6) (hR0 : xR C = rm 7) {post : St → St → St → St → St → Prop} (hR : RV C cX6_readTimes 5 (fun u : St × St × St × St × St => (wX6 o0 a0 (xy C) u.1 (wX8 (a0 0) a1 (xy C) u.2.1 (wT (a1 0) (xy C) u.2.2.1 (wX2 o3 a3 (xy C) u.2.2.2.1 (wX7 o4 a4 (xy C) u.2.2.2.2 [])))))) (fun u => post u.1 u.2.1 u.2.2.1 u.2.2.2.1 u.2.2.2.2))  {u0 : St} {u1 : St} {u2 : St} {u3 : St} {u4 : St} (h : qX6_readTimes_b81 post u0 u1 u2 u3 u4) : G C 0 0 5 (wX6 o0 a0 (xy C) u0 (wX8 (a0 0) a1 (xy C) u1 (wT (a1 0) (xy C) u2 (wX2 o3 a3 (xy C) u3 (wX7 o4 a4 (xy C) u4 []))))) 81 [(0, .ref o0), (3, .ref o4)] [] := by
  refine g_aload_n (pc := 81) hC 0 dX6_readTimes_81 rfl rfl ?_
  refine getX6_2 (pc := 82) hC (F := fun Z => Z) (X := []) (fun _ => rfl) fl_X6_195 dX6_readTimes_82 ?_
  refine g_if_le (pc := 85) (tgt := 97) hC dX6_readTimes_85 (by decide) (fun c_35 => ?_) (fun c_35 => ?_)
  · have h := h.1 c_35
    exact kX6_readTimes_b97 hC hR0 hR  h
  · have h := h.2 c_35
    refine g_aload_n (pc := 88) hC 0 dX6_readTimes_88 rfl rfl ?_
    refine getX6_0 (pc := 89) hC (F := fun Z => Z) (X := []) (fun _ => rfl) fl_X6_20 dX6_readTimes_89 ?_
    refine g_iconst (pc := 92) (v := 2) hC dX6_readTimes_92 (by decide) ?_
    refine g_callV_i (pc := 93) (wd := fun (u : St × St) Y => (wX8 (a0 0) a1 (xy C) u.1 (wT (a1 0) (xy C) u.2 Y))) (F := fun Z => (wX6 o0 a0 (xy C) u0 Z)) (X := (wX6 o0 a0 (xy C) u0 [])) (As := [.int (2 : Int32)]) (rest := []) (u := (u1, u2)) hC (fun _ _ => rfl) (fun _ => rfl) (ctX8_fail h) wvX8_fail ml_X6_83 (ci := 7) (q0 := 0) rfl rfl rfl rfl (rmok hR0 rfl) ⟨Nat.zero_le _, Nat.zero_le _⟩ rfl (Nat.le_of_ble_eq_true rfl) dX6_readTimes_93 (fun r_38 u_39 h => ?_)
    obtain ⟨u_36, u_37⟩ := u_39
    refine g_pop (pc := 96) hC dX6_readTimes_96 rfl ?_
    exact kX6_readTimes_b97 hC hR0 hR  h
def qX6_readTimes_l20  (post : St → St → St → St → St → Prop) (K20 : Int32 → St → St → St → St → St → Prop) (x4 : Int32) (u0 : St) (u1 : St) (u2 : St) (u3 : St) (u4 : St) : Prop := (((300 : Int32) < x4 → qX6_readTimes_b81 post u0 u1 u2 u3 u4) ∧ (¬ (300 : Int32) < x4 → ((¬ (gi u1 8) = 0 → qX6_readTimes_b81 post u0 u1 u2 u3 u4) ∧ ((gi u1 8) = 0 → qX8_isAtEnd u1 u2 (fun r_44 u_42 u_43 => ((¬ r_44 = 0 → qX6_readTimes_b81 post u0 u_42 u_43 u3 u4) ∧ (r_44 = 0 → qX8_isAt 23 u_42 u_43 (fun r_49 u_47 u_48 => ((r_49 = 0 → qX6_readStep u0 u_47 u_48 u3 u4 (fun u_52 u_53 u_54 u_55 u_56 => qX6_readTimes_b75 post K20 x4 u_52 u_53 u_54 u_55 u_56)) ∧ (¬ r_49 = 0 → qX6_closeBlock u0 u_47 u_48 u4 (fun u_58 u_59 u_60 u_61 => qX6_readTimes_b75 post K20 x4 u_58 u_59 u_60 u3 u_61)))))))))))
set_option maxRecDepth 100000 in
set_option maxHeartbeats 4000000 in
theorem kX6_readTimes_l20 {C : Cx} {o0 : Nat} {a0 : Nat → Nat} {a1 : Nat → Nat} {o3 : Nat} {a3 : Nat → Nat} {o4 : Nat} {a4 : Nat → Nat} (hC : Fx C cX6_readTimes 5 RX6) (hR0 : xR C = rm 7) {post : St → St → St → St → St → Prop} (hR : RV C cX6_readTimes 5 (fun u : St × St × St × St × St => (wX6 o0 a0 (xy C) u.1 (wX8 (a0 0) a1 (xy C) u.2.1 (wT (a1 0) (xy C) u.2.2.1 (wX2 o3 a3 (xy C) u.2.2.2.1 (wX7 o4 a4 (xy C) u.2.2.2.2 [])))))) (fun u => post u.1 u.2.1 u.2.2.1 u.2.2.2.1 u.2.2.2.2))  {K20 : Int32 → St → St → St → St → St → Prop} (hK20 : ∀ (x4 : Int32) (u0 : St) (u1 : St) (u2 : St) (u3 : St) (u4 : St), K20 x4 u0 u1 u2 u3 u4 → G C 0 0 5 (wX6 o0 a0 (xy C) u0 (wX8 (a0 0) a1 (xy C) u1 (wT (a1 0) (xy C) u2 (wX2 o3 a3 (xy C) u3 (wX7 o4 a4 (xy C) u4 []))))) 20 [(0, .ref o0), (2, .ref o3), (3, .ref o4), (4, .int x4)] []) {x4 : Int32} {u0 : St} {u1 : St} {u2 : St} {u3 : St} {u4 : St} (h : qX6_readTimes_l20 post K20 x4 u0 u1 u2 u3 u4) : G C 0 0 5 (wX6 o0 a0 (xy C) u0 (wX8 (a0 0) a1 (xy C) u1 (wT (a1 0) (xy C) u2 (wX2 o3 a3 (xy C) u3 (wX7 o4 a4 (xy C) u4 []))))) 20 [(0, .ref o0), (2, .ref o3), (3, .ref o4), (4, .int x4)] [] := by
  refine g_iload (pc := 20) hC 3 dX6_readTimes_20 rfl ?_
  refine g_sipush (pc := 22) (v := 300) hC dX6_readTimes_22 (by decide) ?_
  refine g_icmp_gt (pc := 25) (tgt := 81) hC dX6_readTimes_25 (by decide) (fun c_40 => ?_) (fun c_40 => ?_)
  · have h := h.1 c_40
    refine g_sub (lv' := [(0, .ref o0), (3, .ref o4)]) [0, 2] rfl ?_
    exact kX6_readTimes_b81 hC hR0 hR  h
  · have h := h.2 c_40
    refine g_aload_n (pc := 28) hC 0 dX6_readTimes_28 rfl rfl ?_
    refine getX6_0 (pc := 29) hC (F := fun Z => Z) (X := []) (fun _ => rfl) fl_X6_20 dX6_readTimes_29 ?_
    refine getX8_8 (pc := 32) hC (F := fun Z => (wX6 o0 a0 (xy C) u0 Z)) (X := (wX6 o0 a0 (xy C) u0 [])) (fun _ => rfl) fl_X6_37 dX6_readTimes_32 ?_
    refine g_if_ne (pc := 35) (tgt := 81) hC dX6_readTimes_35 (by decide) (fun c_41 => ?_) (fun c_41 => ?_)
    · have h := h.1 c_41
      refine g_sub (lv' := [(0, .ref o0), (3, .ref o4)]) [0, 2] rfl ?_
      exact kX6_readTimes_b81 hC hR0 hR  h
    · have h := h.2 c_41
      refine g_aload_n (pc := 38) hC 0 dX6_readTimes_38 rfl rfl ?_
      refine getX6_0 (pc := 39) hC (F := fun Z => Z) (X := []) (fun _ => rfl) fl_X6_20 dX6_readTimes_39 ?_
      refine g_callV_i (pc := 42) (wd := fun (u : St × St) Y => (wX8 (a0 0) a1 (xy C) u.1 (wT (a1 0) (xy C) u.2 Y))) (F := fun Z => (wX6 o0 a0 (xy C) u0 Z)) (X := (wX6 o0 a0 (xy C) u0 [])) (As := []) (rest := []) (u := (u1, u2)) hC (fun _ _ => rfl) (fun _ => rfl) (ctX8_isAtEnd h) wvX8_isAtEnd ml_X6_41 (ci := 7) (q0 := 0) rfl rfl rfl rfl (rmok hR0 rfl) ⟨Nat.zero_le _, Nat.zero_le _⟩ rfl (Nat.le_of_ble_eq_true rfl) dX6_readTimes_42 (fun r_44 u_45 h => ?_)
      obtain ⟨u_42, u_43⟩ := u_45
      refine g_if_ne (pc := 45) (tgt := 81) hC dX6_readTimes_45 (by decide) (fun c_46 => ?_) (fun c_46 => ?_)
      · have h := h.1 c_46
        refine g_sub (lv' := [(0, .ref o0), (3, .ref o4)]) [0, 2] rfl ?_
        exact kX6_readTimes_b81 hC hR0 hR  h
      · have h := h.2 c_46
        refine g_aload_n (pc := 48) hC 0 dX6_readTimes_48 rfl rfl ?_
        refine getX6_0 (pc := 49) hC (F := fun Z => Z) (X := []) (fun _ => rfl) fl_X6_20 dX6_readTimes_49 ?_
        refine g_gets (pc := 52) hC 23 (Nat.le_of_ble_eq_true rfl) fl_X6_198 dX6_readTimes_52 ?_
        refine g_callV_i (pc := 55) (wd := fun (u : St × St) Y => (wX8 (a0 0) a1 (xy C) u.1 (wT (a1 0) (xy C) u.2 Y))) (F := fun Z => (wX6 o0 a0 (xy C) u0 Z)) (X := (wX6 o0 a0 (xy C) u0 [])) (As := [.ref (xk C 23)]) (rest := []) (u := (u_42, u_43)) hC (fun _ _ => rfl) (fun _ => rfl) (ctX8_isAt h) wvX8_isAt ml_X6_58 (ci := 7) (q0 := 0) rfl rfl rfl rfl (rmok hR0 rfl) ⟨Nat.zero_le _, Nat.zero_le _⟩ rfl (Nat.le_of_ble_eq_true rfl) dX6_readTimes_55 (fun r_49 u_50 h => ?_)
        obtain ⟨u_47, u_48⟩ := u_50
        refine g_if_eq (pc := 58) (tgt := 69) hC dX6_readTimes_58 (by decide) (fun c_51 => ?_) (fun c_51 => ?_)
        · have h := h.1 c_51
          refine g_aload_n (pc := 69) hC 0 dX6_readTimes_69 rfl rfl ?_
          refine g_aload_n (pc := 70) hC 1 dX6_readTimes_70 rfl rfl ?_
          refine g_aload_n (pc := 71) hC 2 dX6_readTimes_71 rfl rfl ?_
          refine g_callV_v (pc := 72) (wd := fun (u : St × St × St × St × St) Y => (wX6 o0 a0 (xy C) u.1 (wX8 (a0 0) a1 (xy C) u.2.1 (wT (a1 0) (xy C) u.2.2.1 (wX2 o3 a3 (xy C) u.2.2.2.1 (wX7 o4 a4 (xy C) u.2.2.2.2 Y)))))) (F := fun Z => Z) (X := []) (As := [.ref o3, .ref o4]) (rest := []) (u := (u0, u_47, u_48, u3, u4)) hC (fun _ _ => rfl) (fun _ => rfl) (ctX6_readStep h) wvX6_readStep ml_X6_205 (ci := 5) (q0 := 0) rfl rfl rfl rfl (rmok hR0 rfl) ⟨Nat.zero_le _, Nat.zero_le _⟩ rfl (Nat.le_of_ble_eq_true rfl) dX6_readTimes_72 (fun u_57 h => ?_)
          obtain ⟨u_52, u_53, u_54, u_55, u_56⟩ := u_57
          exact kX6_readTimes_b75 hC hR0 hR hK20 h
        · have h := h.2 c_51
          refine g_aload_n (pc := 61) hC 0 dX6_readTimes_61 rfl rfl ?_
          refine g_aload_n (pc := 62) hC 2 dX6_readTimes_62 rfl rfl ?_
          refine g_swap (F := fun Z => (wX6 o0 a0 (xy C) u0 (wX8 (a0 0) a1 (xy C) u_47 (wT (a1 0) (xy C) u_48 Z)))) (X := (wX6 o0 a0 (xy C) u0 (wX8 (a0 0) a1 (xy C) u_47 (wT (a1 0) (xy C) u_48 [])))) (f := fun Z => (wX2 o3 a3 (xy C) u3 Z)) (g := fun Z => (wX7 o4 a4 (xy C) u4 Z)) (Y := []) (fun _ => rfl) (fun _ => rfl) (fun _ => rfl) ?_
          refine g_callV_v (pc := 63) (wd := fun (u : St × St × St × St) Y => (wX6 o0 a0 (xy C) u.1 (wX8 (a0 0) a1 (xy C) u.2.1 (wT (a1 0) (xy C) u.2.2.1 (wX7 o4 a4 (xy C) u.2.2.2 Y))))) (F := fun Z => Z) (X := []) (As := [.ref o4]) (rest := []) (u := (u0, u_47, u_48, u4)) hC (fun _ _ => rfl) (fun _ => rfl) (ctX6_closeBlock h) wvX6_closeBlock ml_X6_201 (ci := 5) (q0 := 0) rfl rfl rfl rfl (rmok hR0 rfl) ⟨Nat.zero_le _, Nat.zero_le _⟩ rfl (Nat.le_of_ble_eq_true rfl) dX6_readTimes_63 (fun u_62 h => ?_)
          obtain ⟨u_58, u_59, u_60, u_61⟩ := u_62
          refine g_goto (pc := 66) (tgt := 75) hC dX6_readTimes_66 (by decide) ?_
          refine g_swap (F := fun Z => (wX6 o0 a0 (xy C) u_58 (wX8 (a0 0) a1 (xy C) u_59 (wT (a1 0) (xy C) u_60 Z)))) (X := (wX6 o0 a0 (xy C) u_58 (wX8 (a0 0) a1 (xy C) u_59 (wT (a1 0) (xy C) u_60 [])))) (f := fun Z => (wX7 o4 a4 (xy C) u_61 Z)) (g := fun Z => (wX2 o3 a3 (xy C) u3 Z)) (Y := []) (fun _ => rfl) (fun _ => rfl) (fun _ => rfl) ?_
          exact kX6_readTimes_b75 hC hR0 hR hK20 h
def qX6_readTimes_L20  (post : St → St → St → St → St → Prop)  : Nat → Int32 → St → St → St → St → St → Prop
  | 0 => fun _ _ _ _ _ _ => False
  | n + 1 => qX6_readTimes_l20 post (qX6_readTimes_L20 post n)
theorem kX6_readTimes_L20 {C : Cx} {o0 : Nat} {a0 : Nat → Nat} {a1 : Nat → Nat} {o3 : Nat} {a3 : Nat → Nat} {o4 : Nat} {a4 : Nat → Nat} (hC : Fx C cX6_readTimes 5 RX6) (hR0 : xR C = rm 7) {post : St → St → St → St → St → Prop} (hR : RV C cX6_readTimes 5 (fun u : St × St × St × St × St => (wX6 o0 a0 (xy C) u.1 (wX8 (a0 0) a1 (xy C) u.2.1 (wT (a1 0) (xy C) u.2.2.1 (wX2 o3 a3 (xy C) u.2.2.2.1 (wX7 o4 a4 (xy C) u.2.2.2.2 [])))))) (fun u => post u.1 u.2.1 u.2.2.1 u.2.2.2.1 u.2.2.2.2))  : ∀ (n : Nat) (x4 : Int32) (u0 : St) (u1 : St) (u2 : St) (u3 : St) (u4 : St), qX6_readTimes_L20 post n x4 u0 u1 u2 u3 u4 → G C 0 0 5 (wX6 o0 a0 (xy C) u0 (wX8 (a0 0) a1 (xy C) u1 (wT (a1 0) (xy C) u2 (wX2 o3 a3 (xy C) u3 (wX7 o4 a4 (xy C) u4 []))))) 20 [(0, .ref o0), (2, .ref o3), (3, .ref o4), (4, .int x4)] [] := by
  intro n
  induction n with
  | zero => intro x4 u0 u1 u2 u3 u4 h; exact h.elim
  | succ n ih => intro x4 u0 u1 u2 u3 u4 h; exact kX6_readTimes_l20 hC hR0 hR  ih h
def qX6_readTimes (x1 : Int32) (u0 : St) (u1 : St) (u2 : St) (u3 : St) (u4 : St) (post : St → St → St → St → St → Prop) : Prop := qX7_clear u4 (fun u_63 => ∀ u_65 : St, u_65 = (si u0 2 (0 : Int32)) → qX8_begin x1 u1 u2 (fun u_66 u_67 => ∃ n_69 : Nat, qX6_readTimes_L20 post n_69 (0 : Int32) u_65 u_66 u_67 u3 u_63))
set_option maxRecDepth 100000 in
set_option maxHeartbeats 4000000 in
theorem kX6_readTimes {C : Cx} {o0 : Nat} {a0 : Nat → Nat} {a1 : Nat → Nat} {o3 : Nat} {a3 : Nat → Nat} {o4 : Nat} {a4 : Nat → Nat} (hC : Fx C cX6_readTimes 5 RX6) (hR0 : xR C = rm 7) {post : St → St → St → St → St → Prop} (hR : RV C cX6_readTimes 5 (fun u : St × St × St × St × St => (wX6 o0 a0 (xy C) u.1 (wX8 (a0 0) a1 (xy C) u.2.1 (wT (a1 0) (xy C) u.2.2.1 (wX2 o3 a3 (xy C) u.2.2.2.1 (wX7 o4 a4 (xy C) u.2.2.2.2 [])))))) (fun u => post u.1 u.2.1 u.2.2.1 u.2.2.2.1 u.2.2.2.2)) {x1 : Int32} {u0 : St} {u1 : St} {u2 : St} {u3 : St} {u4 : St} (h : qX6_readTimes x1 u0 u1 u2 u3 u4 post) : G C 0 0 5 (wX6 o0 a0 (xy C) u0 (wX8 (a0 0) a1 (xy C) u1 (wT (a1 0) (xy C) u2 (wX2 o3 a3 (xy C) u3 (wX7 o4 a4 (xy C) u4 []))))) 0 [(0, .ref o0), (1, .int x1), (2, .ref o3), (3, .ref o4)] [] := by
  refine g_aload_n (pc := 0) hC 3 dX6_readTimes_0 rfl rfl ?_
  refine g_callV_v (pc := 1) (wd := fun (u : St) Y => (wX7 o4 a4 (xy C) u Y)) (F := fun Z => (wX6 o0 a0 (xy C) u0 (wX8 (a0 0) a1 (xy C) u1 (wT (a1 0) (xy C) u2 (wX2 o3 a3 (xy C) u3 Z))))) (X := (wX6 o0 a0 (xy C) u0 (wX8 (a0 0) a1 (xy C) u1 (wT (a1 0) (xy C) u2 (wX2 o3 a3 (xy C) u3 []))))) (As := []) (rest := []) (u := u4) hC (fun _ _ => rfl) (fun _ => rfl) (ctX7_clear h) wvX7_clear ml_X6_192 (ci := 6) (q0 := 0) rfl rfl rfl rfl (rmok hR0 rfl) ⟨Nat.zero_le _, Nat.zero_le _⟩ rfl (Nat.le_of_ble_eq_true rfl) dX6_readTimes_1 (fun u_63 h => ?_)
  refine g_aload_n (pc := 4) hC 0 dX6_readTimes_4 rfl rfl ?_
  refine g_iconst (pc := 5) (v := 0) hC dX6_readTimes_5 (by decide) ?_
  refine putX6_2 (pc := 6) hC (F := fun Z => Z) (X := []) (fun _ => rfl) fl_X6_195 dX6_readTimes_6 ?_
  refine g_st (w := fun z => (wX6 o0 a0 (xy C) z (wX8 (a0 0) a1 (xy C) u1 (wT (a1 0) (xy C) u2 (wX2 o3 a3 (xy C) u3 (wX7 o4 a4 (xy C) u_63 [])))))) (u := (si u0 2 (0 : Int32))) (fun u_65 eu_65 => ?_)
  have h := h u_65 eu_65
  refine g_aload_n (pc := 9) hC 0 dX6_readTimes_9 rfl rfl ?_
  refine getX6_0 (pc := 10) hC (F := fun Z => Z) (X := []) (fun _ => rfl) fl_X6_20 dX6_readTimes_10 ?_
  refine g_iload_n (pc := 13) hC 1 dX6_readTimes_13 rfl rfl ?_
  refine g_callV_v (pc := 14) (wd := fun (u : St × St) Y => (wX8 (a0 0) a1 (xy C) u.1 (wT (a1 0) (xy C) u.2 Y))) (F := fun Z => (wX6 o0 a0 (xy C) u_65 Z)) (X := (wX6 o0 a0 (xy C) u_65 [])) (As := [.int x1]) (rest := []) (u := (u1, u2)) hC (fun _ _ => rfl) (fun _ => rfl) (ctX8_begin h) wvX8_begin ml_X6_33 (ci := 7) (q0 := 0) rfl rfl rfl rfl (rmok hR0 rfl) ⟨Nat.zero_le _, Nat.zero_le _⟩ rfl (Nat.le_of_ble_eq_true rfl) dX6_readTimes_14 (fun u_68 h => ?_)
  obtain ⟨u_66, u_67⟩ := u_68
  refine g_iconst (pc := 17) (v := 0) hC dX6_readTimes_17 (by decide) ?_
  refine g_istore (pc := 18) (lv' := [(4, .int (0 : Int32)), (0, .ref o0), (1, .int x1), (2, .ref o3), (3, .ref o4)]) hC dX6_readTimes_18 (Nat.le_of_ble_eq_true rfl) rfl ?_
  refine g_sub (lv' := [(0, .ref o0), (2, .ref o3), (3, .ref o4), (4, .int (0 : Int32))]) [1, 3, 4, 0] rfl ?_
  obtain ⟨n_69, h⟩ := h
  exact kX6_readTimes_L20 hC hR0 hR  n_69 _ _ _ _ _ _ h
theorem ctX6_readTimes {l : Launch} {D : va_G} {cy : Nat → ClassId} {kd : Nat → Nat} {o0 : Nat} {a0 : Nat → Nat} {a1 : Nat → Nat} {o3 : Nat} {a3 : Nat → Nat} {o4 : Nat} {a4 : Nat → Nat} {x1 : Int32} {u0 : St} {u1 : St} {u2 : St} {u3 : St} {u4 : St} {post : St → St → St → St → St → Prop} (h : qX6_readTimes x1 u0 u1 u2 u3 u4 post) : CtV l D cy kd yX6_readTimes cX6_readTimes 5 7  [.ref o0, .int x1, .ref o3, .ref o4] (fun u : St × St × St × St × St => (wX6 o0 a0 cy u.1 (wX8 (a0 0) a1 cy u.2.1 (wT (a1 0) cy u.2.2.1 (wX2 o3 a3 cy u.2.2.2.1 (wX7 o4 a4 cy u.2.2.2.2 [])))))) (u0, u1, u2, u3, u4) (fun u => post u.1 u.2.1 u.2.2.1 u.2.2.2.1 u.2.2.2.2) := met_v (by decide) (Nat.le_of_ble_eq_true rfl) (fun C e1 e2 e3 e4 e5 hC hR => by subst e1 e2 e3 e4; exact kX6_readTimes hC e5 hR h)
