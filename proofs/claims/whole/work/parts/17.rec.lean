/-! Chains, Game: recursion by fuel -/
theorem dX0_extend_0 : decode cX0_extend 0 = .ok (.aload_n 0, 1) := by decide +kernel
theorem dX0_extend_1 : decode cX0_extend 1 = .ok (.getfield 21, 3) := by decide +kernel
theorem dX0_extend_4 : decode cX0_extend 4 = .ok (.iload_n 3, 1) := by decide +kernel
theorem dX0_extend_5 : decode cX0_extend 5 = .ok (.baload, 1) := by decide +kernel
theorem dX0_extend_6 : decode cX0_extend 6 = .ok (.ifCond .eq 4, 3) := by decide +kernel
theorem dX0_extend_9 : decode cX0_extend 9 = .ok (.return_, 1) := by decide +kernel
theorem dX0_extend_10 : decode cX0_extend 10 = .ok (.aload_n 0, 1) := by decide +kernel
theorem dX0_extend_11 : decode cX0_extend 11 = .ok (.getfield 21, 3) := by decide +kernel
theorem dX0_extend_14 : decode cX0_extend 14 = .ok (.iload_n 3, 1) := by decide +kernel
theorem dX0_extend_15 : decode cX0_extend 15 = .ok (.iconst 1, 1) := by decide +kernel
theorem dX0_extend_16 : decode cX0_extend 16 = .ok (.bastore, 1) := by decide +kernel
theorem dX0_extend_17 : decode cX0_extend 17 = .ok (.aload_n 0, 1) := by decide +kernel
theorem dX0_extend_18 : decode cX0_extend 18 = .ok (.getfield 25, 3) := by decide +kernel
theorem dX0_extend_21 : decode cX0_extend 21 = .ok (.ifCond .eq 12, 3) := by decide +kernel
theorem dX0_extend_24 : decode cX0_extend 24 = .ok (.aload_n 1, 1) := by decide +kernel
theorem dX0_extend_25 : decode cX0_extend 25 = .ok (.iload_n 3, 1) := by decide +kernel
theorem dX0_extend_26 : decode cX0_extend 26 = .ok (.invokevirtual 61, 3) := by decide +kernel
theorem dX0_extend_29 : decode cX0_extend 29 = .ok (.ifCond .eq 4, 3) := by decide +kernel
theorem dX0_extend_32 : decode cX0_extend 32 = .ok (.return_, 1) := by decide +kernel
theorem dX0_extend_33 : decode cX0_extend 33 = .ok (.iload_n 2, 1) := by decide +kernel
theorem dX0_extend_34 : decode cX0_extend 34 = .ok (.aload_n 0, 1) := by decide +kernel
theorem dX0_extend_35 : decode cX0_extend 35 = .ok (.getfield 29, 3) := by decide +kernel
theorem dX0_extend_38 : decode cX0_extend 38 = .ok (.if_icmp .le 22, 3) := by decide +kernel
theorem dX0_extend_41 : decode cX0_extend 41 = .ok (.aload_n 0, 1) := by decide +kernel
theorem dX0_extend_42 : decode cX0_extend 42 = .ok (.iload_n 2, 1) := by decide +kernel
theorem dX0_extend_43 : decode cX0_extend 43 = .ok (.putfield 29, 3) := by decide +kernel
theorem dX0_extend_46 : decode cX0_extend 46 = .ok (.aload_n 0, 1) := by decide +kernel
theorem dX0_extend_47 : decode cX0_extend 47 = .ok (.getfield 15, 3) := by decide +kernel
theorem dX0_extend_50 : decode cX0_extend 50 = .ok (.iconst 0, 1) := by decide +kernel
theorem dX0_extend_51 : decode cX0_extend 51 = .ok (.aload_n 0, 1) := by decide +kernel
theorem dX0_extend_52 : decode cX0_extend 52 = .ok (.getfield 9, 3) := by decide +kernel
theorem dX0_extend_55 : decode cX0_extend 55 = .ok (.iconst 0, 1) := by decide +kernel
theorem dX0_extend_56 : decode cX0_extend 56 = .ok (.iload_n 2, 1) := by decide +kernel
theorem dX0_extend_57 : decode cX0_extend 57 = .ok (.invokestatic 51, 3) := by decide +kernel
theorem dX0_extend_60 : decode cX0_extend 60 = .ok (.iload_n 2, 1) := by decide +kernel
theorem dX0_extend_61 : decode cX0_extend 61 = .ok (.bipush 7, 2) := by decide +kernel
theorem dX0_extend_63 : decode cX0_extend 63 = .ok (.if_icmp .lt 4, 3) := by decide +kernel
theorem dX0_extend_66 : decode cX0_extend 66 = .ok (.return_, 1) := by decide +kernel
theorem dX0_extend_67 : decode cX0_extend 67 = .ok (.iconst 0, 1) := by decide +kernel
theorem dX0_extend_68 : decode cX0_extend 68 = .ok (.istore 4, 2) := by decide +kernel
theorem dX0_extend_70 : decode cX0_extend 70 = .ok (.iload 4, 2) := by decide +kernel
theorem dX0_extend_72 : decode cX0_extend 72 = .ok (.aload_n 1, 1) := by decide +kernel
theorem dX0_extend_73 : decode cX0_extend 73 = .ok (.getfield 33, 3) := by decide +kernel
theorem dX0_extend_76 : decode cX0_extend 76 = .ok (.if_icmp .ge 72, 3) := by decide +kernel
theorem dX0_extend_79 : decode cX0_extend 79 = .ok (.aload_n 0, 1) := by decide +kernel
theorem dX0_extend_80 : decode cX0_extend 80 = .ok (.getfield 29, 3) := by decide +kernel
theorem dX0_extend_83 : decode cX0_extend 83 = .ok (.aload_n 0, 1) := by decide +kernel
theorem dX0_extend_84 : decode cX0_extend 84 = .ok (.getfield 47, 3) := by decide +kernel
theorem dX0_extend_87 : decode cX0_extend 87 = .ok (.if_icmp .ge 61, 3) := by decide +kernel
theorem dX0_extend_90 : decode cX0_extend 90 = .ok (.iload_n 3, 1) := by decide +kernel
theorem dX0_extend_91 : decode cX0_extend 91 = .ok (.aload_n 1, 1) := by decide +kernel
theorem dX0_extend_92 : decode cX0_extend 92 = .ok (.getfield 38, 3) := by decide +kernel
theorem dX0_extend_95 : decode cX0_extend 95 = .ok (.ior, 1) := by decide +kernel
theorem dX0_extend_96 : decode cX0_extend 96 = .ok (.iload 4, 2) := by decide +kernel
theorem dX0_extend_98 : decode cX0_extend 98 = .ok (.invokestatic 64, 3) := by decide +kernel
theorem dX0_extend_101 : decode cX0_extend 101 = .ok (.ifCond .ne 41, 3) := by decide +kernel
theorem dX0_extend_104 : decode cX0_extend 104 = .ok (.aload_n 0, 1) := by decide +kernel
theorem dX0_extend_105 : decode cX0_extend 105 = .ok (.getfield 18, 3) := by decide +kernel
theorem dX0_extend_108 : decode cX0_extend 108 = .ok (.aload_n 1, 1) := by decide +kernel
theorem dX0_extend_109 : decode cX0_extend 109 = .ok (.getfield 68, 3) := by decide +kernel
theorem dX0_extend_112 : decode cX0_extend 112 = .ok (.iload 4, 2) := by decide +kernel
theorem dX0_extend_114 : decode cX0_extend 114 = .ok (.iaload, 1) := by decide +kernel
theorem dX0_extend_115 : decode cX0_extend 115 = .ok (.iaload, 1) := by decide +kernel
theorem dX0_extend_116 : decode cX0_extend 116 = .ok (.aload_n 1, 1) := by decide +kernel
theorem dX0_extend_117 : decode cX0_extend 117 = .ok (.iload 4, 2) := by decide +kernel
theorem dX0_extend_119 : decode cX0_extend 119 = .ok (.invokevirtual 71, 3) := by decide +kernel
theorem dX0_extend_122 : decode cX0_extend 122 = .ok (.if_icmp .lt 20, 3) := by decide +kernel
theorem dX0_extend_125 : decode cX0_extend 125 = .ok (.aload_n 0, 1) := by decide +kernel
theorem dX0_extend_126 : decode cX0_extend 126 = .ok (.getfield 15, 3) := by decide +kernel
theorem dX0_extend_129 : decode cX0_extend 129 = .ok (.iload_n 2, 1) := by decide +kernel
theorem dX0_extend_130 : decode cX0_extend 130 = .ok (.iload 4, 2) := by decide +kernel
theorem dX0_extend_132 : decode cX0_extend 132 = .ok (.iastore, 1) := by decide +kernel
theorem dX0_extend_133 : decode cX0_extend 133 = .ok (.aload_n 0, 1) := by decide +kernel
theorem dX0_extend_134 : decode cX0_extend 134 = .ok (.aload_n 1, 1) := by decide +kernel
theorem dX0_extend_135 : decode cX0_extend 135 = .ok (.iload 4, 2) := by decide +kernel
theorem dX0_extend_137 : decode cX0_extend 137 = .ok (.iload_n 2, 1) := by decide +kernel
theorem dX0_extend_138 : decode cX0_extend 138 = .ok (.iload_n 3, 1) := by decide +kernel
theorem dX0_extend_139 : decode cX0_extend 139 = .ok (.invokevirtual 74, 3) := by decide +kernel
theorem dX0_extend_142 : decode cX0_extend 142 = .ok (.iinc 4 1, 3) := by decide +kernel
theorem dX0_extend_145 : decode cX0_extend 145 = .ok (.goto (-75), 3) := by decide +kernel
theorem dX0_extend_148 : decode cX0_extend 148 = .ok (.return_, 1) := by decide +kernel
def qX0_extend_b142  (Q0 : Int32 → Int32 → Int32 → St → St → (St → St → Prop) → Prop) (post : St → St → Prop) (K70 : Int32 → Int32 → Int32 → St → St → Prop) (x2 : Int32) (x3 : Int32) (x4 : Int32) (u0 : St) (u1 : St) : Prop := ∀ x4_17 : Int32, x4_17 = x4 + (1 : Int32) → K70 x2 x3 x4_17 u0 u1
set_option maxRecDepth 100000 in
set_option maxHeartbeats 4000000 in
theorem kX0_extend_b142 {C : Cx} {hr : Nat} {o0 : Nat} {a0 : Nat → Nat} {o1 : Nat} {a1 : Nat → Nat} (hC : Fx C cX0_extend 5 RX0) (hR0 : xR C = rm (hr + 1)) {post : St → St → Prop} (hR : RV C cX0_extend 5 (fun u : St × St => (wX0 o0 a0 (xy C) u.1 (wX2 o1 a1 (xy C) u.2 []))) (fun u => post u.1 u.2)) {Q0 : Int32 → Int32 → Int32 → St → St → (St → St → Prop) → Prop} (hQ0 : ∀ (x2 : Int32) (x3 : Int32) (x4 : Int32) (u0 : St) (u1 : St) (post : St → St → Prop), Q0 x2 x3 x4 u0 u1 post → CtV (xl C) (xD C) (xy C) (xk C) yX0_extendBy cX0_extendBy 9 hr  [.ref o0, .ref o1, .int x2, .int x3, .int x4] (fun u : St × St => (wX0 o0 a0 (xy C) u.1 (wX2 o1 a1 (xy C) u.2 []))) (u0, u1) (fun u => post u.1 u.2)) (hB : 4 ≤ hr) {K70 : Int32 → Int32 → Int32 → St → St → Prop} (hK70 : ∀ (x2 : Int32) (x3 : Int32) (x4 : Int32) (u0 : St) (u1 : St), K70 x2 x3 x4 u0 u1 → G C 0 0 5 (wX0 o0 a0 (xy C) u0 (wX2 o1 a1 (xy C) u1 [])) 70 [(0, .ref o0), (1, .ref o1), (2, .int x2), (3, .int x3), (4, .int x4)] []) {x2 : Int32} {x3 : Int32} {x4 : Int32} {u0 : St} {u1 : St} (h : qX0_extend_b142 Q0 post K70 x2 x3 x4 u0 u1) : G C 0 0 5 (wX0 o0 a0 (xy C) u0 (wX2 o1 a1 (xy C) u1 [])) 142 [(0, .ref o0), (1, .ref o1), (2, .int x2), (3, .int x3), (4, .int x4)] [] := by
  obtain ⟨x4_17, ex4_17⟩ : ∃ z : Int32, z = x4 + (1 : Int32) := ⟨_, rfl⟩
  have h := h x4_17 ex4_17
  refine g_iinc (pc := 142) (v := x4_17) (lv' := [(4, .int x4_17), (0, .ref o0), (1, .ref o1), (2, .int x2), (3, .int x3)]) hC 4 dX0_extend_142 rfl (by rw [ex4_17]; rfl) (Nat.le_of_ble_eq_true rfl) rfl ?_
  refine g_goto (pc := 145) (tgt := 70) hC dX0_extend_145 (by decide) ?_
  refine g_sub (lv' := [(0, .ref o0), (1, .ref o1), (2, .int x2), (3, .int x3), (4, .int x4_17)]) [1, 2, 3, 4, 0] rfl ?_
  exact hK70 _ _ _ _ _ h
def qX0_extend_b148  (Q0 : Int32 → Int32 → Int32 → St → St → (St → St → Prop) → Prop) (post : St → St → Prop)  (u0 : St) (u1 : St) : Prop := post u0 u1
set_option maxRecDepth 100000 in
set_option maxHeartbeats 4000000 in
theorem kX0_extend_b148 {C : Cx} {hr : Nat} {o0 : Nat} {a0 : Nat → Nat} {o1 : Nat} {a1 : Nat → Nat} (hC : Fx C cX0_extend 5 RX0) (hR0 : xR C = rm (hr + 1)) {post : St → St → Prop} (hR : RV C cX0_extend 5 (fun u : St × St => (wX0 o0 a0 (xy C) u.1 (wX2 o1 a1 (xy C) u.2 []))) (fun u => post u.1 u.2)) {Q0 : Int32 → Int32 → Int32 → St → St → (St → St → Prop) → Prop} (hQ0 : ∀ (x2 : Int32) (x3 : Int32) (x4 : Int32) (u0 : St) (u1 : St) (post : St → St → Prop), Q0 x2 x3 x4 u0 u1 post → CtV (xl C) (xD C) (xy C) (xk C) yX0_extendBy cX0_extendBy 9 hr  [.ref o0, .ref o1, .int x2, .int x3, .int x4] (fun u : St × St => (wX0 o0 a0 (xy C) u.1 (wX2 o1 a1 (xy C) u.2 []))) (u0, u1) (fun u => post u.1 u.2)) (hB : 4 ≤ hr)  {u0 : St} {u1 : St} (h : qX0_extend_b148 Q0 post u0 u1) : G C 0 0 5 (wX0 o0 a0 (xy C) u0 (wX2 o1 a1 (xy C) u1 [])) 148 [] [] := by
  exact hR _ _ (u0, u1) dX0_extend_148 h
def qX0_extend_l70  (Q0 : Int32 → Int32 → Int32 → St → St → (St → St → Prop) → Prop) (post : St → St → Prop) (K70 : Int32 → Int32 → Int32 → St → St → Prop) (x2 : Int32) (x3 : Int32) (x4 : Int32) (u0 : St) (u1 : St) : Prop := (((gi u1 2) ≤ x4 → qX0_extend_b148 Q0 post u0 u1) ∧ (¬ (gi u1 2) ≤ x4 → (((gi u0 6) ≤ (gi u0 1) → qX0_extend_b148 Q0 post u0 u1) ∧ (¬ (gi u0 6) ≤ (gi u0 1) → qX11_has (x3 ||| (gi u1 6)) x4 (fun r_20 => ((¬ r_20 = 0 → qX0_extend_b142 Q0 post K70 x2 x3 x4 u0 u1) ∧ (r_20 = 0 → (vp_in x4 7 ∧ (vp_in (ga u1 14 (x4).toNatClampNeg) 5 ∧ qX2_owed x4 u1 (fun r_24 u_23 => (((ga u0 3 ((ga u1 14 (x4).toNatClampNeg)).toNatClampNeg) < r_24 → qX0_extend_b142 Q0 post K70 x2 x3 x4 u0 u_23) ∧ (¬ (ga u0 3 ((ga u1 14 (x4).toNatClampNeg)).toNatClampNeg) < r_24 → (vp_in x2 7 ∧ ∀ u_27 : St, u_27 = (sw u0 2 (upd (ga u0 2) (x2).toNatClampNeg x4)) → Q0 x4 x2 x3 u_27 u_23 (fun u_28 u_29 => qX0_extend_b142 Q0 post K70 x2 x3 x4 u_28 u_29))))))))))))))
set_option maxRecDepth 100000 in
set_option maxHeartbeats 4000000 in
theorem kX0_extend_l70 {C : Cx} {hr : Nat} {o0 : Nat} {a0 : Nat → Nat} {o1 : Nat} {a1 : Nat → Nat} (hC : Fx C cX0_extend 5 RX0) (hR0 : xR C = rm (hr + 1)) {post : St → St → Prop} (hR : RV C cX0_extend 5 (fun u : St × St => (wX0 o0 a0 (xy C) u.1 (wX2 o1 a1 (xy C) u.2 []))) (fun u => post u.1 u.2)) {Q0 : Int32 → Int32 → Int32 → St → St → (St → St → Prop) → Prop} (hQ0 : ∀ (x2 : Int32) (x3 : Int32) (x4 : Int32) (u0 : St) (u1 : St) (post : St → St → Prop), Q0 x2 x3 x4 u0 u1 post → CtV (xl C) (xD C) (xy C) (xk C) yX0_extendBy cX0_extendBy 9 hr  [.ref o0, .ref o1, .int x2, .int x3, .int x4] (fun u : St × St => (wX0 o0 a0 (xy C) u.1 (wX2 o1 a1 (xy C) u.2 []))) (u0, u1) (fun u => post u.1 u.2)) (hB : 4 ≤ hr)  {K70 : Int32 → Int32 → Int32 → St → St → Prop} (hK70 : ∀ (x2 : Int32) (x3 : Int32) (x4 : Int32) (u0 : St) (u1 : St), K70 x2 x3 x4 u0 u1 → G C 0 0 5 (wX0 o0 a0 (xy C) u0 (wX2 o1 a1 (xy C) u1 [])) 70 [(0, .ref o0), (1, .ref o1), (2, .int x2), (3, .int x3), (4, .int x4)] []) {x2 : Int32} {x3 : Int32} {x4 : Int32} {u0 : St} {u1 : St} (h : qX0_extend_l70 Q0 post K70 x2 x3 x4 u0 u1) : G C 0 0 5 (wX0 o0 a0 (xy C) u0 (wX2 o1 a1 (xy C) u1 [])) 70 [(0, .ref o0), (1, .ref o1), (2, .int x2), (3, .int x3), (4, .int x4)] [] := by
  refine g_iload (pc := 70) hC 4 dX0_extend_70 rfl ?_
  refine g_aload_n (pc := 72) hC 1 dX0_extend_72 rfl rfl ?_
  refine getX2_2 (pc := 73) hC (F := fun Z => (wX0 o0 a0 (xy C) u0 Z)) (X := (wX0 o0 a0 (xy C) u0 [])) (fun _ => rfl) fl_X0_33 dX0_extend_73 ?_
  refine g_icmp_ge (pc := 76) (tgt := 148) hC dX0_extend_76 (by decide) (fun c_18 => ?_) (fun c_18 => ?_)
  · have h := h.1 c_18
    refine g_sub (lv' := []) [] rfl ?_
    exact kX0_extend_b148 hC hR0 hR hQ0 hB  h
  · have h := h.2 c_18
    refine g_aload_n (pc := 79) hC 0 dX0_extend_79 rfl rfl ?_
    refine getX0_1 (pc := 80) hC (F := fun Z => Z) (X := []) (fun _ => rfl) fl_X0_29 dX0_extend_80 ?_
    refine g_aload_n (pc := 83) hC 0 dX0_extend_83 rfl rfl ?_
    refine getX0_6 (pc := 84) hC (F := fun Z => Z) (X := []) (fun _ => rfl) fl_X0_47 dX0_extend_84 ?_
    refine g_icmp_ge (pc := 87) (tgt := 148) hC dX0_extend_87 (by decide) (fun c_19 => ?_) (fun c_19 => ?_)
    · have h := h.1 c_19
      refine g_sub (lv' := []) [] rfl ?_
      exact kX0_extend_b148 hC hR0 hR hQ0 hB  h
    · have h := h.2 c_19
      refine g_iload_n (pc := 90) hC 3 dX0_extend_90 rfl rfl ?_
      refine g_aload_n (pc := 91) hC 1 dX0_extend_91 rfl rfl ?_
      refine getX2_6 (pc := 92) hC (F := fun Z => (wX0 o0 a0 (xy C) u0 Z)) (X := (wX0 o0 a0 (xy C) u0 [])) (fun _ => rfl) fl_X0_38 dX0_extend_92 ?_
      refine g_ior (pc := 95) hC dX0_extend_95 ?_
      refine g_iload (pc := 96) hC 4 dX0_extend_96 rfl ?_
      refine g_callSN_i (pc := 98) (wd := fun (_ : Unit) Y => Y) (F := fun Z => Z) (X := []) (As := [.int (x3 ||| (gi u1 6)), .int x4]) (rest := []) (u := ()) hC (fun _ _ => rfl) (fun _ => rfl) (ctX11_has h) wvX11_has nl_X0_64 rfl (rmokO hR0 (by omega) (Nat.le_of_ble_eq_true rfl)) ⟨Nat.zero_le _, Nat.zero_le _⟩ rfl (Nat.le_of_ble_eq_true rfl) dX0_extend_98 (fun r_20 u_21 h => ?_)
      refine g_if_ne (pc := 101) (tgt := 142) hC dX0_extend_101 (by decide) (fun c_22 => ?_) (fun c_22 => ?_)
      · have h := h.1 c_22
        exact kX0_extend_b142 hC hR0 hR hQ0 hB hK70 h
      · have h := h.2 c_22
        refine g_aload_n (pc := 104) hC 0 dX0_extend_104 rfl rfl ?_
        refine getX0_3 (pc := 105) hC (F := fun Z => Z) (X := []) (fun _ => rfl) fl_X0_18 dX0_extend_105 ?_
        refine g_aload_n (pc := 108) hC 1 dX0_extend_108 rfl rfl ?_
        refine getX2_14 (pc := 109) hC (F := fun Z => (wX0 o0 a0 (xy C) u0 Z)) (X := (wX0 o0 a0 (xy C) u0 [])) (fun _ => rfl) fl_X0_68 dX0_extend_109 ?_
        refine g_iload (pc := 112) hC 4 dX0_extend_112 rfl ?_
        refine aldX2_14 (pc := 114) hC (F := fun Z => (wX0 o0 a0 (xy C) u0 Z)) (X := (wX0 o0 a0 (xy C) u0 [])) (fun _ => rfl) h.1 dX0_extend_114 ?_
        have h := h.2
        refine aldX0_3 (pc := 115) hC (F := fun Z => Z) (X := []) (fun _ => rfl) h.1 dX0_extend_115 ?_
        have h := h.2
        refine g_aload_n (pc := 116) hC 1 dX0_extend_116 rfl rfl ?_
        refine g_iload (pc := 117) hC 4 dX0_extend_117 rfl ?_
        refine g_callV_i (pc := 119) (wd := fun (u : St) Y => (wX2 o1 a1 (xy C) u Y)) (F := fun Z => (wX0 o0 a0 (xy C) u0 Z)) (X := (wX0 o0 a0 (xy C) u0 [])) (As := [.int x4]) (rest := [.int (ga u0 3 ((ga u1 14 (x4).toNatClampNeg)).toNatClampNeg)]) (u := u1) hC (fun _ _ => rfl) (fun _ => rfl) (ctX2_owed h) wvX2_owed ml_X0_71 (ci := 1) (q0 := 0) rfl rfl rfl rfl (rmokO hR0 (by omega) (Nat.le_of_ble_eq_true rfl)) ⟨Nat.zero_le _, Nat.zero_le _⟩ rfl (Nat.le_of_ble_eq_true rfl) dX0_extend_119 (fun r_24 u_23 h => ?_)
        refine g_icmp_lt (pc := 122) (tgt := 142) hC dX0_extend_122 (by decide) (fun c_26 => ?_) (fun c_26 => ?_)
        · have h := h.1 c_26
          exact kX0_extend_b142 hC hR0 hR hQ0 hB hK70 h
        · have h := h.2 c_26
          refine g_aload_n (pc := 125) hC 0 dX0_extend_125 rfl rfl ?_
          refine getX0_2 (pc := 126) hC (F := fun Z => Z) (X := []) (fun _ => rfl) fl_X0_15 dX0_extend_126 ?_
          refine g_iload_n (pc := 129) hC 2 dX0_extend_129 rfl rfl ?_
          refine g_iload (pc := 130) hC 4 dX0_extend_130 rfl ?_
          refine astX0_2 (pc := 132) hC (F := fun Z => Z) (X := []) (fun _ => rfl) h.1 dX0_extend_132 ?_
          have h := h.2
          refine g_st (w := fun z => (wX0 o0 a0 (xy C) z (wX2 o1 a1 (xy C) u_23 []))) (u := (sw u0 2 (upd (ga u0 2) (x2).toNatClampNeg x4))) (fun u_27 eu_27 => ?_)
          have h := h u_27 eu_27
          refine g_aload_n (pc := 133) hC 0 dX0_extend_133 rfl rfl ?_
          refine g_aload_n (pc := 134) hC 1 dX0_extend_134 rfl rfl ?_
          refine g_iload (pc := 135) hC 4 dX0_extend_135 rfl ?_
          refine g_iload_n (pc := 137) hC 2 dX0_extend_137 rfl rfl ?_
          refine g_iload_n (pc := 138) hC 3 dX0_extend_138 rfl rfl ?_
          refine g_callV_v (pc := 139) (wd := fun (u : St × St) Y => (wX0 o0 a0 (xy C) u.1 (wX2 o1 a1 (xy C) u.2 Y))) (F := fun Z => Z) (X := []) (As := [.ref o1, .int x4, .int x2, .int x3]) (rest := []) (u := (u_27, u_23)) hC (fun _ _ => rfl) (fun _ => rfl) (hQ0 _ _ _ _ _ _ h) wvX0_extendBy ml_X0_74 (ci := 0) (q0 := 0) rfl rfl rfl rfl (rmokO hR0 (by omega) (Nat.le_of_ble_eq_true rfl)) ⟨Nat.zero_le _, Nat.zero_le _⟩ rfl (Nat.le_of_ble_eq_true rfl) dX0_extend_139 (fun u_30 h => ?_)
          obtain ⟨u_28, u_29⟩ := u_30
          exact kX0_extend_b142 hC hR0 hR hQ0 hB hK70 h
def qX0_extend_L70  (Q0 : Int32 → Int32 → Int32 → St → St → (St → St → Prop) → Prop) (post : St → St → Prop)  : Nat → Int32 → Int32 → Int32 → St → St → Prop
  | 0 => fun _ _ _ _ _ => False
  | n + 1 => qX0_extend_l70 Q0 post (qX0_extend_L70 Q0 post n)
theorem kX0_extend_L70 {C : Cx} {hr : Nat} {o0 : Nat} {a0 : Nat → Nat} {o1 : Nat} {a1 : Nat → Nat} (hC : Fx C cX0_extend 5 RX0) (hR0 : xR C = rm (hr + 1)) {post : St → St → Prop} (hR : RV C cX0_extend 5 (fun u : St × St => (wX0 o0 a0 (xy C) u.1 (wX2 o1 a1 (xy C) u.2 []))) (fun u => post u.1 u.2)) {Q0 : Int32 → Int32 → Int32 → St → St → (St → St → Prop) → Prop} (hQ0 : ∀ (x2 : Int32) (x3 : Int32) (x4 : Int32) (u0 : St) (u1 : St) (post : St → St → Prop), Q0 x2 x3 x4 u0 u1 post → CtV (xl C) (xD C) (xy C) (xk C) yX0_extendBy cX0_extendBy 9 hr  [.ref o0, .ref o1, .int x2, .int x3, .int x4] (fun u : St × St => (wX0 o0 a0 (xy C) u.1 (wX2 o1 a1 (xy C) u.2 []))) (u0, u1) (fun u => post u.1 u.2)) (hB : 4 ≤ hr)  : ∀ (n : Nat) (x2 : Int32) (x3 : Int32) (x4 : Int32) (u0 : St) (u1 : St), qX0_extend_L70 Q0 post n x2 x3 x4 u0 u1 → G C 0 0 5 (wX0 o0 a0 (xy C) u0 (wX2 o1 a1 (xy C) u1 [])) 70 [(0, .ref o0), (1, .ref o1), (2, .int x2), (3, .int x3), (4, .int x4)] [] := by
  intro n
  induction n with
  | zero => intro x2 x3 x4 u0 u1 h; exact h.elim
  | succ n ih => intro x2 x3 x4 u0 u1 h; exact kX0_extend_l70 hC hR0 hR hQ0 hB  ih h
def qX0_extend_b60  (Q0 : Int32 → Int32 → Int32 → St → St → (St → St → Prop) → Prop) (post : St → St → Prop)  (x2 : Int32) (x3 : Int32) (u0 : St) (u1 : St) : Prop := ((x2 < (7 : Int32) → ∃ n_32 : Nat, qX0_extend_L70 Q0 post n_32 x2 x3 (0 : Int32) u0 u1) ∧ (¬ x2 < (7 : Int32) → post u0 u1))
set_option maxRecDepth 100000 in
set_option maxHeartbeats 4000000 in
theorem kX0_extend_b60 {C : Cx} {hr : Nat} {o0 : Nat} {a0 : Nat → Nat} {o1 : Nat} {a1 : Nat → Nat} (hC : Fx C cX0_extend 5 RX0) (hR0 : xR C = rm (hr + 1)) {post : St → St → Prop} (hR : RV C cX0_extend 5 (fun u : St × St => (wX0 o0 a0 (xy C) u.1 (wX2 o1 a1 (xy C) u.2 []))) (fun u => post u.1 u.2)) {Q0 : Int32 → Int32 → Int32 → St → St → (St → St → Prop) → Prop} (hQ0 : ∀ (x2 : Int32) (x3 : Int32) (x4 : Int32) (u0 : St) (u1 : St) (post : St → St → Prop), Q0 x2 x3 x4 u0 u1 post → CtV (xl C) (xD C) (xy C) (xk C) yX0_extendBy cX0_extendBy 9 hr  [.ref o0, .ref o1, .int x2, .int x3, .int x4] (fun u : St × St => (wX0 o0 a0 (xy C) u.1 (wX2 o1 a1 (xy C) u.2 []))) (u0, u1) (fun u => post u.1 u.2)) (hB : 4 ≤ hr)  {x2 : Int32} {x3 : Int32} {u0 : St} {u1 : St} (h : qX0_extend_b60 Q0 post x2 x3 u0 u1) : G C 0 0 5 (wX0 o0 a0 (xy C) u0 (wX2 o1 a1 (xy C) u1 [])) 60 [(0, .ref o0), (1, .ref o1), (2, .int x2), (3, .int x3)] [] := by
  refine g_iload_n (pc := 60) hC 2 dX0_extend_60 rfl rfl ?_
  refine g_bipush (pc := 61) (v := 7) hC dX0_extend_61 (by decide) ?_
  refine g_icmp_lt (pc := 63) (tgt := 67) hC dX0_extend_63 (by decide) (fun c_31 => ?_) (fun c_31 => ?_)
  · have h := h.1 c_31
    refine g_iconst (pc := 67) (v := 0) hC dX0_extend_67 (by decide) ?_
    refine g_istore (pc := 68) (lv' := [(4, .int (0 : Int32)), (0, .ref o0), (1, .ref o1), (2, .int x2), (3, .int x3)]) hC dX0_extend_68 (Nat.le_of_ble_eq_true rfl) rfl ?_
    refine g_sub (lv' := [(0, .ref o0), (1, .ref o1), (2, .int x2), (3, .int x3), (4, .int (0 : Int32))]) [1, 2, 3, 4, 0] rfl ?_
    obtain ⟨n_32, h⟩ := h
    exact kX0_extend_L70 hC hR0 hR hQ0 hB  n_32 _ _ _ _ _ h
  · have h := h.2 c_31
    exact hR _ _ (u0, u1) dX0_extend_66 h
def qX0_extend_b33  (Q0 : Int32 → Int32 → Int32 → St → St → (St → St → Prop) → Prop) (post : St → St → Prop)  (x2 : Int32) (x3 : Int32) (u0 : St) (u1 : St) : Prop := ((x2 ≤ (gi u0 1) → qX0_extend_b60 Q0 post x2 x3 u0 u1) ∧ (¬ x2 ≤ (gi u0 1) → ∀ u_34 : St, u_34 = (si u0 1 x2) → (cpOk (0 : Int32) (0 : Int32) x2 7 7 ∧ ∀ u_35 : St, u_35 = (sw u_34 0 (va_cpy (ga u_34 2) (ga u_34 0) ((0 : Int32)).toNatClampNeg ((0 : Int32)).toNatClampNeg (x2).toNatClampNeg)) → qX0_extend_b60 Q0 post x2 x3 u_35 u1)))
set_option maxRecDepth 100000 in
set_option maxHeartbeats 4000000 in
theorem kX0_extend_b33 {C : Cx} {hr : Nat} {o0 : Nat} {a0 : Nat → Nat} {o1 : Nat} {a1 : Nat → Nat} (hC : Fx C cX0_extend 5 RX0) (hR0 : xR C = rm (hr + 1)) {post : St → St → Prop} (hR : RV C cX0_extend 5 (fun u : St × St => (wX0 o0 a0 (xy C) u.1 (wX2 o1 a1 (xy C) u.2 []))) (fun u => post u.1 u.2)) {Q0 : Int32 → Int32 → Int32 → St → St → (St → St → Prop) → Prop} (hQ0 : ∀ (x2 : Int32) (x3 : Int32) (x4 : Int32) (u0 : St) (u1 : St) (post : St → St → Prop), Q0 x2 x3 x4 u0 u1 post → CtV (xl C) (xD C) (xy C) (xk C) yX0_extendBy cX0_extendBy 9 hr  [.ref o0, .ref o1, .int x2, .int x3, .int x4] (fun u : St × St => (wX0 o0 a0 (xy C) u.1 (wX2 o1 a1 (xy C) u.2 []))) (u0, u1) (fun u => post u.1 u.2)) (hB : 4 ≤ hr)  {x2 : Int32} {x3 : Int32} {u0 : St} {u1 : St} (h : qX0_extend_b33 Q0 post x2 x3 u0 u1) : G C 0 0 5 (wX0 o0 a0 (xy C) u0 (wX2 o1 a1 (xy C) u1 [])) 33 [(0, .ref o0), (1, .ref o1), (2, .int x2), (3, .int x3)] [] := by
  refine g_iload_n (pc := 33) hC 2 dX0_extend_33 rfl rfl ?_
  refine g_aload_n (pc := 34) hC 0 dX0_extend_34 rfl rfl ?_
  refine getX0_1 (pc := 35) hC (F := fun Z => Z) (X := []) (fun _ => rfl) fl_X0_29 dX0_extend_35 ?_
  refine g_icmp_le (pc := 38) (tgt := 60) hC dX0_extend_38 (by decide) (fun c_33 => ?_) (fun c_33 => ?_)
  · have h := h.1 c_33
    exact kX0_extend_b60 hC hR0 hR hQ0 hB  h
  · have h := h.2 c_33
    refine g_aload_n (pc := 41) hC 0 dX0_extend_41 rfl rfl ?_
    refine g_iload_n (pc := 42) hC 2 dX0_extend_42 rfl rfl ?_
    refine putX0_1 (pc := 43) hC (F := fun Z => Z) (X := []) (fun _ => rfl) fl_X0_29 dX0_extend_43 ?_
    refine g_st (w := fun z => (wX0 o0 a0 (xy C) z (wX2 o1 a1 (xy C) u1 []))) (u := (si u0 1 x2)) (fun u_34 eu_34 => ?_)
    have h := h u_34 eu_34
    refine g_aload_n (pc := 46) hC 0 dX0_extend_46 rfl rfl ?_
    refine getX0_2 (pc := 47) hC (F := fun Z => Z) (X := []) (fun _ => rfl) fl_X0_15 dX0_extend_47 ?_
    refine g_iconst (pc := 50) (v := 0) hC dX0_extend_50 (by decide) ?_
    refine g_aload_n (pc := 51) hC 0 dX0_extend_51 rfl rfl ?_
    refine getX0_0 (pc := 52) hC (F := fun Z => Z) (X := []) (fun _ => rfl) fl_X0_9 dX0_extend_52 ?_
    refine g_iconst (pc := 55) (v := 0) hC dX0_extend_55 (by decide) ?_
    refine g_iload_n (pc := 56) hC 2 dX0_extend_56 rfl rfl ?_
    refine g_copyi (pc := 57) (σ' := (wX0 o0 a0 (xy C) (sw u_34 0 (va_cpy (ga u_34 2) (ga u_34 0) ((0 : Int32)).toNatClampNeg ((0 : Int32)).toNatClampNeg (x2).toNatClampNeg)) (wX2 o1 a1 (xy C) u1 []))) hC hR0 ml_X0_51 2 1 rfl rfl rfl h.1 dX0_extend_57 (Nat.le_of_ble_eq_true rfl) ?_
    have h := h.2
    refine g_st (w := fun z => (wX0 o0 a0 (xy C) z (wX2 o1 a1 (xy C) u1 []))) (u := (sw u_34 0 (va_cpy (ga u_34 2) (ga u_34 0) ((0 : Int32)).toNatClampNeg ((0 : Int32)).toNatClampNeg (x2).toNatClampNeg))) (fun u_35 eu_35 => ?_)
    have h := h u_35 eu_35
    exact kX0_extend_b60 hC hR0 hR hQ0 hB  h
def qX0_extend_body (Q0 : Int32 → Int32 → Int32 → St → St → (St → St → Prop) → Prop) (x2 : Int32) (x3 : Int32) (u0 : St) (u1 : St) (post : St → St → Prop) : Prop := (vp_in x3 128 ∧ (((ga u0 4 (x3).toNatClampNeg) = 0 → (vp_in x3 128 ∧ ∀ u_37 : St, u_37 = (sw u0 4 (upd (ga u0 4) (x3).toNatClampNeg (vp_nar .boolean (1 : Int32)))) → (((gi u_37 5) = 0 → qX0_extend_b33 Q0 post x2 x3 u_37 u1) ∧ (¬ (gi u_37 5) = 0 → qX2_fallingWithout x3 u1 (fun r_40 u_39 => ((r_40 = 0 → qX0_extend_b33 Q0 post x2 x3 u_37 u_39) ∧ (¬ r_40 = 0 → post u_37 u_39))))))) ∧ (¬ (ga u0 4 (x3).toNatClampNeg) = 0 → post u0 u1)))
set_option maxRecDepth 100000 in
set_option maxHeartbeats 4000000 in
theorem kX0_extend {C : Cx} {hr : Nat} {o0 : Nat} {a0 : Nat → Nat} {o1 : Nat} {a1 : Nat → Nat} (hC : Fx C cX0_extend 5 RX0) (hR0 : xR C = rm (hr + 1)) {post : St → St → Prop} (hR : RV C cX0_extend 5 (fun u : St × St => (wX0 o0 a0 (xy C) u.1 (wX2 o1 a1 (xy C) u.2 []))) (fun u => post u.1 u.2)) {Q0 : Int32 → Int32 → Int32 → St → St → (St → St → Prop) → Prop} (hQ0 : ∀ (x2 : Int32) (x3 : Int32) (x4 : Int32) (u0 : St) (u1 : St) (post : St → St → Prop), Q0 x2 x3 x4 u0 u1 post → CtV (xl C) (xD C) (xy C) (xk C) yX0_extendBy cX0_extendBy 9 hr  [.ref o0, .ref o1, .int x2, .int x3, .int x4] (fun u : St × St => (wX0 o0 a0 (xy C) u.1 (wX2 o1 a1 (xy C) u.2 []))) (u0, u1) (fun u => post u.1 u.2)) (hB : 4 ≤ hr) {x2 : Int32} {x3 : Int32} {u0 : St} {u1 : St} (h : qX0_extend_body Q0 x2 x3 u0 u1 post) : G C 0 0 5 (wX0 o0 a0 (xy C) u0 (wX2 o1 a1 (xy C) u1 [])) 0 [(0, .ref o0), (1, .ref o1), (2, .int x2), (3, .int x3)] [] := by
  refine g_aload_n (pc := 0) hC 0 dX0_extend_0 rfl rfl ?_
  refine getX0_4 (pc := 1) hC (F := fun Z => Z) (X := []) (fun _ => rfl) fl_X0_21 dX0_extend_1 ?_
  refine g_iload_n (pc := 4) hC 3 dX0_extend_4 rfl rfl ?_
  refine aldX0_4 (pc := 5) hC (F := fun Z => Z) (X := []) (fun _ => rfl) h.1 dX0_extend_5 ?_
  have h := h.2
  refine g_if_eq (pc := 6) (tgt := 10) hC dX0_extend_6 (by decide) (fun c_36 => ?_) (fun c_36 => ?_)
  · have h := h.1 c_36
    refine g_aload_n (pc := 10) hC 0 dX0_extend_10 rfl rfl ?_
    refine getX0_4 (pc := 11) hC (F := fun Z => Z) (X := []) (fun _ => rfl) fl_X0_21 dX0_extend_11 ?_
    refine g_iload_n (pc := 14) hC 3 dX0_extend_14 rfl rfl ?_
    refine g_iconst (pc := 15) (v := 1) hC dX0_extend_15 (by decide) ?_
    refine astX0_4 (pc := 16) hC (F := fun Z => Z) (X := []) (fun _ => rfl) h.1 dX0_extend_16 ?_
    have h := h.2
    refine g_st (w := fun z => (wX0 o0 a0 (xy C) z (wX2 o1 a1 (xy C) u1 []))) (u := (sw u0 4 (upd (ga u0 4) (x3).toNatClampNeg (vp_nar .boolean (1 : Int32))))) (fun u_37 eu_37 => ?_)
    have h := h u_37 eu_37
    refine g_aload_n (pc := 17) hC 0 dX0_extend_17 rfl rfl ?_
    refine getX0_5 (pc := 18) hC (F := fun Z => Z) (X := []) (fun _ => rfl) fl_X0_25 dX0_extend_18 ?_
    refine g_if_eq (pc := 21) (tgt := 33) hC dX0_extend_21 (by decide) (fun c_38 => ?_) (fun c_38 => ?_)
    · have h := h.1 c_38
      exact kX0_extend_b33 hC hR0 hR hQ0 hB  h
    · have h := h.2 c_38
      refine g_aload_n (pc := 24) hC 1 dX0_extend_24 rfl rfl ?_
      refine g_iload_n (pc := 25) hC 3 dX0_extend_25 rfl rfl ?_
      refine g_callV_i (pc := 26) (wd := fun (u : St) Y => (wX2 o1 a1 (xy C) u Y)) (F := fun Z => (wX0 o0 a0 (xy C) u_37 Z)) (X := (wX0 o0 a0 (xy C) u_37 [])) (As := [.int x3]) (rest := []) (u := u1) hC (fun _ _ => rfl) (fun _ => rfl) (ctX2_fallingWithout h) wvX2_fallingWithout ml_X0_61 (ci := 1) (q0 := 0) rfl rfl rfl rfl (rmokO hR0 (by omega) (Nat.le_of_ble_eq_true rfl)) ⟨Nat.zero_le _, Nat.zero_le _⟩ rfl (Nat.le_of_ble_eq_true rfl) dX0_extend_26 (fun r_40 u_39 h => ?_)
      refine g_if_eq (pc := 29) (tgt := 33) hC dX0_extend_29 (by decide) (fun c_42 => ?_) (fun c_42 => ?_)
      · have h := h.1 c_42
        exact kX0_extend_b33 hC hR0 hR hQ0 hB  h
      · have h := h.2 c_42
        exact hR _ _ (u_37, u_39) dX0_extend_32 h
  · have h := h.2 c_36
    exact hR _ _ (u0, u1) dX0_extend_9 h
theorem dX0_extendBy_0 : decode cX0_extendBy 0 = .ok (.aload_n 1, 1) := by decide +kernel
theorem dX0_extendBy_1 : decode cX0_extendBy 1 = .ok (.getfield 68, 3) := by decide +kernel
theorem dX0_extendBy_4 : decode cX0_extendBy 4 = .ok (.iload_n 2, 1) := by decide +kernel
theorem dX0_extendBy_5 : decode cX0_extendBy 5 = .ok (.iaload, 1) := by decide +kernel
theorem dX0_extendBy_6 : decode cX0_extendBy 6 = .ok (.istore 5, 2) := by decide +kernel
theorem dX0_extendBy_8 : decode cX0_extendBy 8 = .ok (.aload_n 1, 1) := by decide +kernel
theorem dX0_extendBy_9 : decode cX0_extendBy 9 = .ok (.getfield 78, 3) := by decide +kernel
theorem dX0_extendBy_12 : decode cX0_extendBy 12 = .ok (.iload_n 2, 1) := by decide +kernel
theorem dX0_extendBy_13 : decode cX0_extendBy 13 = .ok (.iaload, 1) := by decide +kernel
theorem dX0_extendBy_14 : decode cX0_extendBy 14 = .ok (.istore 6, 2) := by decide +kernel
theorem dX0_extendBy_16 : decode cX0_extendBy 16 = .ok (.aload_n 0, 1) := by decide +kernel
theorem dX0_extendBy_17 : decode cX0_extendBy 17 = .ok (.getfield 18, 3) := by decide +kernel
theorem dX0_extendBy_20 : decode cX0_extendBy 20 = .ok (.iload 6, 2) := by decide +kernel
theorem dX0_extendBy_22 : decode cX0_extendBy 22 = .ok (.iaload, 1) := by decide +kernel
theorem dX0_extendBy_23 : decode cX0_extendBy 23 = .ok (.istore 7, 2) := by decide +kernel
theorem dX0_extendBy_25 : decode cX0_extendBy 25 = .ok (.aload_n 1, 1) := by decide +kernel
theorem dX0_extendBy_26 : decode cX0_extendBy 26 = .ok (.iload_n 2, 1) := by decide +kernel
theorem dX0_extendBy_27 : decode cX0_extendBy 27 = .ok (.invokevirtual 71, 3) := by decide +kernel
theorem dX0_extendBy_30 : decode cX0_extendBy 30 = .ok (.istore 8, 2) := by decide +kernel
theorem dX0_extendBy_32 : decode cX0_extendBy 32 = .ok (.aload_n 0, 1) := by decide +kernel
theorem dX0_extendBy_33 : decode cX0_extendBy 33 = .ok (.getfield 18, 3) := by decide +kernel
theorem dX0_extendBy_36 : decode cX0_extendBy 36 = .ok (.iload 5, 2) := by decide +kernel
theorem dX0_extendBy_38 : decode cX0_extendBy 38 = .ok (.dup2, 1) := by decide +kernel
theorem dX0_extendBy_39 : decode cX0_extendBy 39 = .ok (.iaload, 1) := by decide +kernel
theorem dX0_extendBy_40 : decode cX0_extendBy 40 = .ok (.iload 8, 2) := by decide +kernel
theorem dX0_extendBy_42 : decode cX0_extendBy 42 = .ok (.isub, 1) := by decide +kernel
theorem dX0_extendBy_43 : decode cX0_extendBy 43 = .ok (.iastore, 1) := by decide +kernel
theorem dX0_extendBy_44 : decode cX0_extendBy 44 = .ok (.aload_n 0, 1) := by decide +kernel
theorem dX0_extendBy_45 : decode cX0_extendBy 45 = .ok (.getfield 18, 3) := by decide +kernel
theorem dX0_extendBy_48 : decode cX0_extendBy 48 = .ok (.iload 6, 2) := by decide +kernel
theorem dX0_extendBy_50 : decode cX0_extendBy 50 = .ok (.sipush 9999, 3) := by decide +kernel
theorem dX0_extendBy_53 : decode cX0_extendBy 53 = .ok (.iload 7, 2) := by decide +kernel
theorem dX0_extendBy_55 : decode cX0_extendBy 55 = .ok (.iload 8, 2) := by decide +kernel
theorem dX0_extendBy_57 : decode cX0_extendBy 57 = .ok (.iadd, 1) := by decide +kernel
theorem dX0_extendBy_58 : decode cX0_extendBy 58 = .ok (.invokestatic 81, 3) := by decide +kernel
theorem dX0_extendBy_61 : decode cX0_extendBy 61 = .ok (.iastore, 1) := by decide +kernel
theorem dX0_extendBy_62 : decode cX0_extendBy 62 = .ok (.aload_n 0, 1) := by decide +kernel
theorem dX0_extendBy_63 : decode cX0_extendBy 63 = .ok (.aload_n 1, 1) := by decide +kernel
theorem dX0_extendBy_64 : decode cX0_extendBy 64 = .ok (.iload_n 3, 1) := by decide +kernel
theorem dX0_extendBy_65 : decode cX0_extendBy 65 = .ok (.iconst 1, 1) := by decide +kernel
theorem dX0_extendBy_66 : decode cX0_extendBy 66 = .ok (.iadd, 1) := by decide +kernel
theorem dX0_extendBy_67 : decode cX0_extendBy 67 = .ok (.iload 4, 2) := by decide +kernel
theorem dX0_extendBy_69 : decode cX0_extendBy 69 = .ok (.iconst 1, 1) := by decide +kernel
theorem dX0_extendBy_70 : decode cX0_extendBy 70 = .ok (.iload_n 2, 1) := by decide +kernel
theorem dX0_extendBy_71 : decode cX0_extendBy 71 = .ok (.ishl, 1) := by decide +kernel
theorem dX0_extendBy_72 : decode cX0_extendBy 72 = .ok (.ior, 1) := by decide +kernel
theorem dX0_extendBy_73 : decode cX0_extendBy 73 = .ok (.invokevirtual 57, 3) := by decide +kernel
theorem dX0_extendBy_76 : decode cX0_extendBy 76 = .ok (.aload_n 0, 1) := by decide +kernel
theorem dX0_extendBy_77 : decode cX0_extendBy 77 = .ok (.getfield 18, 3) := by decide +kernel
theorem dX0_extendBy_80 : decode cX0_extendBy 80 = .ok (.iload 6, 2) := by decide +kernel
theorem dX0_extendBy_82 : decode cX0_extendBy 82 = .ok (.iload 7, 2) := by decide +kernel
theorem dX0_extendBy_84 : decode cX0_extendBy 84 = .ok (.iastore, 1) := by decide +kernel
theorem dX0_extendBy_85 : decode cX0_extendBy 85 = .ok (.aload_n 0, 1) := by decide +kernel
theorem dX0_extendBy_86 : decode cX0_extendBy 86 = .ok (.getfield 18, 3) := by decide +kernel
theorem dX0_extendBy_89 : decode cX0_extendBy 89 = .ok (.iload 5, 2) := by decide +kernel
theorem dX0_extendBy_91 : decode cX0_extendBy 91 = .ok (.dup2, 1) := by decide +kernel
theorem dX0_extendBy_92 : decode cX0_extendBy 92 = .ok (.iaload, 1) := by decide +kernel
theorem dX0_extendBy_93 : decode cX0_extendBy 93 = .ok (.iload 8, 2) := by decide +kernel
theorem dX0_extendBy_95 : decode cX0_extendBy 95 = .ok (.iadd, 1) := by decide +kernel
theorem dX0_extendBy_96 : decode cX0_extendBy 96 = .ok (.iastore, 1) := by decide +kernel
theorem dX0_extendBy_97 : decode cX0_extendBy 97 = .ok (.return_, 1) := by decide +kernel
def qX0_extendBy_body (Q0 : Int32 → Int32 → St → St → (St → St → Prop) → Prop) (x2 : Int32) (x3 : Int32) (x4 : Int32) (u0 : St) (u1 : St) (post : St → St → Prop) : Prop := (vp_in x2 7 ∧ ∀ x5_53 : Int32, x5_53 = (ga u1 14 (x2).toNatClampNeg) → (vp_in x2 7 ∧ ∀ x6_54 : Int32, x6_54 = (ga u1 15 (x2).toNatClampNeg) → (vp_in x6_54 5 ∧ ∀ x7_55 : Int32, x7_55 = (ga u0 3 (x6_54).toNatClampNeg) → qX2_owed x2 u1 (fun r_57 u_56 => (vp_in x5_53 5 ∧ (vp_in x5_53 5 ∧ ∀ u_59 : St, u_59 = (sw u0 3 (upd (ga u0 3) (x5_53).toNatClampNeg ((ga u0 3 (x5_53).toNatClampNeg) - r_57))) → (vp_in x6_54 5 ∧ ∀ u_60 : St, u_60 = (sw u_59 3 (upd (ga u_59 3) (x6_54).toNatClampNeg (if (x7_55 + r_57) < (9999 : Int32) then (x7_55 + r_57) else (9999 : Int32)))) → Q0 (x3 + (1 : Int32)) (x4 ||| ((1 : Int32) <<< (x2 &&& 31))) u_60 u_56 (fun u_61 u_62 => (vp_in x6_54 5 ∧ ∀ u_64 : St, u_64 = (sw u_61 3 (upd (ga u_61 3) (x6_54).toNatClampNeg x7_55)) → (vp_in x5_53 5 ∧ (vp_in x5_53 5 ∧ ∀ u_65 : St, u_65 = (sw u_64 3 (upd (ga u_64 3) (x5_53).toNatClampNeg ((ga u_64 3 (x5_53).toNatClampNeg) + r_57))) → post u_65 u_62)))))))))))
set_option maxRecDepth 100000 in
set_option maxHeartbeats 4000000 in
theorem kX0_extendBy {C : Cx} {hr : Nat} {o0 : Nat} {a0 : Nat → Nat} {o1 : Nat} {a1 : Nat → Nat} (hC : Fx C cX0_extendBy 9 RX0) (hR0 : xR C = rm (hr + 1)) {post : St → St → Prop} (hR : RV C cX0_extendBy 9 (fun u : St × St => (wX0 o0 a0 (xy C) u.1 (wX2 o1 a1 (xy C) u.2 []))) (fun u => post u.1 u.2)) {Q0 : Int32 → Int32 → St → St → (St → St → Prop) → Prop} (hQ0 : ∀ (x2 : Int32) (x3 : Int32) (u0 : St) (u1 : St) (post : St → St → Prop), Q0 x2 x3 u0 u1 post → CtV (xl C) (xD C) (xy C) (xk C) yX0_extend cX0_extend 5 hr  [.ref o0, .ref o1, .int x2, .int x3] (fun u : St × St => (wX0 o0 a0 (xy C) u.1 (wX2 o1 a1 (xy C) u.2 []))) (u0, u1) (fun u => post u.1 u.2)) (hB : 4 ≤ hr) {x2 : Int32} {x3 : Int32} {x4 : Int32} {u0 : St} {u1 : St} (h : qX0_extendBy_body Q0 x2 x3 x4 u0 u1 post) : G C 0 0 9 (wX0 o0 a0 (xy C) u0 (wX2 o1 a1 (xy C) u1 [])) 0 [(0, .ref o0), (1, .ref o1), (2, .int x2), (3, .int x3), (4, .int x4)] [] := by
  refine g_aload_n (pc := 0) hC 1 dX0_extendBy_0 rfl rfl ?_
  refine getX2_14 (pc := 1) hC (F := fun Z => (wX0 o0 a0 (xy C) u0 Z)) (X := (wX0 o0 a0 (xy C) u0 [])) (fun _ => rfl) fl_X0_68 dX0_extendBy_1 ?_
  refine g_iload_n (pc := 4) hC 2 dX0_extendBy_4 rfl rfl ?_
  refine aldX2_14 (pc := 5) hC (F := fun Z => (wX0 o0 a0 (xy C) u0 Z)) (X := (wX0 o0 a0 (xy C) u0 [])) (fun _ => rfl) h.1 dX0_extendBy_5 ?_
  have h := h.2
  refine g_topi (fun x5_53 ex5_53 => ?_)
  have h := h x5_53 ex5_53
  refine g_istore (pc := 6) (lv' := [(5, .int x5_53), (0, .ref o0), (1, .ref o1), (2, .int x2), (3, .int x3), (4, .int x4)]) hC dX0_extendBy_6 (Nat.le_of_ble_eq_true rfl) rfl ?_
  refine g_aload_n (pc := 8) hC 2 dX0_extendBy_8 rfl rfl ?_
  refine getX2_15 (pc := 9) hC (F := fun Z => (wX0 o0 a0 (xy C) u0 Z)) (X := (wX0 o0 a0 (xy C) u0 [])) (fun _ => rfl) fl_X0_78 dX0_extendBy_9 ?_
  refine g_iload_n (pc := 12) hC 3 dX0_extendBy_12 rfl rfl ?_
  refine aldX2_15 (pc := 13) hC (F := fun Z => (wX0 o0 a0 (xy C) u0 Z)) (X := (wX0 o0 a0 (xy C) u0 [])) (fun _ => rfl) h.1 dX0_extendBy_13 ?_
  have h := h.2
  refine g_topi (fun x6_54 ex6_54 => ?_)
  have h := h x6_54 ex6_54
  refine g_istore (pc := 14) (lv' := [(6, .int x6_54), (5, .int x5_53), (0, .ref o0), (1, .ref o1), (2, .int x2), (3, .int x3), (4, .int x4)]) hC dX0_extendBy_14 (Nat.le_of_ble_eq_true rfl) rfl ?_
  refine g_aload_n (pc := 16) hC 2 dX0_extendBy_16 rfl rfl ?_
  refine getX0_3 (pc := 17) hC (F := fun Z => Z) (X := []) (fun _ => rfl) fl_X0_18 dX0_extendBy_17 ?_
  refine g_iload (pc := 20) hC 0 dX0_extendBy_20 rfl ?_
  refine aldX0_3 (pc := 22) hC (F := fun Z => Z) (X := []) (fun _ => rfl) h.1 dX0_extendBy_22 ?_
  have h := h.2
  refine g_topi (fun x7_55 ex7_55 => ?_)
  have h := h x7_55 ex7_55
  refine g_istore (pc := 23) (lv' := [(7, .int x7_55), (6, .int x6_54), (5, .int x5_53), (0, .ref o0), (1, .ref o1), (2, .int x2), (3, .int x3), (4, .int x4)]) hC dX0_extendBy_23 (Nat.le_of_ble_eq_true rfl) rfl ?_
  refine g_aload_n (pc := 25) hC 4 dX0_extendBy_25 rfl rfl ?_
  refine g_iload_n (pc := 26) hC 5 dX0_extendBy_26 rfl rfl ?_
  refine g_callV_i (pc := 27) (wd := fun (u : St) Y => (wX2 o1 a1 (xy C) u Y)) (F := fun Z => (wX0 o0 a0 (xy C) u0 Z)) (X := (wX0 o0 a0 (xy C) u0 [])) (As := [.int x2]) (rest := []) (u := u1) hC (fun _ _ => rfl) (fun _ => rfl) (ctX2_owed h) wvX2_owed ml_X0_71 (ci := 1) (q0 := 0) rfl rfl rfl rfl (rmokO hR0 (by omega) (Nat.le_of_ble_eq_true rfl)) ⟨Nat.zero_le _, Nat.zero_le _⟩ rfl (Nat.le_of_ble_eq_true rfl) dX0_extendBy_27 (fun r_57 u_56 h => ?_)
  refine g_istore (pc := 30) (lv' := [(8, .int r_57), (7, .int x7_55), (6, .int x6_54), (5, .int x5_53), (0, .ref o0), (1, .ref o1), (2, .int x2), (3, .int x3), (4, .int x4)]) hC dX0_extendBy_30 (Nat.le_of_ble_eq_true rfl) rfl ?_
  refine g_aload_n (pc := 32) hC 4 dX0_extendBy_32 rfl rfl ?_
  refine getX0_3 (pc := 33) hC (F := fun Z => Z) (X := []) (fun _ => rfl) fl_X0_18 dX0_extendBy_33 ?_
  refine g_iload (pc := 36) hC 3 dX0_extendBy_36 rfl ?_
  refine g_dup2 (pc := 38) hC dX0_extendBy_38 rfl rfl ?_
  refine aldX0_3 (pc := 39) hC (F := fun Z => Z) (X := []) (fun _ => rfl) h.1 dX0_extendBy_39 ?_
  have h := h.2
  refine g_iload (pc := 40) hC 0 dX0_extendBy_40 rfl ?_
  refine g_isub (pc := 42) hC dX0_extendBy_42 ?_
  refine astX0_3 (pc := 43) hC (F := fun Z => Z) (X := []) (fun _ => rfl) h.1 dX0_extendBy_43 ?_
  have h := h.2
  refine g_st (w := fun z => (wX0 o0 a0 (xy C) z (wX2 o1 a1 (xy C) u_56 []))) (u := (sw u0 3 (upd (ga u0 3) (x5_53).toNatClampNeg ((ga u0 3 (x5_53).toNatClampNeg) - r_57)))) (fun u_59 eu_59 => ?_)
  have h := h u_59 eu_59
  refine g_aload_n (pc := 44) hC 4 dX0_extendBy_44 rfl rfl ?_
  refine getX0_3 (pc := 45) hC (F := fun Z => Z) (X := []) (fun _ => rfl) fl_X0_18 dX0_extendBy_45 ?_
  refine g_iload (pc := 48) hC 2 dX0_extendBy_48 rfl ?_
  refine g_sipush (pc := 50) (v := 9999) hC dX0_extendBy_50 (by decide) ?_
  refine g_iload (pc := 53) hC 1 dX0_extendBy_53 rfl ?_
  refine g_iload (pc := 55) hC 0 dX0_extendBy_55 rfl ?_
  refine g_iadd (pc := 57) hC dX0_extendBy_57 ?_
  refine g_mmin (pc := 58) hC hR0 ml_X0_81 dX0_extendBy_58 (Nat.le_of_ble_eq_true rfl) ?_
  refine astX0_3 (pc := 61) hC (F := fun Z => Z) (X := []) (fun _ => rfl) h.1 dX0_extendBy_61 ?_
  have h := h.2
  refine g_st (w := fun z => (wX0 o0 a0 (xy C) z (wX2 o1 a1 (xy C) u_56 []))) (u := (sw u_59 3 (upd (ga u_59 3) (x6_54).toNatClampNeg (if (x7_55 + r_57) < (9999 : Int32) then (x7_55 + r_57) else (9999 : Int32))))) (fun u_60 eu_60 => ?_)
  have h := h u_60 eu_60
  refine g_aload_n (pc := 62) hC 4 dX0_extendBy_62 rfl rfl ?_
  refine g_aload_n (pc := 63) hC 5 dX0_extendBy_63 rfl rfl ?_
  refine g_iload_n (pc := 64) hC 7 dX0_extendBy_64 rfl rfl ?_
  refine g_iconst (pc := 65) (v := 1) hC dX0_extendBy_65 (by decide) ?_
  refine g_iadd (pc := 66) hC dX0_extendBy_66 ?_
  refine g_iload (pc := 67) hC 8 dX0_extendBy_67 rfl ?_
  refine g_iconst (pc := 69) (v := 1) hC dX0_extendBy_69 (by decide) ?_
  refine g_iload_n (pc := 70) hC 6 dX0_extendBy_70 rfl rfl ?_
  refine g_ishl (pc := 71) hC dX0_extendBy_71 ?_
  refine g_ior (pc := 72) hC dX0_extendBy_72 ?_
  refine g_callV_v (pc := 73) (wd := fun (u : St × St) Y => (wX0 o0 a0 (xy C) u.1 (wX2 o1 a1 (xy C) u.2 Y))) (F := fun Z => Z) (X := []) (As := [.ref o1, .int (x3 + (1 : Int32)), .int (x4 ||| ((1 : Int32) <<< (x2 &&& 31)))]) (rest := []) (u := (u_60, u_56)) hC (fun _ _ => rfl) (fun _ => rfl) (hQ0 _ _ _ _ _ h) wvX0_extend ml_X0_57 (ci := 0) (q0 := 0) rfl rfl rfl rfl (rmokO hR0 (by omega) (Nat.le_of_ble_eq_true rfl)) ⟨Nat.zero_le _, Nat.zero_le _⟩ rfl (Nat.le_of_ble_eq_true rfl) dX0_extendBy_73 (fun u_63 h => ?_)
  obtain ⟨u_61, u_62⟩ := u_63
  refine g_aload_n (pc := 76) hC 4 dX0_extendBy_76 rfl rfl ?_
  refine getX0_3 (pc := 77) hC (F := fun Z => Z) (X := []) (fun _ => rfl) fl_X0_18 dX0_extendBy_77 ?_
  refine g_iload (pc := 80) hC 2 dX0_extendBy_80 rfl ?_
  refine g_iload (pc := 82) hC 1 dX0_extendBy_82 rfl ?_
  refine astX0_3 (pc := 84) hC (F := fun Z => Z) (X := []) (fun _ => rfl) h.1 dX0_extendBy_84 ?_
  have h := h.2
  refine g_st (w := fun z => (wX0 o0 a0 (xy C) z (wX2 o1 a1 (xy C) u_62 []))) (u := (sw u_61 3 (upd (ga u_61 3) (x6_54).toNatClampNeg x7_55))) (fun u_64 eu_64 => ?_)
  have h := h u_64 eu_64
  refine g_aload_n (pc := 85) hC 4 dX0_extendBy_85 rfl rfl ?_
  refine getX0_3 (pc := 86) hC (F := fun Z => Z) (X := []) (fun _ => rfl) fl_X0_18 dX0_extendBy_86 ?_
  refine g_iload (pc := 89) hC 3 dX0_extendBy_89 rfl ?_
  refine g_dup2 (pc := 91) hC dX0_extendBy_91 rfl rfl ?_
  refine aldX0_3 (pc := 92) hC (F := fun Z => Z) (X := []) (fun _ => rfl) h.1 dX0_extendBy_92 ?_
  have h := h.2
  refine g_iload (pc := 93) hC 0 dX0_extendBy_93 rfl ?_
  refine g_iadd (pc := 95) hC dX0_extendBy_95 ?_
  refine astX0_3 (pc := 96) hC (F := fun Z => Z) (X := []) (fun _ => rfl) h.1 dX0_extendBy_96 ?_
  have h := h.2
  refine g_st (w := fun z => (wX0 o0 a0 (xy C) z (wX2 o1 a1 (xy C) u_62 []))) (u := (sw u_64 3 (upd (ga u_64 3) (x5_53).toNatClampNeg ((ga u_64 3 (x5_53).toNatClampNeg) + r_57)))) (fun u_65 eu_65 => ?_)
  have h := h u_65 eu_65
  exact hR _ _ (u_65, u_62) dX0_extendBy_97 h
def qX0_extend : Nat → Int32 → Int32 → St → St → (St → St → Prop) → Prop
  | 0 => fun _ _ _ _ _ => False
  | n + 1 => qX0_extend_body (qX0_extendBy_body (qX0_extend n))
theorem ctX0_extendByS {l : Launch} {D : va_G} {cy : Nat → ClassId} {kd : Nat → Nat} {o0 : Nat} {a0 : Nat → Nat} {o1 : Nat} {a1 : Nat → Nat} {Q : Int32 → Int32 → St → St → (St → St → Prop) → Prop} {hr : Nat} (hB : 4 ≤ hr) (hQ : ∀ (x2 x3 : Int32) (u0 u1 : St) (post : St → St → Prop), Q x2 x3 u0 u1 post → CtV l D cy kd yX0_extend cX0_extend 5 hr [.ref o0, .ref o1, .int x2, .int x3] (fun u : St × St => wX0 o0 a0 cy u.1 (wX2 o1 a1 cy u.2 [])) (u0, u1) (fun u => post u.1 u.2)) {x2 x3 x4 : Int32} {u0 u1 : St} {post : St → St → Prop} (h : qX0_extendBy_body Q x2 x3 x4 u0 u1 post) : CtV l D cy kd yX0_extendBy cX0_extendBy 9 (hr + 1) [.ref o0, .ref o1, .int x2, .int x3, .int x4] (fun u : St × St => wX0 o0 a0 cy u.1 (wX2 o1 a1 cy u.2 [])) (u0, u1) (fun u => post u.1 u.2) :=
  met_v (by decide) (Nat.le_of_ble_eq_true rfl) (fun C e1 e2 e3 e4 e5 hC hR => by subst e1 e2 e3 e4; exact kX0_extendBy hC e5 hR hQ hB h)
theorem ctX0_extend {l : Launch} {D : va_G} {cy : Nat → ClassId} {kd : Nat → Nat} {o0 : Nat} {a0 : Nat → Nat} {o1 : Nat} {a1 : Nat → Nat} : ∀ (n : Nat) {x2 x3 : Int32} {u0 u1 : St} {post : St → St → Prop} (h : qX0_extend n x2 x3 u0 u1 post), CtV l D cy kd yX0_extend cX0_extend 5 (4 + 2 * n) [.ref o0, .ref o1, .int x2, .int x3] (fun u : St × St => wX0 o0 a0 cy u.1 (wX2 o1 a1 cy u.2 [])) (u0, u1) (fun u => post u.1 u.2) := by
  intro n
  induction n with
  | zero => intro x2 x3 u0 u1 post h; exact h.elim
  | succ n ih =>
    intro x2 x3 u0 u1 post h
    exact met_v (h := (4 + 2 * n + 1) + 1) (by decide) (Nat.le_of_ble_eq_true rfl) (fun C e1 e2 e3 e4 e5 hC hR => by subst e1 e2 e3 e4; exact kX0_extend hC e5 hR (fun _ _ _ _ _ _ h => ctX0_extendByS (Nat.le_add_right _ _) (fun _ _ _ _ _ h => ih h) h) (Nat.le_trans (Nat.le_add_right _ _) (Nat.le_succ _)) h)
theorem dX0_find_0 : decode cX0_find 0 = .ok (.aload_n 0, 1) := by decide +kernel
theorem dX0_find_1 : decode cX0_find 1 = .ok (.iload_n 2, 1) := by decide +kernel
theorem dX0_find_2 : decode cX0_find 2 = .ok (.putfield 25, 3) := by decide +kernel
theorem dX0_find_5 : decode cX0_find 5 = .ok (.aload_n 0, 1) := by decide +kernel
theorem dX0_find_6 : decode cX0_find 6 = .ok (.iconst 0, 1) := by decide +kernel
theorem dX0_find_7 : decode cX0_find 7 = .ok (.putfield 29, 3) := by decide +kernel
theorem dX0_find_10 : decode cX0_find 10 = .ok (.aload_n 0, 1) := by decide +kernel
theorem dX0_find_11 : decode cX0_find 11 = .ok (.aload_n 1, 1) := by decide +kernel
theorem dX0_find_12 : decode cX0_find 12 = .ok (.getfield 33, 3) := by decide +kernel
theorem dX0_find_15 : decode cX0_find 15 = .ok (.aload_n 1, 1) := by decide +kernel
theorem dX0_find_16 : decode cX0_find 16 = .ok (.getfield 38, 3) := by decide +kernel
theorem dX0_find_19 : decode cX0_find 19 = .ok (.invokestatic 41, 3) := by decide +kernel
theorem dX0_find_22 : decode cX0_find 22 = .ok (.isub, 1) := by decide +kernel
theorem dX0_find_23 : decode cX0_find 23 = .ok (.putfield 47, 3) := by decide +kernel
theorem dX0_find_26 : decode cX0_find 26 = .ok (.aload_n 1, 1) := by decide +kernel
theorem dX0_find_27 : decode cX0_find 27 = .ok (.getfield 50, 3) := by decide +kernel
theorem dX0_find_30 : decode cX0_find 30 = .ok (.iconst 0, 1) := by decide +kernel
theorem dX0_find_31 : decode cX0_find 31 = .ok (.aload_n 0, 1) := by decide +kernel
theorem dX0_find_32 : decode cX0_find 32 = .ok (.getfield 18, 3) := by decide +kernel
theorem dX0_find_35 : decode cX0_find 35 = .ok (.iconst 0, 1) := by decide +kernel
theorem dX0_find_36 : decode cX0_find 36 = .ok (.iconst 5, 1) := by decide +kernel
theorem dX0_find_37 : decode cX0_find 37 = .ok (.invokestatic 51, 3) := by decide +kernel
theorem dX0_find_40 : decode cX0_find 40 = .ok (.iconst 0, 1) := by decide +kernel
theorem dX0_find_41 : decode cX0_find 41 = .ok (.istore_n 3, 1) := by decide +kernel
theorem dX0_find_42 : decode cX0_find 42 = .ok (.iload_n 3, 1) := by decide +kernel
theorem dX0_find_43 : decode cX0_find 43 = .ok (.sipush 128, 3) := by decide +kernel
theorem dX0_find_46 : decode cX0_find 46 = .ok (.if_icmp .ge 16, 3) := by decide +kernel
theorem dX0_find_49 : decode cX0_find 49 = .ok (.aload_n 0, 1) := by decide +kernel
theorem dX0_find_50 : decode cX0_find 50 = .ok (.getfield 21, 3) := by decide +kernel
theorem dX0_find_53 : decode cX0_find 53 = .ok (.iload_n 3, 1) := by decide +kernel
theorem dX0_find_54 : decode cX0_find 54 = .ok (.iconst 0, 1) := by decide +kernel
theorem dX0_find_55 : decode cX0_find 55 = .ok (.bastore, 1) := by decide +kernel
theorem dX0_find_56 : decode cX0_find 56 = .ok (.iinc 3 1, 3) := by decide +kernel
theorem dX0_find_59 : decode cX0_find 59 = .ok (.goto (-17), 3) := by decide +kernel
theorem dX0_find_62 : decode cX0_find 62 = .ok (.aload_n 0, 1) := by decide +kernel
theorem dX0_find_63 : decode cX0_find 63 = .ok (.aload_n 1, 1) := by decide +kernel
theorem dX0_find_64 : decode cX0_find 64 = .ok (.iconst 0, 1) := by decide +kernel
theorem dX0_find_65 : decode cX0_find 65 = .ok (.iconst 0, 1) := by decide +kernel
theorem dX0_find_66 : decode cX0_find 66 = .ok (.invokevirtual 57, 3) := by decide +kernel
theorem dX0_find_69 : decode cX0_find 69 = .ok (.return_, 1) := by decide +kernel
def qX0_find_b62   (post : St → St → Prop)  (u0 : St) (u1 : St) : Prop := qX0_extend 8 (0 : Int32) (0 : Int32) u0 u1 (fun u_77 u_78 => post u_77 u_78)
set_option maxRecDepth 100000 in
set_option maxHeartbeats 4000000 in
theorem kX0_find_b62 {C : Cx} {o0 : Nat} {a0 : Nat → Nat} {o1 : Nat} {a1 : Nat → Nat} (hC : Fx C cX0_find 4 RX0) (hR0 : xR C = rm 21) {post : St → St → Prop} (hR : RV C cX0_find 4 (fun u : St × St => (wX0 o0 a0 (xy C) u.1 (wX2 o1 a1 (xy C) u.2 []))) (fun u => post u.1 u.2))  {u0 : St} {u1 : St} (h : qX0_find_b62 post u0 u1) : G C 0 0 4 (wX0 o0 a0 (xy C) u0 (wX2 o1 a1 (xy C) u1 [])) 62 [(0, .ref o0), (1, .ref o1)] [] := by
  refine g_aload_n (pc := 62) hC 0 dX0_find_62 rfl rfl ?_
  refine g_aload_n (pc := 63) hC 1 dX0_find_63 rfl rfl ?_
  refine g_iconst (pc := 64) (v := 0) hC dX0_find_64 (by decide) ?_
  refine g_iconst (pc := 65) (v := 0) hC dX0_find_65 (by decide) ?_
  refine g_callV_v (pc := 66) (wd := fun (u : St × St) Y => (wX0 o0 a0 (xy C) u.1 (wX2 o1 a1 (xy C) u.2 Y))) (F := fun Z => Z) (X := []) (As := [.ref o1, .int (0 : Int32), .int (0 : Int32)]) (rest := []) (u := (u0, u1)) hC (fun _ _ => rfl) (fun _ => rfl) (ctX0_extend 8 h) wvX0_extend ml_X0_57 (ci := 0) (q0 := 0) rfl rfl rfl rfl (rmok hR0 rfl) ⟨Nat.zero_le _, Nat.zero_le _⟩ rfl (Nat.le_of_ble_eq_true rfl) dX0_find_66 (fun u_79 h => ?_)
  obtain ⟨u_77, u_78⟩ := u_79
  exact hR _ _ (u_77, u_78) dX0_find_69 h
def qX0_find_l42   (post : St → St → Prop) (K42 : Int32 → St → St → Prop) (x3 : Int32) (u0 : St) (u1 : St) : Prop := (((128 : Int32) ≤ x3 → qX0_find_b62 post u0 u1) ∧ (¬ (128 : Int32) ≤ x3 → (vp_in x3 128 ∧ ∀ u_81 : St, u_81 = (sw u0 4 (upd (ga u0 4) (x3).toNatClampNeg (vp_nar .boolean (0 : Int32)))) → ∀ x3_82 : Int32, x3_82 = x3 + (1 : Int32) → K42 x3_82 u_81 u1)))
set_option maxRecDepth 100000 in
set_option maxHeartbeats 4000000 in
theorem kX0_find_l42 {C : Cx} {o0 : Nat} {a0 : Nat → Nat} {o1 : Nat} {a1 : Nat → Nat} (hC : Fx C cX0_find 4 RX0) (hR0 : xR C = rm 21) {post : St → St → Prop} (hR : RV C cX0_find 4 (fun u : St × St => (wX0 o0 a0 (xy C) u.1 (wX2 o1 a1 (xy C) u.2 []))) (fun u => post u.1 u.2))  {K42 : Int32 → St → St → Prop} (hK42 : ∀ (x3 : Int32) (u0 : St) (u1 : St), K42 x3 u0 u1 → G C 0 0 4 (wX0 o0 a0 (xy C) u0 (wX2 o1 a1 (xy C) u1 [])) 42 [(0, .ref o0), (1, .ref o1), (3, .int x3)] []) {x3 : Int32} {u0 : St} {u1 : St} (h : qX0_find_l42 post K42 x3 u0 u1) : G C 0 0 4 (wX0 o0 a0 (xy C) u0 (wX2 o1 a1 (xy C) u1 [])) 42 [(0, .ref o0), (1, .ref o1), (3, .int x3)] [] := by
  refine g_iload_n (pc := 42) hC 2 dX0_find_42 rfl rfl ?_
  refine g_sipush (pc := 43) (v := 128) hC dX0_find_43 (by decide) ?_
  refine g_icmp_ge (pc := 46) (tgt := 62) hC dX0_find_46 (by decide) (fun c_80 => ?_) (fun c_80 => ?_)
  · have h := h.1 c_80
    refine g_sub (lv' := [(0, .ref o0), (1, .ref o1)]) [0, 1] rfl ?_
    exact kX0_find_b62 hC hR0 hR   h
  · have h := h.2 c_80
    refine g_aload_n (pc := 49) hC 0 dX0_find_49 rfl rfl ?_
    refine getX0_4 (pc := 50) hC (F := fun Z => Z) (X := []) (fun _ => rfl) fl_X0_21 dX0_find_50 ?_
    refine g_iload_n (pc := 53) hC 2 dX0_find_53 rfl rfl ?_
    refine g_iconst (pc := 54) (v := 0) hC dX0_find_54 (by decide) ?_
    refine astX0_4 (pc := 55) hC (F := fun Z => Z) (X := []) (fun _ => rfl) h.1 dX0_find_55 ?_
    have h := h.2
    refine g_st (w := fun z => (wX0 o0 a0 (xy C) z (wX2 o1 a1 (xy C) u1 []))) (u := (sw u0 4 (upd (ga u0 4) (x3).toNatClampNeg (vp_nar .boolean (0 : Int32))))) (fun u_81 eu_81 => ?_)
    have h := h u_81 eu_81
    obtain ⟨x3_82, ex3_82⟩ : ∃ z : Int32, z = x3 + (1 : Int32) := ⟨_, rfl⟩
    have h := h x3_82 ex3_82
    refine g_iinc (pc := 56) (v := x3_82) (lv' := [(3, .int x3_82), (0, .ref o0), (1, .ref o1)]) hC 2 dX0_find_56 rfl (by rw [ex3_82]; rfl) (Nat.le_of_ble_eq_true rfl) rfl ?_
    refine g_goto (pc := 59) (tgt := 42) hC dX0_find_59 (by decide) ?_
    refine g_sub (lv' := [(0, .ref o0), (1, .ref o1), (3, .int x3_82)]) [1, 2, 0] rfl ?_
    exact hK42 _ _ _ h
def qX0_find_L42   (post : St → St → Prop)  : Nat → Int32 → St → St → Prop
  | 0 => fun _ _ _ => False
  | n + 1 => qX0_find_l42 post (qX0_find_L42 post n)
theorem kX0_find_L42 {C : Cx} {o0 : Nat} {a0 : Nat → Nat} {o1 : Nat} {a1 : Nat → Nat} (hC : Fx C cX0_find 4 RX0) (hR0 : xR C = rm 21) {post : St → St → Prop} (hR : RV C cX0_find 4 (fun u : St × St => (wX0 o0 a0 (xy C) u.1 (wX2 o1 a1 (xy C) u.2 []))) (fun u => post u.1 u.2))  : ∀ (n : Nat) (x3 : Int32) (u0 : St) (u1 : St), qX0_find_L42 post n x3 u0 u1 → G C 0 0 4 (wX0 o0 a0 (xy C) u0 (wX2 o1 a1 (xy C) u1 [])) 42 [(0, .ref o0), (1, .ref o1), (3, .int x3)] [] := by
  intro n
  induction n with
  | zero => intro x3 u0 u1 h; exact h.elim
  | succ n ih => intro x3 u0 u1 h; exact kX0_find_l42 hC hR0 hR   ih h
def qX0_find  (x2 : Int32) (u0 : St) (u1 : St) (post : St → St → Prop) : Prop := (bz x2 ∧ ∀ u_83 : St, u_83 = (si u0 5 x2) → ∀ u_84 : St, u_84 = (si u_83 1 (0 : Int32)) → qJ6_bitCount_0f7a4 (gi u1 6) (fun r_85 => ∀ u_87 : St, u_87 = (si u_84 6 ((gi u1 2) - r_85)) → (cpOk (0 : Int32) (0 : Int32) (5 : Int32) 5 5 ∧ ∀ u_88 : St, u_88 = (sw u_87 3 (va_cpy (ga u1 12) (ga u_87 3) ((0 : Int32)).toNatClampNeg ((0 : Int32)).toNatClampNeg ((5 : Int32)).toNatClampNeg)) → ∃ n_89 : Nat, qX0_find_L42 post n_89 (0 : Int32) u_88 u1)))
set_option maxRecDepth 100000 in
set_option maxHeartbeats 4000000 in
theorem kX0_find {C : Cx} {o0 : Nat} {a0 : Nat → Nat} {o1 : Nat} {a1 : Nat → Nat} (hC : Fx C cX0_find 4 RX0) (hR0 : xR C = rm 21) {post : St → St → Prop} (hR : RV C cX0_find 4 (fun u : St × St => (wX0 o0 a0 (xy C) u.1 (wX2 o1 a1 (xy C) u.2 []))) (fun u => post u.1 u.2)) {x2 : Int32} {u0 : St} {u1 : St} (h : qX0_find  x2 u0 u1 post) : G C 0 0 4 (wX0 o0 a0 (xy C) u0 (wX2 o1 a1 (xy C) u1 [])) 0 [(0, .ref o0), (1, .ref o1), (2, .int x2)] [] := by
  refine g_aload_n (pc := 0) hC 0 dX0_find_0 rfl rfl ?_
  refine g_iload_n (pc := 1) hC 2 dX0_find_1 rfl rfl ?_
  refine putX0_5 (pc := 2) hC (F := fun Z => Z) (X := []) (fun _ => rfl) fl_X0_25 h.1 dX0_find_2 ?_
  have h := h.2
  refine g_st (w := fun z => (wX0 o0 a0 (xy C) z (wX2 o1 a1 (xy C) u1 []))) (u := (si u0 5 x2)) (fun u_83 eu_83 => ?_)
  have h := h u_83 eu_83
  refine g_aload_n (pc := 5) hC 0 dX0_find_5 rfl rfl ?_
  refine g_iconst (pc := 6) (v := 0) hC dX0_find_6 (by decide) ?_
  refine putX0_1 (pc := 7) hC (F := fun Z => Z) (X := []) (fun _ => rfl) fl_X0_29 dX0_find_7 ?_
  refine g_st (w := fun z => (wX0 o0 a0 (xy C) z (wX2 o1 a1 (xy C) u1 []))) (u := (si u_83 1 (0 : Int32))) (fun u_84 eu_84 => ?_)
  have h := h u_84 eu_84
  refine g_aload_n (pc := 10) hC 0 dX0_find_10 rfl rfl ?_
  refine g_aload_n (pc := 11) hC 1 dX0_find_11 rfl rfl ?_
  refine getX2_2 (pc := 12) hC (F := fun Z => (wX0 o0 a0 (xy C) u_84 Z)) (X := (wX0 o0 a0 (xy C) u_84 [])) (fun _ => rfl) fl_X0_33 dX0_find_12 ?_
  refine g_aload_n (pc := 15) hC 1 dX0_find_15 rfl rfl ?_
  refine getX2_6 (pc := 16) hC (F := fun Z => (wX0 o0 a0 (xy C) u_84 Z)) (X := (wX0 o0 a0 (xy C) u_84 [])) (fun _ => rfl) fl_X0_38 dX0_find_16 ?_
  refine g_callS_i (pc := 19) (wd := fun (_ : Unit) Y => Y) (F := fun Z => Z) (X := []) (As := [.int (gi u1 6)]) (rest := [.int (gi u1 2), .ref o0]) (u := ()) hC (fun _ _ => rfl) (fun _ => rfl) (ctJ6_bitCount_0f7a4 h) wvJ6_bitCount_0f7a4 ml_X0_41 rfl (rmok hR0 rfl) ⟨Nat.zero_le _, Nat.zero_le _⟩ rfl (Nat.le_of_ble_eq_true rfl) dX0_find_19 (fun r_85 u_86 h => ?_)
  refine g_isub (pc := 22) hC dX0_find_22 ?_
  refine putX0_6 (pc := 23) hC (F := fun Z => Z) (X := []) (fun _ => rfl) fl_X0_47 dX0_find_23 ?_
  refine g_st (w := fun z => (wX0 o0 a0 (xy C) z (wX2 o1 a1 (xy C) u1 []))) (u := (si u_84 6 ((gi u1 2) - r_85))) (fun u_87 eu_87 => ?_)
  have h := h u_87 eu_87
  refine g_aload_n (pc := 26) hC 1 dX0_find_26 rfl rfl ?_
  refine getX2_12 (pc := 27) hC (F := fun Z => (wX0 o0 a0 (xy C) u_87 Z)) (X := (wX0 o0 a0 (xy C) u_87 [])) (fun _ => rfl) fl_X0_50 dX0_find_27 ?_
  refine g_iconst (pc := 30) (v := 0) hC dX0_find_30 (by decide) ?_
  refine g_aload_n (pc := 31) hC 0 dX0_find_31 rfl rfl ?_
  refine getX0_3 (pc := 32) hC (F := fun Z => Z) (X := []) (fun _ => rfl) fl_X0_18 dX0_find_32 ?_
  refine g_iconst (pc := 35) (v := 0) hC dX0_find_35 (by decide) ?_
  refine g_iconst (pc := 36) (v := 5) hC dX0_find_36 (by decide) ?_
  refine g_copyi (pc := 37) (σ' := (wX0 o0 a0 (xy C) (sw u_87 3 (va_cpy (ga u1 12) (ga u_87 3) ((0 : Int32)).toNatClampNeg ((0 : Int32)).toNatClampNeg ((5 : Int32)).toNatClampNeg)) (wX2 o1 a1 (xy C) u1 []))) hC hR0 ml_X0_51 10 3 rfl rfl rfl h.1 dX0_find_37 (Nat.le_of_ble_eq_true rfl) ?_
  have h := h.2
  refine g_st (w := fun z => (wX0 o0 a0 (xy C) z (wX2 o1 a1 (xy C) u1 []))) (u := (sw u_87 3 (va_cpy (ga u1 12) (ga u_87 3) ((0 : Int32)).toNatClampNeg ((0 : Int32)).toNatClampNeg ((5 : Int32)).toNatClampNeg))) (fun u_88 eu_88 => ?_)
  have h := h u_88 eu_88
  refine g_iconst (pc := 40) (v := 0) hC dX0_find_40 (by decide) ?_
  refine g_istore_n (pc := 41) (lv' := [(3, .int (0 : Int32)), (0, .ref o0), (1, .ref o1), (2, .int x2)]) hC dX0_find_41 rfl (Nat.le_of_ble_eq_true rfl) rfl ?_
  refine g_sub (lv' := [(0, .ref o0), (1, .ref o1), (3, .int (0 : Int32))]) [1, 2, 0] rfl ?_
  obtain ⟨n_89, h⟩ := h
  exact kX0_find_L42 hC hR0 hR   n_89 _ _ _ h
theorem ctX0_find {l : Launch} {D : va_G} {cy : Nat → ClassId} {kd : Nat → Nat} {o0 : Nat} {a0 : Nat → Nat} {o1 : Nat} {a1 : Nat → Nat} {x2 : Int32} {u0 : St} {u1 : St} {post : St → St → Prop} (h : qX0_find x2 u0 u1 post) : CtV l D cy kd yX0_find cX0_find 4 21  [.ref o0, .ref o1, .int x2] (fun u : St × St => (wX0 o0 a0 cy u.1 (wX2 o1 a1 cy u.2 []))) (u0, u1) (fun u => post u.1 u.2) := met_v (by decide) (Nat.le_of_ble_eq_true rfl) (fun C e1 e2 e3 e4 e5 hC hR => by subst e1 e2 e3 e4; exact kX0_find hC e5 hR h)
theorem dX1_bailiff_0 : decode cX1_bailiff 0 = .ok (.iload_n 1, 1) := by decide +kernel
theorem dX1_bailiff_1 : decode cX1_bailiff 1 = .ok (.ifCond .gt 13, 3) := by decide +kernel
theorem dX1_bailiff_4 : decode cX1_bailiff 4 = .ok (.aload_n 0, 1) := by decide +kernel
theorem dX1_bailiff_5 : decode cX1_bailiff 5 = .ok (.iload_n 2, 1) := by decide +kernel
theorem dX1_bailiff_6 : decode cX1_bailiff 6 = .ok (.iconst 0, 1) := by decide +kernel
theorem dX1_bailiff_7 : decode cX1_bailiff 7 = .ok (.invokevirtual 9, 3) := by decide +kernel
theorem dX1_bailiff_10 : decode cX1_bailiff 10 = .ok (.invokestatic 15, 3) := by decide +kernel
theorem dX1_bailiff_13 : decode cX1_bailiff 13 = .ok (.ireturn, 1) := by decide +kernel
theorem dX1_bailiff_14 : decode cX1_bailiff 14 = .ok (.aload_n 0, 1) := by decide +kernel
theorem dX1_bailiff_15 : decode cX1_bailiff 15 = .ok (.iload_n 1, 1) := by decide +kernel
theorem dX1_bailiff_16 : decode cX1_bailiff 16 = .ok (.iconst 1, 1) := by decide +kernel
theorem dX1_bailiff_17 : decode cX1_bailiff 17 = .ok (.isub, 1) := by decide +kernel
theorem dX1_bailiff_18 : decode cX1_bailiff 18 = .ok (.iload_n 2, 1) := by decide +kernel
theorem dX1_bailiff_19 : decode cX1_bailiff 19 = .ok (.invokestatic 21, 3) := by decide +kernel
theorem dX1_bailiff_22 : decode cX1_bailiff 22 = .ok (.istore_n 3, 1) := by decide +kernel
theorem dX1_bailiff_23 : decode cX1_bailiff 23 = .ok (.iconst 0, 1) := by decide +kernel
theorem dX1_bailiff_24 : decode cX1_bailiff 24 = .ok (.istore 4, 2) := by decide +kernel
theorem dX1_bailiff_26 : decode cX1_bailiff 26 = .ok (.iload 4, 2) := by decide +kernel
theorem dX1_bailiff_28 : decode cX1_bailiff 28 = .ok (.aload_n 0, 1) := by decide +kernel
theorem dX1_bailiff_29 : decode cX1_bailiff 29 = .ok (.getfield 27, 3) := by decide +kernel
theorem dX1_bailiff_32 : decode cX1_bailiff 32 = .ok (.if_icmp .ge 51, 3) := by decide +kernel
theorem dX1_bailiff_35 : decode cX1_bailiff 35 = .ok (.iload_n 2, 1) := by decide +kernel
theorem dX1_bailiff_36 : decode cX1_bailiff 36 = .ok (.aload_n 0, 1) := by decide +kernel
theorem dX1_bailiff_37 : decode cX1_bailiff 37 = .ok (.getfield 31, 3) := by decide +kernel
theorem dX1_bailiff_40 : decode cX1_bailiff 40 = .ok (.ior, 1) := by decide +kernel
theorem dX1_bailiff_41 : decode cX1_bailiff 41 = .ok (.iload 4, 2) := by decide +kernel
theorem dX1_bailiff_43 : decode cX1_bailiff 43 = .ok (.invokestatic 34, 3) := by decide +kernel
theorem dX1_bailiff_46 : decode cX1_bailiff 46 = .ok (.ifCond .ne 31, 3) := by decide +kernel
theorem dX1_bailiff_49 : decode cX1_bailiff 49 = .ok (.aload_n 0, 1) := by decide +kernel
theorem dX1_bailiff_50 : decode cX1_bailiff 50 = .ok (.getfield 38, 3) := by decide +kernel
theorem dX1_bailiff_53 : decode cX1_bailiff 53 = .ok (.iload 4, 2) := by decide +kernel
theorem dX1_bailiff_55 : decode cX1_bailiff 55 = .ok (.iaload, 1) := by decide +kernel
theorem dX1_bailiff_56 : decode cX1_bailiff 56 = .ok (.ifCond .le 21, 3) := by decide +kernel
theorem dX1_bailiff_59 : decode cX1_bailiff 59 = .ok (.iload_n 3, 1) := by decide +kernel
theorem dX1_bailiff_60 : decode cX1_bailiff 60 = .ok (.aload_n 0, 1) := by decide +kernel
theorem dX1_bailiff_61 : decode cX1_bailiff 61 = .ok (.iload_n 1, 1) := by decide +kernel
theorem dX1_bailiff_62 : decode cX1_bailiff 62 = .ok (.iconst 1, 1) := by decide +kernel
theorem dX1_bailiff_63 : decode cX1_bailiff 63 = .ok (.isub, 1) := by decide +kernel
theorem dX1_bailiff_64 : decode cX1_bailiff 64 = .ok (.iload_n 2, 1) := by decide +kernel
theorem dX1_bailiff_65 : decode cX1_bailiff 65 = .ok (.iconst 1, 1) := by decide +kernel
theorem dX1_bailiff_66 : decode cX1_bailiff 66 = .ok (.iload 4, 2) := by decide +kernel
theorem dX1_bailiff_68 : decode cX1_bailiff 68 = .ok (.ishl, 1) := by decide +kernel
theorem dX1_bailiff_69 : decode cX1_bailiff 69 = .ok (.ior, 1) := by decide +kernel
theorem dX1_bailiff_70 : decode cX1_bailiff 70 = .ok (.invokestatic 21, 3) := by decide +kernel
theorem dX1_bailiff_73 : decode cX1_bailiff 73 = .ok (.invokestatic 42, 3) := by decide +kernel
theorem dX1_bailiff_76 : decode cX1_bailiff 76 = .ok (.istore_n 3, 1) := by decide +kernel
theorem dX1_bailiff_77 : decode cX1_bailiff 77 = .ok (.iinc 4 1, 3) := by decide +kernel
theorem dX1_bailiff_80 : decode cX1_bailiff 80 = .ok (.goto (-54), 3) := by decide +kernel
theorem dX1_bailiff_83 : decode cX1_bailiff 83 = .ok (.iload_n 3, 1) := by decide +kernel
theorem dX1_bailiff_84 : decode cX1_bailiff 84 = .ok (.ireturn, 1) := by decide +kernel
def qX1_bailiff_b77  (Q0 : Int32 → Int32 → St → (Int32 → St → Prop) → Prop) (post : Int32 → St → Prop) (K26 : Int32 → Int32 → Int32 → Int32 → St → Prop) (x1 : Int32) (x2 : Int32) (x3 : Int32) (x4 : Int32) (u0 : St) : Prop := ∀ x4_15 : Int32, x4_15 = x4 + (1 : Int32) → K26 x1 x2 x3 x4_15 u0
set_option maxRecDepth 100000 in
set_option maxHeartbeats 4000000 in
theorem kX1_bailiff_b77 {C : Cx} {hr : Nat} {o0 : Nat} {a0 : Nat → Nat} (hC : Fx C cX1_bailiff 5 RX1) (hR0 : xR C = rm (hr + 1)) {post : Int32 → St → Prop} (hR : RI C cX1_bailiff 5 (fun u : St => (wX2 o0 a0 (xy C) u [])) (fun r u => post r u)) {Q0 : Int32 → Int32 → St → (Int32 → St → Prop) → Prop} (hQ0 : ∀ (x1 : Int32) (x2 : Int32) (u0 : St) (post : Int32 → St → Prop), Q0 x1 x2 u0 post → CtI (xl C) (xD C) (xy C) (xk C) yX1_mason cX1_mason 5 hr .int [.ref o0, .int x1, .int x2] (fun u : St => (wX2 o0 a0 (xy C) u [])) u0 (fun r u => post r u)) (hB : 3 ≤ hr) {K26 : Int32 → Int32 → Int32 → Int32 → St → Prop} (hK26 : ∀ (x1 : Int32) (x2 : Int32) (x3 : Int32) (x4 : Int32) (u0 : St), K26 x1 x2 x3 x4 u0 → G C 0 0 5 (wX2 o0 a0 (xy C) u0 []) 26 [(0, .ref o0), (1, .int x1), (2, .int x2), (3, .int x3), (4, .int x4)] []) {x1 : Int32} {x2 : Int32} {x3 : Int32} {x4 : Int32} {u0 : St} (h : qX1_bailiff_b77 Q0 post K26 x1 x2 x3 x4 u0) : G C 0 0 5 (wX2 o0 a0 (xy C) u0 []) 77 [(0, .ref o0), (1, .int x1), (2, .int x2), (3, .int x3), (4, .int x4)] [] := by
  obtain ⟨x4_15, ex4_15⟩ : ∃ z : Int32, z = x4 + (1 : Int32) := ⟨_, rfl⟩
  have h := h x4_15 ex4_15
  refine g_iinc (pc := 77) (v := x4_15) (lv' := [(4, .int x4_15), (0, .ref o0), (1, .int x1), (2, .int x2), (3, .int x3)]) hC 4 dX1_bailiff_77 rfl (by rw [ex4_15]; rfl) (Nat.le_of_ble_eq_true rfl) rfl ?_
  refine g_goto (pc := 80) (tgt := 26) hC dX1_bailiff_80 (by decide) ?_
  refine g_sub (lv' := [(0, .ref o0), (1, .int x1), (2, .int x2), (3, .int x3), (4, .int x4_15)]) [1, 2, 3, 4, 0] rfl ?_
  exact hK26 _ _ _ _ _ h
def qX1_bailiff_l26  (Q0 : Int32 → Int32 → St → (Int32 → St → Prop) → Prop) (post : Int32 → St → Prop) (K26 : Int32 → Int32 → Int32 → Int32 → St → Prop) (x1 : Int32) (x2 : Int32) (x3 : Int32) (x4 : Int32) (u0 : St) : Prop := (((gi u0 2) ≤ x4 → post x3 u0) ∧ (¬ (gi u0 2) ≤ x4 → qX11_has (x2 ||| (gi u0 6)) x4 (fun r_17 => ((¬ r_17 = 0 → qX1_bailiff_b77 Q0 post K26 x1 x2 x3 x4 u0) ∧ (r_17 = 0 → (vp_in x4 7 ∧ (((ga u0 19 (x4).toNatClampNeg) ≤ 0 → qX1_bailiff_b77 Q0 post K26 x1 x2 x3 x4 u0) ∧ (¬ (ga u0 19 (x4).toNatClampNeg) ≤ 0 → Q0 (x1 - (1 : Int32)) (x2 ||| ((1 : Int32) <<< (x4 &&& 31))) u0 (fun r_22 u_21 => ∀ x3_24 : Int32, x3_24 = (if r_22 < x3 then r_22 else x3) → qX1_bailiff_b77 Q0 post K26 x1 x2 x3_24 x4 u_21)))))))))
set_option maxRecDepth 100000 in
set_option maxHeartbeats 4000000 in
theorem kX1_bailiff_l26 {C : Cx} {hr : Nat} {o0 : Nat} {a0 : Nat → Nat} (hC : Fx C cX1_bailiff 5 RX1) (hR0 : xR C = rm (hr + 1)) {post : Int32 → St → Prop} (hR : RI C cX1_bailiff 5 (fun u : St => (wX2 o0 a0 (xy C) u [])) (fun r u => post r u)) {Q0 : Int32 → Int32 → St → (Int32 → St → Prop) → Prop} (hQ0 : ∀ (x1 : Int32) (x2 : Int32) (u0 : St) (post : Int32 → St → Prop), Q0 x1 x2 u0 post → CtI (xl C) (xD C) (xy C) (xk C) yX1_mason cX1_mason 5 hr .int [.ref o0, .int x1, .int x2] (fun u : St => (wX2 o0 a0 (xy C) u [])) u0 (fun r u => post r u)) (hB : 3 ≤ hr)  {K26 : Int32 → Int32 → Int32 → Int32 → St → Prop} (hK26 : ∀ (x1 : Int32) (x2 : Int32) (x3 : Int32) (x4 : Int32) (u0 : St), K26 x1 x2 x3 x4 u0 → G C 0 0 5 (wX2 o0 a0 (xy C) u0 []) 26 [(0, .ref o0), (1, .int x1), (2, .int x2), (3, .int x3), (4, .int x4)] []) {x1 : Int32} {x2 : Int32} {x3 : Int32} {x4 : Int32} {u0 : St} (h : qX1_bailiff_l26 Q0 post K26 x1 x2 x3 x4 u0) : G C 0 0 5 (wX2 o0 a0 (xy C) u0 []) 26 [(0, .ref o0), (1, .int x1), (2, .int x2), (3, .int x3), (4, .int x4)] [] := by
  refine g_iload (pc := 26) hC 4 dX1_bailiff_26 rfl ?_
  refine g_aload_n (pc := 28) hC 0 dX1_bailiff_28 rfl rfl ?_
  refine getX2_2 (pc := 29) hC (F := fun Z => Z) (X := []) (fun _ => rfl) fl_X1_27 dX1_bailiff_29 ?_
  refine g_icmp_ge (pc := 32) (tgt := 83) hC dX1_bailiff_32 (by decide) (fun c_16 => ?_) (fun c_16 => ?_)
  · have h := h.1 c_16
    refine g_iload_n (pc := 83) hC 3 dX1_bailiff_83 rfl rfl ?_
    exact hR _ _ _ u0 dX1_bailiff_84 h
  · have h := h.2 c_16
    refine g_iload_n (pc := 35) hC 2 dX1_bailiff_35 rfl rfl ?_
    refine g_aload_n (pc := 36) hC 0 dX1_bailiff_36 rfl rfl ?_
    refine getX2_6 (pc := 37) hC (F := fun Z => Z) (X := []) (fun _ => rfl) fl_X1_31 dX1_bailiff_37 ?_
    refine g_ior (pc := 40) hC dX1_bailiff_40 ?_
    refine g_iload (pc := 41) hC 4 dX1_bailiff_41 rfl ?_
    refine g_callSN_i (pc := 43) (wd := fun (_ : Unit) Y => Y) (F := fun Z => Z) (X := []) (As := [.int (x2 ||| (gi u0 6)), .int x4]) (rest := []) (u := ()) hC (fun _ _ => rfl) (fun _ => rfl) (ctX11_has h) wvX11_has nl_X1_34 rfl (rmokO hR0 (by omega) (Nat.le_of_ble_eq_true rfl)) ⟨Nat.zero_le _, Nat.zero_le _⟩ rfl (Nat.le_of_ble_eq_true rfl) dX1_bailiff_43 (fun r_17 u_18 h => ?_)
    refine g_if_ne (pc := 46) (tgt := 77) hC dX1_bailiff_46 (by decide) (fun c_19 => ?_) (fun c_19 => ?_)
    · have h := h.1 c_19
      exact kX1_bailiff_b77 hC hR0 hR hQ0 hB hK26 h
    · have h := h.2 c_19
      refine g_aload_n (pc := 49) hC 0 dX1_bailiff_49 rfl rfl ?_
      refine getX2_19 (pc := 50) hC (F := fun Z => Z) (X := []) (fun _ => rfl) fl_X1_38 dX1_bailiff_50 ?_
      refine g_iload (pc := 53) hC 4 dX1_bailiff_53 rfl ?_
      refine aldX2_19 (pc := 55) hC (F := fun Z => Z) (X := []) (fun _ => rfl) h.1 dX1_bailiff_55 ?_
      have h := h.2
      refine g_if_le (pc := 56) (tgt := 77) hC dX1_bailiff_56 (by decide) (fun c_20 => ?_) (fun c_20 => ?_)
      · have h := h.1 c_20
        exact kX1_bailiff_b77 hC hR0 hR hQ0 hB hK26 h
      · have h := h.2 c_20
        refine g_iload_n (pc := 59) hC 3 dX1_bailiff_59 rfl rfl ?_
        refine g_aload_n (pc := 60) hC 0 dX1_bailiff_60 rfl rfl ?_
        refine g_iload_n (pc := 61) hC 1 dX1_bailiff_61 rfl rfl ?_
        refine g_iconst (pc := 62) (v := 1) hC dX1_bailiff_62 (by decide) ?_
        refine g_isub (pc := 63) hC dX1_bailiff_63 ?_
        refine g_iload_n (pc := 64) hC 2 dX1_bailiff_64 rfl rfl ?_
        refine g_iconst (pc := 65) (v := 1) hC dX1_bailiff_65 (by decide) ?_
        refine g_iload (pc := 66) hC 4 dX1_bailiff_66 rfl ?_
        refine g_ishl (pc := 68) hC dX1_bailiff_68 ?_
        refine g_ior (pc := 69) hC dX1_bailiff_69 ?_
        refine g_callS_i (pc := 70) (wd := fun (u : St) Y => (wX2 o0 a0 (xy C) u Y)) (F := fun Z => Z) (X := []) (As := [.ref o0, .int (x1 - (1 : Int32)), .int (x2 ||| ((1 : Int32) <<< (x4 &&& 31)))]) (rest := [.int x3]) (u := u0) hC (fun _ _ => rfl) (fun _ => rfl) (hQ0 _ _ _ _ h) wvX1_mason ml_X1_21 rfl (rmokO hR0 (by omega) (Nat.le_of_ble_eq_true rfl)) ⟨Nat.zero_le _, Nat.zero_le _⟩ rfl (Nat.le_of_ble_eq_true rfl) dX1_bailiff_70 (fun r_22 u_21 h => ?_)
        refine g_mmin (pc := 73) hC hR0 ml_X1_42 dX1_bailiff_73 (Nat.le_of_ble_eq_true rfl) ?_
        refine g_topi (fun x3_24 ex3_24 => ?_)
        have h := h x3_24 ex3_24
        refine g_istore_n (pc := 76) (lv' := [(3, .int x3_24), (0, .ref o0), (1, .int x1), (2, .int x2), (4, .int x4)]) hC dX1_bailiff_76 rfl (Nat.le_of_ble_eq_true rfl) rfl ?_
        refine g_sub (lv' := [(0, .ref o0), (1, .int x1), (2, .int x2), (3, .int x3_24), (4, .int x4)]) [1, 2, 3, 0, 4] rfl ?_
        exact kX1_bailiff_b77 hC hR0 hR hQ0 hB hK26 h
def qX1_bailiff_L26  (Q0 : Int32 → Int32 → St → (Int32 → St → Prop) → Prop) (post : Int32 → St → Prop)  : Nat → Int32 → Int32 → Int32 → Int32 → St → Prop
  | 0 => fun _ _ _ _ _ => False
  | n + 1 => qX1_bailiff_l26 Q0 post (qX1_bailiff_L26 Q0 post n)
theorem kX1_bailiff_L26 {C : Cx} {hr : Nat} {o0 : Nat} {a0 : Nat → Nat} (hC : Fx C cX1_bailiff 5 RX1) (hR0 : xR C = rm (hr + 1)) {post : Int32 → St → Prop} (hR : RI C cX1_bailiff 5 (fun u : St => (wX2 o0 a0 (xy C) u [])) (fun r u => post r u)) {Q0 : Int32 → Int32 → St → (Int32 → St → Prop) → Prop} (hQ0 : ∀ (x1 : Int32) (x2 : Int32) (u0 : St) (post : Int32 → St → Prop), Q0 x1 x2 u0 post → CtI (xl C) (xD C) (xy C) (xk C) yX1_mason cX1_mason 5 hr .int [.ref o0, .int x1, .int x2] (fun u : St => (wX2 o0 a0 (xy C) u [])) u0 (fun r u => post r u)) (hB : 3 ≤ hr)  : ∀ (n : Nat) (x1 : Int32) (x2 : Int32) (x3 : Int32) (x4 : Int32) (u0 : St), qX1_bailiff_L26 Q0 post n x1 x2 x3 x4 u0 → G C 0 0 5 (wX2 o0 a0 (xy C) u0 []) 26 [(0, .ref o0), (1, .int x1), (2, .int x2), (3, .int x3), (4, .int x4)] [] := by
  intro n
  induction n with
  | zero => intro x1 x2 x3 x4 u0 h; exact h.elim
  | succ n ih => intro x1 x2 x3 x4 u0 h; exact kX1_bailiff_l26 hC hR0 hR hQ0 hB  ih h
def qX1_bailiff_body (Q0 : Int32 → Int32 → St → (Int32 → St → Prop) → Prop) (x1 : Int32) (x2 : Int32) (u0 : St) (post : Int32 → St → Prop) : Prop := ((0 < x1 → Q0 (x1 - (1 : Int32)) x2 u0 (fun r_27 u_26 => ∃ n_29 : Nat, qX1_bailiff_L26 Q0 post n_29 x1 x2 r_27 (0 : Int32) u_26)) ∧ (¬ 0 < x1 → qX2_standing x2 (0 : Int32) u0 (fun r_31 u_30 => qJ6_bitCount_0f7a4 r_31 (fun r_33 => post r_33 u_30))))
set_option maxRecDepth 100000 in
set_option maxHeartbeats 4000000 in
theorem kX1_bailiff {C : Cx} {hr : Nat} {o0 : Nat} {a0 : Nat → Nat} (hC : Fx C cX1_bailiff 5 RX1) (hR0 : xR C = rm (hr + 1)) {post : Int32 → St → Prop} (hR : RI C cX1_bailiff 5 (fun u : St => (wX2 o0 a0 (xy C) u [])) (fun r u => post r u)) {Q0 : Int32 → Int32 → St → (Int32 → St → Prop) → Prop} (hQ0 : ∀ (x1 : Int32) (x2 : Int32) (u0 : St) (post : Int32 → St → Prop), Q0 x1 x2 u0 post → CtI (xl C) (xD C) (xy C) (xk C) yX1_mason cX1_mason 5 hr .int [.ref o0, .int x1, .int x2] (fun u : St => (wX2 o0 a0 (xy C) u [])) u0 (fun r u => post r u)) (hB : 3 ≤ hr) {x1 : Int32} {x2 : Int32} {u0 : St} (h : qX1_bailiff_body Q0 x1 x2 u0 post) : G C 0 0 5 (wX2 o0 a0 (xy C) u0 []) 0 [(0, .ref o0), (1, .int x1), (2, .int x2)] [] := by
  refine g_iload_n (pc := 0) hC 1 dX1_bailiff_0 rfl rfl ?_
  refine g_if_gt (pc := 1) (tgt := 14) hC dX1_bailiff_1 (by decide) (fun c_25 => ?_) (fun c_25 => ?_)
  · have h := h.1 c_25
    refine g_aload_n (pc := 14) hC 0 dX1_bailiff_14 rfl rfl ?_
    refine g_iload_n (pc := 15) hC 1 dX1_bailiff_15 rfl rfl ?_
    refine g_iconst (pc := 16) (v := 1) hC dX1_bailiff_16 (by decide) ?_
    refine g_isub (pc := 17) hC dX1_bailiff_17 ?_
    refine g_iload_n (pc := 18) hC 2 dX1_bailiff_18 rfl rfl ?_
    refine g_callS_i (pc := 19) (wd := fun (u : St) Y => (wX2 o0 a0 (xy C) u Y)) (F := fun Z => Z) (X := []) (As := [.ref o0, .int (x1 - (1 : Int32)), .int x2]) (rest := []) (u := u0) hC (fun _ _ => rfl) (fun _ => rfl) (hQ0 _ _ _ _ h) wvX1_mason ml_X1_21 rfl (rmokO hR0 (by omega) (Nat.le_of_ble_eq_true rfl)) ⟨Nat.zero_le _, Nat.zero_le _⟩ rfl (Nat.le_of_ble_eq_true rfl) dX1_bailiff_19 (fun r_27 u_26 h => ?_)
    refine g_istore_n (pc := 22) (lv' := [(3, .int r_27), (0, .ref o0), (1, .int x1), (2, .int x2)]) hC dX1_bailiff_22 rfl (Nat.le_of_ble_eq_true rfl) rfl ?_
    refine g_iconst (pc := 23) (v := 0) hC dX1_bailiff_23 (by decide) ?_
    refine g_istore (pc := 24) (lv' := [(4, .int (0 : Int32)), (3, .int r_27), (0, .ref o0), (1, .int x1), (2, .int x2)]) hC dX1_bailiff_24 (Nat.le_of_ble_eq_true rfl) rfl ?_
    refine g_sub (lv' := [(0, .ref o0), (1, .int x1), (2, .int x2), (3, .int r_27), (4, .int (0 : Int32))]) [2, 3, 4, 1, 0] rfl ?_
    obtain ⟨n_29, h⟩ := h
    exact kX1_bailiff_L26 hC hR0 hR hQ0 hB  n_29 _ _ _ _ _ h
  · have h := h.2 c_25
    refine g_aload_n (pc := 4) hC 0 dX1_bailiff_4 rfl rfl ?_
    refine g_iload_n (pc := 5) hC 2 dX1_bailiff_5 rfl rfl ?_
    refine g_iconst (pc := 6) (v := 0) hC dX1_bailiff_6 (by decide) ?_
    refine g_callV_i (pc := 7) (wd := fun (u : St) Y => (wX2 o0 a0 (xy C) u Y)) (F := fun Z => Z) (X := []) (As := [.int x2, .int (0 : Int32)]) (rest := []) (u := u0) hC (fun _ _ => rfl) (fun _ => rfl) (ctX2_standing h) wvX2_standing ml_X1_9 (ci := 1) (q0 := 0) rfl rfl rfl rfl (rmokO hR0 (by omega) (Nat.le_of_ble_eq_true rfl)) ⟨Nat.zero_le _, Nat.zero_le _⟩ rfl (Nat.le_of_ble_eq_true rfl) dX1_bailiff_7 (fun r_31 u_30 h => ?_)
    refine g_callS_i (pc := 10) (wd := fun (_ : Unit) Y => Y) (F := fun Z => Z) (X := []) (As := [.int r_31]) (rest := []) (u := ()) hC (fun _ _ => rfl) (fun _ => rfl) (ctJ6_bitCount_0f7a4 h) wvJ6_bitCount_0f7a4 ml_X1_15 rfl (rmokO hR0 (by omega) (Nat.le_of_ble_eq_true rfl)) ⟨Nat.zero_le _, Nat.zero_le _⟩ rfl (Nat.le_of_ble_eq_true rfl) dX1_bailiff_10 (fun r_33 u_34 h => ?_)
    exact hR _ _ _ u_30 dX1_bailiff_13 h
theorem dX1_mason_0 : decode cX1_mason 0 = .ok (.iload_n 1, 1) := by decide +kernel
theorem dX1_mason_1 : decode cX1_mason 1 = .ok (.ifCond .gt 13, 3) := by decide +kernel
theorem dX1_mason_4 : decode cX1_mason 4 = .ok (.aload_n 0, 1) := by decide +kernel
theorem dX1_mason_5 : decode cX1_mason 5 = .ok (.iload_n 2, 1) := by decide +kernel
theorem dX1_mason_6 : decode cX1_mason 6 = .ok (.iconst 0, 1) := by decide +kernel
theorem dX1_mason_7 : decode cX1_mason 7 = .ok (.invokevirtual 9, 3) := by decide +kernel
theorem dX1_mason_10 : decode cX1_mason 10 = .ok (.invokestatic 15, 3) := by decide +kernel
theorem dX1_mason_13 : decode cX1_mason 13 = .ok (.ireturn, 1) := by decide +kernel
theorem dX1_mason_14 : decode cX1_mason 14 = .ok (.aload_n 0, 1) := by decide +kernel
theorem dX1_mason_15 : decode cX1_mason 15 = .ok (.iload_n 1, 1) := by decide +kernel
theorem dX1_mason_16 : decode cX1_mason 16 = .ok (.iconst 1, 1) := by decide +kernel
theorem dX1_mason_17 : decode cX1_mason 17 = .ok (.isub, 1) := by decide +kernel
theorem dX1_mason_18 : decode cX1_mason 18 = .ok (.iload_n 2, 1) := by decide +kernel
theorem dX1_mason_19 : decode cX1_mason 19 = .ok (.invokestatic 47, 3) := by decide +kernel
theorem dX1_mason_22 : decode cX1_mason 22 = .ok (.istore_n 3, 1) := by decide +kernel
theorem dX1_mason_23 : decode cX1_mason 23 = .ok (.iconst 0, 1) := by decide +kernel
theorem dX1_mason_24 : decode cX1_mason 24 = .ok (.istore 4, 2) := by decide +kernel
theorem dX1_mason_26 : decode cX1_mason 26 = .ok (.iload 4, 2) := by decide +kernel
theorem dX1_mason_28 : decode cX1_mason 28 = .ok (.aload_n 0, 1) := by decide +kernel
theorem dX1_mason_29 : decode cX1_mason 29 = .ok (.getfield 50, 3) := by decide +kernel
theorem dX1_mason_32 : decode cX1_mason 32 = .ok (.if_icmp .ge 68, 3) := by decide +kernel
theorem dX1_mason_35 : decode cX1_mason 35 = .ok (.aload_n 0, 1) := by decide +kernel
theorem dX1_mason_36 : decode cX1_mason 36 = .ok (.iload 4, 2) := by decide +kernel
theorem dX1_mason_38 : decode cX1_mason 38 = .ok (.invokevirtual 53, 3) := by decide +kernel
theorem dX1_mason_41 : decode cX1_mason 41 = .ok (.ifCond .ne 53, 3) := by decide +kernel
theorem dX1_mason_44 : decode cX1_mason 44 = .ok (.iload_n 1, 1) := by decide +kernel
theorem dX1_mason_45 : decode cX1_mason 45 = .ok (.iconst 1, 1) := by decide +kernel
theorem dX1_mason_46 : decode cX1_mason 46 = .ok (.if_icmp .gt 13, 3) := by decide +kernel
theorem dX1_mason_49 : decode cX1_mason 49 = .ok (.aload_n 0, 1) := by decide +kernel
theorem dX1_mason_50 : decode cX1_mason 50 = .ok (.iload 4, 2) := by decide +kernel
theorem dX1_mason_52 : decode cX1_mason 52 = .ok (.invokevirtual 57, 3) := by decide +kernel
theorem dX1_mason_55 : decode cX1_mason 55 = .ok (.iconst 1, 1) := by decide +kernel
theorem dX1_mason_56 : decode cX1_mason 56 = .ok (.if_icmp .ne 38, 3) := by decide +kernel
theorem dX1_mason_59 : decode cX1_mason 59 = .ok (.aload_n 0, 1) := by decide +kernel
theorem dX1_mason_60 : decode cX1_mason 60 = .ok (.getfield 60, 3) := by decide +kernel
theorem dX1_mason_63 : decode cX1_mason 63 = .ok (.iload 4, 2) := by decide +kernel
theorem dX1_mason_65 : decode cX1_mason 65 = .ok (.dup2, 1) := by decide +kernel
theorem dX1_mason_66 : decode cX1_mason 66 = .ok (.iaload, 1) := by decide +kernel
theorem dX1_mason_67 : decode cX1_mason 67 = .ok (.iconst 1, 1) := by decide +kernel
theorem dX1_mason_68 : decode cX1_mason 68 = .ok (.iadd, 1) := by decide +kernel
theorem dX1_mason_69 : decode cX1_mason 69 = .ok (.iastore, 1) := by decide +kernel
theorem dX1_mason_70 : decode cX1_mason 70 = .ok (.iload_n 3, 1) := by decide +kernel
theorem dX1_mason_71 : decode cX1_mason 71 = .ok (.aload_n 0, 1) := by decide +kernel
theorem dX1_mason_72 : decode cX1_mason 72 = .ok (.iload_n 1, 1) := by decide +kernel
theorem dX1_mason_73 : decode cX1_mason 73 = .ok (.iconst 1, 1) := by decide +kernel
theorem dX1_mason_74 : decode cX1_mason 74 = .ok (.isub, 1) := by decide +kernel
theorem dX1_mason_75 : decode cX1_mason 75 = .ok (.iload_n 2, 1) := by decide +kernel
theorem dX1_mason_76 : decode cX1_mason 76 = .ok (.invokestatic 47, 3) := by decide +kernel
theorem dX1_mason_79 : decode cX1_mason 79 = .ok (.invokestatic 63, 3) := by decide +kernel
theorem dX1_mason_82 : decode cX1_mason 82 = .ok (.istore_n 3, 1) := by decide +kernel
theorem dX1_mason_83 : decode cX1_mason 83 = .ok (.aload_n 0, 1) := by decide +kernel
theorem dX1_mason_84 : decode cX1_mason 84 = .ok (.getfield 60, 3) := by decide +kernel
theorem dX1_mason_87 : decode cX1_mason 87 = .ok (.iload 4, 2) := by decide +kernel
theorem dX1_mason_89 : decode cX1_mason 89 = .ok (.dup2, 1) := by decide +kernel
theorem dX1_mason_90 : decode cX1_mason 90 = .ok (.iaload, 1) := by decide +kernel
theorem dX1_mason_91 : decode cX1_mason 91 = .ok (.iconst 1, 1) := by decide +kernel
theorem dX1_mason_92 : decode cX1_mason 92 = .ok (.isub, 1) := by decide +kernel
theorem dX1_mason_93 : decode cX1_mason 93 = .ok (.iastore, 1) := by decide +kernel
theorem dX1_mason_94 : decode cX1_mason 94 = .ok (.iinc 4 1, 3) := by decide +kernel
theorem dX1_mason_97 : decode cX1_mason 97 = .ok (.goto (-71), 3) := by decide +kernel
theorem dX1_mason_100 : decode cX1_mason 100 = .ok (.iload_n 3, 1) := by decide +kernel
theorem dX1_mason_101 : decode cX1_mason 101 = .ok (.ireturn, 1) := by decide +kernel
def qX1_mason_b94  (Q0 : Int32 → Int32 → St → (Int32 → St → Prop) → Prop) (post : Int32 → St → Prop) (K26 : Int32 → Int32 → Int32 → Int32 → St → Prop) (x1 : Int32) (x2 : Int32) (x3 : Int32) (x4 : Int32) (u0 : St) : Prop := ∀ x4_55 : Int32, x4_55 = x4 + (1 : Int32) → K26 x1 x2 x3 x4_55 u0
set_option maxRecDepth 100000 in
set_option maxHeartbeats 4000000 in
theorem kX1_mason_b94 {C : Cx} {hr : Nat} {o0 : Nat} {a0 : Nat → Nat} (hC : Fx C cX1_mason 5 RX1) (hR0 : xR C = rm (hr + 1)) {post : Int32 → St → Prop} (hR : RI C cX1_mason 5 (fun u : St => (wX2 o0 a0 (xy C) u [])) (fun r u => post r u)) {Q0 : Int32 → Int32 → St → (Int32 → St → Prop) → Prop} (hQ0 : ∀ (x1 : Int32) (x2 : Int32) (u0 : St) (post : Int32 → St → Prop), Q0 x1 x2 u0 post → CtI (xl C) (xD C) (xy C) (xk C) yX1_bailiff cX1_bailiff 5 hr .int [.ref o0, .int x1, .int x2] (fun u : St => (wX2 o0 a0 (xy C) u [])) u0 (fun r u => post r u)) (hB : 3 ≤ hr) {K26 : Int32 → Int32 → Int32 → Int32 → St → Prop} (hK26 : ∀ (x1 : Int32) (x2 : Int32) (x3 : Int32) (x4 : Int32) (u0 : St), K26 x1 x2 x3 x4 u0 → G C 0 0 5 (wX2 o0 a0 (xy C) u0 []) 26 [(0, .ref o0), (1, .int x1), (2, .int x2), (3, .int x3), (4, .int x4)] []) {x1 : Int32} {x2 : Int32} {x3 : Int32} {x4 : Int32} {u0 : St} (h : qX1_mason_b94 Q0 post K26 x1 x2 x3 x4 u0) : G C 0 0 5 (wX2 o0 a0 (xy C) u0 []) 94 [(0, .ref o0), (1, .int x1), (2, .int x2), (3, .int x3), (4, .int x4)] [] := by
  obtain ⟨x4_55, ex4_55⟩ : ∃ z : Int32, z = x4 + (1 : Int32) := ⟨_, rfl⟩
  have h := h x4_55 ex4_55
  refine g_iinc (pc := 94) (v := x4_55) (lv' := [(4, .int x4_55), (0, .ref o0), (1, .int x1), (2, .int x2), (3, .int x3)]) hC 4 dX1_mason_94 rfl (by rw [ex4_55]; rfl) (Nat.le_of_ble_eq_true rfl) rfl ?_
  refine g_goto (pc := 97) (tgt := 26) hC dX1_mason_97 (by decide) ?_
  refine g_sub (lv' := [(0, .ref o0), (1, .int x1), (2, .int x2), (3, .int x3), (4, .int x4_55)]) [1, 2, 3, 4, 0] rfl ?_
  exact hK26 _ _ _ _ _ h
def qX1_mason_b59  (Q0 : Int32 → Int32 → St → (Int32 → St → Prop) → Prop) (post : Int32 → St → Prop) (K26 : Int32 → Int32 → Int32 → Int32 → St → Prop) (x1 : Int32) (x2 : Int32) (x3 : Int32) (x4 : Int32) (u0 : St) : Prop := (vp_in x4 8 ∧ (vp_in x4 8 ∧ ∀ u_56 : St, u_56 = (sw u0 8 (upd (ga u0 8) (x4).toNatClampNeg ((ga u0 8 (x4).toNatClampNeg) + (1 : Int32)))) → Q0 (x1 - (1 : Int32)) x2 u_56 (fun r_58 u_57 => ∀ x3_60 : Int32, x3_60 = (if x3 < r_58 then r_58 else x3) → (vp_in x4 8 ∧ (vp_in x4 8 ∧ ∀ u_61 : St, u_61 = (sw u_57 8 (upd (ga u_57 8) (x4).toNatClampNeg ((ga u_57 8 (x4).toNatClampNeg) - (1 : Int32)))) → qX1_mason_b94 Q0 post K26 x1 x2 x3_60 x4 u_61)))))
set_option maxRecDepth 100000 in
set_option maxHeartbeats 4000000 in
theorem kX1_mason_b59 {C : Cx} {hr : Nat} {o0 : Nat} {a0 : Nat → Nat} (hC : Fx C cX1_mason 5 RX1) (hR0 : xR C = rm (hr + 1)) {post : Int32 → St → Prop} (hR : RI C cX1_mason 5 (fun u : St => (wX2 o0 a0 (xy C) u [])) (fun r u => post r u)) {Q0 : Int32 → Int32 → St → (Int32 → St → Prop) → Prop} (hQ0 : ∀ (x1 : Int32) (x2 : Int32) (u0 : St) (post : Int32 → St → Prop), Q0 x1 x2 u0 post → CtI (xl C) (xD C) (xy C) (xk C) yX1_bailiff cX1_bailiff 5 hr .int [.ref o0, .int x1, .int x2] (fun u : St => (wX2 o0 a0 (xy C) u [])) u0 (fun r u => post r u)) (hB : 3 ≤ hr) {K26 : Int32 → Int32 → Int32 → Int32 → St → Prop} (hK26 : ∀ (x1 : Int32) (x2 : Int32) (x3 : Int32) (x4 : Int32) (u0 : St), K26 x1 x2 x3 x4 u0 → G C 0 0 5 (wX2 o0 a0 (xy C) u0 []) 26 [(0, .ref o0), (1, .int x1), (2, .int x2), (3, .int x3), (4, .int x4)] []) {x1 : Int32} {x2 : Int32} {x3 : Int32} {x4 : Int32} {u0 : St} (h : qX1_mason_b59 Q0 post K26 x1 x2 x3 x4 u0) : G C 0 0 5 (wX2 o0 a0 (xy C) u0 []) 59 [(0, .ref o0), (1, .int x1), (2, .int x2), (3, .int x3), (4, .int x4)] [] := by
  refine g_aload_n (pc := 59) hC 0 dX1_mason_59 rfl rfl ?_
  refine getX2_8 (pc := 60) hC (F := fun Z => Z) (X := []) (fun _ => rfl) fl_X1_60 dX1_mason_60 ?_
  refine g_iload (pc := 63) hC 4 dX1_mason_63 rfl ?_
  refine g_dup2 (pc := 65) hC dX1_mason_65 rfl rfl ?_
  refine aldX2_8 (pc := 66) hC (F := fun Z => Z) (X := []) (fun _ => rfl) h.1 dX1_mason_66 ?_
  have h := h.2
  refine g_iconst (pc := 67) (v := 1) hC dX1_mason_67 (by decide) ?_
  refine g_iadd (pc := 68) hC dX1_mason_68 ?_
  refine astX2_8 (pc := 69) hC (F := fun Z => Z) (X := []) (fun _ => rfl) h.1 dX1_mason_69 ?_
  have h := h.2
  refine g_st (w := fun z => (wX2 o0 a0 (xy C) z [])) (u := (sw u0 8 (upd (ga u0 8) (x4).toNatClampNeg ((ga u0 8 (x4).toNatClampNeg) + (1 : Int32))))) (fun u_56 eu_56 => ?_)
  have h := h u_56 eu_56
  refine g_iload_n (pc := 70) hC 3 dX1_mason_70 rfl rfl ?_
  refine g_aload_n (pc := 71) hC 0 dX1_mason_71 rfl rfl ?_
  refine g_iload_n (pc := 72) hC 1 dX1_mason_72 rfl rfl ?_
  refine g_iconst (pc := 73) (v := 1) hC dX1_mason_73 (by decide) ?_
  refine g_isub (pc := 74) hC dX1_mason_74 ?_
  refine g_iload_n (pc := 75) hC 2 dX1_mason_75 rfl rfl ?_
  refine g_callS_i (pc := 76) (wd := fun (u : St) Y => (wX2 o0 a0 (xy C) u Y)) (F := fun Z => Z) (X := []) (As := [.ref o0, .int (x1 - (1 : Int32)), .int x2]) (rest := [.int x3]) (u := u_56) hC (fun _ _ => rfl) (fun _ => rfl) (hQ0 _ _ _ _ h) wvX1_bailiff ml_X1_47 rfl (rmokO hR0 (by omega) (Nat.le_of_ble_eq_true rfl)) ⟨Nat.zero_le _, Nat.zero_le _⟩ rfl (Nat.le_of_ble_eq_true rfl) dX1_mason_76 (fun r_58 u_57 h => ?_)
  refine g_mmax (pc := 79) hC hR0 ml_X1_63 dX1_mason_79 (Nat.le_of_ble_eq_true rfl) ?_
  refine g_topi (fun x3_60 ex3_60 => ?_)
  have h := h x3_60 ex3_60
  refine g_istore_n (pc := 82) (lv' := [(3, .int x3_60), (0, .ref o0), (1, .int x1), (2, .int x2), (4, .int x4)]) hC dX1_mason_82 rfl (Nat.le_of_ble_eq_true rfl) rfl ?_
  refine g_aload_n (pc := 83) hC 1 dX1_mason_83 rfl rfl ?_
  refine getX2_8 (pc := 84) hC (F := fun Z => Z) (X := []) (fun _ => rfl) fl_X1_60 dX1_mason_84 ?_
  refine g_iload (pc := 87) hC 4 dX1_mason_87 rfl ?_
  refine g_dup2 (pc := 89) hC dX1_mason_89 rfl rfl ?_
  refine aldX2_8 (pc := 90) hC (F := fun Z => Z) (X := []) (fun _ => rfl) h.1 dX1_mason_90 ?_
  have h := h.2
  refine g_iconst (pc := 91) (v := 1) hC dX1_mason_91 (by decide) ?_
  refine g_isub (pc := 92) hC dX1_mason_92 ?_
  refine astX2_8 (pc := 93) hC (F := fun Z => Z) (X := []) (fun _ => rfl) h.1 dX1_mason_93 ?_
  have h := h.2
  refine g_st (w := fun z => (wX2 o0 a0 (xy C) z [])) (u := (sw u_57 8 (upd (ga u_57 8) (x4).toNatClampNeg ((ga u_57 8 (x4).toNatClampNeg) - (1 : Int32))))) (fun u_61 eu_61 => ?_)
  have h := h u_61 eu_61
  refine g_sub (lv' := [(0, .ref o0), (1, .int x1), (2, .int x2), (3, .int x3_60), (4, .int x4)]) [1, 2, 3, 0, 4] rfl ?_
  exact kX1_mason_b94 hC hR0 hR hQ0 hB hK26 h
def qX1_mason_l26  (Q0 : Int32 → Int32 → St → (Int32 → St → Prop) → Prop) (post : Int32 → St → Prop) (K26 : Int32 → Int32 → Int32 → Int32 → St → Prop) (x1 : Int32) (x2 : Int32) (x3 : Int32) (x4 : Int32) (u0 : St) : Prop := (((gi u0 0) ≤ x4 → post x3 u0) ∧ (¬ (gi u0 0) ≤ x4 → qX2_hasFallen x4 u0 (fun r_64 u_63 => ((¬ r_64 = 0 → qX1_mason_b94 Q0 post K26 x1 x2 x3 x4 u_63) ∧ (r_64 = 0 → (((1 : Int32) < x1 → qX1_mason_b59 Q0 post K26 x1 x2 x3 x4 u_63) ∧ (¬ (1 : Int32) < x1 → qX2_lack x4 u_63 (fun r_69 u_68 => ((¬ r_69 = (1 : Int32) → qX1_mason_b94 Q0 post K26 x1 x2 x3 x4 u_68) ∧ (r_69 = (1 : Int32) → qX1_mason_b59 Q0 post K26 x1 x2 x3 x4 u_68))))))))))
set_option maxRecDepth 100000 in
set_option maxHeartbeats 4000000 in
theorem kX1_mason_l26 {C : Cx} {hr : Nat} {o0 : Nat} {a0 : Nat → Nat} (hC : Fx C cX1_mason 5 RX1) (hR0 : xR C = rm (hr + 1)) {post : Int32 → St → Prop} (hR : RI C cX1_mason 5 (fun u : St => (wX2 o0 a0 (xy C) u [])) (fun r u => post r u)) {Q0 : Int32 → Int32 → St → (Int32 → St → Prop) → Prop} (hQ0 : ∀ (x1 : Int32) (x2 : Int32) (u0 : St) (post : Int32 → St → Prop), Q0 x1 x2 u0 post → CtI (xl C) (xD C) (xy C) (xk C) yX1_bailiff cX1_bailiff 5 hr .int [.ref o0, .int x1, .int x2] (fun u : St => (wX2 o0 a0 (xy C) u [])) u0 (fun r u => post r u)) (hB : 3 ≤ hr)  {K26 : Int32 → Int32 → Int32 → Int32 → St → Prop} (hK26 : ∀ (x1 : Int32) (x2 : Int32) (x3 : Int32) (x4 : Int32) (u0 : St), K26 x1 x2 x3 x4 u0 → G C 0 0 5 (wX2 o0 a0 (xy C) u0 []) 26 [(0, .ref o0), (1, .int x1), (2, .int x2), (3, .int x3), (4, .int x4)] []) {x1 : Int32} {x2 : Int32} {x3 : Int32} {x4 : Int32} {u0 : St} (h : qX1_mason_l26 Q0 post K26 x1 x2 x3 x4 u0) : G C 0 0 5 (wX2 o0 a0 (xy C) u0 []) 26 [(0, .ref o0), (1, .int x1), (2, .int x2), (3, .int x3), (4, .int x4)] [] := by
  refine g_iload (pc := 26) hC 4 dX1_mason_26 rfl ?_
  refine g_aload_n (pc := 28) hC 0 dX1_mason_28 rfl rfl ?_
  refine getX2_0 (pc := 29) hC (F := fun Z => Z) (X := []) (fun _ => rfl) fl_X1_50 dX1_mason_29 ?_
  refine g_icmp_ge (pc := 32) (tgt := 100) hC dX1_mason_32 (by decide) (fun c_62 => ?_) (fun c_62 => ?_)
  · have h := h.1 c_62
    refine g_iload_n (pc := 100) hC 3 dX1_mason_100 rfl rfl ?_
    exact hR _ _ _ u0 dX1_mason_101 h
  · have h := h.2 c_62
    refine g_aload_n (pc := 35) hC 0 dX1_mason_35 rfl rfl ?_
    refine g_iload (pc := 36) hC 4 dX1_mason_36 rfl ?_
    refine g_callV_i (pc := 38) (wd := fun (u : St) Y => (wX2 o0 a0 (xy C) u Y)) (F := fun Z => Z) (X := []) (As := [.int x4]) (rest := []) (u := u0) hC (fun _ _ => rfl) (fun _ => rfl) (ctX2_hasFallen h) wvX2_hasFallen ml_X1_53 (ci := 1) (q0 := 0) rfl rfl rfl rfl (rmokO hR0 (by omega) (Nat.le_of_ble_eq_true rfl)) ⟨Nat.zero_le _, Nat.zero_le _⟩ rfl (Nat.le_of_ble_eq_true rfl) dX1_mason_38 (fun r_64 u_63 h => ?_)
    refine g_if_ne (pc := 41) (tgt := 94) hC dX1_mason_41 (by decide) (fun c_66 => ?_) (fun c_66 => ?_)
    · have h := h.1 c_66
      exact kX1_mason_b94 hC hR0 hR hQ0 hB hK26 h
    · have h := h.2 c_66
      refine g_iload_n (pc := 44) hC 1 dX1_mason_44 rfl rfl ?_
      refine g_iconst (pc := 45) (v := 1) hC dX1_mason_45 (by decide) ?_
      refine g_icmp_gt (pc := 46) (tgt := 59) hC dX1_mason_46 (by decide) (fun c_67 => ?_) (fun c_67 => ?_)
      · have h := h.1 c_67
        exact kX1_mason_b59 hC hR0 hR hQ0 hB hK26 h
      · have h := h.2 c_67
        refine g_aload_n (pc := 49) hC 0 dX1_mason_49 rfl rfl ?_
        refine g_iload (pc := 50) hC 4 dX1_mason_50 rfl ?_
        refine g_callV_i (pc := 52) (wd := fun (u : St) Y => (wX2 o0 a0 (xy C) u Y)) (F := fun Z => Z) (X := []) (As := [.int x4]) (rest := []) (u := u_63) hC (fun _ _ => rfl) (fun _ => rfl) (ctX2_lack h) wvX2_lack ml_X1_57 (ci := 1) (q0 := 0) rfl rfl rfl rfl (rmokO hR0 (by omega) (Nat.le_of_ble_eq_true rfl)) ⟨Nat.zero_le _, Nat.zero_le _⟩ rfl (Nat.le_of_ble_eq_true rfl) dX1_mason_52 (fun r_69 u_68 h => ?_)
        refine g_iconst (pc := 55) (v := 1) hC dX1_mason_55 (by decide) ?_
        refine g_icmp_ne (pc := 56) (tgt := 94) hC dX1_mason_56 (by decide) (fun c_71 => ?_) (fun c_71 => ?_)
        · have h := h.1 c_71
          exact kX1_mason_b94 hC hR0 hR hQ0 hB hK26 h
        · have h := h.2 c_71
          exact kX1_mason_b59 hC hR0 hR hQ0 hB hK26 h
def qX1_mason_L26  (Q0 : Int32 → Int32 → St → (Int32 → St → Prop) → Prop) (post : Int32 → St → Prop)  : Nat → Int32 → Int32 → Int32 → Int32 → St → Prop
  | 0 => fun _ _ _ _ _ => False
  | n + 1 => qX1_mason_l26 Q0 post (qX1_mason_L26 Q0 post n)
theorem kX1_mason_L26 {C : Cx} {hr : Nat} {o0 : Nat} {a0 : Nat → Nat} (hC : Fx C cX1_mason 5 RX1) (hR0 : xR C = rm (hr + 1)) {post : Int32 → St → Prop} (hR : RI C cX1_mason 5 (fun u : St => (wX2 o0 a0 (xy C) u [])) (fun r u => post r u)) {Q0 : Int32 → Int32 → St → (Int32 → St → Prop) → Prop} (hQ0 : ∀ (x1 : Int32) (x2 : Int32) (u0 : St) (post : Int32 → St → Prop), Q0 x1 x2 u0 post → CtI (xl C) (xD C) (xy C) (xk C) yX1_bailiff cX1_bailiff 5 hr .int [.ref o0, .int x1, .int x2] (fun u : St => (wX2 o0 a0 (xy C) u [])) u0 (fun r u => post r u)) (hB : 3 ≤ hr)  : ∀ (n : Nat) (x1 : Int32) (x2 : Int32) (x3 : Int32) (x4 : Int32) (u0 : St), qX1_mason_L26 Q0 post n x1 x2 x3 x4 u0 → G C 0 0 5 (wX2 o0 a0 (xy C) u0 []) 26 [(0, .ref o0), (1, .int x1), (2, .int x2), (3, .int x3), (4, .int x4)] [] := by
  intro n
  induction n with
  | zero => intro x1 x2 x3 x4 u0 h; exact h.elim
  | succ n ih => intro x1 x2 x3 x4 u0 h; exact kX1_mason_l26 hC hR0 hR hQ0 hB  ih h
def qX1_mason_body (Q0 : Int32 → Int32 → St → (Int32 → St → Prop) → Prop) (x1 : Int32) (x2 : Int32) (u0 : St) (post : Int32 → St → Prop) : Prop := ((0 < x1 → Q0 (x1 - (1 : Int32)) x2 u0 (fun r_74 u_73 => ∃ n_76 : Nat, qX1_mason_L26 Q0 post n_76 x1 x2 r_74 (0 : Int32) u_73)) ∧ (¬ 0 < x1 → qX2_standing x2 (0 : Int32) u0 (fun r_78 u_77 => qJ6_bitCount_0f7a4 r_78 (fun r_80 => post r_80 u_77))))
set_option maxRecDepth 100000 in
set_option maxHeartbeats 4000000 in
theorem kX1_mason {C : Cx} {hr : Nat} {o0 : Nat} {a0 : Nat → Nat} (hC : Fx C cX1_mason 5 RX1) (hR0 : xR C = rm (hr + 1)) {post : Int32 → St → Prop} (hR : RI C cX1_mason 5 (fun u : St => (wX2 o0 a0 (xy C) u [])) (fun r u => post r u)) {Q0 : Int32 → Int32 → St → (Int32 → St → Prop) → Prop} (hQ0 : ∀ (x1 : Int32) (x2 : Int32) (u0 : St) (post : Int32 → St → Prop), Q0 x1 x2 u0 post → CtI (xl C) (xD C) (xy C) (xk C) yX1_bailiff cX1_bailiff 5 hr .int [.ref o0, .int x1, .int x2] (fun u : St => (wX2 o0 a0 (xy C) u [])) u0 (fun r u => post r u)) (hB : 3 ≤ hr) {x1 : Int32} {x2 : Int32} {u0 : St} (h : qX1_mason_body Q0 x1 x2 u0 post) : G C 0 0 5 (wX2 o0 a0 (xy C) u0 []) 0 [(0, .ref o0), (1, .int x1), (2, .int x2)] [] := by
  refine g_iload_n (pc := 0) hC 1 dX1_mason_0 rfl rfl ?_
  refine g_if_gt (pc := 1) (tgt := 14) hC dX1_mason_1 (by decide) (fun c_72 => ?_) (fun c_72 => ?_)
  · have h := h.1 c_72
    refine g_aload_n (pc := 14) hC 0 dX1_mason_14 rfl rfl ?_
    refine g_iload_n (pc := 15) hC 1 dX1_mason_15 rfl rfl ?_
    refine g_iconst (pc := 16) (v := 1) hC dX1_mason_16 (by decide) ?_
    refine g_isub (pc := 17) hC dX1_mason_17 ?_
    refine g_iload_n (pc := 18) hC 2 dX1_mason_18 rfl rfl ?_
    refine g_callS_i (pc := 19) (wd := fun (u : St) Y => (wX2 o0 a0 (xy C) u Y)) (F := fun Z => Z) (X := []) (As := [.ref o0, .int (x1 - (1 : Int32)), .int x2]) (rest := []) (u := u0) hC (fun _ _ => rfl) (fun _ => rfl) (hQ0 _ _ _ _ h) wvX1_bailiff ml_X1_47 rfl (rmokO hR0 (by omega) (Nat.le_of_ble_eq_true rfl)) ⟨Nat.zero_le _, Nat.zero_le _⟩ rfl (Nat.le_of_ble_eq_true rfl) dX1_mason_19 (fun r_74 u_73 h => ?_)
    refine g_istore_n (pc := 22) (lv' := [(3, .int r_74), (0, .ref o0), (1, .int x1), (2, .int x2)]) hC dX1_mason_22 rfl (Nat.le_of_ble_eq_true rfl) rfl ?_
    refine g_iconst (pc := 23) (v := 0) hC dX1_mason_23 (by decide) ?_
    refine g_istore (pc := 24) (lv' := [(4, .int (0 : Int32)), (3, .int r_74), (0, .ref o0), (1, .int x1), (2, .int x2)]) hC dX1_mason_24 (Nat.le_of_ble_eq_true rfl) rfl ?_
    refine g_sub (lv' := [(0, .ref o0), (1, .int x1), (2, .int x2), (3, .int r_74), (4, .int (0 : Int32))]) [2, 3, 4, 1, 0] rfl ?_
    obtain ⟨n_76, h⟩ := h
    exact kX1_mason_L26 hC hR0 hR hQ0 hB  n_76 _ _ _ _ _ h
  · have h := h.2 c_72
    refine g_aload_n (pc := 4) hC 0 dX1_mason_4 rfl rfl ?_
    refine g_iload_n (pc := 5) hC 2 dX1_mason_5 rfl rfl ?_
    refine g_iconst (pc := 6) (v := 0) hC dX1_mason_6 (by decide) ?_
    refine g_callV_i (pc := 7) (wd := fun (u : St) Y => (wX2 o0 a0 (xy C) u Y)) (F := fun Z => Z) (X := []) (As := [.int x2, .int (0 : Int32)]) (rest := []) (u := u0) hC (fun _ _ => rfl) (fun _ => rfl) (ctX2_standing h) wvX2_standing ml_X1_9 (ci := 1) (q0 := 0) rfl rfl rfl rfl (rmokO hR0 (by omega) (Nat.le_of_ble_eq_true rfl)) ⟨Nat.zero_le _, Nat.zero_le _⟩ rfl (Nat.le_of_ble_eq_true rfl) dX1_mason_7 (fun r_78 u_77 h => ?_)
    refine g_callS_i (pc := 10) (wd := fun (_ : Unit) Y => Y) (F := fun Z => Z) (X := []) (As := [.int r_78]) (rest := []) (u := ()) hC (fun _ _ => rfl) (fun _ => rfl) (ctJ6_bitCount_0f7a4 h) wvJ6_bitCount_0f7a4 ml_X1_15 rfl (rmokO hR0 (by omega) (Nat.le_of_ble_eq_true rfl)) ⟨Nat.zero_le _, Nat.zero_le _⟩ rfl (Nat.le_of_ble_eq_true rfl) dX1_mason_10 (fun r_80 u_81 h => ?_)
    exact hR _ _ _ u_77 dX1_mason_13 h
def qX1_bailiff : Nat → Int32 → Int32 → St → (Int32 → St → Prop) → Prop
  | 0 => fun _ _ _ _ => False
  | n + 1 => qX1_bailiff_body (qX1_mason_body (qX1_bailiff n))
def qX1_mason (n : Nat) : Int32 → Int32 → St → (Int32 → St → Prop) → Prop := qX1_mason_body (qX1_bailiff n)
theorem ctX1_masonS {l : Launch} {D : va_G} {cy : Nat → ClassId} {kd : Nat → Nat} {o0 : Nat} {a0 : Nat → Nat} {Q : Int32 → Int32 → St → (Int32 → St → Prop) → Prop} {hr : Nat} (hB : 3 ≤ hr) (hQ : ∀ (x1 x2 : Int32) (u0 : St) (post : Int32 → St → Prop), Q x1 x2 u0 post → CtI l D cy kd yX1_bailiff cX1_bailiff 5 hr .int [.ref o0, .int x1, .int x2] (fun u : St => wX2 o0 a0 cy u []) u0 (fun r u => post r u)) {x1 x2 : Int32} {u0 : St} {post : Int32 → St → Prop} (h : qX1_mason_body Q x1 x2 u0 post) : CtI l D cy kd yX1_mason cX1_mason 5 (hr + 1) .int [.ref o0, .int x1, .int x2] (fun u : St => wX2 o0 a0 cy u []) u0 (fun r u => post r u) :=
  met_i (by decide) (Nat.le_of_ble_eq_true rfl) (fun C e1 e2 e3 e4 e5 hC hR => by subst e1 e2 e3 e4; exact kX1_mason hC e5 hR hQ hB h)
theorem ctX1_bailiff {l : Launch} {D : va_G} {cy : Nat → ClassId} {kd : Nat → Nat} {o0 : Nat} {a0 : Nat → Nat} : ∀ (n : Nat) {x1 x2 : Int32} {u0 : St} {post : Int32 → St → Prop} (h : qX1_bailiff n x1 x2 u0 post), CtI l D cy kd yX1_bailiff cX1_bailiff 5 (3 + 2 * n) .int [.ref o0, .int x1, .int x2] (fun u : St => wX2 o0 a0 cy u []) u0 (fun r u => post r u) := by
  intro n
  induction n with
  | zero => intro x1 x2 u0 post h; exact h.elim
  | succ n ih =>
    intro x1 x2 u0 post h
    exact met_i (h := (3 + 2 * n + 1) + 1) (by decide) (Nat.le_of_ble_eq_true rfl) (fun C e1 e2 e3 e4 e5 hC hR => by subst e1 e2 e3 e4; exact kX1_bailiff hC e5 hR (fun _ _ _ _ h => ctX1_masonS (Nat.le_add_right _ _) (fun _ _ _ _ h => ih h) h) (Nat.le_trans (Nat.le_add_right _ _) (Nat.le_succ _)) h)
theorem ctX1_mason {l : Launch} {D : va_G} {cy : Nat → ClassId} {kd : Nat → Nat} {o0 : Nat} {a0 : Nat → Nat} (n : Nat) {x1 x2 : Int32} {u0 : St} {post : Int32 → St → Prop} (h : qX1_mason n x1 x2 u0 post) : CtI l D cy kd yX1_mason cX1_mason 5 (3 + 2 * n + 1) .int [.ref o0, .int x1, .int x2] (fun u : St => wX2 o0 a0 cy u []) u0 (fun r u => post r u) := ctX1_masonS (Nat.le_add_right _ _) (fun _ _ _ _ h => ctX1_bailiff n h) h
theorem dX1_firstMove_0 : decode cX1_firstMove 0 = .ok (.iconst (-1), 1) := by decide +kernel
theorem dX1_firstMove_1 : decode cX1_firstMove 1 = .ok (.istore_n 2, 1) := by decide +kernel
theorem dX1_firstMove_2 : decode cX1_firstMove 2 = .ok (.bipush 9, 2) := by decide +kernel
theorem dX1_firstMove_4 : decode cX1_firstMove 4 = .ok (.istore_n 3, 1) := by decide +kernel
theorem dX1_firstMove_5 : decode cX1_firstMove 5 = .ok (.iconst 0, 1) := by decide +kernel
theorem dX1_firstMove_6 : decode cX1_firstMove 6 = .ok (.istore 4, 2) := by decide +kernel
theorem dX1_firstMove_8 : decode cX1_firstMove 8 = .ok (.iload 4, 2) := by decide +kernel
theorem dX1_firstMove_10 : decode cX1_firstMove 10 = .ok (.aload_n 0, 1) := by decide +kernel
theorem dX1_firstMove_11 : decode cX1_firstMove 11 = .ok (.getfield 27, 3) := by decide +kernel
theorem dX1_firstMove_14 : decode cX1_firstMove 14 = .ok (.if_icmp .ge 46, 3) := by decide +kernel
theorem dX1_firstMove_17 : decode cX1_firstMove 17 = .ok (.aload_n 0, 1) := by decide +kernel
theorem dX1_firstMove_18 : decode cX1_firstMove 18 = .ok (.getfield 31, 3) := by decide +kernel
theorem dX1_firstMove_21 : decode cX1_firstMove 21 = .ok (.iload 4, 2) := by decide +kernel
theorem dX1_firstMove_23 : decode cX1_firstMove 23 = .ok (.invokestatic 34, 3) := by decide +kernel
theorem dX1_firstMove_26 : decode cX1_firstMove 26 = .ok (.ifCond .ne 28, 3) := by decide +kernel
theorem dX1_firstMove_29 : decode cX1_firstMove 29 = .ok (.aload_n 0, 1) := by decide +kernel
theorem dX1_firstMove_30 : decode cX1_firstMove 30 = .ok (.iload_n 1, 1) := by decide +kernel
theorem dX1_firstMove_31 : decode cX1_firstMove 31 = .ok (.iconst 1, 1) := by decide +kernel
theorem dX1_firstMove_32 : decode cX1_firstMove 32 = .ok (.isub, 1) := by decide +kernel
theorem dX1_firstMove_33 : decode cX1_firstMove 33 = .ok (.iconst 1, 1) := by decide +kernel
theorem dX1_firstMove_34 : decode cX1_firstMove 34 = .ok (.iload 4, 2) := by decide +kernel
theorem dX1_firstMove_36 : decode cX1_firstMove 36 = .ok (.ishl, 1) := by decide +kernel
theorem dX1_firstMove_37 : decode cX1_firstMove 37 = .ok (.invokestatic 21, 3) := by decide +kernel
theorem dX1_firstMove_40 : decode cX1_firstMove 40 = .ok (.istore 5, 2) := by decide +kernel
theorem dX1_firstMove_42 : decode cX1_firstMove 42 = .ok (.iload 5, 2) := by decide +kernel
theorem dX1_firstMove_44 : decode cX1_firstMove 44 = .ok (.iload_n 3, 1) := by decide +kernel
theorem dX1_firstMove_45 : decode cX1_firstMove 45 = .ok (.if_icmp .ge 9, 3) := by decide +kernel
theorem dX1_firstMove_48 : decode cX1_firstMove 48 = .ok (.iload 5, 2) := by decide +kernel
theorem dX1_firstMove_50 : decode cX1_firstMove 50 = .ok (.istore_n 3, 1) := by decide +kernel
theorem dX1_firstMove_51 : decode cX1_firstMove 51 = .ok (.iload 4, 2) := by decide +kernel
theorem dX1_firstMove_53 : decode cX1_firstMove 53 = .ok (.istore_n 2, 1) := by decide +kernel
theorem dX1_firstMove_54 : decode cX1_firstMove 54 = .ok (.iinc 4 1, 3) := by decide +kernel
theorem dX1_firstMove_57 : decode cX1_firstMove 57 = .ok (.goto (-49), 3) := by decide +kernel
theorem dX1_firstMove_60 : decode cX1_firstMove 60 = .ok (.aload_n 0, 1) := by decide +kernel
theorem dX1_firstMove_61 : decode cX1_firstMove 61 = .ok (.iload_n 1, 1) := by decide +kernel
theorem dX1_firstMove_62 : decode cX1_firstMove 62 = .ok (.iconst 1, 1) := by decide +kernel
theorem dX1_firstMove_63 : decode cX1_firstMove 63 = .ok (.isub, 1) := by decide +kernel
theorem dX1_firstMove_64 : decode cX1_firstMove 64 = .ok (.iconst 0, 1) := by decide +kernel
theorem dX1_firstMove_65 : decode cX1_firstMove 65 = .ok (.invokestatic 21, 3) := by decide +kernel
theorem dX1_firstMove_68 : decode cX1_firstMove 68 = .ok (.iload_n 3, 1) := by decide +kernel
theorem dX1_firstMove_69 : decode cX1_firstMove 69 = .ok (.if_icmp .ge 7, 3) := by decide +kernel
theorem dX1_firstMove_72 : decode cX1_firstMove 72 = .ok (.iconst (-1), 1) := by decide +kernel
theorem dX1_firstMove_73 : decode cX1_firstMove 73 = .ok (.goto 4, 3) := by decide +kernel
theorem dX1_firstMove_76 : decode cX1_firstMove 76 = .ok (.iload_n 2, 1) := by decide +kernel
theorem dX1_firstMove_77 : decode cX1_firstMove 77 = .ok (.ireturn, 1) := by decide +kernel
def qX1_firstMove_b54   (post : Int32 → St → Prop) (K8 : Int32 → Int32 → Int32 → Int32 → St → Prop) (x1 : Int32) (x2 : Int32) (x3 : Int32) (x4 : Int32) (u0 : St) : Prop := ∀ x4_91 : Int32, x4_91 = x4 + (1 : Int32) → K8 x1 x2 x3 x4_91 u0
set_option maxRecDepth 100000 in
set_option maxHeartbeats 4000000 in
theorem kX1_firstMove_b54 {C : Cx} {o0 : Nat} {a0 : Nat → Nat} (hC : Fx C cX1_firstMove 6 RX1) (hR0 : xR C = rm 11) {post : Int32 → St → Prop} (hR : RI C cX1_firstMove 6 (fun u : St => (wX2 o0 a0 (xy C) u [])) (fun r u => post r u)) {K8 : Int32 → Int32 → Int32 → Int32 → St → Prop} (hK8 : ∀ (x1 : Int32) (x2 : Int32) (x3 : Int32) (x4 : Int32) (u0 : St), K8 x1 x2 x3 x4 u0 → G C 0 0 6 (wX2 o0 a0 (xy C) u0 []) 8 [(0, .ref o0), (1, .int x1), (2, .int x2), (3, .int x3), (4, .int x4)] []) {x1 : Int32} {x2 : Int32} {x3 : Int32} {x4 : Int32} {u0 : St} (h : qX1_firstMove_b54 post K8 x1 x2 x3 x4 u0) : G C 0 0 6 (wX2 o0 a0 (xy C) u0 []) 54 [(0, .ref o0), (1, .int x1), (2, .int x2), (3, .int x3), (4, .int x4)] [] := by
  obtain ⟨x4_91, ex4_91⟩ : ∃ z : Int32, z = x4 + (1 : Int32) := ⟨_, rfl⟩
  have h := h x4_91 ex4_91
  refine g_iinc (pc := 54) (v := x4_91) (lv' := [(4, .int x4_91), (0, .ref o0), (1, .int x1), (2, .int x2), (3, .int x3)]) hC 4 dX1_firstMove_54 rfl (by rw [ex4_91]; rfl) (Nat.le_of_ble_eq_true rfl) rfl ?_
  refine g_goto (pc := 57) (tgt := 8) hC dX1_firstMove_57 (by decide) ?_
  refine g_sub (lv' := [(0, .ref o0), (1, .int x1), (2, .int x2), (3, .int x3), (4, .int x4_91)]) [1, 2, 3, 4, 0] rfl ?_
  exact hK8 _ _ _ _ _ h
def qX1_firstMove_b77   (post : Int32 → St → Prop)  (s0 : Int32) (u0 : St) : Prop := post s0 u0
set_option maxRecDepth 100000 in
set_option maxHeartbeats 4000000 in
theorem kX1_firstMove_b77 {C : Cx} {o0 : Nat} {a0 : Nat → Nat} (hC : Fx C cX1_firstMove 6 RX1) (hR0 : xR C = rm 11) {post : Int32 → St → Prop} (hR : RI C cX1_firstMove 6 (fun u : St => (wX2 o0 a0 (xy C) u [])) (fun r u => post r u))  {s0 : Int32} {u0 : St} (h : qX1_firstMove_b77 post s0 u0) : G C 0 0 6 (wX2 o0 a0 (xy C) u0 []) 77 [] [.int s0] := by
  exact hR _ _ _ u0 dX1_firstMove_77 h
def qX1_firstMove_b60   (post : Int32 → St → Prop)  (x1 : Int32) (x2 : Int32) (x3 : Int32) (u0 : St) : Prop := qX1_mason 3 (x1 - (1 : Int32)) (0 : Int32) u0 (fun r_93 u_92 => ((x3 ≤ r_93 → qX1_firstMove_b77 post x2 u_92) ∧ (¬ x3 ≤ r_93 → qX1_firstMove_b77 post (-1 : Int32) u_92)))
set_option maxRecDepth 100000 in
set_option maxHeartbeats 4000000 in
theorem kX1_firstMove_b60 {C : Cx} {o0 : Nat} {a0 : Nat → Nat} (hC : Fx C cX1_firstMove 6 RX1) (hR0 : xR C = rm 11) {post : Int32 → St → Prop} (hR : RI C cX1_firstMove 6 (fun u : St => (wX2 o0 a0 (xy C) u [])) (fun r u => post r u))  {x1 : Int32} {x2 : Int32} {x3 : Int32} {u0 : St} (h : qX1_firstMove_b60 post x1 x2 x3 u0) : G C 0 0 6 (wX2 o0 a0 (xy C) u0 []) 60 [(0, .ref o0), (1, .int x1), (2, .int x2), (3, .int x3)] [] := by
  refine g_aload_n (pc := 60) hC 0 dX1_firstMove_60 rfl rfl ?_
  refine g_iload_n (pc := 61) hC 1 dX1_firstMove_61 rfl rfl ?_
  refine g_iconst (pc := 62) (v := 1) hC dX1_firstMove_62 (by decide) ?_
  refine g_isub (pc := 63) hC dX1_firstMove_63 ?_
  refine g_iconst (pc := 64) (v := 0) hC dX1_firstMove_64 (by decide) ?_
  refine g_callS_i (pc := 65) (wd := fun (u : St) Y => (wX2 o0 a0 (xy C) u Y)) (F := fun Z => Z) (X := []) (As := [.ref o0, .int (x1 - (1 : Int32)), .int (0 : Int32)]) (rest := []) (u := u0) hC (fun _ _ => rfl) (fun _ => rfl) (ctX1_mason 3 h) wvX1_mason ml_X1_21 rfl (rmok hR0 rfl) ⟨Nat.zero_le _, Nat.zero_le _⟩ rfl (Nat.le_of_ble_eq_true rfl) dX1_firstMove_65 (fun r_93 u_92 h => ?_)
  refine g_iload_n (pc := 68) hC 3 dX1_firstMove_68 rfl rfl ?_
  refine g_icmp_ge (pc := 69) (tgt := 76) hC dX1_firstMove_69 (by decide) (fun c_95 => ?_) (fun c_95 => ?_)
  · have h := h.1 c_95
    refine g_iload_n (pc := 76) hC 2 dX1_firstMove_76 rfl rfl ?_
    refine g_sub (lv' := []) [] rfl ?_
    exact kX1_firstMove_b77 hC hR0 hR   h
  · have h := h.2 c_95
    refine g_iconst (pc := 72) (v := -1) hC dX1_firstMove_72 (by decide) ?_
    refine g_goto (pc := 73) (tgt := 77) hC dX1_firstMove_73 (by decide) ?_
    refine g_sub (lv' := []) [] rfl ?_
    exact kX1_firstMove_b77 hC hR0 hR   h
def qX1_firstMove_l8   (post : Int32 → St → Prop) (K8 : Int32 → Int32 → Int32 → Int32 → St → Prop) (x1 : Int32) (x2 : Int32) (x3 : Int32) (x4 : Int32) (u0 : St) : Prop := (((gi u0 2) ≤ x4 → qX1_firstMove_b60 post x1 x2 x3 u0) ∧ (¬ (gi u0 2) ≤ x4 → qX11_has (gi u0 6) x4 (fun r_97 => ((¬ r_97 = 0 → qX1_firstMove_b54 post K8 x1 x2 x3 x4 u0) ∧ (r_97 = 0 → qX1_mason 3 (x1 - (1 : Int32)) ((1 : Int32) <<< (x4 &&& 31)) u0 (fun r_101 u_100 => ((x3 ≤ r_101 → qX1_firstMove_b54 post K8 x1 x2 x3 x4 u_100) ∧ (¬ x3 ≤ r_101 → qX1_firstMove_b54 post K8 x1 x4 r_101 x4 u_100))))))))
set_option maxRecDepth 100000 in
set_option maxHeartbeats 4000000 in
theorem kX1_firstMove_l8 {C : Cx} {o0 : Nat} {a0 : Nat → Nat} (hC : Fx C cX1_firstMove 6 RX1) (hR0 : xR C = rm 11) {post : Int32 → St → Prop} (hR : RI C cX1_firstMove 6 (fun u : St => (wX2 o0 a0 (xy C) u [])) (fun r u => post r u))  {K8 : Int32 → Int32 → Int32 → Int32 → St → Prop} (hK8 : ∀ (x1 : Int32) (x2 : Int32) (x3 : Int32) (x4 : Int32) (u0 : St), K8 x1 x2 x3 x4 u0 → G C 0 0 6 (wX2 o0 a0 (xy C) u0 []) 8 [(0, .ref o0), (1, .int x1), (2, .int x2), (3, .int x3), (4, .int x4)] []) {x1 : Int32} {x2 : Int32} {x3 : Int32} {x4 : Int32} {u0 : St} (h : qX1_firstMove_l8 post K8 x1 x2 x3 x4 u0) : G C 0 0 6 (wX2 o0 a0 (xy C) u0 []) 8 [(0, .ref o0), (1, .int x1), (2, .int x2), (3, .int x3), (4, .int x4)] [] := by
  refine g_iload (pc := 8) hC 4 dX1_firstMove_8 rfl ?_
  refine g_aload_n (pc := 10) hC 0 dX1_firstMove_10 rfl rfl ?_
  refine getX2_2 (pc := 11) hC (F := fun Z => Z) (X := []) (fun _ => rfl) fl_X1_27 dX1_firstMove_11 ?_
  refine g_icmp_ge (pc := 14) (tgt := 60) hC dX1_firstMove_14 (by decide) (fun c_96 => ?_) (fun c_96 => ?_)
  · have h := h.1 c_96
    refine g_sub (lv' := [(0, .ref o0), (1, .int x1), (2, .int x2), (3, .int x3)]) [0, 1, 2, 3] rfl ?_
    exact kX1_firstMove_b60 hC hR0 hR   h
  · have h := h.2 c_96
    refine g_aload_n (pc := 17) hC 0 dX1_firstMove_17 rfl rfl ?_
    refine getX2_6 (pc := 18) hC (F := fun Z => Z) (X := []) (fun _ => rfl) fl_X1_31 dX1_firstMove_18 ?_
    refine g_iload (pc := 21) hC 4 dX1_firstMove_21 rfl ?_
    refine g_callSN_i (pc := 23) (wd := fun (_ : Unit) Y => Y) (F := fun Z => Z) (X := []) (As := [.int (gi u0 6), .int x4]) (rest := []) (u := ()) hC (fun _ _ => rfl) (fun _ => rfl) (ctX11_has h) wvX11_has nl_X1_34 rfl (rmok hR0 rfl) ⟨Nat.zero_le _, Nat.zero_le _⟩ rfl (Nat.le_of_ble_eq_true rfl) dX1_firstMove_23 (fun r_97 u_98 h => ?_)
    refine g_if_ne (pc := 26) (tgt := 54) hC dX1_firstMove_26 (by decide) (fun c_99 => ?_) (fun c_99 => ?_)
    · have h := h.1 c_99
      exact kX1_firstMove_b54 hC hR0 hR  hK8 h
    · have h := h.2 c_99
      refine g_aload_n (pc := 29) hC 0 dX1_firstMove_29 rfl rfl ?_
      refine g_iload_n (pc := 30) hC 1 dX1_firstMove_30 rfl rfl ?_
      refine g_iconst (pc := 31) (v := 1) hC dX1_firstMove_31 (by decide) ?_
      refine g_isub (pc := 32) hC dX1_firstMove_32 ?_
      refine g_iconst (pc := 33) (v := 1) hC dX1_firstMove_33 (by decide) ?_
      refine g_iload (pc := 34) hC 4 dX1_firstMove_34 rfl ?_
      refine g_ishl (pc := 36) hC dX1_firstMove_36 ?_
      refine g_callS_i (pc := 37) (wd := fun (u : St) Y => (wX2 o0 a0 (xy C) u Y)) (F := fun Z => Z) (X := []) (As := [.ref o0, .int (x1 - (1 : Int32)), .int ((1 : Int32) <<< (x4 &&& 31))]) (rest := []) (u := u0) hC (fun _ _ => rfl) (fun _ => rfl) (ctX1_mason 3 h) wvX1_mason ml_X1_21 rfl (rmok hR0 rfl) ⟨Nat.zero_le _, Nat.zero_le _⟩ rfl (Nat.le_of_ble_eq_true rfl) dX1_firstMove_37 (fun r_101 u_100 h => ?_)
      refine g_istore (pc := 40) (lv' := [(5, .int r_101), (0, .ref o0), (1, .int x1), (2, .int x2), (3, .int x3), (4, .int x4)]) hC dX1_firstMove_40 (Nat.le_of_ble_eq_true rfl) rfl ?_
      refine g_iload (pc := 42) hC 0 dX1_firstMove_42 rfl ?_
      refine g_iload_n (pc := 44) hC 4 dX1_firstMove_44 rfl rfl ?_
      refine g_icmp_ge (pc := 45) (tgt := 54) hC dX1_firstMove_45 (by decide) (fun c_103 => ?_) (fun c_103 => ?_)
      · have h := h.1 c_103
        refine g_sub (lv' := [(0, .ref o0), (1, .int x1), (2, .int x2), (3, .int x3), (4, .int x4)]) [1, 2, 3, 4, 5] rfl ?_
        exact kX1_firstMove_b54 hC hR0 hR  hK8 h
      · have h := h.2 c_103
        refine g_iload (pc := 48) hC 0 dX1_firstMove_48 rfl ?_
        refine g_istore_n (pc := 50) (lv' := [(3, .int r_101), (5, .int r_101), (0, .ref o0), (1, .int x1), (2, .int x2), (4, .int x4)]) hC dX1_firstMove_50 rfl (Nat.le_of_ble_eq_true rfl) rfl ?_
        refine g_iload (pc := 51) hC 5 dX1_firstMove_51 rfl ?_
        refine g_istore_n (pc := 53) (lv' := [(2, .int x4), (3, .int r_101), (5, .int r_101), (0, .ref o0), (1, .int x1), (4, .int x4)]) hC dX1_firstMove_53 rfl (Nat.le_of_ble_eq_true rfl) rfl ?_
        refine g_sub (lv' := [(0, .ref o0), (1, .int x1), (2, .int x4), (3, .int r_101), (4, .int x4)]) [3, 4, 0, 1, 5] rfl ?_
        exact kX1_firstMove_b54 hC hR0 hR  hK8 h
def qX1_firstMove_L8   (post : Int32 → St → Prop)  : Nat → Int32 → Int32 → Int32 → Int32 → St → Prop
  | 0 => fun _ _ _ _ _ => False
  | n + 1 => qX1_firstMove_l8 post (qX1_firstMove_L8 post n)
theorem kX1_firstMove_L8 {C : Cx} {o0 : Nat} {a0 : Nat → Nat} (hC : Fx C cX1_firstMove 6 RX1) (hR0 : xR C = rm 11) {post : Int32 → St → Prop} (hR : RI C cX1_firstMove 6 (fun u : St => (wX2 o0 a0 (xy C) u [])) (fun r u => post r u))  : ∀ (n : Nat) (x1 : Int32) (x2 : Int32) (x3 : Int32) (x4 : Int32) (u0 : St), qX1_firstMove_L8 post n x1 x2 x3 x4 u0 → G C 0 0 6 (wX2 o0 a0 (xy C) u0 []) 8 [(0, .ref o0), (1, .int x1), (2, .int x2), (3, .int x3), (4, .int x4)] [] := by
  intro n
  induction n with
  | zero => intro x1 x2 x3 x4 u0 h; exact h.elim
  | succ n ih => intro x1 x2 x3 x4 u0 h; exact kX1_firstMove_l8 hC hR0 hR   ih h
def qX1_firstMove  (x1 : Int32) (u0 : St) (post : Int32 → St → Prop) : Prop := ∃ n_104 : Nat, qX1_firstMove_L8 post n_104 x1 (-1 : Int32) (9 : Int32) (0 : Int32) u0
set_option maxRecDepth 100000 in
set_option maxHeartbeats 4000000 in
theorem kX1_firstMove {C : Cx} {o0 : Nat} {a0 : Nat → Nat} (hC : Fx C cX1_firstMove 6 RX1) (hR0 : xR C = rm 11) {post : Int32 → St → Prop} (hR : RI C cX1_firstMove 6 (fun u : St => (wX2 o0 a0 (xy C) u [])) (fun r u => post r u)) {x1 : Int32} {u0 : St} (h : qX1_firstMove  x1 u0 post) : G C 0 0 6 (wX2 o0 a0 (xy C) u0 []) 0 [(0, .ref o0), (1, .int x1)] [] := by
  refine g_iconst (pc := 0) (v := -1) hC dX1_firstMove_0 (by decide) ?_
  refine g_istore_n (pc := 1) (lv' := [(2, .int (-1 : Int32)), (0, .ref o0), (1, .int x1)]) hC dX1_firstMove_1 rfl (Nat.le_of_ble_eq_true rfl) rfl ?_
  refine g_bipush (pc := 2) (v := 9) hC dX1_firstMove_2 (by decide) ?_
  refine g_istore_n (pc := 4) (lv' := [(3, .int (9 : Int32)), (2, .int (-1 : Int32)), (0, .ref o0), (1, .int x1)]) hC dX1_firstMove_4 rfl (Nat.le_of_ble_eq_true rfl) rfl ?_
  refine g_iconst (pc := 5) (v := 0) hC dX1_firstMove_5 (by decide) ?_
  refine g_istore (pc := 6) (lv' := [(4, .int (0 : Int32)), (3, .int (9 : Int32)), (2, .int (-1 : Int32)), (0, .ref o0), (1, .int x1)]) hC dX1_firstMove_6 (Nat.le_of_ble_eq_true rfl) rfl ?_
  refine g_sub (lv' := [(0, .ref o0), (1, .int x1), (2, .int (-1 : Int32)), (3, .int (9 : Int32)), (4, .int (0 : Int32))]) [3, 4, 2, 1, 0] rfl ?_
  obtain ⟨n_104, h⟩ := h
  exact kX1_firstMove_L8 hC hR0 hR   n_104 _ _ _ _ _ h
theorem ctX1_firstMove {l : Launch} {D : va_G} {cy : Nat → ClassId} {kd : Nat → Nat} {o0 : Nat} {a0 : Nat → Nat} {x1 : Int32} {u0 : St} {post : Int32 → St → Prop} (h : qX1_firstMove x1 u0 post) : CtI l D cy kd yX1_firstMove cX1_firstMove 6 11 .int [.ref o0, .int x1] (fun u : St => (wX2 o0 a0 cy u [])) u0 (fun r u => post r u) := met_i (by decide) (Nat.le_of_ble_eq_true rfl) (fun C e1 e2 e3 e4 e5 hC hR => by subst e1 e2 e3 e4; exact kX1_firstMove hC e5 hR h)
