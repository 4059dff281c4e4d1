/-! reference -/
theorem dX12_isThere_0 : decode cX12_isThere 0 = .ok (.aload_n 0, 1) := by decide +kernel
theorem dX12_isThere_1 : decode cX12_isThere 1 = .ok (.ldc 181, 2) := by decide +kernel
theorem dX12_isThere_3 : decode cX12_isThere 3 = .ok (.invokevirtual 173, 3) := by decide +kernel
theorem dX12_isThere_6 : decode cX12_isThere 6 = .ok (.iload_n 1, 1) := by decide +kernel
theorem dX12_isThere_7 : decode cX12_isThere 7 = .ok (.if_icmp .eq 5, 3) := by decide +kernel
theorem dX12_isThere_10 : decode cX12_isThere 10 = .ok (.iconst 0, 1) := by decide +kernel
theorem dX12_isThere_11 : decode cX12_isThere 11 = .ok (.ireturn, 1) := by decide +kernel
theorem dX12_isThere_12 : decode cX12_isThere 12 = .ok (.aload_n 0, 1) := by decide +kernel
theorem dX12_isThere_13 : decode cX12_isThere 13 = .ok (.invokevirtual 164, 3) := by decide +kernel
theorem dX12_isThere_16 : decode cX12_isThere 16 = .ok (.iconst 1, 1) := by decide +kernel
theorem dX12_isThere_17 : decode cX12_isThere 17 = .ok (.ireturn, 1) := by decide +kernel
def qX12_isThere (x1 : Int32) (u0 : St) (post : Int32 → St → Prop) : Prop := qX12_inWords u0 (fun r_7 u_6 => ((r_7 = x1 → qX12_ahead u_6 (fun u_10 => post (1 : Int32) u_10)) ∧ (¬ r_7 = x1 → post (0 : Int32) u_6)))
set_option maxRecDepth 100000 in
set_option maxHeartbeats 4000000 in
theorem kX12_isThere {C : Cx} {o0 : Nat} {a0 : Nat → Nat} (hC : Fx C cX12_isThere 2 RX12) (hR0 : xR C = rm 8) {post : Int32 → St → Prop} (hR : RZ C cX12_isThere 2 (fun u : St => (wX12 o0 a0 (xy C) u [])) (fun r u => post r u)) {x1 : Int32} {u0 : St} (h : qX12_isThere x1 u0 post) : G C 0 0 2 (wX12 o0 a0 (xy C) u0 []) 0 [(0, .ref o0), (1, .int x1)] [] := by
  refine g_aload_n (pc := 0) hC 0 dX12_isThere_0 rfl rfl ?_
  refine g_ldcS (pc := 1) hC dX12_isThere_1 ?_
  refine g_callV_i (pc := 3) (wd := fun (u : St) Y => (wX12 o0 a0 (xy C) u Y)) (F := fun Z => Z) (X := []) (As := [.ref (xk C 26)]) (rest := []) (u := u0) hC (fun _ _ => rfl) (fun _ => rfl) (ctX12_inWords h) wvX12_inWords ml_X12_173 (ci := 10) (q0 := 0) rfl rfl rfl rfl (rmok hR0 rfl) ⟨Nat.zero_le _, Nat.zero_le _⟩ rfl (Nat.le_of_ble_eq_true rfl) dX12_isThere_3 (fun r_7 u_6 h => ?_)
  refine g_iload_n (pc := 6) hC 1 dX12_isThere_6 rfl rfl ?_
  refine g_icmp_eq (pc := 7) (tgt := 12) hC dX12_isThere_7 (by decide) (fun c_9 => ?_) (fun c_9 => ?_)
  · have h := h.1 c_9
    refine g_aload_n (pc := 12) hC 0 dX12_isThere_12 rfl rfl ?_
    refine g_callV_v (pc := 13) (wd := fun (u : St) Y => (wX12 o0 a0 (xy C) u Y)) (F := fun Z => Z) (X := []) (As := []) (rest := []) (u := u_6) hC (fun _ _ => rfl) (fun _ => rfl) (ctX12_ahead h) wvX12_ahead ml_X12_164 (ci := 10) (q0 := 0) rfl rfl rfl rfl (rmok hR0 rfl) ⟨Nat.zero_le _, Nat.zero_le _⟩ rfl (Nat.le_of_ble_eq_true rfl) dX12_isThere_13 (fun u_10 h => ?_)
    refine g_iconst (pc := 16) (v := 1) hC dX12_isThere_16 (by decide) ?_
    exact hR _ _ _ u_10 dX12_isThere_17 (Or.inr rfl) h
  · have h := h.2 c_9
    refine g_iconst (pc := 10) (v := 0) hC dX12_isThere_10 (by decide) ?_
    exact hR _ _ _ u_6 dX12_isThere_11 (Or.inl rfl) h
theorem ctX12_isThere {l : Launch} {D : va_G} {cy : Nat → ClassId} {kd : Nat → Nat} {o0 : Nat} {a0 : Nat → Nat} {x1 : Int32} {u0 : St} {post : Int32 → St → Prop} (h : qX12_isThere x1 u0 post) : CtI l D cy kd yX12_isThere cX12_isThere 2 8 .boolean [.ref o0, .int x1] (fun u : St => (wX12 o0 a0 cy u [])) u0 (fun r u => post r u) := met_z (by decide) (Nat.le_of_ble_eq_true rfl) (fun C e1 e2 e3 e4 e5 hC hR => by subst e1 e2 e3 e4; exact kX12_isThere hC e5 hR h)
theorem dX12_isFull_0 : decode cX12_isFull 0 = .ok (.aload_n 0, 1) := by decide +kernel
theorem dX12_isFull_1 : decode cX12_isFull 1 = .ok (.getfield 7, 3) := by decide +kernel
theorem dX12_isFull_4 : decode cX12_isFull 4 = .ok (.sipush 1824, 3) := by decide +kernel
theorem dX12_isFull_7 : decode cX12_isFull 7 = .ok (.iload_n 1, 1) := by decide +kernel
theorem dX12_isFull_8 : decode cX12_isFull 8 = .ok (.iadd, 1) := by decide +kernel
theorem dX12_isFull_9 : decode cX12_isFull 9 = .ok (.iaload, 1) := by decide +kernel
theorem dX12_isFull_10 : decode cX12_isFull 10 = .ok (.iload_n 2, 1) := by decide +kernel
theorem dX12_isFull_11 : decode cX12_isFull 11 = .ok (.if_icmp .ne 7, 3) := by decide +kernel
theorem dX12_isFull_14 : decode cX12_isFull 14 = .ok (.iconst 1, 1) := by decide +kernel
theorem dX12_isFull_15 : decode cX12_isFull 15 = .ok (.goto 4, 3) := by decide +kernel
theorem dX12_isFull_18 : decode cX12_isFull 18 = .ok (.iconst 0, 1) := by decide +kernel
theorem dX12_isFull_19 : decode cX12_isFull 19 = .ok (.ireturn, 1) := by decide +kernel
def qX12_isFull_b19  (post : Int32 → St → Prop)  (s0 : Int32) (u0 : St) : Prop := (bz s0 ∧ post s0 u0)
set_option maxRecDepth 100000 in
set_option maxHeartbeats 4000000 in
theorem kX12_isFull_b19 {C : Cx} {o0 : Nat} {a0 : Nat → Nat} (hC : Fx C cX12_isFull 3 RX12) (hR0 : xR C = rm 1) {post : Int32 → St → Prop} (hR : RZ C cX12_isFull 3 (fun u : St => (wX12 o0 a0 (xy C) u [])) (fun r u => post r u))  {s0 : Int32} {u0 : St} (h : qX12_isFull_b19 post s0 u0) : G C 0 0 3 (wX12 o0 a0 (xy C) u0 []) 19 [] [.int s0] := by
  exact hR _ _ _ u0 dX12_isFull_19 h.1 h.2
def qX12_isFull (x1 : Int32) (x2 : Int32) (u0 : St) (post : Int32 → St → Prop) : Prop := (vp_in ((1824 : Int32) + x1) 3072 ∧ ((¬ (ga u0 0 (((1824 : Int32) + x1)).toNatClampNeg) = x2 → qX12_isFull_b19 post (0 : Int32) u0) ∧ ((ga u0 0 (((1824 : Int32) + x1)).toNatClampNeg) = x2 → qX12_isFull_b19 post (1 : Int32) u0)))
set_option maxRecDepth 100000 in
set_option maxHeartbeats 4000000 in
theorem kX12_isFull {C : Cx} {o0 : Nat} {a0 : Nat → Nat} (hC : Fx C cX12_isFull 3 RX12) (hR0 : xR C = rm 1) {post : Int32 → St → Prop} (hR : RZ C cX12_isFull 3 (fun u : St => (wX12 o0 a0 (xy C) u [])) (fun r u => post r u)) {x1 : Int32} {x2 : Int32} {u0 : St} (h : qX12_isFull x1 x2 u0 post) : G C 0 0 3 (wX12 o0 a0 (xy C) u0 []) 0 [(0, .ref o0), (1, .int x1), (2, .int x2)] [] := by
  refine g_aload_n (pc := 0) hC 0 dX12_isFull_0 rfl rfl ?_
  refine getX12_0 (pc := 1) hC (F := fun Z => Z) (X := []) (fun _ => rfl) fl_X12_7 dX12_isFull_1 ?_
  refine g_sipush (pc := 4) (v := 1824) hC dX12_isFull_4 (by decide) ?_
  refine g_iload_n (pc := 7) hC 1 dX12_isFull_7 rfl rfl ?_
  refine g_iadd (pc := 8) hC dX12_isFull_8 ?_
  refine aldX12_0 (pc := 9) hC (F := fun Z => Z) (X := []) (fun _ => rfl) h.1 dX12_isFull_9 ?_
  have h := h.2
  refine g_iload_n (pc := 10) hC 2 dX12_isFull_10 rfl rfl ?_
  refine g_icmp_ne (pc := 11) (tgt := 18) hC dX12_isFull_11 (by decide) (fun c_1 => ?_) (fun c_1 => ?_)
  · have h := h.1 c_1
    refine g_iconst (pc := 18) (v := 0) hC dX12_isFull_18 (by decide) ?_
    refine g_sub (lv' := []) [] rfl ?_
    exact kX12_isFull_b19 hC hR0 hR  h
  · have h := h.2 c_1
    refine g_iconst (pc := 14) (v := 1) hC dX12_isFull_14 (by decide) ?_
    refine g_goto (pc := 15) (tgt := 19) hC dX12_isFull_15 (by decide) ?_
    refine g_sub (lv' := []) [] rfl ?_
    exact kX12_isFull_b19 hC hR0 hR  h
theorem ctX12_isFull {l : Launch} {D : va_G} {cy : Nat → ClassId} {kd : Nat → Nat} {o0 : Nat} {a0 : Nat → Nat} {x1 : Int32} {x2 : Int32} {u0 : St} {post : Int32 → St → Prop} (h : qX12_isFull x1 x2 u0 post) : CtI l D cy kd yX12_isFull cX12_isFull 3 1 .boolean [.ref o0, .int x1, .int x2] (fun u : St => (wX12 o0 a0 cy u [])) u0 (fun r u => post r u) := met_z (by decide) (Nat.le_of_ble_eq_true rfl) (fun C e1 e2 e3 e4 e5 hC hR => by subst e1 e2 e3 e4; exact kX12_isFull hC e5 hR h)
theorem dX12_aStone_0 : decode cX12_aStone 0 = .ok (.aload_n 0, 1) := by decide +kernel
theorem dX12_aStone_1 : decode cX12_aStone 1 = .ok (.iconst 0, 1) := by decide +kernel
theorem dX12_aStone_2 : decode cX12_aStone 2 = .ok (.bipush 8, 2) := by decide +kernel
theorem dX12_aStone_4 : decode cX12_aStone 4 = .ok (.invokevirtual 183, 3) := by decide +kernel
theorem dX12_aStone_7 : decode cX12_aStone 7 = .ok (.ifCond .eq 10, 3) := by decide +kernel
theorem dX12_aStone_10 : decode cX12_aStone 10 = .ok (.aload_n 0, 1) := by decide +kernel
theorem dX12_aStone_11 : decode cX12_aStone 11 = .ok (.bipush 6, 2) := by decide +kernel
theorem dX12_aStone_13 : decode cX12_aStone 13 = .ok (.invokevirtual 170, 3) := by decide +kernel
theorem dX12_aStone_16 : decode cX12_aStone 16 = .ok (.ireturn, 1) := by decide +kernel
theorem dX12_aStone_17 : decode cX12_aStone 17 = .ok (.sipush 1824, 3) := by decide +kernel
theorem dX12_aStone_20 : decode cX12_aStone 20 = .ok (.aload_n 0, 1) := by decide +kernel
theorem dX12_aStone_21 : decode cX12_aStone 21 = .ok (.getfield 7, 3) := by decide +kernel
theorem dX12_aStone_24 : decode cX12_aStone 24 = .ok (.sipush 1824, 3) := by decide +kernel
theorem dX12_aStone_27 : decode cX12_aStone 27 = .ok (.iaload, 1) := by decide +kernel
theorem dX12_aStone_28 : decode cX12_aStone 28 = .ok (.invokestatic 187, 3) := by decide +kernel
theorem dX12_aStone_31 : decode cX12_aStone 31 = .ok (.iadd, 1) := by decide +kernel
theorem dX12_aStone_32 : decode cX12_aStone 32 = .ok (.istore_n 1, 1) := by decide +kernel
theorem dX12_aStone_33 : decode cX12_aStone 33 = .ok (.aload_n 0, 1) := by decide +kernel
theorem dX12_aStone_34 : decode cX12_aStone 34 = .ok (.invokevirtual 164, 3) := by decide +kernel
theorem dX12_aStone_37 : decode cX12_aStone 37 = .ok (.aload_n 0, 1) := by decide +kernel
theorem dX12_aStone_38 : decode cX12_aStone 38 = .ok (.ldc 181, 2) := by decide +kernel
theorem dX12_aStone_40 : decode cX12_aStone 40 = .ok (.iconst 4, 1) := by decide +kernel
theorem dX12_aStone_41 : decode cX12_aStone 41 = .ok (.invokevirtual 190, 3) := by decide +kernel
theorem dX12_aStone_44 : decode cX12_aStone 44 = .ok (.ifCond .eq 37, 3) := by decide +kernel
theorem dX12_aStone_47 : decode cX12_aStone 47 = .ok (.aload_n 0, 1) := by decide +kernel
theorem dX12_aStone_48 : decode cX12_aStone 48 = .ok (.iload_n 1, 1) := by decide +kernel
theorem dX12_aStone_49 : decode cX12_aStone 49 = .ok (.iconst 0, 1) := by decide +kernel
theorem dX12_aStone_50 : decode cX12_aStone 50 = .ok (.bipush 9, 2) := by decide +kernel
theorem dX12_aStone_52 : decode cX12_aStone 52 = .ok (.invokevirtual 194, 3) := by decide +kernel
theorem dX12_aStone_55 : decode cX12_aStone 55 = .ok (.ifCond .eq 26, 3) := by decide +kernel
theorem dX12_aStone_58 : decode cX12_aStone 58 = .ok (.aload_n 0, 1) := by decide +kernel
theorem dX12_aStone_59 : decode cX12_aStone 59 = .ok (.ldc 181, 2) := by decide +kernel
theorem dX12_aStone_61 : decode cX12_aStone 61 = .ok (.iconst 5, 1) := by decide +kernel
theorem dX12_aStone_62 : decode cX12_aStone 62 = .ok (.invokevirtual 190, 3) := by decide +kernel
theorem dX12_aStone_65 : decode cX12_aStone 65 = .ok (.ifCond .eq 16, 3) := by decide +kernel
theorem dX12_aStone_68 : decode cX12_aStone 68 = .ok (.aload_n 0, 1) := by decide +kernel
theorem dX12_aStone_69 : decode cX12_aStone 69 = .ok (.iload_n 1, 1) := by decide +kernel
theorem dX12_aStone_70 : decode cX12_aStone 70 = .ok (.iconst 1, 1) := by decide +kernel
theorem dX12_aStone_71 : decode cX12_aStone 71 = .ok (.iadd, 1) := by decide +kernel
theorem dX12_aStone_72 : decode cX12_aStone 72 = .ok (.iconst 1, 1) := by decide +kernel
theorem dX12_aStone_73 : decode cX12_aStone 73 = .ok (.bipush 9, 2) := by decide +kernel
theorem dX12_aStone_75 : decode cX12_aStone 75 = .ok (.invokevirtual 194, 3) := by decide +kernel
theorem dX12_aStone_78 : decode cX12_aStone 78 = .ok (.ifCond .ne 5, 3) := by decide +kernel
theorem dX12_aStone_81 : decode cX12_aStone 81 = .ok (.iconst 0, 1) := by decide +kernel
theorem dX12_aStone_82 : decode cX12_aStone 82 = .ok (.ireturn, 1) := by decide +kernel
theorem dX12_aStone_83 : decode cX12_aStone 83 = .ok (.aload_n 0, 1) := by decide +kernel
theorem dX12_aStone_84 : decode cX12_aStone 84 = .ok (.getfield 7, 3) := by decide +kernel
theorem dX12_aStone_87 : decode cX12_aStone 87 = .ok (.iload_n 1, 1) := by decide +kernel
theorem dX12_aStone_88 : decode cX12_aStone 88 = .ok (.iconst 2, 1) := by decide +kernel
theorem dX12_aStone_89 : decode cX12_aStone 89 = .ok (.iadd, 1) := by decide +kernel
theorem dX12_aStone_90 : decode cX12_aStone 90 = .ok (.iconst 0, 1) := by decide +kernel
theorem dX12_aStone_91 : decode cX12_aStone 91 = .ok (.iastore, 1) := by decide +kernel
theorem dX12_aStone_92 : decode cX12_aStone 92 = .ok (.aload_n 0, 1) := by decide +kernel
theorem dX12_aStone_93 : decode cX12_aStone 93 = .ok (.bipush 6, 2) := by decide +kernel
theorem dX12_aStone_95 : decode cX12_aStone 95 = .ok (.invokevirtual 198, 3) := by decide +kernel
theorem dX12_aStone_98 : decode cX12_aStone 98 = .ok (.istore_n 2, 1) := by decide +kernel
theorem dX12_aStone_99 : decode cX12_aStone 99 = .ok (.iload_n 2, 1) := by decide +kernel
theorem dX12_aStone_100 : decode cX12_aStone 100 = .ok (.ifCond .eq 98, 3) := by decide +kernel
theorem dX12_aStone_103 : decode cX12_aStone 103 = .ok (.aload_n 0, 1) := by decide +kernel
theorem dX12_aStone_104 : decode cX12_aStone 104 = .ok (.getfield 133, 3) := by decide +kernel
theorem dX12_aStone_107 : decode cX12_aStone 107 = .ok (.iconst 3, 1) := by decide +kernel
theorem dX12_aStone_108 : decode cX12_aStone 108 = .ok (.if_icmp .ne 90, 3) := by decide +kernel
theorem dX12_aStone_111 : decode cX12_aStone 111 = .ok (.aload_n 0, 1) := by decide +kernel
theorem dX12_aStone_112 : decode cX12_aStone 112 = .ok (.getfield 130, 3) := by decide +kernel
theorem dX12_aStone_115 : decode cX12_aStone 115 = .ok (.aload_n 0, 1) := by decide +kernel
theorem dX12_aStone_116 : decode cX12_aStone 116 = .ok (.getfield 7, 3) := by decide +kernel
theorem dX12_aStone_119 : decode cX12_aStone 119 = .ok (.sipush 1824, 3) := by decide +kernel
theorem dX12_aStone_122 : decode cX12_aStone 122 = .ok (.iaload, 1) := by decide +kernel
theorem dX12_aStone_123 : decode cX12_aStone 123 = .ok (.if_icmp .ge 28, 3) := by decide +kernel
theorem dX12_aStone_126 : decode cX12_aStone 126 = .ok (.aload_n 0, 1) := by decide +kernel
theorem dX12_aStone_127 : decode cX12_aStone 127 = .ok (.aload_n 0, 1) := by decide +kernel
theorem dX12_aStone_128 : decode cX12_aStone 128 = .ok (.getfield 7, 3) := by decide +kernel
theorem dX12_aStone_131 : decode cX12_aStone 131 = .ok (.iload_n 1, 1) := by decide +kernel
theorem dX12_aStone_132 : decode cX12_aStone 132 = .ok (.iconst 2, 1) := by decide +kernel
theorem dX12_aStone_133 : decode cX12_aStone 133 = .ok (.iadd, 1) := by decide +kernel
theorem dX12_aStone_134 : decode cX12_aStone 134 = .ok (.iaload, 1) := by decide +kernel
theorem dX12_aStone_135 : decode cX12_aStone 135 = .ok (.aload_n 0, 1) := by decide +kernel
theorem dX12_aStone_136 : decode cX12_aStone 136 = .ok (.getfield 130, 3) := by decide +kernel
theorem dX12_aStone_139 : decode cX12_aStone 139 = .ok (.invokevirtual 201, 3) := by decide +kernel
theorem dX12_aStone_142 : decode cX12_aStone 142 = .ok (.ifCond .eq 9, 3) := by decide +kernel
theorem dX12_aStone_145 : decode cX12_aStone 145 = .ok (.aload_n 0, 1) := by decide +kernel
theorem dX12_aStone_146 : decode cX12_aStone 146 = .ok (.iconst 5, 1) := by decide +kernel
theorem dX12_aStone_147 : decode cX12_aStone 147 = .ok (.invokevirtual 170, 3) := by decide +kernel
theorem dX12_aStone_150 : decode cX12_aStone 150 = .ok (.ireturn, 1) := by decide +kernel
theorem dX12_aStone_151 : decode cX12_aStone 151 = .ok (.sipush 2272, 3) := by decide +kernel
theorem dX12_aStone_154 : decode cX12_aStone 154 = .ok (.istore_n 3, 1) := by decide +kernel
theorem dX12_aStone_155 : decode cX12_aStone 155 = .ok (.aload_n 0, 1) := by decide +kernel
theorem dX12_aStone_156 : decode cX12_aStone 156 = .ok (.iload_n 3, 1) := by decide +kernel
theorem dX12_aStone_157 : decode cX12_aStone 157 = .ok (.iconst 0, 1) := by decide +kernel
theorem dX12_aStone_158 : decode cX12_aStone 158 = .ok (.aload_n 0, 1) := by decide +kernel
theorem dX12_aStone_159 : decode cX12_aStone 159 = .ok (.getfield 7, 3) := by decide +kernel
theorem dX12_aStone_162 : decode cX12_aStone 162 = .ok (.sipush 1824, 3) := by decide +kernel
theorem dX12_aStone_165 : decode cX12_aStone 165 = .ok (.iaload, 1) := by decide +kernel
theorem dX12_aStone_166 : decode cX12_aStone 166 = .ok (.iconst 1, 1) := by decide +kernel
theorem dX12_aStone_167 : decode cX12_aStone 167 = .ok (.isub, 1) := by decide +kernel
theorem dX12_aStone_168 : decode cX12_aStone 168 = .ok (.invokevirtual 194, 3) := by decide +kernel
theorem dX12_aStone_171 : decode cX12_aStone 171 = .ok (.ifCond .ne 5, 3) := by decide +kernel
theorem dX12_aStone_174 : decode cX12_aStone 174 = .ok (.iconst 0, 1) := by decide +kernel
theorem dX12_aStone_175 : decode cX12_aStone 175 = .ok (.ireturn, 1) := by decide +kernel
theorem dX12_aStone_176 : decode cX12_aStone 176 = .ok (.aload_n 0, 1) := by decide +kernel
theorem dX12_aStone_177 : decode cX12_aStone 177 = .ok (.getfield 7, 3) := by decide +kernel
theorem dX12_aStone_180 : decode cX12_aStone 180 = .ok (.iload_n 1, 1) := by decide +kernel
theorem dX12_aStone_181 : decode cX12_aStone 181 = .ok (.iconst 2, 1) := by decide +kernel
theorem dX12_aStone_182 : decode cX12_aStone 182 = .ok (.iadd, 1) := by decide +kernel
theorem dX12_aStone_183 : decode cX12_aStone 183 = .ok (.dup2, 1) := by decide +kernel
theorem dX12_aStone_184 : decode cX12_aStone 184 = .ok (.iaload, 1) := by decide +kernel
theorem dX12_aStone_185 : decode cX12_aStone 185 = .ok (.iconst 1, 1) := by decide +kernel
theorem dX12_aStone_186 : decode cX12_aStone 186 = .ok (.aload_n 0, 1) := by decide +kernel
theorem dX12_aStone_187 : decode cX12_aStone 187 = .ok (.getfield 7, 3) := by decide +kernel
theorem dX12_aStone_190 : decode cX12_aStone 190 = .ok (.iload_n 3, 1) := by decide +kernel
theorem dX12_aStone_191 : decode cX12_aStone 191 = .ok (.iaload, 1) := by decide +kernel
theorem dX12_aStone_192 : decode cX12_aStone 192 = .ok (.ishl, 1) := by decide +kernel
theorem dX12_aStone_193 : decode cX12_aStone 193 = .ok (.ior, 1) := by decide +kernel
theorem dX12_aStone_194 : decode cX12_aStone 194 = .ok (.iastore, 1) := by decide +kernel
theorem dX12_aStone_195 : decode cX12_aStone 195 = .ok (.goto (-96), 3) := by decide +kernel
theorem dX12_aStone_198 : decode cX12_aStone 198 = .ok (.aload_n 0, 1) := by decide +kernel
theorem dX12_aStone_199 : decode cX12_aStone 199 = .ok (.getfield 7, 3) := by decide +kernel
theorem dX12_aStone_202 : decode cX12_aStone 202 = .ok (.sipush 1824, 3) := by decide +kernel
theorem dX12_aStone_205 : decode cX12_aStone 205 = .ok (.dup2, 1) := by decide +kernel
theorem dX12_aStone_206 : decode cX12_aStone 206 = .ok (.iaload, 1) := by decide +kernel
theorem dX12_aStone_207 : decode cX12_aStone 207 = .ok (.iconst 1, 1) := by decide +kernel
theorem dX12_aStone_208 : decode cX12_aStone 208 = .ok (.iadd, 1) := by decide +kernel
theorem dX12_aStone_209 : decode cX12_aStone 209 = .ok (.iastore, 1) := by decide +kernel
theorem dX12_aStone_210 : decode cX12_aStone 210 = .ok (.iconst 1, 1) := by decide +kernel
theorem dX12_aStone_211 : decode cX12_aStone 211 = .ok (.ireturn, 1) := by decide +kernel
def qX12_aStone_b81  (post : Int32 → St → Prop)  (u0 : St) : Prop := post (0 : Int32) u0
set_option maxRecDepth 100000 in
set_option maxHeartbeats 4000000 in
theorem kX12_aStone_b81 {C : Cx} {o0 : Nat} {a0 : Nat → Nat} (hC : Fx C cX12_aStone 4 RX12) (hR0 : xR C = rm 9) {post : Int32 → St → Prop} (hR : RZ C cX12_aStone 4 (fun u : St => (wX12 o0 a0 (xy C) u [])) (fun r u => post r u))  {u0 : St} (h : qX12_aStone_b81 post u0) : G C 0 0 4 (wX12 o0 a0 (xy C) u0 []) 81 [] [] := by
  refine g_iconst (pc := 81) (v := 0) hC dX12_aStone_81 (by decide) ?_
  exact hR _ _ _ u0 dX12_aStone_82 (Or.inl rfl) h
def qX12_aStone_b145  (post : Int32 → St → Prop)  (u0 : St) : Prop := qX12_fails (5 : Int32) u0 (fun r_39 u_38 => (bz r_39 ∧ post r_39 u_38))
set_option maxRecDepth 100000 in
set_option maxHeartbeats 4000000 in
theorem kX12_aStone_b145 {C : Cx} {o0 : Nat} {a0 : Nat → Nat} (hC : Fx C cX12_aStone 4 RX12) (hR0 : xR C = rm 9) {post : Int32 → St → Prop} (hR : RZ C cX12_aStone 4 (fun u : St => (wX12 o0 a0 (xy C) u [])) (fun r u => post r u))  {u0 : St} (h : qX12_aStone_b145 post u0) : G C 0 0 4 (wX12 o0 a0 (xy C) u0 []) 145 [(0, .ref o0)] [] := by
  refine g_aload_n (pc := 145) hC 0 dX12_aStone_145 rfl rfl ?_
  refine g_iconst (pc := 146) (v := 5) hC dX12_aStone_146 (by decide) ?_
  refine g_callV_i (pc := 147) (wd := fun (u : St) Y => (wX12 o0 a0 (xy C) u Y)) (F := fun Z => Z) (X := []) (As := [.int (5 : Int32)]) (rest := []) (u := u0) hC (fun _ _ => rfl) (fun _ => rfl) (ctX12_fails h) wvX12_fails ml_X12_170 (ci := 10) (q0 := 0) rfl rfl rfl rfl (rmok hR0 rfl) ⟨Nat.zero_le _, Nat.zero_le _⟩ rfl (Nat.le_of_ble_eq_true rfl) dX12_aStone_147 (fun r_39 u_38 h => ?_)
  exact hR _ _ _ u_38 dX12_aStone_150 h.1 h.2
def qX12_aStone_b151  (post : Int32 → St → Prop) (K99 : Int32 → Int32 → St → Prop) (x1 : Int32) (x2 : Int32) (u0 : St) : Prop := qX12_number (2272 : Int32) (0 : Int32) ((ga u0 0 ((1824 : Int32)).toNatClampNeg) - (1 : Int32)) u0 (fun r_42 u_41 => ((¬ r_42 = 0 → (vp_in (x1 + (2 : Int32)) 3072 ∧ (vp_in (x1 + (2 : Int32)) 3072 ∧ ∀ u_45 : St, u_45 = (sw u_41 0 (upd (ga u_41 0) ((x1 + (2 : Int32))).toNatClampNeg ((ga u_41 0 ((x1 + (2 : Int32))).toNatClampNeg) ||| ((1 : Int32) <<< ((ga u_41 0 ((2272 : Int32)).toNatClampNeg) &&& 31))))) → K99 x1 x2 u_45))) ∧ (r_42 = 0 → post (0 : Int32) u_41)))
set_option maxRecDepth 100000 in
set_option maxHeartbeats 4000000 in
theorem kX12_aStone_b151 {C : Cx} {o0 : Nat} {a0 : Nat → Nat} (hC : Fx C cX12_aStone 4 RX12) (hR0 : xR C = rm 9) {post : Int32 → St → Prop} (hR : RZ C cX12_aStone 4 (fun u : St => (wX12 o0 a0 (xy C) u [])) (fun r u => post r u)) {K99 : Int32 → Int32 → St → Prop} (hK99 : ∀ (x1 : Int32) (x2 : Int32) (u0 : St), K99 x1 x2 u0 → G C 0 0 4 (wX12 o0 a0 (xy C) u0 []) 99 [(0, .ref o0), (1, .int x1), (2, .int x2)] []) {x1 : Int32} {x2 : Int32} {u0 : St} (h : qX12_aStone_b151 post K99 x1 x2 u0) : G C 0 0 4 (wX12 o0 a0 (xy C) u0 []) 151 [(0, .ref o0), (1, .int x1), (2, .int x2)] [] := by
  refine g_sipush (pc := 151) (v := 2272) hC dX12_aStone_151 (by decide) ?_
  refine g_istore_n (pc := 154) (lv' := [(3, .int (2272 : Int32)), (0, .ref o0), (1, .int x1), (2, .int x2)]) hC dX12_aStone_154 rfl (Nat.le_of_ble_eq_true rfl) rfl ?_
  refine g_aload_n (pc := 155) hC 1 dX12_aStone_155 rfl rfl ?_
  refine g_iload_n (pc := 156) hC 0 dX12_aStone_156 rfl rfl ?_
  refine g_iconst (pc := 157) (v := 0) hC dX12_aStone_157 (by decide) ?_
  refine g_aload_n (pc := 158) hC 1 dX12_aStone_158 rfl rfl ?_
  refine getX12_0 (pc := 159) hC (F := fun Z => Z) (X := []) (fun _ => rfl) fl_X12_7 dX12_aStone_159 ?_
  refine g_sipush (pc := 162) (v := 1824) hC dX12_aStone_162 (by decide) ?_
  refine aldX12_0 (pc := 165) hC (F := fun Z => Z) (X := []) (fun _ => rfl) (by unfold vp_in; decide) dX12_aStone_165 ?_
  refine g_iconst (pc := 166) (v := 1) hC dX12_aStone_166 (by decide) ?_
  refine g_isub (pc := 167) hC dX12_aStone_167 ?_
  refine g_callV_i (pc := 168) (wd := fun (u : St) Y => (wX12 o0 a0 (xy C) u Y)) (F := fun Z => Z) (X := []) (As := [.int (2272 : Int32), .int (0 : Int32), .int ((ga u0 0 ((1824 : Int32)).toNatClampNeg) - (1 : Int32))]) (rest := []) (u := u0) hC (fun _ _ => rfl) (fun _ => rfl) (ctX12_number h) wvX12_number ml_X12_194 (ci := 10) (q0 := 0) rfl rfl rfl rfl (rmok hR0 rfl) ⟨Nat.zero_le _, Nat.zero_le _⟩ rfl (Nat.le_of_ble_eq_true rfl) dX12_aStone_168 (fun r_42 u_41 h => ?_)
  refine g_if_ne (pc := 171) (tgt := 176) hC dX12_aStone_171 (by decide) (fun c_44 => ?_) (fun c_44 => ?_)
  · have h := h.1 c_44
    refine g_aload_n (pc := 176) hC 1 dX12_aStone_176 rfl rfl ?_
    refine getX12_0 (pc := 177) hC (F := fun Z => Z) (X := []) (fun _ => rfl) fl_X12_7 dX12_aStone_177 ?_
    refine g_iload_n (pc := 180) hC 2 dX12_aStone_180 rfl rfl ?_
    refine g_iconst (pc := 181) (v := 2) hC dX12_aStone_181 (by decide) ?_
    refine g_iadd (pc := 182) hC dX12_aStone_182 ?_
    refine g_dup2 (pc := 183) hC dX12_aStone_183 rfl rfl ?_
    refine aldX12_0 (pc := 184) hC (F := fun Z => Z) (X := []) (fun _ => rfl) h.1 dX12_aStone_184 ?_
    have h := h.2
    refine g_iconst (pc := 185) (v := 1) hC dX12_aStone_185 (by decide) ?_
    refine g_aload_n (pc := 186) hC 1 dX12_aStone_186 rfl rfl ?_
    refine getX12_0 (pc := 187) hC (F := fun Z => Z) (X := []) (fun _ => rfl) fl_X12_7 dX12_aStone_187 ?_
    refine g_iload_n (pc := 190) hC 0 dX12_aStone_190 rfl rfl ?_
    refine aldX12_0 (pc := 191) hC (F := fun Z => Z) (X := []) (fun _ => rfl) (by unfold vp_in; decide) dX12_aStone_191 ?_
    refine g_ishl (pc := 192) hC dX12_aStone_192 ?_
    refine g_ior (pc := 193) hC dX12_aStone_193 ?_
    refine astX12_0 (pc := 194) hC (F := fun Z => Z) (X := []) (fun _ => rfl) h.1 dX12_aStone_194 ?_
    have h := h.2
    refine g_st (w := fun z => (wX12 o0 a0 (xy C) z [])) (u := (sw u_41 0 (upd (ga u_41 0) ((x1 + (2 : Int32))).toNatClampNeg ((ga u_41 0 ((x1 + (2 : Int32))).toNatClampNeg) ||| ((1 : Int32) <<< ((ga u_41 0 ((2272 : Int32)).toNatClampNeg) &&& 31)))))) (fun u_45 eu_45 => ?_)
    have h := h u_45 eu_45
    refine g_goto (pc := 195) (tgt := 99) hC dX12_aStone_195 (by decide) ?_
    refine g_sub (lv' := [(0, .ref o0), (1, .int x1), (2, .int x2)]) [1, 2, 3] rfl ?_
    exact hK99 _ _ _ h
  · have h := h.2 c_44
    refine g_iconst (pc := 174) (v := 0) hC dX12_aStone_174 (by decide) ?_
    exact hR _ _ _ u_41 dX12_aStone_175 (Or.inl rfl) h
def qX12_aStone_b198  (post : Int32 → St → Prop)  (u0 : St) : Prop := ∀ u_46 : St, u_46 = (sw u0 0 (upd (ga u0 0) ((1824 : Int32)).toNatClampNeg ((ga u0 0 ((1824 : Int32)).toNatClampNeg) + (1 : Int32)))) → post (1 : Int32) u_46
set_option maxRecDepth 100000 in
set_option maxHeartbeats 4000000 in
theorem kX12_aStone_b198 {C : Cx} {o0 : Nat} {a0 : Nat → Nat} (hC : Fx C cX12_aStone 4 RX12) (hR0 : xR C = rm 9) {post : Int32 → St → Prop} (hR : RZ C cX12_aStone 4 (fun u : St => (wX12 o0 a0 (xy C) u [])) (fun r u => post r u))  {u0 : St} (h : qX12_aStone_b198 post u0) : G C 0 0 4 (wX12 o0 a0 (xy C) u0 []) 198 [(0, .ref o0)] [] := by
  refine g_aload_n (pc := 198) hC 0 dX12_aStone_198 rfl rfl ?_
  refine getX12_0 (pc := 199) hC (F := fun Z => Z) (X := []) (fun _ => rfl) fl_X12_7 dX12_aStone_199 ?_
  refine g_sipush (pc := 202) (v := 1824) hC dX12_aStone_202 (by decide) ?_
  refine g_dup2 (pc := 205) hC dX12_aStone_205 rfl rfl ?_
  refine aldX12_0 (pc := 206) hC (F := fun Z => Z) (X := []) (fun _ => rfl) (by unfold vp_in; decide) dX12_aStone_206 ?_
  refine g_iconst (pc := 207) (v := 1) hC dX12_aStone_207 (by decide) ?_
  refine g_iadd (pc := 208) hC dX12_aStone_208 ?_
  refine astX12_0 (pc := 209) hC (F := fun Z => Z) (X := []) (fun _ => rfl) (by unfold vp_in; decide) dX12_aStone_209 ?_
  refine g_st (w := fun z => (wX12 o0 a0 (xy C) z [])) (u := (sw u0 0 (upd (ga u0 0) ((1824 : Int32)).toNatClampNeg ((ga u0 0 ((1824 : Int32)).toNatClampNeg) + (1 : Int32))))) (fun u_46 eu_46 => ?_)
  have h := h u_46 eu_46
  refine g_iconst (pc := 210) (v := 1) hC dX12_aStone_210 (by decide) ?_
  exact hR _ _ _ u_46 dX12_aStone_211 (Or.inr rfl) h
def qX12_aStone_l99  (post : Int32 → St → Prop) (K99 : Int32 → Int32 → St → Prop) (x1 : Int32) (x2 : Int32) (u0 : St) : Prop := ((x2 = 0 → qX12_aStone_b198 post u0) ∧ (¬ x2 = 0 → ((¬ (gi u0 12) = (3 : Int32) → qX12_aStone_b198 post u0) ∧ ((gi u0 12) = (3 : Int32) → (((ga u0 0 ((1824 : Int32)).toNatClampNeg) ≤ (gi u0 15) → qX12_aStone_b151 post K99 x1 x2 u0) ∧ (¬ (ga u0 0 ((1824 : Int32)).toNatClampNeg) ≤ (gi u0 15) → (vp_in (x1 + (2 : Int32)) 3072 ∧ qX12_isIn (ga u0 0 ((x1 + (2 : Int32))).toNatClampNeg) (gi u0 15) u0 (fun r_51 u_50 => ((r_51 = 0 → qX12_aStone_b151 post K99 x1 x2 u_50) ∧ (¬ r_51 = 0 → qX12_aStone_b145 post u_50))))))))))
set_option maxRecDepth 100000 in
set_option maxHeartbeats 4000000 in
theorem kX12_aStone_l99 {C : Cx} {o0 : Nat} {a0 : Nat → Nat} (hC : Fx C cX12_aStone 4 RX12) (hR0 : xR C = rm 9) {post : Int32 → St → Prop} (hR : RZ C cX12_aStone 4 (fun u : St => (wX12 o0 a0 (xy C) u [])) (fun r u => post r u))  {K99 : Int32 → Int32 → St → Prop} (hK99 : ∀ (x1 : Int32) (x2 : Int32) (u0 : St), K99 x1 x2 u0 → G C 0 0 4 (wX12 o0 a0 (xy C) u0 []) 99 [(0, .ref o0), (1, .int x1), (2, .int x2)] []) {x1 : Int32} {x2 : Int32} {u0 : St} (h : qX12_aStone_l99 post K99 x1 x2 u0) : G C 0 0 4 (wX12 o0 a0 (xy C) u0 []) 99 [(0, .ref o0), (1, .int x1), (2, .int x2)] [] := by
  refine g_iload_n (pc := 99) hC 2 dX12_aStone_99 rfl rfl ?_
  refine g_if_eq (pc := 100) (tgt := 198) hC dX12_aStone_100 (by decide) (fun c_47 => ?_) (fun c_47 => ?_)
  · have h := h.1 c_47
    refine g_sub (lv' := [(0, .ref o0)]) [0] rfl ?_
    exact kX12_aStone_b198 hC hR0 hR  h
  · have h := h.2 c_47
    refine g_aload_n (pc := 103) hC 0 dX12_aStone_103 rfl rfl ?_
    refine getX12_12 (pc := 104) hC (F := fun Z => Z) (X := []) (fun _ => rfl) fl_X12_133 dX12_aStone_104 ?_
    refine g_iconst (pc := 107) (v := 3) hC dX12_aStone_107 (by decide) ?_
    refine g_icmp_ne (pc := 108) (tgt := 198) hC dX12_aStone_108 (by decide) (fun c_48 => ?_) (fun c_48 => ?_)
    · have h := h.1 c_48
      refine g_sub (lv' := [(0, .ref o0)]) [0] rfl ?_
      exact kX12_aStone_b198 hC hR0 hR  h
    · have h := h.2 c_48
      refine g_aload_n (pc := 111) hC 0 dX12_aStone_111 rfl rfl ?_
      refine getX12_15 (pc := 112) hC (F := fun Z => Z) (X := []) (fun _ => rfl) fl_X12_130 dX12_aStone_112 ?_
      refine g_aload_n (pc := 115) hC 0 dX12_aStone_115 rfl rfl ?_
      refine getX12_0 (pc := 116) hC (F := fun Z => Z) (X := []) (fun _ => rfl) fl_X12_7 dX12_aStone_116 ?_
      refine g_sipush (pc := 119) (v := 1824) hC dX12_aStone_119 (by decide) ?_
      refine aldX12_0 (pc := 122) hC (F := fun Z => Z) (X := []) (fun _ => rfl) (by unfold vp_in; decide) dX12_aStone_122 ?_
      refine g_icmp_ge (pc := 123) (tgt := 151) hC dX12_aStone_123 (by decide) (fun c_49 => ?_) (fun c_49 => ?_)
      · have h := h.1 c_49
        exact kX12_aStone_b151 hC hR0 hR hK99 h
      · have h := h.2 c_49
        refine g_aload_n (pc := 126) hC 0 dX12_aStone_126 rfl rfl ?_
        refine g_aload_n (pc := 127) hC 0 dX12_aStone_127 rfl rfl ?_
        refine getX12_0 (pc := 128) hC (F := fun Z => Z) (X := []) (fun _ => rfl) fl_X12_7 dX12_aStone_128 ?_
        refine g_iload_n (pc := 131) hC 1 dX12_aStone_131 rfl rfl ?_
        refine g_iconst (pc := 132) (v := 2) hC dX12_aStone_132 (by decide) ?_
        refine g_iadd (pc := 133) hC dX12_aStone_133 ?_
        refine aldX12_0 (pc := 134) hC (F := fun Z => Z) (X := []) (fun _ => rfl) h.1 dX12_aStone_134 ?_
        have h := h.2
        refine g_aload_n (pc := 135) hC 0 dX12_aStone_135 rfl rfl ?_
        refine getX12_15 (pc := 136) hC (F := fun Z => Z) (X := []) (fun _ => rfl) fl_X12_130 dX12_aStone_136 ?_
        refine g_callV_i (pc := 139) (wd := fun (u : St) Y => (wX12 o0 a0 (xy C) u Y)) (F := fun Z => Z) (X := []) (As := [.int (ga u0 0 ((x1 + (2 : Int32))).toNatClampNeg), .int (gi u0 15)]) (rest := []) (u := u0) hC (fun _ _ => rfl) (fun _ => rfl) (ctX12_isIn h) wvX12_isIn ml_X12_201 (ci := 10) (q0 := 0) rfl rfl rfl rfl (rmok hR0 rfl) ⟨Nat.zero_le _, Nat.zero_le _⟩ rfl (Nat.le_of_ble_eq_true rfl) dX12_aStone_139 (fun r_51 u_50 h => ?_)
        refine g_if_eq (pc := 142) (tgt := 151) hC dX12_aStone_142 (by decide) (fun c_53 => ?_) (fun c_53 => ?_)
        · have h := h.1 c_53
          exact kX12_aStone_b151 hC hR0 hR hK99 h
        · have h := h.2 c_53
          refine g_sub (lv' := [(0, .ref o0)]) [0] rfl ?_
          exact kX12_aStone_b145 hC hR0 hR  h
def qX12_aStone_L99  (post : Int32 → St → Prop)  : Nat → Int32 → Int32 → St → Prop
  | 0 => fun _ _ _ => False
  | n + 1 => qX12_aStone_l99 post (qX12_aStone_L99 post n)
theorem kX12_aStone_L99 {C : Cx} {o0 : Nat} {a0 : Nat → Nat} (hC : Fx C cX12_aStone 4 RX12) (hR0 : xR C = rm 9) {post : Int32 → St → Prop} (hR : RZ C cX12_aStone 4 (fun u : St => (wX12 o0 a0 (xy C) u [])) (fun r u => post r u))  : ∀ (n : Nat) (x1 : Int32) (x2 : Int32) (u0 : St), qX12_aStone_L99 post n x1 x2 u0 → G C 0 0 4 (wX12 o0 a0 (xy C) u0 []) 99 [(0, .ref o0), (1, .int x1), (2, .int x2)] [] := by
  intro n
  induction n with
  | zero => intro x1 x2 u0 h; exact h.elim
  | succ n ih => intro x1 x2 u0 h; exact kX12_aStone_l99 hC hR0 hR  ih h
def qX12_aStone  (u0 : St) (post : Int32 → St → Prop) : Prop := qX12_isFull (0 : Int32) (8 : Int32) u0 (fun r_55 u_54 => ((r_55 = 0 → qX12_stoneRow (ga u_54 0 ((1824 : Int32)).toNatClampNeg) (fun r_58 => ∀ x1_60 : Int32, x1_60 = ((1824 : Int32) + r_58) → qX12_ahead u_54 (fun u_61 => qX12_wantWord (4 : Int32) u_61 (fun r_64 u_63 => ((r_64 = 0 → qX12_aStone_b81 post u_63) ∧ (¬ r_64 = 0 → qX12_number x1_60 (0 : Int32) (9 : Int32) u_63 (fun r_68 u_67 => ((r_68 = 0 → qX12_aStone_b81 post u_67) ∧ (¬ r_68 = 0 → qX12_wantWord (5 : Int32) u_67 (fun r_72 u_71 => ((r_72 = 0 → qX12_aStone_b81 post u_71) ∧ (¬ r_72 = 0 → qX12_number (x1_60 + (1 : Int32)) (1 : Int32) (9 : Int32) u_71 (fun r_76 u_75 => ((¬ r_76 = 0 → (vp_in (x1_60 + (2 : Int32)) 3072 ∧ ∀ u_79 : St, u_79 = (sw u_75 0 (upd (ga u_75 0) ((x1_60 + (2 : Int32))).toNatClampNeg (0 : Int32))) → qX12_isThere (6 : Int32) u_79 (fun r_81 u_80 => ∃ n_83 : Nat, qX12_aStone_L99 post n_83 x1_60 r_81 u_80))) ∧ (r_76 = 0 → qX12_aStone_b81 post u_75))))))))))))))) ∧ (¬ r_55 = 0 → qX12_fails (6 : Int32) u_54 (fun r_85 u_84 => (bz r_85 ∧ post r_85 u_84)))))
set_option maxRecDepth 100000 in
set_option maxHeartbeats 4000000 in
theorem kX12_aStone {C : Cx} {o0 : Nat} {a0 : Nat → Nat} (hC : Fx C cX12_aStone 4 RX12) (hR0 : xR C = rm 9) {post : Int32 → St → Prop} (hR : RZ C cX12_aStone 4 (fun u : St => (wX12 o0 a0 (xy C) u [])) (fun r u => post r u))  {u0 : St} (h : qX12_aStone  u0 post) : G C 0 0 4 (wX12 o0 a0 (xy C) u0 []) 0 [(0, .ref o0)] [] := by
  refine g_aload_n (pc := 0) hC 0 dX12_aStone_0 rfl rfl ?_
  refine g_iconst (pc := 1) (v := 0) hC dX12_aStone_1 (by decide) ?_
  refine g_bipush (pc := 2) (v := 8) hC dX12_aStone_2 (by decide) ?_
  refine g_callV_i (pc := 4) (wd := fun (u : St) Y => (wX12 o0 a0 (xy C) u Y)) (F := fun Z => Z) (X := []) (As := [.int (0 : Int32), .int (8 : Int32)]) (rest := []) (u := u0) hC (fun _ _ => rfl) (fun _ => rfl) (ctX12_isFull h) wvX12_isFull ml_X12_183 (ci := 10) (q0 := 0) rfl rfl rfl rfl (rmok hR0 rfl) ⟨Nat.zero_le _, Nat.zero_le _⟩ rfl (Nat.le_of_ble_eq_true rfl) dX12_aStone_4 (fun r_55 u_54 h => ?_)
  refine g_if_eq (pc := 7) (tgt := 17) hC dX12_aStone_7 (by decide) (fun c_57 => ?_) (fun c_57 => ?_)
  · have h := h.1 c_57
    refine g_sipush (pc := 17) (v := 1824) hC dX12_aStone_17 (by decide) ?_
    refine g_aload_n (pc := 20) hC 0 dX12_aStone_20 rfl rfl ?_
    refine getX12_0 (pc := 21) hC (F := fun Z => Z) (X := []) (fun _ => rfl) fl_X12_7 dX12_aStone_21 ?_
    refine g_sipush (pc := 24) (v := 1824) hC dX12_aStone_24 (by decide) ?_
    refine aldX12_0 (pc := 27) hC (F := fun Z => Z) (X := []) (fun _ => rfl) (by unfold vp_in; decide) dX12_aStone_27 ?_
    refine g_callS_i (pc := 28) (wd := fun (_ : Unit) Y => Y) (F := fun Z => Z) (X := []) (As := [.int (ga u_54 0 ((1824 : Int32)).toNatClampNeg)]) (rest := [.int (1824 : Int32)]) (u := ()) hC (fun _ _ => rfl) (fun _ => rfl) (ctX12_stoneRow h) wvX12_stoneRow ml_X12_187 rfl (rmok hR0 rfl) ⟨Nat.zero_le _, Nat.zero_le _⟩ rfl (Nat.le_of_ble_eq_true rfl) dX12_aStone_28 (fun r_58 u_59 h => ?_)
    refine g_iadd (pc := 31) hC dX12_aStone_31 ?_
    refine g_topi (fun x1_60 ex1_60 => ?_)
    have h := h x1_60 ex1_60
    refine g_istore_n (pc := 32) (lv' := [(1, .int x1_60), (0, .ref o0)]) hC dX12_aStone_32 rfl (Nat.le_of_ble_eq_true rfl) rfl ?_
    refine g_aload_n (pc := 33) hC 1 dX12_aStone_33 rfl rfl ?_
    refine g_callV_v (pc := 34) (wd := fun (u : St) Y => (wX12 o0 a0 (xy C) u Y)) (F := fun Z => Z) (X := []) (As := []) (rest := []) (u := u_54) hC (fun _ _ => rfl) (fun _ => rfl) (ctX12_ahead h) wvX12_ahead ml_X12_164 (ci := 10) (q0 := 0) rfl rfl rfl rfl (rmok hR0 rfl) ⟨Nat.zero_le _, Nat.zero_le _⟩ rfl (Nat.le_of_ble_eq_true rfl) dX12_aStone_34 (fun u_61 h => ?_)
    refine g_aload_n (pc := 37) hC 1 dX12_aStone_37 rfl rfl ?_
    refine g_ldcS (pc := 38) hC dX12_aStone_38 ?_
    refine g_iconst (pc := 40) (v := 4) hC dX12_aStone_40 (by decide) ?_
    refine g_callV_i (pc := 41) (wd := fun (u : St) Y => (wX12 o0 a0 (xy C) u Y)) (F := fun Z => Z) (X := []) (As := [.ref (xk C 26), .int (4 : Int32)]) (rest := []) (u := u_61) hC (fun _ _ => rfl) (fun _ => rfl) (ctX12_wantWord h) wvX12_wantWord ml_X12_190 (ci := 10) (q0 := 0) rfl rfl rfl rfl (rmok hR0 rfl) ⟨Nat.zero_le _, Nat.zero_le _⟩ rfl (Nat.le_of_ble_eq_true rfl) dX12_aStone_41 (fun r_64 u_63 h => ?_)
    refine g_if_eq (pc := 44) (tgt := 81) hC dX12_aStone_44 (by decide) (fun c_66 => ?_) (fun c_66 => ?_)
    · have h := h.1 c_66
      refine g_sub (lv' := []) [] rfl ?_
      exact kX12_aStone_b81 hC hR0 hR  h
    · have h := h.2 c_66
      refine g_aload_n (pc := 47) hC 1 dX12_aStone_47 rfl rfl ?_
      refine g_iload_n (pc := 48) hC 0 dX12_aStone_48 rfl rfl ?_
      refine g_iconst (pc := 49) (v := 0) hC dX12_aStone_49 (by decide) ?_
      refine g_bipush (pc := 50) (v := 9) hC dX12_aStone_50 (by decide) ?_
      refine g_callV_i (pc := 52) (wd := fun (u : St) Y => (wX12 o0 a0 (xy C) u Y)) (F := fun Z => Z) (X := []) (As := [.int x1_60, .int (0 : Int32), .int (9 : Int32)]) (rest := []) (u := u_63) hC (fun _ _ => rfl) (fun _ => rfl) (ctX12_number h) wvX12_number ml_X12_194 (ci := 10) (q0 := 0) rfl rfl rfl rfl (rmok hR0 rfl) ⟨Nat.zero_le _, Nat.zero_le _⟩ rfl (Nat.le_of_ble_eq_true rfl) dX12_aStone_52 (fun r_68 u_67 h => ?_)
      refine g_if_eq (pc := 55) (tgt := 81) hC dX12_aStone_55 (by decide) (fun c_70 => ?_) (fun c_70 => ?_)
      · have h := h.1 c_70
        refine g_sub (lv' := []) [] rfl ?_
        exact kX12_aStone_b81 hC hR0 hR  h
      · have h := h.2 c_70
        refine g_aload_n (pc := 58) hC 1 dX12_aStone_58 rfl rfl ?_
        refine g_ldcS (pc := 59) hC dX12_aStone_59 ?_
        refine g_iconst (pc := 61) (v := 5) hC dX12_aStone_61 (by decide) ?_
        refine g_callV_i (pc := 62) (wd := fun (u : St) Y => (wX12 o0 a0 (xy C) u Y)) (F := fun Z => Z) (X := []) (As := [.ref (xk C 26), .int (5 : Int32)]) (rest := []) (u := u_67) hC (fun _ _ => rfl) (fun _ => rfl) (ctX12_wantWord h) wvX12_wantWord ml_X12_190 (ci := 10) (q0 := 0) rfl rfl rfl rfl (rmok hR0 rfl) ⟨Nat.zero_le _, Nat.zero_le _⟩ rfl (Nat.le_of_ble_eq_true rfl) dX12_aStone_62 (fun r_72 u_71 h => ?_)
        refine g_if_eq (pc := 65) (tgt := 81) hC dX12_aStone_65 (by decide) (fun c_74 => ?_) (fun c_74 => ?_)
        · have h := h.1 c_74
          refine g_sub (lv' := []) [] rfl ?_
          exact kX12_aStone_b81 hC hR0 hR  h
        · have h := h.2 c_74
          refine g_aload_n (pc := 68) hC 1 dX12_aStone_68 rfl rfl ?_
          refine g_iload_n (pc := 69) hC 0 dX12_aStone_69 rfl rfl ?_
          refine g_iconst (pc := 70) (v := 1) hC dX12_aStone_70 (by decide) ?_
          refine g_iadd (pc := 71) hC dX12_aStone_71 ?_
          refine g_iconst (pc := 72) (v := 1) hC dX12_aStone_72 (by decide) ?_
          refine g_bipush (pc := 73) (v := 9) hC dX12_aStone_73 (by decide) ?_
          refine g_callV_i (pc := 75) (wd := fun (u : St) Y => (wX12 o0 a0 (xy C) u Y)) (F := fun Z => Z) (X := []) (As := [.int (x1_60 + (1 : Int32)), .int (1 : Int32), .int (9 : Int32)]) (rest := []) (u := u_71) hC (fun _ _ => rfl) (fun _ => rfl) (ctX12_number h) wvX12_number ml_X12_194 (ci := 10) (q0 := 0) rfl rfl rfl rfl (rmok hR0 rfl) ⟨Nat.zero_le _, Nat.zero_le _⟩ rfl (Nat.le_of_ble_eq_true rfl) dX12_aStone_75 (fun r_76 u_75 h => ?_)
          refine g_if_ne (pc := 78) (tgt := 83) hC dX12_aStone_78 (by decide) (fun c_78 => ?_) (fun c_78 => ?_)
          · have h := h.1 c_78
            refine g_aload_n (pc := 83) hC 1 dX12_aStone_83 rfl rfl ?_
            refine getX12_0 (pc := 84) hC (F := fun Z => Z) (X := []) (fun _ => rfl) fl_X12_7 dX12_aStone_84 ?_
            refine g_iload_n (pc := 87) hC 0 dX12_aStone_87 rfl rfl ?_
            refine g_iconst (pc := 88) (v := 2) hC dX12_aStone_88 (by decide) ?_
            refine g_iadd (pc := 89) hC dX12_aStone_89 ?_
            refine g_iconst (pc := 90) (v := 0) hC dX12_aStone_90 (by decide) ?_
            refine astX12_0 (pc := 91) hC (F := fun Z => Z) (X := []) (fun _ => rfl) h.1 dX12_aStone_91 ?_
            have h := h.2
            refine g_st (w := fun z => (wX12 o0 a0 (xy C) z [])) (u := (sw u_75 0 (upd (ga u_75 0) ((x1_60 + (2 : Int32))).toNatClampNeg (0 : Int32)))) (fun u_79 eu_79 => ?_)
            have h := h u_79 eu_79
            refine g_aload_n (pc := 92) hC 1 dX12_aStone_92 rfl rfl ?_
            refine g_bipush (pc := 93) (v := 6) hC dX12_aStone_93 (by decide) ?_
            refine g_callV_i (pc := 95) (wd := fun (u : St) Y => (wX12 o0 a0 (xy C) u Y)) (F := fun Z => Z) (X := []) (As := [.int (6 : Int32)]) (rest := []) (u := u_79) hC (fun _ _ => rfl) (fun _ => rfl) (ctX12_isThere h) wvX12_isThere ml_X12_198 (ci := 10) (q0 := 0) rfl rfl rfl rfl (rmok hR0 rfl) ⟨Nat.zero_le _, Nat.zero_le _⟩ rfl (Nat.le_of_ble_eq_true rfl) dX12_aStone_95 (fun r_81 u_80 h => ?_)
            refine g_istore_n (pc := 98) (lv' := [(2, .int r_81), (1, .int x1_60), (0, .ref o0)]) hC dX12_aStone_98 rfl (Nat.le_of_ble_eq_true rfl) rfl ?_
            refine g_sub (lv' := [(0, .ref o0), (1, .int x1_60), (2, .int r_81)]) [2, 1, 0] rfl ?_
            obtain ⟨n_83, h⟩ := h
            exact kX12_aStone_L99 hC hR0 hR  n_83 _ _ _ h
          · have h := h.2 c_78
            refine g_sub (lv' := []) [] rfl ?_
            exact kX12_aStone_b81 hC hR0 hR  h
  · have h := h.2 c_57
    refine g_aload_n (pc := 10) hC 0 dX12_aStone_10 rfl rfl ?_
    refine g_bipush (pc := 11) (v := 6) hC dX12_aStone_11 (by decide) ?_
    refine g_callV_i (pc := 13) (wd := fun (u : St) Y => (wX12 o0 a0 (xy C) u Y)) (F := fun Z => Z) (X := []) (As := [.int (6 : Int32)]) (rest := []) (u := u_54) hC (fun _ _ => rfl) (fun _ => rfl) (ctX12_fails h) wvX12_fails ml_X12_170 (ci := 10) (q0 := 0) rfl rfl rfl rfl (rmok hR0 rfl) ⟨Nat.zero_le _, Nat.zero_le _⟩ rfl (Nat.le_of_ble_eq_true rfl) dX12_aStone_13 (fun r_85 u_84 h => ?_)
    exact hR _ _ _ u_84 dX12_aStone_16 h.1 h.2
theorem ctX12_aStone {l : Launch} {D : va_G} {cy : Nat → ClassId} {kd : Nat → Nat} {o0 : Nat} {a0 : Nat → Nat}  {u0 : St} {post : Int32 → St → Prop} (h : qX12_aStone  u0 post) : CtI l D cy kd yX12_aStone cX12_aStone 4 9 .boolean [.ref o0] (fun u : St => (wX12 o0 a0 cy u [])) u0 (fun r u => post r u) := met_z (by decide) (Nat.le_of_ble_eq_true rfl) (fun C e1 e2 e3 e4 e5 hC hR => by subst e1 e2 e3 e4; exact kX12_aStone hC e5 hR h)
theorem dX12_aPerson_0 : decode cX12_aPerson 0 = .ok (.aload_n 0, 1) := by decide +kernel
theorem dX12_aPerson_1 : decode cX12_aPerson 1 = .ok (.getfield 7, 3) := by decide +kernel
theorem dX12_aPerson_4 : decode cX12_aPerson 4 = .ok (.sipush 1825, 3) := by decide +kernel
theorem dX12_aPerson_7 : decode cX12_aPerson 7 = .ok (.iaload, 1) := by decide +kernel
theorem dX12_aPerson_8 : decode cX12_aPerson 8 = .ok (.istore_n 1, 1) := by decide +kernel
theorem dX12_aPerson_9 : decode cX12_aPerson 9 = .ok (.aload_n 0, 1) := by decide +kernel
theorem dX12_aPerson_10 : decode cX12_aPerson 10 = .ok (.iconst 1, 1) := by decide +kernel
theorem dX12_aPerson_11 : decode cX12_aPerson 11 = .ok (.iconst 5, 1) := by decide +kernel
theorem dX12_aPerson_12 : decode cX12_aPerson 12 = .ok (.invokevirtual 183, 3) := by decide +kernel
theorem dX12_aPerson_15 : decode cX12_aPerson 15 = .ok (.ifCond .eq 10, 3) := by decide +kernel
theorem dX12_aPerson_18 : decode cX12_aPerson 18 = .ok (.aload_n 0, 1) := by decide +kernel
theorem dX12_aPerson_19 : decode cX12_aPerson 19 = .ok (.bipush 6, 2) := by decide +kernel
theorem dX12_aPerson_21 : decode cX12_aPerson 21 = .ok (.invokevirtual 170, 3) := by decide +kernel
theorem dX12_aPerson_24 : decode cX12_aPerson 24 = .ok (.ireturn, 1) := by decide +kernel
theorem dX12_aPerson_25 : decode cX12_aPerson 25 = .ok (.aload_n 0, 1) := by decide +kernel
theorem dX12_aPerson_26 : decode cX12_aPerson 26 = .ok (.invokevirtual 164, 3) := by decide +kernel
theorem dX12_aPerson_29 : decode cX12_aPerson 29 = .ok (.aload_n 0, 1) := by decide +kernel
theorem dX12_aPerson_30 : decode cX12_aPerson 30 = .ok (.ldc 181, 2) := by decide +kernel
theorem dX12_aPerson_32 : decode cX12_aPerson 32 = .ok (.invokevirtual 204, 3) := by decide +kernel
theorem dX12_aPerson_35 : decode cX12_aPerson 35 = .ok (.ifCond .ne 9, 3) := by decide +kernel
theorem dX12_aPerson_38 : decode cX12_aPerson 38 = .ok (.aload_n 0, 1) := by decide +kernel
theorem dX12_aPerson_39 : decode cX12_aPerson 39 = .ok (.iconst 2, 1) := by decide +kernel
theorem dX12_aPerson_40 : decode cX12_aPerson 40 = .ok (.invokevirtual 170, 3) := by decide +kernel
theorem dX12_aPerson_43 : decode cX12_aPerson 43 = .ok (.ireturn, 1) := by decide +kernel
theorem dX12_aPerson_44 : decode cX12_aPerson 44 = .ok (.aload_n 0, 1) := by decide +kernel
theorem dX12_aPerson_45 : decode cX12_aPerson 45 = .ok (.bipush 20, 2) := by decide +kernel
theorem dX12_aPerson_47 : decode cX12_aPerson 47 = .ok (.iload_n 1, 1) := by decide +kernel
theorem dX12_aPerson_48 : decode cX12_aPerson 48 = .ok (.invokevirtual 208, 3) := by decide +kernel
theorem dX12_aPerson_51 : decode cX12_aPerson 51 = .ok (.iconst (-1), 1) := by decide +kernel
theorem dX12_aPerson_52 : decode cX12_aPerson 52 = .ok (.if_icmp .eq 9, 3) := by decide +kernel
theorem dX12_aPerson_55 : decode cX12_aPerson 55 = .ok (.aload_n 0, 1) := by decide +kernel
theorem dX12_aPerson_56 : decode cX12_aPerson 56 = .ok (.iconst 3, 1) := by decide +kernel
theorem dX12_aPerson_57 : decode cX12_aPerson 57 = .ok (.invokevirtual 170, 3) := by decide +kernel
theorem dX12_aPerson_60 : decode cX12_aPerson 60 = .ok (.ireturn, 1) := by decide +kernel
theorem dX12_aPerson_61 : decode cX12_aPerson 61 = .ok (.aload_n 0, 1) := by decide +kernel
theorem dX12_aPerson_62 : decode cX12_aPerson 62 = .ok (.getfield 13, 3) := by decide +kernel
theorem dX12_aPerson_65 : decode cX12_aPerson 65 = .ok (.bipush 20, 2) := by decide +kernel
theorem dX12_aPerson_67 : decode cX12_aPerson 67 = .ok (.iload_n 1, 1) := by decide +kernel
theorem dX12_aPerson_68 : decode cX12_aPerson 68 = .ok (.iadd, 1) := by decide +kernel
theorem dX12_aPerson_69 : decode cX12_aPerson 69 = .ok (.aload_n 0, 1) := by decide +kernel
theorem dX12_aPerson_70 : decode cX12_aPerson 70 = .ok (.invokevirtual 177, 3) := by decide +kernel
theorem dX12_aPerson_73 : decode cX12_aPerson 73 = .ok (.lastore, 1) := by decide +kernel
theorem dX12_aPerson_74 : decode cX12_aPerson 74 = .ok (.aload_n 0, 1) := by decide +kernel
theorem dX12_aPerson_75 : decode cX12_aPerson 75 = .ok (.invokevirtual 164, 3) := by decide +kernel
theorem dX12_aPerson_78 : decode cX12_aPerson 78 = .ok (.aload_n 0, 1) := by decide +kernel
theorem dX12_aPerson_79 : decode cX12_aPerson 79 = .ok (.ldc 181, 2) := by decide +kernel
theorem dX12_aPerson_81 : decode cX12_aPerson 81 = .ok (.bipush 7, 2) := by decide +kernel
theorem dX12_aPerson_83 : decode cX12_aPerson 83 = .ok (.invokevirtual 190, 3) := by decide +kernel
theorem dX12_aPerson_86 : decode cX12_aPerson 86 = .ok (.ifCond .eq 19, 3) := by decide +kernel
theorem dX12_aPerson_89 : decode cX12_aPerson 89 = .ok (.aload_n 0, 1) := by decide +kernel
theorem dX12_aPerson_90 : decode cX12_aPerson 90 = .ok (.sipush 1858, 3) := by decide +kernel
theorem dX12_aPerson_93 : decode cX12_aPerson 93 = .ok (.iload_n 1, 1) := by decide +kernel
theorem dX12_aPerson_94 : decode cX12_aPerson 94 = .ok (.iadd, 1) := by decide +kernel
theorem dX12_aPerson_95 : decode cX12_aPerson 95 = .ok (.iconst 0, 1) := by decide +kernel
theorem dX12_aPerson_96 : decode cX12_aPerson 96 = .ok (.sipush 999, 3) := by decide +kernel
theorem dX12_aPerson_99 : decode cX12_aPerson 99 = .ok (.invokevirtual 194, 3) := by decide +kernel
theorem dX12_aPerson_102 : decode cX12_aPerson 102 = .ok (.ifCond .ne 5, 3) := by decide +kernel
theorem dX12_aPerson_105 : decode cX12_aPerson 105 = .ok (.iconst 0, 1) := by decide +kernel
theorem dX12_aPerson_106 : decode cX12_aPerson 106 = .ok (.ireturn, 1) := by decide +kernel
theorem dX12_aPerson_107 : decode cX12_aPerson 107 = .ok (.aload_n 0, 1) := by decide +kernel
theorem dX12_aPerson_108 : decode cX12_aPerson 108 = .ok (.getfield 7, 3) := by decide +kernel
theorem dX12_aPerson_111 : decode cX12_aPerson 111 = .ok (.sipush 1825, 3) := by decide +kernel
theorem dX12_aPerson_114 : decode cX12_aPerson 114 = .ok (.dup2, 1) := by decide +kernel
theorem dX12_aPerson_115 : decode cX12_aPerson 115 = .ok (.iaload, 1) := by decide +kernel
theorem dX12_aPerson_116 : decode cX12_aPerson 116 = .ok (.iconst 1, 1) := by decide +kernel
theorem dX12_aPerson_117 : decode cX12_aPerson 117 = .ok (.iadd, 1) := by decide +kernel
theorem dX12_aPerson_118 : decode cX12_aPerson 118 = .ok (.iastore, 1) := by decide +kernel
theorem dX12_aPerson_119 : decode cX12_aPerson 119 = .ok (.iconst 1, 1) := by decide +kernel
theorem dX12_aPerson_120 : decode cX12_aPerson 120 = .ok (.ireturn, 1) := by decide +kernel
def qX12_aPerson_b105  (post : Int32 → St → Prop)  (u0 : St) : Prop := post (0 : Int32) u0
set_option maxRecDepth 100000 in
set_option maxHeartbeats 4000000 in
theorem kX12_aPerson_b105 {C : Cx} {o0 : Nat} {a0 : Nat → Nat} (hC : Fx C cX12_aPerson 2 RX12) (hR0 : xR C = rm 9) {post : Int32 → St → Prop} (hR : RZ C cX12_aPerson 2 (fun u : St => (wX12 o0 a0 (xy C) u [])) (fun r u => post r u))  {u0 : St} (h : qX12_aPerson_b105 post u0) : G C 0 0 2 (wX12 o0 a0 (xy C) u0 []) 105 [] [] := by
  refine g_iconst (pc := 105) (v := 0) hC dX12_aPerson_105 (by decide) ?_
  exact hR _ _ _ u0 dX12_aPerson_106 (Or.inl rfl) h
def qX12_aPerson  (u0 : St) (post : Int32 → St → Prop) : Prop := ∀ x1_34 : Int32, x1_34 = (ga u0 0 ((1825 : Int32)).toNatClampNeg) → qX12_isFull (1 : Int32) (5 : Int32) u0 (fun r_36 u_35 => ((r_36 = 0 → qX12_ahead u_35 (fun u_39 => qX12_isName u_39 (fun r_42 u_41 => ((¬ r_42 = 0 → qX12_findHere (20 : Int32) x1_34 u_41 (fun r_46 u_45 => ((r_46 = (-1 : Int32) → qX12_nameHere u_45 (fun r_50 u_49 => (vp_in ((20 : Int32) + x1_34) 30 ∧ ∀ u_52 : St, u_52 = (sx u_49 1 (vp_updL (gl u_49 1) (((20 : Int32) + x1_34)).toNatClampNeg r_50)) → qX12_ahead u_52 (fun u_53 => qX12_wantWord (7 : Int32) u_53 (fun r_56 u_55 => ((r_56 = 0 → qX12_aPerson_b105 post u_55) ∧ (¬ r_56 = 0 → qX12_number ((1858 : Int32) + x1_34) (0 : Int32) (999 : Int32) u_55 (fun r_60 u_59 => ((¬ r_60 = 0 → ∀ u_63 : St, u_63 = (sw u_59 0 (upd (ga u_59 0) ((1825 : Int32)).toNatClampNeg ((ga u_59 0 ((1825 : Int32)).toNatClampNeg) + (1 : Int32)))) → post (1 : Int32) u_63) ∧ (r_60 = 0 → qX12_aPerson_b105 post u_59)))))))))) ∧ (¬ r_46 = (-1 : Int32) → qX12_fails (3 : Int32) u_45 (fun r_65 u_64 => (bz r_65 ∧ post r_65 u_64)))))) ∧ (r_42 = 0 → qX12_fails (2 : Int32) u_41 (fun r_68 u_67 => (bz r_68 ∧ post r_68 u_67))))))) ∧ (¬ r_36 = 0 → qX12_fails (6 : Int32) u_35 (fun r_71 u_70 => (bz r_71 ∧ post r_71 u_70)))))
set_option maxRecDepth 100000 in
set_option maxHeartbeats 4000000 in
theorem kX12_aPerson {C : Cx} {o0 : Nat} {a0 : Nat → Nat} (hC : Fx C cX12_aPerson 2 RX12) (hR0 : xR C = rm 9) {post : Int32 → St → Prop} (hR : RZ C cX12_aPerson 2 (fun u : St => (wX12 o0 a0 (xy C) u [])) (fun r u => post r u))  {u0 : St} (h : qX12_aPerson  u0 post) : G C 0 0 2 (wX12 o0 a0 (xy C) u0 []) 0 [(0, .ref o0)] [] := by
  refine g_aload_n (pc := 0) hC 0 dX12_aPerson_0 rfl rfl ?_
  refine getX12_0 (pc := 1) hC (F := fun Z => Z) (X := []) (fun _ => rfl) fl_X12_7 dX12_aPerson_1 ?_
  refine g_sipush (pc := 4) (v := 1825) hC dX12_aPerson_4 (by decide) ?_
  refine aldX12_0 (pc := 7) hC (F := fun Z => Z) (X := []) (fun _ => rfl) (by unfold vp_in; decide) dX12_aPerson_7 ?_
  refine g_topi (fun x1_34 ex1_34 => ?_)
  have h := h x1_34 ex1_34
  refine g_istore_n (pc := 8) (lv' := [(1, .int x1_34), (0, .ref o0)]) hC dX12_aPerson_8 rfl (Nat.le_of_ble_eq_true rfl) rfl ?_
  refine g_aload_n (pc := 9) hC 1 dX12_aPerson_9 rfl rfl ?_
  refine g_iconst (pc := 10) (v := 1) hC dX12_aPerson_10 (by decide) ?_
  refine g_iconst (pc := 11) (v := 5) hC dX12_aPerson_11 (by decide) ?_
  refine g_callV_i (pc := 12) (wd := fun (u : St) Y => (wX12 o0 a0 (xy C) u Y)) (F := fun Z => Z) (X := []) (As := [.int (1 : Int32), .int (5 : Int32)]) (rest := []) (u := u0) hC (fun _ _ => rfl) (fun _ => rfl) (ctX12_isFull h) wvX12_isFull ml_X12_183 (ci := 10) (q0 := 0) rfl rfl rfl rfl (rmok hR0 rfl) ⟨Nat.zero_le _, Nat.zero_le _⟩ rfl (Nat.le_of_ble_eq_true rfl) dX12_aPerson_12 (fun r_36 u_35 h => ?_)
  refine g_if_eq (pc := 15) (tgt := 25) hC dX12_aPerson_15 (by decide) (fun c_38 => ?_) (fun c_38 => ?_)
  · have h := h.1 c_38
    refine g_aload_n (pc := 25) hC 1 dX12_aPerson_25 rfl rfl ?_
    refine g_callV_v (pc := 26) (wd := fun (u : St) Y => (wX12 o0 a0 (xy C) u Y)) (F := fun Z => Z) (X := []) (As := []) (rest := []) (u := u_35) hC (fun _ _ => rfl) (fun _ => rfl) (ctX12_ahead h) wvX12_ahead ml_X12_164 (ci := 10) (q0 := 0) rfl rfl rfl rfl (rmok hR0 rfl) ⟨Nat.zero_le _, Nat.zero_le _⟩ rfl (Nat.le_of_ble_eq_true rfl) dX12_aPerson_26 (fun u_39 h => ?_)
    refine g_aload_n (pc := 29) hC 1 dX12_aPerson_29 rfl rfl ?_
    refine g_ldcS (pc := 30) hC dX12_aPerson_30 ?_
    refine g_callV_i (pc := 32) (wd := fun (u : St) Y => (wX12 o0 a0 (xy C) u Y)) (F := fun Z => Z) (X := []) (As := [.ref (xk C 26)]) (rest := []) (u := u_39) hC (fun _ _ => rfl) (fun _ => rfl) (ctX12_isName h) wvX12_isName ml_X12_204 (ci := 10) (q0 := 0) rfl rfl rfl rfl (rmok hR0 rfl) ⟨Nat.zero_le _, Nat.zero_le _⟩ rfl (Nat.le_of_ble_eq_true rfl) dX12_aPerson_32 (fun r_42 u_41 h => ?_)
    refine g_if_ne (pc := 35) (tgt := 44) hC dX12_aPerson_35 (by decide) (fun c_44 => ?_) (fun c_44 => ?_)
    · have h := h.1 c_44
      refine g_aload_n (pc := 44) hC 1 dX12_aPerson_44 rfl rfl ?_
      refine g_bipush (pc := 45) (v := 20) hC dX12_aPerson_45 (by decide) ?_
      refine g_iload_n (pc := 47) hC 0 dX12_aPerson_47 rfl rfl ?_
      refine g_callV_i (pc := 48) (wd := fun (u : St) Y => (wX12 o0 a0 (xy C) u Y)) (F := fun Z => Z) (X := []) (As := [.int (20 : Int32), .int x1_34]) (rest := []) (u := u_41) hC (fun _ _ => rfl) (fun _ => rfl) (ctX12_findHere h) wvX12_findHere ml_X12_208 (ci := 10) (q0 := 0) rfl rfl rfl rfl (rmok hR0 rfl) ⟨Nat.zero_le _, Nat.zero_le _⟩ rfl (Nat.le_of_ble_eq_true rfl) dX12_aPerson_48 (fun r_46 u_45 h => ?_)
      refine g_iconst (pc := 51) (v := -1) hC dX12_aPerson_51 (by decide) ?_
      refine g_icmp_eq (pc := 52) (tgt := 61) hC dX12_aPerson_52 (by decide) (fun c_48 => ?_) (fun c_48 => ?_)
      · have h := h.1 c_48
        refine g_aload_n (pc := 61) hC 1 dX12_aPerson_61 rfl rfl ?_
        refine getX12_1 (pc := 62) hC (F := fun Z => Z) (X := []) (fun _ => rfl) fl_X12_13 dX12_aPerson_62 ?_
        refine g_bipush (pc := 65) (v := 20) hC dX12_aPerson_65 (by decide) ?_
        refine g_iload_n (pc := 67) hC 0 dX12_aPerson_67 rfl rfl ?_
        refine g_iadd (pc := 68) hC dX12_aPerson_68 ?_
        refine g_aload_n (pc := 69) hC 1 dX12_aPerson_69 rfl rfl ?_
        refine g_callV_l (pc := 70) (wd := fun (u : St) Y => (wX12 o0 a0 (xy C) u Y)) (F := fun Z => Z) (X := []) (As := []) (rest := [.int ((20 : Int32) + x1_34), .ref (a0 1)]) (u := u_45) hC (fun _ _ => rfl) (fun _ => rfl) (ctX12_nameHere h) wvX12_nameHere ml_X12_177 (ci := 10) (q0 := 0) rfl rfl rfl rfl (rmok hR0 rfl) ⟨Nat.zero_le _, Nat.zero_le _⟩ rfl (Nat.le_of_ble_eq_true rfl) dX12_aPerson_70 (fun r_50 u_49 h => ?_)
        refine astX12_1 (pc := 73) hC (F := fun Z => Z) (X := []) (fun _ => rfl) h.1 dX12_aPerson_73 ?_
        have h := h.2
        refine g_st (w := fun z => (wX12 o0 a0 (xy C) z [])) (u := (sx u_49 1 (vp_updL (gl u_49 1) (((20 : Int32) + x1_34)).toNatClampNeg r_50))) (fun u_52 eu_52 => ?_)
        have h := h u_52 eu_52
        refine g_aload_n (pc := 74) hC 1 dX12_aPerson_74 rfl rfl ?_
        refine g_callV_v (pc := 75) (wd := fun (u : St) Y => (wX12 o0 a0 (xy C) u Y)) (F := fun Z => Z) (X := []) (As := []) (rest := []) (u := u_52) hC (fun _ _ => rfl) (fun _ => rfl) (ctX12_ahead h) wvX12_ahead ml_X12_164 (ci := 10) (q0 := 0) rfl rfl rfl rfl (rmok hR0 rfl) ⟨Nat.zero_le _, Nat.zero_le _⟩ rfl (Nat.le_of_ble_eq_true rfl) dX12_aPerson_75 (fun u_53 h => ?_)
        refine g_aload_n (pc := 78) hC 1 dX12_aPerson_78 rfl rfl ?_
        refine g_ldcS (pc := 79) hC dX12_aPerson_79 ?_
        refine g_bipush (pc := 81) (v := 7) hC dX12_aPerson_81 (by decide) ?_
        refine g_callV_i (pc := 83) (wd := fun (u : St) Y => (wX12 o0 a0 (xy C) u Y)) (F := fun Z => Z) (X := []) (As := [.ref (xk C 26), .int (7 : Int32)]) (rest := []) (u := u_53) hC (fun _ _ => rfl) (fun _ => rfl) (ctX12_wantWord h) wvX12_wantWord ml_X12_190 (ci := 10) (q0 := 0) rfl rfl rfl rfl (rmok hR0 rfl) ⟨Nat.zero_le _, Nat.zero_le _⟩ rfl (Nat.le_of_ble_eq_true rfl) dX12_aPerson_83 (fun r_56 u_55 h => ?_)
        refine g_if_eq (pc := 86) (tgt := 105) hC dX12_aPerson_86 (by decide) (fun c_58 => ?_) (fun c_58 => ?_)
        · have h := h.1 c_58
          refine g_sub (lv' := []) [] rfl ?_
          exact kX12_aPerson_b105 hC hR0 hR  h
        · have h := h.2 c_58
          refine g_aload_n (pc := 89) hC 1 dX12_aPerson_89 rfl rfl ?_
          refine g_sipush (pc := 90) (v := 1858) hC dX12_aPerson_90 (by decide) ?_
          refine g_iload_n (pc := 93) hC 0 dX12_aPerson_93 rfl rfl ?_
          refine g_iadd (pc := 94) hC dX12_aPerson_94 ?_
          refine g_iconst (pc := 95) (v := 0) hC dX12_aPerson_95 (by decide) ?_
          refine g_sipush (pc := 96) (v := 999) hC dX12_aPerson_96 (by decide) ?_
          refine g_callV_i (pc := 99) (wd := fun (u : St) Y => (wX12 o0 a0 (xy C) u Y)) (F := fun Z => Z) (X := []) (As := [.int ((1858 : Int32) + x1_34), .int (0 : Int32), .int (999 : Int32)]) (rest := []) (u := u_55) hC (fun _ _ => rfl) (fun _ => rfl) (ctX12_number h) wvX12_number ml_X12_194 (ci := 10) (q0 := 0) rfl rfl rfl rfl (rmok hR0 rfl) ⟨Nat.zero_le _, Nat.zero_le _⟩ rfl (Nat.le_of_ble_eq_true rfl) dX12_aPerson_99 (fun r_60 u_59 h => ?_)
          refine g_if_ne (pc := 102) (tgt := 107) hC dX12_aPerson_102 (by decide) (fun c_62 => ?_) (fun c_62 => ?_)
          · have h := h.1 c_62
            refine g_aload_n (pc := 107) hC 1 dX12_aPerson_107 rfl rfl ?_
            refine getX12_0 (pc := 108) hC (F := fun Z => Z) (X := []) (fun _ => rfl) fl_X12_7 dX12_aPerson_108 ?_
            refine g_sipush (pc := 111) (v := 1825) hC dX12_aPerson_111 (by decide) ?_
            refine g_dup2 (pc := 114) hC dX12_aPerson_114 rfl rfl ?_
            refine aldX12_0 (pc := 115) hC (F := fun Z => Z) (X := []) (fun _ => rfl) (by unfold vp_in; decide) dX12_aPerson_115 ?_
            refine g_iconst (pc := 116) (v := 1) hC dX12_aPerson_116 (by decide) ?_
            refine g_iadd (pc := 117) hC dX12_aPerson_117 ?_
            refine astX12_0 (pc := 118) hC (F := fun Z => Z) (X := []) (fun _ => rfl) (by unfold vp_in; decide) dX12_aPerson_118 ?_
            refine g_st (w := fun z => (wX12 o0 a0 (xy C) z [])) (u := (sw u_59 0 (upd (ga u_59 0) ((1825 : Int32)).toNatClampNeg ((ga u_59 0 ((1825 : Int32)).toNatClampNeg) + (1 : Int32))))) (fun u_63 eu_63 => ?_)
            have h := h u_63 eu_63
            refine g_iconst (pc := 119) (v := 1) hC dX12_aPerson_119 (by decide) ?_
            exact hR _ _ _ u_63 dX12_aPerson_120 (Or.inr rfl) h
          · have h := h.2 c_62
            refine g_sub (lv' := []) [] rfl ?_
            exact kX12_aPerson_b105 hC hR0 hR  h
      · have h := h.2 c_48
        refine g_aload_n (pc := 55) hC 1 dX12_aPerson_55 rfl rfl ?_
        refine g_iconst (pc := 56) (v := 3) hC dX12_aPerson_56 (by decide) ?_
        refine g_callV_i (pc := 57) (wd := fun (u : St) Y => (wX12 o0 a0 (xy C) u Y)) (F := fun Z => Z) (X := []) (As := [.int (3 : Int32)]) (rest := []) (u := u_45) hC (fun _ _ => rfl) (fun _ => rfl) (ctX12_fails h) wvX12_fails ml_X12_170 (ci := 10) (q0 := 0) rfl rfl rfl rfl (rmok hR0 rfl) ⟨Nat.zero_le _, Nat.zero_le _⟩ rfl (Nat.le_of_ble_eq_true rfl) dX12_aPerson_57 (fun r_65 u_64 h => ?_)
        exact hR _ _ _ u_64 dX12_aPerson_60 h.1 h.2
    · have h := h.2 c_44
      refine g_aload_n (pc := 38) hC 1 dX12_aPerson_38 rfl rfl ?_
      refine g_iconst (pc := 39) (v := 2) hC dX12_aPerson_39 (by decide) ?_
      refine g_callV_i (pc := 40) (wd := fun (u : St) Y => (wX12 o0 a0 (xy C) u Y)) (F := fun Z => Z) (X := []) (As := [.int (2 : Int32)]) (rest := []) (u := u_41) hC (fun _ _ => rfl) (fun _ => rfl) (ctX12_fails h) wvX12_fails ml_X12_170 (ci := 10) (q0 := 0) rfl rfl rfl rfl (rmok hR0 rfl) ⟨Nat.zero_le _, Nat.zero_le _⟩ rfl (Nat.le_of_ble_eq_true rfl) dX12_aPerson_40 (fun r_68 u_67 h => ?_)
      exact hR _ _ _ u_67 dX12_aPerson_43 h.1 h.2
  · have h := h.2 c_38
    refine g_aload_n (pc := 18) hC 1 dX12_aPerson_18 rfl rfl ?_
    refine g_bipush (pc := 19) (v := 6) hC dX12_aPerson_19 (by decide) ?_
    refine g_callV_i (pc := 21) (wd := fun (u : St) Y => (wX12 o0 a0 (xy C) u Y)) (F := fun Z => Z) (X := []) (As := [.int (6 : Int32)]) (rest := []) (u := u_35) hC (fun _ _ => rfl) (fun _ => rfl) (ctX12_fails h) wvX12_fails ml_X12_170 (ci := 10) (q0 := 0) rfl rfl rfl rfl (rmok hR0 rfl) ⟨Nat.zero_le _, Nat.zero_le _⟩ rfl (Nat.le_of_ble_eq_true rfl) dX12_aPerson_21 (fun r_71 u_70 h => ?_)
    exact hR _ _ _ u_70 dX12_aPerson_24 h.1 h.2
theorem ctX12_aPerson {l : Launch} {D : va_G} {cy : Nat → ClassId} {kd : Nat → Nat} {o0 : Nat} {a0 : Nat → Nat}  {u0 : St} {post : Int32 → St → Prop} (h : qX12_aPerson  u0 post) : CtI l D cy kd yX12_aPerson cX12_aPerson 2 9 .boolean [.ref o0] (fun u : St => (wX12 o0 a0 cy u [])) u0 (fun r u => post r u) := met_z (by decide) (Nat.le_of_ble_eq_true rfl) (fun C e1 e2 e3 e4 e5 hC hR => by subst e1 e2 e3 e4; exact kX12_aPerson hC e5 hR h)
theorem dX12_personTo_0 : decode cX12_personTo 0 = .ok (.aload_n 0, 1) := by decide +kernel
theorem dX12_personTo_1 : decode cX12_personTo 1 = .ok (.ldc 181, 2) := by decide +kernel
theorem dX12_personTo_3 : decode cX12_personTo 3 = .ok (.invokevirtual 204, 3) := by decide +kernel
theorem dX12_personTo_6 : decode cX12_personTo 6 = .ok (.ifCond .ne 9, 3) := by decide +kernel
theorem dX12_personTo_9 : decode cX12_personTo 9 = .ok (.aload_n 0, 1) := by decide +kernel
theorem dX12_personTo_10 : decode cX12_personTo 10 = .ok (.iconst 2, 1) := by decide +kernel
theorem dX12_personTo_11 : decode cX12_personTo 11 = .ok (.invokevirtual 170, 3) := by decide +kernel
theorem dX12_personTo_14 : decode cX12_personTo 14 = .ok (.ireturn, 1) := by decide +kernel
theorem dX12_personTo_15 : decode cX12_personTo 15 = .ok (.aload_n 0, 1) := by decide +kernel
theorem dX12_personTo_16 : decode cX12_personTo 16 = .ok (.getfield 7, 3) := by decide +kernel
theorem dX12_personTo_19 : decode cX12_personTo 19 = .ok (.iload_n 3, 1) := by decide +kernel
theorem dX12_personTo_20 : decode cX12_personTo 20 = .ok (.aload_n 0, 1) := by decide +kernel
theorem dX12_personTo_21 : decode cX12_personTo 21 = .ok (.iload_n 1, 1) := by decide +kernel
theorem dX12_personTo_22 : decode cX12_personTo 22 = .ok (.iload_n 2, 1) := by decide +kernel
theorem dX12_personTo_23 : decode cX12_personTo 23 = .ok (.invokevirtual 208, 3) := by decide +kernel
theorem dX12_personTo_26 : decode cX12_personTo 26 = .ok (.iastore, 1) := by decide +kernel
theorem dX12_personTo_27 : decode cX12_personTo 27 = .ok (.aload_n 0, 1) := by decide +kernel
theorem dX12_personTo_28 : decode cX12_personTo 28 = .ok (.getfield 7, 3) := by decide +kernel
theorem dX12_personTo_31 : decode cX12_personTo 31 = .ok (.iload_n 3, 1) := by decide +kernel
theorem dX12_personTo_32 : decode cX12_personTo 32 = .ok (.iaload, 1) := by decide +kernel
theorem dX12_personTo_33 : decode cX12_personTo 33 = .ok (.iconst (-1), 1) := by decide +kernel
theorem dX12_personTo_34 : decode cX12_personTo 34 = .ok (.if_icmp .ne 9, 3) := by decide +kernel
theorem dX12_personTo_37 : decode cX12_personTo 37 = .ok (.aload_n 0, 1) := by decide +kernel
theorem dX12_personTo_38 : decode cX12_personTo 38 = .ok (.iconst 3, 1) := by decide +kernel
theorem dX12_personTo_39 : decode cX12_personTo 39 = .ok (.invokevirtual 170, 3) := by decide +kernel
theorem dX12_personTo_42 : decode cX12_personTo 42 = .ok (.ireturn, 1) := by decide +kernel
theorem dX12_personTo_43 : decode cX12_personTo 43 = .ok (.aload_n 0, 1) := by decide +kernel
theorem dX12_personTo_44 : decode cX12_personTo 44 = .ok (.getfield 7, 3) := by decide +kernel
theorem dX12_personTo_47 : decode cX12_personTo 47 = .ok (.iload_n 3, 1) := by decide +kernel
theorem dX12_personTo_48 : decode cX12_personTo 48 = .ok (.iaload, 1) := by decide +kernel
theorem dX12_personTo_49 : decode cX12_personTo 49 = .ok (.iload 4, 2) := by decide +kernel
theorem dX12_personTo_51 : decode cX12_personTo 51 = .ok (.if_icmp .ne 9, 3) := by decide +kernel
theorem dX12_personTo_54 : decode cX12_personTo 54 = .ok (.aload_n 0, 1) := by decide +kernel
theorem dX12_personTo_55 : decode cX12_personTo 55 = .ok (.iconst 5, 1) := by decide +kernel
theorem dX12_personTo_56 : decode cX12_personTo 56 = .ok (.invokevirtual 170, 3) := by decide +kernel
theorem dX12_personTo_59 : decode cX12_personTo 59 = .ok (.ireturn, 1) := by decide +kernel
theorem dX12_personTo_60 : decode cX12_personTo 60 = .ok (.aload_n 0, 1) := by decide +kernel
theorem dX12_personTo_61 : decode cX12_personTo 61 = .ok (.invokevirtual 164, 3) := by decide +kernel
theorem dX12_personTo_64 : decode cX12_personTo 64 = .ok (.iconst 1, 1) := by decide +kernel
theorem dX12_personTo_65 : decode cX12_personTo 65 = .ok (.ireturn, 1) := by decide +kernel
def qX12_personTo (x1 : Int32) (x2 : Int32) (x3 : Int32) (x4 : Int32) (u0 : St) (post : Int32 → St → Prop) : Prop := qX12_isName u0 (fun r_20 u_19 => ((¬ r_20 = 0 → qX12_findHere x1 x2 u_19 (fun r_24 u_23 => (vp_in x3 3072 ∧ ∀ u_26 : St, u_26 = (sw u_23 0 (upd (ga u_23 0) (x3).toNatClampNeg r_24)) → (vp_in x3 3072 ∧ ((¬ (ga u_26 0 (x3).toNatClampNeg) = (-1 : Int32) → (vp_in x3 3072 ∧ ((¬ (ga u_26 0 (x3).toNatClampNeg) = x4 → qX12_ahead u_26 (fun u_29 => post (1 : Int32) u_29)) ∧ ((ga u_26 0 (x3).toNatClampNeg) = x4 → qX12_fails (5 : Int32) u_26 (fun r_32 u_31 => (bz r_32 ∧ post r_32 u_31)))))) ∧ ((ga u_26 0 (x3).toNatClampNeg) = (-1 : Int32) → qX12_fails (3 : Int32) u_26 (fun r_35 u_34 => (bz r_35 ∧ post r_35 u_34)))))))) ∧ (r_20 = 0 → qX12_fails (2 : Int32) u_19 (fun r_38 u_37 => (bz r_38 ∧ post r_38 u_37)))))
set_option maxRecDepth 100000 in
set_option maxHeartbeats 4000000 in
theorem kX12_personTo {C : Cx} {o0 : Nat} {a0 : Nat → Nat} (hC : Fx C cX12_personTo 5 RX12) (hR0 : xR C = rm 9) {post : Int32 → St → Prop} (hR : RZ C cX12_personTo 5 (fun u : St => (wX12 o0 a0 (xy C) u [])) (fun r u => post r u)) {x1 : Int32} {x2 : Int32} {x3 : Int32} {x4 : Int32} {u0 : St} (h : qX12_personTo x1 x2 x3 x4 u0 post) : G C 0 0 5 (wX12 o0 a0 (xy C) u0 []) 0 [(0, .ref o0), (1, .int x1), (2, .int x2), (3, .int x3), (4, .int x4)] [] := by
  refine g_aload_n (pc := 0) hC 0 dX12_personTo_0 rfl rfl ?_
  refine g_ldcS (pc := 1) hC dX12_personTo_1 ?_
  refine g_callV_i (pc := 3) (wd := fun (u : St) Y => (wX12 o0 a0 (xy C) u Y)) (F := fun Z => Z) (X := []) (As := [.ref (xk C 26)]) (rest := []) (u := u0) hC (fun _ _ => rfl) (fun _ => rfl) (ctX12_isName h) wvX12_isName ml_X12_204 (ci := 10) (q0 := 0) rfl rfl rfl rfl (rmok hR0 rfl) ⟨Nat.zero_le _, Nat.zero_le _⟩ rfl (Nat.le_of_ble_eq_true rfl) dX12_personTo_3 (fun r_20 u_19 h => ?_)
  refine g_if_ne (pc := 6) (tgt := 15) hC dX12_personTo_6 (by decide) (fun c_22 => ?_) (fun c_22 => ?_)
  · have h := h.1 c_22
    refine g_aload_n (pc := 15) hC 0 dX12_personTo_15 rfl rfl ?_
    refine getX12_0 (pc := 16) hC (F := fun Z => Z) (X := []) (fun _ => rfl) fl_X12_7 dX12_personTo_16 ?_
    refine g_iload_n (pc := 19) hC 3 dX12_personTo_19 rfl rfl ?_
    refine g_aload_n (pc := 20) hC 0 dX12_personTo_20 rfl rfl ?_
    refine g_iload_n (pc := 21) hC 1 dX12_personTo_21 rfl rfl ?_
    refine g_iload_n (pc := 22) hC 2 dX12_personTo_22 rfl rfl ?_
    refine g_callV_i (pc := 23) (wd := fun (u : St) Y => (wX12 o0 a0 (xy C) u Y)) (F := fun Z => Z) (X := []) (As := [.int x1, .int x2]) (rest := [.int x3, .ref (a0 0)]) (u := u_19) hC (fun _ _ => rfl) (fun _ => rfl) (ctX12_findHere h) wvX12_findHere ml_X12_208 (ci := 10) (q0 := 0) rfl rfl rfl rfl (rmok hR0 rfl) ⟨Nat.zero_le _, Nat.zero_le _⟩ rfl (Nat.le_of_ble_eq_true rfl) dX12_personTo_23 (fun r_24 u_23 h => ?_)
    refine astX12_0 (pc := 26) hC (F := fun Z => Z) (X := []) (fun _ => rfl) h.1 dX12_personTo_26 ?_
    have h := h.2
    refine g_st (w := fun z => (wX12 o0 a0 (xy C) z [])) (u := (sw u_23 0 (upd (ga u_23 0) (x3).toNatClampNeg r_24))) (fun u_26 eu_26 => ?_)
    have h := h u_26 eu_26
    refine g_aload_n (pc := 27) hC 0 dX12_personTo_27 rfl rfl ?_
    refine getX12_0 (pc := 28) hC (F := fun Z => Z) (X := []) (fun _ => rfl) fl_X12_7 dX12_personTo_28 ?_
    refine g_iload_n (pc := 31) hC 3 dX12_personTo_31 rfl rfl ?_
    refine aldX12_0 (pc := 32) hC (F := fun Z => Z) (X := []) (fun _ => rfl) h.1 dX12_personTo_32 ?_
    have h := h.2
    refine g_iconst (pc := 33) (v := -1) hC dX12_personTo_33 (by decide) ?_
    refine g_icmp_ne (pc := 34) (tgt := 43) hC dX12_personTo_34 (by decide) (fun c_27 => ?_) (fun c_27 => ?_)
    · have h := h.1 c_27
      refine g_aload_n (pc := 43) hC 0 dX12_personTo_43 rfl rfl ?_
      refine getX12_0 (pc := 44) hC (F := fun Z => Z) (X := []) (fun _ => rfl) fl_X12_7 dX12_personTo_44 ?_
      refine g_iload_n (pc := 47) hC 3 dX12_personTo_47 rfl rfl ?_
      refine aldX12_0 (pc := 48) hC (F := fun Z => Z) (X := []) (fun _ => rfl) h.1 dX12_personTo_48 ?_
      have h := h.2
      refine g_iload (pc := 49) hC 4 dX12_personTo_49 rfl ?_
      refine g_icmp_ne (pc := 51) (tgt := 60) hC dX12_personTo_51 (by decide) (fun c_28 => ?_) (fun c_28 => ?_)
      · have h := h.1 c_28
        refine g_aload_n (pc := 60) hC 0 dX12_personTo_60 rfl rfl ?_
        refine g_callV_v (pc := 61) (wd := fun (u : St) Y => (wX12 o0 a0 (xy C) u Y)) (F := fun Z => Z) (X := []) (As := []) (rest := []) (u := u_26) hC (fun _ _ => rfl) (fun _ => rfl) (ctX12_ahead h) wvX12_ahead ml_X12_164 (ci := 10) (q0 := 0) rfl rfl rfl rfl (rmok hR0 rfl) ⟨Nat.zero_le _, Nat.zero_le _⟩ rfl (Nat.le_of_ble_eq_true rfl) dX12_personTo_61 (fun u_29 h => ?_)
        refine g_iconst (pc := 64) (v := 1) hC dX12_personTo_64 (by decide) ?_
        exact hR _ _ _ u_29 dX12_personTo_65 (Or.inr rfl) h
      · have h := h.2 c_28
        refine g_aload_n (pc := 54) hC 0 dX12_personTo_54 rfl rfl ?_
        refine g_iconst (pc := 55) (v := 5) hC dX12_personTo_55 (by decide) ?_
        refine g_callV_i (pc := 56) (wd := fun (u : St) Y => (wX12 o0 a0 (xy C) u Y)) (F := fun Z => Z) (X := []) (As := [.int (5 : Int32)]) (rest := []) (u := u_26) hC (fun _ _ => rfl) (fun _ => rfl) (ctX12_fails h) wvX12_fails ml_X12_170 (ci := 10) (q0 := 0) rfl rfl rfl rfl (rmok hR0 rfl) ⟨Nat.zero_le _, Nat.zero_le _⟩ rfl (Nat.le_of_ble_eq_true rfl) dX12_personTo_56 (fun r_32 u_31 h => ?_)
        exact hR _ _ _ u_31 dX12_personTo_59 h.1 h.2
    · have h := h.2 c_27
      refine g_aload_n (pc := 37) hC 0 dX12_personTo_37 rfl rfl ?_
      refine g_iconst (pc := 38) (v := 3) hC dX12_personTo_38 (by decide) ?_
      refine g_callV_i (pc := 39) (wd := fun (u : St) Y => (wX12 o0 a0 (xy C) u Y)) (F := fun Z => Z) (X := []) (As := [.int (3 : Int32)]) (rest := []) (u := u_26) hC (fun _ _ => rfl) (fun _ => rfl) (ctX12_fails h) wvX12_fails ml_X12_170 (ci := 10) (q0 := 0) rfl rfl rfl rfl (rmok hR0 rfl) ⟨Nat.zero_le _, Nat.zero_le _⟩ rfl (Nat.le_of_ble_eq_true rfl) dX12_personTo_39 (fun r_35 u_34 h => ?_)
      exact hR _ _ _ u_34 dX12_personTo_42 h.1 h.2
  · have h := h.2 c_22
    refine g_aload_n (pc := 9) hC 0 dX12_personTo_9 rfl rfl ?_
    refine g_iconst (pc := 10) (v := 2) hC dX12_personTo_10 (by decide) ?_
    refine g_callV_i (pc := 11) (wd := fun (u : St) Y => (wX12 o0 a0 (xy C) u Y)) (F := fun Z => Z) (X := []) (As := [.int (2 : Int32)]) (rest := []) (u := u_19) hC (fun _ _ => rfl) (fun _ => rfl) (ctX12_fails h) wvX12_fails ml_X12_170 (ci := 10) (q0 := 0) rfl rfl rfl rfl (rmok hR0 rfl) ⟨Nat.zero_le _, Nat.zero_le _⟩ rfl (Nat.le_of_ble_eq_true rfl) dX12_personTo_11 (fun r_38 u_37 h => ?_)
    exact hR _ _ _ u_37 dX12_personTo_14 h.1 h.2
theorem ctX12_personTo {l : Launch} {D : va_G} {cy : Nat → ClassId} {kd : Nat → Nat} {o0 : Nat} {a0 : Nat → Nat} {x1 : Int32} {x2 : Int32} {x3 : Int32} {x4 : Int32} {u0 : St} {post : Int32 → St → Prop} (h : qX12_personTo x1 x2 x3 x4 u0 post) : CtI l D cy kd yX12_personTo cX12_personTo 5 9 .boolean [.ref o0, .int x1, .int x2, .int x3, .int x4] (fun u : St => (wX12 o0 a0 cy u [])) u0 (fun r u => post r u) := met_z (by decide) (Nat.le_of_ble_eq_true rfl) (fun C e1 e2 e3 e4 e5 hC hR => by subst e1 e2 e3 e4; exact kX12_personTo hC e5 hR h)
theorem dX12_aDebt_0 : decode cX12_aDebt 0 = .ok (.aload_n 0, 1) := by decide +kernel
theorem dX12_aDebt_1 : decode cX12_aDebt 1 = .ok (.iconst 2, 1) := by decide +kernel
theorem dX12_aDebt_2 : decode cX12_aDebt 2 = .ok (.bipush 7, 2) := by decide +kernel
theorem dX12_aDebt_4 : decode cX12_aDebt 4 = .ok (.invokevirtual 183, 3) := by decide +kernel
theorem dX12_aDebt_7 : decode cX12_aDebt 7 = .ok (.ifCond .eq 10, 3) := by decide +kernel
theorem dX12_aDebt_10 : decode cX12_aDebt 10 = .ok (.aload_n 0, 1) := by decide +kernel
theorem dX12_aDebt_11 : decode cX12_aDebt 11 = .ok (.bipush 6, 2) := by decide +kernel
theorem dX12_aDebt_13 : decode cX12_aDebt 13 = .ok (.invokevirtual 170, 3) := by decide +kernel
theorem dX12_aDebt_16 : decode cX12_aDebt 16 = .ok (.ireturn, 1) := by decide +kernel
theorem dX12_aDebt_17 : decode cX12_aDebt 17 = .ok (.sipush 1824, 3) := by decide +kernel
theorem dX12_aDebt_20 : decode cX12_aDebt 20 = .ok (.aload_n 0, 1) := by decide +kernel
theorem dX12_aDebt_21 : decode cX12_aDebt 21 = .ok (.getfield 7, 3) := by decide +kernel
theorem dX12_aDebt_24 : decode cX12_aDebt 24 = .ok (.sipush 1826, 3) := by decide +kernel
theorem dX12_aDebt_27 : decode cX12_aDebt 27 = .ok (.iaload, 1) := by decide +kernel
theorem dX12_aDebt_28 : decode cX12_aDebt 28 = .ok (.invokestatic 211, 3) := by decide +kernel
theorem dX12_aDebt_31 : decode cX12_aDebt 31 = .ok (.iadd, 1) := by decide +kernel
theorem dX12_aDebt_32 : decode cX12_aDebt 32 = .ok (.istore_n 1, 1) := by decide +kernel
theorem dX12_aDebt_33 : decode cX12_aDebt 33 = .ok (.aload_n 0, 1) := by decide +kernel
theorem dX12_aDebt_34 : decode cX12_aDebt 34 = .ok (.getfield 7, 3) := by decide +kernel
theorem dX12_aDebt_37 : decode cX12_aDebt 37 = .ok (.sipush 1825, 3) := by decide +kernel
theorem dX12_aDebt_40 : decode cX12_aDebt 40 = .ok (.iaload, 1) := by decide +kernel
theorem dX12_aDebt_41 : decode cX12_aDebt 41 = .ok (.istore_n 2, 1) := by decide +kernel
theorem dX12_aDebt_42 : decode cX12_aDebt 42 = .ok (.aload_n 0, 1) := by decide +kernel
theorem dX12_aDebt_43 : decode cX12_aDebt 43 = .ok (.invokevirtual 164, 3) := by decide +kernel
theorem dX12_aDebt_46 : decode cX12_aDebt 46 = .ok (.aload_n 0, 1) := by decide +kernel
theorem dX12_aDebt_47 : decode cX12_aDebt 47 = .ok (.bipush 20, 2) := by decide +kernel
theorem dX12_aDebt_49 : decode cX12_aDebt 49 = .ok (.iload_n 2, 1) := by decide +kernel
theorem dX12_aDebt_50 : decode cX12_aDebt 50 = .ok (.iload_n 1, 1) := by decide +kernel
theorem dX12_aDebt_51 : decode cX12_aDebt 51 = .ok (.iconst (-1), 1) := by decide +kernel
theorem dX12_aDebt_52 : decode cX12_aDebt 52 = .ok (.invokevirtual 214, 3) := by decide +kernel
theorem dX12_aDebt_55 : decode cX12_aDebt 55 = .ok (.ifCond .eq 22, 3) := by decide +kernel
theorem dX12_aDebt_58 : decode cX12_aDebt 58 = .ok (.aload_n 0, 1) := by decide +kernel
theorem dX12_aDebt_59 : decode cX12_aDebt 59 = .ok (.bipush 20, 2) := by decide +kernel
theorem dX12_aDebt_61 : decode cX12_aDebt 61 = .ok (.iload_n 2, 1) := by decide +kernel
theorem dX12_aDebt_62 : decode cX12_aDebt 62 = .ok (.iload_n 1, 1) := by decide +kernel
theorem dX12_aDebt_63 : decode cX12_aDebt 63 = .ok (.iconst 1, 1) := by decide +kernel
theorem dX12_aDebt_64 : decode cX12_aDebt 64 = .ok (.iadd, 1) := by decide +kernel
theorem dX12_aDebt_65 : decode cX12_aDebt 65 = .ok (.aload_n 0, 1) := by decide +kernel
theorem dX12_aDebt_66 : decode cX12_aDebt 66 = .ok (.getfield 7, 3) := by decide +kernel
theorem dX12_aDebt_69 : decode cX12_aDebt 69 = .ok (.iload_n 1, 1) := by decide +kernel
theorem dX12_aDebt_70 : decode cX12_aDebt 70 = .ok (.iaload, 1) := by decide +kernel
theorem dX12_aDebt_71 : decode cX12_aDebt 71 = .ok (.invokevirtual 214, 3) := by decide +kernel
theorem dX12_aDebt_74 : decode cX12_aDebt 74 = .ok (.ifCond .ne 5, 3) := by decide +kernel
theorem dX12_aDebt_77 : decode cX12_aDebt 77 = .ok (.iconst 0, 1) := by decide +kernel
theorem dX12_aDebt_78 : decode cX12_aDebt 78 = .ok (.ireturn, 1) := by decide +kernel
theorem dX12_aDebt_79 : decode cX12_aDebt 79 = .ok (.aload_n 0, 1) := by decide +kernel
theorem dX12_aDebt_80 : decode cX12_aDebt 80 = .ok (.ldc 181, 2) := by decide +kernel
theorem dX12_aDebt_82 : decode cX12_aDebt 82 = .ok (.bipush 8, 2) := by decide +kernel
theorem dX12_aDebt_84 : decode cX12_aDebt 84 = .ok (.invokevirtual 190, 3) := by decide +kernel
theorem dX12_aDebt_87 : decode cX12_aDebt 87 = .ok (.ifCond .eq 40, 3) := by decide +kernel
theorem dX12_aDebt_90 : decode cX12_aDebt 90 = .ok (.aload_n 0, 1) := by decide +kernel
theorem dX12_aDebt_91 : decode cX12_aDebt 91 = .ok (.iload_n 1, 1) := by decide +kernel
theorem dX12_aDebt_92 : decode cX12_aDebt 92 = .ok (.iconst 2, 1) := by decide +kernel
theorem dX12_aDebt_93 : decode cX12_aDebt 93 = .ok (.iadd, 1) := by decide +kernel
theorem dX12_aDebt_94 : decode cX12_aDebt 94 = .ok (.iconst 1, 1) := by decide +kernel
theorem dX12_aDebt_95 : decode cX12_aDebt 95 = .ok (.bipush 99, 2) := by decide +kernel
theorem dX12_aDebt_97 : decode cX12_aDebt 97 = .ok (.invokevirtual 194, 3) := by decide +kernel
theorem dX12_aDebt_100 : decode cX12_aDebt 100 = .ok (.ifCond .eq 27, 3) := by decide +kernel
theorem dX12_aDebt_103 : decode cX12_aDebt 103 = .ok (.aload_n 0, 1) := by decide +kernel
theorem dX12_aDebt_104 : decode cX12_aDebt 104 = .ok (.ldc 181, 2) := by decide +kernel
theorem dX12_aDebt_106 : decode cX12_aDebt 106 = .ok (.bipush 9, 2) := by decide +kernel
theorem dX12_aDebt_108 : decode cX12_aDebt 108 = .ok (.invokevirtual 190, 3) := by decide +kernel
theorem dX12_aDebt_111 : decode cX12_aDebt 111 = .ok (.ifCond .eq 16, 3) := by decide +kernel
theorem dX12_aDebt_114 : decode cX12_aDebt 114 = .ok (.aload_n 0, 1) := by decide +kernel
theorem dX12_aDebt_115 : decode cX12_aDebt 115 = .ok (.iload_n 1, 1) := by decide +kernel
theorem dX12_aDebt_116 : decode cX12_aDebt 116 = .ok (.iconst 3, 1) := by decide +kernel
theorem dX12_aDebt_117 : decode cX12_aDebt 117 = .ok (.iadd, 1) := by decide +kernel
theorem dX12_aDebt_118 : decode cX12_aDebt 118 = .ok (.iconst 0, 1) := by decide +kernel
theorem dX12_aDebt_119 : decode cX12_aDebt 119 = .ok (.bipush 9, 2) := by decide +kernel
theorem dX12_aDebt_121 : decode cX12_aDebt 121 = .ok (.invokevirtual 194, 3) := by decide +kernel
theorem dX12_aDebt_124 : decode cX12_aDebt 124 = .ok (.ifCond .ne 5, 3) := by decide +kernel
theorem dX12_aDebt_127 : decode cX12_aDebt 127 = .ok (.iconst 0, 1) := by decide +kernel
theorem dX12_aDebt_128 : decode cX12_aDebt 128 = .ok (.ireturn, 1) := by decide +kernel
theorem dX12_aDebt_129 : decode cX12_aDebt 129 = .ok (.aload_n 0, 1) := by decide +kernel
theorem dX12_aDebt_130 : decode cX12_aDebt 130 = .ok (.getfield 7, 3) := by decide +kernel
theorem dX12_aDebt_133 : decode cX12_aDebt 133 = .ok (.iload_n 1, 1) := by decide +kernel
theorem dX12_aDebt_134 : decode cX12_aDebt 134 = .ok (.iconst 4, 1) := by decide +kernel
theorem dX12_aDebt_135 : decode cX12_aDebt 135 = .ok (.iadd, 1) := by decide +kernel
theorem dX12_aDebt_136 : decode cX12_aDebt 136 = .ok (.aload_n 0, 1) := by decide +kernel
theorem dX12_aDebt_137 : decode cX12_aDebt 137 = .ok (.bipush 10, 2) := by decide +kernel
theorem dX12_aDebt_139 : decode cX12_aDebt 139 = .ok (.invokevirtual 198, 3) := by decide +kernel
theorem dX12_aDebt_142 : decode cX12_aDebt 142 = .ok (.ifCond .eq 7, 3) := by decide +kernel
theorem dX12_aDebt_145 : decode cX12_aDebt 145 = .ok (.iconst 1, 1) := by decide +kernel
theorem dX12_aDebt_146 : decode cX12_aDebt 146 = .ok (.goto 4, 3) := by decide +kernel
theorem dX12_aDebt_149 : decode cX12_aDebt 149 = .ok (.iconst 0, 1) := by decide +kernel
theorem dX12_aDebt_150 : decode cX12_aDebt 150 = .ok (.iastore, 1) := by decide +kernel
theorem dX12_aDebt_151 : decode cX12_aDebt 151 = .ok (.aload_n 0, 1) := by decide +kernel
theorem dX12_aDebt_152 : decode cX12_aDebt 152 = .ok (.ldc 181, 2) := by decide +kernel
theorem dX12_aDebt_154 : decode cX12_aDebt 154 = .ok (.bipush 11, 2) := by decide +kernel
theorem dX12_aDebt_156 : decode cX12_aDebt 156 = .ok (.invokevirtual 190, 3) := by decide +kernel
theorem dX12_aDebt_159 : decode cX12_aDebt 159 = .ok (.ifCond .eq 24, 3) := by decide +kernel
theorem dX12_aDebt_162 : decode cX12_aDebt 162 = .ok (.aload_n 0, 1) := by decide +kernel
theorem dX12_aDebt_163 : decode cX12_aDebt 163 = .ok (.iload_n 1, 1) := by decide +kernel
theorem dX12_aDebt_164 : decode cX12_aDebt 164 = .ok (.iconst 5, 1) := by decide +kernel
theorem dX12_aDebt_165 : decode cX12_aDebt 165 = .ok (.iadd, 1) := by decide +kernel
theorem dX12_aDebt_166 : decode cX12_aDebt 166 = .ok (.iconst 0, 1) := by decide +kernel
theorem dX12_aDebt_167 : decode cX12_aDebt 167 = .ok (.aload_n 0, 1) := by decide +kernel
theorem dX12_aDebt_168 : decode cX12_aDebt 168 = .ok (.getfield 7, 3) := by decide +kernel
theorem dX12_aDebt_171 : decode cX12_aDebt 171 = .ok (.sipush 1824, 3) := by decide +kernel
theorem dX12_aDebt_174 : decode cX12_aDebt 174 = .ok (.iaload, 1) := by decide +kernel
theorem dX12_aDebt_175 : decode cX12_aDebt 175 = .ok (.iconst 1, 1) := by decide +kernel
theorem dX12_aDebt_176 : decode cX12_aDebt 176 = .ok (.isub, 1) := by decide +kernel
theorem dX12_aDebt_177 : decode cX12_aDebt 177 = .ok (.invokevirtual 194, 3) := by decide +kernel
theorem dX12_aDebt_180 : decode cX12_aDebt 180 = .ok (.ifCond .ne 5, 3) := by decide +kernel
theorem dX12_aDebt_183 : decode cX12_aDebt 183 = .ok (.iconst 0, 1) := by decide +kernel
theorem dX12_aDebt_184 : decode cX12_aDebt 184 = .ok (.ireturn, 1) := by decide +kernel
theorem dX12_aDebt_185 : decode cX12_aDebt 185 = .ok (.aload_n 0, 1) := by decide +kernel
theorem dX12_aDebt_186 : decode cX12_aDebt 186 = .ok (.getfield 7, 3) := by decide +kernel
theorem dX12_aDebt_189 : decode cX12_aDebt 189 = .ok (.iload_n 1, 1) := by decide +kernel
theorem dX12_aDebt_190 : decode cX12_aDebt 190 = .ok (.bipush 6, 2) := by decide +kernel
theorem dX12_aDebt_192 : decode cX12_aDebt 192 = .ok (.iadd, 1) := by decide +kernel
theorem dX12_aDebt_193 : decode cX12_aDebt 193 = .ok (.iconst 0, 1) := by decide +kernel
theorem dX12_aDebt_194 : decode cX12_aDebt 194 = .ok (.iastore, 1) := by decide +kernel
theorem dX12_aDebt_195 : decode cX12_aDebt 195 = .ok (.aload_n 0, 1) := by decide +kernel
theorem dX12_aDebt_196 : decode cX12_aDebt 196 = .ok (.bipush 12, 2) := by decide +kernel
theorem dX12_aDebt_198 : decode cX12_aDebt 198 = .ok (.invokevirtual 198, 3) := by decide +kernel
theorem dX12_aDebt_201 : decode cX12_aDebt 201 = .ok (.ifCond .eq 19, 3) := by decide +kernel
theorem dX12_aDebt_204 : decode cX12_aDebt 204 = .ok (.aload_n 0, 1) := by decide +kernel
theorem dX12_aDebt_205 : decode cX12_aDebt 205 = .ok (.iload_n 1, 1) := by decide +kernel
theorem dX12_aDebt_206 : decode cX12_aDebt 206 = .ok (.bipush 6, 2) := by decide +kernel
theorem dX12_aDebt_208 : decode cX12_aDebt 208 = .ok (.iadd, 1) := by decide +kernel
theorem dX12_aDebt_209 : decode cX12_aDebt 209 = .ok (.iconst 0, 1) := by decide +kernel
theorem dX12_aDebt_210 : decode cX12_aDebt 210 = .ok (.bipush 99, 2) := by decide +kernel
theorem dX12_aDebt_212 : decode cX12_aDebt 212 = .ok (.invokevirtual 194, 3) := by decide +kernel
theorem dX12_aDebt_215 : decode cX12_aDebt 215 = .ok (.ifCond .ne 5, 3) := by decide +kernel
theorem dX12_aDebt_218 : decode cX12_aDebt 218 = .ok (.iconst 0, 1) := by decide +kernel
theorem dX12_aDebt_219 : decode cX12_aDebt 219 = .ok (.ireturn, 1) := by decide +kernel
theorem dX12_aDebt_220 : decode cX12_aDebt 220 = .ok (.aload_n 0, 1) := by decide +kernel
theorem dX12_aDebt_221 : decode cX12_aDebt 221 = .ok (.getfield 7, 3) := by decide +kernel
theorem dX12_aDebt_224 : decode cX12_aDebt 224 = .ok (.sipush 1826, 3) := by decide +kernel
theorem dX12_aDebt_227 : decode cX12_aDebt 227 = .ok (.dup2, 1) := by decide +kernel
theorem dX12_aDebt_228 : decode cX12_aDebt 228 = .ok (.iaload, 1) := by decide +kernel
theorem dX12_aDebt_229 : decode cX12_aDebt 229 = .ok (.iconst 1, 1) := by decide +kernel
theorem dX12_aDebt_230 : decode cX12_aDebt 230 = .ok (.iadd, 1) := by decide +kernel
theorem dX12_aDebt_231 : decode cX12_aDebt 231 = .ok (.iastore, 1) := by decide +kernel
theorem dX12_aDebt_232 : decode cX12_aDebt 232 = .ok (.iconst 1, 1) := by decide +kernel
theorem dX12_aDebt_233 : decode cX12_aDebt 233 = .ok (.ireturn, 1) := by decide +kernel
def qX12_aDebt_b77  (post : Int32 → St → Prop)  (u0 : St) : Prop := post (0 : Int32) u0
set_option maxRecDepth 100000 in
set_option maxHeartbeats 4000000 in
theorem kX12_aDebt_b77 {C : Cx} {o0 : Nat} {a0 : Nat → Nat} (hC : Fx C cX12_aDebt 3 RX12) (hR0 : xR C = rm 10) {post : Int32 → St → Prop} (hR : RZ C cX12_aDebt 3 (fun u : St => (wX12 o0 a0 (xy C) u [])) (fun r u => post r u))  {u0 : St} (h : qX12_aDebt_b77 post u0) : G C 0 0 3 (wX12 o0 a0 (xy C) u0 []) 77 [] [] := by
  refine g_iconst (pc := 77) (v := 0) hC dX12_aDebt_77 (by decide) ?_
  exact hR _ _ _ u0 dX12_aDebt_78 (Or.inl rfl) h
def qX12_aDebt_b127  (post : Int32 → St → Prop)  (u0 : St) : Prop := post (0 : Int32) u0
set_option maxRecDepth 100000 in
set_option maxHeartbeats 4000000 in
theorem kX12_aDebt_b127 {C : Cx} {o0 : Nat} {a0 : Nat → Nat} (hC : Fx C cX12_aDebt 3 RX12) (hR0 : xR C = rm 10) {post : Int32 → St → Prop} (hR : RZ C cX12_aDebt 3 (fun u : St => (wX12 o0 a0 (xy C) u [])) (fun r u => post r u))  {u0 : St} (h : qX12_aDebt_b127 post u0) : G C 0 0 3 (wX12 o0 a0 (xy C) u0 []) 127 [] [] := by
  refine g_iconst (pc := 127) (v := 0) hC dX12_aDebt_127 (by decide) ?_
  exact hR _ _ _ u0 dX12_aDebt_128 (Or.inl rfl) h
def qX12_aDebt_b183  (post : Int32 → St → Prop)  (u0 : St) : Prop := post (0 : Int32) u0
set_option maxRecDepth 100000 in
set_option maxHeartbeats 4000000 in
theorem kX12_aDebt_b183 {C : Cx} {o0 : Nat} {a0 : Nat → Nat} (hC : Fx C cX12_aDebt 3 RX12) (hR0 : xR C = rm 10) {post : Int32 → St → Prop} (hR : RZ C cX12_aDebt 3 (fun u : St => (wX12 o0 a0 (xy C) u [])) (fun r u => post r u))  {u0 : St} (h : qX12_aDebt_b183 post u0) : G C 0 0 3 (wX12 o0 a0 (xy C) u0 []) 183 [] [] := by
  refine g_iconst (pc := 183) (v := 0) hC dX12_aDebt_183 (by decide) ?_
  exact hR _ _ _ u0 dX12_aDebt_184 (Or.inl rfl) h
def qX12_aDebt_b220  (post : Int32 → St → Prop)  (u0 : St) : Prop := ∀ u_47 : St, u_47 = (sw u0 0 (upd (ga u0 0) ((1826 : Int32)).toNatClampNeg ((ga u0 0 ((1826 : Int32)).toNatClampNeg) + (1 : Int32)))) → post (1 : Int32) u_47
set_option maxRecDepth 100000 in
set_option maxHeartbeats 4000000 in
theorem kX12_aDebt_b220 {C : Cx} {o0 : Nat} {a0 : Nat → Nat} (hC : Fx C cX12_aDebt 3 RX12) (hR0 : xR C = rm 10) {post : Int32 → St → Prop} (hR : RZ C cX12_aDebt 3 (fun u : St => (wX12 o0 a0 (xy C) u [])) (fun r u => post r u))  {u0 : St} (h : qX12_aDebt_b220 post u0) : G C 0 0 3 (wX12 o0 a0 (xy C) u0 []) 220 [(0, .ref o0)] [] := by
  refine g_aload_n (pc := 220) hC 0 dX12_aDebt_220 rfl rfl ?_
  refine getX12_0 (pc := 221) hC (F := fun Z => Z) (X := []) (fun _ => rfl) fl_X12_7 dX12_aDebt_221 ?_
  refine g_sipush (pc := 224) (v := 1826) hC dX12_aDebt_224 (by decide) ?_
  refine g_dup2 (pc := 227) hC dX12_aDebt_227 rfl rfl ?_
  refine aldX12_0 (pc := 228) hC (F := fun Z => Z) (X := []) (fun _ => rfl) (by unfold vp_in; decide) dX12_aDebt_228 ?_
  refine g_iconst (pc := 229) (v := 1) hC dX12_aDebt_229 (by decide) ?_
  refine g_iadd (pc := 230) hC dX12_aDebt_230 ?_
  refine astX12_0 (pc := 231) hC (F := fun Z => Z) (X := []) (fun _ => rfl) (by unfold vp_in; decide) dX12_aDebt_231 ?_
  refine g_st (w := fun z => (wX12 o0 a0 (xy C) z [])) (u := (sw u0 0 (upd (ga u0 0) ((1826 : Int32)).toNatClampNeg ((ga u0 0 ((1826 : Int32)).toNatClampNeg) + (1 : Int32))))) (fun u_47 eu_47 => ?_)
  have h := h u_47 eu_47
  refine g_iconst (pc := 232) (v := 1) hC dX12_aDebt_232 (by decide) ?_
  exact hR _ _ _ u_47 dX12_aDebt_233 (Or.inr rfl) h
def qX12_aDebt_b150  (post : Int32 → St → Prop)  (x1 : Int32) (s0 : Int32) (s1 : Int32) (u0 : St) : Prop := (vp_in s1 3072 ∧ ∀ u_48 : St, u_48 = (sw u0 0 (upd (ga u0 0) (s1).toNatClampNeg s0)) → qX12_wantWord (11 : Int32) u_48 (fun r_50 u_49 => ((r_50 = 0 → qX12_aDebt_b183 post u_49) ∧ (¬ r_50 = 0 → qX12_number (x1 + (5 : Int32)) (0 : Int32) ((ga u_49 0 ((1824 : Int32)).toNatClampNeg) - (1 : Int32)) u_49 (fun r_54 u_53 => ((¬ r_54 = 0 → (vp_in (x1 + (6 : Int32)) 3072 ∧ ∀ u_57 : St, u_57 = (sw u_53 0 (upd (ga u_53 0) ((x1 + (6 : Int32))).toNatClampNeg (0 : Int32))) → qX12_isThere (12 : Int32) u_57 (fun r_59 u_58 => ((r_59 = 0 → qX12_aDebt_b220 post u_58) ∧ (¬ r_59 = 0 → qX12_number (x1 + (6 : Int32)) (0 : Int32) (99 : Int32) u_58 (fun r_63 u_62 => ((¬ r_63 = 0 → qX12_aDebt_b220 post u_62) ∧ (r_63 = 0 → post (0 : Int32) u_62)))))))) ∧ (r_54 = 0 → qX12_aDebt_b183 post u_53)))))))
set_option maxRecDepth 100000 in
set_option maxHeartbeats 4000000 in
theorem kX12_aDebt_b150 {C : Cx} {o0 : Nat} {a0 : Nat → Nat} (hC : Fx C cX12_aDebt 3 RX12) (hR0 : xR C = rm 10) {post : Int32 → St → Prop} (hR : RZ C cX12_aDebt 3 (fun u : St => (wX12 o0 a0 (xy C) u [])) (fun r u => post r u))  {x1 : Int32} {s0 : Int32} {s1 : Int32} {u0 : St} (h : qX12_aDebt_b150 post x1 s0 s1 u0) : G C 0 0 3 (wX12 o0 a0 (xy C) u0 []) 150 [(0, .ref o0), (1, .int x1)] [.int s0, .int s1, .ref (a0 0)] := by
  refine astX12_0 (pc := 150) hC (F := fun Z => Z) (X := []) (fun _ => rfl) h.1 dX12_aDebt_150 ?_
  have h := h.2
  refine g_st (w := fun z => (wX12 o0 a0 (xy C) z [])) (u := (sw u0 0 (upd (ga u0 0) (s1).toNatClampNeg s0))) (fun u_48 eu_48 => ?_)
  have h := h u_48 eu_48
  refine g_aload_n (pc := 151) hC 0 dX12_aDebt_151 rfl rfl ?_
  refine g_ldcS (pc := 152) hC dX12_aDebt_152 ?_
  refine g_bipush (pc := 154) (v := 11) hC dX12_aDebt_154 (by decide) ?_
  refine g_callV_i (pc := 156) (wd := fun (u : St) Y => (wX12 o0 a0 (xy C) u Y)) (F := fun Z => Z) (X := []) (As := [.ref (xk C 26), .int (11 : Int32)]) (rest := []) (u := u_48) hC (fun _ _ => rfl) (fun _ => rfl) (ctX12_wantWord h) wvX12_wantWord ml_X12_190 (ci := 10) (q0 := 0) rfl rfl rfl rfl (rmok hR0 rfl) ⟨Nat.zero_le _, Nat.zero_le _⟩ rfl (Nat.le_of_ble_eq_true rfl) dX12_aDebt_156 (fun r_50 u_49 h => ?_)
  refine g_if_eq (pc := 159) (tgt := 183) hC dX12_aDebt_159 (by decide) (fun c_52 => ?_) (fun c_52 => ?_)
  · have h := h.1 c_52
    refine g_sub (lv' := []) [] rfl ?_
    exact kX12_aDebt_b183 hC hR0 hR  h
  · have h := h.2 c_52
    refine g_aload_n (pc := 162) hC 0 dX12_aDebt_162 rfl rfl ?_
    refine g_iload_n (pc := 163) hC 1 dX12_aDebt_163 rfl rfl ?_
    refine g_iconst (pc := 164) (v := 5) hC dX12_aDebt_164 (by decide) ?_
    refine g_iadd (pc := 165) hC dX12_aDebt_165 ?_
    refine g_iconst (pc := 166) (v := 0) hC dX12_aDebt_166 (by decide) ?_
    refine g_aload_n (pc := 167) hC 0 dX12_aDebt_167 rfl rfl ?_
    refine getX12_0 (pc := 168) hC (F := fun Z => Z) (X := []) (fun _ => rfl) fl_X12_7 dX12_aDebt_168 ?_
    refine g_sipush (pc := 171) (v := 1824) hC dX12_aDebt_171 (by decide) ?_
    refine aldX12_0 (pc := 174) hC (F := fun Z => Z) (X := []) (fun _ => rfl) (by unfold vp_in; decide) dX12_aDebt_174 ?_
    refine g_iconst (pc := 175) (v := 1) hC dX12_aDebt_175 (by decide) ?_
    refine g_isub (pc := 176) hC dX12_aDebt_176 ?_
    refine g_callV_i (pc := 177) (wd := fun (u : St) Y => (wX12 o0 a0 (xy C) u Y)) (F := fun Z => Z) (X := []) (As := [.int (x1 + (5 : Int32)), .int (0 : Int32), .int ((ga u_49 0 ((1824 : Int32)).toNatClampNeg) - (1 : Int32))]) (rest := []) (u := u_49) hC (fun _ _ => rfl) (fun _ => rfl) (ctX12_number h) wvX12_number ml_X12_194 (ci := 10) (q0 := 0) rfl rfl rfl rfl (rmok hR0 rfl) ⟨Nat.zero_le _, Nat.zero_le _⟩ rfl (Nat.le_of_ble_eq_true rfl) dX12_aDebt_177 (fun r_54 u_53 h => ?_)
    refine g_if_ne (pc := 180) (tgt := 185) hC dX12_aDebt_180 (by decide) (fun c_56 => ?_) (fun c_56 => ?_)
    · have h := h.1 c_56
      refine g_aload_n (pc := 185) hC 0 dX12_aDebt_185 rfl rfl ?_
      refine getX12_0 (pc := 186) hC (F := fun Z => Z) (X := []) (fun _ => rfl) fl_X12_7 dX12_aDebt_186 ?_
      refine g_iload_n (pc := 189) hC 1 dX12_aDebt_189 rfl rfl ?_
      refine g_bipush (pc := 190) (v := 6) hC dX12_aDebt_190 (by decide) ?_
      refine g_iadd (pc := 192) hC dX12_aDebt_192 ?_
      refine g_iconst (pc := 193) (v := 0) hC dX12_aDebt_193 (by decide) ?_
      refine astX12_0 (pc := 194) hC (F := fun Z => Z) (X := []) (fun _ => rfl) h.1 dX12_aDebt_194 ?_
      have h := h.2
      refine g_st (w := fun z => (wX12 o0 a0 (xy C) z [])) (u := (sw u_53 0 (upd (ga u_53 0) ((x1 + (6 : Int32))).toNatClampNeg (0 : Int32)))) (fun u_57 eu_57 => ?_)
      have h := h u_57 eu_57
      refine g_aload_n (pc := 195) hC 0 dX12_aDebt_195 rfl rfl ?_
      refine g_bipush (pc := 196) (v := 12) hC dX12_aDebt_196 (by decide) ?_
      refine g_callV_i (pc := 198) (wd := fun (u : St) Y => (wX12 o0 a0 (xy C) u Y)) (F := fun Z => Z) (X := []) (As := [.int (12 : Int32)]) (rest := []) (u := u_57) hC (fun _ _ => rfl) (fun _ => rfl) (ctX12_isThere h) wvX12_isThere ml_X12_198 (ci := 10) (q0 := 0) rfl rfl rfl rfl (rmok hR0 rfl) ⟨Nat.zero_le _, Nat.zero_le _⟩ rfl (Nat.le_of_ble_eq_true rfl) dX12_aDebt_198 (fun r_59 u_58 h => ?_)
      refine g_if_eq (pc := 201) (tgt := 220) hC dX12_aDebt_201 (by decide) (fun c_61 => ?_) (fun c_61 => ?_)
      · have h := h.1 c_61
        refine g_sub (lv' := [(0, .ref o0)]) [0] rfl ?_
        exact kX12_aDebt_b220 hC hR0 hR  h
      · have h := h.2 c_61
        refine g_aload_n (pc := 204) hC 0 dX12_aDebt_204 rfl rfl ?_
        refine g_iload_n (pc := 205) hC 1 dX12_aDebt_205 rfl rfl ?_
        refine g_bipush (pc := 206) (v := 6) hC dX12_aDebt_206 (by decide) ?_
        refine g_iadd (pc := 208) hC dX12_aDebt_208 ?_
        refine g_iconst (pc := 209) (v := 0) hC dX12_aDebt_209 (by decide) ?_
        refine g_bipush (pc := 210) (v := 99) hC dX12_aDebt_210 (by decide) ?_
        refine g_callV_i (pc := 212) (wd := fun (u : St) Y => (wX12 o0 a0 (xy C) u Y)) (F := fun Z => Z) (X := []) (As := [.int (x1 + (6 : Int32)), .int (0 : Int32), .int (99 : Int32)]) (rest := []) (u := u_58) hC (fun _ _ => rfl) (fun _ => rfl) (ctX12_number h) wvX12_number ml_X12_194 (ci := 10) (q0 := 0) rfl rfl rfl rfl (rmok hR0 rfl) ⟨Nat.zero_le _, Nat.zero_le _⟩ rfl (Nat.le_of_ble_eq_true rfl) dX12_aDebt_212 (fun r_63 u_62 h => ?_)
        refine g_if_ne (pc := 215) (tgt := 220) hC dX12_aDebt_215 (by decide) (fun c_65 => ?_) (fun c_65 => ?_)
        · have h := h.1 c_65
          refine g_sub (lv' := [(0, .ref o0)]) [0] rfl ?_
          exact kX12_aDebt_b220 hC hR0 hR  h
        · have h := h.2 c_65
          refine g_iconst (pc := 218) (v := 0) hC dX12_aDebt_218 (by decide) ?_
          exact hR _ _ _ u_62 dX12_aDebt_219 (Or.inl rfl) h
    · have h := h.2 c_56
      refine g_sub (lv' := []) [] rfl ?_
      exact kX12_aDebt_b183 hC hR0 hR  h
def qX12_aDebt  (u0 : St) (post : Int32 → St → Prop) : Prop := qX12_isFull (2 : Int32) (7 : Int32) u0 (fun r_67 u_66 => ((r_67 = 0 → qX12_debtRow (ga u_66 0 ((1826 : Int32)).toNatClampNeg) (fun r_70 => ∀ x1_72 : Int32, x1_72 = ((1824 : Int32) + r_70) → ∀ x2_73 : Int32, x2_73 = (ga u_66 0 ((1825 : Int32)).toNatClampNeg) → qX12_ahead u_66 (fun u_74 => qX12_personTo (20 : Int32) x2_73 x1_72 (-1 : Int32) u_74 (fun r_77 u_76 => ((r_77 = 0 → qX12_aDebt_b77 post u_76) ∧ (¬ r_77 = 0 → (vp_in x1_72 3072 ∧ qX12_personTo (20 : Int32) x2_73 (x1_72 + (1 : Int32)) (ga u_76 0 (x1_72).toNatClampNeg) u_76 (fun r_81 u_80 => ((¬ r_81 = 0 → qX12_wantWord (8 : Int32) u_80 (fun r_85 u_84 => ((r_85 = 0 → qX12_aDebt_b127 post u_84) ∧ (¬ r_85 = 0 → qX12_number (x1_72 + (2 : Int32)) (1 : Int32) (99 : Int32) u_84 (fun r_89 u_88 => ((r_89 = 0 → qX12_aDebt_b127 post u_88) ∧ (¬ r_89 = 0 → qX12_wantWord (9 : Int32) u_88 (fun r_93 u_92 => ((r_93 = 0 → qX12_aDebt_b127 post u_92) ∧ (¬ r_93 = 0 → qX12_number (x1_72 + (3 : Int32)) (0 : Int32) (9 : Int32) u_92 (fun r_97 u_96 => ((¬ r_97 = 0 → qX12_isThere (10 : Int32) u_96 (fun r_101 u_100 => ((r_101 = 0 → qX12_aDebt_b150 post x1_72 (0 : Int32) (x1_72 + (4 : Int32)) u_100) ∧ (¬ r_101 = 0 → qX12_aDebt_b150 post x1_72 (1 : Int32) (x1_72 + (4 : Int32)) u_100)))) ∧ (r_97 = 0 → qX12_aDebt_b127 post u_96))))))))))))) ∧ (r_81 = 0 → qX12_aDebt_b77 post u_80)))))))))) ∧ (¬ r_67 = 0 → qX12_fails (6 : Int32) u_66 (fun r_105 u_104 => (bz r_105 ∧ post r_105 u_104)))))
set_option maxRecDepth 100000 in
set_option maxHeartbeats 4000000 in
theorem kX12_aDebt {C : Cx} {o0 : Nat} {a0 : Nat → Nat} (hC : Fx C cX12_aDebt 3 RX12) (hR0 : xR C = rm 10) {post : Int32 → St → Prop} (hR : RZ C cX12_aDebt 3 (fun u : St => (wX12 o0 a0 (xy C) u [])) (fun r u => post r u))  {u0 : St} (h : qX12_aDebt  u0 post) : G C 0 0 3 (wX12 o0 a0 (xy C) u0 []) 0 [(0, .ref o0)] [] := by
  refine g_aload_n (pc := 0) hC 0 dX12_aDebt_0 rfl rfl ?_
  refine g_iconst (pc := 1) (v := 2) hC dX12_aDebt_1 (by decide) ?_
  refine g_bipush (pc := 2) (v := 7) hC dX12_aDebt_2 (by decide) ?_
  refine g_callV_i (pc := 4) (wd := fun (u : St) Y => (wX12 o0 a0 (xy C) u Y)) (F := fun Z => Z) (X := []) (As := [.int (2 : Int32), .int (7 : Int32)]) (rest := []) (u := u0) hC (fun _ _ => rfl) (fun _ => rfl) (ctX12_isFull h) wvX12_isFull ml_X12_183 (ci := 10) (q0 := 0) rfl rfl rfl rfl (rmok hR0 rfl) ⟨Nat.zero_le _, Nat.zero_le _⟩ rfl (Nat.le_of_ble_eq_true rfl) dX12_aDebt_4 (fun r_67 u_66 h => ?_)
  refine g_if_eq (pc := 7) (tgt := 17) hC dX12_aDebt_7 (by decide) (fun c_69 => ?_) (fun c_69 => ?_)
  · have h := h.1 c_69
    refine g_sipush (pc := 17) (v := 1824) hC dX12_aDebt_17 (by decide) ?_
    refine g_aload_n (pc := 20) hC 0 dX12_aDebt_20 rfl rfl ?_
    refine getX12_0 (pc := 21) hC (F := fun Z => Z) (X := []) (fun _ => rfl) fl_X12_7 dX12_aDebt_21 ?_
    refine g_sipush (pc := 24) (v := 1826) hC dX12_aDebt_24 (by decide) ?_
    refine aldX12_0 (pc := 27) hC (F := fun Z => Z) (X := []) (fun _ => rfl) (by unfold vp_in; decide) dX12_aDebt_27 ?_
    refine g_callS_i (pc := 28) (wd := fun (_ : Unit) Y => Y) (F := fun Z => Z) (X := []) (As := [.int (ga u_66 0 ((1826 : Int32)).toNatClampNeg)]) (rest := [.int (1824 : Int32)]) (u := ()) hC (fun _ _ => rfl) (fun _ => rfl) (ctX12_debtRow h) wvX12_debtRow ml_X12_211 rfl (rmok hR0 rfl) ⟨Nat.zero_le _, Nat.zero_le _⟩ rfl (Nat.le_of_ble_eq_true rfl) dX12_aDebt_28 (fun r_70 u_71 h => ?_)
    refine g_iadd (pc := 31) hC dX12_aDebt_31 ?_
    refine g_topi (fun x1_72 ex1_72 => ?_)
    have h := h x1_72 ex1_72
    refine g_istore_n (pc := 32) (lv' := [(1, .int x1_72), (0, .ref o0)]) hC dX12_aDebt_32 rfl (Nat.le_of_ble_eq_true rfl) rfl ?_
    refine g_aload_n (pc := 33) hC 1 dX12_aDebt_33 rfl rfl ?_
    refine getX12_0 (pc := 34) hC (F := fun Z => Z) (X := []) (fun _ => rfl) fl_X12_7 dX12_aDebt_34 ?_
    refine g_sipush (pc := 37) (v := 1825) hC dX12_aDebt_37 (by decide) ?_
    refine aldX12_0 (pc := 40) hC (F := fun Z => Z) (X := []) (fun _ => rfl) (by unfold vp_in; decide) dX12_aDebt_40 ?_
    refine g_topi (fun x2_73 ex2_73 => ?_)
    have h := h x2_73 ex2_73
    refine g_istore_n (pc := 41) (lv' := [(2, .int x2_73), (1, .int x1_72), (0, .ref o0)]) hC dX12_aDebt_41 rfl (Nat.le_of_ble_eq_true rfl) rfl ?_
    refine g_aload_n (pc := 42) hC 2 dX12_aDebt_42 rfl rfl ?_
    refine g_callV_v (pc := 43) (wd := fun (u : St) Y => (wX12 o0 a0 (xy C) u Y)) (F := fun Z => Z) (X := []) (As := []) (rest := []) (u := u_66) hC (fun _ _ => rfl) (fun _ => rfl) (ctX12_ahead h) wvX12_ahead ml_X12_164 (ci := 10) (q0 := 0) rfl rfl rfl rfl (rmok hR0 rfl) ⟨Nat.zero_le _, Nat.zero_le _⟩ rfl (Nat.le_of_ble_eq_true rfl) dX12_aDebt_43 (fun u_74 h => ?_)
    refine g_aload_n (pc := 46) hC 2 dX12_aDebt_46 rfl rfl ?_
    refine g_bipush (pc := 47) (v := 20) hC dX12_aDebt_47 (by decide) ?_
    refine g_iload_n (pc := 49) hC 0 dX12_aDebt_49 rfl rfl ?_
    refine g_iload_n (pc := 50) hC 1 dX12_aDebt_50 rfl rfl ?_
    refine g_iconst (pc := 51) (v := -1) hC dX12_aDebt_51 (by decide) ?_
    refine g_callV_i (pc := 52) (wd := fun (u : St) Y => (wX12 o0 a0 (xy C) u Y)) (F := fun Z => Z) (X := []) (As := [.int (20 : Int32), .int x2_73, .int x1_72, .int (-1 : Int32)]) (rest := []) (u := u_74) hC (fun _ _ => rfl) (fun _ => rfl) (ctX12_personTo h) wvX12_personTo ml_X12_214 (ci := 10) (q0 := 0) rfl rfl rfl rfl (rmok hR0 rfl) ⟨Nat.zero_le _, Nat.zero_le _⟩ rfl (Nat.le_of_ble_eq_true rfl) dX12_aDebt_52 (fun r_77 u_76 h => ?_)
    refine g_if_eq (pc := 55) (tgt := 77) hC dX12_aDebt_55 (by decide) (fun c_79 => ?_) (fun c_79 => ?_)
    · have h := h.1 c_79
      refine g_sub (lv' := []) [] rfl ?_
      exact kX12_aDebt_b77 hC hR0 hR  h
    · have h := h.2 c_79
      refine g_aload_n (pc := 58) hC 2 dX12_aDebt_58 rfl rfl ?_
      refine g_bipush (pc := 59) (v := 20) hC dX12_aDebt_59 (by decide) ?_
      refine g_iload_n (pc := 61) hC 0 dX12_aDebt_61 rfl rfl ?_
      refine g_iload_n (pc := 62) hC 1 dX12_aDebt_62 rfl rfl ?_
      refine g_iconst (pc := 63) (v := 1) hC dX12_aDebt_63 (by decide) ?_
      refine g_iadd (pc := 64) hC dX12_aDebt_64 ?_
      refine g_aload_n (pc := 65) hC 2 dX12_aDebt_65 rfl rfl ?_
      refine getX12_0 (pc := 66) hC (F := fun Z => Z) (X := []) (fun _ => rfl) fl_X12_7 dX12_aDebt_66 ?_
      refine g_iload_n (pc := 69) hC 1 dX12_aDebt_69 rfl rfl ?_
      refine aldX12_0 (pc := 70) hC (F := fun Z => Z) (X := []) (fun _ => rfl) h.1 dX12_aDebt_70 ?_
      have h := h.2
      refine g_callV_i (pc := 71) (wd := fun (u : St) Y => (wX12 o0 a0 (xy C) u Y)) (F := fun Z => Z) (X := []) (As := [.int (20 : Int32), .int x2_73, .int (x1_72 + (1 : Int32)), .int (ga u_76 0 (x1_72).toNatClampNeg)]) (rest := []) (u := u_76) hC (fun _ _ => rfl) (fun _ => rfl) (ctX12_personTo h) wvX12_personTo ml_X12_214 (ci := 10) (q0 := 0) rfl rfl rfl rfl (rmok hR0 rfl) ⟨Nat.zero_le _, Nat.zero_le _⟩ rfl (Nat.le_of_ble_eq_true rfl) dX12_aDebt_71 (fun r_81 u_80 h => ?_)
      refine g_if_ne (pc := 74) (tgt := 79) hC dX12_aDebt_74 (by decide) (fun c_83 => ?_) (fun c_83 => ?_)
      · have h := h.1 c_83
        refine g_aload_n (pc := 79) hC 2 dX12_aDebt_79 rfl rfl ?_
        refine g_ldcS (pc := 80) hC dX12_aDebt_80 ?_
        refine g_bipush (pc := 82) (v := 8) hC dX12_aDebt_82 (by decide) ?_
        refine g_callV_i (pc := 84) (wd := fun (u : St) Y => (wX12 o0 a0 (xy C) u Y)) (F := fun Z => Z) (X := []) (As := [.ref (xk C 26), .int (8 : Int32)]) (rest := []) (u := u_80) hC (fun _ _ => rfl) (fun _ => rfl) (ctX12_wantWord h) wvX12_wantWord ml_X12_190 (ci := 10) (q0 := 0) rfl rfl rfl rfl (rmok hR0 rfl) ⟨Nat.zero_le _, Nat.zero_le _⟩ rfl (Nat.le_of_ble_eq_true rfl) dX12_aDebt_84 (fun r_85 u_84 h => ?_)
        refine g_if_eq (pc := 87) (tgt := 127) hC dX12_aDebt_87 (by decide) (fun c_87 => ?_) (fun c_87 => ?_)
        · have h := h.1 c_87
          refine g_sub (lv' := []) [] rfl ?_
          exact kX12_aDebt_b127 hC hR0 hR  h
        · have h := h.2 c_87
          refine g_aload_n (pc := 90) hC 2 dX12_aDebt_90 rfl rfl ?_
          refine g_iload_n (pc := 91) hC 1 dX12_aDebt_91 rfl rfl ?_
          refine g_iconst (pc := 92) (v := 2) hC dX12_aDebt_92 (by decide) ?_
          refine g_iadd (pc := 93) hC dX12_aDebt_93 ?_
          refine g_iconst (pc := 94) (v := 1) hC dX12_aDebt_94 (by decide) ?_
          refine g_bipush (pc := 95) (v := 99) hC dX12_aDebt_95 (by decide) ?_
          refine g_callV_i (pc := 97) (wd := fun (u : St) Y => (wX12 o0 a0 (xy C) u Y)) (F := fun Z => Z) (X := []) (As := [.int (x1_72 + (2 : Int32)), .int (1 : Int32), .int (99 : Int32)]) (rest := []) (u := u_84) hC (fun _ _ => rfl) (fun _ => rfl) (ctX12_number h) wvX12_number ml_X12_194 (ci := 10) (q0 := 0) rfl rfl rfl rfl (rmok hR0 rfl) ⟨Nat.zero_le _, Nat.zero_le _⟩ rfl (Nat.le_of_ble_eq_true rfl) dX12_aDebt_97 (fun r_89 u_88 h => ?_)
          refine g_if_eq (pc := 100) (tgt := 127) hC dX12_aDebt_100 (by decide) (fun c_91 => ?_) (fun c_91 => ?_)
          · have h := h.1 c_91
            refine g_sub (lv' := []) [] rfl ?_
            exact kX12_aDebt_b127 hC hR0 hR  h
          · have h := h.2 c_91
            refine g_aload_n (pc := 103) hC 2 dX12_aDebt_103 rfl rfl ?_
            refine g_ldcS (pc := 104) hC dX12_aDebt_104 ?_
            refine g_bipush (pc := 106) (v := 9) hC dX12_aDebt_106 (by decide) ?_
            refine g_callV_i (pc := 108) (wd := fun (u : St) Y => (wX12 o0 a0 (xy C) u Y)) (F := fun Z => Z) (X := []) (As := [.ref (xk C 26), .int (9 : Int32)]) (rest := []) (u := u_88) hC (fun _ _ => rfl) (fun _ => rfl) (ctX12_wantWord h) wvX12_wantWord ml_X12_190 (ci := 10) (q0 := 0) rfl rfl rfl rfl (rmok hR0 rfl) ⟨Nat.zero_le _, Nat.zero_le _⟩ rfl (Nat.le_of_ble_eq_true rfl) dX12_aDebt_108 (fun r_93 u_92 h => ?_)
            refine g_if_eq (pc := 111) (tgt := 127) hC dX12_aDebt_111 (by decide) (fun c_95 => ?_) (fun c_95 => ?_)
            · have h := h.1 c_95
              refine g_sub (lv' := []) [] rfl ?_
              exact kX12_aDebt_b127 hC hR0 hR  h
            · have h := h.2 c_95
              refine g_aload_n (pc := 114) hC 2 dX12_aDebt_114 rfl rfl ?_
              refine g_iload_n (pc := 115) hC 1 dX12_aDebt_115 rfl rfl ?_
              refine g_iconst (pc := 116) (v := 3) hC dX12_aDebt_116 (by decide) ?_
              refine g_iadd (pc := 117) hC dX12_aDebt_117 ?_
              refine g_iconst (pc := 118) (v := 0) hC dX12_aDebt_118 (by decide) ?_
              refine g_bipush (pc := 119) (v := 9) hC dX12_aDebt_119 (by decide) ?_
              refine g_callV_i (pc := 121) (wd := fun (u : St) Y => (wX12 o0 a0 (xy C) u Y)) (F := fun Z => Z) (X := []) (As := [.int (x1_72 + (3 : Int32)), .int (0 : Int32), .int (9 : Int32)]) (rest := []) (u := u_92) hC (fun _ _ => rfl) (fun _ => rfl) (ctX12_number h) wvX12_number ml_X12_194 (ci := 10) (q0 := 0) rfl rfl rfl rfl (rmok hR0 rfl) ⟨Nat.zero_le _, Nat.zero_le _⟩ rfl (Nat.le_of_ble_eq_true rfl) dX12_aDebt_121 (fun r_97 u_96 h => ?_)
              refine g_if_ne (pc := 124) (tgt := 129) hC dX12_aDebt_124 (by decide) (fun c_99 => ?_) (fun c_99 => ?_)
              · have h := h.1 c_99
                refine g_aload_n (pc := 129) hC 2 dX12_aDebt_129 rfl rfl ?_
                refine getX12_0 (pc := 130) hC (F := fun Z => Z) (X := []) (fun _ => rfl) fl_X12_7 dX12_aDebt_130 ?_
                refine g_iload_n (pc := 133) hC 1 dX12_aDebt_133 rfl rfl ?_
                refine g_iconst (pc := 134) (v := 4) hC dX12_aDebt_134 (by decide) ?_
                refine g_iadd (pc := 135) hC dX12_aDebt_135 ?_
                refine g_aload_n (pc := 136) hC 2 dX12_aDebt_136 rfl rfl ?_
                refine g_bipush (pc := 137) (v := 10) hC dX12_aDebt_137 (by decide) ?_
                refine g_callV_i (pc := 139) (wd := fun (u : St) Y => (wX12 o0 a0 (xy C) u Y)) (F := fun Z => Z) (X := []) (As := [.int (10 : Int32)]) (rest := [.int (x1_72 + (4 : Int32)), .ref (a0 0)]) (u := u_96) hC (fun _ _ => rfl) (fun _ => rfl) (ctX12_isThere h) wvX12_isThere ml_X12_198 (ci := 10) (q0 := 0) rfl rfl rfl rfl (rmok hR0 rfl) ⟨Nat.zero_le _, Nat.zero_le _⟩ rfl (Nat.le_of_ble_eq_true rfl) dX12_aDebt_139 (fun r_101 u_100 h => ?_)
                refine g_if_eq (pc := 142) (tgt := 149) hC dX12_aDebt_142 (by decide) (fun c_103 => ?_) (fun c_103 => ?_)
                · have h := h.1 c_103
                  refine g_iconst (pc := 149) (v := 0) hC dX12_aDebt_149 (by decide) ?_
                  refine g_sub (lv' := [(0, .ref o0), (1, .int x1_72)]) [2, 1] rfl ?_
                  exact kX12_aDebt_b150 hC hR0 hR  h
                · have h := h.2 c_103
                  refine g_iconst (pc := 145) (v := 1) hC dX12_aDebt_145 (by decide) ?_
                  refine g_goto (pc := 146) (tgt := 150) hC dX12_aDebt_146 (by decide) ?_
                  refine g_sub (lv' := [(0, .ref o0), (1, .int x1_72)]) [2, 1] rfl ?_
                  exact kX12_aDebt_b150 hC hR0 hR  h
              · have h := h.2 c_99
                refine g_sub (lv' := []) [] rfl ?_
                exact kX12_aDebt_b127 hC hR0 hR  h
      · have h := h.2 c_83
        refine g_sub (lv' := []) [] rfl ?_
        exact kX12_aDebt_b77 hC hR0 hR  h
  · have h := h.2 c_69
    refine g_aload_n (pc := 10) hC 0 dX12_aDebt_10 rfl rfl ?_
    refine g_bipush (pc := 11) (v := 6) hC dX12_aDebt_11 (by decide) ?_
    refine g_callV_i (pc := 13) (wd := fun (u : St) Y => (wX12 o0 a0 (xy C) u Y)) (F := fun Z => Z) (X := []) (As := [.int (6 : Int32)]) (rest := []) (u := u_66) hC (fun _ _ => rfl) (fun _ => rfl) (ctX12_fails h) wvX12_fails ml_X12_170 (ci := 10) (q0 := 0) rfl rfl rfl rfl (rmok hR0 rfl) ⟨Nat.zero_le _, Nat.zero_le _⟩ rfl (Nat.le_of_ble_eq_true rfl) dX12_aDebt_13 (fun r_105 u_104 h => ?_)
    exact hR _ _ _ u_104 dX12_aDebt_16 h.1 h.2
theorem ctX12_aDebt {l : Launch} {D : va_G} {cy : Nat → ClassId} {kd : Nat → Nat} {o0 : Nat} {a0 : Nat → Nat}  {u0 : St} {post : Int32 → St → Prop} (h : qX12_aDebt  u0 post) : CtI l D cy kd yX12_aDebt cX12_aDebt 3 10 .boolean [.ref o0] (fun u : St => (wX12 o0 a0 cy u [])) u0 (fun r u => post r u) := met_z (by decide) (Nat.le_of_ble_eq_true rfl) (fun C e1 e2 e3 e4 e5 hC hR => by subst e1 e2 e3 e4; exact kX12_aDebt hC e5 hR h)
theorem dX12_housePart_0 : decode cX12_housePart 0 = .ok (.aload_n 0, 1) := by decide +kernel
theorem dX12_housePart_1 : decode cX12_housePart 1 = .ok (.ldc 181, 2) := by decide +kernel
theorem dX12_housePart_3 : decode cX12_housePart 3 = .ok (.invokevirtual 173, 3) := by decide +kernel
theorem dX12_housePart_6 : decode cX12_housePart 6 = .ok (.istore_n 1, 1) := by decide +kernel
theorem dX12_housePart_7 : decode cX12_housePart 7 = .ok (.iload_n 1, 1) := by decide +kernel
theorem dX12_housePart_8 : decode cX12_housePart 8 = .ok (.ifCond .lt 8, 3) := by decide +kernel
theorem dX12_housePart_11 : decode cX12_housePart 11 = .ok (.iload_n 1, 1) := by decide +kernel
theorem dX12_housePart_12 : decode cX12_housePart 12 = .ok (.iconst 3, 1) := by decide +kernel
theorem dX12_housePart_13 : decode cX12_housePart 13 = .ok (.if_icmp .le 9, 3) := by decide +kernel
theorem dX12_housePart_16 : decode cX12_housePart 16 = .ok (.aload_n 0, 1) := by decide +kernel
theorem dX12_housePart_17 : decode cX12_housePart 17 = .ok (.iconst 2, 1) := by decide +kernel
theorem dX12_housePart_18 : decode cX12_housePart 18 = .ok (.invokevirtual 170, 3) := by decide +kernel
theorem dX12_housePart_21 : decode cX12_housePart 21 = .ok (.ireturn, 1) := by decide +kernel
theorem dX12_housePart_22 : decode cX12_housePart 22 = .ok (.iload_n 1, 1) := by decide +kernel
theorem dX12_housePart_23 : decode cX12_housePart 23 = .ok (.ifCond .ne 17, 3) := by decide +kernel
theorem dX12_housePart_26 : decode cX12_housePart 26 = .ok (.aload_n 0, 1) := by decide +kernel
theorem dX12_housePart_27 : decode cX12_housePart 27 = .ok (.getfield 218, 3) := by decide +kernel
theorem dX12_housePart_30 : decode cX12_housePart 30 = .ok (.iconst 1, 1) := by decide +kernel
theorem dX12_housePart_31 : decode cX12_housePart 31 = .ok (.if_icmp .ne 9, 3) := by decide +kernel
theorem dX12_housePart_34 : decode cX12_housePart 34 = .ok (.aload_n 0, 1) := by decide +kernel
theorem dX12_housePart_35 : decode cX12_housePart 35 = .ok (.iconst 5, 1) := by decide +kernel
theorem dX12_housePart_36 : decode cX12_housePart 36 = .ok (.invokevirtual 170, 3) := by decide +kernel
theorem dX12_housePart_39 : decode cX12_housePart 39 = .ok (.ireturn, 1) := by decide +kernel
theorem dX12_housePart_40 : decode cX12_housePart 40 = .ok (.iload_n 1, 1) := by decide +kernel
theorem dX12_housePart_41 : decode cX12_housePart 41 = .ok (.ifCond .ne 12, 3) := by decide +kernel
theorem dX12_housePart_44 : decode cX12_housePart 44 = .ok (.aload_n 0, 1) := by decide +kernel
theorem dX12_housePart_45 : decode cX12_housePart 45 = .ok (.iconst 1, 1) := by decide +kernel
theorem dX12_housePart_46 : decode cX12_housePart 46 = .ok (.putfield 218, 3) := by decide +kernel
theorem dX12_housePart_49 : decode cX12_housePart 49 = .ok (.aload_n 0, 1) := by decide +kernel
theorem dX12_housePart_50 : decode cX12_housePart 50 = .ok (.invokevirtual 164, 3) := by decide +kernel
theorem dX12_housePart_53 : decode cX12_housePart 53 = .ok (.iload_n 1, 1) := by decide +kernel
theorem dX12_housePart_54 : decode cX12_housePart 54 = .ok (.tableswitch 56 0 2 #[26, 40, 48], 26) := by decide +kernel
theorem dX12_housePart_80 : decode cX12_housePart 80 = .ok (.aload_n 0, 1) := by decide +kernel
theorem dX12_housePart_81 : decode cX12_housePart 81 = .ok (.sipush 1827, 3) := by decide +kernel
theorem dX12_housePart_84 : decode cX12_housePart 84 = .ok (.iconst 0, 1) := by decide +kernel
theorem dX12_housePart_85 : decode cX12_housePart 85 = .ok (.bipush 16, 2) := by decide +kernel
theorem dX12_housePart_87 : decode cX12_housePart 87 = .ok (.invokevirtual 194, 3) := by decide +kernel
theorem dX12_housePart_90 : decode cX12_housePart 90 = .ok (.istore_n 2, 1) := by decide +kernel
theorem dX12_housePart_91 : decode cX12_housePart 91 = .ok (.goto 24, 3) := by decide +kernel
theorem dX12_housePart_94 : decode cX12_housePart 94 = .ok (.aload_n 0, 1) := by decide +kernel
theorem dX12_housePart_95 : decode cX12_housePart 95 = .ok (.invokevirtual 221, 3) := by decide +kernel
theorem dX12_housePart_98 : decode cX12_housePart 98 = .ok (.istore_n 2, 1) := by decide +kernel
theorem dX12_housePart_99 : decode cX12_housePart 99 = .ok (.goto 16, 3) := by decide +kernel
theorem dX12_housePart_102 : decode cX12_housePart 102 = .ok (.aload_n 0, 1) := by decide +kernel
theorem dX12_housePart_103 : decode cX12_housePart 103 = .ok (.invokevirtual 225, 3) := by decide +kernel
theorem dX12_housePart_106 : decode cX12_housePart 106 = .ok (.istore_n 2, 1) := by decide +kernel
theorem dX12_housePart_107 : decode cX12_housePart 107 = .ok (.goto 8, 3) := by decide +kernel
theorem dX12_housePart_110 : decode cX12_housePart 110 = .ok (.aload_n 0, 1) := by decide +kernel
theorem dX12_housePart_111 : decode cX12_housePart 111 = .ok (.invokevirtual 228, 3) := by decide +kernel
theorem dX12_housePart_114 : decode cX12_housePart 114 = .ok (.istore_n 2, 1) := by decide +kernel
theorem dX12_housePart_115 : decode cX12_housePart 115 = .ok (.iload_n 2, 1) := by decide +kernel
theorem dX12_housePart_116 : decode cX12_housePart 116 = .ok (.ifCond .eq 16, 3) := by decide +kernel
theorem dX12_housePart_119 : decode cX12_housePart 119 = .ok (.aload_n 0, 1) := by decide +kernel
theorem dX12_housePart_120 : decode cX12_housePart 120 = .ok (.bipush 59, 2) := by decide +kernel
theorem dX12_housePart_122 : decode cX12_housePart 122 = .ok (.invokevirtual 231, 3) := by decide +kernel
theorem dX12_housePart_125 : decode cX12_housePart 125 = .ok (.ifCond .eq 7, 3) := by decide +kernel
theorem dX12_housePart_128 : decode cX12_housePart 128 = .ok (.iconst 1, 1) := by decide +kernel
theorem dX12_housePart_129 : decode cX12_housePart 129 = .ok (.goto 4, 3) := by decide +kernel
theorem dX12_housePart_132 : decode cX12_housePart 132 = .ok (.iconst 0, 1) := by decide +kernel
theorem dX12_housePart_133 : decode cX12_housePart 133 = .ok (.ireturn, 1) := by decide +kernel
def qX12_housePart_b16  (post : Int32 → St → Prop)  (u0 : St) : Prop := qX12_fails (2 : Int32) u0 (fun r_29 u_28 => (bz r_29 ∧ post r_29 u_28))
set_option maxRecDepth 100000 in
set_option maxHeartbeats 4000000 in
theorem kX12_housePart_b16 {C : Cx} {o0 : Nat} {a0 : Nat → Nat} (hC : Fx C cX12_housePart 3 RX12) (hR0 : xR C = rm 11) {post : Int32 → St → Prop} (hR : RZ C cX12_housePart 3 (fun u : St => (wX12 o0 a0 (xy C) u [])) (fun r u => post r u))  {u0 : St} (h : qX12_housePart_b16 post u0) : G C 0 0 3 (wX12 o0 a0 (xy C) u0 []) 16 [(0, .ref o0)] [] := by
  refine g_aload_n (pc := 16) hC 0 dX12_housePart_16 rfl rfl ?_
  refine g_iconst (pc := 17) (v := 2) hC dX12_housePart_17 (by decide) ?_
  refine g_callV_i (pc := 18) (wd := fun (u : St) Y => (wX12 o0 a0 (xy C) u Y)) (F := fun Z => Z) (X := []) (As := [.int (2 : Int32)]) (rest := []) (u := u0) hC (fun _ _ => rfl) (fun _ => rfl) (ctX12_fails h) wvX12_fails ml_X12_170 (ci := 10) (q0 := 0) rfl rfl rfl rfl (rmok hR0 rfl) ⟨Nat.zero_le _, Nat.zero_le _⟩ rfl (Nat.le_of_ble_eq_true rfl) dX12_housePart_18 (fun r_29 u_28 h => ?_)
  exact hR _ _ _ u_28 dX12_housePart_21 h.1 h.2
def qX12_housePart_b133  (post : Int32 → St → Prop)  (s0 : Int32) (u0 : St) : Prop := (bz s0 ∧ post s0 u0)
set_option maxRecDepth 100000 in
set_option maxHeartbeats 4000000 in
theorem kX12_housePart_b133 {C : Cx} {o0 : Nat} {a0 : Nat → Nat} (hC : Fx C cX12_housePart 3 RX12) (hR0 : xR C = rm 11) {post : Int32 → St → Prop} (hR : RZ C cX12_housePart 3 (fun u : St => (wX12 o0 a0 (xy C) u [])) (fun r u => post r u))  {s0 : Int32} {u0 : St} (h : qX12_housePart_b133 post s0 u0) : G C 0 0 3 (wX12 o0 a0 (xy C) u0 []) 133 [] [.int s0] := by
  exact hR _ _ _ u0 dX12_housePart_133 h.1 h.2
def qX12_housePart_b132  (post : Int32 → St → Prop)  (u0 : St) : Prop := qX12_housePart_b133 post (0 : Int32) u0
set_option maxRecDepth 100000 in
set_option maxHeartbeats 4000000 in
theorem kX12_housePart_b132 {C : Cx} {o0 : Nat} {a0 : Nat → Nat} (hC : Fx C cX12_housePart 3 RX12) (hR0 : xR C = rm 11) {post : Int32 → St → Prop} (hR : RZ C cX12_housePart 3 (fun u : St => (wX12 o0 a0 (xy C) u [])) (fun r u => post r u))  {u0 : St} (h : qX12_housePart_b132 post u0) : G C 0 0 3 (wX12 o0 a0 (xy C) u0 []) 132 [] [] := by
  refine g_iconst (pc := 132) (v := 0) hC dX12_housePart_132 (by decide) ?_
  exact kX12_housePart_b133 hC hR0 hR  h
def qX12_housePart_b115  (post : Int32 → St → Prop)  (x2 : Int32) (u0 : St) : Prop := ((x2 = 0 → qX12_housePart_b132 post u0) ∧ (¬ x2 = 0 → qX12_wantSign (59 : Int32) u0 (fun r_33 u_32 => ((r_33 = 0 → qX12_housePart_b132 post u_32) ∧ (¬ r_33 = 0 → qX12_housePart_b133 post (1 : Int32) u_32)))))
set_option maxRecDepth 100000 in
set_option maxHeartbeats 4000000 in
theorem kX12_housePart_b115 {C : Cx} {o0 : Nat} {a0 : Nat → Nat} (hC : Fx C cX12_housePart 3 RX12) (hR0 : xR C = rm 11) {post : Int32 → St → Prop} (hR : RZ C cX12_housePart 3 (fun u : St => (wX12 o0 a0 (xy C) u [])) (fun r u => post r u))  {x2 : Int32} {u0 : St} (h : qX12_housePart_b115 post x2 u0) : G C 0 0 3 (wX12 o0 a0 (xy C) u0 []) 115 [(0, .ref o0), (2, .int x2)] [] := by
  refine g_iload_n (pc := 115) hC 1 dX12_housePart_115 rfl rfl ?_
  refine g_if_eq (pc := 116) (tgt := 132) hC dX12_housePart_116 (by decide) (fun c_31 => ?_) (fun c_31 => ?_)
  · have h := h.1 c_31
    refine g_sub (lv' := []) [] rfl ?_
    exact kX12_housePart_b132 hC hR0 hR  h
  · have h := h.2 c_31
    refine g_aload_n (pc := 119) hC 0 dX12_housePart_119 rfl rfl ?_
    refine g_bipush (pc := 120) (v := 59) hC dX12_housePart_120 (by decide) ?_
    refine g_callV_i (pc := 122) (wd := fun (u : St) Y => (wX12 o0 a0 (xy C) u Y)) (F := fun Z => Z) (X := []) (As := [.int (59 : Int32)]) (rest := []) (u := u0) hC (fun _ _ => rfl) (fun _ => rfl) (ctX12_wantSign h) wvX12_wantSign ml_X12_231 (ci := 10) (q0 := 0) rfl rfl rfl rfl (rmok hR0 rfl) ⟨Nat.zero_le _, Nat.zero_le _⟩ rfl (Nat.le_of_ble_eq_true rfl) dX12_housePart_122 (fun r_33 u_32 h => ?_)
    refine g_if_eq (pc := 125) (tgt := 132) hC dX12_housePart_125 (by decide) (fun c_35 => ?_) (fun c_35 => ?_)
    · have h := h.1 c_35
      refine g_sub (lv' := []) [] rfl ?_
      exact kX12_housePart_b132 hC hR0 hR  h
    · have h := h.2 c_35
      refine g_iconst (pc := 128) (v := 1) hC dX12_housePart_128 (by decide) ?_
      refine g_goto (pc := 129) (tgt := 133) hC dX12_housePart_129 (by decide) ?_
      refine g_sub (lv' := []) [] rfl ?_
      exact kX12_housePart_b133 hC hR0 hR  h
def qX12_housePart_b53  (post : Int32 → St → Prop)  (x1 : Int32) (u0 : St) : Prop := ((x1 = (0 : Int32) → qX12_number (1827 : Int32) (0 : Int32) (16 : Int32) u0 (fun r_37 u_36 => qX12_housePart_b115 post r_37 u_36)) ∧ ((x1 = (1 : Int32) → qX12_aStone u0 (fun r_41 u_40 => qX12_housePart_b115 post r_41 u_40)) ∧ ((x1 = (2 : Int32) → qX12_aPerson u0 (fun r_45 u_44 => qX12_housePart_b115 post r_45 u_44)) ∧ (¬ x1 = (0 : Int32) → ¬ x1 = (1 : Int32) → ¬ x1 = (2 : Int32) → qX12_aDebt u0 (fun r_49 u_48 => qX12_housePart_b115 post r_49 u_48)))))
set_option maxRecDepth 100000 in
set_option maxHeartbeats 4000000 in
theorem kX12_housePart_b53 {C : Cx} {o0 : Nat} {a0 : Nat → Nat} (hC : Fx C cX12_housePart 3 RX12) (hR0 : xR C = rm 11) {post : Int32 → St → Prop} (hR : RZ C cX12_housePart 3 (fun u : St => (wX12 o0 a0 (xy C) u [])) (fun r u => post r u))  {x1 : Int32} {u0 : St} (h : qX12_housePart_b53 post x1 u0) : G C 0 0 3 (wX12 o0 a0 (xy C) u0 []) 53 [(0, .ref o0), (1, .int x1)] [] := by
  refine g_iload_n (pc := 53) hC 1 dX12_housePart_53 rfl rfl ?_
  by_cases c_39 : x1 = (0 : Int32)
  · have h := h.1 c_39
    refine g_tabIn (pc := 54) (tgt := 80) hC dX12_housePart_54 (by rw [c_39]; decide) (by rw [c_39]; decide) (by rw [c_39]; rfl) (by decide) ?_
    refine g_aload_n (pc := 80) hC 0 dX12_housePart_80 rfl rfl ?_
    refine g_sipush (pc := 81) (v := 1827) hC dX12_housePart_81 (by decide) ?_
    refine g_iconst (pc := 84) (v := 0) hC dX12_housePart_84 (by decide) ?_
    refine g_bipush (pc := 85) (v := 16) hC dX12_housePart_85 (by decide) ?_
    refine g_callV_i (pc := 87) (wd := fun (u : St) Y => (wX12 o0 a0 (xy C) u Y)) (F := fun Z => Z) (X := []) (As := [.int (1827 : Int32), .int (0 : Int32), .int (16 : Int32)]) (rest := []) (u := u0) hC (fun _ _ => rfl) (fun _ => rfl) (ctX12_number h) wvX12_number ml_X12_194 (ci := 10) (q0 := 0) rfl rfl rfl rfl (rmok hR0 rfl) ⟨Nat.zero_le _, Nat.zero_le _⟩ rfl (Nat.le_of_ble_eq_true rfl) dX12_housePart_87 (fun r_37 u_36 h => ?_)
    refine g_istore_n (pc := 90) (lv' := [(2, .int r_37), (0, .ref o0), (1, .int x1)]) hC dX12_housePart_90 rfl (Nat.le_of_ble_eq_true rfl) rfl ?_
    refine g_goto (pc := 91) (tgt := 115) hC dX12_housePart_91 (by decide) ?_
    refine g_sub (lv' := [(0, .ref o0), (2, .int r_37)]) [1, 0] rfl ?_
    exact kX12_housePart_b115 hC hR0 hR  h
  by_cases c_43 : x1 = (1 : Int32)
  · have h := h.2.1 c_43
    refine g_tabIn (pc := 54) (tgt := 94) hC dX12_housePart_54 (by rw [c_43]; decide) (by rw [c_43]; decide) (by rw [c_43]; rfl) (by decide) ?_
    refine g_aload_n (pc := 94) hC 0 dX12_housePart_94 rfl rfl ?_
    refine g_callV_i (pc := 95) (wd := fun (u : St) Y => (wX12 o0 a0 (xy C) u Y)) (F := fun Z => Z) (X := []) (As := []) (rest := []) (u := u0) hC (fun _ _ => rfl) (fun _ => rfl) (ctX12_aStone h) wvX12_aStone ml_X12_221 (ci := 10) (q0 := 0) rfl rfl rfl rfl (rmok hR0 rfl) ⟨Nat.zero_le _, Nat.zero_le _⟩ rfl (Nat.le_of_ble_eq_true rfl) dX12_housePart_95 (fun r_41 u_40 h => ?_)
    refine g_istore_n (pc := 98) (lv' := [(2, .int r_41), (0, .ref o0), (1, .int x1)]) hC dX12_housePart_98 rfl (Nat.le_of_ble_eq_true rfl) rfl ?_
    refine g_goto (pc := 99) (tgt := 115) hC dX12_housePart_99 (by decide) ?_
    refine g_sub (lv' := [(0, .ref o0), (2, .int r_41)]) [1, 0] rfl ?_
    exact kX12_housePart_b115 hC hR0 hR  h
  by_cases c_47 : x1 = (2 : Int32)
  · have h := h.2.2.1 c_47
    refine g_tabIn (pc := 54) (tgt := 102) hC dX12_housePart_54 (by rw [c_47]; decide) (by rw [c_47]; decide) (by rw [c_47]; rfl) (by decide) ?_
    refine g_aload_n (pc := 102) hC 0 dX12_housePart_102 rfl rfl ?_
    refine g_callV_i (pc := 103) (wd := fun (u : St) Y => (wX12 o0 a0 (xy C) u Y)) (F := fun Z => Z) (X := []) (As := []) (rest := []) (u := u0) hC (fun _ _ => rfl) (fun _ => rfl) (ctX12_aPerson h) wvX12_aPerson ml_X12_225 (ci := 10) (q0 := 0) rfl rfl rfl rfl (rmok hR0 rfl) ⟨Nat.zero_le _, Nat.zero_le _⟩ rfl (Nat.le_of_ble_eq_true rfl) dX12_housePart_103 (fun r_45 u_44 h => ?_)
    refine g_istore_n (pc := 106) (lv' := [(2, .int r_45), (0, .ref o0), (1, .int x1)]) hC dX12_housePart_106 rfl (Nat.le_of_ble_eq_true rfl) rfl ?_
    refine g_goto (pc := 107) (tgt := 115) hC dX12_housePart_107 (by decide) ?_
    refine g_sub (lv' := [(0, .ref o0), (2, .int r_45)]) [1, 0] rfl ?_
    exact kX12_housePart_b115 hC hR0 hR  h
  have h := h.2.2.2 c_39 c_43 c_47
  refine g_tabOut (pc := 54) (tgt := 110) hC dX12_housePart_54 (tab_out x1 (0) 3 (2) rfl (tab_s c_39 (tab_s c_43 (tab_s c_47 tab_0)))) (by decide) ?_
  refine g_aload_n (pc := 110) hC 0 dX12_housePart_110 rfl rfl ?_
  refine g_callV_i (pc := 111) (wd := fun (u : St) Y => (wX12 o0 a0 (xy C) u Y)) (F := fun Z => Z) (X := []) (As := []) (rest := []) (u := u0) hC (fun _ _ => rfl) (fun _ => rfl) (ctX12_aDebt h) wvX12_aDebt ml_X12_228 (ci := 10) (q0 := 0) rfl rfl rfl rfl (rmok hR0 rfl) ⟨Nat.zero_le _, Nat.zero_le _⟩ rfl (Nat.le_of_ble_eq_true rfl) dX12_housePart_111 (fun r_49 u_48 h => ?_)
  refine g_istore_n (pc := 114) (lv' := [(2, .int r_49), (0, .ref o0), (1, .int x1)]) hC dX12_housePart_114 rfl (Nat.le_of_ble_eq_true rfl) rfl ?_
  refine g_sub (lv' := [(0, .ref o0), (2, .int r_49)]) [1, 0] rfl ?_
  exact kX12_housePart_b115 hC hR0 hR  h
def qX12_housePart_b40  (post : Int32 → St → Prop)  (x1 : Int32) (u0 : St) : Prop := ((¬ x1 = 0 → qX12_housePart_b53 post x1 u0) ∧ (x1 = 0 → ∀ u_52 : St, u_52 = (si u0 20 (1 : Int32)) → qX12_ahead u_52 (fun u_53 => qX12_housePart_b53 post x1 u_53)))
set_option maxRecDepth 100000 in
set_option maxHeartbeats 4000000 in
theorem kX12_housePart_b40 {C : Cx} {o0 : Nat} {a0 : Nat → Nat} (hC : Fx C cX12_housePart 3 RX12) (hR0 : xR C = rm 11) {post : Int32 → St → Prop} (hR : RZ C cX12_housePart 3 (fun u : St => (wX12 o0 a0 (xy C) u [])) (fun r u => post r u))  {x1 : Int32} {u0 : St} (h : qX12_housePart_b40 post x1 u0) : G C 0 0 3 (wX12 o0 a0 (xy C) u0 []) 40 [(0, .ref o0), (1, .int x1)] [] := by
  refine g_iload_n (pc := 40) hC 1 dX12_housePart_40 rfl rfl ?_
  refine g_if_ne (pc := 41) (tgt := 53) hC dX12_housePart_41 (by decide) (fun c_51 => ?_) (fun c_51 => ?_)
  · have h := h.1 c_51
    exact kX12_housePart_b53 hC hR0 hR  h
  · have h := h.2 c_51
    refine g_aload_n (pc := 44) hC 0 dX12_housePart_44 rfl rfl ?_
    refine g_iconst (pc := 45) (v := 1) hC dX12_housePart_45 (by decide) ?_
    refine putX12_20 (pc := 46) hC (F := fun Z => Z) (X := []) (fun _ => rfl) fl_X12_218 dX12_housePart_46 ?_
    refine g_st (w := fun z => (wX12 o0 a0 (xy C) z [])) (u := (si u0 20 (1 : Int32))) (fun u_52 eu_52 => ?_)
    have h := h u_52 eu_52
    refine g_aload_n (pc := 49) hC 0 dX12_housePart_49 rfl rfl ?_
    refine g_callV_v (pc := 50) (wd := fun (u : St) Y => (wX12 o0 a0 (xy C) u Y)) (F := fun Z => Z) (X := []) (As := []) (rest := []) (u := u_52) hC (fun _ _ => rfl) (fun _ => rfl) (ctX12_ahead h) wvX12_ahead ml_X12_164 (ci := 10) (q0 := 0) rfl rfl rfl rfl (rmok hR0 rfl) ⟨Nat.zero_le _, Nat.zero_le _⟩ rfl (Nat.le_of_ble_eq_true rfl) dX12_housePart_50 (fun u_53 h => ?_)
    exact kX12_housePart_b53 hC hR0 hR  h
def qX12_housePart  (u0 : St) (post : Int32 → St → Prop) : Prop := qX12_inWords u0 (fun r_56 u_55 => ((r_56 < 0 → qX12_housePart_b16 post u_55) ∧ (¬ r_56 < 0 → ((r_56 ≤ (3 : Int32) → ((¬ r_56 = 0 → qX12_housePart_b40 post r_56 u_55) ∧ (r_56 = 0 → ((¬ (gi u_55 20) = (1 : Int32) → qX12_housePart_b40 post r_56 u_55) ∧ ((gi u_55 20) = (1 : Int32) → qX12_fails (5 : Int32) u_55 (fun r_63 u_62 => (bz r_63 ∧ post r_63 u_62))))))) ∧ (¬ r_56 ≤ (3 : Int32) → qX12_housePart_b16 post u_55)))))
set_option maxRecDepth 100000 in
set_option maxHeartbeats 4000000 in
theorem kX12_housePart {C : Cx} {o0 : Nat} {a0 : Nat → Nat} (hC : Fx C cX12_housePart 3 RX12) (hR0 : xR C = rm 11) {post : Int32 → St → Prop} (hR : RZ C cX12_housePart 3 (fun u : St => (wX12 o0 a0 (xy C) u [])) (fun r u => post r u))  {u0 : St} (h : qX12_housePart  u0 post) : G C 0 0 3 (wX12 o0 a0 (xy C) u0 []) 0 [(0, .ref o0)] [] := by
  refine g_aload_n (pc := 0) hC 0 dX12_housePart_0 rfl rfl ?_
  refine g_ldcS (pc := 1) hC dX12_housePart_1 ?_
  refine g_callV_i (pc := 3) (wd := fun (u : St) Y => (wX12 o0 a0 (xy C) u Y)) (F := fun Z => Z) (X := []) (As := [.ref (xk C 26)]) (rest := []) (u := u0) hC (fun _ _ => rfl) (fun _ => rfl) (ctX12_inWords h) wvX12_inWords ml_X12_173 (ci := 10) (q0 := 0) rfl rfl rfl rfl (rmok hR0 rfl) ⟨Nat.zero_le _, Nat.zero_le _⟩ rfl (Nat.le_of_ble_eq_true rfl) dX12_housePart_3 (fun r_56 u_55 h => ?_)
  refine g_istore_n (pc := 6) (lv' := [(1, .int r_56), (0, .ref o0)]) hC dX12_housePart_6 rfl (Nat.le_of_ble_eq_true rfl) rfl ?_
  refine g_iload_n (pc := 7) hC 0 dX12_housePart_7 rfl rfl ?_
  refine g_if_lt (pc := 8) (tgt := 16) hC dX12_housePart_8 (by decide) (fun c_58 => ?_) (fun c_58 => ?_)
  · have h := h.1 c_58
    refine g_sub (lv' := [(0, .ref o0)]) [1] rfl ?_
    exact kX12_housePart_b16 hC hR0 hR  h
  · have h := h.2 c_58
    refine g_iload_n (pc := 11) hC 0 dX12_housePart_11 rfl rfl ?_
    refine g_iconst (pc := 12) (v := 3) hC dX12_housePart_12 (by decide) ?_
    refine g_icmp_le (pc := 13) (tgt := 22) hC dX12_housePart_13 (by decide) (fun c_59 => ?_) (fun c_59 => ?_)
    · have h := h.1 c_59
      refine g_iload_n (pc := 22) hC 0 dX12_housePart_22 rfl rfl ?_
      refine g_if_ne (pc := 23) (tgt := 40) hC dX12_housePart_23 (by decide) (fun c_60 => ?_) (fun c_60 => ?_)
      · have h := h.1 c_60
        refine g_sub (lv' := [(0, .ref o0), (1, .int r_56)]) [1, 0] rfl ?_
        exact kX12_housePart_b40 hC hR0 hR  h
      · have h := h.2 c_60
        refine g_aload_n (pc := 26) hC 1 dX12_housePart_26 rfl rfl ?_
        refine getX12_20 (pc := 27) hC (F := fun Z => Z) (X := []) (fun _ => rfl) fl_X12_218 dX12_housePart_27 ?_
        refine g_iconst (pc := 30) (v := 1) hC dX12_housePart_30 (by decide) ?_
        refine g_icmp_ne (pc := 31) (tgt := 40) hC dX12_housePart_31 (by decide) (fun c_61 => ?_) (fun c_61 => ?_)
        · have h := h.1 c_61
          refine g_sub (lv' := [(0, .ref o0), (1, .int r_56)]) [1, 0] rfl ?_
          exact kX12_housePart_b40 hC hR0 hR  h
        · have h := h.2 c_61
          refine g_aload_n (pc := 34) hC 1 dX12_housePart_34 rfl rfl ?_
          refine g_iconst (pc := 35) (v := 5) hC dX12_housePart_35 (by decide) ?_
          refine g_callV_i (pc := 36) (wd := fun (u : St) Y => (wX12 o0 a0 (xy C) u Y)) (F := fun Z => Z) (X := []) (As := [.int (5 : Int32)]) (rest := []) (u := u_55) hC (fun _ _ => rfl) (fun _ => rfl) (ctX12_fails h) wvX12_fails ml_X12_170 (ci := 10) (q0 := 0) rfl rfl rfl rfl (rmok hR0 rfl) ⟨Nat.zero_le _, Nat.zero_le _⟩ rfl (Nat.le_of_ble_eq_true rfl) dX12_housePart_36 (fun r_63 u_62 h => ?_)
          exact hR _ _ _ u_62 dX12_housePart_39 h.1 h.2
    · have h := h.2 c_59
      refine g_sub (lv' := [(0, .ref o0)]) [1] rfl ?_
      exact kX12_housePart_b16 hC hR0 hR  h
theorem ctX12_housePart {l : Launch} {D : va_G} {cy : Nat → ClassId} {kd : Nat → Nat} {o0 : Nat} {a0 : Nat → Nat}  {u0 : St} {post : Int32 → St → Prop} (h : qX12_housePart  u0 post) : CtI l D cy kd yX12_housePart cX12_housePart 3 11 .boolean [.ref o0] (fun u : St => (wX12 o0 a0 cy u [])) u0 (fun r u => post r u) := met_z (by decide) (Nat.le_of_ble_eq_true rfl) (fun C e1 e2 e3 e4 e5 hC hR => by subst e1 e2 e3 e4; exact kX12_housePart hC e5 hR h)
theorem dX12_bits_0 : decode cX12_bits 0 = .ok (.iconst 0, 1) := by decide +kernel
theorem dX12_bits_1 : decode cX12_bits 1 = .ok (.istore_n 1, 1) := by decide +kernel
theorem dX12_bits_2 : decode cX12_bits 2 = .ok (.iload_n 0, 1) := by decide +kernel
theorem dX12_bits_3 : decode cX12_bits 3 = .ok (.istore_n 2, 1) := by decide +kernel
theorem dX12_bits_4 : decode cX12_bits 4 = .ok (.iload_n 2, 1) := by decide +kernel
theorem dX12_bits_5 : decode cX12_bits 5 = .ok (.ifCond .eq 15, 3) := by decide +kernel
theorem dX12_bits_8 : decode cX12_bits 8 = .ok (.iinc 1 1, 3) := by decide +kernel
theorem dX12_bits_11 : decode cX12_bits 11 = .ok (.iload_n 2, 1) := by decide +kernel
theorem dX12_bits_12 : decode cX12_bits 12 = .ok (.iload_n 2, 1) := by decide +kernel
theorem dX12_bits_13 : decode cX12_bits 13 = .ok (.iconst 1, 1) := by decide +kernel
theorem dX12_bits_14 : decode cX12_bits 14 = .ok (.isub, 1) := by decide +kernel
theorem dX12_bits_15 : decode cX12_bits 15 = .ok (.iand, 1) := by decide +kernel
theorem dX12_bits_16 : decode cX12_bits 16 = .ok (.istore_n 2, 1) := by decide +kernel
theorem dX12_bits_17 : decode cX12_bits 17 = .ok (.goto (-13), 3) := by decide +kernel
theorem dX12_bits_20 : decode cX12_bits 20 = .ok (.iload_n 1, 1) := by decide +kernel
theorem dX12_bits_21 : decode cX12_bits 21 = .ok (.ireturn, 1) := by decide +kernel
def qX12_bits_l4  (post : Int32 → Prop) (K4 : Int32 → Int32 → Prop) (x1 : Int32) (x2 : Int32) : Prop := ((x2 = 0 → post x1 ) ∧ (¬ x2 = 0 → ∀ x1_3 : Int32, x1_3 = x1 + (1 : Int32) → ∀ x2_4 : Int32, x2_4 = (x2 &&& (x2 - (1 : Int32))) → K4 x1_3 x2_4))
set_option maxRecDepth 100000 in
set_option maxHeartbeats 4000000 in
theorem kX12_bits_l4 {C : Cx}  (hC : Fx C cX12_bits 3 RX12) (hR0 : xR C = rm 1) {post : Int32 → Prop} (hR : RI C cX12_bits 3 (fun _ : Unit => ([] : va_W)) (fun r _ => post r ))  {K4 : Int32 → Int32 → Prop} (hK4 : ∀ (x1 : Int32) (x2 : Int32), K4 x1 x2 → G C 0 0 3 [] 4 [(1, .int x1), (2, .int x2)] []) {x1 : Int32} {x2 : Int32} (h : qX12_bits_l4 post K4 x1 x2) : G C 0 0 3 [] 4 [(1, .int x1), (2, .int x2)] [] := by
  refine g_iload_n (pc := 4) hC 1 dX12_bits_4 rfl rfl ?_
  refine g_if_eq (pc := 5) (tgt := 20) hC dX12_bits_5 (by decide) (fun c_2 => ?_) (fun c_2 => ?_)
  · have h := h.1 c_2
    refine g_iload_n (pc := 20) hC 0 dX12_bits_20 rfl rfl ?_
    exact hR _ _ _ () dX12_bits_21 h
  · have h := h.2 c_2
    obtain ⟨x1_3, ex1_3⟩ : ∃ z : Int32, z = x1 + (1 : Int32) := ⟨_, rfl⟩
    have h := h x1_3 ex1_3
    refine g_iinc (pc := 8) (v := x1_3) (lv' := [(1, .int x1_3), (2, .int x2)]) hC 0 dX12_bits_8 rfl (by rw [ex1_3]; rfl) (Nat.le_of_ble_eq_true rfl) rfl ?_
    refine g_iload_n (pc := 11) hC 1 dX12_bits_11 rfl rfl ?_
    refine g_iload_n (pc := 12) hC 1 dX12_bits_12 rfl rfl ?_
    refine g_iconst (pc := 13) (v := 1) hC dX12_bits_13 (by decide) ?_
    refine g_isub (pc := 14) hC dX12_bits_14 ?_
    refine g_iand (pc := 15) hC dX12_bits_15 ?_
    refine g_topi (fun x2_4 ex2_4 => ?_)
    have h := h x2_4 ex2_4
    refine g_istore_n (pc := 16) (lv' := [(2, .int x2_4), (1, .int x1_3)]) hC dX12_bits_16 rfl (Nat.le_of_ble_eq_true rfl) rfl ?_
    refine g_goto (pc := 17) (tgt := 4) hC dX12_bits_17 (by decide) ?_
    refine g_sub (lv' := [(1, .int x1_3), (2, .int x2_4)]) [1, 0] rfl ?_
    exact hK4 _ _ h
def qX12_bits_L4  (post : Int32 → Prop)  : Nat → Int32 → Int32 → Prop
  | 0 => fun _ _ => False
  | n + 1 => qX12_bits_l4 post (qX12_bits_L4 post n)
theorem kX12_bits_L4 {C : Cx}  (hC : Fx C cX12_bits 3 RX12) (hR0 : xR C = rm 1) {post : Int32 → Prop} (hR : RI C cX12_bits 3 (fun _ : Unit => ([] : va_W)) (fun r _ => post r ))  : ∀ (n : Nat) (x1 : Int32) (x2 : Int32), qX12_bits_L4 post n x1 x2 → G C 0 0 3 [] 4 [(1, .int x1), (2, .int x2)] [] := by
  intro n
  induction n with
  | zero => intro x1 x2 h; exact h.elim
  | succ n ih => intro x1 x2 h; exact kX12_bits_l4 hC hR0 hR  ih h
def qX12_bits (x0 : Int32)  (post : Int32 → Prop) : Prop := ∃ n_5 : Nat, qX12_bits_L4 post n_5 (0 : Int32) x0
set_option maxRecDepth 100000 in
set_option maxHeartbeats 4000000 in
theorem kX12_bits {C : Cx}  (hC : Fx C cX12_bits 3 RX12) (hR0 : xR C = rm 1) {post : Int32 → Prop} (hR : RI C cX12_bits 3 (fun _ : Unit => ([] : va_W)) (fun r _ => post r )) {x0 : Int32}  (h : qX12_bits x0  post) : G C 0 0 3 [] 0 [(0, .int x0)] [] := by
  refine g_iconst (pc := 0) (v := 0) hC dX12_bits_0 (by decide) ?_
  refine g_istore_n (pc := 1) (lv' := [(1, .int (0 : Int32)), (0, .int x0)]) hC dX12_bits_1 rfl (Nat.le_of_ble_eq_true rfl) rfl ?_
  refine g_iload_n (pc := 2) hC 1 dX12_bits_2 rfl rfl ?_
  refine g_istore_n (pc := 3) (lv' := [(2, .int x0), (1, .int (0 : Int32)), (0, .int x0)]) hC dX12_bits_3 rfl (Nat.le_of_ble_eq_true rfl) rfl ?_
  refine g_sub (lv' := [(1, .int (0 : Int32)), (2, .int x0)]) [1, 0] rfl ?_
  obtain ⟨n_5, h⟩ := h
  exact kX12_bits_L4 hC hR0 hR  n_5 _ _ h
theorem ctX12_bits {l : Launch} {D : va_G} {cy : Nat → ClassId} {kd : Nat → Nat}  {x0 : Int32}  {post : Int32 → Prop} (h : qX12_bits x0  post) : CtI l D cy kd yX12_bits cX12_bits 3 1 .int [.int x0] (fun _ : Unit => ([] : va_W)) () (fun r _ => post r ) := met_i (by decide) (Nat.le_of_ble_eq_true rfl) (fun C e1 e2 e3 e4 e5 hC hR => by subst e1 e2 e3 e4; exact kX12_bits hC e5 hR h)
theorem dX12_isPaidUp_0 : decode cX12_isPaidUp 0 = .ok (.aload_n 0, 1) := by decide +kernel
theorem dX12_isPaidUp_1 : decode cX12_isPaidUp 1 = .ok (.aload_n 0, 1) := by decide +kernel
theorem dX12_isPaidUp_2 : decode cX12_isPaidUp 2 = .ok (.getfield 7, 3) := by decide +kernel
theorem dX12_isPaidUp_5 : decode cX12_isPaidUp 5 = .ok (.bipush 6, 2) := by decide +kernel
theorem dX12_isPaidUp_7 : decode cX12_isPaidUp 7 = .ok (.iaload, 1) := by decide +kernel
theorem dX12_isPaidUp_8 : decode cX12_isPaidUp 8 = .ok (.iload_n 1, 1) := by decide +kernel
theorem dX12_isPaidUp_9 : decode cX12_isPaidUp 9 = .ok (.invokevirtual 201, 3) := by decide +kernel
theorem dX12_isPaidUp_12 : decode cX12_isPaidUp 12 = .ok (.ireturn, 1) := by decide +kernel
def qX12_isPaidUp (x1 : Int32) (u0 : St) (post : Int32 → St → Prop) : Prop := qX12_isIn (ga u0 0 ((6 : Int32)).toNatClampNeg) x1 u0 (fun r_5 u_4 => (bz r_5 ∧ post r_5 u_4))
set_option maxRecDepth 100000 in
set_option maxHeartbeats 4000000 in
theorem kX12_isPaidUp {C : Cx} {o0 : Nat} {a0 : Nat → Nat} (hC : Fx C cX12_isPaidUp 2 RX12) (hR0 : xR C = rm 2) {post : Int32 → St → Prop} (hR : RZ C cX12_isPaidUp 2 (fun u : St => (wX12 o0 a0 (xy C) u [])) (fun r u => post r u)) {x1 : Int32} {u0 : St} (h : qX12_isPaidUp x1 u0 post) : G C 0 0 2 (wX12 o0 a0 (xy C) u0 []) 0 [(0, .ref o0), (1, .int x1)] [] := by
  refine g_aload_n (pc := 0) hC 0 dX12_isPaidUp_0 rfl rfl ?_
  refine g_aload_n (pc := 1) hC 0 dX12_isPaidUp_1 rfl rfl ?_
  refine getX12_0 (pc := 2) hC (F := fun Z => Z) (X := []) (fun _ => rfl) fl_X12_7 dX12_isPaidUp_2 ?_
  refine g_bipush (pc := 5) (v := 6) hC dX12_isPaidUp_5 (by decide) ?_
  refine aldX12_0 (pc := 7) hC (F := fun Z => Z) (X := []) (fun _ => rfl) (by unfold vp_in; decide) dX12_isPaidUp_7 ?_
  refine g_iload_n (pc := 8) hC 1 dX12_isPaidUp_8 rfl rfl ?_
  refine g_callV_i (pc := 9) (wd := fun (u : St) Y => (wX12 o0 a0 (xy C) u Y)) (F := fun Z => Z) (X := []) (As := [.int (ga u0 0 ((6 : Int32)).toNatClampNeg), .int x1]) (rest := []) (u := u0) hC (fun _ _ => rfl) (fun _ => rfl) (ctX12_isIn h) wvX12_isIn ml_X12_201 (ci := 10) (q0 := 0) rfl rfl rfl rfl (rmok hR0 rfl) ⟨Nat.zero_le _, Nat.zero_le _⟩ rfl (Nat.le_of_ble_eq_true rfl) dX12_isPaidUp_9 (fun r_5 u_4 h => ?_)
  exact hR _ _ _ u_4 dX12_isPaidUp_12 h.1 h.2
theorem ctX12_isPaidUp {l : Launch} {D : va_G} {cy : Nat → ClassId} {kd : Nat → Nat} {o0 : Nat} {a0 : Nat → Nat} {x1 : Int32} {u0 : St} {post : Int32 → St → Prop} (h : qX12_isPaidUp x1 u0 post) : CtI l D cy kd yX12_isPaidUp cX12_isPaidUp 2 2 .boolean [.ref o0, .int x1] (fun u : St => (wX12 o0 a0 cy u [])) u0 (fun r u => post r u) := met_z (by decide) (Nat.le_of_ble_eq_true rfl) (fun C e1 e2 e3 e4 e5 hC hR => by subst e1 e2 e3 e4; exact kX12_isPaidUp hC e5 hR h)
theorem dX12_debtOf_0 : decode cX12_debtOf 0 = .ok (.aload_n 0, 1) := by decide +kernel
theorem dX12_debtOf_1 : decode cX12_debtOf 1 = .ok (.getfield 7, 3) := by decide +kernel
theorem dX12_debtOf_4 : decode cX12_debtOf 4 = .ok (.iload_n 1, 1) := by decide +kernel
theorem dX12_debtOf_5 : decode cX12_debtOf 5 = .ok (.invokestatic 211, 3) := by decide +kernel
theorem dX12_debtOf_8 : decode cX12_debtOf 8 = .ok (.iload_n 2, 1) := by decide +kernel
theorem dX12_debtOf_9 : decode cX12_debtOf 9 = .ok (.iadd, 1) := by decide +kernel
theorem dX12_debtOf_10 : decode cX12_debtOf 10 = .ok (.iaload, 1) := by decide +kernel
theorem dX12_debtOf_11 : decode cX12_debtOf 11 = .ok (.ireturn, 1) := by decide +kernel
def qX12_debtOf (x1 : Int32) (x2 : Int32) (u0 : St) (post : Int32 → St → Prop) : Prop := qX12_debtRow x1 (fun r_3 => (vp_in (r_3 + x2) 3072 ∧ post (ga u0 0 ((r_3 + x2)).toNatClampNeg) u0))
set_option maxRecDepth 100000 in
set_option maxHeartbeats 4000000 in
theorem kX12_debtOf {C : Cx} {o0 : Nat} {a0 : Nat → Nat} (hC : Fx C cX12_debtOf 3 RX12) (hR0 : xR C = rm 2) {post : Int32 → St → Prop} (hR : RI C cX12_debtOf 3 (fun u : St => (wX12 o0 a0 (xy C) u [])) (fun r u => post r u)) {x1 : Int32} {x2 : Int32} {u0 : St} (h : qX12_debtOf x1 x2 u0 post) : G C 0 0 3 (wX12 o0 a0 (xy C) u0 []) 0 [(0, .ref o0), (1, .int x1), (2, .int x2)] [] := by
  refine g_aload_n (pc := 0) hC 0 dX12_debtOf_0 rfl rfl ?_
  refine getX12_0 (pc := 1) hC (F := fun Z => Z) (X := []) (fun _ => rfl) fl_X12_7 dX12_debtOf_1 ?_
  refine g_iload_n (pc := 4) hC 1 dX12_debtOf_4 rfl rfl ?_
  refine g_callS_i (pc := 5) (wd := fun (_ : Unit) Y => Y) (F := fun Z => Z) (X := []) (As := [.int x1]) (rest := [.ref (a0 0)]) (u := ()) hC (fun _ _ => rfl) (fun _ => rfl) (ctX12_debtRow h) wvX12_debtRow ml_X12_211 rfl (rmok hR0 rfl) ⟨Nat.zero_le _, Nat.zero_le _⟩ rfl (Nat.le_of_ble_eq_true rfl) dX12_debtOf_5 (fun r_3 u_4 h => ?_)
  refine g_iload_n (pc := 8) hC 2 dX12_debtOf_8 rfl rfl ?_
  refine g_iadd (pc := 9) hC dX12_debtOf_9 ?_
  refine aldX12_0 (pc := 10) hC (F := fun Z => Z) (X := []) (fun _ => rfl) h.1 dX12_debtOf_10 ?_
  have h := h.2
  exact hR _ _ _ u0 dX12_debtOf_11 h
theorem ctX12_debtOf {l : Launch} {D : va_G} {cy : Nat → ClassId} {kd : Nat → Nat} {o0 : Nat} {a0 : Nat → Nat} {x1 : Int32} {x2 : Int32} {u0 : St} {post : Int32 → St → Prop} (h : qX12_debtOf x1 x2 u0 post) : CtI l D cy kd yX12_debtOf cX12_debtOf 3 2 .int [.ref o0, .int x1, .int x2] (fun u : St => (wX12 o0 a0 cy u [])) u0 (fun r u => post r u) := met_i (by decide) (Nat.le_of_ble_eq_true rfl) (fun C e1 e2 e3 e4 e5 hC hR => by subst e1 e2 e3 e4; exact kX12_debtOf hC e5 hR h)
theorem dX12_leavesAt_0 : decode cX12_leavesAt 0 = .ok (.iconst 0, 1) := by decide +kernel
theorem dX12_leavesAt_1 : decode cX12_leavesAt 1 = .ok (.istore_n 3, 1) := by decide +kernel
theorem dX12_leavesAt_2 : decode cX12_leavesAt 2 = .ok (.iconst 0, 1) := by decide +kernel
theorem dX12_leavesAt_3 : decode cX12_leavesAt 3 = .ok (.istore 4, 2) := by decide +kernel
theorem dX12_leavesAt_5 : decode cX12_leavesAt 5 = .ok (.iload 4, 2) := by decide +kernel
theorem dX12_leavesAt_7 : decode cX12_leavesAt 7 = .ok (.aload_n 0, 1) := by decide +kernel
theorem dX12_leavesAt_8 : decode cX12_leavesAt 8 = .ok (.getfield 7, 3) := by decide +kernel
theorem dX12_leavesAt_11 : decode cX12_leavesAt 11 = .ok (.iconst 2, 1) := by decide +kernel
theorem dX12_leavesAt_12 : decode cX12_leavesAt 12 = .ok (.iaload, 1) := by decide +kernel
theorem dX12_leavesAt_13 : decode cX12_leavesAt 13 = .ok (.if_icmp .ge 55, 3) := by decide +kernel
theorem dX12_leavesAt_16 : decode cX12_leavesAt 16 = .ok (.aload_n 0, 1) := by decide +kernel
theorem dX12_leavesAt_17 : decode cX12_leavesAt 17 = .ok (.iload 4, 2) := by decide +kernel
theorem dX12_leavesAt_19 : decode cX12_leavesAt 19 = .ok (.invokevirtual 261, 3) := by decide +kernel
theorem dX12_leavesAt_22 : decode cX12_leavesAt 22 = .ok (.ifCond .ne 40, 3) := by decide +kernel
theorem dX12_leavesAt_25 : decode cX12_leavesAt 25 = .ok (.aload_n 0, 1) := by decide +kernel
theorem dX12_leavesAt_26 : decode cX12_leavesAt 26 = .ok (.iload_n 2, 1) := by decide +kernel
theorem dX12_leavesAt_27 : decode cX12_leavesAt 27 = .ok (.iload 4, 2) := by decide +kernel
theorem dX12_leavesAt_29 : decode cX12_leavesAt 29 = .ok (.invokevirtual 201, 3) := by decide +kernel
theorem dX12_leavesAt_32 : decode cX12_leavesAt 32 = .ok (.ifCond .ne 30, 3) := by decide +kernel
theorem dX12_leavesAt_35 : decode cX12_leavesAt 35 = .ok (.iload_n 1, 1) := by decide +kernel
theorem dX12_leavesAt_36 : decode cX12_leavesAt 36 = .ok (.iconst (-1), 1) := by decide +kernel
theorem dX12_leavesAt_37 : decode cX12_leavesAt 37 = .ok (.if_icmp .eq 14, 3) := by decide +kernel
theorem dX12_leavesAt_40 : decode cX12_leavesAt 40 = .ok (.aload_n 0, 1) := by decide +kernel
theorem dX12_leavesAt_41 : decode cX12_leavesAt 41 = .ok (.iload 4, 2) := by decide +kernel
theorem dX12_leavesAt_43 : decode cX12_leavesAt 43 = .ok (.iconst 5, 1) := by decide +kernel
theorem dX12_leavesAt_44 : decode cX12_leavesAt 44 = .ok (.invokevirtual 264, 3) := by decide +kernel
theorem dX12_leavesAt_47 : decode cX12_leavesAt 47 = .ok (.iload_n 1, 1) := by decide +kernel
theorem dX12_leavesAt_48 : decode cX12_leavesAt 48 = .ok (.if_icmp .ne 14, 3) := by decide +kernel
theorem dX12_leavesAt_51 : decode cX12_leavesAt 51 = .ok (.iload_n 3, 1) := by decide +kernel
theorem dX12_leavesAt_52 : decode cX12_leavesAt 52 = .ok (.aload_n 0, 1) := by decide +kernel
theorem dX12_leavesAt_53 : decode cX12_leavesAt 53 = .ok (.iload 4, 2) := by decide +kernel
theorem dX12_leavesAt_55 : decode cX12_leavesAt 55 = .ok (.bipush 6, 2) := by decide +kernel
theorem dX12_leavesAt_57 : decode cX12_leavesAt 57 = .ok (.invokevirtual 264, 3) := by decide +kernel
theorem dX12_leavesAt_60 : decode cX12_leavesAt 60 = .ok (.iadd, 1) := by decide +kernel
theorem dX12_leavesAt_61 : decode cX12_leavesAt 61 = .ok (.istore_n 3, 1) := by decide +kernel
theorem dX12_leavesAt_62 : decode cX12_leavesAt 62 = .ok (.iinc 4 1, 3) := by decide +kernel
theorem dX12_leavesAt_65 : decode cX12_leavesAt 65 = .ok (.goto (-60), 3) := by decide +kernel
theorem dX12_leavesAt_68 : decode cX12_leavesAt 68 = .ok (.iload_n 3, 1) := by decide +kernel
theorem dX12_leavesAt_69 : decode cX12_leavesAt 69 = .ok (.ireturn, 1) := by decide +kernel
def qX12_leavesAt_b62  (post : Int32 → St → Prop) (K5 : Int32 → Int32 → Int32 → Int32 → St → Prop) (x1 : Int32) (x2 : Int32) (x3 : Int32) (x4 : Int32) (u0 : St) : Prop := ∀ x4_14 : Int32, x4_14 = x4 + (1 : Int32) → K5 x1 x2 x3 x4_14 u0
set_option maxRecDepth 100000 in
set_option maxHeartbeats 4000000 in
theorem kX12_leavesAt_b62 {C : Cx} {o0 : Nat} {a0 : Nat → Nat} (hC : Fx C cX12_leavesAt 5 RX12) (hR0 : xR C = rm 3) {post : Int32 → St → Prop} (hR : RI C cX12_leavesAt 5 (fun u : St => (wX12 o0 a0 (xy C) u [])) (fun r u => post r u)) {K5 : Int32 → Int32 → Int32 → Int32 → St → Prop} (hK5 : ∀ (x1 : Int32) (x2 : Int32) (x3 : Int32) (x4 : Int32) (u0 : St), K5 x1 x2 x3 x4 u0 → G C 0 0 5 (wX12 o0 a0 (xy C) u0 []) 5 [(0, .ref o0), (1, .int x1), (2, .int x2), (3, .int x3), (4, .int x4)] []) {x1 : Int32} {x2 : Int32} {x3 : Int32} {x4 : Int32} {u0 : St} (h : qX12_leavesAt_b62 post K5 x1 x2 x3 x4 u0) : G C 0 0 5 (wX12 o0 a0 (xy C) u0 []) 62 [(0, .ref o0), (1, .int x1), (2, .int x2), (3, .int x3), (4, .int x4)] [] := by
  obtain ⟨x4_14, ex4_14⟩ : ∃ z : Int32, z = x4 + (1 : Int32) := ⟨_, rfl⟩
  have h := h x4_14 ex4_14
  refine g_iinc (pc := 62) (v := x4_14) (lv' := [(4, .int x4_14), (0, .ref o0), (1, .int x1), (2, .int x2), (3, .int x3)]) hC 4 dX12_leavesAt_62 rfl (by rw [ex4_14]; rfl) (Nat.le_of_ble_eq_true rfl) rfl ?_
  refine g_goto (pc := 65) (tgt := 5) hC dX12_leavesAt_65 (by decide) ?_
  refine g_sub (lv' := [(0, .ref o0), (1, .int x1), (2, .int x2), (3, .int x3), (4, .int x4_14)]) [1, 2, 3, 4, 0] rfl ?_
  exact hK5 _ _ _ _ _ h
def qX12_leavesAt_b51  (post : Int32 → St → Prop) (K5 : Int32 → Int32 → Int32 → Int32 → St → Prop) (x1 : Int32) (x2 : Int32) (x3 : Int32) (x4 : Int32) (u0 : St) : Prop := qX12_debtOf x4 (6 : Int32) u0 (fun r_16 u_15 => ∀ x3_18 : Int32, x3_18 = (x3 + r_16) → qX12_leavesAt_b62 post K5 x1 x2 x3_18 x4 u_15)
set_option maxRecDepth 100000 in
set_option maxHeartbeats 4000000 in
theorem kX12_leavesAt_b51 {C : Cx} {o0 : Nat} {a0 : Nat → Nat} (hC : Fx C cX12_leavesAt 5 RX12) (hR0 : xR C = rm 3) {post : Int32 → St → Prop} (hR : RI C cX12_leavesAt 5 (fun u : St => (wX12 o0 a0 (xy C) u [])) (fun r u => post r u)) {K5 : Int32 → Int32 → Int32 → Int32 → St → Prop} (hK5 : ∀ (x1 : Int32) (x2 : Int32) (x3 : Int32) (x4 : Int32) (u0 : St), K5 x1 x2 x3 x4 u0 → G C 0 0 5 (wX12 o0 a0 (xy C) u0 []) 5 [(0, .ref o0), (1, .int x1), (2, .int x2), (3, .int x3), (4, .int x4)] []) {x1 : Int32} {x2 : Int32} {x3 : Int32} {x4 : Int32} {u0 : St} (h : qX12_leavesAt_b51 post K5 x1 x2 x3 x4 u0) : G C 0 0 5 (wX12 o0 a0 (xy C) u0 []) 51 [(0, .ref o0), (1, .int x1), (2, .int x2), (3, .int x3), (4, .int x4)] [] := by
  refine g_iload_n (pc := 51) hC 3 dX12_leavesAt_51 rfl rfl ?_
  refine g_aload_n (pc := 52) hC 0 dX12_leavesAt_52 rfl rfl ?_
  refine g_iload (pc := 53) hC 4 dX12_leavesAt_53 rfl ?_
  refine g_bipush (pc := 55) (v := 6) hC dX12_leavesAt_55 (by decide) ?_
  refine g_callV_i (pc := 57) (wd := fun (u : St) Y => (wX12 o0 a0 (xy C) u Y)) (F := fun Z => Z) (X := []) (As := [.int x4, .int (6 : Int32)]) (rest := [.int x3]) (u := u0) hC (fun _ _ => rfl) (fun _ => rfl) (ctX12_debtOf h) wvX12_debtOf ml_X12_264 (ci := 10) (q0 := 0) rfl rfl rfl rfl (rmok hR0 rfl) ⟨Nat.zero_le _, Nat.zero_le _⟩ rfl (Nat.le_of_ble_eq_true rfl) dX12_leavesAt_57 (fun r_16 u_15 h => ?_)
  refine g_iadd (pc := 60) hC dX12_leavesAt_60 ?_
  refine g_topi (fun x3_18 ex3_18 => ?_)
  have h := h x3_18 ex3_18
  refine g_istore_n (pc := 61) (lv' := [(3, .int x3_18), (0, .ref o0), (1, .int x1), (2, .int x2), (4, .int x4)]) hC dX12_leavesAt_61 rfl (Nat.le_of_ble_eq_true rfl) rfl ?_
  refine g_sub (lv' := [(0, .ref o0), (1, .int x1), (2, .int x2), (3, .int x3_18), (4, .int x4)]) [1, 2, 3, 0, 4] rfl ?_
  exact kX12_leavesAt_b62 hC hR0 hR hK5 h
def qX12_leavesAt_l5  (post : Int32 → St → Prop) (K5 : Int32 → Int32 → Int32 → Int32 → St → Prop) (x1 : Int32) (x2 : Int32) (x3 : Int32) (x4 : Int32) (u0 : St) : Prop := (((ga u0 0 ((2 : Int32)).toNatClampNeg) ≤ x4 → post x3 u0) ∧ (¬ (ga u0 0 ((2 : Int32)).toNatClampNeg) ≤ x4 → qX12_isPaidUp x4 u0 (fun r_21 u_20 => ((¬ r_21 = 0 → qX12_leavesAt_b62 post K5 x1 x2 x3 x4 u_20) ∧ (r_21 = 0 → qX12_isIn x2 x4 u_20 (fun r_25 u_24 => ((¬ r_25 = 0 → qX12_leavesAt_b62 post K5 x1 x2 x3 x4 u_24) ∧ (r_25 = 0 → ((x1 = (-1 : Int32) → qX12_leavesAt_b51 post K5 x1 x2 x3 x4 u_24) ∧ (¬ x1 = (-1 : Int32) → qX12_debtOf x4 (5 : Int32) u_24 (fun r_30 u_29 => ((¬ r_30 = x1 → qX12_leavesAt_b62 post K5 x1 x2 x3 x4 u_29) ∧ (r_30 = x1 → qX12_leavesAt_b51 post K5 x1 x2 x3 x4 u_29)))))))))))))
set_option maxRecDepth 100000 in
set_option maxHeartbeats 4000000 in
theorem kX12_leavesAt_l5 {C : Cx} {o0 : Nat} {a0 : Nat → Nat} (hC : Fx C cX12_leavesAt 5 RX12) (hR0 : xR C = rm 3) {post : Int32 → St → Prop} (hR : RI C cX12_leavesAt 5 (fun u : St => (wX12 o0 a0 (xy C) u [])) (fun r u => post r u))  {K5 : Int32 → Int32 → Int32 → Int32 → St → Prop} (hK5 : ∀ (x1 : Int32) (x2 : Int32) (x3 : Int32) (x4 : Int32) (u0 : St), K5 x1 x2 x3 x4 u0 → G C 0 0 5 (wX12 o0 a0 (xy C) u0 []) 5 [(0, .ref o0), (1, .int x1), (2, .int x2), (3, .int x3), (4, .int x4)] []) {x1 : Int32} {x2 : Int32} {x3 : Int32} {x4 : Int32} {u0 : St} (h : qX12_leavesAt_l5 post K5 x1 x2 x3 x4 u0) : G C 0 0 5 (wX12 o0 a0 (xy C) u0 []) 5 [(0, .ref o0), (1, .int x1), (2, .int x2), (3, .int x3), (4, .int x4)] [] := by
  refine g_iload (pc := 5) hC 4 dX12_leavesAt_5 rfl ?_
  refine g_aload_n (pc := 7) hC 0 dX12_leavesAt_7 rfl rfl ?_
  refine getX12_0 (pc := 8) hC (F := fun Z => Z) (X := []) (fun _ => rfl) fl_X12_7 dX12_leavesAt_8 ?_
  refine g_iconst (pc := 11) (v := 2) hC dX12_leavesAt_11 (by decide) ?_
  refine aldX12_0 (pc := 12) hC (F := fun Z => Z) (X := []) (fun _ => rfl) (by unfold vp_in; decide) dX12_leavesAt_12 ?_
  refine g_icmp_ge (pc := 13) (tgt := 68) hC dX12_leavesAt_13 (by decide) (fun c_19 => ?_) (fun c_19 => ?_)
  · have h := h.1 c_19
    refine g_iload_n (pc := 68) hC 3 dX12_leavesAt_68 rfl rfl ?_
    exact hR _ _ _ u0 dX12_leavesAt_69 h
  · have h := h.2 c_19
    refine g_aload_n (pc := 16) hC 0 dX12_leavesAt_16 rfl rfl ?_
    refine g_iload (pc := 17) hC 4 dX12_leavesAt_17 rfl ?_
    refine g_callV_i (pc := 19) (wd := fun (u : St) Y => (wX12 o0 a0 (xy C) u Y)) (F := fun Z => Z) (X := []) (As := [.int x4]) (rest := []) (u := u0) hC (fun _ _ => rfl) (fun _ => rfl) (ctX12_isPaidUp h) wvX12_isPaidUp ml_X12_261 (ci := 10) (q0 := 0) rfl rfl rfl rfl (rmok hR0 rfl) ⟨Nat.zero_le _, Nat.zero_le _⟩ rfl (Nat.le_of_ble_eq_true rfl) dX12_leavesAt_19 (fun r_21 u_20 h => ?_)
    refine g_if_ne (pc := 22) (tgt := 62) hC dX12_leavesAt_22 (by decide) (fun c_23 => ?_) (fun c_23 => ?_)
    · have h := h.1 c_23
      exact kX12_leavesAt_b62 hC hR0 hR hK5 h
    · have h := h.2 c_23
      refine g_aload_n (pc := 25) hC 0 dX12_leavesAt_25 rfl rfl ?_
      refine g_iload_n (pc := 26) hC 2 dX12_leavesAt_26 rfl rfl ?_
      refine g_iload (pc := 27) hC 4 dX12_leavesAt_27 rfl ?_
      refine g_callV_i (pc := 29) (wd := fun (u : St) Y => (wX12 o0 a0 (xy C) u Y)) (F := fun Z => Z) (X := []) (As := [.int x2, .int x4]) (rest := []) (u := u_20) hC (fun _ _ => rfl) (fun _ => rfl) (ctX12_isIn h) wvX12_isIn ml_X12_201 (ci := 10) (q0 := 0) rfl rfl rfl rfl (rmok hR0 rfl) ⟨Nat.zero_le _, Nat.zero_le _⟩ rfl (Nat.le_of_ble_eq_true rfl) dX12_leavesAt_29 (fun r_25 u_24 h => ?_)
      refine g_if_ne (pc := 32) (tgt := 62) hC dX12_leavesAt_32 (by decide) (fun c_27 => ?_) (fun c_27 => ?_)
      · have h := h.1 c_27
        exact kX12_leavesAt_b62 hC hR0 hR hK5 h
      · have h := h.2 c_27
        refine g_iload_n (pc := 35) hC 1 dX12_leavesAt_35 rfl rfl ?_
        refine g_iconst (pc := 36) (v := -1) hC dX12_leavesAt_36 (by decide) ?_
        refine g_icmp_eq (pc := 37) (tgt := 51) hC dX12_leavesAt_37 (by decide) (fun c_28 => ?_) (fun c_28 => ?_)
        · have h := h.1 c_28
          exact kX12_leavesAt_b51 hC hR0 hR hK5 h
        · have h := h.2 c_28
          refine g_aload_n (pc := 40) hC 0 dX12_leavesAt_40 rfl rfl ?_
          refine g_iload (pc := 41) hC 4 dX12_leavesAt_41 rfl ?_
          refine g_iconst (pc := 43) (v := 5) hC dX12_leavesAt_43 (by decide) ?_
          refine g_callV_i (pc := 44) (wd := fun (u : St) Y => (wX12 o0 a0 (xy C) u Y)) (F := fun Z => Z) (X := []) (As := [.int x4, .int (5 : Int32)]) (rest := []) (u := u_24) hC (fun _ _ => rfl) (fun _ => rfl) (ctX12_debtOf h) wvX12_debtOf ml_X12_264 (ci := 10) (q0 := 0) rfl rfl rfl rfl (rmok hR0 rfl) ⟨Nat.zero_le _, Nat.zero_le _⟩ rfl (Nat.le_of_ble_eq_true rfl) dX12_leavesAt_44 (fun r_30 u_29 h => ?_)
          refine g_iload_n (pc := 47) hC 1 dX12_leavesAt_47 rfl rfl ?_
          refine g_icmp_ne (pc := 48) (tgt := 62) hC dX12_leavesAt_48 (by decide) (fun c_32 => ?_) (fun c_32 => ?_)
          · have h := h.1 c_32
            exact kX12_leavesAt_b62 hC hR0 hR hK5 h
          · have h := h.2 c_32
            exact kX12_leavesAt_b51 hC hR0 hR hK5 h
def qX12_leavesAt_L5  (post : Int32 → St → Prop)  : Nat → Int32 → Int32 → Int32 → Int32 → St → Prop
  | 0 => fun _ _ _ _ _ => False
  | n + 1 => qX12_leavesAt_l5 post (qX12_leavesAt_L5 post n)
theorem kX12_leavesAt_L5 {C : Cx} {o0 : Nat} {a0 : Nat → Nat} (hC : Fx C cX12_leavesAt 5 RX12) (hR0 : xR C = rm 3) {post : Int32 → St → Prop} (hR : RI C cX12_leavesAt 5 (fun u : St => (wX12 o0 a0 (xy C) u [])) (fun r u => post r u))  : ∀ (n : Nat) (x1 : Int32) (x2 : Int32) (x3 : Int32) (x4 : Int32) (u0 : St), qX12_leavesAt_L5 post n x1 x2 x3 x4 u0 → G C 0 0 5 (wX12 o0 a0 (xy C) u0 []) 5 [(0, .ref o0), (1, .int x1), (2, .int x2), (3, .int x3), (4, .int x4)] [] := by
  intro n
  induction n with
  | zero => intro x1 x2 x3 x4 u0 h; exact h.elim
  | succ n ih => intro x1 x2 x3 x4 u0 h; exact kX12_leavesAt_l5 hC hR0 hR  ih h
def qX12_leavesAt (x1 : Int32) (x2 : Int32) (u0 : St) (post : Int32 → St → Prop) : Prop := ∃ n_33 : Nat, qX12_leavesAt_L5 post n_33 x1 x2 (0 : Int32) (0 : Int32) u0
set_option maxRecDepth 100000 in
set_option maxHeartbeats 4000000 in
theorem kX12_leavesAt {C : Cx} {o0 : Nat} {a0 : Nat → Nat} (hC : Fx C cX12_leavesAt 5 RX12) (hR0 : xR C = rm 3) {post : Int32 → St → Prop} (hR : RI C cX12_leavesAt 5 (fun u : St => (wX12 o0 a0 (xy C) u [])) (fun r u => post r u)) {x1 : Int32} {x2 : Int32} {u0 : St} (h : qX12_leavesAt x1 x2 u0 post) : G C 0 0 5 (wX12 o0 a0 (xy C) u0 []) 0 [(0, .ref o0), (1, .int x1), (2, .int x2)] [] := by
  refine g_iconst (pc := 0) (v := 0) hC dX12_leavesAt_0 (by decide) ?_
  refine g_istore_n (pc := 1) (lv' := [(3, .int (0 : Int32)), (0, .ref o0), (1, .int x1), (2, .int x2)]) hC dX12_leavesAt_1 rfl (Nat.le_of_ble_eq_true rfl) rfl ?_
  refine g_iconst (pc := 2) (v := 0) hC dX12_leavesAt_2 (by decide) ?_
  refine g_istore (pc := 3) (lv' := [(4, .int (0 : Int32)), (3, .int (0 : Int32)), (0, .ref o0), (1, .int x1), (2, .int x2)]) hC dX12_leavesAt_3 (Nat.le_of_ble_eq_true rfl) rfl ?_
  refine g_sub (lv' := [(0, .ref o0), (1, .int x1), (2, .int x2), (3, .int (0 : Int32)), (4, .int (0 : Int32))]) [2, 3, 4, 1, 0] rfl ?_
  obtain ⟨n_33, h⟩ := h
  exact kX12_leavesAt_L5 hC hR0 hR  n_33 _ _ _ _ _ h
theorem ctX12_leavesAt {l : Launch} {D : va_G} {cy : Nat → ClassId} {kd : Nat → Nat} {o0 : Nat} {a0 : Nat → Nat} {x1 : Int32} {x2 : Int32} {u0 : St} {post : Int32 → St → Prop} (h : qX12_leavesAt x1 x2 u0 post) : CtI l D cy kd yX12_leavesAt cX12_leavesAt 5 3 .int [.ref o0, .int x1, .int x2] (fun u : St => (wX12 o0 a0 cy u [])) u0 (fun r u => post r u) := met_i (by decide) (Nat.le_of_ble_eq_true rfl) (fun C e1 e2 e3 e4 e5 hC hR => by subst e1 e2 e3 e4; exact kX12_leavesAt hC e5 hR h)
theorem dX12_standing_0 : decode cX12_standing 0 = .ok (.iconst 0, 1) := by decide +kernel
theorem dX12_standing_1 : decode cX12_standing 1 = .ok (.istore_n 3, 1) := by decide +kernel
theorem dX12_standing_2 : decode cX12_standing 2 = .ok (.iconst 0, 1) := by decide +kernel
theorem dX12_standing_3 : decode cX12_standing 3 = .ok (.istore 4, 2) := by decide +kernel
theorem dX12_standing_5 : decode cX12_standing 5 = .ok (.iload 4, 2) := by decide +kernel
theorem dX12_standing_7 : decode cX12_standing 7 = .ok (.aload_n 0, 1) := by decide +kernel
theorem dX12_standing_8 : decode cX12_standing 8 = .ok (.getfield 7, 3) := by decide +kernel
theorem dX12_standing_11 : decode cX12_standing 11 = .ok (.iconst 0, 1) := by decide +kernel
theorem dX12_standing_12 : decode cX12_standing 12 = .ok (.iaload, 1) := by decide +kernel
theorem dX12_standing_13 : decode cX12_standing 13 = .ok (.if_icmp .ge 127, 3) := by decide +kernel
theorem dX12_standing_16 : decode cX12_standing 16 = .ok (.iload 4, 2) := by decide +kernel
theorem dX12_standing_18 : decode cX12_standing 18 = .ok (.invokestatic 187, 3) := by decide +kernel
theorem dX12_standing_21 : decode cX12_standing 21 = .ok (.istore 5, 2) := by decide +kernel
theorem dX12_standing_23 : decode cX12_standing 23 = .ok (.aload_n 0, 1) := by decide +kernel
theorem dX12_standing_24 : decode cX12_standing 24 = .ok (.getfield 7, 3) := by decide +kernel
theorem dX12_standing_27 : decode cX12_standing 27 = .ok (.iload 5, 2) := by decide +kernel
theorem dX12_standing_29 : decode cX12_standing 29 = .ok (.iaload, 1) := by decide +kernel
theorem dX12_standing_30 : decode cX12_standing 30 = .ok (.aload_n 0, 1) := by decide +kernel
theorem dX12_standing_31 : decode cX12_standing 31 = .ok (.iload 4, 2) := by decide +kernel
theorem dX12_standing_33 : decode cX12_standing 33 = .ok (.iload_n 1, 1) := by decide +kernel
theorem dX12_standing_34 : decode cX12_standing 34 = .ok (.invokevirtual 270, 3) := by decide +kernel
theorem dX12_standing_37 : decode cX12_standing 37 = .ok (.iconst 5, 1) := by decide +kernel
theorem dX12_standing_38 : decode cX12_standing 38 = .ok (.idiv, 1) := by decide +kernel
theorem dX12_standing_39 : decode cX12_standing 39 = .ok (.iadd, 1) := by decide +kernel
theorem dX12_standing_40 : decode cX12_standing 40 = .ok (.aload_n 0, 1) := by decide +kernel
theorem dX12_standing_41 : decode cX12_standing 41 = .ok (.getfield 7, 3) := by decide +kernel
theorem dX12_standing_44 : decode cX12_standing 44 = .ok (.iload 5, 2) := by decide +kernel
theorem dX12_standing_46 : decode cX12_standing 46 = .ok (.iconst 1, 1) := by decide +kernel
theorem dX12_standing_47 : decode cX12_standing 47 = .ok (.iadd, 1) := by decide +kernel
theorem dX12_standing_48 : decode cX12_standing 48 = .ok (.iaload, 1) := by decide +kernel
theorem dX12_standing_49 : decode cX12_standing 49 = .ok (.if_icmp .lt 7, 3) := by decide +kernel
theorem dX12_standing_52 : decode cX12_standing 52 = .ok (.iconst 1, 1) := by decide +kernel
theorem dX12_standing_53 : decode cX12_standing 53 = .ok (.goto 4, 3) := by decide +kernel
theorem dX12_standing_56 : decode cX12_standing 56 = .ok (.iconst 0, 1) := by decide +kernel
theorem dX12_standing_57 : decode cX12_standing 57 = .ok (.istore 6, 2) := by decide +kernel
theorem dX12_standing_59 : decode cX12_standing 59 = .ok (.aload_n 0, 1) := by decide +kernel
theorem dX12_standing_60 : decode cX12_standing 60 = .ok (.getfield 7, 3) := by decide +kernel
theorem dX12_standing_63 : decode cX12_standing 63 = .ok (.iload 5, 2) := by decide +kernel
theorem dX12_standing_65 : decode cX12_standing 65 = .ok (.iconst 2, 1) := by decide +kernel
theorem dX12_standing_66 : decode cX12_standing 66 = .ok (.iadd, 1) := by decide +kernel
theorem dX12_standing_67 : decode cX12_standing 67 = .ok (.iaload, 1) := by decide +kernel
theorem dX12_standing_68 : decode cX12_standing 68 = .ok (.ifCond .eq 17, 3) := by decide +kernel
theorem dX12_standing_71 : decode cX12_standing 71 = .ok (.aload_n 0, 1) := by decide +kernel
theorem dX12_standing_72 : decode cX12_standing 72 = .ok (.getfield 7, 3) := by decide +kernel
theorem dX12_standing_75 : decode cX12_standing 75 = .ok (.iload 5, 2) := by decide +kernel
theorem dX12_standing_77 : decode cX12_standing 77 = .ok (.iconst 2, 1) := by decide +kernel
theorem dX12_standing_78 : decode cX12_standing 78 = .ok (.iadd, 1) := by decide +kernel
theorem dX12_standing_79 : decode cX12_standing 79 = .ok (.iaload, 1) := by decide +kernel
theorem dX12_standing_80 : decode cX12_standing 80 = .ok (.iload_n 3, 1) := by decide +kernel
theorem dX12_standing_81 : decode cX12_standing 81 = .ok (.iand, 1) := by decide +kernel
theorem dX12_standing_82 : decode cX12_standing 82 = .ok (.ifCond .eq 7, 3) := by decide +kernel
theorem dX12_standing_85 : decode cX12_standing 85 = .ok (.iconst 1, 1) := by decide +kernel
theorem dX12_standing_86 : decode cX12_standing 86 = .ok (.goto 4, 3) := by decide +kernel
theorem dX12_standing_89 : decode cX12_standing 89 = .ok (.iconst 0, 1) := by decide +kernel
theorem dX12_standing_90 : decode cX12_standing 90 = .ok (.istore 7, 2) := by decide +kernel
theorem dX12_standing_92 : decode cX12_standing 92 = .ok (.iload_n 3, 1) := by decide +kernel
theorem dX12_standing_93 : decode cX12_standing 93 = .ok (.iload 6, 2) := by decide +kernel
theorem dX12_standing_95 : decode cX12_standing 95 = .ok (.ifCond .eq 36, 3) := by decide +kernel
theorem dX12_standing_98 : decode cX12_standing 98 = .ok (.iload 7, 2) := by decide +kernel
theorem dX12_standing_100 : decode cX12_standing 100 = .ok (.ifCond .eq 31, 3) := by decide +kernel
theorem dX12_standing_103 : decode cX12_standing 103 = .ok (.iload 4, 2) := by decide +kernel
theorem dX12_standing_105 : decode cX12_standing 105 = .ok (.iload_n 2, 1) := by decide +kernel
theorem dX12_standing_106 : decode cX12_standing 106 = .ok (.if_icmp .eq 25, 3) := by decide +kernel
theorem dX12_standing_109 : decode cX12_standing 109 = .ok (.aload_n 0, 1) := by decide +kernel
theorem dX12_standing_110 : decode cX12_standing 110 = .ok (.aload_n 0, 1) := by decide +kernel
theorem dX12_standing_111 : decode cX12_standing 111 = .ok (.getfield 7, 3) := by decide +kernel
theorem dX12_standing_114 : decode cX12_standing 114 = .ok (.iconst 5, 1) := by decide +kernel
theorem dX12_standing_115 : decode cX12_standing 115 = .ok (.iaload, 1) := by decide +kernel
theorem dX12_standing_116 : decode cX12_standing 116 = .ok (.iload 4, 2) := by decide +kernel
theorem dX12_standing_118 : decode cX12_standing 118 = .ok (.invokevirtual 201, 3) := by decide +kernel
theorem dX12_standing_121 : decode cX12_standing 121 = .ok (.ifCond .ne 10, 3) := by decide +kernel
theorem dX12_standing_124 : decode cX12_standing 124 = .ok (.iconst 1, 1) := by decide +kernel
theorem dX12_standing_125 : decode cX12_standing 125 = .ok (.iload 4, 2) := by decide +kernel
theorem dX12_standing_127 : decode cX12_standing 127 = .ok (.ishl, 1) := by decide +kernel
theorem dX12_standing_128 : decode cX12_standing 128 = .ok (.goto 4, 3) := by decide +kernel
theorem dX12_standing_131 : decode cX12_standing 131 = .ok (.iconst 0, 1) := by decide +kernel
theorem dX12_standing_132 : decode cX12_standing 132 = .ok (.ior, 1) := by decide +kernel
theorem dX12_standing_133 : decode cX12_standing 133 = .ok (.istore_n 3, 1) := by decide +kernel
theorem dX12_standing_134 : decode cX12_standing 134 = .ok (.iinc 4 1, 3) := by decide +kernel
theorem dX12_standing_137 : decode cX12_standing 137 = .ok (.goto (-132), 3) := by decide +kernel
theorem dX12_standing_140 : decode cX12_standing 140 = .ok (.iload_n 3, 1) := by decide +kernel
theorem dX12_standing_141 : decode cX12_standing 141 = .ok (.ireturn, 1) := by decide +kernel
def qX12_standing_b132  (post : Int32 → St → Prop) (K5 : Int32 → Int32 → Int32 → Int32 → St → Prop) (x1 : Int32) (x2 : Int32) (x4 : Int32) (s0 : Int32) (s1 : Int32) (u0 : St) : Prop := ∀ x3_10 : Int32, x3_10 = (s1 ||| s0) → ∀ x4_11 : Int32, x4_11 = x4 + (1 : Int32) → K5 x1 x2 x3_10 x4_11 u0
set_option maxRecDepth 100000 in
set_option maxHeartbeats 4000000 in
theorem kX12_standing_b132 {C : Cx} {o0 : Nat} {a0 : Nat → Nat} (hC : Fx C cX12_standing 8 RX12) (hR0 : xR C = rm 4) {post : Int32 → St → Prop} (hR : RI C cX12_standing 8 (fun u : St => (wX12 o0 a0 (xy C) u [])) (fun r u => post r u)) {K5 : Int32 → Int32 → Int32 → Int32 → St → Prop} (hK5 : ∀ (x1 : Int32) (x2 : Int32) (x3 : Int32) (x4 : Int32) (u0 : St), K5 x1 x2 x3 x4 u0 → G C 0 0 8 (wX12 o0 a0 (xy C) u0 []) 5 [(0, .ref o0), (1, .int x1), (2, .int x2), (3, .int x3), (4, .int x4)] []) {x1 : Int32} {x2 : Int32} {x4 : Int32} {s0 : Int32} {s1 : Int32} {u0 : St} (h : qX12_standing_b132 post K5 x1 x2 x4 s0 s1 u0) : G C 0 0 8 (wX12 o0 a0 (xy C) u0 []) 132 [(0, .ref o0), (1, .int x1), (2, .int x2), (4, .int x4)] [.int s0, .int s1] := by
  refine g_ior (pc := 132) hC dX12_standing_132 ?_
  refine g_topi (fun x3_10 ex3_10 => ?_)
  have h := h x3_10 ex3_10
  refine g_istore_n (pc := 133) (lv' := [(3, .int x3_10), (0, .ref o0), (1, .int x1), (2, .int x2), (4, .int x4)]) hC dX12_standing_133 rfl (Nat.le_of_ble_eq_true rfl) rfl ?_
  obtain ⟨x4_11, ex4_11⟩ : ∃ z : Int32, z = x4 + (1 : Int32) := ⟨_, rfl⟩
  have h := h x4_11 ex4_11
  refine g_iinc (pc := 134) (v := x4_11) (lv' := [(4, .int x4_11), (3, .int x3_10), (0, .ref o0), (1, .int x1), (2, .int x2)]) hC 4 dX12_standing_134 rfl (by rw [ex4_11]; rfl) (Nat.le_of_ble_eq_true rfl) rfl ?_
  refine g_goto (pc := 137) (tgt := 5) hC dX12_standing_137 (by decide) ?_
  refine g_sub (lv' := [(0, .ref o0), (1, .int x1), (2, .int x2), (3, .int x3_10), (4, .int x4_11)]) [2, 3, 4, 1, 0] rfl ?_
  exact hK5 _ _ _ _ _ h
def qX12_standing_b131  (post : Int32 → St → Prop) (K5 : Int32 → Int32 → Int32 → Int32 → St → Prop) (x1 : Int32) (x2 : Int32) (x4 : Int32) (s0 : Int32) (u0 : St) : Prop := qX12_standing_b132 post K5 x1 x2 x4 (0 : Int32) s0 u0
set_option maxRecDepth 100000 in
set_option maxHeartbeats 4000000 in
theorem kX12_standing_b131 {C : Cx} {o0 : Nat} {a0 : Nat → Nat} (hC : Fx C cX12_standing 8 RX12) (hR0 : xR C = rm 4) {post : Int32 → St → Prop} (hR : RI C cX12_standing 8 (fun u : St => (wX12 o0 a0 (xy C) u [])) (fun r u => post r u)) {K5 : Int32 → Int32 → Int32 → Int32 → St → Prop} (hK5 : ∀ (x1 : Int32) (x2 : Int32) (x3 : Int32) (x4 : Int32) (u0 : St), K5 x1 x2 x3 x4 u0 → G C 0 0 8 (wX12 o0 a0 (xy C) u0 []) 5 [(0, .ref o0), (1, .int x1), (2, .int x2), (3, .int x3), (4, .int x4)] []) {x1 : Int32} {x2 : Int32} {x4 : Int32} {s0 : Int32} {u0 : St} (h : qX12_standing_b131 post K5 x1 x2 x4 s0 u0) : G C 0 0 8 (wX12 o0 a0 (xy C) u0 []) 131 [(0, .ref o0), (1, .int x1), (2, .int x2), (4, .int x4)] [.int s0] := by
  refine g_iconst (pc := 131) (v := 0) hC dX12_standing_131 (by decide) ?_
  exact kX12_standing_b132 hC hR0 hR hK5 h
def qX12_standing_b90  (post : Int32 → St → Prop) (K5 : Int32 → Int32 → Int32 → Int32 → St → Prop) (x1 : Int32) (x2 : Int32) (x3 : Int32) (x4 : Int32) (x6 : Int32) (s0 : Int32) (u0 : St) : Prop := ((x6 = 0 → qX12_standing_b131 post K5 x1 x2 x4 x3 u0) ∧ (¬ x6 = 0 → ((s0 = 0 → qX12_standing_b131 post K5 x1 x2 x4 x3 u0) ∧ (¬ s0 = 0 → ((x4 = x2 → qX12_standing_b131 post K5 x1 x2 x4 x3 u0) ∧ (¬ x4 = x2 → qX12_isIn (ga u0 0 ((5 : Int32)).toNatClampNeg) x4 u0 (fun r_16 u_15 => ((¬ r_16 = 0 → qX12_standing_b131 post K5 x1 x2 x4 x3 u_15) ∧ (r_16 = 0 → qX12_standing_b132 post K5 x1 x2 x4 ((1 : Int32) <<< (x4 &&& 31)) x3 u_15)))))))))
set_option maxRecDepth 100000 in
set_option maxHeartbeats 4000000 in
theorem kX12_standing_b90 {C : Cx} {o0 : Nat} {a0 : Nat → Nat} (hC : Fx C cX12_standing 8 RX12) (hR0 : xR C = rm 4) {post : Int32 → St → Prop} (hR : RI C cX12_standing 8 (fun u : St => (wX12 o0 a0 (xy C) u [])) (fun r u => post r u)) {K5 : Int32 → Int32 → Int32 → Int32 → St → Prop} (hK5 : ∀ (x1 : Int32) (x2 : Int32) (x3 : Int32) (x4 : Int32) (u0 : St), K5 x1 x2 x3 x4 u0 → G C 0 0 8 (wX12 o0 a0 (xy C) u0 []) 5 [(0, .ref o0), (1, .int x1), (2, .int x2), (3, .int x3), (4, .int x4)] []) {x1 : Int32} {x2 : Int32} {x3 : Int32} {x4 : Int32} {x6 : Int32} {s0 : Int32} {u0 : St} (h : qX12_standing_b90 post K5 x1 x2 x3 x4 x6 s0 u0) : G C 0 0 8 (wX12 o0 a0 (xy C) u0 []) 90 [(0, .ref o0), (1, .int x1), (2, .int x2), (3, .int x3), (4, .int x4), (6, .int x6)] [.int s0] := by
  refine g_istore (pc := 90) (lv' := [(7, .int s0), (0, .ref o0), (1, .int x1), (2, .int x2), (3, .int x3), (4, .int x4), (6, .int x6)]) hC dX12_standing_90 (Nat.le_of_ble_eq_true rfl) rfl ?_
  refine g_iload_n (pc := 92) hC 4 dX12_standing_92 rfl rfl ?_
  refine g_iload (pc := 93) hC 6 dX12_standing_93 rfl ?_
  refine g_if_eq (pc := 95) (tgt := 131) hC dX12_standing_95 (by decide) (fun c_12 => ?_) (fun c_12 => ?_)
  · have h := h.1 c_12
    refine g_sub (lv' := [(0, .ref o0), (1, .int x1), (2, .int x2), (4, .int x4)]) [1, 2, 3, 5] rfl ?_
    exact kX12_standing_b131 hC hR0 hR hK5 h
  · have h := h.2 c_12
    refine g_iload (pc := 98) hC 0 dX12_standing_98 rfl ?_
    refine g_if_eq (pc := 100) (tgt := 131) hC dX12_standing_100 (by decide) (fun c_13 => ?_) (fun c_13 => ?_)
    · have h := h.1 c_13
      refine g_sub (lv' := [(0, .ref o0), (1, .int x1), (2, .int x2), (4, .int x4)]) [1, 2, 3, 5] rfl ?_
      exact kX12_standing_b131 hC hR0 hR hK5 h
    · have h := h.2 c_13
      refine g_iload (pc := 103) hC 5 dX12_standing_103 rfl ?_
      refine g_iload_n (pc := 105) hC 3 dX12_standing_105 rfl rfl ?_
      refine g_icmp_eq (pc := 106) (tgt := 131) hC dX12_standing_106 (by decide) (fun c_14 => ?_) (fun c_14 => ?_)
      · have h := h.1 c_14
        refine g_sub (lv' := [(0, .ref o0), (1, .int x1), (2, .int x2), (4, .int x4)]) [1, 2, 3, 5] rfl ?_
        exact kX12_standing_b131 hC hR0 hR hK5 h
      · have h := h.2 c_14
        refine g_aload_n (pc := 109) hC 1 dX12_standing_109 rfl rfl ?_
        refine g_aload_n (pc := 110) hC 1 dX12_standing_110 rfl rfl ?_
        refine getX12_0 (pc := 111) hC (F := fun Z => Z) (X := []) (fun _ => rfl) fl_X12_7 dX12_standing_111 ?_
        refine g_iconst (pc := 114) (v := 5) hC dX12_standing_114 (by decide) ?_
        refine aldX12_0 (pc := 115) hC (F := fun Z => Z) (X := []) (fun _ => rfl) (by unfold vp_in; decide) dX12_standing_115 ?_
        refine g_iload (pc := 116) hC 5 dX12_standing_116 rfl ?_
        refine g_callV_i (pc := 118) (wd := fun (u : St) Y => (wX12 o0 a0 (xy C) u Y)) (F := fun Z => Z) (X := []) (As := [.int (ga u0 0 ((5 : Int32)).toNatClampNeg), .int x4]) (rest := [.int x3]) (u := u0) hC (fun _ _ => rfl) (fun _ => rfl) (ctX12_isIn h) wvX12_isIn ml_X12_201 (ci := 10) (q0 := 0) rfl rfl rfl rfl (rmok hR0 rfl) ⟨Nat.zero_le _, Nat.zero_le _⟩ rfl (Nat.le_of_ble_eq_true rfl) dX12_standing_118 (fun r_16 u_15 h => ?_)
        refine g_if_ne (pc := 121) (tgt := 131) hC dX12_standing_121 (by decide) (fun c_18 => ?_) (fun c_18 => ?_)
        · have h := h.1 c_18
          refine g_sub (lv' := [(0, .ref o0), (1, .int x1), (2, .int x2), (4, .int x4)]) [1, 2, 3, 5] rfl ?_
          exact kX12_standing_b131 hC hR0 hR hK5 h
        · have h := h.2 c_18
          refine g_iconst (pc := 124) (v := 1) hC dX12_standing_124 (by decide) ?_
          refine g_iload (pc := 125) hC 5 dX12_standing_125 rfl ?_
          refine g_ishl (pc := 127) hC dX12_standing_127 ?_
          refine g_goto (pc := 128) (tgt := 132) hC dX12_standing_128 (by decide) ?_
          refine g_sub (lv' := [(0, .ref o0), (1, .int x1), (2, .int x2), (4, .int x4)]) [1, 2, 3, 5] rfl ?_
          exact kX12_standing_b132 hC hR0 hR hK5 h
def qX12_standing_b85  (post : Int32 → St → Prop) (K5 : Int32 → Int32 → Int32 → Int32 → St → Prop) (x1 : Int32) (x2 : Int32) (x3 : Int32) (x4 : Int32) (x6 : Int32) (u0 : St) : Prop := qX12_standing_b90 post K5 x1 x2 x3 x4 x6 (1 : Int32) u0
set_option maxRecDepth 100000 in
set_option maxHeartbeats 4000000 in
theorem kX12_standing_b85 {C : Cx} {o0 : Nat} {a0 : Nat → Nat} (hC : Fx C cX12_standing 8 RX12) (hR0 : xR C = rm 4) {post : Int32 → St → Prop} (hR : RI C cX12_standing 8 (fun u : St => (wX12 o0 a0 (xy C) u [])) (fun r u => post r u)) {K5 : Int32 → Int32 → Int32 → Int32 → St → Prop} (hK5 : ∀ (x1 : Int32) (x2 : Int32) (x3 : Int32) (x4 : Int32) (u0 : St), K5 x1 x2 x3 x4 u0 → G C 0 0 8 (wX12 o0 a0 (xy C) u0 []) 5 [(0, .ref o0), (1, .int x1), (2, .int x2), (3, .int x3), (4, .int x4)] []) {x1 : Int32} {x2 : Int32} {x3 : Int32} {x4 : Int32} {x6 : Int32} {u0 : St} (h : qX12_standing_b85 post K5 x1 x2 x3 x4 x6 u0) : G C 0 0 8 (wX12 o0 a0 (xy C) u0 []) 85 [(0, .ref o0), (1, .int x1), (2, .int x2), (3, .int x3), (4, .int x4), (6, .int x6)] [] := by
  refine g_iconst (pc := 85) (v := 1) hC dX12_standing_85 (by decide) ?_
  refine g_goto (pc := 86) (tgt := 90) hC dX12_standing_86 (by decide) ?_
  exact kX12_standing_b90 hC hR0 hR hK5 h
def qX12_standing_b57  (post : Int32 → St → Prop) (K5 : Int32 → Int32 → Int32 → Int32 → St → Prop) (x1 : Int32) (x2 : Int32) (x3 : Int32) (x4 : Int32) (x5 : Int32) (s0 : Int32) (u0 : St) : Prop := (vp_in (x5 + (2 : Int32)) 3072 ∧ (((ga u0 0 ((x5 + (2 : Int32))).toNatClampNeg) = 0 → qX12_standing_b85 post K5 x1 x2 x3 x4 s0 u0) ∧ (¬ (ga u0 0 ((x5 + (2 : Int32))).toNatClampNeg) = 0 → (vp_in (x5 + (2 : Int32)) 3072 ∧ ((((ga u0 0 ((x5 + (2 : Int32))).toNatClampNeg) &&& x3) = 0 → qX12_standing_b90 post K5 x1 x2 x3 x4 s0 (0 : Int32) u0) ∧ (¬ ((ga u0 0 ((x5 + (2 : Int32))).toNatClampNeg) &&& x3) = 0 → qX12_standing_b85 post K5 x1 x2 x3 x4 s0 u0))))))
set_option maxRecDepth 100000 in
set_option maxHeartbeats 4000000 in
theorem kX12_standing_b57 {C : Cx} {o0 : Nat} {a0 : Nat → Nat} (hC : Fx C cX12_standing 8 RX12) (hR0 : xR C = rm 4) {post : Int32 → St → Prop} (hR : RI C cX12_standing 8 (fun u : St => (wX12 o0 a0 (xy C) u [])) (fun r u => post r u)) {K5 : Int32 → Int32 → Int32 → Int32 → St → Prop} (hK5 : ∀ (x1 : Int32) (x2 : Int32) (x3 : Int32) (x4 : Int32) (u0 : St), K5 x1 x2 x3 x4 u0 → G C 0 0 8 (wX12 o0 a0 (xy C) u0 []) 5 [(0, .ref o0), (1, .int x1), (2, .int x2), (3, .int x3), (4, .int x4)] []) {x1 : Int32} {x2 : Int32} {x3 : Int32} {x4 : Int32} {x5 : Int32} {s0 : Int32} {u0 : St} (h : qX12_standing_b57 post K5 x1 x2 x3 x4 x5 s0 u0) : G C 0 0 8 (wX12 o0 a0 (xy C) u0 []) 57 [(0, .ref o0), (1, .int x1), (2, .int x2), (3, .int x3), (4, .int x4), (5, .int x5)] [.int s0] := by
  refine g_istore (pc := 57) (lv' := [(6, .int s0), (0, .ref o0), (1, .int x1), (2, .int x2), (3, .int x3), (4, .int x4), (5, .int x5)]) hC dX12_standing_57 (Nat.le_of_ble_eq_true rfl) rfl ?_
  refine g_aload_n (pc := 59) hC 1 dX12_standing_59 rfl rfl ?_
  refine getX12_0 (pc := 60) hC (F := fun Z => Z) (X := []) (fun _ => rfl) fl_X12_7 dX12_standing_60 ?_
  refine g_iload (pc := 63) hC 6 dX12_standing_63 rfl ?_
  refine g_iconst (pc := 65) (v := 2) hC dX12_standing_65 (by decide) ?_
  refine g_iadd (pc := 66) hC dX12_standing_66 ?_
  refine aldX12_0 (pc := 67) hC (F := fun Z => Z) (X := []) (fun _ => rfl) h.1 dX12_standing_67 ?_
  have h := h.2
  refine g_if_eq (pc := 68) (tgt := 85) hC dX12_standing_68 (by decide) (fun c_19 => ?_) (fun c_19 => ?_)
  · have h := h.1 c_19
    refine g_sub (lv' := [(0, .ref o0), (1, .int x1), (2, .int x2), (3, .int x3), (4, .int x4), (6, .int s0)]) [1, 2, 3, 4, 5, 0] rfl ?_
    exact kX12_standing_b85 hC hR0 hR hK5 h
  · have h := h.2 c_19
    refine g_aload_n (pc := 71) hC 1 dX12_standing_71 rfl rfl ?_
    refine getX12_0 (pc := 72) hC (F := fun Z => Z) (X := []) (fun _ => rfl) fl_X12_7 dX12_standing_72 ?_
    refine g_iload (pc := 75) hC 6 dX12_standing_75 rfl ?_
    refine g_iconst (pc := 77) (v := 2) hC dX12_standing_77 (by decide) ?_
    refine g_iadd (pc := 78) hC dX12_standing_78 ?_
    refine aldX12_0 (pc := 79) hC (F := fun Z => Z) (X := []) (fun _ => rfl) h.1 dX12_standing_79 ?_
    have h := h.2
    refine g_iload_n (pc := 80) hC 4 dX12_standing_80 rfl rfl ?_
    refine g_iand (pc := 81) hC dX12_standing_81 ?_
    refine g_if_eq (pc := 82) (tgt := 89) hC dX12_standing_82 (by decide) (fun c_20 => ?_) (fun c_20 => ?_)
    · have h := h.1 c_20
      refine g_iconst (pc := 89) (v := 0) hC dX12_standing_89 (by decide) ?_
      refine g_sub (lv' := [(0, .ref o0), (1, .int x1), (2, .int x2), (3, .int x3), (4, .int x4), (6, .int s0)]) [1, 2, 3, 4, 5, 0] rfl ?_
      exact kX12_standing_b90 hC hR0 hR hK5 h
    · have h := h.2 c_20
      refine g_sub (lv' := [(0, .ref o0), (1, .int x1), (2, .int x2), (3, .int x3), (4, .int x4), (6, .int s0)]) [1, 2, 3, 4, 5, 0] rfl ?_
      exact kX12_standing_b85 hC hR0 hR hK5 h
def qX12_standing_l5  (post : Int32 → St → Prop) (K5 : Int32 → Int32 → Int32 → Int32 → St → Prop) (x1 : Int32) (x2 : Int32) (x3 : Int32) (x4 : Int32) (u0 : St) : Prop := (((ga u0 0 ((0 : Int32)).toNatClampNeg) ≤ x4 → post x3 u0) ∧ (¬ (ga u0 0 ((0 : Int32)).toNatClampNeg) ≤ x4 → qX12_stoneRow x4 (fun r_22 => (vp_in r_22 3072 ∧ qX12_leavesAt x4 x1 u0 (fun r_25 u_24 => (vp_in (r_22 + (1 : Int32)) 3072 ∧ ((((ga u0 0 (r_22).toNatClampNeg) + (r_25 / (5 : Int32))) < (ga u_24 0 ((r_22 + (1 : Int32))).toNatClampNeg) → qX12_standing_b57 post K5 x1 x2 x3 x4 r_22 (0 : Int32) u_24) ∧ (¬ ((ga u0 0 (r_22).toNatClampNeg) + (r_25 / (5 : Int32))) < (ga u_24 0 ((r_22 + (1 : Int32))).toNatClampNeg) → qX12_standing_b57 post K5 x1 x2 x3 x4 r_22 (1 : Int32) u_24))))))))
set_option maxRecDepth 100000 in
set_option maxHeartbeats 4000000 in
theorem kX12_standing_l5 {C : Cx} {o0 : Nat} {a0 : Nat → Nat} (hC : Fx C cX12_standing 8 RX12) (hR0 : xR C = rm 4) {post : Int32 → St → Prop} (hR : RI C cX12_standing 8 (fun u : St => (wX12 o0 a0 (xy C) u [])) (fun r u => post r u))  {K5 : Int32 → Int32 → Int32 → Int32 → St → Prop} (hK5 : ∀ (x1 : Int32) (x2 : Int32) (x3 : Int32) (x4 : Int32) (u0 : St), K5 x1 x2 x3 x4 u0 → G C 0 0 8 (wX12 o0 a0 (xy C) u0 []) 5 [(0, .ref o0), (1, .int x1), (2, .int x2), (3, .int x3), (4, .int x4)] []) {x1 : Int32} {x2 : Int32} {x3 : Int32} {x4 : Int32} {u0 : St} (h : qX12_standing_l5 post K5 x1 x2 x3 x4 u0) : G C 0 0 8 (wX12 o0 a0 (xy C) u0 []) 5 [(0, .ref o0), (1, .int x1), (2, .int x2), (3, .int x3), (4, .int x4)] [] := by
  refine g_iload (pc := 5) hC 4 dX12_standing_5 rfl ?_
  refine g_aload_n (pc := 7) hC 0 dX12_standing_7 rfl rfl ?_
  refine getX12_0 (pc := 8) hC (F := fun Z => Z) (X := []) (fun _ => rfl) fl_X12_7 dX12_standing_8 ?_
  refine g_iconst (pc := 11) (v := 0) hC dX12_standing_11 (by decide) ?_
  refine aldX12_0 (pc := 12) hC (F := fun Z => Z) (X := []) (fun _ => rfl) (by unfold vp_in; decide) dX12_standing_12 ?_
  refine g_icmp_ge (pc := 13) (tgt := 140) hC dX12_standing_13 (by decide) (fun c_21 => ?_) (fun c_21 => ?_)
  · have h := h.1 c_21
    refine g_iload_n (pc := 140) hC 3 dX12_standing_140 rfl rfl ?_
    exact hR _ _ _ u0 dX12_standing_141 h
  · have h := h.2 c_21
    refine g_iload (pc := 16) hC 4 dX12_standing_16 rfl ?_
    refine g_callS_i (pc := 18) (wd := fun (_ : Unit) Y => Y) (F := fun Z => Z) (X := []) (As := [.int x4]) (rest := []) (u := ()) hC (fun _ _ => rfl) (fun _ => rfl) (ctX12_stoneRow h) wvX12_stoneRow ml_X12_187 rfl (rmok hR0 rfl) ⟨Nat.zero_le _, Nat.zero_le _⟩ rfl (Nat.le_of_ble_eq_true rfl) dX12_standing_18 (fun r_22 u_23 h => ?_)
    refine g_istore (pc := 21) (lv' := [(5, .int r_22), (0, .ref o0), (1, .int x1), (2, .int x2), (3, .int x3), (4, .int x4)]) hC dX12_standing_21 (Nat.le_of_ble_eq_true rfl) rfl ?_
    refine g_aload_n (pc := 23) hC 1 dX12_standing_23 rfl rfl ?_
    refine getX12_0 (pc := 24) hC (F := fun Z => Z) (X := []) (fun _ => rfl) fl_X12_7 dX12_standing_24 ?_
    refine g_iload (pc := 27) hC 0 dX12_standing_27 rfl ?_
    refine aldX12_0 (pc := 29) hC (F := fun Z => Z) (X := []) (fun _ => rfl) h.1 dX12_standing_29 ?_
    have h := h.2
    refine g_aload_n (pc := 30) hC 1 dX12_standing_30 rfl rfl ?_
    refine g_iload (pc := 31) hC 5 dX12_standing_31 rfl ?_
    refine g_iload_n (pc := 33) hC 2 dX12_standing_33 rfl rfl ?_
    refine g_callV_i (pc := 34) (wd := fun (u : St) Y => (wX12 o0 a0 (xy C) u Y)) (F := fun Z => Z) (X := []) (As := [.int x4, .int x1]) (rest := [.int (ga u0 0 (r_22).toNatClampNeg)]) (u := u0) hC (fun _ _ => rfl) (fun _ => rfl) (ctX12_leavesAt h) wvX12_leavesAt ml_X12_270 (ci := 10) (q0 := 0) rfl rfl rfl rfl (rmok hR0 rfl) ⟨Nat.zero_le _, Nat.zero_le _⟩ rfl (Nat.le_of_ble_eq_true rfl) dX12_standing_34 (fun r_25 u_24 h => ?_)
    refine g_iconst (pc := 37) (v := 5) hC dX12_standing_37 (by decide) ?_
    refine g_idiv (pc := 38) hC dX12_standing_38 (by decide) ?_
    refine g_iadd (pc := 39) hC dX12_standing_39 ?_
    refine g_aload_n (pc := 40) hC 1 dX12_standing_40 rfl rfl ?_
    refine getX12_0 (pc := 41) hC (F := fun Z => Z) (X := []) (fun _ => rfl) fl_X12_7 dX12_standing_41 ?_
    refine g_iload (pc := 44) hC 0 dX12_standing_44 rfl ?_
    refine g_iconst (pc := 46) (v := 1) hC dX12_standing_46 (by decide) ?_
    refine g_iadd (pc := 47) hC dX12_standing_47 ?_
    refine aldX12_0 (pc := 48) hC (F := fun Z => Z) (X := []) (fun _ => rfl) h.1 dX12_standing_48 ?_
    have h := h.2
    refine g_icmp_lt (pc := 49) (tgt := 56) hC dX12_standing_49 (by decide) (fun c_27 => ?_) (fun c_27 => ?_)
    · have h := h.1 c_27
      refine g_iconst (pc := 56) (v := 0) hC dX12_standing_56 (by decide) ?_
      refine g_sub (lv' := [(0, .ref o0), (1, .int x1), (2, .int x2), (3, .int x3), (4, .int x4), (5, .int r_22)]) [1, 2, 3, 4, 5, 0] rfl ?_
      exact kX12_standing_b57 hC hR0 hR hK5 h
    · have h := h.2 c_27
      refine g_iconst (pc := 52) (v := 1) hC dX12_standing_52 (by decide) ?_
      refine g_goto (pc := 53) (tgt := 57) hC dX12_standing_53 (by decide) ?_
      refine g_sub (lv' := [(0, .ref o0), (1, .int x1), (2, .int x2), (3, .int x3), (4, .int x4), (5, .int r_22)]) [1, 2, 3, 4, 5, 0] rfl ?_
      exact kX12_standing_b57 hC hR0 hR hK5 h
def qX12_standing_L5  (post : Int32 → St → Prop)  : Nat → Int32 → Int32 → Int32 → Int32 → St → Prop
  | 0 => fun _ _ _ _ _ => False
  | n + 1 => qX12_standing_l5 post (qX12_standing_L5 post n)
theorem kX12_standing_L5 {C : Cx} {o0 : Nat} {a0 : Nat → Nat} (hC : Fx C cX12_standing 8 RX12) (hR0 : xR C = rm 4) {post : Int32 → St → Prop} (hR : RI C cX12_standing 8 (fun u : St => (wX12 o0 a0 (xy C) u [])) (fun r u => post r u))  : ∀ (n : Nat) (x1 : Int32) (x2 : Int32) (x3 : Int32) (x4 : Int32) (u0 : St), qX12_standing_L5 post n x1 x2 x3 x4 u0 → G C 0 0 8 (wX12 o0 a0 (xy C) u0 []) 5 [(0, .ref o0), (1, .int x1), (2, .int x2), (3, .int x3), (4, .int x4)] [] := by
  intro n
  induction n with
  | zero => intro x1 x2 x3 x4 u0 h; exact h.elim
  | succ n ih => intro x1 x2 x3 x4 u0 h; exact kX12_standing_l5 hC hR0 hR  ih h
def qX12_standing (x1 : Int32) (x2 : Int32) (u0 : St) (post : Int32 → St → Prop) : Prop := ∃ n_28 : Nat, qX12_standing_L5 post n_28 x1 x2 (0 : Int32) (0 : Int32) u0
set_option maxRecDepth 100000 in
set_option maxHeartbeats 4000000 in
theorem kX12_standing {C : Cx} {o0 : Nat} {a0 : Nat → Nat} (hC : Fx C cX12_standing 8 RX12) (hR0 : xR C = rm 4) {post : Int32 → St → Prop} (hR : RI C cX12_standing 8 (fun u : St => (wX12 o0 a0 (xy C) u [])) (fun r u => post r u)) {x1 : Int32} {x2 : Int32} {u0 : St} (h : qX12_standing x1 x2 u0 post) : G C 0 0 8 (wX12 o0 a0 (xy C) u0 []) 0 [(0, .ref o0), (1, .int x1), (2, .int x2)] [] := by
  refine g_iconst (pc := 0) (v := 0) hC dX12_standing_0 (by decide) ?_
  refine g_istore_n (pc := 1) (lv' := [(3, .int (0 : Int32)), (0, .ref o0), (1, .int x1), (2, .int x2)]) hC dX12_standing_1 rfl (Nat.le_of_ble_eq_true rfl) rfl ?_
  refine g_iconst (pc := 2) (v := 0) hC dX12_standing_2 (by decide) ?_
  refine g_istore (pc := 3) (lv' := [(4, .int (0 : Int32)), (3, .int (0 : Int32)), (0, .ref o0), (1, .int x1), (2, .int x2)]) hC dX12_standing_3 (Nat.le_of_ble_eq_true rfl) rfl ?_
  refine g_sub (lv' := [(0, .ref o0), (1, .int x1), (2, .int x2), (3, .int (0 : Int32)), (4, .int (0 : Int32))]) [2, 3, 4, 1, 0] rfl ?_
  obtain ⟨n_28, h⟩ := h
  exact kX12_standing_L5 hC hR0 hR  n_28 _ _ _ _ _ h
theorem ctX12_standing {l : Launch} {D : va_G} {cy : Nat → ClassId} {kd : Nat → Nat} {o0 : Nat} {a0 : Nat → Nat} {x1 : Int32} {x2 : Int32} {u0 : St} {post : Int32 → St → Prop} (h : qX12_standing x1 x2 u0 post) : CtI l D cy kd yX12_standing cX12_standing 8 4 .int [.ref o0, .int x1, .int x2] (fun u : St => (wX12 o0 a0 cy u [])) u0 (fun r u => post r u) := met_i (by decide) (Nat.le_of_ble_eq_true rfl) (fun C e1 e2 e3 e4 e5 hC hR => by subst e1 e2 e3 e4; exact kX12_standing hC e5 hR h)
theorem dX12_standsNow_0 : decode cX12_standsNow 0 = .ok (.aload_n 0, 1) := by decide +kernel
theorem dX12_standsNow_1 : decode cX12_standsNow 1 = .ok (.iconst 0, 1) := by decide +kernel
theorem dX12_standsNow_2 : decode cX12_standsNow 2 = .ok (.iconst (-1), 1) := by decide +kernel
theorem dX12_standsNow_3 : decode cX12_standsNow 3 = .ok (.invokevirtual 273, 3) := by decide +kernel
theorem dX12_standsNow_6 : decode cX12_standsNow 6 = .ok (.ireturn, 1) := by decide +kernel
def qX12_standsNow  (u0 : St) (post : Int32 → St → Prop) : Prop := qX12_standing (0 : Int32) (-1 : Int32) u0 (fun r_5 u_4 => post r_5 u_4)
set_option maxRecDepth 100000 in
set_option maxHeartbeats 4000000 in
theorem kX12_standsNow {C : Cx} {o0 : Nat} {a0 : Nat → Nat} (hC : Fx C cX12_standsNow 1 RX12) (hR0 : xR C = rm 5) {post : Int32 → St → Prop} (hR : RI C cX12_standsNow 1 (fun u : St => (wX12 o0 a0 (xy C) u [])) (fun r u => post r u))  {u0 : St} (h : qX12_standsNow  u0 post) : G C 0 0 1 (wX12 o0 a0 (xy C) u0 []) 0 [(0, .ref o0)] [] := by
  refine g_aload_n (pc := 0) hC 0 dX12_standsNow_0 rfl rfl ?_
  refine g_iconst (pc := 1) (v := 0) hC dX12_standsNow_1 (by decide) ?_
  refine g_iconst (pc := 2) (v := -1) hC dX12_standsNow_2 (by decide) ?_
  refine g_callV_i (pc := 3) (wd := fun (u : St) Y => (wX12 o0 a0 (xy C) u Y)) (F := fun Z => Z) (X := []) (As := [.int (0 : Int32), .int (-1 : Int32)]) (rest := []) (u := u0) hC (fun _ _ => rfl) (fun _ => rfl) (ctX12_standing h) wvX12_standing ml_X12_273 (ci := 10) (q0 := 0) rfl rfl rfl rfl (rmok hR0 rfl) ⟨Nat.zero_le _, Nat.zero_le _⟩ rfl (Nat.le_of_ble_eq_true rfl) dX12_standsNow_3 (fun r_5 u_4 h => ?_)
  exact hR _ _ _ u_4 dX12_standsNow_6 h
theorem ctX12_standsNow {l : Launch} {D : va_G} {cy : Nat → ClassId} {kd : Nat → Nat} {o0 : Nat} {a0 : Nat → Nat}  {u0 : St} {post : Int32 → St → Prop} (h : qX12_standsNow  u0 post) : CtI l D cy kd yX12_standsNow cX12_standsNow 1 5 .int [.ref o0] (fun u : St => (wX12 o0 a0 cy u [])) u0 (fun r u => post r u) := met_i (by decide) (Nat.le_of_ble_eq_true rfl) (fun C e1 e2 e3 e4 e5 hC hR => by subst e1 e2 e3 e4; exact kX12_standsNow hC e5 hR h)
theorem dX12_falling_0 : decode cX12_falling 0 = .ok (.aload_n 0, 1) := by decide +kernel
theorem dX12_falling_1 : decode cX12_falling 1 = .ok (.getfield 7, 3) := by decide +kernel
theorem dX12_falling_4 : decode cX12_falling 4 = .ok (.iconst 5, 1) := by decide +kernel
theorem dX12_falling_5 : decode cX12_falling 5 = .ok (.iaload, 1) := by decide +kernel
theorem dX12_falling_6 : decode cX12_falling 6 = .ok (.invokestatic 276, 3) := by decide +kernel
theorem dX12_falling_9 : decode cX12_falling 9 = .ok (.istore_n 1, 1) := by decide +kernel
theorem dX12_falling_10 : decode cX12_falling 10 = .ok (.aload_n 0, 1) := by decide +kernel
theorem dX12_falling_11 : decode cX12_falling 11 = .ok (.getfield 7, 3) := by decide +kernel
theorem dX12_falling_14 : decode cX12_falling 14 = .ok (.iconst 5, 1) := by decide +kernel
theorem dX12_falling_15 : decode cX12_falling 15 = .ok (.iconst 1, 1) := by decide +kernel
theorem dX12_falling_16 : decode cX12_falling 16 = .ok (.aload_n 0, 1) := by decide +kernel
theorem dX12_falling_17 : decode cX12_falling 17 = .ok (.getfield 7, 3) := by decide +kernel
theorem dX12_falling_20 : decode cX12_falling 20 = .ok (.iconst 0, 1) := by decide +kernel
theorem dX12_falling_21 : decode cX12_falling 21 = .ok (.iaload, 1) := by decide +kernel
theorem dX12_falling_22 : decode cX12_falling 22 = .ok (.ishl, 1) := by decide +kernel
theorem dX12_falling_23 : decode cX12_falling 23 = .ok (.iconst 1, 1) := by decide +kernel
theorem dX12_falling_24 : decode cX12_falling 24 = .ok (.isub, 1) := by decide +kernel
theorem dX12_falling_25 : decode cX12_falling 25 = .ok (.aload_n 0, 1) := by decide +kernel
theorem dX12_falling_26 : decode cX12_falling 26 = .ok (.invokevirtual 279, 3) := by decide +kernel
theorem dX12_falling_29 : decode cX12_falling 29 = .ok (.iconst (-1), 1) := by decide +kernel
theorem dX12_falling_30 : decode cX12_falling 30 = .ok (.ixor, 1) := by decide +kernel
theorem dX12_falling_31 : decode cX12_falling 31 = .ok (.iand, 1) := by decide +kernel
theorem dX12_falling_32 : decode cX12_falling 32 = .ok (.iastore, 1) := by decide +kernel
theorem dX12_falling_33 : decode cX12_falling 33 = .ok (.aload_n 0, 1) := by decide +kernel
theorem dX12_falling_34 : decode cX12_falling 34 = .ok (.getfield 7, 3) := by decide +kernel
theorem dX12_falling_37 : decode cX12_falling 37 = .ok (.iconst 5, 1) := by decide +kernel
theorem dX12_falling_38 : decode cX12_falling 38 = .ok (.iaload, 1) := by decide +kernel
theorem dX12_falling_39 : decode cX12_falling 39 = .ok (.invokestatic 276, 3) := by decide +kernel
theorem dX12_falling_42 : decode cX12_falling 42 = .ok (.iload_n 1, 1) := by decide +kernel
theorem dX12_falling_43 : decode cX12_falling 43 = .ok (.isub, 1) := by decide +kernel
theorem dX12_falling_44 : decode cX12_falling 44 = .ok (.ireturn, 1) := by decide +kernel
def qX12_falling  (u0 : St) (post : Int32 → St → Prop) : Prop := qX12_bits (ga u0 0 ((5 : Int32)).toNatClampNeg) (fun r_9 => qX12_standsNow u0 (fun r_12 u_11 => ∀ u_14 : St, u_14 = (sw u_11 0 (upd (ga u_11 0) ((5 : Int32)).toNatClampNeg ((((1 : Int32) <<< ((ga u0 0 ((0 : Int32)).toNatClampNeg) &&& 31)) - (1 : Int32)) &&& (r_12 ^^^ (-1 : Int32))))) → qX12_bits (ga u_14 0 ((5 : Int32)).toNatClampNeg) (fun r_15 => post (r_15 - r_9) u_14)))
set_option maxRecDepth 100000 in
set_option maxHeartbeats 4000000 in
theorem kX12_falling {C : Cx} {o0 : Nat} {a0 : Nat → Nat} (hC : Fx C cX12_falling 2 RX12) (hR0 : xR C = rm 6) {post : Int32 → St → Prop} (hR : RI C cX12_falling 2 (fun u : St => (wX12 o0 a0 (xy C) u [])) (fun r u => post r u))  {u0 : St} (h : qX12_falling  u0 post) : G C 0 0 2 (wX12 o0 a0 (xy C) u0 []) 0 [(0, .ref o0)] [] := by
  refine g_aload_n (pc := 0) hC 0 dX12_falling_0 rfl rfl ?_
  refine getX12_0 (pc := 1) hC (F := fun Z => Z) (X := []) (fun _ => rfl) fl_X12_7 dX12_falling_1 ?_
  refine g_iconst (pc := 4) (v := 5) hC dX12_falling_4 (by decide) ?_
  refine aldX12_0 (pc := 5) hC (F := fun Z => Z) (X := []) (fun _ => rfl) (by unfold vp_in; decide) dX12_falling_5 ?_
  refine g_callS_i (pc := 6) (wd := fun (_ : Unit) Y => Y) (F := fun Z => Z) (X := []) (As := [.int (ga u0 0 ((5 : Int32)).toNatClampNeg)]) (rest := []) (u := ()) hC (fun _ _ => rfl) (fun _ => rfl) (ctX12_bits h) wvX12_bits ml_X12_276 rfl (rmok hR0 rfl) ⟨Nat.zero_le _, Nat.zero_le _⟩ rfl (Nat.le_of_ble_eq_true rfl) dX12_falling_6 (fun r_9 u_10 h => ?_)
  refine g_istore_n (pc := 9) (lv' := [(1, .int r_9), (0, .ref o0)]) hC dX12_falling_9 rfl (Nat.le_of_ble_eq_true rfl) rfl ?_
  refine g_aload_n (pc := 10) hC 1 dX12_falling_10 rfl rfl ?_
  refine getX12_0 (pc := 11) hC (F := fun Z => Z) (X := []) (fun _ => rfl) fl_X12_7 dX12_falling_11 ?_
  refine g_iconst (pc := 14) (v := 5) hC dX12_falling_14 (by decide) ?_
  refine g_iconst (pc := 15) (v := 1) hC dX12_falling_15 (by decide) ?_
  refine g_aload_n (pc := 16) hC 1 dX12_falling_16 rfl rfl ?_
  refine getX12_0 (pc := 17) hC (F := fun Z => Z) (X := []) (fun _ => rfl) fl_X12_7 dX12_falling_17 ?_
  refine g_iconst (pc := 20) (v := 0) hC dX12_falling_20 (by decide) ?_
  refine aldX12_0 (pc := 21) hC (F := fun Z => Z) (X := []) (fun _ => rfl) (by unfold vp_in; decide) dX12_falling_21 ?_
  refine g_ishl (pc := 22) hC dX12_falling_22 ?_
  refine g_iconst (pc := 23) (v := 1) hC dX12_falling_23 (by decide) ?_
  refine g_isub (pc := 24) hC dX12_falling_24 ?_
  refine g_aload_n (pc := 25) hC 1 dX12_falling_25 rfl rfl ?_
  refine g_callV_i (pc := 26) (wd := fun (u : St) Y => (wX12 o0 a0 (xy C) u Y)) (F := fun Z => Z) (X := []) (As := []) (rest := [.int (((1 : Int32) <<< ((ga u0 0 ((0 : Int32)).toNatClampNeg) &&& 31)) - (1 : Int32)), .int (5 : Int32), .ref (a0 0)]) (u := u0) hC (fun _ _ => rfl) (fun _ => rfl) (ctX12_standsNow h) wvX12_standsNow ml_X12_279 (ci := 10) (q0 := 0) rfl rfl rfl rfl (rmok hR0 rfl) ⟨Nat.zero_le _, Nat.zero_le _⟩ rfl (Nat.le_of_ble_eq_true rfl) dX12_falling_26 (fun r_12 u_11 h => ?_)
  refine g_iconst (pc := 29) (v := -1) hC dX12_falling_29 (by decide) ?_
  refine g_ixor (pc := 30) hC dX12_falling_30 ?_
  refine g_iand (pc := 31) hC dX12_falling_31 ?_
  refine astX12_0 (pc := 32) hC (F := fun Z => Z) (X := []) (fun _ => rfl) (by unfold vp_in; decide) dX12_falling_32 ?_
  refine g_st (w := fun z => (wX12 o0 a0 (xy C) z [])) (u := (sw u_11 0 (upd (ga u_11 0) ((5 : Int32)).toNatClampNeg ((((1 : Int32) <<< ((ga u0 0 ((0 : Int32)).toNatClampNeg) &&& 31)) - (1 : Int32)) &&& (r_12 ^^^ (-1 : Int32)))))) (fun u_14 eu_14 => ?_)
  have h := h u_14 eu_14
  refine g_aload_n (pc := 33) hC 1 dX12_falling_33 rfl rfl ?_
  refine getX12_0 (pc := 34) hC (F := fun Z => Z) (X := []) (fun _ => rfl) fl_X12_7 dX12_falling_34 ?_
  refine g_iconst (pc := 37) (v := 5) hC dX12_falling_37 (by decide) ?_
  refine aldX12_0 (pc := 38) hC (F := fun Z => Z) (X := []) (fun _ => rfl) (by unfold vp_in; decide) dX12_falling_38 ?_
  refine g_callS_i (pc := 39) (wd := fun (_ : Unit) Y => Y) (F := fun Z => Z) (X := []) (As := [.int (ga u_14 0 ((5 : Int32)).toNatClampNeg)]) (rest := []) (u := ()) hC (fun _ _ => rfl) (fun _ => rfl) (ctX12_bits h) wvX12_bits ml_X12_276 rfl (rmok hR0 rfl) ⟨Nat.zero_le _, Nat.zero_le _⟩ rfl (Nat.le_of_ble_eq_true rfl) dX12_falling_39 (fun r_15 u_16 h => ?_)
  refine g_iload_n (pc := 42) hC 0 dX12_falling_42 rfl rfl ?_
  refine g_isub (pc := 43) hC dX12_falling_43 ?_
  exact hR _ _ _ u_14 dX12_falling_44 h
theorem ctX12_falling {l : Launch} {D : va_G} {cy : Nat → ClassId} {kd : Nat → Nat} {o0 : Nat} {a0 : Nat → Nat}  {u0 : St} {post : Int32 → St → Prop} (h : qX12_falling  u0 post) : CtI l D cy kd yX12_falling cX12_falling 2 6 .int [.ref o0] (fun u : St => (wX12 o0 a0 cy u [])) u0 (fun r u => post r u) := met_i (by decide) (Nat.le_of_ble_eq_true rfl) (fun C e1 e2 e3 e4 e5 hC hR => by subst e1 e2 e3 e4; exact kX12_falling hC e5 hR h)
theorem dX12_house_0 : decode cX12_house 0 = .ok (.aload_n 0, 1) := by decide +kernel
theorem dX12_house_1 : decode cX12_house 1 = .ok (.iload_n 1, 1) := by decide +kernel
theorem dX12_house_2 : decode cX12_house 2 = .ok (.sipush 900, 3) := by decide +kernel
theorem dX12_house_5 : decode cX12_house 5 = .ok (.invokevirtual 234, 3) := by decide +kernel
theorem dX12_house_8 : decode cX12_house 8 = .ok (.ifCond .ne 9, 3) := by decide +kernel
theorem dX12_house_11 : decode cX12_house 11 = .ok (.aload_n 0, 1) := by decide +kernel
theorem dX12_house_12 : decode cX12_house 12 = .ok (.iconst 1, 1) := by decide +kernel
theorem dX12_house_13 : decode cX12_house 13 = .ok (.invokevirtual 88, 3) := by decide +kernel
theorem dX12_house_16 : decode cX12_house 16 = .ok (.ireturn, 1) := by decide +kernel
theorem dX12_house_17 : decode cX12_house 17 = .ok (.aload_n 0, 1) := by decide +kernel
theorem dX12_house_18 : decode cX12_house 18 = .ok (.sipush 1824, 3) := by decide +kernel
theorem dX12_house_21 : decode cX12_house 21 = .ok (.invokevirtual 78, 3) := by decide +kernel
theorem dX12_house_24 : decode cX12_house 24 = .ok (.aload_n 0, 1) := by decide +kernel
theorem dX12_house_25 : decode cX12_house 25 = .ok (.iconst 0, 1) := by decide +kernel
theorem dX12_house_26 : decode cX12_house 26 = .ok (.putfield 218, 3) := by decide +kernel
theorem dX12_house_29 : decode cX12_house 29 = .ok (.iconst 1, 1) := by decide +kernel
theorem dX12_house_30 : decode cX12_house 30 = .ok (.istore_n 2, 1) := by decide +kernel
theorem dX12_house_31 : decode cX12_house 31 = .ok (.iload_n 2, 1) := by decide +kernel
theorem dX12_house_32 : decode cX12_house 32 = .ok (.ifCond .eq 18, 3) := by decide +kernel
theorem dX12_house_35 : decode cX12_house 35 = .ok (.aload_n 0, 1) := by decide +kernel
theorem dX12_house_36 : decode cX12_house 36 = .ok (.getfield 133, 3) := by decide +kernel
theorem dX12_house_39 : decode cX12_house 39 = .ok (.ifCond .eq 11, 3) := by decide +kernel
theorem dX12_house_42 : decode cX12_house 42 = .ok (.aload_n 0, 1) := by decide +kernel
theorem dX12_house_43 : decode cX12_house 43 = .ok (.invokevirtual 237, 3) := by decide +kernel
theorem dX12_house_46 : decode cX12_house 46 = .ok (.istore_n 2, 1) := by decide +kernel
theorem dX12_house_47 : decode cX12_house 47 = .ok (.goto (-16), 3) := by decide +kernel
theorem dX12_house_50 : decode cX12_house 50 = .ok (.aload_n 0, 1) := by decide +kernel
theorem dX12_house_51 : decode cX12_house 51 = .ok (.getfield 158, 3) := by decide +kernel
theorem dX12_house_54 : decode cX12_house 54 = .ok (.ifCond .ne 67, 3) := by decide +kernel
theorem dX12_house_57 : decode cX12_house 57 = .ok (.iconst 0, 1) := by decide +kernel
theorem dX12_house_58 : decode cX12_house 58 = .ok (.istore_n 3, 1) := by decide +kernel
theorem dX12_house_59 : decode cX12_house 59 = .ok (.iload_n 3, 1) := by decide +kernel
theorem dX12_house_60 : decode cX12_house 60 = .ok (.sipush 456, 3) := by decide +kernel
theorem dX12_house_63 : decode cX12_house 63 = .ok (.if_icmp .ge 25, 3) := by decide +kernel
theorem dX12_house_66 : decode cX12_house 66 = .ok (.aload_n 0, 1) := by decide +kernel
theorem dX12_house_67 : decode cX12_house 67 = .ok (.getfield 7, 3) := by decide +kernel
theorem dX12_house_70 : decode cX12_house 70 = .ok (.iload_n 3, 1) := by decide +kernel
theorem dX12_house_71 : decode cX12_house 71 = .ok (.aload_n 0, 1) := by decide +kernel
theorem dX12_house_72 : decode cX12_house 72 = .ok (.getfield 7, 3) := by decide +kernel
theorem dX12_house_75 : decode cX12_house 75 = .ok (.sipush 1824, 3) := by decide +kernel
theorem dX12_house_78 : decode cX12_house 78 = .ok (.iload_n 3, 1) := by decide +kernel
theorem dX12_house_79 : decode cX12_house 79 = .ok (.iadd, 1) := by decide +kernel
theorem dX12_house_80 : decode cX12_house 80 = .ok (.iaload, 1) := by decide +kernel
theorem dX12_house_81 : decode cX12_house 81 = .ok (.iastore, 1) := by decide +kernel
theorem dX12_house_82 : decode cX12_house 82 = .ok (.iinc 3 1, 3) := by decide +kernel
theorem dX12_house_85 : decode cX12_house 85 = .ok (.goto (-26), 3) := by decide +kernel
theorem dX12_house_88 : decode cX12_house 88 = .ok (.iconst 0, 1) := by decide +kernel
theorem dX12_house_89 : decode cX12_house 89 = .ok (.istore_n 3, 1) := by decide +kernel
theorem dX12_house_90 : decode cX12_house 90 = .ok (.iload_n 3, 1) := by decide +kernel
theorem dX12_house_91 : decode cX12_house 91 = .ok (.iconst 5, 1) := by decide +kernel
theorem dX12_house_92 : decode cX12_house 92 = .ok (.if_icmp .ge 24, 3) := by decide +kernel
theorem dX12_house_95 : decode cX12_house 95 = .ok (.aload_n 0, 1) := by decide +kernel
theorem dX12_house_96 : decode cX12_house 96 = .ok (.getfield 13, 3) := by decide +kernel
theorem dX12_house_99 : decode cX12_house 99 = .ok (.iload_n 3, 1) := by decide +kernel
theorem dX12_house_100 : decode cX12_house 100 = .ok (.aload_n 0, 1) := by decide +kernel
theorem dX12_house_101 : decode cX12_house 101 = .ok (.getfield 13, 3) := by decide +kernel
theorem dX12_house_104 : decode cX12_house 104 = .ok (.bipush 20, 2) := by decide +kernel
theorem dX12_house_106 : decode cX12_house 106 = .ok (.iload_n 3, 1) := by decide +kernel
theorem dX12_house_107 : decode cX12_house 107 = .ok (.iadd, 1) := by decide +kernel
theorem dX12_house_108 : decode cX12_house 108 = .ok (.laload, 1) := by decide +kernel
theorem dX12_house_109 : decode cX12_house 109 = .ok (.lastore, 1) := by decide +kernel
theorem dX12_house_110 : decode cX12_house 110 = .ok (.iinc 3 1, 3) := by decide +kernel
theorem dX12_house_113 : decode cX12_house 113 = .ok (.goto (-23), 3) := by decide +kernel
theorem dX12_house_116 : decode cX12_house 116 = .ok (.aload_n 0, 1) := by decide +kernel
theorem dX12_house_117 : decode cX12_house 117 = .ok (.invokevirtual 240, 3) := by decide +kernel
theorem dX12_house_120 : decode cX12_house 120 = .ok (.pop, 1) := by decide +kernel
theorem dX12_house_121 : decode cX12_house 121 = .ok (.aload_n 0, 1) := by decide +kernel
theorem dX12_house_122 : decode cX12_house 122 = .ok (.aload_n 0, 1) := by decide +kernel
theorem dX12_house_123 : decode cX12_house 123 = .ok (.getfield 7, 3) := by decide +kernel
theorem dX12_house_126 : decode cX12_house 126 = .ok (.iconst 2, 1) := by decide +kernel
theorem dX12_house_127 : decode cX12_house 127 = .ok (.iaload, 1) := by decide +kernel
theorem dX12_house_128 : decode cX12_house 128 = .ok (.invokevirtual 243, 3) := by decide +kernel
theorem dX12_house_131 : decode cX12_house 131 = .ok (.ireturn, 1) := by decide +kernel
def qX12_house_b121  (post : Int32 → St → Prop)  (u0 : St) : Prop := qX12_taken (ga u0 0 ((2 : Int32)).toNatClampNeg) u0 (fun r_24 u_23 => post r_24 u_23)
set_option maxRecDepth 100000 in
set_option maxHeartbeats 4000000 in
theorem kX12_house_b121 {C : Cx} {o0 : Nat} {a0 : Nat → Nat} (hC : Fx C cX12_house 4 RX12) (hR0 : xR C = rm 12) {post : Int32 → St → Prop} (hR : RI C cX12_house 4 (fun u : St => (wX12 o0 a0 (xy C) u [])) (fun r u => post r u))  {u0 : St} (h : qX12_house_b121 post u0) : G C 0 0 4 (wX12 o0 a0 (xy C) u0 []) 121 [(0, .ref o0)] [] := by
  refine g_aload_n (pc := 121) hC 0 dX12_house_121 rfl rfl ?_
  refine g_aload_n (pc := 122) hC 0 dX12_house_122 rfl rfl ?_
  refine getX12_0 (pc := 123) hC (F := fun Z => Z) (X := []) (fun _ => rfl) fl_X12_7 dX12_house_123 ?_
  refine g_iconst (pc := 126) (v := 2) hC dX12_house_126 (by decide) ?_
  refine aldX12_0 (pc := 127) hC (F := fun Z => Z) (X := []) (fun _ => rfl) (by unfold vp_in; decide) dX12_house_127 ?_
  refine g_callV_i (pc := 128) (wd := fun (u : St) Y => (wX12 o0 a0 (xy C) u Y)) (F := fun Z => Z) (X := []) (As := [.int (ga u0 0 ((2 : Int32)).toNatClampNeg)]) (rest := []) (u := u0) hC (fun _ _ => rfl) (fun _ => rfl) (ctX12_taken h) wvX12_taken ml_X12_243 (ci := 10) (q0 := 0) rfl rfl rfl rfl (rmok hR0 rfl) ⟨Nat.zero_le _, Nat.zero_le _⟩ rfl (Nat.le_of_ble_eq_true rfl) dX12_house_128 (fun r_24 u_23 h => ?_)
  exact hR _ _ _ u_23 dX12_house_131 h
def qX12_house_b116  (post : Int32 → St → Prop)  (u0 : St) : Prop := qX12_falling u0 (fun r_27 u_26 => qX12_house_b121 post u_26)
set_option maxRecDepth 100000 in
set_option maxHeartbeats 4000000 in
theorem kX12_house_b116 {C : Cx} {o0 : Nat} {a0 : Nat → Nat} (hC : Fx C cX12_house 4 RX12) (hR0 : xR C = rm 12) {post : Int32 → St → Prop} (hR : RI C cX12_house 4 (fun u : St => (wX12 o0 a0 (xy C) u [])) (fun r u => post r u))  {u0 : St} (h : qX12_house_b116 post u0) : G C 0 0 4 (wX12 o0 a0 (xy C) u0 []) 116 [(0, .ref o0)] [] := by
  refine g_aload_n (pc := 116) hC 0 dX12_house_116 rfl rfl ?_
  refine g_callV_i (pc := 117) (wd := fun (u : St) Y => (wX12 o0 a0 (xy C) u Y)) (F := fun Z => Z) (X := []) (As := []) (rest := []) (u := u0) hC (fun _ _ => rfl) (fun _ => rfl) (ctX12_falling h) wvX12_falling ml_X12_240 (ci := 10) (q0 := 0) rfl rfl rfl rfl (rmok hR0 rfl) ⟨Nat.zero_le _, Nat.zero_le _⟩ rfl (Nat.le_of_ble_eq_true rfl) dX12_house_117 (fun r_27 u_26 h => ?_)
  refine g_pop (pc := 120) hC dX12_house_120 rfl ?_
  exact kX12_house_b121 hC hR0 hR  h
def qX12_house_l90  (post : Int32 → St → Prop) (K90 : Int32 → St → Prop) (x3 : Int32) (u0 : St) : Prop := (((5 : Int32) ≤ x3 → qX12_house_b116 post u0) ∧ (¬ (5 : Int32) ≤ x3 → (vp_in ((20 : Int32) + x3) 30 ∧ (vp_in x3 30 ∧ ∀ u_30 : St, u_30 = (sx u0 1 (vp_updL (gl u0 1) (x3).toNatClampNeg (gl u0 1 (((20 : Int32) + x3)).toNatClampNeg))) → ∀ x3_31 : Int32, x3_31 = x3 + (1 : Int32) → K90 x3_31 u_30))))
set_option maxRecDepth 100000 in
set_option maxHeartbeats 4000000 in
theorem kX12_house_l90 {C : Cx} {o0 : Nat} {a0 : Nat → Nat} (hC : Fx C cX12_house 4 RX12) (hR0 : xR C = rm 12) {post : Int32 → St → Prop} (hR : RI C cX12_house 4 (fun u : St => (wX12 o0 a0 (xy C) u [])) (fun r u => post r u))  {K90 : Int32 → St → Prop} (hK90 : ∀ (x3 : Int32) (u0 : St), K90 x3 u0 → G C 0 0 4 (wX12 o0 a0 (xy C) u0 []) 90 [(0, .ref o0), (3, .int x3)] []) {x3 : Int32} {u0 : St} (h : qX12_house_l90 post K90 x3 u0) : G C 0 0 4 (wX12 o0 a0 (xy C) u0 []) 90 [(0, .ref o0), (3, .int x3)] [] := by
  refine g_iload_n (pc := 90) hC 1 dX12_house_90 rfl rfl ?_
  refine g_iconst (pc := 91) (v := 5) hC dX12_house_91 (by decide) ?_
  refine g_icmp_ge (pc := 92) (tgt := 116) hC dX12_house_92 (by decide) (fun c_29 => ?_) (fun c_29 => ?_)
  · have h := h.1 c_29
    refine g_sub (lv' := [(0, .ref o0)]) [0] rfl ?_
    exact kX12_house_b116 hC hR0 hR  h
  · have h := h.2 c_29
    refine g_aload_n (pc := 95) hC 0 dX12_house_95 rfl rfl ?_
    refine getX12_1 (pc := 96) hC (F := fun Z => Z) (X := []) (fun _ => rfl) fl_X12_13 dX12_house_96 ?_
    refine g_iload_n (pc := 99) hC 1 dX12_house_99 rfl rfl ?_
    refine g_aload_n (pc := 100) hC 0 dX12_house_100 rfl rfl ?_
    refine getX12_1 (pc := 101) hC (F := fun Z => Z) (X := []) (fun _ => rfl) fl_X12_13 dX12_house_101 ?_
    refine g_bipush (pc := 104) (v := 20) hC dX12_house_104 (by decide) ?_
    refine g_iload_n (pc := 106) hC 1 dX12_house_106 rfl rfl ?_
    refine g_iadd (pc := 107) hC dX12_house_107 ?_
    refine aldX12_1 (pc := 108) hC (F := fun Z => Z) (X := []) (fun _ => rfl) h.1 dX12_house_108 ?_
    have h := h.2
    refine astX12_1 (pc := 109) hC (F := fun Z => Z) (X := []) (fun _ => rfl) h.1 dX12_house_109 ?_
    have h := h.2
    refine g_st (w := fun z => (wX12 o0 a0 (xy C) z [])) (u := (sx u0 1 (vp_updL (gl u0 1) (x3).toNatClampNeg (gl u0 1 (((20 : Int32) + x3)).toNatClampNeg)))) (fun u_30 eu_30 => ?_)
    have h := h u_30 eu_30
    obtain ⟨x3_31, ex3_31⟩ : ∃ z : Int32, z = x3 + (1 : Int32) := ⟨_, rfl⟩
    have h := h x3_31 ex3_31
    refine g_iinc (pc := 110) (v := x3_31) (lv' := [(3, .int x3_31), (0, .ref o0)]) hC 1 dX12_house_110 rfl (by rw [ex3_31]; rfl) (Nat.le_of_ble_eq_true rfl) rfl ?_
    refine g_goto (pc := 113) (tgt := 90) hC dX12_house_113 (by decide) ?_
    refine g_sub (lv' := [(0, .ref o0), (3, .int x3_31)]) [1, 0] rfl ?_
    exact hK90 _ _ h
def qX12_house_L90  (post : Int32 → St → Prop)  : Nat → Int32 → St → Prop
  | 0 => fun _ _ => False
  | n + 1 => qX12_house_l90 post (qX12_house_L90 post n)
theorem kX12_house_L90 {C : Cx} {o0 : Nat} {a0 : Nat → Nat} (hC : Fx C cX12_house 4 RX12) (hR0 : xR C = rm 12) {post : Int32 → St → Prop} (hR : RI C cX12_house 4 (fun u : St => (wX12 o0 a0 (xy C) u [])) (fun r u => post r u))  : ∀ (n : Nat) (x3 : Int32) (u0 : St), qX12_house_L90 post n x3 u0 → G C 0 0 4 (wX12 o0 a0 (xy C) u0 []) 90 [(0, .ref o0), (3, .int x3)] [] := by
  intro n
  induction n with
  | zero => intro x3 u0 h; exact h.elim
  | succ n ih => intro x3 u0 h; exact kX12_house_l90 hC hR0 hR  ih h
def qX12_house_b88  (post : Int32 → St → Prop)  (u0 : St) : Prop := ∃ n_32 : Nat, qX12_house_L90 post n_32 (0 : Int32) u0
set_option maxRecDepth 100000 in
set_option maxHeartbeats 4000000 in
theorem kX12_house_b88 {C : Cx} {o0 : Nat} {a0 : Nat → Nat} (hC : Fx C cX12_house 4 RX12) (hR0 : xR C = rm 12) {post : Int32 → St → Prop} (hR : RI C cX12_house 4 (fun u : St => (wX12 o0 a0 (xy C) u [])) (fun r u => post r u))  {u0 : St} (h : qX12_house_b88 post u0) : G C 0 0 4 (wX12 o0 a0 (xy C) u0 []) 88 [(0, .ref o0)] [] := by
  refine g_iconst (pc := 88) (v := 0) hC dX12_house_88 (by decide) ?_
  refine g_istore_n (pc := 89) (lv' := [(3, .int (0 : Int32)), (0, .ref o0)]) hC dX12_house_89 rfl (Nat.le_of_ble_eq_true rfl) rfl ?_
  refine g_sub (lv' := [(0, .ref o0), (3, .int (0 : Int32))]) [1, 0] rfl ?_
  obtain ⟨n_32, h⟩ := h
  exact kX12_house_L90 hC hR0 hR  n_32 _ _ h
def qX12_house_l59  (post : Int32 → St → Prop) (K59 : Int32 → St → Prop) (x3 : Int32) (u0 : St) : Prop := (((456 : Int32) ≤ x3 → qX12_house_b88 post u0) ∧ (¬ (456 : Int32) ≤ x3 → (vp_in ((1824 : Int32) + x3) 3072 ∧ (vp_in x3 3072 ∧ ∀ u_34 : St, u_34 = (sw u0 0 (upd (ga u0 0) (x3).toNatClampNeg (ga u0 0 (((1824 : Int32) + x3)).toNatClampNeg))) → ∀ x3_35 : Int32, x3_35 = x3 + (1 : Int32) → K59 x3_35 u_34))))
set_option maxRecDepth 100000 in
set_option maxHeartbeats 4000000 in
theorem kX12_house_l59 {C : Cx} {o0 : Nat} {a0 : Nat → Nat} (hC : Fx C cX12_house 4 RX12) (hR0 : xR C = rm 12) {post : Int32 → St → Prop} (hR : RI C cX12_house 4 (fun u : St => (wX12 o0 a0 (xy C) u [])) (fun r u => post r u))  {K59 : Int32 → St → Prop} (hK59 : ∀ (x3 : Int32) (u0 : St), K59 x3 u0 → G C 0 0 4 (wX12 o0 a0 (xy C) u0 []) 59 [(0, .ref o0), (3, .int x3)] []) {x3 : Int32} {u0 : St} (h : qX12_house_l59 post K59 x3 u0) : G C 0 0 4 (wX12 o0 a0 (xy C) u0 []) 59 [(0, .ref o0), (3, .int x3)] [] := by
  refine g_iload_n (pc := 59) hC 1 dX12_house_59 rfl rfl ?_
  refine g_sipush (pc := 60) (v := 456) hC dX12_house_60 (by decide) ?_
  refine g_icmp_ge (pc := 63) (tgt := 88) hC dX12_house_63 (by decide) (fun c_33 => ?_) (fun c_33 => ?_)
  · have h := h.1 c_33
    refine g_sub (lv' := [(0, .ref o0)]) [0] rfl ?_
    exact kX12_house_b88 hC hR0 hR  h
  · have h := h.2 c_33
    refine g_aload_n (pc := 66) hC 0 dX12_house_66 rfl rfl ?_
    refine getX12_0 (pc := 67) hC (F := fun Z => Z) (X := []) (fun _ => rfl) fl_X12_7 dX12_house_67 ?_
    refine g_iload_n (pc := 70) hC 1 dX12_house_70 rfl rfl ?_
    refine g_aload_n (pc := 71) hC 0 dX12_house_71 rfl rfl ?_
    refine getX12_0 (pc := 72) hC (F := fun Z => Z) (X := []) (fun _ => rfl) fl_X12_7 dX12_house_72 ?_
    refine g_sipush (pc := 75) (v := 1824) hC dX12_house_75 (by decide) ?_
    refine g_iload_n (pc := 78) hC 1 dX12_house_78 rfl rfl ?_
    refine g_iadd (pc := 79) hC dX12_house_79 ?_
    refine aldX12_0 (pc := 80) hC (F := fun Z => Z) (X := []) (fun _ => rfl) h.1 dX12_house_80 ?_
    have h := h.2
    refine astX12_0 (pc := 81) hC (F := fun Z => Z) (X := []) (fun _ => rfl) h.1 dX12_house_81 ?_
    have h := h.2
    refine g_st (w := fun z => (wX12 o0 a0 (xy C) z [])) (u := (sw u0 0 (upd (ga u0 0) (x3).toNatClampNeg (ga u0 0 (((1824 : Int32) + x3)).toNatClampNeg)))) (fun u_34 eu_34 => ?_)
    have h := h u_34 eu_34
    obtain ⟨x3_35, ex3_35⟩ : ∃ z : Int32, z = x3 + (1 : Int32) := ⟨_, rfl⟩
    have h := h x3_35 ex3_35
    refine g_iinc (pc := 82) (v := x3_35) (lv' := [(3, .int x3_35), (0, .ref o0)]) hC 1 dX12_house_82 rfl (by rw [ex3_35]; rfl) (Nat.le_of_ble_eq_true rfl) rfl ?_
    refine g_goto (pc := 85) (tgt := 59) hC dX12_house_85 (by decide) ?_
    refine g_sub (lv' := [(0, .ref o0), (3, .int x3_35)]) [1, 0] rfl ?_
    exact hK59 _ _ h
def qX12_house_L59  (post : Int32 → St → Prop)  : Nat → Int32 → St → Prop
  | 0 => fun _ _ => False
  | n + 1 => qX12_house_l59 post (qX12_house_L59 post n)
theorem kX12_house_L59 {C : Cx} {o0 : Nat} {a0 : Nat → Nat} (hC : Fx C cX12_house 4 RX12) (hR0 : xR C = rm 12) {post : Int32 → St → Prop} (hR : RI C cX12_house 4 (fun u : St => (wX12 o0 a0 (xy C) u [])) (fun r u => post r u))  : ∀ (n : Nat) (x3 : Int32) (u0 : St), qX12_house_L59 post n x3 u0 → G C 0 0 4 (wX12 o0 a0 (xy C) u0 []) 59 [(0, .ref o0), (3, .int x3)] [] := by
  intro n
  induction n with
  | zero => intro x3 u0 h; exact h.elim
  | succ n ih => intro x3 u0 h; exact kX12_house_l59 hC hR0 hR  ih h
def qX12_house_b50  (post : Int32 → St → Prop)  (u0 : St) : Prop := ((¬ (gi u0 18) = 0 → qX12_house_b121 post u0) ∧ ((gi u0 18) = 0 → ∃ n_37 : Nat, qX12_house_L59 post n_37 (0 : Int32) u0))
set_option maxRecDepth 100000 in
set_option maxHeartbeats 4000000 in
theorem kX12_house_b50 {C : Cx} {o0 : Nat} {a0 : Nat → Nat} (hC : Fx C cX12_house 4 RX12) (hR0 : xR C = rm 12) {post : Int32 → St → Prop} (hR : RI C cX12_house 4 (fun u : St => (wX12 o0 a0 (xy C) u [])) (fun r u => post r u))  {u0 : St} (h : qX12_house_b50 post u0) : G C 0 0 4 (wX12 o0 a0 (xy C) u0 []) 50 [(0, .ref o0)] [] := by
  refine g_aload_n (pc := 50) hC 0 dX12_house_50 rfl rfl ?_
  refine getX12_18 (pc := 51) hC (F := fun Z => Z) (X := []) (fun _ => rfl) fl_X12_158 dX12_house_51 ?_
  refine g_if_ne (pc := 54) (tgt := 121) hC dX12_house_54 (by decide) (fun c_36 => ?_) (fun c_36 => ?_)
  · have h := h.1 c_36
    exact kX12_house_b121 hC hR0 hR  h
  · have h := h.2 c_36
    refine g_iconst (pc := 57) (v := 0) hC dX12_house_57 (by decide) ?_
    refine g_istore_n (pc := 58) (lv' := [(3, .int (0 : Int32)), (0, .ref o0)]) hC dX12_house_58 rfl (Nat.le_of_ble_eq_true rfl) rfl ?_
    refine g_sub (lv' := [(0, .ref o0), (3, .int (0 : Int32))]) [1, 0] rfl ?_
    obtain ⟨n_37, h⟩ := h
    exact kX12_house_L59 hC hR0 hR  n_37 _ _ h
def qX12_house_l31  (post : Int32 → St → Prop) (K31 : Int32 → St → Prop) (x2 : Int32) (u0 : St) : Prop := ((x2 = 0 → qX12_house_b50 post u0) ∧ (¬ x2 = 0 → (((gi u0 12) = 0 → qX12_house_b50 post u0) ∧ (¬ (gi u0 12) = 0 → qX12_housePart u0 (fun r_41 u_40 => K31 r_41 u_40)))))
set_option maxRecDepth 100000 in
set_option maxHeartbeats 4000000 in
theorem kX12_house_l31 {C : Cx} {o0 : Nat} {a0 : Nat → Nat} (hC : Fx C cX12_house 4 RX12) (hR0 : xR C = rm 12) {post : Int32 → St → Prop} (hR : RI C cX12_house 4 (fun u : St => (wX12 o0 a0 (xy C) u [])) (fun r u => post r u))  {K31 : Int32 → St → Prop} (hK31 : ∀ (x2 : Int32) (u0 : St), K31 x2 u0 → G C 0 0 4 (wX12 o0 a0 (xy C) u0 []) 31 [(0, .ref o0), (2, .int x2)] []) {x2 : Int32} {u0 : St} (h : qX12_house_l31 post K31 x2 u0) : G C 0 0 4 (wX12 o0 a0 (xy C) u0 []) 31 [(0, .ref o0), (2, .int x2)] [] := by
  refine g_iload_n (pc := 31) hC 1 dX12_house_31 rfl rfl ?_
  refine g_if_eq (pc := 32) (tgt := 50) hC dX12_house_32 (by decide) (fun c_38 => ?_) (fun c_38 => ?_)
  · have h := h.1 c_38
    refine g_sub (lv' := [(0, .ref o0)]) [0] rfl ?_
    exact kX12_house_b50 hC hR0 hR  h
  · have h := h.2 c_38
    refine g_aload_n (pc := 35) hC 0 dX12_house_35 rfl rfl ?_
    refine getX12_12 (pc := 36) hC (F := fun Z => Z) (X := []) (fun _ => rfl) fl_X12_133 dX12_house_36 ?_
    refine g_if_eq (pc := 39) (tgt := 50) hC dX12_house_39 (by decide) (fun c_39 => ?_) (fun c_39 => ?_)
    · have h := h.1 c_39
      refine g_sub (lv' := [(0, .ref o0)]) [0] rfl ?_
      exact kX12_house_b50 hC hR0 hR  h
    · have h := h.2 c_39
      refine g_aload_n (pc := 42) hC 0 dX12_house_42 rfl rfl ?_
      refine g_callV_i (pc := 43) (wd := fun (u : St) Y => (wX12 o0 a0 (xy C) u Y)) (F := fun Z => Z) (X := []) (As := []) (rest := []) (u := u0) hC (fun _ _ => rfl) (fun _ => rfl) (ctX12_housePart h) wvX12_housePart ml_X12_237 (ci := 10) (q0 := 0) rfl rfl rfl rfl (rmok hR0 rfl) ⟨Nat.zero_le _, Nat.zero_le _⟩ rfl (Nat.le_of_ble_eq_true rfl) dX12_house_43 (fun r_41 u_40 h => ?_)
      refine g_istore_n (pc := 46) (lv' := [(2, .int r_41), (0, .ref o0)]) hC dX12_house_46 rfl (Nat.le_of_ble_eq_true rfl) rfl ?_
      refine g_goto (pc := 47) (tgt := 31) hC dX12_house_47 (by decide) ?_
      refine g_sub (lv' := [(0, .ref o0), (2, .int r_41)]) [1, 0] rfl ?_
      exact hK31 _ _ h
def qX12_house_L31  (post : Int32 → St → Prop)  : Nat → Int32 → St → Prop
  | 0 => fun _ _ => False
  | n + 1 => qX12_house_l31 post (qX12_house_L31 post n)
theorem kX12_house_L31 {C : Cx} {o0 : Nat} {a0 : Nat → Nat} (hC : Fx C cX12_house 4 RX12) (hR0 : xR C = rm 12) {post : Int32 → St → Prop} (hR : RI C cX12_house 4 (fun u : St => (wX12 o0 a0 (xy C) u [])) (fun r u => post r u))  : ∀ (n : Nat) (x2 : Int32) (u0 : St), qX12_house_L31 post n x2 u0 → G C 0 0 4 (wX12 o0 a0 (xy C) u0 []) 31 [(0, .ref o0), (2, .int x2)] [] := by
  intro n
  induction n with
  | zero => intro x2 u0 h; exact h.elim
  | succ n ih => intro x2 u0 h; exact kX12_house_l31 hC hR0 hR  ih h
def qX12_house (x1 : Int32) (u0 : St) (post : Int32 → St → Prop) : Prop := qX12_begins x1 (900 : Int32) u0 (fun r_44 u_43 => ((¬ r_44 = 0 → qX12_plain (1824 : Int32) u_43 (fun u_47 => ∀ u_49 : St, u_49 = (si u_47 20 (0 : Int32)) → ∃ n_50 : Nat, qX12_house_L31 post n_50 (1 : Int32) u_49)) ∧ (r_44 = 0 → qX12_refuse (1 : Int32) u_43 (fun r_52 u_51 => post r_52 u_51))))
set_option maxRecDepth 100000 in
set_option maxHeartbeats 4000000 in
theorem kX12_house {C : Cx} {o0 : Nat} {a0 : Nat → Nat} (hC : Fx C cX12_house 4 RX12) (hR0 : xR C = rm 12) {post : Int32 → St → Prop} (hR : RI C cX12_house 4 (fun u : St => (wX12 o0 a0 (xy C) u [])) (fun r u => post r u)) {x1 : Int32} {u0 : St} (h : qX12_house x1 u0 post) : G C 0 0 4 (wX12 o0 a0 (xy C) u0 []) 0 [(0, .ref o0), (1, .int x1)] [] := by
  refine g_aload_n (pc := 0) hC 0 dX12_house_0 rfl rfl ?_
  refine g_iload_n (pc := 1) hC 1 dX12_house_1 rfl rfl ?_
  refine g_sipush (pc := 2) (v := 900) hC dX12_house_2 (by decide) ?_
  refine g_callV_i (pc := 5) (wd := fun (u : St) Y => (wX12 o0 a0 (xy C) u Y)) (F := fun Z => Z) (X := []) (As := [.int x1, .int (900 : Int32)]) (rest := []) (u := u0) hC (fun _ _ => rfl) (fun _ => rfl) (ctX12_begins h) wvX12_begins ml_X12_234 (ci := 10) (q0 := 0) rfl rfl rfl rfl (rmok hR0 rfl) ⟨Nat.zero_le _, Nat.zero_le _⟩ rfl (Nat.le_of_ble_eq_true rfl) dX12_house_5 (fun r_44 u_43 h => ?_)
  refine g_if_ne (pc := 8) (tgt := 17) hC dX12_house_8 (by decide) (fun c_46 => ?_) (fun c_46 => ?_)
  · have h := h.1 c_46
    refine g_aload_n (pc := 17) hC 0 dX12_house_17 rfl rfl ?_
    refine g_sipush (pc := 18) (v := 1824) hC dX12_house_18 (by decide) ?_
    refine g_callV_v (pc := 21) (wd := fun (u : St) Y => (wX12 o0 a0 (xy C) u Y)) (F := fun Z => Z) (X := []) (As := [.int (1824 : Int32)]) (rest := []) (u := u_43) hC (fun _ _ => rfl) (fun _ => rfl) (ctX12_plain h) wvX12_plain ml_X12_78 (ci := 10) (q0 := 0) rfl rfl rfl rfl (rmok hR0 rfl) ⟨Nat.zero_le _, Nat.zero_le _⟩ rfl (Nat.le_of_ble_eq_true rfl) dX12_house_21 (fun u_47 h => ?_)
    refine g_aload_n (pc := 24) hC 0 dX12_house_24 rfl rfl ?_
    refine g_iconst (pc := 25) (v := 0) hC dX12_house_25 (by decide) ?_
    refine putX12_20 (pc := 26) hC (F := fun Z => Z) (X := []) (fun _ => rfl) fl_X12_218 dX12_house_26 ?_
    refine g_st (w := fun z => (wX12 o0 a0 (xy C) z [])) (u := (si u_47 20 (0 : Int32))) (fun u_49 eu_49 => ?_)
    have h := h u_49 eu_49
    refine g_iconst (pc := 29) (v := 1) hC dX12_house_29 (by decide) ?_
    refine g_istore_n (pc := 30) (lv' := [(2, .int (1 : Int32)), (0, .ref o0), (1, .int x1)]) hC dX12_house_30 rfl (Nat.le_of_ble_eq_true rfl) rfl ?_
    refine g_sub (lv' := [(0, .ref o0), (2, .int (1 : Int32))]) [1, 0] rfl ?_
    obtain ⟨n_50, h⟩ := h
    exact kX12_house_L31 hC hR0 hR  n_50 _ _ h
  · have h := h.2 c_46
    refine g_aload_n (pc := 11) hC 0 dX12_house_11 rfl rfl ?_
    refine g_iconst (pc := 12) (v := 1) hC dX12_house_12 (by decide) ?_
    refine g_callV_i (pc := 13) (wd := fun (u : St) Y => (wX12 o0 a0 (xy C) u Y)) (F := fun Z => Z) (X := []) (As := [.int (1 : Int32)]) (rest := []) (u := u_43) hC (fun _ _ => rfl) (fun _ => rfl) (ctX12_refuse h) wvX12_refuse ml_X12_88 (ci := 10) (q0 := 0) rfl rfl rfl rfl (rmok hR0 rfl) ⟨Nat.zero_le _, Nat.zero_le _⟩ rfl (Nat.le_of_ble_eq_true rfl) dX12_house_13 (fun r_52 u_51 h => ?_)
    exact hR _ _ _ u_51 dX12_house_16 h
theorem ctX12_house {l : Launch} {D : va_G} {cy : Nat → ClassId} {kd : Nat → Nat} {o0 : Nat} {a0 : Nat → Nat} {x1 : Int32} {u0 : St} {post : Int32 → St → Prop} (h : qX12_house x1 u0 post) : CtI l D cy kd yX12_house cX12_house 4 12 .int [.ref o0, .int x1] (fun u : St => (wX12 o0 a0 cy u [])) u0 (fun r u => post r u) := met_i (by decide) (Nat.le_of_ble_eq_true rfl) (fun C e1 e2 e3 e4 e5 hC hR => by subst e1 e2 e3 e4; exact kX12_house hC e5 hR h)
theorem dX12_test_0 : decode cX12_test 0 = .ok (.aload_n 0, 1) := by decide +kernel
theorem dX12_test_1 : decode cX12_test 1 = .ok (.ldc 181, 2) := by decide +kernel
theorem dX12_test_3 : decode cX12_test 3 = .ok (.invokevirtual 173, 3) := by decide +kernel
theorem dX12_test_6 : decode cX12_test 6 = .ok (.istore_n 2, 1) := by decide +kernel
theorem dX12_test_7 : decode cX12_test 7 = .ok (.iload_n 2, 1) := by decide +kernel
theorem dX12_test_8 : decode cX12_test 8 = .ok (.bipush 23, 2) := by decide +kernel
theorem dX12_test_10 : decode cX12_test 10 = .ok (.if_icmp .eq 27, 3) := by decide +kernel
theorem dX12_test_13 : decode cX12_test 13 = .ok (.iload_n 2, 1) := by decide +kernel
theorem dX12_test_14 : decode cX12_test 14 = .ok (.bipush 24, 2) := by decide +kernel
theorem dX12_test_16 : decode cX12_test 16 = .ok (.if_icmp .eq 21, 3) := by decide +kernel
theorem dX12_test_19 : decode cX12_test 19 = .ok (.iload_n 2, 1) := by decide +kernel
theorem dX12_test_20 : decode cX12_test 20 = .ok (.bipush 7, 2) := by decide +kernel
theorem dX12_test_22 : decode cX12_test 22 = .ok (.if_icmp .eq 15, 3) := by decide +kernel
theorem dX12_test_25 : decode cX12_test 25 = .ok (.iload_n 2, 1) := by decide +kernel
theorem dX12_test_26 : decode cX12_test 26 = .ok (.bipush 12, 2) := by decide +kernel
theorem dX12_test_28 : decode cX12_test 28 = .ok (.if_icmp .eq 9, 3) := by decide +kernel
theorem dX12_test_31 : decode cX12_test 31 = .ok (.aload_n 0, 1) := by decide +kernel
theorem dX12_test_32 : decode cX12_test 32 = .ok (.iconst 2, 1) := by decide +kernel
theorem dX12_test_33 : decode cX12_test 33 = .ok (.invokevirtual 170, 3) := by decide +kernel
theorem dX12_test_36 : decode cX12_test 36 = .ok (.ireturn, 1) := by decide +kernel
theorem dX12_test_37 : decode cX12_test 37 = .ok (.aload_n 0, 1) := by decide +kernel
theorem dX12_test_38 : decode cX12_test 38 = .ok (.getfield 7, 3) := by decide +kernel
theorem dX12_test_41 : decode cX12_test 41 = .ok (.iload_n 1, 1) := by decide +kernel
theorem dX12_test_42 : decode cX12_test 42 = .ok (.sipush 1900, 3) := by decide +kernel
theorem dX12_test_45 : decode cX12_test 45 = .ok (.iload_n 2, 1) := by decide +kernel
theorem dX12_test_46 : decode cX12_test 46 = .ok (.iadd, 1) := by decide +kernel
theorem dX12_test_47 : decode cX12_test 47 = .ok (.iastore, 1) := by decide +kernel
theorem dX12_test_48 : decode cX12_test 48 = .ok (.aload_n 0, 1) := by decide +kernel
theorem dX12_test_49 : decode cX12_test 49 = .ok (.invokevirtual 164, 3) := by decide +kernel
theorem dX12_test_52 : decode cX12_test 52 = .ok (.iload_n 2, 1) := by decide +kernel
theorem dX12_test_53 : decode cX12_test 53 = .ok (.bipush 23, 2) := by decide +kernel
theorem dX12_test_55 : decode cX12_test 55 = .ok (.if_icmp .ne 20, 3) := by decide +kernel
theorem dX12_test_58 : decode cX12_test 58 = .ok (.aload_n 0, 1) := by decide +kernel
theorem dX12_test_59 : decode cX12_test 59 = .ok (.iload_n 1, 1) := by decide +kernel
theorem dX12_test_60 : decode cX12_test 60 = .ok (.iconst 1, 1) := by decide +kernel
theorem dX12_test_61 : decode cX12_test 61 = .ok (.iadd, 1) := by decide +kernel
theorem dX12_test_62 : decode cX12_test 62 = .ok (.iconst 0, 1) := by decide +kernel
theorem dX12_test_63 : decode cX12_test 63 = .ok (.aload_n 0, 1) := by decide +kernel
theorem dX12_test_64 : decode cX12_test 64 = .ok (.getfield 7, 3) := by decide +kernel
theorem dX12_test_67 : decode cX12_test 67 = .ok (.iconst 0, 1) := by decide +kernel
theorem dX12_test_68 : decode cX12_test 68 = .ok (.iaload, 1) := by decide +kernel
theorem dX12_test_69 : decode cX12_test 69 = .ok (.iconst 1, 1) := by decide +kernel
theorem dX12_test_70 : decode cX12_test 70 = .ok (.isub, 1) := by decide +kernel
theorem dX12_test_71 : decode cX12_test 71 = .ok (.invokevirtual 194, 3) := by decide +kernel
theorem dX12_test_74 : decode cX12_test 74 = .ok (.ireturn, 1) := by decide +kernel
theorem dX12_test_75 : decode cX12_test 75 = .ok (.iload_n 2, 1) := by decide +kernel
theorem dX12_test_76 : decode cX12_test 76 = .ok (.bipush 24, 2) := by decide +kernel
theorem dX12_test_78 : decode cX12_test 78 = .ok (.if_icmp .ne 14, 3) := by decide +kernel
theorem dX12_test_81 : decode cX12_test 81 = .ok (.aload_n 0, 1) := by decide +kernel
theorem dX12_test_82 : decode cX12_test 82 = .ok (.iload_n 1, 1) := by decide +kernel
theorem dX12_test_83 : decode cX12_test 83 = .ok (.iconst 1, 1) := by decide +kernel
theorem dX12_test_84 : decode cX12_test 84 = .ok (.iadd, 1) := by decide +kernel
theorem dX12_test_85 : decode cX12_test 85 = .ok (.iconst 0, 1) := by decide +kernel
theorem dX12_test_86 : decode cX12_test 86 = .ok (.bipush 6, 2) := by decide +kernel
theorem dX12_test_88 : decode cX12_test 88 = .ok (.invokevirtual 194, 3) := by decide +kernel
theorem dX12_test_91 : decode cX12_test 91 = .ok (.ireturn, 1) := by decide +kernel
theorem dX12_test_92 : decode cX12_test 92 = .ok (.iload_n 2, 1) := by decide +kernel
theorem dX12_test_93 : decode cX12_test 93 = .ok (.bipush 7, 2) := by decide +kernel
theorem dX12_test_95 : decode cX12_test 95 = .ok (.if_icmp .ne 21, 3) := by decide +kernel
theorem dX12_test_98 : decode cX12_test 98 = .ok (.aload_n 0, 1) := by decide +kernel
theorem dX12_test_99 : decode cX12_test 99 = .ok (.iconst 0, 1) := by decide +kernel
theorem dX12_test_100 : decode cX12_test 100 = .ok (.aload_n 0, 1) := by decide +kernel
theorem dX12_test_101 : decode cX12_test 101 = .ok (.getfield 7, 3) := by decide +kernel
theorem dX12_test_104 : decode cX12_test 104 = .ok (.iconst 1, 1) := by decide +kernel
theorem dX12_test_105 : decode cX12_test 105 = .ok (.iaload, 1) := by decide +kernel
theorem dX12_test_106 : decode cX12_test 106 = .ok (.iload_n 1, 1) := by decide +kernel
theorem dX12_test_107 : decode cX12_test 107 = .ok (.iconst 1, 1) := by decide +kernel
theorem dX12_test_108 : decode cX12_test 108 = .ok (.iadd, 1) := by decide +kernel
theorem dX12_test_109 : decode cX12_test 109 = .ok (.iconst (-1), 1) := by decide +kernel
theorem dX12_test_110 : decode cX12_test 110 = .ok (.invokevirtual 214, 3) := by decide +kernel
theorem dX12_test_113 : decode cX12_test 113 = .ok (.goto 13, 3) := by decide +kernel
theorem dX12_test_116 : decode cX12_test 116 = .ok (.aload_n 0, 1) := by decide +kernel
theorem dX12_test_117 : decode cX12_test 117 = .ok (.iload_n 1, 1) := by decide +kernel
theorem dX12_test_118 : decode cX12_test 118 = .ok (.iconst 1, 1) := by decide +kernel
theorem dX12_test_119 : decode cX12_test 119 = .ok (.iadd, 1) := by decide +kernel
theorem dX12_test_120 : decode cX12_test 120 = .ok (.iconst 0, 1) := by decide +kernel
theorem dX12_test_121 : decode cX12_test 121 = .ok (.bipush 6, 2) := by decide +kernel
theorem dX12_test_123 : decode cX12_test 123 = .ok (.invokevirtual 194, 3) := by decide +kernel
theorem dX12_test_126 : decode cX12_test 126 = .ok (.istore_n 3, 1) := by decide +kernel
theorem dX12_test_127 : decode cX12_test 127 = .ok (.iload_n 3, 1) := by decide +kernel
theorem dX12_test_128 : decode cX12_test 128 = .ok (.ifCond .ne 5, 3) := by decide +kernel
theorem dX12_test_131 : decode cX12_test 131 = .ok (.iconst 0, 1) := by decide +kernel
theorem dX12_test_132 : decode cX12_test 132 = .ok (.ireturn, 1) := by decide +kernel
theorem dX12_test_133 : decode cX12_test 133 = .ok (.aload_n 0, 1) := by decide +kernel
theorem dX12_test_134 : decode cX12_test 134 = .ok (.bipush 60, 2) := by decide +kernel
theorem dX12_test_136 : decode cX12_test 136 = .ok (.invokevirtual 167, 3) := by decide +kernel
theorem dX12_test_139 : decode cX12_test 139 = .ok (.ifCond .ne 27, 3) := by decide +kernel
theorem dX12_test_142 : decode cX12_test 142 = .ok (.aload_n 0, 1) := by decide +kernel
theorem dX12_test_143 : decode cX12_test 143 = .ok (.bipush 62, 2) := by decide +kernel
theorem dX12_test_145 : decode cX12_test 145 = .ok (.invokevirtual 167, 3) := by decide +kernel
theorem dX12_test_148 : decode cX12_test 148 = .ok (.ifCond .ne 18, 3) := by decide +kernel
theorem dX12_test_151 : decode cX12_test 151 = .ok (.aload_n 0, 1) := by decide +kernel
theorem dX12_test_152 : decode cX12_test 152 = .ok (.bipush 61, 2) := by decide +kernel
theorem dX12_test_154 : decode cX12_test 154 = .ok (.invokevirtual 167, 3) := by decide +kernel
theorem dX12_test_157 : decode cX12_test 157 = .ok (.ifCond .ne 9, 3) := by decide +kernel
theorem dX12_test_160 : decode cX12_test 160 = .ok (.aload_n 0, 1) := by decide +kernel
theorem dX12_test_161 : decode cX12_test 161 = .ok (.iconst 2, 1) := by decide +kernel
theorem dX12_test_162 : decode cX12_test 162 = .ok (.invokevirtual 170, 3) := by decide +kernel
theorem dX12_test_165 : decode cX12_test 165 = .ok (.ireturn, 1) := by decide +kernel
theorem dX12_test_166 : decode cX12_test 166 = .ok (.aload_n 0, 1) := by decide +kernel
theorem dX12_test_167 : decode cX12_test 167 = .ok (.getfield 7, 3) := by decide +kernel
theorem dX12_test_170 : decode cX12_test 170 = .ok (.iload_n 1, 1) := by decide +kernel
theorem dX12_test_171 : decode cX12_test 171 = .ok (.iconst 5, 1) := by decide +kernel
theorem dX12_test_172 : decode cX12_test 172 = .ok (.iadd, 1) := by decide +kernel
theorem dX12_test_173 : decode cX12_test 173 = .ok (.aload_n 0, 1) := by decide +kernel
theorem dX12_test_174 : decode cX12_test 174 = .ok (.getfield 130, 3) := by decide +kernel
theorem dX12_test_177 : decode cX12_test 177 = .ok (.iastore, 1) := by decide +kernel
theorem dX12_test_178 : decode cX12_test 178 = .ok (.aload_n 0, 1) := by decide +kernel
theorem dX12_test_179 : decode cX12_test 179 = .ok (.invokevirtual 164, 3) := by decide +kernel
theorem dX12_test_182 : decode cX12_test 182 = .ok (.aload_n 0, 1) := by decide +kernel
theorem dX12_test_183 : decode cX12_test 183 = .ok (.iload_n 1, 1) := by decide +kernel
theorem dX12_test_184 : decode cX12_test 184 = .ok (.iconst 2, 1) := by decide +kernel
theorem dX12_test_185 : decode cX12_test 185 = .ok (.iadd, 1) := by decide +kernel
theorem dX12_test_186 : decode cX12_test 186 = .ok (.iconst 0, 1) := by decide +kernel
theorem dX12_test_187 : decode cX12_test 187 = .ok (.iload_n 2, 1) := by decide +kernel
theorem dX12_test_188 : decode cX12_test 188 = .ok (.bipush 7, 2) := by decide +kernel
theorem dX12_test_190 : decode cX12_test 190 = .ok (.if_icmp .ne 9, 3) := by decide +kernel
theorem dX12_test_193 : decode cX12_test 193 = .ok (.sipush 9999, 3) := by decide +kernel
theorem dX12_test_196 : decode cX12_test 196 = .ok (.goto 6, 3) := by decide +kernel
theorem dX12_test_199 : decode cX12_test 199 = .ok (.sipush 999, 3) := by decide +kernel
theorem dX12_test_202 : decode cX12_test 202 = .ok (.invokevirtual 194, 3) := by decide +kernel
theorem dX12_test_205 : decode cX12_test 205 = .ok (.ireturn, 1) := by decide +kernel
def qX12_test_b202  (post : Int32 → St → Prop)  (s0 : Int32) (s1 : Int32) (s2 : Int32) (u0 : St) : Prop := qX12_number s2 s1 s0 u0 (fun r_41 u_40 => (bz r_41 ∧ post r_41 u_40))
set_option maxRecDepth 100000 in
set_option maxHeartbeats 4000000 in
theorem kX12_test_b202 {C : Cx} {o0 : Nat} {a0 : Nat → Nat} (hC : Fx C cX12_test 4 RX12) (hR0 : xR C = rm 10) {post : Int32 → St → Prop} (hR : RZ C cX12_test 4 (fun u : St => (wX12 o0 a0 (xy C) u [])) (fun r u => post r u))  {s0 : Int32} {s1 : Int32} {s2 : Int32} {u0 : St} (h : qX12_test_b202 post s0 s1 s2 u0) : G C 0 0 4 (wX12 o0 a0 (xy C) u0 []) 202 [] [.int s0, .int s1, .int s2, .ref o0] := by
  refine g_callV_i (pc := 202) (wd := fun (u : St) Y => (wX12 o0 a0 (xy C) u Y)) (F := fun Z => Z) (X := []) (As := [.int s2, .int s1, .int s0]) (rest := []) (u := u0) hC (fun _ _ => rfl) (fun _ => rfl) (ctX12_number h) wvX12_number ml_X12_194 (ci := 10) (q0 := 0) rfl rfl rfl rfl (rmok hR0 rfl) ⟨Nat.zero_le _, Nat.zero_le _⟩ rfl (Nat.le_of_ble_eq_true rfl) dX12_test_202 (fun r_41 u_40 h => ?_)
  exact hR _ _ _ u_40 dX12_test_205 h.1 h.2
def qX12_test_b166  (post : Int32 → St → Prop)  (x1 : Int32) (x2 : Int32) (u0 : St) : Prop := (vp_in (x1 + (5 : Int32)) 3072 ∧ ∀ u_43 : St, u_43 = (sw u0 0 (upd (ga u0 0) ((x1 + (5 : Int32))).toNatClampNeg (gi u0 15))) → qX12_ahead u_43 (fun u_44 => ((¬ x2 = (7 : Int32) → qX12_test_b202 post (999 : Int32) (0 : Int32) (x1 + (2 : Int32)) u_44) ∧ (x2 = (7 : Int32) → qX12_test_b202 post (9999 : Int32) (0 : Int32) (x1 + (2 : Int32)) u_44))))
set_option maxRecDepth 100000 in
set_option maxHeartbeats 4000000 in
theorem kX12_test_b166 {C : Cx} {o0 : Nat} {a0 : Nat → Nat} (hC : Fx C cX12_test 4 RX12) (hR0 : xR C = rm 10) {post : Int32 → St → Prop} (hR : RZ C cX12_test 4 (fun u : St => (wX12 o0 a0 (xy C) u [])) (fun r u => post r u))  {x1 : Int32} {x2 : Int32} {u0 : St} (h : qX12_test_b166 post x1 x2 u0) : G C 0 0 4 (wX12 o0 a0 (xy C) u0 []) 166 [(0, .ref o0), (1, .int x1), (2, .int x2)] [] := by
  refine g_aload_n (pc := 166) hC 0 dX12_test_166 rfl rfl ?_
  refine getX12_0 (pc := 167) hC (F := fun Z => Z) (X := []) (fun _ => rfl) fl_X12_7 dX12_test_167 ?_
  refine g_iload_n (pc := 170) hC 1 dX12_test_170 rfl rfl ?_
  refine g_iconst (pc := 171) (v := 5) hC dX12_test_171 (by decide) ?_
  refine g_iadd (pc := 172) hC dX12_test_172 ?_
  refine g_aload_n (pc := 173) hC 0 dX12_test_173 rfl rfl ?_
  refine getX12_15 (pc := 174) hC (F := fun Z => Z) (X := []) (fun _ => rfl) fl_X12_130 dX12_test_174 ?_
  refine astX12_0 (pc := 177) hC (F := fun Z => Z) (X := []) (fun _ => rfl) h.1 dX12_test_177 ?_
  have h := h.2
  refine g_st (w := fun z => (wX12 o0 a0 (xy C) z [])) (u := (sw u0 0 (upd (ga u0 0) ((x1 + (5 : Int32))).toNatClampNeg (gi u0 15)))) (fun u_43 eu_43 => ?_)
  have h := h u_43 eu_43
  refine g_aload_n (pc := 178) hC 0 dX12_test_178 rfl rfl ?_
  refine g_callV_v (pc := 179) (wd := fun (u : St) Y => (wX12 o0 a0 (xy C) u Y)) (F := fun Z => Z) (X := []) (As := []) (rest := []) (u := u_43) hC (fun _ _ => rfl) (fun _ => rfl) (ctX12_ahead h) wvX12_ahead ml_X12_164 (ci := 10) (q0 := 0) rfl rfl rfl rfl (rmok hR0 rfl) ⟨Nat.zero_le _, Nat.zero_le _⟩ rfl (Nat.le_of_ble_eq_true rfl) dX12_test_179 (fun u_44 h => ?_)
  refine g_aload_n (pc := 182) hC 0 dX12_test_182 rfl rfl ?_
  refine g_iload_n (pc := 183) hC 1 dX12_test_183 rfl rfl ?_
  refine g_iconst (pc := 184) (v := 2) hC dX12_test_184 (by decide) ?_
  refine g_iadd (pc := 185) hC dX12_test_185 ?_
  refine g_iconst (pc := 186) (v := 0) hC dX12_test_186 (by decide) ?_
  refine g_iload_n (pc := 187) hC 2 dX12_test_187 rfl rfl ?_
  refine g_bipush (pc := 188) (v := 7) hC dX12_test_188 (by decide) ?_
  refine g_icmp_ne (pc := 190) (tgt := 199) hC dX12_test_190 (by decide) (fun c_46 => ?_) (fun c_46 => ?_)
  · have h := h.1 c_46
    refine g_sipush (pc := 199) (v := 999) hC dX12_test_199 (by decide) ?_
    refine g_sub (lv' := []) [] rfl ?_
    exact kX12_test_b202 hC hR0 hR  h
  · have h := h.2 c_46
    refine g_sipush (pc := 193) (v := 9999) hC dX12_test_193 (by decide) ?_
    refine g_goto (pc := 196) (tgt := 202) hC dX12_test_196 (by decide) ?_
    refine g_sub (lv' := []) [] rfl ?_
    exact kX12_test_b202 hC hR0 hR  h
def qX12_test_b126  (post : Int32 → St → Prop)  (x1 : Int32) (x2 : Int32) (s0 : Int32) (u0 : St) : Prop := ((¬ s0 = 0 → qX12_isSign (60 : Int32) u0 (fun r_49 u_48 => ((¬ r_49 = 0 → qX12_test_b166 post x1 x2 u_48) ∧ (r_49 = 0 → qX12_isSign (62 : Int32) u_48 (fun r_53 u_52 => ((¬ r_53 = 0 → qX12_test_b166 post x1 x2 u_52) ∧ (r_53 = 0 → qX12_isSign (61 : Int32) u_52 (fun r_57 u_56 => ((¬ r_57 = 0 → qX12_test_b166 post x1 x2 u_56) ∧ (r_57 = 0 → qX12_fails (2 : Int32) u_56 (fun r_61 u_60 => (bz r_61 ∧ post r_61 u_60)))))))))))) ∧ (s0 = 0 → post (0 : Int32) u0))
set_option maxRecDepth 100000 in
set_option maxHeartbeats 4000000 in
theorem kX12_test_b126 {C : Cx} {o0 : Nat} {a0 : Nat → Nat} (hC : Fx C cX12_test 4 RX12) (hR0 : xR C = rm 10) {post : Int32 → St → Prop} (hR : RZ C cX12_test 4 (fun u : St => (wX12 o0 a0 (xy C) u [])) (fun r u => post r u))  {x1 : Int32} {x2 : Int32} {s0 : Int32} {u0 : St} (h : qX12_test_b126 post x1 x2 s0 u0) : G C 0 0 4 (wX12 o0 a0 (xy C) u0 []) 126 [(0, .ref o0), (1, .int x1), (2, .int x2)] [.int s0] := by
  refine g_istore_n (pc := 126) (lv' := [(3, .int s0), (0, .ref o0), (1, .int x1), (2, .int x2)]) hC dX12_test_126 rfl (Nat.le_of_ble_eq_true rfl) rfl ?_
  refine g_iload_n (pc := 127) hC 0 dX12_test_127 rfl rfl ?_
  refine g_if_ne (pc := 128) (tgt := 133) hC dX12_test_128 (by decide) (fun c_47 => ?_) (fun c_47 => ?_)
  · have h := h.1 c_47
    refine g_aload_n (pc := 133) hC 1 dX12_test_133 rfl rfl ?_
    refine g_bipush (pc := 134) (v := 60) hC dX12_test_134 (by decide) ?_
    refine g_callV_i (pc := 136) (wd := fun (u : St) Y => (wX12 o0 a0 (xy C) u Y)) (F := fun Z => Z) (X := []) (As := [.int (60 : Int32)]) (rest := []) (u := u0) hC (fun _ _ => rfl) (fun _ => rfl) (ctX12_isSign h) wvX12_isSign ml_X12_167 (ci := 10) (q0 := 0) rfl rfl rfl rfl (rmok hR0 rfl) ⟨Nat.zero_le _, Nat.zero_le _⟩ rfl (Nat.le_of_ble_eq_true rfl) dX12_test_136 (fun r_49 u_48 h => ?_)
    refine g_if_ne (pc := 139) (tgt := 166) hC dX12_test_139 (by decide) (fun c_51 => ?_) (fun c_51 => ?_)
    · have h := h.1 c_51
      refine g_sub (lv' := [(0, .ref o0), (1, .int x1), (2, .int x2)]) [1, 2, 3] rfl ?_
      exact kX12_test_b166 hC hR0 hR  h
    · have h := h.2 c_51
      refine g_aload_n (pc := 142) hC 1 dX12_test_142 rfl rfl ?_
      refine g_bipush (pc := 143) (v := 62) hC dX12_test_143 (by decide) ?_
      refine g_callV_i (pc := 145) (wd := fun (u : St) Y => (wX12 o0 a0 (xy C) u Y)) (F := fun Z => Z) (X := []) (As := [.int (62 : Int32)]) (rest := []) (u := u_48) hC (fun _ _ => rfl) (fun _ => rfl) (ctX12_isSign h) wvX12_isSign ml_X12_167 (ci := 10) (q0 := 0) rfl rfl rfl rfl (rmok hR0 rfl) ⟨Nat.zero_le _, Nat.zero_le _⟩ rfl (Nat.le_of_ble_eq_true rfl) dX12_test_145 (fun r_53 u_52 h => ?_)
      refine g_if_ne (pc := 148) (tgt := 166) hC dX12_test_148 (by decide) (fun c_55 => ?_) (fun c_55 => ?_)
      · have h := h.1 c_55
        refine g_sub (lv' := [(0, .ref o0), (1, .int x1), (2, .int x2)]) [1, 2, 3] rfl ?_
        exact kX12_test_b166 hC hR0 hR  h
      · have h := h.2 c_55
        refine g_aload_n (pc := 151) hC 1 dX12_test_151 rfl rfl ?_
        refine g_bipush (pc := 152) (v := 61) hC dX12_test_152 (by decide) ?_
        refine g_callV_i (pc := 154) (wd := fun (u : St) Y => (wX12 o0 a0 (xy C) u Y)) (F := fun Z => Z) (X := []) (As := [.int (61 : Int32)]) (rest := []) (u := u_52) hC (fun _ _ => rfl) (fun _ => rfl) (ctX12_isSign h) wvX12_isSign ml_X12_167 (ci := 10) (q0 := 0) rfl rfl rfl rfl (rmok hR0 rfl) ⟨Nat.zero_le _, Nat.zero_le _⟩ rfl (Nat.le_of_ble_eq_true rfl) dX12_test_154 (fun r_57 u_56 h => ?_)
        refine g_if_ne (pc := 157) (tgt := 166) hC dX12_test_157 (by decide) (fun c_59 => ?_) (fun c_59 => ?_)
        · have h := h.1 c_59
          refine g_sub (lv' := [(0, .ref o0), (1, .int x1), (2, .int x2)]) [1, 2, 3] rfl ?_
          exact kX12_test_b166 hC hR0 hR  h
        · have h := h.2 c_59
          refine g_aload_n (pc := 160) hC 1 dX12_test_160 rfl rfl ?_
          refine g_iconst (pc := 161) (v := 2) hC dX12_test_161 (by decide) ?_
          refine g_callV_i (pc := 162) (wd := fun (u : St) Y => (wX12 o0 a0 (xy C) u Y)) (F := fun Z => Z) (X := []) (As := [.int (2 : Int32)]) (rest := []) (u := u_56) hC (fun _ _ => rfl) (fun _ => rfl) (ctX12_fails h) wvX12_fails ml_X12_170 (ci := 10) (q0 := 0) rfl rfl rfl rfl (rmok hR0 rfl) ⟨Nat.zero_le _, Nat.zero_le _⟩ rfl (Nat.le_of_ble_eq_true rfl) dX12_test_162 (fun r_61 u_60 h => ?_)
          exact hR _ _ _ u_60 dX12_test_165 h.1 h.2
  · have h := h.2 c_47
    refine g_iconst (pc := 131) (v := 0) hC dX12_test_131 (by decide) ?_
    exact hR _ _ _ u0 dX12_test_132 (Or.inl rfl) h
def qX12_test_b37  (post : Int32 → St → Prop)  (x1 : Int32) (x2 : Int32) (u0 : St) : Prop := (vp_in x1 3072 ∧ ∀ u_63 : St, u_63 = (sw u0 0 (upd (ga u0 0) (x1).toNatClampNeg ((1900 : Int32) + x2))) → qX12_ahead u_63 (fun u_64 => ((¬ x2 = (23 : Int32) → ((¬ x2 = (24 : Int32) → ((¬ x2 = (7 : Int32) → qX12_number (x1 + (1 : Int32)) (0 : Int32) (6 : Int32) u_64 (fun r_70 u_69 => qX12_test_b126 post x1 x2 r_70 u_69)) ∧ (x2 = (7 : Int32) → qX12_personTo (0 : Int32) (ga u_64 0 ((1 : Int32)).toNatClampNeg) (x1 + (1 : Int32)) (-1 : Int32) u_64 (fun r_73 u_72 => qX12_test_b126 post x1 x2 r_73 u_72)))) ∧ (x2 = (24 : Int32) → qX12_number (x1 + (1 : Int32)) (0 : Int32) (6 : Int32) u_64 (fun r_76 u_75 => (bz r_76 ∧ post r_76 u_75))))) ∧ (x2 = (23 : Int32) → qX12_number (x1 + (1 : Int32)) (0 : Int32) ((ga u_64 0 ((0 : Int32)).toNatClampNeg) - (1 : Int32)) u_64 (fun r_79 u_78 => (bz r_79 ∧ post r_79 u_78))))))
set_option maxRecDepth 100000 in
set_option maxHeartbeats 4000000 in
theorem kX12_test_b37 {C : Cx} {o0 : Nat} {a0 : Nat → Nat} (hC : Fx C cX12_test 4 RX12) (hR0 : xR C = rm 10) {post : Int32 → St → Prop} (hR : RZ C cX12_test 4 (fun u : St => (wX12 o0 a0 (xy C) u [])) (fun r u => post r u))  {x1 : Int32} {x2 : Int32} {u0 : St} (h : qX12_test_b37 post x1 x2 u0) : G C 0 0 4 (wX12 o0 a0 (xy C) u0 []) 37 [(0, .ref o0), (1, .int x1), (2, .int x2)] [] := by
  refine g_aload_n (pc := 37) hC 0 dX12_test_37 rfl rfl ?_
  refine getX12_0 (pc := 38) hC (F := fun Z => Z) (X := []) (fun _ => rfl) fl_X12_7 dX12_test_38 ?_
  refine g_iload_n (pc := 41) hC 1 dX12_test_41 rfl rfl ?_
  refine g_sipush (pc := 42) (v := 1900) hC dX12_test_42 (by decide) ?_
  refine g_iload_n (pc := 45) hC 2 dX12_test_45 rfl rfl ?_
  refine g_iadd (pc := 46) hC dX12_test_46 ?_
  refine astX12_0 (pc := 47) hC (F := fun Z => Z) (X := []) (fun _ => rfl) h.1 dX12_test_47 ?_
  have h := h.2
  refine g_st (w := fun z => (wX12 o0 a0 (xy C) z [])) (u := (sw u0 0 (upd (ga u0 0) (x1).toNatClampNeg ((1900 : Int32) + x2)))) (fun u_63 eu_63 => ?_)
  have h := h u_63 eu_63
  refine g_aload_n (pc := 48) hC 0 dX12_test_48 rfl rfl ?_
  refine g_callV_v (pc := 49) (wd := fun (u : St) Y => (wX12 o0 a0 (xy C) u Y)) (F := fun Z => Z) (X := []) (As := []) (rest := []) (u := u_63) hC (fun _ _ => rfl) (fun _ => rfl) (ctX12_ahead h) wvX12_ahead ml_X12_164 (ci := 10) (q0 := 0) rfl rfl rfl rfl (rmok hR0 rfl) ⟨Nat.zero_le _, Nat.zero_le _⟩ rfl (Nat.le_of_ble_eq_true rfl) dX12_test_49 (fun u_64 h => ?_)
  refine g_iload_n (pc := 52) hC 2 dX12_test_52 rfl rfl ?_
  refine g_bipush (pc := 53) (v := 23) hC dX12_test_53 (by decide) ?_
  refine g_icmp_ne (pc := 55) (tgt := 75) hC dX12_test_55 (by decide) (fun c_66 => ?_) (fun c_66 => ?_)
  · have h := h.1 c_66
    refine g_iload_n (pc := 75) hC 2 dX12_test_75 rfl rfl ?_
    refine g_bipush (pc := 76) (v := 24) hC dX12_test_76 (by decide) ?_
    refine g_icmp_ne (pc := 78) (tgt := 92) hC dX12_test_78 (by decide) (fun c_67 => ?_) (fun c_67 => ?_)
    · have h := h.1 c_67
      refine g_iload_n (pc := 92) hC 2 dX12_test_92 rfl rfl ?_
      refine g_bipush (pc := 93) (v := 7) hC dX12_test_93 (by decide) ?_
      refine g_icmp_ne (pc := 95) (tgt := 116) hC dX12_test_95 (by decide) (fun c_68 => ?_) (fun c_68 => ?_)
      · have h := h.1 c_68
        refine g_aload_n (pc := 116) hC 0 dX12_test_116 rfl rfl ?_
        refine g_iload_n (pc := 117) hC 1 dX12_test_117 rfl rfl ?_
        refine g_iconst (pc := 118) (v := 1) hC dX12_test_118 (by decide) ?_
        refine g_iadd (pc := 119) hC dX12_test_119 ?_
        refine g_iconst (pc := 120) (v := 0) hC dX12_test_120 (by decide) ?_
        refine g_bipush (pc := 121) (v := 6) hC dX12_test_121 (by decide) ?_
        refine g_callV_i (pc := 123) (wd := fun (u : St) Y => (wX12 o0 a0 (xy C) u Y)) (F := fun Z => Z) (X := []) (As := [.int (x1 + (1 : Int32)), .int (0 : Int32), .int (6 : Int32)]) (rest := []) (u := u_64) hC (fun _ _ => rfl) (fun _ => rfl) (ctX12_number h) wvX12_number ml_X12_194 (ci := 10) (q0 := 0) rfl rfl rfl rfl (rmok hR0 rfl) ⟨Nat.zero_le _, Nat.zero_le _⟩ rfl (Nat.le_of_ble_eq_true rfl) dX12_test_123 (fun r_70 u_69 h => ?_)
        exact kX12_test_b126 hC hR0 hR  h
      · have h := h.2 c_68
        refine g_aload_n (pc := 98) hC 0 dX12_test_98 rfl rfl ?_
        refine g_iconst (pc := 99) (v := 0) hC dX12_test_99 (by decide) ?_
        refine g_aload_n (pc := 100) hC 0 dX12_test_100 rfl rfl ?_
        refine getX12_0 (pc := 101) hC (F := fun Z => Z) (X := []) (fun _ => rfl) fl_X12_7 dX12_test_101 ?_
        refine g_iconst (pc := 104) (v := 1) hC dX12_test_104 (by decide) ?_
        refine aldX12_0 (pc := 105) hC (F := fun Z => Z) (X := []) (fun _ => rfl) (by unfold vp_in; decide) dX12_test_105 ?_
        refine g_iload_n (pc := 106) hC 1 dX12_test_106 rfl rfl ?_
        refine g_iconst (pc := 107) (v := 1) hC dX12_test_107 (by decide) ?_
        refine g_iadd (pc := 108) hC dX12_test_108 ?_
        refine g_iconst (pc := 109) (v := -1) hC dX12_test_109 (by decide) ?_
        refine g_callV_i (pc := 110) (wd := fun (u : St) Y => (wX12 o0 a0 (xy C) u Y)) (F := fun Z => Z) (X := []) (As := [.int (0 : Int32), .int (ga u_64 0 ((1 : Int32)).toNatClampNeg), .int (x1 + (1 : Int32)), .int (-1 : Int32)]) (rest := []) (u := u_64) hC (fun _ _ => rfl) (fun _ => rfl) (ctX12_personTo h) wvX12_personTo ml_X12_214 (ci := 10) (q0 := 0) rfl rfl rfl rfl (rmok hR0 rfl) ⟨Nat.zero_le _, Nat.zero_le _⟩ rfl (Nat.le_of_ble_eq_true rfl) dX12_test_110 (fun r_73 u_72 h => ?_)
        refine g_goto (pc := 113) (tgt := 126) hC dX12_test_113 (by decide) ?_
        exact kX12_test_b126 hC hR0 hR  h
    · have h := h.2 c_67
      refine g_aload_n (pc := 81) hC 0 dX12_test_81 rfl rfl ?_
      refine g_iload_n (pc := 82) hC 1 dX12_test_82 rfl rfl ?_
      refine g_iconst (pc := 83) (v := 1) hC dX12_test_83 (by decide) ?_
      refine g_iadd (pc := 84) hC dX12_test_84 ?_
      refine g_iconst (pc := 85) (v := 0) hC dX12_test_85 (by decide) ?_
      refine g_bipush (pc := 86) (v := 6) hC dX12_test_86 (by decide) ?_
      refine g_callV_i (pc := 88) (wd := fun (u : St) Y => (wX12 o0 a0 (xy C) u Y)) (F := fun Z => Z) (X := []) (As := [.int (x1 + (1 : Int32)), .int (0 : Int32), .int (6 : Int32)]) (rest := []) (u := u_64) hC (fun _ _ => rfl) (fun _ => rfl) (ctX12_number h) wvX12_number ml_X12_194 (ci := 10) (q0 := 0) rfl rfl rfl rfl (rmok hR0 rfl) ⟨Nat.zero_le _, Nat.zero_le _⟩ rfl (Nat.le_of_ble_eq_true rfl) dX12_test_88 (fun r_76 u_75 h => ?_)
      exact hR _ _ _ u_75 dX12_test_91 h.1 h.2
  · have h := h.2 c_66
    refine g_aload_n (pc := 58) hC 0 dX12_test_58 rfl rfl ?_
    refine g_iload_n (pc := 59) hC 1 dX12_test_59 rfl rfl ?_
    refine g_iconst (pc := 60) (v := 1) hC dX12_test_60 (by decide) ?_
    refine g_iadd (pc := 61) hC dX12_test_61 ?_
    refine g_iconst (pc := 62) (v := 0) hC dX12_test_62 (by decide) ?_
    refine g_aload_n (pc := 63) hC 0 dX12_test_63 rfl rfl ?_
    refine getX12_0 (pc := 64) hC (F := fun Z => Z) (X := []) (fun _ => rfl) fl_X12_7 dX12_test_64 ?_
    refine g_iconst (pc := 67) (v := 0) hC dX12_test_67 (by decide) ?_
    refine aldX12_0 (pc := 68) hC (F := fun Z => Z) (X := []) (fun _ => rfl) (by unfold vp_in; decide) dX12_test_68 ?_
    refine g_iconst (pc := 69) (v := 1) hC dX12_test_69 (by decide) ?_
    refine g_isub (pc := 70) hC dX12_test_70 ?_
    refine g_callV_i (pc := 71) (wd := fun (u : St) Y => (wX12 o0 a0 (xy C) u Y)) (F := fun Z => Z) (X := []) (As := [.int (x1 + (1 : Int32)), .int (0 : Int32), .int ((ga u_64 0 ((0 : Int32)).toNatClampNeg) - (1 : Int32))]) (rest := []) (u := u_64) hC (fun _ _ => rfl) (fun _ => rfl) (ctX12_number h) wvX12_number ml_X12_194 (ci := 10) (q0 := 0) rfl rfl rfl rfl (rmok hR0 rfl) ⟨Nat.zero_le _, Nat.zero_le _⟩ rfl (Nat.le_of_ble_eq_true rfl) dX12_test_71 (fun r_79 u_78 h => ?_)
    exact hR _ _ _ u_78 dX12_test_74 h.1 h.2
def qX12_test (x1 : Int32) (u0 : St) (post : Int32 → St → Prop) : Prop := qX12_inWords u0 (fun r_82 u_81 => ((r_82 = (23 : Int32) → qX12_test_b37 post x1 r_82 u_81) ∧ (¬ r_82 = (23 : Int32) → ((r_82 = (24 : Int32) → qX12_test_b37 post x1 r_82 u_81) ∧ (¬ r_82 = (24 : Int32) → ((r_82 = (7 : Int32) → qX12_test_b37 post x1 r_82 u_81) ∧ (¬ r_82 = (7 : Int32) → ((r_82 = (12 : Int32) → qX12_test_b37 post x1 r_82 u_81) ∧ (¬ r_82 = (12 : Int32) → qX12_fails (2 : Int32) u_81 (fun r_89 u_88 => (bz r_89 ∧ post r_89 u_88)))))))))))
set_option maxRecDepth 100000 in
set_option maxHeartbeats 4000000 in
theorem kX12_test {C : Cx} {o0 : Nat} {a0 : Nat → Nat} (hC : Fx C cX12_test 4 RX12) (hR0 : xR C = rm 10) {post : Int32 → St → Prop} (hR : RZ C cX12_test 4 (fun u : St => (wX12 o0 a0 (xy C) u [])) (fun r u => post r u)) {x1 : Int32} {u0 : St} (h : qX12_test x1 u0 post) : G C 0 0 4 (wX12 o0 a0 (xy C) u0 []) 0 [(0, .ref o0), (1, .int x1)] [] := by
  refine g_aload_n (pc := 0) hC 0 dX12_test_0 rfl rfl ?_
  refine g_ldcS (pc := 1) hC dX12_test_1 ?_
  refine g_callV_i (pc := 3) (wd := fun (u : St) Y => (wX12 o0 a0 (xy C) u Y)) (F := fun Z => Z) (X := []) (As := [.ref (xk C 26)]) (rest := []) (u := u0) hC (fun _ _ => rfl) (fun _ => rfl) (ctX12_inWords h) wvX12_inWords ml_X12_173 (ci := 10) (q0 := 0) rfl rfl rfl rfl (rmok hR0 rfl) ⟨Nat.zero_le _, Nat.zero_le _⟩ rfl (Nat.le_of_ble_eq_true rfl) dX12_test_3 (fun r_82 u_81 h => ?_)
  refine g_istore_n (pc := 6) (lv' := [(2, .int r_82), (0, .ref o0), (1, .int x1)]) hC dX12_test_6 rfl (Nat.le_of_ble_eq_true rfl) rfl ?_
  refine g_iload_n (pc := 7) hC 0 dX12_test_7 rfl rfl ?_
  refine g_bipush (pc := 8) (v := 23) hC dX12_test_8 (by decide) ?_
  refine g_icmp_eq (pc := 10) (tgt := 37) hC dX12_test_10 (by decide) (fun c_84 => ?_) (fun c_84 => ?_)
  · have h := h.1 c_84
    refine g_sub (lv' := [(0, .ref o0), (1, .int x1), (2, .int r_82)]) [1, 2, 0] rfl ?_
    exact kX12_test_b37 hC hR0 hR  h
  · have h := h.2 c_84
    refine g_iload_n (pc := 13) hC 0 dX12_test_13 rfl rfl ?_
    refine g_bipush (pc := 14) (v := 24) hC dX12_test_14 (by decide) ?_
    refine g_icmp_eq (pc := 16) (tgt := 37) hC dX12_test_16 (by decide) (fun c_85 => ?_) (fun c_85 => ?_)
    · have h := h.1 c_85
      refine g_sub (lv' := [(0, .ref o0), (1, .int x1), (2, .int r_82)]) [1, 2, 0] rfl ?_
      exact kX12_test_b37 hC hR0 hR  h
    · have h := h.2 c_85
      refine g_iload_n (pc := 19) hC 0 dX12_test_19 rfl rfl ?_
      refine g_bipush (pc := 20) (v := 7) hC dX12_test_20 (by decide) ?_
      refine g_icmp_eq (pc := 22) (tgt := 37) hC dX12_test_22 (by decide) (fun c_86 => ?_) (fun c_86 => ?_)
      · have h := h.1 c_86
        refine g_sub (lv' := [(0, .ref o0), (1, .int x1), (2, .int r_82)]) [1, 2, 0] rfl ?_
        exact kX12_test_b37 hC hR0 hR  h
      · have h := h.2 c_86
        refine g_iload_n (pc := 25) hC 0 dX12_test_25 rfl rfl ?_
        refine g_bipush (pc := 26) (v := 12) hC dX12_test_26 (by decide) ?_
        refine g_icmp_eq (pc := 28) (tgt := 37) hC dX12_test_28 (by decide) (fun c_87 => ?_) (fun c_87 => ?_)
        · have h := h.1 c_87
          refine g_sub (lv' := [(0, .ref o0), (1, .int x1), (2, .int r_82)]) [1, 2, 0] rfl ?_
          exact kX12_test_b37 hC hR0 hR  h
        · have h := h.2 c_87
          refine g_aload_n (pc := 31) hC 1 dX12_test_31 rfl rfl ?_
          refine g_iconst (pc := 32) (v := 2) hC dX12_test_32 (by decide) ?_
          refine g_callV_i (pc := 33) (wd := fun (u : St) Y => (wX12 o0 a0 (xy C) u Y)) (F := fun Z => Z) (X := []) (As := [.int (2 : Int32)]) (rest := []) (u := u_81) hC (fun _ _ => rfl) (fun _ => rfl) (ctX12_fails h) wvX12_fails ml_X12_170 (ci := 10) (q0 := 0) rfl rfl rfl rfl (rmok hR0 rfl) ⟨Nat.zero_le _, Nat.zero_le _⟩ rfl (Nat.le_of_ble_eq_true rfl) dX12_test_33 (fun r_89 u_88 h => ?_)
          exact hR _ _ _ u_88 dX12_test_36 h.1 h.2
theorem ctX12_test {l : Launch} {D : va_G} {cy : Nat → ClassId} {kd : Nat → Nat} {o0 : Nat} {a0 : Nat → Nat} {x1 : Int32} {u0 : St} {post : Int32 → St → Prop} (h : qX12_test x1 u0 post) : CtI l D cy kd yX12_test cX12_test 4 10 .boolean [.ref o0, .int x1] (fun u : St => (wX12 o0 a0 cy u [])) u0 (fun r u => post r u) := met_z (by decide) (Nat.le_of_ble_eq_true rfl) (fun C e1 e2 e3 e4 e5 hC hR => by subst e1 e2 e3 e4; exact kX12_test hC e5 hR h)
