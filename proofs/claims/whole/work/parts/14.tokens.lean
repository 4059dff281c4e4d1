/-! Tokens -/
theorem dX8_isBlank_0 : decode cX8_isBlank 0 = .ok (.iload_n 0, 1) := by decide +kernel
theorem dX8_isBlank_1 : decode cX8_isBlank 1 = .ok (.bipush 10, 2) := by decide +kernel
theorem dX8_isBlank_3 : decode cX8_isBlank 3 = .ok (.if_icmp .eq 9, 3) := by decide +kernel
theorem dX8_isBlank_6 : decode cX8_isBlank 6 = .ok (.iload_n 0, 1) := by decide +kernel
theorem dX8_isBlank_7 : decode cX8_isBlank 7 = .ok (.bipush 32, 2) := by decide +kernel
theorem dX8_isBlank_9 : decode cX8_isBlank 9 = .ok (.if_icmp .ne 7, 3) := by decide +kernel
theorem dX8_isBlank_12 : decode cX8_isBlank 12 = .ok (.iconst 1, 1) := by decide +kernel
theorem dX8_isBlank_13 : decode cX8_isBlank 13 = .ok (.goto 4, 3) := by decide +kernel
theorem dX8_isBlank_16 : decode cX8_isBlank 16 = .ok (.iconst 0, 1) := by decide +kernel
theorem dX8_isBlank_17 : decode cX8_isBlank 17 = .ok (.ireturn, 1) := by decide +kernel
def qX8_isBlank_b17  (post : Int32 → Prop)  (s0 : Int32) : Prop := (bz s0 ∧ post s0 )
set_option maxRecDepth 100000 in
set_option maxHeartbeats 4000000 in
theorem kX8_isBlank_b17 {C : Cx}  (hC : Fx C cX8_isBlank 1 RX8) (hR0 : xR C = rm 1) {post : Int32 → Prop} (hR : RZ C cX8_isBlank 1 (fun _ : Unit => ([] : va_W)) (fun r _ => post r ))  {s0 : Int32} (h : qX8_isBlank_b17 post s0) : G C 0 0 1 [] 17 [] [.int s0] := by
  exact hR _ _ _ () dX8_isBlank_17 h.1 h.2
def qX8_isBlank_b12  (post : Int32 → Prop)   : Prop := qX8_isBlank_b17 post (1 : Int32)
set_option maxRecDepth 100000 in
set_option maxHeartbeats 4000000 in
theorem kX8_isBlank_b12 {C : Cx}  (hC : Fx C cX8_isBlank 1 RX8) (hR0 : xR C = rm 1) {post : Int32 → Prop} (hR : RZ C cX8_isBlank 1 (fun _ : Unit => ([] : va_W)) (fun r _ => post r ))   (h : qX8_isBlank_b12 post) : G C 0 0 1 [] 12 [] [] := by
  refine g_iconst (pc := 12) (v := 1) hC dX8_isBlank_12 (by decide) ?_
  refine g_goto (pc := 13) (tgt := 17) hC dX8_isBlank_13 (by decide) ?_
  exact kX8_isBlank_b17 hC hR0 hR  h
def qX8_isBlank (x0 : Int32)  (post : Int32 → Prop) : Prop := ((x0 = (10 : Int32) → qX8_isBlank_b12 post ) ∧ (¬ x0 = (10 : Int32) → ((¬ x0 = (32 : Int32) → qX8_isBlank_b17 post (0 : Int32)) ∧ (x0 = (32 : Int32) → qX8_isBlank_b12 post ))))
set_option maxRecDepth 100000 in
set_option maxHeartbeats 4000000 in
theorem kX8_isBlank {C : Cx}  (hC : Fx C cX8_isBlank 1 RX8) (hR0 : xR C = rm 1) {post : Int32 → Prop} (hR : RZ C cX8_isBlank 1 (fun _ : Unit => ([] : va_W)) (fun r _ => post r )) {x0 : Int32}  (h : qX8_isBlank x0  post) : G C 0 0 1 [] 0 [(0, .int x0)] [] := by
  refine g_iload_n (pc := 0) hC 0 dX8_isBlank_0 rfl rfl ?_
  refine g_bipush (pc := 1) (v := 10) hC dX8_isBlank_1 (by decide) ?_
  refine g_icmp_eq (pc := 3) (tgt := 12) hC dX8_isBlank_3 (by decide) (fun c_1 => ?_) (fun c_1 => ?_)
  · have h := h.1 c_1
    refine g_sub (lv' := []) [] rfl ?_
    exact kX8_isBlank_b12 hC hR0 hR  h
  · have h := h.2 c_1
    refine g_iload_n (pc := 6) hC 0 dX8_isBlank_6 rfl rfl ?_
    refine g_bipush (pc := 7) (v := 32) hC dX8_isBlank_7 (by decide) ?_
    refine g_icmp_ne (pc := 9) (tgt := 16) hC dX8_isBlank_9 (by decide) (fun c_2 => ?_) (fun c_2 => ?_)
    · have h := h.1 c_2
      refine g_iconst (pc := 16) (v := 0) hC dX8_isBlank_16 (by decide) ?_
      refine g_sub (lv' := []) [] rfl ?_
      exact kX8_isBlank_b17 hC hR0 hR  h
    · have h := h.2 c_2
      refine g_sub (lv' := []) [] rfl ?_
      exact kX8_isBlank_b12 hC hR0 hR  h
theorem ctX8_isBlank {l : Launch} {D : va_G} {cy : Nat → ClassId} {kd : Nat → Nat}  {x0 : Int32}  {post : Int32 → Prop} (h : qX8_isBlank x0  post) : CtI l D cy kd yX8_isBlank cX8_isBlank 1 1 .boolean [.int x0] (fun _ : Unit => ([] : va_W)) () (fun r _ => post r ) := met_z (by decide) (Nat.le_of_ble_eq_true rfl) (fun C e1 e2 e3 e4 e5 hC hR => by subst e1 e2 e3 e4; exact kX8_isBlank hC e5 hR h)
theorem dX8_isLetter_0 : decode cX8_isLetter 0 = .ok (.iload_n 0, 1) := by decide +kernel
theorem dX8_isLetter_1 : decode cX8_isLetter 1 = .ok (.bipush 97, 2) := by decide +kernel
theorem dX8_isLetter_3 : decode cX8_isLetter 3 = .ok (.if_icmp .lt 13, 3) := by decide +kernel
theorem dX8_isLetter_6 : decode cX8_isLetter 6 = .ok (.iload_n 0, 1) := by decide +kernel
theorem dX8_isLetter_7 : decode cX8_isLetter 7 = .ok (.bipush 122, 2) := by decide +kernel
theorem dX8_isLetter_9 : decode cX8_isLetter 9 = .ok (.if_icmp .gt 7, 3) := by decide +kernel
theorem dX8_isLetter_12 : decode cX8_isLetter 12 = .ok (.iconst 1, 1) := by decide +kernel
theorem dX8_isLetter_13 : decode cX8_isLetter 13 = .ok (.goto 4, 3) := by decide +kernel
theorem dX8_isLetter_16 : decode cX8_isLetter 16 = .ok (.iconst 0, 1) := by decide +kernel
theorem dX8_isLetter_17 : decode cX8_isLetter 17 = .ok (.ireturn, 1) := by decide +kernel
def qX8_isLetter_b17  (post : Int32 → Prop)  (s0 : Int32) : Prop := (bz s0 ∧ post s0 )
set_option maxRecDepth 100000 in
set_option maxHeartbeats 4000000 in
theorem kX8_isLetter_b17 {C : Cx}  (hC : Fx C cX8_isLetter 1 RX8) (hR0 : xR C = rm 1) {post : Int32 → Prop} (hR : RZ C cX8_isLetter 1 (fun _ : Unit => ([] : va_W)) (fun r _ => post r ))  {s0 : Int32} (h : qX8_isLetter_b17 post s0) : G C 0 0 1 [] 17 [] [.int s0] := by
  exact hR _ _ _ () dX8_isLetter_17 h.1 h.2
def qX8_isLetter_b16  (post : Int32 → Prop)   : Prop := qX8_isLetter_b17 post (0 : Int32)
set_option maxRecDepth 100000 in
set_option maxHeartbeats 4000000 in
theorem kX8_isLetter_b16 {C : Cx}  (hC : Fx C cX8_isLetter 1 RX8) (hR0 : xR C = rm 1) {post : Int32 → Prop} (hR : RZ C cX8_isLetter 1 (fun _ : Unit => ([] : va_W)) (fun r _ => post r ))   (h : qX8_isLetter_b16 post) : G C 0 0 1 [] 16 [] [] := by
  refine g_iconst (pc := 16) (v := 0) hC dX8_isLetter_16 (by decide) ?_
  exact kX8_isLetter_b17 hC hR0 hR  h
def qX8_isLetter (x0 : Int32)  (post : Int32 → Prop) : Prop := ((x0 < (97 : Int32) → qX8_isLetter_b16 post ) ∧ (¬ x0 < (97 : Int32) → (((122 : Int32) < x0 → qX8_isLetter_b16 post ) ∧ (¬ (122 : Int32) < x0 → qX8_isLetter_b17 post (1 : Int32)))))
set_option maxRecDepth 100000 in
set_option maxHeartbeats 4000000 in
theorem kX8_isLetter {C : Cx}  (hC : Fx C cX8_isLetter 1 RX8) (hR0 : xR C = rm 1) {post : Int32 → Prop} (hR : RZ C cX8_isLetter 1 (fun _ : Unit => ([] : va_W)) (fun r _ => post r )) {x0 : Int32}  (h : qX8_isLetter x0  post) : G C 0 0 1 [] 0 [(0, .int x0)] [] := by
  refine g_iload_n (pc := 0) hC 0 dX8_isLetter_0 rfl rfl ?_
  refine g_bipush (pc := 1) (v := 97) hC dX8_isLetter_1 (by decide) ?_
  refine g_icmp_lt (pc := 3) (tgt := 16) hC dX8_isLetter_3 (by decide) (fun c_1 => ?_) (fun c_1 => ?_)
  · have h := h.1 c_1
    refine g_sub (lv' := []) [] rfl ?_
    exact kX8_isLetter_b16 hC hR0 hR  h
  · have h := h.2 c_1
    refine g_iload_n (pc := 6) hC 0 dX8_isLetter_6 rfl rfl ?_
    refine g_bipush (pc := 7) (v := 122) hC dX8_isLetter_7 (by decide) ?_
    refine g_icmp_gt (pc := 9) (tgt := 16) hC dX8_isLetter_9 (by decide) (fun c_2 => ?_) (fun c_2 => ?_)
    · have h := h.1 c_2
      refine g_sub (lv' := []) [] rfl ?_
      exact kX8_isLetter_b16 hC hR0 hR  h
    · have h := h.2 c_2
      refine g_iconst (pc := 12) (v := 1) hC dX8_isLetter_12 (by decide) ?_
      refine g_goto (pc := 13) (tgt := 17) hC dX8_isLetter_13 (by decide) ?_
      refine g_sub (lv' := []) [] rfl ?_
      exact kX8_isLetter_b17 hC hR0 hR  h
theorem ctX8_isLetter {l : Launch} {D : va_G} {cy : Nat → ClassId} {kd : Nat → Nat}  {x0 : Int32}  {post : Int32 → Prop} (h : qX8_isLetter x0  post) : CtI l D cy kd yX8_isLetter cX8_isLetter 1 1 .boolean [.int x0] (fun _ : Unit => ([] : va_W)) () (fun r _ => post r ) := met_z (by decide) (Nat.le_of_ble_eq_true rfl) (fun C e1 e2 e3 e4 e5 hC hR => by subst e1 e2 e3 e4; exact kX8_isLetter hC e5 hR h)
theorem dX8_readWord_0 : decode cX8_readWord 0 = .ok (.aload_n 0, 1) := by decide +kernel
theorem dX8_readWord_1 : decode cX8_readWord 1 = .ok (.iconst 1, 1) := by decide +kernel
theorem dX8_readWord_2 : decode cX8_readWord 2 = .ok (.putfield 41, 3) := by decide +kernel
theorem dX8_readWord_5 : decode cX8_readWord 5 = .ok (.aload_n 0, 1) := by decide +kernel
theorem dX8_readWord_6 : decode cX8_readWord 6 = .ok (.lconst 0, 1) := by decide +kernel
theorem dX8_readWord_7 : decode cX8_readWord 7 = .ok (.putfield 60, 3) := by decide +kernel
theorem dX8_readWord_10 : decode cX8_readWord 10 = .ok (.aload_n 0, 1) := by decide +kernel
theorem dX8_readWord_11 : decode cX8_readWord 11 = .ok (.getfield 38, 3) := by decide +kernel
theorem dX8_readWord_14 : decode cX8_readWord 14 = .ok (.istore_n 1, 1) := by decide +kernel
theorem dX8_readWord_15 : decode cX8_readWord 15 = .ok (.iload_n 1, 1) := by decide +kernel
theorem dX8_readWord_16 : decode cX8_readWord 16 = .ok (.aload_n 0, 1) := by decide +kernel
theorem dX8_readWord_17 : decode cX8_readWord 17 = .ok (.getfield 21, 3) := by decide +kernel
theorem dX8_readWord_20 : decode cX8_readWord 20 = .ok (.if_icmp .ge 70, 3) := by decide +kernel
theorem dX8_readWord_23 : decode cX8_readWord 23 = .ok (.aload_n 0, 1) := by decide +kernel
theorem dX8_readWord_24 : decode cX8_readWord 24 = .ok (.getfield 9, 3) := by decide +kernel
theorem dX8_readWord_27 : decode cX8_readWord 27 = .ok (.iload_n 1, 1) := by decide +kernel
theorem dX8_readWord_28 : decode cX8_readWord 28 = .ok (.baload, 1) := by decide +kernel
theorem dX8_readWord_29 : decode cX8_readWord 29 = .ok (.invokestatic 44, 3) := by decide +kernel
theorem dX8_readWord_32 : decode cX8_readWord 32 = .ok (.ifCond .eq 58, 3) := by decide +kernel
theorem dX8_readWord_35 : decode cX8_readWord 35 = .ok (.aload_n 0, 1) := by decide +kernel
theorem dX8_readWord_36 : decode cX8_readWord 36 = .ok (.iload_n 1, 1) := by decide +kernel
theorem dX8_readWord_37 : decode cX8_readWord 37 = .ok (.aload_n 0, 1) := by decide +kernel
theorem dX8_readWord_38 : decode cX8_readWord 38 = .ok (.getfield 38, 3) := by decide +kernel
theorem dX8_readWord_41 : decode cX8_readWord 41 = .ok (.isub, 1) := by decide +kernel
theorem dX8_readWord_42 : decode cX8_readWord 42 = .ok (.bipush 8, 2) := by decide +kernel
theorem dX8_readWord_44 : decode cX8_readWord 44 = .ok (.if_icmp .lt 9, 3) := by decide +kernel
theorem dX8_readWord_47 : decode cX8_readWord 47 = .ok (.ldc2_w 64, 3) := by decide +kernel
theorem dX8_readWord_50 : decode cX8_readWord 50 = .ok (.goto 24, 3) := by decide +kernel
theorem dX8_readWord_53 : decode cX8_readWord 53 = .ok (.aload_n 0, 1) := by decide +kernel
theorem dX8_readWord_54 : decode cX8_readWord 54 = .ok (.getfield 60, 3) := by decide +kernel
theorem dX8_readWord_57 : decode cX8_readWord 57 = .ok (.ldc2_w 66, 3) := by decide +kernel
theorem dX8_readWord_60 : decode cX8_readWord 60 = .ok (.lmul, 1) := by decide +kernel
theorem dX8_readWord_61 : decode cX8_readWord 61 = .ok (.aload_n 0, 1) := by decide +kernel
theorem dX8_readWord_62 : decode cX8_readWord 62 = .ok (.getfield 9, 3) := by decide +kernel
theorem dX8_readWord_65 : decode cX8_readWord 65 = .ok (.iload_n 1, 1) := by decide +kernel
theorem dX8_readWord_66 : decode cX8_readWord 66 = .ok (.baload, 1) := by decide +kernel
theorem dX8_readWord_67 : decode cX8_readWord 67 = .ok (.bipush 97, 2) := by decide +kernel
theorem dX8_readWord_69 : decode cX8_readWord 69 = .ok (.isub, 1) := by decide +kernel
theorem dX8_readWord_70 : decode cX8_readWord 70 = .ok (.iconst 1, 1) := by decide +kernel
theorem dX8_readWord_71 : decode cX8_readWord 71 = .ok (.iadd, 1) := by decide +kernel
theorem dX8_readWord_72 : decode cX8_readWord 72 = .ok (.i2l, 1) := by decide +kernel
theorem dX8_readWord_73 : decode cX8_readWord 73 = .ok (.ladd, 1) := by decide +kernel
theorem dX8_readWord_74 : decode cX8_readWord 74 = .ok (.putfield 60, 3) := by decide +kernel
theorem dX8_readWord_77 : decode cX8_readWord 77 = .ok (.aload_n 0, 1) := by decide +kernel
theorem dX8_readWord_78 : decode cX8_readWord 78 = .ok (.iload_n 1, 1) := by decide +kernel
theorem dX8_readWord_79 : decode cX8_readWord 79 = .ok (.iconst 1, 1) := by decide +kernel
theorem dX8_readWord_80 : decode cX8_readWord 80 = .ok (.iadd, 1) := by decide +kernel
theorem dX8_readWord_81 : decode cX8_readWord 81 = .ok (.putfield 25, 3) := by decide +kernel
theorem dX8_readWord_84 : decode cX8_readWord 84 = .ok (.iinc 1 1, 3) := by decide +kernel
theorem dX8_readWord_87 : decode cX8_readWord 87 = .ok (.goto (-72), 3) := by decide +kernel
theorem dX8_readWord_90 : decode cX8_readWord 90 = .ok (.return_, 1) := by decide +kernel
def qX8_readWord_b74  (post : St → St → Prop) (K15 : Int32 → St → St → Prop) (x1 : Int32) (s0 : Int64) (u0 : St) (u1 : St) : Prop := ∀ u_8 : St, u_8 = (sj u0 6 s0) → ∀ u_9 : St, u_9 = (si u_8 2 (x1 + (1 : Int32))) → ∀ x1_10 : Int32, x1_10 = x1 + (1 : Int32) → K15 x1_10 u_9 u1
set_option maxRecDepth 100000 in
set_option maxHeartbeats 4000000 in
theorem kX8_readWord_b74 {C : Cx} {o0 : Nat} {a0 : Nat → Nat} (hC : Fx C cX8_readWord 2 RX8) (hR0 : xR C = rm 2) {post : St → St → Prop} (hR : RV C cX8_readWord 2 (fun u : St × St => (wX8 o0 a0 (xy C) u.1 (wT (a0 0) (xy C) u.2 []))) (fun u => post u.1 u.2)) {K15 : Int32 → St → St → Prop} (hK15 : ∀ (x1 : Int32) (u0 : St) (u1 : St), K15 x1 u0 u1 → G C 0 0 2 (wX8 o0 a0 (xy C) u0 (wT (a0 0) (xy C) u1 [])) 15 [(0, .ref o0), (1, .int x1)] []) {x1 : Int32} {s0 : Int64} {u0 : St} {u1 : St} (h : qX8_readWord_b74 post K15 x1 s0 u0 u1) : G C 0 0 2 (wX8 o0 a0 (xy C) u0 (wT (a0 0) (xy C) u1 [])) 74 [(0, .ref o0), (1, .int x1)] [.long s0, .ref o0] := by
  refine putX8_6 (pc := 74) hC (F := fun Z => Z) (X := []) (fun _ => rfl) fl_X8_60 dX8_readWord_74 ?_
  refine g_st (w := fun z => (wX8 o0 a0 (xy C) z (wT (a0 0) (xy C) u1 []))) (u := (sj u0 6 s0)) (fun u_8 eu_8 => ?_)
  have h := h u_8 eu_8
  refine g_aload_n (pc := 77) hC 0 dX8_readWord_77 rfl rfl ?_
  refine g_iload_n (pc := 78) hC 1 dX8_readWord_78 rfl rfl ?_
  refine g_iconst (pc := 79) (v := 1) hC dX8_readWord_79 (by decide) ?_
  refine g_iadd (pc := 80) hC dX8_readWord_80 ?_
  refine putX8_2 (pc := 81) hC (F := fun Z => Z) (X := []) (fun _ => rfl) fl_X8_25 dX8_readWord_81 ?_
  refine g_st (w := fun z => (wX8 o0 a0 (xy C) z (wT (a0 0) (xy C) u1 []))) (u := (si u_8 2 (x1 + (1 : Int32)))) (fun u_9 eu_9 => ?_)
  have h := h u_9 eu_9
  obtain ⟨x1_10, ex1_10⟩ : ∃ z : Int32, z = x1 + (1 : Int32) := ⟨_, rfl⟩
  have h := h x1_10 ex1_10
  refine g_iinc (pc := 84) (v := x1_10) (lv' := [(1, .int x1_10), (0, .ref o0)]) hC 1 dX8_readWord_84 rfl (by rw [ex1_10]; rfl) (Nat.le_of_ble_eq_true rfl) rfl ?_
  refine g_goto (pc := 87) (tgt := 15) hC dX8_readWord_87 (by decide) ?_
  refine g_sub (lv' := [(0, .ref o0), (1, .int x1_10)]) [1, 0] rfl ?_
  exact hK15 _ _ _ h
def qX8_readWord_b90  (post : St → St → Prop)  (u0 : St) (u1 : St) : Prop := post u0 u1
set_option maxRecDepth 100000 in
set_option maxHeartbeats 4000000 in
theorem kX8_readWord_b90 {C : Cx} {o0 : Nat} {a0 : Nat → Nat} (hC : Fx C cX8_readWord 2 RX8) (hR0 : xR C = rm 2) {post : St → St → Prop} (hR : RV C cX8_readWord 2 (fun u : St × St => (wX8 o0 a0 (xy C) u.1 (wT (a0 0) (xy C) u.2 []))) (fun u => post u.1 u.2))  {u0 : St} {u1 : St} (h : qX8_readWord_b90 post u0 u1) : G C 0 0 2 (wX8 o0 a0 (xy C) u0 (wT (a0 0) (xy C) u1 [])) 90 [] [] := by
  exact hR _ _ (u0, u1) dX8_readWord_90 h
def qX8_readWord_l15  (post : St → St → Prop) (K15 : Int32 → St → St → Prop) (x1 : Int32) (u0 : St) (u1 : St) : Prop := (((gi u0 1) ≤ x1 → qX8_readWord_b90 post u0 u1) ∧ (¬ (gi u0 1) ≤ x1 → (vp_in x1 900 ∧ qX8_isLetter (ga u1 0 (x1).toNatClampNeg) (fun r_12 => ((r_12 = 0 → qX8_readWord_b90 post u0 u1) ∧ (¬ r_12 = 0 → (((x1 - (gi u0 7)) < (8 : Int32) → (vp_in x1 900 ∧ qX8_readWord_b74 post K15 x1 (((gj u0 6) * (32 : Int64)) + ((((ga u1 0 (x1).toNatClampNeg) - (97 : Int32)) + (1 : Int32))).toInt64) u0 u1)) ∧ (¬ (x1 - (gi u0 7)) < (8 : Int32) → qX8_readWord_b74 post K15 x1 (-1 : Int64) u0 u1))))))))
set_option maxRecDepth 100000 in
set_option maxHeartbeats 4000000 in
theorem kX8_readWord_l15 {C : Cx} {o0 : Nat} {a0 : Nat → Nat} (hC : Fx C cX8_readWord 2 RX8) (hR0 : xR C = rm 2) {post : St → St → Prop} (hR : RV C cX8_readWord 2 (fun u : St × St => (wX8 o0 a0 (xy C) u.1 (wT (a0 0) (xy C) u.2 []))) (fun u => post u.1 u.2))  {K15 : Int32 → St → St → Prop} (hK15 : ∀ (x1 : Int32) (u0 : St) (u1 : St), K15 x1 u0 u1 → G C 0 0 2 (wX8 o0 a0 (xy C) u0 (wT (a0 0) (xy C) u1 [])) 15 [(0, .ref o0), (1, .int x1)] []) {x1 : Int32} {u0 : St} {u1 : St} (h : qX8_readWord_l15 post K15 x1 u0 u1) : G C 0 0 2 (wX8 o0 a0 (xy C) u0 (wT (a0 0) (xy C) u1 [])) 15 [(0, .ref o0), (1, .int x1)] [] := by
  refine g_iload_n (pc := 15) hC 1 dX8_readWord_15 rfl rfl ?_
  refine g_aload_n (pc := 16) hC 0 dX8_readWord_16 rfl rfl ?_
  refine getX8_1 (pc := 17) hC (F := fun Z => Z) (X := []) (fun _ => rfl) fl_X8_21 dX8_readWord_17 ?_
  refine g_icmp_ge (pc := 20) (tgt := 90) hC dX8_readWord_20 (by decide) (fun c_11 => ?_) (fun c_11 => ?_)
  · have h := h.1 c_11
    refine g_sub (lv' := []) [] rfl ?_
    exact kX8_readWord_b90 hC hR0 hR  h
  · have h := h.2 c_11
    refine g_aload_n (pc := 23) hC 0 dX8_readWord_23 rfl rfl ?_
    refine getX8_0 (pc := 24) hC (F := fun Z => Z) (X := []) (fun _ => rfl) fl_X8_9 dX8_readWord_24 ?_
    refine g_iload_n (pc := 27) hC 1 dX8_readWord_27 rfl rfl ?_
    refine aldT (pc := 28) hC (F := fun Z => (wX8 o0 a0 (xy C) u0 Z)) (X := (wX8 o0 a0 (xy C) u0 [])) (fun _ => rfl) h.1 dX8_readWord_28 ?_
    have h := h.2
    refine g_callS_i (pc := 29) (wd := fun (_ : Unit) Y => Y) (F := fun Z => Z) (X := []) (As := [.int (ga u1 0 (x1).toNatClampNeg)]) (rest := []) (u := ()) hC (fun _ _ => rfl) (fun _ => rfl) (ctX8_isLetter h) wvX8_isLetter ml_X8_44 rfl (rmok hR0 rfl) ⟨Nat.zero_le _, Nat.zero_le _⟩ rfl (Nat.le_of_ble_eq_true rfl) dX8_readWord_29 (fun r_12 u_13 h => ?_)
    refine g_if_eq (pc := 32) (tgt := 90) hC dX8_readWord_32 (by decide) (fun c_14 => ?_) (fun c_14 => ?_)
    · have h := h.1 c_14
      refine g_sub (lv' := []) [] rfl ?_
      exact kX8_readWord_b90 hC hR0 hR  h
    · have h := h.2 c_14
      refine g_aload_n (pc := 35) hC 0 dX8_readWord_35 rfl rfl ?_
      refine g_iload_n (pc := 36) hC 1 dX8_readWord_36 rfl rfl ?_
      refine g_aload_n (pc := 37) hC 0 dX8_readWord_37 rfl rfl ?_
      refine getX8_7 (pc := 38) hC (F := fun Z => Z) (X := []) (fun _ => rfl) fl_X8_38 dX8_readWord_38 ?_
      refine g_isub (pc := 41) hC dX8_readWord_41 ?_
      refine g_bipush (pc := 42) (v := 8) hC dX8_readWord_42 (by decide) ?_
      refine g_icmp_lt (pc := 44) (tgt := 53) hC dX8_readWord_44 (by decide) (fun c_15 => ?_) (fun c_15 => ?_)
      · have h := h.1 c_15
        refine g_aload_n (pc := 53) hC 0 dX8_readWord_53 rfl rfl ?_
        refine getX8_6 (pc := 54) hC (F := fun Z => Z) (X := []) (fun _ => rfl) fl_X8_60 dX8_readWord_54 ?_
        refine g_ldc2 (pc := 57) hC cn_X8_66 dX8_readWord_57 ?_
        refine g_lmul (pc := 60) hC dX8_readWord_60 ?_
        refine g_aload_n (pc := 61) hC 0 dX8_readWord_61 rfl rfl ?_
        refine getX8_0 (pc := 62) hC (F := fun Z => Z) (X := []) (fun _ => rfl) fl_X8_9 dX8_readWord_62 ?_
        refine g_iload_n (pc := 65) hC 1 dX8_readWord_65 rfl rfl ?_
        refine aldT (pc := 66) hC (F := fun Z => (wX8 o0 a0 (xy C) u0 Z)) (X := (wX8 o0 a0 (xy C) u0 [])) (fun _ => rfl) h.1 dX8_readWord_66 ?_
        have h := h.2
        refine g_bipush (pc := 67) (v := 97) hC dX8_readWord_67 (by decide) ?_
        refine g_isub (pc := 69) hC dX8_readWord_69 ?_
        refine g_iconst (pc := 70) (v := 1) hC dX8_readWord_70 (by decide) ?_
        refine g_iadd (pc := 71) hC dX8_readWord_71 ?_
        refine g_i2l (pc := 72) hC dX8_readWord_72 ?_
        refine g_ladd (pc := 73) hC dX8_readWord_73 ?_
        exact kX8_readWord_b74 hC hR0 hR hK15 h
      · have h := h.2 c_15
        refine g_ldc2 (pc := 47) hC cn_X8_64 dX8_readWord_47 ?_
        refine g_goto (pc := 50) (tgt := 74) hC dX8_readWord_50 (by decide) ?_
        exact kX8_readWord_b74 hC hR0 hR hK15 h
def qX8_readWord_L15  (post : St → St → Prop)  : Nat → Int32 → St → St → Prop
  | 0 => fun _ _ _ => False
  | n + 1 => qX8_readWord_l15 post (qX8_readWord_L15 post n)
theorem kX8_readWord_L15 {C : Cx} {o0 : Nat} {a0 : Nat → Nat} (hC : Fx C cX8_readWord 2 RX8) (hR0 : xR C = rm 2) {post : St → St → Prop} (hR : RV C cX8_readWord 2 (fun u : St × St => (wX8 o0 a0 (xy C) u.1 (wT (a0 0) (xy C) u.2 []))) (fun u => post u.1 u.2))  : ∀ (n : Nat) (x1 : Int32) (u0 : St) (u1 : St), qX8_readWord_L15 post n x1 u0 u1 → G C 0 0 2 (wX8 o0 a0 (xy C) u0 (wT (a0 0) (xy C) u1 [])) 15 [(0, .ref o0), (1, .int x1)] [] := by
  intro n
  induction n with
  | zero => intro x1 u0 u1 h; exact h.elim
  | succ n ih => intro x1 u0 u1 h; exact kX8_readWord_l15 hC hR0 hR  ih h
def qX8_readWord  (u0 : St) (u1 : St) (post : St → St → Prop) : Prop := ∀ u_16 : St, u_16 = (si u0 3 (1 : Int32)) → ∀ u_17 : St, u_17 = (sj u_16 6 (0 : Int64)) → ∀ x1_18 : Int32, x1_18 = (gi u_17 7) → ∃ n_19 : Nat, qX8_readWord_L15 post n_19 x1_18 u_17 u1
set_option maxRecDepth 100000 in
set_option maxHeartbeats 4000000 in
theorem kX8_readWord {C : Cx} {o0 : Nat} {a0 : Nat → Nat} (hC : Fx C cX8_readWord 2 RX8) (hR0 : xR C = rm 2) {post : St → St → Prop} (hR : RV C cX8_readWord 2 (fun u : St × St => (wX8 o0 a0 (xy C) u.1 (wT (a0 0) (xy C) u.2 []))) (fun u => post u.1 u.2))  {u0 : St} {u1 : St} (h : qX8_readWord  u0 u1 post) : G C 0 0 2 (wX8 o0 a0 (xy C) u0 (wT (a0 0) (xy C) u1 [])) 0 [(0, .ref o0)] [] := by
  refine g_aload_n (pc := 0) hC 0 dX8_readWord_0 rfl rfl ?_
  refine g_iconst (pc := 1) (v := 1) hC dX8_readWord_1 (by decide) ?_
  refine putX8_3 (pc := 2) hC (F := fun Z => Z) (X := []) (fun _ => rfl) fl_X8_41 dX8_readWord_2 ?_
  refine g_st (w := fun z => (wX8 o0 a0 (xy C) z (wT (a0 0) (xy C) u1 []))) (u := (si u0 3 (1 : Int32))) (fun u_16 eu_16 => ?_)
  have h := h u_16 eu_16
  refine g_aload_n (pc := 5) hC 0 dX8_readWord_5 rfl rfl ?_
  refine g_lconst (pc := 6) (v := 0) hC dX8_readWord_6 (by decide) ?_
  refine putX8_6 (pc := 7) hC (F := fun Z => Z) (X := []) (fun _ => rfl) fl_X8_60 dX8_readWord_7 ?_
  refine g_st (w := fun z => (wX8 o0 a0 (xy C) z (wT (a0 0) (xy C) u1 []))) (u := (sj u_16 6 (0 : Int64))) (fun u_17 eu_17 => ?_)
  have h := h u_17 eu_17
  refine g_aload_n (pc := 10) hC 0 dX8_readWord_10 rfl rfl ?_
  refine getX8_7 (pc := 11) hC (F := fun Z => Z) (X := []) (fun _ => rfl) fl_X8_38 dX8_readWord_11 ?_
  refine g_topi (fun x1_18 ex1_18 => ?_)
  have h := h x1_18 ex1_18
  refine g_istore_n (pc := 14) (lv' := [(1, .int x1_18), (0, .ref o0)]) hC dX8_readWord_14 rfl (Nat.le_of_ble_eq_true rfl) rfl ?_
  refine g_sub (lv' := [(0, .ref o0), (1, .int x1_18)]) [1, 0] rfl ?_
  obtain ⟨n_19, h⟩ := h
  exact kX8_readWord_L15 hC hR0 hR  n_19 _ _ _ h
theorem ctX8_readWord {l : Launch} {D : va_G} {cy : Nat → ClassId} {kd : Nat → Nat} {o0 : Nat} {a0 : Nat → Nat}  {u0 : St} {u1 : St} {post : St → St → Prop} (h : qX8_readWord  u0 u1 post) : CtV l D cy kd yX8_readWord cX8_readWord 2 2  [.ref o0] (fun u : St × St => (wX8 o0 a0 cy u.1 (wT (a0 0) cy u.2 []))) (u0, u1) (fun u => post u.1 u.2) := met_v (by decide) (Nat.le_of_ble_eq_true rfl) (fun C e1 e2 e3 e4 e5 hC hR => by subst e1 e2 e3 e4; exact kX8_readWord hC e5 hR h)
theorem dX8_isDigit_0 : decode cX8_isDigit 0 = .ok (.iload_n 0, 1) := by decide +kernel
theorem dX8_isDigit_1 : decode cX8_isDigit 1 = .ok (.bipush 48, 2) := by decide +kernel
theorem dX8_isDigit_3 : decode cX8_isDigit 3 = .ok (.if_icmp .lt 13, 3) := by decide +kernel
theorem dX8_isDigit_6 : decode cX8_isDigit 6 = .ok (.iload_n 0, 1) := by decide +kernel
theorem dX8_isDigit_7 : decode cX8_isDigit 7 = .ok (.bipush 57, 2) := by decide +kernel
theorem dX8_isDigit_9 : decode cX8_isDigit 9 = .ok (.if_icmp .gt 7, 3) := by decide +kernel
theorem dX8_isDigit_12 : decode cX8_isDigit 12 = .ok (.iconst 1, 1) := by decide +kernel
theorem dX8_isDigit_13 : decode cX8_isDigit 13 = .ok (.goto 4, 3) := by decide +kernel
theorem dX8_isDigit_16 : decode cX8_isDigit 16 = .ok (.iconst 0, 1) := by decide +kernel
theorem dX8_isDigit_17 : decode cX8_isDigit 17 = .ok (.ireturn, 1) := by decide +kernel
def qX8_isDigit_b17  (post : Int32 → Prop)  (s0 : Int32) : Prop := (bz s0 ∧ post s0 )
set_option maxRecDepth 100000 in
set_option maxHeartbeats 4000000 in
theorem kX8_isDigit_b17 {C : Cx}  (hC : Fx C cX8_isDigit 1 RX8) (hR0 : xR C = rm 1) {post : Int32 → Prop} (hR : RZ C cX8_isDigit 1 (fun _ : Unit => ([] : va_W)) (fun r _ => post r ))  {s0 : Int32} (h : qX8_isDigit_b17 post s0) : G C 0 0 1 [] 17 [] [.int s0] := by
  exact hR _ _ _ () dX8_isDigit_17 h.1 h.2
def qX8_isDigit_b16  (post : Int32 → Prop)   : Prop := qX8_isDigit_b17 post (0 : Int32)
set_option maxRecDepth 100000 in
set_option maxHeartbeats 4000000 in
theorem kX8_isDigit_b16 {C : Cx}  (hC : Fx C cX8_isDigit 1 RX8) (hR0 : xR C = rm 1) {post : Int32 → Prop} (hR : RZ C cX8_isDigit 1 (fun _ : Unit => ([] : va_W)) (fun r _ => post r ))   (h : qX8_isDigit_b16 post) : G C 0 0 1 [] 16 [] [] := by
  refine g_iconst (pc := 16) (v := 0) hC dX8_isDigit_16 (by decide) ?_
  exact kX8_isDigit_b17 hC hR0 hR  h
def qX8_isDigit (x0 : Int32)  (post : Int32 → Prop) : Prop := ((x0 < (48 : Int32) → qX8_isDigit_b16 post ) ∧ (¬ x0 < (48 : Int32) → (((57 : Int32) < x0 → qX8_isDigit_b16 post ) ∧ (¬ (57 : Int32) < x0 → qX8_isDigit_b17 post (1 : Int32)))))
set_option maxRecDepth 100000 in
set_option maxHeartbeats 4000000 in
theorem kX8_isDigit {C : Cx}  (hC : Fx C cX8_isDigit 1 RX8) (hR0 : xR C = rm 1) {post : Int32 → Prop} (hR : RZ C cX8_isDigit 1 (fun _ : Unit => ([] : va_W)) (fun r _ => post r )) {x0 : Int32}  (h : qX8_isDigit x0  post) : G C 0 0 1 [] 0 [(0, .int x0)] [] := by
  refine g_iload_n (pc := 0) hC 0 dX8_isDigit_0 rfl rfl ?_
  refine g_bipush (pc := 1) (v := 48) hC dX8_isDigit_1 (by decide) ?_
  refine g_icmp_lt (pc := 3) (tgt := 16) hC dX8_isDigit_3 (by decide) (fun c_1 => ?_) (fun c_1 => ?_)
  · have h := h.1 c_1
    refine g_sub (lv' := []) [] rfl ?_
    exact kX8_isDigit_b16 hC hR0 hR  h
  · have h := h.2 c_1
    refine g_iload_n (pc := 6) hC 0 dX8_isDigit_6 rfl rfl ?_
    refine g_bipush (pc := 7) (v := 57) hC dX8_isDigit_7 (by decide) ?_
    refine g_icmp_gt (pc := 9) (tgt := 16) hC dX8_isDigit_9 (by decide) (fun c_2 => ?_) (fun c_2 => ?_)
    · have h := h.1 c_2
      refine g_sub (lv' := []) [] rfl ?_
      exact kX8_isDigit_b16 hC hR0 hR  h
    · have h := h.2 c_2
      refine g_iconst (pc := 12) (v := 1) hC dX8_isDigit_12 (by decide) ?_
      refine g_goto (pc := 13) (tgt := 17) hC dX8_isDigit_13 (by decide) ?_
      refine g_sub (lv' := []) [] rfl ?_
      exact kX8_isDigit_b17 hC hR0 hR  h
theorem ctX8_isDigit {l : Launch} {D : va_G} {cy : Nat → ClassId} {kd : Nat → Nat}  {x0 : Int32}  {post : Int32 → Prop} (h : qX8_isDigit x0  post) : CtI l D cy kd yX8_isDigit cX8_isDigit 1 1 .boolean [.int x0] (fun _ : Unit => ([] : va_W)) () (fun r _ => post r ) := met_z (by decide) (Nat.le_of_ble_eq_true rfl) (fun C e1 e2 e3 e4 e5 hC hR => by subst e1 e2 e3 e4; exact kX8_isDigit hC e5 hR h)
theorem dX8_readNumber_0 : decode cX8_readNumber 0 = .ok (.aload_n 0, 1) := by decide +kernel
theorem dX8_readNumber_1 : decode cX8_readNumber 1 = .ok (.iconst 0, 1) := by decide +kernel
theorem dX8_readNumber_2 : decode cX8_readNumber 2 = .ok (.putfield 68, 3) := by decide +kernel
theorem dX8_readNumber_5 : decode cX8_readNumber 5 = .ok (.aload_n 0, 1) := by decide +kernel
theorem dX8_readNumber_6 : decode cX8_readNumber 6 = .ok (.getfield 38, 3) := by decide +kernel
theorem dX8_readNumber_9 : decode cX8_readNumber 9 = .ok (.istore_n 1, 1) := by decide +kernel
theorem dX8_readNumber_10 : decode cX8_readNumber 10 = .ok (.iload_n 1, 1) := by decide +kernel
theorem dX8_readNumber_11 : decode cX8_readNumber 11 = .ok (.aload_n 0, 1) := by decide +kernel
theorem dX8_readNumber_12 : decode cX8_readNumber 12 = .ok (.getfield 21, 3) := by decide +kernel
theorem dX8_readNumber_15 : decode cX8_readNumber 15 = .ok (.if_icmp .ge 63, 3) := by decide +kernel
theorem dX8_readNumber_18 : decode cX8_readNumber 18 = .ok (.aload_n 0, 1) := by decide +kernel
theorem dX8_readNumber_19 : decode cX8_readNumber 19 = .ok (.getfield 9, 3) := by decide +kernel
theorem dX8_readNumber_22 : decode cX8_readNumber 22 = .ok (.iload_n 1, 1) := by decide +kernel
theorem dX8_readNumber_23 : decode cX8_readNumber 23 = .ok (.baload, 1) := by decide +kernel
theorem dX8_readNumber_24 : decode cX8_readNumber 24 = .ok (.invokestatic 50, 3) := by decide +kernel
theorem dX8_readNumber_27 : decode cX8_readNumber 27 = .ok (.ifCond .eq 51, 3) := by decide +kernel
theorem dX8_readNumber_30 : decode cX8_readNumber 30 = .ok (.aload_n 0, 1) := by decide +kernel
theorem dX8_readNumber_31 : decode cX8_readNumber 31 = .ok (.iload_n 1, 1) := by decide +kernel
theorem dX8_readNumber_32 : decode cX8_readNumber 32 = .ok (.aload_n 0, 1) := by decide +kernel
theorem dX8_readNumber_33 : decode cX8_readNumber 33 = .ok (.getfield 38, 3) := by decide +kernel
theorem dX8_readNumber_36 : decode cX8_readNumber 36 = .ok (.isub, 1) := by decide +kernel
theorem dX8_readNumber_37 : decode cX8_readNumber 37 = .ok (.iconst 4, 1) := by decide +kernel
theorem dX8_readNumber_38 : decode cX8_readNumber 38 = .ok (.if_icmp .lt 7, 3) := by decide +kernel
theorem dX8_readNumber_41 : decode cX8_readNumber 41 = .ok (.iconst 0, 1) := by decide +kernel
theorem dX8_readNumber_42 : decode cX8_readNumber 42 = .ok (.goto 20, 3) := by decide +kernel
theorem dX8_readNumber_45 : decode cX8_readNumber 45 = .ok (.aload_n 0, 1) := by decide +kernel
theorem dX8_readNumber_46 : decode cX8_readNumber 46 = .ok (.getfield 68, 3) := by decide +kernel
theorem dX8_readNumber_49 : decode cX8_readNumber 49 = .ok (.bipush 10, 2) := by decide +kernel
theorem dX8_readNumber_51 : decode cX8_readNumber 51 = .ok (.imul, 1) := by decide +kernel
theorem dX8_readNumber_52 : decode cX8_readNumber 52 = .ok (.aload_n 0, 1) := by decide +kernel
theorem dX8_readNumber_53 : decode cX8_readNumber 53 = .ok (.getfield 9, 3) := by decide +kernel
theorem dX8_readNumber_56 : decode cX8_readNumber 56 = .ok (.iload_n 1, 1) := by decide +kernel
theorem dX8_readNumber_57 : decode cX8_readNumber 57 = .ok (.baload, 1) := by decide +kernel
theorem dX8_readNumber_58 : decode cX8_readNumber 58 = .ok (.bipush 48, 2) := by decide +kernel
theorem dX8_readNumber_60 : decode cX8_readNumber 60 = .ok (.isub, 1) := by decide +kernel
theorem dX8_readNumber_61 : decode cX8_readNumber 61 = .ok (.iadd, 1) := by decide +kernel
theorem dX8_readNumber_62 : decode cX8_readNumber 62 = .ok (.putfield 68, 3) := by decide +kernel
theorem dX8_readNumber_65 : decode cX8_readNumber 65 = .ok (.aload_n 0, 1) := by decide +kernel
theorem dX8_readNumber_66 : decode cX8_readNumber 66 = .ok (.iload_n 1, 1) := by decide +kernel
theorem dX8_readNumber_67 : decode cX8_readNumber 67 = .ok (.iconst 1, 1) := by decide +kernel
theorem dX8_readNumber_68 : decode cX8_readNumber 68 = .ok (.iadd, 1) := by decide +kernel
theorem dX8_readNumber_69 : decode cX8_readNumber 69 = .ok (.putfield 25, 3) := by decide +kernel
theorem dX8_readNumber_72 : decode cX8_readNumber 72 = .ok (.iinc 1 1, 3) := by decide +kernel
theorem dX8_readNumber_75 : decode cX8_readNumber 75 = .ok (.goto (-65), 3) := by decide +kernel
theorem dX8_readNumber_78 : decode cX8_readNumber 78 = .ok (.aload_n 0, 1) := by decide +kernel
theorem dX8_readNumber_79 : decode cX8_readNumber 79 = .ok (.aload_n 0, 1) := by decide +kernel
theorem dX8_readNumber_80 : decode cX8_readNumber 80 = .ok (.getfield 25, 3) := by decide +kernel
theorem dX8_readNumber_83 : decode cX8_readNumber 83 = .ok (.aload_n 0, 1) := by decide +kernel
theorem dX8_readNumber_84 : decode cX8_readNumber 84 = .ok (.getfield 38, 3) := by decide +kernel
theorem dX8_readNumber_87 : decode cX8_readNumber 87 = .ok (.isub, 1) := by decide +kernel
theorem dX8_readNumber_88 : decode cX8_readNumber 88 = .ok (.iconst 4, 1) := by decide +kernel
theorem dX8_readNumber_89 : decode cX8_readNumber 89 = .ok (.if_icmp .le 7, 3) := by decide +kernel
theorem dX8_readNumber_92 : decode cX8_readNumber 92 = .ok (.iconst 4, 1) := by decide +kernel
theorem dX8_readNumber_93 : decode cX8_readNumber 93 = .ok (.goto 4, 3) := by decide +kernel
theorem dX8_readNumber_96 : decode cX8_readNumber 96 = .ok (.iconst 2, 1) := by decide +kernel
theorem dX8_readNumber_97 : decode cX8_readNumber 97 = .ok (.putfield 41, 3) := by decide +kernel
theorem dX8_readNumber_100 : decode cX8_readNumber 100 = .ok (.return_, 1) := by decide +kernel
def qX8_readNumber_b62  (post : St → St → Prop) (K10 : Int32 → St → St → Prop) (x1 : Int32) (s0 : Int32) (u0 : St) (u1 : St) : Prop := ∀ u_8 : St, u_8 = (si u0 4 s0) → ∀ u_9 : St, u_9 = (si u_8 2 (x1 + (1 : Int32))) → ∀ x1_10 : Int32, x1_10 = x1 + (1 : Int32) → K10 x1_10 u_9 u1
set_option maxRecDepth 100000 in
set_option maxHeartbeats 4000000 in
theorem kX8_readNumber_b62 {C : Cx} {o0 : Nat} {a0 : Nat → Nat} (hC : Fx C cX8_readNumber 2 RX8) (hR0 : xR C = rm 2) {post : St → St → Prop} (hR : RV C cX8_readNumber 2 (fun u : St × St => (wX8 o0 a0 (xy C) u.1 (wT (a0 0) (xy C) u.2 []))) (fun u => post u.1 u.2)) {K10 : Int32 → St → St → Prop} (hK10 : ∀ (x1 : Int32) (u0 : St) (u1 : St), K10 x1 u0 u1 → G C 0 0 2 (wX8 o0 a0 (xy C) u0 (wT (a0 0) (xy C) u1 [])) 10 [(0, .ref o0), (1, .int x1)] []) {x1 : Int32} {s0 : Int32} {u0 : St} {u1 : St} (h : qX8_readNumber_b62 post K10 x1 s0 u0 u1) : G C 0 0 2 (wX8 o0 a0 (xy C) u0 (wT (a0 0) (xy C) u1 [])) 62 [(0, .ref o0), (1, .int x1)] [.int s0, .ref o0] := by
  refine putX8_4 (pc := 62) hC (F := fun Z => Z) (X := []) (fun _ => rfl) fl_X8_68 dX8_readNumber_62 ?_
  refine g_st (w := fun z => (wX8 o0 a0 (xy C) z (wT (a0 0) (xy C) u1 []))) (u := (si u0 4 s0)) (fun u_8 eu_8 => ?_)
  have h := h u_8 eu_8
  refine g_aload_n (pc := 65) hC 0 dX8_readNumber_65 rfl rfl ?_
  refine g_iload_n (pc := 66) hC 1 dX8_readNumber_66 rfl rfl ?_
  refine g_iconst (pc := 67) (v := 1) hC dX8_readNumber_67 (by decide) ?_
  refine g_iadd (pc := 68) hC dX8_readNumber_68 ?_
  refine putX8_2 (pc := 69) hC (F := fun Z => Z) (X := []) (fun _ => rfl) fl_X8_25 dX8_readNumber_69 ?_
  refine g_st (w := fun z => (wX8 o0 a0 (xy C) z (wT (a0 0) (xy C) u1 []))) (u := (si u_8 2 (x1 + (1 : Int32)))) (fun u_9 eu_9 => ?_)
  have h := h u_9 eu_9
  obtain ⟨x1_10, ex1_10⟩ : ∃ z : Int32, z = x1 + (1 : Int32) := ⟨_, rfl⟩
  have h := h x1_10 ex1_10
  refine g_iinc (pc := 72) (v := x1_10) (lv' := [(1, .int x1_10), (0, .ref o0)]) hC 1 dX8_readNumber_72 rfl (by rw [ex1_10]; rfl) (Nat.le_of_ble_eq_true rfl) rfl ?_
  refine g_goto (pc := 75) (tgt := 10) hC dX8_readNumber_75 (by decide) ?_
  refine g_sub (lv' := [(0, .ref o0), (1, .int x1_10)]) [1, 0] rfl ?_
  exact hK10 _ _ _ h
def qX8_readNumber_b97  (post : St → St → Prop)  (s0 : Int32) (u0 : St) (u1 : St) : Prop := ∀ u_11 : St, u_11 = (si u0 3 s0) → post u_11 u1
set_option maxRecDepth 100000 in
set_option maxHeartbeats 4000000 in
theorem kX8_readNumber_b97 {C : Cx} {o0 : Nat} {a0 : Nat → Nat} (hC : Fx C cX8_readNumber 2 RX8) (hR0 : xR C = rm 2) {post : St → St → Prop} (hR : RV C cX8_readNumber 2 (fun u : St × St => (wX8 o0 a0 (xy C) u.1 (wT (a0 0) (xy C) u.2 []))) (fun u => post u.1 u.2))  {s0 : Int32} {u0 : St} {u1 : St} (h : qX8_readNumber_b97 post s0 u0 u1) : G C 0 0 2 (wX8 o0 a0 (xy C) u0 (wT (a0 0) (xy C) u1 [])) 97 [] [.int s0, .ref o0] := by
  refine putX8_3 (pc := 97) hC (F := fun Z => Z) (X := []) (fun _ => rfl) fl_X8_41 dX8_readNumber_97 ?_
  refine g_st (w := fun z => (wX8 o0 a0 (xy C) z (wT (a0 0) (xy C) u1 []))) (u := (si u0 3 s0)) (fun u_11 eu_11 => ?_)
  have h := h u_11 eu_11
  exact hR _ _ (u_11, u1) dX8_readNumber_100 h
def qX8_readNumber_b78  (post : St → St → Prop)  (u0 : St) (u1 : St) : Prop := ((((gi u0 2) - (gi u0 7)) ≤ (4 : Int32) → qX8_readNumber_b97 post (2 : Int32) u0 u1) ∧ (¬ ((gi u0 2) - (gi u0 7)) ≤ (4 : Int32) → qX8_readNumber_b97 post (4 : Int32) u0 u1))
set_option maxRecDepth 100000 in
set_option maxHeartbeats 4000000 in
theorem kX8_readNumber_b78 {C : Cx} {o0 : Nat} {a0 : Nat → Nat} (hC : Fx C cX8_readNumber 2 RX8) (hR0 : xR C = rm 2) {post : St → St → Prop} (hR : RV C cX8_readNumber 2 (fun u : St × St => (wX8 o0 a0 (xy C) u.1 (wT (a0 0) (xy C) u.2 []))) (fun u => post u.1 u.2))  {u0 : St} {u1 : St} (h : qX8_readNumber_b78 post u0 u1) : G C 0 0 2 (wX8 o0 a0 (xy C) u0 (wT (a0 0) (xy C) u1 [])) 78 [(0, .ref o0)] [] := by
  refine g_aload_n (pc := 78) hC 0 dX8_readNumber_78 rfl rfl ?_
  refine g_aload_n (pc := 79) hC 0 dX8_readNumber_79 rfl rfl ?_
  refine getX8_2 (pc := 80) hC (F := fun Z => Z) (X := []) (fun _ => rfl) fl_X8_25 dX8_readNumber_80 ?_
  refine g_aload_n (pc := 83) hC 0 dX8_readNumber_83 rfl rfl ?_
  refine getX8_7 (pc := 84) hC (F := fun Z => Z) (X := []) (fun _ => rfl) fl_X8_38 dX8_readNumber_84 ?_
  refine g_isub (pc := 87) hC dX8_readNumber_87 ?_
  refine g_iconst (pc := 88) (v := 4) hC dX8_readNumber_88 (by decide) ?_
  refine g_icmp_le (pc := 89) (tgt := 96) hC dX8_readNumber_89 (by decide) (fun c_12 => ?_) (fun c_12 => ?_)
  · have h := h.1 c_12
    refine g_iconst (pc := 96) (v := 2) hC dX8_readNumber_96 (by decide) ?_
    refine g_sub (lv' := []) [] rfl ?_
    exact kX8_readNumber_b97 hC hR0 hR  h
  · have h := h.2 c_12
    refine g_iconst (pc := 92) (v := 4) hC dX8_readNumber_92 (by decide) ?_
    refine g_goto (pc := 93) (tgt := 97) hC dX8_readNumber_93 (by decide) ?_
    refine g_sub (lv' := []) [] rfl ?_
    exact kX8_readNumber_b97 hC hR0 hR  h
def qX8_readNumber_l10  (post : St → St → Prop) (K10 : Int32 → St → St → Prop) (x1 : Int32) (u0 : St) (u1 : St) : Prop := (((gi u0 1) ≤ x1 → qX8_readNumber_b78 post u0 u1) ∧ (¬ (gi u0 1) ≤ x1 → (vp_in x1 900 ∧ qX8_isDigit (ga u1 0 (x1).toNatClampNeg) (fun r_14 => ((r_14 = 0 → qX8_readNumber_b78 post u0 u1) ∧ (¬ r_14 = 0 → (((x1 - (gi u0 7)) < (4 : Int32) → (vp_in x1 900 ∧ qX8_readNumber_b62 post K10 x1 (((gi u0 4) * (10 : Int32)) + ((ga u1 0 (x1).toNatClampNeg) - (48 : Int32))) u0 u1)) ∧ (¬ (x1 - (gi u0 7)) < (4 : Int32) → qX8_readNumber_b62 post K10 x1 (0 : Int32) u0 u1))))))))
set_option maxRecDepth 100000 in
set_option maxHeartbeats 4000000 in
theorem kX8_readNumber_l10 {C : Cx} {o0 : Nat} {a0 : Nat → Nat} (hC : Fx C cX8_readNumber 2 RX8) (hR0 : xR C = rm 2) {post : St → St → Prop} (hR : RV C cX8_readNumber 2 (fun u : St × St => (wX8 o0 a0 (xy C) u.1 (wT (a0 0) (xy C) u.2 []))) (fun u => post u.1 u.2))  {K10 : Int32 → St → St → Prop} (hK10 : ∀ (x1 : Int32) (u0 : St) (u1 : St), K10 x1 u0 u1 → G C 0 0 2 (wX8 o0 a0 (xy C) u0 (wT (a0 0) (xy C) u1 [])) 10 [(0, .ref o0), (1, .int x1)] []) {x1 : Int32} {u0 : St} {u1 : St} (h : qX8_readNumber_l10 post K10 x1 u0 u1) : G C 0 0 2 (wX8 o0 a0 (xy C) u0 (wT (a0 0) (xy C) u1 [])) 10 [(0, .ref o0), (1, .int x1)] [] := by
  refine g_iload_n (pc := 10) hC 1 dX8_readNumber_10 rfl rfl ?_
  refine g_aload_n (pc := 11) hC 0 dX8_readNumber_11 rfl rfl ?_
  refine getX8_1 (pc := 12) hC (F := fun Z => Z) (X := []) (fun _ => rfl) fl_X8_21 dX8_readNumber_12 ?_
  refine g_icmp_ge (pc := 15) (tgt := 78) hC dX8_readNumber_15 (by decide) (fun c_13 => ?_) (fun c_13 => ?_)
  · have h := h.1 c_13
    refine g_sub (lv' := [(0, .ref o0)]) [0] rfl ?_
    exact kX8_readNumber_b78 hC hR0 hR  h
  · have h := h.2 c_13
    refine g_aload_n (pc := 18) hC 0 dX8_readNumber_18 rfl rfl ?_
    refine getX8_0 (pc := 19) hC (F := fun Z => Z) (X := []) (fun _ => rfl) fl_X8_9 dX8_readNumber_19 ?_
    refine g_iload_n (pc := 22) hC 1 dX8_readNumber_22 rfl rfl ?_
    refine aldT (pc := 23) hC (F := fun Z => (wX8 o0 a0 (xy C) u0 Z)) (X := (wX8 o0 a0 (xy C) u0 [])) (fun _ => rfl) h.1 dX8_readNumber_23 ?_
    have h := h.2
    refine g_callS_i (pc := 24) (wd := fun (_ : Unit) Y => Y) (F := fun Z => Z) (X := []) (As := [.int (ga u1 0 (x1).toNatClampNeg)]) (rest := []) (u := ()) hC (fun _ _ => rfl) (fun _ => rfl) (ctX8_isDigit h) wvX8_isDigit ml_X8_50 rfl (rmok hR0 rfl) ⟨Nat.zero_le _, Nat.zero_le _⟩ rfl (Nat.le_of_ble_eq_true rfl) dX8_readNumber_24 (fun r_14 u_15 h => ?_)
    refine g_if_eq (pc := 27) (tgt := 78) hC dX8_readNumber_27 (by decide) (fun c_16 => ?_) (fun c_16 => ?_)
    · have h := h.1 c_16
      refine g_sub (lv' := [(0, .ref o0)]) [0] rfl ?_
      exact kX8_readNumber_b78 hC hR0 hR  h
    · have h := h.2 c_16
      refine g_aload_n (pc := 30) hC 0 dX8_readNumber_30 rfl rfl ?_
      refine g_iload_n (pc := 31) hC 1 dX8_readNumber_31 rfl rfl ?_
      refine g_aload_n (pc := 32) hC 0 dX8_readNumber_32 rfl rfl ?_
      refine getX8_7 (pc := 33) hC (F := fun Z => Z) (X := []) (fun _ => rfl) fl_X8_38 dX8_readNumber_33 ?_
      refine g_isub (pc := 36) hC dX8_readNumber_36 ?_
      refine g_iconst (pc := 37) (v := 4) hC dX8_readNumber_37 (by decide) ?_
      refine g_icmp_lt (pc := 38) (tgt := 45) hC dX8_readNumber_38 (by decide) (fun c_17 => ?_) (fun c_17 => ?_)
      · have h := h.1 c_17
        refine g_aload_n (pc := 45) hC 0 dX8_readNumber_45 rfl rfl ?_
        refine getX8_4 (pc := 46) hC (F := fun Z => Z) (X := []) (fun _ => rfl) fl_X8_68 dX8_readNumber_46 ?_
        refine g_bipush (pc := 49) (v := 10) hC dX8_readNumber_49 (by decide) ?_
        refine g_imul (pc := 51) hC dX8_readNumber_51 ?_
        refine g_aload_n (pc := 52) hC 0 dX8_readNumber_52 rfl rfl ?_
        refine getX8_0 (pc := 53) hC (F := fun Z => Z) (X := []) (fun _ => rfl) fl_X8_9 dX8_readNumber_53 ?_
        refine g_iload_n (pc := 56) hC 1 dX8_readNumber_56 rfl rfl ?_
        refine aldT (pc := 57) hC (F := fun Z => (wX8 o0 a0 (xy C) u0 Z)) (X := (wX8 o0 a0 (xy C) u0 [])) (fun _ => rfl) h.1 dX8_readNumber_57 ?_
        have h := h.2
        refine g_bipush (pc := 58) (v := 48) hC dX8_readNumber_58 (by decide) ?_
        refine g_isub (pc := 60) hC dX8_readNumber_60 ?_
        refine g_iadd (pc := 61) hC dX8_readNumber_61 ?_
        exact kX8_readNumber_b62 hC hR0 hR hK10 h
      · have h := h.2 c_17
        refine g_iconst (pc := 41) (v := 0) hC dX8_readNumber_41 (by decide) ?_
        refine g_goto (pc := 42) (tgt := 62) hC dX8_readNumber_42 (by decide) ?_
        exact kX8_readNumber_b62 hC hR0 hR hK10 h
def qX8_readNumber_L10  (post : St → St → Prop)  : Nat → Int32 → St → St → Prop
  | 0 => fun _ _ _ => False
  | n + 1 => qX8_readNumber_l10 post (qX8_readNumber_L10 post n)
theorem kX8_readNumber_L10 {C : Cx} {o0 : Nat} {a0 : Nat → Nat} (hC : Fx C cX8_readNumber 2 RX8) (hR0 : xR C = rm 2) {post : St → St → Prop} (hR : RV C cX8_readNumber 2 (fun u : St × St => (wX8 o0 a0 (xy C) u.1 (wT (a0 0) (xy C) u.2 []))) (fun u => post u.1 u.2))  : ∀ (n : Nat) (x1 : Int32) (u0 : St) (u1 : St), qX8_readNumber_L10 post n x1 u0 u1 → G C 0 0 2 (wX8 o0 a0 (xy C) u0 (wT (a0 0) (xy C) u1 [])) 10 [(0, .ref o0), (1, .int x1)] [] := by
  intro n
  induction n with
  | zero => intro x1 u0 u1 h; exact h.elim
  | succ n ih => intro x1 u0 u1 h; exact kX8_readNumber_l10 hC hR0 hR  ih h
def qX8_readNumber  (u0 : St) (u1 : St) (post : St → St → Prop) : Prop := ∀ u_18 : St, u_18 = (si u0 4 (0 : Int32)) → ∀ x1_19 : Int32, x1_19 = (gi u_18 7) → ∃ n_20 : Nat, qX8_readNumber_L10 post n_20 x1_19 u_18 u1
set_option maxRecDepth 100000 in
set_option maxHeartbeats 4000000 in
theorem kX8_readNumber {C : Cx} {o0 : Nat} {a0 : Nat → Nat} (hC : Fx C cX8_readNumber 2 RX8) (hR0 : xR C = rm 2) {post : St → St → Prop} (hR : RV C cX8_readNumber 2 (fun u : St × St => (wX8 o0 a0 (xy C) u.1 (wT (a0 0) (xy C) u.2 []))) (fun u => post u.1 u.2))  {u0 : St} {u1 : St} (h : qX8_readNumber  u0 u1 post) : G C 0 0 2 (wX8 o0 a0 (xy C) u0 (wT (a0 0) (xy C) u1 [])) 0 [(0, .ref o0)] [] := by
  refine g_aload_n (pc := 0) hC 0 dX8_readNumber_0 rfl rfl ?_
  refine g_iconst (pc := 1) (v := 0) hC dX8_readNumber_1 (by decide) ?_
  refine putX8_4 (pc := 2) hC (F := fun Z => Z) (X := []) (fun _ => rfl) fl_X8_68 dX8_readNumber_2 ?_
  refine g_st (w := fun z => (wX8 o0 a0 (xy C) z (wT (a0 0) (xy C) u1 []))) (u := (si u0 4 (0 : Int32))) (fun u_18 eu_18 => ?_)
  have h := h u_18 eu_18
  refine g_aload_n (pc := 5) hC 0 dX8_readNumber_5 rfl rfl ?_
  refine getX8_7 (pc := 6) hC (F := fun Z => Z) (X := []) (fun _ => rfl) fl_X8_38 dX8_readNumber_6 ?_
  refine g_topi (fun x1_19 ex1_19 => ?_)
  have h := h x1_19 ex1_19
  refine g_istore_n (pc := 9) (lv' := [(1, .int x1_19), (0, .ref o0)]) hC dX8_readNumber_9 rfl (Nat.le_of_ble_eq_true rfl) rfl ?_
  refine g_sub (lv' := [(0, .ref o0), (1, .int x1_19)]) [1, 0] rfl ?_
  obtain ⟨n_20, h⟩ := h
  exact kX8_readNumber_L10 hC hR0 hR  n_20 _ _ _ h
theorem ctX8_readNumber {l : Launch} {D : va_G} {cy : Nat → ClassId} {kd : Nat → Nat} {o0 : Nat} {a0 : Nat → Nat}  {u0 : St} {u1 : St} {post : St → St → Prop} (h : qX8_readNumber  u0 u1 post) : CtV l D cy kd yX8_readNumber cX8_readNumber 2 2  [.ref o0] (fun u : St × St => (wX8 o0 a0 cy u.1 (wT (a0 0) cy u.2 []))) (u0, u1) (fun u => post u.1 u.2) := met_v (by decide) (Nat.le_of_ble_eq_true rfl) (fun C e1 e2 e3 e4 e5 hC hR => by subst e1 e2 e3 e4; exact kX8_readNumber hC e5 hR h)
theorem dX8_advance_0 : decode cX8_advance 0 = .ok (.aload_n 0, 1) := by decide +kernel
theorem dX8_advance_1 : decode cX8_advance 1 = .ok (.getfield 28, 3) := by decide +kernel
theorem dX8_advance_4 : decode cX8_advance 4 = .ok (.ifCond .eq 4, 3) := by decide +kernel
theorem dX8_advance_7 : decode cX8_advance 7 = .ok (.return_, 1) := by decide +kernel
theorem dX8_advance_8 : decode cX8_advance 8 = .ok (.aload_n 0, 1) := by decide +kernel
theorem dX8_advance_9 : decode cX8_advance 9 = .ok (.getfield 25, 3) := by decide +kernel
theorem dX8_advance_12 : decode cX8_advance 12 = .ok (.istore_n 1, 1) := by decide +kernel
theorem dX8_advance_13 : decode cX8_advance 13 = .ok (.iload_n 1, 1) := by decide +kernel
theorem dX8_advance_14 : decode cX8_advance 14 = .ok (.aload_n 0, 1) := by decide +kernel
theorem dX8_advance_15 : decode cX8_advance 15 = .ok (.getfield 21, 3) := by decide +kernel
theorem dX8_advance_18 : decode cX8_advance 18 = .ok (.if_icmp .ge 28, 3) := by decide +kernel
theorem dX8_advance_21 : decode cX8_advance 21 = .ok (.aload_n 0, 1) := by decide +kernel
theorem dX8_advance_22 : decode cX8_advance 22 = .ok (.getfield 9, 3) := by decide +kernel
theorem dX8_advance_25 : decode cX8_advance 25 = .ok (.iload_n 1, 1) := by decide +kernel
theorem dX8_advance_26 : decode cX8_advance 26 = .ok (.baload, 1) := by decide +kernel
theorem dX8_advance_27 : decode cX8_advance 27 = .ok (.invokestatic 34, 3) := by decide +kernel
theorem dX8_advance_30 : decode cX8_advance 30 = .ok (.ifCond .eq 16, 3) := by decide +kernel
theorem dX8_advance_33 : decode cX8_advance 33 = .ok (.aload_n 0, 1) := by decide +kernel
theorem dX8_advance_34 : decode cX8_advance 34 = .ok (.iload_n 1, 1) := by decide +kernel
theorem dX8_advance_35 : decode cX8_advance 35 = .ok (.iconst 1, 1) := by decide +kernel
theorem dX8_advance_36 : decode cX8_advance 36 = .ok (.iadd, 1) := by decide +kernel
theorem dX8_advance_37 : decode cX8_advance 37 = .ok (.putfield 25, 3) := by decide +kernel
theorem dX8_advance_40 : decode cX8_advance 40 = .ok (.iinc 1 1, 3) := by decide +kernel
theorem dX8_advance_43 : decode cX8_advance 43 = .ok (.goto (-30), 3) := by decide +kernel
theorem dX8_advance_46 : decode cX8_advance 46 = .ok (.aload_n 0, 1) := by decide +kernel
theorem dX8_advance_47 : decode cX8_advance 47 = .ok (.aload_n 0, 1) := by decide +kernel
theorem dX8_advance_48 : decode cX8_advance 48 = .ok (.getfield 25, 3) := by decide +kernel
theorem dX8_advance_51 : decode cX8_advance 51 = .ok (.putfield 38, 3) := by decide +kernel
theorem dX8_advance_54 : decode cX8_advance 54 = .ok (.aload_n 0, 1) := by decide +kernel
theorem dX8_advance_55 : decode cX8_advance 55 = .ok (.getfield 25, 3) := by decide +kernel
theorem dX8_advance_58 : decode cX8_advance 58 = .ok (.aload_n 0, 1) := by decide +kernel
theorem dX8_advance_59 : decode cX8_advance 59 = .ok (.getfield 21, 3) := by decide +kernel
theorem dX8_advance_62 : decode cX8_advance 62 = .ok (.if_icmp .lt 11, 3) := by decide +kernel
theorem dX8_advance_65 : decode cX8_advance 65 = .ok (.aload_n 0, 1) := by decide +kernel
theorem dX8_advance_66 : decode cX8_advance 66 = .ok (.iconst 0, 1) := by decide +kernel
theorem dX8_advance_67 : decode cX8_advance 67 = .ok (.putfield 41, 3) := by decide +kernel
theorem dX8_advance_70 : decode cX8_advance 70 = .ok (.goto 120, 3) := by decide +kernel
theorem dX8_advance_73 : decode cX8_advance 73 = .ok (.aload_n 0, 1) := by decide +kernel
theorem dX8_advance_74 : decode cX8_advance 74 = .ok (.getfield 9, 3) := by decide +kernel
theorem dX8_advance_77 : decode cX8_advance 77 = .ok (.aload_n 0, 1) := by decide +kernel
theorem dX8_advance_78 : decode cX8_advance 78 = .ok (.getfield 25, 3) := by decide +kernel
theorem dX8_advance_81 : decode cX8_advance 81 = .ok (.baload, 1) := by decide +kernel
theorem dX8_advance_82 : decode cX8_advance 82 = .ok (.invokestatic 44, 3) := by decide +kernel
theorem dX8_advance_85 : decode cX8_advance 85 = .ok (.ifCond .eq 10, 3) := by decide +kernel
theorem dX8_advance_88 : decode cX8_advance 88 = .ok (.aload_n 0, 1) := by decide +kernel
theorem dX8_advance_89 : decode cX8_advance 89 = .ok (.invokevirtual 47, 3) := by decide +kernel
theorem dX8_advance_92 : decode cX8_advance 92 = .ok (.goto 98, 3) := by decide +kernel
theorem dX8_advance_95 : decode cX8_advance 95 = .ok (.aload_n 0, 1) := by decide +kernel
theorem dX8_advance_96 : decode cX8_advance 96 = .ok (.getfield 9, 3) := by decide +kernel
theorem dX8_advance_99 : decode cX8_advance 99 = .ok (.aload_n 0, 1) := by decide +kernel
theorem dX8_advance_100 : decode cX8_advance 100 = .ok (.getfield 25, 3) := by decide +kernel
theorem dX8_advance_103 : decode cX8_advance 103 = .ok (.baload, 1) := by decide +kernel
theorem dX8_advance_104 : decode cX8_advance 104 = .ok (.invokestatic 50, 3) := by decide +kernel
theorem dX8_advance_107 : decode cX8_advance 107 = .ok (.ifCond .eq 10, 3) := by decide +kernel
theorem dX8_advance_110 : decode cX8_advance 110 = .ok (.aload_n 0, 1) := by decide +kernel
theorem dX8_advance_111 : decode cX8_advance 111 = .ok (.invokevirtual 53, 3) := by decide +kernel
theorem dX8_advance_114 : decode cX8_advance 114 = .ok (.goto 76, 3) := by decide +kernel
theorem dX8_advance_117 : decode cX8_advance 117 = .ok (.aload_n 0, 1) := by decide +kernel
theorem dX8_advance_118 : decode cX8_advance 118 = .ok (.aload_n 0, 1) := by decide +kernel
theorem dX8_advance_119 : decode cX8_advance 119 = .ok (.getfield 9, 3) := by decide +kernel
theorem dX8_advance_122 : decode cX8_advance 122 = .ok (.aload_n 0, 1) := by decide +kernel
theorem dX8_advance_123 : decode cX8_advance 123 = .ok (.getfield 25, 3) := by decide +kernel
theorem dX8_advance_126 : decode cX8_advance 126 = .ok (.baload, 1) := by decide +kernel
theorem dX8_advance_127 : decode cX8_advance 127 = .ok (.sipush 255, 3) := by decide +kernel
theorem dX8_advance_130 : decode cX8_advance 130 = .ok (.iand, 1) := by decide +kernel
theorem dX8_advance_131 : decode cX8_advance 131 = .ok (.i2c, 1) := by decide +kernel
theorem dX8_advance_132 : decode cX8_advance 132 = .ok (.putfield 56, 3) := by decide +kernel
theorem dX8_advance_135 : decode cX8_advance 135 = .ok (.aload_n 0, 1) := by decide +kernel
theorem dX8_advance_136 : decode cX8_advance 136 = .ok (.aload_n 0, 1) := by decide +kernel
theorem dX8_advance_137 : decode cX8_advance 137 = .ok (.getfield 56, 3) := by decide +kernel
theorem dX8_advance_140 : decode cX8_advance 140 = .ok (.bipush 59, 2) := by decide +kernel
theorem dX8_advance_142 : decode cX8_advance 142 = .ok (.if_icmp .eq 30, 3) := by decide +kernel
theorem dX8_advance_145 : decode cX8_advance 145 = .ok (.aload_n 0, 1) := by decide +kernel
theorem dX8_advance_146 : decode cX8_advance 146 = .ok (.getfield 56, 3) := by decide +kernel
theorem dX8_advance_149 : decode cX8_advance 149 = .ok (.bipush 60, 2) := by decide +kernel
theorem dX8_advance_151 : decode cX8_advance 151 = .ok (.if_icmp .eq 21, 3) := by decide +kernel
theorem dX8_advance_154 : decode cX8_advance 154 = .ok (.aload_n 0, 1) := by decide +kernel
theorem dX8_advance_155 : decode cX8_advance 155 = .ok (.getfield 56, 3) := by decide +kernel
theorem dX8_advance_158 : decode cX8_advance 158 = .ok (.bipush 62, 2) := by decide +kernel
theorem dX8_advance_160 : decode cX8_advance 160 = .ok (.if_icmp .eq 12, 3) := by decide +kernel
theorem dX8_advance_163 : decode cX8_advance 163 = .ok (.aload_n 0, 1) := by decide +kernel
theorem dX8_advance_164 : decode cX8_advance 164 = .ok (.getfield 56, 3) := by decide +kernel
theorem dX8_advance_167 : decode cX8_advance 167 = .ok (.bipush 61, 2) := by decide +kernel
theorem dX8_advance_169 : decode cX8_advance 169 = .ok (.if_icmp .ne 7, 3) := by decide +kernel
theorem dX8_advance_172 : decode cX8_advance 172 = .ok (.iconst 3, 1) := by decide +kernel
theorem dX8_advance_173 : decode cX8_advance 173 = .ok (.goto 4, 3) := by decide +kernel
theorem dX8_advance_176 : decode cX8_advance 176 = .ok (.iconst 4, 1) := by decide +kernel
theorem dX8_advance_177 : decode cX8_advance 177 = .ok (.putfield 41, 3) := by decide +kernel
theorem dX8_advance_180 : decode cX8_advance 180 = .ok (.aload_n 0, 1) := by decide +kernel
theorem dX8_advance_181 : decode cX8_advance 181 = .ok (.dup, 1) := by decide +kernel
theorem dX8_advance_182 : decode cX8_advance 182 = .ok (.getfield 25, 3) := by decide +kernel
theorem dX8_advance_185 : decode cX8_advance 185 = .ok (.iconst 1, 1) := by decide +kernel
theorem dX8_advance_186 : decode cX8_advance 186 = .ok (.iadd, 1) := by decide +kernel
theorem dX8_advance_187 : decode cX8_advance 187 = .ok (.putfield 25, 3) := by decide +kernel
theorem dX8_advance_190 : decode cX8_advance 190 = .ok (.return_, 1) := by decide +kernel
def qX8_advance_b190  (post : St → St → Prop)  (u0 : St) (u1 : St) : Prop := post u0 u1
set_option maxRecDepth 100000 in
set_option maxHeartbeats 4000000 in
theorem kX8_advance_b190 {C : Cx} {o0 : Nat} {a0 : Nat → Nat} (hC : Fx C cX8_advance 2 RX8) (hR0 : xR C = rm 3) {post : St → St → Prop} (hR : RV C cX8_advance 2 (fun u : St × St => (wX8 o0 a0 (xy C) u.1 (wT (a0 0) (xy C) u.2 []))) (fun u => post u.1 u.2))  {u0 : St} {u1 : St} (h : qX8_advance_b190 post u0 u1) : G C 0 0 2 (wX8 o0 a0 (xy C) u0 (wT (a0 0) (xy C) u1 [])) 190 [] [] := by
  exact hR _ _ (u0, u1) dX8_advance_190 h
def qX8_advance_b177  (post : St → St → Prop)  (s0 : Int32) (u0 : St) (u1 : St) : Prop := ∀ u_20 : St, u_20 = (si u0 3 s0) → ∀ u_21 : St, u_21 = (si u_20 2 ((gi u_20 2) + (1 : Int32))) → qX8_advance_b190 post u_21 u1
set_option maxRecDepth 100000 in
set_option maxHeartbeats 4000000 in
theorem kX8_advance_b177 {C : Cx} {o0 : Nat} {a0 : Nat → Nat} (hC : Fx C cX8_advance 2 RX8) (hR0 : xR C = rm 3) {post : St → St → Prop} (hR : RV C cX8_advance 2 (fun u : St × St => (wX8 o0 a0 (xy C) u.1 (wT (a0 0) (xy C) u.2 []))) (fun u => post u.1 u.2))  {s0 : Int32} {u0 : St} {u1 : St} (h : qX8_advance_b177 post s0 u0 u1) : G C 0 0 2 (wX8 o0 a0 (xy C) u0 (wT (a0 0) (xy C) u1 [])) 177 [(0, .ref o0)] [.int s0, .ref o0] := by
  refine putX8_3 (pc := 177) hC (F := fun Z => Z) (X := []) (fun _ => rfl) fl_X8_41 dX8_advance_177 ?_
  refine g_st (w := fun z => (wX8 o0 a0 (xy C) z (wT (a0 0) (xy C) u1 []))) (u := (si u0 3 s0)) (fun u_20 eu_20 => ?_)
  have h := h u_20 eu_20
  refine g_aload_n (pc := 180) hC 0 dX8_advance_180 rfl rfl ?_
  refine g_dup (pc := 181) hC dX8_advance_181 rfl ?_
  refine getX8_2 (pc := 182) hC (F := fun Z => Z) (X := []) (fun _ => rfl) fl_X8_25 dX8_advance_182 ?_
  refine g_iconst (pc := 185) (v := 1) hC dX8_advance_185 (by decide) ?_
  refine g_iadd (pc := 186) hC dX8_advance_186 ?_
  refine putX8_2 (pc := 187) hC (F := fun Z => Z) (X := []) (fun _ => rfl) fl_X8_25 dX8_advance_187 ?_
  refine g_st (w := fun z => (wX8 o0 a0 (xy C) z (wT (a0 0) (xy C) u1 []))) (u := (si u_20 2 ((gi u_20 2) + (1 : Int32)))) (fun u_21 eu_21 => ?_)
  have h := h u_21 eu_21
  refine g_sub (lv' := []) [] rfl ?_
  exact kX8_advance_b190 hC hR0 hR  h
def qX8_advance_b172  (post : St → St → Prop)  (u0 : St) (u1 : St) : Prop := qX8_advance_b177 post (3 : Int32) u0 u1
set_option maxRecDepth 100000 in
set_option maxHeartbeats 4000000 in
theorem kX8_advance_b172 {C : Cx} {o0 : Nat} {a0 : Nat → Nat} (hC : Fx C cX8_advance 2 RX8) (hR0 : xR C = rm 3) {post : St → St → Prop} (hR : RV C cX8_advance 2 (fun u : St × St => (wX8 o0 a0 (xy C) u.1 (wT (a0 0) (xy C) u.2 []))) (fun u => post u.1 u.2))  {u0 : St} {u1 : St} (h : qX8_advance_b172 post u0 u1) : G C 0 0 2 (wX8 o0 a0 (xy C) u0 (wT (a0 0) (xy C) u1 [])) 172 [(0, .ref o0)] [.ref o0] := by
  refine g_iconst (pc := 172) (v := 3) hC dX8_advance_172 (by decide) ?_
  refine g_goto (pc := 173) (tgt := 177) hC dX8_advance_173 (by decide) ?_
  exact kX8_advance_b177 hC hR0 hR  h
def qX8_advance_b46  (post : St → St → Prop)  (u0 : St) (u1 : St) : Prop := ∀ u_22 : St, u_22 = (si u0 7 (gi u0 2)) → (((gi u_22 2) < (gi u_22 1) → (vp_in (gi u_22 2) 900 ∧ qX8_isLetter (ga u1 0 ((gi u_22 2)).toNatClampNeg) (fun r_24 => ((r_24 = 0 → (vp_in (gi u_22 2) 900 ∧ qX8_isDigit (ga u1 0 ((gi u_22 2)).toNatClampNeg) (fun r_27 => ((r_27 = 0 → (vp_in (gi u_22 2) 900 ∧ (cz ((((ga u1 0 ((gi u_22 2)).toNatClampNeg) &&& (255 : Int32))).toUInt32 % 65536).toInt32 ∧ ∀ u_30 : St, u_30 = (si u_22 5 ((((ga u1 0 ((gi u_22 2)).toNatClampNeg) &&& (255 : Int32))).toUInt32 % 65536).toInt32) → (((gi u_30 5) = (59 : Int32) → qX8_advance_b172 post u_30 u1) ∧ (¬ (gi u_30 5) = (59 : Int32) → (((gi u_30 5) = (60 : Int32) → qX8_advance_b172 post u_30 u1) ∧ (¬ (gi u_30 5) = (60 : Int32) → (((gi u_30 5) = (62 : Int32) → qX8_advance_b172 post u_30 u1) ∧ (¬ (gi u_30 5) = (62 : Int32) → ((¬ (gi u_30 5) = (61 : Int32) → qX8_advance_b177 post (4 : Int32) u_30 u1) ∧ ((gi u_30 5) = (61 : Int32) → qX8_advance_b172 post u_30 u1))))))))))) ∧ (¬ r_27 = 0 → qX8_readNumber u_22 u1 (fun u_35 u_36 => qX8_advance_b190 post u_35 u_36)))))) ∧ (¬ r_24 = 0 → qX8_readWord u_22 u1 (fun u_38 u_39 => qX8_advance_b190 post u_38 u_39)))))) ∧ (¬ (gi u_22 2) < (gi u_22 1) → ∀ u_41 : St, u_41 = (si u_22 3 (0 : Int32)) → qX8_advance_b190 post u_41 u1))
set_option maxRecDepth 100000 in
set_option maxHeartbeats 4000000 in
theorem kX8_advance_b46 {C : Cx} {o0 : Nat} {a0 : Nat → Nat} (hC : Fx C cX8_advance 2 RX8) (hR0 : xR C = rm 3) {post : St → St → Prop} (hR : RV C cX8_advance 2 (fun u : St × St => (wX8 o0 a0 (xy C) u.1 (wT (a0 0) (xy C) u.2 []))) (fun u => post u.1 u.2))  {u0 : St} {u1 : St} (h : qX8_advance_b46 post u0 u1) : G C 0 0 2 (wX8 o0 a0 (xy C) u0 (wT (a0 0) (xy C) u1 [])) 46 [(0, .ref o0)] [] := by
  refine g_aload_n (pc := 46) hC 0 dX8_advance_46 rfl rfl ?_
  refine g_aload_n (pc := 47) hC 0 dX8_advance_47 rfl rfl ?_
  refine getX8_2 (pc := 48) hC (F := fun Z => Z) (X := []) (fun _ => rfl) fl_X8_25 dX8_advance_48 ?_
  refine putX8_7 (pc := 51) hC (F := fun Z => Z) (X := []) (fun _ => rfl) fl_X8_38 dX8_advance_51 ?_
  refine g_st (w := fun z => (wX8 o0 a0 (xy C) z (wT (a0 0) (xy C) u1 []))) (u := (si u0 7 (gi u0 2))) (fun u_22 eu_22 => ?_)
  have h := h u_22 eu_22
  refine g_aload_n (pc := 54) hC 0 dX8_advance_54 rfl rfl ?_
  refine getX8_2 (pc := 55) hC (F := fun Z => Z) (X := []) (fun _ => rfl) fl_X8_25 dX8_advance_55 ?_
  refine g_aload_n (pc := 58) hC 0 dX8_advance_58 rfl rfl ?_
  refine getX8_1 (pc := 59) hC (F := fun Z => Z) (X := []) (fun _ => rfl) fl_X8_21 dX8_advance_59 ?_
  refine g_icmp_lt (pc := 62) (tgt := 73) hC dX8_advance_62 (by decide) (fun c_23 => ?_) (fun c_23 => ?_)
  · have h := h.1 c_23
    refine g_aload_n (pc := 73) hC 0 dX8_advance_73 rfl rfl ?_
    refine getX8_0 (pc := 74) hC (F := fun Z => Z) (X := []) (fun _ => rfl) fl_X8_9 dX8_advance_74 ?_
    refine g_aload_n (pc := 77) hC 0 dX8_advance_77 rfl rfl ?_
    refine getX8_2 (pc := 78) hC (F := fun Z => Z) (X := []) (fun _ => rfl) fl_X8_25 dX8_advance_78 ?_
    refine aldT (pc := 81) hC (F := fun Z => (wX8 o0 a0 (xy C) u_22 Z)) (X := (wX8 o0 a0 (xy C) u_22 [])) (fun _ => rfl) h.1 dX8_advance_81 ?_
    have h := h.2
    refine g_callS_i (pc := 82) (wd := fun (_ : Unit) Y => Y) (F := fun Z => Z) (X := []) (As := [.int (ga u1 0 ((gi u_22 2)).toNatClampNeg)]) (rest := []) (u := ()) hC (fun _ _ => rfl) (fun _ => rfl) (ctX8_isLetter h) wvX8_isLetter ml_X8_44 rfl (rmok hR0 rfl) ⟨Nat.zero_le _, Nat.zero_le _⟩ rfl (Nat.le_of_ble_eq_true rfl) dX8_advance_82 (fun r_24 u_25 h => ?_)
    refine g_if_eq (pc := 85) (tgt := 95) hC dX8_advance_85 (by decide) (fun c_26 => ?_) (fun c_26 => ?_)
    · have h := h.1 c_26
      refine g_aload_n (pc := 95) hC 0 dX8_advance_95 rfl rfl ?_
      refine getX8_0 (pc := 96) hC (F := fun Z => Z) (X := []) (fun _ => rfl) fl_X8_9 dX8_advance_96 ?_
      refine g_aload_n (pc := 99) hC 0 dX8_advance_99 rfl rfl ?_
      refine getX8_2 (pc := 100) hC (F := fun Z => Z) (X := []) (fun _ => rfl) fl_X8_25 dX8_advance_100 ?_
      refine aldT (pc := 103) hC (F := fun Z => (wX8 o0 a0 (xy C) u_22 Z)) (X := (wX8 o0 a0 (xy C) u_22 [])) (fun _ => rfl) h.1 dX8_advance_103 ?_
      have h := h.2
      refine g_callS_i (pc := 104) (wd := fun (_ : Unit) Y => Y) (F := fun Z => Z) (X := []) (As := [.int (ga u1 0 ((gi u_22 2)).toNatClampNeg)]) (rest := []) (u := ()) hC (fun _ _ => rfl) (fun _ => rfl) (ctX8_isDigit h) wvX8_isDigit ml_X8_50 rfl (rmok hR0 rfl) ⟨Nat.zero_le _, Nat.zero_le _⟩ rfl (Nat.le_of_ble_eq_true rfl) dX8_advance_104 (fun r_27 u_28 h => ?_)
      refine g_if_eq (pc := 107) (tgt := 117) hC dX8_advance_107 (by decide) (fun c_29 => ?_) (fun c_29 => ?_)
      · have h := h.1 c_29
        refine g_aload_n (pc := 117) hC 0 dX8_advance_117 rfl rfl ?_
        refine g_aload_n (pc := 118) hC 0 dX8_advance_118 rfl rfl ?_
        refine getX8_0 (pc := 119) hC (F := fun Z => Z) (X := []) (fun _ => rfl) fl_X8_9 dX8_advance_119 ?_
        refine g_aload_n (pc := 122) hC 0 dX8_advance_122 rfl rfl ?_
        refine getX8_2 (pc := 123) hC (F := fun Z => Z) (X := []) (fun _ => rfl) fl_X8_25 dX8_advance_123 ?_
        refine aldT (pc := 126) hC (F := fun Z => (wX8 o0 a0 (xy C) u_22 Z)) (X := (wX8 o0 a0 (xy C) u_22 [])) (fun _ => rfl) h.1 dX8_advance_126 ?_
        have h := h.2
        refine g_sipush (pc := 127) (v := 255) hC dX8_advance_127 (by decide) ?_
        refine g_iand (pc := 130) hC dX8_advance_130 ?_
        refine g_i2c (pc := 131) hC dX8_advance_131 ?_
        refine putX8_5 (pc := 132) hC (F := fun Z => Z) (X := []) (fun _ => rfl) fl_X8_56 h.1 dX8_advance_132 ?_
        have h := h.2
        refine g_st (w := fun z => (wX8 o0 a0 (xy C) z (wT (a0 0) (xy C) u1 []))) (u := (si u_22 5 ((((ga u1 0 ((gi u_22 2)).toNatClampNeg) &&& (255 : Int32))).toUInt32 % 65536).toInt32)) (fun u_30 eu_30 => ?_)
        have h := h u_30 eu_30
        refine g_aload_n (pc := 135) hC 0 dX8_advance_135 rfl rfl ?_
        refine g_aload_n (pc := 136) hC 0 dX8_advance_136 rfl rfl ?_
        refine getX8_5 (pc := 137) hC (F := fun Z => Z) (X := []) (fun _ => rfl) fl_X8_56 dX8_advance_137 ?_
        refine g_bipush (pc := 140) (v := 59) hC dX8_advance_140 (by decide) ?_
        refine g_icmp_eq (pc := 142) (tgt := 172) hC dX8_advance_142 (by decide) (fun c_31 => ?_) (fun c_31 => ?_)
        · have h := h.1 c_31
          exact kX8_advance_b172 hC hR0 hR  h
        · have h := h.2 c_31
          refine g_aload_n (pc := 145) hC 0 dX8_advance_145 rfl rfl ?_
          refine getX8_5 (pc := 146) hC (F := fun Z => Z) (X := []) (fun _ => rfl) fl_X8_56 dX8_advance_146 ?_
          refine g_bipush (pc := 149) (v := 60) hC dX8_advance_149 (by decide) ?_
          refine g_icmp_eq (pc := 151) (tgt := 172) hC dX8_advance_151 (by decide) (fun c_32 => ?_) (fun c_32 => ?_)
          · have h := h.1 c_32
            exact kX8_advance_b172 hC hR0 hR  h
          · have h := h.2 c_32
            refine g_aload_n (pc := 154) hC 0 dX8_advance_154 rfl rfl ?_
            refine getX8_5 (pc := 155) hC (F := fun Z => Z) (X := []) (fun _ => rfl) fl_X8_56 dX8_advance_155 ?_
            refine g_bipush (pc := 158) (v := 62) hC dX8_advance_158 (by decide) ?_
            refine g_icmp_eq (pc := 160) (tgt := 172) hC dX8_advance_160 (by decide) (fun c_33 => ?_) (fun c_33 => ?_)
            · have h := h.1 c_33
              exact kX8_advance_b172 hC hR0 hR  h
            · have h := h.2 c_33
              refine g_aload_n (pc := 163) hC 0 dX8_advance_163 rfl rfl ?_
              refine getX8_5 (pc := 164) hC (F := fun Z => Z) (X := []) (fun _ => rfl) fl_X8_56 dX8_advance_164 ?_
              refine g_bipush (pc := 167) (v := 61) hC dX8_advance_167 (by decide) ?_
              refine g_icmp_ne (pc := 169) (tgt := 176) hC dX8_advance_169 (by decide) (fun c_34 => ?_) (fun c_34 => ?_)
              · have h := h.1 c_34
                refine g_iconst (pc := 176) (v := 4) hC dX8_advance_176 (by decide) ?_
                exact kX8_advance_b177 hC hR0 hR  h
              · have h := h.2 c_34
                exact kX8_advance_b172 hC hR0 hR  h
      · have h := h.2 c_29
        refine g_aload_n (pc := 110) hC 0 dX8_advance_110 rfl rfl ?_
        refine g_callV_v (pc := 111) (wd := fun (u : St × St) Y => (wX8 o0 a0 (xy C) u.1 (wT (a0 0) (xy C) u.2 Y))) (F := fun Z => Z) (X := []) (As := []) (rest := []) (u := (u_22, u1)) hC (fun _ _ => rfl) (fun _ => rfl) (ctX8_readNumber h) wvX8_readNumber ml_X8_53 (ci := 7) (q0 := 0) rfl rfl rfl rfl (rmok hR0 rfl) ⟨Nat.zero_le _, Nat.zero_le _⟩ rfl (Nat.le_of_ble_eq_true rfl) dX8_advance_111 (fun u_37 h => ?_)
        obtain ⟨u_35, u_36⟩ := u_37
        refine g_goto (pc := 114) (tgt := 190) hC dX8_advance_114 (by decide) ?_
        refine g_sub (lv' := []) [] rfl ?_
        exact kX8_advance_b190 hC hR0 hR  h
    · have h := h.2 c_26
      refine g_aload_n (pc := 88) hC 0 dX8_advance_88 rfl rfl ?_
      refine g_callV_v (pc := 89) (wd := fun (u : St × St) Y => (wX8 o0 a0 (xy C) u.1 (wT (a0 0) (xy C) u.2 Y))) (F := fun Z => Z) (X := []) (As := []) (rest := []) (u := (u_22, u1)) hC (fun _ _ => rfl) (fun _ => rfl) (ctX8_readWord h) wvX8_readWord ml_X8_47 (ci := 7) (q0 := 0) rfl rfl rfl rfl (rmok hR0 rfl) ⟨Nat.zero_le _, Nat.zero_le _⟩ rfl (Nat.le_of_ble_eq_true rfl) dX8_advance_89 (fun u_40 h => ?_)
      obtain ⟨u_38, u_39⟩ := u_40
      refine g_goto (pc := 92) (tgt := 190) hC dX8_advance_92 (by decide) ?_
      refine g_sub (lv' := []) [] rfl ?_
      exact kX8_advance_b190 hC hR0 hR  h
  · have h := h.2 c_23
    refine g_aload_n (pc := 65) hC 0 dX8_advance_65 rfl rfl ?_
    refine g_iconst (pc := 66) (v := 0) hC dX8_advance_66 (by decide) ?_
    refine putX8_3 (pc := 67) hC (F := fun Z => Z) (X := []) (fun _ => rfl) fl_X8_41 dX8_advance_67 ?_
    refine g_st (w := fun z => (wX8 o0 a0 (xy C) z (wT (a0 0) (xy C) u1 []))) (u := (si u_22 3 (0 : Int32))) (fun u_41 eu_41 => ?_)
    have h := h u_41 eu_41
    refine g_goto (pc := 70) (tgt := 190) hC dX8_advance_70 (by decide) ?_
    refine g_sub (lv' := []) [] rfl ?_
    exact kX8_advance_b190 hC hR0 hR  h
def qX8_advance_l13  (post : St → St → Prop) (K13 : Int32 → St → St → Prop) (x1 : Int32) (u0 : St) (u1 : St) : Prop := (((gi u0 1) ≤ x1 → qX8_advance_b46 post u0 u1) ∧ (¬ (gi u0 1) ≤ x1 → (vp_in x1 900 ∧ qX8_isBlank (ga u1 0 (x1).toNatClampNeg) (fun r_43 => ((r_43 = 0 → qX8_advance_b46 post u0 u1) ∧ (¬ r_43 = 0 → ∀ u_46 : St, u_46 = (si u0 2 (x1 + (1 : Int32))) → ∀ x1_47 : Int32, x1_47 = x1 + (1 : Int32) → K13 x1_47 u_46 u1))))))
set_option maxRecDepth 100000 in
set_option maxHeartbeats 4000000 in
theorem kX8_advance_l13 {C : Cx} {o0 : Nat} {a0 : Nat → Nat} (hC : Fx C cX8_advance 2 RX8) (hR0 : xR C = rm 3) {post : St → St → Prop} (hR : RV C cX8_advance 2 (fun u : St × St => (wX8 o0 a0 (xy C) u.1 (wT (a0 0) (xy C) u.2 []))) (fun u => post u.1 u.2))  {K13 : Int32 → St → St → Prop} (hK13 : ∀ (x1 : Int32) (u0 : St) (u1 : St), K13 x1 u0 u1 → G C 0 0 2 (wX8 o0 a0 (xy C) u0 (wT (a0 0) (xy C) u1 [])) 13 [(0, .ref o0), (1, .int x1)] []) {x1 : Int32} {u0 : St} {u1 : St} (h : qX8_advance_l13 post K13 x1 u0 u1) : G C 0 0 2 (wX8 o0 a0 (xy C) u0 (wT (a0 0) (xy C) u1 [])) 13 [(0, .ref o0), (1, .int x1)] [] := by
  refine g_iload_n (pc := 13) hC 1 dX8_advance_13 rfl rfl ?_
  refine g_aload_n (pc := 14) hC 0 dX8_advance_14 rfl rfl ?_
  refine getX8_1 (pc := 15) hC (F := fun Z => Z) (X := []) (fun _ => rfl) fl_X8_21 dX8_advance_15 ?_
  refine g_icmp_ge (pc := 18) (tgt := 46) hC dX8_advance_18 (by decide) (fun c_42 => ?_) (fun c_42 => ?_)
  · have h := h.1 c_42
    refine g_sub (lv' := [(0, .ref o0)]) [0] rfl ?_
    exact kX8_advance_b46 hC hR0 hR  h
  · have h := h.2 c_42
    refine g_aload_n (pc := 21) hC 0 dX8_advance_21 rfl rfl ?_
    refine getX8_0 (pc := 22) hC (F := fun Z => Z) (X := []) (fun _ => rfl) fl_X8_9 dX8_advance_22 ?_
    refine g_iload_n (pc := 25) hC 1 dX8_advance_25 rfl rfl ?_
    refine aldT (pc := 26) hC (F := fun Z => (wX8 o0 a0 (xy C) u0 Z)) (X := (wX8 o0 a0 (xy C) u0 [])) (fun _ => rfl) h.1 dX8_advance_26 ?_
    have h := h.2
    refine g_callS_i (pc := 27) (wd := fun (_ : Unit) Y => Y) (F := fun Z => Z) (X := []) (As := [.int (ga u1 0 (x1).toNatClampNeg)]) (rest := []) (u := ()) hC (fun _ _ => rfl) (fun _ => rfl) (ctX8_isBlank h) wvX8_isBlank ml_X8_34 rfl (rmok hR0 rfl) ⟨Nat.zero_le _, Nat.zero_le _⟩ rfl (Nat.le_of_ble_eq_true rfl) dX8_advance_27 (fun r_43 u_44 h => ?_)
    refine g_if_eq (pc := 30) (tgt := 46) hC dX8_advance_30 (by decide) (fun c_45 => ?_) (fun c_45 => ?_)
    · have h := h.1 c_45
      refine g_sub (lv' := [(0, .ref o0)]) [0] rfl ?_
      exact kX8_advance_b46 hC hR0 hR  h
    · have h := h.2 c_45
      refine g_aload_n (pc := 33) hC 0 dX8_advance_33 rfl rfl ?_
      refine g_iload_n (pc := 34) hC 1 dX8_advance_34 rfl rfl ?_
      refine g_iconst (pc := 35) (v := 1) hC dX8_advance_35 (by decide) ?_
      refine g_iadd (pc := 36) hC dX8_advance_36 ?_
      refine putX8_2 (pc := 37) hC (F := fun Z => Z) (X := []) (fun _ => rfl) fl_X8_25 dX8_advance_37 ?_
      refine g_st (w := fun z => (wX8 o0 a0 (xy C) z (wT (a0 0) (xy C) u1 []))) (u := (si u0 2 (x1 + (1 : Int32)))) (fun u_46 eu_46 => ?_)
      have h := h u_46 eu_46
      obtain ⟨x1_47, ex1_47⟩ : ∃ z : Int32, z = x1 + (1 : Int32) := ⟨_, rfl⟩
      have h := h x1_47 ex1_47
      refine g_iinc (pc := 40) (v := x1_47) (lv' := [(1, .int x1_47), (0, .ref o0)]) hC 1 dX8_advance_40 rfl (by rw [ex1_47]; rfl) (Nat.le_of_ble_eq_true rfl) rfl ?_
      refine g_goto (pc := 43) (tgt := 13) hC dX8_advance_43 (by decide) ?_
      refine g_sub (lv' := [(0, .ref o0), (1, .int x1_47)]) [1, 0] rfl ?_
      exact hK13 _ _ _ h
def qX8_advance_L13  (post : St → St → Prop)  : Nat → Int32 → St → St → Prop
  | 0 => fun _ _ _ => False
  | n + 1 => qX8_advance_l13 post (qX8_advance_L13 post n)
theorem kX8_advance_L13 {C : Cx} {o0 : Nat} {a0 : Nat → Nat} (hC : Fx C cX8_advance 2 RX8) (hR0 : xR C = rm 3) {post : St → St → Prop} (hR : RV C cX8_advance 2 (fun u : St × St => (wX8 o0 a0 (xy C) u.1 (wT (a0 0) (xy C) u.2 []))) (fun u => post u.1 u.2))  : ∀ (n : Nat) (x1 : Int32) (u0 : St) (u1 : St), qX8_advance_L13 post n x1 u0 u1 → G C 0 0 2 (wX8 o0 a0 (xy C) u0 (wT (a0 0) (xy C) u1 [])) 13 [(0, .ref o0), (1, .int x1)] [] := by
  intro n
  induction n with
  | zero => intro x1 u0 u1 h; exact h.elim
  | succ n ih => intro x1 u0 u1 h; exact kX8_advance_l13 hC hR0 hR  ih h
def qX8_advance  (u0 : St) (u1 : St) (post : St → St → Prop) : Prop := (((gi u0 8) = 0 → ∀ x1_49 : Int32, x1_49 = (gi u0 2) → ∃ n_50 : Nat, qX8_advance_L13 post n_50 x1_49 u0 u1) ∧ (¬ (gi u0 8) = 0 → post u0 u1))
set_option maxRecDepth 100000 in
set_option maxHeartbeats 4000000 in
theorem kX8_advance {C : Cx} {o0 : Nat} {a0 : Nat → Nat} (hC : Fx C cX8_advance 2 RX8) (hR0 : xR C = rm 3) {post : St → St → Prop} (hR : RV C cX8_advance 2 (fun u : St × St => (wX8 o0 a0 (xy C) u.1 (wT (a0 0) (xy C) u.2 []))) (fun u => post u.1 u.2))  {u0 : St} {u1 : St} (h : qX8_advance  u0 u1 post) : G C 0 0 2 (wX8 o0 a0 (xy C) u0 (wT (a0 0) (xy C) u1 [])) 0 [(0, .ref o0)] [] := by
  refine g_aload_n (pc := 0) hC 0 dX8_advance_0 rfl rfl ?_
  refine getX8_8 (pc := 1) hC (F := fun Z => Z) (X := []) (fun _ => rfl) fl_X8_28 dX8_advance_1 ?_
  refine g_if_eq (pc := 4) (tgt := 8) hC dX8_advance_4 (by decide) (fun c_48 => ?_) (fun c_48 => ?_)
  · have h := h.1 c_48
    refine g_aload_n (pc := 8) hC 0 dX8_advance_8 rfl rfl ?_
    refine getX8_2 (pc := 9) hC (F := fun Z => Z) (X := []) (fun _ => rfl) fl_X8_25 dX8_advance_9 ?_
    refine g_topi (fun x1_49 ex1_49 => ?_)
    have h := h x1_49 ex1_49
    refine g_istore_n (pc := 12) (lv' := [(1, .int x1_49), (0, .ref o0)]) hC dX8_advance_12 rfl (Nat.le_of_ble_eq_true rfl) rfl ?_
    refine g_sub (lv' := [(0, .ref o0), (1, .int x1_49)]) [1, 0] rfl ?_
    obtain ⟨n_50, h⟩ := h
    exact kX8_advance_L13 hC hR0 hR  n_50 _ _ _ h
  · have h := h.2 c_48
    exact hR _ _ (u0, u1) dX8_advance_7 h
theorem ctX8_advance {l : Launch} {D : va_G} {cy : Nat → ClassId} {kd : Nat → Nat} {o0 : Nat} {a0 : Nat → Nat}  {u0 : St} {u1 : St} {post : St → St → Prop} (h : qX8_advance  u0 u1 post) : CtV l D cy kd yX8_advance cX8_advance 2 3  [.ref o0] (fun u : St × St => (wX8 o0 a0 cy u.1 (wT (a0 0) cy u.2 []))) (u0, u1) (fun u => post u.1 u.2) := met_v (by decide) (Nat.le_of_ble_eq_true rfl) (fun C e1 e2 e3 e4 e5 hC hR => by subst e1 e2 e3 e4; exact kX8_advance hC e5 hR h)
theorem dX8_begin_0 : decode cX8_begin 0 = .ok (.aload_n 0, 1) := by decide +kernel
theorem dX8_begin_1 : decode cX8_begin 1 = .ok (.iload_n 1, 1) := by decide +kernel
theorem dX8_begin_2 : decode cX8_begin 2 = .ok (.aload_n 0, 1) := by decide +kernel
theorem dX8_begin_3 : decode cX8_begin 3 = .ok (.getfield 9, 3) := by decide +kernel
theorem dX8_begin_6 : decode cX8_begin 6 = .ok (.arraylength, 1) := by decide +kernel
theorem dX8_begin_7 : decode cX8_begin 7 = .ok (.invokestatic 15, 3) := by decide +kernel
theorem dX8_begin_10 : decode cX8_begin 10 = .ok (.putfield 21, 3) := by decide +kernel
theorem dX8_begin_13 : decode cX8_begin 13 = .ok (.aload_n 0, 1) := by decide +kernel
theorem dX8_begin_14 : decode cX8_begin 14 = .ok (.iconst 0, 1) := by decide +kernel
theorem dX8_begin_15 : decode cX8_begin 15 = .ok (.putfield 25, 3) := by decide +kernel
theorem dX8_begin_18 : decode cX8_begin 18 = .ok (.aload_n 0, 1) := by decide +kernel
theorem dX8_begin_19 : decode cX8_begin 19 = .ok (.iconst 0, 1) := by decide +kernel
theorem dX8_begin_20 : decode cX8_begin 20 = .ok (.putfield 28, 3) := by decide +kernel
theorem dX8_begin_23 : decode cX8_begin 23 = .ok (.aload_n 0, 1) := by decide +kernel
theorem dX8_begin_24 : decode cX8_begin 24 = .ok (.invokevirtual 31, 3) := by decide +kernel
theorem dX8_begin_27 : decode cX8_begin 27 = .ok (.return_, 1) := by decide +kernel
def qX8_begin (x1 : Int32) (u0 : St) (u1 : St) (post : St → St → Prop) : Prop := ∀ u_7 : St, u_7 = (si u0 1 (if (900 : Int32) < x1 then (900 : Int32) else x1)) → ∀ u_8 : St, u_8 = (si u_7 2 (0 : Int32)) → ∀ u_9 : St, u_9 = (si u_8 8 (0 : Int32)) → qX8_advance u_9 u1 (fun u_10 u_11 => post u_10 u_11)
set_option maxRecDepth 100000 in
set_option maxHeartbeats 4000000 in
theorem kX8_begin {C : Cx} {o0 : Nat} {a0 : Nat → Nat} (hC : Fx C cX8_begin 2 RX8) (hR0 : xR C = rm 4) {post : St → St → Prop} (hR : RV C cX8_begin 2 (fun u : St × St => (wX8 o0 a0 (xy C) u.1 (wT (a0 0) (xy C) u.2 []))) (fun u => post u.1 u.2)) {x1 : Int32} {u0 : St} {u1 : St} (h : qX8_begin x1 u0 u1 post) : G C 0 0 2 (wX8 o0 a0 (xy C) u0 (wT (a0 0) (xy C) u1 [])) 0 [(0, .ref o0), (1, .int x1)] [] := by
  refine g_aload_n (pc := 0) hC 0 dX8_begin_0 rfl rfl ?_
  refine g_iload_n (pc := 1) hC 1 dX8_begin_1 rfl rfl ?_
  refine g_aload_n (pc := 2) hC 0 dX8_begin_2 rfl rfl ?_
  refine getX8_0 (pc := 3) hC (F := fun Z => Z) (X := []) (fun _ => rfl) fl_X8_9 dX8_begin_3 ?_
  refine g_alenT (pc := 6) hC (F := fun Z => (wX8 o0 a0 (xy C) u0 Z)) (X := (wX8 o0 a0 (xy C) u0 [])) (fun _ => rfl) dX8_begin_6 ?_
  refine g_mmin (pc := 7) hC hR0 ml_X8_15 dX8_begin_7 (Nat.le_of_ble_eq_true rfl) ?_
  refine putX8_1 (pc := 10) hC (F := fun Z => Z) (X := []) (fun _ => rfl) fl_X8_21 dX8_begin_10 ?_
  refine g_st (w := fun z => (wX8 o0 a0 (xy C) z (wT (a0 0) (xy C) u1 []))) (u := (si u0 1 (if (900 : Int32) < x1 then (900 : Int32) else x1))) (fun u_7 eu_7 => ?_)
  have h := h u_7 eu_7
  refine g_aload_n (pc := 13) hC 0 dX8_begin_13 rfl rfl ?_
  refine g_iconst (pc := 14) (v := 0) hC dX8_begin_14 (by decide) ?_
  refine putX8_2 (pc := 15) hC (F := fun Z => Z) (X := []) (fun _ => rfl) fl_X8_25 dX8_begin_15 ?_
  refine g_st (w := fun z => (wX8 o0 a0 (xy C) z (wT (a0 0) (xy C) u1 []))) (u := (si u_7 2 (0 : Int32))) (fun u_8 eu_8 => ?_)
  have h := h u_8 eu_8
  refine g_aload_n (pc := 18) hC 0 dX8_begin_18 rfl rfl ?_
  refine g_iconst (pc := 19) (v := 0) hC dX8_begin_19 (by decide) ?_
  refine putX8_8 (pc := 20) hC (F := fun Z => Z) (X := []) (fun _ => rfl) fl_X8_28 dX8_begin_20 ?_
  refine g_st (w := fun z => (wX8 o0 a0 (xy C) z (wT (a0 0) (xy C) u1 []))) (u := (si u_8 8 (0 : Int32))) (fun u_9 eu_9 => ?_)
  have h := h u_9 eu_9
  refine g_aload_n (pc := 23) hC 0 dX8_begin_23 rfl rfl ?_
  refine g_callV_v (pc := 24) (wd := fun (u : St × St) Y => (wX8 o0 a0 (xy C) u.1 (wT (a0 0) (xy C) u.2 Y))) (F := fun Z => Z) (X := []) (As := []) (rest := []) (u := (u_9, u1)) hC (fun _ _ => rfl) (fun _ => rfl) (ctX8_advance h) wvX8_advance ml_X8_31 (ci := 7) (q0 := 0) rfl rfl rfl rfl (rmok hR0 rfl) ⟨Nat.zero_le _, Nat.zero_le _⟩ rfl (Nat.le_of_ble_eq_true rfl) dX8_begin_24 (fun u_12 h => ?_)
  obtain ⟨u_10, u_11⟩ := u_12
  exact hR _ _ (u_10, u_11) dX8_begin_27 h
theorem ctX8_begin {l : Launch} {D : va_G} {cy : Nat → ClassId} {kd : Nat → Nat} {o0 : Nat} {a0 : Nat → Nat} {x1 : Int32} {u0 : St} {u1 : St} {post : St → St → Prop} (h : qX8_begin x1 u0 u1 post) : CtV l D cy kd yX8_begin cX8_begin 2 4  [.ref o0, .int x1] (fun u : St × St => (wX8 o0 a0 cy u.1 (wT (a0 0) cy u.2 []))) (u0, u1) (fun u => post u.1 u.2) := met_v (by decide) (Nat.le_of_ble_eq_true rfl) (fun C e1 e2 e3 e4 e5 hC hR => by subst e1 e2 e3 e4; exact kX8_begin hC e5 hR h)
theorem dX8_fail_0 : decode cX8_fail 0 = .ok (.aload_n 0, 1) := by decide +kernel
theorem dX8_fail_1 : decode cX8_fail 1 = .ok (.getfield 28, 3) := by decide +kernel
theorem dX8_fail_4 : decode cX8_fail 4 = .ok (.ifCond .ne 20, 3) := by decide +kernel
theorem dX8_fail_7 : decode cX8_fail 7 = .ok (.aload_n 0, 1) := by decide +kernel
theorem dX8_fail_8 : decode cX8_fail 8 = .ok (.aload_n 0, 1) := by decide +kernel
theorem dX8_fail_9 : decode cX8_fail 9 = .ok (.getfield 41, 3) := by decide +kernel
theorem dX8_fail_12 : decode cX8_fail 12 = .ok (.iconst 4, 1) := by decide +kernel
theorem dX8_fail_13 : decode cX8_fail 13 = .ok (.if_icmp .ne 7, 3) := by decide +kernel
theorem dX8_fail_16 : decode cX8_fail 16 = .ok (.iconst 1, 1) := by decide +kernel
theorem dX8_fail_17 : decode cX8_fail 17 = .ok (.goto 4, 3) := by decide +kernel
theorem dX8_fail_20 : decode cX8_fail 20 = .ok (.iload_n 1, 1) := by decide +kernel
theorem dX8_fail_21 : decode cX8_fail 21 = .ok (.putfield 28, 3) := by decide +kernel
theorem dX8_fail_24 : decode cX8_fail 24 = .ok (.iconst (-1), 1) := by decide +kernel
theorem dX8_fail_25 : decode cX8_fail 25 = .ok (.ireturn, 1) := by decide +kernel
def qX8_fail_b24  (post : Int32 → St → St → Prop)  (u0 : St) (u1 : St) : Prop := post (-1 : Int32) u0 u1
set_option maxRecDepth 100000 in
set_option maxHeartbeats 4000000 in
theorem kX8_fail_b24 {C : Cx} {o0 : Nat} {a0 : Nat → Nat} (hC : Fx C cX8_fail 2 RX8) (hR0 : xR C = rm 1) {post : Int32 → St → St → Prop} (hR : RI C cX8_fail 2 (fun u : St × St => (wX8 o0 a0 (xy C) u.1 (wT (a0 0) (xy C) u.2 []))) (fun r u => post r u.1 u.2))  {u0 : St} {u1 : St} (h : qX8_fail_b24 post u0 u1) : G C 0 0 2 (wX8 o0 a0 (xy C) u0 (wT (a0 0) (xy C) u1 [])) 24 [] [] := by
  refine g_iconst (pc := 24) (v := -1) hC dX8_fail_24 (by decide) ?_
  exact hR _ _ _ (u0, u1) dX8_fail_25 h
def qX8_fail_b21  (post : Int32 → St → St → Prop)  (s0 : Int32) (u0 : St) (u1 : St) : Prop := ∀ u_2 : St, u_2 = (si u0 8 s0) → qX8_fail_b24 post u_2 u1
set_option maxRecDepth 100000 in
set_option maxHeartbeats 4000000 in
theorem kX8_fail_b21 {C : Cx} {o0 : Nat} {a0 : Nat → Nat} (hC : Fx C cX8_fail 2 RX8) (hR0 : xR C = rm 1) {post : Int32 → St → St → Prop} (hR : RI C cX8_fail 2 (fun u : St × St => (wX8 o0 a0 (xy C) u.1 (wT (a0 0) (xy C) u.2 []))) (fun r u => post r u.1 u.2))  {s0 : Int32} {u0 : St} {u1 : St} (h : qX8_fail_b21 post s0 u0 u1) : G C 0 0 2 (wX8 o0 a0 (xy C) u0 (wT (a0 0) (xy C) u1 [])) 21 [] [.int s0, .ref o0] := by
  refine putX8_8 (pc := 21) hC (F := fun Z => Z) (X := []) (fun _ => rfl) fl_X8_28 dX8_fail_21 ?_
  refine g_st (w := fun z => (wX8 o0 a0 (xy C) z (wT (a0 0) (xy C) u1 []))) (u := (si u0 8 s0)) (fun u_2 eu_2 => ?_)
  have h := h u_2 eu_2
  exact kX8_fail_b24 hC hR0 hR  h
def qX8_fail (x1 : Int32) (u0 : St) (u1 : St) (post : Int32 → St → St → Prop) : Prop := ((¬ (gi u0 8) = 0 → qX8_fail_b24 post u0 u1) ∧ ((gi u0 8) = 0 → ((¬ (gi u0 3) = (4 : Int32) → qX8_fail_b21 post x1 u0 u1) ∧ ((gi u0 3) = (4 : Int32) → qX8_fail_b21 post (1 : Int32) u0 u1))))
set_option maxRecDepth 100000 in
set_option maxHeartbeats 4000000 in
theorem kX8_fail {C : Cx} {o0 : Nat} {a0 : Nat → Nat} (hC : Fx C cX8_fail 2 RX8) (hR0 : xR C = rm 1) {post : Int32 → St → St → Prop} (hR : RI C cX8_fail 2 (fun u : St × St => (wX8 o0 a0 (xy C) u.1 (wT (a0 0) (xy C) u.2 []))) (fun r u => post r u.1 u.2)) {x1 : Int32} {u0 : St} {u1 : St} (h : qX8_fail x1 u0 u1 post) : G C 0 0 2 (wX8 o0 a0 (xy C) u0 (wT (a0 0) (xy C) u1 [])) 0 [(0, .ref o0), (1, .int x1)] [] := by
  refine g_aload_n (pc := 0) hC 0 dX8_fail_0 rfl rfl ?_
  refine getX8_8 (pc := 1) hC (F := fun Z => Z) (X := []) (fun _ => rfl) fl_X8_28 dX8_fail_1 ?_
  refine g_if_ne (pc := 4) (tgt := 24) hC dX8_fail_4 (by decide) (fun c_3 => ?_) (fun c_3 => ?_)
  · have h := h.1 c_3
    refine g_sub (lv' := []) [] rfl ?_
    exact kX8_fail_b24 hC hR0 hR  h
  · have h := h.2 c_3
    refine g_aload_n (pc := 7) hC 0 dX8_fail_7 rfl rfl ?_
    refine g_aload_n (pc := 8) hC 0 dX8_fail_8 rfl rfl ?_
    refine getX8_3 (pc := 9) hC (F := fun Z => Z) (X := []) (fun _ => rfl) fl_X8_41 dX8_fail_9 ?_
    refine g_iconst (pc := 12) (v := 4) hC dX8_fail_12 (by decide) ?_
    refine g_icmp_ne (pc := 13) (tgt := 20) hC dX8_fail_13 (by decide) (fun c_4 => ?_) (fun c_4 => ?_)
    · have h := h.1 c_4
      refine g_iload_n (pc := 20) hC 1 dX8_fail_20 rfl rfl ?_
      refine g_sub (lv' := []) [] rfl ?_
      exact kX8_fail_b21 hC hR0 hR  h
    · have h := h.2 c_4
      refine g_iconst (pc := 16) (v := 1) hC dX8_fail_16 (by decide) ?_
      refine g_goto (pc := 17) (tgt := 21) hC dX8_fail_17 (by decide) ?_
      refine g_sub (lv' := []) [] rfl ?_
      exact kX8_fail_b21 hC hR0 hR  h
theorem ctX8_fail {l : Launch} {D : va_G} {cy : Nat → ClassId} {kd : Nat → Nat} {o0 : Nat} {a0 : Nat → Nat} {x1 : Int32} {u0 : St} {u1 : St} {post : Int32 → St → St → Prop} (h : qX8_fail x1 u0 u1 post) : CtI l D cy kd yX8_fail cX8_fail 2 1 .int [.ref o0, .int x1] (fun u : St × St => (wX8 o0 a0 cy u.1 (wT (a0 0) cy u.2 []))) (u0, u1) (fun r u => post r u.1 u.2) := met_i (by decide) (Nat.le_of_ble_eq_true rfl) (fun C e1 e2 e3 e4 e5 hC hR => by subst e1 e2 e3 e4; exact kX8_fail hC e5 hR h)
theorem dX8_isAtEnd_0 : decode cX8_isAtEnd 0 = .ok (.aload_n 0, 1) := by decide +kernel
theorem dX8_isAtEnd_1 : decode cX8_isAtEnd 1 = .ok (.getfield 41, 3) := by decide +kernel
theorem dX8_isAtEnd_4 : decode cX8_isAtEnd 4 = .ok (.ifCond .ne 7, 3) := by decide +kernel
theorem dX8_isAtEnd_7 : decode cX8_isAtEnd 7 = .ok (.iconst 1, 1) := by decide +kernel
theorem dX8_isAtEnd_8 : decode cX8_isAtEnd 8 = .ok (.goto 4, 3) := by decide +kernel
theorem dX8_isAtEnd_11 : decode cX8_isAtEnd 11 = .ok (.iconst 0, 1) := by decide +kernel
theorem dX8_isAtEnd_12 : decode cX8_isAtEnd 12 = .ok (.ireturn, 1) := by decide +kernel
def qX8_isAtEnd_b12  (post : Int32 → St → St → Prop)  (s0 : Int32) (u0 : St) (u1 : St) : Prop := (bz s0 ∧ post s0 u0 u1)
set_option maxRecDepth 100000 in
set_option maxHeartbeats 4000000 in
theorem kX8_isAtEnd_b12 {C : Cx} {o0 : Nat} {a0 : Nat → Nat} (hC : Fx C cX8_isAtEnd 1 RX8) (hR0 : xR C = rm 1) {post : Int32 → St → St → Prop} (hR : RZ C cX8_isAtEnd 1 (fun u : St × St => (wX8 o0 a0 (xy C) u.1 (wT (a0 0) (xy C) u.2 []))) (fun r u => post r u.1 u.2))  {s0 : Int32} {u0 : St} {u1 : St} (h : qX8_isAtEnd_b12 post s0 u0 u1) : G C 0 0 1 (wX8 o0 a0 (xy C) u0 (wT (a0 0) (xy C) u1 [])) 12 [] [.int s0] := by
  exact hR _ _ _ (u0, u1) dX8_isAtEnd_12 h.1 h.2
def qX8_isAtEnd  (u0 : St) (u1 : St) (post : Int32 → St → St → Prop) : Prop := ((¬ (gi u0 3) = 0 → qX8_isAtEnd_b12 post (0 : Int32) u0 u1) ∧ ((gi u0 3) = 0 → qX8_isAtEnd_b12 post (1 : Int32) u0 u1))
set_option maxRecDepth 100000 in
set_option maxHeartbeats 4000000 in
theorem kX8_isAtEnd {C : Cx} {o0 : Nat} {a0 : Nat → Nat} (hC : Fx C cX8_isAtEnd 1 RX8) (hR0 : xR C = rm 1) {post : Int32 → St → St → Prop} (hR : RZ C cX8_isAtEnd 1 (fun u : St × St => (wX8 o0 a0 (xy C) u.1 (wT (a0 0) (xy C) u.2 []))) (fun r u => post r u.1 u.2))  {u0 : St} {u1 : St} (h : qX8_isAtEnd  u0 u1 post) : G C 0 0 1 (wX8 o0 a0 (xy C) u0 (wT (a0 0) (xy C) u1 [])) 0 [(0, .ref o0)] [] := by
  refine g_aload_n (pc := 0) hC 0 dX8_isAtEnd_0 rfl rfl ?_
  refine getX8_3 (pc := 1) hC (F := fun Z => Z) (X := []) (fun _ => rfl) fl_X8_41 dX8_isAtEnd_1 ?_
  refine g_if_ne (pc := 4) (tgt := 11) hC dX8_isAtEnd_4 (by decide) (fun c_1 => ?_) (fun c_1 => ?_)
  · have h := h.1 c_1
    refine g_iconst (pc := 11) (v := 0) hC dX8_isAtEnd_11 (by decide) ?_
    refine g_sub (lv' := []) [] rfl ?_
    exact kX8_isAtEnd_b12 hC hR0 hR  h
  · have h := h.2 c_1
    refine g_iconst (pc := 7) (v := 1) hC dX8_isAtEnd_7 (by decide) ?_
    refine g_goto (pc := 8) (tgt := 12) hC dX8_isAtEnd_8 (by decide) ?_
    refine g_sub (lv' := []) [] rfl ?_
    exact kX8_isAtEnd_b12 hC hR0 hR  h
theorem ctX8_isAtEnd {l : Launch} {D : va_G} {cy : Nat → ClassId} {kd : Nat → Nat} {o0 : Nat} {a0 : Nat → Nat}  {u0 : St} {u1 : St} {post : Int32 → St → St → Prop} (h : qX8_isAtEnd  u0 u1 post) : CtI l D cy kd yX8_isAtEnd cX8_isAtEnd 1 1 .boolean [.ref o0] (fun u : St × St => (wX8 o0 a0 cy u.1 (wT (a0 0) cy u.2 []))) (u0, u1) (fun r u => post r u.1 u.2) := met_z (by decide) (Nat.le_of_ble_eq_true rfl) (fun C e1 e2 e3 e4 e5 hC hR => by subst e1 e2 e3 e4; exact kX8_isAtEnd hC e5 hR h)
theorem dX8_isAt_0 : decode cX8_isAt 0 = .ok (.aload_n 0, 1) := by decide +kernel
theorem dX8_isAt_1 : decode cX8_isAt 1 = .ok (.getfield 28, 3) := by decide +kernel
theorem dX8_isAt_4 : decode cX8_isAt 4 = .ok (.ifCond .ne 27, 3) := by decide +kernel
theorem dX8_isAt_7 : decode cX8_isAt 7 = .ok (.aload_n 0, 1) := by decide +kernel
theorem dX8_isAt_8 : decode cX8_isAt 8 = .ok (.getfield 41, 3) := by decide +kernel
theorem dX8_isAt_11 : decode cX8_isAt 11 = .ok (.iconst 1, 1) := by decide +kernel
theorem dX8_isAt_12 : decode cX8_isAt 12 = .ok (.if_icmp .ne 19, 3) := by decide +kernel
theorem dX8_isAt_15 : decode cX8_isAt 15 = .ok (.aload_n 0, 1) := by decide +kernel
theorem dX8_isAt_16 : decode cX8_isAt 16 = .ok (.getfield 60, 3) := by decide +kernel
theorem dX8_isAt_19 : decode cX8_isAt 19 = .ok (.aload_n 1, 1) := by decide +kernel
theorem dX8_isAt_20 : decode cX8_isAt 20 = .ok (.getfield 71, 3) := by decide +kernel
theorem dX8_isAt_23 : decode cX8_isAt 23 = .ok (.lcmp, 1) := by decide +kernel
theorem dX8_isAt_24 : decode cX8_isAt 24 = .ok (.ifCond .ne 7, 3) := by decide +kernel
theorem dX8_isAt_27 : decode cX8_isAt 27 = .ok (.iconst 1, 1) := by decide +kernel
theorem dX8_isAt_28 : decode cX8_isAt 28 = .ok (.goto 4, 3) := by decide +kernel
theorem dX8_isAt_31 : decode cX8_isAt 31 = .ok (.iconst 0, 1) := by decide +kernel
theorem dX8_isAt_32 : decode cX8_isAt 32 = .ok (.ireturn, 1) := by decide +kernel
def qX8_isAt_b32 (w1 : Nat) (post : Int32 → St → St → Prop)  (s0 : Int32) (u0 : St) (u1 : St) : Prop := (bz s0 ∧ post s0 u0 u1)
set_option maxRecDepth 100000 in
set_option maxHeartbeats 4000000 in
theorem kX8_isAt_b32 {C : Cx} {o0 : Nat} {a0 : Nat → Nat} {w1 : Nat} (hC : Fx C cX8_isAt 2 RX8) (hR0 : xR C = rm 1) {post : Int32 → St → St → Prop} (hR : RZ C cX8_isAt 2 (fun u : St × St => (wX8 o0 a0 (xy C) u.1 (wT (a0 0) (xy C) u.2 []))) (fun r u => post r u.1 u.2))  {s0 : Int32} {u0 : St} {u1 : St} (h : qX8_isAt_b32 w1 post s0 u0 u1) : G C 0 0 2 (wX8 o0 a0 (xy C) u0 (wT (a0 0) (xy C) u1 [])) 32 [] [.int s0] := by
  exact hR _ _ _ (u0, u1) dX8_isAt_32 h.1 h.2
def qX8_isAt_b31 (w1 : Nat) (post : Int32 → St → St → Prop)  (u0 : St) (u1 : St) : Prop := qX8_isAt_b32 w1 post (0 : Int32) u0 u1
set_option maxRecDepth 100000 in
set_option maxHeartbeats 4000000 in
theorem kX8_isAt_b31 {C : Cx} {o0 : Nat} {a0 : Nat → Nat} {w1 : Nat} (hC : Fx C cX8_isAt 2 RX8) (hR0 : xR C = rm 1) {post : Int32 → St → St → Prop} (hR : RZ C cX8_isAt 2 (fun u : St × St => (wX8 o0 a0 (xy C) u.1 (wT (a0 0) (xy C) u.2 []))) (fun r u => post r u.1 u.2))  {u0 : St} {u1 : St} (h : qX8_isAt_b31 w1 post u0 u1) : G C 0 0 2 (wX8 o0 a0 (xy C) u0 (wT (a0 0) (xy C) u1 [])) 31 [] [] := by
  refine g_iconst (pc := 31) (v := 0) hC dX8_isAt_31 (by decide) ?_
  exact kX8_isAt_b32 hC hR0 hR  h
def qX8_isAt (w1 : Nat) (u0 : St) (u1 : St) (post : Int32 → St → St → Prop) : Prop := ((¬ (gi u0 8) = 0 → qX8_isAt_b31 w1 post u0 u1) ∧ ((gi u0 8) = 0 → ((¬ (gi u0 3) = (1 : Int32) → qX8_isAt_b31 w1 post u0 u1) ∧ ((gi u0 3) = (1 : Int32) → (w1 < 25 ∧ ((¬ (lg_cmp (gj u0 6) (wCd.getD w1 0)) = 0 → qX8_isAt_b31 w1 post u0 u1) ∧ ((lg_cmp (gj u0 6) (wCd.getD w1 0)) = 0 → qX8_isAt_b32 w1 post (1 : Int32) u0 u1)))))))
set_option maxRecDepth 100000 in
set_option maxHeartbeats 4000000 in
theorem kX8_isAt {C : Cx} {o0 : Nat} {a0 : Nat → Nat} {w1 : Nat} (hC : Fx C cX8_isAt 2 RX8) (hR0 : xR C = rm 1) {post : Int32 → St → St → Prop} (hR : RZ C cX8_isAt 2 (fun u : St × St => (wX8 o0 a0 (xy C) u.1 (wT (a0 0) (xy C) u.2 []))) (fun r u => post r u.1 u.2))  {u0 : St} {u1 : St} (h : qX8_isAt w1 u0 u1 post) : G C 0 0 2 (wX8 o0 a0 (xy C) u0 (wT (a0 0) (xy C) u1 [])) 0 [(0, .ref o0), (1, .ref (xk C w1))] [] := by
  refine g_aload_n (pc := 0) hC 0 dX8_isAt_0 rfl rfl ?_
  refine getX8_8 (pc := 1) hC (F := fun Z => Z) (X := []) (fun _ => rfl) fl_X8_28 dX8_isAt_1 ?_
  refine g_if_ne (pc := 4) (tgt := 31) hC dX8_isAt_4 (by decide) (fun c_1 => ?_) (fun c_1 => ?_)
  · have h := h.1 c_1
    refine g_sub (lv' := []) [] rfl ?_
    exact kX8_isAt_b31 hC hR0 hR  h
  · have h := h.2 c_1
    refine g_aload_n (pc := 7) hC 0 dX8_isAt_7 rfl rfl ?_
    refine getX8_3 (pc := 8) hC (F := fun Z => Z) (X := []) (fun _ => rfl) fl_X8_41 dX8_isAt_8 ?_
    refine g_iconst (pc := 11) (v := 1) hC dX8_isAt_11 (by decide) ?_
    refine g_icmp_ne (pc := 12) (tgt := 31) hC dX8_isAt_12 (by decide) (fun c_2 => ?_) (fun c_2 => ?_)
    · have h := h.1 c_2
      refine g_sub (lv' := []) [] rfl ?_
      exact kX8_isAt_b31 hC hR0 hR  h
    · have h := h.2 c_2
      refine g_aload_n (pc := 15) hC 0 dX8_isAt_15 rfl rfl ?_
      refine getX8_6 (pc := 16) hC (F := fun Z => Z) (X := []) (fun _ => rfl) fl_X8_60 dX8_isAt_16 ?_
      refine g_aload_n (pc := 19) hC 1 dX8_isAt_19 rfl rfl ?_
      refine g_wcode (pc := 20) hC fl_X8_71 h.1 dX8_isAt_20 ?_
      have h := h.2
      refine g_lcmp (pc := 23) hC dX8_isAt_23 ?_
      refine g_if_ne (pc := 24) (tgt := 31) hC dX8_isAt_24 (by decide) (fun c_3 => ?_) (fun c_3 => ?_)
      · have h := h.1 c_3
        refine g_sub (lv' := []) [] rfl ?_
        exact kX8_isAt_b31 hC hR0 hR  h
      · have h := h.2 c_3
        refine g_iconst (pc := 27) (v := 1) hC dX8_isAt_27 (by decide) ?_
        refine g_goto (pc := 28) (tgt := 32) hC dX8_isAt_28 (by decide) ?_
        refine g_sub (lv' := []) [] rfl ?_
        exact kX8_isAt_b32 hC hR0 hR  h
theorem ctX8_isAt {l : Launch} {D : va_G} {cy : Nat → ClassId} {kd : Nat → Nat} {o0 : Nat} {a0 : Nat → Nat} {w1 : Nat}  {u0 : St} {u1 : St} {post : Int32 → St → St → Prop} (h : qX8_isAt w1 u0 u1 post) : CtI l D cy kd yX8_isAt cX8_isAt 2 1 .boolean [.ref o0, .ref (kd w1)] (fun u : St × St => (wX8 o0 a0 cy u.1 (wT (a0 0) cy u.2 []))) (u0, u1) (fun r u => post r u.1 u.2) := met_z (by decide) (Nat.le_of_ble_eq_true rfl) (fun C e1 e2 e3 e4 e5 hC hR => by subst e1 e2 e3 e4; exact kX8_isAt hC e5 hR h)
theorem dX8_isAtNumber_0 : decode cX8_isAtNumber 0 = .ok (.aload_n 0, 1) := by decide +kernel
theorem dX8_isAtNumber_1 : decode cX8_isAtNumber 1 = .ok (.getfield 28, 3) := by decide +kernel
theorem dX8_isAtNumber_4 : decode cX8_isAtNumber 4 = .ok (.ifCond .ne 15, 3) := by decide +kernel
theorem dX8_isAtNumber_7 : decode cX8_isAtNumber 7 = .ok (.aload_n 0, 1) := by decide +kernel
theorem dX8_isAtNumber_8 : decode cX8_isAtNumber 8 = .ok (.getfield 41, 3) := by decide +kernel
theorem dX8_isAtNumber_11 : decode cX8_isAtNumber 11 = .ok (.iconst 2, 1) := by decide +kernel
theorem dX8_isAtNumber_12 : decode cX8_isAtNumber 12 = .ok (.if_icmp .ne 7, 3) := by decide +kernel
theorem dX8_isAtNumber_15 : decode cX8_isAtNumber 15 = .ok (.iconst 1, 1) := by decide +kernel
theorem dX8_isAtNumber_16 : decode cX8_isAtNumber 16 = .ok (.goto 4, 3) := by decide +kernel
theorem dX8_isAtNumber_19 : decode cX8_isAtNumber 19 = .ok (.iconst 0, 1) := by decide +kernel
theorem dX8_isAtNumber_20 : decode cX8_isAtNumber 20 = .ok (.ireturn, 1) := by decide +kernel
def qX8_isAtNumber_b20  (post : Int32 → St → St → Prop)  (s0 : Int32) (u0 : St) (u1 : St) : Prop := (bz s0 ∧ post s0 u0 u1)
set_option maxRecDepth 100000 in
set_option maxHeartbeats 4000000 in
theorem kX8_isAtNumber_b20 {C : Cx} {o0 : Nat} {a0 : Nat → Nat} (hC : Fx C cX8_isAtNumber 1 RX8) (hR0 : xR C = rm 1) {post : Int32 → St → St → Prop} (hR : RZ C cX8_isAtNumber 1 (fun u : St × St => (wX8 o0 a0 (xy C) u.1 (wT (a0 0) (xy C) u.2 []))) (fun r u => post r u.1 u.2))  {s0 : Int32} {u0 : St} {u1 : St} (h : qX8_isAtNumber_b20 post s0 u0 u1) : G C 0 0 1 (wX8 o0 a0 (xy C) u0 (wT (a0 0) (xy C) u1 [])) 20 [] [.int s0] := by
  exact hR _ _ _ (u0, u1) dX8_isAtNumber_20 h.1 h.2
def qX8_isAtNumber_b19  (post : Int32 → St → St → Prop)  (u0 : St) (u1 : St) : Prop := qX8_isAtNumber_b20 post (0 : Int32) u0 u1
set_option maxRecDepth 100000 in
set_option maxHeartbeats 4000000 in
theorem kX8_isAtNumber_b19 {C : Cx} {o0 : Nat} {a0 : Nat → Nat} (hC : Fx C cX8_isAtNumber 1 RX8) (hR0 : xR C = rm 1) {post : Int32 → St → St → Prop} (hR : RZ C cX8_isAtNumber 1 (fun u : St × St => (wX8 o0 a0 (xy C) u.1 (wT (a0 0) (xy C) u.2 []))) (fun r u => post r u.1 u.2))  {u0 : St} {u1 : St} (h : qX8_isAtNumber_b19 post u0 u1) : G C 0 0 1 (wX8 o0 a0 (xy C) u0 (wT (a0 0) (xy C) u1 [])) 19 [] [] := by
  refine g_iconst (pc := 19) (v := 0) hC dX8_isAtNumber_19 (by decide) ?_
  exact kX8_isAtNumber_b20 hC hR0 hR  h
def qX8_isAtNumber  (u0 : St) (u1 : St) (post : Int32 → St → St → Prop) : Prop := ((¬ (gi u0 8) = 0 → qX8_isAtNumber_b19 post u0 u1) ∧ ((gi u0 8) = 0 → ((¬ (gi u0 3) = (2 : Int32) → qX8_isAtNumber_b19 post u0 u1) ∧ ((gi u0 3) = (2 : Int32) → qX8_isAtNumber_b20 post (1 : Int32) u0 u1))))
set_option maxRecDepth 100000 in
set_option maxHeartbeats 4000000 in
theorem kX8_isAtNumber {C : Cx} {o0 : Nat} {a0 : Nat → Nat} (hC : Fx C cX8_isAtNumber 1 RX8) (hR0 : xR C = rm 1) {post : Int32 → St → St → Prop} (hR : RZ C cX8_isAtNumber 1 (fun u : St × St => (wX8 o0 a0 (xy C) u.1 (wT (a0 0) (xy C) u.2 []))) (fun r u => post r u.1 u.2))  {u0 : St} {u1 : St} (h : qX8_isAtNumber  u0 u1 post) : G C 0 0 1 (wX8 o0 a0 (xy C) u0 (wT (a0 0) (xy C) u1 [])) 0 [(0, .ref o0)] [] := by
  refine g_aload_n (pc := 0) hC 0 dX8_isAtNumber_0 rfl rfl ?_
  refine getX8_8 (pc := 1) hC (F := fun Z => Z) (X := []) (fun _ => rfl) fl_X8_28 dX8_isAtNumber_1 ?_
  refine g_if_ne (pc := 4) (tgt := 19) hC dX8_isAtNumber_4 (by decide) (fun c_1 => ?_) (fun c_1 => ?_)
  · have h := h.1 c_1
    refine g_sub (lv' := []) [] rfl ?_
    exact kX8_isAtNumber_b19 hC hR0 hR  h
  · have h := h.2 c_1
    refine g_aload_n (pc := 7) hC 0 dX8_isAtNumber_7 rfl rfl ?_
    refine getX8_3 (pc := 8) hC (F := fun Z => Z) (X := []) (fun _ => rfl) fl_X8_41 dX8_isAtNumber_8 ?_
    refine g_iconst (pc := 11) (v := 2) hC dX8_isAtNumber_11 (by decide) ?_
    refine g_icmp_ne (pc := 12) (tgt := 19) hC dX8_isAtNumber_12 (by decide) (fun c_2 => ?_) (fun c_2 => ?_)
    · have h := h.1 c_2
      refine g_sub (lv' := []) [] rfl ?_
      exact kX8_isAtNumber_b19 hC hR0 hR  h
    · have h := h.2 c_2
      refine g_iconst (pc := 15) (v := 1) hC dX8_isAtNumber_15 (by decide) ?_
      refine g_goto (pc := 16) (tgt := 20) hC dX8_isAtNumber_16 (by decide) ?_
      refine g_sub (lv' := []) [] rfl ?_
      exact kX8_isAtNumber_b20 hC hR0 hR  h
theorem ctX8_isAtNumber {l : Launch} {D : va_G} {cy : Nat → ClassId} {kd : Nat → Nat} {o0 : Nat} {a0 : Nat → Nat}  {u0 : St} {u1 : St} {post : Int32 → St → St → Prop} (h : qX8_isAtNumber  u0 u1 post) : CtI l D cy kd yX8_isAtNumber cX8_isAtNumber 1 1 .boolean [.ref o0] (fun u : St × St => (wX8 o0 a0 cy u.1 (wT (a0 0) cy u.2 []))) (u0, u1) (fun r u => post r u.1 u.2) := met_z (by decide) (Nat.le_of_ble_eq_true rfl) (fun C e1 e2 e3 e4 e5 hC hR => by subst e1 e2 e3 e4; exact kX8_isAtNumber hC e5 hR h)
theorem dX8_numberNow_0 : decode cX8_numberNow 0 = .ok (.aload_n 0, 1) := by decide +kernel
theorem dX8_numberNow_1 : decode cX8_numberNow 1 = .ok (.getfield 68, 3) := by decide +kernel
theorem dX8_numberNow_4 : decode cX8_numberNow 4 = .ok (.ireturn, 1) := by decide +kernel
def qX8_numberNow  (u0 : St) (u1 : St) (post : Int32 → St → St → Prop) : Prop := post (gi u0 4) u0 u1
set_option maxRecDepth 100000 in
set_option maxHeartbeats 4000000 in
theorem kX8_numberNow {C : Cx} {o0 : Nat} {a0 : Nat → Nat} (hC : Fx C cX8_numberNow 1 RX8) (hR0 : xR C = rm 1) {post : Int32 → St → St → Prop} (hR : RI C cX8_numberNow 1 (fun u : St × St => (wX8 o0 a0 (xy C) u.1 (wT (a0 0) (xy C) u.2 []))) (fun r u => post r u.1 u.2))  {u0 : St} {u1 : St} (h : qX8_numberNow  u0 u1 post) : G C 0 0 1 (wX8 o0 a0 (xy C) u0 (wT (a0 0) (xy C) u1 [])) 0 [(0, .ref o0)] [] := by
  refine g_aload_n (pc := 0) hC 0 dX8_numberNow_0 rfl rfl ?_
  refine getX8_4 (pc := 1) hC (F := fun Z => Z) (X := []) (fun _ => rfl) fl_X8_68 dX8_numberNow_1 ?_
  exact hR _ _ _ (u0, u1) dX8_numberNow_4 h
theorem ctX8_numberNow {l : Launch} {D : va_G} {cy : Nat → ClassId} {kd : Nat → Nat} {o0 : Nat} {a0 : Nat → Nat}  {u0 : St} {u1 : St} {post : Int32 → St → St → Prop} (h : qX8_numberNow  u0 u1 post) : CtI l D cy kd yX8_numberNow cX8_numberNow 1 1 .int [.ref o0] (fun u : St × St => (wX8 o0 a0 cy u.1 (wT (a0 0) cy u.2 []))) (u0, u1) (fun r u => post r u.1 u.2) := met_i (by decide) (Nat.le_of_ble_eq_true rfl) (fun C e1 e2 e3 e4 e5 hC hR => by subst e1 e2 e3 e4; exact kX8_numberNow hC e5 hR h)
theorem dX8_nameNow_0 : decode cX8_nameNow 0 = .ok (.aload_n 0, 1) := by decide +kernel
theorem dX8_nameNow_1 : decode cX8_nameNow 1 = .ok (.getfield 60, 3) := by decide +kernel
theorem dX8_nameNow_4 : decode cX8_nameNow 4 = .ok (.lreturn, 1) := by decide +kernel
def qX8_nameNow  (u0 : St) (u1 : St) (post : Int64 → St → St → Prop) : Prop := post (gj u0 6) u0 u1
set_option maxRecDepth 100000 in
set_option maxHeartbeats 4000000 in
theorem kX8_nameNow {C : Cx} {o0 : Nat} {a0 : Nat → Nat} (hC : Fx C cX8_nameNow 1 RX8) (hR0 : xR C = rm 1) {post : Int64 → St → St → Prop} (hR : RJ C cX8_nameNow 1 (fun u : St × St => (wX8 o0 a0 (xy C) u.1 (wT (a0 0) (xy C) u.2 []))) (fun r u => post r u.1 u.2))  {u0 : St} {u1 : St} (h : qX8_nameNow  u0 u1 post) : G C 0 0 1 (wX8 o0 a0 (xy C) u0 (wT (a0 0) (xy C) u1 [])) 0 [(0, .ref o0)] [] := by
  refine g_aload_n (pc := 0) hC 0 dX8_nameNow_0 rfl rfl ?_
  refine getX8_6 (pc := 1) hC (F := fun Z => Z) (X := []) (fun _ => rfl) fl_X8_60 dX8_nameNow_1 ?_
  exact hR _ _ _ (u0, u1) dX8_nameNow_4 h
theorem ctX8_nameNow {l : Launch} {D : va_G} {cy : Nat → ClassId} {kd : Nat → Nat} {o0 : Nat} {a0 : Nat → Nat}  {u0 : St} {u1 : St} {post : Int64 → St → St → Prop} (h : qX8_nameNow  u0 u1 post) : CtL l D cy kd yX8_nameNow cX8_nameNow 1 1  [.ref o0] (fun u : St × St => (wX8 o0 a0 cy u.1 (wT (a0 0) cy u.2 []))) (u0, u1) (fun r u => post r u.1 u.2) := met_l (by decide) (Nat.le_of_ble_eq_true rfl) (fun C e1 e2 e3 e4 e5 hC hR => by subst e1 e2 e3 e4; exact kX8_nameNow hC e5 hR h)
theorem dX8_take_0 : decode cX8_take 0 = .ok (.aload_n 0, 1) := by decide +kernel
theorem dX8_take_1 : decode cX8_take 1 = .ok (.aload_n 1, 1) := by decide +kernel
theorem dX8_take_2 : decode cX8_take 2 = .ok (.invokevirtual 78, 3) := by decide +kernel
theorem dX8_take_5 : decode cX8_take 5 = .ok (.ifCond .eq 10, 3) := by decide +kernel
theorem dX8_take_8 : decode cX8_take 8 = .ok (.aload_n 0, 1) := by decide +kernel
theorem dX8_take_9 : decode cX8_take 9 = .ok (.invokevirtual 31, 3) := by decide +kernel
theorem dX8_take_12 : decode cX8_take 12 = .ok (.goto 9, 3) := by decide +kernel
theorem dX8_take_15 : decode cX8_take 15 = .ok (.aload_n 0, 1) := by decide +kernel
theorem dX8_take_16 : decode cX8_take 16 = .ok (.iconst 2, 1) := by decide +kernel
theorem dX8_take_17 : decode cX8_take 17 = .ok (.invokevirtual 82, 3) := by decide +kernel
theorem dX8_take_20 : decode cX8_take 20 = .ok (.pop, 1) := by decide +kernel
theorem dX8_take_21 : decode cX8_take 21 = .ok (.return_, 1) := by decide +kernel
def qX8_take_b21 (w1 : Nat) (post : St → St → Prop)  (u0 : St) (u1 : St) : Prop := post u0 u1
set_option maxRecDepth 100000 in
set_option maxHeartbeats 4000000 in
theorem kX8_take_b21 {C : Cx} {o0 : Nat} {a0 : Nat → Nat} {w1 : Nat} (hC : Fx C cX8_take 2 RX8) (hR0 : xR C = rm 4) {post : St → St → Prop} (hR : RV C cX8_take 2 (fun u : St × St => (wX8 o0 a0 (xy C) u.1 (wT (a0 0) (xy C) u.2 []))) (fun u => post u.1 u.2))  {u0 : St} {u1 : St} (h : qX8_take_b21 w1 post u0 u1) : G C 0 0 2 (wX8 o0 a0 (xy C) u0 (wT (a0 0) (xy C) u1 [])) 21 [] [] := by
  exact hR _ _ (u0, u1) dX8_take_21 h
def qX8_take (w1 : Nat) (u0 : St) (u1 : St) (post : St → St → Prop) : Prop := qX8_isAt w1 u0 u1 (fun r_14 u_12 u_13 => ((r_14 = 0 → qX8_fail (2 : Int32) u_12 u_13 (fun r_19 u_17 u_18 => qX8_take_b21 w1 post u_17 u_18)) ∧ (¬ r_14 = 0 → qX8_advance u_12 u_13 (fun u_21 u_22 => qX8_take_b21 w1 post u_21 u_22))))
set_option maxRecDepth 100000 in
set_option maxHeartbeats 4000000 in
theorem kX8_take {C : Cx} {o0 : Nat} {a0 : Nat → Nat} {w1 : Nat} (hC : Fx C cX8_take 2 RX8) (hR0 : xR C = rm 4) {post : St → St → Prop} (hR : RV C cX8_take 2 (fun u : St × St => (wX8 o0 a0 (xy C) u.1 (wT (a0 0) (xy C) u.2 []))) (fun u => post u.1 u.2))  {u0 : St} {u1 : St} (h : qX8_take w1 u0 u1 post) : G C 0 0 2 (wX8 o0 a0 (xy C) u0 (wT (a0 0) (xy C) u1 [])) 0 [(0, .ref o0), (1, .ref (xk C w1))] [] := by
  refine g_aload_n (pc := 0) hC 0 dX8_take_0 rfl rfl ?_
  refine g_aload_n (pc := 1) hC 1 dX8_take_1 rfl rfl ?_
  refine g_callV_i (pc := 2) (wd := fun (u : St × St) Y => (wX8 o0 a0 (xy C) u.1 (wT (a0 0) (xy C) u.2 Y))) (F := fun Z => Z) (X := []) (As := [.ref (xk C w1)]) (rest := []) (u := (u0, u1)) hC (fun _ _ => rfl) (fun _ => rfl) (ctX8_isAt h) wvX8_isAt ml_X8_78 (ci := 7) (q0 := 0) rfl rfl rfl rfl (rmok hR0 rfl) ⟨Nat.zero_le _, Nat.zero_le _⟩ rfl (Nat.le_of_ble_eq_true rfl) dX8_take_2 (fun r_14 u_15 h => ?_)
  obtain ⟨u_12, u_13⟩ := u_15
  refine g_if_eq (pc := 5) (tgt := 15) hC dX8_take_5 (by decide) (fun c_16 => ?_) (fun c_16 => ?_)
  · have h := h.1 c_16
    refine g_aload_n (pc := 15) hC 0 dX8_take_15 rfl rfl ?_
    refine g_iconst (pc := 16) (v := 2) hC dX8_take_16 (by decide) ?_
    refine g_callV_i (pc := 17) (wd := fun (u : St × St) Y => (wX8 o0 a0 (xy C) u.1 (wT (a0 0) (xy C) u.2 Y))) (F := fun Z => Z) (X := []) (As := [.int (2 : Int32)]) (rest := []) (u := (u_12, u_13)) hC (fun _ _ => rfl) (fun _ => rfl) (ctX8_fail h) wvX8_fail ml_X8_82 (ci := 7) (q0 := 0) rfl rfl rfl rfl (rmok hR0 rfl) ⟨Nat.zero_le _, Nat.zero_le _⟩ rfl (Nat.le_of_ble_eq_true rfl) dX8_take_17 (fun r_19 u_20 h => ?_)
    obtain ⟨u_17, u_18⟩ := u_20
    refine g_pop (pc := 20) hC dX8_take_20 rfl ?_
    refine g_sub (lv' := []) [] rfl ?_
    exact kX8_take_b21 hC hR0 hR  h
  · have h := h.2 c_16
    refine g_aload_n (pc := 8) hC 0 dX8_take_8 rfl rfl ?_
    refine g_callV_v (pc := 9) (wd := fun (u : St × St) Y => (wX8 o0 a0 (xy C) u.1 (wT (a0 0) (xy C) u.2 Y))) (F := fun Z => Z) (X := []) (As := []) (rest := []) (u := (u_12, u_13)) hC (fun _ _ => rfl) (fun _ => rfl) (ctX8_advance h) wvX8_advance ml_X8_31 (ci := 7) (q0 := 0) rfl rfl rfl rfl (rmok hR0 rfl) ⟨Nat.zero_le _, Nat.zero_le _⟩ rfl (Nat.le_of_ble_eq_true rfl) dX8_take_9 (fun u_23 h => ?_)
    obtain ⟨u_21, u_22⟩ := u_23
    refine g_goto (pc := 12) (tgt := 21) hC dX8_take_12 (by decide) ?_
    refine g_sub (lv' := []) [] rfl ?_
    exact kX8_take_b21 hC hR0 hR  h
theorem ctX8_take {l : Launch} {D : va_G} {cy : Nat → ClassId} {kd : Nat → Nat} {o0 : Nat} {a0 : Nat → Nat} {w1 : Nat}  {u0 : St} {u1 : St} {post : St → St → Prop} (h : qX8_take w1 u0 u1 post) : CtV l D cy kd yX8_take cX8_take 2 4  [.ref o0, .ref (kd w1)] (fun u : St × St => (wX8 o0 a0 cy u.1 (wT (a0 0) cy u.2 []))) (u0, u1) (fun u => post u.1 u.2) := met_v (by decide) (Nat.le_of_ble_eq_true rfl) (fun C e1 e2 e3 e4 e5 hC hR => by subst e1 e2 e3 e4; exact kX8_take hC e5 hR h)
theorem dX8_takeIf_0 : decode cX8_takeIf 0 = .ok (.aload_n 0, 1) := by decide +kernel
theorem dX8_takeIf_1 : decode cX8_takeIf 1 = .ok (.aload_n 1, 1) := by decide +kernel
theorem dX8_takeIf_2 : decode cX8_takeIf 2 = .ok (.invokevirtual 78, 3) := by decide +kernel
theorem dX8_takeIf_5 : decode cX8_takeIf 5 = .ok (.istore_n 2, 1) := by decide +kernel
theorem dX8_takeIf_6 : decode cX8_takeIf 6 = .ok (.iload_n 2, 1) := by decide +kernel
theorem dX8_takeIf_7 : decode cX8_takeIf 7 = .ok (.ifCond .eq 7, 3) := by decide +kernel
theorem dX8_takeIf_10 : decode cX8_takeIf 10 = .ok (.aload_n 0, 1) := by decide +kernel
theorem dX8_takeIf_11 : decode cX8_takeIf 11 = .ok (.invokevirtual 31, 3) := by decide +kernel
theorem dX8_takeIf_14 : decode cX8_takeIf 14 = .ok (.iload_n 2, 1) := by decide +kernel
theorem dX8_takeIf_15 : decode cX8_takeIf 15 = .ok (.ireturn, 1) := by decide +kernel
def qX8_takeIf_b14 (w1 : Nat) (post : Int32 → St → St → Prop)  (x2 : Int32) (u0 : St) (u1 : St) : Prop := (bz x2 ∧ post x2 u0 u1)
set_option maxRecDepth 100000 in
set_option maxHeartbeats 4000000 in
theorem kX8_takeIf_b14 {C : Cx} {o0 : Nat} {a0 : Nat → Nat} {w1 : Nat} (hC : Fx C cX8_takeIf 3 RX8) (hR0 : xR C = rm 4) {post : Int32 → St → St → Prop} (hR : RZ C cX8_takeIf 3 (fun u : St × St => (wX8 o0 a0 (xy C) u.1 (wT (a0 0) (xy C) u.2 []))) (fun r u => post r u.1 u.2))  {x2 : Int32} {u0 : St} {u1 : St} (h : qX8_takeIf_b14 w1 post x2 u0 u1) : G C 0 0 3 (wX8 o0 a0 (xy C) u0 (wT (a0 0) (xy C) u1 [])) 14 [(2, .int x2)] [] := by
  refine g_iload_n (pc := 14) hC 0 dX8_takeIf_14 rfl rfl ?_
  exact hR _ _ _ (u0, u1) dX8_takeIf_15 h.1 h.2
def qX8_takeIf (w1 : Nat) (u0 : St) (u1 : St) (post : Int32 → St → St → Prop) : Prop := qX8_isAt w1 u0 u1 (fun r_10 u_8 u_9 => ((r_10 = 0 → qX8_takeIf_b14 w1 post r_10 u_8 u_9) ∧ (¬ r_10 = 0 → qX8_advance u_8 u_9 (fun u_13 u_14 => qX8_takeIf_b14 w1 post r_10 u_13 u_14))))
set_option maxRecDepth 100000 in
set_option maxHeartbeats 4000000 in
theorem kX8_takeIf {C : Cx} {o0 : Nat} {a0 : Nat → Nat} {w1 : Nat} (hC : Fx C cX8_takeIf 3 RX8) (hR0 : xR C = rm 4) {post : Int32 → St → St → Prop} (hR : RZ C cX8_takeIf 3 (fun u : St × St => (wX8 o0 a0 (xy C) u.1 (wT (a0 0) (xy C) u.2 []))) (fun r u => post r u.1 u.2))  {u0 : St} {u1 : St} (h : qX8_takeIf w1 u0 u1 post) : G C 0 0 3 (wX8 o0 a0 (xy C) u0 (wT (a0 0) (xy C) u1 [])) 0 [(0, .ref o0), (1, .ref (xk C w1))] [] := by
  refine g_aload_n (pc := 0) hC 0 dX8_takeIf_0 rfl rfl ?_
  refine g_aload_n (pc := 1) hC 1 dX8_takeIf_1 rfl rfl ?_
  refine g_callV_i (pc := 2) (wd := fun (u : St × St) Y => (wX8 o0 a0 (xy C) u.1 (wT (a0 0) (xy C) u.2 Y))) (F := fun Z => Z) (X := []) (As := [.ref (xk C w1)]) (rest := []) (u := (u0, u1)) hC (fun _ _ => rfl) (fun _ => rfl) (ctX8_isAt h) wvX8_isAt ml_X8_78 (ci := 7) (q0 := 0) rfl rfl rfl rfl (rmok hR0 rfl) ⟨Nat.zero_le _, Nat.zero_le _⟩ rfl (Nat.le_of_ble_eq_true rfl) dX8_takeIf_2 (fun r_10 u_11 h => ?_)
  obtain ⟨u_8, u_9⟩ := u_11
  refine g_istore_n (pc := 5) (lv' := [(2, .int r_10), (0, .ref o0), (1, .ref (xk C w1))]) hC dX8_takeIf_5 rfl (Nat.le_of_ble_eq_true rfl) rfl ?_
  refine g_iload_n (pc := 6) hC 0 dX8_takeIf_6 rfl rfl ?_
  refine g_if_eq (pc := 7) (tgt := 14) hC dX8_takeIf_7 (by decide) (fun c_12 => ?_) (fun c_12 => ?_)
  · have h := h.1 c_12
    refine g_sub (lv' := [(2, .int r_10)]) [0] rfl ?_
    exact kX8_takeIf_b14 hC hR0 hR  h
  · have h := h.2 c_12
    refine g_aload_n (pc := 10) hC 1 dX8_takeIf_10 rfl rfl ?_
    refine g_callV_v (pc := 11) (wd := fun (u : St × St) Y => (wX8 o0 a0 (xy C) u.1 (wT (a0 0) (xy C) u.2 Y))) (F := fun Z => Z) (X := []) (As := []) (rest := []) (u := (u_8, u_9)) hC (fun _ _ => rfl) (fun _ => rfl) (ctX8_advance h) wvX8_advance ml_X8_31 (ci := 7) (q0 := 0) rfl rfl rfl rfl (rmok hR0 rfl) ⟨Nat.zero_le _, Nat.zero_le _⟩ rfl (Nat.le_of_ble_eq_true rfl) dX8_takeIf_11 (fun u_15 h => ?_)
    obtain ⟨u_13, u_14⟩ := u_15
    refine g_sub (lv' := [(2, .int r_10)]) [0] rfl ?_
    exact kX8_takeIf_b14 hC hR0 hR  h
theorem ctX8_takeIf {l : Launch} {D : va_G} {cy : Nat → ClassId} {kd : Nat → Nat} {o0 : Nat} {a0 : Nat → Nat} {w1 : Nat}  {u0 : St} {u1 : St} {post : Int32 → St → St → Prop} (h : qX8_takeIf w1 u0 u1 post) : CtI l D cy kd yX8_takeIf cX8_takeIf 3 4 .boolean [.ref o0, .ref (kd w1)] (fun u : St × St => (wX8 o0 a0 cy u.1 (wT (a0 0) cy u.2 []))) (u0, u1) (fun r u => post r u.1 u.2) := met_z (by decide) (Nat.le_of_ble_eq_true rfl) (fun C e1 e2 e3 e4 e5 hC hR => by subst e1 e2 e3 e4; exact kX8_takeIf hC e5 hR h)
theorem dX8_takeNumber_0 : decode cX8_takeNumber 0 = .ok (.aload_n 0, 1) := by decide +kernel
theorem dX8_takeNumber_1 : decode cX8_takeNumber 1 = .ok (.invokevirtual 86, 3) := by decide +kernel
theorem dX8_takeNumber_4 : decode cX8_takeNumber 4 = .ok (.ifCond .ne 9, 3) := by decide +kernel
theorem dX8_takeNumber_7 : decode cX8_takeNumber 7 = .ok (.aload_n 0, 1) := by decide +kernel
theorem dX8_takeNumber_8 : decode cX8_takeNumber 8 = .ok (.iconst 2, 1) := by decide +kernel
theorem dX8_takeNumber_9 : decode cX8_takeNumber 9 = .ok (.invokevirtual 82, 3) := by decide +kernel
theorem dX8_takeNumber_12 : decode cX8_takeNumber 12 = .ok (.ireturn, 1) := by decide +kernel
theorem dX8_takeNumber_13 : decode cX8_takeNumber 13 = .ok (.aload_n 0, 1) := by decide +kernel
theorem dX8_takeNumber_14 : decode cX8_takeNumber 14 = .ok (.getfield 68, 3) := by decide +kernel
theorem dX8_takeNumber_17 : decode cX8_takeNumber 17 = .ok (.istore_n 3, 1) := by decide +kernel
theorem dX8_takeNumber_18 : decode cX8_takeNumber 18 = .ok (.iload_n 3, 1) := by decide +kernel
theorem dX8_takeNumber_19 : decode cX8_takeNumber 19 = .ok (.iload_n 1, 1) := by decide +kernel
theorem dX8_takeNumber_20 : decode cX8_takeNumber 20 = .ok (.iload_n 2, 1) := by decide +kernel
theorem dX8_takeNumber_21 : decode cX8_takeNumber 21 = .ok (.invokestatic 90, 3) := by decide +kernel
theorem dX8_takeNumber_24 : decode cX8_takeNumber 24 = .ok (.ifCond .ne 9, 3) := by decide +kernel
theorem dX8_takeNumber_27 : decode cX8_takeNumber 27 = .ok (.aload_n 0, 1) := by decide +kernel
theorem dX8_takeNumber_28 : decode cX8_takeNumber 28 = .ok (.iconst 4, 1) := by decide +kernel
theorem dX8_takeNumber_29 : decode cX8_takeNumber 29 = .ok (.invokevirtual 82, 3) := by decide +kernel
theorem dX8_takeNumber_32 : decode cX8_takeNumber 32 = .ok (.ireturn, 1) := by decide +kernel
theorem dX8_takeNumber_33 : decode cX8_takeNumber 33 = .ok (.aload_n 0, 1) := by decide +kernel
theorem dX8_takeNumber_34 : decode cX8_takeNumber 34 = .ok (.invokevirtual 31, 3) := by decide +kernel
theorem dX8_takeNumber_37 : decode cX8_takeNumber 37 = .ok (.iload_n 3, 1) := by decide +kernel
theorem dX8_takeNumber_38 : decode cX8_takeNumber 38 = .ok (.ireturn, 1) := by decide +kernel
def qX8_takeNumber (x1 : Int32) (x2 : Int32) (u0 : St) (u1 : St) (post : Int32 → St → St → Prop) : Prop := qX8_isAtNumber u0 u1 (fun r_20 u_18 u_19 => ((¬ r_20 = 0 → ∀ x3_23 : Int32, x3_23 = (gi u_18 4) → qX11_within x3_23 x1 x2 (fun r_24 => ((¬ r_24 = 0 → qX8_advance u_18 u_19 (fun u_27 u_28 => post x3_23 u_27 u_28)) ∧ (r_24 = 0 → qX8_fail (4 : Int32) u_18 u_19 (fun r_32 u_30 u_31 => post r_32 u_30 u_31))))) ∧ (r_20 = 0 → qX8_fail (2 : Int32) u_18 u_19 (fun r_36 u_34 u_35 => post r_36 u_34 u_35))))
set_option maxRecDepth 100000 in
set_option maxHeartbeats 4000000 in
theorem kX8_takeNumber {C : Cx} {o0 : Nat} {a0 : Nat → Nat} (hC : Fx C cX8_takeNumber 4 RX8) (hR0 : xR C = rm 4) {post : Int32 → St → St → Prop} (hR : RI C cX8_takeNumber 4 (fun u : St × St => (wX8 o0 a0 (xy C) u.1 (wT (a0 0) (xy C) u.2 []))) (fun r u => post r u.1 u.2)) {x1 : Int32} {x2 : Int32} {u0 : St} {u1 : St} (h : qX8_takeNumber x1 x2 u0 u1 post) : G C 0 0 4 (wX8 o0 a0 (xy C) u0 (wT (a0 0) (xy C) u1 [])) 0 [(0, .ref o0), (1, .int x1), (2, .int x2)] [] := by
  refine g_aload_n (pc := 0) hC 0 dX8_takeNumber_0 rfl rfl ?_
  refine g_callV_i (pc := 1) (wd := fun (u : St × St) Y => (wX8 o0 a0 (xy C) u.1 (wT (a0 0) (xy C) u.2 Y))) (F := fun Z => Z) (X := []) (As := []) (rest := []) (u := (u0, u1)) hC (fun _ _ => rfl) (fun _ => rfl) (ctX8_isAtNumber h) wvX8_isAtNumber ml_X8_86 (ci := 7) (q0 := 0) rfl rfl rfl rfl (rmok hR0 rfl) ⟨Nat.zero_le _, Nat.zero_le _⟩ rfl (Nat.le_of_ble_eq_true rfl) dX8_takeNumber_1 (fun r_20 u_21 h => ?_)
  obtain ⟨u_18, u_19⟩ := u_21
  refine g_if_ne (pc := 4) (tgt := 13) hC dX8_takeNumber_4 (by decide) (fun c_22 => ?_) (fun c_22 => ?_)
  · have h := h.1 c_22
    refine g_aload_n (pc := 13) hC 0 dX8_takeNumber_13 rfl rfl ?_
    refine getX8_4 (pc := 14) hC (F := fun Z => Z) (X := []) (fun _ => rfl) fl_X8_68 dX8_takeNumber_14 ?_
    refine g_topi (fun x3_23 ex3_23 => ?_)
    have h := h x3_23 ex3_23
    refine g_istore_n (pc := 17) (lv' := [(3, .int x3_23), (0, .ref o0), (1, .int x1), (2, .int x2)]) hC dX8_takeNumber_17 rfl (Nat.le_of_ble_eq_true rfl) rfl ?_
    refine g_iload_n (pc := 18) hC 0 dX8_takeNumber_18 rfl rfl ?_
    refine g_iload_n (pc := 19) hC 2 dX8_takeNumber_19 rfl rfl ?_
    refine g_iload_n (pc := 20) hC 3 dX8_takeNumber_20 rfl rfl ?_
    refine g_callSN_i (pc := 21) (wd := fun (_ : Unit) Y => Y) (F := fun Z => Z) (X := []) (As := [.int x3_23, .int x1, .int x2]) (rest := []) (u := ()) hC (fun _ _ => rfl) (fun _ => rfl) (ctX11_within h) wvX11_within nl_X8_90 rfl (rmok hR0 rfl) ⟨Nat.zero_le _, Nat.zero_le _⟩ rfl (Nat.le_of_ble_eq_true rfl) dX8_takeNumber_21 (fun r_24 u_25 h => ?_)
    refine g_if_ne (pc := 24) (tgt := 33) hC dX8_takeNumber_24 (by decide) (fun c_26 => ?_) (fun c_26 => ?_)
    · have h := h.1 c_26
      refine g_aload_n (pc := 33) hC 1 dX8_takeNumber_33 rfl rfl ?_
      refine g_callV_v (pc := 34) (wd := fun (u : St × St) Y => (wX8 o0 a0 (xy C) u.1 (wT (a0 0) (xy C) u.2 Y))) (F := fun Z => Z) (X := []) (As := []) (rest := []) (u := (u_18, u_19)) hC (fun _ _ => rfl) (fun _ => rfl) (ctX8_advance h) wvX8_advance ml_X8_31 (ci := 7) (q0 := 0) rfl rfl rfl rfl (rmok hR0 rfl) ⟨Nat.zero_le _, Nat.zero_le _⟩ rfl (Nat.le_of_ble_eq_true rfl) dX8_takeNumber_34 (fun u_29 h => ?_)
      obtain ⟨u_27, u_28⟩ := u_29
      refine g_iload_n (pc := 37) hC 0 dX8_takeNumber_37 rfl rfl ?_
      exact hR _ _ _ (u_27, u_28) dX8_takeNumber_38 h
    · have h := h.2 c_26
      refine g_aload_n (pc := 27) hC 1 dX8_takeNumber_27 rfl rfl ?_
      refine g_iconst (pc := 28) (v := 4) hC dX8_takeNumber_28 (by decide) ?_
      refine g_callV_i (pc := 29) (wd := fun (u : St × St) Y => (wX8 o0 a0 (xy C) u.1 (wT (a0 0) (xy C) u.2 Y))) (F := fun Z => Z) (X := []) (As := [.int (4 : Int32)]) (rest := []) (u := (u_18, u_19)) hC (fun _ _ => rfl) (fun _ => rfl) (ctX8_fail h) wvX8_fail ml_X8_82 (ci := 7) (q0 := 0) rfl rfl rfl rfl (rmok hR0 rfl) ⟨Nat.zero_le _, Nat.zero_le _⟩ rfl (Nat.le_of_ble_eq_true rfl) dX8_takeNumber_29 (fun r_32 u_33 h => ?_)
      obtain ⟨u_30, u_31⟩ := u_33
      exact hR _ _ _ (u_30, u_31) dX8_takeNumber_32 h
  · have h := h.2 c_22
    refine g_aload_n (pc := 7) hC 0 dX8_takeNumber_7 rfl rfl ?_
    refine g_iconst (pc := 8) (v := 2) hC dX8_takeNumber_8 (by decide) ?_
    refine g_callV_i (pc := 9) (wd := fun (u : St × St) Y => (wX8 o0 a0 (xy C) u.1 (wT (a0 0) (xy C) u.2 Y))) (F := fun Z => Z) (X := []) (As := [.int (2 : Int32)]) (rest := []) (u := (u_18, u_19)) hC (fun _ _ => rfl) (fun _ => rfl) (ctX8_fail h) wvX8_fail ml_X8_82 (ci := 7) (q0 := 0) rfl rfl rfl rfl (rmok hR0 rfl) ⟨Nat.zero_le _, Nat.zero_le _⟩ rfl (Nat.le_of_ble_eq_true rfl) dX8_takeNumber_9 (fun r_36 u_37 h => ?_)
    obtain ⟨u_34, u_35⟩ := u_37
    exact hR _ _ _ (u_34, u_35) dX8_takeNumber_12 h
theorem ctX8_takeNumber {l : Launch} {D : va_G} {cy : Nat → ClassId} {kd : Nat → Nat} {o0 : Nat} {a0 : Nat → Nat} {x1 : Int32} {x2 : Int32} {u0 : St} {u1 : St} {post : Int32 → St → St → Prop} (h : qX8_takeNumber x1 x2 u0 u1 post) : CtI l D cy kd yX8_takeNumber cX8_takeNumber 4 4 .int [.ref o0, .int x1, .int x2] (fun u : St × St => (wX8 o0 a0 cy u.1 (wT (a0 0) cy u.2 []))) (u0, u1) (fun r u => post r u.1 u.2) := met_i (by decide) (Nat.le_of_ble_eq_true rfl) (fun C e1 e2 e3 e4 e5 hC hR => by subst e1 e2 e3 e4; exact kX8_takeNumber hC e5 hR h)
theorem dX8_takeSemicolon_0 : decode cX8_takeSemicolon 0 = .ok (.aload_n 0, 1) := by decide +kernel
theorem dX8_takeSemicolon_1 : decode cX8_takeSemicolon 1 = .ok (.getfield 28, 3) := by decide +kernel
theorem dX8_takeSemicolon_4 : decode cX8_takeSemicolon 4 = .ok (.ifCond .ne 27, 3) := by decide +kernel
theorem dX8_takeSemicolon_7 : decode cX8_takeSemicolon 7 = .ok (.aload_n 0, 1) := by decide +kernel
theorem dX8_takeSemicolon_8 : decode cX8_takeSemicolon 8 = .ok (.getfield 41, 3) := by decide +kernel
theorem dX8_takeSemicolon_11 : decode cX8_takeSemicolon 11 = .ok (.iconst 3, 1) := by decide +kernel
theorem dX8_takeSemicolon_12 : decode cX8_takeSemicolon 12 = .ok (.if_icmp .ne 19, 3) := by decide +kernel
theorem dX8_takeSemicolon_15 : decode cX8_takeSemicolon 15 = .ok (.aload_n 0, 1) := by decide +kernel
theorem dX8_takeSemicolon_16 : decode cX8_takeSemicolon 16 = .ok (.getfield 56, 3) := by decide +kernel
theorem dX8_takeSemicolon_19 : decode cX8_takeSemicolon 19 = .ok (.bipush 59, 2) := by decide +kernel
theorem dX8_takeSemicolon_21 : decode cX8_takeSemicolon 21 = .ok (.if_icmp .ne 10, 3) := by decide +kernel
theorem dX8_takeSemicolon_24 : decode cX8_takeSemicolon 24 = .ok (.aload_n 0, 1) := by decide +kernel
theorem dX8_takeSemicolon_25 : decode cX8_takeSemicolon 25 = .ok (.invokevirtual 31, 3) := by decide +kernel
theorem dX8_takeSemicolon_28 : decode cX8_takeSemicolon 28 = .ok (.goto 9, 3) := by decide +kernel
theorem dX8_takeSemicolon_31 : decode cX8_takeSemicolon 31 = .ok (.aload_n 0, 1) := by decide +kernel
theorem dX8_takeSemicolon_32 : decode cX8_takeSemicolon 32 = .ok (.iconst 2, 1) := by decide +kernel
theorem dX8_takeSemicolon_33 : decode cX8_takeSemicolon 33 = .ok (.invokevirtual 82, 3) := by decide +kernel
theorem dX8_takeSemicolon_36 : decode cX8_takeSemicolon 36 = .ok (.pop, 1) := by decide +kernel
theorem dX8_takeSemicolon_37 : decode cX8_takeSemicolon 37 = .ok (.return_, 1) := by decide +kernel
def qX8_takeSemicolon_b37  (post : St → St → Prop)  (u0 : St) (u1 : St) : Prop := post u0 u1
set_option maxRecDepth 100000 in
set_option maxHeartbeats 4000000 in
theorem kX8_takeSemicolon_b37 {C : Cx} {o0 : Nat} {a0 : Nat → Nat} (hC : Fx C cX8_takeSemicolon 1 RX8) (hR0 : xR C = rm 4) {post : St → St → Prop} (hR : RV C cX8_takeSemicolon 1 (fun u : St × St => (wX8 o0 a0 (xy C) u.1 (wT (a0 0) (xy C) u.2 []))) (fun u => post u.1 u.2))  {u0 : St} {u1 : St} (h : qX8_takeSemicolon_b37 post u0 u1) : G C 0 0 1 (wX8 o0 a0 (xy C) u0 (wT (a0 0) (xy C) u1 [])) 37 [] [] := by
  exact hR _ _ (u0, u1) dX8_takeSemicolon_37 h
def qX8_takeSemicolon_b31  (post : St → St → Prop)  (u0 : St) (u1 : St) : Prop := qX8_fail (2 : Int32) u0 u1 (fun r_10 u_8 u_9 => qX8_takeSemicolon_b37 post u_8 u_9)
set_option maxRecDepth 100000 in
set_option maxHeartbeats 4000000 in
theorem kX8_takeSemicolon_b31 {C : Cx} {o0 : Nat} {a0 : Nat → Nat} (hC : Fx C cX8_takeSemicolon 1 RX8) (hR0 : xR C = rm 4) {post : St → St → Prop} (hR : RV C cX8_takeSemicolon 1 (fun u : St × St => (wX8 o0 a0 (xy C) u.1 (wT (a0 0) (xy C) u.2 []))) (fun u => post u.1 u.2))  {u0 : St} {u1 : St} (h : qX8_takeSemicolon_b31 post u0 u1) : G C 0 0 1 (wX8 o0 a0 (xy C) u0 (wT (a0 0) (xy C) u1 [])) 31 [(0, .ref o0)] [] := by
  refine g_aload_n (pc := 31) hC 0 dX8_takeSemicolon_31 rfl rfl ?_
  refine g_iconst (pc := 32) (v := 2) hC dX8_takeSemicolon_32 (by decide) ?_
  refine g_callV_i (pc := 33) (wd := fun (u : St × St) Y => (wX8 o0 a0 (xy C) u.1 (wT (a0 0) (xy C) u.2 Y))) (F := fun Z => Z) (X := []) (As := [.int (2 : Int32)]) (rest := []) (u := (u0, u1)) hC (fun _ _ => rfl) (fun _ => rfl) (ctX8_fail h) wvX8_fail ml_X8_82 (ci := 7) (q0 := 0) rfl rfl rfl rfl (rmok hR0 rfl) ⟨Nat.zero_le _, Nat.zero_le _⟩ rfl (Nat.le_of_ble_eq_true rfl) dX8_takeSemicolon_33 (fun r_10 u_11 h => ?_)
  obtain ⟨u_8, u_9⟩ := u_11
  refine g_pop (pc := 36) hC dX8_takeSemicolon_36 rfl ?_
  refine g_sub (lv' := []) [] rfl ?_
  exact kX8_takeSemicolon_b37 hC hR0 hR  h
def qX8_takeSemicolon  (u0 : St) (u1 : St) (post : St → St → Prop) : Prop := ((¬ (gi u0 8) = 0 → qX8_takeSemicolon_b31 post u0 u1) ∧ ((gi u0 8) = 0 → ((¬ (gi u0 3) = (3 : Int32) → qX8_takeSemicolon_b31 post u0 u1) ∧ ((gi u0 3) = (3 : Int32) → ((¬ (gi u0 5) = (59 : Int32) → qX8_takeSemicolon_b31 post u0 u1) ∧ ((gi u0 5) = (59 : Int32) → qX8_advance u0 u1 (fun u_15 u_16 => qX8_takeSemicolon_b37 post u_15 u_16)))))))
set_option maxRecDepth 100000 in
set_option maxHeartbeats 4000000 in
theorem kX8_takeSemicolon {C : Cx} {o0 : Nat} {a0 : Nat → Nat} (hC : Fx C cX8_takeSemicolon 1 RX8) (hR0 : xR C = rm 4) {post : St → St → Prop} (hR : RV C cX8_takeSemicolon 1 (fun u : St × St => (wX8 o0 a0 (xy C) u.1 (wT (a0 0) (xy C) u.2 []))) (fun u => post u.1 u.2))  {u0 : St} {u1 : St} (h : qX8_takeSemicolon  u0 u1 post) : G C 0 0 1 (wX8 o0 a0 (xy C) u0 (wT (a0 0) (xy C) u1 [])) 0 [(0, .ref o0)] [] := by
  refine g_aload_n (pc := 0) hC 0 dX8_takeSemicolon_0 rfl rfl ?_
  refine getX8_8 (pc := 1) hC (F := fun Z => Z) (X := []) (fun _ => rfl) fl_X8_28 dX8_takeSemicolon_1 ?_
  refine g_if_ne (pc := 4) (tgt := 31) hC dX8_takeSemicolon_4 (by decide) (fun c_12 => ?_) (fun c_12 => ?_)
  · have h := h.1 c_12
    exact kX8_takeSemicolon_b31 hC hR0 hR  h
  · have h := h.2 c_12
    refine g_aload_n (pc := 7) hC 0 dX8_takeSemicolon_7 rfl rfl ?_
    refine getX8_3 (pc := 8) hC (F := fun Z => Z) (X := []) (fun _ => rfl) fl_X8_41 dX8_takeSemicolon_8 ?_
    refine g_iconst (pc := 11) (v := 3) hC dX8_takeSemicolon_11 (by decide) ?_
    refine g_icmp_ne (pc := 12) (tgt := 31) hC dX8_takeSemicolon_12 (by decide) (fun c_13 => ?_) (fun c_13 => ?_)
    · have h := h.1 c_13
      exact kX8_takeSemicolon_b31 hC hR0 hR  h
    · have h := h.2 c_13
      refine g_aload_n (pc := 15) hC 0 dX8_takeSemicolon_15 rfl rfl ?_
      refine getX8_5 (pc := 16) hC (F := fun Z => Z) (X := []) (fun _ => rfl) fl_X8_56 dX8_takeSemicolon_16 ?_
      refine g_bipush (pc := 19) (v := 59) hC dX8_takeSemicolon_19 (by decide) ?_
      refine g_icmp_ne (pc := 21) (tgt := 31) hC dX8_takeSemicolon_21 (by decide) (fun c_14 => ?_) (fun c_14 => ?_)
      · have h := h.1 c_14
        exact kX8_takeSemicolon_b31 hC hR0 hR  h
      · have h := h.2 c_14
        refine g_aload_n (pc := 24) hC 0 dX8_takeSemicolon_24 rfl rfl ?_
        refine g_callV_v (pc := 25) (wd := fun (u : St × St) Y => (wX8 o0 a0 (xy C) u.1 (wT (a0 0) (xy C) u.2 Y))) (F := fun Z => Z) (X := []) (As := []) (rest := []) (u := (u0, u1)) hC (fun _ _ => rfl) (fun _ => rfl) (ctX8_advance h) wvX8_advance ml_X8_31 (ci := 7) (q0 := 0) rfl rfl rfl rfl (rmok hR0 rfl) ⟨Nat.zero_le _, Nat.zero_le _⟩ rfl (Nat.le_of_ble_eq_true rfl) dX8_takeSemicolon_25 (fun u_17 h => ?_)
        obtain ⟨u_15, u_16⟩ := u_17
        refine g_goto (pc := 28) (tgt := 37) hC dX8_takeSemicolon_28 (by decide) ?_
        refine g_sub (lv' := []) [] rfl ?_
        exact kX8_takeSemicolon_b37 hC hR0 hR  h
theorem ctX8_takeSemicolon {l : Launch} {D : va_G} {cy : Nat → ClassId} {kd : Nat → Nat} {o0 : Nat} {a0 : Nat → Nat}  {u0 : St} {u1 : St} {post : St → St → Prop} (h : qX8_takeSemicolon  u0 u1 post) : CtV l D cy kd yX8_takeSemicolon cX8_takeSemicolon 1 4  [.ref o0] (fun u : St × St => (wX8 o0 a0 cy u.1 (wT (a0 0) cy u.2 []))) (u0, u1) (fun u => post u.1 u.2) := met_v (by decide) (Nat.le_of_ble_eq_true rfl) (fun C e1 e2 e3 e4 e5 hC hR => by subst e1 e2 e3 e4; exact kX8_takeSemicolon hC e5 hR h)
theorem dX8_takeCompare_0 : decode cX8_takeCompare 0 = .ok (.aload_n 0, 1) := by decide +kernel
theorem dX8_takeCompare_1 : decode cX8_takeCompare 1 = .ok (.getfield 28, 3) := by decide +kernel
theorem dX8_takeCompare_4 : decode cX8_takeCompare 4 = .ok (.ifCond .ne 20, 3) := by decide +kernel
theorem dX8_takeCompare_7 : decode cX8_takeCompare 7 = .ok (.aload_n 0, 1) := by decide +kernel
theorem dX8_takeCompare_8 : decode cX8_takeCompare 8 = .ok (.getfield 41, 3) := by decide +kernel
theorem dX8_takeCompare_11 : decode cX8_takeCompare 11 = .ok (.iconst 3, 1) := by decide +kernel
theorem dX8_takeCompare_12 : decode cX8_takeCompare 12 = .ok (.if_icmp .ne 12, 3) := by decide +kernel
theorem dX8_takeCompare_15 : decode cX8_takeCompare 15 = .ok (.aload_n 0, 1) := by decide +kernel
theorem dX8_takeCompare_16 : decode cX8_takeCompare 16 = .ok (.getfield 56, 3) := by decide +kernel
theorem dX8_takeCompare_19 : decode cX8_takeCompare 19 = .ok (.bipush 59, 2) := by decide +kernel
theorem dX8_takeCompare_21 : decode cX8_takeCompare 21 = .ok (.if_icmp .ne 9, 3) := by decide +kernel
theorem dX8_takeCompare_24 : decode cX8_takeCompare 24 = .ok (.aload_n 0, 1) := by decide +kernel
theorem dX8_takeCompare_25 : decode cX8_takeCompare 25 = .ok (.iconst 2, 1) := by decide +kernel
theorem dX8_takeCompare_26 : decode cX8_takeCompare 26 = .ok (.invokevirtual 82, 3) := by decide +kernel
theorem dX8_takeCompare_29 : decode cX8_takeCompare 29 = .ok (.ireturn, 1) := by decide +kernel
theorem dX8_takeCompare_30 : decode cX8_takeCompare 30 = .ok (.aload_n 0, 1) := by decide +kernel
theorem dX8_takeCompare_31 : decode cX8_takeCompare 31 = .ok (.getfield 56, 3) := by decide +kernel
theorem dX8_takeCompare_34 : decode cX8_takeCompare 34 = .ok (.istore_n 1, 1) := by decide +kernel
theorem dX8_takeCompare_35 : decode cX8_takeCompare 35 = .ok (.aload_n 0, 1) := by decide +kernel
theorem dX8_takeCompare_36 : decode cX8_takeCompare 36 = .ok (.invokevirtual 31, 3) := by decide +kernel
theorem dX8_takeCompare_39 : decode cX8_takeCompare 39 = .ok (.iload_n 1, 1) := by decide +kernel
theorem dX8_takeCompare_40 : decode cX8_takeCompare 40 = .ok (.ireturn, 1) := by decide +kernel
def qX8_takeCompare_b24  (post : Int32 → St → St → Prop)  (u0 : St) (u1 : St) : Prop := qX8_fail (2 : Int32) u0 u1 (fun r_10 u_8 u_9 => post r_10 u_8 u_9)
set_option maxRecDepth 100000 in
set_option maxHeartbeats 4000000 in
theorem kX8_takeCompare_b24 {C : Cx} {o0 : Nat} {a0 : Nat → Nat} (hC : Fx C cX8_takeCompare 2 RX8) (hR0 : xR C = rm 4) {post : Int32 → St → St → Prop} (hR : RI C cX8_takeCompare 2 (fun u : St × St => (wX8 o0 a0 (xy C) u.1 (wT (a0 0) (xy C) u.2 []))) (fun r u => post r u.1 u.2))  {u0 : St} {u1 : St} (h : qX8_takeCompare_b24 post u0 u1) : G C 0 0 2 (wX8 o0 a0 (xy C) u0 (wT (a0 0) (xy C) u1 [])) 24 [(0, .ref o0)] [] := by
  refine g_aload_n (pc := 24) hC 0 dX8_takeCompare_24 rfl rfl ?_
  refine g_iconst (pc := 25) (v := 2) hC dX8_takeCompare_25 (by decide) ?_
  refine g_callV_i (pc := 26) (wd := fun (u : St × St) Y => (wX8 o0 a0 (xy C) u.1 (wT (a0 0) (xy C) u.2 Y))) (F := fun Z => Z) (X := []) (As := [.int (2 : Int32)]) (rest := []) (u := (u0, u1)) hC (fun _ _ => rfl) (fun _ => rfl) (ctX8_fail h) wvX8_fail ml_X8_82 (ci := 7) (q0 := 0) rfl rfl rfl rfl (rmok hR0 rfl) ⟨Nat.zero_le _, Nat.zero_le _⟩ rfl (Nat.le_of_ble_eq_true rfl) dX8_takeCompare_26 (fun r_10 u_11 h => ?_)
  obtain ⟨u_8, u_9⟩ := u_11
  exact hR _ _ _ (u_8, u_9) dX8_takeCompare_29 h
def qX8_takeCompare  (u0 : St) (u1 : St) (post : Int32 → St → St → Prop) : Prop := ((¬ (gi u0 8) = 0 → qX8_takeCompare_b24 post u0 u1) ∧ ((gi u0 8) = 0 → ((¬ (gi u0 3) = (3 : Int32) → qX8_takeCompare_b24 post u0 u1) ∧ ((gi u0 3) = (3 : Int32) → ((¬ (gi u0 5) = (59 : Int32) → ∀ x1_15 : Int32, x1_15 = (gi u0 5) → qX8_advance u0 u1 (fun u_16 u_17 => post x1_15 u_16 u_17)) ∧ ((gi u0 5) = (59 : Int32) → qX8_takeCompare_b24 post u0 u1))))))
set_option maxRecDepth 100000 in
set_option maxHeartbeats 4000000 in
theorem kX8_takeCompare {C : Cx} {o0 : Nat} {a0 : Nat → Nat} (hC : Fx C cX8_takeCompare 2 RX8) (hR0 : xR C = rm 4) {post : Int32 → St → St → Prop} (hR : RI C cX8_takeCompare 2 (fun u : St × St => (wX8 o0 a0 (xy C) u.1 (wT (a0 0) (xy C) u.2 []))) (fun r u => post r u.1 u.2))  {u0 : St} {u1 : St} (h : qX8_takeCompare  u0 u1 post) : G C 0 0 2 (wX8 o0 a0 (xy C) u0 (wT (a0 0) (xy C) u1 [])) 0 [(0, .ref o0)] [] := by
  refine g_aload_n (pc := 0) hC 0 dX8_takeCompare_0 rfl rfl ?_
  refine getX8_8 (pc := 1) hC (F := fun Z => Z) (X := []) (fun _ => rfl) fl_X8_28 dX8_takeCompare_1 ?_
  refine g_if_ne (pc := 4) (tgt := 24) hC dX8_takeCompare_4 (by decide) (fun c_12 => ?_) (fun c_12 => ?_)
  · have h := h.1 c_12
    exact kX8_takeCompare_b24 hC hR0 hR  h
  · have h := h.2 c_12
    refine g_aload_n (pc := 7) hC 0 dX8_takeCompare_7 rfl rfl ?_
    refine getX8_3 (pc := 8) hC (F := fun Z => Z) (X := []) (fun _ => rfl) fl_X8_41 dX8_takeCompare_8 ?_
    refine g_iconst (pc := 11) (v := 3) hC dX8_takeCompare_11 (by decide) ?_
    refine g_icmp_ne (pc := 12) (tgt := 24) hC dX8_takeCompare_12 (by decide) (fun c_13 => ?_) (fun c_13 => ?_)
    · have h := h.1 c_13
      exact kX8_takeCompare_b24 hC hR0 hR  h
    · have h := h.2 c_13
      refine g_aload_n (pc := 15) hC 0 dX8_takeCompare_15 rfl rfl ?_
      refine getX8_5 (pc := 16) hC (F := fun Z => Z) (X := []) (fun _ => rfl) fl_X8_56 dX8_takeCompare_16 ?_
      refine g_bipush (pc := 19) (v := 59) hC dX8_takeCompare_19 (by decide) ?_
      refine g_icmp_ne (pc := 21) (tgt := 30) hC dX8_takeCompare_21 (by decide) (fun c_14 => ?_) (fun c_14 => ?_)
      · have h := h.1 c_14
        refine g_aload_n (pc := 30) hC 0 dX8_takeCompare_30 rfl rfl ?_
        refine getX8_5 (pc := 31) hC (F := fun Z => Z) (X := []) (fun _ => rfl) fl_X8_56 dX8_takeCompare_31 ?_
        refine g_topi (fun x1_15 ex1_15 => ?_)
        have h := h x1_15 ex1_15
        refine g_istore_n (pc := 34) (lv' := [(1, .int x1_15), (0, .ref o0)]) hC dX8_takeCompare_34 rfl (Nat.le_of_ble_eq_true rfl) rfl ?_
        refine g_aload_n (pc := 35) hC 1 dX8_takeCompare_35 rfl rfl ?_
        refine g_callV_v (pc := 36) (wd := fun (u : St × St) Y => (wX8 o0 a0 (xy C) u.1 (wT (a0 0) (xy C) u.2 Y))) (F := fun Z => Z) (X := []) (As := []) (rest := []) (u := (u0, u1)) hC (fun _ _ => rfl) (fun _ => rfl) (ctX8_advance h) wvX8_advance ml_X8_31 (ci := 7) (q0 := 0) rfl rfl rfl rfl (rmok hR0 rfl) ⟨Nat.zero_le _, Nat.zero_le _⟩ rfl (Nat.le_of_ble_eq_true rfl) dX8_takeCompare_36 (fun u_18 h => ?_)
        obtain ⟨u_16, u_17⟩ := u_18
        refine g_iload_n (pc := 39) hC 0 dX8_takeCompare_39 rfl rfl ?_
        exact hR _ _ _ (u_16, u_17) dX8_takeCompare_40 h
      · have h := h.2 c_14
        exact kX8_takeCompare_b24 hC hR0 hR  h
theorem ctX8_takeCompare {l : Launch} {D : va_G} {cy : Nat → ClassId} {kd : Nat → Nat} {o0 : Nat} {a0 : Nat → Nat}  {u0 : St} {u1 : St} {post : Int32 → St → St → Prop} (h : qX8_takeCompare  u0 u1 post) : CtI l D cy kd yX8_takeCompare cX8_takeCompare 2 4 .int [.ref o0] (fun u : St × St => (wX8 o0 a0 cy u.1 (wT (a0 0) cy u.2 []))) (u0, u1) (fun r u => post r u.1 u.2) := met_i (by decide) (Nat.le_of_ble_eq_true rfl) (fun C e1 e2 e3 e4 e5 hC hR => by subst e1 e2 e3 e4; exact kX8_takeCompare hC e5 hR h)
