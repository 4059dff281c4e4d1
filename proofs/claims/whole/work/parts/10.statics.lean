/-! pure statics -/
theorem dJ6_bitCount_0f7a4_0 : decode cJ6_bitCount_0f7a4 0 = .ok (.iload_n 0, 1) := by decide +kernel
theorem dJ6_bitCount_0f7a4_1 : decode cJ6_bitCount_0f7a4 1 = .ok (.iload_n 0, 1) := by decide +kernel
theorem dJ6_bitCount_0f7a4_2 : decode cJ6_bitCount_0f7a4 2 = .ok (.iconst 1, 1) := by decide +kernel
theorem dJ6_bitCount_0f7a4_3 : decode cJ6_bitCount_0f7a4 3 = .ok (.iushr, 1) := by decide +kernel
theorem dJ6_bitCount_0f7a4_4 : decode cJ6_bitCount_0f7a4 4 = .ok (.ldc_w 265, 3) := by decide +kernel
theorem dJ6_bitCount_0f7a4_7 : decode cJ6_bitCount_0f7a4 7 = .ok (.iand, 1) := by decide +kernel
theorem dJ6_bitCount_0f7a4_8 : decode cJ6_bitCount_0f7a4 8 = .ok (.isub, 1) := by decide +kernel
theorem dJ6_bitCount_0f7a4_9 : decode cJ6_bitCount_0f7a4 9 = .ok (.istore_n 0, 1) := by decide +kernel
theorem dJ6_bitCount_0f7a4_10 : decode cJ6_bitCount_0f7a4 10 = .ok (.iload_n 0, 1) := by decide +kernel
theorem dJ6_bitCount_0f7a4_11 : decode cJ6_bitCount_0f7a4 11 = .ok (.ldc_w 266, 3) := by decide +kernel
theorem dJ6_bitCount_0f7a4_14 : decode cJ6_bitCount_0f7a4 14 = .ok (.iand, 1) := by decide +kernel
theorem dJ6_bitCount_0f7a4_15 : decode cJ6_bitCount_0f7a4 15 = .ok (.iload_n 0, 1) := by decide +kernel
theorem dJ6_bitCount_0f7a4_16 : decode cJ6_bitCount_0f7a4 16 = .ok (.iconst 2, 1) := by decide +kernel
theorem dJ6_bitCount_0f7a4_17 : decode cJ6_bitCount_0f7a4 17 = .ok (.iushr, 1) := by decide +kernel
theorem dJ6_bitCount_0f7a4_18 : decode cJ6_bitCount_0f7a4 18 = .ok (.ldc_w 266, 3) := by decide +kernel
theorem dJ6_bitCount_0f7a4_21 : decode cJ6_bitCount_0f7a4 21 = .ok (.iand, 1) := by decide +kernel
theorem dJ6_bitCount_0f7a4_22 : decode cJ6_bitCount_0f7a4 22 = .ok (.iadd, 1) := by decide +kernel
theorem dJ6_bitCount_0f7a4_23 : decode cJ6_bitCount_0f7a4 23 = .ok (.istore_n 0, 1) := by decide +kernel
theorem dJ6_bitCount_0f7a4_24 : decode cJ6_bitCount_0f7a4 24 = .ok (.iload_n 0, 1) := by decide +kernel
theorem dJ6_bitCount_0f7a4_25 : decode cJ6_bitCount_0f7a4 25 = .ok (.iload_n 0, 1) := by decide +kernel
theorem dJ6_bitCount_0f7a4_26 : decode cJ6_bitCount_0f7a4 26 = .ok (.iconst 4, 1) := by decide +kernel
theorem dJ6_bitCount_0f7a4_27 : decode cJ6_bitCount_0f7a4 27 = .ok (.iushr, 1) := by decide +kernel
theorem dJ6_bitCount_0f7a4_28 : decode cJ6_bitCount_0f7a4 28 = .ok (.iadd, 1) := by decide +kernel
theorem dJ6_bitCount_0f7a4_29 : decode cJ6_bitCount_0f7a4 29 = .ok (.ldc_w 267, 3) := by decide +kernel
theorem dJ6_bitCount_0f7a4_32 : decode cJ6_bitCount_0f7a4 32 = .ok (.iand, 1) := by decide +kernel
theorem dJ6_bitCount_0f7a4_33 : decode cJ6_bitCount_0f7a4 33 = .ok (.istore_n 0, 1) := by decide +kernel
theorem dJ6_bitCount_0f7a4_34 : decode cJ6_bitCount_0f7a4 34 = .ok (.iload_n 0, 1) := by decide +kernel
theorem dJ6_bitCount_0f7a4_35 : decode cJ6_bitCount_0f7a4 35 = .ok (.iload_n 0, 1) := by decide +kernel
theorem dJ6_bitCount_0f7a4_36 : decode cJ6_bitCount_0f7a4 36 = .ok (.bipush 8, 2) := by decide +kernel
theorem dJ6_bitCount_0f7a4_38 : decode cJ6_bitCount_0f7a4 38 = .ok (.iushr, 1) := by decide +kernel
theorem dJ6_bitCount_0f7a4_39 : decode cJ6_bitCount_0f7a4 39 = .ok (.iadd, 1) := by decide +kernel
theorem dJ6_bitCount_0f7a4_40 : decode cJ6_bitCount_0f7a4 40 = .ok (.istore_n 0, 1) := by decide +kernel
theorem dJ6_bitCount_0f7a4_41 : decode cJ6_bitCount_0f7a4 41 = .ok (.iload_n 0, 1) := by decide +kernel
theorem dJ6_bitCount_0f7a4_42 : decode cJ6_bitCount_0f7a4 42 = .ok (.iload_n 0, 1) := by decide +kernel
theorem dJ6_bitCount_0f7a4_43 : decode cJ6_bitCount_0f7a4 43 = .ok (.bipush 16, 2) := by decide +kernel
theorem dJ6_bitCount_0f7a4_45 : decode cJ6_bitCount_0f7a4 45 = .ok (.iushr, 1) := by decide +kernel
theorem dJ6_bitCount_0f7a4_46 : decode cJ6_bitCount_0f7a4 46 = .ok (.iadd, 1) := by decide +kernel
theorem dJ6_bitCount_0f7a4_47 : decode cJ6_bitCount_0f7a4 47 = .ok (.istore_n 0, 1) := by decide +kernel
theorem dJ6_bitCount_0f7a4_48 : decode cJ6_bitCount_0f7a4 48 = .ok (.iload_n 0, 1) := by decide +kernel
theorem dJ6_bitCount_0f7a4_49 : decode cJ6_bitCount_0f7a4 49 = .ok (.bipush 63, 2) := by decide +kernel
theorem dJ6_bitCount_0f7a4_51 : decode cJ6_bitCount_0f7a4 51 = .ok (.iand, 1) := by decide +kernel
theorem dJ6_bitCount_0f7a4_52 : decode cJ6_bitCount_0f7a4 52 = .ok (.ireturn, 1) := by decide +kernel
def qJ6_bitCount_0f7a4 (x0 : Int32)  (post : Int32 → Prop) : Prop := ∀ x0_1 : Int32, x0_1 = (x0 - (((x0).toUInt32 >>> (((1 : Int32)).toUInt32 &&& Int32.toUInt32 31)).toInt32 &&& (1431655765 : Int32))) → ∀ x0_2 : Int32, x0_2 = ((x0_1 &&& (858993459 : Int32)) + (((x0_1).toUInt32 >>> (((2 : Int32)).toUInt32 &&& Int32.toUInt32 31)).toInt32 &&& (858993459 : Int32))) → ∀ x0_3 : Int32, x0_3 = ((x0_2 + ((x0_2).toUInt32 >>> (((4 : Int32)).toUInt32 &&& Int32.toUInt32 31)).toInt32) &&& (252645135 : Int32)) → ∀ x0_4 : Int32, x0_4 = (x0_3 + ((x0_3).toUInt32 >>> (((8 : Int32)).toUInt32 &&& Int32.toUInt32 31)).toInt32) → ∀ x0_5 : Int32, x0_5 = (x0_4 + ((x0_4).toUInt32 >>> (((16 : Int32)).toUInt32 &&& Int32.toUInt32 31)).toInt32) → post (x0_5 &&& (63 : Int32)) 
set_option maxRecDepth 100000 in
set_option maxHeartbeats 4000000 in
theorem kJ6_bitCount_0f7a4 {C : Cx}  (hC : Fx C cJ6_bitCount_0f7a4 1 RJ6) (hR0 : xR C = rm 1) {post : Int32 → Prop} (hR : RI C cJ6_bitCount_0f7a4 1 (fun _ : Unit => ([] : va_W)) (fun r _ => post r )) {x0 : Int32}  (h : qJ6_bitCount_0f7a4 x0  post) : G C 0 0 1 [] 0 [(0, .int x0)] [] := by
  refine g_iload_n (pc := 0) hC 0 dJ6_bitCount_0f7a4_0 rfl rfl ?_
  refine g_iload_n (pc := 1) hC 0 dJ6_bitCount_0f7a4_1 rfl rfl ?_
  refine g_iconst (pc := 2) (v := 1) hC dJ6_bitCount_0f7a4_2 (by decide) ?_
  refine g_iushr (pc := 3) hC dJ6_bitCount_0f7a4_3 ?_
  refine g_ldcw (pc := 4) hC cn_J6_265 dJ6_bitCount_0f7a4_4 ?_
  refine g_iand (pc := 7) hC dJ6_bitCount_0f7a4_7 ?_
  refine g_isub (pc := 8) hC dJ6_bitCount_0f7a4_8 ?_
  refine g_topi (fun x0_1 ex0_1 => ?_)
  have h := h x0_1 ex0_1
  refine g_istore_n (pc := 9) (lv' := [(0, .int x0_1)]) hC dJ6_bitCount_0f7a4_9 rfl (Nat.le_of_ble_eq_true rfl) rfl ?_
  refine g_iload_n (pc := 10) hC 0 dJ6_bitCount_0f7a4_10 rfl rfl ?_
  refine g_ldcw (pc := 11) hC cn_J6_266 dJ6_bitCount_0f7a4_11 ?_
  refine g_iand (pc := 14) hC dJ6_bitCount_0f7a4_14 ?_
  refine g_iload_n (pc := 15) hC 0 dJ6_bitCount_0f7a4_15 rfl rfl ?_
  refine g_iconst (pc := 16) (v := 2) hC dJ6_bitCount_0f7a4_16 (by decide) ?_
  refine g_iushr (pc := 17) hC dJ6_bitCount_0f7a4_17 ?_
  refine g_ldcw (pc := 18) hC cn_J6_266 dJ6_bitCount_0f7a4_18 ?_
  refine g_iand (pc := 21) hC dJ6_bitCount_0f7a4_21 ?_
  refine g_iadd (pc := 22) hC dJ6_bitCount_0f7a4_22 ?_
  refine g_topi (fun x0_2 ex0_2 => ?_)
  have h := h x0_2 ex0_2
  refine g_istore_n (pc := 23) (lv' := [(0, .int x0_2)]) hC dJ6_bitCount_0f7a4_23 rfl (Nat.le_of_ble_eq_true rfl) rfl ?_
  refine g_iload_n (pc := 24) hC 0 dJ6_bitCount_0f7a4_24 rfl rfl ?_
  refine g_iload_n (pc := 25) hC 0 dJ6_bitCount_0f7a4_25 rfl rfl ?_
  refine g_iconst (pc := 26) (v := 4) hC dJ6_bitCount_0f7a4_26 (by decide) ?_
  refine g_iushr (pc := 27) hC dJ6_bitCount_0f7a4_27 ?_
  refine g_iadd (pc := 28) hC dJ6_bitCount_0f7a4_28 ?_
  refine g_ldcw (pc := 29) hC cn_J6_267 dJ6_bitCount_0f7a4_29 ?_
  refine g_iand (pc := 32) hC dJ6_bitCount_0f7a4_32 ?_
  refine g_topi (fun x0_3 ex0_3 => ?_)
  have h := h x0_3 ex0_3
  refine g_istore_n (pc := 33) (lv' := [(0, .int x0_3)]) hC dJ6_bitCount_0f7a4_33 rfl (Nat.le_of_ble_eq_true rfl) rfl ?_
  refine g_iload_n (pc := 34) hC 0 dJ6_bitCount_0f7a4_34 rfl rfl ?_
  refine g_iload_n (pc := 35) hC 0 dJ6_bitCount_0f7a4_35 rfl rfl ?_
  refine g_bipush (pc := 36) (v := 8) hC dJ6_bitCount_0f7a4_36 (by decide) ?_
  refine g_iushr (pc := 38) hC dJ6_bitCount_0f7a4_38 ?_
  refine g_iadd (pc := 39) hC dJ6_bitCount_0f7a4_39 ?_
  refine g_topi (fun x0_4 ex0_4 => ?_)
  have h := h x0_4 ex0_4
  refine g_istore_n (pc := 40) (lv' := [(0, .int x0_4)]) hC dJ6_bitCount_0f7a4_40 rfl (Nat.le_of_ble_eq_true rfl) rfl ?_
  refine g_iload_n (pc := 41) hC 0 dJ6_bitCount_0f7a4_41 rfl rfl ?_
  refine g_iload_n (pc := 42) hC 0 dJ6_bitCount_0f7a4_42 rfl rfl ?_
  refine g_bipush (pc := 43) (v := 16) hC dJ6_bitCount_0f7a4_43 (by decide) ?_
  refine g_iushr (pc := 45) hC dJ6_bitCount_0f7a4_45 ?_
  refine g_iadd (pc := 46) hC dJ6_bitCount_0f7a4_46 ?_
  refine g_topi (fun x0_5 ex0_5 => ?_)
  have h := h x0_5 ex0_5
  refine g_istore_n (pc := 47) (lv' := [(0, .int x0_5)]) hC dJ6_bitCount_0f7a4_47 rfl (Nat.le_of_ble_eq_true rfl) rfl ?_
  refine g_iload_n (pc := 48) hC 0 dJ6_bitCount_0f7a4_48 rfl rfl ?_
  refine g_bipush (pc := 49) (v := 63) hC dJ6_bitCount_0f7a4_49 (by decide) ?_
  refine g_iand (pc := 51) hC dJ6_bitCount_0f7a4_51 ?_
  exact hR _ _ _ () dJ6_bitCount_0f7a4_52 h
theorem ctJ6_bitCount_0f7a4 {l : Launch} {D : va_G} {cy : Nat → ClassId} {kd : Nat → Nat}  {x0 : Int32}  {post : Int32 → Prop} (h : qJ6_bitCount_0f7a4 x0  post) : CtI l D cy kd yJ6_bitCount_0f7a4 cJ6_bitCount_0f7a4 1 1 .int [.int x0] (fun _ : Unit => ([] : va_W)) () (fun r _ => post r ) := met_i (by decide) (Nat.le_of_ble_eq_true rfl) (fun C e1 e2 e3 e4 e5 hC hR => by subst e1 e2 e3 e4; exact kJ6_bitCount_0f7a4 hC e5 hR h)
theorem dX11_within_0 : decode cX11_within 0 = .ok (.iload_n 0, 1) := by decide +kernel
theorem dX11_within_1 : decode cX11_within 1 = .ok (.iload_n 1, 1) := by decide +kernel
theorem dX11_within_2 : decode cX11_within 2 = .ok (.if_icmp .lt 12, 3) := by decide +kernel
theorem dX11_within_5 : decode cX11_within 5 = .ok (.iload_n 0, 1) := by decide +kernel
theorem dX11_within_6 : decode cX11_within 6 = .ok (.iload_n 2, 1) := by decide +kernel
theorem dX11_within_7 : decode cX11_within 7 = .ok (.if_icmp .gt 7, 3) := by decide +kernel
theorem dX11_within_10 : decode cX11_within 10 = .ok (.iconst 1, 1) := by decide +kernel
theorem dX11_within_11 : decode cX11_within 11 = .ok (.goto 4, 3) := by decide +kernel
theorem dX11_within_14 : decode cX11_within 14 = .ok (.iconst 0, 1) := by decide +kernel
theorem dX11_within_15 : decode cX11_within 15 = .ok (.ireturn, 1) := by decide +kernel
def qX11_within_b15  (post : Int32 → Prop)  (s0 : Int32) : Prop := (bz s0 ∧ post s0 )
set_option maxRecDepth 100000 in
set_option maxHeartbeats 4000000 in
theorem kX11_within_b15 {C : Cx}  (hC : Fx C cX11_within 3 RX11) (hR0 : xR C = rm 1) {post : Int32 → Prop} (hR : RZ C cX11_within 3 (fun _ : Unit => ([] : va_W)) (fun r _ => post r ))  {s0 : Int32} (h : qX11_within_b15 post s0) : G C 0 0 3 [] 15 [] [.int s0] := by
  exact hR _ _ _ () dX11_within_15 h.1 h.2
def qX11_within_b14  (post : Int32 → Prop)   : Prop := qX11_within_b15 post (0 : Int32)
set_option maxRecDepth 100000 in
set_option maxHeartbeats 4000000 in
theorem kX11_within_b14 {C : Cx}  (hC : Fx C cX11_within 3 RX11) (hR0 : xR C = rm 1) {post : Int32 → Prop} (hR : RZ C cX11_within 3 (fun _ : Unit => ([] : va_W)) (fun r _ => post r ))   (h : qX11_within_b14 post) : G C 0 0 3 [] 14 [] [] := by
  refine g_iconst (pc := 14) (v := 0) hC dX11_within_14 (by decide) ?_
  exact kX11_within_b15 hC hR0 hR  h
def qX11_within (x0 : Int32) (x1 : Int32) (x2 : Int32)  (post : Int32 → Prop) : Prop := ((x0 < x1 → qX11_within_b14 post ) ∧ (¬ x0 < x1 → ((x2 < x0 → qX11_within_b14 post ) ∧ (¬ x2 < x0 → qX11_within_b15 post (1 : Int32)))))
set_option maxRecDepth 100000 in
set_option maxHeartbeats 4000000 in
theorem kX11_within {C : Cx}  (hC : Fx C cX11_within 3 RX11) (hR0 : xR C = rm 1) {post : Int32 → Prop} (hR : RZ C cX11_within 3 (fun _ : Unit => ([] : va_W)) (fun r _ => post r )) {x0 : Int32} {x1 : Int32} {x2 : Int32}  (h : qX11_within x0 x1 x2  post) : G C 0 0 3 [] 0 [(0, .int x0), (1, .int x1), (2, .int x2)] [] := by
  refine g_iload_n (pc := 0) hC 0 dX11_within_0 rfl rfl ?_
  refine g_iload_n (pc := 1) hC 1 dX11_within_1 rfl rfl ?_
  refine g_icmp_lt (pc := 2) (tgt := 14) hC dX11_within_2 (by decide) (fun c_1 => ?_) (fun c_1 => ?_)
  · have h := h.1 c_1
    refine g_sub (lv' := []) [] rfl ?_
    exact kX11_within_b14 hC hR0 hR  h
  · have h := h.2 c_1
    refine g_iload_n (pc := 5) hC 0 dX11_within_5 rfl rfl ?_
    refine g_iload_n (pc := 6) hC 2 dX11_within_6 rfl rfl ?_
    refine g_icmp_gt (pc := 7) (tgt := 14) hC dX11_within_7 (by decide) (fun c_2 => ?_) (fun c_2 => ?_)
    · have h := h.1 c_2
      refine g_sub (lv' := []) [] rfl ?_
      exact kX11_within_b14 hC hR0 hR  h
    · have h := h.2 c_2
      refine g_iconst (pc := 10) (v := 1) hC dX11_within_10 (by decide) ?_
      refine g_goto (pc := 11) (tgt := 15) hC dX11_within_11 (by decide) ?_
      refine g_sub (lv' := []) [] rfl ?_
      exact kX11_within_b15 hC hR0 hR  h
theorem ctX11_within {l : Launch} {D : va_G} {cy : Nat → ClassId} {kd : Nat → Nat}  {x0 : Int32} {x1 : Int32} {x2 : Int32}  {post : Int32 → Prop} (h : qX11_within x0 x1 x2  post) : CtI l D cy kd yX11_within cX11_within 3 1 .boolean [.int x0, .int x1, .int x2] (fun _ : Unit => ([] : va_W)) () (fun r _ => post r ) := met_z (by decide) (Nat.le_of_ble_eq_true rfl) (fun C e1 e2 e3 e4 e5 hC hR => by subst e1 e2 e3 e4; exact kX11_within hC e5 hR h)
theorem dX11_has_0 : decode cX11_has 0 = .ok (.iload_n 0, 1) := by decide +kernel
theorem dX11_has_1 : decode cX11_has 1 = .ok (.iload_n 1, 1) := by decide +kernel
theorem dX11_has_2 : decode cX11_has 2 = .ok (.ishr, 1) := by decide +kernel
theorem dX11_has_3 : decode cX11_has 3 = .ok (.iconst 1, 1) := by decide +kernel
theorem dX11_has_4 : decode cX11_has 4 = .ok (.iand, 1) := by decide +kernel
theorem dX11_has_5 : decode cX11_has 5 = .ok (.ifCond .eq 7, 3) := by decide +kernel
theorem dX11_has_8 : decode cX11_has 8 = .ok (.iconst 1, 1) := by decide +kernel
theorem dX11_has_9 : decode cX11_has 9 = .ok (.goto 4, 3) := by decide +kernel
theorem dX11_has_12 : decode cX11_has 12 = .ok (.iconst 0, 1) := by decide +kernel
theorem dX11_has_13 : decode cX11_has 13 = .ok (.ireturn, 1) := by decide +kernel
def qX11_has_b13  (post : Int32 → Prop)  (s0 : Int32) : Prop := (bz s0 ∧ post s0 )
set_option maxRecDepth 100000 in
set_option maxHeartbeats 4000000 in
theorem kX11_has_b13 {C : Cx}  (hC : Fx C cX11_has 2 RX11) (hR0 : xR C = rm 1) {post : Int32 → Prop} (hR : RZ C cX11_has 2 (fun _ : Unit => ([] : va_W)) (fun r _ => post r ))  {s0 : Int32} (h : qX11_has_b13 post s0) : G C 0 0 2 [] 13 [] [.int s0] := by
  exact hR _ _ _ () dX11_has_13 h.1 h.2
def qX11_has (x0 : Int32) (x1 : Int32)  (post : Int32 → Prop) : Prop := ((((x0 >>> (x1 &&& 31)) &&& (1 : Int32)) = 0 → qX11_has_b13 post (0 : Int32)) ∧ (¬ ((x0 >>> (x1 &&& 31)) &&& (1 : Int32)) = 0 → qX11_has_b13 post (1 : Int32)))
set_option maxRecDepth 100000 in
set_option maxHeartbeats 4000000 in
theorem kX11_has {C : Cx}  (hC : Fx C cX11_has 2 RX11) (hR0 : xR C = rm 1) {post : Int32 → Prop} (hR : RZ C cX11_has 2 (fun _ : Unit => ([] : va_W)) (fun r _ => post r )) {x0 : Int32} {x1 : Int32}  (h : qX11_has x0 x1  post) : G C 0 0 2 [] 0 [(0, .int x0), (1, .int x1)] [] := by
  refine g_iload_n (pc := 0) hC 0 dX11_has_0 rfl rfl ?_
  refine g_iload_n (pc := 1) hC 1 dX11_has_1 rfl rfl ?_
  refine g_ishr (pc := 2) hC dX11_has_2 ?_
  refine g_iconst (pc := 3) (v := 1) hC dX11_has_3 (by decide) ?_
  refine g_iand (pc := 4) hC dX11_has_4 ?_
  refine g_if_eq (pc := 5) (tgt := 12) hC dX11_has_5 (by decide) (fun c_1 => ?_) (fun c_1 => ?_)
  · have h := h.1 c_1
    refine g_iconst (pc := 12) (v := 0) hC dX11_has_12 (by decide) ?_
    refine g_sub (lv' := []) [] rfl ?_
    exact kX11_has_b13 hC hR0 hR  h
  · have h := h.2 c_1
    refine g_iconst (pc := 8) (v := 1) hC dX11_has_8 (by decide) ?_
    refine g_goto (pc := 9) (tgt := 13) hC dX11_has_9 (by decide) ?_
    refine g_sub (lv' := []) [] rfl ?_
    exact kX11_has_b13 hC hR0 hR  h
theorem ctX11_has {l : Launch} {D : va_G} {cy : Nat → ClassId} {kd : Nat → Nat}  {x0 : Int32} {x1 : Int32}  {post : Int32 → Prop} (h : qX11_has x0 x1  post) : CtI l D cy kd yX11_has cX11_has 2 1 .boolean [.int x0, .int x1] (fun _ : Unit => ([] : va_W)) () (fun r _ => post r ) := met_z (by decide) (Nat.le_of_ble_eq_true rfl) (fun C e1 e2 e3 e4 e5 hC hR => by subst e1 e2 e3 e4; exact kX11_has hC e5 hR h)
theorem dX11_nthOf_0 : decode cX11_nthOf 0 = .ok (.iload_n 1, 1) := by decide +kernel
theorem dX11_nthOf_1 : decode cX11_nthOf 1 = .ok (.istore_n 2, 1) := by decide +kernel
theorem dX11_nthOf_2 : decode cX11_nthOf 2 = .ok (.iconst 0, 1) := by decide +kernel
theorem dX11_nthOf_3 : decode cX11_nthOf 3 = .ok (.istore_n 3, 1) := by decide +kernel
theorem dX11_nthOf_4 : decode cX11_nthOf 4 = .ok (.iload_n 3, 1) := by decide +kernel
theorem dX11_nthOf_5 : decode cX11_nthOf 5 = .ok (.bipush 31, 2) := by decide +kernel
theorem dX11_nthOf_7 : decode cX11_nthOf 7 = .ok (.if_icmp .ge 26, 3) := by decide +kernel
theorem dX11_nthOf_10 : decode cX11_nthOf 10 = .ok (.iload_n 0, 1) := by decide +kernel
theorem dX11_nthOf_11 : decode cX11_nthOf 11 = .ok (.iload_n 3, 1) := by decide +kernel
theorem dX11_nthOf_12 : decode cX11_nthOf 12 = .ok (.invokestatic 240, 3) := by decide +kernel
theorem dX11_nthOf_15 : decode cX11_nthOf 15 = .ok (.ifCond .eq 12, 3) := by decide +kernel
theorem dX11_nthOf_18 : decode cX11_nthOf 18 = .ok (.iload_n 2, 1) := by decide +kernel
theorem dX11_nthOf_19 : decode cX11_nthOf 19 = .ok (.ifCond .ne 5, 3) := by decide +kernel
theorem dX11_nthOf_22 : decode cX11_nthOf 22 = .ok (.iload_n 3, 1) := by decide +kernel
theorem dX11_nthOf_23 : decode cX11_nthOf 23 = .ok (.ireturn, 1) := by decide +kernel
theorem dX11_nthOf_24 : decode cX11_nthOf 24 = .ok (.iinc 2 (-1), 3) := by decide +kernel
theorem dX11_nthOf_27 : decode cX11_nthOf 27 = .ok (.iinc 3 1, 3) := by decide +kernel
theorem dX11_nthOf_30 : decode cX11_nthOf 30 = .ok (.goto (-26), 3) := by decide +kernel
theorem dX11_nthOf_33 : decode cX11_nthOf 33 = .ok (.iconst (-1), 1) := by decide +kernel
theorem dX11_nthOf_34 : decode cX11_nthOf 34 = .ok (.ireturn, 1) := by decide +kernel
def qX11_nthOf_b27  (post : Int32 → Prop) (K4 : Int32 → Int32 → Int32 → Prop) (x0 : Int32) (x2 : Int32) (x3 : Int32) : Prop := ∀ x3_5 : Int32, x3_5 = x3 + (1 : Int32) → K4 x0 x2 x3_5
set_option maxRecDepth 100000 in
set_option maxHeartbeats 4000000 in
theorem kX11_nthOf_b27 {C : Cx}  (hC : Fx C cX11_nthOf 4 RX11) (hR0 : xR C = rm 2) {post : Int32 → Prop} (hR : RI C cX11_nthOf 4 (fun _ : Unit => ([] : va_W)) (fun r _ => post r )) {K4 : Int32 → Int32 → Int32 → Prop} (hK4 : ∀ (x0 : Int32) (x2 : Int32) (x3 : Int32), K4 x0 x2 x3 → G C 0 0 4 [] 4 [(0, .int x0), (2, .int x2), (3, .int x3)] []) {x0 : Int32} {x2 : Int32} {x3 : Int32} (h : qX11_nthOf_b27 post K4 x0 x2 x3) : G C 0 0 4 [] 27 [(0, .int x0), (2, .int x2), (3, .int x3)] [] := by
  obtain ⟨x3_5, ex3_5⟩ : ∃ z : Int32, z = x3 + (1 : Int32) := ⟨_, rfl⟩
  have h := h x3_5 ex3_5
  refine g_iinc (pc := 27) (v := x3_5) (lv' := [(3, .int x3_5), (0, .int x0), (2, .int x2)]) hC 2 dX11_nthOf_27 rfl (by rw [ex3_5]; rfl) (Nat.le_of_ble_eq_true rfl) rfl ?_
  refine g_goto (pc := 30) (tgt := 4) hC dX11_nthOf_30 (by decide) ?_
  refine g_sub (lv' := [(0, .int x0), (2, .int x2), (3, .int x3_5)]) [1, 2, 0] rfl ?_
  exact hK4 _ _ _ h
def qX11_nthOf_l4  (post : Int32 → Prop) (K4 : Int32 → Int32 → Int32 → Prop) (x0 : Int32) (x2 : Int32) (x3 : Int32) : Prop := (((31 : Int32) ≤ x3 → post (-1 : Int32) ) ∧ (¬ (31 : Int32) ≤ x3 → qX11_has x0 x3 (fun r_7 => ((r_7 = 0 → qX11_nthOf_b27 post K4 x0 x2 x3) ∧ (¬ r_7 = 0 → ((¬ x2 = 0 → ∀ x2_11 : Int32, x2_11 = x2 + (-1 : Int32) → qX11_nthOf_b27 post K4 x0 x2_11 x3) ∧ (x2 = 0 → post x3 )))))))
set_option maxRecDepth 100000 in
set_option maxHeartbeats 4000000 in
theorem kX11_nthOf_l4 {C : Cx}  (hC : Fx C cX11_nthOf 4 RX11) (hR0 : xR C = rm 2) {post : Int32 → Prop} (hR : RI C cX11_nthOf 4 (fun _ : Unit => ([] : va_W)) (fun r _ => post r ))  {K4 : Int32 → Int32 → Int32 → Prop} (hK4 : ∀ (x0 : Int32) (x2 : Int32) (x3 : Int32), K4 x0 x2 x3 → G C 0 0 4 [] 4 [(0, .int x0), (2, .int x2), (3, .int x3)] []) {x0 : Int32} {x2 : Int32} {x3 : Int32} (h : qX11_nthOf_l4 post K4 x0 x2 x3) : G C 0 0 4 [] 4 [(0, .int x0), (2, .int x2), (3, .int x3)] [] := by
  refine g_iload_n (pc := 4) hC 2 dX11_nthOf_4 rfl rfl ?_
  refine g_bipush (pc := 5) (v := 31) hC dX11_nthOf_5 (by decide) ?_
  refine g_icmp_ge (pc := 7) (tgt := 33) hC dX11_nthOf_7 (by decide) (fun c_6 => ?_) (fun c_6 => ?_)
  · have h := h.1 c_6
    refine g_iconst (pc := 33) (v := -1) hC dX11_nthOf_33 (by decide) ?_
    exact hR _ _ _ () dX11_nthOf_34 h
  · have h := h.2 c_6
    refine g_iload_n (pc := 10) hC 0 dX11_nthOf_10 rfl rfl ?_
    refine g_iload_n (pc := 11) hC 2 dX11_nthOf_11 rfl rfl ?_
    refine g_callS_i (pc := 12) (wd := fun (_ : Unit) Y => Y) (F := fun Z => Z) (X := []) (As := [.int x0, .int x3]) (rest := []) (u := ()) hC (fun _ _ => rfl) (fun _ => rfl) (ctX11_has h) wvX11_has ml_X11_240 rfl (rmok hR0 rfl) ⟨Nat.zero_le _, Nat.zero_le _⟩ rfl (Nat.le_of_ble_eq_true rfl) dX11_nthOf_12 (fun r_7 u_8 h => ?_)
    refine g_if_eq (pc := 15) (tgt := 27) hC dX11_nthOf_15 (by decide) (fun c_9 => ?_) (fun c_9 => ?_)
    · have h := h.1 c_9
      exact kX11_nthOf_b27 hC hR0 hR hK4 h
    · have h := h.2 c_9
      refine g_iload_n (pc := 18) hC 1 dX11_nthOf_18 rfl rfl ?_
      refine g_if_ne (pc := 19) (tgt := 24) hC dX11_nthOf_19 (by decide) (fun c_10 => ?_) (fun c_10 => ?_)
      · have h := h.1 c_10
        obtain ⟨x2_11, ex2_11⟩ : ∃ z : Int32, z = x2 + (-1 : Int32) := ⟨_, rfl⟩
        have h := h x2_11 ex2_11
        refine g_iinc (pc := 24) (v := x2_11) (lv' := [(2, .int x2_11), (0, .int x0), (3, .int x3)]) hC 1 dX11_nthOf_24 rfl (by rw [ex2_11]; rfl) (Nat.le_of_ble_eq_true rfl) rfl ?_
        refine g_sub (lv' := [(0, .int x0), (2, .int x2_11), (3, .int x3)]) [1, 0, 2] rfl ?_
        exact kX11_nthOf_b27 hC hR0 hR hK4 h
      · have h := h.2 c_10
        refine g_iload_n (pc := 22) hC 2 dX11_nthOf_22 rfl rfl ?_
        exact hR _ _ _ () dX11_nthOf_23 h
def qX11_nthOf_L4  (post : Int32 → Prop)  : Nat → Int32 → Int32 → Int32 → Prop
  | 0 => fun _ _ _ => False
  | n + 1 => qX11_nthOf_l4 post (qX11_nthOf_L4 post n)
theorem kX11_nthOf_L4 {C : Cx}  (hC : Fx C cX11_nthOf 4 RX11) (hR0 : xR C = rm 2) {post : Int32 → Prop} (hR : RI C cX11_nthOf 4 (fun _ : Unit => ([] : va_W)) (fun r _ => post r ))  : ∀ (n : Nat) (x0 : Int32) (x2 : Int32) (x3 : Int32), qX11_nthOf_L4 post n x0 x2 x3 → G C 0 0 4 [] 4 [(0, .int x0), (2, .int x2), (3, .int x3)] [] := by
  intro n
  induction n with
  | zero => intro x0 x2 x3 h; exact h.elim
  | succ n ih => intro x0 x2 x3 h; exact kX11_nthOf_l4 hC hR0 hR  ih h
def qX11_nthOf (x0 : Int32) (x1 : Int32)  (post : Int32 → Prop) : Prop := ∃ n_12 : Nat, qX11_nthOf_L4 post n_12 x0 x1 (0 : Int32)
set_option maxRecDepth 100000 in
set_option maxHeartbeats 4000000 in
theorem kX11_nthOf {C : Cx}  (hC : Fx C cX11_nthOf 4 RX11) (hR0 : xR C = rm 2) {post : Int32 → Prop} (hR : RI C cX11_nthOf 4 (fun _ : Unit => ([] : va_W)) (fun r _ => post r )) {x0 : Int32} {x1 : Int32}  (h : qX11_nthOf x0 x1  post) : G C 0 0 4 [] 0 [(0, .int x0), (1, .int x1)] [] := by
  refine g_iload_n (pc := 0) hC 1 dX11_nthOf_0 rfl rfl ?_
  refine g_istore_n (pc := 1) (lv' := [(2, .int x1), (0, .int x0), (1, .int x1)]) hC dX11_nthOf_1 rfl (Nat.le_of_ble_eq_true rfl) rfl ?_
  refine g_iconst (pc := 2) (v := 0) hC dX11_nthOf_2 (by decide) ?_
  refine g_istore_n (pc := 3) (lv' := [(3, .int (0 : Int32)), (2, .int x1), (0, .int x0), (1, .int x1)]) hC dX11_nthOf_3 rfl (Nat.le_of_ble_eq_true rfl) rfl ?_
  refine g_sub (lv' := [(0, .int x0), (2, .int x1), (3, .int (0 : Int32))]) [2, 1, 0] rfl ?_
  obtain ⟨n_12, h⟩ := h
  exact kX11_nthOf_L4 hC hR0 hR  n_12 _ _ _ h
theorem ctX11_nthOf {l : Launch} {D : va_G} {cy : Nat → ClassId} {kd : Nat → Nat}  {x0 : Int32} {x1 : Int32}  {post : Int32 → Prop} (h : qX11_nthOf x0 x1  post) : CtI l D cy kd yX11_nthOf cX11_nthOf 4 2 .int [.int x0, .int x1] (fun _ : Unit => ([] : va_W)) () (fun r _ => post r ) := met_i (by decide) (Nat.le_of_ble_eq_true rfl) (fun C e1 e2 e3 e4 e5 hC hR => by subst e1 e2 e3 e4; exact kX11_nthOf hC e5 hR h)
theorem dX11_power_0 : decode cX11_power 0 = .ok (.lconst 1, 1) := by decide +kernel
theorem dX11_power_1 : decode cX11_power 1 = .ok (.lstore_n 2, 1) := by decide +kernel
theorem dX11_power_2 : decode cX11_power 2 = .ok (.iconst 0, 1) := by decide +kernel
theorem dX11_power_3 : decode cX11_power 3 = .ok (.istore 4, 2) := by decide +kernel
theorem dX11_power_5 : decode cX11_power 5 = .ok (.iload 4, 2) := by decide +kernel
theorem dX11_power_7 : decode cX11_power 7 = .ok (.iload_n 1, 1) := by decide +kernel
theorem dX11_power_8 : decode cX11_power 8 = .ok (.if_icmp .ge 14, 3) := by decide +kernel
theorem dX11_power_11 : decode cX11_power 11 = .ok (.lload_n 2, 1) := by decide +kernel
theorem dX11_power_12 : decode cX11_power 12 = .ok (.iload_n 0, 1) := by decide +kernel
theorem dX11_power_13 : decode cX11_power 13 = .ok (.i2l, 1) := by decide +kernel
theorem dX11_power_14 : decode cX11_power 14 = .ok (.lmul, 1) := by decide +kernel
theorem dX11_power_15 : decode cX11_power 15 = .ok (.lstore_n 2, 1) := by decide +kernel
theorem dX11_power_16 : decode cX11_power 16 = .ok (.iinc 4 1, 3) := by decide +kernel
theorem dX11_power_19 : decode cX11_power 19 = .ok (.goto (-14), 3) := by decide +kernel
theorem dX11_power_22 : decode cX11_power 22 = .ok (.lload_n 2, 1) := by decide +kernel
theorem dX11_power_23 : decode cX11_power 23 = .ok (.lreturn, 1) := by decide +kernel
def qX11_power_l5  (post : Int64 → Prop) (K5 : Int32 → Int32 → Int64 → Int32 → Prop) (x0 : Int32) (x1 : Int32) (x2 : Int64) (x4 : Int32) : Prop := ((x1 ≤ x4 → post x2 ) ∧ (¬ x1 ≤ x4 → ∀ x2_3 : Int64, x2_3 = (x2 * (x0).toInt64) → ∀ x4_4 : Int32, x4_4 = x4 + (1 : Int32) → K5 x0 x1 x2_3 x4_4))
set_option maxRecDepth 100000 in
set_option maxHeartbeats 4000000 in
theorem kX11_power_l5 {C : Cx}  (hC : Fx C cX11_power 5 RX11) (hR0 : xR C = rm 1) {post : Int64 → Prop} (hR : RJ C cX11_power 5 (fun _ : Unit => ([] : va_W)) (fun r _ => post r ))  {K5 : Int32 → Int32 → Int64 → Int32 → Prop} (hK5 : ∀ (x0 : Int32) (x1 : Int32) (x2 : Int64) (x4 : Int32), K5 x0 x1 x2 x4 → G C 0 0 5 [] 5 [(0, .int x0), (1, .int x1), (2, .long x2), (4, .int x4)] []) {x0 : Int32} {x1 : Int32} {x2 : Int64} {x4 : Int32} (h : qX11_power_l5 post K5 x0 x1 x2 x4) : G C 0 0 5 [] 5 [(0, .int x0), (1, .int x1), (2, .long x2), (4, .int x4)] [] := by
  refine g_iload (pc := 5) hC 3 dX11_power_5 rfl ?_
  refine g_iload_n (pc := 7) hC 1 dX11_power_7 rfl rfl ?_
  refine g_icmp_ge (pc := 8) (tgt := 22) hC dX11_power_8 (by decide) (fun c_2 => ?_) (fun c_2 => ?_)
  · have h := h.1 c_2
    refine g_lload_n (pc := 22) hC 2 dX11_power_22 rfl rfl ?_
    exact hR _ _ _ () dX11_power_23 h
  · have h := h.2 c_2
    refine g_lload_n (pc := 11) hC 2 dX11_power_11 rfl rfl ?_
    refine g_iload_n (pc := 12) hC 0 dX11_power_12 rfl rfl ?_
    refine g_i2l (pc := 13) hC dX11_power_13 ?_
    refine g_lmul (pc := 14) hC dX11_power_14 ?_
    refine g_topl (fun x2_3 ex2_3 => ?_)
    have h := h x2_3 ex2_3
    refine g_lstore_n (pc := 15) (lv' := [(2, .long x2_3), (0, .int x0), (1, .int x1), (4, .int x4)]) hC dX11_power_15 rfl (Nat.le_of_ble_eq_true rfl) rfl ?_
    obtain ⟨x4_4, ex4_4⟩ : ∃ z : Int32, z = x4 + (1 : Int32) := ⟨_, rfl⟩
    have h := h x4_4 ex4_4
    refine g_iinc (pc := 16) (v := x4_4) (lv' := [(4, .int x4_4), (2, .long x2_3), (0, .int x0), (1, .int x1)]) hC 3 dX11_power_16 rfl (by rw [ex4_4]; rfl) (Nat.le_of_ble_eq_true rfl) rfl ?_
    refine g_goto (pc := 19) (tgt := 5) hC dX11_power_19 (by decide) ?_
    refine g_sub (lv' := [(0, .int x0), (1, .int x1), (2, .long x2_3), (4, .int x4_4)]) [2, 3, 1, 0] rfl ?_
    exact hK5 _ _ _ _ h
def qX11_power_L5  (post : Int64 → Prop)  : Nat → Int32 → Int32 → Int64 → Int32 → Prop
  | 0 => fun _ _ _ _ => False
  | n + 1 => qX11_power_l5 post (qX11_power_L5 post n)
theorem kX11_power_L5 {C : Cx}  (hC : Fx C cX11_power 5 RX11) (hR0 : xR C = rm 1) {post : Int64 → Prop} (hR : RJ C cX11_power 5 (fun _ : Unit => ([] : va_W)) (fun r _ => post r ))  : ∀ (n : Nat) (x0 : Int32) (x1 : Int32) (x2 : Int64) (x4 : Int32), qX11_power_L5 post n x0 x1 x2 x4 → G C 0 0 5 [] 5 [(0, .int x0), (1, .int x1), (2, .long x2), (4, .int x4)] [] := by
  intro n
  induction n with
  | zero => intro x0 x1 x2 x4 h; exact h.elim
  | succ n ih => intro x0 x1 x2 x4 h; exact kX11_power_l5 hC hR0 hR  ih h
def qX11_power (x0 : Int32) (x1 : Int32)  (post : Int64 → Prop) : Prop := ∃ n_5 : Nat, qX11_power_L5 post n_5 x0 x1 (1 : Int64) (0 : Int32)
set_option maxRecDepth 100000 in
set_option maxHeartbeats 4000000 in
theorem kX11_power {C : Cx}  (hC : Fx C cX11_power 5 RX11) (hR0 : xR C = rm 1) {post : Int64 → Prop} (hR : RJ C cX11_power 5 (fun _ : Unit => ([] : va_W)) (fun r _ => post r )) {x0 : Int32} {x1 : Int32}  (h : qX11_power x0 x1  post) : G C 0 0 5 [] 0 [(0, .int x0), (1, .int x1)] [] := by
  refine g_lconst (pc := 0) (v := 1) hC dX11_power_0 (by decide) ?_
  refine g_lstore_n (pc := 1) (lv' := [(2, .long (1 : Int64)), (0, .int x0), (1, .int x1)]) hC dX11_power_1 rfl (Nat.le_of_ble_eq_true rfl) rfl ?_
  refine g_iconst (pc := 2) (v := 0) hC dX11_power_2 (by decide) ?_
  refine g_istore (pc := 3) (lv' := [(4, .int (0 : Int32)), (2, .long (1 : Int64)), (0, .int x0), (1, .int x1)]) hC dX11_power_3 (Nat.le_of_ble_eq_true rfl) rfl ?_
  refine g_sub (lv' := [(0, .int x0), (1, .int x1), (2, .long (1 : Int64)), (4, .int (0 : Int32))]) [2, 3, 1, 0] rfl ?_
  obtain ⟨n_5, h⟩ := h
  exact kX11_power_L5 hC hR0 hR  n_5 _ _ _ _ h
theorem ctX11_power {l : Launch} {D : va_G} {cy : Nat → ClassId} {kd : Nat → Nat}  {x0 : Int32} {x1 : Int32}  {post : Int64 → Prop} (h : qX11_power x0 x1  post) : CtL l D cy kd yX11_power cX11_power 5 1  [.int x0, .int x1] (fun _ : Unit => ([] : va_W)) () (fun r _ => post r ) := met_l (by decide) (Nat.le_of_ble_eq_true rfl) (fun C e1 e2 e3 e4 e5 hC hR => by subst e1 e2 e3 e4; exact kX11_power hC e5 hR h)
theorem dX11_choices_0 : decode cX11_choices 0 = .ok (.lconst 1, 1) := by decide +kernel
theorem dX11_choices_1 : decode cX11_choices 1 = .ok (.lstore_n 2, 1) := by decide +kernel
theorem dX11_choices_2 : decode cX11_choices 2 = .ok (.iconst 1, 1) := by decide +kernel
theorem dX11_choices_3 : decode cX11_choices 3 = .ok (.istore 4, 2) := by decide +kernel
theorem dX11_choices_5 : decode cX11_choices 5 = .ok (.iload 4, 2) := by decide +kernel
theorem dX11_choices_7 : decode cX11_choices 7 = .ok (.iload_n 1, 1) := by decide +kernel
theorem dX11_choices_8 : decode cX11_choices 8 = .ok (.if_icmp .gt 23, 3) := by decide +kernel
theorem dX11_choices_11 : decode cX11_choices 11 = .ok (.lload_n 2, 1) := by decide +kernel
theorem dX11_choices_12 : decode cX11_choices 12 = .ok (.iload_n 0, 1) := by decide +kernel
theorem dX11_choices_13 : decode cX11_choices 13 = .ok (.iload_n 1, 1) := by decide +kernel
theorem dX11_choices_14 : decode cX11_choices 14 = .ok (.isub, 1) := by decide +kernel
theorem dX11_choices_15 : decode cX11_choices 15 = .ok (.iload 4, 2) := by decide +kernel
theorem dX11_choices_17 : decode cX11_choices 17 = .ok (.iadd, 1) := by decide +kernel
theorem dX11_choices_18 : decode cX11_choices 18 = .ok (.i2l, 1) := by decide +kernel
theorem dX11_choices_19 : decode cX11_choices 19 = .ok (.lmul, 1) := by decide +kernel
theorem dX11_choices_20 : decode cX11_choices 20 = .ok (.iload 4, 2) := by decide +kernel
theorem dX11_choices_22 : decode cX11_choices 22 = .ok (.i2l, 1) := by decide +kernel
theorem dX11_choices_23 : decode cX11_choices 23 = .ok (.ldiv, 1) := by decide +kernel
theorem dX11_choices_24 : decode cX11_choices 24 = .ok (.lstore_n 2, 1) := by decide +kernel
theorem dX11_choices_25 : decode cX11_choices 25 = .ok (.iinc 4 1, 3) := by decide +kernel
theorem dX11_choices_28 : decode cX11_choices 28 = .ok (.goto (-23), 3) := by decide +kernel
theorem dX11_choices_31 : decode cX11_choices 31 = .ok (.lload_n 2, 1) := by decide +kernel
theorem dX11_choices_32 : decode cX11_choices 32 = .ok (.lreturn, 1) := by decide +kernel
def qX11_choices_l5  (post : Int64 → Prop) (K5 : Int32 → Int32 → Int64 → Int32 → Prop) (x0 : Int32) (x1 : Int32) (x2 : Int64) (x4 : Int32) : Prop := ((x1 < x4 → post x2 ) ∧ (¬ x1 < x4 → (¬ (x4).toInt64 = 0 ∧ ∀ x2_3 : Int64, x2_3 = ((x2 * (((x0 - x1) + x4)).toInt64) / (x4).toInt64) → ∀ x4_4 : Int32, x4_4 = x4 + (1 : Int32) → K5 x0 x1 x2_3 x4_4)))
set_option maxRecDepth 100000 in
set_option maxHeartbeats 4000000 in
theorem kX11_choices_l5 {C : Cx}  (hC : Fx C cX11_choices 5 RX11) (hR0 : xR C = rm 1) {post : Int64 → Prop} (hR : RJ C cX11_choices 5 (fun _ : Unit => ([] : va_W)) (fun r _ => post r ))  {K5 : Int32 → Int32 → Int64 → Int32 → Prop} (hK5 : ∀ (x0 : Int32) (x1 : Int32) (x2 : Int64) (x4 : Int32), K5 x0 x1 x2 x4 → G C 0 0 5 [] 5 [(0, .int x0), (1, .int x1), (2, .long x2), (4, .int x4)] []) {x0 : Int32} {x1 : Int32} {x2 : Int64} {x4 : Int32} (h : qX11_choices_l5 post K5 x0 x1 x2 x4) : G C 0 0 5 [] 5 [(0, .int x0), (1, .int x1), (2, .long x2), (4, .int x4)] [] := by
  refine g_iload (pc := 5) hC 3 dX11_choices_5 rfl ?_
  refine g_iload_n (pc := 7) hC 1 dX11_choices_7 rfl rfl ?_
  refine g_icmp_gt (pc := 8) (tgt := 31) hC dX11_choices_8 (by decide) (fun c_2 => ?_) (fun c_2 => ?_)
  · have h := h.1 c_2
    refine g_lload_n (pc := 31) hC 2 dX11_choices_31 rfl rfl ?_
    exact hR _ _ _ () dX11_choices_32 h
  · have h := h.2 c_2
    refine g_lload_n (pc := 11) hC 2 dX11_choices_11 rfl rfl ?_
    refine g_iload_n (pc := 12) hC 0 dX11_choices_12 rfl rfl ?_
    refine g_iload_n (pc := 13) hC 1 dX11_choices_13 rfl rfl ?_
    refine g_isub (pc := 14) hC dX11_choices_14 ?_
    refine g_iload (pc := 15) hC 3 dX11_choices_15 rfl ?_
    refine g_iadd (pc := 17) hC dX11_choices_17 ?_
    refine g_i2l (pc := 18) hC dX11_choices_18 ?_
    refine g_lmul (pc := 19) hC dX11_choices_19 ?_
    refine g_iload (pc := 20) hC 3 dX11_choices_20 rfl ?_
    refine g_i2l (pc := 22) hC dX11_choices_22 ?_
    refine g_ldiv (pc := 23) hC dX11_choices_23 h.1 ?_
    have h := h.2
    refine g_topl (fun x2_3 ex2_3 => ?_)
    have h := h x2_3 ex2_3
    refine g_lstore_n (pc := 24) (lv' := [(2, .long x2_3), (0, .int x0), (1, .int x1), (4, .int x4)]) hC dX11_choices_24 rfl (Nat.le_of_ble_eq_true rfl) rfl ?_
    obtain ⟨x4_4, ex4_4⟩ : ∃ z : Int32, z = x4 + (1 : Int32) := ⟨_, rfl⟩
    have h := h x4_4 ex4_4
    refine g_iinc (pc := 25) (v := x4_4) (lv' := [(4, .int x4_4), (2, .long x2_3), (0, .int x0), (1, .int x1)]) hC 3 dX11_choices_25 rfl (by rw [ex4_4]; rfl) (Nat.le_of_ble_eq_true rfl) rfl ?_
    refine g_goto (pc := 28) (tgt := 5) hC dX11_choices_28 (by decide) ?_
    refine g_sub (lv' := [(0, .int x0), (1, .int x1), (2, .long x2_3), (4, .int x4_4)]) [2, 3, 1, 0] rfl ?_
    exact hK5 _ _ _ _ h
def qX11_choices_L5  (post : Int64 → Prop)  : Nat → Int32 → Int32 → Int64 → Int32 → Prop
  | 0 => fun _ _ _ _ => False
  | n + 1 => qX11_choices_l5 post (qX11_choices_L5 post n)
theorem kX11_choices_L5 {C : Cx}  (hC : Fx C cX11_choices 5 RX11) (hR0 : xR C = rm 1) {post : Int64 → Prop} (hR : RJ C cX11_choices 5 (fun _ : Unit => ([] : va_W)) (fun r _ => post r ))  : ∀ (n : Nat) (x0 : Int32) (x1 : Int32) (x2 : Int64) (x4 : Int32), qX11_choices_L5 post n x0 x1 x2 x4 → G C 0 0 5 [] 5 [(0, .int x0), (1, .int x1), (2, .long x2), (4, .int x4)] [] := by
  intro n
  induction n with
  | zero => intro x0 x1 x2 x4 h; exact h.elim
  | succ n ih => intro x0 x1 x2 x4 h; exact kX11_choices_l5 hC hR0 hR  ih h
def qX11_choices (x0 : Int32) (x1 : Int32)  (post : Int64 → Prop) : Prop := ∃ n_5 : Nat, qX11_choices_L5 post n_5 x0 x1 (1 : Int64) (1 : Int32)
set_option maxRecDepth 100000 in
set_option maxHeartbeats 4000000 in
theorem kX11_choices {C : Cx}  (hC : Fx C cX11_choices 5 RX11) (hR0 : xR C = rm 1) {post : Int64 → Prop} (hR : RJ C cX11_choices 5 (fun _ : Unit => ([] : va_W)) (fun r _ => post r )) {x0 : Int32} {x1 : Int32}  (h : qX11_choices x0 x1  post) : G C 0 0 5 [] 0 [(0, .int x0), (1, .int x1)] [] := by
  refine g_lconst (pc := 0) (v := 1) hC dX11_choices_0 (by decide) ?_
  refine g_lstore_n (pc := 1) (lv' := [(2, .long (1 : Int64)), (0, .int x0), (1, .int x1)]) hC dX11_choices_1 rfl (Nat.le_of_ble_eq_true rfl) rfl ?_
  refine g_iconst (pc := 2) (v := 1) hC dX11_choices_2 (by decide) ?_
  refine g_istore (pc := 3) (lv' := [(4, .int (1 : Int32)), (2, .long (1 : Int64)), (0, .int x0), (1, .int x1)]) hC dX11_choices_3 (Nat.le_of_ble_eq_true rfl) rfl ?_
  refine g_sub (lv' := [(0, .int x0), (1, .int x1), (2, .long (1 : Int64)), (4, .int (1 : Int32))]) [2, 3, 1, 0] rfl ?_
  obtain ⟨n_5, h⟩ := h
  exact kX11_choices_L5 hC hR0 hR  n_5 _ _ _ _ h
theorem ctX11_choices {l : Launch} {D : va_G} {cy : Nat → ClassId} {kd : Nat → Nat}  {x0 : Int32} {x1 : Int32}  {post : Int64 → Prop} (h : qX11_choices x0 x1  post) : CtL l D cy kd yX11_choices cX11_choices 5 1  [.int x0, .int x1] (fun _ : Unit => ([] : va_W)) () (fun r _ => post r ) := met_l (by decide) (Nat.le_of_ble_eq_true rfl) (fun C e1 e2 e3 e4 e5 hC hR => by subst e1 e2 e3 e4; exact kX11_choices hC e5 hR h)
theorem dX11_growth_0 : decode cX11_growth 0 = .ok (.iload_n 3, 1) := by decide +kernel
theorem dX11_growth_1 : decode cX11_growth 1 = .ok (.ifCond .eq 9, 3) := by decide +kernel
theorem dX11_growth_4 : decode cX11_growth 4 = .ok (.iload_n 0, 1) := by decide +kernel
theorem dX11_growth_5 : decode cX11_growth 5 = .ok (.iload_n 1, 1) := by decide +kernel
theorem dX11_growth_6 : decode cX11_growth 6 = .ok (.iadd, 1) := by decide +kernel
theorem dX11_growth_7 : decode cX11_growth 7 = .ok (.goto 4, 3) := by decide +kernel
theorem dX11_growth_10 : decode cX11_growth 10 = .ok (.iload_n 0, 1) := by decide +kernel
theorem dX11_growth_11 : decode cX11_growth 11 = .ok (.istore 4, 2) := by decide +kernel
theorem dX11_growth_13 : decode cX11_growth 13 = .ok (.sipush 999, 3) := by decide +kernel
theorem dX11_growth_16 : decode cX11_growth 16 = .ok (.iload_n 1, 1) := by decide +kernel
theorem dX11_growth_17 : decode cX11_growth 17 = .ok (.iload 4, 2) := by decide +kernel
theorem dX11_growth_19 : decode cX11_growth 19 = .ok (.iload_n 2, 1) := by decide +kernel
theorem dX11_growth_20 : decode cX11_growth 20 = .ok (.imul, 1) := by decide +kernel
theorem dX11_growth_21 : decode cX11_growth 21 = .ok (.bipush 20, 2) := by decide +kernel
theorem dX11_growth_23 : decode cX11_growth 23 = .ok (.idiv, 1) := by decide +kernel
theorem dX11_growth_24 : decode cX11_growth 24 = .ok (.iadd, 1) := by decide +kernel
theorem dX11_growth_25 : decode cX11_growth 25 = .ok (.invokestatic 420, 3) := by decide +kernel
theorem dX11_growth_28 : decode cX11_growth 28 = .ok (.ireturn, 1) := by decide +kernel
def qX11_growth_b11  (post : Int32 → Prop)  (x1 : Int32) (x2 : Int32) (s0 : Int32) : Prop := post (if (x1 + ((s0 * x2) / (20 : Int32))) < (999 : Int32) then (x1 + ((s0 * x2) / (20 : Int32))) else (999 : Int32)) 
set_option maxRecDepth 100000 in
set_option maxHeartbeats 4000000 in
theorem kX11_growth_b11 {C : Cx}  (hC : Fx C cX11_growth 5 RX11) (hR0 : xR C = rm 2) {post : Int32 → Prop} (hR : RI C cX11_growth 5 (fun _ : Unit => ([] : va_W)) (fun r _ => post r ))  {x1 : Int32} {x2 : Int32} {s0 : Int32} (h : qX11_growth_b11 post x1 x2 s0) : G C 0 0 5 [] 11 [(1, .int x1), (2, .int x2)] [.int s0] := by
  refine g_istore (pc := 11) (lv' := [(4, .int s0), (1, .int x1), (2, .int x2)]) hC dX11_growth_11 (Nat.le_of_ble_eq_true rfl) rfl ?_
  refine g_sipush (pc := 13) (v := 999) hC dX11_growth_13 (by decide) ?_
  refine g_iload_n (pc := 16) hC 1 dX11_growth_16 rfl rfl ?_
  refine g_iload (pc := 17) hC 0 dX11_growth_17 rfl ?_
  refine g_iload_n (pc := 19) hC 2 dX11_growth_19 rfl rfl ?_
  refine g_imul (pc := 20) hC dX11_growth_20 ?_
  refine g_bipush (pc := 21) (v := 20) hC dX11_growth_21 (by decide) ?_
  refine g_idiv (pc := 23) hC dX11_growth_23 (by decide) ?_
  refine g_iadd (pc := 24) hC dX11_growth_24 ?_
  refine g_mmin (pc := 25) hC hR0 ml_X11_420 dX11_growth_25 (Nat.le_of_ble_eq_true rfl) ?_
  exact hR _ _ _ () dX11_growth_28 h
def qX11_growth (x0 : Int32) (x1 : Int32) (x2 : Int32) (x3 : Int32)  (post : Int32 → Prop) : Prop := ((x3 = 0 → qX11_growth_b11 post x1 x2 x0) ∧ (¬ x3 = 0 → qX11_growth_b11 post x1 x2 (x0 + x1)))
set_option maxRecDepth 100000 in
set_option maxHeartbeats 4000000 in
theorem kX11_growth {C : Cx}  (hC : Fx C cX11_growth 5 RX11) (hR0 : xR C = rm 2) {post : Int32 → Prop} (hR : RI C cX11_growth 5 (fun _ : Unit => ([] : va_W)) (fun r _ => post r )) {x0 : Int32} {x1 : Int32} {x2 : Int32} {x3 : Int32}  (h : qX11_growth x0 x1 x2 x3  post) : G C 0 0 5 [] 0 [(0, .int x0), (1, .int x1), (2, .int x2), (3, .int x3)] [] := by
  refine g_iload_n (pc := 0) hC 3 dX11_growth_0 rfl rfl ?_
  refine g_if_eq (pc := 1) (tgt := 10) hC dX11_growth_1 (by decide) (fun c_1 => ?_) (fun c_1 => ?_)
  · have h := h.1 c_1
    refine g_iload_n (pc := 10) hC 0 dX11_growth_10 rfl rfl ?_
    refine g_sub (lv' := [(1, .int x1), (2, .int x2)]) [1, 2] rfl ?_
    exact kX11_growth_b11 hC hR0 hR  h
  · have h := h.2 c_1
    refine g_iload_n (pc := 4) hC 0 dX11_growth_4 rfl rfl ?_
    refine g_iload_n (pc := 5) hC 1 dX11_growth_5 rfl rfl ?_
    refine g_iadd (pc := 6) hC dX11_growth_6 ?_
    refine g_goto (pc := 7) (tgt := 11) hC dX11_growth_7 (by decide) ?_
    refine g_sub (lv' := [(1, .int x1), (2, .int x2)]) [1, 2] rfl ?_
    exact kX11_growth_b11 hC hR0 hR  h
theorem ctX11_growth {l : Launch} {D : va_G} {cy : Nat → ClassId} {kd : Nat → Nat}  {x0 : Int32} {x1 : Int32} {x2 : Int32} {x3 : Int32}  {post : Int32 → Prop} (h : qX11_growth x0 x1 x2 x3  post) : CtI l D cy kd yX11_growth cX11_growth 5 2 .int [.int x0, .int x1, .int x2, .int x3] (fun _ : Unit => ([] : va_W)) () (fun r _ => post r ) := met_i (by decide) (Nat.le_of_ble_eq_true rfl) (fun C e1 e2 e3 e4 e5 hC hR => by subst e1 e2 e3 e4; exact kX11_growth hC e5 hR h)
