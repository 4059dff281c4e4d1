/-! Times, Trays, Rates -/
theorem dX7_clear_0 : decode cX7_clear 0 = .ok (.aload_n 0, 1) := by decide +kernel
theorem dX7_clear_1 : decode cX7_clear 1 = .ok (.iconst 0, 1) := by decide +kernel
theorem dX7_clear_2 : decode cX7_clear 2 = .ok (.putfield 27, 3) := by decide +kernel
theorem dX7_clear_5 : decode cX7_clear 5 = .ok (.aload_n 0, 1) := by decide +kernel
theorem dX7_clear_6 : decode cX7_clear 6 = .ok (.iconst 0, 1) := by decide +kernel
theorem dX7_clear_7 : decode cX7_clear 7 = .ok (.putfield 31, 3) := by decide +kernel
theorem dX7_clear_10 : decode cX7_clear 10 = .ok (.aload_n 0, 1) := by decide +kernel
theorem dX7_clear_11 : decode cX7_clear 11 = .ok (.iconst 0, 1) := by decide +kernel
theorem dX7_clear_12 : decode cX7_clear 12 = .ok (.putfield 35, 3) := by decide +kernel
theorem dX7_clear_15 : decode cX7_clear 15 = .ok (.return_, 1) := by decide +kernel
def qX7_clear  (u0 : St) (post : St → Prop) : Prop := ∀ u_4 : St, u_4 = (si u0 0 (0 : Int32)) → ∀ u_5 : St, u_5 = (si u_4 1 (0 : Int32)) → ∀ u_6 : St, u_6 = (si u_5 2 (0 : Int32)) → post u_6
set_option maxRecDepth 100000 in
set_option maxHeartbeats 4000000 in
theorem kX7_clear {C : Cx} {o0 : Nat} {a0 : Nat → Nat} (hC : Fx C cX7_clear 1 RX7) (hR0 : xR C = rm 1) {post : St → Prop} (hR : RV C cX7_clear 1 (fun u : St => (wX7 o0 a0 (xy C) u [])) (fun u => post u))  {u0 : St} (h : qX7_clear  u0 post) : G C 0 0 1 (wX7 o0 a0 (xy C) u0 []) 0 [(0, .ref o0)] [] := by
  refine g_aload_n (pc := 0) hC 0 dX7_clear_0 rfl rfl ?_
  refine g_iconst (pc := 1) (v := 0) hC dX7_clear_1 (by decide) ?_
  refine putX7_0 (pc := 2) hC (F := fun Z => Z) (X := []) (fun _ => rfl) fl_X7_27 (Or.inl rfl) dX7_clear_2 ?_
  refine g_st (w := fun z => (wX7 o0 a0 (xy C) z [])) (u := (si u0 0 (0 : Int32))) (fun u_4 eu_4 => ?_)
  have h := h u_4 eu_4
  refine g_aload_n (pc := 5) hC 0 dX7_clear_5 rfl rfl ?_
  refine g_iconst (pc := 6) (v := 0) hC dX7_clear_6 (by decide) ?_
  refine putX7_1 (pc := 7) hC (F := fun Z => Z) (X := []) (fun _ => rfl) fl_X7_31 dX7_clear_7 ?_
  refine g_st (w := fun z => (wX7 o0 a0 (xy C) z [])) (u := (si u_4 1 (0 : Int32))) (fun u_5 eu_5 => ?_)
  have h := h u_5 eu_5
  refine g_aload_n (pc := 10) hC 0 dX7_clear_10 rfl rfl ?_
  refine g_iconst (pc := 11) (v := 0) hC dX7_clear_11 (by decide) ?_
  refine putX7_2 (pc := 12) hC (F := fun Z => Z) (X := []) (fun _ => rfl) fl_X7_35 dX7_clear_12 ?_
  refine g_st (w := fun z => (wX7 o0 a0 (xy C) z [])) (u := (si u_5 2 (0 : Int32))) (fun u_6 eu_6 => ?_)
  have h := h u_6 eu_6
  exact hR _ _ u_6 dX7_clear_15 h
theorem ctX7_clear {l : Launch} {D : va_G} {cy : Nat → ClassId} {kd : Nat → Nat} {o0 : Nat} {a0 : Nat → Nat}  {u0 : St} {post : St → Prop} (h : qX7_clear  u0 post) : CtV l D cy kd yX7_clear cX7_clear 1 1  [.ref o0] (fun u : St => (wX7 o0 a0 cy u [])) u0 (fun u => post u) := met_v (by decide) (Nat.le_of_ble_eq_true rfl) (fun C e1 e2 e3 e4 e5 hC hR => by subst e1 e2 e3 e4; exact kX7_clear hC e5 hR h)
theorem dX7_add_0 : decode cX7_add 0 = .ok (.aload_n 0, 1) := by decide +kernel
theorem dX7_add_1 : decode cX7_add 1 = .ok (.getfield 35, 3) := by decide +kernel
theorem dX7_add_4 : decode cX7_add 4 = .ok (.bipush 60, 2) := by decide +kernel
theorem dX7_add_6 : decode cX7_add 6 = .ok (.if_icmp .lt 5, 3) := by decide +kernel
theorem dX7_add_9 : decode cX7_add 9 = .ok (.iconst (-1), 1) := by decide +kernel
theorem dX7_add_10 : decode cX7_add 10 = .ok (.ireturn, 1) := by decide +kernel
theorem dX7_add_11 : decode cX7_add 11 = .ok (.aload_n 0, 1) := by decide +kernel
theorem dX7_add_12 : decode cX7_add 12 = .ok (.getfield 11, 3) := by decide +kernel
theorem dX7_add_15 : decode cX7_add 15 = .ok (.aload_n 0, 1) := by decide +kernel
theorem dX7_add_16 : decode cX7_add 16 = .ok (.getfield 35, 3) := by decide +kernel
theorem dX7_add_19 : decode cX7_add 19 = .ok (.iload_n 1, 1) := by decide +kernel
theorem dX7_add_20 : decode cX7_add 20 = .ok (.iastore, 1) := by decide +kernel
theorem dX7_add_21 : decode cX7_add 21 = .ok (.aload_n 0, 1) := by decide +kernel
theorem dX7_add_22 : decode cX7_add 22 = .ok (.getfield 15, 3) := by decide +kernel
theorem dX7_add_25 : decode cX7_add 25 = .ok (.aload_n 0, 1) := by decide +kernel
theorem dX7_add_26 : decode cX7_add 26 = .ok (.getfield 35, 3) := by decide +kernel
theorem dX7_add_29 : decode cX7_add 29 = .ok (.iload_n 2, 1) := by decide +kernel
theorem dX7_add_30 : decode cX7_add 30 = .ok (.iastore, 1) := by decide +kernel
theorem dX7_add_31 : decode cX7_add 31 = .ok (.aload_n 0, 1) := by decide +kernel
theorem dX7_add_32 : decode cX7_add 32 = .ok (.getfield 18, 3) := by decide +kernel
theorem dX7_add_35 : decode cX7_add 35 = .ok (.aload_n 0, 1) := by decide +kernel
theorem dX7_add_36 : decode cX7_add 36 = .ok (.getfield 35, 3) := by decide +kernel
theorem dX7_add_39 : decode cX7_add 39 = .ok (.iload_n 3, 1) := by decide +kernel
theorem dX7_add_40 : decode cX7_add 40 = .ok (.iastore, 1) := by decide +kernel
theorem dX7_add_41 : decode cX7_add 41 = .ok (.aload_n 0, 1) := by decide +kernel
theorem dX7_add_42 : decode cX7_add 42 = .ok (.getfield 21, 3) := by decide +kernel
theorem dX7_add_45 : decode cX7_add 45 = .ok (.aload_n 0, 1) := by decide +kernel
theorem dX7_add_46 : decode cX7_add 46 = .ok (.getfield 35, 3) := by decide +kernel
theorem dX7_add_49 : decode cX7_add 49 = .ok (.iload 4, 2) := by decide +kernel
theorem dX7_add_51 : decode cX7_add 51 = .ok (.iastore, 1) := by decide +kernel
theorem dX7_add_52 : decode cX7_add 52 = .ok (.aload_n 0, 1) := by decide +kernel
theorem dX7_add_53 : decode cX7_add 53 = .ok (.getfield 24, 3) := by decide +kernel
theorem dX7_add_56 : decode cX7_add 56 = .ok (.aload_n 0, 1) := by decide +kernel
theorem dX7_add_57 : decode cX7_add 57 = .ok (.getfield 35, 3) := by decide +kernel
theorem dX7_add_60 : decode cX7_add 60 = .ok (.iconst (-1), 1) := by decide +kernel
theorem dX7_add_61 : decode cX7_add 61 = .ok (.iastore, 1) := by decide +kernel
theorem dX7_add_62 : decode cX7_add 62 = .ok (.aload_n 0, 1) := by decide +kernel
theorem dX7_add_63 : decode cX7_add 63 = .ok (.dup, 1) := by decide +kernel
theorem dX7_add_64 : decode cX7_add 64 = .ok (.getfield 35, 3) := by decide +kernel
theorem dX7_add_67 : decode cX7_add 67 = .ok (.iconst 1, 1) := by decide +kernel
theorem dX7_add_68 : decode cX7_add 68 = .ok (.iadd, 1) := by decide +kernel
theorem dX7_add_69 : decode cX7_add 69 = .ok (.putfield 35, 3) := by decide +kernel
theorem dX7_add_72 : decode cX7_add 72 = .ok (.aload_n 0, 1) := by decide +kernel
theorem dX7_add_73 : decode cX7_add 73 = .ok (.getfield 35, 3) := by decide +kernel
theorem dX7_add_76 : decode cX7_add 76 = .ok (.iconst 1, 1) := by decide +kernel
theorem dX7_add_77 : decode cX7_add 77 = .ok (.isub, 1) := by decide +kernel
theorem dX7_add_78 : decode cX7_add 78 = .ok (.ireturn, 1) := by decide +kernel
def qX7_add (x1 : Int32) (x2 : Int32) (x3 : Int32) (x4 : Int32) (u0 : St) (post : Int32 → St → Prop) : Prop := (((gi u0 2) < (60 : Int32) → (vp_in (gi u0 2) 60 ∧ ∀ u_8 : St, u_8 = (sw u0 3 (upd (ga u0 3) ((gi u0 2)).toNatClampNeg x1)) → (vp_in (gi u_8 2) 60 ∧ ∀ u_9 : St, u_9 = (sw u_8 4 (upd (ga u_8 4) ((gi u_8 2)).toNatClampNeg x2)) → (vp_in (gi u_9 2) 60 ∧ ∀ u_10 : St, u_10 = (sw u_9 5 (upd (ga u_9 5) ((gi u_9 2)).toNatClampNeg x3)) → (vp_in (gi u_10 2) 60 ∧ ∀ u_11 : St, u_11 = (sw u_10 6 (upd (ga u_10 6) ((gi u_10 2)).toNatClampNeg x4)) → (vp_in (gi u_11 2) 60 ∧ ∀ u_12 : St, u_12 = (sw u_11 7 (upd (ga u_11 7) ((gi u_11 2)).toNatClampNeg (-1 : Int32))) → ∀ u_13 : St, u_13 = (si u_12 2 ((gi u_12 2) + (1 : Int32))) → post ((gi u_13 2) - (1 : Int32)) u_13)))))) ∧ (¬ (gi u0 2) < (60 : Int32) → post (-1 : Int32) u0))
set_option maxRecDepth 100000 in
set_option maxHeartbeats 4000000 in
theorem kX7_add {C : Cx} {o0 : Nat} {a0 : Nat → Nat} (hC : Fx C cX7_add 5 RX7) (hR0 : xR C = rm 1) {post : Int32 → St → Prop} (hR : RI C cX7_add 5 (fun u : St => (wX7 o0 a0 (xy C) u [])) (fun r u => post r u)) {x1 : Int32} {x2 : Int32} {x3 : Int32} {x4 : Int32} {u0 : St} (h : qX7_add x1 x2 x3 x4 u0 post) : G C 0 0 5 (wX7 o0 a0 (xy C) u0 []) 0 [(0, .ref o0), (1, .int x1), (2, .int x2), (3, .int x3), (4, .int x4)] [] := by
  refine g_aload_n (pc := 0) hC 0 dX7_add_0 rfl rfl ?_
  refine getX7_2 (pc := 1) hC (F := fun Z => Z) (X := []) (fun _ => rfl) fl_X7_35 dX7_add_1 ?_
  refine g_bipush (pc := 4) (v := 60) hC dX7_add_4 (by decide) ?_
  refine g_icmp_lt (pc := 6) (tgt := 11) hC dX7_add_6 (by decide) (fun c_7 => ?_) (fun c_7 => ?_)
  · have h := h.1 c_7
    refine g_aload_n (pc := 11) hC 0 dX7_add_11 rfl rfl ?_
    refine getX7_3 (pc := 12) hC (F := fun Z => Z) (X := []) (fun _ => rfl) fl_X7_11 dX7_add_12 ?_
    refine g_aload_n (pc := 15) hC 0 dX7_add_15 rfl rfl ?_
    refine getX7_2 (pc := 16) hC (F := fun Z => Z) (X := []) (fun _ => rfl) fl_X7_35 dX7_add_16 ?_
    refine g_iload_n (pc := 19) hC 1 dX7_add_19 rfl rfl ?_
    refine astX7_3 (pc := 20) hC (F := fun Z => Z) (X := []) (fun _ => rfl) h.1 dX7_add_20 ?_
    have h := h.2
    refine g_st (w := fun z => (wX7 o0 a0 (xy C) z [])) (u := (sw u0 3 (upd (ga u0 3) ((gi u0 2)).toNatClampNeg x1))) (fun u_8 eu_8 => ?_)
    have h := h u_8 eu_8
    refine g_aload_n (pc := 21) hC 0 dX7_add_21 rfl rfl ?_
    refine getX7_4 (pc := 22) hC (F := fun Z => Z) (X := []) (fun _ => rfl) fl_X7_15 dX7_add_22 ?_
    refine g_aload_n (pc := 25) hC 0 dX7_add_25 rfl rfl ?_
    refine getX7_2 (pc := 26) hC (F := fun Z => Z) (X := []) (fun _ => rfl) fl_X7_35 dX7_add_26 ?_
    refine g_iload_n (pc := 29) hC 2 dX7_add_29 rfl rfl ?_
    refine astX7_4 (pc := 30) hC (F := fun Z => Z) (X := []) (fun _ => rfl) h.1 dX7_add_30 ?_
    have h := h.2
    refine g_st (w := fun z => (wX7 o0 a0 (xy C) z [])) (u := (sw u_8 4 (upd (ga u_8 4) ((gi u_8 2)).toNatClampNeg x2))) (fun u_9 eu_9 => ?_)
    have h := h u_9 eu_9
    refine g_aload_n (pc := 31) hC 0 dX7_add_31 rfl rfl ?_
    refine getX7_5 (pc := 32) hC (F := fun Z => Z) (X := []) (fun _ => rfl) fl_X7_18 dX7_add_32 ?_
    refine g_aload_n (pc := 35) hC 0 dX7_add_35 rfl rfl ?_
    refine getX7_2 (pc := 36) hC (F := fun Z => Z) (X := []) (fun _ => rfl) fl_X7_35 dX7_add_36 ?_
    refine g_iload_n (pc := 39) hC 3 dX7_add_39 rfl rfl ?_
    refine astX7_5 (pc := 40) hC (F := fun Z => Z) (X := []) (fun _ => rfl) h.1 dX7_add_40 ?_
    have h := h.2
    refine g_st (w := fun z => (wX7 o0 a0 (xy C) z [])) (u := (sw u_9 5 (upd (ga u_9 5) ((gi u_9 2)).toNatClampNeg x3))) (fun u_10 eu_10 => ?_)
    have h := h u_10 eu_10
    refine g_aload_n (pc := 41) hC 0 dX7_add_41 rfl rfl ?_
    refine getX7_6 (pc := 42) hC (F := fun Z => Z) (X := []) (fun _ => rfl) fl_X7_21 dX7_add_42 ?_
    refine g_aload_n (pc := 45) hC 0 dX7_add_45 rfl rfl ?_
    refine getX7_2 (pc := 46) hC (F := fun Z => Z) (X := []) (fun _ => rfl) fl_X7_35 dX7_add_46 ?_
    refine g_iload (pc := 49) hC 4 dX7_add_49 rfl ?_
    refine astX7_6 (pc := 51) hC (F := fun Z => Z) (X := []) (fun _ => rfl) h.1 dX7_add_51 ?_
    have h := h.2
    refine g_st (w := fun z => (wX7 o0 a0 (xy C) z [])) (u := (sw u_10 6 (upd (ga u_10 6) ((gi u_10 2)).toNatClampNeg x4))) (fun u_11 eu_11 => ?_)
    have h := h u_11 eu_11
    refine g_aload_n (pc := 52) hC 0 dX7_add_52 rfl rfl ?_
    refine getX7_7 (pc := 53) hC (F := fun Z => Z) (X := []) (fun _ => rfl) fl_X7_24 dX7_add_53 ?_
    refine g_aload_n (pc := 56) hC 0 dX7_add_56 rfl rfl ?_
    refine getX7_2 (pc := 57) hC (F := fun Z => Z) (X := []) (fun _ => rfl) fl_X7_35 dX7_add_57 ?_
    refine g_iconst (pc := 60) (v := -1) hC dX7_add_60 (by decide) ?_
    refine astX7_7 (pc := 61) hC (F := fun Z => Z) (X := []) (fun _ => rfl) h.1 dX7_add_61 ?_
    have h := h.2
    refine g_st (w := fun z => (wX7 o0 a0 (xy C) z [])) (u := (sw u_11 7 (upd (ga u_11 7) ((gi u_11 2)).toNatClampNeg (-1 : Int32)))) (fun u_12 eu_12 => ?_)
    have h := h u_12 eu_12
    refine g_aload_n (pc := 62) hC 0 dX7_add_62 rfl rfl ?_
    refine g_dup (pc := 63) hC dX7_add_63 rfl ?_
    refine getX7_2 (pc := 64) hC (F := fun Z => Z) (X := []) (fun _ => rfl) fl_X7_35 dX7_add_64 ?_
    refine g_iconst (pc := 67) (v := 1) hC dX7_add_67 (by decide) ?_
    refine g_iadd (pc := 68) hC dX7_add_68 ?_
    refine putX7_2 (pc := 69) hC (F := fun Z => Z) (X := []) (fun _ => rfl) fl_X7_35 dX7_add_69 ?_
    refine g_st (w := fun z => (wX7 o0 a0 (xy C) z [])) (u := (si u_12 2 ((gi u_12 2) + (1 : Int32)))) (fun u_13 eu_13 => ?_)
    have h := h u_13 eu_13
    refine g_aload_n (pc := 72) hC 0 dX7_add_72 rfl rfl ?_
    refine getX7_2 (pc := 73) hC (F := fun Z => Z) (X := []) (fun _ => rfl) fl_X7_35 dX7_add_73 ?_
    refine g_iconst (pc := 76) (v := 1) hC dX7_add_76 (by decide) ?_
    refine g_isub (pc := 77) hC dX7_add_77 ?_
    exact hR _ _ _ u_13 dX7_add_78 h
  · have h := h.2 c_7
    refine g_iconst (pc := 9) (v := -1) hC dX7_add_9 (by decide) ?_
    exact hR _ _ _ u0 dX7_add_10 h
theorem ctX7_add {l : Launch} {D : va_G} {cy : Nat → ClassId} {kd : Nat → Nat} {o0 : Nat} {a0 : Nat → Nat} {x1 : Int32} {x2 : Int32} {x3 : Int32} {x4 : Int32} {u0 : St} {post : Int32 → St → Prop} (h : qX7_add x1 x2 x3 x4 u0 post) : CtI l D cy kd yX7_add cX7_add 5 1 .int [.ref o0, .int x1, .int x2, .int x3, .int x4] (fun u : St => (wX7 o0 a0 cy u [])) u0 (fun r u => post r u) := met_i (by decide) (Nat.le_of_ble_eq_true rfl) (fun C e1 e2 e3 e4 e5 hC hR => by subst e1 e2 e3 e4; exact kX7_add hC e5 hR h)
theorem dX7_join_0 : decode cX7_join 0 = .ok (.iload_n 1, 1) := by decide +kernel
theorem dX7_join_1 : decode cX7_join 1 = .ok (.iconst 0, 1) := by decide +kernel
theorem dX7_join_2 : decode cX7_join 2 = .ok (.aload_n 0, 1) := by decide +kernel
theorem dX7_join_3 : decode cX7_join 3 = .ok (.getfield 35, 3) := by decide +kernel
theorem dX7_join_6 : decode cX7_join 6 = .ok (.iconst 1, 1) := by decide +kernel
theorem dX7_join_7 : decode cX7_join 7 = .ok (.isub, 1) := by decide +kernel
theorem dX7_join_8 : decode cX7_join 8 = .ok (.invokestatic 38, 3) := by decide +kernel
theorem dX7_join_11 : decode cX7_join 11 = .ok (.ifCond .eq 31, 3) := by decide +kernel
theorem dX7_join_14 : decode cX7_join 14 = .ok (.iload_n 2, 1) := by decide +kernel
theorem dX7_join_15 : decode cX7_join 15 = .ok (.iconst 0, 1) := by decide +kernel
theorem dX7_join_16 : decode cX7_join 16 = .ok (.aload_n 0, 1) := by decide +kernel
theorem dX7_join_17 : decode cX7_join 17 = .ok (.getfield 35, 3) := by decide +kernel
theorem dX7_join_20 : decode cX7_join 20 = .ok (.iconst 1, 1) := by decide +kernel
theorem dX7_join_21 : decode cX7_join 21 = .ok (.isub, 1) := by decide +kernel
theorem dX7_join_22 : decode cX7_join 22 = .ok (.invokestatic 38, 3) := by decide +kernel
theorem dX7_join_25 : decode cX7_join 25 = .ok (.ifCond .eq 17, 3) := by decide +kernel
theorem dX7_join_28 : decode cX7_join 28 = .ok (.aload_n 0, 1) := by decide +kernel
theorem dX7_join_29 : decode cX7_join 29 = .ok (.getfield 24, 3) := by decide +kernel
theorem dX7_join_32 : decode cX7_join 32 = .ok (.iload_n 1, 1) := by decide +kernel
theorem dX7_join_33 : decode cX7_join 33 = .ok (.iload_n 2, 1) := by decide +kernel
theorem dX7_join_34 : decode cX7_join 34 = .ok (.iastore, 1) := by decide +kernel
theorem dX7_join_35 : decode cX7_join 35 = .ok (.aload_n 0, 1) := by decide +kernel
theorem dX7_join_36 : decode cX7_join 36 = .ok (.getfield 24, 3) := by decide +kernel
theorem dX7_join_39 : decode cX7_join 39 = .ok (.iload_n 2, 1) := by decide +kernel
theorem dX7_join_40 : decode cX7_join 40 = .ok (.iload_n 1, 1) := by decide +kernel
theorem dX7_join_41 : decode cX7_join 41 = .ok (.iastore, 1) := by decide +kernel
theorem dX7_join_42 : decode cX7_join 42 = .ok (.return_, 1) := by decide +kernel
def qX7_join_b42  (post : St → Prop)  (u0 : St) : Prop := post u0
set_option maxRecDepth 100000 in
set_option maxHeartbeats 4000000 in
theorem kX7_join_b42 {C : Cx} {o0 : Nat} {a0 : Nat → Nat} (hC : Fx C cX7_join 3 RX7) (hR0 : xR C = rm 2) {post : St → Prop} (hR : RV C cX7_join 3 (fun u : St => (wX7 o0 a0 (xy C) u [])) (fun u => post u))  {u0 : St} (h : qX7_join_b42 post u0) : G C 0 0 3 (wX7 o0 a0 (xy C) u0 []) 42 [] [] := by
  exact hR _ _ u0 dX7_join_42 h
def qX7_join (x1 : Int32) (x2 : Int32) (u0 : St) (post : St → Prop) : Prop := qX11_within x1 (0 : Int32) ((gi u0 2) - (1 : Int32)) (fun r_7 => ((r_7 = 0 → qX7_join_b42 post u0) ∧ (¬ r_7 = 0 → qX11_within x2 (0 : Int32) ((gi u0 2) - (1 : Int32)) (fun r_10 => ((r_10 = 0 → qX7_join_b42 post u0) ∧ (¬ r_10 = 0 → (vp_in x1 60 ∧ ∀ u_13 : St, u_13 = (sw u0 7 (upd (ga u0 7) (x1).toNatClampNeg x2)) → (vp_in x2 60 ∧ ∀ u_14 : St, u_14 = (sw u_13 7 (upd (ga u_13 7) (x2).toNatClampNeg x1)) → qX7_join_b42 post u_14))))))))
set_option maxRecDepth 100000 in
set_option maxHeartbeats 4000000 in
theorem kX7_join {C : Cx} {o0 : Nat} {a0 : Nat → Nat} (hC : Fx C cX7_join 3 RX7) (hR0 : xR C = rm 2) {post : St → Prop} (hR : RV C cX7_join 3 (fun u : St => (wX7 o0 a0 (xy C) u [])) (fun u => post u)) {x1 : Int32} {x2 : Int32} {u0 : St} (h : qX7_join x1 x2 u0 post) : G C 0 0 3 (wX7 o0 a0 (xy C) u0 []) 0 [(0, .ref o0), (1, .int x1), (2, .int x2)] [] := by
  refine g_iload_n (pc := 0) hC 1 dX7_join_0 rfl rfl ?_
  refine g_iconst (pc := 1) (v := 0) hC dX7_join_1 (by decide) ?_
  refine g_aload_n (pc := 2) hC 0 dX7_join_2 rfl rfl ?_
  refine getX7_2 (pc := 3) hC (F := fun Z => Z) (X := []) (fun _ => rfl) fl_X7_35 dX7_join_3 ?_
  refine g_iconst (pc := 6) (v := 1) hC dX7_join_6 (by decide) ?_
  refine g_isub (pc := 7) hC dX7_join_7 ?_
  refine g_callSN_i (pc := 8) (wd := fun (_ : Unit) Y => Y) (F := fun Z => Z) (X := []) (As := [.int x1, .int (0 : Int32), .int ((gi u0 2) - (1 : Int32))]) (rest := []) (u := ()) hC (fun _ _ => rfl) (fun _ => rfl) (ctX11_within h) wvX11_within nl_X7_38 rfl (rmok hR0 rfl) ⟨Nat.zero_le _, Nat.zero_le _⟩ rfl (Nat.le_of_ble_eq_true rfl) dX7_join_8 (fun r_7 u_8 h => ?_)
  refine g_if_eq (pc := 11) (tgt := 42) hC dX7_join_11 (by decide) (fun c_9 => ?_) (fun c_9 => ?_)
  · have h := h.1 c_9
    refine g_sub (lv' := []) [] rfl ?_
    exact kX7_join_b42 hC hR0 hR  h
  · have h := h.2 c_9
    refine g_iload_n (pc := 14) hC 2 dX7_join_14 rfl rfl ?_
    refine g_iconst (pc := 15) (v := 0) hC dX7_join_15 (by decide) ?_
    refine g_aload_n (pc := 16) hC 0 dX7_join_16 rfl rfl ?_
    refine getX7_2 (pc := 17) hC (F := fun Z => Z) (X := []) (fun _ => rfl) fl_X7_35 dX7_join_17 ?_
    refine g_iconst (pc := 20) (v := 1) hC dX7_join_20 (by decide) ?_
    refine g_isub (pc := 21) hC dX7_join_21 ?_
    refine g_callSN_i (pc := 22) (wd := fun (_ : Unit) Y => Y) (F := fun Z => Z) (X := []) (As := [.int x2, .int (0 : Int32), .int ((gi u0 2) - (1 : Int32))]) (rest := []) (u := ()) hC (fun _ _ => rfl) (fun _ => rfl) (ctX11_within h) wvX11_within nl_X7_38 rfl (rmok hR0 rfl) ⟨Nat.zero_le _, Nat.zero_le _⟩ rfl (Nat.le_of_ble_eq_true rfl) dX7_join_22 (fun r_10 u_11 h => ?_)
    refine g_if_eq (pc := 25) (tgt := 42) hC dX7_join_25 (by decide) (fun c_12 => ?_) (fun c_12 => ?_)
    · have h := h.1 c_12
      refine g_sub (lv' := []) [] rfl ?_
      exact kX7_join_b42 hC hR0 hR  h
    · have h := h.2 c_12
      refine g_aload_n (pc := 28) hC 0 dX7_join_28 rfl rfl ?_
      refine getX7_7 (pc := 29) hC (F := fun Z => Z) (X := []) (fun _ => rfl) fl_X7_24 dX7_join_29 ?_
      refine g_iload_n (pc := 32) hC 1 dX7_join_32 rfl rfl ?_
      refine g_iload_n (pc := 33) hC 2 dX7_join_33 rfl rfl ?_
      refine astX7_7 (pc := 34) hC (F := fun Z => Z) (X := []) (fun _ => rfl) h.1 dX7_join_34 ?_
      have h := h.2
      refine g_st (w := fun z => (wX7 o0 a0 (xy C) z [])) (u := (sw u0 7 (upd (ga u0 7) (x1).toNatClampNeg x2))) (fun u_13 eu_13 => ?_)
      have h := h u_13 eu_13
      refine g_aload_n (pc := 35) hC 0 dX7_join_35 rfl rfl ?_
      refine getX7_7 (pc := 36) hC (F := fun Z => Z) (X := []) (fun _ => rfl) fl_X7_24 dX7_join_36 ?_
      refine g_iload_n (pc := 39) hC 2 dX7_join_39 rfl rfl ?_
      refine g_iload_n (pc := 40) hC 1 dX7_join_40 rfl rfl ?_
      refine astX7_7 (pc := 41) hC (F := fun Z => Z) (X := []) (fun _ => rfl) h.1 dX7_join_41 ?_
      have h := h.2
      refine g_st (w := fun z => (wX7 o0 a0 (xy C) z [])) (u := (sw u_13 7 (upd (ga u_13 7) (x2).toNatClampNeg x1))) (fun u_14 eu_14 => ?_)
      have h := h u_14 eu_14
      refine g_sub (lv' := []) [] rfl ?_
      exact kX7_join_b42 hC hR0 hR  h
theorem ctX7_join {l : Launch} {D : va_G} {cy : Nat → ClassId} {kd : Nat → Nat} {o0 : Nat} {a0 : Nat → Nat} {x1 : Int32} {x2 : Int32} {u0 : St} {post : St → Prop} (h : qX7_join x1 x2 u0 post) : CtV l D cy kd yX7_join cX7_join 3 2  [.ref o0, .int x1, .int x2] (fun u : St => (wX7 o0 a0 cy u [])) u0 (fun u => post u) := met_v (by decide) (Nat.le_of_ble_eq_true rfl) (fun C e1 e2 e3 e4 e5 hC hR => by subst e1 e2 e3 e4; exact kX7_join hC e5 hR h)
theorem dX7_copyFrom_0 : decode cX7_copyFrom 0 = .ok (.aload_n 0, 1) := by decide +kernel
theorem dX7_copyFrom_1 : decode cX7_copyFrom 1 = .ok (.aload_n 1, 1) := by decide +kernel
theorem dX7_copyFrom_2 : decode cX7_copyFrom 2 = .ok (.getfield 27, 3) := by decide +kernel
theorem dX7_copyFrom_5 : decode cX7_copyFrom 5 = .ok (.putfield 27, 3) := by decide +kernel
theorem dX7_copyFrom_8 : decode cX7_copyFrom 8 = .ok (.aload_n 0, 1) := by decide +kernel
theorem dX7_copyFrom_9 : decode cX7_copyFrom 9 = .ok (.aload_n 1, 1) := by decide +kernel
theorem dX7_copyFrom_10 : decode cX7_copyFrom 10 = .ok (.getfield 31, 3) := by decide +kernel
theorem dX7_copyFrom_13 : decode cX7_copyFrom 13 = .ok (.putfield 31, 3) := by decide +kernel
theorem dX7_copyFrom_16 : decode cX7_copyFrom 16 = .ok (.aload_n 0, 1) := by decide +kernel
theorem dX7_copyFrom_17 : decode cX7_copyFrom 17 = .ok (.aload_n 1, 1) := by decide +kernel
theorem dX7_copyFrom_18 : decode cX7_copyFrom 18 = .ok (.getfield 35, 3) := by decide +kernel
theorem dX7_copyFrom_21 : decode cX7_copyFrom 21 = .ok (.putfield 35, 3) := by decide +kernel
theorem dX7_copyFrom_24 : decode cX7_copyFrom 24 = .ok (.aload_n 1, 1) := by decide +kernel
theorem dX7_copyFrom_25 : decode cX7_copyFrom 25 = .ok (.getfield 11, 3) := by decide +kernel
theorem dX7_copyFrom_28 : decode cX7_copyFrom 28 = .ok (.iconst 0, 1) := by decide +kernel
theorem dX7_copyFrom_29 : decode cX7_copyFrom 29 = .ok (.aload_n 0, 1) := by decide +kernel
theorem dX7_copyFrom_30 : decode cX7_copyFrom 30 = .ok (.getfield 11, 3) := by decide +kernel
theorem dX7_copyFrom_33 : decode cX7_copyFrom 33 = .ok (.iconst 0, 1) := by decide +kernel
theorem dX7_copyFrom_34 : decode cX7_copyFrom 34 = .ok (.bipush 60, 2) := by decide +kernel
theorem dX7_copyFrom_36 : decode cX7_copyFrom 36 = .ok (.invokestatic 42, 3) := by decide +kernel
theorem dX7_copyFrom_39 : decode cX7_copyFrom 39 = .ok (.aload_n 1, 1) := by decide +kernel
theorem dX7_copyFrom_40 : decode cX7_copyFrom 40 = .ok (.getfield 15, 3) := by decide +kernel
theorem dX7_copyFrom_43 : decode cX7_copyFrom 43 = .ok (.iconst 0, 1) := by decide +kernel
theorem dX7_copyFrom_44 : decode cX7_copyFrom 44 = .ok (.aload_n 0, 1) := by decide +kernel
theorem dX7_copyFrom_45 : decode cX7_copyFrom 45 = .ok (.getfield 15, 3) := by decide +kernel
theorem dX7_copyFrom_48 : decode cX7_copyFrom 48 = .ok (.iconst 0, 1) := by decide +kernel
theorem dX7_copyFrom_49 : decode cX7_copyFrom 49 = .ok (.bipush 60, 2) := by decide +kernel
theorem dX7_copyFrom_51 : decode cX7_copyFrom 51 = .ok (.invokestatic 42, 3) := by decide +kernel
theorem dX7_copyFrom_54 : decode cX7_copyFrom 54 = .ok (.aload_n 1, 1) := by decide +kernel
theorem dX7_copyFrom_55 : decode cX7_copyFrom 55 = .ok (.getfield 18, 3) := by decide +kernel
theorem dX7_copyFrom_58 : decode cX7_copyFrom 58 = .ok (.iconst 0, 1) := by decide +kernel
theorem dX7_copyFrom_59 : decode cX7_copyFrom 59 = .ok (.aload_n 0, 1) := by decide +kernel
theorem dX7_copyFrom_60 : decode cX7_copyFrom 60 = .ok (.getfield 18, 3) := by decide +kernel
theorem dX7_copyFrom_63 : decode cX7_copyFrom 63 = .ok (.iconst 0, 1) := by decide +kernel
theorem dX7_copyFrom_64 : decode cX7_copyFrom 64 = .ok (.bipush 60, 2) := by decide +kernel
theorem dX7_copyFrom_66 : decode cX7_copyFrom 66 = .ok (.invokestatic 42, 3) := by decide +kernel
theorem dX7_copyFrom_69 : decode cX7_copyFrom 69 = .ok (.aload_n 1, 1) := by decide +kernel
theorem dX7_copyFrom_70 : decode cX7_copyFrom 70 = .ok (.getfield 21, 3) := by decide +kernel
theorem dX7_copyFrom_73 : decode cX7_copyFrom 73 = .ok (.iconst 0, 1) := by decide +kernel
theorem dX7_copyFrom_74 : decode cX7_copyFrom 74 = .ok (.aload_n 0, 1) := by decide +kernel
theorem dX7_copyFrom_75 : decode cX7_copyFrom 75 = .ok (.getfield 21, 3) := by decide +kernel
theorem dX7_copyFrom_78 : decode cX7_copyFrom 78 = .ok (.iconst 0, 1) := by decide +kernel
theorem dX7_copyFrom_79 : decode cX7_copyFrom 79 = .ok (.bipush 60, 2) := by decide +kernel
theorem dX7_copyFrom_81 : decode cX7_copyFrom 81 = .ok (.invokestatic 42, 3) := by decide +kernel
theorem dX7_copyFrom_84 : decode cX7_copyFrom 84 = .ok (.aload_n 1, 1) := by decide +kernel
theorem dX7_copyFrom_85 : decode cX7_copyFrom 85 = .ok (.getfield 24, 3) := by decide +kernel
theorem dX7_copyFrom_88 : decode cX7_copyFrom 88 = .ok (.iconst 0, 1) := by decide +kernel
theorem dX7_copyFrom_89 : decode cX7_copyFrom 89 = .ok (.aload_n 0, 1) := by decide +kernel
theorem dX7_copyFrom_90 : decode cX7_copyFrom 90 = .ok (.getfield 24, 3) := by decide +kernel
theorem dX7_copyFrom_93 : decode cX7_copyFrom 93 = .ok (.iconst 0, 1) := by decide +kernel
theorem dX7_copyFrom_94 : decode cX7_copyFrom 94 = .ok (.bipush 60, 2) := by decide +kernel
theorem dX7_copyFrom_96 : decode cX7_copyFrom 96 = .ok (.invokestatic 42, 3) := by decide +kernel
theorem dX7_copyFrom_99 : decode cX7_copyFrom 99 = .ok (.return_, 1) := by decide +kernel
def qX7_copyFrom  (u0 : St) (u1 : St) (post : St → St → Prop) : Prop := (bz (gi u1 0) ∧ ∀ u_9 : St, u_9 = (si u0 0 (gi u1 0)) → ∀ u_10 : St, u_10 = (si u_9 1 (gi u1 1)) → ∀ u_11 : St, u_11 = (si u_10 2 (gi u1 2)) → (cpOk (0 : Int32) (0 : Int32) (60 : Int32) 60 60 ∧ ∀ u_12 : St, u_12 = (sw u_11 3 (va_cpy (ga u1 3) (ga u_11 3) ((0 : Int32)).toNatClampNeg ((0 : Int32)).toNatClampNeg ((60 : Int32)).toNatClampNeg)) → (cpOk (0 : Int32) (0 : Int32) (60 : Int32) 60 60 ∧ ∀ u_13 : St, u_13 = (sw u_12 4 (va_cpy (ga u1 4) (ga u_12 4) ((0 : Int32)).toNatClampNeg ((0 : Int32)).toNatClampNeg ((60 : Int32)).toNatClampNeg)) → (cpOk (0 : Int32) (0 : Int32) (60 : Int32) 60 60 ∧ ∀ u_14 : St, u_14 = (sw u_13 5 (va_cpy (ga u1 5) (ga u_13 5) ((0 : Int32)).toNatClampNeg ((0 : Int32)).toNatClampNeg ((60 : Int32)).toNatClampNeg)) → (cpOk (0 : Int32) (0 : Int32) (60 : Int32) 60 60 ∧ ∀ u_15 : St, u_15 = (sw u_14 6 (va_cpy (ga u1 6) (ga u_14 6) ((0 : Int32)).toNatClampNeg ((0 : Int32)).toNatClampNeg ((60 : Int32)).toNatClampNeg)) → (cpOk (0 : Int32) (0 : Int32) (60 : Int32) 60 60 ∧ ∀ u_16 : St, u_16 = (sw u_15 7 (va_cpy (ga u1 7) (ga u_15 7) ((0 : Int32)).toNatClampNeg ((0 : Int32)).toNatClampNeg ((60 : Int32)).toNatClampNeg)) → post u_16 u1))))))
set_option maxRecDepth 100000 in
set_option maxHeartbeats 4000000 in
theorem kX7_copyFrom {C : Cx} {o0 : Nat} {a0 : Nat → Nat} {o1 : Nat} {a1 : Nat → Nat} (hC : Fx C cX7_copyFrom 2 RX7) (hR0 : xR C = rm 2) {post : St → St → Prop} (hR : RV C cX7_copyFrom 2 (fun u : St × St => (wX7 o0 a0 (xy C) u.1 (wX7 o1 a1 (xy C) u.2 []))) (fun u => post u.1 u.2))  {u0 : St} {u1 : St} (h : qX7_copyFrom  u0 u1 post) : G C 0 0 2 (wX7 o0 a0 (xy C) u0 (wX7 o1 a1 (xy C) u1 [])) 0 [(0, .ref o0), (1, .ref o1)] [] := by
  refine g_aload_n (pc := 0) hC 0 dX7_copyFrom_0 rfl rfl ?_
  refine g_aload_n (pc := 1) hC 1 dX7_copyFrom_1 rfl rfl ?_
  refine getX7_0 (pc := 2) hC (F := fun Z => (wX7 o0 a0 (xy C) u0 Z)) (X := (wX7 o0 a0 (xy C) u0 [])) (fun _ => rfl) fl_X7_27 dX7_copyFrom_2 ?_
  refine putX7_0 (pc := 5) hC (F := fun Z => Z) (X := []) (fun _ => rfl) fl_X7_27 h.1 dX7_copyFrom_5 ?_
  have h := h.2
  refine g_st (w := fun z => (wX7 o0 a0 (xy C) z (wX7 o1 a1 (xy C) u1 []))) (u := (si u0 0 (gi u1 0))) (fun u_9 eu_9 => ?_)
  have h := h u_9 eu_9
  refine g_aload_n (pc := 8) hC 0 dX7_copyFrom_8 rfl rfl ?_
  refine g_aload_n (pc := 9) hC 1 dX7_copyFrom_9 rfl rfl ?_
  refine getX7_1 (pc := 10) hC (F := fun Z => (wX7 o0 a0 (xy C) u_9 Z)) (X := (wX7 o0 a0 (xy C) u_9 [])) (fun _ => rfl) fl_X7_31 dX7_copyFrom_10 ?_
  refine putX7_1 (pc := 13) hC (F := fun Z => Z) (X := []) (fun _ => rfl) fl_X7_31 dX7_copyFrom_13 ?_
  refine g_st (w := fun z => (wX7 o0 a0 (xy C) z (wX7 o1 a1 (xy C) u1 []))) (u := (si u_9 1 (gi u1 1))) (fun u_10 eu_10 => ?_)
  have h := h u_10 eu_10
  refine g_aload_n (pc := 16) hC 0 dX7_copyFrom_16 rfl rfl ?_
  refine g_aload_n (pc := 17) hC 1 dX7_copyFrom_17 rfl rfl ?_
  refine getX7_2 (pc := 18) hC (F := fun Z => (wX7 o0 a0 (xy C) u_10 Z)) (X := (wX7 o0 a0 (xy C) u_10 [])) (fun _ => rfl) fl_X7_35 dX7_copyFrom_18 ?_
  refine putX7_2 (pc := 21) hC (F := fun Z => Z) (X := []) (fun _ => rfl) fl_X7_35 dX7_copyFrom_21 ?_
  refine g_st (w := fun z => (wX7 o0 a0 (xy C) z (wX7 o1 a1 (xy C) u1 []))) (u := (si u_10 2 (gi u1 2))) (fun u_11 eu_11 => ?_)
  have h := h u_11 eu_11
  refine g_aload_n (pc := 24) hC 1 dX7_copyFrom_24 rfl rfl ?_
  refine getX7_3 (pc := 25) hC (F := fun Z => (wX7 o0 a0 (xy C) u_11 Z)) (X := (wX7 o0 a0 (xy C) u_11 [])) (fun _ => rfl) fl_X7_11 dX7_copyFrom_25 ?_
  refine g_iconst (pc := 28) (v := 0) hC dX7_copyFrom_28 (by decide) ?_
  refine g_aload_n (pc := 29) hC 0 dX7_copyFrom_29 rfl rfl ?_
  refine getX7_3 (pc := 30) hC (F := fun Z => Z) (X := []) (fun _ => rfl) fl_X7_11 dX7_copyFrom_30 ?_
  refine g_iconst (pc := 33) (v := 0) hC dX7_copyFrom_33 (by decide) ?_
  refine g_bipush (pc := 34) (v := 60) hC dX7_copyFrom_34 (by decide) ?_
  refine g_copyi (pc := 36) (σ' := (wX7 o0 a0 (xy C) (sw u_11 3 (va_cpy (ga u1 3) (ga u_11 3) ((0 : Int32)).toNatClampNeg ((0 : Int32)).toNatClampNeg ((60 : Int32)).toNatClampNeg)) (wX7 o1 a1 (xy C) u1 []))) hC hR0 ml_X7_42 7 1 rfl rfl rfl h.1 dX7_copyFrom_36 (Nat.le_of_ble_eq_true rfl) ?_
  have h := h.2
  refine g_st (w := fun z => (wX7 o0 a0 (xy C) z (wX7 o1 a1 (xy C) u1 []))) (u := (sw u_11 3 (va_cpy (ga u1 3) (ga u_11 3) ((0 : Int32)).toNatClampNeg ((0 : Int32)).toNatClampNeg ((60 : Int32)).toNatClampNeg))) (fun u_12 eu_12 => ?_)
  have h := h u_12 eu_12
  refine g_aload_n (pc := 39) hC 1 dX7_copyFrom_39 rfl rfl ?_
  refine getX7_4 (pc := 40) hC (F := fun Z => (wX7 o0 a0 (xy C) u_12 Z)) (X := (wX7 o0 a0 (xy C) u_12 [])) (fun _ => rfl) fl_X7_15 dX7_copyFrom_40 ?_
  refine g_iconst (pc := 43) (v := 0) hC dX7_copyFrom_43 (by decide) ?_
  refine g_aload_n (pc := 44) hC 0 dX7_copyFrom_44 rfl rfl ?_
  refine getX7_4 (pc := 45) hC (F := fun Z => Z) (X := []) (fun _ => rfl) fl_X7_15 dX7_copyFrom_45 ?_
  refine g_iconst (pc := 48) (v := 0) hC dX7_copyFrom_48 (by decide) ?_
  refine g_bipush (pc := 49) (v := 60) hC dX7_copyFrom_49 (by decide) ?_
  refine g_copyi (pc := 51) (σ' := (wX7 o0 a0 (xy C) (sw u_12 4 (va_cpy (ga u1 4) (ga u_12 4) ((0 : Int32)).toNatClampNeg ((0 : Int32)).toNatClampNeg ((60 : Int32)).toNatClampNeg)) (wX7 o1 a1 (xy C) u1 []))) hC hR0 ml_X7_42 8 2 rfl rfl rfl h.1 dX7_copyFrom_51 (Nat.le_of_ble_eq_true rfl) ?_
  have h := h.2
  refine g_st (w := fun z => (wX7 o0 a0 (xy C) z (wX7 o1 a1 (xy C) u1 []))) (u := (sw u_12 4 (va_cpy (ga u1 4) (ga u_12 4) ((0 : Int32)).toNatClampNeg ((0 : Int32)).toNatClampNeg ((60 : Int32)).toNatClampNeg))) (fun u_13 eu_13 => ?_)
  have h := h u_13 eu_13
  refine g_aload_n (pc := 54) hC 1 dX7_copyFrom_54 rfl rfl ?_
  refine getX7_5 (pc := 55) hC (F := fun Z => (wX7 o0 a0 (xy C) u_13 Z)) (X := (wX7 o0 a0 (xy C) u_13 [])) (fun _ => rfl) fl_X7_18 dX7_copyFrom_55 ?_
  refine g_iconst (pc := 58) (v := 0) hC dX7_copyFrom_58 (by decide) ?_
  refine g_aload_n (pc := 59) hC 0 dX7_copyFrom_59 rfl rfl ?_
  refine getX7_5 (pc := 60) hC (F := fun Z => Z) (X := []) (fun _ => rfl) fl_X7_18 dX7_copyFrom_60 ?_
  refine g_iconst (pc := 63) (v := 0) hC dX7_copyFrom_63 (by decide) ?_
  refine g_bipush (pc := 64) (v := 60) hC dX7_copyFrom_64 (by decide) ?_
  refine g_copyi (pc := 66) (σ' := (wX7 o0 a0 (xy C) (sw u_13 5 (va_cpy (ga u1 5) (ga u_13 5) ((0 : Int32)).toNatClampNeg ((0 : Int32)).toNatClampNeg ((60 : Int32)).toNatClampNeg)) (wX7 o1 a1 (xy C) u1 []))) hC hR0 ml_X7_42 9 3 rfl rfl rfl h.1 dX7_copyFrom_66 (Nat.le_of_ble_eq_true rfl) ?_
  have h := h.2
  refine g_st (w := fun z => (wX7 o0 a0 (xy C) z (wX7 o1 a1 (xy C) u1 []))) (u := (sw u_13 5 (va_cpy (ga u1 5) (ga u_13 5) ((0 : Int32)).toNatClampNeg ((0 : Int32)).toNatClampNeg ((60 : Int32)).toNatClampNeg))) (fun u_14 eu_14 => ?_)
  have h := h u_14 eu_14
  refine g_aload_n (pc := 69) hC 1 dX7_copyFrom_69 rfl rfl ?_
  refine getX7_6 (pc := 70) hC (F := fun Z => (wX7 o0 a0 (xy C) u_14 Z)) (X := (wX7 o0 a0 (xy C) u_14 [])) (fun _ => rfl) fl_X7_21 dX7_copyFrom_70 ?_
  refine g_iconst (pc := 73) (v := 0) hC dX7_copyFrom_73 (by decide) ?_
  refine g_aload_n (pc := 74) hC 0 dX7_copyFrom_74 rfl rfl ?_
  refine getX7_6 (pc := 75) hC (F := fun Z => Z) (X := []) (fun _ => rfl) fl_X7_21 dX7_copyFrom_75 ?_
  refine g_iconst (pc := 78) (v := 0) hC dX7_copyFrom_78 (by decide) ?_
  refine g_bipush (pc := 79) (v := 60) hC dX7_copyFrom_79 (by decide) ?_
  refine g_copyi (pc := 81) (σ' := (wX7 o0 a0 (xy C) (sw u_14 6 (va_cpy (ga u1 6) (ga u_14 6) ((0 : Int32)).toNatClampNeg ((0 : Int32)).toNatClampNeg ((60 : Int32)).toNatClampNeg)) (wX7 o1 a1 (xy C) u1 []))) hC hR0 ml_X7_42 10 4 rfl rfl rfl h.1 dX7_copyFrom_81 (Nat.le_of_ble_eq_true rfl) ?_
  have h := h.2
  refine g_st (w := fun z => (wX7 o0 a0 (xy C) z (wX7 o1 a1 (xy C) u1 []))) (u := (sw u_14 6 (va_cpy (ga u1 6) (ga u_14 6) ((0 : Int32)).toNatClampNeg ((0 : Int32)).toNatClampNeg ((60 : Int32)).toNatClampNeg))) (fun u_15 eu_15 => ?_)
  have h := h u_15 eu_15
  refine g_aload_n (pc := 84) hC 1 dX7_copyFrom_84 rfl rfl ?_
  refine getX7_7 (pc := 85) hC (F := fun Z => (wX7 o0 a0 (xy C) u_15 Z)) (X := (wX7 o0 a0 (xy C) u_15 [])) (fun _ => rfl) fl_X7_24 dX7_copyFrom_85 ?_
  refine g_iconst (pc := 88) (v := 0) hC dX7_copyFrom_88 (by decide) ?_
  refine g_aload_n (pc := 89) hC 0 dX7_copyFrom_89 rfl rfl ?_
  refine getX7_7 (pc := 90) hC (F := fun Z => Z) (X := []) (fun _ => rfl) fl_X7_24 dX7_copyFrom_90 ?_
  refine g_iconst (pc := 93) (v := 0) hC dX7_copyFrom_93 (by decide) ?_
  refine g_bipush (pc := 94) (v := 60) hC dX7_copyFrom_94 (by decide) ?_
  refine g_copyi (pc := 96) (σ' := (wX7 o0 a0 (xy C) (sw u_15 7 (va_cpy (ga u1 7) (ga u_15 7) ((0 : Int32)).toNatClampNeg ((0 : Int32)).toNatClampNeg ((60 : Int32)).toNatClampNeg)) (wX7 o1 a1 (xy C) u1 []))) hC hR0 ml_X7_42 11 5 rfl rfl rfl h.1 dX7_copyFrom_96 (Nat.le_of_ble_eq_true rfl) ?_
  have h := h.2
  refine g_st (w := fun z => (wX7 o0 a0 (xy C) z (wX7 o1 a1 (xy C) u1 []))) (u := (sw u_15 7 (va_cpy (ga u1 7) (ga u_15 7) ((0 : Int32)).toNatClampNeg ((0 : Int32)).toNatClampNeg ((60 : Int32)).toNatClampNeg))) (fun u_16 eu_16 => ?_)
  have h := h u_16 eu_16
  exact hR _ _ (u_16, u1) dX7_copyFrom_99 h
theorem ctX7_copyFrom {l : Launch} {D : va_G} {cy : Nat → ClassId} {kd : Nat → Nat} {o0 : Nat} {a0 : Nat → Nat} {o1 : Nat} {a1 : Nat → Nat}  {u0 : St} {u1 : St} {post : St → St → Prop} (h : qX7_copyFrom  u0 u1 post) : CtV l D cy kd yX7_copyFrom cX7_copyFrom 2 2  [.ref o0, .ref o1] (fun u : St × St => (wX7 o0 a0 cy u.1 (wX7 o1 a1 cy u.2 []))) (u0, u1) (fun u => post u.1 u.2) := met_v (by decide) (Nat.le_of_ble_eq_true rfl) (fun C e1 e2 e3 e4 e5 hC hR => by subst e1 e2 e3 e4; exact kX7_copyFrom hC e5 hR h)
theorem dX9_isTray_0 : decode cX9_isTray 0 = .ok (.iload_n 1, 1) := by decide +kernel
theorem dX9_isTray_1 : decode cX9_isTray 1 = .ok (.iconst 0, 1) := by decide +kernel
theorem dX9_isTray_2 : decode cX9_isTray 2 = .ok (.iconst 3, 1) := by decide +kernel
theorem dX9_isTray_3 : decode cX9_isTray 3 = .ok (.invokestatic 22, 3) := by decide +kernel
theorem dX9_isTray_6 : decode cX9_isTray 6 = .ok (.ireturn, 1) := by decide +kernel
def qX9_isTray (x1 : Int32) (u0 : St) (post : Int32 → St → Prop) : Prop := qX11_within x1 (0 : Int32) (3 : Int32) (fun r_3 => (bz r_3 ∧ post r_3 u0))
set_option maxRecDepth 100000 in
set_option maxHeartbeats 4000000 in
theorem kX9_isTray {C : Cx} {o0 : Nat} {a0 : Nat → Nat} (hC : Fx C cX9_isTray 2 RX9) (hR0 : xR C = rm 2) {post : Int32 → St → Prop} (hR : RZ C cX9_isTray 2 (fun u : St => (wX9 o0 a0 (xy C) u [])) (fun r u => post r u)) {x1 : Int32} {u0 : St} (h : qX9_isTray x1 u0 post) : G C 0 0 2 (wX9 o0 a0 (xy C) u0 []) 0 [(0, .ref o0), (1, .int x1)] [] := by
  refine g_iload_n (pc := 0) hC 1 dX9_isTray_0 rfl rfl ?_
  refine g_iconst (pc := 1) (v := 0) hC dX9_isTray_1 (by decide) ?_
  refine g_iconst (pc := 2) (v := 3) hC dX9_isTray_2 (by decide) ?_
  refine g_callSN_i (pc := 3) (wd := fun (_ : Unit) Y => Y) (F := fun Z => Z) (X := []) (As := [.int x1, .int (0 : Int32), .int (3 : Int32)]) (rest := []) (u := ()) hC (fun _ _ => rfl) (fun _ => rfl) (ctX11_within h) wvX11_within nl_X9_22 rfl (rmok hR0 rfl) ⟨Nat.zero_le _, Nat.zero_le _⟩ rfl (Nat.le_of_ble_eq_true rfl) dX9_isTray_3 (fun r_3 u_4 h => ?_)
  exact hR _ _ _ u0 dX9_isTray_6 h.1 h.2
theorem ctX9_isTray {l : Launch} {D : va_G} {cy : Nat → ClassId} {kd : Nat → Nat} {o0 : Nat} {a0 : Nat → Nat} {x1 : Int32} {u0 : St} {post : Int32 → St → Prop} (h : qX9_isTray x1 u0 post) : CtI l D cy kd yX9_isTray cX9_isTray 2 2 .boolean [.ref o0, .int x1] (fun u : St => (wX9 o0 a0 cy u [])) u0 (fun r u => post r u) := met_z (by decide) (Nat.le_of_ble_eq_true rfl) (fun C e1 e2 e3 e4 e5 hC hR => by subst e1 e2 e3 e4; exact kX9_isTray hC e5 hR h)
theorem dX9_isMissing_0 : decode cX9_isMissing 0 = .ok (.aload_n 0, 1) := by decide +kernel
theorem dX9_isMissing_1 : decode cX9_isMissing 1 = .ok (.getfield 19, 3) := by decide +kernel
theorem dX9_isMissing_4 : decode cX9_isMissing 4 = .ok (.iload_n 1, 1) := by decide +kernel
theorem dX9_isMissing_5 : decode cX9_isMissing 5 = .ok (.iaload, 1) := by decide +kernel
theorem dX9_isMissing_6 : decode cX9_isMissing 6 = .ok (.iconst (-1), 1) := by decide +kernel
theorem dX9_isMissing_7 : decode cX9_isMissing 7 = .ok (.if_icmp .ne 7, 3) := by decide +kernel
theorem dX9_isMissing_10 : decode cX9_isMissing 10 = .ok (.iconst 1, 1) := by decide +kernel
theorem dX9_isMissing_11 : decode cX9_isMissing 11 = .ok (.goto 4, 3) := by decide +kernel
theorem dX9_isMissing_14 : decode cX9_isMissing 14 = .ok (.iconst 0, 1) := by decide +kernel
theorem dX9_isMissing_15 : decode cX9_isMissing 15 = .ok (.ireturn, 1) := by decide +kernel
def qX9_isMissing_b15  (post : Int32 → St → Prop)  (s0 : Int32) (u0 : St) : Prop := (bz s0 ∧ post s0 u0)
set_option maxRecDepth 100000 in
set_option maxHeartbeats 4000000 in
theorem kX9_isMissing_b15 {C : Cx} {o0 : Nat} {a0 : Nat → Nat} (hC : Fx C cX9_isMissing 2 RX9) (hR0 : xR C = rm 1) {post : Int32 → St → Prop} (hR : RZ C cX9_isMissing 2 (fun u : St => (wX9 o0 a0 (xy C) u [])) (fun r u => post r u))  {s0 : Int32} {u0 : St} (h : qX9_isMissing_b15 post s0 u0) : G C 0 0 2 (wX9 o0 a0 (xy C) u0 []) 15 [] [.int s0] := by
  exact hR _ _ _ u0 dX9_isMissing_15 h.1 h.2
def qX9_isMissing (x1 : Int32) (u0 : St) (post : Int32 → St → Prop) : Prop := (vp_in x1 4 ∧ ((¬ (ga u0 2 (x1).toNatClampNeg) = (-1 : Int32) → qX9_isMissing_b15 post (0 : Int32) u0) ∧ ((ga u0 2 (x1).toNatClampNeg) = (-1 : Int32) → qX9_isMissing_b15 post (1 : Int32) u0)))
set_option maxRecDepth 100000 in
set_option maxHeartbeats 4000000 in
theorem kX9_isMissing {C : Cx} {o0 : Nat} {a0 : Nat → Nat} (hC : Fx C cX9_isMissing 2 RX9) (hR0 : xR C = rm 1) {post : Int32 → St → Prop} (hR : RZ C cX9_isMissing 2 (fun u : St => (wX9 o0 a0 (xy C) u [])) (fun r u => post r u)) {x1 : Int32} {u0 : St} (h : qX9_isMissing x1 u0 post) : G C 0 0 2 (wX9 o0 a0 (xy C) u0 []) 0 [(0, .ref o0), (1, .int x1)] [] := by
  refine g_aload_n (pc := 0) hC 0 dX9_isMissing_0 rfl rfl ?_
  refine getX9_2 (pc := 1) hC (F := fun Z => Z) (X := []) (fun _ => rfl) fl_X9_19 dX9_isMissing_1 ?_
  refine g_iload_n (pc := 4) hC 1 dX9_isMissing_4 rfl rfl ?_
  refine aldX9_2 (pc := 5) hC (F := fun Z => Z) (X := []) (fun _ => rfl) h.1 dX9_isMissing_5 ?_
  have h := h.2
  refine g_iconst (pc := 6) (v := -1) hC dX9_isMissing_6 (by decide) ?_
  refine g_icmp_ne (pc := 7) (tgt := 14) hC dX9_isMissing_7 (by decide) (fun c_1 => ?_) (fun c_1 => ?_)
  · have h := h.1 c_1
    refine g_iconst (pc := 14) (v := 0) hC dX9_isMissing_14 (by decide) ?_
    refine g_sub (lv' := []) [] rfl ?_
    exact kX9_isMissing_b15 hC hR0 hR  h
  · have h := h.2 c_1
    refine g_iconst (pc := 10) (v := 1) hC dX9_isMissing_10 (by decide) ?_
    refine g_goto (pc := 11) (tgt := 15) hC dX9_isMissing_11 (by decide) ?_
    refine g_sub (lv' := []) [] rfl ?_
    exact kX9_isMissing_b15 hC hR0 hR  h
theorem ctX9_isMissing {l : Launch} {D : va_G} {cy : Nat → ClassId} {kd : Nat → Nat} {o0 : Nat} {a0 : Nat → Nat} {x1 : Int32} {u0 : St} {post : Int32 → St → Prop} (h : qX9_isMissing x1 u0 post) : CtI l D cy kd yX9_isMissing cX9_isMissing 2 1 .boolean [.ref o0, .int x1] (fun u : St => (wX9 o0 a0 cy u [])) u0 (fun r u => post r u) := met_z (by decide) (Nat.le_of_ble_eq_true rfl) (fun C e1 e2 e3 e4 e5 hC hR => by subst e1 e2 e3 e4; exact kX9_isMissing hC e5 hR h)
theorem dX9_lookAt_0 : decode cX9_lookAt 0 = .ok (.aload_n 0, 1) := by decide +kernel
theorem dX9_lookAt_1 : decode cX9_lookAt 1 = .ok (.iload_n 1, 1) := by decide +kernel
theorem dX9_lookAt_2 : decode cX9_lookAt 2 = .ok (.invokevirtual 26, 3) := by decide +kernel
theorem dX9_lookAt_5 : decode cX9_lookAt 5 = .ok (.ifCond .ne 5, 3) := by decide +kernel
theorem dX9_lookAt_8 : decode cX9_lookAt 8 = .ok (.iconst 1, 1) := by decide +kernel
theorem dX9_lookAt_9 : decode cX9_lookAt 9 = .ok (.ireturn, 1) := by decide +kernel
theorem dX9_lookAt_10 : decode cX9_lookAt 10 = .ok (.aload_n 0, 1) := by decide +kernel
theorem dX9_lookAt_11 : decode cX9_lookAt 11 = .ok (.iload_n 1, 1) := by decide +kernel
theorem dX9_lookAt_12 : decode cX9_lookAt 12 = .ok (.invokevirtual 30, 3) := by decide +kernel
theorem dX9_lookAt_15 : decode cX9_lookAt 15 = .ok (.ifCond .eq 5, 3) := by decide +kernel
theorem dX9_lookAt_18 : decode cX9_lookAt 18 = .ok (.iconst 2, 1) := by decide +kernel
theorem dX9_lookAt_19 : decode cX9_lookAt 19 = .ok (.ireturn, 1) := by decide +kernel
theorem dX9_lookAt_20 : decode cX9_lookAt 20 = .ok (.iload_n 2, 1) := by decide +kernel
theorem dX9_lookAt_21 : decode cX9_lookAt 21 = .ok (.iconst 0, 1) := by decide +kernel
theorem dX9_lookAt_22 : decode cX9_lookAt 22 = .ok (.aload_n 0, 1) := by decide +kernel
theorem dX9_lookAt_23 : decode cX9_lookAt 23 = .ok (.getfield 19, 3) := by decide +kernel
theorem dX9_lookAt_26 : decode cX9_lookAt 26 = .ok (.iload_n 1, 1) := by decide +kernel
theorem dX9_lookAt_27 : decode cX9_lookAt 27 = .ok (.iaload, 1) := by decide +kernel
theorem dX9_lookAt_28 : decode cX9_lookAt 28 = .ok (.iconst 1, 1) := by decide +kernel
theorem dX9_lookAt_29 : decode cX9_lookAt 29 = .ok (.isub, 1) := by decide +kernel
theorem dX9_lookAt_30 : decode cX9_lookAt 30 = .ok (.invokestatic 22, 3) := by decide +kernel
theorem dX9_lookAt_33 : decode cX9_lookAt 33 = .ok (.ifCond .eq 7, 3) := by decide +kernel
theorem dX9_lookAt_36 : decode cX9_lookAt 36 = .ok (.iconst 0, 1) := by decide +kernel
theorem dX9_lookAt_37 : decode cX9_lookAt 37 = .ok (.goto 4, 3) := by decide +kernel
theorem dX9_lookAt_40 : decode cX9_lookAt 40 = .ok (.iconst 3, 1) := by decide +kernel
theorem dX9_lookAt_41 : decode cX9_lookAt 41 = .ok (.ireturn, 1) := by decide +kernel
def qX9_lookAt_b41  (post : Int32 → St → Prop)  (s0 : Int32) (u0 : St) : Prop := post s0 u0
set_option maxRecDepth 100000 in
set_option maxHeartbeats 4000000 in
theorem kX9_lookAt_b41 {C : Cx} {o0 : Nat} {a0 : Nat → Nat} (hC : Fx C cX9_lookAt 3 RX9) (hR0 : xR C = rm 3) {post : Int32 → St → Prop} (hR : RI C cX9_lookAt 3 (fun u : St => (wX9 o0 a0 (xy C) u [])) (fun r u => post r u))  {s0 : Int32} {u0 : St} (h : qX9_lookAt_b41 post s0 u0) : G C 0 0 3 (wX9 o0 a0 (xy C) u0 []) 41 [] [.int s0] := by
  exact hR _ _ _ u0 dX9_lookAt_41 h
def qX9_lookAt (x1 : Int32) (x2 : Int32) (u0 : St) (post : Int32 → St → Prop) : Prop := qX9_isTray x1 u0 (fun r_10 u_9 => ((¬ r_10 = 0 → qX9_isMissing x1 u_9 (fun r_14 u_13 => ((r_14 = 0 → (vp_in x1 4 ∧ qX11_within x2 (0 : Int32) ((ga u_13 2 (x1).toNatClampNeg) - (1 : Int32)) (fun r_17 => ((r_17 = 0 → qX9_lookAt_b41 post (3 : Int32) u_13) ∧ (¬ r_17 = 0 → qX9_lookAt_b41 post (0 : Int32) u_13))))) ∧ (¬ r_14 = 0 → post (2 : Int32) u_13)))) ∧ (r_10 = 0 → post (1 : Int32) u_9)))
set_option maxRecDepth 100000 in
set_option maxHeartbeats 4000000 in
theorem kX9_lookAt {C : Cx} {o0 : Nat} {a0 : Nat → Nat} (hC : Fx C cX9_lookAt 3 RX9) (hR0 : xR C = rm 3) {post : Int32 → St → Prop} (hR : RI C cX9_lookAt 3 (fun u : St => (wX9 o0 a0 (xy C) u [])) (fun r u => post r u)) {x1 : Int32} {x2 : Int32} {u0 : St} (h : qX9_lookAt x1 x2 u0 post) : G C 0 0 3 (wX9 o0 a0 (xy C) u0 []) 0 [(0, .ref o0), (1, .int x1), (2, .int x2)] [] := by
  refine g_aload_n (pc := 0) hC 0 dX9_lookAt_0 rfl rfl ?_
  refine g_iload_n (pc := 1) hC 1 dX9_lookAt_1 rfl rfl ?_
  refine g_callV_i (pc := 2) (wd := fun (u : St) Y => (wX9 o0 a0 (xy C) u Y)) (F := fun Z => Z) (X := []) (As := [.int x1]) (rest := []) (u := u0) hC (fun _ _ => rfl) (fun _ => rfl) (ctX9_isTray h) wvX9_isTray ml_X9_26 (ci := 8) (q0 := 0) rfl rfl rfl rfl (rmok hR0 rfl) ⟨Nat.zero_le _, Nat.zero_le _⟩ rfl (Nat.le_of_ble_eq_true rfl) dX9_lookAt_2 (fun r_10 u_9 h => ?_)
  refine g_if_ne (pc := 5) (tgt := 10) hC dX9_lookAt_5 (by decide) (fun c_12 => ?_) (fun c_12 => ?_)
  · have h := h.1 c_12
    refine g_aload_n (pc := 10) hC 0 dX9_lookAt_10 rfl rfl ?_
    refine g_iload_n (pc := 11) hC 1 dX9_lookAt_11 rfl rfl ?_
    refine g_callV_i (pc := 12) (wd := fun (u : St) Y => (wX9 o0 a0 (xy C) u Y)) (F := fun Z => Z) (X := []) (As := [.int x1]) (rest := []) (u := u_9) hC (fun _ _ => rfl) (fun _ => rfl) (ctX9_isMissing h) wvX9_isMissing ml_X9_30 (ci := 8) (q0 := 0) rfl rfl rfl rfl (rmok hR0 rfl) ⟨Nat.zero_le _, Nat.zero_le _⟩ rfl (Nat.le_of_ble_eq_true rfl) dX9_lookAt_12 (fun r_14 u_13 h => ?_)
    refine g_if_eq (pc := 15) (tgt := 20) hC dX9_lookAt_15 (by decide) (fun c_16 => ?_) (fun c_16 => ?_)
    · have h := h.1 c_16
      refine g_iload_n (pc := 20) hC 2 dX9_lookAt_20 rfl rfl ?_
      refine g_iconst (pc := 21) (v := 0) hC dX9_lookAt_21 (by decide) ?_
      refine g_aload_n (pc := 22) hC 0 dX9_lookAt_22 rfl rfl ?_
      refine getX9_2 (pc := 23) hC (F := fun Z => Z) (X := []) (fun _ => rfl) fl_X9_19 dX9_lookAt_23 ?_
      refine g_iload_n (pc := 26) hC 1 dX9_lookAt_26 rfl rfl ?_
      refine aldX9_2 (pc := 27) hC (F := fun Z => Z) (X := []) (fun _ => rfl) h.1 dX9_lookAt_27 ?_
      have h := h.2
      refine g_iconst (pc := 28) (v := 1) hC dX9_lookAt_28 (by decide) ?_
      refine g_isub (pc := 29) hC dX9_lookAt_29 ?_
      refine g_callSN_i (pc := 30) (wd := fun (_ : Unit) Y => Y) (F := fun Z => Z) (X := []) (As := [.int x2, .int (0 : Int32), .int ((ga u_13 2 (x1).toNatClampNeg) - (1 : Int32))]) (rest := []) (u := ()) hC (fun _ _ => rfl) (fun _ => rfl) (ctX11_within h) wvX11_within nl_X9_22 rfl (rmok hR0 rfl) ⟨Nat.zero_le _, Nat.zero_le _⟩ rfl (Nat.le_of_ble_eq_true rfl) dX9_lookAt_30 (fun r_17 u_18 h => ?_)
      refine g_if_eq (pc := 33) (tgt := 40) hC dX9_lookAt_33 (by decide) (fun c_19 => ?_) (fun c_19 => ?_)
      · have h := h.1 c_19
        refine g_iconst (pc := 40) (v := 3) hC dX9_lookAt_40 (by decide) ?_
        refine g_sub (lv' := []) [] rfl ?_
        exact kX9_lookAt_b41 hC hR0 hR  h
      · have h := h.2 c_19
        refine g_iconst (pc := 36) (v := 0) hC dX9_lookAt_36 (by decide) ?_
        refine g_goto (pc := 37) (tgt := 41) hC dX9_lookAt_37 (by decide) ?_
        refine g_sub (lv' := []) [] rfl ?_
        exact kX9_lookAt_b41 hC hR0 hR  h
    · have h := h.2 c_16
      refine g_iconst (pc := 18) (v := 2) hC dX9_lookAt_18 (by decide) ?_
      exact hR _ _ _ u_13 dX9_lookAt_19 h
  · have h := h.2 c_12
    refine g_iconst (pc := 8) (v := 1) hC dX9_lookAt_8 (by decide) ?_
    exact hR _ _ _ u_9 dX9_lookAt_9 h
theorem ctX9_lookAt {l : Launch} {D : va_G} {cy : Nat → ClassId} {kd : Nat → Nat} {o0 : Nat} {a0 : Nat → Nat} {x1 : Int32} {x2 : Int32} {u0 : St} {post : Int32 → St → Prop} (h : qX9_lookAt x1 x2 u0 post) : CtI l D cy kd yX9_lookAt cX9_lookAt 3 3 .int [.ref o0, .int x1, .int x2] (fun u : St => (wX9 o0 a0 cy u [])) u0 (fun r u => post r u) := met_i (by decide) (Nat.le_of_ble_eq_true rfl) (fun C e1 e2 e3 e4 e5 hC hR => by subst e1 e2 e3 e4; exact kX9_lookAt hC e5 hR h)
theorem dX9_lay_0 : decode cX9_lay 0 = .ok (.aload_n 0, 1) := by decide +kernel
theorem dX9_lay_1 : decode cX9_lay 1 = .ok (.getfield 15, 3) := by decide +kernel
theorem dX9_lay_4 : decode cX9_lay 4 = .ok (.iload_n 1, 1) := by decide +kernel
theorem dX9_lay_5 : decode cX9_lay 5 = .ok (.iload_n 2, 1) := by decide +kernel
theorem dX9_lay_6 : decode cX9_lay 6 = .ok (.iastore, 1) := by decide +kernel
theorem dX9_lay_7 : decode cX9_lay 7 = .ok (.aload_n 0, 1) := by decide +kernel
theorem dX9_lay_8 : decode cX9_lay 8 = .ok (.getfield 19, 3) := by decide +kernel
theorem dX9_lay_11 : decode cX9_lay 11 = .ok (.iload_n 1, 1) := by decide +kernel
theorem dX9_lay_12 : decode cX9_lay 12 = .ok (.iload_n 3, 1) := by decide +kernel
theorem dX9_lay_13 : decode cX9_lay 13 = .ok (.iastore, 1) := by decide +kernel
theorem dX9_lay_14 : decode cX9_lay 14 = .ok (.iconst 0, 1) := by decide +kernel
theorem dX9_lay_15 : decode cX9_lay 15 = .ok (.istore 4, 2) := by decide +kernel
theorem dX9_lay_17 : decode cX9_lay 17 = .ok (.iload 4, 2) := by decide +kernel
theorem dX9_lay_19 : decode cX9_lay 19 = .ok (.iload_n 3, 1) := by decide +kernel
theorem dX9_lay_20 : decode cX9_lay 20 = .ok (.if_icmp .ge 22, 3) := by decide +kernel
theorem dX9_lay_23 : decode cX9_lay 23 = .ok (.aload_n 0, 1) := by decide +kernel
theorem dX9_lay_24 : decode cX9_lay 24 = .ok (.getfield 9, 3) := by decide +kernel
theorem dX9_lay_27 : decode cX9_lay 27 = .ok (.iload_n 1, 1) := by decide +kernel
theorem dX9_lay_28 : decode cX9_lay 28 = .ok (.bipush 60, 2) := by decide +kernel
theorem dX9_lay_30 : decode cX9_lay 30 = .ok (.imul, 1) := by decide +kernel
theorem dX9_lay_31 : decode cX9_lay 31 = .ok (.iload 4, 2) := by decide +kernel
theorem dX9_lay_33 : decode cX9_lay 33 = .ok (.iadd, 1) := by decide +kernel
theorem dX9_lay_34 : decode cX9_lay 34 = .ok (.lconst 0, 1) := by decide +kernel
theorem dX9_lay_35 : decode cX9_lay 35 = .ok (.lastore, 1) := by decide +kernel
theorem dX9_lay_36 : decode cX9_lay 36 = .ok (.iinc 4 1, 3) := by decide +kernel
theorem dX9_lay_39 : decode cX9_lay 39 = .ok (.goto (-22), 3) := by decide +kernel
theorem dX9_lay_42 : decode cX9_lay 42 = .ok (.return_, 1) := by decide +kernel
def qX9_lay_l17  (post : St → Prop) (K17 : Int32 → Int32 → Int32 → St → Prop) (x1 : Int32) (x3 : Int32) (x4 : Int32) (u0 : St) : Prop := ((x3 ≤ x4 → post u0) ∧ (¬ x3 ≤ x4 → (vp_in ((x1 * (60 : Int32)) + x4) 240 ∧ ∀ u_6 : St, u_6 = (sx u0 0 (vp_updL (gl u0 0) (((x1 * (60 : Int32)) + x4)).toNatClampNeg (0 : Int64))) → ∀ x4_7 : Int32, x4_7 = x4 + (1 : Int32) → K17 x1 x3 x4_7 u_6)))
set_option maxRecDepth 100000 in
set_option maxHeartbeats 4000000 in
theorem kX9_lay_l17 {C : Cx} {o0 : Nat} {a0 : Nat → Nat} (hC : Fx C cX9_lay 5 RX9) (hR0 : xR C = rm 1) {post : St → Prop} (hR : RV C cX9_lay 5 (fun u : St => (wX9 o0 a0 (xy C) u [])) (fun u => post u))  {K17 : Int32 → Int32 → Int32 → St → Prop} (hK17 : ∀ (x1 : Int32) (x3 : Int32) (x4 : Int32) (u0 : St), K17 x1 x3 x4 u0 → G C 0 0 5 (wX9 o0 a0 (xy C) u0 []) 17 [(0, .ref o0), (1, .int x1), (3, .int x3), (4, .int x4)] []) {x1 : Int32} {x3 : Int32} {x4 : Int32} {u0 : St} (h : qX9_lay_l17 post K17 x1 x3 x4 u0) : G C 0 0 5 (wX9 o0 a0 (xy C) u0 []) 17 [(0, .ref o0), (1, .int x1), (3, .int x3), (4, .int x4)] [] := by
  refine g_iload (pc := 17) hC 3 dX9_lay_17 rfl ?_
  refine g_iload_n (pc := 19) hC 2 dX9_lay_19 rfl rfl ?_
  refine g_icmp_ge (pc := 20) (tgt := 42) hC dX9_lay_20 (by decide) (fun c_5 => ?_) (fun c_5 => ?_)
  · have h := h.1 c_5
    exact hR _ _ u0 dX9_lay_42 h
  · have h := h.2 c_5
    refine g_aload_n (pc := 23) hC 0 dX9_lay_23 rfl rfl ?_
    refine getX9_0 (pc := 24) hC (F := fun Z => Z) (X := []) (fun _ => rfl) fl_X9_9 dX9_lay_24 ?_
    refine g_iload_n (pc := 27) hC 1 dX9_lay_27 rfl rfl ?_
    refine g_bipush (pc := 28) (v := 60) hC dX9_lay_28 (by decide) ?_
    refine g_imul (pc := 30) hC dX9_lay_30 ?_
    refine g_iload (pc := 31) hC 3 dX9_lay_31 rfl ?_
    refine g_iadd (pc := 33) hC dX9_lay_33 ?_
    refine g_lconst (pc := 34) (v := 0) hC dX9_lay_34 (by decide) ?_
    refine astX9_0 (pc := 35) hC (F := fun Z => Z) (X := []) (fun _ => rfl) h.1 dX9_lay_35 ?_
    have h := h.2
    refine g_st (w := fun z => (wX9 o0 a0 (xy C) z [])) (u := (sx u0 0 (vp_updL (gl u0 0) (((x1 * (60 : Int32)) + x4)).toNatClampNeg (0 : Int64)))) (fun u_6 eu_6 => ?_)
    have h := h u_6 eu_6
    obtain ⟨x4_7, ex4_7⟩ : ∃ z : Int32, z = x4 + (1 : Int32) := ⟨_, rfl⟩
    have h := h x4_7 ex4_7
    refine g_iinc (pc := 36) (v := x4_7) (lv' := [(4, .int x4_7), (0, .ref o0), (1, .int x1), (3, .int x3)]) hC 3 dX9_lay_36 rfl (by rw [ex4_7]; rfl) (Nat.le_of_ble_eq_true rfl) rfl ?_
    refine g_goto (pc := 39) (tgt := 17) hC dX9_lay_39 (by decide) ?_
    refine g_sub (lv' := [(0, .ref o0), (1, .int x1), (3, .int x3), (4, .int x4_7)]) [1, 2, 3, 0] rfl ?_
    exact hK17 _ _ _ _ h
def qX9_lay_L17  (post : St → Prop)  : Nat → Int32 → Int32 → Int32 → St → Prop
  | 0 => fun _ _ _ _ => False
  | n + 1 => qX9_lay_l17 post (qX9_lay_L17 post n)
theorem kX9_lay_L17 {C : Cx} {o0 : Nat} {a0 : Nat → Nat} (hC : Fx C cX9_lay 5 RX9) (hR0 : xR C = rm 1) {post : St → Prop} (hR : RV C cX9_lay 5 (fun u : St => (wX9 o0 a0 (xy C) u [])) (fun u => post u))  : ∀ (n : Nat) (x1 : Int32) (x3 : Int32) (x4 : Int32) (u0 : St), qX9_lay_L17 post n x1 x3 x4 u0 → G C 0 0 5 (wX9 o0 a0 (xy C) u0 []) 17 [(0, .ref o0), (1, .int x1), (3, .int x3), (4, .int x4)] [] := by
  intro n
  induction n with
  | zero => intro x1 x3 x4 u0 h; exact h.elim
  | succ n ih => intro x1 x3 x4 u0 h; exact kX9_lay_l17 hC hR0 hR  ih h
def qX9_lay (x1 : Int32) (x2 : Int32) (x3 : Int32) (u0 : St) (post : St → Prop) : Prop := (vp_in x1 4 ∧ ∀ u_8 : St, u_8 = (sw u0 1 (upd (ga u0 1) (x1).toNatClampNeg x2)) → (vp_in x1 4 ∧ ∀ u_9 : St, u_9 = (sw u_8 2 (upd (ga u_8 2) (x1).toNatClampNeg x3)) → ∃ n_10 : Nat, qX9_lay_L17 post n_10 x1 x3 (0 : Int32) u_9))
set_option maxRecDepth 100000 in
set_option maxHeartbeats 4000000 in
theorem kX9_lay {C : Cx} {o0 : Nat} {a0 : Nat → Nat} (hC : Fx C cX9_lay 5 RX9) (hR0 : xR C = rm 1) {post : St → Prop} (hR : RV C cX9_lay 5 (fun u : St => (wX9 o0 a0 (xy C) u [])) (fun u => post u)) {x1 : Int32} {x2 : Int32} {x3 : Int32} {u0 : St} (h : qX9_lay x1 x2 x3 u0 post) : G C 0 0 5 (wX9 o0 a0 (xy C) u0 []) 0 [(0, .ref o0), (1, .int x1), (2, .int x2), (3, .int x3)] [] := by
  refine g_aload_n (pc := 0) hC 0 dX9_lay_0 rfl rfl ?_
  refine getX9_1 (pc := 1) hC (F := fun Z => Z) (X := []) (fun _ => rfl) fl_X9_15 dX9_lay_1 ?_
  refine g_iload_n (pc := 4) hC 1 dX9_lay_4 rfl rfl ?_
  refine g_iload_n (pc := 5) hC 2 dX9_lay_5 rfl rfl ?_
  refine astX9_1 (pc := 6) hC (F := fun Z => Z) (X := []) (fun _ => rfl) h.1 dX9_lay_6 ?_
  have h := h.2
  refine g_st (w := fun z => (wX9 o0 a0 (xy C) z [])) (u := (sw u0 1 (upd (ga u0 1) (x1).toNatClampNeg x2))) (fun u_8 eu_8 => ?_)
  have h := h u_8 eu_8
  refine g_aload_n (pc := 7) hC 0 dX9_lay_7 rfl rfl ?_
  refine getX9_2 (pc := 8) hC (F := fun Z => Z) (X := []) (fun _ => rfl) fl_X9_19 dX9_lay_8 ?_
  refine g_iload_n (pc := 11) hC 1 dX9_lay_11 rfl rfl ?_
  refine g_iload_n (pc := 12) hC 3 dX9_lay_12 rfl rfl ?_
  refine astX9_2 (pc := 13) hC (F := fun Z => Z) (X := []) (fun _ => rfl) h.1 dX9_lay_13 ?_
  have h := h.2
  refine g_st (w := fun z => (wX9 o0 a0 (xy C) z [])) (u := (sw u_8 2 (upd (ga u_8 2) (x1).toNatClampNeg x3))) (fun u_9 eu_9 => ?_)
  have h := h u_9 eu_9
  refine g_iconst (pc := 14) (v := 0) hC dX9_lay_14 (by decide) ?_
  refine g_istore (pc := 15) (lv' := [(4, .int (0 : Int32)), (0, .ref o0), (1, .int x1), (2, .int x2), (3, .int x3)]) hC dX9_lay_15 (Nat.le_of_ble_eq_true rfl) rfl ?_
  refine g_sub (lv' := [(0, .ref o0), (1, .int x1), (3, .int x3), (4, .int (0 : Int32))]) [1, 2, 4, 0] rfl ?_
  obtain ⟨n_10, h⟩ := h
  exact kX9_lay_L17 hC hR0 hR  n_10 _ _ _ _ h
theorem ctX9_lay {l : Launch} {D : va_G} {cy : Nat → ClassId} {kd : Nat → Nat} {o0 : Nat} {a0 : Nat → Nat} {x1 : Int32} {x2 : Int32} {x3 : Int32} {u0 : St} {post : St → Prop} (h : qX9_lay x1 x2 x3 u0 post) : CtV l D cy kd yX9_lay cX9_lay 5 1  [.ref o0, .int x1, .int x2, .int x3] (fun u : St => (wX9 o0 a0 cy u [])) u0 (fun u => post u) := met_v (by decide) (Nat.le_of_ble_eq_true rfl) (fun C e1 e2 e3 e4 e5 hC hR => by subst e1 e2 e3 e4; exact kX9_lay hC e5 hR h)
theorem dX9_cut_0 : decode cX9_cut 0 = .ok (.iload_n 2, 1) := by decide +kernel
theorem dX9_cut_1 : decode cX9_cut 1 = .ok (.tableswitch 41 0 2 #[27, 32, 37], 27) := by decide +kernel
theorem dX9_cut_28 : decode cX9_cut 28 = .ok (.lload_n 0, 1) := by decide +kernel
theorem dX9_cut_29 : decode cX9_cut 29 = .ok (.l2i, 1) := by decide +kernel
theorem dX9_cut_30 : decode cX9_cut 30 = .ok (.i2b, 1) := by decide +kernel
theorem dX9_cut_31 : decode cX9_cut 31 = .ok (.i2l, 1) := by decide +kernel
theorem dX9_cut_32 : decode cX9_cut 32 = .ok (.lreturn, 1) := by decide +kernel
theorem dX9_cut_33 : decode cX9_cut 33 = .ok (.lload_n 0, 1) := by decide +kernel
theorem dX9_cut_34 : decode cX9_cut 34 = .ok (.l2i, 1) := by decide +kernel
theorem dX9_cut_35 : decode cX9_cut 35 = .ok (.i2s, 1) := by decide +kernel
theorem dX9_cut_36 : decode cX9_cut 36 = .ok (.i2l, 1) := by decide +kernel
theorem dX9_cut_37 : decode cX9_cut 37 = .ok (.lreturn, 1) := by decide +kernel
theorem dX9_cut_38 : decode cX9_cut 38 = .ok (.lload_n 0, 1) := by decide +kernel
theorem dX9_cut_39 : decode cX9_cut 39 = .ok (.l2i, 1) := by decide +kernel
theorem dX9_cut_40 : decode cX9_cut 40 = .ok (.i2l, 1) := by decide +kernel
theorem dX9_cut_41 : decode cX9_cut 41 = .ok (.lreturn, 1) := by decide +kernel
theorem dX9_cut_42 : decode cX9_cut 42 = .ok (.lload_n 0, 1) := by decide +kernel
theorem dX9_cut_43 : decode cX9_cut 43 = .ok (.lreturn, 1) := by decide +kernel
def qX9_cut (x0 : Int64) (x2 : Int32)  (post : Int64 → Prop) : Prop := ((x2 = (0 : Int32) → post (((x0).toInt32).toInt8.toInt32).toInt64 ) ∧ ((x2 = (1 : Int32) → post (((x0).toInt32).toInt16.toInt32).toInt64 ) ∧ ((x2 = (2 : Int32) → post ((x0).toInt32).toInt64 ) ∧ (¬ x2 = (0 : Int32) → ¬ x2 = (1 : Int32) → ¬ x2 = (2 : Int32) → post x0 ))))
set_option maxRecDepth 100000 in
set_option maxHeartbeats 4000000 in
theorem kX9_cut {C : Cx}  (hC : Fx C cX9_cut 3 RX9) (hR0 : xR C = rm 1) {post : Int64 → Prop} (hR : RJ C cX9_cut 3 (fun _ : Unit => ([] : va_W)) (fun r _ => post r )) {x0 : Int64} {x2 : Int32}  (h : qX9_cut x0 x2  post) : G C 0 0 3 [] 0 [(0, .long x0), (2, .int x2)] [] := by
  refine g_iload_n (pc := 0) hC 1 dX9_cut_0 rfl rfl ?_
  by_cases c_1 : x2 = (0 : Int32)
  · have h := h.1 c_1
    refine g_tabIn (pc := 1) (tgt := 28) hC dX9_cut_1 (by rw [c_1]; decide) (by rw [c_1]; decide) (by rw [c_1]; rfl) (by decide) ?_
    refine g_lload_n (pc := 28) hC 0 dX9_cut_28 rfl rfl ?_
    refine g_l2i (pc := 29) hC dX9_cut_29 ?_
    refine g_i2b (pc := 30) hC dX9_cut_30 ?_
    refine g_i2l (pc := 31) hC dX9_cut_31 ?_
    exact hR _ _ _ () dX9_cut_32 h
  by_cases c_2 : x2 = (1 : Int32)
  · have h := h.2.1 c_2
    refine g_tabIn (pc := 1) (tgt := 33) hC dX9_cut_1 (by rw [c_2]; decide) (by rw [c_2]; decide) (by rw [c_2]; rfl) (by decide) ?_
    refine g_lload_n (pc := 33) hC 0 dX9_cut_33 rfl rfl ?_
    refine g_l2i (pc := 34) hC dX9_cut_34 ?_
    refine g_i2s (pc := 35) hC dX9_cut_35 ?_
    refine g_i2l (pc := 36) hC dX9_cut_36 ?_
    exact hR _ _ _ () dX9_cut_37 h
  by_cases c_3 : x2 = (2 : Int32)
  · have h := h.2.2.1 c_3
    refine g_tabIn (pc := 1) (tgt := 38) hC dX9_cut_1 (by rw [c_3]; decide) (by rw [c_3]; decide) (by rw [c_3]; rfl) (by decide) ?_
    refine g_lload_n (pc := 38) hC 0 dX9_cut_38 rfl rfl ?_
    refine g_l2i (pc := 39) hC dX9_cut_39 ?_
    refine g_i2l (pc := 40) hC dX9_cut_40 ?_
    exact hR _ _ _ () dX9_cut_41 h
  have h := h.2.2.2 c_1 c_2 c_3
  refine g_tabOut (pc := 1) (tgt := 42) hC dX9_cut_1 (tab_out x2 (0) 3 (2) rfl (tab_s c_1 (tab_s c_2 (tab_s c_3 tab_0)))) (by decide) ?_
  refine g_lload_n (pc := 42) hC 0 dX9_cut_42 rfl rfl ?_
  exact hR _ _ _ () dX9_cut_43 h
theorem ctX9_cut {l : Launch} {D : va_G} {cy : Nat → ClassId} {kd : Nat → Nat}  {x0 : Int64} {x2 : Int32}  {post : Int64 → Prop} (h : qX9_cut x0 x2  post) : CtL l D cy kd yX9_cut cX9_cut 3 1  [.long x0, .int x2] (fun _ : Unit => ([] : va_W)) () (fun r _ => post r ) := met_l (by decide) (Nat.le_of_ble_eq_true rfl) (fun C e1 e2 e3 e4 e5 hC hR => by subst e1 e2 e3 e4; exact kX9_cut hC e5 hR h)
theorem dX9_put_0 : decode cX9_put 0 = .ok (.aload_n 0, 1) := by decide +kernel
theorem dX9_put_1 : decode cX9_put 1 = .ok (.getfield 9, 3) := by decide +kernel
theorem dX9_put_4 : decode cX9_put 4 = .ok (.iload_n 1, 1) := by decide +kernel
theorem dX9_put_5 : decode cX9_put 5 = .ok (.bipush 60, 2) := by decide +kernel
theorem dX9_put_7 : decode cX9_put 7 = .ok (.imul, 1) := by decide +kernel
theorem dX9_put_8 : decode cX9_put 8 = .ok (.iload_n 2, 1) := by decide +kernel
theorem dX9_put_9 : decode cX9_put 9 = .ok (.iadd, 1) := by decide +kernel
theorem dX9_put_10 : decode cX9_put 10 = .ok (.lload_n 3, 1) := by decide +kernel
theorem dX9_put_11 : decode cX9_put 11 = .ok (.aload_n 0, 1) := by decide +kernel
theorem dX9_put_12 : decode cX9_put 12 = .ok (.getfield 15, 3) := by decide +kernel
theorem dX9_put_15 : decode cX9_put 15 = .ok (.iload_n 1, 1) := by decide +kernel
theorem dX9_put_16 : decode cX9_put 16 = .ok (.iaload, 1) := by decide +kernel
theorem dX9_put_17 : decode cX9_put 17 = .ok (.invokestatic 33, 3) := by decide +kernel
theorem dX9_put_20 : decode cX9_put 20 = .ok (.lastore, 1) := by decide +kernel
theorem dX9_put_21 : decode cX9_put 21 = .ok (.return_, 1) := by decide +kernel
def qX9_put (x1 : Int32) (x2 : Int32) (x3 : Int64) (u0 : St) (post : St → Prop) : Prop := (vp_in x1 4 ∧ qX9_cut x3 (ga u0 1 (x1).toNatClampNeg) (fun r_4 => (vp_in ((x1 * (60 : Int32)) + x2) 240 ∧ ∀ u_6 : St, u_6 = (sx u0 0 (vp_updL (gl u0 0) (((x1 * (60 : Int32)) + x2)).toNatClampNeg r_4)) → post u_6)))
set_option maxRecDepth 100000 in
set_option maxHeartbeats 4000000 in
theorem kX9_put {C : Cx} {o0 : Nat} {a0 : Nat → Nat} (hC : Fx C cX9_put 5 RX9) (hR0 : xR C = rm 2) {post : St → Prop} (hR : RV C cX9_put 5 (fun u : St => (wX9 o0 a0 (xy C) u [])) (fun u => post u)) {x1 : Int32} {x2 : Int32} {x3 : Int64} {u0 : St} (h : qX9_put x1 x2 x3 u0 post) : G C 0 0 5 (wX9 o0 a0 (xy C) u0 []) 0 [(0, .ref o0), (1, .int x1), (2, .int x2), (3, .long x3)] [] := by
  refine g_aload_n (pc := 0) hC 0 dX9_put_0 rfl rfl ?_
  refine getX9_0 (pc := 1) hC (F := fun Z => Z) (X := []) (fun _ => rfl) fl_X9_9 dX9_put_1 ?_
  refine g_iload_n (pc := 4) hC 1 dX9_put_4 rfl rfl ?_
  refine g_bipush (pc := 5) (v := 60) hC dX9_put_5 (by decide) ?_
  refine g_imul (pc := 7) hC dX9_put_7 ?_
  refine g_iload_n (pc := 8) hC 2 dX9_put_8 rfl rfl ?_
  refine g_iadd (pc := 9) hC dX9_put_9 ?_
  refine g_lload_n (pc := 10) hC 3 dX9_put_10 rfl rfl ?_
  refine g_aload_n (pc := 11) hC 0 dX9_put_11 rfl rfl ?_
  refine getX9_1 (pc := 12) hC (F := fun Z => Z) (X := []) (fun _ => rfl) fl_X9_15 dX9_put_12 ?_
  refine g_iload_n (pc := 15) hC 1 dX9_put_15 rfl rfl ?_
  refine aldX9_1 (pc := 16) hC (F := fun Z => Z) (X := []) (fun _ => rfl) h.1 dX9_put_16 ?_
  have h := h.2
  refine g_callS_l (pc := 17) (wd := fun (_ : Unit) Y => Y) (F := fun Z => Z) (X := []) (As := [.long x3, .int (ga u0 1 (x1).toNatClampNeg)]) (rest := [.int ((x1 * (60 : Int32)) + x2), .ref (a0 0)]) (u := ()) hC (fun _ _ => rfl) (fun _ => rfl) (ctX9_cut h) wvX9_cut ml_X9_33 rfl (rmok hR0 rfl) ⟨Nat.zero_le _, Nat.zero_le _⟩ rfl (Nat.le_of_ble_eq_true rfl) dX9_put_17 (fun r_4 u_5 h => ?_)
  refine astX9_0 (pc := 20) hC (F := fun Z => Z) (X := []) (fun _ => rfl) h.1 dX9_put_20 ?_
  have h := h.2
  refine g_st (w := fun z => (wX9 o0 a0 (xy C) z [])) (u := (sx u0 0 (vp_updL (gl u0 0) (((x1 * (60 : Int32)) + x2)).toNatClampNeg r_4))) (fun u_6 eu_6 => ?_)
  have h := h u_6 eu_6
  exact hR _ _ u_6 dX9_put_21 h
theorem ctX9_put {l : Launch} {D : va_G} {cy : Nat → ClassId} {kd : Nat → Nat} {o0 : Nat} {a0 : Nat → Nat} {x1 : Int32} {x2 : Int32} {x3 : Int64} {u0 : St} {post : St → Prop} (h : qX9_put x1 x2 x3 u0 post) : CtV l D cy kd yX9_put cX9_put 5 2  [.ref o0, .int x1, .int x2, .long x3] (fun u : St => (wX9 o0 a0 cy u [])) u0 (fun u => post u) := met_v (by decide) (Nat.le_of_ble_eq_true rfl) (fun C e1 e2 e3 e4 e5 hC hR => by subst e1 e2 e3 e4; exact kX9_put hC e5 hR h)
theorem dX9_at_0 : decode cX9_at 0 = .ok (.aload_n 0, 1) := by decide +kernel
theorem dX9_at_1 : decode cX9_at 1 = .ok (.getfield 9, 3) := by decide +kernel
theorem dX9_at_4 : decode cX9_at 4 = .ok (.iload_n 1, 1) := by decide +kernel
theorem dX9_at_5 : decode cX9_at 5 = .ok (.bipush 60, 2) := by decide +kernel
theorem dX9_at_7 : decode cX9_at 7 = .ok (.imul, 1) := by decide +kernel
theorem dX9_at_8 : decode cX9_at 8 = .ok (.iload_n 2, 1) := by decide +kernel
theorem dX9_at_9 : decode cX9_at 9 = .ok (.iadd, 1) := by decide +kernel
theorem dX9_at_10 : decode cX9_at 10 = .ok (.laload, 1) := by decide +kernel
theorem dX9_at_11 : decode cX9_at 11 = .ok (.lreturn, 1) := by decide +kernel
def qX9_at (x1 : Int32) (x2 : Int32) (u0 : St) (post : Int64 → St → Prop) : Prop := (vp_in ((x1 * (60 : Int32)) + x2) 240 ∧ post (gl u0 0 (((x1 * (60 : Int32)) + x2)).toNatClampNeg) u0)
set_option maxRecDepth 100000 in
set_option maxHeartbeats 4000000 in
theorem kX9_at {C : Cx} {o0 : Nat} {a0 : Nat → Nat} (hC : Fx C cX9_at 3 RX9) (hR0 : xR C = rm 1) {post : Int64 → St → Prop} (hR : RJ C cX9_at 3 (fun u : St => (wX9 o0 a0 (xy C) u [])) (fun r u => post r u)) {x1 : Int32} {x2 : Int32} {u0 : St} (h : qX9_at x1 x2 u0 post) : G C 0 0 3 (wX9 o0 a0 (xy C) u0 []) 0 [(0, .ref o0), (1, .int x1), (2, .int x2)] [] := by
  refine g_aload_n (pc := 0) hC 0 dX9_at_0 rfl rfl ?_
  refine getX9_0 (pc := 1) hC (F := fun Z => Z) (X := []) (fun _ => rfl) fl_X9_9 dX9_at_1 ?_
  refine g_iload_n (pc := 4) hC 1 dX9_at_4 rfl rfl ?_
  refine g_bipush (pc := 5) (v := 60) hC dX9_at_5 (by decide) ?_
  refine g_imul (pc := 7) hC dX9_at_7 ?_
  refine g_iload_n (pc := 8) hC 2 dX9_at_8 rfl rfl ?_
  refine g_iadd (pc := 9) hC dX9_at_9 ?_
  refine aldX9_0 (pc := 10) hC (F := fun Z => Z) (X := []) (fun _ => rfl) h.1 dX9_at_10 ?_
  have h := h.2
  exact hR _ _ _ u0 dX9_at_11 h
theorem ctX9_at {l : Launch} {D : va_G} {cy : Nat → ClassId} {kd : Nat → Nat} {o0 : Nat} {a0 : Nat → Nat} {x1 : Int32} {x2 : Int32} {u0 : St} {post : Int64 → St → Prop} (h : qX9_at x1 x2 u0 post) : CtL l D cy kd yX9_at cX9_at 3 1  [.ref o0, .int x1, .int x2] (fun u : St => (wX9 o0 a0 cy u [])) u0 (fun r u => post r u) := met_l (by decide) (Nat.le_of_ble_eq_true rfl) (fun C e1 e2 e3 e4 e5 hC hR => by subst e1 e2 e3 e4; exact kX9_at hC e5 hR h)
theorem dX9_move_0 : decode cX9_move 0 = .ok (.aload_n 0, 1) := by decide +kernel
theorem dX9_move_1 : decode cX9_move 1 = .ok (.getfield 9, 3) := by decide +kernel
theorem dX9_move_4 : decode cX9_move 4 = .ok (.iload_n 1, 1) := by decide +kernel
theorem dX9_move_5 : decode cX9_move 5 = .ok (.bipush 60, 2) := by decide +kernel
theorem dX9_move_7 : decode cX9_move 7 = .ok (.imul, 1) := by decide +kernel
theorem dX9_move_8 : decode cX9_move 8 = .ok (.iload_n 2, 1) := by decide +kernel
theorem dX9_move_9 : decode cX9_move 9 = .ok (.iadd, 1) := by decide +kernel
theorem dX9_move_10 : decode cX9_move 10 = .ok (.aload_n 0, 1) := by decide +kernel
theorem dX9_move_11 : decode cX9_move 11 = .ok (.getfield 9, 3) := by decide +kernel
theorem dX9_move_14 : decode cX9_move 14 = .ok (.iload_n 3, 1) := by decide +kernel
theorem dX9_move_15 : decode cX9_move 15 = .ok (.bipush 60, 2) := by decide +kernel
theorem dX9_move_17 : decode cX9_move 17 = .ok (.imul, 1) := by decide +kernel
theorem dX9_move_18 : decode cX9_move 18 = .ok (.iload 4, 2) := by decide +kernel
theorem dX9_move_20 : decode cX9_move 20 = .ok (.iadd, 1) := by decide +kernel
theorem dX9_move_21 : decode cX9_move 21 = .ok (.iload 5, 2) := by decide +kernel
theorem dX9_move_23 : decode cX9_move 23 = .ok (.invokestatic 37, 3) := by decide +kernel
theorem dX9_move_26 : decode cX9_move 26 = .ok (.return_, 1) := by decide +kernel
def qX9_move (x1 : Int32) (x2 : Int32) (x3 : Int32) (x4 : Int32) (x5 : Int32) (u0 : St) (post : St → Prop) : Prop := (cpOk ((x1 * (60 : Int32)) + x2) ((x3 * (60 : Int32)) + x4) x5 240 240 ∧ ∀ u_2 : St, u_2 = (sx u0 0 (va_cpy (gl u0 0) (gl u0 0) (((x1 * (60 : Int32)) + x2)).toNatClampNeg (((x3 * (60 : Int32)) + x4)).toNatClampNeg (x5).toNatClampNeg)) → post u_2)
set_option maxRecDepth 100000 in
set_option maxHeartbeats 4000000 in
theorem kX9_move {C : Cx} {o0 : Nat} {a0 : Nat → Nat} (hC : Fx C cX9_move 6 RX9) (hR0 : xR C = rm 2) {post : St → Prop} (hR : RV C cX9_move 6 (fun u : St => (wX9 o0 a0 (xy C) u [])) (fun u => post u)) {x1 : Int32} {x2 : Int32} {x3 : Int32} {x4 : Int32} {x5 : Int32} {u0 : St} (h : qX9_move x1 x2 x3 x4 x5 u0 post) : G C 0 0 6 (wX9 o0 a0 (xy C) u0 []) 0 [(0, .ref o0), (1, .int x1), (2, .int x2), (3, .int x3), (4, .int x4), (5, .int x5)] [] := by
  refine g_aload_n (pc := 0) hC 0 dX9_move_0 rfl rfl ?_
  refine getX9_0 (pc := 1) hC (F := fun Z => Z) (X := []) (fun _ => rfl) fl_X9_9 dX9_move_1 ?_
  refine g_iload_n (pc := 4) hC 1 dX9_move_4 rfl rfl ?_
  refine g_bipush (pc := 5) (v := 60) hC dX9_move_5 (by decide) ?_
  refine g_imul (pc := 7) hC dX9_move_7 ?_
  refine g_iload_n (pc := 8) hC 2 dX9_move_8 rfl rfl ?_
  refine g_iadd (pc := 9) hC dX9_move_9 ?_
  refine g_aload_n (pc := 10) hC 0 dX9_move_10 rfl rfl ?_
  refine getX9_0 (pc := 11) hC (F := fun Z => Z) (X := []) (fun _ => rfl) fl_X9_9 dX9_move_11 ?_
  refine g_iload_n (pc := 14) hC 3 dX9_move_14 rfl rfl ?_
  refine g_bipush (pc := 15) (v := 60) hC dX9_move_15 (by decide) ?_
  refine g_imul (pc := 17) hC dX9_move_17 ?_
  refine g_iload (pc := 18) hC 4 dX9_move_18 rfl ?_
  refine g_iadd (pc := 20) hC dX9_move_20 ?_
  refine g_iload (pc := 21) hC 5 dX9_move_21 rfl ?_
  refine g_copyl (pc := 23) (σ' := (wX9 o0 a0 (xy C) (sx u0 0 (va_cpy (gl u0 0) (gl u0 0) (((x1 * (60 : Int32)) + x2)).toNatClampNeg (((x3 * (60 : Int32)) + x4)).toNatClampNeg (x5).toNatClampNeg)) [])) hC hR0 ml_X9_37 1 1 rfl rfl rfl h.1 dX9_move_23 (Nat.le_of_ble_eq_true rfl) ?_
  have h := h.2
  refine g_st (w := fun z => (wX9 o0 a0 (xy C) z [])) (u := (sx u0 0 (va_cpy (gl u0 0) (gl u0 0) (((x1 * (60 : Int32)) + x2)).toNatClampNeg (((x3 * (60 : Int32)) + x4)).toNatClampNeg (x5).toNatClampNeg))) (fun u_2 eu_2 => ?_)
  have h := h u_2 eu_2
  exact hR _ _ u_2 dX9_move_26 h
theorem ctX9_move {l : Launch} {D : va_G} {cy : Nat → ClassId} {kd : Nat → Nat} {o0 : Nat} {a0 : Nat → Nat} {x1 : Int32} {x2 : Int32} {x3 : Int32} {x4 : Int32} {x5 : Int32} {u0 : St} {post : St → Prop} (h : qX9_move x1 x2 x3 x4 x5 u0 post) : CtV l D cy kd yX9_move cX9_move 6 2  [.ref o0, .int x1, .int x2, .int x3, .int x4, .int x5] (fun u : St => (wX9 o0 a0 cy u [])) u0 (fun u => post u) := met_v (by decide) (Nat.le_of_ble_eq_true rfl) (fun C e1 e2 e3 e4 e5 hC hR => by subst e1 e2 e3 e4; exact kX9_move hC e5 hR h)
theorem dX5_grow_0 : decode cX5_grow 0 = .ok (.iconst 0, 1) := by decide +kernel
theorem dX5_grow_1 : decode cX5_grow 1 = .ok (.istore_n 3, 1) := by decide +kernel
theorem dX5_grow_2 : decode cX5_grow 2 = .ok (.iconst 0, 1) := by decide +kernel
theorem dX5_grow_3 : decode cX5_grow 3 = .ok (.istore 4, 2) := by decide +kernel
theorem dX5_grow_5 : decode cX5_grow 5 = .ok (.iload 4, 2) := by decide +kernel
theorem dX5_grow_7 : decode cX5_grow 7 = .ok (.bipush 41, 2) := by decide +kernel
theorem dX5_grow_9 : decode cX5_grow 9 = .ok (.if_icmp .ge 43, 3) := by decide +kernel
theorem dX5_grow_12 : decode cX5_grow 12 = .ok (.aload_n 0, 1) := by decide +kernel
theorem dX5_grow_13 : decode cX5_grow 13 = .ok (.getfield 11, 3) := by decide +kernel
theorem dX5_grow_16 : decode cX5_grow 16 = .ok (.iload_n 2, 1) := by decide +kernel
theorem dX5_grow_17 : decode cX5_grow 17 = .ok (.bipush 41, 2) := by decide +kernel
theorem dX5_grow_19 : decode cX5_grow 19 = .ok (.imul, 1) := by decide +kernel
theorem dX5_grow_20 : decode cX5_grow 20 = .ok (.iload 4, 2) := by decide +kernel
theorem dX5_grow_22 : decode cX5_grow 22 = .ok (.iadd, 1) := by decide +kernel
theorem dX5_grow_23 : decode cX5_grow 23 = .ok (.iload_n 3, 1) := by decide +kernel
theorem dX5_grow_24 : decode cX5_grow 24 = .ok (.iastore, 1) := by decide +kernel
theorem dX5_grow_25 : decode cX5_grow 25 = .ok (.iload_n 1, 1) := by decide +kernel
theorem dX5_grow_26 : decode cX5_grow 26 = .ok (.iload_n 3, 1) := by decide +kernel
theorem dX5_grow_27 : decode cX5_grow 27 = .ok (.iload_n 2, 1) := by decide +kernel
theorem dX5_grow_28 : decode cX5_grow 28 = .ok (.iconst 2, 1) := by decide +kernel
theorem dX5_grow_29 : decode cX5_grow 29 = .ok (.idiv, 1) := by decide +kernel
theorem dX5_grow_30 : decode cX5_grow 30 = .ok (.iload_n 2, 1) := by decide +kernel
theorem dX5_grow_31 : decode cX5_grow 31 = .ok (.iconst 2, 1) := by decide +kernel
theorem dX5_grow_32 : decode cX5_grow 32 = .ok (.irem, 1) := by decide +kernel
theorem dX5_grow_33 : decode cX5_grow 33 = .ok (.iconst 1, 1) := by decide +kernel
theorem dX5_grow_34 : decode cX5_grow 34 = .ok (.if_icmp .ne 7, 3) := by decide +kernel
theorem dX5_grow_37 : decode cX5_grow 37 = .ok (.iconst 1, 1) := by decide +kernel
theorem dX5_grow_38 : decode cX5_grow 38 = .ok (.goto 4, 3) := by decide +kernel
theorem dX5_grow_41 : decode cX5_grow 41 = .ok (.iconst 0, 1) := by decide +kernel
theorem dX5_grow_42 : decode cX5_grow 42 = .ok (.invokestatic 23, 3) := by decide +kernel
theorem dX5_grow_45 : decode cX5_grow 45 = .ok (.istore_n 3, 1) := by decide +kernel
theorem dX5_grow_46 : decode cX5_grow 46 = .ok (.iinc 4 1, 3) := by decide +kernel
theorem dX5_grow_49 : decode cX5_grow 49 = .ok (.goto (-44), 3) := by decide +kernel
theorem dX5_grow_52 : decode cX5_grow 52 = .ok (.return_, 1) := by decide +kernel
def qX5_grow_b42  (post : St → Prop) (K5 : Int32 → Int32 → Int32 → Int32 → St → Prop) (x1 : Int32) (x2 : Int32) (x4 : Int32) (s0 : Int32) (s1 : Int32) (s2 : Int32) (s3 : Int32) (u0 : St) : Prop := qX11_growth s3 s2 s1 s0 (fun r_5 => ∀ x4_7 : Int32, x4_7 = x4 + (1 : Int32) → K5 x1 x2 r_5 x4_7 u0)
set_option maxRecDepth 100000 in
set_option maxHeartbeats 4000000 in
theorem kX5_grow_b42 {C : Cx} {o0 : Nat} {a0 : Nat → Nat} (hC : Fx C cX5_grow 5 RX5) (hR0 : xR C = rm 3) {post : St → Prop} (hR : RV C cX5_grow 5 (fun u : St => (wX5 o0 a0 (xy C) u [])) (fun u => post u)) {K5 : Int32 → Int32 → Int32 → Int32 → St → Prop} (hK5 : ∀ (x1 : Int32) (x2 : Int32) (x3 : Int32) (x4 : Int32) (u0 : St), K5 x1 x2 x3 x4 u0 → G C 0 0 5 (wX5 o0 a0 (xy C) u0 []) 5 [(0, .ref o0), (1, .int x1), (2, .int x2), (3, .int x3), (4, .int x4)] []) {x1 : Int32} {x2 : Int32} {x4 : Int32} {s0 : Int32} {s1 : Int32} {s2 : Int32} {s3 : Int32} {u0 : St} (h : qX5_grow_b42 post K5 x1 x2 x4 s0 s1 s2 s3 u0) : G C 0 0 5 (wX5 o0 a0 (xy C) u0 []) 42 [(0, .ref o0), (1, .int x1), (2, .int x2), (4, .int x4)] [.int s0, .int s1, .int s2, .int s3] := by
  refine g_callSN_i (pc := 42) (wd := fun (_ : Unit) Y => Y) (F := fun Z => Z) (X := []) (As := [.int s3, .int s2, .int s1, .int s0]) (rest := []) (u := ()) hC (fun _ _ => rfl) (fun _ => rfl) (ctX11_growth h) wvX11_growth nl_X5_23 rfl (rmok hR0 rfl) ⟨Nat.zero_le _, Nat.zero_le _⟩ rfl (Nat.le_of_ble_eq_true rfl) dX5_grow_42 (fun r_5 u_6 h => ?_)
  refine g_istore_n (pc := 45) (lv' := [(3, .int r_5), (0, .ref o0), (1, .int x1), (2, .int x2), (4, .int x4)]) hC dX5_grow_45 rfl (Nat.le_of_ble_eq_true rfl) rfl ?_
  obtain ⟨x4_7, ex4_7⟩ : ∃ z : Int32, z = x4 + (1 : Int32) := ⟨_, rfl⟩
  have h := h x4_7 ex4_7
  refine g_iinc (pc := 46) (v := x4_7) (lv' := [(4, .int x4_7), (3, .int r_5), (0, .ref o0), (1, .int x1), (2, .int x2)]) hC 4 dX5_grow_46 rfl (by rw [ex4_7]; rfl) (Nat.le_of_ble_eq_true rfl) rfl ?_
  refine g_goto (pc := 49) (tgt := 5) hC dX5_grow_49 (by decide) ?_
  refine g_sub (lv' := [(0, .ref o0), (1, .int x1), (2, .int x2), (3, .int r_5), (4, .int x4_7)]) [2, 3, 4, 1, 0] rfl ?_
  exact hK5 _ _ _ _ _ h
def qX5_grow_l5  (post : St → Prop) (K5 : Int32 → Int32 → Int32 → Int32 → St → Prop) (x1 : Int32) (x2 : Int32) (x3 : Int32) (x4 : Int32) (u0 : St) : Prop := (((41 : Int32) ≤ x4 → post u0) ∧ (¬ (41 : Int32) ≤ x4 → (vp_in ((x2 * (41 : Int32)) + x4) 820 ∧ ∀ u_9 : St, u_9 = (sw u0 0 (upd (ga u0 0) (((x2 * (41 : Int32)) + x4)).toNatClampNeg x3)) → ((¬ (x2 - x2 / (2 : Int32) * (2 : Int32)) = (1 : Int32) → qX5_grow_b42 post K5 x1 x2 x4 (0 : Int32) (x2 / (2 : Int32)) x3 x1 u_9) ∧ ((x2 - x2 / (2 : Int32) * (2 : Int32)) = (1 : Int32) → qX5_grow_b42 post K5 x1 x2 x4 (1 : Int32) (x2 / (2 : Int32)) x3 x1 u_9)))))
set_option maxRecDepth 100000 in
set_option maxHeartbeats 4000000 in
theorem kX5_grow_l5 {C : Cx} {o0 : Nat} {a0 : Nat → Nat} (hC : Fx C cX5_grow 5 RX5) (hR0 : xR C = rm 3) {post : St → Prop} (hR : RV C cX5_grow 5 (fun u : St => (wX5 o0 a0 (xy C) u [])) (fun u => post u))  {K5 : Int32 → Int32 → Int32 → Int32 → St → Prop} (hK5 : ∀ (x1 : Int32) (x2 : Int32) (x3 : Int32) (x4 : Int32) (u0 : St), K5 x1 x2 x3 x4 u0 → G C 0 0 5 (wX5 o0 a0 (xy C) u0 []) 5 [(0, .ref o0), (1, .int x1), (2, .int x2), (3, .int x3), (4, .int x4)] []) {x1 : Int32} {x2 : Int32} {x3 : Int32} {x4 : Int32} {u0 : St} (h : qX5_grow_l5 post K5 x1 x2 x3 x4 u0) : G C 0 0 5 (wX5 o0 a0 (xy C) u0 []) 5 [(0, .ref o0), (1, .int x1), (2, .int x2), (3, .int x3), (4, .int x4)] [] := by
  refine g_iload (pc := 5) hC 4 dX5_grow_5 rfl ?_
  refine g_bipush (pc := 7) (v := 41) hC dX5_grow_7 (by decide) ?_
  refine g_icmp_ge (pc := 9) (tgt := 52) hC dX5_grow_9 (by decide) (fun c_8 => ?_) (fun c_8 => ?_)
  · have h := h.1 c_8
    exact hR _ _ u0 dX5_grow_52 h
  · have h := h.2 c_8
    refine g_aload_n (pc := 12) hC 0 dX5_grow_12 rfl rfl ?_
    refine getX5_0 (pc := 13) hC (F := fun Z => Z) (X := []) (fun _ => rfl) fl_X5_11 dX5_grow_13 ?_
    refine g_iload_n (pc := 16) hC 2 dX5_grow_16 rfl rfl ?_
    refine g_bipush (pc := 17) (v := 41) hC dX5_grow_17 (by decide) ?_
    refine g_imul (pc := 19) hC dX5_grow_19 ?_
    refine g_iload (pc := 20) hC 4 dX5_grow_20 rfl ?_
    refine g_iadd (pc := 22) hC dX5_grow_22 ?_
    refine g_iload_n (pc := 23) hC 3 dX5_grow_23 rfl rfl ?_
    refine astX5_0 (pc := 24) hC (F := fun Z => Z) (X := []) (fun _ => rfl) h.1 dX5_grow_24 ?_
    have h := h.2
    refine g_st (w := fun z => (wX5 o0 a0 (xy C) z [])) (u := (sw u0 0 (upd (ga u0 0) (((x2 * (41 : Int32)) + x4)).toNatClampNeg x3))) (fun u_9 eu_9 => ?_)
    have h := h u_9 eu_9
    refine g_iload_n (pc := 25) hC 1 dX5_grow_25 rfl rfl ?_
    refine g_iload_n (pc := 26) hC 3 dX5_grow_26 rfl rfl ?_
    refine g_iload_n (pc := 27) hC 2 dX5_grow_27 rfl rfl ?_
    refine g_iconst (pc := 28) (v := 2) hC dX5_grow_28 (by decide) ?_
    refine g_idiv (pc := 29) hC dX5_grow_29 (by decide) ?_
    refine g_iload_n (pc := 30) hC 2 dX5_grow_30 rfl rfl ?_
    refine g_iconst (pc := 31) (v := 2) hC dX5_grow_31 (by decide) ?_
    refine g_irem (pc := 32) hC dX5_grow_32 (by decide) ?_
    refine g_iconst (pc := 33) (v := 1) hC dX5_grow_33 (by decide) ?_
    refine g_icmp_ne (pc := 34) (tgt := 41) hC dX5_grow_34 (by decide) (fun c_10 => ?_) (fun c_10 => ?_)
    · have h := h.1 c_10
      refine g_iconst (pc := 41) (v := 0) hC dX5_grow_41 (by decide) ?_
      refine g_sub (lv' := [(0, .ref o0), (1, .int x1), (2, .int x2), (4, .int x4)]) [0, 1, 2, 4] rfl ?_
      exact kX5_grow_b42 hC hR0 hR hK5 h
    · have h := h.2 c_10
      refine g_iconst (pc := 37) (v := 1) hC dX5_grow_37 (by decide) ?_
      refine g_goto (pc := 38) (tgt := 42) hC dX5_grow_38 (by decide) ?_
      refine g_sub (lv' := [(0, .ref o0), (1, .int x1), (2, .int x2), (4, .int x4)]) [0, 1, 2, 4] rfl ?_
      exact kX5_grow_b42 hC hR0 hR hK5 h
def qX5_grow_L5  (post : St → Prop)  : Nat → Int32 → Int32 → Int32 → Int32 → St → Prop
  | 0 => fun _ _ _ _ _ => False
  | n + 1 => qX5_grow_l5 post (qX5_grow_L5 post n)
theorem kX5_grow_L5 {C : Cx} {o0 : Nat} {a0 : Nat → Nat} (hC : Fx C cX5_grow 5 RX5) (hR0 : xR C = rm 3) {post : St → Prop} (hR : RV C cX5_grow 5 (fun u : St => (wX5 o0 a0 (xy C) u [])) (fun u => post u))  : ∀ (n : Nat) (x1 : Int32) (x2 : Int32) (x3 : Int32) (x4 : Int32) (u0 : St), qX5_grow_L5 post n x1 x2 x3 x4 u0 → G C 0 0 5 (wX5 o0 a0 (xy C) u0 []) 5 [(0, .ref o0), (1, .int x1), (2, .int x2), (3, .int x3), (4, .int x4)] [] := by
  intro n
  induction n with
  | zero => intro x1 x2 x3 x4 u0 h; exact h.elim
  | succ n ih => intro x1 x2 x3 x4 u0 h; exact kX5_grow_l5 hC hR0 hR  ih h
def qX5_grow (x1 : Int32) (x2 : Int32) (u0 : St) (post : St → Prop) : Prop := ∃ n_11 : Nat, qX5_grow_L5 post n_11 x1 x2 (0 : Int32) (0 : Int32) u0
set_option maxRecDepth 100000 in
set_option maxHeartbeats 4000000 in
theorem kX5_grow {C : Cx} {o0 : Nat} {a0 : Nat → Nat} (hC : Fx C cX5_grow 5 RX5) (hR0 : xR C = rm 3) {post : St → Prop} (hR : RV C cX5_grow 5 (fun u : St => (wX5 o0 a0 (xy C) u [])) (fun u => post u)) {x1 : Int32} {x2 : Int32} {u0 : St} (h : qX5_grow x1 x2 u0 post) : G C 0 0 5 (wX5 o0 a0 (xy C) u0 []) 0 [(0, .ref o0), (1, .int x1), (2, .int x2)] [] := by
  refine g_iconst (pc := 0) (v := 0) hC dX5_grow_0 (by decide) ?_
  refine g_istore_n (pc := 1) (lv' := [(3, .int (0 : Int32)), (0, .ref o0), (1, .int x1), (2, .int x2)]) hC dX5_grow_1 rfl (Nat.le_of_ble_eq_true rfl) rfl ?_
  refine g_iconst (pc := 2) (v := 0) hC dX5_grow_2 (by decide) ?_
  refine g_istore (pc := 3) (lv' := [(4, .int (0 : Int32)), (3, .int (0 : Int32)), (0, .ref o0), (1, .int x1), (2, .int x2)]) hC dX5_grow_3 (Nat.le_of_ble_eq_true rfl) rfl ?_
  refine g_sub (lv' := [(0, .ref o0), (1, .int x1), (2, .int x2), (3, .int (0 : Int32)), (4, .int (0 : Int32))]) [2, 3, 4, 1, 0] rfl ?_
  obtain ⟨n_11, h⟩ := h
  exact kX5_grow_L5 hC hR0 hR  n_11 _ _ _ _ _ h
theorem ctX5_grow {l : Launch} {D : va_G} {cy : Nat → ClassId} {kd : Nat → Nat} {o0 : Nat} {a0 : Nat → Nat} {x1 : Int32} {x2 : Int32} {u0 : St} {post : St → Prop} (h : qX5_grow x1 x2 u0 post) : CtV l D cy kd yX5_grow cX5_grow 5 3  [.ref o0, .int x1, .int x2] (fun u : St => (wX5 o0 a0 cy u [])) u0 (fun u => post u) := met_v (by decide) (Nat.le_of_ble_eq_true rfl) (fun C e1 e2 e3 e4 e5 hC hR => by subst e1 e2 e3 e4; exact kX5_grow hC e5 hR h)
theorem dX5_fitsAll_0 : decode cX5_fitsAll 0 = .ok (.iconst 0, 1) := by decide +kernel
theorem dX5_fitsAll_1 : decode cX5_fitsAll 1 = .ok (.istore 5, 2) := by decide +kernel
theorem dX5_fitsAll_3 : decode cX5_fitsAll 3 = .ok (.iload 5, 2) := by decide +kernel
theorem dX5_fitsAll_5 : decode cX5_fitsAll 5 = .ok (.iload 4, 2) := by decide +kernel
theorem dX5_fitsAll_7 : decode cX5_fitsAll 7 = .ok (.if_icmp .ge 62, 3) := by decide +kernel
theorem dX5_fitsAll_10 : decode cX5_fitsAll 10 = .ok (.aload_n 2, 1) := by decide +kernel
theorem dX5_fitsAll_11 : decode cX5_fitsAll 11 = .ok (.iload_n 3, 1) := by decide +kernel
theorem dX5_fitsAll_12 : decode cX5_fitsAll 12 = .ok (.iconst 2, 1) := by decide +kernel
theorem dX5_fitsAll_13 : decode cX5_fitsAll 13 = .ok (.iload 5, 2) := by decide +kernel
theorem dX5_fitsAll_15 : decode cX5_fitsAll 15 = .ok (.imul, 1) := by decide +kernel
theorem dX5_fitsAll_16 : decode cX5_fitsAll 16 = .ok (.invokevirtual 27, 3) := by decide +kernel
theorem dX5_fitsAll_19 : decode cX5_fitsAll 19 = .ok (.l2i, 1) := by decide +kernel
theorem dX5_fitsAll_20 : decode cX5_fitsAll 20 = .ok (.istore 6, 2) := by decide +kernel
theorem dX5_fitsAll_22 : decode cX5_fitsAll 22 = .ok (.iload 6, 2) := by decide +kernel
theorem dX5_fitsAll_24 : decode cX5_fitsAll 24 = .ok (.iconst 0, 1) := by decide +kernel
theorem dX5_fitsAll_25 : decode cX5_fitsAll 25 = .ok (.bipush 40, 2) := by decide +kernel
theorem dX5_fitsAll_27 : decode cX5_fitsAll 27 = .ok (.invokestatic 33, 3) := by decide +kernel
theorem dX5_fitsAll_30 : decode cX5_fitsAll 30 = .ok (.ifCond .eq 31, 3) := by decide +kernel
theorem dX5_fitsAll_33 : decode cX5_fitsAll 33 = .ok (.aload_n 0, 1) := by decide +kernel
theorem dX5_fitsAll_34 : decode cX5_fitsAll 34 = .ok (.getfield 11, 3) := by decide +kernel
theorem dX5_fitsAll_37 : decode cX5_fitsAll 37 = .ok (.iload_n 1, 1) := by decide +kernel
theorem dX5_fitsAll_38 : decode cX5_fitsAll 38 = .ok (.bipush 41, 2) := by decide +kernel
theorem dX5_fitsAll_40 : decode cX5_fitsAll 40 = .ok (.imul, 1) := by decide +kernel
theorem dX5_fitsAll_41 : decode cX5_fitsAll 41 = .ok (.iload 6, 2) := by decide +kernel
theorem dX5_fitsAll_43 : decode cX5_fitsAll 43 = .ok (.iadd, 1) := by decide +kernel
theorem dX5_fitsAll_44 : decode cX5_fitsAll 44 = .ok (.iaload, 1) := by decide +kernel
theorem dX5_fitsAll_45 : decode cX5_fitsAll 45 = .ok (.i2l, 1) := by decide +kernel
theorem dX5_fitsAll_46 : decode cX5_fitsAll 46 = .ok (.aload_n 2, 1) := by decide +kernel
theorem dX5_fitsAll_47 : decode cX5_fitsAll 47 = .ok (.iload_n 3, 1) := by decide +kernel
theorem dX5_fitsAll_48 : decode cX5_fitsAll 48 = .ok (.iconst 2, 1) := by decide +kernel
theorem dX5_fitsAll_49 : decode cX5_fitsAll 49 = .ok (.iload 5, 2) := by decide +kernel
theorem dX5_fitsAll_51 : decode cX5_fitsAll 51 = .ok (.imul, 1) := by decide +kernel
theorem dX5_fitsAll_52 : decode cX5_fitsAll 52 = .ok (.iconst 1, 1) := by decide +kernel
theorem dX5_fitsAll_53 : decode cX5_fitsAll 53 = .ok (.iadd, 1) := by decide +kernel
theorem dX5_fitsAll_54 : decode cX5_fitsAll 54 = .ok (.invokevirtual 27, 3) := by decide +kernel
theorem dX5_fitsAll_57 : decode cX5_fitsAll 57 = .ok (.lcmp, 1) := by decide +kernel
theorem dX5_fitsAll_58 : decode cX5_fitsAll 58 = .ok (.ifCond .eq 5, 3) := by decide +kernel
theorem dX5_fitsAll_61 : decode cX5_fitsAll 61 = .ok (.iconst 0, 1) := by decide +kernel
theorem dX5_fitsAll_62 : decode cX5_fitsAll 62 = .ok (.ireturn, 1) := by decide +kernel
theorem dX5_fitsAll_63 : decode cX5_fitsAll 63 = .ok (.iinc 5 1, 3) := by decide +kernel
theorem dX5_fitsAll_66 : decode cX5_fitsAll 66 = .ok (.goto (-63), 3) := by decide +kernel
theorem dX5_fitsAll_69 : decode cX5_fitsAll 69 = .ok (.iconst 1, 1) := by decide +kernel
theorem dX5_fitsAll_70 : decode cX5_fitsAll 70 = .ok (.ireturn, 1) := by decide +kernel
def qX5_fitsAll_b61  (post : Int32 → St → St → Prop)  (u0 : St) (u1 : St) : Prop := post (0 : Int32) u0 u1
set_option maxRecDepth 100000 in
set_option maxHeartbeats 4000000 in
theorem kX5_fitsAll_b61 {C : Cx} {o0 : Nat} {a0 : Nat → Nat} {o1 : Nat} {a1 : Nat → Nat} (hC : Fx C cX5_fitsAll 7 RX5) (hR0 : xR C = rm 2) {post : Int32 → St → St → Prop} (hR : RZ C cX5_fitsAll 7 (fun u : St × St => (wX5 o0 a0 (xy C) u.1 (wX9 o1 a1 (xy C) u.2 []))) (fun r u => post r u.1 u.2))  {u0 : St} {u1 : St} (h : qX5_fitsAll_b61 post u0 u1) : G C 0 0 7 (wX5 o0 a0 (xy C) u0 (wX9 o1 a1 (xy C) u1 [])) 61 [] [] := by
  refine g_iconst (pc := 61) (v := 0) hC dX5_fitsAll_61 (by decide) ?_
  exact hR _ _ _ (u0, u1) dX5_fitsAll_62 (Or.inl rfl) h
def qX5_fitsAll_l3  (post : Int32 → St → St → Prop) (K3 : Int32 → Int32 → Int32 → Int32 → St → St → Prop) (x1 : Int32) (x3 : Int32) (x4 : Int32) (x5 : Int32) (u0 : St) (u1 : St) : Prop := ((x4 ≤ x5 → post (1 : Int32) u0 u1) ∧ (¬ x4 ≤ x5 → qX9_at x3 ((2 : Int32) * x5) u1 (fun r_12 u_11 => ∀ x6_14 : Int32, x6_14 = (r_12).toInt32 → qX11_within x6_14 (0 : Int32) (40 : Int32) (fun r_15 => ((r_15 = 0 → qX5_fitsAll_b61 post u0 u_11) ∧ (¬ r_15 = 0 → (vp_in ((x1 * (41 : Int32)) + x6_14) 820 ∧ qX9_at x3 (((2 : Int32) * x5) + (1 : Int32)) u_11 (fun r_19 u_18 => (((lg_cmp ((ga u0 0 (((x1 * (41 : Int32)) + x6_14)).toNatClampNeg)).toInt64 r_19) = 0 → ∀ x5_22 : Int32, x5_22 = x5 + (1 : Int32) → K3 x1 x3 x4 x5_22 u0 u_18) ∧ (¬ (lg_cmp ((ga u0 0 (((x1 * (41 : Int32)) + x6_14)).toNatClampNeg)).toInt64 r_19) = 0 → qX5_fitsAll_b61 post u0 u_18))))))))))
set_option maxRecDepth 100000 in
set_option maxHeartbeats 4000000 in
theorem kX5_fitsAll_l3 {C : Cx} {o0 : Nat} {a0 : Nat → Nat} {o1 : Nat} {a1 : Nat → Nat} (hC : Fx C cX5_fitsAll 7 RX5) (hR0 : xR C = rm 2) {post : Int32 → St → St → Prop} (hR : RZ C cX5_fitsAll 7 (fun u : St × St => (wX5 o0 a0 (xy C) u.1 (wX9 o1 a1 (xy C) u.2 []))) (fun r u => post r u.1 u.2))  {K3 : Int32 → Int32 → Int32 → Int32 → St → St → Prop} (hK3 : ∀ (x1 : Int32) (x3 : Int32) (x4 : Int32) (x5 : Int32) (u0 : St) (u1 : St), K3 x1 x3 x4 x5 u0 u1 → G C 0 0 7 (wX5 o0 a0 (xy C) u0 (wX9 o1 a1 (xy C) u1 [])) 3 [(0, .ref o0), (1, .int x1), (2, .ref o1), (3, .int x3), (4, .int x4), (5, .int x5)] []) {x1 : Int32} {x3 : Int32} {x4 : Int32} {x5 : Int32} {u0 : St} {u1 : St} (h : qX5_fitsAll_l3 post K3 x1 x3 x4 x5 u0 u1) : G C 0 0 7 (wX5 o0 a0 (xy C) u0 (wX9 o1 a1 (xy C) u1 [])) 3 [(0, .ref o0), (1, .int x1), (2, .ref o1), (3, .int x3), (4, .int x4), (5, .int x5)] [] := by
  refine g_iload (pc := 3) hC 5 dX5_fitsAll_3 rfl ?_
  refine g_iload (pc := 5) hC 4 dX5_fitsAll_5 rfl ?_
  refine g_icmp_ge (pc := 7) (tgt := 69) hC dX5_fitsAll_7 (by decide) (fun c_10 => ?_) (fun c_10 => ?_)
  · have h := h.1 c_10
    refine g_iconst (pc := 69) (v := 1) hC dX5_fitsAll_69 (by decide) ?_
    exact hR _ _ _ (u0, u1) dX5_fitsAll_70 (Or.inr rfl) h
  · have h := h.2 c_10
    refine g_aload_n (pc := 10) hC 2 dX5_fitsAll_10 rfl rfl ?_
    refine g_iload_n (pc := 11) hC 3 dX5_fitsAll_11 rfl rfl ?_
    refine g_iconst (pc := 12) (v := 2) hC dX5_fitsAll_12 (by decide) ?_
    refine g_iload (pc := 13) hC 5 dX5_fitsAll_13 rfl ?_
    refine g_imul (pc := 15) hC dX5_fitsAll_15 ?_
    refine g_callV_l (pc := 16) (wd := fun (u : St) Y => (wX9 o1 a1 (xy C) u Y)) (F := fun Z => (wX5 o0 a0 (xy C) u0 Z)) (X := (wX5 o0 a0 (xy C) u0 [])) (As := [.int x3, .int ((2 : Int32) * x5)]) (rest := []) (u := u1) hC (fun _ _ => rfl) (fun _ => rfl) (ctX9_at h) wvX9_at ml_X5_27 (ci := 8) (q0 := 0) rfl rfl rfl rfl (rmok hR0 rfl) ⟨Nat.zero_le _, Nat.zero_le _⟩ rfl (Nat.le_of_ble_eq_true rfl) dX5_fitsAll_16 (fun r_12 u_11 h => ?_)
    refine g_l2i (pc := 19) hC dX5_fitsAll_19 ?_
    refine g_topi (fun x6_14 ex6_14 => ?_)
    have h := h x6_14 ex6_14
    refine g_istore (pc := 20) (lv' := [(6, .int x6_14), (0, .ref o0), (1, .int x1), (2, .ref o1), (3, .int x3), (4, .int x4), (5, .int x5)]) hC dX5_fitsAll_20 (Nat.le_of_ble_eq_true rfl) rfl ?_
    refine g_iload (pc := 22) hC 0 dX5_fitsAll_22 rfl ?_
    refine g_iconst (pc := 24) (v := 0) hC dX5_fitsAll_24 (by decide) ?_
    refine g_bipush (pc := 25) (v := 40) hC dX5_fitsAll_25 (by decide) ?_
    refine g_callSN_i (pc := 27) (wd := fun (_ : Unit) Y => Y) (F := fun Z => Z) (X := []) (As := [.int x6_14, .int (0 : Int32), .int (40 : Int32)]) (rest := []) (u := ()) hC (fun _ _ => rfl) (fun _ => rfl) (ctX11_within h) wvX11_within nl_X5_33 rfl (rmok hR0 rfl) ⟨Nat.zero_le _, Nat.zero_le _⟩ rfl (Nat.le_of_ble_eq_true rfl) dX5_fitsAll_27 (fun r_15 u_16 h => ?_)
    refine g_if_eq (pc := 30) (tgt := 61) hC dX5_fitsAll_30 (by decide) (fun c_17 => ?_) (fun c_17 => ?_)
    · have h := h.1 c_17
      refine g_sub (lv' := []) [] rfl ?_
      exact kX5_fitsAll_b61 hC hR0 hR  h
    · have h := h.2 c_17
      refine g_aload_n (pc := 33) hC 1 dX5_fitsAll_33 rfl rfl ?_
      refine getX5_0 (pc := 34) hC (F := fun Z => Z) (X := []) (fun _ => rfl) fl_X5_11 dX5_fitsAll_34 ?_
      refine g_iload_n (pc := 37) hC 2 dX5_fitsAll_37 rfl rfl ?_
      refine g_bipush (pc := 38) (v := 41) hC dX5_fitsAll_38 (by decide) ?_
      refine g_imul (pc := 40) hC dX5_fitsAll_40 ?_
      refine g_iload (pc := 41) hC 0 dX5_fitsAll_41 rfl ?_
      refine g_iadd (pc := 43) hC dX5_fitsAll_43 ?_
      refine aldX5_0 (pc := 44) hC (F := fun Z => Z) (X := []) (fun _ => rfl) h.1 dX5_fitsAll_44 ?_
      have h := h.2
      refine g_i2l (pc := 45) hC dX5_fitsAll_45 ?_
      refine g_aload_n (pc := 46) hC 3 dX5_fitsAll_46 rfl rfl ?_
      refine g_iload_n (pc := 47) hC 4 dX5_fitsAll_47 rfl rfl ?_
      refine g_iconst (pc := 48) (v := 2) hC dX5_fitsAll_48 (by decide) ?_
      refine g_iload (pc := 49) hC 6 dX5_fitsAll_49 rfl ?_
      refine g_imul (pc := 51) hC dX5_fitsAll_51 ?_
      refine g_iconst (pc := 52) (v := 1) hC dX5_fitsAll_52 (by decide) ?_
      refine g_iadd (pc := 53) hC dX5_fitsAll_53 ?_
      refine g_callV_l (pc := 54) (wd := fun (u : St) Y => (wX9 o1 a1 (xy C) u Y)) (F := fun Z => (wX5 o0 a0 (xy C) u0 Z)) (X := (wX5 o0 a0 (xy C) u0 [])) (As := [.int x3, .int (((2 : Int32) * x5) + (1 : Int32))]) (rest := [.long ((ga u0 0 (((x1 * (41 : Int32)) + x6_14)).toNatClampNeg)).toInt64]) (u := u_11) hC (fun _ _ => rfl) (fun _ => rfl) (ctX9_at h) wvX9_at ml_X5_27 (ci := 8) (q0 := 0) rfl rfl rfl rfl (rmok hR0 rfl) ⟨Nat.zero_le _, Nat.zero_le _⟩ rfl (Nat.le_of_ble_eq_true rfl) dX5_fitsAll_54 (fun r_19 u_18 h => ?_)
      refine g_lcmp (pc := 57) hC dX5_fitsAll_57 ?_
      refine g_if_eq (pc := 58) (tgt := 63) hC dX5_fitsAll_58 (by decide) (fun c_21 => ?_) (fun c_21 => ?_)
      · have h := h.1 c_21
        obtain ⟨x5_22, ex5_22⟩ : ∃ z : Int32, z = x5 + (1 : Int32) := ⟨_, rfl⟩
        have h := h x5_22 ex5_22
        refine g_iinc (pc := 63) (v := x5_22) (lv' := [(5, .int x5_22), (6, .int x6_14), (0, .ref o0), (1, .int x1), (2, .ref o1), (3, .int x3), (4, .int x4)]) hC 6 dX5_fitsAll_63 rfl (by rw [ex5_22]; rfl) (Nat.le_of_ble_eq_true rfl) rfl ?_
        refine g_goto (pc := 66) (tgt := 3) hC dX5_fitsAll_66 (by decide) ?_
        refine g_sub (lv' := [(0, .ref o0), (1, .int x1), (2, .ref o1), (3, .int x3), (4, .int x4), (5, .int x5_22)]) [2, 3, 4, 5, 6, 0] rfl ?_
        exact hK3 _ _ _ _ _ _ h
      · have h := h.2 c_21
        refine g_sub (lv' := []) [] rfl ?_
        exact kX5_fitsAll_b61 hC hR0 hR  h
def qX5_fitsAll_L3  (post : Int32 → St → St → Prop)  : Nat → Int32 → Int32 → Int32 → Int32 → St → St → Prop
  | 0 => fun _ _ _ _ _ _ => False
  | n + 1 => qX5_fitsAll_l3 post (qX5_fitsAll_L3 post n)
theorem kX5_fitsAll_L3 {C : Cx} {o0 : Nat} {a0 : Nat → Nat} {o1 : Nat} {a1 : Nat → Nat} (hC : Fx C cX5_fitsAll 7 RX5) (hR0 : xR C = rm 2) {post : Int32 → St → St → Prop} (hR : RZ C cX5_fitsAll 7 (fun u : St × St => (wX5 o0 a0 (xy C) u.1 (wX9 o1 a1 (xy C) u.2 []))) (fun r u => post r u.1 u.2))  : ∀ (n : Nat) (x1 : Int32) (x3 : Int32) (x4 : Int32) (x5 : Int32) (u0 : St) (u1 : St), qX5_fitsAll_L3 post n x1 x3 x4 x5 u0 u1 → G C 0 0 7 (wX5 o0 a0 (xy C) u0 (wX9 o1 a1 (xy C) u1 [])) 3 [(0, .ref o0), (1, .int x1), (2, .ref o1), (3, .int x3), (4, .int x4), (5, .int x5)] [] := by
  intro n
  induction n with
  | zero => intro x1 x3 x4 x5 u0 u1 h; exact h.elim
  | succ n ih => intro x1 x3 x4 x5 u0 u1 h; exact kX5_fitsAll_l3 hC hR0 hR  ih h
def qX5_fitsAll (x1 : Int32) (x3 : Int32) (x4 : Int32) (u0 : St) (u1 : St) (post : Int32 → St → St → Prop) : Prop := ∃ n_23 : Nat, qX5_fitsAll_L3 post n_23 x1 x3 x4 (0 : Int32) u0 u1
set_option maxRecDepth 100000 in
set_option maxHeartbeats 4000000 in
theorem kX5_fitsAll {C : Cx} {o0 : Nat} {a0 : Nat → Nat} {o1 : Nat} {a1 : Nat → Nat} (hC : Fx C cX5_fitsAll 7 RX5) (hR0 : xR C = rm 2) {post : Int32 → St → St → Prop} (hR : RZ C cX5_fitsAll 7 (fun u : St × St => (wX5 o0 a0 (xy C) u.1 (wX9 o1 a1 (xy C) u.2 []))) (fun r u => post r u.1 u.2)) {x1 : Int32} {x3 : Int32} {x4 : Int32} {u0 : St} {u1 : St} (h : qX5_fitsAll x1 x3 x4 u0 u1 post) : G C 0 0 7 (wX5 o0 a0 (xy C) u0 (wX9 o1 a1 (xy C) u1 [])) 0 [(0, .ref o0), (1, .int x1), (2, .ref o1), (3, .int x3), (4, .int x4)] [] := by
  refine g_iconst (pc := 0) (v := 0) hC dX5_fitsAll_0 (by decide) ?_
  refine g_istore (pc := 1) (lv' := [(5, .int (0 : Int32)), (0, .ref o0), (1, .int x1), (2, .ref o1), (3, .int x3), (4, .int x4)]) hC dX5_fitsAll_1 (Nat.le_of_ble_eq_true rfl) rfl ?_
  refine g_sub (lv' := [(0, .ref o0), (1, .int x1), (2, .ref o1), (3, .int x3), (4, .int x4), (5, .int (0 : Int32))]) [1, 2, 3, 4, 5, 0] rfl ?_
  obtain ⟨n_23, h⟩ := h
  exact kX5_fitsAll_L3 hC hR0 hR  n_23 _ _ _ _ _ _ h
theorem ctX5_fitsAll {l : Launch} {D : va_G} {cy : Nat → ClassId} {kd : Nat → Nat} {o0 : Nat} {a0 : Nat → Nat} {o1 : Nat} {a1 : Nat → Nat} {x1 : Int32} {x3 : Int32} {x4 : Int32} {u0 : St} {u1 : St} {post : Int32 → St → St → Prop} (h : qX5_fitsAll x1 x3 x4 u0 u1 post) : CtI l D cy kd yX5_fitsAll cX5_fitsAll 7 2 .boolean [.ref o0, .int x1, .ref o1, .int x3, .int x4] (fun u : St × St => (wX5 o0 a0 cy u.1 (wX9 o1 a1 cy u.2 []))) (u0, u1) (fun r u => post r u.1 u.2) := met_z (by decide) (Nat.le_of_ble_eq_true rfl) (fun C e1 e2 e3 e4 e5 hC hR => by subst e1 e2 e3 e4; exact kX5_fitsAll hC e5 hR h)
theorem dX5_fitting_0 : decode cX5_fitting 0 = .ok (.iconst 0, 1) := by decide +kernel
theorem dX5_fitting_1 : decode cX5_fitting 1 = .ok (.istore 5, 2) := by decide +kernel
theorem dX5_fitting_3 : decode cX5_fitting 3 = .ok (.iconst 0, 1) := by decide +kernel
theorem dX5_fitting_4 : decode cX5_fitting 4 = .ok (.istore 6, 2) := by decide +kernel
theorem dX5_fitting_6 : decode cX5_fitting 6 = .ok (.iload 6, 2) := by decide +kernel
theorem dX5_fitting_8 : decode cX5_fitting 8 = .ok (.bipush 20, 2) := by decide +kernel
theorem dX5_fitting_10 : decode cX5_fitting 10 = .ok (.if_icmp .ge 38, 3) := by decide +kernel
theorem dX5_fitting_13 : decode cX5_fitting 13 = .ok (.aload_n 0, 1) := by decide +kernel
theorem dX5_fitting_14 : decode cX5_fitting 14 = .ok (.iload_n 1, 1) := by decide +kernel
theorem dX5_fitting_15 : decode cX5_fitting 15 = .ok (.iload 6, 2) := by decide +kernel
theorem dX5_fitting_17 : decode cX5_fitting 17 = .ok (.invokevirtual 15, 3) := by decide +kernel
theorem dX5_fitting_20 : decode cX5_fitting 20 = .ok (.aload_n 0, 1) := by decide +kernel
theorem dX5_fitting_21 : decode cX5_fitting 21 = .ok (.iload 6, 2) := by decide +kernel
theorem dX5_fitting_23 : decode cX5_fitting 23 = .ok (.aload_n 2, 1) := by decide +kernel
theorem dX5_fitting_24 : decode cX5_fitting 24 = .ok (.iload_n 3, 1) := by decide +kernel
theorem dX5_fitting_25 : decode cX5_fitting 25 = .ok (.iload 4, 2) := by decide +kernel
theorem dX5_fitting_27 : decode cX5_fitting 27 = .ok (.invokevirtual 19, 3) := by decide +kernel
theorem dX5_fitting_30 : decode cX5_fitting 30 = .ok (.ifCond .eq 12, 3) := by decide +kernel
theorem dX5_fitting_33 : decode cX5_fitting 33 = .ok (.iload 5, 2) := by decide +kernel
theorem dX5_fitting_35 : decode cX5_fitting 35 = .ok (.iconst 1, 1) := by decide +kernel
theorem dX5_fitting_36 : decode cX5_fitting 36 = .ok (.iload 6, 2) := by decide +kernel
theorem dX5_fitting_38 : decode cX5_fitting 38 = .ok (.ishl, 1) := by decide +kernel
theorem dX5_fitting_39 : decode cX5_fitting 39 = .ok (.ior, 1) := by decide +kernel
theorem dX5_fitting_40 : decode cX5_fitting 40 = .ok (.istore 5, 2) := by decide +kernel
theorem dX5_fitting_42 : decode cX5_fitting 42 = .ok (.iinc 6 1, 3) := by decide +kernel
theorem dX5_fitting_45 : decode cX5_fitting 45 = .ok (.goto (-39), 3) := by decide +kernel
theorem dX5_fitting_48 : decode cX5_fitting 48 = .ok (.iload 5, 2) := by decide +kernel
theorem dX5_fitting_50 : decode cX5_fitting 50 = .ok (.ireturn, 1) := by decide +kernel
def qX5_fitting_b42  (post : Int32 → St → St → Prop) (K6 : Int32 → Int32 → Int32 → Int32 → Int32 → St → St → Prop) (x1 : Int32) (x3 : Int32) (x4 : Int32) (x5 : Int32) (x6 : Int32) (u0 : St) (u1 : St) : Prop := ∀ x6_8 : Int32, x6_8 = x6 + (1 : Int32) → K6 x1 x3 x4 x5 x6_8 u0 u1
set_option maxRecDepth 100000 in
set_option maxHeartbeats 4000000 in
theorem kX5_fitting_b42 {C : Cx} {o0 : Nat} {a0 : Nat → Nat} {o1 : Nat} {a1 : Nat → Nat} (hC : Fx C cX5_fitting 7 RX5) (hR0 : xR C = rm 4) {post : Int32 → St → St → Prop} (hR : RI C cX5_fitting 7 (fun u : St × St => (wX5 o0 a0 (xy C) u.1 (wX9 o1 a1 (xy C) u.2 []))) (fun r u => post r u.1 u.2)) {K6 : Int32 → Int32 → Int32 → Int32 → Int32 → St → St → Prop} (hK6 : ∀ (x1 : Int32) (x3 : Int32) (x4 : Int32) (x5 : Int32) (x6 : Int32) (u0 : St) (u1 : St), K6 x1 x3 x4 x5 x6 u0 u1 → G C 0 0 7 (wX5 o0 a0 (xy C) u0 (wX9 o1 a1 (xy C) u1 [])) 6 [(0, .ref o0), (1, .int x1), (2, .ref o1), (3, .int x3), (4, .int x4), (5, .int x5), (6, .int x6)] []) {x1 : Int32} {x3 : Int32} {x4 : Int32} {x5 : Int32} {x6 : Int32} {u0 : St} {u1 : St} (h : qX5_fitting_b42 post K6 x1 x3 x4 x5 x6 u0 u1) : G C 0 0 7 (wX5 o0 a0 (xy C) u0 (wX9 o1 a1 (xy C) u1 [])) 42 [(0, .ref o0), (1, .int x1), (2, .ref o1), (3, .int x3), (4, .int x4), (5, .int x5), (6, .int x6)] [] := by
  obtain ⟨x6_8, ex6_8⟩ : ∃ z : Int32, z = x6 + (1 : Int32) := ⟨_, rfl⟩
  have h := h x6_8 ex6_8
  refine g_iinc (pc := 42) (v := x6_8) (lv' := [(6, .int x6_8), (0, .ref o0), (1, .int x1), (2, .ref o1), (3, .int x3), (4, .int x4), (5, .int x5)]) hC 6 dX5_fitting_42 rfl (by rw [ex6_8]; rfl) (Nat.le_of_ble_eq_true rfl) rfl ?_
  refine g_goto (pc := 45) (tgt := 6) hC dX5_fitting_45 (by decide) ?_
  refine g_sub (lv' := [(0, .ref o0), (1, .int x1), (2, .ref o1), (3, .int x3), (4, .int x4), (5, .int x5), (6, .int x6_8)]) [1, 2, 3, 4, 5, 6, 0] rfl ?_
  exact hK6 _ _ _ _ _ _ _ h
def qX5_fitting_l6  (post : Int32 → St → St → Prop) (K6 : Int32 → Int32 → Int32 → Int32 → Int32 → St → St → Prop) (x1 : Int32) (x3 : Int32) (x4 : Int32) (x5 : Int32) (x6 : Int32) (u0 : St) (u1 : St) : Prop := (((20 : Int32) ≤ x6 → post x5 u0 u1) ∧ (¬ (20 : Int32) ≤ x6 → qX5_grow x1 x6 u0 (fun u_10 => qX5_fitsAll x6 x3 x4 u_10 u1 (fun r_14 u_12 u_13 => ((r_14 = 0 → qX5_fitting_b42 post K6 x1 x3 x4 x5 x6 u_12 u_13) ∧ (¬ r_14 = 0 → ∀ x5_17 : Int32, x5_17 = (x5 ||| ((1 : Int32) <<< (x6 &&& 31))) → qX5_fitting_b42 post K6 x1 x3 x4 x5_17 x6 u_12 u_13))))))
set_option maxRecDepth 100000 in
set_option maxHeartbeats 4000000 in
theorem kX5_fitting_l6 {C : Cx} {o0 : Nat} {a0 : Nat → Nat} {o1 : Nat} {a1 : Nat → Nat} (hC : Fx C cX5_fitting 7 RX5) (hR0 : xR C = rm 4) {post : Int32 → St → St → Prop} (hR : RI C cX5_fitting 7 (fun u : St × St => (wX5 o0 a0 (xy C) u.1 (wX9 o1 a1 (xy C) u.2 []))) (fun r u => post r u.1 u.2))  {K6 : Int32 → Int32 → Int32 → Int32 → Int32 → St → St → Prop} (hK6 : ∀ (x1 : Int32) (x3 : Int32) (x4 : Int32) (x5 : Int32) (x6 : Int32) (u0 : St) (u1 : St), K6 x1 x3 x4 x5 x6 u0 u1 → G C 0 0 7 (wX5 o0 a0 (xy C) u0 (wX9 o1 a1 (xy C) u1 [])) 6 [(0, .ref o0), (1, .int x1), (2, .ref o1), (3, .int x3), (4, .int x4), (5, .int x5), (6, .int x6)] []) {x1 : Int32} {x3 : Int32} {x4 : Int32} {x5 : Int32} {x6 : Int32} {u0 : St} {u1 : St} (h : qX5_fitting_l6 post K6 x1 x3 x4 x5 x6 u0 u1) : G C 0 0 7 (wX5 o0 a0 (xy C) u0 (wX9 o1 a1 (xy C) u1 [])) 6 [(0, .ref o0), (1, .int x1), (2, .ref o1), (3, .int x3), (4, .int x4), (5, .int x5), (6, .int x6)] [] := by
  refine g_iload (pc := 6) hC 6 dX5_fitting_6 rfl ?_
  refine g_bipush (pc := 8) (v := 20) hC dX5_fitting_8 (by decide) ?_
  refine g_icmp_ge (pc := 10) (tgt := 48) hC dX5_fitting_10 (by decide) (fun c_9 => ?_) (fun c_9 => ?_)
  · have h := h.1 c_9
    refine g_iload (pc := 48) hC 5 dX5_fitting_48 rfl ?_
    exact hR _ _ _ (u0, u1) dX5_fitting_50 h
  · have h := h.2 c_9
    refine g_aload_n (pc := 13) hC 0 dX5_fitting_13 rfl rfl ?_
    refine g_iload_n (pc := 14) hC 1 dX5_fitting_14 rfl rfl ?_
    refine g_iload (pc := 15) hC 6 dX5_fitting_15 rfl ?_
    refine g_callV_v (pc := 17) (wd := fun (u : St) Y => (wX5 o0 a0 (xy C) u Y)) (F := fun Z => Z) (X := []) (As := [.int x1, .int x6]) (rest := []) (u := u0) hC (fun _ _ => rfl) (fun _ => rfl) (ctX5_grow h) wvX5_grow ml_X5_15 (ci := 4) (q0 := 0) rfl rfl rfl rfl (rmok hR0 rfl) ⟨Nat.zero_le _, Nat.zero_le _⟩ rfl (Nat.le_of_ble_eq_true rfl) dX5_fitting_17 (fun u_10 h => ?_)
    refine g_aload_n (pc := 20) hC 0 dX5_fitting_20 rfl rfl ?_
    refine g_iload (pc := 21) hC 6 dX5_fitting_21 rfl ?_
    refine g_aload_n (pc := 23) hC 2 dX5_fitting_23 rfl rfl ?_
    refine g_iload_n (pc := 24) hC 3 dX5_fitting_24 rfl rfl ?_
    refine g_iload (pc := 25) hC 4 dX5_fitting_25 rfl ?_
    refine g_callV_i (pc := 27) (wd := fun (u : St × St) Y => (wX5 o0 a0 (xy C) u.1 (wX9 o1 a1 (xy C) u.2 Y))) (F := fun Z => Z) (X := []) (As := [.int x6, .ref o1, .int x3, .int x4]) (rest := []) (u := (u_10, u1)) hC (fun _ _ => rfl) (fun _ => rfl) (ctX5_fitsAll h) wvX5_fitsAll ml_X5_19 (ci := 4) (q0 := 0) rfl rfl rfl rfl (rmok hR0 rfl) ⟨Nat.zero_le _, Nat.zero_le _⟩ rfl (Nat.le_of_ble_eq_true rfl) dX5_fitting_27 (fun r_14 u_15 h => ?_)
    obtain ⟨u_12, u_13⟩ := u_15
    refine g_if_eq (pc := 30) (tgt := 42) hC dX5_fitting_30 (by decide) (fun c_16 => ?_) (fun c_16 => ?_)
    · have h := h.1 c_16
      exact kX5_fitting_b42 hC hR0 hR hK6 h
    · have h := h.2 c_16
      refine g_iload (pc := 33) hC 5 dX5_fitting_33 rfl ?_
      refine g_iconst (pc := 35) (v := 1) hC dX5_fitting_35 (by decide) ?_
      refine g_iload (pc := 36) hC 6 dX5_fitting_36 rfl ?_
      refine g_ishl (pc := 38) hC dX5_fitting_38 ?_
      refine g_ior (pc := 39) hC dX5_fitting_39 ?_
      refine g_topi (fun x5_17 ex5_17 => ?_)
      have h := h x5_17 ex5_17
      refine g_istore (pc := 40) (lv' := [(5, .int x5_17), (0, .ref o0), (1, .int x1), (2, .ref o1), (3, .int x3), (4, .int x4), (6, .int x6)]) hC dX5_fitting_40 (Nat.le_of_ble_eq_true rfl) rfl ?_
      refine g_sub (lv' := [(0, .ref o0), (1, .int x1), (2, .ref o1), (3, .int x3), (4, .int x4), (5, .int x5_17), (6, .int x6)]) [1, 2, 3, 4, 5, 0, 6] rfl ?_
      exact kX5_fitting_b42 hC hR0 hR hK6 h
def qX5_fitting_L6  (post : Int32 → St → St → Prop)  : Nat → Int32 → Int32 → Int32 → Int32 → Int32 → St → St → Prop
  | 0 => fun _ _ _ _ _ _ _ => False
  | n + 1 => qX5_fitting_l6 post (qX5_fitting_L6 post n)
theorem kX5_fitting_L6 {C : Cx} {o0 : Nat} {a0 : Nat → Nat} {o1 : Nat} {a1 : Nat → Nat} (hC : Fx C cX5_fitting 7 RX5) (hR0 : xR C = rm 4) {post : Int32 → St → St → Prop} (hR : RI C cX5_fitting 7 (fun u : St × St => (wX5 o0 a0 (xy C) u.1 (wX9 o1 a1 (xy C) u.2 []))) (fun r u => post r u.1 u.2))  : ∀ (n : Nat) (x1 : Int32) (x3 : Int32) (x4 : Int32) (x5 : Int32) (x6 : Int32) (u0 : St) (u1 : St), qX5_fitting_L6 post n x1 x3 x4 x5 x6 u0 u1 → G C 0 0 7 (wX5 o0 a0 (xy C) u0 (wX9 o1 a1 (xy C) u1 [])) 6 [(0, .ref o0), (1, .int x1), (2, .ref o1), (3, .int x3), (4, .int x4), (5, .int x5), (6, .int x6)] [] := by
  intro n
  induction n with
  | zero => intro x1 x3 x4 x5 x6 u0 u1 h; exact h.elim
  | succ n ih => intro x1 x3 x4 x5 x6 u0 u1 h; exact kX5_fitting_l6 hC hR0 hR  ih h
def qX5_fitting (x1 : Int32) (x3 : Int32) (x4 : Int32) (u0 : St) (u1 : St) (post : Int32 → St → St → Prop) : Prop := ∃ n_18 : Nat, qX5_fitting_L6 post n_18 x1 x3 x4 (0 : Int32) (0 : Int32) u0 u1
set_option maxRecDepth 100000 in
set_option maxHeartbeats 4000000 in
theorem kX5_fitting {C : Cx} {o0 : Nat} {a0 : Nat → Nat} {o1 : Nat} {a1 : Nat → Nat} (hC : Fx C cX5_fitting 7 RX5) (hR0 : xR C = rm 4) {post : Int32 → St → St → Prop} (hR : RI C cX5_fitting 7 (fun u : St × St => (wX5 o0 a0 (xy C) u.1 (wX9 o1 a1 (xy C) u.2 []))) (fun r u => post r u.1 u.2)) {x1 : Int32} {x3 : Int32} {x4 : Int32} {u0 : St} {u1 : St} (h : qX5_fitting x1 x3 x4 u0 u1 post) : G C 0 0 7 (wX5 o0 a0 (xy C) u0 (wX9 o1 a1 (xy C) u1 [])) 0 [(0, .ref o0), (1, .int x1), (2, .ref o1), (3, .int x3), (4, .int x4)] [] := by
  refine g_iconst (pc := 0) (v := 0) hC dX5_fitting_0 (by decide) ?_
  refine g_istore (pc := 1) (lv' := [(5, .int (0 : Int32)), (0, .ref o0), (1, .int x1), (2, .ref o1), (3, .int x3), (4, .int x4)]) hC dX5_fitting_1 (Nat.le_of_ble_eq_true rfl) rfl ?_
  refine g_iconst (pc := 3) (v := 0) hC dX5_fitting_3 (by decide) ?_
  refine g_istore (pc := 4) (lv' := [(6, .int (0 : Int32)), (5, .int (0 : Int32)), (0, .ref o0), (1, .int x1), (2, .ref o1), (3, .int x3), (4, .int x4)]) hC dX5_fitting_4 (Nat.le_of_ble_eq_true rfl) rfl ?_
  refine g_sub (lv' := [(0, .ref o0), (1, .int x1), (2, .ref o1), (3, .int x3), (4, .int x4), (5, .int (0 : Int32)), (6, .int (0 : Int32))]) [2, 3, 4, 5, 6, 1, 0] rfl ?_
  obtain ⟨n_18, h⟩ := h
  exact kX5_fitting_L6 hC hR0 hR  n_18 _ _ _ _ _ _ _ h
theorem ctX5_fitting {l : Launch} {D : va_G} {cy : Nat → ClassId} {kd : Nat → Nat} {o0 : Nat} {a0 : Nat → Nat} {o1 : Nat} {a1 : Nat → Nat} {x1 : Int32} {x3 : Int32} {x4 : Int32} {u0 : St} {u1 : St} {post : Int32 → St → St → Prop} (h : qX5_fitting x1 x3 x4 u0 u1 post) : CtI l D cy kd yX5_fitting cX5_fitting 7 4 .int [.ref o0, .int x1, .ref o1, .int x3, .int x4] (fun u : St × St => (wX5 o0 a0 cy u.1 (wX9 o1 a1 cy u.2 []))) (u0, u1) (fun r u => post r u.1 u.2) := met_i (by decide) (Nat.le_of_ble_eq_true rfl) (fun C e1 e2 e3 e4 e5 hC hR => by subst e1 e2 e3 e4; exact kX5_fitting hC e5 hR h)
theorem dX5_countAlike_0 : decode cX5_countAlike 0 = .ok (.iconst 0, 1) := by decide +kernel
theorem dX5_countAlike_1 : decode cX5_countAlike 1 = .ok (.istore 4, 2) := by decide +kernel
theorem dX5_countAlike_3 : decode cX5_countAlike 3 = .ok (.iload_n 3, 1) := by decide +kernel
theorem dX5_countAlike_4 : decode cX5_countAlike 4 = .ok (.istore 5, 2) := by decide +kernel
theorem dX5_countAlike_6 : decode cX5_countAlike 6 = .ok (.iload 5, 2) := by decide +kernel
theorem dX5_countAlike_8 : decode cX5_countAlike 8 = .ok (.bipush 20, 2) := by decide +kernel
theorem dX5_countAlike_10 : decode cX5_countAlike 10 = .ok (.if_icmp .ge 47, 3) := by decide +kernel
theorem dX5_countAlike_13 : decode cX5_countAlike 13 = .ok (.iload_n 1, 1) := by decide +kernel
theorem dX5_countAlike_14 : decode cX5_countAlike 14 = .ok (.iload 5, 2) := by decide +kernel
theorem dX5_countAlike_16 : decode cX5_countAlike 16 = .ok (.invokestatic 41, 3) := by decide +kernel
theorem dX5_countAlike_19 : decode cX5_countAlike 19 = .ok (.ifCond .eq 32, 3) := by decide +kernel
theorem dX5_countAlike_22 : decode cX5_countAlike 22 = .ok (.aload_n 0, 1) := by decide +kernel
theorem dX5_countAlike_23 : decode cX5_countAlike 23 = .ok (.getfield 11, 3) := by decide +kernel
theorem dX5_countAlike_26 : decode cX5_countAlike 26 = .ok (.iload 5, 2) := by decide +kernel
theorem dX5_countAlike_28 : decode cX5_countAlike 28 = .ok (.bipush 41, 2) := by decide +kernel
theorem dX5_countAlike_30 : decode cX5_countAlike 30 = .ok (.imul, 1) := by decide +kernel
theorem dX5_countAlike_31 : decode cX5_countAlike 31 = .ok (.iload_n 2, 1) := by decide +kernel
theorem dX5_countAlike_32 : decode cX5_countAlike 32 = .ok (.iadd, 1) := by decide +kernel
theorem dX5_countAlike_33 : decode cX5_countAlike 33 = .ok (.iaload, 1) := by decide +kernel
theorem dX5_countAlike_34 : decode cX5_countAlike 34 = .ok (.aload_n 0, 1) := by decide +kernel
theorem dX5_countAlike_35 : decode cX5_countAlike 35 = .ok (.getfield 11, 3) := by decide +kernel
theorem dX5_countAlike_38 : decode cX5_countAlike 38 = .ok (.iload_n 3, 1) := by decide +kernel
theorem dX5_countAlike_39 : decode cX5_countAlike 39 = .ok (.bipush 41, 2) := by decide +kernel
theorem dX5_countAlike_41 : decode cX5_countAlike 41 = .ok (.imul, 1) := by decide +kernel
theorem dX5_countAlike_42 : decode cX5_countAlike 42 = .ok (.iload_n 2, 1) := by decide +kernel
theorem dX5_countAlike_43 : decode cX5_countAlike 43 = .ok (.iadd, 1) := by decide +kernel
theorem dX5_countAlike_44 : decode cX5_countAlike 44 = .ok (.iaload, 1) := by decide +kernel
theorem dX5_countAlike_45 : decode cX5_countAlike 45 = .ok (.if_icmp .ne 6, 3) := by decide +kernel
theorem dX5_countAlike_48 : decode cX5_countAlike 48 = .ok (.iinc 4 1, 3) := by decide +kernel
theorem dX5_countAlike_51 : decode cX5_countAlike 51 = .ok (.iinc 5 1, 3) := by decide +kernel
theorem dX5_countAlike_54 : decode cX5_countAlike 54 = .ok (.goto (-48), 3) := by decide +kernel
theorem dX5_countAlike_57 : decode cX5_countAlike 57 = .ok (.iload 4, 2) := by decide +kernel
theorem dX5_countAlike_59 : decode cX5_countAlike 59 = .ok (.ireturn, 1) := by decide +kernel
def qX5_countAlike_b51  (post : Int32 → St → Prop) (K6 : Int32 → Int32 → Int32 → Int32 → Int32 → St → Prop) (x1 : Int32) (x2 : Int32) (x3 : Int32) (x4 : Int32) (x5 : Int32) (u0 : St) : Prop := ∀ x5_5 : Int32, x5_5 = x5 + (1 : Int32) → K6 x1 x2 x3 x4 x5_5 u0
set_option maxRecDepth 100000 in
set_option maxHeartbeats 4000000 in
theorem kX5_countAlike_b51 {C : Cx} {o0 : Nat} {a0 : Nat → Nat} (hC : Fx C cX5_countAlike 6 RX5) (hR0 : xR C = rm 2) {post : Int32 → St → Prop} (hR : RI C cX5_countAlike 6 (fun u : St => (wX5 o0 a0 (xy C) u [])) (fun r u => post r u)) {K6 : Int32 → Int32 → Int32 → Int32 → Int32 → St → Prop} (hK6 : ∀ (x1 : Int32) (x2 : Int32) (x3 : Int32) (x4 : Int32) (x5 : Int32) (u0 : St), K6 x1 x2 x3 x4 x5 u0 → G C 0 0 6 (wX5 o0 a0 (xy C) u0 []) 6 [(0, .ref o0), (1, .int x1), (2, .int x2), (3, .int x3), (4, .int x4), (5, .int x5)] []) {x1 : Int32} {x2 : Int32} {x3 : Int32} {x4 : Int32} {x5 : Int32} {u0 : St} (h : qX5_countAlike_b51 post K6 x1 x2 x3 x4 x5 u0) : G C 0 0 6 (wX5 o0 a0 (xy C) u0 []) 51 [(0, .ref o0), (1, .int x1), (2, .int x2), (3, .int x3), (4, .int x4), (5, .int x5)] [] := by
  obtain ⟨x5_5, ex5_5⟩ : ∃ z : Int32, z = x5 + (1 : Int32) := ⟨_, rfl⟩
  have h := h x5_5 ex5_5
  refine g_iinc (pc := 51) (v := x5_5) (lv' := [(5, .int x5_5), (0, .ref o0), (1, .int x1), (2, .int x2), (3, .int x3), (4, .int x4)]) hC 5 dX5_countAlike_51 rfl (by rw [ex5_5]; rfl) (Nat.le_of_ble_eq_true rfl) rfl ?_
  refine g_goto (pc := 54) (tgt := 6) hC dX5_countAlike_54 (by decide) ?_
  refine g_sub (lv' := [(0, .ref o0), (1, .int x1), (2, .int x2), (3, .int x3), (4, .int x4), (5, .int x5_5)]) [1, 2, 3, 4, 5, 0] rfl ?_
  exact hK6 _ _ _ _ _ _ h
def qX5_countAlike_l6  (post : Int32 → St → Prop) (K6 : Int32 → Int32 → Int32 → Int32 → Int32 → St → Prop) (x1 : Int32) (x2 : Int32) (x3 : Int32) (x4 : Int32) (x5 : Int32) (u0 : St) : Prop := (((20 : Int32) ≤ x5 → post x4 u0) ∧ (¬ (20 : Int32) ≤ x5 → qX11_has x1 x5 (fun r_7 => ((r_7 = 0 → qX5_countAlike_b51 post K6 x1 x2 x3 x4 x5 u0) ∧ (¬ r_7 = 0 → (vp_in ((x5 * (41 : Int32)) + x2) 820 ∧ (vp_in ((x3 * (41 : Int32)) + x2) 820 ∧ ((¬ (ga u0 0 (((x5 * (41 : Int32)) + x2)).toNatClampNeg) = (ga u0 0 (((x3 * (41 : Int32)) + x2)).toNatClampNeg) → qX5_countAlike_b51 post K6 x1 x2 x3 x4 x5 u0) ∧ ((ga u0 0 (((x5 * (41 : Int32)) + x2)).toNatClampNeg) = (ga u0 0 (((x3 * (41 : Int32)) + x2)).toNatClampNeg) → ∀ x4_11 : Int32, x4_11 = x4 + (1 : Int32) → qX5_countAlike_b51 post K6 x1 x2 x3 x4_11 x5 u0)))))))))
set_option maxRecDepth 100000 in
set_option maxHeartbeats 4000000 in
theorem kX5_countAlike_l6 {C : Cx} {o0 : Nat} {a0 : Nat → Nat} (hC : Fx C cX5_countAlike 6 RX5) (hR0 : xR C = rm 2) {post : Int32 → St → Prop} (hR : RI C cX5_countAlike 6 (fun u : St => (wX5 o0 a0 (xy C) u [])) (fun r u => post r u))  {K6 : Int32 → Int32 → Int32 → Int32 → Int32 → St → Prop} (hK6 : ∀ (x1 : Int32) (x2 : Int32) (x3 : Int32) (x4 : Int32) (x5 : Int32) (u0 : St), K6 x1 x2 x3 x4 x5 u0 → G C 0 0 6 (wX5 o0 a0 (xy C) u0 []) 6 [(0, .ref o0), (1, .int x1), (2, .int x2), (3, .int x3), (4, .int x4), (5, .int x5)] []) {x1 : Int32} {x2 : Int32} {x3 : Int32} {x4 : Int32} {x5 : Int32} {u0 : St} (h : qX5_countAlike_l6 post K6 x1 x2 x3 x4 x5 u0) : G C 0 0 6 (wX5 o0 a0 (xy C) u0 []) 6 [(0, .ref o0), (1, .int x1), (2, .int x2), (3, .int x3), (4, .int x4), (5, .int x5)] [] := by
  refine g_iload (pc := 6) hC 5 dX5_countAlike_6 rfl ?_
  refine g_bipush (pc := 8) (v := 20) hC dX5_countAlike_8 (by decide) ?_
  refine g_icmp_ge (pc := 10) (tgt := 57) hC dX5_countAlike_10 (by decide) (fun c_6 => ?_) (fun c_6 => ?_)
  · have h := h.1 c_6
    refine g_iload (pc := 57) hC 4 dX5_countAlike_57 rfl ?_
    exact hR _ _ _ u0 dX5_countAlike_59 h
  · have h := h.2 c_6
    refine g_iload_n (pc := 13) hC 1 dX5_countAlike_13 rfl rfl ?_
    refine g_iload (pc := 14) hC 5 dX5_countAlike_14 rfl ?_
    refine g_callSN_i (pc := 16) (wd := fun (_ : Unit) Y => Y) (F := fun Z => Z) (X := []) (As := [.int x1, .int x5]) (rest := []) (u := ()) hC (fun _ _ => rfl) (fun _ => rfl) (ctX11_has h) wvX11_has nl_X5_41 rfl (rmok hR0 rfl) ⟨Nat.zero_le _, Nat.zero_le _⟩ rfl (Nat.le_of_ble_eq_true rfl) dX5_countAlike_16 (fun r_7 u_8 h => ?_)
    refine g_if_eq (pc := 19) (tgt := 51) hC dX5_countAlike_19 (by decide) (fun c_9 => ?_) (fun c_9 => ?_)
    · have h := h.1 c_9
      exact kX5_countAlike_b51 hC hR0 hR hK6 h
    · have h := h.2 c_9
      refine g_aload_n (pc := 22) hC 0 dX5_countAlike_22 rfl rfl ?_
      refine getX5_0 (pc := 23) hC (F := fun Z => Z) (X := []) (fun _ => rfl) fl_X5_11 dX5_countAlike_23 ?_
      refine g_iload (pc := 26) hC 5 dX5_countAlike_26 rfl ?_
      refine g_bipush (pc := 28) (v := 41) hC dX5_countAlike_28 (by decide) ?_
      refine g_imul (pc := 30) hC dX5_countAlike_30 ?_
      refine g_iload_n (pc := 31) hC 2 dX5_countAlike_31 rfl rfl ?_
      refine g_iadd (pc := 32) hC dX5_countAlike_32 ?_
      refine aldX5_0 (pc := 33) hC (F := fun Z => Z) (X := []) (fun _ => rfl) h.1 dX5_countAlike_33 ?_
      have h := h.2
      refine g_aload_n (pc := 34) hC 0 dX5_countAlike_34 rfl rfl ?_
      refine getX5_0 (pc := 35) hC (F := fun Z => Z) (X := []) (fun _ => rfl) fl_X5_11 dX5_countAlike_35 ?_
      refine g_iload_n (pc := 38) hC 3 dX5_countAlike_38 rfl rfl ?_
      refine g_bipush (pc := 39) (v := 41) hC dX5_countAlike_39 (by decide) ?_
      refine g_imul (pc := 41) hC dX5_countAlike_41 ?_
      refine g_iload_n (pc := 42) hC 2 dX5_countAlike_42 rfl rfl ?_
      refine g_iadd (pc := 43) hC dX5_countAlike_43 ?_
      refine aldX5_0 (pc := 44) hC (F := fun Z => Z) (X := []) (fun _ => rfl) h.1 dX5_countAlike_44 ?_
      have h := h.2
      refine g_icmp_ne (pc := 45) (tgt := 51) hC dX5_countAlike_45 (by decide) (fun c_10 => ?_) (fun c_10 => ?_)
      · have h := h.1 c_10
        exact kX5_countAlike_b51 hC hR0 hR hK6 h
      · have h := h.2 c_10
        obtain ⟨x4_11, ex4_11⟩ : ∃ z : Int32, z = x4 + (1 : Int32) := ⟨_, rfl⟩
        have h := h x4_11 ex4_11
        refine g_iinc (pc := 48) (v := x4_11) (lv' := [(4, .int x4_11), (0, .ref o0), (1, .int x1), (2, .int x2), (3, .int x3), (5, .int x5)]) hC 4 dX5_countAlike_48 rfl (by rw [ex4_11]; rfl) (Nat.le_of_ble_eq_true rfl) rfl ?_
        refine g_sub (lv' := [(0, .ref o0), (1, .int x1), (2, .int x2), (3, .int x3), (4, .int x4_11), (5, .int x5)]) [1, 2, 3, 4, 0, 5] rfl ?_
        exact kX5_countAlike_b51 hC hR0 hR hK6 h
def qX5_countAlike_L6  (post : Int32 → St → Prop)  : Nat → Int32 → Int32 → Int32 → Int32 → Int32 → St → Prop
  | 0 => fun _ _ _ _ _ _ => False
  | n + 1 => qX5_countAlike_l6 post (qX5_countAlike_L6 post n)
theorem kX5_countAlike_L6 {C : Cx} {o0 : Nat} {a0 : Nat → Nat} (hC : Fx C cX5_countAlike 6 RX5) (hR0 : xR C = rm 2) {post : Int32 → St → Prop} (hR : RI C cX5_countAlike 6 (fun u : St => (wX5 o0 a0 (xy C) u [])) (fun r u => post r u))  : ∀ (n : Nat) (x1 : Int32) (x2 : Int32) (x3 : Int32) (x4 : Int32) (x5 : Int32) (u0 : St), qX5_countAlike_L6 post n x1 x2 x3 x4 x5 u0 → G C 0 0 6 (wX5 o0 a0 (xy C) u0 []) 6 [(0, .ref o0), (1, .int x1), (2, .int x2), (3, .int x3), (4, .int x4), (5, .int x5)] [] := by
  intro n
  induction n with
  | zero => intro x1 x2 x3 x4 x5 u0 h; exact h.elim
  | succ n ih => intro x1 x2 x3 x4 x5 u0 h; exact kX5_countAlike_l6 hC hR0 hR  ih h
def qX5_countAlike (x1 : Int32) (x2 : Int32) (x3 : Int32) (u0 : St) (post : Int32 → St → Prop) : Prop := ∃ n_12 : Nat, qX5_countAlike_L6 post n_12 x1 x2 x3 (0 : Int32) x3 u0
set_option maxRecDepth 100000 in
set_option maxHeartbeats 4000000 in
theorem kX5_countAlike {C : Cx} {o0 : Nat} {a0 : Nat → Nat} (hC : Fx C cX5_countAlike 6 RX5) (hR0 : xR C = rm 2) {post : Int32 → St → Prop} (hR : RI C cX5_countAlike 6 (fun u : St => (wX5 o0 a0 (xy C) u [])) (fun r u => post r u)) {x1 : Int32} {x2 : Int32} {x3 : Int32} {u0 : St} (h : qX5_countAlike x1 x2 x3 u0 post) : G C 0 0 6 (wX5 o0 a0 (xy C) u0 []) 0 [(0, .ref o0), (1, .int x1), (2, .int x2), (3, .int x3)] [] := by
  refine g_iconst (pc := 0) (v := 0) hC dX5_countAlike_0 (by decide) ?_
  refine g_istore (pc := 1) (lv' := [(4, .int (0 : Int32)), (0, .ref o0), (1, .int x1), (2, .int x2), (3, .int x3)]) hC dX5_countAlike_1 (Nat.le_of_ble_eq_true rfl) rfl ?_
  refine g_iload_n (pc := 3) hC 4 dX5_countAlike_3 rfl rfl ?_
  refine g_istore (pc := 4) (lv' := [(5, .int x3), (4, .int (0 : Int32)), (0, .ref o0), (1, .int x1), (2, .int x2), (3, .int x3)]) hC dX5_countAlike_4 (Nat.le_of_ble_eq_true rfl) rfl ?_
  refine g_sub (lv' := [(0, .ref o0), (1, .int x1), (2, .int x2), (3, .int x3), (4, .int (0 : Int32)), (5, .int x3)]) [2, 3, 4, 5, 1, 0] rfl ?_
  obtain ⟨n_12, h⟩ := h
  exact kX5_countAlike_L6 hC hR0 hR  n_12 _ _ _ _ _ _ h
theorem ctX5_countAlike {l : Launch} {D : va_G} {cy : Nat → ClassId} {kd : Nat → Nat} {o0 : Nat} {a0 : Nat → Nat} {x1 : Int32} {x2 : Int32} {x3 : Int32} {u0 : St} {post : Int32 → St → Prop} (h : qX5_countAlike x1 x2 x3 u0 post) : CtI l D cy kd yX5_countAlike cX5_countAlike 6 2 .int [.ref o0, .int x1, .int x2, .int x3] (fun u : St => (wX5 o0 a0 cy u [])) u0 (fun r u => post r u) := met_i (by decide) (Nat.le_of_ble_eq_true rfl) (fun C e1 e2 e3 e4 e5 hC hR => by subst e1 e2 e3 e4; exact kX5_countAlike hC e5 hR h)
theorem dX5_mostAlike_0 : decode cX5_mostAlike 0 = .ok (.iconst 0, 1) := by decide +kernel
theorem dX5_mostAlike_1 : decode cX5_mostAlike 1 = .ok (.istore_n 3, 1) := by decide +kernel
theorem dX5_mostAlike_2 : decode cX5_mostAlike 2 = .ok (.iconst 0, 1) := by decide +kernel
theorem dX5_mostAlike_3 : decode cX5_mostAlike 3 = .ok (.istore 4, 2) := by decide +kernel
theorem dX5_mostAlike_5 : decode cX5_mostAlike 5 = .ok (.iload 4, 2) := by decide +kernel
theorem dX5_mostAlike_7 : decode cX5_mostAlike 7 = .ok (.bipush 20, 2) := by decide +kernel
theorem dX5_mostAlike_9 : decode cX5_mostAlike 9 = .ok (.if_icmp .ge 31, 3) := by decide +kernel
theorem dX5_mostAlike_12 : decode cX5_mostAlike 12 = .ok (.iload_n 1, 1) := by decide +kernel
theorem dX5_mostAlike_13 : decode cX5_mostAlike 13 = .ok (.iload 4, 2) := by decide +kernel
theorem dX5_mostAlike_15 : decode cX5_mostAlike 15 = .ok (.invokestatic 41, 3) := by decide +kernel
theorem dX5_mostAlike_18 : decode cX5_mostAlike 18 = .ok (.ifCond .eq 16, 3) := by decide +kernel
theorem dX5_mostAlike_21 : decode cX5_mostAlike 21 = .ok (.iload_n 3, 1) := by decide +kernel
theorem dX5_mostAlike_22 : decode cX5_mostAlike 22 = .ok (.aload_n 0, 1) := by decide +kernel
theorem dX5_mostAlike_23 : decode cX5_mostAlike 23 = .ok (.iload_n 1, 1) := by decide +kernel
theorem dX5_mostAlike_24 : decode cX5_mostAlike 24 = .ok (.iload_n 2, 1) := by decide +kernel
theorem dX5_mostAlike_25 : decode cX5_mostAlike 25 = .ok (.iload 4, 2) := by decide +kernel
theorem dX5_mostAlike_27 : decode cX5_mostAlike 27 = .ok (.invokevirtual 45, 3) := by decide +kernel
theorem dX5_mostAlike_30 : decode cX5_mostAlike 30 = .ok (.invokestatic 49, 3) := by decide +kernel
theorem dX5_mostAlike_33 : decode cX5_mostAlike 33 = .ok (.istore_n 3, 1) := by decide +kernel
theorem dX5_mostAlike_34 : decode cX5_mostAlike 34 = .ok (.iinc 4 1, 3) := by decide +kernel
theorem dX5_mostAlike_37 : decode cX5_mostAlike 37 = .ok (.goto (-32), 3) := by decide +kernel
theorem dX5_mostAlike_40 : decode cX5_mostAlike 40 = .ok (.iload_n 3, 1) := by decide +kernel
theorem dX5_mostAlike_41 : decode cX5_mostAlike 41 = .ok (.ireturn, 1) := by decide +kernel
def qX5_mostAlike_b34  (post : Int32 → St → Prop) (K5 : Int32 → Int32 → Int32 → Int32 → St → Prop) (x1 : Int32) (x2 : Int32) (x3 : Int32) (x4 : Int32) (u0 : St) : Prop := ∀ x4_7 : Int32, x4_7 = x4 + (1 : Int32) → K5 x1 x2 x3 x4_7 u0
set_option maxRecDepth 100000 in
set_option maxHeartbeats 4000000 in
theorem kX5_mostAlike_b34 {C : Cx} {o0 : Nat} {a0 : Nat → Nat} (hC : Fx C cX5_mostAlike 5 RX5) (hR0 : xR C = rm 3) {post : Int32 → St → Prop} (hR : RI C cX5_mostAlike 5 (fun u : St => (wX5 o0 a0 (xy C) u [])) (fun r u => post r u)) {K5 : Int32 → Int32 → Int32 → Int32 → St → Prop} (hK5 : ∀ (x1 : Int32) (x2 : Int32) (x3 : Int32) (x4 : Int32) (u0 : St), K5 x1 x2 x3 x4 u0 → G C 0 0 5 (wX5 o0 a0 (xy C) u0 []) 5 [(0, .ref o0), (1, .int x1), (2, .int x2), (3, .int x3), (4, .int x4)] []) {x1 : Int32} {x2 : Int32} {x3 : Int32} {x4 : Int32} {u0 : St} (h : qX5_mostAlike_b34 post K5 x1 x2 x3 x4 u0) : G C 0 0 5 (wX5 o0 a0 (xy C) u0 []) 34 [(0, .ref o0), (1, .int x1), (2, .int x2), (3, .int x3), (4, .int x4)] [] := by
  obtain ⟨x4_7, ex4_7⟩ : ∃ z : Int32, z = x4 + (1 : Int32) := ⟨_, rfl⟩
  have h := h x4_7 ex4_7
  refine g_iinc (pc := 34) (v := x4_7) (lv' := [(4, .int x4_7), (0, .ref o0), (1, .int x1), (2, .int x2), (3, .int x3)]) hC 4 dX5_mostAlike_34 rfl (by rw [ex4_7]; rfl) (Nat.le_of_ble_eq_true rfl) rfl ?_
  refine g_goto (pc := 37) (tgt := 5) hC dX5_mostAlike_37 (by decide) ?_
  refine g_sub (lv' := [(0, .ref o0), (1, .int x1), (2, .int x2), (3, .int x3), (4, .int x4_7)]) [1, 2, 3, 4, 0] rfl ?_
  exact hK5 _ _ _ _ _ h
def qX5_mostAlike_l5  (post : Int32 → St → Prop) (K5 : Int32 → Int32 → Int32 → Int32 → St → Prop) (x1 : Int32) (x2 : Int32) (x3 : Int32) (x4 : Int32) (u0 : St) : Prop := (((20 : Int32) ≤ x4 → post x3 u0) ∧ (¬ (20 : Int32) ≤ x4 → qX11_has x1 x4 (fun r_9 => ((r_9 = 0 → qX5_mostAlike_b34 post K5 x1 x2 x3 x4 u0) ∧ (¬ r_9 = 0 → qX5_countAlike x1 x2 x4 u0 (fun r_13 u_12 => ∀ x3_15 : Int32, x3_15 = (if x3 < r_13 then r_13 else x3) → qX5_mostAlike_b34 post K5 x1 x2 x3_15 x4 u_12))))))
set_option maxRecDepth 100000 in
set_option maxHeartbeats 4000000 in
theorem kX5_mostAlike_l5 {C : Cx} {o0 : Nat} {a0 : Nat → Nat} (hC : Fx C cX5_mostAlike 5 RX5) (hR0 : xR C = rm 3) {post : Int32 → St → Prop} (hR : RI C cX5_mostAlike 5 (fun u : St => (wX5 o0 a0 (xy C) u [])) (fun r u => post r u))  {K5 : Int32 → Int32 → Int32 → Int32 → St → Prop} (hK5 : ∀ (x1 : Int32) (x2 : Int32) (x3 : Int32) (x4 : Int32) (u0 : St), K5 x1 x2 x3 x4 u0 → G C 0 0 5 (wX5 o0 a0 (xy C) u0 []) 5 [(0, .ref o0), (1, .int x1), (2, .int x2), (3, .int x3), (4, .int x4)] []) {x1 : Int32} {x2 : Int32} {x3 : Int32} {x4 : Int32} {u0 : St} (h : qX5_mostAlike_l5 post K5 x1 x2 x3 x4 u0) : G C 0 0 5 (wX5 o0 a0 (xy C) u0 []) 5 [(0, .ref o0), (1, .int x1), (2, .int x2), (3, .int x3), (4, .int x4)] [] := by
  refine g_iload (pc := 5) hC 4 dX5_mostAlike_5 rfl ?_
  refine g_bipush (pc := 7) (v := 20) hC dX5_mostAlike_7 (by decide) ?_
  refine g_icmp_ge (pc := 9) (tgt := 40) hC dX5_mostAlike_9 (by decide) (fun c_8 => ?_) (fun c_8 => ?_)
  · have h := h.1 c_8
    refine g_iload_n (pc := 40) hC 3 dX5_mostAlike_40 rfl rfl ?_
    exact hR _ _ _ u0 dX5_mostAlike_41 h
  · have h := h.2 c_8
    refine g_iload_n (pc := 12) hC 1 dX5_mostAlike_12 rfl rfl ?_
    refine g_iload (pc := 13) hC 4 dX5_mostAlike_13 rfl ?_
    refine g_callSN_i (pc := 15) (wd := fun (_ : Unit) Y => Y) (F := fun Z => Z) (X := []) (As := [.int x1, .int x4]) (rest := []) (u := ()) hC (fun _ _ => rfl) (fun _ => rfl) (ctX11_has h) wvX11_has nl_X5_41 rfl (rmok hR0 rfl) ⟨Nat.zero_le _, Nat.zero_le _⟩ rfl (Nat.le_of_ble_eq_true rfl) dX5_mostAlike_15 (fun r_9 u_10 h => ?_)
    refine g_if_eq (pc := 18) (tgt := 34) hC dX5_mostAlike_18 (by decide) (fun c_11 => ?_) (fun c_11 => ?_)
    · have h := h.1 c_11
      exact kX5_mostAlike_b34 hC hR0 hR hK5 h
    · have h := h.2 c_11
      refine g_iload_n (pc := 21) hC 3 dX5_mostAlike_21 rfl rfl ?_
      refine g_aload_n (pc := 22) hC 0 dX5_mostAlike_22 rfl rfl ?_
      refine g_iload_n (pc := 23) hC 1 dX5_mostAlike_23 rfl rfl ?_
      refine g_iload_n (pc := 24) hC 2 dX5_mostAlike_24 rfl rfl ?_
      refine g_iload (pc := 25) hC 4 dX5_mostAlike_25 rfl ?_
      refine g_callV_i (pc := 27) (wd := fun (u : St) Y => (wX5 o0 a0 (xy C) u Y)) (F := fun Z => Z) (X := []) (As := [.int x1, .int x2, .int x4]) (rest := [.int x3]) (u := u0) hC (fun _ _ => rfl) (fun _ => rfl) (ctX5_countAlike h) wvX5_countAlike ml_X5_45 (ci := 4) (q0 := 0) rfl rfl rfl rfl (rmok hR0 rfl) ⟨Nat.zero_le _, Nat.zero_le _⟩ rfl (Nat.le_of_ble_eq_true rfl) dX5_mostAlike_27 (fun r_13 u_12 h => ?_)
      refine g_mmax (pc := 30) hC hR0 ml_X5_49 dX5_mostAlike_30 (Nat.le_of_ble_eq_true rfl) ?_
      refine g_topi (fun x3_15 ex3_15 => ?_)
      have h := h x3_15 ex3_15
      refine g_istore_n (pc := 33) (lv' := [(3, .int x3_15), (0, .ref o0), (1, .int x1), (2, .int x2), (4, .int x4)]) hC dX5_mostAlike_33 rfl (Nat.le_of_ble_eq_true rfl) rfl ?_
      refine g_sub (lv' := [(0, .ref o0), (1, .int x1), (2, .int x2), (3, .int x3_15), (4, .int x4)]) [1, 2, 3, 0, 4] rfl ?_
      exact kX5_mostAlike_b34 hC hR0 hR hK5 h
def qX5_mostAlike_L5  (post : Int32 → St → Prop)  : Nat → Int32 → Int32 → Int32 → Int32 → St → Prop
  | 0 => fun _ _ _ _ _ => False
  | n + 1 => qX5_mostAlike_l5 post (qX5_mostAlike_L5 post n)
theorem kX5_mostAlike_L5 {C : Cx} {o0 : Nat} {a0 : Nat → Nat} (hC : Fx C cX5_mostAlike 5 RX5) (hR0 : xR C = rm 3) {post : Int32 → St → Prop} (hR : RI C cX5_mostAlike 5 (fun u : St => (wX5 o0 a0 (xy C) u [])) (fun r u => post r u))  : ∀ (n : Nat) (x1 : Int32) (x2 : Int32) (x3 : Int32) (x4 : Int32) (u0 : St), qX5_mostAlike_L5 post n x1 x2 x3 x4 u0 → G C 0 0 5 (wX5 o0 a0 (xy C) u0 []) 5 [(0, .ref o0), (1, .int x1), (2, .int x2), (3, .int x3), (4, .int x4)] [] := by
  intro n
  induction n with
  | zero => intro x1 x2 x3 x4 u0 h; exact h.elim
  | succ n ih => intro x1 x2 x3 x4 u0 h; exact kX5_mostAlike_l5 hC hR0 hR  ih h
def qX5_mostAlike (x1 : Int32) (x2 : Int32) (u0 : St) (post : Int32 → St → Prop) : Prop := ∃ n_16 : Nat, qX5_mostAlike_L5 post n_16 x1 x2 (0 : Int32) (0 : Int32) u0
set_option maxRecDepth 100000 in
set_option maxHeartbeats 4000000 in
theorem kX5_mostAlike {C : Cx} {o0 : Nat} {a0 : Nat → Nat} (hC : Fx C cX5_mostAlike 5 RX5) (hR0 : xR C = rm 3) {post : Int32 → St → Prop} (hR : RI C cX5_mostAlike 5 (fun u : St => (wX5 o0 a0 (xy C) u [])) (fun r u => post r u)) {x1 : Int32} {x2 : Int32} {u0 : St} (h : qX5_mostAlike x1 x2 u0 post) : G C 0 0 5 (wX5 o0 a0 (xy C) u0 []) 0 [(0, .ref o0), (1, .int x1), (2, .int x2)] [] := by
  refine g_iconst (pc := 0) (v := 0) hC dX5_mostAlike_0 (by decide) ?_
  refine g_istore_n (pc := 1) (lv' := [(3, .int (0 : Int32)), (0, .ref o0), (1, .int x1), (2, .int x2)]) hC dX5_mostAlike_1 rfl (Nat.le_of_ble_eq_true rfl) rfl ?_
  refine g_iconst (pc := 2) (v := 0) hC dX5_mostAlike_2 (by decide) ?_
  refine g_istore (pc := 3) (lv' := [(4, .int (0 : Int32)), (3, .int (0 : Int32)), (0, .ref o0), (1, .int x1), (2, .int x2)]) hC dX5_mostAlike_3 (Nat.le_of_ble_eq_true rfl) rfl ?_
  refine g_sub (lv' := [(0, .ref o0), (1, .int x1), (2, .int x2), (3, .int (0 : Int32)), (4, .int (0 : Int32))]) [2, 3, 4, 1, 0] rfl ?_
  obtain ⟨n_16, h⟩ := h
  exact kX5_mostAlike_L5 hC hR0 hR  n_16 _ _ _ _ _ h
theorem ctX5_mostAlike {l : Launch} {D : va_G} {cy : Nat → ClassId} {kd : Nat → Nat} {o0 : Nat} {a0 : Nat → Nat} {x1 : Int32} {x2 : Int32} {u0 : St} {post : Int32 → St → Prop} (h : qX5_mostAlike x1 x2 u0 post) : CtI l D cy kd yX5_mostAlike cX5_mostAlike 5 3 .int [.ref o0, .int x1, .int x2] (fun u : St => (wX5 o0 a0 cy u [])) u0 (fun r u => post r u) := met_i (by decide) (Nat.le_of_ble_eq_true rfl) (fun C e1 e2 e3 e4 e5 hC hR => by subst e1 e2 e3 e4; exact kX5_mostAlike hC e5 hR h)
theorem dX5_partingYears_0 : decode cX5_partingYears 0 = .ok (.iconst 1, 1) := by decide +kernel
theorem dX5_partingYears_1 : decode cX5_partingYears 1 = .ok (.istore_n 2, 1) := by decide +kernel
theorem dX5_partingYears_2 : decode cX5_partingYears 2 = .ok (.bipush 21, 2) := by decide +kernel
theorem dX5_partingYears_4 : decode cX5_partingYears 4 = .ok (.istore_n 3, 1) := by decide +kernel
theorem dX5_partingYears_5 : decode cX5_partingYears 5 = .ok (.iconst 1, 1) := by decide +kernel
theorem dX5_partingYears_6 : decode cX5_partingYears 6 = .ok (.istore 4, 2) := by decide +kernel
theorem dX5_partingYears_8 : decode cX5_partingYears 8 = .ok (.iload 4, 2) := by decide +kernel
theorem dX5_partingYears_10 : decode cX5_partingYears 10 = .ok (.bipush 20, 2) := by decide +kernel
theorem dX5_partingYears_12 : decode cX5_partingYears 12 = .ok (.if_icmp .gt 30, 3) := by decide +kernel
theorem dX5_partingYears_15 : decode cX5_partingYears 15 = .ok (.aload_n 0, 1) := by decide +kernel
theorem dX5_partingYears_16 : decode cX5_partingYears 16 = .ok (.iload_n 1, 1) := by decide +kernel
theorem dX5_partingYears_17 : decode cX5_partingYears 17 = .ok (.iload 4, 2) := by decide +kernel
theorem dX5_partingYears_19 : decode cX5_partingYears 19 = .ok (.invokevirtual 37, 3) := by decide +kernel
theorem dX5_partingYears_22 : decode cX5_partingYears 22 = .ok (.istore 5, 2) := by decide +kernel
theorem dX5_partingYears_24 : decode cX5_partingYears 24 = .ok (.iload 5, 2) := by decide +kernel
theorem dX5_partingYears_26 : decode cX5_partingYears 26 = .ok (.iload_n 3, 1) := by decide +kernel
theorem dX5_partingYears_27 : decode cX5_partingYears 27 = .ok (.if_icmp .ge 9, 3) := by decide +kernel
theorem dX5_partingYears_30 : decode cX5_partingYears 30 = .ok (.iload 5, 2) := by decide +kernel
theorem dX5_partingYears_32 : decode cX5_partingYears 32 = .ok (.istore_n 3, 1) := by decide +kernel
theorem dX5_partingYears_33 : decode cX5_partingYears 33 = .ok (.iload 4, 2) := by decide +kernel
theorem dX5_partingYears_35 : decode cX5_partingYears 35 = .ok (.istore_n 2, 1) := by decide +kernel
theorem dX5_partingYears_36 : decode cX5_partingYears 36 = .ok (.iinc 4 1, 3) := by decide +kernel
theorem dX5_partingYears_39 : decode cX5_partingYears 39 = .ok (.goto (-31), 3) := by decide +kernel
theorem dX5_partingYears_42 : decode cX5_partingYears 42 = .ok (.iload_n 2, 1) := by decide +kernel
theorem dX5_partingYears_43 : decode cX5_partingYears 43 = .ok (.ireturn, 1) := by decide +kernel
def qX5_partingYears_b36  (post : Int32 → St → Prop) (K8 : Int32 → Int32 → Int32 → Int32 → St → Prop) (x1 : Int32) (x2 : Int32) (x3 : Int32) (x4 : Int32) (u0 : St) : Prop := ∀ x4_5 : Int32, x4_5 = x4 + (1 : Int32) → K8 x1 x2 x3 x4_5 u0
set_option maxRecDepth 100000 in
set_option maxHeartbeats 4000000 in
theorem kX5_partingYears_b36 {C : Cx} {o0 : Nat} {a0 : Nat → Nat} (hC : Fx C cX5_partingYears 6 RX5) (hR0 : xR C = rm 4) {post : Int32 → St → Prop} (hR : RI C cX5_partingYears 6 (fun u : St => (wX5 o0 a0 (xy C) u [])) (fun r u => post r u)) {K8 : Int32 → Int32 → Int32 → Int32 → St → Prop} (hK8 : ∀ (x1 : Int32) (x2 : Int32) (x3 : Int32) (x4 : Int32) (u0 : St), K8 x1 x2 x3 x4 u0 → G C 0 0 6 (wX5 o0 a0 (xy C) u0 []) 8 [(0, .ref o0), (1, .int x1), (2, .int x2), (3, .int x3), (4, .int x4)] []) {x1 : Int32} {x2 : Int32} {x3 : Int32} {x4 : Int32} {u0 : St} (h : qX5_partingYears_b36 post K8 x1 x2 x3 x4 u0) : G C 0 0 6 (wX5 o0 a0 (xy C) u0 []) 36 [(0, .ref o0), (1, .int x1), (2, .int x2), (3, .int x3), (4, .int x4)] [] := by
  obtain ⟨x4_5, ex4_5⟩ : ∃ z : Int32, z = x4 + (1 : Int32) := ⟨_, rfl⟩
  have h := h x4_5 ex4_5
  refine g_iinc (pc := 36) (v := x4_5) (lv' := [(4, .int x4_5), (0, .ref o0), (1, .int x1), (2, .int x2), (3, .int x3)]) hC 4 dX5_partingYears_36 rfl (by rw [ex4_5]; rfl) (Nat.le_of_ble_eq_true rfl) rfl ?_
  refine g_goto (pc := 39) (tgt := 8) hC dX5_partingYears_39 (by decide) ?_
  refine g_sub (lv' := [(0, .ref o0), (1, .int x1), (2, .int x2), (3, .int x3), (4, .int x4_5)]) [1, 2, 3, 4, 0] rfl ?_
  exact hK8 _ _ _ _ _ h
def qX5_partingYears_l8  (post : Int32 → St → Prop) (K8 : Int32 → Int32 → Int32 → Int32 → St → Prop) (x1 : Int32) (x2 : Int32) (x3 : Int32) (x4 : Int32) (u0 : St) : Prop := (((20 : Int32) < x4 → post x2 u0) ∧ (¬ (20 : Int32) < x4 → qX5_mostAlike x1 x4 u0 (fun r_8 u_7 => ((x3 ≤ r_8 → qX5_partingYears_b36 post K8 x1 x2 x3 x4 u_7) ∧ (¬ x3 ≤ r_8 → qX5_partingYears_b36 post K8 x1 x4 r_8 x4 u_7)))))
set_option maxRecDepth 100000 in
set_option maxHeartbeats 4000000 in
theorem kX5_partingYears_l8 {C : Cx} {o0 : Nat} {a0 : Nat → Nat} (hC : Fx C cX5_partingYears 6 RX5) (hR0 : xR C = rm 4) {post : Int32 → St → Prop} (hR : RI C cX5_partingYears 6 (fun u : St => (wX5 o0 a0 (xy C) u [])) (fun r u => post r u))  {K8 : Int32 → Int32 → Int32 → Int32 → St → Prop} (hK8 : ∀ (x1 : Int32) (x2 : Int32) (x3 : Int32) (x4 : Int32) (u0 : St), K8 x1 x2 x3 x4 u0 → G C 0 0 6 (wX5 o0 a0 (xy C) u0 []) 8 [(0, .ref o0), (1, .int x1), (2, .int x2), (3, .int x3), (4, .int x4)] []) {x1 : Int32} {x2 : Int32} {x3 : Int32} {x4 : Int32} {u0 : St} (h : qX5_partingYears_l8 post K8 x1 x2 x3 x4 u0) : G C 0 0 6 (wX5 o0 a0 (xy C) u0 []) 8 [(0, .ref o0), (1, .int x1), (2, .int x2), (3, .int x3), (4, .int x4)] [] := by
  refine g_iload (pc := 8) hC 4 dX5_partingYears_8 rfl ?_
  refine g_bipush (pc := 10) (v := 20) hC dX5_partingYears_10 (by decide) ?_
  refine g_icmp_gt (pc := 12) (tgt := 42) hC dX5_partingYears_12 (by decide) (fun c_6 => ?_) (fun c_6 => ?_)
  · have h := h.1 c_6
    refine g_iload_n (pc := 42) hC 2 dX5_partingYears_42 rfl rfl ?_
    exact hR _ _ _ u0 dX5_partingYears_43 h
  · have h := h.2 c_6
    refine g_aload_n (pc := 15) hC 0 dX5_partingYears_15 rfl rfl ?_
    refine g_iload_n (pc := 16) hC 1 dX5_partingYears_16 rfl rfl ?_
    refine g_iload (pc := 17) hC 4 dX5_partingYears_17 rfl ?_
    refine g_callV_i (pc := 19) (wd := fun (u : St) Y => (wX5 o0 a0 (xy C) u Y)) (F := fun Z => Z) (X := []) (As := [.int x1, .int x4]) (rest := []) (u := u0) hC (fun _ _ => rfl) (fun _ => rfl) (ctX5_mostAlike h) wvX5_mostAlike ml_X5_37 (ci := 4) (q0 := 0) rfl rfl rfl rfl (rmok hR0 rfl) ⟨Nat.zero_le _, Nat.zero_le _⟩ rfl (Nat.le_of_ble_eq_true rfl) dX5_partingYears_19 (fun r_8 u_7 h => ?_)
    refine g_istore (pc := 22) (lv' := [(5, .int r_8), (0, .ref o0), (1, .int x1), (2, .int x2), (3, .int x3), (4, .int x4)]) hC dX5_partingYears_22 (Nat.le_of_ble_eq_true rfl) rfl ?_
    refine g_iload (pc := 24) hC 0 dX5_partingYears_24 rfl ?_
    refine g_iload_n (pc := 26) hC 4 dX5_partingYears_26 rfl rfl ?_
    refine g_icmp_ge (pc := 27) (tgt := 36) hC dX5_partingYears_27 (by decide) (fun c_10 => ?_) (fun c_10 => ?_)
    · have h := h.1 c_10
      refine g_sub (lv' := [(0, .ref o0), (1, .int x1), (2, .int x2), (3, .int x3), (4, .int x4)]) [1, 2, 3, 4, 5] rfl ?_
      exact kX5_partingYears_b36 hC hR0 hR hK8 h
    · have h := h.2 c_10
      refine g_iload (pc := 30) hC 0 dX5_partingYears_30 rfl ?_
      refine g_istore_n (pc := 32) (lv' := [(3, .int r_8), (5, .int r_8), (0, .ref o0), (1, .int x1), (2, .int x2), (4, .int x4)]) hC dX5_partingYears_32 rfl (Nat.le_of_ble_eq_true rfl) rfl ?_
      refine g_iload (pc := 33) hC 5 dX5_partingYears_33 rfl ?_
      refine g_istore_n (pc := 35) (lv' := [(2, .int x4), (3, .int r_8), (5, .int r_8), (0, .ref o0), (1, .int x1), (4, .int x4)]) hC dX5_partingYears_35 rfl (Nat.le_of_ble_eq_true rfl) rfl ?_
      refine g_sub (lv' := [(0, .ref o0), (1, .int x1), (2, .int x4), (3, .int r_8), (4, .int x4)]) [3, 4, 0, 1, 5] rfl ?_
      exact kX5_partingYears_b36 hC hR0 hR hK8 h
def qX5_partingYears_L8  (post : Int32 → St → Prop)  : Nat → Int32 → Int32 → Int32 → Int32 → St → Prop
  | 0 => fun _ _ _ _ _ => False
  | n + 1 => qX5_partingYears_l8 post (qX5_partingYears_L8 post n)
theorem kX5_partingYears_L8 {C : Cx} {o0 : Nat} {a0 : Nat → Nat} (hC : Fx C cX5_partingYears 6 RX5) (hR0 : xR C = rm 4) {post : Int32 → St → Prop} (hR : RI C cX5_partingYears 6 (fun u : St => (wX5 o0 a0 (xy C) u [])) (fun r u => post r u))  : ∀ (n : Nat) (x1 : Int32) (x2 : Int32) (x3 : Int32) (x4 : Int32) (u0 : St), qX5_partingYears_L8 post n x1 x2 x3 x4 u0 → G C 0 0 6 (wX5 o0 a0 (xy C) u0 []) 8 [(0, .ref o0), (1, .int x1), (2, .int x2), (3, .int x3), (4, .int x4)] [] := by
  intro n
  induction n with
  | zero => intro x1 x2 x3 x4 u0 h; exact h.elim
  | succ n ih => intro x1 x2 x3 x4 u0 h; exact kX5_partingYears_l8 hC hR0 hR  ih h
def qX5_partingYears (x1 : Int32) (u0 : St) (post : Int32 → St → Prop) : Prop := ∃ n_11 : Nat, qX5_partingYears_L8 post n_11 x1 (1 : Int32) (21 : Int32) (1 : Int32) u0
set_option maxRecDepth 100000 in
set_option maxHeartbeats 4000000 in
theorem kX5_partingYears {C : Cx} {o0 : Nat} {a0 : Nat → Nat} (hC : Fx C cX5_partingYears 6 RX5) (hR0 : xR C = rm 4) {post : Int32 → St → Prop} (hR : RI C cX5_partingYears 6 (fun u : St => (wX5 o0 a0 (xy C) u [])) (fun r u => post r u)) {x1 : Int32} {u0 : St} (h : qX5_partingYears x1 u0 post) : G C 0 0 6 (wX5 o0 a0 (xy C) u0 []) 0 [(0, .ref o0), (1, .int x1)] [] := by
  refine g_iconst (pc := 0) (v := 1) hC dX5_partingYears_0 (by decide) ?_
  refine g_istore_n (pc := 1) (lv' := [(2, .int (1 : Int32)), (0, .ref o0), (1, .int x1)]) hC dX5_partingYears_1 rfl (Nat.le_of_ble_eq_true rfl) rfl ?_
  refine g_bipush (pc := 2) (v := 21) hC dX5_partingYears_2 (by decide) ?_
  refine g_istore_n (pc := 4) (lv' := [(3, .int (21 : Int32)), (2, .int (1 : Int32)), (0, .ref o0), (1, .int x1)]) hC dX5_partingYears_4 rfl (Nat.le_of_ble_eq_true rfl) rfl ?_
  refine g_iconst (pc := 5) (v := 1) hC dX5_partingYears_5 (by decide) ?_
  refine g_istore (pc := 6) (lv' := [(4, .int (1 : Int32)), (3, .int (21 : Int32)), (2, .int (1 : Int32)), (0, .ref o0), (1, .int x1)]) hC dX5_partingYears_6 (Nat.le_of_ble_eq_true rfl) rfl ?_
  refine g_sub (lv' := [(0, .ref o0), (1, .int x1), (2, .int (1 : Int32)), (3, .int (21 : Int32)), (4, .int (1 : Int32))]) [3, 4, 2, 1, 0] rfl ?_
  obtain ⟨n_11, h⟩ := h
  exact kX5_partingYears_L8 hC hR0 hR  n_11 _ _ _ _ _ h
theorem ctX5_partingYears {l : Launch} {D : va_G} {cy : Nat → ClassId} {kd : Nat → Nat} {o0 : Nat} {a0 : Nat → Nat} {x1 : Int32} {u0 : St} {post : Int32 → St → Prop} (h : qX5_partingYears x1 u0 post) : CtI l D cy kd yX5_partingYears cX5_partingYears 6 4 .int [.ref o0, .int x1] (fun u : St => (wX5 o0 a0 cy u [])) u0 (fun r u => post r u) := met_i (by decide) (Nat.le_of_ble_eq_true rfl) (fun C e1 e2 e3 e4 e5 hC hR => by subst e1 e2 e3 e4; exact kX5_partingYears hC e5 hR h)
