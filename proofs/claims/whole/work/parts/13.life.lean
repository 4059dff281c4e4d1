/-! Life -/
theorem dX3_behindEnd_0 : decode cX3_behindEnd 0 = .ok (.aload_n 1, 1) := by decide +kernel
theorem dX3_behindEnd_1 : decode cX3_behindEnd 1 = .ok (.getfield 77, 3) := by decide +kernel
theorem dX3_behindEnd_4 : decode cX3_behindEnd 4 = .ok (.iload_n 2, 1) := by decide +kernel
theorem dX3_behindEnd_5 : decode cX3_behindEnd 5 = .ok (.iaload, 1) := by decide +kernel
theorem dX3_behindEnd_6 : decode cX3_behindEnd 6 = .ok (.istore_n 3, 1) := by decide +kernel
theorem dX3_behindEnd_7 : decode cX3_behindEnd 7 = .ok (.iload_n 3, 1) := by decide +kernel
theorem dX3_behindEnd_8 : decode cX3_behindEnd 8 = .ok (.iconst 0, 1) := by decide +kernel
theorem dX3_behindEnd_9 : decode cX3_behindEnd 9 = .ok (.aload_n 1, 1) := by decide +kernel
theorem dX3_behindEnd_10 : decode cX3_behindEnd 10 = .ok (.getfield 46, 3) := by decide +kernel
theorem dX3_behindEnd_13 : decode cX3_behindEnd 13 = .ok (.iconst 1, 1) := by decide +kernel
theorem dX3_behindEnd_14 : decode cX3_behindEnd 14 = .ok (.isub, 1) := by decide +kernel
theorem dX3_behindEnd_15 : decode cX3_behindEnd 15 = .ok (.invokestatic 49, 3) := by decide +kernel
theorem dX3_behindEnd_18 : decode cX3_behindEnd 18 = .ok (.ifCond .eq 14, 3) := by decide +kernel
theorem dX3_behindEnd_21 : decode cX3_behindEnd 21 = .ok (.aload_n 1, 1) := by decide +kernel
theorem dX3_behindEnd_22 : decode cX3_behindEnd 22 = .ok (.getfield 53, 3) := by decide +kernel
theorem dX3_behindEnd_25 : decode cX3_behindEnd 25 = .ok (.iload_n 3, 1) := by decide +kernel
theorem dX3_behindEnd_26 : decode cX3_behindEnd 26 = .ok (.iaload, 1) := by decide +kernel
theorem dX3_behindEnd_27 : decode cX3_behindEnd 27 = .ok (.bipush 7, 2) := by decide +kernel
theorem dX3_behindEnd_29 : decode cX3_behindEnd 29 = .ok (.if_icmp .eq 7, 3) := by decide +kernel
theorem dX3_behindEnd_32 : decode cX3_behindEnd 32 = .ok (.iload_n 2, 1) := by decide +kernel
theorem dX3_behindEnd_33 : decode cX3_behindEnd 33 = .ok (.iconst 1, 1) := by decide +kernel
theorem dX3_behindEnd_34 : decode cX3_behindEnd 34 = .ok (.iadd, 1) := by decide +kernel
theorem dX3_behindEnd_35 : decode cX3_behindEnd 35 = .ok (.ireturn, 1) := by decide +kernel
theorem dX3_behindEnd_36 : decode cX3_behindEnd 36 = .ok (.aload_n 0, 1) := by decide +kernel
theorem dX3_behindEnd_37 : decode cX3_behindEnd 37 = .ok (.getfield 11, 3) := by decide +kernel
theorem dX3_behindEnd_40 : decode cX3_behindEnd 40 = .ok (.iload_n 3, 1) := by decide +kernel
theorem dX3_behindEnd_41 : decode cX3_behindEnd 41 = .ok (.dup2, 1) := by decide +kernel
theorem dX3_behindEnd_42 : decode cX3_behindEnd 42 = .ok (.iaload, 1) := by decide +kernel
theorem dX3_behindEnd_43 : decode cX3_behindEnd 43 = .ok (.iconst 1, 1) := by decide +kernel
theorem dX3_behindEnd_44 : decode cX3_behindEnd 44 = .ok (.isub, 1) := by decide +kernel
theorem dX3_behindEnd_45 : decode cX3_behindEnd 45 = .ok (.iastore, 1) := by decide +kernel
theorem dX3_behindEnd_46 : decode cX3_behindEnd 46 = .ok (.aload_n 0, 1) := by decide +kernel
theorem dX3_behindEnd_47 : decode cX3_behindEnd 47 = .ok (.getfield 11, 3) := by decide +kernel
theorem dX3_behindEnd_50 : decode cX3_behindEnd 50 = .ok (.iload_n 3, 1) := by decide +kernel
theorem dX3_behindEnd_51 : decode cX3_behindEnd 51 = .ok (.iaload, 1) := by decide +kernel
theorem dX3_behindEnd_52 : decode cX3_behindEnd 52 = .ok (.ifCond .le 9, 3) := by decide +kernel
theorem dX3_behindEnd_55 : decode cX3_behindEnd 55 = .ok (.iload_n 3, 1) := by decide +kernel
theorem dX3_behindEnd_56 : decode cX3_behindEnd 56 = .ok (.iconst 1, 1) := by decide +kernel
theorem dX3_behindEnd_57 : decode cX3_behindEnd 57 = .ok (.iadd, 1) := by decide +kernel
theorem dX3_behindEnd_58 : decode cX3_behindEnd 58 = .ok (.goto 6, 3) := by decide +kernel
theorem dX3_behindEnd_61 : decode cX3_behindEnd 61 = .ok (.iload_n 2, 1) := by decide +kernel
theorem dX3_behindEnd_62 : decode cX3_behindEnd 62 = .ok (.iconst 1, 1) := by decide +kernel
theorem dX3_behindEnd_63 : decode cX3_behindEnd 63 = .ok (.iadd, 1) := by decide +kernel
theorem dX3_behindEnd_64 : decode cX3_behindEnd 64 = .ok (.ireturn, 1) := by decide +kernel
def qX3_behindEnd_b32  (post : Int32 → St → St → Prop)  (x2 : Int32) (u0 : St) (u1 : St) : Prop := post (x2 + (1 : Int32)) u0 u1
set_option maxRecDepth 100000 in
set_option maxHeartbeats 4000000 in
theorem kX3_behindEnd_b32 {C : Cx} {o0 : Nat} {a0 : Nat → Nat} {o1 : Nat} {a1 : Nat → Nat} (hC : Fx C cX3_behindEnd 4 RX3) (hR0 : xR C = rm 2) {post : Int32 → St → St → Prop} (hR : RI C cX3_behindEnd 4 (fun u : St × St => (wX3 o0 a0 (xy C) u.1 (wX7 o1 a1 (xy C) u.2 []))) (fun r u => post r u.1 u.2))  {x2 : Int32} {u0 : St} {u1 : St} (h : qX3_behindEnd_b32 post x2 u0 u1) : G C 0 0 4 (wX3 o0 a0 (xy C) u0 (wX7 o1 a1 (xy C) u1 [])) 32 [(2, .int x2)] [] := by
  refine g_iload_n (pc := 32) hC 0 dX3_behindEnd_32 rfl rfl ?_
  refine g_iconst (pc := 33) (v := 1) hC dX3_behindEnd_33 (by decide) ?_
  refine g_iadd (pc := 34) hC dX3_behindEnd_34 ?_
  exact hR _ _ _ (u0, u1) dX3_behindEnd_35 h
def qX3_behindEnd_b64  (post : Int32 → St → St → Prop)  (s0 : Int32) (u0 : St) (u1 : St) : Prop := post s0 u0 u1
set_option maxRecDepth 100000 in
set_option maxHeartbeats 4000000 in
theorem kX3_behindEnd_b64 {C : Cx} {o0 : Nat} {a0 : Nat → Nat} {o1 : Nat} {a1 : Nat → Nat} (hC : Fx C cX3_behindEnd 4 RX3) (hR0 : xR C = rm 2) {post : Int32 → St → St → Prop} (hR : RI C cX3_behindEnd 4 (fun u : St × St => (wX3 o0 a0 (xy C) u.1 (wX7 o1 a1 (xy C) u.2 []))) (fun r u => post r u.1 u.2))  {s0 : Int32} {u0 : St} {u1 : St} (h : qX3_behindEnd_b64 post s0 u0 u1) : G C 0 0 4 (wX3 o0 a0 (xy C) u0 (wX7 o1 a1 (xy C) u1 [])) 64 [] [.int s0] := by
  exact hR _ _ _ (u0, u1) dX3_behindEnd_64 h
def qX3_behindEnd (x2 : Int32) (u0 : St) (u1 : St) (post : Int32 → St → St → Prop) : Prop := (vp_in x2 60 ∧ ∀ x3_4 : Int32, x3_4 = (ga u1 7 (x2).toNatClampNeg) → qX11_within x3_4 (0 : Int32) ((gi u1 2) - (1 : Int32)) (fun r_5 => ((r_5 = 0 → qX3_behindEnd_b32 post x2 u0 u1) ∧ (¬ r_5 = 0 → (vp_in x3_4 60 ∧ (((ga u1 3 (x3_4).toNatClampNeg) = (7 : Int32) → (vp_in x3_4 60 ∧ (vp_in x3_4 60 ∧ ∀ u_9 : St, u_9 = (sw u0 8 (upd (ga u0 8) (x3_4).toNatClampNeg ((ga u0 8 (x3_4).toNatClampNeg) - (1 : Int32)))) → (vp_in x3_4 60 ∧ (((ga u_9 8 (x3_4).toNatClampNeg) ≤ 0 → qX3_behindEnd_b64 post (x2 + (1 : Int32)) u_9 u1) ∧ (¬ (ga u_9 8 (x3_4).toNatClampNeg) ≤ 0 → qX3_behindEnd_b64 post (x3_4 + (1 : Int32)) u_9 u1)))))) ∧ (¬ (ga u1 3 (x3_4).toNatClampNeg) = (7 : Int32) → qX3_behindEnd_b32 post x2 u0 u1)))))))
set_option maxRecDepth 100000 in
set_option maxHeartbeats 4000000 in
theorem kX3_behindEnd {C : Cx} {o0 : Nat} {a0 : Nat → Nat} {o1 : Nat} {a1 : Nat → Nat} (hC : Fx C cX3_behindEnd 4 RX3) (hR0 : xR C = rm 2) {post : Int32 → St → St → Prop} (hR : RI C cX3_behindEnd 4 (fun u : St × St => (wX3 o0 a0 (xy C) u.1 (wX7 o1 a1 (xy C) u.2 []))) (fun r u => post r u.1 u.2)) {x2 : Int32} {u0 : St} {u1 : St} (h : qX3_behindEnd x2 u0 u1 post) : G C 0 0 4 (wX3 o0 a0 (xy C) u0 (wX7 o1 a1 (xy C) u1 [])) 0 [(0, .ref o0), (1, .ref o1), (2, .int x2)] [] := by
  refine g_aload_n (pc := 0) hC 1 dX3_behindEnd_0 rfl rfl ?_
  refine getX7_7 (pc := 1) hC (F := fun Z => (wX3 o0 a0 (xy C) u0 Z)) (X := (wX3 o0 a0 (xy C) u0 [])) (fun _ => rfl) fl_X3_77 dX3_behindEnd_1 ?_
  refine g_iload_n (pc := 4) hC 2 dX3_behindEnd_4 rfl rfl ?_
  refine aldX7_7 (pc := 5) hC (F := fun Z => (wX3 o0 a0 (xy C) u0 Z)) (X := (wX3 o0 a0 (xy C) u0 [])) (fun _ => rfl) h.1 dX3_behindEnd_5 ?_
  have h := h.2
  refine g_topi (fun x3_4 ex3_4 => ?_)
  have h := h x3_4 ex3_4
  refine g_istore_n (pc := 6) (lv' := [(3, .int x3_4), (0, .ref o0), (1, .ref o1), (2, .int x2)]) hC dX3_behindEnd_6 rfl (Nat.le_of_ble_eq_true rfl) rfl ?_
  refine g_iload_n (pc := 7) hC 0 dX3_behindEnd_7 rfl rfl ?_
  refine g_iconst (pc := 8) (v := 0) hC dX3_behindEnd_8 (by decide) ?_
  refine g_aload_n (pc := 9) hC 2 dX3_behindEnd_9 rfl rfl ?_
  refine getX7_2 (pc := 10) hC (F := fun Z => (wX3 o0 a0 (xy C) u0 Z)) (X := (wX3 o0 a0 (xy C) u0 [])) (fun _ => rfl) fl_X3_46 dX3_behindEnd_10 ?_
  refine g_iconst (pc := 13) (v := 1) hC dX3_behindEnd_13 (by decide) ?_
  refine g_isub (pc := 14) hC dX3_behindEnd_14 ?_
  refine g_callSN_i (pc := 15) (wd := fun (_ : Unit) Y => Y) (F := fun Z => Z) (X := []) (As := [.int x3_4, .int (0 : Int32), .int ((gi u1 2) - (1 : Int32))]) (rest := []) (u := ()) hC (fun _ _ => rfl) (fun _ => rfl) (ctX11_within h) wvX11_within nl_X3_49 rfl (rmok hR0 rfl) ⟨Nat.zero_le _, Nat.zero_le _⟩ rfl (Nat.le_of_ble_eq_true rfl) dX3_behindEnd_15 (fun r_5 u_6 h => ?_)
  refine g_if_eq (pc := 18) (tgt := 32) hC dX3_behindEnd_18 (by decide) (fun c_7 => ?_) (fun c_7 => ?_)
  · have h := h.1 c_7
    refine g_sub (lv' := [(2, .int x2)]) [3] rfl ?_
    exact kX3_behindEnd_b32 hC hR0 hR  h
  · have h := h.2 c_7
    refine g_aload_n (pc := 21) hC 2 dX3_behindEnd_21 rfl rfl ?_
    refine getX7_3 (pc := 22) hC (F := fun Z => (wX3 o0 a0 (xy C) u0 Z)) (X := (wX3 o0 a0 (xy C) u0 [])) (fun _ => rfl) fl_X3_53 dX3_behindEnd_22 ?_
    refine g_iload_n (pc := 25) hC 0 dX3_behindEnd_25 rfl rfl ?_
    refine aldX7_3 (pc := 26) hC (F := fun Z => (wX3 o0 a0 (xy C) u0 Z)) (X := (wX3 o0 a0 (xy C) u0 [])) (fun _ => rfl) h.1 dX3_behindEnd_26 ?_
    have h := h.2
    refine g_bipush (pc := 27) (v := 7) hC dX3_behindEnd_27 (by decide) ?_
    refine g_icmp_eq (pc := 29) (tgt := 36) hC dX3_behindEnd_29 (by decide) (fun c_8 => ?_) (fun c_8 => ?_)
    · have h := h.1 c_8
      refine g_aload_n (pc := 36) hC 1 dX3_behindEnd_36 rfl rfl ?_
      refine getX3_8 (pc := 37) hC (F := fun Z => Z) (X := []) (fun _ => rfl) fl_X3_11 dX3_behindEnd_37 ?_
      refine g_iload_n (pc := 40) hC 0 dX3_behindEnd_40 rfl rfl ?_
      refine g_dup2 (pc := 41) hC dX3_behindEnd_41 rfl rfl ?_
      refine aldX3_8 (pc := 42) hC (F := fun Z => Z) (X := []) (fun _ => rfl) h.1 dX3_behindEnd_42 ?_
      have h := h.2
      refine g_iconst (pc := 43) (v := 1) hC dX3_behindEnd_43 (by decide) ?_
      refine g_isub (pc := 44) hC dX3_behindEnd_44 ?_
      refine astX3_8 (pc := 45) hC (F := fun Z => Z) (X := []) (fun _ => rfl) h.1 dX3_behindEnd_45 ?_
      have h := h.2
      refine g_st (w := fun z => (wX3 o0 a0 (xy C) z (wX7 o1 a1 (xy C) u1 []))) (u := (sw u0 8 (upd (ga u0 8) (x3_4).toNatClampNeg ((ga u0 8 (x3_4).toNatClampNeg) - (1 : Int32))))) (fun u_9 eu_9 => ?_)
      have h := h u_9 eu_9
      refine g_aload_n (pc := 46) hC 1 dX3_behindEnd_46 rfl rfl ?_
      refine getX3_8 (pc := 47) hC (F := fun Z => Z) (X := []) (fun _ => rfl) fl_X3_11 dX3_behindEnd_47 ?_
      refine g_iload_n (pc := 50) hC 0 dX3_behindEnd_50 rfl rfl ?_
      refine aldX3_8 (pc := 51) hC (F := fun Z => Z) (X := []) (fun _ => rfl) h.1 dX3_behindEnd_51 ?_
      have h := h.2
      refine g_if_le (pc := 52) (tgt := 61) hC dX3_behindEnd_52 (by decide) (fun c_10 => ?_) (fun c_10 => ?_)
      · have h := h.1 c_10
        refine g_iload_n (pc := 61) hC 3 dX3_behindEnd_61 rfl rfl ?_
        refine g_iconst (pc := 62) (v := 1) hC dX3_behindEnd_62 (by decide) ?_
        refine g_iadd (pc := 63) hC dX3_behindEnd_63 ?_
        refine g_sub (lv' := []) [] rfl ?_
        exact kX3_behindEnd_b64 hC hR0 hR  h
      · have h := h.2 c_10
        refine g_iload_n (pc := 55) hC 0 dX3_behindEnd_55 rfl rfl ?_
        refine g_iconst (pc := 56) (v := 1) hC dX3_behindEnd_56 (by decide) ?_
        refine g_iadd (pc := 57) hC dX3_behindEnd_57 ?_
        refine g_goto (pc := 58) (tgt := 64) hC dX3_behindEnd_58 (by decide) ?_
        refine g_sub (lv' := []) [] rfl ?_
        exact kX3_behindEnd_b64 hC hR0 hR  h
    · have h := h.2 c_8
      refine g_sub (lv' := [(2, .int x2)]) [3] rfl ?_
      exact kX3_behindEnd_b32 hC hR0 hR  h
theorem ctX3_behindEnd {l : Launch} {D : va_G} {cy : Nat → ClassId} {kd : Nat → Nat} {o0 : Nat} {a0 : Nat → Nat} {o1 : Nat} {a1 : Nat → Nat} {x2 : Int32} {u0 : St} {u1 : St} {post : Int32 → St → St → Prop} (h : qX3_behindEnd x2 u0 u1 post) : CtI l D cy kd yX3_behindEnd cX3_behindEnd 4 2 .int [.ref o0, .ref o1, .int x2] (fun u : St × St => (wX3 o0 a0 cy u.1 (wX7 o1 a1 cy u.2 []))) (u0, u1) (fun r u => post r u.1 u.2) := met_i (by decide) (Nat.le_of_ble_eq_true rfl) (fun C e1 e2 e3 e4 e5 hC hR => by subst e1 e2 e3 e4; exact kX3_behindEnd hC e5 hR h)
theorem dX3_compares_0 : decode cX3_compares 0 = .ok (.aload_n 1, 1) := by decide +kernel
theorem dX3_compares_1 : decode cX3_compares 1 = .ok (.getfield 116, 3) := by decide +kernel
theorem dX3_compares_4 : decode cX3_compares 4 = .ok (.iload_n 2, 1) := by decide +kernel
theorem dX3_compares_5 : decode cX3_compares 5 = .ok (.iaload, 1) := by decide +kernel
theorem dX3_compares_6 : decode cX3_compares 6 = .ok (.istore_n 3, 1) := by decide +kernel
theorem dX3_compares_7 : decode cX3_compares 7 = .ok (.aload_n 1, 1) := by decide +kernel
theorem dX3_compares_8 : decode cX3_compares 8 = .ok (.getfield 119, 3) := by decide +kernel
theorem dX3_compares_11 : decode cX3_compares 11 = .ok (.iload_n 2, 1) := by decide +kernel
theorem dX3_compares_12 : decode cX3_compares 12 = .ok (.iaload, 1) := by decide +kernel
theorem dX3_compares_13 : decode cX3_compares 13 = .ok (.lookupswitch 49 #[(60, 27), (62, 38)], 27) := by decide +kernel
theorem dX3_compares_40 : decode cX3_compares 40 = .ok (.iload_n 0, 1) := by decide +kernel
theorem dX3_compares_41 : decode cX3_compares 41 = .ok (.iload_n 3, 1) := by decide +kernel
theorem dX3_compares_42 : decode cX3_compares 42 = .ok (.if_icmp .ge 7, 3) := by decide +kernel
theorem dX3_compares_45 : decode cX3_compares 45 = .ok (.iconst 1, 1) := by decide +kernel
theorem dX3_compares_46 : decode cX3_compares 46 = .ok (.goto 4, 3) := by decide +kernel
theorem dX3_compares_49 : decode cX3_compares 49 = .ok (.iconst 0, 1) := by decide +kernel
theorem dX3_compares_50 : decode cX3_compares 50 = .ok (.ireturn, 1) := by decide +kernel
theorem dX3_compares_51 : decode cX3_compares 51 = .ok (.iload_n 0, 1) := by decide +kernel
theorem dX3_compares_52 : decode cX3_compares 52 = .ok (.iload_n 3, 1) := by decide +kernel
theorem dX3_compares_53 : decode cX3_compares 53 = .ok (.if_icmp .le 7, 3) := by decide +kernel
theorem dX3_compares_56 : decode cX3_compares 56 = .ok (.iconst 1, 1) := by decide +kernel
theorem dX3_compares_57 : decode cX3_compares 57 = .ok (.goto 4, 3) := by decide +kernel
theorem dX3_compares_60 : decode cX3_compares 60 = .ok (.iconst 0, 1) := by decide +kernel
theorem dX3_compares_61 : decode cX3_compares 61 = .ok (.ireturn, 1) := by decide +kernel
theorem dX3_compares_62 : decode cX3_compares 62 = .ok (.iload_n 0, 1) := by decide +kernel
theorem dX3_compares_63 : decode cX3_compares 63 = .ok (.iload_n 3, 1) := by decide +kernel
theorem dX3_compares_64 : decode cX3_compares 64 = .ok (.if_icmp .ne 7, 3) := by decide +kernel
theorem dX3_compares_67 : decode cX3_compares 67 = .ok (.iconst 1, 1) := by decide +kernel
theorem dX3_compares_68 : decode cX3_compares 68 = .ok (.goto 4, 3) := by decide +kernel
theorem dX3_compares_71 : decode cX3_compares 71 = .ok (.iconst 0, 1) := by decide +kernel
theorem dX3_compares_72 : decode cX3_compares 72 = .ok (.ireturn, 1) := by decide +kernel
def qX3_compares_b50  (post : Int32 → St → Prop)  (s0 : Int32) (u0 : St) : Prop := (bz s0 ∧ post s0 u0)
set_option maxRecDepth 100000 in
set_option maxHeartbeats 4000000 in
theorem kX3_compares_b50 {C : Cx} {o0 : Nat} {a0 : Nat → Nat} (hC : Fx C cX3_compares 4 RX3) (hR0 : xR C = rm 1) {post : Int32 → St → Prop} (hR : RZ C cX3_compares 4 (fun u : St => (wX7 o0 a0 (xy C) u [])) (fun r u => post r u))  {s0 : Int32} {u0 : St} (h : qX3_compares_b50 post s0 u0) : G C 0 0 4 (wX7 o0 a0 (xy C) u0 []) 50 [] [.int s0] := by
  exact hR _ _ _ u0 dX3_compares_50 h.1 h.2
def qX3_compares_b61  (post : Int32 → St → Prop)  (s0 : Int32) (u0 : St) : Prop := (bz s0 ∧ post s0 u0)
set_option maxRecDepth 100000 in
set_option maxHeartbeats 4000000 in
theorem kX3_compares_b61 {C : Cx} {o0 : Nat} {a0 : Nat → Nat} (hC : Fx C cX3_compares 4 RX3) (hR0 : xR C = rm 1) {post : Int32 → St → Prop} (hR : RZ C cX3_compares 4 (fun u : St => (wX7 o0 a0 (xy C) u [])) (fun r u => post r u))  {s0 : Int32} {u0 : St} (h : qX3_compares_b61 post s0 u0) : G C 0 0 4 (wX7 o0 a0 (xy C) u0 []) 61 [] [.int s0] := by
  exact hR _ _ _ u0 dX3_compares_61 h.1 h.2
def qX3_compares_b72  (post : Int32 → St → Prop)  (s0 : Int32) (u0 : St) : Prop := (bz s0 ∧ post s0 u0)
set_option maxRecDepth 100000 in
set_option maxHeartbeats 4000000 in
theorem kX3_compares_b72 {C : Cx} {o0 : Nat} {a0 : Nat → Nat} (hC : Fx C cX3_compares 4 RX3) (hR0 : xR C = rm 1) {post : Int32 → St → Prop} (hR : RZ C cX3_compares 4 (fun u : St => (wX7 o0 a0 (xy C) u [])) (fun r u => post r u))  {s0 : Int32} {u0 : St} (h : qX3_compares_b72 post s0 u0) : G C 0 0 4 (wX7 o0 a0 (xy C) u0 []) 72 [] [.int s0] := by
  exact hR _ _ _ u0 dX3_compares_72 h.1 h.2
def qX3_compares (x0 : Int32) (x2 : Int32) (u0 : St) (post : Int32 → St → Prop) : Prop := (vp_in x2 60 ∧ ∀ x3_1 : Int32, x3_1 = (ga u0 5 (x2).toNatClampNeg) → (vp_in x2 60 ∧ (((ga u0 6 (x2).toNatClampNeg) = (60 : Int32) → ((x3_1 ≤ x0 → qX3_compares_b50 post (0 : Int32) u0) ∧ (¬ x3_1 ≤ x0 → qX3_compares_b50 post (1 : Int32) u0))) ∧ (((ga u0 6 (x2).toNatClampNeg) = (62 : Int32) → ((x0 ≤ x3_1 → qX3_compares_b61 post (0 : Int32) u0) ∧ (¬ x0 ≤ x3_1 → qX3_compares_b61 post (1 : Int32) u0))) ∧ (¬ (ga u0 6 (x2).toNatClampNeg) = (60 : Int32) → ¬ (ga u0 6 (x2).toNatClampNeg) = (62 : Int32) → ((¬ x0 = x3_1 → qX3_compares_b72 post (0 : Int32) u0) ∧ (x0 = x3_1 → qX3_compares_b72 post (1 : Int32) u0)))))))
set_option maxRecDepth 100000 in
set_option maxHeartbeats 4000000 in
theorem kX3_compares {C : Cx} {o0 : Nat} {a0 : Nat → Nat} (hC : Fx C cX3_compares 4 RX3) (hR0 : xR C = rm 1) {post : Int32 → St → Prop} (hR : RZ C cX3_compares 4 (fun u : St => (wX7 o0 a0 (xy C) u [])) (fun r u => post r u)) {x0 : Int32} {x2 : Int32} {u0 : St} (h : qX3_compares x0 x2 u0 post) : G C 0 0 4 (wX7 o0 a0 (xy C) u0 []) 0 [(0, .int x0), (1, .ref o0), (2, .int x2)] [] := by
  refine g_aload_n (pc := 0) hC 1 dX3_compares_0 rfl rfl ?_
  refine getX7_5 (pc := 1) hC (F := fun Z => Z) (X := []) (fun _ => rfl) fl_X3_116 dX3_compares_1 ?_
  refine g_iload_n (pc := 4) hC 2 dX3_compares_4 rfl rfl ?_
  refine aldX7_5 (pc := 5) hC (F := fun Z => Z) (X := []) (fun _ => rfl) h.1 dX3_compares_5 ?_
  have h := h.2
  refine g_topi (fun x3_1 ex3_1 => ?_)
  have h := h x3_1 ex3_1
  refine g_istore_n (pc := 6) (lv' := [(3, .int x3_1), (0, .int x0), (1, .ref o0), (2, .int x2)]) hC dX3_compares_6 rfl (Nat.le_of_ble_eq_true rfl) rfl ?_
  refine g_aload_n (pc := 7) hC 2 dX3_compares_7 rfl rfl ?_
  refine getX7_6 (pc := 8) hC (F := fun Z => Z) (X := []) (fun _ => rfl) fl_X3_119 dX3_compares_8 ?_
  refine g_iload_n (pc := 11) hC 3 dX3_compares_11 rfl rfl ?_
  refine aldX7_6 (pc := 12) hC (F := fun Z => Z) (X := []) (fun _ => rfl) h.1 dX3_compares_12 ?_
  have h := h.2
  by_cases c_3 : (ga u0 6 (x2).toNatClampNeg) = (60 : Int32)
  · have h := h.1 c_3
    refine g_look (pc := 13) (tgt := 40) (off := 27) hC dX3_compares_13 (by decide +kernel) (by first | (rw [c_3]; rfl) | rw [c_3]) (by decide) ?_
    refine g_iload_n (pc := 40) hC 1 dX3_compares_40 rfl rfl ?_
    refine g_iload_n (pc := 41) hC 0 dX3_compares_41 rfl rfl ?_
    refine g_icmp_ge (pc := 42) (tgt := 49) hC dX3_compares_42 (by decide) (fun c_2 => ?_) (fun c_2 => ?_)
    · have h := h.1 c_2
      refine g_iconst (pc := 49) (v := 0) hC dX3_compares_49 (by decide) ?_
      refine g_sub (lv' := []) [] rfl ?_
      exact kX3_compares_b50 hC hR0 hR  h
    · have h := h.2 c_2
      refine g_iconst (pc := 45) (v := 1) hC dX3_compares_45 (by decide) ?_
      refine g_goto (pc := 46) (tgt := 50) hC dX3_compares_46 (by decide) ?_
      refine g_sub (lv' := []) [] rfl ?_
      exact kX3_compares_b50 hC hR0 hR  h
  by_cases c_5 : (ga u0 6 (x2).toNatClampNeg) = (62 : Int32)
  · have h := h.2.1 c_5
    refine g_look (pc := 13) (tgt := 51) (off := 38) hC dX3_compares_13 (by decide +kernel) (by first | (rw [c_5]; rfl) | rw [c_5]) (by decide) ?_
    refine g_iload_n (pc := 51) hC 1 dX3_compares_51 rfl rfl ?_
    refine g_iload_n (pc := 52) hC 0 dX3_compares_52 rfl rfl ?_
    refine g_icmp_le (pc := 53) (tgt := 60) hC dX3_compares_53 (by decide) (fun c_4 => ?_) (fun c_4 => ?_)
    · have h := h.1 c_4
      refine g_iconst (pc := 60) (v := 0) hC dX3_compares_60 (by decide) ?_
      refine g_sub (lv' := []) [] rfl ?_
      exact kX3_compares_b61 hC hR0 hR  h
    · have h := h.2 c_4
      refine g_iconst (pc := 56) (v := 1) hC dX3_compares_56 (by decide) ?_
      refine g_goto (pc := 57) (tgt := 61) hC dX3_compares_57 (by decide) ?_
      refine g_sub (lv' := []) [] rfl ?_
      exact kX3_compares_b61 hC hR0 hR  h
  have h := h.2.2 c_3 c_5
  refine g_look (pc := 13) (tgt := 62) (off := 49) hC dX3_compares_13 (by decide +kernel) ((lv_osw c_3 rfl).trans ((lv_osw c_5 rfl).trans rfl)) (by decide) ?_
  refine g_iload_n (pc := 62) hC 1 dX3_compares_62 rfl rfl ?_
  refine g_iload_n (pc := 63) hC 0 dX3_compares_63 rfl rfl ?_
  refine g_icmp_ne (pc := 64) (tgt := 71) hC dX3_compares_64 (by decide) (fun c_6 => ?_) (fun c_6 => ?_)
  · have h := h.1 c_6
    refine g_iconst (pc := 71) (v := 0) hC dX3_compares_71 (by decide) ?_
    refine g_sub (lv' := []) [] rfl ?_
    exact kX3_compares_b72 hC hR0 hR  h
  · have h := h.2 c_6
    refine g_iconst (pc := 67) (v := 1) hC dX3_compares_67 (by decide) ?_
    refine g_goto (pc := 68) (tgt := 72) hC dX3_compares_68 (by decide) ?_
    refine g_sub (lv' := []) [] rfl ?_
    exact kX3_compares_b72 hC hR0 hR  h
theorem ctX3_compares {l : Launch} {D : va_G} {cy : Nat → ClassId} {kd : Nat → Nat} {o0 : Nat} {a0 : Nat → Nat} {x0 : Int32} {x2 : Int32} {u0 : St} {post : Int32 → St → Prop} (h : qX3_compares x0 x2 u0 post) : CtI l D cy kd yX3_compares cX3_compares 4 1 .boolean [.int x0, .ref o0, .int x2] (fun u : St => (wX7 o0 a0 cy u [])) u0 (fun r u => post r u) := met_z (by decide) (Nat.le_of_ble_eq_true rfl) (fun C e1 e2 e3 e4 e5 hC hR => by subst e1 e2 e3 e4; exact kX3_compares hC e5 hR h)
theorem dX3_isSo_0 : decode cX3_isSo 0 = .ok (.aload_n 1, 1) := by decide +kernel
theorem dX3_isSo_1 : decode cX3_isSo 1 = .ok (.getfield 80, 3) := by decide +kernel
theorem dX3_isSo_4 : decode cX3_isSo 4 = .ok (.iload_n 2, 1) := by decide +kernel
theorem dX3_isSo_5 : decode cX3_isSo 5 = .ok (.iaload, 1) := by decide +kernel
theorem dX3_isSo_6 : decode cX3_isSo 6 = .ok (.istore_n 3, 1) := by decide +kernel
theorem dX3_isSo_7 : decode cX3_isSo 7 = .ok (.aload_n 1, 1) := by decide +kernel
theorem dX3_isSo_8 : decode cX3_isSo 8 = .ok (.getfield 53, 3) := by decide +kernel
theorem dX3_isSo_11 : decode cX3_isSo 11 = .ok (.iload_n 2, 1) := by decide +kernel
theorem dX3_isSo_12 : decode cX3_isSo 12 = .ok (.iaload, 1) := by decide +kernel
theorem dX3_isSo_13 : decode cX3_isSo 13 = .ok (.tableswitch 102 9 11 #[27, 49, 74], 27) := by decide +kernel
theorem dX3_isSo_40 : decode cX3_isSo 40 = .ok (.aload_n 0, 1) := by decide +kernel
theorem dX3_isSo_41 : decode cX3_isSo 41 = .ok (.iload_n 3, 1) := by decide +kernel
theorem dX3_isSo_42 : decode cX3_isSo 42 = .ok (.invokevirtual 86, 3) := by decide +kernel
theorem dX3_isSo_45 : decode cX3_isSo 45 = .ok (.ifCond .eq 15, 3) := by decide +kernel
theorem dX3_isSo_48 : decode cX3_isSo 48 = .ok (.aload_n 0, 1) := by decide +kernel
theorem dX3_isSo_49 : decode cX3_isSo 49 = .ok (.iload_n 3, 1) := by decide +kernel
theorem dX3_isSo_50 : decode cX3_isSo 50 = .ok (.invokevirtual 90, 3) := by decide +kernel
theorem dX3_isSo_53 : decode cX3_isSo 53 = .ok (.ifCond .ne 7, 3) := by decide +kernel
theorem dX3_isSo_56 : decode cX3_isSo 56 = .ok (.iconst 1, 1) := by decide +kernel
theorem dX3_isSo_57 : decode cX3_isSo 57 = .ok (.goto 4, 3) := by decide +kernel
theorem dX3_isSo_60 : decode cX3_isSo 60 = .ok (.iconst 0, 1) := by decide +kernel
theorem dX3_isSo_61 : decode cX3_isSo 61 = .ok (.ireturn, 1) := by decide +kernel
theorem dX3_isSo_62 : decode cX3_isSo 62 = .ok (.aload_n 0, 1) := by decide +kernel
theorem dX3_isSo_63 : decode cX3_isSo 63 = .ok (.iload_n 3, 1) := by decide +kernel
theorem dX3_isSo_64 : decode cX3_isSo 64 = .ok (.invokevirtual 93, 3) := by decide +kernel
theorem dX3_isSo_67 : decode cX3_isSo 67 = .ok (.ifCond .eq 18, 3) := by decide +kernel
theorem dX3_isSo_70 : decode cX3_isSo 70 = .ok (.aload_n 0, 1) := by decide +kernel
theorem dX3_isSo_71 : decode cX3_isSo 71 = .ok (.getfield 96, 3) := by decide +kernel
theorem dX3_isSo_74 : decode cX3_isSo 74 = .ok (.iload_n 3, 1) := by decide +kernel
theorem dX3_isSo_75 : decode cX3_isSo 75 = .ok (.invokestatic 99, 3) := by decide +kernel
theorem dX3_isSo_78 : decode cX3_isSo 78 = .ok (.ifCond .eq 7, 3) := by decide +kernel
theorem dX3_isSo_81 : decode cX3_isSo 81 = .ok (.iconst 1, 1) := by decide +kernel
theorem dX3_isSo_82 : decode cX3_isSo 82 = .ok (.goto 4, 3) := by decide +kernel
theorem dX3_isSo_85 : decode cX3_isSo 85 = .ok (.iconst 0, 1) := by decide +kernel
theorem dX3_isSo_86 : decode cX3_isSo 86 = .ok (.ireturn, 1) := by decide +kernel
theorem dX3_isSo_87 : decode cX3_isSo 87 = .ok (.aload_n 0, 1) := by decide +kernel
theorem dX3_isSo_88 : decode cX3_isSo 88 = .ok (.iload_n 3, 1) := by decide +kernel
theorem dX3_isSo_89 : decode cX3_isSo 89 = .ok (.invokevirtual 103, 3) := by decide +kernel
theorem dX3_isSo_92 : decode cX3_isSo 92 = .ok (.ifCond .eq 21, 3) := by decide +kernel
theorem dX3_isSo_95 : decode cX3_isSo 95 = .ok (.aload_n 0, 1) := by decide +kernel
theorem dX3_isSo_96 : decode cX3_isSo 96 = .ok (.getfield 106, 3) := by decide +kernel
theorem dX3_isSo_99 : decode cX3_isSo 99 = .ok (.iload_n 3, 1) := by decide +kernel
theorem dX3_isSo_100 : decode cX3_isSo 100 = .ok (.iaload, 1) := by decide +kernel
theorem dX3_isSo_101 : decode cX3_isSo 101 = .ok (.aload_n 1, 1) := by decide +kernel
theorem dX3_isSo_102 : decode cX3_isSo 102 = .ok (.iload_n 2, 1) := by decide +kernel
theorem dX3_isSo_103 : decode cX3_isSo 103 = .ok (.invokestatic 109, 3) := by decide +kernel
theorem dX3_isSo_106 : decode cX3_isSo 106 = .ok (.ifCond .eq 7, 3) := by decide +kernel
theorem dX3_isSo_109 : decode cX3_isSo 109 = .ok (.iconst 1, 1) := by decide +kernel
theorem dX3_isSo_110 : decode cX3_isSo 110 = .ok (.goto 4, 3) := by decide +kernel
theorem dX3_isSo_113 : decode cX3_isSo 113 = .ok (.iconst 0, 1) := by decide +kernel
theorem dX3_isSo_114 : decode cX3_isSo 114 = .ok (.ireturn, 1) := by decide +kernel
theorem dX3_isSo_115 : decode cX3_isSo 115 = .ok (.aload_n 0, 1) := by decide +kernel
theorem dX3_isSo_116 : decode cX3_isSo 116 = .ok (.iload_n 3, 1) := by decide +kernel
theorem dX3_isSo_117 : decode cX3_isSo 117 = .ok (.invokevirtual 93, 3) := by decide +kernel
theorem dX3_isSo_120 : decode cX3_isSo 120 = .ok (.ifCond .eq 21, 3) := by decide +kernel
theorem dX3_isSo_123 : decode cX3_isSo 123 = .ok (.aload_n 0, 1) := by decide +kernel
theorem dX3_isSo_124 : decode cX3_isSo 124 = .ok (.getfield 113, 3) := by decide +kernel
theorem dX3_isSo_127 : decode cX3_isSo 127 = .ok (.iload_n 3, 1) := by decide +kernel
theorem dX3_isSo_128 : decode cX3_isSo 128 = .ok (.iaload, 1) := by decide +kernel
theorem dX3_isSo_129 : decode cX3_isSo 129 = .ok (.aload_n 1, 1) := by decide +kernel
theorem dX3_isSo_130 : decode cX3_isSo 130 = .ok (.iload_n 2, 1) := by decide +kernel
theorem dX3_isSo_131 : decode cX3_isSo 131 = .ok (.invokestatic 109, 3) := by decide +kernel
theorem dX3_isSo_134 : decode cX3_isSo 134 = .ok (.ifCond .eq 7, 3) := by decide +kernel
theorem dX3_isSo_137 : decode cX3_isSo 137 = .ok (.iconst 1, 1) := by decide +kernel
theorem dX3_isSo_138 : decode cX3_isSo 138 = .ok (.goto 4, 3) := by decide +kernel
theorem dX3_isSo_141 : decode cX3_isSo 141 = .ok (.iconst 0, 1) := by decide +kernel
theorem dX3_isSo_142 : decode cX3_isSo 142 = .ok (.ireturn, 1) := by decide +kernel
def qX3_isSo_b61  (post : Int32 → St → St → Prop)  (s0 : Int32) (u0 : St) (u1 : St) : Prop := (bz s0 ∧ post s0 u0 u1)
set_option maxRecDepth 100000 in
set_option maxHeartbeats 4000000 in
theorem kX3_isSo_b61 {C : Cx} {o0 : Nat} {a0 : Nat → Nat} {o1 : Nat} {a1 : Nat → Nat} (hC : Fx C cX3_isSo 4 RX3) (hR0 : xR C = rm 3) {post : Int32 → St → St → Prop} (hR : RZ C cX3_isSo 4 (fun u : St × St => (wX2 o0 a0 (xy C) u.1 (wX7 o1 a1 (xy C) u.2 []))) (fun r u => post r u.1 u.2))  {s0 : Int32} {u0 : St} {u1 : St} (h : qX3_isSo_b61 post s0 u0 u1) : G C 0 0 4 (wX2 o0 a0 (xy C) u0 (wX7 o1 a1 (xy C) u1 [])) 61 [] [.int s0] := by
  exact hR _ _ _ (u0, u1) dX3_isSo_61 h.1 h.2
def qX3_isSo_b60  (post : Int32 → St → St → Prop)  (u0 : St) (u1 : St) : Prop := qX3_isSo_b61 post (0 : Int32) u0 u1
set_option maxRecDepth 100000 in
set_option maxHeartbeats 4000000 in
theorem kX3_isSo_b60 {C : Cx} {o0 : Nat} {a0 : Nat → Nat} {o1 : Nat} {a1 : Nat → Nat} (hC : Fx C cX3_isSo 4 RX3) (hR0 : xR C = rm 3) {post : Int32 → St → St → Prop} (hR : RZ C cX3_isSo 4 (fun u : St × St => (wX2 o0 a0 (xy C) u.1 (wX7 o1 a1 (xy C) u.2 []))) (fun r u => post r u.1 u.2))  {u0 : St} {u1 : St} (h : qX3_isSo_b60 post u0 u1) : G C 0 0 4 (wX2 o0 a0 (xy C) u0 (wX7 o1 a1 (xy C) u1 [])) 60 [] [] := by
  refine g_iconst (pc := 60) (v := 0) hC dX3_isSo_60 (by decide) ?_
  exact kX3_isSo_b61 hC hR0 hR  h
def qX3_isSo_b86  (post : Int32 → St → St → Prop)  (s0 : Int32) (u0 : St) (u1 : St) : Prop := (bz s0 ∧ post s0 u0 u1)
set_option maxRecDepth 100000 in
set_option maxHeartbeats 4000000 in
theorem kX3_isSo_b86 {C : Cx} {o0 : Nat} {a0 : Nat → Nat} {o1 : Nat} {a1 : Nat → Nat} (hC : Fx C cX3_isSo 4 RX3) (hR0 : xR C = rm 3) {post : Int32 → St → St → Prop} (hR : RZ C cX3_isSo 4 (fun u : St × St => (wX2 o0 a0 (xy C) u.1 (wX7 o1 a1 (xy C) u.2 []))) (fun r u => post r u.1 u.2))  {s0 : Int32} {u0 : St} {u1 : St} (h : qX3_isSo_b86 post s0 u0 u1) : G C 0 0 4 (wX2 o0 a0 (xy C) u0 (wX7 o1 a1 (xy C) u1 [])) 86 [] [.int s0] := by
  exact hR _ _ _ (u0, u1) dX3_isSo_86 h.1 h.2
def qX3_isSo_b85  (post : Int32 → St → St → Prop)  (u0 : St) (u1 : St) : Prop := qX3_isSo_b86 post (0 : Int32) u0 u1
set_option maxRecDepth 100000 in
set_option maxHeartbeats 4000000 in
theorem kX3_isSo_b85 {C : Cx} {o0 : Nat} {a0 : Nat → Nat} {o1 : Nat} {a1 : Nat → Nat} (hC : Fx C cX3_isSo 4 RX3) (hR0 : xR C = rm 3) {post : Int32 → St → St → Prop} (hR : RZ C cX3_isSo 4 (fun u : St × St => (wX2 o0 a0 (xy C) u.1 (wX7 o1 a1 (xy C) u.2 []))) (fun r u => post r u.1 u.2))  {u0 : St} {u1 : St} (h : qX3_isSo_b85 post u0 u1) : G C 0 0 4 (wX2 o0 a0 (xy C) u0 (wX7 o1 a1 (xy C) u1 [])) 85 [] [] := by
  refine g_iconst (pc := 85) (v := 0) hC dX3_isSo_85 (by decide) ?_
  exact kX3_isSo_b86 hC hR0 hR  h
def qX3_isSo_b114  (post : Int32 → St → St → Prop)  (s0 : Int32) (u0 : St) (u1 : St) : Prop := (bz s0 ∧ post s0 u0 u1)
set_option maxRecDepth 100000 in
set_option maxHeartbeats 4000000 in
theorem kX3_isSo_b114 {C : Cx} {o0 : Nat} {a0 : Nat → Nat} {o1 : Nat} {a1 : Nat → Nat} (hC : Fx C cX3_isSo 4 RX3) (hR0 : xR C = rm 3) {post : Int32 → St → St → Prop} (hR : RZ C cX3_isSo 4 (fun u : St × St => (wX2 o0 a0 (xy C) u.1 (wX7 o1 a1 (xy C) u.2 []))) (fun r u => post r u.1 u.2))  {s0 : Int32} {u0 : St} {u1 : St} (h : qX3_isSo_b114 post s0 u0 u1) : G C 0 0 4 (wX2 o0 a0 (xy C) u0 (wX7 o1 a1 (xy C) u1 [])) 114 [] [.int s0] := by
  exact hR _ _ _ (u0, u1) dX3_isSo_114 h.1 h.2
def qX3_isSo_b113  (post : Int32 → St → St → Prop)  (u0 : St) (u1 : St) : Prop := qX3_isSo_b114 post (0 : Int32) u0 u1
set_option maxRecDepth 100000 in
set_option maxHeartbeats 4000000 in
theorem kX3_isSo_b113 {C : Cx} {o0 : Nat} {a0 : Nat → Nat} {o1 : Nat} {a1 : Nat → Nat} (hC : Fx C cX3_isSo 4 RX3) (hR0 : xR C = rm 3) {post : Int32 → St → St → Prop} (hR : RZ C cX3_isSo 4 (fun u : St × St => (wX2 o0 a0 (xy C) u.1 (wX7 o1 a1 (xy C) u.2 []))) (fun r u => post r u.1 u.2))  {u0 : St} {u1 : St} (h : qX3_isSo_b113 post u0 u1) : G C 0 0 4 (wX2 o0 a0 (xy C) u0 (wX7 o1 a1 (xy C) u1 [])) 113 [] [] := by
  refine g_iconst (pc := 113) (v := 0) hC dX3_isSo_113 (by decide) ?_
  exact kX3_isSo_b114 hC hR0 hR  h
def qX3_isSo_b142  (post : Int32 → St → St → Prop)  (s0 : Int32) (u0 : St) (u1 : St) : Prop := (bz s0 ∧ post s0 u0 u1)
set_option maxRecDepth 100000 in
set_option maxHeartbeats 4000000 in
theorem kX3_isSo_b142 {C : Cx} {o0 : Nat} {a0 : Nat → Nat} {o1 : Nat} {a1 : Nat → Nat} (hC : Fx C cX3_isSo 4 RX3) (hR0 : xR C = rm 3) {post : Int32 → St → St → Prop} (hR : RZ C cX3_isSo 4 (fun u : St × St => (wX2 o0 a0 (xy C) u.1 (wX7 o1 a1 (xy C) u.2 []))) (fun r u => post r u.1 u.2))  {s0 : Int32} {u0 : St} {u1 : St} (h : qX3_isSo_b142 post s0 u0 u1) : G C 0 0 4 (wX2 o0 a0 (xy C) u0 (wX7 o1 a1 (xy C) u1 [])) 142 [] [.int s0] := by
  exact hR _ _ _ (u0, u1) dX3_isSo_142 h.1 h.2
def qX3_isSo_b141  (post : Int32 → St → St → Prop)  (u0 : St) (u1 : St) : Prop := qX3_isSo_b142 post (0 : Int32) u0 u1
set_option maxRecDepth 100000 in
set_option maxHeartbeats 4000000 in
theorem kX3_isSo_b141 {C : Cx} {o0 : Nat} {a0 : Nat → Nat} {o1 : Nat} {a1 : Nat → Nat} (hC : Fx C cX3_isSo 4 RX3) (hR0 : xR C = rm 3) {post : Int32 → St → St → Prop} (hR : RZ C cX3_isSo 4 (fun u : St × St => (wX2 o0 a0 (xy C) u.1 (wX7 o1 a1 (xy C) u.2 []))) (fun r u => post r u.1 u.2))  {u0 : St} {u1 : St} (h : qX3_isSo_b141 post u0 u1) : G C 0 0 4 (wX2 o0 a0 (xy C) u0 (wX7 o1 a1 (xy C) u1 [])) 141 [] [] := by
  refine g_iconst (pc := 141) (v := 0) hC dX3_isSo_141 (by decide) ?_
  exact kX3_isSo_b142 hC hR0 hR  h
def qX3_isSo (x2 : Int32) (u0 : St) (u1 : St) (post : Int32 → St → St → Prop) : Prop := (vp_in x2 60 ∧ ∀ x3_24 : Int32, x3_24 = (ga u1 4 (x2).toNatClampNeg) → (vp_in x2 60 ∧ (((ga u1 3 (x2).toNatClampNeg) = (9 : Int32) → qX2_isStone x3_24 u0 (fun r_26 u_25 => ((r_26 = 0 → qX3_isSo_b60 post u_25 u1) ∧ (¬ r_26 = 0 → qX2_hasFallen x3_24 u_25 (fun r_30 u_29 => ((¬ r_30 = 0 → qX3_isSo_b60 post u_29 u1) ∧ (r_30 = 0 → qX3_isSo_b61 post (1 : Int32) u_29 u1))))))) ∧ (((ga u1 3 (x2).toNatClampNeg) = (10 : Int32) → qX2_isDebt x3_24 u0 (fun r_35 u_34 => ((r_35 = 0 → qX3_isSo_b85 post u_34 u1) ∧ (¬ r_35 = 0 → qX11_has (gi u_34 6) x3_24 (fun r_38 => ((r_38 = 0 → qX3_isSo_b85 post u_34 u1) ∧ (¬ r_38 = 0 → qX3_isSo_b86 post (1 : Int32) u_34 u1))))))) ∧ (((ga u1 3 (x2).toNatClampNeg) = (11 : Int32) → qX2_isPerson x3_24 u0 (fun r_43 u_42 => ((r_43 = 0 → qX3_isSo_b113 post u_42 u1) ∧ (¬ r_43 = 0 → (vp_in x3_24 5 ∧ qX3_compares (ga u_42 12 (x3_24).toNatClampNeg) x2 u1 (fun r_47 u_46 => ((r_47 = 0 → qX3_isSo_b113 post u_42 u_46) ∧ (¬ r_47 = 0 → qX3_isSo_b114 post (1 : Int32) u_42 u_46)))))))) ∧ (¬ (ga u1 3 (x2).toNatClampNeg) = (9 : Int32) → ¬ (ga u1 3 (x2).toNatClampNeg) = (10 : Int32) → ¬ (ga u1 3 (x2).toNatClampNeg) = (11 : Int32) → qX2_isDebt x3_24 u0 (fun r_52 u_51 => ((r_52 = 0 → qX3_isSo_b141 post u_51 u1) ∧ (¬ r_52 = 0 → (vp_in x3_24 7 ∧ qX3_compares (ga u_51 19 (x3_24).toNatClampNeg) x2 u1 (fun r_56 u_55 => ((r_56 = 0 → qX3_isSo_b141 post u_51 u_55) ∧ (¬ r_56 = 0 → qX3_isSo_b142 post (1 : Int32) u_51 u_55)))))))))))))
set_option maxRecDepth 100000 in
set_option maxHeartbeats 4000000 in
theorem kX3_isSo {C : Cx} {o0 : Nat} {a0 : Nat → Nat} {o1 : Nat} {a1 : Nat → Nat} (hC : Fx C cX3_isSo 4 RX3) (hR0 : xR C = rm 3) {post : Int32 → St → St → Prop} (hR : RZ C cX3_isSo 4 (fun u : St × St => (wX2 o0 a0 (xy C) u.1 (wX7 o1 a1 (xy C) u.2 []))) (fun r u => post r u.1 u.2)) {x2 : Int32} {u0 : St} {u1 : St} (h : qX3_isSo x2 u0 u1 post) : G C 0 0 4 (wX2 o0 a0 (xy C) u0 (wX7 o1 a1 (xy C) u1 [])) 0 [(0, .ref o0), (1, .ref o1), (2, .int x2)] [] := by
  refine g_aload_n (pc := 0) hC 1 dX3_isSo_0 rfl rfl ?_
  refine getX7_4 (pc := 1) hC (F := fun Z => (wX2 o0 a0 (xy C) u0 Z)) (X := (wX2 o0 a0 (xy C) u0 [])) (fun _ => rfl) fl_X3_80 dX3_isSo_1 ?_
  refine g_iload_n (pc := 4) hC 2 dX3_isSo_4 rfl rfl ?_
  refine aldX7_4 (pc := 5) hC (F := fun Z => (wX2 o0 a0 (xy C) u0 Z)) (X := (wX2 o0 a0 (xy C) u0 [])) (fun _ => rfl) h.1 dX3_isSo_5 ?_
  have h := h.2
  refine g_topi (fun x3_24 ex3_24 => ?_)
  have h := h x3_24 ex3_24
  refine g_istore_n (pc := 6) (lv' := [(3, .int x3_24), (0, .ref o0), (1, .ref o1), (2, .int x2)]) hC dX3_isSo_6 rfl (Nat.le_of_ble_eq_true rfl) rfl ?_
  refine g_aload_n (pc := 7) hC 2 dX3_isSo_7 rfl rfl ?_
  refine getX7_3 (pc := 8) hC (F := fun Z => (wX2 o0 a0 (xy C) u0 Z)) (X := (wX2 o0 a0 (xy C) u0 [])) (fun _ => rfl) fl_X3_53 dX3_isSo_8 ?_
  refine g_iload_n (pc := 11) hC 3 dX3_isSo_11 rfl rfl ?_
  refine aldX7_3 (pc := 12) hC (F := fun Z => (wX2 o0 a0 (xy C) u0 Z)) (X := (wX2 o0 a0 (xy C) u0 [])) (fun _ => rfl) h.1 dX3_isSo_12 ?_
  have h := h.2
  by_cases c_33 : (ga u1 3 (x2).toNatClampNeg) = (9 : Int32)
  · have h := h.1 c_33
    refine g_tabIn (pc := 13) (tgt := 40) hC dX3_isSo_13 (by rw [c_33]; decide) (by rw [c_33]; decide) (by rw [c_33]; rfl) (by decide) ?_
    refine g_aload_n (pc := 40) hC 1 dX3_isSo_40 rfl rfl ?_
    refine g_iload_n (pc := 41) hC 0 dX3_isSo_41 rfl rfl ?_
    refine g_callV_i (pc := 42) (wd := fun (u : St) Y => (wX2 o0 a0 (xy C) u Y)) (F := fun Z => Z) (X := []) (As := [.int x3_24]) (rest := []) (u := u0) hC (fun _ _ => rfl) (fun _ => rfl) (ctX2_isStone h) wvX2_isStone ml_X3_86 (ci := 1) (q0 := 0) rfl rfl rfl rfl (rmok hR0 rfl) ⟨Nat.zero_le _, Nat.zero_le _⟩ rfl (Nat.le_of_ble_eq_true rfl) dX3_isSo_42 (fun r_26 u_25 h => ?_)
    refine g_if_eq (pc := 45) (tgt := 60) hC dX3_isSo_45 (by decide) (fun c_28 => ?_) (fun c_28 => ?_)
    · have h := h.1 c_28
      refine g_sub (lv' := []) [] rfl ?_
      exact kX3_isSo_b60 hC hR0 hR  h
    · have h := h.2 c_28
      refine g_aload_n (pc := 48) hC 1 dX3_isSo_48 rfl rfl ?_
      refine g_iload_n (pc := 49) hC 0 dX3_isSo_49 rfl rfl ?_
      refine g_callV_i (pc := 50) (wd := fun (u : St) Y => (wX2 o0 a0 (xy C) u Y)) (F := fun Z => Z) (X := []) (As := [.int x3_24]) (rest := []) (u := u_25) hC (fun _ _ => rfl) (fun _ => rfl) (ctX2_hasFallen h) wvX2_hasFallen ml_X3_90 (ci := 1) (q0 := 0) rfl rfl rfl rfl (rmok hR0 rfl) ⟨Nat.zero_le _, Nat.zero_le _⟩ rfl (Nat.le_of_ble_eq_true rfl) dX3_isSo_50 (fun r_30 u_29 h => ?_)
      refine g_if_ne (pc := 53) (tgt := 60) hC dX3_isSo_53 (by decide) (fun c_32 => ?_) (fun c_32 => ?_)
      · have h := h.1 c_32
        refine g_sub (lv' := []) [] rfl ?_
        exact kX3_isSo_b60 hC hR0 hR  h
      · have h := h.2 c_32
        refine g_iconst (pc := 56) (v := 1) hC dX3_isSo_56 (by decide) ?_
        refine g_goto (pc := 57) (tgt := 61) hC dX3_isSo_57 (by decide) ?_
        refine g_sub (lv' := []) [] rfl ?_
        exact kX3_isSo_b61 hC hR0 hR  h
  by_cases c_41 : (ga u1 3 (x2).toNatClampNeg) = (10 : Int32)
  · have h := h.2.1 c_41
    refine g_tabIn (pc := 13) (tgt := 62) hC dX3_isSo_13 (by rw [c_41]; decide) (by rw [c_41]; decide) (by rw [c_41]; rfl) (by decide) ?_
    refine g_aload_n (pc := 62) hC 1 dX3_isSo_62 rfl rfl ?_
    refine g_iload_n (pc := 63) hC 0 dX3_isSo_63 rfl rfl ?_
    refine g_callV_i (pc := 64) (wd := fun (u : St) Y => (wX2 o0 a0 (xy C) u Y)) (F := fun Z => Z) (X := []) (As := [.int x3_24]) (rest := []) (u := u0) hC (fun _ _ => rfl) (fun _ => rfl) (ctX2_isDebt h) wvX2_isDebt ml_X3_93 (ci := 1) (q0 := 0) rfl rfl rfl rfl (rmok hR0 rfl) ⟨Nat.zero_le _, Nat.zero_le _⟩ rfl (Nat.le_of_ble_eq_true rfl) dX3_isSo_64 (fun r_35 u_34 h => ?_)
    refine g_if_eq (pc := 67) (tgt := 85) hC dX3_isSo_67 (by decide) (fun c_37 => ?_) (fun c_37 => ?_)
    · have h := h.1 c_37
      refine g_sub (lv' := []) [] rfl ?_
      exact kX3_isSo_b85 hC hR0 hR  h
    · have h := h.2 c_37
      refine g_aload_n (pc := 70) hC 1 dX3_isSo_70 rfl rfl ?_
      refine getX2_6 (pc := 71) hC (F := fun Z => Z) (X := []) (fun _ => rfl) fl_X3_96 dX3_isSo_71 ?_
      refine g_iload_n (pc := 74) hC 0 dX3_isSo_74 rfl rfl ?_
      refine g_callSN_i (pc := 75) (wd := fun (_ : Unit) Y => Y) (F := fun Z => Z) (X := []) (As := [.int (gi u_34 6), .int x3_24]) (rest := []) (u := ()) hC (fun _ _ => rfl) (fun _ => rfl) (ctX11_has h) wvX11_has nl_X3_99 rfl (rmok hR0 rfl) ⟨Nat.zero_le _, Nat.zero_le _⟩ rfl (Nat.le_of_ble_eq_true rfl) dX3_isSo_75 (fun r_38 u_39 h => ?_)
      refine g_if_eq (pc := 78) (tgt := 85) hC dX3_isSo_78 (by decide) (fun c_40 => ?_) (fun c_40 => ?_)
      · have h := h.1 c_40
        refine g_sub (lv' := []) [] rfl ?_
        exact kX3_isSo_b85 hC hR0 hR  h
      · have h := h.2 c_40
        refine g_iconst (pc := 81) (v := 1) hC dX3_isSo_81 (by decide) ?_
        refine g_goto (pc := 82) (tgt := 86) hC dX3_isSo_82 (by decide) ?_
        refine g_sub (lv' := []) [] rfl ?_
        exact kX3_isSo_b86 hC hR0 hR  h
  by_cases c_50 : (ga u1 3 (x2).toNatClampNeg) = (11 : Int32)
  · have h := h.2.2.1 c_50
    refine g_tabIn (pc := 13) (tgt := 87) hC dX3_isSo_13 (by rw [c_50]; decide) (by rw [c_50]; decide) (by rw [c_50]; rfl) (by decide) ?_
    refine g_aload_n (pc := 87) hC 1 dX3_isSo_87 rfl rfl ?_
    refine g_iload_n (pc := 88) hC 0 dX3_isSo_88 rfl rfl ?_
    refine g_callV_i (pc := 89) (wd := fun (u : St) Y => (wX2 o0 a0 (xy C) u Y)) (F := fun Z => Z) (X := []) (As := [.int x3_24]) (rest := []) (u := u0) hC (fun _ _ => rfl) (fun _ => rfl) (ctX2_isPerson h) wvX2_isPerson ml_X3_103 (ci := 1) (q0 := 0) rfl rfl rfl rfl (rmok hR0 rfl) ⟨Nat.zero_le _, Nat.zero_le _⟩ rfl (Nat.le_of_ble_eq_true rfl) dX3_isSo_89 (fun r_43 u_42 h => ?_)
    refine g_if_eq (pc := 92) (tgt := 113) hC dX3_isSo_92 (by decide) (fun c_45 => ?_) (fun c_45 => ?_)
    · have h := h.1 c_45
      refine g_sub (lv' := []) [] rfl ?_
      exact kX3_isSo_b113 hC hR0 hR  h
    · have h := h.2 c_45
      refine g_aload_n (pc := 95) hC 1 dX3_isSo_95 rfl rfl ?_
      refine getX2_12 (pc := 96) hC (F := fun Z => Z) (X := []) (fun _ => rfl) fl_X3_106 dX3_isSo_96 ?_
      refine g_iload_n (pc := 99) hC 0 dX3_isSo_99 rfl rfl ?_
      refine aldX2_12 (pc := 100) hC (F := fun Z => Z) (X := []) (fun _ => rfl) h.1 dX3_isSo_100 ?_
      have h := h.2
      refine g_aload_n (pc := 101) hC 2 dX3_isSo_101 rfl rfl ?_
      refine g_iload_n (pc := 102) hC 3 dX3_isSo_102 rfl rfl ?_
      refine g_callS_i (pc := 103) (wd := fun (u : St) Y => (wX7 o1 a1 (xy C) u Y)) (F := fun Z => (wX2 o0 a0 (xy C) u_42 Z)) (X := (wX2 o0 a0 (xy C) u_42 [])) (As := [.int (ga u_42 12 (x3_24).toNatClampNeg), .ref o1, .int x2]) (rest := []) (u := u1) hC (fun _ _ => rfl) (fun _ => rfl) (ctX3_compares h) wvX3_compares ml_X3_109 rfl (rmok hR0 rfl) ⟨Nat.zero_le _, Nat.zero_le _⟩ rfl (Nat.le_of_ble_eq_true rfl) dX3_isSo_103 (fun r_47 u_46 h => ?_)
      refine g_if_eq (pc := 106) (tgt := 113) hC dX3_isSo_106 (by decide) (fun c_49 => ?_) (fun c_49 => ?_)
      · have h := h.1 c_49
        refine g_sub (lv' := []) [] rfl ?_
        exact kX3_isSo_b113 hC hR0 hR  h
      · have h := h.2 c_49
        refine g_iconst (pc := 109) (v := 1) hC dX3_isSo_109 (by decide) ?_
        refine g_goto (pc := 110) (tgt := 114) hC dX3_isSo_110 (by decide) ?_
        refine g_sub (lv' := []) [] rfl ?_
        exact kX3_isSo_b114 hC hR0 hR  h
  have h := h.2.2.2 c_33 c_41 c_50
  refine g_tabOut (pc := 13) (tgt := 115) hC dX3_isSo_13 (tab_out (ga u1 3 (x2).toNatClampNeg) (9) 3 (11) rfl (tab_s c_33 (tab_s c_41 (tab_s c_50 tab_0)))) (by decide) ?_
  refine g_aload_n (pc := 115) hC 1 dX3_isSo_115 rfl rfl ?_
  refine g_iload_n (pc := 116) hC 0 dX3_isSo_116 rfl rfl ?_
  refine g_callV_i (pc := 117) (wd := fun (u : St) Y => (wX2 o0 a0 (xy C) u Y)) (F := fun Z => Z) (X := []) (As := [.int x3_24]) (rest := []) (u := u0) hC (fun _ _ => rfl) (fun _ => rfl) (ctX2_isDebt h) wvX2_isDebt ml_X3_93 (ci := 1) (q0 := 0) rfl rfl rfl rfl (rmok hR0 rfl) ⟨Nat.zero_le _, Nat.zero_le _⟩ rfl (Nat.le_of_ble_eq_true rfl) dX3_isSo_117 (fun r_52 u_51 h => ?_)
  refine g_if_eq (pc := 120) (tgt := 141) hC dX3_isSo_120 (by decide) (fun c_54 => ?_) (fun c_54 => ?_)
  · have h := h.1 c_54
    refine g_sub (lv' := []) [] rfl ?_
    exact kX3_isSo_b141 hC hR0 hR  h
  · have h := h.2 c_54
    refine g_aload_n (pc := 123) hC 1 dX3_isSo_123 rfl rfl ?_
    refine getX2_19 (pc := 124) hC (F := fun Z => Z) (X := []) (fun _ => rfl) fl_X3_113 dX3_isSo_124 ?_
    refine g_iload_n (pc := 127) hC 0 dX3_isSo_127 rfl rfl ?_
    refine aldX2_19 (pc := 128) hC (F := fun Z => Z) (X := []) (fun _ => rfl) h.1 dX3_isSo_128 ?_
    have h := h.2
    refine g_aload_n (pc := 129) hC 2 dX3_isSo_129 rfl rfl ?_
    refine g_iload_n (pc := 130) hC 3 dX3_isSo_130 rfl rfl ?_
    refine g_callS_i (pc := 131) (wd := fun (u : St) Y => (wX7 o1 a1 (xy C) u Y)) (F := fun Z => (wX2 o0 a0 (xy C) u_51 Z)) (X := (wX2 o0 a0 (xy C) u_51 [])) (As := [.int (ga u_51 19 (x3_24).toNatClampNeg), .ref o1, .int x2]) (rest := []) (u := u1) hC (fun _ _ => rfl) (fun _ => rfl) (ctX3_compares h) wvX3_compares ml_X3_109 rfl (rmok hR0 rfl) ⟨Nat.zero_le _, Nat.zero_le _⟩ rfl (Nat.le_of_ble_eq_true rfl) dX3_isSo_131 (fun r_56 u_55 h => ?_)
    refine g_if_eq (pc := 134) (tgt := 141) hC dX3_isSo_134 (by decide) (fun c_58 => ?_) (fun c_58 => ?_)
    · have h := h.1 c_58
      refine g_sub (lv' := []) [] rfl ?_
      exact kX3_isSo_b141 hC hR0 hR  h
    · have h := h.2 c_58
      refine g_iconst (pc := 137) (v := 1) hC dX3_isSo_137 (by decide) ?_
      refine g_goto (pc := 138) (tgt := 142) hC dX3_isSo_138 (by decide) ?_
      refine g_sub (lv' := []) [] rfl ?_
      exact kX3_isSo_b142 hC hR0 hR  h
theorem ctX3_isSo {l : Launch} {D : va_G} {cy : Nat → ClassId} {kd : Nat → Nat} {o0 : Nat} {a0 : Nat → Nat} {o1 : Nat} {a1 : Nat → Nat} {x2 : Int32} {u0 : St} {u1 : St} {post : Int32 → St → St → Prop} (h : qX3_isSo x2 u0 u1 post) : CtI l D cy kd yX3_isSo cX3_isSo 4 3 .boolean [.ref o0, .ref o1, .int x2] (fun u : St × St => (wX2 o0 a0 cy u.1 (wX7 o1 a1 cy u.2 []))) (u0, u1) (fun r u => post r u.1 u.2) := met_z (by decide) (Nat.le_of_ble_eq_true rfl) (fun C e1 e2 e3 e4 e5 hC hR => by subst e1 e2 e3 e4; exact kX3_isSo hC e5 hR h)
theorem dX3_turnTo_0 : decode cX3_turnTo 0 = .ok (.aload_n 2, 1) := by decide +kernel
theorem dX3_turnTo_1 : decode cX3_turnTo 1 = .ok (.getfield 53, 3) := by decide +kernel
theorem dX3_turnTo_4 : decode cX3_turnTo 4 = .ok (.iload_n 3, 1) := by decide +kernel
theorem dX3_turnTo_5 : decode cX3_turnTo 5 = .ok (.iaload, 1) := by decide +kernel
theorem dX3_turnTo_6 : decode cX3_turnTo 6 = .ok (.lookupswitch 65 #[(6, 26), (7, 31)], 26) := by decide +kernel
theorem dX3_turnTo_32 : decode cX3_turnTo 32 = .ok (.aload_n 2, 1) := by decide +kernel
theorem dX3_turnTo_33 : decode cX3_turnTo 33 = .ok (.getfield 46, 3) := by decide +kernel
theorem dX3_turnTo_36 : decode cX3_turnTo 36 = .ok (.ireturn, 1) := by decide +kernel
theorem dX3_turnTo_37 : decode cX3_turnTo 37 = .ok (.aload_n 0, 1) := by decide +kernel
theorem dX3_turnTo_38 : decode cX3_turnTo 38 = .ok (.getfield 11, 3) := by decide +kernel
theorem dX3_turnTo_41 : decode cX3_turnTo 41 = .ok (.iload_n 3, 1) := by decide +kernel
theorem dX3_turnTo_42 : decode cX3_turnTo 42 = .ok (.aload_n 2, 1) := by decide +kernel
theorem dX3_turnTo_43 : decode cX3_turnTo 43 = .ok (.getfield 80, 3) := by decide +kernel
theorem dX3_turnTo_46 : decode cX3_turnTo 46 = .ok (.iload_n 3, 1) := by decide +kernel
theorem dX3_turnTo_47 : decode cX3_turnTo 47 = .ok (.iaload, 1) := by decide +kernel
theorem dX3_turnTo_48 : decode cX3_turnTo 48 = .ok (.iastore, 1) := by decide +kernel
theorem dX3_turnTo_49 : decode cX3_turnTo 49 = .ok (.aload_n 2, 1) := by decide +kernel
theorem dX3_turnTo_50 : decode cX3_turnTo 50 = .ok (.getfield 77, 3) := by decide +kernel
theorem dX3_turnTo_53 : decode cX3_turnTo 53 = .ok (.iload_n 3, 1) := by decide +kernel
theorem dX3_turnTo_54 : decode cX3_turnTo 54 = .ok (.iaload, 1) := by decide +kernel
theorem dX3_turnTo_55 : decode cX3_turnTo 55 = .ok (.iload_n 3, 1) := by decide +kernel
theorem dX3_turnTo_56 : decode cX3_turnTo 56 = .ok (.iconst 1, 1) := by decide +kernel
theorem dX3_turnTo_57 : decode cX3_turnTo 57 = .ok (.iadd, 1) := by decide +kernel
theorem dX3_turnTo_58 : decode cX3_turnTo 58 = .ok (.if_icmp .ne 9, 3) := by decide +kernel
theorem dX3_turnTo_61 : decode cX3_turnTo 61 = .ok (.iload_n 3, 1) := by decide +kernel
theorem dX3_turnTo_62 : decode cX3_turnTo 62 = .ok (.iconst 2, 1) := by decide +kernel
theorem dX3_turnTo_63 : decode cX3_turnTo 63 = .ok (.iadd, 1) := by decide +kernel
theorem dX3_turnTo_64 : decode cX3_turnTo 64 = .ok (.goto 6, 3) := by decide +kernel
theorem dX3_turnTo_67 : decode cX3_turnTo 67 = .ok (.iload_n 3, 1) := by decide +kernel
theorem dX3_turnTo_68 : decode cX3_turnTo 68 = .ok (.iconst 1, 1) := by decide +kernel
theorem dX3_turnTo_69 : decode cX3_turnTo 69 = .ok (.iadd, 1) := by decide +kernel
theorem dX3_turnTo_70 : decode cX3_turnTo 70 = .ok (.ireturn, 1) := by decide +kernel
theorem dX3_turnTo_71 : decode cX3_turnTo 71 = .ok (.aload_n 1, 1) := by decide +kernel
theorem dX3_turnTo_72 : decode cX3_turnTo 72 = .ok (.aload_n 2, 1) := by decide +kernel
theorem dX3_turnTo_73 : decode cX3_turnTo 73 = .ok (.iload_n 3, 1) := by decide +kernel
theorem dX3_turnTo_74 : decode cX3_turnTo 74 = .ok (.invokestatic 83, 3) := by decide +kernel
theorem dX3_turnTo_77 : decode cX3_turnTo 77 = .ok (.ifCond .eq 9, 3) := by decide +kernel
theorem dX3_turnTo_80 : decode cX3_turnTo 80 = .ok (.iload_n 3, 1) := by decide +kernel
theorem dX3_turnTo_81 : decode cX3_turnTo 81 = .ok (.iconst 1, 1) := by decide +kernel
theorem dX3_turnTo_82 : decode cX3_turnTo 82 = .ok (.iadd, 1) := by decide +kernel
theorem dX3_turnTo_83 : decode cX3_turnTo 83 = .ok (.goto 11, 3) := by decide +kernel
theorem dX3_turnTo_86 : decode cX3_turnTo 86 = .ok (.aload_n 2, 1) := by decide +kernel
theorem dX3_turnTo_87 : decode cX3_turnTo 87 = .ok (.getfield 77, 3) := by decide +kernel
theorem dX3_turnTo_90 : decode cX3_turnTo 90 = .ok (.iload_n 3, 1) := by decide +kernel
theorem dX3_turnTo_91 : decode cX3_turnTo 91 = .ok (.iaload, 1) := by decide +kernel
theorem dX3_turnTo_92 : decode cX3_turnTo 92 = .ok (.iconst 1, 1) := by decide +kernel
theorem dX3_turnTo_93 : decode cX3_turnTo 93 = .ok (.iadd, 1) := by decide +kernel
theorem dX3_turnTo_94 : decode cX3_turnTo 94 = .ok (.ireturn, 1) := by decide +kernel
def qX3_turnTo_b70  (post : Int32 → St → St → St → Prop)  (s0 : Int32) (u0 : St) (u1 : St) (u2 : St) : Prop := post s0 u0 u1 u2
set_option maxRecDepth 100000 in
set_option maxHeartbeats 4000000 in
theorem kX3_turnTo_b70 {C : Cx} {o0 : Nat} {a0 : Nat → Nat} {o1 : Nat} {a1 : Nat → Nat} {o2 : Nat} {a2 : Nat → Nat} (hC : Fx C cX3_turnTo 4 RX3) (hR0 : xR C = rm 4) {post : Int32 → St → St → St → Prop} (hR : RI C cX3_turnTo 4 (fun u : St × St × St => (wX3 o0 a0 (xy C) u.1 (wX2 o1 a1 (xy C) u.2.1 (wX7 o2 a2 (xy C) u.2.2 [])))) (fun r u => post r u.1 u.2.1 u.2.2))  {s0 : Int32} {u0 : St} {u1 : St} {u2 : St} (h : qX3_turnTo_b70 post s0 u0 u1 u2) : G C 0 0 4 (wX3 o0 a0 (xy C) u0 (wX2 o1 a1 (xy C) u1 (wX7 o2 a2 (xy C) u2 []))) 70 [] [.int s0] := by
  exact hR _ _ _ (u0, u1, u2) dX3_turnTo_70 h
def qX3_turnTo_b94  (post : Int32 → St → St → St → Prop)  (s0 : Int32) (u0 : St) (u1 : St) (u2 : St) : Prop := post s0 u0 u1 u2
set_option maxRecDepth 100000 in
set_option maxHeartbeats 4000000 in
theorem kX3_turnTo_b94 {C : Cx} {o0 : Nat} {a0 : Nat → Nat} {o1 : Nat} {a1 : Nat → Nat} {o2 : Nat} {a2 : Nat → Nat} (hC : Fx C cX3_turnTo 4 RX3) (hR0 : xR C = rm 4) {post : Int32 → St → St → St → Prop} (hR : RI C cX3_turnTo 4 (fun u : St × St × St => (wX3 o0 a0 (xy C) u.1 (wX2 o1 a1 (xy C) u.2.1 (wX7 o2 a2 (xy C) u.2.2 [])))) (fun r u => post r u.1 u.2.1 u.2.2))  {s0 : Int32} {u0 : St} {u1 : St} {u2 : St} (h : qX3_turnTo_b94 post s0 u0 u1 u2) : G C 0 0 4 (wX3 o0 a0 (xy C) u0 (wX2 o1 a1 (xy C) u1 (wX7 o2 a2 (xy C) u2 []))) 94 [] [.int s0] := by
  exact hR _ _ _ (u0, u1, u2) dX3_turnTo_94 h
def qX3_turnTo (x3 : Int32) (u0 : St) (u1 : St) (u2 : St) (post : Int32 → St → St → St → Prop) : Prop := (vp_in x3 60 ∧ (((ga u2 3 (x3).toNatClampNeg) = (6 : Int32) → post (gi u2 2) u0 u1 u2) ∧ (((ga u2 3 (x3).toNatClampNeg) = (7 : Int32) → (vp_in x3 60 ∧ (vp_in x3 60 ∧ ∀ u_7 : St, u_7 = (sw u0 8 (upd (ga u0 8) (x3).toNatClampNeg (ga u2 4 (x3).toNatClampNeg))) → (vp_in x3 60 ∧ ((¬ (ga u2 7 (x3).toNatClampNeg) = (x3 + (1 : Int32)) → qX3_turnTo_b70 post (x3 + (1 : Int32)) u_7 u1 u2) ∧ ((ga u2 7 (x3).toNatClampNeg) = (x3 + (1 : Int32)) → qX3_turnTo_b70 post (x3 + (2 : Int32)) u_7 u1 u2)))))) ∧ (¬ (ga u2 3 (x3).toNatClampNeg) = (6 : Int32) → ¬ (ga u2 3 (x3).toNatClampNeg) = (7 : Int32) → qX3_isSo x3 u1 u2 (fun r_12 u_10 u_11 => ((r_12 = 0 → (vp_in x3 60 ∧ qX3_turnTo_b94 post ((ga u_11 7 (x3).toNatClampNeg) + (1 : Int32)) u0 u_10 u_11)) ∧ (¬ r_12 = 0 → qX3_turnTo_b94 post (x3 + (1 : Int32)) u0 u_10 u_11)))))))
set_option maxRecDepth 100000 in
set_option maxHeartbeats 4000000 in
theorem kX3_turnTo {C : Cx} {o0 : Nat} {a0 : Nat → Nat} {o1 : Nat} {a1 : Nat → Nat} {o2 : Nat} {a2 : Nat → Nat} (hC : Fx C cX3_turnTo 4 RX3) (hR0 : xR C = rm 4) {post : Int32 → St → St → St → Prop} (hR : RI C cX3_turnTo 4 (fun u : St × St × St => (wX3 o0 a0 (xy C) u.1 (wX2 o1 a1 (xy C) u.2.1 (wX7 o2 a2 (xy C) u.2.2 [])))) (fun r u => post r u.1 u.2.1 u.2.2)) {x3 : Int32} {u0 : St} {u1 : St} {u2 : St} (h : qX3_turnTo x3 u0 u1 u2 post) : G C 0 0 4 (wX3 o0 a0 (xy C) u0 (wX2 o1 a1 (xy C) u1 (wX7 o2 a2 (xy C) u2 []))) 0 [(0, .ref o0), (1, .ref o1), (2, .ref o2), (3, .int x3)] [] := by
  refine g_aload_n (pc := 0) hC 2 dX3_turnTo_0 rfl rfl ?_
  refine getX7_3 (pc := 1) hC (F := fun Z => (wX3 o0 a0 (xy C) u0 (wX2 o1 a1 (xy C) u1 Z))) (X := (wX3 o0 a0 (xy C) u0 (wX2 o1 a1 (xy C) u1 []))) (fun _ => rfl) fl_X3_53 dX3_turnTo_1 ?_
  refine g_iload_n (pc := 4) hC 3 dX3_turnTo_4 rfl rfl ?_
  refine aldX7_3 (pc := 5) hC (F := fun Z => (wX3 o0 a0 (xy C) u0 (wX2 o1 a1 (xy C) u1 Z))) (X := (wX3 o0 a0 (xy C) u0 (wX2 o1 a1 (xy C) u1 []))) (fun _ => rfl) h.1 dX3_turnTo_5 ?_
  have h := h.2
  by_cases c_6 : (ga u2 3 (x3).toNatClampNeg) = (6 : Int32)
  · have h := h.1 c_6
    refine g_look (pc := 6) (tgt := 32) (off := 26) hC dX3_turnTo_6 (by decide +kernel) (by first | (rw [c_6]; rfl) | rw [c_6]) (by decide) ?_
    refine g_aload_n (pc := 32) hC 2 dX3_turnTo_32 rfl rfl ?_
    refine getX7_2 (pc := 33) hC (F := fun Z => (wX3 o0 a0 (xy C) u0 (wX2 o1 a1 (xy C) u1 Z))) (X := (wX3 o0 a0 (xy C) u0 (wX2 o1 a1 (xy C) u1 []))) (fun _ => rfl) fl_X3_46 dX3_turnTo_33 ?_
    exact hR _ _ _ (u0, u1, u2) dX3_turnTo_36 h
  by_cases c_9 : (ga u2 3 (x3).toNatClampNeg) = (7 : Int32)
  · have h := h.2.1 c_9
    refine g_look (pc := 6) (tgt := 37) (off := 31) hC dX3_turnTo_6 (by decide +kernel) (by first | (rw [c_9]; rfl) | rw [c_9]) (by decide) ?_
    refine g_aload_n (pc := 37) hC 0 dX3_turnTo_37 rfl rfl ?_
    refine getX3_8 (pc := 38) hC (F := fun Z => Z) (X := []) (fun _ => rfl) fl_X3_11 dX3_turnTo_38 ?_
    refine g_iload_n (pc := 41) hC 3 dX3_turnTo_41 rfl rfl ?_
    refine g_aload_n (pc := 42) hC 2 dX3_turnTo_42 rfl rfl ?_
    refine getX7_4 (pc := 43) hC (F := fun Z => (wX3 o0 a0 (xy C) u0 (wX2 o1 a1 (xy C) u1 Z))) (X := (wX3 o0 a0 (xy C) u0 (wX2 o1 a1 (xy C) u1 []))) (fun _ => rfl) fl_X3_80 dX3_turnTo_43 ?_
    refine g_iload_n (pc := 46) hC 3 dX3_turnTo_46 rfl rfl ?_
    refine aldX7_4 (pc := 47) hC (F := fun Z => (wX3 o0 a0 (xy C) u0 (wX2 o1 a1 (xy C) u1 Z))) (X := (wX3 o0 a0 (xy C) u0 (wX2 o1 a1 (xy C) u1 []))) (fun _ => rfl) h.1 dX3_turnTo_47 ?_
    have h := h.2
    refine astX3_8 (pc := 48) hC (F := fun Z => Z) (X := []) (fun _ => rfl) h.1 dX3_turnTo_48 ?_
    have h := h.2
    refine g_st (w := fun z => (wX3 o0 a0 (xy C) z (wX2 o1 a1 (xy C) u1 (wX7 o2 a2 (xy C) u2 [])))) (u := (sw u0 8 (upd (ga u0 8) (x3).toNatClampNeg (ga u2 4 (x3).toNatClampNeg)))) (fun u_7 eu_7 => ?_)
    have h := h u_7 eu_7
    refine g_aload_n (pc := 49) hC 2 dX3_turnTo_49 rfl rfl ?_
    refine getX7_7 (pc := 50) hC (F := fun Z => (wX3 o0 a0 (xy C) u_7 (wX2 o1 a1 (xy C) u1 Z))) (X := (wX3 o0 a0 (xy C) u_7 (wX2 o1 a1 (xy C) u1 []))) (fun _ => rfl) fl_X3_77 dX3_turnTo_50 ?_
    refine g_iload_n (pc := 53) hC 3 dX3_turnTo_53 rfl rfl ?_
    refine aldX7_7 (pc := 54) hC (F := fun Z => (wX3 o0 a0 (xy C) u_7 (wX2 o1 a1 (xy C) u1 Z))) (X := (wX3 o0 a0 (xy C) u_7 (wX2 o1 a1 (xy C) u1 []))) (fun _ => rfl) h.1 dX3_turnTo_54 ?_
    have h := h.2
    refine g_iload_n (pc := 55) hC 3 dX3_turnTo_55 rfl rfl ?_
    refine g_iconst (pc := 56) (v := 1) hC dX3_turnTo_56 (by decide) ?_
    refine g_iadd (pc := 57) hC dX3_turnTo_57 ?_
    refine g_icmp_ne (pc := 58) (tgt := 67) hC dX3_turnTo_58 (by decide) (fun c_8 => ?_) (fun c_8 => ?_)
    · have h := h.1 c_8
      refine g_iload_n (pc := 67) hC 3 dX3_turnTo_67 rfl rfl ?_
      refine g_iconst (pc := 68) (v := 1) hC dX3_turnTo_68 (by decide) ?_
      refine g_iadd (pc := 69) hC dX3_turnTo_69 ?_
      refine g_sub (lv' := []) [] rfl ?_
      exact kX3_turnTo_b70 hC hR0 hR  h
    · have h := h.2 c_8
      refine g_iload_n (pc := 61) hC 3 dX3_turnTo_61 rfl rfl ?_
      refine g_iconst (pc := 62) (v := 2) hC dX3_turnTo_62 (by decide) ?_
      refine g_iadd (pc := 63) hC dX3_turnTo_63 ?_
      refine g_goto (pc := 64) (tgt := 70) hC dX3_turnTo_64 (by decide) ?_
      refine g_sub (lv' := []) [] rfl ?_
      exact kX3_turnTo_b70 hC hR0 hR  h
  have h := h.2.2 c_6 c_9
  refine g_look (pc := 6) (tgt := 71) (off := 65) hC dX3_turnTo_6 (by decide +kernel) ((lv_osw c_6 rfl).trans ((lv_osw c_9 rfl).trans rfl)) (by decide) ?_
  refine g_aload_n (pc := 71) hC 1 dX3_turnTo_71 rfl rfl ?_
  refine g_aload_n (pc := 72) hC 2 dX3_turnTo_72 rfl rfl ?_
  refine g_iload_n (pc := 73) hC 3 dX3_turnTo_73 rfl rfl ?_
  refine g_callS_i (pc := 74) (wd := fun (u : St × St) Y => (wX2 o1 a1 (xy C) u.1 (wX7 o2 a2 (xy C) u.2 Y))) (F := fun Z => (wX3 o0 a0 (xy C) u0 Z)) (X := (wX3 o0 a0 (xy C) u0 [])) (As := [.ref o1, .ref o2, .int x3]) (rest := []) (u := (u1, u2)) hC (fun _ _ => rfl) (fun _ => rfl) (ctX3_isSo h) wvX3_isSo ml_X3_83 rfl (rmok hR0 rfl) ⟨Nat.zero_le _, Nat.zero_le _⟩ rfl (Nat.le_of_ble_eq_true rfl) dX3_turnTo_74 (fun r_12 u_13 h => ?_)
  obtain ⟨u_10, u_11⟩ := u_13
  refine g_if_eq (pc := 77) (tgt := 86) hC dX3_turnTo_77 (by decide) (fun c_14 => ?_) (fun c_14 => ?_)
  · have h := h.1 c_14
    refine g_aload_n (pc := 86) hC 2 dX3_turnTo_86 rfl rfl ?_
    refine getX7_7 (pc := 87) hC (F := fun Z => (wX3 o0 a0 (xy C) u0 (wX2 o1 a1 (xy C) u_10 Z))) (X := (wX3 o0 a0 (xy C) u0 (wX2 o1 a1 (xy C) u_10 []))) (fun _ => rfl) fl_X3_77 dX3_turnTo_87 ?_
    refine g_iload_n (pc := 90) hC 3 dX3_turnTo_90 rfl rfl ?_
    refine aldX7_7 (pc := 91) hC (F := fun Z => (wX3 o0 a0 (xy C) u0 (wX2 o1 a1 (xy C) u_10 Z))) (X := (wX3 o0 a0 (xy C) u0 (wX2 o1 a1 (xy C) u_10 []))) (fun _ => rfl) h.1 dX3_turnTo_91 ?_
    have h := h.2
    refine g_iconst (pc := 92) (v := 1) hC dX3_turnTo_92 (by decide) ?_
    refine g_iadd (pc := 93) hC dX3_turnTo_93 ?_
    refine g_sub (lv' := []) [] rfl ?_
    exact kX3_turnTo_b94 hC hR0 hR  h
  · have h := h.2 c_14
    refine g_iload_n (pc := 80) hC 3 dX3_turnTo_80 rfl rfl ?_
    refine g_iconst (pc := 81) (v := 1) hC dX3_turnTo_81 (by decide) ?_
    refine g_iadd (pc := 82) hC dX3_turnTo_82 ?_
    refine g_goto (pc := 83) (tgt := 94) hC dX3_turnTo_83 (by decide) ?_
    refine g_sub (lv' := []) [] rfl ?_
    exact kX3_turnTo_b94 hC hR0 hR  h
theorem ctX3_turnTo {l : Launch} {D : va_G} {cy : Nat → ClassId} {kd : Nat → Nat} {o0 : Nat} {a0 : Nat → Nat} {o1 : Nat} {a1 : Nat → Nat} {o2 : Nat} {a2 : Nat → Nat} {x3 : Int32} {u0 : St} {u1 : St} {u2 : St} {post : Int32 → St → St → St → Prop} (h : qX3_turnTo x3 u0 u1 u2 post) : CtI l D cy kd yX3_turnTo cX3_turnTo 4 4 .int [.ref o0, .ref o1, .ref o2, .int x3] (fun u : St × St × St => (wX3 o0 a0 cy u.1 (wX2 o1 a1 cy u.2.1 (wX7 o2 a2 cy u.2.2 [])))) (u0, u1, u2) (fun r u => post r u.1 u.2.1 u.2.2) := met_i (by decide) (Nat.le_of_ble_eq_true rfl) (fun C e1 e2 e3 e4 e5 hC hR => by subst e1 e2 e3 e4; exact kX3_turnTo hC e5 hR h)
theorem dX3_goBy_0 : decode cX3_goBy 0 = .ok (.aload_n 1, 1) := by decide +kernel
theorem dX3_goBy_1 : decode cX3_goBy 1 = .ok (.getfield 146, 3) := by decide +kernel
theorem dX3_goBy_4 : decode cX3_goBy 4 = .ok (.iload_n 2, 1) := by decide +kernel
theorem dX3_goBy_5 : decode cX3_goBy 5 = .ok (.iadd, 1) := by decide +kernel
theorem dX3_goBy_6 : decode cX3_goBy 6 = .ok (.sipush 9999, 3) := by decide +kernel
theorem dX3_goBy_9 : decode cX3_goBy 9 = .ok (.if_icmp .le 5, 3) := by decide +kernel
theorem dX3_goBy_12 : decode cX3_goBy 12 = .ok (.iconst 0, 1) := by decide +kernel
theorem dX3_goBy_13 : decode cX3_goBy 13 = .ok (.ireturn, 1) := by decide +kernel
theorem dX3_goBy_14 : decode cX3_goBy 14 = .ok (.aload_n 1, 1) := by decide +kernel
theorem dX3_goBy_15 : decode cX3_goBy 15 = .ok (.iload_n 2, 1) := by decide +kernel
theorem dX3_goBy_16 : decode cX3_goBy 16 = .ok (.invokevirtual 149, 3) := by decide +kernel
theorem dX3_goBy_19 : decode cX3_goBy 19 = .ok (.aload_n 0, 1) := by decide +kernel
theorem dX3_goBy_20 : decode cX3_goBy 20 = .ok (.dup, 1) := by decide +kernel
theorem dX3_goBy_21 : decode cX3_goBy 21 = .ok (.getfield 28, 3) := by decide +kernel
theorem dX3_goBy_24 : decode cX3_goBy 24 = .ok (.iload_n 2, 1) := by decide +kernel
theorem dX3_goBy_25 : decode cX3_goBy 25 = .ok (.iadd, 1) := by decide +kernel
theorem dX3_goBy_26 : decode cX3_goBy 26 = .ok (.putfield 28, 3) := by decide +kernel
theorem dX3_goBy_29 : decode cX3_goBy 29 = .ok (.iconst 1, 1) := by decide +kernel
theorem dX3_goBy_30 : decode cX3_goBy 30 = .ok (.ireturn, 1) := by decide +kernel
def qX3_goBy (x2 : Int32) (u0 : St) (u1 : St) (post : Int32 → St → St → Prop) : Prop := ((((gi u1 4) + x2) ≤ (9999 : Int32) → qX2_passYears x2 u1 (fun u_5 => ∀ u_7 : St, u_7 = (si u0 3 ((gi u0 3) + x2)) → post (1 : Int32) u_7 u_5)) ∧ (¬ ((gi u1 4) + x2) ≤ (9999 : Int32) → post (0 : Int32) u0 u1))
set_option maxRecDepth 100000 in
set_option maxHeartbeats 4000000 in
theorem kX3_goBy {C : Cx} {o0 : Nat} {a0 : Nat → Nat} {o1 : Nat} {a1 : Nat → Nat} (hC : Fx C cX3_goBy 3 RX3) (hR0 : xR C = rm 5) {post : Int32 → St → St → Prop} (hR : RZ C cX3_goBy 3 (fun u : St × St => (wX3 o0 a0 (xy C) u.1 (wX2 o1 a1 (xy C) u.2 []))) (fun r u => post r u.1 u.2)) {x2 : Int32} {u0 : St} {u1 : St} (h : qX3_goBy x2 u0 u1 post) : G C 0 0 3 (wX3 o0 a0 (xy C) u0 (wX2 o1 a1 (xy C) u1 [])) 0 [(0, .ref o0), (1, .ref o1), (2, .int x2)] [] := by
  refine g_aload_n (pc := 0) hC 1 dX3_goBy_0 rfl rfl ?_
  refine getX2_4 (pc := 1) hC (F := fun Z => (wX3 o0 a0 (xy C) u0 Z)) (X := (wX3 o0 a0 (xy C) u0 [])) (fun _ => rfl) fl_X3_146 dX3_goBy_1 ?_
  refine g_iload_n (pc := 4) hC 2 dX3_goBy_4 rfl rfl ?_
  refine g_iadd (pc := 5) hC dX3_goBy_5 ?_
  refine g_sipush (pc := 6) (v := 9999) hC dX3_goBy_6 (by decide) ?_
  refine g_icmp_le (pc := 9) (tgt := 14) hC dX3_goBy_9 (by decide) (fun c_4 => ?_) (fun c_4 => ?_)
  · have h := h.1 c_4
    refine g_aload_n (pc := 14) hC 1 dX3_goBy_14 rfl rfl ?_
    refine g_iload_n (pc := 15) hC 2 dX3_goBy_15 rfl rfl ?_
    refine g_callV_v (pc := 16) (wd := fun (u : St) Y => (wX2 o1 a1 (xy C) u Y)) (F := fun Z => (wX3 o0 a0 (xy C) u0 Z)) (X := (wX3 o0 a0 (xy C) u0 [])) (As := [.int x2]) (rest := []) (u := u1) hC (fun _ _ => rfl) (fun _ => rfl) (ctX2_passYears h) wvX2_passYears ml_X3_149 (ci := 1) (q0 := 0) rfl rfl rfl rfl (rmok hR0 rfl) ⟨Nat.zero_le _, Nat.zero_le _⟩ rfl (Nat.le_of_ble_eq_true rfl) dX3_goBy_16 (fun u_5 h => ?_)
    refine g_aload_n (pc := 19) hC 0 dX3_goBy_19 rfl rfl ?_
    refine g_dup (pc := 20) hC dX3_goBy_20 rfl ?_
    refine getX3_3 (pc := 21) hC (F := fun Z => Z) (X := []) (fun _ => rfl) fl_X3_28 dX3_goBy_21 ?_
    refine g_iload_n (pc := 24) hC 2 dX3_goBy_24 rfl rfl ?_
    refine g_iadd (pc := 25) hC dX3_goBy_25 ?_
    refine putX3_3 (pc := 26) hC (F := fun Z => Z) (X := []) (fun _ => rfl) fl_X3_28 dX3_goBy_26 ?_
    refine g_st (w := fun z => (wX3 o0 a0 (xy C) z (wX2 o1 a1 (xy C) u_5 []))) (u := (si u0 3 ((gi u0 3) + x2))) (fun u_7 eu_7 => ?_)
    have h := h u_7 eu_7
    refine g_iconst (pc := 29) (v := 1) hC dX3_goBy_29 (by decide) ?_
    exact hR _ _ _ (u_7, u_5) dX3_goBy_30 (Or.inr rfl) h
  · have h := h.2 c_4
    refine g_iconst (pc := 12) (v := 0) hC dX3_goBy_12 (by decide) ?_
    exact hR _ _ _ (u0, u1) dX3_goBy_13 (Or.inl rfl) h
theorem ctX3_goBy {l : Launch} {D : va_G} {cy : Nat → ClassId} {kd : Nat → Nat} {o0 : Nat} {a0 : Nat → Nat} {o1 : Nat} {a1 : Nat → Nat} {x2 : Int32} {u0 : St} {u1 : St} {post : Int32 → St → St → Prop} (h : qX3_goBy x2 u0 u1 post) : CtI l D cy kd yX3_goBy cX3_goBy 3 5 .boolean [.ref o0, .ref o1, .int x2] (fun u : St × St => (wX3 o0 a0 cy u.1 (wX2 o1 a1 cy u.2 []))) (u0, u1) (fun r u => post r u.1 u.2) := met_z (by decide) (Nat.le_of_ble_eq_true rfl) (fun C e1 e2 e3 e4 e5 hC hR => by subst e1 e2 e3 e4; exact kX3_goBy hC e5 hR h)
theorem dX3_payIfAble_0 : decode cX3_payIfAble 0 = .ok (.aload_n 1, 1) := by decide +kernel
theorem dX3_payIfAble_1 : decode cX3_payIfAble 1 = .ok (.iload_n 2, 1) := by decide +kernel
theorem dX3_payIfAble_2 : decode cX3_payIfAble 2 = .ok (.invokevirtual 153, 3) := by decide +kernel
theorem dX3_payIfAble_5 : decode cX3_payIfAble 5 = .ok (.ifCond .ne 5, 3) := by decide +kernel
theorem dX3_payIfAble_8 : decode cX3_payIfAble 8 = .ok (.iconst 0, 1) := by decide +kernel
theorem dX3_payIfAble_9 : decode cX3_payIfAble 9 = .ok (.ireturn, 1) := by decide +kernel
theorem dX3_payIfAble_10 : decode cX3_payIfAble 10 = .ok (.aload_n 0, 1) := by decide +kernel
theorem dX3_payIfAble_11 : decode cX3_payIfAble 11 = .ok (.dup, 1) := by decide +kernel
theorem dX3_payIfAble_12 : decode cX3_payIfAble 12 = .ok (.getfield 31, 3) := by decide +kernel
theorem dX3_payIfAble_15 : decode cX3_payIfAble 15 = .ok (.aload_n 1, 1) := by decide +kernel
theorem dX3_payIfAble_16 : decode cX3_payIfAble 16 = .ok (.iload_n 2, 1) := by decide +kernel
theorem dX3_payIfAble_17 : decode cX3_payIfAble 17 = .ok (.invokevirtual 156, 3) := by decide +kernel
theorem dX3_payIfAble_20 : decode cX3_payIfAble 20 = .ok (.iadd, 1) := by decide +kernel
theorem dX3_payIfAble_21 : decode cX3_payIfAble 21 = .ok (.putfield 31, 3) := by decide +kernel
theorem dX3_payIfAble_24 : decode cX3_payIfAble 24 = .ok (.iconst 1, 1) := by decide +kernel
theorem dX3_payIfAble_25 : decode cX3_payIfAble 25 = .ok (.ireturn, 1) := by decide +kernel
def qX3_payIfAble (x2 : Int32) (u0 : St) (u1 : St) (post : Int32 → St → St → Prop) : Prop := qX2_canPay x2 u1 (fun r_9 u_8 => ((¬ r_9 = 0 → qX2_payDebt x2 u_8 (fun r_13 u_12 => ∀ u_15 : St, u_15 = (si u0 4 ((gi u0 4) + r_13)) → post (1 : Int32) u_15 u_12)) ∧ (r_9 = 0 → post (0 : Int32) u0 u_8)))
set_option maxRecDepth 100000 in
set_option maxHeartbeats 4000000 in
theorem kX3_payIfAble {C : Cx} {o0 : Nat} {a0 : Nat → Nat} {o1 : Nat} {a1 : Nat → Nat} (hC : Fx C cX3_payIfAble 3 RX3) (hR0 : xR C = rm 5) {post : Int32 → St → St → Prop} (hR : RZ C cX3_payIfAble 3 (fun u : St × St => (wX3 o0 a0 (xy C) u.1 (wX2 o1 a1 (xy C) u.2 []))) (fun r u => post r u.1 u.2)) {x2 : Int32} {u0 : St} {u1 : St} (h : qX3_payIfAble x2 u0 u1 post) : G C 0 0 3 (wX3 o0 a0 (xy C) u0 (wX2 o1 a1 (xy C) u1 [])) 0 [(0, .ref o0), (1, .ref o1), (2, .int x2)] [] := by
  refine g_aload_n (pc := 0) hC 1 dX3_payIfAble_0 rfl rfl ?_
  refine g_iload_n (pc := 1) hC 2 dX3_payIfAble_1 rfl rfl ?_
  refine g_callV_i (pc := 2) (wd := fun (u : St) Y => (wX2 o1 a1 (xy C) u Y)) (F := fun Z => (wX3 o0 a0 (xy C) u0 Z)) (X := (wX3 o0 a0 (xy C) u0 [])) (As := [.int x2]) (rest := []) (u := u1) hC (fun _ _ => rfl) (fun _ => rfl) (ctX2_canPay h) wvX2_canPay ml_X3_153 (ci := 1) (q0 := 0) rfl rfl rfl rfl (rmok hR0 rfl) ⟨Nat.zero_le _, Nat.zero_le _⟩ rfl (Nat.le_of_ble_eq_true rfl) dX3_payIfAble_2 (fun r_9 u_8 h => ?_)
  refine g_if_ne (pc := 5) (tgt := 10) hC dX3_payIfAble_5 (by decide) (fun c_11 => ?_) (fun c_11 => ?_)
  · have h := h.1 c_11
    refine g_aload_n (pc := 10) hC 0 dX3_payIfAble_10 rfl rfl ?_
    refine g_dup (pc := 11) hC dX3_payIfAble_11 rfl ?_
    refine getX3_4 (pc := 12) hC (F := fun Z => Z) (X := []) (fun _ => rfl) fl_X3_31 dX3_payIfAble_12 ?_
    refine g_aload_n (pc := 15) hC 1 dX3_payIfAble_15 rfl rfl ?_
    refine g_iload_n (pc := 16) hC 2 dX3_payIfAble_16 rfl rfl ?_
    refine g_callV_i (pc := 17) (wd := fun (u : St) Y => (wX2 o1 a1 (xy C) u Y)) (F := fun Z => (wX3 o0 a0 (xy C) u0 Z)) (X := (wX3 o0 a0 (xy C) u0 [])) (As := [.int x2]) (rest := [.int (gi u0 4), .ref o0]) (u := u_8) hC (fun _ _ => rfl) (fun _ => rfl) (ctX2_payDebt h) wvX2_payDebt ml_X3_156 (ci := 1) (q0 := 0) rfl rfl rfl rfl (rmok hR0 rfl) ⟨Nat.zero_le _, Nat.zero_le _⟩ rfl (Nat.le_of_ble_eq_true rfl) dX3_payIfAble_17 (fun r_13 u_12 h => ?_)
    refine g_iadd (pc := 20) hC dX3_payIfAble_20 ?_
    refine putX3_4 (pc := 21) hC (F := fun Z => Z) (X := []) (fun _ => rfl) fl_X3_31 dX3_payIfAble_21 ?_
    refine g_st (w := fun z => (wX3 o0 a0 (xy C) z (wX2 o1 a1 (xy C) u_12 []))) (u := (si u0 4 ((gi u0 4) + r_13))) (fun u_15 eu_15 => ?_)
    have h := h u_15 eu_15
    refine g_iconst (pc := 24) (v := 1) hC dX3_payIfAble_24 (by decide) ?_
    exact hR _ _ _ (u_15, u_12) dX3_payIfAble_25 (Or.inr rfl) h
  · have h := h.2 c_11
    refine g_iconst (pc := 8) (v := 0) hC dX3_payIfAble_8 (by decide) ?_
    exact hR _ _ _ (u0, u_8) dX3_payIfAble_9 (Or.inl rfl) h
theorem ctX3_payIfAble {l : Launch} {D : va_G} {cy : Nat → ClassId} {kd : Nat → Nat} {o0 : Nat} {a0 : Nat → Nat} {o1 : Nat} {a1 : Nat → Nat} {x2 : Int32} {u0 : St} {u1 : St} {post : Int32 → St → St → Prop} (h : qX3_payIfAble x2 u0 u1 post) : CtI l D cy kd yX3_payIfAble cX3_payIfAble 3 5 .boolean [.ref o0, .ref o1, .int x2] (fun u : St × St => (wX3 o0 a0 cy u.1 (wX2 o1 a1 cy u.2 []))) (u0, u1) (fun r u => post r u.1 u.2) := met_z (by decide) (Nat.le_of_ble_eq_true rfl) (fun C e1 e2 e3 e4 e5 hC hR => by subst e1 e2 e3 e4; exact kX3_payIfAble hC e5 hR h)
theorem dX3_snipIfAble_0 : decode cX3_snipIfAble 0 = .ok (.aload_n 1, 1) := by decide +kernel
theorem dX3_snipIfAble_1 : decode cX3_snipIfAble 1 = .ok (.iload_n 2, 1) := by decide +kernel
theorem dX3_snipIfAble_2 : decode cX3_snipIfAble 2 = .ok (.iload_n 3, 1) := by decide +kernel
theorem dX3_snipIfAble_3 : decode cX3_snipIfAble 3 = .ok (.invokevirtual 159, 3) := by decide +kernel
theorem dX3_snipIfAble_6 : decode cX3_snipIfAble 6 = .ok (.ifCond .ne 5, 3) := by decide +kernel
theorem dX3_snipIfAble_9 : decode cX3_snipIfAble 9 = .ok (.iconst 0, 1) := by decide +kernel
theorem dX3_snipIfAble_10 : decode cX3_snipIfAble 10 = .ok (.ireturn, 1) := by decide +kernel
theorem dX3_snipIfAble_11 : decode cX3_snipIfAble 11 = .ok (.aload_n 1, 1) := by decide +kernel
theorem dX3_snipIfAble_12 : decode cX3_snipIfAble 12 = .ok (.iload_n 2, 1) := by decide +kernel
theorem dX3_snipIfAble_13 : decode cX3_snipIfAble 13 = .ok (.iload_n 3, 1) := by decide +kernel
theorem dX3_snipIfAble_14 : decode cX3_snipIfAble 14 = .ok (.invokevirtual 162, 3) := by decide +kernel
theorem dX3_snipIfAble_17 : decode cX3_snipIfAble 17 = .ok (.aload_n 0, 1) := by decide +kernel
theorem dX3_snipIfAble_18 : decode cX3_snipIfAble 18 = .ok (.dup, 1) := by decide +kernel
theorem dX3_snipIfAble_19 : decode cX3_snipIfAble 19 = .ok (.getfield 31, 3) := by decide +kernel
theorem dX3_snipIfAble_22 : decode cX3_snipIfAble 22 = .ok (.iload_n 3, 1) := by decide +kernel
theorem dX3_snipIfAble_23 : decode cX3_snipIfAble 23 = .ok (.iadd, 1) := by decide +kernel
theorem dX3_snipIfAble_24 : decode cX3_snipIfAble 24 = .ok (.putfield 31, 3) := by decide +kernel
theorem dX3_snipIfAble_27 : decode cX3_snipIfAble 27 = .ok (.iconst 1, 1) := by decide +kernel
theorem dX3_snipIfAble_28 : decode cX3_snipIfAble 28 = .ok (.ireturn, 1) := by decide +kernel
def qX3_snipIfAble (x2 : Int32) (x3 : Int32) (u0 : St) (u1 : St) (post : Int32 → St → St → Prop) : Prop := qX2_canSnip x2 x3 u1 (fun r_8 u_7 => ((¬ r_8 = 0 → qX2_snipDebt x2 x3 u_7 (fun u_11 => ∀ u_13 : St, u_13 = (si u0 4 ((gi u0 4) + x3)) → post (1 : Int32) u_13 u_11)) ∧ (r_8 = 0 → post (0 : Int32) u0 u_7)))
set_option maxRecDepth 100000 in
set_option maxHeartbeats 4000000 in
theorem kX3_snipIfAble {C : Cx} {o0 : Nat} {a0 : Nat → Nat} {o1 : Nat} {a1 : Nat → Nat} (hC : Fx C cX3_snipIfAble 4 RX3) (hR0 : xR C = rm 5) {post : Int32 → St → St → Prop} (hR : RZ C cX3_snipIfAble 4 (fun u : St × St => (wX3 o0 a0 (xy C) u.1 (wX2 o1 a1 (xy C) u.2 []))) (fun r u => post r u.1 u.2)) {x2 : Int32} {x3 : Int32} {u0 : St} {u1 : St} (h : qX3_snipIfAble x2 x3 u0 u1 post) : G C 0 0 4 (wX3 o0 a0 (xy C) u0 (wX2 o1 a1 (xy C) u1 [])) 0 [(0, .ref o0), (1, .ref o1), (2, .int x2), (3, .int x3)] [] := by
  refine g_aload_n (pc := 0) hC 1 dX3_snipIfAble_0 rfl rfl ?_
  refine g_iload_n (pc := 1) hC 2 dX3_snipIfAble_1 rfl rfl ?_
  refine g_iload_n (pc := 2) hC 3 dX3_snipIfAble_2 rfl rfl ?_
  refine g_callV_i (pc := 3) (wd := fun (u : St) Y => (wX2 o1 a1 (xy C) u Y)) (F := fun Z => (wX3 o0 a0 (xy C) u0 Z)) (X := (wX3 o0 a0 (xy C) u0 [])) (As := [.int x2, .int x3]) (rest := []) (u := u1) hC (fun _ _ => rfl) (fun _ => rfl) (ctX2_canSnip h) wvX2_canSnip ml_X3_159 (ci := 1) (q0 := 0) rfl rfl rfl rfl (rmok hR0 rfl) ⟨Nat.zero_le _, Nat.zero_le _⟩ rfl (Nat.le_of_ble_eq_true rfl) dX3_snipIfAble_3 (fun r_8 u_7 h => ?_)
  refine g_if_ne (pc := 6) (tgt := 11) hC dX3_snipIfAble_6 (by decide) (fun c_10 => ?_) (fun c_10 => ?_)
  · have h := h.1 c_10
    refine g_aload_n (pc := 11) hC 1 dX3_snipIfAble_11 rfl rfl ?_
    refine g_iload_n (pc := 12) hC 2 dX3_snipIfAble_12 rfl rfl ?_
    refine g_iload_n (pc := 13) hC 3 dX3_snipIfAble_13 rfl rfl ?_
    refine g_callV_v (pc := 14) (wd := fun (u : St) Y => (wX2 o1 a1 (xy C) u Y)) (F := fun Z => (wX3 o0 a0 (xy C) u0 Z)) (X := (wX3 o0 a0 (xy C) u0 [])) (As := [.int x2, .int x3]) (rest := []) (u := u_7) hC (fun _ _ => rfl) (fun _ => rfl) (ctX2_snipDebt h) wvX2_snipDebt ml_X3_162 (ci := 1) (q0 := 0) rfl rfl rfl rfl (rmok hR0 rfl) ⟨Nat.zero_le _, Nat.zero_le _⟩ rfl (Nat.le_of_ble_eq_true rfl) dX3_snipIfAble_14 (fun u_11 h => ?_)
    refine g_aload_n (pc := 17) hC 0 dX3_snipIfAble_17 rfl rfl ?_
    refine g_dup (pc := 18) hC dX3_snipIfAble_18 rfl ?_
    refine getX3_4 (pc := 19) hC (F := fun Z => Z) (X := []) (fun _ => rfl) fl_X3_31 dX3_snipIfAble_19 ?_
    refine g_iload_n (pc := 22) hC 3 dX3_snipIfAble_22 rfl rfl ?_
    refine g_iadd (pc := 23) hC dX3_snipIfAble_23 ?_
    refine putX3_4 (pc := 24) hC (F := fun Z => Z) (X := []) (fun _ => rfl) fl_X3_31 dX3_snipIfAble_24 ?_
    refine g_st (w := fun z => (wX3 o0 a0 (xy C) z (wX2 o1 a1 (xy C) u_11 []))) (u := (si u0 4 ((gi u0 4) + x3))) (fun u_13 eu_13 => ?_)
    have h := h u_13 eu_13
    refine g_iconst (pc := 27) (v := 1) hC dX3_snipIfAble_27 (by decide) ?_
    exact hR _ _ _ (u_13, u_11) dX3_snipIfAble_28 (Or.inr rfl) h
  · have h := h.2 c_10
    refine g_iconst (pc := 9) (v := 0) hC dX3_snipIfAble_9 (by decide) ?_
    exact hR _ _ _ (u0, u_7) dX3_snipIfAble_10 (Or.inl rfl) h
theorem ctX3_snipIfAble {l : Launch} {D : va_G} {cy : Nat → ClassId} {kd : Nat → Nat} {o0 : Nat} {a0 : Nat → Nat} {o1 : Nat} {a1 : Nat → Nat} {x2 : Int32} {x3 : Int32} {u0 : St} {u1 : St} {post : Int32 → St → St → Prop} (h : qX3_snipIfAble x2 x3 u0 u1 post) : CtI l D cy kd yX3_snipIfAble cX3_snipIfAble 4 5 .boolean [.ref o0, .ref o1, .int x2, .int x3] (fun u : St × St => (wX3 o0 a0 cy u.1 (wX2 o1 a1 cy u.2 []))) (u0, u1) (fun r u => post r u.1 u.2) := met_z (by decide) (Nat.le_of_ble_eq_true rfl) (fun C e1 e2 e3 e4 e5 hC hR => by subst e1 e2 e3 e4; exact kX3_snipIfAble hC e5 hR h)
theorem dX3_mendIfAble_0 : decode cX3_mendIfAble 0 = .ok (.aload_n 0, 1) := by decide +kernel
theorem dX3_mendIfAble_1 : decode cX3_mendIfAble 1 = .ok (.iload_n 1, 1) := by decide +kernel
theorem dX3_mendIfAble_2 : decode cX3_mendIfAble 2 = .ok (.invokevirtual 86, 3) := by decide +kernel
theorem dX3_mendIfAble_5 : decode cX3_mendIfAble 5 = .ok (.ifCond .eq 11, 3) := by decide +kernel
theorem dX3_mendIfAble_8 : decode cX3_mendIfAble 8 = .ok (.aload_n 0, 1) := by decide +kernel
theorem dX3_mendIfAble_9 : decode cX3_mendIfAble 9 = .ok (.iload_n 1, 1) := by decide +kernel
theorem dX3_mendIfAble_10 : decode cX3_mendIfAble 10 = .ok (.invokevirtual 166, 3) := by decide +kernel
theorem dX3_mendIfAble_13 : decode cX3_mendIfAble 13 = .ok (.ifCond .ne 5, 3) := by decide +kernel
theorem dX3_mendIfAble_16 : decode cX3_mendIfAble 16 = .ok (.iconst 0, 1) := by decide +kernel
theorem dX3_mendIfAble_17 : decode cX3_mendIfAble 17 = .ok (.ireturn, 1) := by decide +kernel
theorem dX3_mendIfAble_18 : decode cX3_mendIfAble 18 = .ok (.aload_n 0, 1) := by decide +kernel
theorem dX3_mendIfAble_19 : decode cX3_mendIfAble 19 = .ok (.getfield 169, 3) := by decide +kernel
theorem dX3_mendIfAble_22 : decode cX3_mendIfAble 22 = .ok (.iload_n 1, 1) := by decide +kernel
theorem dX3_mendIfAble_23 : decode cX3_mendIfAble 23 = .ok (.dup2, 1) := by decide +kernel
theorem dX3_mendIfAble_24 : decode cX3_mendIfAble 24 = .ok (.iaload, 1) := by decide +kernel
theorem dX3_mendIfAble_25 : decode cX3_mendIfAble 25 = .ok (.iconst 1, 1) := by decide +kernel
theorem dX3_mendIfAble_26 : decode cX3_mendIfAble 26 = .ok (.iadd, 1) := by decide +kernel
theorem dX3_mendIfAble_27 : decode cX3_mendIfAble 27 = .ok (.iastore, 1) := by decide +kernel
theorem dX3_mendIfAble_28 : decode cX3_mendIfAble 28 = .ok (.iconst 1, 1) := by decide +kernel
theorem dX3_mendIfAble_29 : decode cX3_mendIfAble 29 = .ok (.ireturn, 1) := by decide +kernel
def qX3_mendIfAble_b16  (post : Int32 → St → Prop)  (u0 : St) : Prop := post (0 : Int32) u0
set_option maxRecDepth 100000 in
set_option maxHeartbeats 4000000 in
theorem kX3_mendIfAble_b16 {C : Cx} {o0 : Nat} {a0 : Nat → Nat} (hC : Fx C cX3_mendIfAble 2 RX3) (hR0 : xR C = rm 4) {post : Int32 → St → Prop} (hR : RZ C cX3_mendIfAble 2 (fun u : St => (wX2 o0 a0 (xy C) u [])) (fun r u => post r u))  {u0 : St} (h : qX3_mendIfAble_b16 post u0) : G C 0 0 2 (wX2 o0 a0 (xy C) u0 []) 16 [] [] := by
  refine g_iconst (pc := 16) (v := 0) hC dX3_mendIfAble_16 (by decide) ?_
  exact hR _ _ _ u0 dX3_mendIfAble_17 (Or.inl rfl) h
def qX3_mendIfAble (x1 : Int32) (u0 : St) (post : Int32 → St → Prop) : Prop := qX2_isStone x1 u0 (fun r_9 u_8 => ((r_9 = 0 → qX3_mendIfAble_b16 post u_8) ∧ (¬ r_9 = 0 → qX2_canMend x1 u_8 (fun r_13 u_12 => ((¬ r_13 = 0 → (vp_in x1 8 ∧ (vp_in x1 8 ∧ ∀ u_16 : St, u_16 = (sw u_12 8 (upd (ga u_12 8) (x1).toNatClampNeg ((ga u_12 8 (x1).toNatClampNeg) + (1 : Int32)))) → post (1 : Int32) u_16))) ∧ (r_13 = 0 → qX3_mendIfAble_b16 post u_12))))))
set_option maxRecDepth 100000 in
set_option maxHeartbeats 4000000 in
theorem kX3_mendIfAble {C : Cx} {o0 : Nat} {a0 : Nat → Nat} (hC : Fx C cX3_mendIfAble 2 RX3) (hR0 : xR C = rm 4) {post : Int32 → St → Prop} (hR : RZ C cX3_mendIfAble 2 (fun u : St => (wX2 o0 a0 (xy C) u [])) (fun r u => post r u)) {x1 : Int32} {u0 : St} (h : qX3_mendIfAble x1 u0 post) : G C 0 0 2 (wX2 o0 a0 (xy C) u0 []) 0 [(0, .ref o0), (1, .int x1)] [] := by
  refine g_aload_n (pc := 0) hC 0 dX3_mendIfAble_0 rfl rfl ?_
  refine g_iload_n (pc := 1) hC 1 dX3_mendIfAble_1 rfl rfl ?_
  refine g_callV_i (pc := 2) (wd := fun (u : St) Y => (wX2 o0 a0 (xy C) u Y)) (F := fun Z => Z) (X := []) (As := [.int x1]) (rest := []) (u := u0) hC (fun _ _ => rfl) (fun _ => rfl) (ctX2_isStone h) wvX2_isStone ml_X3_86 (ci := 1) (q0 := 0) rfl rfl rfl rfl (rmok hR0 rfl) ⟨Nat.zero_le _, Nat.zero_le _⟩ rfl (Nat.le_of_ble_eq_true rfl) dX3_mendIfAble_2 (fun r_9 u_8 h => ?_)
  refine g_if_eq (pc := 5) (tgt := 16) hC dX3_mendIfAble_5 (by decide) (fun c_11 => ?_) (fun c_11 => ?_)
  · have h := h.1 c_11
    refine g_sub (lv' := []) [] rfl ?_
    exact kX3_mendIfAble_b16 hC hR0 hR  h
  · have h := h.2 c_11
    refine g_aload_n (pc := 8) hC 0 dX3_mendIfAble_8 rfl rfl ?_
    refine g_iload_n (pc := 9) hC 1 dX3_mendIfAble_9 rfl rfl ?_
    refine g_callV_i (pc := 10) (wd := fun (u : St) Y => (wX2 o0 a0 (xy C) u Y)) (F := fun Z => Z) (X := []) (As := [.int x1]) (rest := []) (u := u_8) hC (fun _ _ => rfl) (fun _ => rfl) (ctX2_canMend h) wvX2_canMend ml_X3_166 (ci := 1) (q0 := 0) rfl rfl rfl rfl (rmok hR0 rfl) ⟨Nat.zero_le _, Nat.zero_le _⟩ rfl (Nat.le_of_ble_eq_true rfl) dX3_mendIfAble_10 (fun r_13 u_12 h => ?_)
    refine g_if_ne (pc := 13) (tgt := 18) hC dX3_mendIfAble_13 (by decide) (fun c_15 => ?_) (fun c_15 => ?_)
    · have h := h.1 c_15
      refine g_aload_n (pc := 18) hC 0 dX3_mendIfAble_18 rfl rfl ?_
      refine getX2_8 (pc := 19) hC (F := fun Z => Z) (X := []) (fun _ => rfl) fl_X3_169 dX3_mendIfAble_19 ?_
      refine g_iload_n (pc := 22) hC 1 dX3_mendIfAble_22 rfl rfl ?_
      refine g_dup2 (pc := 23) hC dX3_mendIfAble_23 rfl rfl ?_
      refine aldX2_8 (pc := 24) hC (F := fun Z => Z) (X := []) (fun _ => rfl) h.1 dX3_mendIfAble_24 ?_
      have h := h.2
      refine g_iconst (pc := 25) (v := 1) hC dX3_mendIfAble_25 (by decide) ?_
      refine g_iadd (pc := 26) hC dX3_mendIfAble_26 ?_
      refine astX2_8 (pc := 27) hC (F := fun Z => Z) (X := []) (fun _ => rfl) h.1 dX3_mendIfAble_27 ?_
      have h := h.2
      refine g_st (w := fun z => (wX2 o0 a0 (xy C) z [])) (u := (sw u_12 8 (upd (ga u_12 8) (x1).toNatClampNeg ((ga u_12 8 (x1).toNatClampNeg) + (1 : Int32))))) (fun u_16 eu_16 => ?_)
      have h := h u_16 eu_16
      refine g_iconst (pc := 28) (v := 1) hC dX3_mendIfAble_28 (by decide) ?_
      exact hR _ _ _ u_16 dX3_mendIfAble_29 (Or.inr rfl) h
    · have h := h.2 c_15
      refine g_sub (lv' := []) [] rfl ?_
      exact kX3_mendIfAble_b16 hC hR0 hR  h
theorem ctX3_mendIfAble {l : Launch} {D : va_G} {cy : Nat → ClassId} {kd : Nat → Nat} {o0 : Nat} {a0 : Nat → Nat} {x1 : Int32} {u0 : St} {post : Int32 → St → Prop} (h : qX3_mendIfAble x1 u0 post) : CtI l D cy kd yX3_mendIfAble cX3_mendIfAble 2 4 .boolean [.ref o0, .int x1] (fun u : St => (wX2 o0 a0 cy u [])) u0 (fun r u => post r u) := met_z (by decide) (Nat.le_of_ble_eq_true rfl) (fun C e1 e2 e3 e4 e5 hC hR => by subst e1 e2 e3 e4; exact kX3_mendIfAble hC e5 hR h)
theorem dX3_giveIfThere_0 : decode cX3_giveIfThere 0 = .ok (.aload_n 0, 1) := by decide +kernel
theorem dX3_giveIfThere_1 : decode cX3_giveIfThere 1 = .ok (.iload_n 1, 1) := by decide +kernel
theorem dX3_giveIfThere_2 : decode cX3_giveIfThere 2 = .ok (.invokevirtual 103, 3) := by decide +kernel
theorem dX3_giveIfThere_5 : decode cX3_giveIfThere 5 = .ok (.ifCond .ne 5, 3) := by decide +kernel
theorem dX3_giveIfThere_8 : decode cX3_giveIfThere 8 = .ok (.iconst 0, 1) := by decide +kernel
theorem dX3_giveIfThere_9 : decode cX3_giveIfThere 9 = .ok (.ireturn, 1) := by decide +kernel
theorem dX3_giveIfThere_10 : decode cX3_giveIfThere 10 = .ok (.aload_n 0, 1) := by decide +kernel
theorem dX3_giveIfThere_11 : decode cX3_giveIfThere 11 = .ok (.iload_n 1, 1) := by decide +kernel
theorem dX3_giveIfThere_12 : decode cX3_giveIfThere 12 = .ok (.iload_n 2, 1) := by decide +kernel
theorem dX3_giveIfThere_13 : decode cX3_giveIfThere 13 = .ok (.invokevirtual 172, 3) := by decide +kernel
theorem dX3_giveIfThere_16 : decode cX3_giveIfThere 16 = .ok (.iconst 1, 1) := by decide +kernel
theorem dX3_giveIfThere_17 : decode cX3_giveIfThere 17 = .ok (.ireturn, 1) := by decide +kernel
def qX3_giveIfThere (x1 : Int32) (x2 : Int32) (u0 : St) (post : Int32 → St → Prop) : Prop := qX2_isPerson x1 u0 (fun r_7 u_6 => ((¬ r_7 = 0 → qX2_gain x1 x2 u_6 (fun u_10 => post (1 : Int32) u_10)) ∧ (r_7 = 0 → post (0 : Int32) u_6)))
set_option maxRecDepth 100000 in
set_option maxHeartbeats 4000000 in
theorem kX3_giveIfThere {C : Cx} {o0 : Nat} {a0 : Nat → Nat} (hC : Fx C cX3_giveIfThere 3 RX3) (hR0 : xR C = rm 3) {post : Int32 → St → Prop} (hR : RZ C cX3_giveIfThere 3 (fun u : St => (wX2 o0 a0 (xy C) u [])) (fun r u => post r u)) {x1 : Int32} {x2 : Int32} {u0 : St} (h : qX3_giveIfThere x1 x2 u0 post) : G C 0 0 3 (wX2 o0 a0 (xy C) u0 []) 0 [(0, .ref o0), (1, .int x1), (2, .int x2)] [] := by
  refine g_aload_n (pc := 0) hC 0 dX3_giveIfThere_0 rfl rfl ?_
  refine g_iload_n (pc := 1) hC 1 dX3_giveIfThere_1 rfl rfl ?_
  refine g_callV_i (pc := 2) (wd := fun (u : St) Y => (wX2 o0 a0 (xy C) u Y)) (F := fun Z => Z) (X := []) (As := [.int x1]) (rest := []) (u := u0) hC (fun _ _ => rfl) (fun _ => rfl) (ctX2_isPerson h) wvX2_isPerson ml_X3_103 (ci := 1) (q0 := 0) rfl rfl rfl rfl (rmok hR0 rfl) ⟨Nat.zero_le _, Nat.zero_le _⟩ rfl (Nat.le_of_ble_eq_true rfl) dX3_giveIfThere_2 (fun r_7 u_6 h => ?_)
  refine g_if_ne (pc := 5) (tgt := 10) hC dX3_giveIfThere_5 (by decide) (fun c_9 => ?_) (fun c_9 => ?_)
  · have h := h.1 c_9
    refine g_aload_n (pc := 10) hC 0 dX3_giveIfThere_10 rfl rfl ?_
    refine g_iload_n (pc := 11) hC 1 dX3_giveIfThere_11 rfl rfl ?_
    refine g_iload_n (pc := 12) hC 2 dX3_giveIfThere_12 rfl rfl ?_
    refine g_callV_v (pc := 13) (wd := fun (u : St) Y => (wX2 o0 a0 (xy C) u Y)) (F := fun Z => Z) (X := []) (As := [.int x1, .int x2]) (rest := []) (u := u_6) hC (fun _ _ => rfl) (fun _ => rfl) (ctX2_gain h) wvX2_gain ml_X3_172 (ci := 1) (q0 := 0) rfl rfl rfl rfl (rmok hR0 rfl) ⟨Nat.zero_le _, Nat.zero_le _⟩ rfl (Nat.le_of_ble_eq_true rfl) dX3_giveIfThere_13 (fun u_10 h => ?_)
    refine g_iconst (pc := 16) (v := 1) hC dX3_giveIfThere_16 (by decide) ?_
    exact hR _ _ _ u_10 dX3_giveIfThere_17 (Or.inr rfl) h
  · have h := h.2 c_9
    refine g_iconst (pc := 8) (v := 0) hC dX3_giveIfThere_8 (by decide) ?_
    exact hR _ _ _ u_6 dX3_giveIfThere_9 (Or.inl rfl) h
theorem ctX3_giveIfThere {l : Launch} {D : va_G} {cy : Nat → ClassId} {kd : Nat → Nat} {o0 : Nat} {a0 : Nat → Nat} {x1 : Int32} {x2 : Int32} {u0 : St} {post : Int32 → St → Prop} (h : qX3_giveIfThere x1 x2 u0 post) : CtI l D cy kd yX3_giveIfThere cX3_giveIfThere 3 3 .boolean [.ref o0, .int x1, .int x2] (fun u : St => (wX2 o0 a0 cy u [])) u0 (fun r u => post r u) := met_z (by decide) (Nat.le_of_ble_eq_true rfl) (fun C e1 e2 e3 e4 e5 hC hR => by subst e1 e2 e3 e4; exact kX3_giveIfThere hC e5 hR h)
theorem dX3_draw_0 : decode cX3_draw 0 = .ok (.aload_n 0, 1) := by decide +kernel
theorem dX3_draw_1 : decode cX3_draw 1 = .ok (.aload_n 0, 1) := by decide +kernel
theorem dX3_draw_2 : decode cX3_draw 2 = .ok (.getfield 37, 3) := by decide +kernel
theorem dX3_draw_5 : decode cX3_draw 5 = .ok (.sipush 3259, 3) := by decide +kernel
theorem dX3_draw_8 : decode cX3_draw 8 = .ok (.imul, 1) := by decide +kernel
theorem dX3_draw_9 : decode cX3_draw 9 = .ok (.sipush 11489, 3) := by decide +kernel
theorem dX3_draw_12 : decode cX3_draw 12 = .ok (.iadd, 1) := by decide +kernel
theorem dX3_draw_13 : decode cX3_draw 13 = .ok (.ldc 181, 2) := by decide +kernel
theorem dX3_draw_15 : decode cX3_draw 15 = .ok (.irem, 1) := by decide +kernel
theorem dX3_draw_16 : decode cX3_draw 16 = .ok (.putfield 37, 3) := by decide +kernel
theorem dX3_draw_19 : decode cX3_draw 19 = .ok (.iload_n 1, 1) := by decide +kernel
theorem dX3_draw_20 : decode cX3_draw 20 = .ok (.ifCond .le 15, 3) := by decide +kernel
theorem dX3_draw_23 : decode cX3_draw 23 = .ok (.aload_n 0, 1) := by decide +kernel
theorem dX3_draw_24 : decode cX3_draw 24 = .ok (.getfield 37, 3) := by decide +kernel
theorem dX3_draw_27 : decode cX3_draw 27 = .ok (.bipush 8, 2) := by decide +kernel
theorem dX3_draw_29 : decode cX3_draw 29 = .ok (.idiv, 1) := by decide +kernel
theorem dX3_draw_30 : decode cX3_draw 30 = .ok (.iload_n 1, 1) := by decide +kernel
theorem dX3_draw_31 : decode cX3_draw 31 = .ok (.irem, 1) := by decide +kernel
theorem dX3_draw_32 : decode cX3_draw 32 = .ok (.goto 4, 3) := by decide +kernel
theorem dX3_draw_35 : decode cX3_draw 35 = .ok (.iconst 0, 1) := by decide +kernel
theorem dX3_draw_36 : decode cX3_draw 36 = .ok (.ireturn, 1) := by decide +kernel
def qX3_draw_b36  (post : Int32 → St → Prop)  (s0 : Int32) (u0 : St) : Prop := post s0 u0
set_option maxRecDepth 100000 in
set_option maxHeartbeats 4000000 in
theorem kX3_draw_b36 {C : Cx} {o0 : Nat} {a0 : Nat → Nat} (hC : Fx C cX3_draw 2 RX3) (hR0 : xR C = rm 1) {post : Int32 → St → Prop} (hR : RI C cX3_draw 2 (fun u : St => (wX3 o0 a0 (xy C) u [])) (fun r u => post r u))  {s0 : Int32} {u0 : St} (h : qX3_draw_b36 post s0 u0) : G C 0 0 2 (wX3 o0 a0 (xy C) u0 []) 36 [] [.int s0] := by
  exact hR _ _ _ u0 dX3_draw_36 h
def qX3_draw (x1 : Int32) (u0 : St) (post : Int32 → St → Prop) : Prop := ∀ u_2 : St, u_2 = (si u0 7 ((((gi u0 7) * (3259 : Int32)) + (11489 : Int32)) - (((gi u0 7) * (3259 : Int32)) + (11489 : Int32)) / (65536 : Int32) * (65536 : Int32))) → ((x1 ≤ 0 → qX3_draw_b36 post (0 : Int32) u_2) ∧ (¬ x1 ≤ 0 → (¬ x1 = 0 ∧ qX3_draw_b36 post (((gi u_2 7) / (8 : Int32)) - ((gi u_2 7) / (8 : Int32)) / x1 * x1) u_2)))
set_option maxRecDepth 100000 in
set_option maxHeartbeats 4000000 in
theorem kX3_draw {C : Cx} {o0 : Nat} {a0 : Nat → Nat} (hC : Fx C cX3_draw 2 RX3) (hR0 : xR C = rm 1) {post : Int32 → St → Prop} (hR : RI C cX3_draw 2 (fun u : St => (wX3 o0 a0 (xy C) u [])) (fun r u => post r u)) {x1 : Int32} {u0 : St} (h : qX3_draw x1 u0 post) : G C 0 0 2 (wX3 o0 a0 (xy C) u0 []) 0 [(0, .ref o0), (1, .int x1)] [] := by
  refine g_aload_n (pc := 0) hC 0 dX3_draw_0 rfl rfl ?_
  refine g_aload_n (pc := 1) hC 0 dX3_draw_1 rfl rfl ?_
  refine getX3_7 (pc := 2) hC (F := fun Z => Z) (X := []) (fun _ => rfl) fl_X3_37 dX3_draw_2 ?_
  refine g_sipush (pc := 5) (v := 3259) hC dX3_draw_5 (by decide) ?_
  refine g_imul (pc := 8) hC dX3_draw_8 ?_
  refine g_sipush (pc := 9) (v := 11489) hC dX3_draw_9 (by decide) ?_
  refine g_iadd (pc := 12) hC dX3_draw_12 ?_
  refine g_ldc (pc := 13) hC cn_X3_181 dX3_draw_13 ?_
  refine g_irem (pc := 15) hC dX3_draw_15 (by decide) ?_
  refine putX3_7 (pc := 16) hC (F := fun Z => Z) (X := []) (fun _ => rfl) fl_X3_37 dX3_draw_16 ?_
  refine g_st (w := fun z => (wX3 o0 a0 (xy C) z [])) (u := (si u0 7 ((((gi u0 7) * (3259 : Int32)) + (11489 : Int32)) - (((gi u0 7) * (3259 : Int32)) + (11489 : Int32)) / (65536 : Int32) * (65536 : Int32)))) (fun u_2 eu_2 => ?_)
  have h := h u_2 eu_2
  refine g_iload_n (pc := 19) hC 1 dX3_draw_19 rfl rfl ?_
  refine g_if_le (pc := 20) (tgt := 35) hC dX3_draw_20 (by decide) (fun c_3 => ?_) (fun c_3 => ?_)
  · have h := h.1 c_3
    refine g_iconst (pc := 35) (v := 0) hC dX3_draw_35 (by decide) ?_
    refine g_sub (lv' := []) [] rfl ?_
    exact kX3_draw_b36 hC hR0 hR  h
  · have h := h.2 c_3
    refine g_aload_n (pc := 23) hC 0 dX3_draw_23 rfl rfl ?_
    refine getX3_7 (pc := 24) hC (F := fun Z => Z) (X := []) (fun _ => rfl) fl_X3_37 dX3_draw_24 ?_
    refine g_bipush (pc := 27) (v := 8) hC dX3_draw_27 (by decide) ?_
    refine g_idiv (pc := 29) hC dX3_draw_29 (by decide) ?_
    refine g_iload_n (pc := 30) hC 1 dX3_draw_30 rfl rfl ?_
    refine g_irem (pc := 31) hC dX3_draw_31 h.1 ?_
    have h := h.2
    refine g_goto (pc := 32) (tgt := 36) hC dX3_draw_32 (by decide) ?_
    refine g_sub (lv' := []) [] rfl ?_
    exact kX3_draw_b36 hC hR0 hR  h
theorem ctX3_draw {l : Launch} {D : va_G} {cy : Nat → ClassId} {kd : Nat → Nat} {o0 : Nat} {a0 : Nat → Nat} {x1 : Int32} {u0 : St} {post : Int32 → St → Prop} (h : qX3_draw x1 u0 post) : CtI l D cy kd yX3_draw cX3_draw 2 1 .int [.ref o0, .int x1] (fun u : St => (wX3 o0 a0 cy u [])) u0 (fun r u => post r u) := met_i (by decide) (Nat.le_of_ble_eq_true rfl) (fun C e1 e2 e3 e4 e5 hC hR => by subst e1 e2 e3 e4; exact kX3_draw hC e5 hR h)
theorem dX3_hasWindfall_0 : decode cX3_hasWindfall 0 = .ok (.aload_n 0, 1) := by decide +kernel
theorem dX3_hasWindfall_1 : decode cX3_hasWindfall 1 = .ok (.aload_n 1, 1) := by decide +kernel
theorem dX3_hasWindfall_2 : decode cX3_hasWindfall 2 = .ok (.getfield 139, 3) := by decide +kernel
theorem dX3_hasWindfall_5 : decode cX3_hasWindfall 5 = .ok (.invokevirtual 175, 3) := by decide +kernel
theorem dX3_hasWindfall_8 : decode cX3_hasWindfall 8 = .ok (.istore_n 2, 1) := by decide +kernel
theorem dX3_hasWindfall_9 : decode cX3_hasWindfall 9 = .ok (.aload_n 0, 1) := by decide +kernel
theorem dX3_hasWindfall_10 : decode cX3_hasWindfall 10 = .ok (.bipush 16, 2) := by decide +kernel
theorem dX3_hasWindfall_12 : decode cX3_hasWindfall 12 = .ok (.invokevirtual 175, 3) := by decide +kernel
theorem dX3_hasWindfall_15 : decode cX3_hasWindfall 15 = .ok (.istore_n 3, 1) := by decide +kernel
theorem dX3_hasWindfall_16 : decode cX3_hasWindfall 16 = .ok (.iload_n 3, 1) := by decide +kernel
theorem dX3_hasWindfall_17 : decode cX3_hasWindfall 17 = .ok (.aload_n 1, 1) := by decide +kernel
theorem dX3_hasWindfall_18 : decode cX3_hasWindfall 18 = .ok (.getfield 178, 3) := by decide +kernel
theorem dX3_hasWindfall_21 : decode cX3_hasWindfall 21 = .ok (.if_icmp .ge 17, 3) := by decide +kernel
theorem dX3_hasWindfall_24 : decode cX3_hasWindfall 24 = .ok (.aload_n 1, 1) := by decide +kernel
theorem dX3_hasWindfall_25 : decode cX3_hasWindfall 25 = .ok (.iload_n 2, 1) := by decide +kernel
theorem dX3_hasWindfall_26 : decode cX3_hasWindfall 26 = .ok (.bipush 20, 2) := by decide +kernel
theorem dX3_hasWindfall_28 : decode cX3_hasWindfall 28 = .ok (.invokestatic 136, 3) := by decide +kernel
theorem dX3_hasWindfall_31 : decode cX3_hasWindfall 31 = .ok (.ifCond .eq 7, 3) := by decide +kernel
theorem dX3_hasWindfall_34 : decode cX3_hasWindfall 34 = .ok (.iconst 1, 1) := by decide +kernel
theorem dX3_hasWindfall_35 : decode cX3_hasWindfall 35 = .ok (.goto 4, 3) := by decide +kernel
theorem dX3_hasWindfall_38 : decode cX3_hasWindfall 38 = .ok (.iconst 0, 1) := by decide +kernel
theorem dX3_hasWindfall_39 : decode cX3_hasWindfall 39 = .ok (.ireturn, 1) := by decide +kernel
def qX3_hasWindfall_b39  (post : Int32 → St → St → Prop)  (s0 : Int32) (u0 : St) (u1 : St) : Prop := (bz s0 ∧ post s0 u0 u1)
set_option maxRecDepth 100000 in
set_option maxHeartbeats 4000000 in
theorem kX3_hasWindfall_b39 {C : Cx} {o0 : Nat} {a0 : Nat → Nat} {o1 : Nat} {a1 : Nat → Nat} (hC : Fx C cX3_hasWindfall 4 RX3) (hR0 : xR C = rm 4) {post : Int32 → St → St → Prop} (hR : RZ C cX3_hasWindfall 4 (fun u : St × St => (wX3 o0 a0 (xy C) u.1 (wX2 o1 a1 (xy C) u.2 []))) (fun r u => post r u.1 u.2))  {s0 : Int32} {u0 : St} {u1 : St} (h : qX3_hasWindfall_b39 post s0 u0 u1) : G C 0 0 4 (wX3 o0 a0 (xy C) u0 (wX2 o1 a1 (xy C) u1 [])) 39 [] [.int s0] := by
  exact hR _ _ _ (u0, u1) dX3_hasWindfall_39 h.1 h.2
def qX3_hasWindfall_b38  (post : Int32 → St → St → Prop)  (u0 : St) (u1 : St) : Prop := qX3_hasWindfall_b39 post (0 : Int32) u0 u1
set_option maxRecDepth 100000 in
set_option maxHeartbeats 4000000 in
theorem kX3_hasWindfall_b38 {C : Cx} {o0 : Nat} {a0 : Nat → Nat} {o1 : Nat} {a1 : Nat → Nat} (hC : Fx C cX3_hasWindfall 4 RX3) (hR0 : xR C = rm 4) {post : Int32 → St → St → Prop} (hR : RZ C cX3_hasWindfall 4 (fun u : St × St => (wX3 o0 a0 (xy C) u.1 (wX2 o1 a1 (xy C) u.2 []))) (fun r u => post r u.1 u.2))  {u0 : St} {u1 : St} (h : qX3_hasWindfall_b38 post u0 u1) : G C 0 0 4 (wX3 o0 a0 (xy C) u0 (wX2 o1 a1 (xy C) u1 [])) 38 [] [] := by
  refine g_iconst (pc := 38) (v := 0) hC dX3_hasWindfall_38 (by decide) ?_
  exact kX3_hasWindfall_b39 hC hR0 hR  h
def qX3_hasWindfall  (u0 : St) (u1 : St) (post : Int32 → St → St → Prop) : Prop := qX3_draw (gi u1 1) u0 (fun r_11 u_10 => qX3_draw (16 : Int32) u_10 (fun r_14 u_13 => (((gi u1 3) ≤ r_14 → qX3_hasWindfall_b38 post u_13 u1) ∧ (¬ (gi u1 3) ≤ r_14 → qX3_giveIfThere r_11 (20 : Int32) u1 (fun r_18 u_17 => ((r_18 = 0 → qX3_hasWindfall_b38 post u_13 u_17) ∧ (¬ r_18 = 0 → qX3_hasWindfall_b39 post (1 : Int32) u_13 u_17)))))))
set_option maxRecDepth 100000 in
set_option maxHeartbeats 4000000 in
theorem kX3_hasWindfall {C : Cx} {o0 : Nat} {a0 : Nat → Nat} {o1 : Nat} {a1 : Nat → Nat} (hC : Fx C cX3_hasWindfall 4 RX3) (hR0 : xR C = rm 4) {post : Int32 → St → St → Prop} (hR : RZ C cX3_hasWindfall 4 (fun u : St × St => (wX3 o0 a0 (xy C) u.1 (wX2 o1 a1 (xy C) u.2 []))) (fun r u => post r u.1 u.2))  {u0 : St} {u1 : St} (h : qX3_hasWindfall  u0 u1 post) : G C 0 0 4 (wX3 o0 a0 (xy C) u0 (wX2 o1 a1 (xy C) u1 [])) 0 [(0, .ref o0), (1, .ref o1)] [] := by
  refine g_aload_n (pc := 0) hC 0 dX3_hasWindfall_0 rfl rfl ?_
  refine g_aload_n (pc := 1) hC 1 dX3_hasWindfall_1 rfl rfl ?_
  refine getX2_1 (pc := 2) hC (F := fun Z => (wX3 o0 a0 (xy C) u0 Z)) (X := (wX3 o0 a0 (xy C) u0 [])) (fun _ => rfl) fl_X3_139 dX3_hasWindfall_2 ?_
  refine g_callV_i (pc := 5) (wd := fun (u : St) Y => (wX3 o0 a0 (xy C) u Y)) (F := fun Z => Z) (X := []) (As := [.int (gi u1 1)]) (rest := []) (u := u0) hC (fun _ _ => rfl) (fun _ => rfl) (ctX3_draw h) wvX3_draw ml_X3_175 (ci := 2) (q0 := 0) rfl rfl rfl rfl (rmok hR0 rfl) ⟨Nat.zero_le _, Nat.zero_le _⟩ rfl (Nat.le_of_ble_eq_true rfl) dX3_hasWindfall_5 (fun r_11 u_10 h => ?_)
  refine g_istore_n (pc := 8) (lv' := [(2, .int r_11), (0, .ref o0), (1, .ref o1)]) hC dX3_hasWindfall_8 rfl (Nat.le_of_ble_eq_true rfl) rfl ?_
  refine g_aload_n (pc := 9) hC 1 dX3_hasWindfall_9 rfl rfl ?_
  refine g_bipush (pc := 10) (v := 16) hC dX3_hasWindfall_10 (by decide) ?_
  refine g_callV_i (pc := 12) (wd := fun (u : St) Y => (wX3 o0 a0 (xy C) u Y)) (F := fun Z => Z) (X := []) (As := [.int (16 : Int32)]) (rest := []) (u := u_10) hC (fun _ _ => rfl) (fun _ => rfl) (ctX3_draw h) wvX3_draw ml_X3_175 (ci := 2) (q0 := 0) rfl rfl rfl rfl (rmok hR0 rfl) ⟨Nat.zero_le _, Nat.zero_le _⟩ rfl (Nat.le_of_ble_eq_true rfl) dX3_hasWindfall_12 (fun r_14 u_13 h => ?_)
  refine g_istore_n (pc := 15) (lv' := [(3, .int r_14), (2, .int r_11), (0, .ref o0), (1, .ref o1)]) hC dX3_hasWindfall_15 rfl (Nat.le_of_ble_eq_true rfl) rfl ?_
  refine g_iload_n (pc := 16) hC 0 dX3_hasWindfall_16 rfl rfl ?_
  refine g_aload_n (pc := 17) hC 3 dX3_hasWindfall_17 rfl rfl ?_
  refine getX2_3 (pc := 18) hC (F := fun Z => (wX3 o0 a0 (xy C) u_13 Z)) (X := (wX3 o0 a0 (xy C) u_13 [])) (fun _ => rfl) fl_X3_178 dX3_hasWindfall_18 ?_
  refine g_icmp_ge (pc := 21) (tgt := 38) hC dX3_hasWindfall_21 (by decide) (fun c_16 => ?_) (fun c_16 => ?_)
  · have h := h.1 c_16
    refine g_sub (lv' := []) [] rfl ?_
    exact kX3_hasWindfall_b38 hC hR0 hR  h
  · have h := h.2 c_16
    refine g_aload_n (pc := 24) hC 3 dX3_hasWindfall_24 rfl rfl ?_
    refine g_iload_n (pc := 25) hC 1 dX3_hasWindfall_25 rfl rfl ?_
    refine g_bipush (pc := 26) (v := 20) hC dX3_hasWindfall_26 (by decide) ?_
    refine g_callS_i (pc := 28) (wd := fun (u : St) Y => (wX2 o1 a1 (xy C) u Y)) (F := fun Z => (wX3 o0 a0 (xy C) u_13 Z)) (X := (wX3 o0 a0 (xy C) u_13 [])) (As := [.ref o1, .int r_11, .int (20 : Int32)]) (rest := []) (u := u1) hC (fun _ _ => rfl) (fun _ => rfl) (ctX3_giveIfThere h) wvX3_giveIfThere ml_X3_136 rfl (rmok hR0 rfl) ⟨Nat.zero_le _, Nat.zero_le _⟩ rfl (Nat.le_of_ble_eq_true rfl) dX3_hasWindfall_28 (fun r_18 u_17 h => ?_)
    refine g_if_eq (pc := 31) (tgt := 38) hC dX3_hasWindfall_31 (by decide) (fun c_20 => ?_) (fun c_20 => ?_)
    · have h := h.1 c_20
      refine g_sub (lv' := []) [] rfl ?_
      exact kX3_hasWindfall_b38 hC hR0 hR  h
    · have h := h.2 c_20
      refine g_iconst (pc := 34) (v := 1) hC dX3_hasWindfall_34 (by decide) ?_
      refine g_goto (pc := 35) (tgt := 39) hC dX3_hasWindfall_35 (by decide) ?_
      refine g_sub (lv' := []) [] rfl ?_
      exact kX3_hasWindfall_b39 hC hR0 hR  h
theorem ctX3_hasWindfall {l : Launch} {D : va_G} {cy : Nat → ClassId} {kd : Nat → Nat} {o0 : Nat} {a0 : Nat → Nat} {o1 : Nat} {a1 : Nat → Nat}  {u0 : St} {u1 : St} {post : Int32 → St → St → Prop} (h : qX3_hasWindfall  u0 u1 post) : CtI l D cy kd yX3_hasWindfall cX3_hasWindfall 4 4 .boolean [.ref o0, .ref o1] (fun u : St × St => (wX3 o0 a0 cy u.1 (wX2 o1 a1 cy u.2 []))) (u0, u1) (fun r u => post r u.1 u.2) := met_z (by decide) (Nat.le_of_ble_eq_true rfl) (fun C e1 e2 e3 e4 e5 hC hR => by subst e1 e2 e3 e4; exact kX3_hasWindfall hC e5 hR h)
theorem dX3_act_0 : decode cX3_act 0 = .ok (.aload_n 2, 1) := by decide +kernel
theorem dX3_act_1 : decode cX3_act 1 = .ok (.getfield 80, 3) := by decide +kernel
theorem dX3_act_4 : decode cX3_act 4 = .ok (.iload_n 3, 1) := by decide +kernel
theorem dX3_act_5 : decode cX3_act 5 = .ok (.iaload, 1) := by decide +kernel
theorem dX3_act_6 : decode cX3_act 6 = .ok (.istore 4, 2) := by decide +kernel
theorem dX3_act_8 : decode cX3_act 8 = .ok (.aload_n 2, 1) := by decide +kernel
theorem dX3_act_9 : decode cX3_act 9 = .ok (.getfield 116, 3) := by decide +kernel
theorem dX3_act_12 : decode cX3_act 12 = .ok (.iload_n 3, 1) := by decide +kernel
theorem dX3_act_13 : decode cX3_act 13 = .ok (.iaload, 1) := by decide +kernel
theorem dX3_act_14 : decode cX3_act 14 = .ok (.istore 5, 2) := by decide +kernel
theorem dX3_act_16 : decode cX3_act 16 = .ok (.aload_n 2, 1) := by decide +kernel
theorem dX3_act_17 : decode cX3_act 17 = .ok (.getfield 53, 3) := by decide +kernel
theorem dX3_act_20 : decode cX3_act 20 = .ok (.iload_n 3, 1) := by decide +kernel
theorem dX3_act_21 : decode cX3_act 21 = .ok (.iaload, 1) := by decide +kernel
theorem dX3_act_22 : decode cX3_act 22 = .ok (.tableswitch 76 0 4 #[34, 42, 50, 60, 67], 34) := by decide +kernel
theorem dX3_act_56 : decode cX3_act 56 = .ok (.aload_n 0, 1) := by decide +kernel
theorem dX3_act_57 : decode cX3_act 57 = .ok (.aload_n 1, 1) := by decide +kernel
theorem dX3_act_58 : decode cX3_act 58 = .ok (.iload 4, 2) := by decide +kernel
theorem dX3_act_60 : decode cX3_act 60 = .ok (.invokevirtual 122, 3) := by decide +kernel
theorem dX3_act_63 : decode cX3_act 63 = .ok (.ireturn, 1) := by decide +kernel
theorem dX3_act_64 : decode cX3_act 64 = .ok (.aload_n 0, 1) := by decide +kernel
theorem dX3_act_65 : decode cX3_act 65 = .ok (.aload_n 1, 1) := by decide +kernel
theorem dX3_act_66 : decode cX3_act 66 = .ok (.iload 4, 2) := by decide +kernel
theorem dX3_act_68 : decode cX3_act 68 = .ok (.invokevirtual 126, 3) := by decide +kernel
theorem dX3_act_71 : decode cX3_act 71 = .ok (.ireturn, 1) := by decide +kernel
theorem dX3_act_72 : decode cX3_act 72 = .ok (.aload_n 0, 1) := by decide +kernel
theorem dX3_act_73 : decode cX3_act 73 = .ok (.aload_n 1, 1) := by decide +kernel
theorem dX3_act_74 : decode cX3_act 74 = .ok (.iload 4, 2) := by decide +kernel
theorem dX3_act_76 : decode cX3_act 76 = .ok (.iload 5, 2) := by decide +kernel
theorem dX3_act_78 : decode cX3_act 78 = .ok (.invokevirtual 129, 3) := by decide +kernel
theorem dX3_act_81 : decode cX3_act 81 = .ok (.ireturn, 1) := by decide +kernel
theorem dX3_act_82 : decode cX3_act 82 = .ok (.aload_n 1, 1) := by decide +kernel
theorem dX3_act_83 : decode cX3_act 83 = .ok (.iload 4, 2) := by decide +kernel
theorem dX3_act_85 : decode cX3_act 85 = .ok (.invokestatic 133, 3) := by decide +kernel
theorem dX3_act_88 : decode cX3_act 88 = .ok (.ireturn, 1) := by decide +kernel
theorem dX3_act_89 : decode cX3_act 89 = .ok (.aload_n 1, 1) := by decide +kernel
theorem dX3_act_90 : decode cX3_act 90 = .ok (.iload 4, 2) := by decide +kernel
theorem dX3_act_92 : decode cX3_act 92 = .ok (.iload 5, 2) := by decide +kernel
theorem dX3_act_94 : decode cX3_act 94 = .ok (.invokestatic 136, 3) := by decide +kernel
theorem dX3_act_97 : decode cX3_act 97 = .ok (.ireturn, 1) := by decide +kernel
theorem dX3_act_98 : decode cX3_act 98 = .ok (.aload_n 1, 1) := by decide +kernel
theorem dX3_act_99 : decode cX3_act 99 = .ok (.getfield 139, 3) := by decide +kernel
theorem dX3_act_102 : decode cX3_act 102 = .ok (.ifCond .le 24, 3) := by decide +kernel
theorem dX3_act_105 : decode cX3_act 105 = .ok (.aload_n 0, 1) := by decide +kernel
theorem dX3_act_106 : decode cX3_act 106 = .ok (.aload_n 1, 1) := by decide +kernel
theorem dX3_act_107 : decode cX3_act 107 = .ok (.invokevirtual 142, 3) := by decide +kernel
theorem dX3_act_110 : decode cX3_act 110 = .ok (.ifCond .ne 12, 3) := by decide +kernel
theorem dX3_act_113 : decode cX3_act 113 = .ok (.aload_n 0, 1) := by decide +kernel
theorem dX3_act_114 : decode cX3_act 114 = .ok (.aload_n 1, 1) := by decide +kernel
theorem dX3_act_115 : decode cX3_act 115 = .ok (.iconst 1, 1) := by decide +kernel
theorem dX3_act_116 : decode cX3_act 116 = .ok (.invokevirtual 122, 3) := by decide +kernel
theorem dX3_act_119 : decode cX3_act 119 = .ok (.ifCond .eq 7, 3) := by decide +kernel
theorem dX3_act_122 : decode cX3_act 122 = .ok (.iconst 1, 1) := by decide +kernel
theorem dX3_act_123 : decode cX3_act 123 = .ok (.goto 4, 3) := by decide +kernel
theorem dX3_act_126 : decode cX3_act 126 = .ok (.iconst 0, 1) := by decide +kernel
theorem dX3_act_127 : decode cX3_act 127 = .ok (.ireturn, 1) := by decide +kernel
def qX3_act_b127  (post : Int32 → St → St → St → Prop)  (s0 : Int32) (u0 : St) (u1 : St) (u2 : St) : Prop := (bz s0 ∧ post s0 u0 u1 u2)
set_option maxRecDepth 100000 in
set_option maxHeartbeats 4000000 in
theorem kX3_act_b127 {C : Cx} {o0 : Nat} {a0 : Nat → Nat} {o1 : Nat} {a1 : Nat → Nat} {o2 : Nat} {a2 : Nat → Nat} (hC : Fx C cX3_act 6 RX3) (hR0 : xR C = rm 6) {post : Int32 → St → St → St → Prop} (hR : RZ C cX3_act 6 (fun u : St × St × St => (wX3 o0 a0 (xy C) u.1 (wX2 o1 a1 (xy C) u.2.1 (wX7 o2 a2 (xy C) u.2.2 [])))) (fun r u => post r u.1 u.2.1 u.2.2))  {s0 : Int32} {u0 : St} {u1 : St} {u2 : St} (h : qX3_act_b127 post s0 u0 u1 u2) : G C 0 0 6 (wX3 o0 a0 (xy C) u0 (wX2 o1 a1 (xy C) u1 (wX7 o2 a2 (xy C) u2 []))) 127 [] [.int s0] := by
  exact hR _ _ _ (u0, u1, u2) dX3_act_127 h.1 h.2
def qX3_act_b122  (post : Int32 → St → St → St → Prop)  (u0 : St) (u1 : St) (u2 : St) : Prop := qX3_act_b127 post (1 : Int32) u0 u1 u2
set_option maxRecDepth 100000 in
set_option maxHeartbeats 4000000 in
theorem kX3_act_b122 {C : Cx} {o0 : Nat} {a0 : Nat → Nat} {o1 : Nat} {a1 : Nat → Nat} {o2 : Nat} {a2 : Nat → Nat} (hC : Fx C cX3_act 6 RX3) (hR0 : xR C = rm 6) {post : Int32 → St → St → St → Prop} (hR : RZ C cX3_act 6 (fun u : St × St × St => (wX3 o0 a0 (xy C) u.1 (wX2 o1 a1 (xy C) u.2.1 (wX7 o2 a2 (xy C) u.2.2 [])))) (fun r u => post r u.1 u.2.1 u.2.2))  {u0 : St} {u1 : St} {u2 : St} (h : qX3_act_b122 post u0 u1 u2) : G C 0 0 6 (wX3 o0 a0 (xy C) u0 (wX2 o1 a1 (xy C) u1 (wX7 o2 a2 (xy C) u2 []))) 122 [] [] := by
  refine g_iconst (pc := 122) (v := 1) hC dX3_act_122 (by decide) ?_
  refine g_goto (pc := 123) (tgt := 127) hC dX3_act_123 (by decide) ?_
  exact kX3_act_b127 hC hR0 hR  h
def qX3_act_b126  (post : Int32 → St → St → St → Prop)  (u0 : St) (u1 : St) (u2 : St) : Prop := qX3_act_b127 post (0 : Int32) u0 u1 u2
set_option maxRecDepth 100000 in
set_option maxHeartbeats 4000000 in
theorem kX3_act_b126 {C : Cx} {o0 : Nat} {a0 : Nat → Nat} {o1 : Nat} {a1 : Nat → Nat} {o2 : Nat} {a2 : Nat → Nat} (hC : Fx C cX3_act 6 RX3) (hR0 : xR C = rm 6) {post : Int32 → St → St → St → Prop} (hR : RZ C cX3_act 6 (fun u : St × St × St => (wX3 o0 a0 (xy C) u.1 (wX2 o1 a1 (xy C) u.2.1 (wX7 o2 a2 (xy C) u.2.2 [])))) (fun r u => post r u.1 u.2.1 u.2.2))  {u0 : St} {u1 : St} {u2 : St} (h : qX3_act_b126 post u0 u1 u2) : G C 0 0 6 (wX3 o0 a0 (xy C) u0 (wX2 o1 a1 (xy C) u1 (wX7 o2 a2 (xy C) u2 []))) 126 [] [] := by
  refine g_iconst (pc := 126) (v := 0) hC dX3_act_126 (by decide) ?_
  exact kX3_act_b127 hC hR0 hR  h
def qX3_act (x3 : Int32) (u0 : St) (u1 : St) (u2 : St) (post : Int32 → St → St → St → Prop) : Prop := (vp_in x3 60 ∧ ∀ x4_27 : Int32, x4_27 = (ga u2 4 (x3).toNatClampNeg) → (vp_in x3 60 ∧ ∀ x5_28 : Int32, x5_28 = (ga u2 5 (x3).toNatClampNeg) → (vp_in x3 60 ∧ (((ga u2 3 (x3).toNatClampNeg) = (0 : Int32) → qX3_goBy x4_27 u0 u1 (fun r_31 u_29 u_30 => (bz r_31 ∧ post r_31 u_29 u_30 u2))) ∧ (((ga u2 3 (x3).toNatClampNeg) = (1 : Int32) → qX3_payIfAble x4_27 u0 u1 (fun r_36 u_34 u_35 => (bz r_36 ∧ post r_36 u_34 u_35 u2))) ∧ (((ga u2 3 (x3).toNatClampNeg) = (2 : Int32) → qX3_snipIfAble x4_27 x5_28 u0 u1 (fun r_41 u_39 u_40 => (bz r_41 ∧ post r_41 u_39 u_40 u2))) ∧ (((ga u2 3 (x3).toNatClampNeg) = (3 : Int32) → qX3_mendIfAble x4_27 u1 (fun r_45 u_44 => (bz r_45 ∧ post r_45 u0 u_44 u2))) ∧ (((ga u2 3 (x3).toNatClampNeg) = (4 : Int32) → qX3_giveIfThere x4_27 x5_28 u1 (fun r_49 u_48 => (bz r_49 ∧ post r_49 u0 u_48 u2))) ∧ (¬ (ga u2 3 (x3).toNatClampNeg) = (0 : Int32) → ¬ (ga u2 3 (x3).toNatClampNeg) = (1 : Int32) → ¬ (ga u2 3 (x3).toNatClampNeg) = (2 : Int32) → ¬ (ga u2 3 (x3).toNatClampNeg) = (3 : Int32) → ¬ (ga u2 3 (x3).toNatClampNeg) = (4 : Int32) → (((gi u1 1) ≤ 0 → qX3_act_b126 post u0 u1 u2) ∧ (¬ (gi u1 1) ≤ 0 → qX3_hasWindfall u0 u1 (fun r_55 u_53 u_54 => ((¬ r_55 = 0 → qX3_act_b122 post u_53 u_54 u2) ∧ (r_55 = 0 → qX3_goBy (1 : Int32) u_53 u_54 (fun r_60 u_58 u_59 => ((r_60 = 0 → qX3_act_b126 post u_58 u_59 u2) ∧ (¬ r_60 = 0 → qX3_act_b122 post u_58 u_59 u2)))))))))))))))))
set_option maxRecDepth 100000 in
set_option maxHeartbeats 4000000 in
theorem kX3_act {C : Cx} {o0 : Nat} {a0 : Nat → Nat} {o1 : Nat} {a1 : Nat → Nat} {o2 : Nat} {a2 : Nat → Nat} (hC : Fx C cX3_act 6 RX3) (hR0 : xR C = rm 6) {post : Int32 → St → St → St → Prop} (hR : RZ C cX3_act 6 (fun u : St × St × St => (wX3 o0 a0 (xy C) u.1 (wX2 o1 a1 (xy C) u.2.1 (wX7 o2 a2 (xy C) u.2.2 [])))) (fun r u => post r u.1 u.2.1 u.2.2)) {x3 : Int32} {u0 : St} {u1 : St} {u2 : St} (h : qX3_act x3 u0 u1 u2 post) : G C 0 0 6 (wX3 o0 a0 (xy C) u0 (wX2 o1 a1 (xy C) u1 (wX7 o2 a2 (xy C) u2 []))) 0 [(0, .ref o0), (1, .ref o1), (2, .ref o2), (3, .int x3)] [] := by
  refine g_aload_n (pc := 0) hC 2 dX3_act_0 rfl rfl ?_
  refine getX7_4 (pc := 1) hC (F := fun Z => (wX3 o0 a0 (xy C) u0 (wX2 o1 a1 (xy C) u1 Z))) (X := (wX3 o0 a0 (xy C) u0 (wX2 o1 a1 (xy C) u1 []))) (fun _ => rfl) fl_X3_80 dX3_act_1 ?_
  refine g_iload_n (pc := 4) hC 3 dX3_act_4 rfl rfl ?_
  refine aldX7_4 (pc := 5) hC (F := fun Z => (wX3 o0 a0 (xy C) u0 (wX2 o1 a1 (xy C) u1 Z))) (X := (wX3 o0 a0 (xy C) u0 (wX2 o1 a1 (xy C) u1 []))) (fun _ => rfl) h.1 dX3_act_5 ?_
  have h := h.2
  refine g_topi (fun x4_27 ex4_27 => ?_)
  have h := h x4_27 ex4_27
  refine g_istore (pc := 6) (lv' := [(4, .int x4_27), (0, .ref o0), (1, .ref o1), (2, .ref o2), (3, .int x3)]) hC dX3_act_6 (Nat.le_of_ble_eq_true rfl) rfl ?_
  refine g_aload_n (pc := 8) hC 3 dX3_act_8 rfl rfl ?_
  refine getX7_5 (pc := 9) hC (F := fun Z => (wX3 o0 a0 (xy C) u0 (wX2 o1 a1 (xy C) u1 Z))) (X := (wX3 o0 a0 (xy C) u0 (wX2 o1 a1 (xy C) u1 []))) (fun _ => rfl) fl_X3_116 dX3_act_9 ?_
  refine g_iload_n (pc := 12) hC 4 dX3_act_12 rfl rfl ?_
  refine aldX7_5 (pc := 13) hC (F := fun Z => (wX3 o0 a0 (xy C) u0 (wX2 o1 a1 (xy C) u1 Z))) (X := (wX3 o0 a0 (xy C) u0 (wX2 o1 a1 (xy C) u1 []))) (fun _ => rfl) h.1 dX3_act_13 ?_
  have h := h.2
  refine g_topi (fun x5_28 ex5_28 => ?_)
  have h := h x5_28 ex5_28
  refine g_istore (pc := 14) (lv' := [(5, .int x5_28), (4, .int x4_27), (0, .ref o0), (1, .ref o1), (2, .ref o2), (3, .int x3)]) hC dX3_act_14 (Nat.le_of_ble_eq_true rfl) rfl ?_
  refine g_aload_n (pc := 16) hC 4 dX3_act_16 rfl rfl ?_
  refine getX7_3 (pc := 17) hC (F := fun Z => (wX3 o0 a0 (xy C) u0 (wX2 o1 a1 (xy C) u1 Z))) (X := (wX3 o0 a0 (xy C) u0 (wX2 o1 a1 (xy C) u1 []))) (fun _ => rfl) fl_X3_53 dX3_act_17 ?_
  refine g_iload_n (pc := 20) hC 5 dX3_act_20 rfl rfl ?_
  refine aldX7_3 (pc := 21) hC (F := fun Z => (wX3 o0 a0 (xy C) u0 (wX2 o1 a1 (xy C) u1 Z))) (X := (wX3 o0 a0 (xy C) u0 (wX2 o1 a1 (xy C) u1 []))) (fun _ => rfl) h.1 dX3_act_21 ?_
  have h := h.2
  by_cases c_33 : (ga u2 3 (x3).toNatClampNeg) = (0 : Int32)
  · have h := h.1 c_33
    refine g_tabIn (pc := 22) (tgt := 56) hC dX3_act_22 (by rw [c_33]; decide) (by rw [c_33]; decide) (by rw [c_33]; rfl) (by decide) ?_
    refine g_aload_n (pc := 56) hC 2 dX3_act_56 rfl rfl ?_
    refine g_aload_n (pc := 57) hC 3 dX3_act_57 rfl rfl ?_
    refine g_iload (pc := 58) hC 1 dX3_act_58 rfl ?_
    refine g_callV_i (pc := 60) (wd := fun (u : St × St) Y => (wX3 o0 a0 (xy C) u.1 (wX2 o1 a1 (xy C) u.2 Y))) (F := fun Z => Z) (X := []) (As := [.ref o1, .int x4_27]) (rest := []) (u := (u0, u1)) hC (fun _ _ => rfl) (fun _ => rfl) (ctX3_goBy h) wvX3_goBy ml_X3_122 (ci := 2) (q0 := 0) rfl rfl rfl rfl (rmok hR0 rfl) ⟨Nat.zero_le _, Nat.zero_le _⟩ rfl (Nat.le_of_ble_eq_true rfl) dX3_act_60 (fun r_31 u_32 h => ?_)
    obtain ⟨u_29, u_30⟩ := u_32
    exact hR _ _ _ (u_29, u_30, u2) dX3_act_63 h.1 h.2
  by_cases c_38 : (ga u2 3 (x3).toNatClampNeg) = (1 : Int32)
  · have h := h.2.1 c_38
    refine g_tabIn (pc := 22) (tgt := 64) hC dX3_act_22 (by rw [c_38]; decide) (by rw [c_38]; decide) (by rw [c_38]; rfl) (by decide) ?_
    refine g_aload_n (pc := 64) hC 2 dX3_act_64 rfl rfl ?_
    refine g_aload_n (pc := 65) hC 3 dX3_act_65 rfl rfl ?_
    refine g_iload (pc := 66) hC 1 dX3_act_66 rfl ?_
    refine g_callV_i (pc := 68) (wd := fun (u : St × St) Y => (wX3 o0 a0 (xy C) u.1 (wX2 o1 a1 (xy C) u.2 Y))) (F := fun Z => Z) (X := []) (As := [.ref o1, .int x4_27]) (rest := []) (u := (u0, u1)) hC (fun _ _ => rfl) (fun _ => rfl) (ctX3_payIfAble h) wvX3_payIfAble ml_X3_126 (ci := 2) (q0 := 0) rfl rfl rfl rfl (rmok hR0 rfl) ⟨Nat.zero_le _, Nat.zero_le _⟩ rfl (Nat.le_of_ble_eq_true rfl) dX3_act_68 (fun r_36 u_37 h => ?_)
    obtain ⟨u_34, u_35⟩ := u_37
    exact hR _ _ _ (u_34, u_35, u2) dX3_act_71 h.1 h.2
  by_cases c_43 : (ga u2 3 (x3).toNatClampNeg) = (2 : Int32)
  · have h := h.2.2.1 c_43
    refine g_tabIn (pc := 22) (tgt := 72) hC dX3_act_22 (by rw [c_43]; decide) (by rw [c_43]; decide) (by rw [c_43]; rfl) (by decide) ?_
    refine g_aload_n (pc := 72) hC 2 dX3_act_72 rfl rfl ?_
    refine g_aload_n (pc := 73) hC 3 dX3_act_73 rfl rfl ?_
    refine g_iload (pc := 74) hC 1 dX3_act_74 rfl ?_
    refine g_iload (pc := 76) hC 0 dX3_act_76 rfl ?_
    refine g_callV_i (pc := 78) (wd := fun (u : St × St) Y => (wX3 o0 a0 (xy C) u.1 (wX2 o1 a1 (xy C) u.2 Y))) (F := fun Z => Z) (X := []) (As := [.ref o1, .int x4_27, .int x5_28]) (rest := []) (u := (u0, u1)) hC (fun _ _ => rfl) (fun _ => rfl) (ctX3_snipIfAble h) wvX3_snipIfAble ml_X3_129 (ci := 2) (q0 := 0) rfl rfl rfl rfl (rmok hR0 rfl) ⟨Nat.zero_le _, Nat.zero_le _⟩ rfl (Nat.le_of_ble_eq_true rfl) dX3_act_78 (fun r_41 u_42 h => ?_)
    obtain ⟨u_39, u_40⟩ := u_42
    exact hR _ _ _ (u_39, u_40, u2) dX3_act_81 h.1 h.2
  by_cases c_47 : (ga u2 3 (x3).toNatClampNeg) = (3 : Int32)
  · have h := h.2.2.2.1 c_47
    refine g_tabIn (pc := 22) (tgt := 82) hC dX3_act_22 (by rw [c_47]; decide) (by rw [c_47]; decide) (by rw [c_47]; rfl) (by decide) ?_
    refine g_aload_n (pc := 82) hC 3 dX3_act_82 rfl rfl ?_
    refine g_iload (pc := 83) hC 1 dX3_act_83 rfl ?_
    refine g_callS_i (pc := 85) (wd := fun (u : St) Y => (wX2 o1 a1 (xy C) u Y)) (F := fun Z => (wX3 o0 a0 (xy C) u0 Z)) (X := (wX3 o0 a0 (xy C) u0 [])) (As := [.ref o1, .int x4_27]) (rest := []) (u := u1) hC (fun _ _ => rfl) (fun _ => rfl) (ctX3_mendIfAble h) wvX3_mendIfAble ml_X3_133 rfl (rmok hR0 rfl) ⟨Nat.zero_le _, Nat.zero_le _⟩ rfl (Nat.le_of_ble_eq_true rfl) dX3_act_85 (fun r_45 u_44 h => ?_)
    exact hR _ _ _ (u0, u_44, u2) dX3_act_88 h.1 h.2
  by_cases c_51 : (ga u2 3 (x3).toNatClampNeg) = (4 : Int32)
  · have h := h.2.2.2.2.1 c_51
    refine g_tabIn (pc := 22) (tgt := 89) hC dX3_act_22 (by rw [c_51]; decide) (by rw [c_51]; decide) (by rw [c_51]; rfl) (by decide) ?_
    refine g_aload_n (pc := 89) hC 3 dX3_act_89 rfl rfl ?_
    refine g_iload (pc := 90) hC 1 dX3_act_90 rfl ?_
    refine g_iload (pc := 92) hC 0 dX3_act_92 rfl ?_
    refine g_callS_i (pc := 94) (wd := fun (u : St) Y => (wX2 o1 a1 (xy C) u Y)) (F := fun Z => (wX3 o0 a0 (xy C) u0 Z)) (X := (wX3 o0 a0 (xy C) u0 [])) (As := [.ref o1, .int x4_27, .int x5_28]) (rest := []) (u := u1) hC (fun _ _ => rfl) (fun _ => rfl) (ctX3_giveIfThere h) wvX3_giveIfThere ml_X3_136 rfl (rmok hR0 rfl) ⟨Nat.zero_le _, Nat.zero_le _⟩ rfl (Nat.le_of_ble_eq_true rfl) dX3_act_94 (fun r_49 u_48 h => ?_)
    exact hR _ _ _ (u0, u_48, u2) dX3_act_97 h.1 h.2
  have h := h.2.2.2.2.2 c_33 c_38 c_43 c_47 c_51
  refine g_tabOut (pc := 22) (tgt := 98) hC dX3_act_22 (tab_out (ga u2 3 (x3).toNatClampNeg) (0) 5 (4) rfl (tab_s c_33 (tab_s c_38 (tab_s c_43 (tab_s c_47 (tab_s c_51 tab_0)))))) (by decide) ?_
  refine g_aload_n (pc := 98) hC 3 dX3_act_98 rfl rfl ?_
  refine getX2_1 (pc := 99) hC (F := fun Z => (wX3 o0 a0 (xy C) u0 Z)) (X := (wX3 o0 a0 (xy C) u0 [])) (fun _ => rfl) fl_X3_139 dX3_act_99 ?_
  refine g_if_le (pc := 102) (tgt := 126) hC dX3_act_102 (by decide) (fun c_52 => ?_) (fun c_52 => ?_)
  · have h := h.1 c_52
    refine g_sub (lv' := []) [] rfl ?_
    exact kX3_act_b126 hC hR0 hR  h
  · have h := h.2 c_52
    refine g_aload_n (pc := 105) hC 2 dX3_act_105 rfl rfl ?_
    refine g_aload_n (pc := 106) hC 3 dX3_act_106 rfl rfl ?_
    refine g_callV_i (pc := 107) (wd := fun (u : St × St) Y => (wX3 o0 a0 (xy C) u.1 (wX2 o1 a1 (xy C) u.2 Y))) (F := fun Z => Z) (X := []) (As := [.ref o1]) (rest := []) (u := (u0, u1)) hC (fun _ _ => rfl) (fun _ => rfl) (ctX3_hasWindfall h) wvX3_hasWindfall ml_X3_142 (ci := 2) (q0 := 0) rfl rfl rfl rfl (rmok hR0 rfl) ⟨Nat.zero_le _, Nat.zero_le _⟩ rfl (Nat.le_of_ble_eq_true rfl) dX3_act_107 (fun r_55 u_56 h => ?_)
    obtain ⟨u_53, u_54⟩ := u_56
    refine g_if_ne (pc := 110) (tgt := 122) hC dX3_act_110 (by decide) (fun c_57 => ?_) (fun c_57 => ?_)
    · have h := h.1 c_57
      refine g_sub (lv' := []) [] rfl ?_
      exact kX3_act_b122 hC hR0 hR  h
    · have h := h.2 c_57
      refine g_aload_n (pc := 113) hC 2 dX3_act_113 rfl rfl ?_
      refine g_aload_n (pc := 114) hC 3 dX3_act_114 rfl rfl ?_
      refine g_iconst (pc := 115) (v := 1) hC dX3_act_115 (by decide) ?_
      refine g_callV_i (pc := 116) (wd := fun (u : St × St) Y => (wX3 o0 a0 (xy C) u.1 (wX2 o1 a1 (xy C) u.2 Y))) (F := fun Z => Z) (X := []) (As := [.ref o1, .int (1 : Int32)]) (rest := []) (u := (u_53, u_54)) hC (fun _ _ => rfl) (fun _ => rfl) (ctX3_goBy h) wvX3_goBy ml_X3_122 (ci := 2) (q0 := 0) rfl rfl rfl rfl (rmok hR0 rfl) ⟨Nat.zero_le _, Nat.zero_le _⟩ rfl (Nat.le_of_ble_eq_true rfl) dX3_act_116 (fun r_60 u_61 h => ?_)
      obtain ⟨u_58, u_59⟩ := u_61
      refine g_if_eq (pc := 119) (tgt := 126) hC dX3_act_119 (by decide) (fun c_62 => ?_) (fun c_62 => ?_)
      · have h := h.1 c_62
        refine g_sub (lv' := []) [] rfl ?_
        exact kX3_act_b126 hC hR0 hR  h
      · have h := h.2 c_62
        refine g_sub (lv' := []) [] rfl ?_
        exact kX3_act_b122 hC hR0 hR  h
theorem ctX3_act {l : Launch} {D : va_G} {cy : Nat → ClassId} {kd : Nat → Nat} {o0 : Nat} {a0 : Nat → Nat} {o1 : Nat} {a1 : Nat → Nat} {o2 : Nat} {a2 : Nat → Nat} {x3 : Int32} {u0 : St} {u1 : St} {u2 : St} {post : Int32 → St → St → St → Prop} (h : qX3_act x3 u0 u1 u2 post) : CtI l D cy kd yX3_act cX3_act 6 6 .boolean [.ref o0, .ref o1, .ref o2, .int x3] (fun u : St × St × St => (wX3 o0 a0 cy u.1 (wX2 o1 a1 cy u.2.1 (wX7 o2 a2 cy u.2.2 [])))) (u0, u1, u2) (fun r u => post r u.1 u.2.1 u.2.2) := met_z (by decide) (Nat.le_of_ble_eq_true rfl) (fun C e1 e2 e3 e4 e5 hC hR => by subst e1 e2 e3 e4; exact kX3_act hC e5 hR h)
theorem dX3_run_0 : decode cX3_run 0 = .ok (.aload_n 0, 1) := by decide +kernel
theorem dX3_run_1 : decode cX3_run 1 = .ok (.iconst 1, 1) := by decide +kernel
theorem dX3_run_2 : decode cX3_run 2 = .ok (.putfield 17, 3) := by decide +kernel
theorem dX3_run_5 : decode cX3_run 5 = .ok (.aload_n 0, 1) := by decide +kernel
theorem dX3_run_6 : decode cX3_run 6 = .ok (.iconst 0, 1) := by decide +kernel
theorem dX3_run_7 : decode cX3_run 7 = .ok (.putfield 21, 3) := by decide +kernel
theorem dX3_run_10 : decode cX3_run 10 = .ok (.aload_n 0, 1) := by decide +kernel
theorem dX3_run_11 : decode cX3_run 11 = .ok (.iconst 0, 1) := by decide +kernel
theorem dX3_run_12 : decode cX3_run 12 = .ok (.putfield 25, 3) := by decide +kernel
theorem dX3_run_15 : decode cX3_run 15 = .ok (.aload_n 0, 1) := by decide +kernel
theorem dX3_run_16 : decode cX3_run 16 = .ok (.iconst 0, 1) := by decide +kernel
theorem dX3_run_17 : decode cX3_run 17 = .ok (.putfield 28, 3) := by decide +kernel
theorem dX3_run_20 : decode cX3_run 20 = .ok (.aload_n 0, 1) := by decide +kernel
theorem dX3_run_21 : decode cX3_run 21 = .ok (.iconst 0, 1) := by decide +kernel
theorem dX3_run_22 : decode cX3_run 22 = .ok (.putfield 31, 3) := by decide +kernel
theorem dX3_run_25 : decode cX3_run 25 = .ok (.aload_n 0, 1) := by decide +kernel
theorem dX3_run_26 : decode cX3_run 26 = .ok (.iconst 0, 1) := by decide +kernel
theorem dX3_run_27 : decode cX3_run 27 = .ok (.putfield 34, 3) := by decide +kernel
theorem dX3_run_30 : decode cX3_run 30 = .ok (.aload_n 0, 1) := by decide +kernel
theorem dX3_run_31 : decode cX3_run 31 = .ok (.iload_n 3, 1) := by decide +kernel
theorem dX3_run_32 : decode cX3_run 32 = .ok (.putfield 37, 3) := by decide +kernel
theorem dX3_run_35 : decode cX3_run 35 = .ok (.aload_n 1, 1) := by decide +kernel
theorem dX3_run_36 : decode cX3_run 36 = .ok (.getfield 40, 3) := by decide +kernel
theorem dX3_run_39 : decode cX3_run 39 = .ok (.istore 4, 2) := by decide +kernel
theorem dX3_run_41 : decode cX3_run 41 = .ok (.iconst 0, 1) := by decide +kernel
theorem dX3_run_42 : decode cX3_run 42 = .ok (.istore 5, 2) := by decide +kernel
theorem dX3_run_44 : decode cX3_run 44 = .ok (.iconst 0, 1) := by decide +kernel
theorem dX3_run_45 : decode cX3_run 45 = .ok (.istore 6, 2) := by decide +kernel
theorem dX3_run_47 : decode cX3_run 47 = .ok (.iload 6, 2) := by decide +kernel
theorem dX3_run_49 : decode cX3_run 49 = .ok (.ldc 45, 2) := by decide +kernel
theorem dX3_run_51 : decode cX3_run 51 = .ok (.if_icmp .ge 135, 3) := by decide +kernel
theorem dX3_run_54 : decode cX3_run 54 = .ok (.iload 5, 2) := by decide +kernel
theorem dX3_run_56 : decode cX3_run 56 = .ok (.iconst 0, 1) := by decide +kernel
theorem dX3_run_57 : decode cX3_run 57 = .ok (.aload_n 2, 1) := by decide +kernel
theorem dX3_run_58 : decode cX3_run 58 = .ok (.getfield 46, 3) := by decide +kernel
theorem dX3_run_61 : decode cX3_run 61 = .ok (.iconst 1, 1) := by decide +kernel
theorem dX3_run_62 : decode cX3_run 62 = .ok (.isub, 1) := by decide +kernel
theorem dX3_run_63 : decode cX3_run 63 = .ok (.invokestatic 49, 3) := by decide +kernel
theorem dX3_run_66 : decode cX3_run 66 = .ok (.ifCond .eq 120, 3) := by decide +kernel
theorem dX3_run_69 : decode cX3_run 69 = .ok (.aload_n 0, 1) := by decide +kernel
theorem dX3_run_70 : decode cX3_run 70 = .ok (.getfield 34, 3) := by decide +kernel
theorem dX3_run_73 : decode cX3_run 73 = .ok (.ifCond .ne 113, 3) := by decide +kernel
theorem dX3_run_76 : decode cX3_run 76 = .ok (.aload_n 2, 1) := by decide +kernel
theorem dX3_run_77 : decode cX3_run 77 = .ok (.getfield 53, 3) := by decide +kernel
theorem dX3_run_80 : decode cX3_run 80 = .ok (.iload 5, 2) := by decide +kernel
theorem dX3_run_82 : decode cX3_run 82 = .ok (.iaload, 1) := by decide +kernel
theorem dX3_run_83 : decode cX3_run 83 = .ok (.bipush 13, 2) := by decide +kernel
theorem dX3_run_85 : decode cX3_run 85 = .ok (.if_icmp .ne 15, 3) := by decide +kernel
theorem dX3_run_88 : decode cX3_run 88 = .ok (.aload_n 0, 1) := by decide +kernel
theorem dX3_run_89 : decode cX3_run 89 = .ok (.aload_n 2, 1) := by decide +kernel
theorem dX3_run_90 : decode cX3_run 90 = .ok (.iload 5, 2) := by decide +kernel
theorem dX3_run_92 : decode cX3_run 92 = .ok (.invokevirtual 56, 3) := by decide +kernel
theorem dX3_run_95 : decode cX3_run 95 = .ok (.istore 5, 2) := by decide +kernel
theorem dX3_run_97 : decode cX3_run 97 = .ok (.goto 83, 3) := by decide +kernel
theorem dX3_run_100 : decode cX3_run 100 = .ok (.aload_n 0, 1) := by decide +kernel
theorem dX3_run_101 : decode cX3_run 101 = .ok (.getfield 21, 3) := by decide +kernel
theorem dX3_run_104 : decode cX3_run 104 = .ok (.sipush 300, 3) := by decide +kernel
theorem dX3_run_107 : decode cX3_run 107 = .ok (.if_icmp .lt 11, 3) := by decide +kernel
theorem dX3_run_110 : decode cX3_run 110 = .ok (.aload_n 0, 1) := by decide +kernel
theorem dX3_run_111 : decode cX3_run 111 = .ok (.iconst 1, 1) := by decide +kernel
theorem dX3_run_112 : decode cX3_run 112 = .ok (.putfield 34, 3) := by decide +kernel
theorem dX3_run_115 : decode cX3_run 115 = .ok (.goto 65, 3) := by decide +kernel
theorem dX3_run_118 : decode cX3_run 118 = .ok (.aload_n 0, 1) := by decide +kernel
theorem dX3_run_119 : decode cX3_run 119 = .ok (.dup, 1) := by decide +kernel
theorem dX3_run_120 : decode cX3_run 120 = .ok (.getfield 21, 3) := by decide +kernel
theorem dX3_run_123 : decode cX3_run 123 = .ok (.iconst 1, 1) := by decide +kernel
theorem dX3_run_124 : decode cX3_run 124 = .ok (.iadd, 1) := by decide +kernel
theorem dX3_run_125 : decode cX3_run 125 = .ok (.putfield 21, 3) := by decide +kernel
theorem dX3_run_128 : decode cX3_run 128 = .ok (.aload_n 2, 1) := by decide +kernel
theorem dX3_run_129 : decode cX3_run 129 = .ok (.getfield 53, 3) := by decide +kernel
theorem dX3_run_132 : decode cX3_run 132 = .ok (.iload 5, 2) := by decide +kernel
theorem dX3_run_134 : decode cX3_run 134 = .ok (.iaload, 1) := by decide +kernel
theorem dX3_run_135 : decode cX3_run 135 = .ok (.iconst 5, 1) := by decide +kernel
theorem dX3_run_136 : decode cX3_run 136 = .ok (.if_icmp .le 16, 3) := by decide +kernel
theorem dX3_run_139 : decode cX3_run 139 = .ok (.aload_n 0, 1) := by decide +kernel
theorem dX3_run_140 : decode cX3_run 140 = .ok (.aload_n 1, 1) := by decide +kernel
theorem dX3_run_141 : decode cX3_run 141 = .ok (.aload_n 2, 1) := by decide +kernel
theorem dX3_run_142 : decode cX3_run 142 = .ok (.iload 5, 2) := by decide +kernel
theorem dX3_run_144 : decode cX3_run 144 = .ok (.invokevirtual 60, 3) := by decide +kernel
theorem dX3_run_147 : decode cX3_run 147 = .ok (.istore 5, 2) := by decide +kernel
theorem dX3_run_149 : decode cX3_run 149 = .ok (.goto 31, 3) := by decide +kernel
theorem dX3_run_152 : decode cX3_run 152 = .ok (.aload_n 0, 1) := by decide +kernel
theorem dX3_run_153 : decode cX3_run 153 = .ok (.dup, 1) := by decide +kernel
theorem dX3_run_154 : decode cX3_run 154 = .ok (.getfield 25, 3) := by decide +kernel
theorem dX3_run_157 : decode cX3_run 157 = .ok (.aload_n 0, 1) := by decide +kernel
theorem dX3_run_158 : decode cX3_run 158 = .ok (.aload_n 1, 1) := by decide +kernel
theorem dX3_run_159 : decode cX3_run 159 = .ok (.aload_n 2, 1) := by decide +kernel
theorem dX3_run_160 : decode cX3_run 160 = .ok (.iload 5, 2) := by decide +kernel
theorem dX3_run_162 : decode cX3_run 162 = .ok (.invokevirtual 64, 3) := by decide +kernel
theorem dX3_run_165 : decode cX3_run 165 = .ok (.ifCond .eq 7, 3) := by decide +kernel
theorem dX3_run_168 : decode cX3_run 168 = .ok (.iconst 0, 1) := by decide +kernel
theorem dX3_run_169 : decode cX3_run 169 = .ok (.goto 4, 3) := by decide +kernel
theorem dX3_run_172 : decode cX3_run 172 = .ok (.iconst 1, 1) := by decide +kernel
theorem dX3_run_173 : decode cX3_run 173 = .ok (.iadd, 1) := by decide +kernel
theorem dX3_run_174 : decode cX3_run 174 = .ok (.putfield 25, 3) := by decide +kernel
theorem dX3_run_177 : decode cX3_run 177 = .ok (.iinc 5 1, 3) := by decide +kernel
theorem dX3_run_180 : decode cX3_run 180 = .ok (.iinc 6 1, 3) := by decide +kernel
theorem dX3_run_183 : decode cX3_run 183 = .ok (.goto (-136), 3) := by decide +kernel
theorem dX3_run_186 : decode cX3_run 186 = .ok (.aload_n 0, 1) := by decide +kernel
theorem dX3_run_187 : decode cX3_run 187 = .ok (.aload_n 1, 1) := by decide +kernel
theorem dX3_run_188 : decode cX3_run 188 = .ok (.getfield 40, 3) := by decide +kernel
theorem dX3_run_191 : decode cX3_run 191 = .ok (.iload 4, 2) := by decide +kernel
theorem dX3_run_193 : decode cX3_run 193 = .ok (.ixor, 1) := by decide +kernel
theorem dX3_run_194 : decode cX3_run 194 = .ok (.invokestatic 68, 3) := by decide +kernel
theorem dX3_run_197 : decode cX3_run 197 = .ok (.putfield 74, 3) := by decide +kernel
theorem dX3_run_200 : decode cX3_run 200 = .ok (.return_, 1) := by decide +kernel
def qX3_run_b180  (post : St → St → St → Prop) (K47 : Int32 → Int32 → Int32 → St → St → St → Prop) (x4 : Int32) (x5 : Int32) (x6 : Int32) (u0 : St) (u1 : St) (u2 : St) : Prop := ∀ x6_32 : Int32, x6_32 = x6 + (1 : Int32) → K47 x4 x5 x6_32 u0 u1 u2
set_option maxRecDepth 100000 in
set_option maxHeartbeats 4000000 in
theorem kX3_run_b180 {C : Cx} {o0 : Nat} {a0 : Nat → Nat} {o1 : Nat} {a1 : Nat → Nat} {o2 : Nat} {a2 : Nat → Nat} (hC : Fx C cX3_run 7 RX3) (hR0 : xR C = rm 7) {post : St → St → St → Prop} (hR : RV C cX3_run 7 (fun u : St × St × St => (wX3 o0 a0 (xy C) u.1 (wX2 o1 a1 (xy C) u.2.1 (wX7 o2 a2 (xy C) u.2.2 [])))) (fun u => post u.1 u.2.1 u.2.2)) {K47 : Int32 → Int32 → Int32 → St → St → St → Prop} (hK47 : ∀ (x4 : Int32) (x5 : Int32) (x6 : Int32) (u0 : St) (u1 : St) (u2 : St), K47 x4 x5 x6 u0 u1 u2 → G C 0 0 7 (wX3 o0 a0 (xy C) u0 (wX2 o1 a1 (xy C) u1 (wX7 o2 a2 (xy C) u2 []))) 47 [(0, .ref o0), (1, .ref o1), (2, .ref o2), (4, .int x4), (5, .int x5), (6, .int x6)] []) {x4 : Int32} {x5 : Int32} {x6 : Int32} {u0 : St} {u1 : St} {u2 : St} (h : qX3_run_b180 post K47 x4 x5 x6 u0 u1 u2) : G C 0 0 7 (wX3 o0 a0 (xy C) u0 (wX2 o1 a1 (xy C) u1 (wX7 o2 a2 (xy C) u2 []))) 180 [(0, .ref o0), (1, .ref o1), (2, .ref o2), (4, .int x4), (5, .int x5), (6, .int x6)] [] := by
  obtain ⟨x6_32, ex6_32⟩ : ∃ z : Int32, z = x6 + (1 : Int32) := ⟨_, rfl⟩
  have h := h x6_32 ex6_32
  refine g_iinc (pc := 180) (v := x6_32) (lv' := [(6, .int x6_32), (0, .ref o0), (1, .ref o1), (2, .ref o2), (4, .int x4), (5, .int x5)]) hC 5 dX3_run_180 rfl (by rw [ex6_32]; rfl) (Nat.le_of_ble_eq_true rfl) rfl ?_
  refine g_goto (pc := 183) (tgt := 47) hC dX3_run_183 (by decide) ?_
  refine g_sub (lv' := [(0, .ref o0), (1, .ref o1), (2, .ref o2), (4, .int x4), (5, .int x5), (6, .int x6_32)]) [1, 2, 3, 4, 5, 0] rfl ?_
  exact hK47 _ _ _ _ _ _ h
def qX3_run_b173  (post : St → St → St → Prop) (K47 : Int32 → Int32 → Int32 → St → St → St → Prop) (x4 : Int32) (x5 : Int32) (x6 : Int32) (s0 : Int32) (s1 : Int32) (u0 : St) (u1 : St) (u2 : St) : Prop := ∀ u_33 : St, u_33 = (si u0 2 (s1 + s0)) → ∀ x5_34 : Int32, x5_34 = x5 + (1 : Int32) → qX3_run_b180 post K47 x4 x5_34 x6 u_33 u1 u2
set_option maxRecDepth 100000 in
set_option maxHeartbeats 4000000 in
theorem kX3_run_b173 {C : Cx} {o0 : Nat} {a0 : Nat → Nat} {o1 : Nat} {a1 : Nat → Nat} {o2 : Nat} {a2 : Nat → Nat} (hC : Fx C cX3_run 7 RX3) (hR0 : xR C = rm 7) {post : St → St → St → Prop} (hR : RV C cX3_run 7 (fun u : St × St × St => (wX3 o0 a0 (xy C) u.1 (wX2 o1 a1 (xy C) u.2.1 (wX7 o2 a2 (xy C) u.2.2 [])))) (fun u => post u.1 u.2.1 u.2.2)) {K47 : Int32 → Int32 → Int32 → St → St → St → Prop} (hK47 : ∀ (x4 : Int32) (x5 : Int32) (x6 : Int32) (u0 : St) (u1 : St) (u2 : St), K47 x4 x5 x6 u0 u1 u2 → G C 0 0 7 (wX3 o0 a0 (xy C) u0 (wX2 o1 a1 (xy C) u1 (wX7 o2 a2 (xy C) u2 []))) 47 [(0, .ref o0), (1, .ref o1), (2, .ref o2), (4, .int x4), (5, .int x5), (6, .int x6)] []) {x4 : Int32} {x5 : Int32} {x6 : Int32} {s0 : Int32} {s1 : Int32} {u0 : St} {u1 : St} {u2 : St} (h : qX3_run_b173 post K47 x4 x5 x6 s0 s1 u0 u1 u2) : G C 0 0 7 (wX3 o0 a0 (xy C) u0 (wX2 o1 a1 (xy C) u1 (wX7 o2 a2 (xy C) u2 []))) 173 [(0, .ref o0), (1, .ref o1), (2, .ref o2), (4, .int x4), (5, .int x5), (6, .int x6)] [.int s0, .int s1, .ref o0] := by
  refine g_iadd (pc := 173) hC dX3_run_173 ?_
  refine putX3_2 (pc := 174) hC (F := fun Z => Z) (X := []) (fun _ => rfl) fl_X3_25 dX3_run_174 ?_
  refine g_st (w := fun z => (wX3 o0 a0 (xy C) z (wX2 o1 a1 (xy C) u1 (wX7 o2 a2 (xy C) u2 [])))) (u := (si u0 2 (s1 + s0))) (fun u_33 eu_33 => ?_)
  have h := h u_33 eu_33
  obtain ⟨x5_34, ex5_34⟩ : ∃ z : Int32, z = x5 + (1 : Int32) := ⟨_, rfl⟩
  have h := h x5_34 ex5_34
  refine g_iinc (pc := 177) (v := x5_34) (lv' := [(5, .int x5_34), (0, .ref o0), (1, .ref o1), (2, .ref o2), (4, .int x4), (6, .int x6)]) hC 4 dX3_run_177 rfl (by rw [ex5_34]; rfl) (Nat.le_of_ble_eq_true rfl) rfl ?_
  refine g_sub (lv' := [(0, .ref o0), (1, .ref o1), (2, .ref o2), (4, .int x4), (5, .int x5_34), (6, .int x6)]) [1, 2, 3, 4, 0, 5] rfl ?_
  exact kX3_run_b180 hC hR0 hR hK47 h
def qX3_run_b186  (post : St → St → St → Prop)  (x4 : Int32) (u0 : St) (u1 : St) (u2 : St) : Prop := qJ6_bitCount_0f7a4 ((gi u1 5) ^^^ x4) (fun r_35 => ∀ u_37 : St, u_37 = (si u0 5 r_35) → post u_37 u1 u2)
set_option maxRecDepth 100000 in
set_option maxHeartbeats 4000000 in
theorem kX3_run_b186 {C : Cx} {o0 : Nat} {a0 : Nat → Nat} {o1 : Nat} {a1 : Nat → Nat} {o2 : Nat} {a2 : Nat → Nat} (hC : Fx C cX3_run 7 RX3) (hR0 : xR C = rm 7) {post : St → St → St → Prop} (hR : RV C cX3_run 7 (fun u : St × St × St => (wX3 o0 a0 (xy C) u.1 (wX2 o1 a1 (xy C) u.2.1 (wX7 o2 a2 (xy C) u.2.2 [])))) (fun u => post u.1 u.2.1 u.2.2))  {x4 : Int32} {u0 : St} {u1 : St} {u2 : St} (h : qX3_run_b186 post x4 u0 u1 u2) : G C 0 0 7 (wX3 o0 a0 (xy C) u0 (wX2 o1 a1 (xy C) u1 (wX7 o2 a2 (xy C) u2 []))) 186 [(0, .ref o0), (1, .ref o1), (4, .int x4)] [] := by
  refine g_aload_n (pc := 186) hC 0 dX3_run_186 rfl rfl ?_
  refine g_aload_n (pc := 187) hC 1 dX3_run_187 rfl rfl ?_
  refine getX2_5 (pc := 188) hC (F := fun Z => (wX3 o0 a0 (xy C) u0 Z)) (X := (wX3 o0 a0 (xy C) u0 [])) (fun _ => rfl) fl_X3_40 dX3_run_188 ?_
  refine g_iload (pc := 191) hC 2 dX3_run_191 rfl ?_
  refine g_ixor (pc := 193) hC dX3_run_193 ?_
  refine g_callS_i (pc := 194) (wd := fun (_ : Unit) Y => Y) (F := fun Z => Z) (X := []) (As := [.int ((gi u1 5) ^^^ x4)]) (rest := [.ref o0]) (u := ()) hC (fun _ _ => rfl) (fun _ => rfl) (ctJ6_bitCount_0f7a4 h) wvJ6_bitCount_0f7a4 ml_X3_68 rfl (rmok hR0 rfl) ⟨Nat.zero_le _, Nat.zero_le _⟩ rfl (Nat.le_of_ble_eq_true rfl) dX3_run_194 (fun r_35 u_36 h => ?_)
  refine putX3_5 (pc := 197) hC (F := fun Z => Z) (X := []) (fun _ => rfl) fl_X3_74 dX3_run_197 ?_
  refine g_st (w := fun z => (wX3 o0 a0 (xy C) z (wX2 o1 a1 (xy C) u1 (wX7 o2 a2 (xy C) u2 [])))) (u := (si u0 5 r_35)) (fun u_37 eu_37 => ?_)
  have h := h u_37 eu_37
  exact hR _ _ (u_37, u1, u2) dX3_run_200 h
def qX3_run_l47  (post : St → St → St → Prop) (K47 : Int32 → Int32 → Int32 → St → St → St → Prop) (x4 : Int32) (x5 : Int32) (x6 : Int32) (u0 : St) (u1 : St) (u2 : St) : Prop := (((100000 : Int32) ≤ x6 → qX3_run_b186 post x4 u0 u1 u2) ∧ (¬ (100000 : Int32) ≤ x6 → qX11_within x5 (0 : Int32) ((gi u2 2) - (1 : Int32)) (fun r_39 => ((r_39 = 0 → qX3_run_b186 post x4 u0 u1 u2) ∧ (¬ r_39 = 0 → ((¬ (gi u0 6) = 0 → qX3_run_b186 post x4 u0 u1 u2) ∧ ((gi u0 6) = 0 → (vp_in x5 60 ∧ ((¬ (ga u2 3 (x5).toNatClampNeg) = (13 : Int32) → (((gi u0 1) < (300 : Int32) → ∀ u_45 : St, u_45 = (si u0 1 ((gi u0 1) + (1 : Int32))) → (vp_in x5 60 ∧ (((ga u2 3 (x5).toNatClampNeg) ≤ (5 : Int32) → qX3_act x5 u_45 u1 u2 (fun r_50 u_47 u_48 u_49 => ((r_50 = 0 → qX3_run_b173 post K47 x4 x5 x6 (1 : Int32) (gi u_45 2) u_47 u_48 u_49) ∧ (¬ r_50 = 0 → qX3_run_b173 post K47 x4 x5 x6 (0 : Int32) (gi u_45 2) u_47 u_48 u_49)))) ∧ (¬ (ga u2 3 (x5).toNatClampNeg) ≤ (5 : Int32) → qX3_turnTo x5 u_45 u1 u2 (fun r_56 u_53 u_54 u_55 => qX3_run_b180 post K47 x4 r_56 x6 u_53 u_54 u_55))))) ∧ (¬ (gi u0 1) < (300 : Int32) → ∀ u_58 : St, u_58 = (si u0 6 (1 : Int32)) → qX3_run_b180 post K47 x4 x5 x6 u_58 u1 u2))) ∧ ((ga u2 3 (x5).toNatClampNeg) = (13 : Int32) → qX3_behindEnd x5 u0 u2 (fun r_61 u_59 u_60 => qX3_run_b180 post K47 x4 r_61 x6 u_59 u1 u_60)))))))))))
set_option maxRecDepth 100000 in
set_option maxHeartbeats 4000000 in
theorem kX3_run_l47 {C : Cx} {o0 : Nat} {a0 : Nat → Nat} {o1 : Nat} {a1 : Nat → Nat} {o2 : Nat} {a2 : Nat → Nat} (hC : Fx C cX3_run 7 RX3) (hR0 : xR C = rm 7) {post : St → St → St → Prop} (hR : RV C cX3_run 7 (fun u : St × St × St => (wX3 o0 a0 (xy C) u.1 (wX2 o1 a1 (xy C) u.2.1 (wX7 o2 a2 (xy C) u.2.2 [])))) (fun u => post u.1 u.2.1 u.2.2))  {K47 : Int32 → Int32 → Int32 → St → St → St → Prop} (hK47 : ∀ (x4 : Int32) (x5 : Int32) (x6 : Int32) (u0 : St) (u1 : St) (u2 : St), K47 x4 x5 x6 u0 u1 u2 → G C 0 0 7 (wX3 o0 a0 (xy C) u0 (wX2 o1 a1 (xy C) u1 (wX7 o2 a2 (xy C) u2 []))) 47 [(0, .ref o0), (1, .ref o1), (2, .ref o2), (4, .int x4), (5, .int x5), (6, .int x6)] []) {x4 : Int32} {x5 : Int32} {x6 : Int32} {u0 : St} {u1 : St} {u2 : St} (h : qX3_run_l47 post K47 x4 x5 x6 u0 u1 u2) : G C 0 0 7 (wX3 o0 a0 (xy C) u0 (wX2 o1 a1 (xy C) u1 (wX7 o2 a2 (xy C) u2 []))) 47 [(0, .ref o0), (1, .ref o1), (2, .ref o2), (4, .int x4), (5, .int x5), (6, .int x6)] [] := by
  refine g_iload (pc := 47) hC 5 dX3_run_47 rfl ?_
  refine g_ldc (pc := 49) hC cn_X3_45 dX3_run_49 ?_
  refine g_icmp_ge (pc := 51) (tgt := 186) hC dX3_run_51 (by decide) (fun c_38 => ?_) (fun c_38 => ?_)
  · have h := h.1 c_38
    refine g_sub (lv' := [(0, .ref o0), (1, .ref o1), (4, .int x4)]) [0, 1, 3] rfl ?_
    exact kX3_run_b186 hC hR0 hR  h
  · have h := h.2 c_38
    refine g_iload (pc := 54) hC 4 dX3_run_54 rfl ?_
    refine g_iconst (pc := 56) (v := 0) hC dX3_run_56 (by decide) ?_
    refine g_aload_n (pc := 57) hC 2 dX3_run_57 rfl rfl ?_
    refine getX7_2 (pc := 58) hC (F := fun Z => (wX3 o0 a0 (xy C) u0 (wX2 o1 a1 (xy C) u1 Z))) (X := (wX3 o0 a0 (xy C) u0 (wX2 o1 a1 (xy C) u1 []))) (fun _ => rfl) fl_X3_46 dX3_run_58 ?_
    refine g_iconst (pc := 61) (v := 1) hC dX3_run_61 (by decide) ?_
    refine g_isub (pc := 62) hC dX3_run_62 ?_
    refine g_callSN_i (pc := 63) (wd := fun (_ : Unit) Y => Y) (F := fun Z => Z) (X := []) (As := [.int x5, .int (0 : Int32), .int ((gi u2 2) - (1 : Int32))]) (rest := []) (u := ()) hC (fun _ _ => rfl) (fun _ => rfl) (ctX11_within h) wvX11_within nl_X3_49 rfl (rmok hR0 rfl) ⟨Nat.zero_le _, Nat.zero_le _⟩ rfl (Nat.le_of_ble_eq_true rfl) dX3_run_63 (fun r_39 u_40 h => ?_)
    refine g_if_eq (pc := 66) (tgt := 186) hC dX3_run_66 (by decide) (fun c_41 => ?_) (fun c_41 => ?_)
    · have h := h.1 c_41
      refine g_sub (lv' := [(0, .ref o0), (1, .ref o1), (4, .int x4)]) [0, 1, 3] rfl ?_
      exact kX3_run_b186 hC hR0 hR  h
    · have h := h.2 c_41
      refine g_aload_n (pc := 69) hC 0 dX3_run_69 rfl rfl ?_
      refine getX3_6 (pc := 70) hC (F := fun Z => Z) (X := []) (fun _ => rfl) fl_X3_34 dX3_run_70 ?_
      refine g_if_ne (pc := 73) (tgt := 186) hC dX3_run_73 (by decide) (fun c_42 => ?_) (fun c_42 => ?_)
      · have h := h.1 c_42
        refine g_sub (lv' := [(0, .ref o0), (1, .ref o1), (4, .int x4)]) [0, 1, 3] rfl ?_
        exact kX3_run_b186 hC hR0 hR  h
      · have h := h.2 c_42
        refine g_aload_n (pc := 76) hC 2 dX3_run_76 rfl rfl ?_
        refine getX7_3 (pc := 77) hC (F := fun Z => (wX3 o0 a0 (xy C) u0 (wX2 o1 a1 (xy C) u1 Z))) (X := (wX3 o0 a0 (xy C) u0 (wX2 o1 a1 (xy C) u1 []))) (fun _ => rfl) fl_X3_53 dX3_run_77 ?_
        refine g_iload (pc := 80) hC 4 dX3_run_80 rfl ?_
        refine aldX7_3 (pc := 82) hC (F := fun Z => (wX3 o0 a0 (xy C) u0 (wX2 o1 a1 (xy C) u1 Z))) (X := (wX3 o0 a0 (xy C) u0 (wX2 o1 a1 (xy C) u1 []))) (fun _ => rfl) h.1 dX3_run_82 ?_
        have h := h.2
        refine g_bipush (pc := 83) (v := 13) hC dX3_run_83 (by decide) ?_
        refine g_icmp_ne (pc := 85) (tgt := 100) hC dX3_run_85 (by decide) (fun c_43 => ?_) (fun c_43 => ?_)
        · have h := h.1 c_43
          refine g_aload_n (pc := 100) hC 0 dX3_run_100 rfl rfl ?_
          refine getX3_1 (pc := 101) hC (F := fun Z => Z) (X := []) (fun _ => rfl) fl_X3_21 dX3_run_101 ?_
          refine g_sipush (pc := 104) (v := 300) hC dX3_run_104 (by decide) ?_
          refine g_icmp_lt (pc := 107) (tgt := 118) hC dX3_run_107 (by decide) (fun c_44 => ?_) (fun c_44 => ?_)
          · have h := h.1 c_44
            refine g_aload_n (pc := 118) hC 0 dX3_run_118 rfl rfl ?_
            refine g_dup (pc := 119) hC dX3_run_119 rfl ?_
            refine getX3_1 (pc := 120) hC (F := fun Z => Z) (X := []) (fun _ => rfl) fl_X3_21 dX3_run_120 ?_
            refine g_iconst (pc := 123) (v := 1) hC dX3_run_123 (by decide) ?_
            refine g_iadd (pc := 124) hC dX3_run_124 ?_
            refine putX3_1 (pc := 125) hC (F := fun Z => Z) (X := []) (fun _ => rfl) fl_X3_21 dX3_run_125 ?_
            refine g_st (w := fun z => (wX3 o0 a0 (xy C) z (wX2 o1 a1 (xy C) u1 (wX7 o2 a2 (xy C) u2 [])))) (u := (si u0 1 ((gi u0 1) + (1 : Int32)))) (fun u_45 eu_45 => ?_)
            have h := h u_45 eu_45
            refine g_aload_n (pc := 128) hC 2 dX3_run_128 rfl rfl ?_
            refine getX7_3 (pc := 129) hC (F := fun Z => (wX3 o0 a0 (xy C) u_45 (wX2 o1 a1 (xy C) u1 Z))) (X := (wX3 o0 a0 (xy C) u_45 (wX2 o1 a1 (xy C) u1 []))) (fun _ => rfl) fl_X3_53 dX3_run_129 ?_
            refine g_iload (pc := 132) hC 4 dX3_run_132 rfl ?_
            refine aldX7_3 (pc := 134) hC (F := fun Z => (wX3 o0 a0 (xy C) u_45 (wX2 o1 a1 (xy C) u1 Z))) (X := (wX3 o0 a0 (xy C) u_45 (wX2 o1 a1 (xy C) u1 []))) (fun _ => rfl) h.1 dX3_run_134 ?_
            have h := h.2
            refine g_iconst (pc := 135) (v := 5) hC dX3_run_135 (by decide) ?_
            refine g_icmp_le (pc := 136) (tgt := 152) hC dX3_run_136 (by decide) (fun c_46 => ?_) (fun c_46 => ?_)
            · have h := h.1 c_46
              refine g_aload_n (pc := 152) hC 0 dX3_run_152 rfl rfl ?_
              refine g_dup (pc := 153) hC dX3_run_153 rfl ?_
              refine getX3_2 (pc := 154) hC (F := fun Z => Z) (X := []) (fun _ => rfl) fl_X3_25 dX3_run_154 ?_
              refine g_aload_n (pc := 157) hC 0 dX3_run_157 rfl rfl ?_
              refine g_aload_n (pc := 158) hC 1 dX3_run_158 rfl rfl ?_
              refine g_aload_n (pc := 159) hC 2 dX3_run_159 rfl rfl ?_
              refine g_iload (pc := 160) hC 4 dX3_run_160 rfl ?_
              refine g_callV_i (pc := 162) (wd := fun (u : St × St × St) Y => (wX3 o0 a0 (xy C) u.1 (wX2 o1 a1 (xy C) u.2.1 (wX7 o2 a2 (xy C) u.2.2 Y)))) (F := fun Z => Z) (X := []) (As := [.ref o1, .ref o2, .int x5]) (rest := [.int (gi u_45 2), .ref o0]) (u := (u_45, u1, u2)) hC (fun _ _ => rfl) (fun _ => rfl) (ctX3_act h) wvX3_act ml_X3_64 (ci := 2) (q0 := 0) rfl rfl rfl rfl (rmok hR0 rfl) ⟨Nat.zero_le _, Nat.zero_le _⟩ rfl (Nat.le_of_ble_eq_true rfl) dX3_run_162 (fun r_50 u_51 h => ?_)
              obtain ⟨u_47, u_48, u_49⟩ := u_51
              refine g_if_eq (pc := 165) (tgt := 172) hC dX3_run_165 (by decide) (fun c_52 => ?_) (fun c_52 => ?_)
              · have h := h.1 c_52
                refine g_iconst (pc := 172) (v := 1) hC dX3_run_172 (by decide) ?_
                exact kX3_run_b173 hC hR0 hR hK47 h
              · have h := h.2 c_52
                refine g_iconst (pc := 168) (v := 0) hC dX3_run_168 (by decide) ?_
                refine g_goto (pc := 169) (tgt := 173) hC dX3_run_169 (by decide) ?_
                exact kX3_run_b173 hC hR0 hR hK47 h
            · have h := h.2 c_46
              refine g_aload_n (pc := 139) hC 0 dX3_run_139 rfl rfl ?_
              refine g_aload_n (pc := 140) hC 1 dX3_run_140 rfl rfl ?_
              refine g_aload_n (pc := 141) hC 2 dX3_run_141 rfl rfl ?_
              refine g_iload (pc := 142) hC 4 dX3_run_142 rfl ?_
              refine g_callV_i (pc := 144) (wd := fun (u : St × St × St) Y => (wX3 o0 a0 (xy C) u.1 (wX2 o1 a1 (xy C) u.2.1 (wX7 o2 a2 (xy C) u.2.2 Y)))) (F := fun Z => Z) (X := []) (As := [.ref o1, .ref o2, .int x5]) (rest := []) (u := (u_45, u1, u2)) hC (fun _ _ => rfl) (fun _ => rfl) (ctX3_turnTo h) wvX3_turnTo ml_X3_60 (ci := 2) (q0 := 0) rfl rfl rfl rfl (rmok hR0 rfl) ⟨Nat.zero_le _, Nat.zero_le _⟩ rfl (Nat.le_of_ble_eq_true rfl) dX3_run_144 (fun r_56 u_57 h => ?_)
              obtain ⟨u_53, u_54, u_55⟩ := u_57
              refine g_istore (pc := 147) (lv' := [(5, .int r_56), (0, .ref o0), (1, .ref o1), (2, .ref o2), (4, .int x4), (6, .int x6)]) hC dX3_run_147 (Nat.le_of_ble_eq_true rfl) rfl ?_
              refine g_goto (pc := 149) (tgt := 180) hC dX3_run_149 (by decide) ?_
              refine g_sub (lv' := [(0, .ref o0), (1, .ref o1), (2, .ref o2), (4, .int x4), (5, .int r_56), (6, .int x6)]) [1, 2, 3, 4, 0, 5] rfl ?_
              exact kX3_run_b180 hC hR0 hR hK47 h
          · have h := h.2 c_44
            refine g_aload_n (pc := 110) hC 0 dX3_run_110 rfl rfl ?_
            refine g_iconst (pc := 111) (v := 1) hC dX3_run_111 (by decide) ?_
            refine putX3_6 (pc := 112) hC (F := fun Z => Z) (X := []) (fun _ => rfl) fl_X3_34 (Or.inr rfl) dX3_run_112 ?_
            refine g_st (w := fun z => (wX3 o0 a0 (xy C) z (wX2 o1 a1 (xy C) u1 (wX7 o2 a2 (xy C) u2 [])))) (u := (si u0 6 (1 : Int32))) (fun u_58 eu_58 => ?_)
            have h := h u_58 eu_58
            refine g_goto (pc := 115) (tgt := 180) hC dX3_run_115 (by decide) ?_
            exact kX3_run_b180 hC hR0 hR hK47 h
        · have h := h.2 c_43
          refine g_aload_n (pc := 88) hC 0 dX3_run_88 rfl rfl ?_
          refine g_aload_n (pc := 89) hC 2 dX3_run_89 rfl rfl ?_
          refine g_iload (pc := 90) hC 4 dX3_run_90 rfl ?_
          refine g_swap (F := fun Z => (wX3 o0 a0 (xy C) u0 Z)) (X := (wX3 o0 a0 (xy C) u0 [])) (f := fun Z => (wX2 o1 a1 (xy C) u1 Z)) (g := fun Z => (wX7 o2 a2 (xy C) u2 Z)) (Y := []) (fun _ => rfl) (fun _ => rfl) (fun _ => rfl) ?_
          refine g_callV_i (pc := 92) (wd := fun (u : St × St) Y => (wX3 o0 a0 (xy C) u.1 (wX7 o2 a2 (xy C) u.2 Y))) (F := fun Z => Z) (X := []) (As := [.ref o2, .int x5]) (rest := []) (u := (u0, u2)) hC (fun _ _ => rfl) (fun _ => rfl) (ctX3_behindEnd h) wvX3_behindEnd ml_X3_56 (ci := 2) (q0 := 0) rfl rfl rfl rfl (rmok hR0 rfl) ⟨Nat.zero_le _, Nat.zero_le _⟩ rfl (Nat.le_of_ble_eq_true rfl) dX3_run_92 (fun r_61 u_62 h => ?_)
          obtain ⟨u_59, u_60⟩ := u_62
          refine g_istore (pc := 95) (lv' := [(5, .int r_61), (0, .ref o0), (1, .ref o1), (2, .ref o2), (4, .int x4), (6, .int x6)]) hC dX3_run_95 (Nat.le_of_ble_eq_true rfl) rfl ?_
          refine g_goto (pc := 97) (tgt := 180) hC dX3_run_97 (by decide) ?_
          refine g_swap (F := fun Z => (wX3 o0 a0 (xy C) u_59 Z)) (X := (wX3 o0 a0 (xy C) u_59 [])) (f := fun Z => (wX7 o2 a2 (xy C) u_60 Z)) (g := fun Z => (wX2 o1 a1 (xy C) u1 Z)) (Y := []) (fun _ => rfl) (fun _ => rfl) (fun _ => rfl) ?_
          refine g_sub (lv' := [(0, .ref o0), (1, .ref o1), (2, .ref o2), (4, .int x4), (5, .int r_61), (6, .int x6)]) [1, 2, 3, 4, 0, 5] rfl ?_
          exact kX3_run_b180 hC hR0 hR hK47 h
def qX3_run_L47  (post : St → St → St → Prop)  : Nat → Int32 → Int32 → Int32 → St → St → St → Prop
  | 0 => fun _ _ _ _ _ _ => False
  | n + 1 => qX3_run_l47 post (qX3_run_L47 post n)
theorem kX3_run_L47 {C : Cx} {o0 : Nat} {a0 : Nat → Nat} {o1 : Nat} {a1 : Nat → Nat} {o2 : Nat} {a2 : Nat → Nat} (hC : Fx C cX3_run 7 RX3) (hR0 : xR C = rm 7) {post : St → St → St → Prop} (hR : RV C cX3_run 7 (fun u : St × St × St => (wX3 o0 a0 (xy C) u.1 (wX2 o1 a1 (xy C) u.2.1 (wX7 o2 a2 (xy C) u.2.2 [])))) (fun u => post u.1 u.2.1 u.2.2))  : ∀ (n : Nat) (x4 : Int32) (x5 : Int32) (x6 : Int32) (u0 : St) (u1 : St) (u2 : St), qX3_run_L47 post n x4 x5 x6 u0 u1 u2 → G C 0 0 7 (wX3 o0 a0 (xy C) u0 (wX2 o1 a1 (xy C) u1 (wX7 o2 a2 (xy C) u2 []))) 47 [(0, .ref o0), (1, .ref o1), (2, .ref o2), (4, .int x4), (5, .int x5), (6, .int x6)] [] := by
  intro n
  induction n with
  | zero => intro x4 x5 x6 u0 u1 u2 h; exact h.elim
  | succ n ih => intro x4 x5 x6 u0 u1 u2 h; exact kX3_run_l47 hC hR0 hR  ih h
def qX3_run (x3 : Int32) (u0 : St) (u1 : St) (u2 : St) (post : St → St → St → Prop) : Prop := ∀ u_63 : St, u_63 = (si u0 0 (1 : Int32)) → ∀ u_64 : St, u_64 = (si u_63 1 (0 : Int32)) → ∀ u_65 : St, u_65 = (si u_64 2 (0 : Int32)) → ∀ u_66 : St, u_66 = (si u_65 3 (0 : Int32)) → ∀ u_67 : St, u_67 = (si u_66 4 (0 : Int32)) → ∀ u_68 : St, u_68 = (si u_67 6 (0 : Int32)) → ∀ u_69 : St, u_69 = (si u_68 7 x3) → ∀ x4_70 : Int32, x4_70 = (gi u1 5) → ∃ n_71 : Nat, qX3_run_L47 post n_71 x4_70 (0 : Int32) (0 : Int32) u_69 u1 u2
set_option maxRecDepth 100000 in
set_option maxHeartbeats 4000000 in
theorem kX3_run {C : Cx} {o0 : Nat} {a0 : Nat → Nat} {o1 : Nat} {a1 : Nat → Nat} {o2 : Nat} {a2 : Nat → Nat} (hC : Fx C cX3_run 7 RX3) (hR0 : xR C = rm 7) {post : St → St → St → Prop} (hR : RV C cX3_run 7 (fun u : St × St × St => (wX3 o0 a0 (xy C) u.1 (wX2 o1 a1 (xy C) u.2.1 (wX7 o2 a2 (xy C) u.2.2 [])))) (fun u => post u.1 u.2.1 u.2.2)) {x3 : Int32} {u0 : St} {u1 : St} {u2 : St} (h : qX3_run x3 u0 u1 u2 post) : G C 0 0 7 (wX3 o0 a0 (xy C) u0 (wX2 o1 a1 (xy C) u1 (wX7 o2 a2 (xy C) u2 []))) 0 [(0, .ref o0), (1, .ref o1), (2, .ref o2), (3, .int x3)] [] := by
  refine g_aload_n (pc := 0) hC 0 dX3_run_0 rfl rfl ?_
  refine g_iconst (pc := 1) (v := 1) hC dX3_run_1 (by decide) ?_
  refine putX3_0 (pc := 2) hC (F := fun Z => Z) (X := []) (fun _ => rfl) fl_X3_17 (Or.inr rfl) dX3_run_2 ?_
  refine g_st (w := fun z => (wX3 o0 a0 (xy C) z (wX2 o1 a1 (xy C) u1 (wX7 o2 a2 (xy C) u2 [])))) (u := (si u0 0 (1 : Int32))) (fun u_63 eu_63 => ?_)
  have h := h u_63 eu_63
  refine g_aload_n (pc := 5) hC 0 dX3_run_5 rfl rfl ?_
  refine g_iconst (pc := 6) (v := 0) hC dX3_run_6 (by decide) ?_
  refine putX3_1 (pc := 7) hC (F := fun Z => Z) (X := []) (fun _ => rfl) fl_X3_21 dX3_run_7 ?_
  refine g_st (w := fun z => (wX3 o0 a0 (xy C) z (wX2 o1 a1 (xy C) u1 (wX7 o2 a2 (xy C) u2 [])))) (u := (si u_63 1 (0 : Int32))) (fun u_64 eu_64 => ?_)
  have h := h u_64 eu_64
  refine g_aload_n (pc := 10) hC 0 dX3_run_10 rfl rfl ?_
  refine g_iconst (pc := 11) (v := 0) hC dX3_run_11 (by decide) ?_
  refine putX3_2 (pc := 12) hC (F := fun Z => Z) (X := []) (fun _ => rfl) fl_X3_25 dX3_run_12 ?_
  refine g_st (w := fun z => (wX3 o0 a0 (xy C) z (wX2 o1 a1 (xy C) u1 (wX7 o2 a2 (xy C) u2 [])))) (u := (si u_64 2 (0 : Int32))) (fun u_65 eu_65 => ?_)
  have h := h u_65 eu_65
  refine g_aload_n (pc := 15) hC 0 dX3_run_15 rfl rfl ?_
  refine g_iconst (pc := 16) (v := 0) hC dX3_run_16 (by decide) ?_
  refine putX3_3 (pc := 17) hC (F := fun Z => Z) (X := []) (fun _ => rfl) fl_X3_28 dX3_run_17 ?_
  refine g_st (w := fun z => (wX3 o0 a0 (xy C) z (wX2 o1 a1 (xy C) u1 (wX7 o2 a2 (xy C) u2 [])))) (u := (si u_65 3 (0 : Int32))) (fun u_66 eu_66 => ?_)
  have h := h u_66 eu_66
  refine g_aload_n (pc := 20) hC 0 dX3_run_20 rfl rfl ?_
  refine g_iconst (pc := 21) (v := 0) hC dX3_run_21 (by decide) ?_
  refine putX3_4 (pc := 22) hC (F := fun Z => Z) (X := []) (fun _ => rfl) fl_X3_31 dX3_run_22 ?_
  refine g_st (w := fun z => (wX3 o0 a0 (xy C) z (wX2 o1 a1 (xy C) u1 (wX7 o2 a2 (xy C) u2 [])))) (u := (si u_66 4 (0 : Int32))) (fun u_67 eu_67 => ?_)
  have h := h u_67 eu_67
  refine g_aload_n (pc := 25) hC 0 dX3_run_25 rfl rfl ?_
  refine g_iconst (pc := 26) (v := 0) hC dX3_run_26 (by decide) ?_
  refine putX3_6 (pc := 27) hC (F := fun Z => Z) (X := []) (fun _ => rfl) fl_X3_34 (Or.inl rfl) dX3_run_27 ?_
  refine g_st (w := fun z => (wX3 o0 a0 (xy C) z (wX2 o1 a1 (xy C) u1 (wX7 o2 a2 (xy C) u2 [])))) (u := (si u_67 6 (0 : Int32))) (fun u_68 eu_68 => ?_)
  have h := h u_68 eu_68
  refine g_aload_n (pc := 30) hC 0 dX3_run_30 rfl rfl ?_
  refine g_iload_n (pc := 31) hC 3 dX3_run_31 rfl rfl ?_
  refine putX3_7 (pc := 32) hC (F := fun Z => Z) (X := []) (fun _ => rfl) fl_X3_37 dX3_run_32 ?_
  refine g_st (w := fun z => (wX3 o0 a0 (xy C) z (wX2 o1 a1 (xy C) u1 (wX7 o2 a2 (xy C) u2 [])))) (u := (si u_68 7 x3)) (fun u_69 eu_69 => ?_)
  have h := h u_69 eu_69
  refine g_aload_n (pc := 35) hC 1 dX3_run_35 rfl rfl ?_
  refine getX2_5 (pc := 36) hC (F := fun Z => (wX3 o0 a0 (xy C) u_69 Z)) (X := (wX3 o0 a0 (xy C) u_69 [])) (fun _ => rfl) fl_X3_40 dX3_run_36 ?_
  refine g_topi (fun x4_70 ex4_70 => ?_)
  have h := h x4_70 ex4_70
  refine g_istore (pc := 39) (lv' := [(4, .int x4_70), (0, .ref o0), (1, .ref o1), (2, .ref o2), (3, .int x3)]) hC dX3_run_39 (Nat.le_of_ble_eq_true rfl) rfl ?_
  refine g_iconst (pc := 41) (v := 0) hC dX3_run_41 (by decide) ?_
  refine g_istore (pc := 42) (lv' := [(5, .int (0 : Int32)), (4, .int x4_70), (0, .ref o0), (1, .ref o1), (2, .ref o2), (3, .int x3)]) hC dX3_run_42 (Nat.le_of_ble_eq_true rfl) rfl ?_
  refine g_iconst (pc := 44) (v := 0) hC dX3_run_44 (by decide) ?_
  refine g_istore (pc := 45) (lv' := [(6, .int (0 : Int32)), (5, .int (0 : Int32)), (4, .int x4_70), (0, .ref o0), (1, .ref o1), (2, .ref o2), (3, .int x3)]) hC dX3_run_45 (Nat.le_of_ble_eq_true rfl) rfl ?_
  refine g_sub (lv' := [(0, .ref o0), (1, .ref o1), (2, .ref o2), (4, .int x4_70), (5, .int (0 : Int32)), (6, .int (0 : Int32))]) [3, 4, 5, 2, 1, 0] rfl ?_
  obtain ⟨n_71, h⟩ := h
  exact kX3_run_L47 hC hR0 hR  n_71 _ _ _ _ _ _ h
theorem ctX3_run {l : Launch} {D : va_G} {cy : Nat → ClassId} {kd : Nat → Nat} {o0 : Nat} {a0 : Nat → Nat} {o1 : Nat} {a1 : Nat → Nat} {o2 : Nat} {a2 : Nat → Nat} {x3 : Int32} {u0 : St} {u1 : St} {u2 : St} {post : St → St → St → Prop} (h : qX3_run x3 u0 u1 u2 post) : CtV l D cy kd yX3_run cX3_run 7 7  [.ref o0, .ref o1, .ref o2, .int x3] (fun u : St × St × St => (wX3 o0 a0 cy u.1 (wX2 o1 a1 cy u.2.1 (wX7 o2 a2 cy u.2.2 [])))) (u0, u1, u2) (fun u => post u.1 u.2.1 u.2.2) := met_v (by decide) (Nat.le_of_ble_eq_true rfl) (fun C e1 e2 e3 e4 e5 hC hR => by subst e1 e2 e3 e4; exact kX3_run hC e5 hR h)
