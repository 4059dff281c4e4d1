/-! IvyHouse -/
theorem dX11_status_0 : decode cX11_status 0 = .ok (.aload_n 0, 1) := by decide +kernel
theorem dX11_status_1 : decode cX11_status 1 = .ok (.getfield 9, 3) := by decide +kernel
theorem dX11_status_4 : decode cX11_status 4 = .ok (.ireturn, 1) := by decide +kernel
def qX11_status   (u0 : St) (post : Int32 → St → Prop) : Prop := post (gi u0 0) u0
set_option maxRecDepth 100000 in
set_option maxHeartbeats 4000000 in
theorem kX11_status {C : Cx} {o0 : Nat} {a0 : Nat → Nat} (hC : Fx C cX11_status 1 RX11) (hR0 : xR C = rm 1) {post : Int32 → St → Prop} (hR : RI C cX11_status 1 (fun u : St => (wX11 o0 a0 (xy C) u [])) (fun r u => post r u))  {u0 : St} (h : qX11_status   u0 post) : G C 0 0 1 (wX11 o0 a0 (xy C) u0 []) 0 [(0, .ref o0)] [] := by
  refine g_aload_n (pc := 0) hC 0 dX11_status_0 rfl rfl ?_
  refine getX11_0 (pc := 1) hC (F := fun Z => Z) (X := []) (fun _ => rfl) fl_X11_9 dX11_status_1 ?_
  exact hR _ _ _ u0 dX11_status_4 h
theorem ctX11_status {l : Launch} {D : va_G} {cy : Nat → ClassId} {kd : Nat → Nat} {o0 : Nat} {a0 : Nat → Nat}  {u0 : St} {post : Int32 → St → Prop} (h : qX11_status  u0 post) : CtI l D cy kd yX11_status cX11_status 1 1 .int [.ref o0] (fun u : St => (wX11 o0 a0 cy u [])) u0 (fun r u => post r u) := met_i (by decide) (Nat.le_of_ble_eq_true rfl) (fun C e1 e2 e3 e4 e5 hC hR => by subst e1 e2 e3 e4; exact kX11_status hC e5 hR h)
theorem dX11_top_0 : decode cX11_top 0 = .ok (.aload_n 0, 1) := by decide +kernel
theorem dX11_top_1 : decode cX11_top 1 = .ok (.getfield 13, 3) := by decide +kernel
theorem dX11_top_4 : decode cX11_top 4 = .ok (.lreturn, 1) := by decide +kernel
def qX11_top   (u0 : St) (post : Int64 → St → Prop) : Prop := post (gj u0 1) u0
set_option maxRecDepth 100000 in
set_option maxHeartbeats 4000000 in
theorem kX11_top {C : Cx} {o0 : Nat} {a0 : Nat → Nat} (hC : Fx C cX11_top 1 RX11) (hR0 : xR C = rm 1) {post : Int64 → St → Prop} (hR : RJ C cX11_top 1 (fun u : St => (wX11 o0 a0 (xy C) u [])) (fun r u => post r u))  {u0 : St} (h : qX11_top   u0 post) : G C 0 0 1 (wX11 o0 a0 (xy C) u0 []) 0 [(0, .ref o0)] [] := by
  refine g_aload_n (pc := 0) hC 0 dX11_top_0 rfl rfl ?_
  refine getX11_1 (pc := 1) hC (F := fun Z => Z) (X := []) (fun _ => rfl) fl_X11_13 dX11_top_1 ?_
  exact hR _ _ _ u0 dX11_top_4 h
theorem ctX11_top {l : Launch} {D : va_G} {cy : Nat → ClassId} {kd : Nat → Nat} {o0 : Nat} {a0 : Nat → Nat}  {u0 : St} {post : Int64 → St → Prop} (h : qX11_top  u0 post) : CtL l D cy kd yX11_top cX11_top 1 1  [.ref o0] (fun u : St => (wX11 o0 a0 cy u [])) u0 (fun r u => post r u) := met_l (by decide) (Nat.le_of_ble_eq_true rfl) (fun C e1 e2 e3 e4 e5 hC hR => by subst e1 e2 e3 e4; exact kX11_top hC e5 hR h)
theorem dX11_bottom_0 : decode cX11_bottom 0 = .ok (.aload_n 0, 1) := by decide +kernel
theorem dX11_bottom_1 : decode cX11_bottom 1 = .ok (.getfield 17, 3) := by decide +kernel
theorem dX11_bottom_4 : decode cX11_bottom 4 = .ok (.lreturn, 1) := by decide +kernel
def qX11_bottom   (u0 : St) (post : Int64 → St → Prop) : Prop := post (gj u0 2) u0
set_option maxRecDepth 100000 in
set_option maxHeartbeats 4000000 in
theorem kX11_bottom {C : Cx} {o0 : Nat} {a0 : Nat → Nat} (hC : Fx C cX11_bottom 1 RX11) (hR0 : xR C = rm 1) {post : Int64 → St → Prop} (hR : RJ C cX11_bottom 1 (fun u : St => (wX11 o0 a0 (xy C) u [])) (fun r u => post r u))  {u0 : St} (h : qX11_bottom   u0 post) : G C 0 0 1 (wX11 o0 a0 (xy C) u0 []) 0 [(0, .ref o0)] [] := by
  refine g_aload_n (pc := 0) hC 0 dX11_bottom_0 rfl rfl ?_
  refine getX11_2 (pc := 1) hC (F := fun Z => Z) (X := []) (fun _ => rfl) fl_X11_17 dX11_bottom_1 ?_
  exact hR _ _ _ u0 dX11_bottom_4 h
theorem ctX11_bottom {l : Launch} {D : va_G} {cy : Nat → ClassId} {kd : Nat → Nat} {o0 : Nat} {a0 : Nat → Nat}  {u0 : St} {post : Int64 → St → Prop} (h : qX11_bottom  u0 post) : CtL l D cy kd yX11_bottom cX11_bottom 1 1  [.ref o0] (fun u : St => (wX11 o0 a0 cy u [])) u0 (fun r u => post r u) := met_l (by decide) (Nat.le_of_ble_eq_true rfl) (fun C e1 e2 e3 e4 e5 hC hR => by subst e1 e2 e3 e4; exact kX11_bottom hC e5 hR h)
theorem dX11_deny_0 : decode cX11_deny 0 = .ok (.aload_n 0, 1) := by decide +kernel
theorem dX11_deny_1 : decode cX11_deny 1 = .ok (.iload_n 1, 1) := by decide +kernel
theorem dX11_deny_2 : decode cX11_deny 2 = .ok (.putfield 9, 3) := by decide +kernel
theorem dX11_deny_5 : decode cX11_deny 5 = .ok (.iconst 0, 1) := by decide +kernel
theorem dX11_deny_6 : decode cX11_deny 6 = .ok (.ireturn, 1) := by decide +kernel
def qX11_deny  (x1 : Int32) (u0 : St) (post : Int32 → St → Prop) : Prop := ∀ u_2 : St, u_2 = (si u0 0 x1) → post (0 : Int32) u_2
set_option maxRecDepth 100000 in
set_option maxHeartbeats 4000000 in
theorem kX11_deny {C : Cx} {o0 : Nat} {a0 : Nat → Nat} (hC : Fx C cX11_deny 2 RX11) (hR0 : xR C = rm 1) {post : Int32 → St → Prop} (hR : RZ C cX11_deny 2 (fun u : St => (wX11 o0 a0 (xy C) u [])) (fun r u => post r u)) {x1 : Int32} {u0 : St} (h : qX11_deny  x1 u0 post) : G C 0 0 2 (wX11 o0 a0 (xy C) u0 []) 0 [(0, .ref o0), (1, .int x1)] [] := by
  refine g_aload_n (pc := 0) hC 0 dX11_deny_0 rfl rfl ?_
  refine g_iload_n (pc := 1) hC 1 dX11_deny_1 rfl rfl ?_
  refine putX11_0 (pc := 2) hC (F := fun Z => Z) (X := []) (fun _ => rfl) fl_X11_9 dX11_deny_2 ?_
  refine g_st (w := fun z => (wX11 o0 a0 (xy C) z [])) (u := (si u0 0 x1)) (fun u_2 eu_2 => ?_)
  have h := h u_2 eu_2
  refine g_iconst (pc := 5) (v := 0) hC dX11_deny_5 (by decide) ?_
  exact hR _ _ _ u_2 dX11_deny_6 (Or.inl rfl) h
theorem ctX11_deny {l : Launch} {D : va_G} {cy : Nat → ClassId} {kd : Nat → Nat} {o0 : Nat} {a0 : Nat → Nat} {x1 : Int32} {u0 : St} {post : Int32 → St → Prop} (h : qX11_deny x1 u0 post) : CtI l D cy kd yX11_deny cX11_deny 2 1 .boolean [.ref o0, .int x1] (fun u : St => (wX11 o0 a0 cy u [])) u0 (fun r u => post r u) := met_z (by decide) (Nat.le_of_ble_eq_true rfl) (fun C e1 e2 e3 e4 e5 hC hR => by subst e1 e2 e3 e4; exact kX11_deny hC e5 hR h)
theorem dX11_grant_0 : decode cX11_grant 0 = .ok (.aload_n 0, 1) := by decide +kernel
theorem dX11_grant_1 : decode cX11_grant 1 = .ok (.iconst 0, 1) := by decide +kernel
theorem dX11_grant_2 : decode cX11_grant 2 = .ok (.putfield 9, 3) := by decide +kernel
theorem dX11_grant_5 : decode cX11_grant 5 = .ok (.iconst 1, 1) := by decide +kernel
theorem dX11_grant_6 : decode cX11_grant 6 = .ok (.ireturn, 1) := by decide +kernel
def qX11_grant   (u0 : St) (post : Int32 → St → Prop) : Prop := ∀ u_2 : St, u_2 = (si u0 0 (0 : Int32)) → post (1 : Int32) u_2
set_option maxRecDepth 100000 in
set_option maxHeartbeats 4000000 in
theorem kX11_grant {C : Cx} {o0 : Nat} {a0 : Nat → Nat} (hC : Fx C cX11_grant 1 RX11) (hR0 : xR C = rm 1) {post : Int32 → St → Prop} (hR : RZ C cX11_grant 1 (fun u : St => (wX11 o0 a0 (xy C) u [])) (fun r u => post r u))  {u0 : St} (h : qX11_grant   u0 post) : G C 0 0 1 (wX11 o0 a0 (xy C) u0 []) 0 [(0, .ref o0)] [] := by
  refine g_aload_n (pc := 0) hC 0 dX11_grant_0 rfl rfl ?_
  refine g_iconst (pc := 1) (v := 0) hC dX11_grant_1 (by decide) ?_
  refine putX11_0 (pc := 2) hC (F := fun Z => Z) (X := []) (fun _ => rfl) fl_X11_9 dX11_grant_2 ?_
  refine g_st (w := fun z => (wX11 o0 a0 (xy C) z [])) (u := (si u0 0 (0 : Int32))) (fun u_2 eu_2 => ?_)
  have h := h u_2 eu_2
  refine g_iconst (pc := 5) (v := 1) hC dX11_grant_5 (by decide) ?_
  exact hR _ _ _ u_2 dX11_grant_6 (Or.inr rfl) h
theorem ctX11_grant {l : Launch} {D : va_G} {cy : Nat → ClassId} {kd : Nat → Nat} {o0 : Nat} {a0 : Nat → Nat}  {u0 : St} {post : Int32 → St → Prop} (h : qX11_grant  u0 post) : CtI l D cy kd yX11_grant cX11_grant 1 1 .boolean [.ref o0] (fun u : St => (wX11 o0 a0 cy u [])) u0 (fun r u => post r u) := met_z (by decide) (Nat.le_of_ble_eq_true rfl) (fun C e1 e2 e3 e4 e5 hC hR => by subst e1 e2 e3 e4; exact kX11_grant hC e5 hR h)
theorem dX11_tray_0 : decode cX11_tray 0 = .ok (.aload_n 0, 1) := by decide +kernel
theorem dX11_tray_1 : decode cX11_tray 1 = .ok (.getfield 30, 3) := by decide +kernel
theorem dX11_tray_4 : decode cX11_tray 4 = .ok (.iload_n 1, 1) := by decide +kernel
theorem dX11_tray_5 : decode cX11_tray 5 = .ok (.invokevirtual 100, 3) := by decide +kernel
theorem dX11_tray_8 : decode cX11_tray 8 = .ok (.ifCond .eq 22, 3) := by decide +kernel
theorem dX11_tray_11 : decode cX11_tray 11 = .ok (.iload_n 2, 1) := by decide +kernel
theorem dX11_tray_12 : decode cX11_tray 12 = .ok (.iconst 0, 1) := by decide +kernel
theorem dX11_tray_13 : decode cX11_tray 13 = .ok (.iconst 3, 1) := by decide +kernel
theorem dX11_tray_14 : decode cX11_tray 14 = .ok (.invokestatic 104, 3) := by decide +kernel
theorem dX11_tray_17 : decode cX11_tray 17 = .ok (.ifCond .eq 13, 3) := by decide +kernel
theorem dX11_tray_20 : decode cX11_tray 20 = .ok (.iload_n 3, 1) := by decide +kernel
theorem dX11_tray_21 : decode cX11_tray 21 = .ok (.iconst 0, 1) := by decide +kernel
theorem dX11_tray_22 : decode cX11_tray 22 = .ok (.bipush 60, 2) := by decide +kernel
theorem dX11_tray_24 : decode cX11_tray 24 = .ok (.invokestatic 104, 3) := by decide +kernel
theorem dX11_tray_27 : decode cX11_tray 27 = .ok (.ifCond .ne 9, 3) := by decide +kernel
theorem dX11_tray_30 : decode cX11_tray 30 = .ok (.aload_n 0, 1) := by decide +kernel
theorem dX11_tray_31 : decode cX11_tray 31 = .ok (.iconst 1, 1) := by decide +kernel
theorem dX11_tray_32 : decode cX11_tray 32 = .ok (.invokevirtual 108, 3) := by decide +kernel
theorem dX11_tray_35 : decode cX11_tray 35 = .ok (.ireturn, 1) := by decide +kernel
theorem dX11_tray_36 : decode cX11_tray 36 = .ok (.aload_n 0, 1) := by decide +kernel
theorem dX11_tray_37 : decode cX11_tray 37 = .ok (.getfield 30, 3) := by decide +kernel
theorem dX11_tray_40 : decode cX11_tray 40 = .ok (.iload_n 1, 1) := by decide +kernel
theorem dX11_tray_41 : decode cX11_tray 41 = .ok (.iload_n 2, 1) := by decide +kernel
theorem dX11_tray_42 : decode cX11_tray 42 = .ok (.iload_n 3, 1) := by decide +kernel
theorem dX11_tray_43 : decode cX11_tray 43 = .ok (.invokevirtual 111, 3) := by decide +kernel
theorem dX11_tray_46 : decode cX11_tray 46 = .ok (.aload_n 0, 1) := by decide +kernel
theorem dX11_tray_47 : decode cX11_tray 47 = .ok (.invokevirtual 115, 3) := by decide +kernel
theorem dX11_tray_50 : decode cX11_tray 50 = .ok (.ireturn, 1) := by decide +kernel
def qX11_tray_b30   (post : Int32 → St → St → Prop)  (u0 : St) (u1 : St) : Prop := qX11_deny (1 : Int32) u0 (fun r_17 u_16 => (bz r_17 ∧ post r_17 u_16 u1))
set_option maxRecDepth 100000 in
set_option maxHeartbeats 4000000 in
theorem kX11_tray_b30 {C : Cx} {o0 : Nat} {a0 : Nat → Nat} {aT : Nat → Nat} (hC : Fx C cX11_tray 4 RX11) (hR0 : xR C = rm 3) {post : Int32 → St → St → Prop} (hR : RZ C cX11_tray 4 (fun u : St × St => (wX11 o0 a0 (xy C) u.1 (wX9 (a0 5) aT (xy C) u.2 []))) (fun r u => post r u.1 u.2))  {u0 : St} {u1 : St} (h : qX11_tray_b30 post u0 u1) : G C 0 0 4 (wX11 o0 a0 (xy C) u0 (wX9 (a0 5) aT (xy C) u1 [])) 30 [(0, .ref o0)] [] := by
  refine g_aload_n (pc := 30) hC 0 dX11_tray_30 rfl rfl ?_
  refine g_iconst (pc := 31) (v := 1) hC dX11_tray_31 (by decide) ?_
  refine g_callV_i (pc := 32) (wd := fun (u : St) Y => (wX11 o0 a0 (xy C) u Y)) (F := fun Z => Z) (X := []) (As := [.int (1 : Int32)]) (rest := []) (u := u0) hC (fun _ _ => rfl) (fun _ => rfl) (ctX11_deny h) wvX11_deny ml_X11_108 (ci := 9) (q0 := 0) rfl rfl rfl rfl (rmok hR0 rfl) ⟨Nat.zero_le _, Nat.zero_le _⟩ rfl (Nat.le_of_ble_eq_true rfl) dX11_tray_32 (fun r_17 u_16 h => ?_)
  exact hR _ _ _ (u_16, u1) dX11_tray_35 h.1 h.2
def qX11_tray  (x1 : Int32) (x2 : Int32) (x3 : Int32) (u0 : St) (u1 : St) (post : Int32 → St → St → Prop) : Prop := qX9_isTray x1 u1 (fun r_20 u_19 => ((r_20 = 0 → qX11_tray_b30 post u0 u_19) ∧ (¬ r_20 = 0 → qX11_within x2 (0 : Int32) (3 : Int32) (fun r_23 => ((r_23 = 0 → qX11_tray_b30 post u0 u_19) ∧ (¬ r_23 = 0 → qX11_within x3 (0 : Int32) (60 : Int32) (fun r_26 => ((¬ r_26 = 0 → qX9_lay x1 x2 x3 u_19 (fun u_29 => qX11_grant u0 (fun r_32 u_31 => (bz r_32 ∧ post r_32 u_31 u_29)))) ∧ (r_26 = 0 → qX11_tray_b30 post u0 u_19)))))))))
set_option maxRecDepth 100000 in
set_option maxHeartbeats 4000000 in
theorem kX11_tray {C : Cx} {o0 : Nat} {a0 : Nat → Nat} {aT : Nat → Nat} (hC : Fx C cX11_tray 4 RX11) (hR0 : xR C = rm 3) {post : Int32 → St → St → Prop} (hR : RZ C cX11_tray 4 (fun u : St × St => (wX11 o0 a0 (xy C) u.1 (wX9 (a0 5) aT (xy C) u.2 []))) (fun r u => post r u.1 u.2)) {x1 : Int32} {x2 : Int32} {x3 : Int32} {u0 : St} {u1 : St} (h : qX11_tray  x1 x2 x3 u0 u1 post) : G C 0 0 4 (wX11 o0 a0 (xy C) u0 (wX9 (a0 5) aT (xy C) u1 [])) 0 [(0, .ref o0), (1, .int x1), (2, .int x2), (3, .int x3)] [] := by
  refine g_aload_n (pc := 0) hC 0 dX11_tray_0 rfl rfl ?_
  refine getX11_5 (pc := 1) hC (F := fun Z => Z) (X := []) (fun _ => rfl) fl_X11_30 dX11_tray_1 ?_
  refine g_iload_n (pc := 4) hC 1 dX11_tray_4 rfl rfl ?_
  refine g_callV_i (pc := 5) (wd := fun (u : St) Y => (wX9 (a0 5) aT (xy C) u Y)) (F := fun Z => (wX11 o0 a0 (xy C) u0 Z)) (X := (wX11 o0 a0 (xy C) u0 [])) (As := [.int x1]) (rest := []) (u := u1) hC (fun _ _ => rfl) (fun _ => rfl) (ctX9_isTray h) wvX9_isTray ml_X11_100 (ci := 8) (q0 := 0) rfl rfl rfl rfl (rmok hR0 rfl) ⟨Nat.zero_le _, Nat.zero_le _⟩ rfl (Nat.le_of_ble_eq_true rfl) dX11_tray_5 (fun r_20 u_19 h => ?_)
  refine g_if_eq (pc := 8) (tgt := 30) hC dX11_tray_8 (by decide) (fun c_22 => ?_) (fun c_22 => ?_)
  · have h := h.1 c_22
    refine g_sub (lv' := [(0, .ref o0)]) [0] rfl ?_
    exact kX11_tray_b30 hC hR0 hR   h
  · have h := h.2 c_22
    refine g_iload_n (pc := 11) hC 2 dX11_tray_11 rfl rfl ?_
    refine g_iconst (pc := 12) (v := 0) hC dX11_tray_12 (by decide) ?_
    refine g_iconst (pc := 13) (v := 3) hC dX11_tray_13 (by decide) ?_
    refine g_callS_i (pc := 14) (wd := fun (_ : Unit) Y => Y) (F := fun Z => Z) (X := []) (As := [.int x2, .int (0 : Int32), .int (3 : Int32)]) (rest := []) (u := ()) hC (fun _ _ => rfl) (fun _ => rfl) (ctX11_within h) wvX11_within ml_X11_104 rfl (rmok hR0 rfl) ⟨Nat.zero_le _, Nat.zero_le _⟩ rfl (Nat.le_of_ble_eq_true rfl) dX11_tray_14 (fun r_23 u_24 h => ?_)
    refine g_if_eq (pc := 17) (tgt := 30) hC dX11_tray_17 (by decide) (fun c_25 => ?_) (fun c_25 => ?_)
    · have h := h.1 c_25
      refine g_sub (lv' := [(0, .ref o0)]) [0] rfl ?_
      exact kX11_tray_b30 hC hR0 hR   h
    · have h := h.2 c_25
      refine g_iload_n (pc := 20) hC 3 dX11_tray_20 rfl rfl ?_
      refine g_iconst (pc := 21) (v := 0) hC dX11_tray_21 (by decide) ?_
      refine g_bipush (pc := 22) (v := 60) hC dX11_tray_22 (by decide) ?_
      refine g_callS_i (pc := 24) (wd := fun (_ : Unit) Y => Y) (F := fun Z => Z) (X := []) (As := [.int x3, .int (0 : Int32), .int (60 : Int32)]) (rest := []) (u := ()) hC (fun _ _ => rfl) (fun _ => rfl) (ctX11_within h) wvX11_within ml_X11_104 rfl (rmok hR0 rfl) ⟨Nat.zero_le _, Nat.zero_le _⟩ rfl (Nat.le_of_ble_eq_true rfl) dX11_tray_24 (fun r_26 u_27 h => ?_)
      refine g_if_ne (pc := 27) (tgt := 36) hC dX11_tray_27 (by decide) (fun c_28 => ?_) (fun c_28 => ?_)
      · have h := h.1 c_28
        refine g_aload_n (pc := 36) hC 0 dX11_tray_36 rfl rfl ?_
        refine getX11_5 (pc := 37) hC (F := fun Z => Z) (X := []) (fun _ => rfl) fl_X11_30 dX11_tray_37 ?_
        refine g_iload_n (pc := 40) hC 1 dX11_tray_40 rfl rfl ?_
        refine g_iload_n (pc := 41) hC 2 dX11_tray_41 rfl rfl ?_
        refine g_iload_n (pc := 42) hC 3 dX11_tray_42 rfl rfl ?_
        refine g_callV_v (pc := 43) (wd := fun (u : St) Y => (wX9 (a0 5) aT (xy C) u Y)) (F := fun Z => (wX11 o0 a0 (xy C) u0 Z)) (X := (wX11 o0 a0 (xy C) u0 [])) (As := [.int x1, .int x2, .int x3]) (rest := []) (u := u_19) hC (fun _ _ => rfl) (fun _ => rfl) (ctX9_lay h) wvX9_lay ml_X11_111 (ci := 8) (q0 := 0) rfl rfl rfl rfl (rmok hR0 rfl) ⟨Nat.zero_le _, Nat.zero_le _⟩ rfl (Nat.le_of_ble_eq_true rfl) dX11_tray_43 (fun u_29 h => ?_)
        refine g_aload_n (pc := 46) hC 0 dX11_tray_46 rfl rfl ?_
        refine g_callV_i (pc := 47) (wd := fun (u : St) Y => (wX11 o0 a0 (xy C) u Y)) (F := fun Z => Z) (X := []) (As := []) (rest := []) (u := u0) hC (fun _ _ => rfl) (fun _ => rfl) (ctX11_grant h) wvX11_grant ml_X11_115 (ci := 9) (q0 := 0) rfl rfl rfl rfl (rmok hR0 rfl) ⟨Nat.zero_le _, Nat.zero_le _⟩ rfl (Nat.le_of_ble_eq_true rfl) dX11_tray_47 (fun r_32 u_31 h => ?_)
        exact hR _ _ _ (u_31, u_29) dX11_tray_50 h.1 h.2
      · have h := h.2 c_28
        refine g_sub (lv' := [(0, .ref o0)]) [0] rfl ?_
        exact kX11_tray_b30 hC hR0 hR   h
theorem ctX11_tray {l : Launch} {D : va_G} {cy : Nat → ClassId} {kd : Nat → Nat} {o0 : Nat} {a0 : Nat → Nat} {aT : Nat → Nat} {x1 : Int32} {x2 : Int32} {x3 : Int32} {u0 : St} {u1 : St} {post : Int32 → St → St → Prop} (h : qX11_tray x1 x2 x3 u0 u1 post) : CtI l D cy kd yX11_tray cX11_tray 4 3 .boolean [.ref o0, .int x1, .int x2, .int x3] (fun u : St × St => (wX11 o0 a0 cy u.1 (wX9 (a0 5) aT cy u.2 []))) (u0, u1) (fun r u => post r u.1 u.2) := met_z (by decide) (Nat.le_of_ble_eq_true rfl) (fun C e1 e2 e3 e4 e5 hC hR => by subst e1 e2 e3 e4; exact kX11_tray hC e5 hR h)
theorem dX11_write_0 : decode cX11_write 0 = .ok (.aload_n 0, 1) := by decide +kernel
theorem dX11_write_1 : decode cX11_write 1 = .ok (.getfield 30, 3) := by decide +kernel
theorem dX11_write_4 : decode cX11_write 4 = .ok (.iload_n 1, 1) := by decide +kernel
theorem dX11_write_5 : decode cX11_write 5 = .ok (.iload_n 2, 1) := by decide +kernel
theorem dX11_write_6 : decode cX11_write 6 = .ok (.invokevirtual 119, 3) := by decide +kernel
theorem dX11_write_9 : decode cX11_write 9 = .ok (.istore 5, 2) := by decide +kernel
theorem dX11_write_11 : decode cX11_write 11 = .ok (.iload 5, 2) := by decide +kernel
theorem dX11_write_13 : decode cX11_write 13 = .ok (.ifCond .eq 10, 3) := by decide +kernel
theorem dX11_write_16 : decode cX11_write 16 = .ok (.aload_n 0, 1) := by decide +kernel
theorem dX11_write_17 : decode cX11_write 17 = .ok (.iload 5, 2) := by decide +kernel
theorem dX11_write_19 : decode cX11_write 19 = .ok (.invokevirtual 108, 3) := by decide +kernel
theorem dX11_write_22 : decode cX11_write 22 = .ok (.ireturn, 1) := by decide +kernel
theorem dX11_write_23 : decode cX11_write 23 = .ok (.aload_n 0, 1) := by decide +kernel
theorem dX11_write_24 : decode cX11_write 24 = .ok (.getfield 30, 3) := by decide +kernel
theorem dX11_write_27 : decode cX11_write 27 = .ok (.iload_n 1, 1) := by decide +kernel
theorem dX11_write_28 : decode cX11_write 28 = .ok (.iload_n 2, 1) := by decide +kernel
theorem dX11_write_29 : decode cX11_write 29 = .ok (.lload_n 3, 1) := by decide +kernel
theorem dX11_write_30 : decode cX11_write 30 = .ok (.invokevirtual 123, 3) := by decide +kernel
theorem dX11_write_33 : decode cX11_write 33 = .ok (.aload_n 0, 1) := by decide +kernel
theorem dX11_write_34 : decode cX11_write 34 = .ok (.invokevirtual 115, 3) := by decide +kernel
theorem dX11_write_37 : decode cX11_write 37 = .ok (.ireturn, 1) := by decide +kernel
def qX11_write  (x1 : Int32) (x2 : Int32) (x3 : Int64) (u0 : St) (u1 : St) (post : Int32 → St → St → Prop) : Prop := qX9_lookAt x1 x2 u1 (fun r_13 u_12 => ((r_13 = 0 → qX9_put x1 x2 x3 u_12 (fun u_16 => qX11_grant u0 (fun r_19 u_18 => (bz r_19 ∧ post r_19 u_18 u_16)))) ∧ (¬ r_13 = 0 → qX11_deny r_13 u0 (fun r_22 u_21 => (bz r_22 ∧ post r_22 u_21 u_12)))))
set_option maxRecDepth 100000 in
set_option maxHeartbeats 4000000 in
theorem kX11_write {C : Cx} {o0 : Nat} {a0 : Nat → Nat} {aT : Nat → Nat} (hC : Fx C cX11_write 6 RX11) (hR0 : xR C = rm 4) {post : Int32 → St → St → Prop} (hR : RZ C cX11_write 6 (fun u : St × St => (wX11 o0 a0 (xy C) u.1 (wX9 (a0 5) aT (xy C) u.2 []))) (fun r u => post r u.1 u.2)) {x1 : Int32} {x2 : Int32} {x3 : Int64} {u0 : St} {u1 : St} (h : qX11_write  x1 x2 x3 u0 u1 post) : G C 0 0 6 (wX11 o0 a0 (xy C) u0 (wX9 (a0 5) aT (xy C) u1 [])) 0 [(0, .ref o0), (1, .int x1), (2, .int x2), (3, .long x3)] [] := by
  refine g_aload_n (pc := 0) hC 0 dX11_write_0 rfl rfl ?_
  refine getX11_5 (pc := 1) hC (F := fun Z => Z) (X := []) (fun _ => rfl) fl_X11_30 dX11_write_1 ?_
  refine g_iload_n (pc := 4) hC 1 dX11_write_4 rfl rfl ?_
  refine g_iload_n (pc := 5) hC 2 dX11_write_5 rfl rfl ?_
  refine g_callV_i (pc := 6) (wd := fun (u : St) Y => (wX9 (a0 5) aT (xy C) u Y)) (F := fun Z => (wX11 o0 a0 (xy C) u0 Z)) (X := (wX11 o0 a0 (xy C) u0 [])) (As := [.int x1, .int x2]) (rest := []) (u := u1) hC (fun _ _ => rfl) (fun _ => rfl) (ctX9_lookAt h) wvX9_lookAt ml_X11_119 (ci := 8) (q0 := 0) rfl rfl rfl rfl (rmok hR0 rfl) ⟨Nat.zero_le _, Nat.zero_le _⟩ rfl (Nat.le_of_ble_eq_true rfl) dX11_write_6 (fun r_13 u_12 h => ?_)
  refine g_istore (pc := 9) (lv' := [(5, .int r_13), (0, .ref o0), (1, .int x1), (2, .int x2), (3, .long x3)]) hC dX11_write_9 (Nat.le_of_ble_eq_true rfl) rfl ?_
  refine g_iload (pc := 11) hC 0 dX11_write_11 rfl ?_
  refine g_if_eq (pc := 13) (tgt := 23) hC dX11_write_13 (by decide) (fun c_15 => ?_) (fun c_15 => ?_)
  · have h := h.1 c_15
    refine g_aload_n (pc := 23) hC 1 dX11_write_23 rfl rfl ?_
    refine getX11_5 (pc := 24) hC (F := fun Z => Z) (X := []) (fun _ => rfl) fl_X11_30 dX11_write_24 ?_
    refine g_iload_n (pc := 27) hC 2 dX11_write_27 rfl rfl ?_
    refine g_iload_n (pc := 28) hC 3 dX11_write_28 rfl rfl ?_
    refine g_lload_n (pc := 29) hC 4 dX11_write_29 rfl rfl ?_
    refine g_callV_v (pc := 30) (wd := fun (u : St) Y => (wX9 (a0 5) aT (xy C) u Y)) (F := fun Z => (wX11 o0 a0 (xy C) u0 Z)) (X := (wX11 o0 a0 (xy C) u0 [])) (As := [.int x1, .int x2, .long x3]) (rest := []) (u := u_12) hC (fun _ _ => rfl) (fun _ => rfl) (ctX9_put h) wvX9_put ml_X11_123 (ci := 8) (q0 := 0) rfl rfl rfl rfl (rmok hR0 rfl) ⟨Nat.zero_le _, Nat.zero_le _⟩ rfl (Nat.le_of_ble_eq_true rfl) dX11_write_30 (fun u_16 h => ?_)
    refine g_aload_n (pc := 33) hC 1 dX11_write_33 rfl rfl ?_
    refine g_callV_i (pc := 34) (wd := fun (u : St) Y => (wX11 o0 a0 (xy C) u Y)) (F := fun Z => Z) (X := []) (As := []) (rest := []) (u := u0) hC (fun _ _ => rfl) (fun _ => rfl) (ctX11_grant h) wvX11_grant ml_X11_115 (ci := 9) (q0 := 0) rfl rfl rfl rfl (rmok hR0 rfl) ⟨Nat.zero_le _, Nat.zero_le _⟩ rfl (Nat.le_of_ble_eq_true rfl) dX11_write_34 (fun r_19 u_18 h => ?_)
    exact hR _ _ _ (u_18, u_16) dX11_write_37 h.1 h.2
  · have h := h.2 c_15
    refine g_aload_n (pc := 16) hC 1 dX11_write_16 rfl rfl ?_
    refine g_iload (pc := 17) hC 0 dX11_write_17 rfl ?_
    refine g_callV_i (pc := 19) (wd := fun (u : St) Y => (wX11 o0 a0 (xy C) u Y)) (F := fun Z => Z) (X := []) (As := [.int r_13]) (rest := []) (u := u0) hC (fun _ _ => rfl) (fun _ => rfl) (ctX11_deny h) wvX11_deny ml_X11_108 (ci := 9) (q0 := 0) rfl rfl rfl rfl (rmok hR0 rfl) ⟨Nat.zero_le _, Nat.zero_le _⟩ rfl (Nat.le_of_ble_eq_true rfl) dX11_write_19 (fun r_22 u_21 h => ?_)
    exact hR _ _ _ (u_21, u_12) dX11_write_22 h.1 h.2
theorem ctX11_write {l : Launch} {D : va_G} {cy : Nat → ClassId} {kd : Nat → Nat} {o0 : Nat} {a0 : Nat → Nat} {aT : Nat → Nat} {x1 : Int32} {x2 : Int32} {x3 : Int64} {u0 : St} {u1 : St} {post : Int32 → St → St → Prop} (h : qX11_write x1 x2 x3 u0 u1 post) : CtI l D cy kd yX11_write cX11_write 6 4 .boolean [.ref o0, .int x1, .int x2, .long x3] (fun u : St × St => (wX11 o0 a0 cy u.1 (wX9 (a0 5) aT cy u.2 []))) (u0, u1) (fun r u => post r u.1 u.2) := met_z (by decide) (Nat.le_of_ble_eq_true rfl) (fun C e1 e2 e3 e4 e5 hC hR => by subst e1 e2 e3 e4; exact kX11_write hC e5 hR h)
theorem dX11_refuse_0 : decode cX11_refuse 0 = .ok (.aload_n 0, 1) := by decide +kernel
theorem dX11_refuse_1 : decode cX11_refuse 1 = .ok (.iload_n 1, 1) := by decide +kernel
theorem dX11_refuse_2 : decode cX11_refuse 2 = .ok (.putfield 9, 3) := by decide +kernel
theorem dX11_refuse_5 : decode cX11_refuse 5 = .ok (.iconst (-1), 1) := by decide +kernel
theorem dX11_refuse_6 : decode cX11_refuse 6 = .ok (.ireturn, 1) := by decide +kernel
def qX11_refuse  (x1 : Int32) (u0 : St) (post : Int32 → St → Prop) : Prop := ∀ u_2 : St, u_2 = (si u0 0 x1) → post (-1 : Int32) u_2
set_option maxRecDepth 100000 in
set_option maxHeartbeats 4000000 in
theorem kX11_refuse {C : Cx} {o0 : Nat} {a0 : Nat → Nat} (hC : Fx C cX11_refuse 2 RX11) (hR0 : xR C = rm 1) {post : Int32 → St → Prop} (hR : RI C cX11_refuse 2 (fun u : St => (wX11 o0 a0 (xy C) u [])) (fun r u => post r u)) {x1 : Int32} {u0 : St} (h : qX11_refuse  x1 u0 post) : G C 0 0 2 (wX11 o0 a0 (xy C) u0 []) 0 [(0, .ref o0), (1, .int x1)] [] := by
  refine g_aload_n (pc := 0) hC 0 dX11_refuse_0 rfl rfl ?_
  refine g_iload_n (pc := 1) hC 1 dX11_refuse_1 rfl rfl ?_
  refine putX11_0 (pc := 2) hC (F := fun Z => Z) (X := []) (fun _ => rfl) fl_X11_9 dX11_refuse_2 ?_
  refine g_st (w := fun z => (wX11 o0 a0 (xy C) z [])) (u := (si u0 0 x1)) (fun u_2 eu_2 => ?_)
  have h := h u_2 eu_2
  refine g_iconst (pc := 5) (v := -1) hC dX11_refuse_5 (by decide) ?_
  exact hR _ _ _ u_2 dX11_refuse_6 h
theorem ctX11_refuse {l : Launch} {D : va_G} {cy : Nat → ClassId} {kd : Nat → Nat} {o0 : Nat} {a0 : Nat → Nat} {x1 : Int32} {u0 : St} {post : Int32 → St → Prop} (h : qX11_refuse x1 u0 post) : CtI l D cy kd yX11_refuse cX11_refuse 2 1 .int [.ref o0, .int x1] (fun u : St => (wX11 o0 a0 cy u [])) u0 (fun r u => post r u) := met_i (by decide) (Nat.le_of_ble_eq_true rfl) (fun C e1 e2 e3 e4 e5 hC hR => by subst e1 e2 e3 e4; exact kX11_refuse hC e5 hR h)
theorem dX11_read_0 : decode cX11_read 0 = .ok (.aload_n 0, 1) := by decide +kernel
theorem dX11_read_1 : decode cX11_read 1 = .ok (.getfield 30, 3) := by decide +kernel
theorem dX11_read_4 : decode cX11_read 4 = .ok (.iload_n 1, 1) := by decide +kernel
theorem dX11_read_5 : decode cX11_read 5 = .ok (.iload_n 2, 1) := by decide +kernel
theorem dX11_read_6 : decode cX11_read 6 = .ok (.invokevirtual 119, 3) := by decide +kernel
theorem dX11_read_9 : decode cX11_read 9 = .ok (.istore_n 3, 1) := by decide +kernel
theorem dX11_read_10 : decode cX11_read 10 = .ok (.iload_n 3, 1) := by decide +kernel
theorem dX11_read_11 : decode cX11_read 11 = .ok (.ifCond .eq 10, 3) := by decide +kernel
theorem dX11_read_14 : decode cX11_read 14 = .ok (.aload_n 0, 1) := by decide +kernel
theorem dX11_read_15 : decode cX11_read 15 = .ok (.iload_n 3, 1) := by decide +kernel
theorem dX11_read_16 : decode cX11_read 16 = .ok (.invokevirtual 127, 3) := by decide +kernel
theorem dX11_read_19 : decode cX11_read 19 = .ok (.i2l, 1) := by decide +kernel
theorem dX11_read_20 : decode cX11_read 20 = .ok (.lreturn, 1) := by decide +kernel
theorem dX11_read_21 : decode cX11_read 21 = .ok (.aload_n 0, 1) := by decide +kernel
theorem dX11_read_22 : decode cX11_read 22 = .ok (.iconst 0, 1) := by decide +kernel
theorem dX11_read_23 : decode cX11_read 23 = .ok (.putfield 9, 3) := by decide +kernel
theorem dX11_read_26 : decode cX11_read 26 = .ok (.aload_n 0, 1) := by decide +kernel
theorem dX11_read_27 : decode cX11_read 27 = .ok (.getfield 30, 3) := by decide +kernel
theorem dX11_read_30 : decode cX11_read 30 = .ok (.iload_n 1, 1) := by decide +kernel
theorem dX11_read_31 : decode cX11_read 31 = .ok (.iload_n 2, 1) := by decide +kernel
theorem dX11_read_32 : decode cX11_read 32 = .ok (.invokevirtual 131, 3) := by decide +kernel
theorem dX11_read_35 : decode cX11_read 35 = .ok (.lreturn, 1) := by decide +kernel
def qX11_read  (x1 : Int32) (x2 : Int32) (u0 : St) (u1 : St) (post : Int64 → St → St → Prop) : Prop := qX9_lookAt x1 x2 u1 (fun r_12 u_11 => ((r_12 = 0 → ∀ u_15 : St, u_15 = (si u0 0 (0 : Int32)) → qX9_at x1 x2 u_11 (fun r_17 u_16 => post r_17 u_15 u_16)) ∧ (¬ r_12 = 0 → qX11_refuse r_12 u0 (fun r_20 u_19 => post (r_20).toInt64 u_19 u_11))))
set_option maxRecDepth 100000 in
set_option maxHeartbeats 4000000 in
theorem kX11_read {C : Cx} {o0 : Nat} {a0 : Nat → Nat} {aT : Nat → Nat} (hC : Fx C cX11_read 4 RX11) (hR0 : xR C = rm 4) {post : Int64 → St → St → Prop} (hR : RJ C cX11_read 4 (fun u : St × St => (wX11 o0 a0 (xy C) u.1 (wX9 (a0 5) aT (xy C) u.2 []))) (fun r u => post r u.1 u.2)) {x1 : Int32} {x2 : Int32} {u0 : St} {u1 : St} (h : qX11_read  x1 x2 u0 u1 post) : G C 0 0 4 (wX11 o0 a0 (xy C) u0 (wX9 (a0 5) aT (xy C) u1 [])) 0 [(0, .ref o0), (1, .int x1), (2, .int x2)] [] := by
  refine g_aload_n (pc := 0) hC 0 dX11_read_0 rfl rfl ?_
  refine getX11_5 (pc := 1) hC (F := fun Z => Z) (X := []) (fun _ => rfl) fl_X11_30 dX11_read_1 ?_
  refine g_iload_n (pc := 4) hC 1 dX11_read_4 rfl rfl ?_
  refine g_iload_n (pc := 5) hC 2 dX11_read_5 rfl rfl ?_
  refine g_callV_i (pc := 6) (wd := fun (u : St) Y => (wX9 (a0 5) aT (xy C) u Y)) (F := fun Z => (wX11 o0 a0 (xy C) u0 Z)) (X := (wX11 o0 a0 (xy C) u0 [])) (As := [.int x1, .int x2]) (rest := []) (u := u1) hC (fun _ _ => rfl) (fun _ => rfl) (ctX9_lookAt h) wvX9_lookAt ml_X11_119 (ci := 8) (q0 := 0) rfl rfl rfl rfl (rmok hR0 rfl) ⟨Nat.zero_le _, Nat.zero_le _⟩ rfl (Nat.le_of_ble_eq_true rfl) dX11_read_6 (fun r_12 u_11 h => ?_)
  refine g_istore_n (pc := 9) (lv' := [(3, .int r_12), (0, .ref o0), (1, .int x1), (2, .int x2)]) hC dX11_read_9 rfl (Nat.le_of_ble_eq_true rfl) rfl ?_
  refine g_iload_n (pc := 10) hC 0 dX11_read_10 rfl rfl ?_
  refine g_if_eq (pc := 11) (tgt := 21) hC dX11_read_11 (by decide) (fun c_14 => ?_) (fun c_14 => ?_)
  · have h := h.1 c_14
    refine g_aload_n (pc := 21) hC 1 dX11_read_21 rfl rfl ?_
    refine g_iconst (pc := 22) (v := 0) hC dX11_read_22 (by decide) ?_
    refine putX11_0 (pc := 23) hC (F := fun Z => Z) (X := []) (fun _ => rfl) fl_X11_9 dX11_read_23 ?_
    refine g_st (w := fun z => (wX11 o0 a0 (xy C) z (wX9 (a0 5) aT (xy C) u_11 []))) (u := (si u0 0 (0 : Int32))) (fun u_15 eu_15 => ?_)
    have h := h u_15 eu_15
    refine g_aload_n (pc := 26) hC 1 dX11_read_26 rfl rfl ?_
    refine getX11_5 (pc := 27) hC (F := fun Z => Z) (X := []) (fun _ => rfl) fl_X11_30 dX11_read_27 ?_
    refine g_iload_n (pc := 30) hC 2 dX11_read_30 rfl rfl ?_
    refine g_iload_n (pc := 31) hC 3 dX11_read_31 rfl rfl ?_
    refine g_callV_l (pc := 32) (wd := fun (u : St) Y => (wX9 (a0 5) aT (xy C) u Y)) (F := fun Z => (wX11 o0 a0 (xy C) u_15 Z)) (X := (wX11 o0 a0 (xy C) u_15 [])) (As := [.int x1, .int x2]) (rest := []) (u := u_11) hC (fun _ _ => rfl) (fun _ => rfl) (ctX9_at h) wvX9_at ml_X11_131 (ci := 8) (q0 := 0) rfl rfl rfl rfl (rmok hR0 rfl) ⟨Nat.zero_le _, Nat.zero_le _⟩ rfl (Nat.le_of_ble_eq_true rfl) dX11_read_32 (fun r_17 u_16 h => ?_)
    exact hR _ _ _ (u_15, u_16) dX11_read_35 h
  · have h := h.2 c_14
    refine g_aload_n (pc := 14) hC 1 dX11_read_14 rfl rfl ?_
    refine g_iload_n (pc := 15) hC 0 dX11_read_15 rfl rfl ?_
    refine g_callV_i (pc := 16) (wd := fun (u : St) Y => (wX11 o0 a0 (xy C) u Y)) (F := fun Z => Z) (X := []) (As := [.int r_12]) (rest := []) (u := u0) hC (fun _ _ => rfl) (fun _ => rfl) (ctX11_refuse h) wvX11_refuse ml_X11_127 (ci := 9) (q0 := 0) rfl rfl rfl rfl (rmok hR0 rfl) ⟨Nat.zero_le _, Nat.zero_le _⟩ rfl (Nat.le_of_ble_eq_true rfl) dX11_read_16 (fun r_20 u_19 h => ?_)
    refine g_i2l (pc := 19) hC dX11_read_19 ?_
    exact hR _ _ _ (u_19, u_11) dX11_read_20 h
theorem ctX11_read {l : Launch} {D : va_G} {cy : Nat → ClassId} {kd : Nat → Nat} {o0 : Nat} {a0 : Nat → Nat} {aT : Nat → Nat} {x1 : Int32} {x2 : Int32} {u0 : St} {u1 : St} {post : Int64 → St → St → Prop} (h : qX11_read x1 x2 u0 u1 post) : CtL l D cy kd yX11_read cX11_read 4 4  [.ref o0, .int x1, .int x2] (fun u : St × St => (wX11 o0 a0 cy u.1 (wX9 (a0 5) aT cy u.2 []))) (u0, u1) (fun r u => post r u.1 u.2) := met_l (by decide) (Nat.le_of_ble_eq_true rfl) (fun C e1 e2 e3 e4 e5 hC hR => by subst e1 e2 e3 e4; exact kX11_read hC e5 hR h)
theorem dX11_pour_0 : decode cX11_pour 0 = .ok (.aload_n 0, 1) := by decide +kernel
theorem dX11_pour_1 : decode cX11_pour 1 = .ok (.getfield 30, 3) := by decide +kernel
theorem dX11_pour_4 : decode cX11_pour 4 = .ok (.iload_n 1, 1) := by decide +kernel
theorem dX11_pour_5 : decode cX11_pour 5 = .ok (.invokevirtual 100, 3) := by decide +kernel
theorem dX11_pour_8 : decode cX11_pour 8 = .ok (.ifCond .eq 28, 3) := by decide +kernel
theorem dX11_pour_11 : decode cX11_pour 11 = .ok (.aload_n 0, 1) := by decide +kernel
theorem dX11_pour_12 : decode cX11_pour 12 = .ok (.getfield 30, 3) := by decide +kernel
theorem dX11_pour_15 : decode cX11_pour 15 = .ok (.iload_n 3, 1) := by decide +kernel
theorem dX11_pour_16 : decode cX11_pour 16 = .ok (.invokevirtual 100, 3) := by decide +kernel
theorem dX11_pour_19 : decode cX11_pour 19 = .ok (.ifCond .eq 17, 3) := by decide +kernel
theorem dX11_pour_22 : decode cX11_pour 22 = .ok (.iload_n 2, 1) := by decide +kernel
theorem dX11_pour_23 : decode cX11_pour 23 = .ok (.ifCond .lt 13, 3) := by decide +kernel
theorem dX11_pour_26 : decode cX11_pour 26 = .ok (.iload 4, 2) := by decide +kernel
theorem dX11_pour_28 : decode cX11_pour 28 = .ok (.ifCond .lt 8, 3) := by decide +kernel
theorem dX11_pour_31 : decode cX11_pour 31 = .ok (.iload 5, 2) := by decide +kernel
theorem dX11_pour_33 : decode cX11_pour 33 = .ok (.ifCond .ge 9, 3) := by decide +kernel
theorem dX11_pour_36 : decode cX11_pour 36 = .ok (.aload_n 0, 1) := by decide +kernel
theorem dX11_pour_37 : decode cX11_pour 37 = .ok (.iconst 1, 1) := by decide +kernel
theorem dX11_pour_38 : decode cX11_pour 38 = .ok (.invokevirtual 108, 3) := by decide +kernel
theorem dX11_pour_41 : decode cX11_pour 41 = .ok (.ireturn, 1) := by decide +kernel
theorem dX11_pour_42 : decode cX11_pour 42 = .ok (.aload_n 0, 1) := by decide +kernel
theorem dX11_pour_43 : decode cX11_pour 43 = .ok (.getfield 30, 3) := by decide +kernel
theorem dX11_pour_46 : decode cX11_pour 46 = .ok (.iload_n 1, 1) := by decide +kernel
theorem dX11_pour_47 : decode cX11_pour 47 = .ok (.invokevirtual 135, 3) := by decide +kernel
theorem dX11_pour_50 : decode cX11_pour 50 = .ok (.ifCond .ne 14, 3) := by decide +kernel
theorem dX11_pour_53 : decode cX11_pour 53 = .ok (.aload_n 0, 1) := by decide +kernel
theorem dX11_pour_54 : decode cX11_pour 54 = .ok (.getfield 30, 3) := by decide +kernel
theorem dX11_pour_57 : decode cX11_pour 57 = .ok (.iload_n 3, 1) := by decide +kernel
theorem dX11_pour_58 : decode cX11_pour 58 = .ok (.invokevirtual 135, 3) := by decide +kernel
theorem dX11_pour_61 : decode cX11_pour 61 = .ok (.ifCond .eq 9, 3) := by decide +kernel
theorem dX11_pour_64 : decode cX11_pour 64 = .ok (.aload_n 0, 1) := by decide +kernel
theorem dX11_pour_65 : decode cX11_pour 65 = .ok (.iconst 2, 1) := by decide +kernel
theorem dX11_pour_66 : decode cX11_pour 66 = .ok (.invokevirtual 108, 3) := by decide +kernel
theorem dX11_pour_69 : decode cX11_pour 69 = .ok (.ireturn, 1) := by decide +kernel
theorem dX11_pour_70 : decode cX11_pour 70 = .ok (.aload_n 0, 1) := by decide +kernel
theorem dX11_pour_71 : decode cX11_pour 71 = .ok (.getfield 30, 3) := by decide +kernel
theorem dX11_pour_74 : decode cX11_pour 74 = .ok (.getfield 138, 3) := by decide +kernel
theorem dX11_pour_77 : decode cX11_pour 77 = .ok (.iload_n 1, 1) := by decide +kernel
theorem dX11_pour_78 : decode cX11_pour 78 = .ok (.iaload, 1) := by decide +kernel
theorem dX11_pour_79 : decode cX11_pour 79 = .ok (.aload_n 0, 1) := by decide +kernel
theorem dX11_pour_80 : decode cX11_pour 80 = .ok (.getfield 30, 3) := by decide +kernel
theorem dX11_pour_83 : decode cX11_pour 83 = .ok (.getfield 138, 3) := by decide +kernel
theorem dX11_pour_86 : decode cX11_pour 86 = .ok (.iload_n 3, 1) := by decide +kernel
theorem dX11_pour_87 : decode cX11_pour 87 = .ok (.iaload, 1) := by decide +kernel
theorem dX11_pour_88 : decode cX11_pour 88 = .ok (.if_icmp .eq 10, 3) := by decide +kernel
theorem dX11_pour_91 : decode cX11_pour 91 = .ok (.aload_n 0, 1) := by decide +kernel
theorem dX11_pour_92 : decode cX11_pour 92 = .ok (.bipush 8, 2) := by decide +kernel
theorem dX11_pour_94 : decode cX11_pour 94 = .ok (.invokevirtual 108, 3) := by decide +kernel
theorem dX11_pour_97 : decode cX11_pour 97 = .ok (.ireturn, 1) := by decide +kernel
theorem dX11_pour_98 : decode cX11_pour 98 = .ok (.iload_n 2, 1) := by decide +kernel
theorem dX11_pour_99 : decode cX11_pour 99 = .ok (.aload_n 0, 1) := by decide +kernel
theorem dX11_pour_100 : decode cX11_pour 100 = .ok (.getfield 30, 3) := by decide +kernel
theorem dX11_pour_103 : decode cX11_pour 103 = .ok (.getfield 142, 3) := by decide +kernel
theorem dX11_pour_106 : decode cX11_pour 106 = .ok (.iload_n 1, 1) := by decide +kernel
theorem dX11_pour_107 : decode cX11_pour 107 = .ok (.iaload, 1) := by decide +kernel
theorem dX11_pour_108 : decode cX11_pour 108 = .ok (.iload 5, 2) := by decide +kernel
theorem dX11_pour_110 : decode cX11_pour 110 = .ok (.isub, 1) := by decide +kernel
theorem dX11_pour_111 : decode cX11_pour 111 = .ok (.if_icmp .gt 20, 3) := by decide +kernel
theorem dX11_pour_114 : decode cX11_pour 114 = .ok (.iload 4, 2) := by decide +kernel
theorem dX11_pour_116 : decode cX11_pour 116 = .ok (.aload_n 0, 1) := by decide +kernel
theorem dX11_pour_117 : decode cX11_pour 117 = .ok (.getfield 30, 3) := by decide +kernel
theorem dX11_pour_120 : decode cX11_pour 120 = .ok (.getfield 142, 3) := by decide +kernel
theorem dX11_pour_123 : decode cX11_pour 123 = .ok (.iload_n 3, 1) := by decide +kernel
theorem dX11_pour_124 : decode cX11_pour 124 = .ok (.iaload, 1) := by decide +kernel
theorem dX11_pour_125 : decode cX11_pour 125 = .ok (.iload 5, 2) := by decide +kernel
theorem dX11_pour_127 : decode cX11_pour 127 = .ok (.isub, 1) := by decide +kernel
theorem dX11_pour_128 : decode cX11_pour 128 = .ok (.if_icmp .le 9, 3) := by decide +kernel
theorem dX11_pour_131 : decode cX11_pour 131 = .ok (.aload_n 0, 1) := by decide +kernel
theorem dX11_pour_132 : decode cX11_pour 132 = .ok (.iconst 3, 1) := by decide +kernel
theorem dX11_pour_133 : decode cX11_pour 133 = .ok (.invokevirtual 108, 3) := by decide +kernel
theorem dX11_pour_136 : decode cX11_pour 136 = .ok (.ireturn, 1) := by decide +kernel
theorem dX11_pour_137 : decode cX11_pour 137 = .ok (.aload_n 0, 1) := by decide +kernel
theorem dX11_pour_138 : decode cX11_pour 138 = .ok (.getfield 30, 3) := by decide +kernel
theorem dX11_pour_141 : decode cX11_pour 141 = .ok (.iload_n 1, 1) := by decide +kernel
theorem dX11_pour_142 : decode cX11_pour 142 = .ok (.iload_n 2, 1) := by decide +kernel
theorem dX11_pour_143 : decode cX11_pour 143 = .ok (.iload_n 3, 1) := by decide +kernel
theorem dX11_pour_144 : decode cX11_pour 144 = .ok (.iload 4, 2) := by decide +kernel
theorem dX11_pour_146 : decode cX11_pour 146 = .ok (.iload 5, 2) := by decide +kernel
theorem dX11_pour_148 : decode cX11_pour 148 = .ok (.invokevirtual 145, 3) := by decide +kernel
theorem dX11_pour_151 : decode cX11_pour 151 = .ok (.aload_n 0, 1) := by decide +kernel
theorem dX11_pour_152 : decode cX11_pour 152 = .ok (.invokevirtual 115, 3) := by decide +kernel
theorem dX11_pour_155 : decode cX11_pour 155 = .ok (.ireturn, 1) := by decide +kernel
def qX11_pour_b36   (post : Int32 → St → St → Prop)  (u0 : St) (u1 : St) : Prop := qX11_deny (1 : Int32) u0 (fun r_31 u_30 => (bz r_31 ∧ post r_31 u_30 u1))
set_option maxRecDepth 100000 in
set_option maxHeartbeats 4000000 in
theorem kX11_pour_b36 {C : Cx} {o0 : Nat} {a0 : Nat → Nat} {aT : Nat → Nat} (hC : Fx C cX11_pour 6 RX11) (hR0 : xR C = rm 3) {post : Int32 → St → St → Prop} (hR : RZ C cX11_pour 6 (fun u : St × St => (wX11 o0 a0 (xy C) u.1 (wX9 (a0 5) aT (xy C) u.2 []))) (fun r u => post r u.1 u.2))  {u0 : St} {u1 : St} (h : qX11_pour_b36 post u0 u1) : G C 0 0 6 (wX11 o0 a0 (xy C) u0 (wX9 (a0 5) aT (xy C) u1 [])) 36 [(0, .ref o0)] [] := by
  refine g_aload_n (pc := 36) hC 0 dX11_pour_36 rfl rfl ?_
  refine g_iconst (pc := 37) (v := 1) hC dX11_pour_37 (by decide) ?_
  refine g_callV_i (pc := 38) (wd := fun (u : St) Y => (wX11 o0 a0 (xy C) u Y)) (F := fun Z => Z) (X := []) (As := [.int (1 : Int32)]) (rest := []) (u := u0) hC (fun _ _ => rfl) (fun _ => rfl) (ctX11_deny h) wvX11_deny ml_X11_108 (ci := 9) (q0 := 0) rfl rfl rfl rfl (rmok hR0 rfl) ⟨Nat.zero_le _, Nat.zero_le _⟩ rfl (Nat.le_of_ble_eq_true rfl) dX11_pour_38 (fun r_31 u_30 h => ?_)
  exact hR _ _ _ (u_30, u1) dX11_pour_41 h.1 h.2
def qX11_pour_b64   (post : Int32 → St → St → Prop)  (u0 : St) (u1 : St) : Prop := qX11_deny (2 : Int32) u0 (fun r_34 u_33 => (bz r_34 ∧ post r_34 u_33 u1))
set_option maxRecDepth 100000 in
set_option maxHeartbeats 4000000 in
theorem kX11_pour_b64 {C : Cx} {o0 : Nat} {a0 : Nat → Nat} {aT : Nat → Nat} (hC : Fx C cX11_pour 6 RX11) (hR0 : xR C = rm 3) {post : Int32 → St → St → Prop} (hR : RZ C cX11_pour 6 (fun u : St × St => (wX11 o0 a0 (xy C) u.1 (wX9 (a0 5) aT (xy C) u.2 []))) (fun r u => post r u.1 u.2))  {u0 : St} {u1 : St} (h : qX11_pour_b64 post u0 u1) : G C 0 0 6 (wX11 o0 a0 (xy C) u0 (wX9 (a0 5) aT (xy C) u1 [])) 64 [(0, .ref o0)] [] := by
  refine g_aload_n (pc := 64) hC 0 dX11_pour_64 rfl rfl ?_
  refine g_iconst (pc := 65) (v := 2) hC dX11_pour_65 (by decide) ?_
  refine g_callV_i (pc := 66) (wd := fun (u : St) Y => (wX11 o0 a0 (xy C) u Y)) (F := fun Z => Z) (X := []) (As := [.int (2 : Int32)]) (rest := []) (u := u0) hC (fun _ _ => rfl) (fun _ => rfl) (ctX11_deny h) wvX11_deny ml_X11_108 (ci := 9) (q0 := 0) rfl rfl rfl rfl (rmok hR0 rfl) ⟨Nat.zero_le _, Nat.zero_le _⟩ rfl (Nat.le_of_ble_eq_true rfl) dX11_pour_66 (fun r_34 u_33 h => ?_)
  exact hR _ _ _ (u_33, u1) dX11_pour_69 h.1 h.2
def qX11_pour_b131   (post : Int32 → St → St → Prop)  (u0 : St) (u1 : St) : Prop := qX11_deny (3 : Int32) u0 (fun r_37 u_36 => (bz r_37 ∧ post r_37 u_36 u1))
set_option maxRecDepth 100000 in
set_option maxHeartbeats 4000000 in
theorem kX11_pour_b131 {C : Cx} {o0 : Nat} {a0 : Nat → Nat} {aT : Nat → Nat} (hC : Fx C cX11_pour 6 RX11) (hR0 : xR C = rm 3) {post : Int32 → St → St → Prop} (hR : RZ C cX11_pour 6 (fun u : St × St => (wX11 o0 a0 (xy C) u.1 (wX9 (a0 5) aT (xy C) u.2 []))) (fun r u => post r u.1 u.2))  {u0 : St} {u1 : St} (h : qX11_pour_b131 post u0 u1) : G C 0 0 6 (wX11 o0 a0 (xy C) u0 (wX9 (a0 5) aT (xy C) u1 [])) 131 [(0, .ref o0)] [] := by
  refine g_aload_n (pc := 131) hC 0 dX11_pour_131 rfl rfl ?_
  refine g_iconst (pc := 132) (v := 3) hC dX11_pour_132 (by decide) ?_
  refine g_callV_i (pc := 133) (wd := fun (u : St) Y => (wX11 o0 a0 (xy C) u Y)) (F := fun Z => Z) (X := []) (As := [.int (3 : Int32)]) (rest := []) (u := u0) hC (fun _ _ => rfl) (fun _ => rfl) (ctX11_deny h) wvX11_deny ml_X11_108 (ci := 9) (q0 := 0) rfl rfl rfl rfl (rmok hR0 rfl) ⟨Nat.zero_le _, Nat.zero_le _⟩ rfl (Nat.le_of_ble_eq_true rfl) dX11_pour_133 (fun r_37 u_36 h => ?_)
  exact hR _ _ _ (u_36, u1) dX11_pour_136 h.1 h.2
def qX11_pour  (x1 : Int32) (x2 : Int32) (x3 : Int32) (x4 : Int32) (x5 : Int32) (u0 : St) (u1 : St) (post : Int32 → St → St → Prop) : Prop := qX9_isTray x1 u1 (fun r_40 u_39 => ((r_40 = 0 → qX11_pour_b36 post u0 u_39) ∧ (¬ r_40 = 0 → qX9_isTray x3 u_39 (fun r_44 u_43 => ((r_44 = 0 → qX11_pour_b36 post u0 u_43) ∧ (¬ r_44 = 0 → ((x2 < 0 → qX11_pour_b36 post u0 u_43) ∧ (¬ x2 < 0 → ((x4 < 0 → qX11_pour_b36 post u0 u_43) ∧ (¬ x4 < 0 → ((0 ≤ x5 → qX9_isMissing x1 u_43 (fun r_51 u_50 => ((¬ r_51 = 0 → qX11_pour_b64 post u0 u_50) ∧ (r_51 = 0 → qX9_isMissing x3 u_50 (fun r_55 u_54 => ((r_55 = 0 → (vp_in x1 4 ∧ (vp_in x3 4 ∧ (((ga u_54 1 (x1).toNatClampNeg) = (ga u_54 1 (x3).toNatClampNeg) → (vp_in x1 4 ∧ ((((ga u_54 2 (x1).toNatClampNeg) - x5) < x2 → qX11_pour_b131 post u0 u_54) ∧ (¬ ((ga u_54 2 (x1).toNatClampNeg) - x5) < x2 → (vp_in x3 4 ∧ ((x4 ≤ ((ga u_54 2 (x3).toNatClampNeg) - x5) → qX9_move x1 x2 x3 x4 x5 u_54 (fun u_61 => qX11_grant u0 (fun r_64 u_63 => (bz r_64 ∧ post r_64 u_63 u_61)))) ∧ (¬ x4 ≤ ((ga u_54 2 (x3).toNatClampNeg) - x5) → qX11_pour_b131 post u0 u_54))))))) ∧ (¬ (ga u_54 1 (x1).toNatClampNeg) = (ga u_54 1 (x3).toNatClampNeg) → qX11_deny (8 : Int32) u0 (fun r_67 u_66 => (bz r_67 ∧ post r_67 u_66 u_54))))))) ∧ (¬ r_55 = 0 → qX11_pour_b64 post u0 u_54))))))) ∧ (¬ 0 ≤ x5 → qX11_pour_b36 post u0 u_43))))))))))))
set_option maxRecDepth 100000 in
set_option maxHeartbeats 4000000 in
theorem kX11_pour {C : Cx} {o0 : Nat} {a0 : Nat → Nat} {aT : Nat → Nat} (hC : Fx C cX11_pour 6 RX11) (hR0 : xR C = rm 3) {post : Int32 → St → St → Prop} (hR : RZ C cX11_pour 6 (fun u : St × St => (wX11 o0 a0 (xy C) u.1 (wX9 (a0 5) aT (xy C) u.2 []))) (fun r u => post r u.1 u.2)) {x1 : Int32} {x2 : Int32} {x3 : Int32} {x4 : Int32} {x5 : Int32} {u0 : St} {u1 : St} (h : qX11_pour  x1 x2 x3 x4 x5 u0 u1 post) : G C 0 0 6 (wX11 o0 a0 (xy C) u0 (wX9 (a0 5) aT (xy C) u1 [])) 0 [(0, .ref o0), (1, .int x1), (2, .int x2), (3, .int x3), (4, .int x4), (5, .int x5)] [] := by
  refine g_aload_n (pc := 0) hC 0 dX11_pour_0 rfl rfl ?_
  refine getX11_5 (pc := 1) hC (F := fun Z => Z) (X := []) (fun _ => rfl) fl_X11_30 dX11_pour_1 ?_
  refine g_iload_n (pc := 4) hC 1 dX11_pour_4 rfl rfl ?_
  refine g_callV_i (pc := 5) (wd := fun (u : St) Y => (wX9 (a0 5) aT (xy C) u Y)) (F := fun Z => (wX11 o0 a0 (xy C) u0 Z)) (X := (wX11 o0 a0 (xy C) u0 [])) (As := [.int x1]) (rest := []) (u := u1) hC (fun _ _ => rfl) (fun _ => rfl) (ctX9_isTray h) wvX9_isTray ml_X11_100 (ci := 8) (q0 := 0) rfl rfl rfl rfl (rmok hR0 rfl) ⟨Nat.zero_le _, Nat.zero_le _⟩ rfl (Nat.le_of_ble_eq_true rfl) dX11_pour_5 (fun r_40 u_39 h => ?_)
  refine g_if_eq (pc := 8) (tgt := 36) hC dX11_pour_8 (by decide) (fun c_42 => ?_) (fun c_42 => ?_)
  · have h := h.1 c_42
    refine g_sub (lv' := [(0, .ref o0)]) [0] rfl ?_
    exact kX11_pour_b36 hC hR0 hR   h
  · have h := h.2 c_42
    refine g_aload_n (pc := 11) hC 0 dX11_pour_11 rfl rfl ?_
    refine getX11_5 (pc := 12) hC (F := fun Z => Z) (X := []) (fun _ => rfl) fl_X11_30 dX11_pour_12 ?_
    refine g_iload_n (pc := 15) hC 3 dX11_pour_15 rfl rfl ?_
    refine g_callV_i (pc := 16) (wd := fun (u : St) Y => (wX9 (a0 5) aT (xy C) u Y)) (F := fun Z => (wX11 o0 a0 (xy C) u0 Z)) (X := (wX11 o0 a0 (xy C) u0 [])) (As := [.int x3]) (rest := []) (u := u_39) hC (fun _ _ => rfl) (fun _ => rfl) (ctX9_isTray h) wvX9_isTray ml_X11_100 (ci := 8) (q0 := 0) rfl rfl rfl rfl (rmok hR0 rfl) ⟨Nat.zero_le _, Nat.zero_le _⟩ rfl (Nat.le_of_ble_eq_true rfl) dX11_pour_16 (fun r_44 u_43 h => ?_)
    refine g_if_eq (pc := 19) (tgt := 36) hC dX11_pour_19 (by decide) (fun c_46 => ?_) (fun c_46 => ?_)
    · have h := h.1 c_46
      refine g_sub (lv' := [(0, .ref o0)]) [0] rfl ?_
      exact kX11_pour_b36 hC hR0 hR   h
    · have h := h.2 c_46
      refine g_iload_n (pc := 22) hC 2 dX11_pour_22 rfl rfl ?_
      refine g_if_lt (pc := 23) (tgt := 36) hC dX11_pour_23 (by decide) (fun c_47 => ?_) (fun c_47 => ?_)
      · have h := h.1 c_47
        refine g_sub (lv' := [(0, .ref o0)]) [0] rfl ?_
        exact kX11_pour_b36 hC hR0 hR   h
      · have h := h.2 c_47
        refine g_iload (pc := 26) hC 4 dX11_pour_26 rfl ?_
        refine g_if_lt (pc := 28) (tgt := 36) hC dX11_pour_28 (by decide) (fun c_48 => ?_) (fun c_48 => ?_)
        · have h := h.1 c_48
          refine g_sub (lv' := [(0, .ref o0)]) [0] rfl ?_
          exact kX11_pour_b36 hC hR0 hR   h
        · have h := h.2 c_48
          refine g_iload (pc := 31) hC 5 dX11_pour_31 rfl ?_
          refine g_if_ge (pc := 33) (tgt := 42) hC dX11_pour_33 (by decide) (fun c_49 => ?_) (fun c_49 => ?_)
          · have h := h.1 c_49
            refine g_aload_n (pc := 42) hC 0 dX11_pour_42 rfl rfl ?_
            refine getX11_5 (pc := 43) hC (F := fun Z => Z) (X := []) (fun _ => rfl) fl_X11_30 dX11_pour_43 ?_
            refine g_iload_n (pc := 46) hC 1 dX11_pour_46 rfl rfl ?_
            refine g_callV_i (pc := 47) (wd := fun (u : St) Y => (wX9 (a0 5) aT (xy C) u Y)) (F := fun Z => (wX11 o0 a0 (xy C) u0 Z)) (X := (wX11 o0 a0 (xy C) u0 [])) (As := [.int x1]) (rest := []) (u := u_43) hC (fun _ _ => rfl) (fun _ => rfl) (ctX9_isMissing h) wvX9_isMissing ml_X11_135 (ci := 8) (q0 := 0) rfl rfl rfl rfl (rmok hR0 rfl) ⟨Nat.zero_le _, Nat.zero_le _⟩ rfl (Nat.le_of_ble_eq_true rfl) dX11_pour_47 (fun r_51 u_50 h => ?_)
            refine g_if_ne (pc := 50) (tgt := 64) hC dX11_pour_50 (by decide) (fun c_53 => ?_) (fun c_53 => ?_)
            · have h := h.1 c_53
              refine g_sub (lv' := [(0, .ref o0)]) [0] rfl ?_
              exact kX11_pour_b64 hC hR0 hR   h
            · have h := h.2 c_53
              refine g_aload_n (pc := 53) hC 0 dX11_pour_53 rfl rfl ?_
              refine getX11_5 (pc := 54) hC (F := fun Z => Z) (X := []) (fun _ => rfl) fl_X11_30 dX11_pour_54 ?_
              refine g_iload_n (pc := 57) hC 3 dX11_pour_57 rfl rfl ?_
              refine g_callV_i (pc := 58) (wd := fun (u : St) Y => (wX9 (a0 5) aT (xy C) u Y)) (F := fun Z => (wX11 o0 a0 (xy C) u0 Z)) (X := (wX11 o0 a0 (xy C) u0 [])) (As := [.int x3]) (rest := []) (u := u_50) hC (fun _ _ => rfl) (fun _ => rfl) (ctX9_isMissing h) wvX9_isMissing ml_X11_135 (ci := 8) (q0 := 0) rfl rfl rfl rfl (rmok hR0 rfl) ⟨Nat.zero_le _, Nat.zero_le _⟩ rfl (Nat.le_of_ble_eq_true rfl) dX11_pour_58 (fun r_55 u_54 h => ?_)
              refine g_if_eq (pc := 61) (tgt := 70) hC dX11_pour_61 (by decide) (fun c_57 => ?_) (fun c_57 => ?_)
              · have h := h.1 c_57
                refine g_aload_n (pc := 70) hC 0 dX11_pour_70 rfl rfl ?_
                refine getX11_5 (pc := 71) hC (F := fun Z => Z) (X := []) (fun _ => rfl) fl_X11_30 dX11_pour_71 ?_
                refine getX9_1 (pc := 74) hC (F := fun Z => (wX11 o0 a0 (xy C) u0 Z)) (X := (wX11 o0 a0 (xy C) u0 [])) (fun _ => rfl) fl_X11_138 dX11_pour_74 ?_
                refine g_iload_n (pc := 77) hC 1 dX11_pour_77 rfl rfl ?_
                refine aldX9_1 (pc := 78) hC (F := fun Z => (wX11 o0 a0 (xy C) u0 Z)) (X := (wX11 o0 a0 (xy C) u0 [])) (fun _ => rfl) h.1 dX11_pour_78 ?_
                have h := h.2
                refine g_aload_n (pc := 79) hC 0 dX11_pour_79 rfl rfl ?_
                refine getX11_5 (pc := 80) hC (F := fun Z => Z) (X := []) (fun _ => rfl) fl_X11_30 dX11_pour_80 ?_
                refine getX9_1 (pc := 83) hC (F := fun Z => (wX11 o0 a0 (xy C) u0 Z)) (X := (wX11 o0 a0 (xy C) u0 [])) (fun _ => rfl) fl_X11_138 dX11_pour_83 ?_
                refine g_iload_n (pc := 86) hC 3 dX11_pour_86 rfl rfl ?_
                refine aldX9_1 (pc := 87) hC (F := fun Z => (wX11 o0 a0 (xy C) u0 Z)) (X := (wX11 o0 a0 (xy C) u0 [])) (fun _ => rfl) h.1 dX11_pour_87 ?_
                have h := h.2
                refine g_icmp_eq (pc := 88) (tgt := 98) hC dX11_pour_88 (by decide) (fun c_58 => ?_) (fun c_58 => ?_)
                · have h := h.1 c_58
                  refine g_iload_n (pc := 98) hC 2 dX11_pour_98 rfl rfl ?_
                  refine g_aload_n (pc := 99) hC 0 dX11_pour_99 rfl rfl ?_
                  refine getX11_5 (pc := 100) hC (F := fun Z => Z) (X := []) (fun _ => rfl) fl_X11_30 dX11_pour_100 ?_
                  refine getX9_2 (pc := 103) hC (F := fun Z => (wX11 o0 a0 (xy C) u0 Z)) (X := (wX11 o0 a0 (xy C) u0 [])) (fun _ => rfl) fl_X11_142 dX11_pour_103 ?_
                  refine g_iload_n (pc := 106) hC 1 dX11_pour_106 rfl rfl ?_
                  refine aldX9_2 (pc := 107) hC (F := fun Z => (wX11 o0 a0 (xy C) u0 Z)) (X := (wX11 o0 a0 (xy C) u0 [])) (fun _ => rfl) h.1 dX11_pour_107 ?_
                  have h := h.2
                  refine g_iload (pc := 108) hC 5 dX11_pour_108 rfl ?_
                  refine g_isub (pc := 110) hC dX11_pour_110 ?_
                  refine g_icmp_gt (pc := 111) (tgt := 131) hC dX11_pour_111 (by decide) (fun c_59 => ?_) (fun c_59 => ?_)
                  · have h := h.1 c_59
                    refine g_sub (lv' := [(0, .ref o0)]) [0] rfl ?_
                    exact kX11_pour_b131 hC hR0 hR   h
                  · have h := h.2 c_59
                    refine g_iload (pc := 114) hC 4 dX11_pour_114 rfl ?_
                    refine g_aload_n (pc := 116) hC 0 dX11_pour_116 rfl rfl ?_
                    refine getX11_5 (pc := 117) hC (F := fun Z => Z) (X := []) (fun _ => rfl) fl_X11_30 dX11_pour_117 ?_
                    refine getX9_2 (pc := 120) hC (F := fun Z => (wX11 o0 a0 (xy C) u0 Z)) (X := (wX11 o0 a0 (xy C) u0 [])) (fun _ => rfl) fl_X11_142 dX11_pour_120 ?_
                    refine g_iload_n (pc := 123) hC 3 dX11_pour_123 rfl rfl ?_
                    refine aldX9_2 (pc := 124) hC (F := fun Z => (wX11 o0 a0 (xy C) u0 Z)) (X := (wX11 o0 a0 (xy C) u0 [])) (fun _ => rfl) h.1 dX11_pour_124 ?_
                    have h := h.2
                    refine g_iload (pc := 125) hC 5 dX11_pour_125 rfl ?_
                    refine g_isub (pc := 127) hC dX11_pour_127 ?_
                    refine g_icmp_le (pc := 128) (tgt := 137) hC dX11_pour_128 (by decide) (fun c_60 => ?_) (fun c_60 => ?_)
                    · have h := h.1 c_60
                      refine g_aload_n (pc := 137) hC 0 dX11_pour_137 rfl rfl ?_
                      refine getX11_5 (pc := 138) hC (F := fun Z => Z) (X := []) (fun _ => rfl) fl_X11_30 dX11_pour_138 ?_
                      refine g_iload_n (pc := 141) hC 1 dX11_pour_141 rfl rfl ?_
                      refine g_iload_n (pc := 142) hC 2 dX11_pour_142 rfl rfl ?_
                      refine g_iload_n (pc := 143) hC 3 dX11_pour_143 rfl rfl ?_
                      refine g_iload (pc := 144) hC 4 dX11_pour_144 rfl ?_
                      refine g_iload (pc := 146) hC 5 dX11_pour_146 rfl ?_
                      refine g_callV_v (pc := 148) (wd := fun (u : St) Y => (wX9 (a0 5) aT (xy C) u Y)) (F := fun Z => (wX11 o0 a0 (xy C) u0 Z)) (X := (wX11 o0 a0 (xy C) u0 [])) (As := [.int x1, .int x2, .int x3, .int x4, .int x5]) (rest := []) (u := u_54) hC (fun _ _ => rfl) (fun _ => rfl) (ctX9_move h) wvX9_move ml_X11_145 (ci := 8) (q0 := 0) rfl rfl rfl rfl (rmok hR0 rfl) ⟨Nat.zero_le _, Nat.zero_le _⟩ rfl (Nat.le_of_ble_eq_true rfl) dX11_pour_148 (fun u_61 h => ?_)
                      refine g_aload_n (pc := 151) hC 0 dX11_pour_151 rfl rfl ?_
                      refine g_callV_i (pc := 152) (wd := fun (u : St) Y => (wX11 o0 a0 (xy C) u Y)) (F := fun Z => Z) (X := []) (As := []) (rest := []) (u := u0) hC (fun _ _ => rfl) (fun _ => rfl) (ctX11_grant h) wvX11_grant ml_X11_115 (ci := 9) (q0 := 0) rfl rfl rfl rfl (rmok hR0 rfl) ⟨Nat.zero_le _, Nat.zero_le _⟩ rfl (Nat.le_of_ble_eq_true rfl) dX11_pour_152 (fun r_64 u_63 h => ?_)
                      exact hR _ _ _ (u_63, u_61) dX11_pour_155 h.1 h.2
                    · have h := h.2 c_60
                      refine g_sub (lv' := [(0, .ref o0)]) [0] rfl ?_
                      exact kX11_pour_b131 hC hR0 hR   h
                · have h := h.2 c_58
                  refine g_aload_n (pc := 91) hC 0 dX11_pour_91 rfl rfl ?_
                  refine g_bipush (pc := 92) (v := 8) hC dX11_pour_92 (by decide) ?_
                  refine g_callV_i (pc := 94) (wd := fun (u : St) Y => (wX11 o0 a0 (xy C) u Y)) (F := fun Z => Z) (X := []) (As := [.int (8 : Int32)]) (rest := []) (u := u0) hC (fun _ _ => rfl) (fun _ => rfl) (ctX11_deny h) wvX11_deny ml_X11_108 (ci := 9) (q0 := 0) rfl rfl rfl rfl (rmok hR0 rfl) ⟨Nat.zero_le _, Nat.zero_le _⟩ rfl (Nat.le_of_ble_eq_true rfl) dX11_pour_94 (fun r_67 u_66 h => ?_)
                  exact hR _ _ _ (u_66, u_54) dX11_pour_97 h.1 h.2
              · have h := h.2 c_57
                refine g_sub (lv' := [(0, .ref o0)]) [0] rfl ?_
                exact kX11_pour_b64 hC hR0 hR   h
          · have h := h.2 c_49
            refine g_sub (lv' := [(0, .ref o0)]) [0] rfl ?_
            exact kX11_pour_b36 hC hR0 hR   h
theorem ctX11_pour {l : Launch} {D : va_G} {cy : Nat → ClassId} {kd : Nat → Nat} {o0 : Nat} {a0 : Nat → Nat} {aT : Nat → Nat} {x1 : Int32} {x2 : Int32} {x3 : Int32} {x4 : Int32} {x5 : Int32} {u0 : St} {u1 : St} {post : Int32 → St → St → Prop} (h : qX11_pour x1 x2 x3 x4 x5 u0 u1 post) : CtI l D cy kd yX11_pour cX11_pour 6 3 .boolean [.ref o0, .int x1, .int x2, .int x3, .int x4, .int x5] (fun u : St × St => (wX11 o0 a0 cy u.1 (wX9 (a0 5) aT cy u.2 []))) (u0, u1) (fun r u => post r u.1 u.2) := met_z (by decide) (Nat.le_of_ble_eq_true rfl) (fun C e1 e2 e3 e4 e5 hC hR => by subst e1 e2 e3 e4; exact kX11_pour hC e5 hR h)
theorem dX11_putOnTape_0 : decode cX11_putOnTape 0 = .ok (.bipush 24, 2) := by decide +kernel
theorem dX11_putOnTape_2 : decode cX11_putOnTape 2 = .ok (.istore_n 2, 1) := by decide +kernel
theorem dX11_putOnTape_3 : decode cX11_putOnTape 3 = .ok (.iload_n 2, 1) := by decide +kernel
theorem dX11_putOnTape_4 : decode cX11_putOnTape 4 = .ok (.ifCond .lt 42, 3) := by decide +kernel
theorem dX11_putOnTape_7 : decode cX11_putOnTape 7 = .ok (.aload_n 0, 1) := by decide +kernel
theorem dX11_putOnTape_8 : decode cX11_putOnTape 8 = .ok (.getfield 24, 3) := by decide +kernel
theorem dX11_putOnTape_11 : decode cX11_putOnTape 11 = .ok (.sipush 900, 3) := by decide +kernel
theorem dX11_putOnTape_14 : decode cX11_putOnTape 14 = .ok (.if_icmp .ge 32, 3) := by decide +kernel
theorem dX11_putOnTape_17 : decode cX11_putOnTape 17 = .ok (.aload_n 0, 1) := by decide +kernel
theorem dX11_putOnTape_18 : decode cX11_putOnTape 18 = .ok (.getfield 20, 3) := by decide +kernel
theorem dX11_putOnTape_21 : decode cX11_putOnTape 21 = .ok (.aload_n 0, 1) := by decide +kernel
theorem dX11_putOnTape_22 : decode cX11_putOnTape 22 = .ok (.getfield 24, 3) := by decide +kernel
theorem dX11_putOnTape_25 : decode cX11_putOnTape 25 = .ok (.iload_n 1, 1) := by decide +kernel
theorem dX11_putOnTape_26 : decode cX11_putOnTape 26 = .ok (.iload_n 2, 1) := by decide +kernel
theorem dX11_putOnTape_27 : decode cX11_putOnTape 27 = .ok (.ishr, 1) := by decide +kernel
theorem dX11_putOnTape_28 : decode cX11_putOnTape 28 = .ok (.i2b, 1) := by decide +kernel
theorem dX11_putOnTape_29 : decode cX11_putOnTape 29 = .ok (.bastore, 1) := by decide +kernel
theorem dX11_putOnTape_30 : decode cX11_putOnTape 30 = .ok (.aload_n 0, 1) := by decide +kernel
theorem dX11_putOnTape_31 : decode cX11_putOnTape 31 = .ok (.dup, 1) := by decide +kernel
theorem dX11_putOnTape_32 : decode cX11_putOnTape 32 = .ok (.getfield 24, 3) := by decide +kernel
theorem dX11_putOnTape_35 : decode cX11_putOnTape 35 = .ok (.iconst 1, 1) := by decide +kernel
theorem dX11_putOnTape_36 : decode cX11_putOnTape 36 = .ok (.iadd, 1) := by decide +kernel
theorem dX11_putOnTape_37 : decode cX11_putOnTape 37 = .ok (.putfield 24, 3) := by decide +kernel
theorem dX11_putOnTape_40 : decode cX11_putOnTape 40 = .ok (.iinc 2 (-8), 3) := by decide +kernel
theorem dX11_putOnTape_43 : decode cX11_putOnTape 43 = .ok (.goto (-40), 3) := by decide +kernel
theorem dX11_putOnTape_46 : decode cX11_putOnTape 46 = .ok (.return_, 1) := by decide +kernel
def qX11_putOnTape_b46   (post : St → St → Prop)  (u0 : St) (u1 : St) : Prop := post u0 u1
set_option maxRecDepth 100000 in
set_option maxHeartbeats 4000000 in
theorem kX11_putOnTape_b46 {C : Cx} {o0 : Nat} {a0 : Nat → Nat} (hC : Fx C cX11_putOnTape 3 RX11) (hR0 : xR C = rm 1) {post : St → St → Prop} (hR : RV C cX11_putOnTape 3 (fun u : St × St => (wX11 o0 a0 (xy C) u.1 (wT (a0 3) (xy C) u.2 []))) (fun u => post u.1 u.2))  {u0 : St} {u1 : St} (h : qX11_putOnTape_b46 post u0 u1) : G C 0 0 3 (wX11 o0 a0 (xy C) u0 (wT (a0 3) (xy C) u1 [])) 46 [] [] := by
  exact hR _ _ (u0, u1) dX11_putOnTape_46 h
def qX11_putOnTape_l3   (post : St → St → Prop) (K3 : Int32 → Int32 → St → St → Prop) (x1 : Int32) (x2 : Int32) (u0 : St) (u1 : St) : Prop := ((x2 < 0 → qX11_putOnTape_b46 post u0 u1) ∧ (¬ x2 < 0 → (((900 : Int32) ≤ (gi u0 4) → qX11_putOnTape_b46 post u0 u1) ∧ (¬ (900 : Int32) ≤ (gi u0 4) → (vp_in (gi u0 4) 900 ∧ ∀ u_6 : St, u_6 = (sw u1 0 (upd (ga u1 0) ((gi u0 4)).toNatClampNeg (vp_nar .byte ((x1 >>> (x2 &&& 31))).toInt8.toInt32))) → ∀ u_7 : St, u_7 = (si u0 4 ((gi u0 4) + (1 : Int32))) → ∀ x2_8 : Int32, x2_8 = x2 + (-8 : Int32) → K3 x1 x2_8 u_7 u_6)))))
set_option maxRecDepth 100000 in
set_option maxHeartbeats 4000000 in
theorem kX11_putOnTape_l3 {C : Cx} {o0 : Nat} {a0 : Nat → Nat} (hC : Fx C cX11_putOnTape 3 RX11) (hR0 : xR C = rm 1) {post : St → St → Prop} (hR : RV C cX11_putOnTape 3 (fun u : St × St => (wX11 o0 a0 (xy C) u.1 (wT (a0 3) (xy C) u.2 []))) (fun u => post u.1 u.2))  {K3 : Int32 → Int32 → St → St → Prop} (hK3 : ∀ (x1 : Int32) (x2 : Int32) (u0 : St) (u1 : St), K3 x1 x2 u0 u1 → G C 0 0 3 (wX11 o0 a0 (xy C) u0 (wT (a0 3) (xy C) u1 [])) 3 [(0, .ref o0), (1, .int x1), (2, .int x2)] []) {x1 : Int32} {x2 : Int32} {u0 : St} {u1 : St} (h : qX11_putOnTape_l3 post K3 x1 x2 u0 u1) : G C 0 0 3 (wX11 o0 a0 (xy C) u0 (wT (a0 3) (xy C) u1 [])) 3 [(0, .ref o0), (1, .int x1), (2, .int x2)] [] := by
  refine g_iload_n (pc := 3) hC 2 dX11_putOnTape_3 rfl rfl ?_
  refine g_if_lt (pc := 4) (tgt := 46) hC dX11_putOnTape_4 (by decide) (fun c_4 => ?_) (fun c_4 => ?_)
  · have h := h.1 c_4
    refine g_sub (lv' := []) [] rfl ?_
    exact kX11_putOnTape_b46 hC hR0 hR   h
  · have h := h.2 c_4
    refine g_aload_n (pc := 7) hC 0 dX11_putOnTape_7 rfl rfl ?_
    refine getX11_4 (pc := 8) hC (F := fun Z => Z) (X := []) (fun _ => rfl) fl_X11_24 dX11_putOnTape_8 ?_
    refine g_sipush (pc := 11) (v := 900) hC dX11_putOnTape_11 (by decide) ?_
    refine g_icmp_ge (pc := 14) (tgt := 46) hC dX11_putOnTape_14 (by decide) (fun c_5 => ?_) (fun c_5 => ?_)
    · have h := h.1 c_5
      refine g_sub (lv' := []) [] rfl ?_
      exact kX11_putOnTape_b46 hC hR0 hR   h
    · have h := h.2 c_5
      refine g_aload_n (pc := 17) hC 0 dX11_putOnTape_17 rfl rfl ?_
      refine getX11_3 (pc := 18) hC (F := fun Z => Z) (X := []) (fun _ => rfl) fl_X11_20 dX11_putOnTape_18 ?_
      refine g_aload_n (pc := 21) hC 0 dX11_putOnTape_21 rfl rfl ?_
      refine getX11_4 (pc := 22) hC (F := fun Z => Z) (X := []) (fun _ => rfl) fl_X11_24 dX11_putOnTape_22 ?_
      refine g_iload_n (pc := 25) hC 1 dX11_putOnTape_25 rfl rfl ?_
      refine g_iload_n (pc := 26) hC 2 dX11_putOnTape_26 rfl rfl ?_
      refine g_ishr (pc := 27) hC dX11_putOnTape_27 ?_
      refine g_i2b (pc := 28) hC dX11_putOnTape_28 ?_
      refine astT (pc := 29) hC (F := fun Z => (wX11 o0 a0 (xy C) u0 Z)) (X := (wX11 o0 a0 (xy C) u0 [])) (fun _ => rfl) h.1 dX11_putOnTape_29 ?_
      have h := h.2
      refine g_st (w := fun z => (wX11 o0 a0 (xy C) u0 (wT (a0 3) (xy C) z []))) (u := (sw u1 0 (upd (ga u1 0) ((gi u0 4)).toNatClampNeg (vp_nar .byte ((x1 >>> (x2 &&& 31))).toInt8.toInt32)))) (fun u_6 eu_6 => ?_)
      have h := h u_6 eu_6
      refine g_aload_n (pc := 30) hC 0 dX11_putOnTape_30 rfl rfl ?_
      refine g_dup (pc := 31) hC dX11_putOnTape_31 rfl ?_
      refine getX11_4 (pc := 32) hC (F := fun Z => Z) (X := []) (fun _ => rfl) fl_X11_24 dX11_putOnTape_32 ?_
      refine g_iconst (pc := 35) (v := 1) hC dX11_putOnTape_35 (by decide) ?_
      refine g_iadd (pc := 36) hC dX11_putOnTape_36 ?_
      refine putX11_4 (pc := 37) hC (F := fun Z => Z) (X := []) (fun _ => rfl) fl_X11_24 dX11_putOnTape_37 ?_
      refine g_st (w := fun z => (wX11 o0 a0 (xy C) z (wT (a0 3) (xy C) u_6 []))) (u := (si u0 4 ((gi u0 4) + (1 : Int32)))) (fun u_7 eu_7 => ?_)
      have h := h u_7 eu_7
      obtain ⟨x2_8, ex2_8⟩ : ∃ z : Int32, z = x2 + (-8 : Int32) := ⟨_, rfl⟩
      have h := h x2_8 ex2_8
      refine g_iinc (pc := 40) (v := x2_8) (lv' := [(2, .int x2_8), (0, .ref o0), (1, .int x1)]) hC 2 dX11_putOnTape_40 rfl (by rw [ex2_8]; rfl) (Nat.le_of_ble_eq_true rfl) rfl ?_
      refine g_goto (pc := 43) (tgt := 3) hC dX11_putOnTape_43 (by decide) ?_
      refine g_sub (lv' := [(0, .ref o0), (1, .int x1), (2, .int x2_8)]) [1, 2, 0] rfl ?_
      exact hK3 _ _ _ _ h
def qX11_putOnTape_L3   (post : St → St → Prop)  : Nat → Int32 → Int32 → St → St → Prop
  | 0 => fun _ _ _ _ => False
  | n + 1 => qX11_putOnTape_l3 post (qX11_putOnTape_L3 post n)
theorem kX11_putOnTape_L3 {C : Cx} {o0 : Nat} {a0 : Nat → Nat} (hC : Fx C cX11_putOnTape 3 RX11) (hR0 : xR C = rm 1) {post : St → St → Prop} (hR : RV C cX11_putOnTape 3 (fun u : St × St => (wX11 o0 a0 (xy C) u.1 (wT (a0 3) (xy C) u.2 []))) (fun u => post u.1 u.2))  : ∀ (n : Nat) (x1 : Int32) (x2 : Int32) (u0 : St) (u1 : St), qX11_putOnTape_L3 post n x1 x2 u0 u1 → G C 0 0 3 (wX11 o0 a0 (xy C) u0 (wT (a0 3) (xy C) u1 [])) 3 [(0, .ref o0), (1, .int x1), (2, .int x2)] [] := by
  intro n
  induction n with
  | zero => intro x1 x2 u0 u1 h; exact h.elim
  | succ n ih => intro x1 x2 u0 u1 h; exact kX11_putOnTape_l3 hC hR0 hR   ih h
def qX11_putOnTape  (x1 : Int32) (u0 : St) (u1 : St) (post : St → St → Prop) : Prop := ∃ n_9 : Nat, qX11_putOnTape_L3 post n_9 x1 (24 : Int32) u0 u1
set_option maxRecDepth 100000 in
set_option maxHeartbeats 4000000 in
theorem kX11_putOnTape {C : Cx} {o0 : Nat} {a0 : Nat → Nat} (hC : Fx C cX11_putOnTape 3 RX11) (hR0 : xR C = rm 1) {post : St → St → Prop} (hR : RV C cX11_putOnTape 3 (fun u : St × St => (wX11 o0 a0 (xy C) u.1 (wT (a0 3) (xy C) u.2 []))) (fun u => post u.1 u.2)) {x1 : Int32} {u0 : St} {u1 : St} (h : qX11_putOnTape  x1 u0 u1 post) : G C 0 0 3 (wX11 o0 a0 (xy C) u0 (wT (a0 3) (xy C) u1 [])) 0 [(0, .ref o0), (1, .int x1)] [] := by
  refine g_bipush (pc := 0) (v := 24) hC dX11_putOnTape_0 (by decide) ?_
  refine g_istore_n (pc := 2) (lv' := [(2, .int (24 : Int32)), (0, .ref o0), (1, .int x1)]) hC dX11_putOnTape_2 rfl (Nat.le_of_ble_eq_true rfl) rfl ?_
  refine g_sub (lv' := [(0, .ref o0), (1, .int x1), (2, .int (24 : Int32))]) [1, 2, 0] rfl ?_
  obtain ⟨n_9, h⟩ := h
  exact kX11_putOnTape_L3 hC hR0 hR   n_9 _ _ _ _ h
theorem ctX11_putOnTape {l : Launch} {D : va_G} {cy : Nat → ClassId} {kd : Nat → Nat} {o0 : Nat} {a0 : Nat → Nat} {x1 : Int32} {u0 : St} {u1 : St} {post : St → St → Prop} (h : qX11_putOnTape x1 u0 u1 post) : CtV l D cy kd yX11_putOnTape cX11_putOnTape 3 1  [.ref o0, .int x1] (fun u : St × St => (wX11 o0 a0 cy u.1 (wT (a0 3) cy u.2 []))) (u0, u1) (fun u => post u.1 u.2) := met_v (by decide) (Nat.le_of_ble_eq_true rfl) (fun C e1 e2 e3 e4 e5 hC hR => by subst e1 e2 e3 e4; exact kX11_putOnTape hC e5 hR h)
theorem dX11_feed_0 : decode cX11_feed 0 = .ok (.aload_n 0, 1) := by decide +kernel
theorem dX11_feed_1 : decode cX11_feed 1 = .ok (.getfield 24, 3) := by decide +kernel
theorem dX11_feed_4 : decode cX11_feed 4 = .ok (.bipush 20, 2) := by decide +kernel
theorem dX11_feed_6 : decode cX11_feed 6 = .ok (.iadd, 1) := by decide +kernel
theorem dX11_feed_7 : decode cX11_feed 7 = .ok (.sipush 900, 3) := by decide +kernel
theorem dX11_feed_10 : decode cX11_feed 10 = .ok (.if_icmp .le 5, 3) := by decide +kernel
theorem dX11_feed_13 : decode cX11_feed 13 = .ok (.iconst (-1), 1) := by decide +kernel
theorem dX11_feed_14 : decode cX11_feed 14 = .ok (.ireturn, 1) := by decide +kernel
theorem dX11_feed_15 : decode cX11_feed 15 = .ok (.aload_n 0, 1) := by decide +kernel
theorem dX11_feed_16 : decode cX11_feed 16 = .ok (.iload_n 1, 1) := by decide +kernel
theorem dX11_feed_17 : decode cX11_feed 17 = .ok (.invokevirtual 149, 3) := by decide +kernel
theorem dX11_feed_20 : decode cX11_feed 20 = .ok (.aload_n 0, 1) := by decide +kernel
theorem dX11_feed_21 : decode cX11_feed 21 = .ok (.iload_n 2, 1) := by decide +kernel
theorem dX11_feed_22 : decode cX11_feed 22 = .ok (.invokevirtual 149, 3) := by decide +kernel
theorem dX11_feed_25 : decode cX11_feed 25 = .ok (.aload_n 0, 1) := by decide +kernel
theorem dX11_feed_26 : decode cX11_feed 26 = .ok (.iload_n 3, 1) := by decide +kernel
theorem dX11_feed_27 : decode cX11_feed 27 = .ok (.invokevirtual 149, 3) := by decide +kernel
theorem dX11_feed_30 : decode cX11_feed 30 = .ok (.aload_n 0, 1) := by decide +kernel
theorem dX11_feed_31 : decode cX11_feed 31 = .ok (.iload 4, 2) := by decide +kernel
theorem dX11_feed_33 : decode cX11_feed 33 = .ok (.invokevirtual 149, 3) := by decide +kernel
theorem dX11_feed_36 : decode cX11_feed 36 = .ok (.aload_n 0, 1) := by decide +kernel
theorem dX11_feed_37 : decode cX11_feed 37 = .ok (.iload 5, 2) := by decide +kernel
theorem dX11_feed_39 : decode cX11_feed 39 = .ok (.invokevirtual 149, 3) := by decide +kernel
theorem dX11_feed_42 : decode cX11_feed 42 = .ok (.aload_n 0, 1) := by decide +kernel
theorem dX11_feed_43 : decode cX11_feed 43 = .ok (.getfield 24, 3) := by decide +kernel
theorem dX11_feed_46 : decode cX11_feed 46 = .ok (.ireturn, 1) := by decide +kernel
def qX11_feed  (x1 : Int32) (x2 : Int32) (x3 : Int32) (x4 : Int32) (x5 : Int32) (u0 : St) (u1 : St) (post : Int32 → St → St → Prop) : Prop := ((((gi u0 4) + (20 : Int32)) ≤ (900 : Int32) → qX11_putOnTape x1 u0 u1 (fun u_17 u_18 => qX11_putOnTape x2 u_17 u_18 (fun u_20 u_21 => qX11_putOnTape x3 u_20 u_21 (fun u_23 u_24 => qX11_putOnTape x4 u_23 u_24 (fun u_26 u_27 => qX11_putOnTape x5 u_26 u_27 (fun u_29 u_30 => post (gi u_29 4) u_29 u_30)))))) ∧ (¬ ((gi u0 4) + (20 : Int32)) ≤ (900 : Int32) → post (-1 : Int32) u0 u1))
set_option maxRecDepth 100000 in
set_option maxHeartbeats 4000000 in
theorem kX11_feed {C : Cx} {o0 : Nat} {a0 : Nat → Nat} (hC : Fx C cX11_feed 6 RX11) (hR0 : xR C = rm 2) {post : Int32 → St → St → Prop} (hR : RI C cX11_feed 6 (fun u : St × St => (wX11 o0 a0 (xy C) u.1 (wT (a0 3) (xy C) u.2 []))) (fun r u => post r u.1 u.2)) {x1 : Int32} {x2 : Int32} {x3 : Int32} {x4 : Int32} {x5 : Int32} {u0 : St} {u1 : St} (h : qX11_feed  x1 x2 x3 x4 x5 u0 u1 post) : G C 0 0 6 (wX11 o0 a0 (xy C) u0 (wT (a0 3) (xy C) u1 [])) 0 [(0, .ref o0), (1, .int x1), (2, .int x2), (3, .int x3), (4, .int x4), (5, .int x5)] [] := by
  refine g_aload_n (pc := 0) hC 0 dX11_feed_0 rfl rfl ?_
  refine getX11_4 (pc := 1) hC (F := fun Z => Z) (X := []) (fun _ => rfl) fl_X11_24 dX11_feed_1 ?_
  refine g_bipush (pc := 4) (v := 20) hC dX11_feed_4 (by decide) ?_
  refine g_iadd (pc := 6) hC dX11_feed_6 ?_
  refine g_sipush (pc := 7) (v := 900) hC dX11_feed_7 (by decide) ?_
  refine g_icmp_le (pc := 10) (tgt := 15) hC dX11_feed_10 (by decide) (fun c_16 => ?_) (fun c_16 => ?_)
  · have h := h.1 c_16
    refine g_aload_n (pc := 15) hC 0 dX11_feed_15 rfl rfl ?_
    refine g_iload_n (pc := 16) hC 1 dX11_feed_16 rfl rfl ?_
    refine g_callV_v (pc := 17) (wd := fun (u : St × St) Y => (wX11 o0 a0 (xy C) u.1 (wT (a0 3) (xy C) u.2 Y))) (F := fun Z => Z) (X := []) (As := [.int x1]) (rest := []) (u := (u0, u1)) hC (fun _ _ => rfl) (fun _ => rfl) (ctX11_putOnTape h) wvX11_putOnTape ml_X11_149 (ci := 9) (q0 := 0) rfl rfl rfl rfl (rmok hR0 rfl) ⟨Nat.zero_le _, Nat.zero_le _⟩ rfl (Nat.le_of_ble_eq_true rfl) dX11_feed_17 (fun u_19 h => ?_)
    obtain ⟨u_17, u_18⟩ := u_19
    refine g_aload_n (pc := 20) hC 0 dX11_feed_20 rfl rfl ?_
    refine g_iload_n (pc := 21) hC 2 dX11_feed_21 rfl rfl ?_
    refine g_callV_v (pc := 22) (wd := fun (u : St × St) Y => (wX11 o0 a0 (xy C) u.1 (wT (a0 3) (xy C) u.2 Y))) (F := fun Z => Z) (X := []) (As := [.int x2]) (rest := []) (u := (u_17, u_18)) hC (fun _ _ => rfl) (fun _ => rfl) (ctX11_putOnTape h) wvX11_putOnTape ml_X11_149 (ci := 9) (q0 := 0) rfl rfl rfl rfl (rmok hR0 rfl) ⟨Nat.zero_le _, Nat.zero_le _⟩ rfl (Nat.le_of_ble_eq_true rfl) dX11_feed_22 (fun u_22 h => ?_)
    obtain ⟨u_20, u_21⟩ := u_22
    refine g_aload_n (pc := 25) hC 0 dX11_feed_25 rfl rfl ?_
    refine g_iload_n (pc := 26) hC 3 dX11_feed_26 rfl rfl ?_
    refine g_callV_v (pc := 27) (wd := fun (u : St × St) Y => (wX11 o0 a0 (xy C) u.1 (wT (a0 3) (xy C) u.2 Y))) (F := fun Z => Z) (X := []) (As := [.int x3]) (rest := []) (u := (u_20, u_21)) hC (fun _ _ => rfl) (fun _ => rfl) (ctX11_putOnTape h) wvX11_putOnTape ml_X11_149 (ci := 9) (q0 := 0) rfl rfl rfl rfl (rmok hR0 rfl) ⟨Nat.zero_le _, Nat.zero_le _⟩ rfl (Nat.le_of_ble_eq_true rfl) dX11_feed_27 (fun u_25 h => ?_)
    obtain ⟨u_23, u_24⟩ := u_25
    refine g_aload_n (pc := 30) hC 0 dX11_feed_30 rfl rfl ?_
    refine g_iload (pc := 31) hC 4 dX11_feed_31 rfl ?_
    refine g_callV_v (pc := 33) (wd := fun (u : St × St) Y => (wX11 o0 a0 (xy C) u.1 (wT (a0 3) (xy C) u.2 Y))) (F := fun Z => Z) (X := []) (As := [.int x4]) (rest := []) (u := (u_23, u_24)) hC (fun _ _ => rfl) (fun _ => rfl) (ctX11_putOnTape h) wvX11_putOnTape ml_X11_149 (ci := 9) (q0 := 0) rfl rfl rfl rfl (rmok hR0 rfl) ⟨Nat.zero_le _, Nat.zero_le _⟩ rfl (Nat.le_of_ble_eq_true rfl) dX11_feed_33 (fun u_28 h => ?_)
    obtain ⟨u_26, u_27⟩ := u_28
    refine g_aload_n (pc := 36) hC 0 dX11_feed_36 rfl rfl ?_
    refine g_iload (pc := 37) hC 5 dX11_feed_37 rfl ?_
    refine g_callV_v (pc := 39) (wd := fun (u : St × St) Y => (wX11 o0 a0 (xy C) u.1 (wT (a0 3) (xy C) u.2 Y))) (F := fun Z => Z) (X := []) (As := [.int x5]) (rest := []) (u := (u_26, u_27)) hC (fun _ _ => rfl) (fun _ => rfl) (ctX11_putOnTape h) wvX11_putOnTape ml_X11_149 (ci := 9) (q0 := 0) rfl rfl rfl rfl (rmok hR0 rfl) ⟨Nat.zero_le _, Nat.zero_le _⟩ rfl (Nat.le_of_ble_eq_true rfl) dX11_feed_39 (fun u_31 h => ?_)
    obtain ⟨u_29, u_30⟩ := u_31
    refine g_aload_n (pc := 42) hC 0 dX11_feed_42 rfl rfl ?_
    refine getX11_4 (pc := 43) hC (F := fun Z => Z) (X := []) (fun _ => rfl) fl_X11_24 dX11_feed_43 ?_
    exact hR _ _ _ (u_29, u_30) dX11_feed_46 h
  · have h := h.2 c_16
    refine g_iconst (pc := 13) (v := -1) hC dX11_feed_13 (by decide) ?_
    exact hR _ _ _ (u0, u1) dX11_feed_14 h
theorem ctX11_feed {l : Launch} {D : va_G} {cy : Nat → ClassId} {kd : Nat → Nat} {o0 : Nat} {a0 : Nat → Nat} {x1 : Int32} {x2 : Int32} {x3 : Int32} {x4 : Int32} {x5 : Int32} {u0 : St} {u1 : St} {post : Int32 → St → St → Prop} (h : qX11_feed x1 x2 x3 x4 x5 u0 u1 post) : CtI l D cy kd yX11_feed cX11_feed 6 2 .int [.ref o0, .int x1, .int x2, .int x3, .int x4, .int x5] (fun u : St × St => (wX11 o0 a0 cy u.1 (wT (a0 3) cy u.2 []))) (u0, u1) (fun r u => post r u.1 u.2) := met_i (by decide) (Nat.le_of_ble_eq_true rfl) (fun C e1 e2 e3 e4 e5 hC hR => by subst e1 e2 e3 e4; exact kX11_feed hC e5 hR h)
theorem dX11_keepFault_0 : decode cX11_keepFault 0 = .ok (.aload_n 0, 1) := by decide +kernel
theorem dX11_keepFault_1 : decode cX11_keepFault 1 = .ok (.aload_n 0, 1) := by decide +kernel
theorem dX11_keepFault_2 : decode cX11_keepFault 2 = .ok (.getfield 39, 3) := by decide +kernel
theorem dX11_keepFault_5 : decode cX11_keepFault 5 = .ok (.getfield 401, 3) := by decide +kernel
theorem dX11_keepFault_8 : decode cX11_keepFault 8 = .ok (.getfield 405, 3) := by decide +kernel
theorem dX11_keepFault_11 : decode cX11_keepFault 11 = .ok (.putfield 70, 3) := by decide +kernel
theorem dX11_keepFault_14 : decode cX11_keepFault 14 = .ok (.aload_n 0, 1) := by decide +kernel
theorem dX11_keepFault_15 : decode cX11_keepFault 15 = .ok (.aload_n 0, 1) := by decide +kernel
theorem dX11_keepFault_16 : decode cX11_keepFault 16 = .ok (.getfield 70, 3) := by decide +kernel
theorem dX11_keepFault_19 : decode cX11_keepFault 19 = .ok (.ifCond .ne 7, 3) := by decide +kernel
theorem dX11_keepFault_22 : decode cX11_keepFault 22 = .ok (.iconst (-1), 1) := by decide +kernel
theorem dX11_keepFault_23 : decode cX11_keepFault 23 = .ok (.goto 13, 3) := by decide +kernel
theorem dX11_keepFault_26 : decode cX11_keepFault 26 = .ok (.aload_n 0, 1) := by decide +kernel
theorem dX11_keepFault_27 : decode cX11_keepFault 27 = .ok (.getfield 39, 3) := by decide +kernel
theorem dX11_keepFault_30 : decode cX11_keepFault 30 = .ok (.getfield 401, 3) := by decide +kernel
theorem dX11_keepFault_33 : decode cX11_keepFault 33 = .ok (.getfield 410, 3) := by decide +kernel
theorem dX11_keepFault_36 : decode cX11_keepFault 36 = .ok (.putfield 73, 3) := by decide +kernel
theorem dX11_keepFault_39 : decode cX11_keepFault 39 = .ok (.return_, 1) := by decide +kernel
def qX11_keepFault_b36   (post : St → St → St → St → Prop)  (s0 : Int32) (u0 : St) (u1 : St) (u2 : St) (u3 : St) : Prop := ∀ u_3 : St, u_3 = (si u0 13 s0) → post u_3 u1 u2 u3
set_option maxRecDepth 100000 in
set_option maxHeartbeats 4000000 in
theorem kX11_keepFault_b36 {C : Cx} {o0 : Nat} {a0 : Nat → Nat} {aR : Nat → Nat} (hC : Fx C cX11_keepFault 1 RX11) (hR0 : xR C = rm 1) {post : St → St → St → St → Prop} (hR : RV C cX11_keepFault 1 (fun u : St × St × St × St => (wX11 o0 a0 (xy C) u.1 (wX6 (a0 6) aR (xy C) u.2.1 (wX8 (aR 0) (fun _ => a0 3) (xy C) u.2.2.1 (wT (a0 3) (xy C) u.2.2.2 []))))) (fun u => post u.1 u.2.1 u.2.2.1 u.2.2.2))  {s0 : Int32} {u0 : St} {u1 : St} {u2 : St} {u3 : St} (h : qX11_keepFault_b36 post s0 u0 u1 u2 u3) : G C 0 0 1 (wX11 o0 a0 (xy C) u0 (wX6 (a0 6) aR (xy C) u1 (wX8 (aR 0) (fun _ => a0 3) (xy C) u2 (wT (a0 3) (xy C) u3 [])))) 36 [] [.int s0, .ref o0] := by
  refine putX11_13 (pc := 36) hC (F := fun Z => Z) (X := []) (fun _ => rfl) fl_X11_73 dX11_keepFault_36 ?_
  refine g_st (w := fun z => (wX11 o0 a0 (xy C) z (wX6 (a0 6) aR (xy C) u1 (wX8 (aR 0) (fun _ => a0 3) (xy C) u2 (wT (a0 3) (xy C) u3 []))))) (u := (si u0 13 s0)) (fun u_3 eu_3 => ?_)
  have h := h u_3 eu_3
  exact hR _ _ (u_3, u1, u2, u3) dX11_keepFault_39 h
def qX11_keepFault   (u0 : St) (u1 : St) (u2 : St) (u3 : St) (post : St → St → St → St → Prop) : Prop := ∀ u_4 : St, u_4 = (si u0 12 (gi u2 8)) → ((¬ (gi u_4 12) = 0 → qX11_keepFault_b36 post (gi u2 7) u_4 u1 u2 u3) ∧ ((gi u_4 12) = 0 → qX11_keepFault_b36 post (-1 : Int32) u_4 u1 u2 u3))
set_option maxRecDepth 100000 in
set_option maxHeartbeats 4000000 in
theorem kX11_keepFault {C : Cx} {o0 : Nat} {a0 : Nat → Nat} {aR : Nat → Nat} (hC : Fx C cX11_keepFault 1 RX11) (hR0 : xR C = rm 1) {post : St → St → St → St → Prop} (hR : RV C cX11_keepFault 1 (fun u : St × St × St × St => (wX11 o0 a0 (xy C) u.1 (wX6 (a0 6) aR (xy C) u.2.1 (wX8 (aR 0) (fun _ => a0 3) (xy C) u.2.2.1 (wT (a0 3) (xy C) u.2.2.2 []))))) (fun u => post u.1 u.2.1 u.2.2.1 u.2.2.2))  {u0 : St} {u1 : St} {u2 : St} {u3 : St} (h : qX11_keepFault   u0 u1 u2 u3 post) : G C 0 0 1 (wX11 o0 a0 (xy C) u0 (wX6 (a0 6) aR (xy C) u1 (wX8 (aR 0) (fun _ => a0 3) (xy C) u2 (wT (a0 3) (xy C) u3 [])))) 0 [(0, .ref o0)] [] := by
  refine g_aload_n (pc := 0) hC 0 dX11_keepFault_0 rfl rfl ?_
  refine g_aload_n (pc := 1) hC 0 dX11_keepFault_1 rfl rfl ?_
  refine getX11_6 (pc := 2) hC (F := fun Z => Z) (X := []) (fun _ => rfl) fl_X11_39 dX11_keepFault_2 ?_
  refine getX6_0 (pc := 5) hC (F := fun Z => (wX11 o0 a0 (xy C) u0 Z)) (X := (wX11 o0 a0 (xy C) u0 [])) (fun _ => rfl) fl_X11_401 dX11_keepFault_5 ?_
  refine getX8_8 (pc := 8) hC (F := fun Z => (wX11 o0 a0 (xy C) u0 (wX6 (a0 6) aR (xy C) u1 Z))) (X := (wX11 o0 a0 (xy C) u0 (wX6 (a0 6) aR (xy C) u1 []))) (fun _ => rfl) fl_X11_405 dX11_keepFault_8 ?_
  refine putX11_12 (pc := 11) hC (F := fun Z => Z) (X := []) (fun _ => rfl) fl_X11_70 dX11_keepFault_11 ?_
  refine g_st (w := fun z => (wX11 o0 a0 (xy C) z (wX6 (a0 6) aR (xy C) u1 (wX8 (aR 0) (fun _ => a0 3) (xy C) u2 (wT (a0 3) (xy C) u3 []))))) (u := (si u0 12 (gi u2 8))) (fun u_4 eu_4 => ?_)
  have h := h u_4 eu_4
  refine g_aload_n (pc := 14) hC 0 dX11_keepFault_14 rfl rfl ?_
  refine g_aload_n (pc := 15) hC 0 dX11_keepFault_15 rfl rfl ?_
  refine getX11_12 (pc := 16) hC (F := fun Z => Z) (X := []) (fun _ => rfl) fl_X11_70 dX11_keepFault_16 ?_
  refine g_if_ne (pc := 19) (tgt := 26) hC dX11_keepFault_19 (by decide) (fun c_5 => ?_) (fun c_5 => ?_)
  · have h := h.1 c_5
    refine g_aload_n (pc := 26) hC 0 dX11_keepFault_26 rfl rfl ?_
    refine getX11_6 (pc := 27) hC (F := fun Z => Z) (X := []) (fun _ => rfl) fl_X11_39 dX11_keepFault_27 ?_
    refine getX6_0 (pc := 30) hC (F := fun Z => (wX11 o0 a0 (xy C) u_4 Z)) (X := (wX11 o0 a0 (xy C) u_4 [])) (fun _ => rfl) fl_X11_401 dX11_keepFault_30 ?_
    refine getX8_7 (pc := 33) hC (F := fun Z => (wX11 o0 a0 (xy C) u_4 (wX6 (a0 6) aR (xy C) u1 Z))) (X := (wX11 o0 a0 (xy C) u_4 (wX6 (a0 6) aR (xy C) u1 []))) (fun _ => rfl) fl_X11_410 dX11_keepFault_33 ?_
    refine g_sub (lv' := []) [] rfl ?_
    exact kX11_keepFault_b36 hC hR0 hR   h
  · have h := h.2 c_5
    refine g_iconst (pc := 22) (v := -1) hC dX11_keepFault_22 (by decide) ?_
    refine g_goto (pc := 23) (tgt := 36) hC dX11_keepFault_23 (by decide) ?_
    refine g_sub (lv' := []) [] rfl ?_
    exact kX11_keepFault_b36 hC hR0 hR   h
theorem ctX11_keepFault {l : Launch} {D : va_G} {cy : Nat → ClassId} {kd : Nat → Nat} {o0 : Nat} {a0 : Nat → Nat} {aR : Nat → Nat}  {u0 : St} {u1 : St} {u2 : St} {u3 : St} {post : St → St → St → St → Prop} (h : qX11_keepFault  u0 u1 u2 u3 post) : CtV l D cy kd yX11_keepFault cX11_keepFault 1 1  [.ref o0] (fun u : St × St × St × St => (wX11 o0 a0 cy u.1 (wX6 (a0 6) aR cy u.2.1 (wX8 (aR 0) (fun _ => a0 3) cy u.2.2.1 (wT (a0 3) cy u.2.2.2 []))))) (u0, u1, u2, u3) (fun u => post u.1 u.2.1 u.2.2.1 u.2.2.2) := met_v (by decide) (Nat.le_of_ble_eq_true rfl) (fun C e1 e2 e3 e4 e5 hC hR => by subst e1 e2 e3 e4; exact kX11_keepFault hC e5 hR h)
theorem dX11_answer_0 : decode cX11_answer 0 = .ok (.aload_n 0, 1) := by decide +kernel
theorem dX11_answer_1 : decode cX11_answer 1 = .ok (.iconst 0, 1) := by decide +kernel
theorem dX11_answer_2 : decode cX11_answer 2 = .ok (.putfield 9, 3) := by decide +kernel
theorem dX11_answer_5 : decode cX11_answer 5 = .ok (.iload_n 1, 1) := by decide +kernel
theorem dX11_answer_6 : decode cX11_answer 6 = .ok (.ireturn, 1) := by decide +kernel
def qX11_answer  (x1 : Int32) (u0 : St) (post : Int32 → St → Prop) : Prop := ∀ u_2 : St, u_2 = (si u0 0 (0 : Int32)) → post x1 u_2
set_option maxRecDepth 100000 in
set_option maxHeartbeats 4000000 in
theorem kX11_answer {C : Cx} {o0 : Nat} {a0 : Nat → Nat} (hC : Fx C cX11_answer 2 RX11) (hR0 : xR C = rm 1) {post : Int32 → St → Prop} (hR : RI C cX11_answer 2 (fun u : St => (wX11 o0 a0 (xy C) u [])) (fun r u => post r u)) {x1 : Int32} {u0 : St} (h : qX11_answer  x1 u0 post) : G C 0 0 2 (wX11 o0 a0 (xy C) u0 []) 0 [(0, .ref o0), (1, .int x1)] [] := by
  refine g_aload_n (pc := 0) hC 0 dX11_answer_0 rfl rfl ?_
  refine g_iconst (pc := 1) (v := 0) hC dX11_answer_1 (by decide) ?_
  refine putX11_0 (pc := 2) hC (F := fun Z => Z) (X := []) (fun _ => rfl) fl_X11_9 dX11_answer_2 ?_
  refine g_st (w := fun z => (wX11 o0 a0 (xy C) z [])) (u := (si u0 0 (0 : Int32))) (fun u_2 eu_2 => ?_)
  have h := h u_2 eu_2
  refine g_iload_n (pc := 5) hC 1 dX11_answer_5 rfl rfl ?_
  exact hR _ _ _ u_2 dX11_answer_6 h
theorem ctX11_answer {l : Launch} {D : va_G} {cy : Nat → ClassId} {kd : Nat → Nat} {o0 : Nat} {a0 : Nat → Nat} {x1 : Int32} {u0 : St} {post : Int32 → St → Prop} (h : qX11_answer x1 u0 post) : CtI l D cy kd yX11_answer cX11_answer 2 1 .int [.ref o0, .int x1] (fun u : St => (wX11 o0 a0 cy u [])) u0 (fun r u => post r u) := met_i (by decide) (Nat.le_of_ble_eq_true rfl) (fun C e1 e2 e3 e4 e5 hC hR => by subst e1 e2 e3 e4; exact kX11_answer hC e5 hR h)
theorem dX11_house_0 : decode cX11_house 0 = .ok (.iload_n 1, 1) := by decide +kernel
theorem dX11_house_1 : decode cX11_house 1 = .ok (.ifCond .lt 11, 3) := by decide +kernel
theorem dX11_house_4 : decode cX11_house 4 = .ok (.iload_n 1, 1) := by decide +kernel
theorem dX11_house_5 : decode cX11_house 5 = .ok (.aload_n 0, 1) := by decide +kernel
theorem dX11_house_6 : decode cX11_house 6 = .ok (.getfield 24, 3) := by decide +kernel
theorem dX11_house_9 : decode cX11_house 9 = .ok (.if_icmp .le 9, 3) := by decide +kernel
theorem dX11_house_12 : decode cX11_house 12 = .ok (.aload_n 0, 1) := by decide +kernel
theorem dX11_house_13 : decode cX11_house 13 = .ok (.iconst 1, 1) := by decide +kernel
theorem dX11_house_14 : decode cX11_house 14 = .ok (.invokevirtual 127, 3) := by decide +kernel
theorem dX11_house_17 : decode cX11_house 17 = .ok (.ireturn, 1) := by decide +kernel
theorem dX11_house_18 : decode cX11_house 18 = .ok (.aload_n 0, 1) := by decide +kernel
theorem dX11_house_19 : decode cX11_house 19 = .ok (.iconst 0, 1) := by decide +kernel
theorem dX11_house_20 : decode cX11_house 20 = .ok (.putfield 24, 3) := by decide +kernel
theorem dX11_house_23 : decode cX11_house 23 = .ok (.aload_n 0, 1) := by decide +kernel
theorem dX11_house_24 : decode cX11_house 24 = .ok (.getfield 39, 3) := by decide +kernel
theorem dX11_house_27 : decode cX11_house 27 = .ok (.iload_n 1, 1) := by decide +kernel
theorem dX11_house_28 : decode cX11_house 28 = .ok (.aload_n 0, 1) := by decide +kernel
theorem dX11_house_29 : decode cX11_house 29 = .ok (.getfield 50, 3) := by decide +kernel
theorem dX11_house_32 : decode cX11_house 32 = .ok (.invokevirtual 153, 3) := by decide +kernel
theorem dX11_house_35 : decode cX11_house 35 = .ok (.aload_n 0, 1) := by decide +kernel
theorem dX11_house_36 : decode cX11_house 36 = .ok (.invokevirtual 157, 3) := by decide +kernel
theorem dX11_house_39 : decode cX11_house 39 = .ok (.aload_n 0, 1) := by decide +kernel
theorem dX11_house_40 : decode cX11_house 40 = .ok (.getfield 70, 3) := by decide +kernel
theorem dX11_house_43 : decode cX11_house 43 = .ok (.ifCond .eq 10, 3) := by decide +kernel
theorem dX11_house_46 : decode cX11_house 46 = .ok (.aload_n 0, 1) := by decide +kernel
theorem dX11_house_47 : decode cX11_house 47 = .ok (.bipush 9, 2) := by decide +kernel
theorem dX11_house_49 : decode cX11_house 49 = .ok (.invokevirtual 127, 3) := by decide +kernel
theorem dX11_house_52 : decode cX11_house 52 = .ok (.ireturn, 1) := by decide +kernel
theorem dX11_house_53 : decode cX11_house 53 = .ok (.aload_n 0, 1) := by decide +kernel
theorem dX11_house_54 : decode cX11_house 54 = .ok (.getfield 46, 3) := by decide +kernel
theorem dX11_house_57 : decode cX11_house 57 = .ok (.astore_n 2, 1) := by decide +kernel
theorem dX11_house_58 : decode cX11_house 58 = .ok (.aload_n 0, 1) := by decide +kernel
theorem dX11_house_59 : decode cX11_house 59 = .ok (.aload_n 0, 1) := by decide +kernel
theorem dX11_house_60 : decode cX11_house 60 = .ok (.getfield 50, 3) := by decide +kernel
theorem dX11_house_63 : decode cX11_house 63 = .ok (.putfield 46, 3) := by decide +kernel
theorem dX11_house_66 : decode cX11_house 66 = .ok (.aload_n 0, 1) := by decide +kernel
theorem dX11_house_67 : decode cX11_house 67 = .ok (.aload_n 2, 1) := by decide +kernel
theorem dX11_house_68 : decode cX11_house 68 = .ok (.putfield 50, 3) := by decide +kernel
theorem dX11_house_71 : decode cX11_house 71 = .ok (.aload_n 0, 1) := by decide +kernel
theorem dX11_house_72 : decode cX11_house 72 = .ok (.getfield 56, 3) := by decide +kernel
theorem dX11_house_75 : decode cX11_house 75 = .ok (.invokevirtual 160, 3) := by decide +kernel
theorem dX11_house_78 : decode cX11_house 78 = .ok (.aload_n 0, 1) := by decide +kernel
theorem dX11_house_79 : decode cX11_house 79 = .ok (.aload_n 0, 1) := by decide +kernel
theorem dX11_house_80 : decode cX11_house 80 = .ok (.getfield 46, 3) := by decide +kernel
theorem dX11_house_83 : decode cX11_house 83 = .ok (.getfield 163, 3) := by decide +kernel
theorem dX11_house_86 : decode cX11_house 86 = .ok (.invokevirtual 166, 3) := by decide +kernel
theorem dX11_house_89 : decode cX11_house 89 = .ok (.ireturn, 1) := by decide +kernel
def qX11_house_b12   (post : Int32 → Bool → St → St → St → St → St → St → St → Prop)  (u0 : St) (u1 : St) (u2 : St) (u3 : St) (u4 : St) (u5 : St) (u6 : St) : Prop := qX11_refuse (1 : Int32) u0 (fun r_24 u_23 => post r_24 false u_23 u1 u2 u3 u4 u5 u6)
set_option maxRecDepth 100000 in
set_option maxHeartbeats 4000000 in
theorem kX11_house_b12 {C : Cx} {o0 : Nat} {a0 : Nat → Nat} {aR : Nat → Nat} {aH : Nat → Nat} {aS : Nat → Nat} {aM : Nat → Nat} (hC : Fx C cX11_house 3 RX11) (hR0 : xR C = rm 8) {post : Int32 → Bool → St → St → St → St → St → St → St → Prop} (hR : RI C cX11_house 3 (fun u : Bool × St × St × St × St × St × St × St => bif u.1 then (wX11 o0 (va_up (va_up a0 7 (a0 8)) 8 (a0 7)) (xy C) u.2.1 (wX6 (a0 6) aR (xy C) u.2.2.1 (wX8 (aR 0) (fun _ => a0 3) (xy C) u.2.2.2.1 (wT (a0 3) (xy C) u.2.2.2.2.1 (wX2 (a0 8) aS (xy C) u.2.2.2.2.2.1 (wX2 (a0 7) aH (xy C) u.2.2.2.2.2.2.1 (wX7 (a0 9) aM (xy C) u.2.2.2.2.2.2.2 []))))))) else (wX11 o0 a0 (xy C) u.2.1 (wX6 (a0 6) aR (xy C) u.2.2.1 (wX8 (aR 0) (fun _ => a0 3) (xy C) u.2.2.2.1 (wT (a0 3) (xy C) u.2.2.2.2.1 (wX2 (a0 7) aH (xy C) u.2.2.2.2.2.1 (wX2 (a0 8) aS (xy C) u.2.2.2.2.2.2.1 (wX7 (a0 9) aM (xy C) u.2.2.2.2.2.2.2 [])))))))) (fun r u => post r u.1 u.2.1 u.2.2.1 u.2.2.2.1 u.2.2.2.2.1 u.2.2.2.2.2.1 u.2.2.2.2.2.2.1 u.2.2.2.2.2.2.2))  {u0 : St} {u1 : St} {u2 : St} {u3 : St} {u4 : St} {u5 : St} {u6 : St} (h : qX11_house_b12 post u0 u1 u2 u3 u4 u5 u6) : G C 0 0 3 (wX11 o0 a0 (xy C) u0 (wX6 (a0 6) aR (xy C) u1 (wX8 (aR 0) (fun _ => a0 3) (xy C) u2 (wT (a0 3) (xy C) u3 (wX2 (a0 7) aH (xy C) u4 (wX2 (a0 8) aS (xy C) u5 (wX7 (a0 9) aM (xy C) u6 []))))))) 12 [(0, .ref o0)] [] := by
  refine g_aload_n (pc := 12) hC 0 dX11_house_12 rfl rfl ?_
  refine g_iconst (pc := 13) (v := 1) hC dX11_house_13 (by decide) ?_
  refine g_callV_i (pc := 14) (wd := fun (u : St) Y => (wX11 o0 a0 (xy C) u Y)) (F := fun Z => Z) (X := []) (As := [.int (1 : Int32)]) (rest := []) (u := u0) hC (fun _ _ => rfl) (fun _ => rfl) (ctX11_refuse h) wvX11_refuse ml_X11_127 (ci := 9) (q0 := 0) rfl rfl rfl rfl (rmok hR0 rfl) ⟨Nat.zero_le _, Nat.zero_le _⟩ rfl (Nat.le_of_ble_eq_true rfl) dX11_house_14 (fun r_24 u_23 h => ?_)
  exact hR _ _ _ (false, u_23, u1, u2, u3, u4, u5, u6) dX11_house_17 h
def qX11_house  (x1 : Int32) (u0 : St) (u1 : St) (u2 : St) (u3 : St) (u4 : St) (u5 : St) (u6 : St) (post : Int32 → Bool → St → St → St → St → St → St → St → Prop) : Prop := ((x1 < 0 → qX11_house_b12 post u0 u1 u2 u3 u4 u5 u6) ∧ (¬ x1 < 0 → ((x1 ≤ (gi u0 4) → ∀ u_28 : St, u_28 = (si u0 4 (0 : Int32)) → qX6_readHouse x1 u1 u2 u3 u5 (fun u_29 u_30 u_31 u_32 => qX11_keepFault u_28 u_29 u_30 u_31 (fun u_34 u_35 u_36 u_37 => (((gi u_34 12) = 0 → qX7_clear u6 (fun u_40 => qX11_answer (gi u_32 2) u_34 (fun r_43 u_42 => post r_43 true u_42 u_35 u_36 u_37 u_32 u4 u_40))) ∧ (¬ (gi u_34 12) = 0 → qX11_refuse (9 : Int32) u_34 (fun r_46 u_45 => post r_46 false u_45 u_35 u_36 u_37 u4 u_32 u6)))))) ∧ (¬ x1 ≤ (gi u0 4) → qX11_house_b12 post u0 u1 u2 u3 u4 u5 u6))))
set_option maxRecDepth 100000 in
set_option maxHeartbeats 4000000 in
theorem kX11_house {C : Cx} {o0 : Nat} {a0 : Nat → Nat} {aR : Nat → Nat} {aH : Nat → Nat} {aS : Nat → Nat} {aM : Nat → Nat} (hC : Fx C cX11_house 3 RX11) (hR0 : xR C = rm 8) {post : Int32 → Bool → St → St → St → St → St → St → St → Prop} (hR : RI C cX11_house 3 (fun u : Bool × St × St × St × St × St × St × St => bif u.1 then (wX11 o0 (va_up (va_up a0 7 (a0 8)) 8 (a0 7)) (xy C) u.2.1 (wX6 (a0 6) aR (xy C) u.2.2.1 (wX8 (aR 0) (fun _ => a0 3) (xy C) u.2.2.2.1 (wT (a0 3) (xy C) u.2.2.2.2.1 (wX2 (a0 8) aS (xy C) u.2.2.2.2.2.1 (wX2 (a0 7) aH (xy C) u.2.2.2.2.2.2.1 (wX7 (a0 9) aM (xy C) u.2.2.2.2.2.2.2 []))))))) else (wX11 o0 a0 (xy C) u.2.1 (wX6 (a0 6) aR (xy C) u.2.2.1 (wX8 (aR 0) (fun _ => a0 3) (xy C) u.2.2.2.1 (wT (a0 3) (xy C) u.2.2.2.2.1 (wX2 (a0 7) aH (xy C) u.2.2.2.2.2.1 (wX2 (a0 8) aS (xy C) u.2.2.2.2.2.2.1 (wX7 (a0 9) aM (xy C) u.2.2.2.2.2.2.2 [])))))))) (fun r u => post r u.1 u.2.1 u.2.2.1 u.2.2.2.1 u.2.2.2.2.1 u.2.2.2.2.2.1 u.2.2.2.2.2.2.1 u.2.2.2.2.2.2.2)) {x1 : Int32} {u0 : St} {u1 : St} {u2 : St} {u3 : St} {u4 : St} {u5 : St} {u6 : St} (h : qX11_house  x1 u0 u1 u2 u3 u4 u5 u6 post) : G C 0 0 3 (wX11 o0 a0 (xy C) u0 (wX6 (a0 6) aR (xy C) u1 (wX8 (aR 0) (fun _ => a0 3) (xy C) u2 (wT (a0 3) (xy C) u3 (wX2 (a0 7) aH (xy C) u4 (wX2 (a0 8) aS (xy C) u5 (wX7 (a0 9) aM (xy C) u6 []))))))) 0 [(0, .ref o0), (1, .int x1)] [] := by
  refine g_iload_n (pc := 0) hC 1 dX11_house_0 rfl rfl ?_
  refine g_if_lt (pc := 1) (tgt := 12) hC dX11_house_1 (by decide) (fun c_26 => ?_) (fun c_26 => ?_)
  · have h := h.1 c_26
    refine g_sub (lv' := [(0, .ref o0)]) [0] rfl ?_
    exact kX11_house_b12 hC hR0 hR   h
  · have h := h.2 c_26
    refine g_iload_n (pc := 4) hC 1 dX11_house_4 rfl rfl ?_
    refine g_aload_n (pc := 5) hC 0 dX11_house_5 rfl rfl ?_
    refine getX11_4 (pc := 6) hC (F := fun Z => Z) (X := []) (fun _ => rfl) fl_X11_24 dX11_house_6 ?_
    refine g_icmp_le (pc := 9) (tgt := 18) hC dX11_house_9 (by decide) (fun c_27 => ?_) (fun c_27 => ?_)
    · have h := h.1 c_27
      refine g_aload_n (pc := 18) hC 0 dX11_house_18 rfl rfl ?_
      refine g_iconst (pc := 19) (v := 0) hC dX11_house_19 (by decide) ?_
      refine putX11_4 (pc := 20) hC (F := fun Z => Z) (X := []) (fun _ => rfl) fl_X11_24 dX11_house_20 ?_
      refine g_st (w := fun z => (wX11 o0 a0 (xy C) z (wX6 (a0 6) aR (xy C) u1 (wX8 (aR 0) (fun _ => a0 3) (xy C) u2 (wT (a0 3) (xy C) u3 (wX2 (a0 7) aH (xy C) u4 (wX2 (a0 8) aS (xy C) u5 (wX7 (a0 9) aM (xy C) u6 [])))))))) (u := (si u0 4 (0 : Int32))) (fun u_28 eu_28 => ?_)
      have h := h u_28 eu_28
      refine g_aload_n (pc := 23) hC 0 dX11_house_23 rfl rfl ?_
      refine getX11_6 (pc := 24) hC (F := fun Z => Z) (X := []) (fun _ => rfl) fl_X11_39 dX11_house_24 ?_
      refine g_iload_n (pc := 27) hC 1 dX11_house_27 rfl rfl ?_
      refine g_aload_n (pc := 28) hC 0 dX11_house_28 rfl rfl ?_
      refine getX11_8 (pc := 29) hC (F := fun Z => Z) (X := []) (fun _ => rfl) fl_X11_50 dX11_house_29 ?_
      refine g_swap (F := fun Z => (wX11 o0 a0 (xy C) u_28 (wX6 (a0 6) aR (xy C) u1 (wX8 (aR 0) (fun _ => a0 3) (xy C) u2 (wT (a0 3) (xy C) u3 Z))))) (X := (wX11 o0 a0 (xy C) u_28 (wX6 (a0 6) aR (xy C) u1 (wX8 (aR 0) (fun _ => a0 3) (xy C) u2 (wT (a0 3) (xy C) u3 []))))) (f := fun Z => (wX2 (a0 7) aH (xy C) u4 Z)) (g := fun Z => (wX2 (a0 8) aS (xy C) u5 Z)) (Y := (wX7 (a0 9) aM (xy C) u6 [])) (fun _ => rfl) (fun _ => rfl) (fun _ => rfl) ?_
      refine g_callV_v (pc := 32) (wd := fun (u : St × St × St × St) Y => (wX6 (a0 6) aR (xy C) u.1 (wX8 (aR 0) (fun _ => a0 3) (xy C) u.2.1 (wT (a0 3) (xy C) u.2.2.1 (wX2 (a0 8) aS (xy C) u.2.2.2 Y))))) (F := fun Z => (wX11 o0 a0 (xy C) u_28 Z)) (X := (wX11 o0 a0 (xy C) u_28 [])) (As := [.int x1, .ref (a0 8)]) (rest := []) (u := (u1, u2, u3, u5)) hC (fun _ _ => rfl) (fun _ => rfl) (ctX6_readHouse h) wvX6_readHouse ml_X11_153 (ci := 5) (q0 := 0) rfl rfl rfl rfl (rmok hR0 rfl) ⟨Nat.zero_le _, Nat.zero_le _⟩ rfl (Nat.le_of_ble_eq_true rfl) dX11_house_32 (fun u_33 h => ?_)
      obtain ⟨u_29, u_30, u_31, u_32⟩ := u_33
      refine g_aload_n (pc := 35) hC 0 dX11_house_35 rfl rfl ?_
      refine g_callV_v (pc := 36) (wd := fun (u : St × St × St × St) Y => (wX11 o0 a0 (xy C) u.1 (wX6 (a0 6) aR (xy C) u.2.1 (wX8 (aR 0) (fun _ => a0 3) (xy C) u.2.2.1 (wT (a0 3) (xy C) u.2.2.2 Y))))) (F := fun Z => Z) (X := []) (As := []) (rest := []) (u := (u_28, u_29, u_30, u_31)) hC (fun _ _ => rfl) (fun _ => rfl) (ctX11_keepFault h) wvX11_keepFault ml_X11_157 (ci := 9) (q0 := 0) rfl rfl rfl rfl (rmok hR0 rfl) ⟨Nat.zero_le _, Nat.zero_le _⟩ rfl (Nat.le_of_ble_eq_true rfl) dX11_house_36 (fun u_38 h => ?_)
      obtain ⟨u_34, u_35, u_36, u_37⟩ := u_38
      refine g_aload_n (pc := 39) hC 0 dX11_house_39 rfl rfl ?_
      refine getX11_12 (pc := 40) hC (F := fun Z => Z) (X := []) (fun _ => rfl) fl_X11_70 dX11_house_40 ?_
      refine g_if_eq (pc := 43) (tgt := 53) hC dX11_house_43 (by decide) (fun c_39 => ?_) (fun c_39 => ?_)
      · have h := h.1 c_39
        refine g_aload_n (pc := 53) hC 0 dX11_house_53 rfl rfl ?_
        refine getX11_7 (pc := 54) hC (F := fun Z => Z) (X := []) (fun _ => rfl) fl_X11_46 dX11_house_54 ?_
        refine g_astore_n (pc := 57) (lv' := [(2, .ref (a0 7)), (0, .ref o0), (1, .int x1)]) hC dX11_house_57 rfl (Nat.le_of_ble_eq_true rfl) rfl ?_
        refine g_aload_n (pc := 58) hC 1 dX11_house_58 rfl rfl ?_
        refine g_aload_n (pc := 59) hC 1 dX11_house_59 rfl rfl ?_
        refine getX11_8 (pc := 60) hC (F := fun Z => Z) (X := []) (fun _ => rfl) fl_X11_50 dX11_house_60 ?_
        refine putX11_7 (pc := 63) hC (F := fun Z => Z) (X := []) (fun _ => rfl) fl_X11_46 dX11_house_63 ?_
        refine g_aload_n (pc := 66) hC 1 dX11_house_66 rfl rfl ?_
        refine g_aload_n (pc := 67) hC 0 dX11_house_67 rfl rfl ?_
        refine putX11_8 (pc := 68) hC (F := fun Z => Z) (X := []) (fun _ => rfl) fl_X11_50 dX11_house_68 ?_
        refine g_aload_n (pc := 71) hC 1 dX11_house_71 rfl rfl ?_
        refine getX11_9 (pc := 72) hC (F := fun Z => Z) (X := []) (fun _ => rfl) fl_X11_56 dX11_house_72 ?_
        refine g_callV_v (pc := 75) (wd := fun (u : St) Y => (wX7 (a0 9) aM (xy C) u Y)) (F := fun Z => (wX11 o0 (va_up (va_up a0 7 (a0 8)) 8 (a0 7)) (xy C) u_34 (wX6 (a0 6) aR (xy C) u_35 (wX8 (aR 0) (fun _ => a0 3) (xy C) u_36 (wT (a0 3) (xy C) u_37 (wX2 (a0 8) aS (xy C) u_32 (wX2 (a0 7) aH (xy C) u4 Z))))))) (X := (wX11 o0 (va_up (va_up a0 7 (a0 8)) 8 (a0 7)) (xy C) u_34 (wX6 (a0 6) aR (xy C) u_35 (wX8 (aR 0) (fun _ => a0 3) (xy C) u_36 (wT (a0 3) (xy C) u_37 (wX2 (a0 8) aS (xy C) u_32 (wX2 (a0 7) aH (xy C) u4 []))))))) (As := []) (rest := []) (u := u6) hC (fun _ _ => rfl) (fun _ => rfl) (ctX7_clear h) wvX7_clear ml_X11_160 (ci := 6) (q0 := 0) rfl rfl rfl rfl (rmok hR0 rfl) ⟨Nat.zero_le _, Nat.zero_le _⟩ rfl (Nat.le_of_ble_eq_true rfl) dX11_house_75 (fun u_40 h => ?_)
        refine g_aload_n (pc := 78) hC 1 dX11_house_78 rfl rfl ?_
        refine g_aload_n (pc := 79) hC 1 dX11_house_79 rfl rfl ?_
        refine getX11_7 (pc := 80) hC (F := fun Z => Z) (X := []) (fun _ => rfl) fl_X11_46 dX11_house_80 ?_
        refine getX2_2 (pc := 83) hC (F := fun Z => (wX11 o0 (va_up (va_up a0 7 (a0 8)) 8 (a0 7)) (xy C) u_34 (wX6 (a0 6) aR (xy C) u_35 (wX8 (aR 0) (fun _ => a0 3) (xy C) u_36 (wT (a0 3) (xy C) u_37 Z))))) (X := (wX11 o0 (va_up (va_up a0 7 (a0 8)) 8 (a0 7)) (xy C) u_34 (wX6 (a0 6) aR (xy C) u_35 (wX8 (aR 0) (fun _ => a0 3) (xy C) u_36 (wT (a0 3) (xy C) u_37 []))))) (fun _ => rfl) fl_X11_163 dX11_house_83 ?_
        refine g_callV_i (pc := 86) (wd := fun (u : St) Y => (wX11 o0 (va_up (va_up a0 7 (a0 8)) 8 (a0 7)) (xy C) u Y)) (F := fun Z => Z) (X := []) (As := [.int (gi u_32 2)]) (rest := []) (u := u_34) hC (fun _ _ => rfl) (fun _ => rfl) (ctX11_answer h) wvX11_answer ml_X11_166 (ci := 9) (q0 := 0) rfl rfl rfl rfl (rmok hR0 rfl) ⟨Nat.zero_le _, Nat.zero_le _⟩ rfl (Nat.le_of_ble_eq_true rfl) dX11_house_86 (fun r_43 u_42 h => ?_)
        exact hR _ _ _ (true, u_42, u_35, u_36, u_37, u_32, u4, u_40) dX11_house_89 h
      · have h := h.2 c_39
        refine g_aload_n (pc := 46) hC 0 dX11_house_46 rfl rfl ?_
        refine g_bipush (pc := 47) (v := 9) hC dX11_house_47 (by decide) ?_
        refine g_callV_i (pc := 49) (wd := fun (u : St) Y => (wX11 o0 a0 (xy C) u Y)) (F := fun Z => Z) (X := []) (As := [.int (9 : Int32)]) (rest := []) (u := u_34) hC (fun _ _ => rfl) (fun _ => rfl) (ctX11_refuse h) wvX11_refuse ml_X11_127 (ci := 9) (q0 := 0) rfl rfl rfl rfl (rmok hR0 rfl) ⟨Nat.zero_le _, Nat.zero_le _⟩ rfl (Nat.le_of_ble_eq_true rfl) dX11_house_49 (fun r_46 u_45 h => ?_)
        refine g_swap (F := fun Z => (wX11 o0 a0 (xy C) u_45 (wX6 (a0 6) aR (xy C) u_35 (wX8 (aR 0) (fun _ => a0 3) (xy C) u_36 (wT (a0 3) (xy C) u_37 Z))))) (X := (wX11 o0 a0 (xy C) u_45 (wX6 (a0 6) aR (xy C) u_35 (wX8 (aR 0) (fun _ => a0 3) (xy C) u_36 (wT (a0 3) (xy C) u_37 []))))) (f := fun Z => (wX2 (a0 8) aS (xy C) u_32 Z)) (g := fun Z => (wX2 (a0 7) aH (xy C) u4 Z)) (Y := (wX7 (a0 9) aM (xy C) u6 [])) (fun _ => rfl) (fun _ => rfl) (fun _ => rfl) ?_
        exact hR _ _ _ (false, u_45, u_35, u_36, u_37, u4, u_32, u6) dX11_house_52 h
    · have h := h.2 c_27
      refine g_sub (lv' := [(0, .ref o0)]) [0] rfl ?_
      exact kX11_house_b12 hC hR0 hR   h
theorem ctX11_house {l : Launch} {D : va_G} {cy : Nat → ClassId} {kd : Nat → Nat} {o0 : Nat} {a0 : Nat → Nat} {aR : Nat → Nat} {aH : Nat → Nat} {aS : Nat → Nat} {aM : Nat → Nat} {x1 : Int32} {u0 : St} {u1 : St} {u2 : St} {u3 : St} {u4 : St} {u5 : St} {u6 : St} {post : Int32 → Bool → St → St → St → St → St → St → St → Prop} (h : qX11_house x1 u0 u1 u2 u3 u4 u5 u6 post) : CtI l D cy kd yX11_house cX11_house 3 8 .int [.ref o0, .int x1] (fun u : Bool × St × St × St × St × St × St × St => bif u.1 then (wX11 o0 (va_up (va_up a0 7 (a0 8)) 8 (a0 7)) cy u.2.1 (wX6 (a0 6) aR cy u.2.2.1 (wX8 (aR 0) (fun _ => a0 3) cy u.2.2.2.1 (wT (a0 3) cy u.2.2.2.2.1 (wX2 (a0 8) aS cy u.2.2.2.2.2.1 (wX2 (a0 7) aH cy u.2.2.2.2.2.2.1 (wX7 (a0 9) aM cy u.2.2.2.2.2.2.2 []))))))) else (wX11 o0 a0 cy u.2.1 (wX6 (a0 6) aR cy u.2.2.1 (wX8 (aR 0) (fun _ => a0 3) cy u.2.2.2.1 (wT (a0 3) cy u.2.2.2.2.1 (wX2 (a0 7) aH cy u.2.2.2.2.2.1 (wX2 (a0 8) aS cy u.2.2.2.2.2.2.1 (wX7 (a0 9) aM cy u.2.2.2.2.2.2.2 [])))))))) (false, u0, u1, u2, u3, u4, u5, u6) (fun r u => post r u.1 u.2.1 u.2.2.1 u.2.2.2.1 u.2.2.2.2.1 u.2.2.2.2.2.1 u.2.2.2.2.2.2.1 u.2.2.2.2.2.2.2) := met_i (by decide) (Nat.le_of_ble_eq_true rfl) (fun C e1 e2 e3 e4 e5 hC hR => by subst e1 e2 e3 e4; exact kX11_house hC e5 hR h)
theorem dX11_times_0 : decode cX11_times 0 = .ok (.iload_n 1, 1) := by decide +kernel
theorem dX11_times_1 : decode cX11_times 1 = .ok (.ifCond .lt 18, 3) := by decide +kernel
theorem dX11_times_4 : decode cX11_times 4 = .ok (.iload_n 1, 1) := by decide +kernel
theorem dX11_times_5 : decode cX11_times 5 = .ok (.aload_n 0, 1) := by decide +kernel
theorem dX11_times_6 : decode cX11_times 6 = .ok (.getfield 24, 3) := by decide +kernel
theorem dX11_times_9 : decode cX11_times 9 = .ok (.if_icmp .gt 10, 3) := by decide +kernel
theorem dX11_times_12 : decode cX11_times 12 = .ok (.iload_n 1, 1) := by decide +kernel
theorem dX11_times_13 : decode cX11_times 13 = .ok (.sipush 300, 3) := by decide +kernel
theorem dX11_times_16 : decode cX11_times 16 = .ok (.if_icmp .le 9, 3) := by decide +kernel
theorem dX11_times_19 : decode cX11_times 19 = .ok (.aload_n 0, 1) := by decide +kernel
theorem dX11_times_20 : decode cX11_times 20 = .ok (.iconst 1, 1) := by decide +kernel
theorem dX11_times_21 : decode cX11_times 21 = .ok (.invokevirtual 127, 3) := by decide +kernel
theorem dX11_times_24 : decode cX11_times 24 = .ok (.ireturn, 1) := by decide +kernel
theorem dX11_times_25 : decode cX11_times 25 = .ok (.aload_n 0, 1) := by decide +kernel
theorem dX11_times_26 : decode cX11_times 26 = .ok (.iconst 0, 1) := by decide +kernel
theorem dX11_times_27 : decode cX11_times 27 = .ok (.putfield 24, 3) := by decide +kernel
theorem dX11_times_30 : decode cX11_times 30 = .ok (.aload_n 0, 1) := by decide +kernel
theorem dX11_times_31 : decode cX11_times 31 = .ok (.getfield 39, 3) := by decide +kernel
theorem dX11_times_34 : decode cX11_times 34 = .ok (.iload_n 1, 1) := by decide +kernel
theorem dX11_times_35 : decode cX11_times 35 = .ok (.aload_n 0, 1) := by decide +kernel
theorem dX11_times_36 : decode cX11_times 36 = .ok (.getfield 46, 3) := by decide +kernel
theorem dX11_times_39 : decode cX11_times 39 = .ok (.aload_n 0, 1) := by decide +kernel
theorem dX11_times_40 : decode cX11_times 40 = .ok (.getfield 60, 3) := by decide +kernel
theorem dX11_times_43 : decode cX11_times 43 = .ok (.invokevirtual 169, 3) := by decide +kernel
theorem dX11_times_46 : decode cX11_times 46 = .ok (.aload_n 0, 1) := by decide +kernel
theorem dX11_times_47 : decode cX11_times 47 = .ok (.invokevirtual 157, 3) := by decide +kernel
theorem dX11_times_50 : decode cX11_times 50 = .ok (.aload_n 0, 1) := by decide +kernel
theorem dX11_times_51 : decode cX11_times 51 = .ok (.getfield 70, 3) := by decide +kernel
theorem dX11_times_54 : decode cX11_times 54 = .ok (.ifCond .eq 10, 3) := by decide +kernel
theorem dX11_times_57 : decode cX11_times 57 = .ok (.aload_n 0, 1) := by decide +kernel
theorem dX11_times_58 : decode cX11_times 58 = .ok (.bipush 9, 2) := by decide +kernel
theorem dX11_times_60 : decode cX11_times 60 = .ok (.invokevirtual 127, 3) := by decide +kernel
theorem dX11_times_63 : decode cX11_times 63 = .ok (.ireturn, 1) := by decide +kernel
theorem dX11_times_64 : decode cX11_times 64 = .ok (.aload_n 0, 1) := by decide +kernel
theorem dX11_times_65 : decode cX11_times 65 = .ok (.getfield 56, 3) := by decide +kernel
theorem dX11_times_68 : decode cX11_times 68 = .ok (.astore_n 2, 1) := by decide +kernel
theorem dX11_times_69 : decode cX11_times 69 = .ok (.aload_n 0, 1) := by decide +kernel
theorem dX11_times_70 : decode cX11_times 70 = .ok (.aload_n 0, 1) := by decide +kernel
theorem dX11_times_71 : decode cX11_times 71 = .ok (.getfield 60, 3) := by decide +kernel
theorem dX11_times_74 : decode cX11_times 74 = .ok (.putfield 56, 3) := by decide +kernel
theorem dX11_times_77 : decode cX11_times 77 = .ok (.aload_n 0, 1) := by decide +kernel
theorem dX11_times_78 : decode cX11_times 78 = .ok (.aload_n 2, 1) := by decide +kernel
theorem dX11_times_79 : decode cX11_times 79 = .ok (.putfield 60, 3) := by decide +kernel
theorem dX11_times_82 : decode cX11_times 82 = .ok (.aload_n 0, 1) := by decide +kernel
theorem dX11_times_83 : decode cX11_times 83 = .ok (.aload_n 0, 1) := by decide +kernel
theorem dX11_times_84 : decode cX11_times 84 = .ok (.getfield 56, 3) := by decide +kernel
theorem dX11_times_87 : decode cX11_times 87 = .ok (.getfield 173, 3) := by decide +kernel
theorem dX11_times_90 : decode cX11_times 90 = .ok (.invokevirtual 166, 3) := by decide +kernel
theorem dX11_times_93 : decode cX11_times 93 = .ok (.ireturn, 1) := by decide +kernel
def qX11_times_b19   (post : Int32 → Bool → St → St → St → St → St → St → St → Prop)  (u0 : St) (u1 : St) (u2 : St) (u3 : St) (u4 : St) (u5 : St) (u6 : St) : Prop := qX11_refuse (1 : Int32) u0 (fun r_23 u_22 => post r_23 false u_22 u1 u2 u3 u4 u5 u6)
set_option maxRecDepth 100000 in
set_option maxHeartbeats 4000000 in
theorem kX11_times_b19 {C : Cx} {o0 : Nat} {a0 : Nat → Nat} {aR : Nat → Nat} {aH : Nat → Nat} {aM : Nat → Nat} {aN : Nat → Nat} (hC : Fx C cX11_times 3 RX11) (hR0 : xR C = rm 8) {post : Int32 → Bool → St → St → St → St → St → St → St → Prop} (hR : RI C cX11_times 3 (fun u : Bool × St × St × St × St × St × St × St => bif u.1 then (wX11 o0 (va_up (va_up a0 9 (a0 10)) 10 (a0 9)) (xy C) u.2.1 (wX6 (a0 6) aR (xy C) u.2.2.1 (wX8 (aR 0) (fun _ => a0 3) (xy C) u.2.2.2.1 (wT (a0 3) (xy C) u.2.2.2.2.1 (wX2 (a0 7) aH (xy C) u.2.2.2.2.2.1 (wX7 (a0 10) aN (xy C) u.2.2.2.2.2.2.1 (wX7 (a0 9) aM (xy C) u.2.2.2.2.2.2.2 []))))))) else (wX11 o0 a0 (xy C) u.2.1 (wX6 (a0 6) aR (xy C) u.2.2.1 (wX8 (aR 0) (fun _ => a0 3) (xy C) u.2.2.2.1 (wT (a0 3) (xy C) u.2.2.2.2.1 (wX2 (a0 7) aH (xy C) u.2.2.2.2.2.1 (wX7 (a0 9) aM (xy C) u.2.2.2.2.2.2.1 (wX7 (a0 10) aN (xy C) u.2.2.2.2.2.2.2 [])))))))) (fun r u => post r u.1 u.2.1 u.2.2.1 u.2.2.2.1 u.2.2.2.2.1 u.2.2.2.2.2.1 u.2.2.2.2.2.2.1 u.2.2.2.2.2.2.2))  {u0 : St} {u1 : St} {u2 : St} {u3 : St} {u4 : St} {u5 : St} {u6 : St} (h : qX11_times_b19 post u0 u1 u2 u3 u4 u5 u6) : G C 0 0 3 (wX11 o0 a0 (xy C) u0 (wX6 (a0 6) aR (xy C) u1 (wX8 (aR 0) (fun _ => a0 3) (xy C) u2 (wT (a0 3) (xy C) u3 (wX2 (a0 7) aH (xy C) u4 (wX7 (a0 9) aM (xy C) u5 (wX7 (a0 10) aN (xy C) u6 []))))))) 19 [(0, .ref o0)] [] := by
  refine g_aload_n (pc := 19) hC 0 dX11_times_19 rfl rfl ?_
  refine g_iconst (pc := 20) (v := 1) hC dX11_times_20 (by decide) ?_
  refine g_callV_i (pc := 21) (wd := fun (u : St) Y => (wX11 o0 a0 (xy C) u Y)) (F := fun Z => Z) (X := []) (As := [.int (1 : Int32)]) (rest := []) (u := u0) hC (fun _ _ => rfl) (fun _ => rfl) (ctX11_refuse h) wvX11_refuse ml_X11_127 (ci := 9) (q0 := 0) rfl rfl rfl rfl (rmok hR0 rfl) ⟨Nat.zero_le _, Nat.zero_le _⟩ rfl (Nat.le_of_ble_eq_true rfl) dX11_times_21 (fun r_23 u_22 h => ?_)
  exact hR _ _ _ (false, u_22, u1, u2, u3, u4, u5, u6) dX11_times_24 h
def qX11_times  (x1 : Int32) (u0 : St) (u1 : St) (u2 : St) (u3 : St) (u4 : St) (u5 : St) (u6 : St) (post : Int32 → Bool → St → St → St → St → St → St → St → Prop) : Prop := ((x1 < 0 → qX11_times_b19 post u0 u1 u2 u3 u4 u5 u6) ∧ (¬ x1 < 0 → (((gi u0 4) < x1 → qX11_times_b19 post u0 u1 u2 u3 u4 u5 u6) ∧ (¬ (gi u0 4) < x1 → ((x1 ≤ (300 : Int32) → ∀ u_28 : St, u_28 = (si u0 4 (0 : Int32)) → qX6_readTimes x1 u1 u2 u3 u4 u6 (fun u_29 u_30 u_31 u_32 u_33 => qX11_keepFault u_28 u_29 u_30 u_31 (fun u_35 u_36 u_37 u_38 => (((gi u_35 12) = 0 → qX11_answer (gi u_33 1) u_35 (fun r_42 u_41 => post r_42 true u_41 u_36 u_37 u_38 u_32 u_33 u5)) ∧ (¬ (gi u_35 12) = 0 → qX11_refuse (9 : Int32) u_35 (fun r_45 u_44 => post r_45 false u_44 u_36 u_37 u_38 u_32 u5 u_33)))))) ∧ (¬ x1 ≤ (300 : Int32) → qX11_times_b19 post u0 u1 u2 u3 u4 u5 u6))))))
set_option maxRecDepth 100000 in
set_option maxHeartbeats 4000000 in
theorem kX11_times {C : Cx} {o0 : Nat} {a0 : Nat → Nat} {aR : Nat → Nat} {aH : Nat → Nat} {aM : Nat → Nat} {aN : Nat → Nat} (hC : Fx C cX11_times 3 RX11) (hR0 : xR C = rm 8) {post : Int32 → Bool → St → St → St → St → St → St → St → Prop} (hR : RI C cX11_times 3 (fun u : Bool × St × St × St × St × St × St × St => bif u.1 then (wX11 o0 (va_up (va_up a0 9 (a0 10)) 10 (a0 9)) (xy C) u.2.1 (wX6 (a0 6) aR (xy C) u.2.2.1 (wX8 (aR 0) (fun _ => a0 3) (xy C) u.2.2.2.1 (wT (a0 3) (xy C) u.2.2.2.2.1 (wX2 (a0 7) aH (xy C) u.2.2.2.2.2.1 (wX7 (a0 10) aN (xy C) u.2.2.2.2.2.2.1 (wX7 (a0 9) aM (xy C) u.2.2.2.2.2.2.2 []))))))) else (wX11 o0 a0 (xy C) u.2.1 (wX6 (a0 6) aR (xy C) u.2.2.1 (wX8 (aR 0) (fun _ => a0 3) (xy C) u.2.2.2.1 (wT (a0 3) (xy C) u.2.2.2.2.1 (wX2 (a0 7) aH (xy C) u.2.2.2.2.2.1 (wX7 (a0 9) aM (xy C) u.2.2.2.2.2.2.1 (wX7 (a0 10) aN (xy C) u.2.2.2.2.2.2.2 [])))))))) (fun r u => post r u.1 u.2.1 u.2.2.1 u.2.2.2.1 u.2.2.2.2.1 u.2.2.2.2.2.1 u.2.2.2.2.2.2.1 u.2.2.2.2.2.2.2)) {x1 : Int32} {u0 : St} {u1 : St} {u2 : St} {u3 : St} {u4 : St} {u5 : St} {u6 : St} (h : qX11_times  x1 u0 u1 u2 u3 u4 u5 u6 post) : G C 0 0 3 (wX11 o0 a0 (xy C) u0 (wX6 (a0 6) aR (xy C) u1 (wX8 (aR 0) (fun _ => a0 3) (xy C) u2 (wT (a0 3) (xy C) u3 (wX2 (a0 7) aH (xy C) u4 (wX7 (a0 9) aM (xy C) u5 (wX7 (a0 10) aN (xy C) u6 []))))))) 0 [(0, .ref o0), (1, .int x1)] [] := by
  refine g_iload_n (pc := 0) hC 1 dX11_times_0 rfl rfl ?_
  refine g_if_lt (pc := 1) (tgt := 19) hC dX11_times_1 (by decide) (fun c_25 => ?_) (fun c_25 => ?_)
  · have h := h.1 c_25
    refine g_sub (lv' := [(0, .ref o0)]) [0] rfl ?_
    exact kX11_times_b19 hC hR0 hR   h
  · have h := h.2 c_25
    refine g_iload_n (pc := 4) hC 1 dX11_times_4 rfl rfl ?_
    refine g_aload_n (pc := 5) hC 0 dX11_times_5 rfl rfl ?_
    refine getX11_4 (pc := 6) hC (F := fun Z => Z) (X := []) (fun _ => rfl) fl_X11_24 dX11_times_6 ?_
    refine g_icmp_gt (pc := 9) (tgt := 19) hC dX11_times_9 (by decide) (fun c_26 => ?_) (fun c_26 => ?_)
    · have h := h.1 c_26
      refine g_sub (lv' := [(0, .ref o0)]) [0] rfl ?_
      exact kX11_times_b19 hC hR0 hR   h
    · have h := h.2 c_26
      refine g_iload_n (pc := 12) hC 1 dX11_times_12 rfl rfl ?_
      refine g_sipush (pc := 13) (v := 300) hC dX11_times_13 (by decide) ?_
      refine g_icmp_le (pc := 16) (tgt := 25) hC dX11_times_16 (by decide) (fun c_27 => ?_) (fun c_27 => ?_)
      · have h := h.1 c_27
        refine g_aload_n (pc := 25) hC 0 dX11_times_25 rfl rfl ?_
        refine g_iconst (pc := 26) (v := 0) hC dX11_times_26 (by decide) ?_
        refine putX11_4 (pc := 27) hC (F := fun Z => Z) (X := []) (fun _ => rfl) fl_X11_24 dX11_times_27 ?_
        refine g_st (w := fun z => (wX11 o0 a0 (xy C) z (wX6 (a0 6) aR (xy C) u1 (wX8 (aR 0) (fun _ => a0 3) (xy C) u2 (wT (a0 3) (xy C) u3 (wX2 (a0 7) aH (xy C) u4 (wX7 (a0 9) aM (xy C) u5 (wX7 (a0 10) aN (xy C) u6 [])))))))) (u := (si u0 4 (0 : Int32))) (fun u_28 eu_28 => ?_)
        have h := h u_28 eu_28
        refine g_aload_n (pc := 30) hC 0 dX11_times_30 rfl rfl ?_
        refine getX11_6 (pc := 31) hC (F := fun Z => Z) (X := []) (fun _ => rfl) fl_X11_39 dX11_times_31 ?_
        refine g_iload_n (pc := 34) hC 1 dX11_times_34 rfl rfl ?_
        refine g_aload_n (pc := 35) hC 0 dX11_times_35 rfl rfl ?_
        refine getX11_7 (pc := 36) hC (F := fun Z => Z) (X := []) (fun _ => rfl) fl_X11_46 dX11_times_36 ?_
        refine g_aload_n (pc := 39) hC 0 dX11_times_39 rfl rfl ?_
        refine getX11_10 (pc := 40) hC (F := fun Z => Z) (X := []) (fun _ => rfl) fl_X11_60 dX11_times_40 ?_
        refine g_swap (F := fun Z => (wX11 o0 a0 (xy C) u_28 (wX6 (a0 6) aR (xy C) u1 (wX8 (aR 0) (fun _ => a0 3) (xy C) u2 (wT (a0 3) (xy C) u3 (wX2 (a0 7) aH (xy C) u4 Z)))))) (X := (wX11 o0 a0 (xy C) u_28 (wX6 (a0 6) aR (xy C) u1 (wX8 (aR 0) (fun _ => a0 3) (xy C) u2 (wT (a0 3) (xy C) u3 (wX2 (a0 7) aH (xy C) u4 [])))))) (f := fun Z => (wX7 (a0 9) aM (xy C) u5 Z)) (g := fun Z => (wX7 (a0 10) aN (xy C) u6 Z)) (Y := []) (fun _ => rfl) (fun _ => rfl) (fun _ => rfl) ?_
        refine g_callV_v (pc := 43) (wd := fun (u : St × St × St × St × St) Y => (wX6 (a0 6) aR (xy C) u.1 (wX8 (aR 0) (fun _ => a0 3) (xy C) u.2.1 (wT (a0 3) (xy C) u.2.2.1 (wX2 (a0 7) aH (xy C) u.2.2.2.1 (wX7 (a0 10) aN (xy C) u.2.2.2.2 Y)))))) (F := fun Z => (wX11 o0 a0 (xy C) u_28 Z)) (X := (wX11 o0 a0 (xy C) u_28 [])) (As := [.int x1, .ref (a0 7), .ref (a0 10)]) (rest := []) (u := (u1, u2, u3, u4, u6)) hC (fun _ _ => rfl) (fun _ => rfl) (ctX6_readTimes h) wvX6_readTimes ml_X11_169 (ci := 5) (q0 := 0) rfl rfl rfl rfl (rmok hR0 rfl) ⟨Nat.zero_le _, Nat.zero_le _⟩ rfl (Nat.le_of_ble_eq_true rfl) dX11_times_43 (fun u_34 h => ?_)
        obtain ⟨u_29, u_30, u_31, u_32, u_33⟩ := u_34
        refine g_aload_n (pc := 46) hC 0 dX11_times_46 rfl rfl ?_
        refine g_callV_v (pc := 47) (wd := fun (u : St × St × St × St) Y => (wX11 o0 a0 (xy C) u.1 (wX6 (a0 6) aR (xy C) u.2.1 (wX8 (aR 0) (fun _ => a0 3) (xy C) u.2.2.1 (wT (a0 3) (xy C) u.2.2.2 Y))))) (F := fun Z => Z) (X := []) (As := []) (rest := []) (u := (u_28, u_29, u_30, u_31)) hC (fun _ _ => rfl) (fun _ => rfl) (ctX11_keepFault h) wvX11_keepFault ml_X11_157 (ci := 9) (q0 := 0) rfl rfl rfl rfl (rmok hR0 rfl) ⟨Nat.zero_le _, Nat.zero_le _⟩ rfl (Nat.le_of_ble_eq_true rfl) dX11_times_47 (fun u_39 h => ?_)
        obtain ⟨u_35, u_36, u_37, u_38⟩ := u_39
        refine g_aload_n (pc := 50) hC 0 dX11_times_50 rfl rfl ?_
        refine getX11_12 (pc := 51) hC (F := fun Z => Z) (X := []) (fun _ => rfl) fl_X11_70 dX11_times_51 ?_
        refine g_if_eq (pc := 54) (tgt := 64) hC dX11_times_54 (by decide) (fun c_40 => ?_) (fun c_40 => ?_)
        · have h := h.1 c_40
          refine g_aload_n (pc := 64) hC 0 dX11_times_64 rfl rfl ?_
          refine getX11_9 (pc := 65) hC (F := fun Z => Z) (X := []) (fun _ => rfl) fl_X11_56 dX11_times_65 ?_
          refine g_astore_n (pc := 68) (lv' := [(2, .ref (a0 9)), (0, .ref o0), (1, .int x1)]) hC dX11_times_68 rfl (Nat.le_of_ble_eq_true rfl) rfl ?_
          refine g_aload_n (pc := 69) hC 1 dX11_times_69 rfl rfl ?_
          refine g_aload_n (pc := 70) hC 1 dX11_times_70 rfl rfl ?_
          refine getX11_10 (pc := 71) hC (F := fun Z => Z) (X := []) (fun _ => rfl) fl_X11_60 dX11_times_71 ?_
          refine putX11_9 (pc := 74) hC (F := fun Z => Z) (X := []) (fun _ => rfl) fl_X11_56 dX11_times_74 ?_
          refine g_aload_n (pc := 77) hC 1 dX11_times_77 rfl rfl ?_
          refine g_aload_n (pc := 78) hC 0 dX11_times_78 rfl rfl ?_
          refine putX11_10 (pc := 79) hC (F := fun Z => Z) (X := []) (fun _ => rfl) fl_X11_60 dX11_times_79 ?_
          refine g_aload_n (pc := 82) hC 1 dX11_times_82 rfl rfl ?_
          refine g_aload_n (pc := 83) hC 1 dX11_times_83 rfl rfl ?_
          refine getX11_9 (pc := 84) hC (F := fun Z => Z) (X := []) (fun _ => rfl) fl_X11_56 dX11_times_84 ?_
          refine getX7_1 (pc := 87) hC (F := fun Z => (wX11 o0 (va_up (va_up a0 9 (a0 10)) 10 (a0 9)) (xy C) u_35 (wX6 (a0 6) aR (xy C) u_36 (wX8 (aR 0) (fun _ => a0 3) (xy C) u_37 (wT (a0 3) (xy C) u_38 (wX2 (a0 7) aH (xy C) u_32 Z)))))) (X := (wX11 o0 (va_up (va_up a0 9 (a0 10)) 10 (a0 9)) (xy C) u_35 (wX6 (a0 6) aR (xy C) u_36 (wX8 (aR 0) (fun _ => a0 3) (xy C) u_37 (wT (a0 3) (xy C) u_38 (wX2 (a0 7) aH (xy C) u_32 [])))))) (fun _ => rfl) fl_X11_173 dX11_times_87 ?_
          refine g_callV_i (pc := 90) (wd := fun (u : St) Y => (wX11 o0 (va_up (va_up a0 9 (a0 10)) 10 (a0 9)) (xy C) u Y)) (F := fun Z => Z) (X := []) (As := [.int (gi u_33 1)]) (rest := []) (u := u_35) hC (fun _ _ => rfl) (fun _ => rfl) (ctX11_answer h) wvX11_answer ml_X11_166 (ci := 9) (q0 := 0) rfl rfl rfl rfl (rmok hR0 rfl) ⟨Nat.zero_le _, Nat.zero_le _⟩ rfl (Nat.le_of_ble_eq_true rfl) dX11_times_90 (fun r_42 u_41 h => ?_)
          exact hR _ _ _ (true, u_41, u_36, u_37, u_38, u_32, u_33, u5) dX11_times_93 h
        · have h := h.2 c_40
          refine g_aload_n (pc := 57) hC 0 dX11_times_57 rfl rfl ?_
          refine g_bipush (pc := 58) (v := 9) hC dX11_times_58 (by decide) ?_
          refine g_callV_i (pc := 60) (wd := fun (u : St) Y => (wX11 o0 a0 (xy C) u Y)) (F := fun Z => Z) (X := []) (As := [.int (9 : Int32)]) (rest := []) (u := u_35) hC (fun _ _ => rfl) (fun _ => rfl) (ctX11_refuse h) wvX11_refuse ml_X11_127 (ci := 9) (q0 := 0) rfl rfl rfl rfl (rmok hR0 rfl) ⟨Nat.zero_le _, Nat.zero_le _⟩ rfl (Nat.le_of_ble_eq_true rfl) dX11_times_60 (fun r_45 u_44 h => ?_)
          refine g_swap (F := fun Z => (wX11 o0 a0 (xy C) u_44 (wX6 (a0 6) aR (xy C) u_36 (wX8 (aR 0) (fun _ => a0 3) (xy C) u_37 (wT (a0 3) (xy C) u_38 (wX2 (a0 7) aH (xy C) u_32 Z)))))) (X := (wX11 o0 a0 (xy C) u_44 (wX6 (a0 6) aR (xy C) u_36 (wX8 (aR 0) (fun _ => a0 3) (xy C) u_37 (wT (a0 3) (xy C) u_38 (wX2 (a0 7) aH (xy C) u_32 [])))))) (f := fun Z => (wX7 (a0 10) aN (xy C) u_33 Z)) (g := fun Z => (wX7 (a0 9) aM (xy C) u5 Z)) (Y := []) (fun _ => rfl) (fun _ => rfl) (fun _ => rfl) ?_
          exact hR _ _ _ (false, u_44, u_36, u_37, u_38, u_32, u5, u_33) dX11_times_63 h
      · have h := h.2 c_27
        refine g_sub (lv' := [(0, .ref o0)]) [0] rfl ?_
        exact kX11_times_b19 hC hR0 hR   h
theorem ctX11_times {l : Launch} {D : va_G} {cy : Nat → ClassId} {kd : Nat → Nat} {o0 : Nat} {a0 : Nat → Nat} {aR : Nat → Nat} {aH : Nat → Nat} {aM : Nat → Nat} {aN : Nat → Nat} {x1 : Int32} {u0 : St} {u1 : St} {u2 : St} {u3 : St} {u4 : St} {u5 : St} {u6 : St} {post : Int32 → Bool → St → St → St → St → St → St → St → Prop} (h : qX11_times x1 u0 u1 u2 u3 u4 u5 u6 post) : CtI l D cy kd yX11_times cX11_times 3 8 .int [.ref o0, .int x1] (fun u : Bool × St × St × St × St × St × St × St => bif u.1 then (wX11 o0 (va_up (va_up a0 9 (a0 10)) 10 (a0 9)) cy u.2.1 (wX6 (a0 6) aR cy u.2.2.1 (wX8 (aR 0) (fun _ => a0 3) cy u.2.2.2.1 (wT (a0 3) cy u.2.2.2.2.1 (wX2 (a0 7) aH cy u.2.2.2.2.2.1 (wX7 (a0 10) aN cy u.2.2.2.2.2.2.1 (wX7 (a0 9) aM cy u.2.2.2.2.2.2.2 []))))))) else (wX11 o0 a0 cy u.2.1 (wX6 (a0 6) aR cy u.2.2.1 (wX8 (aR 0) (fun _ => a0 3) cy u.2.2.2.1 (wT (a0 3) cy u.2.2.2.2.1 (wX2 (a0 7) aH cy u.2.2.2.2.2.1 (wX7 (a0 9) aM cy u.2.2.2.2.2.2.1 (wX7 (a0 10) aN cy u.2.2.2.2.2.2.2 [])))))))) (false, u0, u1, u2, u3, u4, u5, u6) (fun r u => post r u.1 u.2.1 u.2.2.1 u.2.2.2.1 u.2.2.2.2.1 u.2.2.2.2.2.1 u.2.2.2.2.2.2.1 u.2.2.2.2.2.2.2) := met_i (by decide) (Nat.le_of_ble_eq_true rfl) (fun C e1 e2 e3 e4 e5 hC hR => by subst e1 e2 e3 e4; exact kX11_times hC e5 hR h)
theorem dX11_fault_0 : decode cX11_fault 0 = .ok (.iload_n 1, 1) := by decide +kernel
theorem dX11_fault_1 : decode cX11_fault 1 = .ok (.ifCond .ne 8, 3) := by decide +kernel
theorem dX11_fault_4 : decode cX11_fault 4 = .ok (.aload_n 0, 1) := by decide +kernel
theorem dX11_fault_5 : decode cX11_fault 5 = .ok (.getfield 70, 3) := by decide +kernel
theorem dX11_fault_8 : decode cX11_fault 8 = .ok (.ireturn, 1) := by decide +kernel
theorem dX11_fault_9 : decode cX11_fault 9 = .ok (.iload_n 1, 1) := by decide +kernel
theorem dX11_fault_10 : decode cX11_fault 10 = .ok (.iconst 1, 1) := by decide +kernel
theorem dX11_fault_11 : decode cX11_fault 11 = .ok (.if_icmp .ne 10, 3) := by decide +kernel
theorem dX11_fault_14 : decode cX11_fault 14 = .ok (.aload_n 0, 1) := by decide +kernel
theorem dX11_fault_15 : decode cX11_fault 15 = .ok (.getfield 73, 3) := by decide +kernel
theorem dX11_fault_18 : decode cX11_fault 18 = .ok (.goto 4, 3) := by decide +kernel
theorem dX11_fault_21 : decode cX11_fault 21 = .ok (.iconst (-1), 1) := by decide +kernel
theorem dX11_fault_22 : decode cX11_fault 22 = .ok (.ireturn, 1) := by decide +kernel
def qX11_fault_b22   (post : Int32 → St → Prop)  (s0 : Int32) (u0 : St) : Prop := post s0 u0
set_option maxRecDepth 100000 in
set_option maxHeartbeats 4000000 in
theorem kX11_fault_b22 {C : Cx} {o0 : Nat} {a0 : Nat → Nat} (hC : Fx C cX11_fault 2 RX11) (hR0 : xR C = rm 1) {post : Int32 → St → Prop} (hR : RI C cX11_fault 2 (fun u : St => (wX11 o0 a0 (xy C) u [])) (fun r u => post r u))  {s0 : Int32} {u0 : St} (h : qX11_fault_b22 post s0 u0) : G C 0 0 2 (wX11 o0 a0 (xy C) u0 []) 22 [] [.int s0] := by
  exact hR _ _ _ u0 dX11_fault_22 h
def qX11_fault  (x1 : Int32) (u0 : St) (post : Int32 → St → Prop) : Prop := ((¬ x1 = 0 → ((¬ x1 = (1 : Int32) → qX11_fault_b22 post (-1 : Int32) u0) ∧ (x1 = (1 : Int32) → qX11_fault_b22 post (gi u0 13) u0))) ∧ (x1 = 0 → post (gi u0 12) u0))
set_option maxRecDepth 100000 in
set_option maxHeartbeats 4000000 in
theorem kX11_fault {C : Cx} {o0 : Nat} {a0 : Nat → Nat} (hC : Fx C cX11_fault 2 RX11) (hR0 : xR C = rm 1) {post : Int32 → St → Prop} (hR : RI C cX11_fault 2 (fun u : St => (wX11 o0 a0 (xy C) u [])) (fun r u => post r u)) {x1 : Int32} {u0 : St} (h : qX11_fault  x1 u0 post) : G C 0 0 2 (wX11 o0 a0 (xy C) u0 []) 0 [(0, .ref o0), (1, .int x1)] [] := by
  refine g_iload_n (pc := 0) hC 1 dX11_fault_0 rfl rfl ?_
  refine g_if_ne (pc := 1) (tgt := 9) hC dX11_fault_1 (by decide) (fun c_1 => ?_) (fun c_1 => ?_)
  · have h := h.1 c_1
    refine g_iload_n (pc := 9) hC 1 dX11_fault_9 rfl rfl ?_
    refine g_iconst (pc := 10) (v := 1) hC dX11_fault_10 (by decide) ?_
    refine g_icmp_ne (pc := 11) (tgt := 21) hC dX11_fault_11 (by decide) (fun c_2 => ?_) (fun c_2 => ?_)
    · have h := h.1 c_2
      refine g_iconst (pc := 21) (v := -1) hC dX11_fault_21 (by decide) ?_
      refine g_sub (lv' := []) [] rfl ?_
      exact kX11_fault_b22 hC hR0 hR   h
    · have h := h.2 c_2
      refine g_aload_n (pc := 14) hC 0 dX11_fault_14 rfl rfl ?_
      refine getX11_13 (pc := 15) hC (F := fun Z => Z) (X := []) (fun _ => rfl) fl_X11_73 dX11_fault_15 ?_
      refine g_goto (pc := 18) (tgt := 22) hC dX11_fault_18 (by decide) ?_
      refine g_sub (lv' := []) [] rfl ?_
      exact kX11_fault_b22 hC hR0 hR   h
  · have h := h.2 c_1
    refine g_aload_n (pc := 4) hC 0 dX11_fault_4 rfl rfl ?_
    refine getX11_12 (pc := 5) hC (F := fun Z => Z) (X := []) (fun _ => rfl) fl_X11_70 dX11_fault_5 ?_
    exact hR _ _ _ u0 dX11_fault_8 h
theorem ctX11_fault {l : Launch} {D : va_G} {cy : Nat → ClassId} {kd : Nat → Nat} {o0 : Nat} {a0 : Nat → Nat} {x1 : Int32} {u0 : St} {post : Int32 → St → Prop} (h : qX11_fault x1 u0 post) : CtI l D cy kd yX11_fault cX11_fault 2 1 .int [.ref o0, .int x1] (fun u : St => (wX11 o0 a0 cy u [])) u0 (fun r u => post r u) := met_i (by decide) (Nat.le_of_ble_eq_true rfl) (fun C e1 e2 e3 e4 e5 hC hR => by subst e1 e2 e3 e4; exact kX11_fault hC e5 hR h)
theorem dX11_told_0 : decode cX11_told 0 = .ok (.iload_n 1, 1) := by decide +kernel
theorem dX11_told_1 : decode cX11_told 1 = .ok (.tableswitch 175 0 9 #[55, 67, 79, 91, 103, 115, 127, 139, 151, 163], 55) := by decide +kernel
theorem dX11_told_56 : decode cX11_told 56 = .ok (.aload_n 0, 1) := by decide +kernel
theorem dX11_told_57 : decode cX11_told 57 = .ok (.aload_n 0, 1) := by decide +kernel
theorem dX11_told_58 : decode cX11_told 58 = .ok (.getfield 46, 3) := by decide +kernel
theorem dX11_told_61 : decode cX11_told 61 = .ok (.getfield 176, 3) := by decide +kernel
theorem dX11_told_64 : decode cX11_told 64 = .ok (.invokevirtual 166, 3) := by decide +kernel
theorem dX11_told_67 : decode cX11_told 67 = .ok (.ireturn, 1) := by decide +kernel
theorem dX11_told_68 : decode cX11_told 68 = .ok (.aload_n 0, 1) := by decide +kernel
theorem dX11_told_69 : decode cX11_told 69 = .ok (.aload_n 0, 1) := by decide +kernel
theorem dX11_told_70 : decode cX11_told 70 = .ok (.getfield 46, 3) := by decide +kernel
theorem dX11_told_73 : decode cX11_told 73 = .ok (.getfield 179, 3) := by decide +kernel
theorem dX11_told_76 : decode cX11_told 76 = .ok (.invokevirtual 166, 3) := by decide +kernel
theorem dX11_told_79 : decode cX11_told 79 = .ok (.ireturn, 1) := by decide +kernel
theorem dX11_told_80 : decode cX11_told 80 = .ok (.aload_n 0, 1) := by decide +kernel
theorem dX11_told_81 : decode cX11_told 81 = .ok (.aload_n 0, 1) := by decide +kernel
theorem dX11_told_82 : decode cX11_told 82 = .ok (.getfield 46, 3) := by decide +kernel
theorem dX11_told_85 : decode cX11_told 85 = .ok (.getfield 163, 3) := by decide +kernel
theorem dX11_told_88 : decode cX11_told 88 = .ok (.invokevirtual 166, 3) := by decide +kernel
theorem dX11_told_91 : decode cX11_told 91 = .ok (.ireturn, 1) := by decide +kernel
theorem dX11_told_92 : decode cX11_told 92 = .ok (.aload_n 0, 1) := by decide +kernel
theorem dX11_told_93 : decode cX11_told 93 = .ok (.aload_n 0, 1) := by decide +kernel
theorem dX11_told_94 : decode cX11_told 94 = .ok (.getfield 46, 3) := by decide +kernel
theorem dX11_told_97 : decode cX11_told 97 = .ok (.getfield 182, 3) := by decide +kernel
theorem dX11_told_100 : decode cX11_told 100 = .ok (.invokevirtual 166, 3) := by decide +kernel
theorem dX11_told_103 : decode cX11_told 103 = .ok (.ireturn, 1) := by decide +kernel
theorem dX11_told_104 : decode cX11_told 104 = .ok (.aload_n 0, 1) := by decide +kernel
theorem dX11_told_105 : decode cX11_told 105 = .ok (.aload_n 0, 1) := by decide +kernel
theorem dX11_told_106 : decode cX11_told 106 = .ok (.getfield 46, 3) := by decide +kernel
theorem dX11_told_109 : decode cX11_told 109 = .ok (.getfield 185, 3) := by decide +kernel
theorem dX11_told_112 : decode cX11_told 112 = .ok (.invokevirtual 166, 3) := by decide +kernel
theorem dX11_told_115 : decode cX11_told 115 = .ok (.ireturn, 1) := by decide +kernel
theorem dX11_told_116 : decode cX11_told 116 = .ok (.aload_n 0, 1) := by decide +kernel
theorem dX11_told_117 : decode cX11_told 117 = .ok (.aload_n 0, 1) := by decide +kernel
theorem dX11_told_118 : decode cX11_told 118 = .ok (.getfield 46, 3) := by decide +kernel
theorem dX11_told_121 : decode cX11_told 121 = .ok (.invokevirtual 188, 3) := by decide +kernel
theorem dX11_told_124 : decode cX11_told 124 = .ok (.invokevirtual 166, 3) := by decide +kernel
theorem dX11_told_127 : decode cX11_told 127 = .ok (.ireturn, 1) := by decide +kernel
theorem dX11_told_128 : decode cX11_told 128 = .ok (.aload_n 0, 1) := by decide +kernel
theorem dX11_told_129 : decode cX11_told 129 = .ok (.aload_n 0, 1) := by decide +kernel
theorem dX11_told_130 : decode cX11_told 130 = .ok (.getfield 46, 3) := by decide +kernel
theorem dX11_told_133 : decode cX11_told 133 = .ok (.getfield 192, 3) := by decide +kernel
theorem dX11_told_136 : decode cX11_told 136 = .ok (.invokevirtual 166, 3) := by decide +kernel
theorem dX11_told_139 : decode cX11_told 139 = .ok (.ireturn, 1) := by decide +kernel
theorem dX11_told_140 : decode cX11_told 140 = .ok (.aload_n 0, 1) := by decide +kernel
theorem dX11_told_141 : decode cX11_told 141 = .ok (.aload_n 0, 1) := by decide +kernel
theorem dX11_told_142 : decode cX11_told 142 = .ok (.getfield 46, 3) := by decide +kernel
theorem dX11_told_145 : decode cX11_told 145 = .ok (.invokevirtual 195, 3) := by decide +kernel
theorem dX11_told_148 : decode cX11_told 148 = .ok (.invokevirtual 166, 3) := by decide +kernel
theorem dX11_told_151 : decode cX11_told 151 = .ok (.ireturn, 1) := by decide +kernel
theorem dX11_told_152 : decode cX11_told 152 = .ok (.aload_n 0, 1) := by decide +kernel
theorem dX11_told_153 : decode cX11_told 153 = .ok (.aload_n 0, 1) := by decide +kernel
theorem dX11_told_154 : decode cX11_told 154 = .ok (.getfield 46, 3) := by decide +kernel
theorem dX11_told_157 : decode cX11_told 157 = .ok (.invokevirtual 198, 3) := by decide +kernel
theorem dX11_told_160 : decode cX11_told 160 = .ok (.invokevirtual 166, 3) := by decide +kernel
theorem dX11_told_163 : decode cX11_told 163 = .ok (.ireturn, 1) := by decide +kernel
theorem dX11_told_164 : decode cX11_told 164 = .ok (.aload_n 0, 1) := by decide +kernel
theorem dX11_told_165 : decode cX11_told 165 = .ok (.aload_n 0, 1) := by decide +kernel
theorem dX11_told_166 : decode cX11_told 166 = .ok (.getfield 46, 3) := by decide +kernel
theorem dX11_told_169 : decode cX11_told 169 = .ok (.invokevirtual 201, 3) := by decide +kernel
theorem dX11_told_172 : decode cX11_told 172 = .ok (.invokevirtual 166, 3) := by decide +kernel
theorem dX11_told_175 : decode cX11_told 175 = .ok (.ireturn, 1) := by decide +kernel
theorem dX11_told_176 : decode cX11_told 176 = .ok (.aload_n 0, 1) := by decide +kernel
theorem dX11_told_177 : decode cX11_told 177 = .ok (.iconst 1, 1) := by decide +kernel
theorem dX11_told_178 : decode cX11_told 178 = .ok (.invokevirtual 127, 3) := by decide +kernel
theorem dX11_told_181 : decode cX11_told 181 = .ok (.ireturn, 1) := by decide +kernel
def qX11_told  (x1 : Int32) (u0 : St) (u1 : St) (post : Int32 → St → St → Prop) : Prop := ((x1 = (0 : Int32) → qX11_answer (gi u1 0) u0 (fun r_47 u_46 => post r_47 u_46 u1)) ∧ ((x1 = (1 : Int32) → qX11_answer (gi u1 1) u0 (fun r_51 u_50 => post r_51 u_50 u1)) ∧ ((x1 = (2 : Int32) → qX11_answer (gi u1 2) u0 (fun r_55 u_54 => post r_55 u_54 u1)) ∧ ((x1 = (3 : Int32) → qX11_answer (gi u1 3) u0 (fun r_59 u_58 => post r_59 u_58 u1)) ∧ ((x1 = (4 : Int32) → qX11_answer (gi u1 4) u0 (fun r_63 u_62 => post r_63 u_62 u1)) ∧ ((x1 = (5 : Int32) → qX2_standingNow u1 (fun r_67 u_66 => qX11_answer r_67 u0 (fun r_70 u_69 => post r_70 u_69 u_66))) ∧ ((x1 = (6 : Int32) → qX11_answer (gi u1 6) u0 (fun r_74 u_73 => post r_74 u_73 u1)) ∧ ((x1 = (7 : Int32) → qX2_allLeaves u1 (fun r_78 u_77 => qX11_answer r_78 u0 (fun r_81 u_80 => post r_81 u_80 u_77))) ∧ ((x1 = (8 : Int32) → qX2_allOwed u1 (fun r_85 u_84 => qX11_answer r_85 u0 (fun r_88 u_87 => post r_88 u_87 u_84))) ∧ ((x1 = (9 : Int32) → qX2_allCash u1 (fun r_92 u_91 => qX11_answer r_92 u0 (fun r_95 u_94 => post r_95 u_94 u_91))) ∧ (¬ x1 = (0 : Int32) → ¬ x1 = (1 : Int32) → ¬ x1 = (2 : Int32) → ¬ x1 = (3 : Int32) → ¬ x1 = (4 : Int32) → ¬ x1 = (5 : Int32) → ¬ x1 = (6 : Int32) → ¬ x1 = (7 : Int32) → ¬ x1 = (8 : Int32) → ¬ x1 = (9 : Int32) → qX11_refuse (1 : Int32) u0 (fun r_99 u_98 => post r_99 u_98 u1))))))))))))
set_option maxRecDepth 100000 in
set_option maxHeartbeats 4000000 in
theorem kX11_told {C : Cx} {o0 : Nat} {a0 : Nat → Nat} {aH : Nat → Nat} (hC : Fx C cX11_told 2 RX11) (hR0 : xR C = rm 4) {post : Int32 → St → St → Prop} (hR : RI C cX11_told 2 (fun u : St × St => (wX11 o0 a0 (xy C) u.1 (wX2 (a0 7) aH (xy C) u.2 []))) (fun r u => post r u.1 u.2)) {x1 : Int32} {u0 : St} {u1 : St} (h : qX11_told  x1 u0 u1 post) : G C 0 0 2 (wX11 o0 a0 (xy C) u0 (wX2 (a0 7) aH (xy C) u1 [])) 0 [(0, .ref o0), (1, .int x1)] [] := by
  refine g_iload_n (pc := 0) hC 1 dX11_told_0 rfl rfl ?_
  by_cases c_49 : x1 = (0 : Int32)
  · have h := h.1 c_49
    refine g_tabIn (pc := 1) (tgt := 56) hC dX11_told_1 (by rw [c_49]; decide) (by rw [c_49]; decide) (by rw [c_49]; rfl) (by decide) ?_
    refine g_aload_n (pc := 56) hC 0 dX11_told_56 rfl rfl ?_
    refine g_aload_n (pc := 57) hC 0 dX11_told_57 rfl rfl ?_
    refine getX11_7 (pc := 58) hC (F := fun Z => Z) (X := []) (fun _ => rfl) fl_X11_46 dX11_told_58 ?_
    refine getX2_0 (pc := 61) hC (F := fun Z => (wX11 o0 a0 (xy C) u0 Z)) (X := (wX11 o0 a0 (xy C) u0 [])) (fun _ => rfl) fl_X11_176 dX11_told_61 ?_
    refine g_callV_i (pc := 64) (wd := fun (u : St) Y => (wX11 o0 a0 (xy C) u Y)) (F := fun Z => Z) (X := []) (As := [.int (gi u1 0)]) (rest := []) (u := u0) hC (fun _ _ => rfl) (fun _ => rfl) (ctX11_answer h) wvX11_answer ml_X11_166 (ci := 9) (q0 := 0) rfl rfl rfl rfl (rmok hR0 rfl) ⟨Nat.zero_le _, Nat.zero_le _⟩ rfl (Nat.le_of_ble_eq_true rfl) dX11_told_64 (fun r_47 u_46 h => ?_)
    exact hR _ _ _ (u_46, u1) dX11_told_67 h
  by_cases c_53 : x1 = (1 : Int32)
  · have h := h.2.1 c_53
    refine g_tabIn (pc := 1) (tgt := 68) hC dX11_told_1 (by rw [c_53]; decide) (by rw [c_53]; decide) (by rw [c_53]; rfl) (by decide) ?_
    refine g_aload_n (pc := 68) hC 0 dX11_told_68 rfl rfl ?_
    refine g_aload_n (pc := 69) hC 0 dX11_told_69 rfl rfl ?_
    refine getX11_7 (pc := 70) hC (F := fun Z => Z) (X := []) (fun _ => rfl) fl_X11_46 dX11_told_70 ?_
    refine getX2_1 (pc := 73) hC (F := fun Z => (wX11 o0 a0 (xy C) u0 Z)) (X := (wX11 o0 a0 (xy C) u0 [])) (fun _ => rfl) fl_X11_179 dX11_told_73 ?_
    refine g_callV_i (pc := 76) (wd := fun (u : St) Y => (wX11 o0 a0 (xy C) u Y)) (F := fun Z => Z) (X := []) (As := [.int (gi u1 1)]) (rest := []) (u := u0) hC (fun _ _ => rfl) (fun _ => rfl) (ctX11_answer h) wvX11_answer ml_X11_166 (ci := 9) (q0 := 0) rfl rfl rfl rfl (rmok hR0 rfl) ⟨Nat.zero_le _, Nat.zero_le _⟩ rfl (Nat.le_of_ble_eq_true rfl) dX11_told_76 (fun r_51 u_50 h => ?_)
    exact hR _ _ _ (u_50, u1) dX11_told_79 h
  by_cases c_57 : x1 = (2 : Int32)
  · have h := h.2.2.1 c_57
    refine g_tabIn (pc := 1) (tgt := 80) hC dX11_told_1 (by rw [c_57]; decide) (by rw [c_57]; decide) (by rw [c_57]; rfl) (by decide) ?_
    refine g_aload_n (pc := 80) hC 0 dX11_told_80 rfl rfl ?_
    refine g_aload_n (pc := 81) hC 0 dX11_told_81 rfl rfl ?_
    refine getX11_7 (pc := 82) hC (F := fun Z => Z) (X := []) (fun _ => rfl) fl_X11_46 dX11_told_82 ?_
    refine getX2_2 (pc := 85) hC (F := fun Z => (wX11 o0 a0 (xy C) u0 Z)) (X := (wX11 o0 a0 (xy C) u0 [])) (fun _ => rfl) fl_X11_163 dX11_told_85 ?_
    refine g_callV_i (pc := 88) (wd := fun (u : St) Y => (wX11 o0 a0 (xy C) u Y)) (F := fun Z => Z) (X := []) (As := [.int (gi u1 2)]) (rest := []) (u := u0) hC (fun _ _ => rfl) (fun _ => rfl) (ctX11_answer h) wvX11_answer ml_X11_166 (ci := 9) (q0 := 0) rfl rfl rfl rfl (rmok hR0 rfl) ⟨Nat.zero_le _, Nat.zero_le _⟩ rfl (Nat.le_of_ble_eq_true rfl) dX11_told_88 (fun r_55 u_54 h => ?_)
    exact hR _ _ _ (u_54, u1) dX11_told_91 h
  by_cases c_61 : x1 = (3 : Int32)
  · have h := h.2.2.2.1 c_61
    refine g_tabIn (pc := 1) (tgt := 92) hC dX11_told_1 (by rw [c_61]; decide) (by rw [c_61]; decide) (by rw [c_61]; rfl) (by decide) ?_
    refine g_aload_n (pc := 92) hC 0 dX11_told_92 rfl rfl ?_
    refine g_aload_n (pc := 93) hC 0 dX11_told_93 rfl rfl ?_
    refine getX11_7 (pc := 94) hC (F := fun Z => Z) (X := []) (fun _ => rfl) fl_X11_46 dX11_told_94 ?_
    refine getX2_3 (pc := 97) hC (F := fun Z => (wX11 o0 a0 (xy C) u0 Z)) (X := (wX11 o0 a0 (xy C) u0 [])) (fun _ => rfl) fl_X11_182 dX11_told_97 ?_
    refine g_callV_i (pc := 100) (wd := fun (u : St) Y => (wX11 o0 a0 (xy C) u Y)) (F := fun Z => Z) (X := []) (As := [.int (gi u1 3)]) (rest := []) (u := u0) hC (fun _ _ => rfl) (fun _ => rfl) (ctX11_answer h) wvX11_answer ml_X11_166 (ci := 9) (q0 := 0) rfl rfl rfl rfl (rmok hR0 rfl) ⟨Nat.zero_le _, Nat.zero_le _⟩ rfl (Nat.le_of_ble_eq_true rfl) dX11_told_100 (fun r_59 u_58 h => ?_)
    exact hR _ _ _ (u_58, u1) dX11_told_103 h
  by_cases c_65 : x1 = (4 : Int32)
  · have h := h.2.2.2.2.1 c_65
    refine g_tabIn (pc := 1) (tgt := 104) hC dX11_told_1 (by rw [c_65]; decide) (by rw [c_65]; decide) (by rw [c_65]; rfl) (by decide) ?_
    refine g_aload_n (pc := 104) hC 0 dX11_told_104 rfl rfl ?_
    refine g_aload_n (pc := 105) hC 0 dX11_told_105 rfl rfl ?_
    refine getX11_7 (pc := 106) hC (F := fun Z => Z) (X := []) (fun _ => rfl) fl_X11_46 dX11_told_106 ?_
    refine getX2_4 (pc := 109) hC (F := fun Z => (wX11 o0 a0 (xy C) u0 Z)) (X := (wX11 o0 a0 (xy C) u0 [])) (fun _ => rfl) fl_X11_185 dX11_told_109 ?_
    refine g_callV_i (pc := 112) (wd := fun (u : St) Y => (wX11 o0 a0 (xy C) u Y)) (F := fun Z => Z) (X := []) (As := [.int (gi u1 4)]) (rest := []) (u := u0) hC (fun _ _ => rfl) (fun _ => rfl) (ctX11_answer h) wvX11_answer ml_X11_166 (ci := 9) (q0 := 0) rfl rfl rfl rfl (rmok hR0 rfl) ⟨Nat.zero_le _, Nat.zero_le _⟩ rfl (Nat.le_of_ble_eq_true rfl) dX11_told_112 (fun r_63 u_62 h => ?_)
    exact hR _ _ _ (u_62, u1) dX11_told_115 h
  by_cases c_72 : x1 = (5 : Int32)
  · have h := h.2.2.2.2.2.1 c_72
    refine g_tabIn (pc := 1) (tgt := 116) hC dX11_told_1 (by rw [c_72]; decide) (by rw [c_72]; decide) (by rw [c_72]; rfl) (by decide) ?_
    refine g_aload_n (pc := 116) hC 0 dX11_told_116 rfl rfl ?_
    refine g_aload_n (pc := 117) hC 0 dX11_told_117 rfl rfl ?_
    refine getX11_7 (pc := 118) hC (F := fun Z => Z) (X := []) (fun _ => rfl) fl_X11_46 dX11_told_118 ?_
    refine g_callV_i (pc := 121) (wd := fun (u : St) Y => (wX2 (a0 7) aH (xy C) u Y)) (F := fun Z => (wX11 o0 a0 (xy C) u0 Z)) (X := (wX11 o0 a0 (xy C) u0 [])) (As := []) (rest := [.ref o0]) (u := u1) hC (fun _ _ => rfl) (fun _ => rfl) (ctX2_standingNow h) wvX2_standingNow ml_X11_188 (ci := 1) (q0 := 0) rfl rfl rfl rfl (rmok hR0 rfl) ⟨Nat.zero_le _, Nat.zero_le _⟩ rfl (Nat.le_of_ble_eq_true rfl) dX11_told_121 (fun r_67 u_66 h => ?_)
    refine g_callV_i (pc := 124) (wd := fun (u : St) Y => (wX11 o0 a0 (xy C) u Y)) (F := fun Z => Z) (X := []) (As := [.int r_67]) (rest := []) (u := u0) hC (fun _ _ => rfl) (fun _ => rfl) (ctX11_answer h) wvX11_answer ml_X11_166 (ci := 9) (q0 := 0) rfl rfl rfl rfl (rmok hR0 rfl) ⟨Nat.zero_le _, Nat.zero_le _⟩ rfl (Nat.le_of_ble_eq_true rfl) dX11_told_124 (fun r_70 u_69 h => ?_)
    exact hR _ _ _ (u_69, u_66) dX11_told_127 h
  by_cases c_76 : x1 = (6 : Int32)
  · have h := h.2.2.2.2.2.2.1 c_76
    refine g_tabIn (pc := 1) (tgt := 128) hC dX11_told_1 (by rw [c_76]; decide) (by rw [c_76]; decide) (by rw [c_76]; rfl) (by decide) ?_
    refine g_aload_n (pc := 128) hC 0 dX11_told_128 rfl rfl ?_
    refine g_aload_n (pc := 129) hC 0 dX11_told_129 rfl rfl ?_
    refine getX11_7 (pc := 130) hC (F := fun Z => Z) (X := []) (fun _ => rfl) fl_X11_46 dX11_told_130 ?_
    refine getX2_6 (pc := 133) hC (F := fun Z => (wX11 o0 a0 (xy C) u0 Z)) (X := (wX11 o0 a0 (xy C) u0 [])) (fun _ => rfl) fl_X11_192 dX11_told_133 ?_
    refine g_callV_i (pc := 136) (wd := fun (u : St) Y => (wX11 o0 a0 (xy C) u Y)) (F := fun Z => Z) (X := []) (As := [.int (gi u1 6)]) (rest := []) (u := u0) hC (fun _ _ => rfl) (fun _ => rfl) (ctX11_answer h) wvX11_answer ml_X11_166 (ci := 9) (q0 := 0) rfl rfl rfl rfl (rmok hR0 rfl) ⟨Nat.zero_le _, Nat.zero_le _⟩ rfl (Nat.le_of_ble_eq_true rfl) dX11_told_136 (fun r_74 u_73 h => ?_)
    exact hR _ _ _ (u_73, u1) dX11_told_139 h
  by_cases c_83 : x1 = (7 : Int32)
  · have h := h.2.2.2.2.2.2.2.1 c_83
    refine g_tabIn (pc := 1) (tgt := 140) hC dX11_told_1 (by rw [c_83]; decide) (by rw [c_83]; decide) (by rw [c_83]; rfl) (by decide) ?_
    refine g_aload_n (pc := 140) hC 0 dX11_told_140 rfl rfl ?_
    refine g_aload_n (pc := 141) hC 0 dX11_told_141 rfl rfl ?_
    refine getX11_7 (pc := 142) hC (F := fun Z => Z) (X := []) (fun _ => rfl) fl_X11_46 dX11_told_142 ?_
    refine g_callV_i (pc := 145) (wd := fun (u : St) Y => (wX2 (a0 7) aH (xy C) u Y)) (F := fun Z => (wX11 o0 a0 (xy C) u0 Z)) (X := (wX11 o0 a0 (xy C) u0 [])) (As := []) (rest := [.ref o0]) (u := u1) hC (fun _ _ => rfl) (fun _ => rfl) (ctX2_allLeaves h) wvX2_allLeaves ml_X11_195 (ci := 1) (q0 := 0) rfl rfl rfl rfl (rmok hR0 rfl) ⟨Nat.zero_le _, Nat.zero_le _⟩ rfl (Nat.le_of_ble_eq_true rfl) dX11_told_145 (fun r_78 u_77 h => ?_)
    refine g_callV_i (pc := 148) (wd := fun (u : St) Y => (wX11 o0 a0 (xy C) u Y)) (F := fun Z => Z) (X := []) (As := [.int r_78]) (rest := []) (u := u0) hC (fun _ _ => rfl) (fun _ => rfl) (ctX11_answer h) wvX11_answer ml_X11_166 (ci := 9) (q0 := 0) rfl rfl rfl rfl (rmok hR0 rfl) ⟨Nat.zero_le _, Nat.zero_le _⟩ rfl (Nat.le_of_ble_eq_true rfl) dX11_told_148 (fun r_81 u_80 h => ?_)
    exact hR _ _ _ (u_80, u_77) dX11_told_151 h
  by_cases c_90 : x1 = (8 : Int32)
  · have h := h.2.2.2.2.2.2.2.2.1 c_90
    refine g_tabIn (pc := 1) (tgt := 152) hC dX11_told_1 (by rw [c_90]; decide) (by rw [c_90]; decide) (by rw [c_90]; rfl) (by decide) ?_
    refine g_aload_n (pc := 152) hC 0 dX11_told_152 rfl rfl ?_
    refine g_aload_n (pc := 153) hC 0 dX11_told_153 rfl rfl ?_
    refine getX11_7 (pc := 154) hC (F := fun Z => Z) (X := []) (fun _ => rfl) fl_X11_46 dX11_told_154 ?_
    refine g_callV_i (pc := 157) (wd := fun (u : St) Y => (wX2 (a0 7) aH (xy C) u Y)) (F := fun Z => (wX11 o0 a0 (xy C) u0 Z)) (X := (wX11 o0 a0 (xy C) u0 [])) (As := []) (rest := [.ref o0]) (u := u1) hC (fun _ _ => rfl) (fun _ => rfl) (ctX2_allOwed h) wvX2_allOwed ml_X11_198 (ci := 1) (q0 := 0) rfl rfl rfl rfl (rmok hR0 rfl) ⟨Nat.zero_le _, Nat.zero_le _⟩ rfl (Nat.le_of_ble_eq_true rfl) dX11_told_157 (fun r_85 u_84 h => ?_)
    refine g_callV_i (pc := 160) (wd := fun (u : St) Y => (wX11 o0 a0 (xy C) u Y)) (F := fun Z => Z) (X := []) (As := [.int r_85]) (rest := []) (u := u0) hC (fun _ _ => rfl) (fun _ => rfl) (ctX11_answer h) wvX11_answer ml_X11_166 (ci := 9) (q0 := 0) rfl rfl rfl rfl (rmok hR0 rfl) ⟨Nat.zero_le _, Nat.zero_le _⟩ rfl (Nat.le_of_ble_eq_true rfl) dX11_told_160 (fun r_88 u_87 h => ?_)
    exact hR _ _ _ (u_87, u_84) dX11_told_163 h
  by_cases c_97 : x1 = (9 : Int32)
  · have h := h.2.2.2.2.2.2.2.2.2.1 c_97
    refine g_tabIn (pc := 1) (tgt := 164) hC dX11_told_1 (by rw [c_97]; decide) (by rw [c_97]; decide) (by rw [c_97]; rfl) (by decide) ?_
    refine g_aload_n (pc := 164) hC 0 dX11_told_164 rfl rfl ?_
    refine g_aload_n (pc := 165) hC 0 dX11_told_165 rfl rfl ?_
    refine getX11_7 (pc := 166) hC (F := fun Z => Z) (X := []) (fun _ => rfl) fl_X11_46 dX11_told_166 ?_
    refine g_callV_i (pc := 169) (wd := fun (u : St) Y => (wX2 (a0 7) aH (xy C) u Y)) (F := fun Z => (wX11 o0 a0 (xy C) u0 Z)) (X := (wX11 o0 a0 (xy C) u0 [])) (As := []) (rest := [.ref o0]) (u := u1) hC (fun _ _ => rfl) (fun _ => rfl) (ctX2_allCash h) wvX2_allCash ml_X11_201 (ci := 1) (q0 := 0) rfl rfl rfl rfl (rmok hR0 rfl) ⟨Nat.zero_le _, Nat.zero_le _⟩ rfl (Nat.le_of_ble_eq_true rfl) dX11_told_169 (fun r_92 u_91 h => ?_)
    refine g_callV_i (pc := 172) (wd := fun (u : St) Y => (wX11 o0 a0 (xy C) u Y)) (F := fun Z => Z) (X := []) (As := [.int r_92]) (rest := []) (u := u0) hC (fun _ _ => rfl) (fun _ => rfl) (ctX11_answer h) wvX11_answer ml_X11_166 (ci := 9) (q0 := 0) rfl rfl rfl rfl (rmok hR0 rfl) ⟨Nat.zero_le _, Nat.zero_le _⟩ rfl (Nat.le_of_ble_eq_true rfl) dX11_told_172 (fun r_95 u_94 h => ?_)
    exact hR _ _ _ (u_94, u_91) dX11_told_175 h
  have h := h.2.2.2.2.2.2.2.2.2.2 c_49 c_53 c_57 c_61 c_65 c_72 c_76 c_83 c_90 c_97
  refine g_tabOut (pc := 1) (tgt := 176) hC dX11_told_1 (tab_out x1 (0) 10 (9) rfl (tab_s c_49 (tab_s c_53 (tab_s c_57 (tab_s c_61 (tab_s c_65 (tab_s c_72 (tab_s c_76 (tab_s c_83 (tab_s c_90 (tab_s c_97 tab_0))))))))))) (by decide) ?_
  refine g_aload_n (pc := 176) hC 0 dX11_told_176 rfl rfl ?_
  refine g_iconst (pc := 177) (v := 1) hC dX11_told_177 (by decide) ?_
  refine g_callV_i (pc := 178) (wd := fun (u : St) Y => (wX11 o0 a0 (xy C) u Y)) (F := fun Z => Z) (X := []) (As := [.int (1 : Int32)]) (rest := []) (u := u0) hC (fun _ _ => rfl) (fun _ => rfl) (ctX11_refuse h) wvX11_refuse ml_X11_127 (ci := 9) (q0 := 0) rfl rfl rfl rfl (rmok hR0 rfl) ⟨Nat.zero_le _, Nat.zero_le _⟩ rfl (Nat.le_of_ble_eq_true rfl) dX11_told_178 (fun r_99 u_98 h => ?_)
  exact hR _ _ _ (u_98, u1) dX11_told_181 h
theorem ctX11_told {l : Launch} {D : va_G} {cy : Nat → ClassId} {kd : Nat → Nat} {o0 : Nat} {a0 : Nat → Nat} {aH : Nat → Nat} {x1 : Int32} {u0 : St} {u1 : St} {post : Int32 → St → St → Prop} (h : qX11_told x1 u0 u1 post) : CtI l D cy kd yX11_told cX11_told 2 4 .int [.ref o0, .int x1] (fun u : St × St => (wX11 o0 a0 cy u.1 (wX2 (a0 7) aH cy u.2 []))) (u0, u1) (fun r u => post r u.1 u.2) := met_i (by decide) (Nat.le_of_ble_eq_true rfl) (fun C e1 e2 e3 e4 e5 hC hR => by subst e1 e2 e3 e4; exact kX11_told hC e5 hR h)
theorem dX11_stone_0 : decode cX11_stone 0 = .ok (.aload_n 0, 1) := by decide +kernel
theorem dX11_stone_1 : decode cX11_stone 1 = .ok (.getfield 46, 3) := by decide +kernel
theorem dX11_stone_4 : decode cX11_stone 4 = .ok (.iload_n 1, 1) := by decide +kernel
theorem dX11_stone_5 : decode cX11_stone 5 = .ok (.invokevirtual 204, 3) := by decide +kernel
theorem dX11_stone_8 : decode cX11_stone 8 = .ok (.ifCond .ne 9, 3) := by decide +kernel
theorem dX11_stone_11 : decode cX11_stone 11 = .ok (.aload_n 0, 1) := by decide +kernel
theorem dX11_stone_12 : decode cX11_stone 12 = .ok (.iconst 1, 1) := by decide +kernel
theorem dX11_stone_13 : decode cX11_stone 13 = .ok (.invokevirtual 127, 3) := by decide +kernel
theorem dX11_stone_16 : decode cX11_stone 16 = .ok (.ireturn, 1) := by decide +kernel
theorem dX11_stone_17 : decode cX11_stone 17 = .ok (.iload_n 2, 1) := by decide +kernel
theorem dX11_stone_18 : decode cX11_stone 18 = .ok (.tableswitch 110 0 4 #[34, 48, 62, 76, 89], 34) := by decide +kernel
theorem dX11_stone_52 : decode cX11_stone 52 = .ok (.aload_n 0, 1) := by decide +kernel
theorem dX11_stone_53 : decode cX11_stone 53 = .ok (.aload_n 0, 1) := by decide +kernel
theorem dX11_stone_54 : decode cX11_stone 54 = .ok (.getfield 46, 3) := by decide +kernel
theorem dX11_stone_57 : decode cX11_stone 57 = .ok (.getfield 207, 3) := by decide +kernel
theorem dX11_stone_60 : decode cX11_stone 60 = .ok (.iload_n 1, 1) := by decide +kernel
theorem dX11_stone_61 : decode cX11_stone 61 = .ok (.iaload, 1) := by decide +kernel
theorem dX11_stone_62 : decode cX11_stone 62 = .ok (.invokevirtual 166, 3) := by decide +kernel
theorem dX11_stone_65 : decode cX11_stone 65 = .ok (.ireturn, 1) := by decide +kernel
theorem dX11_stone_66 : decode cX11_stone 66 = .ok (.aload_n 0, 1) := by decide +kernel
theorem dX11_stone_67 : decode cX11_stone 67 = .ok (.aload_n 0, 1) := by decide +kernel
theorem dX11_stone_68 : decode cX11_stone 68 = .ok (.getfield 46, 3) := by decide +kernel
theorem dX11_stone_71 : decode cX11_stone 71 = .ok (.getfield 210, 3) := by decide +kernel
theorem dX11_stone_74 : decode cX11_stone 74 = .ok (.iload_n 1, 1) := by decide +kernel
theorem dX11_stone_75 : decode cX11_stone 75 = .ok (.iaload, 1) := by decide +kernel
theorem dX11_stone_76 : decode cX11_stone 76 = .ok (.invokevirtual 166, 3) := by decide +kernel
theorem dX11_stone_79 : decode cX11_stone 79 = .ok (.ireturn, 1) := by decide +kernel
theorem dX11_stone_80 : decode cX11_stone 80 = .ok (.aload_n 0, 1) := by decide +kernel
theorem dX11_stone_81 : decode cX11_stone 81 = .ok (.aload_n 0, 1) := by decide +kernel
theorem dX11_stone_82 : decode cX11_stone 82 = .ok (.getfield 46, 3) := by decide +kernel
theorem dX11_stone_85 : decode cX11_stone 85 = .ok (.getfield 213, 3) := by decide +kernel
theorem dX11_stone_88 : decode cX11_stone 88 = .ok (.iload_n 1, 1) := by decide +kernel
theorem dX11_stone_89 : decode cX11_stone 89 = .ok (.iaload, 1) := by decide +kernel
theorem dX11_stone_90 : decode cX11_stone 90 = .ok (.invokevirtual 166, 3) := by decide +kernel
theorem dX11_stone_93 : decode cX11_stone 93 = .ok (.ireturn, 1) := by decide +kernel
theorem dX11_stone_94 : decode cX11_stone 94 = .ok (.aload_n 0, 1) := by decide +kernel
theorem dX11_stone_95 : decode cX11_stone 95 = .ok (.aload_n 0, 1) := by decide +kernel
theorem dX11_stone_96 : decode cX11_stone 96 = .ok (.getfield 46, 3) := by decide +kernel
theorem dX11_stone_99 : decode cX11_stone 99 = .ok (.iload_n 1, 1) := by decide +kernel
theorem dX11_stone_100 : decode cX11_stone 100 = .ok (.invokevirtual 216, 3) := by decide +kernel
theorem dX11_stone_103 : decode cX11_stone 103 = .ok (.invokevirtual 166, 3) := by decide +kernel
theorem dX11_stone_106 : decode cX11_stone 106 = .ok (.ireturn, 1) := by decide +kernel
theorem dX11_stone_107 : decode cX11_stone 107 = .ok (.aload_n 0, 1) := by decide +kernel
theorem dX11_stone_108 : decode cX11_stone 108 = .ok (.aload_n 0, 1) := by decide +kernel
theorem dX11_stone_109 : decode cX11_stone 109 = .ok (.getfield 46, 3) := by decide +kernel
theorem dX11_stone_112 : decode cX11_stone 112 = .ok (.iload_n 1, 1) := by decide +kernel
theorem dX11_stone_113 : decode cX11_stone 113 = .ok (.invokevirtual 219, 3) := by decide +kernel
theorem dX11_stone_116 : decode cX11_stone 116 = .ok (.ifCond .eq 7, 3) := by decide +kernel
theorem dX11_stone_119 : decode cX11_stone 119 = .ok (.iconst 0, 1) := by decide +kernel
theorem dX11_stone_120 : decode cX11_stone 120 = .ok (.goto 4, 3) := by decide +kernel
theorem dX11_stone_123 : decode cX11_stone 123 = .ok (.iconst 1, 1) := by decide +kernel
theorem dX11_stone_124 : decode cX11_stone 124 = .ok (.invokevirtual 166, 3) := by decide +kernel
theorem dX11_stone_127 : decode cX11_stone 127 = .ok (.ireturn, 1) := by decide +kernel
theorem dX11_stone_128 : decode cX11_stone 128 = .ok (.aload_n 0, 1) := by decide +kernel
theorem dX11_stone_129 : decode cX11_stone 129 = .ok (.iconst 1, 1) := by decide +kernel
theorem dX11_stone_130 : decode cX11_stone 130 = .ok (.invokevirtual 127, 3) := by decide +kernel
theorem dX11_stone_133 : decode cX11_stone 133 = .ok (.ireturn, 1) := by decide +kernel
def qX11_stone_b124   (post : Int32 → St → St → Prop)  (s0 : Int32) (u0 : St) (u1 : St) : Prop := qX11_answer s0 u0 (fun r_32 u_31 => post r_32 u_31 u1)
set_option maxRecDepth 100000 in
set_option maxHeartbeats 4000000 in
theorem kX11_stone_b124 {C : Cx} {o0 : Nat} {a0 : Nat → Nat} {aH : Nat → Nat} (hC : Fx C cX11_stone 3 RX11) (hR0 : xR C = rm 3) {post : Int32 → St → St → Prop} (hR : RI C cX11_stone 3 (fun u : St × St => (wX11 o0 a0 (xy C) u.1 (wX2 (a0 7) aH (xy C) u.2 []))) (fun r u => post r u.1 u.2))  {s0 : Int32} {u0 : St} {u1 : St} (h : qX11_stone_b124 post s0 u0 u1) : G C 0 0 3 (wX11 o0 a0 (xy C) u0 (wX2 (a0 7) aH (xy C) u1 [])) 124 [] [.int s0, .ref o0] := by
  refine g_callV_i (pc := 124) (wd := fun (u : St) Y => (wX11 o0 a0 (xy C) u Y)) (F := fun Z => Z) (X := []) (As := [.int s0]) (rest := []) (u := u0) hC (fun _ _ => rfl) (fun _ => rfl) (ctX11_answer h) wvX11_answer ml_X11_166 (ci := 9) (q0 := 0) rfl rfl rfl rfl (rmok hR0 rfl) ⟨Nat.zero_le _, Nat.zero_le _⟩ rfl (Nat.le_of_ble_eq_true rfl) dX11_stone_124 (fun r_32 u_31 h => ?_)
  exact hR _ _ _ (u_31, u1) dX11_stone_127 h
def qX11_stone  (x1 : Int32) (x2 : Int32) (u0 : St) (u1 : St) (post : Int32 → St → St → Prop) : Prop := qX2_isStone x1 u1 (fun r_35 u_34 => ((¬ r_35 = 0 → ((x2 = (0 : Int32) → (vp_in x1 8 ∧ qX11_answer (ga u_34 8 (x1).toNatClampNeg) u0 (fun r_39 u_38 => post r_39 u_38 u_34))) ∧ ((x2 = (1 : Int32) → (vp_in x1 8 ∧ qX11_answer (ga u_34 9 (x1).toNatClampNeg) u0 (fun r_43 u_42 => post r_43 u_42 u_34))) ∧ ((x2 = (2 : Int32) → (vp_in x1 8 ∧ qX11_answer (ga u_34 10 (x1).toNatClampNeg) u0 (fun r_47 u_46 => post r_47 u_46 u_34))) ∧ ((x2 = (3 : Int32) → qX2_gripAt x1 u_34 (fun r_51 u_50 => qX11_answer r_51 u0 (fun r_54 u_53 => post r_54 u_53 u_50))) ∧ ((x2 = (4 : Int32) → qX2_hasFallen x1 u_34 (fun r_58 u_57 => ((r_58 = 0 → qX11_stone_b124 post (1 : Int32) u0 u_57) ∧ (¬ r_58 = 0 → qX11_stone_b124 post (0 : Int32) u0 u_57)))) ∧ (¬ x2 = (0 : Int32) → ¬ x2 = (1 : Int32) → ¬ x2 = (2 : Int32) → ¬ x2 = (3 : Int32) → ¬ x2 = (4 : Int32) → qX11_refuse (1 : Int32) u0 (fun r_63 u_62 => post r_63 u_62 u_34)))))))) ∧ (r_35 = 0 → qX11_refuse (1 : Int32) u0 (fun r_66 u_65 => post r_66 u_65 u_34))))
set_option maxRecDepth 100000 in
set_option maxHeartbeats 4000000 in
theorem kX11_stone {C : Cx} {o0 : Nat} {a0 : Nat → Nat} {aH : Nat → Nat} (hC : Fx C cX11_stone 3 RX11) (hR0 : xR C = rm 3) {post : Int32 → St → St → Prop} (hR : RI C cX11_stone 3 (fun u : St × St => (wX11 o0 a0 (xy C) u.1 (wX2 (a0 7) aH (xy C) u.2 []))) (fun r u => post r u.1 u.2)) {x1 : Int32} {x2 : Int32} {u0 : St} {u1 : St} (h : qX11_stone  x1 x2 u0 u1 post) : G C 0 0 3 (wX11 o0 a0 (xy C) u0 (wX2 (a0 7) aH (xy C) u1 [])) 0 [(0, .ref o0), (1, .int x1), (2, .int x2)] [] := by
  refine g_aload_n (pc := 0) hC 0 dX11_stone_0 rfl rfl ?_
  refine getX11_7 (pc := 1) hC (F := fun Z => Z) (X := []) (fun _ => rfl) fl_X11_46 dX11_stone_1 ?_
  refine g_iload_n (pc := 4) hC 1 dX11_stone_4 rfl rfl ?_
  refine g_callV_i (pc := 5) (wd := fun (u : St) Y => (wX2 (a0 7) aH (xy C) u Y)) (F := fun Z => (wX11 o0 a0 (xy C) u0 Z)) (X := (wX11 o0 a0 (xy C) u0 [])) (As := [.int x1]) (rest := []) (u := u1) hC (fun _ _ => rfl) (fun _ => rfl) (ctX2_isStone h) wvX2_isStone ml_X11_204 (ci := 1) (q0 := 0) rfl rfl rfl rfl (rmok hR0 rfl) ⟨Nat.zero_le _, Nat.zero_le _⟩ rfl (Nat.le_of_ble_eq_true rfl) dX11_stone_5 (fun r_35 u_34 h => ?_)
  refine g_if_ne (pc := 8) (tgt := 17) hC dX11_stone_8 (by decide) (fun c_37 => ?_) (fun c_37 => ?_)
  · have h := h.1 c_37
    refine g_iload_n (pc := 17) hC 2 dX11_stone_17 rfl rfl ?_
    by_cases c_41 : x2 = (0 : Int32)
    · have h := h.1 c_41
      refine g_tabIn (pc := 18) (tgt := 52) hC dX11_stone_18 (by rw [c_41]; decide) (by rw [c_41]; decide) (by rw [c_41]; rfl) (by decide) ?_
      refine g_aload_n (pc := 52) hC 0 dX11_stone_52 rfl rfl ?_
      refine g_aload_n (pc := 53) hC 0 dX11_stone_53 rfl rfl ?_
      refine getX11_7 (pc := 54) hC (F := fun Z => Z) (X := []) (fun _ => rfl) fl_X11_46 dX11_stone_54 ?_
      refine getX2_8 (pc := 57) hC (F := fun Z => (wX11 o0 a0 (xy C) u0 Z)) (X := (wX11 o0 a0 (xy C) u0 [])) (fun _ => rfl) fl_X11_207 dX11_stone_57 ?_
      refine g_iload_n (pc := 60) hC 1 dX11_stone_60 rfl rfl ?_
      refine aldX2_8 (pc := 61) hC (F := fun Z => (wX11 o0 a0 (xy C) u0 Z)) (X := (wX11 o0 a0 (xy C) u0 [])) (fun _ => rfl) h.1 dX11_stone_61 ?_
      have h := h.2
      refine g_callV_i (pc := 62) (wd := fun (u : St) Y => (wX11 o0 a0 (xy C) u Y)) (F := fun Z => Z) (X := []) (As := [.int (ga u_34 8 (x1).toNatClampNeg)]) (rest := []) (u := u0) hC (fun _ _ => rfl) (fun _ => rfl) (ctX11_answer h) wvX11_answer ml_X11_166 (ci := 9) (q0 := 0) rfl rfl rfl rfl (rmok hR0 rfl) ⟨Nat.zero_le _, Nat.zero_le _⟩ rfl (Nat.le_of_ble_eq_true rfl) dX11_stone_62 (fun r_39 u_38 h => ?_)
      exact hR _ _ _ (u_38, u_34) dX11_stone_65 h
    by_cases c_45 : x2 = (1 : Int32)
    · have h := h.2.1 c_45
      refine g_tabIn (pc := 18) (tgt := 66) hC dX11_stone_18 (by rw [c_45]; decide) (by rw [c_45]; decide) (by rw [c_45]; rfl) (by decide) ?_
      refine g_aload_n (pc := 66) hC 0 dX11_stone_66 rfl rfl ?_
      refine g_aload_n (pc := 67) hC 0 dX11_stone_67 rfl rfl ?_
      refine getX11_7 (pc := 68) hC (F := fun Z => Z) (X := []) (fun _ => rfl) fl_X11_46 dX11_stone_68 ?_
      refine getX2_9 (pc := 71) hC (F := fun Z => (wX11 o0 a0 (xy C) u0 Z)) (X := (wX11 o0 a0 (xy C) u0 [])) (fun _ => rfl) fl_X11_210 dX11_stone_71 ?_
      refine g_iload_n (pc := 74) hC 1 dX11_stone_74 rfl rfl ?_
      refine aldX2_9 (pc := 75) hC (F := fun Z => (wX11 o0 a0 (xy C) u0 Z)) (X := (wX11 o0 a0 (xy C) u0 [])) (fun _ => rfl) h.1 dX11_stone_75 ?_
      have h := h.2
      refine g_callV_i (pc := 76) (wd := fun (u : St) Y => (wX11 o0 a0 (xy C) u Y)) (F := fun Z => Z) (X := []) (As := [.int (ga u_34 9 (x1).toNatClampNeg)]) (rest := []) (u := u0) hC (fun _ _ => rfl) (fun _ => rfl) (ctX11_answer h) wvX11_answer ml_X11_166 (ci := 9) (q0 := 0) rfl rfl rfl rfl (rmok hR0 rfl) ⟨Nat.zero_le _, Nat.zero_le _⟩ rfl (Nat.le_of_ble_eq_true rfl) dX11_stone_76 (fun r_43 u_42 h => ?_)
      exact hR _ _ _ (u_42, u_34) dX11_stone_79 h
    by_cases c_49 : x2 = (2 : Int32)
    · have h := h.2.2.1 c_49
      refine g_tabIn (pc := 18) (tgt := 80) hC dX11_stone_18 (by rw [c_49]; decide) (by rw [c_49]; decide) (by rw [c_49]; rfl) (by decide) ?_
      refine g_aload_n (pc := 80) hC 0 dX11_stone_80 rfl rfl ?_
      refine g_aload_n (pc := 81) hC 0 dX11_stone_81 rfl rfl ?_
      refine getX11_7 (pc := 82) hC (F := fun Z => Z) (X := []) (fun _ => rfl) fl_X11_46 dX11_stone_82 ?_
      refine getX2_10 (pc := 85) hC (F := fun Z => (wX11 o0 a0 (xy C) u0 Z)) (X := (wX11 o0 a0 (xy C) u0 [])) (fun _ => rfl) fl_X11_213 dX11_stone_85 ?_
      refine g_iload_n (pc := 88) hC 1 dX11_stone_88 rfl rfl ?_
      refine aldX2_10 (pc := 89) hC (F := fun Z => (wX11 o0 a0 (xy C) u0 Z)) (X := (wX11 o0 a0 (xy C) u0 [])) (fun _ => rfl) h.1 dX11_stone_89 ?_
      have h := h.2
      refine g_callV_i (pc := 90) (wd := fun (u : St) Y => (wX11 o0 a0 (xy C) u Y)) (F := fun Z => Z) (X := []) (As := [.int (ga u_34 10 (x1).toNatClampNeg)]) (rest := []) (u := u0) hC (fun _ _ => rfl) (fun _ => rfl) (ctX11_answer h) wvX11_answer ml_X11_166 (ci := 9) (q0 := 0) rfl rfl rfl rfl (rmok hR0 rfl) ⟨Nat.zero_le _, Nat.zero_le _⟩ rfl (Nat.le_of_ble_eq_true rfl) dX11_stone_90 (fun r_47 u_46 h => ?_)
      exact hR _ _ _ (u_46, u_34) dX11_stone_93 h
    by_cases c_56 : x2 = (3 : Int32)
    · have h := h.2.2.2.1 c_56
      refine g_tabIn (pc := 18) (tgt := 94) hC dX11_stone_18 (by rw [c_56]; decide) (by rw [c_56]; decide) (by rw [c_56]; rfl) (by decide) ?_
      refine g_aload_n (pc := 94) hC 0 dX11_stone_94 rfl rfl ?_
      refine g_aload_n (pc := 95) hC 0 dX11_stone_95 rfl rfl ?_
      refine getX11_7 (pc := 96) hC (F := fun Z => Z) (X := []) (fun _ => rfl) fl_X11_46 dX11_stone_96 ?_
      refine g_iload_n (pc := 99) hC 1 dX11_stone_99 rfl rfl ?_
      refine g_callV_i (pc := 100) (wd := fun (u : St) Y => (wX2 (a0 7) aH (xy C) u Y)) (F := fun Z => (wX11 o0 a0 (xy C) u0 Z)) (X := (wX11 o0 a0 (xy C) u0 [])) (As := [.int x1]) (rest := [.ref o0]) (u := u_34) hC (fun _ _ => rfl) (fun _ => rfl) (ctX2_gripAt h) wvX2_gripAt ml_X11_216 (ci := 1) (q0 := 0) rfl rfl rfl rfl (rmok hR0 rfl) ⟨Nat.zero_le _, Nat.zero_le _⟩ rfl (Nat.le_of_ble_eq_true rfl) dX11_stone_100 (fun r_51 u_50 h => ?_)
      refine g_callV_i (pc := 103) (wd := fun (u : St) Y => (wX11 o0 a0 (xy C) u Y)) (F := fun Z => Z) (X := []) (As := [.int r_51]) (rest := []) (u := u0) hC (fun _ _ => rfl) (fun _ => rfl) (ctX11_answer h) wvX11_answer ml_X11_166 (ci := 9) (q0 := 0) rfl rfl rfl rfl (rmok hR0 rfl) ⟨Nat.zero_le _, Nat.zero_le _⟩ rfl (Nat.le_of_ble_eq_true rfl) dX11_stone_103 (fun r_54 u_53 h => ?_)
      exact hR _ _ _ (u_53, u_50) dX11_stone_106 h
    by_cases c_61 : x2 = (4 : Int32)
    · have h := h.2.2.2.2.1 c_61
      refine g_tabIn (pc := 18) (tgt := 107) hC dX11_stone_18 (by rw [c_61]; decide) (by rw [c_61]; decide) (by rw [c_61]; rfl) (by decide) ?_
      refine g_aload_n (pc := 107) hC 0 dX11_stone_107 rfl rfl ?_
      refine g_aload_n (pc := 108) hC 0 dX11_stone_108 rfl rfl ?_
      refine getX11_7 (pc := 109) hC (F := fun Z => Z) (X := []) (fun _ => rfl) fl_X11_46 dX11_stone_109 ?_
      refine g_iload_n (pc := 112) hC 1 dX11_stone_112 rfl rfl ?_
      refine g_callV_i (pc := 113) (wd := fun (u : St) Y => (wX2 (a0 7) aH (xy C) u Y)) (F := fun Z => (wX11 o0 a0 (xy C) u0 Z)) (X := (wX11 o0 a0 (xy C) u0 [])) (As := [.int x1]) (rest := [.ref o0]) (u := u_34) hC (fun _ _ => rfl) (fun _ => rfl) (ctX2_hasFallen h) wvX2_hasFallen ml_X11_219 (ci := 1) (q0 := 0) rfl rfl rfl rfl (rmok hR0 rfl) ⟨Nat.zero_le _, Nat.zero_le _⟩ rfl (Nat.le_of_ble_eq_true rfl) dX11_stone_113 (fun r_58 u_57 h => ?_)
      refine g_if_eq (pc := 116) (tgt := 123) hC dX11_stone_116 (by decide) (fun c_60 => ?_) (fun c_60 => ?_)
      · have h := h.1 c_60
        refine g_iconst (pc := 123) (v := 1) hC dX11_stone_123 (by decide) ?_
        refine g_sub (lv' := []) [] rfl ?_
        exact kX11_stone_b124 hC hR0 hR   h
      · have h := h.2 c_60
        refine g_iconst (pc := 119) (v := 0) hC dX11_stone_119 (by decide) ?_
        refine g_goto (pc := 120) (tgt := 124) hC dX11_stone_120 (by decide) ?_
        refine g_sub (lv' := []) [] rfl ?_
        exact kX11_stone_b124 hC hR0 hR   h
    have h := h.2.2.2.2.2 c_41 c_45 c_49 c_56 c_61
    refine g_tabOut (pc := 18) (tgt := 128) hC dX11_stone_18 (tab_out x2 (0) 5 (4) rfl (tab_s c_41 (tab_s c_45 (tab_s c_49 (tab_s c_56 (tab_s c_61 tab_0)))))) (by decide) ?_
    refine g_aload_n (pc := 128) hC 0 dX11_stone_128 rfl rfl ?_
    refine g_iconst (pc := 129) (v := 1) hC dX11_stone_129 (by decide) ?_
    refine g_callV_i (pc := 130) (wd := fun (u : St) Y => (wX11 o0 a0 (xy C) u Y)) (F := fun Z => Z) (X := []) (As := [.int (1 : Int32)]) (rest := []) (u := u0) hC (fun _ _ => rfl) (fun _ => rfl) (ctX11_refuse h) wvX11_refuse ml_X11_127 (ci := 9) (q0 := 0) rfl rfl rfl rfl (rmok hR0 rfl) ⟨Nat.zero_le _, Nat.zero_le _⟩ rfl (Nat.le_of_ble_eq_true rfl) dX11_stone_130 (fun r_63 u_62 h => ?_)
    exact hR _ _ _ (u_62, u_34) dX11_stone_133 h
  · have h := h.2 c_37
    refine g_aload_n (pc := 11) hC 0 dX11_stone_11 rfl rfl ?_
    refine g_iconst (pc := 12) (v := 1) hC dX11_stone_12 (by decide) ?_
    refine g_callV_i (pc := 13) (wd := fun (u : St) Y => (wX11 o0 a0 (xy C) u Y)) (F := fun Z => Z) (X := []) (As := [.int (1 : Int32)]) (rest := []) (u := u0) hC (fun _ _ => rfl) (fun _ => rfl) (ctX11_refuse h) wvX11_refuse ml_X11_127 (ci := 9) (q0 := 0) rfl rfl rfl rfl (rmok hR0 rfl) ⟨Nat.zero_le _, Nat.zero_le _⟩ rfl (Nat.le_of_ble_eq_true rfl) dX11_stone_13 (fun r_66 u_65 h => ?_)
    exact hR _ _ _ (u_65, u_34) dX11_stone_16 h
theorem ctX11_stone {l : Launch} {D : va_G} {cy : Nat → ClassId} {kd : Nat → Nat} {o0 : Nat} {a0 : Nat → Nat} {aH : Nat → Nat} {x1 : Int32} {x2 : Int32} {u0 : St} {u1 : St} {post : Int32 → St → St → Prop} (h : qX11_stone x1 x2 u0 u1 post) : CtI l D cy kd yX11_stone cX11_stone 3 3 .int [.ref o0, .int x1, .int x2] (fun u : St × St => (wX11 o0 a0 cy u.1 (wX2 (a0 7) aH cy u.2 []))) (u0, u1) (fun r u => post r u.1 u.2) := met_i (by decide) (Nat.le_of_ble_eq_true rfl) (fun C e1 e2 e3 e4 e5 hC hR => by subst e1 e2 e3 e4; exact kX11_stone hC e5 hR h)
theorem dX11_debt_0 : decode cX11_debt 0 = .ok (.aload_n 0, 1) := by decide +kernel
theorem dX11_debt_1 : decode cX11_debt 1 = .ok (.getfield 46, 3) := by decide +kernel
theorem dX11_debt_4 : decode cX11_debt 4 = .ok (.iload_n 1, 1) := by decide +kernel
theorem dX11_debt_5 : decode cX11_debt 5 = .ok (.invokevirtual 222, 3) := by decide +kernel
theorem dX11_debt_8 : decode cX11_debt 8 = .ok (.ifCond .ne 9, 3) := by decide +kernel
theorem dX11_debt_11 : decode cX11_debt 11 = .ok (.aload_n 0, 1) := by decide +kernel
theorem dX11_debt_12 : decode cX11_debt 12 = .ok (.iconst 1, 1) := by decide +kernel
theorem dX11_debt_13 : decode cX11_debt 13 = .ok (.invokevirtual 127, 3) := by decide +kernel
theorem dX11_debt_16 : decode cX11_debt 16 = .ok (.ireturn, 1) := by decide +kernel
theorem dX11_debt_17 : decode cX11_debt 17 = .ok (.iload_n 2, 1) := by decide +kernel
theorem dX11_debt_18 : decode cX11_debt 18 = .ok (.tableswitch 167 0 7 #[46, 60, 74, 88, 102, 126, 140, 154], 46) := by decide +kernel
theorem dX11_debt_64 : decode cX11_debt 64 = .ok (.aload_n 0, 1) := by decide +kernel
theorem dX11_debt_65 : decode cX11_debt 65 = .ok (.aload_n 0, 1) := by decide +kernel
theorem dX11_debt_66 : decode cX11_debt 66 = .ok (.getfield 46, 3) := by decide +kernel
theorem dX11_debt_69 : decode cX11_debt 69 = .ok (.getfield 225, 3) := by decide +kernel
theorem dX11_debt_72 : decode cX11_debt 72 = .ok (.iload_n 1, 1) := by decide +kernel
theorem dX11_debt_73 : decode cX11_debt 73 = .ok (.iaload, 1) := by decide +kernel
theorem dX11_debt_74 : decode cX11_debt 74 = .ok (.invokevirtual 166, 3) := by decide +kernel
theorem dX11_debt_77 : decode cX11_debt 77 = .ok (.ireturn, 1) := by decide +kernel
theorem dX11_debt_78 : decode cX11_debt 78 = .ok (.aload_n 0, 1) := by decide +kernel
theorem dX11_debt_79 : decode cX11_debt 79 = .ok (.aload_n 0, 1) := by decide +kernel
theorem dX11_debt_80 : decode cX11_debt 80 = .ok (.getfield 46, 3) := by decide +kernel
theorem dX11_debt_83 : decode cX11_debt 83 = .ok (.getfield 228, 3) := by decide +kernel
theorem dX11_debt_86 : decode cX11_debt 86 = .ok (.iload_n 1, 1) := by decide +kernel
theorem dX11_debt_87 : decode cX11_debt 87 = .ok (.iaload, 1) := by decide +kernel
theorem dX11_debt_88 : decode cX11_debt 88 = .ok (.invokevirtual 166, 3) := by decide +kernel
theorem dX11_debt_91 : decode cX11_debt 91 = .ok (.ireturn, 1) := by decide +kernel
theorem dX11_debt_92 : decode cX11_debt 92 = .ok (.aload_n 0, 1) := by decide +kernel
theorem dX11_debt_93 : decode cX11_debt 93 = .ok (.aload_n 0, 1) := by decide +kernel
theorem dX11_debt_94 : decode cX11_debt 94 = .ok (.getfield 46, 3) := by decide +kernel
theorem dX11_debt_97 : decode cX11_debt 97 = .ok (.getfield 231, 3) := by decide +kernel
theorem dX11_debt_100 : decode cX11_debt 100 = .ok (.iload_n 1, 1) := by decide +kernel
theorem dX11_debt_101 : decode cX11_debt 101 = .ok (.iaload, 1) := by decide +kernel
theorem dX11_debt_102 : decode cX11_debt 102 = .ok (.invokevirtual 166, 3) := by decide +kernel
theorem dX11_debt_105 : decode cX11_debt 105 = .ok (.ireturn, 1) := by decide +kernel
theorem dX11_debt_106 : decode cX11_debt 106 = .ok (.aload_n 0, 1) := by decide +kernel
theorem dX11_debt_107 : decode cX11_debt 107 = .ok (.aload_n 0, 1) := by decide +kernel
theorem dX11_debt_108 : decode cX11_debt 108 = .ok (.getfield 46, 3) := by decide +kernel
theorem dX11_debt_111 : decode cX11_debt 111 = .ok (.getfield 234, 3) := by decide +kernel
theorem dX11_debt_114 : decode cX11_debt 114 = .ok (.iload_n 1, 1) := by decide +kernel
theorem dX11_debt_115 : decode cX11_debt 115 = .ok (.iaload, 1) := by decide +kernel
theorem dX11_debt_116 : decode cX11_debt 116 = .ok (.invokevirtual 166, 3) := by decide +kernel
theorem dX11_debt_119 : decode cX11_debt 119 = .ok (.ireturn, 1) := by decide +kernel
theorem dX11_debt_120 : decode cX11_debt 120 = .ok (.aload_n 0, 1) := by decide +kernel
theorem dX11_debt_121 : decode cX11_debt 121 = .ok (.aload_n 0, 1) := by decide +kernel
theorem dX11_debt_122 : decode cX11_debt 122 = .ok (.getfield 46, 3) := by decide +kernel
theorem dX11_debt_125 : decode cX11_debt 125 = .ok (.getfield 237, 3) := by decide +kernel
theorem dX11_debt_128 : decode cX11_debt 128 = .ok (.iload_n 1, 1) := by decide +kernel
theorem dX11_debt_129 : decode cX11_debt 129 = .ok (.invokestatic 240, 3) := by decide +kernel
theorem dX11_debt_132 : decode cX11_debt 132 = .ok (.ifCond .eq 7, 3) := by decide +kernel
theorem dX11_debt_135 : decode cX11_debt 135 = .ok (.iconst 1, 1) := by decide +kernel
theorem dX11_debt_136 : decode cX11_debt 136 = .ok (.goto 4, 3) := by decide +kernel
theorem dX11_debt_139 : decode cX11_debt 139 = .ok (.iconst 0, 1) := by decide +kernel
theorem dX11_debt_140 : decode cX11_debt 140 = .ok (.invokevirtual 166, 3) := by decide +kernel
theorem dX11_debt_143 : decode cX11_debt 143 = .ok (.ireturn, 1) := by decide +kernel
theorem dX11_debt_144 : decode cX11_debt 144 = .ok (.aload_n 0, 1) := by decide +kernel
theorem dX11_debt_145 : decode cX11_debt 145 = .ok (.aload_n 0, 1) := by decide +kernel
theorem dX11_debt_146 : decode cX11_debt 146 = .ok (.getfield 46, 3) := by decide +kernel
theorem dX11_debt_149 : decode cX11_debt 149 = .ok (.getfield 244, 3) := by decide +kernel
theorem dX11_debt_152 : decode cX11_debt 152 = .ok (.iload_n 1, 1) := by decide +kernel
theorem dX11_debt_153 : decode cX11_debt 153 = .ok (.iaload, 1) := by decide +kernel
theorem dX11_debt_154 : decode cX11_debt 154 = .ok (.invokevirtual 166, 3) := by decide +kernel
theorem dX11_debt_157 : decode cX11_debt 157 = .ok (.ireturn, 1) := by decide +kernel
theorem dX11_debt_158 : decode cX11_debt 158 = .ok (.aload_n 0, 1) := by decide +kernel
theorem dX11_debt_159 : decode cX11_debt 159 = .ok (.aload_n 0, 1) := by decide +kernel
theorem dX11_debt_160 : decode cX11_debt 160 = .ok (.getfield 46, 3) := by decide +kernel
theorem dX11_debt_163 : decode cX11_debt 163 = .ok (.getfield 246, 3) := by decide +kernel
theorem dX11_debt_166 : decode cX11_debt 166 = .ok (.iload_n 1, 1) := by decide +kernel
theorem dX11_debt_167 : decode cX11_debt 167 = .ok (.iaload, 1) := by decide +kernel
theorem dX11_debt_168 : decode cX11_debt 168 = .ok (.invokevirtual 166, 3) := by decide +kernel
theorem dX11_debt_171 : decode cX11_debt 171 = .ok (.ireturn, 1) := by decide +kernel
theorem dX11_debt_172 : decode cX11_debt 172 = .ok (.aload_n 0, 1) := by decide +kernel
theorem dX11_debt_173 : decode cX11_debt 173 = .ok (.aload_n 0, 1) := by decide +kernel
theorem dX11_debt_174 : decode cX11_debt 174 = .ok (.getfield 46, 3) := by decide +kernel
theorem dX11_debt_177 : decode cX11_debt 177 = .ok (.iload_n 1, 1) := by decide +kernel
theorem dX11_debt_178 : decode cX11_debt 178 = .ok (.invokevirtual 249, 3) := by decide +kernel
theorem dX11_debt_181 : decode cX11_debt 181 = .ok (.invokevirtual 166, 3) := by decide +kernel
theorem dX11_debt_184 : decode cX11_debt 184 = .ok (.ireturn, 1) := by decide +kernel
theorem dX11_debt_185 : decode cX11_debt 185 = .ok (.aload_n 0, 1) := by decide +kernel
theorem dX11_debt_186 : decode cX11_debt 186 = .ok (.iconst 1, 1) := by decide +kernel
theorem dX11_debt_187 : decode cX11_debt 187 = .ok (.invokevirtual 127, 3) := by decide +kernel
theorem dX11_debt_190 : decode cX11_debt 190 = .ok (.ireturn, 1) := by decide +kernel
def qX11_debt_b140   (post : Int32 → St → St → Prop)  (s0 : Int32) (u0 : St) (u1 : St) : Prop := qX11_answer s0 u0 (fun r_40 u_39 => post r_40 u_39 u1)
set_option maxRecDepth 100000 in
set_option maxHeartbeats 4000000 in
theorem kX11_debt_b140 {C : Cx} {o0 : Nat} {a0 : Nat → Nat} {aH : Nat → Nat} (hC : Fx C cX11_debt 3 RX11) (hR0 : xR C = rm 3) {post : Int32 → St → St → Prop} (hR : RI C cX11_debt 3 (fun u : St × St => (wX11 o0 a0 (xy C) u.1 (wX2 (a0 7) aH (xy C) u.2 []))) (fun r u => post r u.1 u.2))  {s0 : Int32} {u0 : St} {u1 : St} (h : qX11_debt_b140 post s0 u0 u1) : G C 0 0 3 (wX11 o0 a0 (xy C) u0 (wX2 (a0 7) aH (xy C) u1 [])) 140 [] [.int s0, .ref o0] := by
  refine g_callV_i (pc := 140) (wd := fun (u : St) Y => (wX11 o0 a0 (xy C) u Y)) (F := fun Z => Z) (X := []) (As := [.int s0]) (rest := []) (u := u0) hC (fun _ _ => rfl) (fun _ => rfl) (ctX11_answer h) wvX11_answer ml_X11_166 (ci := 9) (q0 := 0) rfl rfl rfl rfl (rmok hR0 rfl) ⟨Nat.zero_le _, Nat.zero_le _⟩ rfl (Nat.le_of_ble_eq_true rfl) dX11_debt_140 (fun r_40 u_39 h => ?_)
  exact hR _ _ _ (u_39, u1) dX11_debt_143 h
def qX11_debt  (x1 : Int32) (x2 : Int32) (u0 : St) (u1 : St) (post : Int32 → St → St → Prop) : Prop := qX2_isDebt x1 u1 (fun r_43 u_42 => ((¬ r_43 = 0 → ((x2 = (0 : Int32) → (vp_in x1 7 ∧ qX11_answer (ga u_42 14 (x1).toNatClampNeg) u0 (fun r_47 u_46 => post r_47 u_46 u_42))) ∧ ((x2 = (1 : Int32) → (vp_in x1 7 ∧ qX11_answer (ga u_42 15 (x1).toNatClampNeg) u0 (fun r_51 u_50 => post r_51 u_50 u_42))) ∧ ((x2 = (2 : Int32) → (vp_in x1 7 ∧ qX11_answer (ga u_42 16 (x1).toNatClampNeg) u0 (fun r_55 u_54 => post r_55 u_54 u_42))) ∧ ((x2 = (3 : Int32) → (vp_in x1 7 ∧ qX11_answer (ga u_42 17 (x1).toNatClampNeg) u0 (fun r_59 u_58 => post r_59 u_58 u_42))) ∧ ((x2 = (4 : Int32) → qX11_has (gi u_42 7) x1 (fun r_62 => ((r_62 = 0 → qX11_debt_b140 post (0 : Int32) u0 u_42) ∧ (¬ r_62 = 0 → qX11_debt_b140 post (1 : Int32) u0 u_42)))) ∧ ((x2 = (5 : Int32) → (vp_in x1 7 ∧ qX11_answer (ga u_42 18 (x1).toNatClampNeg) u0 (fun r_67 u_66 => post r_67 u_66 u_42))) ∧ ((x2 = (6 : Int32) → (vp_in x1 7 ∧ qX11_answer (ga u_42 19 (x1).toNatClampNeg) u0 (fun r_71 u_70 => post r_71 u_70 u_42))) ∧ ((x2 = (7 : Int32) → qX2_owed x1 u_42 (fun r_75 u_74 => qX11_answer r_75 u0 (fun r_78 u_77 => post r_78 u_77 u_74))) ∧ (¬ x2 = (0 : Int32) → ¬ x2 = (1 : Int32) → ¬ x2 = (2 : Int32) → ¬ x2 = (3 : Int32) → ¬ x2 = (4 : Int32) → ¬ x2 = (5 : Int32) → ¬ x2 = (6 : Int32) → ¬ x2 = (7 : Int32) → qX11_refuse (1 : Int32) u0 (fun r_82 u_81 => post r_82 u_81 u_42))))))))))) ∧ (r_43 = 0 → qX11_refuse (1 : Int32) u0 (fun r_85 u_84 => post r_85 u_84 u_42))))
set_option maxRecDepth 100000 in
set_option maxHeartbeats 4000000 in
theorem kX11_debt {C : Cx} {o0 : Nat} {a0 : Nat → Nat} {aH : Nat → Nat} (hC : Fx C cX11_debt 3 RX11) (hR0 : xR C = rm 3) {post : Int32 → St → St → Prop} (hR : RI C cX11_debt 3 (fun u : St × St => (wX11 o0 a0 (xy C) u.1 (wX2 (a0 7) aH (xy C) u.2 []))) (fun r u => post r u.1 u.2)) {x1 : Int32} {x2 : Int32} {u0 : St} {u1 : St} (h : qX11_debt  x1 x2 u0 u1 post) : G C 0 0 3 (wX11 o0 a0 (xy C) u0 (wX2 (a0 7) aH (xy C) u1 [])) 0 [(0, .ref o0), (1, .int x1), (2, .int x2)] [] := by
  refine g_aload_n (pc := 0) hC 0 dX11_debt_0 rfl rfl ?_
  refine getX11_7 (pc := 1) hC (F := fun Z => Z) (X := []) (fun _ => rfl) fl_X11_46 dX11_debt_1 ?_
  refine g_iload_n (pc := 4) hC 1 dX11_debt_4 rfl rfl ?_
  refine g_callV_i (pc := 5) (wd := fun (u : St) Y => (wX2 (a0 7) aH (xy C) u Y)) (F := fun Z => (wX11 o0 a0 (xy C) u0 Z)) (X := (wX11 o0 a0 (xy C) u0 [])) (As := [.int x1]) (rest := []) (u := u1) hC (fun _ _ => rfl) (fun _ => rfl) (ctX2_isDebt h) wvX2_isDebt ml_X11_222 (ci := 1) (q0 := 0) rfl rfl rfl rfl (rmok hR0 rfl) ⟨Nat.zero_le _, Nat.zero_le _⟩ rfl (Nat.le_of_ble_eq_true rfl) dX11_debt_5 (fun r_43 u_42 h => ?_)
  refine g_if_ne (pc := 8) (tgt := 17) hC dX11_debt_8 (by decide) (fun c_45 => ?_) (fun c_45 => ?_)
  · have h := h.1 c_45
    refine g_iload_n (pc := 17) hC 2 dX11_debt_17 rfl rfl ?_
    by_cases c_49 : x2 = (0 : Int32)
    · have h := h.1 c_49
      refine g_tabIn (pc := 18) (tgt := 64) hC dX11_debt_18 (by rw [c_49]; decide) (by rw [c_49]; decide) (by rw [c_49]; rfl) (by decide) ?_
      refine g_aload_n (pc := 64) hC 0 dX11_debt_64 rfl rfl ?_
      refine g_aload_n (pc := 65) hC 0 dX11_debt_65 rfl rfl ?_
      refine getX11_7 (pc := 66) hC (F := fun Z => Z) (X := []) (fun _ => rfl) fl_X11_46 dX11_debt_66 ?_
      refine getX2_14 (pc := 69) hC (F := fun Z => (wX11 o0 a0 (xy C) u0 Z)) (X := (wX11 o0 a0 (xy C) u0 [])) (fun _ => rfl) fl_X11_225 dX11_debt_69 ?_
      refine g_iload_n (pc := 72) hC 1 dX11_debt_72 rfl rfl ?_
      refine aldX2_14 (pc := 73) hC (F := fun Z => (wX11 o0 a0 (xy C) u0 Z)) (X := (wX11 o0 a0 (xy C) u0 [])) (fun _ => rfl) h.1 dX11_debt_73 ?_
      have h := h.2
      refine g_callV_i (pc := 74) (wd := fun (u : St) Y => (wX11 o0 a0 (xy C) u Y)) (F := fun Z => Z) (X := []) (As := [.int (ga u_42 14 (x1).toNatClampNeg)]) (rest := []) (u := u0) hC (fun _ _ => rfl) (fun _ => rfl) (ctX11_answer h) wvX11_answer ml_X11_166 (ci := 9) (q0 := 0) rfl rfl rfl rfl (rmok hR0 rfl) ⟨Nat.zero_le _, Nat.zero_le _⟩ rfl (Nat.le_of_ble_eq_true rfl) dX11_debt_74 (fun r_47 u_46 h => ?_)
      exact hR _ _ _ (u_46, u_42) dX11_debt_77 h
    by_cases c_53 : x2 = (1 : Int32)
    · have h := h.2.1 c_53
      refine g_tabIn (pc := 18) (tgt := 78) hC dX11_debt_18 (by rw [c_53]; decide) (by rw [c_53]; decide) (by rw [c_53]; rfl) (by decide) ?_
      refine g_aload_n (pc := 78) hC 0 dX11_debt_78 rfl rfl ?_
      refine g_aload_n (pc := 79) hC 0 dX11_debt_79 rfl rfl ?_
      refine getX11_7 (pc := 80) hC (F := fun Z => Z) (X := []) (fun _ => rfl) fl_X11_46 dX11_debt_80 ?_
      refine getX2_15 (pc := 83) hC (F := fun Z => (wX11 o0 a0 (xy C) u0 Z)) (X := (wX11 o0 a0 (xy C) u0 [])) (fun _ => rfl) fl_X11_228 dX11_debt_83 ?_
      refine g_iload_n (pc := 86) hC 1 dX11_debt_86 rfl rfl ?_
      refine aldX2_15 (pc := 87) hC (F := fun Z => (wX11 o0 a0 (xy C) u0 Z)) (X := (wX11 o0 a0 (xy C) u0 [])) (fun _ => rfl) h.1 dX11_debt_87 ?_
      have h := h.2
      refine g_callV_i (pc := 88) (wd := fun (u : St) Y => (wX11 o0 a0 (xy C) u Y)) (F := fun Z => Z) (X := []) (As := [.int (ga u_42 15 (x1).toNatClampNeg)]) (rest := []) (u := u0) hC (fun _ _ => rfl) (fun _ => rfl) (ctX11_answer h) wvX11_answer ml_X11_166 (ci := 9) (q0 := 0) rfl rfl rfl rfl (rmok hR0 rfl) ⟨Nat.zero_le _, Nat.zero_le _⟩ rfl (Nat.le_of_ble_eq_true rfl) dX11_debt_88 (fun r_51 u_50 h => ?_)
      exact hR _ _ _ (u_50, u_42) dX11_debt_91 h
    by_cases c_57 : x2 = (2 : Int32)
    · have h := h.2.2.1 c_57
      refine g_tabIn (pc := 18) (tgt := 92) hC dX11_debt_18 (by rw [c_57]; decide) (by rw [c_57]; decide) (by rw [c_57]; rfl) (by decide) ?_
      refine g_aload_n (pc := 92) hC 0 dX11_debt_92 rfl rfl ?_
      refine g_aload_n (pc := 93) hC 0 dX11_debt_93 rfl rfl ?_
      refine getX11_7 (pc := 94) hC (F := fun Z => Z) (X := []) (fun _ => rfl) fl_X11_46 dX11_debt_94 ?_
      refine getX2_16 (pc := 97) hC (F := fun Z => (wX11 o0 a0 (xy C) u0 Z)) (X := (wX11 o0 a0 (xy C) u0 [])) (fun _ => rfl) fl_X11_231 dX11_debt_97 ?_
      refine g_iload_n (pc := 100) hC 1 dX11_debt_100 rfl rfl ?_
      refine aldX2_16 (pc := 101) hC (F := fun Z => (wX11 o0 a0 (xy C) u0 Z)) (X := (wX11 o0 a0 (xy C) u0 [])) (fun _ => rfl) h.1 dX11_debt_101 ?_
      have h := h.2
      refine g_callV_i (pc := 102) (wd := fun (u : St) Y => (wX11 o0 a0 (xy C) u Y)) (F := fun Z => Z) (X := []) (As := [.int (ga u_42 16 (x1).toNatClampNeg)]) (rest := []) (u := u0) hC (fun _ _ => rfl) (fun _ => rfl) (ctX11_answer h) wvX11_answer ml_X11_166 (ci := 9) (q0 := 0) rfl rfl rfl rfl (rmok hR0 rfl) ⟨Nat.zero_le _, Nat.zero_le _⟩ rfl (Nat.le_of_ble_eq_true rfl) dX11_debt_102 (fun r_55 u_54 h => ?_)
      exact hR _ _ _ (u_54, u_42) dX11_debt_105 h
    by_cases c_61 : x2 = (3 : Int32)
    · have h := h.2.2.2.1 c_61
      refine g_tabIn (pc := 18) (tgt := 106) hC dX11_debt_18 (by rw [c_61]; decide) (by rw [c_61]; decide) (by rw [c_61]; rfl) (by decide) ?_
      refine g_aload_n (pc := 106) hC 0 dX11_debt_106 rfl rfl ?_
      refine g_aload_n (pc := 107) hC 0 dX11_debt_107 rfl rfl ?_
      refine getX11_7 (pc := 108) hC (F := fun Z => Z) (X := []) (fun _ => rfl) fl_X11_46 dX11_debt_108 ?_
      refine getX2_17 (pc := 111) hC (F := fun Z => (wX11 o0 a0 (xy C) u0 Z)) (X := (wX11 o0 a0 (xy C) u0 [])) (fun _ => rfl) fl_X11_234 dX11_debt_111 ?_
      refine g_iload_n (pc := 114) hC 1 dX11_debt_114 rfl rfl ?_
      refine aldX2_17 (pc := 115) hC (F := fun Z => (wX11 o0 a0 (xy C) u0 Z)) (X := (wX11 o0 a0 (xy C) u0 [])) (fun _ => rfl) h.1 dX11_debt_115 ?_
      have h := h.2
      refine g_callV_i (pc := 116) (wd := fun (u : St) Y => (wX11 o0 a0 (xy C) u Y)) (F := fun Z => Z) (X := []) (As := [.int (ga u_42 17 (x1).toNatClampNeg)]) (rest := []) (u := u0) hC (fun _ _ => rfl) (fun _ => rfl) (ctX11_answer h) wvX11_answer ml_X11_166 (ci := 9) (q0 := 0) rfl rfl rfl rfl (rmok hR0 rfl) ⟨Nat.zero_le _, Nat.zero_le _⟩ rfl (Nat.le_of_ble_eq_true rfl) dX11_debt_116 (fun r_59 u_58 h => ?_)
      exact hR _ _ _ (u_58, u_42) dX11_debt_119 h
    by_cases c_65 : x2 = (4 : Int32)
    · have h := h.2.2.2.2.1 c_65
      refine g_tabIn (pc := 18) (tgt := 120) hC dX11_debt_18 (by rw [c_65]; decide) (by rw [c_65]; decide) (by rw [c_65]; rfl) (by decide) ?_
      refine g_aload_n (pc := 120) hC 0 dX11_debt_120 rfl rfl ?_
      refine g_aload_n (pc := 121) hC 0 dX11_debt_121 rfl rfl ?_
      refine getX11_7 (pc := 122) hC (F := fun Z => Z) (X := []) (fun _ => rfl) fl_X11_46 dX11_debt_122 ?_
      refine getX2_7 (pc := 125) hC (F := fun Z => (wX11 o0 a0 (xy C) u0 Z)) (X := (wX11 o0 a0 (xy C) u0 [])) (fun _ => rfl) fl_X11_237 dX11_debt_125 ?_
      refine g_iload_n (pc := 128) hC 1 dX11_debt_128 rfl rfl ?_
      refine g_callS_i (pc := 129) (wd := fun (_ : Unit) Y => Y) (F := fun Z => Z) (X := []) (As := [.int (gi u_42 7), .int x1]) (rest := [.ref o0]) (u := ()) hC (fun _ _ => rfl) (fun _ => rfl) (ctX11_has h) wvX11_has ml_X11_240 rfl (rmok hR0 rfl) ⟨Nat.zero_le _, Nat.zero_le _⟩ rfl (Nat.le_of_ble_eq_true rfl) dX11_debt_129 (fun r_62 u_63 h => ?_)
      refine g_if_eq (pc := 132) (tgt := 139) hC dX11_debt_132 (by decide) (fun c_64 => ?_) (fun c_64 => ?_)
      · have h := h.1 c_64
        refine g_iconst (pc := 139) (v := 0) hC dX11_debt_139 (by decide) ?_
        refine g_sub (lv' := []) [] rfl ?_
        exact kX11_debt_b140 hC hR0 hR   h
      · have h := h.2 c_64
        refine g_iconst (pc := 135) (v := 1) hC dX11_debt_135 (by decide) ?_
        refine g_goto (pc := 136) (tgt := 140) hC dX11_debt_136 (by decide) ?_
        refine g_sub (lv' := []) [] rfl ?_
        exact kX11_debt_b140 hC hR0 hR   h
    by_cases c_69 : x2 = (5 : Int32)
    · have h := h.2.2.2.2.2.1 c_69
      refine g_tabIn (pc := 18) (tgt := 144) hC dX11_debt_18 (by rw [c_69]; decide) (by rw [c_69]; decide) (by rw [c_69]; rfl) (by decide) ?_
      refine g_aload_n (pc := 144) hC 0 dX11_debt_144 rfl rfl ?_
      refine g_aload_n (pc := 145) hC 0 dX11_debt_145 rfl rfl ?_
      refine getX11_7 (pc := 146) hC (F := fun Z => Z) (X := []) (fun _ => rfl) fl_X11_46 dX11_debt_146 ?_
      refine getX2_18 (pc := 149) hC (F := fun Z => (wX11 o0 a0 (xy C) u0 Z)) (X := (wX11 o0 a0 (xy C) u0 [])) (fun _ => rfl) fl_X11_244 dX11_debt_149 ?_
      refine g_iload_n (pc := 152) hC 1 dX11_debt_152 rfl rfl ?_
      refine aldX2_18 (pc := 153) hC (F := fun Z => (wX11 o0 a0 (xy C) u0 Z)) (X := (wX11 o0 a0 (xy C) u0 [])) (fun _ => rfl) h.1 dX11_debt_153 ?_
      have h := h.2
      refine g_callV_i (pc := 154) (wd := fun (u : St) Y => (wX11 o0 a0 (xy C) u Y)) (F := fun Z => Z) (X := []) (As := [.int (ga u_42 18 (x1).toNatClampNeg)]) (rest := []) (u := u0) hC (fun _ _ => rfl) (fun _ => rfl) (ctX11_answer h) wvX11_answer ml_X11_166 (ci := 9) (q0 := 0) rfl rfl rfl rfl (rmok hR0 rfl) ⟨Nat.zero_le _, Nat.zero_le _⟩ rfl (Nat.le_of_ble_eq_true rfl) dX11_debt_154 (fun r_67 u_66 h => ?_)
      exact hR _ _ _ (u_66, u_42) dX11_debt_157 h
    by_cases c_73 : x2 = (6 : Int32)
    · have h := h.2.2.2.2.2.2.1 c_73
      refine g_tabIn (pc := 18) (tgt := 158) hC dX11_debt_18 (by rw [c_73]; decide) (by rw [c_73]; decide) (by rw [c_73]; rfl) (by decide) ?_
      refine g_aload_n (pc := 158) hC 0 dX11_debt_158 rfl rfl ?_
      refine g_aload_n (pc := 159) hC 0 dX11_debt_159 rfl rfl ?_
      refine getX11_7 (pc := 160) hC (F := fun Z => Z) (X := []) (fun _ => rfl) fl_X11_46 dX11_debt_160 ?_
      refine getX2_19 (pc := 163) hC (F := fun Z => (wX11 o0 a0 (xy C) u0 Z)) (X := (wX11 o0 a0 (xy C) u0 [])) (fun _ => rfl) fl_X11_246 dX11_debt_163 ?_
      refine g_iload_n (pc := 166) hC 1 dX11_debt_166 rfl rfl ?_
      refine aldX2_19 (pc := 167) hC (F := fun Z => (wX11 o0 a0 (xy C) u0 Z)) (X := (wX11 o0 a0 (xy C) u0 [])) (fun _ => rfl) h.1 dX11_debt_167 ?_
      have h := h.2
      refine g_callV_i (pc := 168) (wd := fun (u : St) Y => (wX11 o0 a0 (xy C) u Y)) (F := fun Z => Z) (X := []) (As := [.int (ga u_42 19 (x1).toNatClampNeg)]) (rest := []) (u := u0) hC (fun _ _ => rfl) (fun _ => rfl) (ctX11_answer h) wvX11_answer ml_X11_166 (ci := 9) (q0 := 0) rfl rfl rfl rfl (rmok hR0 rfl) ⟨Nat.zero_le _, Nat.zero_le _⟩ rfl (Nat.le_of_ble_eq_true rfl) dX11_debt_168 (fun r_71 u_70 h => ?_)
      exact hR _ _ _ (u_70, u_42) dX11_debt_171 h
    by_cases c_80 : x2 = (7 : Int32)
    · have h := h.2.2.2.2.2.2.2.1 c_80
      refine g_tabIn (pc := 18) (tgt := 172) hC dX11_debt_18 (by rw [c_80]; decide) (by rw [c_80]; decide) (by rw [c_80]; rfl) (by decide) ?_
      refine g_aload_n (pc := 172) hC 0 dX11_debt_172 rfl rfl ?_
      refine g_aload_n (pc := 173) hC 0 dX11_debt_173 rfl rfl ?_
      refine getX11_7 (pc := 174) hC (F := fun Z => Z) (X := []) (fun _ => rfl) fl_X11_46 dX11_debt_174 ?_
      refine g_iload_n (pc := 177) hC 1 dX11_debt_177 rfl rfl ?_
      refine g_callV_i (pc := 178) (wd := fun (u : St) Y => (wX2 (a0 7) aH (xy C) u Y)) (F := fun Z => (wX11 o0 a0 (xy C) u0 Z)) (X := (wX11 o0 a0 (xy C) u0 [])) (As := [.int x1]) (rest := [.ref o0]) (u := u_42) hC (fun _ _ => rfl) (fun _ => rfl) (ctX2_owed h) wvX2_owed ml_X11_249 (ci := 1) (q0 := 0) rfl rfl rfl rfl (rmok hR0 rfl) ⟨Nat.zero_le _, Nat.zero_le _⟩ rfl (Nat.le_of_ble_eq_true rfl) dX11_debt_178 (fun r_75 u_74 h => ?_)
      refine g_callV_i (pc := 181) (wd := fun (u : St) Y => (wX11 o0 a0 (xy C) u Y)) (F := fun Z => Z) (X := []) (As := [.int r_75]) (rest := []) (u := u0) hC (fun _ _ => rfl) (fun _ => rfl) (ctX11_answer h) wvX11_answer ml_X11_166 (ci := 9) (q0 := 0) rfl rfl rfl rfl (rmok hR0 rfl) ⟨Nat.zero_le _, Nat.zero_le _⟩ rfl (Nat.le_of_ble_eq_true rfl) dX11_debt_181 (fun r_78 u_77 h => ?_)
      exact hR _ _ _ (u_77, u_74) dX11_debt_184 h
    have h := h.2.2.2.2.2.2.2.2 c_49 c_53 c_57 c_61 c_65 c_69 c_73 c_80
    refine g_tabOut (pc := 18) (tgt := 185) hC dX11_debt_18 (tab_out x2 (0) 8 (7) rfl (tab_s c_49 (tab_s c_53 (tab_s c_57 (tab_s c_61 (tab_s c_65 (tab_s c_69 (tab_s c_73 (tab_s c_80 tab_0))))))))) (by decide) ?_
    refine g_aload_n (pc := 185) hC 0 dX11_debt_185 rfl rfl ?_
    refine g_iconst (pc := 186) (v := 1) hC dX11_debt_186 (by decide) ?_
    refine g_callV_i (pc := 187) (wd := fun (u : St) Y => (wX11 o0 a0 (xy C) u Y)) (F := fun Z => Z) (X := []) (As := [.int (1 : Int32)]) (rest := []) (u := u0) hC (fun _ _ => rfl) (fun _ => rfl) (ctX11_refuse h) wvX11_refuse ml_X11_127 (ci := 9) (q0 := 0) rfl rfl rfl rfl (rmok hR0 rfl) ⟨Nat.zero_le _, Nat.zero_le _⟩ rfl (Nat.le_of_ble_eq_true rfl) dX11_debt_187 (fun r_82 u_81 h => ?_)
    exact hR _ _ _ (u_81, u_42) dX11_debt_190 h
  · have h := h.2 c_45
    refine g_aload_n (pc := 11) hC 0 dX11_debt_11 rfl rfl ?_
    refine g_iconst (pc := 12) (v := 1) hC dX11_debt_12 (by decide) ?_
    refine g_callV_i (pc := 13) (wd := fun (u : St) Y => (wX11 o0 a0 (xy C) u Y)) (F := fun Z => Z) (X := []) (As := [.int (1 : Int32)]) (rest := []) (u := u0) hC (fun _ _ => rfl) (fun _ => rfl) (ctX11_refuse h) wvX11_refuse ml_X11_127 (ci := 9) (q0 := 0) rfl rfl rfl rfl (rmok hR0 rfl) ⟨Nat.zero_le _, Nat.zero_le _⟩ rfl (Nat.le_of_ble_eq_true rfl) dX11_debt_13 (fun r_85 u_84 h => ?_)
    exact hR _ _ _ (u_84, u_42) dX11_debt_16 h
theorem ctX11_debt {l : Launch} {D : va_G} {cy : Nat → ClassId} {kd : Nat → Nat} {o0 : Nat} {a0 : Nat → Nat} {aH : Nat → Nat} {x1 : Int32} {x2 : Int32} {u0 : St} {u1 : St} {post : Int32 → St → St → Prop} (h : qX11_debt x1 x2 u0 u1 post) : CtI l D cy kd yX11_debt cX11_debt 3 3 .int [.ref o0, .int x1, .int x2] (fun u : St × St => (wX11 o0 a0 cy u.1 (wX2 (a0 7) aH cy u.2 []))) (u0, u1) (fun r u => post r u.1 u.2) := met_i (by decide) (Nat.le_of_ble_eq_true rfl) (fun C e1 e2 e3 e4 e5 hC hR => by subst e1 e2 e3 e4; exact kX11_debt hC e5 hR h)
theorem dX11_cash_0 : decode cX11_cash 0 = .ok (.aload_n 0, 1) := by decide +kernel
theorem dX11_cash_1 : decode cX11_cash 1 = .ok (.getfield 46, 3) := by decide +kernel
theorem dX11_cash_4 : decode cX11_cash 4 = .ok (.iload_n 1, 1) := by decide +kernel
theorem dX11_cash_5 : decode cX11_cash 5 = .ok (.invokevirtual 252, 3) := by decide +kernel
theorem dX11_cash_8 : decode cX11_cash 8 = .ok (.ifCond .ne 9, 3) := by decide +kernel
theorem dX11_cash_11 : decode cX11_cash 11 = .ok (.aload_n 0, 1) := by decide +kernel
theorem dX11_cash_12 : decode cX11_cash 12 = .ok (.iconst 1, 1) := by decide +kernel
theorem dX11_cash_13 : decode cX11_cash 13 = .ok (.invokevirtual 127, 3) := by decide +kernel
theorem dX11_cash_16 : decode cX11_cash 16 = .ok (.ireturn, 1) := by decide +kernel
theorem dX11_cash_17 : decode cX11_cash 17 = .ok (.aload_n 0, 1) := by decide +kernel
theorem dX11_cash_18 : decode cX11_cash 18 = .ok (.aload_n 0, 1) := by decide +kernel
theorem dX11_cash_19 : decode cX11_cash 19 = .ok (.getfield 46, 3) := by decide +kernel
theorem dX11_cash_22 : decode cX11_cash 22 = .ok (.getfield 255, 3) := by decide +kernel
theorem dX11_cash_25 : decode cX11_cash 25 = .ok (.iload_n 1, 1) := by decide +kernel
theorem dX11_cash_26 : decode cX11_cash 26 = .ok (.iaload, 1) := by decide +kernel
theorem dX11_cash_27 : decode cX11_cash 27 = .ok (.invokevirtual 166, 3) := by decide +kernel
theorem dX11_cash_30 : decode cX11_cash 30 = .ok (.ireturn, 1) := by decide +kernel
def qX11_cash  (x1 : Int32) (u0 : St) (u1 : St) (post : Int32 → St → St → Prop) : Prop := qX2_isPerson x1 u1 (fun r_11 u_10 => ((¬ r_11 = 0 → (vp_in x1 5 ∧ qX11_answer (ga u_10 12 (x1).toNatClampNeg) u0 (fun r_15 u_14 => post r_15 u_14 u_10))) ∧ (r_11 = 0 → qX11_refuse (1 : Int32) u0 (fun r_18 u_17 => post r_18 u_17 u_10))))
set_option maxRecDepth 100000 in
set_option maxHeartbeats 4000000 in
theorem kX11_cash {C : Cx} {o0 : Nat} {a0 : Nat → Nat} {aH : Nat → Nat} (hC : Fx C cX11_cash 2 RX11) (hR0 : xR C = rm 3) {post : Int32 → St → St → Prop} (hR : RI C cX11_cash 2 (fun u : St × St => (wX11 o0 a0 (xy C) u.1 (wX2 (a0 7) aH (xy C) u.2 []))) (fun r u => post r u.1 u.2)) {x1 : Int32} {u0 : St} {u1 : St} (h : qX11_cash  x1 u0 u1 post) : G C 0 0 2 (wX11 o0 a0 (xy C) u0 (wX2 (a0 7) aH (xy C) u1 [])) 0 [(0, .ref o0), (1, .int x1)] [] := by
  refine g_aload_n (pc := 0) hC 0 dX11_cash_0 rfl rfl ?_
  refine getX11_7 (pc := 1) hC (F := fun Z => Z) (X := []) (fun _ => rfl) fl_X11_46 dX11_cash_1 ?_
  refine g_iload_n (pc := 4) hC 1 dX11_cash_4 rfl rfl ?_
  refine g_callV_i (pc := 5) (wd := fun (u : St) Y => (wX2 (a0 7) aH (xy C) u Y)) (F := fun Z => (wX11 o0 a0 (xy C) u0 Z)) (X := (wX11 o0 a0 (xy C) u0 [])) (As := [.int x1]) (rest := []) (u := u1) hC (fun _ _ => rfl) (fun _ => rfl) (ctX2_isPerson h) wvX2_isPerson ml_X11_252 (ci := 1) (q0 := 0) rfl rfl rfl rfl (rmok hR0 rfl) ⟨Nat.zero_le _, Nat.zero_le _⟩ rfl (Nat.le_of_ble_eq_true rfl) dX11_cash_5 (fun r_11 u_10 h => ?_)
  refine g_if_ne (pc := 8) (tgt := 17) hC dX11_cash_8 (by decide) (fun c_13 => ?_) (fun c_13 => ?_)
  · have h := h.1 c_13
    refine g_aload_n (pc := 17) hC 0 dX11_cash_17 rfl rfl ?_
    refine g_aload_n (pc := 18) hC 0 dX11_cash_18 rfl rfl ?_
    refine getX11_7 (pc := 19) hC (F := fun Z => Z) (X := []) (fun _ => rfl) fl_X11_46 dX11_cash_19 ?_
    refine getX2_12 (pc := 22) hC (F := fun Z => (wX11 o0 a0 (xy C) u0 Z)) (X := (wX11 o0 a0 (xy C) u0 [])) (fun _ => rfl) fl_X11_255 dX11_cash_22 ?_
    refine g_iload_n (pc := 25) hC 1 dX11_cash_25 rfl rfl ?_
    refine aldX2_12 (pc := 26) hC (F := fun Z => (wX11 o0 a0 (xy C) u0 Z)) (X := (wX11 o0 a0 (xy C) u0 [])) (fun _ => rfl) h.1 dX11_cash_26 ?_
    have h := h.2
    refine g_callV_i (pc := 27) (wd := fun (u : St) Y => (wX11 o0 a0 (xy C) u Y)) (F := fun Z => Z) (X := []) (As := [.int (ga u_10 12 (x1).toNatClampNeg)]) (rest := []) (u := u0) hC (fun _ _ => rfl) (fun _ => rfl) (ctX11_answer h) wvX11_answer ml_X11_166 (ci := 9) (q0 := 0) rfl rfl rfl rfl (rmok hR0 rfl) ⟨Nat.zero_le _, Nat.zero_le _⟩ rfl (Nat.le_of_ble_eq_true rfl) dX11_cash_27 (fun r_15 u_14 h => ?_)
    exact hR _ _ _ (u_14, u_10) dX11_cash_30 h
  · have h := h.2 c_13
    refine g_aload_n (pc := 11) hC 0 dX11_cash_11 rfl rfl ?_
    refine g_iconst (pc := 12) (v := 1) hC dX11_cash_12 (by decide) ?_
    refine g_callV_i (pc := 13) (wd := fun (u : St) Y => (wX11 o0 a0 (xy C) u Y)) (F := fun Z => Z) (X := []) (As := [.int (1 : Int32)]) (rest := []) (u := u0) hC (fun _ _ => rfl) (fun _ => rfl) (ctX11_refuse h) wvX11_refuse ml_X11_127 (ci := 9) (q0 := 0) rfl rfl rfl rfl (rmok hR0 rfl) ⟨Nat.zero_le _, Nat.zero_le _⟩ rfl (Nat.le_of_ble_eq_true rfl) dX11_cash_13 (fun r_18 u_17 h => ?_)
    exact hR _ _ _ (u_17, u_10) dX11_cash_16 h
theorem ctX11_cash {l : Launch} {D : va_G} {cy : Nat → ClassId} {kd : Nat → Nat} {o0 : Nat} {a0 : Nat → Nat} {aH : Nat → Nat} {x1 : Int32} {u0 : St} {u1 : St} {post : Int32 → St → St → Prop} (h : qX11_cash x1 u0 u1 post) : CtI l D cy kd yX11_cash cX11_cash 2 3 .int [.ref o0, .int x1] (fun u : St × St => (wX11 o0 a0 cy u.1 (wX2 (a0 7) aH cy u.2 []))) (u0, u1) (fun r u => post r u.1 u.2) := met_i (by decide) (Nat.le_of_ble_eq_true rfl) (fun C e1 e2 e3 e4 e5 hC hR => by subst e1 e2 e3 e4; exact kX11_cash hC e5 hR h)
theorem dX11_net_0 : decode cX11_net 0 = .ok (.aload_n 0, 1) := by decide +kernel
theorem dX11_net_1 : decode cX11_net 1 = .ok (.getfield 46, 3) := by decide +kernel
theorem dX11_net_4 : decode cX11_net 4 = .ok (.iload_n 1, 1) := by decide +kernel
theorem dX11_net_5 : decode cX11_net 5 = .ok (.invokevirtual 252, 3) := by decide +kernel
theorem dX11_net_8 : decode cX11_net 8 = .ok (.ifCond .ne 9, 3) := by decide +kernel
theorem dX11_net_11 : decode cX11_net 11 = .ok (.aload_n 0, 1) := by decide +kernel
theorem dX11_net_12 : decode cX11_net 12 = .ok (.iconst 1, 1) := by decide +kernel
theorem dX11_net_13 : decode cX11_net 13 = .ok (.invokevirtual 127, 3) := by decide +kernel
theorem dX11_net_16 : decode cX11_net 16 = .ok (.ireturn, 1) := by decide +kernel
theorem dX11_net_17 : decode cX11_net 17 = .ok (.aload_n 0, 1) := by decide +kernel
theorem dX11_net_18 : decode cX11_net 18 = .ok (.aload_n 0, 1) := by decide +kernel
theorem dX11_net_19 : decode cX11_net 19 = .ok (.getfield 46, 3) := by decide +kernel
theorem dX11_net_22 : decode cX11_net 22 = .ok (.iload_n 1, 1) := by decide +kernel
theorem dX11_net_23 : decode cX11_net 23 = .ok (.invokevirtual 258, 3) := by decide +kernel
theorem dX11_net_26 : decode cX11_net 26 = .ok (.invokevirtual 166, 3) := by decide +kernel
theorem dX11_net_29 : decode cX11_net 29 = .ok (.ireturn, 1) := by decide +kernel
def qX11_net  (x1 : Int32) (u0 : St) (u1 : St) (post : Int32 → St → St → Prop) : Prop := qX2_isPerson x1 u1 (fun r_14 u_13 => ((¬ r_14 = 0 → qX2_netOf x1 u_13 (fun r_18 u_17 => qX11_answer r_18 u0 (fun r_21 u_20 => post r_21 u_20 u_17))) ∧ (r_14 = 0 → qX11_refuse (1 : Int32) u0 (fun r_24 u_23 => post r_24 u_23 u_13))))
set_option maxRecDepth 100000 in
set_option maxHeartbeats 4000000 in
theorem kX11_net {C : Cx} {o0 : Nat} {a0 : Nat → Nat} {aH : Nat → Nat} (hC : Fx C cX11_net 2 RX11) (hR0 : xR C = rm 4) {post : Int32 → St → St → Prop} (hR : RI C cX11_net 2 (fun u : St × St => (wX11 o0 a0 (xy C) u.1 (wX2 (a0 7) aH (xy C) u.2 []))) (fun r u => post r u.1 u.2)) {x1 : Int32} {u0 : St} {u1 : St} (h : qX11_net  x1 u0 u1 post) : G C 0 0 2 (wX11 o0 a0 (xy C) u0 (wX2 (a0 7) aH (xy C) u1 [])) 0 [(0, .ref o0), (1, .int x1)] [] := by
  refine g_aload_n (pc := 0) hC 0 dX11_net_0 rfl rfl ?_
  refine getX11_7 (pc := 1) hC (F := fun Z => Z) (X := []) (fun _ => rfl) fl_X11_46 dX11_net_1 ?_
  refine g_iload_n (pc := 4) hC 1 dX11_net_4 rfl rfl ?_
  refine g_callV_i (pc := 5) (wd := fun (u : St) Y => (wX2 (a0 7) aH (xy C) u Y)) (F := fun Z => (wX11 o0 a0 (xy C) u0 Z)) (X := (wX11 o0 a0 (xy C) u0 [])) (As := [.int x1]) (rest := []) (u := u1) hC (fun _ _ => rfl) (fun _ => rfl) (ctX2_isPerson h) wvX2_isPerson ml_X11_252 (ci := 1) (q0 := 0) rfl rfl rfl rfl (rmok hR0 rfl) ⟨Nat.zero_le _, Nat.zero_le _⟩ rfl (Nat.le_of_ble_eq_true rfl) dX11_net_5 (fun r_14 u_13 h => ?_)
  refine g_if_ne (pc := 8) (tgt := 17) hC dX11_net_8 (by decide) (fun c_16 => ?_) (fun c_16 => ?_)
  · have h := h.1 c_16
    refine g_aload_n (pc := 17) hC 0 dX11_net_17 rfl rfl ?_
    refine g_aload_n (pc := 18) hC 0 dX11_net_18 rfl rfl ?_
    refine getX11_7 (pc := 19) hC (F := fun Z => Z) (X := []) (fun _ => rfl) fl_X11_46 dX11_net_19 ?_
    refine g_iload_n (pc := 22) hC 1 dX11_net_22 rfl rfl ?_
    refine g_callV_i (pc := 23) (wd := fun (u : St) Y => (wX2 (a0 7) aH (xy C) u Y)) (F := fun Z => (wX11 o0 a0 (xy C) u0 Z)) (X := (wX11 o0 a0 (xy C) u0 [])) (As := [.int x1]) (rest := [.ref o0]) (u := u_13) hC (fun _ _ => rfl) (fun _ => rfl) (ctX2_netOf h) wvX2_netOf ml_X11_258 (ci := 1) (q0 := 0) rfl rfl rfl rfl (rmok hR0 rfl) ⟨Nat.zero_le _, Nat.zero_le _⟩ rfl (Nat.le_of_ble_eq_true rfl) dX11_net_23 (fun r_18 u_17 h => ?_)
    refine g_callV_i (pc := 26) (wd := fun (u : St) Y => (wX11 o0 a0 (xy C) u Y)) (F := fun Z => Z) (X := []) (As := [.int r_18]) (rest := []) (u := u0) hC (fun _ _ => rfl) (fun _ => rfl) (ctX11_answer h) wvX11_answer ml_X11_166 (ci := 9) (q0 := 0) rfl rfl rfl rfl (rmok hR0 rfl) ⟨Nat.zero_le _, Nat.zero_le _⟩ rfl (Nat.le_of_ble_eq_true rfl) dX11_net_26 (fun r_21 u_20 h => ?_)
    exact hR _ _ _ (u_20, u_17) dX11_net_29 h
  · have h := h.2 c_16
    refine g_aload_n (pc := 11) hC 0 dX11_net_11 rfl rfl ?_
    refine g_iconst (pc := 12) (v := 1) hC dX11_net_12 (by decide) ?_
    refine g_callV_i (pc := 13) (wd := fun (u : St) Y => (wX11 o0 a0 (xy C) u Y)) (F := fun Z => Z) (X := []) (As := [.int (1 : Int32)]) (rest := []) (u := u0) hC (fun _ _ => rfl) (fun _ => rfl) (ctX11_refuse h) wvX11_refuse ml_X11_127 (ci := 9) (q0 := 0) rfl rfl rfl rfl (rmok hR0 rfl) ⟨Nat.zero_le _, Nat.zero_le _⟩ rfl (Nat.le_of_ble_eq_true rfl) dX11_net_13 (fun r_24 u_23 h => ?_)
    exact hR _ _ _ (u_23, u_13) dX11_net_16 h
theorem ctX11_net {l : Launch} {D : va_G} {cy : Nat → ClassId} {kd : Nat → Nat} {o0 : Nat} {a0 : Nat → Nat} {aH : Nat → Nat} {x1 : Int32} {u0 : St} {u1 : St} {post : Int32 → St → St → Prop} (h : qX11_net x1 u0 u1 post) : CtI l D cy kd yX11_net cX11_net 2 4 .int [.ref o0, .int x1] (fun u : St × St => (wX11 o0 a0 cy u.1 (wX2 (a0 7) aH cy u.2 []))) (u0, u1) (fun r u => post r u.1 u.2) := met_i (by decide) (Nat.le_of_ble_eq_true rfl) (fun C e1 e2 e3 e4 e5 hC hR => by subst e1 e2 e3 e4; exact kX11_net hC e5 hR h)
