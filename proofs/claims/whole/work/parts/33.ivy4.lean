/-! IvyHouse -/
theorem dX11_lived_0 : decode cX11_lived 0 = .ok (.iload_n 1, 1) := by decide +kernel
theorem dX11_lived_1 : decode cX11_lived 1 = .ok (.iconst 0, 1) := by decide +kernel
theorem dX11_lived_2 : decode cX11_lived 2 = .ok (.iconst 4, 1) := by decide +kernel
theorem dX11_lived_3 : decode cX11_lived 3 = .ok (.invokestatic 104, 3) := by decide +kernel
theorem dX11_lived_6 : decode cX11_lived 6 = .ok (.ifCond .ne 9, 3) := by decide +kernel
theorem dX11_lived_9 : decode cX11_lived 9 = .ok (.aload_n 0, 1) := by decide +kernel
theorem dX11_lived_10 : decode cX11_lived 10 = .ok (.iconst 1, 1) := by decide +kernel
theorem dX11_lived_11 : decode cX11_lived 11 = .ok (.invokevirtual 127, 3) := by decide +kernel
theorem dX11_lived_14 : decode cX11_lived 14 = .ok (.ireturn, 1) := by decide +kernel
theorem dX11_lived_15 : decode cX11_lived 15 = .ok (.aload_n 0, 1) := by decide +kernel
theorem dX11_lived_16 : decode cX11_lived 16 = .ok (.getfield 79, 3) := by decide +kernel
theorem dX11_lived_19 : decode cX11_lived 19 = .ok (.getfield 375, 3) := by decide +kernel
theorem dX11_lived_22 : decode cX11_lived 22 = .ok (.ifCond .ne 10, 3) := by decide +kernel
theorem dX11_lived_25 : decode cX11_lived 25 = .ok (.aload_n 0, 1) := by decide +kernel
theorem dX11_lived_26 : decode cX11_lived 26 = .ok (.bipush 6, 2) := by decide +kernel
theorem dX11_lived_28 : decode cX11_lived 28 = .ok (.invokevirtual 127, 3) := by decide +kernel
theorem dX11_lived_31 : decode cX11_lived 31 = .ok (.ireturn, 1) := by decide +kernel
theorem dX11_lived_32 : decode cX11_lived 32 = .ok (.iload_n 1, 1) := by decide +kernel
theorem dX11_lived_33 : decode cX11_lived 33 = .ok (.tableswitch 79 0 3 #[31, 43, 55, 67], 31) := by decide +kernel
theorem dX11_lived_64 : decode cX11_lived 64 = .ok (.aload_n 0, 1) := by decide +kernel
theorem dX11_lived_65 : decode cX11_lived 65 = .ok (.aload_n 0, 1) := by decide +kernel
theorem dX11_lived_66 : decode cX11_lived 66 = .ok (.getfield 79, 3) := by decide +kernel
theorem dX11_lived_69 : decode cX11_lived 69 = .ok (.getfield 376, 3) := by decide +kernel
theorem dX11_lived_72 : decode cX11_lived 72 = .ok (.invokevirtual 166, 3) := by decide +kernel
theorem dX11_lived_75 : decode cX11_lived 75 = .ok (.ireturn, 1) := by decide +kernel
theorem dX11_lived_76 : decode cX11_lived 76 = .ok (.aload_n 0, 1) := by decide +kernel
theorem dX11_lived_77 : decode cX11_lived 77 = .ok (.aload_n 0, 1) := by decide +kernel
theorem dX11_lived_78 : decode cX11_lived 78 = .ok (.getfield 79, 3) := by decide +kernel
theorem dX11_lived_81 : decode cX11_lived 81 = .ok (.getfield 379, 3) := by decide +kernel
theorem dX11_lived_84 : decode cX11_lived 84 = .ok (.invokevirtual 166, 3) := by decide +kernel
theorem dX11_lived_87 : decode cX11_lived 87 = .ok (.ireturn, 1) := by decide +kernel
theorem dX11_lived_88 : decode cX11_lived 88 = .ok (.aload_n 0, 1) := by decide +kernel
theorem dX11_lived_89 : decode cX11_lived 89 = .ok (.aload_n 0, 1) := by decide +kernel
theorem dX11_lived_90 : decode cX11_lived 90 = .ok (.getfield 79, 3) := by decide +kernel
theorem dX11_lived_93 : decode cX11_lived 93 = .ok (.getfield 382, 3) := by decide +kernel
theorem dX11_lived_96 : decode cX11_lived 96 = .ok (.invokevirtual 166, 3) := by decide +kernel
theorem dX11_lived_99 : decode cX11_lived 99 = .ok (.ireturn, 1) := by decide +kernel
theorem dX11_lived_100 : decode cX11_lived 100 = .ok (.aload_n 0, 1) := by decide +kernel
theorem dX11_lived_101 : decode cX11_lived 101 = .ok (.aload_n 0, 1) := by decide +kernel
theorem dX11_lived_102 : decode cX11_lived 102 = .ok (.getfield 79, 3) := by decide +kernel
theorem dX11_lived_105 : decode cX11_lived 105 = .ok (.getfield 385, 3) := by decide +kernel
theorem dX11_lived_108 : decode cX11_lived 108 = .ok (.invokevirtual 166, 3) := by decide +kernel
theorem dX11_lived_111 : decode cX11_lived 111 = .ok (.ireturn, 1) := by decide +kernel
theorem dX11_lived_112 : decode cX11_lived 112 = .ok (.aload_n 0, 1) := by decide +kernel
theorem dX11_lived_113 : decode cX11_lived 113 = .ok (.aload_n 0, 1) := by decide +kernel
theorem dX11_lived_114 : decode cX11_lived 114 = .ok (.getfield 79, 3) := by decide +kernel
theorem dX11_lived_117 : decode cX11_lived 117 = .ok (.getfield 388, 3) := by decide +kernel
theorem dX11_lived_120 : decode cX11_lived 120 = .ok (.ifCond .eq 7, 3) := by decide +kernel
theorem dX11_lived_123 : decode cX11_lived 123 = .ok (.iconst 1, 1) := by decide +kernel
theorem dX11_lived_124 : decode cX11_lived 124 = .ok (.goto 4, 3) := by decide +kernel
theorem dX11_lived_127 : decode cX11_lived 127 = .ok (.iconst 0, 1) := by decide +kernel
theorem dX11_lived_128 : decode cX11_lived 128 = .ok (.invokevirtual 166, 3) := by decide +kernel
theorem dX11_lived_131 : decode cX11_lived 131 = .ok (.ireturn, 1) := by decide +kernel
def qX11_lived_b128   (post : Int32 → St → St → Prop)  (s0 : Int32) (u0 : St) (u1 : St) : Prop := qX11_answer s0 u0 (fun r_25 u_24 => post r_25 u_24 u1)
set_option maxRecDepth 100000 in
set_option maxHeartbeats 4000000 in
theorem kX11_lived_b128 {C : Cx} {o0 : Nat} {a0 : Nat → Nat} {aL : Nat → Nat} (hC : Fx C cX11_lived 2 RX11) (hR0 : xR C = rm 2) {post : Int32 → St → St → Prop} (hR : RI C cX11_lived 2 (fun u : St × St => (wX11 o0 a0 (xy C) u.1 (wX3 (a0 14) aL (xy C) u.2 []))) (fun r u => post r u.1 u.2))  {s0 : Int32} {u0 : St} {u1 : St} (h : qX11_lived_b128 post s0 u0 u1) : G C 0 0 2 (wX11 o0 a0 (xy C) u0 (wX3 (a0 14) aL (xy C) u1 [])) 128 [] [.int s0, .ref o0] := by
  refine g_callV_i (pc := 128) (wd := fun (u : St) Y => (wX11 o0 a0 (xy C) u Y)) (F := fun Z => Z) (X := []) (As := [.int s0]) (rest := []) (u := u0) hC (fun _ _ => rfl) (fun _ => rfl) (ctX11_answer h) wvX11_answer ml_X11_166 (ci := 9) (q0 := 0) rfl rfl rfl rfl (rmok hR0 rfl) ⟨Nat.zero_le _, Nat.zero_le _⟩ rfl (Nat.le_of_ble_eq_true rfl) dX11_lived_128 (fun r_25 u_24 h => ?_)
  exact hR _ _ _ (u_24, u1) dX11_lived_131 h
def qX11_lived  (x1 : Int32) (u0 : St) (u1 : St) (post : Int32 → St → St → Prop) : Prop := qX11_within x1 (0 : Int32) (4 : Int32) (fun r_27 => ((¬ r_27 = 0 → ((¬ (gi u1 0) = 0 → ((x1 = (0 : Int32) → qX11_answer (gi u1 2) u0 (fun r_32 u_31 => post r_32 u_31 u1)) ∧ ((x1 = (1 : Int32) → qX11_answer (gi u1 3) u0 (fun r_36 u_35 => post r_36 u_35 u1)) ∧ ((x1 = (2 : Int32) → qX11_answer (gi u1 4) u0 (fun r_40 u_39 => post r_40 u_39 u1)) ∧ ((x1 = (3 : Int32) → qX11_answer (gi u1 5) u0 (fun r_44 u_43 => post r_44 u_43 u1)) ∧ (¬ x1 = (0 : Int32) → ¬ x1 = (1 : Int32) → ¬ x1 = (2 : Int32) → ¬ x1 = (3 : Int32) → (((gi u1 6) = 0 → qX11_lived_b128 post (0 : Int32) u0 u1) ∧ (¬ (gi u1 6) = 0 → qX11_lived_b128 post (1 : Int32) u0 u1)))))))) ∧ ((gi u1 0) = 0 → qX11_refuse (6 : Int32) u0 (fun r_49 u_48 => post r_49 u_48 u1)))) ∧ (r_27 = 0 → qX11_refuse (1 : Int32) u0 (fun r_52 u_51 => post r_52 u_51 u1))))
set_option maxRecDepth 100000 in
set_option maxHeartbeats 4000000 in
theorem kX11_lived {C : Cx} {o0 : Nat} {a0 : Nat → Nat} {aL : Nat → Nat} (hC : Fx C cX11_lived 2 RX11) (hR0 : xR C = rm 2) {post : Int32 → St → St → Prop} (hR : RI C cX11_lived 2 (fun u : St × St => (wX11 o0 a0 (xy C) u.1 (wX3 (a0 14) aL (xy C) u.2 []))) (fun r u => post r u.1 u.2)) {x1 : Int32} {u0 : St} {u1 : St} (h : qX11_lived  x1 u0 u1 post) : G C 0 0 2 (wX11 o0 a0 (xy C) u0 (wX3 (a0 14) aL (xy C) u1 [])) 0 [(0, .ref o0), (1, .int x1)] [] := by
  refine g_iload_n (pc := 0) hC 1 dX11_lived_0 rfl rfl ?_
  refine g_iconst (pc := 1) (v := 0) hC dX11_lived_1 (by decide) ?_
  refine g_iconst (pc := 2) (v := 4) hC dX11_lived_2 (by decide) ?_
  refine g_callS_i (pc := 3) (wd := fun (_ : Unit) Y => Y) (F := fun Z => Z) (X := []) (As := [.int x1, .int (0 : Int32), .int (4 : Int32)]) (rest := []) (u := ()) hC (fun _ _ => rfl) (fun _ => rfl) (ctX11_within h) wvX11_within ml_X11_104 rfl (rmok hR0 rfl) ⟨Nat.zero_le _, Nat.zero_le _⟩ rfl (Nat.le_of_ble_eq_true rfl) dX11_lived_3 (fun r_27 u_28 h => ?_)
  refine g_if_ne (pc := 6) (tgt := 15) hC dX11_lived_6 (by decide) (fun c_29 => ?_) (fun c_29 => ?_)
  · have h := h.1 c_29
    refine g_aload_n (pc := 15) hC 0 dX11_lived_15 rfl rfl ?_
    refine getX11_14 (pc := 16) hC (F := fun Z => Z) (X := []) (fun _ => rfl) fl_X11_79 dX11_lived_16 ?_
    refine getX3_0 (pc := 19) hC (F := fun Z => (wX11 o0 a0 (xy C) u0 Z)) (X := (wX11 o0 a0 (xy C) u0 [])) (fun _ => rfl) fl_X11_375 dX11_lived_19 ?_
    refine g_if_ne (pc := 22) (tgt := 32) hC dX11_lived_22 (by decide) (fun c_30 => ?_) (fun c_30 => ?_)
    · have h := h.1 c_30
      refine g_iload_n (pc := 32) hC 1 dX11_lived_32 rfl rfl ?_
      by_cases c_34 : x1 = (0 : Int32)
      · have h := h.1 c_34
        refine g_tabIn (pc := 33) (tgt := 64) hC dX11_lived_33 (by rw [c_34]; decide) (by rw [c_34]; decide) (by rw [c_34]; rfl) (by decide) ?_
        refine g_aload_n (pc := 64) hC 0 dX11_lived_64 rfl rfl ?_
        refine g_aload_n (pc := 65) hC 0 dX11_lived_65 rfl rfl ?_
        refine getX11_14 (pc := 66) hC (F := fun Z => Z) (X := []) (fun _ => rfl) fl_X11_79 dX11_lived_66 ?_
        refine getX3_2 (pc := 69) hC (F := fun Z => (wX11 o0 a0 (xy C) u0 Z)) (X := (wX11 o0 a0 (xy C) u0 [])) (fun _ => rfl) fl_X11_376 dX11_lived_69 ?_
        refine g_callV_i (pc := 72) (wd := fun (u : St) Y => (wX11 o0 a0 (xy C) u Y)) (F := fun Z => Z) (X := []) (As := [.int (gi u1 2)]) (rest := []) (u := u0) hC (fun _ _ => rfl) (fun _ => rfl) (ctX11_answer h) wvX11_answer ml_X11_166 (ci := 9) (q0 := 0) rfl rfl rfl rfl (rmok hR0 rfl) ⟨Nat.zero_le _, Nat.zero_le _⟩ rfl (Nat.le_of_ble_eq_true rfl) dX11_lived_72 (fun r_32 u_31 h => ?_)
        exact hR _ _ _ (u_31, u1) dX11_lived_75 h
      by_cases c_38 : x1 = (1 : Int32)
      · have h := h.2.1 c_38
        refine g_tabIn (pc := 33) (tgt := 76) hC dX11_lived_33 (by rw [c_38]; decide) (by rw [c_38]; decide) (by rw [c_38]; rfl) (by decide) ?_
        refine g_aload_n (pc := 76) hC 0 dX11_lived_76 rfl rfl ?_
        refine g_aload_n (pc := 77) hC 0 dX11_lived_77 rfl rfl ?_
        refine getX11_14 (pc := 78) hC (F := fun Z => Z) (X := []) (fun _ => rfl) fl_X11_79 dX11_lived_78 ?_
        refine getX3_3 (pc := 81) hC (F := fun Z => (wX11 o0 a0 (xy C) u0 Z)) (X := (wX11 o0 a0 (xy C) u0 [])) (fun _ => rfl) fl_X11_379 dX11_lived_81 ?_
        refine g_callV_i (pc := 84) (wd := fun (u : St) Y => (wX11 o0 a0 (xy C) u Y)) (F := fun Z => Z) (X := []) (As := [.int (gi u1 3)]) (rest := []) (u := u0) hC (fun _ _ => rfl) (fun _ => rfl) (ctX11_answer h) wvX11_answer ml_X11_166 (ci := 9) (q0 := 0) rfl rfl rfl rfl (rmok hR0 rfl) ⟨Nat.zero_le _, Nat.zero_le _⟩ rfl (Nat.le_of_ble_eq_true rfl) dX11_lived_84 (fun r_36 u_35 h => ?_)
        exact hR _ _ _ (u_35, u1) dX11_lived_87 h
      by_cases c_42 : x1 = (2 : Int32)
      · have h := h.2.2.1 c_42
        refine g_tabIn (pc := 33) (tgt := 88) hC dX11_lived_33 (by rw [c_42]; decide) (by rw [c_42]; decide) (by rw [c_42]; rfl) (by decide) ?_
        refine g_aload_n (pc := 88) hC 0 dX11_lived_88 rfl rfl ?_
        refine g_aload_n (pc := 89) hC 0 dX11_lived_89 rfl rfl ?_
        refine getX11_14 (pc := 90) hC (F := fun Z => Z) (X := []) (fun _ => rfl) fl_X11_79 dX11_lived_90 ?_
        refine getX3_4 (pc := 93) hC (F := fun Z => (wX11 o0 a0 (xy C) u0 Z)) (X := (wX11 o0 a0 (xy C) u0 [])) (fun _ => rfl) fl_X11_382 dX11_lived_93 ?_
        refine g_callV_i (pc := 96) (wd := fun (u : St) Y => (wX11 o0 a0 (xy C) u Y)) (F := fun Z => Z) (X := []) (As := [.int (gi u1 4)]) (rest := []) (u := u0) hC (fun _ _ => rfl) (fun _ => rfl) (ctX11_answer h) wvX11_answer ml_X11_166 (ci := 9) (q0 := 0) rfl rfl rfl rfl (rmok hR0 rfl) ⟨Nat.zero_le _, Nat.zero_le _⟩ rfl (Nat.le_of_ble_eq_true rfl) dX11_lived_96 (fun r_40 u_39 h => ?_)
        exact hR _ _ _ (u_39, u1) dX11_lived_99 h
      by_cases c_46 : x1 = (3 : Int32)
      · have h := h.2.2.2.1 c_46
        refine g_tabIn (pc := 33) (tgt := 100) hC dX11_lived_33 (by rw [c_46]; decide) (by rw [c_46]; decide) (by rw [c_46]; rfl) (by decide) ?_
        refine g_aload_n (pc := 100) hC 0 dX11_lived_100 rfl rfl ?_
        refine g_aload_n (pc := 101) hC 0 dX11_lived_101 rfl rfl ?_
        refine getX11_14 (pc := 102) hC (F := fun Z => Z) (X := []) (fun _ => rfl) fl_X11_79 dX11_lived_102 ?_
        refine getX3_5 (pc := 105) hC (F := fun Z => (wX11 o0 a0 (xy C) u0 Z)) (X := (wX11 o0 a0 (xy C) u0 [])) (fun _ => rfl) fl_X11_385 dX11_lived_105 ?_
        refine g_callV_i (pc := 108) (wd := fun (u : St) Y => (wX11 o0 a0 (xy C) u Y)) (F := fun Z => Z) (X := []) (As := [.int (gi u1 5)]) (rest := []) (u := u0) hC (fun _ _ => rfl) (fun _ => rfl) (ctX11_answer h) wvX11_answer ml_X11_166 (ci := 9) (q0 := 0) rfl rfl rfl rfl (rmok hR0 rfl) ⟨Nat.zero_le _, Nat.zero_le _⟩ rfl (Nat.le_of_ble_eq_true rfl) dX11_lived_108 (fun r_44 u_43 h => ?_)
        exact hR _ _ _ (u_43, u1) dX11_lived_111 h
      have h := h.2.2.2.2 c_34 c_38 c_42 c_46
      refine g_tabOut (pc := 33) (tgt := 112) hC dX11_lived_33 (tab_out x1 (0) 4 (3) rfl (tab_s c_34 (tab_s c_38 (tab_s c_42 (tab_s c_46 tab_0))))) (by decide) ?_
      refine g_aload_n (pc := 112) hC 0 dX11_lived_112 rfl rfl ?_
      refine g_aload_n (pc := 113) hC 0 dX11_lived_113 rfl rfl ?_
      refine getX11_14 (pc := 114) hC (F := fun Z => Z) (X := []) (fun _ => rfl) fl_X11_79 dX11_lived_114 ?_
      refine getX3_6 (pc := 117) hC (F := fun Z => (wX11 o0 a0 (xy C) u0 Z)) (X := (wX11 o0 a0 (xy C) u0 [])) (fun _ => rfl) fl_X11_388 dX11_lived_117 ?_
      refine g_if_eq (pc := 120) (tgt := 127) hC dX11_lived_120 (by decide) (fun c_47 => ?_) (fun c_47 => ?_)
      · have h := h.1 c_47
        refine g_iconst (pc := 127) (v := 0) hC dX11_lived_127 (by decide) ?_
        refine g_sub (lv' := []) [] rfl ?_
        exact kX11_lived_b128 hC hR0 hR   h
      · have h := h.2 c_47
        refine g_iconst (pc := 123) (v := 1) hC dX11_lived_123 (by decide) ?_
        refine g_goto (pc := 124) (tgt := 128) hC dX11_lived_124 (by decide) ?_
        refine g_sub (lv' := []) [] rfl ?_
        exact kX11_lived_b128 hC hR0 hR   h
    · have h := h.2 c_30
      refine g_aload_n (pc := 25) hC 0 dX11_lived_25 rfl rfl ?_
      refine g_bipush (pc := 26) (v := 6) hC dX11_lived_26 (by decide) ?_
      refine g_callV_i (pc := 28) (wd := fun (u : St) Y => (wX11 o0 a0 (xy C) u Y)) (F := fun Z => Z) (X := []) (As := [.int (6 : Int32)]) (rest := []) (u := u0) hC (fun _ _ => rfl) (fun _ => rfl) (ctX11_refuse h) wvX11_refuse ml_X11_127 (ci := 9) (q0 := 0) rfl rfl rfl rfl (rmok hR0 rfl) ⟨Nat.zero_le _, Nat.zero_le _⟩ rfl (Nat.le_of_ble_eq_true rfl) dX11_lived_28 (fun r_49 u_48 h => ?_)
      exact hR _ _ _ (u_48, u1) dX11_lived_31 h
  · have h := h.2 c_29
    refine g_aload_n (pc := 9) hC 0 dX11_lived_9 rfl rfl ?_
    refine g_iconst (pc := 10) (v := 1) hC dX11_lived_10 (by decide) ?_
    refine g_callV_i (pc := 11) (wd := fun (u : St) Y => (wX11 o0 a0 (xy C) u Y)) (F := fun Z => Z) (X := []) (As := [.int (1 : Int32)]) (rest := []) (u := u0) hC (fun _ _ => rfl) (fun _ => rfl) (ctX11_refuse h) wvX11_refuse ml_X11_127 (ci := 9) (q0 := 0) rfl rfl rfl rfl (rmok hR0 rfl) ⟨Nat.zero_le _, Nat.zero_le _⟩ rfl (Nat.le_of_ble_eq_true rfl) dX11_lived_11 (fun r_52 u_51 h => ?_)
    exact hR _ _ _ (u_51, u1) dX11_lived_14 h
theorem ctX11_lived {l : Launch} {D : va_G} {cy : Nat → ClassId} {kd : Nat → Nat} {o0 : Nat} {a0 : Nat → Nat} {aL : Nat → Nat} {x1 : Int32} {u0 : St} {u1 : St} {post : Int32 → St → St → Prop} (h : qX11_lived x1 u0 u1 post) : CtI l D cy kd yX11_lived cX11_lived 2 2 .int [.ref o0, .int x1] (fun u : St × St => (wX11 o0 a0 cy u.1 (wX3 (a0 14) aL cy u.2 []))) (u0, u1) (fun r u => post r u.1 u.2) := met_i (by decide) (Nat.le_of_ble_eq_true rfl) (fun C e1 e2 e3 e4 e5 hC hR => by subst e1 e2 e3 e4; exact kX11_lived hC e5 hR h)
theorem dX11_mean_0 : decode cX11_mean 0 = .ok (.iload_n 1, 1) := by decide +kernel
theorem dX11_mean_1 : decode cX11_mean 1 = .ok (.iconst 0, 1) := by decide +kernel
theorem dX11_mean_2 : decode cX11_mean 2 = .ok (.sipush 9999, 3) := by decide +kernel
theorem dX11_mean_5 : decode cX11_mean 5 = .ok (.invokestatic 104, 3) := by decide +kernel
theorem dX11_mean_8 : decode cX11_mean 8 = .ok (.ifCond .eq 24, 3) := by decide +kernel
theorem dX11_mean_11 : decode cX11_mean 11 = .ok (.iload_n 2, 1) := by decide +kernel
theorem dX11_mean_12 : decode cX11_mean 12 = .ok (.iconst 1, 1) := by decide +kernel
theorem dX11_mean_13 : decode cX11_mean 13 = .ok (.bipush 20, 2) := by decide +kernel
theorem dX11_mean_15 : decode cX11_mean 15 = .ok (.invokestatic 104, 3) := by decide +kernel
theorem dX11_mean_18 : decode cX11_mean 18 = .ok (.ifCond .eq 14, 3) := by decide +kernel
theorem dX11_mean_21 : decode cX11_mean 21 = .ok (.iload_n 1, 1) := by decide +kernel
theorem dX11_mean_22 : decode cX11_mean 22 = .ok (.iload_n 2, 1) := by decide +kernel
theorem dX11_mean_23 : decode cX11_mean 23 = .ok (.iadd, 1) := by decide +kernel
theorem dX11_mean_24 : decode cX11_mean 24 = .ok (.iconst 1, 1) := by decide +kernel
theorem dX11_mean_25 : decode cX11_mean 25 = .ok (.isub, 1) := by decide +kernel
theorem dX11_mean_26 : decode cX11_mean 26 = .ok (.sipush 9999, 3) := by decide +kernel
theorem dX11_mean_29 : decode cX11_mean 29 = .ok (.if_icmp .le 9, 3) := by decide +kernel
theorem dX11_mean_32 : decode cX11_mean 32 = .ok (.aload_n 0, 1) := by decide +kernel
theorem dX11_mean_33 : decode cX11_mean 33 = .ok (.iconst 1, 1) := by decide +kernel
theorem dX11_mean_34 : decode cX11_mean 34 = .ok (.invokevirtual 108, 3) := by decide +kernel
theorem dX11_mean_37 : decode cX11_mean 37 = .ok (.ireturn, 1) := by decide +kernel
theorem dX11_mean_38 : decode cX11_mean 38 = .ok (.aload_n 0, 1) := by decide +kernel
theorem dX11_mean_39 : decode cX11_mean 39 = .ok (.getfield 56, 3) := by decide +kernel
theorem dX11_mean_42 : decode cX11_mean 42 = .ok (.getfield 364, 3) := by decide +kernel
theorem dX11_mean_45 : decode cX11_mean 45 = .ok (.ifCond .ne 10, 3) := by decide +kernel
theorem dX11_mean_48 : decode cX11_mean 48 = .ok (.aload_n 0, 1) := by decide +kernel
theorem dX11_mean_49 : decode cX11_mean 49 = .ok (.bipush 6, 2) := by decide +kernel
theorem dX11_mean_51 : decode cX11_mean 51 = .ok (.invokevirtual 108, 3) := by decide +kernel
theorem dX11_mean_54 : decode cX11_mean 54 = .ok (.ireturn, 1) := by decide +kernel
theorem dX11_mean_55 : decode cX11_mean 55 = .ok (.iconst 0, 1) := by decide +kernel
theorem dX11_mean_56 : decode cX11_mean 56 = .ok (.istore_n 3, 1) := by decide +kernel
theorem dX11_mean_57 : decode cX11_mean 57 = .ok (.iconst 0, 1) := by decide +kernel
theorem dX11_mean_58 : decode cX11_mean 58 = .ok (.istore 4, 2) := by decide +kernel
theorem dX11_mean_60 : decode cX11_mean 60 = .ok (.iload 4, 2) := by decide +kernel
theorem dX11_mean_62 : decode cX11_mean 62 = .ok (.iload_n 2, 1) := by decide +kernel
theorem dX11_mean_63 : decode cX11_mean 63 = .ok (.if_icmp .ge 52, 3) := by decide +kernel
theorem dX11_mean_66 : decode cX11_mean 66 = .ok (.aload_n 0, 1) := by decide +kernel
theorem dX11_mean_67 : decode cX11_mean 67 = .ok (.getfield 50, 3) := by decide +kernel
theorem dX11_mean_70 : decode cX11_mean 70 = .ok (.aload_n 0, 1) := by decide +kernel
theorem dX11_mean_71 : decode cX11_mean 71 = .ok (.getfield 46, 3) := by decide +kernel
theorem dX11_mean_74 : decode cX11_mean 74 = .ok (.invokevirtual 298, 3) := by decide +kernel
theorem dX11_mean_77 : decode cX11_mean 77 = .ok (.aload_n 0, 1) := by decide +kernel
theorem dX11_mean_78 : decode cX11_mean 78 = .ok (.getfield 83, 3) := by decide +kernel
theorem dX11_mean_81 : decode cX11_mean 81 = .ok (.aload_n 0, 1) := by decide +kernel
theorem dX11_mean_82 : decode cX11_mean 82 = .ok (.getfield 50, 3) := by decide +kernel
theorem dX11_mean_85 : decode cX11_mean 85 = .ok (.aload_n 0, 1) := by decide +kernel
theorem dX11_mean_86 : decode cX11_mean 86 = .ok (.getfield 56, 3) := by decide +kernel
theorem dX11_mean_89 : decode cX11_mean 89 = .ok (.iload_n 1, 1) := by decide +kernel
theorem dX11_mean_90 : decode cX11_mean 90 = .ok (.iload 4, 2) := by decide +kernel
theorem dX11_mean_92 : decode cX11_mean 92 = .ok (.iadd, 1) := by decide +kernel
theorem dX11_mean_93 : decode cX11_mean 93 = .ok (.invokevirtual 368, 3) := by decide +kernel
theorem dX11_mean_96 : decode cX11_mean 96 = .ok (.iload_n 3, 1) := by decide +kernel
theorem dX11_mean_97 : decode cX11_mean 97 = .ok (.aload_n 0, 1) := by decide +kernel
theorem dX11_mean_98 : decode cX11_mean 98 = .ok (.getfield 50, 3) := by decide +kernel
theorem dX11_mean_101 : decode cX11_mean 101 = .ok (.invokevirtual 188, 3) := by decide +kernel
theorem dX11_mean_104 : decode cX11_mean 104 = .ok (.invokestatic 267, 3) := by decide +kernel
theorem dX11_mean_107 : decode cX11_mean 107 = .ok (.iadd, 1) := by decide +kernel
theorem dX11_mean_108 : decode cX11_mean 108 = .ok (.istore_n 3, 1) := by decide +kernel
theorem dX11_mean_109 : decode cX11_mean 109 = .ok (.iinc 4 1, 3) := by decide +kernel
theorem dX11_mean_112 : decode cX11_mean 112 = .ok (.goto (-52), 3) := by decide +kernel
theorem dX11_mean_115 : decode cX11_mean 115 = .ok (.aload_n 0, 1) := by decide +kernel
theorem dX11_mean_116 : decode cX11_mean 116 = .ok (.iload_n 3, 1) := by decide +kernel
theorem dX11_mean_117 : decode cX11_mean 117 = .ok (.i2l, 1) := by decide +kernel
theorem dX11_mean_118 : decode cX11_mean 118 = .ok (.iload_n 2, 1) := by decide +kernel
theorem dX11_mean_119 : decode cX11_mean 119 = .ok (.i2l, 1) := by decide +kernel
theorem dX11_mean_120 : decode cX11_mean 120 = .ok (.invokevirtual 330, 3) := by decide +kernel
theorem dX11_mean_123 : decode cX11_mean 123 = .ok (.ireturn, 1) := by decide +kernel
def qX11_mean_b32   (post : Int32 → St → St → St → St → St → Prop)  (u0 : St) (u1 : St) (u2 : St) (u3 : St) (u4 : St) : Prop := qX11_deny (1 : Int32) u0 (fun r_28 u_27 => (bz r_28 ∧ post r_28 u_27 u1 u2 u3 u4))
set_option maxRecDepth 100000 in
set_option maxHeartbeats 4000000 in
theorem kX11_mean_b32 {C : Cx} {o0 : Nat} {a0 : Nat → Nat} {aH : Nat → Nat} {aS : Nat → Nat} {aM : Nat → Nat} {aD : Nat → Nat} (hC : Fx C cX11_mean 5 RX11) (hR0 : xR C = rm 8) {post : Int32 → St → St → St → St → St → Prop} (hR : RZ C cX11_mean 5 (fun u : St × St × St × St × St => (wX11 o0 a0 (xy C) u.1 (wX2 (a0 7) aH (xy C) u.2.1 (wX2 (a0 8) aS (xy C) u.2.2.1 (wX7 (a0 9) aM (xy C) u.2.2.2.1 (wX3 (a0 15) aD (xy C) u.2.2.2.2 [])))))) (fun r u => post r u.1 u.2.1 u.2.2.1 u.2.2.2.1 u.2.2.2.2))  {u0 : St} {u1 : St} {u2 : St} {u3 : St} {u4 : St} (h : qX11_mean_b32 post u0 u1 u2 u3 u4) : G C 0 0 5 (wX11 o0 a0 (xy C) u0 (wX2 (a0 7) aH (xy C) u1 (wX2 (a0 8) aS (xy C) u2 (wX7 (a0 9) aM (xy C) u3 (wX3 (a0 15) aD (xy C) u4 []))))) 32 [(0, .ref o0)] [] := by
  refine g_aload_n (pc := 32) hC 0 dX11_mean_32 rfl rfl ?_
  refine g_iconst (pc := 33) (v := 1) hC dX11_mean_33 (by decide) ?_
  refine g_callV_i (pc := 34) (wd := fun (u : St) Y => (wX11 o0 a0 (xy C) u Y)) (F := fun Z => Z) (X := []) (As := [.int (1 : Int32)]) (rest := []) (u := u0) hC (fun _ _ => rfl) (fun _ => rfl) (ctX11_deny h) wvX11_deny ml_X11_108 (ci := 9) (q0 := 0) rfl rfl rfl rfl (rmok hR0 rfl) ⟨Nat.zero_le _, Nat.zero_le _⟩ rfl (Nat.le_of_ble_eq_true rfl) dX11_mean_34 (fun r_28 u_27 h => ?_)
  exact hR _ _ _ (u_27, u1, u2, u3, u4) dX11_mean_37 h.1 h.2
def qX11_mean_b115   (post : Int32 → St → St → St → St → St → Prop)  (x2 : Int32) (x3 : Int32) (u0 : St) (u1 : St) (u2 : St) (u3 : St) (u4 : St) : Prop := qX11_tellFraction (x3).toInt64 (x2).toInt64 u0 (fun r_31 u_30 => (bz r_31 ∧ post r_31 u_30 u1 u2 u3 u4))
set_option maxRecDepth 100000 in
set_option maxHeartbeats 4000000 in
theorem kX11_mean_b115 {C : Cx} {o0 : Nat} {a0 : Nat → Nat} {aH : Nat → Nat} {aS : Nat → Nat} {aM : Nat → Nat} {aD : Nat → Nat} (hC : Fx C cX11_mean 5 RX11) (hR0 : xR C = rm 8) {post : Int32 → St → St → St → St → St → Prop} (hR : RZ C cX11_mean 5 (fun u : St × St × St × St × St => (wX11 o0 a0 (xy C) u.1 (wX2 (a0 7) aH (xy C) u.2.1 (wX2 (a0 8) aS (xy C) u.2.2.1 (wX7 (a0 9) aM (xy C) u.2.2.2.1 (wX3 (a0 15) aD (xy C) u.2.2.2.2 [])))))) (fun r u => post r u.1 u.2.1 u.2.2.1 u.2.2.2.1 u.2.2.2.2))  {x2 : Int32} {x3 : Int32} {u0 : St} {u1 : St} {u2 : St} {u3 : St} {u4 : St} (h : qX11_mean_b115 post x2 x3 u0 u1 u2 u3 u4) : G C 0 0 5 (wX11 o0 a0 (xy C) u0 (wX2 (a0 7) aH (xy C) u1 (wX2 (a0 8) aS (xy C) u2 (wX7 (a0 9) aM (xy C) u3 (wX3 (a0 15) aD (xy C) u4 []))))) 115 [(0, .ref o0), (2, .int x2), (3, .int x3)] [] := by
  refine g_aload_n (pc := 115) hC 0 dX11_mean_115 rfl rfl ?_
  refine g_iload_n (pc := 116) hC 2 dX11_mean_116 rfl rfl ?_
  refine g_i2l (pc := 117) hC dX11_mean_117 ?_
  refine g_iload_n (pc := 118) hC 1 dX11_mean_118 rfl rfl ?_
  refine g_i2l (pc := 119) hC dX11_mean_119 ?_
  refine g_callV_i (pc := 120) (wd := fun (u : St) Y => (wX11 o0 a0 (xy C) u Y)) (F := fun Z => Z) (X := []) (As := [.long (x3).toInt64, .long (x2).toInt64]) (rest := []) (u := u0) hC (fun _ _ => rfl) (fun _ => rfl) (ctX11_tellFraction h) wvX11_tellFraction ml_X11_330 (ci := 9) (q0 := 0) rfl rfl rfl rfl (rmok hR0 rfl) ⟨Nat.zero_le _, Nat.zero_le _⟩ rfl (Nat.le_of_ble_eq_true rfl) dX11_mean_120 (fun r_31 u_30 h => ?_)
  exact hR _ _ _ (u_30, u1, u2, u3, u4) dX11_mean_123 h.1 h.2
def qX11_mean_l60   (post : Int32 → St → St → St → St → St → Prop) (K60 : Int32 → Int32 → Int32 → Int32 → St → St → St → St → St → Prop) (x1 : Int32) (x2 : Int32) (x3 : Int32) (x4 : Int32) (u0 : St) (u1 : St) (u2 : St) (u3 : St) (u4 : St) : Prop := ((x2 ≤ x4 → qX11_mean_b115 post x2 x3 u0 u1 u2 u3 u4) ∧ (¬ x2 ≤ x4 → qX2_copyFrom u2 u1 (fun u_34 u_35 => qX3_run (x1 + x4) u4 u_34 u3 (fun u_37 u_38 u_39 => qX2_standingNow u_38 (fun r_42 u_41 => qJ6_bitCount_0f7a4 r_42 (fun r_44 => ∀ x3_46 : Int32, x3_46 = (x3 + r_44) → ∀ x4_47 : Int32, x4_47 = x4 + (1 : Int32) → K60 x1 x2 x3_46 x4_47 u0 u_35 u_41 u_39 u_37))))))
set_option maxRecDepth 100000 in
set_option maxHeartbeats 4000000 in
theorem kX11_mean_l60 {C : Cx} {o0 : Nat} {a0 : Nat → Nat} {aH : Nat → Nat} {aS : Nat → Nat} {aM : Nat → Nat} {aD : Nat → Nat} (hC : Fx C cX11_mean 5 RX11) (hR0 : xR C = rm 8) {post : Int32 → St → St → St → St → St → Prop} (hR : RZ C cX11_mean 5 (fun u : St × St × St × St × St => (wX11 o0 a0 (xy C) u.1 (wX2 (a0 7) aH (xy C) u.2.1 (wX2 (a0 8) aS (xy C) u.2.2.1 (wX7 (a0 9) aM (xy C) u.2.2.2.1 (wX3 (a0 15) aD (xy C) u.2.2.2.2 [])))))) (fun r u => post r u.1 u.2.1 u.2.2.1 u.2.2.2.1 u.2.2.2.2))  {K60 : Int32 → Int32 → Int32 → Int32 → St → St → St → St → St → Prop} (hK60 : ∀ (x1 : Int32) (x2 : Int32) (x3 : Int32) (x4 : Int32) (u0 : St) (u1 : St) (u2 : St) (u3 : St) (u4 : St), K60 x1 x2 x3 x4 u0 u1 u2 u3 u4 → G C 0 0 5 (wX11 o0 a0 (xy C) u0 (wX2 (a0 7) aH (xy C) u1 (wX2 (a0 8) aS (xy C) u2 (wX7 (a0 9) aM (xy C) u3 (wX3 (a0 15) aD (xy C) u4 []))))) 60 [(0, .ref o0), (1, .int x1), (2, .int x2), (3, .int x3), (4, .int x4)] []) {x1 : Int32} {x2 : Int32} {x3 : Int32} {x4 : Int32} {u0 : St} {u1 : St} {u2 : St} {u3 : St} {u4 : St} (h : qX11_mean_l60 post K60 x1 x2 x3 x4 u0 u1 u2 u3 u4) : G C 0 0 5 (wX11 o0 a0 (xy C) u0 (wX2 (a0 7) aH (xy C) u1 (wX2 (a0 8) aS (xy C) u2 (wX7 (a0 9) aM (xy C) u3 (wX3 (a0 15) aD (xy C) u4 []))))) 60 [(0, .ref o0), (1, .int x1), (2, .int x2), (3, .int x3), (4, .int x4)] [] := by
  refine g_iload (pc := 60) hC 4 dX11_mean_60 rfl ?_
  refine g_iload_n (pc := 62) hC 2 dX11_mean_62 rfl rfl ?_
  refine g_icmp_ge (pc := 63) (tgt := 115) hC dX11_mean_63 (by decide) (fun c_33 => ?_) (fun c_33 => ?_)
  · have h := h.1 c_33
    refine g_sub (lv' := [(0, .ref o0), (2, .int x2), (3, .int x3)]) [0, 2, 3] rfl ?_
    exact kX11_mean_b115 hC hR0 hR   h
  · have h := h.2 c_33
    refine g_aload_n (pc := 66) hC 0 dX11_mean_66 rfl rfl ?_
    refine getX11_8 (pc := 67) hC (F := fun Z => Z) (X := []) (fun _ => rfl) fl_X11_50 dX11_mean_67 ?_
    refine g_aload_n (pc := 70) hC 0 dX11_mean_70 rfl rfl ?_
    refine getX11_7 (pc := 71) hC (F := fun Z => Z) (X := []) (fun _ => rfl) fl_X11_46 dX11_mean_71 ?_
    refine g_swap (F := fun Z => (wX11 o0 a0 (xy C) u0 Z)) (X := (wX11 o0 a0 (xy C) u0 [])) (f := fun Z => (wX2 (a0 7) aH (xy C) u1 Z)) (g := fun Z => (wX2 (a0 8) aS (xy C) u2 Z)) (Y := (wX7 (a0 9) aM (xy C) u3 (wX3 (a0 15) aD (xy C) u4 []))) (fun _ => rfl) (fun _ => rfl) (fun _ => rfl) ?_
    refine g_callV_v (pc := 74) (wd := fun (u : St × St) Y => (wX2 (a0 8) aS (xy C) u.1 (wX2 (a0 7) aH (xy C) u.2 Y))) (F := fun Z => (wX11 o0 a0 (xy C) u0 Z)) (X := (wX11 o0 a0 (xy C) u0 [])) (As := [.ref (a0 7)]) (rest := []) (u := (u2, u1)) hC (fun _ _ => rfl) (fun _ => rfl) (ctX2_copyFrom h) wvX2_copyFrom ml_X11_298 (ci := 1) (q0 := 0) rfl rfl rfl rfl (rmok hR0 rfl) ⟨Nat.zero_le _, Nat.zero_le _⟩ rfl (Nat.le_of_ble_eq_true rfl) dX11_mean_74 (fun u_36 h => ?_)
    obtain ⟨u_34, u_35⟩ := u_36
    refine g_aload_n (pc := 77) hC 0 dX11_mean_77 rfl rfl ?_
    refine getX11_15 (pc := 78) hC (F := fun Z => Z) (X := []) (fun _ => rfl) fl_X11_83 dX11_mean_78 ?_
    refine g_aload_n (pc := 81) hC 0 dX11_mean_81 rfl rfl ?_
    refine getX11_8 (pc := 82) hC (F := fun Z => Z) (X := []) (fun _ => rfl) fl_X11_50 dX11_mean_82 ?_
    refine g_aload_n (pc := 85) hC 0 dX11_mean_85 rfl rfl ?_
    refine getX11_9 (pc := 86) hC (F := fun Z => Z) (X := []) (fun _ => rfl) fl_X11_56 dX11_mean_86 ?_
    refine g_iload_n (pc := 89) hC 1 dX11_mean_89 rfl rfl ?_
    refine g_iload (pc := 90) hC 4 dX11_mean_90 rfl ?_
    refine g_iadd (pc := 92) hC dX11_mean_92 ?_
    refine g_swap (F := fun Z => (wX11 o0 a0 (xy C) u0 Z)) (X := (wX11 o0 a0 (xy C) u0 [])) (f := fun Z => (wX2 (a0 8) aS (xy C) u_34 Z)) (g := fun Z => (wX2 (a0 7) aH (xy C) u_35 Z)) (Y := (wX7 (a0 9) aM (xy C) u3 (wX3 (a0 15) aD (xy C) u4 []))) (fun _ => rfl) (fun _ => rfl) (fun _ => rfl) ?_
    refine g_swap (F := fun Z => (wX11 o0 a0 (xy C) u0 (wX2 (a0 7) aH (xy C) u_35 Z))) (X := (wX11 o0 a0 (xy C) u0 (wX2 (a0 7) aH (xy C) u_35 []))) (f := fun Z => (wX2 (a0 8) aS (xy C) u_34 Z)) (g := fun Z => (wX7 (a0 9) aM (xy C) u3 Z)) (Y := (wX3 (a0 15) aD (xy C) u4 [])) (fun _ => rfl) (fun _ => rfl) (fun _ => rfl) ?_
    refine g_swap (F := fun Z => (wX11 o0 a0 (xy C) u0 (wX2 (a0 7) aH (xy C) u_35 (wX7 (a0 9) aM (xy C) u3 Z)))) (X := (wX11 o0 a0 (xy C) u0 (wX2 (a0 7) aH (xy C) u_35 (wX7 (a0 9) aM (xy C) u3 [])))) (f := fun Z => (wX2 (a0 8) aS (xy C) u_34 Z)) (g := fun Z => (wX3 (a0 15) aD (xy C) u4 Z)) (Y := []) (fun _ => rfl) (fun _ => rfl) (fun _ => rfl) ?_
    refine g_swap (F := fun Z => (wX11 o0 a0 (xy C) u0 (wX2 (a0 7) aH (xy C) u_35 Z))) (X := (wX11 o0 a0 (xy C) u0 (wX2 (a0 7) aH (xy C) u_35 []))) (f := fun Z => (wX7 (a0 9) aM (xy C) u3 Z)) (g := fun Z => (wX3 (a0 15) aD (xy C) u4 Z)) (Y := (wX2 (a0 8) aS (xy C) u_34 [])) (fun _ => rfl) (fun _ => rfl) (fun _ => rfl) ?_
    refine g_swap (F := fun Z => (wX11 o0 a0 (xy C) u0 (wX2 (a0 7) aH (xy C) u_35 (wX3 (a0 15) aD (xy C) u4 Z)))) (X := (wX11 o0 a0 (xy C) u0 (wX2 (a0 7) aH (xy C) u_35 (wX3 (a0 15) aD (xy C) u4 [])))) (f := fun Z => (wX7 (a0 9) aM (xy C) u3 Z)) (g := fun Z => (wX2 (a0 8) aS (xy C) u_34 Z)) (Y := []) (fun _ => rfl) (fun _ => rfl) (fun _ => rfl) ?_
    refine g_callV_v (pc := 93) (wd := fun (u : St × St × St) Y => (wX3 (a0 15) aD (xy C) u.1 (wX2 (a0 8) aS (xy C) u.2.1 (wX7 (a0 9) aM (xy C) u.2.2 Y)))) (F := fun Z => (wX11 o0 a0 (xy C) u0 (wX2 (a0 7) aH (xy C) u_35 Z))) (X := (wX11 o0 a0 (xy C) u0 (wX2 (a0 7) aH (xy C) u_35 []))) (As := [.ref (a0 8), .ref (a0 9), .int (x1 + x4)]) (rest := []) (u := (u4, u_34, u3)) hC (fun _ _ => rfl) (fun _ => rfl) (ctX3_run h) wvX3_run ml_X11_368 (ci := 2) (q0 := 0) rfl rfl rfl rfl (rmok hR0 rfl) ⟨Nat.zero_le _, Nat.zero_le _⟩ rfl (Nat.le_of_ble_eq_true rfl) dX11_mean_93 (fun u_40 h => ?_)
    obtain ⟨u_37, u_38, u_39⟩ := u_40
    refine g_iload_n (pc := 96) hC 3 dX11_mean_96 rfl rfl ?_
    refine g_aload_n (pc := 97) hC 0 dX11_mean_97 rfl rfl ?_
    refine getX11_8 (pc := 98) hC (F := fun Z => Z) (X := []) (fun _ => rfl) fl_X11_50 dX11_mean_98 ?_
    refine g_callV_i (pc := 101) (wd := fun (u : St) Y => (wX2 (a0 8) aS (xy C) u Y)) (F := fun Z => (wX11 o0 a0 (xy C) u0 (wX2 (a0 7) aH (xy C) u_35 (wX3 (a0 15) aD (xy C) u_37 Z)))) (X := (wX11 o0 a0 (xy C) u0 (wX2 (a0 7) aH (xy C) u_35 (wX3 (a0 15) aD (xy C) u_37 [])))) (As := []) (rest := [.int x3]) (u := u_38) hC (fun _ _ => rfl) (fun _ => rfl) (ctX2_standingNow h) wvX2_standingNow ml_X11_188 (ci := 1) (q0 := 0) rfl rfl rfl rfl (rmok hR0 rfl) ⟨Nat.zero_le _, Nat.zero_le _⟩ rfl (Nat.le_of_ble_eq_true rfl) dX11_mean_101 (fun r_42 u_41 h => ?_)
    refine g_callS_i (pc := 104) (wd := fun (_ : Unit) Y => Y) (F := fun Z => Z) (X := []) (As := [.int r_42]) (rest := [.int x3]) (u := ()) hC (fun _ _ => rfl) (fun _ => rfl) (ctJ6_bitCount_0f7a4 h) wvJ6_bitCount_0f7a4 ml_X11_267 rfl (rmok hR0 rfl) ⟨Nat.zero_le _, Nat.zero_le _⟩ rfl (Nat.le_of_ble_eq_true rfl) dX11_mean_104 (fun r_44 u_45 h => ?_)
    refine g_iadd (pc := 107) hC dX11_mean_107 ?_
    refine g_topi (fun x3_46 ex3_46 => ?_)
    have h := h x3_46 ex3_46
    refine g_istore_n (pc := 108) (lv' := [(3, .int x3_46), (0, .ref o0), (1, .int x1), (2, .int x2), (4, .int x4)]) hC dX11_mean_108 rfl (Nat.le_of_ble_eq_true rfl) rfl ?_
    obtain ⟨x4_47, ex4_47⟩ : ∃ z : Int32, z = x4 + (1 : Int32) := ⟨_, rfl⟩
    have h := h x4_47 ex4_47
    refine g_iinc (pc := 109) (v := x4_47) (lv' := [(4, .int x4_47), (3, .int x3_46), (0, .ref o0), (1, .int x1), (2, .int x2)]) hC 4 dX11_mean_109 rfl (by rw [ex4_47]; rfl) (Nat.le_of_ble_eq_true rfl) rfl ?_
    refine g_goto (pc := 112) (tgt := 60) hC dX11_mean_112 (by decide) ?_
    refine g_swap (F := fun Z => (wX11 o0 a0 (xy C) u0 (wX2 (a0 7) aH (xy C) u_35 Z))) (X := (wX11 o0 a0 (xy C) u0 (wX2 (a0 7) aH (xy C) u_35 []))) (f := fun Z => (wX3 (a0 15) aD (xy C) u_37 Z)) (g := fun Z => (wX2 (a0 8) aS (xy C) u_41 Z)) (Y := (wX7 (a0 9) aM (xy C) u_39 [])) (fun _ => rfl) (fun _ => rfl) (fun _ => rfl) ?_
    refine g_swap (F := fun Z => (wX11 o0 a0 (xy C) u0 (wX2 (a0 7) aH (xy C) u_35 (wX2 (a0 8) aS (xy C) u_41 Z)))) (X := (wX11 o0 a0 (xy C) u0 (wX2 (a0 7) aH (xy C) u_35 (wX2 (a0 8) aS (xy C) u_41 [])))) (f := fun Z => (wX3 (a0 15) aD (xy C) u_37 Z)) (g := fun Z => (wX7 (a0 9) aM (xy C) u_39 Z)) (Y := []) (fun _ => rfl) (fun _ => rfl) (fun _ => rfl) ?_
    refine g_sub (lv' := [(0, .ref o0), (1, .int x1), (2, .int x2), (3, .int x3_46), (4, .int x4_47)]) [2, 3, 4, 1, 0] rfl ?_
    exact hK60 _ _ _ _ _ _ _ _ _ h
def qX11_mean_L60   (post : Int32 → St → St → St → St → St → Prop)  : Nat → Int32 → Int32 → Int32 → Int32 → St → St → St → St → St → Prop
  | 0 => fun _ _ _ _ _ _ _ _ _ => False
  | n + 1 => qX11_mean_l60 post (qX11_mean_L60 post n)
theorem kX11_mean_L60 {C : Cx} {o0 : Nat} {a0 : Nat → Nat} {aH : Nat → Nat} {aS : Nat → Nat} {aM : Nat → Nat} {aD : Nat → Nat} (hC : Fx C cX11_mean 5 RX11) (hR0 : xR C = rm 8) {post : Int32 → St → St → St → St → St → Prop} (hR : RZ C cX11_mean 5 (fun u : St × St × St × St × St => (wX11 o0 a0 (xy C) u.1 (wX2 (a0 7) aH (xy C) u.2.1 (wX2 (a0 8) aS (xy C) u.2.2.1 (wX7 (a0 9) aM (xy C) u.2.2.2.1 (wX3 (a0 15) aD (xy C) u.2.2.2.2 [])))))) (fun r u => post r u.1 u.2.1 u.2.2.1 u.2.2.2.1 u.2.2.2.2))  : ∀ (n : Nat) (x1 : Int32) (x2 : Int32) (x3 : Int32) (x4 : Int32) (u0 : St) (u1 : St) (u2 : St) (u3 : St) (u4 : St), qX11_mean_L60 post n x1 x2 x3 x4 u0 u1 u2 u3 u4 → G C 0 0 5 (wX11 o0 a0 (xy C) u0 (wX2 (a0 7) aH (xy C) u1 (wX2 (a0 8) aS (xy C) u2 (wX7 (a0 9) aM (xy C) u3 (wX3 (a0 15) aD (xy C) u4 []))))) 60 [(0, .ref o0), (1, .int x1), (2, .int x2), (3, .int x3), (4, .int x4)] [] := by
  intro n
  induction n with
  | zero => intro x1 x2 x3 x4 u0 u1 u2 u3 u4 h; exact h.elim
  | succ n ih => intro x1 x2 x3 x4 u0 u1 u2 u3 u4 h; exact kX11_mean_l60 hC hR0 hR   ih h
def qX11_mean  (x1 : Int32) (x2 : Int32) (u0 : St) (u1 : St) (u2 : St) (u3 : St) (u4 : St) (post : Int32 → St → St → St → St → St → Prop) : Prop := qX11_within x1 (0 : Int32) (9999 : Int32) (fun r_48 => ((r_48 = 0 → qX11_mean_b32 post u0 u1 u2 u3 u4) ∧ (¬ r_48 = 0 → qX11_within x2 (1 : Int32) (20 : Int32) (fun r_51 => ((r_51 = 0 → qX11_mean_b32 post u0 u1 u2 u3 u4) ∧ (¬ r_51 = 0 → ((((x1 + x2) - (1 : Int32)) ≤ (9999 : Int32) → ((¬ (gi u3 0) = 0 → ∃ n_56 : Nat, qX11_mean_L60 post n_56 x1 x2 (0 : Int32) (0 : Int32) u0 u1 u2 u3 u4) ∧ ((gi u3 0) = 0 → qX11_deny (6 : Int32) u0 (fun r_58 u_57 => (bz r_58 ∧ post r_58 u_57 u1 u2 u3 u4))))) ∧ (¬ ((x1 + x2) - (1 : Int32)) ≤ (9999 : Int32) → qX11_mean_b32 post u0 u1 u2 u3 u4))))))))
set_option maxRecDepth 100000 in
set_option maxHeartbeats 4000000 in
theorem kX11_mean {C : Cx} {o0 : Nat} {a0 : Nat → Nat} {aH : Nat → Nat} {aS : Nat → Nat} {aM : Nat → Nat} {aD : Nat → Nat} (hC : Fx C cX11_mean 5 RX11) (hR0 : xR C = rm 8) {post : Int32 → St → St → St → St → St → Prop} (hR : RZ C cX11_mean 5 (fun u : St × St × St × St × St => (wX11 o0 a0 (xy C) u.1 (wX2 (a0 7) aH (xy C) u.2.1 (wX2 (a0 8) aS (xy C) u.2.2.1 (wX7 (a0 9) aM (xy C) u.2.2.2.1 (wX3 (a0 15) aD (xy C) u.2.2.2.2 [])))))) (fun r u => post r u.1 u.2.1 u.2.2.1 u.2.2.2.1 u.2.2.2.2)) {x1 : Int32} {x2 : Int32} {u0 : St} {u1 : St} {u2 : St} {u3 : St} {u4 : St} (h : qX11_mean  x1 x2 u0 u1 u2 u3 u4 post) : G C 0 0 5 (wX11 o0 a0 (xy C) u0 (wX2 (a0 7) aH (xy C) u1 (wX2 (a0 8) aS (xy C) u2 (wX7 (a0 9) aM (xy C) u3 (wX3 (a0 15) aD (xy C) u4 []))))) 0 [(0, .ref o0), (1, .int x1), (2, .int x2)] [] := by
  refine g_iload_n (pc := 0) hC 1 dX11_mean_0 rfl rfl ?_
  refine g_iconst (pc := 1) (v := 0) hC dX11_mean_1 (by decide) ?_
  refine g_sipush (pc := 2) (v := 9999) hC dX11_mean_2 (by decide) ?_
  refine g_callS_i (pc := 5) (wd := fun (_ : Unit) Y => Y) (F := fun Z => Z) (X := []) (As := [.int x1, .int (0 : Int32), .int (9999 : Int32)]) (rest := []) (u := ()) hC (fun _ _ => rfl) (fun _ => rfl) (ctX11_within h) wvX11_within ml_X11_104 rfl (rmok hR0 rfl) ⟨Nat.zero_le _, Nat.zero_le _⟩ rfl (Nat.le_of_ble_eq_true rfl) dX11_mean_5 (fun r_48 u_49 h => ?_)
  refine g_if_eq (pc := 8) (tgt := 32) hC dX11_mean_8 (by decide) (fun c_50 => ?_) (fun c_50 => ?_)
  · have h := h.1 c_50
    refine g_sub (lv' := [(0, .ref o0)]) [0] rfl ?_
    exact kX11_mean_b32 hC hR0 hR   h
  · have h := h.2 c_50
    refine g_iload_n (pc := 11) hC 2 dX11_mean_11 rfl rfl ?_
    refine g_iconst (pc := 12) (v := 1) hC dX11_mean_12 (by decide) ?_
    refine g_bipush (pc := 13) (v := 20) hC dX11_mean_13 (by decide) ?_
    refine g_callS_i (pc := 15) (wd := fun (_ : Unit) Y => Y) (F := fun Z => Z) (X := []) (As := [.int x2, .int (1 : Int32), .int (20 : Int32)]) (rest := []) (u := ()) hC (fun _ _ => rfl) (fun _ => rfl) (ctX11_within h) wvX11_within ml_X11_104 rfl (rmok hR0 rfl) ⟨Nat.zero_le _, Nat.zero_le _⟩ rfl (Nat.le_of_ble_eq_true rfl) dX11_mean_15 (fun r_51 u_52 h => ?_)
    refine g_if_eq (pc := 18) (tgt := 32) hC dX11_mean_18 (by decide) (fun c_53 => ?_) (fun c_53 => ?_)
    · have h := h.1 c_53
      refine g_sub (lv' := [(0, .ref o0)]) [0] rfl ?_
      exact kX11_mean_b32 hC hR0 hR   h
    · have h := h.2 c_53
      refine g_iload_n (pc := 21) hC 1 dX11_mean_21 rfl rfl ?_
      refine g_iload_n (pc := 22) hC 2 dX11_mean_22 rfl rfl ?_
      refine g_iadd (pc := 23) hC dX11_mean_23 ?_
      refine g_iconst (pc := 24) (v := 1) hC dX11_mean_24 (by decide) ?_
      refine g_isub (pc := 25) hC dX11_mean_25 ?_
      refine g_sipush (pc := 26) (v := 9999) hC dX11_mean_26 (by decide) ?_
      refine g_icmp_le (pc := 29) (tgt := 38) hC dX11_mean_29 (by decide) (fun c_54 => ?_) (fun c_54 => ?_)
      · have h := h.1 c_54
        refine g_aload_n (pc := 38) hC 0 dX11_mean_38 rfl rfl ?_
        refine getX11_9 (pc := 39) hC (F := fun Z => Z) (X := []) (fun _ => rfl) fl_X11_56 dX11_mean_39 ?_
        refine getX7_0 (pc := 42) hC (F := fun Z => (wX11 o0 a0 (xy C) u0 (wX2 (a0 7) aH (xy C) u1 (wX2 (a0 8) aS (xy C) u2 Z)))) (X := (wX11 o0 a0 (xy C) u0 (wX2 (a0 7) aH (xy C) u1 (wX2 (a0 8) aS (xy C) u2 [])))) (fun _ => rfl) fl_X11_364 dX11_mean_42 ?_
        refine g_if_ne (pc := 45) (tgt := 55) hC dX11_mean_45 (by decide) (fun c_55 => ?_) (fun c_55 => ?_)
        · have h := h.1 c_55
          refine g_iconst (pc := 55) (v := 0) hC dX11_mean_55 (by decide) ?_
          refine g_istore_n (pc := 56) (lv' := [(3, .int (0 : Int32)), (0, .ref o0), (1, .int x1), (2, .int x2)]) hC dX11_mean_56 rfl (Nat.le_of_ble_eq_true rfl) rfl ?_
          refine g_iconst (pc := 57) (v := 0) hC dX11_mean_57 (by decide) ?_
          refine g_istore (pc := 58) (lv' := [(4, .int (0 : Int32)), (3, .int (0 : Int32)), (0, .ref o0), (1, .int x1), (2, .int x2)]) hC dX11_mean_58 (Nat.le_of_ble_eq_true rfl) rfl ?_
          refine g_sub (lv' := [(0, .ref o0), (1, .int x1), (2, .int x2), (3, .int (0 : Int32)), (4, .int (0 : Int32))]) [2, 3, 4, 1, 0] rfl ?_
          obtain ⟨n_56, h⟩ := h
          exact kX11_mean_L60 hC hR0 hR   n_56 _ _ _ _ _ _ _ _ _ h
        · have h := h.2 c_55
          refine g_aload_n (pc := 48) hC 0 dX11_mean_48 rfl rfl ?_
          refine g_bipush (pc := 49) (v := 6) hC dX11_mean_49 (by decide) ?_
          refine g_callV_i (pc := 51) (wd := fun (u : St) Y => (wX11 o0 a0 (xy C) u Y)) (F := fun Z => Z) (X := []) (As := [.int (6 : Int32)]) (rest := []) (u := u0) hC (fun _ _ => rfl) (fun _ => rfl) (ctX11_deny h) wvX11_deny ml_X11_108 (ci := 9) (q0 := 0) rfl rfl rfl rfl (rmok hR0 rfl) ⟨Nat.zero_le _, Nat.zero_le _⟩ rfl (Nat.le_of_ble_eq_true rfl) dX11_mean_51 (fun r_58 u_57 h => ?_)
          exact hR _ _ _ (u_57, u1, u2, u3, u4) dX11_mean_54 h.1 h.2
      · have h := h.2 c_54
        refine g_sub (lv' := [(0, .ref o0)]) [0] rfl ?_
        exact kX11_mean_b32 hC hR0 hR   h
theorem ctX11_mean {l : Launch} {D : va_G} {cy : Nat → ClassId} {kd : Nat → Nat} {o0 : Nat} {a0 : Nat → Nat} {aH : Nat → Nat} {aS : Nat → Nat} {aM : Nat → Nat} {aD : Nat → Nat} {x1 : Int32} {x2 : Int32} {u0 : St} {u1 : St} {u2 : St} {u3 : St} {u4 : St} {post : Int32 → St → St → St → St → St → Prop} (h : qX11_mean x1 x2 u0 u1 u2 u3 u4 post) : CtI l D cy kd yX11_mean cX11_mean 5 8 .boolean [.ref o0, .int x1, .int x2] (fun u : St × St × St × St × St => (wX11 o0 a0 cy u.1 (wX2 (a0 7) aH cy u.2.1 (wX2 (a0 8) aS cy u.2.2.1 (wX7 (a0 9) aM cy u.2.2.2.1 (wX3 (a0 15) aD cy u.2.2.2.2 [])))))) (u0, u1, u2, u3, u4) (fun r u => post r u.1 u.2.1 u.2.2.1 u.2.2.2.1 u.2.2.2.2) := met_z (by decide) (Nat.le_of_ble_eq_true rfl) (fun C e1 e2 e3 e4 e5 hC hR => by subst e1 e2 e3 e4; exact kX11_mean hC e5 hR h)
theorem dX11_mark_0 : decode cX11_mark 0 = .ok (.aload_n 0, 1) := by decide +kernel
theorem dX11_mark_1 : decode cX11_mark 1 = .ok (.getfield 66, 3) := by decide +kernel
theorem dX11_mark_4 : decode cX11_mark 4 = .ok (.getfield 391, 3) := by decide +kernel
theorem dX11_mark_7 : decode cX11_mark 7 = .ok (.iconst 3, 1) := by decide +kernel
theorem dX11_mark_8 : decode cX11_mark 8 = .ok (.if_icmp .lt 9, 3) := by decide +kernel
theorem dX11_mark_11 : decode cX11_mark 11 = .ok (.aload_n 0, 1) := by decide +kernel
theorem dX11_mark_12 : decode cX11_mark 12 = .ok (.iconst 4, 1) := by decide +kernel
theorem dX11_mark_13 : decode cX11_mark 13 = .ok (.invokevirtual 127, 3) := by decide +kernel
theorem dX11_mark_16 : decode cX11_mark 16 = .ok (.ireturn, 1) := by decide +kernel
theorem dX11_mark_17 : decode cX11_mark 17 = .ok (.aload_n 0, 1) := by decide +kernel
theorem dX11_mark_18 : decode cX11_mark 18 = .ok (.getfield 66, 3) := by decide +kernel
theorem dX11_mark_21 : decode cX11_mark 21 = .ok (.aload_n 0, 1) := by decide +kernel
theorem dX11_mark_22 : decode cX11_mark 22 = .ok (.getfield 46, 3) := by decide +kernel
theorem dX11_mark_25 : decode cX11_mark 25 = .ok (.aload_n 0, 1) := by decide +kernel
theorem dX11_mark_26 : decode cX11_mark 26 = .ok (.getfield 56, 3) := by decide +kernel
theorem dX11_mark_29 : decode cX11_mark 29 = .ok (.invokevirtual 394, 3) := by decide +kernel
theorem dX11_mark_32 : decode cX11_mark 32 = .ok (.aload_n 0, 1) := by decide +kernel
theorem dX11_mark_33 : decode cX11_mark 33 = .ok (.aload_n 0, 1) := by decide +kernel
theorem dX11_mark_34 : decode cX11_mark 34 = .ok (.getfield 66, 3) := by decide +kernel
theorem dX11_mark_37 : decode cX11_mark 37 = .ok (.getfield 391, 3) := by decide +kernel
theorem dX11_mark_40 : decode cX11_mark 40 = .ok (.invokevirtual 166, 3) := by decide +kernel
theorem dX11_mark_43 : decode cX11_mark 43 = .ok (.ireturn, 1) := by decide +kernel
def qX11_mark   (u0 : St) (u1 : St) (u2 : St) (u3 : St) (u4 : St) (u5 : St) (u6 : St) (u7 : St) (u8 : St) (u9 : St) (post : Int32 → St → St → St → St → St → St → St → St → St → St → Prop) : Prop := (((gi u3 0) < (3 : Int32) → qX4_keep u3 u4 u5 u6 u7 u8 u9 u1 u2 (fun u_18 u_19 u_20 u_21 u_22 u_23 u_24 u_25 u_26 => qX11_answer (gi u_18 0) u0 (fun r_29 u_28 => post r_29 u_28 u_25 u_26 u_18 u_19 u_20 u_21 u_22 u_23 u_24))) ∧ (¬ (gi u3 0) < (3 : Int32) → qX11_refuse (4 : Int32) u0 (fun r_32 u_31 => post r_32 u_31 u1 u2 u3 u4 u5 u6 u7 u8 u9)))
set_option maxRecDepth 100000 in
set_option maxHeartbeats 4000000 in
theorem kX11_mark {C : Cx} {o0 : Nat} {a0 : Nat → Nat} {aH : Nat → Nat} {aM : Nat → Nat} {aK : Nat → Nat} {hm tm : Nat → Nat} {b0 : Nat → Nat} {b1 : Nat → Nat} {b2 : Nat → Nat} {b3 : Nat → Nat} {b4 : Nat → Nat} {b5 : Nat → Nat} (hC : Fx C cX11_mark 1 RX11) (hR0 : xR C = rm 4) {post : Int32 → St → St → St → St → St → St → St → St → St → St → Prop} (hR : RI C cX11_mark 1 (fun u : St × St × St × St × St × St × St × St × St × St => (wX11 o0 a0 (xy C) u.1 (wX2 (a0 7) aH (xy C) u.2.1 (wX7 (a0 9) aM (xy C) u.2.2.1 (wX4 (a0 11) aK hm tm (xy C) u.2.2.2.1 (wX2 (hm 0) b0 (xy C) u.2.2.2.2.1 (wX2 (hm 1) b1 (xy C) u.2.2.2.2.2.1 (wX2 (hm 2) b2 (xy C) u.2.2.2.2.2.2.1 (wX7 (tm 0) b3 (xy C) u.2.2.2.2.2.2.2.1 (wX7 (tm 1) b4 (xy C) u.2.2.2.2.2.2.2.2.1 (wX7 (tm 2) b5 (xy C) u.2.2.2.2.2.2.2.2.2 []))))))))))) (fun r u => post r u.1 u.2.1 u.2.2.1 u.2.2.2.1 u.2.2.2.2.1 u.2.2.2.2.2.1 u.2.2.2.2.2.2.1 u.2.2.2.2.2.2.2.1 u.2.2.2.2.2.2.2.2.1 u.2.2.2.2.2.2.2.2.2))  {u0 : St} {u1 : St} {u2 : St} {u3 : St} {u4 : St} {u5 : St} {u6 : St} {u7 : St} {u8 : St} {u9 : St} (h : qX11_mark   u0 u1 u2 u3 u4 u5 u6 u7 u8 u9 post) : G C 0 0 1 (wX11 o0 a0 (xy C) u0 (wX2 (a0 7) aH (xy C) u1 (wX7 (a0 9) aM (xy C) u2 (wX4 (a0 11) aK hm tm (xy C) u3 (wX2 (hm 0) b0 (xy C) u4 (wX2 (hm 1) b1 (xy C) u5 (wX2 (hm 2) b2 (xy C) u6 (wX7 (tm 0) b3 (xy C) u7 (wX7 (tm 1) b4 (xy C) u8 (wX7 (tm 2) b5 (xy C) u9 [])))))))))) 0 [(0, .ref o0)] [] := by
  refine g_aload_n (pc := 0) hC 0 dX11_mark_0 rfl rfl ?_
  refine getX11_11 (pc := 1) hC (F := fun Z => Z) (X := []) (fun _ => rfl) fl_X11_66 dX11_mark_1 ?_
  refine getX4_0 (pc := 4) hC (F := fun Z => (wX11 o0 a0 (xy C) u0 (wX2 (a0 7) aH (xy C) u1 (wX7 (a0 9) aM (xy C) u2 Z)))) (X := (wX11 o0 a0 (xy C) u0 (wX2 (a0 7) aH (xy C) u1 (wX7 (a0 9) aM (xy C) u2 [])))) (fun _ => rfl) fl_X11_391 dX11_mark_4 ?_
  refine g_iconst (pc := 7) (v := 3) hC dX11_mark_7 (by decide) ?_
  refine g_icmp_lt (pc := 8) (tgt := 17) hC dX11_mark_8 (by decide) (fun c_17 => ?_) (fun c_17 => ?_)
  · have h := h.1 c_17
    refine g_aload_n (pc := 17) hC 0 dX11_mark_17 rfl rfl ?_
    refine getX11_11 (pc := 18) hC (F := fun Z => Z) (X := []) (fun _ => rfl) fl_X11_66 dX11_mark_18 ?_
    refine g_aload_n (pc := 21) hC 0 dX11_mark_21 rfl rfl ?_
    refine getX11_7 (pc := 22) hC (F := fun Z => Z) (X := []) (fun _ => rfl) fl_X11_46 dX11_mark_22 ?_
    refine g_aload_n (pc := 25) hC 0 dX11_mark_25 rfl rfl ?_
    refine getX11_9 (pc := 26) hC (F := fun Z => Z) (X := []) (fun _ => rfl) fl_X11_56 dX11_mark_26 ?_
    refine g_swap (F := fun Z => (wX11 o0 a0 (xy C) u0 Z)) (X := (wX11 o0 a0 (xy C) u0 [])) (f := fun Z => (wX2 (a0 7) aH (xy C) u1 Z)) (g := fun Z => (wX7 (a0 9) aM (xy C) u2 Z)) (Y := (wX4 (a0 11) aK hm tm (xy C) u3 (wX2 (hm 0) b0 (xy C) u4 (wX2 (hm 1) b1 (xy C) u5 (wX2 (hm 2) b2 (xy C) u6 (wX7 (tm 0) b3 (xy C) u7 (wX7 (tm 1) b4 (xy C) u8 (wX7 (tm 2) b5 (xy C) u9 [])))))))) (fun _ => rfl) (fun _ => rfl) (fun _ => rfl) ?_
    refine g_swap (F := fun Z => (wX11 o0 a0 (xy C) u0 (wX7 (a0 9) aM (xy C) u2 Z))) (X := (wX11 o0 a0 (xy C) u0 (wX7 (a0 9) aM (xy C) u2 []))) (f := fun Z => (wX2 (a0 7) aH (xy C) u1 Z)) (g := fun Z => (wX4 (a0 11) aK hm tm (xy C) u3 Z)) (Y := (wX2 (hm 0) b0 (xy C) u4 (wX2 (hm 1) b1 (xy C) u5 (wX2 (hm 2) b2 (xy C) u6 (wX7 (tm 0) b3 (xy C) u7 (wX7 (tm 1) b4 (xy C) u8 (wX7 (tm 2) b5 (xy C) u9 []))))))) (fun _ => rfl) (fun _ => rfl) (fun _ => rfl) ?_
    refine g_swap (F := fun Z => (wX11 o0 a0 (xy C) u0 (wX7 (a0 9) aM (xy C) u2 (wX4 (a0 11) aK hm tm (xy C) u3 Z)))) (X := (wX11 o0 a0 (xy C) u0 (wX7 (a0 9) aM (xy C) u2 (wX4 (a0 11) aK hm tm (xy C) u3 [])))) (f := fun Z => (wX2 (a0 7) aH (xy C) u1 Z)) (g := fun Z => (wX2 (hm 0) b0 (xy C) u4 Z)) (Y := (wX2 (hm 1) b1 (xy C) u5 (wX2 (hm 2) b2 (xy C) u6 (wX7 (tm 0) b3 (xy C) u7 (wX7 (tm 1) b4 (xy C) u8 (wX7 (tm 2) b5 (xy C) u9 [])))))) (fun _ => rfl) (fun _ => rfl) (fun _ => rfl) ?_
    refine g_swap (F := fun Z => (wX11 o0 a0 (xy C) u0 (wX7 (a0 9) aM (xy C) u2 (wX4 (a0 11) aK hm tm (xy C) u3 (wX2 (hm 0) b0 (xy C) u4 Z))))) (X := (wX11 o0 a0 (xy C) u0 (wX7 (a0 9) aM (xy C) u2 (wX4 (a0 11) aK hm tm (xy C) u3 (wX2 (hm 0) b0 (xy C) u4 []))))) (f := fun Z => (wX2 (a0 7) aH (xy C) u1 Z)) (g := fun Z => (wX2 (hm 1) b1 (xy C) u5 Z)) (Y := (wX2 (hm 2) b2 (xy C) u6 (wX7 (tm 0) b3 (xy C) u7 (wX7 (tm 1) b4 (xy C) u8 (wX7 (tm 2) b5 (xy C) u9 []))))) (fun _ => rfl) (fun _ => rfl) (fun _ => rfl) ?_
    refine g_swap (F := fun Z => (wX11 o0 a0 (xy C) u0 (wX7 (a0 9) aM (xy C) u2 (wX4 (a0 11) aK hm tm (xy C) u3 (wX2 (hm 0) b0 (xy C) u4 (wX2 (hm 1) b1 (xy C) u5 Z)))))) (X := (wX11 o0 a0 (xy C) u0 (wX7 (a0 9) aM (xy C) u2 (wX4 (a0 11) aK hm tm (xy C) u3 (wX2 (hm 0) b0 (xy C) u4 (wX2 (hm 1) b1 (xy C) u5 [])))))) (f := fun Z => (wX2 (a0 7) aH (xy C) u1 Z)) (g := fun Z => (wX2 (hm 2) b2 (xy C) u6 Z)) (Y := (wX7 (tm 0) b3 (xy C) u7 (wX7 (tm 1) b4 (xy C) u8 (wX7 (tm 2) b5 (xy C) u9 [])))) (fun _ => rfl) (fun _ => rfl) (fun _ => rfl) ?_
    refine g_swap (F := fun Z => (wX11 o0 a0 (xy C) u0 (wX7 (a0 9) aM (xy C) u2 (wX4 (a0 11) aK hm tm (xy C) u3 (wX2 (hm 0) b0 (xy C) u4 (wX2 (hm 1) b1 (xy C) u5 (wX2 (hm 2) b2 (xy C) u6 Z))))))) (X := (wX11 o0 a0 (xy C) u0 (wX7 (a0 9) aM (xy C) u2 (wX4 (a0 11) aK hm tm (xy C) u3 (wX2 (hm 0) b0 (xy C) u4 (wX2 (hm 1) b1 (xy C) u5 (wX2 (hm 2) b2 (xy C) u6 []))))))) (f := fun Z => (wX2 (a0 7) aH (xy C) u1 Z)) (g := fun Z => (wX7 (tm 0) b3 (xy C) u7 Z)) (Y := (wX7 (tm 1) b4 (xy C) u8 (wX7 (tm 2) b5 (xy C) u9 []))) (fun _ => rfl) (fun _ => rfl) (fun _ => rfl) ?_
    refine g_swap (F := fun Z => (wX11 o0 a0 (xy C) u0 (wX7 (a0 9) aM (xy C) u2 (wX4 (a0 11) aK hm tm (xy C) u3 (wX2 (hm 0) b0 (xy C) u4 (wX2 (hm 1) b1 (xy C) u5 (wX2 (hm 2) b2 (xy C) u6 (wX7 (tm 0) b3 (xy C) u7 Z)))))))) (X := (wX11 o0 a0 (xy C) u0 (wX7 (a0 9) aM (xy C) u2 (wX4 (a0 11) aK hm tm (xy C) u3 (wX2 (hm 0) b0 (xy C) u4 (wX2 (hm 1) b1 (xy C) u5 (wX2 (hm 2) b2 (xy C) u6 (wX7 (tm 0) b3 (xy C) u7 [])))))))) (f := fun Z => (wX2 (a0 7) aH (xy C) u1 Z)) (g := fun Z => (wX7 (tm 1) b4 (xy C) u8 Z)) (Y := (wX7 (tm 2) b5 (xy C) u9 [])) (fun _ => rfl) (fun _ => rfl) (fun _ => rfl) ?_
    refine g_swap (F := fun Z => (wX11 o0 a0 (xy C) u0 (wX7 (a0 9) aM (xy C) u2 (wX4 (a0 11) aK hm tm (xy C) u3 (wX2 (hm 0) b0 (xy C) u4 (wX2 (hm 1) b1 (xy C) u5 (wX2 (hm 2) b2 (xy C) u6 (wX7 (tm 0) b3 (xy C) u7 (wX7 (tm 1) b4 (xy C) u8 Z))))))))) (X := (wX11 o0 a0 (xy C) u0 (wX7 (a0 9) aM (xy C) u2 (wX4 (a0 11) aK hm tm (xy C) u3 (wX2 (hm 0) b0 (xy C) u4 (wX2 (hm 1) b1 (xy C) u5 (wX2 (hm 2) b2 (xy C) u6 (wX7 (tm 0) b3 (xy C) u7 (wX7 (tm 1) b4 (xy C) u8 []))))))))) (f := fun Z => (wX2 (a0 7) aH (xy C) u1 Z)) (g := fun Z => (wX7 (tm 2) b5 (xy C) u9 Z)) (Y := []) (fun _ => rfl) (fun _ => rfl) (fun _ => rfl) ?_
    refine g_swap (F := fun Z => (wX11 o0 a0 (xy C) u0 Z)) (X := (wX11 o0 a0 (xy C) u0 [])) (f := fun Z => (wX7 (a0 9) aM (xy C) u2 Z)) (g := fun Z => (wX4 (a0 11) aK hm tm (xy C) u3 Z)) (Y := (wX2 (hm 0) b0 (xy C) u4 (wX2 (hm 1) b1 (xy C) u5 (wX2 (hm 2) b2 (xy C) u6 (wX7 (tm 0) b3 (xy C) u7 (wX7 (tm 1) b4 (xy C) u8 (wX7 (tm 2) b5 (xy C) u9 (wX2 (a0 7) aH (xy C) u1 [])))))))) (fun _ => rfl) (fun _ => rfl) (fun _ => rfl) ?_
    refine g_swap (F := fun Z => (wX11 o0 a0 (xy C) u0 (wX4 (a0 11) aK hm tm (xy C) u3 Z))) (X := (wX11 o0 a0 (xy C) u0 (wX4 (a0 11) aK hm tm (xy C) u3 []))) (f := fun Z => (wX7 (a0 9) aM (xy C) u2 Z)) (g := fun Z => (wX2 (hm 0) b0 (xy C) u4 Z)) (Y := (wX2 (hm 1) b1 (xy C) u5 (wX2 (hm 2) b2 (xy C) u6 (wX7 (tm 0) b3 (xy C) u7 (wX7 (tm 1) b4 (xy C) u8 (wX7 (tm 2) b5 (xy C) u9 (wX2 (a0 7) aH (xy C) u1 []))))))) (fun _ => rfl) (fun _ => rfl) (fun _ => rfl) ?_
    refine g_swap (F := fun Z => (wX11 o0 a0 (xy C) u0 (wX4 (a0 11) aK hm tm (xy C) u3 (wX2 (hm 0) b0 (xy C) u4 Z)))) (X := (wX11 o0 a0 (xy C) u0 (wX4 (a0 11) aK hm tm (xy C) u3 (wX2 (hm 0) b0 (xy C) u4 [])))) (f := fun Z => (wX7 (a0 9) aM (xy C) u2 Z)) (g := fun Z => (wX2 (hm 1) b1 (xy C) u5 Z)) (Y := (wX2 (hm 2) b2 (xy C) u6 (wX7 (tm 0) b3 (xy C) u7 (wX7 (tm 1) b4 (xy C) u8 (wX7 (tm 2) b5 (xy C) u9 (wX2 (a0 7) aH (xy C) u1 [])))))) (fun _ => rfl) (fun _ => rfl) (fun _ => rfl) ?_
    refine g_swap (F := fun Z => (wX11 o0 a0 (xy C) u0 (wX4 (a0 11) aK hm tm (xy C) u3 (wX2 (hm 0) b0 (xy C) u4 (wX2 (hm 1) b1 (xy C) u5 Z))))) (X := (wX11 o0 a0 (xy C) u0 (wX4 (a0 11) aK hm tm (xy C) u3 (wX2 (hm 0) b0 (xy C) u4 (wX2 (hm 1) b1 (xy C) u5 []))))) (f := fun Z => (wX7 (a0 9) aM (xy C) u2 Z)) (g := fun Z => (wX2 (hm 2) b2 (xy C) u6 Z)) (Y := (wX7 (tm 0) b3 (xy C) u7 (wX7 (tm 1) b4 (xy C) u8 (wX7 (tm 2) b5 (xy C) u9 (wX2 (a0 7) aH (xy C) u1 []))))) (fun _ => rfl) (fun _ => rfl) (fun _ => rfl) ?_
    refine g_swap (F := fun Z => (wX11 o0 a0 (xy C) u0 (wX4 (a0 11) aK hm tm (xy C) u3 (wX2 (hm 0) b0 (xy C) u4 (wX2 (hm 1) b1 (xy C) u5 (wX2 (hm 2) b2 (xy C) u6 Z)))))) (X := (wX11 o0 a0 (xy C) u0 (wX4 (a0 11) aK hm tm (xy C) u3 (wX2 (hm 0) b0 (xy C) u4 (wX2 (hm 1) b1 (xy C) u5 (wX2 (hm 2) b2 (xy C) u6 [])))))) (f := fun Z => (wX7 (a0 9) aM (xy C) u2 Z)) (g := fun Z => (wX7 (tm 0) b3 (xy C) u7 Z)) (Y := (wX7 (tm 1) b4 (xy C) u8 (wX7 (tm 2) b5 (xy C) u9 (wX2 (a0 7) aH (xy C) u1 [])))) (fun _ => rfl) (fun _ => rfl) (fun _ => rfl) ?_
    refine g_swap (F := fun Z => (wX11 o0 a0 (xy C) u0 (wX4 (a0 11) aK hm tm (xy C) u3 (wX2 (hm 0) b0 (xy C) u4 (wX2 (hm 1) b1 (xy C) u5 (wX2 (hm 2) b2 (xy C) u6 (wX7 (tm 0) b3 (xy C) u7 Z))))))) (X := (wX11 o0 a0 (xy C) u0 (wX4 (a0 11) aK hm tm (xy C) u3 (wX2 (hm 0) b0 (xy C) u4 (wX2 (hm 1) b1 (xy C) u5 (wX2 (hm 2) b2 (xy C) u6 (wX7 (tm 0) b3 (xy C) u7 []))))))) (f := fun Z => (wX7 (a0 9) aM (xy C) u2 Z)) (g := fun Z => (wX7 (tm 1) b4 (xy C) u8 Z)) (Y := (wX7 (tm 2) b5 (xy C) u9 (wX2 (a0 7) aH (xy C) u1 []))) (fun _ => rfl) (fun _ => rfl) (fun _ => rfl) ?_
    refine g_swap (F := fun Z => (wX11 o0 a0 (xy C) u0 (wX4 (a0 11) aK hm tm (xy C) u3 (wX2 (hm 0) b0 (xy C) u4 (wX2 (hm 1) b1 (xy C) u5 (wX2 (hm 2) b2 (xy C) u6 (wX7 (tm 0) b3 (xy C) u7 (wX7 (tm 1) b4 (xy C) u8 Z)))))))) (X := (wX11 o0 a0 (xy C) u0 (wX4 (a0 11) aK hm tm (xy C) u3 (wX2 (hm 0) b0 (xy C) u4 (wX2 (hm 1) b1 (xy C) u5 (wX2 (hm 2) b2 (xy C) u6 (wX7 (tm 0) b3 (xy C) u7 (wX7 (tm 1) b4 (xy C) u8 [])))))))) (f := fun Z => (wX7 (a0 9) aM (xy C) u2 Z)) (g := fun Z => (wX7 (tm 2) b5 (xy C) u9 Z)) (Y := (wX2 (a0 7) aH (xy C) u1 [])) (fun _ => rfl) (fun _ => rfl) (fun _ => rfl) ?_
    refine g_swap (F := fun Z => (wX11 o0 a0 (xy C) u0 (wX4 (a0 11) aK hm tm (xy C) u3 (wX2 (hm 0) b0 (xy C) u4 (wX2 (hm 1) b1 (xy C) u5 (wX2 (hm 2) b2 (xy C) u6 (wX7 (tm 0) b3 (xy C) u7 (wX7 (tm 1) b4 (xy C) u8 (wX7 (tm 2) b5 (xy C) u9 Z))))))))) (X := (wX11 o0 a0 (xy C) u0 (wX4 (a0 11) aK hm tm (xy C) u3 (wX2 (hm 0) b0 (xy C) u4 (wX2 (hm 1) b1 (xy C) u5 (wX2 (hm 2) b2 (xy C) u6 (wX7 (tm 0) b3 (xy C) u7 (wX7 (tm 1) b4 (xy C) u8 (wX7 (tm 2) b5 (xy C) u9 []))))))))) (f := fun Z => (wX7 (a0 9) aM (xy C) u2 Z)) (g := fun Z => (wX2 (a0 7) aH (xy C) u1 Z)) (Y := []) (fun _ => rfl) (fun _ => rfl) (fun _ => rfl) ?_
    refine g_callV_v (pc := 29) (wd := fun (u : St × St × St × St × St × St × St × St × St) Y => (wX4 (a0 11) aK hm tm (xy C) u.1 (wX2 (hm 0) b0 (xy C) u.2.1 (wX2 (hm 1) b1 (xy C) u.2.2.1 (wX2 (hm 2) b2 (xy C) u.2.2.2.1 (wX7 (tm 0) b3 (xy C) u.2.2.2.2.1 (wX7 (tm 1) b4 (xy C) u.2.2.2.2.2.1 (wX7 (tm 2) b5 (xy C) u.2.2.2.2.2.2.1 (wX2 (a0 7) aH (xy C) u.2.2.2.2.2.2.2.1 (wX7 (a0 9) aM (xy C) u.2.2.2.2.2.2.2.2 Y)))))))))) (F := fun Z => (wX11 o0 a0 (xy C) u0 Z)) (X := (wX11 o0 a0 (xy C) u0 [])) (As := [.ref (a0 7), .ref (a0 9)]) (rest := []) (u := (u3, u4, u5, u6, u7, u8, u9, u1, u2)) hC (fun _ _ => rfl) (fun _ => rfl) (ctX4_keep h) wvX4_keep ml_X11_394 (ci := 3) (q0 := 0) rfl rfl rfl rfl (rmok hR0 rfl) ⟨Nat.zero_le _, Nat.zero_le _⟩ rfl (Nat.le_of_ble_eq_true rfl) dX11_mark_29 (fun u_27 h => ?_)
    obtain ⟨u_18, u_19, u_20, u_21, u_22, u_23, u_24, u_25, u_26⟩ := u_27
    refine g_aload_n (pc := 32) hC 0 dX11_mark_32 rfl rfl ?_
    refine g_aload_n (pc := 33) hC 0 dX11_mark_33 rfl rfl ?_
    refine getX11_11 (pc := 34) hC (F := fun Z => Z) (X := []) (fun _ => rfl) fl_X11_66 dX11_mark_34 ?_
    refine getX4_0 (pc := 37) hC (F := fun Z => (wX11 o0 a0 (xy C) u0 Z)) (X := (wX11 o0 a0 (xy C) u0 [])) (fun _ => rfl) fl_X11_391 dX11_mark_37 ?_
    refine g_callV_i (pc := 40) (wd := fun (u : St) Y => (wX11 o0 a0 (xy C) u Y)) (F := fun Z => Z) (X := []) (As := [.int (gi u_18 0)]) (rest := []) (u := u0) hC (fun _ _ => rfl) (fun _ => rfl) (ctX11_answer h) wvX11_answer ml_X11_166 (ci := 9) (q0 := 0) rfl rfl rfl rfl (rmok hR0 rfl) ⟨Nat.zero_le _, Nat.zero_le _⟩ rfl (Nat.le_of_ble_eq_true rfl) dX11_mark_40 (fun r_29 u_28 h => ?_)
    refine g_swap (F := fun Z => (wX11 o0 a0 (xy C) u_28 (wX4 (a0 11) aK hm tm (xy C) u_18 (wX2 (hm 0) b0 (xy C) u_19 (wX2 (hm 1) b1 (xy C) u_20 (wX2 (hm 2) b2 (xy C) u_21 (wX7 (tm 0) b3 (xy C) u_22 (wX7 (tm 1) b4 (xy C) u_23 Z)))))))) (X := (wX11 o0 a0 (xy C) u_28 (wX4 (a0 11) aK hm tm (xy C) u_18 (wX2 (hm 0) b0 (xy C) u_19 (wX2 (hm 1) b1 (xy C) u_20 (wX2 (hm 2) b2 (xy C) u_21 (wX7 (tm 0) b3 (xy C) u_22 (wX7 (tm 1) b4 (xy C) u_23 [])))))))) (f := fun Z => (wX7 (tm 2) b5 (xy C) u_24 Z)) (g := fun Z => (wX2 (a0 7) aH (xy C) u_25 Z)) (Y := (wX7 (a0 9) aM (xy C) u_26 [])) (fun _ => rfl) (fun _ => rfl) (fun _ => rfl) ?_
    refine g_swap (F := fun Z => (wX11 o0 a0 (xy C) u_28 (wX4 (a0 11) aK hm tm (xy C) u_18 (wX2 (hm 0) b0 (xy C) u_19 (wX2 (hm 1) b1 (xy C) u_20 (wX2 (hm 2) b2 (xy C) u_21 (wX7 (tm 0) b3 (xy C) u_22 (wX7 (tm 1) b4 (xy C) u_23 (wX2 (a0 7) aH (xy C) u_25 Z))))))))) (X := (wX11 o0 a0 (xy C) u_28 (wX4 (a0 11) aK hm tm (xy C) u_18 (wX2 (hm 0) b0 (xy C) u_19 (wX2 (hm 1) b1 (xy C) u_20 (wX2 (hm 2) b2 (xy C) u_21 (wX7 (tm 0) b3 (xy C) u_22 (wX7 (tm 1) b4 (xy C) u_23 (wX2 (a0 7) aH (xy C) u_25 []))))))))) (f := fun Z => (wX7 (tm 2) b5 (xy C) u_24 Z)) (g := fun Z => (wX7 (a0 9) aM (xy C) u_26 Z)) (Y := []) (fun _ => rfl) (fun _ => rfl) (fun _ => rfl) ?_
    refine g_swap (F := fun Z => (wX11 o0 a0 (xy C) u_28 (wX4 (a0 11) aK hm tm (xy C) u_18 (wX2 (hm 0) b0 (xy C) u_19 (wX2 (hm 1) b1 (xy C) u_20 (wX2 (hm 2) b2 (xy C) u_21 (wX7 (tm 0) b3 (xy C) u_22 Z))))))) (X := (wX11 o0 a0 (xy C) u_28 (wX4 (a0 11) aK hm tm (xy C) u_18 (wX2 (hm 0) b0 (xy C) u_19 (wX2 (hm 1) b1 (xy C) u_20 (wX2 (hm 2) b2 (xy C) u_21 (wX7 (tm 0) b3 (xy C) u_22 []))))))) (f := fun Z => (wX7 (tm 1) b4 (xy C) u_23 Z)) (g := fun Z => (wX2 (a0 7) aH (xy C) u_25 Z)) (Y := (wX7 (a0 9) aM (xy C) u_26 (wX7 (tm 2) b5 (xy C) u_24 []))) (fun _ => rfl) (fun _ => rfl) (fun _ => rfl) ?_
    refine g_swap (F := fun Z => (wX11 o0 a0 (xy C) u_28 (wX4 (a0 11) aK hm tm (xy C) u_18 (wX2 (hm 0) b0 (xy C) u_19 (wX2 (hm 1) b1 (xy C) u_20 (wX2 (hm 2) b2 (xy C) u_21 (wX7 (tm 0) b3 (xy C) u_22 (wX2 (a0 7) aH (xy C) u_25 Z)))))))) (X := (wX11 o0 a0 (xy C) u_28 (wX4 (a0 11) aK hm tm (xy C) u_18 (wX2 (hm 0) b0 (xy C) u_19 (wX2 (hm 1) b1 (xy C) u_20 (wX2 (hm 2) b2 (xy C) u_21 (wX7 (tm 0) b3 (xy C) u_22 (wX2 (a0 7) aH (xy C) u_25 [])))))))) (f := fun Z => (wX7 (tm 1) b4 (xy C) u_23 Z)) (g := fun Z => (wX7 (a0 9) aM (xy C) u_26 Z)) (Y := (wX7 (tm 2) b5 (xy C) u_24 [])) (fun _ => rfl) (fun _ => rfl) (fun _ => rfl) ?_
    refine g_swap (F := fun Z => (wX11 o0 a0 (xy C) u_28 (wX4 (a0 11) aK hm tm (xy C) u_18 (wX2 (hm 0) b0 (xy C) u_19 (wX2 (hm 1) b1 (xy C) u_20 (wX2 (hm 2) b2 (xy C) u_21 Z)))))) (X := (wX11 o0 a0 (xy C) u_28 (wX4 (a0 11) aK hm tm (xy C) u_18 (wX2 (hm 0) b0 (xy C) u_19 (wX2 (hm 1) b1 (xy C) u_20 (wX2 (hm 2) b2 (xy C) u_21 [])))))) (f := fun Z => (wX7 (tm 0) b3 (xy C) u_22 Z)) (g := fun Z => (wX2 (a0 7) aH (xy C) u_25 Z)) (Y := (wX7 (a0 9) aM (xy C) u_26 (wX7 (tm 1) b4 (xy C) u_23 (wX7 (tm 2) b5 (xy C) u_24 [])))) (fun _ => rfl) (fun _ => rfl) (fun _ => rfl) ?_
    refine g_swap (F := fun Z => (wX11 o0 a0 (xy C) u_28 (wX4 (a0 11) aK hm tm (xy C) u_18 (wX2 (hm 0) b0 (xy C) u_19 (wX2 (hm 1) b1 (xy C) u_20 (wX2 (hm 2) b2 (xy C) u_21 (wX2 (a0 7) aH (xy C) u_25 Z))))))) (X := (wX11 o0 a0 (xy C) u_28 (wX4 (a0 11) aK hm tm (xy C) u_18 (wX2 (hm 0) b0 (xy C) u_19 (wX2 (hm 1) b1 (xy C) u_20 (wX2 (hm 2) b2 (xy C) u_21 (wX2 (a0 7) aH (xy C) u_25 []))))))) (f := fun Z => (wX7 (tm 0) b3 (xy C) u_22 Z)) (g := fun Z => (wX7 (a0 9) aM (xy C) u_26 Z)) (Y := (wX7 (tm 1) b4 (xy C) u_23 (wX7 (tm 2) b5 (xy C) u_24 []))) (fun _ => rfl) (fun _ => rfl) (fun _ => rfl) ?_
    refine g_swap (F := fun Z => (wX11 o0 a0 (xy C) u_28 (wX4 (a0 11) aK hm tm (xy C) u_18 (wX2 (hm 0) b0 (xy C) u_19 (wX2 (hm 1) b1 (xy C) u_20 Z))))) (X := (wX11 o0 a0 (xy C) u_28 (wX4 (a0 11) aK hm tm (xy C) u_18 (wX2 (hm 0) b0 (xy C) u_19 (wX2 (hm 1) b1 (xy C) u_20 []))))) (f := fun Z => (wX2 (hm 2) b2 (xy C) u_21 Z)) (g := fun Z => (wX2 (a0 7) aH (xy C) u_25 Z)) (Y := (wX7 (a0 9) aM (xy C) u_26 (wX7 (tm 0) b3 (xy C) u_22 (wX7 (tm 1) b4 (xy C) u_23 (wX7 (tm 2) b5 (xy C) u_24 []))))) (fun _ => rfl) (fun _ => rfl) (fun _ => rfl) ?_
    refine g_swap (F := fun Z => (wX11 o0 a0 (xy C) u_28 (wX4 (a0 11) aK hm tm (xy C) u_18 (wX2 (hm 0) b0 (xy C) u_19 (wX2 (hm 1) b1 (xy C) u_20 (wX2 (a0 7) aH (xy C) u_25 Z)))))) (X := (wX11 o0 a0 (xy C) u_28 (wX4 (a0 11) aK hm tm (xy C) u_18 (wX2 (hm 0) b0 (xy C) u_19 (wX2 (hm 1) b1 (xy C) u_20 (wX2 (a0 7) aH (xy C) u_25 [])))))) (f := fun Z => (wX2 (hm 2) b2 (xy C) u_21 Z)) (g := fun Z => (wX7 (a0 9) aM (xy C) u_26 Z)) (Y := (wX7 (tm 0) b3 (xy C) u_22 (wX7 (tm 1) b4 (xy C) u_23 (wX7 (tm 2) b5 (xy C) u_24 [])))) (fun _ => rfl) (fun _ => rfl) (fun _ => rfl) ?_
    refine g_swap (F := fun Z => (wX11 o0 a0 (xy C) u_28 (wX4 (a0 11) aK hm tm (xy C) u_18 (wX2 (hm 0) b0 (xy C) u_19 Z)))) (X := (wX11 o0 a0 (xy C) u_28 (wX4 (a0 11) aK hm tm (xy C) u_18 (wX2 (hm 0) b0 (xy C) u_19 [])))) (f := fun Z => (wX2 (hm 1) b1 (xy C) u_20 Z)) (g := fun Z => (wX2 (a0 7) aH (xy C) u_25 Z)) (Y := (wX7 (a0 9) aM (xy C) u_26 (wX2 (hm 2) b2 (xy C) u_21 (wX7 (tm 0) b3 (xy C) u_22 (wX7 (tm 1) b4 (xy C) u_23 (wX7 (tm 2) b5 (xy C) u_24 [])))))) (fun _ => rfl) (fun _ => rfl) (fun _ => rfl) ?_
    refine g_swap (F := fun Z => (wX11 o0 a0 (xy C) u_28 (wX4 (a0 11) aK hm tm (xy C) u_18 (wX2 (hm 0) b0 (xy C) u_19 (wX2 (a0 7) aH (xy C) u_25 Z))))) (X := (wX11 o0 a0 (xy C) u_28 (wX4 (a0 11) aK hm tm (xy C) u_18 (wX2 (hm 0) b0 (xy C) u_19 (wX2 (a0 7) aH (xy C) u_25 []))))) (f := fun Z => (wX2 (hm 1) b1 (xy C) u_20 Z)) (g := fun Z => (wX7 (a0 9) aM (xy C) u_26 Z)) (Y := (wX2 (hm 2) b2 (xy C) u_21 (wX7 (tm 0) b3 (xy C) u_22 (wX7 (tm 1) b4 (xy C) u_23 (wX7 (tm 2) b5 (xy C) u_24 []))))) (fun _ => rfl) (fun _ => rfl) (fun _ => rfl) ?_
    refine g_swap (F := fun Z => (wX11 o0 a0 (xy C) u_28 (wX4 (a0 11) aK hm tm (xy C) u_18 Z))) (X := (wX11 o0 a0 (xy C) u_28 (wX4 (a0 11) aK hm tm (xy C) u_18 []))) (f := fun Z => (wX2 (hm 0) b0 (xy C) u_19 Z)) (g := fun Z => (wX2 (a0 7) aH (xy C) u_25 Z)) (Y := (wX7 (a0 9) aM (xy C) u_26 (wX2 (hm 1) b1 (xy C) u_20 (wX2 (hm 2) b2 (xy C) u_21 (wX7 (tm 0) b3 (xy C) u_22 (wX7 (tm 1) b4 (xy C) u_23 (wX7 (tm 2) b5 (xy C) u_24 []))))))) (fun _ => rfl) (fun _ => rfl) (fun _ => rfl) ?_
    refine g_swap (F := fun Z => (wX11 o0 a0 (xy C) u_28 (wX4 (a0 11) aK hm tm (xy C) u_18 (wX2 (a0 7) aH (xy C) u_25 Z)))) (X := (wX11 o0 a0 (xy C) u_28 (wX4 (a0 11) aK hm tm (xy C) u_18 (wX2 (a0 7) aH (xy C) u_25 [])))) (f := fun Z => (wX2 (hm 0) b0 (xy C) u_19 Z)) (g := fun Z => (wX7 (a0 9) aM (xy C) u_26 Z)) (Y := (wX2 (hm 1) b1 (xy C) u_20 (wX2 (hm 2) b2 (xy C) u_21 (wX7 (tm 0) b3 (xy C) u_22 (wX7 (tm 1) b4 (xy C) u_23 (wX7 (tm 2) b5 (xy C) u_24 [])))))) (fun _ => rfl) (fun _ => rfl) (fun _ => rfl) ?_
    refine g_swap (F := fun Z => (wX11 o0 a0 (xy C) u_28 Z)) (X := (wX11 o0 a0 (xy C) u_28 [])) (f := fun Z => (wX4 (a0 11) aK hm tm (xy C) u_18 Z)) (g := fun Z => (wX2 (a0 7) aH (xy C) u_25 Z)) (Y := (wX7 (a0 9) aM (xy C) u_26 (wX2 (hm 0) b0 (xy C) u_19 (wX2 (hm 1) b1 (xy C) u_20 (wX2 (hm 2) b2 (xy C) u_21 (wX7 (tm 0) b3 (xy C) u_22 (wX7 (tm 1) b4 (xy C) u_23 (wX7 (tm 2) b5 (xy C) u_24 [])))))))) (fun _ => rfl) (fun _ => rfl) (fun _ => rfl) ?_
    refine g_swap (F := fun Z => (wX11 o0 a0 (xy C) u_28 (wX2 (a0 7) aH (xy C) u_25 Z))) (X := (wX11 o0 a0 (xy C) u_28 (wX2 (a0 7) aH (xy C) u_25 []))) (f := fun Z => (wX4 (a0 11) aK hm tm (xy C) u_18 Z)) (g := fun Z => (wX7 (a0 9) aM (xy C) u_26 Z)) (Y := (wX2 (hm 0) b0 (xy C) u_19 (wX2 (hm 1) b1 (xy C) u_20 (wX2 (hm 2) b2 (xy C) u_21 (wX7 (tm 0) b3 (xy C) u_22 (wX7 (tm 1) b4 (xy C) u_23 (wX7 (tm 2) b5 (xy C) u_24 []))))))) (fun _ => rfl) (fun _ => rfl) (fun _ => rfl) ?_
    exact hR _ _ _ (u_28, u_25, u_26, u_18, u_19, u_20, u_21, u_22, u_23, u_24) dX11_mark_43 h
  · have h := h.2 c_17
    refine g_aload_n (pc := 11) hC 0 dX11_mark_11 rfl rfl ?_
    refine g_iconst (pc := 12) (v := 4) hC dX11_mark_12 (by decide) ?_
    refine g_callV_i (pc := 13) (wd := fun (u : St) Y => (wX11 o0 a0 (xy C) u Y)) (F := fun Z => Z) (X := []) (As := [.int (4 : Int32)]) (rest := []) (u := u0) hC (fun _ _ => rfl) (fun _ => rfl) (ctX11_refuse h) wvX11_refuse ml_X11_127 (ci := 9) (q0 := 0) rfl rfl rfl rfl (rmok hR0 rfl) ⟨Nat.zero_le _, Nat.zero_le _⟩ rfl (Nat.le_of_ble_eq_true rfl) dX11_mark_13 (fun r_32 u_31 h => ?_)
    exact hR _ _ _ (u_31, u1, u2, u3, u4, u5, u6, u7, u8, u9) dX11_mark_16 h
theorem ctX11_mark {l : Launch} {D : va_G} {cy : Nat → ClassId} {kd : Nat → Nat} {o0 : Nat} {a0 : Nat → Nat} {aH : Nat → Nat} {aM : Nat → Nat} {aK : Nat → Nat} {hm tm : Nat → Nat} {b0 : Nat → Nat} {b1 : Nat → Nat} {b2 : Nat → Nat} {b3 : Nat → Nat} {b4 : Nat → Nat} {b5 : Nat → Nat}  {u0 : St} {u1 : St} {u2 : St} {u3 : St} {u4 : St} {u5 : St} {u6 : St} {u7 : St} {u8 : St} {u9 : St} {post : Int32 → St → St → St → St → St → St → St → St → St → St → Prop} (h : qX11_mark  u0 u1 u2 u3 u4 u5 u6 u7 u8 u9 post) : CtI l D cy kd yX11_mark cX11_mark 1 4 .int [.ref o0] (fun u : St × St × St × St × St × St × St × St × St × St => (wX11 o0 a0 cy u.1 (wX2 (a0 7) aH cy u.2.1 (wX7 (a0 9) aM cy u.2.2.1 (wX4 (a0 11) aK hm tm cy u.2.2.2.1 (wX2 (hm 0) b0 cy u.2.2.2.2.1 (wX2 (hm 1) b1 cy u.2.2.2.2.2.1 (wX2 (hm 2) b2 cy u.2.2.2.2.2.2.1 (wX7 (tm 0) b3 cy u.2.2.2.2.2.2.2.1 (wX7 (tm 1) b4 cy u.2.2.2.2.2.2.2.2.1 (wX7 (tm 2) b5 cy u.2.2.2.2.2.2.2.2.2 []))))))))))) (u0, u1, u2, u3, u4, u5, u6, u7, u8, u9) (fun r u => post r u.1 u.2.1 u.2.2.1 u.2.2.2.1 u.2.2.2.2.1 u.2.2.2.2.2.1 u.2.2.2.2.2.2.1 u.2.2.2.2.2.2.2.1 u.2.2.2.2.2.2.2.2.1 u.2.2.2.2.2.2.2.2.2) := met_i (by decide) (Nat.le_of_ble_eq_true rfl) (fun C e1 e2 e3 e4 e5 hC hR => by subst e1 e2 e3 e4; exact kX11_mark hC e5 hR h)
theorem dX11_undo_0 : decode cX11_undo 0 = .ok (.aload_n 0, 1) := by decide +kernel
theorem dX11_undo_1 : decode cX11_undo 1 = .ok (.getfield 66, 3) := by decide +kernel
theorem dX11_undo_4 : decode cX11_undo 4 = .ok (.getfield 391, 3) := by decide +kernel
theorem dX11_undo_7 : decode cX11_undo 7 = .ok (.ifCond .gt 10, 3) := by decide +kernel
theorem dX11_undo_10 : decode cX11_undo 10 = .ok (.aload_n 0, 1) := by decide +kernel
theorem dX11_undo_11 : decode cX11_undo 11 = .ok (.bipush 6, 2) := by decide +kernel
theorem dX11_undo_13 : decode cX11_undo 13 = .ok (.invokevirtual 127, 3) := by decide +kernel
theorem dX11_undo_16 : decode cX11_undo 16 = .ok (.ireturn, 1) := by decide +kernel
theorem dX11_undo_17 : decode cX11_undo 17 = .ok (.aload_n 0, 1) := by decide +kernel
theorem dX11_undo_18 : decode cX11_undo 18 = .ok (.getfield 66, 3) := by decide +kernel
theorem dX11_undo_21 : decode cX11_undo 21 = .ok (.aload_n 0, 1) := by decide +kernel
theorem dX11_undo_22 : decode cX11_undo 22 = .ok (.getfield 46, 3) := by decide +kernel
theorem dX11_undo_25 : decode cX11_undo 25 = .ok (.aload_n 0, 1) := by decide +kernel
theorem dX11_undo_26 : decode cX11_undo 26 = .ok (.getfield 56, 3) := by decide +kernel
theorem dX11_undo_29 : decode cX11_undo 29 = .ok (.invokevirtual 398, 3) := by decide +kernel
theorem dX11_undo_32 : decode cX11_undo 32 = .ok (.aload_n 0, 1) := by decide +kernel
theorem dX11_undo_33 : decode cX11_undo 33 = .ok (.aload_n 0, 1) := by decide +kernel
theorem dX11_undo_34 : decode cX11_undo 34 = .ok (.getfield 66, 3) := by decide +kernel
theorem dX11_undo_37 : decode cX11_undo 37 = .ok (.getfield 391, 3) := by decide +kernel
theorem dX11_undo_40 : decode cX11_undo 40 = .ok (.invokevirtual 166, 3) := by decide +kernel
theorem dX11_undo_43 : decode cX11_undo 43 = .ok (.ireturn, 1) := by decide +kernel
def qX11_undo   (u0 : St) (u1 : St) (u2 : St) (u3 : St) (u4 : St) (u5 : St) (u6 : St) (u7 : St) (u8 : St) (u9 : St) (post : Int32 → St → St → St → St → St → St → St → St → St → St → Prop) : Prop := ((0 < (gi u3 0) → qX4_takeBack u3 u4 u5 u6 u7 u8 u9 u1 u2 (fun u_18 u_19 u_20 u_21 u_22 u_23 u_24 u_25 u_26 => qX11_answer (gi u_18 0) u0 (fun r_29 u_28 => post r_29 u_28 u_25 u_26 u_18 u_19 u_20 u_21 u_22 u_23 u_24))) ∧ (¬ 0 < (gi u3 0) → qX11_refuse (6 : Int32) u0 (fun r_32 u_31 => post r_32 u_31 u1 u2 u3 u4 u5 u6 u7 u8 u9)))
set_option maxRecDepth 100000 in
set_option maxHeartbeats 4000000 in
theorem kX11_undo {C : Cx} {o0 : Nat} {a0 : Nat → Nat} {aH : Nat → Nat} {aM : Nat → Nat} {aK : Nat → Nat} {hm tm : Nat → Nat} {b0 : Nat → Nat} {b1 : Nat → Nat} {b2 : Nat → Nat} {b3 : Nat → Nat} {b4 : Nat → Nat} {b5 : Nat → Nat} (hC : Fx C cX11_undo 1 RX11) (hR0 : xR C = rm 4) {post : Int32 → St → St → St → St → St → St → St → St → St → St → Prop} (hR : RI C cX11_undo 1 (fun u : St × St × St × St × St × St × St × St × St × St => (wX11 o0 a0 (xy C) u.1 (wX2 (a0 7) aH (xy C) u.2.1 (wX7 (a0 9) aM (xy C) u.2.2.1 (wX4 (a0 11) aK hm tm (xy C) u.2.2.2.1 (wX2 (hm 0) b0 (xy C) u.2.2.2.2.1 (wX2 (hm 1) b1 (xy C) u.2.2.2.2.2.1 (wX2 (hm 2) b2 (xy C) u.2.2.2.2.2.2.1 (wX7 (tm 0) b3 (xy C) u.2.2.2.2.2.2.2.1 (wX7 (tm 1) b4 (xy C) u.2.2.2.2.2.2.2.2.1 (wX7 (tm 2) b5 (xy C) u.2.2.2.2.2.2.2.2.2 []))))))))))) (fun r u => post r u.1 u.2.1 u.2.2.1 u.2.2.2.1 u.2.2.2.2.1 u.2.2.2.2.2.1 u.2.2.2.2.2.2.1 u.2.2.2.2.2.2.2.1 u.2.2.2.2.2.2.2.2.1 u.2.2.2.2.2.2.2.2.2))  {u0 : St} {u1 : St} {u2 : St} {u3 : St} {u4 : St} {u5 : St} {u6 : St} {u7 : St} {u8 : St} {u9 : St} (h : qX11_undo   u0 u1 u2 u3 u4 u5 u6 u7 u8 u9 post) : G C 0 0 1 (wX11 o0 a0 (xy C) u0 (wX2 (a0 7) aH (xy C) u1 (wX7 (a0 9) aM (xy C) u2 (wX4 (a0 11) aK hm tm (xy C) u3 (wX2 (hm 0) b0 (xy C) u4 (wX2 (hm 1) b1 (xy C) u5 (wX2 (hm 2) b2 (xy C) u6 (wX7 (tm 0) b3 (xy C) u7 (wX7 (tm 1) b4 (xy C) u8 (wX7 (tm 2) b5 (xy C) u9 [])))))))))) 0 [(0, .ref o0)] [] := by
  refine g_aload_n (pc := 0) hC 0 dX11_undo_0 rfl rfl ?_
  refine getX11_11 (pc := 1) hC (F := fun Z => Z) (X := []) (fun _ => rfl) fl_X11_66 dX11_undo_1 ?_
  refine getX4_0 (pc := 4) hC (F := fun Z => (wX11 o0 a0 (xy C) u0 (wX2 (a0 7) aH (xy C) u1 (wX7 (a0 9) aM (xy C) u2 Z)))) (X := (wX11 o0 a0 (xy C) u0 (wX2 (a0 7) aH (xy C) u1 (wX7 (a0 9) aM (xy C) u2 [])))) (fun _ => rfl) fl_X11_391 dX11_undo_4 ?_
  refine g_if_gt (pc := 7) (tgt := 17) hC dX11_undo_7 (by decide) (fun c_17 => ?_) (fun c_17 => ?_)
  · have h := h.1 c_17
    refine g_aload_n (pc := 17) hC 0 dX11_undo_17 rfl rfl ?_
    refine getX11_11 (pc := 18) hC (F := fun Z => Z) (X := []) (fun _ => rfl) fl_X11_66 dX11_undo_18 ?_
    refine g_aload_n (pc := 21) hC 0 dX11_undo_21 rfl rfl ?_
    refine getX11_7 (pc := 22) hC (F := fun Z => Z) (X := []) (fun _ => rfl) fl_X11_46 dX11_undo_22 ?_
    refine g_aload_n (pc := 25) hC 0 dX11_undo_25 rfl rfl ?_
    refine getX11_9 (pc := 26) hC (F := fun Z => Z) (X := []) (fun _ => rfl) fl_X11_56 dX11_undo_26 ?_
    refine g_swap (F := fun Z => (wX11 o0 a0 (xy C) u0 Z)) (X := (wX11 o0 a0 (xy C) u0 [])) (f := fun Z => (wX2 (a0 7) aH (xy C) u1 Z)) (g := fun Z => (wX7 (a0 9) aM (xy C) u2 Z)) (Y := (wX4 (a0 11) aK hm tm (xy C) u3 (wX2 (hm 0) b0 (xy C) u4 (wX2 (hm 1) b1 (xy C) u5 (wX2 (hm 2) b2 (xy C) u6 (wX7 (tm 0) b3 (xy C) u7 (wX7 (tm 1) b4 (xy C) u8 (wX7 (tm 2) b5 (xy C) u9 [])))))))) (fun _ => rfl) (fun _ => rfl) (fun _ => rfl) ?_
    refine g_swap (F := fun Z => (wX11 o0 a0 (xy C) u0 (wX7 (a0 9) aM (xy C) u2 Z))) (X := (wX11 o0 a0 (xy C) u0 (wX7 (a0 9) aM (xy C) u2 []))) (f := fun Z => (wX2 (a0 7) aH (xy C) u1 Z)) (g := fun Z => (wX4 (a0 11) aK hm tm (xy C) u3 Z)) (Y := (wX2 (hm 0) b0 (xy C) u4 (wX2 (hm 1) b1 (xy C) u5 (wX2 (hm 2) b2 (xy C) u6 (wX7 (tm 0) b3 (xy C) u7 (wX7 (tm 1) b4 (xy C) u8 (wX7 (tm 2) b5 (xy C) u9 []))))))) (fun _ => rfl) (fun _ => rfl) (fun _ => rfl) ?_
    refine g_swap (F := fun Z => (wX11 o0 a0 (xy C) u0 (wX7 (a0 9) aM (xy C) u2 (wX4 (a0 11) aK hm tm (xy C) u3 Z)))) (X := (wX11 o0 a0 (xy C) u0 (wX7 (a0 9) aM (xy C) u2 (wX4 (a0 11) aK hm tm (xy C) u3 [])))) (f := fun Z => (wX2 (a0 7) aH (xy C) u1 Z)) (g := fun Z => (wX2 (hm 0) b0 (xy C) u4 Z)) (Y := (wX2 (hm 1) b1 (xy C) u5 (wX2 (hm 2) b2 (xy C) u6 (wX7 (tm 0) b3 (xy C) u7 (wX7 (tm 1) b4 (xy C) u8 (wX7 (tm 2) b5 (xy C) u9 [])))))) (fun _ => rfl) (fun _ => rfl) (fun _ => rfl) ?_
    refine g_swap (F := fun Z => (wX11 o0 a0 (xy C) u0 (wX7 (a0 9) aM (xy C) u2 (wX4 (a0 11) aK hm tm (xy C) u3 (wX2 (hm 0) b0 (xy C) u4 Z))))) (X := (wX11 o0 a0 (xy C) u0 (wX7 (a0 9) aM (xy C) u2 (wX4 (a0 11) aK hm tm (xy C) u3 (wX2 (hm 0) b0 (xy C) u4 []))))) (f := fun Z => (wX2 (a0 7) aH (xy C) u1 Z)) (g := fun Z => (wX2 (hm 1) b1 (xy C) u5 Z)) (Y := (wX2 (hm 2) b2 (xy C) u6 (wX7 (tm 0) b3 (xy C) u7 (wX7 (tm 1) b4 (xy C) u8 (wX7 (tm 2) b5 (xy C) u9 []))))) (fun _ => rfl) (fun _ => rfl) (fun _ => rfl) ?_
    refine g_swap (F := fun Z => (wX11 o0 a0 (xy C) u0 (wX7 (a0 9) aM (xy C) u2 (wX4 (a0 11) aK hm tm (xy C) u3 (wX2 (hm 0) b0 (xy C) u4 (wX2 (hm 1) b1 (xy C) u5 Z)))))) (X := (wX11 o0 a0 (xy C) u0 (wX7 (a0 9) aM (xy C) u2 (wX4 (a0 11) aK hm tm (xy C) u3 (wX2 (hm 0) b0 (xy C) u4 (wX2 (hm 1) b1 (xy C) u5 [])))))) (f := fun Z => (wX2 (a0 7) aH (xy C) u1 Z)) (g := fun Z => (wX2 (hm 2) b2 (xy C) u6 Z)) (Y := (wX7 (tm 0) b3 (xy C) u7 (wX7 (tm 1) b4 (xy C) u8 (wX7 (tm 2) b5 (xy C) u9 [])))) (fun _ => rfl) (fun _ => rfl) (fun _ => rfl) ?_
    refine g_swap (F := fun Z => (wX11 o0 a0 (xy C) u0 (wX7 (a0 9) aM (xy C) u2 (wX4 (a0 11) aK hm tm (xy C) u3 (wX2 (hm 0) b0 (xy C) u4 (wX2 (hm 1) b1 (xy C) u5 (wX2 (hm 2) b2 (xy C) u6 Z))))))) (X := (wX11 o0 a0 (xy C) u0 (wX7 (a0 9) aM (xy C) u2 (wX4 (a0 11) aK hm tm (xy C) u3 (wX2 (hm 0) b0 (xy C) u4 (wX2 (hm 1) b1 (xy C) u5 (wX2 (hm 2) b2 (xy C) u6 []))))))) (f := fun Z => (wX2 (a0 7) aH (xy C) u1 Z)) (g := fun Z => (wX7 (tm 0) b3 (xy C) u7 Z)) (Y := (wX7 (tm 1) b4 (xy C) u8 (wX7 (tm 2) b5 (xy C) u9 []))) (fun _ => rfl) (fun _ => rfl) (fun _ => rfl) ?_
    refine g_swap (F := fun Z => (wX11 o0 a0 (xy C) u0 (wX7 (a0 9) aM (xy C) u2 (wX4 (a0 11) aK hm tm (xy C) u3 (wX2 (hm 0) b0 (xy C) u4 (wX2 (hm 1) b1 (xy C) u5 (wX2 (hm 2) b2 (xy C) u6 (wX7 (tm 0) b3 (xy C) u7 Z)))))))) (X := (wX11 o0 a0 (xy C) u0 (wX7 (a0 9) aM (xy C) u2 (wX4 (a0 11) aK hm tm (xy C) u3 (wX2 (hm 0) b0 (xy C) u4 (wX2 (hm 1) b1 (xy C) u5 (wX2 (hm 2) b2 (xy C) u6 (wX7 (tm 0) b3 (xy C) u7 [])))))))) (f := fun Z => (wX2 (a0 7) aH (xy C) u1 Z)) (g := fun Z => (wX7 (tm 1) b4 (xy C) u8 Z)) (Y := (wX7 (tm 2) b5 (xy C) u9 [])) (fun _ => rfl) (fun _ => rfl) (fun _ => rfl) ?_
    refine g_swap (F := fun Z => (wX11 o0 a0 (xy C) u0 (wX7 (a0 9) aM (xy C) u2 (wX4 (a0 11) aK hm tm (xy C) u3 (wX2 (hm 0) b0 (xy C) u4 (wX2 (hm 1) b1 (xy C) u5 (wX2 (hm 2) b2 (xy C) u6 (wX7 (tm 0) b3 (xy C) u7 (wX7 (tm 1) b4 (xy C) u8 Z))))))))) (X := (wX11 o0 a0 (xy C) u0 (wX7 (a0 9) aM (xy C) u2 (wX4 (a0 11) aK hm tm (xy C) u3 (wX2 (hm 0) b0 (xy C) u4 (wX2 (hm 1) b1 (xy C) u5 (wX2 (hm 2) b2 (xy C) u6 (wX7 (tm 0) b3 (xy C) u7 (wX7 (tm 1) b4 (xy C) u8 []))))))))) (f := fun Z => (wX2 (a0 7) aH (xy C) u1 Z)) (g := fun Z => (wX7 (tm 2) b5 (xy C) u9 Z)) (Y := []) (fun _ => rfl) (fun _ => rfl) (fun _ => rfl) ?_
    refine g_swap (F := fun Z => (wX11 o0 a0 (xy C) u0 Z)) (X := (wX11 o0 a0 (xy C) u0 [])) (f := fun Z => (wX7 (a0 9) aM (xy C) u2 Z)) (g := fun Z => (wX4 (a0 11) aK hm tm (xy C) u3 Z)) (Y := (wX2 (hm 0) b0 (xy C) u4 (wX2 (hm 1) b1 (xy C) u5 (wX2 (hm 2) b2 (xy C) u6 (wX7 (tm 0) b3 (xy C) u7 (wX7 (tm 1) b4 (xy C) u8 (wX7 (tm 2) b5 (xy C) u9 (wX2 (a0 7) aH (xy C) u1 [])))))))) (fun _ => rfl) (fun _ => rfl) (fun _ => rfl) ?_
    refine g_swap (F := fun Z => (wX11 o0 a0 (xy C) u0 (wX4 (a0 11) aK hm tm (xy C) u3 Z))) (X := (wX11 o0 a0 (xy C) u0 (wX4 (a0 11) aK hm tm (xy C) u3 []))) (f := fun Z => (wX7 (a0 9) aM (xy C) u2 Z)) (g := fun Z => (wX2 (hm 0) b0 (xy C) u4 Z)) (Y := (wX2 (hm 1) b1 (xy C) u5 (wX2 (hm 2) b2 (xy C) u6 (wX7 (tm 0) b3 (xy C) u7 (wX7 (tm 1) b4 (xy C) u8 (wX7 (tm 2) b5 (xy C) u9 (wX2 (a0 7) aH (xy C) u1 []))))))) (fun _ => rfl) (fun _ => rfl) (fun _ => rfl) ?_
    refine g_swap (F := fun Z => (wX11 o0 a0 (xy C) u0 (wX4 (a0 11) aK hm tm (xy C) u3 (wX2 (hm 0) b0 (xy C) u4 Z)))) (X := (wX11 o0 a0 (xy C) u0 (wX4 (a0 11) aK hm tm (xy C) u3 (wX2 (hm 0) b0 (xy C) u4 [])))) (f := fun Z => (wX7 (a0 9) aM (xy C) u2 Z)) (g := fun Z => (wX2 (hm 1) b1 (xy C) u5 Z)) (Y := (wX2 (hm 2) b2 (xy C) u6 (wX7 (tm 0) b3 (xy C) u7 (wX7 (tm 1) b4 (xy C) u8 (wX7 (tm 2) b5 (xy C) u9 (wX2 (a0 7) aH (xy C) u1 [])))))) (fun _ => rfl) (fun _ => rfl) (fun _ => rfl) ?_
    refine g_swap (F := fun Z => (wX11 o0 a0 (xy C) u0 (wX4 (a0 11) aK hm tm (xy C) u3 (wX2 (hm 0) b0 (xy C) u4 (wX2 (hm 1) b1 (xy C) u5 Z))))) (X := (wX11 o0 a0 (xy C) u0 (wX4 (a0 11) aK hm tm (xy C) u3 (wX2 (hm 0) b0 (xy C) u4 (wX2 (hm 1) b1 (xy C) u5 []))))) (f := fun Z => (wX7 (a0 9) aM (xy C) u2 Z)) (g := fun Z => (wX2 (hm 2) b2 (xy C) u6 Z)) (Y := (wX7 (tm 0) b3 (xy C) u7 (wX7 (tm 1) b4 (xy C) u8 (wX7 (tm 2) b5 (xy C) u9 (wX2 (a0 7) aH (xy C) u1 []))))) (fun _ => rfl) (fun _ => rfl) (fun _ => rfl) ?_
    refine g_swap (F := fun Z => (wX11 o0 a0 (xy C) u0 (wX4 (a0 11) aK hm tm (xy C) u3 (wX2 (hm 0) b0 (xy C) u4 (wX2 (hm 1) b1 (xy C) u5 (wX2 (hm 2) b2 (xy C) u6 Z)))))) (X := (wX11 o0 a0 (xy C) u0 (wX4 (a0 11) aK hm tm (xy C) u3 (wX2 (hm 0) b0 (xy C) u4 (wX2 (hm 1) b1 (xy C) u5 (wX2 (hm 2) b2 (xy C) u6 [])))))) (f := fun Z => (wX7 (a0 9) aM (xy C) u2 Z)) (g := fun Z => (wX7 (tm 0) b3 (xy C) u7 Z)) (Y := (wX7 (tm 1) b4 (xy C) u8 (wX7 (tm 2) b5 (xy C) u9 (wX2 (a0 7) aH (xy C) u1 [])))) (fun _ => rfl) (fun _ => rfl) (fun _ => rfl) ?_
    refine g_swap (F := fun Z => (wX11 o0 a0 (xy C) u0 (wX4 (a0 11) aK hm tm (xy C) u3 (wX2 (hm 0) b0 (xy C) u4 (wX2 (hm 1) b1 (xy C) u5 (wX2 (hm 2) b2 (xy C) u6 (wX7 (tm 0) b3 (xy C) u7 Z))))))) (X := (wX11 o0 a0 (xy C) u0 (wX4 (a0 11) aK hm tm (xy C) u3 (wX2 (hm 0) b0 (xy C) u4 (wX2 (hm 1) b1 (xy C) u5 (wX2 (hm 2) b2 (xy C) u6 (wX7 (tm 0) b3 (xy C) u7 []))))))) (f := fun Z => (wX7 (a0 9) aM (xy C) u2 Z)) (g := fun Z => (wX7 (tm 1) b4 (xy C) u8 Z)) (Y := (wX7 (tm 2) b5 (xy C) u9 (wX2 (a0 7) aH (xy C) u1 []))) (fun _ => rfl) (fun _ => rfl) (fun _ => rfl) ?_
    refine g_swap (F := fun Z => (wX11 o0 a0 (xy C) u0 (wX4 (a0 11) aK hm tm (xy C) u3 (wX2 (hm 0) b0 (xy C) u4 (wX2 (hm 1) b1 (xy C) u5 (wX2 (hm 2) b2 (xy C) u6 (wX7 (tm 0) b3 (xy C) u7 (wX7 (tm 1) b4 (xy C) u8 Z)))))))) (X := (wX11 o0 a0 (xy C) u0 (wX4 (a0 11) aK hm tm (xy C) u3 (wX2 (hm 0) b0 (xy C) u4 (wX2 (hm 1) b1 (xy C) u5 (wX2 (hm 2) b2 (xy C) u6 (wX7 (tm 0) b3 (xy C) u7 (wX7 (tm 1) b4 (xy C) u8 [])))))))) (f := fun Z => (wX7 (a0 9) aM (xy C) u2 Z)) (g := fun Z => (wX7 (tm 2) b5 (xy C) u9 Z)) (Y := (wX2 (a0 7) aH (xy C) u1 [])) (fun _ => rfl) (fun _ => rfl) (fun _ => rfl) ?_
    refine g_swap (F := fun Z => (wX11 o0 a0 (xy C) u0 (wX4 (a0 11) aK hm tm (xy C) u3 (wX2 (hm 0) b0 (xy C) u4 (wX2 (hm 1) b1 (xy C) u5 (wX2 (hm 2) b2 (xy C) u6 (wX7 (tm 0) b3 (xy C) u7 (wX7 (tm 1) b4 (xy C) u8 (wX7 (tm 2) b5 (xy C) u9 Z))))))))) (X := (wX11 o0 a0 (xy C) u0 (wX4 (a0 11) aK hm tm (xy C) u3 (wX2 (hm 0) b0 (xy C) u4 (wX2 (hm 1) b1 (xy C) u5 (wX2 (hm 2) b2 (xy C) u6 (wX7 (tm 0) b3 (xy C) u7 (wX7 (tm 1) b4 (xy C) u8 (wX7 (tm 2) b5 (xy C) u9 []))))))))) (f := fun Z => (wX7 (a0 9) aM (xy C) u2 Z)) (g := fun Z => (wX2 (a0 7) aH (xy C) u1 Z)) (Y := []) (fun _ => rfl) (fun _ => rfl) (fun _ => rfl) ?_
    refine g_callV_v (pc := 29) (wd := fun (u : St × St × St × St × St × St × St × St × St) Y => (wX4 (a0 11) aK hm tm (xy C) u.1 (wX2 (hm 0) b0 (xy C) u.2.1 (wX2 (hm 1) b1 (xy C) u.2.2.1 (wX2 (hm 2) b2 (xy C) u.2.2.2.1 (wX7 (tm 0) b3 (xy C) u.2.2.2.2.1 (wX7 (tm 1) b4 (xy C) u.2.2.2.2.2.1 (wX7 (tm 2) b5 (xy C) u.2.2.2.2.2.2.1 (wX2 (a0 7) aH (xy C) u.2.2.2.2.2.2.2.1 (wX7 (a0 9) aM (xy C) u.2.2.2.2.2.2.2.2 Y)))))))))) (F := fun Z => (wX11 o0 a0 (xy C) u0 Z)) (X := (wX11 o0 a0 (xy C) u0 [])) (As := [.ref (a0 7), .ref (a0 9)]) (rest := []) (u := (u3, u4, u5, u6, u7, u8, u9, u1, u2)) hC (fun _ _ => rfl) (fun _ => rfl) (ctX4_takeBack h) wvX4_takeBack ml_X11_398 (ci := 3) (q0 := 0) rfl rfl rfl rfl (rmok hR0 rfl) ⟨Nat.zero_le _, Nat.zero_le _⟩ rfl (Nat.le_of_ble_eq_true rfl) dX11_undo_29 (fun u_27 h => ?_)
    obtain ⟨u_18, u_19, u_20, u_21, u_22, u_23, u_24, u_25, u_26⟩ := u_27
    refine g_aload_n (pc := 32) hC 0 dX11_undo_32 rfl rfl ?_
    refine g_aload_n (pc := 33) hC 0 dX11_undo_33 rfl rfl ?_
    refine getX11_11 (pc := 34) hC (F := fun Z => Z) (X := []) (fun _ => rfl) fl_X11_66 dX11_undo_34 ?_
    refine getX4_0 (pc := 37) hC (F := fun Z => (wX11 o0 a0 (xy C) u0 Z)) (X := (wX11 o0 a0 (xy C) u0 [])) (fun _ => rfl) fl_X11_391 dX11_undo_37 ?_
    refine g_callV_i (pc := 40) (wd := fun (u : St) Y => (wX11 o0 a0 (xy C) u Y)) (F := fun Z => Z) (X := []) (As := [.int (gi u_18 0)]) (rest := []) (u := u0) hC (fun _ _ => rfl) (fun _ => rfl) (ctX11_answer h) wvX11_answer ml_X11_166 (ci := 9) (q0 := 0) rfl rfl rfl rfl (rmok hR0 rfl) ⟨Nat.zero_le _, Nat.zero_le _⟩ rfl (Nat.le_of_ble_eq_true rfl) dX11_undo_40 (fun r_29 u_28 h => ?_)
    refine g_swap (F := fun Z => (wX11 o0 a0 (xy C) u_28 (wX4 (a0 11) aK hm tm (xy C) u_18 (wX2 (hm 0) b0 (xy C) u_19 (wX2 (hm 1) b1 (xy C) u_20 (wX2 (hm 2) b2 (xy C) u_21 (wX7 (tm 0) b3 (xy C) u_22 (wX7 (tm 1) b4 (xy C) u_23 Z)))))))) (X := (wX11 o0 a0 (xy C) u_28 (wX4 (a0 11) aK hm tm (xy C) u_18 (wX2 (hm 0) b0 (xy C) u_19 (wX2 (hm 1) b1 (xy C) u_20 (wX2 (hm 2) b2 (xy C) u_21 (wX7 (tm 0) b3 (xy C) u_22 (wX7 (tm 1) b4 (xy C) u_23 [])))))))) (f := fun Z => (wX7 (tm 2) b5 (xy C) u_24 Z)) (g := fun Z => (wX2 (a0 7) aH (xy C) u_25 Z)) (Y := (wX7 (a0 9) aM (xy C) u_26 [])) (fun _ => rfl) (fun _ => rfl) (fun _ => rfl) ?_
    refine g_swap (F := fun Z => (wX11 o0 a0 (xy C) u_28 (wX4 (a0 11) aK hm tm (xy C) u_18 (wX2 (hm 0) b0 (xy C) u_19 (wX2 (hm 1) b1 (xy C) u_20 (wX2 (hm 2) b2 (xy C) u_21 (wX7 (tm 0) b3 (xy C) u_22 (wX7 (tm 1) b4 (xy C) u_23 (wX2 (a0 7) aH (xy C) u_25 Z))))))))) (X := (wX11 o0 a0 (xy C) u_28 (wX4 (a0 11) aK hm tm (xy C) u_18 (wX2 (hm 0) b0 (xy C) u_19 (wX2 (hm 1) b1 (xy C) u_20 (wX2 (hm 2) b2 (xy C) u_21 (wX7 (tm 0) b3 (xy C) u_22 (wX7 (tm 1) b4 (xy C) u_23 (wX2 (a0 7) aH (xy C) u_25 []))))))))) (f := fun Z => (wX7 (tm 2) b5 (xy C) u_24 Z)) (g := fun Z => (wX7 (a0 9) aM (xy C) u_26 Z)) (Y := []) (fun _ => rfl) (fun _ => rfl) (fun _ => rfl) ?_
    refine g_swap (F := fun Z => (wX11 o0 a0 (xy C) u_28 (wX4 (a0 11) aK hm tm (xy C) u_18 (wX2 (hm 0) b0 (xy C) u_19 (wX2 (hm 1) b1 (xy C) u_20 (wX2 (hm 2) b2 (xy C) u_21 (wX7 (tm 0) b3 (xy C) u_22 Z))))))) (X := (wX11 o0 a0 (xy C) u_28 (wX4 (a0 11) aK hm tm (xy C) u_18 (wX2 (hm 0) b0 (xy C) u_19 (wX2 (hm 1) b1 (xy C) u_20 (wX2 (hm 2) b2 (xy C) u_21 (wX7 (tm 0) b3 (xy C) u_22 []))))))) (f := fun Z => (wX7 (tm 1) b4 (xy C) u_23 Z)) (g := fun Z => (wX2 (a0 7) aH (xy C) u_25 Z)) (Y := (wX7 (a0 9) aM (xy C) u_26 (wX7 (tm 2) b5 (xy C) u_24 []))) (fun _ => rfl) (fun _ => rfl) (fun _ => rfl) ?_
    refine g_swap (F := fun Z => (wX11 o0 a0 (xy C) u_28 (wX4 (a0 11) aK hm tm (xy C) u_18 (wX2 (hm 0) b0 (xy C) u_19 (wX2 (hm 1) b1 (xy C) u_20 (wX2 (hm 2) b2 (xy C) u_21 (wX7 (tm 0) b3 (xy C) u_22 (wX2 (a0 7) aH (xy C) u_25 Z)))))))) (X := (wX11 o0 a0 (xy C) u_28 (wX4 (a0 11) aK hm tm (xy C) u_18 (wX2 (hm 0) b0 (xy C) u_19 (wX2 (hm 1) b1 (xy C) u_20 (wX2 (hm 2) b2 (xy C) u_21 (wX7 (tm 0) b3 (xy C) u_22 (wX2 (a0 7) aH (xy C) u_25 [])))))))) (f := fun Z => (wX7 (tm 1) b4 (xy C) u_23 Z)) (g := fun Z => (wX7 (a0 9) aM (xy C) u_26 Z)) (Y := (wX7 (tm 2) b5 (xy C) u_24 [])) (fun _ => rfl) (fun _ => rfl) (fun _ => rfl) ?_
    refine g_swap (F := fun Z => (wX11 o0 a0 (xy C) u_28 (wX4 (a0 11) aK hm tm (xy C) u_18 (wX2 (hm 0) b0 (xy C) u_19 (wX2 (hm 1) b1 (xy C) u_20 (wX2 (hm 2) b2 (xy C) u_21 Z)))))) (X := (wX11 o0 a0 (xy C) u_28 (wX4 (a0 11) aK hm tm (xy C) u_18 (wX2 (hm 0) b0 (xy C) u_19 (wX2 (hm 1) b1 (xy C) u_20 (wX2 (hm 2) b2 (xy C) u_21 [])))))) (f := fun Z => (wX7 (tm 0) b3 (xy C) u_22 Z)) (g := fun Z => (wX2 (a0 7) aH (xy C) u_25 Z)) (Y := (wX7 (a0 9) aM (xy C) u_26 (wX7 (tm 1) b4 (xy C) u_23 (wX7 (tm 2) b5 (xy C) u_24 [])))) (fun _ => rfl) (fun _ => rfl) (fun _ => rfl) ?_
    refine g_swap (F := fun Z => (wX11 o0 a0 (xy C) u_28 (wX4 (a0 11) aK hm tm (xy C) u_18 (wX2 (hm 0) b0 (xy C) u_19 (wX2 (hm 1) b1 (xy C) u_20 (wX2 (hm 2) b2 (xy C) u_21 (wX2 (a0 7) aH (xy C) u_25 Z))))))) (X := (wX11 o0 a0 (xy C) u_28 (wX4 (a0 11) aK hm tm (xy C) u_18 (wX2 (hm 0) b0 (xy C) u_19 (wX2 (hm 1) b1 (xy C) u_20 (wX2 (hm 2) b2 (xy C) u_21 (wX2 (a0 7) aH (xy C) u_25 []))))))) (f := fun Z => (wX7 (tm 0) b3 (xy C) u_22 Z)) (g := fun Z => (wX7 (a0 9) aM (xy C) u_26 Z)) (Y := (wX7 (tm 1) b4 (xy C) u_23 (wX7 (tm 2) b5 (xy C) u_24 []))) (fun _ => rfl) (fun _ => rfl) (fun _ => rfl) ?_
    refine g_swap (F := fun Z => (wX11 o0 a0 (xy C) u_28 (wX4 (a0 11) aK hm tm (xy C) u_18 (wX2 (hm 0) b0 (xy C) u_19 (wX2 (hm 1) b1 (xy C) u_20 Z))))) (X := (wX11 o0 a0 (xy C) u_28 (wX4 (a0 11) aK hm tm (xy C) u_18 (wX2 (hm 0) b0 (xy C) u_19 (wX2 (hm 1) b1 (xy C) u_20 []))))) (f := fun Z => (wX2 (hm 2) b2 (xy C) u_21 Z)) (g := fun Z => (wX2 (a0 7) aH (xy C) u_25 Z)) (Y := (wX7 (a0 9) aM (xy C) u_26 (wX7 (tm 0) b3 (xy C) u_22 (wX7 (tm 1) b4 (xy C) u_23 (wX7 (tm 2) b5 (xy C) u_24 []))))) (fun _ => rfl) (fun _ => rfl) (fun _ => rfl) ?_
    refine g_swap (F := fun Z => (wX11 o0 a0 (xy C) u_28 (wX4 (a0 11) aK hm tm (xy C) u_18 (wX2 (hm 0) b0 (xy C) u_19 (wX2 (hm 1) b1 (xy C) u_20 (wX2 (a0 7) aH (xy C) u_25 Z)))))) (X := (wX11 o0 a0 (xy C) u_28 (wX4 (a0 11) aK hm tm (xy C) u_18 (wX2 (hm 0) b0 (xy C) u_19 (wX2 (hm 1) b1 (xy C) u_20 (wX2 (a0 7) aH (xy C) u_25 [])))))) (f := fun Z => (wX2 (hm 2) b2 (xy C) u_21 Z)) (g := fun Z => (wX7 (a0 9) aM (xy C) u_26 Z)) (Y := (wX7 (tm 0) b3 (xy C) u_22 (wX7 (tm 1) b4 (xy C) u_23 (wX7 (tm 2) b5 (xy C) u_24 [])))) (fun _ => rfl) (fun _ => rfl) (fun _ => rfl) ?_
    refine g_swap (F := fun Z => (wX11 o0 a0 (xy C) u_28 (wX4 (a0 11) aK hm tm (xy C) u_18 (wX2 (hm 0) b0 (xy C) u_19 Z)))) (X := (wX11 o0 a0 (xy C) u_28 (wX4 (a0 11) aK hm tm (xy C) u_18 (wX2 (hm 0) b0 (xy C) u_19 [])))) (f := fun Z => (wX2 (hm 1) b1 (xy C) u_20 Z)) (g := fun Z => (wX2 (a0 7) aH (xy C) u_25 Z)) (Y := (wX7 (a0 9) aM (xy C) u_26 (wX2 (hm 2) b2 (xy C) u_21 (wX7 (tm 0) b3 (xy C) u_22 (wX7 (tm 1) b4 (xy C) u_23 (wX7 (tm 2) b5 (xy C) u_24 [])))))) (fun _ => rfl) (fun _ => rfl) (fun _ => rfl) ?_
    refine g_swap (F := fun Z => (wX11 o0 a0 (xy C) u_28 (wX4 (a0 11) aK hm tm (xy C) u_18 (wX2 (hm 0) b0 (xy C) u_19 (wX2 (a0 7) aH (xy C) u_25 Z))))) (X := (wX11 o0 a0 (xy C) u_28 (wX4 (a0 11) aK hm tm (xy C) u_18 (wX2 (hm 0) b0 (xy C) u_19 (wX2 (a0 7) aH (xy C) u_25 []))))) (f := fun Z => (wX2 (hm 1) b1 (xy C) u_20 Z)) (g := fun Z => (wX7 (a0 9) aM (xy C) u_26 Z)) (Y := (wX2 (hm 2) b2 (xy C) u_21 (wX7 (tm 0) b3 (xy C) u_22 (wX7 (tm 1) b4 (xy C) u_23 (wX7 (tm 2) b5 (xy C) u_24 []))))) (fun _ => rfl) (fun _ => rfl) (fun _ => rfl) ?_
    refine g_swap (F := fun Z => (wX11 o0 a0 (xy C) u_28 (wX4 (a0 11) aK hm tm (xy C) u_18 Z))) (X := (wX11 o0 a0 (xy C) u_28 (wX4 (a0 11) aK hm tm (xy C) u_18 []))) (f := fun Z => (wX2 (hm 0) b0 (xy C) u_19 Z)) (g := fun Z => (wX2 (a0 7) aH (xy C) u_25 Z)) (Y := (wX7 (a0 9) aM (xy C) u_26 (wX2 (hm 1) b1 (xy C) u_20 (wX2 (hm 2) b2 (xy C) u_21 (wX7 (tm 0) b3 (xy C) u_22 (wX7 (tm 1) b4 (xy C) u_23 (wX7 (tm 2) b5 (xy C) u_24 []))))))) (fun _ => rfl) (fun _ => rfl) (fun _ => rfl) ?_
    refine g_swap (F := fun Z => (wX11 o0 a0 (xy C) u_28 (wX4 (a0 11) aK hm tm (xy C) u_18 (wX2 (a0 7) aH (xy C) u_25 Z)))) (X := (wX11 o0 a0 (xy C) u_28 (wX4 (a0 11) aK hm tm (xy C) u_18 (wX2 (a0 7) aH (xy C) u_25 [])))) (f := fun Z => (wX2 (hm 0) b0 (xy C) u_19 Z)) (g := fun Z => (wX7 (a0 9) aM (xy C) u_26 Z)) (Y := (wX2 (hm 1) b1 (xy C) u_20 (wX2 (hm 2) b2 (xy C) u_21 (wX7 (tm 0) b3 (xy C) u_22 (wX7 (tm 1) b4 (xy C) u_23 (wX7 (tm 2) b5 (xy C) u_24 [])))))) (fun _ => rfl) (fun _ => rfl) (fun _ => rfl) ?_
    refine g_swap (F := fun Z => (wX11 o0 a0 (xy C) u_28 Z)) (X := (wX11 o0 a0 (xy C) u_28 [])) (f := fun Z => (wX4 (a0 11) aK hm tm (xy C) u_18 Z)) (g := fun Z => (wX2 (a0 7) aH (xy C) u_25 Z)) (Y := (wX7 (a0 9) aM (xy C) u_26 (wX2 (hm 0) b0 (xy C) u_19 (wX2 (hm 1) b1 (xy C) u_20 (wX2 (hm 2) b2 (xy C) u_21 (wX7 (tm 0) b3 (xy C) u_22 (wX7 (tm 1) b4 (xy C) u_23 (wX7 (tm 2) b5 (xy C) u_24 [])))))))) (fun _ => rfl) (fun _ => rfl) (fun _ => rfl) ?_
    refine g_swap (F := fun Z => (wX11 o0 a0 (xy C) u_28 (wX2 (a0 7) aH (xy C) u_25 Z))) (X := (wX11 o0 a0 (xy C) u_28 (wX2 (a0 7) aH (xy C) u_25 []))) (f := fun Z => (wX4 (a0 11) aK hm tm (xy C) u_18 Z)) (g := fun Z => (wX7 (a0 9) aM (xy C) u_26 Z)) (Y := (wX2 (hm 0) b0 (xy C) u_19 (wX2 (hm 1) b1 (xy C) u_20 (wX2 (hm 2) b2 (xy C) u_21 (wX7 (tm 0) b3 (xy C) u_22 (wX7 (tm 1) b4 (xy C) u_23 (wX7 (tm 2) b5 (xy C) u_24 []))))))) (fun _ => rfl) (fun _ => rfl) (fun _ => rfl) ?_
    exact hR _ _ _ (u_28, u_25, u_26, u_18, u_19, u_20, u_21, u_22, u_23, u_24) dX11_undo_43 h
  · have h := h.2 c_17
    refine g_aload_n (pc := 10) hC 0 dX11_undo_10 rfl rfl ?_
    refine g_bipush (pc := 11) (v := 6) hC dX11_undo_11 (by decide) ?_
    refine g_callV_i (pc := 13) (wd := fun (u : St) Y => (wX11 o0 a0 (xy C) u Y)) (F := fun Z => Z) (X := []) (As := [.int (6 : Int32)]) (rest := []) (u := u0) hC (fun _ _ => rfl) (fun _ => rfl) (ctX11_refuse h) wvX11_refuse ml_X11_127 (ci := 9) (q0 := 0) rfl rfl rfl rfl (rmok hR0 rfl) ⟨Nat.zero_le _, Nat.zero_le _⟩ rfl (Nat.le_of_ble_eq_true rfl) dX11_undo_13 (fun r_32 u_31 h => ?_)
    exact hR _ _ _ (u_31, u1, u2, u3, u4, u5, u6, u7, u8, u9) dX11_undo_16 h
theorem ctX11_undo {l : Launch} {D : va_G} {cy : Nat → ClassId} {kd : Nat → Nat} {o0 : Nat} {a0 : Nat → Nat} {aH : Nat → Nat} {aM : Nat → Nat} {aK : Nat → Nat} {hm tm : Nat → Nat} {b0 : Nat → Nat} {b1 : Nat → Nat} {b2 : Nat → Nat} {b3 : Nat → Nat} {b4 : Nat → Nat} {b5 : Nat → Nat}  {u0 : St} {u1 : St} {u2 : St} {u3 : St} {u4 : St} {u5 : St} {u6 : St} {u7 : St} {u8 : St} {u9 : St} {post : Int32 → St → St → St → St → St → St → St → St → St → St → Prop} (h : qX11_undo  u0 u1 u2 u3 u4 u5 u6 u7 u8 u9 post) : CtI l D cy kd yX11_undo cX11_undo 1 4 .int [.ref o0] (fun u : St × St × St × St × St × St × St × St × St × St => (wX11 o0 a0 cy u.1 (wX2 (a0 7) aH cy u.2.1 (wX7 (a0 9) aM cy u.2.2.1 (wX4 (a0 11) aK hm tm cy u.2.2.2.1 (wX2 (hm 0) b0 cy u.2.2.2.2.1 (wX2 (hm 1) b1 cy u.2.2.2.2.2.1 (wX2 (hm 2) b2 cy u.2.2.2.2.2.2.1 (wX7 (tm 0) b3 cy u.2.2.2.2.2.2.2.1 (wX7 (tm 1) b4 cy u.2.2.2.2.2.2.2.2.1 (wX7 (tm 2) b5 cy u.2.2.2.2.2.2.2.2.2 []))))))))))) (u0, u1, u2, u3, u4, u5, u6, u7, u8, u9) (fun r u => post r u.1 u.2.1 u.2.2.1 u.2.2.2.1 u.2.2.2.2.1 u.2.2.2.2.2.1 u.2.2.2.2.2.2.1 u.2.2.2.2.2.2.2.1 u.2.2.2.2.2.2.2.2.1 u.2.2.2.2.2.2.2.2.2) := met_i (by decide) (Nat.le_of_ble_eq_true rfl) (fun C e1 e2 e3 e4 e5 hC hR => by subst e1 e2 e3 e4; exact kX11_undo hC e5 hR h)
