/-! reference -/
theorem dX12_copyOwed_0 : decode cX12_copyOwed 0 = .ok (.iload_n 1, 1) := by decide +kernel
theorem dX12_copyOwed_1 : decode cX12_copyOwed 1 = .ok (.invokestatic 99, 3) := by decide +kernel
theorem dX12_copyOwed_4 : decode cX12_copyOwed 4 = .ok (.ifCond .ne 9, 3) := by decide +kernel
theorem dX12_copyOwed_7 : decode cX12_copyOwed 7 = .ok (.aload_n 0, 1) := by decide +kernel
theorem dX12_copyOwed_8 : decode cX12_copyOwed 8 = .ok (.iconst 1, 1) := by decide +kernel
theorem dX12_copyOwed_9 : decode cX12_copyOwed 9 = .ok (.invokevirtual 88, 3) := by decide +kernel
theorem dX12_copyOwed_12 : decode cX12_copyOwed 12 = .ok (.ireturn, 1) := by decide +kernel
theorem dX12_copyOwed_13 : decode cX12_copyOwed 13 = .ok (.aload_n 0, 1) := by decide +kernel
theorem dX12_copyOwed_14 : decode cX12_copyOwed 14 = .ok (.getfield 24, 3) := by decide +kernel
theorem dX12_copyOwed_17 : decode cX12_copyOwed 17 = .ok (.iload_n 1, 1) := by decide +kernel
theorem dX12_copyOwed_18 : decode cX12_copyOwed 18 = .ok (.iaload, 1) := by decide +kernel
theorem dX12_copyOwed_19 : decode cX12_copyOwed 19 = .ok (.iconst (-1), 1) := by decide +kernel
theorem dX12_copyOwed_20 : decode cX12_copyOwed 20 = .ok (.if_icmp .ne 9, 3) := by decide +kernel
theorem dX12_copyOwed_23 : decode cX12_copyOwed 23 = .ok (.aload_n 0, 1) := by decide +kernel
theorem dX12_copyOwed_24 : decode cX12_copyOwed 24 = .ok (.iconst 2, 1) := by decide +kernel
theorem dX12_copyOwed_25 : decode cX12_copyOwed 25 = .ok (.invokevirtual 88, 3) := by decide +kernel
theorem dX12_copyOwed_28 : decode cX12_copyOwed 28 = .ok (.ireturn, 1) := by decide +kernel
theorem dX12_copyOwed_29 : decode cX12_copyOwed 29 = .ok (.aload_n 0, 1) := by decide +kernel
theorem dX12_copyOwed_30 : decode cX12_copyOwed 30 = .ok (.getfield 24, 3) := by decide +kernel
theorem dX12_copyOwed_33 : decode cX12_copyOwed 33 = .ok (.iload_n 1, 1) := by decide +kernel
theorem dX12_copyOwed_34 : decode cX12_copyOwed 34 = .ok (.iaload, 1) := by decide +kernel
theorem dX12_copyOwed_35 : decode cX12_copyOwed 35 = .ok (.aload_n 0, 1) := by decide +kernel
theorem dX12_copyOwed_36 : decode cX12_copyOwed 36 = .ok (.getfield 7, 3) := by decide +kernel
theorem dX12_copyOwed_39 : decode cX12_copyOwed 39 = .ok (.iconst 2, 1) := by decide +kernel
theorem dX12_copyOwed_40 : decode cX12_copyOwed 40 = .ok (.iaload, 1) := by decide +kernel
theorem dX12_copyOwed_41 : decode cX12_copyOwed 41 = .ok (.if_icmp .ge 9, 3) := by decide +kernel
theorem dX12_copyOwed_44 : decode cX12_copyOwed 44 = .ok (.aload_n 0, 1) := by decide +kernel
theorem dX12_copyOwed_45 : decode cX12_copyOwed 45 = .ok (.iconst 3, 1) := by decide +kernel
theorem dX12_copyOwed_46 : decode cX12_copyOwed 46 = .ok (.invokevirtual 88, 3) := by decide +kernel
theorem dX12_copyOwed_49 : decode cX12_copyOwed 49 = .ok (.ireturn, 1) := by decide +kernel
theorem dX12_copyOwed_50 : decode cX12_copyOwed 50 = .ok (.iconst 0, 1) := by decide +kernel
theorem dX12_copyOwed_51 : decode cX12_copyOwed 51 = .ok (.istore_n 2, 1) := by decide +kernel
theorem dX12_copyOwed_52 : decode cX12_copyOwed 52 = .ok (.iload_n 2, 1) := by decide +kernel
theorem dX12_copyOwed_53 : decode cX12_copyOwed 53 = .ok (.aload_n 0, 1) := by decide +kernel
theorem dX12_copyOwed_54 : decode cX12_copyOwed 54 = .ok (.getfield 7, 3) := by decide +kernel
theorem dX12_copyOwed_57 : decode cX12_copyOwed 57 = .ok (.iconst 2, 1) := by decide +kernel
theorem dX12_copyOwed_58 : decode cX12_copyOwed 58 = .ok (.iaload, 1) := by decide +kernel
theorem dX12_copyOwed_59 : decode cX12_copyOwed 59 = .ok (.if_icmp .ge 35, 3) := by decide +kernel
theorem dX12_copyOwed_62 : decode cX12_copyOwed 62 = .ok (.aload_n 0, 1) := by decide +kernel
theorem dX12_copyOwed_63 : decode cX12_copyOwed 63 = .ok (.getfield 27, 3) := by decide +kernel
theorem dX12_copyOwed_66 : decode cX12_copyOwed 66 = .ok (.bipush 60, 2) := by decide +kernel
theorem dX12_copyOwed_68 : decode cX12_copyOwed 68 = .ok (.iload_n 1, 1) := by decide +kernel
theorem dX12_copyOwed_69 : decode cX12_copyOwed 69 = .ok (.imul, 1) := by decide +kernel
theorem dX12_copyOwed_70 : decode cX12_copyOwed 70 = .ok (.iload_n 2, 1) := by decide +kernel
theorem dX12_copyOwed_71 : decode cX12_copyOwed 71 = .ok (.iadd, 1) := by decide +kernel
theorem dX12_copyOwed_72 : decode cX12_copyOwed 72 = .ok (.aload_n 0, 1) := by decide +kernel
theorem dX12_copyOwed_73 : decode cX12_copyOwed 73 = .ok (.iload_n 2, 1) := by decide +kernel
theorem dX12_copyOwed_74 : decode cX12_copyOwed 74 = .ok (.invokevirtual 282, 3) := by decide +kernel
theorem dX12_copyOwed_77 : decode cX12_copyOwed 77 = .ok (.i2l, 1) := by decide +kernel
theorem dX12_copyOwed_78 : decode cX12_copyOwed 78 = .ok (.aload_n 0, 1) := by decide +kernel
theorem dX12_copyOwed_79 : decode cX12_copyOwed 79 = .ok (.getfield 21, 3) := by decide +kernel
theorem dX12_copyOwed_82 : decode cX12_copyOwed 82 = .ok (.iload_n 1, 1) := by decide +kernel
theorem dX12_copyOwed_83 : decode cX12_copyOwed 83 = .ok (.iaload, 1) := by decide +kernel
theorem dX12_copyOwed_84 : decode cX12_copyOwed 84 = .ok (.invokestatic 106, 3) := by decide +kernel
theorem dX12_copyOwed_87 : decode cX12_copyOwed 87 = .ok (.lastore, 1) := by decide +kernel
theorem dX12_copyOwed_88 : decode cX12_copyOwed 88 = .ok (.iinc 2 1, 3) := by decide +kernel
theorem dX12_copyOwed_91 : decode cX12_copyOwed 91 = .ok (.goto (-39), 3) := by decide +kernel
theorem dX12_copyOwed_94 : decode cX12_copyOwed 94 = .ok (.aload_n 0, 1) := by decide +kernel
theorem dX12_copyOwed_95 : decode cX12_copyOwed 95 = .ok (.aload_n 0, 1) := by decide +kernel
theorem dX12_copyOwed_96 : decode cX12_copyOwed 96 = .ok (.getfield 7, 3) := by decide +kernel
theorem dX12_copyOwed_99 : decode cX12_copyOwed 99 = .ok (.iconst 2, 1) := by decide +kernel
theorem dX12_copyOwed_100 : decode cX12_copyOwed 100 = .ok (.iaload, 1) := by decide +kernel
theorem dX12_copyOwed_101 : decode cX12_copyOwed 101 = .ok (.invokevirtual 92, 3) := by decide +kernel
theorem dX12_copyOwed_104 : decode cX12_copyOwed 104 = .ok (.ireturn, 1) := by decide +kernel
def qX12_copyOwed_b94  (post : Int32 → St → Prop)  (u0 : St) : Prop := qX12_gives (ga u0 0 ((2 : Int32)).toNatClampNeg) u0 (fun r_23 u_22 => post r_23 u_22)
set_option maxRecDepth 100000 in
set_option maxHeartbeats 4000000 in
theorem kX12_copyOwed_b94 {C : Cx} {o0 : Nat} {a0 : Nat → Nat} (hC : Fx C cX12_copyOwed 3 RX12) (hR0 : xR C = rm 4) {post : Int32 → St → Prop} (hR : RI C cX12_copyOwed 3 (fun u : St => (wX12 o0 a0 (xy C) u [])) (fun r u => post r u))  {u0 : St} (h : qX12_copyOwed_b94 post u0) : G C 0 0 3 (wX12 o0 a0 (xy C) u0 []) 94 [(0, .ref o0)] [] := by
  refine g_aload_n (pc := 94) hC 0 dX12_copyOwed_94 rfl rfl ?_
  refine g_aload_n (pc := 95) hC 0 dX12_copyOwed_95 rfl rfl ?_
  refine getX12_0 (pc := 96) hC (F := fun Z => Z) (X := []) (fun _ => rfl) fl_X12_7 dX12_copyOwed_96 ?_
  refine g_iconst (pc := 99) (v := 2) hC dX12_copyOwed_99 (by decide) ?_
  refine aldX12_0 (pc := 100) hC (F := fun Z => Z) (X := []) (fun _ => rfl) (by unfold vp_in; decide) dX12_copyOwed_100 ?_
  refine g_callV_i (pc := 101) (wd := fun (u : St) Y => (wX12 o0 a0 (xy C) u Y)) (F := fun Z => Z) (X := []) (As := [.int (ga u0 0 ((2 : Int32)).toNatClampNeg)]) (rest := []) (u := u0) hC (fun _ _ => rfl) (fun _ => rfl) (ctX12_gives h) wvX12_gives ml_X12_92 (ci := 10) (q0 := 0) rfl rfl rfl rfl (rmok hR0 rfl) ⟨Nat.zero_le _, Nat.zero_le _⟩ rfl (Nat.le_of_ble_eq_true rfl) dX12_copyOwed_101 (fun r_23 u_22 h => ?_)
  exact hR _ _ _ u_22 dX12_copyOwed_104 h
def qX12_copyOwed_l52  (post : Int32 → St → Prop) (K52 : Int32 → Int32 → St → Prop) (x1 : Int32) (x2 : Int32) (u0 : St) : Prop := (((ga u0 0 ((2 : Int32)).toNatClampNeg) ≤ x2 → qX12_copyOwed_b94 post u0) ∧ (¬ (ga u0 0 ((2 : Int32)).toNatClampNeg) ≤ x2 → qX12_owedOf x2 u0 (fun r_27 u_26 => (vp_in x1 4 ∧ qX12_cut (r_27).toInt64 (ga u_26 5 (x1).toNatClampNeg) (fun r_29 => (vp_in (((60 : Int32) * x1) + x2) 240 ∧ ∀ u_31 : St, u_31 = (sx u_26 7 (vp_updL (gl u_26 7) ((((60 : Int32) * x1) + x2)).toNatClampNeg r_29)) → ∀ x2_32 : Int32, x2_32 = x2 + (1 : Int32) → K52 x1 x2_32 u_31))))))
set_option maxRecDepth 100000 in
set_option maxHeartbeats 4000000 in
theorem kX12_copyOwed_l52 {C : Cx} {o0 : Nat} {a0 : Nat → Nat} (hC : Fx C cX12_copyOwed 3 RX12) (hR0 : xR C = rm 4) {post : Int32 → St → Prop} (hR : RI C cX12_copyOwed 3 (fun u : St => (wX12 o0 a0 (xy C) u [])) (fun r u => post r u))  {K52 : Int32 → Int32 → St → Prop} (hK52 : ∀ (x1 : Int32) (x2 : Int32) (u0 : St), K52 x1 x2 u0 → G C 0 0 3 (wX12 o0 a0 (xy C) u0 []) 52 [(0, .ref o0), (1, .int x1), (2, .int x2)] []) {x1 : Int32} {x2 : Int32} {u0 : St} (h : qX12_copyOwed_l52 post K52 x1 x2 u0) : G C 0 0 3 (wX12 o0 a0 (xy C) u0 []) 52 [(0, .ref o0), (1, .int x1), (2, .int x2)] [] := by
  refine g_iload_n (pc := 52) hC 2 dX12_copyOwed_52 rfl rfl ?_
  refine g_aload_n (pc := 53) hC 0 dX12_copyOwed_53 rfl rfl ?_
  refine getX12_0 (pc := 54) hC (F := fun Z => Z) (X := []) (fun _ => rfl) fl_X12_7 dX12_copyOwed_54 ?_
  refine g_iconst (pc := 57) (v := 2) hC dX12_copyOwed_57 (by decide) ?_
  refine aldX12_0 (pc := 58) hC (F := fun Z => Z) (X := []) (fun _ => rfl) (by unfold vp_in; decide) dX12_copyOwed_58 ?_
  refine g_icmp_ge (pc := 59) (tgt := 94) hC dX12_copyOwed_59 (by decide) (fun c_25 => ?_) (fun c_25 => ?_)
  · have h := h.1 c_25
    refine g_sub (lv' := [(0, .ref o0)]) [0] rfl ?_
    exact kX12_copyOwed_b94 hC hR0 hR  h
  · have h := h.2 c_25
    refine g_aload_n (pc := 62) hC 0 dX12_copyOwed_62 rfl rfl ?_
    refine getX12_7 (pc := 63) hC (F := fun Z => Z) (X := []) (fun _ => rfl) fl_X12_27 dX12_copyOwed_63 ?_
    refine g_bipush (pc := 66) (v := 60) hC dX12_copyOwed_66 (by decide) ?_
    refine g_iload_n (pc := 68) hC 1 dX12_copyOwed_68 rfl rfl ?_
    refine g_imul (pc := 69) hC dX12_copyOwed_69 ?_
    refine g_iload_n (pc := 70) hC 2 dX12_copyOwed_70 rfl rfl ?_
    refine g_iadd (pc := 71) hC dX12_copyOwed_71 ?_
    refine g_aload_n (pc := 72) hC 0 dX12_copyOwed_72 rfl rfl ?_
    refine g_iload_n (pc := 73) hC 2 dX12_copyOwed_73 rfl rfl ?_
    refine g_callV_i (pc := 74) (wd := fun (u : St) Y => (wX12 o0 a0 (xy C) u Y)) (F := fun Z => Z) (X := []) (As := [.int x2]) (rest := [.int (((60 : Int32) * x1) + x2), .ref (a0 7)]) (u := u0) hC (fun _ _ => rfl) (fun _ => rfl) (ctX12_owedOf h) wvX12_owedOf ml_X12_282 (ci := 10) (q0 := 0) rfl rfl rfl rfl (rmok hR0 rfl) ⟨Nat.zero_le _, Nat.zero_le _⟩ rfl (Nat.le_of_ble_eq_true rfl) dX12_copyOwed_74 (fun r_27 u_26 h => ?_)
    refine g_i2l (pc := 77) hC dX12_copyOwed_77 ?_
    refine g_aload_n (pc := 78) hC 0 dX12_copyOwed_78 rfl rfl ?_
    refine getX12_5 (pc := 79) hC (F := fun Z => Z) (X := []) (fun _ => rfl) fl_X12_21 dX12_copyOwed_79 ?_
    refine g_iload_n (pc := 82) hC 1 dX12_copyOwed_82 rfl rfl ?_
    refine aldX12_5 (pc := 83) hC (F := fun Z => Z) (X := []) (fun _ => rfl) h.1 dX12_copyOwed_83 ?_
    have h := h.2
    refine g_callS_l (pc := 84) (wd := fun (_ : Unit) Y => Y) (F := fun Z => Z) (X := []) (As := [.long (r_27).toInt64, .int (ga u_26 5 (x1).toNatClampNeg)]) (rest := [.int (((60 : Int32) * x1) + x2), .ref (a0 7)]) (u := ()) hC (fun _ _ => rfl) (fun _ => rfl) (ctX12_cut h) wvX12_cut ml_X12_106 rfl (rmok hR0 rfl) ⟨Nat.zero_le _, Nat.zero_le _⟩ rfl (Nat.le_of_ble_eq_true rfl) dX12_copyOwed_84 (fun r_29 u_30 h => ?_)
    refine astX12_7 (pc := 87) hC (F := fun Z => Z) (X := []) (fun _ => rfl) h.1 dX12_copyOwed_87 ?_
    have h := h.2
    refine g_st (w := fun z => (wX12 o0 a0 (xy C) z [])) (u := (sx u_26 7 (vp_updL (gl u_26 7) ((((60 : Int32) * x1) + x2)).toNatClampNeg r_29))) (fun u_31 eu_31 => ?_)
    have h := h u_31 eu_31
    obtain ⟨x2_32, ex2_32⟩ : ∃ z : Int32, z = x2 + (1 : Int32) := ⟨_, rfl⟩
    have h := h x2_32 ex2_32
    refine g_iinc (pc := 88) (v := x2_32) (lv' := [(2, .int x2_32), (0, .ref o0), (1, .int x1)]) hC 2 dX12_copyOwed_88 rfl (by rw [ex2_32]; rfl) (Nat.le_of_ble_eq_true rfl) rfl ?_
    refine g_goto (pc := 91) (tgt := 52) hC dX12_copyOwed_91 (by decide) ?_
    refine g_sub (lv' := [(0, .ref o0), (1, .int x1), (2, .int x2_32)]) [1, 2, 0] rfl ?_
    exact hK52 _ _ _ h
def qX12_copyOwed_L52  (post : Int32 → St → Prop)  : Nat → Int32 → Int32 → St → Prop
  | 0 => fun _ _ _ => False
  | n + 1 => qX12_copyOwed_l52 post (qX12_copyOwed_L52 post n)
theorem kX12_copyOwed_L52 {C : Cx} {o0 : Nat} {a0 : Nat → Nat} (hC : Fx C cX12_copyOwed 3 RX12) (hR0 : xR C = rm 4) {post : Int32 → St → Prop} (hR : RI C cX12_copyOwed 3 (fun u : St => (wX12 o0 a0 (xy C) u [])) (fun r u => post r u))  : ∀ (n : Nat) (x1 : Int32) (x2 : Int32) (u0 : St), qX12_copyOwed_L52 post n x1 x2 u0 → G C 0 0 3 (wX12 o0 a0 (xy C) u0 []) 52 [(0, .ref o0), (1, .int x1), (2, .int x2)] [] := by
  intro n
  induction n with
  | zero => intro x1 x2 u0 h; exact h.elim
  | succ n ih => intro x1 x2 u0 h; exact kX12_copyOwed_l52 hC hR0 hR  ih h
def qX12_copyOwed (x1 : Int32) (u0 : St) (post : Int32 → St → Prop) : Prop := qX12_isTray x1 (fun r_33 => ((¬ r_33 = 0 → (vp_in x1 4 ∧ ((¬ (ga u0 6 (x1).toNatClampNeg) = (-1 : Int32) → (vp_in x1 4 ∧ (((ga u0 0 ((2 : Int32)).toNatClampNeg) ≤ (ga u0 6 (x1).toNatClampNeg) → ∃ n_38 : Nat, qX12_copyOwed_L52 post n_38 x1 (0 : Int32) u0) ∧ (¬ (ga u0 0 ((2 : Int32)).toNatClampNeg) ≤ (ga u0 6 (x1).toNatClampNeg) → qX12_refuse (3 : Int32) u0 (fun r_40 u_39 => post r_40 u_39))))) ∧ ((ga u0 6 (x1).toNatClampNeg) = (-1 : Int32) → qX12_refuse (2 : Int32) u0 (fun r_43 u_42 => post r_43 u_42))))) ∧ (r_33 = 0 → qX12_refuse (1 : Int32) u0 (fun r_46 u_45 => post r_46 u_45))))
set_option maxRecDepth 100000 in
set_option maxHeartbeats 4000000 in
theorem kX12_copyOwed {C : Cx} {o0 : Nat} {a0 : Nat → Nat} (hC : Fx C cX12_copyOwed 3 RX12) (hR0 : xR C = rm 4) {post : Int32 → St → Prop} (hR : RI C cX12_copyOwed 3 (fun u : St => (wX12 o0 a0 (xy C) u [])) (fun r u => post r u)) {x1 : Int32} {u0 : St} (h : qX12_copyOwed x1 u0 post) : G C 0 0 3 (wX12 o0 a0 (xy C) u0 []) 0 [(0, .ref o0), (1, .int x1)] [] := by
  refine g_iload_n (pc := 0) hC 1 dX12_copyOwed_0 rfl rfl ?_
  refine g_callS_i (pc := 1) (wd := fun (_ : Unit) Y => Y) (F := fun Z => Z) (X := []) (As := [.int x1]) (rest := []) (u := ()) hC (fun _ _ => rfl) (fun _ => rfl) (ctX12_isTray h) wvX12_isTray ml_X12_99 rfl (rmok hR0 rfl) ⟨Nat.zero_le _, Nat.zero_le _⟩ rfl (Nat.le_of_ble_eq_true rfl) dX12_copyOwed_1 (fun r_33 u_34 h => ?_)
  refine g_if_ne (pc := 4) (tgt := 13) hC dX12_copyOwed_4 (by decide) (fun c_35 => ?_) (fun c_35 => ?_)
  · have h := h.1 c_35
    refine g_aload_n (pc := 13) hC 0 dX12_copyOwed_13 rfl rfl ?_
    refine getX12_6 (pc := 14) hC (F := fun Z => Z) (X := []) (fun _ => rfl) fl_X12_24 dX12_copyOwed_14 ?_
    refine g_iload_n (pc := 17) hC 1 dX12_copyOwed_17 rfl rfl ?_
    refine aldX12_6 (pc := 18) hC (F := fun Z => Z) (X := []) (fun _ => rfl) h.1 dX12_copyOwed_18 ?_
    have h := h.2
    refine g_iconst (pc := 19) (v := -1) hC dX12_copyOwed_19 (by decide) ?_
    refine g_icmp_ne (pc := 20) (tgt := 29) hC dX12_copyOwed_20 (by decide) (fun c_36 => ?_) (fun c_36 => ?_)
    · have h := h.1 c_36
      refine g_aload_n (pc := 29) hC 0 dX12_copyOwed_29 rfl rfl ?_
      refine getX12_6 (pc := 30) hC (F := fun Z => Z) (X := []) (fun _ => rfl) fl_X12_24 dX12_copyOwed_30 ?_
      refine g_iload_n (pc := 33) hC 1 dX12_copyOwed_33 rfl rfl ?_
      refine aldX12_6 (pc := 34) hC (F := fun Z => Z) (X := []) (fun _ => rfl) h.1 dX12_copyOwed_34 ?_
      have h := h.2
      refine g_aload_n (pc := 35) hC 0 dX12_copyOwed_35 rfl rfl ?_
      refine getX12_0 (pc := 36) hC (F := fun Z => Z) (X := []) (fun _ => rfl) fl_X12_7 dX12_copyOwed_36 ?_
      refine g_iconst (pc := 39) (v := 2) hC dX12_copyOwed_39 (by decide) ?_
      refine aldX12_0 (pc := 40) hC (F := fun Z => Z) (X := []) (fun _ => rfl) (by unfold vp_in; decide) dX12_copyOwed_40 ?_
      refine g_icmp_ge (pc := 41) (tgt := 50) hC dX12_copyOwed_41 (by decide) (fun c_37 => ?_) (fun c_37 => ?_)
      · have h := h.1 c_37
        refine g_iconst (pc := 50) (v := 0) hC dX12_copyOwed_50 (by decide) ?_
        refine g_istore_n (pc := 51) (lv' := [(2, .int (0 : Int32)), (0, .ref o0), (1, .int x1)]) hC dX12_copyOwed_51 rfl (Nat.le_of_ble_eq_true rfl) rfl ?_
        refine g_sub (lv' := [(0, .ref o0), (1, .int x1), (2, .int (0 : Int32))]) [1, 2, 0] rfl ?_
        obtain ⟨n_38, h⟩ := h
        exact kX12_copyOwed_L52 hC hR0 hR  n_38 _ _ _ h
      · have h := h.2 c_37
        refine g_aload_n (pc := 44) hC 0 dX12_copyOwed_44 rfl rfl ?_
        refine g_iconst (pc := 45) (v := 3) hC dX12_copyOwed_45 (by decide) ?_
        refine g_callV_i (pc := 46) (wd := fun (u : St) Y => (wX12 o0 a0 (xy C) u Y)) (F := fun Z => Z) (X := []) (As := [.int (3 : Int32)]) (rest := []) (u := u0) hC (fun _ _ => rfl) (fun _ => rfl) (ctX12_refuse h) wvX12_refuse ml_X12_88 (ci := 10) (q0 := 0) rfl rfl rfl rfl (rmok hR0 rfl) ⟨Nat.zero_le _, Nat.zero_le _⟩ rfl (Nat.le_of_ble_eq_true rfl) dX12_copyOwed_46 (fun r_40 u_39 h => ?_)
        exact hR _ _ _ u_39 dX12_copyOwed_49 h
    · have h := h.2 c_36
      refine g_aload_n (pc := 23) hC 0 dX12_copyOwed_23 rfl rfl ?_
      refine g_iconst (pc := 24) (v := 2) hC dX12_copyOwed_24 (by decide) ?_
      refine g_callV_i (pc := 25) (wd := fun (u : St) Y => (wX12 o0 a0 (xy C) u Y)) (F := fun Z => Z) (X := []) (As := [.int (2 : Int32)]) (rest := []) (u := u0) hC (fun _ _ => rfl) (fun _ => rfl) (ctX12_refuse h) wvX12_refuse ml_X12_88 (ci := 10) (q0 := 0) rfl rfl rfl rfl (rmok hR0 rfl) ⟨Nat.zero_le _, Nat.zero_le _⟩ rfl (Nat.le_of_ble_eq_true rfl) dX12_copyOwed_25 (fun r_43 u_42 h => ?_)
      exact hR _ _ _ u_42 dX12_copyOwed_28 h
  · have h := h.2 c_35
    refine g_aload_n (pc := 7) hC 0 dX12_copyOwed_7 rfl rfl ?_
    refine g_iconst (pc := 8) (v := 1) hC dX12_copyOwed_8 (by decide) ?_
    refine g_callV_i (pc := 9) (wd := fun (u : St) Y => (wX12 o0 a0 (xy C) u Y)) (F := fun Z => Z) (X := []) (As := [.int (1 : Int32)]) (rest := []) (u := u0) hC (fun _ _ => rfl) (fun _ => rfl) (ctX12_refuse h) wvX12_refuse ml_X12_88 (ci := 10) (q0 := 0) rfl rfl rfl rfl (rmok hR0 rfl) ⟨Nat.zero_le _, Nat.zero_le _⟩ rfl (Nat.le_of_ble_eq_true rfl) dX12_copyOwed_9 (fun r_46 u_45 h => ?_)
    exact hR _ _ _ u_45 dX12_copyOwed_12 h
theorem ctX12_copyOwed {l : Launch} {D : va_G} {cy : Nat → ClassId} {kd : Nat → Nat} {o0 : Nat} {a0 : Nat → Nat} {x1 : Int32} {u0 : St} {post : Int32 → St → Prop} (h : qX12_copyOwed x1 u0 post) : CtI l D cy kd yX12_copyOwed cX12_copyOwed 3 4 .int [.ref o0, .int x1] (fun u : St => (wX12 o0 a0 cy u [])) u0 (fun r u => post r u) := met_i (by decide) (Nat.le_of_ble_eq_true rfl) (fun C e1 e2 e3 e4 e5 hC hR => by subst e1 e2 e3 e4; exact kX12_copyOwed hC e5 hR h)
theorem dX12_draw_0 : decode cX12_draw 0 = .ok (.aload_n 0, 1) := by decide +kernel
theorem dX12_draw_1 : decode cX12_draw 1 = .ok (.aload_n 0, 1) := by decide +kernel
theorem dX12_draw_2 : decode cX12_draw 2 = .ok (.getfield 427, 3) := by decide +kernel
theorem dX12_draw_5 : decode cX12_draw 5 = .ok (.sipush 3259, 3) := by decide +kernel
theorem dX12_draw_8 : decode cX12_draw 8 = .ok (.imul, 1) := by decide +kernel
theorem dX12_draw_9 : decode cX12_draw 9 = .ok (.sipush 11489, 3) := by decide +kernel
theorem dX12_draw_12 : decode cX12_draw 12 = .ok (.iadd, 1) := by decide +kernel
theorem dX12_draw_13 : decode cX12_draw 13 = .ok (.ldc_w 430, 3) := by decide +kernel
theorem dX12_draw_16 : decode cX12_draw 16 = .ok (.irem, 1) := by decide +kernel
theorem dX12_draw_17 : decode cX12_draw 17 = .ok (.putfield 427, 3) := by decide +kernel
theorem dX12_draw_20 : decode cX12_draw 20 = .ok (.aload_n 0, 1) := by decide +kernel
theorem dX12_draw_21 : decode cX12_draw 21 = .ok (.getfield 427, 3) := by decide +kernel
theorem dX12_draw_24 : decode cX12_draw 24 = .ok (.bipush 8, 2) := by decide +kernel
theorem dX12_draw_26 : decode cX12_draw 26 = .ok (.idiv, 1) := by decide +kernel
theorem dX12_draw_27 : decode cX12_draw 27 = .ok (.iload_n 1, 1) := by decide +kernel
theorem dX12_draw_28 : decode cX12_draw 28 = .ok (.irem, 1) := by decide +kernel
theorem dX12_draw_29 : decode cX12_draw 29 = .ok (.ireturn, 1) := by decide +kernel
def qX12_draw (x1 : Int32) (u0 : St) (post : Int32 → St → Prop) : Prop := ∀ u_2 : St, u_2 = (si u0 33 ((((gi u0 33) * (3259 : Int32)) + (11489 : Int32)) - (((gi u0 33) * (3259 : Int32)) + (11489 : Int32)) / (65536 : Int32) * (65536 : Int32))) → (¬ x1 = 0 ∧ post (((gi u_2 33) / (8 : Int32)) - ((gi u_2 33) / (8 : Int32)) / x1 * x1) u_2)
set_option maxRecDepth 100000 in
set_option maxHeartbeats 4000000 in
theorem kX12_draw {C : Cx} {o0 : Nat} {a0 : Nat → Nat} (hC : Fx C cX12_draw 2 RX12) (hR0 : xR C = rm 1) {post : Int32 → St → Prop} (hR : RI C cX12_draw 2 (fun u : St => (wX12 o0 a0 (xy C) u [])) (fun r u => post r u)) {x1 : Int32} {u0 : St} (h : qX12_draw x1 u0 post) : G C 0 0 2 (wX12 o0 a0 (xy C) u0 []) 0 [(0, .ref o0), (1, .int x1)] [] := by
  refine g_aload_n (pc := 0) hC 0 dX12_draw_0 rfl rfl ?_
  refine g_aload_n (pc := 1) hC 0 dX12_draw_1 rfl rfl ?_
  refine getX12_33 (pc := 2) hC (F := fun Z => Z) (X := []) (fun _ => rfl) fl_X12_427 dX12_draw_2 ?_
  refine g_sipush (pc := 5) (v := 3259) hC dX12_draw_5 (by decide) ?_
  refine g_imul (pc := 8) hC dX12_draw_8 ?_
  refine g_sipush (pc := 9) (v := 11489) hC dX12_draw_9 (by decide) ?_
  refine g_iadd (pc := 12) hC dX12_draw_12 ?_
  refine g_ldcw (pc := 13) hC cn_X12_430 dX12_draw_13 ?_
  refine g_irem (pc := 16) hC dX12_draw_16 (by decide) ?_
  refine putX12_33 (pc := 17) hC (F := fun Z => Z) (X := []) (fun _ => rfl) fl_X12_427 dX12_draw_17 ?_
  refine g_st (w := fun z => (wX12 o0 a0 (xy C) z [])) (u := (si u0 33 ((((gi u0 33) * (3259 : Int32)) + (11489 : Int32)) - (((gi u0 33) * (3259 : Int32)) + (11489 : Int32)) / (65536 : Int32) * (65536 : Int32)))) (fun u_2 eu_2 => ?_)
  have h := h u_2 eu_2
  refine g_aload_n (pc := 20) hC 0 dX12_draw_20 rfl rfl ?_
  refine getX12_33 (pc := 21) hC (F := fun Z => Z) (X := []) (fun _ => rfl) fl_X12_427 dX12_draw_21 ?_
  refine g_bipush (pc := 24) (v := 8) hC dX12_draw_24 (by decide) ?_
  refine g_idiv (pc := 26) hC dX12_draw_26 (by decide) ?_
  refine g_iload_n (pc := 27) hC 1 dX12_draw_27 rfl rfl ?_
  refine g_irem (pc := 28) hC dX12_draw_28 h.1 ?_
  have h := h.2
  exact hR _ _ _ u_2 dX12_draw_29 h
theorem ctX12_draw {l : Launch} {D : va_G} {cy : Nat → ClassId} {kd : Nat → Nat} {o0 : Nat} {a0 : Nat → Nat} {x1 : Int32} {u0 : St} {post : Int32 → St → Prop} (h : qX12_draw x1 u0 post) : CtI l D cy kd yX12_draw cX12_draw 2 1 .int [.ref o0, .int x1] (fun u : St => (wX12 o0 a0 cy u [])) u0 (fun r u => post r u) := met_i (by decide) (Nat.le_of_ble_eq_true rfl) (fun C e1 e2 e3 e4 e5 hC hR => by subst e1 e2 e3 e4; exact kX12_draw hC e5 hR h)
theorem dX12_yearsBy_0 : decode cX12_yearsBy 0 = .ok (.aload_n 0, 1) := by decide +kernel
theorem dX12_yearsBy_1 : decode cX12_yearsBy 1 = .ok (.getfield 7, 3) := by decide +kernel
theorem dX12_yearsBy_4 : decode cX12_yearsBy 4 = .ok (.iconst 4, 1) := by decide +kernel
theorem dX12_yearsBy_5 : decode cX12_yearsBy 5 = .ok (.iaload, 1) := by decide +kernel
theorem dX12_yearsBy_6 : decode cX12_yearsBy 6 = .ok (.iload_n 1, 1) := by decide +kernel
theorem dX12_yearsBy_7 : decode cX12_yearsBy 7 = .ok (.iadd, 1) := by decide +kernel
theorem dX12_yearsBy_8 : decode cX12_yearsBy 8 = .ok (.sipush 9999, 3) := by decide +kernel
theorem dX12_yearsBy_11 : decode cX12_yearsBy 11 = .ok (.if_icmp .le 5, 3) := by decide +kernel
theorem dX12_yearsBy_14 : decode cX12_yearsBy 14 = .ok (.iconst 0, 1) := by decide +kernel
theorem dX12_yearsBy_15 : decode cX12_yearsBy 15 = .ok (.ireturn, 1) := by decide +kernel
theorem dX12_yearsBy_16 : decode cX12_yearsBy 16 = .ok (.aload_n 0, 1) := by decide +kernel
theorem dX12_yearsBy_17 : decode cX12_yearsBy 17 = .ok (.getfield 72, 3) := by decide +kernel
theorem dX12_yearsBy_20 : decode cX12_yearsBy 20 = .ok (.iconst 3, 1) := by decide +kernel
theorem dX12_yearsBy_21 : decode cX12_yearsBy 21 = .ok (.dup2, 1) := by decide +kernel
theorem dX12_yearsBy_22 : decode cX12_yearsBy 22 = .ok (.iaload, 1) := by decide +kernel
theorem dX12_yearsBy_23 : decode cX12_yearsBy 23 = .ok (.aload_n 0, 1) := by decide +kernel
theorem dX12_yearsBy_24 : decode cX12_yearsBy 24 = .ok (.iload_n 1, 1) := by decide +kernel
theorem dX12_yearsBy_25 : decode cX12_yearsBy 25 = .ok (.invokevirtual 319, 3) := by decide +kernel
theorem dX12_yearsBy_28 : decode cX12_yearsBy 28 = .ok (.iadd, 1) := by decide +kernel
theorem dX12_yearsBy_29 : decode cX12_yearsBy 29 = .ok (.iastore, 1) := by decide +kernel
theorem dX12_yearsBy_30 : decode cX12_yearsBy 30 = .ok (.aload_n 0, 1) := by decide +kernel
theorem dX12_yearsBy_31 : decode cX12_yearsBy 31 = .ok (.getfield 72, 3) := by decide +kernel
theorem dX12_yearsBy_34 : decode cX12_yearsBy 34 = .ok (.iconst 1, 1) := by decide +kernel
theorem dX12_yearsBy_35 : decode cX12_yearsBy 35 = .ok (.dup2, 1) := by decide +kernel
theorem dX12_yearsBy_36 : decode cX12_yearsBy 36 = .ok (.iaload, 1) := by decide +kernel
theorem dX12_yearsBy_37 : decode cX12_yearsBy 37 = .ok (.iload_n 1, 1) := by decide +kernel
theorem dX12_yearsBy_38 : decode cX12_yearsBy 38 = .ok (.iadd, 1) := by decide +kernel
theorem dX12_yearsBy_39 : decode cX12_yearsBy 39 = .ok (.iastore, 1) := by decide +kernel
theorem dX12_yearsBy_40 : decode cX12_yearsBy 40 = .ok (.iconst 1, 1) := by decide +kernel
theorem dX12_yearsBy_41 : decode cX12_yearsBy 41 = .ok (.ireturn, 1) := by decide +kernel
def qX12_yearsBy (x1 : Int32) (u0 : St) (post : Int32 → St → Prop) : Prop := ((((ga u0 0 ((4 : Int32)).toNatClampNeg) + x1) ≤ (9999 : Int32) → qX12_yearsGo x1 u0 (fun r_8 u_7 => ∀ u_10 : St, u_10 = (sw u_7 36 (upd (ga u_7 36) ((3 : Int32)).toNatClampNeg ((ga u0 36 ((3 : Int32)).toNatClampNeg) + r_8))) → ∀ u_11 : St, u_11 = (sw u_10 36 (upd (ga u_10 36) ((1 : Int32)).toNatClampNeg ((ga u_10 36 ((1 : Int32)).toNatClampNeg) + x1))) → post (1 : Int32) u_11)) ∧ (¬ ((ga u0 0 ((4 : Int32)).toNatClampNeg) + x1) ≤ (9999 : Int32) → post (0 : Int32) u0))
set_option maxRecDepth 100000 in
set_option maxHeartbeats 4000000 in
theorem kX12_yearsBy {C : Cx} {o0 : Nat} {a0 : Nat → Nat} (hC : Fx C cX12_yearsBy 2 RX12) (hR0 : xR C = rm 9) {post : Int32 → St → Prop} (hR : RZ C cX12_yearsBy 2 (fun u : St => (wX12 o0 a0 (xy C) u [])) (fun r u => post r u)) {x1 : Int32} {u0 : St} (h : qX12_yearsBy x1 u0 post) : G C 0 0 2 (wX12 o0 a0 (xy C) u0 []) 0 [(0, .ref o0), (1, .int x1)] [] := by
  refine g_aload_n (pc := 0) hC 0 dX12_yearsBy_0 rfl rfl ?_
  refine getX12_0 (pc := 1) hC (F := fun Z => Z) (X := []) (fun _ => rfl) fl_X12_7 dX12_yearsBy_1 ?_
  refine g_iconst (pc := 4) (v := 4) hC dX12_yearsBy_4 (by decide) ?_
  refine aldX12_0 (pc := 5) hC (F := fun Z => Z) (X := []) (fun _ => rfl) (by unfold vp_in; decide) dX12_yearsBy_5 ?_
  refine g_iload_n (pc := 6) hC 1 dX12_yearsBy_6 rfl rfl ?_
  refine g_iadd (pc := 7) hC dX12_yearsBy_7 ?_
  refine g_sipush (pc := 8) (v := 9999) hC dX12_yearsBy_8 (by decide) ?_
  refine g_icmp_le (pc := 11) (tgt := 16) hC dX12_yearsBy_11 (by decide) (fun c_6 => ?_) (fun c_6 => ?_)
  · have h := h.1 c_6
    refine g_aload_n (pc := 16) hC 0 dX12_yearsBy_16 rfl rfl ?_
    refine getX12_36 (pc := 17) hC (F := fun Z => Z) (X := []) (fun _ => rfl) fl_X12_72 dX12_yearsBy_17 ?_
    refine g_iconst (pc := 20) (v := 3) hC dX12_yearsBy_20 (by decide) ?_
    refine g_dup2 (pc := 21) hC dX12_yearsBy_21 rfl rfl ?_
    refine aldX12_36 (pc := 22) hC (F := fun Z => Z) (X := []) (fun _ => rfl) (by unfold vp_in; decide) dX12_yearsBy_22 ?_
    refine g_aload_n (pc := 23) hC 0 dX12_yearsBy_23 rfl rfl ?_
    refine g_iload_n (pc := 24) hC 1 dX12_yearsBy_24 rfl rfl ?_
    refine g_callV_i (pc := 25) (wd := fun (u : St) Y => (wX12 o0 a0 (xy C) u Y)) (F := fun Z => Z) (X := []) (As := [.int x1]) (rest := [.int (ga u0 36 ((3 : Int32)).toNatClampNeg), .int (3 : Int32), .ref (a0 36)]) (u := u0) hC (fun _ _ => rfl) (fun _ => rfl) (ctX12_yearsGo h) wvX12_yearsGo ml_X12_319 (ci := 10) (q0 := 0) rfl rfl rfl rfl (rmok hR0 rfl) ⟨Nat.zero_le _, Nat.zero_le _⟩ rfl (Nat.le_of_ble_eq_true rfl) dX12_yearsBy_25 (fun r_8 u_7 h => ?_)
    refine g_iadd (pc := 28) hC dX12_yearsBy_28 ?_
    refine astX12_36 (pc := 29) hC (F := fun Z => Z) (X := []) (fun _ => rfl) (by unfold vp_in; decide) dX12_yearsBy_29 ?_
    refine g_st (w := fun z => (wX12 o0 a0 (xy C) z [])) (u := (sw u_7 36 (upd (ga u_7 36) ((3 : Int32)).toNatClampNeg ((ga u0 36 ((3 : Int32)).toNatClampNeg) + r_8)))) (fun u_10 eu_10 => ?_)
    have h := h u_10 eu_10
    refine g_aload_n (pc := 30) hC 0 dX12_yearsBy_30 rfl rfl ?_
    refine getX12_36 (pc := 31) hC (F := fun Z => Z) (X := []) (fun _ => rfl) fl_X12_72 dX12_yearsBy_31 ?_
    refine g_iconst (pc := 34) (v := 1) hC dX12_yearsBy_34 (by decide) ?_
    refine g_dup2 (pc := 35) hC dX12_yearsBy_35 rfl rfl ?_
    refine aldX12_36 (pc := 36) hC (F := fun Z => Z) (X := []) (fun _ => rfl) (by unfold vp_in; decide) dX12_yearsBy_36 ?_
    refine g_iload_n (pc := 37) hC 1 dX12_yearsBy_37 rfl rfl ?_
    refine g_iadd (pc := 38) hC dX12_yearsBy_38 ?_
    refine astX12_36 (pc := 39) hC (F := fun Z => Z) (X := []) (fun _ => rfl) (by unfold vp_in; decide) dX12_yearsBy_39 ?_
    refine g_st (w := fun z => (wX12 o0 a0 (xy C) z [])) (u := (sw u_10 36 (upd (ga u_10 36) ((1 : Int32)).toNatClampNeg ((ga u_10 36 ((1 : Int32)).toNatClampNeg) + x1)))) (fun u_11 eu_11 => ?_)
    have h := h u_11 eu_11
    refine g_iconst (pc := 40) (v := 1) hC dX12_yearsBy_40 (by decide) ?_
    exact hR _ _ _ u_11 dX12_yearsBy_41 (Or.inr rfl) h
  · have h := h.2 c_6
    refine g_iconst (pc := 14) (v := 0) hC dX12_yearsBy_14 (by decide) ?_
    exact hR _ _ _ u0 dX12_yearsBy_15 (Or.inl rfl) h
theorem ctX12_yearsBy {l : Launch} {D : va_G} {cy : Nat → ClassId} {kd : Nat → Nat} {o0 : Nat} {a0 : Nat → Nat} {x1 : Int32} {u0 : St} {post : Int32 → St → Prop} (h : qX12_yearsBy x1 u0 post) : CtI l D cy kd yX12_yearsBy cX12_yearsBy 2 9 .boolean [.ref o0, .int x1] (fun u : St => (wX12 o0 a0 cy u [])) u0 (fun r u => post r u) := met_z (by decide) (Nat.le_of_ble_eq_true rfl) (fun C e1 e2 e3 e4 e5 hC hR => by subst e1 e2 e3 e4; exact kX12_yearsBy hC e5 hR h)
theorem dX12_paysBy_0 : decode cX12_paysBy 0 = .ok (.aload_n 0, 1) := by decide +kernel
theorem dX12_paysBy_1 : decode cX12_paysBy 1 = .ok (.iload_n 1, 1) := by decide +kernel
theorem dX12_paysBy_2 : decode cX12_paysBy 2 = .ok (.invokevirtual 294, 3) := by decide +kernel
theorem dX12_paysBy_5 : decode cX12_paysBy 5 = .ok (.ifCond .eq 11, 3) := by decide +kernel
theorem dX12_paysBy_8 : decode cX12_paysBy 8 = .ok (.aload_n 0, 1) := by decide +kernel
theorem dX12_paysBy_9 : decode cX12_paysBy 9 = .ok (.iload_n 1, 1) := by decide +kernel
theorem dX12_paysBy_10 : decode cX12_paysBy 10 = .ok (.invokevirtual 331, 3) := by decide +kernel
theorem dX12_paysBy_13 : decode cX12_paysBy 13 = .ok (.goto 4, 3) := by decide +kernel
theorem dX12_paysBy_16 : decode cX12_paysBy 16 = .ok (.iconst (-1), 1) := by decide +kernel
theorem dX12_paysBy_17 : decode cX12_paysBy 17 = .ok (.istore_n 2, 1) := by decide +kernel
theorem dX12_paysBy_18 : decode cX12_paysBy 18 = .ok (.iload_n 2, 1) := by decide +kernel
theorem dX12_paysBy_19 : decode cX12_paysBy 19 = .ok (.iconst (-1), 1) := by decide +kernel
theorem dX12_paysBy_20 : decode cX12_paysBy 20 = .ok (.if_icmp .ne 5, 3) := by decide +kernel
theorem dX12_paysBy_23 : decode cX12_paysBy 23 = .ok (.iconst 0, 1) := by decide +kernel
theorem dX12_paysBy_24 : decode cX12_paysBy 24 = .ok (.ireturn, 1) := by decide +kernel
theorem dX12_paysBy_25 : decode cX12_paysBy 25 = .ok (.aload_n 0, 1) := by decide +kernel
theorem dX12_paysBy_26 : decode cX12_paysBy 26 = .ok (.getfield 72, 3) := by decide +kernel
theorem dX12_paysBy_29 : decode cX12_paysBy 29 = .ok (.iconst 2, 1) := by decide +kernel
theorem dX12_paysBy_30 : decode cX12_paysBy 30 = .ok (.dup2, 1) := by decide +kernel
theorem dX12_paysBy_31 : decode cX12_paysBy 31 = .ok (.iaload, 1) := by decide +kernel
theorem dX12_paysBy_32 : decode cX12_paysBy 32 = .ok (.iload_n 2, 1) := by decide +kernel
theorem dX12_paysBy_33 : decode cX12_paysBy 33 = .ok (.iadd, 1) := by decide +kernel
theorem dX12_paysBy_34 : decode cX12_paysBy 34 = .ok (.iastore, 1) := by decide +kernel
theorem dX12_paysBy_35 : decode cX12_paysBy 35 = .ok (.aload_n 0, 1) := by decide +kernel
theorem dX12_paysBy_36 : decode cX12_paysBy 36 = .ok (.getfield 72, 3) := by decide +kernel
theorem dX12_paysBy_39 : decode cX12_paysBy 39 = .ok (.iconst 3, 1) := by decide +kernel
theorem dX12_paysBy_40 : decode cX12_paysBy 40 = .ok (.dup2, 1) := by decide +kernel
theorem dX12_paysBy_41 : decode cX12_paysBy 41 = .ok (.iaload, 1) := by decide +kernel
theorem dX12_paysBy_42 : decode cX12_paysBy 42 = .ok (.aload_n 0, 1) := by decide +kernel
theorem dX12_paysBy_43 : decode cX12_paysBy 43 = .ok (.getfield 328, 3) := by decide +kernel
theorem dX12_paysBy_46 : decode cX12_paysBy 46 = .ok (.iadd, 1) := by decide +kernel
theorem dX12_paysBy_47 : decode cX12_paysBy 47 = .ok (.iastore, 1) := by decide +kernel
theorem dX12_paysBy_48 : decode cX12_paysBy 48 = .ok (.iconst 1, 1) := by decide +kernel
theorem dX12_paysBy_49 : decode cX12_paysBy 49 = .ok (.ireturn, 1) := by decide +kernel
def qX12_paysBy_b17  (post : Int32 → St → Prop)  (s0 : Int32) (u0 : St) : Prop := ((¬ s0 = (-1 : Int32) → ∀ u_10 : St, u_10 = (sw u0 36 (upd (ga u0 36) ((2 : Int32)).toNatClampNeg ((ga u0 36 ((2 : Int32)).toNatClampNeg) + s0))) → ∀ u_11 : St, u_11 = (sw u_10 36 (upd (ga u_10 36) ((3 : Int32)).toNatClampNeg ((ga u_10 36 ((3 : Int32)).toNatClampNeg) + (gi u_10 24)))) → post (1 : Int32) u_11) ∧ (s0 = (-1 : Int32) → post (0 : Int32) u0))
set_option maxRecDepth 100000 in
set_option maxHeartbeats 4000000 in
theorem kX12_paysBy_b17 {C : Cx} {o0 : Nat} {a0 : Nat → Nat} (hC : Fx C cX12_paysBy 3 RX12) (hR0 : xR C = rm 8) {post : Int32 → St → Prop} (hR : RZ C cX12_paysBy 3 (fun u : St => (wX12 o0 a0 (xy C) u [])) (fun r u => post r u))  {s0 : Int32} {u0 : St} (h : qX12_paysBy_b17 post s0 u0) : G C 0 0 3 (wX12 o0 a0 (xy C) u0 []) 17 [(0, .ref o0)] [.int s0] := by
  refine g_istore_n (pc := 17) (lv' := [(2, .int s0), (0, .ref o0)]) hC dX12_paysBy_17 rfl (Nat.le_of_ble_eq_true rfl) rfl ?_
  refine g_iload_n (pc := 18) hC 0 dX12_paysBy_18 rfl rfl ?_
  refine g_iconst (pc := 19) (v := -1) hC dX12_paysBy_19 (by decide) ?_
  refine g_icmp_ne (pc := 20) (tgt := 25) hC dX12_paysBy_20 (by decide) (fun c_9 => ?_) (fun c_9 => ?_)
  · have h := h.1 c_9
    refine g_aload_n (pc := 25) hC 1 dX12_paysBy_25 rfl rfl ?_
    refine getX12_36 (pc := 26) hC (F := fun Z => Z) (X := []) (fun _ => rfl) fl_X12_72 dX12_paysBy_26 ?_
    refine g_iconst (pc := 29) (v := 2) hC dX12_paysBy_29 (by decide) ?_
    refine g_dup2 (pc := 30) hC dX12_paysBy_30 rfl rfl ?_
    refine aldX12_36 (pc := 31) hC (F := fun Z => Z) (X := []) (fun _ => rfl) (by unfold vp_in; decide) dX12_paysBy_31 ?_
    refine g_iload_n (pc := 32) hC 0 dX12_paysBy_32 rfl rfl ?_
    refine g_iadd (pc := 33) hC dX12_paysBy_33 ?_
    refine astX12_36 (pc := 34) hC (F := fun Z => Z) (X := []) (fun _ => rfl) (by unfold vp_in; decide) dX12_paysBy_34 ?_
    refine g_st (w := fun z => (wX12 o0 a0 (xy C) z [])) (u := (sw u0 36 (upd (ga u0 36) ((2 : Int32)).toNatClampNeg ((ga u0 36 ((2 : Int32)).toNatClampNeg) + s0)))) (fun u_10 eu_10 => ?_)
    have h := h u_10 eu_10
    refine g_aload_n (pc := 35) hC 1 dX12_paysBy_35 rfl rfl ?_
    refine getX12_36 (pc := 36) hC (F := fun Z => Z) (X := []) (fun _ => rfl) fl_X12_72 dX12_paysBy_36 ?_
    refine g_iconst (pc := 39) (v := 3) hC dX12_paysBy_39 (by decide) ?_
    refine g_dup2 (pc := 40) hC dX12_paysBy_40 rfl rfl ?_
    refine aldX12_36 (pc := 41) hC (F := fun Z => Z) (X := []) (fun _ => rfl) (by unfold vp_in; decide) dX12_paysBy_41 ?_
    refine g_aload_n (pc := 42) hC 1 dX12_paysBy_42 rfl rfl ?_
    refine getX12_24 (pc := 43) hC (F := fun Z => Z) (X := []) (fun _ => rfl) fl_X12_328 dX12_paysBy_43 ?_
    refine g_iadd (pc := 46) hC dX12_paysBy_46 ?_
    refine astX12_36 (pc := 47) hC (F := fun Z => Z) (X := []) (fun _ => rfl) (by unfold vp_in; decide) dX12_paysBy_47 ?_
    refine g_st (w := fun z => (wX12 o0 a0 (xy C) z [])) (u := (sw u_10 36 (upd (ga u_10 36) ((3 : Int32)).toNatClampNeg ((ga u_10 36 ((3 : Int32)).toNatClampNeg) + (gi u_10 24))))) (fun u_11 eu_11 => ?_)
    have h := h u_11 eu_11
    refine g_iconst (pc := 48) (v := 1) hC dX12_paysBy_48 (by decide) ?_
    exact hR _ _ _ u_11 dX12_paysBy_49 (Or.inr rfl) h
  · have h := h.2 c_9
    refine g_iconst (pc := 23) (v := 0) hC dX12_paysBy_23 (by decide) ?_
    exact hR _ _ _ u0 dX12_paysBy_24 (Or.inl rfl) h
def qX12_paysBy (x1 : Int32) (u0 : St) (post : Int32 → St → Prop) : Prop := qX12_isDebt x1 u0 (fun r_13 u_12 => ((r_13 = 0 → qX12_paysBy_b17 post (-1 : Int32) u_12) ∧ (¬ r_13 = 0 → qX12_paysAndFalls x1 u_12 (fun r_17 u_16 => qX12_paysBy_b17 post r_17 u_16))))
set_option maxRecDepth 100000 in
set_option maxHeartbeats 4000000 in
theorem kX12_paysBy {C : Cx} {o0 : Nat} {a0 : Nat → Nat} (hC : Fx C cX12_paysBy 3 RX12) (hR0 : xR C = rm 8) {post : Int32 → St → Prop} (hR : RZ C cX12_paysBy 3 (fun u : St => (wX12 o0 a0 (xy C) u [])) (fun r u => post r u)) {x1 : Int32} {u0 : St} (h : qX12_paysBy x1 u0 post) : G C 0 0 3 (wX12 o0 a0 (xy C) u0 []) 0 [(0, .ref o0), (1, .int x1)] [] := by
  refine g_aload_n (pc := 0) hC 0 dX12_paysBy_0 rfl rfl ?_
  refine g_iload_n (pc := 1) hC 1 dX12_paysBy_1 rfl rfl ?_
  refine g_callV_i (pc := 2) (wd := fun (u : St) Y => (wX12 o0 a0 (xy C) u Y)) (F := fun Z => Z) (X := []) (As := [.int x1]) (rest := []) (u := u0) hC (fun _ _ => rfl) (fun _ => rfl) (ctX12_isDebt h) wvX12_isDebt ml_X12_294 (ci := 10) (q0 := 0) rfl rfl rfl rfl (rmok hR0 rfl) ⟨Nat.zero_le _, Nat.zero_le _⟩ rfl (Nat.le_of_ble_eq_true rfl) dX12_paysBy_2 (fun r_13 u_12 h => ?_)
  refine g_if_eq (pc := 5) (tgt := 16) hC dX12_paysBy_5 (by decide) (fun c_15 => ?_) (fun c_15 => ?_)
  · have h := h.1 c_15
    refine g_iconst (pc := 16) (v := -1) hC dX12_paysBy_16 (by decide) ?_
    refine g_sub (lv' := [(0, .ref o0)]) [0] rfl ?_
    exact kX12_paysBy_b17 hC hR0 hR  h
  · have h := h.2 c_15
    refine g_aload_n (pc := 8) hC 0 dX12_paysBy_8 rfl rfl ?_
    refine g_iload_n (pc := 9) hC 1 dX12_paysBy_9 rfl rfl ?_
    refine g_callV_i (pc := 10) (wd := fun (u : St) Y => (wX12 o0 a0 (xy C) u Y)) (F := fun Z => Z) (X := []) (As := [.int x1]) (rest := []) (u := u_12) hC (fun _ _ => rfl) (fun _ => rfl) (ctX12_paysAndFalls h) wvX12_paysAndFalls ml_X12_331 (ci := 10) (q0 := 0) rfl rfl rfl rfl (rmok hR0 rfl) ⟨Nat.zero_le _, Nat.zero_le _⟩ rfl (Nat.le_of_ble_eq_true rfl) dX12_paysBy_10 (fun r_17 u_16 h => ?_)
    refine g_goto (pc := 13) (tgt := 17) hC dX12_paysBy_13 (by decide) ?_
    refine g_sub (lv' := [(0, .ref o0)]) [0] rfl ?_
    exact kX12_paysBy_b17 hC hR0 hR  h
theorem ctX12_paysBy {l : Launch} {D : va_G} {cy : Nat → ClassId} {kd : Nat → Nat} {o0 : Nat} {a0 : Nat → Nat} {x1 : Int32} {u0 : St} {post : Int32 → St → Prop} (h : qX12_paysBy x1 u0 post) : CtI l D cy kd yX12_paysBy cX12_paysBy 3 8 .boolean [.ref o0, .int x1] (fun u : St => (wX12 o0 a0 cy u [])) u0 (fun r u => post r u) := met_z (by decide) (Nat.le_of_ble_eq_true rfl) (fun C e1 e2 e3 e4 e5 hC hR => by subst e1 e2 e3 e4; exact kX12_paysBy hC e5 hR h)
theorem dX12_snipsBy_0 : decode cX12_snipsBy 0 = .ok (.aload_n 0, 1) := by decide +kernel
theorem dX12_snipsBy_1 : decode cX12_snipsBy 1 = .ok (.iload_n 1, 1) := by decide +kernel
theorem dX12_snipsBy_2 : decode cX12_snipsBy 2 = .ok (.invokevirtual 294, 3) := by decide +kernel
theorem dX12_snipsBy_5 : decode cX12_snipsBy 5 = .ok (.ifCond .eq 12, 3) := by decide +kernel
theorem dX12_snipsBy_8 : decode cX12_snipsBy 8 = .ok (.aload_n 0, 1) := by decide +kernel
theorem dX12_snipsBy_9 : decode cX12_snipsBy 9 = .ok (.iload_n 1, 1) := by decide +kernel
theorem dX12_snipsBy_10 : decode cX12_snipsBy 10 = .ok (.iload_n 2, 1) := by decide +kernel
theorem dX12_snipsBy_11 : decode cX12_snipsBy 11 = .ok (.invokevirtual 334, 3) := by decide +kernel
theorem dX12_snipsBy_14 : decode cX12_snipsBy 14 = .ok (.ifCond .ne 5, 3) := by decide +kernel
theorem dX12_snipsBy_17 : decode cX12_snipsBy 17 = .ok (.iconst 0, 1) := by decide +kernel
theorem dX12_snipsBy_18 : decode cX12_snipsBy 18 = .ok (.ireturn, 1) := by decide +kernel
theorem dX12_snipsBy_19 : decode cX12_snipsBy 19 = .ok (.aload_n 0, 1) := by decide +kernel
theorem dX12_snipsBy_20 : decode cX12_snipsBy 20 = .ok (.getfield 72, 3) := by decide +kernel
theorem dX12_snipsBy_23 : decode cX12_snipsBy 23 = .ok (.iconst 2, 1) := by decide +kernel
theorem dX12_snipsBy_24 : decode cX12_snipsBy 24 = .ok (.dup2, 1) := by decide +kernel
theorem dX12_snipsBy_25 : decode cX12_snipsBy 25 = .ok (.iaload, 1) := by decide +kernel
theorem dX12_snipsBy_26 : decode cX12_snipsBy 26 = .ok (.iload_n 2, 1) := by decide +kernel
theorem dX12_snipsBy_27 : decode cX12_snipsBy 27 = .ok (.iadd, 1) := by decide +kernel
theorem dX12_snipsBy_28 : decode cX12_snipsBy 28 = .ok (.iastore, 1) := by decide +kernel
theorem dX12_snipsBy_29 : decode cX12_snipsBy 29 = .ok (.aload_n 0, 1) := by decide +kernel
theorem dX12_snipsBy_30 : decode cX12_snipsBy 30 = .ok (.getfield 72, 3) := by decide +kernel
theorem dX12_snipsBy_33 : decode cX12_snipsBy 33 = .ok (.iconst 3, 1) := by decide +kernel
theorem dX12_snipsBy_34 : decode cX12_snipsBy 34 = .ok (.dup2, 1) := by decide +kernel
theorem dX12_snipsBy_35 : decode cX12_snipsBy 35 = .ok (.iaload, 1) := by decide +kernel
theorem dX12_snipsBy_36 : decode cX12_snipsBy 36 = .ok (.aload_n 0, 1) := by decide +kernel
theorem dX12_snipsBy_37 : decode cX12_snipsBy 37 = .ok (.getfield 328, 3) := by decide +kernel
theorem dX12_snipsBy_40 : decode cX12_snipsBy 40 = .ok (.iadd, 1) := by decide +kernel
theorem dX12_snipsBy_41 : decode cX12_snipsBy 41 = .ok (.iastore, 1) := by decide +kernel
theorem dX12_snipsBy_42 : decode cX12_snipsBy 42 = .ok (.iconst 1, 1) := by decide +kernel
theorem dX12_snipsBy_43 : decode cX12_snipsBy 43 = .ok (.ireturn, 1) := by decide +kernel
def qX12_snipsBy_b17  (post : Int32 → St → Prop)  (u0 : St) : Prop := post (0 : Int32) u0
set_option maxRecDepth 100000 in
set_option maxHeartbeats 4000000 in
theorem kX12_snipsBy_b17 {C : Cx} {o0 : Nat} {a0 : Nat → Nat} (hC : Fx C cX12_snipsBy 3 RX12) (hR0 : xR C = rm 8) {post : Int32 → St → Prop} (hR : RZ C cX12_snipsBy 3 (fun u : St => (wX12 o0 a0 (xy C) u [])) (fun r u => post r u))  {u0 : St} (h : qX12_snipsBy_b17 post u0) : G C 0 0 3 (wX12 o0 a0 (xy C) u0 []) 17 [] [] := by
  refine g_iconst (pc := 17) (v := 0) hC dX12_snipsBy_17 (by decide) ?_
  exact hR _ _ _ u0 dX12_snipsBy_18 (Or.inl rfl) h
def qX12_snipsBy (x1 : Int32) (x2 : Int32) (u0 : St) (post : Int32 → St → Prop) : Prop := qX12_isDebt x1 u0 (fun r_10 u_9 => ((r_10 = 0 → qX12_snipsBy_b17 post u_9) ∧ (¬ r_10 = 0 → qX12_snips x1 x2 u_9 (fun r_14 u_13 => ((¬ r_14 = 0 → ∀ u_17 : St, u_17 = (sw u_13 36 (upd (ga u_13 36) ((2 : Int32)).toNatClampNeg ((ga u_13 36 ((2 : Int32)).toNatClampNeg) + x2))) → ∀ u_18 : St, u_18 = (sw u_17 36 (upd (ga u_17 36) ((3 : Int32)).toNatClampNeg ((ga u_17 36 ((3 : Int32)).toNatClampNeg) + (gi u_17 24)))) → post (1 : Int32) u_18) ∧ (r_14 = 0 → qX12_snipsBy_b17 post u_13))))))
set_option maxRecDepth 100000 in
set_option maxHeartbeats 4000000 in
theorem kX12_snipsBy {C : Cx} {o0 : Nat} {a0 : Nat → Nat} (hC : Fx C cX12_snipsBy 3 RX12) (hR0 : xR C = rm 8) {post : Int32 → St → Prop} (hR : RZ C cX12_snipsBy 3 (fun u : St => (wX12 o0 a0 (xy C) u [])) (fun r u => post r u)) {x1 : Int32} {x2 : Int32} {u0 : St} (h : qX12_snipsBy x1 x2 u0 post) : G C 0 0 3 (wX12 o0 a0 (xy C) u0 []) 0 [(0, .ref o0), (1, .int x1), (2, .int x2)] [] := by
  refine g_aload_n (pc := 0) hC 0 dX12_snipsBy_0 rfl rfl ?_
  refine g_iload_n (pc := 1) hC 1 dX12_snipsBy_1 rfl rfl ?_
  refine g_callV_i (pc := 2) (wd := fun (u : St) Y => (wX12 o0 a0 (xy C) u Y)) (F := fun Z => Z) (X := []) (As := [.int x1]) (rest := []) (u := u0) hC (fun _ _ => rfl) (fun _ => rfl) (ctX12_isDebt h) wvX12_isDebt ml_X12_294 (ci := 10) (q0 := 0) rfl rfl rfl rfl (rmok hR0 rfl) ⟨Nat.zero_le _, Nat.zero_le _⟩ rfl (Nat.le_of_ble_eq_true rfl) dX12_snipsBy_2 (fun r_10 u_9 h => ?_)
  refine g_if_eq (pc := 5) (tgt := 17) hC dX12_snipsBy_5 (by decide) (fun c_12 => ?_) (fun c_12 => ?_)
  · have h := h.1 c_12
    refine g_sub (lv' := []) [] rfl ?_
    exact kX12_snipsBy_b17 hC hR0 hR  h
  · have h := h.2 c_12
    refine g_aload_n (pc := 8) hC 0 dX12_snipsBy_8 rfl rfl ?_
    refine g_iload_n (pc := 9) hC 1 dX12_snipsBy_9 rfl rfl ?_
    refine g_iload_n (pc := 10) hC 2 dX12_snipsBy_10 rfl rfl ?_
    refine g_callV_i (pc := 11) (wd := fun (u : St) Y => (wX12 o0 a0 (xy C) u Y)) (F := fun Z => Z) (X := []) (As := [.int x1, .int x2]) (rest := []) (u := u_9) hC (fun _ _ => rfl) (fun _ => rfl) (ctX12_snips h) wvX12_snips ml_X12_334 (ci := 10) (q0 := 0) rfl rfl rfl rfl (rmok hR0 rfl) ⟨Nat.zero_le _, Nat.zero_le _⟩ rfl (Nat.le_of_ble_eq_true rfl) dX12_snipsBy_11 (fun r_14 u_13 h => ?_)
    refine g_if_ne (pc := 14) (tgt := 19) hC dX12_snipsBy_14 (by decide) (fun c_16 => ?_) (fun c_16 => ?_)
    · have h := h.1 c_16
      refine g_aload_n (pc := 19) hC 0 dX12_snipsBy_19 rfl rfl ?_
      refine getX12_36 (pc := 20) hC (F := fun Z => Z) (X := []) (fun _ => rfl) fl_X12_72 dX12_snipsBy_20 ?_
      refine g_iconst (pc := 23) (v := 2) hC dX12_snipsBy_23 (by decide) ?_
      refine g_dup2 (pc := 24) hC dX12_snipsBy_24 rfl rfl ?_
      refine aldX12_36 (pc := 25) hC (F := fun Z => Z) (X := []) (fun _ => rfl) (by unfold vp_in; decide) dX12_snipsBy_25 ?_
      refine g_iload_n (pc := 26) hC 2 dX12_snipsBy_26 rfl rfl ?_
      refine g_iadd (pc := 27) hC dX12_snipsBy_27 ?_
      refine astX12_36 (pc := 28) hC (F := fun Z => Z) (X := []) (fun _ => rfl) (by unfold vp_in; decide) dX12_snipsBy_28 ?_
      refine g_st (w := fun z => (wX12 o0 a0 (xy C) z [])) (u := (sw u_13 36 (upd (ga u_13 36) ((2 : Int32)).toNatClampNeg ((ga u_13 36 ((2 : Int32)).toNatClampNeg) + x2)))) (fun u_17 eu_17 => ?_)
      have h := h u_17 eu_17
      refine g_aload_n (pc := 29) hC 0 dX12_snipsBy_29 rfl rfl ?_
      refine getX12_36 (pc := 30) hC (F := fun Z => Z) (X := []) (fun _ => rfl) fl_X12_72 dX12_snipsBy_30 ?_
      refine g_iconst (pc := 33) (v := 3) hC dX12_snipsBy_33 (by decide) ?_
      refine g_dup2 (pc := 34) hC dX12_snipsBy_34 rfl rfl ?_
      refine aldX12_36 (pc := 35) hC (F := fun Z => Z) (X := []) (fun _ => rfl) (by unfold vp_in; decide) dX12_snipsBy_35 ?_
      refine g_aload_n (pc := 36) hC 0 dX12_snipsBy_36 rfl rfl ?_
      refine getX12_24 (pc := 37) hC (F := fun Z => Z) (X := []) (fun _ => rfl) fl_X12_328 dX12_snipsBy_37 ?_
      refine g_iadd (pc := 40) hC dX12_snipsBy_40 ?_
      refine astX12_36 (pc := 41) hC (F := fun Z => Z) (X := []) (fun _ => rfl) (by unfold vp_in; decide) dX12_snipsBy_41 ?_
      refine g_st (w := fun z => (wX12 o0 a0 (xy C) z [])) (u := (sw u_17 36 (upd (ga u_17 36) ((3 : Int32)).toNatClampNeg ((ga u_17 36 ((3 : Int32)).toNatClampNeg) + (gi u_17 24))))) (fun u_18 eu_18 => ?_)
      have h := h u_18 eu_18
      refine g_iconst (pc := 42) (v := 1) hC dX12_snipsBy_42 (by decide) ?_
      exact hR _ _ _ u_18 dX12_snipsBy_43 (Or.inr rfl) h
    · have h := h.2 c_16
      refine g_sub (lv' := []) [] rfl ?_
      exact kX12_snipsBy_b17 hC hR0 hR  h
theorem ctX12_snipsBy {l : Launch} {D : va_G} {cy : Nat → ClassId} {kd : Nat → Nat} {o0 : Nat} {a0 : Nat → Nat} {x1 : Int32} {x2 : Int32} {u0 : St} {post : Int32 → St → Prop} (h : qX12_snipsBy x1 x2 u0 post) : CtI l D cy kd yX12_snipsBy cX12_snipsBy 3 8 .boolean [.ref o0, .int x1, .int x2] (fun u : St => (wX12 o0 a0 cy u [])) u0 (fun r u => post r u) := met_z (by decide) (Nat.le_of_ble_eq_true rfl) (fun C e1 e2 e3 e4 e5 hC hR => by subst e1 e2 e3 e4; exact kX12_snipsBy hC e5 hR h)
theorem dX12_doesAny_0 : decode cX12_doesAny 0 = .ok (.aload_n 0, 1) := by decide +kernel
theorem dX12_doesAny_1 : decode cX12_doesAny 1 = .ok (.getfield 7, 3) := by decide +kernel
theorem dX12_doesAny_4 : decode cX12_doesAny 4 = .ok (.iconst 1, 1) := by decide +kernel
theorem dX12_doesAny_5 : decode cX12_doesAny 5 = .ok (.iaload, 1) := by decide +kernel
theorem dX12_doesAny_6 : decode cX12_doesAny 6 = .ok (.ifCond .ne 5, 3) := by decide +kernel
theorem dX12_doesAny_9 : decode cX12_doesAny 9 = .ok (.iconst 0, 1) := by decide +kernel
theorem dX12_doesAny_10 : decode cX12_doesAny 10 = .ok (.ireturn, 1) := by decide +kernel
theorem dX12_doesAny_11 : decode cX12_doesAny 11 = .ok (.aload_n 0, 1) := by decide +kernel
theorem dX12_doesAny_12 : decode cX12_doesAny 12 = .ok (.aload_n 0, 1) := by decide +kernel
theorem dX12_doesAny_13 : decode cX12_doesAny 13 = .ok (.getfield 7, 3) := by decide +kernel
theorem dX12_doesAny_16 : decode cX12_doesAny 16 = .ok (.iconst 1, 1) := by decide +kernel
theorem dX12_doesAny_17 : decode cX12_doesAny 17 = .ok (.iaload, 1) := by decide +kernel
theorem dX12_doesAny_18 : decode cX12_doesAny 18 = .ok (.invokevirtual 431, 3) := by decide +kernel
theorem dX12_doesAny_21 : decode cX12_doesAny 21 = .ok (.istore_n 1, 1) := by decide +kernel
theorem dX12_doesAny_22 : decode cX12_doesAny 22 = .ok (.aload_n 0, 1) := by decide +kernel
theorem dX12_doesAny_23 : decode cX12_doesAny 23 = .ok (.bipush 16, 2) := by decide +kernel
theorem dX12_doesAny_25 : decode cX12_doesAny 25 = .ok (.invokevirtual 431, 3) := by decide +kernel
theorem dX12_doesAny_28 : decode cX12_doesAny 28 = .ok (.aload_n 0, 1) := by decide +kernel
theorem dX12_doesAny_29 : decode cX12_doesAny 29 = .ok (.getfield 7, 3) := by decide +kernel
theorem dX12_doesAny_32 : decode cX12_doesAny 32 = .ok (.iconst 3, 1) := by decide +kernel
theorem dX12_doesAny_33 : decode cX12_doesAny 33 = .ok (.iaload, 1) := by decide +kernel
theorem dX12_doesAny_34 : decode cX12_doesAny 34 = .ok (.if_icmp .lt 9, 3) := by decide +kernel
theorem dX12_doesAny_37 : decode cX12_doesAny 37 = .ok (.aload_n 0, 1) := by decide +kernel
theorem dX12_doesAny_38 : decode cX12_doesAny 38 = .ok (.iconst 1, 1) := by decide +kernel
theorem dX12_doesAny_39 : decode cX12_doesAny 39 = .ok (.invokevirtual 434, 3) := by decide +kernel
theorem dX12_doesAny_42 : decode cX12_doesAny 42 = .ok (.ireturn, 1) := by decide +kernel
theorem dX12_doesAny_43 : decode cX12_doesAny 43 = .ok (.aload_n 0, 1) := by decide +kernel
theorem dX12_doesAny_44 : decode cX12_doesAny 44 = .ok (.iload_n 1, 1) := by decide +kernel
theorem dX12_doesAny_45 : decode cX12_doesAny 45 = .ok (.bipush 20, 2) := by decide +kernel
theorem dX12_doesAny_47 : decode cX12_doesAny 47 = .ok (.invokevirtual 344, 3) := by decide +kernel
theorem dX12_doesAny_50 : decode cX12_doesAny 50 = .ok (.iconst 1, 1) := by decide +kernel
theorem dX12_doesAny_51 : decode cX12_doesAny 51 = .ok (.ireturn, 1) := by decide +kernel
def qX12_doesAny  (u0 : St) (post : Int32 → St → Prop) : Prop := ((¬ (ga u0 0 ((1 : Int32)).toNatClampNeg) = 0 → qX12_draw (ga u0 0 ((1 : Int32)).toNatClampNeg) u0 (fun r_14 u_13 => qX12_draw (16 : Int32) u_13 (fun r_17 u_16 => ((r_17 < (ga u_16 0 ((3 : Int32)).toNatClampNeg) → qX12_givesTo r_14 (20 : Int32) u_16 (fun u_20 => post (1 : Int32) u_20)) ∧ (¬ r_17 < (ga u_16 0 ((3 : Int32)).toNatClampNeg) → qX12_yearsBy (1 : Int32) u_16 (fun r_23 u_22 => (bz r_23 ∧ post r_23 u_22))))))) ∧ ((ga u0 0 ((1 : Int32)).toNatClampNeg) = 0 → post (0 : Int32) u0))
set_option maxRecDepth 100000 in
set_option maxHeartbeats 4000000 in
theorem kX12_doesAny {C : Cx} {o0 : Nat} {a0 : Nat → Nat} (hC : Fx C cX12_doesAny 2 RX12) (hR0 : xR C = rm 10) {post : Int32 → St → Prop} (hR : RZ C cX12_doesAny 2 (fun u : St => (wX12 o0 a0 (xy C) u [])) (fun r u => post r u))  {u0 : St} (h : qX12_doesAny  u0 post) : G C 0 0 2 (wX12 o0 a0 (xy C) u0 []) 0 [(0, .ref o0)] [] := by
  refine g_aload_n (pc := 0) hC 0 dX12_doesAny_0 rfl rfl ?_
  refine getX12_0 (pc := 1) hC (F := fun Z => Z) (X := []) (fun _ => rfl) fl_X12_7 dX12_doesAny_1 ?_
  refine g_iconst (pc := 4) (v := 1) hC dX12_doesAny_4 (by decide) ?_
  refine aldX12_0 (pc := 5) hC (F := fun Z => Z) (X := []) (fun _ => rfl) (by unfold vp_in; decide) dX12_doesAny_5 ?_
  refine g_if_ne (pc := 6) (tgt := 11) hC dX12_doesAny_6 (by decide) (fun c_12 => ?_) (fun c_12 => ?_)
  · have h := h.1 c_12
    refine g_aload_n (pc := 11) hC 0 dX12_doesAny_11 rfl rfl ?_
    refine g_aload_n (pc := 12) hC 0 dX12_doesAny_12 rfl rfl ?_
    refine getX12_0 (pc := 13) hC (F := fun Z => Z) (X := []) (fun _ => rfl) fl_X12_7 dX12_doesAny_13 ?_
    refine g_iconst (pc := 16) (v := 1) hC dX12_doesAny_16 (by decide) ?_
    refine aldX12_0 (pc := 17) hC (F := fun Z => Z) (X := []) (fun _ => rfl) (by unfold vp_in; decide) dX12_doesAny_17 ?_
    refine g_callV_i (pc := 18) (wd := fun (u : St) Y => (wX12 o0 a0 (xy C) u Y)) (F := fun Z => Z) (X := []) (As := [.int (ga u0 0 ((1 : Int32)).toNatClampNeg)]) (rest := []) (u := u0) hC (fun _ _ => rfl) (fun _ => rfl) (ctX12_draw h) wvX12_draw ml_X12_431 (ci := 10) (q0 := 0) rfl rfl rfl rfl (rmok hR0 rfl) ⟨Nat.zero_le _, Nat.zero_le _⟩ rfl (Nat.le_of_ble_eq_true rfl) dX12_doesAny_18 (fun r_14 u_13 h => ?_)
    refine g_istore_n (pc := 21) (lv' := [(1, .int r_14), (0, .ref o0)]) hC dX12_doesAny_21 rfl (Nat.le_of_ble_eq_true rfl) rfl ?_
    refine g_aload_n (pc := 22) hC 1 dX12_doesAny_22 rfl rfl ?_
    refine g_bipush (pc := 23) (v := 16) hC dX12_doesAny_23 (by decide) ?_
    refine g_callV_i (pc := 25) (wd := fun (u : St) Y => (wX12 o0 a0 (xy C) u Y)) (F := fun Z => Z) (X := []) (As := [.int (16 : Int32)]) (rest := []) (u := u_13) hC (fun _ _ => rfl) (fun _ => rfl) (ctX12_draw h) wvX12_draw ml_X12_431 (ci := 10) (q0 := 0) rfl rfl rfl rfl (rmok hR0 rfl) ⟨Nat.zero_le _, Nat.zero_le _⟩ rfl (Nat.le_of_ble_eq_true rfl) dX12_doesAny_25 (fun r_17 u_16 h => ?_)
    refine g_aload_n (pc := 28) hC 1 dX12_doesAny_28 rfl rfl ?_
    refine getX12_0 (pc := 29) hC (F := fun Z => Z) (X := []) (fun _ => rfl) fl_X12_7 dX12_doesAny_29 ?_
    refine g_iconst (pc := 32) (v := 3) hC dX12_doesAny_32 (by decide) ?_
    refine aldX12_0 (pc := 33) hC (F := fun Z => Z) (X := []) (fun _ => rfl) (by unfold vp_in; decide) dX12_doesAny_33 ?_
    refine g_icmp_lt (pc := 34) (tgt := 43) hC dX12_doesAny_34 (by decide) (fun c_19 => ?_) (fun c_19 => ?_)
    · have h := h.1 c_19
      refine g_aload_n (pc := 43) hC 1 dX12_doesAny_43 rfl rfl ?_
      refine g_iload_n (pc := 44) hC 0 dX12_doesAny_44 rfl rfl ?_
      refine g_bipush (pc := 45) (v := 20) hC dX12_doesAny_45 (by decide) ?_
      refine g_callV_v (pc := 47) (wd := fun (u : St) Y => (wX12 o0 a0 (xy C) u Y)) (F := fun Z => Z) (X := []) (As := [.int r_14, .int (20 : Int32)]) (rest := []) (u := u_16) hC (fun _ _ => rfl) (fun _ => rfl) (ctX12_givesTo h) wvX12_givesTo ml_X12_344 (ci := 10) (q0 := 0) rfl rfl rfl rfl (rmok hR0 rfl) ⟨Nat.zero_le _, Nat.zero_le _⟩ rfl (Nat.le_of_ble_eq_true rfl) dX12_doesAny_47 (fun u_20 h => ?_)
      refine g_iconst (pc := 50) (v := 1) hC dX12_doesAny_50 (by decide) ?_
      exact hR _ _ _ u_20 dX12_doesAny_51 (Or.inr rfl) h
    · have h := h.2 c_19
      refine g_aload_n (pc := 37) hC 1 dX12_doesAny_37 rfl rfl ?_
      refine g_iconst (pc := 38) (v := 1) hC dX12_doesAny_38 (by decide) ?_
      refine g_callV_i (pc := 39) (wd := fun (u : St) Y => (wX12 o0 a0 (xy C) u Y)) (F := fun Z => Z) (X := []) (As := [.int (1 : Int32)]) (rest := []) (u := u_16) hC (fun _ _ => rfl) (fun _ => rfl) (ctX12_yearsBy h) wvX12_yearsBy ml_X12_434 (ci := 10) (q0 := 0) rfl rfl rfl rfl (rmok hR0 rfl) ⟨Nat.zero_le _, Nat.zero_le _⟩ rfl (Nat.le_of_ble_eq_true rfl) dX12_doesAny_39 (fun r_23 u_22 h => ?_)
      exact hR _ _ _ u_22 dX12_doesAny_42 h.1 h.2
  · have h := h.2 c_12
    refine g_iconst (pc := 9) (v := 0) hC dX12_doesAny_9 (by decide) ?_
    exact hR _ _ _ u0 dX12_doesAny_10 (Or.inl rfl) h
theorem ctX12_doesAny {l : Launch} {D : va_G} {cy : Nat → ClassId} {kd : Nat → Nat} {o0 : Nat} {a0 : Nat → Nat}  {u0 : St} {post : Int32 → St → Prop} (h : qX12_doesAny  u0 post) : CtI l D cy kd yX12_doesAny cX12_doesAny 2 10 .boolean [.ref o0] (fun u : St => (wX12 o0 a0 cy u [])) u0 (fun r u => post r u) := met_z (by decide) (Nat.le_of_ble_eq_true rfl) (fun C e1 e2 e3 e4 e5 hC hR => by subst e1 e2 e3 e4; exact kX12_doesAny hC e5 hR h)
theorem dX12_does_0 : decode cX12_does 0 = .ok (.aload_n 0, 1) := by decide +kernel
theorem dX12_does_1 : decode cX12_does 1 = .ok (.getfield 7, 3) := by decide +kernel
theorem dX12_does_4 : decode cX12_does 4 = .ok (.iload_n 1, 1) := by decide +kernel
theorem dX12_does_5 : decode cX12_does 5 = .ok (.iconst 1, 1) := by decide +kernel
theorem dX12_does_6 : decode cX12_does 6 = .ok (.iadd, 1) := by decide +kernel
theorem dX12_does_7 : decode cX12_does 7 = .ok (.iaload, 1) := by decide +kernel
theorem dX12_does_8 : decode cX12_does 8 = .ok (.istore_n 2, 1) := by decide +kernel
theorem dX12_does_9 : decode cX12_does 9 = .ok (.aload_n 0, 1) := by decide +kernel
theorem dX12_does_10 : decode cX12_does 10 = .ok (.getfield 7, 3) := by decide +kernel
theorem dX12_does_13 : decode cX12_does 13 = .ok (.iload_n 1, 1) := by decide +kernel
theorem dX12_does_14 : decode cX12_does 14 = .ok (.iaload, 1) := by decide +kernel
theorem dX12_does_15 : decode cX12_does 15 = .ok (.tableswitch 89 13 18 #[37, 43, 49, 63, 69, 84], 37) := by decide +kernel
theorem dX12_does_52 : decode cX12_does 52 = .ok (.aload_n 0, 1) := by decide +kernel
theorem dX12_does_53 : decode cX12_does 53 = .ok (.iload_n 2, 1) := by decide +kernel
theorem dX12_does_54 : decode cX12_does 54 = .ok (.invokevirtual 434, 3) := by decide +kernel
theorem dX12_does_57 : decode cX12_does 57 = .ok (.ireturn, 1) := by decide +kernel
theorem dX12_does_58 : decode cX12_does 58 = .ok (.aload_n 0, 1) := by decide +kernel
theorem dX12_does_59 : decode cX12_does 59 = .ok (.iload_n 2, 1) := by decide +kernel
theorem dX12_does_60 : decode cX12_does 60 = .ok (.invokevirtual 437, 3) := by decide +kernel
theorem dX12_does_63 : decode cX12_does 63 = .ok (.ireturn, 1) := by decide +kernel
theorem dX12_does_64 : decode cX12_does 64 = .ok (.aload_n 0, 1) := by decide +kernel
theorem dX12_does_65 : decode cX12_does 65 = .ok (.iload_n 2, 1) := by decide +kernel
theorem dX12_does_66 : decode cX12_does 66 = .ok (.aload_n 0, 1) := by decide +kernel
theorem dX12_does_67 : decode cX12_does 67 = .ok (.getfield 7, 3) := by decide +kernel
theorem dX12_does_70 : decode cX12_does 70 = .ok (.iload_n 1, 1) := by decide +kernel
theorem dX12_does_71 : decode cX12_does 71 = .ok (.iconst 2, 1) := by decide +kernel
theorem dX12_does_72 : decode cX12_does 72 = .ok (.iadd, 1) := by decide +kernel
theorem dX12_does_73 : decode cX12_does 73 = .ok (.iaload, 1) := by decide +kernel
theorem dX12_does_74 : decode cX12_does 74 = .ok (.invokevirtual 440, 3) := by decide +kernel
theorem dX12_does_77 : decode cX12_does 77 = .ok (.ireturn, 1) := by decide +kernel
theorem dX12_does_78 : decode cX12_does 78 = .ok (.aload_n 0, 1) := by decide +kernel
theorem dX12_does_79 : decode cX12_does 79 = .ok (.iload_n 2, 1) := by decide +kernel
theorem dX12_does_80 : decode cX12_does 80 = .ok (.invokevirtual 337, 3) := by decide +kernel
theorem dX12_does_83 : decode cX12_does 83 = .ok (.ireturn, 1) := by decide +kernel
theorem dX12_does_84 : decode cX12_does 84 = .ok (.aload_n 0, 1) := by decide +kernel
theorem dX12_does_85 : decode cX12_does 85 = .ok (.iload_n 2, 1) := by decide +kernel
theorem dX12_does_86 : decode cX12_does 86 = .ok (.aload_n 0, 1) := by decide +kernel
theorem dX12_does_87 : decode cX12_does 87 = .ok (.getfield 7, 3) := by decide +kernel
theorem dX12_does_90 : decode cX12_does 90 = .ok (.iload_n 1, 1) := by decide +kernel
theorem dX12_does_91 : decode cX12_does 91 = .ok (.iconst 2, 1) := by decide +kernel
theorem dX12_does_92 : decode cX12_does 92 = .ok (.iadd, 1) := by decide +kernel
theorem dX12_does_93 : decode cX12_does 93 = .ok (.iaload, 1) := by decide +kernel
theorem dX12_does_94 : decode cX12_does 94 = .ok (.invokevirtual 344, 3) := by decide +kernel
theorem dX12_does_97 : decode cX12_does 97 = .ok (.iconst 1, 1) := by decide +kernel
theorem dX12_does_98 : decode cX12_does 98 = .ok (.ireturn, 1) := by decide +kernel
theorem dX12_does_99 : decode cX12_does 99 = .ok (.aload_n 0, 1) := by decide +kernel
theorem dX12_does_100 : decode cX12_does 100 = .ok (.invokevirtual 443, 3) := by decide +kernel
theorem dX12_does_103 : decode cX12_does 103 = .ok (.ireturn, 1) := by decide +kernel
theorem dX12_does_104 : decode cX12_does 104 = .ok (.iconst 1, 1) := by decide +kernel
theorem dX12_does_105 : decode cX12_does 105 = .ok (.ireturn, 1) := by decide +kernel
def qX12_does (x1 : Int32) (u0 : St) (post : Int32 → St → Prop) : Prop := (vp_in (x1 + (1 : Int32)) 3072 ∧ ∀ x2_18 : Int32, x2_18 = (ga u0 0 ((x1 + (1 : Int32))).toNatClampNeg) → (vp_in x1 3072 ∧ (((ga u0 0 (x1).toNatClampNeg) = (13 : Int32) → qX12_yearsBy x2_18 u0 (fun r_20 u_19 => (bz r_20 ∧ post r_20 u_19))) ∧ (((ga u0 0 (x1).toNatClampNeg) = (14 : Int32) → qX12_paysBy x2_18 u0 (fun r_24 u_23 => (bz r_24 ∧ post r_24 u_23))) ∧ (((ga u0 0 (x1).toNatClampNeg) = (15 : Int32) → (vp_in (x1 + (2 : Int32)) 3072 ∧ qX12_snipsBy x2_18 (ga u0 0 ((x1 + (2 : Int32))).toNatClampNeg) u0 (fun r_28 u_27 => (bz r_28 ∧ post r_28 u_27)))) ∧ (((ga u0 0 (x1).toNatClampNeg) = (16 : Int32) → qX12_mends x2_18 u0 (fun r_32 u_31 => (bz r_32 ∧ post r_32 u_31))) ∧ (((ga u0 0 (x1).toNatClampNeg) = (17 : Int32) → (vp_in (x1 + (2 : Int32)) 3072 ∧ qX12_givesTo x2_18 (ga u0 0 ((x1 + (2 : Int32))).toNatClampNeg) u0 (fun u_35 => post (1 : Int32) u_35))) ∧ (((ga u0 0 (x1).toNatClampNeg) = (18 : Int32) → qX12_doesAny u0 (fun r_39 u_38 => (bz r_39 ∧ post r_39 u_38))) ∧ (¬ (ga u0 0 (x1).toNatClampNeg) = (13 : Int32) → ¬ (ga u0 0 (x1).toNatClampNeg) = (14 : Int32) → ¬ (ga u0 0 (x1).toNatClampNeg) = (15 : Int32) → ¬ (ga u0 0 (x1).toNatClampNeg) = (16 : Int32) → ¬ (ga u0 0 (x1).toNatClampNeg) = (17 : Int32) → ¬ (ga u0 0 (x1).toNatClampNeg) = (18 : Int32) → post (1 : Int32) u0)))))))))
set_option maxRecDepth 100000 in
set_option maxHeartbeats 4000000 in
theorem kX12_does {C : Cx} {o0 : Nat} {a0 : Nat → Nat} (hC : Fx C cX12_does 3 RX12) (hR0 : xR C = rm 11) {post : Int32 → St → Prop} (hR : RZ C cX12_does 3 (fun u : St => (wX12 o0 a0 (xy C) u [])) (fun r u => post r u)) {x1 : Int32} {u0 : St} (h : qX12_does x1 u0 post) : G C 0 0 3 (wX12 o0 a0 (xy C) u0 []) 0 [(0, .ref o0), (1, .int x1)] [] := by
  refine g_aload_n (pc := 0) hC 0 dX12_does_0 rfl rfl ?_
  refine getX12_0 (pc := 1) hC (F := fun Z => Z) (X := []) (fun _ => rfl) fl_X12_7 dX12_does_1 ?_
  refine g_iload_n (pc := 4) hC 1 dX12_does_4 rfl rfl ?_
  refine g_iconst (pc := 5) (v := 1) hC dX12_does_5 (by decide) ?_
  refine g_iadd (pc := 6) hC dX12_does_6 ?_
  refine aldX12_0 (pc := 7) hC (F := fun Z => Z) (X := []) (fun _ => rfl) h.1 dX12_does_7 ?_
  have h := h.2
  refine g_topi (fun x2_18 ex2_18 => ?_)
  have h := h x2_18 ex2_18
  refine g_istore_n (pc := 8) (lv' := [(2, .int x2_18), (0, .ref o0), (1, .int x1)]) hC dX12_does_8 rfl (Nat.le_of_ble_eq_true rfl) rfl ?_
  refine g_aload_n (pc := 9) hC 1 dX12_does_9 rfl rfl ?_
  refine getX12_0 (pc := 10) hC (F := fun Z => Z) (X := []) (fun _ => rfl) fl_X12_7 dX12_does_10 ?_
  refine g_iload_n (pc := 13) hC 2 dX12_does_13 rfl rfl ?_
  refine aldX12_0 (pc := 14) hC (F := fun Z => Z) (X := []) (fun _ => rfl) h.1 dX12_does_14 ?_
  have h := h.2
  by_cases c_22 : (ga u0 0 (x1).toNatClampNeg) = (13 : Int32)
  · have h := h.1 c_22
    refine g_tabIn (pc := 15) (tgt := 52) hC dX12_does_15 (by rw [c_22]; decide) (by rw [c_22]; decide) (by rw [c_22]; rfl) (by decide) ?_
    refine g_aload_n (pc := 52) hC 1 dX12_does_52 rfl rfl ?_
    refine g_iload_n (pc := 53) hC 0 dX12_does_53 rfl rfl ?_
    refine g_callV_i (pc := 54) (wd := fun (u : St) Y => (wX12 o0 a0 (xy C) u Y)) (F := fun Z => Z) (X := []) (As := [.int x2_18]) (rest := []) (u := u0) hC (fun _ _ => rfl) (fun _ => rfl) (ctX12_yearsBy h) wvX12_yearsBy ml_X12_434 (ci := 10) (q0 := 0) rfl rfl rfl rfl (rmok hR0 rfl) ⟨Nat.zero_le _, Nat.zero_le _⟩ rfl (Nat.le_of_ble_eq_true rfl) dX12_does_54 (fun r_20 u_19 h => ?_)
    exact hR _ _ _ u_19 dX12_does_57 h.1 h.2
  by_cases c_26 : (ga u0 0 (x1).toNatClampNeg) = (14 : Int32)
  · have h := h.2.1 c_26
    refine g_tabIn (pc := 15) (tgt := 58) hC dX12_does_15 (by rw [c_26]; decide) (by rw [c_26]; decide) (by rw [c_26]; rfl) (by decide) ?_
    refine g_aload_n (pc := 58) hC 1 dX12_does_58 rfl rfl ?_
    refine g_iload_n (pc := 59) hC 0 dX12_does_59 rfl rfl ?_
    refine g_callV_i (pc := 60) (wd := fun (u : St) Y => (wX12 o0 a0 (xy C) u Y)) (F := fun Z => Z) (X := []) (As := [.int x2_18]) (rest := []) (u := u0) hC (fun _ _ => rfl) (fun _ => rfl) (ctX12_paysBy h) wvX12_paysBy ml_X12_437 (ci := 10) (q0 := 0) rfl rfl rfl rfl (rmok hR0 rfl) ⟨Nat.zero_le _, Nat.zero_le _⟩ rfl (Nat.le_of_ble_eq_true rfl) dX12_does_60 (fun r_24 u_23 h => ?_)
    exact hR _ _ _ u_23 dX12_does_63 h.1 h.2
  by_cases c_30 : (ga u0 0 (x1).toNatClampNeg) = (15 : Int32)
  · have h := h.2.2.1 c_30
    refine g_tabIn (pc := 15) (tgt := 64) hC dX12_does_15 (by rw [c_30]; decide) (by rw [c_30]; decide) (by rw [c_30]; rfl) (by decide) ?_
    refine g_aload_n (pc := 64) hC 1 dX12_does_64 rfl rfl ?_
    refine g_iload_n (pc := 65) hC 0 dX12_does_65 rfl rfl ?_
    refine g_aload_n (pc := 66) hC 1 dX12_does_66 rfl rfl ?_
    refine getX12_0 (pc := 67) hC (F := fun Z => Z) (X := []) (fun _ => rfl) fl_X12_7 dX12_does_67 ?_
    refine g_iload_n (pc := 70) hC 2 dX12_does_70 rfl rfl ?_
    refine g_iconst (pc := 71) (v := 2) hC dX12_does_71 (by decide) ?_
    refine g_iadd (pc := 72) hC dX12_does_72 ?_
    refine aldX12_0 (pc := 73) hC (F := fun Z => Z) (X := []) (fun _ => rfl) h.1 dX12_does_73 ?_
    have h := h.2
    refine g_callV_i (pc := 74) (wd := fun (u : St) Y => (wX12 o0 a0 (xy C) u Y)) (F := fun Z => Z) (X := []) (As := [.int x2_18, .int (ga u0 0 ((x1 + (2 : Int32))).toNatClampNeg)]) (rest := []) (u := u0) hC (fun _ _ => rfl) (fun _ => rfl) (ctX12_snipsBy h) wvX12_snipsBy ml_X12_440 (ci := 10) (q0 := 0) rfl rfl rfl rfl (rmok hR0 rfl) ⟨Nat.zero_le _, Nat.zero_le _⟩ rfl (Nat.le_of_ble_eq_true rfl) dX12_does_74 (fun r_28 u_27 h => ?_)
    exact hR _ _ _ u_27 dX12_does_77 h.1 h.2
  by_cases c_34 : (ga u0 0 (x1).toNatClampNeg) = (16 : Int32)
  · have h := h.2.2.2.1 c_34
    refine g_tabIn (pc := 15) (tgt := 78) hC dX12_does_15 (by rw [c_34]; decide) (by rw [c_34]; decide) (by rw [c_34]; rfl) (by decide) ?_
    refine g_aload_n (pc := 78) hC 1 dX12_does_78 rfl rfl ?_
    refine g_iload_n (pc := 79) hC 0 dX12_does_79 rfl rfl ?_
    refine g_callV_i (pc := 80) (wd := fun (u : St) Y => (wX12 o0 a0 (xy C) u Y)) (F := fun Z => Z) (X := []) (As := [.int x2_18]) (rest := []) (u := u0) hC (fun _ _ => rfl) (fun _ => rfl) (ctX12_mends h) wvX12_mends ml_X12_337 (ci := 10) (q0 := 0) rfl rfl rfl rfl (rmok hR0 rfl) ⟨Nat.zero_le _, Nat.zero_le _⟩ rfl (Nat.le_of_ble_eq_true rfl) dX12_does_80 (fun r_32 u_31 h => ?_)
    exact hR _ _ _ u_31 dX12_does_83 h.1 h.2
  by_cases c_37 : (ga u0 0 (x1).toNatClampNeg) = (17 : Int32)
  · have h := h.2.2.2.2.1 c_37
    refine g_tabIn (pc := 15) (tgt := 84) hC dX12_does_15 (by rw [c_37]; decide) (by rw [c_37]; decide) (by rw [c_37]; rfl) (by decide) ?_
    refine g_aload_n (pc := 84) hC 1 dX12_does_84 rfl rfl ?_
    refine g_iload_n (pc := 85) hC 0 dX12_does_85 rfl rfl ?_
    refine g_aload_n (pc := 86) hC 1 dX12_does_86 rfl rfl ?_
    refine getX12_0 (pc := 87) hC (F := fun Z => Z) (X := []) (fun _ => rfl) fl_X12_7 dX12_does_87 ?_
    refine g_iload_n (pc := 90) hC 2 dX12_does_90 rfl rfl ?_
    refine g_iconst (pc := 91) (v := 2) hC dX12_does_91 (by decide) ?_
    refine g_iadd (pc := 92) hC dX12_does_92 ?_
    refine aldX12_0 (pc := 93) hC (F := fun Z => Z) (X := []) (fun _ => rfl) h.1 dX12_does_93 ?_
    have h := h.2
    refine g_callV_v (pc := 94) (wd := fun (u : St) Y => (wX12 o0 a0 (xy C) u Y)) (F := fun Z => Z) (X := []) (As := [.int x2_18, .int (ga u0 0 ((x1 + (2 : Int32))).toNatClampNeg)]) (rest := []) (u := u0) hC (fun _ _ => rfl) (fun _ => rfl) (ctX12_givesTo h) wvX12_givesTo ml_X12_344 (ci := 10) (q0 := 0) rfl rfl rfl rfl (rmok hR0 rfl) ⟨Nat.zero_le _, Nat.zero_le _⟩ rfl (Nat.le_of_ble_eq_true rfl) dX12_does_94 (fun u_35 h => ?_)
    refine g_iconst (pc := 97) (v := 1) hC dX12_does_97 (by decide) ?_
    exact hR _ _ _ u_35 dX12_does_98 (Or.inr rfl) h
  by_cases c_41 : (ga u0 0 (x1).toNatClampNeg) = (18 : Int32)
  · have h := h.2.2.2.2.2.1 c_41
    refine g_tabIn (pc := 15) (tgt := 99) hC dX12_does_15 (by rw [c_41]; decide) (by rw [c_41]; decide) (by rw [c_41]; rfl) (by decide) ?_
    refine g_aload_n (pc := 99) hC 1 dX12_does_99 rfl rfl ?_
    refine g_callV_i (pc := 100) (wd := fun (u : St) Y => (wX12 o0 a0 (xy C) u Y)) (F := fun Z => Z) (X := []) (As := []) (rest := []) (u := u0) hC (fun _ _ => rfl) (fun _ => rfl) (ctX12_doesAny h) wvX12_doesAny ml_X12_443 (ci := 10) (q0 := 0) rfl rfl rfl rfl (rmok hR0 rfl) ⟨Nat.zero_le _, Nat.zero_le _⟩ rfl (Nat.le_of_ble_eq_true rfl) dX12_does_100 (fun r_39 u_38 h => ?_)
    exact hR _ _ _ u_38 dX12_does_103 h.1 h.2
  have h := h.2.2.2.2.2.2 c_22 c_26 c_30 c_34 c_37 c_41
  refine g_tabOut (pc := 15) (tgt := 104) hC dX12_does_15 (tab_out (ga u0 0 (x1).toNatClampNeg) (13) 6 (18) rfl (tab_s c_22 (tab_s c_26 (tab_s c_30 (tab_s c_34 (tab_s c_37 (tab_s c_41 tab_0))))))) (by decide) ?_
  refine g_iconst (pc := 104) (v := 1) hC dX12_does_104 (by decide) ?_
  exact hR _ _ _ u0 dX12_does_105 (Or.inr rfl) h
theorem ctX12_does {l : Launch} {D : va_G} {cy : Nat → ClassId} {kd : Nat → Nat} {o0 : Nat} {a0 : Nat → Nat} {x1 : Int32} {u0 : St} {post : Int32 → St → Prop} (h : qX12_does x1 u0 post) : CtI l D cy kd yX12_does cX12_does 3 11 .boolean [.ref o0, .int x1] (fun u : St => (wX12 o0 a0 cy u [])) u0 (fun r u => post r u) := met_z (by decide) (Nat.le_of_ble_eq_true rfl) (fun C e1 e2 e3 e4 e5 hC hR => by subst e1 e2 e3 e4; exact kX12_does hC e5 hR h)
theorem dX12_holds_0 : decode cX12_holds 0 = .ok (.aload_n 0, 1) := by decide +kernel
theorem dX12_holds_1 : decode cX12_holds 1 = .ok (.getfield 7, 3) := by decide +kernel
theorem dX12_holds_4 : decode cX12_holds 4 = .ok (.iload_n 1, 1) := by decide +kernel
theorem dX12_holds_5 : decode cX12_holds 5 = .ok (.iaload, 1) := by decide +kernel
theorem dX12_holds_6 : decode cX12_holds 6 = .ok (.sipush 1900, 3) := by decide +kernel
theorem dX12_holds_9 : decode cX12_holds 9 = .ok (.isub, 1) := by decide +kernel
theorem dX12_holds_10 : decode cX12_holds 10 = .ok (.istore_n 2, 1) := by decide +kernel
theorem dX12_holds_11 : decode cX12_holds 11 = .ok (.aload_n 0, 1) := by decide +kernel
theorem dX12_holds_12 : decode cX12_holds 12 = .ok (.getfield 7, 3) := by decide +kernel
theorem dX12_holds_15 : decode cX12_holds 15 = .ok (.iload_n 1, 1) := by decide +kernel
theorem dX12_holds_16 : decode cX12_holds 16 = .ok (.iconst 1, 1) := by decide +kernel
theorem dX12_holds_17 : decode cX12_holds 17 = .ok (.iadd, 1) := by decide +kernel
theorem dX12_holds_18 : decode cX12_holds 18 = .ok (.iaload, 1) := by decide +kernel
theorem dX12_holds_19 : decode cX12_holds 19 = .ok (.istore_n 3, 1) := by decide +kernel
theorem dX12_holds_20 : decode cX12_holds 20 = .ok (.iload_n 2, 1) := by decide +kernel
theorem dX12_holds_21 : decode cX12_holds 21 = .ok (.bipush 23, 2) := by decide +kernel
theorem dX12_holds_23 : decode cX12_holds 23 = .ok (.if_icmp .ne 13, 3) := by decide +kernel
theorem dX12_holds_26 : decode cX12_holds 26 = .ok (.aload_n 0, 1) := by decide +kernel
theorem dX12_holds_27 : decode cX12_holds 27 = .ok (.aload_n 0, 1) := by decide +kernel
theorem dX12_holds_28 : decode cX12_holds 28 = .ok (.invokevirtual 279, 3) := by decide +kernel
theorem dX12_holds_31 : decode cX12_holds 31 = .ok (.iload_n 3, 1) := by decide +kernel
theorem dX12_holds_32 : decode cX12_holds 32 = .ok (.invokevirtual 201, 3) := by decide +kernel
theorem dX12_holds_35 : decode cX12_holds 35 = .ok (.ireturn, 1) := by decide +kernel
theorem dX12_holds_36 : decode cX12_holds 36 = .ok (.iload_n 2, 1) := by decide +kernel
theorem dX12_holds_37 : decode cX12_holds 37 = .ok (.bipush 24, 2) := by decide +kernel
theorem dX12_holds_39 : decode cX12_holds 39 = .ok (.if_icmp .ne 9, 3) := by decide +kernel
theorem dX12_holds_42 : decode cX12_holds 42 = .ok (.aload_n 0, 1) := by decide +kernel
theorem dX12_holds_43 : decode cX12_holds 43 = .ok (.iload_n 3, 1) := by decide +kernel
theorem dX12_holds_44 : decode cX12_holds 44 = .ok (.invokevirtual 261, 3) := by decide +kernel
theorem dX12_holds_47 : decode cX12_holds 47 = .ok (.ireturn, 1) := by decide +kernel
theorem dX12_holds_48 : decode cX12_holds 48 = .ok (.iload_n 2, 1) := by decide +kernel
theorem dX12_holds_49 : decode cX12_holds 49 = .ok (.bipush 12, 2) := by decide +kernel
theorem dX12_holds_51 : decode cX12_holds 51 = .ok (.if_icmp .ne 13, 3) := by decide +kernel
theorem dX12_holds_54 : decode cX12_holds 54 = .ok (.aload_n 0, 1) := by decide +kernel
theorem dX12_holds_55 : decode cX12_holds 55 = .ok (.iload_n 3, 1) := by decide +kernel
theorem dX12_holds_56 : decode cX12_holds 56 = .ok (.invokevirtual 294, 3) := by decide +kernel
theorem dX12_holds_59 : decode cX12_holds 59 = .ok (.ifCond .ne 5, 3) := by decide +kernel
theorem dX12_holds_62 : decode cX12_holds 62 = .ok (.iconst 0, 1) := by decide +kernel
theorem dX12_holds_63 : decode cX12_holds 63 = .ok (.ireturn, 1) := by decide +kernel
theorem dX12_holds_64 : decode cX12_holds 64 = .ok (.iload_n 2, 1) := by decide +kernel
theorem dX12_holds_65 : decode cX12_holds 65 = .ok (.bipush 7, 2) := by decide +kernel
theorem dX12_holds_67 : decode cX12_holds 67 = .ok (.if_icmp .ne 15, 3) := by decide +kernel
theorem dX12_holds_70 : decode cX12_holds 70 = .ok (.aload_n 0, 1) := by decide +kernel
theorem dX12_holds_71 : decode cX12_holds 71 = .ok (.getfield 7, 3) := by decide +kernel
theorem dX12_holds_74 : decode cX12_holds 74 = .ok (.bipush 34, 2) := by decide +kernel
theorem dX12_holds_76 : decode cX12_holds 76 = .ok (.iload_n 3, 1) := by decide +kernel
theorem dX12_holds_77 : decode cX12_holds 77 = .ok (.iadd, 1) := by decide +kernel
theorem dX12_holds_78 : decode cX12_holds 78 = .ok (.iaload, 1) := by decide +kernel
theorem dX12_holds_79 : decode cX12_holds 79 = .ok (.goto 10, 3) := by decide +kernel
theorem dX12_holds_82 : decode cX12_holds 82 = .ok (.aload_n 0, 1) := by decide +kernel
theorem dX12_holds_83 : decode cX12_holds 83 = .ok (.iload_n 3, 1) := by decide +kernel
theorem dX12_holds_84 : decode cX12_holds 84 = .ok (.bipush 6, 2) := by decide +kernel
theorem dX12_holds_86 : decode cX12_holds 86 = .ok (.invokevirtual 264, 3) := by decide +kernel
theorem dX12_holds_89 : decode cX12_holds 89 = .ok (.istore 4, 2) := by decide +kernel
theorem dX12_holds_91 : decode cX12_holds 91 = .ok (.aload_n 0, 1) := by decide +kernel
theorem dX12_holds_92 : decode cX12_holds 92 = .ok (.getfield 7, 3) := by decide +kernel
theorem dX12_holds_95 : decode cX12_holds 95 = .ok (.iload_n 1, 1) := by decide +kernel
theorem dX12_holds_96 : decode cX12_holds 96 = .ok (.iconst 5, 1) := by decide +kernel
theorem dX12_holds_97 : decode cX12_holds 97 = .ok (.iadd, 1) := by decide +kernel
theorem dX12_holds_98 : decode cX12_holds 98 = .ok (.iaload, 1) := by decide +kernel
theorem dX12_holds_99 : decode cX12_holds 99 = .ok (.bipush 60, 2) := by decide +kernel
theorem dX12_holds_101 : decode cX12_holds 101 = .ok (.if_icmp .ne 24, 3) := by decide +kernel
theorem dX12_holds_104 : decode cX12_holds 104 = .ok (.iload 4, 2) := by decide +kernel
theorem dX12_holds_106 : decode cX12_holds 106 = .ok (.aload_n 0, 1) := by decide +kernel
theorem dX12_holds_107 : decode cX12_holds 107 = .ok (.getfield 7, 3) := by decide +kernel
theorem dX12_holds_110 : decode cX12_holds 110 = .ok (.iload_n 1, 1) := by decide +kernel
theorem dX12_holds_111 : decode cX12_holds 111 = .ok (.iconst 2, 1) := by decide +kernel
theorem dX12_holds_112 : decode cX12_holds 112 = .ok (.iadd, 1) := by decide +kernel
theorem dX12_holds_113 : decode cX12_holds 113 = .ok (.iaload, 1) := by decide +kernel
theorem dX12_holds_114 : decode cX12_holds 114 = .ok (.if_icmp .ge 7, 3) := by decide +kernel
theorem dX12_holds_117 : decode cX12_holds 117 = .ok (.iconst 1, 1) := by decide +kernel
theorem dX12_holds_118 : decode cX12_holds 118 = .ok (.goto 59, 3) := by decide +kernel
theorem dX12_holds_121 : decode cX12_holds 121 = .ok (.iconst 0, 1) := by decide +kernel
theorem dX12_holds_122 : decode cX12_holds 122 = .ok (.goto 55, 3) := by decide +kernel
theorem dX12_holds_125 : decode cX12_holds 125 = .ok (.aload_n 0, 1) := by decide +kernel
theorem dX12_holds_126 : decode cX12_holds 126 = .ok (.getfield 7, 3) := by decide +kernel
theorem dX12_holds_129 : decode cX12_holds 129 = .ok (.iload_n 1, 1) := by decide +kernel
theorem dX12_holds_130 : decode cX12_holds 130 = .ok (.iconst 5, 1) := by decide +kernel
theorem dX12_holds_131 : decode cX12_holds 131 = .ok (.iadd, 1) := by decide +kernel
theorem dX12_holds_132 : decode cX12_holds 132 = .ok (.iaload, 1) := by decide +kernel
theorem dX12_holds_133 : decode cX12_holds 133 = .ok (.bipush 62, 2) := by decide +kernel
theorem dX12_holds_135 : decode cX12_holds 135 = .ok (.if_icmp .ne 24, 3) := by decide +kernel
theorem dX12_holds_138 : decode cX12_holds 138 = .ok (.iload 4, 2) := by decide +kernel
theorem dX12_holds_140 : decode cX12_holds 140 = .ok (.aload_n 0, 1) := by decide +kernel
theorem dX12_holds_141 : decode cX12_holds 141 = .ok (.getfield 7, 3) := by decide +kernel
theorem dX12_holds_144 : decode cX12_holds 144 = .ok (.iload_n 1, 1) := by decide +kernel
theorem dX12_holds_145 : decode cX12_holds 145 = .ok (.iconst 2, 1) := by decide +kernel
theorem dX12_holds_146 : decode cX12_holds 146 = .ok (.iadd, 1) := by decide +kernel
theorem dX12_holds_147 : decode cX12_holds 147 = .ok (.iaload, 1) := by decide +kernel
theorem dX12_holds_148 : decode cX12_holds 148 = .ok (.if_icmp .le 7, 3) := by decide +kernel
theorem dX12_holds_151 : decode cX12_holds 151 = .ok (.iconst 1, 1) := by decide +kernel
theorem dX12_holds_152 : decode cX12_holds 152 = .ok (.goto 25, 3) := by decide +kernel
theorem dX12_holds_155 : decode cX12_holds 155 = .ok (.iconst 0, 1) := by decide +kernel
theorem dX12_holds_156 : decode cX12_holds 156 = .ok (.goto 21, 3) := by decide +kernel
theorem dX12_holds_159 : decode cX12_holds 159 = .ok (.iload 4, 2) := by decide +kernel
theorem dX12_holds_161 : decode cX12_holds 161 = .ok (.aload_n 0, 1) := by decide +kernel
theorem dX12_holds_162 : decode cX12_holds 162 = .ok (.getfield 7, 3) := by decide +kernel
theorem dX12_holds_165 : decode cX12_holds 165 = .ok (.iload_n 1, 1) := by decide +kernel
theorem dX12_holds_166 : decode cX12_holds 166 = .ok (.iconst 2, 1) := by decide +kernel
theorem dX12_holds_167 : decode cX12_holds 167 = .ok (.iadd, 1) := by decide +kernel
theorem dX12_holds_168 : decode cX12_holds 168 = .ok (.iaload, 1) := by decide +kernel
theorem dX12_holds_169 : decode cX12_holds 169 = .ok (.if_icmp .ne 7, 3) := by decide +kernel
theorem dX12_holds_172 : decode cX12_holds 172 = .ok (.iconst 1, 1) := by decide +kernel
theorem dX12_holds_173 : decode cX12_holds 173 = .ok (.goto 4, 3) := by decide +kernel
theorem dX12_holds_176 : decode cX12_holds 176 = .ok (.iconst 0, 1) := by decide +kernel
theorem dX12_holds_177 : decode cX12_holds 177 = .ok (.ireturn, 1) := by decide +kernel
def qX12_holds_b177  (post : Int32 → St → Prop)  (s0 : Int32) (u0 : St) : Prop := (bz s0 ∧ post s0 u0)
set_option maxRecDepth 100000 in
set_option maxHeartbeats 4000000 in
theorem kX12_holds_b177 {C : Cx} {o0 : Nat} {a0 : Nat → Nat} (hC : Fx C cX12_holds 5 RX12) (hR0 : xR C = rm 6) {post : Int32 → St → Prop} (hR : RZ C cX12_holds 5 (fun u : St => (wX12 o0 a0 (xy C) u [])) (fun r u => post r u))  {s0 : Int32} {u0 : St} (h : qX12_holds_b177 post s0 u0) : G C 0 0 5 (wX12 o0 a0 (xy C) u0 []) 177 [] [.int s0] := by
  exact hR _ _ _ u0 dX12_holds_177 h.1 h.2
def qX12_holds_b89  (post : Int32 → St → Prop)  (x1 : Int32) (s0 : Int32) (u0 : St) : Prop := (vp_in (x1 + (5 : Int32)) 3072 ∧ ((¬ (ga u0 0 ((x1 + (5 : Int32))).toNatClampNeg) = (60 : Int32) → (vp_in (x1 + (5 : Int32)) 3072 ∧ ((¬ (ga u0 0 ((x1 + (5 : Int32))).toNatClampNeg) = (62 : Int32) → (vp_in (x1 + (2 : Int32)) 3072 ∧ ((¬ s0 = (ga u0 0 ((x1 + (2 : Int32))).toNatClampNeg) → qX12_holds_b177 post (0 : Int32) u0) ∧ (s0 = (ga u0 0 ((x1 + (2 : Int32))).toNatClampNeg) → qX12_holds_b177 post (1 : Int32) u0)))) ∧ ((ga u0 0 ((x1 + (5 : Int32))).toNatClampNeg) = (62 : Int32) → (vp_in (x1 + (2 : Int32)) 3072 ∧ ((s0 ≤ (ga u0 0 ((x1 + (2 : Int32))).toNatClampNeg) → qX12_holds_b177 post (0 : Int32) u0) ∧ (¬ s0 ≤ (ga u0 0 ((x1 + (2 : Int32))).toNatClampNeg) → qX12_holds_b177 post (1 : Int32) u0))))))) ∧ ((ga u0 0 ((x1 + (5 : Int32))).toNatClampNeg) = (60 : Int32) → (vp_in (x1 + (2 : Int32)) 3072 ∧ (((ga u0 0 ((x1 + (2 : Int32))).toNatClampNeg) ≤ s0 → qX12_holds_b177 post (0 : Int32) u0) ∧ (¬ (ga u0 0 ((x1 + (2 : Int32))).toNatClampNeg) ≤ s0 → qX12_holds_b177 post (1 : Int32) u0))))))
set_option maxRecDepth 100000 in
set_option maxHeartbeats 4000000 in
theorem kX12_holds_b89 {C : Cx} {o0 : Nat} {a0 : Nat → Nat} (hC : Fx C cX12_holds 5 RX12) (hR0 : xR C = rm 6) {post : Int32 → St → Prop} (hR : RZ C cX12_holds 5 (fun u : St => (wX12 o0 a0 (xy C) u [])) (fun r u => post r u))  {x1 : Int32} {s0 : Int32} {u0 : St} (h : qX12_holds_b89 post x1 s0 u0) : G C 0 0 5 (wX12 o0 a0 (xy C) u0 []) 89 [(0, .ref o0), (1, .int x1)] [.int s0] := by
  refine g_istore (pc := 89) (lv' := [(4, .int s0), (0, .ref o0), (1, .int x1)]) hC dX12_holds_89 (Nat.le_of_ble_eq_true rfl) rfl ?_
  refine g_aload_n (pc := 91) hC 1 dX12_holds_91 rfl rfl ?_
  refine getX12_0 (pc := 92) hC (F := fun Z => Z) (X := []) (fun _ => rfl) fl_X12_7 dX12_holds_92 ?_
  refine g_iload_n (pc := 95) hC 2 dX12_holds_95 rfl rfl ?_
  refine g_iconst (pc := 96) (v := 5) hC dX12_holds_96 (by decide) ?_
  refine g_iadd (pc := 97) hC dX12_holds_97 ?_
  refine aldX12_0 (pc := 98) hC (F := fun Z => Z) (X := []) (fun _ => rfl) h.1 dX12_holds_98 ?_
  have h := h.2
  refine g_bipush (pc := 99) (v := 60) hC dX12_holds_99 (by decide) ?_
  refine g_icmp_ne (pc := 101) (tgt := 125) hC dX12_holds_101 (by decide) (fun c_16 => ?_) (fun c_16 => ?_)
  · have h := h.1 c_16
    refine g_aload_n (pc := 125) hC 1 dX12_holds_125 rfl rfl ?_
    refine getX12_0 (pc := 126) hC (F := fun Z => Z) (X := []) (fun _ => rfl) fl_X12_7 dX12_holds_126 ?_
    refine g_iload_n (pc := 129) hC 2 dX12_holds_129 rfl rfl ?_
    refine g_iconst (pc := 130) (v := 5) hC dX12_holds_130 (by decide) ?_
    refine g_iadd (pc := 131) hC dX12_holds_131 ?_
    refine aldX12_0 (pc := 132) hC (F := fun Z => Z) (X := []) (fun _ => rfl) h.1 dX12_holds_132 ?_
    have h := h.2
    refine g_bipush (pc := 133) (v := 62) hC dX12_holds_133 (by decide) ?_
    refine g_icmp_ne (pc := 135) (tgt := 159) hC dX12_holds_135 (by decide) (fun c_17 => ?_) (fun c_17 => ?_)
    · have h := h.1 c_17
      refine g_iload (pc := 159) hC 0 dX12_holds_159 rfl ?_
      refine g_aload_n (pc := 161) hC 1 dX12_holds_161 rfl rfl ?_
      refine getX12_0 (pc := 162) hC (F := fun Z => Z) (X := []) (fun _ => rfl) fl_X12_7 dX12_holds_162 ?_
      refine g_iload_n (pc := 165) hC 2 dX12_holds_165 rfl rfl ?_
      refine g_iconst (pc := 166) (v := 2) hC dX12_holds_166 (by decide) ?_
      refine g_iadd (pc := 167) hC dX12_holds_167 ?_
      refine aldX12_0 (pc := 168) hC (F := fun Z => Z) (X := []) (fun _ => rfl) h.1 dX12_holds_168 ?_
      have h := h.2
      refine g_icmp_ne (pc := 169) (tgt := 176) hC dX12_holds_169 (by decide) (fun c_18 => ?_) (fun c_18 => ?_)
      · have h := h.1 c_18
        refine g_iconst (pc := 176) (v := 0) hC dX12_holds_176 (by decide) ?_
        refine g_sub (lv' := []) [] rfl ?_
        exact kX12_holds_b177 hC hR0 hR  h
      · have h := h.2 c_18
        refine g_iconst (pc := 172) (v := 1) hC dX12_holds_172 (by decide) ?_
        refine g_goto (pc := 173) (tgt := 177) hC dX12_holds_173 (by decide) ?_
        refine g_sub (lv' := []) [] rfl ?_
        exact kX12_holds_b177 hC hR0 hR  h
    · have h := h.2 c_17
      refine g_iload (pc := 138) hC 0 dX12_holds_138 rfl ?_
      refine g_aload_n (pc := 140) hC 1 dX12_holds_140 rfl rfl ?_
      refine getX12_0 (pc := 141) hC (F := fun Z => Z) (X := []) (fun _ => rfl) fl_X12_7 dX12_holds_141 ?_
      refine g_iload_n (pc := 144) hC 2 dX12_holds_144 rfl rfl ?_
      refine g_iconst (pc := 145) (v := 2) hC dX12_holds_145 (by decide) ?_
      refine g_iadd (pc := 146) hC dX12_holds_146 ?_
      refine aldX12_0 (pc := 147) hC (F := fun Z => Z) (X := []) (fun _ => rfl) h.1 dX12_holds_147 ?_
      have h := h.2
      refine g_icmp_le (pc := 148) (tgt := 155) hC dX12_holds_148 (by decide) (fun c_19 => ?_) (fun c_19 => ?_)
      · have h := h.1 c_19
        refine g_iconst (pc := 155) (v := 0) hC dX12_holds_155 (by decide) ?_
        refine g_goto (pc := 156) (tgt := 177) hC dX12_holds_156 (by decide) ?_
        refine g_sub (lv' := []) [] rfl ?_
        exact kX12_holds_b177 hC hR0 hR  h
      · have h := h.2 c_19
        refine g_iconst (pc := 151) (v := 1) hC dX12_holds_151 (by decide) ?_
        refine g_goto (pc := 152) (tgt := 177) hC dX12_holds_152 (by decide) ?_
        refine g_sub (lv' := []) [] rfl ?_
        exact kX12_holds_b177 hC hR0 hR  h
  · have h := h.2 c_16
    refine g_iload (pc := 104) hC 0 dX12_holds_104 rfl ?_
    refine g_aload_n (pc := 106) hC 1 dX12_holds_106 rfl rfl ?_
    refine getX12_0 (pc := 107) hC (F := fun Z => Z) (X := []) (fun _ => rfl) fl_X12_7 dX12_holds_107 ?_
    refine g_iload_n (pc := 110) hC 2 dX12_holds_110 rfl rfl ?_
    refine g_iconst (pc := 111) (v := 2) hC dX12_holds_111 (by decide) ?_
    refine g_iadd (pc := 112) hC dX12_holds_112 ?_
    refine aldX12_0 (pc := 113) hC (F := fun Z => Z) (X := []) (fun _ => rfl) h.1 dX12_holds_113 ?_
    have h := h.2
    refine g_icmp_ge (pc := 114) (tgt := 121) hC dX12_holds_114 (by decide) (fun c_20 => ?_) (fun c_20 => ?_)
    · have h := h.1 c_20
      refine g_iconst (pc := 121) (v := 0) hC dX12_holds_121 (by decide) ?_
      refine g_goto (pc := 122) (tgt := 177) hC dX12_holds_122 (by decide) ?_
      refine g_sub (lv' := []) [] rfl ?_
      exact kX12_holds_b177 hC hR0 hR  h
    · have h := h.2 c_20
      refine g_iconst (pc := 117) (v := 1) hC dX12_holds_117 (by decide) ?_
      refine g_goto (pc := 118) (tgt := 177) hC dX12_holds_118 (by decide) ?_
      refine g_sub (lv' := []) [] rfl ?_
      exact kX12_holds_b177 hC hR0 hR  h
def qX12_holds_b64  (post : Int32 → St → Prop)  (x1 : Int32) (x2 : Int32) (x3 : Int32) (u0 : St) : Prop := ((¬ x2 = (7 : Int32) → qX12_debtOf x3 (6 : Int32) u0 (fun r_23 u_22 => qX12_holds_b89 post x1 r_23 u_22)) ∧ (x2 = (7 : Int32) → (vp_in ((34 : Int32) + x3) 3072 ∧ qX12_holds_b89 post x1 (ga u0 0 (((34 : Int32) + x3)).toNatClampNeg) u0)))
set_option maxRecDepth 100000 in
set_option maxHeartbeats 4000000 in
theorem kX12_holds_b64 {C : Cx} {o0 : Nat} {a0 : Nat → Nat} (hC : Fx C cX12_holds 5 RX12) (hR0 : xR C = rm 6) {post : Int32 → St → Prop} (hR : RZ C cX12_holds 5 (fun u : St => (wX12 o0 a0 (xy C) u [])) (fun r u => post r u))  {x1 : Int32} {x2 : Int32} {x3 : Int32} {u0 : St} (h : qX12_holds_b64 post x1 x2 x3 u0) : G C 0 0 5 (wX12 o0 a0 (xy C) u0 []) 64 [(0, .ref o0), (1, .int x1), (2, .int x2), (3, .int x3)] [] := by
  refine g_iload_n (pc := 64) hC 2 dX12_holds_64 rfl rfl ?_
  refine g_bipush (pc := 65) (v := 7) hC dX12_holds_65 (by decide) ?_
  refine g_icmp_ne (pc := 67) (tgt := 82) hC dX12_holds_67 (by decide) (fun c_21 => ?_) (fun c_21 => ?_)
  · have h := h.1 c_21
    refine g_aload_n (pc := 82) hC 0 dX12_holds_82 rfl rfl ?_
    refine g_iload_n (pc := 83) hC 3 dX12_holds_83 rfl rfl ?_
    refine g_bipush (pc := 84) (v := 6) hC dX12_holds_84 (by decide) ?_
    refine g_callV_i (pc := 86) (wd := fun (u : St) Y => (wX12 o0 a0 (xy C) u Y)) (F := fun Z => Z) (X := []) (As := [.int x3, .int (6 : Int32)]) (rest := []) (u := u0) hC (fun _ _ => rfl) (fun _ => rfl) (ctX12_debtOf h) wvX12_debtOf ml_X12_264 (ci := 10) (q0 := 0) rfl rfl rfl rfl (rmok hR0 rfl) ⟨Nat.zero_le _, Nat.zero_le _⟩ rfl (Nat.le_of_ble_eq_true rfl) dX12_holds_86 (fun r_23 u_22 h => ?_)
    refine g_sub (lv' := [(0, .ref o0), (1, .int x1)]) [0, 1] rfl ?_
    exact kX12_holds_b89 hC hR0 hR  h
  · have h := h.2 c_21
    refine g_aload_n (pc := 70) hC 0 dX12_holds_70 rfl rfl ?_
    refine getX12_0 (pc := 71) hC (F := fun Z => Z) (X := []) (fun _ => rfl) fl_X12_7 dX12_holds_71 ?_
    refine g_bipush (pc := 74) (v := 34) hC dX12_holds_74 (by decide) ?_
    refine g_iload_n (pc := 76) hC 3 dX12_holds_76 rfl rfl ?_
    refine g_iadd (pc := 77) hC dX12_holds_77 ?_
    refine aldX12_0 (pc := 78) hC (F := fun Z => Z) (X := []) (fun _ => rfl) h.1 dX12_holds_78 ?_
    have h := h.2
    refine g_goto (pc := 79) (tgt := 89) hC dX12_holds_79 (by decide) ?_
    refine g_sub (lv' := [(0, .ref o0), (1, .int x1)]) [0, 1] rfl ?_
    exact kX12_holds_b89 hC hR0 hR  h
def qX12_holds (x1 : Int32) (u0 : St) (post : Int32 → St → Prop) : Prop := (vp_in x1 3072 ∧ ∀ x2_25 : Int32, x2_25 = ((ga u0 0 (x1).toNatClampNeg) - (1900 : Int32)) → (vp_in (x1 + (1 : Int32)) 3072 ∧ ∀ x3_26 : Int32, x3_26 = (ga u0 0 ((x1 + (1 : Int32))).toNatClampNeg) → ((¬ x2_25 = (23 : Int32) → ((¬ x2_25 = (24 : Int32) → ((¬ x2_25 = (12 : Int32) → qX12_holds_b64 post x1 x2_25 x3_26 u0) ∧ (x2_25 = (12 : Int32) → qX12_isDebt x3_26 u0 (fun r_31 u_30 => ((¬ r_31 = 0 → qX12_holds_b64 post x1 x2_25 x3_26 u_30) ∧ (r_31 = 0 → post (0 : Int32) u_30)))))) ∧ (x2_25 = (24 : Int32) → qX12_isPaidUp x3_26 u0 (fun r_35 u_34 => (bz r_35 ∧ post r_35 u_34))))) ∧ (x2_25 = (23 : Int32) → qX12_standsNow u0 (fun r_38 u_37 => qX12_isIn r_38 x3_26 u_37 (fun r_41 u_40 => (bz r_41 ∧ post r_41 u_40)))))))
set_option maxRecDepth 100000 in
set_option maxHeartbeats 4000000 in
theorem kX12_holds {C : Cx} {o0 : Nat} {a0 : Nat → Nat} (hC : Fx C cX12_holds 5 RX12) (hR0 : xR C = rm 6) {post : Int32 → St → Prop} (hR : RZ C cX12_holds 5 (fun u : St => (wX12 o0 a0 (xy C) u [])) (fun r u => post r u)) {x1 : Int32} {u0 : St} (h : qX12_holds x1 u0 post) : G C 0 0 5 (wX12 o0 a0 (xy C) u0 []) 0 [(0, .ref o0), (1, .int x1)] [] := by
  refine g_aload_n (pc := 0) hC 0 dX12_holds_0 rfl rfl ?_
  refine getX12_0 (pc := 1) hC (F := fun Z => Z) (X := []) (fun _ => rfl) fl_X12_7 dX12_holds_1 ?_
  refine g_iload_n (pc := 4) hC 1 dX12_holds_4 rfl rfl ?_
  refine aldX12_0 (pc := 5) hC (F := fun Z => Z) (X := []) (fun _ => rfl) h.1 dX12_holds_5 ?_
  have h := h.2
  refine g_sipush (pc := 6) (v := 1900) hC dX12_holds_6 (by decide) ?_
  refine g_isub (pc := 9) hC dX12_holds_9 ?_
  refine g_topi (fun x2_25 ex2_25 => ?_)
  have h := h x2_25 ex2_25
  refine g_istore_n (pc := 10) (lv' := [(2, .int x2_25), (0, .ref o0), (1, .int x1)]) hC dX12_holds_10 rfl (Nat.le_of_ble_eq_true rfl) rfl ?_
  refine g_aload_n (pc := 11) hC 1 dX12_holds_11 rfl rfl ?_
  refine getX12_0 (pc := 12) hC (F := fun Z => Z) (X := []) (fun _ => rfl) fl_X12_7 dX12_holds_12 ?_
  refine g_iload_n (pc := 15) hC 2 dX12_holds_15 rfl rfl ?_
  refine g_iconst (pc := 16) (v := 1) hC dX12_holds_16 (by decide) ?_
  refine g_iadd (pc := 17) hC dX12_holds_17 ?_
  refine aldX12_0 (pc := 18) hC (F := fun Z => Z) (X := []) (fun _ => rfl) h.1 dX12_holds_18 ?_
  have h := h.2
  refine g_topi (fun x3_26 ex3_26 => ?_)
  have h := h x3_26 ex3_26
  refine g_istore_n (pc := 19) (lv' := [(3, .int x3_26), (2, .int x2_25), (0, .ref o0), (1, .int x1)]) hC dX12_holds_19 rfl (Nat.le_of_ble_eq_true rfl) rfl ?_
  refine g_iload_n (pc := 20) hC 1 dX12_holds_20 rfl rfl ?_
  refine g_bipush (pc := 21) (v := 23) hC dX12_holds_21 (by decide) ?_
  refine g_icmp_ne (pc := 23) (tgt := 36) hC dX12_holds_23 (by decide) (fun c_27 => ?_) (fun c_27 => ?_)
  · have h := h.1 c_27
    refine g_iload_n (pc := 36) hC 1 dX12_holds_36 rfl rfl ?_
    refine g_bipush (pc := 37) (v := 24) hC dX12_holds_37 (by decide) ?_
    refine g_icmp_ne (pc := 39) (tgt := 48) hC dX12_holds_39 (by decide) (fun c_28 => ?_) (fun c_28 => ?_)
    · have h := h.1 c_28
      refine g_iload_n (pc := 48) hC 1 dX12_holds_48 rfl rfl ?_
      refine g_bipush (pc := 49) (v := 12) hC dX12_holds_49 (by decide) ?_
      refine g_icmp_ne (pc := 51) (tgt := 64) hC dX12_holds_51 (by decide) (fun c_29 => ?_) (fun c_29 => ?_)
      · have h := h.1 c_29
        refine g_sub (lv' := [(0, .ref o0), (1, .int x1), (2, .int x2_25), (3, .int x3_26)]) [2, 3, 1, 0] rfl ?_
        exact kX12_holds_b64 hC hR0 hR  h
      · have h := h.2 c_29
        refine g_aload_n (pc := 54) hC 2 dX12_holds_54 rfl rfl ?_
        refine g_iload_n (pc := 55) hC 0 dX12_holds_55 rfl rfl ?_
        refine g_callV_i (pc := 56) (wd := fun (u : St) Y => (wX12 o0 a0 (xy C) u Y)) (F := fun Z => Z) (X := []) (As := [.int x3_26]) (rest := []) (u := u0) hC (fun _ _ => rfl) (fun _ => rfl) (ctX12_isDebt h) wvX12_isDebt ml_X12_294 (ci := 10) (q0 := 0) rfl rfl rfl rfl (rmok hR0 rfl) ⟨Nat.zero_le _, Nat.zero_le _⟩ rfl (Nat.le_of_ble_eq_true rfl) dX12_holds_56 (fun r_31 u_30 h => ?_)
        refine g_if_ne (pc := 59) (tgt := 64) hC dX12_holds_59 (by decide) (fun c_33 => ?_) (fun c_33 => ?_)
        · have h := h.1 c_33
          refine g_sub (lv' := [(0, .ref o0), (1, .int x1), (2, .int x2_25), (3, .int x3_26)]) [2, 3, 1, 0] rfl ?_
          exact kX12_holds_b64 hC hR0 hR  h
        · have h := h.2 c_33
          refine g_iconst (pc := 62) (v := 0) hC dX12_holds_62 (by decide) ?_
          exact hR _ _ _ u_30 dX12_holds_63 (Or.inl rfl) h
    · have h := h.2 c_28
      refine g_aload_n (pc := 42) hC 2 dX12_holds_42 rfl rfl ?_
      refine g_iload_n (pc := 43) hC 0 dX12_holds_43 rfl rfl ?_
      refine g_callV_i (pc := 44) (wd := fun (u : St) Y => (wX12 o0 a0 (xy C) u Y)) (F := fun Z => Z) (X := []) (As := [.int x3_26]) (rest := []) (u := u0) hC (fun _ _ => rfl) (fun _ => rfl) (ctX12_isPaidUp h) wvX12_isPaidUp ml_X12_261 (ci := 10) (q0 := 0) rfl rfl rfl rfl (rmok hR0 rfl) ⟨Nat.zero_le _, Nat.zero_le _⟩ rfl (Nat.le_of_ble_eq_true rfl) dX12_holds_44 (fun r_35 u_34 h => ?_)
      exact hR _ _ _ u_34 dX12_holds_47 h.1 h.2
  · have h := h.2 c_27
    refine g_aload_n (pc := 26) hC 2 dX12_holds_26 rfl rfl ?_
    refine g_aload_n (pc := 27) hC 2 dX12_holds_27 rfl rfl ?_
    refine g_callV_i (pc := 28) (wd := fun (u : St) Y => (wX12 o0 a0 (xy C) u Y)) (F := fun Z => Z) (X := []) (As := []) (rest := [.ref o0]) (u := u0) hC (fun _ _ => rfl) (fun _ => rfl) (ctX12_standsNow h) wvX12_standsNow ml_X12_279 (ci := 10) (q0 := 0) rfl rfl rfl rfl (rmok hR0 rfl) ⟨Nat.zero_le _, Nat.zero_le _⟩ rfl (Nat.le_of_ble_eq_true rfl) dX12_holds_28 (fun r_38 u_37 h => ?_)
    refine g_iload_n (pc := 31) hC 0 dX12_holds_31 rfl rfl ?_
    refine g_callV_i (pc := 32) (wd := fun (u : St) Y => (wX12 o0 a0 (xy C) u Y)) (F := fun Z => Z) (X := []) (As := [.int r_38, .int x3_26]) (rest := []) (u := u_37) hC (fun _ _ => rfl) (fun _ => rfl) (ctX12_isIn h) wvX12_isIn ml_X12_201 (ci := 10) (q0 := 0) rfl rfl rfl rfl (rmok hR0 rfl) ⟨Nat.zero_le _, Nat.zero_le _⟩ rfl (Nat.le_of_ble_eq_true rfl) dX12_holds_32 (fun r_41 u_40 h => ?_)
    exact hR _ _ _ u_40 dX12_holds_35 h.1 h.2
theorem ctX12_holds {l : Launch} {D : va_G} {cy : Nat → ClassId} {kd : Nat → Nat} {o0 : Nat} {a0 : Nat → Nat} {x1 : Int32} {u0 : St} {post : Int32 → St → Prop} (h : qX12_holds x1 u0 post) : CtI l D cy kd yX12_holds cX12_holds 5 6 .boolean [.ref o0, .int x1] (fun u : St => (wX12 o0 a0 cy u [])) u0 (fun r u => post r u) := met_z (by decide) (Nat.le_of_ble_eq_true rfl) (fun C e1 e2 e3 e4 e5 hC hR => by subst e1 e2 e3 e4; exact kX12_holds hC e5 hR h)
theorem dX12_behindEnds_0 : decode cX12_behindEnds 0 = .ok (.iload_n 1, 1) := by decide +kernel
theorem dX12_behindEnds_1 : decode cX12_behindEnds 1 = .ok (.istore_n 2, 1) := by decide +kernel
theorem dX12_behindEnds_2 : decode cX12_behindEnds 2 = .ok (.iload_n 2, 1) := by decide +kernel
theorem dX12_behindEnds_3 : decode cX12_behindEnds 3 = .ok (.aload_n 0, 1) := by decide +kernel
theorem dX12_behindEnds_4 : decode cX12_behindEnds 4 = .ok (.getfield 7, 3) := by decide +kernel
theorem dX12_behindEnds_7 : decode cX12_behindEnds 7 = .ok (.bipush 7, 2) := by decide +kernel
theorem dX12_behindEnds_9 : decode cX12_behindEnds 9 = .ok (.iaload, 1) := by decide +kernel
theorem dX12_behindEnds_10 : decode cX12_behindEnds 10 = .ok (.if_icmp .ge 105, 3) := by decide +kernel
theorem dX12_behindEnds_13 : decode cX12_behindEnds 13 = .ok (.aload_n 0, 1) := by decide +kernel
theorem dX12_behindEnds_14 : decode cX12_behindEnds 14 = .ok (.getfield 7, 3) := by decide +kernel
theorem dX12_behindEnds_17 : decode cX12_behindEnds 17 = .ok (.bipush 88, 2) := by decide +kernel
theorem dX12_behindEnds_19 : decode cX12_behindEnds 19 = .ok (.bipush 6, 2) := by decide +kernel
theorem dX12_behindEnds_21 : decode cX12_behindEnds 21 = .ok (.iload_n 2, 1) := by decide +kernel
theorem dX12_behindEnds_22 : decode cX12_behindEnds 22 = .ok (.imul, 1) := by decide +kernel
theorem dX12_behindEnds_23 : decode cX12_behindEnds 23 = .ok (.iadd, 1) := by decide +kernel
theorem dX12_behindEnds_24 : decode cX12_behindEnds 24 = .ok (.iaload, 1) := by decide +kernel
theorem dX12_behindEnds_25 : decode cX12_behindEnds 25 = .ok (.bipush 21, 2) := by decide +kernel
theorem dX12_behindEnds_27 : decode cX12_behindEnds 27 = .ok (.if_icmp .ne 88, 3) := by decide +kernel
theorem dX12_behindEnds_30 : decode cX12_behindEnds 30 = .ok (.aload_n 0, 1) := by decide +kernel
theorem dX12_behindEnds_31 : decode cX12_behindEnds 31 = .ok (.getfield 7, 3) := by decide +kernel
theorem dX12_behindEnds_34 : decode cX12_behindEnds 34 = .ok (.bipush 88, 2) := by decide +kernel
theorem dX12_behindEnds_36 : decode cX12_behindEnds 36 = .ok (.bipush 6, 2) := by decide +kernel
theorem dX12_behindEnds_38 : decode cX12_behindEnds 38 = .ok (.iload_n 2, 1) := by decide +kernel
theorem dX12_behindEnds_39 : decode cX12_behindEnds 39 = .ok (.imul, 1) := by decide +kernel
theorem dX12_behindEnds_40 : decode cX12_behindEnds 40 = .ok (.iadd, 1) := by decide +kernel
theorem dX12_behindEnds_41 : decode cX12_behindEnds 41 = .ok (.iconst 4, 1) := by decide +kernel
theorem dX12_behindEnds_42 : decode cX12_behindEnds 42 = .ok (.iadd, 1) := by decide +kernel
theorem dX12_behindEnds_43 : decode cX12_behindEnds 43 = .ok (.iaload, 1) := by decide +kernel
theorem dX12_behindEnds_44 : decode cX12_behindEnds 44 = .ok (.istore_n 3, 1) := by decide +kernel
theorem dX12_behindEnds_45 : decode cX12_behindEnds 45 = .ok (.aload_n 0, 1) := by decide +kernel
theorem dX12_behindEnds_46 : decode cX12_behindEnds 46 = .ok (.getfield 7, 3) := by decide +kernel
theorem dX12_behindEnds_49 : decode cX12_behindEnds 49 = .ok (.bipush 88, 2) := by decide +kernel
theorem dX12_behindEnds_51 : decode cX12_behindEnds 51 = .ok (.bipush 6, 2) := by decide +kernel
theorem dX12_behindEnds_53 : decode cX12_behindEnds 53 = .ok (.iload_n 3, 1) := by decide +kernel
theorem dX12_behindEnds_54 : decode cX12_behindEnds 54 = .ok (.imul, 1) := by decide +kernel
theorem dX12_behindEnds_55 : decode cX12_behindEnds 55 = .ok (.iadd, 1) := by decide +kernel
theorem dX12_behindEnds_56 : decode cX12_behindEnds 56 = .ok (.iaload, 1) := by decide +kernel
theorem dX12_behindEnds_57 : decode cX12_behindEnds 57 = .ok (.bipush 20, 2) := by decide +kernel
theorem dX12_behindEnds_59 : decode cX12_behindEnds 59 = .ok (.if_icmp .ne 16, 3) := by decide +kernel
theorem dX12_behindEnds_62 : decode cX12_behindEnds 62 = .ok (.aload_n 0, 1) := by decide +kernel
theorem dX12_behindEnds_63 : decode cX12_behindEnds 63 = .ok (.getfield 69, 3) := by decide +kernel
theorem dX12_behindEnds_66 : decode cX12_behindEnds 66 = .ok (.iload_n 3, 1) := by decide +kernel
theorem dX12_behindEnds_67 : decode cX12_behindEnds 67 = .ok (.iaload, 1) := by decide +kernel
theorem dX12_behindEnds_68 : decode cX12_behindEnds 68 = .ok (.ifCond .le 7, 3) := by decide +kernel
theorem dX12_behindEnds_71 : decode cX12_behindEnds 71 = .ok (.iconst 1, 1) := by decide +kernel
theorem dX12_behindEnds_72 : decode cX12_behindEnds 72 = .ok (.goto 4, 3) := by decide +kernel
theorem dX12_behindEnds_75 : decode cX12_behindEnds 75 = .ok (.iconst 0, 1) := by decide +kernel
theorem dX12_behindEnds_76 : decode cX12_behindEnds 76 = .ok (.istore 4, 2) := by decide +kernel
theorem dX12_behindEnds_78 : decode cX12_behindEnds 78 = .ok (.aload_n 0, 1) := by decide +kernel
theorem dX12_behindEnds_79 : decode cX12_behindEnds 79 = .ok (.getfield 69, 3) := by decide +kernel
theorem dX12_behindEnds_82 : decode cX12_behindEnds 82 = .ok (.iload_n 3, 1) := by decide +kernel
theorem dX12_behindEnds_83 : decode cX12_behindEnds 83 = .ok (.dup2, 1) := by decide +kernel
theorem dX12_behindEnds_84 : decode cX12_behindEnds 84 = .ok (.iaload, 1) := by decide +kernel
theorem dX12_behindEnds_85 : decode cX12_behindEnds 85 = .ok (.iload 4, 2) := by decide +kernel
theorem dX12_behindEnds_87 : decode cX12_behindEnds 87 = .ok (.ifCond .eq 7, 3) := by decide +kernel
theorem dX12_behindEnds_90 : decode cX12_behindEnds 90 = .ok (.iconst 1, 1) := by decide +kernel
theorem dX12_behindEnds_91 : decode cX12_behindEnds 91 = .ok (.goto 4, 3) := by decide +kernel
theorem dX12_behindEnds_94 : decode cX12_behindEnds 94 = .ok (.iconst 0, 1) := by decide +kernel
theorem dX12_behindEnds_95 : decode cX12_behindEnds 95 = .ok (.isub, 1) := by decide +kernel
theorem dX12_behindEnds_96 : decode cX12_behindEnds 96 = .ok (.iastore, 1) := by decide +kernel
theorem dX12_behindEnds_97 : decode cX12_behindEnds 97 = .ok (.iload 4, 2) := by decide +kernel
theorem dX12_behindEnds_99 : decode cX12_behindEnds 99 = .ok (.ifCond .eq 9, 3) := by decide +kernel
theorem dX12_behindEnds_102 : decode cX12_behindEnds 102 = .ok (.iload_n 3, 1) := by decide +kernel
theorem dX12_behindEnds_103 : decode cX12_behindEnds 103 = .ok (.iconst 1, 1) := by decide +kernel
theorem dX12_behindEnds_104 : decode cX12_behindEnds 104 = .ok (.iadd, 1) := by decide +kernel
theorem dX12_behindEnds_105 : decode cX12_behindEnds 105 = .ok (.goto 6, 3) := by decide +kernel
theorem dX12_behindEnds_108 : decode cX12_behindEnds 108 = .ok (.iload_n 2, 1) := by decide +kernel
theorem dX12_behindEnds_109 : decode cX12_behindEnds 109 = .ok (.iconst 1, 1) := by decide +kernel
theorem dX12_behindEnds_110 : decode cX12_behindEnds 110 = .ok (.iadd, 1) := by decide +kernel
theorem dX12_behindEnds_111 : decode cX12_behindEnds 111 = .ok (.istore_n 2, 1) := by decide +kernel
theorem dX12_behindEnds_112 : decode cX12_behindEnds 112 = .ok (.goto (-110), 3) := by decide +kernel
theorem dX12_behindEnds_115 : decode cX12_behindEnds 115 = .ok (.iload_n 2, 1) := by decide +kernel
theorem dX12_behindEnds_116 : decode cX12_behindEnds 116 = .ok (.ireturn, 1) := by decide +kernel
def qX12_behindEnds_b111  (post : Int32 → St → Prop) (K2 : Int32 → St → Prop) (s0 : Int32) (u0 : St) : Prop := K2 s0 u0
set_option maxRecDepth 100000 in
set_option maxHeartbeats 4000000 in
theorem kX12_behindEnds_b111 {C : Cx} {o0 : Nat} {a0 : Nat → Nat} (hC : Fx C cX12_behindEnds 5 RX12) (hR0 : xR C = rm 1) {post : Int32 → St → Prop} (hR : RI C cX12_behindEnds 5 (fun u : St => (wX12 o0 a0 (xy C) u [])) (fun r u => post r u)) {K2 : Int32 → St → Prop} (hK2 : ∀ (x2 : Int32) (u0 : St), K2 x2 u0 → G C 0 0 5 (wX12 o0 a0 (xy C) u0 []) 2 [(0, .ref o0), (2, .int x2)] []) {s0 : Int32} {u0 : St} (h : qX12_behindEnds_b111 post K2 s0 u0) : G C 0 0 5 (wX12 o0 a0 (xy C) u0 []) 111 [(0, .ref o0)] [.int s0] := by
  refine g_istore_n (pc := 111) (lv' := [(2, .int s0), (0, .ref o0)]) hC dX12_behindEnds_111 rfl (Nat.le_of_ble_eq_true rfl) rfl ?_
  refine g_goto (pc := 112) (tgt := 2) hC dX12_behindEnds_112 (by decide) ?_
  refine g_sub (lv' := [(0, .ref o0), (2, .int s0)]) [1, 0] rfl ?_
  exact hK2 _ _ h
def qX12_behindEnds_b95  (post : Int32 → St → Prop) (K2 : Int32 → St → Prop) (x2 : Int32) (x3 : Int32) (x4 : Int32) (s0 : Int32) (s1 : Int32) (s2 : Int32) (u0 : St) : Prop := (vp_in s2 80 ∧ ∀ u_2 : St, u_2 = (sw u0 35 (upd (ga u0 35) (s2).toNatClampNeg (s1 - s0))) → ((x4 = 0 → qX12_behindEnds_b111 post K2 (x2 + (1 : Int32)) u_2) ∧ (¬ x4 = 0 → qX12_behindEnds_b111 post K2 (x3 + (1 : Int32)) u_2)))
set_option maxRecDepth 100000 in
set_option maxHeartbeats 4000000 in
theorem kX12_behindEnds_b95 {C : Cx} {o0 : Nat} {a0 : Nat → Nat} (hC : Fx C cX12_behindEnds 5 RX12) (hR0 : xR C = rm 1) {post : Int32 → St → Prop} (hR : RI C cX12_behindEnds 5 (fun u : St => (wX12 o0 a0 (xy C) u [])) (fun r u => post r u)) {K2 : Int32 → St → Prop} (hK2 : ∀ (x2 : Int32) (u0 : St), K2 x2 u0 → G C 0 0 5 (wX12 o0 a0 (xy C) u0 []) 2 [(0, .ref o0), (2, .int x2)] []) {x2 : Int32} {x3 : Int32} {x4 : Int32} {s0 : Int32} {s1 : Int32} {s2 : Int32} {u0 : St} (h : qX12_behindEnds_b95 post K2 x2 x3 x4 s0 s1 s2 u0) : G C 0 0 5 (wX12 o0 a0 (xy C) u0 []) 95 [(0, .ref o0), (2, .int x2), (3, .int x3), (4, .int x4)] [.int s0, .int s1, .int s2, .ref (a0 35)] := by
  refine g_isub (pc := 95) hC dX12_behindEnds_95 ?_
  refine astX12_35 (pc := 96) hC (F := fun Z => Z) (X := []) (fun _ => rfl) h.1 dX12_behindEnds_96 ?_
  have h := h.2
  refine g_st (w := fun z => (wX12 o0 a0 (xy C) z [])) (u := (sw u0 35 (upd (ga u0 35) (s2).toNatClampNeg (s1 - s0)))) (fun u_2 eu_2 => ?_)
  have h := h u_2 eu_2
  refine g_iload (pc := 97) hC 3 dX12_behindEnds_97 rfl ?_
  refine g_if_eq (pc := 99) (tgt := 108) hC dX12_behindEnds_99 (by decide) (fun c_3 => ?_) (fun c_3 => ?_)
  · have h := h.1 c_3
    refine g_iload_n (pc := 108) hC 1 dX12_behindEnds_108 rfl rfl ?_
    refine g_iconst (pc := 109) (v := 1) hC dX12_behindEnds_109 (by decide) ?_
    refine g_iadd (pc := 110) hC dX12_behindEnds_110 ?_
    refine g_sub (lv' := [(0, .ref o0)]) [0] rfl ?_
    exact kX12_behindEnds_b111 hC hR0 hR hK2 h
  · have h := h.2 c_3
    refine g_iload_n (pc := 102) hC 2 dX12_behindEnds_102 rfl rfl ?_
    refine g_iconst (pc := 103) (v := 1) hC dX12_behindEnds_103 (by decide) ?_
    refine g_iadd (pc := 104) hC dX12_behindEnds_104 ?_
    refine g_goto (pc := 105) (tgt := 111) hC dX12_behindEnds_105 (by decide) ?_
    refine g_sub (lv' := [(0, .ref o0)]) [0] rfl ?_
    exact kX12_behindEnds_b111 hC hR0 hR hK2 h
def qX12_behindEnds_b76  (post : Int32 → St → Prop) (K2 : Int32 → St → Prop) (x2 : Int32) (x3 : Int32) (s0 : Int32) (u0 : St) : Prop := (vp_in x3 80 ∧ ((s0 = 0 → qX12_behindEnds_b95 post K2 x2 x3 s0 (0 : Int32) (ga u0 35 (x3).toNatClampNeg) x3 u0) ∧ (¬ s0 = 0 → qX12_behindEnds_b95 post K2 x2 x3 s0 (1 : Int32) (ga u0 35 (x3).toNatClampNeg) x3 u0)))
set_option maxRecDepth 100000 in
set_option maxHeartbeats 4000000 in
theorem kX12_behindEnds_b76 {C : Cx} {o0 : Nat} {a0 : Nat → Nat} (hC : Fx C cX12_behindEnds 5 RX12) (hR0 : xR C = rm 1) {post : Int32 → St → Prop} (hR : RI C cX12_behindEnds 5 (fun u : St => (wX12 o0 a0 (xy C) u [])) (fun r u => post r u)) {K2 : Int32 → St → Prop} (hK2 : ∀ (x2 : Int32) (u0 : St), K2 x2 u0 → G C 0 0 5 (wX12 o0 a0 (xy C) u0 []) 2 [(0, .ref o0), (2, .int x2)] []) {x2 : Int32} {x3 : Int32} {s0 : Int32} {u0 : St} (h : qX12_behindEnds_b76 post K2 x2 x3 s0 u0) : G C 0 0 5 (wX12 o0 a0 (xy C) u0 []) 76 [(0, .ref o0), (2, .int x2), (3, .int x3)] [.int s0] := by
  refine g_istore (pc := 76) (lv' := [(4, .int s0), (0, .ref o0), (2, .int x2), (3, .int x3)]) hC dX12_behindEnds_76 (Nat.le_of_ble_eq_true rfl) rfl ?_
  refine g_aload_n (pc := 78) hC 1 dX12_behindEnds_78 rfl rfl ?_
  refine getX12_35 (pc := 79) hC (F := fun Z => Z) (X := []) (fun _ => rfl) fl_X12_69 dX12_behindEnds_79 ?_
  refine g_iload_n (pc := 82) hC 3 dX12_behindEnds_82 rfl rfl ?_
  refine g_dup2 (pc := 83) hC dX12_behindEnds_83 rfl rfl ?_
  refine aldX12_35 (pc := 84) hC (F := fun Z => Z) (X := []) (fun _ => rfl) h.1 dX12_behindEnds_84 ?_
  have h := h.2
  refine g_iload (pc := 85) hC 0 dX12_behindEnds_85 rfl ?_
  refine g_if_eq (pc := 87) (tgt := 94) hC dX12_behindEnds_87 (by decide) (fun c_4 => ?_) (fun c_4 => ?_)
  · have h := h.1 c_4
    refine g_iconst (pc := 94) (v := 0) hC dX12_behindEnds_94 (by decide) ?_
    refine g_sub (lv' := [(0, .ref o0), (2, .int x2), (3, .int x3), (4, .int s0)]) [1, 2, 3, 0] rfl ?_
    exact kX12_behindEnds_b95 hC hR0 hR hK2 h
  · have h := h.2 c_4
    refine g_iconst (pc := 90) (v := 1) hC dX12_behindEnds_90 (by decide) ?_
    refine g_goto (pc := 91) (tgt := 95) hC dX12_behindEnds_91 (by decide) ?_
    refine g_sub (lv' := [(0, .ref o0), (2, .int x2), (3, .int x3), (4, .int s0)]) [1, 2, 3, 0] rfl ?_
    exact kX12_behindEnds_b95 hC hR0 hR hK2 h
def qX12_behindEnds_b75  (post : Int32 → St → Prop) (K2 : Int32 → St → Prop) (x2 : Int32) (x3 : Int32) (u0 : St) : Prop := qX12_behindEnds_b76 post K2 x2 x3 (0 : Int32) u0
set_option maxRecDepth 100000 in
set_option maxHeartbeats 4000000 in
theorem kX12_behindEnds_b75 {C : Cx} {o0 : Nat} {a0 : Nat → Nat} (hC : Fx C cX12_behindEnds 5 RX12) (hR0 : xR C = rm 1) {post : Int32 → St → Prop} (hR : RI C cX12_behindEnds 5 (fun u : St => (wX12 o0 a0 (xy C) u [])) (fun r u => post r u)) {K2 : Int32 → St → Prop} (hK2 : ∀ (x2 : Int32) (u0 : St), K2 x2 u0 → G C 0 0 5 (wX12 o0 a0 (xy C) u0 []) 2 [(0, .ref o0), (2, .int x2)] []) {x2 : Int32} {x3 : Int32} {u0 : St} (h : qX12_behindEnds_b75 post K2 x2 x3 u0) : G C 0 0 5 (wX12 o0 a0 (xy C) u0 []) 75 [(0, .ref o0), (2, .int x2), (3, .int x3)] [] := by
  refine g_iconst (pc := 75) (v := 0) hC dX12_behindEnds_75 (by decide) ?_
  exact kX12_behindEnds_b76 hC hR0 hR hK2 h
def qX12_behindEnds_b115  (post : Int32 → St → Prop)  (x2 : Int32) (u0 : St) : Prop := post x2 u0
set_option maxRecDepth 100000 in
set_option maxHeartbeats 4000000 in
theorem kX12_behindEnds_b115 {C : Cx} {o0 : Nat} {a0 : Nat → Nat} (hC : Fx C cX12_behindEnds 5 RX12) (hR0 : xR C = rm 1) {post : Int32 → St → Prop} (hR : RI C cX12_behindEnds 5 (fun u : St => (wX12 o0 a0 (xy C) u [])) (fun r u => post r u))  {x2 : Int32} {u0 : St} (h : qX12_behindEnds_b115 post x2 u0) : G C 0 0 5 (wX12 o0 a0 (xy C) u0 []) 115 [(2, .int x2)] [] := by
  refine g_iload_n (pc := 115) hC 0 dX12_behindEnds_115 rfl rfl ?_
  exact hR _ _ _ u0 dX12_behindEnds_116 h
def qX12_behindEnds_l2  (post : Int32 → St → Prop) (K2 : Int32 → St → Prop) (x2 : Int32) (u0 : St) : Prop := (((ga u0 0 ((7 : Int32)).toNatClampNeg) ≤ x2 → qX12_behindEnds_b115 post x2 u0) ∧ (¬ (ga u0 0 ((7 : Int32)).toNatClampNeg) ≤ x2 → (vp_in ((88 : Int32) + ((6 : Int32) * x2)) 3072 ∧ ((¬ (ga u0 0 (((88 : Int32) + ((6 : Int32) * x2))).toNatClampNeg) = (21 : Int32) → qX12_behindEnds_b115 post x2 u0) ∧ ((ga u0 0 (((88 : Int32) + ((6 : Int32) * x2))).toNatClampNeg) = (21 : Int32) → (vp_in (((88 : Int32) + ((6 : Int32) * x2)) + (4 : Int32)) 3072 ∧ ∀ x3_7 : Int32, x3_7 = (ga u0 0 ((((88 : Int32) + ((6 : Int32) * x2)) + (4 : Int32))).toNatClampNeg) → (vp_in ((88 : Int32) + ((6 : Int32) * x3_7)) 3072 ∧ ((¬ (ga u0 0 (((88 : Int32) + ((6 : Int32) * x3_7))).toNatClampNeg) = (20 : Int32) → qX12_behindEnds_b75 post K2 x2 x3_7 u0) ∧ ((ga u0 0 (((88 : Int32) + ((6 : Int32) * x3_7))).toNatClampNeg) = (20 : Int32) → (vp_in x3_7 80 ∧ (((ga u0 35 (x3_7).toNatClampNeg) ≤ 0 → qX12_behindEnds_b75 post K2 x2 x3_7 u0) ∧ (¬ (ga u0 35 (x3_7).toNatClampNeg) ≤ 0 → qX12_behindEnds_b76 post K2 x2 x3_7 (1 : Int32) u0))))))))))))
set_option maxRecDepth 100000 in
set_option maxHeartbeats 4000000 in
theorem kX12_behindEnds_l2 {C : Cx} {o0 : Nat} {a0 : Nat → Nat} (hC : Fx C cX12_behindEnds 5 RX12) (hR0 : xR C = rm 1) {post : Int32 → St → Prop} (hR : RI C cX12_behindEnds 5 (fun u : St => (wX12 o0 a0 (xy C) u [])) (fun r u => post r u))  {K2 : Int32 → St → Prop} (hK2 : ∀ (x2 : Int32) (u0 : St), K2 x2 u0 → G C 0 0 5 (wX12 o0 a0 (xy C) u0 []) 2 [(0, .ref o0), (2, .int x2)] []) {x2 : Int32} {u0 : St} (h : qX12_behindEnds_l2 post K2 x2 u0) : G C 0 0 5 (wX12 o0 a0 (xy C) u0 []) 2 [(0, .ref o0), (2, .int x2)] [] := by
  refine g_iload_n (pc := 2) hC 1 dX12_behindEnds_2 rfl rfl ?_
  refine g_aload_n (pc := 3) hC 0 dX12_behindEnds_3 rfl rfl ?_
  refine getX12_0 (pc := 4) hC (F := fun Z => Z) (X := []) (fun _ => rfl) fl_X12_7 dX12_behindEnds_4 ?_
  refine g_bipush (pc := 7) (v := 7) hC dX12_behindEnds_7 (by decide) ?_
  refine aldX12_0 (pc := 9) hC (F := fun Z => Z) (X := []) (fun _ => rfl) (by unfold vp_in; decide) dX12_behindEnds_9 ?_
  refine g_icmp_ge (pc := 10) (tgt := 115) hC dX12_behindEnds_10 (by decide) (fun c_5 => ?_) (fun c_5 => ?_)
  · have h := h.1 c_5
    refine g_sub (lv' := [(2, .int x2)]) [1] rfl ?_
    exact kX12_behindEnds_b115 hC hR0 hR  h
  · have h := h.2 c_5
    refine g_aload_n (pc := 13) hC 0 dX12_behindEnds_13 rfl rfl ?_
    refine getX12_0 (pc := 14) hC (F := fun Z => Z) (X := []) (fun _ => rfl) fl_X12_7 dX12_behindEnds_14 ?_
    refine g_bipush (pc := 17) (v := 88) hC dX12_behindEnds_17 (by decide) ?_
    refine g_bipush (pc := 19) (v := 6) hC dX12_behindEnds_19 (by decide) ?_
    refine g_iload_n (pc := 21) hC 1 dX12_behindEnds_21 rfl rfl ?_
    refine g_imul (pc := 22) hC dX12_behindEnds_22 ?_
    refine g_iadd (pc := 23) hC dX12_behindEnds_23 ?_
    refine aldX12_0 (pc := 24) hC (F := fun Z => Z) (X := []) (fun _ => rfl) h.1 dX12_behindEnds_24 ?_
    have h := h.2
    refine g_bipush (pc := 25) (v := 21) hC dX12_behindEnds_25 (by decide) ?_
    refine g_icmp_ne (pc := 27) (tgt := 115) hC dX12_behindEnds_27 (by decide) (fun c_6 => ?_) (fun c_6 => ?_)
    · have h := h.1 c_6
      refine g_sub (lv' := [(2, .int x2)]) [1] rfl ?_
      exact kX12_behindEnds_b115 hC hR0 hR  h
    · have h := h.2 c_6
      refine g_aload_n (pc := 30) hC 0 dX12_behindEnds_30 rfl rfl ?_
      refine getX12_0 (pc := 31) hC (F := fun Z => Z) (X := []) (fun _ => rfl) fl_X12_7 dX12_behindEnds_31 ?_
      refine g_bipush (pc := 34) (v := 88) hC dX12_behindEnds_34 (by decide) ?_
      refine g_bipush (pc := 36) (v := 6) hC dX12_behindEnds_36 (by decide) ?_
      refine g_iload_n (pc := 38) hC 1 dX12_behindEnds_38 rfl rfl ?_
      refine g_imul (pc := 39) hC dX12_behindEnds_39 ?_
      refine g_iadd (pc := 40) hC dX12_behindEnds_40 ?_
      refine g_iconst (pc := 41) (v := 4) hC dX12_behindEnds_41 (by decide) ?_
      refine g_iadd (pc := 42) hC dX12_behindEnds_42 ?_
      refine aldX12_0 (pc := 43) hC (F := fun Z => Z) (X := []) (fun _ => rfl) h.1 dX12_behindEnds_43 ?_
      have h := h.2
      refine g_topi (fun x3_7 ex3_7 => ?_)
      have h := h x3_7 ex3_7
      refine g_istore_n (pc := 44) (lv' := [(3, .int x3_7), (0, .ref o0), (2, .int x2)]) hC dX12_behindEnds_44 rfl (Nat.le_of_ble_eq_true rfl) rfl ?_
      refine g_aload_n (pc := 45) hC 1 dX12_behindEnds_45 rfl rfl ?_
      refine getX12_0 (pc := 46) hC (F := fun Z => Z) (X := []) (fun _ => rfl) fl_X12_7 dX12_behindEnds_46 ?_
      refine g_bipush (pc := 49) (v := 88) hC dX12_behindEnds_49 (by decide) ?_
      refine g_bipush (pc := 51) (v := 6) hC dX12_behindEnds_51 (by decide) ?_
      refine g_iload_n (pc := 53) hC 0 dX12_behindEnds_53 rfl rfl ?_
      refine g_imul (pc := 54) hC dX12_behindEnds_54 ?_
      refine g_iadd (pc := 55) hC dX12_behindEnds_55 ?_
      refine aldX12_0 (pc := 56) hC (F := fun Z => Z) (X := []) (fun _ => rfl) h.1 dX12_behindEnds_56 ?_
      have h := h.2
      refine g_bipush (pc := 57) (v := 20) hC dX12_behindEnds_57 (by decide) ?_
      refine g_icmp_ne (pc := 59) (tgt := 75) hC dX12_behindEnds_59 (by decide) (fun c_8 => ?_) (fun c_8 => ?_)
      · have h := h.1 c_8
        refine g_sub (lv' := [(0, .ref o0), (2, .int x2), (3, .int x3_7)]) [1, 2, 0] rfl ?_
        exact kX12_behindEnds_b75 hC hR0 hR hK2 h
      · have h := h.2 c_8
        refine g_aload_n (pc := 62) hC 1 dX12_behindEnds_62 rfl rfl ?_
        refine getX12_35 (pc := 63) hC (F := fun Z => Z) (X := []) (fun _ => rfl) fl_X12_69 dX12_behindEnds_63 ?_
        refine g_iload_n (pc := 66) hC 0 dX12_behindEnds_66 rfl rfl ?_
        refine aldX12_35 (pc := 67) hC (F := fun Z => Z) (X := []) (fun _ => rfl) h.1 dX12_behindEnds_67 ?_
        have h := h.2
        refine g_if_le (pc := 68) (tgt := 75) hC dX12_behindEnds_68 (by decide) (fun c_9 => ?_) (fun c_9 => ?_)
        · have h := h.1 c_9
          refine g_sub (lv' := [(0, .ref o0), (2, .int x2), (3, .int x3_7)]) [1, 2, 0] rfl ?_
          exact kX12_behindEnds_b75 hC hR0 hR hK2 h
        · have h := h.2 c_9
          refine g_iconst (pc := 71) (v := 1) hC dX12_behindEnds_71 (by decide) ?_
          refine g_goto (pc := 72) (tgt := 76) hC dX12_behindEnds_72 (by decide) ?_
          refine g_sub (lv' := [(0, .ref o0), (2, .int x2), (3, .int x3_7)]) [1, 2, 0] rfl ?_
          exact kX12_behindEnds_b76 hC hR0 hR hK2 h
def qX12_behindEnds_L2  (post : Int32 → St → Prop)  : Nat → Int32 → St → Prop
  | 0 => fun _ _ => False
  | n + 1 => qX12_behindEnds_l2 post (qX12_behindEnds_L2 post n)
theorem kX12_behindEnds_L2 {C : Cx} {o0 : Nat} {a0 : Nat → Nat} (hC : Fx C cX12_behindEnds 5 RX12) (hR0 : xR C = rm 1) {post : Int32 → St → Prop} (hR : RI C cX12_behindEnds 5 (fun u : St => (wX12 o0 a0 (xy C) u [])) (fun r u => post r u))  : ∀ (n : Nat) (x2 : Int32) (u0 : St), qX12_behindEnds_L2 post n x2 u0 → G C 0 0 5 (wX12 o0 a0 (xy C) u0 []) 2 [(0, .ref o0), (2, .int x2)] [] := by
  intro n
  induction n with
  | zero => intro x2 u0 h; exact h.elim
  | succ n ih => intro x2 u0 h; exact kX12_behindEnds_l2 hC hR0 hR  ih h
def qX12_behindEnds (x1 : Int32) (u0 : St) (post : Int32 → St → Prop) : Prop := ∃ n_10 : Nat, qX12_behindEnds_L2 post n_10 x1 u0
set_option maxRecDepth 100000 in
set_option maxHeartbeats 4000000 in
theorem kX12_behindEnds {C : Cx} {o0 : Nat} {a0 : Nat → Nat} (hC : Fx C cX12_behindEnds 5 RX12) (hR0 : xR C = rm 1) {post : Int32 → St → Prop} (hR : RI C cX12_behindEnds 5 (fun u : St => (wX12 o0 a0 (xy C) u [])) (fun r u => post r u)) {x1 : Int32} {u0 : St} (h : qX12_behindEnds x1 u0 post) : G C 0 0 5 (wX12 o0 a0 (xy C) u0 []) 0 [(0, .ref o0), (1, .int x1)] [] := by
  refine g_iload_n (pc := 0) hC 1 dX12_behindEnds_0 rfl rfl ?_
  refine g_istore_n (pc := 1) (lv' := [(2, .int x1), (0, .ref o0), (1, .int x1)]) hC dX12_behindEnds_1 rfl (Nat.le_of_ble_eq_true rfl) rfl ?_
  refine g_sub (lv' := [(0, .ref o0), (2, .int x1)]) [1, 0] rfl ?_
  obtain ⟨n_10, h⟩ := h
  exact kX12_behindEnds_L2 hC hR0 hR  n_10 _ _ h
theorem ctX12_behindEnds {l : Launch} {D : va_G} {cy : Nat → ClassId} {kd : Nat → Nat} {o0 : Nat} {a0 : Nat → Nat} {x1 : Int32} {u0 : St} {post : Int32 → St → Prop} (h : qX12_behindEnds x1 u0 post) : CtI l D cy kd yX12_behindEnds cX12_behindEnds 5 1 .int [.ref o0, .int x1] (fun u : St => (wX12 o0 a0 cy u [])) u0 (fun r u => post r u) := met_i (by decide) (Nat.le_of_ble_eq_true rfl) (fun C e1 e2 e3 e4 e5 hC hR => by subst e1 e2 e3 e4; exact kX12_behindEnds hC e5 hR h)
theorem dX12_lives_0 : decode cX12_lives 0 = .ok (.aload_n 0, 1) := by decide +kernel
theorem dX12_lives_1 : decode cX12_lives 1 = .ok (.iload_n 1, 1) := by decide +kernel
theorem dX12_lives_2 : decode cX12_lives 2 = .ok (.putfield 427, 3) := by decide +kernel
theorem dX12_lives_5 : decode cX12_lives 5 = .ok (.aload_n 0, 1) := by decide +kernel
theorem dX12_lives_6 : decode cX12_lives 6 = .ok (.iconst 0, 1) := by decide +kernel
theorem dX12_lives_7 : decode cX12_lives 7 = .ok (.putfield 446, 3) := by decide +kernel
theorem dX12_lives_10 : decode cX12_lives 10 = .ok (.iconst 0, 1) := by decide +kernel
theorem dX12_lives_11 : decode cX12_lives 11 = .ok (.istore_n 2, 1) := by decide +kernel
theorem dX12_lives_12 : decode cX12_lives 12 = .ok (.iload_n 2, 1) := by decide +kernel
theorem dX12_lives_13 : decode cX12_lives 13 = .ok (.iconst 5, 1) := by decide +kernel
theorem dX12_lives_14 : decode cX12_lives 14 = .ok (.if_icmp .ge 16, 3) := by decide +kernel
theorem dX12_lives_17 : decode cX12_lives 17 = .ok (.aload_n 0, 1) := by decide +kernel
theorem dX12_lives_18 : decode cX12_lives 18 = .ok (.getfield 72, 3) := by decide +kernel
theorem dX12_lives_21 : decode cX12_lives 21 = .ok (.iload_n 2, 1) := by decide +kernel
theorem dX12_lives_22 : decode cX12_lives 22 = .ok (.iconst 0, 1) := by decide +kernel
theorem dX12_lives_23 : decode cX12_lives 23 = .ok (.iastore, 1) := by decide +kernel
theorem dX12_lives_24 : decode cX12_lives 24 = .ok (.iinc 2 1, 3) := by decide +kernel
theorem dX12_lives_27 : decode cX12_lives 27 = .ok (.goto (-15), 3) := by decide +kernel
theorem dX12_lives_30 : decode cX12_lives 30 = .ok (.iconst 0, 1) := by decide +kernel
theorem dX12_lives_31 : decode cX12_lives 31 = .ok (.istore_n 2, 1) := by decide +kernel
theorem dX12_lives_32 : decode cX12_lives 32 = .ok (.iload_n 2, 1) := by decide +kernel
theorem dX12_lives_33 : decode cX12_lives 33 = .ok (.aload_n 0, 1) := by decide +kernel
theorem dX12_lives_34 : decode cX12_lives 34 = .ok (.getfield 7, 3) := by decide +kernel
theorem dX12_lives_37 : decode cX12_lives 37 = .ok (.bipush 7, 2) := by decide +kernel
theorem dX12_lives_39 : decode cX12_lives 39 = .ok (.iaload, 1) := by decide +kernel
theorem dX12_lives_40 : decode cX12_lives 40 = .ok (.if_icmp .ge 144, 3) := by decide +kernel
theorem dX12_lives_43 : decode cX12_lives 43 = .ok (.aload_n 0, 1) := by decide +kernel
theorem dX12_lives_44 : decode cX12_lives 44 = .ok (.getfield 446, 3) := by decide +kernel
theorem dX12_lives_47 : decode cX12_lives 47 = .ok (.sipush 300, 3) := by decide +kernel
theorem dX12_lives_50 : decode cX12_lives 50 = .ok (.if_icmp .ne 11, 3) := by decide +kernel
theorem dX12_lives_53 : decode cX12_lives 53 = .ok (.aload_n 0, 1) := by decide +kernel
theorem dX12_lives_54 : decode cX12_lives 54 = .ok (.getfield 72, 3) := by decide +kernel
theorem dX12_lives_57 : decode cX12_lives 57 = .ok (.iconst 4, 1) := by decide +kernel
theorem dX12_lives_58 : decode cX12_lives 58 = .ok (.iconst 1, 1) := by decide +kernel
theorem dX12_lives_59 : decode cX12_lives 59 = .ok (.iastore, 1) := by decide +kernel
theorem dX12_lives_60 : decode cX12_lives 60 = .ok (.return_, 1) := by decide +kernel
theorem dX12_lives_61 : decode cX12_lives 61 = .ok (.bipush 88, 2) := by decide +kernel
theorem dX12_lives_63 : decode cX12_lives 63 = .ok (.bipush 6, 2) := by decide +kernel
theorem dX12_lives_65 : decode cX12_lives 65 = .ok (.iload_n 2, 1) := by decide +kernel
theorem dX12_lives_66 : decode cX12_lives 66 = .ok (.imul, 1) := by decide +kernel
theorem dX12_lives_67 : decode cX12_lives 67 = .ok (.iadd, 1) := by decide +kernel
theorem dX12_lives_68 : decode cX12_lives 68 = .ok (.istore_n 3, 1) := by decide +kernel
theorem dX12_lives_69 : decode cX12_lives 69 = .ok (.aload_n 0, 1) := by decide +kernel
theorem dX12_lives_70 : decode cX12_lives 70 = .ok (.dup, 1) := by decide +kernel
theorem dX12_lives_71 : decode cX12_lives 71 = .ok (.getfield 446, 3) := by decide +kernel
theorem dX12_lives_74 : decode cX12_lives 74 = .ok (.iconst 1, 1) := by decide +kernel
theorem dX12_lives_75 : decode cX12_lives 75 = .ok (.iadd, 1) := by decide +kernel
theorem dX12_lives_76 : decode cX12_lives 76 = .ok (.putfield 446, 3) := by decide +kernel
theorem dX12_lives_79 : decode cX12_lives 79 = .ok (.aload_n 0, 1) := by decide +kernel
theorem dX12_lives_80 : decode cX12_lives 80 = .ok (.getfield 7, 3) := by decide +kernel
theorem dX12_lives_83 : decode cX12_lives 83 = .ok (.iload_n 3, 1) := by decide +kernel
theorem dX12_lives_84 : decode cX12_lives 84 = .ok (.iaload, 1) := by decide +kernel
theorem dX12_lives_85 : decode cX12_lives 85 = .ok (.bipush 22, 2) := by decide +kernel
theorem dX12_lives_87 : decode cX12_lives 87 = .ok (.if_icmp .ne 4, 3) := by decide +kernel
theorem dX12_lives_90 : decode cX12_lives 90 = .ok (.return_, 1) := by decide +kernel
theorem dX12_lives_91 : decode cX12_lives 91 = .ok (.aload_n 0, 1) := by decide +kernel
theorem dX12_lives_92 : decode cX12_lives 92 = .ok (.getfield 72, 3) := by decide +kernel
theorem dX12_lives_95 : decode cX12_lives 95 = .ok (.iconst 0, 1) := by decide +kernel
theorem dX12_lives_96 : decode cX12_lives 96 = .ok (.dup2, 1) := by decide +kernel
theorem dX12_lives_97 : decode cX12_lives 97 = .ok (.iaload, 1) := by decide +kernel
theorem dX12_lives_98 : decode cX12_lives 98 = .ok (.aload_n 0, 1) := by decide +kernel
theorem dX12_lives_99 : decode cX12_lives 99 = .ok (.iload_n 3, 1) := by decide +kernel
theorem dX12_lives_100 : decode cX12_lives 100 = .ok (.invokevirtual 449, 3) := by decide +kernel
theorem dX12_lives_103 : decode cX12_lives 103 = .ok (.ifCond .eq 7, 3) := by decide +kernel
theorem dX12_lives_106 : decode cX12_lives 106 = .ok (.iconst 0, 1) := by decide +kernel
theorem dX12_lives_107 : decode cX12_lives 107 = .ok (.goto 4, 3) := by decide +kernel
theorem dX12_lives_110 : decode cX12_lives 110 = .ok (.iconst 1, 1) := by decide +kernel
theorem dX12_lives_111 : decode cX12_lives 111 = .ok (.iadd, 1) := by decide +kernel
theorem dX12_lives_112 : decode cX12_lives 112 = .ok (.iastore, 1) := by decide +kernel
theorem dX12_lives_113 : decode cX12_lives 113 = .ok (.aload_n 0, 1) := by decide +kernel
theorem dX12_lives_114 : decode cX12_lives 114 = .ok (.getfield 7, 3) := by decide +kernel
theorem dX12_lives_117 : decode cX12_lives 117 = .ok (.iload_n 3, 1) := by decide +kernel
theorem dX12_lives_118 : decode cX12_lives 118 = .ok (.iaload, 1) := by decide +kernel
theorem dX12_lives_119 : decode cX12_lives 119 = .ok (.bipush 20, 2) := by decide +kernel
theorem dX12_lives_121 : decode cX12_lives 121 = .ok (.if_icmp .ne 19, 3) := by decide +kernel
theorem dX12_lives_124 : decode cX12_lives 124 = .ok (.aload_n 0, 1) := by decide +kernel
theorem dX12_lives_125 : decode cX12_lives 125 = .ok (.getfield 69, 3) := by decide +kernel
theorem dX12_lives_128 : decode cX12_lives 128 = .ok (.iload_n 2, 1) := by decide +kernel
theorem dX12_lives_129 : decode cX12_lives 129 = .ok (.aload_n 0, 1) := by decide +kernel
theorem dX12_lives_130 : decode cX12_lives 130 = .ok (.getfield 7, 3) := by decide +kernel
theorem dX12_lives_133 : decode cX12_lives 133 = .ok (.iload_n 3, 1) := by decide +kernel
theorem dX12_lives_134 : decode cX12_lives 134 = .ok (.iconst 1, 1) := by decide +kernel
theorem dX12_lives_135 : decode cX12_lives 135 = .ok (.iadd, 1) := by decide +kernel
theorem dX12_lives_136 : decode cX12_lives 136 = .ok (.iaload, 1) := by decide +kernel
theorem dX12_lives_137 : decode cX12_lives 137 = .ok (.iconst 1, 1) := by decide +kernel
theorem dX12_lives_138 : decode cX12_lives 138 = .ok (.isub, 1) := by decide +kernel
theorem dX12_lives_139 : decode cX12_lives 139 = .ok (.iastore, 1) := by decide +kernel
theorem dX12_lives_140 : decode cX12_lives 140 = .ok (.aload_n 0, 1) := by decide +kernel
theorem dX12_lives_141 : decode cX12_lives 141 = .ok (.aload_n 0, 1) := by decide +kernel
theorem dX12_lives_142 : decode cX12_lives 142 = .ok (.getfield 7, 3) := by decide +kernel
theorem dX12_lives_145 : decode cX12_lives 145 = .ok (.iload_n 3, 1) := by decide +kernel
theorem dX12_lives_146 : decode cX12_lives 146 = .ok (.iaload, 1) := by decide +kernel
theorem dX12_lives_147 : decode cX12_lives 147 = .ok (.sipush 1900, 3) := by decide +kernel
theorem dX12_lives_150 : decode cX12_lives 150 = .ok (.if_icmp .lt 24, 3) := by decide +kernel
theorem dX12_lives_153 : decode cX12_lives 153 = .ok (.aload_n 0, 1) := by decide +kernel
theorem dX12_lives_154 : decode cX12_lives 154 = .ok (.iload_n 3, 1) := by decide +kernel
theorem dX12_lives_155 : decode cX12_lives 155 = .ok (.invokevirtual 452, 3) := by decide +kernel
theorem dX12_lives_158 : decode cX12_lives 158 = .ok (.ifCond .ne 16, 3) := by decide +kernel
theorem dX12_lives_161 : decode cX12_lives 161 = .ok (.aload_n 0, 1) := by decide +kernel
theorem dX12_lives_162 : decode cX12_lives 162 = .ok (.getfield 7, 3) := by decide +kernel
theorem dX12_lives_165 : decode cX12_lives 165 = .ok (.iload_n 3, 1) := by decide +kernel
theorem dX12_lives_166 : decode cX12_lives 166 = .ok (.iconst 4, 1) := by decide +kernel
theorem dX12_lives_167 : decode cX12_lives 167 = .ok (.iadd, 1) := by decide +kernel
theorem dX12_lives_168 : decode cX12_lives 168 = .ok (.iaload, 1) := by decide +kernel
theorem dX12_lives_169 : decode cX12_lives 169 = .ok (.iconst 1, 1) := by decide +kernel
theorem dX12_lives_170 : decode cX12_lives 170 = .ok (.iadd, 1) := by decide +kernel
theorem dX12_lives_171 : decode cX12_lives 171 = .ok (.goto 6, 3) := by decide +kernel
theorem dX12_lives_174 : decode cX12_lives 174 = .ok (.iload_n 2, 1) := by decide +kernel
theorem dX12_lives_175 : decode cX12_lives 175 = .ok (.iconst 1, 1) := by decide +kernel
theorem dX12_lives_176 : decode cX12_lives 176 = .ok (.iadd, 1) := by decide +kernel
theorem dX12_lives_177 : decode cX12_lives 177 = .ok (.invokevirtual 455, 3) := by decide +kernel
theorem dX12_lives_180 : decode cX12_lives 180 = .ok (.istore_n 2, 1) := by decide +kernel
theorem dX12_lives_181 : decode cX12_lives 181 = .ok (.goto (-149), 3) := by decide +kernel
theorem dX12_lives_184 : decode cX12_lives 184 = .ok (.return_, 1) := by decide +kernel
def qX12_lives_b53  (post : St → Prop)  (u0 : St) : Prop := ∀ u_18 : St, u_18 = (sw u0 36 (upd (ga u0 36) ((4 : Int32)).toNatClampNeg (1 : Int32))) → post u_18
set_option maxRecDepth 100000 in
set_option maxHeartbeats 4000000 in
theorem kX12_lives_b53 {C : Cx} {o0 : Nat} {a0 : Nat → Nat} (hC : Fx C cX12_lives 4 RX12) (hR0 : xR C = rm 12) {post : St → Prop} (hR : RV C cX12_lives 4 (fun u : St => (wX12 o0 a0 (xy C) u [])) (fun u => post u))  {u0 : St} (h : qX12_lives_b53 post u0) : G C 0 0 4 (wX12 o0 a0 (xy C) u0 []) 53 [(0, .ref o0)] [] := by
  refine g_aload_n (pc := 53) hC 0 dX12_lives_53 rfl rfl ?_
  refine getX12_36 (pc := 54) hC (F := fun Z => Z) (X := []) (fun _ => rfl) fl_X12_72 dX12_lives_54 ?_
  refine g_iconst (pc := 57) (v := 4) hC dX12_lives_57 (by decide) ?_
  refine g_iconst (pc := 58) (v := 1) hC dX12_lives_58 (by decide) ?_
  refine astX12_36 (pc := 59) hC (F := fun Z => Z) (X := []) (fun _ => rfl) (by unfold vp_in; decide) dX12_lives_59 ?_
  refine g_st (w := fun z => (wX12 o0 a0 (xy C) z [])) (u := (sw u0 36 (upd (ga u0 36) ((4 : Int32)).toNatClampNeg (1 : Int32)))) (fun u_18 eu_18 => ?_)
  have h := h u_18 eu_18
  exact hR _ _ u_18 dX12_lives_60 h
def qX12_lives_b177  (post : St → Prop) (K32 : Int32 → St → Prop) (s0 : Int32) (u0 : St) : Prop := qX12_behindEnds s0 u0 (fun r_20 u_19 => K32 r_20 u_19)
set_option maxRecDepth 100000 in
set_option maxHeartbeats 4000000 in
theorem kX12_lives_b177 {C : Cx} {o0 : Nat} {a0 : Nat → Nat} (hC : Fx C cX12_lives 4 RX12) (hR0 : xR C = rm 12) {post : St → Prop} (hR : RV C cX12_lives 4 (fun u : St => (wX12 o0 a0 (xy C) u [])) (fun u => post u)) {K32 : Int32 → St → Prop} (hK32 : ∀ (x2 : Int32) (u0 : St), K32 x2 u0 → G C 0 0 4 (wX12 o0 a0 (xy C) u0 []) 32 [(0, .ref o0), (2, .int x2)] []) {s0 : Int32} {u0 : St} (h : qX12_lives_b177 post K32 s0 u0) : G C 0 0 4 (wX12 o0 a0 (xy C) u0 []) 177 [(0, .ref o0)] [.int s0, .ref o0] := by
  refine g_callV_i (pc := 177) (wd := fun (u : St) Y => (wX12 o0 a0 (xy C) u Y)) (F := fun Z => Z) (X := []) (As := [.int s0]) (rest := []) (u := u0) hC (fun _ _ => rfl) (fun _ => rfl) (ctX12_behindEnds h) wvX12_behindEnds ml_X12_455 (ci := 10) (q0 := 0) rfl rfl rfl rfl (rmok hR0 rfl) ⟨Nat.zero_le _, Nat.zero_le _⟩ rfl (Nat.le_of_ble_eq_true rfl) dX12_lives_177 (fun r_20 u_19 h => ?_)
  refine g_istore_n (pc := 180) (lv' := [(2, .int r_20), (0, .ref o0)]) hC dX12_lives_180 rfl (Nat.le_of_ble_eq_true rfl) rfl ?_
  refine g_goto (pc := 181) (tgt := 32) hC dX12_lives_181 (by decide) ?_
  refine g_sub (lv' := [(0, .ref o0), (2, .int r_20)]) [1, 0] rfl ?_
  exact hK32 _ _ h
def qX12_lives_b174  (post : St → Prop) (K32 : Int32 → St → Prop) (x2 : Int32) (u0 : St) : Prop := qX12_lives_b177 post K32 (x2 + (1 : Int32)) u0
set_option maxRecDepth 100000 in
set_option maxHeartbeats 4000000 in
theorem kX12_lives_b174 {C : Cx} {o0 : Nat} {a0 : Nat → Nat} (hC : Fx C cX12_lives 4 RX12) (hR0 : xR C = rm 12) {post : St → Prop} (hR : RV C cX12_lives 4 (fun u : St => (wX12 o0 a0 (xy C) u [])) (fun u => post u)) {K32 : Int32 → St → Prop} (hK32 : ∀ (x2 : Int32) (u0 : St), K32 x2 u0 → G C 0 0 4 (wX12 o0 a0 (xy C) u0 []) 32 [(0, .ref o0), (2, .int x2)] []) {x2 : Int32} {u0 : St} (h : qX12_lives_b174 post K32 x2 u0) : G C 0 0 4 (wX12 o0 a0 (xy C) u0 []) 174 [(0, .ref o0), (2, .int x2)] [.ref o0] := by
  refine g_iload_n (pc := 174) hC 1 dX12_lives_174 rfl rfl ?_
  refine g_iconst (pc := 175) (v := 1) hC dX12_lives_175 (by decide) ?_
  refine g_iadd (pc := 176) hC dX12_lives_176 ?_
  refine g_sub (lv' := [(0, .ref o0)]) [0] rfl ?_
  exact kX12_lives_b177 hC hR0 hR hK32 h
def qX12_lives_b140  (post : St → Prop) (K32 : Int32 → St → Prop) (x2 : Int32) (x3 : Int32) (u0 : St) : Prop := (vp_in x3 3072 ∧ (((ga u0 0 (x3).toNatClampNeg) < (1900 : Int32) → qX12_lives_b174 post K32 x2 u0) ∧ (¬ (ga u0 0 (x3).toNatClampNeg) < (1900 : Int32) → qX12_holds x3 u0 (fun r_24 u_23 => ((¬ r_24 = 0 → qX12_lives_b174 post K32 x2 u_23) ∧ (r_24 = 0 → (vp_in (x3 + (4 : Int32)) 3072 ∧ qX12_lives_b177 post K32 ((ga u_23 0 ((x3 + (4 : Int32))).toNatClampNeg) + (1 : Int32)) u_23)))))))
set_option maxRecDepth 100000 in
set_option maxHeartbeats 4000000 in
theorem kX12_lives_b140 {C : Cx} {o0 : Nat} {a0 : Nat → Nat} (hC : Fx C cX12_lives 4 RX12) (hR0 : xR C = rm 12) {post : St → Prop} (hR : RV C cX12_lives 4 (fun u : St => (wX12 o0 a0 (xy C) u [])) (fun u => post u)) {K32 : Int32 → St → Prop} (hK32 : ∀ (x2 : Int32) (u0 : St), K32 x2 u0 → G C 0 0 4 (wX12 o0 a0 (xy C) u0 []) 32 [(0, .ref o0), (2, .int x2)] []) {x2 : Int32} {x3 : Int32} {u0 : St} (h : qX12_lives_b140 post K32 x2 x3 u0) : G C 0 0 4 (wX12 o0 a0 (xy C) u0 []) 140 [(0, .ref o0), (2, .int x2), (3, .int x3)] [] := by
  refine g_aload_n (pc := 140) hC 0 dX12_lives_140 rfl rfl ?_
  refine g_aload_n (pc := 141) hC 0 dX12_lives_141 rfl rfl ?_
  refine getX12_0 (pc := 142) hC (F := fun Z => Z) (X := []) (fun _ => rfl) fl_X12_7 dX12_lives_142 ?_
  refine g_iload_n (pc := 145) hC 2 dX12_lives_145 rfl rfl ?_
  refine aldX12_0 (pc := 146) hC (F := fun Z => Z) (X := []) (fun _ => rfl) h.1 dX12_lives_146 ?_
  have h := h.2
  refine g_sipush (pc := 147) (v := 1900) hC dX12_lives_147 (by decide) ?_
  refine g_icmp_lt (pc := 150) (tgt := 174) hC dX12_lives_150 (by decide) (fun c_22 => ?_) (fun c_22 => ?_)
  · have h := h.1 c_22
    refine g_sub (lv' := [(0, .ref o0), (2, .int x2)]) [0, 1] rfl ?_
    exact kX12_lives_b174 hC hR0 hR hK32 h
  · have h := h.2 c_22
    refine g_aload_n (pc := 153) hC 0 dX12_lives_153 rfl rfl ?_
    refine g_iload_n (pc := 154) hC 2 dX12_lives_154 rfl rfl ?_
    refine g_callV_i (pc := 155) (wd := fun (u : St) Y => (wX12 o0 a0 (xy C) u Y)) (F := fun Z => Z) (X := []) (As := [.int x3]) (rest := [.ref o0]) (u := u0) hC (fun _ _ => rfl) (fun _ => rfl) (ctX12_holds h) wvX12_holds ml_X12_452 (ci := 10) (q0 := 0) rfl rfl rfl rfl (rmok hR0 rfl) ⟨Nat.zero_le _, Nat.zero_le _⟩ rfl (Nat.le_of_ble_eq_true rfl) dX12_lives_155 (fun r_24 u_23 h => ?_)
    refine g_if_ne (pc := 158) (tgt := 174) hC dX12_lives_158 (by decide) (fun c_26 => ?_) (fun c_26 => ?_)
    · have h := h.1 c_26
      refine g_sub (lv' := [(0, .ref o0), (2, .int x2)]) [0, 1] rfl ?_
      exact kX12_lives_b174 hC hR0 hR hK32 h
    · have h := h.2 c_26
      refine g_aload_n (pc := 161) hC 0 dX12_lives_161 rfl rfl ?_
      refine getX12_0 (pc := 162) hC (F := fun Z => Z) (X := []) (fun _ => rfl) fl_X12_7 dX12_lives_162 ?_
      refine g_iload_n (pc := 165) hC 2 dX12_lives_165 rfl rfl ?_
      refine g_iconst (pc := 166) (v := 4) hC dX12_lives_166 (by decide) ?_
      refine g_iadd (pc := 167) hC dX12_lives_167 ?_
      refine aldX12_0 (pc := 168) hC (F := fun Z => Z) (X := []) (fun _ => rfl) h.1 dX12_lives_168 ?_
      have h := h.2
      refine g_iconst (pc := 169) (v := 1) hC dX12_lives_169 (by decide) ?_
      refine g_iadd (pc := 170) hC dX12_lives_170 ?_
      refine g_goto (pc := 171) (tgt := 177) hC dX12_lives_171 (by decide) ?_
      refine g_sub (lv' := [(0, .ref o0)]) [0] rfl ?_
      exact kX12_lives_b177 hC hR0 hR hK32 h
def qX12_lives_b111  (post : St → Prop) (K32 : Int32 → St → Prop) (x2 : Int32) (x3 : Int32) (s0 : Int32) (s1 : Int32) (s2 : Int32) (u0 : St) : Prop := (vp_in s2 5 ∧ ∀ u_27 : St, u_27 = (sw u0 36 (upd (ga u0 36) (s2).toNatClampNeg (s1 + s0))) → (vp_in x3 3072 ∧ ((¬ (ga u_27 0 (x3).toNatClampNeg) = (20 : Int32) → qX12_lives_b140 post K32 x2 x3 u_27) ∧ ((ga u_27 0 (x3).toNatClampNeg) = (20 : Int32) → (vp_in (x3 + (1 : Int32)) 3072 ∧ (vp_in x2 80 ∧ ∀ u_29 : St, u_29 = (sw u_27 35 (upd (ga u_27 35) (x2).toNatClampNeg ((ga u_27 0 ((x3 + (1 : Int32))).toNatClampNeg) - (1 : Int32)))) → qX12_lives_b140 post K32 x2 x3 u_29))))))
set_option maxRecDepth 100000 in
set_option maxHeartbeats 4000000 in
theorem kX12_lives_b111 {C : Cx} {o0 : Nat} {a0 : Nat → Nat} (hC : Fx C cX12_lives 4 RX12) (hR0 : xR C = rm 12) {post : St → Prop} (hR : RV C cX12_lives 4 (fun u : St => (wX12 o0 a0 (xy C) u [])) (fun u => post u)) {K32 : Int32 → St → Prop} (hK32 : ∀ (x2 : Int32) (u0 : St), K32 x2 u0 → G C 0 0 4 (wX12 o0 a0 (xy C) u0 []) 32 [(0, .ref o0), (2, .int x2)] []) {x2 : Int32} {x3 : Int32} {s0 : Int32} {s1 : Int32} {s2 : Int32} {u0 : St} (h : qX12_lives_b111 post K32 x2 x3 s0 s1 s2 u0) : G C 0 0 4 (wX12 o0 a0 (xy C) u0 []) 111 [(0, .ref o0), (2, .int x2), (3, .int x3)] [.int s0, .int s1, .int s2, .ref (a0 36)] := by
  refine g_iadd (pc := 111) hC dX12_lives_111 ?_
  refine astX12_36 (pc := 112) hC (F := fun Z => Z) (X := []) (fun _ => rfl) h.1 dX12_lives_112 ?_
  have h := h.2
  refine g_st (w := fun z => (wX12 o0 a0 (xy C) z [])) (u := (sw u0 36 (upd (ga u0 36) (s2).toNatClampNeg (s1 + s0)))) (fun u_27 eu_27 => ?_)
  have h := h u_27 eu_27
  refine g_aload_n (pc := 113) hC 0 dX12_lives_113 rfl rfl ?_
  refine getX12_0 (pc := 114) hC (F := fun Z => Z) (X := []) (fun _ => rfl) fl_X12_7 dX12_lives_114 ?_
  refine g_iload_n (pc := 117) hC 2 dX12_lives_117 rfl rfl ?_
  refine aldX12_0 (pc := 118) hC (F := fun Z => Z) (X := []) (fun _ => rfl) h.1 dX12_lives_118 ?_
  have h := h.2
  refine g_bipush (pc := 119) (v := 20) hC dX12_lives_119 (by decide) ?_
  refine g_icmp_ne (pc := 121) (tgt := 140) hC dX12_lives_121 (by decide) (fun c_28 => ?_) (fun c_28 => ?_)
  · have h := h.1 c_28
    exact kX12_lives_b140 hC hR0 hR hK32 h
  · have h := h.2 c_28
    refine g_aload_n (pc := 124) hC 0 dX12_lives_124 rfl rfl ?_
    refine getX12_35 (pc := 125) hC (F := fun Z => Z) (X := []) (fun _ => rfl) fl_X12_69 dX12_lives_125 ?_
    refine g_iload_n (pc := 128) hC 1 dX12_lives_128 rfl rfl ?_
    refine g_aload_n (pc := 129) hC 0 dX12_lives_129 rfl rfl ?_
    refine getX12_0 (pc := 130) hC (F := fun Z => Z) (X := []) (fun _ => rfl) fl_X12_7 dX12_lives_130 ?_
    refine g_iload_n (pc := 133) hC 2 dX12_lives_133 rfl rfl ?_
    refine g_iconst (pc := 134) (v := 1) hC dX12_lives_134 (by decide) ?_
    refine g_iadd (pc := 135) hC dX12_lives_135 ?_
    refine aldX12_0 (pc := 136) hC (F := fun Z => Z) (X := []) (fun _ => rfl) h.1 dX12_lives_136 ?_
    have h := h.2
    refine g_iconst (pc := 137) (v := 1) hC dX12_lives_137 (by decide) ?_
    refine g_isub (pc := 138) hC dX12_lives_138 ?_
    refine astX12_35 (pc := 139) hC (F := fun Z => Z) (X := []) (fun _ => rfl) h.1 dX12_lives_139 ?_
    have h := h.2
    refine g_st (w := fun z => (wX12 o0 a0 (xy C) z [])) (u := (sw u_27 35 (upd (ga u_27 35) (x2).toNatClampNeg ((ga u_27 0 ((x3 + (1 : Int32))).toNatClampNeg) - (1 : Int32))))) (fun u_29 eu_29 => ?_)
    have h := h u_29 eu_29
    exact kX12_lives_b140 hC hR0 hR hK32 h
def qX12_lives_l32  (post : St → Prop) (K32 : Int32 → St → Prop) (x2 : Int32) (u0 : St) : Prop := (((ga u0 0 ((7 : Int32)).toNatClampNeg) ≤ x2 → post u0) ∧ (¬ (ga u0 0 ((7 : Int32)).toNatClampNeg) ≤ x2 → ((¬ (gi u0 34) = (300 : Int32) → ∀ x3_32 : Int32, x3_32 = ((88 : Int32) + ((6 : Int32) * x2)) → ∀ u_33 : St, u_33 = (si u0 34 ((gi u0 34) + (1 : Int32))) → (vp_in x3_32 3072 ∧ ((¬ (ga u_33 0 (x3_32).toNatClampNeg) = (22 : Int32) → qX12_does x3_32 u_33 (fun r_36 u_35 => ((r_36 = 0 → qX12_lives_b111 post K32 x2 x3_32 (1 : Int32) (ga u_33 36 ((0 : Int32)).toNatClampNeg) (0 : Int32) u_35) ∧ (¬ r_36 = 0 → qX12_lives_b111 post K32 x2 x3_32 (0 : Int32) (ga u_33 36 ((0 : Int32)).toNatClampNeg) (0 : Int32) u_35)))) ∧ ((ga u_33 0 (x3_32).toNatClampNeg) = (22 : Int32) → post u_33)))) ∧ ((gi u0 34) = (300 : Int32) → qX12_lives_b53 post u0))))
set_option maxRecDepth 100000 in
set_option maxHeartbeats 4000000 in
theorem kX12_lives_l32 {C : Cx} {o0 : Nat} {a0 : Nat → Nat} (hC : Fx C cX12_lives 4 RX12) (hR0 : xR C = rm 12) {post : St → Prop} (hR : RV C cX12_lives 4 (fun u : St => (wX12 o0 a0 (xy C) u [])) (fun u => post u))  {K32 : Int32 → St → Prop} (hK32 : ∀ (x2 : Int32) (u0 : St), K32 x2 u0 → G C 0 0 4 (wX12 o0 a0 (xy C) u0 []) 32 [(0, .ref o0), (2, .int x2)] []) {x2 : Int32} {u0 : St} (h : qX12_lives_l32 post K32 x2 u0) : G C 0 0 4 (wX12 o0 a0 (xy C) u0 []) 32 [(0, .ref o0), (2, .int x2)] [] := by
  refine g_iload_n (pc := 32) hC 1 dX12_lives_32 rfl rfl ?_
  refine g_aload_n (pc := 33) hC 0 dX12_lives_33 rfl rfl ?_
  refine getX12_0 (pc := 34) hC (F := fun Z => Z) (X := []) (fun _ => rfl) fl_X12_7 dX12_lives_34 ?_
  refine g_bipush (pc := 37) (v := 7) hC dX12_lives_37 (by decide) ?_
  refine aldX12_0 (pc := 39) hC (F := fun Z => Z) (X := []) (fun _ => rfl) (by unfold vp_in; decide) dX12_lives_39 ?_
  refine g_icmp_ge (pc := 40) (tgt := 184) hC dX12_lives_40 (by decide) (fun c_30 => ?_) (fun c_30 => ?_)
  · have h := h.1 c_30
    exact hR _ _ u0 dX12_lives_184 h
  · have h := h.2 c_30
    refine g_aload_n (pc := 43) hC 0 dX12_lives_43 rfl rfl ?_
    refine getX12_34 (pc := 44) hC (F := fun Z => Z) (X := []) (fun _ => rfl) fl_X12_446 dX12_lives_44 ?_
    refine g_sipush (pc := 47) (v := 300) hC dX12_lives_47 (by decide) ?_
    refine g_icmp_ne (pc := 50) (tgt := 61) hC dX12_lives_50 (by decide) (fun c_31 => ?_) (fun c_31 => ?_)
    · have h := h.1 c_31
      refine g_bipush (pc := 61) (v := 88) hC dX12_lives_61 (by decide) ?_
      refine g_bipush (pc := 63) (v := 6) hC dX12_lives_63 (by decide) ?_
      refine g_iload_n (pc := 65) hC 1 dX12_lives_65 rfl rfl ?_
      refine g_imul (pc := 66) hC dX12_lives_66 ?_
      refine g_iadd (pc := 67) hC dX12_lives_67 ?_
      refine g_topi (fun x3_32 ex3_32 => ?_)
      have h := h x3_32 ex3_32
      refine g_istore_n (pc := 68) (lv' := [(3, .int x3_32), (0, .ref o0), (2, .int x2)]) hC dX12_lives_68 rfl (Nat.le_of_ble_eq_true rfl) rfl ?_
      refine g_aload_n (pc := 69) hC 1 dX12_lives_69 rfl rfl ?_
      refine g_dup (pc := 70) hC dX12_lives_70 rfl ?_
      refine getX12_34 (pc := 71) hC (F := fun Z => Z) (X := []) (fun _ => rfl) fl_X12_446 dX12_lives_71 ?_
      refine g_iconst (pc := 74) (v := 1) hC dX12_lives_74 (by decide) ?_
      refine g_iadd (pc := 75) hC dX12_lives_75 ?_
      refine putX12_34 (pc := 76) hC (F := fun Z => Z) (X := []) (fun _ => rfl) fl_X12_446 dX12_lives_76 ?_
      refine g_st (w := fun z => (wX12 o0 a0 (xy C) z [])) (u := (si u0 34 ((gi u0 34) + (1 : Int32)))) (fun u_33 eu_33 => ?_)
      have h := h u_33 eu_33
      refine g_aload_n (pc := 79) hC 1 dX12_lives_79 rfl rfl ?_
      refine getX12_0 (pc := 80) hC (F := fun Z => Z) (X := []) (fun _ => rfl) fl_X12_7 dX12_lives_80 ?_
      refine g_iload_n (pc := 83) hC 0 dX12_lives_83 rfl rfl ?_
      refine aldX12_0 (pc := 84) hC (F := fun Z => Z) (X := []) (fun _ => rfl) h.1 dX12_lives_84 ?_
      have h := h.2
      refine g_bipush (pc := 85) (v := 22) hC dX12_lives_85 (by decide) ?_
      refine g_icmp_ne (pc := 87) (tgt := 91) hC dX12_lives_87 (by decide) (fun c_34 => ?_) (fun c_34 => ?_)
      · have h := h.1 c_34
        refine g_aload_n (pc := 91) hC 1 dX12_lives_91 rfl rfl ?_
        refine getX12_36 (pc := 92) hC (F := fun Z => Z) (X := []) (fun _ => rfl) fl_X12_72 dX12_lives_92 ?_
        refine g_iconst (pc := 95) (v := 0) hC dX12_lives_95 (by decide) ?_
        refine g_dup2 (pc := 96) hC dX12_lives_96 rfl rfl ?_
        refine aldX12_36 (pc := 97) hC (F := fun Z => Z) (X := []) (fun _ => rfl) (by unfold vp_in; decide) dX12_lives_97 ?_
        refine g_aload_n (pc := 98) hC 1 dX12_lives_98 rfl rfl ?_
        refine g_iload_n (pc := 99) hC 0 dX12_lives_99 rfl rfl ?_
        refine g_callV_i (pc := 100) (wd := fun (u : St) Y => (wX12 o0 a0 (xy C) u Y)) (F := fun Z => Z) (X := []) (As := [.int x3_32]) (rest := [.int (ga u_33 36 ((0 : Int32)).toNatClampNeg), .int (0 : Int32), .ref (a0 36)]) (u := u_33) hC (fun _ _ => rfl) (fun _ => rfl) (ctX12_does h) wvX12_does ml_X12_449 (ci := 10) (q0 := 0) rfl rfl rfl rfl (rmok hR0 rfl) ⟨Nat.zero_le _, Nat.zero_le _⟩ rfl (Nat.le_of_ble_eq_true rfl) dX12_lives_100 (fun r_36 u_35 h => ?_)
        refine g_if_eq (pc := 103) (tgt := 110) hC dX12_lives_103 (by decide) (fun c_38 => ?_) (fun c_38 => ?_)
        · have h := h.1 c_38
          refine g_iconst (pc := 110) (v := 1) hC dX12_lives_110 (by decide) ?_
          refine g_sub (lv' := [(0, .ref o0), (2, .int x2), (3, .int x3_32)]) [1, 2, 0] rfl ?_
          exact kX12_lives_b111 hC hR0 hR hK32 h
        · have h := h.2 c_38
          refine g_iconst (pc := 106) (v := 0) hC dX12_lives_106 (by decide) ?_
          refine g_goto (pc := 107) (tgt := 111) hC dX12_lives_107 (by decide) ?_
          refine g_sub (lv' := [(0, .ref o0), (2, .int x2), (3, .int x3_32)]) [1, 2, 0] rfl ?_
          exact kX12_lives_b111 hC hR0 hR hK32 h
      · have h := h.2 c_34
        exact hR _ _ u_33 dX12_lives_90 h
    · have h := h.2 c_31
      refine g_sub (lv' := [(0, .ref o0)]) [0] rfl ?_
      exact kX12_lives_b53 hC hR0 hR  h
def qX12_lives_L32  (post : St → Prop)  : Nat → Int32 → St → Prop
  | 0 => fun _ _ => False
  | n + 1 => qX12_lives_l32 post (qX12_lives_L32 post n)
theorem kX12_lives_L32 {C : Cx} {o0 : Nat} {a0 : Nat → Nat} (hC : Fx C cX12_lives 4 RX12) (hR0 : xR C = rm 12) {post : St → Prop} (hR : RV C cX12_lives 4 (fun u : St => (wX12 o0 a0 (xy C) u [])) (fun u => post u))  : ∀ (n : Nat) (x2 : Int32) (u0 : St), qX12_lives_L32 post n x2 u0 → G C 0 0 4 (wX12 o0 a0 (xy C) u0 []) 32 [(0, .ref o0), (2, .int x2)] [] := by
  intro n
  induction n with
  | zero => intro x2 u0 h; exact h.elim
  | succ n ih => intro x2 u0 h; exact kX12_lives_l32 hC hR0 hR  ih h
def qX12_lives_b30  (post : St → Prop)  (u0 : St) : Prop := ∃ n_39 : Nat, qX12_lives_L32 post n_39 (0 : Int32) u0
set_option maxRecDepth 100000 in
set_option maxHeartbeats 4000000 in
theorem kX12_lives_b30 {C : Cx} {o0 : Nat} {a0 : Nat → Nat} (hC : Fx C cX12_lives 4 RX12) (hR0 : xR C = rm 12) {post : St → Prop} (hR : RV C cX12_lives 4 (fun u : St => (wX12 o0 a0 (xy C) u [])) (fun u => post u))  {u0 : St} (h : qX12_lives_b30 post u0) : G C 0 0 4 (wX12 o0 a0 (xy C) u0 []) 30 [(0, .ref o0)] [] := by
  refine g_iconst (pc := 30) (v := 0) hC dX12_lives_30 (by decide) ?_
  refine g_istore_n (pc := 31) (lv' := [(2, .int (0 : Int32)), (0, .ref o0)]) hC dX12_lives_31 rfl (Nat.le_of_ble_eq_true rfl) rfl ?_
  refine g_sub (lv' := [(0, .ref o0), (2, .int (0 : Int32))]) [1, 0] rfl ?_
  obtain ⟨n_39, h⟩ := h
  exact kX12_lives_L32 hC hR0 hR  n_39 _ _ h
def qX12_lives_l12  (post : St → Prop) (K12 : Int32 → St → Prop) (x2 : Int32) (u0 : St) : Prop := (((5 : Int32) ≤ x2 → qX12_lives_b30 post u0) ∧ (¬ (5 : Int32) ≤ x2 → (vp_in x2 5 ∧ ∀ u_41 : St, u_41 = (sw u0 36 (upd (ga u0 36) (x2).toNatClampNeg (0 : Int32))) → ∀ x2_42 : Int32, x2_42 = x2 + (1 : Int32) → K12 x2_42 u_41)))
set_option maxRecDepth 100000 in
set_option maxHeartbeats 4000000 in
theorem kX12_lives_l12 {C : Cx} {o0 : Nat} {a0 : Nat → Nat} (hC : Fx C cX12_lives 4 RX12) (hR0 : xR C = rm 12) {post : St → Prop} (hR : RV C cX12_lives 4 (fun u : St => (wX12 o0 a0 (xy C) u [])) (fun u => post u))  {K12 : Int32 → St → Prop} (hK12 : ∀ (x2 : Int32) (u0 : St), K12 x2 u0 → G C 0 0 4 (wX12 o0 a0 (xy C) u0 []) 12 [(0, .ref o0), (2, .int x2)] []) {x2 : Int32} {u0 : St} (h : qX12_lives_l12 post K12 x2 u0) : G C 0 0 4 (wX12 o0 a0 (xy C) u0 []) 12 [(0, .ref o0), (2, .int x2)] [] := by
  refine g_iload_n (pc := 12) hC 1 dX12_lives_12 rfl rfl ?_
  refine g_iconst (pc := 13) (v := 5) hC dX12_lives_13 (by decide) ?_
  refine g_icmp_ge (pc := 14) (tgt := 30) hC dX12_lives_14 (by decide) (fun c_40 => ?_) (fun c_40 => ?_)
  · have h := h.1 c_40
    refine g_sub (lv' := [(0, .ref o0)]) [0] rfl ?_
    exact kX12_lives_b30 hC hR0 hR  h
  · have h := h.2 c_40
    refine g_aload_n (pc := 17) hC 0 dX12_lives_17 rfl rfl ?_
    refine getX12_36 (pc := 18) hC (F := fun Z => Z) (X := []) (fun _ => rfl) fl_X12_72 dX12_lives_18 ?_
    refine g_iload_n (pc := 21) hC 1 dX12_lives_21 rfl rfl ?_
    refine g_iconst (pc := 22) (v := 0) hC dX12_lives_22 (by decide) ?_
    refine astX12_36 (pc := 23) hC (F := fun Z => Z) (X := []) (fun _ => rfl) h.1 dX12_lives_23 ?_
    have h := h.2
    refine g_st (w := fun z => (wX12 o0 a0 (xy C) z [])) (u := (sw u0 36 (upd (ga u0 36) (x2).toNatClampNeg (0 : Int32)))) (fun u_41 eu_41 => ?_)
    have h := h u_41 eu_41
    obtain ⟨x2_42, ex2_42⟩ : ∃ z : Int32, z = x2 + (1 : Int32) := ⟨_, rfl⟩
    have h := h x2_42 ex2_42
    refine g_iinc (pc := 24) (v := x2_42) (lv' := [(2, .int x2_42), (0, .ref o0)]) hC 1 dX12_lives_24 rfl (by rw [ex2_42]; rfl) (Nat.le_of_ble_eq_true rfl) rfl ?_
    refine g_goto (pc := 27) (tgt := 12) hC dX12_lives_27 (by decide) ?_
    refine g_sub (lv' := [(0, .ref o0), (2, .int x2_42)]) [1, 0] rfl ?_
    exact hK12 _ _ h
def qX12_lives_L12  (post : St → Prop)  : Nat → Int32 → St → Prop
  | 0 => fun _ _ => False
  | n + 1 => qX12_lives_l12 post (qX12_lives_L12 post n)
theorem kX12_lives_L12 {C : Cx} {o0 : Nat} {a0 : Nat → Nat} (hC : Fx C cX12_lives 4 RX12) (hR0 : xR C = rm 12) {post : St → Prop} (hR : RV C cX12_lives 4 (fun u : St => (wX12 o0 a0 (xy C) u [])) (fun u => post u))  : ∀ (n : Nat) (x2 : Int32) (u0 : St), qX12_lives_L12 post n x2 u0 → G C 0 0 4 (wX12 o0 a0 (xy C) u0 []) 12 [(0, .ref o0), (2, .int x2)] [] := by
  intro n
  induction n with
  | zero => intro x2 u0 h; exact h.elim
  | succ n ih => intro x2 u0 h; exact kX12_lives_l12 hC hR0 hR  ih h
def qX12_lives (x1 : Int32) (u0 : St) (post : St → Prop) : Prop := ∀ u_43 : St, u_43 = (si u0 33 x1) → ∀ u_44 : St, u_44 = (si u_43 34 (0 : Int32)) → ∃ n_45 : Nat, qX12_lives_L12 post n_45 (0 : Int32) u_44
set_option maxRecDepth 100000 in
set_option maxHeartbeats 4000000 in
theorem kX12_lives {C : Cx} {o0 : Nat} {a0 : Nat → Nat} (hC : Fx C cX12_lives 4 RX12) (hR0 : xR C = rm 12) {post : St → Prop} (hR : RV C cX12_lives 4 (fun u : St => (wX12 o0 a0 (xy C) u [])) (fun u => post u)) {x1 : Int32} {u0 : St} (h : qX12_lives x1 u0 post) : G C 0 0 4 (wX12 o0 a0 (xy C) u0 []) 0 [(0, .ref o0), (1, .int x1)] [] := by
  refine g_aload_n (pc := 0) hC 0 dX12_lives_0 rfl rfl ?_
  refine g_iload_n (pc := 1) hC 1 dX12_lives_1 rfl rfl ?_
  refine putX12_33 (pc := 2) hC (F := fun Z => Z) (X := []) (fun _ => rfl) fl_X12_427 dX12_lives_2 ?_
  refine g_st (w := fun z => (wX12 o0 a0 (xy C) z [])) (u := (si u0 33 x1)) (fun u_43 eu_43 => ?_)
  have h := h u_43 eu_43
  refine g_aload_n (pc := 5) hC 0 dX12_lives_5 rfl rfl ?_
  refine g_iconst (pc := 6) (v := 0) hC dX12_lives_6 (by decide) ?_
  refine putX12_34 (pc := 7) hC (F := fun Z => Z) (X := []) (fun _ => rfl) fl_X12_446 dX12_lives_7 ?_
  refine g_st (w := fun z => (wX12 o0 a0 (xy C) z [])) (u := (si u_43 34 (0 : Int32))) (fun u_44 eu_44 => ?_)
  have h := h u_44 eu_44
  refine g_iconst (pc := 10) (v := 0) hC dX12_lives_10 (by decide) ?_
  refine g_istore_n (pc := 11) (lv' := [(2, .int (0 : Int32)), (0, .ref o0), (1, .int x1)]) hC dX12_lives_11 rfl (Nat.le_of_ble_eq_true rfl) rfl ?_
  refine g_sub (lv' := [(0, .ref o0), (2, .int (0 : Int32))]) [1, 0] rfl ?_
  obtain ⟨n_45, h⟩ := h
  exact kX12_lives_L12 hC hR0 hR  n_45 _ _ h
theorem ctX12_lives {l : Launch} {D : va_G} {cy : Nat → ClassId} {kd : Nat → Nat} {o0 : Nat} {a0 : Nat → Nat} {x1 : Int32} {u0 : St} {post : St → Prop} (h : qX12_lives x1 u0 post) : CtV l D cy kd yX12_lives cX12_lives 4 12  [.ref o0, .int x1] (fun u : St => (wX12 o0 a0 cy u [])) u0 (fun u => post u) := met_v (by decide) (Nat.le_of_ble_eq_true rfl) (fun C e1 e2 e3 e4 e5 hC hR => by subst e1 e2 e3 e4; exact kX12_lives hC e5 hR h)
theorem dX12_live_0 : decode cX12_live 0 = .ok (.iload_n 1, 1) := by decide +kernel
theorem dX12_live_1 : decode cX12_live 1 = .ok (.i2l, 1) := by decide +kernel
theorem dX12_live_2 : decode cX12_live 2 = .ok (.lconst 0, 1) := by decide +kernel
theorem dX12_live_3 : decode cX12_live 3 = .ok (.ldc2_w 390, 3) := by decide +kernel
theorem dX12_live_6 : decode cX12_live 6 = .ok (.invokestatic 315, 3) := by decide +kernel
theorem dX12_live_9 : decode cX12_live 9 = .ok (.ifCond .ne 9, 3) := by decide +kernel
theorem dX12_live_12 : decode cX12_live 12 = .ok (.aload_n 0, 1) := by decide +kernel
theorem dX12_live_13 : decode cX12_live 13 = .ok (.iconst 1, 1) := by decide +kernel
theorem dX12_live_14 : decode cX12_live 14 = .ok (.invokevirtual 88, 3) := by decide +kernel
theorem dX12_live_17 : decode cX12_live 17 = .ok (.ireturn, 1) := by decide +kernel
theorem dX12_live_18 : decode cX12_live 18 = .ok (.aload_n 0, 1) := by decide +kernel
theorem dX12_live_19 : decode cX12_live 19 = .ok (.getfield 7, 3) := by decide +kernel
theorem dX12_live_22 : decode cX12_live 22 = .ok (.bipush 7, 2) := by decide +kernel
theorem dX12_live_24 : decode cX12_live 24 = .ok (.iaload, 1) := by decide +kernel
theorem dX12_live_25 : decode cX12_live 25 = .ok (.iconst (-1), 1) := by decide +kernel
theorem dX12_live_26 : decode cX12_live 26 = .ok (.if_icmp .ne 10, 3) := by decide +kernel
theorem dX12_live_29 : decode cX12_live 29 = .ok (.aload_n 0, 1) := by decide +kernel
theorem dX12_live_30 : decode cX12_live 30 = .ok (.bipush 6, 2) := by decide +kernel
theorem dX12_live_32 : decode cX12_live 32 = .ok (.invokevirtual 88, 3) := by decide +kernel
theorem dX12_live_35 : decode cX12_live 35 = .ok (.ireturn, 1) := by decide +kernel
theorem dX12_live_36 : decode cX12_live 36 = .ok (.aload_n 0, 1) := by decide +kernel
theorem dX12_live_37 : decode cX12_live 37 = .ok (.iload_n 1, 1) := by decide +kernel
theorem dX12_live_38 : decode cX12_live 38 = .ok (.invokevirtual 458, 3) := by decide +kernel
theorem dX12_live_41 : decode cX12_live 41 = .ok (.iconst 0, 1) := by decide +kernel
theorem dX12_live_42 : decode cX12_live 42 = .ok (.istore_n 2, 1) := by decide +kernel
theorem dX12_live_43 : decode cX12_live 43 = .ok (.iload_n 2, 1) := by decide +kernel
theorem dX12_live_44 : decode cX12_live 44 = .ok (.iconst 5, 1) := by decide +kernel
theorem dX12_live_45 : decode cX12_live 45 = .ok (.if_icmp .ge 21, 3) := by decide +kernel
theorem dX12_live_48 : decode cX12_live 48 = .ok (.aload_n 0, 1) := by decide +kernel
theorem dX12_live_49 : decode cX12_live 49 = .ok (.getfield 75, 3) := by decide +kernel
theorem dX12_live_52 : decode cX12_live 52 = .ok (.iload_n 2, 1) := by decide +kernel
theorem dX12_live_53 : decode cX12_live 53 = .ok (.aload_n 0, 1) := by decide +kernel
theorem dX12_live_54 : decode cX12_live 54 = .ok (.getfield 72, 3) := by decide +kernel
theorem dX12_live_57 : decode cX12_live 57 = .ok (.iload_n 2, 1) := by decide +kernel
theorem dX12_live_58 : decode cX12_live 58 = .ok (.iaload, 1) := by decide +kernel
theorem dX12_live_59 : decode cX12_live 59 = .ok (.iastore, 1) := by decide +kernel
theorem dX12_live_60 : decode cX12_live 60 = .ok (.iinc 2 1, 3) := by decide +kernel
theorem dX12_live_63 : decode cX12_live 63 = .ok (.goto (-20), 3) := by decide +kernel
theorem dX12_live_66 : decode cX12_live 66 = .ok (.aload_n 0, 1) := by decide +kernel
theorem dX12_live_67 : decode cX12_live 67 = .ok (.iconst 1, 1) := by decide +kernel
theorem dX12_live_68 : decode cX12_live 68 = .ok (.putfield 461, 3) := by decide +kernel
theorem dX12_live_71 : decode cX12_live 71 = .ok (.aload_n 0, 1) := by decide +kernel
theorem dX12_live_72 : decode cX12_live 72 = .ok (.aload_n 0, 1) := by decide +kernel
theorem dX12_live_73 : decode cX12_live 73 = .ok (.getfield 446, 3) := by decide +kernel
theorem dX12_live_76 : decode cX12_live 76 = .ok (.invokevirtual 92, 3) := by decide +kernel
theorem dX12_live_79 : decode cX12_live 79 = .ok (.ireturn, 1) := by decide +kernel
def qX12_live_b66  (post : Int32 → St → Prop)  (u0 : St) : Prop := ∀ u_17 : St, u_17 = (si u0 38 (1 : Int32)) → qX12_gives (gi u_17 34) u_17 (fun r_19 u_18 => post r_19 u_18)
set_option maxRecDepth 100000 in
set_option maxHeartbeats 4000000 in
theorem kX12_live_b66 {C : Cx} {o0 : Nat} {a0 : Nat → Nat} (hC : Fx C cX12_live 3 RX12) (hR0 : xR C = rm 13) {post : Int32 → St → Prop} (hR : RI C cX12_live 3 (fun u : St => (wX12 o0 a0 (xy C) u [])) (fun r u => post r u))  {u0 : St} (h : qX12_live_b66 post u0) : G C 0 0 3 (wX12 o0 a0 (xy C) u0 []) 66 [(0, .ref o0)] [] := by
  refine g_aload_n (pc := 66) hC 0 dX12_live_66 rfl rfl ?_
  refine g_iconst (pc := 67) (v := 1) hC dX12_live_67 (by decide) ?_
  refine putX12_38 (pc := 68) hC (F := fun Z => Z) (X := []) (fun _ => rfl) fl_X12_461 (Or.inr rfl) dX12_live_68 ?_
  refine g_st (w := fun z => (wX12 o0 a0 (xy C) z [])) (u := (si u0 38 (1 : Int32))) (fun u_17 eu_17 => ?_)
  have h := h u_17 eu_17
  refine g_aload_n (pc := 71) hC 0 dX12_live_71 rfl rfl ?_
  refine g_aload_n (pc := 72) hC 0 dX12_live_72 rfl rfl ?_
  refine getX12_34 (pc := 73) hC (F := fun Z => Z) (X := []) (fun _ => rfl) fl_X12_446 dX12_live_73 ?_
  refine g_callV_i (pc := 76) (wd := fun (u : St) Y => (wX12 o0 a0 (xy C) u Y)) (F := fun Z => Z) (X := []) (As := [.int (gi u_17 34)]) (rest := []) (u := u_17) hC (fun _ _ => rfl) (fun _ => rfl) (ctX12_gives h) wvX12_gives ml_X12_92 (ci := 10) (q0 := 0) rfl rfl rfl rfl (rmok hR0 rfl) ⟨Nat.zero_le _, Nat.zero_le _⟩ rfl (Nat.le_of_ble_eq_true rfl) dX12_live_76 (fun r_19 u_18 h => ?_)
  exact hR _ _ _ u_18 dX12_live_79 h
def qX12_live_l43  (post : Int32 → St → Prop) (K43 : Int32 → St → Prop) (x2 : Int32) (u0 : St) : Prop := (((5 : Int32) ≤ x2 → qX12_live_b66 post u0) ∧ (¬ (5 : Int32) ≤ x2 → (vp_in x2 5 ∧ (vp_in x2 5 ∧ ∀ u_22 : St, u_22 = (sw u0 37 (upd (ga u0 37) (x2).toNatClampNeg (ga u0 36 (x2).toNatClampNeg))) → ∀ x2_23 : Int32, x2_23 = x2 + (1 : Int32) → K43 x2_23 u_22))))
set_option maxRecDepth 100000 in
set_option maxHeartbeats 4000000 in
theorem kX12_live_l43 {C : Cx} {o0 : Nat} {a0 : Nat → Nat} (hC : Fx C cX12_live 3 RX12) (hR0 : xR C = rm 13) {post : Int32 → St → Prop} (hR : RI C cX12_live 3 (fun u : St => (wX12 o0 a0 (xy C) u [])) (fun r u => post r u))  {K43 : Int32 → St → Prop} (hK43 : ∀ (x2 : Int32) (u0 : St), K43 x2 u0 → G C 0 0 3 (wX12 o0 a0 (xy C) u0 []) 43 [(0, .ref o0), (2, .int x2)] []) {x2 : Int32} {u0 : St} (h : qX12_live_l43 post K43 x2 u0) : G C 0 0 3 (wX12 o0 a0 (xy C) u0 []) 43 [(0, .ref o0), (2, .int x2)] [] := by
  refine g_iload_n (pc := 43) hC 1 dX12_live_43 rfl rfl ?_
  refine g_iconst (pc := 44) (v := 5) hC dX12_live_44 (by decide) ?_
  refine g_icmp_ge (pc := 45) (tgt := 66) hC dX12_live_45 (by decide) (fun c_21 => ?_) (fun c_21 => ?_)
  · have h := h.1 c_21
    refine g_sub (lv' := [(0, .ref o0)]) [0] rfl ?_
    exact kX12_live_b66 hC hR0 hR  h
  · have h := h.2 c_21
    refine g_aload_n (pc := 48) hC 0 dX12_live_48 rfl rfl ?_
    refine getX12_37 (pc := 49) hC (F := fun Z => Z) (X := []) (fun _ => rfl) fl_X12_75 dX12_live_49 ?_
    refine g_iload_n (pc := 52) hC 1 dX12_live_52 rfl rfl ?_
    refine g_aload_n (pc := 53) hC 0 dX12_live_53 rfl rfl ?_
    refine getX12_36 (pc := 54) hC (F := fun Z => Z) (X := []) (fun _ => rfl) fl_X12_72 dX12_live_54 ?_
    refine g_iload_n (pc := 57) hC 1 dX12_live_57 rfl rfl ?_
    refine aldX12_36 (pc := 58) hC (F := fun Z => Z) (X := []) (fun _ => rfl) h.1 dX12_live_58 ?_
    have h := h.2
    refine astX12_37 (pc := 59) hC (F := fun Z => Z) (X := []) (fun _ => rfl) h.1 dX12_live_59 ?_
    have h := h.2
    refine g_st (w := fun z => (wX12 o0 a0 (xy C) z [])) (u := (sw u0 37 (upd (ga u0 37) (x2).toNatClampNeg (ga u0 36 (x2).toNatClampNeg)))) (fun u_22 eu_22 => ?_)
    have h := h u_22 eu_22
    obtain ⟨x2_23, ex2_23⟩ : ∃ z : Int32, z = x2 + (1 : Int32) := ⟨_, rfl⟩
    have h := h x2_23 ex2_23
    refine g_iinc (pc := 60) (v := x2_23) (lv' := [(2, .int x2_23), (0, .ref o0)]) hC 1 dX12_live_60 rfl (by rw [ex2_23]; rfl) (Nat.le_of_ble_eq_true rfl) rfl ?_
    refine g_goto (pc := 63) (tgt := 43) hC dX12_live_63 (by decide) ?_
    refine g_sub (lv' := [(0, .ref o0), (2, .int x2_23)]) [1, 0] rfl ?_
    exact hK43 _ _ h
def qX12_live_L43  (post : Int32 → St → Prop)  : Nat → Int32 → St → Prop
  | 0 => fun _ _ => False
  | n + 1 => qX12_live_l43 post (qX12_live_L43 post n)
theorem kX12_live_L43 {C : Cx} {o0 : Nat} {a0 : Nat → Nat} (hC : Fx C cX12_live 3 RX12) (hR0 : xR C = rm 13) {post : Int32 → St → Prop} (hR : RI C cX12_live 3 (fun u : St => (wX12 o0 a0 (xy C) u [])) (fun r u => post r u))  : ∀ (n : Nat) (x2 : Int32) (u0 : St), qX12_live_L43 post n x2 u0 → G C 0 0 3 (wX12 o0 a0 (xy C) u0 []) 43 [(0, .ref o0), (2, .int x2)] [] := by
  intro n
  induction n with
  | zero => intro x2 u0 h; exact h.elim
  | succ n ih => intro x2 u0 h; exact kX12_live_l43 hC hR0 hR  ih h
def qX12_live (x1 : Int32) (u0 : St) (post : Int32 → St → Prop) : Prop := qX12_isFrom (x1).toInt64 (0 : Int64) (9999 : Int64) (fun r_24 => ((¬ r_24 = 0 → ((¬ (ga u0 0 ((7 : Int32)).toNatClampNeg) = (-1 : Int32) → qX12_lives x1 u0 (fun u_28 => ∃ n_30 : Nat, qX12_live_L43 post n_30 (0 : Int32) u_28)) ∧ ((ga u0 0 ((7 : Int32)).toNatClampNeg) = (-1 : Int32) → qX12_refuse (6 : Int32) u0 (fun r_32 u_31 => post r_32 u_31)))) ∧ (r_24 = 0 → qX12_refuse (1 : Int32) u0 (fun r_35 u_34 => post r_35 u_34))))
set_option maxRecDepth 100000 in
set_option maxHeartbeats 4000000 in
theorem kX12_live {C : Cx} {o0 : Nat} {a0 : Nat → Nat} (hC : Fx C cX12_live 3 RX12) (hR0 : xR C = rm 13) {post : Int32 → St → Prop} (hR : RI C cX12_live 3 (fun u : St => (wX12 o0 a0 (xy C) u [])) (fun r u => post r u)) {x1 : Int32} {u0 : St} (h : qX12_live x1 u0 post) : G C 0 0 3 (wX12 o0 a0 (xy C) u0 []) 0 [(0, .ref o0), (1, .int x1)] [] := by
  refine g_iload_n (pc := 0) hC 1 dX12_live_0 rfl rfl ?_
  refine g_i2l (pc := 1) hC dX12_live_1 ?_
  refine g_lconst (pc := 2) (v := 0) hC dX12_live_2 (by decide) ?_
  refine g_ldc2 (pc := 3) hC cn_X12_390 dX12_live_3 ?_
  refine g_callS_i (pc := 6) (wd := fun (_ : Unit) Y => Y) (F := fun Z => Z) (X := []) (As := [.long (x1).toInt64, .long (0 : Int64), .long (9999 : Int64)]) (rest := []) (u := ()) hC (fun _ _ => rfl) (fun _ => rfl) (ctX12_isFrom h) wvX12_isFrom ml_X12_315 rfl (rmok hR0 rfl) ⟨Nat.zero_le _, Nat.zero_le _⟩ rfl (Nat.le_of_ble_eq_true rfl) dX12_live_6 (fun r_24 u_25 h => ?_)
  refine g_if_ne (pc := 9) (tgt := 18) hC dX12_live_9 (by decide) (fun c_26 => ?_) (fun c_26 => ?_)
  · have h := h.1 c_26
    refine g_aload_n (pc := 18) hC 0 dX12_live_18 rfl rfl ?_
    refine getX12_0 (pc := 19) hC (F := fun Z => Z) (X := []) (fun _ => rfl) fl_X12_7 dX12_live_19 ?_
    refine g_bipush (pc := 22) (v := 7) hC dX12_live_22 (by decide) ?_
    refine aldX12_0 (pc := 24) hC (F := fun Z => Z) (X := []) (fun _ => rfl) (by unfold vp_in; decide) dX12_live_24 ?_
    refine g_iconst (pc := 25) (v := -1) hC dX12_live_25 (by decide) ?_
    refine g_icmp_ne (pc := 26) (tgt := 36) hC dX12_live_26 (by decide) (fun c_27 => ?_) (fun c_27 => ?_)
    · have h := h.1 c_27
      refine g_aload_n (pc := 36) hC 0 dX12_live_36 rfl rfl ?_
      refine g_iload_n (pc := 37) hC 1 dX12_live_37 rfl rfl ?_
      refine g_callV_v (pc := 38) (wd := fun (u : St) Y => (wX12 o0 a0 (xy C) u Y)) (F := fun Z => Z) (X := []) (As := [.int x1]) (rest := []) (u := u0) hC (fun _ _ => rfl) (fun _ => rfl) (ctX12_lives h) wvX12_lives ml_X12_458 (ci := 10) (q0 := 0) rfl rfl rfl rfl (rmok hR0 rfl) ⟨Nat.zero_le _, Nat.zero_le _⟩ rfl (Nat.le_of_ble_eq_true rfl) dX12_live_38 (fun u_28 h => ?_)
      refine g_iconst (pc := 41) (v := 0) hC dX12_live_41 (by decide) ?_
      refine g_istore_n (pc := 42) (lv' := [(2, .int (0 : Int32)), (0, .ref o0), (1, .int x1)]) hC dX12_live_42 rfl (Nat.le_of_ble_eq_true rfl) rfl ?_
      refine g_sub (lv' := [(0, .ref o0), (2, .int (0 : Int32))]) [1, 0] rfl ?_
      obtain ⟨n_30, h⟩ := h
      exact kX12_live_L43 hC hR0 hR  n_30 _ _ h
    · have h := h.2 c_27
      refine g_aload_n (pc := 29) hC 0 dX12_live_29 rfl rfl ?_
      refine g_bipush (pc := 30) (v := 6) hC dX12_live_30 (by decide) ?_
      refine g_callV_i (pc := 32) (wd := fun (u : St) Y => (wX12 o0 a0 (xy C) u Y)) (F := fun Z => Z) (X := []) (As := [.int (6 : Int32)]) (rest := []) (u := u0) hC (fun _ _ => rfl) (fun _ => rfl) (ctX12_refuse h) wvX12_refuse ml_X12_88 (ci := 10) (q0 := 0) rfl rfl rfl rfl (rmok hR0 rfl) ⟨Nat.zero_le _, Nat.zero_le _⟩ rfl (Nat.le_of_ble_eq_true rfl) dX12_live_32 (fun r_32 u_31 h => ?_)
      exact hR _ _ _ u_31 dX12_live_35 h
  · have h := h.2 c_26
    refine g_aload_n (pc := 12) hC 0 dX12_live_12 rfl rfl ?_
    refine g_iconst (pc := 13) (v := 1) hC dX12_live_13 (by decide) ?_
    refine g_callV_i (pc := 14) (wd := fun (u : St) Y => (wX12 o0 a0 (xy C) u Y)) (F := fun Z => Z) (X := []) (As := [.int (1 : Int32)]) (rest := []) (u := u0) hC (fun _ _ => rfl) (fun _ => rfl) (ctX12_refuse h) wvX12_refuse ml_X12_88 (ci := 10) (q0 := 0) rfl rfl rfl rfl (rmok hR0 rfl) ⟨Nat.zero_le _, Nat.zero_le _⟩ rfl (Nat.le_of_ble_eq_true rfl) dX12_live_14 (fun r_35 u_34 h => ?_)
    exact hR _ _ _ u_34 dX12_live_17 h
theorem ctX12_live {l : Launch} {D : va_G} {cy : Nat → ClassId} {kd : Nat → Nat} {o0 : Nat} {a0 : Nat → Nat} {x1 : Int32} {u0 : St} {post : Int32 → St → Prop} (h : qX12_live x1 u0 post) : CtI l D cy kd yX12_live cX12_live 3 13 .int [.ref o0, .int x1] (fun u : St => (wX12 o0 a0 cy u [])) u0 (fun r u => post r u) := met_i (by decide) (Nat.le_of_ble_eq_true rfl) (fun C e1 e2 e3 e4 e5 hC hR => by subst e1 e2 e3 e4; exact kX12_live hC e5 hR h)
theorem dX12_lived_0 : decode cX12_lived 0 = .ok (.iload_n 1, 1) := by decide +kernel
theorem dX12_lived_1 : decode cX12_lived 1 = .ok (.ifCond .lt 8, 3) := by decide +kernel
theorem dX12_lived_4 : decode cX12_lived 4 = .ok (.iload_n 1, 1) := by decide +kernel
theorem dX12_lived_5 : decode cX12_lived 5 = .ok (.iconst 4, 1) := by decide +kernel
theorem dX12_lived_6 : decode cX12_lived 6 = .ok (.if_icmp .le 9, 3) := by decide +kernel
theorem dX12_lived_9 : decode cX12_lived 9 = .ok (.aload_n 0, 1) := by decide +kernel
theorem dX12_lived_10 : decode cX12_lived 10 = .ok (.iconst 1, 1) := by decide +kernel
theorem dX12_lived_11 : decode cX12_lived 11 = .ok (.invokevirtual 88, 3) := by decide +kernel
theorem dX12_lived_14 : decode cX12_lived 14 = .ok (.ireturn, 1) := by decide +kernel
theorem dX12_lived_15 : decode cX12_lived 15 = .ok (.aload_n 0, 1) := by decide +kernel
theorem dX12_lived_16 : decode cX12_lived 16 = .ok (.getfield 461, 3) := by decide +kernel
theorem dX12_lived_19 : decode cX12_lived 19 = .ok (.ifCond .eq 16, 3) := by decide +kernel
theorem dX12_lived_22 : decode cX12_lived 22 = .ok (.aload_n 0, 1) := by decide +kernel
theorem dX12_lived_23 : decode cX12_lived 23 = .ok (.aload_n 0, 1) := by decide +kernel
theorem dX12_lived_24 : decode cX12_lived 24 = .ok (.getfield 75, 3) := by decide +kernel
theorem dX12_lived_27 : decode cX12_lived 27 = .ok (.iload_n 1, 1) := by decide +kernel
theorem dX12_lived_28 : decode cX12_lived 28 = .ok (.iaload, 1) := by decide +kernel
theorem dX12_lived_29 : decode cX12_lived 29 = .ok (.invokevirtual 92, 3) := by decide +kernel
theorem dX12_lived_32 : decode cX12_lived 32 = .ok (.goto 9, 3) := by decide +kernel
theorem dX12_lived_35 : decode cX12_lived 35 = .ok (.aload_n 0, 1) := by decide +kernel
theorem dX12_lived_36 : decode cX12_lived 36 = .ok (.bipush 6, 2) := by decide +kernel
theorem dX12_lived_38 : decode cX12_lived 38 = .ok (.invokevirtual 88, 3) := by decide +kernel
theorem dX12_lived_41 : decode cX12_lived 41 = .ok (.ireturn, 1) := by decide +kernel
def qX12_lived_b9  (post : Int32 → St → Prop)  (u0 : St) : Prop := qX12_refuse (1 : Int32) u0 (fun r_11 u_10 => post r_11 u_10)
set_option maxRecDepth 100000 in
set_option maxHeartbeats 4000000 in
theorem kX12_lived_b9 {C : Cx} {o0 : Nat} {a0 : Nat → Nat} (hC : Fx C cX12_lived 2 RX12) (hR0 : xR C = rm 2) {post : Int32 → St → Prop} (hR : RI C cX12_lived 2 (fun u : St => (wX12 o0 a0 (xy C) u [])) (fun r u => post r u))  {u0 : St} (h : qX12_lived_b9 post u0) : G C 0 0 2 (wX12 o0 a0 (xy C) u0 []) 9 [(0, .ref o0)] [] := by
  refine g_aload_n (pc := 9) hC 0 dX12_lived_9 rfl rfl ?_
  refine g_iconst (pc := 10) (v := 1) hC dX12_lived_10 (by decide) ?_
  refine g_callV_i (pc := 11) (wd := fun (u : St) Y => (wX12 o0 a0 (xy C) u Y)) (F := fun Z => Z) (X := []) (As := [.int (1 : Int32)]) (rest := []) (u := u0) hC (fun _ _ => rfl) (fun _ => rfl) (ctX12_refuse h) wvX12_refuse ml_X12_88 (ci := 10) (q0 := 0) rfl rfl rfl rfl (rmok hR0 rfl) ⟨Nat.zero_le _, Nat.zero_le _⟩ rfl (Nat.le_of_ble_eq_true rfl) dX12_lived_11 (fun r_11 u_10 h => ?_)
  exact hR _ _ _ u_10 dX12_lived_14 h
def qX12_lived_b41  (post : Int32 → St → Prop)  (s0 : Int32) (u0 : St) : Prop := post s0 u0
set_option maxRecDepth 100000 in
set_option maxHeartbeats 4000000 in
theorem kX12_lived_b41 {C : Cx} {o0 : Nat} {a0 : Nat → Nat} (hC : Fx C cX12_lived 2 RX12) (hR0 : xR C = rm 2) {post : Int32 → St → Prop} (hR : RI C cX12_lived 2 (fun u : St => (wX12 o0 a0 (xy C) u [])) (fun r u => post r u))  {s0 : Int32} {u0 : St} (h : qX12_lived_b41 post s0 u0) : G C 0 0 2 (wX12 o0 a0 (xy C) u0 []) 41 [] [.int s0] := by
  exact hR _ _ _ u0 dX12_lived_41 h
def qX12_lived (x1 : Int32) (u0 : St) (post : Int32 → St → Prop) : Prop := ((x1 < 0 → qX12_lived_b9 post u0) ∧ (¬ x1 < 0 → ((x1 ≤ (4 : Int32) → (((gi u0 38) = 0 → qX12_refuse (6 : Int32) u0 (fun r_17 u_16 => qX12_lived_b41 post r_17 u_16)) ∧ (¬ (gi u0 38) = 0 → (vp_in x1 5 ∧ qX12_gives (ga u0 37 (x1).toNatClampNeg) u0 (fun r_20 u_19 => qX12_lived_b41 post r_20 u_19))))) ∧ (¬ x1 ≤ (4 : Int32) → qX12_lived_b9 post u0))))
set_option maxRecDepth 100000 in
set_option maxHeartbeats 4000000 in
theorem kX12_lived {C : Cx} {o0 : Nat} {a0 : Nat → Nat} (hC : Fx C cX12_lived 2 RX12) (hR0 : xR C = rm 2) {post : Int32 → St → Prop} (hR : RI C cX12_lived 2 (fun u : St => (wX12 o0 a0 (xy C) u [])) (fun r u => post r u)) {x1 : Int32} {u0 : St} (h : qX12_lived x1 u0 post) : G C 0 0 2 (wX12 o0 a0 (xy C) u0 []) 0 [(0, .ref o0), (1, .int x1)] [] := by
  refine g_iload_n (pc := 0) hC 1 dX12_lived_0 rfl rfl ?_
  refine g_if_lt (pc := 1) (tgt := 9) hC dX12_lived_1 (by decide) (fun c_13 => ?_) (fun c_13 => ?_)
  · have h := h.1 c_13
    refine g_sub (lv' := [(0, .ref o0)]) [0] rfl ?_
    exact kX12_lived_b9 hC hR0 hR  h
  · have h := h.2 c_13
    refine g_iload_n (pc := 4) hC 1 dX12_lived_4 rfl rfl ?_
    refine g_iconst (pc := 5) (v := 4) hC dX12_lived_5 (by decide) ?_
    refine g_icmp_le (pc := 6) (tgt := 15) hC dX12_lived_6 (by decide) (fun c_14 => ?_) (fun c_14 => ?_)
    · have h := h.1 c_14
      refine g_aload_n (pc := 15) hC 0 dX12_lived_15 rfl rfl ?_
      refine getX12_38 (pc := 16) hC (F := fun Z => Z) (X := []) (fun _ => rfl) fl_X12_461 dX12_lived_16 ?_
      refine g_if_eq (pc := 19) (tgt := 35) hC dX12_lived_19 (by decide) (fun c_15 => ?_) (fun c_15 => ?_)
      · have h := h.1 c_15
        refine g_aload_n (pc := 35) hC 0 dX12_lived_35 rfl rfl ?_
        refine g_bipush (pc := 36) (v := 6) hC dX12_lived_36 (by decide) ?_
        refine g_callV_i (pc := 38) (wd := fun (u : St) Y => (wX12 o0 a0 (xy C) u Y)) (F := fun Z => Z) (X := []) (As := [.int (6 : Int32)]) (rest := []) (u := u0) hC (fun _ _ => rfl) (fun _ => rfl) (ctX12_refuse h) wvX12_refuse ml_X12_88 (ci := 10) (q0 := 0) rfl rfl rfl rfl (rmok hR0 rfl) ⟨Nat.zero_le _, Nat.zero_le _⟩ rfl (Nat.le_of_ble_eq_true rfl) dX12_lived_38 (fun r_17 u_16 h => ?_)
        refine g_sub (lv' := []) [] rfl ?_
        exact kX12_lived_b41 hC hR0 hR  h
      · have h := h.2 c_15
        refine g_aload_n (pc := 22) hC 0 dX12_lived_22 rfl rfl ?_
        refine g_aload_n (pc := 23) hC 0 dX12_lived_23 rfl rfl ?_
        refine getX12_37 (pc := 24) hC (F := fun Z => Z) (X := []) (fun _ => rfl) fl_X12_75 dX12_lived_24 ?_
        refine g_iload_n (pc := 27) hC 1 dX12_lived_27 rfl rfl ?_
        refine aldX12_37 (pc := 28) hC (F := fun Z => Z) (X := []) (fun _ => rfl) h.1 dX12_lived_28 ?_
        have h := h.2
        refine g_callV_i (pc := 29) (wd := fun (u : St) Y => (wX12 o0 a0 (xy C) u Y)) (F := fun Z => Z) (X := []) (As := [.int (ga u0 37 (x1).toNatClampNeg)]) (rest := []) (u := u0) hC (fun _ _ => rfl) (fun _ => rfl) (ctX12_gives h) wvX12_gives ml_X12_92 (ci := 10) (q0 := 0) rfl rfl rfl rfl (rmok hR0 rfl) ⟨Nat.zero_le _, Nat.zero_le _⟩ rfl (Nat.le_of_ble_eq_true rfl) dX12_lived_29 (fun r_20 u_19 h => ?_)
        refine g_goto (pc := 32) (tgt := 41) hC dX12_lived_32 (by decide) ?_
        refine g_sub (lv' := []) [] rfl ?_
        exact kX12_lived_b41 hC hR0 hR  h
    · have h := h.2 c_14
      refine g_sub (lv' := [(0, .ref o0)]) [0] rfl ?_
      exact kX12_lived_b9 hC hR0 hR  h
theorem ctX12_lived {l : Launch} {D : va_G} {cy : Nat → ClassId} {kd : Nat → Nat} {o0 : Nat} {a0 : Nat → Nat} {x1 : Int32} {u0 : St} {post : Int32 → St → Prop} (h : qX12_lived x1 u0 post) : CtI l D cy kd yX12_lived cX12_lived 2 2 .int [.ref o0, .int x1] (fun u : St => (wX12 o0 a0 cy u [])) u0 (fun r u => post r u) := met_i (by decide) (Nat.le_of_ble_eq_true rfl) (fun C e1 e2 e3 e4 e5 hC hR => by subst e1 e2 e3 e4; exact kX12_lived hC e5 hR h)
theorem dX12_mean_0 : decode cX12_mean 0 = .ok (.iload_n 1, 1) := by decide +kernel
theorem dX12_mean_1 : decode cX12_mean 1 = .ok (.i2l, 1) := by decide +kernel
theorem dX12_mean_2 : decode cX12_mean 2 = .ok (.lconst 0, 1) := by decide +kernel
theorem dX12_mean_3 : decode cX12_mean 3 = .ok (.ldc2_w 390, 3) := by decide +kernel
theorem dX12_mean_6 : decode cX12_mean 6 = .ok (.invokestatic 315, 3) := by decide +kernel
theorem dX12_mean_9 : decode cX12_mean 9 = .ok (.ifCond .eq 26, 3) := by decide +kernel
theorem dX12_mean_12 : decode cX12_mean 12 = .ok (.iload_n 2, 1) := by decide +kernel
theorem dX12_mean_13 : decode cX12_mean 13 = .ok (.i2l, 1) := by decide +kernel
theorem dX12_mean_14 : decode cX12_mean 14 = .ok (.lconst 1, 1) := by decide +kernel
theorem dX12_mean_15 : decode cX12_mean 15 = .ok (.ldc2_w 400, 3) := by decide +kernel
theorem dX12_mean_18 : decode cX12_mean 18 = .ok (.invokestatic 315, 3) := by decide +kernel
theorem dX12_mean_21 : decode cX12_mean 21 = .ok (.ifCond .eq 14, 3) := by decide +kernel
theorem dX12_mean_24 : decode cX12_mean 24 = .ok (.iload_n 1, 1) := by decide +kernel
theorem dX12_mean_25 : decode cX12_mean 25 = .ok (.iload_n 2, 1) := by decide +kernel
theorem dX12_mean_26 : decode cX12_mean 26 = .ok (.iadd, 1) := by decide +kernel
theorem dX12_mean_27 : decode cX12_mean 27 = .ok (.iconst 1, 1) := by decide +kernel
theorem dX12_mean_28 : decode cX12_mean 28 = .ok (.isub, 1) := by decide +kernel
theorem dX12_mean_29 : decode cX12_mean 29 = .ok (.sipush 9999, 3) := by decide +kernel
theorem dX12_mean_32 : decode cX12_mean 32 = .ok (.if_icmp .le 9, 3) := by decide +kernel
theorem dX12_mean_35 : decode cX12_mean 35 = .ok (.aload_n 0, 1) := by decide +kernel
theorem dX12_mean_36 : decode cX12_mean 36 = .ok (.iconst 1, 1) := by decide +kernel
theorem dX12_mean_37 : decode cX12_mean 37 = .ok (.invokevirtual 95, 3) := by decide +kernel
theorem dX12_mean_40 : decode cX12_mean 40 = .ok (.ireturn, 1) := by decide +kernel
theorem dX12_mean_41 : decode cX12_mean 41 = .ok (.aload_n 0, 1) := by decide +kernel
theorem dX12_mean_42 : decode cX12_mean 42 = .ok (.getfield 7, 3) := by decide +kernel
theorem dX12_mean_45 : decode cX12_mean 45 = .ok (.bipush 7, 2) := by decide +kernel
theorem dX12_mean_47 : decode cX12_mean 47 = .ok (.iaload, 1) := by decide +kernel
theorem dX12_mean_48 : decode cX12_mean 48 = .ok (.iconst (-1), 1) := by decide +kernel
theorem dX12_mean_49 : decode cX12_mean 49 = .ok (.if_icmp .ne 10, 3) := by decide +kernel
theorem dX12_mean_52 : decode cX12_mean 52 = .ok (.aload_n 0, 1) := by decide +kernel
theorem dX12_mean_53 : decode cX12_mean 53 = .ok (.bipush 6, 2) := by decide +kernel
theorem dX12_mean_55 : decode cX12_mean 55 = .ok (.invokevirtual 95, 3) := by decide +kernel
theorem dX12_mean_58 : decode cX12_mean 58 = .ok (.ireturn, 1) := by decide +kernel
theorem dX12_mean_59 : decode cX12_mean 59 = .ok (.aload_n 0, 1) := by decide +kernel
theorem dX12_mean_60 : decode cX12_mean 60 = .ok (.sipush 2280, 3) := by decide +kernel
theorem dX12_mean_63 : decode cX12_mean 63 = .ok (.invokevirtual 352, 3) := by decide +kernel
theorem dX12_mean_66 : decode cX12_mean 66 = .ok (.lconst 0, 1) := by decide +kernel
theorem dX12_mean_67 : decode cX12_mean 67 = .ok (.lstore_n 3, 1) := by decide +kernel
theorem dX12_mean_68 : decode cX12_mean 68 = .ok (.iconst 0, 1) := by decide +kernel
theorem dX12_mean_69 : decode cX12_mean 69 = .ok (.istore 5, 2) := by decide +kernel
theorem dX12_mean_71 : decode cX12_mean 71 = .ok (.iload 5, 2) := by decide +kernel
theorem dX12_mean_73 : decode cX12_mean 73 = .ok (.iload_n 2, 1) := by decide +kernel
theorem dX12_mean_74 : decode cX12_mean 74 = .ok (.if_icmp .ge 35, 3) := by decide +kernel
theorem dX12_mean_77 : decode cX12_mean 77 = .ok (.aload_n 0, 1) := by decide +kernel
theorem dX12_mean_78 : decode cX12_mean 78 = .ok (.iload_n 1, 1) := by decide +kernel
theorem dX12_mean_79 : decode cX12_mean 79 = .ok (.iload 5, 2) := by decide +kernel
theorem dX12_mean_81 : decode cX12_mean 81 = .ok (.iadd, 1) := by decide +kernel
theorem dX12_mean_82 : decode cX12_mean 82 = .ok (.invokevirtual 458, 3) := by decide +kernel
theorem dX12_mean_85 : decode cX12_mean 85 = .ok (.lload_n 3, 1) := by decide +kernel
theorem dX12_mean_86 : decode cX12_mean 86 = .ok (.aload_n 0, 1) := by decide +kernel
theorem dX12_mean_87 : decode cX12_mean 87 = .ok (.invokevirtual 279, 3) := by decide +kernel
theorem dX12_mean_90 : decode cX12_mean 90 = .ok (.invokestatic 276, 3) := by decide +kernel
theorem dX12_mean_93 : decode cX12_mean 93 = .ok (.i2l, 1) := by decide +kernel
theorem dX12_mean_94 : decode cX12_mean 94 = .ok (.ladd, 1) := by decide +kernel
theorem dX12_mean_95 : decode cX12_mean 95 = .ok (.lstore_n 3, 1) := by decide +kernel
theorem dX12_mean_96 : decode cX12_mean 96 = .ok (.aload_n 0, 1) := by decide +kernel
theorem dX12_mean_97 : decode cX12_mean 97 = .ok (.sipush 2280, 3) := by decide +kernel
theorem dX12_mean_100 : decode cX12_mean 100 = .ok (.invokevirtual 355, 3) := by decide +kernel
theorem dX12_mean_103 : decode cX12_mean 103 = .ok (.iinc 5 1, 3) := by decide +kernel
theorem dX12_mean_106 : decode cX12_mean 106 = .ok (.goto (-35), 3) := by decide +kernel
theorem dX12_mean_109 : decode cX12_mean 109 = .ok (.aload_n 0, 1) := by decide +kernel
theorem dX12_mean_110 : decode cX12_mean 110 = .ok (.lload_n 3, 1) := by decide +kernel
theorem dX12_mean_111 : decode cX12_mean 111 = .ok (.iload_n 2, 1) := by decide +kernel
theorem dX12_mean_112 : decode cX12_mean 112 = .ok (.i2l, 1) := by decide +kernel
theorem dX12_mean_113 : decode cX12_mean 113 = .ok (.invokevirtual 396, 3) := by decide +kernel
theorem dX12_mean_116 : decode cX12_mean 116 = .ok (.ireturn, 1) := by decide +kernel
def qX12_mean_b35  (post : Int32 → St → Prop)  (u0 : St) : Prop := qX12_is (1 : Int32) u0 (fun r_27 u_26 => (bz r_27 ∧ post r_27 u_26))
set_option maxRecDepth 100000 in
set_option maxHeartbeats 4000000 in
theorem kX12_mean_b35 {C : Cx} {o0 : Nat} {a0 : Nat → Nat} (hC : Fx C cX12_mean 6 RX12) (hR0 : xR C = rm 13) {post : Int32 → St → Prop} (hR : RZ C cX12_mean 6 (fun u : St => (wX12 o0 a0 (xy C) u [])) (fun r u => post r u))  {u0 : St} (h : qX12_mean_b35 post u0) : G C 0 0 6 (wX12 o0 a0 (xy C) u0 []) 35 [(0, .ref o0)] [] := by
  refine g_aload_n (pc := 35) hC 0 dX12_mean_35 rfl rfl ?_
  refine g_iconst (pc := 36) (v := 1) hC dX12_mean_36 (by decide) ?_
  refine g_callV_i (pc := 37) (wd := fun (u : St) Y => (wX12 o0 a0 (xy C) u Y)) (F := fun Z => Z) (X := []) (As := [.int (1 : Int32)]) (rest := []) (u := u0) hC (fun _ _ => rfl) (fun _ => rfl) (ctX12_is h) wvX12_is ml_X12_95 (ci := 10) (q0 := 0) rfl rfl rfl rfl (rmok hR0 rfl) ⟨Nat.zero_le _, Nat.zero_le _⟩ rfl (Nat.le_of_ble_eq_true rfl) dX12_mean_37 (fun r_27 u_26 h => ?_)
  exact hR _ _ _ u_26 dX12_mean_40 h.1 h.2
def qX12_mean_b109  (post : Int32 → St → Prop)  (x2 : Int32) (x3 : Int64) (u0 : St) : Prop := qX12_tellsBy x3 (x2).toInt64 u0 (fun r_30 u_29 => (bz r_30 ∧ post r_30 u_29))
set_option maxRecDepth 100000 in
set_option maxHeartbeats 4000000 in
theorem kX12_mean_b109 {C : Cx} {o0 : Nat} {a0 : Nat → Nat} (hC : Fx C cX12_mean 6 RX12) (hR0 : xR C = rm 13) {post : Int32 → St → Prop} (hR : RZ C cX12_mean 6 (fun u : St => (wX12 o0 a0 (xy C) u [])) (fun r u => post r u))  {x2 : Int32} {x3 : Int64} {u0 : St} (h : qX12_mean_b109 post x2 x3 u0) : G C 0 0 6 (wX12 o0 a0 (xy C) u0 []) 109 [(0, .ref o0), (2, .int x2), (3, .long x3)] [] := by
  refine g_aload_n (pc := 109) hC 0 dX12_mean_109 rfl rfl ?_
  refine g_lload_n (pc := 110) hC 2 dX12_mean_110 rfl rfl ?_
  refine g_iload_n (pc := 111) hC 1 dX12_mean_111 rfl rfl ?_
  refine g_i2l (pc := 112) hC dX12_mean_112 ?_
  refine g_callV_i (pc := 113) (wd := fun (u : St) Y => (wX12 o0 a0 (xy C) u Y)) (F := fun Z => Z) (X := []) (As := [.long x3, .long (x2).toInt64]) (rest := []) (u := u0) hC (fun _ _ => rfl) (fun _ => rfl) (ctX12_tellsBy h) wvX12_tellsBy ml_X12_396 (ci := 10) (q0 := 0) rfl rfl rfl rfl (rmok hR0 rfl) ⟨Nat.zero_le _, Nat.zero_le _⟩ rfl (Nat.le_of_ble_eq_true rfl) dX12_mean_113 (fun r_30 u_29 h => ?_)
  exact hR _ _ _ u_29 dX12_mean_116 h.1 h.2
def qX12_mean_l71  (post : Int32 → St → Prop) (K71 : Int32 → Int32 → Int64 → Int32 → St → Prop) (x1 : Int32) (x2 : Int32) (x3 : Int64) (x5 : Int32) (u0 : St) : Prop := ((x2 ≤ x5 → qX12_mean_b109 post x2 x3 u0) ∧ (¬ x2 ≤ x5 → qX12_lives (x1 + x5) u0 (fun u_33 => qX12_standsNow u_33 (fun r_36 u_35 => qX12_bits r_36 (fun r_38 => ∀ x3_40 : Int64, x3_40 = (x3 + (r_38).toInt64) → qX12_restores (2280 : Int32) u_35 (fun u_41 => ∀ x5_43 : Int32, x5_43 = x5 + (1 : Int32) → K71 x1 x2 x3_40 x5_43 u_41))))))
set_option maxRecDepth 100000 in
set_option maxHeartbeats 4000000 in
theorem kX12_mean_l71 {C : Cx} {o0 : Nat} {a0 : Nat → Nat} (hC : Fx C cX12_mean 6 RX12) (hR0 : xR C = rm 13) {post : Int32 → St → Prop} (hR : RZ C cX12_mean 6 (fun u : St => (wX12 o0 a0 (xy C) u [])) (fun r u => post r u))  {K71 : Int32 → Int32 → Int64 → Int32 → St → Prop} (hK71 : ∀ (x1 : Int32) (x2 : Int32) (x3 : Int64) (x5 : Int32) (u0 : St), K71 x1 x2 x3 x5 u0 → G C 0 0 6 (wX12 o0 a0 (xy C) u0 []) 71 [(0, .ref o0), (1, .int x1), (2, .int x2), (3, .long x3), (5, .int x5)] []) {x1 : Int32} {x2 : Int32} {x3 : Int64} {x5 : Int32} {u0 : St} (h : qX12_mean_l71 post K71 x1 x2 x3 x5 u0) : G C 0 0 6 (wX12 o0 a0 (xy C) u0 []) 71 [(0, .ref o0), (1, .int x1), (2, .int x2), (3, .long x3), (5, .int x5)] [] := by
  refine g_iload (pc := 71) hC 4 dX12_mean_71 rfl ?_
  refine g_iload_n (pc := 73) hC 2 dX12_mean_73 rfl rfl ?_
  refine g_icmp_ge (pc := 74) (tgt := 109) hC dX12_mean_74 (by decide) (fun c_32 => ?_) (fun c_32 => ?_)
  · have h := h.1 c_32
    refine g_sub (lv' := [(0, .ref o0), (2, .int x2), (3, .long x3)]) [0, 2, 3] rfl ?_
    exact kX12_mean_b109 hC hR0 hR  h
  · have h := h.2 c_32
    refine g_aload_n (pc := 77) hC 0 dX12_mean_77 rfl rfl ?_
    refine g_iload_n (pc := 78) hC 1 dX12_mean_78 rfl rfl ?_
    refine g_iload (pc := 79) hC 4 dX12_mean_79 rfl ?_
    refine g_iadd (pc := 81) hC dX12_mean_81 ?_
    refine g_callV_v (pc := 82) (wd := fun (u : St) Y => (wX12 o0 a0 (xy C) u Y)) (F := fun Z => Z) (X := []) (As := [.int (x1 + x5)]) (rest := []) (u := u0) hC (fun _ _ => rfl) (fun _ => rfl) (ctX12_lives h) wvX12_lives ml_X12_458 (ci := 10) (q0 := 0) rfl rfl rfl rfl (rmok hR0 rfl) ⟨Nat.zero_le _, Nat.zero_le _⟩ rfl (Nat.le_of_ble_eq_true rfl) dX12_mean_82 (fun u_33 h => ?_)
    refine g_lload_n (pc := 85) hC 3 dX12_mean_85 rfl rfl ?_
    refine g_aload_n (pc := 86) hC 0 dX12_mean_86 rfl rfl ?_
    refine g_callV_i (pc := 87) (wd := fun (u : St) Y => (wX12 o0 a0 (xy C) u Y)) (F := fun Z => Z) (X := []) (As := []) (rest := [.long x3]) (u := u_33) hC (fun _ _ => rfl) (fun _ => rfl) (ctX12_standsNow h) wvX12_standsNow ml_X12_279 (ci := 10) (q0 := 0) rfl rfl rfl rfl (rmok hR0 rfl) ⟨Nat.zero_le _, Nat.zero_le _⟩ rfl (Nat.le_of_ble_eq_true rfl) dX12_mean_87 (fun r_36 u_35 h => ?_)
    refine g_callS_i (pc := 90) (wd := fun (_ : Unit) Y => Y) (F := fun Z => Z) (X := []) (As := [.int r_36]) (rest := [.long x3]) (u := ()) hC (fun _ _ => rfl) (fun _ => rfl) (ctX12_bits h) wvX12_bits ml_X12_276 rfl (rmok hR0 rfl) ⟨Nat.zero_le _, Nat.zero_le _⟩ rfl (Nat.le_of_ble_eq_true rfl) dX12_mean_90 (fun r_38 u_39 h => ?_)
    refine g_i2l (pc := 93) hC dX12_mean_93 ?_
    refine g_ladd (pc := 94) hC dX12_mean_94 ?_
    refine g_topl (fun x3_40 ex3_40 => ?_)
    have h := h x3_40 ex3_40
    refine g_lstore_n (pc := 95) (lv' := [(3, .long x3_40), (0, .ref o0), (1, .int x1), (2, .int x2), (5, .int x5)]) hC dX12_mean_95 rfl (Nat.le_of_ble_eq_true rfl) rfl ?_
    refine g_aload_n (pc := 96) hC 1 dX12_mean_96 rfl rfl ?_
    refine g_sipush (pc := 97) (v := 2280) hC dX12_mean_97 (by decide) ?_
    refine g_callV_v (pc := 100) (wd := fun (u : St) Y => (wX12 o0 a0 (xy C) u Y)) (F := fun Z => Z) (X := []) (As := [.int (2280 : Int32)]) (rest := []) (u := u_35) hC (fun _ _ => rfl) (fun _ => rfl) (ctX12_restores h) wvX12_restores ml_X12_355 (ci := 10) (q0 := 0) rfl rfl rfl rfl (rmok hR0 rfl) ⟨Nat.zero_le _, Nat.zero_le _⟩ rfl (Nat.le_of_ble_eq_true rfl) dX12_mean_100 (fun u_41 h => ?_)
    obtain ⟨x5_43, ex5_43⟩ : ∃ z : Int32, z = x5 + (1 : Int32) := ⟨_, rfl⟩
    have h := h x5_43 ex5_43
    refine g_iinc (pc := 103) (v := x5_43) (lv' := [(5, .int x5_43), (3, .long x3_40), (0, .ref o0), (1, .int x1), (2, .int x2)]) hC 4 dX12_mean_103 rfl (by rw [ex5_43]; rfl) (Nat.le_of_ble_eq_true rfl) rfl ?_
    refine g_goto (pc := 106) (tgt := 71) hC dX12_mean_106 (by decide) ?_
    refine g_sub (lv' := [(0, .ref o0), (1, .int x1), (2, .int x2), (3, .long x3_40), (5, .int x5_43)]) [2, 3, 4, 1, 0] rfl ?_
    exact hK71 _ _ _ _ _ h
def qX12_mean_L71  (post : Int32 → St → Prop)  : Nat → Int32 → Int32 → Int64 → Int32 → St → Prop
  | 0 => fun _ _ _ _ _ => False
  | n + 1 => qX12_mean_l71 post (qX12_mean_L71 post n)
theorem kX12_mean_L71 {C : Cx} {o0 : Nat} {a0 : Nat → Nat} (hC : Fx C cX12_mean 6 RX12) (hR0 : xR C = rm 13) {post : Int32 → St → Prop} (hR : RZ C cX12_mean 6 (fun u : St => (wX12 o0 a0 (xy C) u [])) (fun r u => post r u))  : ∀ (n : Nat) (x1 : Int32) (x2 : Int32) (x3 : Int64) (x5 : Int32) (u0 : St), qX12_mean_L71 post n x1 x2 x3 x5 u0 → G C 0 0 6 (wX12 o0 a0 (xy C) u0 []) 71 [(0, .ref o0), (1, .int x1), (2, .int x2), (3, .long x3), (5, .int x5)] [] := by
  intro n
  induction n with
  | zero => intro x1 x2 x3 x5 u0 h; exact h.elim
  | succ n ih => intro x1 x2 x3 x5 u0 h; exact kX12_mean_l71 hC hR0 hR  ih h
def qX12_mean (x1 : Int32) (x2 : Int32) (u0 : St) (post : Int32 → St → Prop) : Prop := qX12_isFrom (x1).toInt64 (0 : Int64) (9999 : Int64) (fun r_44 => ((r_44 = 0 → qX12_mean_b35 post u0) ∧ (¬ r_44 = 0 → qX12_isFrom (x2).toInt64 (1 : Int64) (20 : Int64) (fun r_47 => ((r_47 = 0 → qX12_mean_b35 post u0) ∧ (¬ r_47 = 0 → ((((x1 + x2) - (1 : Int32)) ≤ (9999 : Int32) → ((¬ (ga u0 0 ((7 : Int32)).toNatClampNeg) = (-1 : Int32) → qX12_keeps (2280 : Int32) u0 (fun u_52 => ∃ n_54 : Nat, qX12_mean_L71 post n_54 x1 x2 (0 : Int64) (0 : Int32) u_52)) ∧ ((ga u0 0 ((7 : Int32)).toNatClampNeg) = (-1 : Int32) → qX12_is (6 : Int32) u0 (fun r_56 u_55 => (bz r_56 ∧ post r_56 u_55))))) ∧ (¬ ((x1 + x2) - (1 : Int32)) ≤ (9999 : Int32) → qX12_mean_b35 post u0))))))))
set_option maxRecDepth 100000 in
set_option maxHeartbeats 4000000 in
theorem kX12_mean {C : Cx} {o0 : Nat} {a0 : Nat → Nat} (hC : Fx C cX12_mean 6 RX12) (hR0 : xR C = rm 13) {post : Int32 → St → Prop} (hR : RZ C cX12_mean 6 (fun u : St => (wX12 o0 a0 (xy C) u [])) (fun r u => post r u)) {x1 : Int32} {x2 : Int32} {u0 : St} (h : qX12_mean x1 x2 u0 post) : G C 0 0 6 (wX12 o0 a0 (xy C) u0 []) 0 [(0, .ref o0), (1, .int x1), (2, .int x2)] [] := by
  refine g_iload_n (pc := 0) hC 1 dX12_mean_0 rfl rfl ?_
  refine g_i2l (pc := 1) hC dX12_mean_1 ?_
  refine g_lconst (pc := 2) (v := 0) hC dX12_mean_2 (by decide) ?_
  refine g_ldc2 (pc := 3) hC cn_X12_390 dX12_mean_3 ?_
  refine g_callS_i (pc := 6) (wd := fun (_ : Unit) Y => Y) (F := fun Z => Z) (X := []) (As := [.long (x1).toInt64, .long (0 : Int64), .long (9999 : Int64)]) (rest := []) (u := ()) hC (fun _ _ => rfl) (fun _ => rfl) (ctX12_isFrom h) wvX12_isFrom ml_X12_315 rfl (rmok hR0 rfl) ⟨Nat.zero_le _, Nat.zero_le _⟩ rfl (Nat.le_of_ble_eq_true rfl) dX12_mean_6 (fun r_44 u_45 h => ?_)
  refine g_if_eq (pc := 9) (tgt := 35) hC dX12_mean_9 (by decide) (fun c_46 => ?_) (fun c_46 => ?_)
  · have h := h.1 c_46
    refine g_sub (lv' := [(0, .ref o0)]) [0] rfl ?_
    exact kX12_mean_b35 hC hR0 hR  h
  · have h := h.2 c_46
    refine g_iload_n (pc := 12) hC 2 dX12_mean_12 rfl rfl ?_
    refine g_i2l (pc := 13) hC dX12_mean_13 ?_
    refine g_lconst (pc := 14) (v := 1) hC dX12_mean_14 (by decide) ?_
    refine g_ldc2 (pc := 15) hC cn_X12_400 dX12_mean_15 ?_
    refine g_callS_i (pc := 18) (wd := fun (_ : Unit) Y => Y) (F := fun Z => Z) (X := []) (As := [.long (x2).toInt64, .long (1 : Int64), .long (20 : Int64)]) (rest := []) (u := ()) hC (fun _ _ => rfl) (fun _ => rfl) (ctX12_isFrom h) wvX12_isFrom ml_X12_315 rfl (rmok hR0 rfl) ⟨Nat.zero_le _, Nat.zero_le _⟩ rfl (Nat.le_of_ble_eq_true rfl) dX12_mean_18 (fun r_47 u_48 h => ?_)
    refine g_if_eq (pc := 21) (tgt := 35) hC dX12_mean_21 (by decide) (fun c_49 => ?_) (fun c_49 => ?_)
    · have h := h.1 c_49
      refine g_sub (lv' := [(0, .ref o0)]) [0] rfl ?_
      exact kX12_mean_b35 hC hR0 hR  h
    · have h := h.2 c_49
      refine g_iload_n (pc := 24) hC 1 dX12_mean_24 rfl rfl ?_
      refine g_iload_n (pc := 25) hC 2 dX12_mean_25 rfl rfl ?_
      refine g_iadd (pc := 26) hC dX12_mean_26 ?_
      refine g_iconst (pc := 27) (v := 1) hC dX12_mean_27 (by decide) ?_
      refine g_isub (pc := 28) hC dX12_mean_28 ?_
      refine g_sipush (pc := 29) (v := 9999) hC dX12_mean_29 (by decide) ?_
      refine g_icmp_le (pc := 32) (tgt := 41) hC dX12_mean_32 (by decide) (fun c_50 => ?_) (fun c_50 => ?_)
      · have h := h.1 c_50
        refine g_aload_n (pc := 41) hC 0 dX12_mean_41 rfl rfl ?_
        refine getX12_0 (pc := 42) hC (F := fun Z => Z) (X := []) (fun _ => rfl) fl_X12_7 dX12_mean_42 ?_
        refine g_bipush (pc := 45) (v := 7) hC dX12_mean_45 (by decide) ?_
        refine aldX12_0 (pc := 47) hC (F := fun Z => Z) (X := []) (fun _ => rfl) (by unfold vp_in; decide) dX12_mean_47 ?_
        refine g_iconst (pc := 48) (v := -1) hC dX12_mean_48 (by decide) ?_
        refine g_icmp_ne (pc := 49) (tgt := 59) hC dX12_mean_49 (by decide) (fun c_51 => ?_) (fun c_51 => ?_)
        · have h := h.1 c_51
          refine g_aload_n (pc := 59) hC 0 dX12_mean_59 rfl rfl ?_
          refine g_sipush (pc := 60) (v := 2280) hC dX12_mean_60 (by decide) ?_
          refine g_callV_v (pc := 63) (wd := fun (u : St) Y => (wX12 o0 a0 (xy C) u Y)) (F := fun Z => Z) (X := []) (As := [.int (2280 : Int32)]) (rest := []) (u := u0) hC (fun _ _ => rfl) (fun _ => rfl) (ctX12_keeps h) wvX12_keeps ml_X12_352 (ci := 10) (q0 := 0) rfl rfl rfl rfl (rmok hR0 rfl) ⟨Nat.zero_le _, Nat.zero_le _⟩ rfl (Nat.le_of_ble_eq_true rfl) dX12_mean_63 (fun u_52 h => ?_)
          refine g_lconst (pc := 66) (v := 0) hC dX12_mean_66 (by decide) ?_
          refine g_lstore_n (pc := 67) (lv' := [(3, .long (0 : Int64)), (0, .ref o0), (1, .int x1), (2, .int x2)]) hC dX12_mean_67 rfl (Nat.le_of_ble_eq_true rfl) rfl ?_
          refine g_iconst (pc := 68) (v := 0) hC dX12_mean_68 (by decide) ?_
          refine g_istore (pc := 69) (lv' := [(5, .int (0 : Int32)), (3, .long (0 : Int64)), (0, .ref o0), (1, .int x1), (2, .int x2)]) hC dX12_mean_69 (Nat.le_of_ble_eq_true rfl) rfl ?_
          refine g_sub (lv' := [(0, .ref o0), (1, .int x1), (2, .int x2), (3, .long (0 : Int64)), (5, .int (0 : Int32))]) [2, 3, 4, 1, 0] rfl ?_
          obtain ⟨n_54, h⟩ := h
          exact kX12_mean_L71 hC hR0 hR  n_54 _ _ _ _ _ h
        · have h := h.2 c_51
          refine g_aload_n (pc := 52) hC 0 dX12_mean_52 rfl rfl ?_
          refine g_bipush (pc := 53) (v := 6) hC dX12_mean_53 (by decide) ?_
          refine g_callV_i (pc := 55) (wd := fun (u : St) Y => (wX12 o0 a0 (xy C) u Y)) (F := fun Z => Z) (X := []) (As := [.int (6 : Int32)]) (rest := []) (u := u0) hC (fun _ _ => rfl) (fun _ => rfl) (ctX12_is h) wvX12_is ml_X12_95 (ci := 10) (q0 := 0) rfl rfl rfl rfl (rmok hR0 rfl) ⟨Nat.zero_le _, Nat.zero_le _⟩ rfl (Nat.le_of_ble_eq_true rfl) dX12_mean_55 (fun r_56 u_55 h => ?_)
          exact hR _ _ _ u_55 dX12_mean_58 h.1 h.2
      · have h := h.2 c_50
        refine g_sub (lv' := [(0, .ref o0)]) [0] rfl ?_
        exact kX12_mean_b35 hC hR0 hR  h
theorem ctX12_mean {l : Launch} {D : va_G} {cy : Nat → ClassId} {kd : Nat → Nat} {o0 : Nat} {a0 : Nat → Nat} {x1 : Int32} {x2 : Int32} {u0 : St} {post : Int32 → St → Prop} (h : qX12_mean x1 x2 u0 post) : CtI l D cy kd yX12_mean cX12_mean 6 13 .boolean [.ref o0, .int x1, .int x2] (fun u : St => (wX12 o0 a0 cy u [])) u0 (fun r u => post r u) := met_z (by decide) (Nat.le_of_ble_eq_true rfl) (fun C e1 e2 e3 e4 e5 hC hR => by subst e1 e2 e3 e4; exact kX12_mean hC e5 hR h)
theorem dX12_copies_0 : decode cX12_copies 0 = .ok (.iconst 0, 1) := by decide +kernel
theorem dX12_copies_1 : decode cX12_copies 1 = .ok (.istore_n 3, 1) := by decide +kernel
theorem dX12_copies_2 : decode cX12_copies 2 = .ok (.iload_n 3, 1) := by decide +kernel
theorem dX12_copies_3 : decode cX12_copies 3 = .ok (.sipush 456, 3) := by decide +kernel
theorem dX12_copies_6 : decode cX12_copies 6 = .ok (.if_icmp .ge 33, 3) := by decide +kernel
theorem dX12_copies_9 : decode cX12_copies 9 = .ok (.aload_n 0, 1) := by decide +kernel
theorem dX12_copies_10 : decode cX12_copies 10 = .ok (.getfield 7, 3) := by decide +kernel
theorem dX12_copies_13 : decode cX12_copies 13 = .ok (.sipush 456, 3) := by decide +kernel
theorem dX12_copies_16 : decode cX12_copies 16 = .ok (.iload_n 2, 1) := by decide +kernel
theorem dX12_copies_17 : decode cX12_copies 17 = .ok (.imul, 1) := by decide +kernel
theorem dX12_copies_18 : decode cX12_copies 18 = .ok (.iload_n 3, 1) := by decide +kernel
theorem dX12_copies_19 : decode cX12_copies 19 = .ok (.iadd, 1) := by decide +kernel
theorem dX12_copies_20 : decode cX12_copies 20 = .ok (.aload_n 0, 1) := by decide +kernel
theorem dX12_copies_21 : decode cX12_copies 21 = .ok (.getfield 7, 3) := by decide +kernel
theorem dX12_copies_24 : decode cX12_copies 24 = .ok (.sipush 456, 3) := by decide +kernel
theorem dX12_copies_27 : decode cX12_copies 27 = .ok (.iload_n 1, 1) := by decide +kernel
theorem dX12_copies_28 : decode cX12_copies 28 = .ok (.imul, 1) := by decide +kernel
theorem dX12_copies_29 : decode cX12_copies 29 = .ok (.iload_n 3, 1) := by decide +kernel
theorem dX12_copies_30 : decode cX12_copies 30 = .ok (.iadd, 1) := by decide +kernel
theorem dX12_copies_31 : decode cX12_copies 31 = .ok (.iaload, 1) := by decide +kernel
theorem dX12_copies_32 : decode cX12_copies 32 = .ok (.iastore, 1) := by decide +kernel
theorem dX12_copies_33 : decode cX12_copies 33 = .ok (.iinc 3 1, 3) := by decide +kernel
theorem dX12_copies_36 : decode cX12_copies 36 = .ok (.goto (-34), 3) := by decide +kernel
theorem dX12_copies_39 : decode cX12_copies 39 = .ok (.iconst 0, 1) := by decide +kernel
theorem dX12_copies_40 : decode cX12_copies 40 = .ok (.istore_n 3, 1) := by decide +kernel
theorem dX12_copies_41 : decode cX12_copies 41 = .ok (.iload_n 3, 1) := by decide +kernel
theorem dX12_copies_42 : decode cX12_copies 42 = .ok (.iconst 5, 1) := by decide +kernel
theorem dX12_copies_43 : decode cX12_copies 43 = .ok (.if_icmp .ge 29, 3) := by decide +kernel
theorem dX12_copies_46 : decode cX12_copies 46 = .ok (.aload_n 0, 1) := by decide +kernel
theorem dX12_copies_47 : decode cX12_copies 47 = .ok (.getfield 13, 3) := by decide +kernel
theorem dX12_copies_50 : decode cX12_copies 50 = .ok (.iconst 5, 1) := by decide +kernel
theorem dX12_copies_51 : decode cX12_copies 51 = .ok (.iload_n 2, 1) := by decide +kernel
theorem dX12_copies_52 : decode cX12_copies 52 = .ok (.imul, 1) := by decide +kernel
theorem dX12_copies_53 : decode cX12_copies 53 = .ok (.iload_n 3, 1) := by decide +kernel
theorem dX12_copies_54 : decode cX12_copies 54 = .ok (.iadd, 1) := by decide +kernel
theorem dX12_copies_55 : decode cX12_copies 55 = .ok (.aload_n 0, 1) := by decide +kernel
theorem dX12_copies_56 : decode cX12_copies 56 = .ok (.getfield 13, 3) := by decide +kernel
theorem dX12_copies_59 : decode cX12_copies 59 = .ok (.iconst 5, 1) := by decide +kernel
theorem dX12_copies_60 : decode cX12_copies 60 = .ok (.iload_n 1, 1) := by decide +kernel
theorem dX12_copies_61 : decode cX12_copies 61 = .ok (.imul, 1) := by decide +kernel
theorem dX12_copies_62 : decode cX12_copies 62 = .ok (.iload_n 3, 1) := by decide +kernel
theorem dX12_copies_63 : decode cX12_copies 63 = .ok (.iadd, 1) := by decide +kernel
theorem dX12_copies_64 : decode cX12_copies 64 = .ok (.laload, 1) := by decide +kernel
theorem dX12_copies_65 : decode cX12_copies 65 = .ok (.lastore, 1) := by decide +kernel
theorem dX12_copies_66 : decode cX12_copies 66 = .ok (.iinc 3 1, 3) := by decide +kernel
theorem dX12_copies_69 : decode cX12_copies 69 = .ok (.goto (-28), 3) := by decide +kernel
theorem dX12_copies_72 : decode cX12_copies 72 = .ok (.return_, 1) := by decide +kernel
def qX12_copies_l41  (post : St → Prop) (K41 : Int32 → Int32 → Int32 → St → Prop) (x1 : Int32) (x2 : Int32) (x3 : Int32) (u0 : St) : Prop := (((5 : Int32) ≤ x3 → post u0) ∧ (¬ (5 : Int32) ≤ x3 → (vp_in (((5 : Int32) * x1) + x3) 30 ∧ (vp_in (((5 : Int32) * x2) + x3) 30 ∧ ∀ u_6 : St, u_6 = (sx u0 1 (vp_updL (gl u0 1) ((((5 : Int32) * x2) + x3)).toNatClampNeg (gl u0 1 ((((5 : Int32) * x1) + x3)).toNatClampNeg))) → ∀ x3_7 : Int32, x3_7 = x3 + (1 : Int32) → K41 x1 x2 x3_7 u_6))))
set_option maxRecDepth 100000 in
set_option maxHeartbeats 4000000 in
theorem kX12_copies_l41 {C : Cx} {o0 : Nat} {a0 : Nat → Nat} (hC : Fx C cX12_copies 4 RX12) (hR0 : xR C = rm 1) {post : St → Prop} (hR : RV C cX12_copies 4 (fun u : St => (wX12 o0 a0 (xy C) u [])) (fun u => post u))  {K41 : Int32 → Int32 → Int32 → St → Prop} (hK41 : ∀ (x1 : Int32) (x2 : Int32) (x3 : Int32) (u0 : St), K41 x1 x2 x3 u0 → G C 0 0 4 (wX12 o0 a0 (xy C) u0 []) 41 [(0, .ref o0), (1, .int x1), (2, .int x2), (3, .int x3)] []) {x1 : Int32} {x2 : Int32} {x3 : Int32} {u0 : St} (h : qX12_copies_l41 post K41 x1 x2 x3 u0) : G C 0 0 4 (wX12 o0 a0 (xy C) u0 []) 41 [(0, .ref o0), (1, .int x1), (2, .int x2), (3, .int x3)] [] := by
  refine g_iload_n (pc := 41) hC 3 dX12_copies_41 rfl rfl ?_
  refine g_iconst (pc := 42) (v := 5) hC dX12_copies_42 (by decide) ?_
  refine g_icmp_ge (pc := 43) (tgt := 72) hC dX12_copies_43 (by decide) (fun c_5 => ?_) (fun c_5 => ?_)
  · have h := h.1 c_5
    exact hR _ _ u0 dX12_copies_72 h
  · have h := h.2 c_5
    refine g_aload_n (pc := 46) hC 0 dX12_copies_46 rfl rfl ?_
    refine getX12_1 (pc := 47) hC (F := fun Z => Z) (X := []) (fun _ => rfl) fl_X12_13 dX12_copies_47 ?_
    refine g_iconst (pc := 50) (v := 5) hC dX12_copies_50 (by decide) ?_
    refine g_iload_n (pc := 51) hC 2 dX12_copies_51 rfl rfl ?_
    refine g_imul (pc := 52) hC dX12_copies_52 ?_
    refine g_iload_n (pc := 53) hC 3 dX12_copies_53 rfl rfl ?_
    refine g_iadd (pc := 54) hC dX12_copies_54 ?_
    refine g_aload_n (pc := 55) hC 0 dX12_copies_55 rfl rfl ?_
    refine getX12_1 (pc := 56) hC (F := fun Z => Z) (X := []) (fun _ => rfl) fl_X12_13 dX12_copies_56 ?_
    refine g_iconst (pc := 59) (v := 5) hC dX12_copies_59 (by decide) ?_
    refine g_iload_n (pc := 60) hC 1 dX12_copies_60 rfl rfl ?_
    refine g_imul (pc := 61) hC dX12_copies_61 ?_
    refine g_iload_n (pc := 62) hC 3 dX12_copies_62 rfl rfl ?_
    refine g_iadd (pc := 63) hC dX12_copies_63 ?_
    refine aldX12_1 (pc := 64) hC (F := fun Z => Z) (X := []) (fun _ => rfl) h.1 dX12_copies_64 ?_
    have h := h.2
    refine astX12_1 (pc := 65) hC (F := fun Z => Z) (X := []) (fun _ => rfl) h.1 dX12_copies_65 ?_
    have h := h.2
    refine g_st (w := fun z => (wX12 o0 a0 (xy C) z [])) (u := (sx u0 1 (vp_updL (gl u0 1) ((((5 : Int32) * x2) + x3)).toNatClampNeg (gl u0 1 ((((5 : Int32) * x1) + x3)).toNatClampNeg)))) (fun u_6 eu_6 => ?_)
    have h := h u_6 eu_6
    obtain ⟨x3_7, ex3_7⟩ : ∃ z : Int32, z = x3 + (1 : Int32) := ⟨_, rfl⟩
    have h := h x3_7 ex3_7
    refine g_iinc (pc := 66) (v := x3_7) (lv' := [(3, .int x3_7), (0, .ref o0), (1, .int x1), (2, .int x2)]) hC 3 dX12_copies_66 rfl (by rw [ex3_7]; rfl) (Nat.le_of_ble_eq_true rfl) rfl ?_
    refine g_goto (pc := 69) (tgt := 41) hC dX12_copies_69 (by decide) ?_
    refine g_sub (lv' := [(0, .ref o0), (1, .int x1), (2, .int x2), (3, .int x3_7)]) [1, 2, 3, 0] rfl ?_
    exact hK41 _ _ _ _ h
def qX12_copies_L41  (post : St → Prop)  : Nat → Int32 → Int32 → Int32 → St → Prop
  | 0 => fun _ _ _ _ => False
  | n + 1 => qX12_copies_l41 post (qX12_copies_L41 post n)
theorem kX12_copies_L41 {C : Cx} {o0 : Nat} {a0 : Nat → Nat} (hC : Fx C cX12_copies 4 RX12) (hR0 : xR C = rm 1) {post : St → Prop} (hR : RV C cX12_copies 4 (fun u : St => (wX12 o0 a0 (xy C) u [])) (fun u => post u))  : ∀ (n : Nat) (x1 : Int32) (x2 : Int32) (x3 : Int32) (u0 : St), qX12_copies_L41 post n x1 x2 x3 u0 → G C 0 0 4 (wX12 o0 a0 (xy C) u0 []) 41 [(0, .ref o0), (1, .int x1), (2, .int x2), (3, .int x3)] [] := by
  intro n
  induction n with
  | zero => intro x1 x2 x3 u0 h; exact h.elim
  | succ n ih => intro x1 x2 x3 u0 h; exact kX12_copies_l41 hC hR0 hR  ih h
def qX12_copies_b39  (post : St → Prop)  (x1 : Int32) (x2 : Int32) (u0 : St) : Prop := ∃ n_8 : Nat, qX12_copies_L41 post n_8 x1 x2 (0 : Int32) u0
set_option maxRecDepth 100000 in
set_option maxHeartbeats 4000000 in
theorem kX12_copies_b39 {C : Cx} {o0 : Nat} {a0 : Nat → Nat} (hC : Fx C cX12_copies 4 RX12) (hR0 : xR C = rm 1) {post : St → Prop} (hR : RV C cX12_copies 4 (fun u : St => (wX12 o0 a0 (xy C) u [])) (fun u => post u))  {x1 : Int32} {x2 : Int32} {u0 : St} (h : qX12_copies_b39 post x1 x2 u0) : G C 0 0 4 (wX12 o0 a0 (xy C) u0 []) 39 [(0, .ref o0), (1, .int x1), (2, .int x2)] [] := by
  refine g_iconst (pc := 39) (v := 0) hC dX12_copies_39 (by decide) ?_
  refine g_istore_n (pc := 40) (lv' := [(3, .int (0 : Int32)), (0, .ref o0), (1, .int x1), (2, .int x2)]) hC dX12_copies_40 rfl (Nat.le_of_ble_eq_true rfl) rfl ?_
  refine g_sub (lv' := [(0, .ref o0), (1, .int x1), (2, .int x2), (3, .int (0 : Int32))]) [1, 2, 3, 0] rfl ?_
  obtain ⟨n_8, h⟩ := h
  exact kX12_copies_L41 hC hR0 hR  n_8 _ _ _ _ h
def qX12_copies_l2  (post : St → Prop) (K2 : Int32 → Int32 → Int32 → St → Prop) (x1 : Int32) (x2 : Int32) (x3 : Int32) (u0 : St) : Prop := (((456 : Int32) ≤ x3 → qX12_copies_b39 post x1 x2 u0) ∧ (¬ (456 : Int32) ≤ x3 → (vp_in (((456 : Int32) * x1) + x3) 3072 ∧ (vp_in (((456 : Int32) * x2) + x3) 3072 ∧ ∀ u_10 : St, u_10 = (sw u0 0 (upd (ga u0 0) ((((456 : Int32) * x2) + x3)).toNatClampNeg (ga u0 0 ((((456 : Int32) * x1) + x3)).toNatClampNeg))) → ∀ x3_11 : Int32, x3_11 = x3 + (1 : Int32) → K2 x1 x2 x3_11 u_10))))
set_option maxRecDepth 100000 in
set_option maxHeartbeats 4000000 in
theorem kX12_copies_l2 {C : Cx} {o0 : Nat} {a0 : Nat → Nat} (hC : Fx C cX12_copies 4 RX12) (hR0 : xR C = rm 1) {post : St → Prop} (hR : RV C cX12_copies 4 (fun u : St => (wX12 o0 a0 (xy C) u [])) (fun u => post u))  {K2 : Int32 → Int32 → Int32 → St → Prop} (hK2 : ∀ (x1 : Int32) (x2 : Int32) (x3 : Int32) (u0 : St), K2 x1 x2 x3 u0 → G C 0 0 4 (wX12 o0 a0 (xy C) u0 []) 2 [(0, .ref o0), (1, .int x1), (2, .int x2), (3, .int x3)] []) {x1 : Int32} {x2 : Int32} {x3 : Int32} {u0 : St} (h : qX12_copies_l2 post K2 x1 x2 x3 u0) : G C 0 0 4 (wX12 o0 a0 (xy C) u0 []) 2 [(0, .ref o0), (1, .int x1), (2, .int x2), (3, .int x3)] [] := by
  refine g_iload_n (pc := 2) hC 3 dX12_copies_2 rfl rfl ?_
  refine g_sipush (pc := 3) (v := 456) hC dX12_copies_3 (by decide) ?_
  refine g_icmp_ge (pc := 6) (tgt := 39) hC dX12_copies_6 (by decide) (fun c_9 => ?_) (fun c_9 => ?_)
  · have h := h.1 c_9
    refine g_sub (lv' := [(0, .ref o0), (1, .int x1), (2, .int x2)]) [0, 1, 2] rfl ?_
    exact kX12_copies_b39 hC hR0 hR  h
  · have h := h.2 c_9
    refine g_aload_n (pc := 9) hC 0 dX12_copies_9 rfl rfl ?_
    refine getX12_0 (pc := 10) hC (F := fun Z => Z) (X := []) (fun _ => rfl) fl_X12_7 dX12_copies_10 ?_
    refine g_sipush (pc := 13) (v := 456) hC dX12_copies_13 (by decide) ?_
    refine g_iload_n (pc := 16) hC 2 dX12_copies_16 rfl rfl ?_
    refine g_imul (pc := 17) hC dX12_copies_17 ?_
    refine g_iload_n (pc := 18) hC 3 dX12_copies_18 rfl rfl ?_
    refine g_iadd (pc := 19) hC dX12_copies_19 ?_
    refine g_aload_n (pc := 20) hC 0 dX12_copies_20 rfl rfl ?_
    refine getX12_0 (pc := 21) hC (F := fun Z => Z) (X := []) (fun _ => rfl) fl_X12_7 dX12_copies_21 ?_
    refine g_sipush (pc := 24) (v := 456) hC dX12_copies_24 (by decide) ?_
    refine g_iload_n (pc := 27) hC 1 dX12_copies_27 rfl rfl ?_
    refine g_imul (pc := 28) hC dX12_copies_28 ?_
    refine g_iload_n (pc := 29) hC 3 dX12_copies_29 rfl rfl ?_
    refine g_iadd (pc := 30) hC dX12_copies_30 ?_
    refine aldX12_0 (pc := 31) hC (F := fun Z => Z) (X := []) (fun _ => rfl) h.1 dX12_copies_31 ?_
    have h := h.2
    refine astX12_0 (pc := 32) hC (F := fun Z => Z) (X := []) (fun _ => rfl) h.1 dX12_copies_32 ?_
    have h := h.2
    refine g_st (w := fun z => (wX12 o0 a0 (xy C) z [])) (u := (sw u0 0 (upd (ga u0 0) ((((456 : Int32) * x2) + x3)).toNatClampNeg (ga u0 0 ((((456 : Int32) * x1) + x3)).toNatClampNeg)))) (fun u_10 eu_10 => ?_)
    have h := h u_10 eu_10
    obtain ⟨x3_11, ex3_11⟩ : ∃ z : Int32, z = x3 + (1 : Int32) := ⟨_, rfl⟩
    have h := h x3_11 ex3_11
    refine g_iinc (pc := 33) (v := x3_11) (lv' := [(3, .int x3_11), (0, .ref o0), (1, .int x1), (2, .int x2)]) hC 3 dX12_copies_33 rfl (by rw [ex3_11]; rfl) (Nat.le_of_ble_eq_true rfl) rfl ?_
    refine g_goto (pc := 36) (tgt := 2) hC dX12_copies_36 (by decide) ?_
    refine g_sub (lv' := [(0, .ref o0), (1, .int x1), (2, .int x2), (3, .int x3_11)]) [1, 2, 3, 0] rfl ?_
    exact hK2 _ _ _ _ h
def qX12_copies_L2  (post : St → Prop)  : Nat → Int32 → Int32 → Int32 → St → Prop
  | 0 => fun _ _ _ _ => False
  | n + 1 => qX12_copies_l2 post (qX12_copies_L2 post n)
theorem kX12_copies_L2 {C : Cx} {o0 : Nat} {a0 : Nat → Nat} (hC : Fx C cX12_copies 4 RX12) (hR0 : xR C = rm 1) {post : St → Prop} (hR : RV C cX12_copies 4 (fun u : St => (wX12 o0 a0 (xy C) u [])) (fun u => post u))  : ∀ (n : Nat) (x1 : Int32) (x2 : Int32) (x3 : Int32) (u0 : St), qX12_copies_L2 post n x1 x2 x3 u0 → G C 0 0 4 (wX12 o0 a0 (xy C) u0 []) 2 [(0, .ref o0), (1, .int x1), (2, .int x2), (3, .int x3)] [] := by
  intro n
  induction n with
  | zero => intro x1 x2 x3 u0 h; exact h.elim
  | succ n ih => intro x1 x2 x3 u0 h; exact kX12_copies_l2 hC hR0 hR  ih h
def qX12_copies (x1 : Int32) (x2 : Int32) (u0 : St) (post : St → Prop) : Prop := ∃ n_12 : Nat, qX12_copies_L2 post n_12 x1 x2 (0 : Int32) u0
set_option maxRecDepth 100000 in
set_option maxHeartbeats 4000000 in
theorem kX12_copies {C : Cx} {o0 : Nat} {a0 : Nat → Nat} (hC : Fx C cX12_copies 4 RX12) (hR0 : xR C = rm 1) {post : St → Prop} (hR : RV C cX12_copies 4 (fun u : St => (wX12 o0 a0 (xy C) u [])) (fun u => post u)) {x1 : Int32} {x2 : Int32} {u0 : St} (h : qX12_copies x1 x2 u0 post) : G C 0 0 4 (wX12 o0 a0 (xy C) u0 []) 0 [(0, .ref o0), (1, .int x1), (2, .int x2)] [] := by
  refine g_iconst (pc := 0) (v := 0) hC dX12_copies_0 (by decide) ?_
  refine g_istore_n (pc := 1) (lv' := [(3, .int (0 : Int32)), (0, .ref o0), (1, .int x1), (2, .int x2)]) hC dX12_copies_1 rfl (Nat.le_of_ble_eq_true rfl) rfl ?_
  refine g_sub (lv' := [(0, .ref o0), (1, .int x1), (2, .int x2), (3, .int (0 : Int32))]) [1, 2, 3, 0] rfl ?_
  obtain ⟨n_12, h⟩ := h
  exact kX12_copies_L2 hC hR0 hR  n_12 _ _ _ _ h
theorem ctX12_copies {l : Launch} {D : va_G} {cy : Nat → ClassId} {kd : Nat → Nat} {o0 : Nat} {a0 : Nat → Nat} {x1 : Int32} {x2 : Int32} {u0 : St} {post : St → Prop} (h : qX12_copies x1 x2 u0 post) : CtV l D cy kd yX12_copies cX12_copies 4 1  [.ref o0, .int x1, .int x2] (fun u : St => (wX12 o0 a0 cy u [])) u0 (fun u => post u) := met_v (by decide) (Nat.le_of_ble_eq_true rfl) (fun C e1 e2 e3 e4 e5 hC hR => by subst e1 e2 e3 e4; exact kX12_copies hC e5 hR h)
theorem dX12_mark_0 : decode cX12_mark 0 = .ok (.aload_n 0, 1) := by decide +kernel
theorem dX12_mark_1 : decode cX12_mark 1 = .ok (.getfield 465, 3) := by decide +kernel
theorem dX12_mark_4 : decode cX12_mark 4 = .ok (.iconst 3, 1) := by decide +kernel
theorem dX12_mark_5 : decode cX12_mark 5 = .ok (.if_icmp .ne 9, 3) := by decide +kernel
theorem dX12_mark_8 : decode cX12_mark 8 = .ok (.aload_n 0, 1) := by decide +kernel
theorem dX12_mark_9 : decode cX12_mark 9 = .ok (.iconst 4, 1) := by decide +kernel
theorem dX12_mark_10 : decode cX12_mark 10 = .ok (.invokevirtual 88, 3) := by decide +kernel
theorem dX12_mark_13 : decode cX12_mark 13 = .ok (.ireturn, 1) := by decide +kernel
theorem dX12_mark_14 : decode cX12_mark 14 = .ok (.aload_n 0, 1) := by decide +kernel
theorem dX12_mark_15 : decode cX12_mark 15 = .ok (.dup, 1) := by decide +kernel
theorem dX12_mark_16 : decode cX12_mark 16 = .ok (.getfield 465, 3) := by decide +kernel
theorem dX12_mark_19 : decode cX12_mark 19 = .ok (.iconst 1, 1) := by decide +kernel
theorem dX12_mark_20 : decode cX12_mark 20 = .ok (.iadd, 1) := by decide +kernel
theorem dX12_mark_21 : decode cX12_mark 21 = .ok (.putfield 465, 3) := by decide +kernel
theorem dX12_mark_24 : decode cX12_mark 24 = .ok (.aload_n 0, 1) := by decide +kernel
theorem dX12_mark_25 : decode cX12_mark 25 = .ok (.iconst 0, 1) := by decide +kernel
theorem dX12_mark_26 : decode cX12_mark 26 = .ok (.aload_n 0, 1) := by decide +kernel
theorem dX12_mark_27 : decode cX12_mark 27 = .ok (.getfield 465, 3) := by decide +kernel
theorem dX12_mark_30 : decode cX12_mark 30 = .ok (.invokevirtual 468, 3) := by decide +kernel
theorem dX12_mark_33 : decode cX12_mark 33 = .ok (.aload_n 0, 1) := by decide +kernel
theorem dX12_mark_34 : decode cX12_mark 34 = .ok (.aload_n 0, 1) := by decide +kernel
theorem dX12_mark_35 : decode cX12_mark 35 = .ok (.getfield 465, 3) := by decide +kernel
theorem dX12_mark_38 : decode cX12_mark 38 = .ok (.invokevirtual 92, 3) := by decide +kernel
theorem dX12_mark_41 : decode cX12_mark 41 = .ok (.ireturn, 1) := by decide +kernel
def qX12_mark  (u0 : St) (post : Int32 → St → Prop) : Prop := ((¬ (gi u0 39) = (3 : Int32) → ∀ u_11 : St, u_11 = (si u0 39 ((gi u0 39) + (1 : Int32))) → qX12_copies (0 : Int32) (gi u_11 39) u_11 (fun u_12 => qX12_gives (gi u_12 39) u_12 (fun r_15 u_14 => post r_15 u_14))) ∧ ((gi u0 39) = (3 : Int32) → qX12_refuse (4 : Int32) u0 (fun r_18 u_17 => post r_18 u_17)))
set_option maxRecDepth 100000 in
set_option maxHeartbeats 4000000 in
theorem kX12_mark {C : Cx} {o0 : Nat} {a0 : Nat → Nat} (hC : Fx C cX12_mark 1 RX12) (hR0 : xR C = rm 2) {post : Int32 → St → Prop} (hR : RI C cX12_mark 1 (fun u : St => (wX12 o0 a0 (xy C) u [])) (fun r u => post r u))  {u0 : St} (h : qX12_mark  u0 post) : G C 0 0 1 (wX12 o0 a0 (xy C) u0 []) 0 [(0, .ref o0)] [] := by
  refine g_aload_n (pc := 0) hC 0 dX12_mark_0 rfl rfl ?_
  refine getX12_39 (pc := 1) hC (F := fun Z => Z) (X := []) (fun _ => rfl) fl_X12_465 dX12_mark_1 ?_
  refine g_iconst (pc := 4) (v := 3) hC dX12_mark_4 (by decide) ?_
  refine g_icmp_ne (pc := 5) (tgt := 14) hC dX12_mark_5 (by decide) (fun c_10 => ?_) (fun c_10 => ?_)
  · have h := h.1 c_10
    refine g_aload_n (pc := 14) hC 0 dX12_mark_14 rfl rfl ?_
    refine g_dup (pc := 15) hC dX12_mark_15 rfl ?_
    refine getX12_39 (pc := 16) hC (F := fun Z => Z) (X := []) (fun _ => rfl) fl_X12_465 dX12_mark_16 ?_
    refine g_iconst (pc := 19) (v := 1) hC dX12_mark_19 (by decide) ?_
    refine g_iadd (pc := 20) hC dX12_mark_20 ?_
    refine putX12_39 (pc := 21) hC (F := fun Z => Z) (X := []) (fun _ => rfl) fl_X12_465 dX12_mark_21 ?_
    refine g_st (w := fun z => (wX12 o0 a0 (xy C) z [])) (u := (si u0 39 ((gi u0 39) + (1 : Int32)))) (fun u_11 eu_11 => ?_)
    have h := h u_11 eu_11
    refine g_aload_n (pc := 24) hC 0 dX12_mark_24 rfl rfl ?_
    refine g_iconst (pc := 25) (v := 0) hC dX12_mark_25 (by decide) ?_
    refine g_aload_n (pc := 26) hC 0 dX12_mark_26 rfl rfl ?_
    refine getX12_39 (pc := 27) hC (F := fun Z => Z) (X := []) (fun _ => rfl) fl_X12_465 dX12_mark_27 ?_
    refine g_callV_v (pc := 30) (wd := fun (u : St) Y => (wX12 o0 a0 (xy C) u Y)) (F := fun Z => Z) (X := []) (As := [.int (0 : Int32), .int (gi u_11 39)]) (rest := []) (u := u_11) hC (fun _ _ => rfl) (fun _ => rfl) (ctX12_copies h) wvX12_copies ml_X12_468 (ci := 10) (q0 := 0) rfl rfl rfl rfl (rmok hR0 rfl) ⟨Nat.zero_le _, Nat.zero_le _⟩ rfl (Nat.le_of_ble_eq_true rfl) dX12_mark_30 (fun u_12 h => ?_)
    refine g_aload_n (pc := 33) hC 0 dX12_mark_33 rfl rfl ?_
    refine g_aload_n (pc := 34) hC 0 dX12_mark_34 rfl rfl ?_
    refine getX12_39 (pc := 35) hC (F := fun Z => Z) (X := []) (fun _ => rfl) fl_X12_465 dX12_mark_35 ?_
    refine g_callV_i (pc := 38) (wd := fun (u : St) Y => (wX12 o0 a0 (xy C) u Y)) (F := fun Z => Z) (X := []) (As := [.int (gi u_12 39)]) (rest := []) (u := u_12) hC (fun _ _ => rfl) (fun _ => rfl) (ctX12_gives h) wvX12_gives ml_X12_92 (ci := 10) (q0 := 0) rfl rfl rfl rfl (rmok hR0 rfl) ⟨Nat.zero_le _, Nat.zero_le _⟩ rfl (Nat.le_of_ble_eq_true rfl) dX12_mark_38 (fun r_15 u_14 h => ?_)
    exact hR _ _ _ u_14 dX12_mark_41 h
  · have h := h.2 c_10
    refine g_aload_n (pc := 8) hC 0 dX12_mark_8 rfl rfl ?_
    refine g_iconst (pc := 9) (v := 4) hC dX12_mark_9 (by decide) ?_
    refine g_callV_i (pc := 10) (wd := fun (u : St) Y => (wX12 o0 a0 (xy C) u Y)) (F := fun Z => Z) (X := []) (As := [.int (4 : Int32)]) (rest := []) (u := u0) hC (fun _ _ => rfl) (fun _ => rfl) (ctX12_refuse h) wvX12_refuse ml_X12_88 (ci := 10) (q0 := 0) rfl rfl rfl rfl (rmok hR0 rfl) ⟨Nat.zero_le _, Nat.zero_le _⟩ rfl (Nat.le_of_ble_eq_true rfl) dX12_mark_10 (fun r_18 u_17 h => ?_)
    exact hR _ _ _ u_17 dX12_mark_13 h
theorem ctX12_mark {l : Launch} {D : va_G} {cy : Nat → ClassId} {kd : Nat → Nat} {o0 : Nat} {a0 : Nat → Nat}  {u0 : St} {post : Int32 → St → Prop} (h : qX12_mark  u0 post) : CtI l D cy kd yX12_mark cX12_mark 1 2 .int [.ref o0] (fun u : St => (wX12 o0 a0 cy u [])) u0 (fun r u => post r u) := met_i (by decide) (Nat.le_of_ble_eq_true rfl) (fun C e1 e2 e3 e4 e5 hC hR => by subst e1 e2 e3 e4; exact kX12_mark hC e5 hR h)
theorem dX12_undo_0 : decode cX12_undo 0 = .ok (.aload_n 0, 1) := by decide +kernel
theorem dX12_undo_1 : decode cX12_undo 1 = .ok (.getfield 465, 3) := by decide +kernel
theorem dX12_undo_4 : decode cX12_undo 4 = .ok (.ifCond .ne 10, 3) := by decide +kernel
theorem dX12_undo_7 : decode cX12_undo 7 = .ok (.aload_n 0, 1) := by decide +kernel
theorem dX12_undo_8 : decode cX12_undo 8 = .ok (.bipush 6, 2) := by decide +kernel
theorem dX12_undo_10 : decode cX12_undo 10 = .ok (.invokevirtual 88, 3) := by decide +kernel
theorem dX12_undo_13 : decode cX12_undo 13 = .ok (.ireturn, 1) := by decide +kernel
theorem dX12_undo_14 : decode cX12_undo 14 = .ok (.aload_n 0, 1) := by decide +kernel
theorem dX12_undo_15 : decode cX12_undo 15 = .ok (.aload_n 0, 1) := by decide +kernel
theorem dX12_undo_16 : decode cX12_undo 16 = .ok (.getfield 465, 3) := by decide +kernel
theorem dX12_undo_19 : decode cX12_undo 19 = .ok (.iconst 0, 1) := by decide +kernel
theorem dX12_undo_20 : decode cX12_undo 20 = .ok (.invokevirtual 468, 3) := by decide +kernel
theorem dX12_undo_23 : decode cX12_undo 23 = .ok (.aload_n 0, 1) := by decide +kernel
theorem dX12_undo_24 : decode cX12_undo 24 = .ok (.dup, 1) := by decide +kernel
theorem dX12_undo_25 : decode cX12_undo 25 = .ok (.getfield 465, 3) := by decide +kernel
theorem dX12_undo_28 : decode cX12_undo 28 = .ok (.iconst 1, 1) := by decide +kernel
theorem dX12_undo_29 : decode cX12_undo 29 = .ok (.isub, 1) := by decide +kernel
theorem dX12_undo_30 : decode cX12_undo 30 = .ok (.putfield 465, 3) := by decide +kernel
theorem dX12_undo_33 : decode cX12_undo 33 = .ok (.aload_n 0, 1) := by decide +kernel
theorem dX12_undo_34 : decode cX12_undo 34 = .ok (.aload_n 0, 1) := by decide +kernel
theorem dX12_undo_35 : decode cX12_undo 35 = .ok (.getfield 465, 3) := by decide +kernel
theorem dX12_undo_38 : decode cX12_undo 38 = .ok (.invokevirtual 92, 3) := by decide +kernel
theorem dX12_undo_41 : decode cX12_undo 41 = .ok (.ireturn, 1) := by decide +kernel
def qX12_undo  (u0 : St) (post : Int32 → St → Prop) : Prop := ((¬ (gi u0 39) = 0 → qX12_copies (gi u0 39) (0 : Int32) u0 (fun u_11 => ∀ u_13 : St, u_13 = (si u_11 39 ((gi u_11 39) - (1 : Int32))) → qX12_gives (gi u_13 39) u_13 (fun r_15 u_14 => post r_15 u_14))) ∧ ((gi u0 39) = 0 → qX12_refuse (6 : Int32) u0 (fun r_18 u_17 => post r_18 u_17)))
set_option maxRecDepth 100000 in
set_option maxHeartbeats 4000000 in
theorem kX12_undo {C : Cx} {o0 : Nat} {a0 : Nat → Nat} (hC : Fx C cX12_undo 1 RX12) (hR0 : xR C = rm 2) {post : Int32 → St → Prop} (hR : RI C cX12_undo 1 (fun u : St => (wX12 o0 a0 (xy C) u [])) (fun r u => post r u))  {u0 : St} (h : qX12_undo  u0 post) : G C 0 0 1 (wX12 o0 a0 (xy C) u0 []) 0 [(0, .ref o0)] [] := by
  refine g_aload_n (pc := 0) hC 0 dX12_undo_0 rfl rfl ?_
  refine getX12_39 (pc := 1) hC (F := fun Z => Z) (X := []) (fun _ => rfl) fl_X12_465 dX12_undo_1 ?_
  refine g_if_ne (pc := 4) (tgt := 14) hC dX12_undo_4 (by decide) (fun c_10 => ?_) (fun c_10 => ?_)
  · have h := h.1 c_10
    refine g_aload_n (pc := 14) hC 0 dX12_undo_14 rfl rfl ?_
    refine g_aload_n (pc := 15) hC 0 dX12_undo_15 rfl rfl ?_
    refine getX12_39 (pc := 16) hC (F := fun Z => Z) (X := []) (fun _ => rfl) fl_X12_465 dX12_undo_16 ?_
    refine g_iconst (pc := 19) (v := 0) hC dX12_undo_19 (by decide) ?_
    refine g_callV_v (pc := 20) (wd := fun (u : St) Y => (wX12 o0 a0 (xy C) u Y)) (F := fun Z => Z) (X := []) (As := [.int (gi u0 39), .int (0 : Int32)]) (rest := []) (u := u0) hC (fun _ _ => rfl) (fun _ => rfl) (ctX12_copies h) wvX12_copies ml_X12_468 (ci := 10) (q0 := 0) rfl rfl rfl rfl (rmok hR0 rfl) ⟨Nat.zero_le _, Nat.zero_le _⟩ rfl (Nat.le_of_ble_eq_true rfl) dX12_undo_20 (fun u_11 h => ?_)
    refine g_aload_n (pc := 23) hC 0 dX12_undo_23 rfl rfl ?_
    refine g_dup (pc := 24) hC dX12_undo_24 rfl ?_
    refine getX12_39 (pc := 25) hC (F := fun Z => Z) (X := []) (fun _ => rfl) fl_X12_465 dX12_undo_25 ?_
    refine g_iconst (pc := 28) (v := 1) hC dX12_undo_28 (by decide) ?_
    refine g_isub (pc := 29) hC dX12_undo_29 ?_
    refine putX12_39 (pc := 30) hC (F := fun Z => Z) (X := []) (fun _ => rfl) fl_X12_465 dX12_undo_30 ?_
    refine g_st (w := fun z => (wX12 o0 a0 (xy C) z [])) (u := (si u_11 39 ((gi u_11 39) - (1 : Int32)))) (fun u_13 eu_13 => ?_)
    have h := h u_13 eu_13
    refine g_aload_n (pc := 33) hC 0 dX12_undo_33 rfl rfl ?_
    refine g_aload_n (pc := 34) hC 0 dX12_undo_34 rfl rfl ?_
    refine getX12_39 (pc := 35) hC (F := fun Z => Z) (X := []) (fun _ => rfl) fl_X12_465 dX12_undo_35 ?_
    refine g_callV_i (pc := 38) (wd := fun (u : St) Y => (wX12 o0 a0 (xy C) u Y)) (F := fun Z => Z) (X := []) (As := [.int (gi u_13 39)]) (rest := []) (u := u_13) hC (fun _ _ => rfl) (fun _ => rfl) (ctX12_gives h) wvX12_gives ml_X12_92 (ci := 10) (q0 := 0) rfl rfl rfl rfl (rmok hR0 rfl) ⟨Nat.zero_le _, Nat.zero_le _⟩ rfl (Nat.le_of_ble_eq_true rfl) dX12_undo_38 (fun r_15 u_14 h => ?_)
    exact hR _ _ _ u_14 dX12_undo_41 h
  · have h := h.2 c_10
    refine g_aload_n (pc := 7) hC 0 dX12_undo_7 rfl rfl ?_
    refine g_bipush (pc := 8) (v := 6) hC dX12_undo_8 (by decide) ?_
    refine g_callV_i (pc := 10) (wd := fun (u : St) Y => (wX12 o0 a0 (xy C) u Y)) (F := fun Z => Z) (X := []) (As := [.int (6 : Int32)]) (rest := []) (u := u0) hC (fun _ _ => rfl) (fun _ => rfl) (ctX12_refuse h) wvX12_refuse ml_X12_88 (ci := 10) (q0 := 0) rfl rfl rfl rfl (rmok hR0 rfl) ⟨Nat.zero_le _, Nat.zero_le _⟩ rfl (Nat.le_of_ble_eq_true rfl) dX12_undo_10 (fun r_18 u_17 h => ?_)
    exact hR _ _ _ u_17 dX12_undo_13 h
theorem ctX12_undo {l : Launch} {D : va_G} {cy : Nat → ClassId} {kd : Nat → Nat} {o0 : Nat} {a0 : Nat → Nat}  {u0 : St} {post : Int32 → St → Prop} (h : qX12_undo  u0 post) : CtI l D cy kd yX12_undo cX12_undo 1 2 .int [.ref o0] (fun u : St => (wX12 o0 a0 cy u [])) u0 (fun r u => post r u) := met_i (by decide) (Nat.le_of_ble_eq_true rfl) (fun C e1 e2 e3 e4 e5 hC hR => by subst e1 e2 e3 e4; exact kX12_undo hC e5 hR h)
