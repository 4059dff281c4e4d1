/-! reference -/
theorem dX12_plain_0 : decode cX12_plain 0 = .ok (.iconst 0, 1) := by decide +kernel
theorem dX12_plain_1 : decode cX12_plain 1 = .ok (.istore_n 2, 1) := by decide +kernel
theorem dX12_plain_2 : decode cX12_plain 2 = .ok (.iload_n 2, 1) := by decide +kernel
theorem dX12_plain_3 : decode cX12_plain 3 = .ok (.sipush 456, 3) := by decide +kernel
theorem dX12_plain_6 : decode cX12_plain 6 = .ok (.if_icmp .ge 18, 3) := by decide +kernel
theorem dX12_plain_9 : decode cX12_plain 9 = .ok (.aload_n 0, 1) := by decide +kernel
theorem dX12_plain_10 : decode cX12_plain 10 = .ok (.getfield 7, 3) := by decide +kernel
theorem dX12_plain_13 : decode cX12_plain 13 = .ok (.iload_n 1, 1) := by decide +kernel
theorem dX12_plain_14 : decode cX12_plain 14 = .ok (.iload_n 2, 1) := by decide +kernel
theorem dX12_plain_15 : decode cX12_plain 15 = .ok (.iadd, 1) := by decide +kernel
theorem dX12_plain_16 : decode cX12_plain 16 = .ok (.iconst 0, 1) := by decide +kernel
theorem dX12_plain_17 : decode cX12_plain 17 = .ok (.iastore, 1) := by decide +kernel
theorem dX12_plain_18 : decode cX12_plain 18 = .ok (.iinc 2 1, 3) := by decide +kernel
theorem dX12_plain_21 : decode cX12_plain 21 = .ok (.goto (-19), 3) := by decide +kernel
theorem dX12_plain_24 : decode cX12_plain 24 = .ok (.aload_n 0, 1) := by decide +kernel
theorem dX12_plain_25 : decode cX12_plain 25 = .ok (.getfield 7, 3) := by decide +kernel
theorem dX12_plain_28 : decode cX12_plain 28 = .ok (.iload_n 1, 1) := by decide +kernel
theorem dX12_plain_29 : decode cX12_plain 29 = .ok (.iconst 3, 1) := by decide +kernel
theorem dX12_plain_30 : decode cX12_plain 30 = .ok (.iadd, 1) := by decide +kernel
theorem dX12_plain_31 : decode cX12_plain 31 = .ok (.iconst 4, 1) := by decide +kernel
theorem dX12_plain_32 : decode cX12_plain 32 = .ok (.iastore, 1) := by decide +kernel
theorem dX12_plain_33 : decode cX12_plain 33 = .ok (.aload_n 0, 1) := by decide +kernel
theorem dX12_plain_34 : decode cX12_plain 34 = .ok (.getfield 7, 3) := by decide +kernel
theorem dX12_plain_37 : decode cX12_plain 37 = .ok (.iload_n 1, 1) := by decide +kernel
theorem dX12_plain_38 : decode cX12_plain 38 = .ok (.bipush 7, 2) := by decide +kernel
theorem dX12_plain_40 : decode cX12_plain 40 = .ok (.iadd, 1) := by decide +kernel
theorem dX12_plain_41 : decode cX12_plain 41 = .ok (.iconst (-1), 1) := by decide +kernel
theorem dX12_plain_42 : decode cX12_plain 42 = .ok (.iastore, 1) := by decide +kernel
theorem dX12_plain_43 : decode cX12_plain 43 = .ok (.return_, 1) := by decide +kernel
def qX12_plain_b24  (post : St → Prop)  (x1 : Int32) (u0 : St) : Prop := (vp_in (x1 + (3 : Int32)) 3072 ∧ ∀ u_5 : St, u_5 = (sw u0 0 (upd (ga u0 0) ((x1 + (3 : Int32))).toNatClampNeg (4 : Int32))) → (vp_in (x1 + (7 : Int32)) 3072 ∧ ∀ u_6 : St, u_6 = (sw u_5 0 (upd (ga u_5 0) ((x1 + (7 : Int32))).toNatClampNeg (-1 : Int32))) → post u_6))
set_option maxRecDepth 100000 in
set_option maxHeartbeats 4000000 in
theorem kX12_plain_b24 {C : Cx} {o0 : Nat} {a0 : Nat → Nat} (hC : Fx C cX12_plain 3 RX12) (hR0 : xR C = rm 1) {post : St → Prop} (hR : RV C cX12_plain 3 (fun u : St => (wX12 o0 a0 (xy C) u [])) (fun u => post u))  {x1 : Int32} {u0 : St} (h : qX12_plain_b24 post x1 u0) : G C 0 0 3 (wX12 o0 a0 (xy C) u0 []) 24 [(0, .ref o0), (1, .int x1)] [] := by
  refine g_aload_n (pc := 24) hC 0 dX12_plain_24 rfl rfl ?_
  refine getX12_0 (pc := 25) hC (F := fun Z => Z) (X := []) (fun _ => rfl) fl_X12_7 dX12_plain_25 ?_
  refine g_iload_n (pc := 28) hC 1 dX12_plain_28 rfl rfl ?_
  refine g_iconst (pc := 29) (v := 3) hC dX12_plain_29 (by decide) ?_
  refine g_iadd (pc := 30) hC dX12_plain_30 ?_
  refine g_iconst (pc := 31) (v := 4) hC dX12_plain_31 (by decide) ?_
  refine astX12_0 (pc := 32) hC (F := fun Z => Z) (X := []) (fun _ => rfl) h.1 dX12_plain_32 ?_
  have h := h.2
  refine g_st (w := fun z => (wX12 o0 a0 (xy C) z [])) (u := (sw u0 0 (upd (ga u0 0) ((x1 + (3 : Int32))).toNatClampNeg (4 : Int32)))) (fun u_5 eu_5 => ?_)
  have h := h u_5 eu_5
  refine g_aload_n (pc := 33) hC 0 dX12_plain_33 rfl rfl ?_
  refine getX12_0 (pc := 34) hC (F := fun Z => Z) (X := []) (fun _ => rfl) fl_X12_7 dX12_plain_34 ?_
  refine g_iload_n (pc := 37) hC 1 dX12_plain_37 rfl rfl ?_
  refine g_bipush (pc := 38) (v := 7) hC dX12_plain_38 (by decide) ?_
  refine g_iadd (pc := 40) hC dX12_plain_40 ?_
  refine g_iconst (pc := 41) (v := -1) hC dX12_plain_41 (by decide) ?_
  refine astX12_0 (pc := 42) hC (F := fun Z => Z) (X := []) (fun _ => rfl) h.1 dX12_plain_42 ?_
  have h := h.2
  refine g_st (w := fun z => (wX12 o0 a0 (xy C) z [])) (u := (sw u_5 0 (upd (ga u_5 0) ((x1 + (7 : Int32))).toNatClampNeg (-1 : Int32)))) (fun u_6 eu_6 => ?_)
  have h := h u_6 eu_6
  exact hR _ _ u_6 dX12_plain_43 h
def qX12_plain_l2  (post : St → Prop) (K2 : Int32 → Int32 → St → Prop) (x1 : Int32) (x2 : Int32) (u0 : St) : Prop := (((456 : Int32) ≤ x2 → qX12_plain_b24 post x1 u0) ∧ (¬ (456 : Int32) ≤ x2 → (vp_in (x1 + x2) 3072 ∧ ∀ u_8 : St, u_8 = (sw u0 0 (upd (ga u0 0) ((x1 + x2)).toNatClampNeg (0 : Int32))) → ∀ x2_9 : Int32, x2_9 = x2 + (1 : Int32) → K2 x1 x2_9 u_8)))
set_option maxRecDepth 100000 in
set_option maxHeartbeats 4000000 in
theorem kX12_plain_l2 {C : Cx} {o0 : Nat} {a0 : Nat → Nat} (hC : Fx C cX12_plain 3 RX12) (hR0 : xR C = rm 1) {post : St → Prop} (hR : RV C cX12_plain 3 (fun u : St => (wX12 o0 a0 (xy C) u [])) (fun u => post u))  {K2 : Int32 → Int32 → St → Prop} (hK2 : ∀ (x1 : Int32) (x2 : Int32) (u0 : St), K2 x1 x2 u0 → G C 0 0 3 (wX12 o0 a0 (xy C) u0 []) 2 [(0, .ref o0), (1, .int x1), (2, .int x2)] []) {x1 : Int32} {x2 : Int32} {u0 : St} (h : qX12_plain_l2 post K2 x1 x2 u0) : G C 0 0 3 (wX12 o0 a0 (xy C) u0 []) 2 [(0, .ref o0), (1, .int x1), (2, .int x2)] [] := by
  refine g_iload_n (pc := 2) hC 2 dX12_plain_2 rfl rfl ?_
  refine g_sipush (pc := 3) (v := 456) hC dX12_plain_3 (by decide) ?_
  refine g_icmp_ge (pc := 6) (tgt := 24) hC dX12_plain_6 (by decide) (fun c_7 => ?_) (fun c_7 => ?_)
  · have h := h.1 c_7
    refine g_sub (lv' := [(0, .ref o0), (1, .int x1)]) [0, 1] rfl ?_
    exact kX12_plain_b24 hC hR0 hR  h
  · have h := h.2 c_7
    refine g_aload_n (pc := 9) hC 0 dX12_plain_9 rfl rfl ?_
    refine getX12_0 (pc := 10) hC (F := fun Z => Z) (X := []) (fun _ => rfl) fl_X12_7 dX12_plain_10 ?_
    refine g_iload_n (pc := 13) hC 1 dX12_plain_13 rfl rfl ?_
    refine g_iload_n (pc := 14) hC 2 dX12_plain_14 rfl rfl ?_
    refine g_iadd (pc := 15) hC dX12_plain_15 ?_
    refine g_iconst (pc := 16) (v := 0) hC dX12_plain_16 (by decide) ?_
    refine astX12_0 (pc := 17) hC (F := fun Z => Z) (X := []) (fun _ => rfl) h.1 dX12_plain_17 ?_
    have h := h.2
    refine g_st (w := fun z => (wX12 o0 a0 (xy C) z [])) (u := (sw u0 0 (upd (ga u0 0) ((x1 + x2)).toNatClampNeg (0 : Int32)))) (fun u_8 eu_8 => ?_)
    have h := h u_8 eu_8
    obtain ⟨x2_9, ex2_9⟩ : ∃ z : Int32, z = x2 + (1 : Int32) := ⟨_, rfl⟩
    have h := h x2_9 ex2_9
    refine g_iinc (pc := 18) (v := x2_9) (lv' := [(2, .int x2_9), (0, .ref o0), (1, .int x1)]) hC 2 dX12_plain_18 rfl (by rw [ex2_9]; rfl) (Nat.le_of_ble_eq_true rfl) rfl ?_
    refine g_goto (pc := 21) (tgt := 2) hC dX12_plain_21 (by decide) ?_
    refine g_sub (lv' := [(0, .ref o0), (1, .int x1), (2, .int x2_9)]) [1, 2, 0] rfl ?_
    exact hK2 _ _ _ h
def qX12_plain_L2  (post : St → Prop)  : Nat → Int32 → Int32 → St → Prop
  | 0 => fun _ _ _ => False
  | n + 1 => qX12_plain_l2 post (qX12_plain_L2 post n)
theorem kX12_plain_L2 {C : Cx} {o0 : Nat} {a0 : Nat → Nat} (hC : Fx C cX12_plain 3 RX12) (hR0 : xR C = rm 1) {post : St → Prop} (hR : RV C cX12_plain 3 (fun u : St => (wX12 o0 a0 (xy C) u [])) (fun u => post u))  : ∀ (n : Nat) (x1 : Int32) (x2 : Int32) (u0 : St), qX12_plain_L2 post n x1 x2 u0 → G C 0 0 3 (wX12 o0 a0 (xy C) u0 []) 2 [(0, .ref o0), (1, .int x1), (2, .int x2)] [] := by
  intro n
  induction n with
  | zero => intro x1 x2 u0 h; exact h.elim
  | succ n ih => intro x1 x2 u0 h; exact kX12_plain_l2 hC hR0 hR  ih h
def qX12_plain (x1 : Int32) (u0 : St) (post : St → Prop) : Prop := ∃ n_10 : Nat, qX12_plain_L2 post n_10 x1 (0 : Int32) u0
set_option maxRecDepth 100000 in
set_option maxHeartbeats 4000000 in
theorem kX12_plain {C : Cx} {o0 : Nat} {a0 : Nat → Nat} (hC : Fx C cX12_plain 3 RX12) (hR0 : xR C = rm 1) {post : St → Prop} (hR : RV C cX12_plain 3 (fun u : St => (wX12 o0 a0 (xy C) u [])) (fun u => post u)) {x1 : Int32} {u0 : St} (h : qX12_plain x1 u0 post) : G C 0 0 3 (wX12 o0 a0 (xy C) u0 []) 0 [(0, .ref o0), (1, .int x1)] [] := by
  refine g_iconst (pc := 0) (v := 0) hC dX12_plain_0 (by decide) ?_
  refine g_istore_n (pc := 1) (lv' := [(2, .int (0 : Int32)), (0, .ref o0), (1, .int x1)]) hC dX12_plain_1 rfl (Nat.le_of_ble_eq_true rfl) rfl ?_
  refine g_sub (lv' := [(0, .ref o0), (1, .int x1), (2, .int (0 : Int32))]) [1, 2, 0] rfl ?_
  obtain ⟨n_10, h⟩ := h
  exact kX12_plain_L2 hC hR0 hR  n_10 _ _ _ h
theorem ctX12_plain {l : Launch} {D : va_G} {cy : Nat → ClassId} {kd : Nat → Nat} {o0 : Nat} {a0 : Nat → Nat} {x1 : Int32} {u0 : St} {post : St → Prop} (h : qX12_plain x1 u0 post) : CtV l D cy kd yX12_plain cX12_plain 3 1  [.ref o0, .int x1] (fun u : St => (wX12 o0 a0 cy u [])) u0 (fun u => post u) := met_v (by decide) (Nat.le_of_ble_eq_true rfl) (fun C e1 e2 e3 e4 e5 hC hR => by subst e1 e2 e3 e4; exact kX12_plain hC e5 hR h)
theorem dX12_status_0 : decode cX12_status 0 = .ok (.aload_n 0, 1) := by decide +kernel
theorem dX12_status_1 : decode cX12_status 1 = .ok (.getfield 82, 3) := by decide +kernel
theorem dX12_status_4 : decode cX12_status 4 = .ok (.ireturn, 1) := by decide +kernel
def qX12_status  (u0 : St) (post : Int32 → St → Prop) : Prop := post (gi u0 2) u0
set_option maxRecDepth 100000 in
set_option maxHeartbeats 4000000 in
theorem kX12_status {C : Cx} {o0 : Nat} {a0 : Nat → Nat} (hC : Fx C cX12_status 1 RX12) (hR0 : xR C = rm 1) {post : Int32 → St → Prop} (hR : RI C cX12_status 1 (fun u : St => (wX12 o0 a0 (xy C) u [])) (fun r u => post r u))  {u0 : St} (h : qX12_status  u0 post) : G C 0 0 1 (wX12 o0 a0 (xy C) u0 []) 0 [(0, .ref o0)] [] := by
  refine g_aload_n (pc := 0) hC 0 dX12_status_0 rfl rfl ?_
  refine getX12_2 (pc := 1) hC (F := fun Z => Z) (X := []) (fun _ => rfl) fl_X12_82 dX12_status_1 ?_
  exact hR _ _ _ u0 dX12_status_4 h
theorem ctX12_status {l : Launch} {D : va_G} {cy : Nat → ClassId} {kd : Nat → Nat} {o0 : Nat} {a0 : Nat → Nat}  {u0 : St} {post : Int32 → St → Prop} (h : qX12_status  u0 post) : CtI l D cy kd yX12_status cX12_status 1 1 .int [.ref o0] (fun u : St => (wX12 o0 a0 cy u [])) u0 (fun r u => post r u) := met_i (by decide) (Nat.le_of_ble_eq_true rfl) (fun C e1 e2 e3 e4 e5 hC hR => by subst e1 e2 e3 e4; exact kX12_status hC e5 hR h)
theorem dX12_top_0 : decode cX12_top 0 = .ok (.aload_n 0, 1) := by decide +kernel
theorem dX12_top_1 : decode cX12_top 1 = .ok (.getfield 85, 3) := by decide +kernel
theorem dX12_top_4 : decode cX12_top 4 = .ok (.lreturn, 1) := by decide +kernel
def qX12_top  (u0 : St) (post : Int64 → St → Prop) : Prop := post (gj u0 3) u0
set_option maxRecDepth 100000 in
set_option maxHeartbeats 4000000 in
theorem kX12_top {C : Cx} {o0 : Nat} {a0 : Nat → Nat} (hC : Fx C cX12_top 1 RX12) (hR0 : xR C = rm 1) {post : Int64 → St → Prop} (hR : RJ C cX12_top 1 (fun u : St => (wX12 o0 a0 (xy C) u [])) (fun r u => post r u))  {u0 : St} (h : qX12_top  u0 post) : G C 0 0 1 (wX12 o0 a0 (xy C) u0 []) 0 [(0, .ref o0)] [] := by
  refine g_aload_n (pc := 0) hC 0 dX12_top_0 rfl rfl ?_
  refine getX12_3 (pc := 1) hC (F := fun Z => Z) (X := []) (fun _ => rfl) fl_X12_85 dX12_top_1 ?_
  exact hR _ _ _ u0 dX12_top_4 h
theorem ctX12_top {l : Launch} {D : va_G} {cy : Nat → ClassId} {kd : Nat → Nat} {o0 : Nat} {a0 : Nat → Nat}  {u0 : St} {post : Int64 → St → Prop} (h : qX12_top  u0 post) : CtL l D cy kd yX12_top cX12_top 1 1  [.ref o0] (fun u : St => (wX12 o0 a0 cy u [])) u0 (fun r u => post r u) := met_l (by decide) (Nat.le_of_ble_eq_true rfl) (fun C e1 e2 e3 e4 e5 hC hR => by subst e1 e2 e3 e4; exact kX12_top hC e5 hR h)
theorem dX12_bottom_0 : decode cX12_bottom 0 = .ok (.aload_n 0, 1) := by decide +kernel
theorem dX12_bottom_1 : decode cX12_bottom 1 = .ok (.getfield 17, 3) := by decide +kernel
theorem dX12_bottom_4 : decode cX12_bottom 4 = .ok (.lreturn, 1) := by decide +kernel
def qX12_bottom  (u0 : St) (post : Int64 → St → Prop) : Prop := post (gj u0 4) u0
set_option maxRecDepth 100000 in
set_option maxHeartbeats 4000000 in
theorem kX12_bottom {C : Cx} {o0 : Nat} {a0 : Nat → Nat} (hC : Fx C cX12_bottom 1 RX12) (hR0 : xR C = rm 1) {post : Int64 → St → Prop} (hR : RJ C cX12_bottom 1 (fun u : St => (wX12 o0 a0 (xy C) u [])) (fun r u => post r u))  {u0 : St} (h : qX12_bottom  u0 post) : G C 0 0 1 (wX12 o0 a0 (xy C) u0 []) 0 [(0, .ref o0)] [] := by
  refine g_aload_n (pc := 0) hC 0 dX12_bottom_0 rfl rfl ?_
  refine getX12_4 (pc := 1) hC (F := fun Z => Z) (X := []) (fun _ => rfl) fl_X12_17 dX12_bottom_1 ?_
  exact hR _ _ _ u0 dX12_bottom_4 h
theorem ctX12_bottom {l : Launch} {D : va_G} {cy : Nat → ClassId} {kd : Nat → Nat} {o0 : Nat} {a0 : Nat → Nat}  {u0 : St} {post : Int64 → St → Prop} (h : qX12_bottom  u0 post) : CtL l D cy kd yX12_bottom cX12_bottom 1 1  [.ref o0] (fun u : St => (wX12 o0 a0 cy u [])) u0 (fun r u => post r u) := met_l (by decide) (Nat.le_of_ble_eq_true rfl) (fun C e1 e2 e3 e4 e5 hC hR => by subst e1 e2 e3 e4; exact kX12_bottom hC e5 hR h)
theorem dX12_is_0 : decode cX12_is 0 = .ok (.aload_n 0, 1) := by decide +kernel
theorem dX12_is_1 : decode cX12_is 1 = .ok (.iload_n 1, 1) := by decide +kernel
theorem dX12_is_2 : decode cX12_is 2 = .ok (.putfield 82, 3) := by decide +kernel
theorem dX12_is_5 : decode cX12_is 5 = .ok (.iload_n 1, 1) := by decide +kernel
theorem dX12_is_6 : decode cX12_is 6 = .ok (.ifCond .ne 7, 3) := by decide +kernel
theorem dX12_is_9 : decode cX12_is 9 = .ok (.iconst 1, 1) := by decide +kernel
theorem dX12_is_10 : decode cX12_is 10 = .ok (.goto 4, 3) := by decide +kernel
theorem dX12_is_13 : decode cX12_is 13 = .ok (.iconst 0, 1) := by decide +kernel
theorem dX12_is_14 : decode cX12_is 14 = .ok (.ireturn, 1) := by decide +kernel
def qX12_is_b14  (post : Int32 → St → Prop)  (s0 : Int32) (u0 : St) : Prop := (bz s0 ∧ post s0 u0)
set_option maxRecDepth 100000 in
set_option maxHeartbeats 4000000 in
theorem kX12_is_b14 {C : Cx} {o0 : Nat} {a0 : Nat → Nat} (hC : Fx C cX12_is 2 RX12) (hR0 : xR C = rm 1) {post : Int32 → St → Prop} (hR : RZ C cX12_is 2 (fun u : St => (wX12 o0 a0 (xy C) u [])) (fun r u => post r u))  {s0 : Int32} {u0 : St} (h : qX12_is_b14 post s0 u0) : G C 0 0 2 (wX12 o0 a0 (xy C) u0 []) 14 [] [.int s0] := by
  exact hR _ _ _ u0 dX12_is_14 h.1 h.2
def qX12_is (x1 : Int32) (u0 : St) (post : Int32 → St → Prop) : Prop := ∀ u_2 : St, u_2 = (si u0 2 x1) → ((¬ x1 = 0 → qX12_is_b14 post (0 : Int32) u_2) ∧ (x1 = 0 → qX12_is_b14 post (1 : Int32) u_2))
set_option maxRecDepth 100000 in
set_option maxHeartbeats 4000000 in
theorem kX12_is {C : Cx} {o0 : Nat} {a0 : Nat → Nat} (hC : Fx C cX12_is 2 RX12) (hR0 : xR C = rm 1) {post : Int32 → St → Prop} (hR : RZ C cX12_is 2 (fun u : St => (wX12 o0 a0 (xy C) u [])) (fun r u => post r u)) {x1 : Int32} {u0 : St} (h : qX12_is x1 u0 post) : G C 0 0 2 (wX12 o0 a0 (xy C) u0 []) 0 [(0, .ref o0), (1, .int x1)] [] := by
  refine g_aload_n (pc := 0) hC 0 dX12_is_0 rfl rfl ?_
  refine g_iload_n (pc := 1) hC 1 dX12_is_1 rfl rfl ?_
  refine putX12_2 (pc := 2) hC (F := fun Z => Z) (X := []) (fun _ => rfl) fl_X12_82 dX12_is_2 ?_
  refine g_st (w := fun z => (wX12 o0 a0 (xy C) z [])) (u := (si u0 2 x1)) (fun u_2 eu_2 => ?_)
  have h := h u_2 eu_2
  refine g_iload_n (pc := 5) hC 1 dX12_is_5 rfl rfl ?_
  refine g_if_ne (pc := 6) (tgt := 13) hC dX12_is_6 (by decide) (fun c_3 => ?_) (fun c_3 => ?_)
  · have h := h.1 c_3
    refine g_iconst (pc := 13) (v := 0) hC dX12_is_13 (by decide) ?_
    refine g_sub (lv' := []) [] rfl ?_
    exact kX12_is_b14 hC hR0 hR  h
  · have h := h.2 c_3
    refine g_iconst (pc := 9) (v := 1) hC dX12_is_9 (by decide) ?_
    refine g_goto (pc := 10) (tgt := 14) hC dX12_is_10 (by decide) ?_
    refine g_sub (lv' := []) [] rfl ?_
    exact kX12_is_b14 hC hR0 hR  h
theorem ctX12_is {l : Launch} {D : va_G} {cy : Nat → ClassId} {kd : Nat → Nat} {o0 : Nat} {a0 : Nat → Nat} {x1 : Int32} {u0 : St} {post : Int32 → St → Prop} (h : qX12_is x1 u0 post) : CtI l D cy kd yX12_is cX12_is 2 1 .boolean [.ref o0, .int x1] (fun u : St => (wX12 o0 a0 cy u [])) u0 (fun r u => post r u) := met_z (by decide) (Nat.le_of_ble_eq_true rfl) (fun C e1 e2 e3 e4 e5 hC hR => by subst e1 e2 e3 e4; exact kX12_is hC e5 hR h)
theorem dX12_refuse_0 : decode cX12_refuse 0 = .ok (.aload_n 0, 1) := by decide +kernel
theorem dX12_refuse_1 : decode cX12_refuse 1 = .ok (.iload_n 1, 1) := by decide +kernel
theorem dX12_refuse_2 : decode cX12_refuse 2 = .ok (.putfield 82, 3) := by decide +kernel
theorem dX12_refuse_5 : decode cX12_refuse 5 = .ok (.iconst (-1), 1) := by decide +kernel
theorem dX12_refuse_6 : decode cX12_refuse 6 = .ok (.ireturn, 1) := by decide +kernel
def qX12_refuse (x1 : Int32) (u0 : St) (post : Int32 → St → Prop) : Prop := ∀ u_2 : St, u_2 = (si u0 2 x1) → post (-1 : Int32) u_2
set_option maxRecDepth 100000 in
set_option maxHeartbeats 4000000 in
theorem kX12_refuse {C : Cx} {o0 : Nat} {a0 : Nat → Nat} (hC : Fx C cX12_refuse 2 RX12) (hR0 : xR C = rm 1) {post : Int32 → St → Prop} (hR : RI C cX12_refuse 2 (fun u : St => (wX12 o0 a0 (xy C) u [])) (fun r u => post r u)) {x1 : Int32} {u0 : St} (h : qX12_refuse x1 u0 post) : G C 0 0 2 (wX12 o0 a0 (xy C) u0 []) 0 [(0, .ref o0), (1, .int x1)] [] := by
  refine g_aload_n (pc := 0) hC 0 dX12_refuse_0 rfl rfl ?_
  refine g_iload_n (pc := 1) hC 1 dX12_refuse_1 rfl rfl ?_
  refine putX12_2 (pc := 2) hC (F := fun Z => Z) (X := []) (fun _ => rfl) fl_X12_82 dX12_refuse_2 ?_
  refine g_st (w := fun z => (wX12 o0 a0 (xy C) z [])) (u := (si u0 2 x1)) (fun u_2 eu_2 => ?_)
  have h := h u_2 eu_2
  refine g_iconst (pc := 5) (v := -1) hC dX12_refuse_5 (by decide) ?_
  exact hR _ _ _ u_2 dX12_refuse_6 h
theorem ctX12_refuse {l : Launch} {D : va_G} {cy : Nat → ClassId} {kd : Nat → Nat} {o0 : Nat} {a0 : Nat → Nat} {x1 : Int32} {u0 : St} {post : Int32 → St → Prop} (h : qX12_refuse x1 u0 post) : CtI l D cy kd yX12_refuse cX12_refuse 2 1 .int [.ref o0, .int x1] (fun u : St => (wX12 o0 a0 cy u [])) u0 (fun r u => post r u) := met_i (by decide) (Nat.le_of_ble_eq_true rfl) (fun C e1 e2 e3 e4 e5 hC hR => by subst e1 e2 e3 e4; exact kX12_refuse hC e5 hR h)
theorem dX12_gives_0 : decode cX12_gives 0 = .ok (.aload_n 0, 1) := by decide +kernel
theorem dX12_gives_1 : decode cX12_gives 1 = .ok (.iconst 0, 1) := by decide +kernel
theorem dX12_gives_2 : decode cX12_gives 2 = .ok (.putfield 82, 3) := by decide +kernel
theorem dX12_gives_5 : decode cX12_gives 5 = .ok (.iload_n 1, 1) := by decide +kernel
theorem dX12_gives_6 : decode cX12_gives 6 = .ok (.ireturn, 1) := by decide +kernel
def qX12_gives (x1 : Int32) (u0 : St) (post : Int32 → St → Prop) : Prop := ∀ u_2 : St, u_2 = (si u0 2 (0 : Int32)) → post x1 u_2
set_option maxRecDepth 100000 in
set_option maxHeartbeats 4000000 in
theorem kX12_gives {C : Cx} {o0 : Nat} {a0 : Nat → Nat} (hC : Fx C cX12_gives 2 RX12) (hR0 : xR C = rm 1) {post : Int32 → St → Prop} (hR : RI C cX12_gives 2 (fun u : St => (wX12 o0 a0 (xy C) u [])) (fun r u => post r u)) {x1 : Int32} {u0 : St} (h : qX12_gives x1 u0 post) : G C 0 0 2 (wX12 o0 a0 (xy C) u0 []) 0 [(0, .ref o0), (1, .int x1)] [] := by
  refine g_aload_n (pc := 0) hC 0 dX12_gives_0 rfl rfl ?_
  refine g_iconst (pc := 1) (v := 0) hC dX12_gives_1 (by decide) ?_
  refine putX12_2 (pc := 2) hC (F := fun Z => Z) (X := []) (fun _ => rfl) fl_X12_82 dX12_gives_2 ?_
  refine g_st (w := fun z => (wX12 o0 a0 (xy C) z [])) (u := (si u0 2 (0 : Int32))) (fun u_2 eu_2 => ?_)
  have h := h u_2 eu_2
  refine g_iload_n (pc := 5) hC 1 dX12_gives_5 rfl rfl ?_
  exact hR _ _ _ u_2 dX12_gives_6 h
theorem ctX12_gives {l : Launch} {D : va_G} {cy : Nat → ClassId} {kd : Nat → Nat} {o0 : Nat} {a0 : Nat → Nat} {x1 : Int32} {u0 : St} {post : Int32 → St → Prop} (h : qX12_gives x1 u0 post) : CtI l D cy kd yX12_gives cX12_gives 2 1 .int [.ref o0, .int x1] (fun u : St => (wX12 o0 a0 cy u [])) u0 (fun r u => post r u) := met_i (by decide) (Nat.le_of_ble_eq_true rfl) (fun C e1 e2 e3 e4 e5 hC hR => by subst e1 e2 e3 e4; exact kX12_gives hC e5 hR h)
theorem dX12_orNone_0 : decode cX12_orNone 0 = .ok (.iload_n 1, 1) := by decide +kernel
theorem dX12_orNone_1 : decode cX12_orNone 1 = .ok (.iconst (-1), 1) := by decide +kernel
theorem dX12_orNone_2 : decode cX12_orNone 2 = .ok (.if_icmp .ne 10, 3) := by decide +kernel
theorem dX12_orNone_5 : decode cX12_orNone 5 = .ok (.aload_n 0, 1) := by decide +kernel
theorem dX12_orNone_6 : decode cX12_orNone 6 = .ok (.bipush 6, 2) := by decide +kernel
theorem dX12_orNone_8 : decode cX12_orNone 8 = .ok (.invokevirtual 88, 3) := by decide +kernel
theorem dX12_orNone_11 : decode cX12_orNone 11 = .ok (.ireturn, 1) := by decide +kernel
theorem dX12_orNone_12 : decode cX12_orNone 12 = .ok (.aload_n 0, 1) := by decide +kernel
theorem dX12_orNone_13 : decode cX12_orNone 13 = .ok (.iload_n 1, 1) := by decide +kernel
theorem dX12_orNone_14 : decode cX12_orNone 14 = .ok (.invokevirtual 92, 3) := by decide +kernel
theorem dX12_orNone_17 : decode cX12_orNone 17 = .ok (.ireturn, 1) := by decide +kernel
def qX12_orNone (x1 : Int32) (u0 : St) (post : Int32 → St → Prop) : Prop := ((¬ x1 = (-1 : Int32) → qX12_gives x1 u0 (fun r_9 u_8 => post r_9 u_8)) ∧ (x1 = (-1 : Int32) → qX12_refuse (6 : Int32) u0 (fun r_12 u_11 => post r_12 u_11)))
set_option maxRecDepth 100000 in
set_option maxHeartbeats 4000000 in
theorem kX12_orNone {C : Cx} {o0 : Nat} {a0 : Nat → Nat} (hC : Fx C cX12_orNone 2 RX12) (hR0 : xR C = rm 2) {post : Int32 → St → Prop} (hR : RI C cX12_orNone 2 (fun u : St => (wX12 o0 a0 (xy C) u [])) (fun r u => post r u)) {x1 : Int32} {u0 : St} (h : qX12_orNone x1 u0 post) : G C 0 0 2 (wX12 o0 a0 (xy C) u0 []) 0 [(0, .ref o0), (1, .int x1)] [] := by
  refine g_iload_n (pc := 0) hC 1 dX12_orNone_0 rfl rfl ?_
  refine g_iconst (pc := 1) (v := -1) hC dX12_orNone_1 (by decide) ?_
  refine g_icmp_ne (pc := 2) (tgt := 12) hC dX12_orNone_2 (by decide) (fun c_7 => ?_) (fun c_7 => ?_)
  · have h := h.1 c_7
    refine g_aload_n (pc := 12) hC 0 dX12_orNone_12 rfl rfl ?_
    refine g_iload_n (pc := 13) hC 1 dX12_orNone_13 rfl rfl ?_
    refine g_callV_i (pc := 14) (wd := fun (u : St) Y => (wX12 o0 a0 (xy C) u Y)) (F := fun Z => Z) (X := []) (As := [.int x1]) (rest := []) (u := u0) hC (fun _ _ => rfl) (fun _ => rfl) (ctX12_gives h) wvX12_gives ml_X12_92 (ci := 10) (q0 := 0) rfl rfl rfl rfl (rmok hR0 rfl) ⟨Nat.zero_le _, Nat.zero_le _⟩ rfl (Nat.le_of_ble_eq_true rfl) dX12_orNone_14 (fun r_9 u_8 h => ?_)
    exact hR _ _ _ u_8 dX12_orNone_17 h
  · have h := h.2 c_7
    refine g_aload_n (pc := 5) hC 0 dX12_orNone_5 rfl rfl ?_
    refine g_bipush (pc := 6) (v := 6) hC dX12_orNone_6 (by decide) ?_
    refine g_callV_i (pc := 8) (wd := fun (u : St) Y => (wX12 o0 a0 (xy C) u Y)) (F := fun Z => Z) (X := []) (As := [.int (6 : Int32)]) (rest := []) (u := u0) hC (fun _ _ => rfl) (fun _ => rfl) (ctX12_refuse h) wvX12_refuse ml_X12_88 (ci := 10) (q0 := 0) rfl rfl rfl rfl (rmok hR0 rfl) ⟨Nat.zero_le _, Nat.zero_le _⟩ rfl (Nat.le_of_ble_eq_true rfl) dX12_orNone_8 (fun r_12 u_11 h => ?_)
    exact hR _ _ _ u_11 dX12_orNone_11 h
theorem ctX12_orNone {l : Launch} {D : va_G} {cy : Nat → ClassId} {kd : Nat → Nat} {o0 : Nat} {a0 : Nat → Nat} {x1 : Int32} {u0 : St} {post : Int32 → St → Prop} (h : qX12_orNone x1 u0 post) : CtI l D cy kd yX12_orNone cX12_orNone 2 2 .int [.ref o0, .int x1] (fun u : St => (wX12 o0 a0 cy u [])) u0 (fun r u => post r u) := met_i (by decide) (Nat.le_of_ble_eq_true rfl) (fun C e1 e2 e3 e4 e5 hC hR => by subst e1 e2 e3 e4; exact kX12_orNone hC e5 hR h)
theorem dX12_tellsBy_0 : decode cX12_tellsBy 0 = .ok (.lload_n 1, 1) := by decide +kernel
theorem dX12_tellsBy_1 : decode cX12_tellsBy 1 = .ok (.lstore 5, 2) := by decide +kernel
theorem dX12_tellsBy_3 : decode cX12_tellsBy 3 = .ok (.lload_n 3, 1) := by decide +kernel
theorem dX12_tellsBy_4 : decode cX12_tellsBy 4 = .ok (.lstore 7, 2) := by decide +kernel
theorem dX12_tellsBy_6 : decode cX12_tellsBy 6 = .ok (.lload 7, 2) := by decide +kernel
theorem dX12_tellsBy_8 : decode cX12_tellsBy 8 = .ok (.lconst 0, 1) := by decide +kernel
theorem dX12_tellsBy_9 : decode cX12_tellsBy 9 = .ok (.lcmp, 1) := by decide +kernel
theorem dX12_tellsBy_10 : decode cX12_tellsBy 10 = .ok (.ifCond .eq 21, 3) := by decide +kernel
theorem dX12_tellsBy_13 : decode cX12_tellsBy 13 = .ok (.lload 5, 2) := by decide +kernel
theorem dX12_tellsBy_15 : decode cX12_tellsBy 15 = .ok (.lload 7, 2) := by decide +kernel
theorem dX12_tellsBy_17 : decode cX12_tellsBy 17 = .ok (.lrem, 1) := by decide +kernel
theorem dX12_tellsBy_18 : decode cX12_tellsBy 18 = .ok (.lstore 9, 2) := by decide +kernel
theorem dX12_tellsBy_20 : decode cX12_tellsBy 20 = .ok (.lload 7, 2) := by decide +kernel
theorem dX12_tellsBy_22 : decode cX12_tellsBy 22 = .ok (.lstore 5, 2) := by decide +kernel
theorem dX12_tellsBy_24 : decode cX12_tellsBy 24 = .ok (.lload 9, 2) := by decide +kernel
theorem dX12_tellsBy_26 : decode cX12_tellsBy 26 = .ok (.lstore 7, 2) := by decide +kernel
theorem dX12_tellsBy_28 : decode cX12_tellsBy 28 = .ok (.goto (-22), 3) := by decide +kernel
theorem dX12_tellsBy_31 : decode cX12_tellsBy 31 = .ok (.aload_n 0, 1) := by decide +kernel
theorem dX12_tellsBy_32 : decode cX12_tellsBy 32 = .ok (.lload_n 1, 1) := by decide +kernel
theorem dX12_tellsBy_33 : decode cX12_tellsBy 33 = .ok (.lload 5, 2) := by decide +kernel
theorem dX12_tellsBy_35 : decode cX12_tellsBy 35 = .ok (.ldiv, 1) := by decide +kernel
theorem dX12_tellsBy_36 : decode cX12_tellsBy 36 = .ok (.putfield 85, 3) := by decide +kernel
theorem dX12_tellsBy_39 : decode cX12_tellsBy 39 = .ok (.aload_n 0, 1) := by decide +kernel
theorem dX12_tellsBy_40 : decode cX12_tellsBy 40 = .ok (.lload_n 3, 1) := by decide +kernel
theorem dX12_tellsBy_41 : decode cX12_tellsBy 41 = .ok (.lload 5, 2) := by decide +kernel
theorem dX12_tellsBy_43 : decode cX12_tellsBy 43 = .ok (.ldiv, 1) := by decide +kernel
theorem dX12_tellsBy_44 : decode cX12_tellsBy 44 = .ok (.putfield 17, 3) := by decide +kernel
theorem dX12_tellsBy_47 : decode cX12_tellsBy 47 = .ok (.aload_n 0, 1) := by decide +kernel
theorem dX12_tellsBy_48 : decode cX12_tellsBy 48 = .ok (.iconst 0, 1) := by decide +kernel
theorem dX12_tellsBy_49 : decode cX12_tellsBy 49 = .ok (.invokevirtual 95, 3) := by decide +kernel
theorem dX12_tellsBy_52 : decode cX12_tellsBy 52 = .ok (.ireturn, 1) := by decide +kernel
def qX12_tellsBy_b31  (post : Int32 → St → Prop)  (x1 : Int64) (x3 : Int64) (x5 : Int64) (u0 : St) : Prop := (¬ x5 = 0 ∧ ∀ u_6 : St, u_6 = (sj u0 3 (x1 / x5)) → (¬ x5 = 0 ∧ ∀ u_7 : St, u_7 = (sj u_6 4 (x3 / x5)) → qX12_is (0 : Int32) u_7 (fun r_9 u_8 => (bz r_9 ∧ post r_9 u_8))))
set_option maxRecDepth 100000 in
set_option maxHeartbeats 4000000 in
theorem kX12_tellsBy_b31 {C : Cx} {o0 : Nat} {a0 : Nat → Nat} (hC : Fx C cX12_tellsBy 11 RX12) (hR0 : xR C = rm 2) {post : Int32 → St → Prop} (hR : RZ C cX12_tellsBy 11 (fun u : St => (wX12 o0 a0 (xy C) u [])) (fun r u => post r u))  {x1 : Int64} {x3 : Int64} {x5 : Int64} {u0 : St} (h : qX12_tellsBy_b31 post x1 x3 x5 u0) : G C 0 0 11 (wX12 o0 a0 (xy C) u0 []) 31 [(0, .ref o0), (1, .long x1), (3, .long x3), (5, .long x5)] [] := by
  refine g_aload_n (pc := 31) hC 0 dX12_tellsBy_31 rfl rfl ?_
  refine g_lload_n (pc := 32) hC 1 dX12_tellsBy_32 rfl rfl ?_
  refine g_lload (pc := 33) hC 3 dX12_tellsBy_33 rfl ?_
  refine g_ldiv (pc := 35) hC dX12_tellsBy_35 h.1 ?_
  have h := h.2
  refine putX12_3 (pc := 36) hC (F := fun Z => Z) (X := []) (fun _ => rfl) fl_X12_85 dX12_tellsBy_36 ?_
  refine g_st (w := fun z => (wX12 o0 a0 (xy C) z [])) (u := (sj u0 3 (x1 / x5))) (fun u_6 eu_6 => ?_)
  have h := h u_6 eu_6
  refine g_aload_n (pc := 39) hC 0 dX12_tellsBy_39 rfl rfl ?_
  refine g_lload_n (pc := 40) hC 2 dX12_tellsBy_40 rfl rfl ?_
  refine g_lload (pc := 41) hC 3 dX12_tellsBy_41 rfl ?_
  refine g_ldiv (pc := 43) hC dX12_tellsBy_43 h.1 ?_
  have h := h.2
  refine putX12_4 (pc := 44) hC (F := fun Z => Z) (X := []) (fun _ => rfl) fl_X12_17 dX12_tellsBy_44 ?_
  refine g_st (w := fun z => (wX12 o0 a0 (xy C) z [])) (u := (sj u_6 4 (x3 / x5))) (fun u_7 eu_7 => ?_)
  have h := h u_7 eu_7
  refine g_aload_n (pc := 47) hC 0 dX12_tellsBy_47 rfl rfl ?_
  refine g_iconst (pc := 48) (v := 0) hC dX12_tellsBy_48 (by decide) ?_
  refine g_callV_i (pc := 49) (wd := fun (u : St) Y => (wX12 o0 a0 (xy C) u Y)) (F := fun Z => Z) (X := []) (As := [.int (0 : Int32)]) (rest := []) (u := u_7) hC (fun _ _ => rfl) (fun _ => rfl) (ctX12_is h) wvX12_is ml_X12_95 (ci := 10) (q0 := 0) rfl rfl rfl rfl (rmok hR0 rfl) ⟨Nat.zero_le _, Nat.zero_le _⟩ rfl (Nat.le_of_ble_eq_true rfl) dX12_tellsBy_49 (fun r_9 u_8 h => ?_)
  exact hR _ _ _ u_8 dX12_tellsBy_52 h.1 h.2
def qX12_tellsBy_l6  (post : Int32 → St → Prop) (K6 : Int64 → Int64 → Int64 → Int64 → St → Prop) (x1 : Int64) (x3 : Int64) (x5 : Int64) (x7 : Int64) (u0 : St) : Prop := (((lg_cmp x7 (0 : Int64)) = 0 → qX12_tellsBy_b31 post x1 x3 x5 u0) ∧ (¬ (lg_cmp x7 (0 : Int64)) = 0 → (¬ x7 = 0 ∧ ∀ x9_12 : Int64, x9_12 = (x5 - x5 / x7 * x7) → K6 x1 x3 x7 x9_12 u0)))
set_option maxRecDepth 100000 in
set_option maxHeartbeats 4000000 in
theorem kX12_tellsBy_l6 {C : Cx} {o0 : Nat} {a0 : Nat → Nat} (hC : Fx C cX12_tellsBy 11 RX12) (hR0 : xR C = rm 2) {post : Int32 → St → Prop} (hR : RZ C cX12_tellsBy 11 (fun u : St => (wX12 o0 a0 (xy C) u [])) (fun r u => post r u))  {K6 : Int64 → Int64 → Int64 → Int64 → St → Prop} (hK6 : ∀ (x1 : Int64) (x3 : Int64) (x5 : Int64) (x7 : Int64) (u0 : St), K6 x1 x3 x5 x7 u0 → G C 0 0 11 (wX12 o0 a0 (xy C) u0 []) 6 [(0, .ref o0), (1, .long x1), (3, .long x3), (5, .long x5), (7, .long x7)] []) {x1 : Int64} {x3 : Int64} {x5 : Int64} {x7 : Int64} {u0 : St} (h : qX12_tellsBy_l6 post K6 x1 x3 x5 x7 u0) : G C 0 0 11 (wX12 o0 a0 (xy C) u0 []) 6 [(0, .ref o0), (1, .long x1), (3, .long x3), (5, .long x5), (7, .long x7)] [] := by
  refine g_lload (pc := 6) hC 4 dX12_tellsBy_6 rfl ?_
  refine g_lconst (pc := 8) (v := 0) hC dX12_tellsBy_8 (by decide) ?_
  refine g_lcmp (pc := 9) hC dX12_tellsBy_9 ?_
  refine g_if_eq (pc := 10) (tgt := 31) hC dX12_tellsBy_10 (by decide) (fun c_11 => ?_) (fun c_11 => ?_)
  · have h := h.1 c_11
    refine g_sub (lv' := [(0, .ref o0), (1, .long x1), (3, .long x3), (5, .long x5)]) [0, 1, 2, 3] rfl ?_
    exact kX12_tellsBy_b31 hC hR0 hR  h
  · have h := h.2 c_11
    refine g_lload (pc := 13) hC 3 dX12_tellsBy_13 rfl ?_
    refine g_lload (pc := 15) hC 4 dX12_tellsBy_15 rfl ?_
    refine g_lrem (pc := 17) hC dX12_tellsBy_17 h.1 ?_
    have h := h.2
    refine g_topl (fun x9_12 ex9_12 => ?_)
    have h := h x9_12 ex9_12
    refine g_lstore (pc := 18) (lv' := [(9, .long x9_12), (0, .ref o0), (1, .long x1), (3, .long x3), (5, .long x5), (7, .long x7)]) hC dX12_tellsBy_18 (Nat.le_of_ble_eq_true rfl) rfl ?_
    refine g_lload (pc := 20) hC 5 dX12_tellsBy_20 rfl ?_
    refine g_lstore (pc := 22) (lv' := [(5, .long x7), (9, .long x9_12), (0, .ref o0), (1, .long x1), (3, .long x3), (7, .long x7)]) hC dX12_tellsBy_22 (Nat.le_of_ble_eq_true rfl) rfl ?_
    refine g_lload (pc := 24) hC 1 dX12_tellsBy_24 rfl ?_
    refine g_lstore (pc := 26) (lv' := [(7, .long x9_12), (5, .long x7), (9, .long x9_12), (0, .ref o0), (1, .long x1), (3, .long x3)]) hC dX12_tellsBy_26 (Nat.le_of_ble_eq_true rfl) rfl ?_
    refine g_goto (pc := 28) (tgt := 6) hC dX12_tellsBy_28 (by decide) ?_
    refine g_sub (lv' := [(0, .ref o0), (1, .long x1), (3, .long x3), (5, .long x7), (7, .long x9_12)]) [3, 4, 5, 1, 0] rfl ?_
    exact hK6 _ _ _ _ _ h
def qX12_tellsBy_L6  (post : Int32 → St → Prop)  : Nat → Int64 → Int64 → Int64 → Int64 → St → Prop
  | 0 => fun _ _ _ _ _ => False
  | n + 1 => qX12_tellsBy_l6 post (qX12_tellsBy_L6 post n)
theorem kX12_tellsBy_L6 {C : Cx} {o0 : Nat} {a0 : Nat → Nat} (hC : Fx C cX12_tellsBy 11 RX12) (hR0 : xR C = rm 2) {post : Int32 → St → Prop} (hR : RZ C cX12_tellsBy 11 (fun u : St => (wX12 o0 a0 (xy C) u [])) (fun r u => post r u))  : ∀ (n : Nat) (x1 : Int64) (x3 : Int64) (x5 : Int64) (x7 : Int64) (u0 : St), qX12_tellsBy_L6 post n x1 x3 x5 x7 u0 → G C 0 0 11 (wX12 o0 a0 (xy C) u0 []) 6 [(0, .ref o0), (1, .long x1), (3, .long x3), (5, .long x5), (7, .long x7)] [] := by
  intro n
  induction n with
  | zero => intro x1 x3 x5 x7 u0 h; exact h.elim
  | succ n ih => intro x1 x3 x5 x7 u0 h; exact kX12_tellsBy_l6 hC hR0 hR  ih h
def qX12_tellsBy (x1 : Int64) (x3 : Int64) (u0 : St) (post : Int32 → St → Prop) : Prop := ∃ n_13 : Nat, qX12_tellsBy_L6 post n_13 x1 x3 x1 x3 u0
set_option maxRecDepth 100000 in
set_option maxHeartbeats 4000000 in
theorem kX12_tellsBy {C : Cx} {o0 : Nat} {a0 : Nat → Nat} (hC : Fx C cX12_tellsBy 11 RX12) (hR0 : xR C = rm 2) {post : Int32 → St → Prop} (hR : RZ C cX12_tellsBy 11 (fun u : St => (wX12 o0 a0 (xy C) u [])) (fun r u => post r u)) {x1 : Int64} {x3 : Int64} {u0 : St} (h : qX12_tellsBy x1 x3 u0 post) : G C 0 0 11 (wX12 o0 a0 (xy C) u0 []) 0 [(0, .ref o0), (1, .long x1), (3, .long x3)] [] := by
  refine g_lload_n (pc := 0) hC 1 dX12_tellsBy_0 rfl rfl ?_
  refine g_lstore (pc := 1) (lv' := [(5, .long x1), (0, .ref o0), (1, .long x1), (3, .long x3)]) hC dX12_tellsBy_1 (Nat.le_of_ble_eq_true rfl) rfl ?_
  refine g_lload_n (pc := 3) hC 3 dX12_tellsBy_3 rfl rfl ?_
  refine g_lstore (pc := 4) (lv' := [(7, .long x3), (5, .long x1), (0, .ref o0), (1, .long x1), (3, .long x3)]) hC dX12_tellsBy_4 (Nat.le_of_ble_eq_true rfl) rfl ?_
  refine g_sub (lv' := [(0, .ref o0), (1, .long x1), (3, .long x3), (5, .long x1), (7, .long x3)]) [2, 3, 4, 1, 0] rfl ?_
  obtain ⟨n_13, h⟩ := h
  exact kX12_tellsBy_L6 hC hR0 hR  n_13 _ _ _ _ _ h
theorem ctX12_tellsBy {l : Launch} {D : va_G} {cy : Nat → ClassId} {kd : Nat → Nat} {o0 : Nat} {a0 : Nat → Nat} {x1 : Int64} {x3 : Int64} {u0 : St} {post : Int32 → St → Prop} (h : qX12_tellsBy x1 x3 u0 post) : CtI l D cy kd yX12_tellsBy cX12_tellsBy 11 2 .boolean [.ref o0, .long x1, .long x3] (fun u : St => (wX12 o0 a0 cy u [])) u0 (fun r u => post r u) := met_z (by decide) (Nat.le_of_ble_eq_true rfl) (fun C e1 e2 e3 e4 e5 hC hR => by subst e1 e2 e3 e4; exact kX12_tellsBy hC e5 hR h)
theorem dX12_isTray_0 : decode cX12_isTray 0 = .ok (.iload_n 0, 1) := by decide +kernel
theorem dX12_isTray_1 : decode cX12_isTray 1 = .ok (.ifCond .lt 12, 3) := by decide +kernel
theorem dX12_isTray_4 : decode cX12_isTray 4 = .ok (.iload_n 0, 1) := by decide +kernel
theorem dX12_isTray_5 : decode cX12_isTray 5 = .ok (.iconst 4, 1) := by decide +kernel
theorem dX12_isTray_6 : decode cX12_isTray 6 = .ok (.if_icmp .ge 7, 3) := by decide +kernel
theorem dX12_isTray_9 : decode cX12_isTray 9 = .ok (.iconst 1, 1) := by decide +kernel
theorem dX12_isTray_10 : decode cX12_isTray 10 = .ok (.goto 4, 3) := by decide +kernel
theorem dX12_isTray_13 : decode cX12_isTray 13 = .ok (.iconst 0, 1) := by decide +kernel
theorem dX12_isTray_14 : decode cX12_isTray 14 = .ok (.ireturn, 1) := by decide +kernel
def qX12_isTray_b14  (post : Int32 → Prop)  (s0 : Int32) : Prop := (bz s0 ∧ post s0 )
set_option maxRecDepth 100000 in
set_option maxHeartbeats 4000000 in
theorem kX12_isTray_b14 {C : Cx}  (hC : Fx C cX12_isTray 1 RX12) (hR0 : xR C = rm 1) {post : Int32 → Prop} (hR : RZ C cX12_isTray 1 (fun _ : Unit => ([] : va_W)) (fun r _ => post r ))  {s0 : Int32} (h : qX12_isTray_b14 post s0) : G C 0 0 1 [] 14 [] [.int s0] := by
  exact hR _ _ _ () dX12_isTray_14 h.1 h.2
def qX12_isTray_b13  (post : Int32 → Prop)   : Prop := qX12_isTray_b14 post (0 : Int32)
set_option maxRecDepth 100000 in
set_option maxHeartbeats 4000000 in
theorem kX12_isTray_b13 {C : Cx}  (hC : Fx C cX12_isTray 1 RX12) (hR0 : xR C = rm 1) {post : Int32 → Prop} (hR : RZ C cX12_isTray 1 (fun _ : Unit => ([] : va_W)) (fun r _ => post r ))   (h : qX12_isTray_b13 post) : G C 0 0 1 [] 13 [] [] := by
  refine g_iconst (pc := 13) (v := 0) hC dX12_isTray_13 (by decide) ?_
  exact kX12_isTray_b14 hC hR0 hR  h
def qX12_isTray (x0 : Int32)  (post : Int32 → Prop) : Prop := ((x0 < 0 → qX12_isTray_b13 post ) ∧ (¬ x0 < 0 → (((4 : Int32) ≤ x0 → qX12_isTray_b13 post ) ∧ (¬ (4 : Int32) ≤ x0 → qX12_isTray_b14 post (1 : Int32)))))
set_option maxRecDepth 100000 in
set_option maxHeartbeats 4000000 in
theorem kX12_isTray {C : Cx}  (hC : Fx C cX12_isTray 1 RX12) (hR0 : xR C = rm 1) {post : Int32 → Prop} (hR : RZ C cX12_isTray 1 (fun _ : Unit => ([] : va_W)) (fun r _ => post r )) {x0 : Int32}  (h : qX12_isTray x0  post) : G C 0 0 1 [] 0 [(0, .int x0)] [] := by
  refine g_iload_n (pc := 0) hC 0 dX12_isTray_0 rfl rfl ?_
  refine g_if_lt (pc := 1) (tgt := 13) hC dX12_isTray_1 (by decide) (fun c_1 => ?_) (fun c_1 => ?_)
  · have h := h.1 c_1
    refine g_sub (lv' := []) [] rfl ?_
    exact kX12_isTray_b13 hC hR0 hR  h
  · have h := h.2 c_1
    refine g_iload_n (pc := 4) hC 0 dX12_isTray_4 rfl rfl ?_
    refine g_iconst (pc := 5) (v := 4) hC dX12_isTray_5 (by decide) ?_
    refine g_icmp_ge (pc := 6) (tgt := 13) hC dX12_isTray_6 (by decide) (fun c_2 => ?_) (fun c_2 => ?_)
    · have h := h.1 c_2
      refine g_sub (lv' := []) [] rfl ?_
      exact kX12_isTray_b13 hC hR0 hR  h
    · have h := h.2 c_2
      refine g_iconst (pc := 9) (v := 1) hC dX12_isTray_9 (by decide) ?_
      refine g_goto (pc := 10) (tgt := 14) hC dX12_isTray_10 (by decide) ?_
      refine g_sub (lv' := []) [] rfl ?_
      exact kX12_isTray_b14 hC hR0 hR  h
theorem ctX12_isTray {l : Launch} {D : va_G} {cy : Nat → ClassId} {kd : Nat → Nat}  {x0 : Int32}  {post : Int32 → Prop} (h : qX12_isTray x0  post) : CtI l D cy kd yX12_isTray cX12_isTray 1 1 .boolean [.int x0] (fun _ : Unit => ([] : va_W)) () (fun r _ => post r ) := met_z (by decide) (Nat.le_of_ble_eq_true rfl) (fun C e1 e2 e3 e4 e5 hC hR => by subst e1 e2 e3 e4; exact kX12_isTray hC e5 hR h)
theorem dX12_cut_0 : decode cX12_cut 0 = .ok (.iload_n 2, 1) := by decide +kernel
theorem dX12_cut_1 : decode cX12_cut 1 = .ok (.ifCond .ne 10, 3) := by decide +kernel
theorem dX12_cut_4 : decode cX12_cut 4 = .ok (.lload_n 0, 1) := by decide +kernel
theorem dX12_cut_5 : decode cX12_cut 5 = .ok (.l2i, 1) := by decide +kernel
theorem dX12_cut_6 : decode cX12_cut 6 = .ok (.i2b, 1) := by decide +kernel
theorem dX12_cut_7 : decode cX12_cut 7 = .ok (.i2l, 1) := by decide +kernel
theorem dX12_cut_8 : decode cX12_cut 8 = .ok (.goto 27, 3) := by decide +kernel
theorem dX12_cut_11 : decode cX12_cut 11 = .ok (.iload_n 2, 1) := by decide +kernel
theorem dX12_cut_12 : decode cX12_cut 12 = .ok (.iconst 1, 1) := by decide +kernel
theorem dX12_cut_13 : decode cX12_cut 13 = .ok (.if_icmp .ne 10, 3) := by decide +kernel
theorem dX12_cut_16 : decode cX12_cut 16 = .ok (.lload_n 0, 1) := by decide +kernel
theorem dX12_cut_17 : decode cX12_cut 17 = .ok (.l2i, 1) := by decide +kernel
theorem dX12_cut_18 : decode cX12_cut 18 = .ok (.i2s, 1) := by decide +kernel
theorem dX12_cut_19 : decode cX12_cut 19 = .ok (.i2l, 1) := by decide +kernel
theorem dX12_cut_20 : decode cX12_cut 20 = .ok (.goto 15, 3) := by decide +kernel
theorem dX12_cut_23 : decode cX12_cut 23 = .ok (.iload_n 2, 1) := by decide +kernel
theorem dX12_cut_24 : decode cX12_cut 24 = .ok (.iconst 2, 1) := by decide +kernel
theorem dX12_cut_25 : decode cX12_cut 25 = .ok (.if_icmp .ne 9, 3) := by decide +kernel
theorem dX12_cut_28 : decode cX12_cut 28 = .ok (.lload_n 0, 1) := by decide +kernel
theorem dX12_cut_29 : decode cX12_cut 29 = .ok (.l2i, 1) := by decide +kernel
theorem dX12_cut_30 : decode cX12_cut 30 = .ok (.i2l, 1) := by decide +kernel
theorem dX12_cut_31 : decode cX12_cut 31 = .ok (.goto 4, 3) := by decide +kernel
theorem dX12_cut_34 : decode cX12_cut 34 = .ok (.lload_n 0, 1) := by decide +kernel
theorem dX12_cut_35 : decode cX12_cut 35 = .ok (.lreturn, 1) := by decide +kernel
def qX12_cut_b35  (post : Int64 → Prop)  (s0 : Int64) : Prop := post s0 
set_option maxRecDepth 100000 in
set_option maxHeartbeats 4000000 in
theorem kX12_cut_b35 {C : Cx}  (hC : Fx C cX12_cut 3 RX12) (hR0 : xR C = rm 1) {post : Int64 → Prop} (hR : RJ C cX12_cut 3 (fun _ : Unit => ([] : va_W)) (fun r _ => post r ))  {s0 : Int64} (h : qX12_cut_b35 post s0) : G C 0 0 3 [] 35 [] [.long s0] := by
  exact hR _ _ _ () dX12_cut_35 h
def qX12_cut (x0 : Int64) (x2 : Int32)  (post : Int64 → Prop) : Prop := ((¬ x2 = 0 → ((¬ x2 = (1 : Int32) → ((¬ x2 = (2 : Int32) → qX12_cut_b35 post x0) ∧ (x2 = (2 : Int32) → qX12_cut_b35 post ((x0).toInt32).toInt64))) ∧ (x2 = (1 : Int32) → qX12_cut_b35 post (((x0).toInt32).toInt16.toInt32).toInt64))) ∧ (x2 = 0 → qX12_cut_b35 post (((x0).toInt32).toInt8.toInt32).toInt64))
set_option maxRecDepth 100000 in
set_option maxHeartbeats 4000000 in
theorem kX12_cut {C : Cx}  (hC : Fx C cX12_cut 3 RX12) (hR0 : xR C = rm 1) {post : Int64 → Prop} (hR : RJ C cX12_cut 3 (fun _ : Unit => ([] : va_W)) (fun r _ => post r )) {x0 : Int64} {x2 : Int32}  (h : qX12_cut x0 x2  post) : G C 0 0 3 [] 0 [(0, .long x0), (2, .int x2)] [] := by
  refine g_iload_n (pc := 0) hC 1 dX12_cut_0 rfl rfl ?_
  refine g_if_ne (pc := 1) (tgt := 11) hC dX12_cut_1 (by decide) (fun c_1 => ?_) (fun c_1 => ?_)
  · have h := h.1 c_1
    refine g_iload_n (pc := 11) hC 1 dX12_cut_11 rfl rfl ?_
    refine g_iconst (pc := 12) (v := 1) hC dX12_cut_12 (by decide) ?_
    refine g_icmp_ne (pc := 13) (tgt := 23) hC dX12_cut_13 (by decide) (fun c_2 => ?_) (fun c_2 => ?_)
    · have h := h.1 c_2
      refine g_iload_n (pc := 23) hC 1 dX12_cut_23 rfl rfl ?_
      refine g_iconst (pc := 24) (v := 2) hC dX12_cut_24 (by decide) ?_
      refine g_icmp_ne (pc := 25) (tgt := 34) hC dX12_cut_25 (by decide) (fun c_3 => ?_) (fun c_3 => ?_)
      · have h := h.1 c_3
        refine g_lload_n (pc := 34) hC 0 dX12_cut_34 rfl rfl ?_
        refine g_sub (lv' := []) [] rfl ?_
        exact kX12_cut_b35 hC hR0 hR  h
      · have h := h.2 c_3
        refine g_lload_n (pc := 28) hC 0 dX12_cut_28 rfl rfl ?_
        refine g_l2i (pc := 29) hC dX12_cut_29 ?_
        refine g_i2l (pc := 30) hC dX12_cut_30 ?_
        refine g_goto (pc := 31) (tgt := 35) hC dX12_cut_31 (by decide) ?_
        refine g_sub (lv' := []) [] rfl ?_
        exact kX12_cut_b35 hC hR0 hR  h
    · have h := h.2 c_2
      refine g_lload_n (pc := 16) hC 0 dX12_cut_16 rfl rfl ?_
      refine g_l2i (pc := 17) hC dX12_cut_17 ?_
      refine g_i2s (pc := 18) hC dX12_cut_18 ?_
      refine g_i2l (pc := 19) hC dX12_cut_19 ?_
      refine g_goto (pc := 20) (tgt := 35) hC dX12_cut_20 (by decide) ?_
      refine g_sub (lv' := []) [] rfl ?_
      exact kX12_cut_b35 hC hR0 hR  h
  · have h := h.2 c_1
    refine g_lload_n (pc := 4) hC 0 dX12_cut_4 rfl rfl ?_
    refine g_l2i (pc := 5) hC dX12_cut_5 ?_
    refine g_i2b (pc := 6) hC dX12_cut_6 ?_
    refine g_i2l (pc := 7) hC dX12_cut_7 ?_
    refine g_goto (pc := 8) (tgt := 35) hC dX12_cut_8 (by decide) ?_
    refine g_sub (lv' := []) [] rfl ?_
    exact kX12_cut_b35 hC hR0 hR  h
theorem ctX12_cut {l : Launch} {D : va_G} {cy : Nat → ClassId} {kd : Nat → Nat}  {x0 : Int64} {x2 : Int32}  {post : Int64 → Prop} (h : qX12_cut x0 x2  post) : CtL l D cy kd yX12_cut cX12_cut 3 1  [.long x0, .int x2] (fun _ : Unit => ([] : va_W)) () (fun r _ => post r ) := met_l (by decide) (Nat.le_of_ble_eq_true rfl) (fun C e1 e2 e3 e4 e5 hC hR => by subst e1 e2 e3 e4; exact kX12_cut hC e5 hR h)
theorem dX12_tray_0 : decode cX12_tray 0 = .ok (.iload_n 1, 1) := by decide +kernel
theorem dX12_tray_1 : decode cX12_tray 1 = .ok (.invokestatic 99, 3) := by decide +kernel
theorem dX12_tray_4 : decode cX12_tray 4 = .ok (.ifCond .eq 22, 3) := by decide +kernel
theorem dX12_tray_7 : decode cX12_tray 7 = .ok (.iload_n 2, 1) := by decide +kernel
theorem dX12_tray_8 : decode cX12_tray 8 = .ok (.ifCond .lt 18, 3) := by decide +kernel
theorem dX12_tray_11 : decode cX12_tray 11 = .ok (.iload_n 2, 1) := by decide +kernel
theorem dX12_tray_12 : decode cX12_tray 12 = .ok (.iconst 3, 1) := by decide +kernel
theorem dX12_tray_13 : decode cX12_tray 13 = .ok (.if_icmp .gt 13, 3) := by decide +kernel
theorem dX12_tray_16 : decode cX12_tray 16 = .ok (.iload_n 3, 1) := by decide +kernel
theorem dX12_tray_17 : decode cX12_tray 17 = .ok (.ifCond .lt 9, 3) := by decide +kernel
theorem dX12_tray_20 : decode cX12_tray 20 = .ok (.iload_n 3, 1) := by decide +kernel
theorem dX12_tray_21 : decode cX12_tray 21 = .ok (.bipush 60, 2) := by decide +kernel
theorem dX12_tray_23 : decode cX12_tray 23 = .ok (.if_icmp .le 9, 3) := by decide +kernel
theorem dX12_tray_26 : decode cX12_tray 26 = .ok (.aload_n 0, 1) := by decide +kernel
theorem dX12_tray_27 : decode cX12_tray 27 = .ok (.iconst 1, 1) := by decide +kernel
theorem dX12_tray_28 : decode cX12_tray 28 = .ok (.invokevirtual 95, 3) := by decide +kernel
theorem dX12_tray_31 : decode cX12_tray 31 = .ok (.ireturn, 1) := by decide +kernel
theorem dX12_tray_32 : decode cX12_tray 32 = .ok (.aload_n 0, 1) := by decide +kernel
theorem dX12_tray_33 : decode cX12_tray 33 = .ok (.getfield 21, 3) := by decide +kernel
theorem dX12_tray_36 : decode cX12_tray 36 = .ok (.iload_n 1, 1) := by decide +kernel
theorem dX12_tray_37 : decode cX12_tray 37 = .ok (.iload_n 2, 1) := by decide +kernel
theorem dX12_tray_38 : decode cX12_tray 38 = .ok (.iastore, 1) := by decide +kernel
theorem dX12_tray_39 : decode cX12_tray 39 = .ok (.aload_n 0, 1) := by decide +kernel
theorem dX12_tray_40 : decode cX12_tray 40 = .ok (.getfield 24, 3) := by decide +kernel
theorem dX12_tray_43 : decode cX12_tray 43 = .ok (.iload_n 1, 1) := by decide +kernel
theorem dX12_tray_44 : decode cX12_tray 44 = .ok (.iload_n 3, 1) := by decide +kernel
theorem dX12_tray_45 : decode cX12_tray 45 = .ok (.iastore, 1) := by decide +kernel
theorem dX12_tray_46 : decode cX12_tray 46 = .ok (.iconst 0, 1) := by decide +kernel
theorem dX12_tray_47 : decode cX12_tray 47 = .ok (.istore 4, 2) := by decide +kernel
theorem dX12_tray_49 : decode cX12_tray 49 = .ok (.iload 4, 2) := by decide +kernel
theorem dX12_tray_51 : decode cX12_tray 51 = .ok (.iload_n 3, 1) := by decide +kernel
theorem dX12_tray_52 : decode cX12_tray 52 = .ok (.if_icmp .ge 22, 3) := by decide +kernel
theorem dX12_tray_55 : decode cX12_tray 55 = .ok (.aload_n 0, 1) := by decide +kernel
theorem dX12_tray_56 : decode cX12_tray 56 = .ok (.getfield 27, 3) := by decide +kernel
theorem dX12_tray_59 : decode cX12_tray 59 = .ok (.bipush 60, 2) := by decide +kernel
theorem dX12_tray_61 : decode cX12_tray 61 = .ok (.iload_n 1, 1) := by decide +kernel
theorem dX12_tray_62 : decode cX12_tray 62 = .ok (.imul, 1) := by decide +kernel
theorem dX12_tray_63 : decode cX12_tray 63 = .ok (.iload 4, 2) := by decide +kernel
theorem dX12_tray_65 : decode cX12_tray 65 = .ok (.iadd, 1) := by decide +kernel
theorem dX12_tray_66 : decode cX12_tray 66 = .ok (.lconst 0, 1) := by decide +kernel
theorem dX12_tray_67 : decode cX12_tray 67 = .ok (.lastore, 1) := by decide +kernel
theorem dX12_tray_68 : decode cX12_tray 68 = .ok (.iinc 4 1, 3) := by decide +kernel
theorem dX12_tray_71 : decode cX12_tray 71 = .ok (.goto (-22), 3) := by decide +kernel
theorem dX12_tray_74 : decode cX12_tray 74 = .ok (.aload_n 0, 1) := by decide +kernel
theorem dX12_tray_75 : decode cX12_tray 75 = .ok (.iconst 0, 1) := by decide +kernel
theorem dX12_tray_76 : decode cX12_tray 76 = .ok (.invokevirtual 95, 3) := by decide +kernel
theorem dX12_tray_79 : decode cX12_tray 79 = .ok (.ireturn, 1) := by decide +kernel
def qX12_tray_b26  (post : Int32 → St → Prop)  (u0 : St) : Prop := qX12_is (1 : Int32) u0 (fun r_14 u_13 => (bz r_14 ∧ post r_14 u_13))
set_option maxRecDepth 100000 in
set_option maxHeartbeats 4000000 in
theorem kX12_tray_b26 {C : Cx} {o0 : Nat} {a0 : Nat → Nat} (hC : Fx C cX12_tray 5 RX12) (hR0 : xR C = rm 2) {post : Int32 → St → Prop} (hR : RZ C cX12_tray 5 (fun u : St => (wX12 o0 a0 (xy C) u [])) (fun r u => post r u))  {u0 : St} (h : qX12_tray_b26 post u0) : G C 0 0 5 (wX12 o0 a0 (xy C) u0 []) 26 [(0, .ref o0)] [] := by
  refine g_aload_n (pc := 26) hC 0 dX12_tray_26 rfl rfl ?_
  refine g_iconst (pc := 27) (v := 1) hC dX12_tray_27 (by decide) ?_
  refine g_callV_i (pc := 28) (wd := fun (u : St) Y => (wX12 o0 a0 (xy C) u Y)) (F := fun Z => Z) (X := []) (As := [.int (1 : Int32)]) (rest := []) (u := u0) hC (fun _ _ => rfl) (fun _ => rfl) (ctX12_is h) wvX12_is ml_X12_95 (ci := 10) (q0 := 0) rfl rfl rfl rfl (rmok hR0 rfl) ⟨Nat.zero_le _, Nat.zero_le _⟩ rfl (Nat.le_of_ble_eq_true rfl) dX12_tray_28 (fun r_14 u_13 h => ?_)
  exact hR _ _ _ u_13 dX12_tray_31 h.1 h.2
def qX12_tray_b74  (post : Int32 → St → Prop)  (u0 : St) : Prop := qX12_is (0 : Int32) u0 (fun r_17 u_16 => (bz r_17 ∧ post r_17 u_16))
set_option maxRecDepth 100000 in
set_option maxHeartbeats 4000000 in
theorem kX12_tray_b74 {C : Cx} {o0 : Nat} {a0 : Nat → Nat} (hC : Fx C cX12_tray 5 RX12) (hR0 : xR C = rm 2) {post : Int32 → St → Prop} (hR : RZ C cX12_tray 5 (fun u : St => (wX12 o0 a0 (xy C) u [])) (fun r u => post r u))  {u0 : St} (h : qX12_tray_b74 post u0) : G C 0 0 5 (wX12 o0 a0 (xy C) u0 []) 74 [(0, .ref o0)] [] := by
  refine g_aload_n (pc := 74) hC 0 dX12_tray_74 rfl rfl ?_
  refine g_iconst (pc := 75) (v := 0) hC dX12_tray_75 (by decide) ?_
  refine g_callV_i (pc := 76) (wd := fun (u : St) Y => (wX12 o0 a0 (xy C) u Y)) (F := fun Z => Z) (X := []) (As := [.int (0 : Int32)]) (rest := []) (u := u0) hC (fun _ _ => rfl) (fun _ => rfl) (ctX12_is h) wvX12_is ml_X12_95 (ci := 10) (q0 := 0) rfl rfl rfl rfl (rmok hR0 rfl) ⟨Nat.zero_le _, Nat.zero_le _⟩ rfl (Nat.le_of_ble_eq_true rfl) dX12_tray_76 (fun r_17 u_16 h => ?_)
  exact hR _ _ _ u_16 dX12_tray_79 h.1 h.2
def qX12_tray_l49  (post : Int32 → St → Prop) (K49 : Int32 → Int32 → Int32 → St → Prop) (x1 : Int32) (x3 : Int32) (x4 : Int32) (u0 : St) : Prop := ((x3 ≤ x4 → qX12_tray_b74 post u0) ∧ (¬ x3 ≤ x4 → (vp_in (((60 : Int32) * x1) + x4) 240 ∧ ∀ u_20 : St, u_20 = (sx u0 7 (vp_updL (gl u0 7) ((((60 : Int32) * x1) + x4)).toNatClampNeg (0 : Int64))) → ∀ x4_21 : Int32, x4_21 = x4 + (1 : Int32) → K49 x1 x3 x4_21 u_20)))
set_option maxRecDepth 100000 in
set_option maxHeartbeats 4000000 in
theorem kX12_tray_l49 {C : Cx} {o0 : Nat} {a0 : Nat → Nat} (hC : Fx C cX12_tray 5 RX12) (hR0 : xR C = rm 2) {post : Int32 → St → Prop} (hR : RZ C cX12_tray 5 (fun u : St => (wX12 o0 a0 (xy C) u [])) (fun r u => post r u))  {K49 : Int32 → Int32 → Int32 → St → Prop} (hK49 : ∀ (x1 : Int32) (x3 : Int32) (x4 : Int32) (u0 : St), K49 x1 x3 x4 u0 → G C 0 0 5 (wX12 o0 a0 (xy C) u0 []) 49 [(0, .ref o0), (1, .int x1), (3, .int x3), (4, .int x4)] []) {x1 : Int32} {x3 : Int32} {x4 : Int32} {u0 : St} (h : qX12_tray_l49 post K49 x1 x3 x4 u0) : G C 0 0 5 (wX12 o0 a0 (xy C) u0 []) 49 [(0, .ref o0), (1, .int x1), (3, .int x3), (4, .int x4)] [] := by
  refine g_iload (pc := 49) hC 3 dX12_tray_49 rfl ?_
  refine g_iload_n (pc := 51) hC 2 dX12_tray_51 rfl rfl ?_
  refine g_icmp_ge (pc := 52) (tgt := 74) hC dX12_tray_52 (by decide) (fun c_19 => ?_) (fun c_19 => ?_)
  · have h := h.1 c_19
    refine g_sub (lv' := [(0, .ref o0)]) [0] rfl ?_
    exact kX12_tray_b74 hC hR0 hR  h
  · have h := h.2 c_19
    refine g_aload_n (pc := 55) hC 0 dX12_tray_55 rfl rfl ?_
    refine getX12_7 (pc := 56) hC (F := fun Z => Z) (X := []) (fun _ => rfl) fl_X12_27 dX12_tray_56 ?_
    refine g_bipush (pc := 59) (v := 60) hC dX12_tray_59 (by decide) ?_
    refine g_iload_n (pc := 61) hC 1 dX12_tray_61 rfl rfl ?_
    refine g_imul (pc := 62) hC dX12_tray_62 ?_
    refine g_iload (pc := 63) hC 3 dX12_tray_63 rfl ?_
    refine g_iadd (pc := 65) hC dX12_tray_65 ?_
    refine g_lconst (pc := 66) (v := 0) hC dX12_tray_66 (by decide) ?_
    refine astX12_7 (pc := 67) hC (F := fun Z => Z) (X := []) (fun _ => rfl) h.1 dX12_tray_67 ?_
    have h := h.2
    refine g_st (w := fun z => (wX12 o0 a0 (xy C) z [])) (u := (sx u0 7 (vp_updL (gl u0 7) ((((60 : Int32) * x1) + x4)).toNatClampNeg (0 : Int64)))) (fun u_20 eu_20 => ?_)
    have h := h u_20 eu_20
    obtain ⟨x4_21, ex4_21⟩ : ∃ z : Int32, z = x4 + (1 : Int32) := ⟨_, rfl⟩
    have h := h x4_21 ex4_21
    refine g_iinc (pc := 68) (v := x4_21) (lv' := [(4, .int x4_21), (0, .ref o0), (1, .int x1), (3, .int x3)]) hC 3 dX12_tray_68 rfl (by rw [ex4_21]; rfl) (Nat.le_of_ble_eq_true rfl) rfl ?_
    refine g_goto (pc := 71) (tgt := 49) hC dX12_tray_71 (by decide) ?_
    refine g_sub (lv' := [(0, .ref o0), (1, .int x1), (3, .int x3), (4, .int x4_21)]) [1, 2, 3, 0] rfl ?_
    exact hK49 _ _ _ _ h
def qX12_tray_L49  (post : Int32 → St → Prop)  : Nat → Int32 → Int32 → Int32 → St → Prop
  | 0 => fun _ _ _ _ => False
  | n + 1 => qX12_tray_l49 post (qX12_tray_L49 post n)
theorem kX12_tray_L49 {C : Cx} {o0 : Nat} {a0 : Nat → Nat} (hC : Fx C cX12_tray 5 RX12) (hR0 : xR C = rm 2) {post : Int32 → St → Prop} (hR : RZ C cX12_tray 5 (fun u : St => (wX12 o0 a0 (xy C) u [])) (fun r u => post r u))  : ∀ (n : Nat) (x1 : Int32) (x3 : Int32) (x4 : Int32) (u0 : St), qX12_tray_L49 post n x1 x3 x4 u0 → G C 0 0 5 (wX12 o0 a0 (xy C) u0 []) 49 [(0, .ref o0), (1, .int x1), (3, .int x3), (4, .int x4)] [] := by
  intro n
  induction n with
  | zero => intro x1 x3 x4 u0 h; exact h.elim
  | succ n ih => intro x1 x3 x4 u0 h; exact kX12_tray_l49 hC hR0 hR  ih h
def qX12_tray (x1 : Int32) (x2 : Int32) (x3 : Int32) (u0 : St) (post : Int32 → St → Prop) : Prop := qX12_isTray x1 (fun r_22 => ((r_22 = 0 → qX12_tray_b26 post u0) ∧ (¬ r_22 = 0 → ((x2 < 0 → qX12_tray_b26 post u0) ∧ (¬ x2 < 0 → (((3 : Int32) < x2 → qX12_tray_b26 post u0) ∧ (¬ (3 : Int32) < x2 → ((x3 < 0 → qX12_tray_b26 post u0) ∧ (¬ x3 < 0 → ((x3 ≤ (60 : Int32) → (vp_in x1 4 ∧ ∀ u_29 : St, u_29 = (sw u0 5 (upd (ga u0 5) (x1).toNatClampNeg x2)) → (vp_in x1 4 ∧ ∀ u_30 : St, u_30 = (sw u_29 6 (upd (ga u_29 6) (x1).toNatClampNeg x3)) → ∃ n_31 : Nat, qX12_tray_L49 post n_31 x1 x3 (0 : Int32) u_30))) ∧ (¬ x3 ≤ (60 : Int32) → qX12_tray_b26 post u0)))))))))))
set_option maxRecDepth 100000 in
set_option maxHeartbeats 4000000 in
theorem kX12_tray {C : Cx} {o0 : Nat} {a0 : Nat → Nat} (hC : Fx C cX12_tray 5 RX12) (hR0 : xR C = rm 2) {post : Int32 → St → Prop} (hR : RZ C cX12_tray 5 (fun u : St => (wX12 o0 a0 (xy C) u [])) (fun r u => post r u)) {x1 : Int32} {x2 : Int32} {x3 : Int32} {u0 : St} (h : qX12_tray x1 x2 x3 u0 post) : G C 0 0 5 (wX12 o0 a0 (xy C) u0 []) 0 [(0, .ref o0), (1, .int x1), (2, .int x2), (3, .int x3)] [] := by
  refine g_iload_n (pc := 0) hC 1 dX12_tray_0 rfl rfl ?_
  refine g_callS_i (pc := 1) (wd := fun (_ : Unit) Y => Y) (F := fun Z => Z) (X := []) (As := [.int x1]) (rest := []) (u := ()) hC (fun _ _ => rfl) (fun _ => rfl) (ctX12_isTray h) wvX12_isTray ml_X12_99 rfl (rmok hR0 rfl) ⟨Nat.zero_le _, Nat.zero_le _⟩ rfl (Nat.le_of_ble_eq_true rfl) dX12_tray_1 (fun r_22 u_23 h => ?_)
  refine g_if_eq (pc := 4) (tgt := 26) hC dX12_tray_4 (by decide) (fun c_24 => ?_) (fun c_24 => ?_)
  · have h := h.1 c_24
    refine g_sub (lv' := [(0, .ref o0)]) [0] rfl ?_
    exact kX12_tray_b26 hC hR0 hR  h
  · have h := h.2 c_24
    refine g_iload_n (pc := 7) hC 2 dX12_tray_7 rfl rfl ?_
    refine g_if_lt (pc := 8) (tgt := 26) hC dX12_tray_8 (by decide) (fun c_25 => ?_) (fun c_25 => ?_)
    · have h := h.1 c_25
      refine g_sub (lv' := [(0, .ref o0)]) [0] rfl ?_
      exact kX12_tray_b26 hC hR0 hR  h
    · have h := h.2 c_25
      refine g_iload_n (pc := 11) hC 2 dX12_tray_11 rfl rfl ?_
      refine g_iconst (pc := 12) (v := 3) hC dX12_tray_12 (by decide) ?_
      refine g_icmp_gt (pc := 13) (tgt := 26) hC dX12_tray_13 (by decide) (fun c_26 => ?_) (fun c_26 => ?_)
      · have h := h.1 c_26
        refine g_sub (lv' := [(0, .ref o0)]) [0] rfl ?_
        exact kX12_tray_b26 hC hR0 hR  h
      · have h := h.2 c_26
        refine g_iload_n (pc := 16) hC 3 dX12_tray_16 rfl rfl ?_
        refine g_if_lt (pc := 17) (tgt := 26) hC dX12_tray_17 (by decide) (fun c_27 => ?_) (fun c_27 => ?_)
        · have h := h.1 c_27
          refine g_sub (lv' := [(0, .ref o0)]) [0] rfl ?_
          exact kX12_tray_b26 hC hR0 hR  h
        · have h := h.2 c_27
          refine g_iload_n (pc := 20) hC 3 dX12_tray_20 rfl rfl ?_
          refine g_bipush (pc := 21) (v := 60) hC dX12_tray_21 (by decide) ?_
          refine g_icmp_le (pc := 23) (tgt := 32) hC dX12_tray_23 (by decide) (fun c_28 => ?_) (fun c_28 => ?_)
          · have h := h.1 c_28
            refine g_aload_n (pc := 32) hC 0 dX12_tray_32 rfl rfl ?_
            refine getX12_5 (pc := 33) hC (F := fun Z => Z) (X := []) (fun _ => rfl) fl_X12_21 dX12_tray_33 ?_
            refine g_iload_n (pc := 36) hC 1 dX12_tray_36 rfl rfl ?_
            refine g_iload_n (pc := 37) hC 2 dX12_tray_37 rfl rfl ?_
            refine astX12_5 (pc := 38) hC (F := fun Z => Z) (X := []) (fun _ => rfl) h.1 dX12_tray_38 ?_
            have h := h.2
            refine g_st (w := fun z => (wX12 o0 a0 (xy C) z [])) (u := (sw u0 5 (upd (ga u0 5) (x1).toNatClampNeg x2))) (fun u_29 eu_29 => ?_)
            have h := h u_29 eu_29
            refine g_aload_n (pc := 39) hC 0 dX12_tray_39 rfl rfl ?_
            refine getX12_6 (pc := 40) hC (F := fun Z => Z) (X := []) (fun _ => rfl) fl_X12_24 dX12_tray_40 ?_
            refine g_iload_n (pc := 43) hC 1 dX12_tray_43 rfl rfl ?_
            refine g_iload_n (pc := 44) hC 3 dX12_tray_44 rfl rfl ?_
            refine astX12_6 (pc := 45) hC (F := fun Z => Z) (X := []) (fun _ => rfl) h.1 dX12_tray_45 ?_
            have h := h.2
            refine g_st (w := fun z => (wX12 o0 a0 (xy C) z [])) (u := (sw u_29 6 (upd (ga u_29 6) (x1).toNatClampNeg x3))) (fun u_30 eu_30 => ?_)
            have h := h u_30 eu_30
            refine g_iconst (pc := 46) (v := 0) hC dX12_tray_46 (by decide) ?_
            refine g_istore (pc := 47) (lv' := [(4, .int (0 : Int32)), (0, .ref o0), (1, .int x1), (2, .int x2), (3, .int x3)]) hC dX12_tray_47 (Nat.le_of_ble_eq_true rfl) rfl ?_
            refine g_sub (lv' := [(0, .ref o0), (1, .int x1), (3, .int x3), (4, .int (0 : Int32))]) [1, 2, 4, 0] rfl ?_
            obtain ⟨n_31, h⟩ := h
            exact kX12_tray_L49 hC hR0 hR  n_31 _ _ _ _ h
          · have h := h.2 c_28
            refine g_sub (lv' := [(0, .ref o0)]) [0] rfl ?_
            exact kX12_tray_b26 hC hR0 hR  h
theorem ctX12_tray {l : Launch} {D : va_G} {cy : Nat → ClassId} {kd : Nat → Nat} {o0 : Nat} {a0 : Nat → Nat} {x1 : Int32} {x2 : Int32} {x3 : Int32} {u0 : St} {post : Int32 → St → Prop} (h : qX12_tray x1 x2 x3 u0 post) : CtI l D cy kd yX12_tray cX12_tray 5 2 .boolean [.ref o0, .int x1, .int x2, .int x3] (fun u : St => (wX12 o0 a0 cy u [])) u0 (fun r u => post r u) := met_z (by decide) (Nat.le_of_ble_eq_true rfl) (fun C e1 e2 e3 e4 e5 hC hR => by subst e1 e2 e3 e4; exact kX12_tray hC e5 hR h)
theorem dX12_wrongPlace_0 : decode cX12_wrongPlace 0 = .ok (.iload_n 1, 1) := by decide +kernel
theorem dX12_wrongPlace_1 : decode cX12_wrongPlace 1 = .ok (.invokestatic 99, 3) := by decide +kernel
theorem dX12_wrongPlace_4 : decode cX12_wrongPlace 4 = .ok (.ifCond .ne 7, 3) := by decide +kernel
theorem dX12_wrongPlace_7 : decode cX12_wrongPlace 7 = .ok (.iconst 1, 1) := by decide +kernel
theorem dX12_wrongPlace_8 : decode cX12_wrongPlace 8 = .ok (.goto 36, 3) := by decide +kernel
theorem dX12_wrongPlace_11 : decode cX12_wrongPlace 11 = .ok (.aload_n 0, 1) := by decide +kernel
theorem dX12_wrongPlace_12 : decode cX12_wrongPlace 12 = .ok (.getfield 24, 3) := by decide +kernel
theorem dX12_wrongPlace_15 : decode cX12_wrongPlace 15 = .ok (.iload_n 1, 1) := by decide +kernel
theorem dX12_wrongPlace_16 : decode cX12_wrongPlace 16 = .ok (.iaload, 1) := by decide +kernel
theorem dX12_wrongPlace_17 : decode cX12_wrongPlace 17 = .ok (.iconst (-1), 1) := by decide +kernel
theorem dX12_wrongPlace_18 : decode cX12_wrongPlace 18 = .ok (.if_icmp .ne 7, 3) := by decide +kernel
theorem dX12_wrongPlace_21 : decode cX12_wrongPlace 21 = .ok (.iconst 2, 1) := by decide +kernel
theorem dX12_wrongPlace_22 : decode cX12_wrongPlace 22 = .ok (.goto 22, 3) := by decide +kernel
theorem dX12_wrongPlace_25 : decode cX12_wrongPlace 25 = .ok (.iload_n 2, 1) := by decide +kernel
theorem dX12_wrongPlace_26 : decode cX12_wrongPlace 26 = .ok (.ifCond .lt 13, 3) := by decide +kernel
theorem dX12_wrongPlace_29 : decode cX12_wrongPlace 29 = .ok (.iload_n 2, 1) := by decide +kernel
theorem dX12_wrongPlace_30 : decode cX12_wrongPlace 30 = .ok (.aload_n 0, 1) := by decide +kernel
theorem dX12_wrongPlace_31 : decode cX12_wrongPlace 31 = .ok (.getfield 24, 3) := by decide +kernel
theorem dX12_wrongPlace_34 : decode cX12_wrongPlace 34 = .ok (.iload_n 1, 1) := by decide +kernel
theorem dX12_wrongPlace_35 : decode cX12_wrongPlace 35 = .ok (.iaload, 1) := by decide +kernel
theorem dX12_wrongPlace_36 : decode cX12_wrongPlace 36 = .ok (.if_icmp .lt 7, 3) := by decide +kernel
theorem dX12_wrongPlace_39 : decode cX12_wrongPlace 39 = .ok (.iconst 3, 1) := by decide +kernel
theorem dX12_wrongPlace_40 : decode cX12_wrongPlace 40 = .ok (.goto 4, 3) := by decide +kernel
theorem dX12_wrongPlace_43 : decode cX12_wrongPlace 43 = .ok (.iconst 0, 1) := by decide +kernel
theorem dX12_wrongPlace_44 : decode cX12_wrongPlace 44 = .ok (.ireturn, 1) := by decide +kernel
def qX12_wrongPlace_b44  (post : Int32 → St → Prop)  (s0 : Int32) (u0 : St) : Prop := post s0 u0
set_option maxRecDepth 100000 in
set_option maxHeartbeats 4000000 in
theorem kX12_wrongPlace_b44 {C : Cx} {o0 : Nat} {a0 : Nat → Nat} (hC : Fx C cX12_wrongPlace 3 RX12) (hR0 : xR C = rm 2) {post : Int32 → St → Prop} (hR : RI C cX12_wrongPlace 3 (fun u : St => (wX12 o0 a0 (xy C) u [])) (fun r u => post r u))  {s0 : Int32} {u0 : St} (h : qX12_wrongPlace_b44 post s0 u0) : G C 0 0 3 (wX12 o0 a0 (xy C) u0 []) 44 [] [.int s0] := by
  exact hR _ _ _ u0 dX12_wrongPlace_44 h
def qX12_wrongPlace_b39  (post : Int32 → St → Prop)  (u0 : St) : Prop := qX12_wrongPlace_b44 post (3 : Int32) u0
set_option maxRecDepth 100000 in
set_option maxHeartbeats 4000000 in
theorem kX12_wrongPlace_b39 {C : Cx} {o0 : Nat} {a0 : Nat → Nat} (hC : Fx C cX12_wrongPlace 3 RX12) (hR0 : xR C = rm 2) {post : Int32 → St → Prop} (hR : RI C cX12_wrongPlace 3 (fun u : St => (wX12 o0 a0 (xy C) u [])) (fun r u => post r u))  {u0 : St} (h : qX12_wrongPlace_b39 post u0) : G C 0 0 3 (wX12 o0 a0 (xy C) u0 []) 39 [] [] := by
  refine g_iconst (pc := 39) (v := 3) hC dX12_wrongPlace_39 (by decide) ?_
  refine g_goto (pc := 40) (tgt := 44) hC dX12_wrongPlace_40 (by decide) ?_
  exact kX12_wrongPlace_b44 hC hR0 hR  h
def qX12_wrongPlace (x1 : Int32) (x2 : Int32) (u0 : St) (post : Int32 → St → Prop) : Prop := qX12_isTray x1 (fun r_3 => ((¬ r_3 = 0 → (vp_in x1 4 ∧ ((¬ (ga u0 6 (x1).toNatClampNeg) = (-1 : Int32) → ((x2 < 0 → qX12_wrongPlace_b39 post u0) ∧ (¬ x2 < 0 → (vp_in x1 4 ∧ ((x2 < (ga u0 6 (x1).toNatClampNeg) → qX12_wrongPlace_b44 post (0 : Int32) u0) ∧ (¬ x2 < (ga u0 6 (x1).toNatClampNeg) → qX12_wrongPlace_b39 post u0)))))) ∧ ((ga u0 6 (x1).toNatClampNeg) = (-1 : Int32) → qX12_wrongPlace_b44 post (2 : Int32) u0)))) ∧ (r_3 = 0 → qX12_wrongPlace_b44 post (1 : Int32) u0)))
set_option maxRecDepth 100000 in
set_option maxHeartbeats 4000000 in
theorem kX12_wrongPlace {C : Cx} {o0 : Nat} {a0 : Nat → Nat} (hC : Fx C cX12_wrongPlace 3 RX12) (hR0 : xR C = rm 2) {post : Int32 → St → Prop} (hR : RI C cX12_wrongPlace 3 (fun u : St => (wX12 o0 a0 (xy C) u [])) (fun r u => post r u)) {x1 : Int32} {x2 : Int32} {u0 : St} (h : qX12_wrongPlace x1 x2 u0 post) : G C 0 0 3 (wX12 o0 a0 (xy C) u0 []) 0 [(0, .ref o0), (1, .int x1), (2, .int x2)] [] := by
  refine g_iload_n (pc := 0) hC 1 dX12_wrongPlace_0 rfl rfl ?_
  refine g_callS_i (pc := 1) (wd := fun (_ : Unit) Y => Y) (F := fun Z => Z) (X := []) (As := [.int x1]) (rest := []) (u := ()) hC (fun _ _ => rfl) (fun _ => rfl) (ctX12_isTray h) wvX12_isTray ml_X12_99 rfl (rmok hR0 rfl) ⟨Nat.zero_le _, Nat.zero_le _⟩ rfl (Nat.le_of_ble_eq_true rfl) dX12_wrongPlace_1 (fun r_3 u_4 h => ?_)
  refine g_if_ne (pc := 4) (tgt := 11) hC dX12_wrongPlace_4 (by decide) (fun c_5 => ?_) (fun c_5 => ?_)
  · have h := h.1 c_5
    refine g_aload_n (pc := 11) hC 0 dX12_wrongPlace_11 rfl rfl ?_
    refine getX12_6 (pc := 12) hC (F := fun Z => Z) (X := []) (fun _ => rfl) fl_X12_24 dX12_wrongPlace_12 ?_
    refine g_iload_n (pc := 15) hC 1 dX12_wrongPlace_15 rfl rfl ?_
    refine aldX12_6 (pc := 16) hC (F := fun Z => Z) (X := []) (fun _ => rfl) h.1 dX12_wrongPlace_16 ?_
    have h := h.2
    refine g_iconst (pc := 17) (v := -1) hC dX12_wrongPlace_17 (by decide) ?_
    refine g_icmp_ne (pc := 18) (tgt := 25) hC dX12_wrongPlace_18 (by decide) (fun c_6 => ?_) (fun c_6 => ?_)
    · have h := h.1 c_6
      refine g_iload_n (pc := 25) hC 2 dX12_wrongPlace_25 rfl rfl ?_
      refine g_if_lt (pc := 26) (tgt := 39) hC dX12_wrongPlace_26 (by decide) (fun c_7 => ?_) (fun c_7 => ?_)
      · have h := h.1 c_7
        refine g_sub (lv' := []) [] rfl ?_
        exact kX12_wrongPlace_b39 hC hR0 hR  h
      · have h := h.2 c_7
        refine g_iload_n (pc := 29) hC 2 dX12_wrongPlace_29 rfl rfl ?_
        refine g_aload_n (pc := 30) hC 0 dX12_wrongPlace_30 rfl rfl ?_
        refine getX12_6 (pc := 31) hC (F := fun Z => Z) (X := []) (fun _ => rfl) fl_X12_24 dX12_wrongPlace_31 ?_
        refine g_iload_n (pc := 34) hC 1 dX12_wrongPlace_34 rfl rfl ?_
        refine aldX12_6 (pc := 35) hC (F := fun Z => Z) (X := []) (fun _ => rfl) h.1 dX12_wrongPlace_35 ?_
        have h := h.2
        refine g_icmp_lt (pc := 36) (tgt := 43) hC dX12_wrongPlace_36 (by decide) (fun c_8 => ?_) (fun c_8 => ?_)
        · have h := h.1 c_8
          refine g_iconst (pc := 43) (v := 0) hC dX12_wrongPlace_43 (by decide) ?_
          refine g_sub (lv' := []) [] rfl ?_
          exact kX12_wrongPlace_b44 hC hR0 hR  h
        · have h := h.2 c_8
          refine g_sub (lv' := []) [] rfl ?_
          exact kX12_wrongPlace_b39 hC hR0 hR  h
    · have h := h.2 c_6
      refine g_iconst (pc := 21) (v := 2) hC dX12_wrongPlace_21 (by decide) ?_
      refine g_goto (pc := 22) (tgt := 44) hC dX12_wrongPlace_22 (by decide) ?_
      refine g_sub (lv' := []) [] rfl ?_
      exact kX12_wrongPlace_b44 hC hR0 hR  h
  · have h := h.2 c_5
    refine g_iconst (pc := 7) (v := 1) hC dX12_wrongPlace_7 (by decide) ?_
    refine g_goto (pc := 8) (tgt := 44) hC dX12_wrongPlace_8 (by decide) ?_
    refine g_sub (lv' := []) [] rfl ?_
    exact kX12_wrongPlace_b44 hC hR0 hR  h
theorem ctX12_wrongPlace {l : Launch} {D : va_G} {cy : Nat → ClassId} {kd : Nat → Nat} {o0 : Nat} {a0 : Nat → Nat} {x1 : Int32} {x2 : Int32} {u0 : St} {post : Int32 → St → Prop} (h : qX12_wrongPlace x1 x2 u0 post) : CtI l D cy kd yX12_wrongPlace cX12_wrongPlace 3 2 .int [.ref o0, .int x1, .int x2] (fun u : St => (wX12 o0 a0 cy u [])) u0 (fun r u => post r u) := met_i (by decide) (Nat.le_of_ble_eq_true rfl) (fun C e1 e2 e3 e4 e5 hC hR => by subst e1 e2 e3 e4; exact kX12_wrongPlace hC e5 hR h)
theorem dX12_write_0 : decode cX12_write 0 = .ok (.aload_n 0, 1) := by decide +kernel
theorem dX12_write_1 : decode cX12_write 1 = .ok (.iload_n 1, 1) := by decide +kernel
theorem dX12_write_2 : decode cX12_write 2 = .ok (.iload_n 2, 1) := by decide +kernel
theorem dX12_write_3 : decode cX12_write 3 = .ok (.invokevirtual 102, 3) := by decide +kernel
theorem dX12_write_6 : decode cX12_write 6 = .ok (.istore 5, 2) := by decide +kernel
theorem dX12_write_8 : decode cX12_write 8 = .ok (.iload 5, 2) := by decide +kernel
theorem dX12_write_10 : decode cX12_write 10 = .ok (.ifCond .ne 24, 3) := by decide +kernel
theorem dX12_write_13 : decode cX12_write 13 = .ok (.aload_n 0, 1) := by decide +kernel
theorem dX12_write_14 : decode cX12_write 14 = .ok (.getfield 27, 3) := by decide +kernel
theorem dX12_write_17 : decode cX12_write 17 = .ok (.bipush 60, 2) := by decide +kernel
theorem dX12_write_19 : decode cX12_write 19 = .ok (.iload_n 1, 1) := by decide +kernel
theorem dX12_write_20 : decode cX12_write 20 = .ok (.imul, 1) := by decide +kernel
theorem dX12_write_21 : decode cX12_write 21 = .ok (.iload_n 2, 1) := by decide +kernel
theorem dX12_write_22 : decode cX12_write 22 = .ok (.iadd, 1) := by decide +kernel
theorem dX12_write_23 : decode cX12_write 23 = .ok (.lload_n 3, 1) := by decide +kernel
theorem dX12_write_24 : decode cX12_write 24 = .ok (.aload_n 0, 1) := by decide +kernel
theorem dX12_write_25 : decode cX12_write 25 = .ok (.getfield 21, 3) := by decide +kernel
theorem dX12_write_28 : decode cX12_write 28 = .ok (.iload_n 1, 1) := by decide +kernel
theorem dX12_write_29 : decode cX12_write 29 = .ok (.iaload, 1) := by decide +kernel
theorem dX12_write_30 : decode cX12_write 30 = .ok (.invokestatic 106, 3) := by decide +kernel
theorem dX12_write_33 : decode cX12_write 33 = .ok (.lastore, 1) := by decide +kernel
theorem dX12_write_34 : decode cX12_write 34 = .ok (.aload_n 0, 1) := by decide +kernel
theorem dX12_write_35 : decode cX12_write 35 = .ok (.iload 5, 2) := by decide +kernel
theorem dX12_write_37 : decode cX12_write 37 = .ok (.invokevirtual 95, 3) := by decide +kernel
theorem dX12_write_40 : decode cX12_write 40 = .ok (.ireturn, 1) := by decide +kernel
def qX12_write_b34  (post : Int32 → St → Prop)  (x5 : Int32) (u0 : St) : Prop := qX12_is x5 u0 (fun r_11 u_10 => (bz r_11 ∧ post r_11 u_10))
set_option maxRecDepth 100000 in
set_option maxHeartbeats 4000000 in
theorem kX12_write_b34 {C : Cx} {o0 : Nat} {a0 : Nat → Nat} (hC : Fx C cX12_write 6 RX12) (hR0 : xR C = rm 3) {post : Int32 → St → Prop} (hR : RZ C cX12_write 6 (fun u : St => (wX12 o0 a0 (xy C) u [])) (fun r u => post r u))  {x5 : Int32} {u0 : St} (h : qX12_write_b34 post x5 u0) : G C 0 0 6 (wX12 o0 a0 (xy C) u0 []) 34 [(0, .ref o0), (5, .int x5)] [] := by
  refine g_aload_n (pc := 34) hC 0 dX12_write_34 rfl rfl ?_
  refine g_iload (pc := 35) hC 1 dX12_write_35 rfl ?_
  refine g_callV_i (pc := 37) (wd := fun (u : St) Y => (wX12 o0 a0 (xy C) u Y)) (F := fun Z => Z) (X := []) (As := [.int x5]) (rest := []) (u := u0) hC (fun _ _ => rfl) (fun _ => rfl) (ctX12_is h) wvX12_is ml_X12_95 (ci := 10) (q0 := 0) rfl rfl rfl rfl (rmok hR0 rfl) ⟨Nat.zero_le _, Nat.zero_le _⟩ rfl (Nat.le_of_ble_eq_true rfl) dX12_write_37 (fun r_11 u_10 h => ?_)
  exact hR _ _ _ u_10 dX12_write_40 h.1 h.2
def qX12_write (x1 : Int32) (x2 : Int32) (x3 : Int64) (u0 : St) (post : Int32 → St → Prop) : Prop := qX12_wrongPlace x1 x2 u0 (fun r_14 u_13 => ((¬ r_14 = 0 → qX12_write_b34 post r_14 u_13) ∧ (r_14 = 0 → (vp_in x1 4 ∧ qX12_cut x3 (ga u_13 5 (x1).toNatClampNeg) (fun r_17 => (vp_in (((60 : Int32) * x1) + x2) 240 ∧ ∀ u_19 : St, u_19 = (sx u_13 7 (vp_updL (gl u_13 7) ((((60 : Int32) * x1) + x2)).toNatClampNeg r_17)) → qX12_write_b34 post r_14 u_19))))))
set_option maxRecDepth 100000 in
set_option maxHeartbeats 4000000 in
theorem kX12_write {C : Cx} {o0 : Nat} {a0 : Nat → Nat} (hC : Fx C cX12_write 6 RX12) (hR0 : xR C = rm 3) {post : Int32 → St → Prop} (hR : RZ C cX12_write 6 (fun u : St => (wX12 o0 a0 (xy C) u [])) (fun r u => post r u)) {x1 : Int32} {x2 : Int32} {x3 : Int64} {u0 : St} (h : qX12_write x1 x2 x3 u0 post) : G C 0 0 6 (wX12 o0 a0 (xy C) u0 []) 0 [(0, .ref o0), (1, .int x1), (2, .int x2), (3, .long x3)] [] := by
  refine g_aload_n (pc := 0) hC 0 dX12_write_0 rfl rfl ?_
  refine g_iload_n (pc := 1) hC 1 dX12_write_1 rfl rfl ?_
  refine g_iload_n (pc := 2) hC 2 dX12_write_2 rfl rfl ?_
  refine g_callV_i (pc := 3) (wd := fun (u : St) Y => (wX12 o0 a0 (xy C) u Y)) (F := fun Z => Z) (X := []) (As := [.int x1, .int x2]) (rest := []) (u := u0) hC (fun _ _ => rfl) (fun _ => rfl) (ctX12_wrongPlace h) wvX12_wrongPlace ml_X12_102 (ci := 10) (q0 := 0) rfl rfl rfl rfl (rmok hR0 rfl) ⟨Nat.zero_le _, Nat.zero_le _⟩ rfl (Nat.le_of_ble_eq_true rfl) dX12_write_3 (fun r_14 u_13 h => ?_)
  refine g_istore (pc := 6) (lv' := [(5, .int r_14), (0, .ref o0), (1, .int x1), (2, .int x2), (3, .long x3)]) hC dX12_write_6 (Nat.le_of_ble_eq_true rfl) rfl ?_
  refine g_iload (pc := 8) hC 0 dX12_write_8 rfl ?_
  refine g_if_ne (pc := 10) (tgt := 34) hC dX12_write_10 (by decide) (fun c_16 => ?_) (fun c_16 => ?_)
  · have h := h.1 c_16
    refine g_sub (lv' := [(0, .ref o0), (5, .int r_14)]) [1, 0] rfl ?_
    exact kX12_write_b34 hC hR0 hR  h
  · have h := h.2 c_16
    refine g_aload_n (pc := 13) hC 1 dX12_write_13 rfl rfl ?_
    refine getX12_7 (pc := 14) hC (F := fun Z => Z) (X := []) (fun _ => rfl) fl_X12_27 dX12_write_14 ?_
    refine g_bipush (pc := 17) (v := 60) hC dX12_write_17 (by decide) ?_
    refine g_iload_n (pc := 19) hC 2 dX12_write_19 rfl rfl ?_
    refine g_imul (pc := 20) hC dX12_write_20 ?_
    refine g_iload_n (pc := 21) hC 3 dX12_write_21 rfl rfl ?_
    refine g_iadd (pc := 22) hC dX12_write_22 ?_
    refine g_lload_n (pc := 23) hC 4 dX12_write_23 rfl rfl ?_
    refine g_aload_n (pc := 24) hC 1 dX12_write_24 rfl rfl ?_
    refine getX12_5 (pc := 25) hC (F := fun Z => Z) (X := []) (fun _ => rfl) fl_X12_21 dX12_write_25 ?_
    refine g_iload_n (pc := 28) hC 2 dX12_write_28 rfl rfl ?_
    refine aldX12_5 (pc := 29) hC (F := fun Z => Z) (X := []) (fun _ => rfl) h.1 dX12_write_29 ?_
    have h := h.2
    refine g_callS_l (pc := 30) (wd := fun (_ : Unit) Y => Y) (F := fun Z => Z) (X := []) (As := [.long x3, .int (ga u_13 5 (x1).toNatClampNeg)]) (rest := [.int (((60 : Int32) * x1) + x2), .ref (a0 7)]) (u := ()) hC (fun _ _ => rfl) (fun _ => rfl) (ctX12_cut h) wvX12_cut ml_X12_106 rfl (rmok hR0 rfl) ⟨Nat.zero_le _, Nat.zero_le _⟩ rfl (Nat.le_of_ble_eq_true rfl) dX12_write_30 (fun r_17 u_18 h => ?_)
    refine astX12_7 (pc := 33) hC (F := fun Z => Z) (X := []) (fun _ => rfl) h.1 dX12_write_33 ?_
    have h := h.2
    refine g_st (w := fun z => (wX12 o0 a0 (xy C) z [])) (u := (sx u_13 7 (vp_updL (gl u_13 7) ((((60 : Int32) * x1) + x2)).toNatClampNeg r_17))) (fun u_19 eu_19 => ?_)
    have h := h u_19 eu_19
    refine g_sub (lv' := [(0, .ref o0), (5, .int r_14)]) [1, 0] rfl ?_
    exact kX12_write_b34 hC hR0 hR  h
theorem ctX12_write {l : Launch} {D : va_G} {cy : Nat → ClassId} {kd : Nat → Nat} {o0 : Nat} {a0 : Nat → Nat} {x1 : Int32} {x2 : Int32} {x3 : Int64} {u0 : St} {post : Int32 → St → Prop} (h : qX12_write x1 x2 x3 u0 post) : CtI l D cy kd yX12_write cX12_write 6 3 .boolean [.ref o0, .int x1, .int x2, .long x3] (fun u : St => (wX12 o0 a0 cy u [])) u0 (fun r u => post r u) := met_z (by decide) (Nat.le_of_ble_eq_true rfl) (fun C e1 e2 e3 e4 e5 hC hR => by subst e1 e2 e3 e4; exact kX12_write hC e5 hR h)
theorem dX12_read_0 : decode cX12_read 0 = .ok (.aload_n 0, 1) := by decide +kernel
theorem dX12_read_1 : decode cX12_read 1 = .ok (.aload_n 0, 1) := by decide +kernel
theorem dX12_read_2 : decode cX12_read 2 = .ok (.iload_n 1, 1) := by decide +kernel
theorem dX12_read_3 : decode cX12_read 3 = .ok (.iload_n 2, 1) := by decide +kernel
theorem dX12_read_4 : decode cX12_read 4 = .ok (.invokevirtual 102, 3) := by decide +kernel
theorem dX12_read_7 : decode cX12_read 7 = .ok (.putfield 82, 3) := by decide +kernel
theorem dX12_read_10 : decode cX12_read 10 = .ok (.aload_n 0, 1) := by decide +kernel
theorem dX12_read_11 : decode cX12_read 11 = .ok (.getfield 82, 3) := by decide +kernel
theorem dX12_read_14 : decode cX12_read 14 = .ok (.ifCond .le 9, 3) := by decide +kernel
theorem dX12_read_17 : decode cX12_read 17 = .ok (.ldc2_w 110, 3) := by decide +kernel
theorem dX12_read_20 : decode cX12_read 20 = .ok (.goto 14, 3) := by decide +kernel
theorem dX12_read_23 : decode cX12_read 23 = .ok (.aload_n 0, 1) := by decide +kernel
theorem dX12_read_24 : decode cX12_read 24 = .ok (.getfield 27, 3) := by decide +kernel
theorem dX12_read_27 : decode cX12_read 27 = .ok (.bipush 60, 2) := by decide +kernel
theorem dX12_read_29 : decode cX12_read 29 = .ok (.iload_n 1, 1) := by decide +kernel
theorem dX12_read_30 : decode cX12_read 30 = .ok (.imul, 1) := by decide +kernel
theorem dX12_read_31 : decode cX12_read 31 = .ok (.iload_n 2, 1) := by decide +kernel
theorem dX12_read_32 : decode cX12_read 32 = .ok (.iadd, 1) := by decide +kernel
theorem dX12_read_33 : decode cX12_read 33 = .ok (.laload, 1) := by decide +kernel
theorem dX12_read_34 : decode cX12_read 34 = .ok (.lreturn, 1) := by decide +kernel
def qX12_read_b34  (post : Int64 → St → Prop)  (s0 : Int64) (u0 : St) : Prop := post s0 u0
set_option maxRecDepth 100000 in
set_option maxHeartbeats 4000000 in
theorem kX12_read_b34 {C : Cx} {o0 : Nat} {a0 : Nat → Nat} (hC : Fx C cX12_read 3 RX12) (hR0 : xR C = rm 3) {post : Int64 → St → Prop} (hR : RJ C cX12_read 3 (fun u : St => (wX12 o0 a0 (xy C) u [])) (fun r u => post r u))  {s0 : Int64} {u0 : St} (h : qX12_read_b34 post s0 u0) : G C 0 0 3 (wX12 o0 a0 (xy C) u0 []) 34 [] [.long s0] := by
  exact hR _ _ _ u0 dX12_read_34 h
def qX12_read (x1 : Int32) (x2 : Int32) (u0 : St) (post : Int64 → St → Prop) : Prop := qX12_wrongPlace x1 x2 u0 (fun r_6 u_5 => ∀ u_8 : St, u_8 = (si u_5 2 r_6) → (((gi u_8 2) ≤ 0 → (vp_in (((60 : Int32) * x1) + x2) 240 ∧ qX12_read_b34 post (gl u_8 7 ((((60 : Int32) * x1) + x2)).toNatClampNeg) u_8)) ∧ (¬ (gi u_8 2) ≤ 0 → qX12_read_b34 post (-1 : Int64) u_8)))
set_option maxRecDepth 100000 in
set_option maxHeartbeats 4000000 in
theorem kX12_read {C : Cx} {o0 : Nat} {a0 : Nat → Nat} (hC : Fx C cX12_read 3 RX12) (hR0 : xR C = rm 3) {post : Int64 → St → Prop} (hR : RJ C cX12_read 3 (fun u : St => (wX12 o0 a0 (xy C) u [])) (fun r u => post r u)) {x1 : Int32} {x2 : Int32} {u0 : St} (h : qX12_read x1 x2 u0 post) : G C 0 0 3 (wX12 o0 a0 (xy C) u0 []) 0 [(0, .ref o0), (1, .int x1), (2, .int x2)] [] := by
  refine g_aload_n (pc := 0) hC 0 dX12_read_0 rfl rfl ?_
  refine g_aload_n (pc := 1) hC 0 dX12_read_1 rfl rfl ?_
  refine g_iload_n (pc := 2) hC 1 dX12_read_2 rfl rfl ?_
  refine g_iload_n (pc := 3) hC 2 dX12_read_3 rfl rfl ?_
  refine g_callV_i (pc := 4) (wd := fun (u : St) Y => (wX12 o0 a0 (xy C) u Y)) (F := fun Z => Z) (X := []) (As := [.int x1, .int x2]) (rest := [.ref o0]) (u := u0) hC (fun _ _ => rfl) (fun _ => rfl) (ctX12_wrongPlace h) wvX12_wrongPlace ml_X12_102 (ci := 10) (q0 := 0) rfl rfl rfl rfl (rmok hR0 rfl) ⟨Nat.zero_le _, Nat.zero_le _⟩ rfl (Nat.le_of_ble_eq_true rfl) dX12_read_4 (fun r_6 u_5 h => ?_)
  refine putX12_2 (pc := 7) hC (F := fun Z => Z) (X := []) (fun _ => rfl) fl_X12_82 dX12_read_7 ?_
  refine g_st (w := fun z => (wX12 o0 a0 (xy C) z [])) (u := (si u_5 2 r_6)) (fun u_8 eu_8 => ?_)
  have h := h u_8 eu_8
  refine g_aload_n (pc := 10) hC 0 dX12_read_10 rfl rfl ?_
  refine getX12_2 (pc := 11) hC (F := fun Z => Z) (X := []) (fun _ => rfl) fl_X12_82 dX12_read_11 ?_
  refine g_if_le (pc := 14) (tgt := 23) hC dX12_read_14 (by decide) (fun c_9 => ?_) (fun c_9 => ?_)
  · have h := h.1 c_9
    refine g_aload_n (pc := 23) hC 0 dX12_read_23 rfl rfl ?_
    refine getX12_7 (pc := 24) hC (F := fun Z => Z) (X := []) (fun _ => rfl) fl_X12_27 dX12_read_24 ?_
    refine g_bipush (pc := 27) (v := 60) hC dX12_read_27 (by decide) ?_
    refine g_iload_n (pc := 29) hC 1 dX12_read_29 rfl rfl ?_
    refine g_imul (pc := 30) hC dX12_read_30 ?_
    refine g_iload_n (pc := 31) hC 2 dX12_read_31 rfl rfl ?_
    refine g_iadd (pc := 32) hC dX12_read_32 ?_
    refine aldX12_7 (pc := 33) hC (F := fun Z => Z) (X := []) (fun _ => rfl) h.1 dX12_read_33 ?_
    have h := h.2
    refine g_sub (lv' := []) [] rfl ?_
    exact kX12_read_b34 hC hR0 hR  h
  · have h := h.2 c_9
    refine g_ldc2 (pc := 17) hC cn_X12_110 dX12_read_17 ?_
    refine g_goto (pc := 20) (tgt := 34) hC dX12_read_20 (by decide) ?_
    refine g_sub (lv' := []) [] rfl ?_
    exact kX12_read_b34 hC hR0 hR  h
theorem ctX12_read {l : Launch} {D : va_G} {cy : Nat → ClassId} {kd : Nat → Nat} {o0 : Nat} {a0 : Nat → Nat} {x1 : Int32} {x2 : Int32} {u0 : St} {post : Int64 → St → Prop} (h : qX12_read x1 x2 u0 post) : CtL l D cy kd yX12_read cX12_read 3 3  [.ref o0, .int x1, .int x2] (fun u : St => (wX12 o0 a0 cy u [])) u0 (fun r u => post r u) := met_l (by decide) (Nat.le_of_ble_eq_true rfl) (fun C e1 e2 e3 e4 e5 hC hR => by subst e1 e2 e3 e4; exact kX12_read hC e5 hR h)
theorem dX12_pour_0 : decode cX12_pour 0 = .ok (.iload_n 1, 1) := by decide +kernel
theorem dX12_pour_1 : decode cX12_pour 1 = .ok (.invokestatic 99, 3) := by decide +kernel
theorem dX12_pour_4 : decode cX12_pour 4 = .ok (.ifCond .eq 24, 3) := by decide +kernel
theorem dX12_pour_7 : decode cX12_pour 7 = .ok (.iload_n 3, 1) := by decide +kernel
theorem dX12_pour_8 : decode cX12_pour 8 = .ok (.invokestatic 99, 3) := by decide +kernel
theorem dX12_pour_11 : decode cX12_pour 11 = .ok (.ifCond .eq 17, 3) := by decide +kernel
theorem dX12_pour_14 : decode cX12_pour 14 = .ok (.iload_n 2, 1) := by decide +kernel
theorem dX12_pour_15 : decode cX12_pour 15 = .ok (.ifCond .lt 13, 3) := by decide +kernel
theorem dX12_pour_18 : decode cX12_pour 18 = .ok (.iload 4, 2) := by decide +kernel
theorem dX12_pour_20 : decode cX12_pour 20 = .ok (.ifCond .lt 8, 3) := by decide +kernel
theorem dX12_pour_23 : decode cX12_pour 23 = .ok (.iload 5, 2) := by decide +kernel
theorem dX12_pour_25 : decode cX12_pour 25 = .ok (.ifCond .ge 9, 3) := by decide +kernel
theorem dX12_pour_28 : decode cX12_pour 28 = .ok (.aload_n 0, 1) := by decide +kernel
theorem dX12_pour_29 : decode cX12_pour 29 = .ok (.iconst 1, 1) := by decide +kernel
theorem dX12_pour_30 : decode cX12_pour 30 = .ok (.invokevirtual 95, 3) := by decide +kernel
theorem dX12_pour_33 : decode cX12_pour 33 = .ok (.ireturn, 1) := by decide +kernel
theorem dX12_pour_34 : decode cX12_pour 34 = .ok (.aload_n 0, 1) := by decide +kernel
theorem dX12_pour_35 : decode cX12_pour 35 = .ok (.getfield 24, 3) := by decide +kernel
theorem dX12_pour_38 : decode cX12_pour 38 = .ok (.iload_n 1, 1) := by decide +kernel
theorem dX12_pour_39 : decode cX12_pour 39 = .ok (.iaload, 1) := by decide +kernel
theorem dX12_pour_40 : decode cX12_pour 40 = .ok (.iconst (-1), 1) := by decide +kernel
theorem dX12_pour_41 : decode cX12_pour 41 = .ok (.if_icmp .eq 13, 3) := by decide +kernel
theorem dX12_pour_44 : decode cX12_pour 44 = .ok (.aload_n 0, 1) := by decide +kernel
theorem dX12_pour_45 : decode cX12_pour 45 = .ok (.getfield 24, 3) := by decide +kernel
theorem dX12_pour_48 : decode cX12_pour 48 = .ok (.iload_n 3, 1) := by decide +kernel
theorem dX12_pour_49 : decode cX12_pour 49 = .ok (.iaload, 1) := by decide +kernel
theorem dX12_pour_50 : decode cX12_pour 50 = .ok (.iconst (-1), 1) := by decide +kernel
theorem dX12_pour_51 : decode cX12_pour 51 = .ok (.if_icmp .ne 9, 3) := by decide +kernel
theorem dX12_pour_54 : decode cX12_pour 54 = .ok (.aload_n 0, 1) := by decide +kernel
theorem dX12_pour_55 : decode cX12_pour 55 = .ok (.iconst 2, 1) := by decide +kernel
theorem dX12_pour_56 : decode cX12_pour 56 = .ok (.invokevirtual 95, 3) := by decide +kernel
theorem dX12_pour_59 : decode cX12_pour 59 = .ok (.ireturn, 1) := by decide +kernel
theorem dX12_pour_60 : decode cX12_pour 60 = .ok (.aload_n 0, 1) := by decide +kernel
theorem dX12_pour_61 : decode cX12_pour 61 = .ok (.getfield 21, 3) := by decide +kernel
theorem dX12_pour_64 : decode cX12_pour 64 = .ok (.iload_n 1, 1) := by decide +kernel
theorem dX12_pour_65 : decode cX12_pour 65 = .ok (.iaload, 1) := by decide +kernel
theorem dX12_pour_66 : decode cX12_pour 66 = .ok (.aload_n 0, 1) := by decide +kernel
theorem dX12_pour_67 : decode cX12_pour 67 = .ok (.getfield 21, 3) := by decide +kernel
theorem dX12_pour_70 : decode cX12_pour 70 = .ok (.iload_n 3, 1) := by decide +kernel
theorem dX12_pour_71 : decode cX12_pour 71 = .ok (.iaload, 1) := by decide +kernel
theorem dX12_pour_72 : decode cX12_pour 72 = .ok (.if_icmp .eq 10, 3) := by decide +kernel
theorem dX12_pour_75 : decode cX12_pour 75 = .ok (.aload_n 0, 1) := by decide +kernel
theorem dX12_pour_76 : decode cX12_pour 76 = .ok (.bipush 8, 2) := by decide +kernel
theorem dX12_pour_78 : decode cX12_pour 78 = .ok (.invokevirtual 95, 3) := by decide +kernel
theorem dX12_pour_81 : decode cX12_pour 81 = .ok (.ireturn, 1) := by decide +kernel
theorem dX12_pour_82 : decode cX12_pour 82 = .ok (.iload 5, 2) := by decide +kernel
theorem dX12_pour_84 : decode cX12_pour 84 = .ok (.aload_n 0, 1) := by decide +kernel
theorem dX12_pour_85 : decode cX12_pour 85 = .ok (.getfield 24, 3) := by decide +kernel
theorem dX12_pour_88 : decode cX12_pour 88 = .ok (.iload_n 1, 1) := by decide +kernel
theorem dX12_pour_89 : decode cX12_pour 89 = .ok (.iaload, 1) := by decide +kernel
theorem dX12_pour_90 : decode cX12_pour 90 = .ok (.iload_n 2, 1) := by decide +kernel
theorem dX12_pour_91 : decode cX12_pour 91 = .ok (.isub, 1) := by decide +kernel
theorem dX12_pour_92 : decode cX12_pour 92 = .ok (.if_icmp .gt 17, 3) := by decide +kernel
theorem dX12_pour_95 : decode cX12_pour 95 = .ok (.iload 5, 2) := by decide +kernel
theorem dX12_pour_97 : decode cX12_pour 97 = .ok (.aload_n 0, 1) := by decide +kernel
theorem dX12_pour_98 : decode cX12_pour 98 = .ok (.getfield 24, 3) := by decide +kernel
theorem dX12_pour_101 : decode cX12_pour 101 = .ok (.iload_n 3, 1) := by decide +kernel
theorem dX12_pour_102 : decode cX12_pour 102 = .ok (.iaload, 1) := by decide +kernel
theorem dX12_pour_103 : decode cX12_pour 103 = .ok (.iload 4, 2) := by decide +kernel
theorem dX12_pour_105 : decode cX12_pour 105 = .ok (.isub, 1) := by decide +kernel
theorem dX12_pour_106 : decode cX12_pour 106 = .ok (.if_icmp .le 9, 3) := by decide +kernel
theorem dX12_pour_109 : decode cX12_pour 109 = .ok (.aload_n 0, 1) := by decide +kernel
theorem dX12_pour_110 : decode cX12_pour 110 = .ok (.iconst 3, 1) := by decide +kernel
theorem dX12_pour_111 : decode cX12_pour 111 = .ok (.invokevirtual 95, 3) := by decide +kernel
theorem dX12_pour_114 : decode cX12_pour 114 = .ok (.ireturn, 1) := by decide +kernel
theorem dX12_pour_115 : decode cX12_pour 115 = .ok (.iconst 0, 1) := by decide +kernel
theorem dX12_pour_116 : decode cX12_pour 116 = .ok (.istore 6, 2) := by decide +kernel
theorem dX12_pour_118 : decode cX12_pour 118 = .ok (.iload 6, 2) := by decide +kernel
theorem dX12_pour_120 : decode cX12_pour 120 = .ok (.iload 5, 2) := by decide +kernel
theorem dX12_pour_122 : decode cX12_pour 122 = .ok (.if_icmp .ge 58, 3) := by decide +kernel
theorem dX12_pour_125 : decode cX12_pour 125 = .ok (.iload_n 2, 1) := by decide +kernel
theorem dX12_pour_126 : decode cX12_pour 126 = .ok (.iload 4, 2) := by decide +kernel
theorem dX12_pour_128 : decode cX12_pour 128 = .ok (.if_icmp .ge 13, 3) := by decide +kernel
theorem dX12_pour_131 : decode cX12_pour 131 = .ok (.iload 5, 2) := by decide +kernel
theorem dX12_pour_133 : decode cX12_pour 133 = .ok (.iconst 1, 1) := by decide +kernel
theorem dX12_pour_134 : decode cX12_pour 134 = .ok (.isub, 1) := by decide +kernel
theorem dX12_pour_135 : decode cX12_pour 135 = .ok (.iload 6, 2) := by decide +kernel
theorem dX12_pour_137 : decode cX12_pour 137 = .ok (.isub, 1) := by decide +kernel
theorem dX12_pour_138 : decode cX12_pour 138 = .ok (.goto 5, 3) := by decide +kernel
theorem dX12_pour_141 : decode cX12_pour 141 = .ok (.iload 6, 2) := by decide +kernel
theorem dX12_pour_143 : decode cX12_pour 143 = .ok (.istore 7, 2) := by decide +kernel
theorem dX12_pour_145 : decode cX12_pour 145 = .ok (.aload_n 0, 1) := by decide +kernel
theorem dX12_pour_146 : decode cX12_pour 146 = .ok (.getfield 27, 3) := by decide +kernel
theorem dX12_pour_149 : decode cX12_pour 149 = .ok (.bipush 60, 2) := by decide +kernel
theorem dX12_pour_151 : decode cX12_pour 151 = .ok (.iload_n 3, 1) := by decide +kernel
theorem dX12_pour_152 : decode cX12_pour 152 = .ok (.imul, 1) := by decide +kernel
theorem dX12_pour_153 : decode cX12_pour 153 = .ok (.iload 4, 2) := by decide +kernel
theorem dX12_pour_155 : decode cX12_pour 155 = .ok (.iadd, 1) := by decide +kernel
theorem dX12_pour_156 : decode cX12_pour 156 = .ok (.iload 7, 2) := by decide +kernel
theorem dX12_pour_158 : decode cX12_pour 158 = .ok (.iadd, 1) := by decide +kernel
theorem dX12_pour_159 : decode cX12_pour 159 = .ok (.aload_n 0, 1) := by decide +kernel
theorem dX12_pour_160 : decode cX12_pour 160 = .ok (.getfield 27, 3) := by decide +kernel
theorem dX12_pour_163 : decode cX12_pour 163 = .ok (.bipush 60, 2) := by decide +kernel
theorem dX12_pour_165 : decode cX12_pour 165 = .ok (.iload_n 1, 1) := by decide +kernel
theorem dX12_pour_166 : decode cX12_pour 166 = .ok (.imul, 1) := by decide +kernel
theorem dX12_pour_167 : decode cX12_pour 167 = .ok (.iload_n 2, 1) := by decide +kernel
theorem dX12_pour_168 : decode cX12_pour 168 = .ok (.iadd, 1) := by decide +kernel
theorem dX12_pour_169 : decode cX12_pour 169 = .ok (.iload 7, 2) := by decide +kernel
theorem dX12_pour_171 : decode cX12_pour 171 = .ok (.iadd, 1) := by decide +kernel
theorem dX12_pour_172 : decode cX12_pour 172 = .ok (.laload, 1) := by decide +kernel
theorem dX12_pour_173 : decode cX12_pour 173 = .ok (.lastore, 1) := by decide +kernel
theorem dX12_pour_174 : decode cX12_pour 174 = .ok (.iinc 6 1, 3) := by decide +kernel
theorem dX12_pour_177 : decode cX12_pour 177 = .ok (.goto (-59), 3) := by decide +kernel
theorem dX12_pour_180 : decode cX12_pour 180 = .ok (.aload_n 0, 1) := by decide +kernel
theorem dX12_pour_181 : decode cX12_pour 181 = .ok (.iconst 0, 1) := by decide +kernel
theorem dX12_pour_182 : decode cX12_pour 182 = .ok (.invokevirtual 95, 3) := by decide +kernel
theorem dX12_pour_185 : decode cX12_pour 185 = .ok (.ireturn, 1) := by decide +kernel
def qX12_pour_b28  (post : Int32 → St → Prop)  (u0 : St) : Prop := qX12_is (1 : Int32) u0 (fun r_23 u_22 => (bz r_23 ∧ post r_23 u_22))
set_option maxRecDepth 100000 in
set_option maxHeartbeats 4000000 in
theorem kX12_pour_b28 {C : Cx} {o0 : Nat} {a0 : Nat → Nat} (hC : Fx C cX12_pour 8 RX12) (hR0 : xR C = rm 2) {post : Int32 → St → Prop} (hR : RZ C cX12_pour 8 (fun u : St => (wX12 o0 a0 (xy C) u [])) (fun r u => post r u))  {u0 : St} (h : qX12_pour_b28 post u0) : G C 0 0 8 (wX12 o0 a0 (xy C) u0 []) 28 [(0, .ref o0)] [] := by
  refine g_aload_n (pc := 28) hC 0 dX12_pour_28 rfl rfl ?_
  refine g_iconst (pc := 29) (v := 1) hC dX12_pour_29 (by decide) ?_
  refine g_callV_i (pc := 30) (wd := fun (u : St) Y => (wX12 o0 a0 (xy C) u Y)) (F := fun Z => Z) (X := []) (As := [.int (1 : Int32)]) (rest := []) (u := u0) hC (fun _ _ => rfl) (fun _ => rfl) (ctX12_is h) wvX12_is ml_X12_95 (ci := 10) (q0 := 0) rfl rfl rfl rfl (rmok hR0 rfl) ⟨Nat.zero_le _, Nat.zero_le _⟩ rfl (Nat.le_of_ble_eq_true rfl) dX12_pour_30 (fun r_23 u_22 h => ?_)
  exact hR _ _ _ u_22 dX12_pour_33 h.1 h.2
def qX12_pour_b54  (post : Int32 → St → Prop)  (u0 : St) : Prop := qX12_is (2 : Int32) u0 (fun r_26 u_25 => (bz r_26 ∧ post r_26 u_25))
set_option maxRecDepth 100000 in
set_option maxHeartbeats 4000000 in
theorem kX12_pour_b54 {C : Cx} {o0 : Nat} {a0 : Nat → Nat} (hC : Fx C cX12_pour 8 RX12) (hR0 : xR C = rm 2) {post : Int32 → St → Prop} (hR : RZ C cX12_pour 8 (fun u : St => (wX12 o0 a0 (xy C) u [])) (fun r u => post r u))  {u0 : St} (h : qX12_pour_b54 post u0) : G C 0 0 8 (wX12 o0 a0 (xy C) u0 []) 54 [(0, .ref o0)] [] := by
  refine g_aload_n (pc := 54) hC 0 dX12_pour_54 rfl rfl ?_
  refine g_iconst (pc := 55) (v := 2) hC dX12_pour_55 (by decide) ?_
  refine g_callV_i (pc := 56) (wd := fun (u : St) Y => (wX12 o0 a0 (xy C) u Y)) (F := fun Z => Z) (X := []) (As := [.int (2 : Int32)]) (rest := []) (u := u0) hC (fun _ _ => rfl) (fun _ => rfl) (ctX12_is h) wvX12_is ml_X12_95 (ci := 10) (q0 := 0) rfl rfl rfl rfl (rmok hR0 rfl) ⟨Nat.zero_le _, Nat.zero_le _⟩ rfl (Nat.le_of_ble_eq_true rfl) dX12_pour_56 (fun r_26 u_25 h => ?_)
  exact hR _ _ _ u_25 dX12_pour_59 h.1 h.2
def qX12_pour_b109  (post : Int32 → St → Prop)  (u0 : St) : Prop := qX12_is (3 : Int32) u0 (fun r_29 u_28 => (bz r_29 ∧ post r_29 u_28))
set_option maxRecDepth 100000 in
set_option maxHeartbeats 4000000 in
theorem kX12_pour_b109 {C : Cx} {o0 : Nat} {a0 : Nat → Nat} (hC : Fx C cX12_pour 8 RX12) (hR0 : xR C = rm 2) {post : Int32 → St → Prop} (hR : RZ C cX12_pour 8 (fun u : St => (wX12 o0 a0 (xy C) u [])) (fun r u => post r u))  {u0 : St} (h : qX12_pour_b109 post u0) : G C 0 0 8 (wX12 o0 a0 (xy C) u0 []) 109 [(0, .ref o0)] [] := by
  refine g_aload_n (pc := 109) hC 0 dX12_pour_109 rfl rfl ?_
  refine g_iconst (pc := 110) (v := 3) hC dX12_pour_110 (by decide) ?_
  refine g_callV_i (pc := 111) (wd := fun (u : St) Y => (wX12 o0 a0 (xy C) u Y)) (F := fun Z => Z) (X := []) (As := [.int (3 : Int32)]) (rest := []) (u := u0) hC (fun _ _ => rfl) (fun _ => rfl) (ctX12_is h) wvX12_is ml_X12_95 (ci := 10) (q0 := 0) rfl rfl rfl rfl (rmok hR0 rfl) ⟨Nat.zero_le _, Nat.zero_le _⟩ rfl (Nat.le_of_ble_eq_true rfl) dX12_pour_111 (fun r_29 u_28 h => ?_)
  exact hR _ _ _ u_28 dX12_pour_114 h.1 h.2
def qX12_pour_b143  (post : Int32 → St → Prop) (K118 : Int32 → Int32 → Int32 → Int32 → Int32 → Int32 → St → Prop) (x1 : Int32) (x2 : Int32) (x3 : Int32) (x4 : Int32) (x5 : Int32) (x6 : Int32) (s0 : Int32) (u0 : St) : Prop := (vp_in ((((60 : Int32) * x1) + x2) + s0) 240 ∧ (vp_in ((((60 : Int32) * x3) + x4) + s0) 240 ∧ ∀ u_31 : St, u_31 = (sx u0 7 (vp_updL (gl u0 7) (((((60 : Int32) * x3) + x4) + s0)).toNatClampNeg (gl u0 7 (((((60 : Int32) * x1) + x2) + s0)).toNatClampNeg))) → ∀ x6_32 : Int32, x6_32 = x6 + (1 : Int32) → K118 x1 x2 x3 x4 x5 x6_32 u_31))
set_option maxRecDepth 100000 in
set_option maxHeartbeats 4000000 in
theorem kX12_pour_b143 {C : Cx} {o0 : Nat} {a0 : Nat → Nat} (hC : Fx C cX12_pour 8 RX12) (hR0 : xR C = rm 2) {post : Int32 → St → Prop} (hR : RZ C cX12_pour 8 (fun u : St => (wX12 o0 a0 (xy C) u [])) (fun r u => post r u)) {K118 : Int32 → Int32 → Int32 → Int32 → Int32 → Int32 → St → Prop} (hK118 : ∀ (x1 : Int32) (x2 : Int32) (x3 : Int32) (x4 : Int32) (x5 : Int32) (x6 : Int32) (u0 : St), K118 x1 x2 x3 x4 x5 x6 u0 → G C 0 0 8 (wX12 o0 a0 (xy C) u0 []) 118 [(0, .ref o0), (1, .int x1), (2, .int x2), (3, .int x3), (4, .int x4), (5, .int x5), (6, .int x6)] []) {x1 : Int32} {x2 : Int32} {x3 : Int32} {x4 : Int32} {x5 : Int32} {x6 : Int32} {s0 : Int32} {u0 : St} (h : qX12_pour_b143 post K118 x1 x2 x3 x4 x5 x6 s0 u0) : G C 0 0 8 (wX12 o0 a0 (xy C) u0 []) 143 [(0, .ref o0), (1, .int x1), (2, .int x2), (3, .int x3), (4, .int x4), (5, .int x5), (6, .int x6)] [.int s0] := by
  refine g_istore (pc := 143) (lv' := [(7, .int s0), (0, .ref o0), (1, .int x1), (2, .int x2), (3, .int x3), (4, .int x4), (5, .int x5), (6, .int x6)]) hC dX12_pour_143 (Nat.le_of_ble_eq_true rfl) rfl ?_
  refine g_aload_n (pc := 145) hC 1 dX12_pour_145 rfl rfl ?_
  refine getX12_7 (pc := 146) hC (F := fun Z => Z) (X := []) (fun _ => rfl) fl_X12_27 dX12_pour_146 ?_
  refine g_bipush (pc := 149) (v := 60) hC dX12_pour_149 (by decide) ?_
  refine g_iload_n (pc := 151) hC 4 dX12_pour_151 rfl rfl ?_
  refine g_imul (pc := 152) hC dX12_pour_152 ?_
  refine g_iload (pc := 153) hC 5 dX12_pour_153 rfl ?_
  refine g_iadd (pc := 155) hC dX12_pour_155 ?_
  refine g_iload (pc := 156) hC 0 dX12_pour_156 rfl ?_
  refine g_iadd (pc := 158) hC dX12_pour_158 ?_
  refine g_aload_n (pc := 159) hC 1 dX12_pour_159 rfl rfl ?_
  refine getX12_7 (pc := 160) hC (F := fun Z => Z) (X := []) (fun _ => rfl) fl_X12_27 dX12_pour_160 ?_
  refine g_bipush (pc := 163) (v := 60) hC dX12_pour_163 (by decide) ?_
  refine g_iload_n (pc := 165) hC 2 dX12_pour_165 rfl rfl ?_
  refine g_imul (pc := 166) hC dX12_pour_166 ?_
  refine g_iload_n (pc := 167) hC 3 dX12_pour_167 rfl rfl ?_
  refine g_iadd (pc := 168) hC dX12_pour_168 ?_
  refine g_iload (pc := 169) hC 0 dX12_pour_169 rfl ?_
  refine g_iadd (pc := 171) hC dX12_pour_171 ?_
  refine aldX12_7 (pc := 172) hC (F := fun Z => Z) (X := []) (fun _ => rfl) h.1 dX12_pour_172 ?_
  have h := h.2
  refine astX12_7 (pc := 173) hC (F := fun Z => Z) (X := []) (fun _ => rfl) h.1 dX12_pour_173 ?_
  have h := h.2
  refine g_st (w := fun z => (wX12 o0 a0 (xy C) z [])) (u := (sx u0 7 (vp_updL (gl u0 7) (((((60 : Int32) * x3) + x4) + s0)).toNatClampNeg (gl u0 7 (((((60 : Int32) * x1) + x2) + s0)).toNatClampNeg)))) (fun u_31 eu_31 => ?_)
  have h := h u_31 eu_31
  obtain ⟨x6_32, ex6_32⟩ : ∃ z : Int32, z = x6 + (1 : Int32) := ⟨_, rfl⟩
  have h := h x6_32 ex6_32
  refine g_iinc (pc := 174) (v := x6_32) (lv' := [(6, .int x6_32), (7, .int s0), (0, .ref o0), (1, .int x1), (2, .int x2), (3, .int x3), (4, .int x4), (5, .int x5)]) hC 7 dX12_pour_174 rfl (by rw [ex6_32]; rfl) (Nat.le_of_ble_eq_true rfl) rfl ?_
  refine g_goto (pc := 177) (tgt := 118) hC dX12_pour_177 (by decide) ?_
  refine g_sub (lv' := [(0, .ref o0), (1, .int x1), (2, .int x2), (3, .int x3), (4, .int x4), (5, .int x5), (6, .int x6_32)]) [2, 3, 4, 5, 6, 7, 0] rfl ?_
  exact hK118 _ _ _ _ _ _ _ h
def qX12_pour_b180  (post : Int32 → St → Prop)  (u0 : St) : Prop := qX12_is (0 : Int32) u0 (fun r_34 u_33 => (bz r_34 ∧ post r_34 u_33))
set_option maxRecDepth 100000 in
set_option maxHeartbeats 4000000 in
theorem kX12_pour_b180 {C : Cx} {o0 : Nat} {a0 : Nat → Nat} (hC : Fx C cX12_pour 8 RX12) (hR0 : xR C = rm 2) {post : Int32 → St → Prop} (hR : RZ C cX12_pour 8 (fun u : St => (wX12 o0 a0 (xy C) u [])) (fun r u => post r u))  {u0 : St} (h : qX12_pour_b180 post u0) : G C 0 0 8 (wX12 o0 a0 (xy C) u0 []) 180 [(0, .ref o0)] [] := by
  refine g_aload_n (pc := 180) hC 0 dX12_pour_180 rfl rfl ?_
  refine g_iconst (pc := 181) (v := 0) hC dX12_pour_181 (by decide) ?_
  refine g_callV_i (pc := 182) (wd := fun (u : St) Y => (wX12 o0 a0 (xy C) u Y)) (F := fun Z => Z) (X := []) (As := [.int (0 : Int32)]) (rest := []) (u := u0) hC (fun _ _ => rfl) (fun _ => rfl) (ctX12_is h) wvX12_is ml_X12_95 (ci := 10) (q0 := 0) rfl rfl rfl rfl (rmok hR0 rfl) ⟨Nat.zero_le _, Nat.zero_le _⟩ rfl (Nat.le_of_ble_eq_true rfl) dX12_pour_182 (fun r_34 u_33 h => ?_)
  exact hR _ _ _ u_33 dX12_pour_185 h.1 h.2
def qX12_pour_l118  (post : Int32 → St → Prop) (K118 : Int32 → Int32 → Int32 → Int32 → Int32 → Int32 → St → Prop) (x1 : Int32) (x2 : Int32) (x3 : Int32) (x4 : Int32) (x5 : Int32) (x6 : Int32) (u0 : St) : Prop := ((x5 ≤ x6 → qX12_pour_b180 post u0) ∧ (¬ x5 ≤ x6 → ((x4 ≤ x2 → qX12_pour_b143 post K118 x1 x2 x3 x4 x5 x6 x6 u0) ∧ (¬ x4 ≤ x2 → qX12_pour_b143 post K118 x1 x2 x3 x4 x5 x6 ((x5 - (1 : Int32)) - x6) u0))))
set_option maxRecDepth 100000 in
set_option maxHeartbeats 4000000 in
theorem kX12_pour_l118 {C : Cx} {o0 : Nat} {a0 : Nat → Nat} (hC : Fx C cX12_pour 8 RX12) (hR0 : xR C = rm 2) {post : Int32 → St → Prop} (hR : RZ C cX12_pour 8 (fun u : St => (wX12 o0 a0 (xy C) u [])) (fun r u => post r u))  {K118 : Int32 → Int32 → Int32 → Int32 → Int32 → Int32 → St → Prop} (hK118 : ∀ (x1 : Int32) (x2 : Int32) (x3 : Int32) (x4 : Int32) (x5 : Int32) (x6 : Int32) (u0 : St), K118 x1 x2 x3 x4 x5 x6 u0 → G C 0 0 8 (wX12 o0 a0 (xy C) u0 []) 118 [(0, .ref o0), (1, .int x1), (2, .int x2), (3, .int x3), (4, .int x4), (5, .int x5), (6, .int x6)] []) {x1 : Int32} {x2 : Int32} {x3 : Int32} {x4 : Int32} {x5 : Int32} {x6 : Int32} {u0 : St} (h : qX12_pour_l118 post K118 x1 x2 x3 x4 x5 x6 u0) : G C 0 0 8 (wX12 o0 a0 (xy C) u0 []) 118 [(0, .ref o0), (1, .int x1), (2, .int x2), (3, .int x3), (4, .int x4), (5, .int x5), (6, .int x6)] [] := by
  refine g_iload (pc := 118) hC 6 dX12_pour_118 rfl ?_
  refine g_iload (pc := 120) hC 5 dX12_pour_120 rfl ?_
  refine g_icmp_ge (pc := 122) (tgt := 180) hC dX12_pour_122 (by decide) (fun c_36 => ?_) (fun c_36 => ?_)
  · have h := h.1 c_36
    refine g_sub (lv' := [(0, .ref o0)]) [0] rfl ?_
    exact kX12_pour_b180 hC hR0 hR  h
  · have h := h.2 c_36
    refine g_iload_n (pc := 125) hC 2 dX12_pour_125 rfl rfl ?_
    refine g_iload (pc := 126) hC 4 dX12_pour_126 rfl ?_
    refine g_icmp_ge (pc := 128) (tgt := 141) hC dX12_pour_128 (by decide) (fun c_37 => ?_) (fun c_37 => ?_)
    · have h := h.1 c_37
      refine g_iload (pc := 141) hC 6 dX12_pour_141 rfl ?_
      exact kX12_pour_b143 hC hR0 hR hK118 h
    · have h := h.2 c_37
      refine g_iload (pc := 131) hC 5 dX12_pour_131 rfl ?_
      refine g_iconst (pc := 133) (v := 1) hC dX12_pour_133 (by decide) ?_
      refine g_isub (pc := 134) hC dX12_pour_134 ?_
      refine g_iload (pc := 135) hC 6 dX12_pour_135 rfl ?_
      refine g_isub (pc := 137) hC dX12_pour_137 ?_
      refine g_goto (pc := 138) (tgt := 143) hC dX12_pour_138 (by decide) ?_
      exact kX12_pour_b143 hC hR0 hR hK118 h
def qX12_pour_L118  (post : Int32 → St → Prop)  : Nat → Int32 → Int32 → Int32 → Int32 → Int32 → Int32 → St → Prop
  | 0 => fun _ _ _ _ _ _ _ => False
  | n + 1 => qX12_pour_l118 post (qX12_pour_L118 post n)
theorem kX12_pour_L118 {C : Cx} {o0 : Nat} {a0 : Nat → Nat} (hC : Fx C cX12_pour 8 RX12) (hR0 : xR C = rm 2) {post : Int32 → St → Prop} (hR : RZ C cX12_pour 8 (fun u : St => (wX12 o0 a0 (xy C) u [])) (fun r u => post r u))  : ∀ (n : Nat) (x1 : Int32) (x2 : Int32) (x3 : Int32) (x4 : Int32) (x5 : Int32) (x6 : Int32) (u0 : St), qX12_pour_L118 post n x1 x2 x3 x4 x5 x6 u0 → G C 0 0 8 (wX12 o0 a0 (xy C) u0 []) 118 [(0, .ref o0), (1, .int x1), (2, .int x2), (3, .int x3), (4, .int x4), (5, .int x5), (6, .int x6)] [] := by
  intro n
  induction n with
  | zero => intro x1 x2 x3 x4 x5 x6 u0 h; exact h.elim
  | succ n ih => intro x1 x2 x3 x4 x5 x6 u0 h; exact kX12_pour_l118 hC hR0 hR  ih h
def qX12_pour (x1 : Int32) (x2 : Int32) (x3 : Int32) (x4 : Int32) (x5 : Int32) (u0 : St) (post : Int32 → St → Prop) : Prop := qX12_isTray x1 (fun r_38 => ((r_38 = 0 → qX12_pour_b28 post u0) ∧ (¬ r_38 = 0 → qX12_isTray x3 (fun r_41 => ((r_41 = 0 → qX12_pour_b28 post u0) ∧ (¬ r_41 = 0 → ((x2 < 0 → qX12_pour_b28 post u0) ∧ (¬ x2 < 0 → ((x4 < 0 → qX12_pour_b28 post u0) ∧ (¬ x4 < 0 → ((0 ≤ x5 → (vp_in x1 4 ∧ (((ga u0 6 (x1).toNatClampNeg) = (-1 : Int32) → qX12_pour_b54 post u0) ∧ (¬ (ga u0 6 (x1).toNatClampNeg) = (-1 : Int32) → (vp_in x3 4 ∧ ((¬ (ga u0 6 (x3).toNatClampNeg) = (-1 : Int32) → (vp_in x1 4 ∧ (vp_in x3 4 ∧ (((ga u0 5 (x1).toNatClampNeg) = (ga u0 5 (x3).toNatClampNeg) → (vp_in x1 4 ∧ ((((ga u0 6 (x1).toNatClampNeg) - x2) < x5 → qX12_pour_b109 post u0) ∧ (¬ ((ga u0 6 (x1).toNatClampNeg) - x2) < x5 → (vp_in x3 4 ∧ ((x5 ≤ ((ga u0 6 (x3).toNatClampNeg) - x4) → ∃ n_52 : Nat, qX12_pour_L118 post n_52 x1 x2 x3 x4 x5 (0 : Int32) u0) ∧ (¬ x5 ≤ ((ga u0 6 (x3).toNatClampNeg) - x4) → qX12_pour_b109 post u0))))))) ∧ (¬ (ga u0 5 (x1).toNatClampNeg) = (ga u0 5 (x3).toNatClampNeg) → qX12_is (8 : Int32) u0 (fun r_54 u_53 => (bz r_54 ∧ post r_54 u_53))))))) ∧ ((ga u0 6 (x3).toNatClampNeg) = (-1 : Int32) → qX12_pour_b54 post u0))))))) ∧ (¬ 0 ≤ x5 → qX12_pour_b28 post u0))))))))))))
set_option maxRecDepth 100000 in
set_option maxHeartbeats 4000000 in
theorem kX12_pour {C : Cx} {o0 : Nat} {a0 : Nat → Nat} (hC : Fx C cX12_pour 8 RX12) (hR0 : xR C = rm 2) {post : Int32 → St → Prop} (hR : RZ C cX12_pour 8 (fun u : St => (wX12 o0 a0 (xy C) u [])) (fun r u => post r u)) {x1 : Int32} {x2 : Int32} {x3 : Int32} {x4 : Int32} {x5 : Int32} {u0 : St} (h : qX12_pour x1 x2 x3 x4 x5 u0 post) : G C 0 0 8 (wX12 o0 a0 (xy C) u0 []) 0 [(0, .ref o0), (1, .int x1), (2, .int x2), (3, .int x3), (4, .int x4), (5, .int x5)] [] := by
  refine g_iload_n (pc := 0) hC 1 dX12_pour_0 rfl rfl ?_
  refine g_callS_i (pc := 1) (wd := fun (_ : Unit) Y => Y) (F := fun Z => Z) (X := []) (As := [.int x1]) (rest := []) (u := ()) hC (fun _ _ => rfl) (fun _ => rfl) (ctX12_isTray h) wvX12_isTray ml_X12_99 rfl (rmok hR0 rfl) ⟨Nat.zero_le _, Nat.zero_le _⟩ rfl (Nat.le_of_ble_eq_true rfl) dX12_pour_1 (fun r_38 u_39 h => ?_)
  refine g_if_eq (pc := 4) (tgt := 28) hC dX12_pour_4 (by decide) (fun c_40 => ?_) (fun c_40 => ?_)
  · have h := h.1 c_40
    refine g_sub (lv' := [(0, .ref o0)]) [0] rfl ?_
    exact kX12_pour_b28 hC hR0 hR  h
  · have h := h.2 c_40
    refine g_iload_n (pc := 7) hC 3 dX12_pour_7 rfl rfl ?_
    refine g_callS_i (pc := 8) (wd := fun (_ : Unit) Y => Y) (F := fun Z => Z) (X := []) (As := [.int x3]) (rest := []) (u := ()) hC (fun _ _ => rfl) (fun _ => rfl) (ctX12_isTray h) wvX12_isTray ml_X12_99 rfl (rmok hR0 rfl) ⟨Nat.zero_le _, Nat.zero_le _⟩ rfl (Nat.le_of_ble_eq_true rfl) dX12_pour_8 (fun r_41 u_42 h => ?_)
    refine g_if_eq (pc := 11) (tgt := 28) hC dX12_pour_11 (by decide) (fun c_43 => ?_) (fun c_43 => ?_)
    · have h := h.1 c_43
      refine g_sub (lv' := [(0, .ref o0)]) [0] rfl ?_
      exact kX12_pour_b28 hC hR0 hR  h
    · have h := h.2 c_43
      refine g_iload_n (pc := 14) hC 2 dX12_pour_14 rfl rfl ?_
      refine g_if_lt (pc := 15) (tgt := 28) hC dX12_pour_15 (by decide) (fun c_44 => ?_) (fun c_44 => ?_)
      · have h := h.1 c_44
        refine g_sub (lv' := [(0, .ref o0)]) [0] rfl ?_
        exact kX12_pour_b28 hC hR0 hR  h
      · have h := h.2 c_44
        refine g_iload (pc := 18) hC 4 dX12_pour_18 rfl ?_
        refine g_if_lt (pc := 20) (tgt := 28) hC dX12_pour_20 (by decide) (fun c_45 => ?_) (fun c_45 => ?_)
        · have h := h.1 c_45
          refine g_sub (lv' := [(0, .ref o0)]) [0] rfl ?_
          exact kX12_pour_b28 hC hR0 hR  h
        · have h := h.2 c_45
          refine g_iload (pc := 23) hC 5 dX12_pour_23 rfl ?_
          refine g_if_ge (pc := 25) (tgt := 34) hC dX12_pour_25 (by decide) (fun c_46 => ?_) (fun c_46 => ?_)
          · have h := h.1 c_46
            refine g_aload_n (pc := 34) hC 0 dX12_pour_34 rfl rfl ?_
            refine getX12_6 (pc := 35) hC (F := fun Z => Z) (X := []) (fun _ => rfl) fl_X12_24 dX12_pour_35 ?_
            refine g_iload_n (pc := 38) hC 1 dX12_pour_38 rfl rfl ?_
            refine aldX12_6 (pc := 39) hC (F := fun Z => Z) (X := []) (fun _ => rfl) h.1 dX12_pour_39 ?_
            have h := h.2
            refine g_iconst (pc := 40) (v := -1) hC dX12_pour_40 (by decide) ?_
            refine g_icmp_eq (pc := 41) (tgt := 54) hC dX12_pour_41 (by decide) (fun c_47 => ?_) (fun c_47 => ?_)
            · have h := h.1 c_47
              refine g_sub (lv' := [(0, .ref o0)]) [0] rfl ?_
              exact kX12_pour_b54 hC hR0 hR  h
            · have h := h.2 c_47
              refine g_aload_n (pc := 44) hC 0 dX12_pour_44 rfl rfl ?_
              refine getX12_6 (pc := 45) hC (F := fun Z => Z) (X := []) (fun _ => rfl) fl_X12_24 dX12_pour_45 ?_
              refine g_iload_n (pc := 48) hC 3 dX12_pour_48 rfl rfl ?_
              refine aldX12_6 (pc := 49) hC (F := fun Z => Z) (X := []) (fun _ => rfl) h.1 dX12_pour_49 ?_
              have h := h.2
              refine g_iconst (pc := 50) (v := -1) hC dX12_pour_50 (by decide) ?_
              refine g_icmp_ne (pc := 51) (tgt := 60) hC dX12_pour_51 (by decide) (fun c_48 => ?_) (fun c_48 => ?_)
              · have h := h.1 c_48
                refine g_aload_n (pc := 60) hC 0 dX12_pour_60 rfl rfl ?_
                refine getX12_5 (pc := 61) hC (F := fun Z => Z) (X := []) (fun _ => rfl) fl_X12_21 dX12_pour_61 ?_
                refine g_iload_n (pc := 64) hC 1 dX12_pour_64 rfl rfl ?_
                refine aldX12_5 (pc := 65) hC (F := fun Z => Z) (X := []) (fun _ => rfl) h.1 dX12_pour_65 ?_
                have h := h.2
                refine g_aload_n (pc := 66) hC 0 dX12_pour_66 rfl rfl ?_
                refine getX12_5 (pc := 67) hC (F := fun Z => Z) (X := []) (fun _ => rfl) fl_X12_21 dX12_pour_67 ?_
                refine g_iload_n (pc := 70) hC 3 dX12_pour_70 rfl rfl ?_
                refine aldX12_5 (pc := 71) hC (F := fun Z => Z) (X := []) (fun _ => rfl) h.1 dX12_pour_71 ?_
                have h := h.2
                refine g_icmp_eq (pc := 72) (tgt := 82) hC dX12_pour_72 (by decide) (fun c_49 => ?_) (fun c_49 => ?_)
                · have h := h.1 c_49
                  refine g_iload (pc := 82) hC 5 dX12_pour_82 rfl ?_
                  refine g_aload_n (pc := 84) hC 0 dX12_pour_84 rfl rfl ?_
                  refine getX12_6 (pc := 85) hC (F := fun Z => Z) (X := []) (fun _ => rfl) fl_X12_24 dX12_pour_85 ?_
                  refine g_iload_n (pc := 88) hC 1 dX12_pour_88 rfl rfl ?_
                  refine aldX12_6 (pc := 89) hC (F := fun Z => Z) (X := []) (fun _ => rfl) h.1 dX12_pour_89 ?_
                  have h := h.2
                  refine g_iload_n (pc := 90) hC 2 dX12_pour_90 rfl rfl ?_
                  refine g_isub (pc := 91) hC dX12_pour_91 ?_
                  refine g_icmp_gt (pc := 92) (tgt := 109) hC dX12_pour_92 (by decide) (fun c_50 => ?_) (fun c_50 => ?_)
                  · have h := h.1 c_50
                    refine g_sub (lv' := [(0, .ref o0)]) [0] rfl ?_
                    exact kX12_pour_b109 hC hR0 hR  h
                  · have h := h.2 c_50
                    refine g_iload (pc := 95) hC 5 dX12_pour_95 rfl ?_
                    refine g_aload_n (pc := 97) hC 0 dX12_pour_97 rfl rfl ?_
                    refine getX12_6 (pc := 98) hC (F := fun Z => Z) (X := []) (fun _ => rfl) fl_X12_24 dX12_pour_98 ?_
                    refine g_iload_n (pc := 101) hC 3 dX12_pour_101 rfl rfl ?_
                    refine aldX12_6 (pc := 102) hC (F := fun Z => Z) (X := []) (fun _ => rfl) h.1 dX12_pour_102 ?_
                    have h := h.2
                    refine g_iload (pc := 103) hC 4 dX12_pour_103 rfl ?_
                    refine g_isub (pc := 105) hC dX12_pour_105 ?_
                    refine g_icmp_le (pc := 106) (tgt := 115) hC dX12_pour_106 (by decide) (fun c_51 => ?_) (fun c_51 => ?_)
                    · have h := h.1 c_51
                      refine g_iconst (pc := 115) (v := 0) hC dX12_pour_115 (by decide) ?_
                      refine g_istore (pc := 116) (lv' := [(6, .int (0 : Int32)), (0, .ref o0), (1, .int x1), (2, .int x2), (3, .int x3), (4, .int x4), (5, .int x5)]) hC dX12_pour_116 (Nat.le_of_ble_eq_true rfl) rfl ?_
                      refine g_sub (lv' := [(0, .ref o0), (1, .int x1), (2, .int x2), (3, .int x3), (4, .int x4), (5, .int x5), (6, .int (0 : Int32))]) [1, 2, 3, 4, 5, 6, 0] rfl ?_
                      obtain ⟨n_52, h⟩ := h
                      exact kX12_pour_L118 hC hR0 hR  n_52 _ _ _ _ _ _ _ h
                    · have h := h.2 c_51
                      refine g_sub (lv' := [(0, .ref o0)]) [0] rfl ?_
                      exact kX12_pour_b109 hC hR0 hR  h
                · have h := h.2 c_49
                  refine g_aload_n (pc := 75) hC 0 dX12_pour_75 rfl rfl ?_
                  refine g_bipush (pc := 76) (v := 8) hC dX12_pour_76 (by decide) ?_
                  refine g_callV_i (pc := 78) (wd := fun (u : St) Y => (wX12 o0 a0 (xy C) u Y)) (F := fun Z => Z) (X := []) (As := [.int (8 : Int32)]) (rest := []) (u := u0) hC (fun _ _ => rfl) (fun _ => rfl) (ctX12_is h) wvX12_is ml_X12_95 (ci := 10) (q0 := 0) rfl rfl rfl rfl (rmok hR0 rfl) ⟨Nat.zero_le _, Nat.zero_le _⟩ rfl (Nat.le_of_ble_eq_true rfl) dX12_pour_78 (fun r_54 u_53 h => ?_)
                  exact hR _ _ _ u_53 dX12_pour_81 h.1 h.2
              · have h := h.2 c_48
                refine g_sub (lv' := [(0, .ref o0)]) [0] rfl ?_
                exact kX12_pour_b54 hC hR0 hR  h
          · have h := h.2 c_46
            refine g_sub (lv' := [(0, .ref o0)]) [0] rfl ?_
            exact kX12_pour_b28 hC hR0 hR  h
theorem ctX12_pour {l : Launch} {D : va_G} {cy : Nat → ClassId} {kd : Nat → Nat} {o0 : Nat} {a0 : Nat → Nat} {x1 : Int32} {x2 : Int32} {x3 : Int32} {x4 : Int32} {x5 : Int32} {u0 : St} {post : Int32 → St → Prop} (h : qX12_pour x1 x2 x3 x4 x5 u0 post) : CtI l D cy kd yX12_pour cX12_pour 8 2 .boolean [.ref o0, .int x1, .int x2, .int x3, .int x4, .int x5] (fun u : St => (wX12 o0 a0 cy u [])) u0 (fun r u => post r u) := met_z (by decide) (Nat.le_of_ble_eq_true rfl) (fun C e1 e2 e3 e4 e5 hC hR => by subst e1 e2 e3 e4; exact kX12_pour hC e5 hR h)
theorem dX12_isFrom_0 : decode cX12_isFrom 0 = .ok (.lload_n 0, 1) := by decide +kernel
theorem dX12_isFrom_1 : decode cX12_isFrom 1 = .ok (.lload_n 2, 1) := by decide +kernel
theorem dX12_isFrom_2 : decode cX12_isFrom 2 = .ok (.lcmp, 1) := by decide +kernel
theorem dX12_isFrom_3 : decode cX12_isFrom 3 = .ok (.ifCond .lt 14, 3) := by decide +kernel
theorem dX12_isFrom_6 : decode cX12_isFrom 6 = .ok (.lload_n 0, 1) := by decide +kernel
theorem dX12_isFrom_7 : decode cX12_isFrom 7 = .ok (.lload 4, 2) := by decide +kernel
theorem dX12_isFrom_9 : decode cX12_isFrom 9 = .ok (.lcmp, 1) := by decide +kernel
theorem dX12_isFrom_10 : decode cX12_isFrom 10 = .ok (.ifCond .gt 7, 3) := by decide +kernel
theorem dX12_isFrom_13 : decode cX12_isFrom 13 = .ok (.iconst 1, 1) := by decide +kernel
theorem dX12_isFrom_14 : decode cX12_isFrom 14 = .ok (.goto 4, 3) := by decide +kernel
theorem dX12_isFrom_17 : decode cX12_isFrom 17 = .ok (.iconst 0, 1) := by decide +kernel
theorem dX12_isFrom_18 : decode cX12_isFrom 18 = .ok (.ireturn, 1) := by decide +kernel
def qX12_isFrom_b18  (post : Int32 → Prop)  (s0 : Int32) : Prop := (bz s0 ∧ post s0 )
set_option maxRecDepth 100000 in
set_option maxHeartbeats 4000000 in
theorem kX12_isFrom_b18 {C : Cx}  (hC : Fx C cX12_isFrom 6 RX12) (hR0 : xR C = rm 1) {post : Int32 → Prop} (hR : RZ C cX12_isFrom 6 (fun _ : Unit => ([] : va_W)) (fun r _ => post r ))  {s0 : Int32} (h : qX12_isFrom_b18 post s0) : G C 0 0 6 [] 18 [] [.int s0] := by
  exact hR _ _ _ () dX12_isFrom_18 h.1 h.2
def qX12_isFrom_b17  (post : Int32 → Prop)   : Prop := qX12_isFrom_b18 post (0 : Int32)
set_option maxRecDepth 100000 in
set_option maxHeartbeats 4000000 in
theorem kX12_isFrom_b17 {C : Cx}  (hC : Fx C cX12_isFrom 6 RX12) (hR0 : xR C = rm 1) {post : Int32 → Prop} (hR : RZ C cX12_isFrom 6 (fun _ : Unit => ([] : va_W)) (fun r _ => post r ))   (h : qX12_isFrom_b17 post) : G C 0 0 6 [] 17 [] [] := by
  refine g_iconst (pc := 17) (v := 0) hC dX12_isFrom_17 (by decide) ?_
  exact kX12_isFrom_b18 hC hR0 hR  h
def qX12_isFrom (x0 : Int64) (x2 : Int64) (x4 : Int64)  (post : Int32 → Prop) : Prop := (((lg_cmp x0 x2) < 0 → qX12_isFrom_b17 post ) ∧ (¬ (lg_cmp x0 x2) < 0 → ((0 < (lg_cmp x0 x4) → qX12_isFrom_b17 post ) ∧ (¬ 0 < (lg_cmp x0 x4) → qX12_isFrom_b18 post (1 : Int32)))))
set_option maxRecDepth 100000 in
set_option maxHeartbeats 4000000 in
theorem kX12_isFrom {C : Cx}  (hC : Fx C cX12_isFrom 6 RX12) (hR0 : xR C = rm 1) {post : Int32 → Prop} (hR : RZ C cX12_isFrom 6 (fun _ : Unit => ([] : va_W)) (fun r _ => post r )) {x0 : Int64} {x2 : Int64} {x4 : Int64}  (h : qX12_isFrom x0 x2 x4  post) : G C 0 0 6 [] 0 [(0, .long x0), (2, .long x2), (4, .long x4)] [] := by
  refine g_lload_n (pc := 0) hC 0 dX12_isFrom_0 rfl rfl ?_
  refine g_lload_n (pc := 1) hC 1 dX12_isFrom_1 rfl rfl ?_
  refine g_lcmp (pc := 2) hC dX12_isFrom_2 ?_
  refine g_if_lt (pc := 3) (tgt := 17) hC dX12_isFrom_3 (by decide) (fun c_1 => ?_) (fun c_1 => ?_)
  · have h := h.1 c_1
    refine g_sub (lv' := []) [] rfl ?_
    exact kX12_isFrom_b17 hC hR0 hR  h
  · have h := h.2 c_1
    refine g_lload_n (pc := 6) hC 0 dX12_isFrom_6 rfl rfl ?_
    refine g_lload (pc := 7) hC 2 dX12_isFrom_7 rfl ?_
    refine g_lcmp (pc := 9) hC dX12_isFrom_9 ?_
    refine g_if_gt (pc := 10) (tgt := 17) hC dX12_isFrom_10 (by decide) (fun c_2 => ?_) (fun c_2 => ?_)
    · have h := h.1 c_2
      refine g_sub (lv' := []) [] rfl ?_
      exact kX12_isFrom_b17 hC hR0 hR  h
    · have h := h.2 c_2
      refine g_iconst (pc := 13) (v := 1) hC dX12_isFrom_13 (by decide) ?_
      refine g_goto (pc := 14) (tgt := 18) hC dX12_isFrom_14 (by decide) ?_
      refine g_sub (lv' := []) [] rfl ?_
      exact kX12_isFrom_b18 hC hR0 hR  h
theorem ctX12_isFrom {l : Launch} {D : va_G} {cy : Nat → ClassId} {kd : Nat → Nat}  {x0 : Int64} {x2 : Int64} {x4 : Int64}  {post : Int32 → Prop} (h : qX12_isFrom x0 x2 x4  post) : CtI l D cy kd yX12_isFrom cX12_isFrom 6 1 .boolean [.long x0, .long x2, .long x4] (fun _ : Unit => ([] : va_W)) () (fun r _ => post r ) := met_z (by decide) (Nat.le_of_ble_eq_true rfl) (fun C e1 e2 e3 e4 e5 hC hR => by subst e1 e2 e3 e4; exact kX12_isFrom hC e5 hR h)
theorem dX12_four_0 : decode cX12_four 0 = .ok (.bipush 24, 2) := by decide +kernel
theorem dX12_four_2 : decode cX12_four 2 = .ok (.istore_n 2, 1) := by decide +kernel
theorem dX12_four_3 : decode cX12_four 3 = .ok (.iload_n 2, 1) := by decide +kernel
theorem dX12_four_4 : decode cX12_four 4 = .ok (.ifCond .lt 32, 3) := by decide +kernel
theorem dX12_four_7 : decode cX12_four 7 = .ok (.aload_n 0, 1) := by decide +kernel
theorem dX12_four_8 : decode cX12_four 8 = .ok (.getfield 30, 3) := by decide +kernel
theorem dX12_four_11 : decode cX12_four 11 = .ok (.aload_n 0, 1) := by decide +kernel
theorem dX12_four_12 : decode cX12_four 12 = .ok (.getfield 112, 3) := by decide +kernel
theorem dX12_four_15 : decode cX12_four 15 = .ok (.iload_n 1, 1) := by decide +kernel
theorem dX12_four_16 : decode cX12_four 16 = .ok (.iload_n 2, 1) := by decide +kernel
theorem dX12_four_17 : decode cX12_four 17 = .ok (.ishr, 1) := by decide +kernel
theorem dX12_four_18 : decode cX12_four 18 = .ok (.i2b, 1) := by decide +kernel
theorem dX12_four_19 : decode cX12_four 19 = .ok (.bastore, 1) := by decide +kernel
theorem dX12_four_20 : decode cX12_four 20 = .ok (.aload_n 0, 1) := by decide +kernel
theorem dX12_four_21 : decode cX12_four 21 = .ok (.dup, 1) := by decide +kernel
theorem dX12_four_22 : decode cX12_four 22 = .ok (.getfield 112, 3) := by decide +kernel
theorem dX12_four_25 : decode cX12_four 25 = .ok (.iconst 1, 1) := by decide +kernel
theorem dX12_four_26 : decode cX12_four 26 = .ok (.iadd, 1) := by decide +kernel
theorem dX12_four_27 : decode cX12_four 27 = .ok (.putfield 112, 3) := by decide +kernel
theorem dX12_four_30 : decode cX12_four 30 = .ok (.iinc 2 (-8), 3) := by decide +kernel
theorem dX12_four_33 : decode cX12_four 33 = .ok (.goto (-30), 3) := by decide +kernel
theorem dX12_four_36 : decode cX12_four 36 = .ok (.return_, 1) := by decide +kernel
def qX12_four_l3  (post : St → Prop) (K3 : Int32 → Int32 → St → Prop) (x1 : Int32) (x2 : Int32) (u0 : St) : Prop := ((x2 < 0 → post u0) ∧ (¬ x2 < 0 → (vp_in (gi u0 10) 900 ∧ ∀ u_5 : St, u_5 = (sw u0 8 (upd (ga u0 8) ((gi u0 10)).toNatClampNeg (vp_nar .byte ((x1 >>> (x2 &&& 31))).toInt8.toInt32))) → ∀ u_6 : St, u_6 = (si u_5 10 ((gi u_5 10) + (1 : Int32))) → ∀ x2_7 : Int32, x2_7 = x2 + (-8 : Int32) → K3 x1 x2_7 u_6)))
set_option maxRecDepth 100000 in
set_option maxHeartbeats 4000000 in
theorem kX12_four_l3 {C : Cx} {o0 : Nat} {a0 : Nat → Nat} (hC : Fx C cX12_four 3 RX12) (hR0 : xR C = rm 1) {post : St → Prop} (hR : RV C cX12_four 3 (fun u : St => (wX12 o0 a0 (xy C) u [])) (fun u => post u))  {K3 : Int32 → Int32 → St → Prop} (hK3 : ∀ (x1 : Int32) (x2 : Int32) (u0 : St), K3 x1 x2 u0 → G C 0 0 3 (wX12 o0 a0 (xy C) u0 []) 3 [(0, .ref o0), (1, .int x1), (2, .int x2)] []) {x1 : Int32} {x2 : Int32} {u0 : St} (h : qX12_four_l3 post K3 x1 x2 u0) : G C 0 0 3 (wX12 o0 a0 (xy C) u0 []) 3 [(0, .ref o0), (1, .int x1), (2, .int x2)] [] := by
  refine g_iload_n (pc := 3) hC 2 dX12_four_3 rfl rfl ?_
  refine g_if_lt (pc := 4) (tgt := 36) hC dX12_four_4 (by decide) (fun c_4 => ?_) (fun c_4 => ?_)
  · have h := h.1 c_4
    exact hR _ _ u0 dX12_four_36 h
  · have h := h.2 c_4
    refine g_aload_n (pc := 7) hC 0 dX12_four_7 rfl rfl ?_
    refine getX12_8 (pc := 8) hC (F := fun Z => Z) (X := []) (fun _ => rfl) fl_X12_30 dX12_four_8 ?_
    refine g_aload_n (pc := 11) hC 0 dX12_four_11 rfl rfl ?_
    refine getX12_10 (pc := 12) hC (F := fun Z => Z) (X := []) (fun _ => rfl) fl_X12_112 dX12_four_12 ?_
    refine g_iload_n (pc := 15) hC 1 dX12_four_15 rfl rfl ?_
    refine g_iload_n (pc := 16) hC 2 dX12_four_16 rfl rfl ?_
    refine g_ishr (pc := 17) hC dX12_four_17 ?_
    refine g_i2b (pc := 18) hC dX12_four_18 ?_
    refine astX12_8 (pc := 19) hC (F := fun Z => Z) (X := []) (fun _ => rfl) h.1 dX12_four_19 ?_
    have h := h.2
    refine g_st (w := fun z => (wX12 o0 a0 (xy C) z [])) (u := (sw u0 8 (upd (ga u0 8) ((gi u0 10)).toNatClampNeg (vp_nar .byte ((x1 >>> (x2 &&& 31))).toInt8.toInt32)))) (fun u_5 eu_5 => ?_)
    have h := h u_5 eu_5
    refine g_aload_n (pc := 20) hC 0 dX12_four_20 rfl rfl ?_
    refine g_dup (pc := 21) hC dX12_four_21 rfl ?_
    refine getX12_10 (pc := 22) hC (F := fun Z => Z) (X := []) (fun _ => rfl) fl_X12_112 dX12_four_22 ?_
    refine g_iconst (pc := 25) (v := 1) hC dX12_four_25 (by decide) ?_
    refine g_iadd (pc := 26) hC dX12_four_26 ?_
    refine putX12_10 (pc := 27) hC (F := fun Z => Z) (X := []) (fun _ => rfl) fl_X12_112 dX12_four_27 ?_
    refine g_st (w := fun z => (wX12 o0 a0 (xy C) z [])) (u := (si u_5 10 ((gi u_5 10) + (1 : Int32)))) (fun u_6 eu_6 => ?_)
    have h := h u_6 eu_6
    obtain ⟨x2_7, ex2_7⟩ : ∃ z : Int32, z = x2 + (-8 : Int32) := ⟨_, rfl⟩
    have h := h x2_7 ex2_7
    refine g_iinc (pc := 30) (v := x2_7) (lv' := [(2, .int x2_7), (0, .ref o0), (1, .int x1)]) hC 2 dX12_four_30 rfl (by rw [ex2_7]; rfl) (Nat.le_of_ble_eq_true rfl) rfl ?_
    refine g_goto (pc := 33) (tgt := 3) hC dX12_four_33 (by decide) ?_
    refine g_sub (lv' := [(0, .ref o0), (1, .int x1), (2, .int x2_7)]) [1, 2, 0] rfl ?_
    exact hK3 _ _ _ h
def qX12_four_L3  (post : St → Prop)  : Nat → Int32 → Int32 → St → Prop
  | 0 => fun _ _ _ => False
  | n + 1 => qX12_four_l3 post (qX12_four_L3 post n)
theorem kX12_four_L3 {C : Cx} {o0 : Nat} {a0 : Nat → Nat} (hC : Fx C cX12_four 3 RX12) (hR0 : xR C = rm 1) {post : St → Prop} (hR : RV C cX12_four 3 (fun u : St => (wX12 o0 a0 (xy C) u [])) (fun u => post u))  : ∀ (n : Nat) (x1 : Int32) (x2 : Int32) (u0 : St), qX12_four_L3 post n x1 x2 u0 → G C 0 0 3 (wX12 o0 a0 (xy C) u0 []) 3 [(0, .ref o0), (1, .int x1), (2, .int x2)] [] := by
  intro n
  induction n with
  | zero => intro x1 x2 u0 h; exact h.elim
  | succ n ih => intro x1 x2 u0 h; exact kX12_four_l3 hC hR0 hR  ih h
def qX12_four (x1 : Int32) (u0 : St) (post : St → Prop) : Prop := ∃ n_8 : Nat, qX12_four_L3 post n_8 x1 (24 : Int32) u0
set_option maxRecDepth 100000 in
set_option maxHeartbeats 4000000 in
theorem kX12_four {C : Cx} {o0 : Nat} {a0 : Nat → Nat} (hC : Fx C cX12_four 3 RX12) (hR0 : xR C = rm 1) {post : St → Prop} (hR : RV C cX12_four 3 (fun u : St => (wX12 o0 a0 (xy C) u [])) (fun u => post u)) {x1 : Int32} {u0 : St} (h : qX12_four x1 u0 post) : G C 0 0 3 (wX12 o0 a0 (xy C) u0 []) 0 [(0, .ref o0), (1, .int x1)] [] := by
  refine g_bipush (pc := 0) (v := 24) hC dX12_four_0 (by decide) ?_
  refine g_istore_n (pc := 2) (lv' := [(2, .int (24 : Int32)), (0, .ref o0), (1, .int x1)]) hC dX12_four_2 rfl (Nat.le_of_ble_eq_true rfl) rfl ?_
  refine g_sub (lv' := [(0, .ref o0), (1, .int x1), (2, .int (24 : Int32))]) [1, 2, 0] rfl ?_
  obtain ⟨n_8, h⟩ := h
  exact kX12_four_L3 hC hR0 hR  n_8 _ _ _ h
theorem ctX12_four {l : Launch} {D : va_G} {cy : Nat → ClassId} {kd : Nat → Nat} {o0 : Nat} {a0 : Nat → Nat} {x1 : Int32} {u0 : St} {post : St → Prop} (h : qX12_four x1 u0 post) : CtV l D cy kd yX12_four cX12_four 3 1  [.ref o0, .int x1] (fun u : St => (wX12 o0 a0 cy u [])) u0 (fun u => post u) := met_v (by decide) (Nat.le_of_ble_eq_true rfl) (fun C e1 e2 e3 e4 e5 hC hR => by subst e1 e2 e3 e4; exact kX12_four hC e5 hR h)
theorem dX12_feed_0 : decode cX12_feed 0 = .ok (.aload_n 0, 1) := by decide +kernel
theorem dX12_feed_1 : decode cX12_feed 1 = .ok (.getfield 112, 3) := by decide +kernel
theorem dX12_feed_4 : decode cX12_feed 4 = .ok (.bipush 20, 2) := by decide +kernel
theorem dX12_feed_6 : decode cX12_feed 6 = .ok (.iadd, 1) := by decide +kernel
theorem dX12_feed_7 : decode cX12_feed 7 = .ok (.sipush 900, 3) := by decide +kernel
theorem dX12_feed_10 : decode cX12_feed 10 = .ok (.if_icmp .le 5, 3) := by decide +kernel
theorem dX12_feed_13 : decode cX12_feed 13 = .ok (.iconst (-1), 1) := by decide +kernel
theorem dX12_feed_14 : decode cX12_feed 14 = .ok (.ireturn, 1) := by decide +kernel
theorem dX12_feed_15 : decode cX12_feed 15 = .ok (.aload_n 0, 1) := by decide +kernel
theorem dX12_feed_16 : decode cX12_feed 16 = .ok (.iload_n 1, 1) := by decide +kernel
theorem dX12_feed_17 : decode cX12_feed 17 = .ok (.invokevirtual 115, 3) := by decide +kernel
theorem dX12_feed_20 : decode cX12_feed 20 = .ok (.aload_n 0, 1) := by decide +kernel
theorem dX12_feed_21 : decode cX12_feed 21 = .ok (.iload_n 2, 1) := by decide +kernel
theorem dX12_feed_22 : decode cX12_feed 22 = .ok (.invokevirtual 115, 3) := by decide +kernel
theorem dX12_feed_25 : decode cX12_feed 25 = .ok (.aload_n 0, 1) := by decide +kernel
theorem dX12_feed_26 : decode cX12_feed 26 = .ok (.iload_n 3, 1) := by decide +kernel
theorem dX12_feed_27 : decode cX12_feed 27 = .ok (.invokevirtual 115, 3) := by decide +kernel
theorem dX12_feed_30 : decode cX12_feed 30 = .ok (.aload_n 0, 1) := by decide +kernel
theorem dX12_feed_31 : decode cX12_feed 31 = .ok (.iload 4, 2) := by decide +kernel
theorem dX12_feed_33 : decode cX12_feed 33 = .ok (.invokevirtual 115, 3) := by decide +kernel
theorem dX12_feed_36 : decode cX12_feed 36 = .ok (.aload_n 0, 1) := by decide +kernel
theorem dX12_feed_37 : decode cX12_feed 37 = .ok (.iload 5, 2) := by decide +kernel
theorem dX12_feed_39 : decode cX12_feed 39 = .ok (.invokevirtual 115, 3) := by decide +kernel
theorem dX12_feed_42 : decode cX12_feed 42 = .ok (.aload_n 0, 1) := by decide +kernel
theorem dX12_feed_43 : decode cX12_feed 43 = .ok (.getfield 112, 3) := by decide +kernel
theorem dX12_feed_46 : decode cX12_feed 46 = .ok (.ireturn, 1) := by decide +kernel
def qX12_feed (x1 : Int32) (x2 : Int32) (x3 : Int32) (x4 : Int32) (x5 : Int32) (u0 : St) (post : Int32 → St → Prop) : Prop := ((((gi u0 10) + (20 : Int32)) ≤ (900 : Int32) → qX12_four x1 u0 (fun u_12 => qX12_four x2 u_12 (fun u_14 => qX12_four x3 u_14 (fun u_16 => qX12_four x4 u_16 (fun u_18 => qX12_four x5 u_18 (fun u_20 => post (gi u_20 10) u_20)))))) ∧ (¬ ((gi u0 10) + (20 : Int32)) ≤ (900 : Int32) → post (-1 : Int32) u0))
set_option maxRecDepth 100000 in
set_option maxHeartbeats 4000000 in
theorem kX12_feed {C : Cx} {o0 : Nat} {a0 : Nat → Nat} (hC : Fx C cX12_feed 6 RX12) (hR0 : xR C = rm 2) {post : Int32 → St → Prop} (hR : RI C cX12_feed 6 (fun u : St => (wX12 o0 a0 (xy C) u [])) (fun r u => post r u)) {x1 : Int32} {x2 : Int32} {x3 : Int32} {x4 : Int32} {x5 : Int32} {u0 : St} (h : qX12_feed x1 x2 x3 x4 x5 u0 post) : G C 0 0 6 (wX12 o0 a0 (xy C) u0 []) 0 [(0, .ref o0), (1, .int x1), (2, .int x2), (3, .int x3), (4, .int x4), (5, .int x5)] [] := by
  refine g_aload_n (pc := 0) hC 0 dX12_feed_0 rfl rfl ?_
  refine getX12_10 (pc := 1) hC (F := fun Z => Z) (X := []) (fun _ => rfl) fl_X12_112 dX12_feed_1 ?_
  refine g_bipush (pc := 4) (v := 20) hC dX12_feed_4 (by decide) ?_
  refine g_iadd (pc := 6) hC dX12_feed_6 ?_
  refine g_sipush (pc := 7) (v := 900) hC dX12_feed_7 (by decide) ?_
  refine g_icmp_le (pc := 10) (tgt := 15) hC dX12_feed_10 (by decide) (fun c_11 => ?_) (fun c_11 => ?_)
  · have h := h.1 c_11
    refine g_aload_n (pc := 15) hC 0 dX12_feed_15 rfl rfl ?_
    refine g_iload_n (pc := 16) hC 1 dX12_feed_16 rfl rfl ?_
    refine g_callV_v (pc := 17) (wd := fun (u : St) Y => (wX12 o0 a0 (xy C) u Y)) (F := fun Z => Z) (X := []) (As := [.int x1]) (rest := []) (u := u0) hC (fun _ _ => rfl) (fun _ => rfl) (ctX12_four h) wvX12_four ml_X12_115 (ci := 10) (q0 := 0) rfl rfl rfl rfl (rmok hR0 rfl) ⟨Nat.zero_le _, Nat.zero_le _⟩ rfl (Nat.le_of_ble_eq_true rfl) dX12_feed_17 (fun u_12 h => ?_)
    refine g_aload_n (pc := 20) hC 0 dX12_feed_20 rfl rfl ?_
    refine g_iload_n (pc := 21) hC 2 dX12_feed_21 rfl rfl ?_
    refine g_callV_v (pc := 22) (wd := fun (u : St) Y => (wX12 o0 a0 (xy C) u Y)) (F := fun Z => Z) (X := []) (As := [.int x2]) (rest := []) (u := u_12) hC (fun _ _ => rfl) (fun _ => rfl) (ctX12_four h) wvX12_four ml_X12_115 (ci := 10) (q0 := 0) rfl rfl rfl rfl (rmok hR0 rfl) ⟨Nat.zero_le _, Nat.zero_le _⟩ rfl (Nat.le_of_ble_eq_true rfl) dX12_feed_22 (fun u_14 h => ?_)
    refine g_aload_n (pc := 25) hC 0 dX12_feed_25 rfl rfl ?_
    refine g_iload_n (pc := 26) hC 3 dX12_feed_26 rfl rfl ?_
    refine g_callV_v (pc := 27) (wd := fun (u : St) Y => (wX12 o0 a0 (xy C) u Y)) (F := fun Z => Z) (X := []) (As := [.int x3]) (rest := []) (u := u_14) hC (fun _ _ => rfl) (fun _ => rfl) (ctX12_four h) wvX12_four ml_X12_115 (ci := 10) (q0 := 0) rfl rfl rfl rfl (rmok hR0 rfl) ⟨Nat.zero_le _, Nat.zero_le _⟩ rfl (Nat.le_of_ble_eq_true rfl) dX12_feed_27 (fun u_16 h => ?_)
    refine g_aload_n (pc := 30) hC 0 dX12_feed_30 rfl rfl ?_
    refine g_iload (pc := 31) hC 4 dX12_feed_31 rfl ?_
    refine g_callV_v (pc := 33) (wd := fun (u : St) Y => (wX12 o0 a0 (xy C) u Y)) (F := fun Z => Z) (X := []) (As := [.int x4]) (rest := []) (u := u_16) hC (fun _ _ => rfl) (fun _ => rfl) (ctX12_four h) wvX12_four ml_X12_115 (ci := 10) (q0 := 0) rfl rfl rfl rfl (rmok hR0 rfl) ⟨Nat.zero_le _, Nat.zero_le _⟩ rfl (Nat.le_of_ble_eq_true rfl) dX12_feed_33 (fun u_18 h => ?_)
    refine g_aload_n (pc := 36) hC 0 dX12_feed_36 rfl rfl ?_
    refine g_iload (pc := 37) hC 5 dX12_feed_37 rfl ?_
    refine g_callV_v (pc := 39) (wd := fun (u : St) Y => (wX12 o0 a0 (xy C) u Y)) (F := fun Z => Z) (X := []) (As := [.int x5]) (rest := []) (u := u_18) hC (fun _ _ => rfl) (fun _ => rfl) (ctX12_four h) wvX12_four ml_X12_115 (ci := 10) (q0 := 0) rfl rfl rfl rfl (rmok hR0 rfl) ⟨Nat.zero_le _, Nat.zero_le _⟩ rfl (Nat.le_of_ble_eq_true rfl) dX12_feed_39 (fun u_20 h => ?_)
    refine g_aload_n (pc := 42) hC 0 dX12_feed_42 rfl rfl ?_
    refine getX12_10 (pc := 43) hC (F := fun Z => Z) (X := []) (fun _ => rfl) fl_X12_112 dX12_feed_43 ?_
    exact hR _ _ _ u_20 dX12_feed_46 h
  · have h := h.2 c_11
    refine g_iconst (pc := 13) (v := -1) hC dX12_feed_13 (by decide) ?_
    exact hR _ _ _ u0 dX12_feed_14 h
theorem ctX12_feed {l : Launch} {D : va_G} {cy : Nat → ClassId} {kd : Nat → Nat} {o0 : Nat} {a0 : Nat → Nat} {x1 : Int32} {x2 : Int32} {x3 : Int32} {x4 : Int32} {x5 : Int32} {u0 : St} {post : Int32 → St → Prop} (h : qX12_feed x1 x2 x3 x4 x5 u0 post) : CtI l D cy kd yX12_feed cX12_feed 6 2 .int [.ref o0, .int x1, .int x2, .int x3, .int x4, .int x5] (fun u : St => (wX12 o0 a0 cy u [])) u0 (fun r u => post r u) := met_i (by decide) (Nat.le_of_ble_eq_true rfl) (fun C e1 e2 e3 e4 e5 hC hR => by subst e1 e2 e3 e4; exact kX12_feed hC e5 hR h)
theorem dX12_byteAt_0 : decode cX12_byteAt 0 = .ok (.iload_n 1, 1) := by decide +kernel
theorem dX12_byteAt_1 : decode cX12_byteAt 1 = .ok (.aload_n 0, 1) := by decide +kernel
theorem dX12_byteAt_2 : decode cX12_byteAt 2 = .ok (.getfield 118, 3) := by decide +kernel
theorem dX12_byteAt_5 : decode cX12_byteAt 5 = .ok (.if_icmp .ge 16, 3) := by decide +kernel
theorem dX12_byteAt_8 : decode cX12_byteAt 8 = .ok (.aload_n 0, 1) := by decide +kernel
theorem dX12_byteAt_9 : decode cX12_byteAt 9 = .ok (.getfield 34, 3) := by decide +kernel
theorem dX12_byteAt_12 : decode cX12_byteAt 12 = .ok (.iload_n 1, 1) := by decide +kernel
theorem dX12_byteAt_13 : decode cX12_byteAt 13 = .ok (.baload, 1) := by decide +kernel
theorem dX12_byteAt_14 : decode cX12_byteAt 14 = .ok (.sipush 255, 3) := by decide +kernel
theorem dX12_byteAt_17 : decode cX12_byteAt 17 = .ok (.iand, 1) := by decide +kernel
theorem dX12_byteAt_18 : decode cX12_byteAt 18 = .ok (.goto 4, 3) := by decide +kernel
theorem dX12_byteAt_21 : decode cX12_byteAt 21 = .ok (.iconst (-1), 1) := by decide +kernel
theorem dX12_byteAt_22 : decode cX12_byteAt 22 = .ok (.ireturn, 1) := by decide +kernel
def qX12_byteAt_b22  (post : Int32 → St → Prop)  (s0 : Int32) (u0 : St) : Prop := post s0 u0
set_option maxRecDepth 100000 in
set_option maxHeartbeats 4000000 in
theorem kX12_byteAt_b22 {C : Cx} {o0 : Nat} {a0 : Nat → Nat} (hC : Fx C cX12_byteAt 2 RX12) (hR0 : xR C = rm 1) {post : Int32 → St → Prop} (hR : RI C cX12_byteAt 2 (fun u : St => (wX12 o0 a0 (xy C) u [])) (fun r u => post r u))  {s0 : Int32} {u0 : St} (h : qX12_byteAt_b22 post s0 u0) : G C 0 0 2 (wX12 o0 a0 (xy C) u0 []) 22 [] [.int s0] := by
  exact hR _ _ _ u0 dX12_byteAt_22 h
def qX12_byteAt (x1 : Int32) (u0 : St) (post : Int32 → St → Prop) : Prop := (((gi u0 11) ≤ x1 → qX12_byteAt_b22 post (-1 : Int32) u0) ∧ (¬ (gi u0 11) ≤ x1 → (vp_in x1 900 ∧ qX12_byteAt_b22 post ((ga u0 9 (x1).toNatClampNeg) &&& (255 : Int32)) u0)))
set_option maxRecDepth 100000 in
set_option maxHeartbeats 4000000 in
theorem kX12_byteAt {C : Cx} {o0 : Nat} {a0 : Nat → Nat} (hC : Fx C cX12_byteAt 2 RX12) (hR0 : xR C = rm 1) {post : Int32 → St → Prop} (hR : RI C cX12_byteAt 2 (fun u : St => (wX12 o0 a0 (xy C) u [])) (fun r u => post r u)) {x1 : Int32} {u0 : St} (h : qX12_byteAt x1 u0 post) : G C 0 0 2 (wX12 o0 a0 (xy C) u0 []) 0 [(0, .ref o0), (1, .int x1)] [] := by
  refine g_iload_n (pc := 0) hC 1 dX12_byteAt_0 rfl rfl ?_
  refine g_aload_n (pc := 1) hC 0 dX12_byteAt_1 rfl rfl ?_
  refine getX12_11 (pc := 2) hC (F := fun Z => Z) (X := []) (fun _ => rfl) fl_X12_118 dX12_byteAt_2 ?_
  refine g_icmp_ge (pc := 5) (tgt := 21) hC dX12_byteAt_5 (by decide) (fun c_1 => ?_) (fun c_1 => ?_)
  · have h := h.1 c_1
    refine g_iconst (pc := 21) (v := -1) hC dX12_byteAt_21 (by decide) ?_
    refine g_sub (lv' := []) [] rfl ?_
    exact kX12_byteAt_b22 hC hR0 hR  h
  · have h := h.2 c_1
    refine g_aload_n (pc := 8) hC 0 dX12_byteAt_8 rfl rfl ?_
    refine getX12_9 (pc := 9) hC (F := fun Z => Z) (X := []) (fun _ => rfl) fl_X12_34 dX12_byteAt_9 ?_
    refine g_iload_n (pc := 12) hC 1 dX12_byteAt_12 rfl rfl ?_
    refine aldX12_9 (pc := 13) hC (F := fun Z => Z) (X := []) (fun _ => rfl) h.1 dX12_byteAt_13 ?_
    have h := h.2
    refine g_sipush (pc := 14) (v := 255) hC dX12_byteAt_14 (by decide) ?_
    refine g_iand (pc := 17) hC dX12_byteAt_17 ?_
    refine g_goto (pc := 18) (tgt := 22) hC dX12_byteAt_18 (by decide) ?_
    refine g_sub (lv' := []) [] rfl ?_
    exact kX12_byteAt_b22 hC hR0 hR  h
theorem ctX12_byteAt {l : Launch} {D : va_G} {cy : Nat → ClassId} {kd : Nat → Nat} {o0 : Nat} {a0 : Nat → Nat} {x1 : Int32} {u0 : St} {post : Int32 → St → Prop} (h : qX12_byteAt x1 u0 post) : CtI l D cy kd yX12_byteAt cX12_byteAt 2 1 .int [.ref o0, .int x1] (fun u : St => (wX12 o0 a0 cy u [])) u0 (fun r u => post r u) := met_i (by decide) (Nat.le_of_ble_eq_true rfl) (fun C e1 e2 e3 e4 e5 hC hR => by subst e1 e2 e3 e4; exact kX12_byteAt hC e5 hR h)
theorem dX12_isSmall_0 : decode cX12_isSmall 0 = .ok (.iload_n 0, 1) := by decide +kernel
theorem dX12_isSmall_1 : decode cX12_isSmall 1 = .ok (.bipush 97, 2) := by decide +kernel
theorem dX12_isSmall_3 : decode cX12_isSmall 3 = .ok (.if_icmp .lt 13, 3) := by decide +kernel
theorem dX12_isSmall_6 : decode cX12_isSmall 6 = .ok (.iload_n 0, 1) := by decide +kernel
theorem dX12_isSmall_7 : decode cX12_isSmall 7 = .ok (.bipush 122, 2) := by decide +kernel
theorem dX12_isSmall_9 : decode cX12_isSmall 9 = .ok (.if_icmp .gt 7, 3) := by decide +kernel
theorem dX12_isSmall_12 : decode cX12_isSmall 12 = .ok (.iconst 1, 1) := by decide +kernel
theorem dX12_isSmall_13 : decode cX12_isSmall 13 = .ok (.goto 4, 3) := by decide +kernel
theorem dX12_isSmall_16 : decode cX12_isSmall 16 = .ok (.iconst 0, 1) := by decide +kernel
theorem dX12_isSmall_17 : decode cX12_isSmall 17 = .ok (.ireturn, 1) := by decide +kernel
def qX12_isSmall_b17  (post : Int32 → Prop)  (s0 : Int32) : Prop := (bz s0 ∧ post s0 )
set_option maxRecDepth 100000 in
set_option maxHeartbeats 4000000 in
theorem kX12_isSmall_b17 {C : Cx}  (hC : Fx C cX12_isSmall 1 RX12) (hR0 : xR C = rm 1) {post : Int32 → Prop} (hR : RZ C cX12_isSmall 1 (fun _ : Unit => ([] : va_W)) (fun r _ => post r ))  {s0 : Int32} (h : qX12_isSmall_b17 post s0) : G C 0 0 1 [] 17 [] [.int s0] := by
  exact hR _ _ _ () dX12_isSmall_17 h.1 h.2
def qX12_isSmall_b16  (post : Int32 → Prop)   : Prop := qX12_isSmall_b17 post (0 : Int32)
set_option maxRecDepth 100000 in
set_option maxHeartbeats 4000000 in
theorem kX12_isSmall_b16 {C : Cx}  (hC : Fx C cX12_isSmall 1 RX12) (hR0 : xR C = rm 1) {post : Int32 → Prop} (hR : RZ C cX12_isSmall 1 (fun _ : Unit => ([] : va_W)) (fun r _ => post r ))   (h : qX12_isSmall_b16 post) : G C 0 0 1 [] 16 [] [] := by
  refine g_iconst (pc := 16) (v := 0) hC dX12_isSmall_16 (by decide) ?_
  exact kX12_isSmall_b17 hC hR0 hR  h
def qX12_isSmall (x0 : Int32)  (post : Int32 → Prop) : Prop := ((x0 < (97 : Int32) → qX12_isSmall_b16 post ) ∧ (¬ x0 < (97 : Int32) → (((122 : Int32) < x0 → qX12_isSmall_b16 post ) ∧ (¬ (122 : Int32) < x0 → qX12_isSmall_b17 post (1 : Int32)))))
set_option maxRecDepth 100000 in
set_option maxHeartbeats 4000000 in
theorem kX12_isSmall {C : Cx}  (hC : Fx C cX12_isSmall 1 RX12) (hR0 : xR C = rm 1) {post : Int32 → Prop} (hR : RZ C cX12_isSmall 1 (fun _ : Unit => ([] : va_W)) (fun r _ => post r )) {x0 : Int32}  (h : qX12_isSmall x0  post) : G C 0 0 1 [] 0 [(0, .int x0)] [] := by
  refine g_iload_n (pc := 0) hC 0 dX12_isSmall_0 rfl rfl ?_
  refine g_bipush (pc := 1) (v := 97) hC dX12_isSmall_1 (by decide) ?_
  refine g_icmp_lt (pc := 3) (tgt := 16) hC dX12_isSmall_3 (by decide) (fun c_1 => ?_) (fun c_1 => ?_)
  · have h := h.1 c_1
    refine g_sub (lv' := []) [] rfl ?_
    exact kX12_isSmall_b16 hC hR0 hR  h
  · have h := h.2 c_1
    refine g_iload_n (pc := 6) hC 0 dX12_isSmall_6 rfl rfl ?_
    refine g_bipush (pc := 7) (v := 122) hC dX12_isSmall_7 (by decide) ?_
    refine g_icmp_gt (pc := 9) (tgt := 16) hC dX12_isSmall_9 (by decide) (fun c_2 => ?_) (fun c_2 => ?_)
    · have h := h.1 c_2
      refine g_sub (lv' := []) [] rfl ?_
      exact kX12_isSmall_b16 hC hR0 hR  h
    · have h := h.2 c_2
      refine g_iconst (pc := 12) (v := 1) hC dX12_isSmall_12 (by decide) ?_
      refine g_goto (pc := 13) (tgt := 17) hC dX12_isSmall_13 (by decide) ?_
      refine g_sub (lv' := []) [] rfl ?_
      exact kX12_isSmall_b17 hC hR0 hR  h
theorem ctX12_isSmall {l : Launch} {D : va_G} {cy : Nat → ClassId} {kd : Nat → Nat}  {x0 : Int32}  {post : Int32 → Prop} (h : qX12_isSmall x0  post) : CtI l D cy kd yX12_isSmall cX12_isSmall 1 1 .boolean [.int x0] (fun _ : Unit => ([] : va_W)) () (fun r _ => post r ) := met_z (by decide) (Nat.le_of_ble_eq_true rfl) (fun C e1 e2 e3 e4 e5 hC hR => by subst e1 e2 e3 e4; exact kX12_isSmall hC e5 hR h)
theorem dX12_isDigit_0 : decode cX12_isDigit 0 = .ok (.iload_n 0, 1) := by decide +kernel
theorem dX12_isDigit_1 : decode cX12_isDigit 1 = .ok (.bipush 48, 2) := by decide +kernel
theorem dX12_isDigit_3 : decode cX12_isDigit 3 = .ok (.if_icmp .lt 13, 3) := by decide +kernel
theorem dX12_isDigit_6 : decode cX12_isDigit 6 = .ok (.iload_n 0, 1) := by decide +kernel
theorem dX12_isDigit_7 : decode cX12_isDigit 7 = .ok (.bipush 57, 2) := by decide +kernel
theorem dX12_isDigit_9 : decode cX12_isDigit 9 = .ok (.if_icmp .gt 7, 3) := by decide +kernel
theorem dX12_isDigit_12 : decode cX12_isDigit 12 = .ok (.iconst 1, 1) := by decide +kernel
theorem dX12_isDigit_13 : decode cX12_isDigit 13 = .ok (.goto 4, 3) := by decide +kernel
theorem dX12_isDigit_16 : decode cX12_isDigit 16 = .ok (.iconst 0, 1) := by decide +kernel
theorem dX12_isDigit_17 : decode cX12_isDigit 17 = .ok (.ireturn, 1) := by decide +kernel
def qX12_isDigit_b17  (post : Int32 → Prop)  (s0 : Int32) : Prop := (bz s0 ∧ post s0 )
set_option maxRecDepth 100000 in
set_option maxHeartbeats 4000000 in
theorem kX12_isDigit_b17 {C : Cx}  (hC : Fx C cX12_isDigit 1 RX12) (hR0 : xR C = rm 1) {post : Int32 → Prop} (hR : RZ C cX12_isDigit 1 (fun _ : Unit => ([] : va_W)) (fun r _ => post r ))  {s0 : Int32} (h : qX12_isDigit_b17 post s0) : G C 0 0 1 [] 17 [] [.int s0] := by
  exact hR _ _ _ () dX12_isDigit_17 h.1 h.2
def qX12_isDigit_b16  (post : Int32 → Prop)   : Prop := qX12_isDigit_b17 post (0 : Int32)
set_option maxRecDepth 100000 in
set_option maxHeartbeats 4000000 in
theorem kX12_isDigit_b16 {C : Cx}  (hC : Fx C cX12_isDigit 1 RX12) (hR0 : xR C = rm 1) {post : Int32 → Prop} (hR : RZ C cX12_isDigit 1 (fun _ : Unit => ([] : va_W)) (fun r _ => post r ))   (h : qX12_isDigit_b16 post) : G C 0 0 1 [] 16 [] [] := by
  refine g_iconst (pc := 16) (v := 0) hC dX12_isDigit_16 (by decide) ?_
  exact kX12_isDigit_b17 hC hR0 hR  h
def qX12_isDigit (x0 : Int32)  (post : Int32 → Prop) : Prop := ((x0 < (48 : Int32) → qX12_isDigit_b16 post ) ∧ (¬ x0 < (48 : Int32) → (((57 : Int32) < x0 → qX12_isDigit_b16 post ) ∧ (¬ (57 : Int32) < x0 → qX12_isDigit_b17 post (1 : Int32)))))
set_option maxRecDepth 100000 in
set_option maxHeartbeats 4000000 in
theorem kX12_isDigit {C : Cx}  (hC : Fx C cX12_isDigit 1 RX12) (hR0 : xR C = rm 1) {post : Int32 → Prop} (hR : RZ C cX12_isDigit 1 (fun _ : Unit => ([] : va_W)) (fun r _ => post r )) {x0 : Int32}  (h : qX12_isDigit x0  post) : G C 0 0 1 [] 0 [(0, .int x0)] [] := by
  refine g_iload_n (pc := 0) hC 0 dX12_isDigit_0 rfl rfl ?_
  refine g_bipush (pc := 1) (v := 48) hC dX12_isDigit_1 (by decide) ?_
  refine g_icmp_lt (pc := 3) (tgt := 16) hC dX12_isDigit_3 (by decide) (fun c_1 => ?_) (fun c_1 => ?_)
  · have h := h.1 c_1
    refine g_sub (lv' := []) [] rfl ?_
    exact kX12_isDigit_b16 hC hR0 hR  h
  · have h := h.2 c_1
    refine g_iload_n (pc := 6) hC 0 dX12_isDigit_6 rfl rfl ?_
    refine g_bipush (pc := 7) (v := 57) hC dX12_isDigit_7 (by decide) ?_
    refine g_icmp_gt (pc := 9) (tgt := 16) hC dX12_isDigit_9 (by decide) (fun c_2 => ?_) (fun c_2 => ?_)
    · have h := h.1 c_2
      refine g_sub (lv' := []) [] rfl ?_
      exact kX12_isDigit_b16 hC hR0 hR  h
    · have h := h.2 c_2
      refine g_iconst (pc := 12) (v := 1) hC dX12_isDigit_12 (by decide) ?_
      refine g_goto (pc := 13) (tgt := 17) hC dX12_isDigit_13 (by decide) ?_
      refine g_sub (lv' := []) [] rfl ?_
      exact kX12_isDigit_b17 hC hR0 hR  h
theorem ctX12_isDigit {l : Launch} {D : va_G} {cy : Nat → ClassId} {kd : Nat → Nat}  {x0 : Int32}  {post : Int32 → Prop} (h : qX12_isDigit x0  post) : CtI l D cy kd yX12_isDigit cX12_isDigit 1 1 .boolean [.int x0] (fun _ : Unit => ([] : va_W)) () (fun r _ => post r ) := met_z (by decide) (Nat.le_of_ble_eq_true rfl) (fun C e1 e2 e3 e4 e5 hC hR => by subst e1 e2 e3 e4; exact kX12_isDigit hC e5 hR h)
theorem dX12_ahead_0 : decode cX12_ahead 0 = .ok (.aload_n 0, 1) := by decide +kernel
theorem dX12_ahead_1 : decode cX12_ahead 1 = .ok (.aload_n 0, 1) := by decide +kernel
theorem dX12_ahead_2 : decode cX12_ahead 2 = .ok (.getfield 121, 3) := by decide +kernel
theorem dX12_ahead_5 : decode cX12_ahead 5 = .ok (.invokevirtual 124, 3) := by decide +kernel
theorem dX12_ahead_8 : decode cX12_ahead 8 = .ok (.bipush 32, 2) := by decide +kernel
theorem dX12_ahead_10 : decode cX12_ahead 10 = .ok (.if_icmp .eq 16, 3) := by decide +kernel
theorem dX12_ahead_13 : decode cX12_ahead 13 = .ok (.aload_n 0, 1) := by decide +kernel
theorem dX12_ahead_14 : decode cX12_ahead 14 = .ok (.aload_n 0, 1) := by decide +kernel
theorem dX12_ahead_15 : decode cX12_ahead 15 = .ok (.getfield 121, 3) := by decide +kernel
theorem dX12_ahead_18 : decode cX12_ahead 18 = .ok (.invokevirtual 124, 3) := by decide +kernel
theorem dX12_ahead_21 : decode cX12_ahead 21 = .ok (.bipush 10, 2) := by decide +kernel
theorem dX12_ahead_23 : decode cX12_ahead 23 = .ok (.if_icmp .ne 16, 3) := by decide +kernel
theorem dX12_ahead_26 : decode cX12_ahead 26 = .ok (.aload_n 0, 1) := by decide +kernel
theorem dX12_ahead_27 : decode cX12_ahead 27 = .ok (.dup, 1) := by decide +kernel
theorem dX12_ahead_28 : decode cX12_ahead 28 = .ok (.getfield 121, 3) := by decide +kernel
theorem dX12_ahead_31 : decode cX12_ahead 31 = .ok (.iconst 1, 1) := by decide +kernel
theorem dX12_ahead_32 : decode cX12_ahead 32 = .ok (.iadd, 1) := by decide +kernel
theorem dX12_ahead_33 : decode cX12_ahead 33 = .ok (.putfield 121, 3) := by decide +kernel
theorem dX12_ahead_36 : decode cX12_ahead 36 = .ok (.goto (-36), 3) := by decide +kernel
theorem dX12_ahead_39 : decode cX12_ahead 39 = .ok (.aload_n 0, 1) := by decide +kernel
theorem dX12_ahead_40 : decode cX12_ahead 40 = .ok (.aload_n 0, 1) := by decide +kernel
theorem dX12_ahead_41 : decode cX12_ahead 41 = .ok (.getfield 121, 3) := by decide +kernel
theorem dX12_ahead_44 : decode cX12_ahead 44 = .ok (.putfield 127, 3) := by decide +kernel
theorem dX12_ahead_47 : decode cX12_ahead 47 = .ok (.aload_n 0, 1) := by decide +kernel
theorem dX12_ahead_48 : decode cX12_ahead 48 = .ok (.aload_n 0, 1) := by decide +kernel
theorem dX12_ahead_49 : decode cX12_ahead 49 = .ok (.getfield 121, 3) := by decide +kernel
theorem dX12_ahead_52 : decode cX12_ahead 52 = .ok (.invokevirtual 124, 3) := by decide +kernel
theorem dX12_ahead_55 : decode cX12_ahead 55 = .ok (.istore_n 1, 1) := by decide +kernel
theorem dX12_ahead_56 : decode cX12_ahead 56 = .ok (.aload_n 0, 1) := by decide +kernel
theorem dX12_ahead_57 : decode cX12_ahead 57 = .ok (.iload_n 1, 1) := by decide +kernel
theorem dX12_ahead_58 : decode cX12_ahead 58 = .ok (.putfield 130, 3) := by decide +kernel
theorem dX12_ahead_61 : decode cX12_ahead 61 = .ok (.iload_n 1, 1) := by decide +kernel
theorem dX12_ahead_62 : decode cX12_ahead 62 = .ok (.iconst (-1), 1) := by decide +kernel
theorem dX12_ahead_63 : decode cX12_ahead 63 = .ok (.if_icmp .ne 11, 3) := by decide +kernel
theorem dX12_ahead_66 : decode cX12_ahead 66 = .ok (.aload_n 0, 1) := by decide +kernel
theorem dX12_ahead_67 : decode cX12_ahead 67 = .ok (.iconst 0, 1) := by decide +kernel
theorem dX12_ahead_68 : decode cX12_ahead 68 = .ok (.putfield 133, 3) := by decide +kernel
theorem dX12_ahead_71 : decode cX12_ahead 71 = .ok (.goto 180, 3) := by decide +kernel
theorem dX12_ahead_74 : decode cX12_ahead 74 = .ok (.iload_n 1, 1) := by decide +kernel
theorem dX12_ahead_75 : decode cX12_ahead 75 = .ok (.invokestatic 136, 3) := by decide +kernel
theorem dX12_ahead_78 : decode cX12_ahead 78 = .ok (.ifCond .eq 38, 3) := by decide +kernel
theorem dX12_ahead_81 : decode cX12_ahead 81 = .ok (.aload_n 0, 1) := by decide +kernel
theorem dX12_ahead_82 : decode cX12_ahead 82 = .ok (.aload_n 0, 1) := by decide +kernel
theorem dX12_ahead_83 : decode cX12_ahead 83 = .ok (.getfield 121, 3) := by decide +kernel
theorem dX12_ahead_86 : decode cX12_ahead 86 = .ok (.invokevirtual 124, 3) := by decide +kernel
theorem dX12_ahead_89 : decode cX12_ahead 89 = .ok (.invokestatic 136, 3) := by decide +kernel
theorem dX12_ahead_92 : decode cX12_ahead 92 = .ok (.ifCond .eq 16, 3) := by decide +kernel
theorem dX12_ahead_95 : decode cX12_ahead 95 = .ok (.aload_n 0, 1) := by decide +kernel
theorem dX12_ahead_96 : decode cX12_ahead 96 = .ok (.dup, 1) := by decide +kernel
theorem dX12_ahead_97 : decode cX12_ahead 97 = .ok (.getfield 121, 3) := by decide +kernel
theorem dX12_ahead_100 : decode cX12_ahead 100 = .ok (.iconst 1, 1) := by decide +kernel
theorem dX12_ahead_101 : decode cX12_ahead 101 = .ok (.iadd, 1) := by decide +kernel
theorem dX12_ahead_102 : decode cX12_ahead 102 = .ok (.putfield 121, 3) := by decide +kernel
theorem dX12_ahead_105 : decode cX12_ahead 105 = .ok (.goto (-24), 3) := by decide +kernel
theorem dX12_ahead_108 : decode cX12_ahead 108 = .ok (.aload_n 0, 1) := by decide +kernel
theorem dX12_ahead_109 : decode cX12_ahead 109 = .ok (.iconst 2, 1) := by decide +kernel
theorem dX12_ahead_110 : decode cX12_ahead 110 = .ok (.putfield 133, 3) := by decide +kernel
theorem dX12_ahead_113 : decode cX12_ahead 113 = .ok (.goto 138, 3) := by decide +kernel
theorem dX12_ahead_116 : decode cX12_ahead 116 = .ok (.iload_n 1, 1) := by decide +kernel
theorem dX12_ahead_117 : decode cX12_ahead 117 = .ok (.invokestatic 139, 3) := by decide +kernel
theorem dX12_ahead_120 : decode cX12_ahead 120 = .ok (.ifCond .eq 88, 3) := by decide +kernel
theorem dX12_ahead_123 : decode cX12_ahead 123 = .ok (.aload_n 0, 1) := by decide +kernel
theorem dX12_ahead_124 : decode cX12_ahead 124 = .ok (.iconst 0, 1) := by decide +kernel
theorem dX12_ahead_125 : decode cX12_ahead 125 = .ok (.putfield 130, 3) := by decide +kernel
theorem dX12_ahead_128 : decode cX12_ahead 128 = .ok (.aload_n 0, 1) := by decide +kernel
theorem dX12_ahead_129 : decode cX12_ahead 129 = .ok (.aload_n 0, 1) := by decide +kernel
theorem dX12_ahead_130 : decode cX12_ahead 130 = .ok (.getfield 121, 3) := by decide +kernel
theorem dX12_ahead_133 : decode cX12_ahead 133 = .ok (.invokevirtual 124, 3) := by decide +kernel
theorem dX12_ahead_136 : decode cX12_ahead 136 = .ok (.invokestatic 139, 3) := by decide +kernel
theorem dX12_ahead_139 : decode cX12_ahead 139 = .ok (.ifCond .eq 44, 3) := by decide +kernel
theorem dX12_ahead_142 : decode cX12_ahead 142 = .ok (.aload_n 0, 1) := by decide +kernel
theorem dX12_ahead_143 : decode cX12_ahead 143 = .ok (.ldc 142, 2) := by decide +kernel
theorem dX12_ahead_145 : decode cX12_ahead 145 = .ok (.bipush 10, 2) := by decide +kernel
theorem dX12_ahead_147 : decode cX12_ahead 147 = .ok (.aload_n 0, 1) := by decide +kernel
theorem dX12_ahead_148 : decode cX12_ahead 148 = .ok (.getfield 130, 3) := by decide +kernel
theorem dX12_ahead_151 : decode cX12_ahead 151 = .ok (.imul, 1) := by decide +kernel
theorem dX12_ahead_152 : decode cX12_ahead 152 = .ok (.aload_n 0, 1) := by decide +kernel
theorem dX12_ahead_153 : decode cX12_ahead 153 = .ok (.aload_n 0, 1) := by decide +kernel
theorem dX12_ahead_154 : decode cX12_ahead 154 = .ok (.getfield 121, 3) := by decide +kernel
theorem dX12_ahead_157 : decode cX12_ahead 157 = .ok (.invokevirtual 124, 3) := by decide +kernel
theorem dX12_ahead_160 : decode cX12_ahead 160 = .ok (.iadd, 1) := by decide +kernel
theorem dX12_ahead_161 : decode cX12_ahead 161 = .ok (.bipush 48, 2) := by decide +kernel
theorem dX12_ahead_163 : decode cX12_ahead 163 = .ok (.isub, 1) := by decide +kernel
theorem dX12_ahead_164 : decode cX12_ahead 164 = .ok (.invokestatic 143, 3) := by decide +kernel
theorem dX12_ahead_167 : decode cX12_ahead 167 = .ok (.putfield 130, 3) := by decide +kernel
theorem dX12_ahead_170 : decode cX12_ahead 170 = .ok (.aload_n 0, 1) := by decide +kernel
theorem dX12_ahead_171 : decode cX12_ahead 171 = .ok (.dup, 1) := by decide +kernel
theorem dX12_ahead_172 : decode cX12_ahead 172 = .ok (.getfield 121, 3) := by decide +kernel
theorem dX12_ahead_175 : decode cX12_ahead 175 = .ok (.iconst 1, 1) := by decide +kernel
theorem dX12_ahead_176 : decode cX12_ahead 176 = .ok (.iadd, 1) := by decide +kernel
theorem dX12_ahead_177 : decode cX12_ahead 177 = .ok (.putfield 121, 3) := by decide +kernel
theorem dX12_ahead_180 : decode cX12_ahead 180 = .ok (.goto (-52), 3) := by decide +kernel
theorem dX12_ahead_183 : decode cX12_ahead 183 = .ok (.aload_n 0, 1) := by decide +kernel
theorem dX12_ahead_184 : decode cX12_ahead 184 = .ok (.aload_n 0, 1) := by decide +kernel
theorem dX12_ahead_185 : decode cX12_ahead 185 = .ok (.getfield 121, 3) := by decide +kernel
theorem dX12_ahead_188 : decode cX12_ahead 188 = .ok (.aload_n 0, 1) := by decide +kernel
theorem dX12_ahead_189 : decode cX12_ahead 189 = .ok (.getfield 127, 3) := by decide +kernel
theorem dX12_ahead_192 : decode cX12_ahead 192 = .ok (.isub, 1) := by decide +kernel
theorem dX12_ahead_193 : decode cX12_ahead 193 = .ok (.iconst 4, 1) := by decide +kernel
theorem dX12_ahead_194 : decode cX12_ahead 194 = .ok (.if_icmp .le 7, 3) := by decide +kernel
theorem dX12_ahead_197 : decode cX12_ahead 197 = .ok (.iconst 1, 1) := by decide +kernel
theorem dX12_ahead_198 : decode cX12_ahead 198 = .ok (.goto 4, 3) := by decide +kernel
theorem dX12_ahead_201 : decode cX12_ahead 201 = .ok (.iconst 3, 1) := by decide +kernel
theorem dX12_ahead_202 : decode cX12_ahead 202 = .ok (.putfield 133, 3) := by decide +kernel
theorem dX12_ahead_205 : decode cX12_ahead 205 = .ok (.goto 46, 3) := by decide +kernel
theorem dX12_ahead_208 : decode cX12_ahead 208 = .ok (.aload_n 0, 1) := by decide +kernel
theorem dX12_ahead_209 : decode cX12_ahead 209 = .ok (.dup, 1) := by decide +kernel
theorem dX12_ahead_210 : decode cX12_ahead 210 = .ok (.getfield 121, 3) := by decide +kernel
theorem dX12_ahead_213 : decode cX12_ahead 213 = .ok (.iconst 1, 1) := by decide +kernel
theorem dX12_ahead_214 : decode cX12_ahead 214 = .ok (.iadd, 1) := by decide +kernel
theorem dX12_ahead_215 : decode cX12_ahead 215 = .ok (.putfield 121, 3) := by decide +kernel
theorem dX12_ahead_218 : decode cX12_ahead 218 = .ok (.aload_n 0, 1) := by decide +kernel
theorem dX12_ahead_219 : decode cX12_ahead 219 = .ok (.iload_n 1, 1) := by decide +kernel
theorem dX12_ahead_220 : decode cX12_ahead 220 = .ok (.bipush 59, 2) := by decide +kernel
theorem dX12_ahead_222 : decode cX12_ahead 222 = .ok (.if_icmp .eq 21, 3) := by decide +kernel
theorem dX12_ahead_225 : decode cX12_ahead 225 = .ok (.iload_n 1, 1) := by decide +kernel
theorem dX12_ahead_226 : decode cX12_ahead 226 = .ok (.bipush 60, 2) := by decide +kernel
theorem dX12_ahead_228 : decode cX12_ahead 228 = .ok (.if_icmp .eq 15, 3) := by decide +kernel
theorem dX12_ahead_231 : decode cX12_ahead 231 = .ok (.iload_n 1, 1) := by decide +kernel
theorem dX12_ahead_232 : decode cX12_ahead 232 = .ok (.bipush 62, 2) := by decide +kernel
theorem dX12_ahead_234 : decode cX12_ahead 234 = .ok (.if_icmp .eq 9, 3) := by decide +kernel
theorem dX12_ahead_237 : decode cX12_ahead 237 = .ok (.iload_n 1, 1) := by decide +kernel
theorem dX12_ahead_238 : decode cX12_ahead 238 = .ok (.bipush 61, 2) := by decide +kernel
theorem dX12_ahead_240 : decode cX12_ahead 240 = .ok (.if_icmp .ne 7, 3) := by decide +kernel
theorem dX12_ahead_243 : decode cX12_ahead 243 = .ok (.iconst 4, 1) := by decide +kernel
theorem dX12_ahead_244 : decode cX12_ahead 244 = .ok (.goto 4, 3) := by decide +kernel
theorem dX12_ahead_247 : decode cX12_ahead 247 = .ok (.iconst 1, 1) := by decide +kernel
theorem dX12_ahead_248 : decode cX12_ahead 248 = .ok (.putfield 133, 3) := by decide +kernel
theorem dX12_ahead_251 : decode cX12_ahead 251 = .ok (.return_, 1) := by decide +kernel
def qX12_ahead_b26  (post : St → Prop) (K0 : St → Prop) (u0 : St) : Prop := ∀ u_39 : St, u_39 = (si u0 14 ((gi u0 14) + (1 : Int32))) → K0 u_39
set_option maxRecDepth 100000 in
set_option maxHeartbeats 4000000 in
theorem kX12_ahead_b26 {C : Cx} {o0 : Nat} {a0 : Nat → Nat} (hC : Fx C cX12_ahead 2 RX12) (hR0 : xR C = rm 2) {post : St → Prop} (hR : RV C cX12_ahead 2 (fun u : St => (wX12 o0 a0 (xy C) u [])) (fun u => post u)) {K0 : St → Prop} (hK0 : ∀ (u0 : St), K0 u0 → G C 0 0 2 (wX12 o0 a0 (xy C) u0 []) 0 [(0, .ref o0)] []) {u0 : St} (h : qX12_ahead_b26 post K0 u0) : G C 0 0 2 (wX12 o0 a0 (xy C) u0 []) 26 [(0, .ref o0)] [] := by
  refine g_aload_n (pc := 26) hC 0 dX12_ahead_26 rfl rfl ?_
  refine g_dup (pc := 27) hC dX12_ahead_27 rfl ?_
  refine getX12_14 (pc := 28) hC (F := fun Z => Z) (X := []) (fun _ => rfl) fl_X12_121 dX12_ahead_28 ?_
  refine g_iconst (pc := 31) (v := 1) hC dX12_ahead_31 (by decide) ?_
  refine g_iadd (pc := 32) hC dX12_ahead_32 ?_
  refine putX12_14 (pc := 33) hC (F := fun Z => Z) (X := []) (fun _ => rfl) fl_X12_121 dX12_ahead_33 ?_
  refine g_st (w := fun z => (wX12 o0 a0 (xy C) z [])) (u := (si u0 14 ((gi u0 14) + (1 : Int32)))) (fun u_39 eu_39 => ?_)
  have h := h u_39 eu_39
  refine g_goto (pc := 36) (tgt := 0) hC dX12_ahead_36 (by decide) ?_
  exact hK0 _ h
def qX12_ahead_b251  (post : St → Prop)  (u0 : St) : Prop := post u0
set_option maxRecDepth 100000 in
set_option maxHeartbeats 4000000 in
theorem kX12_ahead_b251 {C : Cx} {o0 : Nat} {a0 : Nat → Nat} (hC : Fx C cX12_ahead 2 RX12) (hR0 : xR C = rm 2) {post : St → Prop} (hR : RV C cX12_ahead 2 (fun u : St => (wX12 o0 a0 (xy C) u [])) (fun u => post u))  {u0 : St} (h : qX12_ahead_b251 post u0) : G C 0 0 2 (wX12 o0 a0 (xy C) u0 []) 251 [] [] := by
  exact hR _ _ u0 dX12_ahead_251 h
def qX12_ahead_b108  (post : St → Prop)  (u0 : St) : Prop := ∀ u_40 : St, u_40 = (si u0 12 (2 : Int32)) → qX12_ahead_b251 post u_40
set_option maxRecDepth 100000 in
set_option maxHeartbeats 4000000 in
theorem kX12_ahead_b108 {C : Cx} {o0 : Nat} {a0 : Nat → Nat} (hC : Fx C cX12_ahead 2 RX12) (hR0 : xR C = rm 2) {post : St → Prop} (hR : RV C cX12_ahead 2 (fun u : St => (wX12 o0 a0 (xy C) u [])) (fun u => post u))  {u0 : St} (h : qX12_ahead_b108 post u0) : G C 0 0 2 (wX12 o0 a0 (xy C) u0 []) 108 [(0, .ref o0)] [] := by
  refine g_aload_n (pc := 108) hC 0 dX12_ahead_108 rfl rfl ?_
  refine g_iconst (pc := 109) (v := 2) hC dX12_ahead_109 (by decide) ?_
  refine putX12_12 (pc := 110) hC (F := fun Z => Z) (X := []) (fun _ => rfl) fl_X12_133 dX12_ahead_110 ?_
  refine g_st (w := fun z => (wX12 o0 a0 (xy C) z [])) (u := (si u0 12 (2 : Int32))) (fun u_40 eu_40 => ?_)
  have h := h u_40 eu_40
  refine g_goto (pc := 113) (tgt := 251) hC dX12_ahead_113 (by decide) ?_
  refine g_sub (lv' := []) [] rfl ?_
  exact kX12_ahead_b251 hC hR0 hR  h
def qX12_ahead_l81  (post : St → Prop) (K81 : St → Prop) (u0 : St) : Prop := qX12_byteAt (gi u0 14) u0 (fun r_42 u_41 => qX12_isSmall r_42 (fun r_44 => ((r_44 = 0 → qX12_ahead_b108 post u_41) ∧ (¬ r_44 = 0 → ∀ u_47 : St, u_47 = (si u_41 14 ((gi u_41 14) + (1 : Int32))) → K81 u_47))))
set_option maxRecDepth 100000 in
set_option maxHeartbeats 4000000 in
theorem kX12_ahead_l81 {C : Cx} {o0 : Nat} {a0 : Nat → Nat} (hC : Fx C cX12_ahead 2 RX12) (hR0 : xR C = rm 2) {post : St → Prop} (hR : RV C cX12_ahead 2 (fun u : St => (wX12 o0 a0 (xy C) u [])) (fun u => post u))  {K81 : St → Prop} (hK81 : ∀ (u0 : St), K81 u0 → G C 0 0 2 (wX12 o0 a0 (xy C) u0 []) 81 [(0, .ref o0)] []) {u0 : St} (h : qX12_ahead_l81 post K81 u0) : G C 0 0 2 (wX12 o0 a0 (xy C) u0 []) 81 [(0, .ref o0)] [] := by
  refine g_aload_n (pc := 81) hC 0 dX12_ahead_81 rfl rfl ?_
  refine g_aload_n (pc := 82) hC 0 dX12_ahead_82 rfl rfl ?_
  refine getX12_14 (pc := 83) hC (F := fun Z => Z) (X := []) (fun _ => rfl) fl_X12_121 dX12_ahead_83 ?_
  refine g_callV_i (pc := 86) (wd := fun (u : St) Y => (wX12 o0 a0 (xy C) u Y)) (F := fun Z => Z) (X := []) (As := [.int (gi u0 14)]) (rest := []) (u := u0) hC (fun _ _ => rfl) (fun _ => rfl) (ctX12_byteAt h) wvX12_byteAt ml_X12_124 (ci := 10) (q0 := 0) rfl rfl rfl rfl (rmok hR0 rfl) ⟨Nat.zero_le _, Nat.zero_le _⟩ rfl (Nat.le_of_ble_eq_true rfl) dX12_ahead_86 (fun r_42 u_41 h => ?_)
  refine g_callS_i (pc := 89) (wd := fun (_ : Unit) Y => Y) (F := fun Z => Z) (X := []) (As := [.int r_42]) (rest := []) (u := ()) hC (fun _ _ => rfl) (fun _ => rfl) (ctX12_isSmall h) wvX12_isSmall ml_X12_136 rfl (rmok hR0 rfl) ⟨Nat.zero_le _, Nat.zero_le _⟩ rfl (Nat.le_of_ble_eq_true rfl) dX12_ahead_89 (fun r_44 u_45 h => ?_)
  refine g_if_eq (pc := 92) (tgt := 108) hC dX12_ahead_92 (by decide) (fun c_46 => ?_) (fun c_46 => ?_)
  · have h := h.1 c_46
    exact kX12_ahead_b108 hC hR0 hR  h
  · have h := h.2 c_46
    refine g_aload_n (pc := 95) hC 0 dX12_ahead_95 rfl rfl ?_
    refine g_dup (pc := 96) hC dX12_ahead_96 rfl ?_
    refine getX12_14 (pc := 97) hC (F := fun Z => Z) (X := []) (fun _ => rfl) fl_X12_121 dX12_ahead_97 ?_
    refine g_iconst (pc := 100) (v := 1) hC dX12_ahead_100 (by decide) ?_
    refine g_iadd (pc := 101) hC dX12_ahead_101 ?_
    refine putX12_14 (pc := 102) hC (F := fun Z => Z) (X := []) (fun _ => rfl) fl_X12_121 dX12_ahead_102 ?_
    refine g_st (w := fun z => (wX12 o0 a0 (xy C) z [])) (u := (si u_41 14 ((gi u_41 14) + (1 : Int32)))) (fun u_47 eu_47 => ?_)
    have h := h u_47 eu_47
    refine g_goto (pc := 105) (tgt := 81) hC dX12_ahead_105 (by decide) ?_
    exact hK81 _ h
def qX12_ahead_L81  (post : St → Prop)  : Nat → St → Prop
  | 0 => fun _ => False
  | n + 1 => qX12_ahead_l81 post (qX12_ahead_L81 post n)
theorem kX12_ahead_L81 {C : Cx} {o0 : Nat} {a0 : Nat → Nat} (hC : Fx C cX12_ahead 2 RX12) (hR0 : xR C = rm 2) {post : St → Prop} (hR : RV C cX12_ahead 2 (fun u : St => (wX12 o0 a0 (xy C) u [])) (fun u => post u))  : ∀ (n : Nat) (u0 : St), qX12_ahead_L81 post n u0 → G C 0 0 2 (wX12 o0 a0 (xy C) u0 []) 81 [(0, .ref o0)] [] := by
  intro n
  induction n with
  | zero => intro u0 h; exact h.elim
  | succ n ih => intro u0 h; exact kX12_ahead_l81 hC hR0 hR  ih h
def qX12_ahead_b202  (post : St → Prop)  (s0 : Int32) (u0 : St) : Prop := ∀ u_48 : St, u_48 = (si u0 12 s0) → qX12_ahead_b251 post u_48
set_option maxRecDepth 100000 in
set_option maxHeartbeats 4000000 in
theorem kX12_ahead_b202 {C : Cx} {o0 : Nat} {a0 : Nat → Nat} (hC : Fx C cX12_ahead 2 RX12) (hR0 : xR C = rm 2) {post : St → Prop} (hR : RV C cX12_ahead 2 (fun u : St => (wX12 o0 a0 (xy C) u [])) (fun u => post u))  {s0 : Int32} {u0 : St} (h : qX12_ahead_b202 post s0 u0) : G C 0 0 2 (wX12 o0 a0 (xy C) u0 []) 202 [] [.int s0, .ref o0] := by
  refine putX12_12 (pc := 202) hC (F := fun Z => Z) (X := []) (fun _ => rfl) fl_X12_133 dX12_ahead_202 ?_
  refine g_st (w := fun z => (wX12 o0 a0 (xy C) z [])) (u := (si u0 12 s0)) (fun u_48 eu_48 => ?_)
  have h := h u_48 eu_48
  refine g_goto (pc := 205) (tgt := 251) hC dX12_ahead_205 (by decide) ?_
  exact kX12_ahead_b251 hC hR0 hR  h
def qX12_ahead_b183  (post : St → Prop)  (u0 : St) : Prop := ((((gi u0 14) - (gi u0 13)) ≤ (4 : Int32) → qX12_ahead_b202 post (3 : Int32) u0) ∧ (¬ ((gi u0 14) - (gi u0 13)) ≤ (4 : Int32) → qX12_ahead_b202 post (1 : Int32) u0))
set_option maxRecDepth 100000 in
set_option maxHeartbeats 4000000 in
theorem kX12_ahead_b183 {C : Cx} {o0 : Nat} {a0 : Nat → Nat} (hC : Fx C cX12_ahead 2 RX12) (hR0 : xR C = rm 2) {post : St → Prop} (hR : RV C cX12_ahead 2 (fun u : St => (wX12 o0 a0 (xy C) u [])) (fun u => post u))  {u0 : St} (h : qX12_ahead_b183 post u0) : G C 0 0 2 (wX12 o0 a0 (xy C) u0 []) 183 [(0, .ref o0)] [] := by
  refine g_aload_n (pc := 183) hC 0 dX12_ahead_183 rfl rfl ?_
  refine g_aload_n (pc := 184) hC 0 dX12_ahead_184 rfl rfl ?_
  refine getX12_14 (pc := 185) hC (F := fun Z => Z) (X := []) (fun _ => rfl) fl_X12_121 dX12_ahead_185 ?_
  refine g_aload_n (pc := 188) hC 0 dX12_ahead_188 rfl rfl ?_
  refine getX12_13 (pc := 189) hC (F := fun Z => Z) (X := []) (fun _ => rfl) fl_X12_127 dX12_ahead_189 ?_
  refine g_isub (pc := 192) hC dX12_ahead_192 ?_
  refine g_iconst (pc := 193) (v := 4) hC dX12_ahead_193 (by decide) ?_
  refine g_icmp_le (pc := 194) (tgt := 201) hC dX12_ahead_194 (by decide) (fun c_49 => ?_) (fun c_49 => ?_)
  · have h := h.1 c_49
    refine g_iconst (pc := 201) (v := 3) hC dX12_ahead_201 (by decide) ?_
    refine g_sub (lv' := []) [] rfl ?_
    exact kX12_ahead_b202 hC hR0 hR  h
  · have h := h.2 c_49
    refine g_iconst (pc := 197) (v := 1) hC dX12_ahead_197 (by decide) ?_
    refine g_goto (pc := 198) (tgt := 202) hC dX12_ahead_198 (by decide) ?_
    refine g_sub (lv' := []) [] rfl ?_
    exact kX12_ahead_b202 hC hR0 hR  h
def qX12_ahead_l128  (post : St → Prop) (K128 : St → Prop) (u0 : St) : Prop := qX12_byteAt (gi u0 14) u0 (fun r_51 u_50 => qX12_isDigit r_51 (fun r_53 => ((r_53 = 0 → qX12_ahead_b183 post u_50) ∧ (¬ r_53 = 0 → qX12_byteAt (gi u_50 14) u_50 (fun r_57 u_56 => ∀ u_59 : St, u_59 = (si u_56 15 (if ((((10 : Int32) * (gi u_50 15)) + r_57) - (48 : Int32)) < (100000 : Int32) then ((((10 : Int32) * (gi u_50 15)) + r_57) - (48 : Int32)) else (100000 : Int32))) → ∀ u_60 : St, u_60 = (si u_59 14 ((gi u_59 14) + (1 : Int32))) → K128 u_60)))))
set_option maxRecDepth 100000 in
set_option maxHeartbeats 4000000 in
theorem kX12_ahead_l128 {C : Cx} {o0 : Nat} {a0 : Nat → Nat} (hC : Fx C cX12_ahead 2 RX12) (hR0 : xR C = rm 2) {post : St → Prop} (hR : RV C cX12_ahead 2 (fun u : St => (wX12 o0 a0 (xy C) u [])) (fun u => post u))  {K128 : St → Prop} (hK128 : ∀ (u0 : St), K128 u0 → G C 0 0 2 (wX12 o0 a0 (xy C) u0 []) 128 [(0, .ref o0)] []) {u0 : St} (h : qX12_ahead_l128 post K128 u0) : G C 0 0 2 (wX12 o0 a0 (xy C) u0 []) 128 [(0, .ref o0)] [] := by
  refine g_aload_n (pc := 128) hC 0 dX12_ahead_128 rfl rfl ?_
  refine g_aload_n (pc := 129) hC 0 dX12_ahead_129 rfl rfl ?_
  refine getX12_14 (pc := 130) hC (F := fun Z => Z) (X := []) (fun _ => rfl) fl_X12_121 dX12_ahead_130 ?_
  refine g_callV_i (pc := 133) (wd := fun (u : St) Y => (wX12 o0 a0 (xy C) u Y)) (F := fun Z => Z) (X := []) (As := [.int (gi u0 14)]) (rest := []) (u := u0) hC (fun _ _ => rfl) (fun _ => rfl) (ctX12_byteAt h) wvX12_byteAt ml_X12_124 (ci := 10) (q0 := 0) rfl rfl rfl rfl (rmok hR0 rfl) ⟨Nat.zero_le _, Nat.zero_le _⟩ rfl (Nat.le_of_ble_eq_true rfl) dX12_ahead_133 (fun r_51 u_50 h => ?_)
  refine g_callS_i (pc := 136) (wd := fun (_ : Unit) Y => Y) (F := fun Z => Z) (X := []) (As := [.int r_51]) (rest := []) (u := ()) hC (fun _ _ => rfl) (fun _ => rfl) (ctX12_isDigit h) wvX12_isDigit ml_X12_139 rfl (rmok hR0 rfl) ⟨Nat.zero_le _, Nat.zero_le _⟩ rfl (Nat.le_of_ble_eq_true rfl) dX12_ahead_136 (fun r_53 u_54 h => ?_)
  refine g_if_eq (pc := 139) (tgt := 183) hC dX12_ahead_139 (by decide) (fun c_55 => ?_) (fun c_55 => ?_)
  · have h := h.1 c_55
    exact kX12_ahead_b183 hC hR0 hR  h
  · have h := h.2 c_55
    refine g_aload_n (pc := 142) hC 0 dX12_ahead_142 rfl rfl ?_
    refine g_ldc (pc := 143) hC cn_X12_142 dX12_ahead_143 ?_
    refine g_bipush (pc := 145) (v := 10) hC dX12_ahead_145 (by decide) ?_
    refine g_aload_n (pc := 147) hC 0 dX12_ahead_147 rfl rfl ?_
    refine getX12_15 (pc := 148) hC (F := fun Z => Z) (X := []) (fun _ => rfl) fl_X12_130 dX12_ahead_148 ?_
    refine g_imul (pc := 151) hC dX12_ahead_151 ?_
    refine g_aload_n (pc := 152) hC 0 dX12_ahead_152 rfl rfl ?_
    refine g_aload_n (pc := 153) hC 0 dX12_ahead_153 rfl rfl ?_
    refine getX12_14 (pc := 154) hC (F := fun Z => Z) (X := []) (fun _ => rfl) fl_X12_121 dX12_ahead_154 ?_
    refine g_callV_i (pc := 157) (wd := fun (u : St) Y => (wX12 o0 a0 (xy C) u Y)) (F := fun Z => Z) (X := []) (As := [.int (gi u_50 14)]) (rest := [.int ((10 : Int32) * (gi u_50 15)), .int (100000 : Int32), .ref o0]) (u := u_50) hC (fun _ _ => rfl) (fun _ => rfl) (ctX12_byteAt h) wvX12_byteAt ml_X12_124 (ci := 10) (q0 := 0) rfl rfl rfl rfl (rmok hR0 rfl) ⟨Nat.zero_le _, Nat.zero_le _⟩ rfl (Nat.le_of_ble_eq_true rfl) dX12_ahead_157 (fun r_57 u_56 h => ?_)
    refine g_iadd (pc := 160) hC dX12_ahead_160 ?_
    refine g_bipush (pc := 161) (v := 48) hC dX12_ahead_161 (by decide) ?_
    refine g_isub (pc := 163) hC dX12_ahead_163 ?_
    refine g_mmin (pc := 164) hC hR0 ml_X12_143 dX12_ahead_164 (Nat.le_of_ble_eq_true rfl) ?_
    refine putX12_15 (pc := 167) hC (F := fun Z => Z) (X := []) (fun _ => rfl) fl_X12_130 dX12_ahead_167 ?_
    refine g_st (w := fun z => (wX12 o0 a0 (xy C) z [])) (u := (si u_56 15 (if ((((10 : Int32) * (gi u_50 15)) + r_57) - (48 : Int32)) < (100000 : Int32) then ((((10 : Int32) * (gi u_50 15)) + r_57) - (48 : Int32)) else (100000 : Int32)))) (fun u_59 eu_59 => ?_)
    have h := h u_59 eu_59
    refine g_aload_n (pc := 170) hC 0 dX12_ahead_170 rfl rfl ?_
    refine g_dup (pc := 171) hC dX12_ahead_171 rfl ?_
    refine getX12_14 (pc := 172) hC (F := fun Z => Z) (X := []) (fun _ => rfl) fl_X12_121 dX12_ahead_172 ?_
    refine g_iconst (pc := 175) (v := 1) hC dX12_ahead_175 (by decide) ?_
    refine g_iadd (pc := 176) hC dX12_ahead_176 ?_
    refine putX12_14 (pc := 177) hC (F := fun Z => Z) (X := []) (fun _ => rfl) fl_X12_121 dX12_ahead_177 ?_
    refine g_st (w := fun z => (wX12 o0 a0 (xy C) z [])) (u := (si u_59 14 ((gi u_59 14) + (1 : Int32)))) (fun u_60 eu_60 => ?_)
    have h := h u_60 eu_60
    refine g_goto (pc := 180) (tgt := 128) hC dX12_ahead_180 (by decide) ?_
    exact hK128 _ h
def qX12_ahead_L128  (post : St → Prop)  : Nat → St → Prop
  | 0 => fun _ => False
  | n + 1 => qX12_ahead_l128 post (qX12_ahead_L128 post n)
theorem kX12_ahead_L128 {C : Cx} {o0 : Nat} {a0 : Nat → Nat} (hC : Fx C cX12_ahead 2 RX12) (hR0 : xR C = rm 2) {post : St → Prop} (hR : RV C cX12_ahead 2 (fun u : St => (wX12 o0 a0 (xy C) u [])) (fun u => post u))  : ∀ (n : Nat) (u0 : St), qX12_ahead_L128 post n u0 → G C 0 0 2 (wX12 o0 a0 (xy C) u0 []) 128 [(0, .ref o0)] [] := by
  intro n
  induction n with
  | zero => intro u0 h; exact h.elim
  | succ n ih => intro u0 h; exact kX12_ahead_l128 hC hR0 hR  ih h
def qX12_ahead_b248  (post : St → Prop)  (s0 : Int32) (u0 : St) : Prop := ∀ u_61 : St, u_61 = (si u0 12 s0) → qX12_ahead_b251 post u_61
set_option maxRecDepth 100000 in
set_option maxHeartbeats 4000000 in
theorem kX12_ahead_b248 {C : Cx} {o0 : Nat} {a0 : Nat → Nat} (hC : Fx C cX12_ahead 2 RX12) (hR0 : xR C = rm 2) {post : St → Prop} (hR : RV C cX12_ahead 2 (fun u : St => (wX12 o0 a0 (xy C) u [])) (fun u => post u))  {s0 : Int32} {u0 : St} (h : qX12_ahead_b248 post s0 u0) : G C 0 0 2 (wX12 o0 a0 (xy C) u0 []) 248 [] [.int s0, .ref o0] := by
  refine putX12_12 (pc := 248) hC (F := fun Z => Z) (X := []) (fun _ => rfl) fl_X12_133 dX12_ahead_248 ?_
  refine g_st (w := fun z => (wX12 o0 a0 (xy C) z [])) (u := (si u0 12 s0)) (fun u_61 eu_61 => ?_)
  have h := h u_61 eu_61
  exact kX12_ahead_b251 hC hR0 hR  h
def qX12_ahead_b243  (post : St → Prop)  (u0 : St) : Prop := qX12_ahead_b248 post (4 : Int32) u0
set_option maxRecDepth 100000 in
set_option maxHeartbeats 4000000 in
theorem kX12_ahead_b243 {C : Cx} {o0 : Nat} {a0 : Nat → Nat} (hC : Fx C cX12_ahead 2 RX12) (hR0 : xR C = rm 2) {post : St → Prop} (hR : RV C cX12_ahead 2 (fun u : St => (wX12 o0 a0 (xy C) u [])) (fun u => post u))  {u0 : St} (h : qX12_ahead_b243 post u0) : G C 0 0 2 (wX12 o0 a0 (xy C) u0 []) 243 [] [.ref o0] := by
  refine g_iconst (pc := 243) (v := 4) hC dX12_ahead_243 (by decide) ?_
  refine g_goto (pc := 244) (tgt := 248) hC dX12_ahead_244 (by decide) ?_
  exact kX12_ahead_b248 hC hR0 hR  h
def qX12_ahead_b39  (post : St → Prop)  (u0 : St) : Prop := ∀ u_62 : St, u_62 = (si u0 13 (gi u0 14)) → qX12_byteAt (gi u_62 14) u_62 (fun r_64 u_63 => ∀ u_66 : St, u_66 = (si u_63 15 r_64) → ((¬ r_64 = (-1 : Int32) → qX12_isSmall r_64 (fun r_68 => ((r_68 = 0 → qX12_isDigit r_64 (fun r_71 => ((r_71 = 0 → ∀ u_74 : St, u_74 = (si u_66 14 ((gi u_66 14) + (1 : Int32))) → ((r_64 = (59 : Int32) → qX12_ahead_b243 post u_74) ∧ (¬ r_64 = (59 : Int32) → ((r_64 = (60 : Int32) → qX12_ahead_b243 post u_74) ∧ (¬ r_64 = (60 : Int32) → ((r_64 = (62 : Int32) → qX12_ahead_b243 post u_74) ∧ (¬ r_64 = (62 : Int32) → ((¬ r_64 = (61 : Int32) → qX12_ahead_b248 post (1 : Int32) u_74) ∧ (r_64 = (61 : Int32) → qX12_ahead_b243 post u_74))))))))) ∧ (¬ r_71 = 0 → ∀ u_79 : St, u_79 = (si u_66 15 (0 : Int32)) → ∃ n_80 : Nat, qX12_ahead_L128 post n_80 u_79)))) ∧ (¬ r_68 = 0 → ∃ n_81 : Nat, qX12_ahead_L81 post n_81 u_66)))) ∧ (r_64 = (-1 : Int32) → ∀ u_82 : St, u_82 = (si u_66 12 (0 : Int32)) → qX12_ahead_b251 post u_82)))
set_option maxRecDepth 100000 in
set_option maxHeartbeats 4000000 in
theorem kX12_ahead_b39 {C : Cx} {o0 : Nat} {a0 : Nat → Nat} (hC : Fx C cX12_ahead 2 RX12) (hR0 : xR C = rm 2) {post : St → Prop} (hR : RV C cX12_ahead 2 (fun u : St => (wX12 o0 a0 (xy C) u [])) (fun u => post u))  {u0 : St} (h : qX12_ahead_b39 post u0) : G C 0 0 2 (wX12 o0 a0 (xy C) u0 []) 39 [(0, .ref o0)] [] := by
  refine g_aload_n (pc := 39) hC 0 dX12_ahead_39 rfl rfl ?_
  refine g_aload_n (pc := 40) hC 0 dX12_ahead_40 rfl rfl ?_
  refine getX12_14 (pc := 41) hC (F := fun Z => Z) (X := []) (fun _ => rfl) fl_X12_121 dX12_ahead_41 ?_
  refine putX12_13 (pc := 44) hC (F := fun Z => Z) (X := []) (fun _ => rfl) fl_X12_127 dX12_ahead_44 ?_
  refine g_st (w := fun z => (wX12 o0 a0 (xy C) z [])) (u := (si u0 13 (gi u0 14))) (fun u_62 eu_62 => ?_)
  have h := h u_62 eu_62
  refine g_aload_n (pc := 47) hC 0 dX12_ahead_47 rfl rfl ?_
  refine g_aload_n (pc := 48) hC 0 dX12_ahead_48 rfl rfl ?_
  refine getX12_14 (pc := 49) hC (F := fun Z => Z) (X := []) (fun _ => rfl) fl_X12_121 dX12_ahead_49 ?_
  refine g_callV_i (pc := 52) (wd := fun (u : St) Y => (wX12 o0 a0 (xy C) u Y)) (F := fun Z => Z) (X := []) (As := [.int (gi u_62 14)]) (rest := []) (u := u_62) hC (fun _ _ => rfl) (fun _ => rfl) (ctX12_byteAt h) wvX12_byteAt ml_X12_124 (ci := 10) (q0 := 0) rfl rfl rfl rfl (rmok hR0 rfl) ⟨Nat.zero_le _, Nat.zero_le _⟩ rfl (Nat.le_of_ble_eq_true rfl) dX12_ahead_52 (fun r_64 u_63 h => ?_)
  refine g_istore_n (pc := 55) (lv' := [(1, .int r_64), (0, .ref o0)]) hC dX12_ahead_55 rfl (Nat.le_of_ble_eq_true rfl) rfl ?_
  refine g_aload_n (pc := 56) hC 1 dX12_ahead_56 rfl rfl ?_
  refine g_iload_n (pc := 57) hC 0 dX12_ahead_57 rfl rfl ?_
  refine putX12_15 (pc := 58) hC (F := fun Z => Z) (X := []) (fun _ => rfl) fl_X12_130 dX12_ahead_58 ?_
  refine g_st (w := fun z => (wX12 o0 a0 (xy C) z [])) (u := (si u_63 15 r_64)) (fun u_66 eu_66 => ?_)
  have h := h u_66 eu_66
  refine g_iload_n (pc := 61) hC 0 dX12_ahead_61 rfl rfl ?_
  refine g_iconst (pc := 62) (v := -1) hC dX12_ahead_62 (by decide) ?_
  refine g_icmp_ne (pc := 63) (tgt := 74) hC dX12_ahead_63 (by decide) (fun c_67 => ?_) (fun c_67 => ?_)
  · have h := h.1 c_67
    refine g_iload_n (pc := 74) hC 0 dX12_ahead_74 rfl rfl ?_
    refine g_callS_i (pc := 75) (wd := fun (_ : Unit) Y => Y) (F := fun Z => Z) (X := []) (As := [.int r_64]) (rest := []) (u := ()) hC (fun _ _ => rfl) (fun _ => rfl) (ctX12_isSmall h) wvX12_isSmall ml_X12_136 rfl (rmok hR0 rfl) ⟨Nat.zero_le _, Nat.zero_le _⟩ rfl (Nat.le_of_ble_eq_true rfl) dX12_ahead_75 (fun r_68 u_69 h => ?_)
    refine g_if_eq (pc := 78) (tgt := 116) hC dX12_ahead_78 (by decide) (fun c_70 => ?_) (fun c_70 => ?_)
    · have h := h.1 c_70
      refine g_iload_n (pc := 116) hC 0 dX12_ahead_116 rfl rfl ?_
      refine g_callS_i (pc := 117) (wd := fun (_ : Unit) Y => Y) (F := fun Z => Z) (X := []) (As := [.int r_64]) (rest := []) (u := ()) hC (fun _ _ => rfl) (fun _ => rfl) (ctX12_isDigit h) wvX12_isDigit ml_X12_139 rfl (rmok hR0 rfl) ⟨Nat.zero_le _, Nat.zero_le _⟩ rfl (Nat.le_of_ble_eq_true rfl) dX12_ahead_117 (fun r_71 u_72 h => ?_)
      refine g_if_eq (pc := 120) (tgt := 208) hC dX12_ahead_120 (by decide) (fun c_73 => ?_) (fun c_73 => ?_)
      · have h := h.1 c_73
        refine g_aload_n (pc := 208) hC 1 dX12_ahead_208 rfl rfl ?_
        refine g_dup (pc := 209) hC dX12_ahead_209 rfl ?_
        refine getX12_14 (pc := 210) hC (F := fun Z => Z) (X := []) (fun _ => rfl) fl_X12_121 dX12_ahead_210 ?_
        refine g_iconst (pc := 213) (v := 1) hC dX12_ahead_213 (by decide) ?_
        refine g_iadd (pc := 214) hC dX12_ahead_214 ?_
        refine putX12_14 (pc := 215) hC (F := fun Z => Z) (X := []) (fun _ => rfl) fl_X12_121 dX12_ahead_215 ?_
        refine g_st (w := fun z => (wX12 o0 a0 (xy C) z [])) (u := (si u_66 14 ((gi u_66 14) + (1 : Int32)))) (fun u_74 eu_74 => ?_)
        have h := h u_74 eu_74
        refine g_aload_n (pc := 218) hC 1 dX12_ahead_218 rfl rfl ?_
        refine g_iload_n (pc := 219) hC 0 dX12_ahead_219 rfl rfl ?_
        refine g_bipush (pc := 220) (v := 59) hC dX12_ahead_220 (by decide) ?_
        refine g_icmp_eq (pc := 222) (tgt := 243) hC dX12_ahead_222 (by decide) (fun c_75 => ?_) (fun c_75 => ?_)
        · have h := h.1 c_75
          refine g_sub (lv' := []) [] rfl ?_
          exact kX12_ahead_b243 hC hR0 hR  h
        · have h := h.2 c_75
          refine g_iload_n (pc := 225) hC 0 dX12_ahead_225 rfl rfl ?_
          refine g_bipush (pc := 226) (v := 60) hC dX12_ahead_226 (by decide) ?_
          refine g_icmp_eq (pc := 228) (tgt := 243) hC dX12_ahead_228 (by decide) (fun c_76 => ?_) (fun c_76 => ?_)
          · have h := h.1 c_76
            refine g_sub (lv' := []) [] rfl ?_
            exact kX12_ahead_b243 hC hR0 hR  h
          · have h := h.2 c_76
            refine g_iload_n (pc := 231) hC 0 dX12_ahead_231 rfl rfl ?_
            refine g_bipush (pc := 232) (v := 62) hC dX12_ahead_232 (by decide) ?_
            refine g_icmp_eq (pc := 234) (tgt := 243) hC dX12_ahead_234 (by decide) (fun c_77 => ?_) (fun c_77 => ?_)
            · have h := h.1 c_77
              refine g_sub (lv' := []) [] rfl ?_
              exact kX12_ahead_b243 hC hR0 hR  h
            · have h := h.2 c_77
              refine g_iload_n (pc := 237) hC 0 dX12_ahead_237 rfl rfl ?_
              refine g_bipush (pc := 238) (v := 61) hC dX12_ahead_238 (by decide) ?_
              refine g_icmp_ne (pc := 240) (tgt := 247) hC dX12_ahead_240 (by decide) (fun c_78 => ?_) (fun c_78 => ?_)
              · have h := h.1 c_78
                refine g_iconst (pc := 247) (v := 1) hC dX12_ahead_247 (by decide) ?_
                refine g_sub (lv' := []) [] rfl ?_
                exact kX12_ahead_b248 hC hR0 hR  h
              · have h := h.2 c_78
                refine g_sub (lv' := []) [] rfl ?_
                exact kX12_ahead_b243 hC hR0 hR  h
      · have h := h.2 c_73
        refine g_aload_n (pc := 123) hC 1 dX12_ahead_123 rfl rfl ?_
        refine g_iconst (pc := 124) (v := 0) hC dX12_ahead_124 (by decide) ?_
        refine putX12_15 (pc := 125) hC (F := fun Z => Z) (X := []) (fun _ => rfl) fl_X12_130 dX12_ahead_125 ?_
        refine g_st (w := fun z => (wX12 o0 a0 (xy C) z [])) (u := (si u_66 15 (0 : Int32))) (fun u_79 eu_79 => ?_)
        have h := h u_79 eu_79
        refine g_sub (lv' := [(0, .ref o0)]) [1] rfl ?_
        obtain ⟨n_80, h⟩ := h
        exact kX12_ahead_L128 hC hR0 hR  n_80 _ h
    · have h := h.2 c_70
      refine g_sub (lv' := [(0, .ref o0)]) [1] rfl ?_
      obtain ⟨n_81, h⟩ := h
      exact kX12_ahead_L81 hC hR0 hR  n_81 _ h
  · have h := h.2 c_67
    refine g_aload_n (pc := 66) hC 1 dX12_ahead_66 rfl rfl ?_
    refine g_iconst (pc := 67) (v := 0) hC dX12_ahead_67 (by decide) ?_
    refine putX12_12 (pc := 68) hC (F := fun Z => Z) (X := []) (fun _ => rfl) fl_X12_133 dX12_ahead_68 ?_
    refine g_st (w := fun z => (wX12 o0 a0 (xy C) z [])) (u := (si u_66 12 (0 : Int32))) (fun u_82 eu_82 => ?_)
    have h := h u_82 eu_82
    refine g_goto (pc := 71) (tgt := 251) hC dX12_ahead_71 (by decide) ?_
    refine g_sub (lv' := []) [] rfl ?_
    exact kX12_ahead_b251 hC hR0 hR  h
def qX12_ahead_l0  (post : St → Prop) (K0 : St → Prop) (u0 : St) : Prop := qX12_byteAt (gi u0 14) u0 (fun r_84 u_83 => ((r_84 = (32 : Int32) → qX12_ahead_b26 post K0 u_83) ∧ (¬ r_84 = (32 : Int32) → qX12_byteAt (gi u_83 14) u_83 (fun r_88 u_87 => ((¬ r_88 = (10 : Int32) → qX12_ahead_b39 post u_87) ∧ (r_88 = (10 : Int32) → qX12_ahead_b26 post K0 u_87))))))
set_option maxRecDepth 100000 in
set_option maxHeartbeats 4000000 in
theorem kX12_ahead_l0 {C : Cx} {o0 : Nat} {a0 : Nat → Nat} (hC : Fx C cX12_ahead 2 RX12) (hR0 : xR C = rm 2) {post : St → Prop} (hR : RV C cX12_ahead 2 (fun u : St => (wX12 o0 a0 (xy C) u [])) (fun u => post u))  {K0 : St → Prop} (hK0 : ∀ (u0 : St), K0 u0 → G C 0 0 2 (wX12 o0 a0 (xy C) u0 []) 0 [(0, .ref o0)] []) {u0 : St} (h : qX12_ahead_l0 post K0 u0) : G C 0 0 2 (wX12 o0 a0 (xy C) u0 []) 0 [(0, .ref o0)] [] := by
  refine g_aload_n (pc := 0) hC 0 dX12_ahead_0 rfl rfl ?_
  refine g_aload_n (pc := 1) hC 0 dX12_ahead_1 rfl rfl ?_
  refine getX12_14 (pc := 2) hC (F := fun Z => Z) (X := []) (fun _ => rfl) fl_X12_121 dX12_ahead_2 ?_
  refine g_callV_i (pc := 5) (wd := fun (u : St) Y => (wX12 o0 a0 (xy C) u Y)) (F := fun Z => Z) (X := []) (As := [.int (gi u0 14)]) (rest := []) (u := u0) hC (fun _ _ => rfl) (fun _ => rfl) (ctX12_byteAt h) wvX12_byteAt ml_X12_124 (ci := 10) (q0 := 0) rfl rfl rfl rfl (rmok hR0 rfl) ⟨Nat.zero_le _, Nat.zero_le _⟩ rfl (Nat.le_of_ble_eq_true rfl) dX12_ahead_5 (fun r_84 u_83 h => ?_)
  refine g_bipush (pc := 8) (v := 32) hC dX12_ahead_8 (by decide) ?_
  refine g_icmp_eq (pc := 10) (tgt := 26) hC dX12_ahead_10 (by decide) (fun c_86 => ?_) (fun c_86 => ?_)
  · have h := h.1 c_86
    exact kX12_ahead_b26 hC hR0 hR hK0 h
  · have h := h.2 c_86
    refine g_aload_n (pc := 13) hC 0 dX12_ahead_13 rfl rfl ?_
    refine g_aload_n (pc := 14) hC 0 dX12_ahead_14 rfl rfl ?_
    refine getX12_14 (pc := 15) hC (F := fun Z => Z) (X := []) (fun _ => rfl) fl_X12_121 dX12_ahead_15 ?_
    refine g_callV_i (pc := 18) (wd := fun (u : St) Y => (wX12 o0 a0 (xy C) u Y)) (F := fun Z => Z) (X := []) (As := [.int (gi u_83 14)]) (rest := []) (u := u_83) hC (fun _ _ => rfl) (fun _ => rfl) (ctX12_byteAt h) wvX12_byteAt ml_X12_124 (ci := 10) (q0 := 0) rfl rfl rfl rfl (rmok hR0 rfl) ⟨Nat.zero_le _, Nat.zero_le _⟩ rfl (Nat.le_of_ble_eq_true rfl) dX12_ahead_18 (fun r_88 u_87 h => ?_)
    refine g_bipush (pc := 21) (v := 10) hC dX12_ahead_21 (by decide) ?_
    refine g_icmp_ne (pc := 23) (tgt := 39) hC dX12_ahead_23 (by decide) (fun c_90 => ?_) (fun c_90 => ?_)
    · have h := h.1 c_90
      exact kX12_ahead_b39 hC hR0 hR  h
    · have h := h.2 c_90
      exact kX12_ahead_b26 hC hR0 hR hK0 h
def qX12_ahead_L0  (post : St → Prop)  : Nat → St → Prop
  | 0 => fun _ => False
  | n + 1 => qX12_ahead_l0 post (qX12_ahead_L0 post n)
theorem kX12_ahead_L0 {C : Cx} {o0 : Nat} {a0 : Nat → Nat} (hC : Fx C cX12_ahead 2 RX12) (hR0 : xR C = rm 2) {post : St → Prop} (hR : RV C cX12_ahead 2 (fun u : St => (wX12 o0 a0 (xy C) u [])) (fun u => post u))  : ∀ (n : Nat) (u0 : St), qX12_ahead_L0 post n u0 → G C 0 0 2 (wX12 o0 a0 (xy C) u0 []) 0 [(0, .ref o0)] [] := by
  intro n
  induction n with
  | zero => intro u0 h; exact h.elim
  | succ n ih => intro u0 h; exact kX12_ahead_l0 hC hR0 hR  ih h
def qX12_ahead  (u0 : St) (post : St → Prop) : Prop := ∃ n_91 : Nat, qX12_ahead_L0 post n_91 u0
set_option maxRecDepth 100000 in
set_option maxHeartbeats 4000000 in
theorem kX12_ahead {C : Cx} {o0 : Nat} {a0 : Nat → Nat} (hC : Fx C cX12_ahead 2 RX12) (hR0 : xR C = rm 2) {post : St → Prop} (hR : RV C cX12_ahead 2 (fun u : St => (wX12 o0 a0 (xy C) u [])) (fun u => post u))  {u0 : St} (h : qX12_ahead  u0 post) : G C 0 0 2 (wX12 o0 a0 (xy C) u0 []) 0 [(0, .ref o0)] [] := by
  obtain ⟨n_91, h⟩ := h
  exact kX12_ahead_L0 hC hR0 hR  n_91 _ h
theorem ctX12_ahead {l : Launch} {D : va_G} {cy : Nat → ClassId} {kd : Nat → Nat} {o0 : Nat} {a0 : Nat → Nat}  {u0 : St} {post : St → Prop} (h : qX12_ahead  u0 post) : CtV l D cy kd yX12_ahead cX12_ahead 2 2  [.ref o0] (fun u : St => (wX12 o0 a0 cy u [])) u0 (fun u => post u) := met_v (by decide) (Nat.le_of_ble_eq_true rfl) (fun C e1 e2 e3 e4 e5 hC hR => by subst e1 e2 e3 e4; exact kX12_ahead hC e5 hR h)
theorem dX12_isSign_0 : decode cX12_isSign 0 = .ok (.aload_n 0, 1) := by decide +kernel
theorem dX12_isSign_1 : decode cX12_isSign 1 = .ok (.getfield 133, 3) := by decide +kernel
theorem dX12_isSign_4 : decode cX12_isSign 4 = .ok (.iconst 4, 1) := by decide +kernel
theorem dX12_isSign_5 : decode cX12_isSign 5 = .ok (.if_icmp .ne 15, 3) := by decide +kernel
theorem dX12_isSign_8 : decode cX12_isSign 8 = .ok (.aload_n 0, 1) := by decide +kernel
theorem dX12_isSign_9 : decode cX12_isSign 9 = .ok (.getfield 130, 3) := by decide +kernel
theorem dX12_isSign_12 : decode cX12_isSign 12 = .ok (.iload_n 1, 1) := by decide +kernel
theorem dX12_isSign_13 : decode cX12_isSign 13 = .ok (.if_icmp .ne 7, 3) := by decide +kernel
theorem dX12_isSign_16 : decode cX12_isSign 16 = .ok (.iconst 1, 1) := by decide +kernel
theorem dX12_isSign_17 : decode cX12_isSign 17 = .ok (.goto 4, 3) := by decide +kernel
theorem dX12_isSign_20 : decode cX12_isSign 20 = .ok (.iconst 0, 1) := by decide +kernel
theorem dX12_isSign_21 : decode cX12_isSign 21 = .ok (.ireturn, 1) := by decide +kernel
def qX12_isSign_b21  (post : Int32 → St → Prop)  (s0 : Int32) (u0 : St) : Prop := (bz s0 ∧ post s0 u0)
set_option maxRecDepth 100000 in
set_option maxHeartbeats 4000000 in
theorem kX12_isSign_b21 {C : Cx} {o0 : Nat} {a0 : Nat → Nat} (hC : Fx C cX12_isSign 2 RX12) (hR0 : xR C = rm 1) {post : Int32 → St → Prop} (hR : RZ C cX12_isSign 2 (fun u : St => (wX12 o0 a0 (xy C) u [])) (fun r u => post r u))  {s0 : Int32} {u0 : St} (h : qX12_isSign_b21 post s0 u0) : G C 0 0 2 (wX12 o0 a0 (xy C) u0 []) 21 [] [.int s0] := by
  exact hR _ _ _ u0 dX12_isSign_21 h.1 h.2
def qX12_isSign_b20  (post : Int32 → St → Prop)  (u0 : St) : Prop := qX12_isSign_b21 post (0 : Int32) u0
set_option maxRecDepth 100000 in
set_option maxHeartbeats 4000000 in
theorem kX12_isSign_b20 {C : Cx} {o0 : Nat} {a0 : Nat → Nat} (hC : Fx C cX12_isSign 2 RX12) (hR0 : xR C = rm 1) {post : Int32 → St → Prop} (hR : RZ C cX12_isSign 2 (fun u : St => (wX12 o0 a0 (xy C) u [])) (fun r u => post r u))  {u0 : St} (h : qX12_isSign_b20 post u0) : G C 0 0 2 (wX12 o0 a0 (xy C) u0 []) 20 [] [] := by
  refine g_iconst (pc := 20) (v := 0) hC dX12_isSign_20 (by decide) ?_
  exact kX12_isSign_b21 hC hR0 hR  h
def qX12_isSign (x1 : Int32) (u0 : St) (post : Int32 → St → Prop) : Prop := ((¬ (gi u0 12) = (4 : Int32) → qX12_isSign_b20 post u0) ∧ ((gi u0 12) = (4 : Int32) → ((¬ (gi u0 15) = x1 → qX12_isSign_b20 post u0) ∧ ((gi u0 15) = x1 → qX12_isSign_b21 post (1 : Int32) u0))))
set_option maxRecDepth 100000 in
set_option maxHeartbeats 4000000 in
theorem kX12_isSign {C : Cx} {o0 : Nat} {a0 : Nat → Nat} (hC : Fx C cX12_isSign 2 RX12) (hR0 : xR C = rm 1) {post : Int32 → St → Prop} (hR : RZ C cX12_isSign 2 (fun u : St => (wX12 o0 a0 (xy C) u [])) (fun r u => post r u)) {x1 : Int32} {u0 : St} (h : qX12_isSign x1 u0 post) : G C 0 0 2 (wX12 o0 a0 (xy C) u0 []) 0 [(0, .ref o0), (1, .int x1)] [] := by
  refine g_aload_n (pc := 0) hC 0 dX12_isSign_0 rfl rfl ?_
  refine getX12_12 (pc := 1) hC (F := fun Z => Z) (X := []) (fun _ => rfl) fl_X12_133 dX12_isSign_1 ?_
  refine g_iconst (pc := 4) (v := 4) hC dX12_isSign_4 (by decide) ?_
  refine g_icmp_ne (pc := 5) (tgt := 20) hC dX12_isSign_5 (by decide) (fun c_1 => ?_) (fun c_1 => ?_)
  · have h := h.1 c_1
    refine g_sub (lv' := []) [] rfl ?_
    exact kX12_isSign_b20 hC hR0 hR  h
  · have h := h.2 c_1
    refine g_aload_n (pc := 8) hC 0 dX12_isSign_8 rfl rfl ?_
    refine getX12_15 (pc := 9) hC (F := fun Z => Z) (X := []) (fun _ => rfl) fl_X12_130 dX12_isSign_9 ?_
    refine g_iload_n (pc := 12) hC 1 dX12_isSign_12 rfl rfl ?_
    refine g_icmp_ne (pc := 13) (tgt := 20) hC dX12_isSign_13 (by decide) (fun c_2 => ?_) (fun c_2 => ?_)
    · have h := h.1 c_2
      refine g_sub (lv' := []) [] rfl ?_
      exact kX12_isSign_b20 hC hR0 hR  h
    · have h := h.2 c_2
      refine g_iconst (pc := 16) (v := 1) hC dX12_isSign_16 (by decide) ?_
      refine g_goto (pc := 17) (tgt := 21) hC dX12_isSign_17 (by decide) ?_
      refine g_sub (lv' := []) [] rfl ?_
      exact kX12_isSign_b21 hC hR0 hR  h
theorem ctX12_isSign {l : Launch} {D : va_G} {cy : Nat → ClassId} {kd : Nat → Nat} {o0 : Nat} {a0 : Nat → Nat} {x1 : Int32} {u0 : St} {post : Int32 → St → Prop} (h : qX12_isSign x1 u0 post) : CtI l D cy kd yX12_isSign cX12_isSign 2 1 .boolean [.ref o0, .int x1] (fun u : St => (wX12 o0 a0 cy u [])) u0 (fun r u => post r u) := met_z (by decide) (Nat.le_of_ble_eq_true rfl) (fun C e1 e2 e3 e4 e5 hC hR => by subst e1 e2 e3 e4; exact kX12_isSign hC e5 hR h)
theorem dX12_inWords_0 : decode cX12_inWords 0 = .ok (.aload_n 0, 1) := by decide +kernel
theorem dX12_inWords_1 : decode cX12_inWords 1 = .ok (.getfield 133, 3) := by decide +kernel
theorem dX12_inWords_4 : decode cX12_inWords 4 = .ok (.iconst 2, 1) := by decide +kernel
theorem dX12_inWords_5 : decode cX12_inWords 5 = .ok (.if_icmp .eq 5, 3) := by decide +kernel
theorem dX12_inWords_8 : decode cX12_inWords 8 = .ok (.iconst (-1), 1) := by decide +kernel
theorem dX12_inWords_9 : decode cX12_inWords 9 = .ok (.ireturn, 1) := by decide +kernel
theorem dX12_inWords_10 : decode cX12_inWords 10 = .ok (.iconst 0, 1) := by decide +kernel
theorem dX12_inWords_11 : decode cX12_inWords 11 = .ok (.istore_n 2, 1) := by decide +kernel
theorem dX12_inWords_12 : decode cX12_inWords 12 = .ok (.iconst 1, 1) := by decide +kernel
theorem dX12_inWords_13 : decode cX12_inWords 13 = .ok (.istore_n 3, 1) := by decide +kernel
theorem dX12_inWords_14 : decode cX12_inWords 14 = .ok (.iload_n 3, 1) := by decide +kernel
theorem dX12_inWords_15 : decode cX12_inWords 15 = .ok (.aload_n 1, 1) := by decide +kernel
theorem dX12_inWords_16 : decode cX12_inWords 16 = .ok (.invokevirtual 148, 3) := by decide +kernel
theorem dX12_inWords_19 : decode cX12_inWords 19 = .ok (.if_icmp .ge 114, 3) := by decide +kernel
theorem dX12_inWords_22 : decode cX12_inWords 22 = .ok (.iload_n 3, 1) := by decide +kernel
theorem dX12_inWords_23 : decode cX12_inWords 23 = .ok (.istore 4, 2) := by decide +kernel
theorem dX12_inWords_25 : decode cX12_inWords 25 = .ok (.aload_n 1, 1) := by decide +kernel
theorem dX12_inWords_26 : decode cX12_inWords 26 = .ok (.iload 4, 2) := by decide +kernel
theorem dX12_inWords_28 : decode cX12_inWords 28 = .ok (.invokevirtual 154, 3) := by decide +kernel
theorem dX12_inWords_31 : decode cX12_inWords 31 = .ok (.bipush 32, 2) := by decide +kernel
theorem dX12_inWords_33 : decode cX12_inWords 33 = .ok (.if_icmp .eq 9, 3) := by decide +kernel
theorem dX12_inWords_36 : decode cX12_inWords 36 = .ok (.iinc 4 1, 3) := by decide +kernel
theorem dX12_inWords_39 : decode cX12_inWords 39 = .ok (.goto (-14), 3) := by decide +kernel
theorem dX12_inWords_42 : decode cX12_inWords 42 = .ok (.iload 4, 2) := by decide +kernel
theorem dX12_inWords_44 : decode cX12_inWords 44 = .ok (.iload_n 3, 1) := by decide +kernel
theorem dX12_inWords_45 : decode cX12_inWords 45 = .ok (.isub, 1) := by decide +kernel
theorem dX12_inWords_46 : decode cX12_inWords 46 = .ok (.aload_n 0, 1) := by decide +kernel
theorem dX12_inWords_47 : decode cX12_inWords 47 = .ok (.getfield 121, 3) := by decide +kernel
theorem dX12_inWords_50 : decode cX12_inWords 50 = .ok (.aload_n 0, 1) := by decide +kernel
theorem dX12_inWords_51 : decode cX12_inWords 51 = .ok (.getfield 127, 3) := by decide +kernel
theorem dX12_inWords_54 : decode cX12_inWords 54 = .ok (.isub, 1) := by decide +kernel
theorem dX12_inWords_55 : decode cX12_inWords 55 = .ok (.if_icmp .ne 7, 3) := by decide +kernel
theorem dX12_inWords_58 : decode cX12_inWords 58 = .ok (.iconst 1, 1) := by decide +kernel
theorem dX12_inWords_59 : decode cX12_inWords 59 = .ok (.goto 4, 3) := by decide +kernel
theorem dX12_inWords_62 : decode cX12_inWords 62 = .ok (.iconst 0, 1) := by decide +kernel
theorem dX12_inWords_63 : decode cX12_inWords 63 = .ok (.istore 5, 2) := by decide +kernel
theorem dX12_inWords_65 : decode cX12_inWords 65 = .ok (.iload_n 3, 1) := by decide +kernel
theorem dX12_inWords_66 : decode cX12_inWords 66 = .ok (.istore 6, 2) := by decide +kernel
theorem dX12_inWords_68 : decode cX12_inWords 68 = .ok (.iload 6, 2) := by decide +kernel
theorem dX12_inWords_70 : decode cX12_inWords 70 = .ok (.iload 4, 2) := by decide +kernel
theorem dX12_inWords_72 : decode cX12_inWords 72 = .ok (.if_icmp .ge 43, 3) := by decide +kernel
theorem dX12_inWords_75 : decode cX12_inWords 75 = .ok (.iload 5, 2) := by decide +kernel
theorem dX12_inWords_77 : decode cX12_inWords 77 = .ok (.ifCond .eq 38, 3) := by decide +kernel
theorem dX12_inWords_80 : decode cX12_inWords 80 = .ok (.aload_n 1, 1) := by decide +kernel
theorem dX12_inWords_81 : decode cX12_inWords 81 = .ok (.iload 6, 2) := by decide +kernel
theorem dX12_inWords_83 : decode cX12_inWords 83 = .ok (.invokevirtual 154, 3) := by decide +kernel
theorem dX12_inWords_86 : decode cX12_inWords 86 = .ok (.aload_n 0, 1) := by decide +kernel
theorem dX12_inWords_87 : decode cX12_inWords 87 = .ok (.aload_n 0, 1) := by decide +kernel
theorem dX12_inWords_88 : decode cX12_inWords 88 = .ok (.getfield 127, 3) := by decide +kernel
theorem dX12_inWords_91 : decode cX12_inWords 91 = .ok (.iload 6, 2) := by decide +kernel
theorem dX12_inWords_93 : decode cX12_inWords 93 = .ok (.iadd, 1) := by decide +kernel
theorem dX12_inWords_94 : decode cX12_inWords 94 = .ok (.iload_n 3, 1) := by decide +kernel
theorem dX12_inWords_95 : decode cX12_inWords 95 = .ok (.isub, 1) := by decide +kernel
theorem dX12_inWords_96 : decode cX12_inWords 96 = .ok (.invokevirtual 124, 3) := by decide +kernel
theorem dX12_inWords_99 : decode cX12_inWords 99 = .ok (.if_icmp .ne 7, 3) := by decide +kernel
theorem dX12_inWords_102 : decode cX12_inWords 102 = .ok (.iconst 1, 1) := by decide +kernel
theorem dX12_inWords_103 : decode cX12_inWords 103 = .ok (.goto 4, 3) := by decide +kernel
theorem dX12_inWords_106 : decode cX12_inWords 106 = .ok (.iconst 0, 1) := by decide +kernel
theorem dX12_inWords_107 : decode cX12_inWords 107 = .ok (.istore 5, 2) := by decide +kernel
theorem dX12_inWords_109 : decode cX12_inWords 109 = .ok (.iinc 6 1, 3) := by decide +kernel
theorem dX12_inWords_112 : decode cX12_inWords 112 = .ok (.goto (-44), 3) := by decide +kernel
theorem dX12_inWords_115 : decode cX12_inWords 115 = .ok (.iload 5, 2) := by decide +kernel
theorem dX12_inWords_117 : decode cX12_inWords 117 = .ok (.ifCond .eq 5, 3) := by decide +kernel
theorem dX12_inWords_120 : decode cX12_inWords 120 = .ok (.iload_n 2, 1) := by decide +kernel
theorem dX12_inWords_121 : decode cX12_inWords 121 = .ok (.ireturn, 1) := by decide +kernel
theorem dX12_inWords_122 : decode cX12_inWords 122 = .ok (.iinc 2 1, 3) := by decide +kernel
theorem dX12_inWords_125 : decode cX12_inWords 125 = .ok (.iload 4, 2) := by decide +kernel
theorem dX12_inWords_127 : decode cX12_inWords 127 = .ok (.iconst 1, 1) := by decide +kernel
theorem dX12_inWords_128 : decode cX12_inWords 128 = .ok (.iadd, 1) := by decide +kernel
theorem dX12_inWords_129 : decode cX12_inWords 129 = .ok (.istore_n 3, 1) := by decide +kernel
theorem dX12_inWords_130 : decode cX12_inWords 130 = .ok (.goto (-116), 3) := by decide +kernel
theorem dX12_inWords_133 : decode cX12_inWords 133 = .ok (.iconst (-1), 1) := by decide +kernel
theorem dX12_inWords_134 : decode cX12_inWords 134 = .ok (.ireturn, 1) := by decide +kernel
def qX12_inWords_b107  (post : Int32 → St → Prop) (K14 : Int32 → Int32 → St → Prop) (K68 : Int32 → Int32 → Int32 → Int32 → Int32 → St → Prop) (x2 : Int32) (x3 : Int32) (x4 : Int32) (x6 : Int32) (s0 : Int32) (u0 : St) : Prop := ∀ x6_13 : Int32, x6_13 = x6 + (1 : Int32) → K68 x2 x3 x4 s0 x6_13 u0
set_option maxRecDepth 100000 in
set_option maxHeartbeats 4000000 in
theorem kX12_inWords_b107 {C : Cx} {o0 : Nat} {a0 : Nat → Nat} (hC : Fx C cX12_inWords 7 RX12) (hR0 : xR C = rm 7) {post : Int32 → St → Prop} (hR : RI C cX12_inWords 7 (fun u : St => (wX12 o0 a0 (xy C) u [])) (fun r u => post r u)) {K14 : Int32 → Int32 → St → Prop} (hK14 : ∀ (x2 : Int32) (x3 : Int32) (u0 : St), K14 x2 x3 u0 → G C 0 0 7 (wX12 o0 a0 (xy C) u0 []) 14 [(0, .ref o0), (1, .ref (xk C 26)), (2, .int x2), (3, .int x3)] []) {K68 : Int32 → Int32 → Int32 → Int32 → Int32 → St → Prop} (hK68 : ∀ (x2 : Int32) (x3 : Int32) (x4 : Int32) (x5 : Int32) (x6 : Int32) (u0 : St), K68 x2 x3 x4 x5 x6 u0 → G C 0 0 7 (wX12 o0 a0 (xy C) u0 []) 68 [(0, .ref o0), (1, .ref (xk C 26)), (2, .int x2), (3, .int x3), (4, .int x4), (5, .int x5), (6, .int x6)] []) {x2 : Int32} {x3 : Int32} {x4 : Int32} {x6 : Int32} {s0 : Int32} {u0 : St} (h : qX12_inWords_b107 post K14 K68 x2 x3 x4 x6 s0 u0) : G C 0 0 7 (wX12 o0 a0 (xy C) u0 []) 107 [(0, .ref o0), (1, .ref (xk C 26)), (2, .int x2), (3, .int x3), (4, .int x4), (6, .int x6)] [.int s0] := by
  refine g_istore (pc := 107) (lv' := [(5, .int s0), (0, .ref o0), (1, .ref (xk C 26)), (2, .int x2), (3, .int x3), (4, .int x4), (6, .int x6)]) hC dX12_inWords_107 (Nat.le_of_ble_eq_true rfl) rfl ?_
  obtain ⟨x6_13, ex6_13⟩ : ∃ z : Int32, z = x6 + (1 : Int32) := ⟨_, rfl⟩
  have h := h x6_13 ex6_13
  refine g_iinc (pc := 109) (v := x6_13) (lv' := [(6, .int x6_13), (5, .int s0), (0, .ref o0), (1, .ref (xk C 26)), (2, .int x2), (3, .int x3), (4, .int x4)]) hC 6 dX12_inWords_109 rfl (by rw [ex6_13]; rfl) (Nat.le_of_ble_eq_true rfl) rfl ?_
  refine g_goto (pc := 112) (tgt := 68) hC dX12_inWords_112 (by decide) ?_
  refine g_sub (lv' := [(0, .ref o0), (1, .ref (xk C 26)), (2, .int x2), (3, .int x3), (4, .int x4), (5, .int s0), (6, .int x6_13)]) [2, 3, 4, 5, 6, 1, 0] rfl ?_
  exact hK68 _ _ _ _ _ _ h
def qX12_inWords_b115  (post : Int32 → St → Prop) (K14 : Int32 → Int32 → St → Prop) (x2 : Int32) (x4 : Int32) (x5 : Int32) (u0 : St) : Prop := ((x5 = 0 → ∀ x2_15 : Int32, x2_15 = x2 + (1 : Int32) → ∀ x3_16 : Int32, x3_16 = (x4 + (1 : Int32)) → K14 x2_15 x3_16 u0) ∧ (¬ x5 = 0 → post x2 u0))
set_option maxRecDepth 100000 in
set_option maxHeartbeats 4000000 in
theorem kX12_inWords_b115 {C : Cx} {o0 : Nat} {a0 : Nat → Nat} (hC : Fx C cX12_inWords 7 RX12) (hR0 : xR C = rm 7) {post : Int32 → St → Prop} (hR : RI C cX12_inWords 7 (fun u : St => (wX12 o0 a0 (xy C) u [])) (fun r u => post r u)) {K14 : Int32 → Int32 → St → Prop} (hK14 : ∀ (x2 : Int32) (x3 : Int32) (u0 : St), K14 x2 x3 u0 → G C 0 0 7 (wX12 o0 a0 (xy C) u0 []) 14 [(0, .ref o0), (1, .ref (xk C 26)), (2, .int x2), (3, .int x3)] []) {x2 : Int32} {x4 : Int32} {x5 : Int32} {u0 : St} (h : qX12_inWords_b115 post K14 x2 x4 x5 u0) : G C 0 0 7 (wX12 o0 a0 (xy C) u0 []) 115 [(0, .ref o0), (1, .ref (xk C 26)), (2, .int x2), (4, .int x4), (5, .int x5)] [] := by
  refine g_iload (pc := 115) hC 4 dX12_inWords_115 rfl ?_
  refine g_if_eq (pc := 117) (tgt := 122) hC dX12_inWords_117 (by decide) (fun c_14 => ?_) (fun c_14 => ?_)
  · have h := h.1 c_14
    obtain ⟨x2_15, ex2_15⟩ : ∃ z : Int32, z = x2 + (1 : Int32) := ⟨_, rfl⟩
    have h := h x2_15 ex2_15
    refine g_iinc (pc := 122) (v := x2_15) (lv' := [(2, .int x2_15), (0, .ref o0), (1, .ref (xk C 26)), (4, .int x4), (5, .int x5)]) hC 2 dX12_inWords_122 rfl (by rw [ex2_15]; rfl) (Nat.le_of_ble_eq_true rfl) rfl ?_
    refine g_iload (pc := 125) hC 3 dX12_inWords_125 rfl ?_
    refine g_iconst (pc := 127) (v := 1) hC dX12_inWords_127 (by decide) ?_
    refine g_iadd (pc := 128) hC dX12_inWords_128 ?_
    refine g_topi (fun x3_16 ex3_16 => ?_)
    have h := h x3_16 ex3_16
    refine g_istore_n (pc := 129) (lv' := [(3, .int x3_16), (2, .int x2_15), (0, .ref o0), (1, .ref (xk C 26)), (4, .int x4), (5, .int x5)]) hC dX12_inWords_129 rfl (Nat.le_of_ble_eq_true rfl) rfl ?_
    refine g_goto (pc := 130) (tgt := 14) hC dX12_inWords_130 (by decide) ?_
    refine g_sub (lv' := [(0, .ref o0), (1, .ref (xk C 26)), (2, .int x2_15), (3, .int x3_16)]) [2, 3, 1, 0] rfl ?_
    exact hK14 _ _ _ h
  · have h := h.2 c_14
    refine g_iload_n (pc := 120) hC 2 dX12_inWords_120 rfl rfl ?_
    exact hR _ _ _ u0 dX12_inWords_121 h
def qX12_inWords_l68  (post : Int32 → St → Prop) (K14 : Int32 → Int32 → St → Prop) (K68 : Int32 → Int32 → Int32 → Int32 → Int32 → St → Prop) (x2 : Int32) (x3 : Int32) (x4 : Int32) (x5 : Int32) (x6 : Int32) (u0 : St) : Prop := ((x4 ≤ x6 → qX12_inWords_b115 post K14 x2 x4 x5 u0) ∧ (¬ x4 ≤ x6 → ((x5 = 0 → qX12_inWords_b115 post K14 x2 x4 x5 u0) ∧ (¬ x5 = 0 → qJ0_charAt_5068e x6 (fun r_19 => qX12_byteAt (((gi u0 13) + x6) - x3) u0 (fun r_22 u_21 => ((¬ r_19 = r_22 → qX12_inWords_b107 post K14 K68 x2 x3 x4 x6 (0 : Int32) u_21) ∧ (r_19 = r_22 → qX12_inWords_b107 post K14 K68 x2 x3 x4 x6 (1 : Int32) u_21))))))))
set_option maxRecDepth 100000 in
set_option maxHeartbeats 4000000 in
theorem kX12_inWords_l68 {C : Cx} {o0 : Nat} {a0 : Nat → Nat} (hC : Fx C cX12_inWords 7 RX12) (hR0 : xR C = rm 7) {post : Int32 → St → Prop} (hR : RI C cX12_inWords 7 (fun u : St => (wX12 o0 a0 (xy C) u [])) (fun r u => post r u)) {K14 : Int32 → Int32 → St → Prop} (hK14 : ∀ (x2 : Int32) (x3 : Int32) (u0 : St), K14 x2 x3 u0 → G C 0 0 7 (wX12 o0 a0 (xy C) u0 []) 14 [(0, .ref o0), (1, .ref (xk C 26)), (2, .int x2), (3, .int x3)] []) {K68 : Int32 → Int32 → Int32 → Int32 → Int32 → St → Prop} (hK68 : ∀ (x2 : Int32) (x3 : Int32) (x4 : Int32) (x5 : Int32) (x6 : Int32) (u0 : St), K68 x2 x3 x4 x5 x6 u0 → G C 0 0 7 (wX12 o0 a0 (xy C) u0 []) 68 [(0, .ref o0), (1, .ref (xk C 26)), (2, .int x2), (3, .int x3), (4, .int x4), (5, .int x5), (6, .int x6)] []) {x2 : Int32} {x3 : Int32} {x4 : Int32} {x5 : Int32} {x6 : Int32} {u0 : St} (h : qX12_inWords_l68 post K14 K68 x2 x3 x4 x5 x6 u0) : G C 0 0 7 (wX12 o0 a0 (xy C) u0 []) 68 [(0, .ref o0), (1, .ref (xk C 26)), (2, .int x2), (3, .int x3), (4, .int x4), (5, .int x5), (6, .int x6)] [] := by
  refine g_iload (pc := 68) hC 6 dX12_inWords_68 rfl ?_
  refine g_iload (pc := 70) hC 4 dX12_inWords_70 rfl ?_
  refine g_icmp_ge (pc := 72) (tgt := 115) hC dX12_inWords_72 (by decide) (fun c_17 => ?_) (fun c_17 => ?_)
  · have h := h.1 c_17
    refine g_sub (lv' := [(0, .ref o0), (1, .ref (xk C 26)), (2, .int x2), (4, .int x4), (5, .int x5)]) [0, 1, 2, 4, 5] rfl ?_
    exact kX12_inWords_b115 hC hR0 hR hK14 h
  · have h := h.2 c_17
    refine g_iload (pc := 75) hC 5 dX12_inWords_75 rfl ?_
    refine g_if_eq (pc := 77) (tgt := 115) hC dX12_inWords_77 (by decide) (fun c_18 => ?_) (fun c_18 => ?_)
    · have h := h.1 c_18
      refine g_sub (lv' := [(0, .ref o0), (1, .ref (xk C 26)), (2, .int x2), (4, .int x4), (5, .int x5)]) [0, 1, 2, 4, 5] rfl ?_
      exact kX12_inWords_b115 hC hR0 hR hK14 h
    · have h := h.2 c_18
      refine g_aload_n (pc := 80) hC 1 dX12_inWords_80 rfl rfl ?_
      refine g_iload (pc := 81) hC 6 dX12_inWords_81 rfl ?_
      refine g_callT_i (pc := 83) (wd := fun (_ : Unit) Y => Y) (F := fun Z => Z) (X := []) (As := [.int x6]) (rest := []) (u := ()) hC (fun _ _ => rfl) (fun _ => rfl) (ctJ0_charAt_5068e h) wvJ0_charAt_5068e ml_X12_154 rfl rfl (rmok hR0 rfl) ⟨Nat.zero_le _, Nat.zero_le _⟩ rfl (Nat.le_of_ble_eq_true rfl) dX12_inWords_83 (fun r_19 u_20 h => ?_)
      refine g_aload_n (pc := 86) hC 0 dX12_inWords_86 rfl rfl ?_
      refine g_aload_n (pc := 87) hC 0 dX12_inWords_87 rfl rfl ?_
      refine getX12_13 (pc := 88) hC (F := fun Z => Z) (X := []) (fun _ => rfl) fl_X12_127 dX12_inWords_88 ?_
      refine g_iload (pc := 91) hC 6 dX12_inWords_91 rfl ?_
      refine g_iadd (pc := 93) hC dX12_inWords_93 ?_
      refine g_iload_n (pc := 94) hC 3 dX12_inWords_94 rfl rfl ?_
      refine g_isub (pc := 95) hC dX12_inWords_95 ?_
      refine g_callV_i (pc := 96) (wd := fun (u : St) Y => (wX12 o0 a0 (xy C) u Y)) (F := fun Z => Z) (X := []) (As := [.int (((gi u0 13) + x6) - x3)]) (rest := [.int r_19]) (u := u0) hC (fun _ _ => rfl) (fun _ => rfl) (ctX12_byteAt h) wvX12_byteAt ml_X12_124 (ci := 10) (q0 := 0) rfl rfl rfl rfl (rmok hR0 rfl) ⟨Nat.zero_le _, Nat.zero_le _⟩ rfl (Nat.le_of_ble_eq_true rfl) dX12_inWords_96 (fun r_22 u_21 h => ?_)
      refine g_icmp_ne (pc := 99) (tgt := 106) hC dX12_inWords_99 (by decide) (fun c_24 => ?_) (fun c_24 => ?_)
      · have h := h.1 c_24
        refine g_iconst (pc := 106) (v := 0) hC dX12_inWords_106 (by decide) ?_
        refine g_sub (lv' := [(0, .ref o0), (1, .ref (xk C 26)), (2, .int x2), (3, .int x3), (4, .int x4), (6, .int x6)]) [0, 1, 2, 3, 4, 6] rfl ?_
        exact kX12_inWords_b107 hC hR0 hR hK14 hK68 h
      · have h := h.2 c_24
        refine g_iconst (pc := 102) (v := 1) hC dX12_inWords_102 (by decide) ?_
        refine g_goto (pc := 103) (tgt := 107) hC dX12_inWords_103 (by decide) ?_
        refine g_sub (lv' := [(0, .ref o0), (1, .ref (xk C 26)), (2, .int x2), (3, .int x3), (4, .int x4), (6, .int x6)]) [0, 1, 2, 3, 4, 6] rfl ?_
        exact kX12_inWords_b107 hC hR0 hR hK14 hK68 h
def qX12_inWords_L68  (post : Int32 → St → Prop) (K14 : Int32 → Int32 → St → Prop) : Nat → Int32 → Int32 → Int32 → Int32 → Int32 → St → Prop
  | 0 => fun _ _ _ _ _ _ => False
  | n + 1 => qX12_inWords_l68 post K14 (qX12_inWords_L68 post K14 n)
theorem kX12_inWords_L68 {C : Cx} {o0 : Nat} {a0 : Nat → Nat} (hC : Fx C cX12_inWords 7 RX12) (hR0 : xR C = rm 7) {post : Int32 → St → Prop} (hR : RI C cX12_inWords 7 (fun u : St => (wX12 o0 a0 (xy C) u [])) (fun r u => post r u)) {K14 : Int32 → Int32 → St → Prop} (hK14 : ∀ (x2 : Int32) (x3 : Int32) (u0 : St), K14 x2 x3 u0 → G C 0 0 7 (wX12 o0 a0 (xy C) u0 []) 14 [(0, .ref o0), (1, .ref (xk C 26)), (2, .int x2), (3, .int x3)] []) : ∀ (n : Nat) (x2 : Int32) (x3 : Int32) (x4 : Int32) (x5 : Int32) (x6 : Int32) (u0 : St), qX12_inWords_L68 post K14 n x2 x3 x4 x5 x6 u0 → G C 0 0 7 (wX12 o0 a0 (xy C) u0 []) 68 [(0, .ref o0), (1, .ref (xk C 26)), (2, .int x2), (3, .int x3), (4, .int x4), (5, .int x5), (6, .int x6)] [] := by
  intro n
  induction n with
  | zero => intro x2 x3 x4 x5 x6 u0 h; exact h.elim
  | succ n ih => intro x2 x3 x4 x5 x6 u0 h; exact kX12_inWords_l68 hC hR0 hR hK14 ih h
def qX12_inWords_b63  (post : Int32 → St → Prop) (K14 : Int32 → Int32 → St → Prop) (x2 : Int32) (x3 : Int32) (x4 : Int32) (s0 : Int32) (u0 : St) : Prop := ∃ n_25 : Nat, qX12_inWords_L68 post K14 n_25 x2 x3 x4 s0 x3 u0
set_option maxRecDepth 100000 in
set_option maxHeartbeats 4000000 in
theorem kX12_inWords_b63 {C : Cx} {o0 : Nat} {a0 : Nat → Nat} (hC : Fx C cX12_inWords 7 RX12) (hR0 : xR C = rm 7) {post : Int32 → St → Prop} (hR : RI C cX12_inWords 7 (fun u : St => (wX12 o0 a0 (xy C) u [])) (fun r u => post r u)) {K14 : Int32 → Int32 → St → Prop} (hK14 : ∀ (x2 : Int32) (x3 : Int32) (u0 : St), K14 x2 x3 u0 → G C 0 0 7 (wX12 o0 a0 (xy C) u0 []) 14 [(0, .ref o0), (1, .ref (xk C 26)), (2, .int x2), (3, .int x3)] []) {x2 : Int32} {x3 : Int32} {x4 : Int32} {s0 : Int32} {u0 : St} (h : qX12_inWords_b63 post K14 x2 x3 x4 s0 u0) : G C 0 0 7 (wX12 o0 a0 (xy C) u0 []) 63 [(0, .ref o0), (1, .ref (xk C 26)), (2, .int x2), (3, .int x3), (4, .int x4)] [.int s0] := by
  refine g_istore (pc := 63) (lv' := [(5, .int s0), (0, .ref o0), (1, .ref (xk C 26)), (2, .int x2), (3, .int x3), (4, .int x4)]) hC dX12_inWords_63 (Nat.le_of_ble_eq_true rfl) rfl ?_
  refine g_iload_n (pc := 65) hC 4 dX12_inWords_65 rfl rfl ?_
  refine g_istore (pc := 66) (lv' := [(6, .int x3), (5, .int s0), (0, .ref o0), (1, .ref (xk C 26)), (2, .int x2), (3, .int x3), (4, .int x4)]) hC dX12_inWords_66 (Nat.le_of_ble_eq_true rfl) rfl ?_
  refine g_sub (lv' := [(0, .ref o0), (1, .ref (xk C 26)), (2, .int x2), (3, .int x3), (4, .int x4), (5, .int s0), (6, .int x3)]) [2, 3, 4, 5, 6, 1, 0] rfl ?_
  obtain ⟨n_25, h⟩ := h
  exact kX12_inWords_L68 hC hR0 hR hK14 n_25 _ _ _ _ _ _ h
def qX12_inWords_b42  (post : Int32 → St → Prop) (K14 : Int32 → Int32 → St → Prop) (x2 : Int32) (x3 : Int32) (x4 : Int32) (u0 : St) : Prop := ((¬ (x4 - x3) = ((gi u0 14) - (gi u0 13)) → qX12_inWords_b63 post K14 x2 x3 x4 (0 : Int32) u0) ∧ ((x4 - x3) = ((gi u0 14) - (gi u0 13)) → qX12_inWords_b63 post K14 x2 x3 x4 (1 : Int32) u0))
set_option maxRecDepth 100000 in
set_option maxHeartbeats 4000000 in
theorem kX12_inWords_b42 {C : Cx} {o0 : Nat} {a0 : Nat → Nat} (hC : Fx C cX12_inWords 7 RX12) (hR0 : xR C = rm 7) {post : Int32 → St → Prop} (hR : RI C cX12_inWords 7 (fun u : St => (wX12 o0 a0 (xy C) u [])) (fun r u => post r u)) {K14 : Int32 → Int32 → St → Prop} (hK14 : ∀ (x2 : Int32) (x3 : Int32) (u0 : St), K14 x2 x3 u0 → G C 0 0 7 (wX12 o0 a0 (xy C) u0 []) 14 [(0, .ref o0), (1, .ref (xk C 26)), (2, .int x2), (3, .int x3)] []) {x2 : Int32} {x3 : Int32} {x4 : Int32} {u0 : St} (h : qX12_inWords_b42 post K14 x2 x3 x4 u0) : G C 0 0 7 (wX12 o0 a0 (xy C) u0 []) 42 [(0, .ref o0), (1, .ref (xk C 26)), (2, .int x2), (3, .int x3), (4, .int x4)] [] := by
  refine g_iload (pc := 42) hC 4 dX12_inWords_42 rfl ?_
  refine g_iload_n (pc := 44) hC 3 dX12_inWords_44 rfl rfl ?_
  refine g_isub (pc := 45) hC dX12_inWords_45 ?_
  refine g_aload_n (pc := 46) hC 0 dX12_inWords_46 rfl rfl ?_
  refine getX12_14 (pc := 47) hC (F := fun Z => Z) (X := []) (fun _ => rfl) fl_X12_121 dX12_inWords_47 ?_
  refine g_aload_n (pc := 50) hC 0 dX12_inWords_50 rfl rfl ?_
  refine getX12_13 (pc := 51) hC (F := fun Z => Z) (X := []) (fun _ => rfl) fl_X12_127 dX12_inWords_51 ?_
  refine g_isub (pc := 54) hC dX12_inWords_54 ?_
  refine g_icmp_ne (pc := 55) (tgt := 62) hC dX12_inWords_55 (by decide) (fun c_26 => ?_) (fun c_26 => ?_)
  · have h := h.1 c_26
    refine g_iconst (pc := 62) (v := 0) hC dX12_inWords_62 (by decide) ?_
    exact kX12_inWords_b63 hC hR0 hR hK14 h
  · have h := h.2 c_26
    refine g_iconst (pc := 58) (v := 1) hC dX12_inWords_58 (by decide) ?_
    refine g_goto (pc := 59) (tgt := 63) hC dX12_inWords_59 (by decide) ?_
    exact kX12_inWords_b63 hC hR0 hR hK14 h
def qX12_inWords_l25  (post : Int32 → St → Prop) (K14 : Int32 → Int32 → St → Prop) (K25 : Int32 → Int32 → Int32 → St → Prop) (x2 : Int32) (x3 : Int32) (x4 : Int32) (u0 : St) : Prop := qJ0_charAt_5068e x4 (fun r_27 => ((r_27 = (32 : Int32) → qX12_inWords_b42 post K14 x2 x3 x4 u0) ∧ (¬ r_27 = (32 : Int32) → ∀ x4_30 : Int32, x4_30 = x4 + (1 : Int32) → K25 x2 x3 x4_30 u0)))
set_option maxRecDepth 100000 in
set_option maxHeartbeats 4000000 in
theorem kX12_inWords_l25 {C : Cx} {o0 : Nat} {a0 : Nat → Nat} (hC : Fx C cX12_inWords 7 RX12) (hR0 : xR C = rm 7) {post : Int32 → St → Prop} (hR : RI C cX12_inWords 7 (fun u : St => (wX12 o0 a0 (xy C) u [])) (fun r u => post r u)) {K14 : Int32 → Int32 → St → Prop} (hK14 : ∀ (x2 : Int32) (x3 : Int32) (u0 : St), K14 x2 x3 u0 → G C 0 0 7 (wX12 o0 a0 (xy C) u0 []) 14 [(0, .ref o0), (1, .ref (xk C 26)), (2, .int x2), (3, .int x3)] []) {K25 : Int32 → Int32 → Int32 → St → Prop} (hK25 : ∀ (x2 : Int32) (x3 : Int32) (x4 : Int32) (u0 : St), K25 x2 x3 x4 u0 → G C 0 0 7 (wX12 o0 a0 (xy C) u0 []) 25 [(0, .ref o0), (1, .ref (xk C 26)), (2, .int x2), (3, .int x3), (4, .int x4)] []) {x2 : Int32} {x3 : Int32} {x4 : Int32} {u0 : St} (h : qX12_inWords_l25 post K14 K25 x2 x3 x4 u0) : G C 0 0 7 (wX12 o0 a0 (xy C) u0 []) 25 [(0, .ref o0), (1, .ref (xk C 26)), (2, .int x2), (3, .int x3), (4, .int x4)] [] := by
  refine g_aload_n (pc := 25) hC 1 dX12_inWords_25 rfl rfl ?_
  refine g_iload (pc := 26) hC 4 dX12_inWords_26 rfl ?_
  refine g_callT_i (pc := 28) (wd := fun (_ : Unit) Y => Y) (F := fun Z => Z) (X := []) (As := [.int x4]) (rest := []) (u := ()) hC (fun _ _ => rfl) (fun _ => rfl) (ctJ0_charAt_5068e h) wvJ0_charAt_5068e ml_X12_154 rfl rfl (rmok hR0 rfl) ⟨Nat.zero_le _, Nat.zero_le _⟩ rfl (Nat.le_of_ble_eq_true rfl) dX12_inWords_28 (fun r_27 u_28 h => ?_)
  refine g_bipush (pc := 31) (v := 32) hC dX12_inWords_31 (by decide) ?_
  refine g_icmp_eq (pc := 33) (tgt := 42) hC dX12_inWords_33 (by decide) (fun c_29 => ?_) (fun c_29 => ?_)
  · have h := h.1 c_29
    exact kX12_inWords_b42 hC hR0 hR hK14 h
  · have h := h.2 c_29
    obtain ⟨x4_30, ex4_30⟩ : ∃ z : Int32, z = x4 + (1 : Int32) := ⟨_, rfl⟩
    have h := h x4_30 ex4_30
    refine g_iinc (pc := 36) (v := x4_30) (lv' := [(4, .int x4_30), (0, .ref o0), (1, .ref (xk C 26)), (2, .int x2), (3, .int x3)]) hC 4 dX12_inWords_36 rfl (by rw [ex4_30]; rfl) (Nat.le_of_ble_eq_true rfl) rfl ?_
    refine g_goto (pc := 39) (tgt := 25) hC dX12_inWords_39 (by decide) ?_
    refine g_sub (lv' := [(0, .ref o0), (1, .ref (xk C 26)), (2, .int x2), (3, .int x3), (4, .int x4_30)]) [1, 2, 3, 4, 0] rfl ?_
    exact hK25 _ _ _ _ h
def qX12_inWords_L25  (post : Int32 → St → Prop) (K14 : Int32 → Int32 → St → Prop) : Nat → Int32 → Int32 → Int32 → St → Prop
  | 0 => fun _ _ _ _ => False
  | n + 1 => qX12_inWords_l25 post K14 (qX12_inWords_L25 post K14 n)
theorem kX12_inWords_L25 {C : Cx} {o0 : Nat} {a0 : Nat → Nat} (hC : Fx C cX12_inWords 7 RX12) (hR0 : xR C = rm 7) {post : Int32 → St → Prop} (hR : RI C cX12_inWords 7 (fun u : St => (wX12 o0 a0 (xy C) u [])) (fun r u => post r u)) {K14 : Int32 → Int32 → St → Prop} (hK14 : ∀ (x2 : Int32) (x3 : Int32) (u0 : St), K14 x2 x3 u0 → G C 0 0 7 (wX12 o0 a0 (xy C) u0 []) 14 [(0, .ref o0), (1, .ref (xk C 26)), (2, .int x2), (3, .int x3)] []) : ∀ (n : Nat) (x2 : Int32) (x3 : Int32) (x4 : Int32) (u0 : St), qX12_inWords_L25 post K14 n x2 x3 x4 u0 → G C 0 0 7 (wX12 o0 a0 (xy C) u0 []) 25 [(0, .ref o0), (1, .ref (xk C 26)), (2, .int x2), (3, .int x3), (4, .int x4)] [] := by
  intro n
  induction n with
  | zero => intro x2 x3 x4 u0 h; exact h.elim
  | succ n ih => intro x2 x3 x4 u0 h; exact kX12_inWords_l25 hC hR0 hR hK14 ih h
def qX12_inWords_l14  (post : Int32 → St → Prop) (K14 : Int32 → Int32 → St → Prop) (x2 : Int32) (x3 : Int32) (u0 : St) : Prop := qJ0_length_8abf5  (fun r_31 => ((r_31 ≤ x3 → post (-1 : Int32) u0) ∧ (¬ r_31 ≤ x3 → ∃ n_34 : Nat, qX12_inWords_L25 post K14 n_34 x2 x3 x3 u0)))
set_option maxRecDepth 100000 in
set_option maxHeartbeats 4000000 in
theorem kX12_inWords_l14 {C : Cx} {o0 : Nat} {a0 : Nat → Nat} (hC : Fx C cX12_inWords 7 RX12) (hR0 : xR C = rm 7) {post : Int32 → St → Prop} (hR : RI C cX12_inWords 7 (fun u : St => (wX12 o0 a0 (xy C) u [])) (fun r u => post r u))  {K14 : Int32 → Int32 → St → Prop} (hK14 : ∀ (x2 : Int32) (x3 : Int32) (u0 : St), K14 x2 x3 u0 → G C 0 0 7 (wX12 o0 a0 (xy C) u0 []) 14 [(0, .ref o0), (1, .ref (xk C 26)), (2, .int x2), (3, .int x3)] []) {x2 : Int32} {x3 : Int32} {u0 : St} (h : qX12_inWords_l14 post K14 x2 x3 u0) : G C 0 0 7 (wX12 o0 a0 (xy C) u0 []) 14 [(0, .ref o0), (1, .ref (xk C 26)), (2, .int x2), (3, .int x3)] [] := by
  refine g_iload_n (pc := 14) hC 3 dX12_inWords_14 rfl rfl ?_
  refine g_aload_n (pc := 15) hC 1 dX12_inWords_15 rfl rfl ?_
  refine g_callT_i (pc := 16) (wd := fun (_ : Unit) Y => Y) (F := fun Z => Z) (X := []) (As := []) (rest := [.int x3]) (u := ()) hC (fun _ _ => rfl) (fun _ => rfl) (ctJ0_length_8abf5 h) wvJ0_length_8abf5 ml_X12_148 rfl rfl (rmok hR0 rfl) ⟨Nat.zero_le _, Nat.zero_le _⟩ rfl (Nat.le_of_ble_eq_true rfl) dX12_inWords_16 (fun r_31 u_32 h => ?_)
  refine g_icmp_ge (pc := 19) (tgt := 133) hC dX12_inWords_19 (by decide) (fun c_33 => ?_) (fun c_33 => ?_)
  · have h := h.1 c_33
    refine g_iconst (pc := 133) (v := -1) hC dX12_inWords_133 (by decide) ?_
    exact hR _ _ _ u0 dX12_inWords_134 h
  · have h := h.2 c_33
    refine g_iload_n (pc := 22) hC 3 dX12_inWords_22 rfl rfl ?_
    refine g_istore (pc := 23) (lv' := [(4, .int x3), (0, .ref o0), (1, .ref (xk C 26)), (2, .int x2), (3, .int x3)]) hC dX12_inWords_23 (Nat.le_of_ble_eq_true rfl) rfl ?_
    refine g_sub (lv' := [(0, .ref o0), (1, .ref (xk C 26)), (2, .int x2), (3, .int x3), (4, .int x3)]) [1, 2, 3, 4, 0] rfl ?_
    obtain ⟨n_34, h⟩ := h
    exact kX12_inWords_L25 hC hR0 hR hK14 n_34 _ _ _ _ h
def qX12_inWords_L14  (post : Int32 → St → Prop)  : Nat → Int32 → Int32 → St → Prop
  | 0 => fun _ _ _ => False
  | n + 1 => qX12_inWords_l14 post (qX12_inWords_L14 post n)
theorem kX12_inWords_L14 {C : Cx} {o0 : Nat} {a0 : Nat → Nat} (hC : Fx C cX12_inWords 7 RX12) (hR0 : xR C = rm 7) {post : Int32 → St → Prop} (hR : RI C cX12_inWords 7 (fun u : St => (wX12 o0 a0 (xy C) u [])) (fun r u => post r u))  : ∀ (n : Nat) (x2 : Int32) (x3 : Int32) (u0 : St), qX12_inWords_L14 post n x2 x3 u0 → G C 0 0 7 (wX12 o0 a0 (xy C) u0 []) 14 [(0, .ref o0), (1, .ref (xk C 26)), (2, .int x2), (3, .int x3)] [] := by
  intro n
  induction n with
  | zero => intro x2 x3 u0 h; exact h.elim
  | succ n ih => intro x2 x3 u0 h; exact kX12_inWords_l14 hC hR0 hR  ih h
def qX12_inWords  (u0 : St) (post : Int32 → St → Prop) : Prop := (((gi u0 12) = (2 : Int32) → ∃ n_36 : Nat, qX12_inWords_L14 post n_36 (0 : Int32) (1 : Int32) u0) ∧ (¬ (gi u0 12) = (2 : Int32) → post (-1 : Int32) u0))
set_option maxRecDepth 100000 in
set_option maxHeartbeats 4000000 in
theorem kX12_inWords {C : Cx} {o0 : Nat} {a0 : Nat → Nat} (hC : Fx C cX12_inWords 7 RX12) (hR0 : xR C = rm 7) {post : Int32 → St → Prop} (hR : RI C cX12_inWords 7 (fun u : St => (wX12 o0 a0 (xy C) u [])) (fun r u => post r u))  {u0 : St} (h : qX12_inWords  u0 post) : G C 0 0 7 (wX12 o0 a0 (xy C) u0 []) 0 [(0, .ref o0), (1, .ref (xk C 26))] [] := by
  refine g_aload_n (pc := 0) hC 0 dX12_inWords_0 rfl rfl ?_
  refine getX12_12 (pc := 1) hC (F := fun Z => Z) (X := []) (fun _ => rfl) fl_X12_133 dX12_inWords_1 ?_
  refine g_iconst (pc := 4) (v := 2) hC dX12_inWords_4 (by decide) ?_
  refine g_icmp_eq (pc := 5) (tgt := 10) hC dX12_inWords_5 (by decide) (fun c_35 => ?_) (fun c_35 => ?_)
  · have h := h.1 c_35
    refine g_iconst (pc := 10) (v := 0) hC dX12_inWords_10 (by decide) ?_
    refine g_istore_n (pc := 11) (lv' := [(2, .int (0 : Int32)), (0, .ref o0), (1, .ref (xk C 26))]) hC dX12_inWords_11 rfl (Nat.le_of_ble_eq_true rfl) rfl ?_
    refine g_iconst (pc := 12) (v := 1) hC dX12_inWords_12 (by decide) ?_
    refine g_istore_n (pc := 13) (lv' := [(3, .int (1 : Int32)), (2, .int (0 : Int32)), (0, .ref o0), (1, .ref (xk C 26))]) hC dX12_inWords_13 rfl (Nat.le_of_ble_eq_true rfl) rfl ?_
    refine g_sub (lv' := [(0, .ref o0), (1, .ref (xk C 26)), (2, .int (0 : Int32)), (3, .int (1 : Int32))]) [2, 3, 1, 0] rfl ?_
    obtain ⟨n_36, h⟩ := h
    exact kX12_inWords_L14 hC hR0 hR  n_36 _ _ _ h
  · have h := h.2 c_35
    refine g_iconst (pc := 8) (v := -1) hC dX12_inWords_8 (by decide) ?_
    exact hR _ _ _ u0 dX12_inWords_9 h
theorem ctX12_inWords {l : Launch} {D : va_G} {cy : Nat → ClassId} {kd : Nat → Nat} {o0 : Nat} {a0 : Nat → Nat}  {u0 : St} {post : Int32 → St → Prop} (h : qX12_inWords  u0 post) : CtI l D cy kd yX12_inWords cX12_inWords 7 7 .int [.ref o0, .ref (kd 26)] (fun u : St => (wX12 o0 a0 cy u [])) u0 (fun r u => post r u) := met_i (by decide) (Nat.le_of_ble_eq_true rfl) (fun C e1 e2 e3 e4 e5 hC hR => by subst e1 e2 e3 e4; exact kX12_inWords hC e5 hR h)
theorem dX12_fails_0 : decode cX12_fails 0 = .ok (.aload_n 0, 1) := by decide +kernel
theorem dX12_fails_1 : decode cX12_fails 1 = .ok (.getfield 158, 3) := by decide +kernel
theorem dX12_fails_4 : decode cX12_fails 4 = .ok (.ifCond .ne 28, 3) := by decide +kernel
theorem dX12_fails_7 : decode cX12_fails 7 = .ok (.aload_n 0, 1) := by decide +kernel
theorem dX12_fails_8 : decode cX12_fails 8 = .ok (.aload_n 0, 1) := by decide +kernel
theorem dX12_fails_9 : decode cX12_fails 9 = .ok (.getfield 133, 3) := by decide +kernel
theorem dX12_fails_12 : decode cX12_fails 12 = .ok (.iconst 1, 1) := by decide +kernel
theorem dX12_fails_13 : decode cX12_fails 13 = .ok (.if_icmp .ne 7, 3) := by decide +kernel
theorem dX12_fails_16 : decode cX12_fails 16 = .ok (.iconst 1, 1) := by decide +kernel
theorem dX12_fails_17 : decode cX12_fails 17 = .ok (.goto 4, 3) := by decide +kernel
theorem dX12_fails_20 : decode cX12_fails 20 = .ok (.iload_n 1, 1) := by decide +kernel
theorem dX12_fails_21 : decode cX12_fails 21 = .ok (.putfield 158, 3) := by decide +kernel
theorem dX12_fails_24 : decode cX12_fails 24 = .ok (.aload_n 0, 1) := by decide +kernel
theorem dX12_fails_25 : decode cX12_fails 25 = .ok (.aload_n 0, 1) := by decide +kernel
theorem dX12_fails_26 : decode cX12_fails 26 = .ok (.getfield 127, 3) := by decide +kernel
theorem dX12_fails_29 : decode cX12_fails 29 = .ok (.putfield 41, 3) := by decide +kernel
theorem dX12_fails_32 : decode cX12_fails 32 = .ok (.iconst 0, 1) := by decide +kernel
theorem dX12_fails_33 : decode cX12_fails 33 = .ok (.ireturn, 1) := by decide +kernel
def qX12_fails_b32  (post : Int32 → St → Prop)  (u0 : St) : Prop := post (0 : Int32) u0
set_option maxRecDepth 100000 in
set_option maxHeartbeats 4000000 in
theorem kX12_fails_b32 {C : Cx} {o0 : Nat} {a0 : Nat → Nat} (hC : Fx C cX12_fails 2 RX12) (hR0 : xR C = rm 1) {post : Int32 → St → Prop} (hR : RZ C cX12_fails 2 (fun u : St => (wX12 o0 a0 (xy C) u [])) (fun r u => post r u))  {u0 : St} (h : qX12_fails_b32 post u0) : G C 0 0 2 (wX12 o0 a0 (xy C) u0 []) 32 [] [] := by
  refine g_iconst (pc := 32) (v := 0) hC dX12_fails_32 (by decide) ?_
  exact hR _ _ _ u0 dX12_fails_33 (Or.inl rfl) h
def qX12_fails_b21  (post : Int32 → St → Prop)  (s0 : Int32) (u0 : St) : Prop := ∀ u_3 : St, u_3 = (si u0 18 s0) → ∀ u_4 : St, u_4 = (si u_3 17 (gi u_3 13)) → qX12_fails_b32 post u_4
set_option maxRecDepth 100000 in
set_option maxHeartbeats 4000000 in
theorem kX12_fails_b21 {C : Cx} {o0 : Nat} {a0 : Nat → Nat} (hC : Fx C cX12_fails 2 RX12) (hR0 : xR C = rm 1) {post : Int32 → St → Prop} (hR : RZ C cX12_fails 2 (fun u : St => (wX12 o0 a0 (xy C) u [])) (fun r u => post r u))  {s0 : Int32} {u0 : St} (h : qX12_fails_b21 post s0 u0) : G C 0 0 2 (wX12 o0 a0 (xy C) u0 []) 21 [(0, .ref o0)] [.int s0, .ref o0] := by
  refine putX12_18 (pc := 21) hC (F := fun Z => Z) (X := []) (fun _ => rfl) fl_X12_158 dX12_fails_21 ?_
  refine g_st (w := fun z => (wX12 o0 a0 (xy C) z [])) (u := (si u0 18 s0)) (fun u_3 eu_3 => ?_)
  have h := h u_3 eu_3
  refine g_aload_n (pc := 24) hC 0 dX12_fails_24 rfl rfl ?_
  refine g_aload_n (pc := 25) hC 0 dX12_fails_25 rfl rfl ?_
  refine getX12_13 (pc := 26) hC (F := fun Z => Z) (X := []) (fun _ => rfl) fl_X12_127 dX12_fails_26 ?_
  refine putX12_17 (pc := 29) hC (F := fun Z => Z) (X := []) (fun _ => rfl) fl_X12_41 dX12_fails_29 ?_
  refine g_st (w := fun z => (wX12 o0 a0 (xy C) z [])) (u := (si u_3 17 (gi u_3 13))) (fun u_4 eu_4 => ?_)
  have h := h u_4 eu_4
  refine g_sub (lv' := []) [] rfl ?_
  exact kX12_fails_b32 hC hR0 hR  h
def qX12_fails (x1 : Int32) (u0 : St) (post : Int32 → St → Prop) : Prop := ((¬ (gi u0 18) = 0 → qX12_fails_b32 post u0) ∧ ((gi u0 18) = 0 → ((¬ (gi u0 12) = (1 : Int32) → qX12_fails_b21 post x1 u0) ∧ ((gi u0 12) = (1 : Int32) → qX12_fails_b21 post (1 : Int32) u0))))
set_option maxRecDepth 100000 in
set_option maxHeartbeats 4000000 in
theorem kX12_fails {C : Cx} {o0 : Nat} {a0 : Nat → Nat} (hC : Fx C cX12_fails 2 RX12) (hR0 : xR C = rm 1) {post : Int32 → St → Prop} (hR : RZ C cX12_fails 2 (fun u : St => (wX12 o0 a0 (xy C) u [])) (fun r u => post r u)) {x1 : Int32} {u0 : St} (h : qX12_fails x1 u0 post) : G C 0 0 2 (wX12 o0 a0 (xy C) u0 []) 0 [(0, .ref o0), (1, .int x1)] [] := by
  refine g_aload_n (pc := 0) hC 0 dX12_fails_0 rfl rfl ?_
  refine getX12_18 (pc := 1) hC (F := fun Z => Z) (X := []) (fun _ => rfl) fl_X12_158 dX12_fails_1 ?_
  refine g_if_ne (pc := 4) (tgt := 32) hC dX12_fails_4 (by decide) (fun c_5 => ?_) (fun c_5 => ?_)
  · have h := h.1 c_5
    refine g_sub (lv' := []) [] rfl ?_
    exact kX12_fails_b32 hC hR0 hR  h
  · have h := h.2 c_5
    refine g_aload_n (pc := 7) hC 0 dX12_fails_7 rfl rfl ?_
    refine g_aload_n (pc := 8) hC 0 dX12_fails_8 rfl rfl ?_
    refine getX12_12 (pc := 9) hC (F := fun Z => Z) (X := []) (fun _ => rfl) fl_X12_133 dX12_fails_9 ?_
    refine g_iconst (pc := 12) (v := 1) hC dX12_fails_12 (by decide) ?_
    refine g_icmp_ne (pc := 13) (tgt := 20) hC dX12_fails_13 (by decide) (fun c_6 => ?_) (fun c_6 => ?_)
    · have h := h.1 c_6
      refine g_iload_n (pc := 20) hC 1 dX12_fails_20 rfl rfl ?_
      refine g_sub (lv' := [(0, .ref o0)]) [0] rfl ?_
      exact kX12_fails_b21 hC hR0 hR  h
    · have h := h.2 c_6
      refine g_iconst (pc := 16) (v := 1) hC dX12_fails_16 (by decide) ?_
      refine g_goto (pc := 17) (tgt := 21) hC dX12_fails_17 (by decide) ?_
      refine g_sub (lv' := [(0, .ref o0)]) [0] rfl ?_
      exact kX12_fails_b21 hC hR0 hR  h
theorem ctX12_fails {l : Launch} {D : va_G} {cy : Nat → ClassId} {kd : Nat → Nat} {o0 : Nat} {a0 : Nat → Nat} {x1 : Int32} {u0 : St} {post : Int32 → St → Prop} (h : qX12_fails x1 u0 post) : CtI l D cy kd yX12_fails cX12_fails 2 1 .boolean [.ref o0, .int x1] (fun u : St => (wX12 o0 a0 cy u [])) u0 (fun r u => post r u) := met_z (by decide) (Nat.le_of_ble_eq_true rfl) (fun C e1 e2 e3 e4 e5 hC hR => by subst e1 e2 e3 e4; exact kX12_fails hC e5 hR h)
theorem dX12_begins_0 : decode cX12_begins 0 = .ok (.iload_n 1, 1) := by decide +kernel
theorem dX12_begins_1 : decode cX12_begins 1 = .ok (.ifCond .lt 16, 3) := by decide +kernel
theorem dX12_begins_4 : decode cX12_begins 4 = .ok (.iload_n 1, 1) := by decide +kernel
theorem dX12_begins_5 : decode cX12_begins 5 = .ok (.aload_n 0, 1) := by decide +kernel
theorem dX12_begins_6 : decode cX12_begins 6 = .ok (.getfield 112, 3) := by decide +kernel
theorem dX12_begins_9 : decode cX12_begins 9 = .ok (.if_icmp .gt 8, 3) := by decide +kernel
theorem dX12_begins_12 : decode cX12_begins 12 = .ok (.iload_n 1, 1) := by decide +kernel
theorem dX12_begins_13 : decode cX12_begins 13 = .ok (.iload_n 2, 1) := by decide +kernel
theorem dX12_begins_14 : decode cX12_begins 14 = .ok (.if_icmp .le 5, 3) := by decide +kernel
theorem dX12_begins_17 : decode cX12_begins 17 = .ok (.iconst 0, 1) := by decide +kernel
theorem dX12_begins_18 : decode cX12_begins 18 = .ok (.ireturn, 1) := by decide +kernel
theorem dX12_begins_19 : decode cX12_begins 19 = .ok (.aload_n 0, 1) := by decide +kernel
theorem dX12_begins_20 : decode cX12_begins 20 = .ok (.iload_n 1, 1) := by decide +kernel
theorem dX12_begins_21 : decode cX12_begins 21 = .ok (.putfield 118, 3) := by decide +kernel
theorem dX12_begins_24 : decode cX12_begins 24 = .ok (.iconst 0, 1) := by decide +kernel
theorem dX12_begins_25 : decode cX12_begins 25 = .ok (.istore_n 3, 1) := by decide +kernel
theorem dX12_begins_26 : decode cX12_begins 26 = .ok (.iload_n 3, 1) := by decide +kernel
theorem dX12_begins_27 : decode cX12_begins 27 = .ok (.iload_n 1, 1) := by decide +kernel
theorem dX12_begins_28 : decode cX12_begins 28 = .ok (.if_icmp .ge 21, 3) := by decide +kernel
theorem dX12_begins_31 : decode cX12_begins 31 = .ok (.aload_n 0, 1) := by decide +kernel
theorem dX12_begins_32 : decode cX12_begins 32 = .ok (.getfield 34, 3) := by decide +kernel
theorem dX12_begins_35 : decode cX12_begins 35 = .ok (.iload_n 3, 1) := by decide +kernel
theorem dX12_begins_36 : decode cX12_begins 36 = .ok (.aload_n 0, 1) := by decide +kernel
theorem dX12_begins_37 : decode cX12_begins 37 = .ok (.getfield 30, 3) := by decide +kernel
theorem dX12_begins_40 : decode cX12_begins 40 = .ok (.iload_n 3, 1) := by decide +kernel
theorem dX12_begins_41 : decode cX12_begins 41 = .ok (.baload, 1) := by decide +kernel
theorem dX12_begins_42 : decode cX12_begins 42 = .ok (.bastore, 1) := by decide +kernel
theorem dX12_begins_43 : decode cX12_begins 43 = .ok (.iinc 3 1, 3) := by decide +kernel
theorem dX12_begins_46 : decode cX12_begins 46 = .ok (.goto (-20), 3) := by decide +kernel
theorem dX12_begins_49 : decode cX12_begins 49 = .ok (.aload_n 0, 1) := by decide +kernel
theorem dX12_begins_50 : decode cX12_begins 50 = .ok (.iconst 0, 1) := by decide +kernel
theorem dX12_begins_51 : decode cX12_begins 51 = .ok (.putfield 112, 3) := by decide +kernel
theorem dX12_begins_54 : decode cX12_begins 54 = .ok (.aload_n 0, 1) := by decide +kernel
theorem dX12_begins_55 : decode cX12_begins 55 = .ok (.iconst 0, 1) := by decide +kernel
theorem dX12_begins_56 : decode cX12_begins 56 = .ok (.putfield 158, 3) := by decide +kernel
theorem dX12_begins_59 : decode cX12_begins 59 = .ok (.aload_n 0, 1) := by decide +kernel
theorem dX12_begins_60 : decode cX12_begins 60 = .ok (.iconst (-1), 1) := by decide +kernel
theorem dX12_begins_61 : decode cX12_begins 61 = .ok (.putfield 41, 3) := by decide +kernel
theorem dX12_begins_64 : decode cX12_begins 64 = .ok (.aload_n 0, 1) := by decide +kernel
theorem dX12_begins_65 : decode cX12_begins 65 = .ok (.iconst 0, 1) := by decide +kernel
theorem dX12_begins_66 : decode cX12_begins 66 = .ok (.putfield 121, 3) := by decide +kernel
theorem dX12_begins_69 : decode cX12_begins 69 = .ok (.aload_n 0, 1) := by decide +kernel
theorem dX12_begins_70 : decode cX12_begins 70 = .ok (.iconst 0, 1) := by decide +kernel
theorem dX12_begins_71 : decode cX12_begins 71 = .ok (.putfield 161, 3) := by decide +kernel
theorem dX12_begins_74 : decode cX12_begins 74 = .ok (.aload_n 0, 1) := by decide +kernel
theorem dX12_begins_75 : decode cX12_begins 75 = .ok (.invokevirtual 164, 3) := by decide +kernel
theorem dX12_begins_78 : decode cX12_begins 78 = .ok (.iconst 1, 1) := by decide +kernel
theorem dX12_begins_79 : decode cX12_begins 79 = .ok (.ireturn, 1) := by decide +kernel
def qX12_begins_b17  (post : Int32 → St → Prop)  (u0 : St) : Prop := post (0 : Int32) u0
set_option maxRecDepth 100000 in
set_option maxHeartbeats 4000000 in
theorem kX12_begins_b17 {C : Cx} {o0 : Nat} {a0 : Nat → Nat} (hC : Fx C cX12_begins 4 RX12) (hR0 : xR C = rm 3) {post : Int32 → St → Prop} (hR : RZ C cX12_begins 4 (fun u : St => (wX12 o0 a0 (xy C) u [])) (fun r u => post r u))  {u0 : St} (h : qX12_begins_b17 post u0) : G C 0 0 4 (wX12 o0 a0 (xy C) u0 []) 17 [] [] := by
  refine g_iconst (pc := 17) (v := 0) hC dX12_begins_17 (by decide) ?_
  exact hR _ _ _ u0 dX12_begins_18 (Or.inl rfl) h
def qX12_begins_b49  (post : Int32 → St → Prop)  (u0 : St) : Prop := ∀ u_11 : St, u_11 = (si u0 10 (0 : Int32)) → ∀ u_12 : St, u_12 = (si u_11 18 (0 : Int32)) → ∀ u_13 : St, u_13 = (si u_12 17 (-1 : Int32)) → ∀ u_14 : St, u_14 = (si u_13 14 (0 : Int32)) → ∀ u_15 : St, u_15 = (si u_14 19 (0 : Int32)) → qX12_ahead u_15 (fun u_16 => post (1 : Int32) u_16)
set_option maxRecDepth 100000 in
set_option maxHeartbeats 4000000 in
theorem kX12_begins_b49 {C : Cx} {o0 : Nat} {a0 : Nat → Nat} (hC : Fx C cX12_begins 4 RX12) (hR0 : xR C = rm 3) {post : Int32 → St → Prop} (hR : RZ C cX12_begins 4 (fun u : St => (wX12 o0 a0 (xy C) u [])) (fun r u => post r u))  {u0 : St} (h : qX12_begins_b49 post u0) : G C 0 0 4 (wX12 o0 a0 (xy C) u0 []) 49 [(0, .ref o0)] [] := by
  refine g_aload_n (pc := 49) hC 0 dX12_begins_49 rfl rfl ?_
  refine g_iconst (pc := 50) (v := 0) hC dX12_begins_50 (by decide) ?_
  refine putX12_10 (pc := 51) hC (F := fun Z => Z) (X := []) (fun _ => rfl) fl_X12_112 dX12_begins_51 ?_
  refine g_st (w := fun z => (wX12 o0 a0 (xy C) z [])) (u := (si u0 10 (0 : Int32))) (fun u_11 eu_11 => ?_)
  have h := h u_11 eu_11
  refine g_aload_n (pc := 54) hC 0 dX12_begins_54 rfl rfl ?_
  refine g_iconst (pc := 55) (v := 0) hC dX12_begins_55 (by decide) ?_
  refine putX12_18 (pc := 56) hC (F := fun Z => Z) (X := []) (fun _ => rfl) fl_X12_158 dX12_begins_56 ?_
  refine g_st (w := fun z => (wX12 o0 a0 (xy C) z [])) (u := (si u_11 18 (0 : Int32))) (fun u_12 eu_12 => ?_)
  have h := h u_12 eu_12
  refine g_aload_n (pc := 59) hC 0 dX12_begins_59 rfl rfl ?_
  refine g_iconst (pc := 60) (v := -1) hC dX12_begins_60 (by decide) ?_
  refine putX12_17 (pc := 61) hC (F := fun Z => Z) (X := []) (fun _ => rfl) fl_X12_41 dX12_begins_61 ?_
  refine g_st (w := fun z => (wX12 o0 a0 (xy C) z [])) (u := (si u_12 17 (-1 : Int32))) (fun u_13 eu_13 => ?_)
  have h := h u_13 eu_13
  refine g_aload_n (pc := 64) hC 0 dX12_begins_64 rfl rfl ?_
  refine g_iconst (pc := 65) (v := 0) hC dX12_begins_65 (by decide) ?_
  refine putX12_14 (pc := 66) hC (F := fun Z => Z) (X := []) (fun _ => rfl) fl_X12_121 dX12_begins_66 ?_
  refine g_st (w := fun z => (wX12 o0 a0 (xy C) z [])) (u := (si u_13 14 (0 : Int32))) (fun u_14 eu_14 => ?_)
  have h := h u_14 eu_14
  refine g_aload_n (pc := 69) hC 0 dX12_begins_69 rfl rfl ?_
  refine g_iconst (pc := 70) (v := 0) hC dX12_begins_70 (by decide) ?_
  refine putX12_19 (pc := 71) hC (F := fun Z => Z) (X := []) (fun _ => rfl) fl_X12_161 dX12_begins_71 ?_
  refine g_st (w := fun z => (wX12 o0 a0 (xy C) z [])) (u := (si u_14 19 (0 : Int32))) (fun u_15 eu_15 => ?_)
  have h := h u_15 eu_15
  refine g_aload_n (pc := 74) hC 0 dX12_begins_74 rfl rfl ?_
  refine g_callV_v (pc := 75) (wd := fun (u : St) Y => (wX12 o0 a0 (xy C) u Y)) (F := fun Z => Z) (X := []) (As := []) (rest := []) (u := u_15) hC (fun _ _ => rfl) (fun _ => rfl) (ctX12_ahead h) wvX12_ahead ml_X12_164 (ci := 10) (q0 := 0) rfl rfl rfl rfl (rmok hR0 rfl) ⟨Nat.zero_le _, Nat.zero_le _⟩ rfl (Nat.le_of_ble_eq_true rfl) dX12_begins_75 (fun u_16 h => ?_)
  refine g_iconst (pc := 78) (v := 1) hC dX12_begins_78 (by decide) ?_
  exact hR _ _ _ u_16 dX12_begins_79 (Or.inr rfl) h
def qX12_begins_l26  (post : Int32 → St → Prop) (K26 : Int32 → Int32 → St → Prop) (x1 : Int32) (x3 : Int32) (u0 : St) : Prop := ((x1 ≤ x3 → qX12_begins_b49 post u0) ∧ (¬ x1 ≤ x3 → (vp_in x3 900 ∧ (vp_in x3 900 ∧ ∀ u_19 : St, u_19 = (sw u0 9 (upd (ga u0 9) (x3).toNatClampNeg (vp_nar .byte (ga u0 8 (x3).toNatClampNeg)))) → ∀ x3_20 : Int32, x3_20 = x3 + (1 : Int32) → K26 x1 x3_20 u_19))))
set_option maxRecDepth 100000 in
set_option maxHeartbeats 4000000 in
theorem kX12_begins_l26 {C : Cx} {o0 : Nat} {a0 : Nat → Nat} (hC : Fx C cX12_begins 4 RX12) (hR0 : xR C = rm 3) {post : Int32 → St → Prop} (hR : RZ C cX12_begins 4 (fun u : St => (wX12 o0 a0 (xy C) u [])) (fun r u => post r u))  {K26 : Int32 → Int32 → St → Prop} (hK26 : ∀ (x1 : Int32) (x3 : Int32) (u0 : St), K26 x1 x3 u0 → G C 0 0 4 (wX12 o0 a0 (xy C) u0 []) 26 [(0, .ref o0), (1, .int x1), (3, .int x3)] []) {x1 : Int32} {x3 : Int32} {u0 : St} (h : qX12_begins_l26 post K26 x1 x3 u0) : G C 0 0 4 (wX12 o0 a0 (xy C) u0 []) 26 [(0, .ref o0), (1, .int x1), (3, .int x3)] [] := by
  refine g_iload_n (pc := 26) hC 2 dX12_begins_26 rfl rfl ?_
  refine g_iload_n (pc := 27) hC 1 dX12_begins_27 rfl rfl ?_
  refine g_icmp_ge (pc := 28) (tgt := 49) hC dX12_begins_28 (by decide) (fun c_18 => ?_) (fun c_18 => ?_)
  · have h := h.1 c_18
    refine g_sub (lv' := [(0, .ref o0)]) [0] rfl ?_
    exact kX12_begins_b49 hC hR0 hR  h
  · have h := h.2 c_18
    refine g_aload_n (pc := 31) hC 0 dX12_begins_31 rfl rfl ?_
    refine getX12_9 (pc := 32) hC (F := fun Z => Z) (X := []) (fun _ => rfl) fl_X12_34 dX12_begins_32 ?_
    refine g_iload_n (pc := 35) hC 2 dX12_begins_35 rfl rfl ?_
    refine g_aload_n (pc := 36) hC 0 dX12_begins_36 rfl rfl ?_
    refine getX12_8 (pc := 37) hC (F := fun Z => Z) (X := []) (fun _ => rfl) fl_X12_30 dX12_begins_37 ?_
    refine g_iload_n (pc := 40) hC 2 dX12_begins_40 rfl rfl ?_
    refine aldX12_8 (pc := 41) hC (F := fun Z => Z) (X := []) (fun _ => rfl) h.1 dX12_begins_41 ?_
    have h := h.2
    refine astX12_9 (pc := 42) hC (F := fun Z => Z) (X := []) (fun _ => rfl) h.1 dX12_begins_42 ?_
    have h := h.2
    refine g_st (w := fun z => (wX12 o0 a0 (xy C) z [])) (u := (sw u0 9 (upd (ga u0 9) (x3).toNatClampNeg (vp_nar .byte (ga u0 8 (x3).toNatClampNeg))))) (fun u_19 eu_19 => ?_)
    have h := h u_19 eu_19
    obtain ⟨x3_20, ex3_20⟩ : ∃ z : Int32, z = x3 + (1 : Int32) := ⟨_, rfl⟩
    have h := h x3_20 ex3_20
    refine g_iinc (pc := 43) (v := x3_20) (lv' := [(3, .int x3_20), (0, .ref o0), (1, .int x1)]) hC 2 dX12_begins_43 rfl (by rw [ex3_20]; rfl) (Nat.le_of_ble_eq_true rfl) rfl ?_
    refine g_goto (pc := 46) (tgt := 26) hC dX12_begins_46 (by decide) ?_
    refine g_sub (lv' := [(0, .ref o0), (1, .int x1), (3, .int x3_20)]) [1, 2, 0] rfl ?_
    exact hK26 _ _ _ h
def qX12_begins_L26  (post : Int32 → St → Prop)  : Nat → Int32 → Int32 → St → Prop
  | 0 => fun _ _ _ => False
  | n + 1 => qX12_begins_l26 post (qX12_begins_L26 post n)
theorem kX12_begins_L26 {C : Cx} {o0 : Nat} {a0 : Nat → Nat} (hC : Fx C cX12_begins 4 RX12) (hR0 : xR C = rm 3) {post : Int32 → St → Prop} (hR : RZ C cX12_begins 4 (fun u : St => (wX12 o0 a0 (xy C) u [])) (fun r u => post r u))  : ∀ (n : Nat) (x1 : Int32) (x3 : Int32) (u0 : St), qX12_begins_L26 post n x1 x3 u0 → G C 0 0 4 (wX12 o0 a0 (xy C) u0 []) 26 [(0, .ref o0), (1, .int x1), (3, .int x3)] [] := by
  intro n
  induction n with
  | zero => intro x1 x3 u0 h; exact h.elim
  | succ n ih => intro x1 x3 u0 h; exact kX12_begins_l26 hC hR0 hR  ih h
def qX12_begins (x1 : Int32) (x2 : Int32) (u0 : St) (post : Int32 → St → Prop) : Prop := ((x1 < 0 → qX12_begins_b17 post u0) ∧ (¬ x1 < 0 → (((gi u0 10) < x1 → qX12_begins_b17 post u0) ∧ (¬ (gi u0 10) < x1 → ((x1 ≤ x2 → ∀ u_24 : St, u_24 = (si u0 11 x1) → ∃ n_25 : Nat, qX12_begins_L26 post n_25 x1 (0 : Int32) u_24) ∧ (¬ x1 ≤ x2 → qX12_begins_b17 post u0))))))
set_option maxRecDepth 100000 in
set_option maxHeartbeats 4000000 in
theorem kX12_begins {C : Cx} {o0 : Nat} {a0 : Nat → Nat} (hC : Fx C cX12_begins 4 RX12) (hR0 : xR C = rm 3) {post : Int32 → St → Prop} (hR : RZ C cX12_begins 4 (fun u : St => (wX12 o0 a0 (xy C) u [])) (fun r u => post r u)) {x1 : Int32} {x2 : Int32} {u0 : St} (h : qX12_begins x1 x2 u0 post) : G C 0 0 4 (wX12 o0 a0 (xy C) u0 []) 0 [(0, .ref o0), (1, .int x1), (2, .int x2)] [] := by
  refine g_iload_n (pc := 0) hC 1 dX12_begins_0 rfl rfl ?_
  refine g_if_lt (pc := 1) (tgt := 17) hC dX12_begins_1 (by decide) (fun c_21 => ?_) (fun c_21 => ?_)
  · have h := h.1 c_21
    refine g_sub (lv' := []) [] rfl ?_
    exact kX12_begins_b17 hC hR0 hR  h
  · have h := h.2 c_21
    refine g_iload_n (pc := 4) hC 1 dX12_begins_4 rfl rfl ?_
    refine g_aload_n (pc := 5) hC 0 dX12_begins_5 rfl rfl ?_
    refine getX12_10 (pc := 6) hC (F := fun Z => Z) (X := []) (fun _ => rfl) fl_X12_112 dX12_begins_6 ?_
    refine g_icmp_gt (pc := 9) (tgt := 17) hC dX12_begins_9 (by decide) (fun c_22 => ?_) (fun c_22 => ?_)
    · have h := h.1 c_22
      refine g_sub (lv' := []) [] rfl ?_
      exact kX12_begins_b17 hC hR0 hR  h
    · have h := h.2 c_22
      refine g_iload_n (pc := 12) hC 1 dX12_begins_12 rfl rfl ?_
      refine g_iload_n (pc := 13) hC 2 dX12_begins_13 rfl rfl ?_
      refine g_icmp_le (pc := 14) (tgt := 19) hC dX12_begins_14 (by decide) (fun c_23 => ?_) (fun c_23 => ?_)
      · have h := h.1 c_23
        refine g_aload_n (pc := 19) hC 0 dX12_begins_19 rfl rfl ?_
        refine g_iload_n (pc := 20) hC 1 dX12_begins_20 rfl rfl ?_
        refine putX12_11 (pc := 21) hC (F := fun Z => Z) (X := []) (fun _ => rfl) fl_X12_118 dX12_begins_21 ?_
        refine g_st (w := fun z => (wX12 o0 a0 (xy C) z [])) (u := (si u0 11 x1)) (fun u_24 eu_24 => ?_)
        have h := h u_24 eu_24
        refine g_iconst (pc := 24) (v := 0) hC dX12_begins_24 (by decide) ?_
        refine g_istore_n (pc := 25) (lv' := [(3, .int (0 : Int32)), (0, .ref o0), (1, .int x1), (2, .int x2)]) hC dX12_begins_25 rfl (Nat.le_of_ble_eq_true rfl) rfl ?_
        refine g_sub (lv' := [(0, .ref o0), (1, .int x1), (3, .int (0 : Int32))]) [1, 2, 0] rfl ?_
        obtain ⟨n_25, h⟩ := h
        exact kX12_begins_L26 hC hR0 hR  n_25 _ _ _ h
      · have h := h.2 c_23
        refine g_sub (lv' := []) [] rfl ?_
        exact kX12_begins_b17 hC hR0 hR  h
theorem ctX12_begins {l : Launch} {D : va_G} {cy : Nat → ClassId} {kd : Nat → Nat} {o0 : Nat} {a0 : Nat → Nat} {x1 : Int32} {x2 : Int32} {u0 : St} {post : Int32 → St → Prop} (h : qX12_begins x1 x2 u0 post) : CtI l D cy kd yX12_begins cX12_begins 4 3 .boolean [.ref o0, .int x1, .int x2] (fun u : St => (wX12 o0 a0 cy u [])) u0 (fun r u => post r u) := met_z (by decide) (Nat.le_of_ble_eq_true rfl) (fun C e1 e2 e3 e4 e5 hC hR => by subst e1 e2 e3 e4; exact kX12_begins hC e5 hR h)
theorem dX12_wantSign_0 : decode cX12_wantSign 0 = .ok (.aload_n 0, 1) := by decide +kernel
theorem dX12_wantSign_1 : decode cX12_wantSign 1 = .ok (.iload_n 1, 1) := by decide +kernel
theorem dX12_wantSign_2 : decode cX12_wantSign 2 = .ok (.invokevirtual 167, 3) := by decide +kernel
theorem dX12_wantSign_5 : decode cX12_wantSign 5 = .ok (.ifCond .ne 9, 3) := by decide +kernel
theorem dX12_wantSign_8 : decode cX12_wantSign 8 = .ok (.aload_n 0, 1) := by decide +kernel
theorem dX12_wantSign_9 : decode cX12_wantSign 9 = .ok (.iconst 2, 1) := by decide +kernel
theorem dX12_wantSign_10 : decode cX12_wantSign 10 = .ok (.invokevirtual 170, 3) := by decide +kernel
theorem dX12_wantSign_13 : decode cX12_wantSign 13 = .ok (.ireturn, 1) := by decide +kernel
theorem dX12_wantSign_14 : decode cX12_wantSign 14 = .ok (.aload_n 0, 1) := by decide +kernel
theorem dX12_wantSign_15 : decode cX12_wantSign 15 = .ok (.invokevirtual 164, 3) := by decide +kernel
theorem dX12_wantSign_18 : decode cX12_wantSign 18 = .ok (.iconst 1, 1) := by decide +kernel
theorem dX12_wantSign_19 : decode cX12_wantSign 19 = .ok (.ireturn, 1) := by decide +kernel
def qX12_wantSign (x1 : Int32) (u0 : St) (post : Int32 → St → Prop) : Prop := qX12_isSign x1 u0 (fun r_10 u_9 => ((¬ r_10 = 0 → qX12_ahead u_9 (fun u_13 => post (1 : Int32) u_13)) ∧ (r_10 = 0 → qX12_fails (2 : Int32) u_9 (fun r_16 u_15 => (bz r_16 ∧ post r_16 u_15)))))
set_option maxRecDepth 100000 in
set_option maxHeartbeats 4000000 in
theorem kX12_wantSign {C : Cx} {o0 : Nat} {a0 : Nat → Nat} (hC : Fx C cX12_wantSign 2 RX12) (hR0 : xR C = rm 3) {post : Int32 → St → Prop} (hR : RZ C cX12_wantSign 2 (fun u : St => (wX12 o0 a0 (xy C) u [])) (fun r u => post r u)) {x1 : Int32} {u0 : St} (h : qX12_wantSign x1 u0 post) : G C 0 0 2 (wX12 o0 a0 (xy C) u0 []) 0 [(0, .ref o0), (1, .int x1)] [] := by
  refine g_aload_n (pc := 0) hC 0 dX12_wantSign_0 rfl rfl ?_
  refine g_iload_n (pc := 1) hC 1 dX12_wantSign_1 rfl rfl ?_
  refine g_callV_i (pc := 2) (wd := fun (u : St) Y => (wX12 o0 a0 (xy C) u Y)) (F := fun Z => Z) (X := []) (As := [.int x1]) (rest := []) (u := u0) hC (fun _ _ => rfl) (fun _ => rfl) (ctX12_isSign h) wvX12_isSign ml_X12_167 (ci := 10) (q0 := 0) rfl rfl rfl rfl (rmok hR0 rfl) ⟨Nat.zero_le _, Nat.zero_le _⟩ rfl (Nat.le_of_ble_eq_true rfl) dX12_wantSign_2 (fun r_10 u_9 h => ?_)
  refine g_if_ne (pc := 5) (tgt := 14) hC dX12_wantSign_5 (by decide) (fun c_12 => ?_) (fun c_12 => ?_)
  · have h := h.1 c_12
    refine g_aload_n (pc := 14) hC 0 dX12_wantSign_14 rfl rfl ?_
    refine g_callV_v (pc := 15) (wd := fun (u : St) Y => (wX12 o0 a0 (xy C) u Y)) (F := fun Z => Z) (X := []) (As := []) (rest := []) (u := u_9) hC (fun _ _ => rfl) (fun _ => rfl) (ctX12_ahead h) wvX12_ahead ml_X12_164 (ci := 10) (q0 := 0) rfl rfl rfl rfl (rmok hR0 rfl) ⟨Nat.zero_le _, Nat.zero_le _⟩ rfl (Nat.le_of_ble_eq_true rfl) dX12_wantSign_15 (fun u_13 h => ?_)
    refine g_iconst (pc := 18) (v := 1) hC dX12_wantSign_18 (by decide) ?_
    exact hR _ _ _ u_13 dX12_wantSign_19 (Or.inr rfl) h
  · have h := h.2 c_12
    refine g_aload_n (pc := 8) hC 0 dX12_wantSign_8 rfl rfl ?_
    refine g_iconst (pc := 9) (v := 2) hC dX12_wantSign_9 (by decide) ?_
    refine g_callV_i (pc := 10) (wd := fun (u : St) Y => (wX12 o0 a0 (xy C) u Y)) (F := fun Z => Z) (X := []) (As := [.int (2 : Int32)]) (rest := []) (u := u_9) hC (fun _ _ => rfl) (fun _ => rfl) (ctX12_fails h) wvX12_fails ml_X12_170 (ci := 10) (q0 := 0) rfl rfl rfl rfl (rmok hR0 rfl) ⟨Nat.zero_le _, Nat.zero_le _⟩ rfl (Nat.le_of_ble_eq_true rfl) dX12_wantSign_10 (fun r_16 u_15 h => ?_)
    exact hR _ _ _ u_15 dX12_wantSign_13 h.1 h.2
theorem ctX12_wantSign {l : Launch} {D : va_G} {cy : Nat → ClassId} {kd : Nat → Nat} {o0 : Nat} {a0 : Nat → Nat} {x1 : Int32} {u0 : St} {post : Int32 → St → Prop} (h : qX12_wantSign x1 u0 post) : CtI l D cy kd yX12_wantSign cX12_wantSign 2 3 .boolean [.ref o0, .int x1] (fun u : St => (wX12 o0 a0 cy u [])) u0 (fun r u => post r u) := met_z (by decide) (Nat.le_of_ble_eq_true rfl) (fun C e1 e2 e3 e4 e5 hC hR => by subst e1 e2 e3 e4; exact kX12_wantSign hC e5 hR h)
theorem dX12_wantWord_0 : decode cX12_wantWord 0 = .ok (.aload_n 0, 1) := by decide +kernel
theorem dX12_wantWord_1 : decode cX12_wantWord 1 = .ok (.aload_n 1, 1) := by decide +kernel
theorem dX12_wantWord_2 : decode cX12_wantWord 2 = .ok (.invokevirtual 173, 3) := by decide +kernel
theorem dX12_wantWord_5 : decode cX12_wantWord 5 = .ok (.iload_n 2, 1) := by decide +kernel
theorem dX12_wantWord_6 : decode cX12_wantWord 6 = .ok (.if_icmp .eq 9, 3) := by decide +kernel
theorem dX12_wantWord_9 : decode cX12_wantWord 9 = .ok (.aload_n 0, 1) := by decide +kernel
theorem dX12_wantWord_10 : decode cX12_wantWord 10 = .ok (.iconst 2, 1) := by decide +kernel
theorem dX12_wantWord_11 : decode cX12_wantWord 11 = .ok (.invokevirtual 170, 3) := by decide +kernel
theorem dX12_wantWord_14 : decode cX12_wantWord 14 = .ok (.ireturn, 1) := by decide +kernel
theorem dX12_wantWord_15 : decode cX12_wantWord 15 = .ok (.aload_n 0, 1) := by decide +kernel
theorem dX12_wantWord_16 : decode cX12_wantWord 16 = .ok (.invokevirtual 164, 3) := by decide +kernel
theorem dX12_wantWord_19 : decode cX12_wantWord 19 = .ok (.iconst 1, 1) := by decide +kernel
theorem dX12_wantWord_20 : decode cX12_wantWord 20 = .ok (.ireturn, 1) := by decide +kernel
def qX12_wantWord (x2 : Int32) (u0 : St) (post : Int32 → St → Prop) : Prop := qX12_inWords u0 (fun r_10 u_9 => ((r_10 = x2 → qX12_ahead u_9 (fun u_13 => post (1 : Int32) u_13)) ∧ (¬ r_10 = x2 → qX12_fails (2 : Int32) u_9 (fun r_16 u_15 => (bz r_16 ∧ post r_16 u_15)))))
set_option maxRecDepth 100000 in
set_option maxHeartbeats 4000000 in
theorem kX12_wantWord {C : Cx} {o0 : Nat} {a0 : Nat → Nat} (hC : Fx C cX12_wantWord 3 RX12) (hR0 : xR C = rm 8) {post : Int32 → St → Prop} (hR : RZ C cX12_wantWord 3 (fun u : St => (wX12 o0 a0 (xy C) u [])) (fun r u => post r u)) {x2 : Int32} {u0 : St} (h : qX12_wantWord x2 u0 post) : G C 0 0 3 (wX12 o0 a0 (xy C) u0 []) 0 [(0, .ref o0), (1, .ref (xk C 26)), (2, .int x2)] [] := by
  refine g_aload_n (pc := 0) hC 0 dX12_wantWord_0 rfl rfl ?_
  refine g_aload_n (pc := 1) hC 1 dX12_wantWord_1 rfl rfl ?_
  refine g_callV_i (pc := 2) (wd := fun (u : St) Y => (wX12 o0 a0 (xy C) u Y)) (F := fun Z => Z) (X := []) (As := [.ref (xk C 26)]) (rest := []) (u := u0) hC (fun _ _ => rfl) (fun _ => rfl) (ctX12_inWords h) wvX12_inWords ml_X12_173 (ci := 10) (q0 := 0) rfl rfl rfl rfl (rmok hR0 rfl) ⟨Nat.zero_le _, Nat.zero_le _⟩ rfl (Nat.le_of_ble_eq_true rfl) dX12_wantWord_2 (fun r_10 u_9 h => ?_)
  refine g_iload_n (pc := 5) hC 2 dX12_wantWord_5 rfl rfl ?_
  refine g_icmp_eq (pc := 6) (tgt := 15) hC dX12_wantWord_6 (by decide) (fun c_12 => ?_) (fun c_12 => ?_)
  · have h := h.1 c_12
    refine g_aload_n (pc := 15) hC 0 dX12_wantWord_15 rfl rfl ?_
    refine g_callV_v (pc := 16) (wd := fun (u : St) Y => (wX12 o0 a0 (xy C) u Y)) (F := fun Z => Z) (X := []) (As := []) (rest := []) (u := u_9) hC (fun _ _ => rfl) (fun _ => rfl) (ctX12_ahead h) wvX12_ahead ml_X12_164 (ci := 10) (q0 := 0) rfl rfl rfl rfl (rmok hR0 rfl) ⟨Nat.zero_le _, Nat.zero_le _⟩ rfl (Nat.le_of_ble_eq_true rfl) dX12_wantWord_16 (fun u_13 h => ?_)
    refine g_iconst (pc := 19) (v := 1) hC dX12_wantWord_19 (by decide) ?_
    exact hR _ _ _ u_13 dX12_wantWord_20 (Or.inr rfl) h
  · have h := h.2 c_12
    refine g_aload_n (pc := 9) hC 0 dX12_wantWord_9 rfl rfl ?_
    refine g_iconst (pc := 10) (v := 2) hC dX12_wantWord_10 (by decide) ?_
    refine g_callV_i (pc := 11) (wd := fun (u : St) Y => (wX12 o0 a0 (xy C) u Y)) (F := fun Z => Z) (X := []) (As := [.int (2 : Int32)]) (rest := []) (u := u_9) hC (fun _ _ => rfl) (fun _ => rfl) (ctX12_fails h) wvX12_fails ml_X12_170 (ci := 10) (q0 := 0) rfl rfl rfl rfl (rmok hR0 rfl) ⟨Nat.zero_le _, Nat.zero_le _⟩ rfl (Nat.le_of_ble_eq_true rfl) dX12_wantWord_11 (fun r_16 u_15 h => ?_)
    exact hR _ _ _ u_15 dX12_wantWord_14 h.1 h.2
theorem ctX12_wantWord {l : Launch} {D : va_G} {cy : Nat → ClassId} {kd : Nat → Nat} {o0 : Nat} {a0 : Nat → Nat} {x2 : Int32} {u0 : St} {post : Int32 → St → Prop} (h : qX12_wantWord x2 u0 post) : CtI l D cy kd yX12_wantWord cX12_wantWord 3 8 .boolean [.ref o0, .ref (kd 26), .int x2] (fun u : St => (wX12 o0 a0 cy u [])) u0 (fun r u => post r u) := met_z (by decide) (Nat.le_of_ble_eq_true rfl) (fun C e1 e2 e3 e4 e5 hC hR => by subst e1 e2 e3 e4; exact kX12_wantWord hC e5 hR h)
theorem dX12_number_0 : decode cX12_number 0 = .ok (.aload_n 0, 1) := by decide +kernel
theorem dX12_number_1 : decode cX12_number 1 = .ok (.getfield 133, 3) := by decide +kernel
theorem dX12_number_4 : decode cX12_number 4 = .ok (.iconst 3, 1) := by decide +kernel
theorem dX12_number_5 : decode cX12_number 5 = .ok (.if_icmp .eq 9, 3) := by decide +kernel
theorem dX12_number_8 : decode cX12_number 8 = .ok (.aload_n 0, 1) := by decide +kernel
theorem dX12_number_9 : decode cX12_number 9 = .ok (.iconst 2, 1) := by decide +kernel
theorem dX12_number_10 : decode cX12_number 10 = .ok (.invokevirtual 170, 3) := by decide +kernel
theorem dX12_number_13 : decode cX12_number 13 = .ok (.ireturn, 1) := by decide +kernel
theorem dX12_number_14 : decode cX12_number 14 = .ok (.aload_n 0, 1) := by decide +kernel
theorem dX12_number_15 : decode cX12_number 15 = .ok (.getfield 130, 3) := by decide +kernel
theorem dX12_number_18 : decode cX12_number 18 = .ok (.iload_n 2, 1) := by decide +kernel
theorem dX12_number_19 : decode cX12_number 19 = .ok (.if_icmp .lt 11, 3) := by decide +kernel
theorem dX12_number_22 : decode cX12_number 22 = .ok (.aload_n 0, 1) := by decide +kernel
theorem dX12_number_23 : decode cX12_number 23 = .ok (.getfield 130, 3) := by decide +kernel
theorem dX12_number_26 : decode cX12_number 26 = .ok (.iload_n 3, 1) := by decide +kernel
theorem dX12_number_27 : decode cX12_number 27 = .ok (.if_icmp .le 9, 3) := by decide +kernel
theorem dX12_number_30 : decode cX12_number 30 = .ok (.aload_n 0, 1) := by decide +kernel
theorem dX12_number_31 : decode cX12_number 31 = .ok (.iconst 4, 1) := by decide +kernel
theorem dX12_number_32 : decode cX12_number 32 = .ok (.invokevirtual 170, 3) := by decide +kernel
theorem dX12_number_35 : decode cX12_number 35 = .ok (.ireturn, 1) := by decide +kernel
theorem dX12_number_36 : decode cX12_number 36 = .ok (.aload_n 0, 1) := by decide +kernel
theorem dX12_number_37 : decode cX12_number 37 = .ok (.getfield 7, 3) := by decide +kernel
theorem dX12_number_40 : decode cX12_number 40 = .ok (.iload_n 1, 1) := by decide +kernel
theorem dX12_number_41 : decode cX12_number 41 = .ok (.aload_n 0, 1) := by decide +kernel
theorem dX12_number_42 : decode cX12_number 42 = .ok (.getfield 130, 3) := by decide +kernel
theorem dX12_number_45 : decode cX12_number 45 = .ok (.iastore, 1) := by decide +kernel
theorem dX12_number_46 : decode cX12_number 46 = .ok (.aload_n 0, 1) := by decide +kernel
theorem dX12_number_47 : decode cX12_number 47 = .ok (.invokevirtual 164, 3) := by decide +kernel
theorem dX12_number_50 : decode cX12_number 50 = .ok (.iconst 1, 1) := by decide +kernel
theorem dX12_number_51 : decode cX12_number 51 = .ok (.ireturn, 1) := by decide +kernel
def qX12_number_b30  (post : Int32 → St → Prop)  (u0 : St) : Prop := qX12_fails (4 : Int32) u0 (fun r_11 u_10 => (bz r_11 ∧ post r_11 u_10))
set_option maxRecDepth 100000 in
set_option maxHeartbeats 4000000 in
theorem kX12_number_b30 {C : Cx} {o0 : Nat} {a0 : Nat → Nat} (hC : Fx C cX12_number 4 RX12) (hR0 : xR C = rm 3) {post : Int32 → St → Prop} (hR : RZ C cX12_number 4 (fun u : St => (wX12 o0 a0 (xy C) u [])) (fun r u => post r u))  {u0 : St} (h : qX12_number_b30 post u0) : G C 0 0 4 (wX12 o0 a0 (xy C) u0 []) 30 [(0, .ref o0)] [] := by
  refine g_aload_n (pc := 30) hC 0 dX12_number_30 rfl rfl ?_
  refine g_iconst (pc := 31) (v := 4) hC dX12_number_31 (by decide) ?_
  refine g_callV_i (pc := 32) (wd := fun (u : St) Y => (wX12 o0 a0 (xy C) u Y)) (F := fun Z => Z) (X := []) (As := [.int (4 : Int32)]) (rest := []) (u := u0) hC (fun _ _ => rfl) (fun _ => rfl) (ctX12_fails h) wvX12_fails ml_X12_170 (ci := 10) (q0 := 0) rfl rfl rfl rfl (rmok hR0 rfl) ⟨Nat.zero_le _, Nat.zero_le _⟩ rfl (Nat.le_of_ble_eq_true rfl) dX12_number_32 (fun r_11 u_10 h => ?_)
  exact hR _ _ _ u_10 dX12_number_35 h.1 h.2
def qX12_number (x1 : Int32) (x2 : Int32) (x3 : Int32) (u0 : St) (post : Int32 → St → Prop) : Prop := (((gi u0 12) = (3 : Int32) → (((gi u0 15) < x2 → qX12_number_b30 post u0) ∧ (¬ (gi u0 15) < x2 → (((gi u0 15) ≤ x3 → (vp_in x1 3072 ∧ ∀ u_16 : St, u_16 = (sw u0 0 (upd (ga u0 0) (x1).toNatClampNeg (gi u0 15))) → qX12_ahead u_16 (fun u_17 => post (1 : Int32) u_17))) ∧ (¬ (gi u0 15) ≤ x3 → qX12_number_b30 post u0))))) ∧ (¬ (gi u0 12) = (3 : Int32) → qX12_fails (2 : Int32) u0 (fun r_20 u_19 => (bz r_20 ∧ post r_20 u_19))))
set_option maxRecDepth 100000 in
set_option maxHeartbeats 4000000 in
theorem kX12_number {C : Cx} {o0 : Nat} {a0 : Nat → Nat} (hC : Fx C cX12_number 4 RX12) (hR0 : xR C = rm 3) {post : Int32 → St → Prop} (hR : RZ C cX12_number 4 (fun u : St => (wX12 o0 a0 (xy C) u [])) (fun r u => post r u)) {x1 : Int32} {x2 : Int32} {x3 : Int32} {u0 : St} (h : qX12_number x1 x2 x3 u0 post) : G C 0 0 4 (wX12 o0 a0 (xy C) u0 []) 0 [(0, .ref o0), (1, .int x1), (2, .int x2), (3, .int x3)] [] := by
  refine g_aload_n (pc := 0) hC 0 dX12_number_0 rfl rfl ?_
  refine getX12_12 (pc := 1) hC (F := fun Z => Z) (X := []) (fun _ => rfl) fl_X12_133 dX12_number_1 ?_
  refine g_iconst (pc := 4) (v := 3) hC dX12_number_4 (by decide) ?_
  refine g_icmp_eq (pc := 5) (tgt := 14) hC dX12_number_5 (by decide) (fun c_13 => ?_) (fun c_13 => ?_)
  · have h := h.1 c_13
    refine g_aload_n (pc := 14) hC 0 dX12_number_14 rfl rfl ?_
    refine getX12_15 (pc := 15) hC (F := fun Z => Z) (X := []) (fun _ => rfl) fl_X12_130 dX12_number_15 ?_
    refine g_iload_n (pc := 18) hC 2 dX12_number_18 rfl rfl ?_
    refine g_icmp_lt (pc := 19) (tgt := 30) hC dX12_number_19 (by decide) (fun c_14 => ?_) (fun c_14 => ?_)
    · have h := h.1 c_14
      refine g_sub (lv' := [(0, .ref o0)]) [0] rfl ?_
      exact kX12_number_b30 hC hR0 hR  h
    · have h := h.2 c_14
      refine g_aload_n (pc := 22) hC 0 dX12_number_22 rfl rfl ?_
      refine getX12_15 (pc := 23) hC (F := fun Z => Z) (X := []) (fun _ => rfl) fl_X12_130 dX12_number_23 ?_
      refine g_iload_n (pc := 26) hC 3 dX12_number_26 rfl rfl ?_
      refine g_icmp_le (pc := 27) (tgt := 36) hC dX12_number_27 (by decide) (fun c_15 => ?_) (fun c_15 => ?_)
      · have h := h.1 c_15
        refine g_aload_n (pc := 36) hC 0 dX12_number_36 rfl rfl ?_
        refine getX12_0 (pc := 37) hC (F := fun Z => Z) (X := []) (fun _ => rfl) fl_X12_7 dX12_number_37 ?_
        refine g_iload_n (pc := 40) hC 1 dX12_number_40 rfl rfl ?_
        refine g_aload_n (pc := 41) hC 0 dX12_number_41 rfl rfl ?_
        refine getX12_15 (pc := 42) hC (F := fun Z => Z) (X := []) (fun _ => rfl) fl_X12_130 dX12_number_42 ?_
        refine astX12_0 (pc := 45) hC (F := fun Z => Z) (X := []) (fun _ => rfl) h.1 dX12_number_45 ?_
        have h := h.2
        refine g_st (w := fun z => (wX12 o0 a0 (xy C) z [])) (u := (sw u0 0 (upd (ga u0 0) (x1).toNatClampNeg (gi u0 15)))) (fun u_16 eu_16 => ?_)
        have h := h u_16 eu_16
        refine g_aload_n (pc := 46) hC 0 dX12_number_46 rfl rfl ?_
        refine g_callV_v (pc := 47) (wd := fun (u : St) Y => (wX12 o0 a0 (xy C) u Y)) (F := fun Z => Z) (X := []) (As := []) (rest := []) (u := u_16) hC (fun _ _ => rfl) (fun _ => rfl) (ctX12_ahead h) wvX12_ahead ml_X12_164 (ci := 10) (q0 := 0) rfl rfl rfl rfl (rmok hR0 rfl) ⟨Nat.zero_le _, Nat.zero_le _⟩ rfl (Nat.le_of_ble_eq_true rfl) dX12_number_47 (fun u_17 h => ?_)
        refine g_iconst (pc := 50) (v := 1) hC dX12_number_50 (by decide) ?_
        exact hR _ _ _ u_17 dX12_number_51 (Or.inr rfl) h
      · have h := h.2 c_15
        refine g_sub (lv' := [(0, .ref o0)]) [0] rfl ?_
        exact kX12_number_b30 hC hR0 hR  h
  · have h := h.2 c_13
    refine g_aload_n (pc := 8) hC 0 dX12_number_8 rfl rfl ?_
    refine g_iconst (pc := 9) (v := 2) hC dX12_number_9 (by decide) ?_
    refine g_callV_i (pc := 10) (wd := fun (u : St) Y => (wX12 o0 a0 (xy C) u Y)) (F := fun Z => Z) (X := []) (As := [.int (2 : Int32)]) (rest := []) (u := u0) hC (fun _ _ => rfl) (fun _ => rfl) (ctX12_fails h) wvX12_fails ml_X12_170 (ci := 10) (q0 := 0) rfl rfl rfl rfl (rmok hR0 rfl) ⟨Nat.zero_le _, Nat.zero_le _⟩ rfl (Nat.le_of_ble_eq_true rfl) dX12_number_10 (fun r_20 u_19 h => ?_)
    exact hR _ _ _ u_19 dX12_number_13 h.1 h.2
theorem ctX12_number {l : Launch} {D : va_G} {cy : Nat → ClassId} {kd : Nat → Nat} {o0 : Nat} {a0 : Nat → Nat} {x1 : Int32} {x2 : Int32} {x3 : Int32} {u0 : St} {post : Int32 → St → Prop} (h : qX12_number x1 x2 x3 u0 post) : CtI l D cy kd yX12_number cX12_number 4 3 .boolean [.ref o0, .int x1, .int x2, .int x3] (fun u : St => (wX12 o0 a0 cy u [])) u0 (fun r u => post r u) := met_z (by decide) (Nat.le_of_ble_eq_true rfl) (fun C e1 e2 e3 e4 e5 hC hR => by subst e1 e2 e3 e4; exact kX12_number hC e5 hR h)
theorem dX12_isName_0 : decode cX12_isName 0 = .ok (.aload_n 0, 1) := by decide +kernel
theorem dX12_isName_1 : decode cX12_isName 1 = .ok (.getfield 133, 3) := by decide +kernel
theorem dX12_isName_4 : decode cX12_isName 4 = .ok (.iconst 2, 1) := by decide +kernel
theorem dX12_isName_5 : decode cX12_isName 5 = .ok (.if_icmp .ne 30, 3) := by decide +kernel
theorem dX12_isName_8 : decode cX12_isName 8 = .ok (.aload_n 0, 1) := by decide +kernel
theorem dX12_isName_9 : decode cX12_isName 9 = .ok (.getfield 121, 3) := by decide +kernel
theorem dX12_isName_12 : decode cX12_isName 12 = .ok (.aload_n 0, 1) := by decide +kernel
theorem dX12_isName_13 : decode cX12_isName 13 = .ok (.getfield 127, 3) := by decide +kernel
theorem dX12_isName_16 : decode cX12_isName 16 = .ok (.isub, 1) := by decide +kernel
theorem dX12_isName_17 : decode cX12_isName 17 = .ok (.bipush 8, 2) := by decide +kernel
theorem dX12_isName_19 : decode cX12_isName 19 = .ok (.if_icmp .gt 16, 3) := by decide +kernel
theorem dX12_isName_22 : decode cX12_isName 22 = .ok (.aload_n 0, 1) := by decide +kernel
theorem dX12_isName_23 : decode cX12_isName 23 = .ok (.aload_n 1, 1) := by decide +kernel
theorem dX12_isName_24 : decode cX12_isName 24 = .ok (.invokevirtual 173, 3) := by decide +kernel
theorem dX12_isName_27 : decode cX12_isName 27 = .ok (.iconst (-1), 1) := by decide +kernel
theorem dX12_isName_28 : decode cX12_isName 28 = .ok (.if_icmp .ne 7, 3) := by decide +kernel
theorem dX12_isName_31 : decode cX12_isName 31 = .ok (.iconst 1, 1) := by decide +kernel
theorem dX12_isName_32 : decode cX12_isName 32 = .ok (.goto 4, 3) := by decide +kernel
theorem dX12_isName_35 : decode cX12_isName 35 = .ok (.iconst 0, 1) := by decide +kernel
theorem dX12_isName_36 : decode cX12_isName 36 = .ok (.ireturn, 1) := by decide +kernel
def qX12_isName_b36  (post : Int32 → St → Prop)  (s0 : Int32) (u0 : St) : Prop := (bz s0 ∧ post s0 u0)
set_option maxRecDepth 100000 in
set_option maxHeartbeats 4000000 in
theorem kX12_isName_b36 {C : Cx} {o0 : Nat} {a0 : Nat → Nat} (hC : Fx C cX12_isName 2 RX12) (hR0 : xR C = rm 8) {post : Int32 → St → Prop} (hR : RZ C cX12_isName 2 (fun u : St => (wX12 o0 a0 (xy C) u [])) (fun r u => post r u))  {s0 : Int32} {u0 : St} (h : qX12_isName_b36 post s0 u0) : G C 0 0 2 (wX12 o0 a0 (xy C) u0 []) 36 [] [.int s0] := by
  exact hR _ _ _ u0 dX12_isName_36 h.1 h.2
def qX12_isName_b35  (post : Int32 → St → Prop)  (u0 : St) : Prop := qX12_isName_b36 post (0 : Int32) u0
set_option maxRecDepth 100000 in
set_option maxHeartbeats 4000000 in
theorem kX12_isName_b35 {C : Cx} {o0 : Nat} {a0 : Nat → Nat} (hC : Fx C cX12_isName 2 RX12) (hR0 : xR C = rm 8) {post : Int32 → St → Prop} (hR : RZ C cX12_isName 2 (fun u : St => (wX12 o0 a0 (xy C) u [])) (fun r u => post r u))  {u0 : St} (h : qX12_isName_b35 post u0) : G C 0 0 2 (wX12 o0 a0 (xy C) u0 []) 35 [] [] := by
  refine g_iconst (pc := 35) (v := 0) hC dX12_isName_35 (by decide) ?_
  exact kX12_isName_b36 hC hR0 hR  h
def qX12_isName  (u0 : St) (post : Int32 → St → Prop) : Prop := ((¬ (gi u0 12) = (2 : Int32) → qX12_isName_b35 post u0) ∧ ((gi u0 12) = (2 : Int32) → (((8 : Int32) < ((gi u0 14) - (gi u0 13)) → qX12_isName_b35 post u0) ∧ (¬ (8 : Int32) < ((gi u0 14) - (gi u0 13)) → qX12_inWords u0 (fun r_7 u_6 => ((¬ r_7 = (-1 : Int32) → qX12_isName_b35 post u_6) ∧ (r_7 = (-1 : Int32) → qX12_isName_b36 post (1 : Int32) u_6)))))))
set_option maxRecDepth 100000 in
set_option maxHeartbeats 4000000 in
theorem kX12_isName {C : Cx} {o0 : Nat} {a0 : Nat → Nat} (hC : Fx C cX12_isName 2 RX12) (hR0 : xR C = rm 8) {post : Int32 → St → Prop} (hR : RZ C cX12_isName 2 (fun u : St => (wX12 o0 a0 (xy C) u [])) (fun r u => post r u))  {u0 : St} (h : qX12_isName  u0 post) : G C 0 0 2 (wX12 o0 a0 (xy C) u0 []) 0 [(0, .ref o0), (1, .ref (xk C 26))] [] := by
  refine g_aload_n (pc := 0) hC 0 dX12_isName_0 rfl rfl ?_
  refine getX12_12 (pc := 1) hC (F := fun Z => Z) (X := []) (fun _ => rfl) fl_X12_133 dX12_isName_1 ?_
  refine g_iconst (pc := 4) (v := 2) hC dX12_isName_4 (by decide) ?_
  refine g_icmp_ne (pc := 5) (tgt := 35) hC dX12_isName_5 (by decide) (fun c_4 => ?_) (fun c_4 => ?_)
  · have h := h.1 c_4
    refine g_sub (lv' := []) [] rfl ?_
    exact kX12_isName_b35 hC hR0 hR  h
  · have h := h.2 c_4
    refine g_aload_n (pc := 8) hC 0 dX12_isName_8 rfl rfl ?_
    refine getX12_14 (pc := 9) hC (F := fun Z => Z) (X := []) (fun _ => rfl) fl_X12_121 dX12_isName_9 ?_
    refine g_aload_n (pc := 12) hC 0 dX12_isName_12 rfl rfl ?_
    refine getX12_13 (pc := 13) hC (F := fun Z => Z) (X := []) (fun _ => rfl) fl_X12_127 dX12_isName_13 ?_
    refine g_isub (pc := 16) hC dX12_isName_16 ?_
    refine g_bipush (pc := 17) (v := 8) hC dX12_isName_17 (by decide) ?_
    refine g_icmp_gt (pc := 19) (tgt := 35) hC dX12_isName_19 (by decide) (fun c_5 => ?_) (fun c_5 => ?_)
    · have h := h.1 c_5
      refine g_sub (lv' := []) [] rfl ?_
      exact kX12_isName_b35 hC hR0 hR  h
    · have h := h.2 c_5
      refine g_aload_n (pc := 22) hC 0 dX12_isName_22 rfl rfl ?_
      refine g_aload_n (pc := 23) hC 1 dX12_isName_23 rfl rfl ?_
      refine g_callV_i (pc := 24) (wd := fun (u : St) Y => (wX12 o0 a0 (xy C) u Y)) (F := fun Z => Z) (X := []) (As := [.ref (xk C 26)]) (rest := []) (u := u0) hC (fun _ _ => rfl) (fun _ => rfl) (ctX12_inWords h) wvX12_inWords ml_X12_173 (ci := 10) (q0 := 0) rfl rfl rfl rfl (rmok hR0 rfl) ⟨Nat.zero_le _, Nat.zero_le _⟩ rfl (Nat.le_of_ble_eq_true rfl) dX12_isName_24 (fun r_7 u_6 h => ?_)
      refine g_iconst (pc := 27) (v := -1) hC dX12_isName_27 (by decide) ?_
      refine g_icmp_ne (pc := 28) (tgt := 35) hC dX12_isName_28 (by decide) (fun c_9 => ?_) (fun c_9 => ?_)
      · have h := h.1 c_9
        refine g_sub (lv' := []) [] rfl ?_
        exact kX12_isName_b35 hC hR0 hR  h
      · have h := h.2 c_9
        refine g_iconst (pc := 31) (v := 1) hC dX12_isName_31 (by decide) ?_
        refine g_goto (pc := 32) (tgt := 36) hC dX12_isName_32 (by decide) ?_
        refine g_sub (lv' := []) [] rfl ?_
        exact kX12_isName_b36 hC hR0 hR  h
theorem ctX12_isName {l : Launch} {D : va_G} {cy : Nat → ClassId} {kd : Nat → Nat} {o0 : Nat} {a0 : Nat → Nat}  {u0 : St} {post : Int32 → St → Prop} (h : qX12_isName  u0 post) : CtI l D cy kd yX12_isName cX12_isName 2 8 .boolean [.ref o0, .ref (kd 26)] (fun u : St => (wX12 o0 a0 cy u [])) u0 (fun r u => post r u) := met_z (by decide) (Nat.le_of_ble_eq_true rfl) (fun C e1 e2 e3 e4 e5 hC hR => by subst e1 e2 e3 e4; exact kX12_isName hC e5 hR h)
theorem dX12_nameHere_0 : decode cX12_nameHere 0 = .ok (.lconst 0, 1) := by decide +kernel
theorem dX12_nameHere_1 : decode cX12_nameHere 1 = .ok (.lstore_n 1, 1) := by decide +kernel
theorem dX12_nameHere_2 : decode cX12_nameHere 2 = .ok (.aload_n 0, 1) := by decide +kernel
theorem dX12_nameHere_3 : decode cX12_nameHere 3 = .ok (.getfield 127, 3) := by decide +kernel
theorem dX12_nameHere_6 : decode cX12_nameHere 6 = .ok (.istore_n 3, 1) := by decide +kernel
theorem dX12_nameHere_7 : decode cX12_nameHere 7 = .ok (.iload_n 3, 1) := by decide +kernel
theorem dX12_nameHere_8 : decode cX12_nameHere 8 = .ok (.aload_n 0, 1) := by decide +kernel
theorem dX12_nameHere_9 : decode cX12_nameHere 9 = .ok (.getfield 121, 3) := by decide +kernel
theorem dX12_nameHere_12 : decode cX12_nameHere 12 = .ok (.if_icmp .ge 21, 3) := by decide +kernel
theorem dX12_nameHere_15 : decode cX12_nameHere 15 = .ok (.lload_n 1, 1) := by decide +kernel
theorem dX12_nameHere_16 : decode cX12_nameHere 16 = .ok (.bipush 8, 2) := by decide +kernel
theorem dX12_nameHere_18 : decode cX12_nameHere 18 = .ok (.lshl, 1) := by decide +kernel
theorem dX12_nameHere_19 : decode cX12_nameHere 19 = .ok (.aload_n 0, 1) := by decide +kernel
theorem dX12_nameHere_20 : decode cX12_nameHere 20 = .ok (.iload_n 3, 1) := by decide +kernel
theorem dX12_nameHere_21 : decode cX12_nameHere 21 = .ok (.invokevirtual 124, 3) := by decide +kernel
theorem dX12_nameHere_24 : decode cX12_nameHere 24 = .ok (.i2l, 1) := by decide +kernel
theorem dX12_nameHere_25 : decode cX12_nameHere 25 = .ok (.lor, 1) := by decide +kernel
theorem dX12_nameHere_26 : decode cX12_nameHere 26 = .ok (.lstore_n 1, 1) := by decide +kernel
theorem dX12_nameHere_27 : decode cX12_nameHere 27 = .ok (.iinc 3 1, 3) := by decide +kernel
theorem dX12_nameHere_30 : decode cX12_nameHere 30 = .ok (.goto (-23), 3) := by decide +kernel
theorem dX12_nameHere_33 : decode cX12_nameHere 33 = .ok (.lload_n 1, 1) := by decide +kernel
theorem dX12_nameHere_34 : decode cX12_nameHere 34 = .ok (.lreturn, 1) := by decide +kernel
def qX12_nameHere_l7  (post : Int64 → St → Prop) (K7 : Int64 → Int32 → St → Prop) (x1 : Int64) (x3 : Int32) (u0 : St) : Prop := (((gi u0 14) ≤ x3 → post x1 u0) ∧ (¬ (gi u0 14) ≤ x3 → qX12_byteAt x3 u0 (fun r_7 u_6 => ∀ x1_9 : Int64, x1_9 = ((x1 <<< (((8 : Int32)).toInt64 &&& 63)) ||| (r_7).toInt64) → ∀ x3_10 : Int32, x3_10 = x3 + (1 : Int32) → K7 x1_9 x3_10 u_6)))
set_option maxRecDepth 100000 in
set_option maxHeartbeats 4000000 in
theorem kX12_nameHere_l7 {C : Cx} {o0 : Nat} {a0 : Nat → Nat} (hC : Fx C cX12_nameHere 4 RX12) (hR0 : xR C = rm 2) {post : Int64 → St → Prop} (hR : RJ C cX12_nameHere 4 (fun u : St => (wX12 o0 a0 (xy C) u [])) (fun r u => post r u))  {K7 : Int64 → Int32 → St → Prop} (hK7 : ∀ (x1 : Int64) (x3 : Int32) (u0 : St), K7 x1 x3 u0 → G C 0 0 4 (wX12 o0 a0 (xy C) u0 []) 7 [(0, .ref o0), (1, .long x1), (3, .int x3)] []) {x1 : Int64} {x3 : Int32} {u0 : St} (h : qX12_nameHere_l7 post K7 x1 x3 u0) : G C 0 0 4 (wX12 o0 a0 (xy C) u0 []) 7 [(0, .ref o0), (1, .long x1), (3, .int x3)] [] := by
  refine g_iload_n (pc := 7) hC 2 dX12_nameHere_7 rfl rfl ?_
  refine g_aload_n (pc := 8) hC 0 dX12_nameHere_8 rfl rfl ?_
  refine getX12_14 (pc := 9) hC (F := fun Z => Z) (X := []) (fun _ => rfl) fl_X12_121 dX12_nameHere_9 ?_
  refine g_icmp_ge (pc := 12) (tgt := 33) hC dX12_nameHere_12 (by decide) (fun c_5 => ?_) (fun c_5 => ?_)
  · have h := h.1 c_5
    refine g_lload_n (pc := 33) hC 1 dX12_nameHere_33 rfl rfl ?_
    exact hR _ _ _ u0 dX12_nameHere_34 h
  · have h := h.2 c_5
    refine g_lload_n (pc := 15) hC 1 dX12_nameHere_15 rfl rfl ?_
    refine g_bipush (pc := 16) (v := 8) hC dX12_nameHere_16 (by decide) ?_
    refine g_lshl (pc := 18) hC dX12_nameHere_18 ?_
    refine g_aload_n (pc := 19) hC 0 dX12_nameHere_19 rfl rfl ?_
    refine g_iload_n (pc := 20) hC 2 dX12_nameHere_20 rfl rfl ?_
    refine g_callV_i (pc := 21) (wd := fun (u : St) Y => (wX12 o0 a0 (xy C) u Y)) (F := fun Z => Z) (X := []) (As := [.int x3]) (rest := [.long (x1 <<< (((8 : Int32)).toInt64 &&& 63))]) (u := u0) hC (fun _ _ => rfl) (fun _ => rfl) (ctX12_byteAt h) wvX12_byteAt ml_X12_124 (ci := 10) (q0 := 0) rfl rfl rfl rfl (rmok hR0 rfl) ⟨Nat.zero_le _, Nat.zero_le _⟩ rfl (Nat.le_of_ble_eq_true rfl) dX12_nameHere_21 (fun r_7 u_6 h => ?_)
    refine g_i2l (pc := 24) hC dX12_nameHere_24 ?_
    refine g_lor (pc := 25) hC dX12_nameHere_25 ?_
    refine g_topl (fun x1_9 ex1_9 => ?_)
    have h := h x1_9 ex1_9
    refine g_lstore_n (pc := 26) (lv' := [(1, .long x1_9), (0, .ref o0), (3, .int x3)]) hC dX12_nameHere_26 rfl (Nat.le_of_ble_eq_true rfl) rfl ?_
    obtain ⟨x3_10, ex3_10⟩ : ∃ z : Int32, z = x3 + (1 : Int32) := ⟨_, rfl⟩
    have h := h x3_10 ex3_10
    refine g_iinc (pc := 27) (v := x3_10) (lv' := [(3, .int x3_10), (1, .long x1_9), (0, .ref o0)]) hC 2 dX12_nameHere_27 rfl (by rw [ex3_10]; rfl) (Nat.le_of_ble_eq_true rfl) rfl ?_
    refine g_goto (pc := 30) (tgt := 7) hC dX12_nameHere_30 (by decide) ?_
    refine g_sub (lv' := [(0, .ref o0), (1, .long x1_9), (3, .int x3_10)]) [2, 1, 0] rfl ?_
    exact hK7 _ _ _ h
def qX12_nameHere_L7  (post : Int64 → St → Prop)  : Nat → Int64 → Int32 → St → Prop
  | 0 => fun _ _ _ => False
  | n + 1 => qX12_nameHere_l7 post (qX12_nameHere_L7 post n)
theorem kX12_nameHere_L7 {C : Cx} {o0 : Nat} {a0 : Nat → Nat} (hC : Fx C cX12_nameHere 4 RX12) (hR0 : xR C = rm 2) {post : Int64 → St → Prop} (hR : RJ C cX12_nameHere 4 (fun u : St => (wX12 o0 a0 (xy C) u [])) (fun r u => post r u))  : ∀ (n : Nat) (x1 : Int64) (x3 : Int32) (u0 : St), qX12_nameHere_L7 post n x1 x3 u0 → G C 0 0 4 (wX12 o0 a0 (xy C) u0 []) 7 [(0, .ref o0), (1, .long x1), (3, .int x3)] [] := by
  intro n
  induction n with
  | zero => intro x1 x3 u0 h; exact h.elim
  | succ n ih => intro x1 x3 u0 h; exact kX12_nameHere_l7 hC hR0 hR  ih h
def qX12_nameHere  (u0 : St) (post : Int64 → St → Prop) : Prop := ∀ x3_11 : Int32, x3_11 = (gi u0 13) → ∃ n_12 : Nat, qX12_nameHere_L7 post n_12 (0 : Int64) x3_11 u0
set_option maxRecDepth 100000 in
set_option maxHeartbeats 4000000 in
theorem kX12_nameHere {C : Cx} {o0 : Nat} {a0 : Nat → Nat} (hC : Fx C cX12_nameHere 4 RX12) (hR0 : xR C = rm 2) {post : Int64 → St → Prop} (hR : RJ C cX12_nameHere 4 (fun u : St => (wX12 o0 a0 (xy C) u [])) (fun r u => post r u))  {u0 : St} (h : qX12_nameHere  u0 post) : G C 0 0 4 (wX12 o0 a0 (xy C) u0 []) 0 [(0, .ref o0)] [] := by
  refine g_lconst (pc := 0) (v := 0) hC dX12_nameHere_0 (by decide) ?_
  refine g_lstore_n (pc := 1) (lv' := [(1, .long (0 : Int64)), (0, .ref o0)]) hC dX12_nameHere_1 rfl (Nat.le_of_ble_eq_true rfl) rfl ?_
  refine g_aload_n (pc := 2) hC 1 dX12_nameHere_2 rfl rfl ?_
  refine getX12_13 (pc := 3) hC (F := fun Z => Z) (X := []) (fun _ => rfl) fl_X12_127 dX12_nameHere_3 ?_
  refine g_topi (fun x3_11 ex3_11 => ?_)
  have h := h x3_11 ex3_11
  refine g_istore_n (pc := 6) (lv' := [(3, .int x3_11), (1, .long (0 : Int64)), (0, .ref o0)]) hC dX12_nameHere_6 rfl (Nat.le_of_ble_eq_true rfl) rfl ?_
  refine g_sub (lv' := [(0, .ref o0), (1, .long (0 : Int64)), (3, .int x3_11)]) [2, 1, 0] rfl ?_
  obtain ⟨n_12, h⟩ := h
  exact kX12_nameHere_L7 hC hR0 hR  n_12 _ _ _ h
theorem ctX12_nameHere {l : Launch} {D : va_G} {cy : Nat → ClassId} {kd : Nat → Nat} {o0 : Nat} {a0 : Nat → Nat}  {u0 : St} {post : Int64 → St → Prop} (h : qX12_nameHere  u0 post) : CtL l D cy kd yX12_nameHere cX12_nameHere 4 2  [.ref o0] (fun u : St => (wX12 o0 a0 cy u [])) u0 (fun r u => post r u) := met_l (by decide) (Nat.le_of_ble_eq_true rfl) (fun C e1 e2 e3 e4 e5 hC hR => by subst e1 e2 e3 e4; exact kX12_nameHere hC e5 hR h)
theorem dX12_findHere_0 : decode cX12_findHere 0 = .ok (.iconst 0, 1) := by decide +kernel
theorem dX12_findHere_1 : decode cX12_findHere 1 = .ok (.istore_n 3, 1) := by decide +kernel
theorem dX12_findHere_2 : decode cX12_findHere 2 = .ok (.iload_n 3, 1) := by decide +kernel
theorem dX12_findHere_3 : decode cX12_findHere 3 = .ok (.iload_n 2, 1) := by decide +kernel
theorem dX12_findHere_4 : decode cX12_findHere 4 = .ok (.if_icmp .ge 27, 3) := by decide +kernel
theorem dX12_findHere_7 : decode cX12_findHere 7 = .ok (.aload_n 0, 1) := by decide +kernel
theorem dX12_findHere_8 : decode cX12_findHere 8 = .ok (.getfield 13, 3) := by decide +kernel
theorem dX12_findHere_11 : decode cX12_findHere 11 = .ok (.iload_n 1, 1) := by decide +kernel
theorem dX12_findHere_12 : decode cX12_findHere 12 = .ok (.iload_n 3, 1) := by decide +kernel
theorem dX12_findHere_13 : decode cX12_findHere 13 = .ok (.iadd, 1) := by decide +kernel
theorem dX12_findHere_14 : decode cX12_findHere 14 = .ok (.laload, 1) := by decide +kernel
theorem dX12_findHere_15 : decode cX12_findHere 15 = .ok (.aload_n 0, 1) := by decide +kernel
theorem dX12_findHere_16 : decode cX12_findHere 16 = .ok (.invokevirtual 177, 3) := by decide +kernel
theorem dX12_findHere_19 : decode cX12_findHere 19 = .ok (.lcmp, 1) := by decide +kernel
theorem dX12_findHere_20 : decode cX12_findHere 20 = .ok (.ifCond .ne 5, 3) := by decide +kernel
theorem dX12_findHere_23 : decode cX12_findHere 23 = .ok (.iload_n 3, 1) := by decide +kernel
theorem dX12_findHere_24 : decode cX12_findHere 24 = .ok (.ireturn, 1) := by decide +kernel
theorem dX12_findHere_25 : decode cX12_findHere 25 = .ok (.iinc 3 1, 3) := by decide +kernel
theorem dX12_findHere_28 : decode cX12_findHere 28 = .ok (.goto (-26), 3) := by decide +kernel
theorem dX12_findHere_31 : decode cX12_findHere 31 = .ok (.iconst (-1), 1) := by decide +kernel
theorem dX12_findHere_32 : decode cX12_findHere 32 = .ok (.ireturn, 1) := by decide +kernel
def qX12_findHere_l2  (post : Int32 → St → Prop) (K2 : Int32 → Int32 → Int32 → St → Prop) (x1 : Int32) (x2 : Int32) (x3 : Int32) (u0 : St) : Prop := ((x2 ≤ x3 → post (-1 : Int32) u0) ∧ (¬ x2 ≤ x3 → (vp_in (x1 + x3) 30 ∧ qX12_nameHere u0 (fun r_7 u_6 => ((¬ (lg_cmp (gl u0 1 ((x1 + x3)).toNatClampNeg) r_7) = 0 → ∀ x3_10 : Int32, x3_10 = x3 + (1 : Int32) → K2 x1 x2 x3_10 u_6) ∧ ((lg_cmp (gl u0 1 ((x1 + x3)).toNatClampNeg) r_7) = 0 → post x3 u_6))))))
set_option maxRecDepth 100000 in
set_option maxHeartbeats 4000000 in
theorem kX12_findHere_l2 {C : Cx} {o0 : Nat} {a0 : Nat → Nat} (hC : Fx C cX12_findHere 4 RX12) (hR0 : xR C = rm 3) {post : Int32 → St → Prop} (hR : RI C cX12_findHere 4 (fun u : St => (wX12 o0 a0 (xy C) u [])) (fun r u => post r u))  {K2 : Int32 → Int32 → Int32 → St → Prop} (hK2 : ∀ (x1 : Int32) (x2 : Int32) (x3 : Int32) (u0 : St), K2 x1 x2 x3 u0 → G C 0 0 4 (wX12 o0 a0 (xy C) u0 []) 2 [(0, .ref o0), (1, .int x1), (2, .int x2), (3, .int x3)] []) {x1 : Int32} {x2 : Int32} {x3 : Int32} {u0 : St} (h : qX12_findHere_l2 post K2 x1 x2 x3 u0) : G C 0 0 4 (wX12 o0 a0 (xy C) u0 []) 2 [(0, .ref o0), (1, .int x1), (2, .int x2), (3, .int x3)] [] := by
  refine g_iload_n (pc := 2) hC 3 dX12_findHere_2 rfl rfl ?_
  refine g_iload_n (pc := 3) hC 2 dX12_findHere_3 rfl rfl ?_
  refine g_icmp_ge (pc := 4) (tgt := 31) hC dX12_findHere_4 (by decide) (fun c_5 => ?_) (fun c_5 => ?_)
  · have h := h.1 c_5
    refine g_iconst (pc := 31) (v := -1) hC dX12_findHere_31 (by decide) ?_
    exact hR _ _ _ u0 dX12_findHere_32 h
  · have h := h.2 c_5
    refine g_aload_n (pc := 7) hC 0 dX12_findHere_7 rfl rfl ?_
    refine getX12_1 (pc := 8) hC (F := fun Z => Z) (X := []) (fun _ => rfl) fl_X12_13 dX12_findHere_8 ?_
    refine g_iload_n (pc := 11) hC 1 dX12_findHere_11 rfl rfl ?_
    refine g_iload_n (pc := 12) hC 3 dX12_findHere_12 rfl rfl ?_
    refine g_iadd (pc := 13) hC dX12_findHere_13 ?_
    refine aldX12_1 (pc := 14) hC (F := fun Z => Z) (X := []) (fun _ => rfl) h.1 dX12_findHere_14 ?_
    have h := h.2
    refine g_aload_n (pc := 15) hC 0 dX12_findHere_15 rfl rfl ?_
    refine g_callV_l (pc := 16) (wd := fun (u : St) Y => (wX12 o0 a0 (xy C) u Y)) (F := fun Z => Z) (X := []) (As := []) (rest := [.long (gl u0 1 ((x1 + x3)).toNatClampNeg)]) (u := u0) hC (fun _ _ => rfl) (fun _ => rfl) (ctX12_nameHere h) wvX12_nameHere ml_X12_177 (ci := 10) (q0 := 0) rfl rfl rfl rfl (rmok hR0 rfl) ⟨Nat.zero_le _, Nat.zero_le _⟩ rfl (Nat.le_of_ble_eq_true rfl) dX12_findHere_16 (fun r_7 u_6 h => ?_)
    refine g_lcmp (pc := 19) hC dX12_findHere_19 ?_
    refine g_if_ne (pc := 20) (tgt := 25) hC dX12_findHere_20 (by decide) (fun c_9 => ?_) (fun c_9 => ?_)
    · have h := h.1 c_9
      obtain ⟨x3_10, ex3_10⟩ : ∃ z : Int32, z = x3 + (1 : Int32) := ⟨_, rfl⟩
      have h := h x3_10 ex3_10
      refine g_iinc (pc := 25) (v := x3_10) (lv' := [(3, .int x3_10), (0, .ref o0), (1, .int x1), (2, .int x2)]) hC 3 dX12_findHere_25 rfl (by rw [ex3_10]; rfl) (Nat.le_of_ble_eq_true rfl) rfl ?_
      refine g_goto (pc := 28) (tgt := 2) hC dX12_findHere_28 (by decide) ?_
      refine g_sub (lv' := [(0, .ref o0), (1, .int x1), (2, .int x2), (3, .int x3_10)]) [1, 2, 3, 0] rfl ?_
      exact hK2 _ _ _ _ h
    · have h := h.2 c_9
      refine g_iload_n (pc := 23) hC 3 dX12_findHere_23 rfl rfl ?_
      exact hR _ _ _ u_6 dX12_findHere_24 h
def qX12_findHere_L2  (post : Int32 → St → Prop)  : Nat → Int32 → Int32 → Int32 → St → Prop
  | 0 => fun _ _ _ _ => False
  | n + 1 => qX12_findHere_l2 post (qX12_findHere_L2 post n)
theorem kX12_findHere_L2 {C : Cx} {o0 : Nat} {a0 : Nat → Nat} (hC : Fx C cX12_findHere 4 RX12) (hR0 : xR C = rm 3) {post : Int32 → St → Prop} (hR : RI C cX12_findHere 4 (fun u : St => (wX12 o0 a0 (xy C) u [])) (fun r u => post r u))  : ∀ (n : Nat) (x1 : Int32) (x2 : Int32) (x3 : Int32) (u0 : St), qX12_findHere_L2 post n x1 x2 x3 u0 → G C 0 0 4 (wX12 o0 a0 (xy C) u0 []) 2 [(0, .ref o0), (1, .int x1), (2, .int x2), (3, .int x3)] [] := by
  intro n
  induction n with
  | zero => intro x1 x2 x3 u0 h; exact h.elim
  | succ n ih => intro x1 x2 x3 u0 h; exact kX12_findHere_l2 hC hR0 hR  ih h
def qX12_findHere (x1 : Int32) (x2 : Int32) (u0 : St) (post : Int32 → St → Prop) : Prop := ∃ n_11 : Nat, qX12_findHere_L2 post n_11 x1 x2 (0 : Int32) u0
set_option maxRecDepth 100000 in
set_option maxHeartbeats 4000000 in
theorem kX12_findHere {C : Cx} {o0 : Nat} {a0 : Nat → Nat} (hC : Fx C cX12_findHere 4 RX12) (hR0 : xR C = rm 3) {post : Int32 → St → Prop} (hR : RI C cX12_findHere 4 (fun u : St => (wX12 o0 a0 (xy C) u [])) (fun r u => post r u)) {x1 : Int32} {x2 : Int32} {u0 : St} (h : qX12_findHere x1 x2 u0 post) : G C 0 0 4 (wX12 o0 a0 (xy C) u0 []) 0 [(0, .ref o0), (1, .int x1), (2, .int x2)] [] := by
  refine g_iconst (pc := 0) (v := 0) hC dX12_findHere_0 (by decide) ?_
  refine g_istore_n (pc := 1) (lv' := [(3, .int (0 : Int32)), (0, .ref o0), (1, .int x1), (2, .int x2)]) hC dX12_findHere_1 rfl (Nat.le_of_ble_eq_true rfl) rfl ?_
  refine g_sub (lv' := [(0, .ref o0), (1, .int x1), (2, .int x2), (3, .int (0 : Int32))]) [1, 2, 3, 0] rfl ?_
  obtain ⟨n_11, h⟩ := h
  exact kX12_findHere_L2 hC hR0 hR  n_11 _ _ _ _ h
theorem ctX12_findHere {l : Launch} {D : va_G} {cy : Nat → ClassId} {kd : Nat → Nat} {o0 : Nat} {a0 : Nat → Nat} {x1 : Int32} {x2 : Int32} {u0 : St} {post : Int32 → St → Prop} (h : qX12_findHere x1 x2 u0 post) : CtI l D cy kd yX12_findHere cX12_findHere 4 3 .int [.ref o0, .int x1, .int x2] (fun u : St => (wX12 o0 a0 cy u [])) u0 (fun r u => post r u) := met_i (by decide) (Nat.le_of_ble_eq_true rfl) (fun C e1 e2 e3 e4 e5 hC hR => by subst e1 e2 e3 e4; exact kX12_findHere hC e5 hR h)
theorem dX12_fault_0 : decode cX12_fault 0 = .ok (.iload_n 1, 1) := by decide +kernel
theorem dX12_fault_1 : decode cX12_fault 1 = .ok (.ifCond .ne 10, 3) := by decide +kernel
theorem dX12_fault_4 : decode cX12_fault 4 = .ok (.aload_n 0, 1) := by decide +kernel
theorem dX12_fault_5 : decode cX12_fault 5 = .ok (.getfield 37, 3) := by decide +kernel
theorem dX12_fault_8 : decode cX12_fault 8 = .ok (.goto 16, 3) := by decide +kernel
theorem dX12_fault_11 : decode cX12_fault 11 = .ok (.iload_n 1, 1) := by decide +kernel
theorem dX12_fault_12 : decode cX12_fault 12 = .ok (.iconst 1, 1) := by decide +kernel
theorem dX12_fault_13 : decode cX12_fault 13 = .ok (.if_icmp .ne 10, 3) := by decide +kernel
theorem dX12_fault_16 : decode cX12_fault 16 = .ok (.aload_n 0, 1) := by decide +kernel
theorem dX12_fault_17 : decode cX12_fault 17 = .ok (.getfield 41, 3) := by decide +kernel
theorem dX12_fault_20 : decode cX12_fault 20 = .ok (.goto 4, 3) := by decide +kernel
theorem dX12_fault_23 : decode cX12_fault 23 = .ok (.iconst (-1), 1) := by decide +kernel
theorem dX12_fault_24 : decode cX12_fault 24 = .ok (.ireturn, 1) := by decide +kernel
def qX12_fault_b24  (post : Int32 → St → Prop)  (s0 : Int32) (u0 : St) : Prop := post s0 u0
set_option maxRecDepth 100000 in
set_option maxHeartbeats 4000000 in
theorem kX12_fault_b24 {C : Cx} {o0 : Nat} {a0 : Nat → Nat} (hC : Fx C cX12_fault 2 RX12) (hR0 : xR C = rm 1) {post : Int32 → St → Prop} (hR : RI C cX12_fault 2 (fun u : St => (wX12 o0 a0 (xy C) u [])) (fun r u => post r u))  {s0 : Int32} {u0 : St} (h : qX12_fault_b24 post s0 u0) : G C 0 0 2 (wX12 o0 a0 (xy C) u0 []) 24 [] [.int s0] := by
  exact hR _ _ _ u0 dX12_fault_24 h
def qX12_fault (x1 : Int32) (u0 : St) (post : Int32 → St → Prop) : Prop := ((¬ x1 = 0 → ((¬ x1 = (1 : Int32) → qX12_fault_b24 post (-1 : Int32) u0) ∧ (x1 = (1 : Int32) → qX12_fault_b24 post (gi u0 17) u0))) ∧ (x1 = 0 → qX12_fault_b24 post (gi u0 16) u0))
set_option maxRecDepth 100000 in
set_option maxHeartbeats 4000000 in
theorem kX12_fault {C : Cx} {o0 : Nat} {a0 : Nat → Nat} (hC : Fx C cX12_fault 2 RX12) (hR0 : xR C = rm 1) {post : Int32 → St → Prop} (hR : RI C cX12_fault 2 (fun u : St => (wX12 o0 a0 (xy C) u [])) (fun r u => post r u)) {x1 : Int32} {u0 : St} (h : qX12_fault x1 u0 post) : G C 0 0 2 (wX12 o0 a0 (xy C) u0 []) 0 [(0, .ref o0), (1, .int x1)] [] := by
  refine g_iload_n (pc := 0) hC 1 dX12_fault_0 rfl rfl ?_
  refine g_if_ne (pc := 1) (tgt := 11) hC dX12_fault_1 (by decide) (fun c_1 => ?_) (fun c_1 => ?_)
  · have h := h.1 c_1
    refine g_iload_n (pc := 11) hC 1 dX12_fault_11 rfl rfl ?_
    refine g_iconst (pc := 12) (v := 1) hC dX12_fault_12 (by decide) ?_
    refine g_icmp_ne (pc := 13) (tgt := 23) hC dX12_fault_13 (by decide) (fun c_2 => ?_) (fun c_2 => ?_)
    · have h := h.1 c_2
      refine g_iconst (pc := 23) (v := -1) hC dX12_fault_23 (by decide) ?_
      refine g_sub (lv' := []) [] rfl ?_
      exact kX12_fault_b24 hC hR0 hR  h
    · have h := h.2 c_2
      refine g_aload_n (pc := 16) hC 0 dX12_fault_16 rfl rfl ?_
      refine getX12_17 (pc := 17) hC (F := fun Z => Z) (X := []) (fun _ => rfl) fl_X12_41 dX12_fault_17 ?_
      refine g_goto (pc := 20) (tgt := 24) hC dX12_fault_20 (by decide) ?_
      refine g_sub (lv' := []) [] rfl ?_
      exact kX12_fault_b24 hC hR0 hR  h
  · have h := h.2 c_1
    refine g_aload_n (pc := 4) hC 0 dX12_fault_4 rfl rfl ?_
    refine getX12_16 (pc := 5) hC (F := fun Z => Z) (X := []) (fun _ => rfl) fl_X12_37 dX12_fault_5 ?_
    refine g_goto (pc := 8) (tgt := 24) hC dX12_fault_8 (by decide) ?_
    refine g_sub (lv' := []) [] rfl ?_
    exact kX12_fault_b24 hC hR0 hR  h
theorem ctX12_fault {l : Launch} {D : va_G} {cy : Nat → ClassId} {kd : Nat → Nat} {o0 : Nat} {a0 : Nat → Nat} {x1 : Int32} {u0 : St} {post : Int32 → St → Prop} (h : qX12_fault x1 u0 post) : CtI l D cy kd yX12_fault cX12_fault 2 1 .int [.ref o0, .int x1] (fun u : St => (wX12 o0 a0 cy u [])) u0 (fun r u => post r u) := met_i (by decide) (Nat.le_of_ble_eq_true rfl) (fun C e1 e2 e3 e4 e5 hC hR => by subst e1 e2 e3 e4; exact kX12_fault hC e5 hR h)
theorem dX12_taken_0 : decode cX12_taken 0 = .ok (.aload_n 0, 1) := by decide +kernel
theorem dX12_taken_1 : decode cX12_taken 1 = .ok (.aload_n 0, 1) := by decide +kernel
theorem dX12_taken_2 : decode cX12_taken 2 = .ok (.getfield 158, 3) := by decide +kernel
theorem dX12_taken_5 : decode cX12_taken 5 = .ok (.putfield 37, 3) := by decide +kernel
theorem dX12_taken_8 : decode cX12_taken 8 = .ok (.aload_n 0, 1) := by decide +kernel
theorem dX12_taken_9 : decode cX12_taken 9 = .ok (.getfield 158, 3) := by decide +kernel
theorem dX12_taken_12 : decode cX12_taken 12 = .ok (.ifCond .le 12, 3) := by decide +kernel
theorem dX12_taken_15 : decode cX12_taken 15 = .ok (.aload_n 0, 1) := by decide +kernel
theorem dX12_taken_16 : decode cX12_taken 16 = .ok (.bipush 9, 2) := by decide +kernel
theorem dX12_taken_18 : decode cX12_taken 18 = .ok (.invokevirtual 88, 3) := by decide +kernel
theorem dX12_taken_21 : decode cX12_taken 21 = .ok (.goto 8, 3) := by decide +kernel
theorem dX12_taken_24 : decode cX12_taken 24 = .ok (.aload_n 0, 1) := by decide +kernel
theorem dX12_taken_25 : decode cX12_taken 25 = .ok (.iload_n 1, 1) := by decide +kernel
theorem dX12_taken_26 : decode cX12_taken 26 = .ok (.invokevirtual 92, 3) := by decide +kernel
theorem dX12_taken_29 : decode cX12_taken 29 = .ok (.ireturn, 1) := by decide +kernel
def qX12_taken_b29  (post : Int32 → St → Prop)  (s0 : Int32) (u0 : St) : Prop := post s0 u0
set_option maxRecDepth 100000 in
set_option maxHeartbeats 4000000 in
theorem kX12_taken_b29 {C : Cx} {o0 : Nat} {a0 : Nat → Nat} (hC : Fx C cX12_taken 2 RX12) (hR0 : xR C = rm 2) {post : Int32 → St → Prop} (hR : RI C cX12_taken 2 (fun u : St => (wX12 o0 a0 (xy C) u [])) (fun r u => post r u))  {s0 : Int32} {u0 : St} (h : qX12_taken_b29 post s0 u0) : G C 0 0 2 (wX12 o0 a0 (xy C) u0 []) 29 [] [.int s0] := by
  exact hR _ _ _ u0 dX12_taken_29 h
def qX12_taken (x1 : Int32) (u0 : St) (post : Int32 → St → Prop) : Prop := ∀ u_8 : St, u_8 = (si u0 16 (gi u0 18)) → (((gi u_8 18) ≤ 0 → qX12_gives x1 u_8 (fun r_11 u_10 => qX12_taken_b29 post r_11 u_10)) ∧ (¬ (gi u_8 18) ≤ 0 → qX12_refuse (9 : Int32) u_8 (fun r_14 u_13 => qX12_taken_b29 post r_14 u_13)))
set_option maxRecDepth 100000 in
set_option maxHeartbeats 4000000 in
theorem kX12_taken {C : Cx} {o0 : Nat} {a0 : Nat → Nat} (hC : Fx C cX12_taken 2 RX12) (hR0 : xR C = rm 2) {post : Int32 → St → Prop} (hR : RI C cX12_taken 2 (fun u : St => (wX12 o0 a0 (xy C) u [])) (fun r u => post r u)) {x1 : Int32} {u0 : St} (h : qX12_taken x1 u0 post) : G C 0 0 2 (wX12 o0 a0 (xy C) u0 []) 0 [(0, .ref o0), (1, .int x1)] [] := by
  refine g_aload_n (pc := 0) hC 0 dX12_taken_0 rfl rfl ?_
  refine g_aload_n (pc := 1) hC 0 dX12_taken_1 rfl rfl ?_
  refine getX12_18 (pc := 2) hC (F := fun Z => Z) (X := []) (fun _ => rfl) fl_X12_158 dX12_taken_2 ?_
  refine putX12_16 (pc := 5) hC (F := fun Z => Z) (X := []) (fun _ => rfl) fl_X12_37 dX12_taken_5 ?_
  refine g_st (w := fun z => (wX12 o0 a0 (xy C) z [])) (u := (si u0 16 (gi u0 18))) (fun u_8 eu_8 => ?_)
  have h := h u_8 eu_8
  refine g_aload_n (pc := 8) hC 0 dX12_taken_8 rfl rfl ?_
  refine getX12_18 (pc := 9) hC (F := fun Z => Z) (X := []) (fun _ => rfl) fl_X12_158 dX12_taken_9 ?_
  refine g_if_le (pc := 12) (tgt := 24) hC dX12_taken_12 (by decide) (fun c_9 => ?_) (fun c_9 => ?_)
  · have h := h.1 c_9
    refine g_aload_n (pc := 24) hC 0 dX12_taken_24 rfl rfl ?_
    refine g_iload_n (pc := 25) hC 1 dX12_taken_25 rfl rfl ?_
    refine g_callV_i (pc := 26) (wd := fun (u : St) Y => (wX12 o0 a0 (xy C) u Y)) (F := fun Z => Z) (X := []) (As := [.int x1]) (rest := []) (u := u_8) hC (fun _ _ => rfl) (fun _ => rfl) (ctX12_gives h) wvX12_gives ml_X12_92 (ci := 10) (q0 := 0) rfl rfl rfl rfl (rmok hR0 rfl) ⟨Nat.zero_le _, Nat.zero_le _⟩ rfl (Nat.le_of_ble_eq_true rfl) dX12_taken_26 (fun r_11 u_10 h => ?_)
    refine g_sub (lv' := []) [] rfl ?_
    exact kX12_taken_b29 hC hR0 hR  h
  · have h := h.2 c_9
    refine g_aload_n (pc := 15) hC 0 dX12_taken_15 rfl rfl ?_
    refine g_bipush (pc := 16) (v := 9) hC dX12_taken_16 (by decide) ?_
    refine g_callV_i (pc := 18) (wd := fun (u : St) Y => (wX12 o0 a0 (xy C) u Y)) (F := fun Z => Z) (X := []) (As := [.int (9 : Int32)]) (rest := []) (u := u_8) hC (fun _ _ => rfl) (fun _ => rfl) (ctX12_refuse h) wvX12_refuse ml_X12_88 (ci := 10) (q0 := 0) rfl rfl rfl rfl (rmok hR0 rfl) ⟨Nat.zero_le _, Nat.zero_le _⟩ rfl (Nat.le_of_ble_eq_true rfl) dX12_taken_18 (fun r_14 u_13 h => ?_)
    refine g_goto (pc := 21) (tgt := 29) hC dX12_taken_21 (by decide) ?_
    refine g_sub (lv' := []) [] rfl ?_
    exact kX12_taken_b29 hC hR0 hR  h
theorem ctX12_taken {l : Launch} {D : va_G} {cy : Nat → ClassId} {kd : Nat → Nat} {o0 : Nat} {a0 : Nat → Nat} {x1 : Int32} {u0 : St} {post : Int32 → St → Prop} (h : qX12_taken x1 u0 post) : CtI l D cy kd yX12_taken cX12_taken 2 2 .int [.ref o0, .int x1] (fun u : St => (wX12 o0 a0 cy u [])) u0 (fun r u => post r u) := met_i (by decide) (Nat.le_of_ble_eq_true rfl) (fun C e1 e2 e3 e4 e5 hC hR => by subst e1 e2 e3 e4; exact kX12_taken hC e5 hR h)
theorem dX12_stoneRow_0 : decode cX12_stoneRow 0 = .ok (.bipush 10, 2) := by decide +kernel
theorem dX12_stoneRow_2 : decode cX12_stoneRow 2 = .ok (.iconst 3, 1) := by decide +kernel
theorem dX12_stoneRow_3 : decode cX12_stoneRow 3 = .ok (.iload_n 0, 1) := by decide +kernel
theorem dX12_stoneRow_4 : decode cX12_stoneRow 4 = .ok (.imul, 1) := by decide +kernel
theorem dX12_stoneRow_5 : decode cX12_stoneRow 5 = .ok (.iadd, 1) := by decide +kernel
theorem dX12_stoneRow_6 : decode cX12_stoneRow 6 = .ok (.ireturn, 1) := by decide +kernel
def qX12_stoneRow (x0 : Int32)  (post : Int32 → Prop) : Prop := post ((10 : Int32) + ((3 : Int32) * x0)) 
set_option maxRecDepth 100000 in
set_option maxHeartbeats 4000000 in
theorem kX12_stoneRow {C : Cx}  (hC : Fx C cX12_stoneRow 1 RX12) (hR0 : xR C = rm 1) {post : Int32 → Prop} (hR : RI C cX12_stoneRow 1 (fun _ : Unit => ([] : va_W)) (fun r _ => post r )) {x0 : Int32}  (h : qX12_stoneRow x0  post) : G C 0 0 1 [] 0 [(0, .int x0)] [] := by
  refine g_bipush (pc := 0) (v := 10) hC dX12_stoneRow_0 (by decide) ?_
  refine g_iconst (pc := 2) (v := 3) hC dX12_stoneRow_2 (by decide) ?_
  refine g_iload_n (pc := 3) hC 0 dX12_stoneRow_3 rfl rfl ?_
  refine g_imul (pc := 4) hC dX12_stoneRow_4 ?_
  refine g_iadd (pc := 5) hC dX12_stoneRow_5 ?_
  exact hR _ _ _ () dX12_stoneRow_6 h
theorem ctX12_stoneRow {l : Launch} {D : va_G} {cy : Nat → ClassId} {kd : Nat → Nat}  {x0 : Int32}  {post : Int32 → Prop} (h : qX12_stoneRow x0  post) : CtI l D cy kd yX12_stoneRow cX12_stoneRow 1 1 .int [.int x0] (fun _ : Unit => ([] : va_W)) () (fun r _ => post r ) := met_i (by decide) (Nat.le_of_ble_eq_true rfl) (fun C e1 e2 e3 e4 e5 hC hR => by subst e1 e2 e3 e4; exact kX12_stoneRow hC e5 hR h)
theorem dX12_debtRow_0 : decode cX12_debtRow 0 = .ok (.bipush 39, 2) := by decide +kernel
theorem dX12_debtRow_2 : decode cX12_debtRow 2 = .ok (.bipush 7, 2) := by decide +kernel
theorem dX12_debtRow_4 : decode cX12_debtRow 4 = .ok (.iload_n 0, 1) := by decide +kernel
theorem dX12_debtRow_5 : decode cX12_debtRow 5 = .ok (.imul, 1) := by decide +kernel
theorem dX12_debtRow_6 : decode cX12_debtRow 6 = .ok (.iadd, 1) := by decide +kernel
theorem dX12_debtRow_7 : decode cX12_debtRow 7 = .ok (.ireturn, 1) := by decide +kernel
def qX12_debtRow (x0 : Int32)  (post : Int32 → Prop) : Prop := post ((39 : Int32) + ((7 : Int32) * x0)) 
set_option maxRecDepth 100000 in
set_option maxHeartbeats 4000000 in
theorem kX12_debtRow {C : Cx}  (hC : Fx C cX12_debtRow 1 RX12) (hR0 : xR C = rm 1) {post : Int32 → Prop} (hR : RI C cX12_debtRow 1 (fun _ : Unit => ([] : va_W)) (fun r _ => post r )) {x0 : Int32}  (h : qX12_debtRow x0  post) : G C 0 0 1 [] 0 [(0, .int x0)] [] := by
  refine g_bipush (pc := 0) (v := 39) hC dX12_debtRow_0 (by decide) ?_
  refine g_bipush (pc := 2) (v := 7) hC dX12_debtRow_2 (by decide) ?_
  refine g_iload_n (pc := 4) hC 0 dX12_debtRow_4 rfl rfl ?_
  refine g_imul (pc := 5) hC dX12_debtRow_5 ?_
  refine g_iadd (pc := 6) hC dX12_debtRow_6 ?_
  exact hR _ _ _ () dX12_debtRow_7 h
theorem ctX12_debtRow {l : Launch} {D : va_G} {cy : Nat → ClassId} {kd : Nat → Nat}  {x0 : Int32}  {post : Int32 → Prop} (h : qX12_debtRow x0  post) : CtI l D cy kd yX12_debtRow cX12_debtRow 1 1 .int [.int x0] (fun _ : Unit => ([] : va_W)) () (fun r _ => post r ) := met_i (by decide) (Nat.le_of_ble_eq_true rfl) (fun C e1 e2 e3 e4 e5 hC hR => by subst e1 e2 e3 e4; exact kX12_debtRow hC e5 hR h)
theorem dX12_isIn_0 : decode cX12_isIn 0 = .ok (.iload_n 1, 1) := by decide +kernel
theorem dX12_isIn_1 : decode cX12_isIn 1 = .ok (.iload_n 2, 1) := by decide +kernel
theorem dX12_isIn_2 : decode cX12_isIn 2 = .ok (.ishr, 1) := by decide +kernel
theorem dX12_isIn_3 : decode cX12_isIn 3 = .ok (.iconst 1, 1) := by decide +kernel
theorem dX12_isIn_4 : decode cX12_isIn 4 = .ok (.iand, 1) := by decide +kernel
theorem dX12_isIn_5 : decode cX12_isIn 5 = .ok (.iconst 1, 1) := by decide +kernel
theorem dX12_isIn_6 : decode cX12_isIn 6 = .ok (.if_icmp .ne 7, 3) := by decide +kernel
theorem dX12_isIn_9 : decode cX12_isIn 9 = .ok (.iconst 1, 1) := by decide +kernel
theorem dX12_isIn_10 : decode cX12_isIn 10 = .ok (.goto 4, 3) := by decide +kernel
theorem dX12_isIn_13 : decode cX12_isIn 13 = .ok (.iconst 0, 1) := by decide +kernel
theorem dX12_isIn_14 : decode cX12_isIn 14 = .ok (.ireturn, 1) := by decide +kernel
def qX12_isIn_b14  (post : Int32 → St → Prop)  (s0 : Int32) (u0 : St) : Prop := (bz s0 ∧ post s0 u0)
set_option maxRecDepth 100000 in
set_option maxHeartbeats 4000000 in
theorem kX12_isIn_b14 {C : Cx} {o0 : Nat} {a0 : Nat → Nat} (hC : Fx C cX12_isIn 3 RX12) (hR0 : xR C = rm 1) {post : Int32 → St → Prop} (hR : RZ C cX12_isIn 3 (fun u : St => (wX12 o0 a0 (xy C) u [])) (fun r u => post r u))  {s0 : Int32} {u0 : St} (h : qX12_isIn_b14 post s0 u0) : G C 0 0 3 (wX12 o0 a0 (xy C) u0 []) 14 [] [.int s0] := by
  exact hR _ _ _ u0 dX12_isIn_14 h.1 h.2
def qX12_isIn (x1 : Int32) (x2 : Int32) (u0 : St) (post : Int32 → St → Prop) : Prop := ((¬ ((x1 >>> (x2 &&& 31)) &&& (1 : Int32)) = (1 : Int32) → qX12_isIn_b14 post (0 : Int32) u0) ∧ (((x1 >>> (x2 &&& 31)) &&& (1 : Int32)) = (1 : Int32) → qX12_isIn_b14 post (1 : Int32) u0))
set_option maxRecDepth 100000 in
set_option maxHeartbeats 4000000 in
theorem kX12_isIn {C : Cx} {o0 : Nat} {a0 : Nat → Nat} (hC : Fx C cX12_isIn 3 RX12) (hR0 : xR C = rm 1) {post : Int32 → St → Prop} (hR : RZ C cX12_isIn 3 (fun u : St => (wX12 o0 a0 (xy C) u [])) (fun r u => post r u)) {x1 : Int32} {x2 : Int32} {u0 : St} (h : qX12_isIn x1 x2 u0 post) : G C 0 0 3 (wX12 o0 a0 (xy C) u0 []) 0 [(0, .ref o0), (1, .int x1), (2, .int x2)] [] := by
  refine g_iload_n (pc := 0) hC 1 dX12_isIn_0 rfl rfl ?_
  refine g_iload_n (pc := 1) hC 2 dX12_isIn_1 rfl rfl ?_
  refine g_ishr (pc := 2) hC dX12_isIn_2 ?_
  refine g_iconst (pc := 3) (v := 1) hC dX12_isIn_3 (by decide) ?_
  refine g_iand (pc := 4) hC dX12_isIn_4 ?_
  refine g_iconst (pc := 5) (v := 1) hC dX12_isIn_5 (by decide) ?_
  refine g_icmp_ne (pc := 6) (tgt := 13) hC dX12_isIn_6 (by decide) (fun c_1 => ?_) (fun c_1 => ?_)
  · have h := h.1 c_1
    refine g_iconst (pc := 13) (v := 0) hC dX12_isIn_13 (by decide) ?_
    refine g_sub (lv' := []) [] rfl ?_
    exact kX12_isIn_b14 hC hR0 hR  h
  · have h := h.2 c_1
    refine g_iconst (pc := 9) (v := 1) hC dX12_isIn_9 (by decide) ?_
    refine g_goto (pc := 10) (tgt := 14) hC dX12_isIn_10 (by decide) ?_
    refine g_sub (lv' := []) [] rfl ?_
    exact kX12_isIn_b14 hC hR0 hR  h
theorem ctX12_isIn {l : Launch} {D : va_G} {cy : Nat → ClassId} {kd : Nat → Nat} {o0 : Nat} {a0 : Nat → Nat} {x1 : Int32} {x2 : Int32} {u0 : St} {post : Int32 → St → Prop} (h : qX12_isIn x1 x2 u0 post) : CtI l D cy kd yX12_isIn cX12_isIn 3 1 .boolean [.ref o0, .int x1, .int x2] (fun u : St => (wX12 o0 a0 cy u [])) u0 (fun r u => post r u) := met_z (by decide) (Nat.le_of_ble_eq_true rfl) (fun C e1 e2 e3 e4 e5 hC hR => by subst e1 e2 e3 e4; exact kX12_isIn hC e5 hR h)
