/-! texts of the JDK; names -/
theorem dJ3_checkIndex_8e157_0 : decode cJ3_checkIndex_8e157 0 = .ok (.iload_n 0, 1) := by decide +kernel
theorem dJ3_checkIndex_8e157_1 : decode cJ3_checkIndex_8e157 1 = .ok (.ifCond .lt 8, 3) := by decide +kernel
theorem dJ3_checkIndex_8e157_4 : decode cJ3_checkIndex_8e157 4 = .ok (.iload_n 0, 1) := by decide +kernel
theorem dJ3_checkIndex_8e157_5 : decode cJ3_checkIndex_8e157 5 = .ok (.iload_n 1, 1) := by decide +kernel
theorem dJ3_checkIndex_8e157_6 : decode cJ3_checkIndex_8e157 6 = .ok (.if_icmp .lt 10, 3) := by decide +kernel
theorem dJ3_checkIndex_8e157_16 : decode cJ3_checkIndex_8e157 16 = .ok (.iload_n 0, 1) := by decide +kernel
theorem dJ3_checkIndex_8e157_17 : decode cJ3_checkIndex_8e157 17 = .ok (.ireturn, 1) := by decide +kernel
def qJ3_checkIndex_8e157 (x0 : Int32) (x1 : Int32) (v2 : Value)  (post : Int32 → Prop) : Prop := ((x0 < 0 → False) ∧ (¬ x0 < 0 → ((x0 < x1 → post x0 ) ∧ (¬ x0 < x1 → False))))
set_option maxRecDepth 100000 in
set_option maxHeartbeats 4000000 in
theorem kJ3_checkIndex_8e157 {C : Cx}  (hC : Fx C cJ3_checkIndex_8e157 3 RJ3) (hR0 : xR C = rm 2) {post : Int32 → Prop} (hR : RI C cJ3_checkIndex_8e157 3 (fun _ : Unit => ([] : va_W)) (fun r _ => post r )) {x0 : Int32} {x1 : Int32} {v2 : Value}  (h : qJ3_checkIndex_8e157 x0 x1 v2  post) : G C 0 0 3 [] 0 [(0, .int x0), (1, .int x1), (2, v2)] [] := by
  refine g_iload_n (pc := 0) hC 0 dJ3_checkIndex_8e157_0 rfl rfl ?_
  refine g_if_lt (pc := 1) (tgt := 9) hC dJ3_checkIndex_8e157_1 (by decide) (fun c_1 => ?_) (fun c_1 => ?_)
  · have h := h.1 c_1
    exact h.elim
  · have h := h.2 c_1
    refine g_iload_n (pc := 4) hC 0 dJ3_checkIndex_8e157_4 rfl rfl ?_
    refine g_iload_n (pc := 5) hC 1 dJ3_checkIndex_8e157_5 rfl rfl ?_
    refine g_icmp_lt (pc := 6) (tgt := 16) hC dJ3_checkIndex_8e157_6 (by decide) (fun c_2 => ?_) (fun c_2 => ?_)
    · have h := h.1 c_2
      refine g_iload_n (pc := 16) hC 0 dJ3_checkIndex_8e157_16 rfl rfl ?_
      exact hR _ _ _ () dJ3_checkIndex_8e157_17 h
    · have h := h.2 c_2
      exact h.elim
theorem ctJ3_checkIndex_8e157 {l : Launch} {D : va_G} {cy : Nat → ClassId} {kd : Nat → Nat}  {x0 : Int32} {x1 : Int32} {v2 : Value}  {post : Int32 → Prop} (hv : v2.category = 1) (h : qJ3_checkIndex_8e157 x0 x1 v2  post) : CtI l D cy kd yJ3_checkIndex_8e157 cJ3_checkIndex_8e157 3 2 .int [.int x0, .int x1, v2] (fun _ : Unit => ([] : va_W)) () (fun r _ => post r ) := met_i (by decide) (by simp [lg_sl, hv, show ∀ x : Int32, (Value.int x).category = 1 from fun _ => rfl]) (fun C e1 e2 e3 e4 e5 hC hR => by subst e1 e2 e3 e4; exact kJ3_checkIndex_8e157 hC e5 hR h)
theorem dJ0_checkIndex_df160_0 : decode cJ0_checkIndex_df160 0 = .ok (.iload_n 0, 1) := by decide +kernel
theorem dJ0_checkIndex_df160_1 : decode cJ0_checkIndex_df160 1 = .ok (.iload_n 1, 1) := by decide +kernel
theorem dJ0_checkIndex_df160_2 : decode cJ0_checkIndex_df160 2 = .ok (.getstatic 1053, 3) := by decide +kernel
theorem dJ0_checkIndex_df160_5 : decode cJ0_checkIndex_df160 5 = .ok (.invokestatic 1059, 3) := by decide +kernel
theorem dJ0_checkIndex_df160_8 : decode cJ0_checkIndex_df160 8 = .ok (.pop, 1) := by decide +kernel
theorem dJ0_checkIndex_df160_9 : decode cJ0_checkIndex_df160 9 = .ok (.return_, 1) := by decide +kernel
def qJ0_checkIndex_df160 (x0 : Int32) (x1 : Int32)  (post : Prop) : Prop := ∀ v_4 : Value, qJ3_checkIndex_8e157 x0 x1 v_4 (fun r_5 => post )
set_option maxRecDepth 100000 in
set_option maxHeartbeats 4000000 in
theorem kJ0_checkIndex_df160 {C : Cx}  (hC : Fx C cJ0_checkIndex_df160 2 RJ0) (hR0 : xR C = rm 3) {post : Prop} (hR : RV C cJ0_checkIndex_df160 2 (fun _ : Unit => ([] : va_W)) (fun _ => post )) {x0 : Int32} {x1 : Int32}  (h : qJ0_checkIndex_df160 x0 x1  post) : G C 0 0 2 [] 0 [(0, .int x0), (1, .int x1)] [] := by
  refine g_iload_n (pc := 0) hC 0 dJ0_checkIndex_df160_0 rfl rfl ?_
  refine g_iload_n (pc := 1) hC 1 dJ0_checkIndex_df160_1 rfl rfl ?_
  refine g_fmt (pc := 2) hC fl_J0_1053 dJ0_checkIndex_df160_2 (fun v_4 ev_4 => ?_)
  have h := h v_4
  refine g_callS_i (pc := 5) (wd := fun (_ : Unit) Y => Y) (F := fun Z => Z) (X := []) (As := [.int x0, .int x1, v_4]) (rest := []) (u := ()) hC (fun _ _ => rfl) (fun _ => rfl) (ctJ3_checkIndex_8e157 ev_4 h) wvJ3_checkIndex_8e157 ml_J0_1059 rfl (rmok hR0 rfl) ⟨Nat.zero_le _, Nat.zero_le _⟩ rfl (Nat.le_of_ble_eq_true rfl) dJ0_checkIndex_df160_5 (fun r_5 u_6 h => ?_)
  refine g_pop (pc := 8) hC dJ0_checkIndex_df160_8 rfl ?_
  exact hR _ _ () dJ0_checkIndex_df160_9 h
theorem ctJ0_checkIndex_df160 {l : Launch} {D : va_G} {cy : Nat → ClassId} {kd : Nat → Nat}  {x0 : Int32} {x1 : Int32}  {post : Prop} (h : qJ0_checkIndex_df160 x0 x1  post) : CtV l D cy kd yJ0_checkIndex_df160 cJ0_checkIndex_df160 2 3  [.int x0, .int x1] (fun _ : Unit => ([] : va_W)) () (fun _ => post ) := met_v (by decide) (Nat.le_of_ble_eq_true rfl) (fun C e1 e2 e3 e4 e5 hC hR => by subst e1 e2 e3 e4; exact kJ0_checkIndex_df160 hC e5 hR h)
theorem dJ0_coder_7d493_0 : decode cJ0_coder_7d493 0 = .ok (.getstatic 38, 3) := by decide +kernel
theorem dJ0_coder_7d493_3 : decode cJ0_coder_7d493 3 = .ok (.ifCond .eq 10, 3) := by decide +kernel
theorem dJ0_coder_7d493_6 : decode cJ0_coder_7d493 6 = .ok (.aload_n 0, 1) := by decide +kernel
theorem dJ0_coder_7d493_7 : decode cJ0_coder_7d493 7 = .ok (.getfield 15, 3) := by decide +kernel
theorem dJ0_coder_7d493_10 : decode cJ0_coder_7d493 10 = .ok (.goto 4, 3) := by decide +kernel
theorem dJ0_coder_7d493_13 : decode cJ0_coder_7d493 13 = .ok (.iconst 1, 1) := by decide +kernel
theorem dJ0_coder_7d493_14 : decode cJ0_coder_7d493 14 = .ok (.ireturn, 1) := by decide +kernel
def qJ0_coder_7d493_b14  (post : Int32 → Prop)  (s0 : Int32) : Prop := (narrow .byte (.int s0) = .int s0 ∧ post s0 )
set_option maxRecDepth 100000 in
set_option maxHeartbeats 4000000 in
theorem kJ0_coder_7d493_b14 {C : Cx}  (hC : Fx C cJ0_coder_7d493 1 RJ0) (hR0 : xR C = rm 1) {post : Int32 → Prop} (hR : RY .byte C cJ0_coder_7d493 1 (fun _ : Unit => ([] : va_W)) (fun r _ => post r ))  {s0 : Int32} (h : qJ0_coder_7d493_b14 post s0) : G C 0 0 1 [] 14 [] [.int s0] := by
  exact hR _ _ _ () dJ0_coder_7d493_14 h.1 h.2
def qJ0_coder_7d493   (post : Int32 → Prop) : Prop := (((1 : Int32) = 0 → qJ0_coder_7d493_b14 post (1 : Int32)) ∧ (¬ (1 : Int32) = 0 → qJ0_coder_7d493_b14 post (0 : Int32)))
set_option maxRecDepth 100000 in
set_option maxHeartbeats 4000000 in
theorem kJ0_coder_7d493 {C : Cx}  (hC : Fx C cJ0_coder_7d493 1 RJ0) (hR0 : xR C = rm 1) {post : Int32 → Prop} (hR : RY .byte C cJ0_coder_7d493 1 (fun _ : Unit => ([] : va_W)) (fun r _ => post r ))   (h : qJ0_coder_7d493   post) : G C 0 0 1 [] 0 [(0, .ref (xk C 26))] [] := by
  refine g_cs (pc := 0) hC fl_J0_38 dJ0_coder_7d493_0 ?_
  refine g_if_eq (pc := 3) (tgt := 13) hC dJ0_coder_7d493_3 (by decide) (fun c_1 => ?_) (fun c_1 => ?_)
  · have h := h.1 c_1
    refine g_iconst (pc := 13) (v := 1) hC dJ0_coder_7d493_13 (by decide) ?_
    refine g_sub (lv' := []) [] rfl ?_
    exact kJ0_coder_7d493_b14 hC hR0 hR  h
  · have h := h.2 c_1
    refine g_aload_n (pc := 6) hC 0 dJ0_coder_7d493_6 rfl rfl ?_
    refine g_strc (pc := 7) hC fl_J0_15 dJ0_coder_7d493_7 ?_
    refine g_goto (pc := 10) (tgt := 14) hC dJ0_coder_7d493_10 (by decide) ?_
    refine g_sub (lv' := []) [] rfl ?_
    exact kJ0_coder_7d493_b14 hC hR0 hR  h
theorem ctJ0_coder_7d493 {l : Launch} {D : va_G} {cy : Nat → ClassId} {kd : Nat → Nat}    {post : Int32 → Prop} (h : qJ0_coder_7d493   post) : CtI l D cy kd yJ0_coder_7d493 cJ0_coder_7d493 1 1 .byte [.ref (kd 26)] (fun _ : Unit => ([] : va_W)) () (fun r _ => post r ) := met_y (by decide) (Nat.le_of_ble_eq_true rfl) (fun C e1 e2 e3 e4 e5 hC hR => by subst e1 e2 e3 e4; exact kJ0_coder_7d493 hC e5 hR h)
theorem dJ0_isLatin1_aae02_0 : decode cJ0_isLatin1_aae02 0 = .ok (.getstatic 38, 3) := by decide +kernel
theorem dJ0_isLatin1_aae02_3 : decode cJ0_isLatin1_aae02 3 = .ok (.ifCond .eq 14, 3) := by decide +kernel
theorem dJ0_isLatin1_aae02_6 : decode cJ0_isLatin1_aae02 6 = .ok (.aload_n 0, 1) := by decide +kernel
theorem dJ0_isLatin1_aae02_7 : decode cJ0_isLatin1_aae02 7 = .ok (.getfield 15, 3) := by decide +kernel
theorem dJ0_isLatin1_aae02_10 : decode cJ0_isLatin1_aae02 10 = .ok (.ifCond .ne 7, 3) := by decide +kernel
theorem dJ0_isLatin1_aae02_13 : decode cJ0_isLatin1_aae02 13 = .ok (.iconst 1, 1) := by decide +kernel
theorem dJ0_isLatin1_aae02_14 : decode cJ0_isLatin1_aae02 14 = .ok (.goto 4, 3) := by decide +kernel
theorem dJ0_isLatin1_aae02_17 : decode cJ0_isLatin1_aae02 17 = .ok (.iconst 0, 1) := by decide +kernel
theorem dJ0_isLatin1_aae02_18 : decode cJ0_isLatin1_aae02 18 = .ok (.ireturn, 1) := by decide +kernel
def qJ0_isLatin1_aae02_b18  (post : Int32 → Prop)  (s0 : Int32) : Prop := (bz s0 ∧ post s0 )
set_option maxRecDepth 100000 in
set_option maxHeartbeats 4000000 in
theorem kJ0_isLatin1_aae02_b18 {C : Cx}  (hC : Fx C cJ0_isLatin1_aae02 1 RJ0) (hR0 : xR C = rm 1) {post : Int32 → Prop} (hR : RZ C cJ0_isLatin1_aae02 1 (fun _ : Unit => ([] : va_W)) (fun r _ => post r ))  {s0 : Int32} (h : qJ0_isLatin1_aae02_b18 post s0) : G C 0 0 1 [] 18 [] [.int s0] := by
  exact hR _ _ _ () dJ0_isLatin1_aae02_18 h.1 h.2
def qJ0_isLatin1_aae02_b17  (post : Int32 → Prop)   : Prop := qJ0_isLatin1_aae02_b18 post (0 : Int32)
set_option maxRecDepth 100000 in
set_option maxHeartbeats 4000000 in
theorem kJ0_isLatin1_aae02_b17 {C : Cx}  (hC : Fx C cJ0_isLatin1_aae02 1 RJ0) (hR0 : xR C = rm 1) {post : Int32 → Prop} (hR : RZ C cJ0_isLatin1_aae02 1 (fun _ : Unit => ([] : va_W)) (fun r _ => post r ))   (h : qJ0_isLatin1_aae02_b17 post) : G C 0 0 1 [] 17 [] [] := by
  refine g_iconst (pc := 17) (v := 0) hC dJ0_isLatin1_aae02_17 (by decide) ?_
  exact kJ0_isLatin1_aae02_b18 hC hR0 hR  h
def qJ0_isLatin1_aae02   (post : Int32 → Prop) : Prop := (((1 : Int32) = 0 → qJ0_isLatin1_aae02_b17 post ) ∧ (¬ (1 : Int32) = 0 → ((¬ (0 : Int32) = 0 → qJ0_isLatin1_aae02_b17 post ) ∧ ((0 : Int32) = 0 → qJ0_isLatin1_aae02_b18 post (1 : Int32)))))
set_option maxRecDepth 100000 in
set_option maxHeartbeats 4000000 in
theorem kJ0_isLatin1_aae02 {C : Cx}  (hC : Fx C cJ0_isLatin1_aae02 1 RJ0) (hR0 : xR C = rm 1) {post : Int32 → Prop} (hR : RZ C cJ0_isLatin1_aae02 1 (fun _ : Unit => ([] : va_W)) (fun r _ => post r ))   (h : qJ0_isLatin1_aae02   post) : G C 0 0 1 [] 0 [(0, .ref (xk C 26))] [] := by
  refine g_cs (pc := 0) hC fl_J0_38 dJ0_isLatin1_aae02_0 ?_
  refine g_if_eq (pc := 3) (tgt := 17) hC dJ0_isLatin1_aae02_3 (by decide) (fun c_1 => ?_) (fun c_1 => ?_)
  · have h := h.1 c_1
    refine g_sub (lv' := []) [] rfl ?_
    exact kJ0_isLatin1_aae02_b17 hC hR0 hR  h
  · have h := h.2 c_1
    refine g_aload_n (pc := 6) hC 0 dJ0_isLatin1_aae02_6 rfl rfl ?_
    refine g_strc (pc := 7) hC fl_J0_15 dJ0_isLatin1_aae02_7 ?_
    refine g_if_ne (pc := 10) (tgt := 17) hC dJ0_isLatin1_aae02_10 (by decide) (fun c_2 => ?_) (fun c_2 => ?_)
    · have h := h.1 c_2
      refine g_sub (lv' := []) [] rfl ?_
      exact kJ0_isLatin1_aae02_b17 hC hR0 hR  h
    · have h := h.2 c_2
      refine g_iconst (pc := 13) (v := 1) hC dJ0_isLatin1_aae02_13 (by decide) ?_
      refine g_goto (pc := 14) (tgt := 18) hC dJ0_isLatin1_aae02_14 (by decide) ?_
      refine g_sub (lv' := []) [] rfl ?_
      exact kJ0_isLatin1_aae02_b18 hC hR0 hR  h
theorem ctJ0_isLatin1_aae02 {l : Launch} {D : va_G} {cy : Nat → ClassId} {kd : Nat → Nat}    {post : Int32 → Prop} (h : qJ0_isLatin1_aae02   post) : CtI l D cy kd yJ0_isLatin1_aae02 cJ0_isLatin1_aae02 1 1 .boolean [.ref (kd 26)] (fun _ : Unit => ([] : va_W)) () (fun r _ => post r ) := met_z (by decide) (Nat.le_of_ble_eq_true rfl) (fun C e1 e2 e3 e4 e5 hC hR => by subst e1 e2 e3 e4; exact kJ0_isLatin1_aae02 hC e5 hR h)
theorem dJ0_length_8abf5_0 : decode cJ0_length_8abf5 0 = .ok (.aload_n 0, 1) := by decide +kernel
theorem dJ0_length_8abf5_1 : decode cJ0_length_8abf5 1 = .ok (.getfield 9, 3) := by decide +kernel
theorem dJ0_length_8abf5_4 : decode cJ0_length_8abf5 4 = .ok (.arraylength, 1) := by decide +kernel
theorem dJ0_length_8abf5_5 : decode cJ0_length_8abf5 5 = .ok (.aload_n 0, 1) := by decide +kernel
theorem dJ0_length_8abf5_6 : decode cJ0_length_8abf5 6 = .ok (.invokevirtual 335, 3) := by decide +kernel
theorem dJ0_length_8abf5_9 : decode cJ0_length_8abf5 9 = .ok (.ishr, 1) := by decide +kernel
theorem dJ0_length_8abf5_10 : decode cJ0_length_8abf5 10 = .ok (.ireturn, 1) := by decide +kernel
def qJ0_length_8abf5   (post : Int32 → Prop) : Prop := qJ0_coder_7d493  (fun r_3 => post ((133 : Int32) >>> (r_3 &&& 31)) )
set_option maxRecDepth 100000 in
set_option maxHeartbeats 4000000 in
theorem kJ0_length_8abf5 {C : Cx}  (hC : Fx C cJ0_length_8abf5 1 RJ0) (hR0 : xR C = rm 2) {post : Int32 → Prop} (hR : RI C cJ0_length_8abf5 1 (fun _ : Unit => ([] : va_W)) (fun r _ => post r ))   (h : qJ0_length_8abf5   post) : G C 0 0 1 [] 0 [(0, .ref (xk C 26))] [] := by
  refine g_aload_n (pc := 0) hC 0 dJ0_length_8abf5_0 rfl rfl ?_
  refine g_strv (pc := 1) hC fl_J0_9 dJ0_length_8abf5_1 ?_
  refine g_strl (pc := 4) hC dJ0_length_8abf5_4 ?_
  refine g_aload_n (pc := 5) hC 0 dJ0_length_8abf5_5 rfl rfl ?_
  refine g_callT_i (pc := 6) (wd := fun (_ : Unit) Y => Y) (F := fun Z => Z) (X := []) (As := []) (rest := [.int (133 : Int32)]) (u := ()) hC (fun _ _ => rfl) (fun _ => rfl) (ctJ0_coder_7d493 h) wvJ0_coder_7d493 ml_J0_335 rfl rfl (rmok hR0 rfl) ⟨Nat.zero_le _, Nat.zero_le _⟩ rfl (Nat.le_of_ble_eq_true rfl) dJ0_length_8abf5_6 (fun r_3 u_4 h => ?_)
  refine g_ishr (pc := 9) hC dJ0_length_8abf5_9 ?_
  exact hR _ _ _ () dJ0_length_8abf5_10 h
theorem ctJ0_length_8abf5 {l : Launch} {D : va_G} {cy : Nat → ClassId} {kd : Nat → Nat}    {post : Int32 → Prop} (h : qJ0_length_8abf5   post) : CtI l D cy kd yJ0_length_8abf5 cJ0_length_8abf5 1 2 .int [.ref (kd 26)] (fun _ : Unit => ([] : va_W)) () (fun r _ => post r ) := met_i (by decide) (Nat.le_of_ble_eq_true rfl) (fun C e1 e2 e3 e4 e5 hC hR => by subst e1 e2 e3 e4; exact kJ0_length_8abf5 hC e5 hR h)
theorem dJ1_charAt_3b067_0 : decode cJ1_charAt_3b067 0 = .ok (.iload_n 1, 1) := by decide +kernel
theorem dJ1_charAt_3b067_1 : decode cJ1_charAt_3b067 1 = .ok (.aload_n 0, 1) := by decide +kernel
theorem dJ1_charAt_3b067_2 : decode cJ1_charAt_3b067 2 = .ok (.arraylength, 1) := by decide +kernel
theorem dJ1_charAt_3b067_3 : decode cJ1_charAt_3b067 3 = .ok (.invokestatic 9, 3) := by decide +kernel
theorem dJ1_charAt_3b067_6 : decode cJ1_charAt_3b067 6 = .ok (.aload_n 0, 1) := by decide +kernel
theorem dJ1_charAt_3b067_7 : decode cJ1_charAt_3b067 7 = .ok (.iload_n 1, 1) := by decide +kernel
theorem dJ1_charAt_3b067_8 : decode cJ1_charAt_3b067 8 = .ok (.baload, 1) := by decide +kernel
theorem dJ1_charAt_3b067_9 : decode cJ1_charAt_3b067 9 = .ok (.sipush 255, 3) := by decide +kernel
theorem dJ1_charAt_3b067_12 : decode cJ1_charAt_3b067 12 = .ok (.iand, 1) := by decide +kernel
theorem dJ1_charAt_3b067_13 : decode cJ1_charAt_3b067 13 = .ok (.i2c, 1) := by decide +kernel
theorem dJ1_charAt_3b067_14 : decode cJ1_charAt_3b067 14 = .ok (.ireturn, 1) := by decide +kernel
def qJ1_charAt_3b067 (x1 : Int32)  (post : Int32 → Prop) : Prop := qJ0_checkIndex_df160 x1 (133 : Int32) ((vp_in x1 133 ∧ (narrow .char (.int ((((kBy.getD (x1).toNatClampNeg 0) &&& (255 : Int32))).toUInt32 % 65536).toInt32) = .int ((((kBy.getD (x1).toNatClampNeg 0) &&& (255 : Int32))).toUInt32 % 65536).toInt32 ∧ post ((((kBy.getD (x1).toNatClampNeg 0) &&& (255 : Int32))).toUInt32 % 65536).toInt32 )))
set_option maxRecDepth 100000 in
set_option maxHeartbeats 4000000 in
theorem kJ1_charAt_3b067 {C : Cx}  (hC : Fx C cJ1_charAt_3b067 2 RJ1) (hR0 : xR C = rm 4) {post : Int32 → Prop} (hR : RY .char C cJ1_charAt_3b067 2 (fun _ : Unit => ([] : va_W)) (fun r _ => post r )) {x1 : Int32}  (h : qJ1_charAt_3b067 x1  post) : G C 0 0 2 [] 0 [(0, .ref (xk C 27)), (1, .int x1)] [] := by
  refine g_iload_n (pc := 0) hC 1 dJ1_charAt_3b067_0 rfl rfl ?_
  refine g_aload_n (pc := 1) hC 0 dJ1_charAt_3b067_1 rfl rfl ?_
  refine g_strl (pc := 2) hC dJ1_charAt_3b067_2 ?_
  refine g_callS_v (pc := 3) (wd := fun (_ : Unit) Y => Y) (F := fun Z => Z) (X := []) (As := [.int x1, .int (133 : Int32)]) (rest := []) (u := ()) hC (fun _ _ => rfl) (fun _ => rfl) (ctJ0_checkIndex_df160 h) wvJ0_checkIndex_df160 ml_J1_9 rfl (rmok hR0 rfl) ⟨Nat.zero_le _, Nat.zero_le _⟩ rfl (Nat.le_of_ble_eq_true rfl) dJ1_charAt_3b067_3 (fun u_2 h => ?_)
  refine g_aload_n (pc := 6) hC 0 dJ1_charAt_3b067_6 rfl rfl ?_
  refine g_iload_n (pc := 7) hC 1 dJ1_charAt_3b067_7 rfl rfl ?_
  refine g_strb (pc := 8) hC h.1 dJ1_charAt_3b067_8 ?_
  have h := h.2
  refine g_sipush (pc := 9) (v := 255) hC dJ1_charAt_3b067_9 (by decide) ?_
  refine g_iand (pc := 12) hC dJ1_charAt_3b067_12 ?_
  refine g_i2c (pc := 13) hC dJ1_charAt_3b067_13 ?_
  exact hR _ _ _ () dJ1_charAt_3b067_14 h.1 h.2
theorem ctJ1_charAt_3b067 {l : Launch} {D : va_G} {cy : Nat → ClassId} {kd : Nat → Nat}  {x1 : Int32}  {post : Int32 → Prop} (h : qJ1_charAt_3b067 x1  post) : CtI l D cy kd yJ1_charAt_3b067 cJ1_charAt_3b067 2 4 .char [.ref (kd 27), .int x1] (fun _ : Unit => ([] : va_W)) () (fun r _ => post r ) := met_y (by decide) (Nat.le_of_ble_eq_true rfl) (fun C e1 e2 e3 e4 e5 hC hR => by subst e1 e2 e3 e4; exact kJ1_charAt_3b067 hC e5 hR h)
theorem dJ0_charAt_5068e_0 : decode cJ0_charAt_5068e 0 = .ok (.aload_n 0, 1) := by decide +kernel
theorem dJ0_charAt_5068e_1 : decode cJ0_charAt_5068e 1 = .ok (.invokevirtual 492, 3) := by decide +kernel
theorem dJ0_charAt_5068e_4 : decode cJ0_charAt_5068e 4 = .ok (.ifCond .eq 12, 3) := by decide +kernel
theorem dJ0_charAt_5068e_7 : decode cJ0_charAt_5068e 7 = .ok (.aload_n 0, 1) := by decide +kernel
theorem dJ0_charAt_5068e_8 : decode cJ0_charAt_5068e 8 = .ok (.getfield 9, 3) := by decide +kernel
theorem dJ0_charAt_5068e_11 : decode cJ0_charAt_5068e 11 = .ok (.iload_n 1, 1) := by decide +kernel
theorem dJ0_charAt_5068e_12 : decode cJ0_charAt_5068e 12 = .ok (.invokestatic 495, 3) := by decide +kernel
theorem dJ0_charAt_5068e_15 : decode cJ0_charAt_5068e 15 = .ok (.ireturn, 1) := by decide +kernel
def qJ0_charAt_5068e (x1 : Int32)  (post : Int32 → Prop) : Prop := qJ0_isLatin1_aae02  (fun r_5 => ((r_5 = 0 → False) ∧ (¬ r_5 = 0 → qJ1_charAt_3b067 x1 (fun r_8 => (narrow .char (.int r_8) = .int r_8 ∧ post r_8 )))))
set_option maxRecDepth 100000 in
set_option maxHeartbeats 4000000 in
theorem kJ0_charAt_5068e {C : Cx}  (hC : Fx C cJ0_charAt_5068e 2 RJ0) (hR0 : xR C = rm 6) {post : Int32 → Prop} (hR : RY .char C cJ0_charAt_5068e 2 (fun _ : Unit => ([] : va_W)) (fun r _ => post r )) {x1 : Int32}  (h : qJ0_charAt_5068e x1  post) : G C 0 0 2 [] 0 [(0, .ref (xk C 26)), (1, .int x1)] [] := by
  refine g_aload_n (pc := 0) hC 0 dJ0_charAt_5068e_0 rfl rfl ?_
  refine g_callT_i (pc := 1) (wd := fun (_ : Unit) Y => Y) (F := fun Z => Z) (X := []) (As := []) (rest := []) (u := ()) hC (fun _ _ => rfl) (fun _ => rfl) (ctJ0_isLatin1_aae02 h) wvJ0_isLatin1_aae02 ml_J0_492 rfl rfl (rmok hR0 rfl) ⟨Nat.zero_le _, Nat.zero_le _⟩ rfl (Nat.le_of_ble_eq_true rfl) dJ0_charAt_5068e_1 (fun r_5 u_6 h => ?_)
  refine g_if_eq (pc := 4) (tgt := 16) hC dJ0_charAt_5068e_4 (by decide) (fun c_7 => ?_) (fun c_7 => ?_)
  · have h := h.1 c_7
    exact h.elim
  · have h := h.2 c_7
    refine g_aload_n (pc := 7) hC 0 dJ0_charAt_5068e_7 rfl rfl ?_
    refine g_strv (pc := 8) hC fl_J0_9 dJ0_charAt_5068e_8 ?_
    refine g_iload_n (pc := 11) hC 1 dJ0_charAt_5068e_11 rfl rfl ?_
    refine g_callS_i (pc := 12) (wd := fun (_ : Unit) Y => Y) (F := fun Z => Z) (X := []) (As := [.ref (xk C 27), .int x1]) (rest := []) (u := ()) hC (fun _ _ => rfl) (fun _ => rfl) (ctJ1_charAt_3b067 h) wvJ1_charAt_3b067 ml_J0_495 rfl (rmok hR0 rfl) ⟨Nat.zero_le _, Nat.zero_le _⟩ rfl (Nat.le_of_ble_eq_true rfl) dJ0_charAt_5068e_12 (fun r_8 u_9 h => ?_)
    exact hR _ _ _ () dJ0_charAt_5068e_15 h.1 h.2
theorem ctJ0_charAt_5068e {l : Launch} {D : va_G} {cy : Nat → ClassId} {kd : Nat → Nat}  {x1 : Int32}  {post : Int32 → Prop} (h : qJ0_charAt_5068e x1  post) : CtI l D cy kd yJ0_charAt_5068e cJ0_charAt_5068e 2 6 .char [.ref (kd 26), .int x1] (fun _ : Unit => ([] : va_W)) () (fun r _ => post r ) := met_y (by decide) (Nat.le_of_ble_eq_true rfl) (fun C e1 e2 e3 e4 e5 hC hR => by subst e1 e2 e3 e4; exact kJ0_charAt_5068e hC e5 hR h)
theorem dX10_isOne_0 : decode cX10_isOne 0 = .ok (.iconst 0, 1) := by decide +kernel
theorem dX10_isOne_1 : decode cX10_isOne 1 = .ok (.istore_n 2, 1) := by decide +kernel
theorem dX10_isOne_2 : decode cX10_isOne 2 = .ok (.iload_n 2, 1) := by decide +kernel
theorem dX10_isOne_3 : decode cX10_isOne 3 = .ok (.getstatic 114, 3) := by decide +kernel
theorem dX10_isOne_6 : decode cX10_isOne 6 = .ok (.arraylength, 1) := by decide +kernel
theorem dX10_isOne_7 : decode cX10_isOne 7 = .ok (.if_icmp .ge 24, 3) := by decide +kernel
theorem dX10_isOne_10 : decode cX10_isOne 10 = .ok (.getstatic 114, 3) := by decide +kernel
theorem dX10_isOne_13 : decode cX10_isOne 13 = .ok (.iload_n 2, 1) := by decide +kernel
theorem dX10_isOne_14 : decode cX10_isOne 14 = .ok (.aaload, 1) := by decide +kernel
theorem dX10_isOne_15 : decode cX10_isOne 15 = .ok (.getfield 110, 3) := by decide +kernel
theorem dX10_isOne_18 : decode cX10_isOne 18 = .ok (.lload_n 0, 1) := by decide +kernel
theorem dX10_isOne_19 : decode cX10_isOne 19 = .ok (.lcmp, 1) := by decide +kernel
theorem dX10_isOne_20 : decode cX10_isOne 20 = .ok (.ifCond .ne 5, 3) := by decide +kernel
theorem dX10_isOne_23 : decode cX10_isOne 23 = .ok (.iconst 1, 1) := by decide +kernel
theorem dX10_isOne_24 : decode cX10_isOne 24 = .ok (.ireturn, 1) := by decide +kernel
theorem dX10_isOne_25 : decode cX10_isOne 25 = .ok (.iinc 2 1, 3) := by decide +kernel
theorem dX10_isOne_28 : decode cX10_isOne 28 = .ok (.goto (-26), 3) := by decide +kernel
theorem dX10_isOne_31 : decode cX10_isOne 31 = .ok (.iconst 0, 1) := by decide +kernel
theorem dX10_isOne_32 : decode cX10_isOne 32 = .ok (.ireturn, 1) := by decide +kernel
def qX10_isOne_l2  (post : Int32 → Prop) (K2 : Int64 → Int32 → Prop) (x0 : Int64) (x2 : Int32) : Prop := (((25 : Int32) ≤ x2 → post (0 : Int32) ) ∧ (¬ (25 : Int32) ≤ x2 → (vp_in x2 25 ∧ ((x2).toNatClampNeg < 25 ∧ ((¬ (lg_cmp (wCd.getD (x2).toNatClampNeg 0) x0) = 0 → ∀ x2_4 : Int32, x2_4 = x2 + (1 : Int32) → K2 x0 x2_4) ∧ ((lg_cmp (wCd.getD (x2).toNatClampNeg 0) x0) = 0 → post (1 : Int32) ))))))
set_option maxRecDepth 100000 in
set_option maxHeartbeats 4000000 in
theorem kX10_isOne_l2 {C : Cx}  (hC : Fx C cX10_isOne 3 RX10) (hR0 : xR C = rm 1) {post : Int32 → Prop} (hR : RZ C cX10_isOne 3 (fun _ : Unit => ([] : va_W)) (fun r _ => post r ))  {K2 : Int64 → Int32 → Prop} (hK2 : ∀ (x0 : Int64) (x2 : Int32), K2 x0 x2 → G C 0 0 3 [] 2 [(0, .long x0), (2, .int x2)] []) {x0 : Int64} {x2 : Int32} (h : qX10_isOne_l2 post K2 x0 x2) : G C 0 0 3 [] 2 [(0, .long x0), (2, .int x2)] [] := by
  refine g_iload_n (pc := 2) hC 1 dX10_isOne_2 rfl rfl ?_
  refine g_getAll (pc := 3) hC fl_X10_114 dX10_isOne_3 ?_
  refine g_allLen (pc := 6) hC dX10_isOne_6 ?_
  refine g_icmp_ge (pc := 7) (tgt := 31) hC dX10_isOne_7 (by decide) (fun c_2 => ?_) (fun c_2 => ?_)
  · have h := h.1 c_2
    refine g_iconst (pc := 31) (v := 0) hC dX10_isOne_31 (by decide) ?_
    exact hR _ _ _ () dX10_isOne_32 (Or.inl rfl) h
  · have h := h.2 c_2
    refine g_getAll (pc := 10) hC fl_X10_114 dX10_isOne_10 ?_
    refine g_iload_n (pc := 13) hC 1 dX10_isOne_13 rfl rfl ?_
    refine g_allLd (pc := 14) hC h.1 dX10_isOne_14 ?_
    have h := h.2
    refine g_wcode (pc := 15) hC fl_X10_110 h.1 dX10_isOne_15 ?_
    have h := h.2
    refine g_lload_n (pc := 18) hC 0 dX10_isOne_18 rfl rfl ?_
    refine g_lcmp (pc := 19) hC dX10_isOne_19 ?_
    refine g_if_ne (pc := 20) (tgt := 25) hC dX10_isOne_20 (by decide) (fun c_3 => ?_) (fun c_3 => ?_)
    · have h := h.1 c_3
      obtain ⟨x2_4, ex2_4⟩ : ∃ z : Int32, z = x2 + (1 : Int32) := ⟨_, rfl⟩
      have h := h x2_4 ex2_4
      refine g_iinc (pc := 25) (v := x2_4) (lv' := [(2, .int x2_4), (0, .long x0)]) hC 1 dX10_isOne_25 rfl (by rw [ex2_4]; rfl) (Nat.le_of_ble_eq_true rfl) rfl ?_
      refine g_goto (pc := 28) (tgt := 2) hC dX10_isOne_28 (by decide) ?_
      refine g_sub (lv' := [(0, .long x0), (2, .int x2_4)]) [1, 0] rfl ?_
      exact hK2 _ _ h
    · have h := h.2 c_3
      refine g_iconst (pc := 23) (v := 1) hC dX10_isOne_23 (by decide) ?_
      exact hR _ _ _ () dX10_isOne_24 (Or.inr rfl) h
def qX10_isOne_L2  (post : Int32 → Prop)  : Nat → Int64 → Int32 → Prop
  | 0 => fun _ _ => False
  | n + 1 => qX10_isOne_l2 post (qX10_isOne_L2 post n)
theorem kX10_isOne_L2 {C : Cx}  (hC : Fx C cX10_isOne 3 RX10) (hR0 : xR C = rm 1) {post : Int32 → Prop} (hR : RZ C cX10_isOne 3 (fun _ : Unit => ([] : va_W)) (fun r _ => post r ))  : ∀ (n : Nat) (x0 : Int64) (x2 : Int32), qX10_isOne_L2 post n x0 x2 → G C 0 0 3 [] 2 [(0, .long x0), (2, .int x2)] [] := by
  intro n
  induction n with
  | zero => intro x0 x2 h; exact h.elim
  | succ n ih => intro x0 x2 h; exact kX10_isOne_l2 hC hR0 hR  ih h
def qX10_isOne (x0 : Int64)  (post : Int32 → Prop) : Prop := ∃ n_5 : Nat, qX10_isOne_L2 post n_5 x0 (0 : Int32)
set_option maxRecDepth 100000 in
set_option maxHeartbeats 4000000 in
theorem kX10_isOne {C : Cx}  (hC : Fx C cX10_isOne 3 RX10) (hR0 : xR C = rm 1) {post : Int32 → Prop} (hR : RZ C cX10_isOne 3 (fun _ : Unit => ([] : va_W)) (fun r _ => post r )) {x0 : Int64}  (h : qX10_isOne x0  post) : G C 0 0 3 [] 0 [(0, .long x0)] [] := by
  refine g_iconst (pc := 0) (v := 0) hC dX10_isOne_0 (by decide) ?_
  refine g_istore_n (pc := 1) (lv' := [(2, .int (0 : Int32)), (0, .long x0)]) hC dX10_isOne_1 rfl (Nat.le_of_ble_eq_true rfl) rfl ?_
  refine g_sub (lv' := [(0, .long x0), (2, .int (0 : Int32))]) [1, 0] rfl ?_
  obtain ⟨n_5, h⟩ := h
  exact kX10_isOne_L2 hC hR0 hR  n_5 _ _ h
theorem ctX10_isOne {l : Launch} {D : va_G} {cy : Nat → ClassId} {kd : Nat → Nat}  {x0 : Int64}  {post : Int32 → Prop} (h : qX10_isOne x0  post) : CtI l D cy kd yX10_isOne cX10_isOne 3 1 .boolean [.long x0] (fun _ : Unit => ([] : va_W)) () (fun r _ => post r ) := met_z (by decide) (Nat.le_of_ble_eq_true rfl) (fun C e1 e2 e3 e4 e5 hC hR => by subst e1 e2 e3 e4; exact kX10_isOne hC e5 hR h)
theorem dX8_isAtName_0 : decode cX8_isAtName 0 = .ok (.aload_n 0, 1) := by decide +kernel
theorem dX8_isAtName_1 : decode cX8_isAtName 1 = .ok (.getfield 28, 3) := by decide +kernel
theorem dX8_isAtName_4 : decode cX8_isAtName 4 = .ok (.ifCond .ne 36, 3) := by decide +kernel
theorem dX8_isAtName_7 : decode cX8_isAtName 7 = .ok (.aload_n 0, 1) := by decide +kernel
theorem dX8_isAtName_8 : decode cX8_isAtName 8 = .ok (.getfield 41, 3) := by decide +kernel
theorem dX8_isAtName_11 : decode cX8_isAtName 11 = .ok (.iconst 1, 1) := by decide +kernel
theorem dX8_isAtName_12 : decode cX8_isAtName 12 = .ok (.if_icmp .ne 28, 3) := by decide +kernel
theorem dX8_isAtName_15 : decode cX8_isAtName 15 = .ok (.aload_n 0, 1) := by decide +kernel
theorem dX8_isAtName_16 : decode cX8_isAtName 16 = .ok (.getfield 60, 3) := by decide +kernel
theorem dX8_isAtName_19 : decode cX8_isAtName 19 = .ok (.ldc2_w 64, 3) := by decide +kernel
theorem dX8_isAtName_22 : decode cX8_isAtName 22 = .ok (.lcmp, 1) := by decide +kernel
theorem dX8_isAtName_23 : decode cX8_isAtName 23 = .ok (.ifCond .eq 17, 3) := by decide +kernel
theorem dX8_isAtName_26 : decode cX8_isAtName 26 = .ok (.aload_n 0, 1) := by decide +kernel
theorem dX8_isAtName_27 : decode cX8_isAtName 27 = .ok (.getfield 60, 3) := by decide +kernel
theorem dX8_isAtName_30 : decode cX8_isAtName 30 = .ok (.invokestatic 74, 3) := by decide +kernel
theorem dX8_isAtName_33 : decode cX8_isAtName 33 = .ok (.ifCond .ne 7, 3) := by decide +kernel
theorem dX8_isAtName_36 : decode cX8_isAtName 36 = .ok (.iconst 1, 1) := by decide +kernel
theorem dX8_isAtName_37 : decode cX8_isAtName 37 = .ok (.goto 4, 3) := by decide +kernel
theorem dX8_isAtName_40 : decode cX8_isAtName 40 = .ok (.iconst 0, 1) := by decide +kernel
theorem dX8_isAtName_41 : decode cX8_isAtName 41 = .ok (.ireturn, 1) := by decide +kernel
def qX8_isAtName_b41  (post : Int32 → St → St → Prop)  (s0 : Int32) (u0 : St) (u1 : St) : Prop := (bz s0 ∧ post s0 u0 u1)
set_option maxRecDepth 100000 in
set_option maxHeartbeats 4000000 in
theorem kX8_isAtName_b41 {C : Cx} {o0 : Nat} {a0 : Nat → Nat} (hC : Fx C cX8_isAtName 1 RX8) (hR0 : xR C = rm 2) {post : Int32 → St → St → Prop} (hR : RZ C cX8_isAtName 1 (fun u : St × St => (wX8 o0 a0 (xy C) u.1 (wT (a0 0) (xy C) u.2 []))) (fun r u => post r u.1 u.2))  {s0 : Int32} {u0 : St} {u1 : St} (h : qX8_isAtName_b41 post s0 u0 u1) : G C 0 0 1 (wX8 o0 a0 (xy C) u0 (wT (a0 0) (xy C) u1 [])) 41 [] [.int s0] := by
  exact hR _ _ _ (u0, u1) dX8_isAtName_41 h.1 h.2
def qX8_isAtName_b40  (post : Int32 → St → St → Prop)  (u0 : St) (u1 : St) : Prop := qX8_isAtName_b41 post (0 : Int32) u0 u1
set_option maxRecDepth 100000 in
set_option maxHeartbeats 4000000 in
theorem kX8_isAtName_b40 {C : Cx} {o0 : Nat} {a0 : Nat → Nat} (hC : Fx C cX8_isAtName 1 RX8) (hR0 : xR C = rm 2) {post : Int32 → St → St → Prop} (hR : RZ C cX8_isAtName 1 (fun u : St × St => (wX8 o0 a0 (xy C) u.1 (wT (a0 0) (xy C) u.2 []))) (fun r u => post r u.1 u.2))  {u0 : St} {u1 : St} (h : qX8_isAtName_b40 post u0 u1) : G C 0 0 1 (wX8 o0 a0 (xy C) u0 (wT (a0 0) (xy C) u1 [])) 40 [] [] := by
  refine g_iconst (pc := 40) (v := 0) hC dX8_isAtName_40 (by decide) ?_
  exact kX8_isAtName_b41 hC hR0 hR  h
def qX8_isAtName  (u0 : St) (u1 : St) (post : Int32 → St → St → Prop) : Prop := ((¬ (gi u0 8) = 0 → qX8_isAtName_b40 post u0 u1) ∧ ((gi u0 8) = 0 → ((¬ (gi u0 3) = (1 : Int32) → qX8_isAtName_b40 post u0 u1) ∧ ((gi u0 3) = (1 : Int32) → (((lg_cmp (gj u0 6) (-1 : Int64)) = 0 → qX8_isAtName_b40 post u0 u1) ∧ (¬ (lg_cmp (gj u0 6) (-1 : Int64)) = 0 → qX10_isOne (gj u0 6) (fun r_6 => ((¬ r_6 = 0 → qX8_isAtName_b40 post u0 u1) ∧ (r_6 = 0 → qX8_isAtName_b41 post (1 : Int32) u0 u1)))))))))
set_option maxRecDepth 100000 in
set_option maxHeartbeats 4000000 in
theorem kX8_isAtName {C : Cx} {o0 : Nat} {a0 : Nat → Nat} (hC : Fx C cX8_isAtName 1 RX8) (hR0 : xR C = rm 2) {post : Int32 → St → St → Prop} (hR : RZ C cX8_isAtName 1 (fun u : St × St => (wX8 o0 a0 (xy C) u.1 (wT (a0 0) (xy C) u.2 []))) (fun r u => post r u.1 u.2))  {u0 : St} {u1 : St} (h : qX8_isAtName  u0 u1 post) : G C 0 0 1 (wX8 o0 a0 (xy C) u0 (wT (a0 0) (xy C) u1 [])) 0 [(0, .ref o0)] [] := by
  refine g_aload_n (pc := 0) hC 0 dX8_isAtName_0 rfl rfl ?_
  refine getX8_8 (pc := 1) hC (F := fun Z => Z) (X := []) (fun _ => rfl) fl_X8_28 dX8_isAtName_1 ?_
  refine g_if_ne (pc := 4) (tgt := 40) hC dX8_isAtName_4 (by decide) (fun c_3 => ?_) (fun c_3 => ?_)
  · have h := h.1 c_3
    refine g_sub (lv' := []) [] rfl ?_
    exact kX8_isAtName_b40 hC hR0 hR  h
  · have h := h.2 c_3
    refine g_aload_n (pc := 7) hC 0 dX8_isAtName_7 rfl rfl ?_
    refine getX8_3 (pc := 8) hC (F := fun Z => Z) (X := []) (fun _ => rfl) fl_X8_41 dX8_isAtName_8 ?_
    refine g_iconst (pc := 11) (v := 1) hC dX8_isAtName_11 (by decide) ?_
    refine g_icmp_ne (pc := 12) (tgt := 40) hC dX8_isAtName_12 (by decide) (fun c_4 => ?_) (fun c_4 => ?_)
    · have h := h.1 c_4
      refine g_sub (lv' := []) [] rfl ?_
      exact kX8_isAtName_b40 hC hR0 hR  h
    · have h := h.2 c_4
      refine g_aload_n (pc := 15) hC 0 dX8_isAtName_15 rfl rfl ?_
      refine getX8_6 (pc := 16) hC (F := fun Z => Z) (X := []) (fun _ => rfl) fl_X8_60 dX8_isAtName_16 ?_
      refine g_ldc2 (pc := 19) hC cn_X8_64 dX8_isAtName_19 ?_
      refine g_lcmp (pc := 22) hC dX8_isAtName_22 ?_
      refine g_if_eq (pc := 23) (tgt := 40) hC dX8_isAtName_23 (by decide) (fun c_5 => ?_) (fun c_5 => ?_)
      · have h := h.1 c_5
        refine g_sub (lv' := []) [] rfl ?_
        exact kX8_isAtName_b40 hC hR0 hR  h
      · have h := h.2 c_5
        refine g_aload_n (pc := 26) hC 0 dX8_isAtName_26 rfl rfl ?_
        refine getX8_6 (pc := 27) hC (F := fun Z => Z) (X := []) (fun _ => rfl) fl_X8_60 dX8_isAtName_27 ?_
        refine g_callS_i (pc := 30) (wd := fun (_ : Unit) Y => Y) (F := fun Z => Z) (X := []) (As := [.long (gj u0 6)]) (rest := []) (u := ()) hC (fun _ _ => rfl) (fun _ => rfl) (ctX10_isOne h) wvX10_isOne ml_X8_74 rfl (rmok hR0 rfl) ⟨Nat.zero_le _, Nat.zero_le _⟩ rfl (Nat.le_of_ble_eq_true rfl) dX8_isAtName_30 (fun r_6 u_7 h => ?_)
        refine g_if_ne (pc := 33) (tgt := 40) hC dX8_isAtName_33 (by decide) (fun c_8 => ?_) (fun c_8 => ?_)
        · have h := h.1 c_8
          refine g_sub (lv' := []) [] rfl ?_
          exact kX8_isAtName_b40 hC hR0 hR  h
        · have h := h.2 c_8
          refine g_iconst (pc := 36) (v := 1) hC dX8_isAtName_36 (by decide) ?_
          refine g_goto (pc := 37) (tgt := 41) hC dX8_isAtName_37 (by decide) ?_
          refine g_sub (lv' := []) [] rfl ?_
          exact kX8_isAtName_b41 hC hR0 hR  h
theorem ctX8_isAtName {l : Launch} {D : va_G} {cy : Nat → ClassId} {kd : Nat → Nat} {o0 : Nat} {a0 : Nat → Nat}  {u0 : St} {u1 : St} {post : Int32 → St → St → Prop} (h : qX8_isAtName  u0 u1 post) : CtI l D cy kd yX8_isAtName cX8_isAtName 1 2 .boolean [.ref o0] (fun u : St × St => (wX8 o0 a0 cy u.1 (wT (a0 0) cy u.2 []))) (u0, u1) (fun r u => post r u.1 u.2) := met_z (by decide) (Nat.le_of_ble_eq_true rfl) (fun C e1 e2 e3 e4 e5 hC hR => by subst e1 e2 e3 e4; exact kX8_isAtName hC e5 hR h)
