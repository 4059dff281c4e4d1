/-! reference -/
theorem dX12_timeOrder_0 : decode cX12_timeOrder 0 = .ok (.iload_n 1, 1) := by decide +kernel
theorem dX12_timeOrder_1 : decode cX12_timeOrder 1 = .ok (.tableswitch 172 13 20 #[47, 58, 69, 101, 118, 172, 166, 155], 47) := by decide +kernel
theorem dX12_timeOrder_48 : decode cX12_timeOrder 48 = .ok (.aload_n 0, 1) := by decide +kernel
theorem dX12_timeOrder_49 : decode cX12_timeOrder 49 = .ok (.iload_n 2, 1) := by decide +kernel
theorem dX12_timeOrder_50 : decode cX12_timeOrder 50 = .ok (.iconst 1, 1) := by decide +kernel
theorem dX12_timeOrder_51 : decode cX12_timeOrder 51 = .ok (.iadd, 1) := by decide +kernel
theorem dX12_timeOrder_52 : decode cX12_timeOrder 52 = .ok (.iconst 1, 1) := by decide +kernel
theorem dX12_timeOrder_53 : decode cX12_timeOrder 53 = .ok (.bipush 20, 2) := by decide +kernel
theorem dX12_timeOrder_55 : decode cX12_timeOrder 55 = .ok (.invokevirtual 194, 3) := by decide +kernel
theorem dX12_timeOrder_58 : decode cX12_timeOrder 58 = .ok (.ireturn, 1) := by decide +kernel
theorem dX12_timeOrder_59 : decode cX12_timeOrder 59 = .ok (.aload_n 0, 1) := by decide +kernel
theorem dX12_timeOrder_60 : decode cX12_timeOrder 60 = .ok (.iload_n 2, 1) := by decide +kernel
theorem dX12_timeOrder_61 : decode cX12_timeOrder 61 = .ok (.iconst 1, 1) := by decide +kernel
theorem dX12_timeOrder_62 : decode cX12_timeOrder 62 = .ok (.iadd, 1) := by decide +kernel
theorem dX12_timeOrder_63 : decode cX12_timeOrder 63 = .ok (.iconst 0, 1) := by decide +kernel
theorem dX12_timeOrder_64 : decode cX12_timeOrder 64 = .ok (.bipush 6, 2) := by decide +kernel
theorem dX12_timeOrder_66 : decode cX12_timeOrder 66 = .ok (.invokevirtual 194, 3) := by decide +kernel
theorem dX12_timeOrder_69 : decode cX12_timeOrder 69 = .ok (.ireturn, 1) := by decide +kernel
theorem dX12_timeOrder_70 : decode cX12_timeOrder 70 = .ok (.aload_n 0, 1) := by decide +kernel
theorem dX12_timeOrder_71 : decode cX12_timeOrder 71 = .ok (.iload_n 2, 1) := by decide +kernel
theorem dX12_timeOrder_72 : decode cX12_timeOrder 72 = .ok (.iconst 1, 1) := by decide +kernel
theorem dX12_timeOrder_73 : decode cX12_timeOrder 73 = .ok (.iadd, 1) := by decide +kernel
theorem dX12_timeOrder_74 : decode cX12_timeOrder 74 = .ok (.iconst 0, 1) := by decide +kernel
theorem dX12_timeOrder_75 : decode cX12_timeOrder 75 = .ok (.bipush 6, 2) := by decide +kernel
theorem dX12_timeOrder_77 : decode cX12_timeOrder 77 = .ok (.invokevirtual 194, 3) := by decide +kernel
theorem dX12_timeOrder_80 : decode cX12_timeOrder 80 = .ok (.ifCond .eq 20, 3) := by decide +kernel
theorem dX12_timeOrder_83 : decode cX12_timeOrder 83 = .ok (.aload_n 0, 1) := by decide +kernel
theorem dX12_timeOrder_84 : decode cX12_timeOrder 84 = .ok (.iload_n 2, 1) := by decide +kernel
theorem dX12_timeOrder_85 : decode cX12_timeOrder 85 = .ok (.iconst 2, 1) := by decide +kernel
theorem dX12_timeOrder_86 : decode cX12_timeOrder 86 = .ok (.iadd, 1) := by decide +kernel
theorem dX12_timeOrder_87 : decode cX12_timeOrder 87 = .ok (.iconst 1, 1) := by decide +kernel
theorem dX12_timeOrder_88 : decode cX12_timeOrder 88 = .ok (.bipush 99, 2) := by decide +kernel
theorem dX12_timeOrder_90 : decode cX12_timeOrder 90 = .ok (.invokevirtual 194, 3) := by decide +kernel
theorem dX12_timeOrder_93 : decode cX12_timeOrder 93 = .ok (.ifCond .eq 7, 3) := by decide +kernel
theorem dX12_timeOrder_96 : decode cX12_timeOrder 96 = .ok (.iconst 1, 1) := by decide +kernel
theorem dX12_timeOrder_97 : decode cX12_timeOrder 97 = .ok (.goto 4, 3) := by decide +kernel
theorem dX12_timeOrder_100 : decode cX12_timeOrder 100 = .ok (.iconst 0, 1) := by decide +kernel
theorem dX12_timeOrder_101 : decode cX12_timeOrder 101 = .ok (.ireturn, 1) := by decide +kernel
theorem dX12_timeOrder_102 : decode cX12_timeOrder 102 = .ok (.aload_n 0, 1) := by decide +kernel
theorem dX12_timeOrder_103 : decode cX12_timeOrder 103 = .ok (.iload_n 2, 1) := by decide +kernel
theorem dX12_timeOrder_104 : decode cX12_timeOrder 104 = .ok (.iconst 1, 1) := by decide +kernel
theorem dX12_timeOrder_105 : decode cX12_timeOrder 105 = .ok (.iadd, 1) := by decide +kernel
theorem dX12_timeOrder_106 : decode cX12_timeOrder 106 = .ok (.iconst 0, 1) := by decide +kernel
theorem dX12_timeOrder_107 : decode cX12_timeOrder 107 = .ok (.aload_n 0, 1) := by decide +kernel
theorem dX12_timeOrder_108 : decode cX12_timeOrder 108 = .ok (.getfield 7, 3) := by decide +kernel
theorem dX12_timeOrder_111 : decode cX12_timeOrder 111 = .ok (.iconst 0, 1) := by decide +kernel
theorem dX12_timeOrder_112 : decode cX12_timeOrder 112 = .ok (.iaload, 1) := by decide +kernel
theorem dX12_timeOrder_113 : decode cX12_timeOrder 113 = .ok (.iconst 1, 1) := by decide +kernel
theorem dX12_timeOrder_114 : decode cX12_timeOrder 114 = .ok (.isub, 1) := by decide +kernel
theorem dX12_timeOrder_115 : decode cX12_timeOrder 115 = .ok (.invokevirtual 194, 3) := by decide +kernel
theorem dX12_timeOrder_118 : decode cX12_timeOrder 118 = .ok (.ireturn, 1) := by decide +kernel
theorem dX12_timeOrder_119 : decode cX12_timeOrder 119 = .ok (.aload_n 0, 1) := by decide +kernel
theorem dX12_timeOrder_120 : decode cX12_timeOrder 120 = .ok (.iconst 0, 1) := by decide +kernel
theorem dX12_timeOrder_121 : decode cX12_timeOrder 121 = .ok (.aload_n 0, 1) := by decide +kernel
theorem dX12_timeOrder_122 : decode cX12_timeOrder 122 = .ok (.getfield 7, 3) := by decide +kernel
theorem dX12_timeOrder_125 : decode cX12_timeOrder 125 = .ok (.iconst 1, 1) := by decide +kernel
theorem dX12_timeOrder_126 : decode cX12_timeOrder 126 = .ok (.iaload, 1) := by decide +kernel
theorem dX12_timeOrder_127 : decode cX12_timeOrder 127 = .ok (.iload_n 2, 1) := by decide +kernel
theorem dX12_timeOrder_128 : decode cX12_timeOrder 128 = .ok (.iconst 1, 1) := by decide +kernel
theorem dX12_timeOrder_129 : decode cX12_timeOrder 129 = .ok (.iadd, 1) := by decide +kernel
theorem dX12_timeOrder_130 : decode cX12_timeOrder 130 = .ok (.iconst (-1), 1) := by decide +kernel
theorem dX12_timeOrder_131 : decode cX12_timeOrder 131 = .ok (.invokevirtual 214, 3) := by decide +kernel
theorem dX12_timeOrder_134 : decode cX12_timeOrder 134 = .ok (.ifCond .eq 20, 3) := by decide +kernel
theorem dX12_timeOrder_137 : decode cX12_timeOrder 137 = .ok (.aload_n 0, 1) := by decide +kernel
theorem dX12_timeOrder_138 : decode cX12_timeOrder 138 = .ok (.iload_n 2, 1) := by decide +kernel
theorem dX12_timeOrder_139 : decode cX12_timeOrder 139 = .ok (.iconst 2, 1) := by decide +kernel
theorem dX12_timeOrder_140 : decode cX12_timeOrder 140 = .ok (.iadd, 1) := by decide +kernel
theorem dX12_timeOrder_141 : decode cX12_timeOrder 141 = .ok (.iconst 1, 1) := by decide +kernel
theorem dX12_timeOrder_142 : decode cX12_timeOrder 142 = .ok (.bipush 99, 2) := by decide +kernel
theorem dX12_timeOrder_144 : decode cX12_timeOrder 144 = .ok (.invokevirtual 194, 3) := by decide +kernel
theorem dX12_timeOrder_147 : decode cX12_timeOrder 147 = .ok (.ifCond .eq 7, 3) := by decide +kernel
theorem dX12_timeOrder_150 : decode cX12_timeOrder 150 = .ok (.iconst 1, 1) := by decide +kernel
theorem dX12_timeOrder_151 : decode cX12_timeOrder 151 = .ok (.goto 4, 3) := by decide +kernel
theorem dX12_timeOrder_154 : decode cX12_timeOrder 154 = .ok (.iconst 0, 1) := by decide +kernel
theorem dX12_timeOrder_155 : decode cX12_timeOrder 155 = .ok (.ireturn, 1) := by decide +kernel
theorem dX12_timeOrder_156 : decode cX12_timeOrder 156 = .ok (.aload_n 0, 1) := by decide +kernel
theorem dX12_timeOrder_157 : decode cX12_timeOrder 157 = .ok (.iload_n 2, 1) := by decide +kernel
theorem dX12_timeOrder_158 : decode cX12_timeOrder 158 = .ok (.iconst 1, 1) := by decide +kernel
theorem dX12_timeOrder_159 : decode cX12_timeOrder 159 = .ok (.iadd, 1) := by decide +kernel
theorem dX12_timeOrder_160 : decode cX12_timeOrder 160 = .ok (.iconst 1, 1) := by decide +kernel
theorem dX12_timeOrder_161 : decode cX12_timeOrder 161 = .ok (.bipush 99, 2) := by decide +kernel
theorem dX12_timeOrder_163 : decode cX12_timeOrder 163 = .ok (.invokevirtual 194, 3) := by decide +kernel
theorem dX12_timeOrder_166 : decode cX12_timeOrder 166 = .ok (.ireturn, 1) := by decide +kernel
theorem dX12_timeOrder_167 : decode cX12_timeOrder 167 = .ok (.aload_n 0, 1) := by decide +kernel
theorem dX12_timeOrder_168 : decode cX12_timeOrder 168 = .ok (.iload_n 2, 1) := by decide +kernel
theorem dX12_timeOrder_169 : decode cX12_timeOrder 169 = .ok (.invokevirtual 246, 3) := by decide +kernel
theorem dX12_timeOrder_172 : decode cX12_timeOrder 172 = .ok (.ireturn, 1) := by decide +kernel
theorem dX12_timeOrder_173 : decode cX12_timeOrder 173 = .ok (.iconst 1, 1) := by decide +kernel
theorem dX12_timeOrder_174 : decode cX12_timeOrder 174 = .ok (.ireturn, 1) := by decide +kernel
def qX12_timeOrder_b101  (post : Int32 → St → Prop)  (s0 : Int32) (u0 : St) : Prop := (bz s0 ∧ post s0 u0)
set_option maxRecDepth 100000 in
set_option maxHeartbeats 4000000 in
theorem kX12_timeOrder_b101 {C : Cx} {o0 : Nat} {a0 : Nat → Nat} (hC : Fx C cX12_timeOrder 3 RX12) (hR0 : xR C = rm 11) {post : Int32 → St → Prop} (hR : RZ C cX12_timeOrder 3 (fun u : St => (wX12 o0 a0 (xy C) u [])) (fun r u => post r u))  {s0 : Int32} {u0 : St} (h : qX12_timeOrder_b101 post s0 u0) : G C 0 0 3 (wX12 o0 a0 (xy C) u0 []) 101 [] [.int s0] := by
  exact hR _ _ _ u0 dX12_timeOrder_101 h.1 h.2
def qX12_timeOrder_b100  (post : Int32 → St → Prop)  (u0 : St) : Prop := qX12_timeOrder_b101 post (0 : Int32) u0
set_option maxRecDepth 100000 in
set_option maxHeartbeats 4000000 in
theorem kX12_timeOrder_b100 {C : Cx} {o0 : Nat} {a0 : Nat → Nat} (hC : Fx C cX12_timeOrder 3 RX12) (hR0 : xR C = rm 11) {post : Int32 → St → Prop} (hR : RZ C cX12_timeOrder 3 (fun u : St => (wX12 o0 a0 (xy C) u [])) (fun r u => post r u))  {u0 : St} (h : qX12_timeOrder_b100 post u0) : G C 0 0 3 (wX12 o0 a0 (xy C) u0 []) 100 [] [] := by
  refine g_iconst (pc := 100) (v := 0) hC dX12_timeOrder_100 (by decide) ?_
  exact kX12_timeOrder_b101 hC hR0 hR  h
def qX12_timeOrder_b155  (post : Int32 → St → Prop)  (s0 : Int32) (u0 : St) : Prop := (bz s0 ∧ post s0 u0)
set_option maxRecDepth 100000 in
set_option maxHeartbeats 4000000 in
theorem kX12_timeOrder_b155 {C : Cx} {o0 : Nat} {a0 : Nat → Nat} (hC : Fx C cX12_timeOrder 3 RX12) (hR0 : xR C = rm 11) {post : Int32 → St → Prop} (hR : RZ C cX12_timeOrder 3 (fun u : St => (wX12 o0 a0 (xy C) u [])) (fun r u => post r u))  {s0 : Int32} {u0 : St} (h : qX12_timeOrder_b155 post s0 u0) : G C 0 0 3 (wX12 o0 a0 (xy C) u0 []) 155 [] [.int s0] := by
  exact hR _ _ _ u0 dX12_timeOrder_155 h.1 h.2
def qX12_timeOrder_b154  (post : Int32 → St → Prop)  (u0 : St) : Prop := qX12_timeOrder_b155 post (0 : Int32) u0
set_option maxRecDepth 100000 in
set_option maxHeartbeats 4000000 in
theorem kX12_timeOrder_b154 {C : Cx} {o0 : Nat} {a0 : Nat → Nat} (hC : Fx C cX12_timeOrder 3 RX12) (hR0 : xR C = rm 11) {post : Int32 → St → Prop} (hR : RZ C cX12_timeOrder 3 (fun u : St => (wX12 o0 a0 (xy C) u [])) (fun r u => post r u))  {u0 : St} (h : qX12_timeOrder_b154 post u0) : G C 0 0 3 (wX12 o0 a0 (xy C) u0 []) 154 [] [] := by
  refine g_iconst (pc := 154) (v := 0) hC dX12_timeOrder_154 (by decide) ?_
  exact kX12_timeOrder_b155 hC hR0 hR  h
def qX12_timeOrder_b173  (post : Int32 → St → Prop)  (u0 : St) : Prop := post (1 : Int32) u0
set_option maxRecDepth 100000 in
set_option maxHeartbeats 4000000 in
theorem kX12_timeOrder_b173 {C : Cx} {o0 : Nat} {a0 : Nat → Nat} (hC : Fx C cX12_timeOrder 3 RX12) (hR0 : xR C = rm 11) {post : Int32 → St → Prop} (hR : RZ C cX12_timeOrder 3 (fun u : St => (wX12 o0 a0 (xy C) u [])) (fun r u => post r u))  {u0 : St} (h : qX12_timeOrder_b173 post u0) : G C 0 0 3 (wX12 o0 a0 (xy C) u0 []) 173 [] [] := by
  refine g_iconst (pc := 173) (v := 1) hC dX12_timeOrder_173 (by decide) ?_
  exact hR _ _ _ u0 dX12_timeOrder_174 (Or.inr rfl) h
def qX12_timeOrder (x1 : Int32) (x2 : Int32) (u0 : St) (post : Int32 → St → Prop) : Prop := ((x1 = (13 : Int32) → qX12_number (x2 + (1 : Int32)) (1 : Int32) (20 : Int32) u0 (fun r_29 u_28 => (bz r_29 ∧ post r_29 u_28))) ∧ ((x1 = (14 : Int32) → qX12_number (x2 + (1 : Int32)) (0 : Int32) (6 : Int32) u0 (fun r_33 u_32 => (bz r_33 ∧ post r_33 u_32))) ∧ ((x1 = (15 : Int32) → qX12_number (x2 + (1 : Int32)) (0 : Int32) (6 : Int32) u0 (fun r_37 u_36 => ((r_37 = 0 → qX12_timeOrder_b100 post u_36) ∧ (¬ r_37 = 0 → qX12_number (x2 + (2 : Int32)) (1 : Int32) (99 : Int32) u_36 (fun r_41 u_40 => ((r_41 = 0 → qX12_timeOrder_b100 post u_40) ∧ (¬ r_41 = 0 → qX12_timeOrder_b101 post (1 : Int32) u_40))))))) ∧ ((x1 = (16 : Int32) → qX12_number (x2 + (1 : Int32)) (0 : Int32) ((ga u0 0 ((0 : Int32)).toNatClampNeg) - (1 : Int32)) u0 (fun r_46 u_45 => (bz r_46 ∧ post r_46 u_45))) ∧ ((x1 = (17 : Int32) → qX12_personTo (0 : Int32) (ga u0 0 ((1 : Int32)).toNatClampNeg) (x2 + (1 : Int32)) (-1 : Int32) u0 (fun r_50 u_49 => ((r_50 = 0 → qX12_timeOrder_b154 post u_49) ∧ (¬ r_50 = 0 → qX12_number (x2 + (2 : Int32)) (1 : Int32) (99 : Int32) u_49 (fun r_54 u_53 => ((r_54 = 0 → qX12_timeOrder_b154 post u_53) ∧ (¬ r_54 = 0 → qX12_timeOrder_b155 post (1 : Int32) u_53))))))) ∧ ((x1 = (18 : Int32) → qX12_timeOrder_b173 post u0) ∧ ((x1 = (19 : Int32) → qX12_test x2 u0 (fun r_60 u_59 => (bz r_60 ∧ post r_60 u_59))) ∧ ((x1 = (20 : Int32) → qX12_number (x2 + (1 : Int32)) (1 : Int32) (99 : Int32) u0 (fun r_64 u_63 => (bz r_64 ∧ post r_64 u_63))) ∧ (¬ x1 = (13 : Int32) → ¬ x1 = (14 : Int32) → ¬ x1 = (15 : Int32) → ¬ x1 = (16 : Int32) → ¬ x1 = (17 : Int32) → ¬ x1 = (18 : Int32) → ¬ x1 = (19 : Int32) → ¬ x1 = (20 : Int32) → qX12_timeOrder_b173 post u0)))))))))
set_option maxRecDepth 100000 in
set_option maxHeartbeats 4000000 in
theorem kX12_timeOrder {C : Cx} {o0 : Nat} {a0 : Nat → Nat} (hC : Fx C cX12_timeOrder 3 RX12) (hR0 : xR C = rm 11) {post : Int32 → St → Prop} (hR : RZ C cX12_timeOrder 3 (fun u : St => (wX12 o0 a0 (xy C) u [])) (fun r u => post r u)) {x1 : Int32} {x2 : Int32} {u0 : St} (h : qX12_timeOrder x1 x2 u0 post) : G C 0 0 3 (wX12 o0 a0 (xy C) u0 []) 0 [(0, .ref o0), (1, .int x1), (2, .int x2)] [] := by
  refine g_iload_n (pc := 0) hC 1 dX12_timeOrder_0 rfl rfl ?_
  by_cases c_31 : x1 = (13 : Int32)
  · have h := h.1 c_31
    refine g_tabIn (pc := 1) (tgt := 48) hC dX12_timeOrder_1 (by rw [c_31]; decide) (by rw [c_31]; decide) (by rw [c_31]; rfl) (by decide) ?_
    refine g_aload_n (pc := 48) hC 0 dX12_timeOrder_48 rfl rfl ?_
    refine g_iload_n (pc := 49) hC 2 dX12_timeOrder_49 rfl rfl ?_
    refine g_iconst (pc := 50) (v := 1) hC dX12_timeOrder_50 (by decide) ?_
    refine g_iadd (pc := 51) hC dX12_timeOrder_51 ?_
    refine g_iconst (pc := 52) (v := 1) hC dX12_timeOrder_52 (by decide) ?_
    refine g_bipush (pc := 53) (v := 20) hC dX12_timeOrder_53 (by decide) ?_
    refine g_callV_i (pc := 55) (wd := fun (u : St) Y => (wX12 o0 a0 (xy C) u Y)) (F := fun Z => Z) (X := []) (As := [.int (x2 + (1 : Int32)), .int (1 : Int32), .int (20 : Int32)]) (rest := []) (u := u0) hC (fun _ _ => rfl) (fun _ => rfl) (ctX12_number h) wvX12_number ml_X12_194 (ci := 10) (q0 := 0) rfl rfl rfl rfl (rmok hR0 rfl) ⟨Nat.zero_le _, Nat.zero_le _⟩ rfl (Nat.le_of_ble_eq_true rfl) dX12_timeOrder_55 (fun r_29 u_28 h => ?_)
    exact hR _ _ _ u_28 dX12_timeOrder_58 h.1 h.2
  by_cases c_35 : x1 = (14 : Int32)
  · have h := h.2.1 c_35
    refine g_tabIn (pc := 1) (tgt := 59) hC dX12_timeOrder_1 (by rw [c_35]; decide) (by rw [c_35]; decide) (by rw [c_35]; rfl) (by decide) ?_
    refine g_aload_n (pc := 59) hC 0 dX12_timeOrder_59 rfl rfl ?_
    refine g_iload_n (pc := 60) hC 2 dX12_timeOrder_60 rfl rfl ?_
    refine g_iconst (pc := 61) (v := 1) hC dX12_timeOrder_61 (by decide) ?_
    refine g_iadd (pc := 62) hC dX12_timeOrder_62 ?_
    refine g_iconst (pc := 63) (v := 0) hC dX12_timeOrder_63 (by decide) ?_
    refine g_bipush (pc := 64) (v := 6) hC dX12_timeOrder_64 (by decide) ?_
    refine g_callV_i (pc := 66) (wd := fun (u : St) Y => (wX12 o0 a0 (xy C) u Y)) (F := fun Z => Z) (X := []) (As := [.int (x2 + (1 : Int32)), .int (0 : Int32), .int (6 : Int32)]) (rest := []) (u := u0) hC (fun _ _ => rfl) (fun _ => rfl) (ctX12_number h) wvX12_number ml_X12_194 (ci := 10) (q0 := 0) rfl rfl rfl rfl (rmok hR0 rfl) ⟨Nat.zero_le _, Nat.zero_le _⟩ rfl (Nat.le_of_ble_eq_true rfl) dX12_timeOrder_66 (fun r_33 u_32 h => ?_)
    exact hR _ _ _ u_32 dX12_timeOrder_69 h.1 h.2
  by_cases c_44 : x1 = (15 : Int32)
  · have h := h.2.2.1 c_44
    refine g_tabIn (pc := 1) (tgt := 70) hC dX12_timeOrder_1 (by rw [c_44]; decide) (by rw [c_44]; decide) (by rw [c_44]; rfl) (by decide) ?_
    refine g_aload_n (pc := 70) hC 0 dX12_timeOrder_70 rfl rfl ?_
    refine g_iload_n (pc := 71) hC 2 dX12_timeOrder_71 rfl rfl ?_
    refine g_iconst (pc := 72) (v := 1) hC dX12_timeOrder_72 (by decide) ?_
    refine g_iadd (pc := 73) hC dX12_timeOrder_73 ?_
    refine g_iconst (pc := 74) (v := 0) hC dX12_timeOrder_74 (by decide) ?_
    refine g_bipush (pc := 75) (v := 6) hC dX12_timeOrder_75 (by decide) ?_
    refine g_callV_i (pc := 77) (wd := fun (u : St) Y => (wX12 o0 a0 (xy C) u Y)) (F := fun Z => Z) (X := []) (As := [.int (x2 + (1 : Int32)), .int (0 : Int32), .int (6 : Int32)]) (rest := []) (u := u0) hC (fun _ _ => rfl) (fun _ => rfl) (ctX12_number h) wvX12_number ml_X12_194 (ci := 10) (q0 := 0) rfl rfl rfl rfl (rmok hR0 rfl) ⟨Nat.zero_le _, Nat.zero_le _⟩ rfl (Nat.le_of_ble_eq_true rfl) dX12_timeOrder_77 (fun r_37 u_36 h => ?_)
    refine g_if_eq (pc := 80) (tgt := 100) hC dX12_timeOrder_80 (by decide) (fun c_39 => ?_) (fun c_39 => ?_)
    · have h := h.1 c_39
      refine g_sub (lv' := []) [] rfl ?_
      exact kX12_timeOrder_b100 hC hR0 hR  h
    · have h := h.2 c_39
      refine g_aload_n (pc := 83) hC 0 dX12_timeOrder_83 rfl rfl ?_
      refine g_iload_n (pc := 84) hC 2 dX12_timeOrder_84 rfl rfl ?_
      refine g_iconst (pc := 85) (v := 2) hC dX12_timeOrder_85 (by decide) ?_
      refine g_iadd (pc := 86) hC dX12_timeOrder_86 ?_
      refine g_iconst (pc := 87) (v := 1) hC dX12_timeOrder_87 (by decide) ?_
      refine g_bipush (pc := 88) (v := 99) hC dX12_timeOrder_88 (by decide) ?_
      refine g_callV_i (pc := 90) (wd := fun (u : St) Y => (wX12 o0 a0 (xy C) u Y)) (F := fun Z => Z) (X := []) (As := [.int (x2 + (2 : Int32)), .int (1 : Int32), .int (99 : Int32)]) (rest := []) (u := u_36) hC (fun _ _ => rfl) (fun _ => rfl) (ctX12_number h) wvX12_number ml_X12_194 (ci := 10) (q0 := 0) rfl rfl rfl rfl (rmok hR0 rfl) ⟨Nat.zero_le _, Nat.zero_le _⟩ rfl (Nat.le_of_ble_eq_true rfl) dX12_timeOrder_90 (fun r_41 u_40 h => ?_)
      refine g_if_eq (pc := 93) (tgt := 100) hC dX12_timeOrder_93 (by decide) (fun c_43 => ?_) (fun c_43 => ?_)
      · have h := h.1 c_43
        refine g_sub (lv' := []) [] rfl ?_
        exact kX12_timeOrder_b100 hC hR0 hR  h
      · have h := h.2 c_43
        refine g_iconst (pc := 96) (v := 1) hC dX12_timeOrder_96 (by decide) ?_
        refine g_goto (pc := 97) (tgt := 101) hC dX12_timeOrder_97 (by decide) ?_
        refine g_sub (lv' := []) [] rfl ?_
        exact kX12_timeOrder_b101 hC hR0 hR  h
  by_cases c_48 : x1 = (16 : Int32)
  · have h := h.2.2.2.1 c_48
    refine g_tabIn (pc := 1) (tgt := 102) hC dX12_timeOrder_1 (by rw [c_48]; decide) (by rw [c_48]; decide) (by rw [c_48]; rfl) (by decide) ?_
    refine g_aload_n (pc := 102) hC 0 dX12_timeOrder_102 rfl rfl ?_
    refine g_iload_n (pc := 103) hC 2 dX12_timeOrder_103 rfl rfl ?_
    refine g_iconst (pc := 104) (v := 1) hC dX12_timeOrder_104 (by decide) ?_
    refine g_iadd (pc := 105) hC dX12_timeOrder_105 ?_
    refine g_iconst (pc := 106) (v := 0) hC dX12_timeOrder_106 (by decide) ?_
    refine g_aload_n (pc := 107) hC 0 dX12_timeOrder_107 rfl rfl ?_
    refine getX12_0 (pc := 108) hC (F := fun Z => Z) (X := []) (fun _ => rfl) fl_X12_7 dX12_timeOrder_108 ?_
    refine g_iconst (pc := 111) (v := 0) hC dX12_timeOrder_111 (by decide) ?_
    refine aldX12_0 (pc := 112) hC (F := fun Z => Z) (X := []) (fun _ => rfl) (by unfold vp_in; decide) dX12_timeOrder_112 ?_
    refine g_iconst (pc := 113) (v := 1) hC dX12_timeOrder_113 (by decide) ?_
    refine g_isub (pc := 114) hC dX12_timeOrder_114 ?_
    refine g_callV_i (pc := 115) (wd := fun (u : St) Y => (wX12 o0 a0 (xy C) u Y)) (F := fun Z => Z) (X := []) (As := [.int (x2 + (1 : Int32)), .int (0 : Int32), .int ((ga u0 0 ((0 : Int32)).toNatClampNeg) - (1 : Int32))]) (rest := []) (u := u0) hC (fun _ _ => rfl) (fun _ => rfl) (ctX12_number h) wvX12_number ml_X12_194 (ci := 10) (q0 := 0) rfl rfl rfl rfl (rmok hR0 rfl) ⟨Nat.zero_le _, Nat.zero_le _⟩ rfl (Nat.le_of_ble_eq_true rfl) dX12_timeOrder_115 (fun r_46 u_45 h => ?_)
    exact hR _ _ _ u_45 dX12_timeOrder_118 h.1 h.2
  by_cases c_57 : x1 = (17 : Int32)
  · have h := h.2.2.2.2.1 c_57
    refine g_tabIn (pc := 1) (tgt := 119) hC dX12_timeOrder_1 (by rw [c_57]; decide) (by rw [c_57]; decide) (by rw [c_57]; rfl) (by decide) ?_
    refine g_aload_n (pc := 119) hC 0 dX12_timeOrder_119 rfl rfl ?_
    refine g_iconst (pc := 120) (v := 0) hC dX12_timeOrder_120 (by decide) ?_
    refine g_aload_n (pc := 121) hC 0 dX12_timeOrder_121 rfl rfl ?_
    refine getX12_0 (pc := 122) hC (F := fun Z => Z) (X := []) (fun _ => rfl) fl_X12_7 dX12_timeOrder_122 ?_
    refine g_iconst (pc := 125) (v := 1) hC dX12_timeOrder_125 (by decide) ?_
    refine aldX12_0 (pc := 126) hC (F := fun Z => Z) (X := []) (fun _ => rfl) (by unfold vp_in; decide) dX12_timeOrder_126 ?_
    refine g_iload_n (pc := 127) hC 2 dX12_timeOrder_127 rfl rfl ?_
    refine g_iconst (pc := 128) (v := 1) hC dX12_timeOrder_128 (by decide) ?_
    refine g_iadd (pc := 129) hC dX12_timeOrder_129 ?_
    refine g_iconst (pc := 130) (v := -1) hC dX12_timeOrder_130 (by decide) ?_
    refine g_callV_i (pc := 131) (wd := fun (u : St) Y => (wX12 o0 a0 (xy C) u Y)) (F := fun Z => Z) (X := []) (As := [.int (0 : Int32), .int (ga u0 0 ((1 : Int32)).toNatClampNeg), .int (x2 + (1 : Int32)), .int (-1 : Int32)]) (rest := []) (u := u0) hC (fun _ _ => rfl) (fun _ => rfl) (ctX12_personTo h) wvX12_personTo ml_X12_214 (ci := 10) (q0 := 0) rfl rfl rfl rfl (rmok hR0 rfl) ⟨Nat.zero_le _, Nat.zero_le _⟩ rfl (Nat.le_of_ble_eq_true rfl) dX12_timeOrder_131 (fun r_50 u_49 h => ?_)
    refine g_if_eq (pc := 134) (tgt := 154) hC dX12_timeOrder_134 (by decide) (fun c_52 => ?_) (fun c_52 => ?_)
    · have h := h.1 c_52
      refine g_sub (lv' := []) [] rfl ?_
      exact kX12_timeOrder_b154 hC hR0 hR  h
    · have h := h.2 c_52
      refine g_aload_n (pc := 137) hC 0 dX12_timeOrder_137 rfl rfl ?_
      refine g_iload_n (pc := 138) hC 2 dX12_timeOrder_138 rfl rfl ?_
      refine g_iconst (pc := 139) (v := 2) hC dX12_timeOrder_139 (by decide) ?_
      refine g_iadd (pc := 140) hC dX12_timeOrder_140 ?_
      refine g_iconst (pc := 141) (v := 1) hC dX12_timeOrder_141 (by decide) ?_
      refine g_bipush (pc := 142) (v := 99) hC dX12_timeOrder_142 (by decide) ?_
      refine g_callV_i (pc := 144) (wd := fun (u : St) Y => (wX12 o0 a0 (xy C) u Y)) (F := fun Z => Z) (X := []) (As := [.int (x2 + (2 : Int32)), .int (1 : Int32), .int (99 : Int32)]) (rest := []) (u := u_49) hC (fun _ _ => rfl) (fun _ => rfl) (ctX12_number h) wvX12_number ml_X12_194 (ci := 10) (q0 := 0) rfl rfl rfl rfl (rmok hR0 rfl) ⟨Nat.zero_le _, Nat.zero_le _⟩ rfl (Nat.le_of_ble_eq_true rfl) dX12_timeOrder_144 (fun r_54 u_53 h => ?_)
      refine g_if_eq (pc := 147) (tgt := 154) hC dX12_timeOrder_147 (by decide) (fun c_56 => ?_) (fun c_56 => ?_)
      · have h := h.1 c_56
        refine g_sub (lv' := []) [] rfl ?_
        exact kX12_timeOrder_b154 hC hR0 hR  h
      · have h := h.2 c_56
        refine g_iconst (pc := 150) (v := 1) hC dX12_timeOrder_150 (by decide) ?_
        refine g_goto (pc := 151) (tgt := 155) hC dX12_timeOrder_151 (by decide) ?_
        refine g_sub (lv' := []) [] rfl ?_
        exact kX12_timeOrder_b155 hC hR0 hR  h
  by_cases c_58 : x1 = (18 : Int32)
  · have h := h.2.2.2.2.2.1 c_58
    refine g_tabIn (pc := 1) (tgt := 173) hC dX12_timeOrder_1 (by rw [c_58]; decide) (by rw [c_58]; decide) (by rw [c_58]; rfl) (by decide) ?_
    refine g_sub (lv' := []) [] rfl ?_
    exact kX12_timeOrder_b173 hC hR0 hR  h
  by_cases c_62 : x1 = (19 : Int32)
  · have h := h.2.2.2.2.2.2.1 c_62
    refine g_tabIn (pc := 1) (tgt := 167) hC dX12_timeOrder_1 (by rw [c_62]; decide) (by rw [c_62]; decide) (by rw [c_62]; rfl) (by decide) ?_
    refine g_aload_n (pc := 167) hC 0 dX12_timeOrder_167 rfl rfl ?_
    refine g_iload_n (pc := 168) hC 2 dX12_timeOrder_168 rfl rfl ?_
    refine g_callV_i (pc := 169) (wd := fun (u : St) Y => (wX12 o0 a0 (xy C) u Y)) (F := fun Z => Z) (X := []) (As := [.int x2]) (rest := []) (u := u0) hC (fun _ _ => rfl) (fun _ => rfl) (ctX12_test h) wvX12_test ml_X12_246 (ci := 10) (q0 := 0) rfl rfl rfl rfl (rmok hR0 rfl) ⟨Nat.zero_le _, Nat.zero_le _⟩ rfl (Nat.le_of_ble_eq_true rfl) dX12_timeOrder_169 (fun r_60 u_59 h => ?_)
    exact hR _ _ _ u_59 dX12_timeOrder_172 h.1 h.2
  by_cases c_66 : x1 = (20 : Int32)
  · have h := h.2.2.2.2.2.2.2.1 c_66
    refine g_tabIn (pc := 1) (tgt := 156) hC dX12_timeOrder_1 (by rw [c_66]; decide) (by rw [c_66]; decide) (by rw [c_66]; rfl) (by decide) ?_
    refine g_aload_n (pc := 156) hC 0 dX12_timeOrder_156 rfl rfl ?_
    refine g_iload_n (pc := 157) hC 2 dX12_timeOrder_157 rfl rfl ?_
    refine g_iconst (pc := 158) (v := 1) hC dX12_timeOrder_158 (by decide) ?_
    refine g_iadd (pc := 159) hC dX12_timeOrder_159 ?_
    refine g_iconst (pc := 160) (v := 1) hC dX12_timeOrder_160 (by decide) ?_
    refine g_bipush (pc := 161) (v := 99) hC dX12_timeOrder_161 (by decide) ?_
    refine g_callV_i (pc := 163) (wd := fun (u : St) Y => (wX12 o0 a0 (xy C) u Y)) (F := fun Z => Z) (X := []) (As := [.int (x2 + (1 : Int32)), .int (1 : Int32), .int (99 : Int32)]) (rest := []) (u := u0) hC (fun _ _ => rfl) (fun _ => rfl) (ctX12_number h) wvX12_number ml_X12_194 (ci := 10) (q0 := 0) rfl rfl rfl rfl (rmok hR0 rfl) ⟨Nat.zero_le _, Nat.zero_le _⟩ rfl (Nat.le_of_ble_eq_true rfl) dX12_timeOrder_163 (fun r_64 u_63 h => ?_)
    exact hR _ _ _ u_63 dX12_timeOrder_166 h.1 h.2
  have h := h.2.2.2.2.2.2.2.2 c_31 c_35 c_44 c_48 c_57 c_58 c_62 c_66
  refine g_tabOut (pc := 1) (tgt := 173) hC dX12_timeOrder_1 (tab_out x1 (13) 8 (20) rfl (tab_s c_31 (tab_s c_35 (tab_s c_44 (tab_s c_48 (tab_s c_57 (tab_s c_58 (tab_s c_62 (tab_s c_66 tab_0))))))))) (by decide) ?_
  refine g_sub (lv' := []) [] rfl ?_
  exact kX12_timeOrder_b173 hC hR0 hR  h
theorem ctX12_timeOrder {l : Launch} {D : va_G} {cy : Nat → ClassId} {kd : Nat → Nat} {o0 : Nat} {a0 : Nat → Nat} {x1 : Int32} {x2 : Int32} {u0 : St} {post : Int32 → St → Prop} (h : qX12_timeOrder x1 x2 u0 post) : CtI l D cy kd yX12_timeOrder cX12_timeOrder 3 11 .boolean [.ref o0, .int x1, .int x2] (fun u : St => (wX12 o0 a0 cy u [])) u0 (fun r u => post r u) := met_z (by decide) (Nat.le_of_ble_eq_true rfl) (fun C e1 e2 e3 e4 e5 hC hR => by subst e1 e2 e3 e4; exact kX12_timeOrder hC e5 hR h)
theorem dX12_timeStep_0 : decode cX12_timeStep 0 = .ok (.aload_n 0, 1) := by decide +kernel
theorem dX12_timeStep_1 : decode cX12_timeStep 1 = .ok (.ldc 181, 2) := by decide +kernel
theorem dX12_timeStep_3 : decode cX12_timeStep 3 = .ok (.invokevirtual 173, 3) := by decide +kernel
theorem dX12_timeStep_6 : decode cX12_timeStep 6 = .ok (.istore_n 1, 1) := by decide +kernel
theorem dX12_timeStep_7 : decode cX12_timeStep 7 = .ok (.aload_n 0, 1) := by decide +kernel
theorem dX12_timeStep_8 : decode cX12_timeStep 8 = .ok (.getfield 7, 3) := by decide +kernel
theorem dX12_timeStep_11 : decode cX12_timeStep 11 = .ok (.sipush 1831, 3) := by decide +kernel
theorem dX12_timeStep_14 : decode cX12_timeStep 14 = .ok (.iaload, 1) := by decide +kernel
theorem dX12_timeStep_15 : decode cX12_timeStep 15 = .ok (.istore_n 2, 1) := by decide +kernel
theorem dX12_timeStep_16 : decode cX12_timeStep 16 = .ok (.sipush 1912, 3) := by decide +kernel
theorem dX12_timeStep_19 : decode cX12_timeStep 19 = .ok (.bipush 6, 2) := by decide +kernel
theorem dX12_timeStep_21 : decode cX12_timeStep 21 = .ok (.iload_n 2, 1) := by decide +kernel
theorem dX12_timeStep_22 : decode cX12_timeStep 22 = .ok (.imul, 1) := by decide +kernel
theorem dX12_timeStep_23 : decode cX12_timeStep 23 = .ok (.iadd, 1) := by decide +kernel
theorem dX12_timeStep_24 : decode cX12_timeStep 24 = .ok (.istore_n 3, 1) := by decide +kernel
theorem dX12_timeStep_25 : decode cX12_timeStep 25 = .ok (.iload_n 1, 1) := by decide +kernel
theorem dX12_timeStep_26 : decode cX12_timeStep 26 = .ok (.bipush 19, 2) := by decide +kernel
theorem dX12_timeStep_28 : decode cX12_timeStep 28 = .ok (.if_icmp .eq 9, 3) := by decide +kernel
theorem dX12_timeStep_31 : decode cX12_timeStep 31 = .ok (.iload_n 1, 1) := by decide +kernel
theorem dX12_timeStep_32 : decode cX12_timeStep 32 = .ok (.bipush 20, 2) := by decide +kernel
theorem dX12_timeStep_34 : decode cX12_timeStep 34 = .ok (.if_icmp .ne 7, 3) := by decide +kernel
theorem dX12_timeStep_37 : decode cX12_timeStep 37 = .ok (.iconst 1, 1) := by decide +kernel
theorem dX12_timeStep_38 : decode cX12_timeStep 38 = .ok (.goto 4, 3) := by decide +kernel
theorem dX12_timeStep_41 : decode cX12_timeStep 41 = .ok (.iconst 0, 1) := by decide +kernel
theorem dX12_timeStep_42 : decode cX12_timeStep 42 = .ok (.istore 4, 2) := by decide +kernel
theorem dX12_timeStep_44 : decode cX12_timeStep 44 = .ok (.iload_n 1, 1) := by decide +kernel
theorem dX12_timeStep_45 : decode cX12_timeStep 45 = .ok (.bipush 13, 2) := by decide +kernel
theorem dX12_timeStep_47 : decode cX12_timeStep 47 = .ok (.if_icmp .lt 22, 3) := by decide +kernel
theorem dX12_timeStep_50 : decode cX12_timeStep 50 = .ok (.iload_n 1, 1) := by decide +kernel
theorem dX12_timeStep_51 : decode cX12_timeStep 51 = .ok (.bipush 22, 2) := by decide +kernel
theorem dX12_timeStep_53 : decode cX12_timeStep 53 = .ok (.if_icmp .gt 16, 3) := by decide +kernel
theorem dX12_timeStep_56 : decode cX12_timeStep 56 = .ok (.iload_n 1, 1) := by decide +kernel
theorem dX12_timeStep_57 : decode cX12_timeStep 57 = .ok (.bipush 21, 2) := by decide +kernel
theorem dX12_timeStep_59 : decode cX12_timeStep 59 = .ok (.if_icmp .ne 16, 3) := by decide +kernel
theorem dX12_timeStep_62 : decode cX12_timeStep 62 = .ok (.aload_n 0, 1) := by decide +kernel
theorem dX12_timeStep_63 : decode cX12_timeStep 63 = .ok (.getfield 249, 3) := by decide +kernel
theorem dX12_timeStep_66 : decode cX12_timeStep 66 = .ok (.ifCond .ne 9, 3) := by decide +kernel
theorem dX12_timeStep_69 : decode cX12_timeStep 69 = .ok (.aload_n 0, 1) := by decide +kernel
theorem dX12_timeStep_70 : decode cX12_timeStep 70 = .ok (.iconst 2, 1) := by decide +kernel
theorem dX12_timeStep_71 : decode cX12_timeStep 71 = .ok (.invokevirtual 170, 3) := by decide +kernel
theorem dX12_timeStep_74 : decode cX12_timeStep 74 = .ok (.ireturn, 1) := by decide +kernel
theorem dX12_timeStep_75 : decode cX12_timeStep 75 = .ok (.iload_n 1, 1) := by decide +kernel
theorem dX12_timeStep_76 : decode cX12_timeStep 76 = .ok (.bipush 21, 2) := by decide +kernel
theorem dX12_timeStep_78 : decode cX12_timeStep 78 = .ok (.if_icmp .eq 19, 3) := by decide +kernel
theorem dX12_timeStep_81 : decode cX12_timeStep 81 = .ok (.aload_n 0, 1) := by decide +kernel
theorem dX12_timeStep_82 : decode cX12_timeStep 82 = .ok (.getfield 252, 3) := by decide +kernel
theorem dX12_timeStep_85 : decode cX12_timeStep 85 = .ok (.bipush 30, 2) := by decide +kernel
theorem dX12_timeStep_87 : decode cX12_timeStep 87 = .ok (.if_icmp .ne 10, 3) := by decide +kernel
theorem dX12_timeStep_90 : decode cX12_timeStep 90 = .ok (.aload_n 0, 1) := by decide +kernel
theorem dX12_timeStep_91 : decode cX12_timeStep 91 = .ok (.bipush 6, 2) := by decide +kernel
theorem dX12_timeStep_93 : decode cX12_timeStep 93 = .ok (.invokevirtual 170, 3) := by decide +kernel
theorem dX12_timeStep_96 : decode cX12_timeStep 96 = .ok (.ireturn, 1) := by decide +kernel
theorem dX12_timeStep_97 : decode cX12_timeStep 97 = .ok (.iload 4, 2) := by decide +kernel
theorem dX12_timeStep_99 : decode cX12_timeStep 99 = .ok (.ifCond .eq 18, 3) := by decide +kernel
theorem dX12_timeStep_102 : decode cX12_timeStep 102 = .ok (.aload_n 0, 1) := by decide +kernel
theorem dX12_timeStep_103 : decode cX12_timeStep 103 = .ok (.getfield 249, 3) := by decide +kernel
theorem dX12_timeStep_106 : decode cX12_timeStep 106 = .ok (.iconst 3, 1) := by decide +kernel
theorem dX12_timeStep_107 : decode cX12_timeStep 107 = .ok (.if_icmp .ne 10, 3) := by decide +kernel
theorem dX12_timeStep_110 : decode cX12_timeStep 110 = .ok (.aload_n 0, 1) := by decide +kernel
theorem dX12_timeStep_111 : decode cX12_timeStep 111 = .ok (.bipush 7, 2) := by decide +kernel
theorem dX12_timeStep_113 : decode cX12_timeStep 113 = .ok (.invokevirtual 170, 3) := by decide +kernel
theorem dX12_timeStep_116 : decode cX12_timeStep 116 = .ok (.ireturn, 1) := by decide +kernel
theorem dX12_timeStep_117 : decode cX12_timeStep 117 = .ok (.aload_n 0, 1) := by decide +kernel
theorem dX12_timeStep_118 : decode cX12_timeStep 118 = .ok (.dup, 1) := by decide +kernel
theorem dX12_timeStep_119 : decode cX12_timeStep 119 = .ok (.getfield 252, 3) := by decide +kernel
theorem dX12_timeStep_122 : decode cX12_timeStep 122 = .ok (.iload_n 1, 1) := by decide +kernel
theorem dX12_timeStep_123 : decode cX12_timeStep 123 = .ok (.bipush 21, 2) := by decide +kernel
theorem dX12_timeStep_125 : decode cX12_timeStep 125 = .ok (.if_icmp .ne 7, 3) := by decide +kernel
theorem dX12_timeStep_128 : decode cX12_timeStep 128 = .ok (.iconst 0, 1) := by decide +kernel
theorem dX12_timeStep_129 : decode cX12_timeStep 129 = .ok (.goto 4, 3) := by decide +kernel
theorem dX12_timeStep_132 : decode cX12_timeStep 132 = .ok (.iconst 1, 1) := by decide +kernel
theorem dX12_timeStep_133 : decode cX12_timeStep 133 = .ok (.iadd, 1) := by decide +kernel
theorem dX12_timeStep_134 : decode cX12_timeStep 134 = .ok (.putfield 252, 3) := by decide +kernel
theorem dX12_timeStep_137 : decode cX12_timeStep 137 = .ok (.aload_n 0, 1) := by decide +kernel
theorem dX12_timeStep_138 : decode cX12_timeStep 138 = .ok (.getfield 7, 3) := by decide +kernel
theorem dX12_timeStep_141 : decode cX12_timeStep 141 = .ok (.iload_n 3, 1) := by decide +kernel
theorem dX12_timeStep_142 : decode cX12_timeStep 142 = .ok (.iload_n 1, 1) := by decide +kernel
theorem dX12_timeStep_143 : decode cX12_timeStep 143 = .ok (.iastore, 1) := by decide +kernel
theorem dX12_timeStep_144 : decode cX12_timeStep 144 = .ok (.iconst 1, 1) := by decide +kernel
theorem dX12_timeStep_145 : decode cX12_timeStep 145 = .ok (.istore 5, 2) := by decide +kernel
theorem dX12_timeStep_147 : decode cX12_timeStep 147 = .ok (.iload 5, 2) := by decide +kernel
theorem dX12_timeStep_149 : decode cX12_timeStep 149 = .ok (.bipush 6, 2) := by decide +kernel
theorem dX12_timeStep_151 : decode cX12_timeStep 151 = .ok (.if_icmp .ge 19, 3) := by decide +kernel
theorem dX12_timeStep_154 : decode cX12_timeStep 154 = .ok (.aload_n 0, 1) := by decide +kernel
theorem dX12_timeStep_155 : decode cX12_timeStep 155 = .ok (.getfield 7, 3) := by decide +kernel
theorem dX12_timeStep_158 : decode cX12_timeStep 158 = .ok (.iload_n 3, 1) := by decide +kernel
theorem dX12_timeStep_159 : decode cX12_timeStep 159 = .ok (.iload 5, 2) := by decide +kernel
theorem dX12_timeStep_161 : decode cX12_timeStep 161 = .ok (.iadd, 1) := by decide +kernel
theorem dX12_timeStep_162 : decode cX12_timeStep 162 = .ok (.iconst 0, 1) := by decide +kernel
theorem dX12_timeStep_163 : decode cX12_timeStep 163 = .ok (.iastore, 1) := by decide +kernel
theorem dX12_timeStep_164 : decode cX12_timeStep 164 = .ok (.iinc 5 1, 3) := by decide +kernel
theorem dX12_timeStep_167 : decode cX12_timeStep 167 = .ok (.goto (-20), 3) := by decide +kernel
theorem dX12_timeStep_170 : decode cX12_timeStep 170 = .ok (.aload_n 0, 1) := by decide +kernel
theorem dX12_timeStep_171 : decode cX12_timeStep 171 = .ok (.getfield 7, 3) := by decide +kernel
theorem dX12_timeStep_174 : decode cX12_timeStep 174 = .ok (.sipush 1831, 3) := by decide +kernel
theorem dX12_timeStep_177 : decode cX12_timeStep 177 = .ok (.dup2, 1) := by decide +kernel
theorem dX12_timeStep_178 : decode cX12_timeStep 178 = .ok (.iaload, 1) := by decide +kernel
theorem dX12_timeStep_179 : decode cX12_timeStep 179 = .ok (.iconst 1, 1) := by decide +kernel
theorem dX12_timeStep_180 : decode cX12_timeStep 180 = .ok (.iadd, 1) := by decide +kernel
theorem dX12_timeStep_181 : decode cX12_timeStep 181 = .ok (.iastore, 1) := by decide +kernel
theorem dX12_timeStep_182 : decode cX12_timeStep 182 = .ok (.aload_n 0, 1) := by decide +kernel
theorem dX12_timeStep_183 : decode cX12_timeStep 183 = .ok (.invokevirtual 164, 3) := by decide +kernel
theorem dX12_timeStep_186 : decode cX12_timeStep 186 = .ok (.aload_n 0, 1) := by decide +kernel
theorem dX12_timeStep_187 : decode cX12_timeStep 187 = .ok (.iload_n 1, 1) := by decide +kernel
theorem dX12_timeStep_188 : decode cX12_timeStep 188 = .ok (.iload_n 3, 1) := by decide +kernel
theorem dX12_timeStep_189 : decode cX12_timeStep 189 = .ok (.invokevirtual 255, 3) := by decide +kernel
theorem dX12_timeStep_192 : decode cX12_timeStep 192 = .ok (.ifCond .ne 5, 3) := by decide +kernel
theorem dX12_timeStep_195 : decode cX12_timeStep 195 = .ok (.iconst 0, 1) := by decide +kernel
theorem dX12_timeStep_196 : decode cX12_timeStep 196 = .ok (.ireturn, 1) := by decide +kernel
theorem dX12_timeStep_197 : decode cX12_timeStep 197 = .ok (.iload 4, 2) := by decide +kernel
theorem dX12_timeStep_199 : decode cX12_timeStep 199 = .ok (.ifCond .eq 23, 3) := by decide +kernel
theorem dX12_timeStep_202 : decode cX12_timeStep 202 = .ok (.aload_n 0, 1) := by decide +kernel
theorem dX12_timeStep_203 : decode cX12_timeStep 203 = .ok (.getfield 44, 3) := by decide +kernel
theorem dX12_timeStep_206 : decode cX12_timeStep 206 = .ok (.aload_n 0, 1) := by decide +kernel
theorem dX12_timeStep_207 : decode cX12_timeStep 207 = .ok (.getfield 249, 3) := by decide +kernel
theorem dX12_timeStep_210 : decode cX12_timeStep 210 = .ok (.iload_n 2, 1) := by decide +kernel
theorem dX12_timeStep_211 : decode cX12_timeStep 211 = .ok (.iastore, 1) := by decide +kernel
theorem dX12_timeStep_212 : decode cX12_timeStep 212 = .ok (.aload_n 0, 1) := by decide +kernel
theorem dX12_timeStep_213 : decode cX12_timeStep 213 = .ok (.dup, 1) := by decide +kernel
theorem dX12_timeStep_214 : decode cX12_timeStep 214 = .ok (.getfield 249, 3) := by decide +kernel
theorem dX12_timeStep_217 : decode cX12_timeStep 217 = .ok (.iconst 1, 1) := by decide +kernel
theorem dX12_timeStep_218 : decode cX12_timeStep 218 = .ok (.iadd, 1) := by decide +kernel
theorem dX12_timeStep_219 : decode cX12_timeStep 219 = .ok (.putfield 249, 3) := by decide +kernel
theorem dX12_timeStep_222 : decode cX12_timeStep 222 = .ok (.iload_n 1, 1) := by decide +kernel
theorem dX12_timeStep_223 : decode cX12_timeStep 223 = .ok (.bipush 21, 2) := by decide +kernel
theorem dX12_timeStep_225 : decode cX12_timeStep 225 = .ok (.if_icmp .ne 54, 3) := by decide +kernel
theorem dX12_timeStep_228 : decode cX12_timeStep 228 = .ok (.aload_n 0, 1) := by decide +kernel
theorem dX12_timeStep_229 : decode cX12_timeStep 229 = .ok (.dup, 1) := by decide +kernel
theorem dX12_timeStep_230 : decode cX12_timeStep 230 = .ok (.getfield 249, 3) := by decide +kernel
theorem dX12_timeStep_233 : decode cX12_timeStep 233 = .ok (.iconst 1, 1) := by decide +kernel
theorem dX12_timeStep_234 : decode cX12_timeStep 234 = .ok (.isub, 1) := by decide +kernel
theorem dX12_timeStep_235 : decode cX12_timeStep 235 = .ok (.putfield 249, 3) := by decide +kernel
theorem dX12_timeStep_238 : decode cX12_timeStep 238 = .ok (.aload_n 0, 1) := by decide +kernel
theorem dX12_timeStep_239 : decode cX12_timeStep 239 = .ok (.getfield 7, 3) := by decide +kernel
theorem dX12_timeStep_242 : decode cX12_timeStep 242 = .ok (.iload_n 3, 1) := by decide +kernel
theorem dX12_timeStep_243 : decode cX12_timeStep 243 = .ok (.iconst 4, 1) := by decide +kernel
theorem dX12_timeStep_244 : decode cX12_timeStep 244 = .ok (.iadd, 1) := by decide +kernel
theorem dX12_timeStep_245 : decode cX12_timeStep 245 = .ok (.aload_n 0, 1) := by decide +kernel
theorem dX12_timeStep_246 : decode cX12_timeStep 246 = .ok (.getfield 44, 3) := by decide +kernel
theorem dX12_timeStep_249 : decode cX12_timeStep 249 = .ok (.aload_n 0, 1) := by decide +kernel
theorem dX12_timeStep_250 : decode cX12_timeStep 250 = .ok (.getfield 249, 3) := by decide +kernel
theorem dX12_timeStep_253 : decode cX12_timeStep 253 = .ok (.iaload, 1) := by decide +kernel
theorem dX12_timeStep_254 : decode cX12_timeStep 254 = .ok (.iastore, 1) := by decide +kernel
theorem dX12_timeStep_255 : decode cX12_timeStep 255 = .ok (.aload_n 0, 1) := by decide +kernel
theorem dX12_timeStep_256 : decode cX12_timeStep 256 = .ok (.getfield 7, 3) := by decide +kernel
theorem dX12_timeStep_259 : decode cX12_timeStep 259 = .ok (.sipush 1912, 3) := by decide +kernel
theorem dX12_timeStep_262 : decode cX12_timeStep 262 = .ok (.bipush 6, 2) := by decide +kernel
theorem dX12_timeStep_264 : decode cX12_timeStep 264 = .ok (.aload_n 0, 1) := by decide +kernel
theorem dX12_timeStep_265 : decode cX12_timeStep 265 = .ok (.getfield 44, 3) := by decide +kernel
theorem dX12_timeStep_268 : decode cX12_timeStep 268 = .ok (.aload_n 0, 1) := by decide +kernel
theorem dX12_timeStep_269 : decode cX12_timeStep 269 = .ok (.getfield 249, 3) := by decide +kernel
theorem dX12_timeStep_272 : decode cX12_timeStep 272 = .ok (.iaload, 1) := by decide +kernel
theorem dX12_timeStep_273 : decode cX12_timeStep 273 = .ok (.imul, 1) := by decide +kernel
theorem dX12_timeStep_274 : decode cX12_timeStep 274 = .ok (.iadd, 1) := by decide +kernel
theorem dX12_timeStep_275 : decode cX12_timeStep 275 = .ok (.iconst 4, 1) := by decide +kernel
theorem dX12_timeStep_276 : decode cX12_timeStep 276 = .ok (.iadd, 1) := by decide +kernel
theorem dX12_timeStep_277 : decode cX12_timeStep 277 = .ok (.iload_n 2, 1) := by decide +kernel
theorem dX12_timeStep_278 : decode cX12_timeStep 278 = .ok (.iastore, 1) := by decide +kernel
theorem dX12_timeStep_279 : decode cX12_timeStep 279 = .ok (.aload_n 0, 1) := by decide +kernel
theorem dX12_timeStep_280 : decode cX12_timeStep 280 = .ok (.bipush 59, 2) := by decide +kernel
theorem dX12_timeStep_282 : decode cX12_timeStep 282 = .ok (.invokevirtual 231, 3) := by decide +kernel
theorem dX12_timeStep_285 : decode cX12_timeStep 285 = .ok (.ireturn, 1) := by decide +kernel
def qX12_timeStep_b69  (post : Int32 → St → Prop)  (u0 : St) : Prop := qX12_fails (2 : Int32) u0 (fun r_32 u_31 => (bz r_32 ∧ post r_32 u_31))
set_option maxRecDepth 100000 in
set_option maxHeartbeats 4000000 in
theorem kX12_timeStep_b69 {C : Cx} {o0 : Nat} {a0 : Nat → Nat} (hC : Fx C cX12_timeStep 6 RX12) (hR0 : xR C = rm 12) {post : Int32 → St → Prop} (hR : RZ C cX12_timeStep 6 (fun u : St => (wX12 o0 a0 (xy C) u [])) (fun r u => post r u))  {u0 : St} (h : qX12_timeStep_b69 post u0) : G C 0 0 6 (wX12 o0 a0 (xy C) u0 []) 69 [(0, .ref o0)] [] := by
  refine g_aload_n (pc := 69) hC 0 dX12_timeStep_69 rfl rfl ?_
  refine g_iconst (pc := 70) (v := 2) hC dX12_timeStep_70 (by decide) ?_
  refine g_callV_i (pc := 71) (wd := fun (u : St) Y => (wX12 o0 a0 (xy C) u Y)) (F := fun Z => Z) (X := []) (As := [.int (2 : Int32)]) (rest := []) (u := u0) hC (fun _ _ => rfl) (fun _ => rfl) (ctX12_fails h) wvX12_fails ml_X12_170 (ci := 10) (q0 := 0) rfl rfl rfl rfl (rmok hR0 rfl) ⟨Nat.zero_le _, Nat.zero_le _⟩ rfl (Nat.le_of_ble_eq_true rfl) dX12_timeStep_71 (fun r_32 u_31 h => ?_)
  exact hR _ _ _ u_31 dX12_timeStep_74 h.1 h.2
def qX12_timeStep_b279  (post : Int32 → St → Prop)  (u0 : St) : Prop := qX12_wantSign (59 : Int32) u0 (fun r_35 u_34 => (bz r_35 ∧ post r_35 u_34))
set_option maxRecDepth 100000 in
set_option maxHeartbeats 4000000 in
theorem kX12_timeStep_b279 {C : Cx} {o0 : Nat} {a0 : Nat → Nat} (hC : Fx C cX12_timeStep 6 RX12) (hR0 : xR C = rm 12) {post : Int32 → St → Prop} (hR : RZ C cX12_timeStep 6 (fun u : St => (wX12 o0 a0 (xy C) u [])) (fun r u => post r u))  {u0 : St} (h : qX12_timeStep_b279 post u0) : G C 0 0 6 (wX12 o0 a0 (xy C) u0 []) 279 [(0, .ref o0)] [] := by
  refine g_aload_n (pc := 279) hC 0 dX12_timeStep_279 rfl rfl ?_
  refine g_bipush (pc := 280) (v := 59) hC dX12_timeStep_280 (by decide) ?_
  refine g_callV_i (pc := 282) (wd := fun (u : St) Y => (wX12 o0 a0 (xy C) u Y)) (F := fun Z => Z) (X := []) (As := [.int (59 : Int32)]) (rest := []) (u := u0) hC (fun _ _ => rfl) (fun _ => rfl) (ctX12_wantSign h) wvX12_wantSign ml_X12_231 (ci := 10) (q0 := 0) rfl rfl rfl rfl (rmok hR0 rfl) ⟨Nat.zero_le _, Nat.zero_le _⟩ rfl (Nat.le_of_ble_eq_true rfl) dX12_timeStep_282 (fun r_35 u_34 h => ?_)
  exact hR _ _ _ u_34 dX12_timeStep_285 h.1 h.2
def qX12_timeStep_b222  (post : Int32 → St → Prop)  (x1 : Int32) (x2 : Int32) (x3 : Int32) (u0 : St) : Prop := ((¬ x1 = (21 : Int32) → qX12_timeStep_b279 post u0) ∧ (x1 = (21 : Int32) → ∀ u_38 : St, u_38 = (si u0 22 ((gi u0 22) - (1 : Int32))) → (vp_in (gi u_38 22) 3 ∧ (vp_in (x3 + (4 : Int32)) 3072 ∧ ∀ u_39 : St, u_39 = (sw u_38 0 (upd (ga u_38 0) ((x3 + (4 : Int32))).toNatClampNeg (ga u_38 21 ((gi u_38 22)).toNatClampNeg))) → (vp_in (gi u_39 22) 3 ∧ (vp_in (((1912 : Int32) + ((6 : Int32) * (ga u_39 21 ((gi u_39 22)).toNatClampNeg))) + (4 : Int32)) 3072 ∧ ∀ u_40 : St, u_40 = (sw u_39 0 (upd (ga u_39 0) ((((1912 : Int32) + ((6 : Int32) * (ga u_39 21 ((gi u_39 22)).toNatClampNeg))) + (4 : Int32))).toNatClampNeg x2)) → qX12_timeStep_b279 post u_40))))))
set_option maxRecDepth 100000 in
set_option maxHeartbeats 4000000 in
theorem kX12_timeStep_b222 {C : Cx} {o0 : Nat} {a0 : Nat → Nat} (hC : Fx C cX12_timeStep 6 RX12) (hR0 : xR C = rm 12) {post : Int32 → St → Prop} (hR : RZ C cX12_timeStep 6 (fun u : St => (wX12 o0 a0 (xy C) u [])) (fun r u => post r u))  {x1 : Int32} {x2 : Int32} {x3 : Int32} {u0 : St} (h : qX12_timeStep_b222 post x1 x2 x3 u0) : G C 0 0 6 (wX12 o0 a0 (xy C) u0 []) 222 [(0, .ref o0), (1, .int x1), (2, .int x2), (3, .int x3)] [] := by
  refine g_iload_n (pc := 222) hC 1 dX12_timeStep_222 rfl rfl ?_
  refine g_bipush (pc := 223) (v := 21) hC dX12_timeStep_223 (by decide) ?_
  refine g_icmp_ne (pc := 225) (tgt := 279) hC dX12_timeStep_225 (by decide) (fun c_37 => ?_) (fun c_37 => ?_)
  · have h := h.1 c_37
    refine g_sub (lv' := [(0, .ref o0)]) [0] rfl ?_
    exact kX12_timeStep_b279 hC hR0 hR  h
  · have h := h.2 c_37
    refine g_aload_n (pc := 228) hC 0 dX12_timeStep_228 rfl rfl ?_
    refine g_dup (pc := 229) hC dX12_timeStep_229 rfl ?_
    refine getX12_22 (pc := 230) hC (F := fun Z => Z) (X := []) (fun _ => rfl) fl_X12_249 dX12_timeStep_230 ?_
    refine g_iconst (pc := 233) (v := 1) hC dX12_timeStep_233 (by decide) ?_
    refine g_isub (pc := 234) hC dX12_timeStep_234 ?_
    refine putX12_22 (pc := 235) hC (F := fun Z => Z) (X := []) (fun _ => rfl) fl_X12_249 dX12_timeStep_235 ?_
    refine g_st (w := fun z => (wX12 o0 a0 (xy C) z [])) (u := (si u0 22 ((gi u0 22) - (1 : Int32)))) (fun u_38 eu_38 => ?_)
    have h := h u_38 eu_38
    refine g_aload_n (pc := 238) hC 0 dX12_timeStep_238 rfl rfl ?_
    refine getX12_0 (pc := 239) hC (F := fun Z => Z) (X := []) (fun _ => rfl) fl_X12_7 dX12_timeStep_239 ?_
    refine g_iload_n (pc := 242) hC 3 dX12_timeStep_242 rfl rfl ?_
    refine g_iconst (pc := 243) (v := 4) hC dX12_timeStep_243 (by decide) ?_
    refine g_iadd (pc := 244) hC dX12_timeStep_244 ?_
    refine g_aload_n (pc := 245) hC 0 dX12_timeStep_245 rfl rfl ?_
    refine getX12_21 (pc := 246) hC (F := fun Z => Z) (X := []) (fun _ => rfl) fl_X12_44 dX12_timeStep_246 ?_
    refine g_aload_n (pc := 249) hC 0 dX12_timeStep_249 rfl rfl ?_
    refine getX12_22 (pc := 250) hC (F := fun Z => Z) (X := []) (fun _ => rfl) fl_X12_249 dX12_timeStep_250 ?_
    refine aldX12_21 (pc := 253) hC (F := fun Z => Z) (X := []) (fun _ => rfl) h.1 dX12_timeStep_253 ?_
    have h := h.2
    refine astX12_0 (pc := 254) hC (F := fun Z => Z) (X := []) (fun _ => rfl) h.1 dX12_timeStep_254 ?_
    have h := h.2
    refine g_st (w := fun z => (wX12 o0 a0 (xy C) z [])) (u := (sw u_38 0 (upd (ga u_38 0) ((x3 + (4 : Int32))).toNatClampNeg (ga u_38 21 ((gi u_38 22)).toNatClampNeg)))) (fun u_39 eu_39 => ?_)
    have h := h u_39 eu_39
    refine g_aload_n (pc := 255) hC 0 dX12_timeStep_255 rfl rfl ?_
    refine getX12_0 (pc := 256) hC (F := fun Z => Z) (X := []) (fun _ => rfl) fl_X12_7 dX12_timeStep_256 ?_
    refine g_sipush (pc := 259) (v := 1912) hC dX12_timeStep_259 (by decide) ?_
    refine g_bipush (pc := 262) (v := 6) hC dX12_timeStep_262 (by decide) ?_
    refine g_aload_n (pc := 264) hC 0 dX12_timeStep_264 rfl rfl ?_
    refine getX12_21 (pc := 265) hC (F := fun Z => Z) (X := []) (fun _ => rfl) fl_X12_44 dX12_timeStep_265 ?_
    refine g_aload_n (pc := 268) hC 0 dX12_timeStep_268 rfl rfl ?_
    refine getX12_22 (pc := 269) hC (F := fun Z => Z) (X := []) (fun _ => rfl) fl_X12_249 dX12_timeStep_269 ?_
    refine aldX12_21 (pc := 272) hC (F := fun Z => Z) (X := []) (fun _ => rfl) h.1 dX12_timeStep_272 ?_
    have h := h.2
    refine g_imul (pc := 273) hC dX12_timeStep_273 ?_
    refine g_iadd (pc := 274) hC dX12_timeStep_274 ?_
    refine g_iconst (pc := 275) (v := 4) hC dX12_timeStep_275 (by decide) ?_
    refine g_iadd (pc := 276) hC dX12_timeStep_276 ?_
    refine g_iload_n (pc := 277) hC 2 dX12_timeStep_277 rfl rfl ?_
    refine astX12_0 (pc := 278) hC (F := fun Z => Z) (X := []) (fun _ => rfl) h.1 dX12_timeStep_278 ?_
    have h := h.2
    refine g_st (w := fun z => (wX12 o0 a0 (xy C) z [])) (u := (sw u_39 0 (upd (ga u_39 0) ((((1912 : Int32) + ((6 : Int32) * (ga u_39 21 ((gi u_39 22)).toNatClampNeg))) + (4 : Int32))).toNatClampNeg x2))) (fun u_40 eu_40 => ?_)
    have h := h u_40 eu_40
    refine g_sub (lv' := [(0, .ref o0)]) [0] rfl ?_
    exact kX12_timeStep_b279 hC hR0 hR  h
def qX12_timeStep_b170  (post : Int32 → St → Prop)  (x1 : Int32) (x2 : Int32) (x3 : Int32) (x4 : Int32) (u0 : St) : Prop := ∀ u_41 : St, u_41 = (sw u0 0 (upd (ga u0 0) ((1831 : Int32)).toNatClampNeg ((ga u0 0 ((1831 : Int32)).toNatClampNeg) + (1 : Int32)))) → qX12_ahead u_41 (fun u_42 => qX12_timeOrder x1 x3 u_42 (fun r_45 u_44 => ((¬ r_45 = 0 → ((x4 = 0 → qX12_timeStep_b222 post x1 x2 x3 u_44) ∧ (¬ x4 = 0 → (vp_in (gi u_44 22) 3 ∧ ∀ u_49 : St, u_49 = (sw u_44 21 (upd (ga u_44 21) ((gi u_44 22)).toNatClampNeg x2)) → ∀ u_50 : St, u_50 = (si u_49 22 ((gi u_49 22) + (1 : Int32))) → qX12_timeStep_b222 post x1 x2 x3 u_50)))) ∧ (r_45 = 0 → post (0 : Int32) u_44))))
set_option maxRecDepth 100000 in
set_option maxHeartbeats 4000000 in
theorem kX12_timeStep_b170 {C : Cx} {o0 : Nat} {a0 : Nat → Nat} (hC : Fx C cX12_timeStep 6 RX12) (hR0 : xR C = rm 12) {post : Int32 → St → Prop} (hR : RZ C cX12_timeStep 6 (fun u : St => (wX12 o0 a0 (xy C) u [])) (fun r u => post r u))  {x1 : Int32} {x2 : Int32} {x3 : Int32} {x4 : Int32} {u0 : St} (h : qX12_timeStep_b170 post x1 x2 x3 x4 u0) : G C 0 0 6 (wX12 o0 a0 (xy C) u0 []) 170 [(0, .ref o0), (1, .int x1), (2, .int x2), (3, .int x3), (4, .int x4)] [] := by
  refine g_aload_n (pc := 170) hC 0 dX12_timeStep_170 rfl rfl ?_
  refine getX12_0 (pc := 171) hC (F := fun Z => Z) (X := []) (fun _ => rfl) fl_X12_7 dX12_timeStep_171 ?_
  refine g_sipush (pc := 174) (v := 1831) hC dX12_timeStep_174 (by decide) ?_
  refine g_dup2 (pc := 177) hC dX12_timeStep_177 rfl rfl ?_
  refine aldX12_0 (pc := 178) hC (F := fun Z => Z) (X := []) (fun _ => rfl) (by unfold vp_in; decide) dX12_timeStep_178 ?_
  refine g_iconst (pc := 179) (v := 1) hC dX12_timeStep_179 (by decide) ?_
  refine g_iadd (pc := 180) hC dX12_timeStep_180 ?_
  refine astX12_0 (pc := 181) hC (F := fun Z => Z) (X := []) (fun _ => rfl) (by unfold vp_in; decide) dX12_timeStep_181 ?_
  refine g_st (w := fun z => (wX12 o0 a0 (xy C) z [])) (u := (sw u0 0 (upd (ga u0 0) ((1831 : Int32)).toNatClampNeg ((ga u0 0 ((1831 : Int32)).toNatClampNeg) + (1 : Int32))))) (fun u_41 eu_41 => ?_)
  have h := h u_41 eu_41
  refine g_aload_n (pc := 182) hC 0 dX12_timeStep_182 rfl rfl ?_
  refine g_callV_v (pc := 183) (wd := fun (u : St) Y => (wX12 o0 a0 (xy C) u Y)) (F := fun Z => Z) (X := []) (As := []) (rest := []) (u := u_41) hC (fun _ _ => rfl) (fun _ => rfl) (ctX12_ahead h) wvX12_ahead ml_X12_164 (ci := 10) (q0 := 0) rfl rfl rfl rfl (rmok hR0 rfl) ⟨Nat.zero_le _, Nat.zero_le _⟩ rfl (Nat.le_of_ble_eq_true rfl) dX12_timeStep_183 (fun u_42 h => ?_)
  refine g_aload_n (pc := 186) hC 0 dX12_timeStep_186 rfl rfl ?_
  refine g_iload_n (pc := 187) hC 1 dX12_timeStep_187 rfl rfl ?_
  refine g_iload_n (pc := 188) hC 3 dX12_timeStep_188 rfl rfl ?_
  refine g_callV_i (pc := 189) (wd := fun (u : St) Y => (wX12 o0 a0 (xy C) u Y)) (F := fun Z => Z) (X := []) (As := [.int x1, .int x3]) (rest := []) (u := u_42) hC (fun _ _ => rfl) (fun _ => rfl) (ctX12_timeOrder h) wvX12_timeOrder ml_X12_255 (ci := 10) (q0 := 0) rfl rfl rfl rfl (rmok hR0 rfl) ⟨Nat.zero_le _, Nat.zero_le _⟩ rfl (Nat.le_of_ble_eq_true rfl) dX12_timeStep_189 (fun r_45 u_44 h => ?_)
  refine g_if_ne (pc := 192) (tgt := 197) hC dX12_timeStep_192 (by decide) (fun c_47 => ?_) (fun c_47 => ?_)
  · have h := h.1 c_47
    refine g_iload (pc := 197) hC 4 dX12_timeStep_197 rfl ?_
    refine g_if_eq (pc := 199) (tgt := 222) hC dX12_timeStep_199 (by decide) (fun c_48 => ?_) (fun c_48 => ?_)
    · have h := h.1 c_48
      refine g_sub (lv' := [(0, .ref o0), (1, .int x1), (2, .int x2), (3, .int x3)]) [0, 1, 2, 3] rfl ?_
      exact kX12_timeStep_b222 hC hR0 hR  h
    · have h := h.2 c_48
      refine g_aload_n (pc := 202) hC 0 dX12_timeStep_202 rfl rfl ?_
      refine getX12_21 (pc := 203) hC (F := fun Z => Z) (X := []) (fun _ => rfl) fl_X12_44 dX12_timeStep_203 ?_
      refine g_aload_n (pc := 206) hC 0 dX12_timeStep_206 rfl rfl ?_
      refine getX12_22 (pc := 207) hC (F := fun Z => Z) (X := []) (fun _ => rfl) fl_X12_249 dX12_timeStep_207 ?_
      refine g_iload_n (pc := 210) hC 2 dX12_timeStep_210 rfl rfl ?_
      refine astX12_21 (pc := 211) hC (F := fun Z => Z) (X := []) (fun _ => rfl) h.1 dX12_timeStep_211 ?_
      have h := h.2
      refine g_st (w := fun z => (wX12 o0 a0 (xy C) z [])) (u := (sw u_44 21 (upd (ga u_44 21) ((gi u_44 22)).toNatClampNeg x2))) (fun u_49 eu_49 => ?_)
      have h := h u_49 eu_49
      refine g_aload_n (pc := 212) hC 0 dX12_timeStep_212 rfl rfl ?_
      refine g_dup (pc := 213) hC dX12_timeStep_213 rfl ?_
      refine getX12_22 (pc := 214) hC (F := fun Z => Z) (X := []) (fun _ => rfl) fl_X12_249 dX12_timeStep_214 ?_
      refine g_iconst (pc := 217) (v := 1) hC dX12_timeStep_217 (by decide) ?_
      refine g_iadd (pc := 218) hC dX12_timeStep_218 ?_
      refine putX12_22 (pc := 219) hC (F := fun Z => Z) (X := []) (fun _ => rfl) fl_X12_249 dX12_timeStep_219 ?_
      refine g_st (w := fun z => (wX12 o0 a0 (xy C) z [])) (u := (si u_49 22 ((gi u_49 22) + (1 : Int32)))) (fun u_50 eu_50 => ?_)
      have h := h u_50 eu_50
      refine g_sub (lv' := [(0, .ref o0), (1, .int x1), (2, .int x2), (3, .int x3)]) [0, 1, 2, 3] rfl ?_
      exact kX12_timeStep_b222 hC hR0 hR  h
  · have h := h.2 c_47
    refine g_iconst (pc := 195) (v := 0) hC dX12_timeStep_195 (by decide) ?_
    exact hR _ _ _ u_44 dX12_timeStep_196 (Or.inl rfl) h
def qX12_timeStep_l147  (post : Int32 → St → Prop) (K147 : Int32 → Int32 → Int32 → Int32 → Int32 → St → Prop) (x1 : Int32) (x2 : Int32) (x3 : Int32) (x4 : Int32) (x5 : Int32) (u0 : St) : Prop := (((6 : Int32) ≤ x5 → qX12_timeStep_b170 post x1 x2 x3 x4 u0) ∧ (¬ (6 : Int32) ≤ x5 → (vp_in (x3 + x5) 3072 ∧ ∀ u_52 : St, u_52 = (sw u0 0 (upd (ga u0 0) ((x3 + x5)).toNatClampNeg (0 : Int32))) → ∀ x5_53 : Int32, x5_53 = x5 + (1 : Int32) → K147 x1 x2 x3 x4 x5_53 u_52)))
set_option maxRecDepth 100000 in
set_option maxHeartbeats 4000000 in
theorem kX12_timeStep_l147 {C : Cx} {o0 : Nat} {a0 : Nat → Nat} (hC : Fx C cX12_timeStep 6 RX12) (hR0 : xR C = rm 12) {post : Int32 → St → Prop} (hR : RZ C cX12_timeStep 6 (fun u : St => (wX12 o0 a0 (xy C) u [])) (fun r u => post r u))  {K147 : Int32 → Int32 → Int32 → Int32 → Int32 → St → Prop} (hK147 : ∀ (x1 : Int32) (x2 : Int32) (x3 : Int32) (x4 : Int32) (x5 : Int32) (u0 : St), K147 x1 x2 x3 x4 x5 u0 → G C 0 0 6 (wX12 o0 a0 (xy C) u0 []) 147 [(0, .ref o0), (1, .int x1), (2, .int x2), (3, .int x3), (4, .int x4), (5, .int x5)] []) {x1 : Int32} {x2 : Int32} {x3 : Int32} {x4 : Int32} {x5 : Int32} {u0 : St} (h : qX12_timeStep_l147 post K147 x1 x2 x3 x4 x5 u0) : G C 0 0 6 (wX12 o0 a0 (xy C) u0 []) 147 [(0, .ref o0), (1, .int x1), (2, .int x2), (3, .int x3), (4, .int x4), (5, .int x5)] [] := by
  refine g_iload (pc := 147) hC 5 dX12_timeStep_147 rfl ?_
  refine g_bipush (pc := 149) (v := 6) hC dX12_timeStep_149 (by decide) ?_
  refine g_icmp_ge (pc := 151) (tgt := 170) hC dX12_timeStep_151 (by decide) (fun c_51 => ?_) (fun c_51 => ?_)
  · have h := h.1 c_51
    refine g_sub (lv' := [(0, .ref o0), (1, .int x1), (2, .int x2), (3, .int x3), (4, .int x4)]) [0, 1, 2, 3, 4] rfl ?_
    exact kX12_timeStep_b170 hC hR0 hR  h
  · have h := h.2 c_51
    refine g_aload_n (pc := 154) hC 0 dX12_timeStep_154 rfl rfl ?_
    refine getX12_0 (pc := 155) hC (F := fun Z => Z) (X := []) (fun _ => rfl) fl_X12_7 dX12_timeStep_155 ?_
    refine g_iload_n (pc := 158) hC 3 dX12_timeStep_158 rfl rfl ?_
    refine g_iload (pc := 159) hC 5 dX12_timeStep_159 rfl ?_
    refine g_iadd (pc := 161) hC dX12_timeStep_161 ?_
    refine g_iconst (pc := 162) (v := 0) hC dX12_timeStep_162 (by decide) ?_
    refine astX12_0 (pc := 163) hC (F := fun Z => Z) (X := []) (fun _ => rfl) h.1 dX12_timeStep_163 ?_
    have h := h.2
    refine g_st (w := fun z => (wX12 o0 a0 (xy C) z [])) (u := (sw u0 0 (upd (ga u0 0) ((x3 + x5)).toNatClampNeg (0 : Int32)))) (fun u_52 eu_52 => ?_)
    have h := h u_52 eu_52
    obtain ⟨x5_53, ex5_53⟩ : ∃ z : Int32, z = x5 + (1 : Int32) := ⟨_, rfl⟩
    have h := h x5_53 ex5_53
    refine g_iinc (pc := 164) (v := x5_53) (lv' := [(5, .int x5_53), (0, .ref o0), (1, .int x1), (2, .int x2), (3, .int x3), (4, .int x4)]) hC 5 dX12_timeStep_164 rfl (by rw [ex5_53]; rfl) (Nat.le_of_ble_eq_true rfl) rfl ?_
    refine g_goto (pc := 167) (tgt := 147) hC dX12_timeStep_167 (by decide) ?_
    refine g_sub (lv' := [(0, .ref o0), (1, .int x1), (2, .int x2), (3, .int x3), (4, .int x4), (5, .int x5_53)]) [1, 2, 3, 4, 5, 0] rfl ?_
    exact hK147 _ _ _ _ _ _ h
def qX12_timeStep_L147  (post : Int32 → St → Prop)  : Nat → Int32 → Int32 → Int32 → Int32 → Int32 → St → Prop
  | 0 => fun _ _ _ _ _ _ => False
  | n + 1 => qX12_timeStep_l147 post (qX12_timeStep_L147 post n)
theorem kX12_timeStep_L147 {C : Cx} {o0 : Nat} {a0 : Nat → Nat} (hC : Fx C cX12_timeStep 6 RX12) (hR0 : xR C = rm 12) {post : Int32 → St → Prop} (hR : RZ C cX12_timeStep 6 (fun u : St => (wX12 o0 a0 (xy C) u [])) (fun r u => post r u))  : ∀ (n : Nat) (x1 : Int32) (x2 : Int32) (x3 : Int32) (x4 : Int32) (x5 : Int32) (u0 : St), qX12_timeStep_L147 post n x1 x2 x3 x4 x5 u0 → G C 0 0 6 (wX12 o0 a0 (xy C) u0 []) 147 [(0, .ref o0), (1, .int x1), (2, .int x2), (3, .int x3), (4, .int x4), (5, .int x5)] [] := by
  intro n
  induction n with
  | zero => intro x1 x2 x3 x4 x5 u0 h; exact h.elim
  | succ n ih => intro x1 x2 x3 x4 x5 u0 h; exact kX12_timeStep_l147 hC hR0 hR  ih h
def qX12_timeStep_b133  (post : Int32 → St → Prop)  (x1 : Int32) (x2 : Int32) (x3 : Int32) (x4 : Int32) (s0 : Int32) (s1 : Int32) (u0 : St) : Prop := ∀ u_54 : St, u_54 = (si u0 23 (s1 + s0)) → (vp_in x3 3072 ∧ ∀ u_55 : St, u_55 = (sw u_54 0 (upd (ga u_54 0) (x3).toNatClampNeg x1)) → ∃ n_56 : Nat, qX12_timeStep_L147 post n_56 x1 x2 x3 x4 (1 : Int32) u_55)
set_option maxRecDepth 100000 in
set_option maxHeartbeats 4000000 in
theorem kX12_timeStep_b133 {C : Cx} {o0 : Nat} {a0 : Nat → Nat} (hC : Fx C cX12_timeStep 6 RX12) (hR0 : xR C = rm 12) {post : Int32 → St → Prop} (hR : RZ C cX12_timeStep 6 (fun u : St => (wX12 o0 a0 (xy C) u [])) (fun r u => post r u))  {x1 : Int32} {x2 : Int32} {x3 : Int32} {x4 : Int32} {s0 : Int32} {s1 : Int32} {u0 : St} (h : qX12_timeStep_b133 post x1 x2 x3 x4 s0 s1 u0) : G C 0 0 6 (wX12 o0 a0 (xy C) u0 []) 133 [(0, .ref o0), (1, .int x1), (2, .int x2), (3, .int x3), (4, .int x4)] [.int s0, .int s1, .ref o0] := by
  refine g_iadd (pc := 133) hC dX12_timeStep_133 ?_
  refine putX12_23 (pc := 134) hC (F := fun Z => Z) (X := []) (fun _ => rfl) fl_X12_252 dX12_timeStep_134 ?_
  refine g_st (w := fun z => (wX12 o0 a0 (xy C) z [])) (u := (si u0 23 (s1 + s0))) (fun u_54 eu_54 => ?_)
  have h := h u_54 eu_54
  refine g_aload_n (pc := 137) hC 0 dX12_timeStep_137 rfl rfl ?_
  refine getX12_0 (pc := 138) hC (F := fun Z => Z) (X := []) (fun _ => rfl) fl_X12_7 dX12_timeStep_138 ?_
  refine g_iload_n (pc := 141) hC 3 dX12_timeStep_141 rfl rfl ?_
  refine g_iload_n (pc := 142) hC 1 dX12_timeStep_142 rfl rfl ?_
  refine astX12_0 (pc := 143) hC (F := fun Z => Z) (X := []) (fun _ => rfl) h.1 dX12_timeStep_143 ?_
  have h := h.2
  refine g_st (w := fun z => (wX12 o0 a0 (xy C) z [])) (u := (sw u_54 0 (upd (ga u_54 0) (x3).toNatClampNeg x1))) (fun u_55 eu_55 => ?_)
  have h := h u_55 eu_55
  refine g_iconst (pc := 144) (v := 1) hC dX12_timeStep_144 (by decide) ?_
  refine g_istore (pc := 145) (lv' := [(5, .int (1 : Int32)), (0, .ref o0), (1, .int x1), (2, .int x2), (3, .int x3), (4, .int x4)]) hC dX12_timeStep_145 (Nat.le_of_ble_eq_true rfl) rfl ?_
  refine g_sub (lv' := [(0, .ref o0), (1, .int x1), (2, .int x2), (3, .int x3), (4, .int x4), (5, .int (1 : Int32))]) [1, 2, 3, 4, 5, 0] rfl ?_
  obtain ⟨n_56, h⟩ := h
  exact kX12_timeStep_L147 hC hR0 hR  n_56 _ _ _ _ _ _ h
def qX12_timeStep_b117  (post : Int32 → St → Prop)  (x1 : Int32) (x2 : Int32) (x3 : Int32) (x4 : Int32) (u0 : St) : Prop := ((¬ x1 = (21 : Int32) → qX12_timeStep_b133 post x1 x2 x3 x4 (1 : Int32) (gi u0 23) u0) ∧ (x1 = (21 : Int32) → qX12_timeStep_b133 post x1 x2 x3 x4 (0 : Int32) (gi u0 23) u0))
set_option maxRecDepth 100000 in
set_option maxHeartbeats 4000000 in
theorem kX12_timeStep_b117 {C : Cx} {o0 : Nat} {a0 : Nat → Nat} (hC : Fx C cX12_timeStep 6 RX12) (hR0 : xR C = rm 12) {post : Int32 → St → Prop} (hR : RZ C cX12_timeStep 6 (fun u : St => (wX12 o0 a0 (xy C) u [])) (fun r u => post r u))  {x1 : Int32} {x2 : Int32} {x3 : Int32} {x4 : Int32} {u0 : St} (h : qX12_timeStep_b117 post x1 x2 x3 x4 u0) : G C 0 0 6 (wX12 o0 a0 (xy C) u0 []) 117 [(0, .ref o0), (1, .int x1), (2, .int x2), (3, .int x3), (4, .int x4)] [] := by
  refine g_aload_n (pc := 117) hC 0 dX12_timeStep_117 rfl rfl ?_
  refine g_dup (pc := 118) hC dX12_timeStep_118 rfl ?_
  refine getX12_23 (pc := 119) hC (F := fun Z => Z) (X := []) (fun _ => rfl) fl_X12_252 dX12_timeStep_119 ?_
  refine g_iload_n (pc := 122) hC 1 dX12_timeStep_122 rfl rfl ?_
  refine g_bipush (pc := 123) (v := 21) hC dX12_timeStep_123 (by decide) ?_
  refine g_icmp_ne (pc := 125) (tgt := 132) hC dX12_timeStep_125 (by decide) (fun c_57 => ?_) (fun c_57 => ?_)
  · have h := h.1 c_57
    refine g_iconst (pc := 132) (v := 1) hC dX12_timeStep_132 (by decide) ?_
    exact kX12_timeStep_b133 hC hR0 hR  h
  · have h := h.2 c_57
    refine g_iconst (pc := 128) (v := 0) hC dX12_timeStep_128 (by decide) ?_
    refine g_goto (pc := 129) (tgt := 133) hC dX12_timeStep_129 (by decide) ?_
    exact kX12_timeStep_b133 hC hR0 hR  h
def qX12_timeStep_b97  (post : Int32 → St → Prop)  (x1 : Int32) (x2 : Int32) (x3 : Int32) (x4 : Int32) (u0 : St) : Prop := ((x4 = 0 → qX12_timeStep_b117 post x1 x2 x3 x4 u0) ∧ (¬ x4 = 0 → ((¬ (gi u0 22) = (3 : Int32) → qX12_timeStep_b117 post x1 x2 x3 x4 u0) ∧ ((gi u0 22) = (3 : Int32) → qX12_fails (7 : Int32) u0 (fun r_61 u_60 => (bz r_61 ∧ post r_61 u_60))))))
set_option maxRecDepth 100000 in
set_option maxHeartbeats 4000000 in
theorem kX12_timeStep_b97 {C : Cx} {o0 : Nat} {a0 : Nat → Nat} (hC : Fx C cX12_timeStep 6 RX12) (hR0 : xR C = rm 12) {post : Int32 → St → Prop} (hR : RZ C cX12_timeStep 6 (fun u : St => (wX12 o0 a0 (xy C) u [])) (fun r u => post r u))  {x1 : Int32} {x2 : Int32} {x3 : Int32} {x4 : Int32} {u0 : St} (h : qX12_timeStep_b97 post x1 x2 x3 x4 u0) : G C 0 0 6 (wX12 o0 a0 (xy C) u0 []) 97 [(0, .ref o0), (1, .int x1), (2, .int x2), (3, .int x3), (4, .int x4)] [] := by
  refine g_iload (pc := 97) hC 4 dX12_timeStep_97 rfl ?_
  refine g_if_eq (pc := 99) (tgt := 117) hC dX12_timeStep_99 (by decide) (fun c_58 => ?_) (fun c_58 => ?_)
  · have h := h.1 c_58
    exact kX12_timeStep_b117 hC hR0 hR  h
  · have h := h.2 c_58
    refine g_aload_n (pc := 102) hC 0 dX12_timeStep_102 rfl rfl ?_
    refine getX12_22 (pc := 103) hC (F := fun Z => Z) (X := []) (fun _ => rfl) fl_X12_249 dX12_timeStep_103 ?_
    refine g_iconst (pc := 106) (v := 3) hC dX12_timeStep_106 (by decide) ?_
    refine g_icmp_ne (pc := 107) (tgt := 117) hC dX12_timeStep_107 (by decide) (fun c_59 => ?_) (fun c_59 => ?_)
    · have h := h.1 c_59
      exact kX12_timeStep_b117 hC hR0 hR  h
    · have h := h.2 c_59
      refine g_aload_n (pc := 110) hC 0 dX12_timeStep_110 rfl rfl ?_
      refine g_bipush (pc := 111) (v := 7) hC dX12_timeStep_111 (by decide) ?_
      refine g_callV_i (pc := 113) (wd := fun (u : St) Y => (wX12 o0 a0 (xy C) u Y)) (F := fun Z => Z) (X := []) (As := [.int (7 : Int32)]) (rest := []) (u := u0) hC (fun _ _ => rfl) (fun _ => rfl) (ctX12_fails h) wvX12_fails ml_X12_170 (ci := 10) (q0 := 0) rfl rfl rfl rfl (rmok hR0 rfl) ⟨Nat.zero_le _, Nat.zero_le _⟩ rfl (Nat.le_of_ble_eq_true rfl) dX12_timeStep_113 (fun r_61 u_60 h => ?_)
      exact hR _ _ _ u_60 dX12_timeStep_116 h.1 h.2
def qX12_timeStep_b75  (post : Int32 → St → Prop)  (x1 : Int32) (x2 : Int32) (x3 : Int32) (x4 : Int32) (u0 : St) : Prop := ((x1 = (21 : Int32) → qX12_timeStep_b97 post x1 x2 x3 x4 u0) ∧ (¬ x1 = (21 : Int32) → ((¬ (gi u0 23) = (30 : Int32) → qX12_timeStep_b97 post x1 x2 x3 x4 u0) ∧ ((gi u0 23) = (30 : Int32) → qX12_fails (6 : Int32) u0 (fun r_66 u_65 => (bz r_66 ∧ post r_66 u_65))))))
set_option maxRecDepth 100000 in
set_option maxHeartbeats 4000000 in
theorem kX12_timeStep_b75 {C : Cx} {o0 : Nat} {a0 : Nat → Nat} (hC : Fx C cX12_timeStep 6 RX12) (hR0 : xR C = rm 12) {post : Int32 → St → Prop} (hR : RZ C cX12_timeStep 6 (fun u : St => (wX12 o0 a0 (xy C) u [])) (fun r u => post r u))  {x1 : Int32} {x2 : Int32} {x3 : Int32} {x4 : Int32} {u0 : St} (h : qX12_timeStep_b75 post x1 x2 x3 x4 u0) : G C 0 0 6 (wX12 o0 a0 (xy C) u0 []) 75 [(0, .ref o0), (1, .int x1), (2, .int x2), (3, .int x3), (4, .int x4)] [] := by
  refine g_iload_n (pc := 75) hC 1 dX12_timeStep_75 rfl rfl ?_
  refine g_bipush (pc := 76) (v := 21) hC dX12_timeStep_76 (by decide) ?_
  refine g_icmp_eq (pc := 78) (tgt := 97) hC dX12_timeStep_78 (by decide) (fun c_63 => ?_) (fun c_63 => ?_)
  · have h := h.1 c_63
    exact kX12_timeStep_b97 hC hR0 hR  h
  · have h := h.2 c_63
    refine g_aload_n (pc := 81) hC 0 dX12_timeStep_81 rfl rfl ?_
    refine getX12_23 (pc := 82) hC (F := fun Z => Z) (X := []) (fun _ => rfl) fl_X12_252 dX12_timeStep_82 ?_
    refine g_bipush (pc := 85) (v := 30) hC dX12_timeStep_85 (by decide) ?_
    refine g_icmp_ne (pc := 87) (tgt := 97) hC dX12_timeStep_87 (by decide) (fun c_64 => ?_) (fun c_64 => ?_)
    · have h := h.1 c_64
      exact kX12_timeStep_b97 hC hR0 hR  h
    · have h := h.2 c_64
      refine g_aload_n (pc := 90) hC 0 dX12_timeStep_90 rfl rfl ?_
      refine g_bipush (pc := 91) (v := 6) hC dX12_timeStep_91 (by decide) ?_
      refine g_callV_i (pc := 93) (wd := fun (u : St) Y => (wX12 o0 a0 (xy C) u Y)) (F := fun Z => Z) (X := []) (As := [.int (6 : Int32)]) (rest := []) (u := u0) hC (fun _ _ => rfl) (fun _ => rfl) (ctX12_fails h) wvX12_fails ml_X12_170 (ci := 10) (q0 := 0) rfl rfl rfl rfl (rmok hR0 rfl) ⟨Nat.zero_le _, Nat.zero_le _⟩ rfl (Nat.le_of_ble_eq_true rfl) dX12_timeStep_93 (fun r_66 u_65 h => ?_)
      exact hR _ _ _ u_65 dX12_timeStep_96 h.1 h.2
def qX12_timeStep_b42  (post : Int32 → St → Prop)  (x1 : Int32) (x2 : Int32) (x3 : Int32) (s0 : Int32) (u0 : St) : Prop := ((x1 < (13 : Int32) → qX12_timeStep_b69 post u0) ∧ (¬ x1 < (13 : Int32) → (((22 : Int32) < x1 → qX12_timeStep_b69 post u0) ∧ (¬ (22 : Int32) < x1 → ((¬ x1 = (21 : Int32) → qX12_timeStep_b75 post x1 x2 x3 s0 u0) ∧ (x1 = (21 : Int32) → ((¬ (gi u0 22) = 0 → qX12_timeStep_b75 post x1 x2 x3 s0 u0) ∧ ((gi u0 22) = 0 → qX12_timeStep_b69 post u0))))))))
set_option maxRecDepth 100000 in
set_option maxHeartbeats 4000000 in
theorem kX12_timeStep_b42 {C : Cx} {o0 : Nat} {a0 : Nat → Nat} (hC : Fx C cX12_timeStep 6 RX12) (hR0 : xR C = rm 12) {post : Int32 → St → Prop} (hR : RZ C cX12_timeStep 6 (fun u : St => (wX12 o0 a0 (xy C) u [])) (fun r u => post r u))  {x1 : Int32} {x2 : Int32} {x3 : Int32} {s0 : Int32} {u0 : St} (h : qX12_timeStep_b42 post x1 x2 x3 s0 u0) : G C 0 0 6 (wX12 o0 a0 (xy C) u0 []) 42 [(0, .ref o0), (1, .int x1), (2, .int x2), (3, .int x3)] [.int s0] := by
  refine g_istore (pc := 42) (lv' := [(4, .int s0), (0, .ref o0), (1, .int x1), (2, .int x2), (3, .int x3)]) hC dX12_timeStep_42 (Nat.le_of_ble_eq_true rfl) rfl ?_
  refine g_iload_n (pc := 44) hC 2 dX12_timeStep_44 rfl rfl ?_
  refine g_bipush (pc := 45) (v := 13) hC dX12_timeStep_45 (by decide) ?_
  refine g_icmp_lt (pc := 47) (tgt := 69) hC dX12_timeStep_47 (by decide) (fun c_68 => ?_) (fun c_68 => ?_)
  · have h := h.1 c_68
    refine g_sub (lv' := [(0, .ref o0)]) [1] rfl ?_
    exact kX12_timeStep_b69 hC hR0 hR  h
  · have h := h.2 c_68
    refine g_iload_n (pc := 50) hC 2 dX12_timeStep_50 rfl rfl ?_
    refine g_bipush (pc := 51) (v := 22) hC dX12_timeStep_51 (by decide) ?_
    refine g_icmp_gt (pc := 53) (tgt := 69) hC dX12_timeStep_53 (by decide) (fun c_69 => ?_) (fun c_69 => ?_)
    · have h := h.1 c_69
      refine g_sub (lv' := [(0, .ref o0)]) [1] rfl ?_
      exact kX12_timeStep_b69 hC hR0 hR  h
    · have h := h.2 c_69
      refine g_iload_n (pc := 56) hC 2 dX12_timeStep_56 rfl rfl ?_
      refine g_bipush (pc := 57) (v := 21) hC dX12_timeStep_57 (by decide) ?_
      refine g_icmp_ne (pc := 59) (tgt := 75) hC dX12_timeStep_59 (by decide) (fun c_70 => ?_) (fun c_70 => ?_)
      · have h := h.1 c_70
        refine g_sub (lv' := [(0, .ref o0), (1, .int x1), (2, .int x2), (3, .int x3), (4, .int s0)]) [1, 2, 3, 4, 0] rfl ?_
        exact kX12_timeStep_b75 hC hR0 hR  h
      · have h := h.2 c_70
        refine g_aload_n (pc := 62) hC 1 dX12_timeStep_62 rfl rfl ?_
        refine getX12_22 (pc := 63) hC (F := fun Z => Z) (X := []) (fun _ => rfl) fl_X12_249 dX12_timeStep_63 ?_
        refine g_if_ne (pc := 66) (tgt := 75) hC dX12_timeStep_66 (by decide) (fun c_71 => ?_) (fun c_71 => ?_)
        · have h := h.1 c_71
          refine g_sub (lv' := [(0, .ref o0), (1, .int x1), (2, .int x2), (3, .int x3), (4, .int s0)]) [1, 2, 3, 4, 0] rfl ?_
          exact kX12_timeStep_b75 hC hR0 hR  h
        · have h := h.2 c_71
          refine g_sub (lv' := [(0, .ref o0)]) [1] rfl ?_
          exact kX12_timeStep_b69 hC hR0 hR  h
def qX12_timeStep_b37  (post : Int32 → St → Prop)  (x1 : Int32) (x2 : Int32) (x3 : Int32) (u0 : St) : Prop := qX12_timeStep_b42 post x1 x2 x3 (1 : Int32) u0
set_option maxRecDepth 100000 in
set_option maxHeartbeats 4000000 in
theorem kX12_timeStep_b37 {C : Cx} {o0 : Nat} {a0 : Nat → Nat} (hC : Fx C cX12_timeStep 6 RX12) (hR0 : xR C = rm 12) {post : Int32 → St → Prop} (hR : RZ C cX12_timeStep 6 (fun u : St => (wX12 o0 a0 (xy C) u [])) (fun r u => post r u))  {x1 : Int32} {x2 : Int32} {x3 : Int32} {u0 : St} (h : qX12_timeStep_b37 post x1 x2 x3 u0) : G C 0 0 6 (wX12 o0 a0 (xy C) u0 []) 37 [(0, .ref o0), (1, .int x1), (2, .int x2), (3, .int x3)] [] := by
  refine g_iconst (pc := 37) (v := 1) hC dX12_timeStep_37 (by decide) ?_
  refine g_goto (pc := 38) (tgt := 42) hC dX12_timeStep_38 (by decide) ?_
  exact kX12_timeStep_b42 hC hR0 hR  h
def qX12_timeStep  (u0 : St) (post : Int32 → St → Prop) : Prop := qX12_inWords u0 (fun r_73 u_72 => ∀ x2_75 : Int32, x2_75 = (ga u_72 0 ((1831 : Int32)).toNatClampNeg) → ∀ x3_76 : Int32, x3_76 = ((1912 : Int32) + ((6 : Int32) * x2_75)) → ((r_73 = (19 : Int32) → qX12_timeStep_b37 post r_73 x2_75 x3_76 u_72) ∧ (¬ r_73 = (19 : Int32) → ((¬ r_73 = (20 : Int32) → qX12_timeStep_b42 post r_73 x2_75 x3_76 (0 : Int32) u_72) ∧ (r_73 = (20 : Int32) → qX12_timeStep_b37 post r_73 x2_75 x3_76 u_72)))))
set_option maxRecDepth 100000 in
set_option maxHeartbeats 4000000 in
theorem kX12_timeStep {C : Cx} {o0 : Nat} {a0 : Nat → Nat} (hC : Fx C cX12_timeStep 6 RX12) (hR0 : xR C = rm 12) {post : Int32 → St → Prop} (hR : RZ C cX12_timeStep 6 (fun u : St => (wX12 o0 a0 (xy C) u [])) (fun r u => post r u))  {u0 : St} (h : qX12_timeStep  u0 post) : G C 0 0 6 (wX12 o0 a0 (xy C) u0 []) 0 [(0, .ref o0)] [] := by
  refine g_aload_n (pc := 0) hC 0 dX12_timeStep_0 rfl rfl ?_
  refine g_ldcS (pc := 1) hC dX12_timeStep_1 ?_
  refine g_callV_i (pc := 3) (wd := fun (u : St) Y => (wX12 o0 a0 (xy C) u Y)) (F := fun Z => Z) (X := []) (As := [.ref (xk C 26)]) (rest := []) (u := u0) hC (fun _ _ => rfl) (fun _ => rfl) (ctX12_inWords h) wvX12_inWords ml_X12_173 (ci := 10) (q0 := 0) rfl rfl rfl rfl (rmok hR0 rfl) ⟨Nat.zero_le _, Nat.zero_le _⟩ rfl (Nat.le_of_ble_eq_true rfl) dX12_timeStep_3 (fun r_73 u_72 h => ?_)
  refine g_istore_n (pc := 6) (lv' := [(1, .int r_73), (0, .ref o0)]) hC dX12_timeStep_6 rfl (Nat.le_of_ble_eq_true rfl) rfl ?_
  refine g_aload_n (pc := 7) hC 1 dX12_timeStep_7 rfl rfl ?_
  refine getX12_0 (pc := 8) hC (F := fun Z => Z) (X := []) (fun _ => rfl) fl_X12_7 dX12_timeStep_8 ?_
  refine g_sipush (pc := 11) (v := 1831) hC dX12_timeStep_11 (by decide) ?_
  refine aldX12_0 (pc := 14) hC (F := fun Z => Z) (X := []) (fun _ => rfl) (by unfold vp_in; decide) dX12_timeStep_14 ?_
  refine g_topi (fun x2_75 ex2_75 => ?_)
  have h := h x2_75 ex2_75
  refine g_istore_n (pc := 15) (lv' := [(2, .int x2_75), (1, .int r_73), (0, .ref o0)]) hC dX12_timeStep_15 rfl (Nat.le_of_ble_eq_true rfl) rfl ?_
  refine g_sipush (pc := 16) (v := 1912) hC dX12_timeStep_16 (by decide) ?_
  refine g_bipush (pc := 19) (v := 6) hC dX12_timeStep_19 (by decide) ?_
  refine g_iload_n (pc := 21) hC 0 dX12_timeStep_21 rfl rfl ?_
  refine g_imul (pc := 22) hC dX12_timeStep_22 ?_
  refine g_iadd (pc := 23) hC dX12_timeStep_23 ?_
  refine g_topi (fun x3_76 ex3_76 => ?_)
  have h := h x3_76 ex3_76
  refine g_istore_n (pc := 24) (lv' := [(3, .int x3_76), (2, .int x2_75), (1, .int r_73), (0, .ref o0)]) hC dX12_timeStep_24 rfl (Nat.le_of_ble_eq_true rfl) rfl ?_
  refine g_iload_n (pc := 25) hC 2 dX12_timeStep_25 rfl rfl ?_
  refine g_bipush (pc := 26) (v := 19) hC dX12_timeStep_26 (by decide) ?_
  refine g_icmp_eq (pc := 28) (tgt := 37) hC dX12_timeStep_28 (by decide) (fun c_77 => ?_) (fun c_77 => ?_)
  · have h := h.1 c_77
    refine g_sub (lv' := [(0, .ref o0), (1, .int r_73), (2, .int x2_75), (3, .int x3_76)]) [3, 2, 1, 0] rfl ?_
    exact kX12_timeStep_b37 hC hR0 hR  h
  · have h := h.2 c_77
    refine g_iload_n (pc := 31) hC 2 dX12_timeStep_31 rfl rfl ?_
    refine g_bipush (pc := 32) (v := 20) hC dX12_timeStep_32 (by decide) ?_
    refine g_icmp_ne (pc := 34) (tgt := 41) hC dX12_timeStep_34 (by decide) (fun c_78 => ?_) (fun c_78 => ?_)
    · have h := h.1 c_78
      refine g_iconst (pc := 41) (v := 0) hC dX12_timeStep_41 (by decide) ?_
      refine g_sub (lv' := [(0, .ref o0), (1, .int r_73), (2, .int x2_75), (3, .int x3_76)]) [3, 2, 1, 0] rfl ?_
      exact kX12_timeStep_b42 hC hR0 hR  h
    · have h := h.2 c_78
      refine g_sub (lv' := [(0, .ref o0), (1, .int r_73), (2, .int x2_75), (3, .int x3_76)]) [3, 2, 1, 0] rfl ?_
      exact kX12_timeStep_b37 hC hR0 hR  h
theorem ctX12_timeStep {l : Launch} {D : va_G} {cy : Nat → ClassId} {kd : Nat → Nat} {o0 : Nat} {a0 : Nat → Nat}  {u0 : St} {post : Int32 → St → Prop} (h : qX12_timeStep  u0 post) : CtI l D cy kd yX12_timeStep cX12_timeStep 6 12 .boolean [.ref o0] (fun u : St => (wX12 o0 a0 cy u [])) u0 (fun r u => post r u) := met_z (by decide) (Nat.le_of_ble_eq_true rfl) (fun C e1 e2 e3 e4 e5 hC hR => by subst e1 e2 e3 e4; exact kX12_timeStep hC e5 hR h)
theorem dX12_times_0 : decode cX12_times 0 = .ok (.aload_n 0, 1) := by decide +kernel
theorem dX12_times_1 : decode cX12_times 1 = .ok (.iload_n 1, 1) := by decide +kernel
theorem dX12_times_2 : decode cX12_times 2 = .ok (.sipush 300, 3) := by decide +kernel
theorem dX12_times_5 : decode cX12_times 5 = .ok (.invokevirtual 234, 3) := by decide +kernel
theorem dX12_times_8 : decode cX12_times 8 = .ok (.ifCond .ne 9, 3) := by decide +kernel
theorem dX12_times_11 : decode cX12_times 11 = .ok (.aload_n 0, 1) := by decide +kernel
theorem dX12_times_12 : decode cX12_times 12 = .ok (.iconst 1, 1) := by decide +kernel
theorem dX12_times_13 : decode cX12_times 13 = .ok (.invokevirtual 88, 3) := by decide +kernel
theorem dX12_times_16 : decode cX12_times 16 = .ok (.ireturn, 1) := by decide +kernel
theorem dX12_times_17 : decode cX12_times 17 = .ok (.aload_n 0, 1) := by decide +kernel
theorem dX12_times_18 : decode cX12_times 18 = .ok (.getfield 7, 3) := by decide +kernel
theorem dX12_times_21 : decode cX12_times 21 = .ok (.sipush 1831, 3) := by decide +kernel
theorem dX12_times_24 : decode cX12_times 24 = .ok (.iconst 0, 1) := by decide +kernel
theorem dX12_times_25 : decode cX12_times 25 = .ok (.iastore, 1) := by decide +kernel
theorem dX12_times_26 : decode cX12_times 26 = .ok (.aload_n 0, 1) := by decide +kernel
theorem dX12_times_27 : decode cX12_times 27 = .ok (.iconst 0, 1) := by decide +kernel
theorem dX12_times_28 : decode cX12_times 28 = .ok (.putfield 249, 3) := by decide +kernel
theorem dX12_times_31 : decode cX12_times 31 = .ok (.aload_n 0, 1) := by decide +kernel
theorem dX12_times_32 : decode cX12_times 32 = .ok (.iconst 0, 1) := by decide +kernel
theorem dX12_times_33 : decode cX12_times 33 = .ok (.putfield 252, 3) := by decide +kernel
theorem dX12_times_36 : decode cX12_times 36 = .ok (.iconst 1, 1) := by decide +kernel
theorem dX12_times_37 : decode cX12_times 37 = .ok (.istore_n 2, 1) := by decide +kernel
theorem dX12_times_38 : decode cX12_times 38 = .ok (.iload_n 2, 1) := by decide +kernel
theorem dX12_times_39 : decode cX12_times 39 = .ok (.ifCond .eq 18, 3) := by decide +kernel
theorem dX12_times_42 : decode cX12_times 42 = .ok (.aload_n 0, 1) := by decide +kernel
theorem dX12_times_43 : decode cX12_times 43 = .ok (.getfield 133, 3) := by decide +kernel
theorem dX12_times_46 : decode cX12_times 46 = .ok (.ifCond .eq 11, 3) := by decide +kernel
theorem dX12_times_49 : decode cX12_times 49 = .ok (.aload_n 0, 1) := by decide +kernel
theorem dX12_times_50 : decode cX12_times 50 = .ok (.invokevirtual 258, 3) := by decide +kernel
theorem dX12_times_53 : decode cX12_times 53 = .ok (.istore_n 2, 1) := by decide +kernel
theorem dX12_times_54 : decode cX12_times 54 = .ok (.goto (-16), 3) := by decide +kernel
theorem dX12_times_57 : decode cX12_times 57 = .ok (.aload_n 0, 1) := by decide +kernel
theorem dX12_times_58 : decode cX12_times 58 = .ok (.getfield 158, 3) := by decide +kernel
theorem dX12_times_61 : decode cX12_times 61 = .ok (.ifCond .ne 16, 3) := by decide +kernel
theorem dX12_times_64 : decode cX12_times 64 = .ok (.aload_n 0, 1) := by decide +kernel
theorem dX12_times_65 : decode cX12_times 65 = .ok (.getfield 249, 3) := by decide +kernel
theorem dX12_times_68 : decode cX12_times 68 = .ok (.ifCond .le 9, 3) := by decide +kernel
theorem dX12_times_71 : decode cX12_times 71 = .ok (.aload_n 0, 1) := by decide +kernel
theorem dX12_times_72 : decode cX12_times 72 = .ok (.iconst 2, 1) := by decide +kernel
theorem dX12_times_73 : decode cX12_times 73 = .ok (.invokevirtual 170, 3) := by decide +kernel
theorem dX12_times_76 : decode cX12_times 76 = .ok (.pop, 1) := by decide +kernel
theorem dX12_times_77 : decode cX12_times 77 = .ok (.aload_n 0, 1) := by decide +kernel
theorem dX12_times_78 : decode cX12_times 78 = .ok (.getfield 158, 3) := by decide +kernel
theorem dX12_times_81 : decode cX12_times 81 = .ok (.ifCond .ne 50, 3) := by decide +kernel
theorem dX12_times_84 : decode cX12_times 84 = .ok (.aload_n 0, 1) := by decide +kernel
theorem dX12_times_85 : decode cX12_times 85 = .ok (.getfield 7, 3) := by decide +kernel
theorem dX12_times_88 : decode cX12_times 88 = .ok (.bipush 7, 2) := by decide +kernel
theorem dX12_times_90 : decode cX12_times 90 = .ok (.aload_n 0, 1) := by decide +kernel
theorem dX12_times_91 : decode cX12_times 91 = .ok (.getfield 7, 3) := by decide +kernel
theorem dX12_times_94 : decode cX12_times 94 = .ok (.sipush 1831, 3) := by decide +kernel
theorem dX12_times_97 : decode cX12_times 97 = .ok (.iaload, 1) := by decide +kernel
theorem dX12_times_98 : decode cX12_times 98 = .ok (.iastore, 1) := by decide +kernel
theorem dX12_times_99 : decode cX12_times 99 = .ok (.bipush 88, 2) := by decide +kernel
theorem dX12_times_101 : decode cX12_times 101 = .ok (.istore_n 3, 1) := by decide +kernel
theorem dX12_times_102 : decode cX12_times 102 = .ok (.iload_n 3, 1) := by decide +kernel
theorem dX12_times_103 : decode cX12_times 103 = .ok (.sipush 448, 3) := by decide +kernel
theorem dX12_times_106 : decode cX12_times 106 = .ok (.if_icmp .ge 25, 3) := by decide +kernel
theorem dX12_times_109 : decode cX12_times 109 = .ok (.aload_n 0, 1) := by decide +kernel
theorem dX12_times_110 : decode cX12_times 110 = .ok (.getfield 7, 3) := by decide +kernel
theorem dX12_times_113 : decode cX12_times 113 = .ok (.iload_n 3, 1) := by decide +kernel
theorem dX12_times_114 : decode cX12_times 114 = .ok (.aload_n 0, 1) := by decide +kernel
theorem dX12_times_115 : decode cX12_times 115 = .ok (.getfield 7, 3) := by decide +kernel
theorem dX12_times_118 : decode cX12_times 118 = .ok (.sipush 1824, 3) := by decide +kernel
theorem dX12_times_121 : decode cX12_times 121 = .ok (.iload_n 3, 1) := by decide +kernel
theorem dX12_times_122 : decode cX12_times 122 = .ok (.iadd, 1) := by decide +kernel
theorem dX12_times_123 : decode cX12_times 123 = .ok (.iaload, 1) := by decide +kernel
theorem dX12_times_124 : decode cX12_times 124 = .ok (.iastore, 1) := by decide +kernel
theorem dX12_times_125 : decode cX12_times 125 = .ok (.iinc 3 1, 3) := by decide +kernel
theorem dX12_times_128 : decode cX12_times 128 = .ok (.goto (-26), 3) := by decide +kernel
theorem dX12_times_131 : decode cX12_times 131 = .ok (.aload_n 0, 1) := by decide +kernel
theorem dX12_times_132 : decode cX12_times 132 = .ok (.aload_n 0, 1) := by decide +kernel
theorem dX12_times_133 : decode cX12_times 133 = .ok (.getfield 252, 3) := by decide +kernel
theorem dX12_times_136 : decode cX12_times 136 = .ok (.invokevirtual 243, 3) := by decide +kernel
theorem dX12_times_139 : decode cX12_times 139 = .ok (.ireturn, 1) := by decide +kernel
def qX12_times_b131  (post : Int32 → St → Prop)  (u0 : St) : Prop := qX12_taken (gi u0 23) u0 (fun r_23 u_22 => post r_23 u_22)
set_option maxRecDepth 100000 in
set_option maxHeartbeats 4000000 in
theorem kX12_times_b131 {C : Cx} {o0 : Nat} {a0 : Nat → Nat} (hC : Fx C cX12_times 4 RX12) (hR0 : xR C = rm 13) {post : Int32 → St → Prop} (hR : RI C cX12_times 4 (fun u : St => (wX12 o0 a0 (xy C) u [])) (fun r u => post r u))  {u0 : St} (h : qX12_times_b131 post u0) : G C 0 0 4 (wX12 o0 a0 (xy C) u0 []) 131 [(0, .ref o0)] [] := by
  refine g_aload_n (pc := 131) hC 0 dX12_times_131 rfl rfl ?_
  refine g_aload_n (pc := 132) hC 0 dX12_times_132 rfl rfl ?_
  refine getX12_23 (pc := 133) hC (F := fun Z => Z) (X := []) (fun _ => rfl) fl_X12_252 dX12_times_133 ?_
  refine g_callV_i (pc := 136) (wd := fun (u : St) Y => (wX12 o0 a0 (xy C) u Y)) (F := fun Z => Z) (X := []) (As := [.int (gi u0 23)]) (rest := []) (u := u0) hC (fun _ _ => rfl) (fun _ => rfl) (ctX12_taken h) wvX12_taken ml_X12_243 (ci := 10) (q0 := 0) rfl rfl rfl rfl (rmok hR0 rfl) ⟨Nat.zero_le _, Nat.zero_le _⟩ rfl (Nat.le_of_ble_eq_true rfl) dX12_times_136 (fun r_23 u_22 h => ?_)
  exact hR _ _ _ u_22 dX12_times_139 h
def qX12_times_l102  (post : Int32 → St → Prop) (K102 : Int32 → St → Prop) (x3 : Int32) (u0 : St) : Prop := (((448 : Int32) ≤ x3 → qX12_times_b131 post u0) ∧ (¬ (448 : Int32) ≤ x3 → (vp_in ((1824 : Int32) + x3) 3072 ∧ (vp_in x3 3072 ∧ ∀ u_26 : St, u_26 = (sw u0 0 (upd (ga u0 0) (x3).toNatClampNeg (ga u0 0 (((1824 : Int32) + x3)).toNatClampNeg))) → ∀ x3_27 : Int32, x3_27 = x3 + (1 : Int32) → K102 x3_27 u_26))))
set_option maxRecDepth 100000 in
set_option maxHeartbeats 4000000 in
theorem kX12_times_l102 {C : Cx} {o0 : Nat} {a0 : Nat → Nat} (hC : Fx C cX12_times 4 RX12) (hR0 : xR C = rm 13) {post : Int32 → St → Prop} (hR : RI C cX12_times 4 (fun u : St => (wX12 o0 a0 (xy C) u [])) (fun r u => post r u))  {K102 : Int32 → St → Prop} (hK102 : ∀ (x3 : Int32) (u0 : St), K102 x3 u0 → G C 0 0 4 (wX12 o0 a0 (xy C) u0 []) 102 [(0, .ref o0), (3, .int x3)] []) {x3 : Int32} {u0 : St} (h : qX12_times_l102 post K102 x3 u0) : G C 0 0 4 (wX12 o0 a0 (xy C) u0 []) 102 [(0, .ref o0), (3, .int x3)] [] := by
  refine g_iload_n (pc := 102) hC 1 dX12_times_102 rfl rfl ?_
  refine g_sipush (pc := 103) (v := 448) hC dX12_times_103 (by decide) ?_
  refine g_icmp_ge (pc := 106) (tgt := 131) hC dX12_times_106 (by decide) (fun c_25 => ?_) (fun c_25 => ?_)
  · have h := h.1 c_25
    refine g_sub (lv' := [(0, .ref o0)]) [0] rfl ?_
    exact kX12_times_b131 hC hR0 hR  h
  · have h := h.2 c_25
    refine g_aload_n (pc := 109) hC 0 dX12_times_109 rfl rfl ?_
    refine getX12_0 (pc := 110) hC (F := fun Z => Z) (X := []) (fun _ => rfl) fl_X12_7 dX12_times_110 ?_
    refine g_iload_n (pc := 113) hC 1 dX12_times_113 rfl rfl ?_
    refine g_aload_n (pc := 114) hC 0 dX12_times_114 rfl rfl ?_
    refine getX12_0 (pc := 115) hC (F := fun Z => Z) (X := []) (fun _ => rfl) fl_X12_7 dX12_times_115 ?_
    refine g_sipush (pc := 118) (v := 1824) hC dX12_times_118 (by decide) ?_
    refine g_iload_n (pc := 121) hC 1 dX12_times_121 rfl rfl ?_
    refine g_iadd (pc := 122) hC dX12_times_122 ?_
    refine aldX12_0 (pc := 123) hC (F := fun Z => Z) (X := []) (fun _ => rfl) h.1 dX12_times_123 ?_
    have h := h.2
    refine astX12_0 (pc := 124) hC (F := fun Z => Z) (X := []) (fun _ => rfl) h.1 dX12_times_124 ?_
    have h := h.2
    refine g_st (w := fun z => (wX12 o0 a0 (xy C) z [])) (u := (sw u0 0 (upd (ga u0 0) (x3).toNatClampNeg (ga u0 0 (((1824 : Int32) + x3)).toNatClampNeg)))) (fun u_26 eu_26 => ?_)
    have h := h u_26 eu_26
    obtain ⟨x3_27, ex3_27⟩ : ∃ z : Int32, z = x3 + (1 : Int32) := ⟨_, rfl⟩
    have h := h x3_27 ex3_27
    refine g_iinc (pc := 125) (v := x3_27) (lv' := [(3, .int x3_27), (0, .ref o0)]) hC 1 dX12_times_125 rfl (by rw [ex3_27]; rfl) (Nat.le_of_ble_eq_true rfl) rfl ?_
    refine g_goto (pc := 128) (tgt := 102) hC dX12_times_128 (by decide) ?_
    refine g_sub (lv' := [(0, .ref o0), (3, .int x3_27)]) [1, 0] rfl ?_
    exact hK102 _ _ h
def qX12_times_L102  (post : Int32 → St → Prop)  : Nat → Int32 → St → Prop
  | 0 => fun _ _ => False
  | n + 1 => qX12_times_l102 post (qX12_times_L102 post n)
theorem kX12_times_L102 {C : Cx} {o0 : Nat} {a0 : Nat → Nat} (hC : Fx C cX12_times 4 RX12) (hR0 : xR C = rm 13) {post : Int32 → St → Prop} (hR : RI C cX12_times 4 (fun u : St => (wX12 o0 a0 (xy C) u [])) (fun r u => post r u))  : ∀ (n : Nat) (x3 : Int32) (u0 : St), qX12_times_L102 post n x3 u0 → G C 0 0 4 (wX12 o0 a0 (xy C) u0 []) 102 [(0, .ref o0), (3, .int x3)] [] := by
  intro n
  induction n with
  | zero => intro x3 u0 h; exact h.elim
  | succ n ih => intro x3 u0 h; exact kX12_times_l102 hC hR0 hR  ih h
def qX12_times_b77  (post : Int32 → St → Prop)  (u0 : St) : Prop := ((¬ (gi u0 18) = 0 → qX12_times_b131 post u0) ∧ ((gi u0 18) = 0 → ∀ u_29 : St, u_29 = (sw u0 0 (upd (ga u0 0) ((7 : Int32)).toNatClampNeg (ga u0 0 ((1831 : Int32)).toNatClampNeg))) → ∃ n_30 : Nat, qX12_times_L102 post n_30 (88 : Int32) u_29))
set_option maxRecDepth 100000 in
set_option maxHeartbeats 4000000 in
theorem kX12_times_b77 {C : Cx} {o0 : Nat} {a0 : Nat → Nat} (hC : Fx C cX12_times 4 RX12) (hR0 : xR C = rm 13) {post : Int32 → St → Prop} (hR : RI C cX12_times 4 (fun u : St => (wX12 o0 a0 (xy C) u [])) (fun r u => post r u))  {u0 : St} (h : qX12_times_b77 post u0) : G C 0 0 4 (wX12 o0 a0 (xy C) u0 []) 77 [(0, .ref o0)] [] := by
  refine g_aload_n (pc := 77) hC 0 dX12_times_77 rfl rfl ?_
  refine getX12_18 (pc := 78) hC (F := fun Z => Z) (X := []) (fun _ => rfl) fl_X12_158 dX12_times_78 ?_
  refine g_if_ne (pc := 81) (tgt := 131) hC dX12_times_81 (by decide) (fun c_28 => ?_) (fun c_28 => ?_)
  · have h := h.1 c_28
    exact kX12_times_b131 hC hR0 hR  h
  · have h := h.2 c_28
    refine g_aload_n (pc := 84) hC 0 dX12_times_84 rfl rfl ?_
    refine getX12_0 (pc := 85) hC (F := fun Z => Z) (X := []) (fun _ => rfl) fl_X12_7 dX12_times_85 ?_
    refine g_bipush (pc := 88) (v := 7) hC dX12_times_88 (by decide) ?_
    refine g_aload_n (pc := 90) hC 0 dX12_times_90 rfl rfl ?_
    refine getX12_0 (pc := 91) hC (F := fun Z => Z) (X := []) (fun _ => rfl) fl_X12_7 dX12_times_91 ?_
    refine g_sipush (pc := 94) (v := 1831) hC dX12_times_94 (by decide) ?_
    refine aldX12_0 (pc := 97) hC (F := fun Z => Z) (X := []) (fun _ => rfl) (by unfold vp_in; decide) dX12_times_97 ?_
    refine astX12_0 (pc := 98) hC (F := fun Z => Z) (X := []) (fun _ => rfl) (by unfold vp_in; decide) dX12_times_98 ?_
    refine g_st (w := fun z => (wX12 o0 a0 (xy C) z [])) (u := (sw u0 0 (upd (ga u0 0) ((7 : Int32)).toNatClampNeg (ga u0 0 ((1831 : Int32)).toNatClampNeg)))) (fun u_29 eu_29 => ?_)
    have h := h u_29 eu_29
    refine g_bipush (pc := 99) (v := 88) hC dX12_times_99 (by decide) ?_
    refine g_istore_n (pc := 101) (lv' := [(3, .int (88 : Int32)), (0, .ref o0)]) hC dX12_times_101 rfl (Nat.le_of_ble_eq_true rfl) rfl ?_
    refine g_sub (lv' := [(0, .ref o0), (3, .int (88 : Int32))]) [1, 0] rfl ?_
    obtain ⟨n_30, h⟩ := h
    exact kX12_times_L102 hC hR0 hR  n_30 _ _ h
def qX12_times_b57  (post : Int32 → St → Prop)  (u0 : St) : Prop := ((¬ (gi u0 18) = 0 → qX12_times_b77 post u0) ∧ ((gi u0 18) = 0 → (((gi u0 22) ≤ 0 → qX12_times_b77 post u0) ∧ (¬ (gi u0 22) ≤ 0 → qX12_fails (2 : Int32) u0 (fun r_34 u_33 => qX12_times_b77 post u_33)))))
set_option maxRecDepth 100000 in
set_option maxHeartbeats 4000000 in
theorem kX12_times_b57 {C : Cx} {o0 : Nat} {a0 : Nat → Nat} (hC : Fx C cX12_times 4 RX12) (hR0 : xR C = rm 13) {post : Int32 → St → Prop} (hR : RI C cX12_times 4 (fun u : St => (wX12 o0 a0 (xy C) u [])) (fun r u => post r u))  {u0 : St} (h : qX12_times_b57 post u0) : G C 0 0 4 (wX12 o0 a0 (xy C) u0 []) 57 [(0, .ref o0)] [] := by
  refine g_aload_n (pc := 57) hC 0 dX12_times_57 rfl rfl ?_
  refine getX12_18 (pc := 58) hC (F := fun Z => Z) (X := []) (fun _ => rfl) fl_X12_158 dX12_times_58 ?_
  refine g_if_ne (pc := 61) (tgt := 77) hC dX12_times_61 (by decide) (fun c_31 => ?_) (fun c_31 => ?_)
  · have h := h.1 c_31
    exact kX12_times_b77 hC hR0 hR  h
  · have h := h.2 c_31
    refine g_aload_n (pc := 64) hC 0 dX12_times_64 rfl rfl ?_
    refine getX12_22 (pc := 65) hC (F := fun Z => Z) (X := []) (fun _ => rfl) fl_X12_249 dX12_times_65 ?_
    refine g_if_le (pc := 68) (tgt := 77) hC dX12_times_68 (by decide) (fun c_32 => ?_) (fun c_32 => ?_)
    · have h := h.1 c_32
      exact kX12_times_b77 hC hR0 hR  h
    · have h := h.2 c_32
      refine g_aload_n (pc := 71) hC 0 dX12_times_71 rfl rfl ?_
      refine g_iconst (pc := 72) (v := 2) hC dX12_times_72 (by decide) ?_
      refine g_callV_i (pc := 73) (wd := fun (u : St) Y => (wX12 o0 a0 (xy C) u Y)) (F := fun Z => Z) (X := []) (As := [.int (2 : Int32)]) (rest := []) (u := u0) hC (fun _ _ => rfl) (fun _ => rfl) (ctX12_fails h) wvX12_fails ml_X12_170 (ci := 10) (q0 := 0) rfl rfl rfl rfl (rmok hR0 rfl) ⟨Nat.zero_le _, Nat.zero_le _⟩ rfl (Nat.le_of_ble_eq_true rfl) dX12_times_73 (fun r_34 u_33 h => ?_)
      refine g_pop (pc := 76) hC dX12_times_76 rfl ?_
      exact kX12_times_b77 hC hR0 hR  h
def qX12_times_l38  (post : Int32 → St → Prop) (K38 : Int32 → St → Prop) (x2 : Int32) (u0 : St) : Prop := ((x2 = 0 → qX12_times_b57 post u0) ∧ (¬ x2 = 0 → (((gi u0 12) = 0 → qX12_times_b57 post u0) ∧ (¬ (gi u0 12) = 0 → qX12_timeStep u0 (fun r_39 u_38 => K38 r_39 u_38)))))
set_option maxRecDepth 100000 in
set_option maxHeartbeats 4000000 in
theorem kX12_times_l38 {C : Cx} {o0 : Nat} {a0 : Nat → Nat} (hC : Fx C cX12_times 4 RX12) (hR0 : xR C = rm 13) {post : Int32 → St → Prop} (hR : RI C cX12_times 4 (fun u : St => (wX12 o0 a0 (xy C) u [])) (fun r u => post r u))  {K38 : Int32 → St → Prop} (hK38 : ∀ (x2 : Int32) (u0 : St), K38 x2 u0 → G C 0 0 4 (wX12 o0 a0 (xy C) u0 []) 38 [(0, .ref o0), (2, .int x2)] []) {x2 : Int32} {u0 : St} (h : qX12_times_l38 post K38 x2 u0) : G C 0 0 4 (wX12 o0 a0 (xy C) u0 []) 38 [(0, .ref o0), (2, .int x2)] [] := by
  refine g_iload_n (pc := 38) hC 1 dX12_times_38 rfl rfl ?_
  refine g_if_eq (pc := 39) (tgt := 57) hC dX12_times_39 (by decide) (fun c_36 => ?_) (fun c_36 => ?_)
  · have h := h.1 c_36
    refine g_sub (lv' := [(0, .ref o0)]) [0] rfl ?_
    exact kX12_times_b57 hC hR0 hR  h
  · have h := h.2 c_36
    refine g_aload_n (pc := 42) hC 0 dX12_times_42 rfl rfl ?_
    refine getX12_12 (pc := 43) hC (F := fun Z => Z) (X := []) (fun _ => rfl) fl_X12_133 dX12_times_43 ?_
    refine g_if_eq (pc := 46) (tgt := 57) hC dX12_times_46 (by decide) (fun c_37 => ?_) (fun c_37 => ?_)
    · have h := h.1 c_37
      refine g_sub (lv' := [(0, .ref o0)]) [0] rfl ?_
      exact kX12_times_b57 hC hR0 hR  h
    · have h := h.2 c_37
      refine g_aload_n (pc := 49) hC 0 dX12_times_49 rfl rfl ?_
      refine g_callV_i (pc := 50) (wd := fun (u : St) Y => (wX12 o0 a0 (xy C) u Y)) (F := fun Z => Z) (X := []) (As := []) (rest := []) (u := u0) hC (fun _ _ => rfl) (fun _ => rfl) (ctX12_timeStep h) wvX12_timeStep ml_X12_258 (ci := 10) (q0 := 0) rfl rfl rfl rfl (rmok hR0 rfl) ⟨Nat.zero_le _, Nat.zero_le _⟩ rfl (Nat.le_of_ble_eq_true rfl) dX12_times_50 (fun r_39 u_38 h => ?_)
      refine g_istore_n (pc := 53) (lv' := [(2, .int r_39), (0, .ref o0)]) hC dX12_times_53 rfl (Nat.le_of_ble_eq_true rfl) rfl ?_
      refine g_goto (pc := 54) (tgt := 38) hC dX12_times_54 (by decide) ?_
      refine g_sub (lv' := [(0, .ref o0), (2, .int r_39)]) [1, 0] rfl ?_
      exact hK38 _ _ h
def qX12_times_L38  (post : Int32 → St → Prop)  : Nat → Int32 → St → Prop
  | 0 => fun _ _ => False
  | n + 1 => qX12_times_l38 post (qX12_times_L38 post n)
theorem kX12_times_L38 {C : Cx} {o0 : Nat} {a0 : Nat → Nat} (hC : Fx C cX12_times 4 RX12) (hR0 : xR C = rm 13) {post : Int32 → St → Prop} (hR : RI C cX12_times 4 (fun u : St => (wX12 o0 a0 (xy C) u [])) (fun r u => post r u))  : ∀ (n : Nat) (x2 : Int32) (u0 : St), qX12_times_L38 post n x2 u0 → G C 0 0 4 (wX12 o0 a0 (xy C) u0 []) 38 [(0, .ref o0), (2, .int x2)] [] := by
  intro n
  induction n with
  | zero => intro x2 u0 h; exact h.elim
  | succ n ih => intro x2 u0 h; exact kX12_times_l38 hC hR0 hR  ih h
def qX12_times (x1 : Int32) (u0 : St) (post : Int32 → St → Prop) : Prop := qX12_begins x1 (300 : Int32) u0 (fun r_42 u_41 => ((¬ r_42 = 0 → ∀ u_45 : St, u_45 = (sw u_41 0 (upd (ga u_41 0) ((1831 : Int32)).toNatClampNeg (0 : Int32))) → ∀ u_46 : St, u_46 = (si u_45 22 (0 : Int32)) → ∀ u_47 : St, u_47 = (si u_46 23 (0 : Int32)) → ∃ n_48 : Nat, qX12_times_L38 post n_48 (1 : Int32) u_47) ∧ (r_42 = 0 → qX12_refuse (1 : Int32) u_41 (fun r_50 u_49 => post r_50 u_49))))
set_option maxRecDepth 100000 in
set_option maxHeartbeats 4000000 in
theorem kX12_times {C : Cx} {o0 : Nat} {a0 : Nat → Nat} (hC : Fx C cX12_times 4 RX12) (hR0 : xR C = rm 13) {post : Int32 → St → Prop} (hR : RI C cX12_times 4 (fun u : St => (wX12 o0 a0 (xy C) u [])) (fun r u => post r u)) {x1 : Int32} {u0 : St} (h : qX12_times x1 u0 post) : G C 0 0 4 (wX12 o0 a0 (xy C) u0 []) 0 [(0, .ref o0), (1, .int x1)] [] := by
  refine g_aload_n (pc := 0) hC 0 dX12_times_0 rfl rfl ?_
  refine g_iload_n (pc := 1) hC 1 dX12_times_1 rfl rfl ?_
  refine g_sipush (pc := 2) (v := 300) hC dX12_times_2 (by decide) ?_
  refine g_callV_i (pc := 5) (wd := fun (u : St) Y => (wX12 o0 a0 (xy C) u Y)) (F := fun Z => Z) (X := []) (As := [.int x1, .int (300 : Int32)]) (rest := []) (u := u0) hC (fun _ _ => rfl) (fun _ => rfl) (ctX12_begins h) wvX12_begins ml_X12_234 (ci := 10) (q0 := 0) rfl rfl rfl rfl (rmok hR0 rfl) ⟨Nat.zero_le _, Nat.zero_le _⟩ rfl (Nat.le_of_ble_eq_true rfl) dX12_times_5 (fun r_42 u_41 h => ?_)
  refine g_if_ne (pc := 8) (tgt := 17) hC dX12_times_8 (by decide) (fun c_44 => ?_) (fun c_44 => ?_)
  · have h := h.1 c_44
    refine g_aload_n (pc := 17) hC 0 dX12_times_17 rfl rfl ?_
    refine getX12_0 (pc := 18) hC (F := fun Z => Z) (X := []) (fun _ => rfl) fl_X12_7 dX12_times_18 ?_
    refine g_sipush (pc := 21) (v := 1831) hC dX12_times_21 (by decide) ?_
    refine g_iconst (pc := 24) (v := 0) hC dX12_times_24 (by decide) ?_
    refine astX12_0 (pc := 25) hC (F := fun Z => Z) (X := []) (fun _ => rfl) (by unfold vp_in; decide) dX12_times_25 ?_
    refine g_st (w := fun z => (wX12 o0 a0 (xy C) z [])) (u := (sw u_41 0 (upd (ga u_41 0) ((1831 : Int32)).toNatClampNeg (0 : Int32)))) (fun u_45 eu_45 => ?_)
    have h := h u_45 eu_45
    refine g_aload_n (pc := 26) hC 0 dX12_times_26 rfl rfl ?_
    refine g_iconst (pc := 27) (v := 0) hC dX12_times_27 (by decide) ?_
    refine putX12_22 (pc := 28) hC (F := fun Z => Z) (X := []) (fun _ => rfl) fl_X12_249 dX12_times_28 ?_
    refine g_st (w := fun z => (wX12 o0 a0 (xy C) z [])) (u := (si u_45 22 (0 : Int32))) (fun u_46 eu_46 => ?_)
    have h := h u_46 eu_46
    refine g_aload_n (pc := 31) hC 0 dX12_times_31 rfl rfl ?_
    refine g_iconst (pc := 32) (v := 0) hC dX12_times_32 (by decide) ?_
    refine putX12_23 (pc := 33) hC (F := fun Z => Z) (X := []) (fun _ => rfl) fl_X12_252 dX12_times_33 ?_
    refine g_st (w := fun z => (wX12 o0 a0 (xy C) z [])) (u := (si u_46 23 (0 : Int32))) (fun u_47 eu_47 => ?_)
    have h := h u_47 eu_47
    refine g_iconst (pc := 36) (v := 1) hC dX12_times_36 (by decide) ?_
    refine g_istore_n (pc := 37) (lv' := [(2, .int (1 : Int32)), (0, .ref o0), (1, .int x1)]) hC dX12_times_37 rfl (Nat.le_of_ble_eq_true rfl) rfl ?_
    refine g_sub (lv' := [(0, .ref o0), (2, .int (1 : Int32))]) [1, 0] rfl ?_
    obtain ⟨n_48, h⟩ := h
    exact kX12_times_L38 hC hR0 hR  n_48 _ _ h
  · have h := h.2 c_44
    refine g_aload_n (pc := 11) hC 0 dX12_times_11 rfl rfl ?_
    refine g_iconst (pc := 12) (v := 1) hC dX12_times_12 (by decide) ?_
    refine g_callV_i (pc := 13) (wd := fun (u : St) Y => (wX12 o0 a0 (xy C) u Y)) (F := fun Z => Z) (X := []) (As := [.int (1 : Int32)]) (rest := []) (u := u_41) hC (fun _ _ => rfl) (fun _ => rfl) (ctX12_refuse h) wvX12_refuse ml_X12_88 (ci := 10) (q0 := 0) rfl rfl rfl rfl (rmok hR0 rfl) ⟨Nat.zero_le _, Nat.zero_le _⟩ rfl (Nat.le_of_ble_eq_true rfl) dX12_times_13 (fun r_50 u_49 h => ?_)
    exact hR _ _ _ u_49 dX12_times_16 h
theorem ctX12_times {l : Launch} {D : va_G} {cy : Nat → ClassId} {kd : Nat → Nat} {o0 : Nat} {a0 : Nat → Nat} {x1 : Int32} {u0 : St} {post : Int32 → St → Prop} (h : qX12_times x1 u0 post) : CtI l D cy kd yX12_times cX12_times 4 13 .int [.ref o0, .int x1] (fun u : St => (wX12 o0 a0 cy u [])) u0 (fun r u => post r u) := met_i (by decide) (Nat.le_of_ble_eq_true rfl) (fun C e1 e2 e3 e4 e5 hC hR => by subst e1 e2 e3 e4; exact kX12_times hC e5 hR h)
theorem dX12_isStone_0 : decode cX12_isStone 0 = .ok (.iload_n 1, 1) := by decide +kernel
theorem dX12_isStone_1 : decode cX12_isStone 1 = .ok (.ifCond .lt 17, 3) := by decide +kernel
theorem dX12_isStone_4 : decode cX12_isStone 4 = .ok (.iload_n 1, 1) := by decide +kernel
theorem dX12_isStone_5 : decode cX12_isStone 5 = .ok (.aload_n 0, 1) := by decide +kernel
theorem dX12_isStone_6 : decode cX12_isStone 6 = .ok (.getfield 7, 3) := by decide +kernel
theorem dX12_isStone_9 : decode cX12_isStone 9 = .ok (.iconst 0, 1) := by decide +kernel
theorem dX12_isStone_10 : decode cX12_isStone 10 = .ok (.iaload, 1) := by decide +kernel
theorem dX12_isStone_11 : decode cX12_isStone 11 = .ok (.if_icmp .ge 7, 3) := by decide +kernel
theorem dX12_isStone_14 : decode cX12_isStone 14 = .ok (.iconst 1, 1) := by decide +kernel
theorem dX12_isStone_15 : decode cX12_isStone 15 = .ok (.goto 4, 3) := by decide +kernel
theorem dX12_isStone_18 : decode cX12_isStone 18 = .ok (.iconst 0, 1) := by decide +kernel
theorem dX12_isStone_19 : decode cX12_isStone 19 = .ok (.ireturn, 1) := by decide +kernel
def qX12_isStone_b19  (post : Int32 → St → Prop)  (s0 : Int32) (u0 : St) : Prop := (bz s0 ∧ post s0 u0)
set_option maxRecDepth 100000 in
set_option maxHeartbeats 4000000 in
theorem kX12_isStone_b19 {C : Cx} {o0 : Nat} {a0 : Nat → Nat} (hC : Fx C cX12_isStone 2 RX12) (hR0 : xR C = rm 1) {post : Int32 → St → Prop} (hR : RZ C cX12_isStone 2 (fun u : St => (wX12 o0 a0 (xy C) u [])) (fun r u => post r u))  {s0 : Int32} {u0 : St} (h : qX12_isStone_b19 post s0 u0) : G C 0 0 2 (wX12 o0 a0 (xy C) u0 []) 19 [] [.int s0] := by
  exact hR _ _ _ u0 dX12_isStone_19 h.1 h.2
def qX12_isStone_b18  (post : Int32 → St → Prop)  (u0 : St) : Prop := qX12_isStone_b19 post (0 : Int32) u0
set_option maxRecDepth 100000 in
set_option maxHeartbeats 4000000 in
theorem kX12_isStone_b18 {C : Cx} {o0 : Nat} {a0 : Nat → Nat} (hC : Fx C cX12_isStone 2 RX12) (hR0 : xR C = rm 1) {post : Int32 → St → Prop} (hR : RZ C cX12_isStone 2 (fun u : St => (wX12 o0 a0 (xy C) u [])) (fun r u => post r u))  {u0 : St} (h : qX12_isStone_b18 post u0) : G C 0 0 2 (wX12 o0 a0 (xy C) u0 []) 18 [] [] := by
  refine g_iconst (pc := 18) (v := 0) hC dX12_isStone_18 (by decide) ?_
  exact kX12_isStone_b19 hC hR0 hR  h
def qX12_isStone (x1 : Int32) (u0 : St) (post : Int32 → St → Prop) : Prop := ((x1 < 0 → qX12_isStone_b18 post u0) ∧ (¬ x1 < 0 → (((ga u0 0 ((0 : Int32)).toNatClampNeg) ≤ x1 → qX12_isStone_b18 post u0) ∧ (¬ (ga u0 0 ((0 : Int32)).toNatClampNeg) ≤ x1 → qX12_isStone_b19 post (1 : Int32) u0))))
set_option maxRecDepth 100000 in
set_option maxHeartbeats 4000000 in
theorem kX12_isStone {C : Cx} {o0 : Nat} {a0 : Nat → Nat} (hC : Fx C cX12_isStone 2 RX12) (hR0 : xR C = rm 1) {post : Int32 → St → Prop} (hR : RZ C cX12_isStone 2 (fun u : St => (wX12 o0 a0 (xy C) u [])) (fun r u => post r u)) {x1 : Int32} {u0 : St} (h : qX12_isStone x1 u0 post) : G C 0 0 2 (wX12 o0 a0 (xy C) u0 []) 0 [(0, .ref o0), (1, .int x1)] [] := by
  refine g_iload_n (pc := 0) hC 1 dX12_isStone_0 rfl rfl ?_
  refine g_if_lt (pc := 1) (tgt := 18) hC dX12_isStone_1 (by decide) (fun c_1 => ?_) (fun c_1 => ?_)
  · have h := h.1 c_1
    refine g_sub (lv' := []) [] rfl ?_
    exact kX12_isStone_b18 hC hR0 hR  h
  · have h := h.2 c_1
    refine g_iload_n (pc := 4) hC 1 dX12_isStone_4 rfl rfl ?_
    refine g_aload_n (pc := 5) hC 0 dX12_isStone_5 rfl rfl ?_
    refine getX12_0 (pc := 6) hC (F := fun Z => Z) (X := []) (fun _ => rfl) fl_X12_7 dX12_isStone_6 ?_
    refine g_iconst (pc := 9) (v := 0) hC dX12_isStone_9 (by decide) ?_
    refine aldX12_0 (pc := 10) hC (F := fun Z => Z) (X := []) (fun _ => rfl) (by unfold vp_in; decide) dX12_isStone_10 ?_
    refine g_icmp_ge (pc := 11) (tgt := 18) hC dX12_isStone_11 (by decide) (fun c_2 => ?_) (fun c_2 => ?_)
    · have h := h.1 c_2
      refine g_sub (lv' := []) [] rfl ?_
      exact kX12_isStone_b18 hC hR0 hR  h
    · have h := h.2 c_2
      refine g_iconst (pc := 14) (v := 1) hC dX12_isStone_14 (by decide) ?_
      refine g_goto (pc := 15) (tgt := 19) hC dX12_isStone_15 (by decide) ?_
      refine g_sub (lv' := []) [] rfl ?_
      exact kX12_isStone_b19 hC hR0 hR  h
theorem ctX12_isStone {l : Launch} {D : va_G} {cy : Nat → ClassId} {kd : Nat → Nat} {o0 : Nat} {a0 : Nat → Nat} {x1 : Int32} {u0 : St} {post : Int32 → St → Prop} (h : qX12_isStone x1 u0 post) : CtI l D cy kd yX12_isStone cX12_isStone 2 1 .boolean [.ref o0, .int x1] (fun u : St => (wX12 o0 a0 cy u [])) u0 (fun r u => post r u) := met_z (by decide) (Nat.le_of_ble_eq_true rfl) (fun C e1 e2 e3 e4 e5 hC hR => by subst e1 e2 e3 e4; exact kX12_isStone hC e5 hR h)
theorem dX12_isPerson_0 : decode cX12_isPerson 0 = .ok (.iload_n 1, 1) := by decide +kernel
theorem dX12_isPerson_1 : decode cX12_isPerson 1 = .ok (.ifCond .lt 17, 3) := by decide +kernel
theorem dX12_isPerson_4 : decode cX12_isPerson 4 = .ok (.iload_n 1, 1) := by decide +kernel
theorem dX12_isPerson_5 : decode cX12_isPerson 5 = .ok (.aload_n 0, 1) := by decide +kernel
theorem dX12_isPerson_6 : decode cX12_isPerson 6 = .ok (.getfield 7, 3) := by decide +kernel
theorem dX12_isPerson_9 : decode cX12_isPerson 9 = .ok (.iconst 1, 1) := by decide +kernel
theorem dX12_isPerson_10 : decode cX12_isPerson 10 = .ok (.iaload, 1) := by decide +kernel
theorem dX12_isPerson_11 : decode cX12_isPerson 11 = .ok (.if_icmp .ge 7, 3) := by decide +kernel
theorem dX12_isPerson_14 : decode cX12_isPerson 14 = .ok (.iconst 1, 1) := by decide +kernel
theorem dX12_isPerson_15 : decode cX12_isPerson 15 = .ok (.goto 4, 3) := by decide +kernel
theorem dX12_isPerson_18 : decode cX12_isPerson 18 = .ok (.iconst 0, 1) := by decide +kernel
theorem dX12_isPerson_19 : decode cX12_isPerson 19 = .ok (.ireturn, 1) := by decide +kernel
def qX12_isPerson_b19  (post : Int32 → St → Prop)  (s0 : Int32) (u0 : St) : Prop := (bz s0 ∧ post s0 u0)
set_option maxRecDepth 100000 in
set_option maxHeartbeats 4000000 in
theorem kX12_isPerson_b19 {C : Cx} {o0 : Nat} {a0 : Nat → Nat} (hC : Fx C cX12_isPerson 2 RX12) (hR0 : xR C = rm 1) {post : Int32 → St → Prop} (hR : RZ C cX12_isPerson 2 (fun u : St => (wX12 o0 a0 (xy C) u [])) (fun r u => post r u))  {s0 : Int32} {u0 : St} (h : qX12_isPerson_b19 post s0 u0) : G C 0 0 2 (wX12 o0 a0 (xy C) u0 []) 19 [] [.int s0] := by
  exact hR _ _ _ u0 dX12_isPerson_19 h.1 h.2
def qX12_isPerson_b18  (post : Int32 → St → Prop)  (u0 : St) : Prop := qX12_isPerson_b19 post (0 : Int32) u0
set_option maxRecDepth 100000 in
set_option maxHeartbeats 4000000 in
theorem kX12_isPerson_b18 {C : Cx} {o0 : Nat} {a0 : Nat → Nat} (hC : Fx C cX12_isPerson 2 RX12) (hR0 : xR C = rm 1) {post : Int32 → St → Prop} (hR : RZ C cX12_isPerson 2 (fun u : St => (wX12 o0 a0 (xy C) u [])) (fun r u => post r u))  {u0 : St} (h : qX12_isPerson_b18 post u0) : G C 0 0 2 (wX12 o0 a0 (xy C) u0 []) 18 [] [] := by
  refine g_iconst (pc := 18) (v := 0) hC dX12_isPerson_18 (by decide) ?_
  exact kX12_isPerson_b19 hC hR0 hR  h
def qX12_isPerson (x1 : Int32) (u0 : St) (post : Int32 → St → Prop) : Prop := ((x1 < 0 → qX12_isPerson_b18 post u0) ∧ (¬ x1 < 0 → (((ga u0 0 ((1 : Int32)).toNatClampNeg) ≤ x1 → qX12_isPerson_b18 post u0) ∧ (¬ (ga u0 0 ((1 : Int32)).toNatClampNeg) ≤ x1 → qX12_isPerson_b19 post (1 : Int32) u0))))
set_option maxRecDepth 100000 in
set_option maxHeartbeats 4000000 in
theorem kX12_isPerson {C : Cx} {o0 : Nat} {a0 : Nat → Nat} (hC : Fx C cX12_isPerson 2 RX12) (hR0 : xR C = rm 1) {post : Int32 → St → Prop} (hR : RZ C cX12_isPerson 2 (fun u : St => (wX12 o0 a0 (xy C) u [])) (fun r u => post r u)) {x1 : Int32} {u0 : St} (h : qX12_isPerson x1 u0 post) : G C 0 0 2 (wX12 o0 a0 (xy C) u0 []) 0 [(0, .ref o0), (1, .int x1)] [] := by
  refine g_iload_n (pc := 0) hC 1 dX12_isPerson_0 rfl rfl ?_
  refine g_if_lt (pc := 1) (tgt := 18) hC dX12_isPerson_1 (by decide) (fun c_1 => ?_) (fun c_1 => ?_)
  · have h := h.1 c_1
    refine g_sub (lv' := []) [] rfl ?_
    exact kX12_isPerson_b18 hC hR0 hR  h
  · have h := h.2 c_1
    refine g_iload_n (pc := 4) hC 1 dX12_isPerson_4 rfl rfl ?_
    refine g_aload_n (pc := 5) hC 0 dX12_isPerson_5 rfl rfl ?_
    refine getX12_0 (pc := 6) hC (F := fun Z => Z) (X := []) (fun _ => rfl) fl_X12_7 dX12_isPerson_6 ?_
    refine g_iconst (pc := 9) (v := 1) hC dX12_isPerson_9 (by decide) ?_
    refine aldX12_0 (pc := 10) hC (F := fun Z => Z) (X := []) (fun _ => rfl) (by unfold vp_in; decide) dX12_isPerson_10 ?_
    refine g_icmp_ge (pc := 11) (tgt := 18) hC dX12_isPerson_11 (by decide) (fun c_2 => ?_) (fun c_2 => ?_)
    · have h := h.1 c_2
      refine g_sub (lv' := []) [] rfl ?_
      exact kX12_isPerson_b18 hC hR0 hR  h
    · have h := h.2 c_2
      refine g_iconst (pc := 14) (v := 1) hC dX12_isPerson_14 (by decide) ?_
      refine g_goto (pc := 15) (tgt := 19) hC dX12_isPerson_15 (by decide) ?_
      refine g_sub (lv' := []) [] rfl ?_
      exact kX12_isPerson_b19 hC hR0 hR  h
theorem ctX12_isPerson {l : Launch} {D : va_G} {cy : Nat → ClassId} {kd : Nat → Nat} {o0 : Nat} {a0 : Nat → Nat} {x1 : Int32} {u0 : St} {post : Int32 → St → Prop} (h : qX12_isPerson x1 u0 post) : CtI l D cy kd yX12_isPerson cX12_isPerson 2 1 .boolean [.ref o0, .int x1] (fun u : St => (wX12 o0 a0 cy u [])) u0 (fun r u => post r u) := met_z (by decide) (Nat.le_of_ble_eq_true rfl) (fun C e1 e2 e3 e4 e5 hC hR => by subst e1 e2 e3 e4; exact kX12_isPerson hC e5 hR h)
theorem dX12_isDebt_0 : decode cX12_isDebt 0 = .ok (.iload_n 1, 1) := by decide +kernel
theorem dX12_isDebt_1 : decode cX12_isDebt 1 = .ok (.ifCond .lt 17, 3) := by decide +kernel
theorem dX12_isDebt_4 : decode cX12_isDebt 4 = .ok (.iload_n 1, 1) := by decide +kernel
theorem dX12_isDebt_5 : decode cX12_isDebt 5 = .ok (.aload_n 0, 1) := by decide +kernel
theorem dX12_isDebt_6 : decode cX12_isDebt 6 = .ok (.getfield 7, 3) := by decide +kernel
theorem dX12_isDebt_9 : decode cX12_isDebt 9 = .ok (.iconst 2, 1) := by decide +kernel
theorem dX12_isDebt_10 : decode cX12_isDebt 10 = .ok (.iaload, 1) := by decide +kernel
theorem dX12_isDebt_11 : decode cX12_isDebt 11 = .ok (.if_icmp .ge 7, 3) := by decide +kernel
theorem dX12_isDebt_14 : decode cX12_isDebt 14 = .ok (.iconst 1, 1) := by decide +kernel
theorem dX12_isDebt_15 : decode cX12_isDebt 15 = .ok (.goto 4, 3) := by decide +kernel
theorem dX12_isDebt_18 : decode cX12_isDebt 18 = .ok (.iconst 0, 1) := by decide +kernel
theorem dX12_isDebt_19 : decode cX12_isDebt 19 = .ok (.ireturn, 1) := by decide +kernel
def qX12_isDebt_b19  (post : Int32 → St → Prop)  (s0 : Int32) (u0 : St) : Prop := (bz s0 ∧ post s0 u0)
set_option maxRecDepth 100000 in
set_option maxHeartbeats 4000000 in
theorem kX12_isDebt_b19 {C : Cx} {o0 : Nat} {a0 : Nat → Nat} (hC : Fx C cX12_isDebt 2 RX12) (hR0 : xR C = rm 1) {post : Int32 → St → Prop} (hR : RZ C cX12_isDebt 2 (fun u : St => (wX12 o0 a0 (xy C) u [])) (fun r u => post r u))  {s0 : Int32} {u0 : St} (h : qX12_isDebt_b19 post s0 u0) : G C 0 0 2 (wX12 o0 a0 (xy C) u0 []) 19 [] [.int s0] := by
  exact hR _ _ _ u0 dX12_isDebt_19 h.1 h.2
def qX12_isDebt_b18  (post : Int32 → St → Prop)  (u0 : St) : Prop := qX12_isDebt_b19 post (0 : Int32) u0
set_option maxRecDepth 100000 in
set_option maxHeartbeats 4000000 in
theorem kX12_isDebt_b18 {C : Cx} {o0 : Nat} {a0 : Nat → Nat} (hC : Fx C cX12_isDebt 2 RX12) (hR0 : xR C = rm 1) {post : Int32 → St → Prop} (hR : RZ C cX12_isDebt 2 (fun u : St => (wX12 o0 a0 (xy C) u [])) (fun r u => post r u))  {u0 : St} (h : qX12_isDebt_b18 post u0) : G C 0 0 2 (wX12 o0 a0 (xy C) u0 []) 18 [] [] := by
  refine g_iconst (pc := 18) (v := 0) hC dX12_isDebt_18 (by decide) ?_
  exact kX12_isDebt_b19 hC hR0 hR  h
def qX12_isDebt (x1 : Int32) (u0 : St) (post : Int32 → St → Prop) : Prop := ((x1 < 0 → qX12_isDebt_b18 post u0) ∧ (¬ x1 < 0 → (((ga u0 0 ((2 : Int32)).toNatClampNeg) ≤ x1 → qX12_isDebt_b18 post u0) ∧ (¬ (ga u0 0 ((2 : Int32)).toNatClampNeg) ≤ x1 → qX12_isDebt_b19 post (1 : Int32) u0))))
set_option maxRecDepth 100000 in
set_option maxHeartbeats 4000000 in
theorem kX12_isDebt {C : Cx} {o0 : Nat} {a0 : Nat → Nat} (hC : Fx C cX12_isDebt 2 RX12) (hR0 : xR C = rm 1) {post : Int32 → St → Prop} (hR : RZ C cX12_isDebt 2 (fun u : St => (wX12 o0 a0 (xy C) u [])) (fun r u => post r u)) {x1 : Int32} {u0 : St} (h : qX12_isDebt x1 u0 post) : G C 0 0 2 (wX12 o0 a0 (xy C) u0 []) 0 [(0, .ref o0), (1, .int x1)] [] := by
  refine g_iload_n (pc := 0) hC 1 dX12_isDebt_0 rfl rfl ?_
  refine g_if_lt (pc := 1) (tgt := 18) hC dX12_isDebt_1 (by decide) (fun c_1 => ?_) (fun c_1 => ?_)
  · have h := h.1 c_1
    refine g_sub (lv' := []) [] rfl ?_
    exact kX12_isDebt_b18 hC hR0 hR  h
  · have h := h.2 c_1
    refine g_iload_n (pc := 4) hC 1 dX12_isDebt_4 rfl rfl ?_
    refine g_aload_n (pc := 5) hC 0 dX12_isDebt_5 rfl rfl ?_
    refine getX12_0 (pc := 6) hC (F := fun Z => Z) (X := []) (fun _ => rfl) fl_X12_7 dX12_isDebt_6 ?_
    refine g_iconst (pc := 9) (v := 2) hC dX12_isDebt_9 (by decide) ?_
    refine aldX12_0 (pc := 10) hC (F := fun Z => Z) (X := []) (fun _ => rfl) (by unfold vp_in; decide) dX12_isDebt_10 ?_
    refine g_icmp_ge (pc := 11) (tgt := 18) hC dX12_isDebt_11 (by decide) (fun c_2 => ?_) (fun c_2 => ?_)
    · have h := h.1 c_2
      refine g_sub (lv' := []) [] rfl ?_
      exact kX12_isDebt_b18 hC hR0 hR  h
    · have h := h.2 c_2
      refine g_iconst (pc := 14) (v := 1) hC dX12_isDebt_14 (by decide) ?_
      refine g_goto (pc := 15) (tgt := 19) hC dX12_isDebt_15 (by decide) ?_
      refine g_sub (lv' := []) [] rfl ?_
      exact kX12_isDebt_b19 hC hR0 hR  h
theorem ctX12_isDebt {l : Launch} {D : va_G} {cy : Nat → ClassId} {kd : Nat → Nat} {o0 : Nat} {a0 : Nat → Nat} {x1 : Int32} {u0 : St} {post : Int32 → St → Prop} (h : qX12_isDebt x1 u0 post) : CtI l D cy kd yX12_isDebt cX12_isDebt 2 1 .boolean [.ref o0, .int x1] (fun u : St => (wX12 o0 a0 cy u [])) u0 (fun r u => post r u) := met_z (by decide) (Nat.le_of_ble_eq_true rfl) (fun C e1 e2 e3 e4 e5 hC hR => by subst e1 e2 e3 e4; exact kX12_isDebt hC e5 hR h)
theorem dX12_owedOf_0 : decode cX12_owedOf 0 = .ok (.aload_n 0, 1) := by decide +kernel
theorem dX12_owedOf_1 : decode cX12_owedOf 1 = .ok (.iload_n 1, 1) := by decide +kernel
theorem dX12_owedOf_2 : decode cX12_owedOf 2 = .ok (.invokevirtual 261, 3) := by decide +kernel
theorem dX12_owedOf_5 : decode cX12_owedOf 5 = .ok (.ifCond .eq 7, 3) := by decide +kernel
theorem dX12_owedOf_8 : decode cX12_owedOf 8 = .ok (.iconst 0, 1) := by decide +kernel
theorem dX12_owedOf_9 : decode cX12_owedOf 9 = .ok (.goto 17, 3) := by decide +kernel
theorem dX12_owedOf_12 : decode cX12_owedOf 12 = .ok (.aload_n 0, 1) := by decide +kernel
theorem dX12_owedOf_13 : decode cX12_owedOf 13 = .ok (.iload_n 1, 1) := by decide +kernel
theorem dX12_owedOf_14 : decode cX12_owedOf 14 = .ok (.iconst 2, 1) := by decide +kernel
theorem dX12_owedOf_15 : decode cX12_owedOf 15 = .ok (.invokevirtual 264, 3) := by decide +kernel
theorem dX12_owedOf_18 : decode cX12_owedOf 18 = .ok (.aload_n 0, 1) := by decide +kernel
theorem dX12_owedOf_19 : decode cX12_owedOf 19 = .ok (.iload_n 1, 1) := by decide +kernel
theorem dX12_owedOf_20 : decode cX12_owedOf 20 = .ok (.bipush 6, 2) := by decide +kernel
theorem dX12_owedOf_22 : decode cX12_owedOf 22 = .ok (.invokevirtual 264, 3) := by decide +kernel
theorem dX12_owedOf_25 : decode cX12_owedOf 25 = .ok (.iadd, 1) := by decide +kernel
theorem dX12_owedOf_26 : decode cX12_owedOf 26 = .ok (.ireturn, 1) := by decide +kernel
def qX12_owedOf_b26  (post : Int32 → St → Prop)  (s0 : Int32) (u0 : St) : Prop := post s0 u0
set_option maxRecDepth 100000 in
set_option maxHeartbeats 4000000 in
theorem kX12_owedOf_b26 {C : Cx} {o0 : Nat} {a0 : Nat → Nat} (hC : Fx C cX12_owedOf 2 RX12) (hR0 : xR C = rm 3) {post : Int32 → St → Prop} (hR : RI C cX12_owedOf 2 (fun u : St => (wX12 o0 a0 (xy C) u [])) (fun r u => post r u))  {s0 : Int32} {u0 : St} (h : qX12_owedOf_b26 post s0 u0) : G C 0 0 2 (wX12 o0 a0 (xy C) u0 []) 26 [] [.int s0] := by
  exact hR _ _ _ u0 dX12_owedOf_26 h
def qX12_owedOf (x1 : Int32) (u0 : St) (post : Int32 → St → Prop) : Prop := qX12_isPaidUp x1 u0 (fun r_11 u_10 => ((r_11 = 0 → qX12_debtOf x1 (2 : Int32) u_10 (fun r_15 u_14 => qX12_debtOf x1 (6 : Int32) u_14 (fun r_18 u_17 => qX12_owedOf_b26 post (r_15 + r_18) u_17))) ∧ (¬ r_11 = 0 → qX12_owedOf_b26 post (0 : Int32) u_10)))
set_option maxRecDepth 100000 in
set_option maxHeartbeats 4000000 in
theorem kX12_owedOf {C : Cx} {o0 : Nat} {a0 : Nat → Nat} (hC : Fx C cX12_owedOf 2 RX12) (hR0 : xR C = rm 3) {post : Int32 → St → Prop} (hR : RI C cX12_owedOf 2 (fun u : St => (wX12 o0 a0 (xy C) u [])) (fun r u => post r u)) {x1 : Int32} {u0 : St} (h : qX12_owedOf x1 u0 post) : G C 0 0 2 (wX12 o0 a0 (xy C) u0 []) 0 [(0, .ref o0), (1, .int x1)] [] := by
  refine g_aload_n (pc := 0) hC 0 dX12_owedOf_0 rfl rfl ?_
  refine g_iload_n (pc := 1) hC 1 dX12_owedOf_1 rfl rfl ?_
  refine g_callV_i (pc := 2) (wd := fun (u : St) Y => (wX12 o0 a0 (xy C) u Y)) (F := fun Z => Z) (X := []) (As := [.int x1]) (rest := []) (u := u0) hC (fun _ _ => rfl) (fun _ => rfl) (ctX12_isPaidUp h) wvX12_isPaidUp ml_X12_261 (ci := 10) (q0 := 0) rfl rfl rfl rfl (rmok hR0 rfl) ⟨Nat.zero_le _, Nat.zero_le _⟩ rfl (Nat.le_of_ble_eq_true rfl) dX12_owedOf_2 (fun r_11 u_10 h => ?_)
  refine g_if_eq (pc := 5) (tgt := 12) hC dX12_owedOf_5 (by decide) (fun c_13 => ?_) (fun c_13 => ?_)
  · have h := h.1 c_13
    refine g_aload_n (pc := 12) hC 0 dX12_owedOf_12 rfl rfl ?_
    refine g_iload_n (pc := 13) hC 1 dX12_owedOf_13 rfl rfl ?_
    refine g_iconst (pc := 14) (v := 2) hC dX12_owedOf_14 (by decide) ?_
    refine g_callV_i (pc := 15) (wd := fun (u : St) Y => (wX12 o0 a0 (xy C) u Y)) (F := fun Z => Z) (X := []) (As := [.int x1, .int (2 : Int32)]) (rest := []) (u := u_10) hC (fun _ _ => rfl) (fun _ => rfl) (ctX12_debtOf h) wvX12_debtOf ml_X12_264 (ci := 10) (q0 := 0) rfl rfl rfl rfl (rmok hR0 rfl) ⟨Nat.zero_le _, Nat.zero_le _⟩ rfl (Nat.le_of_ble_eq_true rfl) dX12_owedOf_15 (fun r_15 u_14 h => ?_)
    refine g_aload_n (pc := 18) hC 0 dX12_owedOf_18 rfl rfl ?_
    refine g_iload_n (pc := 19) hC 1 dX12_owedOf_19 rfl rfl ?_
    refine g_bipush (pc := 20) (v := 6) hC dX12_owedOf_20 (by decide) ?_
    refine g_callV_i (pc := 22) (wd := fun (u : St) Y => (wX12 o0 a0 (xy C) u Y)) (F := fun Z => Z) (X := []) (As := [.int x1, .int (6 : Int32)]) (rest := [.int r_15]) (u := u_14) hC (fun _ _ => rfl) (fun _ => rfl) (ctX12_debtOf h) wvX12_debtOf ml_X12_264 (ci := 10) (q0 := 0) rfl rfl rfl rfl (rmok hR0 rfl) ⟨Nat.zero_le _, Nat.zero_le _⟩ rfl (Nat.le_of_ble_eq_true rfl) dX12_owedOf_22 (fun r_18 u_17 h => ?_)
    refine g_iadd (pc := 25) hC dX12_owedOf_25 ?_
    refine g_sub (lv' := []) [] rfl ?_
    exact kX12_owedOf_b26 hC hR0 hR  h
  · have h := h.2 c_13
    refine g_iconst (pc := 8) (v := 0) hC dX12_owedOf_8 (by decide) ?_
    refine g_goto (pc := 9) (tgt := 26) hC dX12_owedOf_9 (by decide) ?_
    refine g_sub (lv' := []) [] rfl ?_
    exact kX12_owedOf_b26 hC hR0 hR  h
theorem ctX12_owedOf {l : Launch} {D : va_G} {cy : Nat → ClassId} {kd : Nat → Nat} {o0 : Nat} {a0 : Nat → Nat} {x1 : Int32} {u0 : St} {post : Int32 → St → Prop} (h : qX12_owedOf x1 u0 post) : CtI l D cy kd yX12_owedOf cX12_owedOf 2 3 .int [.ref o0, .int x1] (fun u : St => (wX12 o0 a0 cy u [])) u0 (fun r u => post r u) := met_i (by decide) (Nat.le_of_ble_eq_true rfl) (fun C e1 e2 e3 e4 e5 hC hR => by subst e1 e2 e3 e4; exact kX12_owedOf hC e5 hR h)
theorem dX12_allDebts_0 : decode cX12_allDebts 0 = .ok (.iconst 1, 1) := by decide +kernel
theorem dX12_allDebts_1 : decode cX12_allDebts 1 = .ok (.aload_n 0, 1) := by decide +kernel
theorem dX12_allDebts_2 : decode cX12_allDebts 2 = .ok (.getfield 7, 3) := by decide +kernel
theorem dX12_allDebts_5 : decode cX12_allDebts 5 = .ok (.iconst 2, 1) := by decide +kernel
theorem dX12_allDebts_6 : decode cX12_allDebts 6 = .ok (.iaload, 1) := by decide +kernel
theorem dX12_allDebts_7 : decode cX12_allDebts 7 = .ok (.ishl, 1) := by decide +kernel
theorem dX12_allDebts_8 : decode cX12_allDebts 8 = .ok (.iconst 1, 1) := by decide +kernel
theorem dX12_allDebts_9 : decode cX12_allDebts 9 = .ok (.isub, 1) := by decide +kernel
theorem dX12_allDebts_10 : decode cX12_allDebts 10 = .ok (.ireturn, 1) := by decide +kernel
def qX12_allDebts  (u0 : St) (post : Int32 → St → Prop) : Prop := post (((1 : Int32) <<< ((ga u0 0 ((2 : Int32)).toNatClampNeg) &&& 31)) - (1 : Int32)) u0
set_option maxRecDepth 100000 in
set_option maxHeartbeats 4000000 in
theorem kX12_allDebts {C : Cx} {o0 : Nat} {a0 : Nat → Nat} (hC : Fx C cX12_allDebts 1 RX12) (hR0 : xR C = rm 1) {post : Int32 → St → Prop} (hR : RI C cX12_allDebts 1 (fun u : St => (wX12 o0 a0 (xy C) u [])) (fun r u => post r u))  {u0 : St} (h : qX12_allDebts  u0 post) : G C 0 0 1 (wX12 o0 a0 (xy C) u0 []) 0 [(0, .ref o0)] [] := by
  refine g_iconst (pc := 0) (v := 1) hC dX12_allDebts_0 (by decide) ?_
  refine g_aload_n (pc := 1) hC 0 dX12_allDebts_1 rfl rfl ?_
  refine getX12_0 (pc := 2) hC (F := fun Z => Z) (X := []) (fun _ => rfl) fl_X12_7 dX12_allDebts_2 ?_
  refine g_iconst (pc := 5) (v := 2) hC dX12_allDebts_5 (by decide) ?_
  refine aldX12_0 (pc := 6) hC (F := fun Z => Z) (X := []) (fun _ => rfl) (by unfold vp_in; decide) dX12_allDebts_6 ?_
  refine g_ishl (pc := 7) hC dX12_allDebts_7 ?_
  refine g_iconst (pc := 8) (v := 1) hC dX12_allDebts_8 (by decide) ?_
  refine g_isub (pc := 9) hC dX12_allDebts_9 ?_
  exact hR _ _ _ u0 dX12_allDebts_10 h
theorem ctX12_allDebts {l : Launch} {D : va_G} {cy : Nat → ClassId} {kd : Nat → Nat} {o0 : Nat} {a0 : Nat → Nat}  {u0 : St} {post : Int32 → St → Prop} (h : qX12_allDebts  u0 post) : CtI l D cy kd yX12_allDebts cX12_allDebts 1 1 .int [.ref o0] (fun u : St => (wX12 o0 a0 cy u [])) u0 (fun r u => post r u) := met_i (by decide) (Nat.le_of_ble_eq_true rfl) (fun C e1 e2 e3 e4 e5 hC hR => by subst e1 e2 e3 e4; exact kX12_allDebts hC e5 hR h)
theorem dX12_openDebts_0 : decode cX12_openDebts 0 = .ok (.aload_n 0, 1) := by decide +kernel
theorem dX12_openDebts_1 : decode cX12_openDebts 1 = .ok (.invokevirtual 267, 3) := by decide +kernel
theorem dX12_openDebts_4 : decode cX12_openDebts 4 = .ok (.aload_n 0, 1) := by decide +kernel
theorem dX12_openDebts_5 : decode cX12_openDebts 5 = .ok (.getfield 7, 3) := by decide +kernel
theorem dX12_openDebts_8 : decode cX12_openDebts 8 = .ok (.bipush 6, 2) := by decide +kernel
theorem dX12_openDebts_10 : decode cX12_openDebts 10 = .ok (.iaload, 1) := by decide +kernel
theorem dX12_openDebts_11 : decode cX12_openDebts 11 = .ok (.iconst (-1), 1) := by decide +kernel
theorem dX12_openDebts_12 : decode cX12_openDebts 12 = .ok (.ixor, 1) := by decide +kernel
theorem dX12_openDebts_13 : decode cX12_openDebts 13 = .ok (.iand, 1) := by decide +kernel
theorem dX12_openDebts_14 : decode cX12_openDebts 14 = .ok (.ireturn, 1) := by decide +kernel
def qX12_openDebts  (u0 : St) (post : Int32 → St → Prop) : Prop := qX12_allDebts u0 (fun r_5 u_4 => post (r_5 &&& ((ga u_4 0 ((6 : Int32)).toNatClampNeg) ^^^ (-1 : Int32))) u_4)
set_option maxRecDepth 100000 in
set_option maxHeartbeats 4000000 in
theorem kX12_openDebts {C : Cx} {o0 : Nat} {a0 : Nat → Nat} (hC : Fx C cX12_openDebts 1 RX12) (hR0 : xR C = rm 2) {post : Int32 → St → Prop} (hR : RI C cX12_openDebts 1 (fun u : St => (wX12 o0 a0 (xy C) u [])) (fun r u => post r u))  {u0 : St} (h : qX12_openDebts  u0 post) : G C 0 0 1 (wX12 o0 a0 (xy C) u0 []) 0 [(0, .ref o0)] [] := by
  refine g_aload_n (pc := 0) hC 0 dX12_openDebts_0 rfl rfl ?_
  refine g_callV_i (pc := 1) (wd := fun (u : St) Y => (wX12 o0 a0 (xy C) u Y)) (F := fun Z => Z) (X := []) (As := []) (rest := []) (u := u0) hC (fun _ _ => rfl) (fun _ => rfl) (ctX12_allDebts h) wvX12_allDebts ml_X12_267 (ci := 10) (q0 := 0) rfl rfl rfl rfl (rmok hR0 rfl) ⟨Nat.zero_le _, Nat.zero_le _⟩ rfl (Nat.le_of_ble_eq_true rfl) dX12_openDebts_1 (fun r_5 u_4 h => ?_)
  refine g_aload_n (pc := 4) hC 0 dX12_openDebts_4 rfl rfl ?_
  refine getX12_0 (pc := 5) hC (F := fun Z => Z) (X := []) (fun _ => rfl) fl_X12_7 dX12_openDebts_5 ?_
  refine g_bipush (pc := 8) (v := 6) hC dX12_openDebts_8 (by decide) ?_
  refine aldX12_0 (pc := 10) hC (F := fun Z => Z) (X := []) (fun _ => rfl) (by unfold vp_in; decide) dX12_openDebts_10 ?_
  refine g_iconst (pc := 11) (v := -1) hC dX12_openDebts_11 (by decide) ?_
  refine g_ixor (pc := 12) hC dX12_openDebts_12 ?_
  refine g_iand (pc := 13) hC dX12_openDebts_13 ?_
  exact hR _ _ _ u_4 dX12_openDebts_14 h
theorem ctX12_openDebts {l : Launch} {D : va_G} {cy : Nat → ClassId} {kd : Nat → Nat} {o0 : Nat} {a0 : Nat → Nat}  {u0 : St} {post : Int32 → St → Prop} (h : qX12_openDebts  u0 post) : CtI l D cy kd yX12_openDebts cX12_openDebts 1 2 .int [.ref o0] (fun u : St => (wX12 o0 a0 cy u [])) u0 (fun r u => post r u) := met_i (by decide) (Nat.le_of_ble_eq_true rfl) (fun C e1 e2 e3 e4 e5 hC hR => by subst e1 e2 e3 e4; exact kX12_openDebts hC e5 hR h)
theorem dX12_allOwed_0 : decode cX12_allOwed 0 = .ok (.iconst 0, 1) := by decide +kernel
theorem dX12_allOwed_1 : decode cX12_allOwed 1 = .ok (.istore_n 1, 1) := by decide +kernel
theorem dX12_allOwed_2 : decode cX12_allOwed 2 = .ok (.iconst 0, 1) := by decide +kernel
theorem dX12_allOwed_3 : decode cX12_allOwed 3 = .ok (.istore_n 2, 1) := by decide +kernel
theorem dX12_allOwed_4 : decode cX12_allOwed 4 = .ok (.iload_n 2, 1) := by decide +kernel
theorem dX12_allOwed_5 : decode cX12_allOwed 5 = .ok (.aload_n 0, 1) := by decide +kernel
theorem dX12_allOwed_6 : decode cX12_allOwed 6 = .ok (.getfield 7, 3) := by decide +kernel
theorem dX12_allOwed_9 : decode cX12_allOwed 9 = .ok (.iconst 2, 1) := by decide +kernel
theorem dX12_allOwed_10 : decode cX12_allOwed 10 = .ok (.iaload, 1) := by decide +kernel
theorem dX12_allOwed_11 : decode cX12_allOwed 11 = .ok (.if_icmp .ge 17, 3) := by decide +kernel
theorem dX12_allOwed_14 : decode cX12_allOwed 14 = .ok (.iload_n 1, 1) := by decide +kernel
theorem dX12_allOwed_15 : decode cX12_allOwed 15 = .ok (.aload_n 0, 1) := by decide +kernel
theorem dX12_allOwed_16 : decode cX12_allOwed 16 = .ok (.iload_n 2, 1) := by decide +kernel
theorem dX12_allOwed_17 : decode cX12_allOwed 17 = .ok (.invokevirtual 282, 3) := by decide +kernel
theorem dX12_allOwed_20 : decode cX12_allOwed 20 = .ok (.iadd, 1) := by decide +kernel
theorem dX12_allOwed_21 : decode cX12_allOwed 21 = .ok (.istore_n 1, 1) := by decide +kernel
theorem dX12_allOwed_22 : decode cX12_allOwed 22 = .ok (.iinc 2 1, 3) := by decide +kernel
theorem dX12_allOwed_25 : decode cX12_allOwed 25 = .ok (.goto (-21), 3) := by decide +kernel
theorem dX12_allOwed_28 : decode cX12_allOwed 28 = .ok (.iload_n 1, 1) := by decide +kernel
theorem dX12_allOwed_29 : decode cX12_allOwed 29 = .ok (.ireturn, 1) := by decide +kernel
def qX12_allOwed_l4  (post : Int32 → St → Prop) (K4 : Int32 → Int32 → St → Prop) (x1 : Int32) (x2 : Int32) (u0 : St) : Prop := (((ga u0 0 ((2 : Int32)).toNatClampNeg) ≤ x2 → post x1 u0) ∧ (¬ (ga u0 0 ((2 : Int32)).toNatClampNeg) ≤ x2 → qX12_owedOf x2 u0 (fun r_7 u_6 => ∀ x1_9 : Int32, x1_9 = (x1 + r_7) → ∀ x2_10 : Int32, x2_10 = x2 + (1 : Int32) → K4 x1_9 x2_10 u_6)))
set_option maxRecDepth 100000 in
set_option maxHeartbeats 4000000 in
theorem kX12_allOwed_l4 {C : Cx} {o0 : Nat} {a0 : Nat → Nat} (hC : Fx C cX12_allOwed 3 RX12) (hR0 : xR C = rm 4) {post : Int32 → St → Prop} (hR : RI C cX12_allOwed 3 (fun u : St => (wX12 o0 a0 (xy C) u [])) (fun r u => post r u))  {K4 : Int32 → Int32 → St → Prop} (hK4 : ∀ (x1 : Int32) (x2 : Int32) (u0 : St), K4 x1 x2 u0 → G C 0 0 3 (wX12 o0 a0 (xy C) u0 []) 4 [(0, .ref o0), (1, .int x1), (2, .int x2)] []) {x1 : Int32} {x2 : Int32} {u0 : St} (h : qX12_allOwed_l4 post K4 x1 x2 u0) : G C 0 0 3 (wX12 o0 a0 (xy C) u0 []) 4 [(0, .ref o0), (1, .int x1), (2, .int x2)] [] := by
  refine g_iload_n (pc := 4) hC 2 dX12_allOwed_4 rfl rfl ?_
  refine g_aload_n (pc := 5) hC 0 dX12_allOwed_5 rfl rfl ?_
  refine getX12_0 (pc := 6) hC (F := fun Z => Z) (X := []) (fun _ => rfl) fl_X12_7 dX12_allOwed_6 ?_
  refine g_iconst (pc := 9) (v := 2) hC dX12_allOwed_9 (by decide) ?_
  refine aldX12_0 (pc := 10) hC (F := fun Z => Z) (X := []) (fun _ => rfl) (by unfold vp_in; decide) dX12_allOwed_10 ?_
  refine g_icmp_ge (pc := 11) (tgt := 28) hC dX12_allOwed_11 (by decide) (fun c_5 => ?_) (fun c_5 => ?_)
  · have h := h.1 c_5
    refine g_iload_n (pc := 28) hC 1 dX12_allOwed_28 rfl rfl ?_
    exact hR _ _ _ u0 dX12_allOwed_29 h
  · have h := h.2 c_5
    refine g_iload_n (pc := 14) hC 1 dX12_allOwed_14 rfl rfl ?_
    refine g_aload_n (pc := 15) hC 0 dX12_allOwed_15 rfl rfl ?_
    refine g_iload_n (pc := 16) hC 2 dX12_allOwed_16 rfl rfl ?_
    refine g_callV_i (pc := 17) (wd := fun (u : St) Y => (wX12 o0 a0 (xy C) u Y)) (F := fun Z => Z) (X := []) (As := [.int x2]) (rest := [.int x1]) (u := u0) hC (fun _ _ => rfl) (fun _ => rfl) (ctX12_owedOf h) wvX12_owedOf ml_X12_282 (ci := 10) (q0 := 0) rfl rfl rfl rfl (rmok hR0 rfl) ⟨Nat.zero_le _, Nat.zero_le _⟩ rfl (Nat.le_of_ble_eq_true rfl) dX12_allOwed_17 (fun r_7 u_6 h => ?_)
    refine g_iadd (pc := 20) hC dX12_allOwed_20 ?_
    refine g_topi (fun x1_9 ex1_9 => ?_)
    have h := h x1_9 ex1_9
    refine g_istore_n (pc := 21) (lv' := [(1, .int x1_9), (0, .ref o0), (2, .int x2)]) hC dX12_allOwed_21 rfl (Nat.le_of_ble_eq_true rfl) rfl ?_
    obtain ⟨x2_10, ex2_10⟩ : ∃ z : Int32, z = x2 + (1 : Int32) := ⟨_, rfl⟩
    have h := h x2_10 ex2_10
    refine g_iinc (pc := 22) (v := x2_10) (lv' := [(2, .int x2_10), (1, .int x1_9), (0, .ref o0)]) hC 2 dX12_allOwed_22 rfl (by rw [ex2_10]; rfl) (Nat.le_of_ble_eq_true rfl) rfl ?_
    refine g_goto (pc := 25) (tgt := 4) hC dX12_allOwed_25 (by decide) ?_
    refine g_sub (lv' := [(0, .ref o0), (1, .int x1_9), (2, .int x2_10)]) [2, 1, 0] rfl ?_
    exact hK4 _ _ _ h
def qX12_allOwed_L4  (post : Int32 → St → Prop)  : Nat → Int32 → Int32 → St → Prop
  | 0 => fun _ _ _ => False
  | n + 1 => qX12_allOwed_l4 post (qX12_allOwed_L4 post n)
theorem kX12_allOwed_L4 {C : Cx} {o0 : Nat} {a0 : Nat → Nat} (hC : Fx C cX12_allOwed 3 RX12) (hR0 : xR C = rm 4) {post : Int32 → St → Prop} (hR : RI C cX12_allOwed 3 (fun u : St => (wX12 o0 a0 (xy C) u [])) (fun r u => post r u))  : ∀ (n : Nat) (x1 : Int32) (x2 : Int32) (u0 : St), qX12_allOwed_L4 post n x1 x2 u0 → G C 0 0 3 (wX12 o0 a0 (xy C) u0 []) 4 [(0, .ref o0), (1, .int x1), (2, .int x2)] [] := by
  intro n
  induction n with
  | zero => intro x1 x2 u0 h; exact h.elim
  | succ n ih => intro x1 x2 u0 h; exact kX12_allOwed_l4 hC hR0 hR  ih h
def qX12_allOwed  (u0 : St) (post : Int32 → St → Prop) : Prop := ∃ n_11 : Nat, qX12_allOwed_L4 post n_11 (0 : Int32) (0 : Int32) u0
set_option maxRecDepth 100000 in
set_option maxHeartbeats 4000000 in
theorem kX12_allOwed {C : Cx} {o0 : Nat} {a0 : Nat → Nat} (hC : Fx C cX12_allOwed 3 RX12) (hR0 : xR C = rm 4) {post : Int32 → St → Prop} (hR : RI C cX12_allOwed 3 (fun u : St => (wX12 o0 a0 (xy C) u [])) (fun r u => post r u))  {u0 : St} (h : qX12_allOwed  u0 post) : G C 0 0 3 (wX12 o0 a0 (xy C) u0 []) 0 [(0, .ref o0)] [] := by
  refine g_iconst (pc := 0) (v := 0) hC dX12_allOwed_0 (by decide) ?_
  refine g_istore_n (pc := 1) (lv' := [(1, .int (0 : Int32)), (0, .ref o0)]) hC dX12_allOwed_1 rfl (Nat.le_of_ble_eq_true rfl) rfl ?_
  refine g_iconst (pc := 2) (v := 0) hC dX12_allOwed_2 (by decide) ?_
  refine g_istore_n (pc := 3) (lv' := [(2, .int (0 : Int32)), (1, .int (0 : Int32)), (0, .ref o0)]) hC dX12_allOwed_3 rfl (Nat.le_of_ble_eq_true rfl) rfl ?_
  refine g_sub (lv' := [(0, .ref o0), (1, .int (0 : Int32)), (2, .int (0 : Int32))]) [2, 1, 0] rfl ?_
  obtain ⟨n_11, h⟩ := h
  exact kX12_allOwed_L4 hC hR0 hR  n_11 _ _ _ h
theorem ctX12_allOwed {l : Launch} {D : va_G} {cy : Nat → ClassId} {kd : Nat → Nat} {o0 : Nat} {a0 : Nat → Nat}  {u0 : St} {post : Int32 → St → Prop} (h : qX12_allOwed  u0 post) : CtI l D cy kd yX12_allOwed cX12_allOwed 3 4 .int [.ref o0] (fun u : St => (wX12 o0 a0 cy u [])) u0 (fun r u => post r u) := met_i (by decide) (Nat.le_of_ble_eq_true rfl) (fun C e1 e2 e3 e4 e5 hC hR => by subst e1 e2 e3 e4; exact kX12_allOwed hC e5 hR h)
theorem dX12_allCash_0 : decode cX12_allCash 0 = .ok (.iconst 0, 1) := by decide +kernel
theorem dX12_allCash_1 : decode cX12_allCash 1 = .ok (.istore_n 1, 1) := by decide +kernel
theorem dX12_allCash_2 : decode cX12_allCash 2 = .ok (.iconst 0, 1) := by decide +kernel
theorem dX12_allCash_3 : decode cX12_allCash 3 = .ok (.istore_n 2, 1) := by decide +kernel
theorem dX12_allCash_4 : decode cX12_allCash 4 = .ok (.iload_n 2, 1) := by decide +kernel
theorem dX12_allCash_5 : decode cX12_allCash 5 = .ok (.aload_n 0, 1) := by decide +kernel
theorem dX12_allCash_6 : decode cX12_allCash 6 = .ok (.getfield 7, 3) := by decide +kernel
theorem dX12_allCash_9 : decode cX12_allCash 9 = .ok (.iconst 1, 1) := by decide +kernel
theorem dX12_allCash_10 : decode cX12_allCash 10 = .ok (.iaload, 1) := by decide +kernel
theorem dX12_allCash_11 : decode cX12_allCash 11 = .ok (.if_icmp .ge 21, 3) := by decide +kernel
theorem dX12_allCash_14 : decode cX12_allCash 14 = .ok (.iload_n 1, 1) := by decide +kernel
theorem dX12_allCash_15 : decode cX12_allCash 15 = .ok (.aload_n 0, 1) := by decide +kernel
theorem dX12_allCash_16 : decode cX12_allCash 16 = .ok (.getfield 7, 3) := by decide +kernel
theorem dX12_allCash_19 : decode cX12_allCash 19 = .ok (.bipush 34, 2) := by decide +kernel
theorem dX12_allCash_21 : decode cX12_allCash 21 = .ok (.iload_n 2, 1) := by decide +kernel
theorem dX12_allCash_22 : decode cX12_allCash 22 = .ok (.iadd, 1) := by decide +kernel
theorem dX12_allCash_23 : decode cX12_allCash 23 = .ok (.iaload, 1) := by decide +kernel
theorem dX12_allCash_24 : decode cX12_allCash 24 = .ok (.iadd, 1) := by decide +kernel
theorem dX12_allCash_25 : decode cX12_allCash 25 = .ok (.istore_n 1, 1) := by decide +kernel
theorem dX12_allCash_26 : decode cX12_allCash 26 = .ok (.iinc 2 1, 3) := by decide +kernel
theorem dX12_allCash_29 : decode cX12_allCash 29 = .ok (.goto (-25), 3) := by decide +kernel
theorem dX12_allCash_32 : decode cX12_allCash 32 = .ok (.iload_n 1, 1) := by decide +kernel
theorem dX12_allCash_33 : decode cX12_allCash 33 = .ok (.ireturn, 1) := by decide +kernel
def qX12_allCash_l4  (post : Int32 → St → Prop) (K4 : Int32 → Int32 → St → Prop) (x1 : Int32) (x2 : Int32) (u0 : St) : Prop := (((ga u0 0 ((1 : Int32)).toNatClampNeg) ≤ x2 → post x1 u0) ∧ (¬ (ga u0 0 ((1 : Int32)).toNatClampNeg) ≤ x2 → (vp_in ((34 : Int32) + x2) 3072 ∧ ∀ x1_3 : Int32, x1_3 = (x1 + (ga u0 0 (((34 : Int32) + x2)).toNatClampNeg)) → ∀ x2_4 : Int32, x2_4 = x2 + (1 : Int32) → K4 x1_3 x2_4 u0)))
set_option maxRecDepth 100000 in
set_option maxHeartbeats 4000000 in
theorem kX12_allCash_l4 {C : Cx} {o0 : Nat} {a0 : Nat → Nat} (hC : Fx C cX12_allCash 3 RX12) (hR0 : xR C = rm 1) {post : Int32 → St → Prop} (hR : RI C cX12_allCash 3 (fun u : St => (wX12 o0 a0 (xy C) u [])) (fun r u => post r u))  {K4 : Int32 → Int32 → St → Prop} (hK4 : ∀ (x1 : Int32) (x2 : Int32) (u0 : St), K4 x1 x2 u0 → G C 0 0 3 (wX12 o0 a0 (xy C) u0 []) 4 [(0, .ref o0), (1, .int x1), (2, .int x2)] []) {x1 : Int32} {x2 : Int32} {u0 : St} (h : qX12_allCash_l4 post K4 x1 x2 u0) : G C 0 0 3 (wX12 o0 a0 (xy C) u0 []) 4 [(0, .ref o0), (1, .int x1), (2, .int x2)] [] := by
  refine g_iload_n (pc := 4) hC 2 dX12_allCash_4 rfl rfl ?_
  refine g_aload_n (pc := 5) hC 0 dX12_allCash_5 rfl rfl ?_
  refine getX12_0 (pc := 6) hC (F := fun Z => Z) (X := []) (fun _ => rfl) fl_X12_7 dX12_allCash_6 ?_
  refine g_iconst (pc := 9) (v := 1) hC dX12_allCash_9 (by decide) ?_
  refine aldX12_0 (pc := 10) hC (F := fun Z => Z) (X := []) (fun _ => rfl) (by unfold vp_in; decide) dX12_allCash_10 ?_
  refine g_icmp_ge (pc := 11) (tgt := 32) hC dX12_allCash_11 (by decide) (fun c_2 => ?_) (fun c_2 => ?_)
  · have h := h.1 c_2
    refine g_iload_n (pc := 32) hC 1 dX12_allCash_32 rfl rfl ?_
    exact hR _ _ _ u0 dX12_allCash_33 h
  · have h := h.2 c_2
    refine g_iload_n (pc := 14) hC 1 dX12_allCash_14 rfl rfl ?_
    refine g_aload_n (pc := 15) hC 0 dX12_allCash_15 rfl rfl ?_
    refine getX12_0 (pc := 16) hC (F := fun Z => Z) (X := []) (fun _ => rfl) fl_X12_7 dX12_allCash_16 ?_
    refine g_bipush (pc := 19) (v := 34) hC dX12_allCash_19 (by decide) ?_
    refine g_iload_n (pc := 21) hC 2 dX12_allCash_21 rfl rfl ?_
    refine g_iadd (pc := 22) hC dX12_allCash_22 ?_
    refine aldX12_0 (pc := 23) hC (F := fun Z => Z) (X := []) (fun _ => rfl) h.1 dX12_allCash_23 ?_
    have h := h.2
    refine g_iadd (pc := 24) hC dX12_allCash_24 ?_
    refine g_topi (fun x1_3 ex1_3 => ?_)
    have h := h x1_3 ex1_3
    refine g_istore_n (pc := 25) (lv' := [(1, .int x1_3), (0, .ref o0), (2, .int x2)]) hC dX12_allCash_25 rfl (Nat.le_of_ble_eq_true rfl) rfl ?_
    obtain ⟨x2_4, ex2_4⟩ : ∃ z : Int32, z = x2 + (1 : Int32) := ⟨_, rfl⟩
    have h := h x2_4 ex2_4
    refine g_iinc (pc := 26) (v := x2_4) (lv' := [(2, .int x2_4), (1, .int x1_3), (0, .ref o0)]) hC 2 dX12_allCash_26 rfl (by rw [ex2_4]; rfl) (Nat.le_of_ble_eq_true rfl) rfl ?_
    refine g_goto (pc := 29) (tgt := 4) hC dX12_allCash_29 (by decide) ?_
    refine g_sub (lv' := [(0, .ref o0), (1, .int x1_3), (2, .int x2_4)]) [2, 1, 0] rfl ?_
    exact hK4 _ _ _ h
def qX12_allCash_L4  (post : Int32 → St → Prop)  : Nat → Int32 → Int32 → St → Prop
  | 0 => fun _ _ _ => False
  | n + 1 => qX12_allCash_l4 post (qX12_allCash_L4 post n)
theorem kX12_allCash_L4 {C : Cx} {o0 : Nat} {a0 : Nat → Nat} (hC : Fx C cX12_allCash 3 RX12) (hR0 : xR C = rm 1) {post : Int32 → St → Prop} (hR : RI C cX12_allCash 3 (fun u : St => (wX12 o0 a0 (xy C) u [])) (fun r u => post r u))  : ∀ (n : Nat) (x1 : Int32) (x2 : Int32) (u0 : St), qX12_allCash_L4 post n x1 x2 u0 → G C 0 0 3 (wX12 o0 a0 (xy C) u0 []) 4 [(0, .ref o0), (1, .int x1), (2, .int x2)] [] := by
  intro n
  induction n with
  | zero => intro x1 x2 u0 h; exact h.elim
  | succ n ih => intro x1 x2 u0 h; exact kX12_allCash_l4 hC hR0 hR  ih h
def qX12_allCash  (u0 : St) (post : Int32 → St → Prop) : Prop := ∃ n_5 : Nat, qX12_allCash_L4 post n_5 (0 : Int32) (0 : Int32) u0
set_option maxRecDepth 100000 in
set_option maxHeartbeats 4000000 in
theorem kX12_allCash {C : Cx} {o0 : Nat} {a0 : Nat → Nat} (hC : Fx C cX12_allCash 3 RX12) (hR0 : xR C = rm 1) {post : Int32 → St → Prop} (hR : RI C cX12_allCash 3 (fun u : St => (wX12 o0 a0 (xy C) u [])) (fun r u => post r u))  {u0 : St} (h : qX12_allCash  u0 post) : G C 0 0 3 (wX12 o0 a0 (xy C) u0 []) 0 [(0, .ref o0)] [] := by
  refine g_iconst (pc := 0) (v := 0) hC dX12_allCash_0 (by decide) ?_
  refine g_istore_n (pc := 1) (lv' := [(1, .int (0 : Int32)), (0, .ref o0)]) hC dX12_allCash_1 rfl (Nat.le_of_ble_eq_true rfl) rfl ?_
  refine g_iconst (pc := 2) (v := 0) hC dX12_allCash_2 (by decide) ?_
  refine g_istore_n (pc := 3) (lv' := [(2, .int (0 : Int32)), (1, .int (0 : Int32)), (0, .ref o0)]) hC dX12_allCash_3 rfl (Nat.le_of_ble_eq_true rfl) rfl ?_
  refine g_sub (lv' := [(0, .ref o0), (1, .int (0 : Int32)), (2, .int (0 : Int32))]) [2, 1, 0] rfl ?_
  obtain ⟨n_5, h⟩ := h
  exact kX12_allCash_L4 hC hR0 hR  n_5 _ _ _ h
theorem ctX12_allCash {l : Launch} {D : va_G} {cy : Nat → ClassId} {kd : Nat → Nat} {o0 : Nat} {a0 : Nat → Nat}  {u0 : St} {post : Int32 → St → Prop} (h : qX12_allCash  u0 post) : CtI l D cy kd yX12_allCash cX12_allCash 3 1 .int [.ref o0] (fun u : St => (wX12 o0 a0 cy u [])) u0 (fun r u => post r u) := met_i (by decide) (Nat.le_of_ble_eq_true rfl) (fun C e1 e2 e3 e4 e5 hC hR => by subst e1 e2 e3 e4; exact kX12_allCash hC e5 hR h)
theorem dX12_told_0 : decode cX12_told 0 = .ok (.iload_n 1, 1) := by decide +kernel
theorem dX12_told_1 : decode cX12_told 1 = .ok (.tableswitch 116 0 9 #[55, 55, 55, 55, 55, 66, 75, 87, 98, 107], 55) := by decide +kernel
theorem dX12_told_56 : decode cX12_told 56 = .ok (.aload_n 0, 1) := by decide +kernel
theorem dX12_told_57 : decode cX12_told 57 = .ok (.aload_n 0, 1) := by decide +kernel
theorem dX12_told_58 : decode cX12_told 58 = .ok (.getfield 7, 3) := by decide +kernel
theorem dX12_told_61 : decode cX12_told 61 = .ok (.iload_n 1, 1) := by decide +kernel
theorem dX12_told_62 : decode cX12_told 62 = .ok (.iaload, 1) := by decide +kernel
theorem dX12_told_63 : decode cX12_told 63 = .ok (.invokevirtual 92, 3) := by decide +kernel
theorem dX12_told_66 : decode cX12_told 66 = .ok (.ireturn, 1) := by decide +kernel
theorem dX12_told_67 : decode cX12_told 67 = .ok (.aload_n 0, 1) := by decide +kernel
theorem dX12_told_68 : decode cX12_told 68 = .ok (.aload_n 0, 1) := by decide +kernel
theorem dX12_told_69 : decode cX12_told 69 = .ok (.invokevirtual 279, 3) := by decide +kernel
theorem dX12_told_72 : decode cX12_told 72 = .ok (.invokevirtual 92, 3) := by decide +kernel
theorem dX12_told_75 : decode cX12_told 75 = .ok (.ireturn, 1) := by decide +kernel
theorem dX12_told_76 : decode cX12_told 76 = .ok (.aload_n 0, 1) := by decide +kernel
theorem dX12_told_77 : decode cX12_told 77 = .ok (.aload_n 0, 1) := by decide +kernel
theorem dX12_told_78 : decode cX12_told 78 = .ok (.getfield 7, 3) := by decide +kernel
theorem dX12_told_81 : decode cX12_told 81 = .ok (.bipush 6, 2) := by decide +kernel
theorem dX12_told_83 : decode cX12_told 83 = .ok (.iaload, 1) := by decide +kernel
theorem dX12_told_84 : decode cX12_told 84 = .ok (.invokevirtual 92, 3) := by decide +kernel
theorem dX12_told_87 : decode cX12_told 87 = .ok (.ireturn, 1) := by decide +kernel
theorem dX12_told_88 : decode cX12_told 88 = .ok (.aload_n 0, 1) := by decide +kernel
theorem dX12_told_89 : decode cX12_told 89 = .ok (.aload_n 0, 1) := by decide +kernel
theorem dX12_told_90 : decode cX12_told 90 = .ok (.iconst (-1), 1) := by decide +kernel
theorem dX12_told_91 : decode cX12_told 91 = .ok (.iconst 0, 1) := by decide +kernel
theorem dX12_told_92 : decode cX12_told 92 = .ok (.invokevirtual 270, 3) := by decide +kernel
theorem dX12_told_95 : decode cX12_told 95 = .ok (.invokevirtual 92, 3) := by decide +kernel
theorem dX12_told_98 : decode cX12_told 98 = .ok (.ireturn, 1) := by decide +kernel
theorem dX12_told_99 : decode cX12_told 99 = .ok (.aload_n 0, 1) := by decide +kernel
theorem dX12_told_100 : decode cX12_told 100 = .ok (.aload_n 0, 1) := by decide +kernel
theorem dX12_told_101 : decode cX12_told 101 = .ok (.invokevirtual 285, 3) := by decide +kernel
theorem dX12_told_104 : decode cX12_told 104 = .ok (.invokevirtual 92, 3) := by decide +kernel
theorem dX12_told_107 : decode cX12_told 107 = .ok (.ireturn, 1) := by decide +kernel
theorem dX12_told_108 : decode cX12_told 108 = .ok (.aload_n 0, 1) := by decide +kernel
theorem dX12_told_109 : decode cX12_told 109 = .ok (.aload_n 0, 1) := by decide +kernel
theorem dX12_told_110 : decode cX12_told 110 = .ok (.invokevirtual 288, 3) := by decide +kernel
theorem dX12_told_113 : decode cX12_told 113 = .ok (.invokevirtual 92, 3) := by decide +kernel
theorem dX12_told_116 : decode cX12_told 116 = .ok (.ireturn, 1) := by decide +kernel
theorem dX12_told_117 : decode cX12_told 117 = .ok (.aload_n 0, 1) := by decide +kernel
theorem dX12_told_118 : decode cX12_told 118 = .ok (.iconst 1, 1) := by decide +kernel
theorem dX12_told_119 : decode cX12_told 119 = .ok (.invokevirtual 88, 3) := by decide +kernel
theorem dX12_told_122 : decode cX12_told 122 = .ok (.ireturn, 1) := by decide +kernel
def qX12_told_b56  (post : Int32 → St → Prop)  (x1 : Int32) (u0 : St) : Prop := (vp_in x1 3072 ∧ qX12_gives (ga u0 0 (x1).toNatClampNeg) u0 (fun r_35 u_34 => post r_35 u_34))
set_option maxRecDepth 100000 in
set_option maxHeartbeats 4000000 in
theorem kX12_told_b56 {C : Cx} {o0 : Nat} {a0 : Nat → Nat} (hC : Fx C cX12_told 2 RX12) (hR0 : xR C = rm 6) {post : Int32 → St → Prop} (hR : RI C cX12_told 2 (fun u : St => (wX12 o0 a0 (xy C) u [])) (fun r u => post r u))  {x1 : Int32} {u0 : St} (h : qX12_told_b56 post x1 u0) : G C 0 0 2 (wX12 o0 a0 (xy C) u0 []) 56 [(0, .ref o0), (1, .int x1)] [] := by
  refine g_aload_n (pc := 56) hC 0 dX12_told_56 rfl rfl ?_
  refine g_aload_n (pc := 57) hC 0 dX12_told_57 rfl rfl ?_
  refine getX12_0 (pc := 58) hC (F := fun Z => Z) (X := []) (fun _ => rfl) fl_X12_7 dX12_told_58 ?_
  refine g_iload_n (pc := 61) hC 1 dX12_told_61 rfl rfl ?_
  refine aldX12_0 (pc := 62) hC (F := fun Z => Z) (X := []) (fun _ => rfl) h.1 dX12_told_62 ?_
  have h := h.2
  refine g_callV_i (pc := 63) (wd := fun (u : St) Y => (wX12 o0 a0 (xy C) u Y)) (F := fun Z => Z) (X := []) (As := [.int (ga u0 0 (x1).toNatClampNeg)]) (rest := []) (u := u0) hC (fun _ _ => rfl) (fun _ => rfl) (ctX12_gives h) wvX12_gives ml_X12_92 (ci := 10) (q0 := 0) rfl rfl rfl rfl (rmok hR0 rfl) ⟨Nat.zero_le _, Nat.zero_le _⟩ rfl (Nat.le_of_ble_eq_true rfl) dX12_told_63 (fun r_35 u_34 h => ?_)
  exact hR _ _ _ u_34 dX12_told_66 h
def qX12_told (x1 : Int32) (u0 : St) (post : Int32 → St → Prop) : Prop := ((x1 = (0 : Int32) → qX12_told_b56 post x1 u0) ∧ ((x1 = (1 : Int32) → qX12_told_b56 post x1 u0) ∧ ((x1 = (2 : Int32) → qX12_told_b56 post x1 u0) ∧ ((x1 = (3 : Int32) → qX12_told_b56 post x1 u0) ∧ ((x1 = (4 : Int32) → qX12_told_b56 post x1 u0) ∧ ((x1 = (5 : Int32) → qX12_standsNow u0 (fun r_43 u_42 => qX12_gives r_43 u_42 (fun r_46 u_45 => post r_46 u_45))) ∧ ((x1 = (6 : Int32) → qX12_gives (ga u0 0 ((6 : Int32)).toNatClampNeg) u0 (fun r_50 u_49 => post r_50 u_49)) ∧ ((x1 = (7 : Int32) → qX12_leavesAt (-1 : Int32) (0 : Int32) u0 (fun r_54 u_53 => qX12_gives r_54 u_53 (fun r_57 u_56 => post r_57 u_56))) ∧ ((x1 = (8 : Int32) → qX12_allOwed u0 (fun r_61 u_60 => qX12_gives r_61 u_60 (fun r_64 u_63 => post r_64 u_63))) ∧ ((x1 = (9 : Int32) → qX12_allCash u0 (fun r_68 u_67 => qX12_gives r_68 u_67 (fun r_71 u_70 => post r_71 u_70))) ∧ (¬ x1 = (0 : Int32) → ¬ x1 = (1 : Int32) → ¬ x1 = (2 : Int32) → ¬ x1 = (3 : Int32) → ¬ x1 = (4 : Int32) → ¬ x1 = (5 : Int32) → ¬ x1 = (6 : Int32) → ¬ x1 = (7 : Int32) → ¬ x1 = (8 : Int32) → ¬ x1 = (9 : Int32) → qX12_refuse (1 : Int32) u0 (fun r_75 u_74 => post r_75 u_74))))))))))))
set_option maxRecDepth 100000 in
set_option maxHeartbeats 4000000 in
theorem kX12_told {C : Cx} {o0 : Nat} {a0 : Nat → Nat} (hC : Fx C cX12_told 2 RX12) (hR0 : xR C = rm 6) {post : Int32 → St → Prop} (hR : RI C cX12_told 2 (fun u : St => (wX12 o0 a0 (xy C) u [])) (fun r u => post r u)) {x1 : Int32} {u0 : St} (h : qX12_told x1 u0 post) : G C 0 0 2 (wX12 o0 a0 (xy C) u0 []) 0 [(0, .ref o0), (1, .int x1)] [] := by
  refine g_iload_n (pc := 0) hC 1 dX12_told_0 rfl rfl ?_
  by_cases c_37 : x1 = (0 : Int32)
  · have h := h.1 c_37
    refine g_tabIn (pc := 1) (tgt := 56) hC dX12_told_1 (by rw [c_37]; decide) (by rw [c_37]; decide) (by rw [c_37]; rfl) (by decide) ?_
    exact kX12_told_b56 hC hR0 hR  h
  by_cases c_38 : x1 = (1 : Int32)
  · have h := h.2.1 c_38
    refine g_tabIn (pc := 1) (tgt := 56) hC dX12_told_1 (by rw [c_38]; decide) (by rw [c_38]; decide) (by rw [c_38]; rfl) (by decide) ?_
    exact kX12_told_b56 hC hR0 hR  h
  by_cases c_39 : x1 = (2 : Int32)
  · have h := h.2.2.1 c_39
    refine g_tabIn (pc := 1) (tgt := 56) hC dX12_told_1 (by rw [c_39]; decide) (by rw [c_39]; decide) (by rw [c_39]; rfl) (by decide) ?_
    exact kX12_told_b56 hC hR0 hR  h
  by_cases c_40 : x1 = (3 : Int32)
  · have h := h.2.2.2.1 c_40
    refine g_tabIn (pc := 1) (tgt := 56) hC dX12_told_1 (by rw [c_40]; decide) (by rw [c_40]; decide) (by rw [c_40]; rfl) (by decide) ?_
    exact kX12_told_b56 hC hR0 hR  h
  by_cases c_41 : x1 = (4 : Int32)
  · have h := h.2.2.2.2.1 c_41
    refine g_tabIn (pc := 1) (tgt := 56) hC dX12_told_1 (by rw [c_41]; decide) (by rw [c_41]; decide) (by rw [c_41]; rfl) (by decide) ?_
    exact kX12_told_b56 hC hR0 hR  h
  by_cases c_48 : x1 = (5 : Int32)
  · have h := h.2.2.2.2.2.1 c_48
    refine g_tabIn (pc := 1) (tgt := 67) hC dX12_told_1 (by rw [c_48]; decide) (by rw [c_48]; decide) (by rw [c_48]; rfl) (by decide) ?_
    refine g_aload_n (pc := 67) hC 0 dX12_told_67 rfl rfl ?_
    refine g_aload_n (pc := 68) hC 0 dX12_told_68 rfl rfl ?_
    refine g_callV_i (pc := 69) (wd := fun (u : St) Y => (wX12 o0 a0 (xy C) u Y)) (F := fun Z => Z) (X := []) (As := []) (rest := [.ref o0]) (u := u0) hC (fun _ _ => rfl) (fun _ => rfl) (ctX12_standsNow h) wvX12_standsNow ml_X12_279 (ci := 10) (q0 := 0) rfl rfl rfl rfl (rmok hR0 rfl) ⟨Nat.zero_le _, Nat.zero_le _⟩ rfl (Nat.le_of_ble_eq_true rfl) dX12_told_69 (fun r_43 u_42 h => ?_)
    refine g_callV_i (pc := 72) (wd := fun (u : St) Y => (wX12 o0 a0 (xy C) u Y)) (F := fun Z => Z) (X := []) (As := [.int r_43]) (rest := []) (u := u_42) hC (fun _ _ => rfl) (fun _ => rfl) (ctX12_gives h) wvX12_gives ml_X12_92 (ci := 10) (q0 := 0) rfl rfl rfl rfl (rmok hR0 rfl) ⟨Nat.zero_le _, Nat.zero_le _⟩ rfl (Nat.le_of_ble_eq_true rfl) dX12_told_72 (fun r_46 u_45 h => ?_)
    exact hR _ _ _ u_45 dX12_told_75 h
  by_cases c_52 : x1 = (6 : Int32)
  · have h := h.2.2.2.2.2.2.1 c_52
    refine g_tabIn (pc := 1) (tgt := 76) hC dX12_told_1 (by rw [c_52]; decide) (by rw [c_52]; decide) (by rw [c_52]; rfl) (by decide) ?_
    refine g_aload_n (pc := 76) hC 0 dX12_told_76 rfl rfl ?_
    refine g_aload_n (pc := 77) hC 0 dX12_told_77 rfl rfl ?_
    refine getX12_0 (pc := 78) hC (F := fun Z => Z) (X := []) (fun _ => rfl) fl_X12_7 dX12_told_78 ?_
    refine g_bipush (pc := 81) (v := 6) hC dX12_told_81 (by decide) ?_
    refine aldX12_0 (pc := 83) hC (F := fun Z => Z) (X := []) (fun _ => rfl) (by unfold vp_in; decide) dX12_told_83 ?_
    refine g_callV_i (pc := 84) (wd := fun (u : St) Y => (wX12 o0 a0 (xy C) u Y)) (F := fun Z => Z) (X := []) (As := [.int (ga u0 0 ((6 : Int32)).toNatClampNeg)]) (rest := []) (u := u0) hC (fun _ _ => rfl) (fun _ => rfl) (ctX12_gives h) wvX12_gives ml_X12_92 (ci := 10) (q0 := 0) rfl rfl rfl rfl (rmok hR0 rfl) ⟨Nat.zero_le _, Nat.zero_le _⟩ rfl (Nat.le_of_ble_eq_true rfl) dX12_told_84 (fun r_50 u_49 h => ?_)
    exact hR _ _ _ u_49 dX12_told_87 h
  by_cases c_59 : x1 = (7 : Int32)
  · have h := h.2.2.2.2.2.2.2.1 c_59
    refine g_tabIn (pc := 1) (tgt := 88) hC dX12_told_1 (by rw [c_59]; decide) (by rw [c_59]; decide) (by rw [c_59]; rfl) (by decide) ?_
    refine g_aload_n (pc := 88) hC 0 dX12_told_88 rfl rfl ?_
    refine g_aload_n (pc := 89) hC 0 dX12_told_89 rfl rfl ?_
    refine g_iconst (pc := 90) (v := -1) hC dX12_told_90 (by decide) ?_
    refine g_iconst (pc := 91) (v := 0) hC dX12_told_91 (by decide) ?_
    refine g_callV_i (pc := 92) (wd := fun (u : St) Y => (wX12 o0 a0 (xy C) u Y)) (F := fun Z => Z) (X := []) (As := [.int (-1 : Int32), .int (0 : Int32)]) (rest := [.ref o0]) (u := u0) hC (fun _ _ => rfl) (fun _ => rfl) (ctX12_leavesAt h) wvX12_leavesAt ml_X12_270 (ci := 10) (q0 := 0) rfl rfl rfl rfl (rmok hR0 rfl) ⟨Nat.zero_le _, Nat.zero_le _⟩ rfl (Nat.le_of_ble_eq_true rfl) dX12_told_92 (fun r_54 u_53 h => ?_)
    refine g_callV_i (pc := 95) (wd := fun (u : St) Y => (wX12 o0 a0 (xy C) u Y)) (F := fun Z => Z) (X := []) (As := [.int r_54]) (rest := []) (u := u_53) hC (fun _ _ => rfl) (fun _ => rfl) (ctX12_gives h) wvX12_gives ml_X12_92 (ci := 10) (q0 := 0) rfl rfl rfl rfl (rmok hR0 rfl) ⟨Nat.zero_le _, Nat.zero_le _⟩ rfl (Nat.le_of_ble_eq_true rfl) dX12_told_95 (fun r_57 u_56 h => ?_)
    exact hR _ _ _ u_56 dX12_told_98 h
  by_cases c_66 : x1 = (8 : Int32)
  · have h := h.2.2.2.2.2.2.2.2.1 c_66
    refine g_tabIn (pc := 1) (tgt := 99) hC dX12_told_1 (by rw [c_66]; decide) (by rw [c_66]; decide) (by rw [c_66]; rfl) (by decide) ?_
    refine g_aload_n (pc := 99) hC 0 dX12_told_99 rfl rfl ?_
    refine g_aload_n (pc := 100) hC 0 dX12_told_100 rfl rfl ?_
    refine g_callV_i (pc := 101) (wd := fun (u : St) Y => (wX12 o0 a0 (xy C) u Y)) (F := fun Z => Z) (X := []) (As := []) (rest := [.ref o0]) (u := u0) hC (fun _ _ => rfl) (fun _ => rfl) (ctX12_allOwed h) wvX12_allOwed ml_X12_285 (ci := 10) (q0 := 0) rfl rfl rfl rfl (rmok hR0 rfl) ⟨Nat.zero_le _, Nat.zero_le _⟩ rfl (Nat.le_of_ble_eq_true rfl) dX12_told_101 (fun r_61 u_60 h => ?_)
    refine g_callV_i (pc := 104) (wd := fun (u : St) Y => (wX12 o0 a0 (xy C) u Y)) (F := fun Z => Z) (X := []) (As := [.int r_61]) (rest := []) (u := u_60) hC (fun _ _ => rfl) (fun _ => rfl) (ctX12_gives h) wvX12_gives ml_X12_92 (ci := 10) (q0 := 0) rfl rfl rfl rfl (rmok hR0 rfl) ⟨Nat.zero_le _, Nat.zero_le _⟩ rfl (Nat.le_of_ble_eq_true rfl) dX12_told_104 (fun r_64 u_63 h => ?_)
    exact hR _ _ _ u_63 dX12_told_107 h
  by_cases c_73 : x1 = (9 : Int32)
  · have h := h.2.2.2.2.2.2.2.2.2.1 c_73
    refine g_tabIn (pc := 1) (tgt := 108) hC dX12_told_1 (by rw [c_73]; decide) (by rw [c_73]; decide) (by rw [c_73]; rfl) (by decide) ?_
    refine g_aload_n (pc := 108) hC 0 dX12_told_108 rfl rfl ?_
    refine g_aload_n (pc := 109) hC 0 dX12_told_109 rfl rfl ?_
    refine g_callV_i (pc := 110) (wd := fun (u : St) Y => (wX12 o0 a0 (xy C) u Y)) (F := fun Z => Z) (X := []) (As := []) (rest := [.ref o0]) (u := u0) hC (fun _ _ => rfl) (fun _ => rfl) (ctX12_allCash h) wvX12_allCash ml_X12_288 (ci := 10) (q0 := 0) rfl rfl rfl rfl (rmok hR0 rfl) ⟨Nat.zero_le _, Nat.zero_le _⟩ rfl (Nat.le_of_ble_eq_true rfl) dX12_told_110 (fun r_68 u_67 h => ?_)
    refine g_callV_i (pc := 113) (wd := fun (u : St) Y => (wX12 o0 a0 (xy C) u Y)) (F := fun Z => Z) (X := []) (As := [.int r_68]) (rest := []) (u := u_67) hC (fun _ _ => rfl) (fun _ => rfl) (ctX12_gives h) wvX12_gives ml_X12_92 (ci := 10) (q0 := 0) rfl rfl rfl rfl (rmok hR0 rfl) ⟨Nat.zero_le _, Nat.zero_le _⟩ rfl (Nat.le_of_ble_eq_true rfl) dX12_told_113 (fun r_71 u_70 h => ?_)
    exact hR _ _ _ u_70 dX12_told_116 h
  have h := h.2.2.2.2.2.2.2.2.2.2 c_37 c_38 c_39 c_40 c_41 c_48 c_52 c_59 c_66 c_73
  refine g_tabOut (pc := 1) (tgt := 117) hC dX12_told_1 (tab_out x1 (0) 10 (9) rfl (tab_s c_37 (tab_s c_38 (tab_s c_39 (tab_s c_40 (tab_s c_41 (tab_s c_48 (tab_s c_52 (tab_s c_59 (tab_s c_66 (tab_s c_73 tab_0))))))))))) (by decide) ?_
  refine g_aload_n (pc := 117) hC 0 dX12_told_117 rfl rfl ?_
  refine g_iconst (pc := 118) (v := 1) hC dX12_told_118 (by decide) ?_
  refine g_callV_i (pc := 119) (wd := fun (u : St) Y => (wX12 o0 a0 (xy C) u Y)) (F := fun Z => Z) (X := []) (As := [.int (1 : Int32)]) (rest := []) (u := u0) hC (fun _ _ => rfl) (fun _ => rfl) (ctX12_refuse h) wvX12_refuse ml_X12_88 (ci := 10) (q0 := 0) rfl rfl rfl rfl (rmok hR0 rfl) ⟨Nat.zero_le _, Nat.zero_le _⟩ rfl (Nat.le_of_ble_eq_true rfl) dX12_told_119 (fun r_75 u_74 h => ?_)
  exact hR _ _ _ u_74 dX12_told_122 h
theorem ctX12_told {l : Launch} {D : va_G} {cy : Nat → ClassId} {kd : Nat → Nat} {o0 : Nat} {a0 : Nat → Nat} {x1 : Int32} {u0 : St} {post : Int32 → St → Prop} (h : qX12_told x1 u0 post) : CtI l D cy kd yX12_told cX12_told 2 6 .int [.ref o0, .int x1] (fun u : St => (wX12 o0 a0 cy u [])) u0 (fun r u => post r u) := met_i (by decide) (Nat.le_of_ble_eq_true rfl) (fun C e1 e2 e3 e4 e5 hC hR => by subst e1 e2 e3 e4; exact kX12_told hC e5 hR h)
theorem dX12_stone_0 : decode cX12_stone 0 = .ok (.aload_n 0, 1) := by decide +kernel
theorem dX12_stone_1 : decode cX12_stone 1 = .ok (.iload_n 1, 1) := by decide +kernel
theorem dX12_stone_2 : decode cX12_stone 2 = .ok (.invokevirtual 291, 3) := by decide +kernel
theorem dX12_stone_5 : decode cX12_stone 5 = .ok (.ifCond .ne 9, 3) := by decide +kernel
theorem dX12_stone_8 : decode cX12_stone 8 = .ok (.aload_n 0, 1) := by decide +kernel
theorem dX12_stone_9 : decode cX12_stone 9 = .ok (.iconst 1, 1) := by decide +kernel
theorem dX12_stone_10 : decode cX12_stone 10 = .ok (.invokevirtual 88, 3) := by decide +kernel
theorem dX12_stone_13 : decode cX12_stone 13 = .ok (.ireturn, 1) := by decide +kernel
theorem dX12_stone_14 : decode cX12_stone 14 = .ok (.iload_n 2, 1) := by decide +kernel
theorem dX12_stone_15 : decode cX12_stone 15 = .ok (.tableswitch 75 0 4 #[33, 33, 33, 49, 62], 33) := by decide +kernel
theorem dX12_stone_48 : decode cX12_stone 48 = .ok (.aload_n 0, 1) := by decide +kernel
theorem dX12_stone_49 : decode cX12_stone 49 = .ok (.aload_n 0, 1) := by decide +kernel
theorem dX12_stone_50 : decode cX12_stone 50 = .ok (.getfield 7, 3) := by decide +kernel
theorem dX12_stone_53 : decode cX12_stone 53 = .ok (.iload_n 1, 1) := by decide +kernel
theorem dX12_stone_54 : decode cX12_stone 54 = .ok (.invokestatic 187, 3) := by decide +kernel
theorem dX12_stone_57 : decode cX12_stone 57 = .ok (.iload_n 2, 1) := by decide +kernel
theorem dX12_stone_58 : decode cX12_stone 58 = .ok (.iadd, 1) := by decide +kernel
theorem dX12_stone_59 : decode cX12_stone 59 = .ok (.iaload, 1) := by decide +kernel
theorem dX12_stone_60 : decode cX12_stone 60 = .ok (.invokevirtual 92, 3) := by decide +kernel
theorem dX12_stone_63 : decode cX12_stone 63 = .ok (.ireturn, 1) := by decide +kernel
theorem dX12_stone_64 : decode cX12_stone 64 = .ok (.aload_n 0, 1) := by decide +kernel
theorem dX12_stone_65 : decode cX12_stone 65 = .ok (.aload_n 0, 1) := by decide +kernel
theorem dX12_stone_66 : decode cX12_stone 66 = .ok (.iload_n 1, 1) := by decide +kernel
theorem dX12_stone_67 : decode cX12_stone 67 = .ok (.iconst 0, 1) := by decide +kernel
theorem dX12_stone_68 : decode cX12_stone 68 = .ok (.invokevirtual 270, 3) := by decide +kernel
theorem dX12_stone_71 : decode cX12_stone 71 = .ok (.iconst 5, 1) := by decide +kernel
theorem dX12_stone_72 : decode cX12_stone 72 = .ok (.idiv, 1) := by decide +kernel
theorem dX12_stone_73 : decode cX12_stone 73 = .ok (.invokevirtual 92, 3) := by decide +kernel
theorem dX12_stone_76 : decode cX12_stone 76 = .ok (.ireturn, 1) := by decide +kernel
theorem dX12_stone_77 : decode cX12_stone 77 = .ok (.aload_n 0, 1) := by decide +kernel
theorem dX12_stone_78 : decode cX12_stone 78 = .ok (.aload_n 0, 1) := by decide +kernel
theorem dX12_stone_79 : decode cX12_stone 79 = .ok (.invokevirtual 279, 3) := by decide +kernel
theorem dX12_stone_82 : decode cX12_stone 82 = .ok (.iload_n 1, 1) := by decide +kernel
theorem dX12_stone_83 : decode cX12_stone 83 = .ok (.ishr, 1) := by decide +kernel
theorem dX12_stone_84 : decode cX12_stone 84 = .ok (.iconst 1, 1) := by decide +kernel
theorem dX12_stone_85 : decode cX12_stone 85 = .ok (.iand, 1) := by decide +kernel
theorem dX12_stone_86 : decode cX12_stone 86 = .ok (.invokevirtual 92, 3) := by decide +kernel
theorem dX12_stone_89 : decode cX12_stone 89 = .ok (.ireturn, 1) := by decide +kernel
theorem dX12_stone_90 : decode cX12_stone 90 = .ok (.aload_n 0, 1) := by decide +kernel
theorem dX12_stone_91 : decode cX12_stone 91 = .ok (.iconst 1, 1) := by decide +kernel
theorem dX12_stone_92 : decode cX12_stone 92 = .ok (.invokevirtual 88, 3) := by decide +kernel
theorem dX12_stone_95 : decode cX12_stone 95 = .ok (.ireturn, 1) := by decide +kernel
def qX12_stone_b48  (post : Int32 → St → Prop)  (x1 : Int32) (x2 : Int32) (u0 : St) : Prop := qX12_stoneRow x1 (fun r_27 => (vp_in (r_27 + x2) 3072 ∧ qX12_gives (ga u0 0 ((r_27 + x2)).toNatClampNeg) u0 (fun r_30 u_29 => post r_30 u_29)))
set_option maxRecDepth 100000 in
set_option maxHeartbeats 4000000 in
theorem kX12_stone_b48 {C : Cx} {o0 : Nat} {a0 : Nat → Nat} (hC : Fx C cX12_stone 3 RX12) (hR0 : xR C = rm 6) {post : Int32 → St → Prop} (hR : RI C cX12_stone 3 (fun u : St => (wX12 o0 a0 (xy C) u [])) (fun r u => post r u))  {x1 : Int32} {x2 : Int32} {u0 : St} (h : qX12_stone_b48 post x1 x2 u0) : G C 0 0 3 (wX12 o0 a0 (xy C) u0 []) 48 [(0, .ref o0), (1, .int x1), (2, .int x2)] [] := by
  refine g_aload_n (pc := 48) hC 0 dX12_stone_48 rfl rfl ?_
  refine g_aload_n (pc := 49) hC 0 dX12_stone_49 rfl rfl ?_
  refine getX12_0 (pc := 50) hC (F := fun Z => Z) (X := []) (fun _ => rfl) fl_X12_7 dX12_stone_50 ?_
  refine g_iload_n (pc := 53) hC 1 dX12_stone_53 rfl rfl ?_
  refine g_callS_i (pc := 54) (wd := fun (_ : Unit) Y => Y) (F := fun Z => Z) (X := []) (As := [.int x1]) (rest := [.ref (a0 0), .ref o0]) (u := ()) hC (fun _ _ => rfl) (fun _ => rfl) (ctX12_stoneRow h) wvX12_stoneRow ml_X12_187 rfl (rmok hR0 rfl) ⟨Nat.zero_le _, Nat.zero_le _⟩ rfl (Nat.le_of_ble_eq_true rfl) dX12_stone_54 (fun r_27 u_28 h => ?_)
  refine g_iload_n (pc := 57) hC 2 dX12_stone_57 rfl rfl ?_
  refine g_iadd (pc := 58) hC dX12_stone_58 ?_
  refine aldX12_0 (pc := 59) hC (F := fun Z => Z) (X := []) (fun _ => rfl) h.1 dX12_stone_59 ?_
  have h := h.2
  refine g_callV_i (pc := 60) (wd := fun (u : St) Y => (wX12 o0 a0 (xy C) u Y)) (F := fun Z => Z) (X := []) (As := [.int (ga u0 0 ((r_27 + x2)).toNatClampNeg)]) (rest := []) (u := u0) hC (fun _ _ => rfl) (fun _ => rfl) (ctX12_gives h) wvX12_gives ml_X12_92 (ci := 10) (q0 := 0) rfl rfl rfl rfl (rmok hR0 rfl) ⟨Nat.zero_le _, Nat.zero_le _⟩ rfl (Nat.le_of_ble_eq_true rfl) dX12_stone_60 (fun r_30 u_29 h => ?_)
  exact hR _ _ _ u_29 dX12_stone_63 h
def qX12_stone (x1 : Int32) (x2 : Int32) (u0 : St) (post : Int32 → St → Prop) : Prop := qX12_isStone x1 u0 (fun r_33 u_32 => ((¬ r_33 = 0 → ((x2 = (0 : Int32) → qX12_stone_b48 post x1 x2 u_32) ∧ ((x2 = (1 : Int32) → qX12_stone_b48 post x1 x2 u_32) ∧ ((x2 = (2 : Int32) → qX12_stone_b48 post x1 x2 u_32) ∧ ((x2 = (3 : Int32) → qX12_leavesAt x1 (0 : Int32) u_32 (fun r_40 u_39 => qX12_gives (r_40 / (5 : Int32)) u_39 (fun r_43 u_42 => post r_43 u_42))) ∧ ((x2 = (4 : Int32) → qX12_standsNow u_32 (fun r_47 u_46 => qX12_gives ((r_47 >>> (x1 &&& 31)) &&& (1 : Int32)) u_46 (fun r_50 u_49 => post r_50 u_49))) ∧ (¬ x2 = (0 : Int32) → ¬ x2 = (1 : Int32) → ¬ x2 = (2 : Int32) → ¬ x2 = (3 : Int32) → ¬ x2 = (4 : Int32) → qX12_refuse (1 : Int32) u_32 (fun r_54 u_53 => post r_54 u_53)))))))) ∧ (r_33 = 0 → qX12_refuse (1 : Int32) u_32 (fun r_57 u_56 => post r_57 u_56))))
set_option maxRecDepth 100000 in
set_option maxHeartbeats 4000000 in
theorem kX12_stone {C : Cx} {o0 : Nat} {a0 : Nat → Nat} (hC : Fx C cX12_stone 3 RX12) (hR0 : xR C = rm 6) {post : Int32 → St → Prop} (hR : RI C cX12_stone 3 (fun u : St => (wX12 o0 a0 (xy C) u [])) (fun r u => post r u)) {x1 : Int32} {x2 : Int32} {u0 : St} (h : qX12_stone x1 x2 u0 post) : G C 0 0 3 (wX12 o0 a0 (xy C) u0 []) 0 [(0, .ref o0), (1, .int x1), (2, .int x2)] [] := by
  refine g_aload_n (pc := 0) hC 0 dX12_stone_0 rfl rfl ?_
  refine g_iload_n (pc := 1) hC 1 dX12_stone_1 rfl rfl ?_
  refine g_callV_i (pc := 2) (wd := fun (u : St) Y => (wX12 o0 a0 (xy C) u Y)) (F := fun Z => Z) (X := []) (As := [.int x1]) (rest := []) (u := u0) hC (fun _ _ => rfl) (fun _ => rfl) (ctX12_isStone h) wvX12_isStone ml_X12_291 (ci := 10) (q0 := 0) rfl rfl rfl rfl (rmok hR0 rfl) ⟨Nat.zero_le _, Nat.zero_le _⟩ rfl (Nat.le_of_ble_eq_true rfl) dX12_stone_2 (fun r_33 u_32 h => ?_)
  refine g_if_ne (pc := 5) (tgt := 14) hC dX12_stone_5 (by decide) (fun c_35 => ?_) (fun c_35 => ?_)
  · have h := h.1 c_35
    refine g_iload_n (pc := 14) hC 2 dX12_stone_14 rfl rfl ?_
    by_cases c_36 : x2 = (0 : Int32)
    · have h := h.1 c_36
      refine g_tabIn (pc := 15) (tgt := 48) hC dX12_stone_15 (by rw [c_36]; decide) (by rw [c_36]; decide) (by rw [c_36]; rfl) (by decide) ?_
      exact kX12_stone_b48 hC hR0 hR  h
    by_cases c_37 : x2 = (1 : Int32)
    · have h := h.2.1 c_37
      refine g_tabIn (pc := 15) (tgt := 48) hC dX12_stone_15 (by rw [c_37]; decide) (by rw [c_37]; decide) (by rw [c_37]; rfl) (by decide) ?_
      exact kX12_stone_b48 hC hR0 hR  h
    by_cases c_38 : x2 = (2 : Int32)
    · have h := h.2.2.1 c_38
      refine g_tabIn (pc := 15) (tgt := 48) hC dX12_stone_15 (by rw [c_38]; decide) (by rw [c_38]; decide) (by rw [c_38]; rfl) (by decide) ?_
      exact kX12_stone_b48 hC hR0 hR  h
    by_cases c_45 : x2 = (3 : Int32)
    · have h := h.2.2.2.1 c_45
      refine g_tabIn (pc := 15) (tgt := 64) hC dX12_stone_15 (by rw [c_45]; decide) (by rw [c_45]; decide) (by rw [c_45]; rfl) (by decide) ?_
      refine g_aload_n (pc := 64) hC 0 dX12_stone_64 rfl rfl ?_
      refine g_aload_n (pc := 65) hC 0 dX12_stone_65 rfl rfl ?_
      refine g_iload_n (pc := 66) hC 1 dX12_stone_66 rfl rfl ?_
      refine g_iconst (pc := 67) (v := 0) hC dX12_stone_67 (by decide) ?_
      refine g_callV_i (pc := 68) (wd := fun (u : St) Y => (wX12 o0 a0 (xy C) u Y)) (F := fun Z => Z) (X := []) (As := [.int x1, .int (0 : Int32)]) (rest := [.ref o0]) (u := u_32) hC (fun _ _ => rfl) (fun _ => rfl) (ctX12_leavesAt h) wvX12_leavesAt ml_X12_270 (ci := 10) (q0 := 0) rfl rfl rfl rfl (rmok hR0 rfl) ⟨Nat.zero_le _, Nat.zero_le _⟩ rfl (Nat.le_of_ble_eq_true rfl) dX12_stone_68 (fun r_40 u_39 h => ?_)
      refine g_iconst (pc := 71) (v := 5) hC dX12_stone_71 (by decide) ?_
      refine g_idiv (pc := 72) hC dX12_stone_72 (by decide) ?_
      refine g_callV_i (pc := 73) (wd := fun (u : St) Y => (wX12 o0 a0 (xy C) u Y)) (F := fun Z => Z) (X := []) (As := [.int (r_40 / (5 : Int32))]) (rest := []) (u := u_39) hC (fun _ _ => rfl) (fun _ => rfl) (ctX12_gives h) wvX12_gives ml_X12_92 (ci := 10) (q0 := 0) rfl rfl rfl rfl (rmok hR0 rfl) ⟨Nat.zero_le _, Nat.zero_le _⟩ rfl (Nat.le_of_ble_eq_true rfl) dX12_stone_73 (fun r_43 u_42 h => ?_)
      exact hR _ _ _ u_42 dX12_stone_76 h
    by_cases c_52 : x2 = (4 : Int32)
    · have h := h.2.2.2.2.1 c_52
      refine g_tabIn (pc := 15) (tgt := 77) hC dX12_stone_15 (by rw [c_52]; decide) (by rw [c_52]; decide) (by rw [c_52]; rfl) (by decide) ?_
      refine g_aload_n (pc := 77) hC 0 dX12_stone_77 rfl rfl ?_
      refine g_aload_n (pc := 78) hC 0 dX12_stone_78 rfl rfl ?_
      refine g_callV_i (pc := 79) (wd := fun (u : St) Y => (wX12 o0 a0 (xy C) u Y)) (F := fun Z => Z) (X := []) (As := []) (rest := [.ref o0]) (u := u_32) hC (fun _ _ => rfl) (fun _ => rfl) (ctX12_standsNow h) wvX12_standsNow ml_X12_279 (ci := 10) (q0 := 0) rfl rfl rfl rfl (rmok hR0 rfl) ⟨Nat.zero_le _, Nat.zero_le _⟩ rfl (Nat.le_of_ble_eq_true rfl) dX12_stone_79 (fun r_47 u_46 h => ?_)
      refine g_iload_n (pc := 82) hC 1 dX12_stone_82 rfl rfl ?_
      refine g_ishr (pc := 83) hC dX12_stone_83 ?_
      refine g_iconst (pc := 84) (v := 1) hC dX12_stone_84 (by decide) ?_
      refine g_iand (pc := 85) hC dX12_stone_85 ?_
      refine g_callV_i (pc := 86) (wd := fun (u : St) Y => (wX12 o0 a0 (xy C) u Y)) (F := fun Z => Z) (X := []) (As := [.int ((r_47 >>> (x1 &&& 31)) &&& (1 : Int32))]) (rest := []) (u := u_46) hC (fun _ _ => rfl) (fun _ => rfl) (ctX12_gives h) wvX12_gives ml_X12_92 (ci := 10) (q0 := 0) rfl rfl rfl rfl (rmok hR0 rfl) ⟨Nat.zero_le _, Nat.zero_le _⟩ rfl (Nat.le_of_ble_eq_true rfl) dX12_stone_86 (fun r_50 u_49 h => ?_)
      exact hR _ _ _ u_49 dX12_stone_89 h
    have h := h.2.2.2.2.2 c_36 c_37 c_38 c_45 c_52
    refine g_tabOut (pc := 15) (tgt := 90) hC dX12_stone_15 (tab_out x2 (0) 5 (4) rfl (tab_s c_36 (tab_s c_37 (tab_s c_38 (tab_s c_45 (tab_s c_52 tab_0)))))) (by decide) ?_
    refine g_aload_n (pc := 90) hC 0 dX12_stone_90 rfl rfl ?_
    refine g_iconst (pc := 91) (v := 1) hC dX12_stone_91 (by decide) ?_
    refine g_callV_i (pc := 92) (wd := fun (u : St) Y => (wX12 o0 a0 (xy C) u Y)) (F := fun Z => Z) (X := []) (As := [.int (1 : Int32)]) (rest := []) (u := u_32) hC (fun _ _ => rfl) (fun _ => rfl) (ctX12_refuse h) wvX12_refuse ml_X12_88 (ci := 10) (q0 := 0) rfl rfl rfl rfl (rmok hR0 rfl) ⟨Nat.zero_le _, Nat.zero_le _⟩ rfl (Nat.le_of_ble_eq_true rfl) dX12_stone_92 (fun r_54 u_53 h => ?_)
    exact hR _ _ _ u_53 dX12_stone_95 h
  · have h := h.2 c_35
    refine g_aload_n (pc := 8) hC 0 dX12_stone_8 rfl rfl ?_
    refine g_iconst (pc := 9) (v := 1) hC dX12_stone_9 (by decide) ?_
    refine g_callV_i (pc := 10) (wd := fun (u : St) Y => (wX12 o0 a0 (xy C) u Y)) (F := fun Z => Z) (X := []) (As := [.int (1 : Int32)]) (rest := []) (u := u_32) hC (fun _ _ => rfl) (fun _ => rfl) (ctX12_refuse h) wvX12_refuse ml_X12_88 (ci := 10) (q0 := 0) rfl rfl rfl rfl (rmok hR0 rfl) ⟨Nat.zero_le _, Nat.zero_le _⟩ rfl (Nat.le_of_ble_eq_true rfl) dX12_stone_10 (fun r_57 u_56 h => ?_)
    exact hR _ _ _ u_56 dX12_stone_13 h
theorem ctX12_stone {l : Launch} {D : va_G} {cy : Nat → ClassId} {kd : Nat → Nat} {o0 : Nat} {a0 : Nat → Nat} {x1 : Int32} {x2 : Int32} {u0 : St} {post : Int32 → St → Prop} (h : qX12_stone x1 x2 u0 post) : CtI l D cy kd yX12_stone cX12_stone 3 6 .int [.ref o0, .int x1, .int x2] (fun u : St => (wX12 o0 a0 cy u [])) u0 (fun r u => post r u) := met_i (by decide) (Nat.le_of_ble_eq_true rfl) (fun C e1 e2 e3 e4 e5 hC hR => by subst e1 e2 e3 e4; exact kX12_stone hC e5 hR h)
theorem dX12_debt_0 : decode cX12_debt 0 = .ok (.aload_n 0, 1) := by decide +kernel
theorem dX12_debt_1 : decode cX12_debt 1 = .ok (.iload_n 1, 1) := by decide +kernel
theorem dX12_debt_2 : decode cX12_debt 2 = .ok (.invokevirtual 294, 3) := by decide +kernel
theorem dX12_debt_5 : decode cX12_debt 5 = .ok (.ifCond .eq 13, 3) := by decide +kernel
theorem dX12_debt_8 : decode cX12_debt 8 = .ok (.iload_n 2, 1) := by decide +kernel
theorem dX12_debt_9 : decode cX12_debt 9 = .ok (.ifCond .lt 9, 3) := by decide +kernel
theorem dX12_debt_12 : decode cX12_debt 12 = .ok (.iload_n 2, 1) := by decide +kernel
theorem dX12_debt_13 : decode cX12_debt 13 = .ok (.bipush 7, 2) := by decide +kernel
theorem dX12_debt_15 : decode cX12_debt 15 = .ok (.if_icmp .le 9, 3) := by decide +kernel
theorem dX12_debt_18 : decode cX12_debt 18 = .ok (.aload_n 0, 1) := by decide +kernel
theorem dX12_debt_19 : decode cX12_debt 19 = .ok (.iconst 1, 1) := by decide +kernel
theorem dX12_debt_20 : decode cX12_debt 20 = .ok (.invokevirtual 88, 3) := by decide +kernel
theorem dX12_debt_23 : decode cX12_debt 23 = .ok (.ireturn, 1) := by decide +kernel
theorem dX12_debt_24 : decode cX12_debt 24 = .ok (.aload_n 0, 1) := by decide +kernel
theorem dX12_debt_25 : decode cX12_debt 25 = .ok (.iload_n 2, 1) := by decide +kernel
theorem dX12_debt_26 : decode cX12_debt 26 = .ok (.bipush 7, 2) := by decide +kernel
theorem dX12_debt_28 : decode cX12_debt 28 = .ok (.if_icmp .ne 11, 3) := by decide +kernel
theorem dX12_debt_31 : decode cX12_debt 31 = .ok (.aload_n 0, 1) := by decide +kernel
theorem dX12_debt_32 : decode cX12_debt 32 = .ok (.iload_n 1, 1) := by decide +kernel
theorem dX12_debt_33 : decode cX12_debt 33 = .ok (.invokevirtual 282, 3) := by decide +kernel
theorem dX12_debt_36 : decode cX12_debt 36 = .ok (.goto 9, 3) := by decide +kernel
theorem dX12_debt_39 : decode cX12_debt 39 = .ok (.aload_n 0, 1) := by decide +kernel
theorem dX12_debt_40 : decode cX12_debt 40 = .ok (.iload_n 1, 1) := by decide +kernel
theorem dX12_debt_41 : decode cX12_debt 41 = .ok (.iload_n 2, 1) := by decide +kernel
theorem dX12_debt_42 : decode cX12_debt 42 = .ok (.invokevirtual 264, 3) := by decide +kernel
theorem dX12_debt_45 : decode cX12_debt 45 = .ok (.invokevirtual 92, 3) := by decide +kernel
theorem dX12_debt_48 : decode cX12_debt 48 = .ok (.ireturn, 1) := by decide +kernel
def qX12_debt_b18  (post : Int32 → St → Prop)  (u0 : St) : Prop := qX12_refuse (1 : Int32) u0 (fun r_17 u_16 => post r_17 u_16)
set_option maxRecDepth 100000 in
set_option maxHeartbeats 4000000 in
theorem kX12_debt_b18 {C : Cx} {o0 : Nat} {a0 : Nat → Nat} (hC : Fx C cX12_debt 3 RX12) (hR0 : xR C = rm 4) {post : Int32 → St → Prop} (hR : RI C cX12_debt 3 (fun u : St => (wX12 o0 a0 (xy C) u [])) (fun r u => post r u))  {u0 : St} (h : qX12_debt_b18 post u0) : G C 0 0 3 (wX12 o0 a0 (xy C) u0 []) 18 [(0, .ref o0)] [] := by
  refine g_aload_n (pc := 18) hC 0 dX12_debt_18 rfl rfl ?_
  refine g_iconst (pc := 19) (v := 1) hC dX12_debt_19 (by decide) ?_
  refine g_callV_i (pc := 20) (wd := fun (u : St) Y => (wX12 o0 a0 (xy C) u Y)) (F := fun Z => Z) (X := []) (As := [.int (1 : Int32)]) (rest := []) (u := u0) hC (fun _ _ => rfl) (fun _ => rfl) (ctX12_refuse h) wvX12_refuse ml_X12_88 (ci := 10) (q0 := 0) rfl rfl rfl rfl (rmok hR0 rfl) ⟨Nat.zero_le _, Nat.zero_le _⟩ rfl (Nat.le_of_ble_eq_true rfl) dX12_debt_20 (fun r_17 u_16 h => ?_)
  exact hR _ _ _ u_16 dX12_debt_23 h
def qX12_debt_b45  (post : Int32 → St → Prop)  (s0 : Int32) (u0 : St) : Prop := qX12_gives s0 u0 (fun r_20 u_19 => post r_20 u_19)
set_option maxRecDepth 100000 in
set_option maxHeartbeats 4000000 in
theorem kX12_debt_b45 {C : Cx} {o0 : Nat} {a0 : Nat → Nat} (hC : Fx C cX12_debt 3 RX12) (hR0 : xR C = rm 4) {post : Int32 → St → Prop} (hR : RI C cX12_debt 3 (fun u : St => (wX12 o0 a0 (xy C) u [])) (fun r u => post r u))  {s0 : Int32} {u0 : St} (h : qX12_debt_b45 post s0 u0) : G C 0 0 3 (wX12 o0 a0 (xy C) u0 []) 45 [] [.int s0, .ref o0] := by
  refine g_callV_i (pc := 45) (wd := fun (u : St) Y => (wX12 o0 a0 (xy C) u Y)) (F := fun Z => Z) (X := []) (As := [.int s0]) (rest := []) (u := u0) hC (fun _ _ => rfl) (fun _ => rfl) (ctX12_gives h) wvX12_gives ml_X12_92 (ci := 10) (q0 := 0) rfl rfl rfl rfl (rmok hR0 rfl) ⟨Nat.zero_le _, Nat.zero_le _⟩ rfl (Nat.le_of_ble_eq_true rfl) dX12_debt_45 (fun r_20 u_19 h => ?_)
  exact hR _ _ _ u_19 dX12_debt_48 h
def qX12_debt (x1 : Int32) (x2 : Int32) (u0 : St) (post : Int32 → St → Prop) : Prop := qX12_isDebt x1 u0 (fun r_23 u_22 => ((r_23 = 0 → qX12_debt_b18 post u_22) ∧ (¬ r_23 = 0 → ((x2 < 0 → qX12_debt_b18 post u_22) ∧ (¬ x2 < 0 → ((x2 ≤ (7 : Int32) → ((¬ x2 = (7 : Int32) → qX12_debtOf x1 x2 u_22 (fun r_30 u_29 => qX12_debt_b45 post r_30 u_29)) ∧ (x2 = (7 : Int32) → qX12_owedOf x1 u_22 (fun r_33 u_32 => qX12_debt_b45 post r_33 u_32)))) ∧ (¬ x2 ≤ (7 : Int32) → qX12_debt_b18 post u_22)))))))
set_option maxRecDepth 100000 in
set_option maxHeartbeats 4000000 in
theorem kX12_debt {C : Cx} {o0 : Nat} {a0 : Nat → Nat} (hC : Fx C cX12_debt 3 RX12) (hR0 : xR C = rm 4) {post : Int32 → St → Prop} (hR : RI C cX12_debt 3 (fun u : St => (wX12 o0 a0 (xy C) u [])) (fun r u => post r u)) {x1 : Int32} {x2 : Int32} {u0 : St} (h : qX12_debt x1 x2 u0 post) : G C 0 0 3 (wX12 o0 a0 (xy C) u0 []) 0 [(0, .ref o0), (1, .int x1), (2, .int x2)] [] := by
  refine g_aload_n (pc := 0) hC 0 dX12_debt_0 rfl rfl ?_
  refine g_iload_n (pc := 1) hC 1 dX12_debt_1 rfl rfl ?_
  refine g_callV_i (pc := 2) (wd := fun (u : St) Y => (wX12 o0 a0 (xy C) u Y)) (F := fun Z => Z) (X := []) (As := [.int x1]) (rest := []) (u := u0) hC (fun _ _ => rfl) (fun _ => rfl) (ctX12_isDebt h) wvX12_isDebt ml_X12_294 (ci := 10) (q0 := 0) rfl rfl rfl rfl (rmok hR0 rfl) ⟨Nat.zero_le _, Nat.zero_le _⟩ rfl (Nat.le_of_ble_eq_true rfl) dX12_debt_2 (fun r_23 u_22 h => ?_)
  refine g_if_eq (pc := 5) (tgt := 18) hC dX12_debt_5 (by decide) (fun c_25 => ?_) (fun c_25 => ?_)
  · have h := h.1 c_25
    refine g_sub (lv' := [(0, .ref o0)]) [0] rfl ?_
    exact kX12_debt_b18 hC hR0 hR  h
  · have h := h.2 c_25
    refine g_iload_n (pc := 8) hC 2 dX12_debt_8 rfl rfl ?_
    refine g_if_lt (pc := 9) (tgt := 18) hC dX12_debt_9 (by decide) (fun c_26 => ?_) (fun c_26 => ?_)
    · have h := h.1 c_26
      refine g_sub (lv' := [(0, .ref o0)]) [0] rfl ?_
      exact kX12_debt_b18 hC hR0 hR  h
    · have h := h.2 c_26
      refine g_iload_n (pc := 12) hC 2 dX12_debt_12 rfl rfl ?_
      refine g_bipush (pc := 13) (v := 7) hC dX12_debt_13 (by decide) ?_
      refine g_icmp_le (pc := 15) (tgt := 24) hC dX12_debt_15 (by decide) (fun c_27 => ?_) (fun c_27 => ?_)
      · have h := h.1 c_27
        refine g_aload_n (pc := 24) hC 0 dX12_debt_24 rfl rfl ?_
        refine g_iload_n (pc := 25) hC 2 dX12_debt_25 rfl rfl ?_
        refine g_bipush (pc := 26) (v := 7) hC dX12_debt_26 (by decide) ?_
        refine g_icmp_ne (pc := 28) (tgt := 39) hC dX12_debt_28 (by decide) (fun c_28 => ?_) (fun c_28 => ?_)
        · have h := h.1 c_28
          refine g_aload_n (pc := 39) hC 0 dX12_debt_39 rfl rfl ?_
          refine g_iload_n (pc := 40) hC 1 dX12_debt_40 rfl rfl ?_
          refine g_iload_n (pc := 41) hC 2 dX12_debt_41 rfl rfl ?_
          refine g_callV_i (pc := 42) (wd := fun (u : St) Y => (wX12 o0 a0 (xy C) u Y)) (F := fun Z => Z) (X := []) (As := [.int x1, .int x2]) (rest := [.ref o0]) (u := u_22) hC (fun _ _ => rfl) (fun _ => rfl) (ctX12_debtOf h) wvX12_debtOf ml_X12_264 (ci := 10) (q0 := 0) rfl rfl rfl rfl (rmok hR0 rfl) ⟨Nat.zero_le _, Nat.zero_le _⟩ rfl (Nat.le_of_ble_eq_true rfl) dX12_debt_42 (fun r_30 u_29 h => ?_)
          refine g_sub (lv' := []) [] rfl ?_
          exact kX12_debt_b45 hC hR0 hR  h
        · have h := h.2 c_28
          refine g_aload_n (pc := 31) hC 0 dX12_debt_31 rfl rfl ?_
          refine g_iload_n (pc := 32) hC 1 dX12_debt_32 rfl rfl ?_
          refine g_callV_i (pc := 33) (wd := fun (u : St) Y => (wX12 o0 a0 (xy C) u Y)) (F := fun Z => Z) (X := []) (As := [.int x1]) (rest := [.ref o0]) (u := u_22) hC (fun _ _ => rfl) (fun _ => rfl) (ctX12_owedOf h) wvX12_owedOf ml_X12_282 (ci := 10) (q0 := 0) rfl rfl rfl rfl (rmok hR0 rfl) ⟨Nat.zero_le _, Nat.zero_le _⟩ rfl (Nat.le_of_ble_eq_true rfl) dX12_debt_33 (fun r_33 u_32 h => ?_)
          refine g_goto (pc := 36) (tgt := 45) hC dX12_debt_36 (by decide) ?_
          refine g_sub (lv' := []) [] rfl ?_
          exact kX12_debt_b45 hC hR0 hR  h
      · have h := h.2 c_27
        refine g_sub (lv' := [(0, .ref o0)]) [0] rfl ?_
        exact kX12_debt_b18 hC hR0 hR  h
theorem ctX12_debt {l : Launch} {D : va_G} {cy : Nat → ClassId} {kd : Nat → Nat} {o0 : Nat} {a0 : Nat → Nat} {x1 : Int32} {x2 : Int32} {u0 : St} {post : Int32 → St → Prop} (h : qX12_debt x1 x2 u0 post) : CtI l D cy kd yX12_debt cX12_debt 3 4 .int [.ref o0, .int x1, .int x2] (fun u : St => (wX12 o0 a0 cy u [])) u0 (fun r u => post r u) := met_i (by decide) (Nat.le_of_ble_eq_true rfl) (fun C e1 e2 e3 e4 e5 hC hR => by subst e1 e2 e3 e4; exact kX12_debt hC e5 hR h)
theorem dX12_cash_0 : decode cX12_cash 0 = .ok (.aload_n 0, 1) := by decide +kernel
theorem dX12_cash_1 : decode cX12_cash 1 = .ok (.iload_n 1, 1) := by decide +kernel
theorem dX12_cash_2 : decode cX12_cash 2 = .ok (.invokevirtual 297, 3) := by decide +kernel
theorem dX12_cash_5 : decode cX12_cash 5 = .ok (.ifCond .ne 9, 3) := by decide +kernel
theorem dX12_cash_8 : decode cX12_cash 8 = .ok (.aload_n 0, 1) := by decide +kernel
theorem dX12_cash_9 : decode cX12_cash 9 = .ok (.iconst 1, 1) := by decide +kernel
theorem dX12_cash_10 : decode cX12_cash 10 = .ok (.invokevirtual 88, 3) := by decide +kernel
theorem dX12_cash_13 : decode cX12_cash 13 = .ok (.ireturn, 1) := by decide +kernel
theorem dX12_cash_14 : decode cX12_cash 14 = .ok (.aload_n 0, 1) := by decide +kernel
theorem dX12_cash_15 : decode cX12_cash 15 = .ok (.aload_n 0, 1) := by decide +kernel
theorem dX12_cash_16 : decode cX12_cash 16 = .ok (.getfield 7, 3) := by decide +kernel
theorem dX12_cash_19 : decode cX12_cash 19 = .ok (.bipush 34, 2) := by decide +kernel
theorem dX12_cash_21 : decode cX12_cash 21 = .ok (.iload_n 1, 1) := by decide +kernel
theorem dX12_cash_22 : decode cX12_cash 22 = .ok (.iadd, 1) := by decide +kernel
theorem dX12_cash_23 : decode cX12_cash 23 = .ok (.iaload, 1) := by decide +kernel
theorem dX12_cash_24 : decode cX12_cash 24 = .ok (.invokevirtual 92, 3) := by decide +kernel
theorem dX12_cash_27 : decode cX12_cash 27 = .ok (.ireturn, 1) := by decide +kernel
def qX12_cash (x1 : Int32) (u0 : St) (post : Int32 → St → Prop) : Prop := qX12_isPerson x1 u0 (fun r_11 u_10 => ((¬ r_11 = 0 → (vp_in ((34 : Int32) + x1) 3072 ∧ qX12_gives (ga u_10 0 (((34 : Int32) + x1)).toNatClampNeg) u_10 (fun r_15 u_14 => post r_15 u_14))) ∧ (r_11 = 0 → qX12_refuse (1 : Int32) u_10 (fun r_18 u_17 => post r_18 u_17))))
set_option maxRecDepth 100000 in
set_option maxHeartbeats 4000000 in
theorem kX12_cash {C : Cx} {o0 : Nat} {a0 : Nat → Nat} (hC : Fx C cX12_cash 2 RX12) (hR0 : xR C = rm 2) {post : Int32 → St → Prop} (hR : RI C cX12_cash 2 (fun u : St => (wX12 o0 a0 (xy C) u [])) (fun r u => post r u)) {x1 : Int32} {u0 : St} (h : qX12_cash x1 u0 post) : G C 0 0 2 (wX12 o0 a0 (xy C) u0 []) 0 [(0, .ref o0), (1, .int x1)] [] := by
  refine g_aload_n (pc := 0) hC 0 dX12_cash_0 rfl rfl ?_
  refine g_iload_n (pc := 1) hC 1 dX12_cash_1 rfl rfl ?_
  refine g_callV_i (pc := 2) (wd := fun (u : St) Y => (wX12 o0 a0 (xy C) u Y)) (F := fun Z => Z) (X := []) (As := [.int x1]) (rest := []) (u := u0) hC (fun _ _ => rfl) (fun _ => rfl) (ctX12_isPerson h) wvX12_isPerson ml_X12_297 (ci := 10) (q0 := 0) rfl rfl rfl rfl (rmok hR0 rfl) ⟨Nat.zero_le _, Nat.zero_le _⟩ rfl (Nat.le_of_ble_eq_true rfl) dX12_cash_2 (fun r_11 u_10 h => ?_)
  refine g_if_ne (pc := 5) (tgt := 14) hC dX12_cash_5 (by decide) (fun c_13 => ?_) (fun c_13 => ?_)
  · have h := h.1 c_13
    refine g_aload_n (pc := 14) hC 0 dX12_cash_14 rfl rfl ?_
    refine g_aload_n (pc := 15) hC 0 dX12_cash_15 rfl rfl ?_
    refine getX12_0 (pc := 16) hC (F := fun Z => Z) (X := []) (fun _ => rfl) fl_X12_7 dX12_cash_16 ?_
    refine g_bipush (pc := 19) (v := 34) hC dX12_cash_19 (by decide) ?_
    refine g_iload_n (pc := 21) hC 1 dX12_cash_21 rfl rfl ?_
    refine g_iadd (pc := 22) hC dX12_cash_22 ?_
    refine aldX12_0 (pc := 23) hC (F := fun Z => Z) (X := []) (fun _ => rfl) h.1 dX12_cash_23 ?_
    have h := h.2
    refine g_callV_i (pc := 24) (wd := fun (u : St) Y => (wX12 o0 a0 (xy C) u Y)) (F := fun Z => Z) (X := []) (As := [.int (ga u_10 0 (((34 : Int32) + x1)).toNatClampNeg)]) (rest := []) (u := u_10) hC (fun _ _ => rfl) (fun _ => rfl) (ctX12_gives h) wvX12_gives ml_X12_92 (ci := 10) (q0 := 0) rfl rfl rfl rfl (rmok hR0 rfl) ⟨Nat.zero_le _, Nat.zero_le _⟩ rfl (Nat.le_of_ble_eq_true rfl) dX12_cash_24 (fun r_15 u_14 h => ?_)
    exact hR _ _ _ u_14 dX12_cash_27 h
  · have h := h.2 c_13
    refine g_aload_n (pc := 8) hC 0 dX12_cash_8 rfl rfl ?_
    refine g_iconst (pc := 9) (v := 1) hC dX12_cash_9 (by decide) ?_
    refine g_callV_i (pc := 10) (wd := fun (u : St) Y => (wX12 o0 a0 (xy C) u Y)) (F := fun Z => Z) (X := []) (As := [.int (1 : Int32)]) (rest := []) (u := u_10) hC (fun _ _ => rfl) (fun _ => rfl) (ctX12_refuse h) wvX12_refuse ml_X12_88 (ci := 10) (q0 := 0) rfl rfl rfl rfl (rmok hR0 rfl) ⟨Nat.zero_le _, Nat.zero_le _⟩ rfl (Nat.le_of_ble_eq_true rfl) dX12_cash_10 (fun r_18 u_17 h => ?_)
    exact hR _ _ _ u_17 dX12_cash_13 h
theorem ctX12_cash {l : Launch} {D : va_G} {cy : Nat → ClassId} {kd : Nat → Nat} {o0 : Nat} {a0 : Nat → Nat} {x1 : Int32} {u0 : St} {post : Int32 → St → Prop} (h : qX12_cash x1 u0 post) : CtI l D cy kd yX12_cash cX12_cash 2 2 .int [.ref o0, .int x1] (fun u : St => (wX12 o0 a0 cy u [])) u0 (fun r u => post r u) := met_i (by decide) (Nat.le_of_ble_eq_true rfl) (fun C e1 e2 e3 e4 e5 hC hR => by subst e1 e2 e3 e4; exact kX12_cash hC e5 hR h)
theorem dX12_netOf_0 : decode cX12_netOf 0 = .ok (.aload_n 0, 1) := by decide +kernel
theorem dX12_netOf_1 : decode cX12_netOf 1 = .ok (.getfield 7, 3) := by decide +kernel
theorem dX12_netOf_4 : decode cX12_netOf 4 = .ok (.bipush 34, 2) := by decide +kernel
theorem dX12_netOf_6 : decode cX12_netOf 6 = .ok (.iload_n 1, 1) := by decide +kernel
theorem dX12_netOf_7 : decode cX12_netOf 7 = .ok (.iadd, 1) := by decide +kernel
theorem dX12_netOf_8 : decode cX12_netOf 8 = .ok (.iaload, 1) := by decide +kernel
theorem dX12_netOf_9 : decode cX12_netOf 9 = .ok (.istore_n 2, 1) := by decide +kernel
theorem dX12_netOf_10 : decode cX12_netOf 10 = .ok (.iconst 0, 1) := by decide +kernel
theorem dX12_netOf_11 : decode cX12_netOf 11 = .ok (.istore_n 3, 1) := by decide +kernel
theorem dX12_netOf_12 : decode cX12_netOf 12 = .ok (.iload_n 3, 1) := by decide +kernel
theorem dX12_netOf_13 : decode cX12_netOf 13 = .ok (.aload_n 0, 1) := by decide +kernel
theorem dX12_netOf_14 : decode cX12_netOf 14 = .ok (.getfield 7, 3) := by decide +kernel
theorem dX12_netOf_17 : decode cX12_netOf 17 = .ok (.iconst 2, 1) := by decide +kernel
theorem dX12_netOf_18 : decode cX12_netOf 18 = .ok (.iaload, 1) := by decide +kernel
theorem dX12_netOf_19 : decode cX12_netOf 19 = .ok (.if_icmp .ge 53, 3) := by decide +kernel
theorem dX12_netOf_22 : decode cX12_netOf 22 = .ok (.iload_n 2, 1) := by decide +kernel
theorem dX12_netOf_23 : decode cX12_netOf 23 = .ok (.aload_n 0, 1) := by decide +kernel
theorem dX12_netOf_24 : decode cX12_netOf 24 = .ok (.iload_n 3, 1) := by decide +kernel
theorem dX12_netOf_25 : decode cX12_netOf 25 = .ok (.iconst 0, 1) := by decide +kernel
theorem dX12_netOf_26 : decode cX12_netOf 26 = .ok (.invokevirtual 264, 3) := by decide +kernel
theorem dX12_netOf_29 : decode cX12_netOf 29 = .ok (.iload_n 1, 1) := by decide +kernel
theorem dX12_netOf_30 : decode cX12_netOf 30 = .ok (.if_icmp .ne 11, 3) := by decide +kernel
theorem dX12_netOf_33 : decode cX12_netOf 33 = .ok (.aload_n 0, 1) := by decide +kernel
theorem dX12_netOf_34 : decode cX12_netOf 34 = .ok (.iload_n 3, 1) := by decide +kernel
theorem dX12_netOf_35 : decode cX12_netOf 35 = .ok (.invokevirtual 282, 3) := by decide +kernel
theorem dX12_netOf_38 : decode cX12_netOf 38 = .ok (.goto 4, 3) := by decide +kernel
theorem dX12_netOf_41 : decode cX12_netOf 41 = .ok (.iconst 0, 1) := by decide +kernel
theorem dX12_netOf_42 : decode cX12_netOf 42 = .ok (.isub, 1) := by decide +kernel
theorem dX12_netOf_43 : decode cX12_netOf 43 = .ok (.istore_n 2, 1) := by decide +kernel
theorem dX12_netOf_44 : decode cX12_netOf 44 = .ok (.iload_n 2, 1) := by decide +kernel
theorem dX12_netOf_45 : decode cX12_netOf 45 = .ok (.aload_n 0, 1) := by decide +kernel
theorem dX12_netOf_46 : decode cX12_netOf 46 = .ok (.iload_n 3, 1) := by decide +kernel
theorem dX12_netOf_47 : decode cX12_netOf 47 = .ok (.iconst 1, 1) := by decide +kernel
theorem dX12_netOf_48 : decode cX12_netOf 48 = .ok (.invokevirtual 264, 3) := by decide +kernel
theorem dX12_netOf_51 : decode cX12_netOf 51 = .ok (.iload_n 1, 1) := by decide +kernel
theorem dX12_netOf_52 : decode cX12_netOf 52 = .ok (.if_icmp .ne 11, 3) := by decide +kernel
theorem dX12_netOf_55 : decode cX12_netOf 55 = .ok (.aload_n 0, 1) := by decide +kernel
theorem dX12_netOf_56 : decode cX12_netOf 56 = .ok (.iload_n 3, 1) := by decide +kernel
theorem dX12_netOf_57 : decode cX12_netOf 57 = .ok (.invokevirtual 282, 3) := by decide +kernel
theorem dX12_netOf_60 : decode cX12_netOf 60 = .ok (.goto 4, 3) := by decide +kernel
theorem dX12_netOf_63 : decode cX12_netOf 63 = .ok (.iconst 0, 1) := by decide +kernel
theorem dX12_netOf_64 : decode cX12_netOf 64 = .ok (.iadd, 1) := by decide +kernel
theorem dX12_netOf_65 : decode cX12_netOf 65 = .ok (.istore_n 2, 1) := by decide +kernel
theorem dX12_netOf_66 : decode cX12_netOf 66 = .ok (.iinc 3 1, 3) := by decide +kernel
theorem dX12_netOf_69 : decode cX12_netOf 69 = .ok (.goto (-57), 3) := by decide +kernel
theorem dX12_netOf_72 : decode cX12_netOf 72 = .ok (.iload_n 2, 1) := by decide +kernel
theorem dX12_netOf_73 : decode cX12_netOf 73 = .ok (.ireturn, 1) := by decide +kernel
def qX12_netOf_b64  (post : Int32 → St → Prop) (K12 : Int32 → Int32 → Int32 → St → Prop) (x1 : Int32) (x3 : Int32) (s0 : Int32) (s1 : Int32) (u0 : St) : Prop := ∀ x2_14 : Int32, x2_14 = (s1 + s0) → ∀ x3_15 : Int32, x3_15 = x3 + (1 : Int32) → K12 x1 x2_14 x3_15 u0
set_option maxRecDepth 100000 in
set_option maxHeartbeats 4000000 in
theorem kX12_netOf_b64 {C : Cx} {o0 : Nat} {a0 : Nat → Nat} (hC : Fx C cX12_netOf 4 RX12) (hR0 : xR C = rm 4) {post : Int32 → St → Prop} (hR : RI C cX12_netOf 4 (fun u : St => (wX12 o0 a0 (xy C) u [])) (fun r u => post r u)) {K12 : Int32 → Int32 → Int32 → St → Prop} (hK12 : ∀ (x1 : Int32) (x2 : Int32) (x3 : Int32) (u0 : St), K12 x1 x2 x3 u0 → G C 0 0 4 (wX12 o0 a0 (xy C) u0 []) 12 [(0, .ref o0), (1, .int x1), (2, .int x2), (3, .int x3)] []) {x1 : Int32} {x3 : Int32} {s0 : Int32} {s1 : Int32} {u0 : St} (h : qX12_netOf_b64 post K12 x1 x3 s0 s1 u0) : G C 0 0 4 (wX12 o0 a0 (xy C) u0 []) 64 [(0, .ref o0), (1, .int x1), (3, .int x3)] [.int s0, .int s1] := by
  refine g_iadd (pc := 64) hC dX12_netOf_64 ?_
  refine g_topi (fun x2_14 ex2_14 => ?_)
  have h := h x2_14 ex2_14
  refine g_istore_n (pc := 65) (lv' := [(2, .int x2_14), (0, .ref o0), (1, .int x1), (3, .int x3)]) hC dX12_netOf_65 rfl (Nat.le_of_ble_eq_true rfl) rfl ?_
  obtain ⟨x3_15, ex3_15⟩ : ∃ z : Int32, z = x3 + (1 : Int32) := ⟨_, rfl⟩
  have h := h x3_15 ex3_15
  refine g_iinc (pc := 66) (v := x3_15) (lv' := [(3, .int x3_15), (2, .int x2_14), (0, .ref o0), (1, .int x1)]) hC 3 dX12_netOf_66 rfl (by rw [ex3_15]; rfl) (Nat.le_of_ble_eq_true rfl) rfl ?_
  refine g_goto (pc := 69) (tgt := 12) hC dX12_netOf_69 (by decide) ?_
  refine g_sub (lv' := [(0, .ref o0), (1, .int x1), (2, .int x2_14), (3, .int x3_15)]) [2, 3, 1, 0] rfl ?_
  exact hK12 _ _ _ _ h
def qX12_netOf_b42  (post : Int32 → St → Prop) (K12 : Int32 → Int32 → Int32 → St → Prop) (x1 : Int32) (x3 : Int32) (s0 : Int32) (s1 : Int32) (u0 : St) : Prop := ∀ x2_16 : Int32, x2_16 = (s1 - s0) → qX12_debtOf x3 (1 : Int32) u0 (fun r_18 u_17 => ((¬ r_18 = x1 → qX12_netOf_b64 post K12 x1 x3 (0 : Int32) x2_16 u_17) ∧ (r_18 = x1 → qX12_owedOf x3 u_17 (fun r_22 u_21 => qX12_netOf_b64 post K12 x1 x3 r_22 x2_16 u_21))))
set_option maxRecDepth 100000 in
set_option maxHeartbeats 4000000 in
theorem kX12_netOf_b42 {C : Cx} {o0 : Nat} {a0 : Nat → Nat} (hC : Fx C cX12_netOf 4 RX12) (hR0 : xR C = rm 4) {post : Int32 → St → Prop} (hR : RI C cX12_netOf 4 (fun u : St => (wX12 o0 a0 (xy C) u [])) (fun r u => post r u)) {K12 : Int32 → Int32 → Int32 → St → Prop} (hK12 : ∀ (x1 : Int32) (x2 : Int32) (x3 : Int32) (u0 : St), K12 x1 x2 x3 u0 → G C 0 0 4 (wX12 o0 a0 (xy C) u0 []) 12 [(0, .ref o0), (1, .int x1), (2, .int x2), (3, .int x3)] []) {x1 : Int32} {x3 : Int32} {s0 : Int32} {s1 : Int32} {u0 : St} (h : qX12_netOf_b42 post K12 x1 x3 s0 s1 u0) : G C 0 0 4 (wX12 o0 a0 (xy C) u0 []) 42 [(0, .ref o0), (1, .int x1), (3, .int x3)] [.int s0, .int s1] := by
  refine g_isub (pc := 42) hC dX12_netOf_42 ?_
  refine g_topi (fun x2_16 ex2_16 => ?_)
  have h := h x2_16 ex2_16
  refine g_istore_n (pc := 43) (lv' := [(2, .int x2_16), (0, .ref o0), (1, .int x1), (3, .int x3)]) hC dX12_netOf_43 rfl (Nat.le_of_ble_eq_true rfl) rfl ?_
  refine g_iload_n (pc := 44) hC 0 dX12_netOf_44 rfl rfl ?_
  refine g_aload_n (pc := 45) hC 1 dX12_netOf_45 rfl rfl ?_
  refine g_iload_n (pc := 46) hC 3 dX12_netOf_46 rfl rfl ?_
  refine g_iconst (pc := 47) (v := 1) hC dX12_netOf_47 (by decide) ?_
  refine g_callV_i (pc := 48) (wd := fun (u : St) Y => (wX12 o0 a0 (xy C) u Y)) (F := fun Z => Z) (X := []) (As := [.int x3, .int (1 : Int32)]) (rest := [.int x2_16]) (u := u0) hC (fun _ _ => rfl) (fun _ => rfl) (ctX12_debtOf h) wvX12_debtOf ml_X12_264 (ci := 10) (q0 := 0) rfl rfl rfl rfl (rmok hR0 rfl) ⟨Nat.zero_le _, Nat.zero_le _⟩ rfl (Nat.le_of_ble_eq_true rfl) dX12_netOf_48 (fun r_18 u_17 h => ?_)
  refine g_iload_n (pc := 51) hC 2 dX12_netOf_51 rfl rfl ?_
  refine g_icmp_ne (pc := 52) (tgt := 63) hC dX12_netOf_52 (by decide) (fun c_20 => ?_) (fun c_20 => ?_)
  · have h := h.1 c_20
    refine g_iconst (pc := 63) (v := 0) hC dX12_netOf_63 (by decide) ?_
    refine g_sub (lv' := [(0, .ref o0), (1, .int x1), (3, .int x3)]) [1, 2, 3] rfl ?_
    exact kX12_netOf_b64 hC hR0 hR hK12 h
  · have h := h.2 c_20
    refine g_aload_n (pc := 55) hC 1 dX12_netOf_55 rfl rfl ?_
    refine g_iload_n (pc := 56) hC 3 dX12_netOf_56 rfl rfl ?_
    refine g_callV_i (pc := 57) (wd := fun (u : St) Y => (wX12 o0 a0 (xy C) u Y)) (F := fun Z => Z) (X := []) (As := [.int x3]) (rest := [.int x2_16]) (u := u_17) hC (fun _ _ => rfl) (fun _ => rfl) (ctX12_owedOf h) wvX12_owedOf ml_X12_282 (ci := 10) (q0 := 0) rfl rfl rfl rfl (rmok hR0 rfl) ⟨Nat.zero_le _, Nat.zero_le _⟩ rfl (Nat.le_of_ble_eq_true rfl) dX12_netOf_57 (fun r_22 u_21 h => ?_)
    refine g_goto (pc := 60) (tgt := 64) hC dX12_netOf_60 (by decide) ?_
    refine g_sub (lv' := [(0, .ref o0), (1, .int x1), (3, .int x3)]) [1, 2, 3] rfl ?_
    exact kX12_netOf_b64 hC hR0 hR hK12 h
def qX12_netOf_l12  (post : Int32 → St → Prop) (K12 : Int32 → Int32 → Int32 → St → Prop) (x1 : Int32) (x2 : Int32) (x3 : Int32) (u0 : St) : Prop := (((ga u0 0 ((2 : Int32)).toNatClampNeg) ≤ x3 → post x2 u0) ∧ (¬ (ga u0 0 ((2 : Int32)).toNatClampNeg) ≤ x3 → qX12_debtOf x3 (0 : Int32) u0 (fun r_26 u_25 => ((¬ r_26 = x1 → qX12_netOf_b42 post K12 x1 x3 (0 : Int32) x2 u_25) ∧ (r_26 = x1 → qX12_owedOf x3 u_25 (fun r_30 u_29 => qX12_netOf_b42 post K12 x1 x3 r_30 x2 u_29))))))
set_option maxRecDepth 100000 in
set_option maxHeartbeats 4000000 in
theorem kX12_netOf_l12 {C : Cx} {o0 : Nat} {a0 : Nat → Nat} (hC : Fx C cX12_netOf 4 RX12) (hR0 : xR C = rm 4) {post : Int32 → St → Prop} (hR : RI C cX12_netOf 4 (fun u : St => (wX12 o0 a0 (xy C) u [])) (fun r u => post r u))  {K12 : Int32 → Int32 → Int32 → St → Prop} (hK12 : ∀ (x1 : Int32) (x2 : Int32) (x3 : Int32) (u0 : St), K12 x1 x2 x3 u0 → G C 0 0 4 (wX12 o0 a0 (xy C) u0 []) 12 [(0, .ref o0), (1, .int x1), (2, .int x2), (3, .int x3)] []) {x1 : Int32} {x2 : Int32} {x3 : Int32} {u0 : St} (h : qX12_netOf_l12 post K12 x1 x2 x3 u0) : G C 0 0 4 (wX12 o0 a0 (xy C) u0 []) 12 [(0, .ref o0), (1, .int x1), (2, .int x2), (3, .int x3)] [] := by
  refine g_iload_n (pc := 12) hC 3 dX12_netOf_12 rfl rfl ?_
  refine g_aload_n (pc := 13) hC 0 dX12_netOf_13 rfl rfl ?_
  refine getX12_0 (pc := 14) hC (F := fun Z => Z) (X := []) (fun _ => rfl) fl_X12_7 dX12_netOf_14 ?_
  refine g_iconst (pc := 17) (v := 2) hC dX12_netOf_17 (by decide) ?_
  refine aldX12_0 (pc := 18) hC (F := fun Z => Z) (X := []) (fun _ => rfl) (by unfold vp_in; decide) dX12_netOf_18 ?_
  refine g_icmp_ge (pc := 19) (tgt := 72) hC dX12_netOf_19 (by decide) (fun c_24 => ?_) (fun c_24 => ?_)
  · have h := h.1 c_24
    refine g_iload_n (pc := 72) hC 2 dX12_netOf_72 rfl rfl ?_
    exact hR _ _ _ u0 dX12_netOf_73 h
  · have h := h.2 c_24
    refine g_iload_n (pc := 22) hC 2 dX12_netOf_22 rfl rfl ?_
    refine g_aload_n (pc := 23) hC 0 dX12_netOf_23 rfl rfl ?_
    refine g_iload_n (pc := 24) hC 3 dX12_netOf_24 rfl rfl ?_
    refine g_iconst (pc := 25) (v := 0) hC dX12_netOf_25 (by decide) ?_
    refine g_callV_i (pc := 26) (wd := fun (u : St) Y => (wX12 o0 a0 (xy C) u Y)) (F := fun Z => Z) (X := []) (As := [.int x3, .int (0 : Int32)]) (rest := [.int x2]) (u := u0) hC (fun _ _ => rfl) (fun _ => rfl) (ctX12_debtOf h) wvX12_debtOf ml_X12_264 (ci := 10) (q0 := 0) rfl rfl rfl rfl (rmok hR0 rfl) ⟨Nat.zero_le _, Nat.zero_le _⟩ rfl (Nat.le_of_ble_eq_true rfl) dX12_netOf_26 (fun r_26 u_25 h => ?_)
    refine g_iload_n (pc := 29) hC 1 dX12_netOf_29 rfl rfl ?_
    refine g_icmp_ne (pc := 30) (tgt := 41) hC dX12_netOf_30 (by decide) (fun c_28 => ?_) (fun c_28 => ?_)
    · have h := h.1 c_28
      refine g_iconst (pc := 41) (v := 0) hC dX12_netOf_41 (by decide) ?_
      refine g_sub (lv' := [(0, .ref o0), (1, .int x1), (3, .int x3)]) [0, 1, 3] rfl ?_
      exact kX12_netOf_b42 hC hR0 hR hK12 h
    · have h := h.2 c_28
      refine g_aload_n (pc := 33) hC 0 dX12_netOf_33 rfl rfl ?_
      refine g_iload_n (pc := 34) hC 3 dX12_netOf_34 rfl rfl ?_
      refine g_callV_i (pc := 35) (wd := fun (u : St) Y => (wX12 o0 a0 (xy C) u Y)) (F := fun Z => Z) (X := []) (As := [.int x3]) (rest := [.int x2]) (u := u_25) hC (fun _ _ => rfl) (fun _ => rfl) (ctX12_owedOf h) wvX12_owedOf ml_X12_282 (ci := 10) (q0 := 0) rfl rfl rfl rfl (rmok hR0 rfl) ⟨Nat.zero_le _, Nat.zero_le _⟩ rfl (Nat.le_of_ble_eq_true rfl) dX12_netOf_35 (fun r_30 u_29 h => ?_)
      refine g_goto (pc := 38) (tgt := 42) hC dX12_netOf_38 (by decide) ?_
      refine g_sub (lv' := [(0, .ref o0), (1, .int x1), (3, .int x3)]) [0, 1, 3] rfl ?_
      exact kX12_netOf_b42 hC hR0 hR hK12 h
def qX12_netOf_L12  (post : Int32 → St → Prop)  : Nat → Int32 → Int32 → Int32 → St → Prop
  | 0 => fun _ _ _ _ => False
  | n + 1 => qX12_netOf_l12 post (qX12_netOf_L12 post n)
theorem kX12_netOf_L12 {C : Cx} {o0 : Nat} {a0 : Nat → Nat} (hC : Fx C cX12_netOf 4 RX12) (hR0 : xR C = rm 4) {post : Int32 → St → Prop} (hR : RI C cX12_netOf 4 (fun u : St => (wX12 o0 a0 (xy C) u [])) (fun r u => post r u))  : ∀ (n : Nat) (x1 : Int32) (x2 : Int32) (x3 : Int32) (u0 : St), qX12_netOf_L12 post n x1 x2 x3 u0 → G C 0 0 4 (wX12 o0 a0 (xy C) u0 []) 12 [(0, .ref o0), (1, .int x1), (2, .int x2), (3, .int x3)] [] := by
  intro n
  induction n with
  | zero => intro x1 x2 x3 u0 h; exact h.elim
  | succ n ih => intro x1 x2 x3 u0 h; exact kX12_netOf_l12 hC hR0 hR  ih h
def qX12_netOf (x1 : Int32) (u0 : St) (post : Int32 → St → Prop) : Prop := (vp_in ((34 : Int32) + x1) 3072 ∧ ∀ x2_32 : Int32, x2_32 = (ga u0 0 (((34 : Int32) + x1)).toNatClampNeg) → ∃ n_33 : Nat, qX12_netOf_L12 post n_33 x1 x2_32 (0 : Int32) u0)
set_option maxRecDepth 100000 in
set_option maxHeartbeats 4000000 in
theorem kX12_netOf {C : Cx} {o0 : Nat} {a0 : Nat → Nat} (hC : Fx C cX12_netOf 4 RX12) (hR0 : xR C = rm 4) {post : Int32 → St → Prop} (hR : RI C cX12_netOf 4 (fun u : St => (wX12 o0 a0 (xy C) u [])) (fun r u => post r u)) {x1 : Int32} {u0 : St} (h : qX12_netOf x1 u0 post) : G C 0 0 4 (wX12 o0 a0 (xy C) u0 []) 0 [(0, .ref o0), (1, .int x1)] [] := by
  refine g_aload_n (pc := 0) hC 0 dX12_netOf_0 rfl rfl ?_
  refine getX12_0 (pc := 1) hC (F := fun Z => Z) (X := []) (fun _ => rfl) fl_X12_7 dX12_netOf_1 ?_
  refine g_bipush (pc := 4) (v := 34) hC dX12_netOf_4 (by decide) ?_
  refine g_iload_n (pc := 6) hC 1 dX12_netOf_6 rfl rfl ?_
  refine g_iadd (pc := 7) hC dX12_netOf_7 ?_
  refine aldX12_0 (pc := 8) hC (F := fun Z => Z) (X := []) (fun _ => rfl) h.1 dX12_netOf_8 ?_
  have h := h.2
  refine g_topi (fun x2_32 ex2_32 => ?_)
  have h := h x2_32 ex2_32
  refine g_istore_n (pc := 9) (lv' := [(2, .int x2_32), (0, .ref o0), (1, .int x1)]) hC dX12_netOf_9 rfl (Nat.le_of_ble_eq_true rfl) rfl ?_
  refine g_iconst (pc := 10) (v := 0) hC dX12_netOf_10 (by decide) ?_
  refine g_istore_n (pc := 11) (lv' := [(3, .int (0 : Int32)), (2, .int x2_32), (0, .ref o0), (1, .int x1)]) hC dX12_netOf_11 rfl (Nat.le_of_ble_eq_true rfl) rfl ?_
  refine g_sub (lv' := [(0, .ref o0), (1, .int x1), (2, .int x2_32), (3, .int (0 : Int32))]) [2, 3, 1, 0] rfl ?_
  obtain ⟨n_33, h⟩ := h
  exact kX12_netOf_L12 hC hR0 hR  n_33 _ _ _ _ h
theorem ctX12_netOf {l : Launch} {D : va_G} {cy : Nat → ClassId} {kd : Nat → Nat} {o0 : Nat} {a0 : Nat → Nat} {x1 : Int32} {u0 : St} {post : Int32 → St → Prop} (h : qX12_netOf x1 u0 post) : CtI l D cy kd yX12_netOf cX12_netOf 4 4 .int [.ref o0, .int x1] (fun u : St => (wX12 o0 a0 cy u [])) u0 (fun r u => post r u) := met_i (by decide) (Nat.le_of_ble_eq_true rfl) (fun C e1 e2 e3 e4 e5 hC hR => by subst e1 e2 e3 e4; exact kX12_netOf hC e5 hR h)
theorem dX12_net_0 : decode cX12_net 0 = .ok (.aload_n 0, 1) := by decide +kernel
theorem dX12_net_1 : decode cX12_net 1 = .ok (.iload_n 1, 1) := by decide +kernel
theorem dX12_net_2 : decode cX12_net 2 = .ok (.invokevirtual 297, 3) := by decide +kernel
theorem dX12_net_5 : decode cX12_net 5 = .ok (.ifCond .ne 9, 3) := by decide +kernel
theorem dX12_net_8 : decode cX12_net 8 = .ok (.aload_n 0, 1) := by decide +kernel
theorem dX12_net_9 : decode cX12_net 9 = .ok (.iconst 1, 1) := by decide +kernel
theorem dX12_net_10 : decode cX12_net 10 = .ok (.invokevirtual 88, 3) := by decide +kernel
theorem dX12_net_13 : decode cX12_net 13 = .ok (.ireturn, 1) := by decide +kernel
theorem dX12_net_14 : decode cX12_net 14 = .ok (.aload_n 0, 1) := by decide +kernel
theorem dX12_net_15 : decode cX12_net 15 = .ok (.aload_n 0, 1) := by decide +kernel
theorem dX12_net_16 : decode cX12_net 16 = .ok (.iload_n 1, 1) := by decide +kernel
theorem dX12_net_17 : decode cX12_net 17 = .ok (.invokevirtual 300, 3) := by decide +kernel
theorem dX12_net_20 : decode cX12_net 20 = .ok (.invokevirtual 92, 3) := by decide +kernel
theorem dX12_net_23 : decode cX12_net 23 = .ok (.ireturn, 1) := by decide +kernel
def qX12_net (x1 : Int32) (u0 : St) (post : Int32 → St → Prop) : Prop := qX12_isPerson x1 u0 (fun r_14 u_13 => ((¬ r_14 = 0 → qX12_netOf x1 u_13 (fun r_18 u_17 => qX12_gives r_18 u_17 (fun r_21 u_20 => post r_21 u_20))) ∧ (r_14 = 0 → qX12_refuse (1 : Int32) u_13 (fun r_24 u_23 => post r_24 u_23))))
set_option maxRecDepth 100000 in
set_option maxHeartbeats 4000000 in
theorem kX12_net {C : Cx} {o0 : Nat} {a0 : Nat → Nat} (hC : Fx C cX12_net 2 RX12) (hR0 : xR C = rm 5) {post : Int32 → St → Prop} (hR : RI C cX12_net 2 (fun u : St => (wX12 o0 a0 (xy C) u [])) (fun r u => post r u)) {x1 : Int32} {u0 : St} (h : qX12_net x1 u0 post) : G C 0 0 2 (wX12 o0 a0 (xy C) u0 []) 0 [(0, .ref o0), (1, .int x1)] [] := by
  refine g_aload_n (pc := 0) hC 0 dX12_net_0 rfl rfl ?_
  refine g_iload_n (pc := 1) hC 1 dX12_net_1 rfl rfl ?_
  refine g_callV_i (pc := 2) (wd := fun (u : St) Y => (wX12 o0 a0 (xy C) u Y)) (F := fun Z => Z) (X := []) (As := [.int x1]) (rest := []) (u := u0) hC (fun _ _ => rfl) (fun _ => rfl) (ctX12_isPerson h) wvX12_isPerson ml_X12_297 (ci := 10) (q0 := 0) rfl rfl rfl rfl (rmok hR0 rfl) ⟨Nat.zero_le _, Nat.zero_le _⟩ rfl (Nat.le_of_ble_eq_true rfl) dX12_net_2 (fun r_14 u_13 h => ?_)
  refine g_if_ne (pc := 5) (tgt := 14) hC dX12_net_5 (by decide) (fun c_16 => ?_) (fun c_16 => ?_)
  · have h := h.1 c_16
    refine g_aload_n (pc := 14) hC 0 dX12_net_14 rfl rfl ?_
    refine g_aload_n (pc := 15) hC 0 dX12_net_15 rfl rfl ?_
    refine g_iload_n (pc := 16) hC 1 dX12_net_16 rfl rfl ?_
    refine g_callV_i (pc := 17) (wd := fun (u : St) Y => (wX12 o0 a0 (xy C) u Y)) (F := fun Z => Z) (X := []) (As := [.int x1]) (rest := [.ref o0]) (u := u_13) hC (fun _ _ => rfl) (fun _ => rfl) (ctX12_netOf h) wvX12_netOf ml_X12_300 (ci := 10) (q0 := 0) rfl rfl rfl rfl (rmok hR0 rfl) ⟨Nat.zero_le _, Nat.zero_le _⟩ rfl (Nat.le_of_ble_eq_true rfl) dX12_net_17 (fun r_18 u_17 h => ?_)
    refine g_callV_i (pc := 20) (wd := fun (u : St) Y => (wX12 o0 a0 (xy C) u Y)) (F := fun Z => Z) (X := []) (As := [.int r_18]) (rest := []) (u := u_17) hC (fun _ _ => rfl) (fun _ => rfl) (ctX12_gives h) wvX12_gives ml_X12_92 (ci := 10) (q0 := 0) rfl rfl rfl rfl (rmok hR0 rfl) ⟨Nat.zero_le _, Nat.zero_le _⟩ rfl (Nat.le_of_ble_eq_true rfl) dX12_net_20 (fun r_21 u_20 h => ?_)
    exact hR _ _ _ u_20 dX12_net_23 h
  · have h := h.2 c_16
    refine g_aload_n (pc := 8) hC 0 dX12_net_8 rfl rfl ?_
    refine g_iconst (pc := 9) (v := 1) hC dX12_net_9 (by decide) ?_
    refine g_callV_i (pc := 10) (wd := fun (u : St) Y => (wX12 o0 a0 (xy C) u Y)) (F := fun Z => Z) (X := []) (As := [.int (1 : Int32)]) (rest := []) (u := u_13) hC (fun _ _ => rfl) (fun _ => rfl) (ctX12_refuse h) wvX12_refuse ml_X12_88 (ci := 10) (q0 := 0) rfl rfl rfl rfl (rmok hR0 rfl) ⟨Nat.zero_le _, Nat.zero_le _⟩ rfl (Nat.le_of_ble_eq_true rfl) dX12_net_10 (fun r_24 u_23 h => ?_)
    exact hR _ _ _ u_23 dX12_net_13 h
theorem ctX12_net {l : Launch} {D : va_G} {cy : Nat → ClassId} {kd : Nat → Nat} {o0 : Nat} {a0 : Nat → Nat} {x1 : Int32} {u0 : St} {post : Int32 → St → Prop} (h : qX12_net x1 u0 post) : CtI l D cy kd yX12_net cX12_net 2 5 .int [.ref o0, .int x1] (fun u : St => (wX12 o0 a0 cy u [])) u0 (fun r u => post r u) := met_i (by decide) (Nat.le_of_ble_eq_true rfl) (fun C e1 e2 e3 e4 e5 hC hR => by subst e1 e2 e3 e4; exact kX12_net hC e5 hR h)
theorem dX12_shorts_0 : decode cX12_shorts 0 = .ok (.iconst 0, 1) := by decide +kernel
theorem dX12_shorts_1 : decode cX12_shorts 1 = .ok (.istore_n 1, 1) := by decide +kernel
theorem dX12_shorts_2 : decode cX12_shorts 2 = .ok (.iconst 0, 1) := by decide +kernel
theorem dX12_shorts_3 : decode cX12_shorts 3 = .ok (.istore_n 2, 1) := by decide +kernel
theorem dX12_shorts_4 : decode cX12_shorts 4 = .ok (.iload_n 2, 1) := by decide +kernel
theorem dX12_shorts_5 : decode cX12_shorts 5 = .ok (.aload_n 0, 1) := by decide +kernel
theorem dX12_shorts_6 : decode cX12_shorts 6 = .ok (.getfield 7, 3) := by decide +kernel
theorem dX12_shorts_9 : decode cX12_shorts 9 = .ok (.iconst 1, 1) := by decide +kernel
theorem dX12_shorts_10 : decode cX12_shorts 10 = .ok (.iaload, 1) := by decide +kernel
theorem dX12_shorts_11 : decode cX12_shorts 11 = .ok (.if_icmp .ge 27, 3) := by decide +kernel
theorem dX12_shorts_14 : decode cX12_shorts 14 = .ok (.iload_n 1, 1) := by decide +kernel
theorem dX12_shorts_15 : decode cX12_shorts 15 = .ok (.aload_n 0, 1) := by decide +kernel
theorem dX12_shorts_16 : decode cX12_shorts 16 = .ok (.iload_n 2, 1) := by decide +kernel
theorem dX12_shorts_17 : decode cX12_shorts 17 = .ok (.invokevirtual 300, 3) := by decide +kernel
theorem dX12_shorts_20 : decode cX12_shorts 20 = .ok (.ifCond .ge 9, 3) := by decide +kernel
theorem dX12_shorts_23 : decode cX12_shorts 23 = .ok (.iconst 1, 1) := by decide +kernel
theorem dX12_shorts_24 : decode cX12_shorts 24 = .ok (.iload_n 2, 1) := by decide +kernel
theorem dX12_shorts_25 : decode cX12_shorts 25 = .ok (.ishl, 1) := by decide +kernel
theorem dX12_shorts_26 : decode cX12_shorts 26 = .ok (.goto 4, 3) := by decide +kernel
theorem dX12_shorts_29 : decode cX12_shorts 29 = .ok (.iconst 0, 1) := by decide +kernel
theorem dX12_shorts_30 : decode cX12_shorts 30 = .ok (.ior, 1) := by decide +kernel
theorem dX12_shorts_31 : decode cX12_shorts 31 = .ok (.istore_n 1, 1) := by decide +kernel
theorem dX12_shorts_32 : decode cX12_shorts 32 = .ok (.iinc 2 1, 3) := by decide +kernel
theorem dX12_shorts_35 : decode cX12_shorts 35 = .ok (.goto (-31), 3) := by decide +kernel
theorem dX12_shorts_38 : decode cX12_shorts 38 = .ok (.aload_n 0, 1) := by decide +kernel
theorem dX12_shorts_39 : decode cX12_shorts 39 = .ok (.iload_n 1, 1) := by decide +kernel
theorem dX12_shorts_40 : decode cX12_shorts 40 = .ok (.invokevirtual 92, 3) := by decide +kernel
theorem dX12_shorts_43 : decode cX12_shorts 43 = .ok (.ireturn, 1) := by decide +kernel
def qX12_shorts_b30  (post : Int32 → St → Prop) (K4 : Int32 → Int32 → St → Prop) (x2 : Int32) (s0 : Int32) (s1 : Int32) (u0 : St) : Prop := ∀ x1_8 : Int32, x1_8 = (s1 ||| s0) → ∀ x2_9 : Int32, x2_9 = x2 + (1 : Int32) → K4 x1_8 x2_9 u0
set_option maxRecDepth 100000 in
set_option maxHeartbeats 4000000 in
theorem kX12_shorts_b30 {C : Cx} {o0 : Nat} {a0 : Nat → Nat} (hC : Fx C cX12_shorts 3 RX12) (hR0 : xR C = rm 5) {post : Int32 → St → Prop} (hR : RI C cX12_shorts 3 (fun u : St => (wX12 o0 a0 (xy C) u [])) (fun r u => post r u)) {K4 : Int32 → Int32 → St → Prop} (hK4 : ∀ (x1 : Int32) (x2 : Int32) (u0 : St), K4 x1 x2 u0 → G C 0 0 3 (wX12 o0 a0 (xy C) u0 []) 4 [(0, .ref o0), (1, .int x1), (2, .int x2)] []) {x2 : Int32} {s0 : Int32} {s1 : Int32} {u0 : St} (h : qX12_shorts_b30 post K4 x2 s0 s1 u0) : G C 0 0 3 (wX12 o0 a0 (xy C) u0 []) 30 [(0, .ref o0), (2, .int x2)] [.int s0, .int s1] := by
  refine g_ior (pc := 30) hC dX12_shorts_30 ?_
  refine g_topi (fun x1_8 ex1_8 => ?_)
  have h := h x1_8 ex1_8
  refine g_istore_n (pc := 31) (lv' := [(1, .int x1_8), (0, .ref o0), (2, .int x2)]) hC dX12_shorts_31 rfl (Nat.le_of_ble_eq_true rfl) rfl ?_
  obtain ⟨x2_9, ex2_9⟩ : ∃ z : Int32, z = x2 + (1 : Int32) := ⟨_, rfl⟩
  have h := h x2_9 ex2_9
  refine g_iinc (pc := 32) (v := x2_9) (lv' := [(2, .int x2_9), (1, .int x1_8), (0, .ref o0)]) hC 2 dX12_shorts_32 rfl (by rw [ex2_9]; rfl) (Nat.le_of_ble_eq_true rfl) rfl ?_
  refine g_goto (pc := 35) (tgt := 4) hC dX12_shorts_35 (by decide) ?_
  refine g_sub (lv' := [(0, .ref o0), (1, .int x1_8), (2, .int x2_9)]) [2, 1, 0] rfl ?_
  exact hK4 _ _ _ h
def qX12_shorts_b38  (post : Int32 → St → Prop)  (x1 : Int32) (u0 : St) : Prop := qX12_gives x1 u0 (fun r_11 u_10 => post r_11 u_10)
set_option maxRecDepth 100000 in
set_option maxHeartbeats 4000000 in
theorem kX12_shorts_b38 {C : Cx} {o0 : Nat} {a0 : Nat → Nat} (hC : Fx C cX12_shorts 3 RX12) (hR0 : xR C = rm 5) {post : Int32 → St → Prop} (hR : RI C cX12_shorts 3 (fun u : St => (wX12 o0 a0 (xy C) u [])) (fun r u => post r u))  {x1 : Int32} {u0 : St} (h : qX12_shorts_b38 post x1 u0) : G C 0 0 3 (wX12 o0 a0 (xy C) u0 []) 38 [(0, .ref o0), (1, .int x1)] [] := by
  refine g_aload_n (pc := 38) hC 0 dX12_shorts_38 rfl rfl ?_
  refine g_iload_n (pc := 39) hC 1 dX12_shorts_39 rfl rfl ?_
  refine g_callV_i (pc := 40) (wd := fun (u : St) Y => (wX12 o0 a0 (xy C) u Y)) (F := fun Z => Z) (X := []) (As := [.int x1]) (rest := []) (u := u0) hC (fun _ _ => rfl) (fun _ => rfl) (ctX12_gives h) wvX12_gives ml_X12_92 (ci := 10) (q0 := 0) rfl rfl rfl rfl (rmok hR0 rfl) ⟨Nat.zero_le _, Nat.zero_le _⟩ rfl (Nat.le_of_ble_eq_true rfl) dX12_shorts_40 (fun r_11 u_10 h => ?_)
  exact hR _ _ _ u_10 dX12_shorts_43 h
def qX12_shorts_l4  (post : Int32 → St → Prop) (K4 : Int32 → Int32 → St → Prop) (x1 : Int32) (x2 : Int32) (u0 : St) : Prop := (((ga u0 0 ((1 : Int32)).toNatClampNeg) ≤ x2 → qX12_shorts_b38 post x1 u0) ∧ (¬ (ga u0 0 ((1 : Int32)).toNatClampNeg) ≤ x2 → qX12_netOf x2 u0 (fun r_15 u_14 => ((0 ≤ r_15 → qX12_shorts_b30 post K4 x2 (0 : Int32) x1 u_14) ∧ (¬ 0 ≤ r_15 → qX12_shorts_b30 post K4 x2 ((1 : Int32) <<< (x2 &&& 31)) x1 u_14)))))
set_option maxRecDepth 100000 in
set_option maxHeartbeats 4000000 in
theorem kX12_shorts_l4 {C : Cx} {o0 : Nat} {a0 : Nat → Nat} (hC : Fx C cX12_shorts 3 RX12) (hR0 : xR C = rm 5) {post : Int32 → St → Prop} (hR : RI C cX12_shorts 3 (fun u : St => (wX12 o0 a0 (xy C) u [])) (fun r u => post r u))  {K4 : Int32 → Int32 → St → Prop} (hK4 : ∀ (x1 : Int32) (x2 : Int32) (u0 : St), K4 x1 x2 u0 → G C 0 0 3 (wX12 o0 a0 (xy C) u0 []) 4 [(0, .ref o0), (1, .int x1), (2, .int x2)] []) {x1 : Int32} {x2 : Int32} {u0 : St} (h : qX12_shorts_l4 post K4 x1 x2 u0) : G C 0 0 3 (wX12 o0 a0 (xy C) u0 []) 4 [(0, .ref o0), (1, .int x1), (2, .int x2)] [] := by
  refine g_iload_n (pc := 4) hC 2 dX12_shorts_4 rfl rfl ?_
  refine g_aload_n (pc := 5) hC 0 dX12_shorts_5 rfl rfl ?_
  refine getX12_0 (pc := 6) hC (F := fun Z => Z) (X := []) (fun _ => rfl) fl_X12_7 dX12_shorts_6 ?_
  refine g_iconst (pc := 9) (v := 1) hC dX12_shorts_9 (by decide) ?_
  refine aldX12_0 (pc := 10) hC (F := fun Z => Z) (X := []) (fun _ => rfl) (by unfold vp_in; decide) dX12_shorts_10 ?_
  refine g_icmp_ge (pc := 11) (tgt := 38) hC dX12_shorts_11 (by decide) (fun c_13 => ?_) (fun c_13 => ?_)
  · have h := h.1 c_13
    refine g_sub (lv' := [(0, .ref o0), (1, .int x1)]) [0, 1] rfl ?_
    exact kX12_shorts_b38 hC hR0 hR  h
  · have h := h.2 c_13
    refine g_iload_n (pc := 14) hC 1 dX12_shorts_14 rfl rfl ?_
    refine g_aload_n (pc := 15) hC 0 dX12_shorts_15 rfl rfl ?_
    refine g_iload_n (pc := 16) hC 2 dX12_shorts_16 rfl rfl ?_
    refine g_callV_i (pc := 17) (wd := fun (u : St) Y => (wX12 o0 a0 (xy C) u Y)) (F := fun Z => Z) (X := []) (As := [.int x2]) (rest := [.int x1]) (u := u0) hC (fun _ _ => rfl) (fun _ => rfl) (ctX12_netOf h) wvX12_netOf ml_X12_300 (ci := 10) (q0 := 0) rfl rfl rfl rfl (rmok hR0 rfl) ⟨Nat.zero_le _, Nat.zero_le _⟩ rfl (Nat.le_of_ble_eq_true rfl) dX12_shorts_17 (fun r_15 u_14 h => ?_)
    refine g_if_ge (pc := 20) (tgt := 29) hC dX12_shorts_20 (by decide) (fun c_17 => ?_) (fun c_17 => ?_)
    · have h := h.1 c_17
      refine g_iconst (pc := 29) (v := 0) hC dX12_shorts_29 (by decide) ?_
      refine g_sub (lv' := [(0, .ref o0), (2, .int x2)]) [0, 2] rfl ?_
      exact kX12_shorts_b30 hC hR0 hR hK4 h
    · have h := h.2 c_17
      refine g_iconst (pc := 23) (v := 1) hC dX12_shorts_23 (by decide) ?_
      refine g_iload_n (pc := 24) hC 2 dX12_shorts_24 rfl rfl ?_
      refine g_ishl (pc := 25) hC dX12_shorts_25 ?_
      refine g_goto (pc := 26) (tgt := 30) hC dX12_shorts_26 (by decide) ?_
      refine g_sub (lv' := [(0, .ref o0), (2, .int x2)]) [0, 2] rfl ?_
      exact kX12_shorts_b30 hC hR0 hR hK4 h
def qX12_shorts_L4  (post : Int32 → St → Prop)  : Nat → Int32 → Int32 → St → Prop
  | 0 => fun _ _ _ => False
  | n + 1 => qX12_shorts_l4 post (qX12_shorts_L4 post n)
theorem kX12_shorts_L4 {C : Cx} {o0 : Nat} {a0 : Nat → Nat} (hC : Fx C cX12_shorts 3 RX12) (hR0 : xR C = rm 5) {post : Int32 → St → Prop} (hR : RI C cX12_shorts 3 (fun u : St => (wX12 o0 a0 (xy C) u [])) (fun r u => post r u))  : ∀ (n : Nat) (x1 : Int32) (x2 : Int32) (u0 : St), qX12_shorts_L4 post n x1 x2 u0 → G C 0 0 3 (wX12 o0 a0 (xy C) u0 []) 4 [(0, .ref o0), (1, .int x1), (2, .int x2)] [] := by
  intro n
  induction n with
  | zero => intro x1 x2 u0 h; exact h.elim
  | succ n ih => intro x1 x2 u0 h; exact kX12_shorts_l4 hC hR0 hR  ih h
def qX12_shorts  (u0 : St) (post : Int32 → St → Prop) : Prop := ∃ n_18 : Nat, qX12_shorts_L4 post n_18 (0 : Int32) (0 : Int32) u0
set_option maxRecDepth 100000 in
set_option maxHeartbeats 4000000 in
theorem kX12_shorts {C : Cx} {o0 : Nat} {a0 : Nat → Nat} (hC : Fx C cX12_shorts 3 RX12) (hR0 : xR C = rm 5) {post : Int32 → St → Prop} (hR : RI C cX12_shorts 3 (fun u : St => (wX12 o0 a0 (xy C) u [])) (fun r u => post r u))  {u0 : St} (h : qX12_shorts  u0 post) : G C 0 0 3 (wX12 o0 a0 (xy C) u0 []) 0 [(0, .ref o0)] [] := by
  refine g_iconst (pc := 0) (v := 0) hC dX12_shorts_0 (by decide) ?_
  refine g_istore_n (pc := 1) (lv' := [(1, .int (0 : Int32)), (0, .ref o0)]) hC dX12_shorts_1 rfl (Nat.le_of_ble_eq_true rfl) rfl ?_
  refine g_iconst (pc := 2) (v := 0) hC dX12_shorts_2 (by decide) ?_
  refine g_istore_n (pc := 3) (lv' := [(2, .int (0 : Int32)), (1, .int (0 : Int32)), (0, .ref o0)]) hC dX12_shorts_3 rfl (Nat.le_of_ble_eq_true rfl) rfl ?_
  refine g_sub (lv' := [(0, .ref o0), (1, .int (0 : Int32)), (2, .int (0 : Int32))]) [2, 1, 0] rfl ?_
  obtain ⟨n_18, h⟩ := h
  exact kX12_shorts_L4 hC hR0 hR  n_18 _ _ _ h
theorem ctX12_shorts {l : Launch} {D : va_G} {cy : Nat → ClassId} {kd : Nat → Nat} {o0 : Nat} {a0 : Nat → Nat}  {u0 : St} {post : Int32 → St → Prop} (h : qX12_shorts  u0 post) : CtI l D cy kd yX12_shorts cX12_shorts 3 5 .int [.ref o0] (fun u : St => (wX12 o0 a0 cy u [])) u0 (fun r u => post r u) := met_i (by decide) (Nat.le_of_ble_eq_true rfl) (fun C e1 e2 e3 e4 e5 hC hR => by subst e1 e2 e3 e4; exact kX12_shorts hC e5 hR h)
theorem dX12_grown_0 : decode cX12_grown 0 = .ok (.sipush 999, 3) := by decide +kernel
theorem dX12_grown_3 : decode cX12_grown 3 = .ok (.iload_n 1, 1) := by decide +kernel
theorem dX12_grown_4 : decode cX12_grown 4 = .ok (.iload_n 3, 1) := by decide +kernel
theorem dX12_grown_5 : decode cX12_grown 5 = .ok (.ifCond .eq 9, 3) := by decide +kernel
theorem dX12_grown_8 : decode cX12_grown 8 = .ok (.iload_n 0, 1) := by decide +kernel
theorem dX12_grown_9 : decode cX12_grown 9 = .ok (.iload_n 1, 1) := by decide +kernel
theorem dX12_grown_10 : decode cX12_grown 10 = .ok (.iadd, 1) := by decide +kernel
theorem dX12_grown_11 : decode cX12_grown 11 = .ok (.goto 4, 3) := by decide +kernel
theorem dX12_grown_14 : decode cX12_grown 14 = .ok (.iload_n 0, 1) := by decide +kernel
theorem dX12_grown_15 : decode cX12_grown 15 = .ok (.iload_n 2, 1) := by decide +kernel
theorem dX12_grown_16 : decode cX12_grown 16 = .ok (.imul, 1) := by decide +kernel
theorem dX12_grown_17 : decode cX12_grown 17 = .ok (.bipush 20, 2) := by decide +kernel
theorem dX12_grown_19 : decode cX12_grown 19 = .ok (.idiv, 1) := by decide +kernel
theorem dX12_grown_20 : decode cX12_grown 20 = .ok (.iadd, 1) := by decide +kernel
theorem dX12_grown_21 : decode cX12_grown 21 = .ok (.invokestatic 143, 3) := by decide +kernel
theorem dX12_grown_24 : decode cX12_grown 24 = .ok (.ireturn, 1) := by decide +kernel
def qX12_grown_b15  (post : Int32 → Prop)  (x2 : Int32) (s0 : Int32) (s1 : Int32) (s2 : Int32) : Prop := post (if (s1 + ((s0 * x2) / (20 : Int32))) < s2 then (s1 + ((s0 * x2) / (20 : Int32))) else s2) 
set_option maxRecDepth 100000 in
set_option maxHeartbeats 4000000 in
theorem kX12_grown_b15 {C : Cx}  (hC : Fx C cX12_grown 4 RX12) (hR0 : xR C = rm 2) {post : Int32 → Prop} (hR : RI C cX12_grown 4 (fun _ : Unit => ([] : va_W)) (fun r _ => post r ))  {x2 : Int32} {s0 : Int32} {s1 : Int32} {s2 : Int32} (h : qX12_grown_b15 post x2 s0 s1 s2) : G C 0 0 4 [] 15 [(2, .int x2)] [.int s0, .int s1, .int s2] := by
  refine g_iload_n (pc := 15) hC 0 dX12_grown_15 rfl rfl ?_
  refine g_imul (pc := 16) hC dX12_grown_16 ?_
  refine g_bipush (pc := 17) (v := 20) hC dX12_grown_17 (by decide) ?_
  refine g_idiv (pc := 19) hC dX12_grown_19 (by decide) ?_
  refine g_iadd (pc := 20) hC dX12_grown_20 ?_
  refine g_mmin (pc := 21) hC hR0 ml_X12_143 dX12_grown_21 (Nat.le_of_ble_eq_true rfl) ?_
  exact hR _ _ _ () dX12_grown_24 h
def qX12_grown (x0 : Int32) (x1 : Int32) (x2 : Int32) (x3 : Int32)  (post : Int32 → Prop) : Prop := ((x3 = 0 → qX12_grown_b15 post x2 x0 x1 (999 : Int32)) ∧ (¬ x3 = 0 → qX12_grown_b15 post x2 (x0 + x1) x1 (999 : Int32)))
set_option maxRecDepth 100000 in
set_option maxHeartbeats 4000000 in
theorem kX12_grown {C : Cx}  (hC : Fx C cX12_grown 4 RX12) (hR0 : xR C = rm 2) {post : Int32 → Prop} (hR : RI C cX12_grown 4 (fun _ : Unit => ([] : va_W)) (fun r _ => post r )) {x0 : Int32} {x1 : Int32} {x2 : Int32} {x3 : Int32}  (h : qX12_grown x0 x1 x2 x3  post) : G C 0 0 4 [] 0 [(0, .int x0), (1, .int x1), (2, .int x2), (3, .int x3)] [] := by
  refine g_sipush (pc := 0) (v := 999) hC dX12_grown_0 (by decide) ?_
  refine g_iload_n (pc := 3) hC 1 dX12_grown_3 rfl rfl ?_
  refine g_iload_n (pc := 4) hC 3 dX12_grown_4 rfl rfl ?_
  refine g_if_eq (pc := 5) (tgt := 14) hC dX12_grown_5 (by decide) (fun c_1 => ?_) (fun c_1 => ?_)
  · have h := h.1 c_1
    refine g_iload_n (pc := 14) hC 0 dX12_grown_14 rfl rfl ?_
    refine g_sub (lv' := [(2, .int x2)]) [2] rfl ?_
    exact kX12_grown_b15 hC hR0 hR  h
  · have h := h.2 c_1
    refine g_iload_n (pc := 8) hC 0 dX12_grown_8 rfl rfl ?_
    refine g_iload_n (pc := 9) hC 1 dX12_grown_9 rfl rfl ?_
    refine g_iadd (pc := 10) hC dX12_grown_10 ?_
    refine g_goto (pc := 11) (tgt := 15) hC dX12_grown_11 (by decide) ?_
    refine g_sub (lv' := [(2, .int x2)]) [2] rfl ?_
    exact kX12_grown_b15 hC hR0 hR  h
theorem ctX12_grown {l : Launch} {D : va_G} {cy : Nat → ClassId} {kd : Nat → Nat}  {x0 : Int32} {x1 : Int32} {x2 : Int32} {x3 : Int32}  {post : Int32 → Prop} (h : qX12_grown x0 x1 x2 x3  post) : CtI l D cy kd yX12_grown cX12_grown 4 2 .int [.int x0, .int x1, .int x2, .int x3] (fun _ : Unit => ([] : va_W)) () (fun r _ => post r ) := met_i (by decide) (Nat.le_of_ble_eq_true rfl) (fun C e1 e2 e3 e4 e5 hC hR => by subst e1 e2 e3 e4; exact kX12_grown hC e5 hR h)
theorem dX12_yearGoes_0 : decode cX12_yearGoes 0 = .ok (.iconst 0, 1) := by decide +kernel
theorem dX12_yearGoes_1 : decode cX12_yearGoes 1 = .ok (.istore_n 1, 1) := by decide +kernel
theorem dX12_yearGoes_2 : decode cX12_yearGoes 2 = .ok (.iload_n 1, 1) := by decide +kernel
theorem dX12_yearGoes_3 : decode cX12_yearGoes 3 = .ok (.aload_n 0, 1) := by decide +kernel
theorem dX12_yearGoes_4 : decode cX12_yearGoes 4 = .ok (.getfield 7, 3) := by decide +kernel
theorem dX12_yearGoes_7 : decode cX12_yearGoes 7 = .ok (.iconst 2, 1) := by decide +kernel
theorem dX12_yearGoes_8 : decode cX12_yearGoes 8 = .ok (.iaload, 1) := by decide +kernel
theorem dX12_yearGoes_9 : decode cX12_yearGoes 9 = .ok (.if_icmp .ge 79, 3) := by decide +kernel
theorem dX12_yearGoes_12 : decode cX12_yearGoes 12 = .ok (.aload_n 0, 1) := by decide +kernel
theorem dX12_yearGoes_13 : decode cX12_yearGoes 13 = .ok (.iload_n 1, 1) := by decide +kernel
theorem dX12_yearGoes_14 : decode cX12_yearGoes 14 = .ok (.invokevirtual 261, 3) := by decide +kernel
theorem dX12_yearGoes_17 : decode cX12_yearGoes 17 = .ok (.ifCond .eq 6, 3) := by decide +kernel
theorem dX12_yearGoes_20 : decode cX12_yearGoes 20 = .ok (.goto 62, 3) := by decide +kernel
theorem dX12_yearGoes_23 : decode cX12_yearGoes 23 = .ok (.iload_n 1, 1) := by decide +kernel
theorem dX12_yearGoes_24 : decode cX12_yearGoes 24 = .ok (.invokestatic 211, 3) := by decide +kernel
theorem dX12_yearGoes_27 : decode cX12_yearGoes 27 = .ok (.istore_n 2, 1) := by decide +kernel
theorem dX12_yearGoes_28 : decode cX12_yearGoes 28 = .ok (.aload_n 0, 1) := by decide +kernel
theorem dX12_yearGoes_29 : decode cX12_yearGoes 29 = .ok (.getfield 7, 3) := by decide +kernel
theorem dX12_yearGoes_32 : decode cX12_yearGoes 32 = .ok (.iload_n 2, 1) := by decide +kernel
theorem dX12_yearGoes_33 : decode cX12_yearGoes 33 = .ok (.bipush 6, 2) := by decide +kernel
theorem dX12_yearGoes_35 : decode cX12_yearGoes 35 = .ok (.iadd, 1) := by decide +kernel
theorem dX12_yearGoes_36 : decode cX12_yearGoes 36 = .ok (.aload_n 0, 1) := by decide +kernel
theorem dX12_yearGoes_37 : decode cX12_yearGoes 37 = .ok (.getfield 7, 3) := by decide +kernel
theorem dX12_yearGoes_40 : decode cX12_yearGoes 40 = .ok (.iload_n 2, 1) := by decide +kernel
theorem dX12_yearGoes_41 : decode cX12_yearGoes 41 = .ok (.iconst 2, 1) := by decide +kernel
theorem dX12_yearGoes_42 : decode cX12_yearGoes 42 = .ok (.iadd, 1) := by decide +kernel
theorem dX12_yearGoes_43 : decode cX12_yearGoes 43 = .ok (.iaload, 1) := by decide +kernel
theorem dX12_yearGoes_44 : decode cX12_yearGoes 44 = .ok (.aload_n 0, 1) := by decide +kernel
theorem dX12_yearGoes_45 : decode cX12_yearGoes 45 = .ok (.getfield 7, 3) := by decide +kernel
theorem dX12_yearGoes_48 : decode cX12_yearGoes 48 = .ok (.iload_n 2, 1) := by decide +kernel
theorem dX12_yearGoes_49 : decode cX12_yearGoes 49 = .ok (.bipush 6, 2) := by decide +kernel
theorem dX12_yearGoes_51 : decode cX12_yearGoes 51 = .ok (.iadd, 1) := by decide +kernel
theorem dX12_yearGoes_52 : decode cX12_yearGoes 52 = .ok (.iaload, 1) := by decide +kernel
theorem dX12_yearGoes_53 : decode cX12_yearGoes 53 = .ok (.aload_n 0, 1) := by decide +kernel
theorem dX12_yearGoes_54 : decode cX12_yearGoes 54 = .ok (.getfield 7, 3) := by decide +kernel
theorem dX12_yearGoes_57 : decode cX12_yearGoes 57 = .ok (.iload_n 2, 1) := by decide +kernel
theorem dX12_yearGoes_58 : decode cX12_yearGoes 58 = .ok (.iconst 3, 1) := by decide +kernel
theorem dX12_yearGoes_59 : decode cX12_yearGoes 59 = .ok (.iadd, 1) := by decide +kernel
theorem dX12_yearGoes_60 : decode cX12_yearGoes 60 = .ok (.iaload, 1) := by decide +kernel
theorem dX12_yearGoes_61 : decode cX12_yearGoes 61 = .ok (.aload_n 0, 1) := by decide +kernel
theorem dX12_yearGoes_62 : decode cX12_yearGoes 62 = .ok (.getfield 7, 3) := by decide +kernel
theorem dX12_yearGoes_65 : decode cX12_yearGoes 65 = .ok (.iload_n 2, 1) := by decide +kernel
theorem dX12_yearGoes_66 : decode cX12_yearGoes 66 = .ok (.iconst 4, 1) := by decide +kernel
theorem dX12_yearGoes_67 : decode cX12_yearGoes 67 = .ok (.iadd, 1) := by decide +kernel
theorem dX12_yearGoes_68 : decode cX12_yearGoes 68 = .ok (.iaload, 1) := by decide +kernel
theorem dX12_yearGoes_69 : decode cX12_yearGoes 69 = .ok (.iconst 1, 1) := by decide +kernel
theorem dX12_yearGoes_70 : decode cX12_yearGoes 70 = .ok (.if_icmp .ne 7, 3) := by decide +kernel
theorem dX12_yearGoes_73 : decode cX12_yearGoes 73 = .ok (.iconst 1, 1) := by decide +kernel
theorem dX12_yearGoes_74 : decode cX12_yearGoes 74 = .ok (.goto 4, 3) := by decide +kernel
theorem dX12_yearGoes_77 : decode cX12_yearGoes 77 = .ok (.iconst 0, 1) := by decide +kernel
theorem dX12_yearGoes_78 : decode cX12_yearGoes 78 = .ok (.invokestatic 303, 3) := by decide +kernel
theorem dX12_yearGoes_81 : decode cX12_yearGoes 81 = .ok (.iastore, 1) := by decide +kernel
theorem dX12_yearGoes_82 : decode cX12_yearGoes 82 = .ok (.iinc 1 1, 3) := by decide +kernel
theorem dX12_yearGoes_85 : decode cX12_yearGoes 85 = .ok (.goto (-83), 3) := by decide +kernel
theorem dX12_yearGoes_88 : decode cX12_yearGoes 88 = .ok (.iconst 0, 1) := by decide +kernel
theorem dX12_yearGoes_89 : decode cX12_yearGoes 89 = .ok (.istore_n 1, 1) := by decide +kernel
theorem dX12_yearGoes_90 : decode cX12_yearGoes 90 = .ok (.iload_n 1, 1) := by decide +kernel
theorem dX12_yearGoes_91 : decode cX12_yearGoes 91 = .ok (.aload_n 0, 1) := by decide +kernel
theorem dX12_yearGoes_92 : decode cX12_yearGoes 92 = .ok (.getfield 7, 3) := by decide +kernel
theorem dX12_yearGoes_95 : decode cX12_yearGoes 95 = .ok (.iconst 0, 1) := by decide +kernel
theorem dX12_yearGoes_96 : decode cX12_yearGoes 96 = .ok (.iaload, 1) := by decide +kernel
theorem dX12_yearGoes_97 : decode cX12_yearGoes 97 = .ok (.if_icmp .ge 42, 3) := by decide +kernel
theorem dX12_yearGoes_100 : decode cX12_yearGoes 100 = .ok (.aload_n 0, 1) := by decide +kernel
theorem dX12_yearGoes_101 : decode cX12_yearGoes 101 = .ok (.iload_n 1, 1) := by decide +kernel
theorem dX12_yearGoes_102 : decode cX12_yearGoes 102 = .ok (.iconst 0, 1) := by decide +kernel
theorem dX12_yearGoes_103 : decode cX12_yearGoes 103 = .ok (.invokevirtual 270, 3) := by decide +kernel
theorem dX12_yearGoes_106 : decode cX12_yearGoes 106 = .ok (.ifCond .le 27, 3) := by decide +kernel
theorem dX12_yearGoes_109 : decode cX12_yearGoes 109 = .ok (.aload_n 0, 1) := by decide +kernel
theorem dX12_yearGoes_110 : decode cX12_yearGoes 110 = .ok (.getfield 7, 3) := by decide +kernel
theorem dX12_yearGoes_113 : decode cX12_yearGoes 113 = .ok (.iload_n 1, 1) := by decide +kernel
theorem dX12_yearGoes_114 : decode cX12_yearGoes 114 = .ok (.invokestatic 187, 3) := by decide +kernel
theorem dX12_yearGoes_117 : decode cX12_yearGoes 117 = .ok (.iconst 0, 1) := by decide +kernel
theorem dX12_yearGoes_118 : decode cX12_yearGoes 118 = .ok (.aload_n 0, 1) := by decide +kernel
theorem dX12_yearGoes_119 : decode cX12_yearGoes 119 = .ok (.getfield 7, 3) := by decide +kernel
theorem dX12_yearGoes_122 : decode cX12_yearGoes 122 = .ok (.iload_n 1, 1) := by decide +kernel
theorem dX12_yearGoes_123 : decode cX12_yearGoes 123 = .ok (.invokestatic 187, 3) := by decide +kernel
theorem dX12_yearGoes_126 : decode cX12_yearGoes 126 = .ok (.iaload, 1) := by decide +kernel
theorem dX12_yearGoes_127 : decode cX12_yearGoes 127 = .ok (.iconst 1, 1) := by decide +kernel
theorem dX12_yearGoes_128 : decode cX12_yearGoes 128 = .ok (.isub, 1) := by decide +kernel
theorem dX12_yearGoes_129 : decode cX12_yearGoes 129 = .ok (.invokestatic 307, 3) := by decide +kernel
theorem dX12_yearGoes_132 : decode cX12_yearGoes 132 = .ok (.iastore, 1) := by decide +kernel
theorem dX12_yearGoes_133 : decode cX12_yearGoes 133 = .ok (.iinc 1 1, 3) := by decide +kernel
theorem dX12_yearGoes_136 : decode cX12_yearGoes 136 = .ok (.goto (-46), 3) := by decide +kernel
theorem dX12_yearGoes_139 : decode cX12_yearGoes 139 = .ok (.aload_n 0, 1) := by decide +kernel
theorem dX12_yearGoes_140 : decode cX12_yearGoes 140 = .ok (.getfield 7, 3) := by decide +kernel
theorem dX12_yearGoes_143 : decode cX12_yearGoes 143 = .ok (.iconst 4, 1) := by decide +kernel
theorem dX12_yearGoes_144 : decode cX12_yearGoes 144 = .ok (.dup2, 1) := by decide +kernel
theorem dX12_yearGoes_145 : decode cX12_yearGoes 145 = .ok (.iaload, 1) := by decide +kernel
theorem dX12_yearGoes_146 : decode cX12_yearGoes 146 = .ok (.iconst 1, 1) := by decide +kernel
theorem dX12_yearGoes_147 : decode cX12_yearGoes 147 = .ok (.iadd, 1) := by decide +kernel
theorem dX12_yearGoes_148 : decode cX12_yearGoes 148 = .ok (.iastore, 1) := by decide +kernel
theorem dX12_yearGoes_149 : decode cX12_yearGoes 149 = .ok (.aload_n 0, 1) := by decide +kernel
theorem dX12_yearGoes_150 : decode cX12_yearGoes 150 = .ok (.invokevirtual 240, 3) := by decide +kernel
theorem dX12_yearGoes_153 : decode cX12_yearGoes 153 = .ok (.ireturn, 1) := by decide +kernel
def qX12_yearGoes_b82  (post : Int32 → St → Prop) (K2 : Int32 → St → Prop) (x1 : Int32) (u0 : St) : Prop := ∀ x1_23 : Int32, x1_23 = x1 + (1 : Int32) → K2 x1_23 u0
set_option maxRecDepth 100000 in
set_option maxHeartbeats 4000000 in
theorem kX12_yearGoes_b82 {C : Cx} {o0 : Nat} {a0 : Nat → Nat} (hC : Fx C cX12_yearGoes 3 RX12) (hR0 : xR C = rm 7) {post : Int32 → St → Prop} (hR : RI C cX12_yearGoes 3 (fun u : St => (wX12 o0 a0 (xy C) u [])) (fun r u => post r u)) {K2 : Int32 → St → Prop} (hK2 : ∀ (x1 : Int32) (u0 : St), K2 x1 u0 → G C 0 0 3 (wX12 o0 a0 (xy C) u0 []) 2 [(0, .ref o0), (1, .int x1)] []) {x1 : Int32} {u0 : St} (h : qX12_yearGoes_b82 post K2 x1 u0) : G C 0 0 3 (wX12 o0 a0 (xy C) u0 []) 82 [(0, .ref o0), (1, .int x1)] [] := by
  obtain ⟨x1_23, ex1_23⟩ : ∃ z : Int32, z = x1 + (1 : Int32) := ⟨_, rfl⟩
  have h := h x1_23 ex1_23
  refine g_iinc (pc := 82) (v := x1_23) (lv' := [(1, .int x1_23), (0, .ref o0)]) hC 1 dX12_yearGoes_82 rfl (by rw [ex1_23]; rfl) (Nat.le_of_ble_eq_true rfl) rfl ?_
  refine g_goto (pc := 85) (tgt := 2) hC dX12_yearGoes_85 (by decide) ?_
  refine g_sub (lv' := [(0, .ref o0), (1, .int x1_23)]) [1, 0] rfl ?_
  exact hK2 _ _ h
def qX12_yearGoes_b78  (post : Int32 → St → Prop) (K2 : Int32 → St → Prop) (x1 : Int32) (s0 : Int32) (s1 : Int32) (s2 : Int32) (s3 : Int32) (s4 : Int32) (u0 : St) : Prop := qX12_grown s3 s2 s1 s0 (fun r_24 => (vp_in s4 3072 ∧ ∀ u_26 : St, u_26 = (sw u0 0 (upd (ga u0 0) (s4).toNatClampNeg r_24)) → qX12_yearGoes_b82 post K2 x1 u_26))
set_option maxRecDepth 100000 in
set_option maxHeartbeats 4000000 in
theorem kX12_yearGoes_b78 {C : Cx} {o0 : Nat} {a0 : Nat → Nat} (hC : Fx C cX12_yearGoes 3 RX12) (hR0 : xR C = rm 7) {post : Int32 → St → Prop} (hR : RI C cX12_yearGoes 3 (fun u : St => (wX12 o0 a0 (xy C) u [])) (fun r u => post r u)) {K2 : Int32 → St → Prop} (hK2 : ∀ (x1 : Int32) (u0 : St), K2 x1 u0 → G C 0 0 3 (wX12 o0 a0 (xy C) u0 []) 2 [(0, .ref o0), (1, .int x1)] []) {x1 : Int32} {s0 : Int32} {s1 : Int32} {s2 : Int32} {s3 : Int32} {s4 : Int32} {u0 : St} (h : qX12_yearGoes_b78 post K2 x1 s0 s1 s2 s3 s4 u0) : G C 0 0 3 (wX12 o0 a0 (xy C) u0 []) 78 [(0, .ref o0), (1, .int x1)] [.int s0, .int s1, .int s2, .int s3, .int s4, .ref (a0 0)] := by
  refine g_callS_i (pc := 78) (wd := fun (_ : Unit) Y => Y) (F := fun Z => Z) (X := []) (As := [.int s3, .int s2, .int s1, .int s0]) (rest := [.int s4, .ref (a0 0)]) (u := ()) hC (fun _ _ => rfl) (fun _ => rfl) (ctX12_grown h) wvX12_grown ml_X12_303 rfl (rmok hR0 rfl) ⟨Nat.zero_le _, Nat.zero_le _⟩ rfl (Nat.le_of_ble_eq_true rfl) dX12_yearGoes_78 (fun r_24 u_25 h => ?_)
  refine astX12_0 (pc := 81) hC (F := fun Z => Z) (X := []) (fun _ => rfl) h.1 dX12_yearGoes_81 ?_
  have h := h.2
  refine g_st (w := fun z => (wX12 o0 a0 (xy C) z [])) (u := (sw u0 0 (upd (ga u0 0) (s4).toNatClampNeg r_24))) (fun u_26 eu_26 => ?_)
  have h := h u_26 eu_26
  exact kX12_yearGoes_b82 hC hR0 hR hK2 h
def qX12_yearGoes_b133  (post : Int32 → St → Prop) (K90 : Int32 → St → Prop) (x1 : Int32) (u0 : St) : Prop := ∀ x1_27 : Int32, x1_27 = x1 + (1 : Int32) → K90 x1_27 u0
set_option maxRecDepth 100000 in
set_option maxHeartbeats 4000000 in
theorem kX12_yearGoes_b133 {C : Cx} {o0 : Nat} {a0 : Nat → Nat} (hC : Fx C cX12_yearGoes 3 RX12) (hR0 : xR C = rm 7) {post : Int32 → St → Prop} (hR : RI C cX12_yearGoes 3 (fun u : St => (wX12 o0 a0 (xy C) u [])) (fun r u => post r u)) {K90 : Int32 → St → Prop} (hK90 : ∀ (x1 : Int32) (u0 : St), K90 x1 u0 → G C 0 0 3 (wX12 o0 a0 (xy C) u0 []) 90 [(0, .ref o0), (1, .int x1)] []) {x1 : Int32} {u0 : St} (h : qX12_yearGoes_b133 post K90 x1 u0) : G C 0 0 3 (wX12 o0 a0 (xy C) u0 []) 133 [(0, .ref o0), (1, .int x1)] [] := by
  obtain ⟨x1_27, ex1_27⟩ : ∃ z : Int32, z = x1 + (1 : Int32) := ⟨_, rfl⟩
  have h := h x1_27 ex1_27
  refine g_iinc (pc := 133) (v := x1_27) (lv' := [(1, .int x1_27), (0, .ref o0)]) hC 1 dX12_yearGoes_133 rfl (by rw [ex1_27]; rfl) (Nat.le_of_ble_eq_true rfl) rfl ?_
  refine g_goto (pc := 136) (tgt := 90) hC dX12_yearGoes_136 (by decide) ?_
  refine g_sub (lv' := [(0, .ref o0), (1, .int x1_27)]) [1, 0] rfl ?_
  exact hK90 _ _ h
def qX12_yearGoes_b139  (post : Int32 → St → Prop)  (u0 : St) : Prop := ∀ u_28 : St, u_28 = (sw u0 0 (upd (ga u0 0) ((4 : Int32)).toNatClampNeg ((ga u0 0 ((4 : Int32)).toNatClampNeg) + (1 : Int32)))) → qX12_falling u_28 (fun r_30 u_29 => post r_30 u_29)
set_option maxRecDepth 100000 in
set_option maxHeartbeats 4000000 in
theorem kX12_yearGoes_b139 {C : Cx} {o0 : Nat} {a0 : Nat → Nat} (hC : Fx C cX12_yearGoes 3 RX12) (hR0 : xR C = rm 7) {post : Int32 → St → Prop} (hR : RI C cX12_yearGoes 3 (fun u : St => (wX12 o0 a0 (xy C) u [])) (fun r u => post r u))  {u0 : St} (h : qX12_yearGoes_b139 post u0) : G C 0 0 3 (wX12 o0 a0 (xy C) u0 []) 139 [(0, .ref o0)] [] := by
  refine g_aload_n (pc := 139) hC 0 dX12_yearGoes_139 rfl rfl ?_
  refine getX12_0 (pc := 140) hC (F := fun Z => Z) (X := []) (fun _ => rfl) fl_X12_7 dX12_yearGoes_140 ?_
  refine g_iconst (pc := 143) (v := 4) hC dX12_yearGoes_143 (by decide) ?_
  refine g_dup2 (pc := 144) hC dX12_yearGoes_144 rfl rfl ?_
  refine aldX12_0 (pc := 145) hC (F := fun Z => Z) (X := []) (fun _ => rfl) (by unfold vp_in; decide) dX12_yearGoes_145 ?_
  refine g_iconst (pc := 146) (v := 1) hC dX12_yearGoes_146 (by decide) ?_
  refine g_iadd (pc := 147) hC dX12_yearGoes_147 ?_
  refine astX12_0 (pc := 148) hC (F := fun Z => Z) (X := []) (fun _ => rfl) (by unfold vp_in; decide) dX12_yearGoes_148 ?_
  refine g_st (w := fun z => (wX12 o0 a0 (xy C) z [])) (u := (sw u0 0 (upd (ga u0 0) ((4 : Int32)).toNatClampNeg ((ga u0 0 ((4 : Int32)).toNatClampNeg) + (1 : Int32))))) (fun u_28 eu_28 => ?_)
  have h := h u_28 eu_28
  refine g_aload_n (pc := 149) hC 0 dX12_yearGoes_149 rfl rfl ?_
  refine g_callV_i (pc := 150) (wd := fun (u : St) Y => (wX12 o0 a0 (xy C) u Y)) (F := fun Z => Z) (X := []) (As := []) (rest := []) (u := u_28) hC (fun _ _ => rfl) (fun _ => rfl) (ctX12_falling h) wvX12_falling ml_X12_240 (ci := 10) (q0 := 0) rfl rfl rfl rfl (rmok hR0 rfl) ⟨Nat.zero_le _, Nat.zero_le _⟩ rfl (Nat.le_of_ble_eq_true rfl) dX12_yearGoes_150 (fun r_30 u_29 h => ?_)
  exact hR _ _ _ u_29 dX12_yearGoes_153 h
def qX12_yearGoes_l90  (post : Int32 → St → Prop) (K90 : Int32 → St → Prop) (x1 : Int32) (u0 : St) : Prop := (((ga u0 0 ((0 : Int32)).toNatClampNeg) ≤ x1 → qX12_yearGoes_b139 post u0) ∧ (¬ (ga u0 0 ((0 : Int32)).toNatClampNeg) ≤ x1 → qX12_leavesAt x1 (0 : Int32) u0 (fun r_34 u_33 => ((r_34 ≤ 0 → qX12_yearGoes_b133 post K90 x1 u_33) ∧ (¬ r_34 ≤ 0 → qX12_stoneRow x1 (fun r_37 => qX12_stoneRow x1 (fun r_39 => (vp_in r_39 3072 ∧ (vp_in r_37 3072 ∧ ∀ u_41 : St, u_41 = (sw u_33 0 (upd (ga u_33 0) (r_37).toNatClampNeg (if (0 : Int32) < ((ga u_33 0 (r_39).toNatClampNeg) - (1 : Int32)) then ((ga u_33 0 (r_39).toNatClampNeg) - (1 : Int32)) else (0 : Int32)))) → qX12_yearGoes_b133 post K90 x1 u_41)))))))))
set_option maxRecDepth 100000 in
set_option maxHeartbeats 4000000 in
theorem kX12_yearGoes_l90 {C : Cx} {o0 : Nat} {a0 : Nat → Nat} (hC : Fx C cX12_yearGoes 3 RX12) (hR0 : xR C = rm 7) {post : Int32 → St → Prop} (hR : RI C cX12_yearGoes 3 (fun u : St => (wX12 o0 a0 (xy C) u [])) (fun r u => post r u))  {K90 : Int32 → St → Prop} (hK90 : ∀ (x1 : Int32) (u0 : St), K90 x1 u0 → G C 0 0 3 (wX12 o0 a0 (xy C) u0 []) 90 [(0, .ref o0), (1, .int x1)] []) {x1 : Int32} {u0 : St} (h : qX12_yearGoes_l90 post K90 x1 u0) : G C 0 0 3 (wX12 o0 a0 (xy C) u0 []) 90 [(0, .ref o0), (1, .int x1)] [] := by
  refine g_iload_n (pc := 90) hC 1 dX12_yearGoes_90 rfl rfl ?_
  refine g_aload_n (pc := 91) hC 0 dX12_yearGoes_91 rfl rfl ?_
  refine getX12_0 (pc := 92) hC (F := fun Z => Z) (X := []) (fun _ => rfl) fl_X12_7 dX12_yearGoes_92 ?_
  refine g_iconst (pc := 95) (v := 0) hC dX12_yearGoes_95 (by decide) ?_
  refine aldX12_0 (pc := 96) hC (F := fun Z => Z) (X := []) (fun _ => rfl) (by unfold vp_in; decide) dX12_yearGoes_96 ?_
  refine g_icmp_ge (pc := 97) (tgt := 139) hC dX12_yearGoes_97 (by decide) (fun c_32 => ?_) (fun c_32 => ?_)
  · have h := h.1 c_32
    refine g_sub (lv' := [(0, .ref o0)]) [0] rfl ?_
    exact kX12_yearGoes_b139 hC hR0 hR  h
  · have h := h.2 c_32
    refine g_aload_n (pc := 100) hC 0 dX12_yearGoes_100 rfl rfl ?_
    refine g_iload_n (pc := 101) hC 1 dX12_yearGoes_101 rfl rfl ?_
    refine g_iconst (pc := 102) (v := 0) hC dX12_yearGoes_102 (by decide) ?_
    refine g_callV_i (pc := 103) (wd := fun (u : St) Y => (wX12 o0 a0 (xy C) u Y)) (F := fun Z => Z) (X := []) (As := [.int x1, .int (0 : Int32)]) (rest := []) (u := u0) hC (fun _ _ => rfl) (fun _ => rfl) (ctX12_leavesAt h) wvX12_leavesAt ml_X12_270 (ci := 10) (q0 := 0) rfl rfl rfl rfl (rmok hR0 rfl) ⟨Nat.zero_le _, Nat.zero_le _⟩ rfl (Nat.le_of_ble_eq_true rfl) dX12_yearGoes_103 (fun r_34 u_33 h => ?_)
    refine g_if_le (pc := 106) (tgt := 133) hC dX12_yearGoes_106 (by decide) (fun c_36 => ?_) (fun c_36 => ?_)
    · have h := h.1 c_36
      exact kX12_yearGoes_b133 hC hR0 hR hK90 h
    · have h := h.2 c_36
      refine g_aload_n (pc := 109) hC 0 dX12_yearGoes_109 rfl rfl ?_
      refine getX12_0 (pc := 110) hC (F := fun Z => Z) (X := []) (fun _ => rfl) fl_X12_7 dX12_yearGoes_110 ?_
      refine g_iload_n (pc := 113) hC 1 dX12_yearGoes_113 rfl rfl ?_
      refine g_callS_i (pc := 114) (wd := fun (_ : Unit) Y => Y) (F := fun Z => Z) (X := []) (As := [.int x1]) (rest := [.ref (a0 0)]) (u := ()) hC (fun _ _ => rfl) (fun _ => rfl) (ctX12_stoneRow h) wvX12_stoneRow ml_X12_187 rfl (rmok hR0 rfl) ⟨Nat.zero_le _, Nat.zero_le _⟩ rfl (Nat.le_of_ble_eq_true rfl) dX12_yearGoes_114 (fun r_37 u_38 h => ?_)
      refine g_iconst (pc := 117) (v := 0) hC dX12_yearGoes_117 (by decide) ?_
      refine g_aload_n (pc := 118) hC 0 dX12_yearGoes_118 rfl rfl ?_
      refine getX12_0 (pc := 119) hC (F := fun Z => Z) (X := []) (fun _ => rfl) fl_X12_7 dX12_yearGoes_119 ?_
      refine g_iload_n (pc := 122) hC 1 dX12_yearGoes_122 rfl rfl ?_
      refine g_callS_i (pc := 123) (wd := fun (_ : Unit) Y => Y) (F := fun Z => Z) (X := []) (As := [.int x1]) (rest := [.ref (a0 0), .int (0 : Int32), .int r_37, .ref (a0 0)]) (u := ()) hC (fun _ _ => rfl) (fun _ => rfl) (ctX12_stoneRow h) wvX12_stoneRow ml_X12_187 rfl (rmok hR0 rfl) ⟨Nat.zero_le _, Nat.zero_le _⟩ rfl (Nat.le_of_ble_eq_true rfl) dX12_yearGoes_123 (fun r_39 u_40 h => ?_)
      refine aldX12_0 (pc := 126) hC (F := fun Z => Z) (X := []) (fun _ => rfl) h.1 dX12_yearGoes_126 ?_
      have h := h.2
      refine g_iconst (pc := 127) (v := 1) hC dX12_yearGoes_127 (by decide) ?_
      refine g_isub (pc := 128) hC dX12_yearGoes_128 ?_
      refine g_mmax (pc := 129) hC hR0 ml_X12_307 dX12_yearGoes_129 (Nat.le_of_ble_eq_true rfl) ?_
      refine astX12_0 (pc := 132) hC (F := fun Z => Z) (X := []) (fun _ => rfl) h.1 dX12_yearGoes_132 ?_
      have h := h.2
      refine g_st (w := fun z => (wX12 o0 a0 (xy C) z [])) (u := (sw u_33 0 (upd (ga u_33 0) (r_37).toNatClampNeg (if (0 : Int32) < ((ga u_33 0 (r_39).toNatClampNeg) - (1 : Int32)) then ((ga u_33 0 (r_39).toNatClampNeg) - (1 : Int32)) else (0 : Int32))))) (fun u_41 eu_41 => ?_)
      have h := h u_41 eu_41
      exact kX12_yearGoes_b133 hC hR0 hR hK90 h
def qX12_yearGoes_L90  (post : Int32 → St → Prop)  : Nat → Int32 → St → Prop
  | 0 => fun _ _ => False
  | n + 1 => qX12_yearGoes_l90 post (qX12_yearGoes_L90 post n)
theorem kX12_yearGoes_L90 {C : Cx} {o0 : Nat} {a0 : Nat → Nat} (hC : Fx C cX12_yearGoes 3 RX12) (hR0 : xR C = rm 7) {post : Int32 → St → Prop} (hR : RI C cX12_yearGoes 3 (fun u : St => (wX12 o0 a0 (xy C) u [])) (fun r u => post r u))  : ∀ (n : Nat) (x1 : Int32) (u0 : St), qX12_yearGoes_L90 post n x1 u0 → G C 0 0 3 (wX12 o0 a0 (xy C) u0 []) 90 [(0, .ref o0), (1, .int x1)] [] := by
  intro n
  induction n with
  | zero => intro x1 u0 h; exact h.elim
  | succ n ih => intro x1 u0 h; exact kX12_yearGoes_l90 hC hR0 hR  ih h
def qX12_yearGoes_b88  (post : Int32 → St → Prop)  (u0 : St) : Prop := ∃ n_42 : Nat, qX12_yearGoes_L90 post n_42 (0 : Int32) u0
set_option maxRecDepth 100000 in
set_option maxHeartbeats 4000000 in
theorem kX12_yearGoes_b88 {C : Cx} {o0 : Nat} {a0 : Nat → Nat} (hC : Fx C cX12_yearGoes 3 RX12) (hR0 : xR C = rm 7) {post : Int32 → St → Prop} (hR : RI C cX12_yearGoes 3 (fun u : St => (wX12 o0 a0 (xy C) u [])) (fun r u => post r u))  {u0 : St} (h : qX12_yearGoes_b88 post u0) : G C 0 0 3 (wX12 o0 a0 (xy C) u0 []) 88 [(0, .ref o0)] [] := by
  refine g_iconst (pc := 88) (v := 0) hC dX12_yearGoes_88 (by decide) ?_
  refine g_istore_n (pc := 89) (lv' := [(1, .int (0 : Int32)), (0, .ref o0)]) hC dX12_yearGoes_89 rfl (Nat.le_of_ble_eq_true rfl) rfl ?_
  refine g_sub (lv' := [(0, .ref o0), (1, .int (0 : Int32))]) [1, 0] rfl ?_
  obtain ⟨n_42, h⟩ := h
  exact kX12_yearGoes_L90 hC hR0 hR  n_42 _ _ h
def qX12_yearGoes_l2  (post : Int32 → St → Prop) (K2 : Int32 → St → Prop) (x1 : Int32) (u0 : St) : Prop := (((ga u0 0 ((2 : Int32)).toNatClampNeg) ≤ x1 → qX12_yearGoes_b88 post u0) ∧ (¬ (ga u0 0 ((2 : Int32)).toNatClampNeg) ≤ x1 → qX12_isPaidUp x1 u0 (fun r_45 u_44 => ((r_45 = 0 → qX12_debtRow x1 (fun r_48 => (vp_in (r_48 + (2 : Int32)) 3072 ∧ (vp_in (r_48 + (6 : Int32)) 3072 ∧ (vp_in (r_48 + (3 : Int32)) 3072 ∧ (vp_in (r_48 + (4 : Int32)) 3072 ∧ ((¬ (ga u_44 0 ((r_48 + (4 : Int32))).toNatClampNeg) = (1 : Int32) → qX12_yearGoes_b78 post K2 x1 (0 : Int32) (ga u_44 0 ((r_48 + (3 : Int32))).toNatClampNeg) (ga u_44 0 ((r_48 + (6 : Int32))).toNatClampNeg) (ga u_44 0 ((r_48 + (2 : Int32))).toNatClampNeg) (r_48 + (6 : Int32)) u_44) ∧ ((ga u_44 0 ((r_48 + (4 : Int32))).toNatClampNeg) = (1 : Int32) → qX12_yearGoes_b78 post K2 x1 (1 : Int32) (ga u_44 0 ((r_48 + (3 : Int32))).toNatClampNeg) (ga u_44 0 ((r_48 + (6 : Int32))).toNatClampNeg) (ga u_44 0 ((r_48 + (2 : Int32))).toNatClampNeg) (r_48 + (6 : Int32)) u_44)))))))) ∧ (¬ r_45 = 0 → qX12_yearGoes_b82 post K2 x1 u_44)))))
set_option maxRecDepth 100000 in
set_option maxHeartbeats 4000000 in
theorem kX12_yearGoes_l2 {C : Cx} {o0 : Nat} {a0 : Nat → Nat} (hC : Fx C cX12_yearGoes 3 RX12) (hR0 : xR C = rm 7) {post : Int32 → St → Prop} (hR : RI C cX12_yearGoes 3 (fun u : St => (wX12 o0 a0 (xy C) u [])) (fun r u => post r u))  {K2 : Int32 → St → Prop} (hK2 : ∀ (x1 : Int32) (u0 : St), K2 x1 u0 → G C 0 0 3 (wX12 o0 a0 (xy C) u0 []) 2 [(0, .ref o0), (1, .int x1)] []) {x1 : Int32} {u0 : St} (h : qX12_yearGoes_l2 post K2 x1 u0) : G C 0 0 3 (wX12 o0 a0 (xy C) u0 []) 2 [(0, .ref o0), (1, .int x1)] [] := by
  refine g_iload_n (pc := 2) hC 1 dX12_yearGoes_2 rfl rfl ?_
  refine g_aload_n (pc := 3) hC 0 dX12_yearGoes_3 rfl rfl ?_
  refine getX12_0 (pc := 4) hC (F := fun Z => Z) (X := []) (fun _ => rfl) fl_X12_7 dX12_yearGoes_4 ?_
  refine g_iconst (pc := 7) (v := 2) hC dX12_yearGoes_7 (by decide) ?_
  refine aldX12_0 (pc := 8) hC (F := fun Z => Z) (X := []) (fun _ => rfl) (by unfold vp_in; decide) dX12_yearGoes_8 ?_
  refine g_icmp_ge (pc := 9) (tgt := 88) hC dX12_yearGoes_9 (by decide) (fun c_43 => ?_) (fun c_43 => ?_)
  · have h := h.1 c_43
    refine g_sub (lv' := [(0, .ref o0)]) [0] rfl ?_
    exact kX12_yearGoes_b88 hC hR0 hR  h
  · have h := h.2 c_43
    refine g_aload_n (pc := 12) hC 0 dX12_yearGoes_12 rfl rfl ?_
    refine g_iload_n (pc := 13) hC 1 dX12_yearGoes_13 rfl rfl ?_
    refine g_callV_i (pc := 14) (wd := fun (u : St) Y => (wX12 o0 a0 (xy C) u Y)) (F := fun Z => Z) (X := []) (As := [.int x1]) (rest := []) (u := u0) hC (fun _ _ => rfl) (fun _ => rfl) (ctX12_isPaidUp h) wvX12_isPaidUp ml_X12_261 (ci := 10) (q0 := 0) rfl rfl rfl rfl (rmok hR0 rfl) ⟨Nat.zero_le _, Nat.zero_le _⟩ rfl (Nat.le_of_ble_eq_true rfl) dX12_yearGoes_14 (fun r_45 u_44 h => ?_)
    refine g_if_eq (pc := 17) (tgt := 23) hC dX12_yearGoes_17 (by decide) (fun c_47 => ?_) (fun c_47 => ?_)
    · have h := h.1 c_47
      refine g_iload_n (pc := 23) hC 1 dX12_yearGoes_23 rfl rfl ?_
      refine g_callS_i (pc := 24) (wd := fun (_ : Unit) Y => Y) (F := fun Z => Z) (X := []) (As := [.int x1]) (rest := []) (u := ()) hC (fun _ _ => rfl) (fun _ => rfl) (ctX12_debtRow h) wvX12_debtRow ml_X12_211 rfl (rmok hR0 rfl) ⟨Nat.zero_le _, Nat.zero_le _⟩ rfl (Nat.le_of_ble_eq_true rfl) dX12_yearGoes_24 (fun r_48 u_49 h => ?_)
      refine g_istore_n (pc := 27) (lv' := [(2, .int r_48), (0, .ref o0), (1, .int x1)]) hC dX12_yearGoes_27 rfl (Nat.le_of_ble_eq_true rfl) rfl ?_
      refine g_aload_n (pc := 28) hC 1 dX12_yearGoes_28 rfl rfl ?_
      refine getX12_0 (pc := 29) hC (F := fun Z => Z) (X := []) (fun _ => rfl) fl_X12_7 dX12_yearGoes_29 ?_
      refine g_iload_n (pc := 32) hC 0 dX12_yearGoes_32 rfl rfl ?_
      refine g_bipush (pc := 33) (v := 6) hC dX12_yearGoes_33 (by decide) ?_
      refine g_iadd (pc := 35) hC dX12_yearGoes_35 ?_
      refine g_aload_n (pc := 36) hC 1 dX12_yearGoes_36 rfl rfl ?_
      refine getX12_0 (pc := 37) hC (F := fun Z => Z) (X := []) (fun _ => rfl) fl_X12_7 dX12_yearGoes_37 ?_
      refine g_iload_n (pc := 40) hC 0 dX12_yearGoes_40 rfl rfl ?_
      refine g_iconst (pc := 41) (v := 2) hC dX12_yearGoes_41 (by decide) ?_
      refine g_iadd (pc := 42) hC dX12_yearGoes_42 ?_
      refine aldX12_0 (pc := 43) hC (F := fun Z => Z) (X := []) (fun _ => rfl) h.1 dX12_yearGoes_43 ?_
      have h := h.2
      refine g_aload_n (pc := 44) hC 1 dX12_yearGoes_44 rfl rfl ?_
      refine getX12_0 (pc := 45) hC (F := fun Z => Z) (X := []) (fun _ => rfl) fl_X12_7 dX12_yearGoes_45 ?_
      refine g_iload_n (pc := 48) hC 0 dX12_yearGoes_48 rfl rfl ?_
      refine g_bipush (pc := 49) (v := 6) hC dX12_yearGoes_49 (by decide) ?_
      refine g_iadd (pc := 51) hC dX12_yearGoes_51 ?_
      refine aldX12_0 (pc := 52) hC (F := fun Z => Z) (X := []) (fun _ => rfl) h.1 dX12_yearGoes_52 ?_
      have h := h.2
      refine g_aload_n (pc := 53) hC 1 dX12_yearGoes_53 rfl rfl ?_
      refine getX12_0 (pc := 54) hC (F := fun Z => Z) (X := []) (fun _ => rfl) fl_X12_7 dX12_yearGoes_54 ?_
      refine g_iload_n (pc := 57) hC 0 dX12_yearGoes_57 rfl rfl ?_
      refine g_iconst (pc := 58) (v := 3) hC dX12_yearGoes_58 (by decide) ?_
      refine g_iadd (pc := 59) hC dX12_yearGoes_59 ?_
      refine aldX12_0 (pc := 60) hC (F := fun Z => Z) (X := []) (fun _ => rfl) h.1 dX12_yearGoes_60 ?_
      have h := h.2
      refine g_aload_n (pc := 61) hC 1 dX12_yearGoes_61 rfl rfl ?_
      refine getX12_0 (pc := 62) hC (F := fun Z => Z) (X := []) (fun _ => rfl) fl_X12_7 dX12_yearGoes_62 ?_
      refine g_iload_n (pc := 65) hC 0 dX12_yearGoes_65 rfl rfl ?_
      refine g_iconst (pc := 66) (v := 4) hC dX12_yearGoes_66 (by decide) ?_
      refine g_iadd (pc := 67) hC dX12_yearGoes_67 ?_
      refine aldX12_0 (pc := 68) hC (F := fun Z => Z) (X := []) (fun _ => rfl) h.1 dX12_yearGoes_68 ?_
      have h := h.2
      refine g_iconst (pc := 69) (v := 1) hC dX12_yearGoes_69 (by decide) ?_
      refine g_icmp_ne (pc := 70) (tgt := 77) hC dX12_yearGoes_70 (by decide) (fun c_50 => ?_) (fun c_50 => ?_)
      · have h := h.1 c_50
        refine g_iconst (pc := 77) (v := 0) hC dX12_yearGoes_77 (by decide) ?_
        refine g_sub (lv' := [(0, .ref o0), (1, .int x1)]) [1, 2] rfl ?_
        exact kX12_yearGoes_b78 hC hR0 hR hK2 h
      · have h := h.2 c_50
        refine g_iconst (pc := 73) (v := 1) hC dX12_yearGoes_73 (by decide) ?_
        refine g_goto (pc := 74) (tgt := 78) hC dX12_yearGoes_74 (by decide) ?_
        refine g_sub (lv' := [(0, .ref o0), (1, .int x1)]) [1, 2] rfl ?_
        exact kX12_yearGoes_b78 hC hR0 hR hK2 h
    · have h := h.2 c_47
      refine g_goto (pc := 20) (tgt := 82) hC dX12_yearGoes_20 (by decide) ?_
      exact kX12_yearGoes_b82 hC hR0 hR hK2 h
def qX12_yearGoes_L2  (post : Int32 → St → Prop)  : Nat → Int32 → St → Prop
  | 0 => fun _ _ => False
  | n + 1 => qX12_yearGoes_l2 post (qX12_yearGoes_L2 post n)
theorem kX12_yearGoes_L2 {C : Cx} {o0 : Nat} {a0 : Nat → Nat} (hC : Fx C cX12_yearGoes 3 RX12) (hR0 : xR C = rm 7) {post : Int32 → St → Prop} (hR : RI C cX12_yearGoes 3 (fun u : St => (wX12 o0 a0 (xy C) u [])) (fun r u => post r u))  : ∀ (n : Nat) (x1 : Int32) (u0 : St), qX12_yearGoes_L2 post n x1 u0 → G C 0 0 3 (wX12 o0 a0 (xy C) u0 []) 2 [(0, .ref o0), (1, .int x1)] [] := by
  intro n
  induction n with
  | zero => intro x1 u0 h; exact h.elim
  | succ n ih => intro x1 u0 h; exact kX12_yearGoes_l2 hC hR0 hR  ih h
def qX12_yearGoes  (u0 : St) (post : Int32 → St → Prop) : Prop := ∃ n_51 : Nat, qX12_yearGoes_L2 post n_51 (0 : Int32) u0
set_option maxRecDepth 100000 in
set_option maxHeartbeats 4000000 in
theorem kX12_yearGoes {C : Cx} {o0 : Nat} {a0 : Nat → Nat} (hC : Fx C cX12_yearGoes 3 RX12) (hR0 : xR C = rm 7) {post : Int32 → St → Prop} (hR : RI C cX12_yearGoes 3 (fun u : St => (wX12 o0 a0 (xy C) u [])) (fun r u => post r u))  {u0 : St} (h : qX12_yearGoes  u0 post) : G C 0 0 3 (wX12 o0 a0 (xy C) u0 []) 0 [(0, .ref o0)] [] := by
  refine g_iconst (pc := 0) (v := 0) hC dX12_yearGoes_0 (by decide) ?_
  refine g_istore_n (pc := 1) (lv' := [(1, .int (0 : Int32)), (0, .ref o0)]) hC dX12_yearGoes_1 rfl (Nat.le_of_ble_eq_true rfl) rfl ?_
  refine g_sub (lv' := [(0, .ref o0), (1, .int (0 : Int32))]) [1, 0] rfl ?_
  obtain ⟨n_51, h⟩ := h
  exact kX12_yearGoes_L2 hC hR0 hR  n_51 _ _ h
theorem ctX12_yearGoes {l : Launch} {D : va_G} {cy : Nat → ClassId} {kd : Nat → Nat} {o0 : Nat} {a0 : Nat → Nat}  {u0 : St} {post : Int32 → St → Prop} (h : qX12_yearGoes  u0 post) : CtI l D cy kd yX12_yearGoes cX12_yearGoes 3 7 .int [.ref o0] (fun u : St => (wX12 o0 a0 cy u [])) u0 (fun r u => post r u) := met_i (by decide) (Nat.le_of_ble_eq_true rfl) (fun C e1 e2 e3 e4 e5 hC hR => by subst e1 e2 e3 e4; exact kX12_yearGoes hC e5 hR h)
theorem dX12_yearsGo_0 : decode cX12_yearsGo 0 = .ok (.iconst 0, 1) := by decide +kernel
theorem dX12_yearsGo_1 : decode cX12_yearsGo 1 = .ok (.istore_n 2, 1) := by decide +kernel
theorem dX12_yearsGo_2 : decode cX12_yearsGo 2 = .ok (.iconst 0, 1) := by decide +kernel
theorem dX12_yearsGo_3 : decode cX12_yearsGo 3 = .ok (.istore_n 3, 1) := by decide +kernel
theorem dX12_yearsGo_4 : decode cX12_yearsGo 4 = .ok (.iload_n 3, 1) := by decide +kernel
theorem dX12_yearsGo_5 : decode cX12_yearsGo 5 = .ok (.iload_n 1, 1) := by decide +kernel
theorem dX12_yearsGo_6 : decode cX12_yearsGo 6 = .ok (.if_icmp .ge 16, 3) := by decide +kernel
theorem dX12_yearsGo_9 : decode cX12_yearsGo 9 = .ok (.iload_n 2, 1) := by decide +kernel
theorem dX12_yearsGo_10 : decode cX12_yearsGo 10 = .ok (.aload_n 0, 1) := by decide +kernel
theorem dX12_yearsGo_11 : decode cX12_yearsGo 11 = .ok (.invokevirtual 310, 3) := by decide +kernel
theorem dX12_yearsGo_14 : decode cX12_yearsGo 14 = .ok (.iadd, 1) := by decide +kernel
theorem dX12_yearsGo_15 : decode cX12_yearsGo 15 = .ok (.istore_n 2, 1) := by decide +kernel
theorem dX12_yearsGo_16 : decode cX12_yearsGo 16 = .ok (.iinc 3 1, 3) := by decide +kernel
theorem dX12_yearsGo_19 : decode cX12_yearsGo 19 = .ok (.goto (-15), 3) := by decide +kernel
theorem dX12_yearsGo_22 : decode cX12_yearsGo 22 = .ok (.iload_n 2, 1) := by decide +kernel
theorem dX12_yearsGo_23 : decode cX12_yearsGo 23 = .ok (.ireturn, 1) := by decide +kernel
def qX12_yearsGo_l4  (post : Int32 → St → Prop) (K4 : Int32 → Int32 → Int32 → St → Prop) (x1 : Int32) (x2 : Int32) (x3 : Int32) (u0 : St) : Prop := ((x1 ≤ x3 → post x2 u0) ∧ (¬ x1 ≤ x3 → qX12_yearGoes u0 (fun r_7 u_6 => ∀ x2_9 : Int32, x2_9 = (x2 + r_7) → ∀ x3_10 : Int32, x3_10 = x3 + (1 : Int32) → K4 x1 x2_9 x3_10 u_6)))
set_option maxRecDepth 100000 in
set_option maxHeartbeats 4000000 in
theorem kX12_yearsGo_l4 {C : Cx} {o0 : Nat} {a0 : Nat → Nat} (hC : Fx C cX12_yearsGo 4 RX12) (hR0 : xR C = rm 8) {post : Int32 → St → Prop} (hR : RI C cX12_yearsGo 4 (fun u : St => (wX12 o0 a0 (xy C) u [])) (fun r u => post r u))  {K4 : Int32 → Int32 → Int32 → St → Prop} (hK4 : ∀ (x1 : Int32) (x2 : Int32) (x3 : Int32) (u0 : St), K4 x1 x2 x3 u0 → G C 0 0 4 (wX12 o0 a0 (xy C) u0 []) 4 [(0, .ref o0), (1, .int x1), (2, .int x2), (3, .int x3)] []) {x1 : Int32} {x2 : Int32} {x3 : Int32} {u0 : St} (h : qX12_yearsGo_l4 post K4 x1 x2 x3 u0) : G C 0 0 4 (wX12 o0 a0 (xy C) u0 []) 4 [(0, .ref o0), (1, .int x1), (2, .int x2), (3, .int x3)] [] := by
  refine g_iload_n (pc := 4) hC 3 dX12_yearsGo_4 rfl rfl ?_
  refine g_iload_n (pc := 5) hC 1 dX12_yearsGo_5 rfl rfl ?_
  refine g_icmp_ge (pc := 6) (tgt := 22) hC dX12_yearsGo_6 (by decide) (fun c_5 => ?_) (fun c_5 => ?_)
  · have h := h.1 c_5
    refine g_iload_n (pc := 22) hC 2 dX12_yearsGo_22 rfl rfl ?_
    exact hR _ _ _ u0 dX12_yearsGo_23 h
  · have h := h.2 c_5
    refine g_iload_n (pc := 9) hC 2 dX12_yearsGo_9 rfl rfl ?_
    refine g_aload_n (pc := 10) hC 0 dX12_yearsGo_10 rfl rfl ?_
    refine g_callV_i (pc := 11) (wd := fun (u : St) Y => (wX12 o0 a0 (xy C) u Y)) (F := fun Z => Z) (X := []) (As := []) (rest := [.int x2]) (u := u0) hC (fun _ _ => rfl) (fun _ => rfl) (ctX12_yearGoes h) wvX12_yearGoes ml_X12_310 (ci := 10) (q0 := 0) rfl rfl rfl rfl (rmok hR0 rfl) ⟨Nat.zero_le _, Nat.zero_le _⟩ rfl (Nat.le_of_ble_eq_true rfl) dX12_yearsGo_11 (fun r_7 u_6 h => ?_)
    refine g_iadd (pc := 14) hC dX12_yearsGo_14 ?_
    refine g_topi (fun x2_9 ex2_9 => ?_)
    have h := h x2_9 ex2_9
    refine g_istore_n (pc := 15) (lv' := [(2, .int x2_9), (0, .ref o0), (1, .int x1), (3, .int x3)]) hC dX12_yearsGo_15 rfl (Nat.le_of_ble_eq_true rfl) rfl ?_
    obtain ⟨x3_10, ex3_10⟩ : ∃ z : Int32, z = x3 + (1 : Int32) := ⟨_, rfl⟩
    have h := h x3_10 ex3_10
    refine g_iinc (pc := 16) (v := x3_10) (lv' := [(3, .int x3_10), (2, .int x2_9), (0, .ref o0), (1, .int x1)]) hC 3 dX12_yearsGo_16 rfl (by rw [ex3_10]; rfl) (Nat.le_of_ble_eq_true rfl) rfl ?_
    refine g_goto (pc := 19) (tgt := 4) hC dX12_yearsGo_19 (by decide) ?_
    refine g_sub (lv' := [(0, .ref o0), (1, .int x1), (2, .int x2_9), (3, .int x3_10)]) [2, 3, 1, 0] rfl ?_
    exact hK4 _ _ _ _ h
def qX12_yearsGo_L4  (post : Int32 → St → Prop)  : Nat → Int32 → Int32 → Int32 → St → Prop
  | 0 => fun _ _ _ _ => False
  | n + 1 => qX12_yearsGo_l4 post (qX12_yearsGo_L4 post n)
theorem kX12_yearsGo_L4 {C : Cx} {o0 : Nat} {a0 : Nat → Nat} (hC : Fx C cX12_yearsGo 4 RX12) (hR0 : xR C = rm 8) {post : Int32 → St → Prop} (hR : RI C cX12_yearsGo 4 (fun u : St => (wX12 o0 a0 (xy C) u [])) (fun r u => post r u))  : ∀ (n : Nat) (x1 : Int32) (x2 : Int32) (x3 : Int32) (u0 : St), qX12_yearsGo_L4 post n x1 x2 x3 u0 → G C 0 0 4 (wX12 o0 a0 (xy C) u0 []) 4 [(0, .ref o0), (1, .int x1), (2, .int x2), (3, .int x3)] [] := by
  intro n
  induction n with
  | zero => intro x1 x2 x3 u0 h; exact h.elim
  | succ n ih => intro x1 x2 x3 u0 h; exact kX12_yearsGo_l4 hC hR0 hR  ih h
def qX12_yearsGo (x1 : Int32) (u0 : St) (post : Int32 → St → Prop) : Prop := ∃ n_11 : Nat, qX12_yearsGo_L4 post n_11 x1 (0 : Int32) (0 : Int32) u0
set_option maxRecDepth 100000 in
set_option maxHeartbeats 4000000 in
theorem kX12_yearsGo {C : Cx} {o0 : Nat} {a0 : Nat → Nat} (hC : Fx C cX12_yearsGo 4 RX12) (hR0 : xR C = rm 8) {post : Int32 → St → Prop} (hR : RI C cX12_yearsGo 4 (fun u : St => (wX12 o0 a0 (xy C) u [])) (fun r u => post r u)) {x1 : Int32} {u0 : St} (h : qX12_yearsGo x1 u0 post) : G C 0 0 4 (wX12 o0 a0 (xy C) u0 []) 0 [(0, .ref o0), (1, .int x1)] [] := by
  refine g_iconst (pc := 0) (v := 0) hC dX12_yearsGo_0 (by decide) ?_
  refine g_istore_n (pc := 1) (lv' := [(2, .int (0 : Int32)), (0, .ref o0), (1, .int x1)]) hC dX12_yearsGo_1 rfl (Nat.le_of_ble_eq_true rfl) rfl ?_
  refine g_iconst (pc := 2) (v := 0) hC dX12_yearsGo_2 (by decide) ?_
  refine g_istore_n (pc := 3) (lv' := [(3, .int (0 : Int32)), (2, .int (0 : Int32)), (0, .ref o0), (1, .int x1)]) hC dX12_yearsGo_3 rfl (Nat.le_of_ble_eq_true rfl) rfl ?_
  refine g_sub (lv' := [(0, .ref o0), (1, .int x1), (2, .int (0 : Int32)), (3, .int (0 : Int32))]) [2, 3, 1, 0] rfl ?_
  obtain ⟨n_11, h⟩ := h
  exact kX12_yearsGo_L4 hC hR0 hR  n_11 _ _ _ _ h
theorem ctX12_yearsGo {l : Launch} {D : va_G} {cy : Nat → ClassId} {kd : Nat → Nat} {o0 : Nat} {a0 : Nat → Nat} {x1 : Int32} {u0 : St} {post : Int32 → St → Prop} (h : qX12_yearsGo x1 u0 post) : CtI l D cy kd yX12_yearsGo cX12_yearsGo 4 8 .int [.ref o0, .int x1] (fun u : St => (wX12 o0 a0 cy u [])) u0 (fun r u => post r u) := met_i (by decide) (Nat.le_of_ble_eq_true rfl) (fun C e1 e2 e3 e4 e5 hC hR => by subst e1 e2 e3 e4; exact kX12_yearsGo hC e5 hR h)
theorem dX12_year_0 : decode cX12_year 0 = .ok (.iload_n 1, 1) := by decide +kernel
theorem dX12_year_1 : decode cX12_year 1 = .ok (.i2l, 1) := by decide +kernel
theorem dX12_year_2 : decode cX12_year 2 = .ok (.lconst 1, 1) := by decide +kernel
theorem dX12_year_3 : decode cX12_year 3 = .ok (.ldc2_w 313, 3) := by decide +kernel
theorem dX12_year_6 : decode cX12_year 6 = .ok (.invokestatic 315, 3) := by decide +kernel
theorem dX12_year_9 : decode cX12_year 9 = .ok (.ifCond .ne 9, 3) := by decide +kernel
theorem dX12_year_12 : decode cX12_year 12 = .ok (.aload_n 0, 1) := by decide +kernel
theorem dX12_year_13 : decode cX12_year 13 = .ok (.iconst 1, 1) := by decide +kernel
theorem dX12_year_14 : decode cX12_year 14 = .ok (.invokevirtual 88, 3) := by decide +kernel
theorem dX12_year_17 : decode cX12_year 17 = .ok (.ireturn, 1) := by decide +kernel
theorem dX12_year_18 : decode cX12_year 18 = .ok (.aload_n 0, 1) := by decide +kernel
theorem dX12_year_19 : decode cX12_year 19 = .ok (.getfield 7, 3) := by decide +kernel
theorem dX12_year_22 : decode cX12_year 22 = .ok (.iconst 4, 1) := by decide +kernel
theorem dX12_year_23 : decode cX12_year 23 = .ok (.iaload, 1) := by decide +kernel
theorem dX12_year_24 : decode cX12_year 24 = .ok (.iload_n 1, 1) := by decide +kernel
theorem dX12_year_25 : decode cX12_year 25 = .ok (.iadd, 1) := by decide +kernel
theorem dX12_year_26 : decode cX12_year 26 = .ok (.sipush 9999, 3) := by decide +kernel
theorem dX12_year_29 : decode cX12_year 29 = .ok (.if_icmp .le 11, 3) := by decide +kernel
theorem dX12_year_32 : decode cX12_year 32 = .ok (.aload_n 0, 1) := by decide +kernel
theorem dX12_year_33 : decode cX12_year 33 = .ok (.iconst 4, 1) := by decide +kernel
theorem dX12_year_34 : decode cX12_year 34 = .ok (.invokevirtual 88, 3) := by decide +kernel
theorem dX12_year_37 : decode cX12_year 37 = .ok (.goto 12, 3) := by decide +kernel
theorem dX12_year_40 : decode cX12_year 40 = .ok (.aload_n 0, 1) := by decide +kernel
theorem dX12_year_41 : decode cX12_year 41 = .ok (.aload_n 0, 1) := by decide +kernel
theorem dX12_year_42 : decode cX12_year 42 = .ok (.iload_n 1, 1) := by decide +kernel
theorem dX12_year_43 : decode cX12_year 43 = .ok (.invokevirtual 319, 3) := by decide +kernel
theorem dX12_year_46 : decode cX12_year 46 = .ok (.invokevirtual 92, 3) := by decide +kernel
theorem dX12_year_49 : decode cX12_year 49 = .ok (.ireturn, 1) := by decide +kernel
def qX12_year_b49  (post : Int32 → St → Prop)  (s0 : Int32) (u0 : St) : Prop := post s0 u0
set_option maxRecDepth 100000 in
set_option maxHeartbeats 4000000 in
theorem kX12_year_b49 {C : Cx} {o0 : Nat} {a0 : Nat → Nat} (hC : Fx C cX12_year 2 RX12) (hR0 : xR C = rm 9) {post : Int32 → St → Prop} (hR : RI C cX12_year 2 (fun u : St => (wX12 o0 a0 (xy C) u [])) (fun r u => post r u))  {s0 : Int32} {u0 : St} (h : qX12_year_b49 post s0 u0) : G C 0 0 2 (wX12 o0 a0 (xy C) u0 []) 49 [] [.int s0] := by
  exact hR _ _ _ u0 dX12_year_49 h
def qX12_year (x1 : Int32) (u0 : St) (post : Int32 → St → Prop) : Prop := qX12_isFrom (x1).toInt64 (1 : Int64) (99 : Int64) (fun r_15 => ((¬ r_15 = 0 → ((((ga u0 0 ((4 : Int32)).toNatClampNeg) + x1) ≤ (9999 : Int32) → qX12_yearsGo x1 u0 (fun r_20 u_19 => qX12_gives r_20 u_19 (fun r_23 u_22 => qX12_year_b49 post r_23 u_22))) ∧ (¬ ((ga u0 0 ((4 : Int32)).toNatClampNeg) + x1) ≤ (9999 : Int32) → qX12_refuse (4 : Int32) u0 (fun r_26 u_25 => qX12_year_b49 post r_26 u_25)))) ∧ (r_15 = 0 → qX12_refuse (1 : Int32) u0 (fun r_29 u_28 => post r_29 u_28))))
set_option maxRecDepth 100000 in
set_option maxHeartbeats 4000000 in
theorem kX12_year {C : Cx} {o0 : Nat} {a0 : Nat → Nat} (hC : Fx C cX12_year 2 RX12) (hR0 : xR C = rm 9) {post : Int32 → St → Prop} (hR : RI C cX12_year 2 (fun u : St => (wX12 o0 a0 (xy C) u [])) (fun r u => post r u)) {x1 : Int32} {u0 : St} (h : qX12_year x1 u0 post) : G C 0 0 2 (wX12 o0 a0 (xy C) u0 []) 0 [(0, .ref o0), (1, .int x1)] [] := by
  refine g_iload_n (pc := 0) hC 1 dX12_year_0 rfl rfl ?_
  refine g_i2l (pc := 1) hC dX12_year_1 ?_
  refine g_lconst (pc := 2) (v := 1) hC dX12_year_2 (by decide) ?_
  refine g_ldc2 (pc := 3) hC cn_X12_313 dX12_year_3 ?_
  refine g_callS_i (pc := 6) (wd := fun (_ : Unit) Y => Y) (F := fun Z => Z) (X := []) (As := [.long (x1).toInt64, .long (1 : Int64), .long (99 : Int64)]) (rest := []) (u := ()) hC (fun _ _ => rfl) (fun _ => rfl) (ctX12_isFrom h) wvX12_isFrom ml_X12_315 rfl (rmok hR0 rfl) ⟨Nat.zero_le _, Nat.zero_le _⟩ rfl (Nat.le_of_ble_eq_true rfl) dX12_year_6 (fun r_15 u_16 h => ?_)
  refine g_if_ne (pc := 9) (tgt := 18) hC dX12_year_9 (by decide) (fun c_17 => ?_) (fun c_17 => ?_)
  · have h := h.1 c_17
    refine g_aload_n (pc := 18) hC 0 dX12_year_18 rfl rfl ?_
    refine getX12_0 (pc := 19) hC (F := fun Z => Z) (X := []) (fun _ => rfl) fl_X12_7 dX12_year_19 ?_
    refine g_iconst (pc := 22) (v := 4) hC dX12_year_22 (by decide) ?_
    refine aldX12_0 (pc := 23) hC (F := fun Z => Z) (X := []) (fun _ => rfl) (by unfold vp_in; decide) dX12_year_23 ?_
    refine g_iload_n (pc := 24) hC 1 dX12_year_24 rfl rfl ?_
    refine g_iadd (pc := 25) hC dX12_year_25 ?_
    refine g_sipush (pc := 26) (v := 9999) hC dX12_year_26 (by decide) ?_
    refine g_icmp_le (pc := 29) (tgt := 40) hC dX12_year_29 (by decide) (fun c_18 => ?_) (fun c_18 => ?_)
    · have h := h.1 c_18
      refine g_aload_n (pc := 40) hC 0 dX12_year_40 rfl rfl ?_
      refine g_aload_n (pc := 41) hC 0 dX12_year_41 rfl rfl ?_
      refine g_iload_n (pc := 42) hC 1 dX12_year_42 rfl rfl ?_
      refine g_callV_i (pc := 43) (wd := fun (u : St) Y => (wX12 o0 a0 (xy C) u Y)) (F := fun Z => Z) (X := []) (As := [.int x1]) (rest := [.ref o0]) (u := u0) hC (fun _ _ => rfl) (fun _ => rfl) (ctX12_yearsGo h) wvX12_yearsGo ml_X12_319 (ci := 10) (q0 := 0) rfl rfl rfl rfl (rmok hR0 rfl) ⟨Nat.zero_le _, Nat.zero_le _⟩ rfl (Nat.le_of_ble_eq_true rfl) dX12_year_43 (fun r_20 u_19 h => ?_)
      refine g_callV_i (pc := 46) (wd := fun (u : St) Y => (wX12 o0 a0 (xy C) u Y)) (F := fun Z => Z) (X := []) (As := [.int r_20]) (rest := []) (u := u_19) hC (fun _ _ => rfl) (fun _ => rfl) (ctX12_gives h) wvX12_gives ml_X12_92 (ci := 10) (q0 := 0) rfl rfl rfl rfl (rmok hR0 rfl) ⟨Nat.zero_le _, Nat.zero_le _⟩ rfl (Nat.le_of_ble_eq_true rfl) dX12_year_46 (fun r_23 u_22 h => ?_)
      refine g_sub (lv' := []) [] rfl ?_
      exact kX12_year_b49 hC hR0 hR  h
    · have h := h.2 c_18
      refine g_aload_n (pc := 32) hC 0 dX12_year_32 rfl rfl ?_
      refine g_iconst (pc := 33) (v := 4) hC dX12_year_33 (by decide) ?_
      refine g_callV_i (pc := 34) (wd := fun (u : St) Y => (wX12 o0 a0 (xy C) u Y)) (F := fun Z => Z) (X := []) (As := [.int (4 : Int32)]) (rest := []) (u := u0) hC (fun _ _ => rfl) (fun _ => rfl) (ctX12_refuse h) wvX12_refuse ml_X12_88 (ci := 10) (q0 := 0) rfl rfl rfl rfl (rmok hR0 rfl) ⟨Nat.zero_le _, Nat.zero_le _⟩ rfl (Nat.le_of_ble_eq_true rfl) dX12_year_34 (fun r_26 u_25 h => ?_)
      refine g_goto (pc := 37) (tgt := 49) hC dX12_year_37 (by decide) ?_
      refine g_sub (lv' := []) [] rfl ?_
      exact kX12_year_b49 hC hR0 hR  h
  · have h := h.2 c_17
    refine g_aload_n (pc := 12) hC 0 dX12_year_12 rfl rfl ?_
    refine g_iconst (pc := 13) (v := 1) hC dX12_year_13 (by decide) ?_
    refine g_callV_i (pc := 14) (wd := fun (u : St) Y => (wX12 o0 a0 (xy C) u Y)) (F := fun Z => Z) (X := []) (As := [.int (1 : Int32)]) (rest := []) (u := u0) hC (fun _ _ => rfl) (fun _ => rfl) (ctX12_refuse h) wvX12_refuse ml_X12_88 (ci := 10) (q0 := 0) rfl rfl rfl rfl (rmok hR0 rfl) ⟨Nat.zero_le _, Nat.zero_le _⟩ rfl (Nat.le_of_ble_eq_true rfl) dX12_year_14 (fun r_29 u_28 h => ?_)
    exact hR _ _ _ u_28 dX12_year_17 h
theorem ctX12_year {l : Launch} {D : va_G} {cy : Nat → ClassId} {kd : Nat → Nat} {o0 : Nat} {a0 : Nat → Nat} {x1 : Int32} {u0 : St} {post : Int32 → St → Prop} (h : qX12_year x1 u0 post) : CtI l D cy kd yX12_year cX12_year 2 9 .int [.ref o0, .int x1] (fun u : St => (wX12 o0 a0 cy u [])) u0 (fun r u => post r u) := met_i (by decide) (Nat.le_of_ble_eq_true rfl) (fun C e1 e2 e3 e4 e5 hC hR => by subst e1 e2 e3 e4; exact kX12_year hC e5 hR h)
theorem dX12_moves_0 : decode cX12_moves 0 = .ok (.aload_n 0, 1) := by decide +kernel
theorem dX12_moves_1 : decode cX12_moves 1 = .ok (.getfield 7, 3) := by decide +kernel
theorem dX12_moves_4 : decode cX12_moves 4 = .ok (.bipush 34, 2) := by decide +kernel
theorem dX12_moves_6 : decode cX12_moves 6 = .ok (.iload_n 1, 1) := by decide +kernel
theorem dX12_moves_7 : decode cX12_moves 7 = .ok (.iadd, 1) := by decide +kernel
theorem dX12_moves_8 : decode cX12_moves 8 = .ok (.iaload, 1) := by decide +kernel
theorem dX12_moves_9 : decode cX12_moves 9 = .ok (.iload_n 3, 1) := by decide +kernel
theorem dX12_moves_10 : decode cX12_moves 10 = .ok (.if_icmp .ge 5, 3) := by decide +kernel
theorem dX12_moves_13 : decode cX12_moves 13 = .ok (.iconst 0, 1) := by decide +kernel
theorem dX12_moves_14 : decode cX12_moves 14 = .ok (.ireturn, 1) := by decide +kernel
theorem dX12_moves_15 : decode cX12_moves 15 = .ok (.aload_n 0, 1) := by decide +kernel
theorem dX12_moves_16 : decode cX12_moves 16 = .ok (.getfield 7, 3) := by decide +kernel
theorem dX12_moves_19 : decode cX12_moves 19 = .ok (.bipush 34, 2) := by decide +kernel
theorem dX12_moves_21 : decode cX12_moves 21 = .ok (.iload_n 1, 1) := by decide +kernel
theorem dX12_moves_22 : decode cX12_moves 22 = .ok (.iadd, 1) := by decide +kernel
theorem dX12_moves_23 : decode cX12_moves 23 = .ok (.dup2, 1) := by decide +kernel
theorem dX12_moves_24 : decode cX12_moves 24 = .ok (.iaload, 1) := by decide +kernel
theorem dX12_moves_25 : decode cX12_moves 25 = .ok (.iload_n 3, 1) := by decide +kernel
theorem dX12_moves_26 : decode cX12_moves 26 = .ok (.isub, 1) := by decide +kernel
theorem dX12_moves_27 : decode cX12_moves 27 = .ok (.iastore, 1) := by decide +kernel
theorem dX12_moves_28 : decode cX12_moves 28 = .ok (.aload_n 0, 1) := by decide +kernel
theorem dX12_moves_29 : decode cX12_moves 29 = .ok (.getfield 7, 3) := by decide +kernel
theorem dX12_moves_32 : decode cX12_moves 32 = .ok (.bipush 34, 2) := by decide +kernel
theorem dX12_moves_34 : decode cX12_moves 34 = .ok (.iload_n 2, 1) := by decide +kernel
theorem dX12_moves_35 : decode cX12_moves 35 = .ok (.iadd, 1) := by decide +kernel
theorem dX12_moves_36 : decode cX12_moves 36 = .ok (.sipush 9999, 3) := by decide +kernel
theorem dX12_moves_39 : decode cX12_moves 39 = .ok (.aload_n 0, 1) := by decide +kernel
theorem dX12_moves_40 : decode cX12_moves 40 = .ok (.getfield 7, 3) := by decide +kernel
theorem dX12_moves_43 : decode cX12_moves 43 = .ok (.bipush 34, 2) := by decide +kernel
theorem dX12_moves_45 : decode cX12_moves 45 = .ok (.iload_n 2, 1) := by decide +kernel
theorem dX12_moves_46 : decode cX12_moves 46 = .ok (.iadd, 1) := by decide +kernel
theorem dX12_moves_47 : decode cX12_moves 47 = .ok (.iaload, 1) := by decide +kernel
theorem dX12_moves_48 : decode cX12_moves 48 = .ok (.iload_n 3, 1) := by decide +kernel
theorem dX12_moves_49 : decode cX12_moves 49 = .ok (.iadd, 1) := by decide +kernel
theorem dX12_moves_50 : decode cX12_moves 50 = .ok (.invokestatic 143, 3) := by decide +kernel
theorem dX12_moves_53 : decode cX12_moves 53 = .ok (.iastore, 1) := by decide +kernel
theorem dX12_moves_54 : decode cX12_moves 54 = .ok (.iconst 1, 1) := by decide +kernel
theorem dX12_moves_55 : decode cX12_moves 55 = .ok (.ireturn, 1) := by decide +kernel
def qX12_moves (x1 : Int32) (x2 : Int32) (x3 : Int32) (u0 : St) (post : Int32 → St → Prop) : Prop := (vp_in ((34 : Int32) + x1) 3072 ∧ ((x3 ≤ (ga u0 0 (((34 : Int32) + x1)).toNatClampNeg) → (vp_in ((34 : Int32) + x1) 3072 ∧ (vp_in ((34 : Int32) + x1) 3072 ∧ ∀ u_4 : St, u_4 = (sw u0 0 (upd (ga u0 0) (((34 : Int32) + x1)).toNatClampNeg ((ga u0 0 (((34 : Int32) + x1)).toNatClampNeg) - x3))) → (vp_in ((34 : Int32) + x2) 3072 ∧ (vp_in ((34 : Int32) + x2) 3072 ∧ ∀ u_5 : St, u_5 = (sw u_4 0 (upd (ga u_4 0) (((34 : Int32) + x2)).toNatClampNeg (if ((ga u_4 0 (((34 : Int32) + x2)).toNatClampNeg) + x3) < (9999 : Int32) then ((ga u_4 0 (((34 : Int32) + x2)).toNatClampNeg) + x3) else (9999 : Int32)))) → post (1 : Int32) u_5))))) ∧ (¬ x3 ≤ (ga u0 0 (((34 : Int32) + x1)).toNatClampNeg) → post (0 : Int32) u0)))
set_option maxRecDepth 100000 in
set_option maxHeartbeats 4000000 in
theorem kX12_moves {C : Cx} {o0 : Nat} {a0 : Nat → Nat} (hC : Fx C cX12_moves 4 RX12) (hR0 : xR C = rm 2) {post : Int32 → St → Prop} (hR : RZ C cX12_moves 4 (fun u : St => (wX12 o0 a0 (xy C) u [])) (fun r u => post r u)) {x1 : Int32} {x2 : Int32} {x3 : Int32} {u0 : St} (h : qX12_moves x1 x2 x3 u0 post) : G C 0 0 4 (wX12 o0 a0 (xy C) u0 []) 0 [(0, .ref o0), (1, .int x1), (2, .int x2), (3, .int x3)] [] := by
  refine g_aload_n (pc := 0) hC 0 dX12_moves_0 rfl rfl ?_
  refine getX12_0 (pc := 1) hC (F := fun Z => Z) (X := []) (fun _ => rfl) fl_X12_7 dX12_moves_1 ?_
  refine g_bipush (pc := 4) (v := 34) hC dX12_moves_4 (by decide) ?_
  refine g_iload_n (pc := 6) hC 1 dX12_moves_6 rfl rfl ?_
  refine g_iadd (pc := 7) hC dX12_moves_7 ?_
  refine aldX12_0 (pc := 8) hC (F := fun Z => Z) (X := []) (fun _ => rfl) h.1 dX12_moves_8 ?_
  have h := h.2
  refine g_iload_n (pc := 9) hC 3 dX12_moves_9 rfl rfl ?_
  refine g_icmp_ge (pc := 10) (tgt := 15) hC dX12_moves_10 (by decide) (fun c_3 => ?_) (fun c_3 => ?_)
  · have h := h.1 c_3
    refine g_aload_n (pc := 15) hC 0 dX12_moves_15 rfl rfl ?_
    refine getX12_0 (pc := 16) hC (F := fun Z => Z) (X := []) (fun _ => rfl) fl_X12_7 dX12_moves_16 ?_
    refine g_bipush (pc := 19) (v := 34) hC dX12_moves_19 (by decide) ?_
    refine g_iload_n (pc := 21) hC 1 dX12_moves_21 rfl rfl ?_
    refine g_iadd (pc := 22) hC dX12_moves_22 ?_
    refine g_dup2 (pc := 23) hC dX12_moves_23 rfl rfl ?_
    refine aldX12_0 (pc := 24) hC (F := fun Z => Z) (X := []) (fun _ => rfl) h.1 dX12_moves_24 ?_
    have h := h.2
    refine g_iload_n (pc := 25) hC 3 dX12_moves_25 rfl rfl ?_
    refine g_isub (pc := 26) hC dX12_moves_26 ?_
    refine astX12_0 (pc := 27) hC (F := fun Z => Z) (X := []) (fun _ => rfl) h.1 dX12_moves_27 ?_
    have h := h.2
    refine g_st (w := fun z => (wX12 o0 a0 (xy C) z [])) (u := (sw u0 0 (upd (ga u0 0) (((34 : Int32) + x1)).toNatClampNeg ((ga u0 0 (((34 : Int32) + x1)).toNatClampNeg) - x3)))) (fun u_4 eu_4 => ?_)
    have h := h u_4 eu_4
    refine g_aload_n (pc := 28) hC 0 dX12_moves_28 rfl rfl ?_
    refine getX12_0 (pc := 29) hC (F := fun Z => Z) (X := []) (fun _ => rfl) fl_X12_7 dX12_moves_29 ?_
    refine g_bipush (pc := 32) (v := 34) hC dX12_moves_32 (by decide) ?_
    refine g_iload_n (pc := 34) hC 2 dX12_moves_34 rfl rfl ?_
    refine g_iadd (pc := 35) hC dX12_moves_35 ?_
    refine g_sipush (pc := 36) (v := 9999) hC dX12_moves_36 (by decide) ?_
    refine g_aload_n (pc := 39) hC 0 dX12_moves_39 rfl rfl ?_
    refine getX12_0 (pc := 40) hC (F := fun Z => Z) (X := []) (fun _ => rfl) fl_X12_7 dX12_moves_40 ?_
    refine g_bipush (pc := 43) (v := 34) hC dX12_moves_43 (by decide) ?_
    refine g_iload_n (pc := 45) hC 2 dX12_moves_45 rfl rfl ?_
    refine g_iadd (pc := 46) hC dX12_moves_46 ?_
    refine aldX12_0 (pc := 47) hC (F := fun Z => Z) (X := []) (fun _ => rfl) h.1 dX12_moves_47 ?_
    have h := h.2
    refine g_iload_n (pc := 48) hC 3 dX12_moves_48 rfl rfl ?_
    refine g_iadd (pc := 49) hC dX12_moves_49 ?_
    refine g_mmin (pc := 50) hC hR0 ml_X12_143 dX12_moves_50 (Nat.le_of_ble_eq_true rfl) ?_
    refine astX12_0 (pc := 53) hC (F := fun Z => Z) (X := []) (fun _ => rfl) h.1 dX12_moves_53 ?_
    have h := h.2
    refine g_st (w := fun z => (wX12 o0 a0 (xy C) z [])) (u := (sw u_4 0 (upd (ga u_4 0) (((34 : Int32) + x2)).toNatClampNeg (if ((ga u_4 0 (((34 : Int32) + x2)).toNatClampNeg) + x3) < (9999 : Int32) then ((ga u_4 0 (((34 : Int32) + x2)).toNatClampNeg) + x3) else (9999 : Int32))))) (fun u_5 eu_5 => ?_)
    have h := h u_5 eu_5
    refine g_iconst (pc := 54) (v := 1) hC dX12_moves_54 (by decide) ?_
    exact hR _ _ _ u_5 dX12_moves_55 (Or.inr rfl) h
  · have h := h.2 c_3
    refine g_iconst (pc := 13) (v := 0) hC dX12_moves_13 (by decide) ?_
    exact hR _ _ _ u0 dX12_moves_14 (Or.inl rfl) h
theorem ctX12_moves {l : Launch} {D : va_G} {cy : Nat → ClassId} {kd : Nat → Nat} {o0 : Nat} {a0 : Nat → Nat} {x1 : Int32} {x2 : Int32} {x3 : Int32} {u0 : St} {post : Int32 → St → Prop} (h : qX12_moves x1 x2 x3 u0 post) : CtI l D cy kd yX12_moves cX12_moves 4 2 .boolean [.ref o0, .int x1, .int x2, .int x3] (fun u : St => (wX12 o0 a0 cy u [])) u0 (fun r u => post r u) := met_z (by decide) (Nat.le_of_ble_eq_true rfl) (fun C e1 e2 e3 e4 e5 hC hR => by subst e1 e2 e3 e4; exact kX12_moves hC e5 hR h)
theorem dX12_pays_0 : decode cX12_pays 0 = .ok (.aload_n 0, 1) := by decide +kernel
theorem dX12_pays_1 : decode cX12_pays 1 = .ok (.iload_n 1, 1) := by decide +kernel
theorem dX12_pays_2 : decode cX12_pays 2 = .ok (.invokevirtual 282, 3) := by decide +kernel
theorem dX12_pays_5 : decode cX12_pays 5 = .ok (.istore_n 2, 1) := by decide +kernel
theorem dX12_pays_6 : decode cX12_pays 6 = .ok (.aload_n 0, 1) := by decide +kernel
theorem dX12_pays_7 : decode cX12_pays 7 = .ok (.iload_n 1, 1) := by decide +kernel
theorem dX12_pays_8 : decode cX12_pays 8 = .ok (.invokevirtual 261, 3) := by decide +kernel
theorem dX12_pays_11 : decode cX12_pays 11 = .ok (.ifCond .ne 23, 3) := by decide +kernel
theorem dX12_pays_14 : decode cX12_pays 14 = .ok (.aload_n 0, 1) := by decide +kernel
theorem dX12_pays_15 : decode cX12_pays 15 = .ok (.aload_n 0, 1) := by decide +kernel
theorem dX12_pays_16 : decode cX12_pays 16 = .ok (.iload_n 1, 1) := by decide +kernel
theorem dX12_pays_17 : decode cX12_pays 17 = .ok (.iconst 0, 1) := by decide +kernel
theorem dX12_pays_18 : decode cX12_pays 18 = .ok (.invokevirtual 264, 3) := by decide +kernel
theorem dX12_pays_21 : decode cX12_pays 21 = .ok (.aload_n 0, 1) := by decide +kernel
theorem dX12_pays_22 : decode cX12_pays 22 = .ok (.iload_n 1, 1) := by decide +kernel
theorem dX12_pays_23 : decode cX12_pays 23 = .ok (.iconst 1, 1) := by decide +kernel
theorem dX12_pays_24 : decode cX12_pays 24 = .ok (.invokevirtual 264, 3) := by decide +kernel
theorem dX12_pays_27 : decode cX12_pays 27 = .ok (.iload_n 2, 1) := by decide +kernel
theorem dX12_pays_28 : decode cX12_pays 28 = .ok (.invokevirtual 322, 3) := by decide +kernel
theorem dX12_pays_31 : decode cX12_pays 31 = .ok (.ifCond .ne 5, 3) := by decide +kernel
theorem dX12_pays_34 : decode cX12_pays 34 = .ok (.iconst (-1), 1) := by decide +kernel
theorem dX12_pays_35 : decode cX12_pays 35 = .ok (.ireturn, 1) := by decide +kernel
theorem dX12_pays_36 : decode cX12_pays 36 = .ok (.aload_n 0, 1) := by decide +kernel
theorem dX12_pays_37 : decode cX12_pays 37 = .ok (.getfield 7, 3) := by decide +kernel
theorem dX12_pays_40 : decode cX12_pays 40 = .ok (.bipush 6, 2) := by decide +kernel
theorem dX12_pays_42 : decode cX12_pays 42 = .ok (.dup2, 1) := by decide +kernel
theorem dX12_pays_43 : decode cX12_pays 43 = .ok (.iaload, 1) := by decide +kernel
theorem dX12_pays_44 : decode cX12_pays 44 = .ok (.iconst 1, 1) := by decide +kernel
theorem dX12_pays_45 : decode cX12_pays 45 = .ok (.iload_n 1, 1) := by decide +kernel
theorem dX12_pays_46 : decode cX12_pays 46 = .ok (.ishl, 1) := by decide +kernel
theorem dX12_pays_47 : decode cX12_pays 47 = .ok (.ior, 1) := by decide +kernel
theorem dX12_pays_48 : decode cX12_pays 48 = .ok (.iastore, 1) := by decide +kernel
theorem dX12_pays_49 : decode cX12_pays 49 = .ok (.iload_n 2, 1) := by decide +kernel
theorem dX12_pays_50 : decode cX12_pays 50 = .ok (.ireturn, 1) := by decide +kernel
def qX12_pays_b34  (post : Int32 → St → Prop)  (u0 : St) : Prop := post (-1 : Int32) u0
set_option maxRecDepth 100000 in
set_option maxHeartbeats 4000000 in
theorem kX12_pays_b34 {C : Cx} {o0 : Nat} {a0 : Nat → Nat} (hC : Fx C cX12_pays 3 RX12) (hR0 : xR C = rm 4) {post : Int32 → St → Prop} (hR : RI C cX12_pays 3 (fun u : St => (wX12 o0 a0 (xy C) u [])) (fun r u => post r u))  {u0 : St} (h : qX12_pays_b34 post u0) : G C 0 0 3 (wX12 o0 a0 (xy C) u0 []) 34 [] [] := by
  refine g_iconst (pc := 34) (v := -1) hC dX12_pays_34 (by decide) ?_
  exact hR _ _ _ u0 dX12_pays_35 h
def qX12_pays (x1 : Int32) (u0 : St) (post : Int32 → St → Prop) : Prop := qX12_owedOf x1 u0 (fun r_18 u_17 => qX12_isPaidUp x1 u_17 (fun r_21 u_20 => ((¬ r_21 = 0 → qX12_pays_b34 post u_20) ∧ (r_21 = 0 → qX12_debtOf x1 (0 : Int32) u_20 (fun r_25 u_24 => qX12_debtOf x1 (1 : Int32) u_24 (fun r_28 u_27 => qX12_moves r_25 r_28 r_18 u_27 (fun r_31 u_30 => ((¬ r_31 = 0 → ∀ u_34 : St, u_34 = (sw u_30 0 (upd (ga u_30 0) ((6 : Int32)).toNatClampNeg ((ga u_30 0 ((6 : Int32)).toNatClampNeg) ||| ((1 : Int32) <<< (x1 &&& 31))))) → post r_18 u_34) ∧ (r_31 = 0 → qX12_pays_b34 post u_30)))))))))
set_option maxRecDepth 100000 in
set_option maxHeartbeats 4000000 in
theorem kX12_pays {C : Cx} {o0 : Nat} {a0 : Nat → Nat} (hC : Fx C cX12_pays 3 RX12) (hR0 : xR C = rm 4) {post : Int32 → St → Prop} (hR : RI C cX12_pays 3 (fun u : St => (wX12 o0 a0 (xy C) u [])) (fun r u => post r u)) {x1 : Int32} {u0 : St} (h : qX12_pays x1 u0 post) : G C 0 0 3 (wX12 o0 a0 (xy C) u0 []) 0 [(0, .ref o0), (1, .int x1)] [] := by
  refine g_aload_n (pc := 0) hC 0 dX12_pays_0 rfl rfl ?_
  refine g_iload_n (pc := 1) hC 1 dX12_pays_1 rfl rfl ?_
  refine g_callV_i (pc := 2) (wd := fun (u : St) Y => (wX12 o0 a0 (xy C) u Y)) (F := fun Z => Z) (X := []) (As := [.int x1]) (rest := []) (u := u0) hC (fun _ _ => rfl) (fun _ => rfl) (ctX12_owedOf h) wvX12_owedOf ml_X12_282 (ci := 10) (q0 := 0) rfl rfl rfl rfl (rmok hR0 rfl) ⟨Nat.zero_le _, Nat.zero_le _⟩ rfl (Nat.le_of_ble_eq_true rfl) dX12_pays_2 (fun r_18 u_17 h => ?_)
  refine g_istore_n (pc := 5) (lv' := [(2, .int r_18), (0, .ref o0), (1, .int x1)]) hC dX12_pays_5 rfl (Nat.le_of_ble_eq_true rfl) rfl ?_
  refine g_aload_n (pc := 6) hC 1 dX12_pays_6 rfl rfl ?_
  refine g_iload_n (pc := 7) hC 2 dX12_pays_7 rfl rfl ?_
  refine g_callV_i (pc := 8) (wd := fun (u : St) Y => (wX12 o0 a0 (xy C) u Y)) (F := fun Z => Z) (X := []) (As := [.int x1]) (rest := []) (u := u_17) hC (fun _ _ => rfl) (fun _ => rfl) (ctX12_isPaidUp h) wvX12_isPaidUp ml_X12_261 (ci := 10) (q0 := 0) rfl rfl rfl rfl (rmok hR0 rfl) ⟨Nat.zero_le _, Nat.zero_le _⟩ rfl (Nat.le_of_ble_eq_true rfl) dX12_pays_8 (fun r_21 u_20 h => ?_)
  refine g_if_ne (pc := 11) (tgt := 34) hC dX12_pays_11 (by decide) (fun c_23 => ?_) (fun c_23 => ?_)
  · have h := h.1 c_23
    refine g_sub (lv' := []) [] rfl ?_
    exact kX12_pays_b34 hC hR0 hR  h
  · have h := h.2 c_23
    refine g_aload_n (pc := 14) hC 1 dX12_pays_14 rfl rfl ?_
    refine g_aload_n (pc := 15) hC 1 dX12_pays_15 rfl rfl ?_
    refine g_iload_n (pc := 16) hC 2 dX12_pays_16 rfl rfl ?_
    refine g_iconst (pc := 17) (v := 0) hC dX12_pays_17 (by decide) ?_
    refine g_callV_i (pc := 18) (wd := fun (u : St) Y => (wX12 o0 a0 (xy C) u Y)) (F := fun Z => Z) (X := []) (As := [.int x1, .int (0 : Int32)]) (rest := [.ref o0]) (u := u_20) hC (fun _ _ => rfl) (fun _ => rfl) (ctX12_debtOf h) wvX12_debtOf ml_X12_264 (ci := 10) (q0 := 0) rfl rfl rfl rfl (rmok hR0 rfl) ⟨Nat.zero_le _, Nat.zero_le _⟩ rfl (Nat.le_of_ble_eq_true rfl) dX12_pays_18 (fun r_25 u_24 h => ?_)
    refine g_aload_n (pc := 21) hC 1 dX12_pays_21 rfl rfl ?_
    refine g_iload_n (pc := 22) hC 2 dX12_pays_22 rfl rfl ?_
    refine g_iconst (pc := 23) (v := 1) hC dX12_pays_23 (by decide) ?_
    refine g_callV_i (pc := 24) (wd := fun (u : St) Y => (wX12 o0 a0 (xy C) u Y)) (F := fun Z => Z) (X := []) (As := [.int x1, .int (1 : Int32)]) (rest := [.int r_25, .ref o0]) (u := u_24) hC (fun _ _ => rfl) (fun _ => rfl) (ctX12_debtOf h) wvX12_debtOf ml_X12_264 (ci := 10) (q0 := 0) rfl rfl rfl rfl (rmok hR0 rfl) ⟨Nat.zero_le _, Nat.zero_le _⟩ rfl (Nat.le_of_ble_eq_true rfl) dX12_pays_24 (fun r_28 u_27 h => ?_)
    refine g_iload_n (pc := 27) hC 0 dX12_pays_27 rfl rfl ?_
    refine g_callV_i (pc := 28) (wd := fun (u : St) Y => (wX12 o0 a0 (xy C) u Y)) (F := fun Z => Z) (X := []) (As := [.int r_25, .int r_28, .int r_18]) (rest := []) (u := u_27) hC (fun _ _ => rfl) (fun _ => rfl) (ctX12_moves h) wvX12_moves ml_X12_322 (ci := 10) (q0 := 0) rfl rfl rfl rfl (rmok hR0 rfl) ⟨Nat.zero_le _, Nat.zero_le _⟩ rfl (Nat.le_of_ble_eq_true rfl) dX12_pays_28 (fun r_31 u_30 h => ?_)
    refine g_if_ne (pc := 31) (tgt := 36) hC dX12_pays_31 (by decide) (fun c_33 => ?_) (fun c_33 => ?_)
    · have h := h.1 c_33
      refine g_aload_n (pc := 36) hC 1 dX12_pays_36 rfl rfl ?_
      refine getX12_0 (pc := 37) hC (F := fun Z => Z) (X := []) (fun _ => rfl) fl_X12_7 dX12_pays_37 ?_
      refine g_bipush (pc := 40) (v := 6) hC dX12_pays_40 (by decide) ?_
      refine g_dup2 (pc := 42) hC dX12_pays_42 rfl rfl ?_
      refine aldX12_0 (pc := 43) hC (F := fun Z => Z) (X := []) (fun _ => rfl) (by unfold vp_in; decide) dX12_pays_43 ?_
      refine g_iconst (pc := 44) (v := 1) hC dX12_pays_44 (by decide) ?_
      refine g_iload_n (pc := 45) hC 2 dX12_pays_45 rfl rfl ?_
      refine g_ishl (pc := 46) hC dX12_pays_46 ?_
      refine g_ior (pc := 47) hC dX12_pays_47 ?_
      refine astX12_0 (pc := 48) hC (F := fun Z => Z) (X := []) (fun _ => rfl) (by unfold vp_in; decide) dX12_pays_48 ?_
      refine g_st (w := fun z => (wX12 o0 a0 (xy C) z [])) (u := (sw u_30 0 (upd (ga u_30 0) ((6 : Int32)).toNatClampNeg ((ga u_30 0 ((6 : Int32)).toNatClampNeg) ||| ((1 : Int32) <<< (x1 &&& 31)))))) (fun u_34 eu_34 => ?_)
      have h := h u_34 eu_34
      refine g_iload_n (pc := 49) hC 0 dX12_pays_49 rfl rfl ?_
      exact hR _ _ _ u_34 dX12_pays_50 h
    · have h := h.2 c_33
      refine g_sub (lv' := []) [] rfl ?_
      exact kX12_pays_b34 hC hR0 hR  h
theorem ctX12_pays {l : Launch} {D : va_G} {cy : Nat → ClassId} {kd : Nat → Nat} {o0 : Nat} {a0 : Nat → Nat} {x1 : Int32} {u0 : St} {post : Int32 → St → Prop} (h : qX12_pays x1 u0 post) : CtI l D cy kd yX12_pays cX12_pays 3 4 .int [.ref o0, .int x1] (fun u : St => (wX12 o0 a0 cy u [])) u0 (fun r u => post r u) := met_i (by decide) (Nat.le_of_ble_eq_true rfl) (fun C e1 e2 e3 e4 e5 hC hR => by subst e1 e2 e3 e4; exact kX12_pays hC e5 hR h)
theorem dX12_paysAndFalls_0 : decode cX12_paysAndFalls 0 = .ok (.aload_n 0, 1) := by decide +kernel
theorem dX12_paysAndFalls_1 : decode cX12_paysAndFalls 1 = .ok (.iload_n 1, 1) := by decide +kernel
theorem dX12_paysAndFalls_2 : decode cX12_paysAndFalls 2 = .ok (.invokevirtual 325, 3) := by decide +kernel
theorem dX12_paysAndFalls_5 : decode cX12_paysAndFalls 5 = .ok (.istore_n 2, 1) := by decide +kernel
theorem dX12_paysAndFalls_6 : decode cX12_paysAndFalls 6 = .ok (.aload_n 0, 1) := by decide +kernel
theorem dX12_paysAndFalls_7 : decode cX12_paysAndFalls 7 = .ok (.iload_n 2, 1) := by decide +kernel
theorem dX12_paysAndFalls_8 : decode cX12_paysAndFalls 8 = .ok (.iconst (-1), 1) := by decide +kernel
theorem dX12_paysAndFalls_9 : decode cX12_paysAndFalls 9 = .ok (.if_icmp .ne 7, 3) := by decide +kernel
theorem dX12_paysAndFalls_12 : decode cX12_paysAndFalls 12 = .ok (.iconst 0, 1) := by decide +kernel
theorem dX12_paysAndFalls_13 : decode cX12_paysAndFalls 13 = .ok (.goto 7, 3) := by decide +kernel
theorem dX12_paysAndFalls_16 : decode cX12_paysAndFalls 16 = .ok (.aload_n 0, 1) := by decide +kernel
theorem dX12_paysAndFalls_17 : decode cX12_paysAndFalls 17 = .ok (.invokevirtual 240, 3) := by decide +kernel
theorem dX12_paysAndFalls_20 : decode cX12_paysAndFalls 20 = .ok (.putfield 328, 3) := by decide +kernel
theorem dX12_paysAndFalls_23 : decode cX12_paysAndFalls 23 = .ok (.iload_n 2, 1) := by decide +kernel
theorem dX12_paysAndFalls_24 : decode cX12_paysAndFalls 24 = .ok (.ireturn, 1) := by decide +kernel
def qX12_paysAndFalls_b20  (post : Int32 → St → Prop)  (x2 : Int32) (s0 : Int32) (u0 : St) : Prop := ∀ u_8 : St, u_8 = (si u0 24 s0) → post x2 u_8
set_option maxRecDepth 100000 in
set_option maxHeartbeats 4000000 in
theorem kX12_paysAndFalls_b20 {C : Cx} {o0 : Nat} {a0 : Nat → Nat} (hC : Fx C cX12_paysAndFalls 3 RX12) (hR0 : xR C = rm 7) {post : Int32 → St → Prop} (hR : RI C cX12_paysAndFalls 3 (fun u : St => (wX12 o0 a0 (xy C) u [])) (fun r u => post r u))  {x2 : Int32} {s0 : Int32} {u0 : St} (h : qX12_paysAndFalls_b20 post x2 s0 u0) : G C 0 0 3 (wX12 o0 a0 (xy C) u0 []) 20 [(2, .int x2)] [.int s0, .ref o0] := by
  refine putX12_24 (pc := 20) hC (F := fun Z => Z) (X := []) (fun _ => rfl) fl_X12_328 dX12_paysAndFalls_20 ?_
  refine g_st (w := fun z => (wX12 o0 a0 (xy C) z [])) (u := (si u0 24 s0)) (fun u_8 eu_8 => ?_)
  have h := h u_8 eu_8
  refine g_iload_n (pc := 23) hC 0 dX12_paysAndFalls_23 rfl rfl ?_
  exact hR _ _ _ u_8 dX12_paysAndFalls_24 h
def qX12_paysAndFalls (x1 : Int32) (u0 : St) (post : Int32 → St → Prop) : Prop := qX12_pays x1 u0 (fun r_10 u_9 => ((¬ r_10 = (-1 : Int32) → qX12_falling u_9 (fun r_14 u_13 => qX12_paysAndFalls_b20 post r_10 r_14 u_13)) ∧ (r_10 = (-1 : Int32) → qX12_paysAndFalls_b20 post r_10 (0 : Int32) u_9)))
set_option maxRecDepth 100000 in
set_option maxHeartbeats 4000000 in
theorem kX12_paysAndFalls {C : Cx} {o0 : Nat} {a0 : Nat → Nat} (hC : Fx C cX12_paysAndFalls 3 RX12) (hR0 : xR C = rm 7) {post : Int32 → St → Prop} (hR : RI C cX12_paysAndFalls 3 (fun u : St => (wX12 o0 a0 (xy C) u [])) (fun r u => post r u)) {x1 : Int32} {u0 : St} (h : qX12_paysAndFalls x1 u0 post) : G C 0 0 3 (wX12 o0 a0 (xy C) u0 []) 0 [(0, .ref o0), (1, .int x1)] [] := by
  refine g_aload_n (pc := 0) hC 0 dX12_paysAndFalls_0 rfl rfl ?_
  refine g_iload_n (pc := 1) hC 1 dX12_paysAndFalls_1 rfl rfl ?_
  refine g_callV_i (pc := 2) (wd := fun (u : St) Y => (wX12 o0 a0 (xy C) u Y)) (F := fun Z => Z) (X := []) (As := [.int x1]) (rest := []) (u := u0) hC (fun _ _ => rfl) (fun _ => rfl) (ctX12_pays h) wvX12_pays ml_X12_325 (ci := 10) (q0 := 0) rfl rfl rfl rfl (rmok hR0 rfl) ⟨Nat.zero_le _, Nat.zero_le _⟩ rfl (Nat.le_of_ble_eq_true rfl) dX12_paysAndFalls_2 (fun r_10 u_9 h => ?_)
  refine g_istore_n (pc := 5) (lv' := [(2, .int r_10), (0, .ref o0), (1, .int x1)]) hC dX12_paysAndFalls_5 rfl (Nat.le_of_ble_eq_true rfl) rfl ?_
  refine g_aload_n (pc := 6) hC 1 dX12_paysAndFalls_6 rfl rfl ?_
  refine g_iload_n (pc := 7) hC 0 dX12_paysAndFalls_7 rfl rfl ?_
  refine g_iconst (pc := 8) (v := -1) hC dX12_paysAndFalls_8 (by decide) ?_
  refine g_icmp_ne (pc := 9) (tgt := 16) hC dX12_paysAndFalls_9 (by decide) (fun c_12 => ?_) (fun c_12 => ?_)
  · have h := h.1 c_12
    refine g_aload_n (pc := 16) hC 1 dX12_paysAndFalls_16 rfl rfl ?_
    refine g_callV_i (pc := 17) (wd := fun (u : St) Y => (wX12 o0 a0 (xy C) u Y)) (F := fun Z => Z) (X := []) (As := []) (rest := [.ref o0]) (u := u_9) hC (fun _ _ => rfl) (fun _ => rfl) (ctX12_falling h) wvX12_falling ml_X12_240 (ci := 10) (q0 := 0) rfl rfl rfl rfl (rmok hR0 rfl) ⟨Nat.zero_le _, Nat.zero_le _⟩ rfl (Nat.le_of_ble_eq_true rfl) dX12_paysAndFalls_17 (fun r_14 u_13 h => ?_)
    refine g_sub (lv' := [(2, .int r_10)]) [0] rfl ?_
    exact kX12_paysAndFalls_b20 hC hR0 hR  h
  · have h := h.2 c_12
    refine g_iconst (pc := 12) (v := 0) hC dX12_paysAndFalls_12 (by decide) ?_
    refine g_goto (pc := 13) (tgt := 20) hC dX12_paysAndFalls_13 (by decide) ?_
    refine g_sub (lv' := [(2, .int r_10)]) [0] rfl ?_
    exact kX12_paysAndFalls_b20 hC hR0 hR  h
theorem ctX12_paysAndFalls {l : Launch} {D : va_G} {cy : Nat → ClassId} {kd : Nat → Nat} {o0 : Nat} {a0 : Nat → Nat} {x1 : Int32} {u0 : St} {post : Int32 → St → Prop} (h : qX12_paysAndFalls x1 u0 post) : CtI l D cy kd yX12_paysAndFalls cX12_paysAndFalls 3 7 .int [.ref o0, .int x1] (fun u : St => (wX12 o0 a0 cy u [])) u0 (fun r u => post r u) := met_i (by decide) (Nat.le_of_ble_eq_true rfl) (fun C e1 e2 e3 e4 e5 hC hR => by subst e1 e2 e3 e4; exact kX12_paysAndFalls hC e5 hR h)
