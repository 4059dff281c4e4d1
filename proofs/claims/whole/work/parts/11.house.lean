/-! House -/
theorem dX2_clear_0 : decode cX2_clear 0 = .ok (.aload_n 0, 1) := by decide +kernel
theorem dX2_clear_1 : decode cX2_clear 1 = .ok (.iconst 0, 1) := by decide +kernel
theorem dX2_clear_2 : decode cX2_clear 2 = .ok (.putfield 53, 3) := by decide +kernel
theorem dX2_clear_5 : decode cX2_clear 5 = .ok (.aload_n 0, 1) := by decide +kernel
theorem dX2_clear_6 : decode cX2_clear 6 = .ok (.iconst 0, 1) := by decide +kernel
theorem dX2_clear_7 : decode cX2_clear 7 = .ok (.putfield 56, 3) := by decide +kernel
theorem dX2_clear_10 : decode cX2_clear 10 = .ok (.aload_n 0, 1) := by decide +kernel
theorem dX2_clear_11 : decode cX2_clear 11 = .ok (.iconst 0, 1) := by decide +kernel
theorem dX2_clear_12 : decode cX2_clear 12 = .ok (.putfield 59, 3) := by decide +kernel
theorem dX2_clear_15 : decode cX2_clear 15 = .ok (.aload_n 0, 1) := by decide +kernel
theorem dX2_clear_16 : decode cX2_clear 16 = .ok (.iconst 4, 1) := by decide +kernel
theorem dX2_clear_17 : decode cX2_clear 17 = .ok (.putfield 9, 3) := by decide +kernel
theorem dX2_clear_20 : decode cX2_clear 20 = .ok (.aload_n 0, 1) := by decide +kernel
theorem dX2_clear_21 : decode cX2_clear 21 = .ok (.iconst 0, 1) := by decide +kernel
theorem dX2_clear_22 : decode cX2_clear 22 = .ok (.putfield 62, 3) := by decide +kernel
theorem dX2_clear_25 : decode cX2_clear 25 = .ok (.aload_n 0, 1) := by decide +kernel
theorem dX2_clear_26 : decode cX2_clear 26 = .ok (.iconst 0, 1) := by decide +kernel
theorem dX2_clear_27 : decode cX2_clear 27 = .ok (.putfield 65, 3) := by decide +kernel
theorem dX2_clear_30 : decode cX2_clear 30 = .ok (.aload_n 0, 1) := by decide +kernel
theorem dX2_clear_31 : decode cX2_clear 31 = .ok (.iconst 0, 1) := by decide +kernel
theorem dX2_clear_32 : decode cX2_clear 32 = .ok (.putfield 68, 3) := by decide +kernel
theorem dX2_clear_35 : decode cX2_clear 35 = .ok (.aload_n 0, 1) := by decide +kernel
theorem dX2_clear_36 : decode cX2_clear 36 = .ok (.iconst 0, 1) := by decide +kernel
theorem dX2_clear_37 : decode cX2_clear 37 = .ok (.putfield 71, 3) := by decide +kernel
theorem dX2_clear_40 : decode cX2_clear 40 = .ok (.return_, 1) := by decide +kernel
def qX2_clear  (u0 : St) (post : St → Prop) : Prop := ∀ u_9 : St, u_9 = (si u0 0 (0 : Int32)) → ∀ u_10 : St, u_10 = (si u_9 1 (0 : Int32)) → ∀ u_11 : St, u_11 = (si u_10 2 (0 : Int32)) → ∀ u_12 : St, u_12 = (si u_11 3 (4 : Int32)) → ∀ u_13 : St, u_13 = (si u_12 4 (0 : Int32)) → ∀ u_14 : St, u_14 = (si u_13 5 (0 : Int32)) → ∀ u_15 : St, u_15 = (si u_14 6 (0 : Int32)) → ∀ u_16 : St, u_16 = (si u_15 7 (0 : Int32)) → post u_16
set_option maxRecDepth 100000 in
set_option maxHeartbeats 4000000 in
theorem kX2_clear {C : Cx} {o0 : Nat} {a0 : Nat → Nat} (hC : Fx C cX2_clear 1 RX2) (hR0 : xR C = rm 1) {post : St → Prop} (hR : RV C cX2_clear 1 (fun u : St => (wX2 o0 a0 (xy C) u [])) (fun u => post u))  {u0 : St} (h : qX2_clear  u0 post) : G C 0 0 1 (wX2 o0 a0 (xy C) u0 []) 0 [(0, .ref o0)] [] := by
  refine g_aload_n (pc := 0) hC 0 dX2_clear_0 rfl rfl ?_
  refine g_iconst (pc := 1) (v := 0) hC dX2_clear_1 (by decide) ?_
  refine putX2_0 (pc := 2) hC (F := fun Z => Z) (X := []) (fun _ => rfl) fl_X2_53 dX2_clear_2 ?_
  refine g_st (w := fun z => (wX2 o0 a0 (xy C) z [])) (u := (si u0 0 (0 : Int32))) (fun u_9 eu_9 => ?_)
  have h := h u_9 eu_9
  refine g_aload_n (pc := 5) hC 0 dX2_clear_5 rfl rfl ?_
  refine g_iconst (pc := 6) (v := 0) hC dX2_clear_6 (by decide) ?_
  refine putX2_1 (pc := 7) hC (F := fun Z => Z) (X := []) (fun _ => rfl) fl_X2_56 dX2_clear_7 ?_
  refine g_st (w := fun z => (wX2 o0 a0 (xy C) z [])) (u := (si u_9 1 (0 : Int32))) (fun u_10 eu_10 => ?_)
  have h := h u_10 eu_10
  refine g_aload_n (pc := 10) hC 0 dX2_clear_10 rfl rfl ?_
  refine g_iconst (pc := 11) (v := 0) hC dX2_clear_11 (by decide) ?_
  refine putX2_2 (pc := 12) hC (F := fun Z => Z) (X := []) (fun _ => rfl) fl_X2_59 dX2_clear_12 ?_
  refine g_st (w := fun z => (wX2 o0 a0 (xy C) z [])) (u := (si u_10 2 (0 : Int32))) (fun u_11 eu_11 => ?_)
  have h := h u_11 eu_11
  refine g_aload_n (pc := 15) hC 0 dX2_clear_15 rfl rfl ?_
  refine g_iconst (pc := 16) (v := 4) hC dX2_clear_16 (by decide) ?_
  refine putX2_3 (pc := 17) hC (F := fun Z => Z) (X := []) (fun _ => rfl) fl_X2_9 dX2_clear_17 ?_
  refine g_st (w := fun z => (wX2 o0 a0 (xy C) z [])) (u := (si u_11 3 (4 : Int32))) (fun u_12 eu_12 => ?_)
  have h := h u_12 eu_12
  refine g_aload_n (pc := 20) hC 0 dX2_clear_20 rfl rfl ?_
  refine g_iconst (pc := 21) (v := 0) hC dX2_clear_21 (by decide) ?_
  refine putX2_4 (pc := 22) hC (F := fun Z => Z) (X := []) (fun _ => rfl) fl_X2_62 dX2_clear_22 ?_
  refine g_st (w := fun z => (wX2 o0 a0 (xy C) z [])) (u := (si u_12 4 (0 : Int32))) (fun u_13 eu_13 => ?_)
  have h := h u_13 eu_13
  refine g_aload_n (pc := 25) hC 0 dX2_clear_25 rfl rfl ?_
  refine g_iconst (pc := 26) (v := 0) hC dX2_clear_26 (by decide) ?_
  refine putX2_5 (pc := 27) hC (F := fun Z => Z) (X := []) (fun _ => rfl) fl_X2_65 dX2_clear_27 ?_
  refine g_st (w := fun z => (wX2 o0 a0 (xy C) z [])) (u := (si u_13 5 (0 : Int32))) (fun u_14 eu_14 => ?_)
  have h := h u_14 eu_14
  refine g_aload_n (pc := 30) hC 0 dX2_clear_30 rfl rfl ?_
  refine g_iconst (pc := 31) (v := 0) hC dX2_clear_31 (by decide) ?_
  refine putX2_6 (pc := 32) hC (F := fun Z => Z) (X := []) (fun _ => rfl) fl_X2_68 dX2_clear_32 ?_
  refine g_st (w := fun z => (wX2 o0 a0 (xy C) z [])) (u := (si u_14 6 (0 : Int32))) (fun u_15 eu_15 => ?_)
  have h := h u_15 eu_15
  refine g_aload_n (pc := 35) hC 0 dX2_clear_35 rfl rfl ?_
  refine g_iconst (pc := 36) (v := 0) hC dX2_clear_36 (by decide) ?_
  refine putX2_7 (pc := 37) hC (F := fun Z => Z) (X := []) (fun _ => rfl) fl_X2_71 dX2_clear_37 ?_
  refine g_st (w := fun z => (wX2 o0 a0 (xy C) z [])) (u := (si u_15 7 (0 : Int32))) (fun u_16 eu_16 => ?_)
  have h := h u_16 eu_16
  exact hR _ _ u_16 dX2_clear_40 h
theorem ctX2_clear {l : Launch} {D : va_G} {cy : Nat → ClassId} {kd : Nat → Nat} {o0 : Nat} {a0 : Nat → Nat}  {u0 : St} {post : St → Prop} (h : qX2_clear  u0 post) : CtV l D cy kd yX2_clear cX2_clear 1 1  [.ref o0] (fun u : St => (wX2 o0 a0 cy u [])) u0 (fun u => post u) := met_v (by decide) (Nat.le_of_ble_eq_true rfl) (fun C e1 e2 e3 e4 e5 hC hR => by subst e1 e2 e3 e4; exact kX2_clear hC e5 hR h)
theorem dX2_copyFrom_0 : decode cX2_copyFrom 0 = .ok (.aload_n 0, 1) := by decide +kernel
theorem dX2_copyFrom_1 : decode cX2_copyFrom 1 = .ok (.aload_n 1, 1) := by decide +kernel
theorem dX2_copyFrom_2 : decode cX2_copyFrom 2 = .ok (.getfield 53, 3) := by decide +kernel
theorem dX2_copyFrom_5 : decode cX2_copyFrom 5 = .ok (.putfield 53, 3) := by decide +kernel
theorem dX2_copyFrom_8 : decode cX2_copyFrom 8 = .ok (.aload_n 0, 1) := by decide +kernel
theorem dX2_copyFrom_9 : decode cX2_copyFrom 9 = .ok (.aload_n 1, 1) := by decide +kernel
theorem dX2_copyFrom_10 : decode cX2_copyFrom 10 = .ok (.getfield 56, 3) := by decide +kernel
theorem dX2_copyFrom_13 : decode cX2_copyFrom 13 = .ok (.putfield 56, 3) := by decide +kernel
theorem dX2_copyFrom_16 : decode cX2_copyFrom 16 = .ok (.aload_n 0, 1) := by decide +kernel
theorem dX2_copyFrom_17 : decode cX2_copyFrom 17 = .ok (.aload_n 1, 1) := by decide +kernel
theorem dX2_copyFrom_18 : decode cX2_copyFrom 18 = .ok (.getfield 59, 3) := by decide +kernel
theorem dX2_copyFrom_21 : decode cX2_copyFrom 21 = .ok (.putfield 59, 3) := by decide +kernel
theorem dX2_copyFrom_24 : decode cX2_copyFrom 24 = .ok (.aload_n 0, 1) := by decide +kernel
theorem dX2_copyFrom_25 : decode cX2_copyFrom 25 = .ok (.aload_n 1, 1) := by decide +kernel
theorem dX2_copyFrom_26 : decode cX2_copyFrom 26 = .ok (.getfield 9, 3) := by decide +kernel
theorem dX2_copyFrom_29 : decode cX2_copyFrom 29 = .ok (.putfield 9, 3) := by decide +kernel
theorem dX2_copyFrom_32 : decode cX2_copyFrom 32 = .ok (.aload_n 0, 1) := by decide +kernel
theorem dX2_copyFrom_33 : decode cX2_copyFrom 33 = .ok (.aload_n 1, 1) := by decide +kernel
theorem dX2_copyFrom_34 : decode cX2_copyFrom 34 = .ok (.getfield 62, 3) := by decide +kernel
theorem dX2_copyFrom_37 : decode cX2_copyFrom 37 = .ok (.putfield 62, 3) := by decide +kernel
theorem dX2_copyFrom_40 : decode cX2_copyFrom 40 = .ok (.aload_n 0, 1) := by decide +kernel
theorem dX2_copyFrom_41 : decode cX2_copyFrom 41 = .ok (.aload_n 1, 1) := by decide +kernel
theorem dX2_copyFrom_42 : decode cX2_copyFrom 42 = .ok (.getfield 65, 3) := by decide +kernel
theorem dX2_copyFrom_45 : decode cX2_copyFrom 45 = .ok (.putfield 65, 3) := by decide +kernel
theorem dX2_copyFrom_48 : decode cX2_copyFrom 48 = .ok (.aload_n 0, 1) := by decide +kernel
theorem dX2_copyFrom_49 : decode cX2_copyFrom 49 = .ok (.aload_n 1, 1) := by decide +kernel
theorem dX2_copyFrom_50 : decode cX2_copyFrom 50 = .ok (.getfield 68, 3) := by decide +kernel
theorem dX2_copyFrom_53 : decode cX2_copyFrom 53 = .ok (.putfield 68, 3) := by decide +kernel
theorem dX2_copyFrom_56 : decode cX2_copyFrom 56 = .ok (.aload_n 0, 1) := by decide +kernel
theorem dX2_copyFrom_57 : decode cX2_copyFrom 57 = .ok (.aload_n 1, 1) := by decide +kernel
theorem dX2_copyFrom_58 : decode cX2_copyFrom 58 = .ok (.getfield 71, 3) := by decide +kernel
theorem dX2_copyFrom_61 : decode cX2_copyFrom 61 = .ok (.putfield 71, 3) := by decide +kernel
theorem dX2_copyFrom_64 : decode cX2_copyFrom 64 = .ok (.aload_n 1, 1) := by decide +kernel
theorem dX2_copyFrom_65 : decode cX2_copyFrom 65 = .ok (.getfield 15, 3) := by decide +kernel
theorem dX2_copyFrom_68 : decode cX2_copyFrom 68 = .ok (.iconst 0, 1) := by decide +kernel
theorem dX2_copyFrom_69 : decode cX2_copyFrom 69 = .ok (.aload_n 0, 1) := by decide +kernel
theorem dX2_copyFrom_70 : decode cX2_copyFrom 70 = .ok (.getfield 15, 3) := by decide +kernel
theorem dX2_copyFrom_73 : decode cX2_copyFrom 73 = .ok (.iconst 0, 1) := by decide +kernel
theorem dX2_copyFrom_74 : decode cX2_copyFrom 74 = .ok (.bipush 8, 2) := by decide +kernel
theorem dX2_copyFrom_76 : decode cX2_copyFrom 76 = .ok (.invokestatic 74, 3) := by decide +kernel
theorem dX2_copyFrom_79 : decode cX2_copyFrom 79 = .ok (.aload_n 1, 1) := by decide +kernel
theorem dX2_copyFrom_80 : decode cX2_copyFrom 80 = .ok (.getfield 19, 3) := by decide +kernel
theorem dX2_copyFrom_83 : decode cX2_copyFrom 83 = .ok (.iconst 0, 1) := by decide +kernel
theorem dX2_copyFrom_84 : decode cX2_copyFrom 84 = .ok (.aload_n 0, 1) := by decide +kernel
theorem dX2_copyFrom_85 : decode cX2_copyFrom 85 = .ok (.getfield 19, 3) := by decide +kernel
theorem dX2_copyFrom_88 : decode cX2_copyFrom 88 = .ok (.iconst 0, 1) := by decide +kernel
theorem dX2_copyFrom_89 : decode cX2_copyFrom 89 = .ok (.bipush 8, 2) := by decide +kernel
theorem dX2_copyFrom_91 : decode cX2_copyFrom 91 = .ok (.invokestatic 74, 3) := by decide +kernel
theorem dX2_copyFrom_94 : decode cX2_copyFrom 94 = .ok (.aload_n 1, 1) := by decide +kernel
theorem dX2_copyFrom_95 : decode cX2_copyFrom 95 = .ok (.getfield 22, 3) := by decide +kernel
theorem dX2_copyFrom_98 : decode cX2_copyFrom 98 = .ok (.iconst 0, 1) := by decide +kernel
theorem dX2_copyFrom_99 : decode cX2_copyFrom 99 = .ok (.aload_n 0, 1) := by decide +kernel
theorem dX2_copyFrom_100 : decode cX2_copyFrom 100 = .ok (.getfield 22, 3) := by decide +kernel
theorem dX2_copyFrom_103 : decode cX2_copyFrom 103 = .ok (.iconst 0, 1) := by decide +kernel
theorem dX2_copyFrom_104 : decode cX2_copyFrom 104 = .ok (.bipush 8, 2) := by decide +kernel
theorem dX2_copyFrom_106 : decode cX2_copyFrom 106 = .ok (.invokestatic 74, 3) := by decide +kernel
theorem dX2_copyFrom_109 : decode cX2_copyFrom 109 = .ok (.aload_n 1, 1) := by decide +kernel
theorem dX2_copyFrom_110 : decode cX2_copyFrom 110 = .ok (.getfield 28, 3) := by decide +kernel
theorem dX2_copyFrom_113 : decode cX2_copyFrom 113 = .ok (.iconst 0, 1) := by decide +kernel
theorem dX2_copyFrom_114 : decode cX2_copyFrom 114 = .ok (.aload_n 0, 1) := by decide +kernel
theorem dX2_copyFrom_115 : decode cX2_copyFrom 115 = .ok (.getfield 28, 3) := by decide +kernel
theorem dX2_copyFrom_118 : decode cX2_copyFrom 118 = .ok (.iconst 0, 1) := by decide +kernel
theorem dX2_copyFrom_119 : decode cX2_copyFrom 119 = .ok (.iconst 5, 1) := by decide +kernel
theorem dX2_copyFrom_120 : decode cX2_copyFrom 120 = .ok (.invokestatic 74, 3) := by decide +kernel
theorem dX2_copyFrom_123 : decode cX2_copyFrom 123 = .ok (.aload_n 1, 1) := by decide +kernel
theorem dX2_copyFrom_124 : decode cX2_copyFrom 124 = .ok (.getfield 31, 3) := by decide +kernel
theorem dX2_copyFrom_127 : decode cX2_copyFrom 127 = .ok (.iconst 0, 1) := by decide +kernel
theorem dX2_copyFrom_128 : decode cX2_copyFrom 128 = .ok (.aload_n 0, 1) := by decide +kernel
theorem dX2_copyFrom_129 : decode cX2_copyFrom 129 = .ok (.getfield 31, 3) := by decide +kernel
theorem dX2_copyFrom_132 : decode cX2_copyFrom 132 = .ok (.iconst 0, 1) := by decide +kernel
theorem dX2_copyFrom_133 : decode cX2_copyFrom 133 = .ok (.iconst 5, 1) := by decide +kernel
theorem dX2_copyFrom_134 : decode cX2_copyFrom 134 = .ok (.invokestatic 74, 3) := by decide +kernel
theorem dX2_copyFrom_137 : decode cX2_copyFrom 137 = .ok (.aload_n 1, 1) := by decide +kernel
theorem dX2_copyFrom_138 : decode cX2_copyFrom 138 = .ok (.getfield 35, 3) := by decide +kernel
theorem dX2_copyFrom_141 : decode cX2_copyFrom 141 = .ok (.iconst 0, 1) := by decide +kernel
theorem dX2_copyFrom_142 : decode cX2_copyFrom 142 = .ok (.aload_n 0, 1) := by decide +kernel
theorem dX2_copyFrom_143 : decode cX2_copyFrom 143 = .ok (.getfield 35, 3) := by decide +kernel
theorem dX2_copyFrom_146 : decode cX2_copyFrom 146 = .ok (.iconst 0, 1) := by decide +kernel
theorem dX2_copyFrom_147 : decode cX2_copyFrom 147 = .ok (.bipush 7, 2) := by decide +kernel
theorem dX2_copyFrom_149 : decode cX2_copyFrom 149 = .ok (.invokestatic 74, 3) := by decide +kernel
theorem dX2_copyFrom_152 : decode cX2_copyFrom 152 = .ok (.aload_n 1, 1) := by decide +kernel
theorem dX2_copyFrom_153 : decode cX2_copyFrom 153 = .ok (.getfield 38, 3) := by decide +kernel
theorem dX2_copyFrom_156 : decode cX2_copyFrom 156 = .ok (.iconst 0, 1) := by decide +kernel
theorem dX2_copyFrom_157 : decode cX2_copyFrom 157 = .ok (.aload_n 0, 1) := by decide +kernel
theorem dX2_copyFrom_158 : decode cX2_copyFrom 158 = .ok (.getfield 38, 3) := by decide +kernel
theorem dX2_copyFrom_161 : decode cX2_copyFrom 161 = .ok (.iconst 0, 1) := by decide +kernel
theorem dX2_copyFrom_162 : decode cX2_copyFrom 162 = .ok (.bipush 7, 2) := by decide +kernel
theorem dX2_copyFrom_164 : decode cX2_copyFrom 164 = .ok (.invokestatic 74, 3) := by decide +kernel
theorem dX2_copyFrom_167 : decode cX2_copyFrom 167 = .ok (.aload_n 1, 1) := by decide +kernel
theorem dX2_copyFrom_168 : decode cX2_copyFrom 168 = .ok (.getfield 41, 3) := by decide +kernel
theorem dX2_copyFrom_171 : decode cX2_copyFrom 171 = .ok (.iconst 0, 1) := by decide +kernel
theorem dX2_copyFrom_172 : decode cX2_copyFrom 172 = .ok (.aload_n 0, 1) := by decide +kernel
theorem dX2_copyFrom_173 : decode cX2_copyFrom 173 = .ok (.getfield 41, 3) := by decide +kernel
theorem dX2_copyFrom_176 : decode cX2_copyFrom 176 = .ok (.iconst 0, 1) := by decide +kernel
theorem dX2_copyFrom_177 : decode cX2_copyFrom 177 = .ok (.bipush 7, 2) := by decide +kernel
theorem dX2_copyFrom_179 : decode cX2_copyFrom 179 = .ok (.invokestatic 74, 3) := by decide +kernel
theorem dX2_copyFrom_182 : decode cX2_copyFrom 182 = .ok (.aload_n 1, 1) := by decide +kernel
theorem dX2_copyFrom_183 : decode cX2_copyFrom 183 = .ok (.getfield 44, 3) := by decide +kernel
theorem dX2_copyFrom_186 : decode cX2_copyFrom 186 = .ok (.iconst 0, 1) := by decide +kernel
theorem dX2_copyFrom_187 : decode cX2_copyFrom 187 = .ok (.aload_n 0, 1) := by decide +kernel
theorem dX2_copyFrom_188 : decode cX2_copyFrom 188 = .ok (.getfield 44, 3) := by decide +kernel
theorem dX2_copyFrom_191 : decode cX2_copyFrom 191 = .ok (.iconst 0, 1) := by decide +kernel
theorem dX2_copyFrom_192 : decode cX2_copyFrom 192 = .ok (.bipush 7, 2) := by decide +kernel
theorem dX2_copyFrom_194 : decode cX2_copyFrom 194 = .ok (.invokestatic 74, 3) := by decide +kernel
theorem dX2_copyFrom_197 : decode cX2_copyFrom 197 = .ok (.aload_n 1, 1) := by decide +kernel
theorem dX2_copyFrom_198 : decode cX2_copyFrom 198 = .ok (.getfield 47, 3) := by decide +kernel
theorem dX2_copyFrom_201 : decode cX2_copyFrom 201 = .ok (.iconst 0, 1) := by decide +kernel
theorem dX2_copyFrom_202 : decode cX2_copyFrom 202 = .ok (.aload_n 0, 1) := by decide +kernel
theorem dX2_copyFrom_203 : decode cX2_copyFrom 203 = .ok (.getfield 47, 3) := by decide +kernel
theorem dX2_copyFrom_206 : decode cX2_copyFrom 206 = .ok (.iconst 0, 1) := by decide +kernel
theorem dX2_copyFrom_207 : decode cX2_copyFrom 207 = .ok (.bipush 7, 2) := by decide +kernel
theorem dX2_copyFrom_209 : decode cX2_copyFrom 209 = .ok (.invokestatic 74, 3) := by decide +kernel
theorem dX2_copyFrom_212 : decode cX2_copyFrom 212 = .ok (.aload_n 1, 1) := by decide +kernel
theorem dX2_copyFrom_213 : decode cX2_copyFrom 213 = .ok (.getfield 50, 3) := by decide +kernel
theorem dX2_copyFrom_216 : decode cX2_copyFrom 216 = .ok (.iconst 0, 1) := by decide +kernel
theorem dX2_copyFrom_217 : decode cX2_copyFrom 217 = .ok (.aload_n 0, 1) := by decide +kernel
theorem dX2_copyFrom_218 : decode cX2_copyFrom 218 = .ok (.getfield 50, 3) := by decide +kernel
theorem dX2_copyFrom_221 : decode cX2_copyFrom 221 = .ok (.iconst 0, 1) := by decide +kernel
theorem dX2_copyFrom_222 : decode cX2_copyFrom 222 = .ok (.bipush 7, 2) := by decide +kernel
theorem dX2_copyFrom_224 : decode cX2_copyFrom 224 = .ok (.invokestatic 74, 3) := by decide +kernel
theorem dX2_copyFrom_227 : decode cX2_copyFrom 227 = .ok (.return_, 1) := by decide +kernel
def qX2_copyFrom  (u0 : St) (u1 : St) (post : St → St → Prop) : Prop := ∀ u_20 : St, u_20 = (si u0 0 (gi u1 0)) → ∀ u_21 : St, u_21 = (si u_20 1 (gi u1 1)) → ∀ u_22 : St, u_22 = (si u_21 2 (gi u1 2)) → ∀ u_23 : St, u_23 = (si u_22 3 (gi u1 3)) → ∀ u_24 : St, u_24 = (si u_23 4 (gi u1 4)) → ∀ u_25 : St, u_25 = (si u_24 5 (gi u1 5)) → ∀ u_26 : St, u_26 = (si u_25 6 (gi u1 6)) → ∀ u_27 : St, u_27 = (si u_26 7 (gi u1 7)) → (cpOk (0 : Int32) (0 : Int32) (8 : Int32) 8 8 ∧ ∀ u_28 : St, u_28 = (sw u_27 8 (va_cpy (ga u1 8) (ga u_27 8) ((0 : Int32)).toNatClampNeg ((0 : Int32)).toNatClampNeg ((8 : Int32)).toNatClampNeg)) → (cpOk (0 : Int32) (0 : Int32) (8 : Int32) 8 8 ∧ ∀ u_29 : St, u_29 = (sw u_28 9 (va_cpy (ga u1 9) (ga u_28 9) ((0 : Int32)).toNatClampNeg ((0 : Int32)).toNatClampNeg ((8 : Int32)).toNatClampNeg)) → (cpOk (0 : Int32) (0 : Int32) (8 : Int32) 8 8 ∧ ∀ u_30 : St, u_30 = (sw u_29 10 (va_cpy (ga u1 10) (ga u_29 10) ((0 : Int32)).toNatClampNeg ((0 : Int32)).toNatClampNeg ((8 : Int32)).toNatClampNeg)) → (cpOk (0 : Int32) (0 : Int32) (5 : Int32) 5 5 ∧ ∀ u_31 : St, u_31 = (sw u_30 12 (va_cpy (ga u1 12) (ga u_30 12) ((0 : Int32)).toNatClampNeg ((0 : Int32)).toNatClampNeg ((5 : Int32)).toNatClampNeg)) → (cpOk (0 : Int32) (0 : Int32) (5 : Int32) 5 5 ∧ ∀ u_32 : St, u_32 = (sx u_31 13 (va_cpy (gl u1 13) (gl u_31 13) ((0 : Int32)).toNatClampNeg ((0 : Int32)).toNatClampNeg ((5 : Int32)).toNatClampNeg)) → (cpOk (0 : Int32) (0 : Int32) (7 : Int32) 7 7 ∧ ∀ u_33 : St, u_33 = (sw u_32 14 (va_cpy (ga u1 14) (ga u_32 14) ((0 : Int32)).toNatClampNeg ((0 : Int32)).toNatClampNeg ((7 : Int32)).toNatClampNeg)) → (cpOk (0 : Int32) (0 : Int32) (7 : Int32) 7 7 ∧ ∀ u_34 : St, u_34 = (sw u_33 15 (va_cpy (ga u1 15) (ga u_33 15) ((0 : Int32)).toNatClampNeg ((0 : Int32)).toNatClampNeg ((7 : Int32)).toNatClampNeg)) → (cpOk (0 : Int32) (0 : Int32) (7 : Int32) 7 7 ∧ ∀ u_35 : St, u_35 = (sw u_34 16 (va_cpy (ga u1 16) (ga u_34 16) ((0 : Int32)).toNatClampNeg ((0 : Int32)).toNatClampNeg ((7 : Int32)).toNatClampNeg)) → (cpOk (0 : Int32) (0 : Int32) (7 : Int32) 7 7 ∧ ∀ u_36 : St, u_36 = (sw u_35 17 (va_cpy (ga u1 17) (ga u_35 17) ((0 : Int32)).toNatClampNeg ((0 : Int32)).toNatClampNeg ((7 : Int32)).toNatClampNeg)) → (cpOk (0 : Int32) (0 : Int32) (7 : Int32) 7 7 ∧ ∀ u_37 : St, u_37 = (sw u_36 18 (va_cpy (ga u1 18) (ga u_36 18) ((0 : Int32)).toNatClampNeg ((0 : Int32)).toNatClampNeg ((7 : Int32)).toNatClampNeg)) → (cpOk (0 : Int32) (0 : Int32) (7 : Int32) 7 7 ∧ ∀ u_38 : St, u_38 = (sw u_37 19 (va_cpy (ga u1 19) (ga u_37 19) ((0 : Int32)).toNatClampNeg ((0 : Int32)).toNatClampNeg ((7 : Int32)).toNatClampNeg)) → post u_38 u1)))))))))))
set_option maxRecDepth 100000 in
set_option maxHeartbeats 4000000 in
theorem kX2_copyFrom {C : Cx} {o0 : Nat} {a0 : Nat → Nat} {o1 : Nat} {a1 : Nat → Nat} (hC : Fx C cX2_copyFrom 2 RX2) (hR0 : xR C = rm 2) {post : St → St → Prop} (hR : RV C cX2_copyFrom 2 (fun u : St × St => (wX2 o0 a0 (xy C) u.1 (wX2 o1 a1 (xy C) u.2 []))) (fun u => post u.1 u.2))  {u0 : St} {u1 : St} (h : qX2_copyFrom  u0 u1 post) : G C 0 0 2 (wX2 o0 a0 (xy C) u0 (wX2 o1 a1 (xy C) u1 [])) 0 [(0, .ref o0), (1, .ref o1)] [] := by
  refine g_aload_n (pc := 0) hC 0 dX2_copyFrom_0 rfl rfl ?_
  refine g_aload_n (pc := 1) hC 1 dX2_copyFrom_1 rfl rfl ?_
  refine getX2_0 (pc := 2) hC (F := fun Z => (wX2 o0 a0 (xy C) u0 Z)) (X := (wX2 o0 a0 (xy C) u0 [])) (fun _ => rfl) fl_X2_53 dX2_copyFrom_2 ?_
  refine putX2_0 (pc := 5) hC (F := fun Z => Z) (X := []) (fun _ => rfl) fl_X2_53 dX2_copyFrom_5 ?_
  refine g_st (w := fun z => (wX2 o0 a0 (xy C) z (wX2 o1 a1 (xy C) u1 []))) (u := (si u0 0 (gi u1 0))) (fun u_20 eu_20 => ?_)
  have h := h u_20 eu_20
  refine g_aload_n (pc := 8) hC 0 dX2_copyFrom_8 rfl rfl ?_
  refine g_aload_n (pc := 9) hC 1 dX2_copyFrom_9 rfl rfl ?_
  refine getX2_1 (pc := 10) hC (F := fun Z => (wX2 o0 a0 (xy C) u_20 Z)) (X := (wX2 o0 a0 (xy C) u_20 [])) (fun _ => rfl) fl_X2_56 dX2_copyFrom_10 ?_
  refine putX2_1 (pc := 13) hC (F := fun Z => Z) (X := []) (fun _ => rfl) fl_X2_56 dX2_copyFrom_13 ?_
  refine g_st (w := fun z => (wX2 o0 a0 (xy C) z (wX2 o1 a1 (xy C) u1 []))) (u := (si u_20 1 (gi u1 1))) (fun u_21 eu_21 => ?_)
  have h := h u_21 eu_21
  refine g_aload_n (pc := 16) hC 0 dX2_copyFrom_16 rfl rfl ?_
  refine g_aload_n (pc := 17) hC 1 dX2_copyFrom_17 rfl rfl ?_
  refine getX2_2 (pc := 18) hC (F := fun Z => (wX2 o0 a0 (xy C) u_21 Z)) (X := (wX2 o0 a0 (xy C) u_21 [])) (fun _ => rfl) fl_X2_59 dX2_copyFrom_18 ?_
  refine putX2_2 (pc := 21) hC (F := fun Z => Z) (X := []) (fun _ => rfl) fl_X2_59 dX2_copyFrom_21 ?_
  refine g_st (w := fun z => (wX2 o0 a0 (xy C) z (wX2 o1 a1 (xy C) u1 []))) (u := (si u_21 2 (gi u1 2))) (fun u_22 eu_22 => ?_)
  have h := h u_22 eu_22
  refine g_aload_n (pc := 24) hC 0 dX2_copyFrom_24 rfl rfl ?_
  refine g_aload_n (pc := 25) hC 1 dX2_copyFrom_25 rfl rfl ?_
  refine getX2_3 (pc := 26) hC (F := fun Z => (wX2 o0 a0 (xy C) u_22 Z)) (X := (wX2 o0 a0 (xy C) u_22 [])) (fun _ => rfl) fl_X2_9 dX2_copyFrom_26 ?_
  refine putX2_3 (pc := 29) hC (F := fun Z => Z) (X := []) (fun _ => rfl) fl_X2_9 dX2_copyFrom_29 ?_
  refine g_st (w := fun z => (wX2 o0 a0 (xy C) z (wX2 o1 a1 (xy C) u1 []))) (u := (si u_22 3 (gi u1 3))) (fun u_23 eu_23 => ?_)
  have h := h u_23 eu_23
  refine g_aload_n (pc := 32) hC 0 dX2_copyFrom_32 rfl rfl ?_
  refine g_aload_n (pc := 33) hC 1 dX2_copyFrom_33 rfl rfl ?_
  refine getX2_4 (pc := 34) hC (F := fun Z => (wX2 o0 a0 (xy C) u_23 Z)) (X := (wX2 o0 a0 (xy C) u_23 [])) (fun _ => rfl) fl_X2_62 dX2_copyFrom_34 ?_
  refine putX2_4 (pc := 37) hC (F := fun Z => Z) (X := []) (fun _ => rfl) fl_X2_62 dX2_copyFrom_37 ?_
  refine g_st (w := fun z => (wX2 o0 a0 (xy C) z (wX2 o1 a1 (xy C) u1 []))) (u := (si u_23 4 (gi u1 4))) (fun u_24 eu_24 => ?_)
  have h := h u_24 eu_24
  refine g_aload_n (pc := 40) hC 0 dX2_copyFrom_40 rfl rfl ?_
  refine g_aload_n (pc := 41) hC 1 dX2_copyFrom_41 rfl rfl ?_
  refine getX2_5 (pc := 42) hC (F := fun Z => (wX2 o0 a0 (xy C) u_24 Z)) (X := (wX2 o0 a0 (xy C) u_24 [])) (fun _ => rfl) fl_X2_65 dX2_copyFrom_42 ?_
  refine putX2_5 (pc := 45) hC (F := fun Z => Z) (X := []) (fun _ => rfl) fl_X2_65 dX2_copyFrom_45 ?_
  refine g_st (w := fun z => (wX2 o0 a0 (xy C) z (wX2 o1 a1 (xy C) u1 []))) (u := (si u_24 5 (gi u1 5))) (fun u_25 eu_25 => ?_)
  have h := h u_25 eu_25
  refine g_aload_n (pc := 48) hC 0 dX2_copyFrom_48 rfl rfl ?_
  refine g_aload_n (pc := 49) hC 1 dX2_copyFrom_49 rfl rfl ?_
  refine getX2_6 (pc := 50) hC (F := fun Z => (wX2 o0 a0 (xy C) u_25 Z)) (X := (wX2 o0 a0 (xy C) u_25 [])) (fun _ => rfl) fl_X2_68 dX2_copyFrom_50 ?_
  refine putX2_6 (pc := 53) hC (F := fun Z => Z) (X := []) (fun _ => rfl) fl_X2_68 dX2_copyFrom_53 ?_
  refine g_st (w := fun z => (wX2 o0 a0 (xy C) z (wX2 o1 a1 (xy C) u1 []))) (u := (si u_25 6 (gi u1 6))) (fun u_26 eu_26 => ?_)
  have h := h u_26 eu_26
  refine g_aload_n (pc := 56) hC 0 dX2_copyFrom_56 rfl rfl ?_
  refine g_aload_n (pc := 57) hC 1 dX2_copyFrom_57 rfl rfl ?_
  refine getX2_7 (pc := 58) hC (F := fun Z => (wX2 o0 a0 (xy C) u_26 Z)) (X := (wX2 o0 a0 (xy C) u_26 [])) (fun _ => rfl) fl_X2_71 dX2_copyFrom_58 ?_
  refine putX2_7 (pc := 61) hC (F := fun Z => Z) (X := []) (fun _ => rfl) fl_X2_71 dX2_copyFrom_61 ?_
  refine g_st (w := fun z => (wX2 o0 a0 (xy C) z (wX2 o1 a1 (xy C) u1 []))) (u := (si u_26 7 (gi u1 7))) (fun u_27 eu_27 => ?_)
  have h := h u_27 eu_27
  refine g_aload_n (pc := 64) hC 1 dX2_copyFrom_64 rfl rfl ?_
  refine getX2_8 (pc := 65) hC (F := fun Z => (wX2 o0 a0 (xy C) u_27 Z)) (X := (wX2 o0 a0 (xy C) u_27 [])) (fun _ => rfl) fl_X2_15 dX2_copyFrom_65 ?_
  refine g_iconst (pc := 68) (v := 0) hC dX2_copyFrom_68 (by decide) ?_
  refine g_aload_n (pc := 69) hC 0 dX2_copyFrom_69 rfl rfl ?_
  refine getX2_8 (pc := 70) hC (F := fun Z => Z) (X := []) (fun _ => rfl) fl_X2_15 dX2_copyFrom_70 ?_
  refine g_iconst (pc := 73) (v := 0) hC dX2_copyFrom_73 (by decide) ?_
  refine g_bipush (pc := 74) (v := 8) hC dX2_copyFrom_74 (by decide) ?_
  refine g_copyi (pc := 76) (σ' := (wX2 o0 a0 (xy C) (sw u_27 8 (va_cpy (ga u1 8) (ga u_27 8) ((0 : Int32)).toNatClampNeg ((0 : Int32)).toNatClampNeg ((8 : Int32)).toNatClampNeg)) (wX2 o1 a1 (xy C) u1 []))) hC hR0 ml_X2_74 14 1 rfl rfl rfl h.1 dX2_copyFrom_76 (Nat.le_of_ble_eq_true rfl) ?_
  have h := h.2
  refine g_st (w := fun z => (wX2 o0 a0 (xy C) z (wX2 o1 a1 (xy C) u1 []))) (u := (sw u_27 8 (va_cpy (ga u1 8) (ga u_27 8) ((0 : Int32)).toNatClampNeg ((0 : Int32)).toNatClampNeg ((8 : Int32)).toNatClampNeg))) (fun u_28 eu_28 => ?_)
  have h := h u_28 eu_28
  refine g_aload_n (pc := 79) hC 1 dX2_copyFrom_79 rfl rfl ?_
  refine getX2_9 (pc := 80) hC (F := fun Z => (wX2 o0 a0 (xy C) u_28 Z)) (X := (wX2 o0 a0 (xy C) u_28 [])) (fun _ => rfl) fl_X2_19 dX2_copyFrom_80 ?_
  refine g_iconst (pc := 83) (v := 0) hC dX2_copyFrom_83 (by decide) ?_
  refine g_aload_n (pc := 84) hC 0 dX2_copyFrom_84 rfl rfl ?_
  refine getX2_9 (pc := 85) hC (F := fun Z => Z) (X := []) (fun _ => rfl) fl_X2_19 dX2_copyFrom_85 ?_
  refine g_iconst (pc := 88) (v := 0) hC dX2_copyFrom_88 (by decide) ?_
  refine g_bipush (pc := 89) (v := 8) hC dX2_copyFrom_89 (by decide) ?_
  refine g_copyi (pc := 91) (σ' := (wX2 o0 a0 (xy C) (sw u_28 9 (va_cpy (ga u1 9) (ga u_28 9) ((0 : Int32)).toNatClampNeg ((0 : Int32)).toNatClampNeg ((8 : Int32)).toNatClampNeg)) (wX2 o1 a1 (xy C) u1 []))) hC hR0 ml_X2_74 15 2 rfl rfl rfl h.1 dX2_copyFrom_91 (Nat.le_of_ble_eq_true rfl) ?_
  have h := h.2
  refine g_st (w := fun z => (wX2 o0 a0 (xy C) z (wX2 o1 a1 (xy C) u1 []))) (u := (sw u_28 9 (va_cpy (ga u1 9) (ga u_28 9) ((0 : Int32)).toNatClampNeg ((0 : Int32)).toNatClampNeg ((8 : Int32)).toNatClampNeg))) (fun u_29 eu_29 => ?_)
  have h := h u_29 eu_29
  refine g_aload_n (pc := 94) hC 1 dX2_copyFrom_94 rfl rfl ?_
  refine getX2_10 (pc := 95) hC (F := fun Z => (wX2 o0 a0 (xy C) u_29 Z)) (X := (wX2 o0 a0 (xy C) u_29 [])) (fun _ => rfl) fl_X2_22 dX2_copyFrom_95 ?_
  refine g_iconst (pc := 98) (v := 0) hC dX2_copyFrom_98 (by decide) ?_
  refine g_aload_n (pc := 99) hC 0 dX2_copyFrom_99 rfl rfl ?_
  refine getX2_10 (pc := 100) hC (F := fun Z => Z) (X := []) (fun _ => rfl) fl_X2_22 dX2_copyFrom_100 ?_
  refine g_iconst (pc := 103) (v := 0) hC dX2_copyFrom_103 (by decide) ?_
  refine g_bipush (pc := 104) (v := 8) hC dX2_copyFrom_104 (by decide) ?_
  refine g_copyi (pc := 106) (σ' := (wX2 o0 a0 (xy C) (sw u_29 10 (va_cpy (ga u1 10) (ga u_29 10) ((0 : Int32)).toNatClampNeg ((0 : Int32)).toNatClampNeg ((8 : Int32)).toNatClampNeg)) (wX2 o1 a1 (xy C) u1 []))) hC hR0 ml_X2_74 16 3 rfl rfl rfl h.1 dX2_copyFrom_106 (Nat.le_of_ble_eq_true rfl) ?_
  have h := h.2
  refine g_st (w := fun z => (wX2 o0 a0 (xy C) z (wX2 o1 a1 (xy C) u1 []))) (u := (sw u_29 10 (va_cpy (ga u1 10) (ga u_29 10) ((0 : Int32)).toNatClampNeg ((0 : Int32)).toNatClampNeg ((8 : Int32)).toNatClampNeg))) (fun u_30 eu_30 => ?_)
  have h := h u_30 eu_30
  refine g_aload_n (pc := 109) hC 1 dX2_copyFrom_109 rfl rfl ?_
  refine getX2_12 (pc := 110) hC (F := fun Z => (wX2 o0 a0 (xy C) u_30 Z)) (X := (wX2 o0 a0 (xy C) u_30 [])) (fun _ => rfl) fl_X2_28 dX2_copyFrom_110 ?_
  refine g_iconst (pc := 113) (v := 0) hC dX2_copyFrom_113 (by decide) ?_
  refine g_aload_n (pc := 114) hC 0 dX2_copyFrom_114 rfl rfl ?_
  refine getX2_12 (pc := 115) hC (F := fun Z => Z) (X := []) (fun _ => rfl) fl_X2_28 dX2_copyFrom_115 ?_
  refine g_iconst (pc := 118) (v := 0) hC dX2_copyFrom_118 (by decide) ?_
  refine g_iconst (pc := 119) (v := 5) hC dX2_copyFrom_119 (by decide) ?_
  refine g_copyi (pc := 120) (σ' := (wX2 o0 a0 (xy C) (sw u_30 12 (va_cpy (ga u1 12) (ga u_30 12) ((0 : Int32)).toNatClampNeg ((0 : Int32)).toNatClampNeg ((5 : Int32)).toNatClampNeg)) (wX2 o1 a1 (xy C) u1 []))) hC hR0 ml_X2_74 18 5 rfl rfl rfl h.1 dX2_copyFrom_120 (Nat.le_of_ble_eq_true rfl) ?_
  have h := h.2
  refine g_st (w := fun z => (wX2 o0 a0 (xy C) z (wX2 o1 a1 (xy C) u1 []))) (u := (sw u_30 12 (va_cpy (ga u1 12) (ga u_30 12) ((0 : Int32)).toNatClampNeg ((0 : Int32)).toNatClampNeg ((5 : Int32)).toNatClampNeg))) (fun u_31 eu_31 => ?_)
  have h := h u_31 eu_31
  refine g_aload_n (pc := 123) hC 1 dX2_copyFrom_123 rfl rfl ?_
  refine getX2_13 (pc := 124) hC (F := fun Z => (wX2 o0 a0 (xy C) u_31 Z)) (X := (wX2 o0 a0 (xy C) u_31 [])) (fun _ => rfl) fl_X2_31 dX2_copyFrom_124 ?_
  refine g_iconst (pc := 127) (v := 0) hC dX2_copyFrom_127 (by decide) ?_
  refine g_aload_n (pc := 128) hC 0 dX2_copyFrom_128 rfl rfl ?_
  refine getX2_13 (pc := 129) hC (F := fun Z => Z) (X := []) (fun _ => rfl) fl_X2_31 dX2_copyFrom_129 ?_
  refine g_iconst (pc := 132) (v := 0) hC dX2_copyFrom_132 (by decide) ?_
  refine g_iconst (pc := 133) (v := 5) hC dX2_copyFrom_133 (by decide) ?_
  refine g_copyl (pc := 134) (σ' := (wX2 o0 a0 (xy C) (sx u_31 13 (va_cpy (gl u1 13) (gl u_31 13) ((0 : Int32)).toNatClampNeg ((0 : Int32)).toNatClampNeg ((5 : Int32)).toNatClampNeg)) (wX2 o1 a1 (xy C) u1 []))) hC hR0 ml_X2_74 19 6 rfl rfl rfl h.1 dX2_copyFrom_134 (Nat.le_of_ble_eq_true rfl) ?_
  have h := h.2
  refine g_st (w := fun z => (wX2 o0 a0 (xy C) z (wX2 o1 a1 (xy C) u1 []))) (u := (sx u_31 13 (va_cpy (gl u1 13) (gl u_31 13) ((0 : Int32)).toNatClampNeg ((0 : Int32)).toNatClampNeg ((5 : Int32)).toNatClampNeg))) (fun u_32 eu_32 => ?_)
  have h := h u_32 eu_32
  refine g_aload_n (pc := 137) hC 1 dX2_copyFrom_137 rfl rfl ?_
  refine getX2_14 (pc := 138) hC (F := fun Z => (wX2 o0 a0 (xy C) u_32 Z)) (X := (wX2 o0 a0 (xy C) u_32 [])) (fun _ => rfl) fl_X2_35 dX2_copyFrom_138 ?_
  refine g_iconst (pc := 141) (v := 0) hC dX2_copyFrom_141 (by decide) ?_
  refine g_aload_n (pc := 142) hC 0 dX2_copyFrom_142 rfl rfl ?_
  refine getX2_14 (pc := 143) hC (F := fun Z => Z) (X := []) (fun _ => rfl) fl_X2_35 dX2_copyFrom_143 ?_
  refine g_iconst (pc := 146) (v := 0) hC dX2_copyFrom_146 (by decide) ?_
  refine g_bipush (pc := 147) (v := 7) hC dX2_copyFrom_147 (by decide) ?_
  refine g_copyi (pc := 149) (σ' := (wX2 o0 a0 (xy C) (sw u_32 14 (va_cpy (ga u1 14) (ga u_32 14) ((0 : Int32)).toNatClampNeg ((0 : Int32)).toNatClampNeg ((7 : Int32)).toNatClampNeg)) (wX2 o1 a1 (xy C) u1 []))) hC hR0 ml_X2_74 20 7 rfl rfl rfl h.1 dX2_copyFrom_149 (Nat.le_of_ble_eq_true rfl) ?_
  have h := h.2
  refine g_st (w := fun z => (wX2 o0 a0 (xy C) z (wX2 o1 a1 (xy C) u1 []))) (u := (sw u_32 14 (va_cpy (ga u1 14) (ga u_32 14) ((0 : Int32)).toNatClampNeg ((0 : Int32)).toNatClampNeg ((7 : Int32)).toNatClampNeg))) (fun u_33 eu_33 => ?_)
  have h := h u_33 eu_33
  refine g_aload_n (pc := 152) hC 1 dX2_copyFrom_152 rfl rfl ?_
  refine getX2_15 (pc := 153) hC (F := fun Z => (wX2 o0 a0 (xy C) u_33 Z)) (X := (wX2 o0 a0 (xy C) u_33 [])) (fun _ => rfl) fl_X2_38 dX2_copyFrom_153 ?_
  refine g_iconst (pc := 156) (v := 0) hC dX2_copyFrom_156 (by decide) ?_
  refine g_aload_n (pc := 157) hC 0 dX2_copyFrom_157 rfl rfl ?_
  refine getX2_15 (pc := 158) hC (F := fun Z => Z) (X := []) (fun _ => rfl) fl_X2_38 dX2_copyFrom_158 ?_
  refine g_iconst (pc := 161) (v := 0) hC dX2_copyFrom_161 (by decide) ?_
  refine g_bipush (pc := 162) (v := 7) hC dX2_copyFrom_162 (by decide) ?_
  refine g_copyi (pc := 164) (σ' := (wX2 o0 a0 (xy C) (sw u_33 15 (va_cpy (ga u1 15) (ga u_33 15) ((0 : Int32)).toNatClampNeg ((0 : Int32)).toNatClampNeg ((7 : Int32)).toNatClampNeg)) (wX2 o1 a1 (xy C) u1 []))) hC hR0 ml_X2_74 21 8 rfl rfl rfl h.1 dX2_copyFrom_164 (Nat.le_of_ble_eq_true rfl) ?_
  have h := h.2
  refine g_st (w := fun z => (wX2 o0 a0 (xy C) z (wX2 o1 a1 (xy C) u1 []))) (u := (sw u_33 15 (va_cpy (ga u1 15) (ga u_33 15) ((0 : Int32)).toNatClampNeg ((0 : Int32)).toNatClampNeg ((7 : Int32)).toNatClampNeg))) (fun u_34 eu_34 => ?_)
  have h := h u_34 eu_34
  refine g_aload_n (pc := 167) hC 1 dX2_copyFrom_167 rfl rfl ?_
  refine getX2_16 (pc := 168) hC (F := fun Z => (wX2 o0 a0 (xy C) u_34 Z)) (X := (wX2 o0 a0 (xy C) u_34 [])) (fun _ => rfl) fl_X2_41 dX2_copyFrom_168 ?_
  refine g_iconst (pc := 171) (v := 0) hC dX2_copyFrom_171 (by decide) ?_
  refine g_aload_n (pc := 172) hC 0 dX2_copyFrom_172 rfl rfl ?_
  refine getX2_16 (pc := 173) hC (F := fun Z => Z) (X := []) (fun _ => rfl) fl_X2_41 dX2_copyFrom_173 ?_
  refine g_iconst (pc := 176) (v := 0) hC dX2_copyFrom_176 (by decide) ?_
  refine g_bipush (pc := 177) (v := 7) hC dX2_copyFrom_177 (by decide) ?_
  refine g_copyi (pc := 179) (σ' := (wX2 o0 a0 (xy C) (sw u_34 16 (va_cpy (ga u1 16) (ga u_34 16) ((0 : Int32)).toNatClampNeg ((0 : Int32)).toNatClampNeg ((7 : Int32)).toNatClampNeg)) (wX2 o1 a1 (xy C) u1 []))) hC hR0 ml_X2_74 22 9 rfl rfl rfl h.1 dX2_copyFrom_179 (Nat.le_of_ble_eq_true rfl) ?_
  have h := h.2
  refine g_st (w := fun z => (wX2 o0 a0 (xy C) z (wX2 o1 a1 (xy C) u1 []))) (u := (sw u_34 16 (va_cpy (ga u1 16) (ga u_34 16) ((0 : Int32)).toNatClampNeg ((0 : Int32)).toNatClampNeg ((7 : Int32)).toNatClampNeg))) (fun u_35 eu_35 => ?_)
  have h := h u_35 eu_35
  refine g_aload_n (pc := 182) hC 1 dX2_copyFrom_182 rfl rfl ?_
  refine getX2_17 (pc := 183) hC (F := fun Z => (wX2 o0 a0 (xy C) u_35 Z)) (X := (wX2 o0 a0 (xy C) u_35 [])) (fun _ => rfl) fl_X2_44 dX2_copyFrom_183 ?_
  refine g_iconst (pc := 186) (v := 0) hC dX2_copyFrom_186 (by decide) ?_
  refine g_aload_n (pc := 187) hC 0 dX2_copyFrom_187 rfl rfl ?_
  refine getX2_17 (pc := 188) hC (F := fun Z => Z) (X := []) (fun _ => rfl) fl_X2_44 dX2_copyFrom_188 ?_
  refine g_iconst (pc := 191) (v := 0) hC dX2_copyFrom_191 (by decide) ?_
  refine g_bipush (pc := 192) (v := 7) hC dX2_copyFrom_192 (by decide) ?_
  refine g_copyi (pc := 194) (σ' := (wX2 o0 a0 (xy C) (sw u_35 17 (va_cpy (ga u1 17) (ga u_35 17) ((0 : Int32)).toNatClampNeg ((0 : Int32)).toNatClampNeg ((7 : Int32)).toNatClampNeg)) (wX2 o1 a1 (xy C) u1 []))) hC hR0 ml_X2_74 23 10 rfl rfl rfl h.1 dX2_copyFrom_194 (Nat.le_of_ble_eq_true rfl) ?_
  have h := h.2
  refine g_st (w := fun z => (wX2 o0 a0 (xy C) z (wX2 o1 a1 (xy C) u1 []))) (u := (sw u_35 17 (va_cpy (ga u1 17) (ga u_35 17) ((0 : Int32)).toNatClampNeg ((0 : Int32)).toNatClampNeg ((7 : Int32)).toNatClampNeg))) (fun u_36 eu_36 => ?_)
  have h := h u_36 eu_36
  refine g_aload_n (pc := 197) hC 1 dX2_copyFrom_197 rfl rfl ?_
  refine getX2_18 (pc := 198) hC (F := fun Z => (wX2 o0 a0 (xy C) u_36 Z)) (X := (wX2 o0 a0 (xy C) u_36 [])) (fun _ => rfl) fl_X2_47 dX2_copyFrom_198 ?_
  refine g_iconst (pc := 201) (v := 0) hC dX2_copyFrom_201 (by decide) ?_
  refine g_aload_n (pc := 202) hC 0 dX2_copyFrom_202 rfl rfl ?_
  refine getX2_18 (pc := 203) hC (F := fun Z => Z) (X := []) (fun _ => rfl) fl_X2_47 dX2_copyFrom_203 ?_
  refine g_iconst (pc := 206) (v := 0) hC dX2_copyFrom_206 (by decide) ?_
  refine g_bipush (pc := 207) (v := 7) hC dX2_copyFrom_207 (by decide) ?_
  refine g_copyi (pc := 209) (σ' := (wX2 o0 a0 (xy C) (sw u_36 18 (va_cpy (ga u1 18) (ga u_36 18) ((0 : Int32)).toNatClampNeg ((0 : Int32)).toNatClampNeg ((7 : Int32)).toNatClampNeg)) (wX2 o1 a1 (xy C) u1 []))) hC hR0 ml_X2_74 24 11 rfl rfl rfl h.1 dX2_copyFrom_209 (Nat.le_of_ble_eq_true rfl) ?_
  have h := h.2
  refine g_st (w := fun z => (wX2 o0 a0 (xy C) z (wX2 o1 a1 (xy C) u1 []))) (u := (sw u_36 18 (va_cpy (ga u1 18) (ga u_36 18) ((0 : Int32)).toNatClampNeg ((0 : Int32)).toNatClampNeg ((7 : Int32)).toNatClampNeg))) (fun u_37 eu_37 => ?_)
  have h := h u_37 eu_37
  refine g_aload_n (pc := 212) hC 1 dX2_copyFrom_212 rfl rfl ?_
  refine getX2_19 (pc := 213) hC (F := fun Z => (wX2 o0 a0 (xy C) u_37 Z)) (X := (wX2 o0 a0 (xy C) u_37 [])) (fun _ => rfl) fl_X2_50 dX2_copyFrom_213 ?_
  refine g_iconst (pc := 216) (v := 0) hC dX2_copyFrom_216 (by decide) ?_
  refine g_aload_n (pc := 217) hC 0 dX2_copyFrom_217 rfl rfl ?_
  refine getX2_19 (pc := 218) hC (F := fun Z => Z) (X := []) (fun _ => rfl) fl_X2_50 dX2_copyFrom_218 ?_
  refine g_iconst (pc := 221) (v := 0) hC dX2_copyFrom_221 (by decide) ?_
  refine g_bipush (pc := 222) (v := 7) hC dX2_copyFrom_222 (by decide) ?_
  refine g_copyi (pc := 224) (σ' := (wX2 o0 a0 (xy C) (sw u_37 19 (va_cpy (ga u1 19) (ga u_37 19) ((0 : Int32)).toNatClampNeg ((0 : Int32)).toNatClampNeg ((7 : Int32)).toNatClampNeg)) (wX2 o1 a1 (xy C) u1 []))) hC hR0 ml_X2_74 25 12 rfl rfl rfl h.1 dX2_copyFrom_224 (Nat.le_of_ble_eq_true rfl) ?_
  have h := h.2
  refine g_st (w := fun z => (wX2 o0 a0 (xy C) z (wX2 o1 a1 (xy C) u1 []))) (u := (sw u_37 19 (va_cpy (ga u1 19) (ga u_37 19) ((0 : Int32)).toNatClampNeg ((0 : Int32)).toNatClampNeg ((7 : Int32)).toNatClampNeg))) (fun u_38 eu_38 => ?_)
  have h := h u_38 eu_38
  exact hR _ _ (u_38, u1) dX2_copyFrom_227 h
theorem ctX2_copyFrom {l : Launch} {D : va_G} {cy : Nat → ClassId} {kd : Nat → Nat} {o0 : Nat} {a0 : Nat → Nat} {o1 : Nat} {a1 : Nat → Nat}  {u0 : St} {u1 : St} {post : St → St → Prop} (h : qX2_copyFrom  u0 u1 post) : CtV l D cy kd yX2_copyFrom cX2_copyFrom 2 2  [.ref o0, .ref o1] (fun u : St × St => (wX2 o0 a0 cy u.1 (wX2 o1 a1 cy u.2 []))) (u0, u1) (fun u => post u.1 u.2) := met_v (by decide) (Nat.le_of_ble_eq_true rfl) (fun C e1 e2 e3 e4 e5 hC hR => by subst e1 e2 e3 e4; exact kX2_copyFrom hC e5 hR h)
theorem dX2_isStone_0 : decode cX2_isStone 0 = .ok (.iload_n 1, 1) := by decide +kernel
theorem dX2_isStone_1 : decode cX2_isStone 1 = .ok (.iconst 0, 1) := by decide +kernel
theorem dX2_isStone_2 : decode cX2_isStone 2 = .ok (.aload_n 0, 1) := by decide +kernel
theorem dX2_isStone_3 : decode cX2_isStone 3 = .ok (.getfield 53, 3) := by decide +kernel
theorem dX2_isStone_6 : decode cX2_isStone 6 = .ok (.iconst 1, 1) := by decide +kernel
theorem dX2_isStone_7 : decode cX2_isStone 7 = .ok (.isub, 1) := by decide +kernel
theorem dX2_isStone_8 : decode cX2_isStone 8 = .ok (.invokestatic 80, 3) := by decide +kernel
theorem dX2_isStone_11 : decode cX2_isStone 11 = .ok (.ireturn, 1) := by decide +kernel
def qX2_isStone (x1 : Int32) (u0 : St) (post : Int32 → St → Prop) : Prop := qX11_within x1 (0 : Int32) ((gi u0 0) - (1 : Int32)) (fun r_3 => (bz r_3 ∧ post r_3 u0))
set_option maxRecDepth 100000 in
set_option maxHeartbeats 4000000 in
theorem kX2_isStone {C : Cx} {o0 : Nat} {a0 : Nat → Nat} (hC : Fx C cX2_isStone 2 RX2) (hR0 : xR C = rm 2) {post : Int32 → St → Prop} (hR : RZ C cX2_isStone 2 (fun u : St => (wX2 o0 a0 (xy C) u [])) (fun r u => post r u)) {x1 : Int32} {u0 : St} (h : qX2_isStone x1 u0 post) : G C 0 0 2 (wX2 o0 a0 (xy C) u0 []) 0 [(0, .ref o0), (1, .int x1)] [] := by
  refine g_iload_n (pc := 0) hC 1 dX2_isStone_0 rfl rfl ?_
  refine g_iconst (pc := 1) (v := 0) hC dX2_isStone_1 (by decide) ?_
  refine g_aload_n (pc := 2) hC 0 dX2_isStone_2 rfl rfl ?_
  refine getX2_0 (pc := 3) hC (F := fun Z => Z) (X := []) (fun _ => rfl) fl_X2_53 dX2_isStone_3 ?_
  refine g_iconst (pc := 6) (v := 1) hC dX2_isStone_6 (by decide) ?_
  refine g_isub (pc := 7) hC dX2_isStone_7 ?_
  refine g_callSN_i (pc := 8) (wd := fun (_ : Unit) Y => Y) (F := fun Z => Z) (X := []) (As := [.int x1, .int (0 : Int32), .int ((gi u0 0) - (1 : Int32))]) (rest := []) (u := ()) hC (fun _ _ => rfl) (fun _ => rfl) (ctX11_within h) wvX11_within nl_X2_80 rfl (rmok hR0 rfl) ⟨Nat.zero_le _, Nat.zero_le _⟩ rfl (Nat.le_of_ble_eq_true rfl) dX2_isStone_8 (fun r_3 u_4 h => ?_)
  exact hR _ _ _ u0 dX2_isStone_11 h.1 h.2
theorem ctX2_isStone {l : Launch} {D : va_G} {cy : Nat → ClassId} {kd : Nat → Nat} {o0 : Nat} {a0 : Nat → Nat} {x1 : Int32} {u0 : St} {post : Int32 → St → Prop} (h : qX2_isStone x1 u0 post) : CtI l D cy kd yX2_isStone cX2_isStone 2 2 .boolean [.ref o0, .int x1] (fun u : St => (wX2 o0 a0 cy u [])) u0 (fun r u => post r u) := met_z (by decide) (Nat.le_of_ble_eq_true rfl) (fun C e1 e2 e3 e4 e5 hC hR => by subst e1 e2 e3 e4; exact kX2_isStone hC e5 hR h)
theorem dX2_isPerson_0 : decode cX2_isPerson 0 = .ok (.iload_n 1, 1) := by decide +kernel
theorem dX2_isPerson_1 : decode cX2_isPerson 1 = .ok (.iconst 0, 1) := by decide +kernel
theorem dX2_isPerson_2 : decode cX2_isPerson 2 = .ok (.aload_n 0, 1) := by decide +kernel
theorem dX2_isPerson_3 : decode cX2_isPerson 3 = .ok (.getfield 56, 3) := by decide +kernel
theorem dX2_isPerson_6 : decode cX2_isPerson 6 = .ok (.iconst 1, 1) := by decide +kernel
theorem dX2_isPerson_7 : decode cX2_isPerson 7 = .ok (.isub, 1) := by decide +kernel
theorem dX2_isPerson_8 : decode cX2_isPerson 8 = .ok (.invokestatic 80, 3) := by decide +kernel
theorem dX2_isPerson_11 : decode cX2_isPerson 11 = .ok (.ireturn, 1) := by decide +kernel
def qX2_isPerson (x1 : Int32) (u0 : St) (post : Int32 → St → Prop) : Prop := qX11_within x1 (0 : Int32) ((gi u0 1) - (1 : Int32)) (fun r_3 => (bz r_3 ∧ post r_3 u0))
set_option maxRecDepth 100000 in
set_option maxHeartbeats 4000000 in
theorem kX2_isPerson {C : Cx} {o0 : Nat} {a0 : Nat → Nat} (hC : Fx C cX2_isPerson 2 RX2) (hR0 : xR C = rm 2) {post : Int32 → St → Prop} (hR : RZ C cX2_isPerson 2 (fun u : St => (wX2 o0 a0 (xy C) u [])) (fun r u => post r u)) {x1 : Int32} {u0 : St} (h : qX2_isPerson x1 u0 post) : G C 0 0 2 (wX2 o0 a0 (xy C) u0 []) 0 [(0, .ref o0), (1, .int x1)] [] := by
  refine g_iload_n (pc := 0) hC 1 dX2_isPerson_0 rfl rfl ?_
  refine g_iconst (pc := 1) (v := 0) hC dX2_isPerson_1 (by decide) ?_
  refine g_aload_n (pc := 2) hC 0 dX2_isPerson_2 rfl rfl ?_
  refine getX2_1 (pc := 3) hC (F := fun Z => Z) (X := []) (fun _ => rfl) fl_X2_56 dX2_isPerson_3 ?_
  refine g_iconst (pc := 6) (v := 1) hC dX2_isPerson_6 (by decide) ?_
  refine g_isub (pc := 7) hC dX2_isPerson_7 ?_
  refine g_callSN_i (pc := 8) (wd := fun (_ : Unit) Y => Y) (F := fun Z => Z) (X := []) (As := [.int x1, .int (0 : Int32), .int ((gi u0 1) - (1 : Int32))]) (rest := []) (u := ()) hC (fun _ _ => rfl) (fun _ => rfl) (ctX11_within h) wvX11_within nl_X2_80 rfl (rmok hR0 rfl) ⟨Nat.zero_le _, Nat.zero_le _⟩ rfl (Nat.le_of_ble_eq_true rfl) dX2_isPerson_8 (fun r_3 u_4 h => ?_)
  exact hR _ _ _ u0 dX2_isPerson_11 h.1 h.2
theorem ctX2_isPerson {l : Launch} {D : va_G} {cy : Nat → ClassId} {kd : Nat → Nat} {o0 : Nat} {a0 : Nat → Nat} {x1 : Int32} {u0 : St} {post : Int32 → St → Prop} (h : qX2_isPerson x1 u0 post) : CtI l D cy kd yX2_isPerson cX2_isPerson 2 2 .boolean [.ref o0, .int x1] (fun u : St => (wX2 o0 a0 cy u [])) u0 (fun r u => post r u) := met_z (by decide) (Nat.le_of_ble_eq_true rfl) (fun C e1 e2 e3 e4 e5 hC hR => by subst e1 e2 e3 e4; exact kX2_isPerson hC e5 hR h)
theorem dX2_isDebt_0 : decode cX2_isDebt 0 = .ok (.iload_n 1, 1) := by decide +kernel
theorem dX2_isDebt_1 : decode cX2_isDebt 1 = .ok (.iconst 0, 1) := by decide +kernel
theorem dX2_isDebt_2 : decode cX2_isDebt 2 = .ok (.aload_n 0, 1) := by decide +kernel
theorem dX2_isDebt_3 : decode cX2_isDebt 3 = .ok (.getfield 59, 3) := by decide +kernel
theorem dX2_isDebt_6 : decode cX2_isDebt 6 = .ok (.iconst 1, 1) := by decide +kernel
theorem dX2_isDebt_7 : decode cX2_isDebt 7 = .ok (.isub, 1) := by decide +kernel
theorem dX2_isDebt_8 : decode cX2_isDebt 8 = .ok (.invokestatic 80, 3) := by decide +kernel
theorem dX2_isDebt_11 : decode cX2_isDebt 11 = .ok (.ireturn, 1) := by decide +kernel
def qX2_isDebt (x1 : Int32) (u0 : St) (post : Int32 → St → Prop) : Prop := qX11_within x1 (0 : Int32) ((gi u0 2) - (1 : Int32)) (fun r_3 => (bz r_3 ∧ post r_3 u0))
set_option maxRecDepth 100000 in
set_option maxHeartbeats 4000000 in
theorem kX2_isDebt {C : Cx} {o0 : Nat} {a0 : Nat → Nat} (hC : Fx C cX2_isDebt 2 RX2) (hR0 : xR C = rm 2) {post : Int32 → St → Prop} (hR : RZ C cX2_isDebt 2 (fun u : St => (wX2 o0 a0 (xy C) u [])) (fun r u => post r u)) {x1 : Int32} {u0 : St} (h : qX2_isDebt x1 u0 post) : G C 0 0 2 (wX2 o0 a0 (xy C) u0 []) 0 [(0, .ref o0), (1, .int x1)] [] := by
  refine g_iload_n (pc := 0) hC 1 dX2_isDebt_0 rfl rfl ?_
  refine g_iconst (pc := 1) (v := 0) hC dX2_isDebt_1 (by decide) ?_
  refine g_aload_n (pc := 2) hC 0 dX2_isDebt_2 rfl rfl ?_
  refine getX2_2 (pc := 3) hC (F := fun Z => Z) (X := []) (fun _ => rfl) fl_X2_59 dX2_isDebt_3 ?_
  refine g_iconst (pc := 6) (v := 1) hC dX2_isDebt_6 (by decide) ?_
  refine g_isub (pc := 7) hC dX2_isDebt_7 ?_
  refine g_callSN_i (pc := 8) (wd := fun (_ : Unit) Y => Y) (F := fun Z => Z) (X := []) (As := [.int x1, .int (0 : Int32), .int ((gi u0 2) - (1 : Int32))]) (rest := []) (u := ()) hC (fun _ _ => rfl) (fun _ => rfl) (ctX11_within h) wvX11_within nl_X2_80 rfl (rmok hR0 rfl) ⟨Nat.zero_le _, Nat.zero_le _⟩ rfl (Nat.le_of_ble_eq_true rfl) dX2_isDebt_8 (fun r_3 u_4 h => ?_)
  exact hR _ _ _ u0 dX2_isDebt_11 h.1 h.2
theorem ctX2_isDebt {l : Launch} {D : va_G} {cy : Nat → ClassId} {kd : Nat → Nat} {o0 : Nat} {a0 : Nat → Nat} {x1 : Int32} {u0 : St} {post : Int32 → St → Prop} (h : qX2_isDebt x1 u0 post) : CtI l D cy kd yX2_isDebt cX2_isDebt 2 2 .boolean [.ref o0, .int x1] (fun u : St => (wX2 o0 a0 cy u [])) u0 (fun r u => post r u) := met_z (by decide) (Nat.le_of_ble_eq_true rfl) (fun C e1 e2 e3 e4 e5 hC hR => by subst e1 e2 e3 e4; exact kX2_isDebt hC e5 hR h)
theorem dX2_personNamed_0 : decode cX2_personNamed 0 = .ok (.iconst 0, 1) := by decide +kernel
theorem dX2_personNamed_1 : decode cX2_personNamed 1 = .ok (.istore_n 3, 1) := by decide +kernel
theorem dX2_personNamed_2 : decode cX2_personNamed 2 = .ok (.iload_n 3, 1) := by decide +kernel
theorem dX2_personNamed_3 : decode cX2_personNamed 3 = .ok (.aload_n 0, 1) := by decide +kernel
theorem dX2_personNamed_4 : decode cX2_personNamed 4 = .ok (.getfield 56, 3) := by decide +kernel
theorem dX2_personNamed_7 : decode cX2_personNamed 7 = .ok (.if_icmp .ge 22, 3) := by decide +kernel
theorem dX2_personNamed_10 : decode cX2_personNamed 10 = .ok (.aload_n 0, 1) := by decide +kernel
theorem dX2_personNamed_11 : decode cX2_personNamed 11 = .ok (.getfield 31, 3) := by decide +kernel
theorem dX2_personNamed_14 : decode cX2_personNamed 14 = .ok (.iload_n 3, 1) := by decide +kernel
theorem dX2_personNamed_15 : decode cX2_personNamed 15 = .ok (.laload, 1) := by decide +kernel
theorem dX2_personNamed_16 : decode cX2_personNamed 16 = .ok (.lload_n 1, 1) := by decide +kernel
theorem dX2_personNamed_17 : decode cX2_personNamed 17 = .ok (.lcmp, 1) := by decide +kernel
theorem dX2_personNamed_18 : decode cX2_personNamed 18 = .ok (.ifCond .ne 5, 3) := by decide +kernel
theorem dX2_personNamed_21 : decode cX2_personNamed 21 = .ok (.iload_n 3, 1) := by decide +kernel
theorem dX2_personNamed_22 : decode cX2_personNamed 22 = .ok (.ireturn, 1) := by decide +kernel
theorem dX2_personNamed_23 : decode cX2_personNamed 23 = .ok (.iinc 3 1, 3) := by decide +kernel
theorem dX2_personNamed_26 : decode cX2_personNamed 26 = .ok (.goto (-24), 3) := by decide +kernel
theorem dX2_personNamed_29 : decode cX2_personNamed 29 = .ok (.iconst (-1), 1) := by decide +kernel
theorem dX2_personNamed_30 : decode cX2_personNamed 30 = .ok (.ireturn, 1) := by decide +kernel
def qX2_personNamed_l2  (post : Int32 → St → Prop) (K2 : Int64 → Int32 → St → Prop) (x1 : Int64) (x3 : Int32) (u0 : St) : Prop := (((gi u0 1) ≤ x3 → post (-1 : Int32) u0) ∧ (¬ (gi u0 1) ≤ x3 → (vp_in x3 5 ∧ ((¬ (lg_cmp (gl u0 13 (x3).toNatClampNeg) x1) = 0 → ∀ x3_4 : Int32, x3_4 = x3 + (1 : Int32) → K2 x1 x3_4 u0) ∧ ((lg_cmp (gl u0 13 (x3).toNatClampNeg) x1) = 0 → post x3 u0)))))
set_option maxRecDepth 100000 in
set_option maxHeartbeats 4000000 in
theorem kX2_personNamed_l2 {C : Cx} {o0 : Nat} {a0 : Nat → Nat} (hC : Fx C cX2_personNamed 4 RX2) (hR0 : xR C = rm 1) {post : Int32 → St → Prop} (hR : RI C cX2_personNamed 4 (fun u : St => (wX2 o0 a0 (xy C) u [])) (fun r u => post r u))  {K2 : Int64 → Int32 → St → Prop} (hK2 : ∀ (x1 : Int64) (x3 : Int32) (u0 : St), K2 x1 x3 u0 → G C 0 0 4 (wX2 o0 a0 (xy C) u0 []) 2 [(0, .ref o0), (1, .long x1), (3, .int x3)] []) {x1 : Int64} {x3 : Int32} {u0 : St} (h : qX2_personNamed_l2 post K2 x1 x3 u0) : G C 0 0 4 (wX2 o0 a0 (xy C) u0 []) 2 [(0, .ref o0), (1, .long x1), (3, .int x3)] [] := by
  refine g_iload_n (pc := 2) hC 2 dX2_personNamed_2 rfl rfl ?_
  refine g_aload_n (pc := 3) hC 0 dX2_personNamed_3 rfl rfl ?_
  refine getX2_1 (pc := 4) hC (F := fun Z => Z) (X := []) (fun _ => rfl) fl_X2_56 dX2_personNamed_4 ?_
  refine g_icmp_ge (pc := 7) (tgt := 29) hC dX2_personNamed_7 (by decide) (fun c_2 => ?_) (fun c_2 => ?_)
  · have h := h.1 c_2
    refine g_iconst (pc := 29) (v := -1) hC dX2_personNamed_29 (by decide) ?_
    exact hR _ _ _ u0 dX2_personNamed_30 h
  · have h := h.2 c_2
    refine g_aload_n (pc := 10) hC 0 dX2_personNamed_10 rfl rfl ?_
    refine getX2_13 (pc := 11) hC (F := fun Z => Z) (X := []) (fun _ => rfl) fl_X2_31 dX2_personNamed_11 ?_
    refine g_iload_n (pc := 14) hC 2 dX2_personNamed_14 rfl rfl ?_
    refine aldX2_13 (pc := 15) hC (F := fun Z => Z) (X := []) (fun _ => rfl) h.1 dX2_personNamed_15 ?_
    have h := h.2
    refine g_lload_n (pc := 16) hC 1 dX2_personNamed_16 rfl rfl ?_
    refine g_lcmp (pc := 17) hC dX2_personNamed_17 ?_
    refine g_if_ne (pc := 18) (tgt := 23) hC dX2_personNamed_18 (by decide) (fun c_3 => ?_) (fun c_3 => ?_)
    · have h := h.1 c_3
      obtain ⟨x3_4, ex3_4⟩ : ∃ z : Int32, z = x3 + (1 : Int32) := ⟨_, rfl⟩
      have h := h x3_4 ex3_4
      refine g_iinc (pc := 23) (v := x3_4) (lv' := [(3, .int x3_4), (0, .ref o0), (1, .long x1)]) hC 2 dX2_personNamed_23 rfl (by rw [ex3_4]; rfl) (Nat.le_of_ble_eq_true rfl) rfl ?_
      refine g_goto (pc := 26) (tgt := 2) hC dX2_personNamed_26 (by decide) ?_
      refine g_sub (lv' := [(0, .ref o0), (1, .long x1), (3, .int x3_4)]) [1, 2, 0] rfl ?_
      exact hK2 _ _ _ h
    · have h := h.2 c_3
      refine g_iload_n (pc := 21) hC 2 dX2_personNamed_21 rfl rfl ?_
      exact hR _ _ _ u0 dX2_personNamed_22 h
def qX2_personNamed_L2  (post : Int32 → St → Prop)  : Nat → Int64 → Int32 → St → Prop
  | 0 => fun _ _ _ => False
  | n + 1 => qX2_personNamed_l2 post (qX2_personNamed_L2 post n)
theorem kX2_personNamed_L2 {C : Cx} {o0 : Nat} {a0 : Nat → Nat} (hC : Fx C cX2_personNamed 4 RX2) (hR0 : xR C = rm 1) {post : Int32 → St → Prop} (hR : RI C cX2_personNamed 4 (fun u : St => (wX2 o0 a0 (xy C) u [])) (fun r u => post r u))  : ∀ (n : Nat) (x1 : Int64) (x3 : Int32) (u0 : St), qX2_personNamed_L2 post n x1 x3 u0 → G C 0 0 4 (wX2 o0 a0 (xy C) u0 []) 2 [(0, .ref o0), (1, .long x1), (3, .int x3)] [] := by
  intro n
  induction n with
  | zero => intro x1 x3 u0 h; exact h.elim
  | succ n ih => intro x1 x3 u0 h; exact kX2_personNamed_l2 hC hR0 hR  ih h
def qX2_personNamed (x1 : Int64) (u0 : St) (post : Int32 → St → Prop) : Prop := ∃ n_5 : Nat, qX2_personNamed_L2 post n_5 x1 (0 : Int32) u0
set_option maxRecDepth 100000 in
set_option maxHeartbeats 4000000 in
theorem kX2_personNamed {C : Cx} {o0 : Nat} {a0 : Nat → Nat} (hC : Fx C cX2_personNamed 4 RX2) (hR0 : xR C = rm 1) {post : Int32 → St → Prop} (hR : RI C cX2_personNamed 4 (fun u : St => (wX2 o0 a0 (xy C) u [])) (fun r u => post r u)) {x1 : Int64} {u0 : St} (h : qX2_personNamed x1 u0 post) : G C 0 0 4 (wX2 o0 a0 (xy C) u0 []) 0 [(0, .ref o0), (1, .long x1)] [] := by
  refine g_iconst (pc := 0) (v := 0) hC dX2_personNamed_0 (by decide) ?_
  refine g_istore_n (pc := 1) (lv' := [(3, .int (0 : Int32)), (0, .ref o0), (1, .long x1)]) hC dX2_personNamed_1 rfl (Nat.le_of_ble_eq_true rfl) rfl ?_
  refine g_sub (lv' := [(0, .ref o0), (1, .long x1), (3, .int (0 : Int32))]) [1, 2, 0] rfl ?_
  obtain ⟨n_5, h⟩ := h
  exact kX2_personNamed_L2 hC hR0 hR  n_5 _ _ _ h
theorem ctX2_personNamed {l : Launch} {D : va_G} {cy : Nat → ClassId} {kd : Nat → Nat} {o0 : Nat} {a0 : Nat → Nat} {x1 : Int64} {u0 : St} {post : Int32 → St → Prop} (h : qX2_personNamed x1 u0 post) : CtI l D cy kd yX2_personNamed cX2_personNamed 4 1 .int [.ref o0, .long x1] (fun u : St => (wX2 o0 a0 cy u [])) u0 (fun r u => post r u) := met_i (by decide) (Nat.le_of_ble_eq_true rfl) (fun C e1 e2 e3 e4 e5 hC hR => by subst e1 e2 e3 e4; exact kX2_personNamed hC e5 hR h)
theorem dX2_addStone_0 : decode cX2_addStone 0 = .ok (.aload_n 0, 1) := by decide +kernel
theorem dX2_addStone_1 : decode cX2_addStone 1 = .ok (.getfield 15, 3) := by decide +kernel
theorem dX2_addStone_4 : decode cX2_addStone 4 = .ok (.aload_n 0, 1) := by decide +kernel
theorem dX2_addStone_5 : decode cX2_addStone 5 = .ok (.getfield 53, 3) := by decide +kernel
theorem dX2_addStone_8 : decode cX2_addStone 8 = .ok (.iload_n 1, 1) := by decide +kernel
theorem dX2_addStone_9 : decode cX2_addStone 9 = .ok (.iastore, 1) := by decide +kernel
theorem dX2_addStone_10 : decode cX2_addStone 10 = .ok (.aload_n 0, 1) := by decide +kernel
theorem dX2_addStone_11 : decode cX2_addStone 11 = .ok (.getfield 19, 3) := by decide +kernel
theorem dX2_addStone_14 : decode cX2_addStone 14 = .ok (.aload_n 0, 1) := by decide +kernel
theorem dX2_addStone_15 : decode cX2_addStone 15 = .ok (.getfield 53, 3) := by decide +kernel
theorem dX2_addStone_18 : decode cX2_addStone 18 = .ok (.iload_n 2, 1) := by decide +kernel
theorem dX2_addStone_19 : decode cX2_addStone 19 = .ok (.iastore, 1) := by decide +kernel
theorem dX2_addStone_20 : decode cX2_addStone 20 = .ok (.aload_n 0, 1) := by decide +kernel
theorem dX2_addStone_21 : decode cX2_addStone 21 = .ok (.getfield 22, 3) := by decide +kernel
theorem dX2_addStone_24 : decode cX2_addStone 24 = .ok (.aload_n 0, 1) := by decide +kernel
theorem dX2_addStone_25 : decode cX2_addStone 25 = .ok (.getfield 53, 3) := by decide +kernel
theorem dX2_addStone_28 : decode cX2_addStone 28 = .ok (.iload_n 3, 1) := by decide +kernel
theorem dX2_addStone_29 : decode cX2_addStone 29 = .ok (.iastore, 1) := by decide +kernel
theorem dX2_addStone_30 : decode cX2_addStone 30 = .ok (.aload_n 0, 1) := by decide +kernel
theorem dX2_addStone_31 : decode cX2_addStone 31 = .ok (.dup, 1) := by decide +kernel
theorem dX2_addStone_32 : decode cX2_addStone 32 = .ok (.getfield 53, 3) := by decide +kernel
theorem dX2_addStone_35 : decode cX2_addStone 35 = .ok (.iconst 1, 1) := by decide +kernel
theorem dX2_addStone_36 : decode cX2_addStone 36 = .ok (.iadd, 1) := by decide +kernel
theorem dX2_addStone_37 : decode cX2_addStone 37 = .ok (.putfield 53, 3) := by decide +kernel
theorem dX2_addStone_40 : decode cX2_addStone 40 = .ok (.return_, 1) := by decide +kernel
def qX2_addStone (x1 : Int32) (x2 : Int32) (x3 : Int32) (u0 : St) (post : St → Prop) : Prop := (vp_in (gi u0 0) 8 ∧ ∀ u_5 : St, u_5 = (sw u0 8 (upd (ga u0 8) ((gi u0 0)).toNatClampNeg x1)) → (vp_in (gi u_5 0) 8 ∧ ∀ u_6 : St, u_6 = (sw u_5 9 (upd (ga u_5 9) ((gi u_5 0)).toNatClampNeg x2)) → (vp_in (gi u_6 0) 8 ∧ ∀ u_7 : St, u_7 = (sw u_6 10 (upd (ga u_6 10) ((gi u_6 0)).toNatClampNeg x3)) → ∀ u_8 : St, u_8 = (si u_7 0 ((gi u_7 0) + (1 : Int32))) → post u_8)))
set_option maxRecDepth 100000 in
set_option maxHeartbeats 4000000 in
theorem kX2_addStone {C : Cx} {o0 : Nat} {a0 : Nat → Nat} (hC : Fx C cX2_addStone 4 RX2) (hR0 : xR C = rm 1) {post : St → Prop} (hR : RV C cX2_addStone 4 (fun u : St => (wX2 o0 a0 (xy C) u [])) (fun u => post u)) {x1 : Int32} {x2 : Int32} {x3 : Int32} {u0 : St} (h : qX2_addStone x1 x2 x3 u0 post) : G C 0 0 4 (wX2 o0 a0 (xy C) u0 []) 0 [(0, .ref o0), (1, .int x1), (2, .int x2), (3, .int x3)] [] := by
  refine g_aload_n (pc := 0) hC 0 dX2_addStone_0 rfl rfl ?_
  refine getX2_8 (pc := 1) hC (F := fun Z => Z) (X := []) (fun _ => rfl) fl_X2_15 dX2_addStone_1 ?_
  refine g_aload_n (pc := 4) hC 0 dX2_addStone_4 rfl rfl ?_
  refine getX2_0 (pc := 5) hC (F := fun Z => Z) (X := []) (fun _ => rfl) fl_X2_53 dX2_addStone_5 ?_
  refine g_iload_n (pc := 8) hC 1 dX2_addStone_8 rfl rfl ?_
  refine astX2_8 (pc := 9) hC (F := fun Z => Z) (X := []) (fun _ => rfl) h.1 dX2_addStone_9 ?_
  have h := h.2
  refine g_st (w := fun z => (wX2 o0 a0 (xy C) z [])) (u := (sw u0 8 (upd (ga u0 8) ((gi u0 0)).toNatClampNeg x1))) (fun u_5 eu_5 => ?_)
  have h := h u_5 eu_5
  refine g_aload_n (pc := 10) hC 0 dX2_addStone_10 rfl rfl ?_
  refine getX2_9 (pc := 11) hC (F := fun Z => Z) (X := []) (fun _ => rfl) fl_X2_19 dX2_addStone_11 ?_
  refine g_aload_n (pc := 14) hC 0 dX2_addStone_14 rfl rfl ?_
  refine getX2_0 (pc := 15) hC (F := fun Z => Z) (X := []) (fun _ => rfl) fl_X2_53 dX2_addStone_15 ?_
  refine g_iload_n (pc := 18) hC 2 dX2_addStone_18 rfl rfl ?_
  refine astX2_9 (pc := 19) hC (F := fun Z => Z) (X := []) (fun _ => rfl) h.1 dX2_addStone_19 ?_
  have h := h.2
  refine g_st (w := fun z => (wX2 o0 a0 (xy C) z [])) (u := (sw u_5 9 (upd (ga u_5 9) ((gi u_5 0)).toNatClampNeg x2))) (fun u_6 eu_6 => ?_)
  have h := h u_6 eu_6
  refine g_aload_n (pc := 20) hC 0 dX2_addStone_20 rfl rfl ?_
  refine getX2_10 (pc := 21) hC (F := fun Z => Z) (X := []) (fun _ => rfl) fl_X2_22 dX2_addStone_21 ?_
  refine g_aload_n (pc := 24) hC 0 dX2_addStone_24 rfl rfl ?_
  refine getX2_0 (pc := 25) hC (F := fun Z => Z) (X := []) (fun _ => rfl) fl_X2_53 dX2_addStone_25 ?_
  refine g_iload_n (pc := 28) hC 3 dX2_addStone_28 rfl rfl ?_
  refine astX2_10 (pc := 29) hC (F := fun Z => Z) (X := []) (fun _ => rfl) h.1 dX2_addStone_29 ?_
  have h := h.2
  refine g_st (w := fun z => (wX2 o0 a0 (xy C) z [])) (u := (sw u_6 10 (upd (ga u_6 10) ((gi u_6 0)).toNatClampNeg x3))) (fun u_7 eu_7 => ?_)
  have h := h u_7 eu_7
  refine g_aload_n (pc := 30) hC 0 dX2_addStone_30 rfl rfl ?_
  refine g_dup (pc := 31) hC dX2_addStone_31 rfl ?_
  refine getX2_0 (pc := 32) hC (F := fun Z => Z) (X := []) (fun _ => rfl) fl_X2_53 dX2_addStone_32 ?_
  refine g_iconst (pc := 35) (v := 1) hC dX2_addStone_35 (by decide) ?_
  refine g_iadd (pc := 36) hC dX2_addStone_36 ?_
  refine putX2_0 (pc := 37) hC (F := fun Z => Z) (X := []) (fun _ => rfl) fl_X2_53 dX2_addStone_37 ?_
  refine g_st (w := fun z => (wX2 o0 a0 (xy C) z [])) (u := (si u_7 0 ((gi u_7 0) + (1 : Int32)))) (fun u_8 eu_8 => ?_)
  have h := h u_8 eu_8
  exact hR _ _ u_8 dX2_addStone_40 h
theorem ctX2_addStone {l : Launch} {D : va_G} {cy : Nat → ClassId} {kd : Nat → Nat} {o0 : Nat} {a0 : Nat → Nat} {x1 : Int32} {x2 : Int32} {x3 : Int32} {u0 : St} {post : St → Prop} (h : qX2_addStone x1 x2 x3 u0 post) : CtV l D cy kd yX2_addStone cX2_addStone 4 1  [.ref o0, .int x1, .int x2, .int x3] (fun u : St => (wX2 o0 a0 cy u [])) u0 (fun u => post u) := met_v (by decide) (Nat.le_of_ble_eq_true rfl) (fun C e1 e2 e3 e4 e5 hC hR => by subst e1 e2 e3 e4; exact kX2_addStone hC e5 hR h)
theorem dX2_addPerson_0 : decode cX2_addPerson 0 = .ok (.aload_n 0, 1) := by decide +kernel
theorem dX2_addPerson_1 : decode cX2_addPerson 1 = .ok (.getfield 31, 3) := by decide +kernel
theorem dX2_addPerson_4 : decode cX2_addPerson 4 = .ok (.aload_n 0, 1) := by decide +kernel
theorem dX2_addPerson_5 : decode cX2_addPerson 5 = .ok (.getfield 56, 3) := by decide +kernel
theorem dX2_addPerson_8 : decode cX2_addPerson 8 = .ok (.lload_n 1, 1) := by decide +kernel
theorem dX2_addPerson_9 : decode cX2_addPerson 9 = .ok (.lastore, 1) := by decide +kernel
theorem dX2_addPerson_10 : decode cX2_addPerson 10 = .ok (.aload_n 0, 1) := by decide +kernel
theorem dX2_addPerson_11 : decode cX2_addPerson 11 = .ok (.getfield 28, 3) := by decide +kernel
theorem dX2_addPerson_14 : decode cX2_addPerson 14 = .ok (.aload_n 0, 1) := by decide +kernel
theorem dX2_addPerson_15 : decode cX2_addPerson 15 = .ok (.getfield 56, 3) := by decide +kernel
theorem dX2_addPerson_18 : decode cX2_addPerson 18 = .ok (.iload_n 3, 1) := by decide +kernel
theorem dX2_addPerson_19 : decode cX2_addPerson 19 = .ok (.iastore, 1) := by decide +kernel
theorem dX2_addPerson_20 : decode cX2_addPerson 20 = .ok (.aload_n 0, 1) := by decide +kernel
theorem dX2_addPerson_21 : decode cX2_addPerson 21 = .ok (.dup, 1) := by decide +kernel
theorem dX2_addPerson_22 : decode cX2_addPerson 22 = .ok (.getfield 56, 3) := by decide +kernel
theorem dX2_addPerson_25 : decode cX2_addPerson 25 = .ok (.iconst 1, 1) := by decide +kernel
theorem dX2_addPerson_26 : decode cX2_addPerson 26 = .ok (.iadd, 1) := by decide +kernel
theorem dX2_addPerson_27 : decode cX2_addPerson 27 = .ok (.putfield 56, 3) := by decide +kernel
theorem dX2_addPerson_30 : decode cX2_addPerson 30 = .ok (.return_, 1) := by decide +kernel
def qX2_addPerson (x1 : Int64) (x3 : Int32) (u0 : St) (post : St → Prop) : Prop := (vp_in (gi u0 1) 5 ∧ ∀ u_4 : St, u_4 = (sx u0 13 (vp_updL (gl u0 13) ((gi u0 1)).toNatClampNeg x1)) → (vp_in (gi u_4 1) 5 ∧ ∀ u_5 : St, u_5 = (sw u_4 12 (upd (ga u_4 12) ((gi u_4 1)).toNatClampNeg x3)) → ∀ u_6 : St, u_6 = (si u_5 1 ((gi u_5 1) + (1 : Int32))) → post u_6))
set_option maxRecDepth 100000 in
set_option maxHeartbeats 4000000 in
theorem kX2_addPerson {C : Cx} {o0 : Nat} {a0 : Nat → Nat} (hC : Fx C cX2_addPerson 4 RX2) (hR0 : xR C = rm 1) {post : St → Prop} (hR : RV C cX2_addPerson 4 (fun u : St => (wX2 o0 a0 (xy C) u [])) (fun u => post u)) {x1 : Int64} {x3 : Int32} {u0 : St} (h : qX2_addPerson x1 x3 u0 post) : G C 0 0 4 (wX2 o0 a0 (xy C) u0 []) 0 [(0, .ref o0), (1, .long x1), (3, .int x3)] [] := by
  refine g_aload_n (pc := 0) hC 0 dX2_addPerson_0 rfl rfl ?_
  refine getX2_13 (pc := 1) hC (F := fun Z => Z) (X := []) (fun _ => rfl) fl_X2_31 dX2_addPerson_1 ?_
  refine g_aload_n (pc := 4) hC 0 dX2_addPerson_4 rfl rfl ?_
  refine getX2_1 (pc := 5) hC (F := fun Z => Z) (X := []) (fun _ => rfl) fl_X2_56 dX2_addPerson_5 ?_
  refine g_lload_n (pc := 8) hC 1 dX2_addPerson_8 rfl rfl ?_
  refine astX2_13 (pc := 9) hC (F := fun Z => Z) (X := []) (fun _ => rfl) h.1 dX2_addPerson_9 ?_
  have h := h.2
  refine g_st (w := fun z => (wX2 o0 a0 (xy C) z [])) (u := (sx u0 13 (vp_updL (gl u0 13) ((gi u0 1)).toNatClampNeg x1))) (fun u_4 eu_4 => ?_)
  have h := h u_4 eu_4
  refine g_aload_n (pc := 10) hC 0 dX2_addPerson_10 rfl rfl ?_
  refine getX2_12 (pc := 11) hC (F := fun Z => Z) (X := []) (fun _ => rfl) fl_X2_28 dX2_addPerson_11 ?_
  refine g_aload_n (pc := 14) hC 0 dX2_addPerson_14 rfl rfl ?_
  refine getX2_1 (pc := 15) hC (F := fun Z => Z) (X := []) (fun _ => rfl) fl_X2_56 dX2_addPerson_15 ?_
  refine g_iload_n (pc := 18) hC 2 dX2_addPerson_18 rfl rfl ?_
  refine astX2_12 (pc := 19) hC (F := fun Z => Z) (X := []) (fun _ => rfl) h.1 dX2_addPerson_19 ?_
  have h := h.2
  refine g_st (w := fun z => (wX2 o0 a0 (xy C) z [])) (u := (sw u_4 12 (upd (ga u_4 12) ((gi u_4 1)).toNatClampNeg x3))) (fun u_5 eu_5 => ?_)
  have h := h u_5 eu_5
  refine g_aload_n (pc := 20) hC 0 dX2_addPerson_20 rfl rfl ?_
  refine g_dup (pc := 21) hC dX2_addPerson_21 rfl ?_
  refine getX2_1 (pc := 22) hC (F := fun Z => Z) (X := []) (fun _ => rfl) fl_X2_56 dX2_addPerson_22 ?_
  refine g_iconst (pc := 25) (v := 1) hC dX2_addPerson_25 (by decide) ?_
  refine g_iadd (pc := 26) hC dX2_addPerson_26 ?_
  refine putX2_1 (pc := 27) hC (F := fun Z => Z) (X := []) (fun _ => rfl) fl_X2_56 dX2_addPerson_27 ?_
  refine g_st (w := fun z => (wX2 o0 a0 (xy C) z [])) (u := (si u_5 1 ((gi u_5 1) + (1 : Int32)))) (fun u_6 eu_6 => ?_)
  have h := h u_6 eu_6
  exact hR _ _ u_6 dX2_addPerson_30 h
theorem ctX2_addPerson {l : Launch} {D : va_G} {cy : Nat → ClassId} {kd : Nat → Nat} {o0 : Nat} {a0 : Nat → Nat} {x1 : Int64} {x3 : Int32} {u0 : St} {post : St → Prop} (h : qX2_addPerson x1 x3 u0 post) : CtV l D cy kd yX2_addPerson cX2_addPerson 4 1  [.ref o0, .long x1, .int x3] (fun u : St => (wX2 o0 a0 cy u [])) u0 (fun u => post u) := met_v (by decide) (Nat.le_of_ble_eq_true rfl) (fun C e1 e2 e3 e4 e5 hC hR => by subst e1 e2 e3 e4; exact kX2_addPerson hC e5 hR h)
theorem dX2_addDebt_0 : decode cX2_addDebt 0 = .ok (.aload_n 0, 1) := by decide +kernel
theorem dX2_addDebt_1 : decode cX2_addDebt 1 = .ok (.getfield 35, 3) := by decide +kernel
theorem dX2_addDebt_4 : decode cX2_addDebt 4 = .ok (.aload_n 0, 1) := by decide +kernel
theorem dX2_addDebt_5 : decode cX2_addDebt 5 = .ok (.getfield 59, 3) := by decide +kernel
theorem dX2_addDebt_8 : decode cX2_addDebt 8 = .ok (.iload_n 1, 1) := by decide +kernel
theorem dX2_addDebt_9 : decode cX2_addDebt 9 = .ok (.iastore, 1) := by decide +kernel
theorem dX2_addDebt_10 : decode cX2_addDebt 10 = .ok (.aload_n 0, 1) := by decide +kernel
theorem dX2_addDebt_11 : decode cX2_addDebt 11 = .ok (.getfield 38, 3) := by decide +kernel
theorem dX2_addDebt_14 : decode cX2_addDebt 14 = .ok (.aload_n 0, 1) := by decide +kernel
theorem dX2_addDebt_15 : decode cX2_addDebt 15 = .ok (.getfield 59, 3) := by decide +kernel
theorem dX2_addDebt_18 : decode cX2_addDebt 18 = .ok (.iload_n 2, 1) := by decide +kernel
theorem dX2_addDebt_19 : decode cX2_addDebt 19 = .ok (.iastore, 1) := by decide +kernel
theorem dX2_addDebt_20 : decode cX2_addDebt 20 = .ok (.aload_n 0, 1) := by decide +kernel
theorem dX2_addDebt_21 : decode cX2_addDebt 21 = .ok (.getfield 41, 3) := by decide +kernel
theorem dX2_addDebt_24 : decode cX2_addDebt 24 = .ok (.aload_n 0, 1) := by decide +kernel
theorem dX2_addDebt_25 : decode cX2_addDebt 25 = .ok (.getfield 59, 3) := by decide +kernel
theorem dX2_addDebt_28 : decode cX2_addDebt 28 = .ok (.iload_n 3, 1) := by decide +kernel
theorem dX2_addDebt_29 : decode cX2_addDebt 29 = .ok (.iastore, 1) := by decide +kernel
theorem dX2_addDebt_30 : decode cX2_addDebt 30 = .ok (.aload_n 0, 1) := by decide +kernel
theorem dX2_addDebt_31 : decode cX2_addDebt 31 = .ok (.getfield 44, 3) := by decide +kernel
theorem dX2_addDebt_34 : decode cX2_addDebt 34 = .ok (.aload_n 0, 1) := by decide +kernel
theorem dX2_addDebt_35 : decode cX2_addDebt 35 = .ok (.getfield 59, 3) := by decide +kernel
theorem dX2_addDebt_38 : decode cX2_addDebt 38 = .ok (.iload 4, 2) := by decide +kernel
theorem dX2_addDebt_40 : decode cX2_addDebt 40 = .ok (.iastore, 1) := by decide +kernel
theorem dX2_addDebt_41 : decode cX2_addDebt 41 = .ok (.aload_n 0, 1) := by decide +kernel
theorem dX2_addDebt_42 : decode cX2_addDebt 42 = .ok (.dup, 1) := by decide +kernel
theorem dX2_addDebt_43 : decode cX2_addDebt 43 = .ok (.getfield 71, 3) := by decide +kernel
theorem dX2_addDebt_46 : decode cX2_addDebt 46 = .ok (.iload 5, 2) := by decide +kernel
theorem dX2_addDebt_48 : decode cX2_addDebt 48 = .ok (.ifCond .eq 12, 3) := by decide +kernel
theorem dX2_addDebt_51 : decode cX2_addDebt 51 = .ok (.iconst 1, 1) := by decide +kernel
theorem dX2_addDebt_52 : decode cX2_addDebt 52 = .ok (.aload_n 0, 1) := by decide +kernel
theorem dX2_addDebt_53 : decode cX2_addDebt 53 = .ok (.getfield 59, 3) := by decide +kernel
theorem dX2_addDebt_56 : decode cX2_addDebt 56 = .ok (.ishl, 1) := by decide +kernel
theorem dX2_addDebt_57 : decode cX2_addDebt 57 = .ok (.goto 4, 3) := by decide +kernel
theorem dX2_addDebt_60 : decode cX2_addDebt 60 = .ok (.iconst 0, 1) := by decide +kernel
theorem dX2_addDebt_61 : decode cX2_addDebt 61 = .ok (.ior, 1) := by decide +kernel
theorem dX2_addDebt_62 : decode cX2_addDebt 62 = .ok (.putfield 71, 3) := by decide +kernel
theorem dX2_addDebt_65 : decode cX2_addDebt 65 = .ok (.aload_n 0, 1) := by decide +kernel
theorem dX2_addDebt_66 : decode cX2_addDebt 66 = .ok (.getfield 47, 3) := by decide +kernel
theorem dX2_addDebt_69 : decode cX2_addDebt 69 = .ok (.aload_n 0, 1) := by decide +kernel
theorem dX2_addDebt_70 : decode cX2_addDebt 70 = .ok (.getfield 59, 3) := by decide +kernel
theorem dX2_addDebt_73 : decode cX2_addDebt 73 = .ok (.iload 6, 2) := by decide +kernel
theorem dX2_addDebt_75 : decode cX2_addDebt 75 = .ok (.iastore, 1) := by decide +kernel
theorem dX2_addDebt_76 : decode cX2_addDebt 76 = .ok (.aload_n 0, 1) := by decide +kernel
theorem dX2_addDebt_77 : decode cX2_addDebt 77 = .ok (.getfield 50, 3) := by decide +kernel
theorem dX2_addDebt_80 : decode cX2_addDebt 80 = .ok (.aload_n 0, 1) := by decide +kernel
theorem dX2_addDebt_81 : decode cX2_addDebt 81 = .ok (.getfield 59, 3) := by decide +kernel
theorem dX2_addDebt_84 : decode cX2_addDebt 84 = .ok (.iconst 0, 1) := by decide +kernel
theorem dX2_addDebt_85 : decode cX2_addDebt 85 = .ok (.iastore, 1) := by decide +kernel
theorem dX2_addDebt_86 : decode cX2_addDebt 86 = .ok (.aload_n 0, 1) := by decide +kernel
theorem dX2_addDebt_87 : decode cX2_addDebt 87 = .ok (.dup, 1) := by decide +kernel
theorem dX2_addDebt_88 : decode cX2_addDebt 88 = .ok (.getfield 59, 3) := by decide +kernel
theorem dX2_addDebt_91 : decode cX2_addDebt 91 = .ok (.iconst 1, 1) := by decide +kernel
theorem dX2_addDebt_92 : decode cX2_addDebt 92 = .ok (.iadd, 1) := by decide +kernel
theorem dX2_addDebt_93 : decode cX2_addDebt 93 = .ok (.putfield 59, 3) := by decide +kernel
theorem dX2_addDebt_96 : decode cX2_addDebt 96 = .ok (.return_, 1) := by decide +kernel
def qX2_addDebt_b61  (post : St → Prop)  (x6 : Int32) (s0 : Int32) (s1 : Int32) (u0 : St) : Prop := ∀ u_9 : St, u_9 = (si u0 7 (s1 ||| s0)) → (vp_in (gi u_9 2) 7 ∧ ∀ u_10 : St, u_10 = (sw u_9 18 (upd (ga u_9 18) ((gi u_9 2)).toNatClampNeg x6)) → (vp_in (gi u_10 2) 7 ∧ ∀ u_11 : St, u_11 = (sw u_10 19 (upd (ga u_10 19) ((gi u_10 2)).toNatClampNeg (0 : Int32))) → ∀ u_12 : St, u_12 = (si u_11 2 ((gi u_11 2) + (1 : Int32))) → post u_12))
set_option maxRecDepth 100000 in
set_option maxHeartbeats 4000000 in
theorem kX2_addDebt_b61 {C : Cx} {o0 : Nat} {a0 : Nat → Nat} (hC : Fx C cX2_addDebt 7 RX2) (hR0 : xR C = rm 1) {post : St → Prop} (hR : RV C cX2_addDebt 7 (fun u : St => (wX2 o0 a0 (xy C) u [])) (fun u => post u))  {x6 : Int32} {s0 : Int32} {s1 : Int32} {u0 : St} (h : qX2_addDebt_b61 post x6 s0 s1 u0) : G C 0 0 7 (wX2 o0 a0 (xy C) u0 []) 61 [(0, .ref o0), (6, .int x6)] [.int s0, .int s1, .ref o0] := by
  refine g_ior (pc := 61) hC dX2_addDebt_61 ?_
  refine putX2_7 (pc := 62) hC (F := fun Z => Z) (X := []) (fun _ => rfl) fl_X2_71 dX2_addDebt_62 ?_
  refine g_st (w := fun z => (wX2 o0 a0 (xy C) z [])) (u := (si u0 7 (s1 ||| s0))) (fun u_9 eu_9 => ?_)
  have h := h u_9 eu_9
  refine g_aload_n (pc := 65) hC 0 dX2_addDebt_65 rfl rfl ?_
  refine getX2_18 (pc := 66) hC (F := fun Z => Z) (X := []) (fun _ => rfl) fl_X2_47 dX2_addDebt_66 ?_
  refine g_aload_n (pc := 69) hC 0 dX2_addDebt_69 rfl rfl ?_
  refine getX2_2 (pc := 70) hC (F := fun Z => Z) (X := []) (fun _ => rfl) fl_X2_59 dX2_addDebt_70 ?_
  refine g_iload (pc := 73) hC 1 dX2_addDebt_73 rfl ?_
  refine astX2_18 (pc := 75) hC (F := fun Z => Z) (X := []) (fun _ => rfl) h.1 dX2_addDebt_75 ?_
  have h := h.2
  refine g_st (w := fun z => (wX2 o0 a0 (xy C) z [])) (u := (sw u_9 18 (upd (ga u_9 18) ((gi u_9 2)).toNatClampNeg x6))) (fun u_10 eu_10 => ?_)
  have h := h u_10 eu_10
  refine g_aload_n (pc := 76) hC 0 dX2_addDebt_76 rfl rfl ?_
  refine getX2_19 (pc := 77) hC (F := fun Z => Z) (X := []) (fun _ => rfl) fl_X2_50 dX2_addDebt_77 ?_
  refine g_aload_n (pc := 80) hC 0 dX2_addDebt_80 rfl rfl ?_
  refine getX2_2 (pc := 81) hC (F := fun Z => Z) (X := []) (fun _ => rfl) fl_X2_59 dX2_addDebt_81 ?_
  refine g_iconst (pc := 84) (v := 0) hC dX2_addDebt_84 (by decide) ?_
  refine astX2_19 (pc := 85) hC (F := fun Z => Z) (X := []) (fun _ => rfl) h.1 dX2_addDebt_85 ?_
  have h := h.2
  refine g_st (w := fun z => (wX2 o0 a0 (xy C) z [])) (u := (sw u_10 19 (upd (ga u_10 19) ((gi u_10 2)).toNatClampNeg (0 : Int32)))) (fun u_11 eu_11 => ?_)
  have h := h u_11 eu_11
  refine g_aload_n (pc := 86) hC 0 dX2_addDebt_86 rfl rfl ?_
  refine g_dup (pc := 87) hC dX2_addDebt_87 rfl ?_
  refine getX2_2 (pc := 88) hC (F := fun Z => Z) (X := []) (fun _ => rfl) fl_X2_59 dX2_addDebt_88 ?_
  refine g_iconst (pc := 91) (v := 1) hC dX2_addDebt_91 (by decide) ?_
  refine g_iadd (pc := 92) hC dX2_addDebt_92 ?_
  refine putX2_2 (pc := 93) hC (F := fun Z => Z) (X := []) (fun _ => rfl) fl_X2_59 dX2_addDebt_93 ?_
  refine g_st (w := fun z => (wX2 o0 a0 (xy C) z [])) (u := (si u_11 2 ((gi u_11 2) + (1 : Int32)))) (fun u_12 eu_12 => ?_)
  have h := h u_12 eu_12
  exact hR _ _ u_12 dX2_addDebt_96 h
def qX2_addDebt (x1 : Int32) (x2 : Int32) (x3 : Int32) (x4 : Int32) (x5 : Int32) (x6 : Int32) (u0 : St) (post : St → Prop) : Prop := (vp_in (gi u0 2) 7 ∧ ∀ u_13 : St, u_13 = (sw u0 14 (upd (ga u0 14) ((gi u0 2)).toNatClampNeg x1)) → (vp_in (gi u_13 2) 7 ∧ ∀ u_14 : St, u_14 = (sw u_13 15 (upd (ga u_13 15) ((gi u_13 2)).toNatClampNeg x2)) → (vp_in (gi u_14 2) 7 ∧ ∀ u_15 : St, u_15 = (sw u_14 16 (upd (ga u_14 16) ((gi u_14 2)).toNatClampNeg x3)) → (vp_in (gi u_15 2) 7 ∧ ∀ u_16 : St, u_16 = (sw u_15 17 (upd (ga u_15 17) ((gi u_15 2)).toNatClampNeg x4)) → ((x5 = 0 → qX2_addDebt_b61 post x6 (0 : Int32) (gi u_16 7) u_16) ∧ (¬ x5 = 0 → qX2_addDebt_b61 post x6 ((1 : Int32) <<< ((gi u_16 2) &&& 31)) (gi u_16 7) u_16))))))
set_option maxRecDepth 100000 in
set_option maxHeartbeats 4000000 in
theorem kX2_addDebt {C : Cx} {o0 : Nat} {a0 : Nat → Nat} (hC : Fx C cX2_addDebt 7 RX2) (hR0 : xR C = rm 1) {post : St → Prop} (hR : RV C cX2_addDebt 7 (fun u : St => (wX2 o0 a0 (xy C) u [])) (fun u => post u)) {x1 : Int32} {x2 : Int32} {x3 : Int32} {x4 : Int32} {x5 : Int32} {x6 : Int32} {u0 : St} (h : qX2_addDebt x1 x2 x3 x4 x5 x6 u0 post) : G C 0 0 7 (wX2 o0 a0 (xy C) u0 []) 0 [(0, .ref o0), (1, .int x1), (2, .int x2), (3, .int x3), (4, .int x4), (5, .int x5), (6, .int x6)] [] := by
  refine g_aload_n (pc := 0) hC 0 dX2_addDebt_0 rfl rfl ?_
  refine getX2_14 (pc := 1) hC (F := fun Z => Z) (X := []) (fun _ => rfl) fl_X2_35 dX2_addDebt_1 ?_
  refine g_aload_n (pc := 4) hC 0 dX2_addDebt_4 rfl rfl ?_
  refine getX2_2 (pc := 5) hC (F := fun Z => Z) (X := []) (fun _ => rfl) fl_X2_59 dX2_addDebt_5 ?_
  refine g_iload_n (pc := 8) hC 1 dX2_addDebt_8 rfl rfl ?_
  refine astX2_14 (pc := 9) hC (F := fun Z => Z) (X := []) (fun _ => rfl) h.1 dX2_addDebt_9 ?_
  have h := h.2
  refine g_st (w := fun z => (wX2 o0 a0 (xy C) z [])) (u := (sw u0 14 (upd (ga u0 14) ((gi u0 2)).toNatClampNeg x1))) (fun u_13 eu_13 => ?_)
  have h := h u_13 eu_13
  refine g_aload_n (pc := 10) hC 0 dX2_addDebt_10 rfl rfl ?_
  refine getX2_15 (pc := 11) hC (F := fun Z => Z) (X := []) (fun _ => rfl) fl_X2_38 dX2_addDebt_11 ?_
  refine g_aload_n (pc := 14) hC 0 dX2_addDebt_14 rfl rfl ?_
  refine getX2_2 (pc := 15) hC (F := fun Z => Z) (X := []) (fun _ => rfl) fl_X2_59 dX2_addDebt_15 ?_
  refine g_iload_n (pc := 18) hC 2 dX2_addDebt_18 rfl rfl ?_
  refine astX2_15 (pc := 19) hC (F := fun Z => Z) (X := []) (fun _ => rfl) h.1 dX2_addDebt_19 ?_
  have h := h.2
  refine g_st (w := fun z => (wX2 o0 a0 (xy C) z [])) (u := (sw u_13 15 (upd (ga u_13 15) ((gi u_13 2)).toNatClampNeg x2))) (fun u_14 eu_14 => ?_)
  have h := h u_14 eu_14
  refine g_aload_n (pc := 20) hC 0 dX2_addDebt_20 rfl rfl ?_
  refine getX2_16 (pc := 21) hC (F := fun Z => Z) (X := []) (fun _ => rfl) fl_X2_41 dX2_addDebt_21 ?_
  refine g_aload_n (pc := 24) hC 0 dX2_addDebt_24 rfl rfl ?_
  refine getX2_2 (pc := 25) hC (F := fun Z => Z) (X := []) (fun _ => rfl) fl_X2_59 dX2_addDebt_25 ?_
  refine g_iload_n (pc := 28) hC 3 dX2_addDebt_28 rfl rfl ?_
  refine astX2_16 (pc := 29) hC (F := fun Z => Z) (X := []) (fun _ => rfl) h.1 dX2_addDebt_29 ?_
  have h := h.2
  refine g_st (w := fun z => (wX2 o0 a0 (xy C) z [])) (u := (sw u_14 16 (upd (ga u_14 16) ((gi u_14 2)).toNatClampNeg x3))) (fun u_15 eu_15 => ?_)
  have h := h u_15 eu_15
  refine g_aload_n (pc := 30) hC 0 dX2_addDebt_30 rfl rfl ?_
  refine getX2_17 (pc := 31) hC (F := fun Z => Z) (X := []) (fun _ => rfl) fl_X2_44 dX2_addDebt_31 ?_
  refine g_aload_n (pc := 34) hC 0 dX2_addDebt_34 rfl rfl ?_
  refine getX2_2 (pc := 35) hC (F := fun Z => Z) (X := []) (fun _ => rfl) fl_X2_59 dX2_addDebt_35 ?_
  refine g_iload (pc := 38) hC 4 dX2_addDebt_38 rfl ?_
  refine astX2_17 (pc := 40) hC (F := fun Z => Z) (X := []) (fun _ => rfl) h.1 dX2_addDebt_40 ?_
  have h := h.2
  refine g_st (w := fun z => (wX2 o0 a0 (xy C) z [])) (u := (sw u_15 17 (upd (ga u_15 17) ((gi u_15 2)).toNatClampNeg x4))) (fun u_16 eu_16 => ?_)
  have h := h u_16 eu_16
  refine g_aload_n (pc := 41) hC 0 dX2_addDebt_41 rfl rfl ?_
  refine g_dup (pc := 42) hC dX2_addDebt_42 rfl ?_
  refine getX2_7 (pc := 43) hC (F := fun Z => Z) (X := []) (fun _ => rfl) fl_X2_71 dX2_addDebt_43 ?_
  refine g_iload (pc := 46) hC 5 dX2_addDebt_46 rfl ?_
  refine g_if_eq (pc := 48) (tgt := 60) hC dX2_addDebt_48 (by decide) (fun c_17 => ?_) (fun c_17 => ?_)
  · have h := h.1 c_17
    refine g_iconst (pc := 60) (v := 0) hC dX2_addDebt_60 (by decide) ?_
    refine g_sub (lv' := [(0, .ref o0), (6, .int x6)]) [0, 6] rfl ?_
    exact kX2_addDebt_b61 hC hR0 hR  h
  · have h := h.2 c_17
    refine g_iconst (pc := 51) (v := 1) hC dX2_addDebt_51 (by decide) ?_
    refine g_aload_n (pc := 52) hC 0 dX2_addDebt_52 rfl rfl ?_
    refine getX2_2 (pc := 53) hC (F := fun Z => Z) (X := []) (fun _ => rfl) fl_X2_59 dX2_addDebt_53 ?_
    refine g_ishl (pc := 56) hC dX2_addDebt_56 ?_
    refine g_goto (pc := 57) (tgt := 61) hC dX2_addDebt_57 (by decide) ?_
    refine g_sub (lv' := [(0, .ref o0), (6, .int x6)]) [0, 6] rfl ?_
    exact kX2_addDebt_b61 hC hR0 hR  h
theorem ctX2_addDebt {l : Launch} {D : va_G} {cy : Nat → ClassId} {kd : Nat → Nat} {o0 : Nat} {a0 : Nat → Nat} {x1 : Int32} {x2 : Int32} {x3 : Int32} {x4 : Int32} {x5 : Int32} {x6 : Int32} {u0 : St} {post : St → Prop} (h : qX2_addDebt x1 x2 x3 x4 x5 x6 u0 post) : CtV l D cy kd yX2_addDebt cX2_addDebt 7 1  [.ref o0, .int x1, .int x2, .int x3, .int x4, .int x5, .int x6] (fun u : St => (wX2 o0 a0 cy u [])) u0 (fun u => post u) := met_v (by decide) (Nat.le_of_ble_eq_true rfl) (fun C e1 e2 e3 e4 e5 hC hR => by subst e1 e2 e3 e4; exact kX2_addDebt hC e5 hR h)
theorem dX2_hasFallen_0 : decode cX2_hasFallen 0 = .ok (.aload_n 0, 1) := by decide +kernel
theorem dX2_hasFallen_1 : decode cX2_hasFallen 1 = .ok (.getfield 65, 3) := by decide +kernel
theorem dX2_hasFallen_4 : decode cX2_hasFallen 4 = .ok (.iload_n 1, 1) := by decide +kernel
theorem dX2_hasFallen_5 : decode cX2_hasFallen 5 = .ok (.invokestatic 84, 3) := by decide +kernel
theorem dX2_hasFallen_8 : decode cX2_hasFallen 8 = .ok (.ireturn, 1) := by decide +kernel
def qX2_hasFallen (x1 : Int32) (u0 : St) (post : Int32 → St → Prop) : Prop := qX11_has (gi u0 5) x1 (fun r_3 => (bz r_3 ∧ post r_3 u0))
set_option maxRecDepth 100000 in
set_option maxHeartbeats 4000000 in
theorem kX2_hasFallen {C : Cx} {o0 : Nat} {a0 : Nat → Nat} (hC : Fx C cX2_hasFallen 2 RX2) (hR0 : xR C = rm 2) {post : Int32 → St → Prop} (hR : RZ C cX2_hasFallen 2 (fun u : St => (wX2 o0 a0 (xy C) u [])) (fun r u => post r u)) {x1 : Int32} {u0 : St} (h : qX2_hasFallen x1 u0 post) : G C 0 0 2 (wX2 o0 a0 (xy C) u0 []) 0 [(0, .ref o0), (1, .int x1)] [] := by
  refine g_aload_n (pc := 0) hC 0 dX2_hasFallen_0 rfl rfl ?_
  refine getX2_5 (pc := 1) hC (F := fun Z => Z) (X := []) (fun _ => rfl) fl_X2_65 dX2_hasFallen_1 ?_
  refine g_iload_n (pc := 4) hC 1 dX2_hasFallen_4 rfl rfl ?_
  refine g_callSN_i (pc := 5) (wd := fun (_ : Unit) Y => Y) (F := fun Z => Z) (X := []) (As := [.int (gi u0 5), .int x1]) (rest := []) (u := ()) hC (fun _ _ => rfl) (fun _ => rfl) (ctX11_has h) wvX11_has nl_X2_84 rfl (rmok hR0 rfl) ⟨Nat.zero_le _, Nat.zero_le _⟩ rfl (Nat.le_of_ble_eq_true rfl) dX2_hasFallen_5 (fun r_3 u_4 h => ?_)
  exact hR _ _ _ u0 dX2_hasFallen_8 h.1 h.2
theorem ctX2_hasFallen {l : Launch} {D : va_G} {cy : Nat → ClassId} {kd : Nat → Nat} {o0 : Nat} {a0 : Nat → Nat} {x1 : Int32} {u0 : St} {post : Int32 → St → Prop} (h : qX2_hasFallen x1 u0 post) : CtI l D cy kd yX2_hasFallen cX2_hasFallen 2 2 .boolean [.ref o0, .int x1] (fun u : St => (wX2 o0 a0 cy u [])) u0 (fun r u => post r u) := met_z (by decide) (Nat.le_of_ble_eq_true rfl) (fun C e1 e2 e3 e4 e5 hC hR => by subst e1 e2 e3 e4; exact kX2_hasFallen hC e5 hR h)
theorem dX2_standingNow_0 : decode cX2_standingNow 0 = .ok (.iconst 1, 1) := by decide +kernel
theorem dX2_standingNow_1 : decode cX2_standingNow 1 = .ok (.aload_n 0, 1) := by decide +kernel
theorem dX2_standingNow_2 : decode cX2_standingNow 2 = .ok (.getfield 53, 3) := by decide +kernel
theorem dX2_standingNow_5 : decode cX2_standingNow 5 = .ok (.ishl, 1) := by decide +kernel
theorem dX2_standingNow_6 : decode cX2_standingNow 6 = .ok (.iconst 1, 1) := by decide +kernel
theorem dX2_standingNow_7 : decode cX2_standingNow 7 = .ok (.isub, 1) := by decide +kernel
theorem dX2_standingNow_8 : decode cX2_standingNow 8 = .ok (.aload_n 0, 1) := by decide +kernel
theorem dX2_standingNow_9 : decode cX2_standingNow 9 = .ok (.getfield 65, 3) := by decide +kernel
theorem dX2_standingNow_12 : decode cX2_standingNow 12 = .ok (.iconst (-1), 1) := by decide +kernel
theorem dX2_standingNow_13 : decode cX2_standingNow 13 = .ok (.ixor, 1) := by decide +kernel
theorem dX2_standingNow_14 : decode cX2_standingNow 14 = .ok (.iand, 1) := by decide +kernel
theorem dX2_standingNow_15 : decode cX2_standingNow 15 = .ok (.ireturn, 1) := by decide +kernel
def qX2_standingNow  (u0 : St) (post : Int32 → St → Prop) : Prop := post ((((1 : Int32) <<< ((gi u0 0) &&& 31)) - (1 : Int32)) &&& ((gi u0 5) ^^^ (-1 : Int32))) u0
set_option maxRecDepth 100000 in
set_option maxHeartbeats 4000000 in
theorem kX2_standingNow {C : Cx} {o0 : Nat} {a0 : Nat → Nat} (hC : Fx C cX2_standingNow 1 RX2) (hR0 : xR C = rm 1) {post : Int32 → St → Prop} (hR : RI C cX2_standingNow 1 (fun u : St => (wX2 o0 a0 (xy C) u [])) (fun r u => post r u))  {u0 : St} (h : qX2_standingNow  u0 post) : G C 0 0 1 (wX2 o0 a0 (xy C) u0 []) 0 [(0, .ref o0)] [] := by
  refine g_iconst (pc := 0) (v := 1) hC dX2_standingNow_0 (by decide) ?_
  refine g_aload_n (pc := 1) hC 0 dX2_standingNow_1 rfl rfl ?_
  refine getX2_0 (pc := 2) hC (F := fun Z => Z) (X := []) (fun _ => rfl) fl_X2_53 dX2_standingNow_2 ?_
  refine g_ishl (pc := 5) hC dX2_standingNow_5 ?_
  refine g_iconst (pc := 6) (v := 1) hC dX2_standingNow_6 (by decide) ?_
  refine g_isub (pc := 7) hC dX2_standingNow_7 ?_
  refine g_aload_n (pc := 8) hC 0 dX2_standingNow_8 rfl rfl ?_
  refine getX2_5 (pc := 9) hC (F := fun Z => Z) (X := []) (fun _ => rfl) fl_X2_65 dX2_standingNow_9 ?_
  refine g_iconst (pc := 12) (v := -1) hC dX2_standingNow_12 (by decide) ?_
  refine g_ixor (pc := 13) hC dX2_standingNow_13 ?_
  refine g_iand (pc := 14) hC dX2_standingNow_14 ?_
  exact hR _ _ _ u0 dX2_standingNow_15 h
theorem ctX2_standingNow {l : Launch} {D : va_G} {cy : Nat → ClassId} {kd : Nat → Nat} {o0 : Nat} {a0 : Nat → Nat}  {u0 : St} {post : Int32 → St → Prop} (h : qX2_standingNow  u0 post) : CtI l D cy kd yX2_standingNow cX2_standingNow 1 1 .int [.ref o0] (fun u : St => (wX2 o0 a0 cy u [])) u0 (fun r u => post r u) := met_i (by decide) (Nat.le_of_ble_eq_true rfl) (fun C e1 e2 e3 e4 e5 hC hR => by subst e1 e2 e3 e4; exact kX2_standingNow hC e5 hR h)
theorem dX2_gatherLeaves_0 : decode cX2_gatherLeaves 0 = .ok (.iconst 0, 1) := by decide +kernel
theorem dX2_gatherLeaves_1 : decode cX2_gatherLeaves 1 = .ok (.istore_n 2, 1) := by decide +kernel
theorem dX2_gatherLeaves_2 : decode cX2_gatherLeaves 2 = .ok (.iload_n 2, 1) := by decide +kernel
theorem dX2_gatherLeaves_3 : decode cX2_gatherLeaves 3 = .ok (.aload_n 0, 1) := by decide +kernel
theorem dX2_gatherLeaves_4 : decode cX2_gatherLeaves 4 = .ok (.getfield 53, 3) := by decide +kernel
theorem dX2_gatherLeaves_7 : decode cX2_gatherLeaves 7 = .ok (.if_icmp .ge 16, 3) := by decide +kernel
theorem dX2_gatherLeaves_10 : decode cX2_gatherLeaves 10 = .ok (.aload_n 0, 1) := by decide +kernel
theorem dX2_gatherLeaves_11 : decode cX2_gatherLeaves 11 = .ok (.getfield 25, 3) := by decide +kernel
theorem dX2_gatherLeaves_14 : decode cX2_gatherLeaves 14 = .ok (.iload_n 2, 1) := by decide +kernel
theorem dX2_gatherLeaves_15 : decode cX2_gatherLeaves 15 = .ok (.iconst 0, 1) := by decide +kernel
theorem dX2_gatherLeaves_16 : decode cX2_gatherLeaves 16 = .ok (.iastore, 1) := by decide +kernel
theorem dX2_gatherLeaves_17 : decode cX2_gatherLeaves 17 = .ok (.iinc 2 1, 3) := by decide +kernel
theorem dX2_gatherLeaves_20 : decode cX2_gatherLeaves 20 = .ok (.goto (-18), 3) := by decide +kernel
theorem dX2_gatherLeaves_23 : decode cX2_gatherLeaves 23 = .ok (.iload_n 1, 1) := by decide +kernel
theorem dX2_gatherLeaves_24 : decode cX2_gatherLeaves 24 = .ok (.aload_n 0, 1) := by decide +kernel
theorem dX2_gatherLeaves_25 : decode cX2_gatherLeaves 25 = .ok (.getfield 68, 3) := by decide +kernel
theorem dX2_gatherLeaves_28 : decode cX2_gatherLeaves 28 = .ok (.ior, 1) := by decide +kernel
theorem dX2_gatherLeaves_29 : decode cX2_gatherLeaves 29 = .ok (.istore_n 2, 1) := by decide +kernel
theorem dX2_gatherLeaves_30 : decode cX2_gatherLeaves 30 = .ok (.iconst 0, 1) := by decide +kernel
theorem dX2_gatherLeaves_31 : decode cX2_gatherLeaves 31 = .ok (.istore_n 3, 1) := by decide +kernel
theorem dX2_gatherLeaves_32 : decode cX2_gatherLeaves 32 = .ok (.iload_n 3, 1) := by decide +kernel
theorem dX2_gatherLeaves_33 : decode cX2_gatherLeaves 33 = .ok (.aload_n 0, 1) := by decide +kernel
theorem dX2_gatherLeaves_34 : decode cX2_gatherLeaves 34 = .ok (.getfield 59, 3) := by decide +kernel
theorem dX2_gatherLeaves_37 : decode cX2_gatherLeaves 37 = .ok (.if_icmp .ge 37, 3) := by decide +kernel
theorem dX2_gatherLeaves_40 : decode cX2_gatherLeaves 40 = .ok (.iload_n 2, 1) := by decide +kernel
theorem dX2_gatherLeaves_41 : decode cX2_gatherLeaves 41 = .ok (.iload_n 3, 1) := by decide +kernel
theorem dX2_gatherLeaves_42 : decode cX2_gatherLeaves 42 = .ok (.ishr, 1) := by decide +kernel
theorem dX2_gatherLeaves_43 : decode cX2_gatherLeaves 43 = .ok (.iconst 1, 1) := by decide +kernel
theorem dX2_gatherLeaves_44 : decode cX2_gatherLeaves 44 = .ok (.iand, 1) := by decide +kernel
theorem dX2_gatherLeaves_45 : decode cX2_gatherLeaves 45 = .ok (.ifCond .ne 23, 3) := by decide +kernel
theorem dX2_gatherLeaves_48 : decode cX2_gatherLeaves 48 = .ok (.aload_n 0, 1) := by decide +kernel
theorem dX2_gatherLeaves_49 : decode cX2_gatherLeaves 49 = .ok (.getfield 25, 3) := by decide +kernel
theorem dX2_gatherLeaves_52 : decode cX2_gatherLeaves 52 = .ok (.aload_n 0, 1) := by decide +kernel
theorem dX2_gatherLeaves_53 : decode cX2_gatherLeaves 53 = .ok (.getfield 47, 3) := by decide +kernel
theorem dX2_gatherLeaves_56 : decode cX2_gatherLeaves 56 = .ok (.iload_n 3, 1) := by decide +kernel
theorem dX2_gatherLeaves_57 : decode cX2_gatherLeaves 57 = .ok (.iaload, 1) := by decide +kernel
theorem dX2_gatherLeaves_58 : decode cX2_gatherLeaves 58 = .ok (.dup2, 1) := by decide +kernel
theorem dX2_gatherLeaves_59 : decode cX2_gatherLeaves 59 = .ok (.iaload, 1) := by decide +kernel
theorem dX2_gatherLeaves_60 : decode cX2_gatherLeaves 60 = .ok (.aload_n 0, 1) := by decide +kernel
theorem dX2_gatherLeaves_61 : decode cX2_gatherLeaves 61 = .ok (.getfield 50, 3) := by decide +kernel
theorem dX2_gatherLeaves_64 : decode cX2_gatherLeaves 64 = .ok (.iload_n 3, 1) := by decide +kernel
theorem dX2_gatherLeaves_65 : decode cX2_gatherLeaves 65 = .ok (.iaload, 1) := by decide +kernel
theorem dX2_gatherLeaves_66 : decode cX2_gatherLeaves 66 = .ok (.iadd, 1) := by decide +kernel
theorem dX2_gatherLeaves_67 : decode cX2_gatherLeaves 67 = .ok (.iastore, 1) := by decide +kernel
theorem dX2_gatherLeaves_68 : decode cX2_gatherLeaves 68 = .ok (.iinc 3 1, 3) := by decide +kernel
theorem dX2_gatherLeaves_71 : decode cX2_gatherLeaves 71 = .ok (.goto (-39), 3) := by decide +kernel
theorem dX2_gatherLeaves_74 : decode cX2_gatherLeaves 74 = .ok (.return_, 1) := by decide +kernel
def qX2_gatherLeaves_b68  (post : St → Prop) (K32 : Int32 → Int32 → St → Prop) (x2 : Int32) (x3 : Int32) (u0 : St) : Prop := ∀ x3_5 : Int32, x3_5 = x3 + (1 : Int32) → K32 x2 x3_5 u0
set_option maxRecDepth 100000 in
set_option maxHeartbeats 4000000 in
theorem kX2_gatherLeaves_b68 {C : Cx} {o0 : Nat} {a0 : Nat → Nat} (hC : Fx C cX2_gatherLeaves 4 RX2) (hR0 : xR C = rm 1) {post : St → Prop} (hR : RV C cX2_gatherLeaves 4 (fun u : St => (wX2 o0 a0 (xy C) u [])) (fun u => post u)) {K32 : Int32 → Int32 → St → Prop} (hK32 : ∀ (x2 : Int32) (x3 : Int32) (u0 : St), K32 x2 x3 u0 → G C 0 0 4 (wX2 o0 a0 (xy C) u0 []) 32 [(0, .ref o0), (2, .int x2), (3, .int x3)] []) {x2 : Int32} {x3 : Int32} {u0 : St} (h : qX2_gatherLeaves_b68 post K32 x2 x3 u0) : G C 0 0 4 (wX2 o0 a0 (xy C) u0 []) 68 [(0, .ref o0), (2, .int x2), (3, .int x3)] [] := by
  obtain ⟨x3_5, ex3_5⟩ : ∃ z : Int32, z = x3 + (1 : Int32) := ⟨_, rfl⟩
  have h := h x3_5 ex3_5
  refine g_iinc (pc := 68) (v := x3_5) (lv' := [(3, .int x3_5), (0, .ref o0), (2, .int x2)]) hC 2 dX2_gatherLeaves_68 rfl (by rw [ex3_5]; rfl) (Nat.le_of_ble_eq_true rfl) rfl ?_
  refine g_goto (pc := 71) (tgt := 32) hC dX2_gatherLeaves_71 (by decide) ?_
  refine g_sub (lv' := [(0, .ref o0), (2, .int x2), (3, .int x3_5)]) [1, 2, 0] rfl ?_
  exact hK32 _ _ _ h
def qX2_gatherLeaves_l32  (post : St → Prop) (K32 : Int32 → Int32 → St → Prop) (x2 : Int32) (x3 : Int32) (u0 : St) : Prop := (((gi u0 2) ≤ x3 → post u0) ∧ (¬ (gi u0 2) ≤ x3 → ((¬ ((x2 >>> (x3 &&& 31)) &&& (1 : Int32)) = 0 → qX2_gatherLeaves_b68 post K32 x2 x3 u0) ∧ (((x2 >>> (x3 &&& 31)) &&& (1 : Int32)) = 0 → (vp_in x3 7 ∧ (vp_in (ga u0 18 (x3).toNatClampNeg) 8 ∧ (vp_in x3 7 ∧ (vp_in (ga u0 18 (x3).toNatClampNeg) 8 ∧ ∀ u_8 : St, u_8 = (sw u0 11 (upd (ga u0 11) ((ga u0 18 (x3).toNatClampNeg)).toNatClampNeg ((ga u0 11 ((ga u0 18 (x3).toNatClampNeg)).toNatClampNeg) + (ga u0 19 (x3).toNatClampNeg)))) → qX2_gatherLeaves_b68 post K32 x2 x3 u_8))))))))
set_option maxRecDepth 100000 in
set_option maxHeartbeats 4000000 in
theorem kX2_gatherLeaves_l32 {C : Cx} {o0 : Nat} {a0 : Nat → Nat} (hC : Fx C cX2_gatherLeaves 4 RX2) (hR0 : xR C = rm 1) {post : St → Prop} (hR : RV C cX2_gatherLeaves 4 (fun u : St => (wX2 o0 a0 (xy C) u [])) (fun u => post u))  {K32 : Int32 → Int32 → St → Prop} (hK32 : ∀ (x2 : Int32) (x3 : Int32) (u0 : St), K32 x2 x3 u0 → G C 0 0 4 (wX2 o0 a0 (xy C) u0 []) 32 [(0, .ref o0), (2, .int x2), (3, .int x3)] []) {x2 : Int32} {x3 : Int32} {u0 : St} (h : qX2_gatherLeaves_l32 post K32 x2 x3 u0) : G C 0 0 4 (wX2 o0 a0 (xy C) u0 []) 32 [(0, .ref o0), (2, .int x2), (3, .int x3)] [] := by
  refine g_iload_n (pc := 32) hC 2 dX2_gatherLeaves_32 rfl rfl ?_
  refine g_aload_n (pc := 33) hC 0 dX2_gatherLeaves_33 rfl rfl ?_
  refine getX2_2 (pc := 34) hC (F := fun Z => Z) (X := []) (fun _ => rfl) fl_X2_59 dX2_gatherLeaves_34 ?_
  refine g_icmp_ge (pc := 37) (tgt := 74) hC dX2_gatherLeaves_37 (by decide) (fun c_6 => ?_) (fun c_6 => ?_)
  · have h := h.1 c_6
    exact hR _ _ u0 dX2_gatherLeaves_74 h
  · have h := h.2 c_6
    refine g_iload_n (pc := 40) hC 1 dX2_gatherLeaves_40 rfl rfl ?_
    refine g_iload_n (pc := 41) hC 2 dX2_gatherLeaves_41 rfl rfl ?_
    refine g_ishr (pc := 42) hC dX2_gatherLeaves_42 ?_
    refine g_iconst (pc := 43) (v := 1) hC dX2_gatherLeaves_43 (by decide) ?_
    refine g_iand (pc := 44) hC dX2_gatherLeaves_44 ?_
    refine g_if_ne (pc := 45) (tgt := 68) hC dX2_gatherLeaves_45 (by decide) (fun c_7 => ?_) (fun c_7 => ?_)
    · have h := h.1 c_7
      exact kX2_gatherLeaves_b68 hC hR0 hR hK32 h
    · have h := h.2 c_7
      refine g_aload_n (pc := 48) hC 0 dX2_gatherLeaves_48 rfl rfl ?_
      refine getX2_11 (pc := 49) hC (F := fun Z => Z) (X := []) (fun _ => rfl) fl_X2_25 dX2_gatherLeaves_49 ?_
      refine g_aload_n (pc := 52) hC 0 dX2_gatherLeaves_52 rfl rfl ?_
      refine getX2_18 (pc := 53) hC (F := fun Z => Z) (X := []) (fun _ => rfl) fl_X2_47 dX2_gatherLeaves_53 ?_
      refine g_iload_n (pc := 56) hC 2 dX2_gatherLeaves_56 rfl rfl ?_
      refine aldX2_18 (pc := 57) hC (F := fun Z => Z) (X := []) (fun _ => rfl) h.1 dX2_gatherLeaves_57 ?_
      have h := h.2
      refine g_dup2 (pc := 58) hC dX2_gatherLeaves_58 rfl rfl ?_
      refine aldX2_11 (pc := 59) hC (F := fun Z => Z) (X := []) (fun _ => rfl) h.1 dX2_gatherLeaves_59 ?_
      have h := h.2
      refine g_aload_n (pc := 60) hC 0 dX2_gatherLeaves_60 rfl rfl ?_
      refine getX2_19 (pc := 61) hC (F := fun Z => Z) (X := []) (fun _ => rfl) fl_X2_50 dX2_gatherLeaves_61 ?_
      refine g_iload_n (pc := 64) hC 2 dX2_gatherLeaves_64 rfl rfl ?_
      refine aldX2_19 (pc := 65) hC (F := fun Z => Z) (X := []) (fun _ => rfl) h.1 dX2_gatherLeaves_65 ?_
      have h := h.2
      refine g_iadd (pc := 66) hC dX2_gatherLeaves_66 ?_
      refine astX2_11 (pc := 67) hC (F := fun Z => Z) (X := []) (fun _ => rfl) h.1 dX2_gatherLeaves_67 ?_
      have h := h.2
      refine g_st (w := fun z => (wX2 o0 a0 (xy C) z [])) (u := (sw u0 11 (upd (ga u0 11) ((ga u0 18 (x3).toNatClampNeg)).toNatClampNeg ((ga u0 11 ((ga u0 18 (x3).toNatClampNeg)).toNatClampNeg) + (ga u0 19 (x3).toNatClampNeg))))) (fun u_8 eu_8 => ?_)
      have h := h u_8 eu_8
      exact kX2_gatherLeaves_b68 hC hR0 hR hK32 h
def qX2_gatherLeaves_L32  (post : St → Prop)  : Nat → Int32 → Int32 → St → Prop
  | 0 => fun _ _ _ => False
  | n + 1 => qX2_gatherLeaves_l32 post (qX2_gatherLeaves_L32 post n)
theorem kX2_gatherLeaves_L32 {C : Cx} {o0 : Nat} {a0 : Nat → Nat} (hC : Fx C cX2_gatherLeaves 4 RX2) (hR0 : xR C = rm 1) {post : St → Prop} (hR : RV C cX2_gatherLeaves 4 (fun u : St => (wX2 o0 a0 (xy C) u [])) (fun u => post u))  : ∀ (n : Nat) (x2 : Int32) (x3 : Int32) (u0 : St), qX2_gatherLeaves_L32 post n x2 x3 u0 → G C 0 0 4 (wX2 o0 a0 (xy C) u0 []) 32 [(0, .ref o0), (2, .int x2), (3, .int x3)] [] := by
  intro n
  induction n with
  | zero => intro x2 x3 u0 h; exact h.elim
  | succ n ih => intro x2 x3 u0 h; exact kX2_gatherLeaves_l32 hC hR0 hR  ih h
def qX2_gatherLeaves_b23  (post : St → Prop)  (x1 : Int32) (u0 : St) : Prop := ∀ x2_9 : Int32, x2_9 = (x1 ||| (gi u0 6)) → ∃ n_10 : Nat, qX2_gatherLeaves_L32 post n_10 x2_9 (0 : Int32) u0
set_option maxRecDepth 100000 in
set_option maxHeartbeats 4000000 in
theorem kX2_gatherLeaves_b23 {C : Cx} {o0 : Nat} {a0 : Nat → Nat} (hC : Fx C cX2_gatherLeaves 4 RX2) (hR0 : xR C = rm 1) {post : St → Prop} (hR : RV C cX2_gatherLeaves 4 (fun u : St => (wX2 o0 a0 (xy C) u [])) (fun u => post u))  {x1 : Int32} {u0 : St} (h : qX2_gatherLeaves_b23 post x1 u0) : G C 0 0 4 (wX2 o0 a0 (xy C) u0 []) 23 [(0, .ref o0), (1, .int x1)] [] := by
  refine g_iload_n (pc := 23) hC 1 dX2_gatherLeaves_23 rfl rfl ?_
  refine g_aload_n (pc := 24) hC 0 dX2_gatherLeaves_24 rfl rfl ?_
  refine getX2_6 (pc := 25) hC (F := fun Z => Z) (X := []) (fun _ => rfl) fl_X2_68 dX2_gatherLeaves_25 ?_
  refine g_ior (pc := 28) hC dX2_gatherLeaves_28 ?_
  refine g_topi (fun x2_9 ex2_9 => ?_)
  have h := h x2_9 ex2_9
  refine g_istore_n (pc := 29) (lv' := [(2, .int x2_9), (0, .ref o0), (1, .int x1)]) hC dX2_gatherLeaves_29 rfl (Nat.le_of_ble_eq_true rfl) rfl ?_
  refine g_iconst (pc := 30) (v := 0) hC dX2_gatherLeaves_30 (by decide) ?_
  refine g_istore_n (pc := 31) (lv' := [(3, .int (0 : Int32)), (2, .int x2_9), (0, .ref o0), (1, .int x1)]) hC dX2_gatherLeaves_31 rfl (Nat.le_of_ble_eq_true rfl) rfl ?_
  refine g_sub (lv' := [(0, .ref o0), (2, .int x2_9), (3, .int (0 : Int32))]) [2, 1, 0] rfl ?_
  obtain ⟨n_10, h⟩ := h
  exact kX2_gatherLeaves_L32 hC hR0 hR  n_10 _ _ _ h
def qX2_gatherLeaves_l2  (post : St → Prop) (K2 : Int32 → Int32 → St → Prop) (x1 : Int32) (x2 : Int32) (u0 : St) : Prop := (((gi u0 0) ≤ x2 → qX2_gatherLeaves_b23 post x1 u0) ∧ (¬ (gi u0 0) ≤ x2 → (vp_in x2 8 ∧ ∀ u_12 : St, u_12 = (sw u0 11 (upd (ga u0 11) (x2).toNatClampNeg (0 : Int32))) → ∀ x2_13 : Int32, x2_13 = x2 + (1 : Int32) → K2 x1 x2_13 u_12)))
set_option maxRecDepth 100000 in
set_option maxHeartbeats 4000000 in
theorem kX2_gatherLeaves_l2 {C : Cx} {o0 : Nat} {a0 : Nat → Nat} (hC : Fx C cX2_gatherLeaves 4 RX2) (hR0 : xR C = rm 1) {post : St → Prop} (hR : RV C cX2_gatherLeaves 4 (fun u : St => (wX2 o0 a0 (xy C) u [])) (fun u => post u))  {K2 : Int32 → Int32 → St → Prop} (hK2 : ∀ (x1 : Int32) (x2 : Int32) (u0 : St), K2 x1 x2 u0 → G C 0 0 4 (wX2 o0 a0 (xy C) u0 []) 2 [(0, .ref o0), (1, .int x1), (2, .int x2)] []) {x1 : Int32} {x2 : Int32} {u0 : St} (h : qX2_gatherLeaves_l2 post K2 x1 x2 u0) : G C 0 0 4 (wX2 o0 a0 (xy C) u0 []) 2 [(0, .ref o0), (1, .int x1), (2, .int x2)] [] := by
  refine g_iload_n (pc := 2) hC 2 dX2_gatherLeaves_2 rfl rfl ?_
  refine g_aload_n (pc := 3) hC 0 dX2_gatherLeaves_3 rfl rfl ?_
  refine getX2_0 (pc := 4) hC (F := fun Z => Z) (X := []) (fun _ => rfl) fl_X2_53 dX2_gatherLeaves_4 ?_
  refine g_icmp_ge (pc := 7) (tgt := 23) hC dX2_gatherLeaves_7 (by decide) (fun c_11 => ?_) (fun c_11 => ?_)
  · have h := h.1 c_11
    refine g_sub (lv' := [(0, .ref o0), (1, .int x1)]) [0, 1] rfl ?_
    exact kX2_gatherLeaves_b23 hC hR0 hR  h
  · have h := h.2 c_11
    refine g_aload_n (pc := 10) hC 0 dX2_gatherLeaves_10 rfl rfl ?_
    refine getX2_11 (pc := 11) hC (F := fun Z => Z) (X := []) (fun _ => rfl) fl_X2_25 dX2_gatherLeaves_11 ?_
    refine g_iload_n (pc := 14) hC 2 dX2_gatherLeaves_14 rfl rfl ?_
    refine g_iconst (pc := 15) (v := 0) hC dX2_gatherLeaves_15 (by decide) ?_
    refine astX2_11 (pc := 16) hC (F := fun Z => Z) (X := []) (fun _ => rfl) h.1 dX2_gatherLeaves_16 ?_
    have h := h.2
    refine g_st (w := fun z => (wX2 o0 a0 (xy C) z [])) (u := (sw u0 11 (upd (ga u0 11) (x2).toNatClampNeg (0 : Int32)))) (fun u_12 eu_12 => ?_)
    have h := h u_12 eu_12
    obtain ⟨x2_13, ex2_13⟩ : ∃ z : Int32, z = x2 + (1 : Int32) := ⟨_, rfl⟩
    have h := h x2_13 ex2_13
    refine g_iinc (pc := 17) (v := x2_13) (lv' := [(2, .int x2_13), (0, .ref o0), (1, .int x1)]) hC 2 dX2_gatherLeaves_17 rfl (by rw [ex2_13]; rfl) (Nat.le_of_ble_eq_true rfl) rfl ?_
    refine g_goto (pc := 20) (tgt := 2) hC dX2_gatherLeaves_20 (by decide) ?_
    refine g_sub (lv' := [(0, .ref o0), (1, .int x1), (2, .int x2_13)]) [1, 2, 0] rfl ?_
    exact hK2 _ _ _ h
def qX2_gatherLeaves_L2  (post : St → Prop)  : Nat → Int32 → Int32 → St → Prop
  | 0 => fun _ _ _ => False
  | n + 1 => qX2_gatherLeaves_l2 post (qX2_gatherLeaves_L2 post n)
theorem kX2_gatherLeaves_L2 {C : Cx} {o0 : Nat} {a0 : Nat → Nat} (hC : Fx C cX2_gatherLeaves 4 RX2) (hR0 : xR C = rm 1) {post : St → Prop} (hR : RV C cX2_gatherLeaves 4 (fun u : St => (wX2 o0 a0 (xy C) u [])) (fun u => post u))  : ∀ (n : Nat) (x1 : Int32) (x2 : Int32) (u0 : St), qX2_gatherLeaves_L2 post n x1 x2 u0 → G C 0 0 4 (wX2 o0 a0 (xy C) u0 []) 2 [(0, .ref o0), (1, .int x1), (2, .int x2)] [] := by
  intro n
  induction n with
  | zero => intro x1 x2 u0 h; exact h.elim
  | succ n ih => intro x1 x2 u0 h; exact kX2_gatherLeaves_l2 hC hR0 hR  ih h
def qX2_gatherLeaves (x1 : Int32) (u0 : St) (post : St → Prop) : Prop := ∃ n_14 : Nat, qX2_gatherLeaves_L2 post n_14 x1 (0 : Int32) u0
set_option maxRecDepth 100000 in
set_option maxHeartbeats 4000000 in
theorem kX2_gatherLeaves {C : Cx} {o0 : Nat} {a0 : Nat → Nat} (hC : Fx C cX2_gatherLeaves 4 RX2) (hR0 : xR C = rm 1) {post : St → Prop} (hR : RV C cX2_gatherLeaves 4 (fun u : St => (wX2 o0 a0 (xy C) u [])) (fun u => post u)) {x1 : Int32} {u0 : St} (h : qX2_gatherLeaves x1 u0 post) : G C 0 0 4 (wX2 o0 a0 (xy C) u0 []) 0 [(0, .ref o0), (1, .int x1)] [] := by
  refine g_iconst (pc := 0) (v := 0) hC dX2_gatherLeaves_0 (by decide) ?_
  refine g_istore_n (pc := 1) (lv' := [(2, .int (0 : Int32)), (0, .ref o0), (1, .int x1)]) hC dX2_gatherLeaves_1 rfl (Nat.le_of_ble_eq_true rfl) rfl ?_
  refine g_sub (lv' := [(0, .ref o0), (1, .int x1), (2, .int (0 : Int32))]) [1, 2, 0] rfl ?_
  obtain ⟨n_14, h⟩ := h
  exact kX2_gatherLeaves_L2 hC hR0 hR  n_14 _ _ _ h
theorem ctX2_gatherLeaves {l : Launch} {D : va_G} {cy : Nat → ClassId} {kd : Nat → Nat} {o0 : Nat} {a0 : Nat → Nat} {x1 : Int32} {u0 : St} {post : St → Prop} (h : qX2_gatherLeaves x1 u0 post) : CtV l D cy kd yX2_gatherLeaves cX2_gatherLeaves 4 1  [.ref o0, .int x1] (fun u : St => (wX2 o0 a0 cy u [])) u0 (fun u => post u) := met_v (by decide) (Nat.le_of_ble_eq_true rfl) (fun C e1 e2 e3 e4 e5 hC hR => by subst e1 e2 e3 e4; exact kX2_gatherLeaves hC e5 hR h)
theorem dX2_lack_0 : decode cX2_lack 0 = .ok (.aload_n 0, 1) := by decide +kernel
theorem dX2_lack_1 : decode cX2_lack 1 = .ok (.getfield 19, 3) := by decide +kernel
theorem dX2_lack_4 : decode cX2_lack 4 = .ok (.iload_n 1, 1) := by decide +kernel
theorem dX2_lack_5 : decode cX2_lack 5 = .ok (.iaload, 1) := by decide +kernel
theorem dX2_lack_6 : decode cX2_lack 6 = .ok (.aload_n 0, 1) := by decide +kernel
theorem dX2_lack_7 : decode cX2_lack 7 = .ok (.getfield 15, 3) := by decide +kernel
theorem dX2_lack_10 : decode cX2_lack 10 = .ok (.iload_n 1, 1) := by decide +kernel
theorem dX2_lack_11 : decode cX2_lack 11 = .ok (.iaload, 1) := by decide +kernel
theorem dX2_lack_12 : decode cX2_lack 12 = .ok (.isub, 1) := by decide +kernel
theorem dX2_lack_13 : decode cX2_lack 13 = .ok (.aload_n 0, 1) := by decide +kernel
theorem dX2_lack_14 : decode cX2_lack 14 = .ok (.getfield 25, 3) := by decide +kernel
theorem dX2_lack_17 : decode cX2_lack 17 = .ok (.iload_n 1, 1) := by decide +kernel
theorem dX2_lack_18 : decode cX2_lack 18 = .ok (.iaload, 1) := by decide +kernel
theorem dX2_lack_19 : decode cX2_lack 19 = .ok (.iconst 5, 1) := by decide +kernel
theorem dX2_lack_20 : decode cX2_lack 20 = .ok (.idiv, 1) := by decide +kernel
theorem dX2_lack_21 : decode cX2_lack 21 = .ok (.isub, 1) := by decide +kernel
theorem dX2_lack_22 : decode cX2_lack 22 = .ok (.ireturn, 1) := by decide +kernel
def qX2_lack (x1 : Int32) (u0 : St) (post : Int32 → St → Prop) : Prop := (vp_in x1 8 ∧ (vp_in x1 8 ∧ (vp_in x1 8 ∧ post (((ga u0 9 (x1).toNatClampNeg) - (ga u0 8 (x1).toNatClampNeg)) - ((ga u0 11 (x1).toNatClampNeg) / (5 : Int32))) u0)))
set_option maxRecDepth 100000 in
set_option maxHeartbeats 4000000 in
theorem kX2_lack {C : Cx} {o0 : Nat} {a0 : Nat → Nat} (hC : Fx C cX2_lack 2 RX2) (hR0 : xR C = rm 1) {post : Int32 → St → Prop} (hR : RI C cX2_lack 2 (fun u : St => (wX2 o0 a0 (xy C) u [])) (fun r u => post r u)) {x1 : Int32} {u0 : St} (h : qX2_lack x1 u0 post) : G C 0 0 2 (wX2 o0 a0 (xy C) u0 []) 0 [(0, .ref o0), (1, .int x1)] [] := by
  refine g_aload_n (pc := 0) hC 0 dX2_lack_0 rfl rfl ?_
  refine getX2_9 (pc := 1) hC (F := fun Z => Z) (X := []) (fun _ => rfl) fl_X2_19 dX2_lack_1 ?_
  refine g_iload_n (pc := 4) hC 1 dX2_lack_4 rfl rfl ?_
  refine aldX2_9 (pc := 5) hC (F := fun Z => Z) (X := []) (fun _ => rfl) h.1 dX2_lack_5 ?_
  have h := h.2
  refine g_aload_n (pc := 6) hC 0 dX2_lack_6 rfl rfl ?_
  refine getX2_8 (pc := 7) hC (F := fun Z => Z) (X := []) (fun _ => rfl) fl_X2_15 dX2_lack_7 ?_
  refine g_iload_n (pc := 10) hC 1 dX2_lack_10 rfl rfl ?_
  refine aldX2_8 (pc := 11) hC (F := fun Z => Z) (X := []) (fun _ => rfl) h.1 dX2_lack_11 ?_
  have h := h.2
  refine g_isub (pc := 12) hC dX2_lack_12 ?_
  refine g_aload_n (pc := 13) hC 0 dX2_lack_13 rfl rfl ?_
  refine getX2_11 (pc := 14) hC (F := fun Z => Z) (X := []) (fun _ => rfl) fl_X2_25 dX2_lack_14 ?_
  refine g_iload_n (pc := 17) hC 1 dX2_lack_17 rfl rfl ?_
  refine aldX2_11 (pc := 18) hC (F := fun Z => Z) (X := []) (fun _ => rfl) h.1 dX2_lack_18 ?_
  have h := h.2
  refine g_iconst (pc := 19) (v := 5) hC dX2_lack_19 (by decide) ?_
  refine g_idiv (pc := 20) hC dX2_lack_20 (by decide) ?_
  refine g_isub (pc := 21) hC dX2_lack_21 ?_
  exact hR _ _ _ u0 dX2_lack_22 h
theorem ctX2_lack {l : Launch} {D : va_G} {cy : Nat → ClassId} {kd : Nat → Nat} {o0 : Nat} {a0 : Nat → Nat} {x1 : Int32} {u0 : St} {post : Int32 → St → Prop} (h : qX2_lack x1 u0 post) : CtI l D cy kd yX2_lack cX2_lack 2 1 .int [.ref o0, .int x1] (fun u : St => (wX2 o0 a0 cy u [])) u0 (fun r u => post r u) := met_i (by decide) (Nat.le_of_ble_eq_true rfl) (fun C e1 e2 e3 e4 e5 hC hR => by subst e1 e2 e3 e4; exact kX2_lack hC e5 hR h)
theorem dX2_standing_0 : decode cX2_standing 0 = .ok (.aload_n 0, 1) := by decide +kernel
theorem dX2_standing_1 : decode cX2_standing 1 = .ok (.iload_n 1, 1) := by decide +kernel
theorem dX2_standing_2 : decode cX2_standing 2 = .ok (.invokevirtual 88, 3) := by decide +kernel
theorem dX2_standing_5 : decode cX2_standing 5 = .ok (.aload_n 0, 1) := by decide +kernel
theorem dX2_standing_6 : decode cX2_standing 6 = .ok (.getfield 65, 3) := by decide +kernel
theorem dX2_standing_9 : decode cX2_standing 9 = .ok (.iload_n 2, 1) := by decide +kernel
theorem dX2_standing_10 : decode cX2_standing 10 = .ok (.ior, 1) := by decide +kernel
theorem dX2_standing_11 : decode cX2_standing 11 = .ok (.istore_n 3, 1) := by decide +kernel
theorem dX2_standing_12 : decode cX2_standing 12 = .ok (.iconst 0, 1) := by decide +kernel
theorem dX2_standing_13 : decode cX2_standing 13 = .ok (.istore 4, 2) := by decide +kernel
theorem dX2_standing_15 : decode cX2_standing 15 = .ok (.iconst 0, 1) := by decide +kernel
theorem dX2_standing_16 : decode cX2_standing 16 = .ok (.istore 5, 2) := by decide +kernel
theorem dX2_standing_18 : decode cX2_standing 18 = .ok (.iload 5, 2) := by decide +kernel
theorem dX2_standing_20 : decode cX2_standing 20 = .ok (.aload_n 0, 1) := by decide +kernel
theorem dX2_standing_21 : decode cX2_standing 21 = .ok (.getfield 53, 3) := by decide +kernel
theorem dX2_standing_24 : decode cX2_standing 24 = .ok (.if_icmp .ge 71, 3) := by decide +kernel
theorem dX2_standing_27 : decode cX2_standing 27 = .ok (.aload_n 0, 1) := by decide +kernel
theorem dX2_standing_28 : decode cX2_standing 28 = .ok (.getfield 22, 3) := by decide +kernel
theorem dX2_standing_31 : decode cX2_standing 31 = .ok (.iload 5, 2) := by decide +kernel
theorem dX2_standing_33 : decode cX2_standing 33 = .ok (.iaload, 1) := by decide +kernel
theorem dX2_standing_34 : decode cX2_standing 34 = .ok (.ifCond .eq 16, 3) := by decide +kernel
theorem dX2_standing_37 : decode cX2_standing 37 = .ok (.aload_n 0, 1) := by decide +kernel
theorem dX2_standing_38 : decode cX2_standing 38 = .ok (.getfield 22, 3) := by decide +kernel
theorem dX2_standing_41 : decode cX2_standing 41 = .ok (.iload 5, 2) := by decide +kernel
theorem dX2_standing_43 : decode cX2_standing 43 = .ok (.iaload, 1) := by decide +kernel
theorem dX2_standing_44 : decode cX2_standing 44 = .ok (.iload 4, 2) := by decide +kernel
theorem dX2_standing_46 : decode cX2_standing 46 = .ok (.iand, 1) := by decide +kernel
theorem dX2_standing_47 : decode cX2_standing 47 = .ok (.ifCond .eq 7, 3) := by decide +kernel
theorem dX2_standing_50 : decode cX2_standing 50 = .ok (.iconst 1, 1) := by decide +kernel
theorem dX2_standing_51 : decode cX2_standing 51 = .ok (.goto 4, 3) := by decide +kernel
theorem dX2_standing_54 : decode cX2_standing 54 = .ok (.iconst 0, 1) := by decide +kernel
theorem dX2_standing_55 : decode cX2_standing 55 = .ok (.istore 6, 2) := by decide +kernel
theorem dX2_standing_57 : decode cX2_standing 57 = .ok (.iload 6, 2) := by decide +kernel
theorem dX2_standing_59 : decode cX2_standing 59 = .ok (.ifCond .eq 30, 3) := by decide +kernel
theorem dX2_standing_62 : decode cX2_standing 62 = .ok (.iload_n 3, 1) := by decide +kernel
theorem dX2_standing_63 : decode cX2_standing 63 = .ok (.iload 5, 2) := by decide +kernel
theorem dX2_standing_65 : decode cX2_standing 65 = .ok (.invokestatic 84, 3) := by decide +kernel
theorem dX2_standing_68 : decode cX2_standing 68 = .ok (.ifCond .ne 21, 3) := by decide +kernel
theorem dX2_standing_71 : decode cX2_standing 71 = .ok (.aload_n 0, 1) := by decide +kernel
theorem dX2_standing_72 : decode cX2_standing 72 = .ok (.iload 5, 2) := by decide +kernel
theorem dX2_standing_74 : decode cX2_standing 74 = .ok (.invokevirtual 92, 3) := by decide +kernel
theorem dX2_standing_77 : decode cX2_standing 77 = .ok (.ifCond .gt 12, 3) := by decide +kernel
theorem dX2_standing_80 : decode cX2_standing 80 = .ok (.iload 4, 2) := by decide +kernel
theorem dX2_standing_82 : decode cX2_standing 82 = .ok (.iconst 1, 1) := by decide +kernel
theorem dX2_standing_83 : decode cX2_standing 83 = .ok (.iload 5, 2) := by decide +kernel
theorem dX2_standing_85 : decode cX2_standing 85 = .ok (.ishl, 1) := by decide +kernel
theorem dX2_standing_86 : decode cX2_standing 86 = .ok (.ior, 1) := by decide +kernel
theorem dX2_standing_87 : decode cX2_standing 87 = .ok (.istore 4, 2) := by decide +kernel
theorem dX2_standing_89 : decode cX2_standing 89 = .ok (.iinc 5 1, 3) := by decide +kernel
theorem dX2_standing_92 : decode cX2_standing 92 = .ok (.goto (-74), 3) := by decide +kernel
theorem dX2_standing_95 : decode cX2_standing 95 = .ok (.iload 4, 2) := by decide +kernel
theorem dX2_standing_97 : decode cX2_standing 97 = .ok (.ireturn, 1) := by decide +kernel
def qX2_standing_b89  (post : Int32 → St → Prop) (K18 : Int32 → Int32 → Int32 → St → Prop) (x3 : Int32) (x4 : Int32) (x5 : Int32) (u0 : St) : Prop := ∀ x5_9 : Int32, x5_9 = x5 + (1 : Int32) → K18 x3 x4 x5_9 u0
set_option maxRecDepth 100000 in
set_option maxHeartbeats 4000000 in
theorem kX2_standing_b89 {C : Cx} {o0 : Nat} {a0 : Nat → Nat} (hC : Fx C cX2_standing 7 RX2) (hR0 : xR C = rm 2) {post : Int32 → St → Prop} (hR : RI C cX2_standing 7 (fun u : St => (wX2 o0 a0 (xy C) u [])) (fun r u => post r u)) {K18 : Int32 → Int32 → Int32 → St → Prop} (hK18 : ∀ (x3 : Int32) (x4 : Int32) (x5 : Int32) (u0 : St), K18 x3 x4 x5 u0 → G C 0 0 7 (wX2 o0 a0 (xy C) u0 []) 18 [(0, .ref o0), (3, .int x3), (4, .int x4), (5, .int x5)] []) {x3 : Int32} {x4 : Int32} {x5 : Int32} {u0 : St} (h : qX2_standing_b89 post K18 x3 x4 x5 u0) : G C 0 0 7 (wX2 o0 a0 (xy C) u0 []) 89 [(0, .ref o0), (3, .int x3), (4, .int x4), (5, .int x5)] [] := by
  obtain ⟨x5_9, ex5_9⟩ : ∃ z : Int32, z = x5 + (1 : Int32) := ⟨_, rfl⟩
  have h := h x5_9 ex5_9
  refine g_iinc (pc := 89) (v := x5_9) (lv' := [(5, .int x5_9), (0, .ref o0), (3, .int x3), (4, .int x4)]) hC 3 dX2_standing_89 rfl (by rw [ex5_9]; rfl) (Nat.le_of_ble_eq_true rfl) rfl ?_
  refine g_goto (pc := 92) (tgt := 18) hC dX2_standing_92 (by decide) ?_
  refine g_sub (lv' := [(0, .ref o0), (3, .int x3), (4, .int x4), (5, .int x5_9)]) [1, 2, 3, 0] rfl ?_
  exact hK18 _ _ _ _ h
def qX2_standing_b55  (post : Int32 → St → Prop) (K18 : Int32 → Int32 → Int32 → St → Prop) (x3 : Int32) (x4 : Int32) (x5 : Int32) (s0 : Int32) (u0 : St) : Prop := ((s0 = 0 → qX2_standing_b89 post K18 x3 x4 x5 u0) ∧ (¬ s0 = 0 → qX11_has x3 x5 (fun r_11 => ((¬ r_11 = 0 → qX2_standing_b89 post K18 x3 x4 x5 u0) ∧ (r_11 = 0 → qX2_lack x5 u0 (fun r_15 u_14 => ((0 < r_15 → qX2_standing_b89 post K18 x3 x4 x5 u_14) ∧ (¬ 0 < r_15 → ∀ x4_18 : Int32, x4_18 = (x4 ||| ((1 : Int32) <<< (x5 &&& 31))) → qX2_standing_b89 post K18 x3 x4_18 x5 u_14))))))))
set_option maxRecDepth 100000 in
set_option maxHeartbeats 4000000 in
theorem kX2_standing_b55 {C : Cx} {o0 : Nat} {a0 : Nat → Nat} (hC : Fx C cX2_standing 7 RX2) (hR0 : xR C = rm 2) {post : Int32 → St → Prop} (hR : RI C cX2_standing 7 (fun u : St => (wX2 o0 a0 (xy C) u [])) (fun r u => post r u)) {K18 : Int32 → Int32 → Int32 → St → Prop} (hK18 : ∀ (x3 : Int32) (x4 : Int32) (x5 : Int32) (u0 : St), K18 x3 x4 x5 u0 → G C 0 0 7 (wX2 o0 a0 (xy C) u0 []) 18 [(0, .ref o0), (3, .int x3), (4, .int x4), (5, .int x5)] []) {x3 : Int32} {x4 : Int32} {x5 : Int32} {s0 : Int32} {u0 : St} (h : qX2_standing_b55 post K18 x3 x4 x5 s0 u0) : G C 0 0 7 (wX2 o0 a0 (xy C) u0 []) 55 [(0, .ref o0), (3, .int x3), (4, .int x4), (5, .int x5)] [.int s0] := by
  refine g_istore (pc := 55) (lv' := [(6, .int s0), (0, .ref o0), (3, .int x3), (4, .int x4), (5, .int x5)]) hC dX2_standing_55 (Nat.le_of_ble_eq_true rfl) rfl ?_
  refine g_iload (pc := 57) hC 0 dX2_standing_57 rfl ?_
  refine g_if_eq (pc := 59) (tgt := 89) hC dX2_standing_59 (by decide) (fun c_10 => ?_) (fun c_10 => ?_)
  · have h := h.1 c_10
    refine g_sub (lv' := [(0, .ref o0), (3, .int x3), (4, .int x4), (5, .int x5)]) [1, 2, 3, 4] rfl ?_
    exact kX2_standing_b89 hC hR0 hR hK18 h
  · have h := h.2 c_10
    refine g_iload_n (pc := 62) hC 2 dX2_standing_62 rfl rfl ?_
    refine g_iload (pc := 63) hC 4 dX2_standing_63 rfl ?_
    refine g_callSN_i (pc := 65) (wd := fun (_ : Unit) Y => Y) (F := fun Z => Z) (X := []) (As := [.int x3, .int x5]) (rest := []) (u := ()) hC (fun _ _ => rfl) (fun _ => rfl) (ctX11_has h) wvX11_has nl_X2_84 rfl (rmok hR0 rfl) ⟨Nat.zero_le _, Nat.zero_le _⟩ rfl (Nat.le_of_ble_eq_true rfl) dX2_standing_65 (fun r_11 u_12 h => ?_)
    refine g_if_ne (pc := 68) (tgt := 89) hC dX2_standing_68 (by decide) (fun c_13 => ?_) (fun c_13 => ?_)
    · have h := h.1 c_13
      refine g_sub (lv' := [(0, .ref o0), (3, .int x3), (4, .int x4), (5, .int x5)]) [1, 2, 3, 4] rfl ?_
      exact kX2_standing_b89 hC hR0 hR hK18 h
    · have h := h.2 c_13
      refine g_aload_n (pc := 71) hC 1 dX2_standing_71 rfl rfl ?_
      refine g_iload (pc := 72) hC 4 dX2_standing_72 rfl ?_
      refine g_callV_i (pc := 74) (wd := fun (u : St) Y => (wX2 o0 a0 (xy C) u Y)) (F := fun Z => Z) (X := []) (As := [.int x5]) (rest := []) (u := u0) hC (fun _ _ => rfl) (fun _ => rfl) (ctX2_lack h) wvX2_lack ml_X2_92 (ci := 1) (q0 := 0) rfl rfl rfl rfl (rmok hR0 rfl) ⟨Nat.zero_le _, Nat.zero_le _⟩ rfl (Nat.le_of_ble_eq_true rfl) dX2_standing_74 (fun r_15 u_14 h => ?_)
      refine g_if_gt (pc := 77) (tgt := 89) hC dX2_standing_77 (by decide) (fun c_17 => ?_) (fun c_17 => ?_)
      · have h := h.1 c_17
        refine g_sub (lv' := [(0, .ref o0), (3, .int x3), (4, .int x4), (5, .int x5)]) [1, 2, 3, 4] rfl ?_
        exact kX2_standing_b89 hC hR0 hR hK18 h
      · have h := h.2 c_17
        refine g_iload (pc := 80) hC 3 dX2_standing_80 rfl ?_
        refine g_iconst (pc := 82) (v := 1) hC dX2_standing_82 (by decide) ?_
        refine g_iload (pc := 83) hC 4 dX2_standing_83 rfl ?_
        refine g_ishl (pc := 85) hC dX2_standing_85 ?_
        refine g_ior (pc := 86) hC dX2_standing_86 ?_
        refine g_topi (fun x4_18 ex4_18 => ?_)
        have h := h x4_18 ex4_18
        refine g_istore (pc := 87) (lv' := [(4, .int x4_18), (6, .int s0), (0, .ref o0), (3, .int x3), (5, .int x5)]) hC dX2_standing_87 (Nat.le_of_ble_eq_true rfl) rfl ?_
        refine g_sub (lv' := [(0, .ref o0), (3, .int x3), (4, .int x4_18), (5, .int x5)]) [2, 3, 0, 4] rfl ?_
        exact kX2_standing_b89 hC hR0 hR hK18 h
def qX2_standing_b50  (post : Int32 → St → Prop) (K18 : Int32 → Int32 → Int32 → St → Prop) (x3 : Int32) (x4 : Int32) (x5 : Int32) (u0 : St) : Prop := qX2_standing_b55 post K18 x3 x4 x5 (1 : Int32) u0
set_option maxRecDepth 100000 in
set_option maxHeartbeats 4000000 in
theorem kX2_standing_b50 {C : Cx} {o0 : Nat} {a0 : Nat → Nat} (hC : Fx C cX2_standing 7 RX2) (hR0 : xR C = rm 2) {post : Int32 → St → Prop} (hR : RI C cX2_standing 7 (fun u : St => (wX2 o0 a0 (xy C) u [])) (fun r u => post r u)) {K18 : Int32 → Int32 → Int32 → St → Prop} (hK18 : ∀ (x3 : Int32) (x4 : Int32) (x5 : Int32) (u0 : St), K18 x3 x4 x5 u0 → G C 0 0 7 (wX2 o0 a0 (xy C) u0 []) 18 [(0, .ref o0), (3, .int x3), (4, .int x4), (5, .int x5)] []) {x3 : Int32} {x4 : Int32} {x5 : Int32} {u0 : St} (h : qX2_standing_b50 post K18 x3 x4 x5 u0) : G C 0 0 7 (wX2 o0 a0 (xy C) u0 []) 50 [(0, .ref o0), (3, .int x3), (4, .int x4), (5, .int x5)] [] := by
  refine g_iconst (pc := 50) (v := 1) hC dX2_standing_50 (by decide) ?_
  refine g_goto (pc := 51) (tgt := 55) hC dX2_standing_51 (by decide) ?_
  exact kX2_standing_b55 hC hR0 hR hK18 h
def qX2_standing_l18  (post : Int32 → St → Prop) (K18 : Int32 → Int32 → Int32 → St → Prop) (x3 : Int32) (x4 : Int32) (x5 : Int32) (u0 : St) : Prop := (((gi u0 0) ≤ x5 → post x4 u0) ∧ (¬ (gi u0 0) ≤ x5 → (vp_in x5 8 ∧ (((ga u0 10 (x5).toNatClampNeg) = 0 → qX2_standing_b50 post K18 x3 x4 x5 u0) ∧ (¬ (ga u0 10 (x5).toNatClampNeg) = 0 → (vp_in x5 8 ∧ ((((ga u0 10 (x5).toNatClampNeg) &&& x4) = 0 → qX2_standing_b55 post K18 x3 x4 x5 (0 : Int32) u0) ∧ (¬ ((ga u0 10 (x5).toNatClampNeg) &&& x4) = 0 → qX2_standing_b50 post K18 x3 x4 x5 u0))))))))
set_option maxRecDepth 100000 in
set_option maxHeartbeats 4000000 in
theorem kX2_standing_l18 {C : Cx} {o0 : Nat} {a0 : Nat → Nat} (hC : Fx C cX2_standing 7 RX2) (hR0 : xR C = rm 2) {post : Int32 → St → Prop} (hR : RI C cX2_standing 7 (fun u : St => (wX2 o0 a0 (xy C) u [])) (fun r u => post r u))  {K18 : Int32 → Int32 → Int32 → St → Prop} (hK18 : ∀ (x3 : Int32) (x4 : Int32) (x5 : Int32) (u0 : St), K18 x3 x4 x5 u0 → G C 0 0 7 (wX2 o0 a0 (xy C) u0 []) 18 [(0, .ref o0), (3, .int x3), (4, .int x4), (5, .int x5)] []) {x3 : Int32} {x4 : Int32} {x5 : Int32} {u0 : St} (h : qX2_standing_l18 post K18 x3 x4 x5 u0) : G C 0 0 7 (wX2 o0 a0 (xy C) u0 []) 18 [(0, .ref o0), (3, .int x3), (4, .int x4), (5, .int x5)] [] := by
  refine g_iload (pc := 18) hC 3 dX2_standing_18 rfl ?_
  refine g_aload_n (pc := 20) hC 0 dX2_standing_20 rfl rfl ?_
  refine getX2_0 (pc := 21) hC (F := fun Z => Z) (X := []) (fun _ => rfl) fl_X2_53 dX2_standing_21 ?_
  refine g_icmp_ge (pc := 24) (tgt := 95) hC dX2_standing_24 (by decide) (fun c_19 => ?_) (fun c_19 => ?_)
  · have h := h.1 c_19
    refine g_iload (pc := 95) hC 2 dX2_standing_95 rfl ?_
    exact hR _ _ _ u0 dX2_standing_97 h
  · have h := h.2 c_19
    refine g_aload_n (pc := 27) hC 0 dX2_standing_27 rfl rfl ?_
    refine getX2_10 (pc := 28) hC (F := fun Z => Z) (X := []) (fun _ => rfl) fl_X2_22 dX2_standing_28 ?_
    refine g_iload (pc := 31) hC 3 dX2_standing_31 rfl ?_
    refine aldX2_10 (pc := 33) hC (F := fun Z => Z) (X := []) (fun _ => rfl) h.1 dX2_standing_33 ?_
    have h := h.2
    refine g_if_eq (pc := 34) (tgt := 50) hC dX2_standing_34 (by decide) (fun c_20 => ?_) (fun c_20 => ?_)
    · have h := h.1 c_20
      exact kX2_standing_b50 hC hR0 hR hK18 h
    · have h := h.2 c_20
      refine g_aload_n (pc := 37) hC 0 dX2_standing_37 rfl rfl ?_
      refine getX2_10 (pc := 38) hC (F := fun Z => Z) (X := []) (fun _ => rfl) fl_X2_22 dX2_standing_38 ?_
      refine g_iload (pc := 41) hC 3 dX2_standing_41 rfl ?_
      refine aldX2_10 (pc := 43) hC (F := fun Z => Z) (X := []) (fun _ => rfl) h.1 dX2_standing_43 ?_
      have h := h.2
      refine g_iload (pc := 44) hC 2 dX2_standing_44 rfl ?_
      refine g_iand (pc := 46) hC dX2_standing_46 ?_
      refine g_if_eq (pc := 47) (tgt := 54) hC dX2_standing_47 (by decide) (fun c_21 => ?_) (fun c_21 => ?_)
      · have h := h.1 c_21
        refine g_iconst (pc := 54) (v := 0) hC dX2_standing_54 (by decide) ?_
        exact kX2_standing_b55 hC hR0 hR hK18 h
      · have h := h.2 c_21
        exact kX2_standing_b50 hC hR0 hR hK18 h
def qX2_standing_L18  (post : Int32 → St → Prop)  : Nat → Int32 → Int32 → Int32 → St → Prop
  | 0 => fun _ _ _ _ => False
  | n + 1 => qX2_standing_l18 post (qX2_standing_L18 post n)
theorem kX2_standing_L18 {C : Cx} {o0 : Nat} {a0 : Nat → Nat} (hC : Fx C cX2_standing 7 RX2) (hR0 : xR C = rm 2) {post : Int32 → St → Prop} (hR : RI C cX2_standing 7 (fun u : St => (wX2 o0 a0 (xy C) u [])) (fun r u => post r u))  : ∀ (n : Nat) (x3 : Int32) (x4 : Int32) (x5 : Int32) (u0 : St), qX2_standing_L18 post n x3 x4 x5 u0 → G C 0 0 7 (wX2 o0 a0 (xy C) u0 []) 18 [(0, .ref o0), (3, .int x3), (4, .int x4), (5, .int x5)] [] := by
  intro n
  induction n with
  | zero => intro x3 x4 x5 u0 h; exact h.elim
  | succ n ih => intro x3 x4 x5 u0 h; exact kX2_standing_l18 hC hR0 hR  ih h
def qX2_standing (x1 : Int32) (x2 : Int32) (u0 : St) (post : Int32 → St → Prop) : Prop := qX2_gatherLeaves x1 u0 (fun u_22 => ∀ x3_24 : Int32, x3_24 = ((gi u_22 5) ||| x2) → ∃ n_25 : Nat, qX2_standing_L18 post n_25 x3_24 (0 : Int32) (0 : Int32) u_22)
set_option maxRecDepth 100000 in
set_option maxHeartbeats 4000000 in
theorem kX2_standing {C : Cx} {o0 : Nat} {a0 : Nat → Nat} (hC : Fx C cX2_standing 7 RX2) (hR0 : xR C = rm 2) {post : Int32 → St → Prop} (hR : RI C cX2_standing 7 (fun u : St => (wX2 o0 a0 (xy C) u [])) (fun r u => post r u)) {x1 : Int32} {x2 : Int32} {u0 : St} (h : qX2_standing x1 x2 u0 post) : G C 0 0 7 (wX2 o0 a0 (xy C) u0 []) 0 [(0, .ref o0), (1, .int x1), (2, .int x2)] [] := by
  refine g_aload_n (pc := 0) hC 0 dX2_standing_0 rfl rfl ?_
  refine g_iload_n (pc := 1) hC 1 dX2_standing_1 rfl rfl ?_
  refine g_callV_v (pc := 2) (wd := fun (u : St) Y => (wX2 o0 a0 (xy C) u Y)) (F := fun Z => Z) (X := []) (As := [.int x1]) (rest := []) (u := u0) hC (fun _ _ => rfl) (fun _ => rfl) (ctX2_gatherLeaves h) wvX2_gatherLeaves ml_X2_88 (ci := 1) (q0 := 0) rfl rfl rfl rfl (rmok hR0 rfl) ⟨Nat.zero_le _, Nat.zero_le _⟩ rfl (Nat.le_of_ble_eq_true rfl) dX2_standing_2 (fun u_22 h => ?_)
  refine g_aload_n (pc := 5) hC 0 dX2_standing_5 rfl rfl ?_
  refine getX2_5 (pc := 6) hC (F := fun Z => Z) (X := []) (fun _ => rfl) fl_X2_65 dX2_standing_6 ?_
  refine g_iload_n (pc := 9) hC 2 dX2_standing_9 rfl rfl ?_
  refine g_ior (pc := 10) hC dX2_standing_10 ?_
  refine g_topi (fun x3_24 ex3_24 => ?_)
  have h := h x3_24 ex3_24
  refine g_istore_n (pc := 11) (lv' := [(3, .int x3_24), (0, .ref o0), (1, .int x1), (2, .int x2)]) hC dX2_standing_11 rfl (Nat.le_of_ble_eq_true rfl) rfl ?_
  refine g_iconst (pc := 12) (v := 0) hC dX2_standing_12 (by decide) ?_
  refine g_istore (pc := 13) (lv' := [(4, .int (0 : Int32)), (3, .int x3_24), (0, .ref o0), (1, .int x1), (2, .int x2)]) hC dX2_standing_13 (Nat.le_of_ble_eq_true rfl) rfl ?_
  refine g_iconst (pc := 15) (v := 0) hC dX2_standing_15 (by decide) ?_
  refine g_istore (pc := 16) (lv' := [(5, .int (0 : Int32)), (4, .int (0 : Int32)), (3, .int x3_24), (0, .ref o0), (1, .int x1), (2, .int x2)]) hC dX2_standing_16 (Nat.le_of_ble_eq_true rfl) rfl ?_
  refine g_sub (lv' := [(0, .ref o0), (3, .int x3_24), (4, .int (0 : Int32)), (5, .int (0 : Int32))]) [3, 2, 1, 0] rfl ?_
  obtain ⟨n_25, h⟩ := h
  exact kX2_standing_L18 hC hR0 hR  n_25 _ _ _ _ h
theorem ctX2_standing {l : Launch} {D : va_G} {cy : Nat → ClassId} {kd : Nat → Nat} {o0 : Nat} {a0 : Nat → Nat} {x1 : Int32} {x2 : Int32} {u0 : St} {post : Int32 → St → Prop} (h : qX2_standing x1 x2 u0 post) : CtI l D cy kd yX2_standing cX2_standing 7 2 .int [.ref o0, .int x1, .int x2] (fun u : St => (wX2 o0 a0 cy u [])) u0 (fun r u => post r u) := met_i (by decide) (Nat.le_of_ble_eq_true rfl) (fun C e1 e2 e3 e4 e5 hC hR => by subst e1 e2 e3 e4; exact kX2_standing hC e5 hR h)
theorem dX2_gripAt_0 : decode cX2_gripAt 0 = .ok (.aload_n 0, 1) := by decide +kernel
theorem dX2_gripAt_1 : decode cX2_gripAt 1 = .ok (.iconst 0, 1) := by decide +kernel
theorem dX2_gripAt_2 : decode cX2_gripAt 2 = .ok (.invokevirtual 88, 3) := by decide +kernel
theorem dX2_gripAt_5 : decode cX2_gripAt 5 = .ok (.aload_n 0, 1) := by decide +kernel
theorem dX2_gripAt_6 : decode cX2_gripAt 6 = .ok (.getfield 25, 3) := by decide +kernel
theorem dX2_gripAt_9 : decode cX2_gripAt 9 = .ok (.iload_n 1, 1) := by decide +kernel
theorem dX2_gripAt_10 : decode cX2_gripAt 10 = .ok (.iaload, 1) := by decide +kernel
theorem dX2_gripAt_11 : decode cX2_gripAt 11 = .ok (.iconst 5, 1) := by decide +kernel
theorem dX2_gripAt_12 : decode cX2_gripAt 12 = .ok (.idiv, 1) := by decide +kernel
theorem dX2_gripAt_13 : decode cX2_gripAt 13 = .ok (.ireturn, 1) := by decide +kernel
def qX2_gripAt (x1 : Int32) (u0 : St) (post : Int32 → St → Prop) : Prop := qX2_gatherLeaves (0 : Int32) u0 (fun u_3 => (vp_in x1 8 ∧ post ((ga u_3 11 (x1).toNatClampNeg) / (5 : Int32)) u_3))
set_option maxRecDepth 100000 in
set_option maxHeartbeats 4000000 in
theorem kX2_gripAt {C : Cx} {o0 : Nat} {a0 : Nat → Nat} (hC : Fx C cX2_gripAt 2 RX2) (hR0 : xR C = rm 2) {post : Int32 → St → Prop} (hR : RI C cX2_gripAt 2 (fun u : St => (wX2 o0 a0 (xy C) u [])) (fun r u => post r u)) {x1 : Int32} {u0 : St} (h : qX2_gripAt x1 u0 post) : G C 0 0 2 (wX2 o0 a0 (xy C) u0 []) 0 [(0, .ref o0), (1, .int x1)] [] := by
  refine g_aload_n (pc := 0) hC 0 dX2_gripAt_0 rfl rfl ?_
  refine g_iconst (pc := 1) (v := 0) hC dX2_gripAt_1 (by decide) ?_
  refine g_callV_v (pc := 2) (wd := fun (u : St) Y => (wX2 o0 a0 (xy C) u Y)) (F := fun Z => Z) (X := []) (As := [.int (0 : Int32)]) (rest := []) (u := u0) hC (fun _ _ => rfl) (fun _ => rfl) (ctX2_gatherLeaves h) wvX2_gatherLeaves ml_X2_88 (ci := 1) (q0 := 0) rfl rfl rfl rfl (rmok hR0 rfl) ⟨Nat.zero_le _, Nat.zero_le _⟩ rfl (Nat.le_of_ble_eq_true rfl) dX2_gripAt_2 (fun u_3 h => ?_)
  refine g_aload_n (pc := 5) hC 0 dX2_gripAt_5 rfl rfl ?_
  refine getX2_11 (pc := 6) hC (F := fun Z => Z) (X := []) (fun _ => rfl) fl_X2_25 dX2_gripAt_6 ?_
  refine g_iload_n (pc := 9) hC 1 dX2_gripAt_9 rfl rfl ?_
  refine aldX2_11 (pc := 10) hC (F := fun Z => Z) (X := []) (fun _ => rfl) h.1 dX2_gripAt_10 ?_
  have h := h.2
  refine g_iconst (pc := 11) (v := 5) hC dX2_gripAt_11 (by decide) ?_
  refine g_idiv (pc := 12) hC dX2_gripAt_12 (by decide) ?_
  exact hR _ _ _ u_3 dX2_gripAt_13 h
theorem ctX2_gripAt {l : Launch} {D : va_G} {cy : Nat → ClassId} {kd : Nat → Nat} {o0 : Nat} {a0 : Nat → Nat} {x1 : Int32} {u0 : St} {post : Int32 → St → Prop} (h : qX2_gripAt x1 u0 post) : CtI l D cy kd yX2_gripAt cX2_gripAt 2 2 .int [.ref o0, .int x1] (fun u : St => (wX2 o0 a0 cy u [])) u0 (fun r u => post r u) := met_i (by decide) (Nat.le_of_ble_eq_true rfl) (fun C e1 e2 e3 e4 e5 hC hR => by subst e1 e2 e3 e4; exact kX2_gripAt hC e5 hR h)
theorem dX2_settle_0 : decode cX2_settle 0 = .ok (.aload_n 0, 1) := by decide +kernel
theorem dX2_settle_1 : decode cX2_settle 1 = .ok (.iconst 1, 1) := by decide +kernel
theorem dX2_settle_2 : decode cX2_settle 2 = .ok (.aload_n 0, 1) := by decide +kernel
theorem dX2_settle_3 : decode cX2_settle 3 = .ok (.getfield 53, 3) := by decide +kernel
theorem dX2_settle_6 : decode cX2_settle 6 = .ok (.ishl, 1) := by decide +kernel
theorem dX2_settle_7 : decode cX2_settle 7 = .ok (.iconst 1, 1) := by decide +kernel
theorem dX2_settle_8 : decode cX2_settle 8 = .ok (.isub, 1) := by decide +kernel
theorem dX2_settle_9 : decode cX2_settle 9 = .ok (.aload_n 0, 1) := by decide +kernel
theorem dX2_settle_10 : decode cX2_settle 10 = .ok (.iconst 0, 1) := by decide +kernel
theorem dX2_settle_11 : decode cX2_settle 11 = .ok (.iconst 0, 1) := by decide +kernel
theorem dX2_settle_12 : decode cX2_settle 12 = .ok (.invokevirtual 96, 3) := by decide +kernel
theorem dX2_settle_15 : decode cX2_settle 15 = .ok (.iconst (-1), 1) := by decide +kernel
theorem dX2_settle_16 : decode cX2_settle 16 = .ok (.ixor, 1) := by decide +kernel
theorem dX2_settle_17 : decode cX2_settle 17 = .ok (.iand, 1) := by decide +kernel
theorem dX2_settle_18 : decode cX2_settle 18 = .ok (.putfield 65, 3) := by decide +kernel
theorem dX2_settle_21 : decode cX2_settle 21 = .ok (.return_, 1) := by decide +kernel
def qX2_settle  (u0 : St) (post : St → Prop) : Prop := qX2_standing (0 : Int32) (0 : Int32) u0 (fun r_6 u_5 => ∀ u_8 : St, u_8 = (si u_5 5 ((((1 : Int32) <<< ((gi u0 0) &&& 31)) - (1 : Int32)) &&& (r_6 ^^^ (-1 : Int32)))) → post u_8)
set_option maxRecDepth 100000 in
set_option maxHeartbeats 4000000 in
theorem kX2_settle {C : Cx} {o0 : Nat} {a0 : Nat → Nat} (hC : Fx C cX2_settle 1 RX2) (hR0 : xR C = rm 3) {post : St → Prop} (hR : RV C cX2_settle 1 (fun u : St => (wX2 o0 a0 (xy C) u [])) (fun u => post u))  {u0 : St} (h : qX2_settle  u0 post) : G C 0 0 1 (wX2 o0 a0 (xy C) u0 []) 0 [(0, .ref o0)] [] := by
  refine g_aload_n (pc := 0) hC 0 dX2_settle_0 rfl rfl ?_
  refine g_iconst (pc := 1) (v := 1) hC dX2_settle_1 (by decide) ?_
  refine g_aload_n (pc := 2) hC 0 dX2_settle_2 rfl rfl ?_
  refine getX2_0 (pc := 3) hC (F := fun Z => Z) (X := []) (fun _ => rfl) fl_X2_53 dX2_settle_3 ?_
  refine g_ishl (pc := 6) hC dX2_settle_6 ?_
  refine g_iconst (pc := 7) (v := 1) hC dX2_settle_7 (by decide) ?_
  refine g_isub (pc := 8) hC dX2_settle_8 ?_
  refine g_aload_n (pc := 9) hC 0 dX2_settle_9 rfl rfl ?_
  refine g_iconst (pc := 10) (v := 0) hC dX2_settle_10 (by decide) ?_
  refine g_iconst (pc := 11) (v := 0) hC dX2_settle_11 (by decide) ?_
  refine g_callV_i (pc := 12) (wd := fun (u : St) Y => (wX2 o0 a0 (xy C) u Y)) (F := fun Z => Z) (X := []) (As := [.int (0 : Int32), .int (0 : Int32)]) (rest := [.int (((1 : Int32) <<< ((gi u0 0) &&& 31)) - (1 : Int32)), .ref o0]) (u := u0) hC (fun _ _ => rfl) (fun _ => rfl) (ctX2_standing h) wvX2_standing ml_X2_96 (ci := 1) (q0 := 0) rfl rfl rfl rfl (rmok hR0 rfl) ⟨Nat.zero_le _, Nat.zero_le _⟩ rfl (Nat.le_of_ble_eq_true rfl) dX2_settle_12 (fun r_6 u_5 h => ?_)
  refine g_iconst (pc := 15) (v := -1) hC dX2_settle_15 (by decide) ?_
  refine g_ixor (pc := 16) hC dX2_settle_16 ?_
  refine g_iand (pc := 17) hC dX2_settle_17 ?_
  refine putX2_5 (pc := 18) hC (F := fun Z => Z) (X := []) (fun _ => rfl) fl_X2_65 dX2_settle_18 ?_
  refine g_st (w := fun z => (wX2 o0 a0 (xy C) z [])) (u := (si u_5 5 ((((1 : Int32) <<< ((gi u0 0) &&& 31)) - (1 : Int32)) &&& (r_6 ^^^ (-1 : Int32))))) (fun u_8 eu_8 => ?_)
  have h := h u_8 eu_8
  exact hR _ _ u_8 dX2_settle_21 h
theorem ctX2_settle {l : Launch} {D : va_G} {cy : Nat → ClassId} {kd : Nat → Nat} {o0 : Nat} {a0 : Nat → Nat}  {u0 : St} {post : St → Prop} (h : qX2_settle  u0 post) : CtV l D cy kd yX2_settle cX2_settle 1 3  [.ref o0] (fun u : St => (wX2 o0 a0 cy u [])) u0 (fun u => post u) := met_v (by decide) (Nat.le_of_ble_eq_true rfl) (fun C e1 e2 e3 e4 e5 hC hR => by subst e1 e2 e3 e4; exact kX2_settle hC e5 hR h)
theorem dX2_fallingWithout_0 : decode cX2_fallingWithout 0 = .ok (.aload_n 0, 1) := by decide +kernel
theorem dX2_fallingWithout_1 : decode cX2_fallingWithout 1 = .ok (.invokevirtual 100, 3) := by decide +kernel
theorem dX2_fallingWithout_4 : decode cX2_fallingWithout 4 = .ok (.aload_n 0, 1) := by decide +kernel
theorem dX2_fallingWithout_5 : decode cX2_fallingWithout 5 = .ok (.iload_n 1, 1) := by decide +kernel
theorem dX2_fallingWithout_6 : decode cX2_fallingWithout 6 = .ok (.iconst 0, 1) := by decide +kernel
theorem dX2_fallingWithout_7 : decode cX2_fallingWithout 7 = .ok (.invokevirtual 96, 3) := by decide +kernel
theorem dX2_fallingWithout_10 : decode cX2_fallingWithout 10 = .ok (.iconst (-1), 1) := by decide +kernel
theorem dX2_fallingWithout_11 : decode cX2_fallingWithout 11 = .ok (.ixor, 1) := by decide +kernel
theorem dX2_fallingWithout_12 : decode cX2_fallingWithout 12 = .ok (.iand, 1) := by decide +kernel
theorem dX2_fallingWithout_13 : decode cX2_fallingWithout 13 = .ok (.ireturn, 1) := by decide +kernel
def qX2_fallingWithout (x1 : Int32) (u0 : St) (post : Int32 → St → Prop) : Prop := qX2_standingNow u0 (fun r_8 u_7 => qX2_standing x1 (0 : Int32) u_7 (fun r_11 u_10 => post (r_8 &&& (r_11 ^^^ (-1 : Int32))) u_10))
set_option maxRecDepth 100000 in
set_option maxHeartbeats 4000000 in
theorem kX2_fallingWithout {C : Cx} {o0 : Nat} {a0 : Nat → Nat} (hC : Fx C cX2_fallingWithout 2 RX2) (hR0 : xR C = rm 3) {post : Int32 → St → Prop} (hR : RI C cX2_fallingWithout 2 (fun u : St => (wX2 o0 a0 (xy C) u [])) (fun r u => post r u)) {x1 : Int32} {u0 : St} (h : qX2_fallingWithout x1 u0 post) : G C 0 0 2 (wX2 o0 a0 (xy C) u0 []) 0 [(0, .ref o0), (1, .int x1)] [] := by
  refine g_aload_n (pc := 0) hC 0 dX2_fallingWithout_0 rfl rfl ?_
  refine g_callV_i (pc := 1) (wd := fun (u : St) Y => (wX2 o0 a0 (xy C) u Y)) (F := fun Z => Z) (X := []) (As := []) (rest := []) (u := u0) hC (fun _ _ => rfl) (fun _ => rfl) (ctX2_standingNow h) wvX2_standingNow ml_X2_100 (ci := 1) (q0 := 0) rfl rfl rfl rfl (rmok hR0 rfl) ⟨Nat.zero_le _, Nat.zero_le _⟩ rfl (Nat.le_of_ble_eq_true rfl) dX2_fallingWithout_1 (fun r_8 u_7 h => ?_)
  refine g_aload_n (pc := 4) hC 0 dX2_fallingWithout_4 rfl rfl ?_
  refine g_iload_n (pc := 5) hC 1 dX2_fallingWithout_5 rfl rfl ?_
  refine g_iconst (pc := 6) (v := 0) hC dX2_fallingWithout_6 (by decide) ?_
  refine g_callV_i (pc := 7) (wd := fun (u : St) Y => (wX2 o0 a0 (xy C) u Y)) (F := fun Z => Z) (X := []) (As := [.int x1, .int (0 : Int32)]) (rest := [.int r_8]) (u := u_7) hC (fun _ _ => rfl) (fun _ => rfl) (ctX2_standing h) wvX2_standing ml_X2_96 (ci := 1) (q0 := 0) rfl rfl rfl rfl (rmok hR0 rfl) ⟨Nat.zero_le _, Nat.zero_le _⟩ rfl (Nat.le_of_ble_eq_true rfl) dX2_fallingWithout_7 (fun r_11 u_10 h => ?_)
  refine g_iconst (pc := 10) (v := -1) hC dX2_fallingWithout_10 (by decide) ?_
  refine g_ixor (pc := 11) hC dX2_fallingWithout_11 ?_
  refine g_iand (pc := 12) hC dX2_fallingWithout_12 ?_
  exact hR _ _ _ u_10 dX2_fallingWithout_13 h
theorem ctX2_fallingWithout {l : Launch} {D : va_G} {cy : Nat → ClassId} {kd : Nat → Nat} {o0 : Nat} {a0 : Nat → Nat} {x1 : Int32} {u0 : St} {post : Int32 → St → Prop} (h : qX2_fallingWithout x1 u0 post) : CtI l D cy kd yX2_fallingWithout cX2_fallingWithout 2 3 .int [.ref o0, .int x1] (fun u : St => (wX2 o0 a0 cy u [])) u0 (fun r u => post r u) := met_i (by decide) (Nat.le_of_ble_eq_true rfl) (fun C e1 e2 e3 e4 e5 hC hR => by subst e1 e2 e3 e4; exact kX2_fallingWithout hC e5 hR h)
theorem dX2_largestIdleSet_0 : decode cX2_largestIdleSet 0 = .ok (.iconst 0, 1) := by decide +kernel
theorem dX2_largestIdleSet_1 : decode cX2_largestIdleSet 1 = .ok (.istore_n 1, 1) := by decide +kernel
theorem dX2_largestIdleSet_2 : decode cX2_largestIdleSet 2 = .ok (.iconst 0, 1) := by decide +kernel
theorem dX2_largestIdleSet_3 : decode cX2_largestIdleSet 3 = .ok (.istore_n 2, 1) := by decide +kernel
theorem dX2_largestIdleSet_4 : decode cX2_largestIdleSet 4 = .ok (.iload_n 2, 1) := by decide +kernel
theorem dX2_largestIdleSet_5 : decode cX2_largestIdleSet 5 = .ok (.iconst 1, 1) := by decide +kernel
theorem dX2_largestIdleSet_6 : decode cX2_largestIdleSet 6 = .ok (.aload_n 0, 1) := by decide +kernel
theorem dX2_largestIdleSet_7 : decode cX2_largestIdleSet 7 = .ok (.getfield 59, 3) := by decide +kernel
theorem dX2_largestIdleSet_10 : decode cX2_largestIdleSet 10 = .ok (.ishl, 1) := by decide +kernel
theorem dX2_largestIdleSet_11 : decode cX2_largestIdleSet 11 = .ok (.if_icmp .ge 49, 3) := by decide +kernel
theorem dX2_largestIdleSet_14 : decode cX2_largestIdleSet 14 = .ok (.iload_n 2, 1) := by decide +kernel
theorem dX2_largestIdleSet_15 : decode cX2_largestIdleSet 15 = .ok (.invokestatic 104, 3) := by decide +kernel
theorem dX2_largestIdleSet_18 : decode cX2_largestIdleSet 18 = .ok (.iload_n 1, 1) := by decide +kernel
theorem dX2_largestIdleSet_19 : decode cX2_largestIdleSet 19 = .ok (.invokestatic 104, 3) := by decide +kernel
theorem dX2_largestIdleSet_22 : decode cX2_largestIdleSet 22 = .ok (.if_icmp .le 7, 3) := by decide +kernel
theorem dX2_largestIdleSet_25 : decode cX2_largestIdleSet 25 = .ok (.iconst 1, 1) := by decide +kernel
theorem dX2_largestIdleSet_26 : decode cX2_largestIdleSet 26 = .ok (.goto 4, 3) := by decide +kernel
theorem dX2_largestIdleSet_29 : decode cX2_largestIdleSet 29 = .ok (.iconst 0, 1) := by decide +kernel
theorem dX2_largestIdleSet_30 : decode cX2_largestIdleSet 30 = .ok (.istore_n 3, 1) := by decide +kernel
theorem dX2_largestIdleSet_31 : decode cX2_largestIdleSet 31 = .ok (.iload_n 3, 1) := by decide +kernel
theorem dX2_largestIdleSet_32 : decode cX2_largestIdleSet 32 = .ok (.ifCond .eq 22, 3) := by decide +kernel
theorem dX2_largestIdleSet_35 : decode cX2_largestIdleSet 35 = .ok (.iload_n 2, 1) := by decide +kernel
theorem dX2_largestIdleSet_36 : decode cX2_largestIdleSet 36 = .ok (.aload_n 0, 1) := by decide +kernel
theorem dX2_largestIdleSet_37 : decode cX2_largestIdleSet 37 = .ok (.getfield 68, 3) := by decide +kernel
theorem dX2_largestIdleSet_40 : decode cX2_largestIdleSet 40 = .ok (.iand, 1) := by decide +kernel
theorem dX2_largestIdleSet_41 : decode cX2_largestIdleSet 41 = .ok (.ifCond .ne 13, 3) := by decide +kernel
theorem dX2_largestIdleSet_44 : decode cX2_largestIdleSet 44 = .ok (.aload_n 0, 1) := by decide +kernel
theorem dX2_largestIdleSet_45 : decode cX2_largestIdleSet 45 = .ok (.iload_n 2, 1) := by decide +kernel
theorem dX2_largestIdleSet_46 : decode cX2_largestIdleSet 46 = .ok (.invokevirtual 109, 3) := by decide +kernel
theorem dX2_largestIdleSet_49 : decode cX2_largestIdleSet 49 = .ok (.ifCond .ne 5, 3) := by decide +kernel
theorem dX2_largestIdleSet_52 : decode cX2_largestIdleSet 52 = .ok (.iload_n 2, 1) := by decide +kernel
theorem dX2_largestIdleSet_53 : decode cX2_largestIdleSet 53 = .ok (.istore_n 1, 1) := by decide +kernel
theorem dX2_largestIdleSet_54 : decode cX2_largestIdleSet 54 = .ok (.iinc 2 1, 3) := by decide +kernel
theorem dX2_largestIdleSet_57 : decode cX2_largestIdleSet 57 = .ok (.goto (-53), 3) := by decide +kernel
theorem dX2_largestIdleSet_60 : decode cX2_largestIdleSet 60 = .ok (.iload_n 1, 1) := by decide +kernel
theorem dX2_largestIdleSet_61 : decode cX2_largestIdleSet 61 = .ok (.ireturn, 1) := by decide +kernel
def qX2_largestIdleSet_b54  (post : Int32 → St → Prop) (K4 : Int32 → Int32 → St → Prop) (x1 : Int32) (x2 : Int32) (u0 : St) : Prop := ∀ x2_9 : Int32, x2_9 = x2 + (1 : Int32) → K4 x1 x2_9 u0
set_option maxRecDepth 100000 in
set_option maxHeartbeats 4000000 in
theorem kX2_largestIdleSet_b54 {C : Cx} {o0 : Nat} {a0 : Nat → Nat} (hC : Fx C cX2_largestIdleSet 4 RX2) (hR0 : xR C = rm 4) {post : Int32 → St → Prop} (hR : RI C cX2_largestIdleSet 4 (fun u : St => (wX2 o0 a0 (xy C) u [])) (fun r u => post r u)) {K4 : Int32 → Int32 → St → Prop} (hK4 : ∀ (x1 : Int32) (x2 : Int32) (u0 : St), K4 x1 x2 u0 → G C 0 0 4 (wX2 o0 a0 (xy C) u0 []) 4 [(0, .ref o0), (1, .int x1), (2, .int x2)] []) {x1 : Int32} {x2 : Int32} {u0 : St} (h : qX2_largestIdleSet_b54 post K4 x1 x2 u0) : G C 0 0 4 (wX2 o0 a0 (xy C) u0 []) 54 [(0, .ref o0), (1, .int x1), (2, .int x2)] [] := by
  obtain ⟨x2_9, ex2_9⟩ : ∃ z : Int32, z = x2 + (1 : Int32) := ⟨_, rfl⟩
  have h := h x2_9 ex2_9
  refine g_iinc (pc := 54) (v := x2_9) (lv' := [(2, .int x2_9), (0, .ref o0), (1, .int x1)]) hC 2 dX2_largestIdleSet_54 rfl (by rw [ex2_9]; rfl) (Nat.le_of_ble_eq_true rfl) rfl ?_
  refine g_goto (pc := 57) (tgt := 4) hC dX2_largestIdleSet_57 (by decide) ?_
  refine g_sub (lv' := [(0, .ref o0), (1, .int x1), (2, .int x2_9)]) [1, 2, 0] rfl ?_
  exact hK4 _ _ _ h
def qX2_largestIdleSet_b30  (post : Int32 → St → Prop) (K4 : Int32 → Int32 → St → Prop) (x1 : Int32) (x2 : Int32) (s0 : Int32) (u0 : St) : Prop := ((s0 = 0 → qX2_largestIdleSet_b54 post K4 x1 x2 u0) ∧ (¬ s0 = 0 → ((¬ (x2 &&& (gi u0 6)) = 0 → qX2_largestIdleSet_b54 post K4 x1 x2 u0) ∧ ((x2 &&& (gi u0 6)) = 0 → qX2_fallingWithout x2 u0 (fun r_13 u_12 => ((¬ r_13 = 0 → qX2_largestIdleSet_b54 post K4 x1 x2 u_12) ∧ (r_13 = 0 → qX2_largestIdleSet_b54 post K4 x2 x2 u_12)))))))
set_option maxRecDepth 100000 in
set_option maxHeartbeats 4000000 in
theorem kX2_largestIdleSet_b30 {C : Cx} {o0 : Nat} {a0 : Nat → Nat} (hC : Fx C cX2_largestIdleSet 4 RX2) (hR0 : xR C = rm 4) {post : Int32 → St → Prop} (hR : RI C cX2_largestIdleSet 4 (fun u : St => (wX2 o0 a0 (xy C) u [])) (fun r u => post r u)) {K4 : Int32 → Int32 → St → Prop} (hK4 : ∀ (x1 : Int32) (x2 : Int32) (u0 : St), K4 x1 x2 u0 → G C 0 0 4 (wX2 o0 a0 (xy C) u0 []) 4 [(0, .ref o0), (1, .int x1), (2, .int x2)] []) {x1 : Int32} {x2 : Int32} {s0 : Int32} {u0 : St} (h : qX2_largestIdleSet_b30 post K4 x1 x2 s0 u0) : G C 0 0 4 (wX2 o0 a0 (xy C) u0 []) 30 [(0, .ref o0), (1, .int x1), (2, .int x2)] [.int s0] := by
  refine g_istore_n (pc := 30) (lv' := [(3, .int s0), (0, .ref o0), (1, .int x1), (2, .int x2)]) hC dX2_largestIdleSet_30 rfl (Nat.le_of_ble_eq_true rfl) rfl ?_
  refine g_iload_n (pc := 31) hC 0 dX2_largestIdleSet_31 rfl rfl ?_
  refine g_if_eq (pc := 32) (tgt := 54) hC dX2_largestIdleSet_32 (by decide) (fun c_10 => ?_) (fun c_10 => ?_)
  · have h := h.1 c_10
    refine g_sub (lv' := [(0, .ref o0), (1, .int x1), (2, .int x2)]) [1, 2, 3] rfl ?_
    exact kX2_largestIdleSet_b54 hC hR0 hR hK4 h
  · have h := h.2 c_10
    refine g_iload_n (pc := 35) hC 3 dX2_largestIdleSet_35 rfl rfl ?_
    refine g_aload_n (pc := 36) hC 1 dX2_largestIdleSet_36 rfl rfl ?_
    refine getX2_6 (pc := 37) hC (F := fun Z => Z) (X := []) (fun _ => rfl) fl_X2_68 dX2_largestIdleSet_37 ?_
    refine g_iand (pc := 40) hC dX2_largestIdleSet_40 ?_
    refine g_if_ne (pc := 41) (tgt := 54) hC dX2_largestIdleSet_41 (by decide) (fun c_11 => ?_) (fun c_11 => ?_)
    · have h := h.1 c_11
      refine g_sub (lv' := [(0, .ref o0), (1, .int x1), (2, .int x2)]) [1, 2, 3] rfl ?_
      exact kX2_largestIdleSet_b54 hC hR0 hR hK4 h
    · have h := h.2 c_11
      refine g_aload_n (pc := 44) hC 1 dX2_largestIdleSet_44 rfl rfl ?_
      refine g_iload_n (pc := 45) hC 3 dX2_largestIdleSet_45 rfl rfl ?_
      refine g_callV_i (pc := 46) (wd := fun (u : St) Y => (wX2 o0 a0 (xy C) u Y)) (F := fun Z => Z) (X := []) (As := [.int x2]) (rest := []) (u := u0) hC (fun _ _ => rfl) (fun _ => rfl) (ctX2_fallingWithout h) wvX2_fallingWithout ml_X2_109 (ci := 1) (q0 := 0) rfl rfl rfl rfl (rmok hR0 rfl) ⟨Nat.zero_le _, Nat.zero_le _⟩ rfl (Nat.le_of_ble_eq_true rfl) dX2_largestIdleSet_46 (fun r_13 u_12 h => ?_)
      refine g_if_ne (pc := 49) (tgt := 54) hC dX2_largestIdleSet_49 (by decide) (fun c_15 => ?_) (fun c_15 => ?_)
      · have h := h.1 c_15
        refine g_sub (lv' := [(0, .ref o0), (1, .int x1), (2, .int x2)]) [1, 2, 3] rfl ?_
        exact kX2_largestIdleSet_b54 hC hR0 hR hK4 h
      · have h := h.2 c_15
        refine g_iload_n (pc := 52) hC 3 dX2_largestIdleSet_52 rfl rfl ?_
        refine g_istore_n (pc := 53) (lv' := [(1, .int x2), (3, .int s0), (0, .ref o0), (2, .int x2)]) hC dX2_largestIdleSet_53 rfl (Nat.le_of_ble_eq_true rfl) rfl ?_
        refine g_sub (lv' := [(0, .ref o0), (1, .int x2), (2, .int x2)]) [2, 0, 3] rfl ?_
        exact kX2_largestIdleSet_b54 hC hR0 hR hK4 h
def qX2_largestIdleSet_l4  (post : Int32 → St → Prop) (K4 : Int32 → Int32 → St → Prop) (x1 : Int32) (x2 : Int32) (u0 : St) : Prop := ((((1 : Int32) <<< ((gi u0 2) &&& 31)) ≤ x2 → post x1 u0) ∧ (¬ ((1 : Int32) <<< ((gi u0 2) &&& 31)) ≤ x2 → qJ6_bitCount_0f7a4 x2 (fun r_17 => qJ6_bitCount_0f7a4 x1 (fun r_19 => ((r_17 ≤ r_19 → qX2_largestIdleSet_b30 post K4 x1 x2 (0 : Int32) u0) ∧ (¬ r_17 ≤ r_19 → qX2_largestIdleSet_b30 post K4 x1 x2 (1 : Int32) u0))))))
set_option maxRecDepth 100000 in
set_option maxHeartbeats 4000000 in
theorem kX2_largestIdleSet_l4 {C : Cx} {o0 : Nat} {a0 : Nat → Nat} (hC : Fx C cX2_largestIdleSet 4 RX2) (hR0 : xR C = rm 4) {post : Int32 → St → Prop} (hR : RI C cX2_largestIdleSet 4 (fun u : St => (wX2 o0 a0 (xy C) u [])) (fun r u => post r u))  {K4 : Int32 → Int32 → St → Prop} (hK4 : ∀ (x1 : Int32) (x2 : Int32) (u0 : St), K4 x1 x2 u0 → G C 0 0 4 (wX2 o0 a0 (xy C) u0 []) 4 [(0, .ref o0), (1, .int x1), (2, .int x2)] []) {x1 : Int32} {x2 : Int32} {u0 : St} (h : qX2_largestIdleSet_l4 post K4 x1 x2 u0) : G C 0 0 4 (wX2 o0 a0 (xy C) u0 []) 4 [(0, .ref o0), (1, .int x1), (2, .int x2)] [] := by
  refine g_iload_n (pc := 4) hC 2 dX2_largestIdleSet_4 rfl rfl ?_
  refine g_iconst (pc := 5) (v := 1) hC dX2_largestIdleSet_5 (by decide) ?_
  refine g_aload_n (pc := 6) hC 0 dX2_largestIdleSet_6 rfl rfl ?_
  refine getX2_2 (pc := 7) hC (F := fun Z => Z) (X := []) (fun _ => rfl) fl_X2_59 dX2_largestIdleSet_7 ?_
  refine g_ishl (pc := 10) hC dX2_largestIdleSet_10 ?_
  refine g_icmp_ge (pc := 11) (tgt := 60) hC dX2_largestIdleSet_11 (by decide) (fun c_16 => ?_) (fun c_16 => ?_)
  · have h := h.1 c_16
    refine g_iload_n (pc := 60) hC 1 dX2_largestIdleSet_60 rfl rfl ?_
    exact hR _ _ _ u0 dX2_largestIdleSet_61 h
  · have h := h.2 c_16
    refine g_iload_n (pc := 14) hC 2 dX2_largestIdleSet_14 rfl rfl ?_
    refine g_callS_i (pc := 15) (wd := fun (_ : Unit) Y => Y) (F := fun Z => Z) (X := []) (As := [.int x2]) (rest := []) (u := ()) hC (fun _ _ => rfl) (fun _ => rfl) (ctJ6_bitCount_0f7a4 h) wvJ6_bitCount_0f7a4 ml_X2_104 rfl (rmok hR0 rfl) ⟨Nat.zero_le _, Nat.zero_le _⟩ rfl (Nat.le_of_ble_eq_true rfl) dX2_largestIdleSet_15 (fun r_17 u_18 h => ?_)
    refine g_iload_n (pc := 18) hC 1 dX2_largestIdleSet_18 rfl rfl ?_
    refine g_callS_i (pc := 19) (wd := fun (_ : Unit) Y => Y) (F := fun Z => Z) (X := []) (As := [.int x1]) (rest := [.int r_17]) (u := ()) hC (fun _ _ => rfl) (fun _ => rfl) (ctJ6_bitCount_0f7a4 h) wvJ6_bitCount_0f7a4 ml_X2_104 rfl (rmok hR0 rfl) ⟨Nat.zero_le _, Nat.zero_le _⟩ rfl (Nat.le_of_ble_eq_true rfl) dX2_largestIdleSet_19 (fun r_19 u_20 h => ?_)
    refine g_icmp_le (pc := 22) (tgt := 29) hC dX2_largestIdleSet_22 (by decide) (fun c_21 => ?_) (fun c_21 => ?_)
    · have h := h.1 c_21
      refine g_iconst (pc := 29) (v := 0) hC dX2_largestIdleSet_29 (by decide) ?_
      exact kX2_largestIdleSet_b30 hC hR0 hR hK4 h
    · have h := h.2 c_21
      refine g_iconst (pc := 25) (v := 1) hC dX2_largestIdleSet_25 (by decide) ?_
      refine g_goto (pc := 26) (tgt := 30) hC dX2_largestIdleSet_26 (by decide) ?_
      exact kX2_largestIdleSet_b30 hC hR0 hR hK4 h
def qX2_largestIdleSet_L4  (post : Int32 → St → Prop)  : Nat → Int32 → Int32 → St → Prop
  | 0 => fun _ _ _ => False
  | n + 1 => qX2_largestIdleSet_l4 post (qX2_largestIdleSet_L4 post n)
theorem kX2_largestIdleSet_L4 {C : Cx} {o0 : Nat} {a0 : Nat → Nat} (hC : Fx C cX2_largestIdleSet 4 RX2) (hR0 : xR C = rm 4) {post : Int32 → St → Prop} (hR : RI C cX2_largestIdleSet 4 (fun u : St => (wX2 o0 a0 (xy C) u [])) (fun r u => post r u))  : ∀ (n : Nat) (x1 : Int32) (x2 : Int32) (u0 : St), qX2_largestIdleSet_L4 post n x1 x2 u0 → G C 0 0 4 (wX2 o0 a0 (xy C) u0 []) 4 [(0, .ref o0), (1, .int x1), (2, .int x2)] [] := by
  intro n
  induction n with
  | zero => intro x1 x2 u0 h; exact h.elim
  | succ n ih => intro x1 x2 u0 h; exact kX2_largestIdleSet_l4 hC hR0 hR  ih h
def qX2_largestIdleSet  (u0 : St) (post : Int32 → St → Prop) : Prop := ∃ n_22 : Nat, qX2_largestIdleSet_L4 post n_22 (0 : Int32) (0 : Int32) u0
set_option maxRecDepth 100000 in
set_option maxHeartbeats 4000000 in
theorem kX2_largestIdleSet {C : Cx} {o0 : Nat} {a0 : Nat → Nat} (hC : Fx C cX2_largestIdleSet 4 RX2) (hR0 : xR C = rm 4) {post : Int32 → St → Prop} (hR : RI C cX2_largestIdleSet 4 (fun u : St => (wX2 o0 a0 (xy C) u [])) (fun r u => post r u))  {u0 : St} (h : qX2_largestIdleSet  u0 post) : G C 0 0 4 (wX2 o0 a0 (xy C) u0 []) 0 [(0, .ref o0)] [] := by
  refine g_iconst (pc := 0) (v := 0) hC dX2_largestIdleSet_0 (by decide) ?_
  refine g_istore_n (pc := 1) (lv' := [(1, .int (0 : Int32)), (0, .ref o0)]) hC dX2_largestIdleSet_1 rfl (Nat.le_of_ble_eq_true rfl) rfl ?_
  refine g_iconst (pc := 2) (v := 0) hC dX2_largestIdleSet_2 (by decide) ?_
  refine g_istore_n (pc := 3) (lv' := [(2, .int (0 : Int32)), (1, .int (0 : Int32)), (0, .ref o0)]) hC dX2_largestIdleSet_3 rfl (Nat.le_of_ble_eq_true rfl) rfl ?_
  refine g_sub (lv' := [(0, .ref o0), (1, .int (0 : Int32)), (2, .int (0 : Int32))]) [2, 1, 0] rfl ?_
  obtain ⟨n_22, h⟩ := h
  exact kX2_largestIdleSet_L4 hC hR0 hR  n_22 _ _ _ h
theorem ctX2_largestIdleSet {l : Launch} {D : va_G} {cy : Nat → ClassId} {kd : Nat → Nat} {o0 : Nat} {a0 : Nat → Nat}  {u0 : St} {post : Int32 → St → Prop} (h : qX2_largestIdleSet  u0 post) : CtI l D cy kd yX2_largestIdleSet cX2_largestIdleSet 4 4 .int [.ref o0] (fun u : St => (wX2 o0 a0 cy u [])) u0 (fun r u => post r u) := met_i (by decide) (Nat.le_of_ble_eq_true rfl) (fun C e1 e2 e3 e4 e5 hC hR => by subst e1 e2 e3 e4; exact kX2_largestIdleSet hC e5 hR h)
theorem dX2_smallestFellingSet_0 : decode cX2_smallestFellingSet 0 = .ok (.iconst (-1), 1) := by decide +kernel
theorem dX2_smallestFellingSet_1 : decode cX2_smallestFellingSet 1 = .ok (.istore_n 2, 1) := by decide +kernel
theorem dX2_smallestFellingSet_2 : decode cX2_smallestFellingSet 2 = .ok (.iconst 0, 1) := by decide +kernel
theorem dX2_smallestFellingSet_3 : decode cX2_smallestFellingSet 3 = .ok (.istore_n 3, 1) := by decide +kernel
theorem dX2_smallestFellingSet_4 : decode cX2_smallestFellingSet 4 = .ok (.iload_n 3, 1) := by decide +kernel
theorem dX2_smallestFellingSet_5 : decode cX2_smallestFellingSet 5 = .ok (.iconst 1, 1) := by decide +kernel
theorem dX2_smallestFellingSet_6 : decode cX2_smallestFellingSet 6 = .ok (.aload_n 0, 1) := by decide +kernel
theorem dX2_smallestFellingSet_7 : decode cX2_smallestFellingSet 7 = .ok (.getfield 59, 3) := by decide +kernel
theorem dX2_smallestFellingSet_10 : decode cX2_smallestFellingSet 10 = .ok (.ishl, 1) := by decide +kernel
theorem dX2_smallestFellingSet_11 : decode cX2_smallestFellingSet 11 = .ok (.if_icmp .ge 60, 3) := by decide +kernel
theorem dX2_smallestFellingSet_14 : decode cX2_smallestFellingSet 14 = .ok (.iload_n 2, 1) := by decide +kernel
theorem dX2_smallestFellingSet_15 : decode cX2_smallestFellingSet 15 = .ok (.iconst (-1), 1) := by decide +kernel
theorem dX2_smallestFellingSet_16 : decode cX2_smallestFellingSet 16 = .ok (.if_icmp .eq 14, 3) := by decide +kernel
theorem dX2_smallestFellingSet_19 : decode cX2_smallestFellingSet 19 = .ok (.iload_n 3, 1) := by decide +kernel
theorem dX2_smallestFellingSet_20 : decode cX2_smallestFellingSet 20 = .ok (.invokestatic 104, 3) := by decide +kernel
theorem dX2_smallestFellingSet_23 : decode cX2_smallestFellingSet 23 = .ok (.iload_n 2, 1) := by decide +kernel
theorem dX2_smallestFellingSet_24 : decode cX2_smallestFellingSet 24 = .ok (.invokestatic 104, 3) := by decide +kernel
theorem dX2_smallestFellingSet_27 : decode cX2_smallestFellingSet 27 = .ok (.if_icmp .ge 7, 3) := by decide +kernel
theorem dX2_smallestFellingSet_30 : decode cX2_smallestFellingSet 30 = .ok (.iconst 1, 1) := by decide +kernel
theorem dX2_smallestFellingSet_31 : decode cX2_smallestFellingSet 31 = .ok (.goto 4, 3) := by decide +kernel
theorem dX2_smallestFellingSet_34 : decode cX2_smallestFellingSet 34 = .ok (.iconst 0, 1) := by decide +kernel
theorem dX2_smallestFellingSet_35 : decode cX2_smallestFellingSet 35 = .ok (.istore 4, 2) := by decide +kernel
theorem dX2_smallestFellingSet_37 : decode cX2_smallestFellingSet 37 = .ok (.iload 4, 2) := by decide +kernel
theorem dX2_smallestFellingSet_39 : decode cX2_smallestFellingSet 39 = .ok (.ifCond .eq 26, 3) := by decide +kernel
theorem dX2_smallestFellingSet_42 : decode cX2_smallestFellingSet 42 = .ok (.iload_n 3, 1) := by decide +kernel
theorem dX2_smallestFellingSet_43 : decode cX2_smallestFellingSet 43 = .ok (.aload_n 0, 1) := by decide +kernel
theorem dX2_smallestFellingSet_44 : decode cX2_smallestFellingSet 44 = .ok (.getfield 68, 3) := by decide +kernel
theorem dX2_smallestFellingSet_47 : decode cX2_smallestFellingSet 47 = .ok (.iand, 1) := by decide +kernel
theorem dX2_smallestFellingSet_48 : decode cX2_smallestFellingSet 48 = .ok (.ifCond .ne 17, 3) := by decide +kernel
theorem dX2_smallestFellingSet_51 : decode cX2_smallestFellingSet 51 = .ok (.aload_n 0, 1) := by decide +kernel
theorem dX2_smallestFellingSet_52 : decode cX2_smallestFellingSet 52 = .ok (.iload_n 3, 1) := by decide +kernel
theorem dX2_smallestFellingSet_53 : decode cX2_smallestFellingSet 53 = .ok (.invokevirtual 109, 3) := by decide +kernel
theorem dX2_smallestFellingSet_56 : decode cX2_smallestFellingSet 56 = .ok (.iload_n 1, 1) := by decide +kernel
theorem dX2_smallestFellingSet_57 : decode cX2_smallestFellingSet 57 = .ok (.invokestatic 84, 3) := by decide +kernel
theorem dX2_smallestFellingSet_60 : decode cX2_smallestFellingSet 60 = .ok (.ifCond .eq 5, 3) := by decide +kernel
theorem dX2_smallestFellingSet_63 : decode cX2_smallestFellingSet 63 = .ok (.iload_n 3, 1) := by decide +kernel
theorem dX2_smallestFellingSet_64 : decode cX2_smallestFellingSet 64 = .ok (.istore_n 2, 1) := by decide +kernel
theorem dX2_smallestFellingSet_65 : decode cX2_smallestFellingSet 65 = .ok (.iinc 3 1, 3) := by decide +kernel
theorem dX2_smallestFellingSet_68 : decode cX2_smallestFellingSet 68 = .ok (.goto (-64), 3) := by decide +kernel
theorem dX2_smallestFellingSet_71 : decode cX2_smallestFellingSet 71 = .ok (.iload_n 2, 1) := by decide +kernel
theorem dX2_smallestFellingSet_72 : decode cX2_smallestFellingSet 72 = .ok (.ireturn, 1) := by decide +kernel
def qX2_smallestFellingSet_b65  (post : Int32 → St → Prop) (K4 : Int32 → Int32 → Int32 → St → Prop) (x1 : Int32) (x2 : Int32) (x3 : Int32) (u0 : St) : Prop := ∀ x3_11 : Int32, x3_11 = x3 + (1 : Int32) → K4 x1 x2 x3_11 u0
set_option maxRecDepth 100000 in
set_option maxHeartbeats 4000000 in
theorem kX2_smallestFellingSet_b65 {C : Cx} {o0 : Nat} {a0 : Nat → Nat} (hC : Fx C cX2_smallestFellingSet 5 RX2) (hR0 : xR C = rm 4) {post : Int32 → St → Prop} (hR : RI C cX2_smallestFellingSet 5 (fun u : St => (wX2 o0 a0 (xy C) u [])) (fun r u => post r u)) {K4 : Int32 → Int32 → Int32 → St → Prop} (hK4 : ∀ (x1 : Int32) (x2 : Int32) (x3 : Int32) (u0 : St), K4 x1 x2 x3 u0 → G C 0 0 5 (wX2 o0 a0 (xy C) u0 []) 4 [(0, .ref o0), (1, .int x1), (2, .int x2), (3, .int x3)] []) {x1 : Int32} {x2 : Int32} {x3 : Int32} {u0 : St} (h : qX2_smallestFellingSet_b65 post K4 x1 x2 x3 u0) : G C 0 0 5 (wX2 o0 a0 (xy C) u0 []) 65 [(0, .ref o0), (1, .int x1), (2, .int x2), (3, .int x3)] [] := by
  obtain ⟨x3_11, ex3_11⟩ : ∃ z : Int32, z = x3 + (1 : Int32) := ⟨_, rfl⟩
  have h := h x3_11 ex3_11
  refine g_iinc (pc := 65) (v := x3_11) (lv' := [(3, .int x3_11), (0, .ref o0), (1, .int x1), (2, .int x2)]) hC 3 dX2_smallestFellingSet_65 rfl (by rw [ex3_11]; rfl) (Nat.le_of_ble_eq_true rfl) rfl ?_
  refine g_goto (pc := 68) (tgt := 4) hC dX2_smallestFellingSet_68 (by decide) ?_
  refine g_sub (lv' := [(0, .ref o0), (1, .int x1), (2, .int x2), (3, .int x3_11)]) [1, 2, 3, 0] rfl ?_
  exact hK4 _ _ _ _ h
def qX2_smallestFellingSet_b35  (post : Int32 → St → Prop) (K4 : Int32 → Int32 → Int32 → St → Prop) (x1 : Int32) (x2 : Int32) (x3 : Int32) (s0 : Int32) (u0 : St) : Prop := ((s0 = 0 → qX2_smallestFellingSet_b65 post K4 x1 x2 x3 u0) ∧ (¬ s0 = 0 → ((¬ (x3 &&& (gi u0 6)) = 0 → qX2_smallestFellingSet_b65 post K4 x1 x2 x3 u0) ∧ ((x3 &&& (gi u0 6)) = 0 → qX2_fallingWithout x3 u0 (fun r_15 u_14 => qX11_has r_15 x1 (fun r_17 => ((r_17 = 0 → qX2_smallestFellingSet_b65 post K4 x1 x2 x3 u_14) ∧ (¬ r_17 = 0 → qX2_smallestFellingSet_b65 post K4 x1 x3 x3 u_14))))))))
set_option maxRecDepth 100000 in
set_option maxHeartbeats 4000000 in
theorem kX2_smallestFellingSet_b35 {C : Cx} {o0 : Nat} {a0 : Nat → Nat} (hC : Fx C cX2_smallestFellingSet 5 RX2) (hR0 : xR C = rm 4) {post : Int32 → St → Prop} (hR : RI C cX2_smallestFellingSet 5 (fun u : St => (wX2 o0 a0 (xy C) u [])) (fun r u => post r u)) {K4 : Int32 → Int32 → Int32 → St → Prop} (hK4 : ∀ (x1 : Int32) (x2 : Int32) (x3 : Int32) (u0 : St), K4 x1 x2 x3 u0 → G C 0 0 5 (wX2 o0 a0 (xy C) u0 []) 4 [(0, .ref o0), (1, .int x1), (2, .int x2), (3, .int x3)] []) {x1 : Int32} {x2 : Int32} {x3 : Int32} {s0 : Int32} {u0 : St} (h : qX2_smallestFellingSet_b35 post K4 x1 x2 x3 s0 u0) : G C 0 0 5 (wX2 o0 a0 (xy C) u0 []) 35 [(0, .ref o0), (1, .int x1), (2, .int x2), (3, .int x3)] [.int s0] := by
  refine g_istore (pc := 35) (lv' := [(4, .int s0), (0, .ref o0), (1, .int x1), (2, .int x2), (3, .int x3)]) hC dX2_smallestFellingSet_35 (Nat.le_of_ble_eq_true rfl) rfl ?_
  refine g_iload (pc := 37) hC 0 dX2_smallestFellingSet_37 rfl ?_
  refine g_if_eq (pc := 39) (tgt := 65) hC dX2_smallestFellingSet_39 (by decide) (fun c_12 => ?_) (fun c_12 => ?_)
  · have h := h.1 c_12
    refine g_sub (lv' := [(0, .ref o0), (1, .int x1), (2, .int x2), (3, .int x3)]) [1, 2, 3, 4] rfl ?_
    exact kX2_smallestFellingSet_b65 hC hR0 hR hK4 h
  · have h := h.2 c_12
    refine g_iload_n (pc := 42) hC 4 dX2_smallestFellingSet_42 rfl rfl ?_
    refine g_aload_n (pc := 43) hC 1 dX2_smallestFellingSet_43 rfl rfl ?_
    refine getX2_6 (pc := 44) hC (F := fun Z => Z) (X := []) (fun _ => rfl) fl_X2_68 dX2_smallestFellingSet_44 ?_
    refine g_iand (pc := 47) hC dX2_smallestFellingSet_47 ?_
    refine g_if_ne (pc := 48) (tgt := 65) hC dX2_smallestFellingSet_48 (by decide) (fun c_13 => ?_) (fun c_13 => ?_)
    · have h := h.1 c_13
      refine g_sub (lv' := [(0, .ref o0), (1, .int x1), (2, .int x2), (3, .int x3)]) [1, 2, 3, 4] rfl ?_
      exact kX2_smallestFellingSet_b65 hC hR0 hR hK4 h
    · have h := h.2 c_13
      refine g_aload_n (pc := 51) hC 1 dX2_smallestFellingSet_51 rfl rfl ?_
      refine g_iload_n (pc := 52) hC 4 dX2_smallestFellingSet_52 rfl rfl ?_
      refine g_callV_i (pc := 53) (wd := fun (u : St) Y => (wX2 o0 a0 (xy C) u Y)) (F := fun Z => Z) (X := []) (As := [.int x3]) (rest := []) (u := u0) hC (fun _ _ => rfl) (fun _ => rfl) (ctX2_fallingWithout h) wvX2_fallingWithout ml_X2_109 (ci := 1) (q0 := 0) rfl rfl rfl rfl (rmok hR0 rfl) ⟨Nat.zero_le _, Nat.zero_le _⟩ rfl (Nat.le_of_ble_eq_true rfl) dX2_smallestFellingSet_53 (fun r_15 u_14 h => ?_)
      refine g_iload_n (pc := 56) hC 2 dX2_smallestFellingSet_56 rfl rfl ?_
      refine g_callSN_i (pc := 57) (wd := fun (_ : Unit) Y => Y) (F := fun Z => Z) (X := []) (As := [.int r_15, .int x1]) (rest := []) (u := ()) hC (fun _ _ => rfl) (fun _ => rfl) (ctX11_has h) wvX11_has nl_X2_84 rfl (rmok hR0 rfl) ⟨Nat.zero_le _, Nat.zero_le _⟩ rfl (Nat.le_of_ble_eq_true rfl) dX2_smallestFellingSet_57 (fun r_17 u_18 h => ?_)
      refine g_if_eq (pc := 60) (tgt := 65) hC dX2_smallestFellingSet_60 (by decide) (fun c_19 => ?_) (fun c_19 => ?_)
      · have h := h.1 c_19
        refine g_sub (lv' := [(0, .ref o0), (1, .int x1), (2, .int x2), (3, .int x3)]) [1, 2, 3, 4] rfl ?_
        exact kX2_smallestFellingSet_b65 hC hR0 hR hK4 h
      · have h := h.2 c_19
        refine g_iload_n (pc := 63) hC 4 dX2_smallestFellingSet_63 rfl rfl ?_
        refine g_istore_n (pc := 64) (lv' := [(2, .int x3), (4, .int s0), (0, .ref o0), (1, .int x1), (3, .int x3)]) hC dX2_smallestFellingSet_64 rfl (Nat.le_of_ble_eq_true rfl) rfl ?_
        refine g_sub (lv' := [(0, .ref o0), (1, .int x1), (2, .int x3), (3, .int x3)]) [2, 3, 0, 4] rfl ?_
        exact kX2_smallestFellingSet_b65 hC hR0 hR hK4 h
def qX2_smallestFellingSet_b30  (post : Int32 → St → Prop) (K4 : Int32 → Int32 → Int32 → St → Prop) (x1 : Int32) (x2 : Int32) (x3 : Int32) (u0 : St) : Prop := qX2_smallestFellingSet_b35 post K4 x1 x2 x3 (1 : Int32) u0
set_option maxRecDepth 100000 in
set_option maxHeartbeats 4000000 in
theorem kX2_smallestFellingSet_b30 {C : Cx} {o0 : Nat} {a0 : Nat → Nat} (hC : Fx C cX2_smallestFellingSet 5 RX2) (hR0 : xR C = rm 4) {post : Int32 → St → Prop} (hR : RI C cX2_smallestFellingSet 5 (fun u : St => (wX2 o0 a0 (xy C) u [])) (fun r u => post r u)) {K4 : Int32 → Int32 → Int32 → St → Prop} (hK4 : ∀ (x1 : Int32) (x2 : Int32) (x3 : Int32) (u0 : St), K4 x1 x2 x3 u0 → G C 0 0 5 (wX2 o0 a0 (xy C) u0 []) 4 [(0, .ref o0), (1, .int x1), (2, .int x2), (3, .int x3)] []) {x1 : Int32} {x2 : Int32} {x3 : Int32} {u0 : St} (h : qX2_smallestFellingSet_b30 post K4 x1 x2 x3 u0) : G C 0 0 5 (wX2 o0 a0 (xy C) u0 []) 30 [(0, .ref o0), (1, .int x1), (2, .int x2), (3, .int x3)] [] := by
  refine g_iconst (pc := 30) (v := 1) hC dX2_smallestFellingSet_30 (by decide) ?_
  refine g_goto (pc := 31) (tgt := 35) hC dX2_smallestFellingSet_31 (by decide) ?_
  exact kX2_smallestFellingSet_b35 hC hR0 hR hK4 h
def qX2_smallestFellingSet_l4  (post : Int32 → St → Prop) (K4 : Int32 → Int32 → Int32 → St → Prop) (x1 : Int32) (x2 : Int32) (x3 : Int32) (u0 : St) : Prop := ((((1 : Int32) <<< ((gi u0 2) &&& 31)) ≤ x3 → post x2 u0) ∧ (¬ ((1 : Int32) <<< ((gi u0 2) &&& 31)) ≤ x3 → ((x2 = (-1 : Int32) → qX2_smallestFellingSet_b30 post K4 x1 x2 x3 u0) ∧ (¬ x2 = (-1 : Int32) → qJ6_bitCount_0f7a4 x3 (fun r_22 => qJ6_bitCount_0f7a4 x2 (fun r_24 => ((r_24 ≤ r_22 → qX2_smallestFellingSet_b35 post K4 x1 x2 x3 (0 : Int32) u0) ∧ (¬ r_24 ≤ r_22 → qX2_smallestFellingSet_b30 post K4 x1 x2 x3 u0))))))))
set_option maxRecDepth 100000 in
set_option maxHeartbeats 4000000 in
theorem kX2_smallestFellingSet_l4 {C : Cx} {o0 : Nat} {a0 : Nat → Nat} (hC : Fx C cX2_smallestFellingSet 5 RX2) (hR0 : xR C = rm 4) {post : Int32 → St → Prop} (hR : RI C cX2_smallestFellingSet 5 (fun u : St => (wX2 o0 a0 (xy C) u [])) (fun r u => post r u))  {K4 : Int32 → Int32 → Int32 → St → Prop} (hK4 : ∀ (x1 : Int32) (x2 : Int32) (x3 : Int32) (u0 : St), K4 x1 x2 x3 u0 → G C 0 0 5 (wX2 o0 a0 (xy C) u0 []) 4 [(0, .ref o0), (1, .int x1), (2, .int x2), (3, .int x3)] []) {x1 : Int32} {x2 : Int32} {x3 : Int32} {u0 : St} (h : qX2_smallestFellingSet_l4 post K4 x1 x2 x3 u0) : G C 0 0 5 (wX2 o0 a0 (xy C) u0 []) 4 [(0, .ref o0), (1, .int x1), (2, .int x2), (3, .int x3)] [] := by
  refine g_iload_n (pc := 4) hC 3 dX2_smallestFellingSet_4 rfl rfl ?_
  refine g_iconst (pc := 5) (v := 1) hC dX2_smallestFellingSet_5 (by decide) ?_
  refine g_aload_n (pc := 6) hC 0 dX2_smallestFellingSet_6 rfl rfl ?_
  refine getX2_2 (pc := 7) hC (F := fun Z => Z) (X := []) (fun _ => rfl) fl_X2_59 dX2_smallestFellingSet_7 ?_
  refine g_ishl (pc := 10) hC dX2_smallestFellingSet_10 ?_
  refine g_icmp_ge (pc := 11) (tgt := 71) hC dX2_smallestFellingSet_11 (by decide) (fun c_20 => ?_) (fun c_20 => ?_)
  · have h := h.1 c_20
    refine g_iload_n (pc := 71) hC 2 dX2_smallestFellingSet_71 rfl rfl ?_
    exact hR _ _ _ u0 dX2_smallestFellingSet_72 h
  · have h := h.2 c_20
    refine g_iload_n (pc := 14) hC 2 dX2_smallestFellingSet_14 rfl rfl ?_
    refine g_iconst (pc := 15) (v := -1) hC dX2_smallestFellingSet_15 (by decide) ?_
    refine g_icmp_eq (pc := 16) (tgt := 30) hC dX2_smallestFellingSet_16 (by decide) (fun c_21 => ?_) (fun c_21 => ?_)
    · have h := h.1 c_21
      exact kX2_smallestFellingSet_b30 hC hR0 hR hK4 h
    · have h := h.2 c_21
      refine g_iload_n (pc := 19) hC 3 dX2_smallestFellingSet_19 rfl rfl ?_
      refine g_callS_i (pc := 20) (wd := fun (_ : Unit) Y => Y) (F := fun Z => Z) (X := []) (As := [.int x3]) (rest := []) (u := ()) hC (fun _ _ => rfl) (fun _ => rfl) (ctJ6_bitCount_0f7a4 h) wvJ6_bitCount_0f7a4 ml_X2_104 rfl (rmok hR0 rfl) ⟨Nat.zero_le _, Nat.zero_le _⟩ rfl (Nat.le_of_ble_eq_true rfl) dX2_smallestFellingSet_20 (fun r_22 u_23 h => ?_)
      refine g_iload_n (pc := 23) hC 2 dX2_smallestFellingSet_23 rfl rfl ?_
      refine g_callS_i (pc := 24) (wd := fun (_ : Unit) Y => Y) (F := fun Z => Z) (X := []) (As := [.int x2]) (rest := [.int r_22]) (u := ()) hC (fun _ _ => rfl) (fun _ => rfl) (ctJ6_bitCount_0f7a4 h) wvJ6_bitCount_0f7a4 ml_X2_104 rfl (rmok hR0 rfl) ⟨Nat.zero_le _, Nat.zero_le _⟩ rfl (Nat.le_of_ble_eq_true rfl) dX2_smallestFellingSet_24 (fun r_24 u_25 h => ?_)
      refine g_icmp_ge (pc := 27) (tgt := 34) hC dX2_smallestFellingSet_27 (by decide) (fun c_26 => ?_) (fun c_26 => ?_)
      · have h := h.1 c_26
        refine g_iconst (pc := 34) (v := 0) hC dX2_smallestFellingSet_34 (by decide) ?_
        exact kX2_smallestFellingSet_b35 hC hR0 hR hK4 h
      · have h := h.2 c_26
        exact kX2_smallestFellingSet_b30 hC hR0 hR hK4 h
def qX2_smallestFellingSet_L4  (post : Int32 → St → Prop)  : Nat → Int32 → Int32 → Int32 → St → Prop
  | 0 => fun _ _ _ _ => False
  | n + 1 => qX2_smallestFellingSet_l4 post (qX2_smallestFellingSet_L4 post n)
theorem kX2_smallestFellingSet_L4 {C : Cx} {o0 : Nat} {a0 : Nat → Nat} (hC : Fx C cX2_smallestFellingSet 5 RX2) (hR0 : xR C = rm 4) {post : Int32 → St → Prop} (hR : RI C cX2_smallestFellingSet 5 (fun u : St => (wX2 o0 a0 (xy C) u [])) (fun r u => post r u))  : ∀ (n : Nat) (x1 : Int32) (x2 : Int32) (x3 : Int32) (u0 : St), qX2_smallestFellingSet_L4 post n x1 x2 x3 u0 → G C 0 0 5 (wX2 o0 a0 (xy C) u0 []) 4 [(0, .ref o0), (1, .int x1), (2, .int x2), (3, .int x3)] [] := by
  intro n
  induction n with
  | zero => intro x1 x2 x3 u0 h; exact h.elim
  | succ n ih => intro x1 x2 x3 u0 h; exact kX2_smallestFellingSet_l4 hC hR0 hR  ih h
def qX2_smallestFellingSet (x1 : Int32) (u0 : St) (post : Int32 → St → Prop) : Prop := ∃ n_27 : Nat, qX2_smallestFellingSet_L4 post n_27 x1 (-1 : Int32) (0 : Int32) u0
set_option maxRecDepth 100000 in
set_option maxHeartbeats 4000000 in
theorem kX2_smallestFellingSet {C : Cx} {o0 : Nat} {a0 : Nat → Nat} (hC : Fx C cX2_smallestFellingSet 5 RX2) (hR0 : xR C = rm 4) {post : Int32 → St → Prop} (hR : RI C cX2_smallestFellingSet 5 (fun u : St => (wX2 o0 a0 (xy C) u [])) (fun r u => post r u)) {x1 : Int32} {u0 : St} (h : qX2_smallestFellingSet x1 u0 post) : G C 0 0 5 (wX2 o0 a0 (xy C) u0 []) 0 [(0, .ref o0), (1, .int x1)] [] := by
  refine g_iconst (pc := 0) (v := -1) hC dX2_smallestFellingSet_0 (by decide) ?_
  refine g_istore_n (pc := 1) (lv' := [(2, .int (-1 : Int32)), (0, .ref o0), (1, .int x1)]) hC dX2_smallestFellingSet_1 rfl (Nat.le_of_ble_eq_true rfl) rfl ?_
  refine g_iconst (pc := 2) (v := 0) hC dX2_smallestFellingSet_2 (by decide) ?_
  refine g_istore_n (pc := 3) (lv' := [(3, .int (0 : Int32)), (2, .int (-1 : Int32)), (0, .ref o0), (1, .int x1)]) hC dX2_smallestFellingSet_3 rfl (Nat.le_of_ble_eq_true rfl) rfl ?_
  refine g_sub (lv' := [(0, .ref o0), (1, .int x1), (2, .int (-1 : Int32)), (3, .int (0 : Int32))]) [2, 3, 1, 0] rfl ?_
  obtain ⟨n_27, h⟩ := h
  exact kX2_smallestFellingSet_L4 hC hR0 hR  n_27 _ _ _ _ h
theorem ctX2_smallestFellingSet {l : Launch} {D : va_G} {cy : Nat → ClassId} {kd : Nat → Nat} {o0 : Nat} {a0 : Nat → Nat} {x1 : Int32} {u0 : St} {post : Int32 → St → Prop} (h : qX2_smallestFellingSet x1 u0 post) : CtI l D cy kd yX2_smallestFellingSet cX2_smallestFellingSet 5 4 .int [.ref o0, .int x1] (fun u : St => (wX2 o0 a0 cy u [])) u0 (fun r u => post r u) := met_i (by decide) (Nat.le_of_ble_eq_true rfl) (fun C e1 e2 e3 e4 e5 hC hR => by subst e1 e2 e3 e4; exact kX2_smallestFellingSet hC e5 hR h)
theorem dX2_growLeaves_0 : decode cX2_growLeaves 0 = .ok (.iconst 0, 1) := by decide +kernel
theorem dX2_growLeaves_1 : decode cX2_growLeaves 1 = .ok (.istore_n 1, 1) := by decide +kernel
theorem dX2_growLeaves_2 : decode cX2_growLeaves 2 = .ok (.iconst 0, 1) := by decide +kernel
theorem dX2_growLeaves_3 : decode cX2_growLeaves 3 = .ok (.istore_n 2, 1) := by decide +kernel
theorem dX2_growLeaves_4 : decode cX2_growLeaves 4 = .ok (.iload_n 2, 1) := by decide +kernel
theorem dX2_growLeaves_5 : decode cX2_growLeaves 5 = .ok (.aload_n 0, 1) := by decide +kernel
theorem dX2_growLeaves_6 : decode cX2_growLeaves 6 = .ok (.getfield 59, 3) := by decide +kernel
theorem dX2_growLeaves_9 : decode cX2_growLeaves 9 = .ok (.if_icmp .ge 91, 3) := by decide +kernel
theorem dX2_growLeaves_12 : decode cX2_growLeaves 12 = .ok (.aload_n 0, 1) := by decide +kernel
theorem dX2_growLeaves_13 : decode cX2_growLeaves 13 = .ok (.getfield 50, 3) := by decide +kernel
theorem dX2_growLeaves_16 : decode cX2_growLeaves 16 = .ok (.iload_n 2, 1) := by decide +kernel
theorem dX2_growLeaves_17 : decode cX2_growLeaves 17 = .ok (.iaload, 1) := by decide +kernel
theorem dX2_growLeaves_18 : decode cX2_growLeaves 18 = .ok (.istore_n 3, 1) := by decide +kernel
theorem dX2_growLeaves_19 : decode cX2_growLeaves 19 = .ok (.aload_n 0, 1) := by decide +kernel
theorem dX2_growLeaves_20 : decode cX2_growLeaves 20 = .ok (.getfield 44, 3) := by decide +kernel
theorem dX2_growLeaves_23 : decode cX2_growLeaves 23 = .ok (.iload_n 2, 1) := by decide +kernel
theorem dX2_growLeaves_24 : decode cX2_growLeaves 24 = .ok (.iaload, 1) := by decide +kernel
theorem dX2_growLeaves_25 : decode cX2_growLeaves 25 = .ok (.ifCond .le 69, 3) := by decide +kernel
theorem dX2_growLeaves_28 : decode cX2_growLeaves 28 = .ok (.iload_n 3, 1) := by decide +kernel
theorem dX2_growLeaves_29 : decode cX2_growLeaves 29 = .ok (.sipush 999, 3) := by decide +kernel
theorem dX2_growLeaves_32 : decode cX2_growLeaves 32 = .ok (.if_icmp .ge 62, 3) := by decide +kernel
theorem dX2_growLeaves_35 : decode cX2_growLeaves 35 = .ok (.aload_n 0, 1) := by decide +kernel
theorem dX2_growLeaves_36 : decode cX2_growLeaves 36 = .ok (.getfield 68, 3) := by decide +kernel
theorem dX2_growLeaves_39 : decode cX2_growLeaves 39 = .ok (.iload_n 2, 1) := by decide +kernel
theorem dX2_growLeaves_40 : decode cX2_growLeaves 40 = .ok (.invokestatic 84, 3) := by decide +kernel
theorem dX2_growLeaves_43 : decode cX2_growLeaves 43 = .ok (.ifCond .ne 51, 3) := by decide +kernel
theorem dX2_growLeaves_46 : decode cX2_growLeaves 46 = .ok (.aload_n 0, 1) := by decide +kernel
theorem dX2_growLeaves_47 : decode cX2_growLeaves 47 = .ok (.getfield 50, 3) := by decide +kernel
theorem dX2_growLeaves_50 : decode cX2_growLeaves 50 = .ok (.iload_n 2, 1) := by decide +kernel
theorem dX2_growLeaves_51 : decode cX2_growLeaves 51 = .ok (.aload_n 0, 1) := by decide +kernel
theorem dX2_growLeaves_52 : decode cX2_growLeaves 52 = .ok (.getfield 41, 3) := by decide +kernel
theorem dX2_growLeaves_55 : decode cX2_growLeaves 55 = .ok (.iload_n 2, 1) := by decide +kernel
theorem dX2_growLeaves_56 : decode cX2_growLeaves 56 = .ok (.iaload, 1) := by decide +kernel
theorem dX2_growLeaves_57 : decode cX2_growLeaves 57 = .ok (.iload_n 3, 1) := by decide +kernel
theorem dX2_growLeaves_58 : decode cX2_growLeaves 58 = .ok (.aload_n 0, 1) := by decide +kernel
theorem dX2_growLeaves_59 : decode cX2_growLeaves 59 = .ok (.getfield 44, 3) := by decide +kernel
theorem dX2_growLeaves_62 : decode cX2_growLeaves 62 = .ok (.iload_n 2, 1) := by decide +kernel
theorem dX2_growLeaves_63 : decode cX2_growLeaves 63 = .ok (.iaload, 1) := by decide +kernel
theorem dX2_growLeaves_64 : decode cX2_growLeaves 64 = .ok (.aload_n 0, 1) := by decide +kernel
theorem dX2_growLeaves_65 : decode cX2_growLeaves 65 = .ok (.getfield 71, 3) := by decide +kernel
theorem dX2_growLeaves_68 : decode cX2_growLeaves 68 = .ok (.iload_n 2, 1) := by decide +kernel
theorem dX2_growLeaves_69 : decode cX2_growLeaves 69 = .ok (.invokestatic 84, 3) := by decide +kernel
theorem dX2_growLeaves_72 : decode cX2_growLeaves 72 = .ok (.invokestatic 122, 3) := by decide +kernel
theorem dX2_growLeaves_75 : decode cX2_growLeaves 75 = .ok (.iastore, 1) := by decide +kernel
theorem dX2_growLeaves_76 : decode cX2_growLeaves 76 = .ok (.iload_n 1, 1) := by decide +kernel
theorem dX2_growLeaves_77 : decode cX2_growLeaves 77 = .ok (.aload_n 0, 1) := by decide +kernel
theorem dX2_growLeaves_78 : decode cX2_growLeaves 78 = .ok (.getfield 50, 3) := by decide +kernel
theorem dX2_growLeaves_81 : decode cX2_growLeaves 81 = .ok (.iload_n 2, 1) := by decide +kernel
theorem dX2_growLeaves_82 : decode cX2_growLeaves 82 = .ok (.iaload, 1) := by decide +kernel
theorem dX2_growLeaves_83 : decode cX2_growLeaves 83 = .ok (.iload_n 3, 1) := by decide +kernel
theorem dX2_growLeaves_84 : decode cX2_growLeaves 84 = .ok (.if_icmp .eq 7, 3) := by decide +kernel
theorem dX2_growLeaves_87 : decode cX2_growLeaves 87 = .ok (.iconst 1, 1) := by decide +kernel
theorem dX2_growLeaves_88 : decode cX2_growLeaves 88 = .ok (.goto 4, 3) := by decide +kernel
theorem dX2_growLeaves_91 : decode cX2_growLeaves 91 = .ok (.iconst 0, 1) := by decide +kernel
theorem dX2_growLeaves_92 : decode cX2_growLeaves 92 = .ok (.ior, 1) := by decide +kernel
theorem dX2_growLeaves_93 : decode cX2_growLeaves 93 = .ok (.istore_n 1, 1) := by decide +kernel
theorem dX2_growLeaves_94 : decode cX2_growLeaves 94 = .ok (.iinc 2 1, 3) := by decide +kernel
theorem dX2_growLeaves_97 : decode cX2_growLeaves 97 = .ok (.goto (-93), 3) := by decide +kernel
theorem dX2_growLeaves_100 : decode cX2_growLeaves 100 = .ok (.iload_n 1, 1) := by decide +kernel
theorem dX2_growLeaves_101 : decode cX2_growLeaves 101 = .ok (.ireturn, 1) := by decide +kernel
def qX2_growLeaves_b94  (post : Int32 → St → Prop) (K4 : Int32 → Int32 → St → Prop) (x1 : Int32) (x2 : Int32) (u0 : St) : Prop := ∀ x2_9 : Int32, x2_9 = x2 + (1 : Int32) → K4 x1 x2_9 u0
set_option maxRecDepth 100000 in
set_option maxHeartbeats 4000000 in
theorem kX2_growLeaves_b94 {C : Cx} {o0 : Nat} {a0 : Nat → Nat} (hC : Fx C cX2_growLeaves 4 RX2) (hR0 : xR C = rm 3) {post : Int32 → St → Prop} (hR : RZ C cX2_growLeaves 4 (fun u : St => (wX2 o0 a0 (xy C) u [])) (fun r u => post r u)) {K4 : Int32 → Int32 → St → Prop} (hK4 : ∀ (x1 : Int32) (x2 : Int32) (u0 : St), K4 x1 x2 u0 → G C 0 0 4 (wX2 o0 a0 (xy C) u0 []) 4 [(0, .ref o0), (1, .int x1), (2, .int x2)] []) {x1 : Int32} {x2 : Int32} {u0 : St} (h : qX2_growLeaves_b94 post K4 x1 x2 u0) : G C 0 0 4 (wX2 o0 a0 (xy C) u0 []) 94 [(0, .ref o0), (1, .int x1), (2, .int x2)] [] := by
  obtain ⟨x2_9, ex2_9⟩ : ∃ z : Int32, z = x2 + (1 : Int32) := ⟨_, rfl⟩
  have h := h x2_9 ex2_9
  refine g_iinc (pc := 94) (v := x2_9) (lv' := [(2, .int x2_9), (0, .ref o0), (1, .int x1)]) hC 2 dX2_growLeaves_94 rfl (by rw [ex2_9]; rfl) (Nat.le_of_ble_eq_true rfl) rfl ?_
  refine g_goto (pc := 97) (tgt := 4) hC dX2_growLeaves_97 (by decide) ?_
  refine g_sub (lv' := [(0, .ref o0), (1, .int x1), (2, .int x2_9)]) [1, 2, 0] rfl ?_
  exact hK4 _ _ _ h
def qX2_growLeaves_b92  (post : Int32 → St → Prop) (K4 : Int32 → Int32 → St → Prop) (x2 : Int32) (s0 : Int32) (s1 : Int32) (u0 : St) : Prop := ∀ x1_10 : Int32, x1_10 = (s1 ||| s0) → qX2_growLeaves_b94 post K4 x1_10 x2 u0
set_option maxRecDepth 100000 in
set_option maxHeartbeats 4000000 in
theorem kX2_growLeaves_b92 {C : Cx} {o0 : Nat} {a0 : Nat → Nat} (hC : Fx C cX2_growLeaves 4 RX2) (hR0 : xR C = rm 3) {post : Int32 → St → Prop} (hR : RZ C cX2_growLeaves 4 (fun u : St => (wX2 o0 a0 (xy C) u [])) (fun r u => post r u)) {K4 : Int32 → Int32 → St → Prop} (hK4 : ∀ (x1 : Int32) (x2 : Int32) (u0 : St), K4 x1 x2 u0 → G C 0 0 4 (wX2 o0 a0 (xy C) u0 []) 4 [(0, .ref o0), (1, .int x1), (2, .int x2)] []) {x2 : Int32} {s0 : Int32} {s1 : Int32} {u0 : St} (h : qX2_growLeaves_b92 post K4 x2 s0 s1 u0) : G C 0 0 4 (wX2 o0 a0 (xy C) u0 []) 92 [(0, .ref o0), (2, .int x2)] [.int s0, .int s1] := by
  refine g_ior (pc := 92) hC dX2_growLeaves_92 ?_
  refine g_topi (fun x1_10 ex1_10 => ?_)
  have h := h x1_10 ex1_10
  refine g_istore_n (pc := 93) (lv' := [(1, .int x1_10), (0, .ref o0), (2, .int x2)]) hC dX2_growLeaves_93 rfl (Nat.le_of_ble_eq_true rfl) rfl ?_
  refine g_sub (lv' := [(0, .ref o0), (1, .int x1_10), (2, .int x2)]) [1, 0, 2] rfl ?_
  exact kX2_growLeaves_b94 hC hR0 hR hK4 h
def qX2_growLeaves_l4  (post : Int32 → St → Prop) (K4 : Int32 → Int32 → St → Prop) (x1 : Int32) (x2 : Int32) (u0 : St) : Prop := (((gi u0 2) ≤ x2 → (bz x1 ∧ post x1 u0)) ∧ (¬ (gi u0 2) ≤ x2 → (vp_in x2 7 ∧ ∀ x3_12 : Int32, x3_12 = (ga u0 19 (x2).toNatClampNeg) → (vp_in x2 7 ∧ (((ga u0 17 (x2).toNatClampNeg) ≤ 0 → qX2_growLeaves_b94 post K4 x1 x2 u0) ∧ (¬ (ga u0 17 (x2).toNatClampNeg) ≤ 0 → (((999 : Int32) ≤ x3_12 → qX2_growLeaves_b94 post K4 x1 x2 u0) ∧ (¬ (999 : Int32) ≤ x3_12 → qX11_has (gi u0 6) x2 (fun r_15 => ((¬ r_15 = 0 → qX2_growLeaves_b94 post K4 x1 x2 u0) ∧ (r_15 = 0 → (vp_in x2 7 ∧ (vp_in x2 7 ∧ qX11_has (gi u0 7) x2 (fun r_18 => qX11_growth (ga u0 16 (x2).toNatClampNeg) x3_12 (ga u0 17 (x2).toNatClampNeg) r_18 (fun r_20 => (vp_in x2 7 ∧ ∀ u_22 : St, u_22 = (sw u0 19 (upd (ga u0 19) (x2).toNatClampNeg r_20)) → (vp_in x2 7 ∧ (((ga u_22 19 (x2).toNatClampNeg) = x3_12 → qX2_growLeaves_b92 post K4 x2 (0 : Int32) x1 u_22) ∧ (¬ (ga u_22 19 (x2).toNatClampNeg) = x3_12 → qX2_growLeaves_b92 post K4 x2 (1 : Int32) x1 u_22)))))))))))))))))))
set_option maxRecDepth 100000 in
set_option maxHeartbeats 4000000 in
theorem kX2_growLeaves_l4 {C : Cx} {o0 : Nat} {a0 : Nat → Nat} (hC : Fx C cX2_growLeaves 4 RX2) (hR0 : xR C = rm 3) {post : Int32 → St → Prop} (hR : RZ C cX2_growLeaves 4 (fun u : St => (wX2 o0 a0 (xy C) u [])) (fun r u => post r u))  {K4 : Int32 → Int32 → St → Prop} (hK4 : ∀ (x1 : Int32) (x2 : Int32) (u0 : St), K4 x1 x2 u0 → G C 0 0 4 (wX2 o0 a0 (xy C) u0 []) 4 [(0, .ref o0), (1, .int x1), (2, .int x2)] []) {x1 : Int32} {x2 : Int32} {u0 : St} (h : qX2_growLeaves_l4 post K4 x1 x2 u0) : G C 0 0 4 (wX2 o0 a0 (xy C) u0 []) 4 [(0, .ref o0), (1, .int x1), (2, .int x2)] [] := by
  refine g_iload_n (pc := 4) hC 2 dX2_growLeaves_4 rfl rfl ?_
  refine g_aload_n (pc := 5) hC 0 dX2_growLeaves_5 rfl rfl ?_
  refine getX2_2 (pc := 6) hC (F := fun Z => Z) (X := []) (fun _ => rfl) fl_X2_59 dX2_growLeaves_6 ?_
  refine g_icmp_ge (pc := 9) (tgt := 100) hC dX2_growLeaves_9 (by decide) (fun c_11 => ?_) (fun c_11 => ?_)
  · have h := h.1 c_11
    refine g_iload_n (pc := 100) hC 1 dX2_growLeaves_100 rfl rfl ?_
    exact hR _ _ _ u0 dX2_growLeaves_101 h.1 h.2
  · have h := h.2 c_11
    refine g_aload_n (pc := 12) hC 0 dX2_growLeaves_12 rfl rfl ?_
    refine getX2_19 (pc := 13) hC (F := fun Z => Z) (X := []) (fun _ => rfl) fl_X2_50 dX2_growLeaves_13 ?_
    refine g_iload_n (pc := 16) hC 2 dX2_growLeaves_16 rfl rfl ?_
    refine aldX2_19 (pc := 17) hC (F := fun Z => Z) (X := []) (fun _ => rfl) h.1 dX2_growLeaves_17 ?_
    have h := h.2
    refine g_topi (fun x3_12 ex3_12 => ?_)
    have h := h x3_12 ex3_12
    refine g_istore_n (pc := 18) (lv' := [(3, .int x3_12), (0, .ref o0), (1, .int x1), (2, .int x2)]) hC dX2_growLeaves_18 rfl (Nat.le_of_ble_eq_true rfl) rfl ?_
    refine g_aload_n (pc := 19) hC 1 dX2_growLeaves_19 rfl rfl ?_
    refine getX2_17 (pc := 20) hC (F := fun Z => Z) (X := []) (fun _ => rfl) fl_X2_44 dX2_growLeaves_20 ?_
    refine g_iload_n (pc := 23) hC 3 dX2_growLeaves_23 rfl rfl ?_
    refine aldX2_17 (pc := 24) hC (F := fun Z => Z) (X := []) (fun _ => rfl) h.1 dX2_growLeaves_24 ?_
    have h := h.2
    refine g_if_le (pc := 25) (tgt := 94) hC dX2_growLeaves_25 (by decide) (fun c_13 => ?_) (fun c_13 => ?_)
    · have h := h.1 c_13
      refine g_sub (lv' := [(0, .ref o0), (1, .int x1), (2, .int x2)]) [1, 2, 3] rfl ?_
      exact kX2_growLeaves_b94 hC hR0 hR hK4 h
    · have h := h.2 c_13
      refine g_iload_n (pc := 28) hC 0 dX2_growLeaves_28 rfl rfl ?_
      refine g_sipush (pc := 29) (v := 999) hC dX2_growLeaves_29 (by decide) ?_
      refine g_icmp_ge (pc := 32) (tgt := 94) hC dX2_growLeaves_32 (by decide) (fun c_14 => ?_) (fun c_14 => ?_)
      · have h := h.1 c_14
        refine g_sub (lv' := [(0, .ref o0), (1, .int x1), (2, .int x2)]) [1, 2, 3] rfl ?_
        exact kX2_growLeaves_b94 hC hR0 hR hK4 h
      · have h := h.2 c_14
        refine g_aload_n (pc := 35) hC 1 dX2_growLeaves_35 rfl rfl ?_
        refine getX2_6 (pc := 36) hC (F := fun Z => Z) (X := []) (fun _ => rfl) fl_X2_68 dX2_growLeaves_36 ?_
        refine g_iload_n (pc := 39) hC 3 dX2_growLeaves_39 rfl rfl ?_
        refine g_callSN_i (pc := 40) (wd := fun (_ : Unit) Y => Y) (F := fun Z => Z) (X := []) (As := [.int (gi u0 6), .int x2]) (rest := []) (u := ()) hC (fun _ _ => rfl) (fun _ => rfl) (ctX11_has h) wvX11_has nl_X2_84 rfl (rmok hR0 rfl) ⟨Nat.zero_le _, Nat.zero_le _⟩ rfl (Nat.le_of_ble_eq_true rfl) dX2_growLeaves_40 (fun r_15 u_16 h => ?_)
        refine g_if_ne (pc := 43) (tgt := 94) hC dX2_growLeaves_43 (by decide) (fun c_17 => ?_) (fun c_17 => ?_)
        · have h := h.1 c_17
          refine g_sub (lv' := [(0, .ref o0), (1, .int x1), (2, .int x2)]) [1, 2, 3] rfl ?_
          exact kX2_growLeaves_b94 hC hR0 hR hK4 h
        · have h := h.2 c_17
          refine g_aload_n (pc := 46) hC 1 dX2_growLeaves_46 rfl rfl ?_
          refine getX2_19 (pc := 47) hC (F := fun Z => Z) (X := []) (fun _ => rfl) fl_X2_50 dX2_growLeaves_47 ?_
          refine g_iload_n (pc := 50) hC 3 dX2_growLeaves_50 rfl rfl ?_
          refine g_aload_n (pc := 51) hC 1 dX2_growLeaves_51 rfl rfl ?_
          refine getX2_16 (pc := 52) hC (F := fun Z => Z) (X := []) (fun _ => rfl) fl_X2_41 dX2_growLeaves_52 ?_
          refine g_iload_n (pc := 55) hC 3 dX2_growLeaves_55 rfl rfl ?_
          refine aldX2_16 (pc := 56) hC (F := fun Z => Z) (X := []) (fun _ => rfl) h.1 dX2_growLeaves_56 ?_
          have h := h.2
          refine g_iload_n (pc := 57) hC 0 dX2_growLeaves_57 rfl rfl ?_
          refine g_aload_n (pc := 58) hC 1 dX2_growLeaves_58 rfl rfl ?_
          refine getX2_17 (pc := 59) hC (F := fun Z => Z) (X := []) (fun _ => rfl) fl_X2_44 dX2_growLeaves_59 ?_
          refine g_iload_n (pc := 62) hC 3 dX2_growLeaves_62 rfl rfl ?_
          refine aldX2_17 (pc := 63) hC (F := fun Z => Z) (X := []) (fun _ => rfl) h.1 dX2_growLeaves_63 ?_
          have h := h.2
          refine g_aload_n (pc := 64) hC 1 dX2_growLeaves_64 rfl rfl ?_
          refine getX2_7 (pc := 65) hC (F := fun Z => Z) (X := []) (fun _ => rfl) fl_X2_71 dX2_growLeaves_65 ?_
          refine g_iload_n (pc := 68) hC 3 dX2_growLeaves_68 rfl rfl ?_
          refine g_callSN_i (pc := 69) (wd := fun (_ : Unit) Y => Y) (F := fun Z => Z) (X := []) (As := [.int (gi u0 7), .int x2]) (rest := [.int (ga u0 17 (x2).toNatClampNeg), .int x3_12, .int (ga u0 16 (x2).toNatClampNeg), .int x2, .ref (a0 19)]) (u := ()) hC (fun _ _ => rfl) (fun _ => rfl) (ctX11_has h) wvX11_has nl_X2_84 rfl (rmok hR0 rfl) ⟨Nat.zero_le _, Nat.zero_le _⟩ rfl (Nat.le_of_ble_eq_true rfl) dX2_growLeaves_69 (fun r_18 u_19 h => ?_)
          refine g_callSN_i (pc := 72) (wd := fun (_ : Unit) Y => Y) (F := fun Z => Z) (X := []) (As := [.int (ga u0 16 (x2).toNatClampNeg), .int x3_12, .int (ga u0 17 (x2).toNatClampNeg), .int r_18]) (rest := [.int x2, .ref (a0 19)]) (u := ()) hC (fun _ _ => rfl) (fun _ => rfl) (ctX11_growth h) wvX11_growth nl_X2_122 rfl (rmok hR0 rfl) ⟨Nat.zero_le _, Nat.zero_le _⟩ rfl (Nat.le_of_ble_eq_true rfl) dX2_growLeaves_72 (fun r_20 u_21 h => ?_)
          refine astX2_19 (pc := 75) hC (F := fun Z => Z) (X := []) (fun _ => rfl) h.1 dX2_growLeaves_75 ?_
          have h := h.2
          refine g_st (w := fun z => (wX2 o0 a0 (xy C) z [])) (u := (sw u0 19 (upd (ga u0 19) (x2).toNatClampNeg r_20))) (fun u_22 eu_22 => ?_)
          have h := h u_22 eu_22
          refine g_iload_n (pc := 76) hC 2 dX2_growLeaves_76 rfl rfl ?_
          refine g_aload_n (pc := 77) hC 1 dX2_growLeaves_77 rfl rfl ?_
          refine getX2_19 (pc := 78) hC (F := fun Z => Z) (X := []) (fun _ => rfl) fl_X2_50 dX2_growLeaves_78 ?_
          refine g_iload_n (pc := 81) hC 3 dX2_growLeaves_81 rfl rfl ?_
          refine aldX2_19 (pc := 82) hC (F := fun Z => Z) (X := []) (fun _ => rfl) h.1 dX2_growLeaves_82 ?_
          have h := h.2
          refine g_iload_n (pc := 83) hC 0 dX2_growLeaves_83 rfl rfl ?_
          refine g_icmp_eq (pc := 84) (tgt := 91) hC dX2_growLeaves_84 (by decide) (fun c_23 => ?_) (fun c_23 => ?_)
          · have h := h.1 c_23
            refine g_iconst (pc := 91) (v := 0) hC dX2_growLeaves_91 (by decide) ?_
            refine g_sub (lv' := [(0, .ref o0), (2, .int x2)]) [1, 3] rfl ?_
            exact kX2_growLeaves_b92 hC hR0 hR hK4 h
          · have h := h.2 c_23
            refine g_iconst (pc := 87) (v := 1) hC dX2_growLeaves_87 (by decide) ?_
            refine g_goto (pc := 88) (tgt := 92) hC dX2_growLeaves_88 (by decide) ?_
            refine g_sub (lv' := [(0, .ref o0), (2, .int x2)]) [1, 3] rfl ?_
            exact kX2_growLeaves_b92 hC hR0 hR hK4 h
def qX2_growLeaves_L4  (post : Int32 → St → Prop)  : Nat → Int32 → Int32 → St → Prop
  | 0 => fun _ _ _ => False
  | n + 1 => qX2_growLeaves_l4 post (qX2_growLeaves_L4 post n)
theorem kX2_growLeaves_L4 {C : Cx} {o0 : Nat} {a0 : Nat → Nat} (hC : Fx C cX2_growLeaves 4 RX2) (hR0 : xR C = rm 3) {post : Int32 → St → Prop} (hR : RZ C cX2_growLeaves 4 (fun u : St => (wX2 o0 a0 (xy C) u [])) (fun r u => post r u))  : ∀ (n : Nat) (x1 : Int32) (x2 : Int32) (u0 : St), qX2_growLeaves_L4 post n x1 x2 u0 → G C 0 0 4 (wX2 o0 a0 (xy C) u0 []) 4 [(0, .ref o0), (1, .int x1), (2, .int x2)] [] := by
  intro n
  induction n with
  | zero => intro x1 x2 u0 h; exact h.elim
  | succ n ih => intro x1 x2 u0 h; exact kX2_growLeaves_l4 hC hR0 hR  ih h
def qX2_growLeaves  (u0 : St) (post : Int32 → St → Prop) : Prop := ∃ n_24 : Nat, qX2_growLeaves_L4 post n_24 (0 : Int32) (0 : Int32) u0
set_option maxRecDepth 100000 in
set_option maxHeartbeats 4000000 in
theorem kX2_growLeaves {C : Cx} {o0 : Nat} {a0 : Nat → Nat} (hC : Fx C cX2_growLeaves 4 RX2) (hR0 : xR C = rm 3) {post : Int32 → St → Prop} (hR : RZ C cX2_growLeaves 4 (fun u : St => (wX2 o0 a0 (xy C) u [])) (fun r u => post r u))  {u0 : St} (h : qX2_growLeaves  u0 post) : G C 0 0 4 (wX2 o0 a0 (xy C) u0 []) 0 [(0, .ref o0)] [] := by
  refine g_iconst (pc := 0) (v := 0) hC dX2_growLeaves_0 (by decide) ?_
  refine g_istore_n (pc := 1) (lv' := [(1, .int (0 : Int32)), (0, .ref o0)]) hC dX2_growLeaves_1 rfl (Nat.le_of_ble_eq_true rfl) rfl ?_
  refine g_iconst (pc := 2) (v := 0) hC dX2_growLeaves_2 (by decide) ?_
  refine g_istore_n (pc := 3) (lv' := [(2, .int (0 : Int32)), (1, .int (0 : Int32)), (0, .ref o0)]) hC dX2_growLeaves_3 rfl (Nat.le_of_ble_eq_true rfl) rfl ?_
  refine g_sub (lv' := [(0, .ref o0), (1, .int (0 : Int32)), (2, .int (0 : Int32))]) [2, 1, 0] rfl ?_
  obtain ⟨n_24, h⟩ := h
  exact kX2_growLeaves_L4 hC hR0 hR  n_24 _ _ _ h
theorem ctX2_growLeaves {l : Launch} {D : va_G} {cy : Nat → ClassId} {kd : Nat → Nat} {o0 : Nat} {a0 : Nat → Nat}  {u0 : St} {post : Int32 → St → Prop} (h : qX2_growLeaves  u0 post) : CtI l D cy kd yX2_growLeaves cX2_growLeaves 4 3 .boolean [.ref o0] (fun u : St => (wX2 o0 a0 cy u [])) u0 (fun r u => post r u) := met_z (by decide) (Nat.le_of_ble_eq_true rfl) (fun C e1 e2 e3 e4 e5 hC hR => by subst e1 e2 e3 e4; exact kX2_growLeaves hC e5 hR h)
theorem dX2_wearMortar_0 : decode cX2_wearMortar 0 = .ok (.iconst 0, 1) := by decide +kernel
theorem dX2_wearMortar_1 : decode cX2_wearMortar 1 = .ok (.istore_n 1, 1) := by decide +kernel
theorem dX2_wearMortar_2 : decode cX2_wearMortar 2 = .ok (.iconst 0, 1) := by decide +kernel
theorem dX2_wearMortar_3 : decode cX2_wearMortar 3 = .ok (.istore_n 2, 1) := by decide +kernel
theorem dX2_wearMortar_4 : decode cX2_wearMortar 4 = .ok (.iload_n 2, 1) := by decide +kernel
theorem dX2_wearMortar_5 : decode cX2_wearMortar 5 = .ok (.aload_n 0, 1) := by decide +kernel
theorem dX2_wearMortar_6 : decode cX2_wearMortar 6 = .ok (.getfield 59, 3) := by decide +kernel
theorem dX2_wearMortar_9 : decode cX2_wearMortar 9 = .ok (.if_icmp .ge 40, 3) := by decide +kernel
theorem dX2_wearMortar_12 : decode cX2_wearMortar 12 = .ok (.aload_n 0, 1) := by decide +kernel
theorem dX2_wearMortar_13 : decode cX2_wearMortar 13 = .ok (.getfield 68, 3) := by decide +kernel
theorem dX2_wearMortar_16 : decode cX2_wearMortar 16 = .ok (.iload_n 2, 1) := by decide +kernel
theorem dX2_wearMortar_17 : decode cX2_wearMortar 17 = .ok (.invokestatic 84, 3) := by decide +kernel
theorem dX2_wearMortar_20 : decode cX2_wearMortar 20 = .ok (.ifCond .ne 23, 3) := by decide +kernel
theorem dX2_wearMortar_23 : decode cX2_wearMortar 23 = .ok (.aload_n 0, 1) := by decide +kernel
theorem dX2_wearMortar_24 : decode cX2_wearMortar 24 = .ok (.getfield 50, 3) := by decide +kernel
theorem dX2_wearMortar_27 : decode cX2_wearMortar 27 = .ok (.iload_n 2, 1) := by decide +kernel
theorem dX2_wearMortar_28 : decode cX2_wearMortar 28 = .ok (.iaload, 1) := by decide +kernel
theorem dX2_wearMortar_29 : decode cX2_wearMortar 29 = .ok (.ifCond .le 14, 3) := by decide +kernel
theorem dX2_wearMortar_32 : decode cX2_wearMortar 32 = .ok (.iload_n 1, 1) := by decide +kernel
theorem dX2_wearMortar_33 : decode cX2_wearMortar 33 = .ok (.iconst 1, 1) := by decide +kernel
theorem dX2_wearMortar_34 : decode cX2_wearMortar 34 = .ok (.aload_n 0, 1) := by decide +kernel
theorem dX2_wearMortar_35 : decode cX2_wearMortar 35 = .ok (.getfield 47, 3) := by decide +kernel
theorem dX2_wearMortar_38 : decode cX2_wearMortar 38 = .ok (.iload_n 2, 1) := by decide +kernel
theorem dX2_wearMortar_39 : decode cX2_wearMortar 39 = .ok (.iaload, 1) := by decide +kernel
theorem dX2_wearMortar_40 : decode cX2_wearMortar 40 = .ok (.ishl, 1) := by decide +kernel
theorem dX2_wearMortar_41 : decode cX2_wearMortar 41 = .ok (.ior, 1) := by decide +kernel
theorem dX2_wearMortar_42 : decode cX2_wearMortar 42 = .ok (.istore_n 1, 1) := by decide +kernel
theorem dX2_wearMortar_43 : decode cX2_wearMortar 43 = .ok (.iinc 2 1, 3) := by decide +kernel
theorem dX2_wearMortar_46 : decode cX2_wearMortar 46 = .ok (.goto (-42), 3) := by decide +kernel
theorem dX2_wearMortar_49 : decode cX2_wearMortar 49 = .ok (.iconst 0, 1) := by decide +kernel
theorem dX2_wearMortar_50 : decode cX2_wearMortar 50 = .ok (.istore_n 2, 1) := by decide +kernel
theorem dX2_wearMortar_51 : decode cX2_wearMortar 51 = .ok (.iconst 0, 1) := by decide +kernel
theorem dX2_wearMortar_52 : decode cX2_wearMortar 52 = .ok (.istore_n 3, 1) := by decide +kernel
theorem dX2_wearMortar_53 : decode cX2_wearMortar 53 = .ok (.iload_n 3, 1) := by decide +kernel
theorem dX2_wearMortar_54 : decode cX2_wearMortar 54 = .ok (.aload_n 0, 1) := by decide +kernel
theorem dX2_wearMortar_55 : decode cX2_wearMortar 55 = .ok (.getfield 53, 3) := by decide +kernel
theorem dX2_wearMortar_58 : decode cX2_wearMortar 58 = .ok (.if_icmp .ge 38, 3) := by decide +kernel
theorem dX2_wearMortar_61 : decode cX2_wearMortar 61 = .ok (.iload_n 1, 1) := by decide +kernel
theorem dX2_wearMortar_62 : decode cX2_wearMortar 62 = .ok (.iload_n 3, 1) := by decide +kernel
theorem dX2_wearMortar_63 : decode cX2_wearMortar 63 = .ok (.invokestatic 84, 3) := by decide +kernel
theorem dX2_wearMortar_66 : decode cX2_wearMortar 66 = .ok (.ifCond .eq 24, 3) := by decide +kernel
theorem dX2_wearMortar_69 : decode cX2_wearMortar 69 = .ok (.aload_n 0, 1) := by decide +kernel
theorem dX2_wearMortar_70 : decode cX2_wearMortar 70 = .ok (.getfield 15, 3) := by decide +kernel
theorem dX2_wearMortar_73 : decode cX2_wearMortar 73 = .ok (.iload_n 3, 1) := by decide +kernel
theorem dX2_wearMortar_74 : decode cX2_wearMortar 74 = .ok (.iaload, 1) := by decide +kernel
theorem dX2_wearMortar_75 : decode cX2_wearMortar 75 = .ok (.ifCond .le 15, 3) := by decide +kernel
theorem dX2_wearMortar_78 : decode cX2_wearMortar 78 = .ok (.aload_n 0, 1) := by decide +kernel
theorem dX2_wearMortar_79 : decode cX2_wearMortar 79 = .ok (.getfield 15, 3) := by decide +kernel
theorem dX2_wearMortar_82 : decode cX2_wearMortar 82 = .ok (.iload_n 3, 1) := by decide +kernel
theorem dX2_wearMortar_83 : decode cX2_wearMortar 83 = .ok (.dup2, 1) := by decide +kernel
theorem dX2_wearMortar_84 : decode cX2_wearMortar 84 = .ok (.iaload, 1) := by decide +kernel
theorem dX2_wearMortar_85 : decode cX2_wearMortar 85 = .ok (.iconst 1, 1) := by decide +kernel
theorem dX2_wearMortar_86 : decode cX2_wearMortar 86 = .ok (.isub, 1) := by decide +kernel
theorem dX2_wearMortar_87 : decode cX2_wearMortar 87 = .ok (.iastore, 1) := by decide +kernel
theorem dX2_wearMortar_88 : decode cX2_wearMortar 88 = .ok (.iconst 1, 1) := by decide +kernel
theorem dX2_wearMortar_89 : decode cX2_wearMortar 89 = .ok (.istore_n 2, 1) := by decide +kernel
theorem dX2_wearMortar_90 : decode cX2_wearMortar 90 = .ok (.iinc 3 1, 3) := by decide +kernel
theorem dX2_wearMortar_93 : decode cX2_wearMortar 93 = .ok (.goto (-40), 3) := by decide +kernel
theorem dX2_wearMortar_96 : decode cX2_wearMortar 96 = .ok (.iload_n 2, 1) := by decide +kernel
theorem dX2_wearMortar_97 : decode cX2_wearMortar 97 = .ok (.ireturn, 1) := by decide +kernel
def qX2_wearMortar_b43  (post : Int32 → St → Prop) (K4 : Int32 → Int32 → St → Prop) (x1 : Int32) (x2 : Int32) (u0 : St) : Prop := ∀ x2_8 : Int32, x2_8 = x2 + (1 : Int32) → K4 x1 x2_8 u0
set_option maxRecDepth 100000 in
set_option maxHeartbeats 4000000 in
theorem kX2_wearMortar_b43 {C : Cx} {o0 : Nat} {a0 : Nat → Nat} (hC : Fx C cX2_wearMortar 4 RX2) (hR0 : xR C = rm 2) {post : Int32 → St → Prop} (hR : RZ C cX2_wearMortar 4 (fun u : St => (wX2 o0 a0 (xy C) u [])) (fun r u => post r u)) {K4 : Int32 → Int32 → St → Prop} (hK4 : ∀ (x1 : Int32) (x2 : Int32) (u0 : St), K4 x1 x2 u0 → G C 0 0 4 (wX2 o0 a0 (xy C) u0 []) 4 [(0, .ref o0), (1, .int x1), (2, .int x2)] []) {x1 : Int32} {x2 : Int32} {u0 : St} (h : qX2_wearMortar_b43 post K4 x1 x2 u0) : G C 0 0 4 (wX2 o0 a0 (xy C) u0 []) 43 [(0, .ref o0), (1, .int x1), (2, .int x2)] [] := by
  obtain ⟨x2_8, ex2_8⟩ : ∃ z : Int32, z = x2 + (1 : Int32) := ⟨_, rfl⟩
  have h := h x2_8 ex2_8
  refine g_iinc (pc := 43) (v := x2_8) (lv' := [(2, .int x2_8), (0, .ref o0), (1, .int x1)]) hC 2 dX2_wearMortar_43 rfl (by rw [ex2_8]; rfl) (Nat.le_of_ble_eq_true rfl) rfl ?_
  refine g_goto (pc := 46) (tgt := 4) hC dX2_wearMortar_46 (by decide) ?_
  refine g_sub (lv' := [(0, .ref o0), (1, .int x1), (2, .int x2_8)]) [1, 2, 0] rfl ?_
  exact hK4 _ _ _ h
def qX2_wearMortar_b90  (post : Int32 → St → Prop) (K53 : Int32 → Int32 → Int32 → St → Prop) (x1 : Int32) (x2 : Int32) (x3 : Int32) (u0 : St) : Prop := ∀ x3_9 : Int32, x3_9 = x3 + (1 : Int32) → K53 x1 x2 x3_9 u0
set_option maxRecDepth 100000 in
set_option maxHeartbeats 4000000 in
theorem kX2_wearMortar_b90 {C : Cx} {o0 : Nat} {a0 : Nat → Nat} (hC : Fx C cX2_wearMortar 4 RX2) (hR0 : xR C = rm 2) {post : Int32 → St → Prop} (hR : RZ C cX2_wearMortar 4 (fun u : St => (wX2 o0 a0 (xy C) u [])) (fun r u => post r u)) {K53 : Int32 → Int32 → Int32 → St → Prop} (hK53 : ∀ (x1 : Int32) (x2 : Int32) (x3 : Int32) (u0 : St), K53 x1 x2 x3 u0 → G C 0 0 4 (wX2 o0 a0 (xy C) u0 []) 53 [(0, .ref o0), (1, .int x1), (2, .int x2), (3, .int x3)] []) {x1 : Int32} {x2 : Int32} {x3 : Int32} {u0 : St} (h : qX2_wearMortar_b90 post K53 x1 x2 x3 u0) : G C 0 0 4 (wX2 o0 a0 (xy C) u0 []) 90 [(0, .ref o0), (1, .int x1), (2, .int x2), (3, .int x3)] [] := by
  obtain ⟨x3_9, ex3_9⟩ : ∃ z : Int32, z = x3 + (1 : Int32) := ⟨_, rfl⟩
  have h := h x3_9 ex3_9
  refine g_iinc (pc := 90) (v := x3_9) (lv' := [(3, .int x3_9), (0, .ref o0), (1, .int x1), (2, .int x2)]) hC 3 dX2_wearMortar_90 rfl (by rw [ex3_9]; rfl) (Nat.le_of_ble_eq_true rfl) rfl ?_
  refine g_goto (pc := 93) (tgt := 53) hC dX2_wearMortar_93 (by decide) ?_
  refine g_sub (lv' := [(0, .ref o0), (1, .int x1), (2, .int x2), (3, .int x3_9)]) [1, 2, 3, 0] rfl ?_
  exact hK53 _ _ _ _ h
def qX2_wearMortar_l53  (post : Int32 → St → Prop) (K53 : Int32 → Int32 → Int32 → St → Prop) (x1 : Int32) (x2 : Int32) (x3 : Int32) (u0 : St) : Prop := (((gi u0 0) ≤ x3 → (bz x2 ∧ post x2 u0)) ∧ (¬ (gi u0 0) ≤ x3 → qX11_has x1 x3 (fun r_11 => ((r_11 = 0 → qX2_wearMortar_b90 post K53 x1 x2 x3 u0) ∧ (¬ r_11 = 0 → (vp_in x3 8 ∧ (((ga u0 8 (x3).toNatClampNeg) ≤ 0 → qX2_wearMortar_b90 post K53 x1 x2 x3 u0) ∧ (¬ (ga u0 8 (x3).toNatClampNeg) ≤ 0 → (vp_in x3 8 ∧ (vp_in x3 8 ∧ ∀ u_15 : St, u_15 = (sw u0 8 (upd (ga u0 8) (x3).toNatClampNeg ((ga u0 8 (x3).toNatClampNeg) - (1 : Int32)))) → qX2_wearMortar_b90 post K53 x1 (1 : Int32) x3 u_15))))))))))
set_option maxRecDepth 100000 in
set_option maxHeartbeats 4000000 in
theorem kX2_wearMortar_l53 {C : Cx} {o0 : Nat} {a0 : Nat → Nat} (hC : Fx C cX2_wearMortar 4 RX2) (hR0 : xR C = rm 2) {post : Int32 → St → Prop} (hR : RZ C cX2_wearMortar 4 (fun u : St => (wX2 o0 a0 (xy C) u [])) (fun r u => post r u))  {K53 : Int32 → Int32 → Int32 → St → Prop} (hK53 : ∀ (x1 : Int32) (x2 : Int32) (x3 : Int32) (u0 : St), K53 x1 x2 x3 u0 → G C 0 0 4 (wX2 o0 a0 (xy C) u0 []) 53 [(0, .ref o0), (1, .int x1), (2, .int x2), (3, .int x3)] []) {x1 : Int32} {x2 : Int32} {x3 : Int32} {u0 : St} (h : qX2_wearMortar_l53 post K53 x1 x2 x3 u0) : G C 0 0 4 (wX2 o0 a0 (xy C) u0 []) 53 [(0, .ref o0), (1, .int x1), (2, .int x2), (3, .int x3)] [] := by
  refine g_iload_n (pc := 53) hC 3 dX2_wearMortar_53 rfl rfl ?_
  refine g_aload_n (pc := 54) hC 0 dX2_wearMortar_54 rfl rfl ?_
  refine getX2_0 (pc := 55) hC (F := fun Z => Z) (X := []) (fun _ => rfl) fl_X2_53 dX2_wearMortar_55 ?_
  refine g_icmp_ge (pc := 58) (tgt := 96) hC dX2_wearMortar_58 (by decide) (fun c_10 => ?_) (fun c_10 => ?_)
  · have h := h.1 c_10
    refine g_iload_n (pc := 96) hC 2 dX2_wearMortar_96 rfl rfl ?_
    exact hR _ _ _ u0 dX2_wearMortar_97 h.1 h.2
  · have h := h.2 c_10
    refine g_iload_n (pc := 61) hC 1 dX2_wearMortar_61 rfl rfl ?_
    refine g_iload_n (pc := 62) hC 3 dX2_wearMortar_62 rfl rfl ?_
    refine g_callSN_i (pc := 63) (wd := fun (_ : Unit) Y => Y) (F := fun Z => Z) (X := []) (As := [.int x1, .int x3]) (rest := []) (u := ()) hC (fun _ _ => rfl) (fun _ => rfl) (ctX11_has h) wvX11_has nl_X2_84 rfl (rmok hR0 rfl) ⟨Nat.zero_le _, Nat.zero_le _⟩ rfl (Nat.le_of_ble_eq_true rfl) dX2_wearMortar_63 (fun r_11 u_12 h => ?_)
    refine g_if_eq (pc := 66) (tgt := 90) hC dX2_wearMortar_66 (by decide) (fun c_13 => ?_) (fun c_13 => ?_)
    · have h := h.1 c_13
      exact kX2_wearMortar_b90 hC hR0 hR hK53 h
    · have h := h.2 c_13
      refine g_aload_n (pc := 69) hC 0 dX2_wearMortar_69 rfl rfl ?_
      refine getX2_8 (pc := 70) hC (F := fun Z => Z) (X := []) (fun _ => rfl) fl_X2_15 dX2_wearMortar_70 ?_
      refine g_iload_n (pc := 73) hC 3 dX2_wearMortar_73 rfl rfl ?_
      refine aldX2_8 (pc := 74) hC (F := fun Z => Z) (X := []) (fun _ => rfl) h.1 dX2_wearMortar_74 ?_
      have h := h.2
      refine g_if_le (pc := 75) (tgt := 90) hC dX2_wearMortar_75 (by decide) (fun c_14 => ?_) (fun c_14 => ?_)
      · have h := h.1 c_14
        exact kX2_wearMortar_b90 hC hR0 hR hK53 h
      · have h := h.2 c_14
        refine g_aload_n (pc := 78) hC 0 dX2_wearMortar_78 rfl rfl ?_
        refine getX2_8 (pc := 79) hC (F := fun Z => Z) (X := []) (fun _ => rfl) fl_X2_15 dX2_wearMortar_79 ?_
        refine g_iload_n (pc := 82) hC 3 dX2_wearMortar_82 rfl rfl ?_
        refine g_dup2 (pc := 83) hC dX2_wearMortar_83 rfl rfl ?_
        refine aldX2_8 (pc := 84) hC (F := fun Z => Z) (X := []) (fun _ => rfl) h.1 dX2_wearMortar_84 ?_
        have h := h.2
        refine g_iconst (pc := 85) (v := 1) hC dX2_wearMortar_85 (by decide) ?_
        refine g_isub (pc := 86) hC dX2_wearMortar_86 ?_
        refine astX2_8 (pc := 87) hC (F := fun Z => Z) (X := []) (fun _ => rfl) h.1 dX2_wearMortar_87 ?_
        have h := h.2
        refine g_st (w := fun z => (wX2 o0 a0 (xy C) z [])) (u := (sw u0 8 (upd (ga u0 8) (x3).toNatClampNeg ((ga u0 8 (x3).toNatClampNeg) - (1 : Int32))))) (fun u_15 eu_15 => ?_)
        have h := h u_15 eu_15
        refine g_iconst (pc := 88) (v := 1) hC dX2_wearMortar_88 (by decide) ?_
        refine g_istore_n (pc := 89) (lv' := [(2, .int (1 : Int32)), (0, .ref o0), (1, .int x1), (3, .int x3)]) hC dX2_wearMortar_89 rfl (Nat.le_of_ble_eq_true rfl) rfl ?_
        refine g_sub (lv' := [(0, .ref o0), (1, .int x1), (2, .int (1 : Int32)), (3, .int x3)]) [1, 2, 0, 3] rfl ?_
        exact kX2_wearMortar_b90 hC hR0 hR hK53 h
def qX2_wearMortar_L53  (post : Int32 → St → Prop)  : Nat → Int32 → Int32 → Int32 → St → Prop
  | 0 => fun _ _ _ _ => False
  | n + 1 => qX2_wearMortar_l53 post (qX2_wearMortar_L53 post n)
theorem kX2_wearMortar_L53 {C : Cx} {o0 : Nat} {a0 : Nat → Nat} (hC : Fx C cX2_wearMortar 4 RX2) (hR0 : xR C = rm 2) {post : Int32 → St → Prop} (hR : RZ C cX2_wearMortar 4 (fun u : St => (wX2 o0 a0 (xy C) u [])) (fun r u => post r u))  : ∀ (n : Nat) (x1 : Int32) (x2 : Int32) (x3 : Int32) (u0 : St), qX2_wearMortar_L53 post n x1 x2 x3 u0 → G C 0 0 4 (wX2 o0 a0 (xy C) u0 []) 53 [(0, .ref o0), (1, .int x1), (2, .int x2), (3, .int x3)] [] := by
  intro n
  induction n with
  | zero => intro x1 x2 x3 u0 h; exact h.elim
  | succ n ih => intro x1 x2 x3 u0 h; exact kX2_wearMortar_l53 hC hR0 hR  ih h
def qX2_wearMortar_b49  (post : Int32 → St → Prop)  (x1 : Int32) (u0 : St) : Prop := ∃ n_16 : Nat, qX2_wearMortar_L53 post n_16 x1 (0 : Int32) (0 : Int32) u0
set_option maxRecDepth 100000 in
set_option maxHeartbeats 4000000 in
theorem kX2_wearMortar_b49 {C : Cx} {o0 : Nat} {a0 : Nat → Nat} (hC : Fx C cX2_wearMortar 4 RX2) (hR0 : xR C = rm 2) {post : Int32 → St → Prop} (hR : RZ C cX2_wearMortar 4 (fun u : St => (wX2 o0 a0 (xy C) u [])) (fun r u => post r u))  {x1 : Int32} {u0 : St} (h : qX2_wearMortar_b49 post x1 u0) : G C 0 0 4 (wX2 o0 a0 (xy C) u0 []) 49 [(0, .ref o0), (1, .int x1)] [] := by
  refine g_iconst (pc := 49) (v := 0) hC dX2_wearMortar_49 (by decide) ?_
  refine g_istore_n (pc := 50) (lv' := [(2, .int (0 : Int32)), (0, .ref o0), (1, .int x1)]) hC dX2_wearMortar_50 rfl (Nat.le_of_ble_eq_true rfl) rfl ?_
  refine g_iconst (pc := 51) (v := 0) hC dX2_wearMortar_51 (by decide) ?_
  refine g_istore_n (pc := 52) (lv' := [(3, .int (0 : Int32)), (2, .int (0 : Int32)), (0, .ref o0), (1, .int x1)]) hC dX2_wearMortar_52 rfl (Nat.le_of_ble_eq_true rfl) rfl ?_
  refine g_sub (lv' := [(0, .ref o0), (1, .int x1), (2, .int (0 : Int32)), (3, .int (0 : Int32))]) [2, 3, 1, 0] rfl ?_
  obtain ⟨n_16, h⟩ := h
  exact kX2_wearMortar_L53 hC hR0 hR  n_16 _ _ _ _ h
def qX2_wearMortar_l4  (post : Int32 → St → Prop) (K4 : Int32 → Int32 → St → Prop) (x1 : Int32) (x2 : Int32) (u0 : St) : Prop := (((gi u0 2) ≤ x2 → qX2_wearMortar_b49 post x1 u0) ∧ (¬ (gi u0 2) ≤ x2 → qX11_has (gi u0 6) x2 (fun r_18 => ((¬ r_18 = 0 → qX2_wearMortar_b43 post K4 x1 x2 u0) ∧ (r_18 = 0 → (vp_in x2 7 ∧ (((ga u0 19 (x2).toNatClampNeg) ≤ 0 → qX2_wearMortar_b43 post K4 x1 x2 u0) ∧ (¬ (ga u0 19 (x2).toNatClampNeg) ≤ 0 → (vp_in x2 7 ∧ ∀ x1_22 : Int32, x1_22 = (x1 ||| ((1 : Int32) <<< ((ga u0 18 (x2).toNatClampNeg) &&& 31))) → qX2_wearMortar_b43 post K4 x1_22 x2 u0)))))))))
set_option maxRecDepth 100000 in
set_option maxHeartbeats 4000000 in
theorem kX2_wearMortar_l4 {C : Cx} {o0 : Nat} {a0 : Nat → Nat} (hC : Fx C cX2_wearMortar 4 RX2) (hR0 : xR C = rm 2) {post : Int32 → St → Prop} (hR : RZ C cX2_wearMortar 4 (fun u : St => (wX2 o0 a0 (xy C) u [])) (fun r u => post r u))  {K4 : Int32 → Int32 → St → Prop} (hK4 : ∀ (x1 : Int32) (x2 : Int32) (u0 : St), K4 x1 x2 u0 → G C 0 0 4 (wX2 o0 a0 (xy C) u0 []) 4 [(0, .ref o0), (1, .int x1), (2, .int x2)] []) {x1 : Int32} {x2 : Int32} {u0 : St} (h : qX2_wearMortar_l4 post K4 x1 x2 u0) : G C 0 0 4 (wX2 o0 a0 (xy C) u0 []) 4 [(0, .ref o0), (1, .int x1), (2, .int x2)] [] := by
  refine g_iload_n (pc := 4) hC 2 dX2_wearMortar_4 rfl rfl ?_
  refine g_aload_n (pc := 5) hC 0 dX2_wearMortar_5 rfl rfl ?_
  refine getX2_2 (pc := 6) hC (F := fun Z => Z) (X := []) (fun _ => rfl) fl_X2_59 dX2_wearMortar_6 ?_
  refine g_icmp_ge (pc := 9) (tgt := 49) hC dX2_wearMortar_9 (by decide) (fun c_17 => ?_) (fun c_17 => ?_)
  · have h := h.1 c_17
    refine g_sub (lv' := [(0, .ref o0), (1, .int x1)]) [0, 1] rfl ?_
    exact kX2_wearMortar_b49 hC hR0 hR  h
  · have h := h.2 c_17
    refine g_aload_n (pc := 12) hC 0 dX2_wearMortar_12 rfl rfl ?_
    refine getX2_6 (pc := 13) hC (F := fun Z => Z) (X := []) (fun _ => rfl) fl_X2_68 dX2_wearMortar_13 ?_
    refine g_iload_n (pc := 16) hC 2 dX2_wearMortar_16 rfl rfl ?_
    refine g_callSN_i (pc := 17) (wd := fun (_ : Unit) Y => Y) (F := fun Z => Z) (X := []) (As := [.int (gi u0 6), .int x2]) (rest := []) (u := ()) hC (fun _ _ => rfl) (fun _ => rfl) (ctX11_has h) wvX11_has nl_X2_84 rfl (rmok hR0 rfl) ⟨Nat.zero_le _, Nat.zero_le _⟩ rfl (Nat.le_of_ble_eq_true rfl) dX2_wearMortar_17 (fun r_18 u_19 h => ?_)
    refine g_if_ne (pc := 20) (tgt := 43) hC dX2_wearMortar_20 (by decide) (fun c_20 => ?_) (fun c_20 => ?_)
    · have h := h.1 c_20
      exact kX2_wearMortar_b43 hC hR0 hR hK4 h
    · have h := h.2 c_20
      refine g_aload_n (pc := 23) hC 0 dX2_wearMortar_23 rfl rfl ?_
      refine getX2_19 (pc := 24) hC (F := fun Z => Z) (X := []) (fun _ => rfl) fl_X2_50 dX2_wearMortar_24 ?_
      refine g_iload_n (pc := 27) hC 2 dX2_wearMortar_27 rfl rfl ?_
      refine aldX2_19 (pc := 28) hC (F := fun Z => Z) (X := []) (fun _ => rfl) h.1 dX2_wearMortar_28 ?_
      have h := h.2
      refine g_if_le (pc := 29) (tgt := 43) hC dX2_wearMortar_29 (by decide) (fun c_21 => ?_) (fun c_21 => ?_)
      · have h := h.1 c_21
        exact kX2_wearMortar_b43 hC hR0 hR hK4 h
      · have h := h.2 c_21
        refine g_iload_n (pc := 32) hC 1 dX2_wearMortar_32 rfl rfl ?_
        refine g_iconst (pc := 33) (v := 1) hC dX2_wearMortar_33 (by decide) ?_
        refine g_aload_n (pc := 34) hC 0 dX2_wearMortar_34 rfl rfl ?_
        refine getX2_18 (pc := 35) hC (F := fun Z => Z) (X := []) (fun _ => rfl) fl_X2_47 dX2_wearMortar_35 ?_
        refine g_iload_n (pc := 38) hC 2 dX2_wearMortar_38 rfl rfl ?_
        refine aldX2_18 (pc := 39) hC (F := fun Z => Z) (X := []) (fun _ => rfl) h.1 dX2_wearMortar_39 ?_
        have h := h.2
        refine g_ishl (pc := 40) hC dX2_wearMortar_40 ?_
        refine g_ior (pc := 41) hC dX2_wearMortar_41 ?_
        refine g_topi (fun x1_22 ex1_22 => ?_)
        have h := h x1_22 ex1_22
        refine g_istore_n (pc := 42) (lv' := [(1, .int x1_22), (0, .ref o0), (2, .int x2)]) hC dX2_wearMortar_42 rfl (Nat.le_of_ble_eq_true rfl) rfl ?_
        refine g_sub (lv' := [(0, .ref o0), (1, .int x1_22), (2, .int x2)]) [1, 0, 2] rfl ?_
        exact kX2_wearMortar_b43 hC hR0 hR hK4 h
def qX2_wearMortar_L4  (post : Int32 → St → Prop)  : Nat → Int32 → Int32 → St → Prop
  | 0 => fun _ _ _ => False
  | n + 1 => qX2_wearMortar_l4 post (qX2_wearMortar_L4 post n)
theorem kX2_wearMortar_L4 {C : Cx} {o0 : Nat} {a0 : Nat → Nat} (hC : Fx C cX2_wearMortar 4 RX2) (hR0 : xR C = rm 2) {post : Int32 → St → Prop} (hR : RZ C cX2_wearMortar 4 (fun u : St => (wX2 o0 a0 (xy C) u [])) (fun r u => post r u))  : ∀ (n : Nat) (x1 : Int32) (x2 : Int32) (u0 : St), qX2_wearMortar_L4 post n x1 x2 u0 → G C 0 0 4 (wX2 o0 a0 (xy C) u0 []) 4 [(0, .ref o0), (1, .int x1), (2, .int x2)] [] := by
  intro n
  induction n with
  | zero => intro x1 x2 u0 h; exact h.elim
  | succ n ih => intro x1 x2 u0 h; exact kX2_wearMortar_l4 hC hR0 hR  ih h
def qX2_wearMortar  (u0 : St) (post : Int32 → St → Prop) : Prop := ∃ n_23 : Nat, qX2_wearMortar_L4 post n_23 (0 : Int32) (0 : Int32) u0
set_option maxRecDepth 100000 in
set_option maxHeartbeats 4000000 in
theorem kX2_wearMortar {C : Cx} {o0 : Nat} {a0 : Nat → Nat} (hC : Fx C cX2_wearMortar 4 RX2) (hR0 : xR C = rm 2) {post : Int32 → St → Prop} (hR : RZ C cX2_wearMortar 4 (fun u : St => (wX2 o0 a0 (xy C) u [])) (fun r u => post r u))  {u0 : St} (h : qX2_wearMortar  u0 post) : G C 0 0 4 (wX2 o0 a0 (xy C) u0 []) 0 [(0, .ref o0)] [] := by
  refine g_iconst (pc := 0) (v := 0) hC dX2_wearMortar_0 (by decide) ?_
  refine g_istore_n (pc := 1) (lv' := [(1, .int (0 : Int32)), (0, .ref o0)]) hC dX2_wearMortar_1 rfl (Nat.le_of_ble_eq_true rfl) rfl ?_
  refine g_iconst (pc := 2) (v := 0) hC dX2_wearMortar_2 (by decide) ?_
  refine g_istore_n (pc := 3) (lv' := [(2, .int (0 : Int32)), (1, .int (0 : Int32)), (0, .ref o0)]) hC dX2_wearMortar_3 rfl (Nat.le_of_ble_eq_true rfl) rfl ?_
  refine g_sub (lv' := [(0, .ref o0), (1, .int (0 : Int32)), (2, .int (0 : Int32))]) [2, 1, 0] rfl ?_
  obtain ⟨n_23, h⟩ := h
  exact kX2_wearMortar_L4 hC hR0 hR  n_23 _ _ _ h
theorem ctX2_wearMortar {l : Launch} {D : va_G} {cy : Nat → ClassId} {kd : Nat → Nat} {o0 : Nat} {a0 : Nat → Nat}  {u0 : St} {post : Int32 → St → Prop} (h : qX2_wearMortar  u0 post) : CtI l D cy kd yX2_wearMortar cX2_wearMortar 4 2 .boolean [.ref o0] (fun u : St => (wX2 o0 a0 cy u [])) u0 (fun r u => post r u) := met_z (by decide) (Nat.le_of_ble_eq_true rfl) (fun C e1 e2 e3 e4 e5 hC hR => by subst e1 e2 e3 e4; exact kX2_wearMortar hC e5 hR h)
theorem dX2_passYears_0 : decode cX2_passYears 0 = .ok (.aload_n 0, 1) := by decide +kernel
theorem dX2_passYears_1 : decode cX2_passYears 1 = .ok (.dup, 1) := by decide +kernel
theorem dX2_passYears_2 : decode cX2_passYears 2 = .ok (.getfield 62, 3) := by decide +kernel
theorem dX2_passYears_5 : decode cX2_passYears 5 = .ok (.iload_n 1, 1) := by decide +kernel
theorem dX2_passYears_6 : decode cX2_passYears 6 = .ok (.iadd, 1) := by decide +kernel
theorem dX2_passYears_7 : decode cX2_passYears 7 = .ok (.putfield 62, 3) := by decide +kernel
theorem dX2_passYears_10 : decode cX2_passYears 10 = .ok (.iconst 1, 1) := by decide +kernel
theorem dX2_passYears_11 : decode cX2_passYears 11 = .ok (.istore_n 2, 1) := by decide +kernel
theorem dX2_passYears_12 : decode cX2_passYears 12 = .ok (.iconst 0, 1) := by decide +kernel
theorem dX2_passYears_13 : decode cX2_passYears 13 = .ok (.istore_n 3, 1) := by decide +kernel
theorem dX2_passYears_14 : decode cX2_passYears 14 = .ok (.iload_n 3, 1) := by decide +kernel
theorem dX2_passYears_15 : decode cX2_passYears 15 = .ok (.iload_n 1, 1) := by decide +kernel
theorem dX2_passYears_16 : decode cX2_passYears 16 = .ok (.if_icmp .ge 50, 3) := by decide +kernel
theorem dX2_passYears_19 : decode cX2_passYears 19 = .ok (.iload_n 2, 1) := by decide +kernel
theorem dX2_passYears_20 : decode cX2_passYears 20 = .ok (.ifCond .eq 46, 3) := by decide +kernel
theorem dX2_passYears_23 : decode cX2_passYears 23 = .ok (.aload_n 0, 1) := by decide +kernel
theorem dX2_passYears_24 : decode cX2_passYears 24 = .ok (.invokevirtual 112, 3) := by decide +kernel
theorem dX2_passYears_27 : decode cX2_passYears 27 = .ok (.istore 4, 2) := by decide +kernel
theorem dX2_passYears_29 : decode cX2_passYears 29 = .ok (.aload_n 0, 1) := by decide +kernel
theorem dX2_passYears_30 : decode cX2_passYears 30 = .ok (.invokevirtual 116, 3) := by decide +kernel
theorem dX2_passYears_33 : decode cX2_passYears 33 = .ok (.istore 5, 2) := by decide +kernel
theorem dX2_passYears_35 : decode cX2_passYears 35 = .ok (.iload 4, 2) := by decide +kernel
theorem dX2_passYears_37 : decode cX2_passYears 37 = .ok (.ifCond .ne 8, 3) := by decide +kernel
theorem dX2_passYears_40 : decode cX2_passYears 40 = .ok (.iload 5, 2) := by decide +kernel
theorem dX2_passYears_42 : decode cX2_passYears 42 = .ok (.ifCond .eq 7, 3) := by decide +kernel
theorem dX2_passYears_45 : decode cX2_passYears 45 = .ok (.iconst 1, 1) := by decide +kernel
theorem dX2_passYears_46 : decode cX2_passYears 46 = .ok (.goto 4, 3) := by decide +kernel
theorem dX2_passYears_49 : decode cX2_passYears 49 = .ok (.iconst 0, 1) := by decide +kernel
theorem dX2_passYears_50 : decode cX2_passYears 50 = .ok (.istore_n 2, 1) := by decide +kernel
theorem dX2_passYears_51 : decode cX2_passYears 51 = .ok (.iload 5, 2) := by decide +kernel
theorem dX2_passYears_53 : decode cX2_passYears 53 = .ok (.ifCond .eq 7, 3) := by decide +kernel
theorem dX2_passYears_56 : decode cX2_passYears 56 = .ok (.aload_n 0, 1) := by decide +kernel
theorem dX2_passYears_57 : decode cX2_passYears 57 = .ok (.invokevirtual 119, 3) := by decide +kernel
theorem dX2_passYears_60 : decode cX2_passYears 60 = .ok (.iinc 3 1, 3) := by decide +kernel
theorem dX2_passYears_63 : decode cX2_passYears 63 = .ok (.goto (-49), 3) := by decide +kernel
theorem dX2_passYears_66 : decode cX2_passYears 66 = .ok (.return_, 1) := by decide +kernel
def qX2_passYears_b60  (post : St → Prop) (K14 : Int32 → Int32 → Int32 → St → Prop) (x1 : Int32) (x2 : Int32) (x3 : Int32) (u0 : St) : Prop := ∀ x3_11 : Int32, x3_11 = x3 + (1 : Int32) → K14 x1 x2 x3_11 u0
set_option maxRecDepth 100000 in
set_option maxHeartbeats 4000000 in
theorem kX2_passYears_b60 {C : Cx} {o0 : Nat} {a0 : Nat → Nat} (hC : Fx C cX2_passYears 6 RX2) (hR0 : xR C = rm 4) {post : St → Prop} (hR : RV C cX2_passYears 6 (fun u : St => (wX2 o0 a0 (xy C) u [])) (fun u => post u)) {K14 : Int32 → Int32 → Int32 → St → Prop} (hK14 : ∀ (x1 : Int32) (x2 : Int32) (x3 : Int32) (u0 : St), K14 x1 x2 x3 u0 → G C 0 0 6 (wX2 o0 a0 (xy C) u0 []) 14 [(0, .ref o0), (1, .int x1), (2, .int x2), (3, .int x3)] []) {x1 : Int32} {x2 : Int32} {x3 : Int32} {u0 : St} (h : qX2_passYears_b60 post K14 x1 x2 x3 u0) : G C 0 0 6 (wX2 o0 a0 (xy C) u0 []) 60 [(0, .ref o0), (1, .int x1), (2, .int x2), (3, .int x3)] [] := by
  obtain ⟨x3_11, ex3_11⟩ : ∃ z : Int32, z = x3 + (1 : Int32) := ⟨_, rfl⟩
  have h := h x3_11 ex3_11
  refine g_iinc (pc := 60) (v := x3_11) (lv' := [(3, .int x3_11), (0, .ref o0), (1, .int x1), (2, .int x2)]) hC 3 dX2_passYears_60 rfl (by rw [ex3_11]; rfl) (Nat.le_of_ble_eq_true rfl) rfl ?_
  refine g_goto (pc := 63) (tgt := 14) hC dX2_passYears_63 (by decide) ?_
  refine g_sub (lv' := [(0, .ref o0), (1, .int x1), (2, .int x2), (3, .int x3_11)]) [1, 2, 3, 0] rfl ?_
  exact hK14 _ _ _ _ h
def qX2_passYears_b50  (post : St → Prop) (K14 : Int32 → Int32 → Int32 → St → Prop) (x1 : Int32) (x3 : Int32) (x5 : Int32) (s0 : Int32) (u0 : St) : Prop := ((x5 = 0 → qX2_passYears_b60 post K14 x1 s0 x3 u0) ∧ (¬ x5 = 0 → qX2_settle u0 (fun u_13 => qX2_passYears_b60 post K14 x1 s0 x3 u_13)))
set_option maxRecDepth 100000 in
set_option maxHeartbeats 4000000 in
theorem kX2_passYears_b50 {C : Cx} {o0 : Nat} {a0 : Nat → Nat} (hC : Fx C cX2_passYears 6 RX2) (hR0 : xR C = rm 4) {post : St → Prop} (hR : RV C cX2_passYears 6 (fun u : St => (wX2 o0 a0 (xy C) u [])) (fun u => post u)) {K14 : Int32 → Int32 → Int32 → St → Prop} (hK14 : ∀ (x1 : Int32) (x2 : Int32) (x3 : Int32) (u0 : St), K14 x1 x2 x3 u0 → G C 0 0 6 (wX2 o0 a0 (xy C) u0 []) 14 [(0, .ref o0), (1, .int x1), (2, .int x2), (3, .int x3)] []) {x1 : Int32} {x3 : Int32} {x5 : Int32} {s0 : Int32} {u0 : St} (h : qX2_passYears_b50 post K14 x1 x3 x5 s0 u0) : G C 0 0 6 (wX2 o0 a0 (xy C) u0 []) 50 [(0, .ref o0), (1, .int x1), (3, .int x3), (5, .int x5)] [.int s0] := by
  refine g_istore_n (pc := 50) (lv' := [(2, .int s0), (0, .ref o0), (1, .int x1), (3, .int x3), (5, .int x5)]) hC dX2_passYears_50 rfl (Nat.le_of_ble_eq_true rfl) rfl ?_
  refine g_iload (pc := 51) hC 4 dX2_passYears_51 rfl ?_
  refine g_if_eq (pc := 53) (tgt := 60) hC dX2_passYears_53 (by decide) (fun c_12 => ?_) (fun c_12 => ?_)
  · have h := h.1 c_12
    refine g_sub (lv' := [(0, .ref o0), (1, .int x1), (2, .int s0), (3, .int x3)]) [1, 2, 0, 3] rfl ?_
    exact kX2_passYears_b60 hC hR0 hR hK14 h
  · have h := h.2 c_12
    refine g_aload_n (pc := 56) hC 1 dX2_passYears_56 rfl rfl ?_
    refine g_callV_v (pc := 57) (wd := fun (u : St) Y => (wX2 o0 a0 (xy C) u Y)) (F := fun Z => Z) (X := []) (As := []) (rest := []) (u := u0) hC (fun _ _ => rfl) (fun _ => rfl) (ctX2_settle h) wvX2_settle ml_X2_119 (ci := 1) (q0 := 0) rfl rfl rfl rfl (rmok hR0 rfl) ⟨Nat.zero_le _, Nat.zero_le _⟩ rfl (Nat.le_of_ble_eq_true rfl) dX2_passYears_57 (fun u_13 h => ?_)
    refine g_sub (lv' := [(0, .ref o0), (1, .int x1), (2, .int s0), (3, .int x3)]) [1, 2, 0, 3] rfl ?_
    exact kX2_passYears_b60 hC hR0 hR hK14 h
def qX2_passYears_b45  (post : St → Prop) (K14 : Int32 → Int32 → Int32 → St → Prop) (x1 : Int32) (x3 : Int32) (x5 : Int32) (u0 : St) : Prop := qX2_passYears_b50 post K14 x1 x3 x5 (1 : Int32) u0
set_option maxRecDepth 100000 in
set_option maxHeartbeats 4000000 in
theorem kX2_passYears_b45 {C : Cx} {o0 : Nat} {a0 : Nat → Nat} (hC : Fx C cX2_passYears 6 RX2) (hR0 : xR C = rm 4) {post : St → Prop} (hR : RV C cX2_passYears 6 (fun u : St => (wX2 o0 a0 (xy C) u [])) (fun u => post u)) {K14 : Int32 → Int32 → Int32 → St → Prop} (hK14 : ∀ (x1 : Int32) (x2 : Int32) (x3 : Int32) (u0 : St), K14 x1 x2 x3 u0 → G C 0 0 6 (wX2 o0 a0 (xy C) u0 []) 14 [(0, .ref o0), (1, .int x1), (2, .int x2), (3, .int x3)] []) {x1 : Int32} {x3 : Int32} {x5 : Int32} {u0 : St} (h : qX2_passYears_b45 post K14 x1 x3 x5 u0) : G C 0 0 6 (wX2 o0 a0 (xy C) u0 []) 45 [(0, .ref o0), (1, .int x1), (3, .int x3), (5, .int x5)] [] := by
  refine g_iconst (pc := 45) (v := 1) hC dX2_passYears_45 (by decide) ?_
  refine g_goto (pc := 46) (tgt := 50) hC dX2_passYears_46 (by decide) ?_
  exact kX2_passYears_b50 hC hR0 hR hK14 h
def qX2_passYears_b66  (post : St → Prop)  (u0 : St) : Prop := post u0
set_option maxRecDepth 100000 in
set_option maxHeartbeats 4000000 in
theorem kX2_passYears_b66 {C : Cx} {o0 : Nat} {a0 : Nat → Nat} (hC : Fx C cX2_passYears 6 RX2) (hR0 : xR C = rm 4) {post : St → Prop} (hR : RV C cX2_passYears 6 (fun u : St => (wX2 o0 a0 (xy C) u [])) (fun u => post u))  {u0 : St} (h : qX2_passYears_b66 post u0) : G C 0 0 6 (wX2 o0 a0 (xy C) u0 []) 66 [] [] := by
  exact hR _ _ u0 dX2_passYears_66 h
def qX2_passYears_l14  (post : St → Prop) (K14 : Int32 → Int32 → Int32 → St → Prop) (x1 : Int32) (x2 : Int32) (x3 : Int32) (u0 : St) : Prop := ((x1 ≤ x3 → qX2_passYears_b66 post u0) ∧ (¬ x1 ≤ x3 → ((x2 = 0 → qX2_passYears_b66 post u0) ∧ (¬ x2 = 0 → qX2_growLeaves u0 (fun r_18 u_17 => qX2_wearMortar u_17 (fun r_21 u_20 => ((¬ r_18 = 0 → qX2_passYears_b45 post K14 x1 x3 r_21 u_20) ∧ (r_18 = 0 → ((r_21 = 0 → qX2_passYears_b50 post K14 x1 x3 r_21 (0 : Int32) u_20) ∧ (¬ r_21 = 0 → qX2_passYears_b45 post K14 x1 x3 r_21 u_20))))))))))
set_option maxRecDepth 100000 in
set_option maxHeartbeats 4000000 in
theorem kX2_passYears_l14 {C : Cx} {o0 : Nat} {a0 : Nat → Nat} (hC : Fx C cX2_passYears 6 RX2) (hR0 : xR C = rm 4) {post : St → Prop} (hR : RV C cX2_passYears 6 (fun u : St => (wX2 o0 a0 (xy C) u [])) (fun u => post u))  {K14 : Int32 → Int32 → Int32 → St → Prop} (hK14 : ∀ (x1 : Int32) (x2 : Int32) (x3 : Int32) (u0 : St), K14 x1 x2 x3 u0 → G C 0 0 6 (wX2 o0 a0 (xy C) u0 []) 14 [(0, .ref o0), (1, .int x1), (2, .int x2), (3, .int x3)] []) {x1 : Int32} {x2 : Int32} {x3 : Int32} {u0 : St} (h : qX2_passYears_l14 post K14 x1 x2 x3 u0) : G C 0 0 6 (wX2 o0 a0 (xy C) u0 []) 14 [(0, .ref o0), (1, .int x1), (2, .int x2), (3, .int x3)] [] := by
  refine g_iload_n (pc := 14) hC 3 dX2_passYears_14 rfl rfl ?_
  refine g_iload_n (pc := 15) hC 1 dX2_passYears_15 rfl rfl ?_
  refine g_icmp_ge (pc := 16) (tgt := 66) hC dX2_passYears_16 (by decide) (fun c_15 => ?_) (fun c_15 => ?_)
  · have h := h.1 c_15
    refine g_sub (lv' := []) [] rfl ?_
    exact kX2_passYears_b66 hC hR0 hR  h
  · have h := h.2 c_15
    refine g_iload_n (pc := 19) hC 2 dX2_passYears_19 rfl rfl ?_
    refine g_if_eq (pc := 20) (tgt := 66) hC dX2_passYears_20 (by decide) (fun c_16 => ?_) (fun c_16 => ?_)
    · have h := h.1 c_16
      refine g_sub (lv' := []) [] rfl ?_
      exact kX2_passYears_b66 hC hR0 hR  h
    · have h := h.2 c_16
      refine g_aload_n (pc := 23) hC 0 dX2_passYears_23 rfl rfl ?_
      refine g_callV_i (pc := 24) (wd := fun (u : St) Y => (wX2 o0 a0 (xy C) u Y)) (F := fun Z => Z) (X := []) (As := []) (rest := []) (u := u0) hC (fun _ _ => rfl) (fun _ => rfl) (ctX2_growLeaves h) wvX2_growLeaves ml_X2_112 (ci := 1) (q0 := 0) rfl rfl rfl rfl (rmok hR0 rfl) ⟨Nat.zero_le _, Nat.zero_le _⟩ rfl (Nat.le_of_ble_eq_true rfl) dX2_passYears_24 (fun r_18 u_17 h => ?_)
      refine g_istore (pc := 27) (lv' := [(4, .int r_18), (0, .ref o0), (1, .int x1), (2, .int x2), (3, .int x3)]) hC dX2_passYears_27 (Nat.le_of_ble_eq_true rfl) rfl ?_
      refine g_aload_n (pc := 29) hC 1 dX2_passYears_29 rfl rfl ?_
      refine g_callV_i (pc := 30) (wd := fun (u : St) Y => (wX2 o0 a0 (xy C) u Y)) (F := fun Z => Z) (X := []) (As := []) (rest := []) (u := u_17) hC (fun _ _ => rfl) (fun _ => rfl) (ctX2_wearMortar h) wvX2_wearMortar ml_X2_116 (ci := 1) (q0 := 0) rfl rfl rfl rfl (rmok hR0 rfl) ⟨Nat.zero_le _, Nat.zero_le _⟩ rfl (Nat.le_of_ble_eq_true rfl) dX2_passYears_30 (fun r_21 u_20 h => ?_)
      refine g_istore (pc := 33) (lv' := [(5, .int r_21), (4, .int r_18), (0, .ref o0), (1, .int x1), (2, .int x2), (3, .int x3)]) hC dX2_passYears_33 (Nat.le_of_ble_eq_true rfl) rfl ?_
      refine g_iload (pc := 35) hC 1 dX2_passYears_35 rfl ?_
      refine g_if_ne (pc := 37) (tgt := 45) hC dX2_passYears_37 (by decide) (fun c_23 => ?_) (fun c_23 => ?_)
      · have h := h.1 c_23
        refine g_sub (lv' := [(0, .ref o0), (1, .int x1), (3, .int x3), (5, .int r_21)]) [2, 3, 5, 0] rfl ?_
        exact kX2_passYears_b45 hC hR0 hR hK14 h
      · have h := h.2 c_23
        refine g_iload (pc := 40) hC 0 dX2_passYears_40 rfl ?_
        refine g_if_eq (pc := 42) (tgt := 49) hC dX2_passYears_42 (by decide) (fun c_24 => ?_) (fun c_24 => ?_)
        · have h := h.1 c_24
          refine g_iconst (pc := 49) (v := 0) hC dX2_passYears_49 (by decide) ?_
          refine g_sub (lv' := [(0, .ref o0), (1, .int x1), (3, .int x3), (5, .int r_21)]) [2, 3, 5, 0] rfl ?_
          exact kX2_passYears_b50 hC hR0 hR hK14 h
        · have h := h.2 c_24
          refine g_sub (lv' := [(0, .ref o0), (1, .int x1), (3, .int x3), (5, .int r_21)]) [2, 3, 5, 0] rfl ?_
          exact kX2_passYears_b45 hC hR0 hR hK14 h
def qX2_passYears_L14  (post : St → Prop)  : Nat → Int32 → Int32 → Int32 → St → Prop
  | 0 => fun _ _ _ _ => False
  | n + 1 => qX2_passYears_l14 post (qX2_passYears_L14 post n)
theorem kX2_passYears_L14 {C : Cx} {o0 : Nat} {a0 : Nat → Nat} (hC : Fx C cX2_passYears 6 RX2) (hR0 : xR C = rm 4) {post : St → Prop} (hR : RV C cX2_passYears 6 (fun u : St => (wX2 o0 a0 (xy C) u [])) (fun u => post u))  : ∀ (n : Nat) (x1 : Int32) (x2 : Int32) (x3 : Int32) (u0 : St), qX2_passYears_L14 post n x1 x2 x3 u0 → G C 0 0 6 (wX2 o0 a0 (xy C) u0 []) 14 [(0, .ref o0), (1, .int x1), (2, .int x2), (3, .int x3)] [] := by
  intro n
  induction n with
  | zero => intro x1 x2 x3 u0 h; exact h.elim
  | succ n ih => intro x1 x2 x3 u0 h; exact kX2_passYears_l14 hC hR0 hR  ih h
def qX2_passYears (x1 : Int32) (u0 : St) (post : St → Prop) : Prop := ∀ u_25 : St, u_25 = (si u0 4 ((gi u0 4) + x1)) → ∃ n_26 : Nat, qX2_passYears_L14 post n_26 x1 (1 : Int32) (0 : Int32) u_25
set_option maxRecDepth 100000 in
set_option maxHeartbeats 4000000 in
theorem kX2_passYears {C : Cx} {o0 : Nat} {a0 : Nat → Nat} (hC : Fx C cX2_passYears 6 RX2) (hR0 : xR C = rm 4) {post : St → Prop} (hR : RV C cX2_passYears 6 (fun u : St => (wX2 o0 a0 (xy C) u [])) (fun u => post u)) {x1 : Int32} {u0 : St} (h : qX2_passYears x1 u0 post) : G C 0 0 6 (wX2 o0 a0 (xy C) u0 []) 0 [(0, .ref o0), (1, .int x1)] [] := by
  refine g_aload_n (pc := 0) hC 0 dX2_passYears_0 rfl rfl ?_
  refine g_dup (pc := 1) hC dX2_passYears_1 rfl ?_
  refine getX2_4 (pc := 2) hC (F := fun Z => Z) (X := []) (fun _ => rfl) fl_X2_62 dX2_passYears_2 ?_
  refine g_iload_n (pc := 5) hC 1 dX2_passYears_5 rfl rfl ?_
  refine g_iadd (pc := 6) hC dX2_passYears_6 ?_
  refine putX2_4 (pc := 7) hC (F := fun Z => Z) (X := []) (fun _ => rfl) fl_X2_62 dX2_passYears_7 ?_
  refine g_st (w := fun z => (wX2 o0 a0 (xy C) z [])) (u := (si u0 4 ((gi u0 4) + x1))) (fun u_25 eu_25 => ?_)
  have h := h u_25 eu_25
  refine g_iconst (pc := 10) (v := 1) hC dX2_passYears_10 (by decide) ?_
  refine g_istore_n (pc := 11) (lv' := [(2, .int (1 : Int32)), (0, .ref o0), (1, .int x1)]) hC dX2_passYears_11 rfl (Nat.le_of_ble_eq_true rfl) rfl ?_
  refine g_iconst (pc := 12) (v := 0) hC dX2_passYears_12 (by decide) ?_
  refine g_istore_n (pc := 13) (lv' := [(3, .int (0 : Int32)), (2, .int (1 : Int32)), (0, .ref o0), (1, .int x1)]) hC dX2_passYears_13 rfl (Nat.le_of_ble_eq_true rfl) rfl ?_
  refine g_sub (lv' := [(0, .ref o0), (1, .int x1), (2, .int (1 : Int32)), (3, .int (0 : Int32))]) [2, 3, 1, 0] rfl ?_
  obtain ⟨n_26, h⟩ := h
  exact kX2_passYears_L14 hC hR0 hR  n_26 _ _ _ _ h
theorem ctX2_passYears {l : Launch} {D : va_G} {cy : Nat → ClassId} {kd : Nat → Nat} {o0 : Nat} {a0 : Nat → Nat} {x1 : Int32} {u0 : St} {post : St → Prop} (h : qX2_passYears x1 u0 post) : CtV l D cy kd yX2_passYears cX2_passYears 6 4  [.ref o0, .int x1] (fun u : St => (wX2 o0 a0 cy u [])) u0 (fun u => post u) := met_v (by decide) (Nat.le_of_ble_eq_true rfl) (fun C e1 e2 e3 e4 e5 hC hR => by subst e1 e2 e3 e4; exact kX2_passYears hC e5 hR h)
theorem dX2_owed_0 : decode cX2_owed 0 = .ok (.aload_n 0, 1) := by decide +kernel
theorem dX2_owed_1 : decode cX2_owed 1 = .ok (.getfield 68, 3) := by decide +kernel
theorem dX2_owed_4 : decode cX2_owed 4 = .ok (.iload_n 1, 1) := by decide +kernel
theorem dX2_owed_5 : decode cX2_owed 5 = .ok (.invokestatic 84, 3) := by decide +kernel
theorem dX2_owed_8 : decode cX2_owed 8 = .ok (.ifCond .eq 7, 3) := by decide +kernel
theorem dX2_owed_11 : decode cX2_owed 11 = .ok (.iconst 0, 1) := by decide +kernel
theorem dX2_owed_12 : decode cX2_owed 12 = .ok (.goto 16, 3) := by decide +kernel
theorem dX2_owed_15 : decode cX2_owed 15 = .ok (.aload_n 0, 1) := by decide +kernel
theorem dX2_owed_16 : decode cX2_owed 16 = .ok (.getfield 41, 3) := by decide +kernel
theorem dX2_owed_19 : decode cX2_owed 19 = .ok (.iload_n 1, 1) := by decide +kernel
theorem dX2_owed_20 : decode cX2_owed 20 = .ok (.iaload, 1) := by decide +kernel
theorem dX2_owed_21 : decode cX2_owed 21 = .ok (.aload_n 0, 1) := by decide +kernel
theorem dX2_owed_22 : decode cX2_owed 22 = .ok (.getfield 50, 3) := by decide +kernel
theorem dX2_owed_25 : decode cX2_owed 25 = .ok (.iload_n 1, 1) := by decide +kernel
theorem dX2_owed_26 : decode cX2_owed 26 = .ok (.iaload, 1) := by decide +kernel
theorem dX2_owed_27 : decode cX2_owed 27 = .ok (.iadd, 1) := by decide +kernel
theorem dX2_owed_28 : decode cX2_owed 28 = .ok (.ireturn, 1) := by decide +kernel
def qX2_owed_b28  (post : Int32 → St → Prop)  (s0 : Int32) (u0 : St) : Prop := post s0 u0
set_option maxRecDepth 100000 in
set_option maxHeartbeats 4000000 in
theorem kX2_owed_b28 {C : Cx} {o0 : Nat} {a0 : Nat → Nat} (hC : Fx C cX2_owed 2 RX2) (hR0 : xR C = rm 2) {post : Int32 → St → Prop} (hR : RI C cX2_owed 2 (fun u : St => (wX2 o0 a0 (xy C) u [])) (fun r u => post r u))  {s0 : Int32} {u0 : St} (h : qX2_owed_b28 post s0 u0) : G C 0 0 2 (wX2 o0 a0 (xy C) u0 []) 28 [] [.int s0] := by
  exact hR _ _ _ u0 dX2_owed_28 h
def qX2_owed (x1 : Int32) (u0 : St) (post : Int32 → St → Prop) : Prop := qX11_has (gi u0 6) x1 (fun r_3 => ((r_3 = 0 → (vp_in x1 7 ∧ (vp_in x1 7 ∧ qX2_owed_b28 post ((ga u0 16 (x1).toNatClampNeg) + (ga u0 19 (x1).toNatClampNeg)) u0))) ∧ (¬ r_3 = 0 → qX2_owed_b28 post (0 : Int32) u0)))
set_option maxRecDepth 100000 in
set_option maxHeartbeats 4000000 in
theorem kX2_owed {C : Cx} {o0 : Nat} {a0 : Nat → Nat} (hC : Fx C cX2_owed 2 RX2) (hR0 : xR C = rm 2) {post : Int32 → St → Prop} (hR : RI C cX2_owed 2 (fun u : St => (wX2 o0 a0 (xy C) u [])) (fun r u => post r u)) {x1 : Int32} {u0 : St} (h : qX2_owed x1 u0 post) : G C 0 0 2 (wX2 o0 a0 (xy C) u0 []) 0 [(0, .ref o0), (1, .int x1)] [] := by
  refine g_aload_n (pc := 0) hC 0 dX2_owed_0 rfl rfl ?_
  refine getX2_6 (pc := 1) hC (F := fun Z => Z) (X := []) (fun _ => rfl) fl_X2_68 dX2_owed_1 ?_
  refine g_iload_n (pc := 4) hC 1 dX2_owed_4 rfl rfl ?_
  refine g_callSN_i (pc := 5) (wd := fun (_ : Unit) Y => Y) (F := fun Z => Z) (X := []) (As := [.int (gi u0 6), .int x1]) (rest := []) (u := ()) hC (fun _ _ => rfl) (fun _ => rfl) (ctX11_has h) wvX11_has nl_X2_84 rfl (rmok hR0 rfl) ⟨Nat.zero_le _, Nat.zero_le _⟩ rfl (Nat.le_of_ble_eq_true rfl) dX2_owed_5 (fun r_3 u_4 h => ?_)
  refine g_if_eq (pc := 8) (tgt := 15) hC dX2_owed_8 (by decide) (fun c_5 => ?_) (fun c_5 => ?_)
  · have h := h.1 c_5
    refine g_aload_n (pc := 15) hC 0 dX2_owed_15 rfl rfl ?_
    refine getX2_16 (pc := 16) hC (F := fun Z => Z) (X := []) (fun _ => rfl) fl_X2_41 dX2_owed_16 ?_
    refine g_iload_n (pc := 19) hC 1 dX2_owed_19 rfl rfl ?_
    refine aldX2_16 (pc := 20) hC (F := fun Z => Z) (X := []) (fun _ => rfl) h.1 dX2_owed_20 ?_
    have h := h.2
    refine g_aload_n (pc := 21) hC 0 dX2_owed_21 rfl rfl ?_
    refine getX2_19 (pc := 22) hC (F := fun Z => Z) (X := []) (fun _ => rfl) fl_X2_50 dX2_owed_22 ?_
    refine g_iload_n (pc := 25) hC 1 dX2_owed_25 rfl rfl ?_
    refine aldX2_19 (pc := 26) hC (F := fun Z => Z) (X := []) (fun _ => rfl) h.1 dX2_owed_26 ?_
    have h := h.2
    refine g_iadd (pc := 27) hC dX2_owed_27 ?_
    refine g_sub (lv' := []) [] rfl ?_
    exact kX2_owed_b28 hC hR0 hR  h
  · have h := h.2 c_5
    refine g_iconst (pc := 11) (v := 0) hC dX2_owed_11 (by decide) ?_
    refine g_goto (pc := 12) (tgt := 28) hC dX2_owed_12 (by decide) ?_
    refine g_sub (lv' := []) [] rfl ?_
    exact kX2_owed_b28 hC hR0 hR  h
theorem ctX2_owed {l : Launch} {D : va_G} {cy : Nat → ClassId} {kd : Nat → Nat} {o0 : Nat} {a0 : Nat → Nat} {x1 : Int32} {u0 : St} {post : Int32 → St → Prop} (h : qX2_owed x1 u0 post) : CtI l D cy kd yX2_owed cX2_owed 2 2 .int [.ref o0, .int x1] (fun u : St => (wX2 o0 a0 cy u [])) u0 (fun r u => post r u) := met_i (by decide) (Nat.le_of_ble_eq_true rfl) (fun C e1 e2 e3 e4 e5 hC hR => by subst e1 e2 e3 e4; exact kX2_owed hC e5 hR h)
theorem dX2_allOwed_0 : decode cX2_allOwed 0 = .ok (.iconst 0, 1) := by decide +kernel
theorem dX2_allOwed_1 : decode cX2_allOwed 1 = .ok (.istore_n 1, 1) := by decide +kernel
theorem dX2_allOwed_2 : decode cX2_allOwed 2 = .ok (.iconst 0, 1) := by decide +kernel
theorem dX2_allOwed_3 : decode cX2_allOwed 3 = .ok (.istore_n 2, 1) := by decide +kernel
theorem dX2_allOwed_4 : decode cX2_allOwed 4 = .ok (.iload_n 2, 1) := by decide +kernel
theorem dX2_allOwed_5 : decode cX2_allOwed 5 = .ok (.aload_n 0, 1) := by decide +kernel
theorem dX2_allOwed_6 : decode cX2_allOwed 6 = .ok (.getfield 59, 3) := by decide +kernel
theorem dX2_allOwed_9 : decode cX2_allOwed 9 = .ok (.if_icmp .ge 17, 3) := by decide +kernel
theorem dX2_allOwed_12 : decode cX2_allOwed 12 = .ok (.iload_n 1, 1) := by decide +kernel
theorem dX2_allOwed_13 : decode cX2_allOwed 13 = .ok (.aload_n 0, 1) := by decide +kernel
theorem dX2_allOwed_14 : decode cX2_allOwed 14 = .ok (.iload_n 2, 1) := by decide +kernel
theorem dX2_allOwed_15 : decode cX2_allOwed 15 = .ok (.invokevirtual 126, 3) := by decide +kernel
theorem dX2_allOwed_18 : decode cX2_allOwed 18 = .ok (.iadd, 1) := by decide +kernel
theorem dX2_allOwed_19 : decode cX2_allOwed 19 = .ok (.istore_n 1, 1) := by decide +kernel
theorem dX2_allOwed_20 : decode cX2_allOwed 20 = .ok (.iinc 2 1, 3) := by decide +kernel
theorem dX2_allOwed_23 : decode cX2_allOwed 23 = .ok (.goto (-19), 3) := by decide +kernel
theorem dX2_allOwed_26 : decode cX2_allOwed 26 = .ok (.iload_n 1, 1) := by decide +kernel
theorem dX2_allOwed_27 : decode cX2_allOwed 27 = .ok (.ireturn, 1) := by decide +kernel
def qX2_allOwed_l4  (post : Int32 → St → Prop) (K4 : Int32 → Int32 → St → Prop) (x1 : Int32) (x2 : Int32) (u0 : St) : Prop := (((gi u0 2) ≤ x2 → post x1 u0) ∧ (¬ (gi u0 2) ≤ x2 → qX2_owed x2 u0 (fun r_7 u_6 => ∀ x1_9 : Int32, x1_9 = (x1 + r_7) → ∀ x2_10 : Int32, x2_10 = x2 + (1 : Int32) → K4 x1_9 x2_10 u_6)))
set_option maxRecDepth 100000 in
set_option maxHeartbeats 4000000 in
theorem kX2_allOwed_l4 {C : Cx} {o0 : Nat} {a0 : Nat → Nat} (hC : Fx C cX2_allOwed 3 RX2) (hR0 : xR C = rm 3) {post : Int32 → St → Prop} (hR : RI C cX2_allOwed 3 (fun u : St => (wX2 o0 a0 (xy C) u [])) (fun r u => post r u))  {K4 : Int32 → Int32 → St → Prop} (hK4 : ∀ (x1 : Int32) (x2 : Int32) (u0 : St), K4 x1 x2 u0 → G C 0 0 3 (wX2 o0 a0 (xy C) u0 []) 4 [(0, .ref o0), (1, .int x1), (2, .int x2)] []) {x1 : Int32} {x2 : Int32} {u0 : St} (h : qX2_allOwed_l4 post K4 x1 x2 u0) : G C 0 0 3 (wX2 o0 a0 (xy C) u0 []) 4 [(0, .ref o0), (1, .int x1), (2, .int x2)] [] := by
  refine g_iload_n (pc := 4) hC 2 dX2_allOwed_4 rfl rfl ?_
  refine g_aload_n (pc := 5) hC 0 dX2_allOwed_5 rfl rfl ?_
  refine getX2_2 (pc := 6) hC (F := fun Z => Z) (X := []) (fun _ => rfl) fl_X2_59 dX2_allOwed_6 ?_
  refine g_icmp_ge (pc := 9) (tgt := 26) hC dX2_allOwed_9 (by decide) (fun c_5 => ?_) (fun c_5 => ?_)
  · have h := h.1 c_5
    refine g_iload_n (pc := 26) hC 1 dX2_allOwed_26 rfl rfl ?_
    exact hR _ _ _ u0 dX2_allOwed_27 h
  · have h := h.2 c_5
    refine g_iload_n (pc := 12) hC 1 dX2_allOwed_12 rfl rfl ?_
    refine g_aload_n (pc := 13) hC 0 dX2_allOwed_13 rfl rfl ?_
    refine g_iload_n (pc := 14) hC 2 dX2_allOwed_14 rfl rfl ?_
    refine g_callV_i (pc := 15) (wd := fun (u : St) Y => (wX2 o0 a0 (xy C) u Y)) (F := fun Z => Z) (X := []) (As := [.int x2]) (rest := [.int x1]) (u := u0) hC (fun _ _ => rfl) (fun _ => rfl) (ctX2_owed h) wvX2_owed ml_X2_126 (ci := 1) (q0 := 0) rfl rfl rfl rfl (rmok hR0 rfl) ⟨Nat.zero_le _, Nat.zero_le _⟩ rfl (Nat.le_of_ble_eq_true rfl) dX2_allOwed_15 (fun r_7 u_6 h => ?_)
    refine g_iadd (pc := 18) hC dX2_allOwed_18 ?_
    refine g_topi (fun x1_9 ex1_9 => ?_)
    have h := h x1_9 ex1_9
    refine g_istore_n (pc := 19) (lv' := [(1, .int x1_9), (0, .ref o0), (2, .int x2)]) hC dX2_allOwed_19 rfl (Nat.le_of_ble_eq_true rfl) rfl ?_
    obtain ⟨x2_10, ex2_10⟩ : ∃ z : Int32, z = x2 + (1 : Int32) := ⟨_, rfl⟩
    have h := h x2_10 ex2_10
    refine g_iinc (pc := 20) (v := x2_10) (lv' := [(2, .int x2_10), (1, .int x1_9), (0, .ref o0)]) hC 2 dX2_allOwed_20 rfl (by rw [ex2_10]; rfl) (Nat.le_of_ble_eq_true rfl) rfl ?_
    refine g_goto (pc := 23) (tgt := 4) hC dX2_allOwed_23 (by decide) ?_
    refine g_sub (lv' := [(0, .ref o0), (1, .int x1_9), (2, .int x2_10)]) [2, 1, 0] rfl ?_
    exact hK4 _ _ _ h
def qX2_allOwed_L4  (post : Int32 → St → Prop)  : Nat → Int32 → Int32 → St → Prop
  | 0 => fun _ _ _ => False
  | n + 1 => qX2_allOwed_l4 post (qX2_allOwed_L4 post n)
theorem kX2_allOwed_L4 {C : Cx} {o0 : Nat} {a0 : Nat → Nat} (hC : Fx C cX2_allOwed 3 RX2) (hR0 : xR C = rm 3) {post : Int32 → St → Prop} (hR : RI C cX2_allOwed 3 (fun u : St => (wX2 o0 a0 (xy C) u [])) (fun r u => post r u))  : ∀ (n : Nat) (x1 : Int32) (x2 : Int32) (u0 : St), qX2_allOwed_L4 post n x1 x2 u0 → G C 0 0 3 (wX2 o0 a0 (xy C) u0 []) 4 [(0, .ref o0), (1, .int x1), (2, .int x2)] [] := by
  intro n
  induction n with
  | zero => intro x1 x2 u0 h; exact h.elim
  | succ n ih => intro x1 x2 u0 h; exact kX2_allOwed_l4 hC hR0 hR  ih h
def qX2_allOwed  (u0 : St) (post : Int32 → St → Prop) : Prop := ∃ n_11 : Nat, qX2_allOwed_L4 post n_11 (0 : Int32) (0 : Int32) u0
set_option maxRecDepth 100000 in
set_option maxHeartbeats 4000000 in
theorem kX2_allOwed {C : Cx} {o0 : Nat} {a0 : Nat → Nat} (hC : Fx C cX2_allOwed 3 RX2) (hR0 : xR C = rm 3) {post : Int32 → St → Prop} (hR : RI C cX2_allOwed 3 (fun u : St => (wX2 o0 a0 (xy C) u [])) (fun r u => post r u))  {u0 : St} (h : qX2_allOwed  u0 post) : G C 0 0 3 (wX2 o0 a0 (xy C) u0 []) 0 [(0, .ref o0)] [] := by
  refine g_iconst (pc := 0) (v := 0) hC dX2_allOwed_0 (by decide) ?_
  refine g_istore_n (pc := 1) (lv' := [(1, .int (0 : Int32)), (0, .ref o0)]) hC dX2_allOwed_1 rfl (Nat.le_of_ble_eq_true rfl) rfl ?_
  refine g_iconst (pc := 2) (v := 0) hC dX2_allOwed_2 (by decide) ?_
  refine g_istore_n (pc := 3) (lv' := [(2, .int (0 : Int32)), (1, .int (0 : Int32)), (0, .ref o0)]) hC dX2_allOwed_3 rfl (Nat.le_of_ble_eq_true rfl) rfl ?_
  refine g_sub (lv' := [(0, .ref o0), (1, .int (0 : Int32)), (2, .int (0 : Int32))]) [2, 1, 0] rfl ?_
  obtain ⟨n_11, h⟩ := h
  exact kX2_allOwed_L4 hC hR0 hR  n_11 _ _ _ h
theorem ctX2_allOwed {l : Launch} {D : va_G} {cy : Nat → ClassId} {kd : Nat → Nat} {o0 : Nat} {a0 : Nat → Nat}  {u0 : St} {post : Int32 → St → Prop} (h : qX2_allOwed  u0 post) : CtI l D cy kd yX2_allOwed cX2_allOwed 3 3 .int [.ref o0] (fun u : St => (wX2 o0 a0 cy u [])) u0 (fun r u => post r u) := met_i (by decide) (Nat.le_of_ble_eq_true rfl) (fun C e1 e2 e3 e4 e5 hC hR => by subst e1 e2 e3 e4; exact kX2_allOwed hC e5 hR h)
theorem dX2_allLeaves_0 : decode cX2_allLeaves 0 = .ok (.iconst 0, 1) := by decide +kernel
theorem dX2_allLeaves_1 : decode cX2_allLeaves 1 = .ok (.istore_n 1, 1) := by decide +kernel
theorem dX2_allLeaves_2 : decode cX2_allLeaves 2 = .ok (.iconst 0, 1) := by decide +kernel
theorem dX2_allLeaves_3 : decode cX2_allLeaves 3 = .ok (.istore_n 2, 1) := by decide +kernel
theorem dX2_allLeaves_4 : decode cX2_allLeaves 4 = .ok (.iload_n 2, 1) := by decide +kernel
theorem dX2_allLeaves_5 : decode cX2_allLeaves 5 = .ok (.aload_n 0, 1) := by decide +kernel
theorem dX2_allLeaves_6 : decode cX2_allLeaves 6 = .ok (.getfield 59, 3) := by decide +kernel
theorem dX2_allLeaves_9 : decode cX2_allLeaves 9 = .ok (.if_icmp .ge 33, 3) := by decide +kernel
theorem dX2_allLeaves_12 : decode cX2_allLeaves 12 = .ok (.iload_n 1, 1) := by decide +kernel
theorem dX2_allLeaves_13 : decode cX2_allLeaves 13 = .ok (.aload_n 0, 1) := by decide +kernel
theorem dX2_allLeaves_14 : decode cX2_allLeaves 14 = .ok (.getfield 68, 3) := by decide +kernel
theorem dX2_allLeaves_17 : decode cX2_allLeaves 17 = .ok (.iload_n 2, 1) := by decide +kernel
theorem dX2_allLeaves_18 : decode cX2_allLeaves 18 = .ok (.invokestatic 84, 3) := by decide +kernel
theorem dX2_allLeaves_21 : decode cX2_allLeaves 21 = .ok (.ifCond .eq 7, 3) := by decide +kernel
theorem dX2_allLeaves_24 : decode cX2_allLeaves 24 = .ok (.iconst 0, 1) := by decide +kernel
theorem dX2_allLeaves_25 : decode cX2_allLeaves 25 = .ok (.goto 9, 3) := by decide +kernel
theorem dX2_allLeaves_28 : decode cX2_allLeaves 28 = .ok (.aload_n 0, 1) := by decide +kernel
theorem dX2_allLeaves_29 : decode cX2_allLeaves 29 = .ok (.getfield 50, 3) := by decide +kernel
theorem dX2_allLeaves_32 : decode cX2_allLeaves 32 = .ok (.iload_n 2, 1) := by decide +kernel
theorem dX2_allLeaves_33 : decode cX2_allLeaves 33 = .ok (.iaload, 1) := by decide +kernel
theorem dX2_allLeaves_34 : decode cX2_allLeaves 34 = .ok (.iadd, 1) := by decide +kernel
theorem dX2_allLeaves_35 : decode cX2_allLeaves 35 = .ok (.istore_n 1, 1) := by decide +kernel
theorem dX2_allLeaves_36 : decode cX2_allLeaves 36 = .ok (.iinc 2 1, 3) := by decide +kernel
theorem dX2_allLeaves_39 : decode cX2_allLeaves 39 = .ok (.goto (-35), 3) := by decide +kernel
theorem dX2_allLeaves_42 : decode cX2_allLeaves 42 = .ok (.iload_n 1, 1) := by decide +kernel
theorem dX2_allLeaves_43 : decode cX2_allLeaves 43 = .ok (.ireturn, 1) := by decide +kernel
def qX2_allLeaves_b34  (post : Int32 → St → Prop) (K4 : Int32 → Int32 → St → Prop) (x2 : Int32) (s0 : Int32) (s1 : Int32) (u0 : St) : Prop := ∀ x1_4 : Int32, x1_4 = (s1 + s0) → ∀ x2_5 : Int32, x2_5 = x2 + (1 : Int32) → K4 x1_4 x2_5 u0
set_option maxRecDepth 100000 in
set_option maxHeartbeats 4000000 in
theorem kX2_allLeaves_b34 {C : Cx} {o0 : Nat} {a0 : Nat → Nat} (hC : Fx C cX2_allLeaves 3 RX2) (hR0 : xR C = rm 2) {post : Int32 → St → Prop} (hR : RI C cX2_allLeaves 3 (fun u : St => (wX2 o0 a0 (xy C) u [])) (fun r u => post r u)) {K4 : Int32 → Int32 → St → Prop} (hK4 : ∀ (x1 : Int32) (x2 : Int32) (u0 : St), K4 x1 x2 u0 → G C 0 0 3 (wX2 o0 a0 (xy C) u0 []) 4 [(0, .ref o0), (1, .int x1), (2, .int x2)] []) {x2 : Int32} {s0 : Int32} {s1 : Int32} {u0 : St} (h : qX2_allLeaves_b34 post K4 x2 s0 s1 u0) : G C 0 0 3 (wX2 o0 a0 (xy C) u0 []) 34 [(0, .ref o0), (2, .int x2)] [.int s0, .int s1] := by
  refine g_iadd (pc := 34) hC dX2_allLeaves_34 ?_
  refine g_topi (fun x1_4 ex1_4 => ?_)
  have h := h x1_4 ex1_4
  refine g_istore_n (pc := 35) (lv' := [(1, .int x1_4), (0, .ref o0), (2, .int x2)]) hC dX2_allLeaves_35 rfl (Nat.le_of_ble_eq_true rfl) rfl ?_
  obtain ⟨x2_5, ex2_5⟩ : ∃ z : Int32, z = x2 + (1 : Int32) := ⟨_, rfl⟩
  have h := h x2_5 ex2_5
  refine g_iinc (pc := 36) (v := x2_5) (lv' := [(2, .int x2_5), (1, .int x1_4), (0, .ref o0)]) hC 2 dX2_allLeaves_36 rfl (by rw [ex2_5]; rfl) (Nat.le_of_ble_eq_true rfl) rfl ?_
  refine g_goto (pc := 39) (tgt := 4) hC dX2_allLeaves_39 (by decide) ?_
  refine g_sub (lv' := [(0, .ref o0), (1, .int x1_4), (2, .int x2_5)]) [2, 1, 0] rfl ?_
  exact hK4 _ _ _ h
def qX2_allLeaves_l4  (post : Int32 → St → Prop) (K4 : Int32 → Int32 → St → Prop) (x1 : Int32) (x2 : Int32) (u0 : St) : Prop := (((gi u0 2) ≤ x2 → post x1 u0) ∧ (¬ (gi u0 2) ≤ x2 → qX11_has (gi u0 6) x2 (fun r_7 => ((r_7 = 0 → (vp_in x2 7 ∧ qX2_allLeaves_b34 post K4 x2 (ga u0 19 (x2).toNatClampNeg) x1 u0)) ∧ (¬ r_7 = 0 → qX2_allLeaves_b34 post K4 x2 (0 : Int32) x1 u0)))))
set_option maxRecDepth 100000 in
set_option maxHeartbeats 4000000 in
theorem kX2_allLeaves_l4 {C : Cx} {o0 : Nat} {a0 : Nat → Nat} (hC : Fx C cX2_allLeaves 3 RX2) (hR0 : xR C = rm 2) {post : Int32 → St → Prop} (hR : RI C cX2_allLeaves 3 (fun u : St => (wX2 o0 a0 (xy C) u [])) (fun r u => post r u))  {K4 : Int32 → Int32 → St → Prop} (hK4 : ∀ (x1 : Int32) (x2 : Int32) (u0 : St), K4 x1 x2 u0 → G C 0 0 3 (wX2 o0 a0 (xy C) u0 []) 4 [(0, .ref o0), (1, .int x1), (2, .int x2)] []) {x1 : Int32} {x2 : Int32} {u0 : St} (h : qX2_allLeaves_l4 post K4 x1 x2 u0) : G C 0 0 3 (wX2 o0 a0 (xy C) u0 []) 4 [(0, .ref o0), (1, .int x1), (2, .int x2)] [] := by
  refine g_iload_n (pc := 4) hC 2 dX2_allLeaves_4 rfl rfl ?_
  refine g_aload_n (pc := 5) hC 0 dX2_allLeaves_5 rfl rfl ?_
  refine getX2_2 (pc := 6) hC (F := fun Z => Z) (X := []) (fun _ => rfl) fl_X2_59 dX2_allLeaves_6 ?_
  refine g_icmp_ge (pc := 9) (tgt := 42) hC dX2_allLeaves_9 (by decide) (fun c_6 => ?_) (fun c_6 => ?_)
  · have h := h.1 c_6
    refine g_iload_n (pc := 42) hC 1 dX2_allLeaves_42 rfl rfl ?_
    exact hR _ _ _ u0 dX2_allLeaves_43 h
  · have h := h.2 c_6
    refine g_iload_n (pc := 12) hC 1 dX2_allLeaves_12 rfl rfl ?_
    refine g_aload_n (pc := 13) hC 0 dX2_allLeaves_13 rfl rfl ?_
    refine getX2_6 (pc := 14) hC (F := fun Z => Z) (X := []) (fun _ => rfl) fl_X2_68 dX2_allLeaves_14 ?_
    refine g_iload_n (pc := 17) hC 2 dX2_allLeaves_17 rfl rfl ?_
    refine g_callSN_i (pc := 18) (wd := fun (_ : Unit) Y => Y) (F := fun Z => Z) (X := []) (As := [.int (gi u0 6), .int x2]) (rest := [.int x1]) (u := ()) hC (fun _ _ => rfl) (fun _ => rfl) (ctX11_has h) wvX11_has nl_X2_84 rfl (rmok hR0 rfl) ⟨Nat.zero_le _, Nat.zero_le _⟩ rfl (Nat.le_of_ble_eq_true rfl) dX2_allLeaves_18 (fun r_7 u_8 h => ?_)
    refine g_if_eq (pc := 21) (tgt := 28) hC dX2_allLeaves_21 (by decide) (fun c_9 => ?_) (fun c_9 => ?_)
    · have h := h.1 c_9
      refine g_aload_n (pc := 28) hC 0 dX2_allLeaves_28 rfl rfl ?_
      refine getX2_19 (pc := 29) hC (F := fun Z => Z) (X := []) (fun _ => rfl) fl_X2_50 dX2_allLeaves_29 ?_
      refine g_iload_n (pc := 32) hC 2 dX2_allLeaves_32 rfl rfl ?_
      refine aldX2_19 (pc := 33) hC (F := fun Z => Z) (X := []) (fun _ => rfl) h.1 dX2_allLeaves_33 ?_
      have h := h.2
      refine g_sub (lv' := [(0, .ref o0), (2, .int x2)]) [0, 2] rfl ?_
      exact kX2_allLeaves_b34 hC hR0 hR hK4 h
    · have h := h.2 c_9
      refine g_iconst (pc := 24) (v := 0) hC dX2_allLeaves_24 (by decide) ?_
      refine g_goto (pc := 25) (tgt := 34) hC dX2_allLeaves_25 (by decide) ?_
      refine g_sub (lv' := [(0, .ref o0), (2, .int x2)]) [0, 2] rfl ?_
      exact kX2_allLeaves_b34 hC hR0 hR hK4 h
def qX2_allLeaves_L4  (post : Int32 → St → Prop)  : Nat → Int32 → Int32 → St → Prop
  | 0 => fun _ _ _ => False
  | n + 1 => qX2_allLeaves_l4 post (qX2_allLeaves_L4 post n)
theorem kX2_allLeaves_L4 {C : Cx} {o0 : Nat} {a0 : Nat → Nat} (hC : Fx C cX2_allLeaves 3 RX2) (hR0 : xR C = rm 2) {post : Int32 → St → Prop} (hR : RI C cX2_allLeaves 3 (fun u : St => (wX2 o0 a0 (xy C) u [])) (fun r u => post r u))  : ∀ (n : Nat) (x1 : Int32) (x2 : Int32) (u0 : St), qX2_allLeaves_L4 post n x1 x2 u0 → G C 0 0 3 (wX2 o0 a0 (xy C) u0 []) 4 [(0, .ref o0), (1, .int x1), (2, .int x2)] [] := by
  intro n
  induction n with
  | zero => intro x1 x2 u0 h; exact h.elim
  | succ n ih => intro x1 x2 u0 h; exact kX2_allLeaves_l4 hC hR0 hR  ih h
def qX2_allLeaves  (u0 : St) (post : Int32 → St → Prop) : Prop := ∃ n_10 : Nat, qX2_allLeaves_L4 post n_10 (0 : Int32) (0 : Int32) u0
set_option maxRecDepth 100000 in
set_option maxHeartbeats 4000000 in
theorem kX2_allLeaves {C : Cx} {o0 : Nat} {a0 : Nat → Nat} (hC : Fx C cX2_allLeaves 3 RX2) (hR0 : xR C = rm 2) {post : Int32 → St → Prop} (hR : RI C cX2_allLeaves 3 (fun u : St => (wX2 o0 a0 (xy C) u [])) (fun r u => post r u))  {u0 : St} (h : qX2_allLeaves  u0 post) : G C 0 0 3 (wX2 o0 a0 (xy C) u0 []) 0 [(0, .ref o0)] [] := by
  refine g_iconst (pc := 0) (v := 0) hC dX2_allLeaves_0 (by decide) ?_
  refine g_istore_n (pc := 1) (lv' := [(1, .int (0 : Int32)), (0, .ref o0)]) hC dX2_allLeaves_1 rfl (Nat.le_of_ble_eq_true rfl) rfl ?_
  refine g_iconst (pc := 2) (v := 0) hC dX2_allLeaves_2 (by decide) ?_
  refine g_istore_n (pc := 3) (lv' := [(2, .int (0 : Int32)), (1, .int (0 : Int32)), (0, .ref o0)]) hC dX2_allLeaves_3 rfl (Nat.le_of_ble_eq_true rfl) rfl ?_
  refine g_sub (lv' := [(0, .ref o0), (1, .int (0 : Int32)), (2, .int (0 : Int32))]) [2, 1, 0] rfl ?_
  obtain ⟨n_10, h⟩ := h
  exact kX2_allLeaves_L4 hC hR0 hR  n_10 _ _ _ h
theorem ctX2_allLeaves {l : Launch} {D : va_G} {cy : Nat → ClassId} {kd : Nat → Nat} {o0 : Nat} {a0 : Nat → Nat}  {u0 : St} {post : Int32 → St → Prop} (h : qX2_allLeaves  u0 post) : CtI l D cy kd yX2_allLeaves cX2_allLeaves 3 2 .int [.ref o0] (fun u : St => (wX2 o0 a0 cy u [])) u0 (fun r u => post r u) := met_i (by decide) (Nat.le_of_ble_eq_true rfl) (fun C e1 e2 e3 e4 e5 hC hR => by subst e1 e2 e3 e4; exact kX2_allLeaves hC e5 hR h)
theorem dX2_allCash_0 : decode cX2_allCash 0 = .ok (.iconst 0, 1) := by decide +kernel
theorem dX2_allCash_1 : decode cX2_allCash 1 = .ok (.istore_n 1, 1) := by decide +kernel
theorem dX2_allCash_2 : decode cX2_allCash 2 = .ok (.iconst 0, 1) := by decide +kernel
theorem dX2_allCash_3 : decode cX2_allCash 3 = .ok (.istore_n 2, 1) := by decide +kernel
theorem dX2_allCash_4 : decode cX2_allCash 4 = .ok (.iload_n 2, 1) := by decide +kernel
theorem dX2_allCash_5 : decode cX2_allCash 5 = .ok (.aload_n 0, 1) := by decide +kernel
theorem dX2_allCash_6 : decode cX2_allCash 6 = .ok (.getfield 56, 3) := by decide +kernel
theorem dX2_allCash_9 : decode cX2_allCash 9 = .ok (.if_icmp .ge 18, 3) := by decide +kernel
theorem dX2_allCash_12 : decode cX2_allCash 12 = .ok (.iload_n 1, 1) := by decide +kernel
theorem dX2_allCash_13 : decode cX2_allCash 13 = .ok (.aload_n 0, 1) := by decide +kernel
theorem dX2_allCash_14 : decode cX2_allCash 14 = .ok (.getfield 28, 3) := by decide +kernel
theorem dX2_allCash_17 : decode cX2_allCash 17 = .ok (.iload_n 2, 1) := by decide +kernel
theorem dX2_allCash_18 : decode cX2_allCash 18 = .ok (.iaload, 1) := by decide +kernel
theorem dX2_allCash_19 : decode cX2_allCash 19 = .ok (.iadd, 1) := by decide +kernel
theorem dX2_allCash_20 : decode cX2_allCash 20 = .ok (.istore_n 1, 1) := by decide +kernel
theorem dX2_allCash_21 : decode cX2_allCash 21 = .ok (.iinc 2 1, 3) := by decide +kernel
theorem dX2_allCash_24 : decode cX2_allCash 24 = .ok (.goto (-20), 3) := by decide +kernel
theorem dX2_allCash_27 : decode cX2_allCash 27 = .ok (.iload_n 1, 1) := by decide +kernel
theorem dX2_allCash_28 : decode cX2_allCash 28 = .ok (.ireturn, 1) := by decide +kernel
def qX2_allCash_l4  (post : Int32 → St → Prop) (K4 : Int32 → Int32 → St → Prop) (x1 : Int32) (x2 : Int32) (u0 : St) : Prop := (((gi u0 1) ≤ x2 → post x1 u0) ∧ (¬ (gi u0 1) ≤ x2 → (vp_in x2 5 ∧ ∀ x1_3 : Int32, x1_3 = (x1 + (ga u0 12 (x2).toNatClampNeg)) → ∀ x2_4 : Int32, x2_4 = x2 + (1 : Int32) → K4 x1_3 x2_4 u0)))
set_option maxRecDepth 100000 in
set_option maxHeartbeats 4000000 in
theorem kX2_allCash_l4 {C : Cx} {o0 : Nat} {a0 : Nat → Nat} (hC : Fx C cX2_allCash 3 RX2) (hR0 : xR C = rm 1) {post : Int32 → St → Prop} (hR : RI C cX2_allCash 3 (fun u : St => (wX2 o0 a0 (xy C) u [])) (fun r u => post r u))  {K4 : Int32 → Int32 → St → Prop} (hK4 : ∀ (x1 : Int32) (x2 : Int32) (u0 : St), K4 x1 x2 u0 → G C 0 0 3 (wX2 o0 a0 (xy C) u0 []) 4 [(0, .ref o0), (1, .int x1), (2, .int x2)] []) {x1 : Int32} {x2 : Int32} {u0 : St} (h : qX2_allCash_l4 post K4 x1 x2 u0) : G C 0 0 3 (wX2 o0 a0 (xy C) u0 []) 4 [(0, .ref o0), (1, .int x1), (2, .int x2)] [] := by
  refine g_iload_n (pc := 4) hC 2 dX2_allCash_4 rfl rfl ?_
  refine g_aload_n (pc := 5) hC 0 dX2_allCash_5 rfl rfl ?_
  refine getX2_1 (pc := 6) hC (F := fun Z => Z) (X := []) (fun _ => rfl) fl_X2_56 dX2_allCash_6 ?_
  refine g_icmp_ge (pc := 9) (tgt := 27) hC dX2_allCash_9 (by decide) (fun c_2 => ?_) (fun c_2 => ?_)
  · have h := h.1 c_2
    refine g_iload_n (pc := 27) hC 1 dX2_allCash_27 rfl rfl ?_
    exact hR _ _ _ u0 dX2_allCash_28 h
  · have h := h.2 c_2
    refine g_iload_n (pc := 12) hC 1 dX2_allCash_12 rfl rfl ?_
    refine g_aload_n (pc := 13) hC 0 dX2_allCash_13 rfl rfl ?_
    refine getX2_12 (pc := 14) hC (F := fun Z => Z) (X := []) (fun _ => rfl) fl_X2_28 dX2_allCash_14 ?_
    refine g_iload_n (pc := 17) hC 2 dX2_allCash_17 rfl rfl ?_
    refine aldX2_12 (pc := 18) hC (F := fun Z => Z) (X := []) (fun _ => rfl) h.1 dX2_allCash_18 ?_
    have h := h.2
    refine g_iadd (pc := 19) hC dX2_allCash_19 ?_
    refine g_topi (fun x1_3 ex1_3 => ?_)
    have h := h x1_3 ex1_3
    refine g_istore_n (pc := 20) (lv' := [(1, .int x1_3), (0, .ref o0), (2, .int x2)]) hC dX2_allCash_20 rfl (Nat.le_of_ble_eq_true rfl) rfl ?_
    obtain ⟨x2_4, ex2_4⟩ : ∃ z : Int32, z = x2 + (1 : Int32) := ⟨_, rfl⟩
    have h := h x2_4 ex2_4
    refine g_iinc (pc := 21) (v := x2_4) (lv' := [(2, .int x2_4), (1, .int x1_3), (0, .ref o0)]) hC 2 dX2_allCash_21 rfl (by rw [ex2_4]; rfl) (Nat.le_of_ble_eq_true rfl) rfl ?_
    refine g_goto (pc := 24) (tgt := 4) hC dX2_allCash_24 (by decide) ?_
    refine g_sub (lv' := [(0, .ref o0), (1, .int x1_3), (2, .int x2_4)]) [2, 1, 0] rfl ?_
    exact hK4 _ _ _ h
def qX2_allCash_L4  (post : Int32 → St → Prop)  : Nat → Int32 → Int32 → St → Prop
  | 0 => fun _ _ _ => False
  | n + 1 => qX2_allCash_l4 post (qX2_allCash_L4 post n)
theorem kX2_allCash_L4 {C : Cx} {o0 : Nat} {a0 : Nat → Nat} (hC : Fx C cX2_allCash 3 RX2) (hR0 : xR C = rm 1) {post : Int32 → St → Prop} (hR : RI C cX2_allCash 3 (fun u : St => (wX2 o0 a0 (xy C) u [])) (fun r u => post r u))  : ∀ (n : Nat) (x1 : Int32) (x2 : Int32) (u0 : St), qX2_allCash_L4 post n x1 x2 u0 → G C 0 0 3 (wX2 o0 a0 (xy C) u0 []) 4 [(0, .ref o0), (1, .int x1), (2, .int x2)] [] := by
  intro n
  induction n with
  | zero => intro x1 x2 u0 h; exact h.elim
  | succ n ih => intro x1 x2 u0 h; exact kX2_allCash_l4 hC hR0 hR  ih h
def qX2_allCash  (u0 : St) (post : Int32 → St → Prop) : Prop := ∃ n_5 : Nat, qX2_allCash_L4 post n_5 (0 : Int32) (0 : Int32) u0
set_option maxRecDepth 100000 in
set_option maxHeartbeats 4000000 in
theorem kX2_allCash {C : Cx} {o0 : Nat} {a0 : Nat → Nat} (hC : Fx C cX2_allCash 3 RX2) (hR0 : xR C = rm 1) {post : Int32 → St → Prop} (hR : RI C cX2_allCash 3 (fun u : St => (wX2 o0 a0 (xy C) u [])) (fun r u => post r u))  {u0 : St} (h : qX2_allCash  u0 post) : G C 0 0 3 (wX2 o0 a0 (xy C) u0 []) 0 [(0, .ref o0)] [] := by
  refine g_iconst (pc := 0) (v := 0) hC dX2_allCash_0 (by decide) ?_
  refine g_istore_n (pc := 1) (lv' := [(1, .int (0 : Int32)), (0, .ref o0)]) hC dX2_allCash_1 rfl (Nat.le_of_ble_eq_true rfl) rfl ?_
  refine g_iconst (pc := 2) (v := 0) hC dX2_allCash_2 (by decide) ?_
  refine g_istore_n (pc := 3) (lv' := [(2, .int (0 : Int32)), (1, .int (0 : Int32)), (0, .ref o0)]) hC dX2_allCash_3 rfl (Nat.le_of_ble_eq_true rfl) rfl ?_
  refine g_sub (lv' := [(0, .ref o0), (1, .int (0 : Int32)), (2, .int (0 : Int32))]) [2, 1, 0] rfl ?_
  obtain ⟨n_5, h⟩ := h
  exact kX2_allCash_L4 hC hR0 hR  n_5 _ _ _ h
theorem ctX2_allCash {l : Launch} {D : va_G} {cy : Nat → ClassId} {kd : Nat → Nat} {o0 : Nat} {a0 : Nat → Nat}  {u0 : St} {post : Int32 → St → Prop} (h : qX2_allCash  u0 post) : CtI l D cy kd yX2_allCash cX2_allCash 3 1 .int [.ref o0] (fun u : St => (wX2 o0 a0 cy u [])) u0 (fun r u => post r u) := met_i (by decide) (Nat.le_of_ble_eq_true rfl) (fun C e1 e2 e3 e4 e5 hC hR => by subst e1 e2 e3 e4; exact kX2_allCash hC e5 hR h)
theorem dX2_netOf_0 : decode cX2_netOf 0 = .ok (.aload_n 0, 1) := by decide +kernel
theorem dX2_netOf_1 : decode cX2_netOf 1 = .ok (.getfield 28, 3) := by decide +kernel
theorem dX2_netOf_4 : decode cX2_netOf 4 = .ok (.iload_n 1, 1) := by decide +kernel
theorem dX2_netOf_5 : decode cX2_netOf 5 = .ok (.iaload, 1) := by decide +kernel
theorem dX2_netOf_6 : decode cX2_netOf 6 = .ok (.istore_n 2, 1) := by decide +kernel
theorem dX2_netOf_7 : decode cX2_netOf 7 = .ok (.iconst 0, 1) := by decide +kernel
theorem dX2_netOf_8 : decode cX2_netOf 8 = .ok (.istore_n 3, 1) := by decide +kernel
theorem dX2_netOf_9 : decode cX2_netOf 9 = .ok (.iload_n 3, 1) := by decide +kernel
theorem dX2_netOf_10 : decode cX2_netOf 10 = .ok (.aload_n 0, 1) := by decide +kernel
theorem dX2_netOf_11 : decode cX2_netOf 11 = .ok (.getfield 59, 3) := by decide +kernel
theorem dX2_netOf_14 : decode cX2_netOf 14 = .ok (.if_icmp .ge 48, 3) := by decide +kernel
theorem dX2_netOf_17 : decode cX2_netOf 17 = .ok (.aload_n 0, 1) := by decide +kernel
theorem dX2_netOf_18 : decode cX2_netOf 18 = .ok (.getfield 38, 3) := by decide +kernel
theorem dX2_netOf_21 : decode cX2_netOf 21 = .ok (.iload_n 3, 1) := by decide +kernel
theorem dX2_netOf_22 : decode cX2_netOf 22 = .ok (.iaload, 1) := by decide +kernel
theorem dX2_netOf_23 : decode cX2_netOf 23 = .ok (.iload_n 1, 1) := by decide +kernel
theorem dX2_netOf_24 : decode cX2_netOf 24 = .ok (.if_icmp .ne 14, 3) := by decide +kernel
theorem dX2_netOf_27 : decode cX2_netOf 27 = .ok (.iload_n 2, 1) := by decide +kernel
theorem dX2_netOf_28 : decode cX2_netOf 28 = .ok (.aload_n 0, 1) := by decide +kernel
theorem dX2_netOf_29 : decode cX2_netOf 29 = .ok (.iload_n 3, 1) := by decide +kernel
theorem dX2_netOf_30 : decode cX2_netOf 30 = .ok (.invokevirtual 126, 3) := by decide +kernel
theorem dX2_netOf_33 : decode cX2_netOf 33 = .ok (.iadd, 1) := by decide +kernel
theorem dX2_netOf_34 : decode cX2_netOf 34 = .ok (.istore_n 2, 1) := by decide +kernel
theorem dX2_netOf_35 : decode cX2_netOf 35 = .ok (.goto 21, 3) := by decide +kernel
theorem dX2_netOf_38 : decode cX2_netOf 38 = .ok (.aload_n 0, 1) := by decide +kernel
theorem dX2_netOf_39 : decode cX2_netOf 39 = .ok (.getfield 35, 3) := by decide +kernel
theorem dX2_netOf_42 : decode cX2_netOf 42 = .ok (.iload_n 3, 1) := by decide +kernel
theorem dX2_netOf_43 : decode cX2_netOf 43 = .ok (.iaload, 1) := by decide +kernel
theorem dX2_netOf_44 : decode cX2_netOf 44 = .ok (.iload_n 1, 1) := by decide +kernel
theorem dX2_netOf_45 : decode cX2_netOf 45 = .ok (.if_icmp .ne 11, 3) := by decide +kernel
theorem dX2_netOf_48 : decode cX2_netOf 48 = .ok (.iload_n 2, 1) := by decide +kernel
theorem dX2_netOf_49 : decode cX2_netOf 49 = .ok (.aload_n 0, 1) := by decide +kernel
theorem dX2_netOf_50 : decode cX2_netOf 50 = .ok (.iload_n 3, 1) := by decide +kernel
theorem dX2_netOf_51 : decode cX2_netOf 51 = .ok (.invokevirtual 126, 3) := by decide +kernel
theorem dX2_netOf_54 : decode cX2_netOf 54 = .ok (.isub, 1) := by decide +kernel
theorem dX2_netOf_55 : decode cX2_netOf 55 = .ok (.istore_n 2, 1) := by decide +kernel
theorem dX2_netOf_56 : decode cX2_netOf 56 = .ok (.iinc 3 1, 3) := by decide +kernel
theorem dX2_netOf_59 : decode cX2_netOf 59 = .ok (.goto (-50), 3) := by decide +kernel
theorem dX2_netOf_62 : decode cX2_netOf 62 = .ok (.iload_n 2, 1) := by decide +kernel
theorem dX2_netOf_63 : decode cX2_netOf 63 = .ok (.ireturn, 1) := by decide +kernel
def qX2_netOf_b56  (post : Int32 → St → Prop) (K9 : Int32 → Int32 → Int32 → St → Prop) (x1 : Int32) (x2 : Int32) (x3 : Int32) (u0 : St) : Prop := ∀ x3_8 : Int32, x3_8 = x3 + (1 : Int32) → K9 x1 x2 x3_8 u0
set_option maxRecDepth 100000 in
set_option maxHeartbeats 4000000 in
theorem kX2_netOf_b56 {C : Cx} {o0 : Nat} {a0 : Nat → Nat} (hC : Fx C cX2_netOf 4 RX2) (hR0 : xR C = rm 3) {post : Int32 → St → Prop} (hR : RI C cX2_netOf 4 (fun u : St => (wX2 o0 a0 (xy C) u [])) (fun r u => post r u)) {K9 : Int32 → Int32 → Int32 → St → Prop} (hK9 : ∀ (x1 : Int32) (x2 : Int32) (x3 : Int32) (u0 : St), K9 x1 x2 x3 u0 → G C 0 0 4 (wX2 o0 a0 (xy C) u0 []) 9 [(0, .ref o0), (1, .int x1), (2, .int x2), (3, .int x3)] []) {x1 : Int32} {x2 : Int32} {x3 : Int32} {u0 : St} (h : qX2_netOf_b56 post K9 x1 x2 x3 u0) : G C 0 0 4 (wX2 o0 a0 (xy C) u0 []) 56 [(0, .ref o0), (1, .int x1), (2, .int x2), (3, .int x3)] [] := by
  obtain ⟨x3_8, ex3_8⟩ : ∃ z : Int32, z = x3 + (1 : Int32) := ⟨_, rfl⟩
  have h := h x3_8 ex3_8
  refine g_iinc (pc := 56) (v := x3_8) (lv' := [(3, .int x3_8), (0, .ref o0), (1, .int x1), (2, .int x2)]) hC 3 dX2_netOf_56 rfl (by rw [ex3_8]; rfl) (Nat.le_of_ble_eq_true rfl) rfl ?_
  refine g_goto (pc := 59) (tgt := 9) hC dX2_netOf_59 (by decide) ?_
  refine g_sub (lv' := [(0, .ref o0), (1, .int x1), (2, .int x2), (3, .int x3_8)]) [1, 2, 3, 0] rfl ?_
  exact hK9 _ _ _ _ h
def qX2_netOf_l9  (post : Int32 → St → Prop) (K9 : Int32 → Int32 → Int32 → St → Prop) (x1 : Int32) (x2 : Int32) (x3 : Int32) (u0 : St) : Prop := (((gi u0 2) ≤ x3 → post x2 u0) ∧ (¬ (gi u0 2) ≤ x3 → (vp_in x3 7 ∧ ((¬ (ga u0 15 (x3).toNatClampNeg) = x1 → (vp_in x3 7 ∧ ((¬ (ga u0 14 (x3).toNatClampNeg) = x1 → qX2_netOf_b56 post K9 x1 x2 x3 u0) ∧ ((ga u0 14 (x3).toNatClampNeg) = x1 → qX2_owed x3 u0 (fun r_13 u_12 => ∀ x2_15 : Int32, x2_15 = (x2 - r_13) → qX2_netOf_b56 post K9 x1 x2_15 x3 u_12))))) ∧ ((ga u0 15 (x3).toNatClampNeg) = x1 → qX2_owed x3 u0 (fun r_17 u_16 => ∀ x2_19 : Int32, x2_19 = (x2 + r_17) → qX2_netOf_b56 post K9 x1 x2_19 x3 u_16))))))
set_option maxRecDepth 100000 in
set_option maxHeartbeats 4000000 in
theorem kX2_netOf_l9 {C : Cx} {o0 : Nat} {a0 : Nat → Nat} (hC : Fx C cX2_netOf 4 RX2) (hR0 : xR C = rm 3) {post : Int32 → St → Prop} (hR : RI C cX2_netOf 4 (fun u : St => (wX2 o0 a0 (xy C) u [])) (fun r u => post r u))  {K9 : Int32 → Int32 → Int32 → St → Prop} (hK9 : ∀ (x1 : Int32) (x2 : Int32) (x3 : Int32) (u0 : St), K9 x1 x2 x3 u0 → G C 0 0 4 (wX2 o0 a0 (xy C) u0 []) 9 [(0, .ref o0), (1, .int x1), (2, .int x2), (3, .int x3)] []) {x1 : Int32} {x2 : Int32} {x3 : Int32} {u0 : St} (h : qX2_netOf_l9 post K9 x1 x2 x3 u0) : G C 0 0 4 (wX2 o0 a0 (xy C) u0 []) 9 [(0, .ref o0), (1, .int x1), (2, .int x2), (3, .int x3)] [] := by
  refine g_iload_n (pc := 9) hC 3 dX2_netOf_9 rfl rfl ?_
  refine g_aload_n (pc := 10) hC 0 dX2_netOf_10 rfl rfl ?_
  refine getX2_2 (pc := 11) hC (F := fun Z => Z) (X := []) (fun _ => rfl) fl_X2_59 dX2_netOf_11 ?_
  refine g_icmp_ge (pc := 14) (tgt := 62) hC dX2_netOf_14 (by decide) (fun c_9 => ?_) (fun c_9 => ?_)
  · have h := h.1 c_9
    refine g_iload_n (pc := 62) hC 2 dX2_netOf_62 rfl rfl ?_
    exact hR _ _ _ u0 dX2_netOf_63 h
  · have h := h.2 c_9
    refine g_aload_n (pc := 17) hC 0 dX2_netOf_17 rfl rfl ?_
    refine getX2_15 (pc := 18) hC (F := fun Z => Z) (X := []) (fun _ => rfl) fl_X2_38 dX2_netOf_18 ?_
    refine g_iload_n (pc := 21) hC 3 dX2_netOf_21 rfl rfl ?_
    refine aldX2_15 (pc := 22) hC (F := fun Z => Z) (X := []) (fun _ => rfl) h.1 dX2_netOf_22 ?_
    have h := h.2
    refine g_iload_n (pc := 23) hC 1 dX2_netOf_23 rfl rfl ?_
    refine g_icmp_ne (pc := 24) (tgt := 38) hC dX2_netOf_24 (by decide) (fun c_10 => ?_) (fun c_10 => ?_)
    · have h := h.1 c_10
      refine g_aload_n (pc := 38) hC 0 dX2_netOf_38 rfl rfl ?_
      refine getX2_14 (pc := 39) hC (F := fun Z => Z) (X := []) (fun _ => rfl) fl_X2_35 dX2_netOf_39 ?_
      refine g_iload_n (pc := 42) hC 3 dX2_netOf_42 rfl rfl ?_
      refine aldX2_14 (pc := 43) hC (F := fun Z => Z) (X := []) (fun _ => rfl) h.1 dX2_netOf_43 ?_
      have h := h.2
      refine g_iload_n (pc := 44) hC 1 dX2_netOf_44 rfl rfl ?_
      refine g_icmp_ne (pc := 45) (tgt := 56) hC dX2_netOf_45 (by decide) (fun c_11 => ?_) (fun c_11 => ?_)
      · have h := h.1 c_11
        exact kX2_netOf_b56 hC hR0 hR hK9 h
      · have h := h.2 c_11
        refine g_iload_n (pc := 48) hC 2 dX2_netOf_48 rfl rfl ?_
        refine g_aload_n (pc := 49) hC 0 dX2_netOf_49 rfl rfl ?_
        refine g_iload_n (pc := 50) hC 3 dX2_netOf_50 rfl rfl ?_
        refine g_callV_i (pc := 51) (wd := fun (u : St) Y => (wX2 o0 a0 (xy C) u Y)) (F := fun Z => Z) (X := []) (As := [.int x3]) (rest := [.int x2]) (u := u0) hC (fun _ _ => rfl) (fun _ => rfl) (ctX2_owed h) wvX2_owed ml_X2_126 (ci := 1) (q0 := 0) rfl rfl rfl rfl (rmok hR0 rfl) ⟨Nat.zero_le _, Nat.zero_le _⟩ rfl (Nat.le_of_ble_eq_true rfl) dX2_netOf_51 (fun r_13 u_12 h => ?_)
        refine g_isub (pc := 54) hC dX2_netOf_54 ?_
        refine g_topi (fun x2_15 ex2_15 => ?_)
        have h := h x2_15 ex2_15
        refine g_istore_n (pc := 55) (lv' := [(2, .int x2_15), (0, .ref o0), (1, .int x1), (3, .int x3)]) hC dX2_netOf_55 rfl (Nat.le_of_ble_eq_true rfl) rfl ?_
        refine g_sub (lv' := [(0, .ref o0), (1, .int x1), (2, .int x2_15), (3, .int x3)]) [1, 2, 0, 3] rfl ?_
        exact kX2_netOf_b56 hC hR0 hR hK9 h
    · have h := h.2 c_10
      refine g_iload_n (pc := 27) hC 2 dX2_netOf_27 rfl rfl ?_
      refine g_aload_n (pc := 28) hC 0 dX2_netOf_28 rfl rfl ?_
      refine g_iload_n (pc := 29) hC 3 dX2_netOf_29 rfl rfl ?_
      refine g_callV_i (pc := 30) (wd := fun (u : St) Y => (wX2 o0 a0 (xy C) u Y)) (F := fun Z => Z) (X := []) (As := [.int x3]) (rest := [.int x2]) (u := u0) hC (fun _ _ => rfl) (fun _ => rfl) (ctX2_owed h) wvX2_owed ml_X2_126 (ci := 1) (q0 := 0) rfl rfl rfl rfl (rmok hR0 rfl) ⟨Nat.zero_le _, Nat.zero_le _⟩ rfl (Nat.le_of_ble_eq_true rfl) dX2_netOf_30 (fun r_17 u_16 h => ?_)
      refine g_iadd (pc := 33) hC dX2_netOf_33 ?_
      refine g_topi (fun x2_19 ex2_19 => ?_)
      have h := h x2_19 ex2_19
      refine g_istore_n (pc := 34) (lv' := [(2, .int x2_19), (0, .ref o0), (1, .int x1), (3, .int x3)]) hC dX2_netOf_34 rfl (Nat.le_of_ble_eq_true rfl) rfl ?_
      refine g_goto (pc := 35) (tgt := 56) hC dX2_netOf_35 (by decide) ?_
      refine g_sub (lv' := [(0, .ref o0), (1, .int x1), (2, .int x2_19), (3, .int x3)]) [1, 2, 0, 3] rfl ?_
      exact kX2_netOf_b56 hC hR0 hR hK9 h
def qX2_netOf_L9  (post : Int32 → St → Prop)  : Nat → Int32 → Int32 → Int32 → St → Prop
  | 0 => fun _ _ _ _ => False
  | n + 1 => qX2_netOf_l9 post (qX2_netOf_L9 post n)
theorem kX2_netOf_L9 {C : Cx} {o0 : Nat} {a0 : Nat → Nat} (hC : Fx C cX2_netOf 4 RX2) (hR0 : xR C = rm 3) {post : Int32 → St → Prop} (hR : RI C cX2_netOf 4 (fun u : St => (wX2 o0 a0 (xy C) u [])) (fun r u => post r u))  : ∀ (n : Nat) (x1 : Int32) (x2 : Int32) (x3 : Int32) (u0 : St), qX2_netOf_L9 post n x1 x2 x3 u0 → G C 0 0 4 (wX2 o0 a0 (xy C) u0 []) 9 [(0, .ref o0), (1, .int x1), (2, .int x2), (3, .int x3)] [] := by
  intro n
  induction n with
  | zero => intro x1 x2 x3 u0 h; exact h.elim
  | succ n ih => intro x1 x2 x3 u0 h; exact kX2_netOf_l9 hC hR0 hR  ih h
def qX2_netOf (x1 : Int32) (u0 : St) (post : Int32 → St → Prop) : Prop := (vp_in x1 5 ∧ ∀ x2_20 : Int32, x2_20 = (ga u0 12 (x1).toNatClampNeg) → ∃ n_21 : Nat, qX2_netOf_L9 post n_21 x1 x2_20 (0 : Int32) u0)
set_option maxRecDepth 100000 in
set_option maxHeartbeats 4000000 in
theorem kX2_netOf {C : Cx} {o0 : Nat} {a0 : Nat → Nat} (hC : Fx C cX2_netOf 4 RX2) (hR0 : xR C = rm 3) {post : Int32 → St → Prop} (hR : RI C cX2_netOf 4 (fun u : St => (wX2 o0 a0 (xy C) u [])) (fun r u => post r u)) {x1 : Int32} {u0 : St} (h : qX2_netOf x1 u0 post) : G C 0 0 4 (wX2 o0 a0 (xy C) u0 []) 0 [(0, .ref o0), (1, .int x1)] [] := by
  refine g_aload_n (pc := 0) hC 0 dX2_netOf_0 rfl rfl ?_
  refine getX2_12 (pc := 1) hC (F := fun Z => Z) (X := []) (fun _ => rfl) fl_X2_28 dX2_netOf_1 ?_
  refine g_iload_n (pc := 4) hC 1 dX2_netOf_4 rfl rfl ?_
  refine aldX2_12 (pc := 5) hC (F := fun Z => Z) (X := []) (fun _ => rfl) h.1 dX2_netOf_5 ?_
  have h := h.2
  refine g_topi (fun x2_20 ex2_20 => ?_)
  have h := h x2_20 ex2_20
  refine g_istore_n (pc := 6) (lv' := [(2, .int x2_20), (0, .ref o0), (1, .int x1)]) hC dX2_netOf_6 rfl (Nat.le_of_ble_eq_true rfl) rfl ?_
  refine g_iconst (pc := 7) (v := 0) hC dX2_netOf_7 (by decide) ?_
  refine g_istore_n (pc := 8) (lv' := [(3, .int (0 : Int32)), (2, .int x2_20), (0, .ref o0), (1, .int x1)]) hC dX2_netOf_8 rfl (Nat.le_of_ble_eq_true rfl) rfl ?_
  refine g_sub (lv' := [(0, .ref o0), (1, .int x1), (2, .int x2_20), (3, .int (0 : Int32))]) [2, 3, 1, 0] rfl ?_
  obtain ⟨n_21, h⟩ := h
  exact kX2_netOf_L9 hC hR0 hR  n_21 _ _ _ _ h
theorem ctX2_netOf {l : Launch} {D : va_G} {cy : Nat → ClassId} {kd : Nat → Nat} {o0 : Nat} {a0 : Nat → Nat} {x1 : Int32} {u0 : St} {post : Int32 → St → Prop} (h : qX2_netOf x1 u0 post) : CtI l D cy kd yX2_netOf cX2_netOf 4 3 .int [.ref o0, .int x1] (fun u : St => (wX2 o0 a0 cy u [])) u0 (fun r u => post r u) := met_i (by decide) (Nat.le_of_ble_eq_true rfl) (fun C e1 e2 e3 e4 e5 hC hR => by subst e1 e2 e3 e4; exact kX2_netOf hC e5 hR h)
theorem dX2_gain_0 : decode cX2_gain 0 = .ok (.aload_n 0, 1) := by decide +kernel
theorem dX2_gain_1 : decode cX2_gain 1 = .ok (.getfield 28, 3) := by decide +kernel
theorem dX2_gain_4 : decode cX2_gain 4 = .ok (.iload_n 1, 1) := by decide +kernel
theorem dX2_gain_5 : decode cX2_gain 5 = .ok (.sipush 9999, 3) := by decide +kernel
theorem dX2_gain_8 : decode cX2_gain 8 = .ok (.aload_n 0, 1) := by decide +kernel
theorem dX2_gain_9 : decode cX2_gain 9 = .ok (.getfield 28, 3) := by decide +kernel
theorem dX2_gain_12 : decode cX2_gain 12 = .ok (.iload_n 1, 1) := by decide +kernel
theorem dX2_gain_13 : decode cX2_gain 13 = .ok (.iaload, 1) := by decide +kernel
theorem dX2_gain_14 : decode cX2_gain 14 = .ok (.iload_n 2, 1) := by decide +kernel
theorem dX2_gain_15 : decode cX2_gain 15 = .ok (.iadd, 1) := by decide +kernel
theorem dX2_gain_16 : decode cX2_gain 16 = .ok (.invokestatic 129, 3) := by decide +kernel
theorem dX2_gain_19 : decode cX2_gain 19 = .ok (.iastore, 1) := by decide +kernel
theorem dX2_gain_20 : decode cX2_gain 20 = .ok (.return_, 1) := by decide +kernel
def qX2_gain (x1 : Int32) (x2 : Int32) (u0 : St) (post : St → Prop) : Prop := (vp_in x1 5 ∧ (vp_in x1 5 ∧ ∀ u_2 : St, u_2 = (sw u0 12 (upd (ga u0 12) (x1).toNatClampNeg (if ((ga u0 12 (x1).toNatClampNeg) + x2) < (9999 : Int32) then ((ga u0 12 (x1).toNatClampNeg) + x2) else (9999 : Int32)))) → post u_2))
set_option maxRecDepth 100000 in
set_option maxHeartbeats 4000000 in
theorem kX2_gain {C : Cx} {o0 : Nat} {a0 : Nat → Nat} (hC : Fx C cX2_gain 3 RX2) (hR0 : xR C = rm 2) {post : St → Prop} (hR : RV C cX2_gain 3 (fun u : St => (wX2 o0 a0 (xy C) u [])) (fun u => post u)) {x1 : Int32} {x2 : Int32} {u0 : St} (h : qX2_gain x1 x2 u0 post) : G C 0 0 3 (wX2 o0 a0 (xy C) u0 []) 0 [(0, .ref o0), (1, .int x1), (2, .int x2)] [] := by
  refine g_aload_n (pc := 0) hC 0 dX2_gain_0 rfl rfl ?_
  refine getX2_12 (pc := 1) hC (F := fun Z => Z) (X := []) (fun _ => rfl) fl_X2_28 dX2_gain_1 ?_
  refine g_iload_n (pc := 4) hC 1 dX2_gain_4 rfl rfl ?_
  refine g_sipush (pc := 5) (v := 9999) hC dX2_gain_5 (by decide) ?_
  refine g_aload_n (pc := 8) hC 0 dX2_gain_8 rfl rfl ?_
  refine getX2_12 (pc := 9) hC (F := fun Z => Z) (X := []) (fun _ => rfl) fl_X2_28 dX2_gain_9 ?_
  refine g_iload_n (pc := 12) hC 1 dX2_gain_12 rfl rfl ?_
  refine aldX2_12 (pc := 13) hC (F := fun Z => Z) (X := []) (fun _ => rfl) h.1 dX2_gain_13 ?_
  have h := h.2
  refine g_iload_n (pc := 14) hC 2 dX2_gain_14 rfl rfl ?_
  refine g_iadd (pc := 15) hC dX2_gain_15 ?_
  refine g_mmin (pc := 16) hC hR0 ml_X2_129 dX2_gain_16 (Nat.le_of_ble_eq_true rfl) ?_
  refine astX2_12 (pc := 19) hC (F := fun Z => Z) (X := []) (fun _ => rfl) h.1 dX2_gain_19 ?_
  have h := h.2
  refine g_st (w := fun z => (wX2 o0 a0 (xy C) z [])) (u := (sw u0 12 (upd (ga u0 12) (x1).toNatClampNeg (if ((ga u0 12 (x1).toNatClampNeg) + x2) < (9999 : Int32) then ((ga u0 12 (x1).toNatClampNeg) + x2) else (9999 : Int32))))) (fun u_2 eu_2 => ?_)
  have h := h u_2 eu_2
  exact hR _ _ u_2 dX2_gain_20 h
theorem ctX2_gain {l : Launch} {D : va_G} {cy : Nat → ClassId} {kd : Nat → Nat} {o0 : Nat} {a0 : Nat → Nat} {x1 : Int32} {x2 : Int32} {u0 : St} {post : St → Prop} (h : qX2_gain x1 x2 u0 post) : CtV l D cy kd yX2_gain cX2_gain 3 2  [.ref o0, .int x1, .int x2] (fun u : St => (wX2 o0 a0 cy u [])) u0 (fun u => post u) := met_v (by decide) (Nat.le_of_ble_eq_true rfl) (fun C e1 e2 e3 e4 e5 hC hR => by subst e1 e2 e3 e4; exact kX2_gain hC e5 hR h)
theorem dX2_handOver_0 : decode cX2_handOver 0 = .ok (.aload_n 0, 1) := by decide +kernel
theorem dX2_handOver_1 : decode cX2_handOver 1 = .ok (.getfield 28, 3) := by decide +kernel
theorem dX2_handOver_4 : decode cX2_handOver 4 = .ok (.iload_n 1, 1) := by decide +kernel
theorem dX2_handOver_5 : decode cX2_handOver 5 = .ok (.dup2, 1) := by decide +kernel
theorem dX2_handOver_6 : decode cX2_handOver 6 = .ok (.iaload, 1) := by decide +kernel
theorem dX2_handOver_7 : decode cX2_handOver 7 = .ok (.iload_n 3, 1) := by decide +kernel
theorem dX2_handOver_8 : decode cX2_handOver 8 = .ok (.isub, 1) := by decide +kernel
theorem dX2_handOver_9 : decode cX2_handOver 9 = .ok (.iastore, 1) := by decide +kernel
theorem dX2_handOver_10 : decode cX2_handOver 10 = .ok (.aload_n 0, 1) := by decide +kernel
theorem dX2_handOver_11 : decode cX2_handOver 11 = .ok (.iload_n 2, 1) := by decide +kernel
theorem dX2_handOver_12 : decode cX2_handOver 12 = .ok (.iload_n 3, 1) := by decide +kernel
theorem dX2_handOver_13 : decode cX2_handOver 13 = .ok (.invokevirtual 134, 3) := by decide +kernel
theorem dX2_handOver_16 : decode cX2_handOver 16 = .ok (.return_, 1) := by decide +kernel
def qX2_handOver (x1 : Int32) (x2 : Int32) (x3 : Int32) (u0 : St) (post : St → Prop) : Prop := (vp_in x1 5 ∧ (vp_in x1 5 ∧ ∀ u_4 : St, u_4 = (sw u0 12 (upd (ga u0 12) (x1).toNatClampNeg ((ga u0 12 (x1).toNatClampNeg) - x3))) → qX2_gain x2 x3 u_4 (fun u_5 => post u_5)))
set_option maxRecDepth 100000 in
set_option maxHeartbeats 4000000 in
theorem kX2_handOver {C : Cx} {o0 : Nat} {a0 : Nat → Nat} (hC : Fx C cX2_handOver 4 RX2) (hR0 : xR C = rm 3) {post : St → Prop} (hR : RV C cX2_handOver 4 (fun u : St => (wX2 o0 a0 (xy C) u [])) (fun u => post u)) {x1 : Int32} {x2 : Int32} {x3 : Int32} {u0 : St} (h : qX2_handOver x1 x2 x3 u0 post) : G C 0 0 4 (wX2 o0 a0 (xy C) u0 []) 0 [(0, .ref o0), (1, .int x1), (2, .int x2), (3, .int x3)] [] := by
  refine g_aload_n (pc := 0) hC 0 dX2_handOver_0 rfl rfl ?_
  refine getX2_12 (pc := 1) hC (F := fun Z => Z) (X := []) (fun _ => rfl) fl_X2_28 dX2_handOver_1 ?_
  refine g_iload_n (pc := 4) hC 1 dX2_handOver_4 rfl rfl ?_
  refine g_dup2 (pc := 5) hC dX2_handOver_5 rfl rfl ?_
  refine aldX2_12 (pc := 6) hC (F := fun Z => Z) (X := []) (fun _ => rfl) h.1 dX2_handOver_6 ?_
  have h := h.2
  refine g_iload_n (pc := 7) hC 3 dX2_handOver_7 rfl rfl ?_
  refine g_isub (pc := 8) hC dX2_handOver_8 ?_
  refine astX2_12 (pc := 9) hC (F := fun Z => Z) (X := []) (fun _ => rfl) h.1 dX2_handOver_9 ?_
  have h := h.2
  refine g_st (w := fun z => (wX2 o0 a0 (xy C) z [])) (u := (sw u0 12 (upd (ga u0 12) (x1).toNatClampNeg ((ga u0 12 (x1).toNatClampNeg) - x3)))) (fun u_4 eu_4 => ?_)
  have h := h u_4 eu_4
  refine g_aload_n (pc := 10) hC 0 dX2_handOver_10 rfl rfl ?_
  refine g_iload_n (pc := 11) hC 2 dX2_handOver_11 rfl rfl ?_
  refine g_iload_n (pc := 12) hC 3 dX2_handOver_12 rfl rfl ?_
  refine g_callV_v (pc := 13) (wd := fun (u : St) Y => (wX2 o0 a0 (xy C) u Y)) (F := fun Z => Z) (X := []) (As := [.int x2, .int x3]) (rest := []) (u := u_4) hC (fun _ _ => rfl) (fun _ => rfl) (ctX2_gain h) wvX2_gain ml_X2_134 (ci := 1) (q0 := 0) rfl rfl rfl rfl (rmok hR0 rfl) ⟨Nat.zero_le _, Nat.zero_le _⟩ rfl (Nat.le_of_ble_eq_true rfl) dX2_handOver_13 (fun u_5 h => ?_)
  exact hR _ _ u_5 dX2_handOver_16 h
theorem ctX2_handOver {l : Launch} {D : va_G} {cy : Nat → ClassId} {kd : Nat → Nat} {o0 : Nat} {a0 : Nat → Nat} {x1 : Int32} {x2 : Int32} {x3 : Int32} {u0 : St} {post : St → Prop} (h : qX2_handOver x1 x2 x3 u0 post) : CtV l D cy kd yX2_handOver cX2_handOver 4 3  [.ref o0, .int x1, .int x2, .int x3] (fun u : St => (wX2 o0 a0 cy u [])) u0 (fun u => post u) := met_v (by decide) (Nat.le_of_ble_eq_true rfl) (fun C e1 e2 e3 e4 e5 hC hR => by subst e1 e2 e3 e4; exact kX2_handOver hC e5 hR h)
theorem dX2_canPay_0 : decode cX2_canPay 0 = .ok (.aload_n 0, 1) := by decide +kernel
theorem dX2_canPay_1 : decode cX2_canPay 1 = .ok (.iload_n 1, 1) := by decide +kernel
theorem dX2_canPay_2 : decode cX2_canPay 2 = .ok (.invokevirtual 138, 3) := by decide +kernel
theorem dX2_canPay_5 : decode cX2_canPay 5 = .ok (.ifCond .eq 37, 3) := by decide +kernel
theorem dX2_canPay_8 : decode cX2_canPay 8 = .ok (.aload_n 0, 1) := by decide +kernel
theorem dX2_canPay_9 : decode cX2_canPay 9 = .ok (.getfield 68, 3) := by decide +kernel
theorem dX2_canPay_12 : decode cX2_canPay 12 = .ok (.iload_n 1, 1) := by decide +kernel
theorem dX2_canPay_13 : decode cX2_canPay 13 = .ok (.invokestatic 84, 3) := by decide +kernel
theorem dX2_canPay_16 : decode cX2_canPay 16 = .ok (.ifCond .ne 26, 3) := by decide +kernel
theorem dX2_canPay_19 : decode cX2_canPay 19 = .ok (.aload_n 0, 1) := by decide +kernel
theorem dX2_canPay_20 : decode cX2_canPay 20 = .ok (.getfield 28, 3) := by decide +kernel
theorem dX2_canPay_23 : decode cX2_canPay 23 = .ok (.aload_n 0, 1) := by decide +kernel
theorem dX2_canPay_24 : decode cX2_canPay 24 = .ok (.getfield 35, 3) := by decide +kernel
theorem dX2_canPay_27 : decode cX2_canPay 27 = .ok (.iload_n 1, 1) := by decide +kernel
theorem dX2_canPay_28 : decode cX2_canPay 28 = .ok (.iaload, 1) := by decide +kernel
theorem dX2_canPay_29 : decode cX2_canPay 29 = .ok (.iaload, 1) := by decide +kernel
theorem dX2_canPay_30 : decode cX2_canPay 30 = .ok (.aload_n 0, 1) := by decide +kernel
theorem dX2_canPay_31 : decode cX2_canPay 31 = .ok (.iload_n 1, 1) := by decide +kernel
theorem dX2_canPay_32 : decode cX2_canPay 32 = .ok (.invokevirtual 126, 3) := by decide +kernel
theorem dX2_canPay_35 : decode cX2_canPay 35 = .ok (.if_icmp .lt 7, 3) := by decide +kernel
theorem dX2_canPay_38 : decode cX2_canPay 38 = .ok (.iconst 1, 1) := by decide +kernel
theorem dX2_canPay_39 : decode cX2_canPay 39 = .ok (.goto 4, 3) := by decide +kernel
theorem dX2_canPay_42 : decode cX2_canPay 42 = .ok (.iconst 0, 1) := by decide +kernel
theorem dX2_canPay_43 : decode cX2_canPay 43 = .ok (.ireturn, 1) := by decide +kernel
def qX2_canPay_b43  (post : Int32 → St → Prop)  (s0 : Int32) (u0 : St) : Prop := (bz s0 ∧ post s0 u0)
set_option maxRecDepth 100000 in
set_option maxHeartbeats 4000000 in
theorem kX2_canPay_b43 {C : Cx} {o0 : Nat} {a0 : Nat → Nat} (hC : Fx C cX2_canPay 2 RX2) (hR0 : xR C = rm 3) {post : Int32 → St → Prop} (hR : RZ C cX2_canPay 2 (fun u : St => (wX2 o0 a0 (xy C) u [])) (fun r u => post r u))  {s0 : Int32} {u0 : St} (h : qX2_canPay_b43 post s0 u0) : G C 0 0 2 (wX2 o0 a0 (xy C) u0 []) 43 [] [.int s0] := by
  exact hR _ _ _ u0 dX2_canPay_43 h.1 h.2
def qX2_canPay_b42  (post : Int32 → St → Prop)  (u0 : St) : Prop := qX2_canPay_b43 post (0 : Int32) u0
set_option maxRecDepth 100000 in
set_option maxHeartbeats 4000000 in
theorem kX2_canPay_b42 {C : Cx} {o0 : Nat} {a0 : Nat → Nat} (hC : Fx C cX2_canPay 2 RX2) (hR0 : xR C = rm 3) {post : Int32 → St → Prop} (hR : RZ C cX2_canPay 2 (fun u : St => (wX2 o0 a0 (xy C) u [])) (fun r u => post r u))  {u0 : St} (h : qX2_canPay_b42 post u0) : G C 0 0 2 (wX2 o0 a0 (xy C) u0 []) 42 [] [] := by
  refine g_iconst (pc := 42) (v := 0) hC dX2_canPay_42 (by decide) ?_
  exact kX2_canPay_b43 hC hR0 hR  h
def qX2_canPay (x1 : Int32) (u0 : St) (post : Int32 → St → Prop) : Prop := qX2_isDebt x1 u0 (fun r_10 u_9 => ((r_10 = 0 → qX2_canPay_b42 post u_9) ∧ (¬ r_10 = 0 → qX11_has (gi u_9 6) x1 (fun r_13 => ((¬ r_13 = 0 → qX2_canPay_b42 post u_9) ∧ (r_13 = 0 → (vp_in x1 7 ∧ (vp_in (ga u_9 14 (x1).toNatClampNeg) 5 ∧ qX2_owed x1 u_9 (fun r_17 u_16 => (((ga u_9 12 ((ga u_9 14 (x1).toNatClampNeg)).toNatClampNeg) < r_17 → qX2_canPay_b42 post u_16) ∧ (¬ (ga u_9 12 ((ga u_9 14 (x1).toNatClampNeg)).toNatClampNeg) < r_17 → qX2_canPay_b43 post (1 : Int32) u_16)))))))))))
set_option maxRecDepth 100000 in
set_option maxHeartbeats 4000000 in
theorem kX2_canPay {C : Cx} {o0 : Nat} {a0 : Nat → Nat} (hC : Fx C cX2_canPay 2 RX2) (hR0 : xR C = rm 3) {post : Int32 → St → Prop} (hR : RZ C cX2_canPay 2 (fun u : St => (wX2 o0 a0 (xy C) u [])) (fun r u => post r u)) {x1 : Int32} {u0 : St} (h : qX2_canPay x1 u0 post) : G C 0 0 2 (wX2 o0 a0 (xy C) u0 []) 0 [(0, .ref o0), (1, .int x1)] [] := by
  refine g_aload_n (pc := 0) hC 0 dX2_canPay_0 rfl rfl ?_
  refine g_iload_n (pc := 1) hC 1 dX2_canPay_1 rfl rfl ?_
  refine g_callV_i (pc := 2) (wd := fun (u : St) Y => (wX2 o0 a0 (xy C) u Y)) (F := fun Z => Z) (X := []) (As := [.int x1]) (rest := []) (u := u0) hC (fun _ _ => rfl) (fun _ => rfl) (ctX2_isDebt h) wvX2_isDebt ml_X2_138 (ci := 1) (q0 := 0) rfl rfl rfl rfl (rmok hR0 rfl) ⟨Nat.zero_le _, Nat.zero_le _⟩ rfl (Nat.le_of_ble_eq_true rfl) dX2_canPay_2 (fun r_10 u_9 h => ?_)
  refine g_if_eq (pc := 5) (tgt := 42) hC dX2_canPay_5 (by decide) (fun c_12 => ?_) (fun c_12 => ?_)
  · have h := h.1 c_12
    refine g_sub (lv' := []) [] rfl ?_
    exact kX2_canPay_b42 hC hR0 hR  h
  · have h := h.2 c_12
    refine g_aload_n (pc := 8) hC 0 dX2_canPay_8 rfl rfl ?_
    refine getX2_6 (pc := 9) hC (F := fun Z => Z) (X := []) (fun _ => rfl) fl_X2_68 dX2_canPay_9 ?_
    refine g_iload_n (pc := 12) hC 1 dX2_canPay_12 rfl rfl ?_
    refine g_callSN_i (pc := 13) (wd := fun (_ : Unit) Y => Y) (F := fun Z => Z) (X := []) (As := [.int (gi u_9 6), .int x1]) (rest := []) (u := ()) hC (fun _ _ => rfl) (fun _ => rfl) (ctX11_has h) wvX11_has nl_X2_84 rfl (rmok hR0 rfl) ⟨Nat.zero_le _, Nat.zero_le _⟩ rfl (Nat.le_of_ble_eq_true rfl) dX2_canPay_13 (fun r_13 u_14 h => ?_)
    refine g_if_ne (pc := 16) (tgt := 42) hC dX2_canPay_16 (by decide) (fun c_15 => ?_) (fun c_15 => ?_)
    · have h := h.1 c_15
      refine g_sub (lv' := []) [] rfl ?_
      exact kX2_canPay_b42 hC hR0 hR  h
    · have h := h.2 c_15
      refine g_aload_n (pc := 19) hC 0 dX2_canPay_19 rfl rfl ?_
      refine getX2_12 (pc := 20) hC (F := fun Z => Z) (X := []) (fun _ => rfl) fl_X2_28 dX2_canPay_20 ?_
      refine g_aload_n (pc := 23) hC 0 dX2_canPay_23 rfl rfl ?_
      refine getX2_14 (pc := 24) hC (F := fun Z => Z) (X := []) (fun _ => rfl) fl_X2_35 dX2_canPay_24 ?_
      refine g_iload_n (pc := 27) hC 1 dX2_canPay_27 rfl rfl ?_
      refine aldX2_14 (pc := 28) hC (F := fun Z => Z) (X := []) (fun _ => rfl) h.1 dX2_canPay_28 ?_
      have h := h.2
      refine aldX2_12 (pc := 29) hC (F := fun Z => Z) (X := []) (fun _ => rfl) h.1 dX2_canPay_29 ?_
      have h := h.2
      refine g_aload_n (pc := 30) hC 0 dX2_canPay_30 rfl rfl ?_
      refine g_iload_n (pc := 31) hC 1 dX2_canPay_31 rfl rfl ?_
      refine g_callV_i (pc := 32) (wd := fun (u : St) Y => (wX2 o0 a0 (xy C) u Y)) (F := fun Z => Z) (X := []) (As := [.int x1]) (rest := [.int (ga u_9 12 ((ga u_9 14 (x1).toNatClampNeg)).toNatClampNeg)]) (u := u_9) hC (fun _ _ => rfl) (fun _ => rfl) (ctX2_owed h) wvX2_owed ml_X2_126 (ci := 1) (q0 := 0) rfl rfl rfl rfl (rmok hR0 rfl) ⟨Nat.zero_le _, Nat.zero_le _⟩ rfl (Nat.le_of_ble_eq_true rfl) dX2_canPay_32 (fun r_17 u_16 h => ?_)
      refine g_icmp_lt (pc := 35) (tgt := 42) hC dX2_canPay_35 (by decide) (fun c_19 => ?_) (fun c_19 => ?_)
      · have h := h.1 c_19
        refine g_sub (lv' := []) [] rfl ?_
        exact kX2_canPay_b42 hC hR0 hR  h
      · have h := h.2 c_19
        refine g_iconst (pc := 38) (v := 1) hC dX2_canPay_38 (by decide) ?_
        refine g_goto (pc := 39) (tgt := 43) hC dX2_canPay_39 (by decide) ?_
        refine g_sub (lv' := []) [] rfl ?_
        exact kX2_canPay_b43 hC hR0 hR  h
theorem ctX2_canPay {l : Launch} {D : va_G} {cy : Nat → ClassId} {kd : Nat → Nat} {o0 : Nat} {a0 : Nat → Nat} {x1 : Int32} {u0 : St} {post : Int32 → St → Prop} (h : qX2_canPay x1 u0 post) : CtI l D cy kd yX2_canPay cX2_canPay 2 3 .boolean [.ref o0, .int x1] (fun u : St => (wX2 o0 a0 cy u [])) u0 (fun r u => post r u) := met_z (by decide) (Nat.le_of_ble_eq_true rfl) (fun C e1 e2 e3 e4 e5 hC hR => by subst e1 e2 e3 e4; exact kX2_canPay hC e5 hR h)
theorem dX2_payDebt_0 : decode cX2_payDebt 0 = .ok (.aload_n 0, 1) := by decide +kernel
theorem dX2_payDebt_1 : decode cX2_payDebt 1 = .ok (.iload_n 1, 1) := by decide +kernel
theorem dX2_payDebt_2 : decode cX2_payDebt 2 = .ok (.invokevirtual 126, 3) := by decide +kernel
theorem dX2_payDebt_5 : decode cX2_payDebt 5 = .ok (.istore_n 2, 1) := by decide +kernel
theorem dX2_payDebt_6 : decode cX2_payDebt 6 = .ok (.aload_n 0, 1) := by decide +kernel
theorem dX2_payDebt_7 : decode cX2_payDebt 7 = .ok (.aload_n 0, 1) := by decide +kernel
theorem dX2_payDebt_8 : decode cX2_payDebt 8 = .ok (.getfield 35, 3) := by decide +kernel
theorem dX2_payDebt_11 : decode cX2_payDebt 11 = .ok (.iload_n 1, 1) := by decide +kernel
theorem dX2_payDebt_12 : decode cX2_payDebt 12 = .ok (.iaload, 1) := by decide +kernel
theorem dX2_payDebt_13 : decode cX2_payDebt 13 = .ok (.aload_n 0, 1) := by decide +kernel
theorem dX2_payDebt_14 : decode cX2_payDebt 14 = .ok (.getfield 38, 3) := by decide +kernel
theorem dX2_payDebt_17 : decode cX2_payDebt 17 = .ok (.iload_n 1, 1) := by decide +kernel
theorem dX2_payDebt_18 : decode cX2_payDebt 18 = .ok (.iaload, 1) := by decide +kernel
theorem dX2_payDebt_19 : decode cX2_payDebt 19 = .ok (.iload_n 2, 1) := by decide +kernel
theorem dX2_payDebt_20 : decode cX2_payDebt 20 = .ok (.invokevirtual 142, 3) := by decide +kernel
theorem dX2_payDebt_23 : decode cX2_payDebt 23 = .ok (.aload_n 0, 1) := by decide +kernel
theorem dX2_payDebt_24 : decode cX2_payDebt 24 = .ok (.dup, 1) := by decide +kernel
theorem dX2_payDebt_25 : decode cX2_payDebt 25 = .ok (.getfield 68, 3) := by decide +kernel
theorem dX2_payDebt_28 : decode cX2_payDebt 28 = .ok (.iconst 1, 1) := by decide +kernel
theorem dX2_payDebt_29 : decode cX2_payDebt 29 = .ok (.iload_n 1, 1) := by decide +kernel
theorem dX2_payDebt_30 : decode cX2_payDebt 30 = .ok (.ishl, 1) := by decide +kernel
theorem dX2_payDebt_31 : decode cX2_payDebt 31 = .ok (.ior, 1) := by decide +kernel
theorem dX2_payDebt_32 : decode cX2_payDebt 32 = .ok (.putfield 68, 3) := by decide +kernel
theorem dX2_payDebt_35 : decode cX2_payDebt 35 = .ok (.aload_n 0, 1) := by decide +kernel
theorem dX2_payDebt_36 : decode cX2_payDebt 36 = .ok (.invokevirtual 119, 3) := by decide +kernel
theorem dX2_payDebt_39 : decode cX2_payDebt 39 = .ok (.iload_n 2, 1) := by decide +kernel
theorem dX2_payDebt_40 : decode cX2_payDebt 40 = .ok (.ireturn, 1) := by decide +kernel
def qX2_payDebt (x1 : Int32) (u0 : St) (post : Int32 → St → Prop) : Prop := qX2_owed x1 u0 (fun r_10 u_9 => (vp_in x1 7 ∧ (vp_in x1 7 ∧ qX2_handOver (ga u_9 14 (x1).toNatClampNeg) (ga u_9 15 (x1).toNatClampNeg) r_10 u_9 (fun u_12 => ∀ u_14 : St, u_14 = (si u_12 6 ((gi u_12 6) ||| ((1 : Int32) <<< (x1 &&& 31)))) → qX2_settle u_14 (fun u_15 => post r_10 u_15)))))
set_option maxRecDepth 100000 in
set_option maxHeartbeats 4000000 in
theorem kX2_payDebt {C : Cx} {o0 : Nat} {a0 : Nat → Nat} (hC : Fx C cX2_payDebt 3 RX2) (hR0 : xR C = rm 4) {post : Int32 → St → Prop} (hR : RI C cX2_payDebt 3 (fun u : St => (wX2 o0 a0 (xy C) u [])) (fun r u => post r u)) {x1 : Int32} {u0 : St} (h : qX2_payDebt x1 u0 post) : G C 0 0 3 (wX2 o0 a0 (xy C) u0 []) 0 [(0, .ref o0), (1, .int x1)] [] := by
  refine g_aload_n (pc := 0) hC 0 dX2_payDebt_0 rfl rfl ?_
  refine g_iload_n (pc := 1) hC 1 dX2_payDebt_1 rfl rfl ?_
  refine g_callV_i (pc := 2) (wd := fun (u : St) Y => (wX2 o0 a0 (xy C) u Y)) (F := fun Z => Z) (X := []) (As := [.int x1]) (rest := []) (u := u0) hC (fun _ _ => rfl) (fun _ => rfl) (ctX2_owed h) wvX2_owed ml_X2_126 (ci := 1) (q0 := 0) rfl rfl rfl rfl (rmok hR0 rfl) ⟨Nat.zero_le _, Nat.zero_le _⟩ rfl (Nat.le_of_ble_eq_true rfl) dX2_payDebt_2 (fun r_10 u_9 h => ?_)
  refine g_istore_n (pc := 5) (lv' := [(2, .int r_10), (0, .ref o0), (1, .int x1)]) hC dX2_payDebt_5 rfl (Nat.le_of_ble_eq_true rfl) rfl ?_
  refine g_aload_n (pc := 6) hC 1 dX2_payDebt_6 rfl rfl ?_
  refine g_aload_n (pc := 7) hC 1 dX2_payDebt_7 rfl rfl ?_
  refine getX2_14 (pc := 8) hC (F := fun Z => Z) (X := []) (fun _ => rfl) fl_X2_35 dX2_payDebt_8 ?_
  refine g_iload_n (pc := 11) hC 2 dX2_payDebt_11 rfl rfl ?_
  refine aldX2_14 (pc := 12) hC (F := fun Z => Z) (X := []) (fun _ => rfl) h.1 dX2_payDebt_12 ?_
  have h := h.2
  refine g_aload_n (pc := 13) hC 1 dX2_payDebt_13 rfl rfl ?_
  refine getX2_15 (pc := 14) hC (F := fun Z => Z) (X := []) (fun _ => rfl) fl_X2_38 dX2_payDebt_14 ?_
  refine g_iload_n (pc := 17) hC 2 dX2_payDebt_17 rfl rfl ?_
  refine aldX2_15 (pc := 18) hC (F := fun Z => Z) (X := []) (fun _ => rfl) h.1 dX2_payDebt_18 ?_
  have h := h.2
  refine g_iload_n (pc := 19) hC 0 dX2_payDebt_19 rfl rfl ?_
  refine g_callV_v (pc := 20) (wd := fun (u : St) Y => (wX2 o0 a0 (xy C) u Y)) (F := fun Z => Z) (X := []) (As := [.int (ga u_9 14 (x1).toNatClampNeg), .int (ga u_9 15 (x1).toNatClampNeg), .int r_10]) (rest := []) (u := u_9) hC (fun _ _ => rfl) (fun _ => rfl) (ctX2_handOver h) wvX2_handOver ml_X2_142 (ci := 1) (q0 := 0) rfl rfl rfl rfl (rmok hR0 rfl) ⟨Nat.zero_le _, Nat.zero_le _⟩ rfl (Nat.le_of_ble_eq_true rfl) dX2_payDebt_20 (fun u_12 h => ?_)
  refine g_aload_n (pc := 23) hC 1 dX2_payDebt_23 rfl rfl ?_
  refine g_dup (pc := 24) hC dX2_payDebt_24 rfl ?_
  refine getX2_6 (pc := 25) hC (F := fun Z => Z) (X := []) (fun _ => rfl) fl_X2_68 dX2_payDebt_25 ?_
  refine g_iconst (pc := 28) (v := 1) hC dX2_payDebt_28 (by decide) ?_
  refine g_iload_n (pc := 29) hC 2 dX2_payDebt_29 rfl rfl ?_
  refine g_ishl (pc := 30) hC dX2_payDebt_30 ?_
  refine g_ior (pc := 31) hC dX2_payDebt_31 ?_
  refine putX2_6 (pc := 32) hC (F := fun Z => Z) (X := []) (fun _ => rfl) fl_X2_68 dX2_payDebt_32 ?_
  refine g_st (w := fun z => (wX2 o0 a0 (xy C) z [])) (u := (si u_12 6 ((gi u_12 6) ||| ((1 : Int32) <<< (x1 &&& 31))))) (fun u_14 eu_14 => ?_)
  have h := h u_14 eu_14
  refine g_aload_n (pc := 35) hC 1 dX2_payDebt_35 rfl rfl ?_
  refine g_callV_v (pc := 36) (wd := fun (u : St) Y => (wX2 o0 a0 (xy C) u Y)) (F := fun Z => Z) (X := []) (As := []) (rest := []) (u := u_14) hC (fun _ _ => rfl) (fun _ => rfl) (ctX2_settle h) wvX2_settle ml_X2_119 (ci := 1) (q0 := 0) rfl rfl rfl rfl (rmok hR0 rfl) ⟨Nat.zero_le _, Nat.zero_le _⟩ rfl (Nat.le_of_ble_eq_true rfl) dX2_payDebt_36 (fun u_15 h => ?_)
  refine g_iload_n (pc := 39) hC 0 dX2_payDebt_39 rfl rfl ?_
  exact hR _ _ _ u_15 dX2_payDebt_40 h
theorem ctX2_payDebt {l : Launch} {D : va_G} {cy : Nat → ClassId} {kd : Nat → Nat} {o0 : Nat} {a0 : Nat → Nat} {x1 : Int32} {u0 : St} {post : Int32 → St → Prop} (h : qX2_payDebt x1 u0 post) : CtI l D cy kd yX2_payDebt cX2_payDebt 3 4 .int [.ref o0, .int x1] (fun u : St => (wX2 o0 a0 cy u [])) u0 (fun r u => post r u) := met_i (by decide) (Nat.le_of_ble_eq_true rfl) (fun C e1 e2 e3 e4 e5 hC hR => by subst e1 e2 e3 e4; exact kX2_payDebt hC e5 hR h)
theorem dX2_canSnip_0 : decode cX2_canSnip 0 = .ok (.aload_n 0, 1) := by decide +kernel
theorem dX2_canSnip_1 : decode cX2_canSnip 1 = .ok (.iload_n 1, 1) := by decide +kernel
theorem dX2_canSnip_2 : decode cX2_canSnip 2 = .ok (.invokevirtual 138, 3) := by decide +kernel
theorem dX2_canSnip_5 : decode cX2_canSnip 5 = .ok (.ifCond .eq 43, 3) := by decide +kernel
theorem dX2_canSnip_8 : decode cX2_canSnip 8 = .ok (.aload_n 0, 1) := by decide +kernel
theorem dX2_canSnip_9 : decode cX2_canSnip 9 = .ok (.getfield 68, 3) := by decide +kernel
theorem dX2_canSnip_12 : decode cX2_canSnip 12 = .ok (.iload_n 1, 1) := by decide +kernel
theorem dX2_canSnip_13 : decode cX2_canSnip 13 = .ok (.invokestatic 84, 3) := by decide +kernel
theorem dX2_canSnip_16 : decode cX2_canSnip 16 = .ok (.ifCond .ne 32, 3) := by decide +kernel
theorem dX2_canSnip_19 : decode cX2_canSnip 19 = .ok (.aload_n 0, 1) := by decide +kernel
theorem dX2_canSnip_20 : decode cX2_canSnip 20 = .ok (.getfield 50, 3) := by decide +kernel
theorem dX2_canSnip_23 : decode cX2_canSnip 23 = .ok (.iload_n 1, 1) := by decide +kernel
theorem dX2_canSnip_24 : decode cX2_canSnip 24 = .ok (.iaload, 1) := by decide +kernel
theorem dX2_canSnip_25 : decode cX2_canSnip 25 = .ok (.iload_n 2, 1) := by decide +kernel
theorem dX2_canSnip_26 : decode cX2_canSnip 26 = .ok (.if_icmp .lt 22, 3) := by decide +kernel
theorem dX2_canSnip_29 : decode cX2_canSnip 29 = .ok (.aload_n 0, 1) := by decide +kernel
theorem dX2_canSnip_30 : decode cX2_canSnip 30 = .ok (.getfield 28, 3) := by decide +kernel
theorem dX2_canSnip_33 : decode cX2_canSnip 33 = .ok (.aload_n 0, 1) := by decide +kernel
theorem dX2_canSnip_34 : decode cX2_canSnip 34 = .ok (.getfield 35, 3) := by decide +kernel
theorem dX2_canSnip_37 : decode cX2_canSnip 37 = .ok (.iload_n 1, 1) := by decide +kernel
theorem dX2_canSnip_38 : decode cX2_canSnip 38 = .ok (.iaload, 1) := by decide +kernel
theorem dX2_canSnip_39 : decode cX2_canSnip 39 = .ok (.iaload, 1) := by decide +kernel
theorem dX2_canSnip_40 : decode cX2_canSnip 40 = .ok (.iload_n 2, 1) := by decide +kernel
theorem dX2_canSnip_41 : decode cX2_canSnip 41 = .ok (.if_icmp .lt 7, 3) := by decide +kernel
theorem dX2_canSnip_44 : decode cX2_canSnip 44 = .ok (.iconst 1, 1) := by decide +kernel
theorem dX2_canSnip_45 : decode cX2_canSnip 45 = .ok (.goto 4, 3) := by decide +kernel
theorem dX2_canSnip_48 : decode cX2_canSnip 48 = .ok (.iconst 0, 1) := by decide +kernel
theorem dX2_canSnip_49 : decode cX2_canSnip 49 = .ok (.ireturn, 1) := by decide +kernel
def qX2_canSnip_b49  (post : Int32 → St → Prop)  (s0 : Int32) (u0 : St) : Prop := (bz s0 ∧ post s0 u0)
set_option maxRecDepth 100000 in
set_option maxHeartbeats 4000000 in
theorem kX2_canSnip_b49 {C : Cx} {o0 : Nat} {a0 : Nat → Nat} (hC : Fx C cX2_canSnip 3 RX2) (hR0 : xR C = rm 3) {post : Int32 → St → Prop} (hR : RZ C cX2_canSnip 3 (fun u : St => (wX2 o0 a0 (xy C) u [])) (fun r u => post r u))  {s0 : Int32} {u0 : St} (h : qX2_canSnip_b49 post s0 u0) : G C 0 0 3 (wX2 o0 a0 (xy C) u0 []) 49 [] [.int s0] := by
  exact hR _ _ _ u0 dX2_canSnip_49 h.1 h.2
def qX2_canSnip_b48  (post : Int32 → St → Prop)  (u0 : St) : Prop := qX2_canSnip_b49 post (0 : Int32) u0
set_option maxRecDepth 100000 in
set_option maxHeartbeats 4000000 in
theorem kX2_canSnip_b48 {C : Cx} {o0 : Nat} {a0 : Nat → Nat} (hC : Fx C cX2_canSnip 3 RX2) (hR0 : xR C = rm 3) {post : Int32 → St → Prop} (hR : RZ C cX2_canSnip 3 (fun u : St => (wX2 o0 a0 (xy C) u [])) (fun r u => post r u))  {u0 : St} (h : qX2_canSnip_b48 post u0) : G C 0 0 3 (wX2 o0 a0 (xy C) u0 []) 48 [] [] := by
  refine g_iconst (pc := 48) (v := 0) hC dX2_canSnip_48 (by decide) ?_
  exact kX2_canSnip_b49 hC hR0 hR  h
def qX2_canSnip (x1 : Int32) (x2 : Int32) (u0 : St) (post : Int32 → St → Prop) : Prop := qX2_isDebt x1 u0 (fun r_7 u_6 => ((r_7 = 0 → qX2_canSnip_b48 post u_6) ∧ (¬ r_7 = 0 → qX11_has (gi u_6 6) x1 (fun r_10 => ((¬ r_10 = 0 → qX2_canSnip_b48 post u_6) ∧ (r_10 = 0 → (vp_in x1 7 ∧ (((ga u_6 19 (x1).toNatClampNeg) < x2 → qX2_canSnip_b48 post u_6) ∧ (¬ (ga u_6 19 (x1).toNatClampNeg) < x2 → (vp_in x1 7 ∧ (vp_in (ga u_6 14 (x1).toNatClampNeg) 5 ∧ (((ga u_6 12 ((ga u_6 14 (x1).toNatClampNeg)).toNatClampNeg) < x2 → qX2_canSnip_b48 post u_6) ∧ (¬ (ga u_6 12 ((ga u_6 14 (x1).toNatClampNeg)).toNatClampNeg) < x2 → qX2_canSnip_b49 post (1 : Int32) u_6)))))))))))))
set_option maxRecDepth 100000 in
set_option maxHeartbeats 4000000 in
theorem kX2_canSnip {C : Cx} {o0 : Nat} {a0 : Nat → Nat} (hC : Fx C cX2_canSnip 3 RX2) (hR0 : xR C = rm 3) {post : Int32 → St → Prop} (hR : RZ C cX2_canSnip 3 (fun u : St => (wX2 o0 a0 (xy C) u [])) (fun r u => post r u)) {x1 : Int32} {x2 : Int32} {u0 : St} (h : qX2_canSnip x1 x2 u0 post) : G C 0 0 3 (wX2 o0 a0 (xy C) u0 []) 0 [(0, .ref o0), (1, .int x1), (2, .int x2)] [] := by
  refine g_aload_n (pc := 0) hC 0 dX2_canSnip_0 rfl rfl ?_
  refine g_iload_n (pc := 1) hC 1 dX2_canSnip_1 rfl rfl ?_
  refine g_callV_i (pc := 2) (wd := fun (u : St) Y => (wX2 o0 a0 (xy C) u Y)) (F := fun Z => Z) (X := []) (As := [.int x1]) (rest := []) (u := u0) hC (fun _ _ => rfl) (fun _ => rfl) (ctX2_isDebt h) wvX2_isDebt ml_X2_138 (ci := 1) (q0 := 0) rfl rfl rfl rfl (rmok hR0 rfl) ⟨Nat.zero_le _, Nat.zero_le _⟩ rfl (Nat.le_of_ble_eq_true rfl) dX2_canSnip_2 (fun r_7 u_6 h => ?_)
  refine g_if_eq (pc := 5) (tgt := 48) hC dX2_canSnip_5 (by decide) (fun c_9 => ?_) (fun c_9 => ?_)
  · have h := h.1 c_9
    refine g_sub (lv' := []) [] rfl ?_
    exact kX2_canSnip_b48 hC hR0 hR  h
  · have h := h.2 c_9
    refine g_aload_n (pc := 8) hC 0 dX2_canSnip_8 rfl rfl ?_
    refine getX2_6 (pc := 9) hC (F := fun Z => Z) (X := []) (fun _ => rfl) fl_X2_68 dX2_canSnip_9 ?_
    refine g_iload_n (pc := 12) hC 1 dX2_canSnip_12 rfl rfl ?_
    refine g_callSN_i (pc := 13) (wd := fun (_ : Unit) Y => Y) (F := fun Z => Z) (X := []) (As := [.int (gi u_6 6), .int x1]) (rest := []) (u := ()) hC (fun _ _ => rfl) (fun _ => rfl) (ctX11_has h) wvX11_has nl_X2_84 rfl (rmok hR0 rfl) ⟨Nat.zero_le _, Nat.zero_le _⟩ rfl (Nat.le_of_ble_eq_true rfl) dX2_canSnip_13 (fun r_10 u_11 h => ?_)
    refine g_if_ne (pc := 16) (tgt := 48) hC dX2_canSnip_16 (by decide) (fun c_12 => ?_) (fun c_12 => ?_)
    · have h := h.1 c_12
      refine g_sub (lv' := []) [] rfl ?_
      exact kX2_canSnip_b48 hC hR0 hR  h
    · have h := h.2 c_12
      refine g_aload_n (pc := 19) hC 0 dX2_canSnip_19 rfl rfl ?_
      refine getX2_19 (pc := 20) hC (F := fun Z => Z) (X := []) (fun _ => rfl) fl_X2_50 dX2_canSnip_20 ?_
      refine g_iload_n (pc := 23) hC 1 dX2_canSnip_23 rfl rfl ?_
      refine aldX2_19 (pc := 24) hC (F := fun Z => Z) (X := []) (fun _ => rfl) h.1 dX2_canSnip_24 ?_
      have h := h.2
      refine g_iload_n (pc := 25) hC 2 dX2_canSnip_25 rfl rfl ?_
      refine g_icmp_lt (pc := 26) (tgt := 48) hC dX2_canSnip_26 (by decide) (fun c_13 => ?_) (fun c_13 => ?_)
      · have h := h.1 c_13
        refine g_sub (lv' := []) [] rfl ?_
        exact kX2_canSnip_b48 hC hR0 hR  h
      · have h := h.2 c_13
        refine g_aload_n (pc := 29) hC 0 dX2_canSnip_29 rfl rfl ?_
        refine getX2_12 (pc := 30) hC (F := fun Z => Z) (X := []) (fun _ => rfl) fl_X2_28 dX2_canSnip_30 ?_
        refine g_aload_n (pc := 33) hC 0 dX2_canSnip_33 rfl rfl ?_
        refine getX2_14 (pc := 34) hC (F := fun Z => Z) (X := []) (fun _ => rfl) fl_X2_35 dX2_canSnip_34 ?_
        refine g_iload_n (pc := 37) hC 1 dX2_canSnip_37 rfl rfl ?_
        refine aldX2_14 (pc := 38) hC (F := fun Z => Z) (X := []) (fun _ => rfl) h.1 dX2_canSnip_38 ?_
        have h := h.2
        refine aldX2_12 (pc := 39) hC (F := fun Z => Z) (X := []) (fun _ => rfl) h.1 dX2_canSnip_39 ?_
        have h := h.2
        refine g_iload_n (pc := 40) hC 2 dX2_canSnip_40 rfl rfl ?_
        refine g_icmp_lt (pc := 41) (tgt := 48) hC dX2_canSnip_41 (by decide) (fun c_14 => ?_) (fun c_14 => ?_)
        · have h := h.1 c_14
          refine g_sub (lv' := []) [] rfl ?_
          exact kX2_canSnip_b48 hC hR0 hR  h
        · have h := h.2 c_14
          refine g_iconst (pc := 44) (v := 1) hC dX2_canSnip_44 (by decide) ?_
          refine g_goto (pc := 45) (tgt := 49) hC dX2_canSnip_45 (by decide) ?_
          refine g_sub (lv' := []) [] rfl ?_
          exact kX2_canSnip_b49 hC hR0 hR  h
theorem ctX2_canSnip {l : Launch} {D : va_G} {cy : Nat → ClassId} {kd : Nat → Nat} {o0 : Nat} {a0 : Nat → Nat} {x1 : Int32} {x2 : Int32} {u0 : St} {post : Int32 → St → Prop} (h : qX2_canSnip x1 x2 u0 post) : CtI l D cy kd yX2_canSnip cX2_canSnip 3 3 .boolean [.ref o0, .int x1, .int x2] (fun u : St => (wX2 o0 a0 cy u [])) u0 (fun r u => post r u) := met_z (by decide) (Nat.le_of_ble_eq_true rfl) (fun C e1 e2 e3 e4 e5 hC hR => by subst e1 e2 e3 e4; exact kX2_canSnip hC e5 hR h)
theorem dX2_snipDebt_0 : decode cX2_snipDebt 0 = .ok (.aload_n 0, 1) := by decide +kernel
theorem dX2_snipDebt_1 : decode cX2_snipDebt 1 = .ok (.aload_n 0, 1) := by decide +kernel
theorem dX2_snipDebt_2 : decode cX2_snipDebt 2 = .ok (.getfield 35, 3) := by decide +kernel
theorem dX2_snipDebt_5 : decode cX2_snipDebt 5 = .ok (.iload_n 1, 1) := by decide +kernel
theorem dX2_snipDebt_6 : decode cX2_snipDebt 6 = .ok (.iaload, 1) := by decide +kernel
theorem dX2_snipDebt_7 : decode cX2_snipDebt 7 = .ok (.aload_n 0, 1) := by decide +kernel
theorem dX2_snipDebt_8 : decode cX2_snipDebt 8 = .ok (.getfield 38, 3) := by decide +kernel
theorem dX2_snipDebt_11 : decode cX2_snipDebt 11 = .ok (.iload_n 1, 1) := by decide +kernel
theorem dX2_snipDebt_12 : decode cX2_snipDebt 12 = .ok (.iaload, 1) := by decide +kernel
theorem dX2_snipDebt_13 : decode cX2_snipDebt 13 = .ok (.iload_n 2, 1) := by decide +kernel
theorem dX2_snipDebt_14 : decode cX2_snipDebt 14 = .ok (.invokevirtual 142, 3) := by decide +kernel
theorem dX2_snipDebt_17 : decode cX2_snipDebt 17 = .ok (.aload_n 0, 1) := by decide +kernel
theorem dX2_snipDebt_18 : decode cX2_snipDebt 18 = .ok (.getfield 50, 3) := by decide +kernel
theorem dX2_snipDebt_21 : decode cX2_snipDebt 21 = .ok (.iload_n 1, 1) := by decide +kernel
theorem dX2_snipDebt_22 : decode cX2_snipDebt 22 = .ok (.dup2, 1) := by decide +kernel
theorem dX2_snipDebt_23 : decode cX2_snipDebt 23 = .ok (.iaload, 1) := by decide +kernel
theorem dX2_snipDebt_24 : decode cX2_snipDebt 24 = .ok (.iload_n 2, 1) := by decide +kernel
theorem dX2_snipDebt_25 : decode cX2_snipDebt 25 = .ok (.isub, 1) := by decide +kernel
theorem dX2_snipDebt_26 : decode cX2_snipDebt 26 = .ok (.iastore, 1) := by decide +kernel
theorem dX2_snipDebt_27 : decode cX2_snipDebt 27 = .ok (.aload_n 0, 1) := by decide +kernel
theorem dX2_snipDebt_28 : decode cX2_snipDebt 28 = .ok (.invokevirtual 119, 3) := by decide +kernel
theorem dX2_snipDebt_31 : decode cX2_snipDebt 31 = .ok (.return_, 1) := by decide +kernel
def qX2_snipDebt (x1 : Int32) (x2 : Int32) (u0 : St) (post : St → Prop) : Prop := (vp_in x1 7 ∧ (vp_in x1 7 ∧ qX2_handOver (ga u0 14 (x1).toNatClampNeg) (ga u0 15 (x1).toNatClampNeg) x2 u0 (fun u_6 => (vp_in x1 7 ∧ (vp_in x1 7 ∧ ∀ u_8 : St, u_8 = (sw u_6 19 (upd (ga u_6 19) (x1).toNatClampNeg ((ga u_6 19 (x1).toNatClampNeg) - x2))) → qX2_settle u_8 (fun u_9 => post u_9))))))
set_option maxRecDepth 100000 in
set_option maxHeartbeats 4000000 in
theorem kX2_snipDebt {C : Cx} {o0 : Nat} {a0 : Nat → Nat} (hC : Fx C cX2_snipDebt 3 RX2) (hR0 : xR C = rm 4) {post : St → Prop} (hR : RV C cX2_snipDebt 3 (fun u : St => (wX2 o0 a0 (xy C) u [])) (fun u => post u)) {x1 : Int32} {x2 : Int32} {u0 : St} (h : qX2_snipDebt x1 x2 u0 post) : G C 0 0 3 (wX2 o0 a0 (xy C) u0 []) 0 [(0, .ref o0), (1, .int x1), (2, .int x2)] [] := by
  refine g_aload_n (pc := 0) hC 0 dX2_snipDebt_0 rfl rfl ?_
  refine g_aload_n (pc := 1) hC 0 dX2_snipDebt_1 rfl rfl ?_
  refine getX2_14 (pc := 2) hC (F := fun Z => Z) (X := []) (fun _ => rfl) fl_X2_35 dX2_snipDebt_2 ?_
  refine g_iload_n (pc := 5) hC 1 dX2_snipDebt_5 rfl rfl ?_
  refine aldX2_14 (pc := 6) hC (F := fun Z => Z) (X := []) (fun _ => rfl) h.1 dX2_snipDebt_6 ?_
  have h := h.2
  refine g_aload_n (pc := 7) hC 0 dX2_snipDebt_7 rfl rfl ?_
  refine getX2_15 (pc := 8) hC (F := fun Z => Z) (X := []) (fun _ => rfl) fl_X2_38 dX2_snipDebt_8 ?_
  refine g_iload_n (pc := 11) hC 1 dX2_snipDebt_11 rfl rfl ?_
  refine aldX2_15 (pc := 12) hC (F := fun Z => Z) (X := []) (fun _ => rfl) h.1 dX2_snipDebt_12 ?_
  have h := h.2
  refine g_iload_n (pc := 13) hC 2 dX2_snipDebt_13 rfl rfl ?_
  refine g_callV_v (pc := 14) (wd := fun (u : St) Y => (wX2 o0 a0 (xy C) u Y)) (F := fun Z => Z) (X := []) (As := [.int (ga u0 14 (x1).toNatClampNeg), .int (ga u0 15 (x1).toNatClampNeg), .int x2]) (rest := []) (u := u0) hC (fun _ _ => rfl) (fun _ => rfl) (ctX2_handOver h) wvX2_handOver ml_X2_142 (ci := 1) (q0 := 0) rfl rfl rfl rfl (rmok hR0 rfl) ⟨Nat.zero_le _, Nat.zero_le _⟩ rfl (Nat.le_of_ble_eq_true rfl) dX2_snipDebt_14 (fun u_6 h => ?_)
  refine g_aload_n (pc := 17) hC 0 dX2_snipDebt_17 rfl rfl ?_
  refine getX2_19 (pc := 18) hC (F := fun Z => Z) (X := []) (fun _ => rfl) fl_X2_50 dX2_snipDebt_18 ?_
  refine g_iload_n (pc := 21) hC 1 dX2_snipDebt_21 rfl rfl ?_
  refine g_dup2 (pc := 22) hC dX2_snipDebt_22 rfl rfl ?_
  refine aldX2_19 (pc := 23) hC (F := fun Z => Z) (X := []) (fun _ => rfl) h.1 dX2_snipDebt_23 ?_
  have h := h.2
  refine g_iload_n (pc := 24) hC 2 dX2_snipDebt_24 rfl rfl ?_
  refine g_isub (pc := 25) hC dX2_snipDebt_25 ?_
  refine astX2_19 (pc := 26) hC (F := fun Z => Z) (X := []) (fun _ => rfl) h.1 dX2_snipDebt_26 ?_
  have h := h.2
  refine g_st (w := fun z => (wX2 o0 a0 (xy C) z [])) (u := (sw u_6 19 (upd (ga u_6 19) (x1).toNatClampNeg ((ga u_6 19 (x1).toNatClampNeg) - x2)))) (fun u_8 eu_8 => ?_)
  have h := h u_8 eu_8
  refine g_aload_n (pc := 27) hC 0 dX2_snipDebt_27 rfl rfl ?_
  refine g_callV_v (pc := 28) (wd := fun (u : St) Y => (wX2 o0 a0 (xy C) u Y)) (F := fun Z => Z) (X := []) (As := []) (rest := []) (u := u_8) hC (fun _ _ => rfl) (fun _ => rfl) (ctX2_settle h) wvX2_settle ml_X2_119 (ci := 1) (q0 := 0) rfl rfl rfl rfl (rmok hR0 rfl) ⟨Nat.zero_le _, Nat.zero_le _⟩ rfl (Nat.le_of_ble_eq_true rfl) dX2_snipDebt_28 (fun u_9 h => ?_)
  exact hR _ _ u_9 dX2_snipDebt_31 h
theorem ctX2_snipDebt {l : Launch} {D : va_G} {cy : Nat → ClassId} {kd : Nat → Nat} {o0 : Nat} {a0 : Nat → Nat} {x1 : Int32} {x2 : Int32} {u0 : St} {post : St → Prop} (h : qX2_snipDebt x1 x2 u0 post) : CtV l D cy kd yX2_snipDebt cX2_snipDebt 3 4  [.ref o0, .int x1, .int x2] (fun u : St => (wX2 o0 a0 cy u [])) u0 (fun u => post u) := met_v (by decide) (Nat.le_of_ble_eq_true rfl) (fun C e1 e2 e3 e4 e5 hC hR => by subst e1 e2 e3 e4; exact kX2_snipDebt hC e5 hR h)
theorem dX2_canMend_0 : decode cX2_canMend 0 = .ok (.aload_n 0, 1) := by decide +kernel
theorem dX2_canMend_1 : decode cX2_canMend 1 = .ok (.iload_n 1, 1) := by decide +kernel
theorem dX2_canMend_2 : decode cX2_canMend 2 = .ok (.invokevirtual 146, 3) := by decide +kernel
theorem dX2_canMend_5 : decode cX2_canMend 5 = .ok (.ifCond .ne 18, 3) := by decide +kernel
theorem dX2_canMend_8 : decode cX2_canMend 8 = .ok (.aload_n 0, 1) := by decide +kernel
theorem dX2_canMend_9 : decode cX2_canMend 9 = .ok (.getfield 15, 3) := by decide +kernel
theorem dX2_canMend_12 : decode cX2_canMend 12 = .ok (.iload_n 1, 1) := by decide +kernel
theorem dX2_canMend_13 : decode cX2_canMend 13 = .ok (.iaload, 1) := by decide +kernel
theorem dX2_canMend_14 : decode cX2_canMend 14 = .ok (.bipush 9, 2) := by decide +kernel
theorem dX2_canMend_16 : decode cX2_canMend 16 = .ok (.if_icmp .ge 7, 3) := by decide +kernel
theorem dX2_canMend_19 : decode cX2_canMend 19 = .ok (.iconst 1, 1) := by decide +kernel
theorem dX2_canMend_20 : decode cX2_canMend 20 = .ok (.goto 4, 3) := by decide +kernel
theorem dX2_canMend_23 : decode cX2_canMend 23 = .ok (.iconst 0, 1) := by decide +kernel
theorem dX2_canMend_24 : decode cX2_canMend 24 = .ok (.ireturn, 1) := by decide +kernel
def qX2_canMend_b24  (post : Int32 → St → Prop)  (s0 : Int32) (u0 : St) : Prop := (bz s0 ∧ post s0 u0)
set_option maxRecDepth 100000 in
set_option maxHeartbeats 4000000 in
theorem kX2_canMend_b24 {C : Cx} {o0 : Nat} {a0 : Nat → Nat} (hC : Fx C cX2_canMend 2 RX2) (hR0 : xR C = rm 3) {post : Int32 → St → Prop} (hR : RZ C cX2_canMend 2 (fun u : St => (wX2 o0 a0 (xy C) u [])) (fun r u => post r u))  {s0 : Int32} {u0 : St} (h : qX2_canMend_b24 post s0 u0) : G C 0 0 2 (wX2 o0 a0 (xy C) u0 []) 24 [] [.int s0] := by
  exact hR _ _ _ u0 dX2_canMend_24 h.1 h.2
def qX2_canMend_b23  (post : Int32 → St → Prop)  (u0 : St) : Prop := qX2_canMend_b24 post (0 : Int32) u0
set_option maxRecDepth 100000 in
set_option maxHeartbeats 4000000 in
theorem kX2_canMend_b23 {C : Cx} {o0 : Nat} {a0 : Nat → Nat} (hC : Fx C cX2_canMend 2 RX2) (hR0 : xR C = rm 3) {post : Int32 → St → Prop} (hR : RZ C cX2_canMend 2 (fun u : St => (wX2 o0 a0 (xy C) u [])) (fun r u => post r u))  {u0 : St} (h : qX2_canMend_b23 post u0) : G C 0 0 2 (wX2 o0 a0 (xy C) u0 []) 23 [] [] := by
  refine g_iconst (pc := 23) (v := 0) hC dX2_canMend_23 (by decide) ?_
  exact kX2_canMend_b24 hC hR0 hR  h
def qX2_canMend (x1 : Int32) (u0 : St) (post : Int32 → St → Prop) : Prop := qX2_hasFallen x1 u0 (fun r_5 u_4 => ((¬ r_5 = 0 → qX2_canMend_b23 post u_4) ∧ (r_5 = 0 → (vp_in x1 8 ∧ (((9 : Int32) ≤ (ga u_4 8 (x1).toNatClampNeg) → qX2_canMend_b23 post u_4) ∧ (¬ (9 : Int32) ≤ (ga u_4 8 (x1).toNatClampNeg) → qX2_canMend_b24 post (1 : Int32) u_4))))))
set_option maxRecDepth 100000 in
set_option maxHeartbeats 4000000 in
theorem kX2_canMend {C : Cx} {o0 : Nat} {a0 : Nat → Nat} (hC : Fx C cX2_canMend 2 RX2) (hR0 : xR C = rm 3) {post : Int32 → St → Prop} (hR : RZ C cX2_canMend 2 (fun u : St => (wX2 o0 a0 (xy C) u [])) (fun r u => post r u)) {x1 : Int32} {u0 : St} (h : qX2_canMend x1 u0 post) : G C 0 0 2 (wX2 o0 a0 (xy C) u0 []) 0 [(0, .ref o0), (1, .int x1)] [] := by
  refine g_aload_n (pc := 0) hC 0 dX2_canMend_0 rfl rfl ?_
  refine g_iload_n (pc := 1) hC 1 dX2_canMend_1 rfl rfl ?_
  refine g_callV_i (pc := 2) (wd := fun (u : St) Y => (wX2 o0 a0 (xy C) u Y)) (F := fun Z => Z) (X := []) (As := [.int x1]) (rest := []) (u := u0) hC (fun _ _ => rfl) (fun _ => rfl) (ctX2_hasFallen h) wvX2_hasFallen ml_X2_146 (ci := 1) (q0 := 0) rfl rfl rfl rfl (rmok hR0 rfl) ⟨Nat.zero_le _, Nat.zero_le _⟩ rfl (Nat.le_of_ble_eq_true rfl) dX2_canMend_2 (fun r_5 u_4 h => ?_)
  refine g_if_ne (pc := 5) (tgt := 23) hC dX2_canMend_5 (by decide) (fun c_7 => ?_) (fun c_7 => ?_)
  · have h := h.1 c_7
    refine g_sub (lv' := []) [] rfl ?_
    exact kX2_canMend_b23 hC hR0 hR  h
  · have h := h.2 c_7
    refine g_aload_n (pc := 8) hC 0 dX2_canMend_8 rfl rfl ?_
    refine getX2_8 (pc := 9) hC (F := fun Z => Z) (X := []) (fun _ => rfl) fl_X2_15 dX2_canMend_9 ?_
    refine g_iload_n (pc := 12) hC 1 dX2_canMend_12 rfl rfl ?_
    refine aldX2_8 (pc := 13) hC (F := fun Z => Z) (X := []) (fun _ => rfl) h.1 dX2_canMend_13 ?_
    have h := h.2
    refine g_bipush (pc := 14) (v := 9) hC dX2_canMend_14 (by decide) ?_
    refine g_icmp_ge (pc := 16) (tgt := 23) hC dX2_canMend_16 (by decide) (fun c_8 => ?_) (fun c_8 => ?_)
    · have h := h.1 c_8
      refine g_sub (lv' := []) [] rfl ?_
      exact kX2_canMend_b23 hC hR0 hR  h
    · have h := h.2 c_8
      refine g_iconst (pc := 19) (v := 1) hC dX2_canMend_19 (by decide) ?_
      refine g_goto (pc := 20) (tgt := 24) hC dX2_canMend_20 (by decide) ?_
      refine g_sub (lv' := []) [] rfl ?_
      exact kX2_canMend_b24 hC hR0 hR  h
theorem ctX2_canMend {l : Launch} {D : va_G} {cy : Nat → ClassId} {kd : Nat → Nat} {o0 : Nat} {a0 : Nat → Nat} {x1 : Int32} {u0 : St} {post : Int32 → St → Prop} (h : qX2_canMend x1 u0 post) : CtI l D cy kd yX2_canMend cX2_canMend 2 3 .boolean [.ref o0, .int x1] (fun u : St => (wX2 o0 a0 cy u [])) u0 (fun r u => post r u) := met_z (by decide) (Nat.le_of_ble_eq_true rfl) (fun C e1 e2 e3 e4 e5 hC hR => by subst e1 e2 e3 e4; exact kX2_canMend hC e5 hR h)
theorem dX2_makesSum_0 : decode cX2_makesSum 0 = .ok (.iload_n 1, 1) := by decide +kernel
theorem dX2_makesSum_1 : decode cX2_makesSum 1 = .ok (.aload_n 0, 1) := by decide +kernel
theorem dX2_makesSum_2 : decode cX2_makesSum 2 = .ok (.getfield 68, 3) := by decide +kernel
theorem dX2_makesSum_5 : decode cX2_makesSum 5 = .ok (.iand, 1) := by decide +kernel
theorem dX2_makesSum_6 : decode cX2_makesSum 6 = .ok (.ifCond .eq 5, 3) := by decide +kernel
theorem dX2_makesSum_9 : decode cX2_makesSum 9 = .ok (.iconst 0, 1) := by decide +kernel
theorem dX2_makesSum_10 : decode cX2_makesSum 10 = .ok (.ireturn, 1) := by decide +kernel
theorem dX2_makesSum_11 : decode cX2_makesSum 11 = .ok (.iconst 0, 1) := by decide +kernel
theorem dX2_makesSum_12 : decode cX2_makesSum 12 = .ok (.istore_n 3, 1) := by decide +kernel
theorem dX2_makesSum_13 : decode cX2_makesSum 13 = .ok (.iconst 0, 1) := by decide +kernel
theorem dX2_makesSum_14 : decode cX2_makesSum 14 = .ok (.istore 4, 2) := by decide +kernel
theorem dX2_makesSum_16 : decode cX2_makesSum 16 = .ok (.iload 4, 2) := by decide +kernel
theorem dX2_makesSum_18 : decode cX2_makesSum 18 = .ok (.aload_n 0, 1) := by decide +kernel
theorem dX2_makesSum_19 : decode cX2_makesSum 19 = .ok (.getfield 59, 3) := by decide +kernel
theorem dX2_makesSum_22 : decode cX2_makesSum 22 = .ok (.if_icmp .ge 31, 3) := by decide +kernel
theorem dX2_makesSum_25 : decode cX2_makesSum 25 = .ok (.iload_n 3, 1) := by decide +kernel
theorem dX2_makesSum_26 : decode cX2_makesSum 26 = .ok (.iload_n 1, 1) := by decide +kernel
theorem dX2_makesSum_27 : decode cX2_makesSum 27 = .ok (.iload 4, 2) := by decide +kernel
theorem dX2_makesSum_29 : decode cX2_makesSum 29 = .ok (.invokestatic 84, 3) := by decide +kernel
theorem dX2_makesSum_32 : decode cX2_makesSum 32 = .ok (.ifCond .eq 12, 3) := by decide +kernel
theorem dX2_makesSum_35 : decode cX2_makesSum 35 = .ok (.aload_n 0, 1) := by decide +kernel
theorem dX2_makesSum_36 : decode cX2_makesSum 36 = .ok (.iload 4, 2) := by decide +kernel
theorem dX2_makesSum_38 : decode cX2_makesSum 38 = .ok (.invokevirtual 126, 3) := by decide +kernel
theorem dX2_makesSum_41 : decode cX2_makesSum 41 = .ok (.goto 4, 3) := by decide +kernel
theorem dX2_makesSum_44 : decode cX2_makesSum 44 = .ok (.iconst 0, 1) := by decide +kernel
theorem dX2_makesSum_45 : decode cX2_makesSum 45 = .ok (.iadd, 1) := by decide +kernel
theorem dX2_makesSum_46 : decode cX2_makesSum 46 = .ok (.istore_n 3, 1) := by decide +kernel
theorem dX2_makesSum_47 : decode cX2_makesSum 47 = .ok (.iinc 4 1, 3) := by decide +kernel
theorem dX2_makesSum_50 : decode cX2_makesSum 50 = .ok (.goto (-34), 3) := by decide +kernel
theorem dX2_makesSum_53 : decode cX2_makesSum 53 = .ok (.iload_n 3, 1) := by decide +kernel
theorem dX2_makesSum_54 : decode cX2_makesSum 54 = .ok (.iload_n 2, 1) := by decide +kernel
theorem dX2_makesSum_55 : decode cX2_makesSum 55 = .ok (.if_icmp .ne 7, 3) := by decide +kernel
theorem dX2_makesSum_58 : decode cX2_makesSum 58 = .ok (.iconst 1, 1) := by decide +kernel
theorem dX2_makesSum_59 : decode cX2_makesSum 59 = .ok (.goto 4, 3) := by decide +kernel
theorem dX2_makesSum_62 : decode cX2_makesSum 62 = .ok (.iconst 0, 1) := by decide +kernel
theorem dX2_makesSum_63 : decode cX2_makesSum 63 = .ok (.ireturn, 1) := by decide +kernel
def qX2_makesSum_b45  (post : Int32 → St → Prop) (K16 : Int32 → Int32 → Int32 → Int32 → St → Prop) (x1 : Int32) (x2 : Int32) (x4 : Int32) (s0 : Int32) (s1 : Int32) (u0 : St) : Prop := ∀ x3_7 : Int32, x3_7 = (s1 + s0) → ∀ x4_8 : Int32, x4_8 = x4 + (1 : Int32) → K16 x1 x2 x3_7 x4_8 u0
set_option maxRecDepth 100000 in
set_option maxHeartbeats 4000000 in
theorem kX2_makesSum_b45 {C : Cx} {o0 : Nat} {a0 : Nat → Nat} (hC : Fx C cX2_makesSum 5 RX2) (hR0 : xR C = rm 3) {post : Int32 → St → Prop} (hR : RZ C cX2_makesSum 5 (fun u : St => (wX2 o0 a0 (xy C) u [])) (fun r u => post r u)) {K16 : Int32 → Int32 → Int32 → Int32 → St → Prop} (hK16 : ∀ (x1 : Int32) (x2 : Int32) (x3 : Int32) (x4 : Int32) (u0 : St), K16 x1 x2 x3 x4 u0 → G C 0 0 5 (wX2 o0 a0 (xy C) u0 []) 16 [(0, .ref o0), (1, .int x1), (2, .int x2), (3, .int x3), (4, .int x4)] []) {x1 : Int32} {x2 : Int32} {x4 : Int32} {s0 : Int32} {s1 : Int32} {u0 : St} (h : qX2_makesSum_b45 post K16 x1 x2 x4 s0 s1 u0) : G C 0 0 5 (wX2 o0 a0 (xy C) u0 []) 45 [(0, .ref o0), (1, .int x1), (2, .int x2), (4, .int x4)] [.int s0, .int s1] := by
  refine g_iadd (pc := 45) hC dX2_makesSum_45 ?_
  refine g_topi (fun x3_7 ex3_7 => ?_)
  have h := h x3_7 ex3_7
  refine g_istore_n (pc := 46) (lv' := [(3, .int x3_7), (0, .ref o0), (1, .int x1), (2, .int x2), (4, .int x4)]) hC dX2_makesSum_46 rfl (Nat.le_of_ble_eq_true rfl) rfl ?_
  obtain ⟨x4_8, ex4_8⟩ : ∃ z : Int32, z = x4 + (1 : Int32) := ⟨_, rfl⟩
  have h := h x4_8 ex4_8
  refine g_iinc (pc := 47) (v := x4_8) (lv' := [(4, .int x4_8), (3, .int x3_7), (0, .ref o0), (1, .int x1), (2, .int x2)]) hC 4 dX2_makesSum_47 rfl (by rw [ex4_8]; rfl) (Nat.le_of_ble_eq_true rfl) rfl ?_
  refine g_goto (pc := 50) (tgt := 16) hC dX2_makesSum_50 (by decide) ?_
  refine g_sub (lv' := [(0, .ref o0), (1, .int x1), (2, .int x2), (3, .int x3_7), (4, .int x4_8)]) [2, 3, 4, 1, 0] rfl ?_
  exact hK16 _ _ _ _ _ h
def qX2_makesSum_b63  (post : Int32 → St → Prop)  (s0 : Int32) (u0 : St) : Prop := (bz s0 ∧ post s0 u0)
set_option maxRecDepth 100000 in
set_option maxHeartbeats 4000000 in
theorem kX2_makesSum_b63 {C : Cx} {o0 : Nat} {a0 : Nat → Nat} (hC : Fx C cX2_makesSum 5 RX2) (hR0 : xR C = rm 3) {post : Int32 → St → Prop} (hR : RZ C cX2_makesSum 5 (fun u : St => (wX2 o0 a0 (xy C) u [])) (fun r u => post r u))  {s0 : Int32} {u0 : St} (h : qX2_makesSum_b63 post s0 u0) : G C 0 0 5 (wX2 o0 a0 (xy C) u0 []) 63 [] [.int s0] := by
  exact hR _ _ _ u0 dX2_makesSum_63 h.1 h.2
def qX2_makesSum_b53  (post : Int32 → St → Prop)  (x2 : Int32) (x3 : Int32) (u0 : St) : Prop := ((¬ x3 = x2 → qX2_makesSum_b63 post (0 : Int32) u0) ∧ (x3 = x2 → qX2_makesSum_b63 post (1 : Int32) u0))
set_option maxRecDepth 100000 in
set_option maxHeartbeats 4000000 in
theorem kX2_makesSum_b53 {C : Cx} {o0 : Nat} {a0 : Nat → Nat} (hC : Fx C cX2_makesSum 5 RX2) (hR0 : xR C = rm 3) {post : Int32 → St → Prop} (hR : RZ C cX2_makesSum 5 (fun u : St => (wX2 o0 a0 (xy C) u [])) (fun r u => post r u))  {x2 : Int32} {x3 : Int32} {u0 : St} (h : qX2_makesSum_b53 post x2 x3 u0) : G C 0 0 5 (wX2 o0 a0 (xy C) u0 []) 53 [(2, .int x2), (3, .int x3)] [] := by
  refine g_iload_n (pc := 53) hC 1 dX2_makesSum_53 rfl rfl ?_
  refine g_iload_n (pc := 54) hC 0 dX2_makesSum_54 rfl rfl ?_
  refine g_icmp_ne (pc := 55) (tgt := 62) hC dX2_makesSum_55 (by decide) (fun c_9 => ?_) (fun c_9 => ?_)
  · have h := h.1 c_9
    refine g_iconst (pc := 62) (v := 0) hC dX2_makesSum_62 (by decide) ?_
    refine g_sub (lv' := []) [] rfl ?_
    exact kX2_makesSum_b63 hC hR0 hR  h
  · have h := h.2 c_9
    refine g_iconst (pc := 58) (v := 1) hC dX2_makesSum_58 (by decide) ?_
    refine g_goto (pc := 59) (tgt := 63) hC dX2_makesSum_59 (by decide) ?_
    refine g_sub (lv' := []) [] rfl ?_
    exact kX2_makesSum_b63 hC hR0 hR  h
def qX2_makesSum_l16  (post : Int32 → St → Prop) (K16 : Int32 → Int32 → Int32 → Int32 → St → Prop) (x1 : Int32) (x2 : Int32) (x3 : Int32) (x4 : Int32) (u0 : St) : Prop := (((gi u0 2) ≤ x4 → qX2_makesSum_b53 post x2 x3 u0) ∧ (¬ (gi u0 2) ≤ x4 → qX11_has x1 x4 (fun r_11 => ((r_11 = 0 → qX2_makesSum_b45 post K16 x1 x2 x4 (0 : Int32) x3 u0) ∧ (¬ r_11 = 0 → qX2_owed x4 u0 (fun r_15 u_14 => qX2_makesSum_b45 post K16 x1 x2 x4 r_15 x3 u_14))))))
set_option maxRecDepth 100000 in
set_option maxHeartbeats 4000000 in
theorem kX2_makesSum_l16 {C : Cx} {o0 : Nat} {a0 : Nat → Nat} (hC : Fx C cX2_makesSum 5 RX2) (hR0 : xR C = rm 3) {post : Int32 → St → Prop} (hR : RZ C cX2_makesSum 5 (fun u : St => (wX2 o0 a0 (xy C) u [])) (fun r u => post r u))  {K16 : Int32 → Int32 → Int32 → Int32 → St → Prop} (hK16 : ∀ (x1 : Int32) (x2 : Int32) (x3 : Int32) (x4 : Int32) (u0 : St), K16 x1 x2 x3 x4 u0 → G C 0 0 5 (wX2 o0 a0 (xy C) u0 []) 16 [(0, .ref o0), (1, .int x1), (2, .int x2), (3, .int x3), (4, .int x4)] []) {x1 : Int32} {x2 : Int32} {x3 : Int32} {x4 : Int32} {u0 : St} (h : qX2_makesSum_l16 post K16 x1 x2 x3 x4 u0) : G C 0 0 5 (wX2 o0 a0 (xy C) u0 []) 16 [(0, .ref o0), (1, .int x1), (2, .int x2), (3, .int x3), (4, .int x4)] [] := by
  refine g_iload (pc := 16) hC 4 dX2_makesSum_16 rfl ?_
  refine g_aload_n (pc := 18) hC 0 dX2_makesSum_18 rfl rfl ?_
  refine getX2_2 (pc := 19) hC (F := fun Z => Z) (X := []) (fun _ => rfl) fl_X2_59 dX2_makesSum_19 ?_
  refine g_icmp_ge (pc := 22) (tgt := 53) hC dX2_makesSum_22 (by decide) (fun c_10 => ?_) (fun c_10 => ?_)
  · have h := h.1 c_10
    refine g_sub (lv' := [(2, .int x2), (3, .int x3)]) [2, 3] rfl ?_
    exact kX2_makesSum_b53 hC hR0 hR  h
  · have h := h.2 c_10
    refine g_iload_n (pc := 25) hC 3 dX2_makesSum_25 rfl rfl ?_
    refine g_iload_n (pc := 26) hC 1 dX2_makesSum_26 rfl rfl ?_
    refine g_iload (pc := 27) hC 4 dX2_makesSum_27 rfl ?_
    refine g_callSN_i (pc := 29) (wd := fun (_ : Unit) Y => Y) (F := fun Z => Z) (X := []) (As := [.int x1, .int x4]) (rest := [.int x3]) (u := ()) hC (fun _ _ => rfl) (fun _ => rfl) (ctX11_has h) wvX11_has nl_X2_84 rfl (rmok hR0 rfl) ⟨Nat.zero_le _, Nat.zero_le _⟩ rfl (Nat.le_of_ble_eq_true rfl) dX2_makesSum_29 (fun r_11 u_12 h => ?_)
    refine g_if_eq (pc := 32) (tgt := 44) hC dX2_makesSum_32 (by decide) (fun c_13 => ?_) (fun c_13 => ?_)
    · have h := h.1 c_13
      refine g_iconst (pc := 44) (v := 0) hC dX2_makesSum_44 (by decide) ?_
      refine g_sub (lv' := [(0, .ref o0), (1, .int x1), (2, .int x2), (4, .int x4)]) [0, 1, 2, 4] rfl ?_
      exact kX2_makesSum_b45 hC hR0 hR hK16 h
    · have h := h.2 c_13
      refine g_aload_n (pc := 35) hC 0 dX2_makesSum_35 rfl rfl ?_
      refine g_iload (pc := 36) hC 4 dX2_makesSum_36 rfl ?_
      refine g_callV_i (pc := 38) (wd := fun (u : St) Y => (wX2 o0 a0 (xy C) u Y)) (F := fun Z => Z) (X := []) (As := [.int x4]) (rest := [.int x3]) (u := u0) hC (fun _ _ => rfl) (fun _ => rfl) (ctX2_owed h) wvX2_owed ml_X2_126 (ci := 1) (q0 := 0) rfl rfl rfl rfl (rmok hR0 rfl) ⟨Nat.zero_le _, Nat.zero_le _⟩ rfl (Nat.le_of_ble_eq_true rfl) dX2_makesSum_38 (fun r_15 u_14 h => ?_)
      refine g_goto (pc := 41) (tgt := 45) hC dX2_makesSum_41 (by decide) ?_
      refine g_sub (lv' := [(0, .ref o0), (1, .int x1), (2, .int x2), (4, .int x4)]) [0, 1, 2, 4] rfl ?_
      exact kX2_makesSum_b45 hC hR0 hR hK16 h
def qX2_makesSum_L16  (post : Int32 → St → Prop)  : Nat → Int32 → Int32 → Int32 → Int32 → St → Prop
  | 0 => fun _ _ _ _ _ => False
  | n + 1 => qX2_makesSum_l16 post (qX2_makesSum_L16 post n)
theorem kX2_makesSum_L16 {C : Cx} {o0 : Nat} {a0 : Nat → Nat} (hC : Fx C cX2_makesSum 5 RX2) (hR0 : xR C = rm 3) {post : Int32 → St → Prop} (hR : RZ C cX2_makesSum 5 (fun u : St => (wX2 o0 a0 (xy C) u [])) (fun r u => post r u))  : ∀ (n : Nat) (x1 : Int32) (x2 : Int32) (x3 : Int32) (x4 : Int32) (u0 : St), qX2_makesSum_L16 post n x1 x2 x3 x4 u0 → G C 0 0 5 (wX2 o0 a0 (xy C) u0 []) 16 [(0, .ref o0), (1, .int x1), (2, .int x2), (3, .int x3), (4, .int x4)] [] := by
  intro n
  induction n with
  | zero => intro x1 x2 x3 x4 u0 h; exact h.elim
  | succ n ih => intro x1 x2 x3 x4 u0 h; exact kX2_makesSum_l16 hC hR0 hR  ih h
def qX2_makesSum (x1 : Int32) (x2 : Int32) (u0 : St) (post : Int32 → St → Prop) : Prop := (((x1 &&& (gi u0 6)) = 0 → ∃ n_18 : Nat, qX2_makesSum_L16 post n_18 x1 x2 (0 : Int32) (0 : Int32) u0) ∧ (¬ (x1 &&& (gi u0 6)) = 0 → post (0 : Int32) u0))
set_option maxRecDepth 100000 in
set_option maxHeartbeats 4000000 in
theorem kX2_makesSum {C : Cx} {o0 : Nat} {a0 : Nat → Nat} (hC : Fx C cX2_makesSum 5 RX2) (hR0 : xR C = rm 3) {post : Int32 → St → Prop} (hR : RZ C cX2_makesSum 5 (fun u : St => (wX2 o0 a0 (xy C) u [])) (fun r u => post r u)) {x1 : Int32} {x2 : Int32} {u0 : St} (h : qX2_makesSum x1 x2 u0 post) : G C 0 0 5 (wX2 o0 a0 (xy C) u0 []) 0 [(0, .ref o0), (1, .int x1), (2, .int x2)] [] := by
  refine g_iload_n (pc := 0) hC 1 dX2_makesSum_0 rfl rfl ?_
  refine g_aload_n (pc := 1) hC 0 dX2_makesSum_1 rfl rfl ?_
  refine getX2_6 (pc := 2) hC (F := fun Z => Z) (X := []) (fun _ => rfl) fl_X2_68 dX2_makesSum_2 ?_
  refine g_iand (pc := 5) hC dX2_makesSum_5 ?_
  refine g_if_eq (pc := 6) (tgt := 11) hC dX2_makesSum_6 (by decide) (fun c_17 => ?_) (fun c_17 => ?_)
  · have h := h.1 c_17
    refine g_iconst (pc := 11) (v := 0) hC dX2_makesSum_11 (by decide) ?_
    refine g_istore_n (pc := 12) (lv' := [(3, .int (0 : Int32)), (0, .ref o0), (1, .int x1), (2, .int x2)]) hC dX2_makesSum_12 rfl (Nat.le_of_ble_eq_true rfl) rfl ?_
    refine g_iconst (pc := 13) (v := 0) hC dX2_makesSum_13 (by decide) ?_
    refine g_istore (pc := 14) (lv' := [(4, .int (0 : Int32)), (3, .int (0 : Int32)), (0, .ref o0), (1, .int x1), (2, .int x2)]) hC dX2_makesSum_14 (Nat.le_of_ble_eq_true rfl) rfl ?_
    refine g_sub (lv' := [(0, .ref o0), (1, .int x1), (2, .int x2), (3, .int (0 : Int32)), (4, .int (0 : Int32))]) [2, 3, 4, 1, 0] rfl ?_
    obtain ⟨n_18, h⟩ := h
    exact kX2_makesSum_L16 hC hR0 hR  n_18 _ _ _ _ _ h
  · have h := h.2 c_17
    refine g_iconst (pc := 9) (v := 0) hC dX2_makesSum_9 (by decide) ?_
    exact hR _ _ _ u0 dX2_makesSum_10 (Or.inl rfl) h
theorem ctX2_makesSum {l : Launch} {D : va_G} {cy : Nat → ClassId} {kd : Nat → Nat} {o0 : Nat} {a0 : Nat → Nat} {x1 : Int32} {x2 : Int32} {u0 : St} {post : Int32 → St → Prop} (h : qX2_makesSum x1 x2 u0 post) : CtI l D cy kd yX2_makesSum cX2_makesSum 5 3 .boolean [.ref o0, .int x1, .int x2] (fun u : St => (wX2 o0 a0 cy u [])) u0 (fun r u => post r u) := met_z (by decide) (Nat.le_of_ble_eq_true rfl) (fun C e1 e2 e3 e4 e5 hC hR => by subst e1 e2 e3 e4; exact kX2_makesSum hC e5 hR h)
theorem dX2_countSums_0 : decode cX2_countSums 0 = .ok (.iconst 0, 1) := by decide +kernel
theorem dX2_countSums_1 : decode cX2_countSums 1 = .ok (.istore_n 3, 1) := by decide +kernel
theorem dX2_countSums_2 : decode cX2_countSums 2 = .ok (.iconst 0, 1) := by decide +kernel
theorem dX2_countSums_3 : decode cX2_countSums 3 = .ok (.istore 4, 2) := by decide +kernel
theorem dX2_countSums_5 : decode cX2_countSums 5 = .ok (.iload 4, 2) := by decide +kernel
theorem dX2_countSums_7 : decode cX2_countSums 7 = .ok (.iconst 1, 1) := by decide +kernel
theorem dX2_countSums_8 : decode cX2_countSums 8 = .ok (.aload_n 0, 1) := by decide +kernel
theorem dX2_countSums_9 : decode cX2_countSums 9 = .ok (.getfield 59, 3) := by decide +kernel
theorem dX2_countSums_12 : decode cX2_countSums 12 = .ok (.ishl, 1) := by decide +kernel
theorem dX2_countSums_13 : decode cX2_countSums 13 = .ok (.if_icmp .ge 30, 3) := by decide +kernel
theorem dX2_countSums_16 : decode cX2_countSums 16 = .ok (.iload 4, 2) := by decide +kernel
theorem dX2_countSums_18 : decode cX2_countSums 18 = .ok (.iload_n 2, 1) := by decide +kernel
theorem dX2_countSums_19 : decode cX2_countSums 19 = .ok (.iand, 1) := by decide +kernel
theorem dX2_countSums_20 : decode cX2_countSums 20 = .ok (.iload_n 2, 1) := by decide +kernel
theorem dX2_countSums_21 : decode cX2_countSums 21 = .ok (.if_icmp .ne 16, 3) := by decide +kernel
theorem dX2_countSums_24 : decode cX2_countSums 24 = .ok (.aload_n 0, 1) := by decide +kernel
theorem dX2_countSums_25 : decode cX2_countSums 25 = .ok (.iload 4, 2) := by decide +kernel
theorem dX2_countSums_27 : decode cX2_countSums 27 = .ok (.iload_n 1, 1) := by decide +kernel
theorem dX2_countSums_28 : decode cX2_countSums 28 = .ok (.invokevirtual 149, 3) := by decide +kernel
theorem dX2_countSums_31 : decode cX2_countSums 31 = .ok (.ifCond .eq 6, 3) := by decide +kernel
theorem dX2_countSums_34 : decode cX2_countSums 34 = .ok (.iinc 3 1, 3) := by decide +kernel
theorem dX2_countSums_37 : decode cX2_countSums 37 = .ok (.iinc 4 1, 3) := by decide +kernel
theorem dX2_countSums_40 : decode cX2_countSums 40 = .ok (.goto (-35), 3) := by decide +kernel
theorem dX2_countSums_43 : decode cX2_countSums 43 = .ok (.iload_n 3, 1) := by decide +kernel
theorem dX2_countSums_44 : decode cX2_countSums 44 = .ok (.ireturn, 1) := by decide +kernel
def qX2_countSums_b37  (post : Int32 → St → Prop) (K5 : Int32 → Int32 → Int32 → Int32 → St → Prop) (x1 : Int32) (x2 : Int32) (x3 : Int32) (x4 : Int32) (u0 : St) : Prop := ∀ x4_6 : Int32, x4_6 = x4 + (1 : Int32) → K5 x1 x2 x3 x4_6 u0
set_option maxRecDepth 100000 in
set_option maxHeartbeats 4000000 in
theorem kX2_countSums_b37 {C : Cx} {o0 : Nat} {a0 : Nat → Nat} (hC : Fx C cX2_countSums 5 RX2) (hR0 : xR C = rm 4) {post : Int32 → St → Prop} (hR : RI C cX2_countSums 5 (fun u : St => (wX2 o0 a0 (xy C) u [])) (fun r u => post r u)) {K5 : Int32 → Int32 → Int32 → Int32 → St → Prop} (hK5 : ∀ (x1 : Int32) (x2 : Int32) (x3 : Int32) (x4 : Int32) (u0 : St), K5 x1 x2 x3 x4 u0 → G C 0 0 5 (wX2 o0 a0 (xy C) u0 []) 5 [(0, .ref o0), (1, .int x1), (2, .int x2), (3, .int x3), (4, .int x4)] []) {x1 : Int32} {x2 : Int32} {x3 : Int32} {x4 : Int32} {u0 : St} (h : qX2_countSums_b37 post K5 x1 x2 x3 x4 u0) : G C 0 0 5 (wX2 o0 a0 (xy C) u0 []) 37 [(0, .ref o0), (1, .int x1), (2, .int x2), (3, .int x3), (4, .int x4)] [] := by
  obtain ⟨x4_6, ex4_6⟩ : ∃ z : Int32, z = x4 + (1 : Int32) := ⟨_, rfl⟩
  have h := h x4_6 ex4_6
  refine g_iinc (pc := 37) (v := x4_6) (lv' := [(4, .int x4_6), (0, .ref o0), (1, .int x1), (2, .int x2), (3, .int x3)]) hC 4 dX2_countSums_37 rfl (by rw [ex4_6]; rfl) (Nat.le_of_ble_eq_true rfl) rfl ?_
  refine g_goto (pc := 40) (tgt := 5) hC dX2_countSums_40 (by decide) ?_
  refine g_sub (lv' := [(0, .ref o0), (1, .int x1), (2, .int x2), (3, .int x3), (4, .int x4_6)]) [1, 2, 3, 4, 0] rfl ?_
  exact hK5 _ _ _ _ _ h
def qX2_countSums_l5  (post : Int32 → St → Prop) (K5 : Int32 → Int32 → Int32 → Int32 → St → Prop) (x1 : Int32) (x2 : Int32) (x3 : Int32) (x4 : Int32) (u0 : St) : Prop := ((((1 : Int32) <<< ((gi u0 2) &&& 31)) ≤ x4 → post x3 u0) ∧ (¬ ((1 : Int32) <<< ((gi u0 2) &&& 31)) ≤ x4 → ((¬ (x4 &&& x2) = x2 → qX2_countSums_b37 post K5 x1 x2 x3 x4 u0) ∧ ((x4 &&& x2) = x2 → qX2_makesSum x4 x1 u0 (fun r_10 u_9 => ((r_10 = 0 → qX2_countSums_b37 post K5 x1 x2 x3 x4 u_9) ∧ (¬ r_10 = 0 → ∀ x3_13 : Int32, x3_13 = x3 + (1 : Int32) → qX2_countSums_b37 post K5 x1 x2 x3_13 x4 u_9)))))))
set_option maxRecDepth 100000 in
set_option maxHeartbeats 4000000 in
theorem kX2_countSums_l5 {C : Cx} {o0 : Nat} {a0 : Nat → Nat} (hC : Fx C cX2_countSums 5 RX2) (hR0 : xR C = rm 4) {post : Int32 → St → Prop} (hR : RI C cX2_countSums 5 (fun u : St => (wX2 o0 a0 (xy C) u [])) (fun r u => post r u))  {K5 : Int32 → Int32 → Int32 → Int32 → St → Prop} (hK5 : ∀ (x1 : Int32) (x2 : Int32) (x3 : Int32) (x4 : Int32) (u0 : St), K5 x1 x2 x3 x4 u0 → G C 0 0 5 (wX2 o0 a0 (xy C) u0 []) 5 [(0, .ref o0), (1, .int x1), (2, .int x2), (3, .int x3), (4, .int x4)] []) {x1 : Int32} {x2 : Int32} {x3 : Int32} {x4 : Int32} {u0 : St} (h : qX2_countSums_l5 post K5 x1 x2 x3 x4 u0) : G C 0 0 5 (wX2 o0 a0 (xy C) u0 []) 5 [(0, .ref o0), (1, .int x1), (2, .int x2), (3, .int x3), (4, .int x4)] [] := by
  refine g_iload (pc := 5) hC 4 dX2_countSums_5 rfl ?_
  refine g_iconst (pc := 7) (v := 1) hC dX2_countSums_7 (by decide) ?_
  refine g_aload_n (pc := 8) hC 0 dX2_countSums_8 rfl rfl ?_
  refine getX2_2 (pc := 9) hC (F := fun Z => Z) (X := []) (fun _ => rfl) fl_X2_59 dX2_countSums_9 ?_
  refine g_ishl (pc := 12) hC dX2_countSums_12 ?_
  refine g_icmp_ge (pc := 13) (tgt := 43) hC dX2_countSums_13 (by decide) (fun c_7 => ?_) (fun c_7 => ?_)
  · have h := h.1 c_7
    refine g_iload_n (pc := 43) hC 3 dX2_countSums_43 rfl rfl ?_
    exact hR _ _ _ u0 dX2_countSums_44 h
  · have h := h.2 c_7
    refine g_iload (pc := 16) hC 4 dX2_countSums_16 rfl ?_
    refine g_iload_n (pc := 18) hC 2 dX2_countSums_18 rfl rfl ?_
    refine g_iand (pc := 19) hC dX2_countSums_19 ?_
    refine g_iload_n (pc := 20) hC 2 dX2_countSums_20 rfl rfl ?_
    refine g_icmp_ne (pc := 21) (tgt := 37) hC dX2_countSums_21 (by decide) (fun c_8 => ?_) (fun c_8 => ?_)
    · have h := h.1 c_8
      exact kX2_countSums_b37 hC hR0 hR hK5 h
    · have h := h.2 c_8
      refine g_aload_n (pc := 24) hC 0 dX2_countSums_24 rfl rfl ?_
      refine g_iload (pc := 25) hC 4 dX2_countSums_25 rfl ?_
      refine g_iload_n (pc := 27) hC 1 dX2_countSums_27 rfl rfl ?_
      refine g_callV_i (pc := 28) (wd := fun (u : St) Y => (wX2 o0 a0 (xy C) u Y)) (F := fun Z => Z) (X := []) (As := [.int x4, .int x1]) (rest := []) (u := u0) hC (fun _ _ => rfl) (fun _ => rfl) (ctX2_makesSum h) wvX2_makesSum ml_X2_149 (ci := 1) (q0 := 0) rfl rfl rfl rfl (rmok hR0 rfl) ⟨Nat.zero_le _, Nat.zero_le _⟩ rfl (Nat.le_of_ble_eq_true rfl) dX2_countSums_28 (fun r_10 u_9 h => ?_)
      refine g_if_eq (pc := 31) (tgt := 37) hC dX2_countSums_31 (by decide) (fun c_12 => ?_) (fun c_12 => ?_)
      · have h := h.1 c_12
        exact kX2_countSums_b37 hC hR0 hR hK5 h
      · have h := h.2 c_12
        obtain ⟨x3_13, ex3_13⟩ : ∃ z : Int32, z = x3 + (1 : Int32) := ⟨_, rfl⟩
        have h := h x3_13 ex3_13
        refine g_iinc (pc := 34) (v := x3_13) (lv' := [(3, .int x3_13), (0, .ref o0), (1, .int x1), (2, .int x2), (4, .int x4)]) hC 3 dX2_countSums_34 rfl (by rw [ex3_13]; rfl) (Nat.le_of_ble_eq_true rfl) rfl ?_
        refine g_sub (lv' := [(0, .ref o0), (1, .int x1), (2, .int x2), (3, .int x3_13), (4, .int x4)]) [1, 2, 3, 0, 4] rfl ?_
        exact kX2_countSums_b37 hC hR0 hR hK5 h
def qX2_countSums_L5  (post : Int32 → St → Prop)  : Nat → Int32 → Int32 → Int32 → Int32 → St → Prop
  | 0 => fun _ _ _ _ _ => False
  | n + 1 => qX2_countSums_l5 post (qX2_countSums_L5 post n)
theorem kX2_countSums_L5 {C : Cx} {o0 : Nat} {a0 : Nat → Nat} (hC : Fx C cX2_countSums 5 RX2) (hR0 : xR C = rm 4) {post : Int32 → St → Prop} (hR : RI C cX2_countSums 5 (fun u : St => (wX2 o0 a0 (xy C) u [])) (fun r u => post r u))  : ∀ (n : Nat) (x1 : Int32) (x2 : Int32) (x3 : Int32) (x4 : Int32) (u0 : St), qX2_countSums_L5 post n x1 x2 x3 x4 u0 → G C 0 0 5 (wX2 o0 a0 (xy C) u0 []) 5 [(0, .ref o0), (1, .int x1), (2, .int x2), (3, .int x3), (4, .int x4)] [] := by
  intro n
  induction n with
  | zero => intro x1 x2 x3 x4 u0 h; exact h.elim
  | succ n ih => intro x1 x2 x3 x4 u0 h; exact kX2_countSums_l5 hC hR0 hR  ih h
def qX2_countSums (x1 : Int32) (x2 : Int32) (u0 : St) (post : Int32 → St → Prop) : Prop := ∃ n_14 : Nat, qX2_countSums_L5 post n_14 x1 x2 (0 : Int32) (0 : Int32) u0
set_option maxRecDepth 100000 in
set_option maxHeartbeats 4000000 in
theorem kX2_countSums {C : Cx} {o0 : Nat} {a0 : Nat → Nat} (hC : Fx C cX2_countSums 5 RX2) (hR0 : xR C = rm 4) {post : Int32 → St → Prop} (hR : RI C cX2_countSums 5 (fun u : St => (wX2 o0 a0 (xy C) u [])) (fun r u => post r u)) {x1 : Int32} {x2 : Int32} {u0 : St} (h : qX2_countSums x1 x2 u0 post) : G C 0 0 5 (wX2 o0 a0 (xy C) u0 []) 0 [(0, .ref o0), (1, .int x1), (2, .int x2)] [] := by
  refine g_iconst (pc := 0) (v := 0) hC dX2_countSums_0 (by decide) ?_
  refine g_istore_n (pc := 1) (lv' := [(3, .int (0 : Int32)), (0, .ref o0), (1, .int x1), (2, .int x2)]) hC dX2_countSums_1 rfl (Nat.le_of_ble_eq_true rfl) rfl ?_
  refine g_iconst (pc := 2) (v := 0) hC dX2_countSums_2 (by decide) ?_
  refine g_istore (pc := 3) (lv' := [(4, .int (0 : Int32)), (3, .int (0 : Int32)), (0, .ref o0), (1, .int x1), (2, .int x2)]) hC dX2_countSums_3 (Nat.le_of_ble_eq_true rfl) rfl ?_
  refine g_sub (lv' := [(0, .ref o0), (1, .int x1), (2, .int x2), (3, .int (0 : Int32)), (4, .int (0 : Int32))]) [2, 3, 4, 1, 0] rfl ?_
  obtain ⟨n_14, h⟩ := h
  exact kX2_countSums_L5 hC hR0 hR  n_14 _ _ _ _ _ h
theorem ctX2_countSums {l : Launch} {D : va_G} {cy : Nat → ClassId} {kd : Nat → Nat} {o0 : Nat} {a0 : Nat → Nat} {x1 : Int32} {x2 : Int32} {u0 : St} {post : Int32 → St → Prop} (h : qX2_countSums x1 x2 u0 post) : CtI l D cy kd yX2_countSums cX2_countSums 5 4 .int [.ref o0, .int x1, .int x2] (fun u : St => (wX2 o0 a0 cy u [])) u0 (fun r u => post r u) := met_i (by decide) (Nat.le_of_ble_eq_true rfl) (fun C e1 e2 e3 e4 e5 hC hR => by subst e1 e2 e3 e4; exact kX2_countSums hC e5 hR h)
theorem dX2_nthSum_0 : decode cX2_nthSum 0 = .ok (.iload_n 2, 1) := by decide +kernel
theorem dX2_nthSum_1 : decode cX2_nthSum 1 = .ok (.istore_n 3, 1) := by decide +kernel
theorem dX2_nthSum_2 : decode cX2_nthSum 2 = .ok (.iconst 0, 1) := by decide +kernel
theorem dX2_nthSum_3 : decode cX2_nthSum 3 = .ok (.istore 4, 2) := by decide +kernel
theorem dX2_nthSum_5 : decode cX2_nthSum 5 = .ok (.iload 4, 2) := by decide +kernel
theorem dX2_nthSum_7 : decode cX2_nthSum 7 = .ok (.iconst 1, 1) := by decide +kernel
theorem dX2_nthSum_8 : decode cX2_nthSum 8 = .ok (.aload_n 0, 1) := by decide +kernel
theorem dX2_nthSum_9 : decode cX2_nthSum 9 = .ok (.getfield 59, 3) := by decide +kernel
theorem dX2_nthSum_12 : decode cX2_nthSum 12 = .ok (.ishl, 1) := by decide +kernel
theorem dX2_nthSum_13 : decode cX2_nthSum 13 = .ok (.if_icmp .ge 29, 3) := by decide +kernel
theorem dX2_nthSum_16 : decode cX2_nthSum 16 = .ok (.aload_n 0, 1) := by decide +kernel
theorem dX2_nthSum_17 : decode cX2_nthSum 17 = .ok (.iload 4, 2) := by decide +kernel
theorem dX2_nthSum_19 : decode cX2_nthSum 19 = .ok (.iload_n 1, 1) := by decide +kernel
theorem dX2_nthSum_20 : decode cX2_nthSum 20 = .ok (.invokevirtual 149, 3) := by decide +kernel
theorem dX2_nthSum_23 : decode cX2_nthSum 23 = .ok (.ifCond .eq 13, 3) := by decide +kernel
theorem dX2_nthSum_26 : decode cX2_nthSum 26 = .ok (.iload_n 3, 1) := by decide +kernel
theorem dX2_nthSum_27 : decode cX2_nthSum 27 = .ok (.ifCond .ne 6, 3) := by decide +kernel
theorem dX2_nthSum_30 : decode cX2_nthSum 30 = .ok (.iload 4, 2) := by decide +kernel
theorem dX2_nthSum_32 : decode cX2_nthSum 32 = .ok (.ireturn, 1) := by decide +kernel
theorem dX2_nthSum_33 : decode cX2_nthSum 33 = .ok (.iinc 3 (-1), 3) := by decide +kernel
theorem dX2_nthSum_36 : decode cX2_nthSum 36 = .ok (.iinc 4 1, 3) := by decide +kernel
theorem dX2_nthSum_39 : decode cX2_nthSum 39 = .ok (.goto (-34), 3) := by decide +kernel
theorem dX2_nthSum_42 : decode cX2_nthSum 42 = .ok (.iconst (-1), 1) := by decide +kernel
theorem dX2_nthSum_43 : decode cX2_nthSum 43 = .ok (.ireturn, 1) := by decide +kernel
def qX2_nthSum_b36  (post : Int32 → St → Prop) (K5 : Int32 → Int32 → Int32 → St → Prop) (x1 : Int32) (x3 : Int32) (x4 : Int32) (u0 : St) : Prop := ∀ x4_6 : Int32, x4_6 = x4 + (1 : Int32) → K5 x1 x3 x4_6 u0
set_option maxRecDepth 100000 in
set_option maxHeartbeats 4000000 in
theorem kX2_nthSum_b36 {C : Cx} {o0 : Nat} {a0 : Nat → Nat} (hC : Fx C cX2_nthSum 5 RX2) (hR0 : xR C = rm 4) {post : Int32 → St → Prop} (hR : RI C cX2_nthSum 5 (fun u : St => (wX2 o0 a0 (xy C) u [])) (fun r u => post r u)) {K5 : Int32 → Int32 → Int32 → St → Prop} (hK5 : ∀ (x1 : Int32) (x3 : Int32) (x4 : Int32) (u0 : St), K5 x1 x3 x4 u0 → G C 0 0 5 (wX2 o0 a0 (xy C) u0 []) 5 [(0, .ref o0), (1, .int x1), (3, .int x3), (4, .int x4)] []) {x1 : Int32} {x3 : Int32} {x4 : Int32} {u0 : St} (h : qX2_nthSum_b36 post K5 x1 x3 x4 u0) : G C 0 0 5 (wX2 o0 a0 (xy C) u0 []) 36 [(0, .ref o0), (1, .int x1), (3, .int x3), (4, .int x4)] [] := by
  obtain ⟨x4_6, ex4_6⟩ : ∃ z : Int32, z = x4 + (1 : Int32) := ⟨_, rfl⟩
  have h := h x4_6 ex4_6
  refine g_iinc (pc := 36) (v := x4_6) (lv' := [(4, .int x4_6), (0, .ref o0), (1, .int x1), (3, .int x3)]) hC 3 dX2_nthSum_36 rfl (by rw [ex4_6]; rfl) (Nat.le_of_ble_eq_true rfl) rfl ?_
  refine g_goto (pc := 39) (tgt := 5) hC dX2_nthSum_39 (by decide) ?_
  refine g_sub (lv' := [(0, .ref o0), (1, .int x1), (3, .int x3), (4, .int x4_6)]) [1, 2, 3, 0] rfl ?_
  exact hK5 _ _ _ _ h
def qX2_nthSum_l5  (post : Int32 → St → Prop) (K5 : Int32 → Int32 → Int32 → St → Prop) (x1 : Int32) (x3 : Int32) (x4 : Int32) (u0 : St) : Prop := ((((1 : Int32) <<< ((gi u0 2) &&& 31)) ≤ x4 → post (-1 : Int32) u0) ∧ (¬ ((1 : Int32) <<< ((gi u0 2) &&& 31)) ≤ x4 → qX2_makesSum x4 x1 u0 (fun r_9 u_8 => ((r_9 = 0 → qX2_nthSum_b36 post K5 x1 x3 x4 u_8) ∧ (¬ r_9 = 0 → ((¬ x3 = 0 → ∀ x3_13 : Int32, x3_13 = x3 + (-1 : Int32) → qX2_nthSum_b36 post K5 x1 x3_13 x4 u_8) ∧ (x3 = 0 → post x4 u_8)))))))
set_option maxRecDepth 100000 in
set_option maxHeartbeats 4000000 in
theorem kX2_nthSum_l5 {C : Cx} {o0 : Nat} {a0 : Nat → Nat} (hC : Fx C cX2_nthSum 5 RX2) (hR0 : xR C = rm 4) {post : Int32 → St → Prop} (hR : RI C cX2_nthSum 5 (fun u : St => (wX2 o0 a0 (xy C) u [])) (fun r u => post r u))  {K5 : Int32 → Int32 → Int32 → St → Prop} (hK5 : ∀ (x1 : Int32) (x3 : Int32) (x4 : Int32) (u0 : St), K5 x1 x3 x4 u0 → G C 0 0 5 (wX2 o0 a0 (xy C) u0 []) 5 [(0, .ref o0), (1, .int x1), (3, .int x3), (4, .int x4)] []) {x1 : Int32} {x3 : Int32} {x4 : Int32} {u0 : St} (h : qX2_nthSum_l5 post K5 x1 x3 x4 u0) : G C 0 0 5 (wX2 o0 a0 (xy C) u0 []) 5 [(0, .ref o0), (1, .int x1), (3, .int x3), (4, .int x4)] [] := by
  refine g_iload (pc := 5) hC 3 dX2_nthSum_5 rfl ?_
  refine g_iconst (pc := 7) (v := 1) hC dX2_nthSum_7 (by decide) ?_
  refine g_aload_n (pc := 8) hC 0 dX2_nthSum_8 rfl rfl ?_
  refine getX2_2 (pc := 9) hC (F := fun Z => Z) (X := []) (fun _ => rfl) fl_X2_59 dX2_nthSum_9 ?_
  refine g_ishl (pc := 12) hC dX2_nthSum_12 ?_
  refine g_icmp_ge (pc := 13) (tgt := 42) hC dX2_nthSum_13 (by decide) (fun c_7 => ?_) (fun c_7 => ?_)
  · have h := h.1 c_7
    refine g_iconst (pc := 42) (v := -1) hC dX2_nthSum_42 (by decide) ?_
    exact hR _ _ _ u0 dX2_nthSum_43 h
  · have h := h.2 c_7
    refine g_aload_n (pc := 16) hC 0 dX2_nthSum_16 rfl rfl ?_
    refine g_iload (pc := 17) hC 3 dX2_nthSum_17 rfl ?_
    refine g_iload_n (pc := 19) hC 1 dX2_nthSum_19 rfl rfl ?_
    refine g_callV_i (pc := 20) (wd := fun (u : St) Y => (wX2 o0 a0 (xy C) u Y)) (F := fun Z => Z) (X := []) (As := [.int x4, .int x1]) (rest := []) (u := u0) hC (fun _ _ => rfl) (fun _ => rfl) (ctX2_makesSum h) wvX2_makesSum ml_X2_149 (ci := 1) (q0 := 0) rfl rfl rfl rfl (rmok hR0 rfl) ⟨Nat.zero_le _, Nat.zero_le _⟩ rfl (Nat.le_of_ble_eq_true rfl) dX2_nthSum_20 (fun r_9 u_8 h => ?_)
    refine g_if_eq (pc := 23) (tgt := 36) hC dX2_nthSum_23 (by decide) (fun c_11 => ?_) (fun c_11 => ?_)
    · have h := h.1 c_11
      exact kX2_nthSum_b36 hC hR0 hR hK5 h
    · have h := h.2 c_11
      refine g_iload_n (pc := 26) hC 2 dX2_nthSum_26 rfl rfl ?_
      refine g_if_ne (pc := 27) (tgt := 33) hC dX2_nthSum_27 (by decide) (fun c_12 => ?_) (fun c_12 => ?_)
      · have h := h.1 c_12
        obtain ⟨x3_13, ex3_13⟩ : ∃ z : Int32, z = x3 + (-1 : Int32) := ⟨_, rfl⟩
        have h := h x3_13 ex3_13
        refine g_iinc (pc := 33) (v := x3_13) (lv' := [(3, .int x3_13), (0, .ref o0), (1, .int x1), (4, .int x4)]) hC 2 dX2_nthSum_33 rfl (by rw [ex3_13]; rfl) (Nat.le_of_ble_eq_true rfl) rfl ?_
        refine g_sub (lv' := [(0, .ref o0), (1, .int x1), (3, .int x3_13), (4, .int x4)]) [1, 2, 0, 3] rfl ?_
        exact kX2_nthSum_b36 hC hR0 hR hK5 h
      · have h := h.2 c_12
        refine g_iload (pc := 30) hC 3 dX2_nthSum_30 rfl ?_
        exact hR _ _ _ u_8 dX2_nthSum_32 h
def qX2_nthSum_L5  (post : Int32 → St → Prop)  : Nat → Int32 → Int32 → Int32 → St → Prop
  | 0 => fun _ _ _ _ => False
  | n + 1 => qX2_nthSum_l5 post (qX2_nthSum_L5 post n)
theorem kX2_nthSum_L5 {C : Cx} {o0 : Nat} {a0 : Nat → Nat} (hC : Fx C cX2_nthSum 5 RX2) (hR0 : xR C = rm 4) {post : Int32 → St → Prop} (hR : RI C cX2_nthSum 5 (fun u : St => (wX2 o0 a0 (xy C) u [])) (fun r u => post r u))  : ∀ (n : Nat) (x1 : Int32) (x3 : Int32) (x4 : Int32) (u0 : St), qX2_nthSum_L5 post n x1 x3 x4 u0 → G C 0 0 5 (wX2 o0 a0 (xy C) u0 []) 5 [(0, .ref o0), (1, .int x1), (3, .int x3), (4, .int x4)] [] := by
  intro n
  induction n with
  | zero => intro x1 x3 x4 u0 h; exact h.elim
  | succ n ih => intro x1 x3 x4 u0 h; exact kX2_nthSum_l5 hC hR0 hR  ih h
def qX2_nthSum (x1 : Int32) (x2 : Int32) (u0 : St) (post : Int32 → St → Prop) : Prop := ∃ n_14 : Nat, qX2_nthSum_L5 post n_14 x1 x2 (0 : Int32) u0
set_option maxRecDepth 100000 in
set_option maxHeartbeats 4000000 in
theorem kX2_nthSum {C : Cx} {o0 : Nat} {a0 : Nat → Nat} (hC : Fx C cX2_nthSum 5 RX2) (hR0 : xR C = rm 4) {post : Int32 → St → Prop} (hR : RI C cX2_nthSum 5 (fun u : St => (wX2 o0 a0 (xy C) u [])) (fun r u => post r u)) {x1 : Int32} {x2 : Int32} {u0 : St} (h : qX2_nthSum x1 x2 u0 post) : G C 0 0 5 (wX2 o0 a0 (xy C) u0 []) 0 [(0, .ref o0), (1, .int x1), (2, .int x2)] [] := by
  refine g_iload_n (pc := 0) hC 2 dX2_nthSum_0 rfl rfl ?_
  refine g_istore_n (pc := 1) (lv' := [(3, .int x2), (0, .ref o0), (1, .int x1), (2, .int x2)]) hC dX2_nthSum_1 rfl (Nat.le_of_ble_eq_true rfl) rfl ?_
  refine g_iconst (pc := 2) (v := 0) hC dX2_nthSum_2 (by decide) ?_
  refine g_istore (pc := 3) (lv' := [(4, .int (0 : Int32)), (3, .int x2), (0, .ref o0), (1, .int x1), (2, .int x2)]) hC dX2_nthSum_3 (Nat.le_of_ble_eq_true rfl) rfl ?_
  refine g_sub (lv' := [(0, .ref o0), (1, .int x1), (3, .int x2), (4, .int (0 : Int32))]) [2, 3, 1, 0] rfl ?_
  obtain ⟨n_14, h⟩ := h
  exact kX2_nthSum_L5 hC hR0 hR  n_14 _ _ _ _ h
theorem ctX2_nthSum {l : Launch} {D : va_G} {cy : Nat → ClassId} {kd : Nat → Nat} {o0 : Nat} {a0 : Nat → Nat} {x1 : Int32} {x2 : Int32} {u0 : St} {post : Int32 → St → Prop} (h : qX2_nthSum x1 x2 u0 post) : CtI l D cy kd yX2_nthSum cX2_nthSum 5 4 .int [.ref o0, .int x1, .int x2] (fun u : St => (wX2 o0 a0 cy u [])) u0 (fun r u => post r u) := met_i (by decide) (Nat.le_of_ble_eq_true rfl) (fun C e1 e2 e3 e4 e5 hC hR => by subst e1 e2 e3 e4; exact kX2_nthSum hC e5 hR h)
