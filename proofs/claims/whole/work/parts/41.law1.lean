theorem dL_law_256 : decode cL_law 256 = .ok (.aload_n 1, 1) := by decide +kernel
theorem dL_law_257 : decode cL_law 257 = .ok (.invokevirtual 13, 3) := by decide +kernel
theorem dL_law_260 : decode cL_law 260 = .ok (.aload_n 2, 1) := by decide +kernel
theorem dL_law_261 : decode cL_law 261 = .ok (.invokevirtual 17, 3) := by decide +kernel
theorem dL_law_264 : decode cL_law 264 = .ok (.if_icmp .eq 1519, 3) := by decide +kernel
set_option maxRecDepth 100000 in
set_option maxHeartbeats 8000000 in
theorem law_status {C : Cx} {R : (Nat → St) → St → Prop} {oI oM b L : Nat} {xs : Nat → Int32} {a0 aT aR aH aS aM aN aK hm tm b0 b1 b2 b3 b4 b5 aL aD aC aQ aP : Nat → Nat} {cs : Nat → St} {ms : St} {x3 : Int32} (hC : Fx C cL_law 4 RL) (hR0 : xR C = room_1) (hX : LwX C b L xs) (hi : InS L x3) (hs : SP_status R) (hr : R cs ms) (hk : LBack C R oI oM b x3) : G C 137 9713 4 (lwW oI oM a0 aT aR aH aS aM aN aK hm tm b0 b1 b2 b3 b4 b5 aL aD aC aQ aP (xy C) cs ms) 256 [(0, .ref b), (1, .ref oI), (2, .ref oM), (3, .int x3)] [] := by
  refine g_eq (σ' := (wX11 oI a0 (xy C) (cs 0) (wT (a0 3) (xy C) (cs 1) (wX9 (a0 5) aT (xy C) (cs 2) (wX6 (a0 6) aR (xy C) (cs 3) (wX8 (aR 0) (fun _ => a0 3) (xy C) (cs 4) (wX2 (a0 7) aH (xy C) (cs 5) (wX2 (a0 8) aS (xy C) (cs 6) (wX7 (a0 9) aM (xy C) (cs 7) (wX7 (a0 10) aN (xy C) (cs 8) (wX4 (a0 11) aK hm tm (xy C) (cs 9) (wX2 (hm 0) b0 (xy C) (cs 10) (wX2 (hm 1) b1 (xy C) (cs 11) (wX2 (hm 2) b2 (xy C) (cs 12) (wX7 (tm 0) b3 (xy C) (cs 13) (wX7 (tm 1) b4 (xy C) (cs 14) (wX7 (tm 2) b5 (xy C) (cs 15) (wX3 (a0 14) aL (xy C) (cs 16) (wX3 (a0 15) aD (xy C) (cs 17) (wX0 (a0 16) aC (xy C) (cs 18) (wX5 (a0 17) aQ (xy C) (cs 19) (wX12 oM aP (xy C) ms [])))))))))))))))))))))) rfl ?_
  refine g_aload_n (pc := 256) hC 1 dL_law_256 rfl rfl ?_
  have h := hs  cs ms  hr
  refine g_callV_i (pc := 257) (wd := fun (u : St) Y => (wX11 oI a0 (xy C) u Y)) (F := fun Z => Z) (X := []) (As := []) (rest := []) (u := (cs 0)) hC (fun _ _ => rfl) (fun _ => rfl) (ctX11_status h) wvX11_status ml_L_13 (ci := 9) (q0 := 0) rfl rfl rfl rfl (by rw [hR0]; exact ⟨Nat.le_of_ble_eq_true rfl, Nat.le_of_ble_eq_true rfl⟩) (by rw [hR0]; exact ⟨Nat.le_of_ble_eq_true rfl, Nat.le_of_ble_eq_true rfl⟩) rfl (Nat.le_of_ble_eq_true rfl) dL_law_257 (fun r_2 u_1 h => ?_)
  refine g_aload_n (pc := 260) hC 2 dL_law_260 rfl rfl ?_
  refine g_callV_i (pc := 261) (wd := fun (u : St) Y => (wX12 oM aP (xy C) u Y)) (F := fun Z => (wX11 oI a0 (xy C) u_1 (wT (a0 3) (xy C) (cs 1) (wX9 (a0 5) aT (xy C) (cs 2) (wX6 (a0 6) aR (xy C) (cs 3) (wX8 (aR 0) (fun _ => a0 3) (xy C) (cs 4) (wX2 (a0 7) aH (xy C) (cs 5) (wX2 (a0 8) aS (xy C) (cs 6) (wX7 (a0 9) aM (xy C) (cs 7) (wX7 (a0 10) aN (xy C) (cs 8) (wX4 (a0 11) aK hm tm (xy C) (cs 9) (wX2 (hm 0) b0 (xy C) (cs 10) (wX2 (hm 1) b1 (xy C) (cs 11) (wX2 (hm 2) b2 (xy C) (cs 12) (wX7 (tm 0) b3 (xy C) (cs 13) (wX7 (tm 1) b4 (xy C) (cs 14) (wX7 (tm 2) b5 (xy C) (cs 15) (wX3 (a0 14) aL (xy C) (cs 16) (wX3 (a0 15) aD (xy C) (cs 17) (wX0 (a0 16) aC (xy C) (cs 18) (wX5 (a0 17) aQ (xy C) (cs 19) Z))))))))))))))))))))) (X := (wX11 oI a0 (xy C) u_1 (wT (a0 3) (xy C) (cs 1) (wX9 (a0 5) aT (xy C) (cs 2) (wX6 (a0 6) aR (xy C) (cs 3) (wX8 (aR 0) (fun _ => a0 3) (xy C) (cs 4) (wX2 (a0 7) aH (xy C) (cs 5) (wX2 (a0 8) aS (xy C) (cs 6) (wX7 (a0 9) aM (xy C) (cs 7) (wX7 (a0 10) aN (xy C) (cs 8) (wX4 (a0 11) aK hm tm (xy C) (cs 9) (wX2 (hm 0) b0 (xy C) (cs 10) (wX2 (hm 1) b1 (xy C) (cs 11) (wX2 (hm 2) b2 (xy C) (cs 12) (wX7 (tm 0) b3 (xy C) (cs 13) (wX7 (tm 1) b4 (xy C) (cs 14) (wX7 (tm 2) b5 (xy C) (cs 15) (wX3 (a0 14) aL (xy C) (cs 16) (wX3 (a0 15) aD (xy C) (cs 17) (wX0 (a0 16) aC (xy C) (cs 18) (wX5 (a0 17) aQ (xy C) (cs 19) []))))))))))))))))))))) (As := []) (rest := [.int r_2]) (u := ms) hC (fun _ _ => rfl) (fun _ => rfl) (ctX12_status h) wvX12_status ml_L_17 (ci := 10) (q0 := 0) rfl rfl rfl rfl (by rw [hR0]; exact ⟨Nat.le_of_ble_eq_true rfl, Nat.le_of_ble_eq_true rfl⟩) (by rw [hR0]; exact ⟨Nat.le_of_ble_eq_true rfl, Nat.le_of_ble_eq_true rfl⟩) rfl (Nat.le_of_ble_eq_true rfl) dL_law_261 (fun r_5 u_4 h => ?_)
  refine g_icmp_eq (pc := 264) (tgt := 1783) hC dL_law_264 (by decide) (fun c => ?_) (fun c => absurd h.1 c)
  exact hk a0 aT aR aH aS aM aN aK hm tm b0 b1 b2 b3 b4 b5 aL aD aC aQ aP (va_up cs 0 u_1) u_4 h.2
theorem dL_law_269 : decode cL_law 269 = .ok (.aload_n 1, 1) := by decide +kernel
theorem dL_law_270 : decode cL_law 270 = .ok (.invokevirtual 18, 3) := by decide +kernel
theorem dL_law_273 : decode cL_law 273 = .ok (.aload_n 2, 1) := by decide +kernel
theorem dL_law_274 : decode cL_law 274 = .ok (.invokevirtual 22, 3) := by decide +kernel
theorem dL_law_277 : decode cL_law 277 = .ok (.lcmp, 1) := by decide +kernel
theorem dL_law_278 : decode cL_law 278 = .ok (.ifCond .eq 1505, 3) := by decide +kernel
set_option maxRecDepth 100000 in
set_option maxHeartbeats 8000000 in
theorem law_top {C : Cx} {R : (Nat → St) → St → Prop} {oI oM b L : Nat} {xs : Nat → Int32} {a0 aT aR aH aS aM aN aK hm tm b0 b1 b2 b3 b4 b5 aL aD aC aQ aP : Nat → Nat} {cs : Nat → St} {ms : St} {x3 : Int32} (hC : Fx C cL_law 4 RL) (hR0 : xR C = room_1) (hX : LwX C b L xs) (hi : InS L x3) (hs : SP_top R) (hr : R cs ms) (hk : LBack C R oI oM b x3) : G C 137 9713 4 (lwW oI oM a0 aT aR aH aS aM aN aK hm tm b0 b1 b2 b3 b4 b5 aL aD aC aQ aP (xy C) cs ms) 269 [(0, .ref b), (1, .ref oI), (2, .ref oM), (3, .int x3)] [] := by
  refine g_eq (σ' := (wX11 oI a0 (xy C) (cs 0) (wT (a0 3) (xy C) (cs 1) (wX9 (a0 5) aT (xy C) (cs 2) (wX6 (a0 6) aR (xy C) (cs 3) (wX8 (aR 0) (fun _ => a0 3) (xy C) (cs 4) (wX2 (a0 7) aH (xy C) (cs 5) (wX2 (a0 8) aS (xy C) (cs 6) (wX7 (a0 9) aM (xy C) (cs 7) (wX7 (a0 10) aN (xy C) (cs 8) (wX4 (a0 11) aK hm tm (xy C) (cs 9) (wX2 (hm 0) b0 (xy C) (cs 10) (wX2 (hm 1) b1 (xy C) (cs 11) (wX2 (hm 2) b2 (xy C) (cs 12) (wX7 (tm 0) b3 (xy C) (cs 13) (wX7 (tm 1) b4 (xy C) (cs 14) (wX7 (tm 2) b5 (xy C) (cs 15) (wX3 (a0 14) aL (xy C) (cs 16) (wX3 (a0 15) aD (xy C) (cs 17) (wX0 (a0 16) aC (xy C) (cs 18) (wX5 (a0 17) aQ (xy C) (cs 19) (wX12 oM aP (xy C) ms [])))))))))))))))))))))) rfl ?_
  refine g_aload_n (pc := 269) hC 1 dL_law_269 rfl rfl ?_
  have h := hs  cs ms  hr
  refine g_callV_l (pc := 270) (wd := fun (u : St) Y => (wX11 oI a0 (xy C) u Y)) (F := fun Z => Z) (X := []) (As := []) (rest := []) (u := (cs 0)) hC (fun _ _ => rfl) (fun _ => rfl) (ctX11_top h) wvX11_top ml_L_18 (ci := 9) (q0 := 0) rfl rfl rfl rfl (by rw [hR0]; exact ⟨Nat.le_of_ble_eq_true rfl, Nat.le_of_ble_eq_true rfl⟩) (by rw [hR0]; exact ⟨Nat.le_of_ble_eq_true rfl, Nat.le_of_ble_eq_true rfl⟩) rfl (Nat.le_of_ble_eq_true rfl) dL_law_270 (fun r_2 u_1 h => ?_)
  refine g_aload_n (pc := 273) hC 2 dL_law_273 rfl rfl ?_
  refine g_callV_l (pc := 274) (wd := fun (u : St) Y => (wX12 oM aP (xy C) u Y)) (F := fun Z => (wX11 oI a0 (xy C) u_1 (wT (a0 3) (xy C) (cs 1) (wX9 (a0 5) aT (xy C) (cs 2) (wX6 (a0 6) aR (xy C) (cs 3) (wX8 (aR 0) (fun _ => a0 3) (xy C) (cs 4) (wX2 (a0 7) aH (xy C) (cs 5) (wX2 (a0 8) aS (xy C) (cs 6) (wX7 (a0 9) aM (xy C) (cs 7) (wX7 (a0 10) aN (xy C) (cs 8) (wX4 (a0 11) aK hm tm (xy C) (cs 9) (wX2 (hm 0) b0 (xy C) (cs 10) (wX2 (hm 1) b1 (xy C) (cs 11) (wX2 (hm 2) b2 (xy C) (cs 12) (wX7 (tm 0) b3 (xy C) (cs 13) (wX7 (tm 1) b4 (xy C) (cs 14) (wX7 (tm 2) b5 (xy C) (cs 15) (wX3 (a0 14) aL (xy C) (cs 16) (wX3 (a0 15) aD (xy C) (cs 17) (wX0 (a0 16) aC (xy C) (cs 18) (wX5 (a0 17) aQ (xy C) (cs 19) Z))))))))))))))))))))) (X := (wX11 oI a0 (xy C) u_1 (wT (a0 3) (xy C) (cs 1) (wX9 (a0 5) aT (xy C) (cs 2) (wX6 (a0 6) aR (xy C) (cs 3) (wX8 (aR 0) (fun _ => a0 3) (xy C) (cs 4) (wX2 (a0 7) aH (xy C) (cs 5) (wX2 (a0 8) aS (xy C) (cs 6) (wX7 (a0 9) aM (xy C) (cs 7) (wX7 (a0 10) aN (xy C) (cs 8) (wX4 (a0 11) aK hm tm (xy C) (cs 9) (wX2 (hm 0) b0 (xy C) (cs 10) (wX2 (hm 1) b1 (xy C) (cs 11) (wX2 (hm 2) b2 (xy C) (cs 12) (wX7 (tm 0) b3 (xy C) (cs 13) (wX7 (tm 1) b4 (xy C) (cs 14) (wX7 (tm 2) b5 (xy C) (cs 15) (wX3 (a0 14) aL (xy C) (cs 16) (wX3 (a0 15) aD (xy C) (cs 17) (wX0 (a0 16) aC (xy C) (cs 18) (wX5 (a0 17) aQ (xy C) (cs 19) []))))))))))))))))))))) (As := []) (rest := [.long r_2]) (u := ms) hC (fun _ _ => rfl) (fun _ => rfl) (ctX12_top h) wvX12_top ml_L_22 (ci := 10) (q0 := 0) rfl rfl rfl rfl (by rw [hR0]; exact ⟨Nat.le_of_ble_eq_true rfl, Nat.le_of_ble_eq_true rfl⟩) (by rw [hR0]; exact ⟨Nat.le_of_ble_eq_true rfl, Nat.le_of_ble_eq_true rfl⟩) rfl (Nat.le_of_ble_eq_true rfl) dL_law_274 (fun r_5 u_4 h => ?_)
  refine g_lcmp (pc := 277) hC dL_law_277 ?_
  refine g_if_eq (pc := 278) (tgt := 1783) hC dL_law_278 (by decide) (fun c => ?_) (fun c => absurd (by rw [h.1]; exact lg_self _) c)
  exact hk a0 aT aR aH aS aM aN aK hm tm b0 b1 b2 b3 b4 b5 aL aD aC aQ aP (va_up cs 0 u_1) u_4 h.2
theorem dL_law_283 : decode cL_law 283 = .ok (.aload_n 1, 1) := by decide +kernel
theorem dL_law_284 : decode cL_law 284 = .ok (.invokevirtual 23, 3) := by decide +kernel
theorem dL_law_287 : decode cL_law 287 = .ok (.aload_n 2, 1) := by decide +kernel
theorem dL_law_288 : decode cL_law 288 = .ok (.invokevirtual 26, 3) := by decide +kernel
theorem dL_law_291 : decode cL_law 291 = .ok (.lcmp, 1) := by decide +kernel
theorem dL_law_292 : decode cL_law 292 = .ok (.ifCond .eq 1491, 3) := by decide +kernel
set_option maxRecDepth 100000 in
set_option maxHeartbeats 8000000 in
theorem law_bottom {C : Cx} {R : (Nat → St) → St → Prop} {oI oM b L : Nat} {xs : Nat → Int32} {a0 aT aR aH aS aM aN aK hm tm b0 b1 b2 b3 b4 b5 aL aD aC aQ aP : Nat → Nat} {cs : Nat → St} {ms : St} {x3 : Int32} (hC : Fx C cL_law 4 RL) (hR0 : xR C = room_1) (hX : LwX C b L xs) (hi : InS L x3) (hs : SP_bottom R) (hr : R cs ms) (hk : LBack C R oI oM b x3) : G C 137 9713 4 (lwW oI oM a0 aT aR aH aS aM aN aK hm tm b0 b1 b2 b3 b4 b5 aL aD aC aQ aP (xy C) cs ms) 283 [(0, .ref b), (1, .ref oI), (2, .ref oM), (3, .int x3)] [] := by
  refine g_eq (σ' := (wX11 oI a0 (xy C) (cs 0) (wT (a0 3) (xy C) (cs 1) (wX9 (a0 5) aT (xy C) (cs 2) (wX6 (a0 6) aR (xy C) (cs 3) (wX8 (aR 0) (fun _ => a0 3) (xy C) (cs 4) (wX2 (a0 7) aH (xy C) (cs 5) (wX2 (a0 8) aS (xy C) (cs 6) (wX7 (a0 9) aM (xy C) (cs 7) (wX7 (a0 10) aN (xy C) (cs 8) (wX4 (a0 11) aK hm tm (xy C) (cs 9) (wX2 (hm 0) b0 (xy C) (cs 10) (wX2 (hm 1) b1 (xy C) (cs 11) (wX2 (hm 2) b2 (xy C) (cs 12) (wX7 (tm 0) b3 (xy C) (cs 13) (wX7 (tm 1) b4 (xy C) (cs 14) (wX7 (tm 2) b5 (xy C) (cs 15) (wX3 (a0 14) aL (xy C) (cs 16) (wX3 (a0 15) aD (xy C) (cs 17) (wX0 (a0 16) aC (xy C) (cs 18) (wX5 (a0 17) aQ (xy C) (cs 19) (wX12 oM aP (xy C) ms [])))))))))))))))))))))) rfl ?_
  refine g_aload_n (pc := 283) hC 1 dL_law_283 rfl rfl ?_
  have h := hs  cs ms  hr
  refine g_callV_l (pc := 284) (wd := fun (u : St) Y => (wX11 oI a0 (xy C) u Y)) (F := fun Z => Z) (X := []) (As := []) (rest := []) (u := (cs 0)) hC (fun _ _ => rfl) (fun _ => rfl) (ctX11_bottom h) wvX11_bottom ml_L_23 (ci := 9) (q0 := 0) rfl rfl rfl rfl (by rw [hR0]; exact ⟨Nat.le_of_ble_eq_true rfl, Nat.le_of_ble_eq_true rfl⟩) (by rw [hR0]; exact ⟨Nat.le_of_ble_eq_true rfl, Nat.le_of_ble_eq_true rfl⟩) rfl (Nat.le_of_ble_eq_true rfl) dL_law_284 (fun r_2 u_1 h => ?_)
  refine g_aload_n (pc := 287) hC 2 dL_law_287 rfl rfl ?_
  refine g_callV_l (pc := 288) (wd := fun (u : St) Y => (wX12 oM aP (xy C) u Y)) (F := fun Z => (wX11 oI a0 (xy C) u_1 (wT (a0 3) (xy C) (cs 1) (wX9 (a0 5) aT (xy C) (cs 2) (wX6 (a0 6) aR (xy C) (cs 3) (wX8 (aR 0) (fun _ => a0 3) (xy C) (cs 4) (wX2 (a0 7) aH (xy C) (cs 5) (wX2 (a0 8) aS (xy C) (cs 6) (wX7 (a0 9) aM (xy C) (cs 7) (wX7 (a0 10) aN (xy C) (cs 8) (wX4 (a0 11) aK hm tm (xy C) (cs 9) (wX2 (hm 0) b0 (xy C) (cs 10) (wX2 (hm 1) b1 (xy C) (cs 11) (wX2 (hm 2) b2 (xy C) (cs 12) (wX7 (tm 0) b3 (xy C) (cs 13) (wX7 (tm 1) b4 (xy C) (cs 14) (wX7 (tm 2) b5 (xy C) (cs 15) (wX3 (a0 14) aL (xy C) (cs 16) (wX3 (a0 15) aD (xy C) (cs 17) (wX0 (a0 16) aC (xy C) (cs 18) (wX5 (a0 17) aQ (xy C) (cs 19) Z))))))))))))))))))))) (X := (wX11 oI a0 (xy C) u_1 (wT (a0 3) (xy C) (cs 1) (wX9 (a0 5) aT (xy C) (cs 2) (wX6 (a0 6) aR (xy C) (cs 3) (wX8 (aR 0) (fun _ => a0 3) (xy C) (cs 4) (wX2 (a0 7) aH (xy C) (cs 5) (wX2 (a0 8) aS (xy C) (cs 6) (wX7 (a0 9) aM (xy C) (cs 7) (wX7 (a0 10) aN (xy C) (cs 8) (wX4 (a0 11) aK hm tm (xy C) (cs 9) (wX2 (hm 0) b0 (xy C) (cs 10) (wX2 (hm 1) b1 (xy C) (cs 11) (wX2 (hm 2) b2 (xy C) (cs 12) (wX7 (tm 0) b3 (xy C) (cs 13) (wX7 (tm 1) b4 (xy C) (cs 14) (wX7 (tm 2) b5 (xy C) (cs 15) (wX3 (a0 14) aL (xy C) (cs 16) (wX3 (a0 15) aD (xy C) (cs 17) (wX0 (a0 16) aC (xy C) (cs 18) (wX5 (a0 17) aQ (xy C) (cs 19) []))))))))))))))))))))) (As := []) (rest := [.long r_2]) (u := ms) hC (fun _ _ => rfl) (fun _ => rfl) (ctX12_bottom h) wvX12_bottom ml_L_26 (ci := 10) (q0 := 0) rfl rfl rfl rfl (by rw [hR0]; exact ⟨Nat.le_of_ble_eq_true rfl, Nat.le_of_ble_eq_true rfl⟩) (by rw [hR0]; exact ⟨Nat.le_of_ble_eq_true rfl, Nat.le_of_ble_eq_true rfl⟩) rfl (Nat.le_of_ble_eq_true rfl) dL_law_288 (fun r_5 u_4 h => ?_)
  refine g_lcmp (pc := 291) hC dL_law_291 ?_
  refine g_if_eq (pc := 292) (tgt := 1783) hC dL_law_292 (by decide) (fun c => ?_) (fun c => absurd (by rw [h.1]; exact lg_self _) c)
  exact hk a0 aT aR aH aS aM aN aK hm tm b0 b1 b2 b3 b4 b5 aL aD aC aQ aP (va_up cs 0 u_1) u_4 h.2
theorem dL_law_297 : decode cL_law 297 = .ok (.aload_n 1, 1) := by decide +kernel
theorem dL_law_298 : decode cL_law 298 = .ok (.aload_n 0, 1) := by decide +kernel
theorem dL_law_299 : decode cL_law 299 = .ok (.iload_n 3, 1) := by decide +kernel
theorem dL_law_300 : decode cL_law 300 = .ok (.iconst 1, 1) := by decide +kernel
theorem dL_law_301 : decode cL_law 301 = .ok (.iadd, 1) := by decide +kernel
theorem dL_law_302 : decode cL_law 302 = .ok (.iaload, 1) := by decide +kernel
theorem dL_law_303 : decode cL_law 303 = .ok (.aload_n 0, 1) := by decide +kernel
theorem dL_law_304 : decode cL_law 304 = .ok (.iload_n 3, 1) := by decide +kernel
theorem dL_law_305 : decode cL_law 305 = .ok (.iconst 2, 1) := by decide +kernel
theorem dL_law_306 : decode cL_law 306 = .ok (.iadd, 1) := by decide +kernel
theorem dL_law_307 : decode cL_law 307 = .ok (.iaload, 1) := by decide +kernel
theorem dL_law_308 : decode cL_law 308 = .ok (.aload_n 0, 1) := by decide +kernel
theorem dL_law_309 : decode cL_law 309 = .ok (.iload_n 3, 1) := by decide +kernel
theorem dL_law_310 : decode cL_law 310 = .ok (.iconst 3, 1) := by decide +kernel
theorem dL_law_311 : decode cL_law 311 = .ok (.iadd, 1) := by decide +kernel
theorem dL_law_312 : decode cL_law 312 = .ok (.iaload, 1) := by decide +kernel
theorem dL_law_313 : decode cL_law 313 = .ok (.invokevirtual 27, 3) := by decide +kernel
theorem dL_law_316 : decode cL_law 316 = .ok (.aload_n 2, 1) := by decide +kernel
theorem dL_law_317 : decode cL_law 317 = .ok (.aload_n 0, 1) := by decide +kernel
theorem dL_law_318 : decode cL_law 318 = .ok (.iload_n 3, 1) := by decide +kernel
theorem dL_law_319 : decode cL_law 319 = .ok (.iconst 1, 1) := by decide +kernel
theorem dL_law_320 : decode cL_law 320 = .ok (.iadd, 1) := by decide +kernel
theorem dL_law_321 : decode cL_law 321 = .ok (.iaload, 1) := by decide +kernel
theorem dL_law_322 : decode cL_law 322 = .ok (.aload_n 0, 1) := by decide +kernel
theorem dL_law_323 : decode cL_law 323 = .ok (.iload_n 3, 1) := by decide +kernel
theorem dL_law_324 : decode cL_law 324 = .ok (.iconst 2, 1) := by decide +kernel
theorem dL_law_325 : decode cL_law 325 = .ok (.iadd, 1) := by decide +kernel
theorem dL_law_326 : decode cL_law 326 = .ok (.iaload, 1) := by decide +kernel
theorem dL_law_327 : decode cL_law 327 = .ok (.aload_n 0, 1) := by decide +kernel
theorem dL_law_328 : decode cL_law 328 = .ok (.iload_n 3, 1) := by decide +kernel
theorem dL_law_329 : decode cL_law 329 = .ok (.iconst 3, 1) := by decide +kernel
theorem dL_law_330 : decode cL_law 330 = .ok (.iadd, 1) := by decide +kernel
theorem dL_law_331 : decode cL_law 331 = .ok (.iaload, 1) := by decide +kernel
theorem dL_law_332 : decode cL_law 332 = .ok (.invokevirtual 31, 3) := by decide +kernel
theorem dL_law_335 : decode cL_law 335 = .ok (.if_icmp .eq 1448, 3) := by decide +kernel
set_option maxRecDepth 100000 in
set_option maxHeartbeats 8000000 in
theorem law_tray {C : Cx} {R : (Nat → St) → St → Prop} {oI oM b L : Nat} {xs : Nat → Int32} {a0 aT aR aH aS aM aN aK hm tm b0 b1 b2 b3 b4 b5 aL aD aC aQ aP : Nat → Nat} {cs : Nat → St} {ms : St} {x3 : Int32} (hC : Fx C cL_law 4 RL) (hR0 : xR C = room_1) (hX : LwX C b L xs) (hi : InS L x3) (hs : SP_tray R) (hr : R cs ms) (hk : LBack C R oI oM b x3) : G C 137 9713 4 (lwW oI oM a0 aT aR aH aS aM aN aK hm tm b0 b1 b2 b3 b4 b5 aL aD aC aQ aP (xy C) cs ms) 297 [(0, .ref b), (1, .ref oI), (2, .ref oM), (3, .int x3)] [] := by
  refine g_eq (σ' := (wX11 oI a0 (xy C) (cs 0) (wT (a0 3) (xy C) (cs 1) (wX9 (a0 5) aT (xy C) (cs 2) (wX6 (a0 6) aR (xy C) (cs 3) (wX8 (aR 0) (fun _ => a0 3) (xy C) (cs 4) (wX2 (a0 7) aH (xy C) (cs 5) (wX2 (a0 8) aS (xy C) (cs 6) (wX7 (a0 9) aM (xy C) (cs 7) (wX7 (a0 10) aN (xy C) (cs 8) (wX4 (a0 11) aK hm tm (xy C) (cs 9) (wX2 (hm 0) b0 (xy C) (cs 10) (wX2 (hm 1) b1 (xy C) (cs 11) (wX2 (hm 2) b2 (xy C) (cs 12) (wX7 (tm 0) b3 (xy C) (cs 13) (wX7 (tm 1) b4 (xy C) (cs 14) (wX7 (tm 2) b5 (xy C) (cs 15) (wX3 (a0 14) aL (xy C) (cs 16) (wX3 (a0 15) aD (xy C) (cs 17) (wX0 (a0 16) aC (xy C) (cs 18) (wX5 (a0 17) aQ (xy C) (cs 19) (wX12 oM aP (xy C) ms [])))))))))))))))))))))) rfl ?_
  refine g_aload_n (pc := 297) hC 1 dL_law_297 rfl rfl ?_
  refine g_aload_n (pc := 298) hC 0 dL_law_298 rfl rfl ?_
  refine g_iload_n (pc := 299) hC 3 dL_law_299 rfl rfl ?_
  refine g_iconst (pc := 300) (v := 1) hC dL_law_300 (by decide) ?_
  refine g_iadd (pc := 301) hC dL_law_301 ?_
  refine g_sld (pc := 302) hC hX hi.2.1 dL_law_302 ?_
  refine g_aload_n (pc := 303) hC 0 dL_law_303 rfl rfl ?_
  refine g_iload_n (pc := 304) hC 3 dL_law_304 rfl rfl ?_
  refine g_iconst (pc := 305) (v := 2) hC dL_law_305 (by decide) ?_
  refine g_iadd (pc := 306) hC dL_law_306 ?_
  refine g_sld (pc := 307) hC hX hi.2.2.1 dL_law_307 ?_
  refine g_aload_n (pc := 308) hC 0 dL_law_308 rfl rfl ?_
  refine g_iload_n (pc := 309) hC 3 dL_law_309 rfl rfl ?_
  refine g_iconst (pc := 310) (v := 3) hC dL_law_310 (by decide) ?_
  refine g_iadd (pc := 311) hC dL_law_311 ?_
  refine g_sld (pc := 312) hC hX hi.2.2.2.1 dL_law_312 ?_
  have h := hs (xs ((x3 + (1 : Int32))).toNatClampNeg) (xs ((x3 + (2 : Int32))).toNatClampNeg) (xs ((x3 + (3 : Int32))).toNatClampNeg) cs ms  hr
  refine g_swap (F := fun Z => (wX11 oI a0 (xy C) (cs 0) Z)) (X := (wX11 oI a0 (xy C) (cs 0) [])) (f := fun Z => (wT (a0 3) (xy C) (cs 1) Z)) (g := fun Z => (wX9 (a0 5) aT (xy C) (cs 2) Z)) (Y := (wX6 (a0 6) aR (xy C) (cs 3) (wX8 (aR 0) (fun _ => a0 3) (xy C) (cs 4) (wX2 (a0 7) aH (xy C) (cs 5) (wX2 (a0 8) aS (xy C) (cs 6) (wX7 (a0 9) aM (xy C) (cs 7) (wX7 (a0 10) aN (xy C) (cs 8) (wX4 (a0 11) aK hm tm (xy C) (cs 9) (wX2 (hm 0) b0 (xy C) (cs 10) (wX2 (hm 1) b1 (xy C) (cs 11) (wX2 (hm 2) b2 (xy C) (cs 12) (wX7 (tm 0) b3 (xy C) (cs 13) (wX7 (tm 1) b4 (xy C) (cs 14) (wX7 (tm 2) b5 (xy C) (cs 15) (wX3 (a0 14) aL (xy C) (cs 16) (wX3 (a0 15) aD (xy C) (cs 17) (wX0 (a0 16) aC (xy C) (cs 18) (wX5 (a0 17) aQ (xy C) (cs 19) (wX12 oM aP (xy C) ms []))))))))))))))))))) (fun _ => rfl) (fun _ => rfl) (fun _ => rfl) ?_
  refine g_callV_i (pc := 313) (wd := fun (u : St × St) Y => (wX11 oI a0 (xy C) u.1 (wX9 (a0 5) aT (xy C) u.2 Y))) (F := fun Z => Z) (X := []) (As := [.int (xs ((x3 + (1 : Int32))).toNatClampNeg), .int (xs ((x3 + (2 : Int32))).toNatClampNeg), .int (xs ((x3 + (3 : Int32))).toNatClampNeg)]) (rest := []) (u := ((cs 0), (cs 2))) hC (fun _ _ => rfl) (fun _ => rfl) (ctX11_tray h) wvX11_tray ml_L_27 (ci := 9) (q0 := 0) rfl rfl rfl rfl (by rw [hR0]; exact ⟨Nat.le_of_ble_eq_true rfl, Nat.le_of_ble_eq_true rfl⟩) (by rw [hR0]; exact ⟨Nat.le_of_ble_eq_true rfl, Nat.le_of_ble_eq_true rfl⟩) rfl (Nat.le_of_ble_eq_true rfl) dL_law_313 (fun r_3 u_4 h => ?_)
  obtain ⟨u_1, u_2⟩ := u_4
  refine g_aload_n (pc := 316) hC 2 dL_law_316 rfl rfl ?_
  refine g_aload_n (pc := 317) hC 0 dL_law_317 rfl rfl ?_
  refine g_iload_n (pc := 318) hC 3 dL_law_318 rfl rfl ?_
  refine g_iconst (pc := 319) (v := 1) hC dL_law_319 (by decide) ?_
  refine g_iadd (pc := 320) hC dL_law_320 ?_
  refine g_sld (pc := 321) hC hX hi.2.1 dL_law_321 ?_
  refine g_aload_n (pc := 322) hC 0 dL_law_322 rfl rfl ?_
  refine g_iload_n (pc := 323) hC 3 dL_law_323 rfl rfl ?_
  refine g_iconst (pc := 324) (v := 2) hC dL_law_324 (by decide) ?_
  refine g_iadd (pc := 325) hC dL_law_325 ?_
  refine g_sld (pc := 326) hC hX hi.2.2.1 dL_law_326 ?_
  refine g_aload_n (pc := 327) hC 0 dL_law_327 rfl rfl ?_
  refine g_iload_n (pc := 328) hC 3 dL_law_328 rfl rfl ?_
  refine g_iconst (pc := 329) (v := 3) hC dL_law_329 (by decide) ?_
  refine g_iadd (pc := 330) hC dL_law_330 ?_
  refine g_sld (pc := 331) hC hX hi.2.2.2.1 dL_law_331 ?_
  refine g_callV_i (pc := 332) (wd := fun (u : St) Y => (wX12 oM aP (xy C) u Y)) (F := fun Z => (wX11 oI a0 (xy C) u_1 (wX9 (a0 5) aT (xy C) u_2 (wT (a0 3) (xy C) (cs 1) (wX6 (a0 6) aR (xy C) (cs 3) (wX8 (aR 0) (fun _ => a0 3) (xy C) (cs 4) (wX2 (a0 7) aH (xy C) (cs 5) (wX2 (a0 8) aS (xy C) (cs 6) (wX7 (a0 9) aM (xy C) (cs 7) (wX7 (a0 10) aN (xy C) (cs 8) (wX4 (a0 11) aK hm tm (xy C) (cs 9) (wX2 (hm 0) b0 (xy C) (cs 10) (wX2 (hm 1) b1 (xy C) (cs 11) (wX2 (hm 2) b2 (xy C) (cs 12) (wX7 (tm 0) b3 (xy C) (cs 13) (wX7 (tm 1) b4 (xy C) (cs 14) (wX7 (tm 2) b5 (xy C) (cs 15) (wX3 (a0 14) aL (xy C) (cs 16) (wX3 (a0 15) aD (xy C) (cs 17) (wX0 (a0 16) aC (xy C) (cs 18) (wX5 (a0 17) aQ (xy C) (cs 19) Z))))))))))))))))))))) (X := (wX11 oI a0 (xy C) u_1 (wX9 (a0 5) aT (xy C) u_2 (wT (a0 3) (xy C) (cs 1) (wX6 (a0 6) aR (xy C) (cs 3) (wX8 (aR 0) (fun _ => a0 3) (xy C) (cs 4) (wX2 (a0 7) aH (xy C) (cs 5) (wX2 (a0 8) aS (xy C) (cs 6) (wX7 (a0 9) aM (xy C) (cs 7) (wX7 (a0 10) aN (xy C) (cs 8) (wX4 (a0 11) aK hm tm (xy C) (cs 9) (wX2 (hm 0) b0 (xy C) (cs 10) (wX2 (hm 1) b1 (xy C) (cs 11) (wX2 (hm 2) b2 (xy C) (cs 12) (wX7 (tm 0) b3 (xy C) (cs 13) (wX7 (tm 1) b4 (xy C) (cs 14) (wX7 (tm 2) b5 (xy C) (cs 15) (wX3 (a0 14) aL (xy C) (cs 16) (wX3 (a0 15) aD (xy C) (cs 17) (wX0 (a0 16) aC (xy C) (cs 18) (wX5 (a0 17) aQ (xy C) (cs 19) []))))))))))))))))))))) (As := [.int (xs ((x3 + (1 : Int32))).toNatClampNeg), .int (xs ((x3 + (2 : Int32))).toNatClampNeg), .int (xs ((x3 + (3 : Int32))).toNatClampNeg)]) (rest := [.int r_3]) (u := ms) hC (fun _ _ => rfl) (fun _ => rfl) (ctX12_tray h) wvX12_tray ml_L_31 (ci := 10) (q0 := 0) rfl rfl rfl rfl (by rw [hR0]; exact ⟨Nat.le_of_ble_eq_true rfl, Nat.le_of_ble_eq_true rfl⟩) (by rw [hR0]; exact ⟨Nat.le_of_ble_eq_true rfl, Nat.le_of_ble_eq_true rfl⟩) rfl (Nat.le_of_ble_eq_true rfl) dL_law_332 (fun r_6 u_5 h => ?_)
  refine g_icmp_eq (pc := 335) (tgt := 1783) hC dL_law_335 (by decide) (fun c => ?_) (fun c => absurd h.1 c)
  refine g_swap (F := fun Z => (wX11 oI a0 (xy C) u_1 Z)) (X := (wX11 oI a0 (xy C) u_1 [])) (f := fun Z => (wX9 (a0 5) aT (xy C) u_2 Z)) (g := fun Z => (wT (a0 3) (xy C) (cs 1) Z)) (Y := (wX6 (a0 6) aR (xy C) (cs 3) (wX8 (aR 0) (fun _ => a0 3) (xy C) (cs 4) (wX2 (a0 7) aH (xy C) (cs 5) (wX2 (a0 8) aS (xy C) (cs 6) (wX7 (a0 9) aM (xy C) (cs 7) (wX7 (a0 10) aN (xy C) (cs 8) (wX4 (a0 11) aK hm tm (xy C) (cs 9) (wX2 (hm 0) b0 (xy C) (cs 10) (wX2 (hm 1) b1 (xy C) (cs 11) (wX2 (hm 2) b2 (xy C) (cs 12) (wX7 (tm 0) b3 (xy C) (cs 13) (wX7 (tm 1) b4 (xy C) (cs 14) (wX7 (tm 2) b5 (xy C) (cs 15) (wX3 (a0 14) aL (xy C) (cs 16) (wX3 (a0 15) aD (xy C) (cs 17) (wX0 (a0 16) aC (xy C) (cs 18) (wX5 (a0 17) aQ (xy C) (cs 19) (wX12 oM aP (xy C) u_5 []))))))))))))))))))) (fun _ => rfl) (fun _ => rfl) (fun _ => rfl) ?_
  exact hk a0 aT aR aH aS aM aN aK hm tm b0 b1 b2 b3 b4 b5 aL aD aC aQ aP (va_up (va_up cs 0 u_1) 2 u_2) u_5 h.2
theorem dL_law_340 : decode cL_law 340 = .ok (.aload_n 1, 1) := by decide +kernel
theorem dL_law_341 : decode cL_law 341 = .ok (.aload_n 0, 1) := by decide +kernel
theorem dL_law_342 : decode cL_law 342 = .ok (.iload_n 3, 1) := by decide +kernel
theorem dL_law_343 : decode cL_law 343 = .ok (.iconst 1, 1) := by decide +kernel
theorem dL_law_344 : decode cL_law 344 = .ok (.iadd, 1) := by decide +kernel
theorem dL_law_345 : decode cL_law 345 = .ok (.iaload, 1) := by decide +kernel
theorem dL_law_346 : decode cL_law 346 = .ok (.aload_n 0, 1) := by decide +kernel
theorem dL_law_347 : decode cL_law 347 = .ok (.iload_n 3, 1) := by decide +kernel
theorem dL_law_348 : decode cL_law 348 = .ok (.iconst 2, 1) := by decide +kernel
theorem dL_law_349 : decode cL_law 349 = .ok (.iadd, 1) := by decide +kernel
theorem dL_law_350 : decode cL_law 350 = .ok (.iaload, 1) := by decide +kernel
theorem dL_law_351 : decode cL_law 351 = .ok (.aload_n 0, 1) := by decide +kernel
theorem dL_law_352 : decode cL_law 352 = .ok (.iload_n 3, 1) := by decide +kernel
theorem dL_law_353 : decode cL_law 353 = .ok (.iconst 3, 1) := by decide +kernel
theorem dL_law_354 : decode cL_law 354 = .ok (.iadd, 1) := by decide +kernel
theorem dL_law_355 : decode cL_law 355 = .ok (.iaload, 1) := by decide +kernel
theorem dL_law_356 : decode cL_law 356 = .ok (.i2l, 1) := by decide +kernel
theorem dL_law_357 : decode cL_law 357 = .ok (.bipush 32, 2) := by decide +kernel
theorem dL_law_359 : decode cL_law 359 = .ok (.lshl, 1) := by decide +kernel
theorem dL_law_360 : decode cL_law 360 = .ok (.aload_n 0, 1) := by decide +kernel
theorem dL_law_361 : decode cL_law 361 = .ok (.iload_n 3, 1) := by decide +kernel
theorem dL_law_362 : decode cL_law 362 = .ok (.iconst 4, 1) := by decide +kernel
theorem dL_law_363 : decode cL_law 363 = .ok (.iadd, 1) := by decide +kernel
theorem dL_law_364 : decode cL_law 364 = .ok (.iaload, 1) := by decide +kernel
theorem dL_law_365 : decode cL_law 365 = .ok (.i2l, 1) := by decide +kernel
theorem dL_law_366 : decode cL_law 366 = .ok (.ldc2_w 32, 3) := by decide +kernel
theorem dL_law_369 : decode cL_law 369 = .ok (.land, 1) := by decide +kernel
theorem dL_law_370 : decode cL_law 370 = .ok (.lor, 1) := by decide +kernel
theorem dL_law_371 : decode cL_law 371 = .ok (.invokevirtual 34, 3) := by decide +kernel
theorem dL_law_374 : decode cL_law 374 = .ok (.aload_n 2, 1) := by decide +kernel
theorem dL_law_375 : decode cL_law 375 = .ok (.aload_n 0, 1) := by decide +kernel
theorem dL_law_376 : decode cL_law 376 = .ok (.iload_n 3, 1) := by decide +kernel
theorem dL_law_377 : decode cL_law 377 = .ok (.iconst 1, 1) := by decide +kernel
theorem dL_law_378 : decode cL_law 378 = .ok (.iadd, 1) := by decide +kernel
theorem dL_law_379 : decode cL_law 379 = .ok (.iaload, 1) := by decide +kernel
theorem dL_law_380 : decode cL_law 380 = .ok (.aload_n 0, 1) := by decide +kernel
theorem dL_law_381 : decode cL_law 381 = .ok (.iload_n 3, 1) := by decide +kernel
theorem dL_law_382 : decode cL_law 382 = .ok (.iconst 2, 1) := by decide +kernel
theorem dL_law_383 : decode cL_law 383 = .ok (.iadd, 1) := by decide +kernel
theorem dL_law_384 : decode cL_law 384 = .ok (.iaload, 1) := by decide +kernel
theorem dL_law_385 : decode cL_law 385 = .ok (.aload_n 0, 1) := by decide +kernel
theorem dL_law_386 : decode cL_law 386 = .ok (.iload_n 3, 1) := by decide +kernel
theorem dL_law_387 : decode cL_law 387 = .ok (.iconst 3, 1) := by decide +kernel
theorem dL_law_388 : decode cL_law 388 = .ok (.iadd, 1) := by decide +kernel
theorem dL_law_389 : decode cL_law 389 = .ok (.iaload, 1) := by decide +kernel
theorem dL_law_390 : decode cL_law 390 = .ok (.i2l, 1) := by decide +kernel
theorem dL_law_391 : decode cL_law 391 = .ok (.bipush 32, 2) := by decide +kernel
theorem dL_law_393 : decode cL_law 393 = .ok (.lshl, 1) := by decide +kernel
theorem dL_law_394 : decode cL_law 394 = .ok (.aload_n 0, 1) := by decide +kernel
theorem dL_law_395 : decode cL_law 395 = .ok (.iload_n 3, 1) := by decide +kernel
theorem dL_law_396 : decode cL_law 396 = .ok (.iconst 4, 1) := by decide +kernel
theorem dL_law_397 : decode cL_law 397 = .ok (.iadd, 1) := by decide +kernel
theorem dL_law_398 : decode cL_law 398 = .ok (.iaload, 1) := by decide +kernel
theorem dL_law_399 : decode cL_law 399 = .ok (.i2l, 1) := by decide +kernel
theorem dL_law_400 : decode cL_law 400 = .ok (.ldc2_w 32, 3) := by decide +kernel
theorem dL_law_403 : decode cL_law 403 = .ok (.land, 1) := by decide +kernel
theorem dL_law_404 : decode cL_law 404 = .ok (.lor, 1) := by decide +kernel
theorem dL_law_405 : decode cL_law 405 = .ok (.invokevirtual 38, 3) := by decide +kernel
theorem dL_law_408 : decode cL_law 408 = .ok (.if_icmp .eq 1375, 3) := by decide +kernel
set_option maxRecDepth 100000 in
set_option maxHeartbeats 8000000 in
theorem law_write {C : Cx} {R : (Nat → St) → St → Prop} {oI oM b L : Nat} {xs : Nat → Int32} {a0 aT aR aH aS aM aN aK hm tm b0 b1 b2 b3 b4 b5 aL aD aC aQ aP : Nat → Nat} {cs : Nat → St} {ms : St} {x3 : Int32} (hC : Fx C cL_law 4 RL) (hR0 : xR C = room_1) (hX : LwX C b L xs) (hi : InS L x3) (hs : SP_write R) (hr : R cs ms) (hk : LBack C R oI oM b x3) : G C 137 9713 4 (lwW oI oM a0 aT aR aH aS aM aN aK hm tm b0 b1 b2 b3 b4 b5 aL aD aC aQ aP (xy C) cs ms) 340 [(0, .ref b), (1, .ref oI), (2, .ref oM), (3, .int x3)] [] := by
  refine g_eq (σ' := (wX11 oI a0 (xy C) (cs 0) (wT (a0 3) (xy C) (cs 1) (wX9 (a0 5) aT (xy C) (cs 2) (wX6 (a0 6) aR (xy C) (cs 3) (wX8 (aR 0) (fun _ => a0 3) (xy C) (cs 4) (wX2 (a0 7) aH (xy C) (cs 5) (wX2 (a0 8) aS (xy C) (cs 6) (wX7 (a0 9) aM (xy C) (cs 7) (wX7 (a0 10) aN (xy C) (cs 8) (wX4 (a0 11) aK hm tm (xy C) (cs 9) (wX2 (hm 0) b0 (xy C) (cs 10) (wX2 (hm 1) b1 (xy C) (cs 11) (wX2 (hm 2) b2 (xy C) (cs 12) (wX7 (tm 0) b3 (xy C) (cs 13) (wX7 (tm 1) b4 (xy C) (cs 14) (wX7 (tm 2) b5 (xy C) (cs 15) (wX3 (a0 14) aL (xy C) (cs 16) (wX3 (a0 15) aD (xy C) (cs 17) (wX0 (a0 16) aC (xy C) (cs 18) (wX5 (a0 17) aQ (xy C) (cs 19) (wX12 oM aP (xy C) ms [])))))))))))))))))))))) rfl ?_
  refine g_aload_n (pc := 340) hC 1 dL_law_340 rfl rfl ?_
  refine g_aload_n (pc := 341) hC 0 dL_law_341 rfl rfl ?_
  refine g_iload_n (pc := 342) hC 3 dL_law_342 rfl rfl ?_
  refine g_iconst (pc := 343) (v := 1) hC dL_law_343 (by decide) ?_
  refine g_iadd (pc := 344) hC dL_law_344 ?_
  refine g_sld (pc := 345) hC hX hi.2.1 dL_law_345 ?_
  refine g_aload_n (pc := 346) hC 0 dL_law_346 rfl rfl ?_
  refine g_iload_n (pc := 347) hC 3 dL_law_347 rfl rfl ?_
  refine g_iconst (pc := 348) (v := 2) hC dL_law_348 (by decide) ?_
  refine g_iadd (pc := 349) hC dL_law_349 ?_
  refine g_sld (pc := 350) hC hX hi.2.2.1 dL_law_350 ?_
  refine g_aload_n (pc := 351) hC 0 dL_law_351 rfl rfl ?_
  refine g_iload_n (pc := 352) hC 3 dL_law_352 rfl rfl ?_
  refine g_iconst (pc := 353) (v := 3) hC dL_law_353 (by decide) ?_
  refine g_iadd (pc := 354) hC dL_law_354 ?_
  refine g_sld (pc := 355) hC hX hi.2.2.2.1 dL_law_355 ?_
  refine g_i2l (pc := 356) hC dL_law_356 ?_
  refine g_bipush (pc := 357) (v := 32) hC dL_law_357 (by decide) ?_
  refine g_lshl (pc := 359) hC dL_law_359 ?_
  refine g_aload_n (pc := 360) hC 0 dL_law_360 rfl rfl ?_
  refine g_iload_n (pc := 361) hC 3 dL_law_361 rfl rfl ?_
  refine g_iconst (pc := 362) (v := 4) hC dL_law_362 (by decide) ?_
  refine g_iadd (pc := 363) hC dL_law_363 ?_
  refine g_sld (pc := 364) hC hX hi.2.2.2.2.1 dL_law_364 ?_
  refine g_i2l (pc := 365) hC dL_law_365 ?_
  refine g_ldc2 (pc := 366) hC cn_L_32 dL_law_366 ?_
  refine g_land (pc := 369) hC dL_law_369 ?_
  refine g_lor (pc := 370) hC dL_law_370 ?_
  have h := hs (xs ((x3 + (1 : Int32))).toNatClampNeg) (xs ((x3 + (2 : Int32))).toNatClampNeg) ((((xs ((x3 + (3 : Int32))).toNatClampNeg)).toInt64 <<< (((32 : Int32)).toInt64 &&& 63)) ||| (((xs ((x3 + (4 : Int32))).toNatClampNeg)).toInt64 &&& (4294967295 : Int64))) cs ms  hr
  refine g_swap (F := fun Z => (wX11 oI a0 (xy C) (cs 0) Z)) (X := (wX11 oI a0 (xy C) (cs 0) [])) (f := fun Z => (wT (a0 3) (xy C) (cs 1) Z)) (g := fun Z => (wX9 (a0 5) aT (xy C) (cs 2) Z)) (Y := (wX6 (a0 6) aR (xy C) (cs 3) (wX8 (aR 0) (fun _ => a0 3) (xy C) (cs 4) (wX2 (a0 7) aH (xy C) (cs 5) (wX2 (a0 8) aS (xy C) (cs 6) (wX7 (a0 9) aM (xy C) (cs 7) (wX7 (a0 10) aN (xy C) (cs 8) (wX4 (a0 11) aK hm tm (xy C) (cs 9) (wX2 (hm 0) b0 (xy C) (cs 10) (wX2 (hm 1) b1 (xy C) (cs 11) (wX2 (hm 2) b2 (xy C) (cs 12) (wX7 (tm 0) b3 (xy C) (cs 13) (wX7 (tm 1) b4 (xy C) (cs 14) (wX7 (tm 2) b5 (xy C) (cs 15) (wX3 (a0 14) aL (xy C) (cs 16) (wX3 (a0 15) aD (xy C) (cs 17) (wX0 (a0 16) aC (xy C) (cs 18) (wX5 (a0 17) aQ (xy C) (cs 19) (wX12 oM aP (xy C) ms []))))))))))))))))))) (fun _ => rfl) (fun _ => rfl) (fun _ => rfl) ?_
  refine g_callV_i (pc := 371) (wd := fun (u : St × St) Y => (wX11 oI a0 (xy C) u.1 (wX9 (a0 5) aT (xy C) u.2 Y))) (F := fun Z => Z) (X := []) (As := [.int (xs ((x3 + (1 : Int32))).toNatClampNeg), .int (xs ((x3 + (2 : Int32))).toNatClampNeg), .long ((((xs ((x3 + (3 : Int32))).toNatClampNeg)).toInt64 <<< (((32 : Int32)).toInt64 &&& 63)) ||| (((xs ((x3 + (4 : Int32))).toNatClampNeg)).toInt64 &&& (4294967295 : Int64)))]) (rest := []) (u := ((cs 0), (cs 2))) hC (fun _ _ => rfl) (fun _ => rfl) (ctX11_write h) wvX11_write ml_L_34 (ci := 9) (q0 := 0) rfl rfl rfl rfl (by rw [hR0]; exact ⟨Nat.le_of_ble_eq_true rfl, Nat.le_of_ble_eq_true rfl⟩) (by rw [hR0]; exact ⟨Nat.le_of_ble_eq_true rfl, Nat.le_of_ble_eq_true rfl⟩) rfl (Nat.le_of_ble_eq_true rfl) dL_law_371 (fun r_3 u_4 h => ?_)
  obtain ⟨u_1, u_2⟩ := u_4
  refine g_aload_n (pc := 374) hC 2 dL_law_374 rfl rfl ?_
  refine g_aload_n (pc := 375) hC 0 dL_law_375 rfl rfl ?_
  refine g_iload_n (pc := 376) hC 3 dL_law_376 rfl rfl ?_
  refine g_iconst (pc := 377) (v := 1) hC dL_law_377 (by decide) ?_
  refine g_iadd (pc := 378) hC dL_law_378 ?_
  refine g_sld (pc := 379) hC hX hi.2.1 dL_law_379 ?_
  refine g_aload_n (pc := 380) hC 0 dL_law_380 rfl rfl ?_
  refine g_iload_n (pc := 381) hC 3 dL_law_381 rfl rfl ?_
  refine g_iconst (pc := 382) (v := 2) hC dL_law_382 (by decide) ?_
  refine g_iadd (pc := 383) hC dL_law_383 ?_
  refine g_sld (pc := 384) hC hX hi.2.2.1 dL_law_384 ?_
  refine g_aload_n (pc := 385) hC 0 dL_law_385 rfl rfl ?_
  refine g_iload_n (pc := 386) hC 3 dL_law_386 rfl rfl ?_
  refine g_iconst (pc := 387) (v := 3) hC dL_law_387 (by decide) ?_
  refine g_iadd (pc := 388) hC dL_law_388 ?_
  refine g_sld (pc := 389) hC hX hi.2.2.2.1 dL_law_389 ?_
  refine g_i2l (pc := 390) hC dL_law_390 ?_
  refine g_bipush (pc := 391) (v := 32) hC dL_law_391 (by decide) ?_
  refine g_lshl (pc := 393) hC dL_law_393 ?_
  refine g_aload_n (pc := 394) hC 0 dL_law_394 rfl rfl ?_
  refine g_iload_n (pc := 395) hC 3 dL_law_395 rfl rfl ?_
  refine g_iconst (pc := 396) (v := 4) hC dL_law_396 (by decide) ?_
  refine g_iadd (pc := 397) hC dL_law_397 ?_
  refine g_sld (pc := 398) hC hX hi.2.2.2.2.1 dL_law_398 ?_
  refine g_i2l (pc := 399) hC dL_law_399 ?_
  refine g_ldc2 (pc := 400) hC cn_L_32 dL_law_400 ?_
  refine g_land (pc := 403) hC dL_law_403 ?_
  refine g_lor (pc := 404) hC dL_law_404 ?_
  refine g_callV_i (pc := 405) (wd := fun (u : St) Y => (wX12 oM aP (xy C) u Y)) (F := fun Z => (wX11 oI a0 (xy C) u_1 (wX9 (a0 5) aT (xy C) u_2 (wT (a0 3) (xy C) (cs 1) (wX6 (a0 6) aR (xy C) (cs 3) (wX8 (aR 0) (fun _ => a0 3) (xy C) (cs 4) (wX2 (a0 7) aH (xy C) (cs 5) (wX2 (a0 8) aS (xy C) (cs 6) (wX7 (a0 9) aM (xy C) (cs 7) (wX7 (a0 10) aN (xy C) (cs 8) (wX4 (a0 11) aK hm tm (xy C) (cs 9) (wX2 (hm 0) b0 (xy C) (cs 10) (wX2 (hm 1) b1 (xy C) (cs 11) (wX2 (hm 2) b2 (xy C) (cs 12) (wX7 (tm 0) b3 (xy C) (cs 13) (wX7 (tm 1) b4 (xy C) (cs 14) (wX7 (tm 2) b5 (xy C) (cs 15) (wX3 (a0 14) aL (xy C) (cs 16) (wX3 (a0 15) aD (xy C) (cs 17) (wX0 (a0 16) aC (xy C) (cs 18) (wX5 (a0 17) aQ (xy C) (cs 19) Z))))))))))))))))))))) (X := (wX11 oI a0 (xy C) u_1 (wX9 (a0 5) aT (xy C) u_2 (wT (a0 3) (xy C) (cs 1) (wX6 (a0 6) aR (xy C) (cs 3) (wX8 (aR 0) (fun _ => a0 3) (xy C) (cs 4) (wX2 (a0 7) aH (xy C) (cs 5) (wX2 (a0 8) aS (xy C) (cs 6) (wX7 (a0 9) aM (xy C) (cs 7) (wX7 (a0 10) aN (xy C) (cs 8) (wX4 (a0 11) aK hm tm (xy C) (cs 9) (wX2 (hm 0) b0 (xy C) (cs 10) (wX2 (hm 1) b1 (xy C) (cs 11) (wX2 (hm 2) b2 (xy C) (cs 12) (wX7 (tm 0) b3 (xy C) (cs 13) (wX7 (tm 1) b4 (xy C) (cs 14) (wX7 (tm 2) b5 (xy C) (cs 15) (wX3 (a0 14) aL (xy C) (cs 16) (wX3 (a0 15) aD (xy C) (cs 17) (wX0 (a0 16) aC (xy C) (cs 18) (wX5 (a0 17) aQ (xy C) (cs 19) []))))))))))))))))))))) (As := [.int (xs ((x3 + (1 : Int32))).toNatClampNeg), .int (xs ((x3 + (2 : Int32))).toNatClampNeg), .long ((((xs ((x3 + (3 : Int32))).toNatClampNeg)).toInt64 <<< (((32 : Int32)).toInt64 &&& 63)) ||| (((xs ((x3 + (4 : Int32))).toNatClampNeg)).toInt64 &&& (4294967295 : Int64)))]) (rest := [.int r_3]) (u := ms) hC (fun _ _ => rfl) (fun _ => rfl) (ctX12_write h) wvX12_write ml_L_38 (ci := 10) (q0 := 0) rfl rfl rfl rfl (by rw [hR0]; exact ⟨Nat.le_of_ble_eq_true rfl, Nat.le_of_ble_eq_true rfl⟩) (by rw [hR0]; exact ⟨Nat.le_of_ble_eq_true rfl, Nat.le_of_ble_eq_true rfl⟩) rfl (Nat.le_of_ble_eq_true rfl) dL_law_405 (fun r_6 u_5 h => ?_)
  refine g_icmp_eq (pc := 408) (tgt := 1783) hC dL_law_408 (by decide) (fun c => ?_) (fun c => absurd h.1 c)
  refine g_swap (F := fun Z => (wX11 oI a0 (xy C) u_1 Z)) (X := (wX11 oI a0 (xy C) u_1 [])) (f := fun Z => (wX9 (a0 5) aT (xy C) u_2 Z)) (g := fun Z => (wT (a0 3) (xy C) (cs 1) Z)) (Y := (wX6 (a0 6) aR (xy C) (cs 3) (wX8 (aR 0) (fun _ => a0 3) (xy C) (cs 4) (wX2 (a0 7) aH (xy C) (cs 5) (wX2 (a0 8) aS (xy C) (cs 6) (wX7 (a0 9) aM (xy C) (cs 7) (wX7 (a0 10) aN (xy C) (cs 8) (wX4 (a0 11) aK hm tm (xy C) (cs 9) (wX2 (hm 0) b0 (xy C) (cs 10) (wX2 (hm 1) b1 (xy C) (cs 11) (wX2 (hm 2) b2 (xy C) (cs 12) (wX7 (tm 0) b3 (xy C) (cs 13) (wX7 (tm 1) b4 (xy C) (cs 14) (wX7 (tm 2) b5 (xy C) (cs 15) (wX3 (a0 14) aL (xy C) (cs 16) (wX3 (a0 15) aD (xy C) (cs 17) (wX0 (a0 16) aC (xy C) (cs 18) (wX5 (a0 17) aQ (xy C) (cs 19) (wX12 oM aP (xy C) u_5 []))))))))))))))))))) (fun _ => rfl) (fun _ => rfl) (fun _ => rfl) ?_
  exact hk a0 aT aR aH aS aM aN aK hm tm b0 b1 b2 b3 b4 b5 aL aD aC aQ aP (va_up (va_up cs 0 u_1) 2 u_2) u_5 h.2
theorem dL_law_413 : decode cL_law 413 = .ok (.aload_n 1, 1) := by decide +kernel
theorem dL_law_414 : decode cL_law 414 = .ok (.aload_n 0, 1) := by decide +kernel
theorem dL_law_415 : decode cL_law 415 = .ok (.iload_n 3, 1) := by decide +kernel
theorem dL_law_416 : decode cL_law 416 = .ok (.iconst 1, 1) := by decide +kernel
theorem dL_law_417 : decode cL_law 417 = .ok (.iadd, 1) := by decide +kernel
theorem dL_law_418 : decode cL_law 418 = .ok (.iaload, 1) := by decide +kernel
theorem dL_law_419 : decode cL_law 419 = .ok (.aload_n 0, 1) := by decide +kernel
theorem dL_law_420 : decode cL_law 420 = .ok (.iload_n 3, 1) := by decide +kernel
theorem dL_law_421 : decode cL_law 421 = .ok (.iconst 2, 1) := by decide +kernel
theorem dL_law_422 : decode cL_law 422 = .ok (.iadd, 1) := by decide +kernel
theorem dL_law_423 : decode cL_law 423 = .ok (.iaload, 1) := by decide +kernel
theorem dL_law_424 : decode cL_law 424 = .ok (.invokevirtual 39, 3) := by decide +kernel
theorem dL_law_427 : decode cL_law 427 = .ok (.aload_n 2, 1) := by decide +kernel
theorem dL_law_428 : decode cL_law 428 = .ok (.aload_n 0, 1) := by decide +kernel
theorem dL_law_429 : decode cL_law 429 = .ok (.iload_n 3, 1) := by decide +kernel
theorem dL_law_430 : decode cL_law 430 = .ok (.iconst 1, 1) := by decide +kernel
theorem dL_law_431 : decode cL_law 431 = .ok (.iadd, 1) := by decide +kernel
theorem dL_law_432 : decode cL_law 432 = .ok (.iaload, 1) := by decide +kernel
theorem dL_law_433 : decode cL_law 433 = .ok (.aload_n 0, 1) := by decide +kernel
theorem dL_law_434 : decode cL_law 434 = .ok (.iload_n 3, 1) := by decide +kernel
theorem dL_law_435 : decode cL_law 435 = .ok (.iconst 2, 1) := by decide +kernel
theorem dL_law_436 : decode cL_law 436 = .ok (.iadd, 1) := by decide +kernel
theorem dL_law_437 : decode cL_law 437 = .ok (.iaload, 1) := by decide +kernel
theorem dL_law_438 : decode cL_law 438 = .ok (.invokevirtual 43, 3) := by decide +kernel
theorem dL_law_441 : decode cL_law 441 = .ok (.lcmp, 1) := by decide +kernel
theorem dL_law_442 : decode cL_law 442 = .ok (.ifCond .eq 1341, 3) := by decide +kernel
set_option maxRecDepth 100000 in
set_option maxHeartbeats 8000000 in
theorem law_read {C : Cx} {R : (Nat → St) → St → Prop} {oI oM b L : Nat} {xs : Nat → Int32} {a0 aT aR aH aS aM aN aK hm tm b0 b1 b2 b3 b4 b5 aL aD aC aQ aP : Nat → Nat} {cs : Nat → St} {ms : St} {x3 : Int32} (hC : Fx C cL_law 4 RL) (hR0 : xR C = room_1) (hX : LwX C b L xs) (hi : InS L x3) (hs : SP_read R) (hr : R cs ms) (hk : LBack C R oI oM b x3) : G C 137 9713 4 (lwW oI oM a0 aT aR aH aS aM aN aK hm tm b0 b1 b2 b3 b4 b5 aL aD aC aQ aP (xy C) cs ms) 413 [(0, .ref b), (1, .ref oI), (2, .ref oM), (3, .int x3)] [] := by
  refine g_eq (σ' := (wX11 oI a0 (xy C) (cs 0) (wT (a0 3) (xy C) (cs 1) (wX9 (a0 5) aT (xy C) (cs 2) (wX6 (a0 6) aR (xy C) (cs 3) (wX8 (aR 0) (fun _ => a0 3) (xy C) (cs 4) (wX2 (a0 7) aH (xy C) (cs 5) (wX2 (a0 8) aS (xy C) (cs 6) (wX7 (a0 9) aM (xy C) (cs 7) (wX7 (a0 10) aN (xy C) (cs 8) (wX4 (a0 11) aK hm tm (xy C) (cs 9) (wX2 (hm 0) b0 (xy C) (cs 10) (wX2 (hm 1) b1 (xy C) (cs 11) (wX2 (hm 2) b2 (xy C) (cs 12) (wX7 (tm 0) b3 (xy C) (cs 13) (wX7 (tm 1) b4 (xy C) (cs 14) (wX7 (tm 2) b5 (xy C) (cs 15) (wX3 (a0 14) aL (xy C) (cs 16) (wX3 (a0 15) aD (xy C) (cs 17) (wX0 (a0 16) aC (xy C) (cs 18) (wX5 (a0 17) aQ (xy C) (cs 19) (wX12 oM aP (xy C) ms [])))))))))))))))))))))) rfl ?_
  refine g_aload_n (pc := 413) hC 1 dL_law_413 rfl rfl ?_
  refine g_aload_n (pc := 414) hC 0 dL_law_414 rfl rfl ?_
  refine g_iload_n (pc := 415) hC 3 dL_law_415 rfl rfl ?_
  refine g_iconst (pc := 416) (v := 1) hC dL_law_416 (by decide) ?_
  refine g_iadd (pc := 417) hC dL_law_417 ?_
  refine g_sld (pc := 418) hC hX hi.2.1 dL_law_418 ?_
  refine g_aload_n (pc := 419) hC 0 dL_law_419 rfl rfl ?_
  refine g_iload_n (pc := 420) hC 3 dL_law_420 rfl rfl ?_
  refine g_iconst (pc := 421) (v := 2) hC dL_law_421 (by decide) ?_
  refine g_iadd (pc := 422) hC dL_law_422 ?_
  refine g_sld (pc := 423) hC hX hi.2.2.1 dL_law_423 ?_
  have h := hs (xs ((x3 + (1 : Int32))).toNatClampNeg) (xs ((x3 + (2 : Int32))).toNatClampNeg) cs ms  hr
  refine g_swap (F := fun Z => (wX11 oI a0 (xy C) (cs 0) Z)) (X := (wX11 oI a0 (xy C) (cs 0) [])) (f := fun Z => (wT (a0 3) (xy C) (cs 1) Z)) (g := fun Z => (wX9 (a0 5) aT (xy C) (cs 2) Z)) (Y := (wX6 (a0 6) aR (xy C) (cs 3) (wX8 (aR 0) (fun _ => a0 3) (xy C) (cs 4) (wX2 (a0 7) aH (xy C) (cs 5) (wX2 (a0 8) aS (xy C) (cs 6) (wX7 (a0 9) aM (xy C) (cs 7) (wX7 (a0 10) aN (xy C) (cs 8) (wX4 (a0 11) aK hm tm (xy C) (cs 9) (wX2 (hm 0) b0 (xy C) (cs 10) (wX2 (hm 1) b1 (xy C) (cs 11) (wX2 (hm 2) b2 (xy C) (cs 12) (wX7 (tm 0) b3 (xy C) (cs 13) (wX7 (tm 1) b4 (xy C) (cs 14) (wX7 (tm 2) b5 (xy C) (cs 15) (wX3 (a0 14) aL (xy C) (cs 16) (wX3 (a0 15) aD (xy C) (cs 17) (wX0 (a0 16) aC (xy C) (cs 18) (wX5 (a0 17) aQ (xy C) (cs 19) (wX12 oM aP (xy C) ms []))))))))))))))))))) (fun _ => rfl) (fun _ => rfl) (fun _ => rfl) ?_
  refine g_callV_l (pc := 424) (wd := fun (u : St × St) Y => (wX11 oI a0 (xy C) u.1 (wX9 (a0 5) aT (xy C) u.2 Y))) (F := fun Z => Z) (X := []) (As := [.int (xs ((x3 + (1 : Int32))).toNatClampNeg), .int (xs ((x3 + (2 : Int32))).toNatClampNeg)]) (rest := []) (u := ((cs 0), (cs 2))) hC (fun _ _ => rfl) (fun _ => rfl) (ctX11_read h) wvX11_read ml_L_39 (ci := 9) (q0 := 0) rfl rfl rfl rfl (by rw [hR0]; exact ⟨Nat.le_of_ble_eq_true rfl, Nat.le_of_ble_eq_true rfl⟩) (by rw [hR0]; exact ⟨Nat.le_of_ble_eq_true rfl, Nat.le_of_ble_eq_true rfl⟩) rfl (Nat.le_of_ble_eq_true rfl) dL_law_424 (fun r_3 u_4 h => ?_)
  obtain ⟨u_1, u_2⟩ := u_4
  refine g_aload_n (pc := 427) hC 2 dL_law_427 rfl rfl ?_
  refine g_aload_n (pc := 428) hC 0 dL_law_428 rfl rfl ?_
  refine g_iload_n (pc := 429) hC 3 dL_law_429 rfl rfl ?_
  refine g_iconst (pc := 430) (v := 1) hC dL_law_430 (by decide) ?_
  refine g_iadd (pc := 431) hC dL_law_431 ?_
  refine g_sld (pc := 432) hC hX hi.2.1 dL_law_432 ?_
  refine g_aload_n (pc := 433) hC 0 dL_law_433 rfl rfl ?_
  refine g_iload_n (pc := 434) hC 3 dL_law_434 rfl rfl ?_
  refine g_iconst (pc := 435) (v := 2) hC dL_law_435 (by decide) ?_
  refine g_iadd (pc := 436) hC dL_law_436 ?_
  refine g_sld (pc := 437) hC hX hi.2.2.1 dL_law_437 ?_
  refine g_callV_l (pc := 438) (wd := fun (u : St) Y => (wX12 oM aP (xy C) u Y)) (F := fun Z => (wX11 oI a0 (xy C) u_1 (wX9 (a0 5) aT (xy C) u_2 (wT (a0 3) (xy C) (cs 1) (wX6 (a0 6) aR (xy C) (cs 3) (wX8 (aR 0) (fun _ => a0 3) (xy C) (cs 4) (wX2 (a0 7) aH (xy C) (cs 5) (wX2 (a0 8) aS (xy C) (cs 6) (wX7 (a0 9) aM (xy C) (cs 7) (wX7 (a0 10) aN (xy C) (cs 8) (wX4 (a0 11) aK hm tm (xy C) (cs 9) (wX2 (hm 0) b0 (xy C) (cs 10) (wX2 (hm 1) b1 (xy C) (cs 11) (wX2 (hm 2) b2 (xy C) (cs 12) (wX7 (tm 0) b3 (xy C) (cs 13) (wX7 (tm 1) b4 (xy C) (cs 14) (wX7 (tm 2) b5 (xy C) (cs 15) (wX3 (a0 14) aL (xy C) (cs 16) (wX3 (a0 15) aD (xy C) (cs 17) (wX0 (a0 16) aC (xy C) (cs 18) (wX5 (a0 17) aQ (xy C) (cs 19) Z))))))))))))))))))))) (X := (wX11 oI a0 (xy C) u_1 (wX9 (a0 5) aT (xy C) u_2 (wT (a0 3) (xy C) (cs 1) (wX6 (a0 6) aR (xy C) (cs 3) (wX8 (aR 0) (fun _ => a0 3) (xy C) (cs 4) (wX2 (a0 7) aH (xy C) (cs 5) (wX2 (a0 8) aS (xy C) (cs 6) (wX7 (a0 9) aM (xy C) (cs 7) (wX7 (a0 10) aN (xy C) (cs 8) (wX4 (a0 11) aK hm tm (xy C) (cs 9) (wX2 (hm 0) b0 (xy C) (cs 10) (wX2 (hm 1) b1 (xy C) (cs 11) (wX2 (hm 2) b2 (xy C) (cs 12) (wX7 (tm 0) b3 (xy C) (cs 13) (wX7 (tm 1) b4 (xy C) (cs 14) (wX7 (tm 2) b5 (xy C) (cs 15) (wX3 (a0 14) aL (xy C) (cs 16) (wX3 (a0 15) aD (xy C) (cs 17) (wX0 (a0 16) aC (xy C) (cs 18) (wX5 (a0 17) aQ (xy C) (cs 19) []))))))))))))))))))))) (As := [.int (xs ((x3 + (1 : Int32))).toNatClampNeg), .int (xs ((x3 + (2 : Int32))).toNatClampNeg)]) (rest := [.long r_3]) (u := ms) hC (fun _ _ => rfl) (fun _ => rfl) (ctX12_read h) wvX12_read ml_L_43 (ci := 10) (q0 := 0) rfl rfl rfl rfl (by rw [hR0]; exact ⟨Nat.le_of_ble_eq_true rfl, Nat.le_of_ble_eq_true rfl⟩) (by rw [hR0]; exact ⟨Nat.le_of_ble_eq_true rfl, Nat.le_of_ble_eq_true rfl⟩) rfl (Nat.le_of_ble_eq_true rfl) dL_law_438 (fun r_6 u_5 h => ?_)
  refine g_lcmp (pc := 441) hC dL_law_441 ?_
  refine g_if_eq (pc := 442) (tgt := 1783) hC dL_law_442 (by decide) (fun c => ?_) (fun c => absurd (by rw [h.1]; exact lg_self _) c)
  refine g_swap (F := fun Z => (wX11 oI a0 (xy C) u_1 Z)) (X := (wX11 oI a0 (xy C) u_1 [])) (f := fun Z => (wX9 (a0 5) aT (xy C) u_2 Z)) (g := fun Z => (wT (a0 3) (xy C) (cs 1) Z)) (Y := (wX6 (a0 6) aR (xy C) (cs 3) (wX8 (aR 0) (fun _ => a0 3) (xy C) (cs 4) (wX2 (a0 7) aH (xy C) (cs 5) (wX2 (a0 8) aS (xy C) (cs 6) (wX7 (a0 9) aM (xy C) (cs 7) (wX7 (a0 10) aN (xy C) (cs 8) (wX4 (a0 11) aK hm tm (xy C) (cs 9) (wX2 (hm 0) b0 (xy C) (cs 10) (wX2 (hm 1) b1 (xy C) (cs 11) (wX2 (hm 2) b2 (xy C) (cs 12) (wX7 (tm 0) b3 (xy C) (cs 13) (wX7 (tm 1) b4 (xy C) (cs 14) (wX7 (tm 2) b5 (xy C) (cs 15) (wX3 (a0 14) aL (xy C) (cs 16) (wX3 (a0 15) aD (xy C) (cs 17) (wX0 (a0 16) aC (xy C) (cs 18) (wX5 (a0 17) aQ (xy C) (cs 19) (wX12 oM aP (xy C) u_5 []))))))))))))))))))) (fun _ => rfl) (fun _ => rfl) (fun _ => rfl) ?_
  exact hk a0 aT aR aH aS aM aN aK hm tm b0 b1 b2 b3 b4 b5 aL aD aC aQ aP (va_up (va_up cs 0 u_1) 2 u_2) u_5 h.2
theorem dL_law_447 : decode cL_law 447 = .ok (.aload_n 1, 1) := by decide +kernel
theorem dL_law_448 : decode cL_law 448 = .ok (.aload_n 0, 1) := by decide +kernel
theorem dL_law_449 : decode cL_law 449 = .ok (.iload_n 3, 1) := by decide +kernel
theorem dL_law_450 : decode cL_law 450 = .ok (.iconst 1, 1) := by decide +kernel
theorem dL_law_451 : decode cL_law 451 = .ok (.iadd, 1) := by decide +kernel
theorem dL_law_452 : decode cL_law 452 = .ok (.iaload, 1) := by decide +kernel
theorem dL_law_453 : decode cL_law 453 = .ok (.aload_n 0, 1) := by decide +kernel
theorem dL_law_454 : decode cL_law 454 = .ok (.iload_n 3, 1) := by decide +kernel
theorem dL_law_455 : decode cL_law 455 = .ok (.iconst 2, 1) := by decide +kernel
theorem dL_law_456 : decode cL_law 456 = .ok (.iadd, 1) := by decide +kernel
theorem dL_law_457 : decode cL_law 457 = .ok (.iaload, 1) := by decide +kernel
theorem dL_law_458 : decode cL_law 458 = .ok (.aload_n 0, 1) := by decide +kernel
theorem dL_law_459 : decode cL_law 459 = .ok (.iload_n 3, 1) := by decide +kernel
theorem dL_law_460 : decode cL_law 460 = .ok (.iconst 3, 1) := by decide +kernel
theorem dL_law_461 : decode cL_law 461 = .ok (.iadd, 1) := by decide +kernel
theorem dL_law_462 : decode cL_law 462 = .ok (.iaload, 1) := by decide +kernel
theorem dL_law_463 : decode cL_law 463 = .ok (.aload_n 0, 1) := by decide +kernel
theorem dL_law_464 : decode cL_law 464 = .ok (.iload_n 3, 1) := by decide +kernel
theorem dL_law_465 : decode cL_law 465 = .ok (.iconst 4, 1) := by decide +kernel
theorem dL_law_466 : decode cL_law 466 = .ok (.iadd, 1) := by decide +kernel
theorem dL_law_467 : decode cL_law 467 = .ok (.iaload, 1) := by decide +kernel
theorem dL_law_468 : decode cL_law 468 = .ok (.aload_n 0, 1) := by decide +kernel
theorem dL_law_469 : decode cL_law 469 = .ok (.iload_n 3, 1) := by decide +kernel
theorem dL_law_470 : decode cL_law 470 = .ok (.iconst 5, 1) := by decide +kernel
theorem dL_law_471 : decode cL_law 471 = .ok (.iadd, 1) := by decide +kernel
theorem dL_law_472 : decode cL_law 472 = .ok (.iaload, 1) := by decide +kernel
theorem dL_law_473 : decode cL_law 473 = .ok (.invokevirtual 44, 3) := by decide +kernel
theorem dL_law_476 : decode cL_law 476 = .ok (.aload_n 2, 1) := by decide +kernel
theorem dL_law_477 : decode cL_law 477 = .ok (.aload_n 0, 1) := by decide +kernel
theorem dL_law_478 : decode cL_law 478 = .ok (.iload_n 3, 1) := by decide +kernel
theorem dL_law_479 : decode cL_law 479 = .ok (.iconst 1, 1) := by decide +kernel
theorem dL_law_480 : decode cL_law 480 = .ok (.iadd, 1) := by decide +kernel
theorem dL_law_481 : decode cL_law 481 = .ok (.iaload, 1) := by decide +kernel
theorem dL_law_482 : decode cL_law 482 = .ok (.aload_n 0, 1) := by decide +kernel
theorem dL_law_483 : decode cL_law 483 = .ok (.iload_n 3, 1) := by decide +kernel
theorem dL_law_484 : decode cL_law 484 = .ok (.iconst 2, 1) := by decide +kernel
theorem dL_law_485 : decode cL_law 485 = .ok (.iadd, 1) := by decide +kernel
theorem dL_law_486 : decode cL_law 486 = .ok (.iaload, 1) := by decide +kernel
theorem dL_law_487 : decode cL_law 487 = .ok (.aload_n 0, 1) := by decide +kernel
theorem dL_law_488 : decode cL_law 488 = .ok (.iload_n 3, 1) := by decide +kernel
theorem dL_law_489 : decode cL_law 489 = .ok (.iconst 3, 1) := by decide +kernel
theorem dL_law_490 : decode cL_law 490 = .ok (.iadd, 1) := by decide +kernel
theorem dL_law_491 : decode cL_law 491 = .ok (.iaload, 1) := by decide +kernel
theorem dL_law_492 : decode cL_law 492 = .ok (.aload_n 0, 1) := by decide +kernel
theorem dL_law_493 : decode cL_law 493 = .ok (.iload_n 3, 1) := by decide +kernel
theorem dL_law_494 : decode cL_law 494 = .ok (.iconst 4, 1) := by decide +kernel
theorem dL_law_495 : decode cL_law 495 = .ok (.iadd, 1) := by decide +kernel
theorem dL_law_496 : decode cL_law 496 = .ok (.iaload, 1) := by decide +kernel
theorem dL_law_497 : decode cL_law 497 = .ok (.aload_n 0, 1) := by decide +kernel
theorem dL_law_498 : decode cL_law 498 = .ok (.iload_n 3, 1) := by decide +kernel
theorem dL_law_499 : decode cL_law 499 = .ok (.iconst 5, 1) := by decide +kernel
theorem dL_law_500 : decode cL_law 500 = .ok (.iadd, 1) := by decide +kernel
theorem dL_law_501 : decode cL_law 501 = .ok (.iaload, 1) := by decide +kernel
theorem dL_law_502 : decode cL_law 502 = .ok (.invokevirtual 48, 3) := by decide +kernel
theorem dL_law_505 : decode cL_law 505 = .ok (.if_icmp .eq 1278, 3) := by decide +kernel
set_option maxRecDepth 100000 in
set_option maxHeartbeats 8000000 in
theorem law_pour {C : Cx} {R : (Nat → St) → St → Prop} {oI oM b L : Nat} {xs : Nat → Int32} {a0 aT aR aH aS aM aN aK hm tm b0 b1 b2 b3 b4 b5 aL aD aC aQ aP : Nat → Nat} {cs : Nat → St} {ms : St} {x3 : Int32} (hC : Fx C cL_law 4 RL) (hR0 : xR C = room_1) (hX : LwX C b L xs) (hi : InS L x3) (hs : SP_pour R) (hr : R cs ms) (hk : LBack C R oI oM b x3) : G C 137 9713 4 (lwW oI oM a0 aT aR aH aS aM aN aK hm tm b0 b1 b2 b3 b4 b5 aL aD aC aQ aP (xy C) cs ms) 447 [(0, .ref b), (1, .ref oI), (2, .ref oM), (3, .int x3)] [] := by
  refine g_eq (σ' := (wX11 oI a0 (xy C) (cs 0) (wT (a0 3) (xy C) (cs 1) (wX9 (a0 5) aT (xy C) (cs 2) (wX6 (a0 6) aR (xy C) (cs 3) (wX8 (aR 0) (fun _ => a0 3) (xy C) (cs 4) (wX2 (a0 7) aH (xy C) (cs 5) (wX2 (a0 8) aS (xy C) (cs 6) (wX7 (a0 9) aM (xy C) (cs 7) (wX7 (a0 10) aN (xy C) (cs 8) (wX4 (a0 11) aK hm tm (xy C) (cs 9) (wX2 (hm 0) b0 (xy C) (cs 10) (wX2 (hm 1) b1 (xy C) (cs 11) (wX2 (hm 2) b2 (xy C) (cs 12) (wX7 (tm 0) b3 (xy C) (cs 13) (wX7 (tm 1) b4 (xy C) (cs 14) (wX7 (tm 2) b5 (xy C) (cs 15) (wX3 (a0 14) aL (xy C) (cs 16) (wX3 (a0 15) aD (xy C) (cs 17) (wX0 (a0 16) aC (xy C) (cs 18) (wX5 (a0 17) aQ (xy C) (cs 19) (wX12 oM aP (xy C) ms [])))))))))))))))))))))) rfl ?_
  refine g_aload_n (pc := 447) hC 1 dL_law_447 rfl rfl ?_
  refine g_aload_n (pc := 448) hC 0 dL_law_448 rfl rfl ?_
  refine g_iload_n (pc := 449) hC 3 dL_law_449 rfl rfl ?_
  refine g_iconst (pc := 450) (v := 1) hC dL_law_450 (by decide) ?_
  refine g_iadd (pc := 451) hC dL_law_451 ?_
  refine g_sld (pc := 452) hC hX hi.2.1 dL_law_452 ?_
  refine g_aload_n (pc := 453) hC 0 dL_law_453 rfl rfl ?_
  refine g_iload_n (pc := 454) hC 3 dL_law_454 rfl rfl ?_
  refine g_iconst (pc := 455) (v := 2) hC dL_law_455 (by decide) ?_
  refine g_iadd (pc := 456) hC dL_law_456 ?_
  refine g_sld (pc := 457) hC hX hi.2.2.1 dL_law_457 ?_
  refine g_aload_n (pc := 458) hC 0 dL_law_458 rfl rfl ?_
  refine g_iload_n (pc := 459) hC 3 dL_law_459 rfl rfl ?_
  refine g_iconst (pc := 460) (v := 3) hC dL_law_460 (by decide) ?_
  refine g_iadd (pc := 461) hC dL_law_461 ?_
  refine g_sld (pc := 462) hC hX hi.2.2.2.1 dL_law_462 ?_
  refine g_aload_n (pc := 463) hC 0 dL_law_463 rfl rfl ?_
  refine g_iload_n (pc := 464) hC 3 dL_law_464 rfl rfl ?_
  refine g_iconst (pc := 465) (v := 4) hC dL_law_465 (by decide) ?_
  refine g_iadd (pc := 466) hC dL_law_466 ?_
  refine g_sld (pc := 467) hC hX hi.2.2.2.2.1 dL_law_467 ?_
  refine g_aload_n (pc := 468) hC 0 dL_law_468 rfl rfl ?_
  refine g_iload_n (pc := 469) hC 3 dL_law_469 rfl rfl ?_
  refine g_iconst (pc := 470) (v := 5) hC dL_law_470 (by decide) ?_
  refine g_iadd (pc := 471) hC dL_law_471 ?_
  refine g_sld (pc := 472) hC hX hi.2.2.2.2.2.1 dL_law_472 ?_
  have h := hs (xs ((x3 + (1 : Int32))).toNatClampNeg) (xs ((x3 + (2 : Int32))).toNatClampNeg) (xs ((x3 + (3 : Int32))).toNatClampNeg) (xs ((x3 + (4 : Int32))).toNatClampNeg) (xs ((x3 + (5 : Int32))).toNatClampNeg) cs ms  hr
  refine g_swap (F := fun Z => (wX11 oI a0 (xy C) (cs 0) Z)) (X := (wX11 oI a0 (xy C) (cs 0) [])) (f := fun Z => (wT (a0 3) (xy C) (cs 1) Z)) (g := fun Z => (wX9 (a0 5) aT (xy C) (cs 2) Z)) (Y := (wX6 (a0 6) aR (xy C) (cs 3) (wX8 (aR 0) (fun _ => a0 3) (xy C) (cs 4) (wX2 (a0 7) aH (xy C) (cs 5) (wX2 (a0 8) aS (xy C) (cs 6) (wX7 (a0 9) aM (xy C) (cs 7) (wX7 (a0 10) aN (xy C) (cs 8) (wX4 (a0 11) aK hm tm (xy C) (cs 9) (wX2 (hm 0) b0 (xy C) (cs 10) (wX2 (hm 1) b1 (xy C) (cs 11) (wX2 (hm 2) b2 (xy C) (cs 12) (wX7 (tm 0) b3 (xy C) (cs 13) (wX7 (tm 1) b4 (xy C) (cs 14) (wX7 (tm 2) b5 (xy C) (cs 15) (wX3 (a0 14) aL (xy C) (cs 16) (wX3 (a0 15) aD (xy C) (cs 17) (wX0 (a0 16) aC (xy C) (cs 18) (wX5 (a0 17) aQ (xy C) (cs 19) (wX12 oM aP (xy C) ms []))))))))))))))))))) (fun _ => rfl) (fun _ => rfl) (fun _ => rfl) ?_
  refine g_callV_i (pc := 473) (wd := fun (u : St × St) Y => (wX11 oI a0 (xy C) u.1 (wX9 (a0 5) aT (xy C) u.2 Y))) (F := fun Z => Z) (X := []) (As := [.int (xs ((x3 + (1 : Int32))).toNatClampNeg), .int (xs ((x3 + (2 : Int32))).toNatClampNeg), .int (xs ((x3 + (3 : Int32))).toNatClampNeg), .int (xs ((x3 + (4 : Int32))).toNatClampNeg), .int (xs ((x3 + (5 : Int32))).toNatClampNeg)]) (rest := []) (u := ((cs 0), (cs 2))) hC (fun _ _ => rfl) (fun _ => rfl) (ctX11_pour h) wvX11_pour ml_L_44 (ci := 9) (q0 := 0) rfl rfl rfl rfl (by rw [hR0]; exact ⟨Nat.le_of_ble_eq_true rfl, Nat.le_of_ble_eq_true rfl⟩) (by rw [hR0]; exact ⟨Nat.le_of_ble_eq_true rfl, Nat.le_of_ble_eq_true rfl⟩) rfl (Nat.le_of_ble_eq_true rfl) dL_law_473 (fun r_3 u_4 h => ?_)
  obtain ⟨u_1, u_2⟩ := u_4
  refine g_aload_n (pc := 476) hC 2 dL_law_476 rfl rfl ?_
  refine g_aload_n (pc := 477) hC 0 dL_law_477 rfl rfl ?_
  refine g_iload_n (pc := 478) hC 3 dL_law_478 rfl rfl ?_
  refine g_iconst (pc := 479) (v := 1) hC dL_law_479 (by decide) ?_
  refine g_iadd (pc := 480) hC dL_law_480 ?_
  refine g_sld (pc := 481) hC hX hi.2.1 dL_law_481 ?_
  refine g_aload_n (pc := 482) hC 0 dL_law_482 rfl rfl ?_
  refine g_iload_n (pc := 483) hC 3 dL_law_483 rfl rfl ?_
  refine g_iconst (pc := 484) (v := 2) hC dL_law_484 (by decide) ?_
  refine g_iadd (pc := 485) hC dL_law_485 ?_
  refine g_sld (pc := 486) hC hX hi.2.2.1 dL_law_486 ?_
  refine g_aload_n (pc := 487) hC 0 dL_law_487 rfl rfl ?_
  refine g_iload_n (pc := 488) hC 3 dL_law_488 rfl rfl ?_
  refine g_iconst (pc := 489) (v := 3) hC dL_law_489 (by decide) ?_
  refine g_iadd (pc := 490) hC dL_law_490 ?_
  refine g_sld (pc := 491) hC hX hi.2.2.2.1 dL_law_491 ?_
  refine g_aload_n (pc := 492) hC 0 dL_law_492 rfl rfl ?_
  refine g_iload_n (pc := 493) hC 3 dL_law_493 rfl rfl ?_
  refine g_iconst (pc := 494) (v := 4) hC dL_law_494 (by decide) ?_
  refine g_iadd (pc := 495) hC dL_law_495 ?_
  refine g_sld (pc := 496) hC hX hi.2.2.2.2.1 dL_law_496 ?_
  refine g_aload_n (pc := 497) hC 0 dL_law_497 rfl rfl ?_
  refine g_iload_n (pc := 498) hC 3 dL_law_498 rfl rfl ?_
  refine g_iconst (pc := 499) (v := 5) hC dL_law_499 (by decide) ?_
  refine g_iadd (pc := 500) hC dL_law_500 ?_
  refine g_sld (pc := 501) hC hX hi.2.2.2.2.2.1 dL_law_501 ?_
  refine g_callV_i (pc := 502) (wd := fun (u : St) Y => (wX12 oM aP (xy C) u Y)) (F := fun Z => (wX11 oI a0 (xy C) u_1 (wX9 (a0 5) aT (xy C) u_2 (wT (a0 3) (xy C) (cs 1) (wX6 (a0 6) aR (xy C) (cs 3) (wX8 (aR 0) (fun _ => a0 3) (xy C) (cs 4) (wX2 (a0 7) aH (xy C) (cs 5) (wX2 (a0 8) aS (xy C) (cs 6) (wX7 (a0 9) aM (xy C) (cs 7) (wX7 (a0 10) aN (xy C) (cs 8) (wX4 (a0 11) aK hm tm (xy C) (cs 9) (wX2 (hm 0) b0 (xy C) (cs 10) (wX2 (hm 1) b1 (xy C) (cs 11) (wX2 (hm 2) b2 (xy C) (cs 12) (wX7 (tm 0) b3 (xy C) (cs 13) (wX7 (tm 1) b4 (xy C) (cs 14) (wX7 (tm 2) b5 (xy C) (cs 15) (wX3 (a0 14) aL (xy C) (cs 16) (wX3 (a0 15) aD (xy C) (cs 17) (wX0 (a0 16) aC (xy C) (cs 18) (wX5 (a0 17) aQ (xy C) (cs 19) Z))))))))))))))))))))) (X := (wX11 oI a0 (xy C) u_1 (wX9 (a0 5) aT (xy C) u_2 (wT (a0 3) (xy C) (cs 1) (wX6 (a0 6) aR (xy C) (cs 3) (wX8 (aR 0) (fun _ => a0 3) (xy C) (cs 4) (wX2 (a0 7) aH (xy C) (cs 5) (wX2 (a0 8) aS (xy C) (cs 6) (wX7 (a0 9) aM (xy C) (cs 7) (wX7 (a0 10) aN (xy C) (cs 8) (wX4 (a0 11) aK hm tm (xy C) (cs 9) (wX2 (hm 0) b0 (xy C) (cs 10) (wX2 (hm 1) b1 (xy C) (cs 11) (wX2 (hm 2) b2 (xy C) (cs 12) (wX7 (tm 0) b3 (xy C) (cs 13) (wX7 (tm 1) b4 (xy C) (cs 14) (wX7 (tm 2) b5 (xy C) (cs 15) (wX3 (a0 14) aL (xy C) (cs 16) (wX3 (a0 15) aD (xy C) (cs 17) (wX0 (a0 16) aC (xy C) (cs 18) (wX5 (a0 17) aQ (xy C) (cs 19) []))))))))))))))))))))) (As := [.int (xs ((x3 + (1 : Int32))).toNatClampNeg), .int (xs ((x3 + (2 : Int32))).toNatClampNeg), .int (xs ((x3 + (3 : Int32))).toNatClampNeg), .int (xs ((x3 + (4 : Int32))).toNatClampNeg), .int (xs ((x3 + (5 : Int32))).toNatClampNeg)]) (rest := [.int r_3]) (u := ms) hC (fun _ _ => rfl) (fun _ => rfl) (ctX12_pour h) wvX12_pour ml_L_48 (ci := 10) (q0 := 0) rfl rfl rfl rfl (by rw [hR0]; exact ⟨Nat.le_of_ble_eq_true rfl, Nat.le_of_ble_eq_true rfl⟩) (by rw [hR0]; exact ⟨Nat.le_of_ble_eq_true rfl, Nat.le_of_ble_eq_true rfl⟩) rfl (Nat.le_of_ble_eq_true rfl) dL_law_502 (fun r_6 u_5 h => ?_)
  refine g_icmp_eq (pc := 505) (tgt := 1783) hC dL_law_505 (by decide) (fun c => ?_) (fun c => absurd h.1 c)
  refine g_swap (F := fun Z => (wX11 oI a0 (xy C) u_1 Z)) (X := (wX11 oI a0 (xy C) u_1 [])) (f := fun Z => (wX9 (a0 5) aT (xy C) u_2 Z)) (g := fun Z => (wT (a0 3) (xy C) (cs 1) Z)) (Y := (wX6 (a0 6) aR (xy C) (cs 3) (wX8 (aR 0) (fun _ => a0 3) (xy C) (cs 4) (wX2 (a0 7) aH (xy C) (cs 5) (wX2 (a0 8) aS (xy C) (cs 6) (wX7 (a0 9) aM (xy C) (cs 7) (wX7 (a0 10) aN (xy C) (cs 8) (wX4 (a0 11) aK hm tm (xy C) (cs 9) (wX2 (hm 0) b0 (xy C) (cs 10) (wX2 (hm 1) b1 (xy C) (cs 11) (wX2 (hm 2) b2 (xy C) (cs 12) (wX7 (tm 0) b3 (xy C) (cs 13) (wX7 (tm 1) b4 (xy C) (cs 14) (wX7 (tm 2) b5 (xy C) (cs 15) (wX3 (a0 14) aL (xy C) (cs 16) (wX3 (a0 15) aD (xy C) (cs 17) (wX0 (a0 16) aC (xy C) (cs 18) (wX5 (a0 17) aQ (xy C) (cs 19) (wX12 oM aP (xy C) u_5 []))))))))))))))))))) (fun _ => rfl) (fun _ => rfl) (fun _ => rfl) ?_
  exact hk a0 aT aR aH aS aM aN aK hm tm b0 b1 b2 b3 b4 b5 aL aD aC aQ aP (va_up (va_up cs 0 u_1) 2 u_2) u_5 h.2
theorem dL_law_510 : decode cL_law 510 = .ok (.aload_n 1, 1) := by decide +kernel
theorem dL_law_511 : decode cL_law 511 = .ok (.aload_n 0, 1) := by decide +kernel
theorem dL_law_512 : decode cL_law 512 = .ok (.iload_n 3, 1) := by decide +kernel
theorem dL_law_513 : decode cL_law 513 = .ok (.iconst 1, 1) := by decide +kernel
theorem dL_law_514 : decode cL_law 514 = .ok (.iadd, 1) := by decide +kernel
theorem dL_law_515 : decode cL_law 515 = .ok (.iaload, 1) := by decide +kernel
theorem dL_law_516 : decode cL_law 516 = .ok (.aload_n 0, 1) := by decide +kernel
theorem dL_law_517 : decode cL_law 517 = .ok (.iload_n 3, 1) := by decide +kernel
theorem dL_law_518 : decode cL_law 518 = .ok (.iconst 2, 1) := by decide +kernel
theorem dL_law_519 : decode cL_law 519 = .ok (.iadd, 1) := by decide +kernel
theorem dL_law_520 : decode cL_law 520 = .ok (.iaload, 1) := by decide +kernel
theorem dL_law_521 : decode cL_law 521 = .ok (.aload_n 0, 1) := by decide +kernel
theorem dL_law_522 : decode cL_law 522 = .ok (.iload_n 3, 1) := by decide +kernel
theorem dL_law_523 : decode cL_law 523 = .ok (.iconst 3, 1) := by decide +kernel
theorem dL_law_524 : decode cL_law 524 = .ok (.iadd, 1) := by decide +kernel
theorem dL_law_525 : decode cL_law 525 = .ok (.iaload, 1) := by decide +kernel
theorem dL_law_526 : decode cL_law 526 = .ok (.aload_n 0, 1) := by decide +kernel
theorem dL_law_527 : decode cL_law 527 = .ok (.iload_n 3, 1) := by decide +kernel
theorem dL_law_528 : decode cL_law 528 = .ok (.iconst 4, 1) := by decide +kernel
theorem dL_law_529 : decode cL_law 529 = .ok (.iadd, 1) := by decide +kernel
theorem dL_law_530 : decode cL_law 530 = .ok (.iaload, 1) := by decide +kernel
theorem dL_law_531 : decode cL_law 531 = .ok (.aload_n 0, 1) := by decide +kernel
theorem dL_law_532 : decode cL_law 532 = .ok (.iload_n 3, 1) := by decide +kernel
theorem dL_law_533 : decode cL_law 533 = .ok (.iconst 5, 1) := by decide +kernel
theorem dL_law_534 : decode cL_law 534 = .ok (.iadd, 1) := by decide +kernel
theorem dL_law_535 : decode cL_law 535 = .ok (.iaload, 1) := by decide +kernel
theorem dL_law_536 : decode cL_law 536 = .ok (.invokevirtual 49, 3) := by decide +kernel
theorem dL_law_539 : decode cL_law 539 = .ok (.aload_n 2, 1) := by decide +kernel
theorem dL_law_540 : decode cL_law 540 = .ok (.aload_n 0, 1) := by decide +kernel
theorem dL_law_541 : decode cL_law 541 = .ok (.iload_n 3, 1) := by decide +kernel
theorem dL_law_542 : decode cL_law 542 = .ok (.iconst 1, 1) := by decide +kernel
theorem dL_law_543 : decode cL_law 543 = .ok (.iadd, 1) := by decide +kernel
theorem dL_law_544 : decode cL_law 544 = .ok (.iaload, 1) := by decide +kernel
theorem dL_law_545 : decode cL_law 545 = .ok (.aload_n 0, 1) := by decide +kernel
theorem dL_law_546 : decode cL_law 546 = .ok (.iload_n 3, 1) := by decide +kernel
theorem dL_law_547 : decode cL_law 547 = .ok (.iconst 2, 1) := by decide +kernel
theorem dL_law_548 : decode cL_law 548 = .ok (.iadd, 1) := by decide +kernel
theorem dL_law_549 : decode cL_law 549 = .ok (.iaload, 1) := by decide +kernel
theorem dL_law_550 : decode cL_law 550 = .ok (.aload_n 0, 1) := by decide +kernel
theorem dL_law_551 : decode cL_law 551 = .ok (.iload_n 3, 1) := by decide +kernel
theorem dL_law_552 : decode cL_law 552 = .ok (.iconst 3, 1) := by decide +kernel
theorem dL_law_553 : decode cL_law 553 = .ok (.iadd, 1) := by decide +kernel
theorem dL_law_554 : decode cL_law 554 = .ok (.iaload, 1) := by decide +kernel
theorem dL_law_555 : decode cL_law 555 = .ok (.aload_n 0, 1) := by decide +kernel
theorem dL_law_556 : decode cL_law 556 = .ok (.iload_n 3, 1) := by decide +kernel
theorem dL_law_557 : decode cL_law 557 = .ok (.iconst 4, 1) := by decide +kernel
theorem dL_law_558 : decode cL_law 558 = .ok (.iadd, 1) := by decide +kernel
theorem dL_law_559 : decode cL_law 559 = .ok (.iaload, 1) := by decide +kernel
theorem dL_law_560 : decode cL_law 560 = .ok (.aload_n 0, 1) := by decide +kernel
theorem dL_law_561 : decode cL_law 561 = .ok (.iload_n 3, 1) := by decide +kernel
theorem dL_law_562 : decode cL_law 562 = .ok (.iconst 5, 1) := by decide +kernel
theorem dL_law_563 : decode cL_law 563 = .ok (.iadd, 1) := by decide +kernel
theorem dL_law_564 : decode cL_law 564 = .ok (.iaload, 1) := by decide +kernel
theorem dL_law_565 : decode cL_law 565 = .ok (.invokevirtual 53, 3) := by decide +kernel
theorem dL_law_568 : decode cL_law 568 = .ok (.if_icmp .eq 1215, 3) := by decide +kernel
set_option maxRecDepth 100000 in
set_option maxHeartbeats 8000000 in
theorem law_feed {C : Cx} {R : (Nat → St) → St → Prop} {oI oM b L : Nat} {xs : Nat → Int32} {a0 aT aR aH aS aM aN aK hm tm b0 b1 b2 b3 b4 b5 aL aD aC aQ aP : Nat → Nat} {cs : Nat → St} {ms : St} {x3 : Int32} (hC : Fx C cL_law 4 RL) (hR0 : xR C = room_1) (hX : LwX C b L xs) (hi : InS L x3) (hs : SP_feed R) (hr : R cs ms) (hk : LBack C R oI oM b x3) : G C 137 9713 4 (lwW oI oM a0 aT aR aH aS aM aN aK hm tm b0 b1 b2 b3 b4 b5 aL aD aC aQ aP (xy C) cs ms) 510 [(0, .ref b), (1, .ref oI), (2, .ref oM), (3, .int x3)] [] := by
  refine g_eq (σ' := (wX11 oI a0 (xy C) (cs 0) (wT (a0 3) (xy C) (cs 1) (wX9 (a0 5) aT (xy C) (cs 2) (wX6 (a0 6) aR (xy C) (cs 3) (wX8 (aR 0) (fun _ => a0 3) (xy C) (cs 4) (wX2 (a0 7) aH (xy C) (cs 5) (wX2 (a0 8) aS (xy C) (cs 6) (wX7 (a0 9) aM (xy C) (cs 7) (wX7 (a0 10) aN (xy C) (cs 8) (wX4 (a0 11) aK hm tm (xy C) (cs 9) (wX2 (hm 0) b0 (xy C) (cs 10) (wX2 (hm 1) b1 (xy C) (cs 11) (wX2 (hm 2) b2 (xy C) (cs 12) (wX7 (tm 0) b3 (xy C) (cs 13) (wX7 (tm 1) b4 (xy C) (cs 14) (wX7 (tm 2) b5 (xy C) (cs 15) (wX3 (a0 14) aL (xy C) (cs 16) (wX3 (a0 15) aD (xy C) (cs 17) (wX0 (a0 16) aC (xy C) (cs 18) (wX5 (a0 17) aQ (xy C) (cs 19) (wX12 oM aP (xy C) ms [])))))))))))))))))))))) rfl ?_
  refine g_aload_n (pc := 510) hC 1 dL_law_510 rfl rfl ?_
  refine g_aload_n (pc := 511) hC 0 dL_law_511 rfl rfl ?_
  refine g_iload_n (pc := 512) hC 3 dL_law_512 rfl rfl ?_
  refine g_iconst (pc := 513) (v := 1) hC dL_law_513 (by decide) ?_
  refine g_iadd (pc := 514) hC dL_law_514 ?_
  refine g_sld (pc := 515) hC hX hi.2.1 dL_law_515 ?_
  refine g_aload_n (pc := 516) hC 0 dL_law_516 rfl rfl ?_
  refine g_iload_n (pc := 517) hC 3 dL_law_517 rfl rfl ?_
  refine g_iconst (pc := 518) (v := 2) hC dL_law_518 (by decide) ?_
  refine g_iadd (pc := 519) hC dL_law_519 ?_
  refine g_sld (pc := 520) hC hX hi.2.2.1 dL_law_520 ?_
  refine g_aload_n (pc := 521) hC 0 dL_law_521 rfl rfl ?_
  refine g_iload_n (pc := 522) hC 3 dL_law_522 rfl rfl ?_
  refine g_iconst (pc := 523) (v := 3) hC dL_law_523 (by decide) ?_
  refine g_iadd (pc := 524) hC dL_law_524 ?_
  refine g_sld (pc := 525) hC hX hi.2.2.2.1 dL_law_525 ?_
  refine g_aload_n (pc := 526) hC 0 dL_law_526 rfl rfl ?_
  refine g_iload_n (pc := 527) hC 3 dL_law_527 rfl rfl ?_
  refine g_iconst (pc := 528) (v := 4) hC dL_law_528 (by decide) ?_
  refine g_iadd (pc := 529) hC dL_law_529 ?_
  refine g_sld (pc := 530) hC hX hi.2.2.2.2.1 dL_law_530 ?_
  refine g_aload_n (pc := 531) hC 0 dL_law_531 rfl rfl ?_
  refine g_iload_n (pc := 532) hC 3 dL_law_532 rfl rfl ?_
  refine g_iconst (pc := 533) (v := 5) hC dL_law_533 (by decide) ?_
  refine g_iadd (pc := 534) hC dL_law_534 ?_
  refine g_sld (pc := 535) hC hX hi.2.2.2.2.2.1 dL_law_535 ?_
  have h := hs (xs ((x3 + (1 : Int32))).toNatClampNeg) (xs ((x3 + (2 : Int32))).toNatClampNeg) (xs ((x3 + (3 : Int32))).toNatClampNeg) (xs ((x3 + (4 : Int32))).toNatClampNeg) (xs ((x3 + (5 : Int32))).toNatClampNeg) cs ms  hr
  refine g_callV_i (pc := 536) (wd := fun (u : St × St) Y => (wX11 oI a0 (xy C) u.1 (wT (a0 3) (xy C) u.2 Y))) (F := fun Z => Z) (X := []) (As := [.int (xs ((x3 + (1 : Int32))).toNatClampNeg), .int (xs ((x3 + (2 : Int32))).toNatClampNeg), .int (xs ((x3 + (3 : Int32))).toNatClampNeg), .int (xs ((x3 + (4 : Int32))).toNatClampNeg), .int (xs ((x3 + (5 : Int32))).toNatClampNeg)]) (rest := []) (u := ((cs 0), (cs 1))) hC (fun _ _ => rfl) (fun _ => rfl) (ctX11_feed h) wvX11_feed ml_L_49 (ci := 9) (q0 := 0) rfl rfl rfl rfl (by rw [hR0]; exact ⟨Nat.le_of_ble_eq_true rfl, Nat.le_of_ble_eq_true rfl⟩) (by rw [hR0]; exact ⟨Nat.le_of_ble_eq_true rfl, Nat.le_of_ble_eq_true rfl⟩) rfl (Nat.le_of_ble_eq_true rfl) dL_law_536 (fun r_3 u_4 h => ?_)
  obtain ⟨u_1, u_2⟩ := u_4
  refine g_aload_n (pc := 539) hC 2 dL_law_539 rfl rfl ?_
  refine g_aload_n (pc := 540) hC 0 dL_law_540 rfl rfl ?_
  refine g_iload_n (pc := 541) hC 3 dL_law_541 rfl rfl ?_
  refine g_iconst (pc := 542) (v := 1) hC dL_law_542 (by decide) ?_
  refine g_iadd (pc := 543) hC dL_law_543 ?_
  refine g_sld (pc := 544) hC hX hi.2.1 dL_law_544 ?_
  refine g_aload_n (pc := 545) hC 0 dL_law_545 rfl rfl ?_
  refine g_iload_n (pc := 546) hC 3 dL_law_546 rfl rfl ?_
  refine g_iconst (pc := 547) (v := 2) hC dL_law_547 (by decide) ?_
  refine g_iadd (pc := 548) hC dL_law_548 ?_
  refine g_sld (pc := 549) hC hX hi.2.2.1 dL_law_549 ?_
  refine g_aload_n (pc := 550) hC 0 dL_law_550 rfl rfl ?_
  refine g_iload_n (pc := 551) hC 3 dL_law_551 rfl rfl ?_
  refine g_iconst (pc := 552) (v := 3) hC dL_law_552 (by decide) ?_
  refine g_iadd (pc := 553) hC dL_law_553 ?_
  refine g_sld (pc := 554) hC hX hi.2.2.2.1 dL_law_554 ?_
  refine g_aload_n (pc := 555) hC 0 dL_law_555 rfl rfl ?_
  refine g_iload_n (pc := 556) hC 3 dL_law_556 rfl rfl ?_
  refine g_iconst (pc := 557) (v := 4) hC dL_law_557 (by decide) ?_
  refine g_iadd (pc := 558) hC dL_law_558 ?_
  refine g_sld (pc := 559) hC hX hi.2.2.2.2.1 dL_law_559 ?_
  refine g_aload_n (pc := 560) hC 0 dL_law_560 rfl rfl ?_
  refine g_iload_n (pc := 561) hC 3 dL_law_561 rfl rfl ?_
  refine g_iconst (pc := 562) (v := 5) hC dL_law_562 (by decide) ?_
  refine g_iadd (pc := 563) hC dL_law_563 ?_
  refine g_sld (pc := 564) hC hX hi.2.2.2.2.2.1 dL_law_564 ?_
  refine g_callV_i (pc := 565) (wd := fun (u : St) Y => (wX12 oM aP (xy C) u Y)) (F := fun Z => (wX11 oI a0 (xy C) u_1 (wT (a0 3) (xy C) u_2 (wX9 (a0 5) aT (xy C) (cs 2) (wX6 (a0 6) aR (xy C) (cs 3) (wX8 (aR 0) (fun _ => a0 3) (xy C) (cs 4) (wX2 (a0 7) aH (xy C) (cs 5) (wX2 (a0 8) aS (xy C) (cs 6) (wX7 (a0 9) aM (xy C) (cs 7) (wX7 (a0 10) aN (xy C) (cs 8) (wX4 (a0 11) aK hm tm (xy C) (cs 9) (wX2 (hm 0) b0 (xy C) (cs 10) (wX2 (hm 1) b1 (xy C) (cs 11) (wX2 (hm 2) b2 (xy C) (cs 12) (wX7 (tm 0) b3 (xy C) (cs 13) (wX7 (tm 1) b4 (xy C) (cs 14) (wX7 (tm 2) b5 (xy C) (cs 15) (wX3 (a0 14) aL (xy C) (cs 16) (wX3 (a0 15) aD (xy C) (cs 17) (wX0 (a0 16) aC (xy C) (cs 18) (wX5 (a0 17) aQ (xy C) (cs 19) Z))))))))))))))))))))) (X := (wX11 oI a0 (xy C) u_1 (wT (a0 3) (xy C) u_2 (wX9 (a0 5) aT (xy C) (cs 2) (wX6 (a0 6) aR (xy C) (cs 3) (wX8 (aR 0) (fun _ => a0 3) (xy C) (cs 4) (wX2 (a0 7) aH (xy C) (cs 5) (wX2 (a0 8) aS (xy C) (cs 6) (wX7 (a0 9) aM (xy C) (cs 7) (wX7 (a0 10) aN (xy C) (cs 8) (wX4 (a0 11) aK hm tm (xy C) (cs 9) (wX2 (hm 0) b0 (xy C) (cs 10) (wX2 (hm 1) b1 (xy C) (cs 11) (wX2 (hm 2) b2 (xy C) (cs 12) (wX7 (tm 0) b3 (xy C) (cs 13) (wX7 (tm 1) b4 (xy C) (cs 14) (wX7 (tm 2) b5 (xy C) (cs 15) (wX3 (a0 14) aL (xy C) (cs 16) (wX3 (a0 15) aD (xy C) (cs 17) (wX0 (a0 16) aC (xy C) (cs 18) (wX5 (a0 17) aQ (xy C) (cs 19) []))))))))))))))))))))) (As := [.int (xs ((x3 + (1 : Int32))).toNatClampNeg), .int (xs ((x3 + (2 : Int32))).toNatClampNeg), .int (xs ((x3 + (3 : Int32))).toNatClampNeg), .int (xs ((x3 + (4 : Int32))).toNatClampNeg), .int (xs ((x3 + (5 : Int32))).toNatClampNeg)]) (rest := [.int r_3]) (u := ms) hC (fun _ _ => rfl) (fun _ => rfl) (ctX12_feed h) wvX12_feed ml_L_53 (ci := 10) (q0 := 0) rfl rfl rfl rfl (by rw [hR0]; exact ⟨Nat.le_of_ble_eq_true rfl, Nat.le_of_ble_eq_true rfl⟩) (by rw [hR0]; exact ⟨Nat.le_of_ble_eq_true rfl, Nat.le_of_ble_eq_true rfl⟩) rfl (Nat.le_of_ble_eq_true rfl) dL_law_565 (fun r_6 u_5 h => ?_)
  refine g_icmp_eq (pc := 568) (tgt := 1783) hC dL_law_568 (by decide) (fun c => ?_) (fun c => absurd h.1 c)
  exact hk a0 aT aR aH aS aM aN aK hm tm b0 b1 b2 b3 b4 b5 aL aD aC aQ aP (va_up (va_up cs 0 u_1) 1 u_2) u_5 h.2
theorem dL_law_573 : decode cL_law 573 = .ok (.aload_n 1, 1) := by decide +kernel
theorem dL_law_574 : decode cL_law 574 = .ok (.aload_n 0, 1) := by decide +kernel
theorem dL_law_575 : decode cL_law 575 = .ok (.iload_n 3, 1) := by decide +kernel
theorem dL_law_576 : decode cL_law 576 = .ok (.iconst 1, 1) := by decide +kernel
theorem dL_law_577 : decode cL_law 577 = .ok (.iadd, 1) := by decide +kernel
theorem dL_law_578 : decode cL_law 578 = .ok (.iaload, 1) := by decide +kernel
theorem dL_law_579 : decode cL_law 579 = .ok (.invokevirtual 54, 3) := by decide +kernel
theorem dL_law_582 : decode cL_law 582 = .ok (.aload_n 2, 1) := by decide +kernel
theorem dL_law_583 : decode cL_law 583 = .ok (.aload_n 0, 1) := by decide +kernel
theorem dL_law_584 : decode cL_law 584 = .ok (.iload_n 3, 1) := by decide +kernel
theorem dL_law_585 : decode cL_law 585 = .ok (.iconst 1, 1) := by decide +kernel
theorem dL_law_586 : decode cL_law 586 = .ok (.iadd, 1) := by decide +kernel
theorem dL_law_587 : decode cL_law 587 = .ok (.iaload, 1) := by decide +kernel
theorem dL_law_588 : decode cL_law 588 = .ok (.invokevirtual 58, 3) := by decide +kernel
theorem dL_law_591 : decode cL_law 591 = .ok (.if_icmp .eq 1192, 3) := by decide +kernel
set_option maxRecDepth 100000 in
set_option maxHeartbeats 8000000 in
theorem law_house {C : Cx} {R : (Nat → St) → St → Prop} {oI oM b L : Nat} {xs : Nat → Int32} {a0 aT aR aH aS aM aN aK hm tm b0 b1 b2 b3 b4 b5 aL aD aC aQ aP : Nat → Nat} {cs : Nat → St} {ms : St} {x3 : Int32} (hC : Fx C cL_law 4 RL) (hR0 : xR C = room_1) (hX : LwX C b L xs) (hi : InS L x3) (hs : SP_house R) (hr : R cs ms) (hk : LBack C R oI oM b x3) : G C 137 9713 4 (lwW oI oM a0 aT aR aH aS aM aN aK hm tm b0 b1 b2 b3 b4 b5 aL aD aC aQ aP (xy C) cs ms) 573 [(0, .ref b), (1, .ref oI), (2, .ref oM), (3, .int x3)] [] := by
  refine g_eq (σ' := (wX11 oI a0 (xy C) (cs 0) (wT (a0 3) (xy C) (cs 1) (wX9 (a0 5) aT (xy C) (cs 2) (wX6 (a0 6) aR (xy C) (cs 3) (wX8 (aR 0) (fun _ => a0 3) (xy C) (cs 4) (wX2 (a0 7) aH (xy C) (cs 5) (wX2 (a0 8) aS (xy C) (cs 6) (wX7 (a0 9) aM (xy C) (cs 7) (wX7 (a0 10) aN (xy C) (cs 8) (wX4 (a0 11) aK hm tm (xy C) (cs 9) (wX2 (hm 0) b0 (xy C) (cs 10) (wX2 (hm 1) b1 (xy C) (cs 11) (wX2 (hm 2) b2 (xy C) (cs 12) (wX7 (tm 0) b3 (xy C) (cs 13) (wX7 (tm 1) b4 (xy C) (cs 14) (wX7 (tm 2) b5 (xy C) (cs 15) (wX3 (a0 14) aL (xy C) (cs 16) (wX3 (a0 15) aD (xy C) (cs 17) (wX0 (a0 16) aC (xy C) (cs 18) (wX5 (a0 17) aQ (xy C) (cs 19) (wX12 oM aP (xy C) ms [])))))))))))))))))))))) rfl ?_
  refine g_aload_n (pc := 573) hC 1 dL_law_573 rfl rfl ?_
  refine g_aload_n (pc := 574) hC 0 dL_law_574 rfl rfl ?_
  refine g_iload_n (pc := 575) hC 3 dL_law_575 rfl rfl ?_
  refine g_iconst (pc := 576) (v := 1) hC dL_law_576 (by decide) ?_
  refine g_iadd (pc := 577) hC dL_law_577 ?_
  refine g_sld (pc := 578) hC hX hi.2.1 dL_law_578 ?_
  have h := hs (xs ((x3 + (1 : Int32))).toNatClampNeg) cs ms  hr
  refine g_swap (F := fun Z => (wX11 oI a0 (xy C) (cs 0) (wT (a0 3) (xy C) (cs 1) Z))) (X := (wX11 oI a0 (xy C) (cs 0) (wT (a0 3) (xy C) (cs 1) []))) (f := fun Z => (wX9 (a0 5) aT (xy C) (cs 2) Z)) (g := fun Z => (wX6 (a0 6) aR (xy C) (cs 3) Z)) (Y := (wX8 (aR 0) (fun _ => a0 3) (xy C) (cs 4) (wX2 (a0 7) aH (xy C) (cs 5) (wX2 (a0 8) aS (xy C) (cs 6) (wX7 (a0 9) aM (xy C) (cs 7) (wX7 (a0 10) aN (xy C) (cs 8) (wX4 (a0 11) aK hm tm (xy C) (cs 9) (wX2 (hm 0) b0 (xy C) (cs 10) (wX2 (hm 1) b1 (xy C) (cs 11) (wX2 (hm 2) b2 (xy C) (cs 12) (wX7 (tm 0) b3 (xy C) (cs 13) (wX7 (tm 1) b4 (xy C) (cs 14) (wX7 (tm 2) b5 (xy C) (cs 15) (wX3 (a0 14) aL (xy C) (cs 16) (wX3 (a0 15) aD (xy C) (cs 17) (wX0 (a0 16) aC (xy C) (cs 18) (wX5 (a0 17) aQ (xy C) (cs 19) (wX12 oM aP (xy C) ms [])))))))))))))))))) (fun _ => rfl) (fun _ => rfl) (fun _ => rfl) ?_
  refine g_swap (F := fun Z => (wX11 oI a0 (xy C) (cs 0) Z)) (X := (wX11 oI a0 (xy C) (cs 0) [])) (f := fun Z => (wT (a0 3) (xy C) (cs 1) Z)) (g := fun Z => (wX6 (a0 6) aR (xy C) (cs 3) Z)) (Y := (wX9 (a0 5) aT (xy C) (cs 2) (wX8 (aR 0) (fun _ => a0 3) (xy C) (cs 4) (wX2 (a0 7) aH (xy C) (cs 5) (wX2 (a0 8) aS (xy C) (cs 6) (wX7 (a0 9) aM (xy C) (cs 7) (wX7 (a0 10) aN (xy C) (cs 8) (wX4 (a0 11) aK hm tm (xy C) (cs 9) (wX2 (hm 0) b0 (xy C) (cs 10) (wX2 (hm 1) b1 (xy C) (cs 11) (wX2 (hm 2) b2 (xy C) (cs 12) (wX7 (tm 0) b3 (xy C) (cs 13) (wX7 (tm 1) b4 (xy C) (cs 14) (wX7 (tm 2) b5 (xy C) (cs 15) (wX3 (a0 14) aL (xy C) (cs 16) (wX3 (a0 15) aD (xy C) (cs 17) (wX0 (a0 16) aC (xy C) (cs 18) (wX5 (a0 17) aQ (xy C) (cs 19) (wX12 oM aP (xy C) ms []))))))))))))))))))) (fun _ => rfl) (fun _ => rfl) (fun _ => rfl) ?_
  refine g_swap (F := fun Z => (wX11 oI a0 (xy C) (cs 0) (wX6 (a0 6) aR (xy C) (cs 3) (wT (a0 3) (xy C) (cs 1) Z)))) (X := (wX11 oI a0 (xy C) (cs 0) (wX6 (a0 6) aR (xy C) (cs 3) (wT (a0 3) (xy C) (cs 1) [])))) (f := fun Z => (wX9 (a0 5) aT (xy C) (cs 2) Z)) (g := fun Z => (wX8 (aR 0) (fun _ => a0 3) (xy C) (cs 4) Z)) (Y := (wX2 (a0 7) aH (xy C) (cs 5) (wX2 (a0 8) aS (xy C) (cs 6) (wX7 (a0 9) aM (xy C) (cs 7) (wX7 (a0 10) aN (xy C) (cs 8) (wX4 (a0 11) aK hm tm (xy C) (cs 9) (wX2 (hm 0) b0 (xy C) (cs 10) (wX2 (hm 1) b1 (xy C) (cs 11) (wX2 (hm 2) b2 (xy C) (cs 12) (wX7 (tm 0) b3 (xy C) (cs 13) (wX7 (tm 1) b4 (xy C) (cs 14) (wX7 (tm 2) b5 (xy C) (cs 15) (wX3 (a0 14) aL (xy C) (cs 16) (wX3 (a0 15) aD (xy C) (cs 17) (wX0 (a0 16) aC (xy C) (cs 18) (wX5 (a0 17) aQ (xy C) (cs 19) (wX12 oM aP (xy C) ms []))))))))))))))))) (fun _ => rfl) (fun _ => rfl) (fun _ => rfl) ?_
  refine g_swap (F := fun Z => (wX11 oI a0 (xy C) (cs 0) (wX6 (a0 6) aR (xy C) (cs 3) Z))) (X := (wX11 oI a0 (xy C) (cs 0) (wX6 (a0 6) aR (xy C) (cs 3) []))) (f := fun Z => (wT (a0 3) (xy C) (cs 1) Z)) (g := fun Z => (wX8 (aR 0) (fun _ => a0 3) (xy C) (cs 4) Z)) (Y := (wX9 (a0 5) aT (xy C) (cs 2) (wX2 (a0 7) aH (xy C) (cs 5) (wX2 (a0 8) aS (xy C) (cs 6) (wX7 (a0 9) aM (xy C) (cs 7) (wX7 (a0 10) aN (xy C) (cs 8) (wX4 (a0 11) aK hm tm (xy C) (cs 9) (wX2 (hm 0) b0 (xy C) (cs 10) (wX2 (hm 1) b1 (xy C) (cs 11) (wX2 (hm 2) b2 (xy C) (cs 12) (wX7 (tm 0) b3 (xy C) (cs 13) (wX7 (tm 1) b4 (xy C) (cs 14) (wX7 (tm 2) b5 (xy C) (cs 15) (wX3 (a0 14) aL (xy C) (cs 16) (wX3 (a0 15) aD (xy C) (cs 17) (wX0 (a0 16) aC (xy C) (cs 18) (wX5 (a0 17) aQ (xy C) (cs 19) (wX12 oM aP (xy C) ms [])))))))))))))))))) (fun _ => rfl) (fun _ => rfl) (fun _ => rfl) ?_
  refine g_swap (F := fun Z => (wX11 oI a0 (xy C) (cs 0) (wX6 (a0 6) aR (xy C) (cs 3) (wX8 (aR 0) (fun _ => a0 3) (xy C) (cs 4) (wT (a0 3) (xy C) (cs 1) Z))))) (X := (wX11 oI a0 (xy C) (cs 0) (wX6 (a0 6) aR (xy C) (cs 3) (wX8 (aR 0) (fun _ => a0 3) (xy C) (cs 4) (wT (a0 3) (xy C) (cs 1) []))))) (f := fun Z => (wX9 (a0 5) aT (xy C) (cs 2) Z)) (g := fun Z => (wX2 (a0 7) aH (xy C) (cs 5) Z)) (Y := (wX2 (a0 8) aS (xy C) (cs 6) (wX7 (a0 9) aM (xy C) (cs 7) (wX7 (a0 10) aN (xy C) (cs 8) (wX4 (a0 11) aK hm tm (xy C) (cs 9) (wX2 (hm 0) b0 (xy C) (cs 10) (wX2 (hm 1) b1 (xy C) (cs 11) (wX2 (hm 2) b2 (xy C) (cs 12) (wX7 (tm 0) b3 (xy C) (cs 13) (wX7 (tm 1) b4 (xy C) (cs 14) (wX7 (tm 2) b5 (xy C) (cs 15) (wX3 (a0 14) aL (xy C) (cs 16) (wX3 (a0 15) aD (xy C) (cs 17) (wX0 (a0 16) aC (xy C) (cs 18) (wX5 (a0 17) aQ (xy C) (cs 19) (wX12 oM aP (xy C) ms [])))))))))))))))) (fun _ => rfl) (fun _ => rfl) (fun _ => rfl) ?_
  refine g_swap (F := fun Z => (wX11 oI a0 (xy C) (cs 0) (wX6 (a0 6) aR (xy C) (cs 3) (wX8 (aR 0) (fun _ => a0 3) (xy C) (cs 4) (wT (a0 3) (xy C) (cs 1) (wX2 (a0 7) aH (xy C) (cs 5) Z)))))) (X := (wX11 oI a0 (xy C) (cs 0) (wX6 (a0 6) aR (xy C) (cs 3) (wX8 (aR 0) (fun _ => a0 3) (xy C) (cs 4) (wT (a0 3) (xy C) (cs 1) (wX2 (a0 7) aH (xy C) (cs 5) [])))))) (f := fun Z => (wX9 (a0 5) aT (xy C) (cs 2) Z)) (g := fun Z => (wX2 (a0 8) aS (xy C) (cs 6) Z)) (Y := (wX7 (a0 9) aM (xy C) (cs 7) (wX7 (a0 10) aN (xy C) (cs 8) (wX4 (a0 11) aK hm tm (xy C) (cs 9) (wX2 (hm 0) b0 (xy C) (cs 10) (wX2 (hm 1) b1 (xy C) (cs 11) (wX2 (hm 2) b2 (xy C) (cs 12) (wX7 (tm 0) b3 (xy C) (cs 13) (wX7 (tm 1) b4 (xy C) (cs 14) (wX7 (tm 2) b5 (xy C) (cs 15) (wX3 (a0 14) aL (xy C) (cs 16) (wX3 (a0 15) aD (xy C) (cs 17) (wX0 (a0 16) aC (xy C) (cs 18) (wX5 (a0 17) aQ (xy C) (cs 19) (wX12 oM aP (xy C) ms []))))))))))))))) (fun _ => rfl) (fun _ => rfl) (fun _ => rfl) ?_
  refine g_swap (F := fun Z => (wX11 oI a0 (xy C) (cs 0) (wX6 (a0 6) aR (xy C) (cs 3) (wX8 (aR 0) (fun _ => a0 3) (xy C) (cs 4) (wT (a0 3) (xy C) (cs 1) (wX2 (a0 7) aH (xy C) (cs 5) (wX2 (a0 8) aS (xy C) (cs 6) Z))))))) (X := (wX11 oI a0 (xy C) (cs 0) (wX6 (a0 6) aR (xy C) (cs 3) (wX8 (aR 0) (fun _ => a0 3) (xy C) (cs 4) (wT (a0 3) (xy C) (cs 1) (wX2 (a0 7) aH (xy C) (cs 5) (wX2 (a0 8) aS (xy C) (cs 6) []))))))) (f := fun Z => (wX9 (a0 5) aT (xy C) (cs 2) Z)) (g := fun Z => (wX7 (a0 9) aM (xy C) (cs 7) Z)) (Y := (wX7 (a0 10) aN (xy C) (cs 8) (wX4 (a0 11) aK hm tm (xy C) (cs 9) (wX2 (hm 0) b0 (xy C) (cs 10) (wX2 (hm 1) b1 (xy C) (cs 11) (wX2 (hm 2) b2 (xy C) (cs 12) (wX7 (tm 0) b3 (xy C) (cs 13) (wX7 (tm 1) b4 (xy C) (cs 14) (wX7 (tm 2) b5 (xy C) (cs 15) (wX3 (a0 14) aL (xy C) (cs 16) (wX3 (a0 15) aD (xy C) (cs 17) (wX0 (a0 16) aC (xy C) (cs 18) (wX5 (a0 17) aQ (xy C) (cs 19) (wX12 oM aP (xy C) ms [])))))))))))))) (fun _ => rfl) (fun _ => rfl) (fun _ => rfl) ?_
  refine g_callV_i (pc := 579) (wd := fun (u : Bool × St × St × St × St × St × St × St) Y => bif u.1 then (wX11 oI (va_up (va_up a0 7 (a0 8)) 8 (a0 7)) (xy C) u.2.1 (wX6 (a0 6) aR (xy C) u.2.2.1 (wX8 (aR 0) (fun _ => a0 3) (xy C) u.2.2.2.1 (wT (a0 3) (xy C) u.2.2.2.2.1 (wX2 (a0 8) aS (xy C) u.2.2.2.2.2.1 (wX2 (a0 7) aH (xy C) u.2.2.2.2.2.2.1 (wX7 (a0 9) aM (xy C) u.2.2.2.2.2.2.2 Y))))))) else (wX11 oI a0 (xy C) u.2.1 (wX6 (a0 6) aR (xy C) u.2.2.1 (wX8 (aR 0) (fun _ => a0 3) (xy C) u.2.2.2.1 (wT (a0 3) (xy C) u.2.2.2.2.1 (wX2 (a0 7) aH (xy C) u.2.2.2.2.2.1 (wX2 (a0 8) aS (xy C) u.2.2.2.2.2.2.1 (wX7 (a0 9) aM (xy C) u.2.2.2.2.2.2.2 Y)))))))) (F := fun Z => Z) (X := []) (As := [.int (xs ((x3 + (1 : Int32))).toNatClampNeg)]) (rest := []) (u := (false, (cs 0), (cs 3), (cs 4), (cs 1), (cs 5), (cs 6), (cs 7))) hC (fun u Y => by cases u with | mk bb v => cases bb <;> rfl) (fun _ => rfl) (ctX11_house h) wvX11_house ml_L_54 (ci := 9) (q0 := 0) rfl rfl rfl rfl (by rw [hR0]; exact ⟨Nat.le_of_ble_eq_true rfl, Nat.le_of_ble_eq_true rfl⟩) (by rw [hR0]; exact ⟨Nat.le_of_ble_eq_true rfl, Nat.le_of_ble_eq_true rfl⟩) rfl (Nat.le_of_ble_eq_true rfl) dL_law_579 (fun r_8 u_9 h => ?_)
  obtain ⟨bb, u_1, u_2, u_3, u_4, u_5, u_6, u_7⟩ := u_9
  cases bb
  · refine g_aload_n (pc := 582) hC 2 dL_law_582 rfl rfl ?_
    refine g_aload_n (pc := 583) hC 0 dL_law_583 rfl rfl ?_
    refine g_iload_n (pc := 584) hC 3 dL_law_584 rfl rfl ?_
    refine g_iconst (pc := 585) (v := 1) hC dL_law_585 (by decide) ?_
    refine g_iadd (pc := 586) hC dL_law_586 ?_
    refine g_sld (pc := 587) hC hX hi.2.1 dL_law_587 ?_
    refine g_callV_i (pc := 588) (wd := fun (u : St) Y => (wX12 oM aP (xy C) u Y)) (F := fun Z => (wX11 oI a0 (xy C) u_1 (wX6 (a0 6) aR (xy C) u_2 (wX8 (aR 0) (fun _ => a0 3) (xy C) u_3 (wT (a0 3) (xy C) u_4 (wX2 (a0 7) aH (xy C) u_5 (wX2 (a0 8) aS (xy C) u_6 (wX7 (a0 9) aM (xy C) u_7 (wX9 (a0 5) aT (xy C) (cs 2) (wX7 (a0 10) aN (xy C) (cs 8) (wX4 (a0 11) aK hm tm (xy C) (cs 9) (wX2 (hm 0) b0 (xy C) (cs 10) (wX2 (hm 1) b1 (xy C) (cs 11) (wX2 (hm 2) b2 (xy C) (cs 12) (wX7 (tm 0) b3 (xy C) (cs 13) (wX7 (tm 1) b4 (xy C) (cs 14) (wX7 (tm 2) b5 (xy C) (cs 15) (wX3 (a0 14) aL (xy C) (cs 16) (wX3 (a0 15) aD (xy C) (cs 17) (wX0 (a0 16) aC (xy C) (cs 18) (wX5 (a0 17) aQ (xy C) (cs 19) Z))))))))))))))))))))) (X := (wX11 oI a0 (xy C) u_1 (wX6 (a0 6) aR (xy C) u_2 (wX8 (aR 0) (fun _ => a0 3) (xy C) u_3 (wT (a0 3) (xy C) u_4 (wX2 (a0 7) aH (xy C) u_5 (wX2 (a0 8) aS (xy C) u_6 (wX7 (a0 9) aM (xy C) u_7 (wX9 (a0 5) aT (xy C) (cs 2) (wX7 (a0 10) aN (xy C) (cs 8) (wX4 (a0 11) aK hm tm (xy C) (cs 9) (wX2 (hm 0) b0 (xy C) (cs 10) (wX2 (hm 1) b1 (xy C) (cs 11) (wX2 (hm 2) b2 (xy C) (cs 12) (wX7 (tm 0) b3 (xy C) (cs 13) (wX7 (tm 1) b4 (xy C) (cs 14) (wX7 (tm 2) b5 (xy C) (cs 15) (wX3 (a0 14) aL (xy C) (cs 16) (wX3 (a0 15) aD (xy C) (cs 17) (wX0 (a0 16) aC (xy C) (cs 18) (wX5 (a0 17) aQ (xy C) (cs 19) []))))))))))))))))))))) (As := [.int (xs ((x3 + (1 : Int32))).toNatClampNeg)]) (rest := [.int r_8]) (u := ms) hC (fun _ _ => rfl) (fun _ => rfl) (ctX12_house h) wvX12_house ml_L_58 (ci := 10) (q0 := 0) rfl rfl rfl rfl (by rw [hR0]; exact ⟨Nat.le_of_ble_eq_true rfl, Nat.le_of_ble_eq_true rfl⟩) (by rw [hR0]; exact ⟨Nat.le_of_ble_eq_true rfl, Nat.le_of_ble_eq_true rfl⟩) rfl (Nat.le_of_ble_eq_true rfl) dL_law_588 (fun r_11 u_10 h => ?_)
    refine g_icmp_eq (pc := 591) (tgt := 1783) hC dL_law_591 (by decide) (fun c => ?_) (fun c => absurd h.1 c)
    refine g_swap (F := fun Z => (wX11 oI a0 (xy C) u_1 (wX6 (a0 6) aR (xy C) u_2 Z))) (X := (wX11 oI a0 (xy C) u_1 (wX6 (a0 6) aR (xy C) u_2 []))) (f := fun Z => (wX8 (aR 0) (fun _ => a0 3) (xy C) u_3 Z)) (g := fun Z => (wT (a0 3) (xy C) u_4 Z)) (Y := (wX2 (a0 7) aH (xy C) u_5 (wX2 (a0 8) aS (xy C) u_6 (wX7 (a0 9) aM (xy C) u_7 (wX9 (a0 5) aT (xy C) (cs 2) (wX7 (a0 10) aN (xy C) (cs 8) (wX4 (a0 11) aK hm tm (xy C) (cs 9) (wX2 (hm 0) b0 (xy C) (cs 10) (wX2 (hm 1) b1 (xy C) (cs 11) (wX2 (hm 2) b2 (xy C) (cs 12) (wX7 (tm 0) b3 (xy C) (cs 13) (wX7 (tm 1) b4 (xy C) (cs 14) (wX7 (tm 2) b5 (xy C) (cs 15) (wX3 (a0 14) aL (xy C) (cs 16) (wX3 (a0 15) aD (xy C) (cs 17) (wX0 (a0 16) aC (xy C) (cs 18) (wX5 (a0 17) aQ (xy C) (cs 19) (wX12 oM aP (xy C) u_10 [])))))))))))))))))) (fun _ => rfl) (fun _ => rfl) (fun _ => rfl) ?_
    refine g_swap (F := fun Z => (wX11 oI a0 (xy C) u_1 (wX6 (a0 6) aR (xy C) u_2 (wT (a0 3) (xy C) u_4 (wX8 (aR 0) (fun _ => a0 3) (xy C) u_3 (wX2 (a0 7) aH (xy C) u_5 (wX2 (a0 8) aS (xy C) u_6 Z))))))) (X := (wX11 oI a0 (xy C) u_1 (wX6 (a0 6) aR (xy C) u_2 (wT (a0 3) (xy C) u_4 (wX8 (aR 0) (fun _ => a0 3) (xy C) u_3 (wX2 (a0 7) aH (xy C) u_5 (wX2 (a0 8) aS (xy C) u_6 []))))))) (f := fun Z => (wX7 (a0 9) aM (xy C) u_7 Z)) (g := fun Z => (wX9 (a0 5) aT (xy C) (cs 2) Z)) (Y := (wX7 (a0 10) aN (xy C) (cs 8) (wX4 (a0 11) aK hm tm (xy C) (cs 9) (wX2 (hm 0) b0 (xy C) (cs 10) (wX2 (hm 1) b1 (xy C) (cs 11) (wX2 (hm 2) b2 (xy C) (cs 12) (wX7 (tm 0) b3 (xy C) (cs 13) (wX7 (tm 1) b4 (xy C) (cs 14) (wX7 (tm 2) b5 (xy C) (cs 15) (wX3 (a0 14) aL (xy C) (cs 16) (wX3 (a0 15) aD (xy C) (cs 17) (wX0 (a0 16) aC (xy C) (cs 18) (wX5 (a0 17) aQ (xy C) (cs 19) (wX12 oM aP (xy C) u_10 [])))))))))))))) (fun _ => rfl) (fun _ => rfl) (fun _ => rfl) ?_
    refine g_swap (F := fun Z => (wX11 oI a0 (xy C) u_1 Z)) (X := (wX11 oI a0 (xy C) u_1 [])) (f := fun Z => (wX6 (a0 6) aR (xy C) u_2 Z)) (g := fun Z => (wT (a0 3) (xy C) u_4 Z)) (Y := (wX8 (aR 0) (fun _ => a0 3) (xy C) u_3 (wX2 (a0 7) aH (xy C) u_5 (wX2 (a0 8) aS (xy C) u_6 (wX9 (a0 5) aT (xy C) (cs 2) (wX7 (a0 9) aM (xy C) u_7 (wX7 (a0 10) aN (xy C) (cs 8) (wX4 (a0 11) aK hm tm (xy C) (cs 9) (wX2 (hm 0) b0 (xy C) (cs 10) (wX2 (hm 1) b1 (xy C) (cs 11) (wX2 (hm 2) b2 (xy C) (cs 12) (wX7 (tm 0) b3 (xy C) (cs 13) (wX7 (tm 1) b4 (xy C) (cs 14) (wX7 (tm 2) b5 (xy C) (cs 15) (wX3 (a0 14) aL (xy C) (cs 16) (wX3 (a0 15) aD (xy C) (cs 17) (wX0 (a0 16) aC (xy C) (cs 18) (wX5 (a0 17) aQ (xy C) (cs 19) (wX12 oM aP (xy C) u_10 []))))))))))))))))))) (fun _ => rfl) (fun _ => rfl) (fun _ => rfl) ?_
    refine g_swap (F := fun Z => (wX11 oI a0 (xy C) u_1 (wT (a0 3) (xy C) u_4 (wX6 (a0 6) aR (xy C) u_2 (wX8 (aR 0) (fun _ => a0 3) (xy C) u_3 (wX2 (a0 7) aH (xy C) u_5 Z)))))) (X := (wX11 oI a0 (xy C) u_1 (wT (a0 3) (xy C) u_4 (wX6 (a0 6) aR (xy C) u_2 (wX8 (aR 0) (fun _ => a0 3) (xy C) u_3 (wX2 (a0 7) aH (xy C) u_5 [])))))) (f := fun Z => (wX2 (a0 8) aS (xy C) u_6 Z)) (g := fun Z => (wX9 (a0 5) aT (xy C) (cs 2) Z)) (Y := (wX7 (a0 9) aM (xy C) u_7 (wX7 (a0 10) aN (xy C) (cs 8) (wX4 (a0 11) aK hm tm (xy C) (cs 9) (wX2 (hm 0) b0 (xy C) (cs 10) (wX2 (hm 1) b1 (xy C) (cs 11) (wX2 (hm 2) b2 (xy C) (cs 12) (wX7 (tm 0) b3 (xy C) (cs 13) (wX7 (tm 1) b4 (xy C) (cs 14) (wX7 (tm 2) b5 (xy C) (cs 15) (wX3 (a0 14) aL (xy C) (cs 16) (wX3 (a0 15) aD (xy C) (cs 17) (wX0 (a0 16) aC (xy C) (cs 18) (wX5 (a0 17) aQ (xy C) (cs 19) (wX12 oM aP (xy C) u_10 []))))))))))))))) (fun _ => rfl) (fun _ => rfl) (fun _ => rfl) ?_
    refine g_swap (F := fun Z => (wX11 oI a0 (xy C) u_1 (wT (a0 3) (xy C) u_4 (wX6 (a0 6) aR (xy C) u_2 (wX8 (aR 0) (fun _ => a0 3) (xy C) u_3 Z))))) (X := (wX11 oI a0 (xy C) u_1 (wT (a0 3) (xy C) u_4 (wX6 (a0 6) aR (xy C) u_2 (wX8 (aR 0) (fun _ => a0 3) (xy C) u_3 []))))) (f := fun Z => (wX2 (a0 7) aH (xy C) u_5 Z)) (g := fun Z => (wX9 (a0 5) aT (xy C) (cs 2) Z)) (Y := (wX2 (a0 8) aS (xy C) u_6 (wX7 (a0 9) aM (xy C) u_7 (wX7 (a0 10) aN (xy C) (cs 8) (wX4 (a0 11) aK hm tm (xy C) (cs 9) (wX2 (hm 0) b0 (xy C) (cs 10) (wX2 (hm 1) b1 (xy C) (cs 11) (wX2 (hm 2) b2 (xy C) (cs 12) (wX7 (tm 0) b3 (xy C) (cs 13) (wX7 (tm 1) b4 (xy C) (cs 14) (wX7 (tm 2) b5 (xy C) (cs 15) (wX3 (a0 14) aL (xy C) (cs 16) (wX3 (a0 15) aD (xy C) (cs 17) (wX0 (a0 16) aC (xy C) (cs 18) (wX5 (a0 17) aQ (xy C) (cs 19) (wX12 oM aP (xy C) u_10 [])))))))))))))))) (fun _ => rfl) (fun _ => rfl) (fun _ => rfl) ?_
    refine g_swap (F := fun Z => (wX11 oI a0 (xy C) u_1 (wT (a0 3) (xy C) u_4 (wX6 (a0 6) aR (xy C) u_2 Z)))) (X := (wX11 oI a0 (xy C) u_1 (wT (a0 3) (xy C) u_4 (wX6 (a0 6) aR (xy C) u_2 [])))) (f := fun Z => (wX8 (aR 0) (fun _ => a0 3) (xy C) u_3 Z)) (g := fun Z => (wX9 (a0 5) aT (xy C) (cs 2) Z)) (Y := (wX2 (a0 7) aH (xy C) u_5 (wX2 (a0 8) aS (xy C) u_6 (wX7 (a0 9) aM (xy C) u_7 (wX7 (a0 10) aN (xy C) (cs 8) (wX4 (a0 11) aK hm tm (xy C) (cs 9) (wX2 (hm 0) b0 (xy C) (cs 10) (wX2 (hm 1) b1 (xy C) (cs 11) (wX2 (hm 2) b2 (xy C) (cs 12) (wX7 (tm 0) b3 (xy C) (cs 13) (wX7 (tm 1) b4 (xy C) (cs 14) (wX7 (tm 2) b5 (xy C) (cs 15) (wX3 (a0 14) aL (xy C) (cs 16) (wX3 (a0 15) aD (xy C) (cs 17) (wX0 (a0 16) aC (xy C) (cs 18) (wX5 (a0 17) aQ (xy C) (cs 19) (wX12 oM aP (xy C) u_10 []))))))))))))))))) (fun _ => rfl) (fun _ => rfl) (fun _ => rfl) ?_
    refine g_swap (F := fun Z => (wX11 oI a0 (xy C) u_1 (wT (a0 3) (xy C) u_4 Z))) (X := (wX11 oI a0 (xy C) u_1 (wT (a0 3) (xy C) u_4 []))) (f := fun Z => (wX6 (a0 6) aR (xy C) u_2 Z)) (g := fun Z => (wX9 (a0 5) aT (xy C) (cs 2) Z)) (Y := (wX8 (aR 0) (fun _ => a0 3) (xy C) u_3 (wX2 (a0 7) aH (xy C) u_5 (wX2 (a0 8) aS (xy C) u_6 (wX7 (a0 9) aM (xy C) u_7 (wX7 (a0 10) aN (xy C) (cs 8) (wX4 (a0 11) aK hm tm (xy C) (cs 9) (wX2 (hm 0) b0 (xy C) (cs 10) (wX2 (hm 1) b1 (xy C) (cs 11) (wX2 (hm 2) b2 (xy C) (cs 12) (wX7 (tm 0) b3 (xy C) (cs 13) (wX7 (tm 1) b4 (xy C) (cs 14) (wX7 (tm 2) b5 (xy C) (cs 15) (wX3 (a0 14) aL (xy C) (cs 16) (wX3 (a0 15) aD (xy C) (cs 17) (wX0 (a0 16) aC (xy C) (cs 18) (wX5 (a0 17) aQ (xy C) (cs 19) (wX12 oM aP (xy C) u_10 [])))))))))))))))))) (fun _ => rfl) (fun _ => rfl) (fun _ => rfl) ?_
    exact hk a0 aT aR aH aS aM aN aK hm tm b0 b1 b2 b3 b4 b5 aL aD aC aQ aP (va_up (va_up (va_up (va_up (va_up (va_up (va_up cs 0 u_1) 1 u_4) 3 u_2) 4 u_3) 5 u_5) 6 u_6) 7 u_7) u_10 h.2
  · refine g_aload_n (pc := 582) hC 2 dL_law_582 rfl rfl ?_
    refine g_aload_n (pc := 583) hC 0 dL_law_583 rfl rfl ?_
    refine g_iload_n (pc := 584) hC 3 dL_law_584 rfl rfl ?_
    refine g_iconst (pc := 585) (v := 1) hC dL_law_585 (by decide) ?_
    refine g_iadd (pc := 586) hC dL_law_586 ?_
    refine g_sld (pc := 587) hC hX hi.2.1 dL_law_587 ?_
    refine g_callV_i (pc := 588) (wd := fun (u : St) Y => (wX12 oM aP (xy C) u Y)) (F := fun Z => (wX11 oI (va_up (va_up a0 7 (a0 8)) 8 (a0 7)) (xy C) u_1 (wX6 (a0 6) aR (xy C) u_2 (wX8 (aR 0) (fun _ => a0 3) (xy C) u_3 (wT (a0 3) (xy C) u_4 (wX2 (a0 8) aS (xy C) u_5 (wX2 (a0 7) aH (xy C) u_6 (wX7 (a0 9) aM (xy C) u_7 (wX9 (a0 5) aT (xy C) (cs 2) (wX7 (a0 10) aN (xy C) (cs 8) (wX4 (a0 11) aK hm tm (xy C) (cs 9) (wX2 (hm 0) b0 (xy C) (cs 10) (wX2 (hm 1) b1 (xy C) (cs 11) (wX2 (hm 2) b2 (xy C) (cs 12) (wX7 (tm 0) b3 (xy C) (cs 13) (wX7 (tm 1) b4 (xy C) (cs 14) (wX7 (tm 2) b5 (xy C) (cs 15) (wX3 (a0 14) aL (xy C) (cs 16) (wX3 (a0 15) aD (xy C) (cs 17) (wX0 (a0 16) aC (xy C) (cs 18) (wX5 (a0 17) aQ (xy C) (cs 19) Z))))))))))))))))))))) (X := (wX11 oI (va_up (va_up a0 7 (a0 8)) 8 (a0 7)) (xy C) u_1 (wX6 (a0 6) aR (xy C) u_2 (wX8 (aR 0) (fun _ => a0 3) (xy C) u_3 (wT (a0 3) (xy C) u_4 (wX2 (a0 8) aS (xy C) u_5 (wX2 (a0 7) aH (xy C) u_6 (wX7 (a0 9) aM (xy C) u_7 (wX9 (a0 5) aT (xy C) (cs 2) (wX7 (a0 10) aN (xy C) (cs 8) (wX4 (a0 11) aK hm tm (xy C) (cs 9) (wX2 (hm 0) b0 (xy C) (cs 10) (wX2 (hm 1) b1 (xy C) (cs 11) (wX2 (hm 2) b2 (xy C) (cs 12) (wX7 (tm 0) b3 (xy C) (cs 13) (wX7 (tm 1) b4 (xy C) (cs 14) (wX7 (tm 2) b5 (xy C) (cs 15) (wX3 (a0 14) aL (xy C) (cs 16) (wX3 (a0 15) aD (xy C) (cs 17) (wX0 (a0 16) aC (xy C) (cs 18) (wX5 (a0 17) aQ (xy C) (cs 19) []))))))))))))))))))))) (As := [.int (xs ((x3 + (1 : Int32))).toNatClampNeg)]) (rest := [.int r_8]) (u := ms) hC (fun _ _ => rfl) (fun _ => rfl) (ctX12_house h) wvX12_house ml_L_58 (ci := 10) (q0 := 0) rfl rfl rfl rfl (by rw [hR0]; exact ⟨Nat.le_of_ble_eq_true rfl, Nat.le_of_ble_eq_true rfl⟩) (by rw [hR0]; exact ⟨Nat.le_of_ble_eq_true rfl, Nat.le_of_ble_eq_true rfl⟩) rfl (Nat.le_of_ble_eq_true rfl) dL_law_588 (fun r_14 u_13 h => ?_)
    refine g_icmp_eq (pc := 591) (tgt := 1783) hC dL_law_591 (by decide) (fun c => ?_) (fun c => absurd h.1 c)
    refine g_swap (F := fun Z => (wX11 oI (va_up (va_up a0 7 (a0 8)) 8 (a0 7)) (xy C) u_1 (wX6 (a0 6) aR (xy C) u_2 Z))) (X := (wX11 oI (va_up (va_up a0 7 (a0 8)) 8 (a0 7)) (xy C) u_1 (wX6 (a0 6) aR (xy C) u_2 []))) (f := fun Z => (wX8 (aR 0) (fun _ => a0 3) (xy C) u_3 Z)) (g := fun Z => (wT (a0 3) (xy C) u_4 Z)) (Y := (wX2 (a0 8) aS (xy C) u_5 (wX2 (a0 7) aH (xy C) u_6 (wX7 (a0 9) aM (xy C) u_7 (wX9 (a0 5) aT (xy C) (cs 2) (wX7 (a0 10) aN (xy C) (cs 8) (wX4 (a0 11) aK hm tm (xy C) (cs 9) (wX2 (hm 0) b0 (xy C) (cs 10) (wX2 (hm 1) b1 (xy C) (cs 11) (wX2 (hm 2) b2 (xy C) (cs 12) (wX7 (tm 0) b3 (xy C) (cs 13) (wX7 (tm 1) b4 (xy C) (cs 14) (wX7 (tm 2) b5 (xy C) (cs 15) (wX3 (a0 14) aL (xy C) (cs 16) (wX3 (a0 15) aD (xy C) (cs 17) (wX0 (a0 16) aC (xy C) (cs 18) (wX5 (a0 17) aQ (xy C) (cs 19) (wX12 oM aP (xy C) u_13 [])))))))))))))))))) (fun _ => rfl) (fun _ => rfl) (fun _ => rfl) ?_
    refine g_swap (F := fun Z => (wX11 oI (va_up (va_up a0 7 (a0 8)) 8 (a0 7)) (xy C) u_1 (wX6 (a0 6) aR (xy C) u_2 (wT (a0 3) (xy C) u_4 (wX8 (aR 0) (fun _ => a0 3) (xy C) u_3 (wX2 (a0 8) aS (xy C) u_5 (wX2 (a0 7) aH (xy C) u_6 Z))))))) (X := (wX11 oI (va_up (va_up a0 7 (a0 8)) 8 (a0 7)) (xy C) u_1 (wX6 (a0 6) aR (xy C) u_2 (wT (a0 3) (xy C) u_4 (wX8 (aR 0) (fun _ => a0 3) (xy C) u_3 (wX2 (a0 8) aS (xy C) u_5 (wX2 (a0 7) aH (xy C) u_6 []))))))) (f := fun Z => (wX7 (a0 9) aM (xy C) u_7 Z)) (g := fun Z => (wX9 (a0 5) aT (xy C) (cs 2) Z)) (Y := (wX7 (a0 10) aN (xy C) (cs 8) (wX4 (a0 11) aK hm tm (xy C) (cs 9) (wX2 (hm 0) b0 (xy C) (cs 10) (wX2 (hm 1) b1 (xy C) (cs 11) (wX2 (hm 2) b2 (xy C) (cs 12) (wX7 (tm 0) b3 (xy C) (cs 13) (wX7 (tm 1) b4 (xy C) (cs 14) (wX7 (tm 2) b5 (xy C) (cs 15) (wX3 (a0 14) aL (xy C) (cs 16) (wX3 (a0 15) aD (xy C) (cs 17) (wX0 (a0 16) aC (xy C) (cs 18) (wX5 (a0 17) aQ (xy C) (cs 19) (wX12 oM aP (xy C) u_13 [])))))))))))))) (fun _ => rfl) (fun _ => rfl) (fun _ => rfl) ?_
    refine g_swap (F := fun Z => (wX11 oI (va_up (va_up a0 7 (a0 8)) 8 (a0 7)) (xy C) u_1 Z)) (X := (wX11 oI (va_up (va_up a0 7 (a0 8)) 8 (a0 7)) (xy C) u_1 [])) (f := fun Z => (wX6 (a0 6) aR (xy C) u_2 Z)) (g := fun Z => (wT (a0 3) (xy C) u_4 Z)) (Y := (wX8 (aR 0) (fun _ => a0 3) (xy C) u_3 (wX2 (a0 8) aS (xy C) u_5 (wX2 (a0 7) aH (xy C) u_6 (wX9 (a0 5) aT (xy C) (cs 2) (wX7 (a0 9) aM (xy C) u_7 (wX7 (a0 10) aN (xy C) (cs 8) (wX4 (a0 11) aK hm tm (xy C) (cs 9) (wX2 (hm 0) b0 (xy C) (cs 10) (wX2 (hm 1) b1 (xy C) (cs 11) (wX2 (hm 2) b2 (xy C) (cs 12) (wX7 (tm 0) b3 (xy C) (cs 13) (wX7 (tm 1) b4 (xy C) (cs 14) (wX7 (tm 2) b5 (xy C) (cs 15) (wX3 (a0 14) aL (xy C) (cs 16) (wX3 (a0 15) aD (xy C) (cs 17) (wX0 (a0 16) aC (xy C) (cs 18) (wX5 (a0 17) aQ (xy C) (cs 19) (wX12 oM aP (xy C) u_13 []))))))))))))))))))) (fun _ => rfl) (fun _ => rfl) (fun _ => rfl) ?_
    refine g_swap (F := fun Z => (wX11 oI (va_up (va_up a0 7 (a0 8)) 8 (a0 7)) (xy C) u_1 (wT (a0 3) (xy C) u_4 (wX6 (a0 6) aR (xy C) u_2 (wX8 (aR 0) (fun _ => a0 3) (xy C) u_3 (wX2 (a0 8) aS (xy C) u_5 Z)))))) (X := (wX11 oI (va_up (va_up a0 7 (a0 8)) 8 (a0 7)) (xy C) u_1 (wT (a0 3) (xy C) u_4 (wX6 (a0 6) aR (xy C) u_2 (wX8 (aR 0) (fun _ => a0 3) (xy C) u_3 (wX2 (a0 8) aS (xy C) u_5 [])))))) (f := fun Z => (wX2 (a0 7) aH (xy C) u_6 Z)) (g := fun Z => (wX9 (a0 5) aT (xy C) (cs 2) Z)) (Y := (wX7 (a0 9) aM (xy C) u_7 (wX7 (a0 10) aN (xy C) (cs 8) (wX4 (a0 11) aK hm tm (xy C) (cs 9) (wX2 (hm 0) b0 (xy C) (cs 10) (wX2 (hm 1) b1 (xy C) (cs 11) (wX2 (hm 2) b2 (xy C) (cs 12) (wX7 (tm 0) b3 (xy C) (cs 13) (wX7 (tm 1) b4 (xy C) (cs 14) (wX7 (tm 2) b5 (xy C) (cs 15) (wX3 (a0 14) aL (xy C) (cs 16) (wX3 (a0 15) aD (xy C) (cs 17) (wX0 (a0 16) aC (xy C) (cs 18) (wX5 (a0 17) aQ (xy C) (cs 19) (wX12 oM aP (xy C) u_13 []))))))))))))))) (fun _ => rfl) (fun _ => rfl) (fun _ => rfl) ?_
    refine g_swap (F := fun Z => (wX11 oI (va_up (va_up a0 7 (a0 8)) 8 (a0 7)) (xy C) u_1 (wT (a0 3) (xy C) u_4 (wX6 (a0 6) aR (xy C) u_2 (wX8 (aR 0) (fun _ => a0 3) (xy C) u_3 Z))))) (X := (wX11 oI (va_up (va_up a0 7 (a0 8)) 8 (a0 7)) (xy C) u_1 (wT (a0 3) (xy C) u_4 (wX6 (a0 6) aR (xy C) u_2 (wX8 (aR 0) (fun _ => a0 3) (xy C) u_3 []))))) (f := fun Z => (wX2 (a0 8) aS (xy C) u_5 Z)) (g := fun Z => (wX9 (a0 5) aT (xy C) (cs 2) Z)) (Y := (wX2 (a0 7) aH (xy C) u_6 (wX7 (a0 9) aM (xy C) u_7 (wX7 (a0 10) aN (xy C) (cs 8) (wX4 (a0 11) aK hm tm (xy C) (cs 9) (wX2 (hm 0) b0 (xy C) (cs 10) (wX2 (hm 1) b1 (xy C) (cs 11) (wX2 (hm 2) b2 (xy C) (cs 12) (wX7 (tm 0) b3 (xy C) (cs 13) (wX7 (tm 1) b4 (xy C) (cs 14) (wX7 (tm 2) b5 (xy C) (cs 15) (wX3 (a0 14) aL (xy C) (cs 16) (wX3 (a0 15) aD (xy C) (cs 17) (wX0 (a0 16) aC (xy C) (cs 18) (wX5 (a0 17) aQ (xy C) (cs 19) (wX12 oM aP (xy C) u_13 [])))))))))))))))) (fun _ => rfl) (fun _ => rfl) (fun _ => rfl) ?_
    refine g_swap (F := fun Z => (wX11 oI (va_up (va_up a0 7 (a0 8)) 8 (a0 7)) (xy C) u_1 (wT (a0 3) (xy C) u_4 (wX6 (a0 6) aR (xy C) u_2 Z)))) (X := (wX11 oI (va_up (va_up a0 7 (a0 8)) 8 (a0 7)) (xy C) u_1 (wT (a0 3) (xy C) u_4 (wX6 (a0 6) aR (xy C) u_2 [])))) (f := fun Z => (wX8 (aR 0) (fun _ => a0 3) (xy C) u_3 Z)) (g := fun Z => (wX9 (a0 5) aT (xy C) (cs 2) Z)) (Y := (wX2 (a0 8) aS (xy C) u_5 (wX2 (a0 7) aH (xy C) u_6 (wX7 (a0 9) aM (xy C) u_7 (wX7 (a0 10) aN (xy C) (cs 8) (wX4 (a0 11) aK hm tm (xy C) (cs 9) (wX2 (hm 0) b0 (xy C) (cs 10) (wX2 (hm 1) b1 (xy C) (cs 11) (wX2 (hm 2) b2 (xy C) (cs 12) (wX7 (tm 0) b3 (xy C) (cs 13) (wX7 (tm 1) b4 (xy C) (cs 14) (wX7 (tm 2) b5 (xy C) (cs 15) (wX3 (a0 14) aL (xy C) (cs 16) (wX3 (a0 15) aD (xy C) (cs 17) (wX0 (a0 16) aC (xy C) (cs 18) (wX5 (a0 17) aQ (xy C) (cs 19) (wX12 oM aP (xy C) u_13 []))))))))))))))))) (fun _ => rfl) (fun _ => rfl) (fun _ => rfl) ?_
    refine g_swap (F := fun Z => (wX11 oI (va_up (va_up a0 7 (a0 8)) 8 (a0 7)) (xy C) u_1 (wT (a0 3) (xy C) u_4 Z))) (X := (wX11 oI (va_up (va_up a0 7 (a0 8)) 8 (a0 7)) (xy C) u_1 (wT (a0 3) (xy C) u_4 []))) (f := fun Z => (wX6 (a0 6) aR (xy C) u_2 Z)) (g := fun Z => (wX9 (a0 5) aT (xy C) (cs 2) Z)) (Y := (wX8 (aR 0) (fun _ => a0 3) (xy C) u_3 (wX2 (a0 8) aS (xy C) u_5 (wX2 (a0 7) aH (xy C) u_6 (wX7 (a0 9) aM (xy C) u_7 (wX7 (a0 10) aN (xy C) (cs 8) (wX4 (a0 11) aK hm tm (xy C) (cs 9) (wX2 (hm 0) b0 (xy C) (cs 10) (wX2 (hm 1) b1 (xy C) (cs 11) (wX2 (hm 2) b2 (xy C) (cs 12) (wX7 (tm 0) b3 (xy C) (cs 13) (wX7 (tm 1) b4 (xy C) (cs 14) (wX7 (tm 2) b5 (xy C) (cs 15) (wX3 (a0 14) aL (xy C) (cs 16) (wX3 (a0 15) aD (xy C) (cs 17) (wX0 (a0 16) aC (xy C) (cs 18) (wX5 (a0 17) aQ (xy C) (cs 19) (wX12 oM aP (xy C) u_13 [])))))))))))))))))) (fun _ => rfl) (fun _ => rfl) (fun _ => rfl) ?_
    exact hk (va_up (va_up a0 7 (a0 8)) 8 (a0 7)) aT aR aS aH aM aN aK hm tm b0 b1 b2 b3 b4 b5 aL aD aC aQ aP (va_up (va_up (va_up (va_up (va_up (va_up (va_up cs 0 u_1) 1 u_4) 3 u_2) 4 u_3) 5 u_5) 6 u_6) 7 u_7) u_13 h.2
theorem dL_law_596 : decode cL_law 596 = .ok (.aload_n 1, 1) := by decide +kernel
theorem dL_law_597 : decode cL_law 597 = .ok (.aload_n 0, 1) := by decide +kernel
theorem dL_law_598 : decode cL_law 598 = .ok (.iload_n 3, 1) := by decide +kernel
theorem dL_law_599 : decode cL_law 599 = .ok (.iconst 1, 1) := by decide +kernel
theorem dL_law_600 : decode cL_law 600 = .ok (.iadd, 1) := by decide +kernel
theorem dL_law_601 : decode cL_law 601 = .ok (.iaload, 1) := by decide +kernel
theorem dL_law_602 : decode cL_law 602 = .ok (.invokevirtual 59, 3) := by decide +kernel
theorem dL_law_605 : decode cL_law 605 = .ok (.aload_n 2, 1) := by decide +kernel
theorem dL_law_606 : decode cL_law 606 = .ok (.aload_n 0, 1) := by decide +kernel
theorem dL_law_607 : decode cL_law 607 = .ok (.iload_n 3, 1) := by decide +kernel
theorem dL_law_608 : decode cL_law 608 = .ok (.iconst 1, 1) := by decide +kernel
theorem dL_law_609 : decode cL_law 609 = .ok (.iadd, 1) := by decide +kernel
theorem dL_law_610 : decode cL_law 610 = .ok (.iaload, 1) := by decide +kernel
theorem dL_law_611 : decode cL_law 611 = .ok (.invokevirtual 62, 3) := by decide +kernel
theorem dL_law_614 : decode cL_law 614 = .ok (.if_icmp .eq 1169, 3) := by decide +kernel
set_option maxRecDepth 100000 in
set_option maxHeartbeats 8000000 in
theorem law_times {C : Cx} {R : (Nat → St) → St → Prop} {oI oM b L : Nat} {xs : Nat → Int32} {a0 aT aR aH aS aM aN aK hm tm b0 b1 b2 b3 b4 b5 aL aD aC aQ aP : Nat → Nat} {cs : Nat → St} {ms : St} {x3 : Int32} (hC : Fx C cL_law 4 RL) (hR0 : xR C = room_1) (hX : LwX C b L xs) (hi : InS L x3) (hs : SP_times R) (hr : R cs ms) (hk : LBack C R oI oM b x3) : G C 137 9713 4 (lwW oI oM a0 aT aR aH aS aM aN aK hm tm b0 b1 b2 b3 b4 b5 aL aD aC aQ aP (xy C) cs ms) 596 [(0, .ref b), (1, .ref oI), (2, .ref oM), (3, .int x3)] [] := by
  refine g_eq (σ' := (wX11 oI a0 (xy C) (cs 0) (wT (a0 3) (xy C) (cs 1) (wX9 (a0 5) aT (xy C) (cs 2) (wX6 (a0 6) aR (xy C) (cs 3) (wX8 (aR 0) (fun _ => a0 3) (xy C) (cs 4) (wX2 (a0 7) aH (xy C) (cs 5) (wX2 (a0 8) aS (xy C) (cs 6) (wX7 (a0 9) aM (xy C) (cs 7) (wX7 (a0 10) aN (xy C) (cs 8) (wX4 (a0 11) aK hm tm (xy C) (cs 9) (wX2 (hm 0) b0 (xy C) (cs 10) (wX2 (hm 1) b1 (xy C) (cs 11) (wX2 (hm 2) b2 (xy C) (cs 12) (wX7 (tm 0) b3 (xy C) (cs 13) (wX7 (tm 1) b4 (xy C) (cs 14) (wX7 (tm 2) b5 (xy C) (cs 15) (wX3 (a0 14) aL (xy C) (cs 16) (wX3 (a0 15) aD (xy C) (cs 17) (wX0 (a0 16) aC (xy C) (cs 18) (wX5 (a0 17) aQ (xy C) (cs 19) (wX12 oM aP (xy C) ms [])))))))))))))))))))))) rfl ?_
  refine g_aload_n (pc := 596) hC 1 dL_law_596 rfl rfl ?_
  refine g_aload_n (pc := 597) hC 0 dL_law_597 rfl rfl ?_
  refine g_iload_n (pc := 598) hC 3 dL_law_598 rfl rfl ?_
  refine g_iconst (pc := 599) (v := 1) hC dL_law_599 (by decide) ?_
  refine g_iadd (pc := 600) hC dL_law_600 ?_
  refine g_sld (pc := 601) hC hX hi.2.1 dL_law_601 ?_
  have h := hs (xs ((x3 + (1 : Int32))).toNatClampNeg) cs ms  hr
  refine g_swap (F := fun Z => (wX11 oI a0 (xy C) (cs 0) (wT (a0 3) (xy C) (cs 1) Z))) (X := (wX11 oI a0 (xy C) (cs 0) (wT (a0 3) (xy C) (cs 1) []))) (f := fun Z => (wX9 (a0 5) aT (xy C) (cs 2) Z)) (g := fun Z => (wX6 (a0 6) aR (xy C) (cs 3) Z)) (Y := (wX8 (aR 0) (fun _ => a0 3) (xy C) (cs 4) (wX2 (a0 7) aH (xy C) (cs 5) (wX2 (a0 8) aS (xy C) (cs 6) (wX7 (a0 9) aM (xy C) (cs 7) (wX7 (a0 10) aN (xy C) (cs 8) (wX4 (a0 11) aK hm tm (xy C) (cs 9) (wX2 (hm 0) b0 (xy C) (cs 10) (wX2 (hm 1) b1 (xy C) (cs 11) (wX2 (hm 2) b2 (xy C) (cs 12) (wX7 (tm 0) b3 (xy C) (cs 13) (wX7 (tm 1) b4 (xy C) (cs 14) (wX7 (tm 2) b5 (xy C) (cs 15) (wX3 (a0 14) aL (xy C) (cs 16) (wX3 (a0 15) aD (xy C) (cs 17) (wX0 (a0 16) aC (xy C) (cs 18) (wX5 (a0 17) aQ (xy C) (cs 19) (wX12 oM aP (xy C) ms [])))))))))))))))))) (fun _ => rfl) (fun _ => rfl) (fun _ => rfl) ?_
  refine g_swap (F := fun Z => (wX11 oI a0 (xy C) (cs 0) Z)) (X := (wX11 oI a0 (xy C) (cs 0) [])) (f := fun Z => (wT (a0 3) (xy C) (cs 1) Z)) (g := fun Z => (wX6 (a0 6) aR (xy C) (cs 3) Z)) (Y := (wX9 (a0 5) aT (xy C) (cs 2) (wX8 (aR 0) (fun _ => a0 3) (xy C) (cs 4) (wX2 (a0 7) aH (xy C) (cs 5) (wX2 (a0 8) aS (xy C) (cs 6) (wX7 (a0 9) aM (xy C) (cs 7) (wX7 (a0 10) aN (xy C) (cs 8) (wX4 (a0 11) aK hm tm (xy C) (cs 9) (wX2 (hm 0) b0 (xy C) (cs 10) (wX2 (hm 1) b1 (xy C) (cs 11) (wX2 (hm 2) b2 (xy C) (cs 12) (wX7 (tm 0) b3 (xy C) (cs 13) (wX7 (tm 1) b4 (xy C) (cs 14) (wX7 (tm 2) b5 (xy C) (cs 15) (wX3 (a0 14) aL (xy C) (cs 16) (wX3 (a0 15) aD (xy C) (cs 17) (wX0 (a0 16) aC (xy C) (cs 18) (wX5 (a0 17) aQ (xy C) (cs 19) (wX12 oM aP (xy C) ms []))))))))))))))))))) (fun _ => rfl) (fun _ => rfl) (fun _ => rfl) ?_
  refine g_swap (F := fun Z => (wX11 oI a0 (xy C) (cs 0) (wX6 (a0 6) aR (xy C) (cs 3) (wT (a0 3) (xy C) (cs 1) Z)))) (X := (wX11 oI a0 (xy C) (cs 0) (wX6 (a0 6) aR (xy C) (cs 3) (wT (a0 3) (xy C) (cs 1) [])))) (f := fun Z => (wX9 (a0 5) aT (xy C) (cs 2) Z)) (g := fun Z => (wX8 (aR 0) (fun _ => a0 3) (xy C) (cs 4) Z)) (Y := (wX2 (a0 7) aH (xy C) (cs 5) (wX2 (a0 8) aS (xy C) (cs 6) (wX7 (a0 9) aM (xy C) (cs 7) (wX7 (a0 10) aN (xy C) (cs 8) (wX4 (a0 11) aK hm tm (xy C) (cs 9) (wX2 (hm 0) b0 (xy C) (cs 10) (wX2 (hm 1) b1 (xy C) (cs 11) (wX2 (hm 2) b2 (xy C) (cs 12) (wX7 (tm 0) b3 (xy C) (cs 13) (wX7 (tm 1) b4 (xy C) (cs 14) (wX7 (tm 2) b5 (xy C) (cs 15) (wX3 (a0 14) aL (xy C) (cs 16) (wX3 (a0 15) aD (xy C) (cs 17) (wX0 (a0 16) aC (xy C) (cs 18) (wX5 (a0 17) aQ (xy C) (cs 19) (wX12 oM aP (xy C) ms []))))))))))))))))) (fun _ => rfl) (fun _ => rfl) (fun _ => rfl) ?_
  refine g_swap (F := fun Z => (wX11 oI a0 (xy C) (cs 0) (wX6 (a0 6) aR (xy C) (cs 3) Z))) (X := (wX11 oI a0 (xy C) (cs 0) (wX6 (a0 6) aR (xy C) (cs 3) []))) (f := fun Z => (wT (a0 3) (xy C) (cs 1) Z)) (g := fun Z => (wX8 (aR 0) (fun _ => a0 3) (xy C) (cs 4) Z)) (Y := (wX9 (a0 5) aT (xy C) (cs 2) (wX2 (a0 7) aH (xy C) (cs 5) (wX2 (a0 8) aS (xy C) (cs 6) (wX7 (a0 9) aM (xy C) (cs 7) (wX7 (a0 10) aN (xy C) (cs 8) (wX4 (a0 11) aK hm tm (xy C) (cs 9) (wX2 (hm 0) b0 (xy C) (cs 10) (wX2 (hm 1) b1 (xy C) (cs 11) (wX2 (hm 2) b2 (xy C) (cs 12) (wX7 (tm 0) b3 (xy C) (cs 13) (wX7 (tm 1) b4 (xy C) (cs 14) (wX7 (tm 2) b5 (xy C) (cs 15) (wX3 (a0 14) aL (xy C) (cs 16) (wX3 (a0 15) aD (xy C) (cs 17) (wX0 (a0 16) aC (xy C) (cs 18) (wX5 (a0 17) aQ (xy C) (cs 19) (wX12 oM aP (xy C) ms [])))))))))))))))))) (fun _ => rfl) (fun _ => rfl) (fun _ => rfl) ?_
  refine g_swap (F := fun Z => (wX11 oI a0 (xy C) (cs 0) (wX6 (a0 6) aR (xy C) (cs 3) (wX8 (aR 0) (fun _ => a0 3) (xy C) (cs 4) (wT (a0 3) (xy C) (cs 1) Z))))) (X := (wX11 oI a0 (xy C) (cs 0) (wX6 (a0 6) aR (xy C) (cs 3) (wX8 (aR 0) (fun _ => a0 3) (xy C) (cs 4) (wT (a0 3) (xy C) (cs 1) []))))) (f := fun Z => (wX9 (a0 5) aT (xy C) (cs 2) Z)) (g := fun Z => (wX2 (a0 7) aH (xy C) (cs 5) Z)) (Y := (wX2 (a0 8) aS (xy C) (cs 6) (wX7 (a0 9) aM (xy C) (cs 7) (wX7 (a0 10) aN (xy C) (cs 8) (wX4 (a0 11) aK hm tm (xy C) (cs 9) (wX2 (hm 0) b0 (xy C) (cs 10) (wX2 (hm 1) b1 (xy C) (cs 11) (wX2 (hm 2) b2 (xy C) (cs 12) (wX7 (tm 0) b3 (xy C) (cs 13) (wX7 (tm 1) b4 (xy C) (cs 14) (wX7 (tm 2) b5 (xy C) (cs 15) (wX3 (a0 14) aL (xy C) (cs 16) (wX3 (a0 15) aD (xy C) (cs 17) (wX0 (a0 16) aC (xy C) (cs 18) (wX5 (a0 17) aQ (xy C) (cs 19) (wX12 oM aP (xy C) ms [])))))))))))))))) (fun _ => rfl) (fun _ => rfl) (fun _ => rfl) ?_
  refine g_swap (F := fun Z => (wX11 oI a0 (xy C) (cs 0) (wX6 (a0 6) aR (xy C) (cs 3) (wX8 (aR 0) (fun _ => a0 3) (xy C) (cs 4) (wT (a0 3) (xy C) (cs 1) (wX2 (a0 7) aH (xy C) (cs 5) (wX9 (a0 5) aT (xy C) (cs 2) Z))))))) (X := (wX11 oI a0 (xy C) (cs 0) (wX6 (a0 6) aR (xy C) (cs 3) (wX8 (aR 0) (fun _ => a0 3) (xy C) (cs 4) (wT (a0 3) (xy C) (cs 1) (wX2 (a0 7) aH (xy C) (cs 5) (wX9 (a0 5) aT (xy C) (cs 2) []))))))) (f := fun Z => (wX2 (a0 8) aS (xy C) (cs 6) Z)) (g := fun Z => (wX7 (a0 9) aM (xy C) (cs 7) Z)) (Y := (wX7 (a0 10) aN (xy C) (cs 8) (wX4 (a0 11) aK hm tm (xy C) (cs 9) (wX2 (hm 0) b0 (xy C) (cs 10) (wX2 (hm 1) b1 (xy C) (cs 11) (wX2 (hm 2) b2 (xy C) (cs 12) (wX7 (tm 0) b3 (xy C) (cs 13) (wX7 (tm 1) b4 (xy C) (cs 14) (wX7 (tm 2) b5 (xy C) (cs 15) (wX3 (a0 14) aL (xy C) (cs 16) (wX3 (a0 15) aD (xy C) (cs 17) (wX0 (a0 16) aC (xy C) (cs 18) (wX5 (a0 17) aQ (xy C) (cs 19) (wX12 oM aP (xy C) ms [])))))))))))))) (fun _ => rfl) (fun _ => rfl) (fun _ => rfl) ?_
  refine g_swap (F := fun Z => (wX11 oI a0 (xy C) (cs 0) (wX6 (a0 6) aR (xy C) (cs 3) (wX8 (aR 0) (fun _ => a0 3) (xy C) (cs 4) (wT (a0 3) (xy C) (cs 1) (wX2 (a0 7) aH (xy C) (cs 5) Z)))))) (X := (wX11 oI a0 (xy C) (cs 0) (wX6 (a0 6) aR (xy C) (cs 3) (wX8 (aR 0) (fun _ => a0 3) (xy C) (cs 4) (wT (a0 3) (xy C) (cs 1) (wX2 (a0 7) aH (xy C) (cs 5) [])))))) (f := fun Z => (wX9 (a0 5) aT (xy C) (cs 2) Z)) (g := fun Z => (wX7 (a0 9) aM (xy C) (cs 7) Z)) (Y := (wX2 (a0 8) aS (xy C) (cs 6) (wX7 (a0 10) aN (xy C) (cs 8) (wX4 (a0 11) aK hm tm (xy C) (cs 9) (wX2 (hm 0) b0 (xy C) (cs 10) (wX2 (hm 1) b1 (xy C) (cs 11) (wX2 (hm 2) b2 (xy C) (cs 12) (wX7 (tm 0) b3 (xy C) (cs 13) (wX7 (tm 1) b4 (xy C) (cs 14) (wX7 (tm 2) b5 (xy C) (cs 15) (wX3 (a0 14) aL (xy C) (cs 16) (wX3 (a0 15) aD (xy C) (cs 17) (wX0 (a0 16) aC (xy C) (cs 18) (wX5 (a0 17) aQ (xy C) (cs 19) (wX12 oM aP (xy C) ms []))))))))))))))) (fun _ => rfl) (fun _ => rfl) (fun _ => rfl) ?_
  refine g_swap (F := fun Z => (wX11 oI a0 (xy C) (cs 0) (wX6 (a0 6) aR (xy C) (cs 3) (wX8 (aR 0) (fun _ => a0 3) (xy C) (cs 4) (wT (a0 3) (xy C) (cs 1) (wX2 (a0 7) aH (xy C) (cs 5) (wX7 (a0 9) aM (xy C) (cs 7) (wX9 (a0 5) aT (xy C) (cs 2) Z)))))))) (X := (wX11 oI a0 (xy C) (cs 0) (wX6 (a0 6) aR (xy C) (cs 3) (wX8 (aR 0) (fun _ => a0 3) (xy C) (cs 4) (wT (a0 3) (xy C) (cs 1) (wX2 (a0 7) aH (xy C) (cs 5) (wX7 (a0 9) aM (xy C) (cs 7) (wX9 (a0 5) aT (xy C) (cs 2) [])))))))) (f := fun Z => (wX2 (a0 8) aS (xy C) (cs 6) Z)) (g := fun Z => (wX7 (a0 10) aN (xy C) (cs 8) Z)) (Y := (wX4 (a0 11) aK hm tm (xy C) (cs 9) (wX2 (hm 0) b0 (xy C) (cs 10) (wX2 (hm 1) b1 (xy C) (cs 11) (wX2 (hm 2) b2 (xy C) (cs 12) (wX7 (tm 0) b3 (xy C) (cs 13) (wX7 (tm 1) b4 (xy C) (cs 14) (wX7 (tm 2) b5 (xy C) (cs 15) (wX3 (a0 14) aL (xy C) (cs 16) (wX3 (a0 15) aD (xy C) (cs 17) (wX0 (a0 16) aC (xy C) (cs 18) (wX5 (a0 17) aQ (xy C) (cs 19) (wX12 oM aP (xy C) ms []))))))))))))) (fun _ => rfl) (fun _ => rfl) (fun _ => rfl) ?_
  refine g_swap (F := fun Z => (wX11 oI a0 (xy C) (cs 0) (wX6 (a0 6) aR (xy C) (cs 3) (wX8 (aR 0) (fun _ => a0 3) (xy C) (cs 4) (wT (a0 3) (xy C) (cs 1) (wX2 (a0 7) aH (xy C) (cs 5) (wX7 (a0 9) aM (xy C) (cs 7) Z))))))) (X := (wX11 oI a0 (xy C) (cs 0) (wX6 (a0 6) aR (xy C) (cs 3) (wX8 (aR 0) (fun _ => a0 3) (xy C) (cs 4) (wT (a0 3) (xy C) (cs 1) (wX2 (a0 7) aH (xy C) (cs 5) (wX7 (a0 9) aM (xy C) (cs 7) []))))))) (f := fun Z => (wX9 (a0 5) aT (xy C) (cs 2) Z)) (g := fun Z => (wX7 (a0 10) aN (xy C) (cs 8) Z)) (Y := (wX2 (a0 8) aS (xy C) (cs 6) (wX4 (a0 11) aK hm tm (xy C) (cs 9) (wX2 (hm 0) b0 (xy C) (cs 10) (wX2 (hm 1) b1 (xy C) (cs 11) (wX2 (hm 2) b2 (xy C) (cs 12) (wX7 (tm 0) b3 (xy C) (cs 13) (wX7 (tm 1) b4 (xy C) (cs 14) (wX7 (tm 2) b5 (xy C) (cs 15) (wX3 (a0 14) aL (xy C) (cs 16) (wX3 (a0 15) aD (xy C) (cs 17) (wX0 (a0 16) aC (xy C) (cs 18) (wX5 (a0 17) aQ (xy C) (cs 19) (wX12 oM aP (xy C) ms [])))))))))))))) (fun _ => rfl) (fun _ => rfl) (fun _ => rfl) ?_
  refine g_callV_i (pc := 602) (wd := fun (u : Bool × St × St × St × St × St × St × St) Y => bif u.1 then (wX11 oI (va_up (va_up a0 9 (a0 10)) 10 (a0 9)) (xy C) u.2.1 (wX6 (a0 6) aR (xy C) u.2.2.1 (wX8 (aR 0) (fun _ => a0 3) (xy C) u.2.2.2.1 (wT (a0 3) (xy C) u.2.2.2.2.1 (wX2 (a0 7) aH (xy C) u.2.2.2.2.2.1 (wX7 (a0 10) aN (xy C) u.2.2.2.2.2.2.1 (wX7 (a0 9) aM (xy C) u.2.2.2.2.2.2.2 Y))))))) else (wX11 oI a0 (xy C) u.2.1 (wX6 (a0 6) aR (xy C) u.2.2.1 (wX8 (aR 0) (fun _ => a0 3) (xy C) u.2.2.2.1 (wT (a0 3) (xy C) u.2.2.2.2.1 (wX2 (a0 7) aH (xy C) u.2.2.2.2.2.1 (wX7 (a0 9) aM (xy C) u.2.2.2.2.2.2.1 (wX7 (a0 10) aN (xy C) u.2.2.2.2.2.2.2 Y)))))))) (F := fun Z => Z) (X := []) (As := [.int (xs ((x3 + (1 : Int32))).toNatClampNeg)]) (rest := []) (u := (false, (cs 0), (cs 3), (cs 4), (cs 1), (cs 5), (cs 7), (cs 8))) hC (fun u Y => by cases u with | mk bb v => cases bb <;> rfl) (fun _ => rfl) (ctX11_times h) wvX11_times ml_L_59 (ci := 9) (q0 := 0) rfl rfl rfl rfl (by rw [hR0]; exact ⟨Nat.le_of_ble_eq_true rfl, Nat.le_of_ble_eq_true rfl⟩) (by rw [hR0]; exact ⟨Nat.le_of_ble_eq_true rfl, Nat.le_of_ble_eq_true rfl⟩) rfl (Nat.le_of_ble_eq_true rfl) dL_law_602 (fun r_8 u_9 h => ?_)
  obtain ⟨bb, u_1, u_2, u_3, u_4, u_5, u_6, u_7⟩ := u_9
  cases bb
  · refine g_aload_n (pc := 605) hC 2 dL_law_605 rfl rfl ?_
    refine g_aload_n (pc := 606) hC 0 dL_law_606 rfl rfl ?_
    refine g_iload_n (pc := 607) hC 3 dL_law_607 rfl rfl ?_
    refine g_iconst (pc := 608) (v := 1) hC dL_law_608 (by decide) ?_
    refine g_iadd (pc := 609) hC dL_law_609 ?_
    refine g_sld (pc := 610) hC hX hi.2.1 dL_law_610 ?_
    refine g_callV_i (pc := 611) (wd := fun (u : St) Y => (wX12 oM aP (xy C) u Y)) (F := fun Z => (wX11 oI a0 (xy C) u_1 (wX6 (a0 6) aR (xy C) u_2 (wX8 (aR 0) (fun _ => a0 3) (xy C) u_3 (wT (a0 3) (xy C) u_4 (wX2 (a0 7) aH (xy C) u_5 (wX7 (a0 9) aM (xy C) u_6 (wX7 (a0 10) aN (xy C) u_7 (wX9 (a0 5) aT (xy C) (cs 2) (wX2 (a0 8) aS (xy C) (cs 6) (wX4 (a0 11) aK hm tm (xy C) (cs 9) (wX2 (hm 0) b0 (xy C) (cs 10) (wX2 (hm 1) b1 (xy C) (cs 11) (wX2 (hm 2) b2 (xy C) (cs 12) (wX7 (tm 0) b3 (xy C) (cs 13) (wX7 (tm 1) b4 (xy C) (cs 14) (wX7 (tm 2) b5 (xy C) (cs 15) (wX3 (a0 14) aL (xy C) (cs 16) (wX3 (a0 15) aD (xy C) (cs 17) (wX0 (a0 16) aC (xy C) (cs 18) (wX5 (a0 17) aQ (xy C) (cs 19) Z))))))))))))))))))))) (X := (wX11 oI a0 (xy C) u_1 (wX6 (a0 6) aR (xy C) u_2 (wX8 (aR 0) (fun _ => a0 3) (xy C) u_3 (wT (a0 3) (xy C) u_4 (wX2 (a0 7) aH (xy C) u_5 (wX7 (a0 9) aM (xy C) u_6 (wX7 (a0 10) aN (xy C) u_7 (wX9 (a0 5) aT (xy C) (cs 2) (wX2 (a0 8) aS (xy C) (cs 6) (wX4 (a0 11) aK hm tm (xy C) (cs 9) (wX2 (hm 0) b0 (xy C) (cs 10) (wX2 (hm 1) b1 (xy C) (cs 11) (wX2 (hm 2) b2 (xy C) (cs 12) (wX7 (tm 0) b3 (xy C) (cs 13) (wX7 (tm 1) b4 (xy C) (cs 14) (wX7 (tm 2) b5 (xy C) (cs 15) (wX3 (a0 14) aL (xy C) (cs 16) (wX3 (a0 15) aD (xy C) (cs 17) (wX0 (a0 16) aC (xy C) (cs 18) (wX5 (a0 17) aQ (xy C) (cs 19) []))))))))))))))))))))) (As := [.int (xs ((x3 + (1 : Int32))).toNatClampNeg)]) (rest := [.int r_8]) (u := ms) hC (fun _ _ => rfl) (fun _ => rfl) (ctX12_times h) wvX12_times ml_L_62 (ci := 10) (q0 := 0) rfl rfl rfl rfl (by rw [hR0]; exact ⟨Nat.le_of_ble_eq_true rfl, Nat.le_of_ble_eq_true rfl⟩) (by rw [hR0]; exact ⟨Nat.le_of_ble_eq_true rfl, Nat.le_of_ble_eq_true rfl⟩) rfl (Nat.le_of_ble_eq_true rfl) dL_law_611 (fun r_11 u_10 h => ?_)
    refine g_icmp_eq (pc := 614) (tgt := 1783) hC dL_law_614 (by decide) (fun c => ?_) (fun c => absurd h.1 c)
    refine g_swap (F := fun Z => (wX11 oI a0 (xy C) u_1 (wX6 (a0 6) aR (xy C) u_2 Z))) (X := (wX11 oI a0 (xy C) u_1 (wX6 (a0 6) aR (xy C) u_2 []))) (f := fun Z => (wX8 (aR 0) (fun _ => a0 3) (xy C) u_3 Z)) (g := fun Z => (wT (a0 3) (xy C) u_4 Z)) (Y := (wX2 (a0 7) aH (xy C) u_5 (wX7 (a0 9) aM (xy C) u_6 (wX7 (a0 10) aN (xy C) u_7 (wX9 (a0 5) aT (xy C) (cs 2) (wX2 (a0 8) aS (xy C) (cs 6) (wX4 (a0 11) aK hm tm (xy C) (cs 9) (wX2 (hm 0) b0 (xy C) (cs 10) (wX2 (hm 1) b1 (xy C) (cs 11) (wX2 (hm 2) b2 (xy C) (cs 12) (wX7 (tm 0) b3 (xy C) (cs 13) (wX7 (tm 1) b4 (xy C) (cs 14) (wX7 (tm 2) b5 (xy C) (cs 15) (wX3 (a0 14) aL (xy C) (cs 16) (wX3 (a0 15) aD (xy C) (cs 17) (wX0 (a0 16) aC (xy C) (cs 18) (wX5 (a0 17) aQ (xy C) (cs 19) (wX12 oM aP (xy C) u_10 [])))))))))))))))))) (fun _ => rfl) (fun _ => rfl) (fun _ => rfl) ?_
    refine g_swap (F := fun Z => (wX11 oI a0 (xy C) u_1 (wX6 (a0 6) aR (xy C) u_2 (wT (a0 3) (xy C) u_4 (wX8 (aR 0) (fun _ => a0 3) (xy C) u_3 (wX2 (a0 7) aH (xy C) u_5 (wX7 (a0 9) aM (xy C) u_6 Z))))))) (X := (wX11 oI a0 (xy C) u_1 (wX6 (a0 6) aR (xy C) u_2 (wT (a0 3) (xy C) u_4 (wX8 (aR 0) (fun _ => a0 3) (xy C) u_3 (wX2 (a0 7) aH (xy C) u_5 (wX7 (a0 9) aM (xy C) u_6 []))))))) (f := fun Z => (wX7 (a0 10) aN (xy C) u_7 Z)) (g := fun Z => (wX9 (a0 5) aT (xy C) (cs 2) Z)) (Y := (wX2 (a0 8) aS (xy C) (cs 6) (wX4 (a0 11) aK hm tm (xy C) (cs 9) (wX2 (hm 0) b0 (xy C) (cs 10) (wX2 (hm 1) b1 (xy C) (cs 11) (wX2 (hm 2) b2 (xy C) (cs 12) (wX7 (tm 0) b3 (xy C) (cs 13) (wX7 (tm 1) b4 (xy C) (cs 14) (wX7 (tm 2) b5 (xy C) (cs 15) (wX3 (a0 14) aL (xy C) (cs 16) (wX3 (a0 15) aD (xy C) (cs 17) (wX0 (a0 16) aC (xy C) (cs 18) (wX5 (a0 17) aQ (xy C) (cs 19) (wX12 oM aP (xy C) u_10 [])))))))))))))) (fun _ => rfl) (fun _ => rfl) (fun _ => rfl) ?_
    refine g_swap (F := fun Z => (wX11 oI a0 (xy C) u_1 (wX6 (a0 6) aR (xy C) u_2 (wT (a0 3) (xy C) u_4 (wX8 (aR 0) (fun _ => a0 3) (xy C) u_3 (wX2 (a0 7) aH (xy C) u_5 (wX7 (a0 9) aM (xy C) u_6 (wX9 (a0 5) aT (xy C) (cs 2) Z)))))))) (X := (wX11 oI a0 (xy C) u_1 (wX6 (a0 6) aR (xy C) u_2 (wT (a0 3) (xy C) u_4 (wX8 (aR 0) (fun _ => a0 3) (xy C) u_3 (wX2 (a0 7) aH (xy C) u_5 (wX7 (a0 9) aM (xy C) u_6 (wX9 (a0 5) aT (xy C) (cs 2) [])))))))) (f := fun Z => (wX7 (a0 10) aN (xy C) u_7 Z)) (g := fun Z => (wX2 (a0 8) aS (xy C) (cs 6) Z)) (Y := (wX4 (a0 11) aK hm tm (xy C) (cs 9) (wX2 (hm 0) b0 (xy C) (cs 10) (wX2 (hm 1) b1 (xy C) (cs 11) (wX2 (hm 2) b2 (xy C) (cs 12) (wX7 (tm 0) b3 (xy C) (cs 13) (wX7 (tm 1) b4 (xy C) (cs 14) (wX7 (tm 2) b5 (xy C) (cs 15) (wX3 (a0 14) aL (xy C) (cs 16) (wX3 (a0 15) aD (xy C) (cs 17) (wX0 (a0 16) aC (xy C) (cs 18) (wX5 (a0 17) aQ (xy C) (cs 19) (wX12 oM aP (xy C) u_10 []))))))))))))) (fun _ => rfl) (fun _ => rfl) (fun _ => rfl) ?_
    refine g_swap (F := fun Z => (wX11 oI a0 (xy C) u_1 Z)) (X := (wX11 oI a0 (xy C) u_1 [])) (f := fun Z => (wX6 (a0 6) aR (xy C) u_2 Z)) (g := fun Z => (wT (a0 3) (xy C) u_4 Z)) (Y := (wX8 (aR 0) (fun _ => a0 3) (xy C) u_3 (wX2 (a0 7) aH (xy C) u_5 (wX7 (a0 9) aM (xy C) u_6 (wX9 (a0 5) aT (xy C) (cs 2) (wX2 (a0 8) aS (xy C) (cs 6) (wX7 (a0 10) aN (xy C) u_7 (wX4 (a0 11) aK hm tm (xy C) (cs 9) (wX2 (hm 0) b0 (xy C) (cs 10) (wX2 (hm 1) b1 (xy C) (cs 11) (wX2 (hm 2) b2 (xy C) (cs 12) (wX7 (tm 0) b3 (xy C) (cs 13) (wX7 (tm 1) b4 (xy C) (cs 14) (wX7 (tm 2) b5 (xy C) (cs 15) (wX3 (a0 14) aL (xy C) (cs 16) (wX3 (a0 15) aD (xy C) (cs 17) (wX0 (a0 16) aC (xy C) (cs 18) (wX5 (a0 17) aQ (xy C) (cs 19) (wX12 oM aP (xy C) u_10 []))))))))))))))))))) (fun _ => rfl) (fun _ => rfl) (fun _ => rfl) ?_
    refine g_swap (F := fun Z => (wX11 oI a0 (xy C) u_1 (wT (a0 3) (xy C) u_4 (wX6 (a0 6) aR (xy C) u_2 (wX8 (aR 0) (fun _ => a0 3) (xy C) u_3 (wX2 (a0 7) aH (xy C) u_5 Z)))))) (X := (wX11 oI a0 (xy C) u_1 (wT (a0 3) (xy C) u_4 (wX6 (a0 6) aR (xy C) u_2 (wX8 (aR 0) (fun _ => a0 3) (xy C) u_3 (wX2 (a0 7) aH (xy C) u_5 [])))))) (f := fun Z => (wX7 (a0 9) aM (xy C) u_6 Z)) (g := fun Z => (wX9 (a0 5) aT (xy C) (cs 2) Z)) (Y := (wX2 (a0 8) aS (xy C) (cs 6) (wX7 (a0 10) aN (xy C) u_7 (wX4 (a0 11) aK hm tm (xy C) (cs 9) (wX2 (hm 0) b0 (xy C) (cs 10) (wX2 (hm 1) b1 (xy C) (cs 11) (wX2 (hm 2) b2 (xy C) (cs 12) (wX7 (tm 0) b3 (xy C) (cs 13) (wX7 (tm 1) b4 (xy C) (cs 14) (wX7 (tm 2) b5 (xy C) (cs 15) (wX3 (a0 14) aL (xy C) (cs 16) (wX3 (a0 15) aD (xy C) (cs 17) (wX0 (a0 16) aC (xy C) (cs 18) (wX5 (a0 17) aQ (xy C) (cs 19) (wX12 oM aP (xy C) u_10 []))))))))))))))) (fun _ => rfl) (fun _ => rfl) (fun _ => rfl) ?_
    refine g_swap (F := fun Z => (wX11 oI a0 (xy C) u_1 (wT (a0 3) (xy C) u_4 (wX6 (a0 6) aR (xy C) u_2 (wX8 (aR 0) (fun _ => a0 3) (xy C) u_3 (wX2 (a0 7) aH (xy C) u_5 (wX9 (a0 5) aT (xy C) (cs 2) Z))))))) (X := (wX11 oI a0 (xy C) u_1 (wT (a0 3) (xy C) u_4 (wX6 (a0 6) aR (xy C) u_2 (wX8 (aR 0) (fun _ => a0 3) (xy C) u_3 (wX2 (a0 7) aH (xy C) u_5 (wX9 (a0 5) aT (xy C) (cs 2) []))))))) (f := fun Z => (wX7 (a0 9) aM (xy C) u_6 Z)) (g := fun Z => (wX2 (a0 8) aS (xy C) (cs 6) Z)) (Y := (wX7 (a0 10) aN (xy C) u_7 (wX4 (a0 11) aK hm tm (xy C) (cs 9) (wX2 (hm 0) b0 (xy C) (cs 10) (wX2 (hm 1) b1 (xy C) (cs 11) (wX2 (hm 2) b2 (xy C) (cs 12) (wX7 (tm 0) b3 (xy C) (cs 13) (wX7 (tm 1) b4 (xy C) (cs 14) (wX7 (tm 2) b5 (xy C) (cs 15) (wX3 (a0 14) aL (xy C) (cs 16) (wX3 (a0 15) aD (xy C) (cs 17) (wX0 (a0 16) aC (xy C) (cs 18) (wX5 (a0 17) aQ (xy C) (cs 19) (wX12 oM aP (xy C) u_10 [])))))))))))))) (fun _ => rfl) (fun _ => rfl) (fun _ => rfl) ?_
    refine g_swap (F := fun Z => (wX11 oI a0 (xy C) u_1 (wT (a0 3) (xy C) u_4 (wX6 (a0 6) aR (xy C) u_2 (wX8 (aR 0) (fun _ => a0 3) (xy C) u_3 Z))))) (X := (wX11 oI a0 (xy C) u_1 (wT (a0 3) (xy C) u_4 (wX6 (a0 6) aR (xy C) u_2 (wX8 (aR 0) (fun _ => a0 3) (xy C) u_3 []))))) (f := fun Z => (wX2 (a0 7) aH (xy C) u_5 Z)) (g := fun Z => (wX9 (a0 5) aT (xy C) (cs 2) Z)) (Y := (wX2 (a0 8) aS (xy C) (cs 6) (wX7 (a0 9) aM (xy C) u_6 (wX7 (a0 10) aN (xy C) u_7 (wX4 (a0 11) aK hm tm (xy C) (cs 9) (wX2 (hm 0) b0 (xy C) (cs 10) (wX2 (hm 1) b1 (xy C) (cs 11) (wX2 (hm 2) b2 (xy C) (cs 12) (wX7 (tm 0) b3 (xy C) (cs 13) (wX7 (tm 1) b4 (xy C) (cs 14) (wX7 (tm 2) b5 (xy C) (cs 15) (wX3 (a0 14) aL (xy C) (cs 16) (wX3 (a0 15) aD (xy C) (cs 17) (wX0 (a0 16) aC (xy C) (cs 18) (wX5 (a0 17) aQ (xy C) (cs 19) (wX12 oM aP (xy C) u_10 [])))))))))))))))) (fun _ => rfl) (fun _ => rfl) (fun _ => rfl) ?_
    refine g_swap (F := fun Z => (wX11 oI a0 (xy C) u_1 (wT (a0 3) (xy C) u_4 (wX6 (a0 6) aR (xy C) u_2 Z)))) (X := (wX11 oI a0 (xy C) u_1 (wT (a0 3) (xy C) u_4 (wX6 (a0 6) aR (xy C) u_2 [])))) (f := fun Z => (wX8 (aR 0) (fun _ => a0 3) (xy C) u_3 Z)) (g := fun Z => (wX9 (a0 5) aT (xy C) (cs 2) Z)) (Y := (wX2 (a0 7) aH (xy C) u_5 (wX2 (a0 8) aS (xy C) (cs 6) (wX7 (a0 9) aM (xy C) u_6 (wX7 (a0 10) aN (xy C) u_7 (wX4 (a0 11) aK hm tm (xy C) (cs 9) (wX2 (hm 0) b0 (xy C) (cs 10) (wX2 (hm 1) b1 (xy C) (cs 11) (wX2 (hm 2) b2 (xy C) (cs 12) (wX7 (tm 0) b3 (xy C) (cs 13) (wX7 (tm 1) b4 (xy C) (cs 14) (wX7 (tm 2) b5 (xy C) (cs 15) (wX3 (a0 14) aL (xy C) (cs 16) (wX3 (a0 15) aD (xy C) (cs 17) (wX0 (a0 16) aC (xy C) (cs 18) (wX5 (a0 17) aQ (xy C) (cs 19) (wX12 oM aP (xy C) u_10 []))))))))))))))))) (fun _ => rfl) (fun _ => rfl) (fun _ => rfl) ?_
    refine g_swap (F := fun Z => (wX11 oI a0 (xy C) u_1 (wT (a0 3) (xy C) u_4 Z))) (X := (wX11 oI a0 (xy C) u_1 (wT (a0 3) (xy C) u_4 []))) (f := fun Z => (wX6 (a0 6) aR (xy C) u_2 Z)) (g := fun Z => (wX9 (a0 5) aT (xy C) (cs 2) Z)) (Y := (wX8 (aR 0) (fun _ => a0 3) (xy C) u_3 (wX2 (a0 7) aH (xy C) u_5 (wX2 (a0 8) aS (xy C) (cs 6) (wX7 (a0 9) aM (xy C) u_6 (wX7 (a0 10) aN (xy C) u_7 (wX4 (a0 11) aK hm tm (xy C) (cs 9) (wX2 (hm 0) b0 (xy C) (cs 10) (wX2 (hm 1) b1 (xy C) (cs 11) (wX2 (hm 2) b2 (xy C) (cs 12) (wX7 (tm 0) b3 (xy C) (cs 13) (wX7 (tm 1) b4 (xy C) (cs 14) (wX7 (tm 2) b5 (xy C) (cs 15) (wX3 (a0 14) aL (xy C) (cs 16) (wX3 (a0 15) aD (xy C) (cs 17) (wX0 (a0 16) aC (xy C) (cs 18) (wX5 (a0 17) aQ (xy C) (cs 19) (wX12 oM aP (xy C) u_10 [])))))))))))))))))) (fun _ => rfl) (fun _ => rfl) (fun _ => rfl) ?_
    exact hk a0 aT aR aH aS aM aN aK hm tm b0 b1 b2 b3 b4 b5 aL aD aC aQ aP (va_up (va_up (va_up (va_up (va_up (va_up (va_up cs 0 u_1) 1 u_4) 3 u_2) 4 u_3) 5 u_5) 7 u_6) 8 u_7) u_10 h.2
  · refine g_aload_n (pc := 605) hC 2 dL_law_605 rfl rfl ?_
    refine g_aload_n (pc := 606) hC 0 dL_law_606 rfl rfl ?_
    refine g_iload_n (pc := 607) hC 3 dL_law_607 rfl rfl ?_
    refine g_iconst (pc := 608) (v := 1) hC dL_law_608 (by decide) ?_
    refine g_iadd (pc := 609) hC dL_law_609 ?_
    refine g_sld (pc := 610) hC hX hi.2.1 dL_law_610 ?_
    refine g_callV_i (pc := 611) (wd := fun (u : St) Y => (wX12 oM aP (xy C) u Y)) (F := fun Z => (wX11 oI (va_up (va_up a0 9 (a0 10)) 10 (a0 9)) (xy C) u_1 (wX6 (a0 6) aR (xy C) u_2 (wX8 (aR 0) (fun _ => a0 3) (xy C) u_3 (wT (a0 3) (xy C) u_4 (wX2 (a0 7) aH (xy C) u_5 (wX7 (a0 10) aN (xy C) u_6 (wX7 (a0 9) aM (xy C) u_7 (wX9 (a0 5) aT (xy C) (cs 2) (wX2 (a0 8) aS (xy C) (cs 6) (wX4 (a0 11) aK hm tm (xy C) (cs 9) (wX2 (hm 0) b0 (xy C) (cs 10) (wX2 (hm 1) b1 (xy C) (cs 11) (wX2 (hm 2) b2 (xy C) (cs 12) (wX7 (tm 0) b3 (xy C) (cs 13) (wX7 (tm 1) b4 (xy C) (cs 14) (wX7 (tm 2) b5 (xy C) (cs 15) (wX3 (a0 14) aL (xy C) (cs 16) (wX3 (a0 15) aD (xy C) (cs 17) (wX0 (a0 16) aC (xy C) (cs 18) (wX5 (a0 17) aQ (xy C) (cs 19) Z))))))))))))))))))))) (X := (wX11 oI (va_up (va_up a0 9 (a0 10)) 10 (a0 9)) (xy C) u_1 (wX6 (a0 6) aR (xy C) u_2 (wX8 (aR 0) (fun _ => a0 3) (xy C) u_3 (wT (a0 3) (xy C) u_4 (wX2 (a0 7) aH (xy C) u_5 (wX7 (a0 10) aN (xy C) u_6 (wX7 (a0 9) aM (xy C) u_7 (wX9 (a0 5) aT (xy C) (cs 2) (wX2 (a0 8) aS (xy C) (cs 6) (wX4 (a0 11) aK hm tm (xy C) (cs 9) (wX2 (hm 0) b0 (xy C) (cs 10) (wX2 (hm 1) b1 (xy C) (cs 11) (wX2 (hm 2) b2 (xy C) (cs 12) (wX7 (tm 0) b3 (xy C) (cs 13) (wX7 (tm 1) b4 (xy C) (cs 14) (wX7 (tm 2) b5 (xy C) (cs 15) (wX3 (a0 14) aL (xy C) (cs 16) (wX3 (a0 15) aD (xy C) (cs 17) (wX0 (a0 16) aC (xy C) (cs 18) (wX5 (a0 17) aQ (xy C) (cs 19) []))))))))))))))))))))) (As := [.int (xs ((x3 + (1 : Int32))).toNatClampNeg)]) (rest := [.int r_8]) (u := ms) hC (fun _ _ => rfl) (fun _ => rfl) (ctX12_times h) wvX12_times ml_L_62 (ci := 10) (q0 := 0) rfl rfl rfl rfl (by rw [hR0]; exact ⟨Nat.le_of_ble_eq_true rfl, Nat.le_of_ble_eq_true rfl⟩) (by rw [hR0]; exact ⟨Nat.le_of_ble_eq_true rfl, Nat.le_of_ble_eq_true rfl⟩) rfl (Nat.le_of_ble_eq_true rfl) dL_law_611 (fun r_14 u_13 h => ?_)
    refine g_icmp_eq (pc := 614) (tgt := 1783) hC dL_law_614 (by decide) (fun c => ?_) (fun c => absurd h.1 c)
    refine g_swap (F := fun Z => (wX11 oI (va_up (va_up a0 9 (a0 10)) 10 (a0 9)) (xy C) u_1 (wX6 (a0 6) aR (xy C) u_2 Z))) (X := (wX11 oI (va_up (va_up a0 9 (a0 10)) 10 (a0 9)) (xy C) u_1 (wX6 (a0 6) aR (xy C) u_2 []))) (f := fun Z => (wX8 (aR 0) (fun _ => a0 3) (xy C) u_3 Z)) (g := fun Z => (wT (a0 3) (xy C) u_4 Z)) (Y := (wX2 (a0 7) aH (xy C) u_5 (wX7 (a0 10) aN (xy C) u_6 (wX7 (a0 9) aM (xy C) u_7 (wX9 (a0 5) aT (xy C) (cs 2) (wX2 (a0 8) aS (xy C) (cs 6) (wX4 (a0 11) aK hm tm (xy C) (cs 9) (wX2 (hm 0) b0 (xy C) (cs 10) (wX2 (hm 1) b1 (xy C) (cs 11) (wX2 (hm 2) b2 (xy C) (cs 12) (wX7 (tm 0) b3 (xy C) (cs 13) (wX7 (tm 1) b4 (xy C) (cs 14) (wX7 (tm 2) b5 (xy C) (cs 15) (wX3 (a0 14) aL (xy C) (cs 16) (wX3 (a0 15) aD (xy C) (cs 17) (wX0 (a0 16) aC (xy C) (cs 18) (wX5 (a0 17) aQ (xy C) (cs 19) (wX12 oM aP (xy C) u_13 [])))))))))))))))))) (fun _ => rfl) (fun _ => rfl) (fun _ => rfl) ?_
    refine g_swap (F := fun Z => (wX11 oI (va_up (va_up a0 9 (a0 10)) 10 (a0 9)) (xy C) u_1 (wX6 (a0 6) aR (xy C) u_2 (wT (a0 3) (xy C) u_4 (wX8 (aR 0) (fun _ => a0 3) (xy C) u_3 (wX2 (a0 7) aH (xy C) u_5 (wX7 (a0 10) aN (xy C) u_6 Z))))))) (X := (wX11 oI (va_up (va_up a0 9 (a0 10)) 10 (a0 9)) (xy C) u_1 (wX6 (a0 6) aR (xy C) u_2 (wT (a0 3) (xy C) u_4 (wX8 (aR 0) (fun _ => a0 3) (xy C) u_3 (wX2 (a0 7) aH (xy C) u_5 (wX7 (a0 10) aN (xy C) u_6 []))))))) (f := fun Z => (wX7 (a0 9) aM (xy C) u_7 Z)) (g := fun Z => (wX9 (a0 5) aT (xy C) (cs 2) Z)) (Y := (wX2 (a0 8) aS (xy C) (cs 6) (wX4 (a0 11) aK hm tm (xy C) (cs 9) (wX2 (hm 0) b0 (xy C) (cs 10) (wX2 (hm 1) b1 (xy C) (cs 11) (wX2 (hm 2) b2 (xy C) (cs 12) (wX7 (tm 0) b3 (xy C) (cs 13) (wX7 (tm 1) b4 (xy C) (cs 14) (wX7 (tm 2) b5 (xy C) (cs 15) (wX3 (a0 14) aL (xy C) (cs 16) (wX3 (a0 15) aD (xy C) (cs 17) (wX0 (a0 16) aC (xy C) (cs 18) (wX5 (a0 17) aQ (xy C) (cs 19) (wX12 oM aP (xy C) u_13 [])))))))))))))) (fun _ => rfl) (fun _ => rfl) (fun _ => rfl) ?_
    refine g_swap (F := fun Z => (wX11 oI (va_up (va_up a0 9 (a0 10)) 10 (a0 9)) (xy C) u_1 (wX6 (a0 6) aR (xy C) u_2 (wT (a0 3) (xy C) u_4 (wX8 (aR 0) (fun _ => a0 3) (xy C) u_3 (wX2 (a0 7) aH (xy C) u_5 (wX7 (a0 10) aN (xy C) u_6 (wX9 (a0 5) aT (xy C) (cs 2) Z)))))))) (X := (wX11 oI (va_up (va_up a0 9 (a0 10)) 10 (a0 9)) (xy C) u_1 (wX6 (a0 6) aR (xy C) u_2 (wT (a0 3) (xy C) u_4 (wX8 (aR 0) (fun _ => a0 3) (xy C) u_3 (wX2 (a0 7) aH (xy C) u_5 (wX7 (a0 10) aN (xy C) u_6 (wX9 (a0 5) aT (xy C) (cs 2) [])))))))) (f := fun Z => (wX7 (a0 9) aM (xy C) u_7 Z)) (g := fun Z => (wX2 (a0 8) aS (xy C) (cs 6) Z)) (Y := (wX4 (a0 11) aK hm tm (xy C) (cs 9) (wX2 (hm 0) b0 (xy C) (cs 10) (wX2 (hm 1) b1 (xy C) (cs 11) (wX2 (hm 2) b2 (xy C) (cs 12) (wX7 (tm 0) b3 (xy C) (cs 13) (wX7 (tm 1) b4 (xy C) (cs 14) (wX7 (tm 2) b5 (xy C) (cs 15) (wX3 (a0 14) aL (xy C) (cs 16) (wX3 (a0 15) aD (xy C) (cs 17) (wX0 (a0 16) aC (xy C) (cs 18) (wX5 (a0 17) aQ (xy C) (cs 19) (wX12 oM aP (xy C) u_13 []))))))))))))) (fun _ => rfl) (fun _ => rfl) (fun _ => rfl) ?_
    refine g_swap (F := fun Z => (wX11 oI (va_up (va_up a0 9 (a0 10)) 10 (a0 9)) (xy C) u_1 Z)) (X := (wX11 oI (va_up (va_up a0 9 (a0 10)) 10 (a0 9)) (xy C) u_1 [])) (f := fun Z => (wX6 (a0 6) aR (xy C) u_2 Z)) (g := fun Z => (wT (a0 3) (xy C) u_4 Z)) (Y := (wX8 (aR 0) (fun _ => a0 3) (xy C) u_3 (wX2 (a0 7) aH (xy C) u_5 (wX7 (a0 10) aN (xy C) u_6 (wX9 (a0 5) aT (xy C) (cs 2) (wX2 (a0 8) aS (xy C) (cs 6) (wX7 (a0 9) aM (xy C) u_7 (wX4 (a0 11) aK hm tm (xy C) (cs 9) (wX2 (hm 0) b0 (xy C) (cs 10) (wX2 (hm 1) b1 (xy C) (cs 11) (wX2 (hm 2) b2 (xy C) (cs 12) (wX7 (tm 0) b3 (xy C) (cs 13) (wX7 (tm 1) b4 (xy C) (cs 14) (wX7 (tm 2) b5 (xy C) (cs 15) (wX3 (a0 14) aL (xy C) (cs 16) (wX3 (a0 15) aD (xy C) (cs 17) (wX0 (a0 16) aC (xy C) (cs 18) (wX5 (a0 17) aQ (xy C) (cs 19) (wX12 oM aP (xy C) u_13 []))))))))))))))))))) (fun _ => rfl) (fun _ => rfl) (fun _ => rfl) ?_
    refine g_swap (F := fun Z => (wX11 oI (va_up (va_up a0 9 (a0 10)) 10 (a0 9)) (xy C) u_1 (wT (a0 3) (xy C) u_4 (wX6 (a0 6) aR (xy C) u_2 (wX8 (aR 0) (fun _ => a0 3) (xy C) u_3 (wX2 (a0 7) aH (xy C) u_5 Z)))))) (X := (wX11 oI (va_up (va_up a0 9 (a0 10)) 10 (a0 9)) (xy C) u_1 (wT (a0 3) (xy C) u_4 (wX6 (a0 6) aR (xy C) u_2 (wX8 (aR 0) (fun _ => a0 3) (xy C) u_3 (wX2 (a0 7) aH (xy C) u_5 [])))))) (f := fun Z => (wX7 (a0 10) aN (xy C) u_6 Z)) (g := fun Z => (wX9 (a0 5) aT (xy C) (cs 2) Z)) (Y := (wX2 (a0 8) aS (xy C) (cs 6) (wX7 (a0 9) aM (xy C) u_7 (wX4 (a0 11) aK hm tm (xy C) (cs 9) (wX2 (hm 0) b0 (xy C) (cs 10) (wX2 (hm 1) b1 (xy C) (cs 11) (wX2 (hm 2) b2 (xy C) (cs 12) (wX7 (tm 0) b3 (xy C) (cs 13) (wX7 (tm 1) b4 (xy C) (cs 14) (wX7 (tm 2) b5 (xy C) (cs 15) (wX3 (a0 14) aL (xy C) (cs 16) (wX3 (a0 15) aD (xy C) (cs 17) (wX0 (a0 16) aC (xy C) (cs 18) (wX5 (a0 17) aQ (xy C) (cs 19) (wX12 oM aP (xy C) u_13 []))))))))))))))) (fun _ => rfl) (fun _ => rfl) (fun _ => rfl) ?_
    refine g_swap (F := fun Z => (wX11 oI (va_up (va_up a0 9 (a0 10)) 10 (a0 9)) (xy C) u_1 (wT (a0 3) (xy C) u_4 (wX6 (a0 6) aR (xy C) u_2 (wX8 (aR 0) (fun _ => a0 3) (xy C) u_3 (wX2 (a0 7) aH (xy C) u_5 (wX9 (a0 5) aT (xy C) (cs 2) Z))))))) (X := (wX11 oI (va_up (va_up a0 9 (a0 10)) 10 (a0 9)) (xy C) u_1 (wT (a0 3) (xy C) u_4 (wX6 (a0 6) aR (xy C) u_2 (wX8 (aR 0) (fun _ => a0 3) (xy C) u_3 (wX2 (a0 7) aH (xy C) u_5 (wX9 (a0 5) aT (xy C) (cs 2) []))))))) (f := fun Z => (wX7 (a0 10) aN (xy C) u_6 Z)) (g := fun Z => (wX2 (a0 8) aS (xy C) (cs 6) Z)) (Y := (wX7 (a0 9) aM (xy C) u_7 (wX4 (a0 11) aK hm tm (xy C) (cs 9) (wX2 (hm 0) b0 (xy C) (cs 10) (wX2 (hm 1) b1 (xy C) (cs 11) (wX2 (hm 2) b2 (xy C) (cs 12) (wX7 (tm 0) b3 (xy C) (cs 13) (wX7 (tm 1) b4 (xy C) (cs 14) (wX7 (tm 2) b5 (xy C) (cs 15) (wX3 (a0 14) aL (xy C) (cs 16) (wX3 (a0 15) aD (xy C) (cs 17) (wX0 (a0 16) aC (xy C) (cs 18) (wX5 (a0 17) aQ (xy C) (cs 19) (wX12 oM aP (xy C) u_13 [])))))))))))))) (fun _ => rfl) (fun _ => rfl) (fun _ => rfl) ?_
    refine g_swap (F := fun Z => (wX11 oI (va_up (va_up a0 9 (a0 10)) 10 (a0 9)) (xy C) u_1 (wT (a0 3) (xy C) u_4 (wX6 (a0 6) aR (xy C) u_2 (wX8 (aR 0) (fun _ => a0 3) (xy C) u_3 Z))))) (X := (wX11 oI (va_up (va_up a0 9 (a0 10)) 10 (a0 9)) (xy C) u_1 (wT (a0 3) (xy C) u_4 (wX6 (a0 6) aR (xy C) u_2 (wX8 (aR 0) (fun _ => a0 3) (xy C) u_3 []))))) (f := fun Z => (wX2 (a0 7) aH (xy C) u_5 Z)) (g := fun Z => (wX9 (a0 5) aT (xy C) (cs 2) Z)) (Y := (wX2 (a0 8) aS (xy C) (cs 6) (wX7 (a0 10) aN (xy C) u_6 (wX7 (a0 9) aM (xy C) u_7 (wX4 (a0 11) aK hm tm (xy C) (cs 9) (wX2 (hm 0) b0 (xy C) (cs 10) (wX2 (hm 1) b1 (xy C) (cs 11) (wX2 (hm 2) b2 (xy C) (cs 12) (wX7 (tm 0) b3 (xy C) (cs 13) (wX7 (tm 1) b4 (xy C) (cs 14) (wX7 (tm 2) b5 (xy C) (cs 15) (wX3 (a0 14) aL (xy C) (cs 16) (wX3 (a0 15) aD (xy C) (cs 17) (wX0 (a0 16) aC (xy C) (cs 18) (wX5 (a0 17) aQ (xy C) (cs 19) (wX12 oM aP (xy C) u_13 [])))))))))))))))) (fun _ => rfl) (fun _ => rfl) (fun _ => rfl) ?_
    refine g_swap (F := fun Z => (wX11 oI (va_up (va_up a0 9 (a0 10)) 10 (a0 9)) (xy C) u_1 (wT (a0 3) (xy C) u_4 (wX6 (a0 6) aR (xy C) u_2 Z)))) (X := (wX11 oI (va_up (va_up a0 9 (a0 10)) 10 (a0 9)) (xy C) u_1 (wT (a0 3) (xy C) u_4 (wX6 (a0 6) aR (xy C) u_2 [])))) (f := fun Z => (wX8 (aR 0) (fun _ => a0 3) (xy C) u_3 Z)) (g := fun Z => (wX9 (a0 5) aT (xy C) (cs 2) Z)) (Y := (wX2 (a0 7) aH (xy C) u_5 (wX2 (a0 8) aS (xy C) (cs 6) (wX7 (a0 10) aN (xy C) u_6 (wX7 (a0 9) aM (xy C) u_7 (wX4 (a0 11) aK hm tm (xy C) (cs 9) (wX2 (hm 0) b0 (xy C) (cs 10) (wX2 (hm 1) b1 (xy C) (cs 11) (wX2 (hm 2) b2 (xy C) (cs 12) (wX7 (tm 0) b3 (xy C) (cs 13) (wX7 (tm 1) b4 (xy C) (cs 14) (wX7 (tm 2) b5 (xy C) (cs 15) (wX3 (a0 14) aL (xy C) (cs 16) (wX3 (a0 15) aD (xy C) (cs 17) (wX0 (a0 16) aC (xy C) (cs 18) (wX5 (a0 17) aQ (xy C) (cs 19) (wX12 oM aP (xy C) u_13 []))))))))))))))))) (fun _ => rfl) (fun _ => rfl) (fun _ => rfl) ?_
    refine g_swap (F := fun Z => (wX11 oI (va_up (va_up a0 9 (a0 10)) 10 (a0 9)) (xy C) u_1 (wT (a0 3) (xy C) u_4 Z))) (X := (wX11 oI (va_up (va_up a0 9 (a0 10)) 10 (a0 9)) (xy C) u_1 (wT (a0 3) (xy C) u_4 []))) (f := fun Z => (wX6 (a0 6) aR (xy C) u_2 Z)) (g := fun Z => (wX9 (a0 5) aT (xy C) (cs 2) Z)) (Y := (wX8 (aR 0) (fun _ => a0 3) (xy C) u_3 (wX2 (a0 7) aH (xy C) u_5 (wX2 (a0 8) aS (xy C) (cs 6) (wX7 (a0 10) aN (xy C) u_6 (wX7 (a0 9) aM (xy C) u_7 (wX4 (a0 11) aK hm tm (xy C) (cs 9) (wX2 (hm 0) b0 (xy C) (cs 10) (wX2 (hm 1) b1 (xy C) (cs 11) (wX2 (hm 2) b2 (xy C) (cs 12) (wX7 (tm 0) b3 (xy C) (cs 13) (wX7 (tm 1) b4 (xy C) (cs 14) (wX7 (tm 2) b5 (xy C) (cs 15) (wX3 (a0 14) aL (xy C) (cs 16) (wX3 (a0 15) aD (xy C) (cs 17) (wX0 (a0 16) aC (xy C) (cs 18) (wX5 (a0 17) aQ (xy C) (cs 19) (wX12 oM aP (xy C) u_13 [])))))))))))))))))) (fun _ => rfl) (fun _ => rfl) (fun _ => rfl) ?_
    exact hk (va_up (va_up a0 9 (a0 10)) 10 (a0 9)) aT aR aH aS aN aM aK hm tm b0 b1 b2 b3 b4 b5 aL aD aC aQ aP (va_up (va_up (va_up (va_up (va_up (va_up (va_up cs 0 u_1) 1 u_4) 3 u_2) 4 u_3) 5 u_5) 7 u_6) 8 u_7) u_13 h.2
theorem dL_law_619 : decode cL_law 619 = .ok (.aload_n 1, 1) := by decide +kernel
theorem dL_law_620 : decode cL_law 620 = .ok (.aload_n 0, 1) := by decide +kernel
theorem dL_law_621 : decode cL_law 621 = .ok (.iload_n 3, 1) := by decide +kernel
theorem dL_law_622 : decode cL_law 622 = .ok (.iconst 1, 1) := by decide +kernel
theorem dL_law_623 : decode cL_law 623 = .ok (.iadd, 1) := by decide +kernel
theorem dL_law_624 : decode cL_law 624 = .ok (.iaload, 1) := by decide +kernel
theorem dL_law_625 : decode cL_law 625 = .ok (.invokevirtual 63, 3) := by decide +kernel
theorem dL_law_628 : decode cL_law 628 = .ok (.aload_n 2, 1) := by decide +kernel
theorem dL_law_629 : decode cL_law 629 = .ok (.aload_n 0, 1) := by decide +kernel
theorem dL_law_630 : decode cL_law 630 = .ok (.iload_n 3, 1) := by decide +kernel
theorem dL_law_631 : decode cL_law 631 = .ok (.iconst 1, 1) := by decide +kernel
theorem dL_law_632 : decode cL_law 632 = .ok (.iadd, 1) := by decide +kernel
theorem dL_law_633 : decode cL_law 633 = .ok (.iaload, 1) := by decide +kernel
theorem dL_law_634 : decode cL_law 634 = .ok (.invokevirtual 66, 3) := by decide +kernel
theorem dL_law_637 : decode cL_law 637 = .ok (.if_icmp .eq 1146, 3) := by decide +kernel
set_option maxRecDepth 100000 in
set_option maxHeartbeats 8000000 in
theorem law_fault {C : Cx} {R : (Nat → St) → St → Prop} {oI oM b L : Nat} {xs : Nat → Int32} {a0 aT aR aH aS aM aN aK hm tm b0 b1 b2 b3 b4 b5 aL aD aC aQ aP : Nat → Nat} {cs : Nat → St} {ms : St} {x3 : Int32} (hC : Fx C cL_law 4 RL) (hR0 : xR C = room_1) (hX : LwX C b L xs) (hi : InS L x3) (hs : SP_fault R) (hr : R cs ms) (hk : LBack C R oI oM b x3) : G C 137 9713 4 (lwW oI oM a0 aT aR aH aS aM aN aK hm tm b0 b1 b2 b3 b4 b5 aL aD aC aQ aP (xy C) cs ms) 619 [(0, .ref b), (1, .ref oI), (2, .ref oM), (3, .int x3)] [] := by
  refine g_eq (σ' := (wX11 oI a0 (xy C) (cs 0) (wT (a0 3) (xy C) (cs 1) (wX9 (a0 5) aT (xy C) (cs 2) (wX6 (a0 6) aR (xy C) (cs 3) (wX8 (aR 0) (fun _ => a0 3) (xy C) (cs 4) (wX2 (a0 7) aH (xy C) (cs 5) (wX2 (a0 8) aS (xy C) (cs 6) (wX7 (a0 9) aM (xy C) (cs 7) (wX7 (a0 10) aN (xy C) (cs 8) (wX4 (a0 11) aK hm tm (xy C) (cs 9) (wX2 (hm 0) b0 (xy C) (cs 10) (wX2 (hm 1) b1 (xy C) (cs 11) (wX2 (hm 2) b2 (xy C) (cs 12) (wX7 (tm 0) b3 (xy C) (cs 13) (wX7 (tm 1) b4 (xy C) (cs 14) (wX7 (tm 2) b5 (xy C) (cs 15) (wX3 (a0 14) aL (xy C) (cs 16) (wX3 (a0 15) aD (xy C) (cs 17) (wX0 (a0 16) aC (xy C) (cs 18) (wX5 (a0 17) aQ (xy C) (cs 19) (wX12 oM aP (xy C) ms [])))))))))))))))))))))) rfl ?_
  refine g_aload_n (pc := 619) hC 1 dL_law_619 rfl rfl ?_
  refine g_aload_n (pc := 620) hC 0 dL_law_620 rfl rfl ?_
  refine g_iload_n (pc := 621) hC 3 dL_law_621 rfl rfl ?_
  refine g_iconst (pc := 622) (v := 1) hC dL_law_622 (by decide) ?_
  refine g_iadd (pc := 623) hC dL_law_623 ?_
  refine g_sld (pc := 624) hC hX hi.2.1 dL_law_624 ?_
  have h := hs (xs ((x3 + (1 : Int32))).toNatClampNeg) cs ms  hr
  refine g_callV_i (pc := 625) (wd := fun (u : St) Y => (wX11 oI a0 (xy C) u Y)) (F := fun Z => Z) (X := []) (As := [.int (xs ((x3 + (1 : Int32))).toNatClampNeg)]) (rest := []) (u := (cs 0)) hC (fun _ _ => rfl) (fun _ => rfl) (ctX11_fault h) wvX11_fault ml_L_63 (ci := 9) (q0 := 0) rfl rfl rfl rfl (by rw [hR0]; exact ⟨Nat.le_of_ble_eq_true rfl, Nat.le_of_ble_eq_true rfl⟩) (by rw [hR0]; exact ⟨Nat.le_of_ble_eq_true rfl, Nat.le_of_ble_eq_true rfl⟩) rfl (Nat.le_of_ble_eq_true rfl) dL_law_625 (fun r_2 u_1 h => ?_)
  refine g_aload_n (pc := 628) hC 2 dL_law_628 rfl rfl ?_
  refine g_aload_n (pc := 629) hC 0 dL_law_629 rfl rfl ?_
  refine g_iload_n (pc := 630) hC 3 dL_law_630 rfl rfl ?_
  refine g_iconst (pc := 631) (v := 1) hC dL_law_631 (by decide) ?_
  refine g_iadd (pc := 632) hC dL_law_632 ?_
  refine g_sld (pc := 633) hC hX hi.2.1 dL_law_633 ?_
  refine g_callV_i (pc := 634) (wd := fun (u : St) Y => (wX12 oM aP (xy C) u Y)) (F := fun Z => (wX11 oI a0 (xy C) u_1 (wT (a0 3) (xy C) (cs 1) (wX9 (a0 5) aT (xy C) (cs 2) (wX6 (a0 6) aR (xy C) (cs 3) (wX8 (aR 0) (fun _ => a0 3) (xy C) (cs 4) (wX2 (a0 7) aH (xy C) (cs 5) (wX2 (a0 8) aS (xy C) (cs 6) (wX7 (a0 9) aM (xy C) (cs 7) (wX7 (a0 10) aN (xy C) (cs 8) (wX4 (a0 11) aK hm tm (xy C) (cs 9) (wX2 (hm 0) b0 (xy C) (cs 10) (wX2 (hm 1) b1 (xy C) (cs 11) (wX2 (hm 2) b2 (xy C) (cs 12) (wX7 (tm 0) b3 (xy C) (cs 13) (wX7 (tm 1) b4 (xy C) (cs 14) (wX7 (tm 2) b5 (xy C) (cs 15) (wX3 (a0 14) aL (xy C) (cs 16) (wX3 (a0 15) aD (xy C) (cs 17) (wX0 (a0 16) aC (xy C) (cs 18) (wX5 (a0 17) aQ (xy C) (cs 19) Z))))))))))))))))))))) (X := (wX11 oI a0 (xy C) u_1 (wT (a0 3) (xy C) (cs 1) (wX9 (a0 5) aT (xy C) (cs 2) (wX6 (a0 6) aR (xy C) (cs 3) (wX8 (aR 0) (fun _ => a0 3) (xy C) (cs 4) (wX2 (a0 7) aH (xy C) (cs 5) (wX2 (a0 8) aS (xy C) (cs 6) (wX7 (a0 9) aM (xy C) (cs 7) (wX7 (a0 10) aN (xy C) (cs 8) (wX4 (a0 11) aK hm tm (xy C) (cs 9) (wX2 (hm 0) b0 (xy C) (cs 10) (wX2 (hm 1) b1 (xy C) (cs 11) (wX2 (hm 2) b2 (xy C) (cs 12) (wX7 (tm 0) b3 (xy C) (cs 13) (wX7 (tm 1) b4 (xy C) (cs 14) (wX7 (tm 2) b5 (xy C) (cs 15) (wX3 (a0 14) aL (xy C) (cs 16) (wX3 (a0 15) aD (xy C) (cs 17) (wX0 (a0 16) aC (xy C) (cs 18) (wX5 (a0 17) aQ (xy C) (cs 19) []))))))))))))))))))))) (As := [.int (xs ((x3 + (1 : Int32))).toNatClampNeg)]) (rest := [.int r_2]) (u := ms) hC (fun _ _ => rfl) (fun _ => rfl) (ctX12_fault h) wvX12_fault ml_L_66 (ci := 10) (q0 := 0) rfl rfl rfl rfl (by rw [hR0]; exact ⟨Nat.le_of_ble_eq_true rfl, Nat.le_of_ble_eq_true rfl⟩) (by rw [hR0]; exact ⟨Nat.le_of_ble_eq_true rfl, Nat.le_of_ble_eq_true rfl⟩) rfl (Nat.le_of_ble_eq_true rfl) dL_law_634 (fun r_5 u_4 h => ?_)
  refine g_icmp_eq (pc := 637) (tgt := 1783) hC dL_law_637 (by decide) (fun c => ?_) (fun c => absurd h.1 c)
  exact hk a0 aT aR aH aS aM aN aK hm tm b0 b1 b2 b3 b4 b5 aL aD aC aQ aP (va_up cs 0 u_1) u_4 h.2
theorem dL_law_642 : decode cL_law 642 = .ok (.aload_n 1, 1) := by decide +kernel
theorem dL_law_643 : decode cL_law 643 = .ok (.aload_n 0, 1) := by decide +kernel
theorem dL_law_644 : decode cL_law 644 = .ok (.iload_n 3, 1) := by decide +kernel
theorem dL_law_645 : decode cL_law 645 = .ok (.iconst 1, 1) := by decide +kernel
theorem dL_law_646 : decode cL_law 646 = .ok (.iadd, 1) := by decide +kernel
theorem dL_law_647 : decode cL_law 647 = .ok (.iaload, 1) := by decide +kernel
theorem dL_law_648 : decode cL_law 648 = .ok (.invokevirtual 67, 3) := by decide +kernel
theorem dL_law_651 : decode cL_law 651 = .ok (.aload_n 2, 1) := by decide +kernel
theorem dL_law_652 : decode cL_law 652 = .ok (.aload_n 0, 1) := by decide +kernel
theorem dL_law_653 : decode cL_law 653 = .ok (.iload_n 3, 1) := by decide +kernel
theorem dL_law_654 : decode cL_law 654 = .ok (.iconst 1, 1) := by decide +kernel
theorem dL_law_655 : decode cL_law 655 = .ok (.iadd, 1) := by decide +kernel
theorem dL_law_656 : decode cL_law 656 = .ok (.iaload, 1) := by decide +kernel
theorem dL_law_657 : decode cL_law 657 = .ok (.invokevirtual 70, 3) := by decide +kernel
theorem dL_law_660 : decode cL_law 660 = .ok (.if_icmp .eq 1123, 3) := by decide +kernel
set_option maxRecDepth 100000 in
set_option maxHeartbeats 8000000 in
theorem law_told {C : Cx} {R : (Nat → St) → St → Prop} {oI oM b L : Nat} {xs : Nat → Int32} {a0 aT aR aH aS aM aN aK hm tm b0 b1 b2 b3 b4 b5 aL aD aC aQ aP : Nat → Nat} {cs : Nat → St} {ms : St} {x3 : Int32} (hC : Fx C cL_law 4 RL) (hR0 : xR C = room_1) (hX : LwX C b L xs) (hi : InS L x3) (hs : SP_told R) (hr : R cs ms) (hk : LBack C R oI oM b x3) : G C 137 9713 4 (lwW oI oM a0 aT aR aH aS aM aN aK hm tm b0 b1 b2 b3 b4 b5 aL aD aC aQ aP (xy C) cs ms) 642 [(0, .ref b), (1, .ref oI), (2, .ref oM), (3, .int x3)] [] := by
  refine g_eq (σ' := (wX11 oI a0 (xy C) (cs 0) (wT (a0 3) (xy C) (cs 1) (wX9 (a0 5) aT (xy C) (cs 2) (wX6 (a0 6) aR (xy C) (cs 3) (wX8 (aR 0) (fun _ => a0 3) (xy C) (cs 4) (wX2 (a0 7) aH (xy C) (cs 5) (wX2 (a0 8) aS (xy C) (cs 6) (wX7 (a0 9) aM (xy C) (cs 7) (wX7 (a0 10) aN (xy C) (cs 8) (wX4 (a0 11) aK hm tm (xy C) (cs 9) (wX2 (hm 0) b0 (xy C) (cs 10) (wX2 (hm 1) b1 (xy C) (cs 11) (wX2 (hm 2) b2 (xy C) (cs 12) (wX7 (tm 0) b3 (xy C) (cs 13) (wX7 (tm 1) b4 (xy C) (cs 14) (wX7 (tm 2) b5 (xy C) (cs 15) (wX3 (a0 14) aL (xy C) (cs 16) (wX3 (a0 15) aD (xy C) (cs 17) (wX0 (a0 16) aC (xy C) (cs 18) (wX5 (a0 17) aQ (xy C) (cs 19) (wX12 oM aP (xy C) ms [])))))))))))))))))))))) rfl ?_
  refine g_aload_n (pc := 642) hC 1 dL_law_642 rfl rfl ?_
  refine g_aload_n (pc := 643) hC 0 dL_law_643 rfl rfl ?_
  refine g_iload_n (pc := 644) hC 3 dL_law_644 rfl rfl ?_
  refine g_iconst (pc := 645) (v := 1) hC dL_law_645 (by decide) ?_
  refine g_iadd (pc := 646) hC dL_law_646 ?_
  refine g_sld (pc := 647) hC hX hi.2.1 dL_law_647 ?_
  have h := hs (xs ((x3 + (1 : Int32))).toNatClampNeg) cs ms  hr
  refine g_swap (F := fun Z => (wX11 oI a0 (xy C) (cs 0) (wT (a0 3) (xy C) (cs 1) (wX9 (a0 5) aT (xy C) (cs 2) (wX6 (a0 6) aR (xy C) (cs 3) Z))))) (X := (wX11 oI a0 (xy C) (cs 0) (wT (a0 3) (xy C) (cs 1) (wX9 (a0 5) aT (xy C) (cs 2) (wX6 (a0 6) aR (xy C) (cs 3) []))))) (f := fun Z => (wX8 (aR 0) (fun _ => a0 3) (xy C) (cs 4) Z)) (g := fun Z => (wX2 (a0 7) aH (xy C) (cs 5) Z)) (Y := (wX2 (a0 8) aS (xy C) (cs 6) (wX7 (a0 9) aM (xy C) (cs 7) (wX7 (a0 10) aN (xy C) (cs 8) (wX4 (a0 11) aK hm tm (xy C) (cs 9) (wX2 (hm 0) b0 (xy C) (cs 10) (wX2 (hm 1) b1 (xy C) (cs 11) (wX2 (hm 2) b2 (xy C) (cs 12) (wX7 (tm 0) b3 (xy C) (cs 13) (wX7 (tm 1) b4 (xy C) (cs 14) (wX7 (tm 2) b5 (xy C) (cs 15) (wX3 (a0 14) aL (xy C) (cs 16) (wX3 (a0 15) aD (xy C) (cs 17) (wX0 (a0 16) aC (xy C) (cs 18) (wX5 (a0 17) aQ (xy C) (cs 19) (wX12 oM aP (xy C) ms [])))))))))))))))) (fun _ => rfl) (fun _ => rfl) (fun _ => rfl) ?_
  refine g_swap (F := fun Z => (wX11 oI a0 (xy C) (cs 0) (wT (a0 3) (xy C) (cs 1) (wX9 (a0 5) aT (xy C) (cs 2) Z)))) (X := (wX11 oI a0 (xy C) (cs 0) (wT (a0 3) (xy C) (cs 1) (wX9 (a0 5) aT (xy C) (cs 2) [])))) (f := fun Z => (wX6 (a0 6) aR (xy C) (cs 3) Z)) (g := fun Z => (wX2 (a0 7) aH (xy C) (cs 5) Z)) (Y := (wX8 (aR 0) (fun _ => a0 3) (xy C) (cs 4) (wX2 (a0 8) aS (xy C) (cs 6) (wX7 (a0 9) aM (xy C) (cs 7) (wX7 (a0 10) aN (xy C) (cs 8) (wX4 (a0 11) aK hm tm (xy C) (cs 9) (wX2 (hm 0) b0 (xy C) (cs 10) (wX2 (hm 1) b1 (xy C) (cs 11) (wX2 (hm 2) b2 (xy C) (cs 12) (wX7 (tm 0) b3 (xy C) (cs 13) (wX7 (tm 1) b4 (xy C) (cs 14) (wX7 (tm 2) b5 (xy C) (cs 15) (wX3 (a0 14) aL (xy C) (cs 16) (wX3 (a0 15) aD (xy C) (cs 17) (wX0 (a0 16) aC (xy C) (cs 18) (wX5 (a0 17) aQ (xy C) (cs 19) (wX12 oM aP (xy C) ms []))))))))))))))))) (fun _ => rfl) (fun _ => rfl) (fun _ => rfl) ?_
  refine g_swap (F := fun Z => (wX11 oI a0 (xy C) (cs 0) (wT (a0 3) (xy C) (cs 1) Z))) (X := (wX11 oI a0 (xy C) (cs 0) (wT (a0 3) (xy C) (cs 1) []))) (f := fun Z => (wX9 (a0 5) aT (xy C) (cs 2) Z)) (g := fun Z => (wX2 (a0 7) aH (xy C) (cs 5) Z)) (Y := (wX6 (a0 6) aR (xy C) (cs 3) (wX8 (aR 0) (fun _ => a0 3) (xy C) (cs 4) (wX2 (a0 8) aS (xy C) (cs 6) (wX7 (a0 9) aM (xy C) (cs 7) (wX7 (a0 10) aN (xy C) (cs 8) (wX4 (a0 11) aK hm tm (xy C) (cs 9) (wX2 (hm 0) b0 (xy C) (cs 10) (wX2 (hm 1) b1 (xy C) (cs 11) (wX2 (hm 2) b2 (xy C) (cs 12) (wX7 (tm 0) b3 (xy C) (cs 13) (wX7 (tm 1) b4 (xy C) (cs 14) (wX7 (tm 2) b5 (xy C) (cs 15) (wX3 (a0 14) aL (xy C) (cs 16) (wX3 (a0 15) aD (xy C) (cs 17) (wX0 (a0 16) aC (xy C) (cs 18) (wX5 (a0 17) aQ (xy C) (cs 19) (wX12 oM aP (xy C) ms [])))))))))))))))))) (fun _ => rfl) (fun _ => rfl) (fun _ => rfl) ?_
  refine g_swap (F := fun Z => (wX11 oI a0 (xy C) (cs 0) Z)) (X := (wX11 oI a0 (xy C) (cs 0) [])) (f := fun Z => (wT (a0 3) (xy C) (cs 1) Z)) (g := fun Z => (wX2 (a0 7) aH (xy C) (cs 5) Z)) (Y := (wX9 (a0 5) aT (xy C) (cs 2) (wX6 (a0 6) aR (xy C) (cs 3) (wX8 (aR 0) (fun _ => a0 3) (xy C) (cs 4) (wX2 (a0 8) aS (xy C) (cs 6) (wX7 (a0 9) aM (xy C) (cs 7) (wX7 (a0 10) aN (xy C) (cs 8) (wX4 (a0 11) aK hm tm (xy C) (cs 9) (wX2 (hm 0) b0 (xy C) (cs 10) (wX2 (hm 1) b1 (xy C) (cs 11) (wX2 (hm 2) b2 (xy C) (cs 12) (wX7 (tm 0) b3 (xy C) (cs 13) (wX7 (tm 1) b4 (xy C) (cs 14) (wX7 (tm 2) b5 (xy C) (cs 15) (wX3 (a0 14) aL (xy C) (cs 16) (wX3 (a0 15) aD (xy C) (cs 17) (wX0 (a0 16) aC (xy C) (cs 18) (wX5 (a0 17) aQ (xy C) (cs 19) (wX12 oM aP (xy C) ms []))))))))))))))))))) (fun _ => rfl) (fun _ => rfl) (fun _ => rfl) ?_
  refine g_callV_i (pc := 648) (wd := fun (u : St × St) Y => (wX11 oI a0 (xy C) u.1 (wX2 (a0 7) aH (xy C) u.2 Y))) (F := fun Z => Z) (X := []) (As := [.int (xs ((x3 + (1 : Int32))).toNatClampNeg)]) (rest := []) (u := ((cs 0), (cs 5))) hC (fun _ _ => rfl) (fun _ => rfl) (ctX11_told h) wvX11_told ml_L_67 (ci := 9) (q0 := 0) rfl rfl rfl rfl (by rw [hR0]; exact ⟨Nat.le_of_ble_eq_true rfl, Nat.le_of_ble_eq_true rfl⟩) (by rw [hR0]; exact ⟨Nat.le_of_ble_eq_true rfl, Nat.le_of_ble_eq_true rfl⟩) rfl (Nat.le_of_ble_eq_true rfl) dL_law_648 (fun r_3 u_4 h => ?_)
  obtain ⟨u_1, u_2⟩ := u_4
  refine g_aload_n (pc := 651) hC 2 dL_law_651 rfl rfl ?_
  refine g_aload_n (pc := 652) hC 0 dL_law_652 rfl rfl ?_
  refine g_iload_n (pc := 653) hC 3 dL_law_653 rfl rfl ?_
  refine g_iconst (pc := 654) (v := 1) hC dL_law_654 (by decide) ?_
  refine g_iadd (pc := 655) hC dL_law_655 ?_
  refine g_sld (pc := 656) hC hX hi.2.1 dL_law_656 ?_
  refine g_callV_i (pc := 657) (wd := fun (u : St) Y => (wX12 oM aP (xy C) u Y)) (F := fun Z => (wX11 oI a0 (xy C) u_1 (wX2 (a0 7) aH (xy C) u_2 (wT (a0 3) (xy C) (cs 1) (wX9 (a0 5) aT (xy C) (cs 2) (wX6 (a0 6) aR (xy C) (cs 3) (wX8 (aR 0) (fun _ => a0 3) (xy C) (cs 4) (wX2 (a0 8) aS (xy C) (cs 6) (wX7 (a0 9) aM (xy C) (cs 7) (wX7 (a0 10) aN (xy C) (cs 8) (wX4 (a0 11) aK hm tm (xy C) (cs 9) (wX2 (hm 0) b0 (xy C) (cs 10) (wX2 (hm 1) b1 (xy C) (cs 11) (wX2 (hm 2) b2 (xy C) (cs 12) (wX7 (tm 0) b3 (xy C) (cs 13) (wX7 (tm 1) b4 (xy C) (cs 14) (wX7 (tm 2) b5 (xy C) (cs 15) (wX3 (a0 14) aL (xy C) (cs 16) (wX3 (a0 15) aD (xy C) (cs 17) (wX0 (a0 16) aC (xy C) (cs 18) (wX5 (a0 17) aQ (xy C) (cs 19) Z))))))))))))))))))))) (X := (wX11 oI a0 (xy C) u_1 (wX2 (a0 7) aH (xy C) u_2 (wT (a0 3) (xy C) (cs 1) (wX9 (a0 5) aT (xy C) (cs 2) (wX6 (a0 6) aR (xy C) (cs 3) (wX8 (aR 0) (fun _ => a0 3) (xy C) (cs 4) (wX2 (a0 8) aS (xy C) (cs 6) (wX7 (a0 9) aM (xy C) (cs 7) (wX7 (a0 10) aN (xy C) (cs 8) (wX4 (a0 11) aK hm tm (xy C) (cs 9) (wX2 (hm 0) b0 (xy C) (cs 10) (wX2 (hm 1) b1 (xy C) (cs 11) (wX2 (hm 2) b2 (xy C) (cs 12) (wX7 (tm 0) b3 (xy C) (cs 13) (wX7 (tm 1) b4 (xy C) (cs 14) (wX7 (tm 2) b5 (xy C) (cs 15) (wX3 (a0 14) aL (xy C) (cs 16) (wX3 (a0 15) aD (xy C) (cs 17) (wX0 (a0 16) aC (xy C) (cs 18) (wX5 (a0 17) aQ (xy C) (cs 19) []))))))))))))))))))))) (As := [.int (xs ((x3 + (1 : Int32))).toNatClampNeg)]) (rest := [.int r_3]) (u := ms) hC (fun _ _ => rfl) (fun _ => rfl) (ctX12_told h) wvX12_told ml_L_70 (ci := 10) (q0 := 0) rfl rfl rfl rfl (by rw [hR0]; exact ⟨Nat.le_of_ble_eq_true rfl, Nat.le_of_ble_eq_true rfl⟩) (by rw [hR0]; exact ⟨Nat.le_of_ble_eq_true rfl, Nat.le_of_ble_eq_true rfl⟩) rfl (Nat.le_of_ble_eq_true rfl) dL_law_657 (fun r_6 u_5 h => ?_)
  refine g_icmp_eq (pc := 660) (tgt := 1783) hC dL_law_660 (by decide) (fun c => ?_) (fun c => absurd h.1 c)
  refine g_swap (F := fun Z => (wX11 oI a0 (xy C) u_1 Z)) (X := (wX11 oI a0 (xy C) u_1 [])) (f := fun Z => (wX2 (a0 7) aH (xy C) u_2 Z)) (g := fun Z => (wT (a0 3) (xy C) (cs 1) Z)) (Y := (wX9 (a0 5) aT (xy C) (cs 2) (wX6 (a0 6) aR (xy C) (cs 3) (wX8 (aR 0) (fun _ => a0 3) (xy C) (cs 4) (wX2 (a0 8) aS (xy C) (cs 6) (wX7 (a0 9) aM (xy C) (cs 7) (wX7 (a0 10) aN (xy C) (cs 8) (wX4 (a0 11) aK hm tm (xy C) (cs 9) (wX2 (hm 0) b0 (xy C) (cs 10) (wX2 (hm 1) b1 (xy C) (cs 11) (wX2 (hm 2) b2 (xy C) (cs 12) (wX7 (tm 0) b3 (xy C) (cs 13) (wX7 (tm 1) b4 (xy C) (cs 14) (wX7 (tm 2) b5 (xy C) (cs 15) (wX3 (a0 14) aL (xy C) (cs 16) (wX3 (a0 15) aD (xy C) (cs 17) (wX0 (a0 16) aC (xy C) (cs 18) (wX5 (a0 17) aQ (xy C) (cs 19) (wX12 oM aP (xy C) u_5 []))))))))))))))))))) (fun _ => rfl) (fun _ => rfl) (fun _ => rfl) ?_
  refine g_swap (F := fun Z => (wX11 oI a0 (xy C) u_1 (wT (a0 3) (xy C) (cs 1) Z))) (X := (wX11 oI a0 (xy C) u_1 (wT (a0 3) (xy C) (cs 1) []))) (f := fun Z => (wX2 (a0 7) aH (xy C) u_2 Z)) (g := fun Z => (wX9 (a0 5) aT (xy C) (cs 2) Z)) (Y := (wX6 (a0 6) aR (xy C) (cs 3) (wX8 (aR 0) (fun _ => a0 3) (xy C) (cs 4) (wX2 (a0 8) aS (xy C) (cs 6) (wX7 (a0 9) aM (xy C) (cs 7) (wX7 (a0 10) aN (xy C) (cs 8) (wX4 (a0 11) aK hm tm (xy C) (cs 9) (wX2 (hm 0) b0 (xy C) (cs 10) (wX2 (hm 1) b1 (xy C) (cs 11) (wX2 (hm 2) b2 (xy C) (cs 12) (wX7 (tm 0) b3 (xy C) (cs 13) (wX7 (tm 1) b4 (xy C) (cs 14) (wX7 (tm 2) b5 (xy C) (cs 15) (wX3 (a0 14) aL (xy C) (cs 16) (wX3 (a0 15) aD (xy C) (cs 17) (wX0 (a0 16) aC (xy C) (cs 18) (wX5 (a0 17) aQ (xy C) (cs 19) (wX12 oM aP (xy C) u_5 [])))))))))))))))))) (fun _ => rfl) (fun _ => rfl) (fun _ => rfl) ?_
  refine g_swap (F := fun Z => (wX11 oI a0 (xy C) u_1 (wT (a0 3) (xy C) (cs 1) (wX9 (a0 5) aT (xy C) (cs 2) Z)))) (X := (wX11 oI a0 (xy C) u_1 (wT (a0 3) (xy C) (cs 1) (wX9 (a0 5) aT (xy C) (cs 2) [])))) (f := fun Z => (wX2 (a0 7) aH (xy C) u_2 Z)) (g := fun Z => (wX6 (a0 6) aR (xy C) (cs 3) Z)) (Y := (wX8 (aR 0) (fun _ => a0 3) (xy C) (cs 4) (wX2 (a0 8) aS (xy C) (cs 6) (wX7 (a0 9) aM (xy C) (cs 7) (wX7 (a0 10) aN (xy C) (cs 8) (wX4 (a0 11) aK hm tm (xy C) (cs 9) (wX2 (hm 0) b0 (xy C) (cs 10) (wX2 (hm 1) b1 (xy C) (cs 11) (wX2 (hm 2) b2 (xy C) (cs 12) (wX7 (tm 0) b3 (xy C) (cs 13) (wX7 (tm 1) b4 (xy C) (cs 14) (wX7 (tm 2) b5 (xy C) (cs 15) (wX3 (a0 14) aL (xy C) (cs 16) (wX3 (a0 15) aD (xy C) (cs 17) (wX0 (a0 16) aC (xy C) (cs 18) (wX5 (a0 17) aQ (xy C) (cs 19) (wX12 oM aP (xy C) u_5 []))))))))))))))))) (fun _ => rfl) (fun _ => rfl) (fun _ => rfl) ?_
  refine g_swap (F := fun Z => (wX11 oI a0 (xy C) u_1 (wT (a0 3) (xy C) (cs 1) (wX9 (a0 5) aT (xy C) (cs 2) (wX6 (a0 6) aR (xy C) (cs 3) Z))))) (X := (wX11 oI a0 (xy C) u_1 (wT (a0 3) (xy C) (cs 1) (wX9 (a0 5) aT (xy C) (cs 2) (wX6 (a0 6) aR (xy C) (cs 3) []))))) (f := fun Z => (wX2 (a0 7) aH (xy C) u_2 Z)) (g := fun Z => (wX8 (aR 0) (fun _ => a0 3) (xy C) (cs 4) Z)) (Y := (wX2 (a0 8) aS (xy C) (cs 6) (wX7 (a0 9) aM (xy C) (cs 7) (wX7 (a0 10) aN (xy C) (cs 8) (wX4 (a0 11) aK hm tm (xy C) (cs 9) (wX2 (hm 0) b0 (xy C) (cs 10) (wX2 (hm 1) b1 (xy C) (cs 11) (wX2 (hm 2) b2 (xy C) (cs 12) (wX7 (tm 0) b3 (xy C) (cs 13) (wX7 (tm 1) b4 (xy C) (cs 14) (wX7 (tm 2) b5 (xy C) (cs 15) (wX3 (a0 14) aL (xy C) (cs 16) (wX3 (a0 15) aD (xy C) (cs 17) (wX0 (a0 16) aC (xy C) (cs 18) (wX5 (a0 17) aQ (xy C) (cs 19) (wX12 oM aP (xy C) u_5 [])))))))))))))))) (fun _ => rfl) (fun _ => rfl) (fun _ => rfl) ?_
  exact hk a0 aT aR aH aS aM aN aK hm tm b0 b1 b2 b3 b4 b5 aL aD aC aQ aP (va_up (va_up cs 0 u_1) 5 u_2) u_5 h.2
theorem dL_law_665 : decode cL_law 665 = .ok (.aload_n 1, 1) := by decide +kernel
theorem dL_law_666 : decode cL_law 666 = .ok (.aload_n 0, 1) := by decide +kernel
theorem dL_law_667 : decode cL_law 667 = .ok (.iload_n 3, 1) := by decide +kernel
theorem dL_law_668 : decode cL_law 668 = .ok (.iconst 1, 1) := by decide +kernel
theorem dL_law_669 : decode cL_law 669 = .ok (.iadd, 1) := by decide +kernel
theorem dL_law_670 : decode cL_law 670 = .ok (.iaload, 1) := by decide +kernel
theorem dL_law_671 : decode cL_law 671 = .ok (.aload_n 0, 1) := by decide +kernel
theorem dL_law_672 : decode cL_law 672 = .ok (.iload_n 3, 1) := by decide +kernel
theorem dL_law_673 : decode cL_law 673 = .ok (.iconst 2, 1) := by decide +kernel
theorem dL_law_674 : decode cL_law 674 = .ok (.iadd, 1) := by decide +kernel
theorem dL_law_675 : decode cL_law 675 = .ok (.iaload, 1) := by decide +kernel
theorem dL_law_676 : decode cL_law 676 = .ok (.invokevirtual 71, 3) := by decide +kernel
theorem dL_law_679 : decode cL_law 679 = .ok (.aload_n 2, 1) := by decide +kernel
theorem dL_law_680 : decode cL_law 680 = .ok (.aload_n 0, 1) := by decide +kernel
theorem dL_law_681 : decode cL_law 681 = .ok (.iload_n 3, 1) := by decide +kernel
theorem dL_law_682 : decode cL_law 682 = .ok (.iconst 1, 1) := by decide +kernel
theorem dL_law_683 : decode cL_law 683 = .ok (.iadd, 1) := by decide +kernel
theorem dL_law_684 : decode cL_law 684 = .ok (.iaload, 1) := by decide +kernel
theorem dL_law_685 : decode cL_law 685 = .ok (.aload_n 0, 1) := by decide +kernel
theorem dL_law_686 : decode cL_law 686 = .ok (.iload_n 3, 1) := by decide +kernel
theorem dL_law_687 : decode cL_law 687 = .ok (.iconst 2, 1) := by decide +kernel
theorem dL_law_688 : decode cL_law 688 = .ok (.iadd, 1) := by decide +kernel
theorem dL_law_689 : decode cL_law 689 = .ok (.iaload, 1) := by decide +kernel
theorem dL_law_690 : decode cL_law 690 = .ok (.invokevirtual 75, 3) := by decide +kernel
theorem dL_law_693 : decode cL_law 693 = .ok (.if_icmp .eq 1090, 3) := by decide +kernel
set_option maxRecDepth 100000 in
set_option maxHeartbeats 8000000 in
theorem law_stone {C : Cx} {R : (Nat → St) → St → Prop} {oI oM b L : Nat} {xs : Nat → Int32} {a0 aT aR aH aS aM aN aK hm tm b0 b1 b2 b3 b4 b5 aL aD aC aQ aP : Nat → Nat} {cs : Nat → St} {ms : St} {x3 : Int32} (hC : Fx C cL_law 4 RL) (hR0 : xR C = room_1) (hX : LwX C b L xs) (hi : InS L x3) (hs : SP_stone R) (hr : R cs ms) (hk : LBack C R oI oM b x3) : G C 137 9713 4 (lwW oI oM a0 aT aR aH aS aM aN aK hm tm b0 b1 b2 b3 b4 b5 aL aD aC aQ aP (xy C) cs ms) 665 [(0, .ref b), (1, .ref oI), (2, .ref oM), (3, .int x3)] [] := by
  refine g_eq (σ' := (wX11 oI a0 (xy C) (cs 0) (wT (a0 3) (xy C) (cs 1) (wX9 (a0 5) aT (xy C) (cs 2) (wX6 (a0 6) aR (xy C) (cs 3) (wX8 (aR 0) (fun _ => a0 3) (xy C) (cs 4) (wX2 (a0 7) aH (xy C) (cs 5) (wX2 (a0 8) aS (xy C) (cs 6) (wX7 (a0 9) aM (xy C) (cs 7) (wX7 (a0 10) aN (xy C) (cs 8) (wX4 (a0 11) aK hm tm (xy C) (cs 9) (wX2 (hm 0) b0 (xy C) (cs 10) (wX2 (hm 1) b1 (xy C) (cs 11) (wX2 (hm 2) b2 (xy C) (cs 12) (wX7 (tm 0) b3 (xy C) (cs 13) (wX7 (tm 1) b4 (xy C) (cs 14) (wX7 (tm 2) b5 (xy C) (cs 15) (wX3 (a0 14) aL (xy C) (cs 16) (wX3 (a0 15) aD (xy C) (cs 17) (wX0 (a0 16) aC (xy C) (cs 18) (wX5 (a0 17) aQ (xy C) (cs 19) (wX12 oM aP (xy C) ms [])))))))))))))))))))))) rfl ?_
  refine g_aload_n (pc := 665) hC 1 dL_law_665 rfl rfl ?_
  refine g_aload_n (pc := 666) hC 0 dL_law_666 rfl rfl ?_
  refine g_iload_n (pc := 667) hC 3 dL_law_667 rfl rfl ?_
  refine g_iconst (pc := 668) (v := 1) hC dL_law_668 (by decide) ?_
  refine g_iadd (pc := 669) hC dL_law_669 ?_
  refine g_sld (pc := 670) hC hX hi.2.1 dL_law_670 ?_
  refine g_aload_n (pc := 671) hC 0 dL_law_671 rfl rfl ?_
  refine g_iload_n (pc := 672) hC 3 dL_law_672 rfl rfl ?_
  refine g_iconst (pc := 673) (v := 2) hC dL_law_673 (by decide) ?_
  refine g_iadd (pc := 674) hC dL_law_674 ?_
  refine g_sld (pc := 675) hC hX hi.2.2.1 dL_law_675 ?_
  have h := hs (xs ((x3 + (1 : Int32))).toNatClampNeg) (xs ((x3 + (2 : Int32))).toNatClampNeg) cs ms  hr
  refine g_swap (F := fun Z => (wX11 oI a0 (xy C) (cs 0) (wT (a0 3) (xy C) (cs 1) (wX9 (a0 5) aT (xy C) (cs 2) (wX6 (a0 6) aR (xy C) (cs 3) Z))))) (X := (wX11 oI a0 (xy C) (cs 0) (wT (a0 3) (xy C) (cs 1) (wX9 (a0 5) aT (xy C) (cs 2) (wX6 (a0 6) aR (xy C) (cs 3) []))))) (f := fun Z => (wX8 (aR 0) (fun _ => a0 3) (xy C) (cs 4) Z)) (g := fun Z => (wX2 (a0 7) aH (xy C) (cs 5) Z)) (Y := (wX2 (a0 8) aS (xy C) (cs 6) (wX7 (a0 9) aM (xy C) (cs 7) (wX7 (a0 10) aN (xy C) (cs 8) (wX4 (a0 11) aK hm tm (xy C) (cs 9) (wX2 (hm 0) b0 (xy C) (cs 10) (wX2 (hm 1) b1 (xy C) (cs 11) (wX2 (hm 2) b2 (xy C) (cs 12) (wX7 (tm 0) b3 (xy C) (cs 13) (wX7 (tm 1) b4 (xy C) (cs 14) (wX7 (tm 2) b5 (xy C) (cs 15) (wX3 (a0 14) aL (xy C) (cs 16) (wX3 (a0 15) aD (xy C) (cs 17) (wX0 (a0 16) aC (xy C) (cs 18) (wX5 (a0 17) aQ (xy C) (cs 19) (wX12 oM aP (xy C) ms [])))))))))))))))) (fun _ => rfl) (fun _ => rfl) (fun _ => rfl) ?_
  refine g_swap (F := fun Z => (wX11 oI a0 (xy C) (cs 0) (wT (a0 3) (xy C) (cs 1) (wX9 (a0 5) aT (xy C) (cs 2) Z)))) (X := (wX11 oI a0 (xy C) (cs 0) (wT (a0 3) (xy C) (cs 1) (wX9 (a0 5) aT (xy C) (cs 2) [])))) (f := fun Z => (wX6 (a0 6) aR (xy C) (cs 3) Z)) (g := fun Z => (wX2 (a0 7) aH (xy C) (cs 5) Z)) (Y := (wX8 (aR 0) (fun _ => a0 3) (xy C) (cs 4) (wX2 (a0 8) aS (xy C) (cs 6) (wX7 (a0 9) aM (xy C) (cs 7) (wX7 (a0 10) aN (xy C) (cs 8) (wX4 (a0 11) aK hm tm (xy C) (cs 9) (wX2 (hm 0) b0 (xy C) (cs 10) (wX2 (hm 1) b1 (xy C) (cs 11) (wX2 (hm 2) b2 (xy C) (cs 12) (wX7 (tm 0) b3 (xy C) (cs 13) (wX7 (tm 1) b4 (xy C) (cs 14) (wX7 (tm 2) b5 (xy C) (cs 15) (wX3 (a0 14) aL (xy C) (cs 16) (wX3 (a0 15) aD (xy C) (cs 17) (wX0 (a0 16) aC (xy C) (cs 18) (wX5 (a0 17) aQ (xy C) (cs 19) (wX12 oM aP (xy C) ms []))))))))))))))))) (fun _ => rfl) (fun _ => rfl) (fun _ => rfl) ?_
  refine g_swap (F := fun Z => (wX11 oI a0 (xy C) (cs 0) (wT (a0 3) (xy C) (cs 1) Z))) (X := (wX11 oI a0 (xy C) (cs 0) (wT (a0 3) (xy C) (cs 1) []))) (f := fun Z => (wX9 (a0 5) aT (xy C) (cs 2) Z)) (g := fun Z => (wX2 (a0 7) aH (xy C) (cs 5) Z)) (Y := (wX6 (a0 6) aR (xy C) (cs 3) (wX8 (aR 0) (fun _ => a0 3) (xy C) (cs 4) (wX2 (a0 8) aS (xy C) (cs 6) (wX7 (a0 9) aM (xy C) (cs 7) (wX7 (a0 10) aN (xy C) (cs 8) (wX4 (a0 11) aK hm tm (xy C) (cs 9) (wX2 (hm 0) b0 (xy C) (cs 10) (wX2 (hm 1) b1 (xy C) (cs 11) (wX2 (hm 2) b2 (xy C) (cs 12) (wX7 (tm 0) b3 (xy C) (cs 13) (wX7 (tm 1) b4 (xy C) (cs 14) (wX7 (tm 2) b5 (xy C) (cs 15) (wX3 (a0 14) aL (xy C) (cs 16) (wX3 (a0 15) aD (xy C) (cs 17) (wX0 (a0 16) aC (xy C) (cs 18) (wX5 (a0 17) aQ (xy C) (cs 19) (wX12 oM aP (xy C) ms [])))))))))))))))))) (fun _ => rfl) (fun _ => rfl) (fun _ => rfl) ?_
  refine g_swap (F := fun Z => (wX11 oI a0 (xy C) (cs 0) Z)) (X := (wX11 oI a0 (xy C) (cs 0) [])) (f := fun Z => (wT (a0 3) (xy C) (cs 1) Z)) (g := fun Z => (wX2 (a0 7) aH (xy C) (cs 5) Z)) (Y := (wX9 (a0 5) aT (xy C) (cs 2) (wX6 (a0 6) aR (xy C) (cs 3) (wX8 (aR 0) (fun _ => a0 3) (xy C) (cs 4) (wX2 (a0 8) aS (xy C) (cs 6) (wX7 (a0 9) aM (xy C) (cs 7) (wX7 (a0 10) aN (xy C) (cs 8) (wX4 (a0 11) aK hm tm (xy C) (cs 9) (wX2 (hm 0) b0 (xy C) (cs 10) (wX2 (hm 1) b1 (xy C) (cs 11) (wX2 (hm 2) b2 (xy C) (cs 12) (wX7 (tm 0) b3 (xy C) (cs 13) (wX7 (tm 1) b4 (xy C) (cs 14) (wX7 (tm 2) b5 (xy C) (cs 15) (wX3 (a0 14) aL (xy C) (cs 16) (wX3 (a0 15) aD (xy C) (cs 17) (wX0 (a0 16) aC (xy C) (cs 18) (wX5 (a0 17) aQ (xy C) (cs 19) (wX12 oM aP (xy C) ms []))))))))))))))))))) (fun _ => rfl) (fun _ => rfl) (fun _ => rfl) ?_
  refine g_callV_i (pc := 676) (wd := fun (u : St × St) Y => (wX11 oI a0 (xy C) u.1 (wX2 (a0 7) aH (xy C) u.2 Y))) (F := fun Z => Z) (X := []) (As := [.int (xs ((x3 + (1 : Int32))).toNatClampNeg), .int (xs ((x3 + (2 : Int32))).toNatClampNeg)]) (rest := []) (u := ((cs 0), (cs 5))) hC (fun _ _ => rfl) (fun _ => rfl) (ctX11_stone h) wvX11_stone ml_L_71 (ci := 9) (q0 := 0) rfl rfl rfl rfl (by rw [hR0]; exact ⟨Nat.le_of_ble_eq_true rfl, Nat.le_of_ble_eq_true rfl⟩) (by rw [hR0]; exact ⟨Nat.le_of_ble_eq_true rfl, Nat.le_of_ble_eq_true rfl⟩) rfl (Nat.le_of_ble_eq_true rfl) dL_law_676 (fun r_3 u_4 h => ?_)
  obtain ⟨u_1, u_2⟩ := u_4
  refine g_aload_n (pc := 679) hC 2 dL_law_679 rfl rfl ?_
  refine g_aload_n (pc := 680) hC 0 dL_law_680 rfl rfl ?_
  refine g_iload_n (pc := 681) hC 3 dL_law_681 rfl rfl ?_
  refine g_iconst (pc := 682) (v := 1) hC dL_law_682 (by decide) ?_
  refine g_iadd (pc := 683) hC dL_law_683 ?_
  refine g_sld (pc := 684) hC hX hi.2.1 dL_law_684 ?_
  refine g_aload_n (pc := 685) hC 0 dL_law_685 rfl rfl ?_
  refine g_iload_n (pc := 686) hC 3 dL_law_686 rfl rfl ?_
  refine g_iconst (pc := 687) (v := 2) hC dL_law_687 (by decide) ?_
  refine g_iadd (pc := 688) hC dL_law_688 ?_
  refine g_sld (pc := 689) hC hX hi.2.2.1 dL_law_689 ?_
  refine g_callV_i (pc := 690) (wd := fun (u : St) Y => (wX12 oM aP (xy C) u Y)) (F := fun Z => (wX11 oI a0 (xy C) u_1 (wX2 (a0 7) aH (xy C) u_2 (wT (a0 3) (xy C) (cs 1) (wX9 (a0 5) aT (xy C) (cs 2) (wX6 (a0 6) aR (xy C) (cs 3) (wX8 (aR 0) (fun _ => a0 3) (xy C) (cs 4) (wX2 (a0 8) aS (xy C) (cs 6) (wX7 (a0 9) aM (xy C) (cs 7) (wX7 (a0 10) aN (xy C) (cs 8) (wX4 (a0 11) aK hm tm (xy C) (cs 9) (wX2 (hm 0) b0 (xy C) (cs 10) (wX2 (hm 1) b1 (xy C) (cs 11) (wX2 (hm 2) b2 (xy C) (cs 12) (wX7 (tm 0) b3 (xy C) (cs 13) (wX7 (tm 1) b4 (xy C) (cs 14) (wX7 (tm 2) b5 (xy C) (cs 15) (wX3 (a0 14) aL (xy C) (cs 16) (wX3 (a0 15) aD (xy C) (cs 17) (wX0 (a0 16) aC (xy C) (cs 18) (wX5 (a0 17) aQ (xy C) (cs 19) Z))))))))))))))))))))) (X := (wX11 oI a0 (xy C) u_1 (wX2 (a0 7) aH (xy C) u_2 (wT (a0 3) (xy C) (cs 1) (wX9 (a0 5) aT (xy C) (cs 2) (wX6 (a0 6) aR (xy C) (cs 3) (wX8 (aR 0) (fun _ => a0 3) (xy C) (cs 4) (wX2 (a0 8) aS (xy C) (cs 6) (wX7 (a0 9) aM (xy C) (cs 7) (wX7 (a0 10) aN (xy C) (cs 8) (wX4 (a0 11) aK hm tm (xy C) (cs 9) (wX2 (hm 0) b0 (xy C) (cs 10) (wX2 (hm 1) b1 (xy C) (cs 11) (wX2 (hm 2) b2 (xy C) (cs 12) (wX7 (tm 0) b3 (xy C) (cs 13) (wX7 (tm 1) b4 (xy C) (cs 14) (wX7 (tm 2) b5 (xy C) (cs 15) (wX3 (a0 14) aL (xy C) (cs 16) (wX3 (a0 15) aD (xy C) (cs 17) (wX0 (a0 16) aC (xy C) (cs 18) (wX5 (a0 17) aQ (xy C) (cs 19) []))))))))))))))))))))) (As := [.int (xs ((x3 + (1 : Int32))).toNatClampNeg), .int (xs ((x3 + (2 : Int32))).toNatClampNeg)]) (rest := [.int r_3]) (u := ms) hC (fun _ _ => rfl) (fun _ => rfl) (ctX12_stone h) wvX12_stone ml_L_75 (ci := 10) (q0 := 0) rfl rfl rfl rfl (by rw [hR0]; exact ⟨Nat.le_of_ble_eq_true rfl, Nat.le_of_ble_eq_true rfl⟩) (by rw [hR0]; exact ⟨Nat.le_of_ble_eq_true rfl, Nat.le_of_ble_eq_true rfl⟩) rfl (Nat.le_of_ble_eq_true rfl) dL_law_690 (fun r_6 u_5 h => ?_)
  refine g_icmp_eq (pc := 693) (tgt := 1783) hC dL_law_693 (by decide) (fun c => ?_) (fun c => absurd h.1 c)
  refine g_swap (F := fun Z => (wX11 oI a0 (xy C) u_1 Z)) (X := (wX11 oI a0 (xy C) u_1 [])) (f := fun Z => (wX2 (a0 7) aH (xy C) u_2 Z)) (g := fun Z => (wT (a0 3) (xy C) (cs 1) Z)) (Y := (wX9 (a0 5) aT (xy C) (cs 2) (wX6 (a0 6) aR (xy C) (cs 3) (wX8 (aR 0) (fun _ => a0 3) (xy C) (cs 4) (wX2 (a0 8) aS (xy C) (cs 6) (wX7 (a0 9) aM (xy C) (cs 7) (wX7 (a0 10) aN (xy C) (cs 8) (wX4 (a0 11) aK hm tm (xy C) (cs 9) (wX2 (hm 0) b0 (xy C) (cs 10) (wX2 (hm 1) b1 (xy C) (cs 11) (wX2 (hm 2) b2 (xy C) (cs 12) (wX7 (tm 0) b3 (xy C) (cs 13) (wX7 (tm 1) b4 (xy C) (cs 14) (wX7 (tm 2) b5 (xy C) (cs 15) (wX3 (a0 14) aL (xy C) (cs 16) (wX3 (a0 15) aD (xy C) (cs 17) (wX0 (a0 16) aC (xy C) (cs 18) (wX5 (a0 17) aQ (xy C) (cs 19) (wX12 oM aP (xy C) u_5 []))))))))))))))))))) (fun _ => rfl) (fun _ => rfl) (fun _ => rfl) ?_
  refine g_swap (F := fun Z => (wX11 oI a0 (xy C) u_1 (wT (a0 3) (xy C) (cs 1) Z))) (X := (wX11 oI a0 (xy C) u_1 (wT (a0 3) (xy C) (cs 1) []))) (f := fun Z => (wX2 (a0 7) aH (xy C) u_2 Z)) (g := fun Z => (wX9 (a0 5) aT (xy C) (cs 2) Z)) (Y := (wX6 (a0 6) aR (xy C) (cs 3) (wX8 (aR 0) (fun _ => a0 3) (xy C) (cs 4) (wX2 (a0 8) aS (xy C) (cs 6) (wX7 (a0 9) aM (xy C) (cs 7) (wX7 (a0 10) aN (xy C) (cs 8) (wX4 (a0 11) aK hm tm (xy C) (cs 9) (wX2 (hm 0) b0 (xy C) (cs 10) (wX2 (hm 1) b1 (xy C) (cs 11) (wX2 (hm 2) b2 (xy C) (cs 12) (wX7 (tm 0) b3 (xy C) (cs 13) (wX7 (tm 1) b4 (xy C) (cs 14) (wX7 (tm 2) b5 (xy C) (cs 15) (wX3 (a0 14) aL (xy C) (cs 16) (wX3 (a0 15) aD (xy C) (cs 17) (wX0 (a0 16) aC (xy C) (cs 18) (wX5 (a0 17) aQ (xy C) (cs 19) (wX12 oM aP (xy C) u_5 [])))))))))))))))))) (fun _ => rfl) (fun _ => rfl) (fun _ => rfl) ?_
  refine g_swap (F := fun Z => (wX11 oI a0 (xy C) u_1 (wT (a0 3) (xy C) (cs 1) (wX9 (a0 5) aT (xy C) (cs 2) Z)))) (X := (wX11 oI a0 (xy C) u_1 (wT (a0 3) (xy C) (cs 1) (wX9 (a0 5) aT (xy C) (cs 2) [])))) (f := fun Z => (wX2 (a0 7) aH (xy C) u_2 Z)) (g := fun Z => (wX6 (a0 6) aR (xy C) (cs 3) Z)) (Y := (wX8 (aR 0) (fun _ => a0 3) (xy C) (cs 4) (wX2 (a0 8) aS (xy C) (cs 6) (wX7 (a0 9) aM (xy C) (cs 7) (wX7 (a0 10) aN (xy C) (cs 8) (wX4 (a0 11) aK hm tm (xy C) (cs 9) (wX2 (hm 0) b0 (xy C) (cs 10) (wX2 (hm 1) b1 (xy C) (cs 11) (wX2 (hm 2) b2 (xy C) (cs 12) (wX7 (tm 0) b3 (xy C) (cs 13) (wX7 (tm 1) b4 (xy C) (cs 14) (wX7 (tm 2) b5 (xy C) (cs 15) (wX3 (a0 14) aL (xy C) (cs 16) (wX3 (a0 15) aD (xy C) (cs 17) (wX0 (a0 16) aC (xy C) (cs 18) (wX5 (a0 17) aQ (xy C) (cs 19) (wX12 oM aP (xy C) u_5 []))))))))))))))))) (fun _ => rfl) (fun _ => rfl) (fun _ => rfl) ?_
  refine g_swap (F := fun Z => (wX11 oI a0 (xy C) u_1 (wT (a0 3) (xy C) (cs 1) (wX9 (a0 5) aT (xy C) (cs 2) (wX6 (a0 6) aR (xy C) (cs 3) Z))))) (X := (wX11 oI a0 (xy C) u_1 (wT (a0 3) (xy C) (cs 1) (wX9 (a0 5) aT (xy C) (cs 2) (wX6 (a0 6) aR (xy C) (cs 3) []))))) (f := fun Z => (wX2 (a0 7) aH (xy C) u_2 Z)) (g := fun Z => (wX8 (aR 0) (fun _ => a0 3) (xy C) (cs 4) Z)) (Y := (wX2 (a0 8) aS (xy C) (cs 6) (wX7 (a0 9) aM (xy C) (cs 7) (wX7 (a0 10) aN (xy C) (cs 8) (wX4 (a0 11) aK hm tm (xy C) (cs 9) (wX2 (hm 0) b0 (xy C) (cs 10) (wX2 (hm 1) b1 (xy C) (cs 11) (wX2 (hm 2) b2 (xy C) (cs 12) (wX7 (tm 0) b3 (xy C) (cs 13) (wX7 (tm 1) b4 (xy C) (cs 14) (wX7 (tm 2) b5 (xy C) (cs 15) (wX3 (a0 14) aL (xy C) (cs 16) (wX3 (a0 15) aD (xy C) (cs 17) (wX0 (a0 16) aC (xy C) (cs 18) (wX5 (a0 17) aQ (xy C) (cs 19) (wX12 oM aP (xy C) u_5 [])))))))))))))))) (fun _ => rfl) (fun _ => rfl) (fun _ => rfl) ?_
  exact hk a0 aT aR aH aS aM aN aK hm tm b0 b1 b2 b3 b4 b5 aL aD aC aQ aP (va_up (va_up cs 0 u_1) 5 u_2) u_5 h.2
