/-! THE LAW: its loop -/
theorem dL_law_0 : decode cL_law 0 = .ok (.new 7, 3) := by decide +kernel
theorem dL_law_3 : decode cL_law 3 = .ok (.dup, 1) := by decide +kernel
theorem dL_law_4 : decode cL_law 4 = .ok (.invokespecial 9, 3) := by decide +kernel
theorem dL_law_7 : decode cL_law 7 = .ok (.astore_n 1, 1) := by decide +kernel
theorem dL_law_8 : decode cL_law 8 = .ok (.new 10, 3) := by decide +kernel
theorem dL_law_11 : decode cL_law 11 = .ok (.dup, 1) := by decide +kernel
theorem dL_law_12 : decode cL_law 12 = .ok (.invokespecial 12, 3) := by decide +kernel
theorem dL_law_15 : decode cL_law 15 = .ok (.astore_n 2, 1) := by decide +kernel
theorem dL_law_16 : decode cL_law 16 = .ok (.iconst 0, 1) := by decide +kernel
theorem dL_law_17 : decode cL_law 17 = .ok (.istore_n 3, 1) := by decide +kernel
theorem dL_law_18 : decode cL_law 18 = .ok (.iload_n 3, 1) := by decide +kernel
theorem dL_law_19 : decode cL_law 19 = .ok (.aload_n 0, 1) := by decide +kernel
theorem dL_law_20 : decode cL_law 20 = .ok (.arraylength, 1) := by decide +kernel
theorem dL_law_21 : decode cL_law 21 = .ok (.bipush 7, 2) := by decide +kernel
theorem dL_law_23 : decode cL_law 23 = .ok (.isub, 1) := by decide +kernel
theorem dL_law_24 : decode cL_law 24 = .ok (.if_icmp .gt 1765, 3) := by decide +kernel
theorem dL_law_27 : decode cL_law 27 = .ok (.aload_n 0, 1) := by decide +kernel
theorem dL_law_28 : decode cL_law 28 = .ok (.iload_n 3, 1) := by decide +kernel
theorem dL_law_29 : decode cL_law 29 = .ok (.iaload, 1) := by decide +kernel
theorem dL_law_30 : decode cL_law 30 = .ok (.bipush 63, 2) := by decide +kernel
theorem dL_law_32 : decode cL_law 32 = .ok (.iand, 1) := by decide +kernel
theorem dL_law_33 : decode cL_law 33 = .ok (.tableswitch 1750 0 51 #[223, 236, 250, 264, 307, 380, 414, 477, 540, 563, 586, 609, 632, 665, 698, 721, 744, 757, 780, 803, 836, 859, 950, 983, 1016, 1039, 1072, 1095, 1118, 1141, 1154, 1167, 1190, 1213, 1236, 1259, 1292, 1315, 1348, 1381, 1424, 1477, 1520, 1543, 1566, 1599, 1622, 1645, 1668, 1691, 1724, 1737], 223) := by decide +kernel
theorem dL_law_1783 : decode cL_law 1783 = .ok (.iinc 3 7, 3) := by decide +kernel
theorem dL_law_1786 : decode cL_law 1786 = .ok (.goto (-1768), 3) := by decide +kernel
theorem dL_law_1789 : decode cL_law 1789 = .ok (.iconst 1, 1) := by decide +kernel
theorem dL_law_1790 : decode cL_law 1790 = .ok (.ireturn, 1) := by decide +kernel
def AllSteps (R : (Nat → St) → St → Prop) : Prop := SP_status R ∧ SP_top R ∧ SP_bottom R ∧ SP_tray R ∧ SP_write R ∧ SP_read R ∧ SP_pour R ∧ SP_feed R ∧ SP_house R ∧ SP_times R ∧ SP_fault R ∧ SP_told R ∧ SP_stone R ∧ SP_debt R ∧ SP_cash R ∧ SP_net R ∧ SP_shorts R ∧ SP_year R ∧ SP_pay R ∧ SP_snip R ∧ SP_mend R ∧ SP_lend R ∧ SP_give R ∧ SP_rate R ∧ SP_rule R ∧ SP_owedIn R ∧ SP_standsIn R ∧ SP_fallsIn R ∧ SP_bare R ∧ SP_most R ∧ SP_mostSet R ∧ SP_fewest R ∧ SP_fewestSet R ∧ SP_under R ∧ SP_chain R ∧ SP_chainAt R ∧ SP_sums R ∧ SP_sumAt R ∧ SP_oddsThat R ∧ SP_fits R ∧ SP_fitsAt R ∧ SP_ask R ∧ SP_game R ∧ SP_moveOf R ∧ SP_luck R ∧ SP_share R ∧ SP_copyOwed R ∧ SP_live R ∧ SP_lived R ∧ SP_mean R ∧ SP_mark R ∧ SP_undo R ∧ True
theorem law_ix {j L : Nat} (hL : L ≤ 3584) (hj : j ≤ 4000) (h : ¬ nI L - 7 < nI j) : j + 7 ≤ L := by
  have h1 : (nI L - 7).toInt = (L : Int) - 7 := by
    have := pk_sub_toInt (a := L) (b := 7) (by omega) (by omega)
    exact this
  have h2 : (nI j).toInt = (j : Int) := nI_toInt (by omega)
  rw [Int32.lt_iff_toInt_lt, h1, h2] at h
  omega
theorem law_InS {j L : Nat} (hL : L ≤ 3584) (h : j + 7 ≤ L) : InS L (nI j) := by
  have e : ∀ k : Nat, k < 7 → vp_in (nI j + nI k) L := fun k hk => by rw [nI_add]; exact vp_in_nI (by omega) (by omega)
  exact ⟨vp_in_nI (by omega) (by omega), e 1 (by omega), e 2 (by omega), e 3 (by omega), e 4 (by omega), e 5 (by omega), e 6 (by omega)⟩
/-- what the law's end may use -/
def LEnd (C : Cx) : Prop := ∀ (σ : va_W) (lv : List (Nat × Value)), G C 137 9713 4 σ 1790 lv [.int 1]
set_option maxRecDepth 100000 in
set_option maxHeartbeats 8000000 in
theorem law_switch {C : Cx} {R : (Nat → St) → St → Prop} {oI oM b L : Nat} {xs : Nat → Int32} {a0 aT aR aH aS aM aN aK hm tm b0 b1 b2 b3 b4 b5 aL aD aC aQ aP : Nat → Nat} {cs : Nat → St} {ms : St} {x3 z : Int32} (hC : Fx C cL_law 4 RL) (hR0 : xR C = room_1) (hX : LwX C b L xs) (hi : InS L x3) (hs : AllSteps R) (hr : R cs ms) (hk : LBack C R oI oM b x3) : G C 137 9713 4 (lwW oI oM a0 aT aR aH aS aM aN aK hm tm b0 b1 b2 b3 b4 b5 aL aD aC aQ aP (xy C) cs ms) 33 [(0, .ref b), (1, .ref oI), (2, .ref oM), (3, .int x3)] [.int z] := by
  by_cases c0 : z = (0 : Int32)
  · refine g_tabIn (pc := 33) (tgt := 256) hC dL_law_33 (by rw [c0]; decide) (by rw [c0]; decide) (by rw [c0]; rfl) (by decide) ?_
    exact law_status hC hR0 hX hi hs.1 hr hk
  by_cases c1 : z = (1 : Int32)
  · refine g_tabIn (pc := 33) (tgt := 269) hC dL_law_33 (by rw [c1]; decide) (by rw [c1]; decide) (by rw [c1]; rfl) (by decide) ?_
    exact law_top hC hR0 hX hi hs.2.1 hr hk
  by_cases c2 : z = (2 : Int32)
  · refine g_tabIn (pc := 33) (tgt := 283) hC dL_law_33 (by rw [c2]; decide) (by rw [c2]; decide) (by rw [c2]; rfl) (by decide) ?_
    exact law_bottom hC hR0 hX hi hs.2.2.1 hr hk
  by_cases c3 : z = (3 : Int32)
  · refine g_tabIn (pc := 33) (tgt := 297) hC dL_law_33 (by rw [c3]; decide) (by rw [c3]; decide) (by rw [c3]; rfl) (by decide) ?_
    exact law_tray hC hR0 hX hi hs.2.2.2.1 hr hk
  by_cases c4 : z = (4 : Int32)
  · refine g_tabIn (pc := 33) (tgt := 340) hC dL_law_33 (by rw [c4]; decide) (by rw [c4]; decide) (by rw [c4]; rfl) (by decide) ?_
    exact law_write hC hR0 hX hi hs.2.2.2.2.1 hr hk
  by_cases c5 : z = (5 : Int32)
  · refine g_tabIn (pc := 33) (tgt := 413) hC dL_law_33 (by rw [c5]; decide) (by rw [c5]; decide) (by rw [c5]; rfl) (by decide) ?_
    exact law_read hC hR0 hX hi hs.2.2.2.2.2.1 hr hk
  by_cases c6 : z = (6 : Int32)
  · refine g_tabIn (pc := 33) (tgt := 447) hC dL_law_33 (by rw [c6]; decide) (by rw [c6]; decide) (by rw [c6]; rfl) (by decide) ?_
    exact law_pour hC hR0 hX hi hs.2.2.2.2.2.2.1 hr hk
  by_cases c7 : z = (7 : Int32)
  · refine g_tabIn (pc := 33) (tgt := 510) hC dL_law_33 (by rw [c7]; decide) (by rw [c7]; decide) (by rw [c7]; rfl) (by decide) ?_
    exact law_feed hC hR0 hX hi hs.2.2.2.2.2.2.2.1 hr hk
  by_cases c8 : z = (8 : Int32)
  · refine g_tabIn (pc := 33) (tgt := 573) hC dL_law_33 (by rw [c8]; decide) (by rw [c8]; decide) (by rw [c8]; rfl) (by decide) ?_
    exact law_house hC hR0 hX hi hs.2.2.2.2.2.2.2.2.1 hr hk
  by_cases c9 : z = (9 : Int32)
  · refine g_tabIn (pc := 33) (tgt := 596) hC dL_law_33 (by rw [c9]; decide) (by rw [c9]; decide) (by rw [c9]; rfl) (by decide) ?_
    exact law_times hC hR0 hX hi hs.2.2.2.2.2.2.2.2.2.1 hr hk
  by_cases c10 : z = (10 : Int32)
  · refine g_tabIn (pc := 33) (tgt := 619) hC dL_law_33 (by rw [c10]; decide) (by rw [c10]; decide) (by rw [c10]; rfl) (by decide) ?_
    exact law_fault hC hR0 hX hi hs.2.2.2.2.2.2.2.2.2.2.1 hr hk
  by_cases c11 : z = (11 : Int32)
  · refine g_tabIn (pc := 33) (tgt := 642) hC dL_law_33 (by rw [c11]; decide) (by rw [c11]; decide) (by rw [c11]; rfl) (by decide) ?_
    exact law_told hC hR0 hX hi hs.2.2.2.2.2.2.2.2.2.2.2.1 hr hk
  by_cases c12 : z = (12 : Int32)
  · refine g_tabIn (pc := 33) (tgt := 665) hC dL_law_33 (by rw [c12]; decide) (by rw [c12]; decide) (by rw [c12]; rfl) (by decide) ?_
    exact law_stone hC hR0 hX hi hs.2.2.2.2.2.2.2.2.2.2.2.2.1 hr hk
  by_cases c13 : z = (13 : Int32)
  · refine g_tabIn (pc := 33) (tgt := 698) hC dL_law_33 (by rw [c13]; decide) (by rw [c13]; decide) (by rw [c13]; rfl) (by decide) ?_
    exact law_debt hC hR0 hX hi hs.2.2.2.2.2.2.2.2.2.2.2.2.2.1 hr hk
  by_cases c14 : z = (14 : Int32)
  · refine g_tabIn (pc := 33) (tgt := 731) hC dL_law_33 (by rw [c14]; decide) (by rw [c14]; decide) (by rw [c14]; rfl) (by decide) ?_
    exact law_cash hC hR0 hX hi hs.2.2.2.2.2.2.2.2.2.2.2.2.2.2.1 hr hk
  by_cases c15 : z = (15 : Int32)
  · refine g_tabIn (pc := 33) (tgt := 754) hC dL_law_33 (by rw [c15]; decide) (by rw [c15]; decide) (by rw [c15]; rfl) (by decide) ?_
    exact law_net hC hR0 hX hi hs.2.2.2.2.2.2.2.2.2.2.2.2.2.2.2.1 hr hk
  by_cases c16 : z = (16 : Int32)
  · refine g_tabIn (pc := 33) (tgt := 777) hC dL_law_33 (by rw [c16]; decide) (by rw [c16]; decide) (by rw [c16]; rfl) (by decide) ?_
    exact law_shorts hC hR0 hX hi hs.2.2.2.2.2.2.2.2.2.2.2.2.2.2.2.2.1 hr hk
  by_cases c17 : z = (17 : Int32)
  · refine g_tabIn (pc := 33) (tgt := 790) hC dL_law_33 (by rw [c17]; decide) (by rw [c17]; decide) (by rw [c17]; rfl) (by decide) ?_
    exact law_year hC hR0 hX hi hs.2.2.2.2.2.2.2.2.2.2.2.2.2.2.2.2.2.1 hr hk
  by_cases c18 : z = (18 : Int32)
  · refine g_tabIn (pc := 33) (tgt := 813) hC dL_law_33 (by rw [c18]; decide) (by rw [c18]; decide) (by rw [c18]; rfl) (by decide) ?_
    exact law_pay hC hR0 hX hi hs.2.2.2.2.2.2.2.2.2.2.2.2.2.2.2.2.2.2.1 hr hk
  by_cases c19 : z = (19 : Int32)
  · refine g_tabIn (pc := 33) (tgt := 836) hC dL_law_33 (by rw [c19]; decide) (by rw [c19]; decide) (by rw [c19]; rfl) (by decide) ?_
    exact law_snip hC hR0 hX hi hs.2.2.2.2.2.2.2.2.2.2.2.2.2.2.2.2.2.2.2.1 hr hk
  by_cases c20 : z = (20 : Int32)
  · refine g_tabIn (pc := 33) (tgt := 869) hC dL_law_33 (by rw [c20]; decide) (by rw [c20]; decide) (by rw [c20]; rfl) (by decide) ?_
    exact law_mend hC hR0 hX hi hs.2.2.2.2.2.2.2.2.2.2.2.2.2.2.2.2.2.2.2.2.1 hr hk
  by_cases c21 : z = (21 : Int32)
  · refine g_tabIn (pc := 33) (tgt := 892) hC dL_law_33 (by rw [c21]; decide) (by rw [c21]; decide) (by rw [c21]; rfl) (by decide) ?_
    exact law_lend hC hR0 hX hi hs.2.2.2.2.2.2.2.2.2.2.2.2.2.2.2.2.2.2.2.2.2.1 hr hk
  by_cases c22 : z = (22 : Int32)
  · refine g_tabIn (pc := 33) (tgt := 983) hC dL_law_33 (by rw [c22]; decide) (by rw [c22]; decide) (by rw [c22]; rfl) (by decide) ?_
    exact law_give hC hR0 hX hi hs.2.2.2.2.2.2.2.2.2.2.2.2.2.2.2.2.2.2.2.2.2.2.1 hr hk
  by_cases c23 : z = (23 : Int32)
  · refine g_tabIn (pc := 33) (tgt := 1016) hC dL_law_33 (by rw [c23]; decide) (by rw [c23]; decide) (by rw [c23]; rfl) (by decide) ?_
    exact law_rate hC hR0 hX hi hs.2.2.2.2.2.2.2.2.2.2.2.2.2.2.2.2.2.2.2.2.2.2.2.1 hr hk
  by_cases c24 : z = (24 : Int32)
  · refine g_tabIn (pc := 33) (tgt := 1049) hC dL_law_33 (by rw [c24]; decide) (by rw [c24]; decide) (by rw [c24]; rfl) (by decide) ?_
    exact law_rule hC hR0 hX hi hs.2.2.2.2.2.2.2.2.2.2.2.2.2.2.2.2.2.2.2.2.2.2.2.2.1 hr hk
  by_cases c25 : z = (25 : Int32)
  · refine g_tabIn (pc := 33) (tgt := 1072) hC dL_law_33 (by rw [c25]; decide) (by rw [c25]; decide) (by rw [c25]; rfl) (by decide) ?_
    exact law_owedIn hC hR0 hX hi hs.2.2.2.2.2.2.2.2.2.2.2.2.2.2.2.2.2.2.2.2.2.2.2.2.2.1 hr hk
  by_cases c26 : z = (26 : Int32)
  · refine g_tabIn (pc := 33) (tgt := 1105) hC dL_law_33 (by rw [c26]; decide) (by rw [c26]; decide) (by rw [c26]; rfl) (by decide) ?_
    exact law_standsIn hC hR0 hX hi hs.2.2.2.2.2.2.2.2.2.2.2.2.2.2.2.2.2.2.2.2.2.2.2.2.2.2.1 hr hk
  by_cases c27 : z = (27 : Int32)
  · refine g_tabIn (pc := 33) (tgt := 1128) hC dL_law_33 (by rw [c27]; decide) (by rw [c27]; decide) (by rw [c27]; rfl) (by decide) ?_
    exact law_fallsIn hC hR0 hX hi hs.2.2.2.2.2.2.2.2.2.2.2.2.2.2.2.2.2.2.2.2.2.2.2.2.2.2.2.1 hr hk
  by_cases c28 : z = (28 : Int32)
  · refine g_tabIn (pc := 33) (tgt := 1151) hC dL_law_33 (by rw [c28]; decide) (by rw [c28]; decide) (by rw [c28]; rfl) (by decide) ?_
    exact law_bare hC hR0 hX hi hs.2.2.2.2.2.2.2.2.2.2.2.2.2.2.2.2.2.2.2.2.2.2.2.2.2.2.2.2.1 hr hk
  by_cases c29 : z = (29 : Int32)
  · refine g_tabIn (pc := 33) (tgt := 1174) hC dL_law_33 (by rw [c29]; decide) (by rw [c29]; decide) (by rw [c29]; rfl) (by decide) ?_
    exact law_most hC hR0 hX hi hs.2.2.2.2.2.2.2.2.2.2.2.2.2.2.2.2.2.2.2.2.2.2.2.2.2.2.2.2.2.1 hr hk
  by_cases c30 : z = (30 : Int32)
  · refine g_tabIn (pc := 33) (tgt := 1187) hC dL_law_33 (by rw [c30]; decide) (by rw [c30]; decide) (by rw [c30]; rfl) (by decide) ?_
    exact law_mostSet hC hR0 hX hi hs.2.2.2.2.2.2.2.2.2.2.2.2.2.2.2.2.2.2.2.2.2.2.2.2.2.2.2.2.2.2.1 hr hk
  by_cases c31 : z = (31 : Int32)
  · refine g_tabIn (pc := 33) (tgt := 1200) hC dL_law_33 (by rw [c31]; decide) (by rw [c31]; decide) (by rw [c31]; rfl) (by decide) ?_
    exact law_fewest hC hR0 hX hi hs.2.2.2.2.2.2.2.2.2.2.2.2.2.2.2.2.2.2.2.2.2.2.2.2.2.2.2.2.2.2.2.1 hr hk
  by_cases c32 : z = (32 : Int32)
  · refine g_tabIn (pc := 33) (tgt := 1223) hC dL_law_33 (by rw [c32]; decide) (by rw [c32]; decide) (by rw [c32]; rfl) (by decide) ?_
    exact law_fewestSet hC hR0 hX hi hs.2.2.2.2.2.2.2.2.2.2.2.2.2.2.2.2.2.2.2.2.2.2.2.2.2.2.2.2.2.2.2.2.1 hr hk
  by_cases c33 : z = (33 : Int32)
  · refine g_tabIn (pc := 33) (tgt := 1246) hC dL_law_33 (by rw [c33]; decide) (by rw [c33]; decide) (by rw [c33]; rfl) (by decide) ?_
    exact law_under hC hR0 hX hi hs.2.2.2.2.2.2.2.2.2.2.2.2.2.2.2.2.2.2.2.2.2.2.2.2.2.2.2.2.2.2.2.2.2.1 hr hk
  by_cases c34 : z = (34 : Int32)
  · refine g_tabIn (pc := 33) (tgt := 1269) hC dL_law_33 (by rw [c34]; decide) (by rw [c34]; decide) (by rw [c34]; rfl) (by decide) ?_
    exact law_chain hC hR0 hX hi hs.2.2.2.2.2.2.2.2.2.2.2.2.2.2.2.2.2.2.2.2.2.2.2.2.2.2.2.2.2.2.2.2.2.2.1 hr hk
  by_cases c35 : z = (35 : Int32)
  · refine g_tabIn (pc := 33) (tgt := 1292) hC dL_law_33 (by rw [c35]; decide) (by rw [c35]; decide) (by rw [c35]; rfl) (by decide) ?_
    exact law_chainAt hC hR0 hX hi hs.2.2.2.2.2.2.2.2.2.2.2.2.2.2.2.2.2.2.2.2.2.2.2.2.2.2.2.2.2.2.2.2.2.2.2.1 hr hk
  by_cases c36 : z = (36 : Int32)
  · refine g_tabIn (pc := 33) (tgt := 1325) hC dL_law_33 (by rw [c36]; decide) (by rw [c36]; decide) (by rw [c36]; rfl) (by decide) ?_
    exact law_sums hC hR0 hX hi hs.2.2.2.2.2.2.2.2.2.2.2.2.2.2.2.2.2.2.2.2.2.2.2.2.2.2.2.2.2.2.2.2.2.2.2.2.1 hr hk
  by_cases c37 : z = (37 : Int32)
  · refine g_tabIn (pc := 33) (tgt := 1348) hC dL_law_33 (by rw [c37]; decide) (by rw [c37]; decide) (by rw [c37]; rfl) (by decide) ?_
    exact law_sumAt hC hR0 hX hi hs.2.2.2.2.2.2.2.2.2.2.2.2.2.2.2.2.2.2.2.2.2.2.2.2.2.2.2.2.2.2.2.2.2.2.2.2.2.1 hr hk
  by_cases c38 : z = (38 : Int32)
  · refine g_tabIn (pc := 33) (tgt := 1381) hC dL_law_33 (by rw [c38]; decide) (by rw [c38]; decide) (by rw [c38]; rfl) (by decide) ?_
    exact law_oddsThat hC hR0 hX hi hs.2.2.2.2.2.2.2.2.2.2.2.2.2.2.2.2.2.2.2.2.2.2.2.2.2.2.2.2.2.2.2.2.2.2.2.2.2.2.1 hr hk
  by_cases c39 : z = (39 : Int32)
  · refine g_tabIn (pc := 33) (tgt := 1414) hC dL_law_33 (by rw [c39]; decide) (by rw [c39]; decide) (by rw [c39]; rfl) (by decide) ?_
    exact law_fits hC hR0 hX hi hs.2.2.2.2.2.2.2.2.2.2.2.2.2.2.2.2.2.2.2.2.2.2.2.2.2.2.2.2.2.2.2.2.2.2.2.2.2.2.2.1 hr hk
  by_cases c40 : z = (40 : Int32)
  · refine g_tabIn (pc := 33) (tgt := 1457) hC dL_law_33 (by rw [c40]; decide) (by rw [c40]; decide) (by rw [c40]; rfl) (by decide) ?_
    exact law_fitsAt hC hR0 hX hi hs.2.2.2.2.2.2.2.2.2.2.2.2.2.2.2.2.2.2.2.2.2.2.2.2.2.2.2.2.2.2.2.2.2.2.2.2.2.2.2.2.1 hr hk
  by_cases c41 : z = (41 : Int32)
  · refine g_tabIn (pc := 33) (tgt := 1510) hC dL_law_33 (by rw [c41]; decide) (by rw [c41]; decide) (by rw [c41]; rfl) (by decide) ?_
    exact law_ask hC hR0 hX hi hs.2.2.2.2.2.2.2.2.2.2.2.2.2.2.2.2.2.2.2.2.2.2.2.2.2.2.2.2.2.2.2.2.2.2.2.2.2.2.2.2.2.1 hr hk
  by_cases c42 : z = (42 : Int32)
  · refine g_tabIn (pc := 33) (tgt := 1553) hC dL_law_33 (by rw [c42]; decide) (by rw [c42]; decide) (by rw [c42]; rfl) (by decide) ?_
    exact law_game hC hR0 hX hi hs.2.2.2.2.2.2.2.2.2.2.2.2.2.2.2.2.2.2.2.2.2.2.2.2.2.2.2.2.2.2.2.2.2.2.2.2.2.2.2.2.2.2.1 hr hk
  by_cases c43 : z = (43 : Int32)
  · refine g_tabIn (pc := 33) (tgt := 1576) hC dL_law_33 (by rw [c43]; decide) (by rw [c43]; decide) (by rw [c43]; rfl) (by decide) ?_
    exact law_moveOf hC hR0 hX hi hs.2.2.2.2.2.2.2.2.2.2.2.2.2.2.2.2.2.2.2.2.2.2.2.2.2.2.2.2.2.2.2.2.2.2.2.2.2.2.2.2.2.2.2.1 hr hk
  by_cases c44 : z = (44 : Int32)
  · refine g_tabIn (pc := 33) (tgt := 1599) hC dL_law_33 (by rw [c44]; decide) (by rw [c44]; decide) (by rw [c44]; rfl) (by decide) ?_
    exact law_luck hC hR0 hX hi hs.2.2.2.2.2.2.2.2.2.2.2.2.2.2.2.2.2.2.2.2.2.2.2.2.2.2.2.2.2.2.2.2.2.2.2.2.2.2.2.2.2.2.2.2.1 hr hk
  by_cases c45 : z = (45 : Int32)
  · refine g_tabIn (pc := 33) (tgt := 1632) hC dL_law_33 (by rw [c45]; decide) (by rw [c45]; decide) (by rw [c45]; rfl) (by decide) ?_
    exact law_share hC hR0 hX hi hs.2.2.2.2.2.2.2.2.2.2.2.2.2.2.2.2.2.2.2.2.2.2.2.2.2.2.2.2.2.2.2.2.2.2.2.2.2.2.2.2.2.2.2.2.2.1 hr hk
  by_cases c46 : z = (46 : Int32)
  · refine g_tabIn (pc := 33) (tgt := 1655) hC dL_law_33 (by rw [c46]; decide) (by rw [c46]; decide) (by rw [c46]; rfl) (by decide) ?_
    exact law_copyOwed hC hR0 hX hi hs.2.2.2.2.2.2.2.2.2.2.2.2.2.2.2.2.2.2.2.2.2.2.2.2.2.2.2.2.2.2.2.2.2.2.2.2.2.2.2.2.2.2.2.2.2.2.1 hr hk
  by_cases c47 : z = (47 : Int32)
  · refine g_tabIn (pc := 33) (tgt := 1678) hC dL_law_33 (by rw [c47]; decide) (by rw [c47]; decide) (by rw [c47]; rfl) (by decide) ?_
    exact law_live hC hR0 hX hi hs.2.2.2.2.2.2.2.2.2.2.2.2.2.2.2.2.2.2.2.2.2.2.2.2.2.2.2.2.2.2.2.2.2.2.2.2.2.2.2.2.2.2.2.2.2.2.2.1 hr hk
  by_cases c48 : z = (48 : Int32)
  · refine g_tabIn (pc := 33) (tgt := 1701) hC dL_law_33 (by rw [c48]; decide) (by rw [c48]; decide) (by rw [c48]; rfl) (by decide) ?_
    exact law_lived hC hR0 hX hi hs.2.2.2.2.2.2.2.2.2.2.2.2.2.2.2.2.2.2.2.2.2.2.2.2.2.2.2.2.2.2.2.2.2.2.2.2.2.2.2.2.2.2.2.2.2.2.2.2.1 hr hk
  by_cases c49 : z = (49 : Int32)
  · refine g_tabIn (pc := 33) (tgt := 1724) hC dL_law_33 (by rw [c49]; decide) (by rw [c49]; decide) (by rw [c49]; rfl) (by decide) ?_
    exact law_mean hC hR0 hX hi hs.2.2.2.2.2.2.2.2.2.2.2.2.2.2.2.2.2.2.2.2.2.2.2.2.2.2.2.2.2.2.2.2.2.2.2.2.2.2.2.2.2.2.2.2.2.2.2.2.2.1 hr hk
  by_cases c50 : z = (50 : Int32)
  · refine g_tabIn (pc := 33) (tgt := 1757) hC dL_law_33 (by rw [c50]; decide) (by rw [c50]; decide) (by rw [c50]; rfl) (by decide) ?_
    exact law_mark hC hR0 hX hi hs.2.2.2.2.2.2.2.2.2.2.2.2.2.2.2.2.2.2.2.2.2.2.2.2.2.2.2.2.2.2.2.2.2.2.2.2.2.2.2.2.2.2.2.2.2.2.2.2.2.2.1 hr hk
  by_cases c51 : z = (51 : Int32)
  · refine g_tabIn (pc := 33) (tgt := 1770) hC dL_law_33 (by rw [c51]; decide) (by rw [c51]; decide) (by rw [c51]; rfl) (by decide) ?_
    exact law_undo hC hR0 hX hi hs.2.2.2.2.2.2.2.2.2.2.2.2.2.2.2.2.2.2.2.2.2.2.2.2.2.2.2.2.2.2.2.2.2.2.2.2.2.2.2.2.2.2.2.2.2.2.2.2.2.2.2.1 hr hk
  refine g_tabOut (pc := 33) (tgt := 1783) hC dL_law_33 (tab_out z (0) 52 (51) rfl (tab_s c0 (tab_s c1 (tab_s c2 (tab_s c3 (tab_s c4 (tab_s c5 (tab_s c6 (tab_s c7 (tab_s c8 (tab_s c9 (tab_s c10 (tab_s c11 (tab_s c12 (tab_s c13 (tab_s c14 (tab_s c15 (tab_s c16 (tab_s c17 (tab_s c18 (tab_s c19 (tab_s c20 (tab_s c21 (tab_s c22 (tab_s c23 (tab_s c24 (tab_s c25 (tab_s c26 (tab_s c27 (tab_s c28 (tab_s c29 (tab_s c30 (tab_s c31 (tab_s c32 (tab_s c33 (tab_s c34 (tab_s c35 (tab_s c36 (tab_s c37 (tab_s c38 (tab_s c39 (tab_s c40 (tab_s c41 (tab_s c42 (tab_s c43 (tab_s c44 (tab_s c45 (tab_s c46 (tab_s c47 (tab_s c48 (tab_s c49 (tab_s c50 (tab_s c51 tab_0))))))))))))))))))))))))))))))))))))))))))))))))))))) (by decide) ?_
  exact hk a0 aT aR aH aS aM aN aK hm tm b0 b1 b2 b3 b4 b5 aL aD aC aQ aP cs ms hr
set_option maxRecDepth 100000 in
set_option maxHeartbeats 8000000 in
theorem law_loop {C : Cx} {R : (Nat → St) → St → Prop} {oI oM b L : Nat} {xs : Nat → Int32} (hL : L ≤ 3584) (hC : Fx C cL_law 4 RL) (hR0 : xR C = room_1) (hX : LwX C b L xs) (hs : AllSteps R) (he : LEnd C) : ∀ (n j : Nat) (a0 aT aR aH aS aM aN aK hm tm b0 b1 b2 b3 b4 b5 aL aD aC aQ aP : Nat → Nat) (cs : Nat → St) (ms : St), j ≤ L + 7 → L + 7 - j < n → R cs ms → G C 137 9713 4 (lwW oI oM a0 aT aR aH aS aM aN aK hm tm b0 b1 b2 b3 b4 b5 aL aD aC aQ aP (xy C) cs ms) 18 [(0, .ref b), (1, .ref oI), (2, .ref oM), (3, .int (nI j))] [] := by
  intro n
  induction n with
  | zero => intro j a0 aT aR aH aS aM aN aK hm tm b0 b1 b2 b3 b4 b5 aL aD aC aQ aP cs ms _ h; omega
  | succ n ih =>
    intro j a0 aT aR aH aS aM aN aK hm tm b0 b1 b2 b3 b4 b5 aL aD aC aQ aP cs ms hj hn hr
    refine g_iload_n (pc := 18) hC 3 dL_law_18 rfl rfl ?_
    refine g_aload_n (pc := 19) hC 0 dL_law_19 rfl rfl ?_
    refine g_slen (pc := 20) hC hX dL_law_20 ?_
    refine g_bipush (pc := 21) (v := 7) hC dL_law_21 (by decide) ?_
    refine g_isub (pc := 23) hC dL_law_23 ?_
    refine g_icmp_gt (pc := 24) (tgt := 1789) hC dL_law_24 (by decide) (fun c => ?_) (fun c => ?_)
    · refine g_iconst (pc := 1789) (v := 1) hC dL_law_1789 (by decide) ?_
      exact he _ _
    · have hj7 := law_ix hL (by omega) c
      have hi := law_InS hL hj7
      refine g_aload_n (pc := 27) hC 0 dL_law_27 rfl rfl ?_
      refine g_iload_n (pc := 28) hC 3 dL_law_28 rfl rfl ?_
      refine g_sld (pc := 29) hC hX hi.1 dL_law_29 ?_
      refine g_bipush (pc := 30) (v := 63) hC dL_law_30 (by decide) ?_
      refine g_iand (pc := 32) hC dL_law_32 ?_
      refine law_switch hC hR0 hX hi hs hr ?_
      intro a0 aT aR aH aS aM aN aK hm tm b0 b1 b2 b3 b4 b5 aL aD aC aQ aP cs ms hr
      refine g_iinc (pc := 1783) (v := nI (j + 7)) (lv' := [(3, .int (nI (j + 7))), (0, .ref b), (1, .ref oI), (2, .ref oM)]) hC 3 dL_law_1783 rfl (nI_add j 7) (Nat.le_of_ble_eq_true rfl) rfl ?_
      refine g_goto (pc := 1786) (tgt := 18) hC dL_law_1786 (by decide) ?_
      refine g_sub (lv' := [(0, .ref b), (1, .ref oI), (2, .ref oM), (3, .int (nI (j + 7)))]) [1, 2, 3, 0] rfl ?_
      exact ih (j + 7) a0 aT aR aH aS aM aN aK hm tm b0 b1 b2 b3 b4 b5 aL aD aC aQ aP cs ms (by omega) (by omega) hr

