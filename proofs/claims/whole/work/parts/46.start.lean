/-! THE START: constants, classes, the law from its entry -/
theorem st_w1 : ∀ i, i < 25 → Cond.exactly (.static "IvyHouse$Word" (wNm.getD i "") "LIvyHouse$Word;") "IvyHouse$Word" ∈ flatC (Jvm.Cond.and given_1 narrow_1) := by decide +kernel
theorem st_w2 : ∀ i, i < 25 → Cond.eq (.field (.static "IvyHouse$Word" (wNm.getD i "") "LIvyHouse$Word;") "IvyHouse$Word" "code" "J") (.long (wCd.getD i 0)) ∈ flatC (Jvm.Cond.and given_1 narrow_1) := by decide +kernel
theorem st_w3 : Cond.arrayOf (.static "IvyHouse$Word" "ALL" "[LIvyHouse$Word;") (.object "IvyHouse$Word") ∈ flatC (Jvm.Cond.and given_1 narrow_1) := by decide +kernel
theorem st_w4 : Cond.eq (.length (.static "IvyHouse$Word" "ALL" "[LIvyHouse$Word;")) (.int 25) ∈ flatC (Jvm.Cond.and given_1 narrow_1) := by decide +kernel
theorem st_w5 : ∀ j, j < 25 → Cond.eq (.elem (.static "IvyHouse$Word" "ALL" "[LIvyHouse$Word;") (.int (Int32.ofNat j))) (.static "IvyHouse$Word" (wNm.getD j "") "LIvyHouse$Word;") ∈ flatC (Jvm.Cond.and given_1 narrow_1) := by decide +kernel
theorem st_s1 : Cond.exactly (.string "IvyHouseModel" 181) "java/lang/String" ∈ flatC (Jvm.Cond.and given_1 narrow_1) := by decide +kernel
theorem st_s2 : Cond.eq (.field (.string "IvyHouseModel" 181) "java/lang/String" "coder" "B") (.int 0) ∈ flatC (Jvm.Cond.and given_1 narrow_1) := by decide +kernel
theorem st_s3 : Cond.arrayOf (.field (.string "IvyHouseModel" 181) "java/lang/String" "value" "[B") .byte ∈ flatC (Jvm.Cond.and given_1 narrow_1) := by decide +kernel
theorem st_s4 : Cond.eq (.length (.field (.string "IvyHouseModel" 181) "java/lang/String" "value" "[B")) (.int (Int32.ofNat ([kBy.length].getD 0 0))) ∈ flatC (Jvm.Cond.and given_1 narrow_1) := by decide +kernel
theorem st_s5a : ((flatC (Jvm.Cond.and given_1 narrow_1)).drop 442).take 133 = (List.range 133).map (fun j => Cond.eq (.elem (.field (.string "IvyHouseModel" 181) "java/lang/String" "value" "[B") (.int (Int32.ofNat j))) (.int (kBy.getD j 0))) := by decide +kernel
theorem st_s5 (j : Nat) (hj : j < 133) : Cond.eq (.elem (.field (.string "IvyHouseModel" 181) "java/lang/String" "value" "[B") (.int (Int32.ofNat j))) (.int (kBy.getD j 0)) ∈ flatC (Jvm.Cond.and given_1 narrow_1) := by
  refine List.mem_of_mem_drop (i := 442) (List.mem_of_mem_take (i := 133) ?_)
  rw [st_s5a]
  exact List.mem_map.mpr ⟨j, List.mem_range.mpr hj, rfl⟩
theorem st_c1 : Cond.eq (.static "java/lang/String" "COMPACT_STRINGS" "Z") (.int 1) ∈ flatC (Jvm.Cond.and given_1 narrow_1) := by decide +kernel
theorem st_c2 : Cond.isRef (.static "jdk/internal/util/Preconditions" "SIOOBE_FORMATTER" "Ljava/util/function/BiFunction;") ∈ flatC (Jvm.Cond.and given_1 narrow_1) := by decide +kernel
theorem st_l1 : ∀ i, i < 25 → Cond.laysStatic "IvyHouse$Word" (wNm.getD i "") "LIvyHouse$Word;" ∈ lw_tbl := by decide +kernel
theorem st_l2 : Cond.laysStatic "IvyHouse$Word" "ALL" "[LIvyHouse$Word;" ∈ lw_tbl := by decide +kernel
theorem st_l3 : Cond.laysStatic "java/lang/String" "COMPACT_STRINGS" "Z" ∈ lw_tbl := by decide +kernel
theorem st_l4 : Cond.laysStatic "jdk/internal/util/Preconditions" "SIOOBE_FORMATTER" "Ljava/util/function/BiFunction;" ∈ lw_tbl := by decide +kernel
theorem st_i1 : Cond.initialized "IvyHouse$Word" ∈ lw_tbl := by decide +kernel
theorem st_i2 : Cond.initialized "java/lang/String" ∈ lw_tbl := by decide +kernel
theorem st_i3 : Cond.initialized "jdk/internal/util/Preconditions" ∈ lw_tbl := by decide +kernel
theorem st_r1 : Cond.stringRef "IvyHouseModel" 181 kTx ∈ lw_tbl := by decide +kernel
theorem kn_start {s : State} {args : Array Value} {A : Nat → Prop} (hts : ∀ w ∈ lw_tbl, w.before args s = true) (hg : (Jvm.Cond.and given_1 narrow_1).before args s = true) (hA : ∀ a : Nat, a < s.heap.size → ¬ A a) : ∃ kd, KN kd A s s.heap := by
  have hS := flat_of_before _ hg
  have h1 : ∀ i : Nat, ∃ a : Nat, i < 25 → (Term.static "IvyHouse$Word" (wNm.getD i "") "LIvyHouse$Word;").eval args s none [] s = some (.ref a) := fun i => by
    by_cases hi : i < 25
    · obtain ⟨a, c, cA, kA, q1, -⟩ := Cond.exactly_spec (args := args) (first := s) (o := none) (s := s) (idx := []) (hS _ (st_w1 i hi))
      exact ⟨a, fun _ => q1⟩
    · exact ⟨0, fun h => absurd h hi⟩
  obtain ⟨ad, had⟩ := Classical.axiomOfChoice h1
  have hE : va_Ef 25 "IvyHouse$Word" "code" "J" (fun i => .long (wCd.getD i 0)) ad A s s.heap := va_Efof (nm := wNm) (tm := fun i => .long (wCd.getD i 0)) had (fun i hi => hS _ (st_w2 i hi)) (fun i hi => rfl) hA
  obtain ⟨t, ht, hT⟩ := va_Tof (tm := .static "IvyHouse$Word" "ALL" "[LIvyHouse$Word;") (ty := .object "IvyHouse$Word") (N := 25) (f := fun j => .ref (ad j)) (A := A) (by decide) (hS _ st_w3) (va_eqt (hS _ st_w4)) (fun j hj => va_eqv (hS _ (st_w5 j hj)) (had j hj)) hA
  obtain ⟨adK, adV, hV, hVe⟩ := vk_Sof (args := args) (s := s) (N := 1) (tm := fun _ => .string "IvyHouseModel" 181) (len := [kBy.length]) (byt := [kBy]) (A := A) (fun i hi => by rw [show i = 0 by omega]; decide +kernel) (fun i hi => hS _ st_s1) (fun i hi => hS _ st_s2) (fun i hi => hS _ st_s3) (fun i hi => by rw [show i = 0 by omega]; exact hS _ st_s4) (fun i hi j hj => by
    rw [show i = 0 by omega] at hj ⊢
    exact hS _ (st_s5 j hj)) (fun i j hi hj hij => by omega) hA
  refine ⟨fun i => if i < 25 then ad i else if i = 25 then t else if i = 26 then adK 0 else adV 0, fun i hi => ?_, fun i hi => ?_, ?_, ?_, ?_, ?_, ?_, ?_⟩
  · show va_Z _ _ _ (Value.ref (if i < 25 then ad i else _)) A s s.heap
    rw [if_pos hi]
    exact va_Zof (hts _ (st_l1 i hi)) (hts _ st_i1) (had i hi) hA
  · show va_OF _ _ _ _ (if i < 25 then ad i else _) A s s.heap
    rw [if_pos hi]
    exact hE i hi
  · exact va_Zof (hts _ st_l2) (hts _ st_i1) ht hA
  · obtain ⟨cell, c1, c2, c3, c4, c5, c6, c7⟩ := hT
    exact ⟨cell, c1, c2, c3, c4, c5, fun j hj => by rw [c6 j hj]; show _ = some (Value.ref (if j < 25 then ad j else _)); rw [if_pos hj], c7⟩
  · exact vk_R.of (hts _ st_r1) (hVe 0 (by omega))
  · exact ⟨fun i hi => by rw [show i = 0 by omega]; exact hV.1 0 (by omega), fun i j hi hj _ => by omega⟩
  · exact va_Zof (hts _ st_l3) (hts _ st_i2) (va_eqi (hS _ st_c1)) hA
  · exact va_Zqof (hts _ st_l4) (hts _ st_i3) (hS _ st_c2) hA
