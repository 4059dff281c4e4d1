/-! THE CLAIM OUT OF ONE WALK OF THE LAW'S BODY. Your part is whole_start (and what it stands on); all else here is the same for every law, but numbers. -/
def R_law : String := "IvyHouseLaw"
def lw_P (b : Addr) (xs : List Int32) (args : Array Value) (s : State) : Prop := args = #[.ref b] ∧ s.IntsAt b xs ∧ xs.length ≤ 3584 ∧ (Jvm.Cond.and given_1 narrow_1).before args s = true
def lw_Q (_ : Array Value) (s : State) (o : Outcome) (t : State) : Prop := o = .returned (some (.int 1)) ∧ Framed s o t [] 600000 7302250
def lw_Z (below : List Frame) (a : Array Value) (s : State) : State → Prop := fun t => ∃ o, t.status = .running ∧ Ended t below o ∧ lw_Q a s o t
/-- the law's own end, with 1 on the stack, nothing written that was there before, its room as the claim has it -/
theorem lw_ret {p : Program} {l : Launch} {e : Env} {s : State} {m : MethodId} {below : List Frame} {meth : Method} {c : Code} {b : Nat} (hx : p.tables.exec = Jvm.exec) (hb : c.code = code) (hr : meth.sig.returnType = ret) (hlocks : meth.locks = false) {pc : Nat} {H : Heap} {ls : Array Slot} (hdg : decode code pc = .ok (.ireturn, 1)) : W p l e room_1 s m #[Value.ref b] below meth c H [] 600000 7302250 (lw_Z below #[Value.ref b] s) (F0 m pc ls [.int 1]) := by
  intro T hT X
  obtain ⟨fs, hret, hrun, hended, hW, hframe⟩ := X.leave (v := some (.int 1)) (hlocks := hlocks) (fun h => by rw [hr] at h; cases h)
  have hmeth' : T.vm.method? m = some meth := X.method'
  refine ⟨T.setFrames fs, ?_, .returned (some (.int 1)), hrun, hended, rfl, ⟨_, rfl⟩, hW, hframe⟩
  jvm_step X.here [X.here.top, hx, hb, hdg, hmeth', hr, ret, narrow_b1]
  (try refine ⟨rfl, ?_⟩); (try refine ⟨rfl, ?_⟩)
  first | (intro acts; rw [hret _ acts rfl rfl rfl]) | rw [hret _ _ rfl rfl rfl]
  exact Steps.refl _
/-- what holds at the law's entry: the machine, the code, the tables' words (any of lw_tbl by 'hts w (by decide +kernel)'), the script of L ints xs at the cell b, what the Statement gives of the start (any of its parts by flat_of_before) -/
def lw_At (p : Program) (s : State) (m : MethodId) (meth : Method) (c : Code) (b L : Nat) (xs : Nat → Int32) : Prop :=
  p.tables.exec = Jvm.exec ∧ c.code = code ∧ meth.sig.returnType = ret ∧ c.maxLocals = 4 ∧ s.vm.findClass R_law = some m.cls ∧ (∀ w ∈ lw_tbl, w.before #[Value.ref b] s = true) ∧ va_X b L xs s s.heap ∧ b < s.heap.size ∧ meth.locks = false ∧ (Jvm.Cond.and given_1 narrow_1).before #[Value.ref b] s = true
def cs0 : Nat → St := fun i => if i = 0 then (si (si (sj u00 2 1) 12 (-1)) 13 (-1)) else if i = 2 then (sw u00 2 (upd (upd (upd (upd (fun _ => 0) (0 : Int32).toNatClampNeg (-1)) (1 : Int32).toNatClampNeg (-1)) (2 : Int32).toNatClampNeg (-1)) (3 : Int32).toNatClampNeg (-1))) else if i = 5 then (si u00 3 4) else if i = 6 then (si u00 3 4) else if i = 10 then (si u00 3 4) else if i = 11 then (si u00 3 4) else if i = 12 then (si u00 3 4) else u00
theorem cy_prim {s : State} {args : Array Value} {ty : FieldType} (hp : ∀ C, ty ≠ .object C) (h : (Cond.arrayClass ty).before args s = true) : ∃ c : ClassId, ArrOfT s c ty ∧ va_RA s c ty := by
  obtain ⟨c, k, comp, h1, h2, h3⟩ := Cond.arrayClass_spec h
  refine ⟨c, fun n z => ⟨fun k h => (by cases h), k, h2, comp, h3⟩, ?_⟩
  cases ty <;> first | exact h1 | exact absurd rfl (hp _)
theorem cy_ref {s : State} {args : Array Value} {C : String} (h : (Cond.arrayOver (.object C)).before args s = true) : ∃ c : ClassId, ArrOfT s c (.object C) ∧ va_RA s c (.object C) := by
  obtain ⟨comp, c, k, h1, h2, h3, h4, h5⟩ := Cond.arrayOver_spec h
  exact ⟨c, fun n z => ⟨fun k h => (by cases h), k, h3, comp, h4⟩, k, comp, h3, h4, h1, h5⟩
theorem ao_1 : Cond.arrayOver (.object "IvyHouse$House") ∈ tables_1 := List.mem_of_getElem? (i := 264) (by decide +kernel)
theorem ao_2 : Cond.arrayOver (.object "IvyHouse$Times") ∈ tables_1 := List.mem_of_getElem? (i := 266) (by decide +kernel)
theorem cy_start {s : State} {args : Array Value} (hts : ∀ w ∈ lw_tbl, w.before args s = true) : ∃ cy : Nat → ClassId, ∀ (k : Nat) (q : ClassId × FieldType), (tysX cy)[k]? = some q → ArrOfT s q.1 q.2 ∧ va_RA s q.1 q.2 := by
  have hT : ∀ w ∈ TB, w.before args s = true := fun w hw => hts w (List.mem_filter.mp hw).1
  obtain ⟨c0, h0⟩ := cy_prim (ty := .byte) (fun C h => by cases h) (hT _ (tb_t1 48 rfl rfl))
  obtain ⟨c1, h1⟩ := cy_prim (ty := .int) (fun C h => by cases h) (hT _ (tb_t1 50 rfl rfl))
  obtain ⟨c2, h2⟩ := cy_prim (ty := .long) (fun C h => by cases h) (hT _ (tb_t1 49 rfl rfl))
  obtain ⟨c3, h3⟩ := cy_prim (ty := .boolean) (fun C h => by cases h) (hT _ (tb_t2 111 rfl rfl))
  obtain ⟨c4, h4⟩ := cy_ref (hts _ (List.mem_append_right _ ao_1))
  obtain ⟨c5, h5⟩ := cy_ref (hts _ (List.mem_append_right _ ao_2))
  refine ⟨fun i => if i = 0 then c0 else if i = 1 then c1 else if i = 2 then c2 else if i = 3 then c3 else if i = 4 then c4 else c5, fun k q hq => ?_⟩
  match k, hq with
  | 0, hq => cases hq; exact h0
  | 1, hq => cases hq; exact h1
  | 2, hq => cases hq; exact h2
  | 3, hq => cases hq; exact h3
  | 4, hq => cases hq; exact h4
  | 5, hq => cases hq; exact h5
  | k + 6, hq => simp [tysX] at hq
theorem cl_start {s : State} {args : Array Value} (hts : ∀ w ∈ lw_tbl, w.before args s = true) : ∃ D : va_G, ∀ (c : Nat) (q : vw_C), vwCl[c]? = some q → u_Kn s q.1 q.2.1 q.2.2 (D.1 c) (D.2 c) := by
  have hT : ∀ w ∈ TB, w.before args s = true := fun w hw => hts w (List.mem_filter.mp hw).1
  obtain ⟨c0, s0, k0⟩ := u_known (C := RX0) (T := TX0) (N := 7) (n := 7) hT inX0 (hT (.instantiable RX0 7) (tb_t2 82 rfl rfl))
  obtain ⟨c1, s1, k1⟩ := u_known (C := RX2) (T := TX2) (N := 20) (n := 20) hT inX2 (hT (.instantiable RX2 20) (tb_t1 109 rfl rfl))
  obtain ⟨c2, s2, k2⟩ := u_known (C := RX3) (T := TX3) (N := 9) (n := 9) hT inX3 (hT (.instantiable RX3 9) (tb_t2 41 rfl rfl))
  obtain ⟨c3, s3, k3⟩ := u_known (C := RX4) (T := TX4) (N := 3) (n := 3) hT inX4 (hT (.instantiable RX4 3) (tb_t2 18 rfl rfl))
  obtain ⟨c4, s4, k4⟩ := u_known (C := RX5) (T := TX5) (N := 1) (n := 1) hT inX5 (hT (.instantiable RX5 1) (tb_t2 113 rfl rfl))
  obtain ⟨c5, s5, k5⟩ := u_known (C := RX6) (T := TX6) (N := 4) (n := 4) hT inX6 (hT (.instantiable RX6 4) (tb_t1 52 rfl rfl))
  obtain ⟨c6, s6, k6⟩ := u_known (C := RX7) (T := TX7) (N := 8) (n := 8) hT inX7 (hT (.instantiable RX7 8) (tb_t1 217 rfl rfl))
  obtain ⟨c7, s7, k7⟩ := u_known (C := RX8) (T := TX8) (N := 9) (n := 9) hT inX8 (hT (.instantiable RX8 9) (tb_t1 58 rfl rfl))
  obtain ⟨c8, s8, k8⟩ := u_known (C := RX9) (T := TX9) (N := 3) (n := 3) hT inX9 (hT (.instantiable RX9 3) (tb_t1 31 rfl rfl))
  obtain ⟨c9, s9, k9⟩ := u_known (C := RX11) (T := TX11) (N := 18) (n := 18) hT inX11 (hT (.instantiable RX11 18) (tb_t1 23 rfl rfl))
  obtain ⟨c10, s10, k10⟩ := u_known (C := RX12) (T := TX12) (N := 40) (n := 40) hT inX12 (hT (.instantiable RX12 40) (tb_t6 43 rfl rfl))
  refine ⟨(fun k => if k = 0 then c0 else if k = 1 then c1 else if k = 2 then c2 else if k = 3 then c3 else if k = 4 then c4 else if k = 5 then c5 else if k = 6 then c6 else if k = 7 then c7 else if k = 8 then c8 else if k = 9 then c9 else c10, fun k => if k = 0 then s0 else if k = 1 then s1 else if k = 2 then s2 else if k = 3 then s3 else if k = 4 then s4 else if k = 5 then s5 else if k = 6 then s6 else if k = 7 then s7 else if k = 8 then s8 else if k = 9 then s9 else s10), fun k q hq => ?_⟩
  match k, hq with
  | 0, hq => cases hq; exact k0
  | 1, hq => cases hq; exact k1
  | 2, hq => cases hq; exact k2
  | 3, hq => cases hq; exact k3
  | 4, hq => cases hq; exact k4
  | 5, hq => cases hq; exact k5
  | 6, hq => cases hq; exact k6
  | 7, hq => cases hq; exact k7
  | 8, hq => cases hq; exact k8
  | 9, hq => cases hq; exact k9
  | 10, hq => cases hq; exact k10
  | k + 11, hq => simp [vwCl] at hq
set_option maxRecDepth 100000 in
set_option maxHeartbeats 8000000 in
theorem law_begin {C : Cx} {R : (Nat → St) → St → Prop} {b L : Nat} (hao : AO (xs C)) {xs : Nat → Int32} (hL : L ≤ 3584) (hC : Fx C cL_law 4 RL) (hR0 : xR C = room_1) (hX : LwX C b L xs) (hs : AllSteps R) (h0 : qX12_plain (0 : Int32) uM0 (fun ms => R cs0 ms)) (he : LEnd C) : G C 0 0 4 [] 0 [(0, .ref b)] [] := by
  refine n_obj (pc := 0) (ci := 9) (fs := [.int 0, .long 0, .long 0, .null, .int 0, .null, .null, .null, .null, .null, .null, .null, .int 0, .int 0, .null, .null, .null, .null]) (σ' := fun q1 => [(q1, .inr (9, [.int 0, .long 0, .long 0, .null, .int 0, .null, .null, .null, .null, .null, .null, .null, .int 0, .int 0, .null, .null, .null, .null]))]) hC rfl inX11 tyX11_ok (tb_t1 22 rfl rfl) (tb_t1 23 rfl rfl) (tb_t1 1 rfl rfl) dfX11 (by rw [hR0]; exact Nat.le_of_ble_eq_true rfl) (by rw [hR0]; exact Nat.le_of_ble_eq_true rfl) dL_law_0 (fun _ => rfl) (fun q1 => ?_)
  refine g_widen (k' := 1) (n' := 18) (Nat.le_of_ble_eq_true rfl) (Nat.le_of_ble_eq_true rfl) ?_
  refine g_dup (pc := 3) hC dL_law_3 rfl ?_
  refine g_callI_k (pc := 4) (X := []) (w0 := [(q1, .inr (9, [.int 0, .long 0, .long 0, .null, .int 0, .null, .null, .null, .null, .null, .null, .null, .int 0, .int 0, .null, .null, .null, .null]))]) (Y := []) (wd := fun u1 : (Nat → Nat → Nat) × (Nat → Nat → Nat) => (wX11 q1 (u1.1 0) (xy C) (si (si (sj u00 2 1) 12 (-1)) 13 (-1)) (wT (u1.1 0 3) (xy C) u00 (wX9 (u1.1 0 5) (u1.1 1) (xy C) (sw u00 2 (upd (upd (upd (upd (fun _ => 0) (0 : Int32).toNatClampNeg (-1)) (1 : Int32).toNatClampNeg (-1)) (2 : Int32).toNatClampNeg (-1)) (3 : Int32).toNatClampNeg (-1))) (wX6 (u1.1 0 6) (u1.1 2) (xy C) u00 (wX8 (u1.1 2 0) (fun _ => u1.1 0 3) (xy C) u00 (wX2 (u1.1 0 7) (u1.1 3) (xy C) (si u00 3 4) (wX2 (u1.1 0 8) (u1.1 4) (xy C) (si u00 3 4) (wX7 (u1.1 0 9) (u1.1 5) (xy C) u00 (wX7 (u1.1 0 10) (u1.1 6) (xy C) u00 (wX4 (u1.1 0 11) ((u1.2) 0) ((u1.2) 1) ((u1.2) 2) (xy C) u00 (wX2 ((u1.2) 1 0) ((u1.2) 3) (xy C) (si u00 3 4) (wX2 ((u1.2) 1 1) ((u1.2) 4) (xy C) (si u00 3 4) (wX2 ((u1.2) 1 2) ((u1.2) 5) (xy C) (si u00 3 4) (wX7 ((u1.2) 2 0) ((u1.2) 6) (xy C) u00 (wX7 ((u1.2) 2 1) ((u1.2) 7) (xy C) u00 (wX7 ((u1.2) 2 2) ((u1.2) 8) (xy C) u00 (wX3 (u1.1 0 14) (u1.1 8) (xy C) u00 (wX3 (u1.1 0 15) (u1.1 9) (xy C) u00 (wX0 (u1.1 0 16) (u1.1 10) (xy C) u00 (wX5 (u1.1 0 17) (u1.1 11) (xy C) u00 []))))))))))))))))))))) (σ' := fun u1 : (Nat → Nat → Nat) × (Nat → Nat → Nat) => (wX11 q1 (u1.1 0) (xy C) (si (si (sj u00 2 1) 12 (-1)) 13 (-1)) (wT (u1.1 0 3) (xy C) u00 (wX9 (u1.1 0 5) (u1.1 1) (xy C) (sw u00 2 (upd (upd (upd (upd (fun _ => 0) (0 : Int32).toNatClampNeg (-1)) (1 : Int32).toNatClampNeg (-1)) (2 : Int32).toNatClampNeg (-1)) (3 : Int32).toNatClampNeg (-1))) (wX6 (u1.1 0 6) (u1.1 2) (xy C) u00 (wX8 (u1.1 2 0) (fun _ => u1.1 0 3) (xy C) u00 (wX2 (u1.1 0 7) (u1.1 3) (xy C) (si u00 3 4) (wX2 (u1.1 0 8) (u1.1 4) (xy C) (si u00 3 4) (wX7 (u1.1 0 9) (u1.1 5) (xy C) u00 (wX7 (u1.1 0 10) (u1.1 6) (xy C) u00 (wX4 (u1.1 0 11) ((u1.2) 0) ((u1.2) 1) ((u1.2) 2) (xy C) u00 (wX2 ((u1.2) 1 0) ((u1.2) 3) (xy C) (si u00 3 4) (wX2 ((u1.2) 1 1) ((u1.2) 4) (xy C) (si u00 3 4) (wX2 ((u1.2) 1 2) ((u1.2) 5) (xy C) (si u00 3 4) (wX7 ((u1.2) 2 0) ((u1.2) 6) (xy C) u00 (wX7 ((u1.2) 2 1) ((u1.2) 7) (xy C) u00 (wX7 ((u1.2) 2 2) ((u1.2) 8) (xy C) u00 (wX3 (u1.1 0 14) (u1.1 8) (xy C) u00 (wX3 (u1.1 0 15) (u1.1 9) (xy C) u00 (wX0 (u1.1 0 16) (u1.1 10) (xy C) u00 (wX5 (u1.1 0 17) (u1.1 11) (xy C) u00 []))))))))))))))))))))) (As := []) (rest := [.ref q1]) hC (Or.inr hao) rfl (fun _ => rfl) ctX11_init wvX11_init ml_L_9 rfl (by rw [hR0]; exact ⟨Nat.le_of_ble_eq_true rfl, Nat.le_of_ble_eq_true rfl⟩) (by rw [hR0]; exact ⟨Nat.le_of_ble_eq_true rfl, Nat.le_of_ble_eq_true rfl⟩) rfl (Nat.le_of_ble_eq_true rfl) dL_law_4 (fun u1 _ => ?_)
  refine g_widen (k' := 118) (n' := 4367) (Nat.le_of_ble_eq_true rfl) (Nat.le_of_ble_eq_true rfl) ?_
  refine g_astore_n (pc := 7) (lv' := [(1, .ref q1), (0, .ref b)]) hC dL_law_7 rfl (Nat.le_of_ble_eq_true rfl) rfl ?_
  refine n_obj (pc := 8) (ci := 10) (fs := [.null, .null, .int 0, .long 0, .long 0, .null, .null, .null, .null, .null, .int 0, .int 0, .int 0, .int 0, .int 0, .int 0, .int 0, .int 0, .int 0, .int 0, .int 0, .null, .int 0, .int 0, .int 0, .null, .null, .int 0, .null, .null, .null, .null, .null, .int 0, .int 0, .null, .null, .null, .int 0, .int 0]) (σ' := fun q2 => (wX11 q1 (u1.1 0) (xy C) (si (si (sj u00 2 1) 12 (-1)) 13 (-1)) (wT (u1.1 0 3) (xy C) u00 (wX9 (u1.1 0 5) (u1.1 1) (xy C) (sw u00 2 (upd (upd (upd (upd (fun _ => 0) (0 : Int32).toNatClampNeg (-1)) (1 : Int32).toNatClampNeg (-1)) (2 : Int32).toNatClampNeg (-1)) (3 : Int32).toNatClampNeg (-1))) (wX6 (u1.1 0 6) (u1.1 2) (xy C) u00 (wX8 (u1.1 2 0) (fun _ => u1.1 0 3) (xy C) u00 (wX2 (u1.1 0 7) (u1.1 3) (xy C) (si u00 3 4) (wX2 (u1.1 0 8) (u1.1 4) (xy C) (si u00 3 4) (wX7 (u1.1 0 9) (u1.1 5) (xy C) u00 (wX7 (u1.1 0 10) (u1.1 6) (xy C) u00 (wX4 (u1.1 0 11) ((u1.2) 0) ((u1.2) 1) ((u1.2) 2) (xy C) u00 (wX2 ((u1.2) 1 0) ((u1.2) 3) (xy C) (si u00 3 4) (wX2 ((u1.2) 1 1) ((u1.2) 4) (xy C) (si u00 3 4) (wX2 ((u1.2) 1 2) ((u1.2) 5) (xy C) (si u00 3 4) (wX7 ((u1.2) 2 0) ((u1.2) 6) (xy C) u00 (wX7 ((u1.2) 2 1) ((u1.2) 7) (xy C) u00 (wX7 ((u1.2) 2 2) ((u1.2) 8) (xy C) u00 (wX3 (u1.1 0 14) (u1.1 8) (xy C) u00 (wX3 (u1.1 0 15) (u1.1 9) (xy C) u00 (wX0 (u1.1 0 16) (u1.1 10) (xy C) u00 (wX5 (u1.1 0 17) (u1.1 11) (xy C) u00 [(q2, .inr (10, [.null, .null, .int 0, .long 0, .long 0, .null, .null, .null, .null, .null, .int 0, .int 0, .int 0, .int 0, .int 0, .int 0, .int 0, .int 0, .int 0, .int 0, .int 0, .null, .int 0, .int 0, .int 0, .null, .null, .int 0, .null, .null, .null, .null, .null, .int 0, .int 0, .null, .null, .null, .int 0, .int 0]))]))))))))))))))))))))) hC rfl inX12 tyX12_ok (tb_t6 42 rfl rfl) (tb_t6 43 rfl rfl) (tb_t1 11 rfl rfl) dfX12 (by rw [hR0]; exact Nat.le_of_ble_eq_true rfl) (by rw [hR0]; exact Nat.le_of_ble_eq_true rfl) dL_law_8 (fun _ => rfl) (fun q2 => ?_)
  refine g_widen (k' := 119) (n' := 4407) (Nat.le_of_ble_eq_true rfl) (Nat.le_of_ble_eq_true rfl) ?_
  refine g_dup (pc := 11) hC dL_law_11 rfl ?_
  refine g_callI_k (pc := 12) (X := (wX11 q1 (u1.1 0) (xy C) (si (si (sj u00 2 1) 12 (-1)) 13 (-1)) (wT (u1.1 0 3) (xy C) u00 (wX9 (u1.1 0 5) (u1.1 1) (xy C) (sw u00 2 (upd (upd (upd (upd (fun _ => 0) (0 : Int32).toNatClampNeg (-1)) (1 : Int32).toNatClampNeg (-1)) (2 : Int32).toNatClampNeg (-1)) (3 : Int32).toNatClampNeg (-1))) (wX6 (u1.1 0 6) (u1.1 2) (xy C) u00 (wX8 (u1.1 2 0) (fun _ => u1.1 0 3) (xy C) u00 (wX2 (u1.1 0 7) (u1.1 3) (xy C) (si u00 3 4) (wX2 (u1.1 0 8) (u1.1 4) (xy C) (si u00 3 4) (wX7 (u1.1 0 9) (u1.1 5) (xy C) u00 (wX7 (u1.1 0 10) (u1.1 6) (xy C) u00 (wX4 (u1.1 0 11) ((u1.2) 0) ((u1.2) 1) ((u1.2) 2) (xy C) u00 (wX2 ((u1.2) 1 0) ((u1.2) 3) (xy C) (si u00 3 4) (wX2 ((u1.2) 1 1) ((u1.2) 4) (xy C) (si u00 3 4) (wX2 ((u1.2) 1 2) ((u1.2) 5) (xy C) (si u00 3 4) (wX7 ((u1.2) 2 0) ((u1.2) 6) (xy C) u00 (wX7 ((u1.2) 2 1) ((u1.2) 7) (xy C) u00 (wX7 ((u1.2) 2 2) ((u1.2) 8) (xy C) u00 (wX3 (u1.1 0 14) (u1.1 8) (xy C) u00 (wX3 (u1.1 0 15) (u1.1 9) (xy C) u00 (wX0 (u1.1 0 16) (u1.1 10) (xy C) u00 (wX5 (u1.1 0 17) (u1.1 11) (xy C) u00 []))))))))))))))))))))) (w0 := [(q2, .inr (10, [.null, .null, .int 0, .long 0, .long 0, .null, .null, .null, .null, .null, .int 0, .int 0, .int 0, .int 0, .int 0, .int 0, .int 0, .int 0, .int 0, .int 0, .int 0, .null, .int 0, .int 0, .int 0, .null, .null, .int 0, .null, .null, .null, .null, .null, .int 0, .int 0, .null, .null, .null, .int 0, .int 0]))]) (Y := []) (wd := fun s2 : (Nat → Nat) × St => (wX12 q2 s2.1 (xy C) s2.2 [])) (σ' := fun s2 : (Nat → Nat) × St => (wX11 q1 (u1.1 0) (xy C) (si (si (sj u00 2 1) 12 (-1)) 13 (-1)) (wT (u1.1 0 3) (xy C) u00 (wX9 (u1.1 0 5) (u1.1 1) (xy C) (sw u00 2 (upd (upd (upd (upd (fun _ => 0) (0 : Int32).toNatClampNeg (-1)) (1 : Int32).toNatClampNeg (-1)) (2 : Int32).toNatClampNeg (-1)) (3 : Int32).toNatClampNeg (-1))) (wX6 (u1.1 0 6) (u1.1 2) (xy C) u00 (wX8 (u1.1 2 0) (fun _ => u1.1 0 3) (xy C) u00 (wX2 (u1.1 0 7) (u1.1 3) (xy C) (si u00 3 4) (wX2 (u1.1 0 8) (u1.1 4) (xy C) (si u00 3 4) (wX7 (u1.1 0 9) (u1.1 5) (xy C) u00 (wX7 (u1.1 0 10) (u1.1 6) (xy C) u00 (wX4 (u1.1 0 11) ((u1.2) 0) ((u1.2) 1) ((u1.2) 2) (xy C) u00 (wX2 ((u1.2) 1 0) ((u1.2) 3) (xy C) (si u00 3 4) (wX2 ((u1.2) 1 1) ((u1.2) 4) (xy C) (si u00 3 4) (wX2 ((u1.2) 1 2) ((u1.2) 5) (xy C) (si u00 3 4) (wX7 ((u1.2) 2 0) ((u1.2) 6) (xy C) u00 (wX7 ((u1.2) 2 1) ((u1.2) 7) (xy C) u00 (wX7 ((u1.2) 2 2) ((u1.2) 8) (xy C) u00 (wX3 (u1.1 0 14) (u1.1 8) (xy C) u00 (wX3 (u1.1 0 15) (u1.1 9) (xy C) u00 (wX0 (u1.1 0 16) (u1.1 10) (xy C) u00 (wX5 (u1.1 0 17) (u1.1 11) (xy C) u00 (wX12 q2 s2.1 (xy C) s2.2 [])))))))))))))))))))))) (As := []) (rest := [.ref q2]) hC (Or.inr hao) rfl (fun _ => rfl) (ctX12_init h0) wvX12_init ml_L_12 rfl (by rw [hR0]; exact ⟨Nat.le_of_ble_eq_true rfl, Nat.le_of_ble_eq_true rfl⟩) (by rw [hR0]; exact ⟨Nat.le_of_ble_eq_true rfl, Nat.le_of_ble_eq_true rfl⟩) rfl (Nat.le_of_ble_eq_true rfl) dL_law_12 (fun s2 hr => ?_)
  refine g_widen (k' := 137) (n' := 9713) (Nat.le_of_ble_eq_true rfl) (Nat.le_of_ble_eq_true rfl) ?_
  refine g_astore_n (pc := 15) (lv' := [(2, .ref q2), (1, .ref q1), (0, .ref b)]) hC dL_law_15 rfl (Nat.le_of_ble_eq_true rfl) rfl ?_
  refine g_iconst (pc := 16) (v := 0) hC dL_law_16 (by decide) ?_
  refine g_istore_n (pc := 17) (lv' := [(3, .int 0), (2, .ref q2), (1, .ref q1), (0, .ref b)]) hC dL_law_17 rfl (Nat.le_of_ble_eq_true rfl) rfl ?_
  refine g_sub (lv' := [(0, .ref b), (1, .ref q1), (2, .ref q2), (3, .int (nI 0))]) [3, 2, 1, 0] rfl ?_
  exact law_loop (oI := q1) (oM := q2) hL hC hR0 hX hs he (L + 8) 0 (u1.1 0) (u1.1 1) (u1.1 2) (u1.1 3) (u1.1 4) (u1.1 5) (u1.1 6) (u1.2 0) (u1.2 1) (u1.2 2) (u1.2 3) (u1.2 4) (u1.2 5) (u1.2 6) (u1.2 7) (u1.2 8) (u1.1 8) (u1.1 9) (u1.1 10) (u1.1 11) s2.1 cs0 s2.2 (by omega) (by omega) hr
theorem whole_of {p : Program} {e : Env} {s : State} {m : MethodId} {below : List Frame} {meth : Method} {c : Code} (l : Launch) {b L : Nat} {xs : Nat → Int32} {R : (Nat → St) → St → Prop} (hs : AllSteps R) (h0 : qX12_plain (0 : Int32) uM0 (fun ms => R cs0 ms)) (hL : L ≤ 3584) (C0 : lw_At p s m meth c b L xs) : W p l e room_1 s m #[Value.ref b] below meth c s.heap [] 0 0 (lw_Z below #[Value.ref b] s) (entryFrame m ([Value.ref b] : List Value).toArray 4) := by
  obtain ⟨hx, hb, hr, hml, hown, hts, hX, hbl, hlocks, hgv⟩ := C0
  obtain ⟨kd, hkn⟩ := kn_start (A := fun q : Nat => s.heap.size ≤ q) hts hgv (fun a h => Nat.not_le.mpr h)
  obtain ⟨cy, hcy⟩ := cy_start hts
  obtain ⟨D, hD⟩ := cl_start hts
  have hl := lv_entry ([.ref b]) (n := 4) (Nat.le_of_ble_eq_true rfl)
  rw [lg_entry_eq]
  have hTb : ∀ w ∈ TB, w.before #[Value.ref b] s = true := fun w hw => hts w (List.mem_filter.mp hw).1
  have hNW : NW s := fun w hw hn => by
    have h1 := hts w (List.mem_append_right _ hw)
    cases w <;> first | exact va_Nw.of rfl h1 | (exact absurd hn (by simp [isNest]))
  exact law_begin (C := (p, l, e, room_1, s, m, #[Value.ref b], below, meth, c, D, cy, kd, (fun q : Nat => s.heap.size ≤ q), lw_Z below #[Value.ref b] s)) ⟨va_AO.of (hts _ (List.mem_append_right _ ao_1)), va_AO.of (hts _ (List.mem_append_right _ ao_2))⟩ hL ⟨hx, hb, hml, hown, hTb, ⟨hD, hcy⟩, fun q h => h, hNW, hkn⟩ rfl ⟨hX, hbl, Nat.not_le.mpr hbl⟩ hs h0
    (fun σ lv H locs ls hP hD hS hl0 => va_forget (fun q hq => hS.2.2 q hq) (W.widen (by omega) (by omega) (lw_ret hx hb hr hlocks dL_law_1790))) s.heap [] _ (fun k q h => by simp at h) ⟨fun i j p q h => by simp at h, fun k q h => by simp at h⟩ va_S.rf hl
