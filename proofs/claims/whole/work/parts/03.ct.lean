/-! CONTRACTS: state, worlds, calls -/
def rm (h : Nat) : Room := { frames := h, cells := 0, slots := 0, locals := 40 * h }
abbrev St : Type := (Nat → Int32) × (Nat → Int64) × (Nat → Nat → Int32) × (Nat → Nat → Int64)
def gi (u : St) (k : Nat) : Int32 := u.1 k
def gj (u : St) (k : Nat) : Int64 := u.2.1 k
def ga (u : St) (k : Nat) : Nat → Int32 := u.2.2.1 k
def gl (u : St) (k : Nat) : Nat → Int64 := u.2.2.2 k
def si (u : St) (k : Nat) (v : Int32) : St := (va_up u.1 k v, u.2)
def sj (u : St) (k : Nat) (v : Int64) : St := (u.1, va_up u.2.1 k v, u.2.2)
def sw (u : St) (k : Nat) (f : Nat → Int32) : St := (u.1, u.2.1, va_up u.2.2.1 k f, u.2.2.2)
def sx (u : St) (k : Nat) (f : Nat → Int64) : St := (u.1, u.2.1, u.2.2.1, va_up u.2.2.2 k f)
def bz (v : Int32) : Prop := v = 0 ∨ v = 1
theorem bz.n {v : Int32} (h : bz v) : narrow .boolean (.int v) = .int v := by rcases h with rfl | rfl <;> decide +kernel
theorem bz.f {v : Int32} (h : bz v) : fits .boolean (.int v) = true := by rcases h with rfl | rfl <;> decide +kernel
def cz (v : Int32) : Prop := narrow .char (.int v) = .int v ∧ fits .char (.int v) = true
/-- a world apart: no address twice, each of a kind -/
theorem vaD_iff {A : Nat → Prop} {ws : va_W} : va_D A ws ↔ (ws.map (fun q => q.1)).Nodup ∧ ∀ q ∈ ws, A q.1 := by
  constructor
  · intro h
    refine ⟨List.pairwise_iff_getElem.mpr fun i j hi hj hij he => ?_, fun q hq => ?_⟩
    · simp only [List.getElem_map] at he
      have hi' : i < ws.length := by simpa using hi
      have hj' : j < ws.length := by simpa using hj
      have := h.1 i j ws[i] ws[j] (List.getElem?_eq_getElem hi') (List.getElem?_eq_getElem hj') he
      omega
    · obtain ⟨i, hi⟩ := List.getElem?_of_mem hq
      exact h.2 i q hi
  · intro h
    refine ⟨fun i j p q hp hq he => ?_, fun k q hk => h.2 q (List.mem_of_getElem? hk)⟩
    have hp' : (ws.map (fun q => q.1))[i]? = some p.1 := by rw [List.getElem?_map, hp]; rfl
    have hq' : (ws.map (fun q => q.1))[j]? = some q.1 := by rw [List.getElem?_map, hq]; rfl
    have hl : i < (ws.map (fun q => q.1)).length := (List.getElem?_eq_some_iff.mp hp').1
    exact (List.getElem?_inj hl h.1).mp (by rw [hp', hq', he])
theorem vaP_iff {D : va_G} {cl : List vw_C} {ws : va_W} {H : Heap} : va_P D cl ws H ↔ ∀ q ∈ ws, va_at D cl q H := by
  constructor
  · intro h q hq
    obtain ⟨i, hi⟩ := List.getElem?_of_mem hq
    exact h i q hi
  · exact fun h k q hk => h q (List.mem_of_getElem? hk)
theorem vaA_iff {ws : va_W} {sz q : Nat} : va_A ws sz q ↔ (∃ x ∈ ws, x.1 = q) ∨ sz ≤ q := by
  constructor
  · rintro (⟨k, e, h⟩ | h)
    · exact Or.inl ⟨_, List.mem_of_getElem? h, rfl⟩
    · exact Or.inr h
  · rintro (⟨x, h, rfl⟩ | h)
    · obtain ⟨k, hk⟩ := List.getElem?_of_mem h
      exact Or.inl ⟨k, x.2, hk⟩
    · exact Or.inr h
/-- behind a call on the middle of a world -/
theorem w_mid {D : va_G} {cl : List vw_C} {X M M' Y : va_W} {A : Nat → Prop} {H H1 : Heap} (hP : va_P D cl (X ++ (M ++ Y)) H) (hD : va_D A (X ++ (M ++ Y))) (hk : ∀ q : Nat, q < H.size → ¬ va_A M H.size q → H1[q]? = H[q]?) (hF : ∀ q, va_A M H.size q → A q) (hP1 : va_P D cl M' H1) (hD1 : va_D (va_A M H.size) M') : va_P D cl (X ++ (M' ++ Y)) H1 ∧ va_D A (X ++ (M' ++ Y)) := by
  rw [vaP_iff] at *
  rw [vaD_iff] at *
  obtain ⟨hN, hI⟩ := hD
  obtain ⟨hN1, hI1⟩ := hD1
  simp only [List.map_append, List.nodup_append, List.mem_append, List.mem_map] at hN hI hP ⊢
  obtain ⟨nX, ⟨nM, nY, dMY⟩, dX⟩ := hN
  have out : ∀ q : Nat × va_E, q ∈ X ∨ q ∈ Y → q.1 < H.size ∧ ¬ va_A M H.size q.1 := by
    intro q hq
    have hl := (hP q (by rcases hq with h | h; exact Or.inl h; exact Or.inr (Or.inr h))).lt
    refine ⟨hl, fun h => ?_⟩
    rcases vaA_iff.mp h with ⟨x, hx, he⟩ | h
    · rcases hq with h1 | h1
      · exact dX q.1 ⟨q, h1, rfl⟩ x.1 (Or.inl ⟨x, hx, rfl⟩) he.symm
      · exact dMY x.1 ⟨x, hx, rfl⟩ q.1 ⟨q, h1, rfl⟩ he
    · omega
  have inM : ∀ q ∈ M', va_A M H.size q.1 := hI1
  refine ⟨fun q hq => ?_, ⟨nX, ⟨hN1, nY, ?_⟩, ?_⟩, fun q hq => ?_⟩
  · rcases hq with h | h | h
    · obtain ⟨a1, a2⟩ := out q (Or.inl h)
      exact (hP q (Or.inl h)).kept (hk _ a1 a2)
    · exact hP1 q h
    · obtain ⟨a1, a2⟩ := out q (Or.inr h)
      exact (hP q (Or.inr (Or.inr h))).kept (hk _ a1 a2)
  · rintro a ⟨x, hx, rfl⟩ b ⟨z, hz, rfl⟩ he
    exact (out z (Or.inr hz)).2 (he ▸ inM x hx)
  · rintro a ⟨x, hx, rfl⟩ b hb he
    rcases hb with ⟨z, hz, rfl⟩ | ⟨z, hz, rfl⟩
    · exact (out x (Or.inl hx)).2 (he ▸ inM z hz)
    · exact dX x.1 ⟨x, hx, rfl⟩ z.1 (Or.inr ⟨z, hz, rfl⟩) he
  · rcases hq with h | h | h
    · exact hI q (Or.inl h)
    · exact hF _ (inM q h)
    · exact hI q (Or.inr (Or.inr h))
theorem w_in {D : va_G} {cl : List vw_C} {X M Y : va_W} {A : Nat → Prop} {H : Heap} (hP : va_P D cl (X ++ (M ++ Y)) H) (hD : va_D A (X ++ (M ++ Y))) : va_P D cl M H ∧ va_D A M := by
  rw [vaP_iff] at *
  rw [vaD_iff] at *
  simp only [List.map_append, List.nodup_append, List.mem_append] at hD hP
  exact ⟨fun q hq => hP q (Or.inr (Or.inl hq)), hD.1.2.1.1, fun q hq => hD.2 q (Or.inr (Or.inl hq))⟩
theorem w_free {A : Nat → Prop} {M : va_W} {H0 H : Heap} {locs : List Loc} (hD : va_D A M) (hS : va_S A H0 H locs) (hA : ∀ q, H0.size ≤ q → A q) : ∀ q, va_A M H.size q → A q := by
  intro q h
  rcases vaA_iff.mp h with ⟨x, hx, rfl⟩ | h
  · exact (vaD_iff.mp hD).2 x hx
  · exact hA q (Nat.le_trans hS.1 h)
/-- a method's start: its arguments, its world, the classes, the constants -/
def PcX (D : va_G) (cy : Nat → ClassId) (kd : Nat → Nat) (sz : Nat) (av : List Value) (w : va_W) : Array Value → State → Prop :=
  va_Pc av (fun U => U.heap.size = sz ∧ va_P D vwCl w U.heap ∧ va_K D vwCl (tysX cy) U ∧ va_D (fun _ => True) w ∧ NW U ∧ KN kd (va_A w sz) U U.heap)
theorem PcX.blind {D : va_G} {cy : Nat → ClassId} {kd : Nat → Nat} {sz : Nat} {av : List Value} {w : va_W} : FrameBlind (PcX D cy kd sz av w) := fun a U g mk ⟨q0, q1, q2, q3, q4, q5, q6⟩ =>
  ⟨q0, q1, q2, va_K.moved (u := U) (U := U.calling g mk a) (Vm.Alike.refl U.vm) q3, q4, q5.frame g mk a, q6.frame g mk a⟩
/-- contracts: int (or boolean), long, void -/
def CtI {S : Type} (l : Launch) (D : va_G) (cy : Nat → ClassId) (kd : Nat → Nat) (y : MethodName) (cc : ByteArray) (nL h : Nat) (rt : FieldType) (av : List Value) (wd : S → va_W) (u : S) (post : Int32 → S → Prop) : Prop :=
  ∀ sz : Nat, Met l y (.code y cc nL (some rt) :: TB) (rm h) (PcX D cy kd sz av (wd u)) (va_Qi post (fun u' t => va_P D vwCl (wd u') t.heap ∧ va_D (va_A (wd u) sz) (wd u')) (va_A (wd u) sz)) 0 0 (va_A (wd u) sz)
def CtL {S : Type} (l : Launch) (D : va_G) (cy : Nat → ClassId) (kd : Nat → Nat) (y : MethodName) (cc : ByteArray) (nL h : Nat) (av : List Value) (wd : S → va_W) (u : S) (post : Int64 → S → Prop) : Prop :=
  ∀ sz : Nat, Met l y (.code y cc nL (some .long) :: TB) (rm h) (PcX D cy kd sz av (wd u)) (va_Ql post (fun u' t => va_P D vwCl (wd u') t.heap ∧ va_D (va_A (wd u) sz) (wd u')) (va_A (wd u) sz)) 0 0 (va_A (wd u) sz)
def CtV {S : Type} (l : Launch) (D : va_G) (cy : Nat → ClassId) (kd : Nat → Nat) (y : MethodName) (cc : ByteArray) (nL h : Nat) (av : List Value) (wd : S → va_W) (u : S) (post : S → Prop) : Prop :=
  ∀ sz : Nat, Met l y (.code y cc nL none :: TB) (rm h) (PcX D cy kd sz av (wd u)) (va_Qv post (fun u' t => va_P D vwCl (wd u') t.heap ∧ va_D (va_A (wd u) sz) (wd u')) (va_A (wd u) sz)) 0 0 (va_A (wd u) sz)
/-- what a return may use -/
def RI {S : Type} (C : Cx) (cc : ByteArray) (nL : Nat) (wd : S → va_W) (post : Int32 → S → Prop) : Prop := ∀ (pc : Nat) (lv : List (Nat × Value)) (v : Int32) (u : S), decode cc pc = .ok (.ireturn, 1) → post v u → G C 0 0 nL (wd u) pc lv [.int v]
def RZ {S : Type} (C : Cx) (cc : ByteArray) (nL : Nat) (wd : S → va_W) (post : Int32 → S → Prop) : Prop := ∀ (pc : Nat) (lv : List (Nat × Value)) (v : Int32) (u : S), decode cc pc = .ok (.ireturn, 1) → bz v → post v u → G C 0 0 nL (wd u) pc lv [.int v]
def RJ {S : Type} (C : Cx) (cc : ByteArray) (nL : Nat) (wd : S → va_W) (post : Int64 → S → Prop) : Prop := ∀ (pc : Nat) (lv : List (Nat × Value)) (v : Int64) (u : S), decode cc pc = .ok (.lreturn, 1) → post v u → G C 0 0 nL (wd u) pc lv [.long v]
def RV {S : Type} (C : Cx) (cc : ByteArray) (nL : Nat) (wd : S → va_W) (post : S → Prop) : Prop := ∀ (pc : Nat) (lv : List (Nat × Value)) (u : S), decode cc pc = .ok (.return_, 1) → post u → G C 0 0 nL (wd u) pc lv []
section MT
variable {S : Type} {l : Launch} {D : va_G} {cy : Nat → ClassId} {kd : Nat → Nat} {y : MethodName} {cc : ByteArray} {nL h : Nat} {av : List Value} {wd : S → va_W} {u : S}
theorem met_i {post : Int32 → S → Prop} (hy : plainName y.cls = true) (hn : (lg_sl av).length ≤ nL) (body : ∀ C : Cx, xl C = l → xD C = D → xy C = cy → xk C = kd → xR C = rm h → Fx C cc nL y.cls → RI C cc nL wd post → G C 0 0 nL (wd u) 0 (lv_args 0 av) []) : CtI l D cy kd y cc nL h .int av wd u post := by
  intro sz
  refine Met.ofW (cc := cc) (maxL := nL) (ret := (some .int)) hy rfl ?_
  intro p e s m args below meth c s₁ B hml hv
  obtain ⟨rfl, hsz, hP, hK, hD0, hN, hk⟩ := hv
  have hx := B.exec
  have hb := B.bytes
  have hr := B.returns
  have hts := atoms_spec (ws := .code y cc nL (some .int) :: TB) B.pre
  have hown : s.vm.findClass y.cls = some m.cls := findClass_of_methodNamed B.named
  have hlocks := B.notSynchronized
  subst hsz
  have hD := hD0.self (sz := s.heap.size)
  have hl := lv_entry av (n := nL) hn
  rw [lg_entry_eq]
  exact body (p, l, e, rm h, s, m, av.toArray, below, meth, c, D, cy, kd, va_A (wd u) s.heap.size, _) rfl rfl rfl rfl rfl ⟨hx, hb, hml, hown, fun w hw => hts w (List.mem_cons_of_mem _ hw), hK, fun q hq => Or.inr hq, hN, hk⟩ (fun pc lv v u' hdg hp H locs ls hP hD hS hl => W.iret hx hb hr (fun t ht hW => ⟨⟨v, u', rfl, hp, by rw [ht]; exact hP, hD⟩, hS.F ht⟩) hS.2.2 hdg hlocks) s.heap [] _ hP hD va_S.rf hl
theorem met_z {post : Int32 → S → Prop} (hy : plainName y.cls = true) (hn : (lg_sl av).length ≤ nL) (body : ∀ C : Cx, xl C = l → xD C = D → xy C = cy → xk C = kd → xR C = rm h → Fx C cc nL y.cls → RZ C cc nL wd post → G C 0 0 nL (wd u) 0 (lv_args 0 av) []) : CtI l D cy kd y cc nL h .boolean av wd u post := by
  intro sz
  refine Met.ofW (cc := cc) (maxL := nL) (ret := (some .boolean)) hy rfl ?_
  intro p e s m args below meth c s₁ B hml hv
  obtain ⟨rfl, hsz, hP, hK, hD0, hN, hk⟩ := hv
  have hx := B.exec
  have hb := B.bytes
  have hr := B.returns
  have hts := atoms_spec (ws := .code y cc nL (some .boolean) :: TB) B.pre
  have hown : s.vm.findClass y.cls = some m.cls := findClass_of_methodNamed B.named
  have hlocks := B.notSynchronized
  subst hsz
  have hD := hD0.self (sz := s.heap.size)
  have hl := lv_entry av (n := nL) hn
  rw [lg_entry_eq]
  exact body (p, l, e, rm h, s, m, av.toArray, below, meth, c, D, cy, kd, va_A (wd u) s.heap.size, _) rfl rfl rfl rfl rfl ⟨hx, hb, hml, hown, fun w hw => hts w (List.mem_cons_of_mem _ hw), hK, fun q hq => Or.inr hq, hN, hk⟩ (fun pc lv v u' hdg hz hp H locs ls hP hD hS hl => W.zret hx hb hr hz.n (fun t ht hW => ⟨⟨v, u', rfl, hp, by rw [ht]; exact hP, hD⟩, hS.F ht⟩) hS.2.2 hdg hlocks) s.heap [] _ hP hD va_S.rf hl
theorem met_l {post : Int64 → S → Prop} (hy : plainName y.cls = true) (hn : (lg_sl av).length ≤ nL) (body : ∀ C : Cx, xl C = l → xD C = D → xy C = cy → xk C = kd → xR C = rm h → Fx C cc nL y.cls → RJ C cc nL wd post → G C 0 0 nL (wd u) 0 (lv_args 0 av) []) : CtL l D cy kd y cc nL h  av wd u post := by
  intro sz
  refine Met.ofW (cc := cc) (maxL := nL) (ret := (some .long)) hy rfl ?_
  intro p e s m args below meth c s₁ B hml hv
  obtain ⟨rfl, hsz, hP, hK, hD0, hN, hk⟩ := hv
  have hx := B.exec
  have hb := B.bytes
  have hr := B.returns
  have hts := atoms_spec (ws := .code y cc nL (some .long) :: TB) B.pre
  have hown : s.vm.findClass y.cls = some m.cls := findClass_of_methodNamed B.named
  have hlocks := B.notSynchronized
  subst hsz
  have hD := hD0.self (sz := s.heap.size)
  have hl := lv_entry av (n := nL) hn
  rw [lg_entry_eq]
  exact body (p, l, e, rm h, s, m, av.toArray, below, meth, c, D, cy, kd, va_A (wd u) s.heap.size, _) rfl rfl rfl rfl rfl ⟨hx, hb, hml, hown, fun w hw => hts w (List.mem_cons_of_mem _ hw), hK, fun q hq => Or.inr hq, hN, hk⟩ (fun pc lv v u' hdg hp H locs ls hP hD hS hl => W.lret hx hb hr (fun t ht hW => ⟨⟨v, u', rfl, hp, by rw [ht]; exact hP, hD⟩, hS.F ht⟩) hS.2.2 hdg hlocks) s.heap [] _ hP hD va_S.rf hl
theorem met_v {post : S → Prop} (hy : plainName y.cls = true) (hn : (lg_sl av).length ≤ nL) (body : ∀ C : Cx, xl C = l → xD C = D → xy C = cy → xk C = kd → xR C = rm h → Fx C cc nL y.cls → RV C cc nL wd post → G C 0 0 nL (wd u) 0 (lv_args 0 av) []) : CtV l D cy kd y cc nL h  av wd u post := by
  intro sz
  refine Met.ofW (cc := cc) (maxL := nL) (ret := none) hy rfl ?_
  intro p e s m args below meth c s₁ B hml hv
  obtain ⟨rfl, hsz, hP, hK, hD0, hN, hk⟩ := hv
  have hx := B.exec
  have hb := B.bytes
  have hr := B.returns
  have hts := atoms_spec (ws := .code y cc nL none :: TB) B.pre
  have hown : s.vm.findClass y.cls = some m.cls := findClass_of_methodNamed B.named
  have hlocks := B.notSynchronized
  subst hsz
  have hD := hD0.self (sz := s.heap.size)
  have hl := lv_entry av (n := nL) hn
  rw [lg_entry_eq]
  exact body (p, l, e, rm h, s, m, av.toArray, below, meth, c, D, cy, kd, va_A (wd u) s.heap.size, _) rfl rfl rfl rfl rfl ⟨hx, hb, hml, hown, fun w hw => hts w (List.mem_cons_of_mem _ hw), hK, fun q hq => Or.inr hq, hN, hk⟩ (fun pc lv u' hdg hp H locs ls hP hD hS hl => W.vret hx hb hr (fun t ht hW => ⟨⟨u', rfl, hp, by rw [ht]; exact hP, hD⟩, hS.F ht⟩) hS.2.2 hdg hlocks) s.heap [] _ hP hD va_S.rf hl
end MT
/-- what a call needs to know of a method: virtual, static -/
def WyV (y : MethodName) (cz : ByteArray) (nz : Nat) (ret : Option FieldType) (np : Nat) : Prop :=
  (Cond.instanceMethod y ∈ TB ∧ Cond.selects y.cls y y ∈ TB ∧ Cond.initialized y.cls ∈ TB ∧ Cond.code y cz nz ret ∈ TB) ∧ y.cls ≠ "java/lang/invoke/MethodHandle" ∧ y.cls ≠ "java/lang/invoke/VarHandle" ∧ (parseMethodDescriptor y.desc).map (fun d => d.parameters.length) = some np
def WyS (y : MethodName) (cz : ByteArray) (nz : Nat) (ret : Option FieldType) (np : Nat) : Prop :=
  (Cond.static y ∈ TB ∧ Cond.initialized y.cls ∈ TB ∧ Cond.code y cz nz ret ∈ TB) ∧ y.cls ≠ "java/lang/invoke/MethodHandle" ∧ y.cls ≠ "java/lang/invoke/VarHandle" ∧ (parseMethodDescriptor y.desc).map (fun d => d.parameters.length) = some np
def RmOk (R : Room) (h nz : Nat) : Prop := h + 1 ≤ R.frames ∧ 8 + (nz + 11) + 40 * h ≤ R.locals
theorem rmok {C : Cx} {hh h nz : Nat} (e : xR C = rm hh) (q : (Nat.ble (h + 1) hh && Nat.ble nz 21) = true) : RmOk (xR C) h nz := by
  rw [Bool.and_eq_true] at q
  have h1 := Nat.le_of_ble_eq_true q.1
  have h2 := Nat.le_of_ble_eq_true q.2
  rw [e]
  exact ⟨h1, by show 8 + (nz + 11) + 40 * h ≤ 40 * hh; omega⟩
theorem mem4 {α : Type} {P : α → Prop} {a b c d : α} (h1 : P a) (h2 : P b) (h3 : P c) (h4 : P d) : ∀ w ∈ [a, b, c, d], P w := List.forall_mem_cons.mpr ⟨h1, List.forall_mem_cons.mpr ⟨h2, List.forall_mem_cons.mpr ⟨h3, List.forall_mem_cons.mpr ⟨h4, fun _ h => absurd h List.not_mem_nil⟩⟩⟩⟩
theorem mem3 {α : Type} {P : α → Prop} {a b c : α} (h1 : P a) (h2 : P b) (h3 : P c) : ∀ w ∈ [a, b, c], P w := List.forall_mem_cons.mpr ⟨h1, List.forall_mem_cons.mpr ⟨h2, List.forall_mem_cons.mpr ⟨h3, fun _ h => absurd h List.not_mem_nil⟩⟩⟩
theorem tb_V {own : String} {idx : Nat} {y : MethodName} {cz : ByteArray} {nz np : Nat} {ret : Option FieldType} (hl : Cond.methodLink own idx y ∈ TB) (hy : WyV y cz nz ret np) : GoodIn TB (wsV own idx y.cls y (.code y cz nz ret :: TB)) := tb_callL (L := [.methodLink own idx y, .instanceMethod y, .selects y.cls y y, .initialized y.cls]) (mem4 (P := fun w => w ∈ TB) hl hy.1.1 hy.1.2.1 hy.1.2.2.1) hy.1.2.2.2
theorem tb_S {own : String} {idx : Nat} {y : MethodName} {cz : ByteArray} {nz np : Nat} {ret : Option FieldType} (hl : Cond.methodLink own idx y ∈ TB) (hy : WyS y cz nz ret np) : GoodIn TB (va_wsS own idx y (.code y cz nz ret :: TB)) := tb_callL (L := [.methodLink own idx y, .static y, .initialized y.cls]) (mem3 (P := fun w => w ∈ TB) hl hy.1.1 hy.1.2.1) hy.1.2.2
section CALL
variable {C : Cx} {cc : ByteArray} {nL : Nat} {own : String} {k n : Nat} {pc : Nat} {lv : List (Nat × Value)} {st : List Value}
variable {S : Type} {wd : S → va_W → va_W} {F : va_W → va_W} {X Y : va_W} {u : S} {y : MethodName} {cz : ByteArray} {nz h np idx b ci q0 : Nat} {As rest : List Value} {q : vw_C} {fs : List Value}
theorem g_pre (hC : Fx C cc nL own) {H : Heap} {locs : List Loc} {av : List Value} {M : va_W} (hP : va_P (xD C) vwCl M H) (hD : va_D (xA C) M) (hS : va_S (xA C) (xH C) H locs) : ∀ U : State, U.heap = H → (xs C).WarmedH U.vm → PcX (xD C) (xy C) (xk C) H.size av M av.toArray U := fun U hU hW =>
  ⟨rfl, by rw [hU], by rw [hU]; exact hP, va_K.moved hW.alike hC.K, hD.weaken (fun _ _ _ _ => trivial), hC.N.warm hW, by rw [hU]; exact ((hC.kn.kept hS.2.1).narrow (w_free hD hS hC.A)).moved hW⟩
theorem g_callV_i (hC : Fx C cc nL own) (hw : ∀ u Y, wd u Y = wd u [] ++ Y) (hF : ∀ Y, F Y = X ++ Y) {post : Int32 → S → Prop} {rt : FieldType} (ct : CtI (xl C) (xD C) (xy C) (xk C) y cz nz h rt (.ref b :: As) (fun u => wd u []) u post) (hy : WyV y cz nz (some rt) np) (hl : Cond.methodLink own idx y ∈ TB) (hq : vwCl[ci]? = some q) (hqc : q.1 = y.cls) (hb : (wd u [])[q0]? = some (b, .inr (ci, fs))) (hn : As.length = np) (hRm : RmOk (xR C) h nz) (hkn : k ≤ (xR C).cells ∧ n ≤ (xR C).slots) (hst : st = As.reverse ++ .ref b :: rest) (hcat : (rest.map fun v => v.category).sum ≤ 8) (hdg : decode cc pc = .ok (.invokevirtual idx, 3))
    (kk : ∀ (r : Int32) (u' : S), post r u' → G C k n nL (F (wd u' Y)) (pc + 3) lv (.int r :: rest)) : G C k n nL (F (wd u Y)) pc lv st := by
  intro H locs ls hP hD hS hl0
  rw [hF, hw] at hP hD
  obtain ⟨hPc, hDc⟩ := w_in hP hD
  have hFc := w_free hDc hS hC.A
  refine va_calli (va_runV (As := As) (rest := rest) hC.fix (ct H.size) (cwV np hC.ts (tb_V hl hy) rfl rfl rfl ⟨rfl, hy.2⟩ hRm) ⟨PcX.blind, by rw [← hqc]; exact va_recv hC.K hPc hq hb, g_pre hC hPc hDc hS⟩ rfl hn hl0.1 hst (lv_room hcat) hdg hkn) hS (fun q _ h => hFc q h) hFc (fun r u' t H1 locs1 ht hvm hp hB hz1 hk1 hS1 => ?_)
  obtain ⟨hP1, hD1⟩ := hB
  rw [ht] at hP1
  obtain ⟨hP2, hD2⟩ := w_mid hP hD hk1 hFc hP1 hD1
  exact kk r u' hp H1 locs1 ls (by rw [hF, hw]; exact hP2) (by rw [hF, hw]; exact hD2) hS1 hl0
theorem g_callVN_i (hC : Fx C cc nL own) (hw : ∀ u Y, wd u Y = wd u [] ++ Y) (hF : ∀ Y, F Y = X ++ Y) {post : Int32 → S → Prop} {rt : FieldType} (ct : CtI (xl C) (xD C) (xy C) (xk C) y cz nz h rt (.ref b :: As) (fun u => wd u []) u post) (hy : WyV y cz nz (some rt) np) {host : String} (hl : ∀ U : State, NW U → va_Nw (.methodLinkNest own idx y host) U) (hq : vwCl[ci]? = some q) (hqc : q.1 = y.cls) (hb : (wd u [])[q0]? = some (b, .inr (ci, fs))) (hn : As.length = np) (hRm : RmOk (xR C) h nz) (hkn : k ≤ (xR C).cells ∧ n ≤ (xR C).slots) (hst : st = As.reverse ++ .ref b :: rest) (hcat : (rest.map fun v => v.category).sum ≤ 8) (hdg : decode cc pc = .ok (.invokevirtual idx, 3))
    (kk : ∀ (r : Int32) (u' : S), post r u' → G C k n nL (F (wd u' Y)) (pc + 3) lv (.int r :: rest)) : G C k n nL (F (wd u Y)) pc lv st := by
  intro H locs ls hP hD hS hl0
  rw [hF, hw] at hP hD
  obtain ⟨hPc, hDc⟩ := w_in hP hD
  have hFc := w_free hDc hS hC.A
  refine va_calli (va_runVN (As := As) (rest := rest) hC.fix (ct H.size) (⟨va_cnB np hC.ts (tb_call hy.1.2.2.2) rfl rfl rfl (hl _ hC.N) (hC.ts _ hy.1.2.2.1) hy.2 hRm, hC.ts _ hy.1.1, hC.ts _ hy.1.2.1⟩) ⟨PcX.blind, by rw [← hqc]; exact va_recv hC.K hPc hq hb, g_pre hC hPc hDc hS⟩ rfl hn hl0.1 hst (lv_room hcat) hdg hkn) hS (fun q _ h => hFc q h) hFc (fun r u' t H1 locs1 ht hvm hp hB hz1 hk1 hS1 => ?_)
  obtain ⟨hP1, hD1⟩ := hB
  rw [ht] at hP1
  obtain ⟨hP2, hD2⟩ := w_mid hP hD hk1 hFc hP1 hD1
  exact kk r u' hp H1 locs1 ls (by rw [hF, hw]; exact hP2) (by rw [hF, hw]; exact hD2) hS1 hl0
theorem g_callS_i (hC : Fx C cc nL own) (hw : ∀ u Y, wd u Y = wd u [] ++ Y) (hF : ∀ Y, F Y = X ++ Y) {post : Int32 → S → Prop} {rt : FieldType} (ct : CtI (xl C) (xD C) (xy C) (xk C) y cz nz h rt As (fun u => wd u []) u post) (hy : WyS y cz nz (some rt) np) (hl : Cond.methodLink own idx y ∈ TB) (hn : As.length = np) (hRm : RmOk (xR C) h nz) (hkn : k ≤ (xR C).cells ∧ n ≤ (xR C).slots) (hst : st = As.reverse ++ rest) (hcat : (rest.map fun v => v.category).sum ≤ 8) (hdg : decode cc pc = .ok (.invokestatic idx, 3))
    (kk : ∀ (r : Int32) (u' : S), post r u' → G C k n nL (F (wd u' Y)) (pc + 3) lv (.int r :: rest)) : G C k n nL (F (wd u Y)) pc lv st := by
  intro H locs ls hP hD hS hl0
  rw [hF, hw] at hP hD
  obtain ⟨hPc, hDc⟩ := w_in hP hD
  have hFc := w_free hDc hS hC.A
  refine va_calli (va_runS (As := As) (rest := rest) hC.fix (ct H.size) (va_cwS np hC.ts (tb_S hl hy) rfl rfl rfl hy.2 hRm) ⟨PcX.blind, g_pre hC hPc hDc hS⟩ rfl hn hl0.1 hst (lv_room hcat) hdg hkn) hS (fun q _ h => hFc q h) hFc (fun r u' t H1 locs1 ht hvm hp hB hz1 hk1 hS1 => ?_)
  obtain ⟨hP1, hD1⟩ := hB
  rw [ht] at hP1
  obtain ⟨hP2, hD2⟩ := w_mid hP hD hk1 hFc hP1 hD1
  exact kk r u' hp H1 locs1 ls (by rw [hF, hw]; exact hP2) (by rw [hF, hw]; exact hD2) hS1 hl0
theorem g_callSN_i (hC : Fx C cc nL own) (hw : ∀ u Y, wd u Y = wd u [] ++ Y) (hF : ∀ Y, F Y = X ++ Y) {post : Int32 → S → Prop} {rt : FieldType} (ct : CtI (xl C) (xD C) (xy C) (xk C) y cz nz h rt As (fun u => wd u []) u post) (hy : WyS y cz nz (some rt) np) {host : String} (hl : ∀ U : State, NW U → va_Nw (.methodLinkNest own idx y host) U) (hn : As.length = np) (hRm : RmOk (xR C) h nz) (hkn : k ≤ (xR C).cells ∧ n ≤ (xR C).slots) (hst : st = As.reverse ++ rest) (hcat : (rest.map fun v => v.category).sum ≤ 8) (hdg : decode cc pc = .ok (.invokestatic idx, 3))
    (kk : ∀ (r : Int32) (u' : S), post r u' → G C k n nL (F (wd u' Y)) (pc + 3) lv (.int r :: rest)) : G C k n nL (F (wd u Y)) pc lv st := by
  intro H locs ls hP hD hS hl0
  rw [hF, hw] at hP hD
  obtain ⟨hPc, hDc⟩ := w_in hP hD
  have hFc := w_free hDc hS hC.A
  refine va_calli (va_runSN (As := As) (rest := rest) hC.fix (ct H.size) (⟨va_cnB np hC.ts (tb_call hy.1.2.2) rfl rfl rfl (hl _ hC.N) (hC.ts _ hy.1.2.1) hy.2 hRm, hC.ts _ hy.1.1, trivial⟩) ⟨PcX.blind, g_pre hC hPc hDc hS⟩ rfl hn hl0.1 hst (lv_room hcat) hdg hkn) hS (fun q _ h => hFc q h) hFc (fun r u' t H1 locs1 ht hvm hp hB hz1 hk1 hS1 => ?_)
  obtain ⟨hP1, hD1⟩ := hB
  rw [ht] at hP1
  obtain ⟨hP2, hD2⟩ := w_mid hP hD hk1 hFc hP1 hD1
  exact kk r u' hp H1 locs1 ls (by rw [hF, hw]; exact hP2) (by rw [hF, hw]; exact hD2) hS1 hl0
theorem g_callV_l (hC : Fx C cc nL own) (hw : ∀ u Y, wd u Y = wd u [] ++ Y) (hF : ∀ Y, F Y = X ++ Y) {post : Int64 → S → Prop} (ct : CtL (xl C) (xD C) (xy C) (xk C) y cz nz h  (.ref b :: As) (fun u => wd u []) u post) (hy : WyV y cz nz (some .long) np) (hl : Cond.methodLink own idx y ∈ TB) (hq : vwCl[ci]? = some q) (hqc : q.1 = y.cls) (hb : (wd u [])[q0]? = some (b, .inr (ci, fs))) (hn : As.length = np) (hRm : RmOk (xR C) h nz) (hkn : k ≤ (xR C).cells ∧ n ≤ (xR C).slots) (hst : st = As.reverse ++ .ref b :: rest) (hcat : (rest.map fun v => v.category).sum ≤ 8) (hdg : decode cc pc = .ok (.invokevirtual idx, 3))
    (kk : ∀ (r : Int64) (u' : S), post r u' → G C k n nL (F (wd u' Y)) (pc + 3) lv (.long r :: rest)) : G C k n nL (F (wd u Y)) pc lv st := by
  intro H locs ls hP hD hS hl0
  rw [hF, hw] at hP hD
  obtain ⟨hPc, hDc⟩ := w_in hP hD
  have hFc := w_free hDc hS hC.A
  refine va_calll (va_runV (As := As) (rest := rest) hC.fix (ct H.size) (cwV np hC.ts (tb_V hl hy) rfl rfl rfl ⟨rfl, hy.2⟩ hRm) ⟨PcX.blind, by rw [← hqc]; exact va_recv hC.K hPc hq hb, g_pre hC hPc hDc hS⟩ rfl hn hl0.1 hst (lv_room hcat) hdg hkn) hS (fun q _ h => hFc q h) hFc (fun r u' t H1 locs1 ht hvm hp hB hz1 hk1 hS1 => ?_)
  obtain ⟨hP1, hD1⟩ := hB
  rw [ht] at hP1
  obtain ⟨hP2, hD2⟩ := w_mid hP hD hk1 hFc hP1 hD1
  exact kk r u' hp H1 locs1 ls (by rw [hF, hw]; exact hP2) (by rw [hF, hw]; exact hD2) hS1 hl0
theorem g_callVN_l (hC : Fx C cc nL own) (hw : ∀ u Y, wd u Y = wd u [] ++ Y) (hF : ∀ Y, F Y = X ++ Y) {post : Int64 → S → Prop} (ct : CtL (xl C) (xD C) (xy C) (xk C) y cz nz h  (.ref b :: As) (fun u => wd u []) u post) (hy : WyV y cz nz (some .long) np) {host : String} (hl : ∀ U : State, NW U → va_Nw (.methodLinkNest own idx y host) U) (hq : vwCl[ci]? = some q) (hqc : q.1 = y.cls) (hb : (wd u [])[q0]? = some (b, .inr (ci, fs))) (hn : As.length = np) (hRm : RmOk (xR C) h nz) (hkn : k ≤ (xR C).cells ∧ n ≤ (xR C).slots) (hst : st = As.reverse ++ .ref b :: rest) (hcat : (rest.map fun v => v.category).sum ≤ 8) (hdg : decode cc pc = .ok (.invokevirtual idx, 3))
    (kk : ∀ (r : Int64) (u' : S), post r u' → G C k n nL (F (wd u' Y)) (pc + 3) lv (.long r :: rest)) : G C k n nL (F (wd u Y)) pc lv st := by
  intro H locs ls hP hD hS hl0
  rw [hF, hw] at hP hD
  obtain ⟨hPc, hDc⟩ := w_in hP hD
  have hFc := w_free hDc hS hC.A
  refine va_calll (va_runVN (As := As) (rest := rest) hC.fix (ct H.size) (⟨va_cnB np hC.ts (tb_call hy.1.2.2.2) rfl rfl rfl (hl _ hC.N) (hC.ts _ hy.1.2.2.1) hy.2 hRm, hC.ts _ hy.1.1, hC.ts _ hy.1.2.1⟩) ⟨PcX.blind, by rw [← hqc]; exact va_recv hC.K hPc hq hb, g_pre hC hPc hDc hS⟩ rfl hn hl0.1 hst (lv_room hcat) hdg hkn) hS (fun q _ h => hFc q h) hFc (fun r u' t H1 locs1 ht hvm hp hB hz1 hk1 hS1 => ?_)
  obtain ⟨hP1, hD1⟩ := hB
  rw [ht] at hP1
  obtain ⟨hP2, hD2⟩ := w_mid hP hD hk1 hFc hP1 hD1
  exact kk r u' hp H1 locs1 ls (by rw [hF, hw]; exact hP2) (by rw [hF, hw]; exact hD2) hS1 hl0
theorem g_callS_l (hC : Fx C cc nL own) (hw : ∀ u Y, wd u Y = wd u [] ++ Y) (hF : ∀ Y, F Y = X ++ Y) {post : Int64 → S → Prop} (ct : CtL (xl C) (xD C) (xy C) (xk C) y cz nz h  As (fun u => wd u []) u post) (hy : WyS y cz nz (some .long) np) (hl : Cond.methodLink own idx y ∈ TB) (hn : As.length = np) (hRm : RmOk (xR C) h nz) (hkn : k ≤ (xR C).cells ∧ n ≤ (xR C).slots) (hst : st = As.reverse ++ rest) (hcat : (rest.map fun v => v.category).sum ≤ 8) (hdg : decode cc pc = .ok (.invokestatic idx, 3))
    (kk : ∀ (r : Int64) (u' : S), post r u' → G C k n nL (F (wd u' Y)) (pc + 3) lv (.long r :: rest)) : G C k n nL (F (wd u Y)) pc lv st := by
  intro H locs ls hP hD hS hl0
  rw [hF, hw] at hP hD
  obtain ⟨hPc, hDc⟩ := w_in hP hD
  have hFc := w_free hDc hS hC.A
  refine va_calll (va_runS (As := As) (rest := rest) hC.fix (ct H.size) (va_cwS np hC.ts (tb_S hl hy) rfl rfl rfl hy.2 hRm) ⟨PcX.blind, g_pre hC hPc hDc hS⟩ rfl hn hl0.1 hst (lv_room hcat) hdg hkn) hS (fun q _ h => hFc q h) hFc (fun r u' t H1 locs1 ht hvm hp hB hz1 hk1 hS1 => ?_)
  obtain ⟨hP1, hD1⟩ := hB
  rw [ht] at hP1
  obtain ⟨hP2, hD2⟩ := w_mid hP hD hk1 hFc hP1 hD1
  exact kk r u' hp H1 locs1 ls (by rw [hF, hw]; exact hP2) (by rw [hF, hw]; exact hD2) hS1 hl0
theorem g_callSN_l (hC : Fx C cc nL own) (hw : ∀ u Y, wd u Y = wd u [] ++ Y) (hF : ∀ Y, F Y = X ++ Y) {post : Int64 → S → Prop} (ct : CtL (xl C) (xD C) (xy C) (xk C) y cz nz h  As (fun u => wd u []) u post) (hy : WyS y cz nz (some .long) np) {host : String} (hl : ∀ U : State, NW U → va_Nw (.methodLinkNest own idx y host) U) (hn : As.length = np) (hRm : RmOk (xR C) h nz) (hkn : k ≤ (xR C).cells ∧ n ≤ (xR C).slots) (hst : st = As.reverse ++ rest) (hcat : (rest.map fun v => v.category).sum ≤ 8) (hdg : decode cc pc = .ok (.invokestatic idx, 3))
    (kk : ∀ (r : Int64) (u' : S), post r u' → G C k n nL (F (wd u' Y)) (pc + 3) lv (.long r :: rest)) : G C k n nL (F (wd u Y)) pc lv st := by
  intro H locs ls hP hD hS hl0
  rw [hF, hw] at hP hD
  obtain ⟨hPc, hDc⟩ := w_in hP hD
  have hFc := w_free hDc hS hC.A
  refine va_calll (va_runSN (As := As) (rest := rest) hC.fix (ct H.size) (⟨va_cnB np hC.ts (tb_call hy.1.2.2) rfl rfl rfl (hl _ hC.N) (hC.ts _ hy.1.2.1) hy.2 hRm, hC.ts _ hy.1.1, trivial⟩) ⟨PcX.blind, g_pre hC hPc hDc hS⟩ rfl hn hl0.1 hst (lv_room hcat) hdg hkn) hS (fun q _ h => hFc q h) hFc (fun r u' t H1 locs1 ht hvm hp hB hz1 hk1 hS1 => ?_)
  obtain ⟨hP1, hD1⟩ := hB
  rw [ht] at hP1
  obtain ⟨hP2, hD2⟩ := w_mid hP hD hk1 hFc hP1 hD1
  exact kk r u' hp H1 locs1 ls (by rw [hF, hw]; exact hP2) (by rw [hF, hw]; exact hD2) hS1 hl0
theorem g_callV_v (hC : Fx C cc nL own) (hw : ∀ u Y, wd u Y = wd u [] ++ Y) (hF : ∀ Y, F Y = X ++ Y) {post : S → Prop} (ct : CtV (xl C) (xD C) (xy C) (xk C) y cz nz h  (.ref b :: As) (fun u => wd u []) u post) (hy : WyV y cz nz (none) np) (hl : Cond.methodLink own idx y ∈ TB) (hq : vwCl[ci]? = some q) (hqc : q.1 = y.cls) (hb : (wd u [])[q0]? = some (b, .inr (ci, fs))) (hn : As.length = np) (hRm : RmOk (xR C) h nz) (hkn : k ≤ (xR C).cells ∧ n ≤ (xR C).slots) (hst : st = As.reverse ++ .ref b :: rest) (hcat : (rest.map fun v => v.category).sum ≤ 8) (hdg : decode cc pc = .ok (.invokevirtual idx, 3))
    (kk : ∀ (u' : S), post u' → G C k n nL (F (wd u' Y)) (pc + 3) lv (rest)) : G C k n nL (F (wd u Y)) pc lv st := by
  intro H locs ls hP hD hS hl0
  rw [hF, hw] at hP hD
  obtain ⟨hPc, hDc⟩ := w_in hP hD
  have hFc := w_free hDc hS hC.A
  refine va_callv (va_runV (As := As) (rest := rest) hC.fix (ct H.size) (cwV np hC.ts (tb_V hl hy) rfl rfl rfl ⟨rfl, hy.2⟩ hRm) ⟨PcX.blind, by rw [← hqc]; exact va_recv hC.K hPc hq hb, g_pre hC hPc hDc hS⟩ rfl hn hl0.1 hst (lv_room hcat) hdg hkn) hS (fun q _ h => hFc q h) hFc (fun u' t H1 locs1 ht hvm hp hB hz1 hk1 hS1 => ?_)
  obtain ⟨hP1, hD1⟩ := hB
  rw [ht] at hP1
  obtain ⟨hP2, hD2⟩ := w_mid hP hD hk1 hFc hP1 hD1
  exact kk u' hp H1 locs1 ls (by rw [hF, hw]; exact hP2) (by rw [hF, hw]; exact hD2) hS1 hl0
theorem g_callVN_v (hC : Fx C cc nL own) (hw : ∀ u Y, wd u Y = wd u [] ++ Y) (hF : ∀ Y, F Y = X ++ Y) {post : S → Prop} (ct : CtV (xl C) (xD C) (xy C) (xk C) y cz nz h  (.ref b :: As) (fun u => wd u []) u post) (hy : WyV y cz nz (none) np) {host : String} (hl : ∀ U : State, NW U → va_Nw (.methodLinkNest own idx y host) U) (hq : vwCl[ci]? = some q) (hqc : q.1 = y.cls) (hb : (wd u [])[q0]? = some (b, .inr (ci, fs))) (hn : As.length = np) (hRm : RmOk (xR C) h nz) (hkn : k ≤ (xR C).cells ∧ n ≤ (xR C).slots) (hst : st = As.reverse ++ .ref b :: rest) (hcat : (rest.map fun v => v.category).sum ≤ 8) (hdg : decode cc pc = .ok (.invokevirtual idx, 3))
    (kk : ∀ (u' : S), post u' → G C k n nL (F (wd u' Y)) (pc + 3) lv (rest)) : G C k n nL (F (wd u Y)) pc lv st := by
  intro H locs ls hP hD hS hl0
  rw [hF, hw] at hP hD
  obtain ⟨hPc, hDc⟩ := w_in hP hD
  have hFc := w_free hDc hS hC.A
  refine va_callv (va_runVN (As := As) (rest := rest) hC.fix (ct H.size) (⟨va_cnB np hC.ts (tb_call hy.1.2.2.2) rfl rfl rfl (hl _ hC.N) (hC.ts _ hy.1.2.2.1) hy.2 hRm, hC.ts _ hy.1.1, hC.ts _ hy.1.2.1⟩) ⟨PcX.blind, by rw [← hqc]; exact va_recv hC.K hPc hq hb, g_pre hC hPc hDc hS⟩ rfl hn hl0.1 hst (lv_room hcat) hdg hkn) hS (fun q _ h => hFc q h) hFc (fun u' t H1 locs1 ht hvm hp hB hz1 hk1 hS1 => ?_)
  obtain ⟨hP1, hD1⟩ := hB
  rw [ht] at hP1
  obtain ⟨hP2, hD2⟩ := w_mid hP hD hk1 hFc hP1 hD1
  exact kk u' hp H1 locs1 ls (by rw [hF, hw]; exact hP2) (by rw [hF, hw]; exact hD2) hS1 hl0
theorem g_callS_v (hC : Fx C cc nL own) (hw : ∀ u Y, wd u Y = wd u [] ++ Y) (hF : ∀ Y, F Y = X ++ Y) {post : S → Prop} (ct : CtV (xl C) (xD C) (xy C) (xk C) y cz nz h  As (fun u => wd u []) u post) (hy : WyS y cz nz (none) np) (hl : Cond.methodLink own idx y ∈ TB) (hn : As.length = np) (hRm : RmOk (xR C) h nz) (hkn : k ≤ (xR C).cells ∧ n ≤ (xR C).slots) (hst : st = As.reverse ++ rest) (hcat : (rest.map fun v => v.category).sum ≤ 8) (hdg : decode cc pc = .ok (.invokestatic idx, 3))
    (kk : ∀ (u' : S), post u' → G C k n nL (F (wd u' Y)) (pc + 3) lv (rest)) : G C k n nL (F (wd u Y)) pc lv st := by
  intro H locs ls hP hD hS hl0
  rw [hF, hw] at hP hD
  obtain ⟨hPc, hDc⟩ := w_in hP hD
  have hFc := w_free hDc hS hC.A
  refine va_callv (va_runS (As := As) (rest := rest) hC.fix (ct H.size) (va_cwS np hC.ts (tb_S hl hy) rfl rfl rfl hy.2 hRm) ⟨PcX.blind, g_pre hC hPc hDc hS⟩ rfl hn hl0.1 hst (lv_room hcat) hdg hkn) hS (fun q _ h => hFc q h) hFc (fun u' t H1 locs1 ht hvm hp hB hz1 hk1 hS1 => ?_)
  obtain ⟨hP1, hD1⟩ := hB
  rw [ht] at hP1
  obtain ⟨hP2, hD2⟩ := w_mid hP hD hk1 hFc hP1 hD1
  exact kk u' hp H1 locs1 ls (by rw [hF, hw]; exact hP2) (by rw [hF, hw]; exact hD2) hS1 hl0
theorem g_callSN_v (hC : Fx C cc nL own) (hw : ∀ u Y, wd u Y = wd u [] ++ Y) (hF : ∀ Y, F Y = X ++ Y) {post : S → Prop} (ct : CtV (xl C) (xD C) (xy C) (xk C) y cz nz h  As (fun u => wd u []) u post) (hy : WyS y cz nz (none) np) {host : String} (hl : ∀ U : State, NW U → va_Nw (.methodLinkNest own idx y host) U) (hn : As.length = np) (hRm : RmOk (xR C) h nz) (hkn : k ≤ (xR C).cells ∧ n ≤ (xR C).slots) (hst : st = As.reverse ++ rest) (hcat : (rest.map fun v => v.category).sum ≤ 8) (hdg : decode cc pc = .ok (.invokestatic idx, 3))
    (kk : ∀ (u' : S), post u' → G C k n nL (F (wd u' Y)) (pc + 3) lv (rest)) : G C k n nL (F (wd u Y)) pc lv st := by
  intro H locs ls hP hD hS hl0
  rw [hF, hw] at hP hD
  obtain ⟨hPc, hDc⟩ := w_in hP hD
  have hFc := w_free hDc hS hC.A
  refine va_callv (va_runSN (As := As) (rest := rest) hC.fix (ct H.size) (⟨va_cnB np hC.ts (tb_call hy.1.2.2) rfl rfl rfl (hl _ hC.N) (hC.ts _ hy.1.2.1) hy.2 hRm, hC.ts _ hy.1.1, trivial⟩) ⟨PcX.blind, g_pre hC hPc hDc hS⟩ rfl hn hl0.1 hst (lv_room hcat) hdg hkn) hS (fun q _ h => hFc q h) hFc (fun u' t H1 locs1 ht hvm hp hB hz1 hk1 hS1 => ?_)
  obtain ⟨hP1, hD1⟩ := hB
  rw [ht] at hP1
  obtain ⟨hP2, hD2⟩ := w_mid hP hD hk1 hFc hP1 hD1
  exact kk u' hp H1 locs1 ls (by rw [hF, hw]; exact hP2) (by rw [hF, hw]; exact hD2) hS1 hl0
end CALL
section FLD
variable {C : Cx} {cc : ByteArray} {nL : Nat} {own : String} {k n : Nat} {pc : Nat} {lv : List (Nat × Value)} {st : List Value} {F : va_W → va_W} {X Y : va_W}
theorem hole_get (hF : ∀ Y, F Y = X ++ Y) (e : Nat × va_E) (Y : va_W) : (F (e :: Y))[X.length]? = some e := by rw [hF]; simp
theorem hole_set (hF : ∀ Y, F Y = X ++ Y) (e e' : Nat × va_E) (Y : va_W) : (F (e :: Y)).set X.length e' = F (e' :: Y) := by rw [hF, hF]; simp
theorem g_get (hC : Fx C cc nL own) (hF : ∀ Y, F Y = X ++ Y) {o ci N idx : Nat} {fs : List Value} {Cn : String} {T : u_T} (hc : vwCl[ci]? = some (Cn, T, N)) (hin : ∀ w ∈ u_ws Cn T N, w ∈ TB) (kf : Nat) (hk : kf < N) (hl : Cond.fieldLink own idx (T kf).1 (T kf).2.1 (T kf).2.2.1 ∈ TB) {v : Value} (hv : fs[kf]? = some v) (hdg : decode cc pc = .ok (.getfield idx, 3))
    (kk : G C k n nL (F ((o, .inr (ci, fs)) :: Y)) (pc + 3) lv (v :: st)) : G C k n nL (F ((o, .inr (ci, fs)) :: Y)) pc lv (.ref o :: st) := fun H locs ls hP hD hS hl0 =>
  va_get hC.x hC.b hC.ts hin hC.ow hC.K hP X.length (hole_get hF _ _) hc kf hk (hC.ts _ hl) (fun _ h => h) hv hdg (kk H locs ls hP hD hS hl0)
theorem g_put (hC : Fx C cc nL own) (hF : ∀ Y, F Y = X ++ Y) {o ci N idx : Nat} {fs : List Value} {Cn : String} {T : u_T} {ty0 : Nat → FieldType} (hc : vwCl[ci]? = some (Cn, T, N)) (hin : ∀ w ∈ u_ws Cn T N, w ∈ TB) (hty : ∀ k, k < N → parseFieldDescriptor (T k).2.2.1 = some (ty0 k)) (hnm : ∀ a, a < N → ∀ b, b < N → a ≠ b → (T a).2.1 ≠ (T b).2.1) (kf : Nat) (hk : kf < N) (hfin : (T kf).2.2.2 = false) (hl : Cond.fieldLink own idx (T kf).1 (T kf).2.1 (T kf).2.2.1 ∈ TB) {v : Value} (hn : narrow (ty0 kf) v = v) (hfit : fits (ty0 kf) v = true) (hlen : kf < fs.length) (hdg : decode cc pc = .ok (.putfield idx, 3))
    (kk : G C k n nL (F ((o, .inr (ci, fs.set kf v)) :: Y)) (pc + 3) lv st) : G C k n nL (F ((o, .inr (ci, fs)) :: Y)) pc lv (v :: .ref o :: st) := fun H locs ls hP hD hS hl0 =>
  va_put hC.x hC.b hC.ts hin ty0 hty hnm hC.ow hC.K hP hD hS X.length (hole_get hF _ _) hc kf hk (hC.ts _ hl) (fun _ h => h) hfin (hty kf hk) hn hfit hlen hdg (fun H1 locs1 hP1 hD1 hS1 => kk H1 locs1 ls (by rw [hole_set hF] at hP1; exact hP1) (by rw [hole_set hF] at hD1; exact hD1) hS1 hl0)
theorem g_iald (hC : Fx C cc nL own) (hF : ∀ Y, F Y = X ++ Y) {a m : Nat} {f : Nat → Int32} {i : Int32} (hin : vp_in i m) (hdg : decode cc pc = .ok (.iaload, 1)) (kk : G C k n nL (F ((a, .inl (xy C 1, m, .inl f)) :: Y)) (pc + 1) lv (.int (f i.toNatClampNeg) :: st)) : G C k n nL (F ((a, .inl (xy C 1, m, .inl f)) :: Y)) pc lv (.int i :: .ref a :: st) := fun H locs ls hP hD hS hl0 =>
  va_iald hC.x hC.b hC.K hP X.length 1 (hole_get hF _ _) rfl hin hdg (kk H locs ls hP hD hS hl0)
theorem g_bald (hC : Fx C cc nL own) (hF : ∀ Y, F Y = X ++ Y) {a m : Nat} {f : Nat → Int32} {i : Int32} (hin : vp_in i m) (hdg : decode cc pc = .ok (.baload, 1)) (kk : G C k n nL (F ((a, .inl (xy C 0, m, .inl f)) :: Y)) (pc + 1) lv (.int (f i.toNatClampNeg) :: st)) : G C k n nL (F ((a, .inl (xy C 0, m, .inl f)) :: Y)) pc lv (.int i :: .ref a :: st) := fun H locs ls hP hD hS hl0 =>
  va_bald hC.x hC.b hC.K hP X.length 0 (hole_get hF _ _) rfl hin hdg (kk H locs ls hP hD hS hl0)
theorem g_zald (hC : Fx C cc nL own) (hF : ∀ Y, F Y = X ++ Y) {a m : Nat} {f : Nat → Int32} {i : Int32} (hin : vp_in i m) (hdg : decode cc pc = .ok (.baload, 1)) (kk : G C k n nL (F ((a, .inl (xy C 3, m, .inl f)) :: Y)) (pc + 1) lv (.int (f i.toNatClampNeg) :: st)) : G C k n nL (F ((a, .inl (xy C 3, m, .inl f)) :: Y)) pc lv (.int i :: .ref a :: st) := fun H locs ls hP hD hS hl0 =>
  va_zald hC.x hC.b hC.K hP X.length 3 (hole_get hF _ _) rfl hin hdg (kk H locs ls hP hD hS hl0)
theorem g_lald (hC : Fx C cc nL own) (hF : ∀ Y, F Y = X ++ Y) {a m : Nat} {f : Nat → Int64} {i : Int32} (hin : vp_in i m) (hdg : decode cc pc = .ok (.laload, 1)) (kk : G C k n nL (F ((a, .inl (xy C 2, m, .inr (.inl f))) :: Y)) (pc + 1) lv (.long (f i.toNatClampNeg) :: st)) : G C k n nL (F ((a, .inl (xy C 2, m, .inr (.inl f))) :: Y)) pc lv (.int i :: .ref a :: st) := fun H locs ls hP hD hS hl0 =>
  va_lald hC.x hC.b hC.K hP X.length 2 (hole_get hF _ _) rfl hin hdg (kk H locs ls hP hD hS hl0)
theorem g_iast (hC : Fx C cc nL own) (hF : ∀ Y, F Y = X ++ Y) {a m : Nat} {f : Nat → Int32} {i : Int32} {x : Int32} (hin : vp_in i m) (hdg : decode cc pc = .ok (.iastore, 1)) (kk : G C k n nL (F ((a, .inl (xy C 1, m, .inl (upd f i.toNatClampNeg x))) :: Y)) (pc + 1) lv st) : G C k n nL (F ((a, .inl (xy C 1, m, .inl f)) :: Y)) pc lv (.int x :: .int i :: .ref a :: st) := fun H locs ls hP hD hS hl0 =>
  va_iast hC.x hC.b hC.K hP hD hS X.length 1 (hole_get hF _ _) rfl hin hdg (fun H1 locs1 hP1 hD1 hS1 => kk H1 locs1 ls (by rw [hole_set hF] at hP1; exact hP1) (by rw [hole_set hF] at hD1; exact hD1) hS1 hl0)
theorem g_bast (hC : Fx C cc nL own) (hF : ∀ Y, F Y = X ++ Y) {a m : Nat} {f : Nat → Int32} {i : Int32} {x : Int32} (hin : vp_in i m) (hdg : decode cc pc = .ok (.bastore, 1)) (kk : G C k n nL (F ((a, .inl (xy C 0, m, .inl (upd f i.toNatClampNeg (vp_nar .byte x)))) :: Y)) (pc + 1) lv st) : G C k n nL (F ((a, .inl (xy C 0, m, .inl f)) :: Y)) pc lv (.int x :: .int i :: .ref a :: st) := fun H locs ls hP hD hS hl0 =>
  va_bast hC.x hC.b hC.K hP hD hS X.length 0 (hole_get hF _ _) rfl hin hdg (fun H1 locs1 hP1 hD1 hS1 => kk H1 locs1 ls (by rw [hole_set hF] at hP1; exact hP1) (by rw [hole_set hF] at hD1; exact hD1) hS1 hl0)
theorem g_zast (hC : Fx C cc nL own) (hF : ∀ Y, F Y = X ++ Y) {a m : Nat} {f : Nat → Int32} {i : Int32} {x : Int32} (hin : vp_in i m) (hdg : decode cc pc = .ok (.bastore, 1)) (kk : G C k n nL (F ((a, .inl (xy C 3, m, .inl (upd f i.toNatClampNeg (vp_nar .boolean x)))) :: Y)) (pc + 1) lv st) : G C k n nL (F ((a, .inl (xy C 3, m, .inl f)) :: Y)) pc lv (.int x :: .int i :: .ref a :: st) := fun H locs ls hP hD hS hl0 =>
  va_zast hC.x hC.b hC.K hP hD hS X.length 3 (hole_get hF _ _) rfl hin hdg (fun H1 locs1 hP1 hD1 hS1 => kk H1 locs1 ls (by rw [hole_set hF] at hP1; exact hP1) (by rw [hole_set hF] at hD1; exact hD1) hS1 hl0)
theorem g_last (hC : Fx C cc nL own) (hF : ∀ Y, F Y = X ++ Y) {a m : Nat} {f : Nat → Int64} {i : Int32} {x : Int64} (hin : vp_in i m) (hdg : decode cc pc = .ok (.lastore, 1)) (kk : G C k n nL (F ((a, .inl (xy C 2, m, .inr (.inl (vp_updL f i.toNatClampNeg x)))) :: Y)) (pc + 1) lv st) : G C k n nL (F ((a, .inl (xy C 2, m, .inr (.inl f))) :: Y)) pc lv (.long x :: .int i :: .ref a :: st) := fun H locs ls hP hD hS hl0 =>
  va_last hC.x hC.b hC.K hP hD hS X.length 2 (hole_get hF _ _) rfl hin hdg (fun H1 locs1 hP1 hD1 hS1 => kk H1 locs1 ls (by rw [hole_set hF] at hP1; exact hP1) (by rw [hole_set hF] at hD1; exact hD1) hS1 hl0)
end FLD
