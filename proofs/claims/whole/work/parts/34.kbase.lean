/-! CONSTRUCTORS: rows that make cells; contracts of constructors -/
def rmk (h mc ms : Nat) : Room := { frames := h, cells := mc, slots := ms, locals := 40 * h }
def AO (U : State) : Prop := va_AO "IvyHouse$House" U ∧ va_AO "IvyHouse$Times" U
theorem AO.moved {u U : State} (hvm : u.vm.Alike U.vm) (h : AO u) : AO U := ⟨h.1.moved hvm, h.2.moved hvm⟩
def PcK (D : va_G) (cy : Nat → ClassId) (kd : Nat → Nat) (sz : Nat) (av : List Value) (w : va_W) : Array Value → State → Prop :=
  fun a U => PcX D cy kd sz av w a U ∧ AO U
theorem PcK.blind {D : va_G} {cy : Nat → ClassId} {kd : Nat → Nat} {sz : Nat} {av : List Value} {w : va_W} : FrameBlind (PcK D cy kd sz av w) := fun a U g mk q =>
  ⟨PcX.blind a U g mk q.1, q.2.moved (u := U) (U := U.calling g mk a) (Vm.Alike.refl U.vm)⟩
def CtK {S : Type} (l : Launch) (D : va_G) (cy : Nat → ClassId) (kd : Nat → Nat) (y : MethodName) (cc : ByteArray) (nL h mc ms : Nat) (av : List Value) (w0 : va_W) (wd : S → va_W) (post : S → Prop) : Prop :=
  ∀ sz : Nat, Met l y (.code y cc nL none :: TB) (rmk h mc ms) (PcK D cy kd sz av w0) (va_Qv post (fun u' t => va_P D vwCl (wd u') t.heap ∧ va_D (va_A w0 sz) (wd u')) (va_A w0 sz)) mc ms (va_A w0 sz)
def RK {S : Type} (C : Cx) (cc : ByteArray) (nL mc ms : Nat) (wd : S → va_W) (post : S → Prop) : Prop := ∀ (pc : Nat) (lv : List (Nat × Value)) (u : S), decode cc pc = .ok (.return_, 1) → post u → G C mc ms nL (wd u) pc lv []
def FxK (C : Cx) : Prop := (xt C).name = "<init>" ∧ AO (xs C)
theorem met_k {S : Type} {l : Launch} {D : va_G} {cy : Nat → ClassId} {kd : Nat → Nat} {y : MethodName} {cc : ByteArray} {nL h mc ms : Nat} {av : List Value} {w0 : va_W} {wd : S → va_W} {post : S → Prop} (hyn : y.name = "<init>") (hy : plainName y.cls = true) (hn : (lg_sl av).length ≤ nL) (body : ∀ C : Cx, xl C = l → xD C = D → xy C = cy → xk C = kd → xR C = rmk h mc ms → Fx C cc nL y.cls → FxK C → RK C cc nL mc ms wd post → G C 0 0 nL w0 0 (lv_args 0 av) []) : CtK l D cy kd y cc nL h mc ms av w0 wd post := by
  intro sz
  refine Met.ofW (cc := cc) (maxL := nL) (ret := none) hy rfl ?_
  intro p e s m args below meth c s₁ B hml hv
  obtain ⟨⟨rfl, hsz, hP, hK, hD0, hN, hk⟩, hao⟩ := hv
  have hx := B.exec
  have hb := B.bytes
  have hr := B.returns
  have hts := atoms_spec (ws := .code y cc nL none :: TB) B.pre
  have hown : s.vm.findClass y.cls = some m.cls := findClass_of_methodNamed B.named
  have hlocks := B.notSynchronized
  have hin : meth.name = y.name := (name_of_methodNamed B.named B.method).1
  subst hsz
  have hD := hD0.self (sz := s.heap.size)
  have hl := lv_entry av (n := nL) hn
  rw [lg_entry_eq]
  exact body (p, l, e, rmk h mc ms, s, m, av.toArray, below, meth, c, D, cy, kd, va_A w0 s.heap.size, _) rfl rfl rfl rfl rfl ⟨hx, hb, hml, hown, fun w hw => hts w (List.mem_cons_of_mem _ hw), hK, fun q hq => Or.inr hq, hN, hk⟩ ⟨hin.trans hyn, hao⟩ (fun pc lv u' hdg hp H locs ls hP hD hS hl => W.vret hx hb hr (fun t ht hW => ⟨⟨u', rfl, hp, by rw [ht]; exact hP, hD⟩, hS.F ht⟩) hS.2.2 hdg hlocks) s.heap [] _ hP hD va_S.rf hl
theorem rmokK {C : Cx} {hh h nz mc ms : Nat} (e : xR C = rmk hh mc ms) (q : (Nat.ble (h + 1) hh && Nat.ble nz 21) = true) : RmOk (xR C) h nz := by
  rw [Bool.and_eq_true] at q
  have h1 := Nat.le_of_ble_eq_true q.1
  have h2 := Nat.le_of_ble_eq_true q.2
  rw [e]
  exact ⟨h1, by show 8 + (nz + 11) + 40 * h ≤ 40 * hh; omega⟩
/-- what a call of a constructor needs to know -/
def WyK (y : MethodName) (cz : ByteArray) (nz : Nat) (np : Nat) : Prop :=
  (Cond.instanceMethod y ∈ TB ∧ Cond.initialized y.cls ∈ TB ∧ Cond.code y cz nz none ∈ TB) ∧ y.name = "<init>" ∧ y.cls ≠ "java/lang/invoke/MethodHandle" ∧ y.cls ≠ "java/lang/invoke/VarHandle" ∧ (parseMethodDescriptor y.desc).map (fun d => d.parameters.length) = some np
section KR
variable {C : Cx} {cc : ByteArray} {nL : Nat} {own : String} {k n : Nat} {pc : Nat} {lv : List (Nat × Value)} {st : List Value} {σ : va_W}
theorem g_eq {σ' : va_W} (h : σ = σ') (kk : G C k n nL σ' pc lv st) : G C k n nL σ pc lv st := h ▸ kk
theorem g_widen {k' n' : Nat} (h1 : k ≤ k') (h2 : n ≤ n') (kk : G C k' n' nL σ pc lv st) : G C k n nL σ pc lv st := fun H locs ls hP hD hS hl => W.widen h1 h2 (kk H locs ls hP hD hS hl)
theorem n_init (hC : Fx C cc nL own) {idx o hh mc ms : Nat} (hR0 : xR C = rmk hh mc ms) (hq : Nat.ble 1 hh = true) (hl : Cond.methodLink own idx Lib.objectInit ∈ TB) (hst : (st.map fun v => v.category).sum ≤ 8) (hdg : decode cc pc = .ok (.invokespecial idx, 3)) (kk : G C k n nL σ (pc + 3) lv st) : G C k n nL σ pc lv (.ref o :: st) := fun H locs ls hP hD hS hl0 => by
  have h1 := Nat.le_of_ble_eq_true hq
  exact W.objInit hC.x hC.b hC.ow (hC.ts _ hl) (hC.ts _ (tb_t1 28 rfl rfl)) (hC.ts _ (tb_t1 29 rfl rfl)) rfl (by rw [hC.ml]; exact hl0.1) rfl hdg (by rw [hR0]; exact h1) (by rw [hR0]; show 2 * 0 + _ + 12 ≤ 40 * hh; omega) (kk H locs ls hP hD hS hl0)
theorem n_obj (hC : Fx C cc nL own) {Cn : String} {T : u_T} {N ci idx : Nat} {ty : Nat → FieldType} (hc : vwCl[ci]? = some (Cn, T, N)) (hin : ∀ w ∈ u_ws Cn T N, w ∈ TB) (hty : ∀ k, k < N → parseFieldDescriptor (T k).2.2.1 = some (ty k)) (hcl : Cond.classLink own idx Cn ∈ TB) (hinst : Cond.instantiable Cn N ∈ TB) (hini : Cond.initialized Cn ∈ TB) {fs : List Value} (hfs : ∀ j, j < N → defaultValue (ty j) = vp_V fs j) (hk : k + 1 ≤ (xR C).cells) (hn : n + N ≤ (xR C).slots) (hdg : decode cc pc = .ok (.new idx, 3)) {σ' : Nat → va_W} (hσ : ∀ q, σ ++ [(q, .inr (ci, fs))] = σ' q) (kk : ∀ q : Nat, G C (k + 1) (n + N) nL (σ' q) (pc + 3) lv (.ref q :: st)) : G C k n nL σ pc lv st := fun H locs ls hP hD hS hl0 =>
  va_new hC.x hC.b hC.ts hin ty hty hC.ow (hC.ts _ hcl) (hC.ts _ hinst) (hC.ts _ hini) hC.K hP hD hS hC.A hc hfs hk hn hdg (fun q H1 hP1 hD1 hS1 => kk q H1 locs ls (hσ q ▸ hP1) (hσ q ▸ hD1) hS1 hl0)
theorem n_ints (hC : Fx C cc nL own) {N' : Nat} {m : Int32} (harr : Cond.arrayClass .int ∈ TB) (hm : ¬ m < 0) (hN : m.toNatClampNeg = N') (hby : N' * componentBytes .int ≤ 536870912) (hk : k + 1 ≤ (xR C).cells) (hn : n + N' ≤ (xR C).slots) (hdg : decode cc pc = .ok (.newarray .int, 2)) {σ' : Nat → va_W} (hσ : ∀ q, σ ++ [(q, .inl (xy C 1, N', .inl (fun _ => 0)))] = σ' q) (kk : ∀ q : Nat, G C (k + 1) (n + N') nL (σ' q) (pc + 2) lv (.ref q :: st)) : G C k n nL σ pc lv (.int m :: st) := fun H locs ls hP hD hS hl0 => by
  refine va_newa (atype := .int) (ty := .int) (a0 := (N', .inl (fun _ => 0))) hC.x hC.b (hC.ts _ harr) rfl hC.K hP hD hS hC.A (fun _ => rfl) hm hN hby hk hn hdg (fun q cA H1 hK1 hP1 hD1 hS1 => ?_)
  have e1 : va_RA (xs C) cA .int := (hK1.2 6 (cA, .int) rfl).2
  have e2 : va_RA (xs C) (xy C 1) .int := (hC.K.2 1 (xy C 1, .int) rfl).2
  have e : cA = xy C 1 := Option.some.inj (Eq.trans (Eq.symm (show (xs C).vm.findClass _ = some cA from e1)) (show (xs C).vm.findClass _ = some (xy C 1) from e2))
  subst e
  exact kk q H1 locs ls (hσ q ▸ hP1) (hσ q ▸ hD1) hS1 hl0
theorem n_bytes (hC : Fx C cc nL own) {N' : Nat} {m : Int32} (harr : Cond.arrayClass .byte ∈ TB) (hm : ¬ m < 0) (hN : m.toNatClampNeg = N') (hby : N' * componentBytes .byte ≤ 536870912) (hk : k + 1 ≤ (xR C).cells) (hn : n + N' ≤ (xR C).slots) (hdg : decode cc pc = .ok (.newarray .byte, 2)) {σ' : Nat → va_W} (hσ : ∀ q, σ ++ [(q, .inl (xy C 0, N', .inl (fun _ => 0)))] = σ' q) (kk : ∀ q : Nat, G C (k + 1) (n + N') nL (σ' q) (pc + 2) lv (.ref q :: st)) : G C k n nL σ pc lv (.int m :: st) := fun H locs ls hP hD hS hl0 => by
  refine va_newa (atype := .byte) (ty := .byte) (a0 := (N', .inl (fun _ => 0))) hC.x hC.b (hC.ts _ harr) rfl hC.K hP hD hS hC.A (fun _ => rfl) hm hN hby hk hn hdg (fun q cA H1 hK1 hP1 hD1 hS1 => ?_)
  have e1 : va_RA (xs C) cA .byte := (hK1.2 6 (cA, .byte) rfl).2
  have e2 : va_RA (xs C) (xy C 0) .byte := (hC.K.2 0 (xy C 0, .byte) rfl).2
  have e : cA = xy C 0 := Option.some.inj (Eq.trans (Eq.symm (show (xs C).vm.findClass _ = some cA from e1)) (show (xs C).vm.findClass _ = some (xy C 0) from e2))
  subst e
  exact kk q H1 locs ls (hσ q ▸ hP1) (hσ q ▸ hD1) hS1 hl0
theorem n_bools (hC : Fx C cc nL own) {N' : Nat} {m : Int32} (harr : Cond.arrayClass .boolean ∈ TB) (hm : ¬ m < 0) (hN : m.toNatClampNeg = N') (hby : N' * componentBytes .boolean ≤ 536870912) (hk : k + 1 ≤ (xR C).cells) (hn : n + N' ≤ (xR C).slots) (hdg : decode cc pc = .ok (.newarray .boolean, 2)) {σ' : Nat → va_W} (hσ : ∀ q, σ ++ [(q, .inl (xy C 3, N', .inl (fun _ => 0)))] = σ' q) (kk : ∀ q : Nat, G C (k + 1) (n + N') nL (σ' q) (pc + 2) lv (.ref q :: st)) : G C k n nL σ pc lv (.int m :: st) := fun H locs ls hP hD hS hl0 => by
  refine va_newa (atype := .boolean) (ty := .boolean) (a0 := (N', .inl (fun _ => 0))) hC.x hC.b (hC.ts _ harr) rfl hC.K hP hD hS hC.A (fun _ => rfl) hm hN hby hk hn hdg (fun q cA H1 hK1 hP1 hD1 hS1 => ?_)
  have e1 : va_RA (xs C) cA .boolean := (hK1.2 6 (cA, .boolean) rfl).2
  have e2 : va_RA (xs C) (xy C 3) .boolean := (hC.K.2 3 (xy C 3, .boolean) rfl).2
  have e : cA = xy C 3 := Option.some.inj (Eq.trans (Eq.symm (show (xs C).vm.findClass _ = some cA from e1)) (show (xs C).vm.findClass _ = some (xy C 3) from e2))
  subst e
  exact kk q H1 locs ls (hσ q ▸ hP1) (hσ q ▸ hD1) hS1 hl0
theorem n_longs (hC : Fx C cc nL own) {N' : Nat} {m : Int32} (harr : Cond.arrayClass .long ∈ TB) (hm : ¬ m < 0) (hN : m.toNatClampNeg = N') (hby : N' * componentBytes .long ≤ 536870912) (hk : k + 1 ≤ (xR C).cells) (hn : n + N' ≤ (xR C).slots) (hdg : decode cc pc = .ok (.newarray .long, 2)) {σ' : Nat → va_W} (hσ : ∀ q, σ ++ [(q, .inl (xy C 2, N', .inr (.inl (fun _ => 0))))] = σ' q) (kk : ∀ q : Nat, G C (k + 1) (n + N') nL (σ' q) (pc + 2) lv (.ref q :: st)) : G C k n nL σ pc lv (.int m :: st) := fun H locs ls hP hD hS hl0 => by
  refine va_newa (atype := .long) (ty := .long) (a0 := (N', .inr (.inl (fun _ => 0)))) hC.x hC.b (hC.ts _ harr) rfl hC.K hP hD hS hC.A (fun _ => rfl) hm hN hby hk hn hdg (fun q cA H1 hK1 hP1 hD1 hS1 => ?_)
  have e1 : va_RA (xs C) cA .long := (hK1.2 6 (cA, .long) rfl).2
  have e2 : va_RA (xs C) (xy C 2) .long := (hC.K.2 2 (xy C 2, .long) rfl).2
  have e : cA = xy C 2 := Option.some.inj (Eq.trans (Eq.symm (show (xs C).vm.findClass _ = some cA from e1)) (show (xs C).vm.findClass _ = some (xy C 2) from e2))
  subst e
  exact kk q H1 locs ls (hσ q ▸ hP1) (hσ q ▸ hD1) hS1 hl0
theorem n_houses (hC : Fx C cc nL own) (hF : FxK C) {N' idx : Nat} {m : Int32} (hcl : Cond.classLink own idx "IvyHouse$House" ∈ TB) (hm : ¬ m < 0) (hN : m.toNatClampNeg = N') (hby : N' * 4 ≤ 536870912) (hk : k + 1 ≤ (xR C).cells) (hn : n + N' ≤ (xR C).slots) (hdg : decode cc pc = .ok (.anewarray idx, 3)) {σ' : Nat → va_W} (hσ : ∀ q, σ ++ [(q, .inl (xy C 4, N', .inr (.inr (.inr (.inr (fun _ => none))))))] = σ' q) (kk : ∀ q : Nat, G C (k + 1) (n + N') nL (σ' q) (pc + 3) lv (.ref q :: st)) : G C k n nL σ pc lv (.int m :: st) := fun H locs ls hP hD hS hl0 => by
  refine va_newq hC.x hC.b hC.ow (hC.ts _ hcl) hF.2.1 hC.K hP hD hS hC.A hm hN hby hk hn hdg (fun q cA H1 hK1 hP1 hD1 hS1 => ?_)
  obtain ⟨_, _, _, _, _, e1⟩ := (hK1.2 6 (cA, .object "IvyHouse$House") rfl).2
  obtain ⟨_, _, _, _, _, e2⟩ := (hC.K.2 4 (xy C 4, .object "IvyHouse$House") rfl).2
  have e : cA = xy C 4 := Option.some.inj (e1.symm.trans e2)
  subst e
  exact kk q H1 locs ls (hσ q ▸ hP1) (hσ q ▸ hD1) hS1 hl0
theorem n_timess (hC : Fx C cc nL own) (hF : FxK C) {N' idx : Nat} {m : Int32} (hcl : Cond.classLink own idx "IvyHouse$Times" ∈ TB) (hm : ¬ m < 0) (hN : m.toNatClampNeg = N') (hby : N' * 4 ≤ 536870912) (hk : k + 1 ≤ (xR C).cells) (hn : n + N' ≤ (xR C).slots) (hdg : decode cc pc = .ok (.anewarray idx, 3)) {σ' : Nat → va_W} (hσ : ∀ q, σ ++ [(q, .inl (xy C 5, N', .inr (.inr (.inr (.inr (fun _ => none))))))] = σ' q) (kk : ∀ q : Nat, G C (k + 1) (n + N') nL (σ' q) (pc + 3) lv (.ref q :: st)) : G C k n nL σ pc lv (.int m :: st) := fun H locs ls hP hD hS hl0 => by
  refine va_newq hC.x hC.b hC.ow (hC.ts _ hcl) hF.2.2 hC.K hP hD hS hC.A hm hN hby hk hn hdg (fun q cA H1 hK1 hP1 hD1 hS1 => ?_)
  obtain ⟨_, _, _, _, _, e1⟩ := (hK1.2 6 (cA, .object "IvyHouse$Times") rfl).2
  obtain ⟨_, _, _, _, _, e2⟩ := (hC.K.2 5 (xy C 5, .object "IvyHouse$Times") rfl).2
  have e : cA = xy C 5 := Option.some.inj (e1.symm.trans e2)
  subst e
  exact kk q H1 locs ls (hσ q ▸ hP1) (hσ q ▸ hD1) hS1 hl0
theorem r_put (hC : Fx C cc nL own) {o ci N idx : Nat} {fs : List Value} {Cn : String} {T : u_T} {ty0 : Nat → FieldType} {σ' : va_W} (q0 : Nat) (he : σ[q0]? = some (o, .inr (ci, fs))) (hc : vwCl[ci]? = some (Cn, T, N)) (hin : ∀ w ∈ u_ws Cn T N, w ∈ TB) (hty : ∀ k, k < N → parseFieldDescriptor (T k).2.2.1 = some (ty0 k)) (hnm : ∀ a, a < N → ∀ b, b < N → a ≠ b → (T a).2.1 ≠ (T b).2.1) (kf : Nat) (hk : kf < N) (hfin : (T kf).2.2.2 = false) (hl : Cond.fieldLink own idx (T kf).1 (T kf).2.1 (T kf).2.2.1 ∈ TB) {v : Value} (hn : narrow (ty0 kf) v = v) (hfit : fits (ty0 kf) v = true) (hlen : kf < fs.length) (hσ : σ.set q0 (o, .inr (ci, fs.set kf v)) = σ') (hdg : decode cc pc = .ok (.putfield idx, 3)) (kk : G C k n nL σ' (pc + 3) lv st) : G C k n nL σ pc lv (v :: .ref o :: st) := fun H locs ls hP hD hS hl0 =>
  va_put hC.x hC.b hC.ts hin ty0 hty hnm hC.ow hC.K hP hD hS q0 he hc kf hk (hC.ts _ hl) (fun _ h => h) hfin (hty kf hk) hn hfit hlen hdg (fun H1 locs1 hP1 hD1 hS1 => kk H1 locs1 ls (hσ ▸ hP1) (hσ ▸ hD1) hS1 hl0)
theorem r_putF (hC : Fx C cc nL own) {o ci N idx : Nat} {fs : List Value} {Cn : String} {T : u_T} {ty0 : Nat → FieldType} {σ' : va_W} (q0 : Nat) (he : σ[q0]? = some (o, .inr (ci, fs))) (hc : vwCl[ci]? = some (Cn, T, N)) (hin : ∀ w ∈ u_ws Cn T N, w ∈ TB) (hty : ∀ k, k < N → parseFieldDescriptor (T k).2.2.1 = some (ty0 k)) (hnm : ∀ a, a < N → ∀ b, b < N → a ≠ b → (T a).2.1 ≠ (T b).2.1) (kf : Nat) (hk : kf < N) (hfin : (T kf).2.2.2 = true) (hF : FxK C) (hdecl : (T kf).1 = own) (hl : Cond.fieldLink own idx (T kf).1 (T kf).2.1 (T kf).2.2.1 ∈ TB) {v : Value} (hn : narrow (ty0 kf) v = v) (hfit : fits (ty0 kf) v = true) (hlen : kf < fs.length) (hσ : σ.set q0 (o, .inr (ci, fs.set kf v)) = σ') (hdg : decode cc pc = .ok (.putfield idx, 3)) (kk : G C k n nL σ' (pc + 3) lv st) : G C k n nL σ pc lv (v :: .ref o :: st) := fun H locs ls hP hD hS hl0 =>
  va_putF hC.x hC.b hC.ts hin ty0 hty hnm hC.ow hC.K hP hD hS q0 he hc kf hk (hC.ts _ hl) (fun _ h => h) hfin hF.1 hdecl (hty kf hk) hn hfit hlen hdg (fun H1 locs1 hP1 hD1 hS1 => kk H1 locs1 ls (hσ ▸ hP1) (hσ ▸ hD1) hS1 hl0)
theorem r_get (hC : Fx C cc nL own) {o ci N idx : Nat} {fs : List Value} {Cn : String} {T : u_T} (q0 : Nat) (he : σ[q0]? = some (o, .inr (ci, fs))) (hc : vwCl[ci]? = some (Cn, T, N)) (hin : ∀ w ∈ u_ws Cn T N, w ∈ TB) (kf : Nat) (hk : kf < N) (hl : Cond.fieldLink own idx (T kf).1 (T kf).2.1 (T kf).2.2.1 ∈ TB) {v : Value} (hv : fs[kf]? = some v) (hdg : decode cc pc = .ok (.getfield idx, 3)) (kk : G C k n nL σ (pc + 3) lv (v :: st)) : G C k n nL σ pc lv (.ref o :: st) := fun H locs ls hP hD hS hl0 =>
  va_get hC.x hC.b hC.ts hin hC.ow hC.K hP q0 he hc kf hk (hC.ts _ hl) (fun _ h => h) hv hdg (kk H locs ls hP hD hS hl0)
theorem r_iast (hC : Fx C cc nL own) {σ' : va_W} (q0 : Nat) {a m : Nat} {f : Nat → Int32} {i x : Int32} (ha : σ[q0]? = some (a, .inl (xy C 1, m, .inl f))) (hin : vp_in i m) (hσ : σ.set q0 (a, .inl (xy C 1, m, .inl (upd f i.toNatClampNeg x))) = σ') (hdg : decode cc pc = .ok (.iastore, 1)) (kk : G C k n nL σ' (pc + 1) lv st) : G C k n nL σ pc lv (.int x :: .int i :: .ref a :: st) := fun H locs ls hP hD hS hl0 =>
  va_iast hC.x hC.b hC.K hP hD hS q0 1 ha rfl hin hdg (fun H1 locs1 hP1 hD1 hS1 => kk H1 locs1 ls (hσ ▸ hP1) (hσ ▸ hD1) hS1 hl0)
theorem r_aast (hC : Fx C cc nL own) {σ' : va_W} (q0 t0 qk ci : Nat) {a m v : Nat} {r : vw_C} {vs : List Value} {f : Nat → Option Nat} {i : Int32} (ha : σ[q0]? = some (a, .inl (xy C t0, m, .inr (.inr (.inr (.inr f)))))) (ht : (tysX (xy C))[t0]? = some (xy C t0, .object r.1)) (hv : σ[qk]? = some (v, .inr (ci, vs))) (hc : vwCl[ci]? = some r) (hin : vp_in i m) (hσ : σ.set q0 (a, .inl (xy C t0, m, .inr (.inr (.inr (.inr (va_up f i.toNatClampNeg (some v))))))) = σ') (hdg : decode cc pc = .ok (.aastore, 1)) (kk : G C k n nL σ' (pc + 1) lv st) : G C k n nL σ pc lv (.ref v :: .int i :: .ref a :: st) := fun H locs ls hP hD hS hl0 =>
  va_astq hC.x hC.b hC.K hP hD hS q0 t0 qk ci ha ht hv hc hin hdg (fun H1 locs1 hP1 hD1 hS1 => kk H1 locs1 ls (hσ ▸ hP1) (hσ ▸ hD1) hS1 hl0)
theorem g_callI_k (hC : Fx C cc nL own) (hF : FxK C ∨ AO (xs C)) {S : Type} {wd : S → va_W} {X Y w0 : va_W} {y : MethodName} {cz : ByteArray} {nz h np idx b mc ms : Nat} {As rest : List Value} {post : S → Prop} {σ' : S → va_W} (hσ : σ = X ++ (w0 ++ Y)) (hσ' : ∀ u, X ++ (wd u ++ Y) = σ' u) (ct : CtK (xl C) (xD C) (xy C) (xk C) y cz nz h mc ms (.ref b :: As) w0 wd post) (hy : WyK y cz nz np) (hl : Cond.methodLink own idx y ∈ TB) (hn : As.length = np) (hRm : RmOk (xR C) h nz) (hkn : k + mc ≤ (xR C).cells ∧ n + ms ≤ (xR C).slots) (hst : st = As.reverse ++ .ref b :: rest) (hcat : (rest.map fun v => v.category).sum ≤ 8) (hdg : decode cc pc = .ok (.invokespecial idx, 3))
    (kk : ∀ u : S, post u → G C (k + mc) (n + ms) nL (σ' u) (pc + 3) lv rest) : G C k n nL σ pc lv st := by
  intro H locs ls hP hD hS hl0
  rw [hσ] at hP hD
  obtain ⟨hPc, hDc⟩ := w_in hP hD
  have hFc := w_free hDc hS hC.A
  have hao : AO (xs C) := hF.elim (fun h => h.2) id
  refine va_callv (va_runI (As := As) (rest := rest) hC.fix (ct H.size) (cwI np hC.ts (tb_call hy.1.2.2) rfl rfl rfl (hC.ts _ hy.1.2.1) (hC.ts _ hl) (hC.ts _ hy.1.1) hy.2.1 hy.2.2 hRm) ⟨PcK.blind, fun U hU hW => ⟨g_pre hC hPc hDc hS U hU hW, hao.moved hW.alike⟩⟩ rfl hn hl0.1 hst (lv_room hcat) hdg hkn) hS (fun q _ h => hFc q h) hFc (fun u' t H1 locs1 ht hvm hp hB hz1 hk1 hS1 => ?_)
  obtain ⟨hP1, hD1⟩ := hB
  rw [ht] at hP1
  obtain ⟨hP2, hD2⟩ := w_mid hP hD hk1 hFc hP1 hD1
  exact kk u' hp H1 locs1 ls (hσ' u' ▸ hP2) (hσ' u' ▸ hD2) hS1 hl0
theorem g_callIN_k (hC : Fx C cc nL own) (hF : FxK C ∨ AO (xs C)) {S : Type} {wd : S → va_W} {X Y w0 : va_W} {y : MethodName} {cz : ByteArray} {nz h np idx b mc ms : Nat} {As rest : List Value} {post : S → Prop} {σ' : S → va_W} (hσ : σ = X ++ (w0 ++ Y)) (hσ' : ∀ u, X ++ (wd u ++ Y) = σ' u) (ct : CtK (xl C) (xD C) (xy C) (xk C) y cz nz h mc ms (.ref b :: As) w0 wd post) (hy : WyK y cz nz np) {host : String} (hl : ∀ U : State, NW U → va_Nw (.methodLinkNest own idx y host) U) (hn : As.length = np) (hRm : RmOk (xR C) h nz) (hkn : k + mc ≤ (xR C).cells ∧ n + ms ≤ (xR C).slots) (hst : st = As.reverse ++ .ref b :: rest) (hcat : (rest.map fun v => v.category).sum ≤ 8) (hdg : decode cc pc = .ok (.invokespecial idx, 3))
    (kk : ∀ u : S, post u → G C (k + mc) (n + ms) nL (σ' u) (pc + 3) lv rest) : G C k n nL σ pc lv st := by
  intro H locs ls hP hD hS hl0
  rw [hσ] at hP hD
  obtain ⟨hPc, hDc⟩ := w_in hP hD
  have hFc := w_free hDc hS hC.A
  have hao : AO (xs C) := hF.elim (fun h => h.2) id
  refine va_callv (va_runIN (As := As) (rest := rest) hC.fix (ct H.size) (⟨va_cnB np hC.ts (tb_call hy.1.2.2) rfl rfl rfl (hl _ hC.N) (hC.ts _ hy.1.2.1) hy.2.2 hRm, hy.2.1, hC.ts _ hy.1.1⟩) ⟨PcK.blind, fun U hU hW => ⟨g_pre hC hPc hDc hS U hU hW, hao.moved hW.alike⟩⟩ rfl hn hl0.1 hst (lv_room hcat) hdg hkn) hS (fun q _ h => hFc q h) hFc (fun u' t H1 locs1 ht hvm hp hB hz1 hk1 hS1 => ?_)
  obtain ⟨hP1, hD1⟩ := hB
  rw [ht] at hP1
  obtain ⟨hP2, hD2⟩ := w_mid hP hD hk1 hFc hP1 hD1
  exact kk u' hp H1 locs1 ls (hσ' u' ▸ hP2) (hσ' u' ▸ hD2) hS1 hl0
end KR
theorem wvX0_init : WyK yX0_init cX0_init 1 0 := ⟨⟨(tb_t2 84 rfl rfl), (tb_t1 9 rfl rfl), (tb_t2 85 rfl rfl)⟩, rfl, by decide +kernel, by decide +kernel, by decide +kernel⟩
theorem wvX2_init : WyK yX2_init cX2_init 1 0 := ⟨⟨(tb_t1 111 rfl rfl), (tb_t1 5 rfl rfl), (tb_t1 112 rfl rfl)⟩, rfl, by decide +kernel, by decide +kernel, by decide +kernel⟩
theorem wvX3_init : WyK yX3_init cX3_init 1 0 := ⟨⟨(tb_t2 43 rfl rfl), (tb_t1 8 rfl rfl), (tb_t2 44 rfl rfl)⟩, rfl, by decide +kernel, by decide +kernel, by decide +kernel⟩
theorem wvX4_init : WyK yX4_init cX4_init 2 0 := ⟨⟨(tb_t2 20 rfl rfl), (tb_t1 7 rfl rfl), (tb_t2 21 rfl rfl)⟩, rfl, by decide +kernel, by decide +kernel, by decide +kernel⟩
theorem wvX5_init : WyK yX5_init cX5_init 1 0 := ⟨⟨(tb_t2 115 rfl rfl), (tb_t1 10 rfl rfl), (tb_t2 116 rfl rfl)⟩, rfl, by decide +kernel, by decide +kernel, by decide +kernel⟩
theorem wvX6_init : WyK yX6_init cX6_init 2 1 := ⟨⟨(tb_t1 54 rfl rfl), (tb_t1 3 rfl rfl), (tb_t1 55 rfl rfl)⟩, rfl, by decide +kernel, by decide +kernel, by decide +kernel⟩
theorem wvX7_init : WyK yX7_init cX7_init 1 0 := ⟨⟨(tb_t1 219 rfl rfl), (tb_t1 6 rfl rfl), (tb_t1 220 rfl rfl)⟩, rfl, by decide +kernel, by decide +kernel, by decide +kernel⟩
theorem wvX8_init : WyK yX8_init cX8_init 2 1 := ⟨⟨(tb_t1 60 rfl rfl), (tb_t1 4 rfl rfl), (tb_t1 61 rfl rfl)⟩, rfl, by decide +kernel, by decide +kernel, by decide +kernel⟩
theorem wvX9_init : WyK yX9_init cX9_init 2 0 := ⟨⟨(tb_t1 33 rfl rfl), (tb_t1 2 rfl rfl), (tb_t1 34 rfl rfl)⟩, rfl, by decide +kernel, by decide +kernel, by decide +kernel⟩
theorem wvX11_init : WyK yX11_init cX11_init 1 0 := ⟨⟨(tb_t1 25 rfl rfl), (tb_t1 1 rfl rfl), (tb_t1 26 rfl rfl)⟩, rfl, by decide +kernel, by decide +kernel, by decide +kernel⟩
theorem wvX12_init : WyK yX12_init cX12_init 1 0 := ⟨⟨(tb_t6 45 rfl rfl), (tb_t1 11 rfl rfl), (tb_t6 46 rfl rfl)⟩, rfl, by decide +kernel, by decide +kernel, by decide +kernel⟩
