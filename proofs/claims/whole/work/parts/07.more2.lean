/-! MORE ROWS 2: lengths, words, texts -/
def RY {S : Type} (ty : FieldType) (C : Cx) (cc : ByteArray) (nL : Nat) (wd : S → va_W) (post : Int32 → S → Prop) : Prop := ∀ (pc : Nat) (lv : List (Nat × Value)) (v : Int32) (u : S), decode cc pc = .ok (.ireturn, 1) → narrow ty (.int v) = .int v → post v u → G C 0 0 nL (wd u) pc lv [.int v]
section MT2
variable {S : Type} {l : Launch} {D : va_G} {cy : Nat → ClassId} {kd : Nat → Nat} {y : MethodName} {cc : ByteArray} {nL h : Nat} {av : List Value} {wd : S → va_W} {u : S}
theorem met_y {ty : FieldType} {post : Int32 → S → Prop} (hy : plainName y.cls = true) (hn : (lg_sl av).length ≤ nL) (body : ∀ C : Cx, xl C = l → xD C = D → xy C = cy → xk C = kd → xR C = rm h → Fx C cc nL y.cls → RY ty C cc nL wd post → G C 0 0 nL (wd u) 0 (lv_args 0 av) []) : CtI l D cy kd y cc nL h ty av wd u post := by
  intro sz
  refine Met.ofW (cc := cc) (maxL := nL) (ret := (some ty)) hy rfl ?_
  intro p e s m args below meth c s₁ B hml hv
  obtain ⟨rfl, hsz, hP, hK, hD0, hN, hk⟩ := hv
  have hx := B.exec
  have hb := B.bytes
  have hr := B.returns
  have hts := atoms_spec (ws := .code y cc nL (some ty) :: TB) B.pre
  have hown : s.vm.findClass y.cls = some m.cls := findClass_of_methodNamed B.named
  have hlocks := B.notSynchronized
  subst hsz
  have hD := hD0.self (sz := s.heap.size)
  have hl := lv_entry av (n := nL) hn
  rw [lg_entry_eq]
  exact body (p, l, e, rm h, s, m, av.toArray, below, meth, c, D, cy, kd, va_A (wd u) s.heap.size, _) rfl rfl rfl rfl rfl ⟨hx, hb, hml, hown, fun w hw => hts w (List.mem_cons_of_mem _ hw), hK, fun q hq => Or.inr hq, hN, hk⟩ (fun pc lv v u' hdg hz hp H locs ls hP hD hS hl => W.zret hx hb hr hz (fun t ht hW => ⟨⟨v, u', rfl, hp, by rw [ht]; exact hP, hD⟩, hS.F ht⟩) hS.2.2 hdg hlocks) s.heap [] _ hP hD va_S.rf hl
end MT2
section M2
variable {C : Cx} {cc : ByteArray} {nL : Nat} {own : String} {k n : Nat} {pc : Nat} {lv : List (Nat × Value)} {st : List Value} {F : va_W → va_W} {X Y : va_W} {σ : va_W}
theorem g_alenT {o : Nat} {u : St} (hC : Fx C cc nL own) (hF : ∀ Y, F Y = X ++ Y) (hdg : decode cc pc = .ok (.arraylength, 1)) (kk : G C k n nL (F (wT o (xy C) u Y)) (pc + 1) lv (.int 900 :: st)) : G C k n nL (F (wT o (xy C) u Y)) pc lv (.ref o :: st) := fun H locs ls hP hD hS hl => va_alen hC.x hC.b hC.K hP X.length 0 (hole_get hF _ _) rfl rfl hdg (kk H locs ls hP hD hS hl)
theorem g_gets (hC : Fx C cc nL own) (i : Nat) {idx : Nat} (hi : i < 25) (hl : Cond.fieldLink own idx "IvyHouse$Word" (wNm.getD i "") "LIvyHouse$Word;" ∈ TB) (hdg : decode cc pc = .ok (.getstatic idx, 3)) (kk : G C k n nL σ (pc + 3) lv (.ref (xk C i) :: st)) : G C k n nL σ pc lv st := fun H locs ls hP hD hS hl0 => va_gets hC.x hC.b (hC.kn.1 i hi) hS hC.ow (hC.ts _ hl) (fun _ h => h) hdg (kk H locs ls hP hD hS hl0)
theorem g_getAll (hC : Fx C cc nL own) {idx : Nat} (hl : Cond.fieldLink own idx "IvyHouse$Word" "ALL" "[LIvyHouse$Word;" ∈ TB) (hdg : decode cc pc = .ok (.getstatic idx, 3)) (kk : G C k n nL σ (pc + 3) lv (.ref (xk C 25) :: st)) : G C k n nL σ pc lv st := fun H locs ls hP hD hS hl0 => va_gets hC.x hC.b hC.kn.2.2.1 hS hC.ow (hC.ts _ hl) (fun _ h => h) hdg (kk H locs ls hP hD hS hl0)
theorem g_allLen (hC : Fx C cc nL own) (hdg : decode cc pc = .ok (.arraylength, 1)) (kk : G C k n nL σ (pc + 1) lv (.int 25 :: st)) : G C k n nL σ pc lv (.ref (xk C 25) :: st) := fun H locs ls hP hD hS hl0 => va_tlen hC.x hC.b hC.kn.2.2.2.1 hS (by decide) hdg (kk H locs ls hP hD hS hl0)
theorem g_allLd (hC : Fx C cc nL own) {i : Int32} (hin : vp_in i 25) (hdg : decode cc pc = .ok (.aaload, 1)) (kk : G C k n nL σ (pc + 1) lv (.ref (xk C i.toNatClampNeg) :: st)) : G C k n nL σ pc lv (.int i :: .ref (xk C 25) :: st) := fun H locs ls hP hD hS hl0 => vb_tq hC.x hC.b hC.kn.2.2.2.1 hS hin rfl hdg (kk H locs ls hP hD hS hl0)
theorem kn_str (hC : Fx C cc nL own) : va_OF "java/lang/String" "coder" "B" (.int 0) (xk C 26) (xA C) (xs C) (xH C) ∧ va_OF "java/lang/String" "value" "[B" (.ref (xk C 27)) (xk C 26) (xA C) (xs C) (xH C) ∧ va_T .byte (xk C 27) 133 (fun j => .int (kBy.getD j 0)) (xA C) (xs C) (xH C) := (hC.kn.2.2.2.2.2.1.1 0 (Nat.le_refl 1)).2
theorem g_strv (hC : Fx C cc nL own) {idx : Nat} (hl : Cond.fieldLink own idx "java/lang/String" "value" "[B" ∈ TB) (hdg : decode cc pc = .ok (.getfield idx, 3)) (kk : G C k n nL σ (pc + 3) lv (.ref (xk C 27) :: st)) : G C k n nL σ pc lv (.ref (xk C 26) :: st) := fun H locs ls hP hD hS hl0 => vk_getf hC.x hC.b (kn_str hC).2.1 hS hC.ow (hC.ts _ hl) (fun _ h => h) hdg (kk H locs ls hP hD hS hl0)
theorem g_strc (hC : Fx C cc nL own) {idx : Nat} (hl : Cond.fieldLink own idx "java/lang/String" "coder" "B" ∈ TB) (hdg : decode cc pc = .ok (.getfield idx, 3)) (kk : G C k n nL σ (pc + 3) lv (.int 0 :: st)) : G C k n nL σ pc lv (.ref (xk C 26) :: st) := fun H locs ls hP hD hS hl0 => vk_getf hC.x hC.b (kn_str hC).1 hS hC.ow (hC.ts _ hl) (fun _ h => h) hdg (kk H locs ls hP hD hS hl0)
theorem g_strl (hC : Fx C cc nL own) (hdg : decode cc pc = .ok (.arraylength, 1)) (kk : G C k n nL σ (pc + 1) lv (.int 133 :: st)) : G C k n nL σ pc lv (.ref (xk C 27) :: st) := fun H locs ls hP hD hS hl0 => va_tlen hC.x hC.b (kn_str hC).2.2 hS (by decide) hdg (kk H locs ls hP hD hS hl0)
theorem g_strb (hC : Fx C cc nL own) {i : Int32} (hin : vp_in i 133) (hdg : decode cc pc = .ok (.baload, 1)) (kk : G C k n nL σ (pc + 1) lv (.int (kBy.getD i.toNatClampNeg 0) :: st)) : G C k n nL σ pc lv (.int i :: .ref (xk C 27) :: st) := fun H locs ls hP hD hS hl0 => va_tb hC.x hC.b (kn_str hC).2.2 hS hin rfl hdg (kk H locs ls hP hD hS hl0)
theorem g_cs (hC : Fx C cc nL own) {idx : Nat} (hl : Cond.fieldLink own idx "java/lang/String" "COMPACT_STRINGS" "Z" ∈ TB) (hdg : decode cc pc = .ok (.getstatic idx, 3)) (kk : G C k n nL σ (pc + 3) lv (.int 1 :: st)) : G C k n nL σ pc lv st := fun H locs ls hP hD hS hl0 => va_gets hC.x hC.b hC.kn.2.2.2.2.2.2.1 hS hC.ow (hC.ts _ hl) (fun _ h => h) hdg (kk H locs ls hP hD hS hl0)
theorem g_fmt (hC : Fx C cc nL own) {idx : Nat} (hl : Cond.fieldLink own idx "jdk/internal/util/Preconditions" "SIOOBE_FORMATTER" "Ljava/util/function/BiFunction;" ∈ TB) (hdg : decode cc pc = .ok (.getstatic idx, 3)) (kk : ∀ v : Value, v.category = 1 → G C k n nL σ (pc + 3) lv (v :: st)) : G C k n nL σ pc lv st := fun H locs ls hP hD hS hl0 => by
  rcases hC.kn.2.2.2.2.2.2.2 with h | ⟨t, h⟩
  · exact va_gets hC.x hC.b h hS hC.ow (hC.ts _ hl) (fun _ h => h) hdg (kk _ rfl H locs ls hP hD hS hl0)
  · exact va_gets hC.x hC.b h hS hC.ow (hC.ts _ hl) (fun _ h => h) hdg (kk _ rfl H locs ls hP hD hS hl0)
end M2
section CALT
variable {C : Cx} {cc : ByteArray} {nL : Nat} {own : String} {k n : Nat} {pc : Nat} {lv : List (Nat × Value)} {st : List Value}
variable {S : Type} {wd : S → va_W → va_W} {F : va_W → va_W} {X Y : va_W} {u : S} {y : MethodName} {cz : ByteArray} {nz h np idx : Nat} {As rest : List Value}
theorem g_callT_i (hC : Fx C cc nL own) (hw : ∀ u Y, wd u Y = wd u [] ++ Y) (hF : ∀ Y, F Y = X ++ Y) {post : Int32 → S → Prop} {rt : FieldType} (ct : CtI (xl C) (xD C) (xy C) (xk C) y cz nz h rt (.ref (xk C 26) :: As) (fun u => wd u []) u post) (hy : WyV y cz nz (some rt) np) (hl : Cond.methodLink own idx y ∈ TB) (hyc : y.cls = "java/lang/String") (hn : As.length = np) (hRm : RmOk (xR C) h nz) (hkn : k ≤ (xR C).cells ∧ n ≤ (xR C).slots) (hst : st = As.reverse ++ .ref (xk C 26) :: rest) (hcat : (rest.map fun v => v.category).sum ≤ 8) (hdg : decode cc pc = .ok (.invokevirtual idx, 3))
    (kk : ∀ (r : Int32) (u' : S), post r u' → G C k n nL (F (wd u' Y)) (pc + 3) lv (.int r :: rest)) : G C k n nL (F (wd u Y)) pc lv st := by
  intro H locs ls hP hD hS hl0
  rw [hF, hw] at hP hD
  obtain ⟨hPc, hDc⟩ := w_in hP hD
  have hFc := w_free hDc hS hC.A
  refine va_calli (va_runV (As := As) (rest := rest) hC.fix (ct H.size) (cwV np hC.ts (tb_V hl hy) rfl rfl rfl ⟨rfl, hy.2⟩ hRm) ⟨PcX.blind, by rw [hyc]; exact vk_recv (i := 0) (adK := fun _ => xk C 26) hC.kn.2.2.2.2.2.1 (Nat.le_refl 1) hS, g_pre hC hPc hDc hS⟩ rfl hn hl0.1 hst (lv_room hcat) hdg hkn) hS (fun q _ h => hFc q h) hFc (fun r u' t H1 locs1 ht hvm hp hB hz1 hk1 hS1 => ?_)
  obtain ⟨hP1, hD1⟩ := hB
  rw [ht] at hP1
  obtain ⟨hP2, hD2⟩ := w_mid hP hD hk1 hFc hP1 hD1
  exact kk r u' hp H1 locs1 ls (by rw [hF, hw]; exact hP2) (by rw [hF, hw]; exact hD2) hS1 hl0
end CALT
theorem rmokO {C : Cx} {hh h nz : Nat} (e : xR C = rm hh) (q1 : h + 1 ≤ hh) (q2 : nz ≤ 21) : RmOk (xR C) h nz := by
  rw [e]
  exact ⟨q1, by show 8 + (nz + 11) + 40 * h ≤ 40 * hh; omega⟩
