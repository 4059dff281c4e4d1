/-! MORE ROWS: Math, arraycopy, groups change places, switches, constants -/
def cpOk (sp dp n : Int32) (n0 n1 : Nat) : Prop := ¬ sp < 0 ∧ ¬ dp < 0 ∧ ¬ n < 0 ∧ sp.toNatClampNeg + n.toNatClampNeg ≤ n0 ∧ dp.toNatClampNeg + n.toNatClampNeg ≤ n1
def tabN (x : Int32) : Int → Nat → Prop
  | _, 0 => True
  | lo, n + 1 => ¬ x.toInt = lo ∧ tabN x (lo + 1) n
theorem tab_0 {x : Int32} {lo : Int} : tabN x lo 0 := trivial
theorem tab_s {x c : Int32} {lo : Int} {n : Nat} (e : ¬ x = c) (h : tabN x (lo + 1) n) (hc : c.toInt = lo := by decide) : tabN x lo (n + 1) := ⟨lv_neT e hc, h⟩
theorem tab_out' {x : Int32} : ∀ (n : Nat) (lo : Int), tabN x lo n → x.toInt < lo ∨ lo + n ≤ x.toInt
  | 0, lo, _ => by omega
  | n + 1, lo, h => by
    have h1 := h.1
    have h2 := tab_out' n (lo + 1) h.2
    omega
theorem tab_out (x : Int32) (lo : Int) (n : Nat) (hi : Int) (e : lo + n - 1 = hi) (h : tabN x lo n) : x.toInt < lo ∨ hi < x.toInt := by
  have := tab_out' n lo h
  omega
theorem cp_nat : Cond.native arraycopyName ∈ TB := (tb_t3 16 (by decide +kernel) (by decide +kernel))
theorem cp_sta : Cond.static arraycopyName ∈ TB := (tb_t3 15 (by decide +kernel) (by decide +kernel))
theorem cp_ini : Cond.initialized "java/lang/System" ∈ TB := (tb_t1 12 (by decide +kernel) (by decide +kernel))
theorem cp_room : nativeFrameWords "java/lang/System" "arraycopy" 5 + 11 ≤ 32 := by decide +kernel
section MR
variable {C : Cx} {cc : ByteArray} {nL : Nat} {own : String} {k n : Nat} {pc : Nat} {lv : List (Nat × Value)} {st : List Value} {F : va_W → va_W} {X Y : va_W}
theorem g_mmin (hC : Fx C cc nL own) {hh : Nat} (hR0 : xR C = rm hh) {idx : Nat} {x y : Int32} (hl : Cond.methodLink own idx Lib.Math.min.name ∈ TB) (hdg : decode cc pc = .ok (.invokestatic idx, 3)) {σ : va_W} (hs : (st.map fun v => v.category).sum ≤ 8) (kk : G C 0 0 nL σ (pc + 3) lv (.int (if y < x then y else x) :: st)) (q : Nat.ble 1 hh = true := by rfl) : G C 0 0 nL σ pc lv (.int y :: .int x :: st) := fun H locs ls hP hD hS hl0 =>
  va_mmin hC.x hC.b (by rw [hC.ml, hl0.1]) hC.ow (hC.ts _ hl) (hC.ts _ wvJ9_min_7cf53.1.1) (hC.ts _ wvJ9_min_7cf53.1.2.1) (hC.ts _ wvJ9_min_7cf53.1.2.2) (by rw [hR0]; exact Nat.le_of_ble_eq_true q) (by rw [hR0]; have := Nat.le_of_ble_eq_true q; show _ ≤ 40 * hh; omega) (Nat.zero_le _) (Nat.zero_le _) hdg (kk H locs ls hP hD hS hl0)
theorem g_mmax (hC : Fx C cc nL own) {hh : Nat} (hR0 : xR C = rm hh) {idx : Nat} {x y : Int32} (hl : Cond.methodLink own idx Lib.Math.max.name ∈ TB) (hdg : decode cc pc = .ok (.invokestatic idx, 3)) {σ : va_W} (hs : (st.map fun v => v.category).sum ≤ 8) (kk : G C 0 0 nL σ (pc + 3) lv (.int (if x < y then y else x) :: st)) (q : Nat.ble 1 hh = true := by rfl) : G C 0 0 nL σ pc lv (.int y :: .int x :: st) := fun H locs ls hP hD hS hl0 =>
  va_mmax hC.x hC.b (by rw [hC.ml, hl0.1]) hC.ow (hC.ts _ hl) (hC.ts _ wvJ9_max_7cf53.1.1) (hC.ts _ wvJ9_max_7cf53.1.2.1) (hC.ts _ wvJ9_max_7cf53.1.2.2) (by rw [hR0]; exact Nat.le_of_ble_eq_true q) (by rw [hR0]; have := Nat.le_of_ble_eq_true q; show _ ≤ 40 * hh; omega) (Nat.zero_le _) (Nat.zero_le _) hdg (kk H locs ls hP hD hS hl0)
theorem g_ldcw {σ : va_W} (hC : Fx C cc nL own) {index : Nat} {v : Int32} (hw : Cond.constant own index v ∈ TB) (hdg : decode cc pc = .ok (.ldc_w index, 3)) (kk : G C k n nL σ (pc + 3) lv (.int v :: st)) : G C k n nL σ pc lv st := fun H locs ls hP hD hS hl => lv_ldcw hC.x hC.b hC.ow (hC.ts _ hw) hdg (kk H locs ls hP hD hS hl)
theorem g_st {w : St → va_W} {u : St} (kk : ∀ v, v = u → G C k n nL (w v) pc lv st) : G C k n nL (w u) pc lv st := kk u rfl
theorem g_swap {f g : va_W → va_W} (hF : ∀ Y, F Y = X ++ Y) (hf : ∀ Y, f Y = f [] ++ Y) (hg : ∀ Y, g Y = g [] ++ Y) (kk : G C k n nL (F (g (f Y))) pc lv st) : G C k n nL (F (f (g Y))) pc lv st := fun H locs ls hP hD hS hl0 => by
  rw [hF, hf, hg] at hP hD
  refine kk H locs ls ?_ ?_ hS hl0
  · rw [hF, hg, hf]
    rw [vaP_iff] at *
    simp only [List.mem_append] at *
    intro q hq
    rcases hq with h | h | h | h
    · exact hP q (Or.inl h)
    · exact hP q (Or.inr (Or.inr (Or.inl h)))
    · exact hP q (Or.inr (Or.inl h))
    · exact hP q (Or.inr (Or.inr (Or.inr h)))
  · rw [hF, hg, hf]
    rw [vaD_iff] at *
    refine ⟨?_, fun q hq => hD.2 q ?_⟩
    · have h1 := hD.1
      simp only [List.map_append] at *
      refine (List.Perm.nodup_iff ?_).mp h1
      refine List.Perm.append_left _ ?_
      rw [← List.append_assoc, ← List.append_assoc]
      exact List.Perm.append_right _ List.perm_append_comm
    · simp only [List.mem_append] at *
      rcases hq with h | h | h | h
      · exact Or.inl h
      · exact Or.inr (Or.inr (Or.inl h))
      · exact Or.inr (Or.inl h)
      · exact Or.inr (Or.inr (Or.inr h))
theorem g_copyi (hC : Fx C cc nL own) {hh : Nat} (hR0 : xR C = rm hh) {idx : Nat} (hl : Cond.methodLink own idx arraycopyName ∈ TB) {σ σ' : va_W} (q0 q1 : Nat) {a a0 n0 n1 : Nat} {f g : Nat → Int32} {sp dp m : Int32} (ha0 : σ[q0]? = some (a0, .inl (xy C 1, n0, .inl f))) (ha1 : σ[q1]? = some (a, .inl (xy C 1, n1, .inl g))) (hσ : σ.set q1 (a, .inl (xy C 1, n1, .inl (va_cpy f g sp.toNatClampNeg dp.toNatClampNeg m.toNatClampNeg))) = σ') (hok : cpOk sp dp m n0 n1) (hdg : decode cc pc = .ok (.invokestatic idx, 3)) (hs : (st.map fun v => v.category).sum ≤ 8)
    (kk : G C 0 0 nL σ' (pc + 3) lv st) (q : Nat.ble 1 hh = true := by rfl) : G C 0 0 nL σ pc lv (.int m :: .int dp :: .ref a :: .int sp :: .ref a0 :: st) := fun H locs ls hP hD hS hl0 =>
  va_copyi hC.x hC.b (by rw [hC.ml, hl0.1]) hC.ow (hC.ts _ hl) (hC.ts _ cp_nat) (hC.ts _ cp_sta) (hC.ts _ cp_ini) hC.K hP hD hS q0 q1 1 1 ha0 ha1 rfl rfl rfl hok.1 hok.2.1 hok.2.2.1 hok.2.2.2.1 hok.2.2.2.2 (fun _ _ => rfl) (by rw [hR0]; exact Nat.le_of_ble_eq_true q) (by rw [hR0]; have := Nat.le_of_ble_eq_true q; have e := cp_room; show _ ≤ 40 * hh; omega) hdg (fun H1 locs1 hP1 hD1 hS1 => kk H1 locs1 ls (hσ ▸ hP1) (hσ ▸ hD1) hS1 hl0)
theorem g_copyl (hC : Fx C cc nL own) {hh : Nat} (hR0 : xR C = rm hh) {idx : Nat} (hl : Cond.methodLink own idx arraycopyName ∈ TB) {σ σ' : va_W} (q0 q1 : Nat) {a a0 n0 n1 : Nat} {f g : Nat → Int64} {sp dp m : Int32} (ha0 : σ[q0]? = some (a0, .inl (xy C 2, n0, .inr (.inl f)))) (ha1 : σ[q1]? = some (a, .inl (xy C 2, n1, .inr (.inl g)))) (hσ : σ.set q1 (a, .inl (xy C 2, n1, .inr (.inl (va_cpy f g sp.toNatClampNeg dp.toNatClampNeg m.toNatClampNeg)))) = σ') (hok : cpOk sp dp m n0 n1) (hdg : decode cc pc = .ok (.invokestatic idx, 3)) (hs : (st.map fun v => v.category).sum ≤ 8)
    (kk : G C 0 0 nL σ' (pc + 3) lv st) (q : Nat.ble 1 hh = true := by rfl) : G C 0 0 nL σ pc lv (.int m :: .int dp :: .ref a :: .int sp :: .ref a0 :: st) := fun H locs ls hP hD hS hl0 =>
  va_copyl hC.x hC.b (by rw [hC.ml, hl0.1]) hC.ow (hC.ts _ hl) (hC.ts _ cp_nat) (hC.ts _ cp_sta) (hC.ts _ cp_ini) hC.K hP hD hS q0 q1 2 2 ha0 ha1 rfl rfl rfl hok.1 hok.2.1 hok.2.2.1 hok.2.2.2.1 hok.2.2.2.2 (fun _ _ => rfl) (by rw [hR0]; exact Nat.le_of_ble_eq_true q) (by rw [hR0]; have := Nat.le_of_ble_eq_true q; have e := cp_room; show _ ≤ 40 * hh; omega) hdg (fun H1 locs1 hP1 hD1 hS1 => kk H1 locs1 ls (hσ ▸ hP1) (hσ ▸ hD1) hS1 hl0)
theorem g_ldcS {σ : va_W} (hC : Fx C cc nL RX12) (hdg : decode cc pc = .ok (.ldc 181, 2)) (kk : G C k n nL σ (pc + 2) lv (.ref (xk C 26) :: st)) : G C k n nL σ pc lv st := fun H locs ls hP hD hS hl0 =>
  va_ldcS hC.x hC.b hC.ow hC.kn.2.2.2.2.1 hdg (kk H locs ls hP hD hS hl0)
theorem g_wcode {σ : va_W} (hC : Fx C cc nL own) {idx i : Nat} (hl : Cond.fieldLink own idx "IvyHouse$Word" "code" "J" ∈ TB) (hi : i < 25) (hdg : decode cc pc = .ok (.getfield idx, 3)) (kk : G C k n nL σ (pc + 3) lv (.long (wCd.getD i 0) :: st)) : G C k n nL σ pc lv (.ref (xk C i) :: st) := fun H locs ls hP hD hS hl0 =>
  va_getX hC.x hC.b hC.kn.2.1 hi hS hC.ow (hC.ts _ hl) (fun _ h => h) hdg (kk H locs ls hP hD hS hl0)
end MR
