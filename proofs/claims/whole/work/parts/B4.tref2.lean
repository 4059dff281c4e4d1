/-! STEPS 49: the reference reads a step; all the times -/
def RTs (A : Nat → Int32) (E : Ex) (S : TS) : Prop := A 1831 = nI S.2.1 ∧ E.2.1 = nI S.2.2.2.1 ∧ E.2.2.1 = nI S.2.2.1 ∧ (∀ e, e < S.2.2.2.1 → E.2.2.2 e = nI (S.2.2.2.2 e)) ∧ ∀ i, i < S.2.1 → (∃ k1, kR (S.1 0 i) k1 ∧ A (1912 + 6 * i) = nI k1) ∧ A (1913 + 6 * i) = nI (S.1 1 i) ∧ A (1914 + 6 * i) = nI (S.1 2 i) ∧ A (1917 + 6 * i) = nI (S.1 3 i) ∧ (S.1 0 i = 7 ∨ (9 ≤ S.1 0 i ∧ S.1 0 i ≤ 13) → ¬ opE S.2.2.2.1 S.2.2.2.2 i → A (1916 + 6 * i) = nI (S.1 4 i))
theorem rt_add {A A' : Nat → Int32} {E E' : Ex} {S : TS} {g : Bool} {k k1 a b c : Nat} (h : RTs A E S) (hr : rowA A A' S.2.1 k1 a b c) (hk : kR k k1) (hg : g = false → k ≤ 6) (e1 : E'.2.1 = nI (if g then S.2.2.2.1 + 1 else S.2.2.2.1)) (e2 : E'.2.2.1 = nI (S.2.2.1 + 1)) (e3 : ∀ e, e < (if g then S.2.2.2.1 + 1 else S.2.2.2.1) → E'.2.2.2 e = nI ((if g then upN S.2.2.2.2 S.2.2.2.1 S.2.1 else S.2.2.2.2) e)) : RTs A' E' (tsA S g k a b c) := by
  obtain ⟨N, n, s, d, O⟩ := S
  obtain ⟨h1, h2, h3, h4, h5⟩ := h
  obtain ⟨r1, r2, r3, r4, r5, r6⟩ := hr
  simp only at h1 h2 h3 h4 h5 r1 r2 r3 r4 r5 r6 e1 e2 e3
  refine ⟨r1, e1, e2, e3, fun i hi => ?_⟩
  replace hi : i < n + 1 := hi
  show (∃ k1, kR (adR N n k a b c 0 i) k1 ∧ A' (1912 + 6 * i) = nI k1) ∧ A' (1913 + 6 * i) = nI (adR N n k a b c 1 i) ∧ A' (1914 + 6 * i) = nI (adR N n k a b c 2 i) ∧ A' (1917 + 6 * i) = nI (adR N n k a b c 3 i) ∧ (adR N n k a b c 0 i = 7 ∨ (9 ≤ adR N n k a b c 0 i ∧ adR N n k a b c 0 i ≤ 13) → ¬ opE (if g then d + 1 else d) (if g then upN O d n else O) i → A' (1916 + 6 * i) = nI (adR N n k a b c 4 i))
  by_cases e : i = n
  · subst e
    rw [adR_0, adR_1, adR_2, adR_3]
    refine ⟨⟨k1, hk, r3⟩, r4, r5, r6, fun q q2 => ?_⟩
    cases g with
    | false =>
      have := hg rfl
      omega
    | true => exact absurd ⟨d, Nat.lt_succ_self _, if_pos rfl⟩ q2
  · rw [adR_ne (Or.inl e), adR_ne (Or.inl e), adR_ne (Or.inl e), adR_ne (Or.inl e), adR_ne (Or.inl e), r2 _ (by omega) (by omega), r2 _ (by omega) (by omega), r2 _ (by omega) (by omega), r2 _ (by omega) (by omega), r2 _ (by omega) (by omega)]
    obtain ⟨q1, q2, q3, q4, q5⟩ := h5 i (by omega)
    refine ⟨q1, q2, q3, q4, fun z z2 => q5 z (fun ⟨f, hf, y⟩ => z2 ?_)⟩
    cases g with
    | false => exact ⟨f, hf, y⟩
    | true =>
      refine ⟨f, Nat.lt_succ_of_lt hf, ?_⟩
      show upN O d n f = i
      unfold upN
      rw [if_neg (by omega)]
      exact y
theorem rt_end {M : MH} {A A' : Nat → Int32} {E E' : Ex} {S : TS} {d : Nat} (h : RTs A E S) (hI : iT M S) (hd : S.2.2.2.1 = d + 1) (hr : rowA A A' S.2.1 21 0 0 0) (e1 : E'.2.1 = nI d) (e2 : E'.2.2.1 = nI S.2.2.1) (e3 : ∀ e, e < d → E'.2.2.2 e = nI (S.2.2.2.2 e)) : RTs (upd (upd A' (1916 + 6 * S.2.1) (nI (S.2.2.2.2 d))) (1916 + 6 * S.2.2.2.2 d) (nI S.2.1)) E' (tsE S) := by
  have l60 := it_60 hI
  obtain ⟨N, n, s, d2, O⟩ := S
  simp only at hd
  subst hd
  have hop := hI.2.2.2.2.1 d (Nat.lt_succ_self _)
  obtain ⟨h1, h2, h3, h4, h5⟩ := h
  obtain ⟨r1, r2, r3, r4, r5, r6⟩ := hr
  simp only at h1 h2 h3 h4 h5 r1 r2 r3 r4 r5 r6 e1 e2 e3 hop l60 ⊢
  have ln := l60.2.2 (by omega)
  have U : ∀ j, j ≠ 1916 + 6 * n → j ≠ 1916 + 6 * O d → upd (upd A' (1916 + 6 * n) (nI (O d))) (1916 + 6 * O d) (nI n) j = A' j := fun j j1 j2 => by rw [upd_at, if_neg j2, upd_at, if_neg j1]
  show RTs (upd (upd A' (1916 + 6 * n) (nI (O d))) (1916 + 6 * O d) (nI n)) E' (mp (mp (adR N n 13 0 0 0) 4 n (O d)) 4 (O d) n, n + 1, s, d, O)
  refine ⟨by rw [U _ (by omega) (by omega)]; exact r1, e1, e2, e3, fun i hi => ?_⟩
  replace hi : i < n + 1 := hi
  show (∃ k1, kR (mp (mp (adR N n 13 0 0 0) 4 n (O d)) 4 (O d) n 0 i) k1 ∧ upd (upd A' (1916 + 6 * n) (nI (O d))) (1916 + 6 * O d) (nI n) (1912 + 6 * i) = nI k1) ∧ upd (upd A' (1916 + 6 * n) (nI (O d))) (1916 + 6 * O d) (nI n) (1913 + 6 * i) = nI (mp (mp (adR N n 13 0 0 0) 4 n (O d)) 4 (O d) n 1 i) ∧ upd (upd A' (1916 + 6 * n) (nI (O d))) (1916 + 6 * O d) (nI n) (1914 + 6 * i) = nI (mp (mp (adR N n 13 0 0 0) 4 n (O d)) 4 (O d) n 2 i) ∧ upd (upd A' (1916 + 6 * n) (nI (O d))) (1916 + 6 * O d) (nI n) (1917 + 6 * i) = nI (mp (mp (adR N n 13 0 0 0) 4 n (O d)) 4 (O d) n 3 i) ∧ (mp (mp (adR N n 13 0 0 0) 4 n (O d)) 4 (O d) n 0 i = 7 ∨ (9 ≤ mp (mp (adR N n 13 0 0 0) 4 n (O d)) 4 (O d) n 0 i ∧ mp (mp (adR N n 13 0 0 0) 4 n (O d)) 4 (O d) n 0 i ≤ 13) → ¬ opE d O i → upd (upd A' (1916 + 6 * n) (nI (O d))) (1916 + 6 * O d) (nI n) (1916 + 6 * i) = nI (mp (mp (adR N n 13 0 0 0) 4 n (O d)) 4 (O d) n 4 i))
  rw [U (1912 + 6 * i) (by omega) (by omega), U (1913 + 6 * i) (by omega) (by omega), U (1914 + 6 * i) (by omega) (by omega), U (1917 + 6 * i) (by omega) (by omega), mp_ne (a := 0) (by omega), mp_ne (a := 0) (by omega), mp_ne (a := 1) (by omega), mp_ne (a := 1) (by omega), mp_ne (a := 2) (by omega), mp_ne (a := 2) (by omega), mp_ne (a := 3) (by omega), mp_ne (a := 3) (by omega)]
  by_cases e : i = n
  · subst e
    rw [adR_0, adR_1, adR_2, adR_3]
    refine ⟨⟨21, by unfold kR; omega, r3⟩, r4, r5, r6, fun _ _ => ?_⟩
    rw [upd_at, if_neg (by omega), upd_at, if_pos rfl, mp_ne (by omega), mp_eq]
  · rw [adR_ne (Or.inl e), adR_ne (Or.inl e), adR_ne (Or.inl e), adR_ne (Or.inl e), r2 _ (by omega) (by omega), r2 _ (by omega) (by omega), r2 _ (by omega) (by omega), r2 _ (by omega) (by omega)]
    obtain ⟨q1, q2, q3, q4, q5⟩ := h5 i (by omega)
    refine ⟨q1, q2, q3, q4, fun z z2 => ?_⟩
    by_cases f : i = O d
    · subst f
      rw [upd_at, if_pos rfl, mp_eq]
    · rw [U _ (by omega) (by omega), r2 _ (by omega) (by omega), mp_ne (by omega), mp_ne (by omega), adR_ne (Or.inl e)]
      refine q5 z (fun ⟨x, hx, y⟩ => z2 ⟨x, ?_, y⟩)
      have : x ≠ d := fun q => f (by rw [← y, q])
      omega
theorem zr_loop {u0 : St} {T : Nat → Nat} {n m nn : Nat} {w x4 : Int32} {t : Tk} {E : Ex} {B : Nat → Int32} {NM : Nat → Int64} {post : Int32 → St → Prop} (hn : nn < 60) (fin : ∀ u A, mS u0 T n m t E A NM u → (∀ j, A j = if 1913 + 6 * nn ≤ j ∧ j < 1912 + 6 * nn + 6 then 0 else B j) → qX12_timeStep_b170 post w (nI nn) (nI (1912 + 6 * nn)) x4 u) : ∀ (k i : Nat) (A : Nat → Int32) (u : St), i + k = 6 → 1 ≤ i → mS u0 T n m t E A NM u → (∀ j, A j = if 1913 + 6 * nn ≤ j ∧ j < 1912 + 6 * nn + i then 0 else B j) → qX12_timeStep_L147 post (k + 1) w (nI nn) (nI (1912 + 6 * nn)) x4 (nI i) u := by
  intro k
  induction k with
  | zero =>
    intro i A u hi h1 h hA
    have : i = 6 := by omega
    subst this
    exact ⟨fun _ => fin u A h hA, fun c => absurd (by decide) c⟩
  | succ k ih =>
    intro i A u hi h1 h hA
    refine ⟨fun c => absurd c (nI_ge (b := 6) (by omega) (by omega)), fun _ => ?_⟩
    rw [nI_add, nI_clamp (by omega)]
    refine ⟨vp_in_nI (by omega) (by omega), fun u1 e1 x ex => ?_⟩
    rw [nI_1] at ex
    subst ex
    have h2 := h.sw (j := 1912 + 6 * nn + i) 0 (by omega) (by omega)
    rw [← e1] at h2
    refine ih (i + 1) _ u1 (by omega) (by omega) h2 (fun j => ?_)
    rw [upd_at, hA]
    by_cases c : j = 1912 + 6 * nn + i
    · rw [if_pos c, if_pos (by omega)]
    · rw [if_neg c]
      by_cases c2 : 1913 + 6 * nn ≤ j ∧ j < 1912 + 6 * nn + i
      · rw [if_pos c2, if_pos (by omega)]
      · rw [if_neg c2, if_neg (by omega)]
/-- a new row is begun -/
theorem d_row {u0 : St} {T : Nat → Nat} {n m nn w : Nat} {x4 s0 s1 : Int32} {t : Tk} {E : Ex} {A : Nat → Int32} {NM : Nat → Int64} {u : St} {post : Int32 → St → Prop} (h : mS u0 T n m t E A NM u) (h00 : t.1 ≠ 0) (hA : A 1831 = nI nn) (hn : nn < 60) (fin : ∀ u' A', mS u0 T n (m + 1) (nxT T n t) (E.1, E.2.1, s1 + s0, E.2.2.2) A' NM u' → rowA A A' nn w 0 0 0 → qX12_timeOrder (nI w) (nI (1912 + 6 * nn)) u' (fun r_45 u_44 => ((¬ r_45 = 0 → ((x4 = 0 → qX12_timeStep_b222 post (nI w) (nI nn) (nI (1912 + 6 * nn)) u_44) ∧ (¬ x4 = 0 → (vp_in (gi u_44 22) 3 ∧ ∀ u_49 : St, u_49 = (sw u_44 21 (upd (ga u_44 21) ((gi u_44 22)).toNatClampNeg (nI nn))) → ∀ u_50 : St, u_50 = (si u_49 22 ((gi u_49 22) + (1 : Int32))) → qX12_timeStep_b222 post (nI w) (nI nn) (nI (1912 + 6 * nn)) u_50)))) ∧ (r_45 = 0 → post (0 : Int32) u_44)))) : qX12_timeStep_b133 post (nI w) (nI nn) (nI (1912 + 6 * nn)) x4 s0 s1 u := by
  intro u1 e1
  have h := h.x23 (s1 + s0)
  rw [← e1] at h
  refine ⟨vp_in_nI (by omega) (by omega), fun u2 e2 => ⟨6, ?_⟩⟩
  rw [nI_clamp (by omega)] at e2
  have h := h.sw (j := 1912 + 6 * nn) (nI w) (by omega) (by omega)
  rw [← e2] at h
  refine zr_loop (B := upd A (1912 + 6 * nn) (nI w)) hn (fun u3 A3 h3 hA3 => ?_) 5 1 _ u2 (by omega) (by omega) h (fun j => by rw [if_neg (by omega)])
  have e7 : ga u3 0 (1831 : Int32).toNatClampNeg = nI nn := by
    show ga u3 0 1831 = _
    rw [h3.2.2.2.2.2.1, hA3, if_neg (by omega), upd_at, if_neg (by omega)]
    exact hA
  intro u4 e4
  rw [e7, nI_1, show (1831 : Int32).toNatClampNeg = 1831 from rfl] at e4
  have h4 := h3.sw (j := 1831) (nI (nn + 1)) (by omega) (by omega)
  rw [← e4] at h4
  refine d_next h4 h00 (fun u5 h5 => fin u5 _ h5 ⟨?_, fun j j1 j2 => ?_, ?_, ?_, ?_, ?_⟩)
  · rw [upd_at, if_pos rfl]
  · rw [upd_at, if_neg j1, hA3, if_neg (by omega), upd_at, if_neg (by omega)]
  · rw [upd_at, if_neg (by omega), hA3, if_neg (by omega), upd_at, if_pos rfl]
  · rw [upd_at, if_neg (by omega), hA3, if_pos (by omega)]; rfl
  · rw [upd_at, if_neg (by omega), hA3, if_pos (by omega)]; rfl
  · rw [upd_at, if_neg (by omega), hA3, if_pos (by omega)]; rfl
theorem d_order {R : Type} {r : R} {u0 : St} {T : Nat → Nat} {n m : Nat} {M : MH} {nn k w : Nat} {t : Tk} {E : Ex} {A0 A : Nat → Int32} {NM : Nat → Int64} {K : Nat → Nat → Nat → Nat → Tk → R} {F : Nat → Nat → R} {u : St} {post : Int32 → St → Prop} (ok : okH M) (hM : MR (ga u0 0) (gl u0 1) 0 0 M) (h : mS u0 T n m t E A NM u) (hn : nn < 60) (hr : rowA A0 A nn w 0 0 0) (hw : 13 ≤ w ∧ w ≤ 22 ∧ w ≠ 21) (hk : kN (nI w) = k) (hp : pAc T n M k t K F = r) (h1 : ∀ u' t' A' k' k2 a b c, mS u0 T n m t' E A' NM u' → rowA A0 A' nn k2 a b c → kR k' k2 → rwk M k' a b c → (if bkN k then bkK k' else k' ≤ 6) → K k' a b c t' = r → post 1 u') (h0 : ∀ u' f pl, mF u0 f pl u' → F f pl = r → post 0 u') : qX12_timeOrder (nI w) (nI (1912 + 6 * nn)) u post := by
  have hc : w = 13 ∨ w = 14 ∨ w = 15 ∨ w = 16 ∨ w = 17 ∨ w = 18 ∨ w = 19 ∨ w = 20 ∨ w = 22 := by omega
  rcases hc with rfl | rfl | rfl | rfl | rfl | rfl | rfl | rfl | rfl
  · have e : k = 0 := hk.symm.trans (by decide)
    subst e
    exact d_ord0 ok hM h hn hr hp h1 h0
  · have e : k = 1 := hk.symm.trans (by decide)
    subst e
    exact d_ord1 ok hM h hn hr hp h1 h0
  · have e : k = 2 := hk.symm.trans (by decide)
    subst e
    exact d_ord2 ok hM h hn hr hp h1 h0
  · have e : k = 3 := hk.symm.trans (by decide)
    subst e
    exact d_ord3 ok hM h hn hr hp h1 h0
  · have e : k = 4 := hk.symm.trans (by decide)
    subst e
    exact d_ord4 ok hM h hn hr hp h1 h0
  · have e : k = 5 := hk.symm.trans (by decide)
    subst e
    exact d_ord5 ok hM h hn hr hp h1 h0
  · have e : k = 8 := hk.symm.trans (by decide)
    subst e
    exact d_ord8 ok hM h hn hr hp h1 h0
  · have e : k = 7 := hk.symm.trans (by decide)
    subst e
    exact d_ord7 ok hM h hn hr hp h1 h0
  · have e : k = 6 := hk.symm.trans (by decide)
    subst e
    exact d_ord6 ok hM h hn hr hp h1 h0
