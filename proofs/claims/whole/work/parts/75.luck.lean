/-! STEPS 12: luck -/
/-- choices, as the class goes on -/
def chF (d : Nat) : Nat → Nat
  | 0 => 1
  | i + 1 => chF d i * (d + i + 1) / (i + 1)
theorem chF_b : ∀ d, d < 13 → ∀ i, i < 13 → chF d i * (d + i + 1) < 2 ^ 31 := by decide +kernel
theorem chF_p : ∀ d, d < 12 → ∀ j, j < 12 → chF (d + 1) (j + 1) = chF d (j + 1) + chF (d + 1) j := by decide +kernel
theorem chF_1 : ∀ j, j < 12 → chF 0 (j + 1) = chF 0 j := by decide +kernel
theorem choices_loop {n k : Nat} {post : Int64 → Prop} (hn : n ≤ 12) (hk : k ≤ n) (fin : post (lN (chF (n - k) k))) : ∀ (m i : Nat), i + m = k → qX11_choices_L5 post (m + 1) (nI n) (nI k) (lN (chF (n - k) i)) (nI (i + 1)) := by
  intro m
  induction m with
  | zero =>
    intro i hi
    have : i = k := by omega
    subst this
    exact ⟨fun _ => fin, fun c => absurd (nI_lt (by omega) (by omega)) c⟩
  | succ m ih =>
    intro i hi
    have hb := chF_b (n - k) (by omega) i (by omega)
    refine ⟨fun c => absurd c (nI_nlt (by omega) (by omega)), fun _ => ?_⟩
    rw [i_long (by omega), pk_sub hk, nI_add, i_long (by omega), lN_mul, pk_lDiv (by rw [show n - k + (i + 1) = n - k + i + 1 by omega]; omega) (by omega) (by omega)]
    refine ⟨fun q => by have := (lN_zero (by omega)).mp q; omega, fun x ex z ez => ?_⟩
    rw [nI_1] at ez
    rw [show chF (n - k) i * (n - k + (i + 1)) / (i + 1) = chF (n - k) (i + 1) from rfl] at ex
    subst ex; subst ez
    exact ih (i + 1) (by omega)
theorem r_choices {n k : Nat} {post : Int64 → Prop} (hn : n ≤ 12) (hk : k ≤ n) (fin : post (lN (chF (n - k) k))) : qX11_choices (nI n) (nI k) post := ⟨_, choices_loop hn hk fin k 0 (by omega)⟩
theorem power_loop {b n : Nat} {post : Int64 → Prop} (hb : b < 2 ^ 31) (hn : n < 2 ^ 31) (fin : post (lN (b ^ n))) : ∀ (m i : Nat), i + m = n → qX11_power_L5 post (m + 1) (nI b) (nI n) (lN (b ^ i)) (nI i) := by
  intro m
  induction m with
  | zero =>
    intro i hi
    have : i = n := by omega
    subst this
    exact ⟨fun _ => fin, fun c => absurd (nI_le (by omega) (by omega)) c⟩
  | succ m ih =>
    intro i hi
    refine ⟨fun c => absurd c (nI_ge (by omega) (by omega)), fun _ x ex z ez => ?_⟩
    rw [i_long hb, lN_mul, ← Nat.pow_succ] at ex
    rw [nI_1] at ez
    subst ex; subst ez
    exact ih (i + 1) (by omega)
theorem r_power {b n : Nat} {post : Int64 → Prop} (hb : b < 2 ^ 31) (hn : n < 2 ^ 31) (fin : post (lN (b ^ n))) : qX11_power (nI b) (nI n) post := ⟨_, power_loop hb hn fin n 0 (by omega)⟩
/-- the reference's row -/
def lrw (p : Nat) : Nat → Nat → Nat
  | 0, k => if k = 0 then 1 else 0
  | n + 1, k => lrw p n k * (16 - p) + if k = 0 then 0 else lrw p n (k - 1) * p
theorem lrw_0 (p : Nat) : ∀ n k, n < k → lrw p n k = 0 := by
  intro n
  induction n with
  | zero => intro k hk; exact if_neg (by omega)
  | succ n ih =>
    intro k hk
    rw [lrw, ih k (by omega), if_neg (by omega), ih (k - 1) (by omega), Nat.zero_mul, Nat.zero_mul]
theorem lrw_le {p : Nat} (hp : p ≤ 16) : ∀ n k, lrw p n k ≤ 16 ^ n := by
  intro n
  induction n with
  | zero =>
    intro k
    rw [lrw]
    split <;> omega
  | succ n ih =>
    intro k
    rw [lrw, Nat.pow_succ]
    have h1 := Nat.mul_le_mul_right (16 - p) (ih k)
    have h3 : 16 ^ n * (16 - p) + 16 ^ n * p = 16 ^ n * 16 := by rw [← Nat.mul_add, show 16 - p + p = 16 by omega]
    split
    · omega
    · have h2 := Nat.mul_le_mul_right p (ih (k - 1))
      omega
theorem lrw_eq (p : Nat) : ∀ n, n ≤ 12 → ∀ d k, d + k = n → lrw p n k = chF d k * p ^ k * (16 - p) ^ d := by
  intro n
  induction n with
  | zero =>
    intro _ d k h
    have h1 : d = 0 := by omega
    have h2 : k = 0 := by omega
    subst h1; subst h2
    rfl
  | succ n ih =>
    intro hn d k h
    rw [lrw]
    generalize 16 - p = q at ih ⊢
    cases k with
    | zero =>
      have : d = n + 1 := by omega
      subst this
      rw [if_pos rfl, ih (by omega) n 0 (by omega)]
      simp only [chF, Nat.pow_zero, Nat.pow_succ, Nat.mul_one, Nat.one_mul, Nat.add_zero]
    | succ j =>
      rw [if_neg (by omega), Nat.add_sub_cancel]
      cases d with
      | zero =>
        rw [lrw_0 p n (j + 1) (by omega), Nat.zero_mul, Nat.zero_add, ih (by omega) 0 j (by omega), chF_1 j (by omega)]
        simp only [Nat.pow_zero, Nat.pow_succ, Nat.mul_one, Nat.mul_assoc]
      | succ d =>
        rw [ih (by omega) d (j + 1) (by omega), ih (by omega) (d + 1) j (by omega), chF_p d (by omega) j (by omega)]
        generalize chF d (j + 1) = A
        generalize chF (d + 1) j = B
        rw [Nat.pow_succ p j, Nat.pow_succ q d, Nat.add_mul, Nat.add_mul]
        congr 1
        · simp only [Nat.mul_assoc]
        · simp only [Nat.mul_assoc, Nat.mul_comm, Nat.mul_left_comm]
/-- so many from a place on -/
def smA (f : Nat → Nat) : Nat → Nat → Nat
  | _, 0 => 0
  | a, m + 1 => f a + smA f (a + 1) m
theorem smA_le {f : Nat → Nat} {b : Nat} (h : ∀ i, f i ≤ b) : ∀ m a, smA f a m ≤ b * m := by
  intro m
  induction m with
  | zero => intro a; exact Nat.le_refl 0
  | succ m ih =>
    intro a
    have h1 := ih (a + 1)
    have h2 := h a
    rw [smA, Nat.mul_succ]
    omega
theorem smA_z {f : Nat → Nat} : ∀ m a, (∀ i, a ≤ i → f i = 0) → smA f a m = 0 := by
  intro m
  induction m with
  | zero => intro a _; rfl
  | succ m ih =>
    intro a h
    rw [smA, h a (by omega), ih (a + 1) (fun i hi => h i (by omega))]
theorem smA_cut {f : Nat → Nat} {n : Nat} (h : ∀ i, n < i → f i = 0) : ∀ m a k, a + m = n + 1 → smA f a (m + k) = smA f a m := by
  intro m
  induction m with
  | zero =>
    intro a k e
    rw [Nat.zero_add]
    exact smA_z k a (fun i hi => h i (by omega))
  | succ m ih =>
    intro a k e
    rw [show m + 1 + k = m + k + 1 by omega, smA, smA, ih (a + 1) k (by omega)]
theorem luck_loop {M : MH} {u0 u1 : St} {n T : Nat} {post : Int32 → St → St → Prop} (ok : okH M) (h : CH u1 M) (hn : n ≤ 12) (fin : qX11_luck_b83 post (nI n) (lN T) u0 u1) : ∀ (m i acc : Nat), i + m = n + 1 → acc + smA (lrw (M 3 0) n) i m = T → qX11_luck_L31 post (m + 1) (nI n) (lN acc) (nI i) u0 u1 := by
  have h3 := ok.2.2.2.1
  have e3 : gi u1 3 = nI (M 3 0) := ch_k h (by omega)
  intro m
  induction m with
  | zero =>
    intro i acc hi ha
    have : acc = T := ha
    subst this
    exact ⟨fun _ => fin, fun c => absurd (nI_lt (by omega) (by omega)) c⟩
  | succ m ih =>
    intro i acc hi ha
    refine ⟨fun c => absurd c (nI_nlt (by omega) (by omega)), fun _ => r_choices hn (by omega) ?_⟩
    rw [e3, show (16 : Int32) - nI (M 3 0) = nI (16 - M 3 0) from pk_sub (a := 16) h3, pk_sub (show i ≤ n by omega)]
    refine r_power (by omega) (by omega) (r_power (by omega) (by omega) (fun x ex z ez => ?_))
    rw [lN_mul, lN_mul, ← lrw_eq (M 3 0) n hn (n - i) i (by omega), lN_add] at ex
    rw [nI_1] at ez
    subst ex; subst ez
    refine ih (i + 1) _ (by omega) ?_
    rw [smA] at ha
    omega
/-- the reference's row is laid, goes on, is summed -/
def lk13 (f : Nat → Int64) (g : Nat → Nat) : Prop := ∀ j, j < 13 → f j = lN (g j)
theorem mluck_1 {u : St} {n a : Nat} {post : Int32 → St → Prop} (fin : ∀ f, lk13 f (lrw 0 0) → qX12_luck_b65 post (nI n) (nI a) (lN 1) (sx u 32 f)) : ∀ (m i : Nat) (f : Nat → Int64), i + m = 13 → (∀ j, j < i → f j = lN (lrw 0 0 j)) → qX12_luck_L35 post (m + 1) (nI n) (nI a) (lN 1) (nI i) (sx u 32 f) := by
  intro m
  induction m with
  | zero =>
    intro i f hi hf
    have : i = 13 := by omega
    subst this
    exact ⟨fun _ => fin f hf, fun c => absurd (by decide) c⟩
  | succ m ih =>
    intro i f hi hf
    have go : ∀ v : Int64, v = lN (lrw 0 0 i) → qX12_luck_b58 post (qX12_luck_L35 post (m + 1)) (nI n) (nI a) (lN 1) (nI i) v (nI i) (sx u 32 f) := fun v hv => by
      refine ⟨vp_in_nI (by omega) (by omega), fun u' e z ez => ?_⟩
      rw [nI_clamp (by omega), sx_sx, gl_sx, if_pos rfl] at e
      rw [nI_1] at ez
      subst e; subst ez
      refine ih (i + 1) _ (by omega) (fun j hj => ?_)
      rw [updL_at]
      by_cases c : j = i
      · rw [if_pos c, c, hv]
      · rw [if_neg c]
        exact hf j (by omega)
    refine ⟨fun c => absurd c (nI_ge (b := 13) (by omega) (by omega)), fun _ => ⟨fun c => go 0 ?_, fun c => go 1 ?_⟩⟩
    · rw [lrw, if_neg (fun q => c (by rw [q]; rfl))]
      rfl
    · rw [nI_z (by omega)] at c
      rw [c]
      rfl
theorem mluck_in {M : MH} {u : St} {n a i : Nat} {post : Int32 → St → Prop} {K : Int32 → Int32 → Int64 → Int32 → St → Prop} (ok : okH M) (h : MC u M) (fin : ∀ f, lk13 f (lrw (M 3 0) (i + 1)) → qX12_luck_b141 post K (nI n) (nI a) (lN (16 ^ i)) (nI i) (sx u 32 f)) : ∀ (m : Nat) (x6 : Int32) (f : Nat → Int64), m ≤ 13 → x6 = nI m - 1 → (∀ j, j < 13 → f j = lN (if m ≤ j then lrw (M 3 0) (i + 1) j else lrw (M 3 0) i j)) → qX12_luck_L78 post K (m + 1) (nI n) (nI a) (lN (16 ^ i)) (nI i) x6 (sx u 32 f) := by
  have h3 := ok.2.2.2.1
  intro m
  induction m with
  | zero =>
    intro x6 f hm ex hf
    subst ex
    exact ⟨fun _ => fin f (fun j hj => by rw [hf j hj, if_pos (by omega)]), fun c => absurd (by decide) c⟩
  | succ m ih =>
    intro x6 f hm ex hf
    rw [nI_pred] at ex
    subst ex
    have ec : (nI m).toNatClampNeg = m := nI_clamp (by omega)
    have e3 : ga (sx u 32 f) 0 (3 : Int32).toNatClampNeg = nI (M 3 0) := mc_k (k := 3) h (by omega)
    have el : gl (sx u 32 f) 32 = f := rfl
    refine ⟨fun c => absurd c (nI_pos (by omega)), fun _ => ⟨vp_in_nI (by omega) (by omega), ?_⟩⟩
    rw [e3, show (16 : Int32) - nI (M 3 0) = nI (16 - M 3 0) from pk_sub (a := 16) h3, i_long (by omega), i_long (by omega), ec, el, hf m (by omega), if_neg (by omega), lN_mul]
    have go : ∀ v : Nat, v = (if m = 0 then 0 else lrw (M 3 0) i (m - 1) * M 3 0) → qX12_luck_b133 post K (qX12_luck_L78 post K (m + 1)) (nI n) (nI a) (lN (16 ^ i)) (nI i) (nI m) (lN v) (lN (lrw (M 3 0) i m * (16 - M 3 0))) (nI m) (sx u 32 f) := fun v hv => by
      refine ⟨vp_in_nI (by omega) (by omega), fun u' e z ez => ?_⟩
      rw [ec, sx_sx, el, lN_add, hv, show lrw (M 3 0) i m * (16 - M 3 0) + (if m = 0 then 0 else lrw (M 3 0) i (m - 1) * M 3 0) = lrw (M 3 0) (i + 1) m from rfl] at e
      subst e
      refine ih z _ (by omega) (by rw [ez]; exact (Int32.sub_eq_add_neg _ _).symm) (fun j hj => ?_)
      rw [updL_at]
      by_cases c : j = m
      · rw [if_pos c, c, if_pos (Nat.le_refl _)]
      · rw [if_neg c, hf j hj]
        by_cases c2 : m + 1 ≤ j
        · rw [if_pos c2, if_pos (by omega)]
        · rw [if_neg c2, if_neg (by omega)]
    refine ⟨fun c => ?_, fun c => go 0 (by rw [if_pos ((nI_z (by omega)).mp c)])⟩
    have m0 : m ≠ 0 := fun q => c (by rw [q]; rfl)
    rw [show nI m - 1 = nI (m - 1) from pk_sub (b := 1) (by omega), nI_clamp (by omega), hf (m - 1) (by omega), if_neg (by omega), lN_mul]
    exact ⟨vp_in_nI (by omega) (by omega), go _ (by rw [if_neg m0])⟩
theorem l_16 : (16 : Int64) = lN 16 := rfl
theorem mluck_2 {M : MH} {u : St} {n a : Nat} {post : Int32 → St → Prop} (ok : okH M) (h : MC u M) (hn : n ≤ 12) (fin : ∀ f, lk13 f (lrw (M 3 0) n) → qX12_luck_b153 post (nI a) (lN (16 ^ n)) (sx u 32 f)) : ∀ (m i : Nat) (f : Nat → Int64), i + m = n → lk13 f (lrw (M 3 0) i) → qX12_luck_L68 post (m + 1) (nI n) (nI a) (lN (16 ^ i)) (nI i) (sx u 32 f) := by
  intro m
  induction m with
  | zero =>
    intro i f hi hf
    have : i = n := by omega
    subst this
    exact ⟨fun _ => fin f hf, fun c => absurd (nI_le (by omega) (by omega)) c⟩
  | succ m ih =>
    intro i f hi hf
    refine ⟨fun c => absurd c (nI_ge (by omega) (by omega)), fun _ => ⟨14, mluck_in ok h (fun g hg x ex z ez => ?_) 13 12 f (by omega) rfl (fun j hj => by rw [hf j hj, if_neg (by omega)])⟩⟩
    rw [l_16, lN_mul, ← Nat.pow_succ] at ex
    rw [nI_1] at ez
    subst ex; subst ez
    exact ih (i + 1) g (by omega) hg
theorem mluck_3 {u : St} {g : Nat → Nat} {b T : Nat} {post : Int32 → St → Prop} (hf : lk13 (gl u 32) g) (fin : qX12_luck_b184 post (lN b) (lN T) u) : ∀ (m i acc : Nat), i + m = 13 → acc + smA g i m = T → qX12_luck_L159 post (m + 1) (lN b) (lN acc) (nI i) u := by
  intro m
  induction m with
  | zero =>
    intro i acc hi ha
    have e : acc = T := ha
    have : i = 13 := by omega
    subst this; subst e
    exact ⟨fun _ => fin, fun c => absurd (by decide) c⟩
  | succ m ih =>
    intro i acc hi ha
    refine ⟨fun c => absurd c (nI_ge (b := 13) (by omega) (by omega)), fun _ => ⟨vp_in_nI (by omega) (by omega), fun x ex z ez => ?_⟩⟩
    rw [nI_clamp (by omega), hf i (by omega), lN_add] at ex
    rw [nI_1] at ez
    subst ex; subst ez
    refine ih (i + 1) _ (by omega) ?_
    rw [smA] at ha
    omega
theorem sp_luck : SP_luck RR := fun x y cs ms h => by
  obtain ⟨M, ok, hs, hc, hm, ht⟩ := rr_house h
  have h3 := ok.2.2.2.1
  have hr : ∀ v, RR (va_up (va_up cs 0 (si (cs 0) 0 v)) 5 (cs 5)) (si ms 2 v) := fun v => by
    rw [up_skip cs 0 5 _ (by decide)]
    exact rr_st h v
  refine r_within 0 12 rfl rfl (fun p q => ⟨fun c => absurd c (by decide), fun _ => ?_⟩) (fun p => ⟨fun _ => r_deny ⟨Or.inl rfl, m_isFrom 0 12 rfl rfl (fun a b => absurd p (by omega)) (fun _ => ⟨fun _ => m_is1 (by decide) ⟨Or.inl rfl, rfl, hr 1⟩, fun c => absurd rfl c⟩)⟩, fun c => absurd rfl c⟩)
  refine r_within 0 12 rfl rfl (fun p2 q2 => ⟨fun _ => ?_, fun c => absurd c (by decide)⟩) (fun p2 => ⟨fun c => absurd rfl c, fun _ => r_deny ⟨Or.inl rfl, m_isFrom 0 12 rfl rfl (fun _ _ => ⟨fun c => absurd c (by decide), fun _ => m_isFrom 0 12 rfl rfl (fun a b => absurd p2 (by omega)) (fun _ => ⟨fun c => absurd rfl c, fun _ => m_is1 (by decide) ⟨Or.inl rfl, rfl, hr 1⟩⟩)⟩) (fun a => absurd a (by omega))⟩⟩)
  obtain ⟨n, hn, rfl, -⟩ := i_nat (n := 12) p q
  obtain ⟨k, hk, rfl, -⟩ := i_nat (n := 12) p2 q2
  have hb : 16 ^ n ≤ 16 ^ 12 := Nat.pow_le_pow_right (by decide) hn
  have hb0 : 0 < 16 ^ n := Nat.pow_pos (by decide)
  have hT := smA_le (f := lrw (M 3 0) n) (b := 16 ^ 12) (fun i => Nat.le_trans (lrw_le h3 n i) hb) (13 - k) k
  have hT2 : smA (lrw (M 3 0) n) k (13 - k) < 2 ^ 62 := by
    have : 16 ^ 12 * (13 - k) ≤ 16 ^ 12 * 13 := Nat.mul_le_mul_left _ (by omega)
    omega
  have fin : qX11_luck_b83 (fun r u0 u5 => qX12_luck (nI n) (nI k) ms (fun r1 ms1 => r = r1 ∧ RR (va_up (va_up cs 0 u0) 5 u5) ms1)) (nI n) (lN (smA (lrw (M 3 0) n) k (13 - k))) (cs 0) (cs 5) := by
    refine r_power (b := 16) (by omega) (by omega) (r_tell hT2 (by omega) hb0 ⟨Or.inr rfl, ?_⟩)
    refine m_isFrom 0 12 rfl rfl (fun _ _ => ⟨fun c => absurd c (by decide), fun _ => m_isFrom 0 12 rfl rfl (fun _ _ => ⟨fun _ => ⟨14, ?_⟩, fun c => absurd c (by decide)⟩) (fun a => absurd a (by omega))⟩) (fun a => absurd a (by omega))
    generalize hA : lN (smA (lrw (M 3 0) n) k (13 - k) / Nat.gcd (smA (lrw (M 3 0) n) k (13 - k)) (16 ^ n)) = A
    generalize hB : lN (16 ^ n / Nat.gcd (smA (lrw (M 3 0) n) k (13 - k)) (16 ^ n)) = B
    have e1 : ∀ g, RR (va_up (va_up cs 0 (si (sj (sj (cs 0) 1 A) 2 B) 0 0)) 5 (cs 5)) (si (sj (sj (sx ms 32 g) 3 A) 4 B) 2 0) := fun g => by
      rw [up_skip cs 0 5 _ (by decide)]
      exact rr_frac (ms := sx ms 32 g) h _ _
    have l1 := mluck_1 (u := ms) (n := n) (a := k) (post := fun r1 ms1 => (1 : Int32) = r1 ∧ RR (va_up (va_up cs 0 (si (sj (sj (cs 0) 1 A) 2 B) 0 0)) 5 (cs 5)) ms1) (fun f hf => ⟨n + 1, mluck_2 ok hm hn (fun g hg => ⟨_, mluck_3 (u := sx ms 32 g) hg (m_tells hT2 (by omega) hb0 ⟨Or.inr rfl, rfl, by rw [hA, hB]; exact e1 g⟩) (13 - k) k 0 (by omega) (by omega)⟩) n 0 f (by omega) hf⟩) 13 0 (gl ms 32) (by omega) (fun j hj => absurd hj (by omega))
    rw [sx_same] at l1
    exact l1
  by_cases c : k ≤ n
  · have e : smA (lrw (M 3 0) n) k (13 - k) = smA (lrw (M 3 0) n) k (n + 1 - k) := by
      rw [show 13 - k = n + 1 - k + (12 - n) by omega]
      exact smA_cut (fun i hi => lrw_0 _ _ _ hi) (n + 1 - k) k (12 - n) (by omega)
    exact ⟨_, luck_loop ok hc hn fin (n + 1 - k) k 0 (by omega) (by omega)⟩
  · have e : smA (lrw (M 3 0) n) k (13 - k) = 0 := smA_z _ _ (fun i hi => lrw_0 _ _ _ (by omega))
    rw [e] at fin
    exact ⟨1, fun _ => fin, fun q => absurd (nI_lt (by omega) (by omega)) q⟩
