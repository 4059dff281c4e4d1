/-! STEPS 12: fewest, fewestSet -/
def fbt (Q : Nat → Bool) : Nat → Option Nat
  | 0 => none
  | i + 1 => match fbt Q i with
    | none => if Q i = true then some i else none
    | some b => if pc i < pc b ∧ Q i = true then some i else some b
def oI : Option Nat → Int32
  | none => -1
  | some b => nI b
theorem fbt_lt (Q : Nat → Bool) : ∀ i b, fbt Q i = some b → b < i := by
  intro i
  induction i with
  | zero => intro b h; exact absurd h (by rw [fbt]; intro q; cases q)
  | succ i ih =>
    intro b h
    rw [fbt] at h
    cases e : fbt Q i with
    | none =>
      rw [e] at h
      simp only at h
      split at h
      · have := Option.some.inj h; omega
      · cases h
    | some c =>
      rw [e] at h
      simp only at h
      have := ih c e
      split at h
      · have := Option.some.inj h; omega
      · have := Option.some.inj h; omega
theorem fbt_none {Q : Nat → Bool} {i : Nat} (e : fbt Q i = none) : fbt Q (i + 1) = if Q i = true then some i else none := by rw [fbt, e]
theorem fbt_some {Q : Nat → Bool} {i b : Nat} (e : fbt Q i = some b) : fbt Q (i + 1) = if pc i < pc b ∧ Q i = true then some i else some b := by rw [fbt, e]
/-- not taken: as it was -/
theorem fbt_skip {Q : Nat → Bool} {i : Nat} (h : Q i = false) : fbt Q (i + 1) = fbt Q i := by
  cases e : fbt Q i with
  | none => rw [fbt_none e, if_neg (by rw [h]; decide)]
  | some b => rw [fbt_some e, if_neg (fun q => absurd q.2 (by rw [h]; decide))]
def pQ (M : MH) (s g : Nat) : Bool := decide (g &&& M 6 0 = 0) && (fwo M g).testBit s
theorem few_loop {M : MH} {s : Nat} {u0 : St} {post : Int32 → St → Prop} (ok : okH M) (st : setl M) (hs : s < 31) (h : CH u0 M) (fin : ∀ u, S11 u0 u → post (oI (fbt (pQ M s) (2 ^ M 2 0))) u) : ∀ (m i : Nat) (u : St), S11 u0 u → i + m = 2 ^ M 2 0 → qX2_smallestFellingSet_L4 post (m + 1) (nI s) (oI (fbt (pQ M s) i)) (nI i) u := by
  have h7 := ok_nd ok
  have h27 : 2 ^ M 2 0 < 2 ^ 8 := Nat.pow_lt_pow_right (by decide) (by omega)
  intro m
  induction m with
  | zero =>
    intro i u hu hi
    have e1 : (1 : Int32) <<< (gi u 2 &&& 31) = nI (2 ^ M 2 0) := by rw [ch_k (hu.ch h) (by omega), i_one (by omega)]
    refine ⟨fun _ => ?_, fun c => absurd (by rw [e1]; exact nI_le (by omega) (by omega)) c⟩
    rw [show i = 2 ^ M 2 0 by omega]
    exact fin u hu
  | succ m ih =>
    intro i u hu hi
    have e1 : (1 : Int32) <<< (gi u 2 &&& 31) = nI (2 ^ M 2 0) := by rw [ch_k (hu.ch h) (by omega), i_one (by omega)]
    have p1 := (pc8 i (by omega)).1
    have sk : ∀ u, S11 u0 u → fbt (pQ M s) (i + 1) = fbt (pQ M s) i → qX2_smallestFellingSet_b65 post (qX2_smallestFellingSet_L4 post (m + 1)) (nI s) (oI (fbt (pQ M s) i)) (nI i) u := fun u hu c z ez => by
      rw [nI_1] at ez
      subst ez
      have nx := ih (i + 1) u hu (by omega)
      rw [c] at nx
      exact nx
    -- it is fewer
    have bt : (pQ M s i = true → fbt (pQ M s) (i + 1) = some i) → qX2_smallestFellingSet_b35 post (qX2_smallestFellingSet_L4 post (m + 1)) (nI s) (oI (fbt (pQ M s) i)) (nI i) 1 u := fun tk => by
      refine ⟨fun c => absurd c (by decide), fun _ => ?_⟩
      rw [ch_k (hu.ch h) (by omega), i_and, nI_z (Nat.lt_of_le_of_lt Nat.and_le_left (by omega))]
      refine ⟨fun c2 => sk u hu (fbt_skip (by unfold pQ; simp [c2])), fun c2 => r_fwo ok st (by omega) h hu (fun u' hu' _ => r_has (fwo_lt ok i) hs (fun c3 => ⟨fun c => absurd c (by decide), fun _ z ez => ?_⟩) (fun c3 => ⟨fun _ => sk u' hu' (fbt_skip (by unfold pQ; simp [c3])), fun c => absurd rfl c⟩))⟩
      rw [nI_1] at ez
      subst ez
      have nx := ih (i + 1) u' hu' (by omega)
      rw [tk (by unfold pQ; simp [c2, c3])] at nx
      exact nx
    refine ⟨fun c => absurd c (by rw [e1]; exact nI_ge (by omega) (by omega)), fun _ => ?_⟩
    cases e : fbt (pQ M s) i with
    | none =>
      rw [e] at bt
      exact ⟨fun _ => bt (fun q => by rw [fbt_none e, if_pos q]), fun c => absurd rfl c⟩
    | some b =>
      have hb := fbt_lt _ _ _ e
      have p2 := (pc8 b (by omega)).1
      rw [e] at bt sk
      refine ⟨fun c => ?_, fun _ => r_bitCount (by omega) (r_bitCount (by omega) ⟨fun c => ⟨fun _ => sk u hu ?_, fun c => absurd rfl c⟩, fun c => bt (fun q => ?_)⟩)⟩
      · rw [oI, i_eq, nI_toInt (by omega)] at c
        have : (-1 : Int32).toInt = -1 := rfl
        omega
      · rw [fbt_some e, if_neg (fun q => absurd c (nI_ge q.1 (by omega)))]
      · rw [fbt_some e, if_pos ⟨Nat.lt_of_not_le (fun q => c (nI_le q (by omega))), q⟩]
theorem r_few {M : MH} {s : Nat} {u0 : St} {post : Int32 → St → Prop} (ok : okH M) (st : setl M) (hs : s < 31) (h : CH u0 M) (fin : ∀ u, S11 u0 u → post (oI (fbt (pQ M s) (2 ^ M 2 0))) u) : qX2_smallestFellingSet (nI s) u0 post := ⟨_, few_loop ok st hs h fin (2 ^ M 2 0) 0 u0 S11.rfl (by omega)⟩
theorem fbt_top {M : MH} {s : Nat} : ∀ k, opn M + 1 + k ≤ 2 ^ M 2 0 → fbt (pQ M s) (opn M + 1 + k) = fbt (pQ M s) (opn M + 1) := by
  intro k
  induction k with
  | zero => intro _; rfl
  | succ k ih =>
    intro hk
    have h1 := opn_paid (M := M) (g := opn M + 1 + k) (by omega) (by omega)
    rw [← Nat.add_assoc, fbt_skip (by unfold pQ; simp [h1]), ih (by omega)]
theorem m_few_loop {M : MH} {s : Nat} {u : St} {post : Int32 → St → Prop} (ok : okH M) (hs : s < 31) (h : MC u M) (fin : post (oI (fbt (pQ M s) (2 ^ M 2 0))) u) : ∀ (m i : Nat), i + m = opn M + 1 → qX12_bestBare_L10 post (m + 1) (nI s) (oI (fbt (pQ M s) i)) (nI (opn M)) (nI i) u := by
  have h7 := ok_nd ok
  have h27 : 2 ^ M 2 0 < 2 ^ 8 := Nat.pow_lt_pow_right (by decide) (by omega)
  have ho := opn_lt (M := M)
  have hsn : ¬ nI s = (-1 : Int32) := fun c => by
    rw [i_eq, nI_toInt (by omega)] at c
    have : (-1 : Int32).toInt = -1 := rfl
    omega
  intro m
  induction m with
  | zero =>
    intro i hi
    refine ⟨fun _ => ?_, fun c => absurd (nI_lt (by omega) (by omega)) c⟩
    rw [show i = opn M + 1 by omega, ← fbt_top (2 ^ M 2 0 - (opn M + 1)) (by omega), show opn M + 1 + (2 ^ M 2 0 - (opn M + 1)) = 2 ^ M 2 0 by omega]
    exact fin
  | succ m ih =>
    intro i hi
    have p1 := (pc8 i (by omega)).1
    have nx := ih (i + 1) (by omega)
    have sk : fbt (pQ M s) (i + 1) = fbt (pQ M s) i → qX12_bestBare_b120 post (qX12_bestBare_L10 post (m + 1)) (nI s) (oI (fbt (pQ M s) i)) (nI (opn M)) (nI i) u := fun c z ez => by
      rw [nI_1] at ez
      subst ez
      rw [c] at nx
      exact nx
    have tk : fbt (pQ M s) (i + 1) = some i → qX12_bestBare_b120 post (qX12_bestBare_L10 post (m + 1)) (nI s) (nI i) (nI (opn M)) (nI i) u := fun c z ez => by
      rw [nI_1] at ez
      subst ez
      rw [c] at nx
      exact nx
    have b61 : ∀ g : Int32, (g = 0 ↔ pQ M s i = false) → qX12_bestBare_b61 post (qX12_bestBare_L10 post (m + 1)) (nI s) (oI (fbt (pQ M s) i)) (nI (opn M)) (nI i) g u := fun g hg => by
      have ht : ¬ g = 0 → pQ M s i = true := fun c2 => by
        cases e : pQ M s i with
        | true => rfl
        | false => exact absurd (hg.mpr e) c2
      cases e : fbt (pQ M s) i with
      | none =>
        rw [e] at sk
        exact ⟨fun _ => ⟨fun c2 => sk (by rw [fbt_skip (hg.mp c2), e]), fun c2 => ⟨fun c => absurd c (by decide), fun _ => tk (by rw [fbt_none e, if_pos (ht c2)])⟩⟩, fun c => absurd rfl c⟩
      | some b =>
        have hb := fbt_lt _ _ _ e
        have p2 := (pc8 b (by omega)).1
        rw [e] at sk
        refine ⟨fun c => ?_, fun _ => ⟨fun _ => m_bits (by omega) (m_bits (by omega) ⟨fun c => ?_, fun c => ?_⟩), fun c => absurd c hsn⟩⟩
        · rw [oI, i_eq, nI_toInt (by omega)] at c
          have : (-1 : Int32).toInt = -1 := rfl
          omega
        · have k : fbt (pQ M s) (i + 1) = some b := by rw [fbt_some e, if_neg (fun q => absurd c (nI_ge q.1 (by omega)))]
          exact ⟨fun _ => sk k, fun _ => ⟨fun _ => sk k, fun c => absurd rfl c⟩⟩
        · exact ⟨fun c2 => sk (by rw [fbt_skip (hg.mp c2), e]), fun c2 => ⟨fun c => absurd c (by decide), fun _ => tk (by rw [fbt_some e, if_pos ⟨Nat.lt_of_not_le (fun q => c (nI_le q (by omega))), ht c2⟩])⟩⟩
    have hin : i < 2 ^ M 2 0 := by omega
    refine ⟨fun c => absurd ((nI_ltI (by omega) (by omega)).mp c) (by omega), fun _ => ?_⟩
    rw [i_andn, nI_z (andn_lt (n := 31) (by omega))]
    unfold opn
    rw [open_iff hin]
    refine ⟨fun c => m_fwo ok (by omega) h ⟨fun _ => m_isIn (fwo_lt ok i) hs (fun c3 => b61 1 ⟨fun q => absurd q (by decide), fun q => ?_⟩) (fun c3 => b61 0 ⟨fun _ => ?_, fun _ => rfl⟩), fun c => absurd c hsn⟩, fun c => sk (fbt_skip ?_)⟩
    · unfold pQ at q
      simp [c, c3] at q
    · unfold pQ
      simp [c3]
    · unfold pQ
      simp [c]
theorem m_few {M : MH} {s : Nat} {u : St} {post : Int32 → St → Prop} (ok : okH M) (hs : s < 31) (h : MC u M) (fin : post (oI (fbt (pQ M s) (2 ^ M 2 0))) u) : qX12_bestBare (nI s) u post := m_openDebts ok h ⟨_, m_few_loop ok hs h fin (opn M + 1) 0 (by omega)⟩
/-- 0, or 1, 6, 7: whether a stone can be brought down; none or the set -/
theorem r_felling {cs : Nat → St} {ms : St} {x : Int32} {post : Int32 → St → St → Prop} (h : RR cs ms) (h1 : ∀ (v : Int32), 0 < v.toInt → (∀ {pm : Int32 → St → Prop}, pm v ms → qX12_wrongStone x ms pm) → post (-1) (si (cs 0) 0 v) (cs 5) ∧ ∀ u, S11 (cs 5) u → post (-1) (si (cs 0) 0 v) u) (h0 : ∀ (b : Nat) (u : St), b < 128 → S11 (cs 5) u → (∀ {pm : Int32 → St → Prop}, pm 0 ms → qX12_wrongStone x ms pm) → (∀ {pm : Int32 → St → Prop}, pm (nI b) ms → qX12_bestBare x ms pm) → post (nI b) (si (cs 0) 0 0) u) : qX11_findFelling x (cs 0) (cs 5) post := by
  obtain ⟨M, ok, hs, hc, hm, -⟩ := rr_house h
  have hn := ok_ns ok
  have h7 := ok_nd ok
  have h27 : 2 ^ M 2 0 < 2 ^ 8 := Nat.pow_lt_pow_right (by decide) (by omega)
  refine r_isStone (n := M 0 0) (by omega) (ch_k hc (by omega)) (fun c => ⟨fun _ => ?_, fun c => absurd c (by decide)⟩) (fun c => ⟨fun c => absurd rfl c, fun _ => ?_⟩)
  · have mi : ∀ {post : Int32 → St → Prop}, post 1 ms → qX12_isStone x ms post := fun hp => m_isStone (n := M 0 0) (by omega) (mc_k hm (by omega)) (fun _ => hp) (fun c2 => absurd c c2)
    obtain ⟨s, hss, rfl⟩ := c.nat (by omega)
    have e5 : ga ms 0 (5 : Int32).toNatClampNeg = nI (M 5 0) := mc_k (k := 5) hm (by omega)
    have mf : ∀ {post : Int32 → St → Prop}, ((M 5 0).testBit s = true → post 1 ms) → ((M 5 0).testBit s = false → post 0 ms) → qX12_isIn (ga ms 0 (5 : Int32).toNatClampNeg) (nI s) ms post := fun a b => by
      rw [e5]
      exact m_isIn (ok_fallen ok) (by omega) a b
    refine r_hasFallen ok hc (by omega) (fun c2 => ⟨fun c => absurd c (by decide), fun _ => r_refuse (h1 7 (by decide) (fun hp => mi ⟨fun _ => mf (fun _ => ⟨fun c => absurd c (by decide), fun _ => hp⟩) (fun c3 => absurd c2 (by rw [c3]; decide)), fun c => absurd c (by decide)⟩)).1⟩) (fun c2 => ⟨fun _ => r_few ok hs (by omega) hc (fun u hu => ?_), fun c => absurd rfl c⟩)
    cases e : fbt (pQ M s) (2 ^ M 2 0) with
    | none =>
      refine ⟨fun c => absurd rfl c, fun _ => r_refuse ((h1 6 (by decide) (fun hp => mi ⟨fun _ => mf (fun c3 => absurd c3 (by rw [c2]; decide)) (fun _ => ⟨fun _ => m_few ok (by omega) hm ?_, fun c => absurd rfl c⟩), fun c => absurd c (by decide)⟩)).2 u hu)⟩
      rw [e]
      exact ⟨fun c => absurd rfl c, fun _ => hp⟩
    | some b =>
      have hb := fbt_lt _ _ _ e
      have hb7 : 2 ^ M 2 0 ≤ 2 ^ 7 := Nat.pow_le_pow_right (by decide) h7
      have nb : ¬ nI b = (-1 : Int32) := fun c => by
        rw [i_eq, nI_toInt (by omega)] at c
        have : (-1 : Int32).toInt = -1 := rfl
        omega
      refine ⟨fun _ => r_answer (h0 b u (by omega) hu (fun hp => mi ⟨fun _ => mf (fun c3 => absurd c3 (by rw [c2]; decide)) (fun _ => ⟨fun _ => m_few ok (by omega) hm ?_, fun c => absurd rfl c⟩), fun c => absurd c (by decide)⟩) (fun hp => m_few ok (by omega) hm ?_)), fun c => absurd c nb⟩
      · rw [e]
        exact ⟨fun _ => hp, fun c => absurd c nb⟩
      · rw [e]
        exact hp
  · exact r_refuse (h1 1 (by decide) (fun hp => m_isStone (n := M 0 0) (by omega) (mc_k hm (by omega)) (fun c2 => absurd c2 c) (fun _ => ⟨fun c => absurd rfl c, fun _ => hp⟩))).1
theorem pos_le {v : Int32} (h : 0 < v.toInt) : ¬ v ≤ 0 := fun c => by
  rw [i_le] at c
  have : (0 : Int32).toInt = 0 := rfl
  omega
theorem sp_fewestSet : SP_fewestSet RR := fun x cs ms h => r_felling h (fun v hv w => ⟨w ⟨fun c => absurd c (pos_le hv), fun _ => m_refuse ⟨rfl, rr_s11 h S11.rfl v⟩⟩, fun u hu => w ⟨fun c => absurd c (pos_le hv), fun _ => m_refuse ⟨rfl, rr_s11 h hu v⟩⟩⟩) (fun b u hb hu w k => w ⟨fun _ => k (m_gives ⟨rfl, rr_s11 h hu 0⟩), fun c => absurd (by decide) c⟩)
theorem sp_fewest : SP_fewest RR := fun x cs ms h => by
  refine r_felling h (fun v hv w => ⟨⟨fun c => absurd rfl c, fun _ => w ⟨fun c => absurd c (pos_le hv), fun _ => m_refuse ⟨rfl, rr_s11 h S11.rfl v⟩⟩⟩, fun u hu => ⟨fun c => absurd rfl c, fun _ => w ⟨fun c => absurd c (pos_le hv), fun _ => m_refuse ⟨rfl, rr_s11 h hu v⟩⟩⟩⟩) (fun b u hb hu w k => ⟨fun _ => r_bitCount (by omega) (w ⟨fun _ => k (m_bits (by omega) (m_gives ⟨rfl, rr_s11 h hu 0⟩)), fun c => absurd (by decide) c⟩), fun c => ?_⟩)
  rw [i_eq, nI_toInt (by omega)] at c
  have : (-1 : Int32).toInt = -1 := rfl
  omega
