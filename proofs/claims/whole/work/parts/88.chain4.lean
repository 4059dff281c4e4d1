/-! STEPS 23: chain, chainAt -/
/-- a level, if what it comes to is as it should be -/
theorem lvlC {M H : MH} {f : Bool} {n S L : Nat} {row : List Nat} {c : Nat → Int32} {nm : Nat → Int64} {post : St → Prop} (ok : okH M) (st : setl M) (hL : L < 8) (hl : row.length = L) (hrel : relC M S H) (hpc : pc S = row.length) (hc : MR c nm 0 0 H)
    (hstep : ∀ k b u2, k < M 2 0 → okC M f S k = true → MC u2 (pyp H k) → gl u2 1 = nm → ga u2 25 L = nI k → rowR (ga u2 25) row → bsR u2 b → b.length ≤ 7 → (∀ u4, FrC L u2 u4 → ga u4 25 L = nI k → rowR (ga u4 25) row → bsR u4 (nxC M f n S row k b) → WPc post f (nI L) u4) → ∃ n, qX12_laysChain_b90 post (qX12_laysChain_L22 post n) (bI f) (nI L) u2)
    (h7n : ∀ k b, k < M 2 0 → b.length ≤ 7 → (nxC M f n S row k b).length ≤ 7) :
    ∀ (m k : Nat) (b : List Nat) (u : St), k + m = M 2 0 → (∀ j, j < 88 → ga u 0 (2368 + 88 * L + j) = c j) → gl u 1 = nm → ga u 25 L = nI k - 1 → rowR (ga u 25) row → bsR u b → b.length ≤ 7 → (∀ u', FrC L u u' → (∀ j, j < 88 → ga u' 0 j = c j) → bsR u' (flL (nxC M f n S row) m k b) → WPc post f (nI L + (-1)) u') → WPc post f (nI L) u := by
  have h7 := ok_nd ok
  have okHH := hrel.1
  have e2 : H 2 0 = M 2 0 := rel_k hrel (by decide) (by decide)
  have hin : vp_in (nI L) 8 := vp_in_nI (by omega) (by omega)
  have ecl : (nI L).toNatClampNeg = L := nI_clamp (by omega)
  have pre : ∀ (k : Nat) (u : St), (∀ j, j < 88 → ga u 0 (2368 + 88 * L + j) = c j) → gl u 1 = nm → ga u 25 L = nI k - 1 → (∀ j, j < 88 → ga (rsC L u) 0 j = c j) ∧ MC (rsC L u) H ∧ ga (rsC L u) 25 L = nI k := fun k u hR hn h25 => by
    have A : ∀ j, j < 88 → ga (rsC L u) 0 j = c j := fun j hj => by
      show rsF (2368 + 88 * L) 88 (ga u 0) j = c j
      unfold rsF
      rw [if_pos hj]
      exact hR j hj
    refine ⟨A, MR_congr okHH (fun j hj => by rw [Nat.zero_add]; exact A j hj) (fun j _ => by show gl u 1 (0 + j) = nm (0 + j); rw [hn]) hc, ?_⟩
    show upd (ga u 25) L (ga u 25 L + 1) L = nI k
    rw [upd_at, if_pos rfl, h25, i_pm]
  have head : ∀ (k n1 : Nat) (u : St), MC (rsC L u) H → ga (rsC L u) 25 L = nI k → k ≤ M 2 0 → ((nI k < nI (M 2 0) → qX12_pays (nI k) (rsC L u) (fun r_57 u_56 => ((r_57 = (-1 : Int32) → qX12_laysChain_L22 post n1 (bI f) (nI L) u_56) ∧ (¬ r_57 = (-1 : Int32) → ((bI f = 0 → qX12_laysChain_b90 post (qX12_laysChain_L22 post n1) (bI f) (nI L) u_56) ∧ (¬ bI f = 0 → qX12_falling u_56 (fun r_62 u_61 => ((r_62 ≤ 0 → qX12_laysChain_b90 post (qX12_laysChain_L22 post n1) (bI f) (nI L) u_61) ∧ (¬ r_62 ≤ 0 → qX12_laysChain_L22 post n1 (bI f) (nI L) u_61))))))))) ∧ (¬ nI k < nI (M 2 0) → qX12_laysChain_L22 post n1 (bI f) (nI L + (-1)) (rsC L u))) → qX12_laysChain_L22 post (n1 + 1) (bI f) (nI L) u := fun k n1 u mc e25 hk q => by
    refine ⟨fun w => absurd w (nI_pos (by omega)), fun _ => ?_⟩
    show qX12_restores (2368 + 88 * nI L) u _
    rw [i_lvl]
    refine m_restores (by omega) (by omega) ⟨hin, hin, fun u1 e1 => ⟨hin, fun x ex => ?_⟩⟩
    rw [ecl] at e1 ex
    have e1' : u1 = rsC L u := e1
    subst e1'
    rw [e25] at ex
    subst ex
    rw [show ga (rsC L u) 0 (2 : Int32).toNatClampNeg = nI (M 2 0) from (mc_k (k := 2) mc (by omega)).trans (by rw [e2])]
    exact ⟨q.1, fun w z ez => by rw [ez]; exact q.2 w⟩
  intro m
  induction m with
  | zero =>
    intro k b u hk hR hn h25 hrow hb hb7 fin
    obtain ⟨A, mc, e25⟩ := pre k u hR hn h25
    obtain ⟨n1, hx⟩ := fin (rsC L u) (rsC_Fr L u) A hb
    exact ⟨n1 + 1, head k n1 u mc e25 (by omega) ⟨fun w => absurd w (nI_nlt (by omega) (by omega)), fun _ => hx⟩⟩
  | succ m ih =>
    intro k b u hk hR hn h25 hrow hb hb7 fin
    obtain ⟨A, mc, e25⟩ := pre k u hR hn h25
    have hkd : k < M 2 0 := by omega
    have hkH : k < H 2 0 := by omega
    have fr1 := rsC_Fr L u
    have hR1 : ∀ j, j < 88 → ga (rsC L u) 0 (2368 + 88 * L + j) = c j := fun j hj => by rw [fr1.2.1 _ (by omega) (by omega)]; exact hR j hj
    have hrow1 : rowR (ga (rsC L u) 25) row := fun j v e => by
      have hj : j < L := by
        have := (List.getElem?_eq_some_iff.mp e).1
        omega
      rw [fr1.2.2 j hj]
      exact hrow j v e
    have ow := owd_le okHH hkH
    have lt : nI k < nI (M 2 0) := nI_lt hkd (by omega)
    rw [flL] at fin
    -- nothing is come to: on at the same level
    have on : ∀ u4, FrC L (rsC L u) u4 → ga u4 25 L = nI k → rowR (ga u4 25) row → bsR u4 (nxC M f n S row k b) → WPc post f (nI L) u4 := fun u4 fr4 g25 gr gb => ih (k + 1) _ u4 (by omega) (fun j hj => by rw [fr4.2.1 _ (by omega) (by omega)]; exact hR1 j hj) (fr4.1.2.2.2.2.2.2.2.2.2.2.2.2.trans hn) (by rw [g25, nI_pred]) gr gb (h7n k b hkd hb7) (fun u' fr' a e => fin u' (fr1.trans (fr4.trans fr')) a e)
    by_cases hp : cpy H k
    · have hpy := (pay_iff ok hrel hkd).mp hp
      have hrel' := rel_step ok hrel hkd hp
      have sm2 := pyS_sm (u := rsC L u) okHH hkH
      have mc2 := pyS_mc okHH mc hkH
      have fr2 : FrC L (rsC L u) (pyS H k (rsC L u)) := sm0_Fr sm2
      have g2 : ga (pyS H k (rsC L u)) 25 = ga (rsC L u) 25 := sm2.1 25 (by decide)
      have b2 : bsR (pyS H k (rsC L u)) b := sm0_bs sm2 hb
      have n2 : gl (pyS H k (rsC L u)) 1 = nm := (sm2.2.2.1 1).trans hn
      have ne : ¬ nI (owd H k) = -1 := nI_m1 (by omega)
      have fz := fall_z ok st hrel'
      by_cases hf : f = true → fwo M (S ||| 2 ^ k) = 0
      · have hok := okC_t hpy hf
        by_cases ff : f = true
        · -- firm, and nothing falls
          have sm3 : sm0 (pyS H k (rsC L u)) (flS (pyp H k) (pyS H k (rsC L u))) := sm0_up _ 5 _ (by omega)
          have mc3 : MC (flS (pyp H k) (pyS H k (rsC L u))) (pyp H k) := by
            have := mc_up5 (v := fal (pyp H k) 5 0) hrel'.1 mc2
            have e : fal (pyp H k) = pyp H k := (rel_fal ok st hrel').1 (hf ff)
            rw [e] at this
            rw [mp_same] at this
            unfold flS
            rw [e]
            exact this
          have g3 : ga (flS (pyp H k) (pyS H k (rsC L u))) 25 = ga (rsC L u) 25 := (sm3.1 25 (by decide)).trans g2
          obtain ⟨n1, h1⟩ := hstep k b _ hkd hok mc3 ((sm3.2.2.1 1).trans n2) (by rw [g3]; exact e25) (by rw [g3]; exact hrow1) (sm0_bs sm3 b2) hb7 (fun u4 fr4 g25 gr gb => on u4 (fr2.trans ((sm0_Fr sm3).trans fr4)) g25 gr gb)
          exact ⟨n1 + 1, head k n1 u mc e25 (by omega) ⟨fun _ => m_pays_x okHH mc hkH (fun _ => ⟨fun w => absurd w ne, fun _ => ⟨fun w => by rw [bI_0, ff] at w; exact absurd w (by decide), fun _ => m_falling_x hrel'.1 mc2 ⟨fun _ => h1, fun w => absurd (fz.1 (hf ff)) w⟩⟩⟩) (fun w => absurd hp w), fun w => absurd lt w⟩⟩
        · have ff' : f = false := by cases w : f with | true => exact absurd w ff | false => rfl
          obtain ⟨n1, h1⟩ := hstep k b _ hkd hok mc2 n2 (by rw [g2]; exact e25) (by rw [g2]; exact hrow1) b2 hb7 (fun u4 fr4 g25 gr gb => on u4 (fr2.trans fr4) g25 gr gb)
          exact ⟨n1 + 1, head k n1 u mc e25 (by omega) ⟨fun _ => m_pays_x okHH mc hkH (fun _ => ⟨fun w => absurd w ne, fun _ => ⟨fun _ => h1, fun w => absurd ((bI_0 f).mpr ff') w⟩⟩) (fun w => absurd hp w), fun w => absurd lt w⟩⟩
      · -- firm, and something falls
        have ff : f = true := Classical.byContradiction (fun w => hf (fun z => absurd z w))
        have hw : fwo M (S ||| 2 ^ k) ≠ 0 := fun w => hf (fun _ => w)
        have sm3 : sm0 (pyS H k (rsC L u)) (flS (pyp H k) (pyS H k (rsC L u))) := sm0_up _ 5 _ (by omega)
        have g3 : ga (flS (pyp H k) (pyS H k (rsC L u))) 25 = ga (rsC L u) 25 := (sm3.1 25 (by decide)).trans g2
        have en : nxC M f n S row k b = b := if_neg (fun q => hf (okC_p q).2)
        obtain ⟨n1, h1⟩ := on (flS (pyp H k) (pyS H k (rsC L u))) (fr2.trans (sm0_Fr sm3)) (by rw [g3]; exact e25) (by rw [g3]; exact hrow1) (by rw [en]; exact sm0_bs sm3 b2)
        exact ⟨n1 + 1, head k n1 u mc e25 (by omega) ⟨fun _ => m_pays_x okHH mc hkH (fun _ => ⟨fun w => absurd w ne, fun _ => ⟨fun w => by rw [bI_0, ff] at w; exact absurd w (by decide), fun _ => m_falling_x hrel'.1 mc2 ⟨fun w => absurd w (fz.2 hw), fun _ => h1⟩⟩⟩) (fun w => absurd hp w), fun w => absurd lt w⟩⟩
    · have en : nxC M f n S row k b = b := nx_skip (fun w => hp ((pay_iff ok hrel hkd).mpr w))
      obtain ⟨n1, h1⟩ := on (rsC L u) FrC.rfl e25 hrow1 (by rw [en]; exact hb)
      exact ⟨n1 + 1, head k n1 u mc e25 (by omega) ⟨fun _ => m_pays_x okHH mc hkH (fun w => absurd w hp) (fun _ => ⟨fun _ => h1, fun w => absurd rfl w⟩), fun w => absurd lt w⟩⟩
theorem fl_len {M : MH} (ok : okH M) {f : Bool} : ∀ n S row b, pc S = row.length → subS S (opn M) → b.length ≤ 7 → (flC M f n S row b).length ≤ 7 := by
  have h7 := ok_nd ok
  have hg := goal_le ok
  intro n
  induction n with
  | zero => intro S row b _ _ h; exact h
  | succ n ih =>
    intro S row b hp hs hb
    rw [flC]
    have key : ∀ m i b, i + m = M 2 0 → b.length ≤ 7 → (flL (fun i b => if okC M f S i then flC M f n (S ||| 2 ^ i) (row ++ [i]) (rcd (row ++ [i]) b) else b) m i b).length ≤ 7 := by
      intro m
      induction m with
      | zero => intro i b _ h; exact h
      | succ m ih2 =>
        intro i b hi h
        rw [flL]
        refine ih2 (i + 1) _ (by omega) ?_
        by_cases c : okC M f S i = true
        · have c' := (okC_p c).1
          have h2 := pc_or1 (S := S) (d := i) (by omega) c'.2.1
          have h3 := sub_or (show i < M 2 0 by omega) hs c'.1
          have h4 := pc_mono h3
          simp only [if_pos c]
          refine ih _ _ _ (by rw [h2, hp, List.length_append, List.length_singleton]) h3 ?_
          unfold rcd
          rw [List.length_append, List.length_singleton]
          split
          · rw [List.length_append, List.length_singleton]
            omega
          · exact h
        · simp only [if_neg c]
          exact h
    exact key (M 2 0) 0 b (by omega) hb
theorem nx_len {M : MH} (ok : okH M) {f : Bool} {n S : Nat} {row : List Nat} (hp : pc S = row.length) (hs : subS S (opn M)) : ∀ k b, k < M 2 0 → b.length ≤ 7 → (nxC M f n S row k b).length ≤ 7 := fun k b hk h => by
  have h7 := ok_nd ok
  have hg := goal_le ok
  unfold nxC
  by_cases c : okC M f S k = true
  · have c' := (okC_p c).1
    have h2 := pc_or1 (S := S) (d := k) (by omega) c'.2.1
    have h3 := sub_or hk hs c'.1
    have h4 := pc_mono h3
    rw [if_pos c]
    refine fl_len ok _ _ _ _ (by rw [h2, hp, List.length_append, List.length_singleton]) h3 ?_
    unfold rcd
    rw [List.length_append, List.length_singleton]
    split
    · rw [List.length_append, List.length_singleton]
      omega
    · exact h
  · rw [if_neg c]
    exact h
theorem rowR_snoc {g : Nat → Int32} {l : List Nat} {v : Nat} (h : rowR g l) (e : g l.length = nI v) : rowR g (l ++ [v]) := fun k w ek => by
  rw [List.getElem?_append] at ek
  by_cases c : k < l.length
  · rw [if_pos c] at ek
    exact h k w ek
  · rw [if_neg c] at ek
    by_cases c2 : k = l.length
    · subst c2
      rw [Nat.sub_self] at ek
      injection ek with ek
      rw [e, ek]
    · rw [List.getElem?_eq_none (by rw [List.length_singleton]; omega)] at ek
      exact absurd ek (by simp)
theorem chain_lvl {M : MH} {f : Bool} {nm : Nat → Int64} {post : St → Prop} (ok : okH M) (st : setl M) : ∀ (n S : Nat) (row : List Nat) (H : MH) (c : Nat → Int32) (L : Nat), row.length = L → L + (n + 1) = 8 → relC M S H → pc S = row.length → subS S (opn M) → MR c nm 0 0 H → ∀ (m k : Nat) (b : List Nat) (u : St), k + m = M 2 0 → (∀ j, j < 88 → ga u 0 (2368 + 88 * L + j) = c j) → gl u 1 = nm → ga u 25 L = nI k - 1 → rowR (ga u 25) row → bsR u b → b.length ≤ 7 → (∀ u', FrC L u u' → (∀ j, j < 88 → ga u' 0 j = c j) → bsR u' (flL (nxC M f n S row) m k b) → WPc post f (nI L + (-1)) u') → WPc post f (nI L) u := by
  have h7 := ok_nd ok
  have hg := goal_le ok
  intro n
  induction n with
  | zero =>
    intro S row H c L hl hL hrel hpc hsub hc
    refine lvlC ok st (by omega) hl hrel hpc hc (fun k b u2 hk hok _ _ _ _ _ _ _ => ?_) (nx_len ok hpc hsub)
    have c' := (okC_p hok).1
    have h2 := pc_or1 (S := S) (d := k) (by omega) c'.2.1
    have h4 := pc_mono (sub_or hk hsub c'.1)
    omega
  | succ n ih =>
    intro S row H c L hl hL hrel hpc hsub hc
    refine lvlC ok st (by omega) hl hrel hpc hc (fun k b u2 hk hok mc hn h25 hrow hbs hb7 fin => ?_) (nx_len ok hpc hsub)
    have c' := (okC_p hok).1
    have h2 := pc_or1 (S := S) (d := k) (by omega) c'.2.1
    have hsub' := sub_or hk hsub c'.1
    have h4 := pc_mono hsub'
    have hrel' := rel_step ok hrel hk ((pay_iff ok hrel hk).mpr c')
    have hL7 : L < 7 := by omega
    have el : (row ++ [k]).length = L + 1 := by rw [List.length_append, List.length_singleton, hl]
    have hrow' : rowR (ga u2 25) (row ++ [k]) := rowR_snoc hrow (by rw [hl]; exact h25)
    have hr := bsS_R hbs hl hrow'
    have hb1 : (rcd (row ++ [k]) b).length ≤ 7 := by
      unfold rcd
      split
      · rw [el]; omega
      · exact hb7
    have go : ∀ u3, FrC L u2 u3 → ga u3 25 = ga u2 25 → MC u3 (pyp H k) → bsR u3 (rcd (row ++ [k]) b) → WPc post f (nI (L + 1)) (bgC (L + 1) u3) := fun u3 fr3 g25 mc3 bs3 => by
      have hrow3 : ∀ j, j < 88 → ga (bgC (L + 1) u3) 0 (2368 + 88 * (L + 1) + j) = ga u3 0 j := fun j hj => by
        show kpF (2368 + 88 * (L + 1)) 88 (ga u3 0) (2368 + 88 * (L + 1) + j) = ga u3 0 j
        unfold kpF
        rw [if_pos (by omega), show 2368 + 88 * (L + 1) + j - (2368 + 88 * (L + 1)) = j by omega]
      have hn3 : gl u3 1 = nm := fr3.1.2.2.2.2.2.2.2.2.2.2.2.2.trans hn
      have e25 : ∀ j, j < L + 1 → ga (bgC (L + 1) u3) 25 j = ga u2 25 j := fun j hj => by
        show upd (ga u3 25) (L + 1) (-1) j = ga u2 25 j
        rw [upd_at, if_neg (by omega), g25]
      refine ih (S ||| 2 ^ k) (row ++ [k]) (pyp H k) (ga u3 0) (L + 1) el (by omega) hrel' (by rw [h2, hpc, el, hl]) hsub' (by rw [← hn3]; exact mc3) (M 2 0) 0 (rcd (row ++ [k]) b) (bgC (L + 1) u3) (by omega) hrow3 hn3 (by show upd (ga u3 25) (L + 1) (-1) (L + 1) = nI 0 - 1; rw [upd_at, if_pos rfl]; decide) (fun j v e => ?_) bs3 hb1 (fun u' fr' a e => ?_)
      · have hj : j < L + 1 := by
          have := (List.getElem?_eq_some_iff.mp e).1
          omega
        rw [e25 j hj]
        exact hrow' j v e
      · rw [pk_m1]
        have fr : FrC L u2 u' := fr3.trans ((bgC_Fr L u3).trans fr'.dn)
        refine fin u' fr ?_ (fun j v ej => ?_) ?_
        · rw [fr'.2.2 L (by omega), e25 L (by omega)]
          exact h25
        · have hj : j < L := by
            have := (List.getElem?_eq_some_iff.mp ej).1
            omega
          rw [fr'.2.2 j (by omega), e25 j (by omega)]
          exact hrow j v ej
        · have en : nxC M f (n + 1) S row k b = flL (nxC M f n (S ||| 2 ^ k) (row ++ [k])) (M 2 0) 0 (rcd (row ++ [k]) b) := by
            unfold nxC
            rw [if_pos hok]
            rfl
          rw [en]
          exact e
    by_cases cc : L + 1 ≤ b.length
    · obtain ⟨n1, h1⟩ := go u2 FrC.rfl rfl mc (hr.1 cc)
      exact ⟨n1, m_b90 hL7 hbs hb7 hl hrow' (fun _ => m_b136 hL7 h1) (fun w => absurd cc w)⟩
    · obtain ⟨n1, h1⟩ := go (bsS L u2) (bsS_Fr L u2) rfl mc (hr.2 cc)
      exact ⟨n1, m_b90 hL7 hbs hb7 hl hrow' (fun w => absurd w cc) (fun _ => m_b136 hL7 h1)⟩
theorem m_laysChain {M : MH} {f : Bool} {u : St} {post : St → Prop} (ok : okH M) (st : setl M) (h : MC u M) (fin : ∀ u', mKeep u u' → (∀ j, j < 1824 → ga u' 0 j = ga u 0 j) → bsR u' (flC M f 8 0 [] []) → post u') : qX12_laysChain (bI f) u post := fun u66 e66 u67 e67 => by
  show qX12_keeps (2368 + 88 * nI 0) u67 _
  rw [i_lvl]
  refine m_keeps (by omega) (by omega) ?_
  have e : sw u67 0 (kpF (2368 + 88 * 0) 88 (ga u67 0)) = bgC 0 (si u 27 0) := by
    rw [e67, e66]
    rfl
  rw [e]
  have K : ∀ i, ga (bgC 0 (si u 27 0)) 0 i = kpF (2368 + 88 * 0) 88 (ga u 0) i := fun _ => rfl
  refine chain_lvl (nm := gl u 1) (post := post) (f := f) ok st 7 0 [] M (ga u 0) 0 rfl rfl (rel_0 ok) (pcF_0 20) (fun s q => by rw [Nat.zero_testBit] at q; exact absurd q (by decide)) h (M 2 0) 0 [] (bgC 0 (si u 27 0)) (by omega) (fun j hj => ?_) rfl (by show upd (ga u 25) 0 (-1) 0 = nI 0 - 1; rw [upd_at, if_pos rfl]; decide) (fun k v e => absurd e (by simp)) ⟨rfl, fun k v e => absurd e (by simp)⟩ (Nat.zero_le _) (fun u' fr a hb => ⟨1, fun _ => ?_, fun c => absurd (by decide) c⟩)
  · rw [K]
    unfold kpF
    rw [if_pos (by omega), show 2368 + 88 * 0 + j - (2368 + 88 * 0) = j by omega]
  · show qX12_restores (2368 + 88 * nI 0) u' _
    rw [i_lvl]
    refine m_restores (by omega) (by omega) (fin _ fr.1 (fun j hj => ?_) hb)
    show rsF (2368 + 88 * 0) 88 (ga u' 0) j = ga u 0 j
    unfold rsF
    by_cases q : j < 88
    · rw [if_pos q, fr.2.1 _ (by omega) (by omega), K]
      unfold kpF
      rw [if_pos (by omega), show 2368 + 88 * 0 + j - (2368 + 88 * 0) = j by omega]
    · rw [if_neg q, fr.2.1 _ (by omega) (by omega), K]
      unfold kpF
      rw [if_neg (by omega)]
theorem find_loop {M : MH} {f : Bool} {uh u0 : St} {post : St → St → Prop} (fin : ∀ g, (∀ s, s < 128 → g s = 0) → qX0_find_b62 post (sw u0 4 g) uh) : ∀ (m i : Nat) (g : Nat → Int32), i + m = 128 → (∀ s, s < i → g s = 0) → qX0_find_L42 post (m + 1) (nI i) (sw u0 4 g) uh := by
  intro m
  induction m with
  | zero =>
    intro i g hi hg
    have : i = 128 := by omega
    subst this
    exact ⟨fun _ => fin g hg, fun c => absurd (by decide) c⟩
  | succ m ih =>
    intro i g hi hg
    refine ⟨fun c => absurd c (nI_ge (b := 128) (by omega) (by omega)), fun _ => ⟨vp_in_nI (by omega) (by omega), fun u' e z ez => ?_⟩⟩
    rw [nI_clamp (by omega), sw_sw, ga_sw, if_pos rfl] at e
    rw [nI_1] at ez
    subst e; subst ez
    refine ih (i + 1) _ (by omega) (fun s hs => ?_)
    rw [upd_at]
    by_cases c : s = i
    · rw [if_pos c]
      rfl
    · rw [if_neg c]
      exact hg s (by omega)
theorem r_find {M : MH} {f : Bool} {uh u0 : St} {post : St → St → Prop} (ok : okH M) (st : setl M) (hch : CH uh M) (fin : ∀ u0' u1', S11 uh u1' → gi u0' 1 = nI (flC M f 8 0 [] []).length → rowR (ga u0' 0) (flC M f 8 0 [] []) → (flC M f 8 0 [] []).length ≤ 7 → post u0' u1') : qX0_find (bI f) u0 uh post := by
  have h5 := ok_np ok
  have h7 := ok_nd ok
  have hp7 : M 6 0 < 256 := Nat.lt_of_lt_of_le ok.2.2.2.2.2.2.1 (show 2 ^ M 2 0 ≤ 2 ^ 8 from Nat.pow_le_pow_right (by decide) (by omega))
  have hopn := opn_pc ok
  refine ⟨by cases f with | true => exact Or.inr rfl | false => exact Or.inl rfl, fun v1 e1 v2 e2 => ?_⟩
  rw [show gi uh 6 = nI (M 6 0) from ch_k hch (by omega)]
  refine r_bitCount hp7 (fun v3 e3 => ⟨by unfold cpOk; decide, fun v4 e4 => ?_⟩)
  rw [show gi uh 2 = nI (M 2 0) from ch_k hch (by omega), pk_sub (by omega), show M 2 0 - pc (M 6 0) = pc (opn M) by omega] at e3
  rw [show (0 : Int32).toNatClampNeg = 0 from rfl, show (5 : Int32).toNatClampNeg = 5 from rfl] at e4
  have := find_loop (M := M) (f := f) (uh := uh) (u0 := v4) (post := post) (fun g hg => by
    have eres : resC M f 8 0 [] [] = flC M f 8 0 [] [] := by
      unfold resC
      rw [if_pos (fun _ => fwo_0 M)]
      rfl
    refine r_ext (f := f) ok st hch 8 0 [] M [] (fun _ => false) (sw v4 4 g) uh post rfl (rel_0 ok) (pcF_0 20) (fun s q => by rw [Nat.zero_testBit] at q; exact absurd q (by decide)) ⟨by rw [e4, e3, e2, e1]; rfl, by rw [e4, e3]; rfl, by rw [e4, e3, e2]; rfl, fun k v e => absurd e (by simp), fun k v e => absurd e (by simp), fun p hp => ?_, fun s hs => hg s hs⟩ S11.rfl (Nat.zero_le _) (fun s _ h2 => absurd (show false = true from h2) (by decide)) (fun u0' u1' sn' a1 a2 a3 a4 _ => ?_)
    · rw [e4]
      show va_cpy (ga uh 12) _ 0 0 5 p = nI (M 12 p)
      rw [cp_at (by omega)]
      exact (hch.2.2.1 p hp).1
    · rw [eres] at a1 a3
      exact fin u0' u1' a2 a1.2.2.1 a1.2.2.2.1 a3) 128 0 (ga v4 4) (by omega) (fun s hs => absurd hs (by omega))
  rw [sw_same] at this
  exact ⟨_, this⟩
theorem rr_18 {cs : Nat → St} {ms ms1 u5 u18 : St} (h : RR cs ms) (v : Int32) (hs : S11 (cs 5) u5) (hk : mKeep ms ms1) (ha : ∀ j, j < 1824 → ga ms1 0 j = ga ms 0 j) : RR (va_up (va_up (va_up cs 0 (si (cs 0) 0 v)) 5 u5) 18 u18) (si ms1 2 v) := by
  obtain ⟨M, ok, st, hc, hm, ht⟩ := rr_house h
  have q := rr_put h (M' := M) (u5 := u5) (ms1 := si ms1 2 v) (v := v) ok st (hs.ch hc) (MR_congr ok (fun j hj => by rw [Nat.zero_add]; exact ha j (by omega)) (fun j _ => by show gl ms1 1 (0 + j) = gl ms 1 (0 + j); rw [hk.2.2.2.2.2.2.2.2.2.2.2.2]) hm) (TR_congr rfl rfl (ha 7 (by omega)) (fun j _ h2 => by rw [Nat.mul_zero, Nat.zero_add]; exact ha j (by omega)) ht) hk rfl (fun j _ h2 => ha j h2)
  obtain ⟨h1, h2, h3, h4, h5, h6, h7, h8⟩ := q
  exact ⟨h1, h2, h3, h4, h5, h6, h7, h8⟩
theorem sp_chain : SP_chain RR := fun x cs ms h => by
  obtain ⟨M, ok, st, hc, hm, ht⟩ := rr_house h
  have mw : ∀ {post : Int32 → St → Prop}, (x.toInt < 0 ∨ 1 < x.toInt → post (-1) (si ms 2 1)) → (0 ≤ x.toInt → x.toInt ≤ 1 → ((¬ x = (1 : Int32) → qX12_chain_b26 post (0 : Int32) ms) ∧ (x = (1 : Int32) → qX12_chain_b26 post (1 : Int32) ms))) → qX12_chain x ms post := fun f g => by
    have e0 : (0 : Int32).toInt = 0 := rfl
    have e1 : (1 : Int32).toInt = 1 := rfl
    refine ⟨fun c => m_refuse (f (by rw [i_lt] at c; omega)), fun c => ⟨fun c2 => g ?_ ?_, fun c2 => m_refuse (f ?_)⟩⟩
    · rw [i_lt] at c; omega
    · rw [i_le] at c2; omega
    · rw [i_le] at c2; omega
  have hr : ∀ v, RR (va_up (va_up (va_up cs 0 (si (cs 0) 0 v)) 5 (cs 5)) 18 (cs 18)) (si ms 2 v) := fun v => rr_18 h v S11.rfl mSame.rfl.1 (fun _ _ => rfl)
  have go : ∀ f : Bool, (∀ {post : Int32 → St → Prop}, qX12_chain_b26 post (bI f) ms → qX12_chain x ms post) → qX11_chain_b33 (fun r u0 u5 u18 => qX12_chain x ms (fun r1 ms1 => r = r1 ∧ RR (va_up (va_up (va_up cs 0 u0) 5 u5) 18 u18) ms1)) (bI f) (cs 0) (cs 5) (cs 18) := fun f mo => by
    refine r_find ok st hc (fun v0 v1 h11 g1 _ _ => ?_)
    rw [g1]
    refine r_answer (mo (m_laysChain ok st hm (fun u' k a hb => ?_)))
    rw [hb.1]
    exact m_gives ⟨rfl, rr_18 h 0 h11 k a⟩
  refine r_within 0 1 rfl rfl (fun p q => ⟨fun _ => ⟨fun c => ?_, fun c => ?_⟩, fun c => absurd c (by decide)⟩) (fun p => ⟨fun c => absurd rfl c, fun _ => r_refuse (mw (fun _ => ⟨rfl, hr 1⟩) (fun a b => absurd p (by omega)))⟩)
  · exact go false (fun b => mw (fun a => absurd a (by omega)) (fun _ _ => ⟨fun _ => b, fun w => absurd w c⟩))
  · exact go true (fun b => mw (fun a => absurd a (by omega)) (fun _ _ => ⟨fun w => absurd c w, fun _ => b⟩))
theorem sp_chainAt : SP_chainAt RR := fun x y cs ms h => by
  obtain ⟨M, ok, st, hc, hm, ht⟩ := rr_house h
  have e0 : (0 : Int32).toInt = 0 := rfl
  have e1 : (1 : Int32).toInt = 1 := rfl
  have mw : ∀ {post : Int32 → St → Prop}, (x.toInt < 0 ∨ 1 < x.toInt ∨ y.toInt < 0 → post (-1) (si ms 2 1)) → (0 ≤ x.toInt → x.toInt ≤ 1 → 0 ≤ y.toInt → ((¬ x = (1 : Int32) → qX12_chainAt_b30 post y (0 : Int32) ms) ∧ (x = (1 : Int32) → qX12_chainAt_b30 post y (1 : Int32) ms))) → qX12_chainAt x y ms post := fun f g => by
    refine ⟨fun c => m_refuse (f (by rw [i_lt] at c; omega)), fun c => ⟨fun c2 => m_refuse (f (by rw [i_lt] at c2; omega)), fun c2 => ⟨fun c3 => g ?_ ?_ ?_, fun c3 => m_refuse (f ?_)⟩⟩⟩
    · rw [i_lt] at c; omega
    · rw [i_lt] at c2; omega
    · rw [i_le] at c3; omega
    · rw [i_le] at c3; omega
  have hr : ∀ v, RR (va_up (va_up (va_up cs 0 (si (cs 0) 0 v)) 5 (cs 5)) 18 (cs 18)) (si ms 2 v) := fun v => rr_18 h v S11.rfl mSame.rfl.1 (fun _ _ => rfl)
  refine r_within 0 1 rfl rfl (fun p q => ⟨fun c => absurd c (by decide), fun _ => ⟨fun cy => ?_, fun cy => r_refuse (mw (fun _ => ⟨rfl, hr 1⟩) (fun _ _ w => absurd (by rw [i_le, e0]; exact w) cy))⟩⟩) (fun p => ⟨fun _ => r_refuse (mw (fun _ => ⟨rfl, hr 1⟩) (fun a b => absurd p (by omega))), fun c => absurd rfl c⟩)
  have cy' : 0 ≤ y.toInt := by rw [i_le, e0] at cy; exact cy
  obtain ⟨j, hj, rfl⟩ := nI_of (x := y) (fun w => by rw [i_lt] at w; omega)
  have go : ∀ f : Bool, (∀ {post : Int32 → St → Prop}, qX12_chainAt_b30 post (nI j) (bI f) ms → qX12_chainAt x (nI j) ms post) → qX11_chainAt_b37 (fun r u0 u5 u18 => qX12_chainAt x (nI j) ms (fun r1 ms1 => r = r1 ∧ RR (va_up (va_up (va_up cs 0 u0) 5 u5) 18 u18) ms1)) (nI j) (bI f) (cs 0) (cs 5) (cs 18) := fun f mo => by
    refine r_find ok st hc (fun v0 v1 h11 g1 g2 g7 => ?_)
    rw [g1, nI_ltI hj (by omega)]
    refine ⟨fun c => ⟨vp_in_nI (by omega) (by omega), ?_⟩, fun c => r_refuse (mo (m_laysChain ok st hm (fun u' k a hb => ?_)))⟩
    · have ev : (flC M f 8 0 [] [])[j]? = some ((flC M f 8 0 [] [])[j]'c) := List.getElem?_eq_getElem c
      rw [nI_clamp hj, g2 j _ ev]
      refine r_answer (mo (m_laysChain ok st hm (fun u' k a hb => ?_)))
      rw [hb.1, nI_ltI hj (by omega), nI_clamp hj, hb.2 j _ ev]
      exact ⟨fun _ => ⟨vp_in_nI (by omega) (by omega), m_gives ⟨rfl, rr_18 h 0 h11 k a⟩⟩, fun w => absurd c w⟩
    · rw [hb.1, nI_ltI hj (by omega)]
      exact ⟨fun w => absurd w c, fun _ => m_refuse ⟨rfl, rr_18 h 6 h11 k a⟩⟩
  refine ⟨fun c => ?_, fun c => ?_⟩
  · exact go false (fun b => mw (fun a => absurd a (by omega)) (fun _ _ _ => ⟨fun _ => b, fun w => absurd w c⟩))
  · exact go true (fun b => mw (fun a => absurd a (by omega)) (fun _ _ _ => ⟨fun w => absurd c w, fun _ => b⟩))
