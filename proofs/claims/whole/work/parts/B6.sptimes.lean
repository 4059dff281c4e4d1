/-! STEPS 51: times -/
theorem MR_cong7 {a a1 : Nat → Int32} {nm nm1 : Nat → Int64} {M : MH} (ok : okH M) (ha : ∀ j, j < 88 → j ≠ 7 → a1 j = a j) (hn : ∀ j, j < 5 → nm1 j = nm j) (h : MR a nm 0 0 M) : MR a1 nm1 0 0 M := by
  have o0 := ok_ns ok
  have o1 := ok_np ok
  have o2 := ok_nd ok
  obtain ⟨h1, h2, h3, h4⟩ := h
  have E : ∀ j, j < 88 → j ≠ 7 → a1 j = a j := ha
  refine ⟨fun k hk => (E _ (by omega) (by omega)).trans (h1 k hk), fun s hs => ?_, fun p hp => ⟨(E _ (by omega) (by omega)).trans (h3 p hp).1, ?_⟩, fun d hd => ?_⟩
  · have := h2 s hs
    exact ⟨(E _ (by omega) (by omega)).trans this.1, (E _ (by omega) (by omega)).trans this.2.1, (E _ (by omega) (by omega)).trans this.2.2⟩
  · exact (hn _ (by omega)).trans (h3 p hp).2
  · have := h4 d hd
    exact ⟨(E _ (by omega) (by omega)).trans this.1, (E _ (by omega) (by omega)).trans this.2.1, (E _ (by omega) (by omega)).trans this.2.2.1, (E _ (by omega) (by omega)).trans this.2.2.2.1, (E _ (by omega) (by omega)).trans this.2.2.2.2.1, (E _ (by omega) (by omega)).trans this.2.2.2.2.2.1, (E _ (by omega) (by omega)).trans this.2.2.2.2.2.2⟩
theorem sp_times : SP_times RR := fun x0 cs ms h => by
  rcases rr_text h x0 with ⟨n, N, ex, hn, hN, g4, g10, hx, hx1, hb⟩ | c | ⟨c, c1, e⟩
  · subst ex
    have cx : ¬ nI n < 0 := nI_pos (by omega)
    have cy : ¬ gi (cs 0) 4 < nI n := by rw [g4]; exact nI_nlt hn (by omega)
    by_cases c3 : n ≤ 300
    · obtain ⟨M, ok, hs, hc, hm, ht⟩ := rr_house h
      refine ⟨fun z => absurd z cx, fun _ => ⟨fun z => absurd z cy, fun _ => ⟨fun _ u28 e28 => ?_, fun z => absurd (nI_le (b := 300) c3 (by omega)) z⟩⟩⟩
      have mb : ∀ {bb : St}, bgF ms bb → MR (ga bb 0) (gl bb 1) 0 0 M := fun {bb} hbg => by
        rw [hbg.2.2.2.1 0 (by omega), hbg.2.2.2.2]
        exact hm
      refine c_rdTimes ok hc hx1 (fun u3 u4 u8 S g hI hd hct g0 e => ?_) (fun u3 u4 u8 f pl hf e => ?_)
      · refine c_keep0 g ⟨fun _ => ?_, fun z => absurd rfl z⟩
        intro d ed
        refine d_begin (N := N) (mo := 300) g10 hN hn c3 (by omega) hx hb (fun bb u' hbg hS => ⟨fun _ => ?_, fun z => absurd z (by decide)⟩)
        refine m_rdTimes c3 ok (mb hbg) hS (fun v S2 hI2 hd2 e2 hF hA hL h7 hrw v2 v16 v17 => ?_) (fun v f pl e2 => absurd (e.symm.trans e2) (by intro q; cases q))
        have em : S = S2 := Sum.inl.inj (e.symm.trans e2)
        subst em
        refine ⟨hct.1, ?_⟩
        refine rr_rd h ?_ ⟨?_, ?_⟩ ?_ ⟨?_, ?_⟩ (fun k hk => ?_) hbg hF ⟨M, ⟨ok, hs, hc, MR_cong7 ok (fun j hj j7 => ?_) (fun j hj => ?_) hm⟩, Or.inr ⟨g0, S.2.1, S.1, it_ok hI hd, hct.2.1, h7, fun i hi => ?_⟩⟩
        · rw [v2, ed]; rfl
        · rw [ed, e28]; rfl
        · rw [ed, e28]; rfl
        · rw [ed, e28]; rfl
        · rw [v16, ed, e28]; rfl
        · rw [v17, ed, e28]; rfl
        · simp only [up_at]
          rw [if_neg (by omega), if_neg (by omega), if_neg (by omega), if_neg (by omega), if_neg (by omega), if_neg (by omega), if_neg (by omega)]
        · rw [hA j hj j7, hbg.2.2.2.1 0 (by omega)]
        · rw [hL j (by omega), hbg.2.2.2.2]
        · obtain ⟨q1, q2, q3, q4, q5⟩ := hct.2.2 i hi
          obtain ⟨p1, p2, p3, p4, p5⟩ := hrw i hi
          have X : ∀ j k, k = j → ga v 0 k = ga v 0 j := fun j k e => by rw [e]
          obtain ⟨k1, p1, p1'⟩ := p1
          refine ⟨q1, ⟨k1, p1, (X _ _ (by omega)).trans p1'⟩, fun _ _ _ => ⟨q2, (X _ _ (by omega)).trans p2⟩, fun _ => ⟨q3, (X _ _ (by omega)).trans p3⟩, fun _ => ⟨q4, (X _ _ (by omega)).trans p4⟩, fun z => ⟨q5 z (fun ⟨f, hf, _⟩ => by omega), (X _ _ (by omega)).trans (p5 z)⟩⟩
      · refine c_keep1 hf ⟨fun z => absurd z (nI_f0 hf.2.1 hf.2.2.1).1, fun _ => ?_⟩
        intro d ed
        refine d_begin (N := N) (mo := 300) g10 hN hn c3 (by omega) hx hb (fun bb u' hbg hS => ⟨fun _ => ?_, fun z => absurd z (by decide)⟩)
        refine m_rdTimes c3 ok (mb hbg) hS (fun v S2 hI2 hd2 e2 => absurd (e.symm.trans e2) (by intro q; cases q)) (fun v f2 pl2 e2 hF hA hL v2 v16 v17 => ?_)
        have em := Sum.inr.inj (e.symm.trans e2)
        have em1 : f = f2 := congrArg Prod.fst em
        have em2 : pl = pl2 := congrArg Prod.snd em
        subst em1; subst em2
        refine ⟨rfl, ?_⟩
        refine rr_rd h ?_ ⟨?_, ?_⟩ ?_ ⟨?_, ?_⟩ (fun k hk => ?_) hbg hF (SlR_congr (a := ga ms 0) (nm := gl ms 1) (sl := 0) (fun j hj => ?_) (fun j hj => ?_) ⟨M, ⟨ok, hs, hc, hm⟩, ht⟩)
        · rw [v2, ed]; rfl
        · rw [ed, e28]; rfl
        · rw [ed, e28]; rfl
        · rw [ed, e28]; rfl
        · rw [v16, ed, e28]; rfl
        · rw [v17, ed, e28]; rfl
        · simp only [up_at]
          rw [if_neg (by omega), if_neg (by omega), if_neg (by omega), if_neg (by omega), if_neg (by omega), if_neg (by omega), if_neg (by omega)]
        · rw [hA _ (by omega), hbg.2.2.2.1 0 (by omega)]
        · rw [hL _ (by omega), hbg.2.2.2.2]
    · have c4 : ¬ nI n ≤ 300 := nI_ge (a := 300) (by omega) (by omega)
      refine ⟨fun z => absurd z cx, fun _ => ⟨fun z => absurd z cy, fun _ => ⟨fun z => absurd z c4, fun _ => ?_⟩⟩⟩
      intro d ed
      refine d_begin0 (Or.inr (Or.inr c4)) ⟨fun z => absurd rfl z, fun _ v ev => ?_⟩
      subst ed; subst ev
      exact ⟨rfl, rr_st h 1⟩
  · refine ⟨fun _ => ?_, fun z => absurd c z⟩
    intro d ed
    refine d_begin0 (Or.inl c) ⟨fun z => absurd rfl z, fun _ v ev => ?_⟩
    subst ed; subst ev
    exact ⟨rfl, rr_st h 1⟩
  · refine ⟨fun z => absurd z c, fun _ => ⟨fun _ => ?_, fun z => absurd (by rw [e]; exact c1) z⟩⟩
    intro d ed
    refine d_begin0 (Or.inr (Or.inl c1)) ⟨fun z => absurd rfl z, fun _ v ev => ?_⟩
    subst ed; subst ev
    exact ⟨rfl, rr_st h 1⟩
