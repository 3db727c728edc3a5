/-! a whole text -/
def PX (w w' : zW) : Prop := ∀ k, k ≠ 42 → ¬ (10 ≤ k ∧ k < 18) → w' k = w k
theorem PX.tr {w w1 w2 : zW} (h : PX w w1) (g : PX w1 w2) : PX w w2 := fun k a b => (g k a b).trans (h k a b)
/-- the end of the tape is reached with no fault -/
def EN (N : Nat) (wc wm : zW) (Q : zP) (d : Nat) : Prop := CR wc 10 Q ∧ PG wm Q d ∧ OT Q ∧ d < 8 ∧ wc 42 8 = nI d ∧ wm 56 16 = hw d ∧ wc 42 10 = 0 ∧ wm 56 20 = 0 ∧ wm 56 23 = nI N ∧ wc 42 2 = nI N
theorem ls_loop {c : Nat → Nat} {N : Nat} (j : zW → Option zW) (j2 : Int32 → zW → Option (Int32 × zW)) : ∀ (k s i n n' ln : Nat) (wc wm : zW) (Q : zP) (a b d : Nat), N - s ≤ k → i ≤ s → k + 1 < n → k + 2 < n' → zLS c N s wc wm Q a b d → wc 42 9 = nI ln → ∃ wc' wm' ln', zfix2 (b_X2_readAll_52 j j) n (nI i) wc = j wc' ∧ zfix2 (b_X4_text_68 j2) n' (nI ln) wm = j2 (nI ln') wm' ∧ PX wc wc' ∧ QW wm wm' ∧ (FL wc' wm' ∨ (wc' 42 9 = nI ln' ∧ ∃ Q' d', EN N wc' wm' Q' d')) := by
  intro k
  induction k with
  | zero =>
    intro s i n n' ln wc wm Q a b d hk hi hn hn' hL h9
    obtain ⟨n, rfl⟩ : ∃ m, n = m + 1 := ⟨n - 1, by omega⟩
    obtain ⟨n', rfl⟩ : ∃ m, n' = m + 1 := ⟨n' - 1, by omega⟩
    obtain ⟨hP, hQ, hC, hG, hO, ⟨t1, t2, t3⟩, ⟨d1, d2, d3, d4⟩⟩ := id hL
    have hs := hP.2.1
    have hN := hP.1.1
    have tb := t_b c hs
    obtain ⟨w1, e1, f1, g1, g2⟩ := k_nx hP
    have k0 : tK c N s = 0 := by
      by_cases q : tK c N s = 0
      · exact q
      · have := tb.2.2.1 q; omega
    have hB : tB c N s = false := by unfold tB; rw [k0]; rfl
    obtain ⟨p1, p2, p3⟩ := g1 hB
    have c160 : (160 : Int32) < nI i ↔ 160 < i := nI_ltI (a := 160) (by decide) (by omega)
    refine ⟨w1, wm, ln, ?_, ?_, fun q a _ => f1.1 q a, QW.rf, .inr ⟨?_, Q, d, hC.pf f1, hG, hO, d3, ?_, d4, p3.2.2.2, hQ.2.2.2.2.1 hB, ?_, p2.2.2⟩⟩
    · show b_X2_readAll_52 _ _ (zfix2 _ n) _ _ = _
      generalize zfix2 (b_X2_readAll_52 j j) n = kk
      unfold b_X2_readAll_52
      rw [if_neg (fun q => absurd (c160.mp q) (by omega)), e1, zbd2s, hB, if_neg (show ¬ zbi (!false) = 0 from n10), p1.2.2.1, k0, if_pos (show nI 0 = 0 from rfl)]
    · show b_X4_text_68 _ (zfix2 _ n') _ _ = _
      generalize zfix2 (b_X4_text_68 j2) n' = kk
      unfold b_X4_text_68
      rw [if_pos (hQ.2.2.2.2.1 hB), hQ.2.2.2.1.2.2.1, k0, if_pos (show nI 0 = 0 from rfl)]
    · rw [f1.2 9 (by decide) (by decide) (by decide) (by decide) (by decide) (by decide)]; exact h9
    · rw [f1.2 8 (by decide) (by decide) (by decide) (by decide) (by decide) (by decide)]; exact d1
    · rw [hQ.2.2.2.1.1, (tb.2.2.2.2.2 k0).1]
  | succ k ih =>
    intro s i n n' ln wc wm Q a b d hk hi hn hn' hL h9
    obtain ⟨n, rfl⟩ : ∃ m, n = m + 1 := ⟨n - 1, by omega⟩
    obtain ⟨n', rfl⟩ : ∃ m, n' = m + 2 := ⟨n' - 2, by omega⟩
    obtain ⟨hP, hQ, hC, hG, hO, ⟨t1, t2, t3⟩, ⟨d1, d2, d3, d4⟩⟩ := id hL
    have hs := hP.2.1
    have hN := hP.1.1
    have tb := t_b c hs
    obtain ⟨w1, e1, f1, g1, g2⟩ := k_nx hP
    have c160 : (160 : Int32) < nI i ↔ 160 < i := nI_ltI (a := 160) (by decide) (by omega)
    cases hB : tB c N s with
    | true =>
      obtain ⟨y1, y2⟩ := hQ.2.2.2.2.2 hB
      refine ⟨w1, wm, ln, ?_, ?_, fun q a _ => f1.1 q a, QW.rf, .inl ⟨1, by decide, by decide, (g2 hB).1, y1, by rw [y2, (g2 hB).2]⟩⟩
      · show b_X2_readAll_52 _ _ (zfix2 _ n) _ _ = _
        generalize zfix2 (b_X2_readAll_52 j j) n = kk
        unfold b_X2_readAll_52
        rw [if_neg (fun q => absurd (c160.mp q) (by omega)), e1, zbd2s, hB, if_pos (show zbi (!true) = 0 from rfl)]
      · show b_X4_text_68 _ (zfix2 _ (n' + 1)) _ _ = _
        generalize zfix2 (b_X4_text_68 j2) (n' + 1) = kk
        unfold b_X4_text_68
        rw [y1, if_neg n10]
    | false =>
      obtain ⟨p1, p2, p3⟩ := g1 hB
      by_cases k0 : tK c N s = 0
      · refine ⟨w1, wm, ln, ?_, ?_, fun q a _ => f1.1 q a, QW.rf, .inr ⟨?_, Q, d, hC.pf f1, hG, hO, d3, ?_, d4, p3.2.2.2, hQ.2.2.2.2.1 hB, ?_, p2.2.2⟩⟩
        · show b_X2_readAll_52 _ _ (zfix2 _ n) _ _ = _
          generalize zfix2 (b_X2_readAll_52 j j) n = kk
          unfold b_X2_readAll_52
          rw [if_neg (fun q => absurd (c160.mp q) (by omega)), e1, zbd2s, hB, if_neg (show ¬ zbi (!false) = 0 from n10), p1.2.2.1, k0, if_pos (show nI 0 = 0 from rfl)]
        · show b_X4_text_68 _ (zfix2 _ (n' + 1)) _ _ = _
          generalize zfix2 (b_X4_text_68 j2) (n' + 1) = kk
          unfold b_X4_text_68
          rw [if_pos (hQ.2.2.2.2.1 hB), hQ.2.2.2.1.2.2.1, k0, if_pos (show nI 0 = 0 from rfl)]
        · rw [f1.2 9 (by decide) (by decide) (by decide) (by decide) (by decide) (by decide)]; exact h9
        · rw [f1.2 8 (by decide) (by decide) (by decide) (by decide) (by decide) (by decide)]; exact d1
        · rw [hQ.2.2.2.1.1, (tb.2.2.2.2.2 k0).1]
      · obtain ⟨r, wc2, wm2, x1, x2, x3, x4, x5⟩ := ls_line hL hB k0 f1 p1 p3
        have nk0 : ¬ nI (tK c N s) = 0 := fun q => k0 ((zeq0 (by omega)).mp q)
        have h9' : wc2 42 9 = nI ln := by rw [x3.2, f1.2 9 (by decide) (by decide) (by decide) (by decide) (by decide) (by decide)]; exact h9
        have px : PX wc wc2 := fun q a b => (x3.1 q a b).trans (f1.1 q a)
        rcases x5 with ⟨rfl, hf⟩ | ⟨rfl, s', Q', a', b', d', s1, hL'⟩
        · obtain ⟨kk, q1, q2, q3⟩ := hf.b
          refine ⟨wc2, wm2, ln + 1, ?_, ?_, px, x4, .inl hf⟩
          · show b_X2_readAll_52 _ _ (zfix2 _ n) _ _ = _
            generalize zfix2 (b_X2_readAll_52 j j) n = kk
            unfold b_X2_readAll_52
            rw [if_neg (fun q => absurd (c160.mp q) (by omega)), e1, zbd2s, hB, if_neg (show ¬ zbi (!false) = 0 from n10), p1.2.2.1, if_neg nk0, x1, zbd2s, if_pos rfl]
          · have st : zfix2 (b_X4_text_68 j2) (n' + 1) (nI (ln + 1)) wm2 = j2 (nI (ln + 1)) wm2 := by
              show b_X4_text_68 _ (zfix2 _ n') _ _ = _
              generalize zfix2 (b_X4_text_68 j2) n' = k2
              unfold b_X4_text_68
              rw [if_neg (by rw [q1]; exact nI_ne0 q2 q3)]
            show b_X4_text_68 _ (zfix2 _ (n' + 1)) _ _ = _
            generalize zfix2 (b_X4_text_68 j2) (n' + 1) = k2 at st ⊢
            unfold b_X4_text_68
            simp only [zletE]
            rw [if_pos (hQ.2.2.2.2.1 hB), hQ.2.2.2.1.2.2.1, if_neg nk0, x2, zbds, show nI ln + 1 = nI (ln + 1) from nI_1 _]
            exact st
        · have hL2 : zLS c N s' (zup wc2 42 9 (nI (ln + 1))) wm2 Q' a' b' d' := by
            obtain ⟨aP, aQ, aC, aG, aO, ⟨b1, b2, b3⟩, ⟨c1, c2, c3, c4⟩⟩ := hL'
            exact ⟨aP.z _ _ _ (by omega), aQ, aC.frame (fun q _ _ => zup_n _ _ _ (by omega)), aG, aO, ⟨by rw [zup_s, upd_n _ _ (by decide)]; exact b1, b2, b3⟩, ⟨by rw [zup_s, upd_n _ _ (by decide)]; exact c1, c2, c3, c4⟩⟩
          obtain ⟨wc', wm', ln', z1, z2, z3, z4, z5⟩ := ih s' (i + 1) n (n' + 1) (ln + 1) (zup wc2 42 9 (nI (ln + 1))) wm2 Q' a' b' d' (by omega) (by omega) (by omega) (by omega) hL2 (by rw [zup_s, upd_s])
          refine ⟨wc', wm', ln', ?_, ?_, (px.tr (fun q a _ => zup_n _ _ _ a)).tr z3, x4.tr z4, z5⟩
          · show b_X2_readAll_52 _ _ (zfix2 _ n) _ _ = _
            generalize zfix2 (b_X2_readAll_52 j j) n = kk at z1 ⊢
            unfold b_X2_readAll_52
            simp only [zletE]
            rw [if_neg (fun q => absurd (c160.mp q) (by omega)), e1, zbd2s, hB, if_neg (show ¬ zbi (!false) = 0 from n10), p1.2.2.1, if_neg nk0, x1, zbd2s, if_neg n10, h9', show nI ln + 1 = nI (ln + 1) from nI_1 _, show nI i + 1 = nI (i + 1) from nI_1 _]
            exact z1
          · show b_X4_text_68 _ (zfix2 _ (n' + 1)) _ _ = _
            generalize zfix2 (b_X4_text_68 j2) (n' + 1) = k2 at z2 ⊢
            unfold b_X4_text_68
            simp only [zletE]
            rw [if_pos (hQ.2.2.2.2.1 hB), hQ.2.2.2.1.2.2.1, if_neg nk0, x2, zbds, show nI ln + 1 = nI (ln + 1) from nI_1 _]
            exact z2
/-! wells told dry, at the end -/
def m_dr (Q : zP) (d : Nat) : Nat → zP
  | 0 => Q
  | t + 1 => if d / 2 ^ t % 2 = 1 then pu (m_dr Q d t) (70 + t) 0 else m_dr Q d t
theorem m_dr_at (Q : zP) (d : Nat) : ∀ t j, m_dr Q d t j = if 70 ≤ j ∧ j < 70 + t ∧ d / 2 ^ (j - 70) % 2 = 1 then 0 else Q j
  | 0, j => by
    simp only [m_dr]
    rw [if_neg (by omega)]
  | t + 1, j => by
    have h := m_dr_at Q d t j
    simp only [m_dr]
    by_cases b : d / 2 ^ t % 2 = 1
    · rw [if_pos b]
      by_cases e : j = 70 + t
      · subst e
        rw [pu_s, if_pos ⟨by omega, by omega, by rw [show 70 + t - 70 = t by omega]; exact b⟩]
      · rw [pu_n _ _ e, h]
        by_cases q : 70 ≤ j ∧ j < 70 + t ∧ d / 2 ^ (j - 70) % 2 = 1
        · rw [if_pos q, if_pos ⟨q.1, by omega, q.2.2⟩]
        · rw [if_neg q, if_neg (fun z => q ⟨z.1, by omega, z.2.2⟩)]
    · rw [if_neg b, h]
      by_cases q : 70 ≤ j ∧ j < 70 + t ∧ d / 2 ^ (j - 70) % 2 = 1
      · rw [if_pos q, if_pos ⟨q.1, by omega, q.2.2⟩]
      · rw [if_neg q, if_neg (fun z => q ⟨z.1, by
          by_cases e : j = 70 + t
          · subst e
            have := z.2.2
            rw [show 70 + t - 70 = t by omega] at this
            exact absurd this b
          · omega, z.2.2⟩)]
theorem m_dr_ok {Q : zP} (h : OT Q) (d : Nat) {t : Nat} : Ok (m_dr Q d t) ∧ m_dr Q d t 0 = Q 0 ∧ m_dr Q d t 1 = Q 1 ∧ m_dr Q d t 4 = Q 4 := by
  obtain ⟨⟨⟨h0, h1, h2, h3, h5, h6, h7, h8⟩, hp, hw⟩, g3, g4, gw⟩ := h
  have e : ∀ k, k < 70 → m_dr Q d t k = Q k := fun k hk => by rw [m_dr_at, if_neg (by omega)]
  refine ⟨⟨⟨by rw [e 0 (by decide)]; exact h0, by rw [e 1 (by decide)]; exact h1, by rw [e 2 (by decide)]; exact h2, by rw [e 3 (by decide)]; exact h3, by rw [e 5 (by decide)]; exact h5, by rw [e 6 (by decide)]; exact h6, by rw [e 7 (by decide)]; exact h7, by rw [e 8 (by decide)]; exact h8⟩, fun p hpp => ?_, fun i hi => ?_⟩, e 0 (by decide), e 1 (by decide), e 4 (by decide)⟩
  · rw [e 0 (by decide)] at hpp
    rw [e _ (by omega), e _ (by omega), e _ (by omega)]; exact hp p hpp
  · rw [e 1 (by decide)] at hi
    rw [e _ (by omega), e _ (by omega), e _ (by omega)]
    obtain ⟨z1, z2, z3, z4, z5, z6⟩ := hw i hi
    refine ⟨z1, z2, z3, z4, z5, ?_⟩
    rw [m_dr_at]
    split
    · omega
    · exact z6
theorem dry_h : ∀ d, d < 8 → ∀ q, q < 4 → (hw d < nI q ↔ ∀ i, i < 3 → d / 2 ^ i % 2 = 1 → i < q) := by decide +kernel
theorem k_dryL {w0 : zW} {N : Nat} {Q : zP} {d : Nat} (hO : OT Q) (hd : d < 8) : ∀ (k t n : Nat) (w : zW), t + k = 3 → k < n → CR w 10 (m_dr Q d t) → (∀ i, i < t → d / 2 ^ i % 2 = 1 → i < Q 1) → w 42 = w0 42 → w0 42 8 = nI d → w0 42 2 = nI N → PX w0 w → ∃ w', zfix2 (b_X2_dryUpWells_2 (fun w1 => zbd2 (f_X2_fail w1 6 (w1 42 2)) fun v3 w2 => some w2)) n (nI t) w = some w' ∧ PX w0 w' ∧ w' 42 9 = w0 42 9 ∧ (((∀ i, i < 3 → d / 2 ^ i % 2 = 1 → i < Q 1) ∧ CR w' 10 (m_dr Q d 3) ∧ w' 42 10 = w0 42 10) ∨ (¬ (∀ i, i < 3 → d / 2 ^ i % 2 = 1 → i < Q 1) ∧ w' 42 10 = 6 ∧ w' 42 11 = nI N)) := by
  have b1 := hO.1.1.2.1
  intro k
  induction k with
  | zero =>
    intro t n w ht hn hc hb h42 h8 h2 hf
    obtain ⟨n, rfl⟩ : ∃ m, n = m + 1 := ⟨n - 1, by omega⟩
    have e3 : t = 3 := by omega
    subst e3
    refine ⟨w, ?_, hf, by rw [h42], .inl ⟨hb, hc, by rw [h42]⟩⟩
    show b_X2_dryUpWells_2 _ (zfix2 _ n) _ _ = _
    generalize zfix2 (b_X2_dryUpWells_2 (fun w1 => zbd2 (f_X2_fail w1 6 (w1 42 2)) fun v3 w2 => some w2)) n = kk
    unfold b_X2_dryUpWells_2
    rw [if_pos (by decide)]
  | succ k ih =>
    intro t n w ht hn hc hb h42 h8 h2 hf
    obtain ⟨n, rfl⟩ : ∃ m, n = m + 1 := ⟨n - 1, by omega⟩
    obtain ⟨o1, o2, o3, o4⟩ := m_dr_ok hO d (t := t)
    have c3 : (3 : Int32) ≤ nI t ↔ 3 ≤ t := nI_leI (a := 3) (by decide) (by omega)
    have bt := (dry_t d hd t (by omega)).1
    have cw : nI t < nI (Q 1) ↔ t < Q 1 := nI_ltI (by omega) (by omega)
    have hw8 : w 42 8 = nI d := by rw [h42]; exact h8
    have e1 : nI t + 1 = nI (t + 1) := nI_1 _
    by_cases b : d / 2 ^ t % 2 = 1
    · by_cases q : t < Q 1
      · have hc' : CR (zup w (10 + 7) t (nI 0)) 10 (m_dr Q d (t + 1)) := by
          have := hc.fw o1.1.1 o1.1.2.1 7 70 0 (by omega) (i := t) (by rw [o3]; exact q)
          rw [show m_dr Q d (t + 1) = pu (m_dr Q d t) (70 + t) 0 from by simp only [m_dr]; rw [if_pos b]]
          exact this
        obtain ⟨w', g1, g2, g3, g4⟩ := ih (t + 1) n (zup w (10 + 7) t (nI 0)) (by omega) (by omega) hc' (fun i hi hbi => by
          by_cases e : i = t
          · subst e; exact q
          · exact hb i (by omega) hbi) (by rw [zup_n _ _ _ (by decide)]; exact h42) h8 h2 (hf.tr (fun z _ z2 => zup_n _ _ _ (by omega)))
        refine ⟨w', ?_, g2, g3, g4⟩
        show b_X2_dryUpWells_2 _ (zfix2 _ n) _ _ = _
        generalize zfix2 (b_X2_dryUpWells_2 (fun w1 => zbd2 (f_X2_fail w1 6 (w1 42 2)) fun v3 w2 => some w2)) n = kk at g1 ⊢
        unfold b_X2_dryUpWells_2
        simp only [zletE, zjn1E]
        rw [if_neg (fun z => absurd (c3.mp z) (by omega)), hw8, if_pos (bt.mpr b), hc.wl, o3, if_pos (cw.mpr q), zgt (zin_nI (by omega) (by decide)), zxI (by omega), znar0, e1]
        exact g1
      · refine ⟨zup (zup w 42 10 6) 42 11 (nI N), ?_, hf.tr (fun z z1 _ => by rw [zup_n _ _ _ z1, zup_n _ _ _ z1]), ?_, .inr ⟨fun z => q (z t (by omega) b), rfl, rfl⟩⟩
        · show b_X2_dryUpWells_2 _ (zfix2 _ n) _ _ = _
          generalize zfix2 (b_X2_dryUpWells_2 (fun w1 => zbd2 (f_X2_fail w1 6 (w1 42 2)) fun v3 w2 => some w2)) n = kk
          unfold b_X2_dryUpWells_2
          simp only [zletE, zjn1E, k_fail, zbd2sE]
          rw [if_neg (fun z => absurd (c3.mp z) (by omega)), hw8, if_pos (bt.mpr b), hc.wl, o3, if_neg (fun z => q (cw.mp z)), h42, h2]
        · rw [zup_s, upd_n _ _ (by decide), zup_s, upd_n _ _ (by decide), h42]
    · obtain ⟨w', g1, g2, g3, g4⟩ := ih (t + 1) n w (by omega) (by omega) (by rw [show m_dr Q d (t + 1) = m_dr Q d t from by simp only [m_dr]; rw [if_neg b]]; exact hc) (fun i hi hbi => by
        by_cases e : i = t
        · subst e; exact absurd hbi b
        · exact hb i (by omega) hbi) h42 h8 h2 hf
      refine ⟨w', ?_, g2, g3, g4⟩
      show b_X2_dryUpWells_2 _ (zfix2 _ n) _ _ = _
      generalize zfix2 (b_X2_dryUpWells_2 (fun w1 => zbd2 (f_X2_fail w1 6 (w1 42 2)) fun v3 w2 => some w2)) n = kk at g1 ⊢
      unfold b_X2_dryUpWells_2
      simp only [zletE, zjn1E]
      rw [if_neg (fun z => absurd (c3.mp z) (by omega)), hw8, if_neg (fun z => b (bt.mp z)), e1]
      exact g1
theorem k_dry {w : zW} {N : Nat} {Q : zP} {d : Nat} (hO : OT Q) (hd : d < 8) (hc : CR w 10 Q) (h8 : w 42 8 = nI d) (h2 : w 42 2 = nI N) : ∃ w', f_X2_dryUpWells w = some w' ∧ PX w w' ∧ w' 42 9 = w 42 9 ∧ ((hw d < nI (Q 1) ∧ CR w' 10 (m_dr Q d 3) ∧ w' 42 10 = w 42 10) ∨ (¬ hw d < nI (Q 1) ∧ w' 42 10 = 6 ∧ w' 42 11 = nI N)) := by
  have b1 := hO.1.1.2.1
  have hh := dry_h d hd (Q 1) (by omega)
  obtain ⟨fu, hfu⟩ : ∃ n : Nat, 100000 = n := ⟨_, rfl⟩
  obtain ⟨w', g1, g2, g3, g4⟩ := k_dryL (w0 := w) (N := N) hO hd 3 0 fu w (by decide) (by omega) hc (fun i hi => absurd hi (by omega)) rfl h8 h2 (fun _ _ _ => rfl)
  refine ⟨w', ?_, g2, g3, ?_⟩
  · unfold f_X2_dryUpWells
    rw [hfu]
    simp only [zjn1E]
    exact g1
  · rw [hh]
    exact g4
