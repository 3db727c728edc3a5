/-! all of one kind; one alone -/
def m_kdN (P : zP) (q : Nat) : Nat → zP
  | 0 => P
  | n + 1 => pu (m_kdN P q n) (10 + n) q
theorem m_kdN_ok {P : zP} (h : Ok P) {q : Nat} (hq : q ≤ 4) : ∀ n, n ≤ 4 → Ok (m_kdN P q n) ∧ m_kdN P q n 0 = P 0 ∧ m_kdN P q n 1 = P 1 ∧ m_kdN P q n 4 = P 4
  | 0, _ => ⟨h, rfl, rfl, rfl⟩
  | n + 1, hn => by
    obtain ⟨a, b, c, d⟩ := m_kdN_ok h hq n (by omega)
    refine ⟨a.set (by right; right; right; right; left; exact ⟨n, by omega, rfl, hq⟩), ?_, ?_, ?_⟩
    · simp only [m_kdN]; rw [pu_n _ _ (by omega)]; exact b
    · simp only [m_kdN]; rw [pu_n _ _ (by omega)]; exact c
    · simp only [m_kdN]; rw [pu_n _ _ (by omega)]; exact d
theorem k_alike {w0 : zW} {P : zP} {q : Nat} (hO : Ok P) (hq : q ≤ 4) (j : zW → Option (Int32 × zW)) : ∀ (k t n : Nat) (w : zW), t + k = P 0 → k < n → CR w 10 (m_kdN P q t) → zFQ w0 w → ∃ w', zfix2 (b_X3_alike_22 (nI q) j) n (nI t) w = j w' ∧ CR w' 10 (m_kdN P q (P 0)) ∧ zFQ w0 w' := by
  have b0 := hO.1.1
  intro k
  induction k with
  | zero =>
    intro t n w ht hn hc hf
    obtain ⟨n, rfl⟩ : ∃ m, n = m + 1 := ⟨n - 1, by omega⟩
    obtain ⟨-, o2, -⟩ := m_kdN_ok hO hq t (by omega)
    refine ⟨w, ?_, by rw [show P 0 = t by omega]; exact hc, hf⟩
    show b_X3_alike_22 _ _ (zfix2 _ n) _ _ = _
    generalize zfix2 (b_X3_alike_22 (nI q) j) n = kk
    unfold b_X3_alike_22
    rw [hc.n, o2, if_pos (nI_le (by omega) (by omega))]
  | succ k ih =>
    intro t n w ht hn hc hf
    obtain ⟨n, rfl⟩ : ∃ m, n = m + 1 := ⟨n - 1, by omega⟩
    obtain ⟨o1, o2, -⟩ := m_kdN_ok hO hq t (by omega)
    obtain ⟨w', g1, g2, g3⟩ := ih (t + 1) n (zup w (10 + 1) t (nI q)) (by omega) (by omega) (hc.fp (by rw [o2]; exact b0) 1 10 q (by omega) (by rw [o2]; omega)) (hf.tr (zFQ.up _ (by decide)))
    refine ⟨w', ?_, g2, g3⟩
    show b_X3_alike_22 _ _ (zfix2 _ n) _ _ = _
    generalize zfix2 (b_X3_alike_22 (nI q) j) n = kk at g1 ⊢
    unfold b_X3_alike_22
    simp only [zletE]
    rw [hc.n, o2, if_neg (nI_ge (by omega) (by omega)), zgt (zin_nI (by omega) (by decide)), zxI (by omega), show nI t + 1 = nI (t + 1) from nI_1 _]
    exact g1
theorem PR.skip {w : zW} {g : Nat} {P : zP} (h : PR w g 0 P) (h4 : P 0 ≤ 4) (h3 : P 1 ≤ 3) {d : Nat} (hd : P 0 ≤ d) (hd4 : d < 4) (x : Int32) : PR (zup w 57 (g + d) x) g 0 P := by
  refine h.upc (by omega) h3 d x rfl rfl rfl ?_ ?_ ?_ ?_ ?_ ?_ (fun q hq => ⟨?_, rfl, ?_⟩) (fun k hk => ⟨rfl, ?_, rfl, ?_⟩) <;> (rw [if_neg (by omega)])
theorem q_alike {w0 : zW} {P : zP} {q : Nat} (hO : Ok P) (hq : q ≤ 4) (j : zW → Option (Int32 × zW)) : ∀ (k t n : Nat) (w : zW), t + k = 4 → k < n → PR w 100 0 (m_kdN P q (min t (P 0))) → zMQ w0 w → ∃ w', zfix2 (b_X4_alike_23 (nI q) j) n (nI t) w = j w' ∧ PR w' 100 0 (m_kdN P q (P 0)) ∧ zMQ w0 w' := by
  have b0 := hO.1.1
  intro k
  induction k with
  | zero =>
    intro t n w ht hn hc hf
    obtain ⟨n, rfl⟩ : ∃ m, n = m + 1 := ⟨n - 1, by omega⟩
    refine ⟨w, ?_, by rw [show min t (P 0) = P 0 by omega] at hc; exact hc, hf⟩
    show b_X4_alike_23 _ _ (zfix2 _ n) _ _ = _
    generalize zfix2 (b_X4_alike_23 (nI q) j) n = kk
    unfold b_X4_alike_23
    rw [show t = 4 by omega, if_pos (by decide)]
  | succ k ih =>
    intro t n w ht hn hc hf
    obtain ⟨n, rfl⟩ : ∃ m, n = m + 1 := ⟨n - 1, by omega⟩
    obtain ⟨o1, o2, o3, -⟩ := m_kdN_ok hO hq (min t (P 0)) (by omega)
    have c4 : (4 : Int32) ≤ nI t ↔ 4 ≤ t := nI_leI (a := 4) (by decide) (by omega)
    have hnext : PR (zup w 57 (100 + t) (nI q)) 100 0 (m_kdN P q (min (t + 1) (P 0))) := by
      by_cases d : t < P 0
      · rw [show min t (P 0) = t by omega] at hc o2 o3
        rw [show min (t + 1) (P 0) = t + 1 by omega]
        have := hc.fk (p := t) (by omega) (by rw [o3]; exact hO.1.2.1) (by rw [o2]; exact d) q
        rw [Nat.zero_add] at this
        exact this
      · rw [show min (t + 1) (P 0) = min t (P 0) by omega]
        exact hc.skip (by omega) (by rw [o3]; exact hO.1.2.1) (by omega) (by omega) _
    obtain ⟨w', g1, g2, g3⟩ := ih (t + 1) n (zup w 57 (100 + t) (nI q)) (by omega) (by omega) hnext (hf.tr (zMQ.up _ (by omega)))
    refine ⟨w', ?_, g2, g3⟩
    show b_X4_alike_23 _ _ (zfix2 _ n) _ _ = _
    generalize zfix2 (b_X4_alike_23 (nI q) j) n = kk at g1 ⊢
    unfold b_X4_alike_23
    simp only [zletE]
    rw [if_neg (fun x => absurd (c4.mp x) (by omega)), show (100 : Int32) + nI t = nI (100 + t) from nI_add 100 t, zgt (zin_nI (by omega) (by decide)), zxI (by omega), show nI t + 1 = nI (t + 1) from nI_1 _]
    exact g1
theorem o_alike (w : zW) (h : zJ w) (a1 : Int32) : ∃ (r : Int32) (w1 : zW) (w2 : zW), f_X3_alike w a1 = some (r, w1) ∧ f_X4_alike w1 a1 = some (r, w2) ∧ zJ w2 := by
  obtain ⟨P, hN⟩ := h.1
  obtain ⟨h1, h2, h3, h4, h5⟩ := id hN
  have b0 := h3.1.1
  have b6 := h3.1.2.2.2.2.2.1
  have hin : f_X4_in a1.toInt64 (0 : Int64) (4 : Int64) = f_X3_isKind a1 := in_within a1 0 4
  have hwn : f_X3_isKind a1 = 0 ∨ (f_X3_isKind a1 = 1 ∧ ∃ p, p ≤ 4 ∧ a1 = nI p) := winL a1 4 (by decide)
  unfold f_X3_alike f_X4_alike
  simp only [zjn1E]
  rw [hin]
  rcases hwn with e | ⟨e, q, hq, rfl⟩
  · rw [e, if_pos rfl]
    exact ⟨_, _, w, rfl, if_pos rfl, h⟩
  · obtain ⟨w1, e3, c3, f3⟩ := k_copyFrom (b := 10) h1 h3 (by decide)
    obtain ⟨w2, e4, c4, f4⟩ := k_alike (w0 := w) h3 hq (fun w3 => zbd2 (f_X0_hoursToGoal w3 10 (w3 2 13)) fun v5 w4 => zbd (f_X0_arrived w4 10) fun v6 => some (v6, w4)) (P 0) 0 100000 w1 (by omega) (by omega) c3 f3.q10
    obtain ⟨k1, k2, k3, k4⟩ := m_kdN_ok h3 hq (P 0) b0
    obtain ⟨w3, e5, c5, f5⟩ := k_hoursToGoal b6 c4 k1 (by rw [k4]; omega)
    obtain ⟨o1, -⟩ := m_toGoal_ok (P 6) 96 0 k1
    have fq := f4.tr f5.q10
    have cl2 := zJ.cl hN fq
    obtain ⟨w4, e6, c6, f6⟩ := q_copies cl2.2 h3 (by omega) (g1 := 0) (by decide) (g2 := 100) (by decide) (by decide)
    obtain ⟨w5, e7, c7, f7⟩ := q_alike (w0 := w3) h3 hq (fun w3 => zbd2 (f_X4_arriveFrom w3 100 (w3 57 11)) fun v5 w4 => some (v5, w4)) 4 0 100000 w4 (by decide) (by decide) (by rw [show min 0 (P 0) = 0 by omega]; exact c6) (f6.q (by decide))
    obtain ⟨w6, e8, -, -, f8⟩ := q_arriveFrom b6 c7 k1 (by rw [k2]; omega) (g := 100) (by decide) (by decide) (by rw [k4]; omega)
    have hp5 : w5 57 11 = nI (P 6) := by rw [f7.2.1 11 (by decide)]; exact cl2.2.pl
    rw [e, if_neg n10, e3, zbds, show zfix2 (b_X3_alike_22 (nI q) _) 100000 0 w1 = _ from e4, show w2 2 13 = nI (P 6) from by rw [f4 2 (by decide)]; exact h1.pl, e5, zbd2s, k_arrived c5 o1, zbds]
    refine ⟨_, w3, w6, rfl, ?_, h.q fq (f7.tr f8.q)⟩
    rw [if_neg n10, show f_X4_copies w3 0 100 = some w4 from e6, zbds, show zfix2 (b_X4_alike_23 (nI q) _) 100000 0 w4 = _ from e7, hp5, show f_X4_arriveFrom w5 100 (nI (P 6)) = _ from e8, zbd2s]
theorem o_alone (w : zW) (h : zJ w) (a1 a2 : Int32) : ∃ (r : Int32) (w1 : zW) (w2 : zW), f_X3_alone w a1 a2 = some (r, w1) ∧ f_X4_alone w1 a1 a2 = some (r, w2) ∧ zJ w2 := by
  obtain ⟨P, hN⟩ := h.1
  obtain ⟨h1, h2, h3, h4, h5⟩ := id hN
  have b0 := h3.1.1
  have b6 := h3.1.2.2.2.2.2.1
  have hin : f_X4_in a2.toInt64 (0 : Int64) (20 : Int64) = f_X3_within a2 0 20 := in_within a2 0 20
  have hwn : f_X3_within a2 0 20 = 0 ∨ (f_X3_within a2 0 20 = 1 ∧ ∃ p, p ≤ 20 ∧ a2 = nI p) := winL a2 20 (by decide)
  unfold f_X3_alone f_X4_alone f_X3_isOne
  simp only [zletE]
  rw [hin, h1.n]
  rcases winN_cases a1 (N := P 0) (by omega) with e | ⟨e, p, hp, rfl⟩
  · rw [e, if_pos rfl]
    refine ⟨_, _, w, rfl, ?_, h⟩
    rw [one4 h5, e, if_pos rfl]
  rw [e, if_neg n10]
  rcases hwn with e2 | ⟨e2, c, hc, rfl⟩
  · rw [e2, if_pos rfl]
    refine ⟨_, _, w, rfl, ?_, h⟩
    rw [one4 h5, e, if_neg n10, if_pos rfl]
  have hd : ∀ {w1 : zW}, PR w1 0 0 P → f_X4_isDown w1 0 (nI p) = some (if P (30 + p) = 0 then 1 else 0) := fun hh => by have := q_isDown hh h3 (by omega) (g := 0) (by decide) hp; rw [Nat.zero_add] at this; exact this
  rw [e2, if_neg n10, k_isDown h1 h3 hp, zbds]
  by_cases d : P (30 + p) = 0
  · rw [if_pos d, if_neg n10]
    refine ⟨_, _, w, rfl, ?_, h⟩
    rw [one4 h5, e, if_neg n10, if_neg n10, hd h2, zbds, if_pos d, if_neg n10]
  · rw [if_neg d, if_pos rfl]
    obtain ⟨w1, e3, c3, f3⟩ := k_copyFrom (b := 10) h1 h3 (by decide)
    obtain ⟨w2, e4, c4, f4⟩ := k_leaveOnly c3 h3 hp
    have om := m_only_ok h3 hp
    obtain ⟨m0, m10, m20, m30, mk⟩ := m_only_at P p
    have c4' : CR (zup w2 10 9 (nI c)) 10 (pu (m_only P p) 5 c) := c4.f0 9 5 c (by omega)
    have oQ : Ok (pu (m_only P p) 5 c) := om.bot (by omega)
    have Q0 : pu (m_only P p) 5 c 0 = 1 := by rw [pu_n _ _ (by decide)]; exact m0
    have Q4 : pu (m_only P p) 5 c 4 = P 4 := by rw [pu_n _ _ (by decide)]; exact mk 4 (by decide) (by decide) (by decide) (by decide)
    have f2' := (f3.q10.tr f4.q10).tr (zFQ.up (w := w2) (k := 10) (j := 9) (nI c) (by decide))
    have hpl : zup w2 10 9 (nI c) 2 13 = nI (P 6) := by rw [f2' 2 (by decide)]; exact h1.pl
    obtain ⟨w3, e5, c5, f5⟩ := k_hoursToGoal b6 c4' oQ (by rw [Q4]; omega)
    obtain ⟨o1, -⟩ := m_toGoal_ok (P 6) 96 0 oQ
    have fq := f2'.tr f5.q10
    have cl2 := zJ.cl hN fq
    obtain ⟨w4, e6, c6, f6⟩ := q_copies cl2.2 h3 (by omega) (g1 := 0) (by decide) (g2 := 100) (by decide) (by decide)
    have hw8 : PR (zup (zup (zup w4 57 108 (nI c)) 56 6 (nI p)) 56 7 1) 100 p (pu (m_only P p) 5 c) := by
      have c7 : PR (zup w4 57 108 (nI c)) 100 0 (pu P 5 c) := c6.f0 (by omega) h3.1.2.1 8 5 c (by omega)
      have a7 : ∀ j, zup (zup (zup w4 57 108 (nI c)) 56 6 (nI p)) 56 7 1 57 j = zup w4 57 108 (nI c) 57 j := fun j => by rw [zup_n _ _ _ (by decide), zup_n _ _ _ (by decide)]
      have a8 : zup (zup (zup w4 57 108 (nI c)) 56 6 (nI p)) 56 7 1 58 = zup w4 57 108 (nI c) 58 := by rw [zup_n _ _ _ (by decide), zup_n _ _ _ (by decide)]
      have a9 : zup (zup (zup w4 57 108 (nI c)) 56 6 (nI p)) 56 7 1 59 = zup w4 57 108 (nI c) 59 := by rw [zup_n _ _ _ (by decide), zup_n _ _ _ (by decide)]
      have a6 : ∀ j, j ≠ 6 → j ≠ 7 → zup (zup (zup w4 57 108 (nI c)) 56 6 (nI p)) 56 7 1 56 j = zup w4 57 108 (nI c) 56 j := fun j x y => by rw [zup_s, upd_n _ _ y, zup_s, upd_n _ _ x]
      have ek : ∀ k, k ≠ 0 → k ≠ 10 → k ≠ 20 → k ≠ 30 → pu (m_only P p) 5 c k = pu P 5 c k := by
        intro k k1 k2 k3 k4
        by_cases k5 : k = 5
        · subst k5; rw [pu_s, pu_s]
        · rw [pu_n _ _ k5, pu_n _ _ k5]; exact mk k k1 k2 k3 k4
      have pP0 : pu P 5 c 0 = P 0 := pu_n _ _ (by decide)
      have pP1 : pu P 5 c 1 = P 1 := pu_n _ _ (by decide)
      refine ⟨⟨?_, ?_, ?_, ?_⟩, ⟨?_, ?_, ?_, ?_, ?_, ?_⟩, fun t ht => ?_, fun i hi => ?_⟩
      · rw [a6 4 (by decide) (by decide), ek 1 (by decide) (by decide) (by decide) (by decide)]; exact c7.wl
      · rw [a6 5 (by decide) (by decide), ek 2 (by decide) (by decide) (by decide) (by decide)]; exact c7.gl
      · rw [zup_s, upd_n _ _ (by decide), zup_s, upd_s]
      · rw [zup_s, upd_s, Q0]; rfl
      · rw [a7, ek 5 (by decide) (by decide) (by decide) (by decide)]; exact c7.bt
      · rw [a7, ek 3 (by decide) (by decide) (by decide) (by decide)]; exact c7.ml
      · rw [a7, ek 4 (by decide) (by decide) (by decide) (by decide)]; exact c7.hr
      · rw [a7, ek 6 (by decide) (by decide) (by decide) (by decide)]; exact c7.pl
      · rw [a7, ek 7 (by decide) (by decide) (by decide) (by decide)]; exact c7.cl
      · rw [a7, ek 8 (by decide) (by decide) (by decide) (by decide)]; exact c7.fd
      · rw [Q0] at ht
        have ht0 : t = 0 := by omega
        subst ht0
        have z1 := c7.kd (p := p) (by rw [pP0]; exact hp)
        have z2 := c7.sz (p := p) (by rw [pP0]; exact hp)
        have z3 := c7.lv (p := p) (by rw [pP0]; exact hp)
        rw [Nat.zero_add] at z1 z2 z3
        rw [a7, a7, a8, Nat.add_zero p, z1, z2, z3, pu_n _ _ (show 10 + 0 ≠ 5 by decide), pu_n _ _ (show 20 + 0 ≠ 5 by decide), pu_n _ _ (show 30 + 0 ≠ 5 by decide), pu_n _ _ (show 10 + p ≠ 5 by omega), pu_n _ _ (show 20 + p ≠ 5 by omega), pu_n _ _ (show 30 + p ≠ 5 by omega)]
        exact ⟨congrArg nI m10.symm, congrArg nI m20.symm, congrArg nI m30.symm⟩
      · have hi' : i < pu P 5 c 1 := by rw [← ek 1 (by decide) (by decide) (by decide) (by decide)]; exact hi
        rw [a7, a7, a9, ek _ (by omega) (by omega) (by omega) (by omega), ek _ (by omega) (by omega) (by omega) (by omega), ek _ (by omega) (by omega) (by omega) (by omega), ek _ (by omega) (by omega) (by omega) (by omega)]
        exact c7.2.2.2 i hi'
    obtain ⟨w9, e8, e9, -, f8⟩ := q_arriveFrom b6 hw8 oQ (by rw [Q0]; omega) (g := 100) (by decide) (by decide) (by rw [Q4]; omega)
    have hp8 : zup (zup (zup w4 57 108 (nI c)) 56 6 (nI p)) 56 7 1 57 11 = nI (P 6) := by
      rw [zup_n _ _ _ (by decide), zup_n _ _ _ (by decide), zup_s, upd_n _ _ (by decide), f6.2 11 (by decide)]
      exact cl2.2.pl
    have hle := m_arr_le o1
    have b56 : ∀ j, j ≠ 6 → j ≠ 7 → j ≠ 28 → w9 56 j = w3 56 j := fun j x y z => by
      rw [f8.2.2 j z, zup_s, upd_n _ _ y, zup_s, upd_n _ _ x, zup_n _ _ _ (by decide), f6.1 56 (by decide)]
    have h56 : zup w9 56 6 0 56 2 = nI (P 0) := by
      rw [zup_s, upd_n _ _ (by decide), b56 2 (by decide) (by decide) (by decide), fq 56 (by decide)]; exact h5
    have fm : zMQ w3 (zup (zup w9 56 6 0) 56 7 (nI (P 0))) := by
      refine ⟨fun k x y => ?_, fun j x => ?_, fun j x => ?_⟩
      · rw [zup_n _ _ _ x, zup_n _ _ _ x, f8.1 k y x, zup_n _ _ _ x, zup_n _ _ _ x, zup_n _ _ _ y, f6.1 k y]
      · rw [zup_n _ _ _ (by decide), zup_n _ _ _ (by decide), f8.2.1 j (by omega), zup_n _ _ _ (by decide), zup_n _ _ _ (by decide), zup_s, upd_n _ _ (by omega), f6.2 j (by omega)]
      · by_cases x7 : j = 7
        · subst x7; rw [zup_s, upd_s]; exact cl2.2.n.symm
        · rw [zup_s, upd_n _ _ x7]
          by_cases x6 : j = 6
          · subst x6; rw [zup_s, upd_s]; exact cl2.2.fr.symm
          · rw [zup_s, upd_n _ _ x6]; exact b56 j x6 x7 x
    have h28 : zup (zup w9 56 6 0) 56 7 (nI (P 0)) 56 28 = nI (m_toGoal (P 6) 96 0 (pu (m_only P p) 5 c)).1 := by
      rw [zup_s, upd_n _ _ (by decide), zup_s, upd_n _ _ (by decide)]; exact e9
    have e8' : f_X4_arriveFrom (zup (zup (zup w4 57 108 (nI c)) 56 6 (nI p)) 56 7 1) 100 (nI (P 6)) = _ := e8
    have e6' : f_X4_copies w3 0 100 = some w4 := e6
    have cle : nI (m_arr (m_toGoal (P 6) 96 0 (pu (m_only P p) 5 c)).2) ≤ 0 ↔ m_arr (m_toGoal (P 6) 96 0 (pu (m_only P p) 5 c)).2 ≤ 0 := nI_leI (b := 0) (by omega) (by decide)
    have ceq : nI (m_arr (m_toGoal (P 6) 96 0 (pu (m_only P p) 5 c)).2) = 0 ↔ m_arr (m_toGoal (P 6) 96 0 (pu (m_only P p) 5 c)).2 = 0 := zeq0 (by omega)
    have h53 : w3 56 2 = nI (P 0) := by rw [fq 56 (by decide)]; exact h5
    rw [e3, zbds, e4, zbds, hpl, e5, zbd2s, k_arrived c5 o1, zbds]
    by_cases y : m_arr (m_toGoal (P 6) 96 0 (pu (m_only P p) 5 c)).2 = 0
    · rw [if_pos (cle.mpr (by omega))]
      refine ⟨_, w3, _, rfl, ?_, h.q fq fm⟩
      rw [one4 h53, e, if_neg n10, if_neg n10, hd cl2.2, zbds, if_neg d, if_pos rfl, e6', zbds, hp8, e8', zbd2s, h56, if_pos (ceq.mpr y)]
    · rw [if_neg (fun q => y (by have := cle.mp q; omega))]
      refine ⟨_, w3, _, rfl, ?_, h.q fq fm⟩
      rw [one4 h53, e, if_neg n10, if_neg n10, hd cl2.2, zbds, if_neg d, if_pos rfl, e6', zbds, hp8, e8', zbd2s, h56, if_neg (fun q => y (ceq.mp q)), h28]
