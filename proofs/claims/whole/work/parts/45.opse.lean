/-! the last hour to start, the least water -/
theorem FrA.pr {w w' : zW} {g fr : Nat} {P : zP} (h : FrA w w') (hg : g + 20 ≤ 80 ∨ 100 ≤ g) (hp : PR w g fr P) (h4 : fr + P 0 ≤ 4) (h3 : P 1 ≤ 3) : PR w' g fr P :=
  hp.frame h4 h3 (fun j a b => h.2.2 j (by omega)) (fun j a b => h.2.1 j (by omega)) (h.1 58 (by decide) (by decide)) (h.1 59 (by decide) (by decide))
def m_lt (a : Nat) : Nat → Nat → Int32 → zP → Int32
  | 0, _, v, _ => v
  | k + 1, t, v, P => m_lt a k (t + 1) (if m_arr (m_toGoal 2 96 0 P).2 < a then v else nI t) (m_hour P false)
theorem k_late {w0 : zW} {a : Nat} (ha : a ≤ 4) : ∀ (k t n : Nat) (v : Int32) (w : zW) (P : zP), t + k = 73 → k < n → CR w 18 P → Ok P → P 4 + k < 2 ^ 27 → zFQ w0 w → ∃ w', zfix3 (b_X3_late_27 (nI a)) n v (nI t) w = some (m_lt a k t v P, w') ∧ zFQ w0 w' := by
  intro k
  induction k with
  | zero =>
    intro t n v w P ht hn hc hO hb hf
    obtain ⟨n, rfl⟩ : ∃ m, n = m + 1 := ⟨n - 1, by omega⟩
    refine ⟨w, ?_, hf⟩
    show b_X3_late_27 _ (zfix3 _ n) _ _ _ = _
    generalize zfix3 (b_X3_late_27 (nI a)) n = kk
    unfold b_X3_late_27
    rw [show t = 73 by omega, if_pos (by decide)]
    rfl
  | succ k ih =>
    intro t n v w P ht hn hc hO hb hf
    obtain ⟨n, rfl⟩ : ∃ m, n = m + 1 := ⟨n - 1, by omega⟩
    have c72 : (72 : Int32) < nI t ↔ 72 < t := nI_ltI (a := 72) (by decide) (by omega)
    obtain ⟨w1, e1, c1, f1⟩ := k_copyFrom (b := 10) hc hO (by decide)
    obtain ⟨w2, e2, c2, f2⟩ := k_hoursToGoal (k := 2) (by decide) c1 hO (by omega)
    obtain ⟨o1, -⟩ := m_toGoal_ok 2 96 0 hO
    have c18 : CR w2 18 P := hc.frame (fun j x y => (f2 j (by omega)).trans (f1 j (by omega)))
    obtain ⟨w3, e3, c3, f3⟩ := k_passHour c18 hO (by omega) false
    obtain ⟨p1, p2, p3⟩ := m_hour_ok hO false
    have hle := m_arr_le o1
    have ca : nI (m_arr (m_toGoal 2 96 0 P).2) < nI a ↔ m_arr (m_toGoal 2 96 0 P).2 < a := nI_ltI (by omega) (by omega)
    obtain ⟨w', g1, g2⟩ := ih (t + 1) n (if m_arr (m_toGoal 2 96 0 P).2 < a then v else nI t) w3 (m_hour P false) (by omega) (by omega) c3 p1 (by rw [p3]; omega) (((hf.tr f1.q10).tr f2.q10).tr f3.q18)
    refine ⟨w', ?_, g2⟩
    show b_X3_late_27 _ (zfix3 _ n) _ _ _ = _
    generalize zfix3 (b_X3_late_27 (nI a)) n = kk at g1 ⊢
    unfold b_X3_late_27
    simp only [zletE, zjn1E]
    rw [if_neg (fun q => absurd (c72.mp q) (by omega)), e1, zbds, show f_X0_hoursToGoal w1 10 2 = _ from e2, zbd2s, k_arrived c2 o1, zbds, show f_X0_passHour w2 18 0 = some w3 from e3, zbds, zbds, show nI t + 1 = nI (t + 1) from nI_1 _]
    simp only [m_lt]
    by_cases d : m_arr (m_toGoal 2 96 0 P).2 < a
    · rw [if_pos (ca.mpr d)]
      rw [if_pos d] at g1 ⊢
      exact g1
    · rw [if_neg (fun q => d (ca.mp q))]
      rw [if_neg d] at g1 ⊢
      exact g1
theorem q_late {w0 : zW} {a : Nat} (ha : a ≤ 4) : ∀ (k t n : Nat) (v : Int32) (w : zW) (P : zP), t + k = 73 → k < n → PR w 100 0 P → Ok P → P 4 + k < 2 ^ 27 → zMQ w0 w → ∃ w', zfix3 (b_X4_late_26 (nI a)) n v (nI t) w = some (m_lt a k t v P, w') ∧ zMQ w0 w' := by
  intro k
  induction k with
  | zero =>
    intro t n v w P ht hn hc hO hb hf
    obtain ⟨n, rfl⟩ : ∃ m, n = m + 1 := ⟨n - 1, by omega⟩
    refine ⟨w, ?_, hf⟩
    show b_X4_late_26 _ (zfix3 _ n) _ _ _ = _
    generalize zfix3 (b_X4_late_26 (nI a)) n = kk
    unfold b_X4_late_26
    rw [show t = 73 by omega, if_pos (by decide)]
    rfl
  | succ k ih =>
    intro t n v w P ht hn hc hO hb hf
    obtain ⟨n, rfl⟩ : ∃ m, n = m + 1 := ⟨n - 1, by omega⟩
    have b0 := hO.1.1
    have c72 : (72 : Int32) < nI t ↔ 72 < t := nI_ltI (a := 72) (by decide) (by omega)
    obtain ⟨w2, e2, -, -, f2⟩ := q_arriveFrom (k := 2) (by decide) hc hO (by omega) (g := 100) (by decide) (by decide) (by omega)
    obtain ⟨o1, -⟩ := m_toGoal_ok 2 96 0 hO
    have c18 : PR w2 100 0 P := f2.pr (by decide) hc (by omega) hO.1.2.1
    obtain ⟨w3, e3, c3, f3⟩ := q_goesOn (g := 100) (k := 3) (by decide) (by decide) 1 c18 hO (by omega) (by omega) (by decide)
    obtain ⟨p1, p2, p3⟩ := m_hour_ok hO false
    have hle := m_arr_le o1
    have ca : nI (m_arr (m_toGoal 2 96 0 P).2) < nI a ↔ m_arr (m_toGoal 2 96 0 P).2 < a := nI_ltI (by omega) (by omega)
    obtain ⟨w', g1, g2⟩ := ih (t + 1) n (if m_arr (m_toGoal 2 96 0 P).2 < a then v else nI t) w3 (m_hour P false) (by omega) (by omega) c3 p1 (by rw [p3]; omega) ((hf.tr f2.q).tr (f3.q (by decide)))
    refine ⟨w', ?_, g2⟩
    show b_X4_late_26 _ (zfix3 _ n) _ _ _ = _
    generalize zfix3 (b_X4_late_26 (nI a)) n = kk at g1 ⊢
    unfold b_X4_late_26
    simp only [zletE, zjn1E]
    rw [if_neg (fun q => absurd (c72.mp q) (by omega)), show f_X4_arriveFrom w 100 2 = _ from e2, zbd2s, show f_X4_goesOn w2 100 1 3 = some w3 from e3, zbds, zbds, show nI t + 1 = nI (t + 1) from nI_1 _]
    simp only [m_lt]
    by_cases d : m_arr (m_toGoal 2 96 0 P).2 < a
    · rw [if_pos (ca.mpr d)]
      rw [if_pos d] at g1 ⊢
      exact g1
    · rw [if_neg (fun q => d (ca.mp q))]
      rw [if_neg d] at g1 ⊢
      exact g1
theorem o_late (w : zW) (h : zJ w) (a1 : Int32) : ∃ (r : Int32) (w1 : zW) (w2 : zW), f_X3_late w a1 = some (r, w1) ∧ f_X4_late w1 a1 = some (r, w2) ∧ zJ w2 := by
  obtain ⟨P, hN⟩ := h.1
  obtain ⟨h1, h2, h3, h4, h5⟩ := id hN
  have b0 := h3.1.1
  have hi1 : f_X4_in a1.toInt64 (1 : Int64) (4 : Int64) = f_X3_within a1 1 4 := in_within a1 1 4
  have hw1 : f_X3_within a1 1 4 = 0 ∨ (f_X3_within a1 1 4 = 1 ∧ ∃ p, 1 ≤ p ∧ p ≤ 4 ∧ a1 = nI p) ∨ 4 < 1 := win_cases a1 1 4 (by decide)
  unfold f_X3_late f_X4_late
  rw [hi1]
  rcases hw1 with e | ⟨e, a, ha1, ha, rfl⟩ | hf
  · rw [e, if_pos rfl]
    exact ⟨_, _, w, rfl, if_pos rfl, h⟩
  · obtain ⟨w1, e3, c3, f3⟩ := k_copyFrom (b := 18) h1 h3 (by decide)
    obtain ⟨w2, e4, f4⟩ := k_late (w0 := w) ha 73 0 100000 (-4) w1 P (by decide) (by decide) c3 h3 (by omega) f3.q18
    have cl2 := zJ.cl hN f4
    obtain ⟨w3, e5, c5, f5⟩ := q_copies cl2.2 h3 (by omega) (g1 := 0) (by decide) (g2 := 100) (by decide) (by decide)
    obtain ⟨w4, e6, f6⟩ := q_late (w0 := w2) ha 73 0 100000 (-4) w3 P (by decide) (by decide) c5 h3 (by omega) (f5.q (by decide))
    rw [e, if_neg n10, e3, zbds, show zfix3 (b_X3_late_27 (nI a)) 100000 (-4) 0 w1 = _ from e4]
    refine ⟨_, w2, w4, rfl, ?_, h.q f4 f6⟩
    rw [if_neg n10, show f_X4_copies w2 0 100 = some w3 from e5, zbds]
    exact e6
  · omega
theorem pu_pu (P : zP) (k x y : Nat) : pu (pu P k x) k y = pu P k y := by
  funext j
  unfold pu
  by_cases h : j = k
  · rw [if_pos h, if_pos h]
  · rw [if_neg h, if_neg h, if_neg h]
def m_ls (plan s0 : Nat) (P : zP) : Nat → Nat → Int32
  | 0, _ => -4
  | k + 1, t => if (m_toGoal plan 96 0 (pu P 5 t)).2 2 ≤ (m_toGoal plan 96 0 (pu P 5 t)).2 3 ∧ m_stand (m_toGoal plan 96 0 (pu P 5 t)).2 = s0 then nI t else m_ls plan s0 P k (t + 1)
theorem k_least {w0 : zW} {P : zP} (h1 : CR w0 2 P) (hO : Ok P) (hb : P 4 < 1000) : ∀ (k t n : Nat) (w : zW), t + k = 61 → k < n → zFQ w0 w → ∃ w', zfix2 (b_X3_least_10 (nI (m_stand P))) n (nI t) w = some (m_ls (P 6) (m_stand P) P k t, w') ∧ zFQ w0 w' := by
  have b6 := hO.1.2.2.2.2.2.1
  intro k
  induction k with
  | zero =>
    intro t n w ht hn hf
    obtain ⟨n, rfl⟩ : ∃ m, n = m + 1 := ⟨n - 1, by omega⟩
    refine ⟨w, ?_, hf⟩
    show b_X3_least_10 _ (zfix2 _ n) _ _ = _
    generalize zfix2 (b_X3_least_10 (nI (m_stand P))) n = kk
    unfold b_X3_least_10
    rw [show t = 61 by omega, if_pos (by decide)]
    rfl
  | succ k ih =>
    intro t n w ht hn hf
    obtain ⟨n, rfl⟩ : ∃ m, n = m + 1 := ⟨n - 1, by omega⟩
    have c60 : (60 : Int32) < nI t ↔ 60 < t := nI_ltI (a := 60) (by decide) (by omega)
    have hc : CR w 2 P := h1.frame (fun j x y => hf j (by omega))
    obtain ⟨w1, e1, c1, f1⟩ := k_copyFrom (b := 10) hc hO (by decide)
    have c1' : CR (zup w1 10 9 (nI t)) 10 (pu P 5 t) := c1.f0 9 5 t (by omega)
    have hO' : Ok (pu P 5 t) := hO.bot (by omega)
    have f1' := (hf.tr f1.q10).tr (zFQ.up (w := w1) (k := 10) (j := 9) (nI t) (by decide))
    have hpl : zup w1 10 9 (nI t) 2 13 = nI (P 6) := by rw [f1' 2 (by decide)]; exact h1.pl
    obtain ⟨w2, e2, c2, f2⟩ := k_hoursToGoal b6 c1' hO' (by rw [pu_n _ _ (by decide)]; omega)
    obtain ⟨o1, o2, -⟩ := m_toGoal_ok (P 6) 96 0 hO'
    obtain ⟨w', g1, g2⟩ := ih (t + 1) n w2 (by omega) (by omega) (f1'.tr f2.q10)
    have s4 : ∀ Q : zP, Ok Q → m_stand Q < 2 ^ 31 := fun Q hQ => by have := m_cnt_le Q (Q 0); have := hQ.1.1; unfold m_stand; omega
    simp only [m_ls]
    generalize (m_toGoal (P 6) 96 0 (pu P 5 t)).2 = Q at c2 o1 ⊢
    have cs : nI (m_stand Q) = nI (m_stand P) ↔ m_stand Q = m_stand P := nI_eq (s4 Q o1) (s4 P hO)
    by_cases d : Q 2 ≤ Q 3 ∧ m_stand Q = m_stand P
    · refine ⟨w2, ?_, f1'.tr f2.q10⟩
      show b_X3_least_10 _ (zfix2 _ n) _ _ = _
      generalize zfix2 (b_X3_least_10 (nI (m_stand P))) n = kk
      unfold b_X3_least_10
      simp only [zletE, zjn0E]
      rw [if_neg (fun q => absurd (c60.mp q) (by omega)), e1, zbds, hpl, e2, zbd2s, k_isAtGoal c2 o1, if_pos d.1, if_neg n10, k_standing c2 o1, zbds, if_pos (cs.mpr d.2), if_pos d]
    · refine ⟨w', ?_, g2⟩
      show b_X3_least_10 _ (zfix2 _ n) _ _ = _
      generalize zfix2 (b_X3_least_10 (nI (m_stand P))) n = kk at g1 ⊢
      unfold b_X3_least_10
      simp only [zletE, zjn0E]
      rw [if_neg (fun q => absurd (c60.mp q) (by omega)), e1, zbds, hpl, e2, zbd2s, k_isAtGoal c2 o1, k_standing c2 o1, zbds, show nI t + 1 = nI (t + 1) from nI_1 _, if_neg d]
      by_cases d1 : Q 2 ≤ Q 3
      · rw [if_pos d1, if_neg n10, if_neg (fun q => d ⟨d1, cs.mp q⟩)]; exact g1
      · rw [if_neg d1, if_pos rfl]; exact g1
theorem q_least {w0 : zW} {P : zP} (h1 : PR w0 0 0 P) (hO : Ok P) (hb : P 4 < 1000) : ∀ (k t n x : Nat) (w : zW), t + k = 61 → k < n → PR w 100 0 (pu P 5 x) → zMQ w0 w → ∃ w', zfix2 b_X4_least_9 n (nI t) w = some (m_ls (P 6) (m_stand P) P k t, w') ∧ zMQ w0 w' := by
  have b6 := hO.1.2.2.2.2.2.1
  have b0 := hO.1.1
  have pu0 : ∀ x, pu P 5 x 0 = P 0 := fun x => pu_n _ _ (by decide)
  have pu1 : ∀ x, pu P 5 x 1 = P 1 := fun x => pu_n _ _ (by decide)
  intro k
  induction k with
  | zero =>
    intro t n x w ht hn hp hf
    obtain ⟨n, rfl⟩ : ∃ m, n = m + 1 := ⟨n - 1, by omega⟩
    refine ⟨w, ?_, hf⟩
    show b_X4_least_9 (zfix2 _ n) _ _ = _
    generalize zfix2 b_X4_least_9 n = kk
    unfold b_X4_least_9
    rw [show t = 61 by omega, if_pos (by decide)]
    rfl
  | succ k ih =>
    intro t n x w ht hn hp hf
    obtain ⟨n, rfl⟩ : ∃ m, n = m + 1 := ⟨n - 1, by omega⟩
    have c60 : (60 : Int32) < nI t ↔ 60 < t := nI_ltI (a := 60) (by decide) (by omega)
    have hp' : PR (zup w 57 108 (nI t)) 100 0 (pu P 5 t) := by
      have := hp.f0 (by rw [pu0]; omega) (by rw [pu1]; exact hO.1.2.1) 8 5 t (by omega)
      rw [pu_pu] at this
      exact this
    have hO' : Ok (pu P 5 t) := hO.bot (by omega)
    have f1' := hf.tr (zMQ.up (w := w) (j := 108) (nI t) (by decide))
    have hpl : zup w 57 108 (nI t) 57 11 = nI (P 6) := by rw [f1'.2.1 11 (by decide)]; exact h1.pl
    obtain ⟨w2, e2, -, c2, f2⟩ := q_arriveFrom b6 hp' hO' (by rw [pu0]; omega) (g := 100) (by decide) (by decide) (by rw [pu_n _ _ (by decide)]; omega)
    obtain ⟨o1, o2, -⟩ := m_toGoal_ok (P 6) 96 0 hO'
    have hp2 : PR w2 100 0 (pu P 5 t) := f2.pr (by decide) hp' (by rw [pu0]; omega) (by rw [pu1]; exact hO.1.2.1)
    obtain ⟨w', g1, g2⟩ := ih (t + 1) n t w2 (by omega) (by omega) hp2 (f1'.tr f2.q)
    have hc0 : PR w2 0 0 P := h1.frame (by omega) hO.1.2.1 (fun j a b => (f1'.tr f2.q).2.2 j (by omega)) (fun j a b => (f1'.tr f2.q).2.1 j (by omega)) ((f1'.tr f2.q).1 58 (by decide) (by decide)) ((f1'.tr f2.q).1 59 (by decide) (by decide))
    have s4 : ∀ Q : zP, Ok Q → m_stand Q < 2 ^ 31 := fun Q hQ => by have := m_cnt_le Q (Q 0); have := hQ.1.1; unfold m_stand; omega
    simp only [m_ls]
    generalize (m_toGoal (P 6) 96 0 (pu P 5 t)).2 = Q at c2 o1 e2 ⊢
    have q2 := o1.1.2.2.1
    have q3 := o1.1.2.2.2.1
    have hle := m_arr_le o1
    have ca : nI (m_arr Q) = nI (m_stand P) ↔ m_arr Q = m_stand P := nI_eq (by omega) (s4 P hO)
    have cg : nI (Q 3) < nI (Q 2) ↔ Q 3 < Q 2 := nI_ltI (by omega) (by omega)
    have hml : w2 57 89 = nI (Q 3) := c2.ml
    have hgl : w2 56 5 = nI (Q 2) := c2.gl
    have hup : f_X4_upOn w2 0 = some (nI (m_stand P)) := q_upOn (g := 0) hc0 hO (by omega) (by decide)
    by_cases d : Q 2 ≤ Q 3 ∧ m_stand Q = m_stand P
    · refine ⟨w2, ?_, f1'.tr f2.q⟩
      show b_X4_least_9 (zfix2 _ n) _ _ = _
      generalize zfix2 b_X4_least_9 n = kk
      unfold b_X4_least_9
      simp only [zletE, zjn0E]
      rw [if_neg (fun q => absurd (c60.mp q) (by omega)), hpl, show f_X4_arriveFrom (zup w 57 108 (nI t)) 100 (nI (P 6)) = _ from e2, zbd2s, hup, zbds, if_pos (ca.mpr (by unfold m_arr; rw [if_pos d.1]; exact d.2)), hml, hgl, if_neg (fun q => absurd (cg.mp q) (by omega)), if_pos d]
    · refine ⟨w', ?_, g2⟩
      show b_X4_least_9 (zfix2 _ n) _ _ = _
      generalize zfix2 b_X4_least_9 n = kk at g1 ⊢
      unfold b_X4_least_9
      simp only [zletE, zjn0E]
      rw [if_neg (fun q => absurd (c60.mp q) (by omega)), hpl, show f_X4_arriveFrom (zup w 57 108 (nI t)) 100 (nI (P 6)) = _ from e2, zbd2s, hup, zbds, hml, hgl, show nI t + 1 = nI (t + 1) from nI_1 _, if_neg d]
      by_cases d2 : m_arr Q = m_stand P
      · rw [if_pos (ca.mpr d2)]
        by_cases d1 : Q 2 ≤ Q 3
        · exact absurd ⟨d1, by unfold m_arr at d2; rw [if_pos d1] at d2; exact d2⟩ d
        · rw [if_pos (cg.mpr (by omega))]; exact g1
      · rw [if_neg (fun q => d2 (ca.mp q))]; exact g1
theorem o_least (w : zW) (h : zJ w) (_ : Unit) : ∃ (r : Int32) (w1 : zW) (w2 : zW), f_X3_least w = some (r, w1) ∧ f_X4_least w1 = some (r, w2) ∧ zJ w2 := by
  obtain ⟨P, hN⟩ := h.1
  obtain ⟨h1, h2, h3, h4, h5⟩ := id hN
  have b0 := h3.1.1
  unfold f_X3_least f_X4_least
  obtain ⟨w2, e4, f4⟩ := k_least h1 h3 h4 61 0 100000 w (by decide) (by decide) zFQ.rf
  have cl2 := zJ.cl hN f4
  obtain ⟨w3, e5, c5, f5⟩ := q_copies cl2.2 h3 (by omega) (g1 := 0) (by decide) (g2 := 100) (by decide) (by decide)
  obtain ⟨w4, e6, f6⟩ := q_least (w0 := w2) cl2.2 h3 h4 61 0 100000 (P 5) w3 (by decide) (by decide) (by rw [pu_id]; exact c5) (f5.q (by decide))
  rw [k_standing h1 h3, zbds, show zfix2 (b_X3_least_10 (nI (m_stand P))) 100000 0 w = _ from e4]
  refine ⟨_, w2, w4, rfl, ?_, h.q f4 f6⟩
  rw [show f_X4_copies w2 0 100 = some w3 from e5, zbds]
  exact e6
