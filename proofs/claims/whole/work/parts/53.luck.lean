/-! wells by odds -/
def m_od (P : zP) (i : Nat) : Nat := if P (70 + i) = 0 then 0 else P (50 + i)
def m_wt (P : zP) (s : Nat) : Nat → Nat
  | 0 => 1
  | n + 1 => m_wt P s n * (if s / 2 ^ n % 2 = 1 then m_od P n else 10 - m_od P n)
theorem m_wt_le {P : zP} (h : Ok P) (s : Nat) : ∀ n, n ≤ P 1 → m_wt P s n ≤ 10 ^ n
  | 0, _ => Nat.le_refl _
  | n + 1, hn => by
    have h1 := m_wt_le h s n (by omega)
    have h2 := (h.2.2 n (by omega)).2.2.1
    have h3 : (if s / 2 ^ n % 2 = 1 then m_od P n else 10 - m_od P n) ≤ 10 := by
      unfold m_od
      repeat' split
      all_goals omega
    rw [Nat.pow_succ]
    exact Nat.mul_le_mul h1 h3
theorem bit_s : ∀ s, s < 8 → ∀ i, i < 3 → (((nI s >>> (nI i &&& 31)) &&& 1 = 1) ↔ s / 2 ^ i % 2 = 1) := by decide
theorem shl_1 : ∀ n, n ≤ 3 → (1 : Int32) <<< (nI n &&& 31) = nI (2 ^ n) := by
  have : ∀ n, n < 4 → (1 : Int32) <<< (nI n &&& 31) = nI (2 ^ n) := by decide
  exact fun n hn => this n (by omega)
theorem k_weight {w : zW} {P : zP} (h : CR w 2 P) (hO : Ok P) {s : Nat} (hs : s < 8) : f_X3_weightOf w (nI s) = some (lN (m_wt P s (P 1))) := by
  have b1 := hO.1.2.1
  have key : ∀ (k t n : Nat), t + k = P 1 → k < n → zfix2 (b_X3_weightOf_5 w (nI s)) n (lN (m_wt P s t)) (nI t) = some (lN (m_wt P s (P 1))) := by
    intro k
    induction k with
    | zero =>
      intro t n ht hn
      obtain ⟨n, rfl⟩ : ∃ m, n = m + 1 := ⟨n - 1, by omega⟩
      show b_X3_weightOf_5 _ _ (zfix2 _ n) _ _ = _
      generalize zfix2 (b_X3_weightOf_5 w (nI s)) n = kk
      unfold b_X3_weightOf_5
      rw [h.wl, show t = P 1 by omega, if_pos (nI_le (Nat.le_refl _) (by omega))]
    | succ k ih =>
      intro t n ht hn
      obtain ⟨n, rfl⟩ : ∃ m, n = m + 1 := ⟨n - 1, by omega⟩
      have h1 := ih (t + 1) n (by omega) (by omega)
      obtain ⟨q1, q2, q3, q4, q5, q6⟩ := hO.2.2 t (by omega)
      have r7 : w (2 + 7) t = nI (P (70 + t)) := h.w7 (by omega)
      have r5 : w (2 + 5) t = nI (P (50 + t)) := h.w5 (by omega)
      have hz : zin (nI t) 3 = true := zin_nI (by omega) (by decide)
      have hx : zx (nI t) = t := zxI (by omega)
      have hb := bit_s s hs t (by omega)
      have c7 : nI (P (70 + t)) = 0 ↔ P (70 + t) = 0 := zeq0 (by omega)
      show b_X3_weightOf_5 _ _ (zfix2 _ n) _ _ = _
      generalize zfix2 (b_X3_weightOf_5 w (nI s)) n = kk at h1 ⊢
      unfold b_X3_weightOf_5
      simp only [zletE, zjn1E, hz, zgTE, hx]
      rw [h.wl, if_neg (nI_ge (by omega) (by omega)), r7, r5, show nI t + 1 = nI (t + 1) from nI_1 _]
      simp only [m_wt, m_od] at h1
      by_cases d7 : P (70 + t) = 0
      · rw [if_pos (c7.mpr d7)]
        by_cases db : s / 2 ^ t % 2 = 1
        · rw [if_pos (hb.mpr db), if_neg n10, show ((0 : Int32).toInt64) = lN 0 from rfl, lN_mul]
          rw [if_pos d7, if_pos db] at h1
          exact h1
        · rw [if_neg (fun q => db (hb.mp q)), if_pos trivial, show (((10 : Int32) - 0).toInt64) = lN (10 - 0) from rfl, lN_mul]
          rw [if_pos d7, if_neg db] at h1
          exact h1
      · rw [if_neg (fun q => d7 (c7.mp q))]
        by_cases db : s / 2 ^ t % 2 = 1
        · rw [if_pos (hb.mpr db), if_neg n10, nI_l (by omega), lN_mul]
          rw [if_neg d7, if_pos db] at h1
          exact h1
        · rw [if_neg (fun q => db (hb.mp q)), if_pos trivial, show (10 : Int32) - nI (P (50 + t)) = nI (10 - P (50 + t)) from zsub_nI (a := 10) (by omega), nI_l (by omega), lN_mul]
          rw [if_neg d7, if_neg db] at h1
          exact h1
  exact key (P 1) 0 100000 (by omega) (by omega)
def m_set (P : zP) (s : Nat) : Nat → zP
  | 0 => P
  | n + 1 => pu (m_set P s n) (70 + n) (s / 2 ^ n % 2)
theorem m_set_ok {P : zP} (h : Ok P) (s : Nat) : ∀ n, n ≤ P 1 → Ok (m_set P s n) ∧ m_set P s n 0 = P 0 ∧ m_set P s n 1 = P 1 ∧ m_set P s n 4 = P 4
  | 0, _ => ⟨h, rfl, rfl, rfl⟩
  | n + 1, hn => by
    obtain ⟨a, b, c, d⟩ := m_set_ok h s n (by omega)
    refine ⟨a.wet (by rw [c]; omega) (by omega), ?_, ?_, ?_⟩
    · simp only [m_set]; rw [pu_n _ _ (by omega)]; exact b
    · simp only [m_set]; rw [pu_n _ _ (by omega)]; exact c
    · simp only [m_set]; rw [pu_n _ _ (by omega)]; exact d
theorem k_setL {w0 : zW} {P : zP} {s : Nat} (hO : Ok P) (hs : s < 8) (j : zW → Option (Int32 × zW)) : ∀ (k t n : Nat) (w : zW), t + k = P 1 → k < n → CR w 10 (m_set P s t) → zFQ w0 w → ∃ w', zfix2 (b_X3_arrivingBy_13 (nI s) j) n (nI t) w = j w' ∧ CR w' 10 (m_set P s (P 1)) ∧ zFQ w0 w' := by
  have b1 := hO.1.2.1
  intro k
  induction k with
  | zero =>
    intro t n w ht hn hc hf
    obtain ⟨n, rfl⟩ : ∃ m, n = m + 1 := ⟨n - 1, by omega⟩
    obtain ⟨-, -, o2, -⟩ := m_set_ok hO s t (by omega)
    refine ⟨w, ?_, by rw [show P 1 = t by omega]; exact hc, hf⟩
    show b_X3_arrivingBy_13 _ _ (zfix2 _ n) _ _ = _
    generalize zfix2 (b_X3_arrivingBy_13 (nI s) j) n = kk
    unfold b_X3_arrivingBy_13
    rw [hc.wl, o2, if_pos (nI_le (by omega) (by omega))]
  | succ k ih =>
    intro t n w ht hn hc hf
    obtain ⟨n, rfl⟩ : ∃ m, n = m + 1 := ⟨n - 1, by omega⟩
    obtain ⟨o1, o0, o2, -⟩ := m_set_ok hO s t (by omega)
    have hz : zin (nI t) 3 = true := zin_nI (by omega) (by decide)
    have hx : zx (nI t) = t := zxI (by omega)
    have hb := bit_s s hs t (by omega)
    obtain ⟨w', g1, g2, g3⟩ := ih (t + 1) n (zup w (10 + 7) t (nI (s / 2 ^ t % 2))) (by omega) (by omega) (hc.fw o1.1.1 o1.1.2.1 7 70 (s / 2 ^ t % 2) (by omega) (by rw [o2]; omega)) (hf.tr (zFQ.up _ (by decide)))
    refine ⟨w', ?_, g2, g3⟩
    show b_X3_arrivingBy_13 _ _ (zfix2 _ n) _ _ = _
    generalize zfix2 (b_X3_arrivingBy_13 (nI s) j) n = kk at g1 ⊢
    unfold b_X3_arrivingBy_13
    simp only [zletE, zjn1E, hz, zgTE, hx]
    rw [hc.wl, o2, if_neg (nI_ge (by omega) (by omega)), znar0, znar1, show nI t + 1 = nI (t + 1) from nI_1 _]
    by_cases db : s / 2 ^ t % 2 = 1
    · rw [if_pos (hb.mpr db)]
      rw [db] at g1
      exact g1
    · rw [if_neg (fun q => db (hb.mp q))]
      rw [show s / 2 ^ t % 2 = 0 by omega] at g1
      exact g1
theorem k_arrivingBy {w : zW} {P : zP} (h : CR w 2 P) (hO : Ok P) (h4 : P 4 < 1000) {s k : Nat} (hs : s < 8) (hk : k ≤ 3) : ∃ w', f_X3_arrivingBy w (nI s) (nI k) = some (nI (m_ak (m_set P s (P 1)) k), w') ∧ zFQ w w' := by
  have b1 := hO.1.2.1
  obtain ⟨fu, hfu⟩ : ∃ n : Nat, 100000 = n := ⟨_, rfl⟩
  obtain ⟨w1, e1, c1, f1⟩ := k_copyFrom (b := 10) h hO (by decide)
  obtain ⟨w2, e2, c2, f2⟩ := k_setL (w0 := w) (s := s) hO hs (fun w2 => zbd2 (f_X0_hoursToGoal w2 10 (nI k)) fun v4 w3 => zbd (f_X0_arrived w3 10) fun v5 => some (v5, w3)) (P 1) 0 fu w1 (by omega) (by omega) c1 f1.q10
  obtain ⟨o1, o0, o2, o4⟩ := m_set_ok hO s (P 1) (Nat.le_refl _)
  obtain ⟨w3, e3, c3, f3⟩ := k_hoursToGoal hk c2 o1 (by rw [o4]; omega)
  obtain ⟨p1, -⟩ := m_toGoal_ok k 96 0 o1
  refine ⟨w3, ?_, f2.tr f3.q10⟩
  unfold f_X3_arrivingBy
  rw [hfu]
  simp only [zjn1E]
  rw [e1, zbds, show zfix2 (b_X3_arrivingBy_13 (nI s) _) fu 0 w1 = _ from e2, e3, zbd2s, k_arrived c3 p1, zbds]
  rfl
/-- one sum's part; the sum -/
def m_tm (P : zP) (plan least s : Nat) : Nat := if m_wt P s (P 1) = 0 then 0 else m_wt P s (P 1) * (if least = 0 then m_ak (m_set P s (P 1)) plan else if m_ak (m_set P s (P 1)) plan < least then 0 else 1)
def m_sm (P : zP) (plan least : Nat) : Nat → Nat
  | 0 => 0
  | s + 1 => m_sm P plan least s + m_tm P plan least s
theorem m_ak_le {P : zP} (h : Ok P) (plan : Nat) : m_ak P plan ≤ 4 := m_arr_le (m_toGoal_ok plan 96 0 h).1
theorem m_wt_1000 {P : zP} (h : Ok P) (s : Nat) : m_wt P s (P 1) ≤ 1000 := by
  have h1 := m_wt_le h s (P 1) (Nat.le_refl _)
  have h2 : 10 ^ (P 1) ≤ 10 ^ 3 := Nat.pow_le_pow_right (by decide) h.1.2.1
  omega
theorem m_tm_le {P : zP} (h : Ok P) (plan least s : Nat) : m_tm P plan least s ≤ 4000 := by
  have h1 := m_wt_1000 h s
  have h2 := m_ak_le (m_set_ok h s (P 1) (Nat.le_refl _)).1 plan
  unfold m_tm
  split
  · omega
  · refine Nat.le_trans (Nat.mul_le_mul h1 (show _ ≤ 4 from ?_)) (by decide)
    repeat' split
    all_goals omega
theorem m_sm_le {P : zP} (h : Ok P) (plan least : Nat) : ∀ n, m_sm P plan least n ≤ 4000 * n
  | 0 => Nat.le_refl _
  | n + 1 => by
    have h1 := m_sm_le h plan least n
    have h2 := m_tm_le h plan least n
    simp only [m_sm]
    omega
theorem k_luck {w0 : zW} {P : zP} {a plan : Nat} (h : CR w0 2 P) (hO : Ok P) (h4 : P 4 < 1000) (ha : 1 ≤ a) (ha4 : a ≤ 4) (hpl : plan ≤ 3) (j : Int64 → zW → Option (Int64 × zW)) : ∀ (k t n : Nat) (w : zW), t + k = 2 ^ (P 1) → k < n → zFQ w0 w → ∃ w', zfix3 (b_X3_luck_35 (nI a) (nI plan) j) n (lN (m_sm P plan a t)) (nI t) w = j (lN (m_sm P plan a (2 ^ (P 1)))) w' ∧ zFQ w0 w' := by
  have b1 := hO.1.2.1
  have p8 : 2 ^ (P 1) ≤ 2 ^ 3 := Nat.pow_le_pow_right (by decide) b1
  intro k
  induction k with
  | zero =>
    intro t n w ht hn hf
    obtain ⟨n, rfl⟩ : ∃ m, n = m + 1 := ⟨n - 1, by omega⟩
    have hc : CR w 2 P := h.frame (fun j x y => hf j (by omega))
    refine ⟨w, ?_, hf⟩
    show b_X3_luck_35 _ _ _ (zfix3 _ n) _ _ _ = _
    generalize zfix3 (b_X3_luck_35 (nI a) (nI plan) j) n = kk
    unfold b_X3_luck_35
    rw [hc.wl, shl_1 _ b1, if_pos (nI_le (by omega) (by omega)), show t = 2 ^ (P 1) by omega]
  | succ k ih =>
    intro t n w ht hn hf
    obtain ⟨n, rfl⟩ : ∃ m, n = m + 1 := ⟨n - 1, by omega⟩
    have hc : CR w 2 P := h.frame (fun j x y => hf j (by omega))
    have hle := m_wt_1000 hO t
    have hak := m_ak_le (m_set_ok hO t (P 1) (Nat.le_refl _)).1 plan
    have cw := (lcmp0 (b := m_wt P t (P 1)) (by omega)).2.1
    obtain ⟨w1, e1, f1⟩ := k_arrivingBy hc hO h4 (s := t) (k := plan) (by omega) hpl
    have ca : nI (m_ak (m_set P t (P 1)) plan) < nI a ↔ m_ak (m_set P t (P 1)) plan < a := nI_ltI (by omega) (by omega)
    by_cases d : m_wt P t (P 1) = 0
    · obtain ⟨w', g1, g2⟩ := ih (t + 1) n w (by omega) (by omega) hf
      refine ⟨w', ?_, g2⟩
      show b_X3_luck_35 _ _ _ (zfix3 _ n) _ _ _ = _
      generalize zfix3 (b_X3_luck_35 (nI a) (nI plan) j) n = kk at g1 ⊢
      unfold b_X3_luck_35
      simp only [zletE, zjn2E]
      simp only [m_sm, m_tm, if_pos d] at g1
      rw [hc.wl, shl_1 _ b1, if_neg (nI_ge (by omega) (by omega)), k_weight hc hO (by omega), zbds, if_pos (cw.mpr d), show nI t + 1 = nI (t + 1) from nI_1 _]
      exact g1
    · obtain ⟨w', g1, g2⟩ := ih (t + 1) n w1 (by omega) (by omega) (hf.tr f1)
      refine ⟨w', ?_, g2⟩
      show b_X3_luck_35 _ _ _ (zfix3 _ n) _ _ _ = _
      generalize zfix3 (b_X3_luck_35 (nI a) (nI plan) j) n = kk at g1 ⊢
      unfold b_X3_luck_35
      simp only [zletE, zjn2E]
      simp only [m_sm, m_tm, if_neg d, if_neg (show ¬ a = 0 by omega)] at g1
      rw [hc.wl, shl_1 _ b1, if_neg (nI_ge (by omega) (by omega)), k_weight hc hO (by omega), zbds, if_neg (fun q => d (cw.mp q)), e1, zbd2s, show nI t + 1 = nI (t + 1) from nI_1 _]
      by_cases d2 : m_ak (m_set P t (P 1)) plan < a
      · rw [if_pos (ca.mpr d2)]
        rw [if_pos d2, Nat.mul_zero, Nat.add_zero] at g1
        exact g1
      · rw [if_neg (fun q => d2 (ca.mp q)), lN_add]
        rw [if_neg d2, Nat.mul_one] at g1
        exact g1
theorem k_mean {w0 : zW} {P : zP} {plan : Nat} (h : CR w0 2 P) (hO : Ok P) (h4 : P 4 < 1000) (hpl : plan ≤ 3) (j : Int64 → zW → Option (Int64 × zW)) : ∀ (k t n : Nat) (w : zW), t + k = 2 ^ (P 1) → k < n → zFQ w0 w → ∃ w', zfix3 (b_X3_mean_25 (nI plan) j) n (lN (m_sm P plan 0 t)) (nI t) w = j (lN (m_sm P plan 0 (2 ^ (P 1)))) w' ∧ zFQ w0 w' := by
  have b1 := hO.1.2.1
  have p8 : 2 ^ (P 1) ≤ 2 ^ 3 := Nat.pow_le_pow_right (by decide) b1
  intro k
  induction k with
  | zero =>
    intro t n w ht hn hf
    obtain ⟨n, rfl⟩ : ∃ m, n = m + 1 := ⟨n - 1, by omega⟩
    have hc : CR w 2 P := h.frame (fun j x y => hf j (by omega))
    refine ⟨w, ?_, hf⟩
    show b_X3_mean_25 _ _ (zfix3 _ n) _ _ _ = _
    generalize zfix3 (b_X3_mean_25 (nI plan) j) n = kk
    unfold b_X3_mean_25
    rw [hc.wl, shl_1 _ b1, if_pos (nI_le (by omega) (by omega)), show t = 2 ^ (P 1) by omega]
  | succ k ih =>
    intro t n w ht hn hf
    obtain ⟨n, rfl⟩ : ∃ m, n = m + 1 := ⟨n - 1, by omega⟩
    have hc : CR w 2 P := h.frame (fun j x y => hf j (by omega))
    have hle := m_wt_1000 hO t
    have hak := m_ak_le (m_set_ok hO t (P 1) (Nat.le_refl _)).1 plan
    have cw := (lcmp0 (b := m_wt P t (P 1)) (by omega)).2.1
    obtain ⟨w1, e1, f1⟩ := k_arrivingBy hc hO h4 (s := t) (k := plan) (by omega) hpl
    by_cases d : m_wt P t (P 1) = 0
    · obtain ⟨w', g1, g2⟩ := ih (t + 1) n w (by omega) (by omega) hf
      refine ⟨w', ?_, g2⟩
      show b_X3_mean_25 _ _ (zfix3 _ n) _ _ _ = _
      generalize zfix3 (b_X3_mean_25 (nI plan) j) n = kk at g1 ⊢
      unfold b_X3_mean_25
      simp only [zletE, zjn2E]
      simp only [m_sm, m_tm, if_pos d] at g1
      rw [hc.wl, shl_1 _ b1, if_neg (nI_ge (by omega) (by omega)), k_weight hc hO (by omega), zbds, if_pos (cw.mpr d), show nI t + 1 = nI (t + 1) from nI_1 _]
      exact g1
    · obtain ⟨w', g1, g2⟩ := ih (t + 1) n w1 (by omega) (by omega) (hf.tr f1)
      refine ⟨w', ?_, g2⟩
      show b_X3_mean_25 _ _ (zfix3 _ n) _ _ _ = _
      generalize zfix3 (b_X3_mean_25 (nI plan) j) n = kk at g1 ⊢
      unfold b_X3_mean_25
      simp only [zletE, zjn2E]
      simp only [m_sm, m_tm, if_neg d] at g1
      rw [if_pos trivial] at g1
      rw [hc.wl, shl_1 _ b1, if_neg (nI_ge (by omega) (by omega)), k_weight hc hO (by omega), zbds, if_neg (fun q => d (cw.mp q)), e1, zbd2s, show nI t + 1 = nI (t + 1) from nI_1 _, nI_l (by omega), lN_mul, lN_add]
      exact g1
theorem q_setL {w0 : zW} {P : zP} {s : Nat} (h0 : PR w0 0 0 P) (hO : Ok P) (hs : s < 8) (j : Int64 → zW → Option (Int64 × zW)) : ∀ (k t n : Nat) (w : zW), t + k = P 1 → k < n → PR w 100 0 (m_set P s t) → zMQ w0 w → ∃ w', zfix3 (b_X4_sumBy_29 (nI s) j) n (lN (m_wt P s t)) (nI t) w = j (lN (m_wt P s (P 1))) w' ∧ PR w' 100 0 (m_set P s (P 1)) ∧ zMQ w0 w' := by
  have b1 := hO.1.2.1
  have b0 := hO.1.1
  intro k
  induction k with
  | zero =>
    intro t n w ht hn hc hf
    obtain ⟨n, rfl⟩ : ∃ m, n = m + 1 := ⟨n - 1, by omega⟩
    obtain ⟨-, -, o2, -⟩ := m_set_ok hO s t (by omega)
    refine ⟨w, ?_, by rw [show P 1 = t by omega]; exact hc, hf⟩
    show b_X4_sumBy_29 _ _ (zfix3 _ n) _ _ _ = _
    generalize zfix3 (b_X4_sumBy_29 (nI s) j) n = kk
    unfold b_X4_sumBy_29
    rw [hc.wl, o2, if_pos (nI_le (by omega) (by omega)), show P 1 = t by omega]
  | succ k ih =>
    intro t n w ht hn hc hf
    obtain ⟨n, rfl⟩ : ∃ m, n = m + 1 := ⟨n - 1, by omega⟩
    obtain ⟨o1, o0, o2, -⟩ := m_set_ok hO s t (by omega)
    obtain ⟨q1, q2, q3, q4, q5, q6⟩ := hO.2.2 t (by omega)
    have hb := bit_s s hs t (by omega)
    have r7 : w 57 (14 + t) = nI (1 - P (70 + t)) := by
      have := h0.w7 (i := t) (by omega)
      rw [Nat.zero_add] at this
      rw [hf.2.1 _ (by omega)]
      exact this
    have r5 : w 57 (17 + t) = nI (P (50 + t)) := by
      have := h0.w5 (i := t) (by omega)
      rw [Nat.zero_add] at this
      rw [hf.2.1 _ (by omega)]
      exact this
    have e14 : (14 : Int32) + nI t = nI (14 + t) := nI_add 14 t
    have e17 : (17 : Int32) + nI t = nI (17 + t) := nI_add 17 t
    have e114 : (114 : Int32) + nI t = nI (114 + t) := nI_add 114 t
    have z14 : zin (nI (14 + t)) 120 = true := zin_nI (by omega) (by decide)
    have z17 : zin (nI (17 + t)) 120 = true := zin_nI (by omega) (by decide)
    have z114 : zin (nI (114 + t)) 120 = true := zin_nI (by omega) (by decide)
    have x14 : zx (nI (14 + t)) = 14 + t := zxI (by omega)
    have x17 : zx (nI (17 + t)) = 17 + t := zxI (by omega)
    have x114 : zx (nI (114 + t)) = 114 + t := zxI (by omega)
    have hpr := hc.fw (i := t) (by omega) o1.1.2.1 (by rw [o2]; omega) (s / 2 ^ t % 2)
    obtain ⟨w', g1, g2, g3⟩ := ih (t + 1) n (zup w 57 (100 + 14 + t) (nI (1 - s / 2 ^ t % 2))) (by omega) (by omega) hpr (hf.tr (zMQ.up _ (by omega)))
    refine ⟨w', ?_, g2, g3⟩
    have c7 : nI (1 - P (70 + t)) = 1 ↔ P (70 + t) = 0 := by
      have := nI_eq (a := 1 - P (70 + t)) (b := 1) (by omega) (by decide)
      exact this.trans (by omega)
    show b_X4_sumBy_29 _ _ (zfix3 _ n) _ _ _ = _
    generalize zfix3 (b_X4_sumBy_29 (nI s) j) n = kk at g1 ⊢
    unfold b_X4_sumBy_29
    rw [e14, e17, e114]
    simp only [zletE, zjn1E, z14, z17, z114, zgTE, x14, x17, x114]
    rw [hc.wl, o2, if_neg (nI_ge (by omega) (by omega)), r7, r5, show nI t + 1 = nI (t + 1) from nI_1 _]
    simp only [m_wt, m_od] at g1
    rw [show 100 + 14 + t = 114 + t by omega] at g1
    by_cases db : s / 2 ^ t % 2 = 1
    · rw [if_pos (hb.mpr db)]
      rw [if_pos db, db] at g1
      by_cases d7 : P (70 + t) = 0
      · rw [if_pos (c7.mpr d7), if_neg n10, if_neg n10, show ((0 : Int32).toInt64) = lN 0 from rfl, lN_mul]
        rw [if_pos d7] at g1
        exact g1
      · rw [if_neg (fun q => d7 (c7.mp q)), if_neg n10, if_neg n10, nI_l (by omega), lN_mul]
        rw [if_neg d7] at g1
        exact g1
    · rw [if_neg (fun q => db (hb.mp q))]
      rw [if_neg db, show s / 2 ^ t % 2 = 0 by omega] at g1
      by_cases d7 : P (70 + t) = 0
      · rw [if_pos (c7.mpr d7), if_pos trivial, if_pos trivial, show (((10 : Int32) - 0).toInt64) = lN (10 - 0) from rfl, lN_mul]
        rw [if_pos d7] at g1
        exact g1
      · rw [if_neg (fun q => d7 (c7.mp q)), if_pos trivial, if_pos trivial, show (10 : Int32) - nI (P (50 + t)) = nI (10 - P (50 + t)) from zsub_nI (a := 10) (by omega), nI_l (by omega), lN_mul]
        rw [if_neg d7] at g1
        exact g1
theorem q_smL {w0 : zW} {P : zP} {a plan : Nat} (h : PR w0 0 0 P) (hO : Ok P) (h4 : P 4 < 1000) (ha4 : a ≤ 4) (hpl : plan ≤ 3) : ∀ (k t n : Nat) (w : zW), t + k = 2 ^ (P 1) → k < n → zMQ w0 w → ∃ w', zfix3 (b_X4_sumBy_5 (nI plan) (nI a)) n (lN (m_sm P plan a t)) (nI t) w = some (lN (m_sm P plan a (2 ^ (P 1))), w') ∧ zMQ w0 w' := by
  have b1 := hO.1.2.1
  have b0 := hO.1.1
  have p8 : 2 ^ (P 1) ≤ 2 ^ 3 := Nat.pow_le_pow_right (by decide) b1
  have hpr : ∀ w, zMQ w0 w → PR w 0 0 P := fun w hf => h.frame (by omega) b1 (fun j x y => hf.2.2 j (by omega)) (fun j x y => hf.2.1 j (by omega)) (hf.1 58 (by decide) (by decide)) (hf.1 59 (by decide) (by decide))
  intro k
  induction k with
  | zero =>
    intro t n w ht hn hf
    obtain ⟨n, rfl⟩ : ∃ m, n = m + 1 := ⟨n - 1, by omega⟩
    refine ⟨w, ?_, hf⟩
    show b_X4_sumBy_5 _ _ (zfix3 _ n) _ _ _ = _
    generalize zfix3 (b_X4_sumBy_5 (nI plan) (nI a)) n = kk
    unfold b_X4_sumBy_5
    rw [(hpr w hf).wl, shl_1 _ b1, if_pos (nI_le (by omega) (by omega)), show t = 2 ^ (P 1) by omega]
  | succ k ih =>
    intro t n w ht hn hf
    obtain ⟨n, rfl⟩ : ∃ m, n = m + 1 := ⟨n - 1, by omega⟩
    obtain ⟨fu, hfu⟩ : ∃ n : Nat, 100000 = n := ⟨_, rfl⟩
    have hle := m_wt_1000 hO t
    obtain ⟨o1, o0, o2, o4⟩ := m_set_ok hO t (P 1) (Nat.le_refl _)
    have hak := m_ak_le o1 plan
    have cw := (lcmp0 (b := m_wt P t (P 1)) (by omega)).1
    obtain ⟨w1, e1, c1, f1⟩ := q_copies (hpr w hf) hO (by omega) (g1 := 0) (by decide) (g2 := 100) (by decide) (by decide)
    have f1' := hf.tr (f1.q (by decide))
    have ca : nI (m_ak (m_set P t (P 1)) plan) < nI a ↔ m_ak (m_set P t (P 1)) plan < a := nI_ltI (by omega) (by omega)
    have c0 : nI a = 0 ↔ a = 0 := zeq0 (by omega)
    generalize hkk : zfix3 (b_X4_sumBy_5 (nI plan) (nI a)) n = kk at ih
    obtain ⟨w2, e2, c2, f2⟩ := q_setL (w0 := w0) (s := t) h hO (by omega) (fun v6 w7 => if lg_cmp v6 0 = 0 then (if nI a = 0 then kk (lN (m_sm P plan a t) + v6 * (0 : Int32).toInt64) (nI (t + 1)) w7 else if 0 < nI a then kk (lN (m_sm P plan a t) + v6 * (0 : Int32).toInt64) (nI (t + 1)) w7 else kk (lN (m_sm P plan a t) + v6 * (1 : Int32).toInt64) (nI (t + 1)) w7) else zbd2 (f_X4_arriveFrom w7 100 (nI plan)) fun v17 w16 => if nI a = 0 then kk (lN (m_sm P plan a t) + v6 * v17.toInt64) (nI (t + 1)) w16 else if v17 < nI a then kk (lN (m_sm P plan a t) + v6 * (0 : Int32).toInt64) (nI (t + 1)) w16 else kk (lN (m_sm P plan a t) + v6 * (1 : Int32).toInt64) (nI (t + 1)) w16) (P 1) 0 fu w1 (by omega) (by omega) c1 f1'
    obtain ⟨w3, e3, -, -, f3⟩ := q_arriveFrom hpl c2 o1 (by omega) (g := 100) (by decide) (by decide) (by rw [o4]; omega)
    have step : ∃ w3, zMQ w0 w3 ∧ b_X4_sumBy_5 (nI plan) (nI a) kk (lN (m_sm P plan a t)) (nI t) w = kk (lN (m_sm P plan a (t + 1))) (nI (t + 1)) w3 := by
      by_cases d : m_wt P t (P 1) = 0
      · refine ⟨w2, f2, ?_⟩
        unfold b_X4_sumBy_5
        rw [hfu]
        simp only [zletE, zjn1E, zjn2E]
        rw [(hpr w hf).wl, shl_1 _ b1, if_neg (nI_ge (by omega) (by omega)), show f_X4_copies w 0 100 = some w1 from e1, zbds, show nI t + 1 = nI (t + 1) from nI_1 _, show zfix3 (b_X4_sumBy_29 (nI t) _) fu 1 0 w1 = _ from e2, if_pos (cw.mpr d), d, show ((0 : Int32).toInt64) = lN 0 from rfl, show ((1 : Int32).toInt64) = lN 1 from rfl, lN_mul, lN_mul, lN_add]
        (try rw [lN_add])
        simp only [m_sm, m_tm, if_pos d, Nat.zero_mul]
        repeat' split
        all_goals rfl
      · refine ⟨w3, f2.tr f3.q, ?_⟩
        unfold b_X4_sumBy_5
        rw [hfu]
        simp only [zletE, zjn1E, zjn2E]
        rw [(hpr w hf).wl, shl_1 _ b1, if_neg (nI_ge (by omega) (by omega)), show f_X4_copies w 0 100 = some w1 from e1, zbds, show nI t + 1 = nI (t + 1) from nI_1 _, show zfix3 (b_X4_sumBy_29 (nI t) _) fu 1 0 w1 = _ from e2, if_neg (fun q => d (cw.mp q)), show f_X4_arriveFrom w2 100 (nI plan) = _ from e3, zbd2s, show ((0 : Int32).toInt64) = lN 0 from rfl, show ((1 : Int32).toInt64) = lN 1 from rfl, lN_mul, lN_mul, lN_add, lN_add, show nI (m_arr (m_toGoal plan 96 0 (m_set P t (P 1))).2) = nI (m_ak (m_set P t (P 1)) plan) from rfl, nI_l (by omega), lN_mul, lN_add]
        simp only [m_sm, m_tm, if_neg d]
        by_cases da : a = 0
        · rw [if_pos (c0.mpr da), if_pos da]
        · rw [if_neg (fun q => da (c0.mp q)), if_neg da]
          by_cases d2 : m_ak (m_set P t (P 1)) plan < a
          · rw [if_pos (ca.mpr d2), if_pos d2]
          · rw [if_neg (fun q => d2 (ca.mp q)), if_neg d2]
    obtain ⟨w3', s1, s2⟩ := step
    subst hkk
    obtain ⟨w', g1, g2⟩ := ih (t + 1) n w3' (by omega) (by omega) s1
    exact ⟨w', s2.trans g1, g2⟩
theorem o_luck (w : zW) (h : zJ w) (a1 a2 a3 : Int32) : ∃ (r : Int64) (w1 : zW) (w2 : zW), f_X3_luck w a1 a2 a3 = some (r, w1) ∧ f_X4_luck w1 a1 a2 a3 = some (r, w2) ∧ zJ w2 := by
  obtain ⟨P, hN⟩ := h.1
  obtain ⟨h1, h2, h3, h4, h5⟩ := id hN
  have b0 := h3.1.1
  have b1 := h3.1.2.1
  have p8 : 2 ^ (P 1) ≤ 2 ^ 3 := Nat.pow_le_pow_right (by decide) b1
  have hi1 : f_X4_in a1.toInt64 (1 : Int64) (4 : Int64) = f_X3_within a1 1 4 := in_within a1 1 4
  have hi3 : f_X4_in a3.toInt64 (0 : Int64) (1 : Int64) = f_X3_within a3 0 1 := in_within a3 0 1
  have hw1 : f_X3_within a1 1 4 = 0 ∨ (f_X3_within a1 1 4 = 1 ∧ ∃ p, 1 ≤ p ∧ p ≤ 4 ∧ a1 = nI p) ∨ 4 < 1 := win_cases a1 1 4 (by decide)
  have hw2 : f_X3_isPlan a2 = 0 ∨ (f_X3_isPlan a2 = 1 ∧ ∃ p, p ≤ 3 ∧ a2 = nI p) := winL a2 3 (by decide)
  obtain ⟨fu, hfu⟩ : ∃ n : Nat, 100000 = n := ⟨_, rfl⟩
  unfold f_X3_luck f_X4_luck f_X4_sumBy
  rw [hfu]
  simp only [zjn2E]
  rw [isPlan_eq, hi1, hi3]
  rcases hw1 with e | ⟨e, a, ha1, ha, rfl⟩ | hf
  · rw [e, if_pos rfl]
    exact ⟨_, _, w, rfl, if_pos rfl, h⟩
  · rw [e, if_neg n10]
    rcases hw2 with e2 | ⟨e2, k, hk, rfl⟩
    · rw [e2, if_pos rfl]
      refine ⟨_, _, w, rfl, ?_, h⟩
      rw [if_neg n10, if_pos rfl]
    · rw [e2, if_neg n10]
      by_cases e3 : f_X3_within a3 0 1 = 0
      · rw [if_pos e3]
        refine ⟨_, _, w, rfl, ?_, h⟩
        rw [if_neg n10, if_neg n10, if_pos e3]
      · rw [if_neg e3]
        obtain ⟨w2, e4, f4⟩ := k_luck (w0 := w) h1 h3 h4 ha1 ha hk (fun v4 w5 => zbd (f_X3_power 10 (w5 2 4)) fun v6 => zbd (f_X3_partOfFraction v4 v6 a3) fun v7 => some (v7, w5)) (2 ^ (P 1)) 0 fu w (by omega) (by omega) zFQ.rf
        have cl2 := zJ.cl hN f4
        obtain ⟨w4, e6, f6⟩ := q_smL (w0 := w2) (a := a) cl2.2 h3 h4 ha hk (2 ^ (P 1)) 0 fu w2 (by omega) (by omega) zMQ.rf
        have hle := m_sm_le h3 k a (2 ^ (P 1))
        have p1 : 10 ^ (P 1) ≤ 10 ^ 3 := Nat.pow_le_pow_right (by decide) b1
        have p3 : 0 < 10 ^ (P 1) := Nat.pow_pos (by decide)
        have z1 : f_X3_power 10 (nI (P 1)) = some (lN (10 ^ (P 1))) := k_power 10 (by decide) (by omega)
        have z3 : w2 2 4 = nI (P 1) := cl2.1.wl
        have z4 : w4 56 4 = nI (P 1) := by rw [f6.2.2 4 (by decide)]; exact cl2.2.wl
        rw [show zfix3 (b_X3_luck_35 (nI a) (nI k) _) fu 0 0 w = _ from e4, z3, z1, zbds, k_frac (by omega) p3 (by omega) a3, zbds]
        refine ⟨_, w2, w4, rfl, ?_, h.q f4 f6⟩
        rw [if_neg n10, if_neg n10, if_neg e3, show zfix3 (b_X4_sumBy_5 (nI k) (nI a)) fu 0 0 w2 = _ from e6, zbd2s, z4, q_tens (by omega), zbds, q_frac (by omega) p3 (by omega) a3, zbds]
  · omega
theorem o_mean (w : zW) (h : zJ w) (a2 a3 : Int32) : ∃ (r : Int64) (w1 : zW) (w2 : zW), f_X3_mean w a2 a3 = some (r, w1) ∧ f_X4_mean w1 a2 a3 = some (r, w2) ∧ zJ w2 := by
  obtain ⟨P, hN⟩ := h.1
  obtain ⟨h1, h2, h3, h4, h5⟩ := id hN
  have b0 := h3.1.1
  have b1 := h3.1.2.1
  have p8 : 2 ^ (P 1) ≤ 2 ^ 3 := Nat.pow_le_pow_right (by decide) b1
  have hi3 : f_X4_in a3.toInt64 (0 : Int64) (1 : Int64) = f_X3_within a3 0 1 := in_within a3 0 1
  have hw2 : f_X3_isPlan a2 = 0 ∨ (f_X3_isPlan a2 = 1 ∧ ∃ p, p ≤ 3 ∧ a2 = nI p) := winL a2 3 (by decide)
  obtain ⟨fu, hfu⟩ : ∃ n : Nat, 100000 = n := ⟨_, rfl⟩
  unfold f_X3_mean f_X4_mean f_X4_sumBy
  rw [hfu]
  simp only [zjn2E, zjn0E]
  rw [isPlan_eq, hi3]
  rcases hw2 with e2 | ⟨e2, k, hk, rfl⟩
  · rw [e2, if_pos rfl]
    exact ⟨_, _, w, rfl, if_pos rfl, h⟩
  · rw [e2, if_neg n10]
    by_cases e3 : f_X3_within a3 0 1 = 0
    · rw [if_pos e3]
      refine ⟨_, _, w, rfl, ?_, h⟩
      rw [if_neg n10, if_pos e3]
    · rw [if_neg e3]
      obtain ⟨w2, e4, f4⟩ := k_mean (w0 := w) h1 h3 h4 hk (fun v4 w5 => zbd (f_X3_power 10 (w5 2 4)) fun v6 => zbd (f_X3_partOfFraction v4 v6 a3) fun v7 => some (v7, w5)) (2 ^ (P 1)) 0 fu w (by omega) (by omega) zFQ.rf
      have cl2 := zJ.cl hN f4
      obtain ⟨w4, e6, f6⟩ := q_smL (w0 := w2) (a := 0) cl2.2 h3 h4 (by decide) hk (2 ^ (P 1)) 0 fu w2 (by omega) (by omega) zMQ.rf
      have hle := m_sm_le h3 k 0 (2 ^ (P 1))
      have p1 : 10 ^ (P 1) ≤ 10 ^ 3 := Nat.pow_le_pow_right (by decide) b1
      have p3 : 0 < 10 ^ (P 1) := Nat.pow_pos (by decide)
      have z1 : f_X3_power 10 (nI (P 1)) = some (lN (10 ^ (P 1))) := k_power 10 (by decide) (by omega)
      have z3 : w2 2 4 = nI (P 1) := cl2.1.wl
      have z4 : w4 56 4 = nI (P 1) := by rw [f6.2.2 4 (by decide)]; exact cl2.2.wl
      rw [show zfix3 (b_X3_mean_25 (nI k) _) fu 0 0 w = _ from e4, z3, z1, zbds, k_frac (by omega) p3 (by omega) a3, zbds]
      refine ⟨_, w2, w4, rfl, ?_, h.q f4 f6⟩
      rw [if_neg n10, if_neg e3, show zfix3 (b_X4_sumBy_5 (nI k) 0) fu 0 0 w2 = _ from e6, zbd2s, z4, q_tens (by omega), zbds, q_frac (by omega) p3 (by omega) a3, zbds]
