/-! the best plan -/
def m_ak (P : zP) (k : Nat) : Nat := m_arr (m_toGoal k 96 0 P).2
def m_hk (P : zP) (k : Nat) : Nat := (m_toGoal k 96 0 P).1
def m_bs (P : zP) (k : Nat) (s : Nat × Nat × Nat) : Nat × Nat × Nat := if s.2.1 < m_ak P k ∨ (0 < m_ak P k ∧ m_ak P k = s.2.1 ∧ m_hk P k < s.2.2) then (k, m_ak P k, m_hk P k) else s
def m_bl (P : zP) : Nat → Nat → Nat × Nat × Nat → Nat × Nat × Nat
  | 0, _, s => s
  | m + 1, k, s => m_bl P m (k + 1) (m_bs P k s)
theorem m_bs_le {P : zP} (hO : Ok P) (k : Nat) {s : Nat × Nat × Nat} (h1 : s.2.1 ≤ 4) (h2 : s.2.2 ≤ 96) : (m_bs P k s).2.1 ≤ 4 ∧ (m_bs P k s).2.2 ≤ 96 := by
  obtain ⟨o1, -, -, o4⟩ := m_toGoal_ok k 96 0 hO
  have := m_arr_le o1
  unfold m_bs
  split
  · exact ⟨this, by show (m_toGoal k 96 0 P).1 ≤ 96; omega⟩
  · exact ⟨h1, h2⟩
theorem k_best {w0 : zW} {P : zP} (h1 : CR w0 2 P) (hO : Ok P) (hb : P 4 < 1000) (j : Int32 → Int32 → zW → Option (Int32 × zW)) : ∀ (m k n : Nat) (s : Nat × Nat × Nat) (w : zW), k + m = 3 → m < n → s.2.1 ≤ 4 → s.2.2 ≤ 96 → zFQ w0 w → ∃ w', zfix5 (b_X3_best_21 j) n (nI s.1) (nI s.2.1) (nI s.2.2) (nI k) w = j (nI (m_bl P m k s).1) (nI (m_bl P m k s).2.1) w' ∧ zFQ w0 w' := by
  intro m
  induction m with
  | zero =>
    intro k n s w hk hn s1 s2 hf
    obtain ⟨n, rfl⟩ : ∃ m, n = m + 1 := ⟨n - 1, by omega⟩
    refine ⟨w, ?_, hf⟩
    show b_X3_best_21 _ (zfix5 _ n) _ _ _ _ _ = _
    generalize zfix5 (b_X3_best_21 j) n = kk
    unfold b_X3_best_21
    rw [show k = 3 by omega, if_pos (by decide)]
    rfl
  | succ m ih =>
    intro k n s w hk hn s1 s2 hf
    obtain ⟨n, rfl⟩ : ∃ m, n = m + 1 := ⟨n - 1, by omega⟩
    have c2 : (2 : Int32) < nI k ↔ 2 < k := nI_ltI (a := 2) (by decide) (by omega)
    have hc : CR w 2 P := h1.frame (fun j x y => hf j (by omega))
    obtain ⟨w1, e1, c1, f1⟩ := k_copyFrom (b := 10) hc hO (by decide)
    obtain ⟨w2, e2, c3, f2⟩ := k_hoursToGoal (k := k) (by omega) c1 hO (by omega)
    obtain ⟨o1, -, -, o4⟩ := m_toGoal_ok k 96 0 hO
    have hle := m_arr_le o1
    obtain ⟨b1, b2⟩ := m_bs_le hO k s1 s2
    obtain ⟨w', g1, g2⟩ := ih (k + 1) n (m_bs P k s) w2 (by omega) (by omega) b1 b2 ((hf.tr f1.q10).tr f2.q10)
    refine ⟨w', ?_, g2⟩
    show b_X3_best_21 _ (zfix5 _ n) _ _ _ _ _ = _
    generalize zfix5 (b_X3_best_21 j) n = kk at g1 ⊢
    unfold b_X3_best_21
    simp only [zletE, zjn0E, zjn3]
    rw [if_neg (fun q => absurd (c2.mp q) (by omega)), e1, zbds, e2, zbd2s, k_arrived c3 o1, zbds, show nI k + 1 = nI (k + 1) from nI_1 _]
    simp only [m_bl]
    unfold m_bs at g1 ⊢
    rw [show m_arr (m_toGoal k 96 0 P).2 = m_ak P k from rfl, show (m_toGoal k 96 0 P).1 = m_hk P k from rfl] at *
    have ca : nI s.2.1 < nI (m_ak P k) ↔ s.2.1 < m_ak P k := nI_ltI (by omega) (by omega)
    have cz : nI (m_ak P k) ≤ 0 ↔ m_ak P k ≤ 0 := nI_leI (b := 0) (by omega) (by decide)
    have ce : nI (m_ak P k) = nI s.2.1 ↔ m_ak P k = s.2.1 := nI_eq (by omega) (by omega)
    have ch : nI s.2.2 ≤ nI (m_hk P k) ↔ s.2.2 ≤ m_hk P k := nI_leI (by omega) (by omega)
    by_cases d1 : s.2.1 < m_ak P k
    · rw [if_pos (ca.mpr d1)]
      rw [if_pos (Or.inl d1)] at g1 ⊢
      exact g1
    · rw [if_neg (fun q => d1 (ca.mp q))]
      by_cases d2 : m_ak P k ≤ 0
      · rw [if_pos (cz.mpr d2)]
        rw [if_neg (by omega)] at g1 ⊢
        exact g1
      · rw [if_neg (fun q => d2 (cz.mp q))]
        by_cases d3 : m_ak P k = s.2.1
        · rw [if_pos (ce.mpr d3)]
          by_cases d4 : s.2.2 ≤ m_hk P k
          · rw [if_pos (ch.mpr d4)]
            rw [if_neg (by omega)] at g1 ⊢
            exact g1
          · rw [if_neg (fun q => d4 (ch.mp q))]
            rw [if_pos (by omega)] at g1 ⊢
            exact g1
        · rw [if_neg (fun q => d3 (ce.mp q))]
          rw [if_neg (by omega)] at g1 ⊢
          exact g1
theorem q_best1 {P : zP} (hO : Ok P) (hb : P 4 < 1000) {w : zW} (hp : PR w 0 0 P) {k : Nat} (hk : k ≤ 2) (j : Int32 → Int32 → zW → Option (Int32 × zW)) (kk : Int32 → Int32 → Int32 → Int32 → zW → Option (Int32 × zW)) : ∃ w2, zMQ w w2 ∧ (∀ (s : Nat × Nat × Nat), s.2.1 ≤ 4 → s.2.2 ≤ 96 → b_X4_best_22 j kk (nI s.2.1) (nI s.2.2) (nI s.1) (nI k) w = kk (nI (m_bs P k s).2.1) (nI (m_bs P k s).2.2) (nI (m_bs P k s).1) (nI (k + 1)) w2) ∧ b_X4_best_22 j kk (-1) 0 0 (nI k) w = kk (nI (m_ak P k)) (nI (m_hk P k)) (nI k) (nI (k + 1)) w2 := by
  have b0 := hO.1.1
  have e10 : ((1 : Int32) = 0) = False := eq_false (by decide)
  have c2 : (3 : Int32) ≤ nI k ↔ 3 ≤ k := nI_leI (a := 3) (by decide) (by omega)
  obtain ⟨w2, e2, e3, -, f2⟩ := q_arriveFrom (k := k) (by omega) hp hO (by omega) (g := 0) (by decide) (by decide) (by omega)
  obtain ⟨o1, -, -, o4⟩ := m_toGoal_ok k 96 0 hO
  have hle := m_arr_le o1
  have e2' : f_X4_arriveFrom w 0 (nI k) = some (nI (m_ak P k), w2) := e2
  have e3' : w2 56 28 = nI (m_hk P k) := e3
  have hla : m_ak P k ≤ 4 := hle
  have hlh : m_hk P k ≤ 96 := by show (m_toGoal k 96 0 P).1 ≤ 96; omega
  refine ⟨w2, f2.q, fun s s1 s2 => ?_, ?_⟩
  · unfold b_X4_best_22
    simp only [zletE, zjn0E, zjn1E]
    rw [if_neg (fun q => absurd (c2.mp q) (by omega)), e2', zbd2s, e3', show nI k + 1 = nI (k + 1) from nI_1 _]
    unfold m_bs
    have ca : nI s.2.1 < nI (m_ak P k) ↔ s.2.1 < m_ak P k := nI_ltI (by omega) (by omega)
    have cz : nI (m_ak P k) ≤ 0 ↔ m_ak P k ≤ 0 := nI_leI (b := 0) (by omega) (by decide)
    have ce : nI (m_ak P k) = nI s.2.1 ↔ m_ak P k = s.2.1 := nI_eq (by omega) (by omega)
    have ch : nI s.2.2 ≤ nI (m_hk P k) ↔ s.2.2 ≤ m_hk P k := nI_leI (by omega) (by omega)
    by_cases d1 : s.2.1 < m_ak P k
    · simp only [if_pos (ca.mpr d1), e10, if_false, if_true]
      rw [if_pos (Or.inl d1)]
    · simp only [if_neg (fun q => d1 (ca.mp q)), e10, if_false, if_true]
      by_cases d3 : m_ak P k = s.2.1
      · simp only [if_pos (ce.mpr d3), e10, if_false, if_true]
        by_cases d2 : m_ak P k ≤ 0
        · simp only [if_pos (cz.mpr d2), e10, if_false, if_true]
          rw [if_neg (by omega)]
        · simp only [if_neg (fun q => d2 (cz.mp q)), e10, if_false, if_true]
          by_cases d4 : s.2.2 ≤ m_hk P k
          · simp only [if_pos (ch.mpr d4), e10, if_false, if_true]
            rw [if_neg (by omega)]
          · simp only [if_neg (fun q => d4 (ch.mp q)), e10, if_false, if_true]
            rw [if_pos (by omega)]
      · simp only [if_neg (fun q => d3 (ce.mp q)), e10, if_false, if_true]
        rw [if_neg (by omega)]
  · unfold b_X4_best_22
    simp only [zletE, zjn0E, zjn1E]
    have cm : (-1 : Int32) < nI (m_ak P k) := by
      rw [Int32.lt_iff_toInt_lt, nI_toInt (by omega), show (-1 : Int32).toInt = -1 from by decide]
      omega
    rw [if_neg (fun q => absurd (c2.mp q) (by omega)), e2', zbd2s, e3', show nI k + 1 = nI (k + 1) from nI_1 _]
    simp only [if_pos cm, e10, if_false, if_true]
theorem q_best {w0 : zW} {P : zP} (h1 : PR w0 0 0 P) (hO : Ok P) (hb : P 4 < 1000) (j : Int32 → Int32 → zW → Option (Int32 × zW)) : ∀ (m k n : Nat) (s : Nat × Nat × Nat) (w : zW), k + m = 3 → m < n → s.2.1 ≤ 4 → s.2.2 ≤ 96 → zMQ w0 w → ∃ w', zfix5 (b_X4_best_22 j) n (nI s.2.1) (nI s.2.2) (nI s.1) (nI k) w = j (nI (m_bl P m k s).2.1) (nI (m_bl P m k s).1) w' ∧ zMQ w0 w' := by
  have b0 := hO.1.1
  intro m
  induction m with
  | zero =>
    intro k n s w hk hn s1 s2 hf
    obtain ⟨n, rfl⟩ : ∃ m, n = m + 1 := ⟨n - 1, by omega⟩
    refine ⟨w, ?_, hf⟩
    show b_X4_best_22 _ (zfix5 _ n) _ _ _ _ _ = _
    generalize zfix5 (b_X4_best_22 j) n = kk
    unfold b_X4_best_22
    rw [show k = 3 by omega, if_pos (by decide)]
    rfl
  | succ m ih =>
    intro k n s w hk hn s1 s2 hf
    obtain ⟨n, rfl⟩ : ∃ m, n = m + 1 := ⟨n - 1, by omega⟩
    have hp : PR w 0 0 P := h1.frame (by omega) hO.1.2.1 (fun j a b => hf.2.2 j (by omega)) (fun j a b => hf.2.1 j (by omega)) (hf.1 58 (by decide) (by decide)) (hf.1 59 (by decide) (by decide))
    obtain ⟨w2, f2, st, -⟩ := q_best1 hO hb hp (show k ≤ 2 by omega) j (zfix5 (b_X4_best_22 j) n)
    obtain ⟨b1, b2⟩ := m_bs_le hO k s1 s2
    obtain ⟨w', g1, g2⟩ := ih (k + 1) n (m_bs P k s) w2 (by omega) (by omega) b1 b2 (hf.tr f2)
    refine ⟨w', ?_, g2⟩
    show b_X4_best_22 _ (zfix5 _ n) _ _ _ _ _ = _
    rw [st s s1 s2]
    exact g1
theorem m_best_eq {P : zP} : (m_bl P 3 0 (0, 0, 0)).1 = (m_bl P 2 1 (0, m_ak P 0, m_hk P 0)).1 ∧ (m_bl P 3 0 (0, 0, 0)).2.1 = (m_bl P 2 1 (0, m_ak P 0, m_hk P 0)).2.1 := by
  simp only [m_bl]
  by_cases d : 0 < m_ak P 0
  · rw [show m_bs P 0 (0, 0, 0) = (0, m_ak P 0, m_hk P 0) from by unfold m_bs; rw [if_pos (Or.inl d)]]
    exact ⟨rfl, rfl⟩
  · have z : m_ak P 0 = 0 := by omega
    rw [show m_bs P 0 (0, 0, 0) = (0, 0, 0) from by unfold m_bs; rw [if_neg]; simp only [not_or]; exact ⟨d, fun q => d q.1⟩, z]
    have key : ∀ k, m_bs P k (0, 0, 0) = m_bs P k (0, 0, m_hk P 0) ∨ (m_bs P k (0, 0, 0) = (0, 0, 0) ∧ m_bs P k (0, 0, m_hk P 0) = (0, 0, m_hk P 0)) := by
      intro k
      unfold m_bs
      by_cases d2 : 0 < m_ak P k
      · left; rw [if_pos (Or.inl d2), if_pos (Or.inl d2)]
      · right
        rw [if_neg (by simp only [not_or]; exact ⟨d2, fun q => d2 q.1⟩), if_neg (by simp only [not_or]; exact ⟨d2, fun q => d2 q.1⟩)]
        exact ⟨rfl, rfl⟩
    rcases key 1 with e | ⟨e, e'⟩
    · rw [e]; exact ⟨rfl, rfl⟩
    · rw [e, e']
      rcases key 2 with e | ⟨e, e'⟩
      · rw [e]; exact ⟨rfl, rfl⟩
      · rw [e, e']; exact ⟨rfl, rfl⟩
theorem o_best (w : zW) (h : zJ w) (a1 : Int32) : ∃ (r : Int32) (w1 : zW) (w2 : zW), f_X3_best w a1 = some (r, w1) ∧ f_X4_best w1 a1 = some (r, w2) ∧ zJ w2 := by
  obtain ⟨P, hN⟩ := h.1
  obtain ⟨h1, h2, h3, h4, h5⟩ := id hN
  have b0 := h3.1.1
  have hin : f_X4_in a1.toInt64 (0 : Int64) (1 : Int64) = f_X3_within a1 0 1 := in_within a1 0 1
  unfold f_X3_best f_X4_best
  simp only [zjn3]
  rw [hin]
  by_cases e : f_X3_within a1 0 1 = 0
  · rw [if_pos e]
    exact ⟨_, _, w, rfl, if_pos e, h⟩
  · obtain ⟨w2, e4, f4⟩ := k_best h1 h3 h4 (fun v2 v3 w4 => if a1 = 0 then some (v2, w4) else some (v3, w4)) 3 0 100000 (0, 0, 0) w (by decide) (by decide) (by decide) (by decide) zFQ.rf
    have cl2 := zJ.cl hN f4
    obtain ⟨w3, f3, -, st⟩ := q_best1 h3 h4 cl2.2 (k := 0) (by decide) (fun v2 v3 w4 => if a1 = 0 then some (v3, w4) else some (v2, w4)) (zfix5 (b_X4_best_22 (fun v2 v3 w4 => if a1 = 0 then some (v3, w4) else some (v2, w4))) 99999)
    obtain ⟨o1, -, -, o4⟩ := m_toGoal_ok 0 96 0 h3
    obtain ⟨w4, e6, f6⟩ := q_best (w0 := w2) cl2.2 h3 h4 (fun v2 v3 w4 => if a1 = 0 then some (v3, w4) else some (v2, w4)) 2 1 99999 (0, m_ak P 0, m_hk P 0) w3 (by decide) (by decide) (m_arr_le o1) (by show (m_toGoal 0 96 0 P).1 ≤ 96; omega) f3
    obtain ⟨q1, q2⟩ := m_best_eq (P := P)
    rw [if_neg e, show zfix5 (b_X3_best_21 _) 100000 0 0 0 0 w = _ from e4]
    have fin : zfix5 (b_X4_best_22 (fun v2 v3 w4 => if a1 = 0 then some (v3, w4) else some (v2, w4))) 100000 (-1) 0 0 0 w2 = (if a1 = 0 then some (nI (m_bl P 3 0 (0, 0, 0)).1, w4) else some (nI (m_bl P 3 0 (0, 0, 0)).2.1, w4)) := by
      rw [q1, q2]
      exact st.trans e6
    by_cases x : a1 = 0
    · rw [if_pos x] at fin
      rw [if_pos x]
      exact ⟨_, w2, w4, rfl, by rw [if_neg e]; exact fin, h.q f4 f6⟩
    · rw [if_neg x] at fin
      rw [if_neg x]
      exact ⟨_, w2, w4, rfl, by rw [if_neg e]; exact fin, h.q f4 f6⟩
