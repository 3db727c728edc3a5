/-! counts -/
theorem q_sumL {w : zW} {P : zP} (h : PR w 0 0 P) (hO : Ok P) (h5 : w 56 2 = nI (P 0)) (j : Int32 → Option Int32) : zfix2 (b_X4_count_7 w j) 100000 0 0 = j (nI (m_sum P (P 0))) := by
  have b0 := hO.1.1
  have key : ∀ (k i n : Nat), i + k = P 0 → k < n → zfix2 (b_X4_count_7 w j) n (nI (m_sum P i)) (nI i) = j (nI (m_sum P (P 0))) := by
    intro k
    induction k with
    | zero =>
      intro i n hi hn
      obtain ⟨n, rfl⟩ : ∃ m, n = m + 1 := ⟨n - 1, by omega⟩
      show b_X4_count_7 w _ (zfix2 _ n) _ _ = _
      generalize zfix2 (b_X4_count_7 w j) n = kk
      unfold b_X4_count_7
      rw [h5, if_pos (nI_le (by omega) (by omega)), show i = P 0 by omega]
    | succ k ih =>
      intro i n hi hn
      obtain ⟨n, rfl⟩ : ∃ m, n = m + 1 := ⟨n - 1, by omega⟩
      have h1 := ih (i + 1) n (by omega) (by omega)
      have k3 : w 57 (4 + i) = nI (P (30 + i)) := by have := h.lv (p := i) (by omega); rw [Nat.zero_add, Nat.zero_add] at this; exact this
      show b_X4_count_7 w _ (zfix2 _ n) _ _ = _
      generalize zfix2 (b_X4_count_7 w j) n = kk at h1 ⊢
      unfold b_X4_count_7
      simp only [zletE]
      rw [h5, if_neg (nI_ge (by omega) (by omega)), show (4 : Int32) + nI i = nI (4 + i) from nI_add 4 i, zgt (zin_nI (by omega) (by decide)), zxI (by omega), k3, nI_add, show nI i + 1 = nI (i + 1) from nI_1 _]
      exact h1
  exact key (P 0) 0 100000 (by omega) (by omega)
theorem q_wcL {w : zW} {P : zP} (h : PR w 0 0 P) (hO : Ok P) (j : Int32 → Option Int32) : zfix2 (b_X4_count_37 w j) 100000 0 0 = j (nI (m_wc P (P 1))) := by
  have b0 := hO.1.2.1
  have key : ∀ (k i n : Nat), i + k = P 1 → k < n → zfix2 (b_X4_count_37 w j) n (nI (m_wc P i)) (nI i) = j (nI (m_wc P (P 1))) := by
    intro k
    induction k with
    | zero =>
      intro i n hi hn
      obtain ⟨n, rfl⟩ : ∃ m, n = m + 1 := ⟨n - 1, by omega⟩
      show b_X4_count_37 w _ (zfix2 _ n) _ _ = _
      generalize zfix2 (b_X4_count_37 w j) n = kk
      unfold b_X4_count_37
      rw [h.wl, if_pos (nI_le (by omega) (by omega)), show i = P 1 by omega]
    | succ k ih =>
      intro i n hi hn
      obtain ⟨n, rfl⟩ : ∃ m, n = m + 1 := ⟨n - 1, by omega⟩
      have h1 := ih (i + 1) n (by omega) (by omega)
      have hw7 := (hO.2.2 i (by omega)).2.2.2.2.2
      have k7 : w 57 (14 + i) = nI (1 - P (70 + i)) := by have := h.w7 (i := i) (by omega); rw [Nat.zero_add] at this; exact this
      have e7 : (1 : Int32) - nI (1 - P (70 + i)) = nI (if P (70 + i) = 0 then 0 else 1) := by
        rw [zI1, zsub_nI (by omega)]
        congr 1
        split <;> omega
      show b_X4_count_37 w _ (zfix2 _ n) _ _ = _
      generalize zfix2 (b_X4_count_37 w j) n = kk at h1 ⊢
      unfold b_X4_count_37
      simp only [zletE]
      rw [h.wl, if_neg (nI_ge (by omega) (by omega)), show (14 : Int32) + nI i = nI (14 + i) from nI_add 14 i, zgt (zin_nI (by omega) (by decide)), zxI (by omega), k7, e7, nI_add, show nI i + 1 = nI (i + 1) from nI_1 _]
      exact h1
  exact key (P 1) 0 100000 (by omega) (by omega)
theorem o_count (w : zW) (h : zJ w) (a1 : Int32) : ∃ (r : Int32), f_X3_count w a1 = some r ∧ f_X4_count w a1 = some r ∧ zJ w := by
  obtain ⟨P, h1, h2, h3, h4, h5⟩ := h.1
  obtain ⟨n, -, t1, t2, -⟩ := h.2.1
  obtain ⟨m, -, s1, s2, -⟩ := h.2.2.1
  have b0 := h3.1.1
  have z04 : zin 0 4 = true := by decide
  have x0 : zx 0 = 0 := by decide
  have hup : f_X4_upOn w 0 = some (nI (m_stand P)) := q_upOn (g := 0) h2 h3 (by omega) (by decide)
  have hk : ∀ k, k < 2 → w 44 k = w 67 k ∧ (w 67 k = 0 ∨ w 67 k = 1) := by
    intro k hk
    rcases h.2.2.2.1 k hk with ⟨g1, g2⟩ | ⟨g1, g2, -⟩
    · exact ⟨g1.trans g2.symm, .inl g2⟩
    · exact ⟨g1.trans g2.symm, .inr g2⟩
  obtain ⟨k0, k0'⟩ := hk 0 (by decide)
  obtain ⟨k1, k1'⟩ := hk 1 (by decide)
  unfold f_X3_count f_X4_count
  simp only [zjn1E]
  rw [q_sumL h2 h3 h5, q_wcL h2 h3, hup, k_standing h1 h3, k_allLevels h1 h3, k_wetWells h1 h3, s1, s2, t1, t2, k0, k1]
  simp only [zbds, z04, zgT, x0]
  by_cases a0 : a1 = 0
  · rw [if_pos a0, if_pos a0]; exact ⟨_, rfl, rfl, h⟩
  rw [if_neg a0, if_neg a0]
  by_cases a1' : a1 = 1
  · rw [if_pos a1', if_pos a1']
    rcases k0' with e0 | e0 <;> rcases k1' with e1 | e1 <;> rw [e0, e1] <;> exact ⟨_, rfl, rfl, h⟩
  rw [if_neg a1', if_neg a1']
  by_cases a2 : a1 = 2
  · rw [if_pos a2, if_pos a2]; exact ⟨_, rfl, rfl, h⟩
  rw [if_neg a2, if_neg a2]
  by_cases a3 : a1 = 3
  · rw [if_pos a3, if_pos a3]
    unfold f_X1_isNothing
    rcases h.2.2.2.2.1 0 (by decide) with ⟨g1, g2⟩ | ⟨L, n', hL, hn, g1, g2, g3, g4, -⟩
    · have g1' : w 48 2 = -1 := g1
      simp only [Nat.mul_zero, Nat.add_zero, g1', g2]
      exact ⟨_, rfl, rfl, h⟩
    · have g2' : w 48 2 = nI n' := g2
      have c0 : (0 : Int32) ≤ nI n' := (nI_leI (a := 0) (by decide) (by omega)).mpr (by omega)
      have cL : ¬ nI L = -4 := by
        rcases (show L = 0 ∨ L = 1 ∨ L = 2 by omega) with rfl | rfl | rfl <;> decide
      simp only [Nat.mul_zero, Nat.add_zero, g2', g3, g4]
      rw [if_pos c0, if_pos rfl, if_neg cL]
      exact ⟨_, rfl, rfl, h⟩
  rw [if_neg a3, if_neg a3]
  by_cases a4 : a1 = 4
  · rw [if_pos a4]; exact ⟨_, rfl, rfl, h⟩
  rw [if_neg a4]
  by_cases a5 : a1 = 5
  · rw [if_pos a5]; exact ⟨_, rfl, rfl, h⟩
  rw [if_neg a5]
  by_cases a6 : a1 = 6
  · rw [if_pos a6]; exact ⟨_, rfl, rfl, h⟩
  rw [if_neg a6]
  exact ⟨_, rfl, rfl, h⟩
