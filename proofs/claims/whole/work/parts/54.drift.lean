/-! by a seed -/
theorem sh_16 (x : Int32) : ((x.toUInt32 >>> ((16 : Int32).toUInt32 &&& Int32.toUInt32 31)).toInt32) &&& (32767 : Int32) = (x >>> ((16 : Int32) &&& 31)) &&& (32767 : Int32) := by
  have h1 := pk_shr x ((16 : Int32) &&& 31) 16 (by decide)
  rw [pk_and _ 15 (by decide), pk_and _ 15 (by decide), pk_ushr x 16 16 (by decide)]
  rw [Int.shiftRight_eq_div_pow, x_toInt (x >>> ((16 : Int32) &&& 31)), x_toInt x] at h1
  have hb := x.toBitVec.isLt
  have hb2 := (x >>> ((16 : Int32) &&& 31)).toBitVec.isLt
  congr 1
  generalize (x >>> ((16 : Int32) &&& 31)).toBitVec.toNat = u at *
  generalize x.toBitVec.toNat = v at *
  omega
def m_dw (v : Int32) : Bool := !(decide (zrem ((v >>> ((16 : Int32) &&& 31)) &&& (32767 : Int32)) 3 = 0))
def m_df : Nat → Int32 → zP → zP
  | 0, _, P => P
  | k + 1, v, P => m_df k (v * 1103515245 + 12345) (m_hour P (m_dw (v * 1103515245 + 12345)))
theorem m_df_ok : ∀ (k : Nat) (v : Int32) {P : zP}, Ok P → Ok (m_df k v P) ∧ m_df k v P 0 = P 0
  | 0, _, P, h => ⟨h, rfl⟩
  | k + 1, v, P, h => by
    obtain ⟨o1, o2, o3⟩ := m_hour_ok h (m_dw (v * 1103515245 + 12345))
    obtain ⟨p1, p2⟩ := m_df_ok k (v * 1103515245 + 12345) o1
    exact ⟨p1, p2.trans o2.n⟩
theorem k_drift {w0 : zW} {m : Nat} (hm : m ≤ 60) (j : zW → Option (Int32 × zW)) : ∀ (k t n : Nat) (v : Int32) (w : zW) (P : zP), t + k = m → k < n → CR w 10 P → Ok P → P 4 + k < 2 ^ 29 → zFQ w0 w → ∃ w', zfix3 (b_X3_drift_38 (nI m) j) n v (nI t) w = j w' ∧ CR w' 10 (m_df k v P) ∧ zFQ w0 w' := by
  intro k
  induction k with
  | zero =>
    intro t n v w P ht hn hc hO hb hf
    obtain ⟨n, rfl⟩ : ∃ m, n = m + 1 := ⟨n - 1, by omega⟩
    refine ⟨w, ?_, hc, hf⟩
    show b_X3_drift_38 _ _ (zfix3 _ n) _ _ _ = _
    generalize zfix3 (b_X3_drift_38 (nI m) j) n = kk
    unfold b_X3_drift_38
    rw [show t = m by omega, if_pos (nI_le (Nat.le_refl _) (by omega))]
  | succ k ih =>
    intro t n v w P ht hn hc hO hb hf
    obtain ⟨n, rfl⟩ : ∃ m, n = m + 1 := ⟨n - 1, by omega⟩
    obtain ⟨w1, e1, c1, f1⟩ := k_passHour hc hO (by omega) (m_dw (v * 1103515245 + 12345))
    obtain ⟨o1, o2, o3⟩ := m_hour_ok hO (m_dw (v * 1103515245 + 12345))
    obtain ⟨w', g1, g2, g3⟩ := ih (t + 1) n (v * 1103515245 + 12345) w1 _ (by omega) (by omega) c1 o1 (by rw [o3]; omega) (hf.tr f1.q10)
    refine ⟨w', ?_, g2, g3⟩
    show b_X3_drift_38 _ _ (zfix3 _ n) _ _ _ = _
    generalize zfix3 (b_X3_drift_38 (nI m) j) n = kk at g1 ⊢
    unfold b_X3_drift_38
    rw [if_neg (nI_ge (by omega) (by omega)), zletE, zjn1E, sh_16]
    unfold m_dw at e1
    by_cases d : zrem (((v * 1103515245 + 12345) >>> ((16 : Int32) &&& 31)) &&& (32767 : Int32)) 3 = 0
    · rw [decide_eq_true d] at e1
      rw [if_pos d]
      show (zbd (f_X0_passHour w 10 0) _) = _
      rw [show f_X0_passHour w 10 0 = some w1 from e1, zbds, zletE, show nI t + 1 = nI (t + 1) from nI_1 _]
      exact g1
    · rw [decide_eq_false d] at e1
      rw [if_neg d]
      show (zbd (f_X0_passHour w 10 1) _) = _
      rw [show f_X0_passHour w 10 1 = some w1 from e1, zbds, zletE, show nI t + 1 = nI (t + 1) from nI_1 _]
      exact g1
theorem q_drift {w0 : zW} {m : Nat} (hm : m ≤ 60) (j : zW → Option (Int32 × zW)) : ∀ (k t n : Nat) (v : Int32) (w : zW) (P : zP), t + k = m → k < n → PR w 80 0 P → Ok P → P 4 + k < 2 ^ 29 → zMQ w0 w → ∃ w', zfix3 (b_X4_drift_39 (nI m) j) n v (nI t) w = j w' ∧ PR w' 80 0 (m_df k v P) ∧ zMQ w0 w' := by
  intro k
  induction k with
  | zero =>
    intro t n v w P ht hn hc hO hb hf
    obtain ⟨n, rfl⟩ : ∃ m, n = m + 1 := ⟨n - 1, by omega⟩
    refine ⟨w, ?_, hc, hf⟩
    show b_X4_drift_39 _ _ (zfix3 _ n) _ _ _ = _
    generalize zfix3 (b_X4_drift_39 (nI m) j) n = kk
    unfold b_X4_drift_39
    rw [show t = m by omega, if_pos (nI_le (Nat.le_refl _) (by omega))]
  | succ k ih =>
    intro t n v w P ht hn hc hO hb hf
    obtain ⟨n, rfl⟩ : ∃ m, n = m + 1 := ⟨n - 1, by omega⟩
    have b0 := hO.1.1
    obtain ⟨w1, e1, c1, f1⟩ := q_anHour (g := 80) hc hO (by omega) (by decide) (by omega) (m_dw (v * 1103515245 + 12345))
    obtain ⟨o1, o2, o3⟩ := m_hour_ok hO (m_dw (v * 1103515245 + 12345))
    obtain ⟨w', g1, g2, g3⟩ := ih (t + 1) n (v * 1103515245 + 12345) w1 _ (by omega) (by omega) c1 o1 (by rw [o3]; omega) (hf.tr (f1.q (by decide)))
    refine ⟨w', ?_, g2, g3⟩
    show b_X4_drift_39 _ _ (zfix3 _ n) _ _ _ = _
    generalize zfix3 (b_X4_drift_39 (nI m) j) n = kk at g1 ⊢
    unfold b_X4_drift_39
    rw [if_neg (nI_ge (by omega) (by omega)), zletE, zjn1E]
    unfold m_dw at e1
    by_cases d : zrem (((v * 1103515245 + 12345) >>> ((16 : Int32) &&& 31)) &&& (32767 : Int32)) 3 = 0
    · rw [decide_eq_true d] at e1
      rw [if_pos d]
      show (zbd (f_X4_anHour w 80 0) _) = _
      rw [show f_X4_anHour w 80 0 = some w1 from e1, zbds, zletE, show nI t + 1 = nI (t + 1) from nI_1 _]
      exact g1
    · rw [decide_eq_false d] at e1
      rw [if_neg d]
      show (zbd (f_X4_anHour w 80 1) _) = _
      rw [show f_X4_anHour w 80 1 = some w1 from e1, zbds, zletE, show nI t + 1 = nI (t + 1) from nI_1 _]
      exact g1
theorem o_drift (w : zW) (h : zJ w) (a1 a2 a3 : Int32) : ∃ (r : Int32) (w1 : zW) (w2 : zW), f_X3_drift w a1 a2 a3 = some (r, w1) ∧ f_X4_drift w1 a1 a2 a3 = some (r, w2) ∧ zJ w2 := by
  obtain ⟨P, hN⟩ := h.1
  obtain ⟨h1, h2, h3, h4, h5⟩ := id hN
  have b0 := h3.1.1
  have hi1 : f_X4_in a2.toInt64 (1 : Int64) (60 : Int64) = f_X3_within a2 1 60 := in_within a2 1 60
  have hi2 : f_X4_in a3.toInt64 (0 : Int64) (2 : Int64) = f_X3_within a3 0 2 := in_within a3 0 2
  have hw1 : f_X3_within a2 1 60 = 0 ∨ (f_X3_within a2 1 60 = 1 ∧ ∃ p, 1 ≤ p ∧ p ≤ 60 ∧ a2 = nI p) ∨ 60 < 1 := win_cases a2 1 60 (by decide)
  have hw2 : f_X3_within a3 0 2 = 0 ∨ (f_X3_within a3 0 2 = 1 ∧ ∃ p, p ≤ 2 ∧ a3 = nI p) := winL a3 2 (by decide)
  obtain ⟨fu, hfu⟩ : ∃ n : Nat, 100000 = n := ⟨_, rfl⟩
  unfold f_X3_drift f_X4_drift
  rw [hfu]
  simp only [zjn1E]
  rw [hi1, hi2]
  rcases hw1 with e | ⟨e, m, hm1, hm, rfl⟩ | hf
  · rw [e, if_pos rfl]
    exact ⟨_, _, w, rfl, if_pos rfl, h⟩
  · rw [e, if_neg n10]
    rcases hw2 with e2 | ⟨e2, q, hq, rfl⟩
    · rw [e2, if_pos rfl]
      refine ⟨_, _, w, rfl, ?_, h⟩
      rw [if_neg n10, if_pos rfl]
    · obtain ⟨w1, e3, c3, f3⟩ := k_copyFrom (b := 10) h1 h3 (by decide)
      obtain ⟨w2, e4, c4, f4⟩ := k_drift (w0 := w) hm (fun w4 => zbd (f_X3_told w4 10 (nI q)) fun v5 => some (v5, w4)) m 0 fu a1 w1 P (by omega) (by omega) c3 h3 (by omega) f3.q10
      obtain ⟨o1, o2⟩ := m_df_ok m a1 h3
      have cl2 := zJ.cl hN f4
      obtain ⟨w3, e5, c5, f5⟩ := q_copies cl2.2 h3 (by omega) (g1 := 0) (by decide) (g2 := 80) (by decide) (by decide)
      obtain ⟨w4, e6, c6, f6⟩ := q_drift (w0 := w2) hm (fun w4 => if nI q = 0 then some (w4 57 89, w4) else if nI q = 1 then some (w4 57 88, w4) else zbd (f_X4_upOn w4 80) fun v7 => some (v7, w4)) m 0 fu a1 w3 P (by omega) (by omega) c5 h3 (by omega) (f5.q (by decide))
      rw [e2, if_neg n10, e3, zbds, show zfix3 (b_X3_drift_38 (nI m) _) fu a1 0 w1 = _ from e4, k_told c4 o1 hq, zbds]
      refine ⟨_, w2, w4, rfl, ?_, h.q f4 f6⟩
      rw [if_neg n10, if_neg n10, show f_X4_copies w2 0 80 = some w3 from e5, zbds, show zfix3 (b_X4_drift_39 (nI m) _) fu a1 0 w3 = _ from e6]
      exact q_told c6 o1 hq
  · omega
