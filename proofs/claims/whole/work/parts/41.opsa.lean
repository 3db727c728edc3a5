/-! the small steps -/
theorem vpb {p : Nat} (h : p ≤ 127) : vp_nar .byte ((nI p).toInt8.toInt32) = nI p := by
  have : ∀ p, p < 128 → vp_nar .byte ((nI p).toInt8.toInt32) = nI p := by decide +kernel
  exact this p (by omega)
theorem o_feed (w : zW) (h : zJ w) (a1 : Int32) : ∃ (r : Int32) (w1 : zW) (w2 : zW), f_X3_feed w a1 = some (r, w1) ∧ f_X4_feed w1 a1 = some (r, w2) ∧ zJ w2 := by
  obtain ⟨⟨P, hN⟩, ⟨n, hn, t1, t2, t3⟩, hS, hK, hH, hF⟩ := h
  have hin : f_X4_in a1.toInt64 (0 : Int64) (127 : Int64) = f_X3_within a1 0 127 := in_within a1 0 127
  unfold f_X3_feed f_X4_feed
  simp only [zletE]
  have hwn : f_X3_within a1 0 127 = 0 ∨ (f_X3_within a1 0 127 = 1 ∧ ∃ p, p ≤ 127 ∧ a1 = nI p) := winL a1 127 (by decide)
  rcases hwn with e | ⟨e, p, hp, rfl⟩
  · rw [e, if_pos rfl]
    refine ⟨_, _, w, rfl, ?_, ⟨⟨P, hN⟩, ⟨n, hn, t1, t2, t3⟩, hS, hK, hH, hF⟩⟩
    rw [hin, e, if_pos rfl]
  · have c : nI n < 160 ↔ n < 160 := nI_ltI (b := 160) (by omega) (by decide)
    have c2 : nI n = 160 ↔ n = 160 := nI_eq (b := 160) (by omega) (by decide)
    rw [e, if_neg (by decide), t1]
    by_cases d : n < 160
    · rw [if_pos (c.mpr d), zgt (zin_nI (by omega) (by decide)), zxI (by omega), vpb hp]
      have e0 : zup w 1 n (nI p) 0 = w 0 := zup_n _ _ _ (by decide)
      refine ⟨_, _, zup (zup (zup (zup w 1 n (nI p)) 0 1 (nI (n + 1))) 63 n (nI p)) 56 18 (nI (n + 1)), rfl, ?_, ?_⟩
      · rw [hin, e, if_neg (by decide)]
        simp only [e0, t1, zup_s, upd_s, show nI n + 1 = nI (n + 1) from nI_1 _]
        rw [show zup (zup w 1 n (nI p)) 0 1 (nI (n + 1)) 56 18 = nI n from by rw [zup_n _ _ _ (by decide), zup_n _ _ _ (by decide)]; exact t2]
        rw [if_neg (fun q => absurd (c2.mp q) (by omega)), zgt (zin_nI (by omega) (by decide)), zxI (by omega)]
        rw [show zup (zup (zup w 1 n (nI p)) 0 1 (nI (n + 1))) 63 n (nI p) 56 18 = nI n from by rw [zup_n _ _ _ (by decide), zup_n _ _ _ (by decide), zup_n _ _ _ (by decide)]; exact t2]
        rw [show nI n + 1 = nI (n + 1) from nI_1 _]
      · have g : ∀ k, k ≠ 0 → k ≠ 1 → k ≠ 63 → k ≠ 56 → zup (zup (zup (zup w 1 n (nI p)) 0 1 (nI (n + 1))) 63 n (nI p)) 56 18 (nI (n + 1)) k = w k := fun k a b c d => by rw [zup_n _ _ _ d, zup_n _ _ _ c, zup_n _ _ _ a, zup_n _ _ _ b]
        have g6 : ∀ j, j ≠ 18 → zup (zup (zup (zup w 1 n (nI p)) 0 1 (nI (n + 1))) 63 n (nI p)) 56 18 (nI (n + 1)) 56 j = w 56 j := fun j hj => by rw [zup_s, upd_n _ _ hj, zup_n _ _ _ (by decide), zup_n _ _ _ (by decide), zup_n _ _ _ (by decide)]
        have g0 : ∀ j, j ≠ 1 → zup (zup (zup (zup w 1 n (nI p)) 0 1 (nI (n + 1))) 63 n (nI p)) 56 18 (nI (n + 1)) 0 j = w 0 j := fun j hj => by rw [zup_n _ _ _ (by decide), zup_n _ _ _ (by decide), zup_s, upd_n _ _ hj, zup_n _ _ _ (by decide)]
        refine ⟨⟨P, ?_⟩, ⟨n + 1, by omega, ?_, ?_, ?_⟩, ?_, ?_, ?_, ?_⟩
        · obtain ⟨b1, b2, b3, b4, b5⟩ := hN
          exact ⟨b1.frame (fun k x y => g k (by omega) (by omega) (by omega) (by omega)), b2.frame (by have := b3.1.1; omega) b3.1.2.1 (fun j x y => g6 j (by omega)) (fun j _ _ => by rw [g 57 (by decide) (by decide) (by decide) (by decide)]) (g 58 (by decide) (by decide) (by decide) (by decide)) (g 59 (by decide) (by decide) (by decide) (by decide)), b3, b4, by rw [g6 2 (by decide)]; exact b5⟩
        · rw [zup_n _ _ _ (by decide), zup_n _ _ _ (by decide), zup_s, upd_s]
        · rw [zup_s, upd_s]
        · intro i hi
          rw [zup_n _ _ _ (show (1 : Nat) ≠ 56 by decide), zup_n _ _ _ (show (1 : Nat) ≠ 63 by decide), zup_n _ _ _ (show (1 : Nat) ≠ 0 by decide), zup_s, zup_n _ _ _ (show (63 : Nat) ≠ 56 by decide), zup_s, zup_n _ _ _ (show (63 : Nat) ≠ 0 by decide), zup_n _ _ _ (show (63 : Nat) ≠ 1 by decide)]
          by_cases hin : i = n
          · subst hin; exact ⟨p, hp, upd_s _ _ _, upd_s _ _ _⟩
          · rw [upd_n _ _ hin, upd_n _ _ hin]; exact t3 i (by omega)
        · exact hS.fr (g0 _ (by decide)) (g _ (by decide) (by decide) (by decide) (by decide)) (g _ (by decide) (by decide) (by decide) (by decide)) (g6 _ (by decide)) (g _ (by decide) (by decide) (by decide) (by decide))
        · exact hK.fr (g _ (by decide) (by decide) (by decide) (by decide)) (g _ (by decide) (by decide) (by decide) (by decide)) (fun j a b => g j (by omega) (by omega) (by omega) (by omega)) (fun j a b => g6 j (by omega)) (fun j _ _ => by rw [g 57 (by decide) (by decide) (by decide) (by decide)]) (g _ (by decide) (by decide) (by decide) (by decide)) (g _ (by decide) (by decide) (by decide) (by decide))
        · exact hH.fr (fun j a b => g j (by omega) (by omega) (by omega) (by omega)) (g _ (by decide) (by decide) (by decide) (by decide)) (g _ (by decide) (by decide) (by decide) (by decide)) (g _ (by decide) (by decide) (by decide) (by decide))
        · exact hF.fr (g0 _ (by decide)) (g0 _ (by decide)) (g6 _ (by decide)) (g6 _ (by decide)) (g _ (by decide) (by decide) (by decide) (by decide)) (g _ (by decide) (by decide) (by decide) (by decide))
    · rw [if_neg (fun q => d (c.mp q))]
      refine ⟨_, _, w, rfl, ?_, ⟨⟨P, hN⟩, ⟨n, hn, t1, t2, t3⟩, hS, hK, hH, hF⟩⟩
      rw [hin, e, if_neg (by decide), t2, if_pos (c2.mpr (by omega))]
theorem o_fault (w : zW) (h : zJ w) (_ : Unit) : ∃ (r : Int32), f_X3_fault w = r ∧ f_X4_fault w = r ∧ zJ w := by
  refine ⟨_, rfl, ?_, h⟩
  unfold f_X3_fault f_X4_fault
  exact h.2.2.2.2.2.1
theorem o_torn (w : zW) (h : zJ w) (_ : Unit) : ∃ (r : Int32), f_X3_torn w = r ∧ f_X4_torn w = r ∧ zJ w := by
  refine ⟨_, rfl, ?_, h⟩
  unfold f_X3_torn f_X4_torn
  exact h.2.2.2.2.2.2.1
theorem o_rule (w : zW) (h : zJ w) (a1 : Int32) : ∃ (r : Int32), f_X3_rule w a1 = r ∧ f_X4_rule w a1 = some r ∧ zJ w := by
  refine ⟨_, rfl, ?_, h⟩
  obtain ⟨⟨P, h1, h2, h3, h4, h5⟩, -⟩ := h
  have hm : w 57 9 = nI (P 3) := h2.ml
  have hb : w 57 8 = nI (P 5) := h2.bt
  have hp : w 57 11 = nI (P 6) := h2.pl
  have hc : w 57 12 = nI (P 7) := h2.cl
  have hf : w 57 13 = nI (P 8) := h2.fd
  unfold f_X3_rule f_X4_rule
  rw [h1.n, h1.wl, h1.gl, h1.ml, h1.hr, h1.bt, h1.pl, h1.cl, h1.fd, h5, h2.wl, h2.gl, hm, hb, show f_X4_hourOn w 0 = some (nI (P 4)) from q_hourOn (g := 0) h2 (by decide), zbds]
  repeat' split
  all_goals first
    | rfl
    | (subst_vars; exact congrArg some hp)
    | (subst_vars; exact congrArg some hc)
    | (subst_vars; exact congrArg some hf)
theorem isOne_eq {w : zW} {P : zP} (h : JN w P) (a1 : Int32) : f_X4_isOne w a1 = f_X3_isOne w a1 := by
  unfold f_X4_isOne f_X3_isOne
  rw [h.2.2.2.2, h.1.n]
  exact in_within a1 0 (nI (P 0) - 1)
theorem isOne_cases {w : zW} {P : zP} (h : JN w P) (a1 : Int32) : f_X3_isOne w a1 = 0 ∨ (f_X3_isOne w a1 = 1 ∧ ∃ p, p < P 0 ∧ a1 = nI p) := by
  unfold f_X3_isOne
  rw [h.1.n]
  exact winN_cases a1 (by have := h.2.2.1.1.1; omega)
theorem isWell_eq {w : zW} {P : zP} (h : JN w P) (a1 : Int32) : f_X4_isWell w a1 = f_X3_isWell w a1 := by
  unfold f_X4_isWell f_X3_isWell
  rw [h.2.1.wl, h.1.wl]
  exact in_within a1 0 (nI (P 1) - 1)
theorem isWell_cases {w : zW} {P : zP} (h : JN w P) (a1 : Int32) : f_X3_isWell w a1 = 0 ∨ (f_X3_isWell w a1 = 1 ∧ ∃ p, p < P 1 ∧ a1 = nI p) := by
  unfold f_X3_isWell
  rw [h.1.wl]
  exact winN_cases a1 (by have := h.2.2.1.1.2.1; omega)
theorem o_one (w : zW) (h : zJ w) (a1 a2 : Int32) : ∃ (r : Int32), f_X3_one w a1 a2 = some r ∧ f_X4_one w a1 a2 = some r ∧ zJ w := by
  obtain ⟨P, hN⟩ := h.1
  obtain ⟨h1, h2, h3, h4, h5⟩ := hN
  have b0 := h3.1.1
  unfold f_X3_one f_X4_one
  rw [isOne_eq ⟨h1, h2, h3, h4, h5⟩]
  rcases isOne_cases ⟨h1, h2, h3, h4, h5⟩ a1 with e | ⟨e, p, hp, rfl⟩
  · rw [e, if_pos rfl, if_pos rfl]
    exact ⟨_, rfl, rfl, h⟩
  · rw [e, if_neg (show ¬ (1 : Int32) = 0 by decide), if_neg (show ¬ (1 : Int32) = 0 by decide)]
    have hz : zin (nI p) 4 = true := zin_nI (by omega) (by decide)
    have hz1 : zin (nI p) 120 = true := zin_nI (by omega) (by decide)
    have e4 : (4 : Int32) + nI p = nI (4 + p) := nI_add 4 p
    have hz4 : zin (nI (4 + p)) 120 = true := zin_nI (by omega) (by decide)
    rw [e4]
    simp only [hz, hz1, hz4, zgT]
    rw [zxI (by omega), zxI (by omega)]
    have g1 : w 3 p = nI (P (10 + p)) := h1.kd hp
    have g2 : w 4 p = nI (P (20 + p)) := h1.sz hp
    have g3 : w 5 p = nI (P (30 + p)) := h1.lv hp
    have k1 : w 57 p = nI (P (10 + p)) := by have := h2.kd hp; rw [Nat.zero_add, Nat.zero_add] at this; exact this
    have k2 : w 58 p = nI (P (20 + p)) := by have := h2.sz hp; rw [Nat.zero_add] at this; exact this
    have k3 : w 57 (4 + p) = nI (P (30 + p)) := by have := h2.lv hp; rw [Nat.zero_add, Nat.zero_add] at this; exact this
    have hd : f_X4_isDown w 0 (nI p) = some (if P (30 + p) = 0 then 1 else 0) := by have := q_isDown h2 h3 (by omega) (g := 0) (by decide) hp; rw [Nat.zero_add] at this; exact this
    have hw : f_X4_wantOf w 0 (nI p) = some (nI (m_want P p)) := by have := q_wantOf h2 h3 (by omega) (g := 0) (by decide) (by omega) hp; rw [Nat.zero_add] at this; exact this
    rw [g1, g2, g3, k1, k2, k3, k_wanted h1 h3 (by omega) hp, hd, hw]
    simp only [zbds]
    by_cases x0 : a2 = 0
    · rw [if_pos x0, if_pos x0]; exact ⟨_, rfl, rfl, h⟩
    rw [if_neg x0, if_neg x0]
    by_cases x1 : a2 = 1
    · rw [if_pos x1, if_pos x1]; exact ⟨_, rfl, rfl, h⟩
    rw [if_neg x1, if_neg x1]
    by_cases x2 : a2 = 2
    · rw [if_pos x2, if_pos x2]; exact ⟨_, rfl, rfl, h⟩
    rw [if_neg x2, if_neg x2]
    by_cases x3 : a2 = 3
    · rw [if_pos x3, if_pos x3]
      by_cases d : P (30 + p) = 0
      · rw [if_pos d, if_pos d, if_neg (by decide)]; exact ⟨_, rfl, rfl, h⟩
      · rw [if_neg d, if_neg d, if_pos rfl]; exact ⟨_, rfl, rfl, h⟩
    rw [if_neg x3, if_neg x3]
    exact ⟨_, rfl, rfl, h⟩
theorem o_well (w : zW) (h : zJ w) (a1 a2 : Int32) : ∃ (r : Int32), f_X3_well w a1 a2 = some r ∧ f_X4_well w a1 a2 = some r ∧ zJ w := by
  obtain ⟨P, hN⟩ := h.1
  obtain ⟨h1, h2, h3, h4, h5⟩ := hN
  have b0 := h3.1.2.1
  unfold f_X3_well f_X4_well
  rw [isWell_eq ⟨h1, h2, h3, h4, h5⟩]
  rcases isWell_cases ⟨h1, h2, h3, h4, h5⟩ a1 with e | ⟨e, p, hp, rfl⟩
  · rw [e, if_pos rfl, if_pos rfl]
    exact ⟨_, rfl, rfl, h⟩
  · rw [e, if_neg (show ¬ (1 : Int32) = 0 by decide), if_neg (show ¬ (1 : Int32) = 0 by decide)]
    have hz : zin (nI p) 3 = true := zin_nI (by omega) (by decide)
    have e2 : (2 : Int32) * nI p = nI (2 * p) := pk_mul 2 p
    have e21 : nI (2 * p) + 1 = nI (2 * p + 1) := nI_1 _
    have e17 : (17 : Int32) + nI p = nI (17 + p) := nI_add 17 p
    have e14 : (14 : Int32) + nI p = nI (14 + p) := nI_add 14 p
    have z2 : zin (nI (2 * p)) 6 = true := zin_nI (by omega) (by decide)
    have z21 : zin (nI (2 * p + 1)) 6 = true := zin_nI (by omega) (by decide)
    have z17 : zin (nI (17 + p)) 120 = true := zin_nI (by omega) (by decide)
    have z14 : zin (nI (14 + p)) 120 = true := zin_nI (by omega) (by decide)
    have hw7 := (h3.2.2 p hp).2.2.2.2.2
    rw [e2, e21, e17, e14]
    simp only [hz, z2, z21, z17, z14, zgT]
    rw [zxI (by omega), zxI (by omega), zxI (by omega), zxI (by omega), zxI (by omega)]
    have g4 : w 6 p = nI (P (40 + p)) := h1.w4 hp
    have g5 : w 7 p = nI (P (50 + p)) := h1.w5 hp
    have g6 : w 8 p = nI (P (60 + p)) := h1.w6 hp
    have g7 : w 9 p = nI (P (70 + p)) := h1.w7 hp
    have k4 : w 59 (2 * p) = nI (P (40 + p)) := h2.w4 hp
    have k5 : w 57 (17 + p) = nI (P (50 + p)) := by have := h2.w5 hp; rw [Nat.zero_add] at this; exact this
    have k6 : w 59 (2 * p + 1) = nI (P (60 + p)) := h2.w6 hp
    have k7 : w 57 (14 + p) = nI (1 - P (70 + p)) := by have := h2.w7 hp; rw [Nat.zero_add] at this; exact this
    rw [g4, g5, g6, g7, k4, k5, k6, k7, show (1 : Int32) - nI (1 - P (70 + p)) = nI (P (70 + p)) from by rw [zI1, zsub_nI (by omega)]; congr 1; omega, show f_X3_asNumber (nI (P (70 + p))) = nI (P (70 + p)) from by
      unfold f_X3_asNumber
      by_cases d : P (70 + p) = 0
      · rw [d]; rfl
      · rw [show P (70 + p) = 1 by omega]; rfl]
    by_cases x0 : a2 = 0
    · rw [if_pos x0]; exact ⟨_, rfl, rfl, h⟩
    rw [if_neg x0]
    by_cases x1 : a2 = 1
    · rw [if_pos x1]; exact ⟨_, rfl, rfl, h⟩
    rw [if_neg x1]
    by_cases x2 : a2 = 2
    · rw [if_pos x2]; exact ⟨_, rfl, rfl, h⟩
    rw [if_neg x2]
    by_cases x3 : a2 = 3
    · rw [if_pos x3]; exact ⟨_, rfl, rfl, h⟩
    rw [if_neg x3]
    exact ⟨_, rfl, rfl, h⟩
theorem o_pours (w : zW) (h : zJ w) (_ : Unit) : ∃ (r : Int32), f_X3_pours w = some r ∧ f_X4_pours w = some r ∧ zJ w := by
  obtain ⟨P, h1, h2, h3, h4, h5⟩ := h.1
  unfold f_X3_pours f_X4_pours
  by_cases hn : P 0 = 0
  · rw [k_pourer0 h1 hn, show f_X4_pourer w 0 = some (-4) from q_pourer0 (g := 0) h2 hn]
    exact ⟨_, rfl, rfl, h⟩
  · have b0 := h3.1.1
    rw [k_pourer h1 h3 (by omega) (by omega), show f_X4_pourer w 0 = some (nI (0 + P 4 % P 0)) from q_pourer (g := 0) h2 h3 (by omega) (by decide) (by omega) (by omega), Nat.zero_add]
    exact ⟨_, rfl, rfl, h⟩
theorem o_loses (w : zW) (h : zJ w) (a1 a2 : Int32) (hb : a2 = 0 ∨ a2 = 1) : ∃ (r : Int32), f_X3_loses w a1 a2 = some r ∧ f_X4_loses w a1 a2 = some r ∧ zJ w := by
  obtain ⟨P, h1, h2, h3, h4, h5⟩ := h.1
  have b0 := h3.1.1
  obtain ⟨wk, rfl⟩ : ∃ wk, a2 = zbi wk := by
    rcases hb with rfl | rfl
    · exact ⟨false, rfl⟩
    · exact ⟨true, rfl⟩
  unfold f_X3_loses f_X4_loses
  rw [isOne_eq ⟨h1, h2, h3, h4, h5⟩]
  rcases isOne_cases ⟨h1, h2, h3, h4, h5⟩ a1 with e | ⟨e, p, hp, rfl⟩
  · rw [e, if_pos rfl, if_pos rfl]
    exact ⟨_, rfl, rfl, h⟩
  · have hd : f_X4_isDown w 0 (nI p) = some (if P (30 + p) = 0 then 1 else 0) := by have := q_isDown h2 h3 (by omega) (g := 0) (by decide) hp; rw [Nat.zero_add] at this; exact this
    have hw : f_X4_lossOf w 0 (nI p) (zbi wk) = some (nI (m_loss P p wk)) := by have := q_lossOf h2 h3 (by omega) (g := 0) (by decide) (by omega) hp wk; rw [Nat.zero_add] at this; exact this
    rw [e, if_neg (show ¬ (1 : Int32) = 0 by decide), if_neg (show ¬ (1 : Int32) = 0 by decide), k_loss h1 h3 (by omega) hp, hd, hw]
    simp only [zbds]
    by_cases d : P (30 + p) = 0
    · rw [if_pos d, if_pos d, if_neg (by decide)]; exact ⟨_, rfl, rfl, h⟩
    · rw [if_neg d, if_neg d, if_pos rfl]; exact ⟨_, rfl, rfl, h⟩
