/-! drinks, hours, and what is asked of the hours ahead -/
theorem PR.k56 {w w1 : zW} {g fr : Nat} {P : zP} (h : PR w g fr P) (h4 : fr + P 0 ≤ 4) (h3 : P 1 ≤ 3) (hk : ∀ k, 56 ≤ k → w1 k = w k) : PR w1 g fr P :=
  h.frame h4 h3 (fun j _ _ => by rw [hk 56 (by decide)]) (fun j _ _ => by rw [hk 57 (by decide)]) (hk 58 (by decide)) (hk 59 (by decide))
theorem zJ.step {w w1 w2 : zW} {P Q : zP} (h : zJ w) (hN : JN w P) (f1 : Fr 2 w w1) (c1 : CR w1 2 Q) (f2 : FrM 0 w1 w2) (c2 : PR w2 0 0 Q) (hO : Ok Q) (h4 : Q 4 < 1000) (h0 : Q 0 = P 0) : zJ w2 := by
  refine h.n f1.n2 f2.n0 ⟨c1.frame (fun k a b => f2.1 k (by omega)), c2, hO, h4, ?_⟩
  rw [f2.1 56 (by decide), f1 56 (by decide), h0]
  exact hN.2.2.2.2
theorem q_drinks {w : zW} {P : zP} (h : PR w 0 0 P) (hO : Ok P) (h2 : w 56 2 = nI (P 0)) {p c : Nat} (hp : p < P 0) (hc : c ≤ 20) : ∃ w', f_X4_drinks w (nI p) (nI c) = some ((m_dk P p c).1, w') ∧ PR w' 0 0 (m_dk P p c).2 ∧ FrM 0 w w' := by
  have h0 := hO.1.1
  have h5 := hO.1.2.2.2.2.1
  have hl := (hO.2.1 p hp).2.2.2
  have e4 : (4 : Int32) + nI p = nI (4 + p) := nI_add 4 p
  have hz : zin (nI (4 + p)) 120 = true := zin_nI (by omega) (by decide)
  have c1 : nI c ≤ nI (P 5) ↔ c ≤ P 5 := nI_leI (by omega) (by omega)
  have c2 : nI (P (30 + p) + c) ≤ 20 ↔ P (30 + p) + c ≤ 20 := nI_leI (b := 20) (by omega) (by decide)
  have hd : f_X4_isDown w 0 (nI p) = some (if P (30 + p) = 0 then 1 else 0) := by have := q_isDown h hO (by omega) (g := 0) (by decide) hp; rw [Nat.zero_add] at this; exact this
  have k3 : w 57 (4 + p) = nI (P (30 + p)) := by have := h.lv hp; rw [Nat.zero_add, Nat.zero_add] at this; exact this
  have k8 : w 57 8 = nI (P 5) := h.bt
  have hin : f_X4_in (nI c).toInt64 (0 : Int64) (20 : Int64) = 1 := (in_within (nI c) 0 20).trans (win_t (hi := 20) (Nat.zero_le _) hc (by decide))
  unfold f_X4_drinks
  rw [one4 h2, winN_t hp (by omega), if_neg n10, hin, if_neg n10, hd, zbds]
  unfold m_dk
  by_cases d0 : P (30 + p) = 0
  · rw [if_pos d0, if_neg n10, if_pos (Or.inl d0)]
    exact ⟨w, rfl, h, FrM.rf⟩
  · rw [if_neg d0, if_pos rfl, k8]
    by_cases d1 : c ≤ P 5
    · rw [if_pos (c1.mpr d1), if_neg (show ¬ (P (30 + p) = 0 ∨ P 5 < c) by omega), e4]
      simp only [hz, zgT, zletE]
      rw [zxI (by omega), k3, nI_add]
      by_cases d2 : P (30 + p) + c ≤ 20
      · rw [if_pos (c2.mpr d2), if_neg (show ¬ 20 < P (30 + p) + c by omega)]
        have hP1 : PR (zup w 57 8 (nI (P 5 - c))) 0 0 (pu P 5 (P 5 - c)) := h.f0 (by omega) hO.1.2.1 8 5 _ (by omega)
        have hP2 := hP1.fl (p := p) (by rw [pu_n _ _ (by omega)]; omega) (by rw [pu_n _ _ (by omega)]; exact hO.1.2.1) (by rw [pu_n _ _ (by omega)]; exact hp) (P (30 + p) + c)
        rw [Nat.zero_add, Nat.zero_add] at hP2
        refine ⟨zup (zup w 57 8 (nI (P 5 - c))) 57 (4 + p) (nI (P (30 + p) + c)), ?_, ?_, (FrM.up _ _ (by omega)).tr (FrM.up _ _ (by omega))⟩
        · have r4 : zup w 57 8 (nI (P 5 - c)) 57 (4 + p) = nI (P (30 + p)) := by rw [zup_s, upd_n _ _ (show 4 + p ≠ 8 by omega), k3]
          rw [zsub_nI d1, r4, nI_add, zup_s, upd_s]
        · have : pu (pu P (30 + p) (P (30 + p) + c)) 5 (P 5 - c) = pu (pu P 5 (P 5 - c)) (30 + p) (P (30 + p) + c) := by
            funext j
            unfold pu
            by_cases a : j = 5
            · rw [if_pos a, if_neg (show ¬ j = 30 + p by omega), if_pos a]
            · rw [if_neg a, if_neg a]
          show PR _ 0 0 (pu (pu P (30 + p) (P (30 + p) + c)) 5 (P 5 - c))
          rw [this]
          exact hP2
      · rw [if_neg (fun q => d2 (c2.mp q)), if_pos (show 20 < P (30 + p) + c by omega)]
        exact ⟨w, rfl, h, FrM.rf⟩
    · rw [if_neg (fun q => d1 (c1.mp q)), if_pos (show P (30 + p) = 0 ∨ P 5 < c by omega)]
      exact ⟨w, rfl, h, FrM.rf⟩
theorem q_drinksBad {w : zW} {n : Nat} (h2 : w 56 2 = nI n) (a1 a2 : Int32) (hx : f_X3_within a1 0 (nI n - 1) = 0 ∨ f_X3_within a2 0 20 = 0) : f_X4_drinks w a1 a2 = some (-1, w) := by
  have hin : f_X4_in a2.toInt64 (0 : Int64) (20 : Int64) = f_X3_within a2 0 20 := in_within a2 0 20
  unfold f_X4_drinks
  rw [one4 h2, hin]
  by_cases d : f_X3_within a1 0 (nI n - 1) = 0
  · rw [if_pos d]
  · rw [if_neg d, if_pos (hx.resolve_left d)]
theorem drk_cases {P : zP} (h0 : P 0 ≤ 4) (a1 a2 : Int32) : (f_X3_within a1 0 (nI (P 0) - 1) = 0 ∨ f_X3_within a2 0 20 = 0) ∨ ∃ p c, p < P 0 ∧ c ≤ 20 ∧ a1 = nI p ∧ a2 = nI c := by
  have hwn : f_X3_within a2 0 20 = 0 ∨ (f_X3_within a2 0 20 = 1 ∧ ∃ p, p ≤ 20 ∧ a2 = nI p) := winL a2 20 (by decide)
  rcases winN_cases a1 (N := P 0) (by omega) with e | ⟨e, p, hp, rfl⟩
  · exact .inl (.inl e)
  · rcases hwn with e2 | ⟨e2, c, hc, rfl⟩
    · exact .inl (.inr e2)
    · exact .inr ⟨p, c, hp, hc, rfl, rfl⟩
theorem o_drink (w : zW) (h : zJ w) (a1 a2 : Int32) : ∃ (r : Int32) (w1 : zW) (w2 : zW), f_X3_drink w a1 a2 = some (r, w1) ∧ f_X4_drink w1 a1 a2 = some (r, w2) ∧ zJ w2 := by
  obtain ⟨P, hN⟩ := h.1
  obtain ⟨h1, h2, h3, h4, h5⟩ := id hN
  unfold f_X3_drink f_X4_drink
  rcases drk_cases h3.1.1 a1 a2 with hx | ⟨p, c, hp, hc, rfl, rfl⟩
  · rw [k_drinkBad h1 a1 a2 hx, zbd2s]
    exact ⟨_, _, w, rfl, by rw [q_drinksBad h5 a1 a2 hx, zbd2s], h⟩
  · obtain ⟨w1, e1, c1, f1⟩ := k_drinkAsAsked h1 h3 hp hc
    obtain ⟨w2, e2, c2, f2⟩ := q_drinks (h2.k56 (by have := h3.1.1; omega) h3.1.2.1 (fun k hk => f1 k (by omega))) h3 (by rw [f1 56 (by decide)]; exact h5) hp hc
    obtain ⟨o1, o2, o3, -⟩ := m_dk_ok h3 hp (c := c)
    rw [e1, zbd2s]
    exact ⟨_, w1, w2, rfl, by rw [e2, zbd2s], h.step hN f1 c1 f2 c2 o1 (by rw [o3]; exact h4) o2.n⟩
theorem o_go (w : zW) (h : zJ w) (a1 : Int32) : ∃ (r : Int32) (w1 : zW) (w2 : zW), f_X3_go w a1 = some (r, w1) ∧ f_X4_go w1 a1 = some (r, w2) ∧ zJ w2 := by
  obtain ⟨P, hN⟩ := h.1
  obtain ⟨h1, h2, h3, h4, h5⟩ := id hN
  have b0 := h3.1.1
  have b6 := h3.1.2.2.2.2.2.1
  have hin : f_X4_in a1.toInt64 (0 : Int64) (60 : Int64) = f_X3_within a1 0 60 := in_within a1 0 60
  have hwn : f_X3_within a1 0 60 = 0 ∨ (f_X3_within a1 0 60 = 1 ∧ ∃ p, p ≤ 60 ∧ a1 = nI p) := winL a1 60 (by decide)
  unfold f_X3_go f_X4_go
  rw [hin]
  rcases hwn with e | ⟨e, q, hq, rfl⟩
  · rw [e, if_pos rfl]
    exact ⟨_, _, w, rfl, if_pos rfl, h⟩
  · have c1 : nI (P 4 + q) < 1000 ↔ P 4 + q < 1000 := nI_ltI (b := 1000) (by omega) (by decide)
    have c2 : nI (P 4 + q) ≤ 999 ↔ P 4 + q ≤ 999 := nI_leI (b := 999) (by omega) (by decide)
    rw [e, if_neg n10, h1.hr, h1.pl, nI_add]
    by_cases d : P 4 + q < 1000
    · obtain ⟨w1, e1, c3, f1⟩ := k_passHours b6 q h1 h3 (by omega) (by omega)
      have h2' := h2.k56 (by omega) h3.1.2.1 (fun k hk => f1 k (by omega))
      obtain ⟨w2, e2, c4, f2⟩ := q_goesOn (g := 0) b6 (by decide) q h2' h3 (by omega) (by omega) (by omega)
      obtain ⟨o1, o2, o3⟩ := m_hours_ok (P 6) q h3
      rw [if_pos (c1.mpr d), e1, zbds, k_standing c3 o1, zbds]
      refine ⟨_, w1, w2, rfl, ?_, h.step hN f1 c3 f2 c4 o1 (by rw [o3]; omega) o2.n⟩
      rw [if_neg n10, show f_X4_hourOn w1 0 = some (nI (P 4)) from q_hourOn (g := 0) h2' (by decide), zbds, nI_add, if_pos (c2.mpr (by omega)), show w1 57 11 = nI (P 6) from h2'.pl, show f_X4_goesOn w1 0 (nI q) (nI (P 6)) = some w2 from e2, zbds, show f_X4_upOn w2 0 = some (nI (m_stand (m_hours (P 6) q P))) from q_upOn (g := 0) c4 o1 (by rw [o2.n]; omega) (by decide), zbds]
    · rw [if_neg (fun x => d (c1.mp x))]
      refine ⟨_, _, w, rfl, ?_, h⟩
      rw [if_neg n10, show f_X4_hourOn w 0 = some (nI (P 4)) from q_hourOn (g := 0) h2 (by decide), zbds, nI_add, if_neg (fun x => absurd (c2.mp x) (by omega))]
theorem o_arrive (w : zW) (h : zJ w) (a1 a2 : Int32) : ∃ (r : Int32) (w1 : zW) (w2 : zW), f_X3_arrive w a1 a2 = some (r, w1) ∧ f_X4_arrive w1 a1 a2 = some (r, w2) ∧ zJ w2 := by
  obtain ⟨P, hN⟩ := h.1
  obtain ⟨h1, h2, h3, h4, h5⟩ := id hN
  have b0 := h3.1.1
  have hin : f_X4_in a2.toInt64 (0 : Int64) (1 : Int64) = f_X3_within a2 0 1 := in_within a2 0 1
  have hwn : f_X3_isPlan a1 = 0 ∨ (f_X3_isPlan a1 = 1 ∧ ∃ p, p ≤ 3 ∧ a1 = nI p) := winL a1 3 (by decide)
  unfold f_X3_arrive f_X4_arrive
  rw [isPlan_eq, hin]
  rcases hwn with e | ⟨e, k, hk, rfl⟩
  · rw [e, if_pos rfl]
    exact ⟨_, _, w, rfl, if_pos rfl, h⟩
  rw [e, if_neg n10]
  by_cases e2 : f_X3_within a2 0 1 = 0
  · rw [if_pos e2]
    refine ⟨_, _, w, rfl, ?_, h⟩
    rw [if_neg n10, if_pos e2]
  · rw [if_neg e2]
    obtain ⟨w1, e3, c3, f3⟩ := k_copyFrom (b := 10) h1 h3 (by decide)
    obtain ⟨w2, e4, c4, f4⟩ := k_hoursToGoal hk c3 h3 (by omega)
    obtain ⟨o1, o2, o3, o4⟩ := m_toGoal_ok k 96 0 h3
    have fq := f3.q10.tr f4.q10
    obtain ⟨w3, e5, e6, e7, f5⟩ := q_arriveFrom hk (zJ.cl hN fq).2 h3 (by omega) (g := 0) (by decide) (by decide) (by omega)
    have hle := m_arr_le o1
    have cle : nI (m_arr (m_toGoal k 96 0 P).2) ≤ 0 ↔ m_arr (m_toGoal k 96 0 P).2 ≤ 0 := nI_leI (b := 0) (by omega) (by decide)
    have ceq : nI (m_arr (m_toGoal k 96 0 P).2) = 0 ↔ m_arr (m_toGoal k 96 0 P).2 = 0 := zeq0 (by omega)
    rw [e3, zbds, e4, zbd2s, k_arrived c4 o1, zbds]
    have e5' : f_X4_arriveFrom w2 0 (nI k) = _ := e5
    by_cases x : a2 = 0
    · rw [if_pos x]
      refine ⟨_, _, w3, rfl, ?_, h.q fq f5.q⟩
      rw [if_neg n10, if_neg e2, e5', zbd2s, if_pos x]
    · rw [if_neg x]
      by_cases y : m_arr (m_toGoal k 96 0 P).2 = 0
      · rw [if_pos (cle.mpr (by omega))]
        refine ⟨_, _, w3, rfl, ?_, h.q fq f5.q⟩
        rw [if_neg n10, if_neg e2, e5', zbd2s, if_neg x, if_pos (ceq.mpr y)]
      · rw [if_neg (fun q => y (by have := cle.mp q; omega))]
        refine ⟨_, _, w3, rfl, ?_, h.q fq f5.q⟩
        rw [if_neg n10, if_neg e2, e5', zbd2s, if_neg x, if_neg (fun q => y (ceq.mp q)), e6]
