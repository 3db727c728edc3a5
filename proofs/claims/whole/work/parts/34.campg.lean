/-! the camp: hours, arriving, copying -/
theorem k_passHour {w : zW} {b : Nat} {P : zP} (h : CR w b P) (hO : Ok P) (hh : P 4 < 2 ^ 30 - 1) (wk : Bool) : ∃ w', f_X0_passHour w b (zbi wk) = some w' ∧ CR w' b (m_hour P wk) ∧ Fr b w w' := by
  have e10 : ((1 : Int32) = 0) = False := eq_false (by decide)
  have hend : ∀ (w2 : zW) (Q : zP), CR w2 b Q → Q 4 = P 4 → Fr b w w2 → m_body P wk = Q → ∃ w', (some (zup w2 b 12 (w2 b 12 + 1)) : Option zW) = some w' ∧ CR w' b (m_hour P wk) ∧ Fr b w w' := by
    intro w2 Q hc h4 hf hQ
    refine ⟨_, rfl, ?_, hf.tr (Fr.u0 _ _ _)⟩
    rw [hc.hr, h4, show nI (P 4) + 1 = nI (P 4 + 1) from nI_1 _]
    unfold m_hour
    rw [hQ]
    exact hc.f0 12 4 _ (by omega)
  unfold f_X0_passHour
  simp only [zjn1, zjn0, zlet]
  rw [k_isAtGoal h hO, k_standing h hO]
  simp only [zbds, e10, if_false]
  by_cases hg : P 2 ≤ P 3
  · simp only [if_pos hg, e10, if_false]
    exact hend w P h rfl Fr.rf (by unfold m_body m_over; simp [hg])
  · simp only [if_neg hg, if_true]
    have cs : nI (m_stand P) = 0 ↔ m_stand P = 0 := zeq0 (by have := m_cnt_le P (P 0); have := hO.1.1; unfold m_stand; omega)
    simp only [cs]
    by_cases hs : m_stand P = 0
    · simp only [if_pos hs]
      exact hend w P h rfl Fr.rf (by unfold m_body m_over; simp [hs])
    · simp only [if_neg hs]
      have hbody : m_body P wk = m_in3 P wk := by
        unfold m_body m_over
        rw [if_neg (by simp [hs]; omega)]
      have hn := m_stand_0 hs
      -- dew
      obtain ⟨w1, e1, c1, f1⟩ : ∃ w1, (if zrem (w b 12) 24 = 4 then f_X0_pourIn w b (w b 14) else some w) = some w1 ∧ CR w1 b (m_in1 P) ∧ Fr b w w1 := by
        rw [h.hr, h.cl, show (24 : Int32) = nI 24 from rfl, zrem_nI (by omega) (by decide) (by decide)]
        have c4 : nI (P 4 % 24) = 4 ↔ P 4 % 24 = 4 := nI_eq (b := 4) (by omega) (by decide)
        unfold m_in1
        by_cases d : P 4 % 24 = 4
        · rw [if_pos (c4.mpr d), if_pos d]
          exact k_pourIn h hO (by have := hO.1.2.2.2.2.2.2.1; omega)
        · rw [if_neg (fun q => d (c4.mp q)), if_neg d]
          exact ⟨w, rfl, h, Fr.rf⟩
      obtain ⟨a1, a2, a3, a4⟩ := m_in1_ok hO
      obtain ⟨w2, e2, c2, f2⟩ := k_drinkRound c1 a1 (by rw [a3]; omega) (by rw [a2.n]; exact hn)
      obtain ⟨b1, b2, b3, b4⟩ := m_drinkN_ok a1 (m_in1 P 4 % m_in1 P 0) (by rw [a2.n]; exact hn) (m_in1 P 0)
      obtain ⟨w3, e3, c3, f3⟩ := k_loseWater c2 b1 (by show m_drinkN _ _ _ 4 < _; rw [b3, a3]; omega) wk
      obtain ⟨o1, o2, o3, o4⟩ := m_in2_ok hO wk hn
      have c3' : CR w3 b (m_in2 P wk) := c3
      have f123 := (f1.tr f2).tr f3
      have rest : ∃ w', (if zbi wk = 0 then (some (zup w3 b 12 (w3 b 12 + 1)) : Option zW) else zbd (f_X0_standing w3 b) fun v9 => if v9 ≤ 0 then some (zup w3 b 12 (w3 b 12 + 1)) else zbd (f_X0_walkOn w3 b) fun w11 => some (zup w11 b 12 (w11 b 12 + 1))) = some w' ∧ CR w' b (m_hour P wk) ∧ Fr b w w' := by
        cases wk with
        | false =>
          rw [if_pos (by rfl)]
          exact hend w3 _ c3' o3 f123 (by rw [hbody]; unfold m_in3; rw [if_neg (by simp)])
        | true =>
          rw [if_neg (by decide), k_standing c3' o1, zbds]
          by_cases hs2 : 0 < m_stand (m_in2 P true)
          · rw [if_neg (nI_nle hs2 (by have := m_cnt_le (m_in2 P true) (m_in2 P true 0); have := o1.1.1; unfold m_stand at *; omega))]
            obtain ⟨w4, e4, c4, f4⟩ := k_walkOn c3' o1 (by rw [o3]; omega) (by rw [o4, o2.gl]; omega)
            rw [e4, zbds]
            obtain ⟨-, -, d3⟩ := m_walk_ok o1 (by rw [o4, o2.gl]; omega)
            exact hend w4 _ c4 (d3.trans o3) (f123.tr f4) (by rw [hbody]; unfold m_in3; rw [if_pos ⟨rfl, hs2⟩])
          · rw [show m_stand (m_in2 P true) = 0 by omega, if_pos (by decide)]
            exact hend w3 _ c3' o3 f123 (by rw [hbody]; unfold m_in3; rw [if_neg (fun q => hs2 q.2)])
      by_cases d : zrem (w b 12) 24 = 4
      · rw [if_pos d] at e1 ⊢
        rw [e1, zbds, e2, zbds, e3, zbds]
        exact rest
      · rw [if_neg d] at e1 ⊢
        obtain rfl := zso1 e1
        rw [e2, zbds, e3, zbds]
        exact rest
theorem k_passHours {b k : Nat} (hk : k ≤ 3) : ∀ (n : Nat) {w : zW} {P : zP}, CR w b P → Ok P → P 4 + n < 2 ^ 29 → n ≤ 99 → ∃ w', f_X0_passHours w b (nI n) (nI k) = some w' ∧ CR w' b (m_hours k n P) ∧ Fr b w w' := by
  intro N w0 P0 hc0 hO0 hb0 hN
  have key : ∀ (j t n : Nat) (w : zW) (P : zP), t + j = N → j < n → CR w b P → Ok P → P 4 + j < 2 ^ 29 → Fr b w0 w → ∃ w', zfix2 (b_X0_passHours_2 b (nI N) (nI k)) n (nI t) w = some w' ∧ CR w' b (m_hours k j P) ∧ Fr b w0 w' := by
    intro j
    induction j with
    | zero =>
      intro t n w P ht hn hc hO hb hf
      obtain ⟨n, rfl⟩ : ∃ m, n = m + 1 := ⟨n - 1, by omega⟩
      refine ⟨w, ?_, hc, hf⟩
      show b_X0_passHours_2 b _ _ (zfix2 _ n) _ _ = _
      generalize zfix2 (b_X0_passHours_2 b (nI N) (nI k)) n = kk
      unfold b_X0_passHours_2
      rw [if_pos (nI_le (by omega) (by omega))]
    | succ j ih =>
      intro t n w P ht hn hc hO hb hf
      obtain ⟨n, rfl⟩ : ∃ m, n = m + 1 := ⟨n - 1, by omega⟩
      obtain ⟨w1, e1, c1, f1⟩ := k_passHour hc hO (by omega) (m_walks P k)
      obtain ⟨o1, o2, o3⟩ := m_hour_ok hO (m_walks P k)
      obtain ⟨w', g1, g2, g3⟩ := ih (t + 1) n w1 _ (by omega) (by omega) c1 o1 (by rw [o3]; omega) (hf.tr f1)
      refine ⟨w', ?_, g2, g3⟩
      show b_X0_passHours_2 b _ _ (zfix2 _ n) _ _ = _
      generalize zfix2 (b_X0_passHours_2 b (nI N) (nI k)) n = kk at g1 ⊢
      unfold b_X0_passHours_2
      simp only [zlet]
      rw [if_neg (nI_ge (by omega) (by omega)), k_walksBy hc (by omega) hk, e1, zbds, show nI t + 1 = nI (t + 1) from nI_1 _]
      exact g1
  exact key N 0 100000 w0 P0 (by omega) (by omega) hc0 hO0 hb0 Fr.rf
def m_toGoal (plan : Nat) : Nat → Nat → zP → Nat × zP
  | 0, t, P => (t, P)
  | k + 1, t, P => if P 2 ≤ P 3 then (t, P) else m_toGoal plan k (t + 1) (m_hour P (m_walks P plan))
theorem m_toGoal_ok (plan : Nat) : ∀ (k t : Nat) {P : zP}, Ok P → Ok (m_toGoal plan k t P).2 ∧ m_fix P (m_toGoal plan k t P).2 ∧ (m_toGoal plan k t P).2 4 ≤ P 4 + k ∧ (m_toGoal plan k t P).1 ≤ t + k
  | 0, t, P, h => ⟨h, m_fix.rf P, Nat.le_refl _, Nat.le_refl _⟩
  | k + 1, t, P, h => by
    simp only [m_toGoal]
    split
    · exact ⟨h, m_fix.rf P, by show P 4 ≤ _; omega, by show t ≤ _; omega⟩
    · obtain ⟨a1, a2, a3⟩ := m_hour_ok h (m_walks P plan)
      obtain ⟨b1, b2, b3, b4⟩ := m_toGoal_ok plan k (t + 1) a1
      exact ⟨b1, a2.tr b2, by omega, by omega⟩
theorem k_hoursToGoal {w0 : zW} {b k : Nat} {P0 : zP} (hk : k ≤ 3) (hc0 : CR w0 b P0) (hO0 : Ok P0) (hb0 : P0 4 < 2 ^ 28) : ∃ w', f_X0_hoursToGoal w0 b (nI k) = some (nI (m_toGoal k 96 0 P0).1, w') ∧ CR w' b (m_toGoal k 96 0 P0).2 ∧ Fr b w0 w' := by
  have e10 : ((1 : Int32) = 0) = False := eq_false (by decide)
  have key : ∀ (j t n : Nat) (w : zW) (P : zP), t + j = 96 → j < n → CR w b P → Ok P → P 4 + j < 2 ^ 29 → Fr b w0 w → ∃ w', zfix2 (b_X0_hoursToGoal_2 b (nI k)) n (nI t) w = some (nI (m_toGoal k j t P).1, w') ∧ CR w' b (m_toGoal k j t P).2 ∧ Fr b w0 w' := by
    intro j
    induction j with
    | zero =>
      intro t n w P ht hn hc hO hb hf
      obtain ⟨n, rfl⟩ : ∃ m, n = m + 1 := ⟨n - 1, by omega⟩
      refine ⟨w, ?_, hc, hf⟩
      show b_X0_hoursToGoal_2 b _ (zfix2 _ n) _ _ = _
      generalize zfix2 (b_X0_hoursToGoal_2 b (nI k)) n = kk
      unfold b_X0_hoursToGoal_2
      rw [show t = 96 by omega, if_pos (by decide)]
      rfl
    | succ j ih =>
      intro t n w P ht hn hc hO hb hf
      obtain ⟨n, rfl⟩ : ∃ m, n = m + 1 := ⟨n - 1, by omega⟩
      have c96 : (96 : Int32) ≤ nI t ↔ 96 ≤ t := nI_leI (a := 96) (by decide) (by omega)
      by_cases hg : P 2 ≤ P 3
      · refine ⟨w, ?_, ?_, hf⟩
        · show b_X0_hoursToGoal_2 b _ (zfix2 _ n) _ _ = _
          generalize zfix2 (b_X0_hoursToGoal_2 b (nI k)) n = kk
          unfold b_X0_hoursToGoal_2
          rw [if_neg (fun q => absurd (c96.mp q) (by omega)), k_isAtGoal hc hO, if_pos hg, if_neg (by decide)]
          simp only [m_toGoal, if_pos hg]
        · simp only [m_toGoal, if_pos hg]; exact hc
      · obtain ⟨w1, e1, c1, f1⟩ := k_passHour hc hO (by omega) (m_walks P k)
        obtain ⟨o1, o2, o3⟩ := m_hour_ok hO (m_walks P k)
        obtain ⟨w', g1, g2, g3⟩ := ih (t + 1) n w1 _ (by omega) (by omega) c1 o1 (by rw [o3]; omega) (hf.tr f1)
        simp only [m_toGoal, if_neg hg]
        refine ⟨w', ?_, g2, g3⟩
        show b_X0_hoursToGoal_2 b _ (zfix2 _ n) _ _ = _
        generalize zfix2 (b_X0_hoursToGoal_2 b (nI k)) n = kk at g1 ⊢
        unfold b_X0_hoursToGoal_2
        simp only [zlet]
        rw [if_neg (fun q => absurd (c96.mp q) (by omega)), k_isAtGoal hc hO, if_neg hg, if_pos rfl, k_walksBy hc (by omega) hk, e1, zbds, show nI t + 1 = nI (t + 1) from nI_1 _]
        exact g1
  exact key 96 0 100000 w0 P0 (by omega) (by omega) hc0 hO0 (by omega) Fr.rf
def m_arr (P : zP) : Nat := if P 2 ≤ P 3 then m_stand P else 0
theorem m_arr_le {P : zP} (h : Ok P) : m_arr P ≤ 4 := by
  have h1 := m_cnt_le P (P 0)
  have h2 := h.1.1
  unfold m_arr m_stand
  split <;> omega
theorem k_arrived {w : zW} {b : Nat} {P : zP} (h : CR w b P) (hO : Ok P) : f_X0_arrived w b = some (nI (m_arr P)) := by
  unfold f_X0_arrived m_arr
  rw [k_isAtGoal h hO]
  by_cases hg : P 2 ≤ P 3
  · rw [if_pos hg, if_neg (by decide), k_standing h hO, zbds, if_pos hg]
  · rw [if_neg hg, if_pos rfl, if_neg hg]
    rfl
/-- part of a camp: the first t people, the first u wells -/
def CRp (w : zW) (b : Nat) (P : zP) (t u : Nat) : Prop :=
  (w b 0 = nI (P 0) ∧ w b 4 = nI (P 1) ∧ w b 9 = nI (P 5) ∧ w b 10 = nI (P 2) ∧ w b 11 = nI (P 3) ∧ w b 12 = nI (P 4) ∧ w b 13 = nI (P 6) ∧ w b 14 = nI (P 7) ∧ w b 15 = nI (P 8)) ∧
  (∀ p, p < t → w (b + 1) p = nI (P (10 + p)) ∧ w (b + 2) p = nI (P (20 + p)) ∧ w (b + 3) p = nI (P (30 + p))) ∧
  ∀ i, i < u → w (b + 4) i = nI (P (40 + i)) ∧ w (b + 5) i = nI (P (50 + i)) ∧ w (b + 6) i = nI (P (60 + i)) ∧ w (b + 7) i = nI (P (70 + i))
theorem k_copyFrom {w0 : zW} {b o : Nat} {P : zP} (hc : CR w0 o P) (hO : Ok P) (hbo : o + 7 < b ∨ b + 7 < o) : ∃ w', f_X0_copyFrom w0 b o = some w' ∧ CR w' b P ∧ Fr b w0 w' := by
  have h0 := hO.1.1
  have h1 := hO.1.2.1
  have ho : ∀ {w : zW}, Fr b w0 w → ∀ d, d ≤ 7 → w (o + d) = w0 (o + d) := fun hf d hd => hf (o + d) (by omega)
  -- the wells
  have key2 : ∀ (k t n : Nat) (w : zW), t + k = P 1 → k < n → CRp w b P (P 0) t → Fr b w0 w → ∃ w', zfix2 (b_X0_copyFrom_126 b o) n (nI t) w = some w' ∧ CR w' b P ∧ Fr b w0 w' := by
    intro k
    induction k with
    | zero =>
      intro t n w ht hn hp hf
      obtain ⟨n, rfl⟩ : ∃ m, n = m + 1 := ⟨n - 1, by omega⟩
      refine ⟨w, ?_, ?_, hf⟩
      · show b_X0_copyFrom_126 b o (zfix2 _ n) _ _ = _
        generalize zfix2 (b_X0_copyFrom_126 b o) n = kk
        unfold b_X0_copyFrom_126
        rw [hp.1.2.1, if_pos (nI_le (by omega) (by omega))]
      · have e : t = P 1 := by omega
        rw [e] at hp
        exact hp
    | succ k ih =>
      intro t n w ht hn hp hf
      obtain ⟨n, rfl⟩ : ∃ m, n = m + 1 := ⟨n - 1, by omega⟩
      have hz : zin (nI t) 3 = true := zin_nI (by omega) (by decide)
      have hw7 := (hO.2.2 t (by omega)).2.2.2.2.2
      have g4 := hc.w4 (i := t) (by omega)
      have g5 := hc.w5 (i := t) (by omega)
      have g6 := hc.w6 (i := t) (by omega)
      have g7 := hc.w7 (i := t) (by omega)
      obtain ⟨w', e1, e2, e3⟩ := ih (t + 1) n (zup (zup (zup (zup w (b + 4) t (nI (P (40 + t)))) (b + 5) t (nI (P (50 + t)))) (b + 6) t (nI (P (60 + t)))) (b + 7) t (nI (P (70 + t)))) (by omega) (by omega) (by
        obtain ⟨p1, p2, p3⟩ := hp
        refine ⟨?_, fun p hpp => ?_, fun i hi => ?_⟩
        · rw [zup_n _ _ _ (show b ≠ b + 7 by omega), zup_n _ _ _ (show b ≠ b + 6 by omega), zup_n _ _ _ (show b ≠ b + 5 by omega), zup_n _ _ _ (show b ≠ b + 4 by omega)]
          exact p1
        · have := p2 p hpp
          simp only [zup, show b + 1 ≠ b + 7 by omega, show b + 1 ≠ b + 6 by omega, show b + 1 ≠ b + 5 by omega, show b + 1 ≠ b + 4 by omega, show b + 2 ≠ b + 7 by omega, show b + 2 ≠ b + 6 by omega, show b + 2 ≠ b + 5 by omega, show b + 2 ≠ b + 4 by omega, show b + 3 ≠ b + 7 by omega, show b + 3 ≠ b + 6 by omega, show b + 3 ≠ b + 5 by omega, show b + 3 ≠ b + 4 by omega, if_false]
          exact this
        · simp only [zup, show b + 4 ≠ b + 7 by omega, show b + 4 ≠ b + 6 by omega, show b + 4 ≠ b + 5 by omega, show b + 5 ≠ b + 7 by omega, show b + 5 ≠ b + 6 by omega, show b + 5 ≠ b + 4 by omega, show b + 6 ≠ b + 7 by omega, show b + 6 ≠ b + 5 by omega, show b + 6 ≠ b + 4 by omega, show b + 7 ≠ b + 6 by omega, show b + 7 ≠ b + 5 by omega, show b + 7 ≠ b + 4 by omega, if_false, if_true]
          by_cases hit : i = t
          · subst hit
            simp only [upd_s]
            exact ⟨trivial, trivial, trivial, trivial⟩
          · simp only [upd_n _ _ hit]
            exact p3 i (by omega)) ((((hf.tr (Fr.up _ 4 _ _ (by decide))).tr (Fr.up _ 5 _ _ (by decide))).tr (Fr.up _ 6 _ _ (by decide))).tr (Fr.up _ 7 _ _ (by decide)))
      refine ⟨w', ?_, e2, e3⟩
      show b_X0_copyFrom_126 b o (zfix2 _ n) _ _ = _
      generalize zfix2 (b_X0_copyFrom_126 b o) n = kk at e1 ⊢
      unfold b_X0_copyFrom_126
      simp only [zlet, hz, zgT]
      rw [hp.1.2.1, if_neg (nI_ge (by omega) (by omega)), zxI (by omega)]
      rw [zup_n _ _ _ (show o + 7 ≠ b + 6 by omega), zup_n _ _ _ (show o + 7 ≠ b + 5 by omega), zup_n _ _ _ (show o + 7 ≠ b + 4 by omega), zup_n _ _ _ (show o + 6 ≠ b + 5 by omega), zup_n _ _ _ (show o + 6 ≠ b + 4 by omega), zup_n _ _ _ (show o + 5 ≠ b + 4 by omega)]
      rw [ho hf 4 (by decide), ho hf 5 (by decide), ho hf 6 (by decide), ho hf 7 (by decide), g4, g5, g6, g7, znarB hw7, show nI t + 1 = nI (t + 1) from nI_1 _]
      exact e1
  -- the people
  have key1 : ∀ (k t n : Nat) (w : zW), t + k = P 0 → k < n → CRp w b P t 0 → Fr b w0 w → ∃ w', zfix2 (b_X0_copyFrom_74 b o (fun w10 => zfix2 (b_X0_copyFrom_126 b o) 100000 0 w10)) n (nI t) w = some w' ∧ CR w' b P ∧ Fr b w0 w' := by
    intro k
    induction k with
    | zero =>
      intro t n w ht hn hp hf
      obtain ⟨n, rfl⟩ : ∃ m, n = m + 1 := ⟨n - 1, by omega⟩
      obtain ⟨w', e1, e2, e3⟩ := key2 (P 1) 0 100000 w (by omega) (by omega) (by
        have e : t = P 0 := by omega
        rw [e] at hp
        exact hp) hf
      refine ⟨w', ?_, e2, e3⟩
      show b_X0_copyFrom_74 b o _ (zfix2 _ n) _ _ = _
      generalize zfix2 (b_X0_copyFrom_74 b o (fun w10 => zfix2 (b_X0_copyFrom_126 b o) 100000 0 w10)) n = kk
      unfold b_X0_copyFrom_74
      rw [hp.1.1, if_pos (nI_le (by omega) (by omega))]
      exact e1
    | succ k ih =>
      intro t n w ht hn hp hf
      obtain ⟨n, rfl⟩ : ∃ m, n = m + 1 := ⟨n - 1, by omega⟩
      have hz : zin (nI t) 4 = true := zin_nI (by omega) (by decide)
      have g1 := hc.kd (p := t) (by omega)
      have g2 := hc.sz (p := t) (by omega)
      have g3 := hc.lv (p := t) (by omega)
      obtain ⟨w', e1, e2, e3⟩ := ih (t + 1) n (zup (zup (zup w (b + 1) t (nI (P (10 + t)))) (b + 2) t (nI (P (20 + t)))) (b + 3) t (nI (P (30 + t)))) (by omega) (by omega) (by
        obtain ⟨p1, p2, p3⟩ := hp
        refine ⟨?_, fun p hpp => ?_, fun i hi => absurd hi (by omega)⟩
        · rw [zup_n _ _ _ (show b ≠ b + 3 by omega), zup_n _ _ _ (show b ≠ b + 2 by omega), zup_n _ _ _ (show b ≠ b + 1 by omega)]
          exact p1
        · simp only [zup, show b + 1 ≠ b + 3 by omega, show b + 1 ≠ b + 2 by omega, show b + 2 ≠ b + 3 by omega, show b + 2 ≠ b + 1 by omega, show b + 3 ≠ b + 2 by omega, show b + 3 ≠ b + 1 by omega, if_false, if_true]
          by_cases hit : p = t
          · subst hit
            simp only [upd_s]
            exact ⟨trivial, trivial, trivial⟩
          · simp only [upd_n _ _ hit]
            exact p2 p (by omega)) (((hf.tr (Fr.up _ 1 _ _ (by decide))).tr (Fr.up _ 2 _ _ (by decide))).tr (Fr.up _ 3 _ _ (by decide)))
      refine ⟨w', ?_, e2, e3⟩
      show b_X0_copyFrom_74 b o _ (zfix2 _ n) _ _ = _
      generalize zfix2 (b_X0_copyFrom_74 b o (fun w10 => zfix2 (b_X0_copyFrom_126 b o) 100000 0 w10)) n = kk at e1 ⊢
      unfold b_X0_copyFrom_74
      simp only [zlet, hz, zgT]
      rw [hp.1.1, if_neg (nI_ge (by omega) (by omega)), zxI (by omega)]
      rw [zup_n _ _ _ (show o + 3 ≠ b + 2 by omega), zup_n _ _ _ (show o + 3 ≠ b + 1 by omega), zup_n _ _ _ (show o + 2 ≠ b + 1 by omega)]
      rw [ho hf 1 (by decide), ho hf 2 (by decide), ho hf 3 (by decide), g1, g2, g3, show nI t + 1 = nI (t + 1) from nI_1 _]
      exact e1
  have hob : o ≠ b := by omega
  unfold f_X0_copyFrom
  simp only [zlet, zjn1]
  obtain ⟨w', e1, e2, e3⟩ := key1 (P 0) 0 100000 (zup (zup (zup (zup (zup (zup (zup (zup (zup w0 b 0 (w0 o 0)) b 4 (w0 o 4)) b 9 (w0 o 9)) b 10 (w0 o 10)) b 11 (w0 o 11)) b 12 (w0 o 12)) b 13 (w0 o 13)) b 14 (w0 o 14)) b 15 (w0 o 15)) (by omega) (by omega) (by
    refine ⟨?_, fun p hp => absurd hp (by omega), fun i hi => absurd hi (by omega)⟩
    simp only [zup_s]
    simp only [upd]
    simp only [hc.n, hc.wl, hc.bt, hc.gl, hc.ml, hc.hr, hc.pl, hc.cl, hc.fd]
    simp) ((((((((((Fr.u0 w0 0 _).tr (Fr.u0 _ 4 _)).tr (Fr.u0 _ 9 _)).tr (Fr.u0 _ 10 _)).tr (Fr.u0 _ 11 _)).tr (Fr.u0 _ 12 _)).tr (Fr.u0 _ 13 _)).tr (Fr.u0 _ 14 _)).tr (Fr.u0 _ 15 _)))
  refine ⟨w', ?_, e2, e3⟩
  simp only [zup_n _ _ _ hob]
  exact e1
