/-! hours of the reference -/
theorem zsub_le0 {a b : Nat} (ha : a < 2 ^ 30) (hb : b < 2 ^ 30) : nI a - nI b ≤ 0 ↔ a ≤ b := by
  rw [Int32.le_iff_toInt_le, pk_sub_toInt ha hb, Int32.toInt_zero]
  omega
theorem q_lose {w : zW} {g fr : Nat} {P : zP} (h : PR w g fr P) (hO : Ok P) (h4 : fr + P 0 ≤ 4) (hg : g + 20 ≤ 120) (hh : P 4 < 2 ^ 30) (wk : Bool) (j : zW → Option zW) : ∃ w', zfix2 (b_X4_anHour_44 (nI g) (zbi wk) j) 100000 (nI fr) w = j w' ∧ PR w' g fr (m_lose P wk) ∧ FrM g w w' := by
  have h0 := hO.1.1
  have e4 : nI g + 4 = nI (g + 4) := nI_add g 4
  have key : ∀ (k t n : Nat) (w3 : zW), t + k = P 0 → k < n → PR w3 g fr (m_loseN P wk t) → FrM g w w3 → ∃ w', zfix2 (b_X4_anHour_44 (nI g) (zbi wk) j) n (nI (fr + t)) w3 = j w' ∧ PR w' g fr (m_lose P wk) ∧ FrM g w w' := by
    intro k
    induction k with
    | zero =>
      intro t n w3 ht hk hc hf
      obtain ⟨n, rfl⟩ : ∃ m, n = m + 1 := ⟨n - 1, by omega⟩
      obtain ⟨-, o2, -⟩ := m_loseN_ok hO wk t (by omega)
      refine ⟨w3, ?_, ?_, hf⟩
      · show b_X4_anHour_44 _ _ _ (zfix2 _ n) _ _ = _
        generalize zfix2 (b_X4_anHour_44 (nI g) (zbi wk) j) n = kk
        unfold b_X4_anHour_44
        rw [hc.fr, hc.n, o2.n, nI_add, if_pos (nI_le (by omega) (by omega))]
      · unfold m_lose
        rw [show P 0 = t by omega]
        exact hc
    | succ k ih =>
      intro t n w3 ht hk hc hf
      obtain ⟨n, rfl⟩ : ∃ m, n = m + 1 := ⟨n - 1, by omega⟩
      obtain ⟨o1, o2, o3, o4, o5, o6⟩ := m_loseN_ok hO wk t (by omega)
      have hp : t < m_loseN P wk t 0 := by rw [o2.n]; omega
      have h4' : fr + m_loseN P wk t 0 ≤ 4 := by rw [o2.n]; exact h4
      have hl := (hO.2.1 t (by omega)).2.2.2
      have hlt : m_loseN P wk t (30 + t) = P (30 + t) := o6 t (Nat.le_refl _)
      have hml : m_loss (m_loseN P wk t) t wk = m_loss P t wk := (m_loss_pu P wk (by omega) hO).resolve_right (by omega)
      have hmb : m_loss P t wk ≤ 3 := by
        unfold m_loss m_more
        repeat' split
        all_goals omega
      have hz : zin (nI (g + 4 + (fr + t))) 120 = true := zin_nI (by omega) (by decide)
      obtain ⟨w', e1, e2, e3⟩ := ih (t + 1) n (zup w3 57 (g + 4 + (fr + t)) (nI (P (30 + t) - m_loss P t wk))) (by omega) (by omega) (hc.fl h4' o1.1.2.1 hp _) (hf.tr (FrM.up _ _ (by omega)))
      refine ⟨w', ?_, e2, e3⟩
      show b_X4_anHour_44 _ _ _ (zfix2 _ n) _ _ = _
      generalize zfix2 (b_X4_anHour_44 (nI g) (zbi wk) j) n = kk at e1 ⊢
      unfold b_X4_anHour_44
      simp only [zletE, zjn1E]
      rw [hc.fr, hc.n, o2.n, nI_add, if_neg (nI_ge (by omega) (by omega)), e4, nI_add, q_lossOf hc o1 h4' hg (by rw [o3]; exact hh) hp]
      simp only [hz, zgT, zbds]
      rw [zxI (by omega), hc.lv hp, hlt, hml, show nI (fr + t) + 1 = nI (fr + (t + 1)) from nI_1 _]
      have c := zsub_le0 (a := P (30 + t)) (b := m_loss P t wk) (by omega) (by omega)
      by_cases d : P (30 + t) ≤ m_loss P t wk
      · rw [if_pos (c.mpr d)]
        rw [show P (30 + t) - m_loss P t wk = 0 by omega] at e1
        exact e1
      · rw [if_neg (fun q => d (c.mp q)), zsub_nI (by omega)]
        exact e1
  exact key (P 0) 0 100000 w (by omega) (by omega) h FrM.rf
theorem q_anHour {w : zW} {g fr : Nat} {P : zP} (h : PR w g fr P) (hO : Ok P) (h4 : fr + P 0 ≤ 4) (hg : g + 20 ≤ 120) (hh : P 4 < 2 ^ 30 - 1) (wk : Bool) : ∃ w', f_X4_anHour w (nI g) (zbi wk) = some w' ∧ PR w' g fr (m_hour P wk) ∧ FrM g w w' := by
  have e10 : ((1 : Int32) = 0) = False := eq_false (by decide)
  have ea : nI g + 10 = nI (g + 10) := nI_add g 10
  have ec : nI g + 12 = nI (g + 12) := nI_add g 12
  have hza : zin (nI (g + 10)) 120 = true := zin_nI (by omega) (by decide)
  have hxa : zx (nI (g + 10)) = g + 10 := zxI (by omega)
  have hzc : zin (nI (g + 12)) 120 = true := zin_nI (by omega) (by decide)
  have hxc : zx (nI (g + 12)) = g + 12 := zxI (by omega)
  have hn4 : ∀ (k : Nat), 0 < k → k < 2 ^ 31 → ¬ nI k ≤ 0 := fun k a b => nI_nle a b
  have hend : ∀ (w2 : zW) (Q : zP), PR w2 g fr Q → Q 4 = P 4 → Q 0 = P 0 → Q 1 ≤ 3 → FrM g w w2 → m_body P wk = Q → ∃ w', (some (zup w2 57 (g + 10) (w2 57 (g + 10) + 1)) : Option zW) = some w' ∧ PR w' g fr (m_hour P wk) ∧ FrM g w w' := by
    intro w2 Q hc hq4 hq0 hq1 hf hQ
    refine ⟨_, rfl, ?_, hf.tr (FrM.up _ _ (by omega))⟩
    unfold m_hour
    rw [hQ]
    refine hc.fh (by rw [hq0]; exact h4) hq1 _ ?_
    have := hc.hr
    rw [hq4] at this
    rw [Int32.add_assoc, Int32.add_comm 1 18, ← Int32.add_assoc, this]
    exact nI_1 _
  have hq1 := hO.1.2.1
  unfold f_X4_anHour
  simp only [zjn1E, zletE]
  rw [q_isOver h hO h4 hg, ea, ec, q_hourOn h hg]
  simp only [zbds, hza, hxa, hzc, hxc, zgT]
  by_cases ho : m_over P = true
  · rw [ho, if_neg (by decide)]
    exact hend w P h rfl rfl hq1 FrM.rf (by unfold m_body; rw [if_pos ho])
  · have hz0 : zbi (m_over P) = 0 := by unfold zbi; rw [if_neg ho]
    rw [hz0, if_pos rfl]
    simp only [m_over, Bool.or_eq_true, decide_eq_true_eq, not_or] at ho
    have hbody : m_body P wk = m_in3 P wk := by
      unfold m_body m_over
      rw [if_neg (by simp [ho.2]; omega)]
    have hn := m_stand_0 ho.2
    have c4 : zrem (nI (P 4)) 24 = 4 ↔ P 4 % 24 = 4 := by
      rw [show (24 : Int32) = nI 24 from rfl, zrem_nI (by omega) (by decide) (by decide)]
      exact nI_eq (b := 4) (by omega) (by decide)
    obtain ⟨w1, e1, c1, f1⟩ : ∃ w1, (if zrem (nI (P 4)) 24 = 4 then f_X4_fillsOn w (nI g) (w 57 (g + 12)) else some w) = some w1 ∧ PR w1 g fr (m_in1 P) ∧ FrM g w w1 := by
      unfold m_in1
      by_cases d : P 4 % 24 = 4
      · rw [if_pos (c4.mpr d), if_pos d, h.cl]
        exact q_fillsOn h hO h4 hg (by have := hO.1.2.2.2.2.2.2.1; omega)
      · rw [if_neg (fun q => d (c4.mp q)), if_neg d]
        exact ⟨w, rfl, h, FrM.rf⟩
    obtain ⟨a1, a2, a3, a4⟩ := m_in1_ok hO
    have a40 : fr + m_in1 P 0 ≤ 4 := by rw [a2.n]; exact h4
    obtain ⟨w2, e2, c2, f2⟩ := q_allDrink c1 a1 a40 hg (by rw [a3]; omega) (by rw [a2.n]; exact hn)
    obtain ⟨b1, b2, b3, b4⟩ := m_drinkN_ok a1 (m_in1 P 4 % m_in1 P 0) (by rw [a2.n]; exact hn) (m_in1 P 0)
    have b1' : Ok (m_drink (m_in1 P)) := b1
    have b3' : m_drink (m_in1 P) 4 = P 4 := b3.trans a3
    have b40 : fr + m_drink (m_in1 P) 0 ≤ 4 := by
      have : m_drink (m_in1 P) 0 = m_in1 P 0 := b2.n
      rw [this]; exact a40
    obtain ⟨o1, o2, o3, o4⟩ := m_in2_ok hO wk hn
    have o40 : fr + m_in2 P wk 0 ≤ 4 := by rw [o2.n]; exact h4
    have hq2 : m_in2 P wk 1 ≤ 3 := o1.1.2.1
    have rest : ∀ (w3 : zW), PR w3 g fr (m_in2 P wk) → FrM g w w3 → ∃ w', (if zbi wk = 0 then (some (zup w3 57 (g + 10) (w3 57 (g + 10) + 1)) : Option zW) else zbd (f_X4_upOn w3 (nI g)) fun v13 => if v13 ≤ 0 then some (zup w3 57 (g + 10) (w3 57 (g + 10) + 1)) else zbd (f_X4_walksOn w3 (nI g)) fun w15 => some (zup w15 57 (g + 10) (w15 57 (g + 10) + 1))) = some w' ∧ PR w' g fr (m_hour P wk) ∧ FrM g w w' := by
      intro w3 c3' f123
      cases wk with
      | false =>
        rw [if_pos (by rfl)]
        exact hend w3 _ c3' o3 o2.n hq2 f123 (by rw [hbody]; unfold m_in3; rw [if_neg (by simp)])
      | true =>
        rw [if_neg (by decide), q_upOn c3' o1 o40 hg, zbds]
        by_cases hs2 : 0 < m_stand (m_in2 P true)
        · rw [if_neg (nI_nle hs2 (by have := m_cnt_le (m_in2 P true) (m_in2 P true 0); have := o1.1.1; unfold m_stand at *; omega))]
          obtain ⟨w4, e4, c4, f4⟩ := q_walksOn c3' o1 o40 hg (by rw [o3]; omega) (by rw [o4, o2.gl]; omega)
          rw [e4, zbds]
          obtain ⟨d1, d2, d3⟩ := m_walk_ok o1 (by rw [o4, o2.gl]; omega)
          exact hend w4 _ c4 (d3.trans o3) (d2.n.trans o2.n) d1.1.2.1 (f123.tr f4) (by rw [hbody]; unfold m_in3; rw [if_pos ⟨rfl, hs2⟩])
        · rw [show m_stand (m_in2 P true) = 0 by omega, if_pos (by decide)]
          exact hend w3 _ c3' o3 o2.n hq2 f123 (by rw [hbody]; unfold m_in3; rw [if_neg (fun q => hs2 q.2)])
    have go : ∀ (j : zW → Option zW), (∀ (w3 : zW), PR w3 g fr (m_in2 P wk) → FrM g w w3 → ∃ w', j w3 = some w' ∧ PR w' g fr (m_hour P wk) ∧ FrM g w w') → ∃ w', (zbd (f_X4_allDrink w1 (nI g)) fun w9 => zfix2 (b_X4_anHour_44 (nI g) (zbi wk) j) 100000 (w9 56 6) w9) = some w' ∧ PR w' g fr (m_hour P wk) ∧ FrM g w w' := by
      intro j hj
      rw [e2, zbds, c2.fr]
      obtain ⟨w3, e3, c3, f3⟩ := q_lose c2 b1' b40 hg (by rw [b3']; omega) wk j
      rw [e3]
      exact hj w3 c3 ((f1.tr f2).tr f3)
    by_cases d : zrem (nI (P 4)) 24 = 4
    · rw [if_pos d] at e1 ⊢
      rw [e1, zbds]
      exact go _ rest
    · rw [if_neg d] at e1 ⊢
      obtain rfl := zso1 e1
      exact go _ rest
theorem q_goesOn {g fr k : Nat} (hk : k ≤ 3) (hg : g + 20 ≤ 120) : ∀ (n : Nat) {w : zW} {P : zP}, PR w g fr P → Ok P → fr + P 0 ≤ 4 → P 4 + n < 2 ^ 29 → n ≤ 99 → ∃ w', f_X4_goesOn w (nI g) (nI n) (nI k) = some w' ∧ PR w' g fr (m_hours k n P) ∧ FrM g w w' := by
  intro N w0 P0 hc0 hO0 h40 hb0 hN
  have key : ∀ (j t n : Nat) (w : zW) (P : zP), t + j = N → j < n → PR w g fr P → Ok P → fr + P 0 ≤ 4 → P 4 + j < 2 ^ 29 → FrM g w0 w → ∃ w', zfix2 (b_X4_goesOn_3 (nI g) (nI N) (nI k)) n (nI t) w = some w' ∧ PR w' g fr (m_hours k j P) ∧ FrM g w0 w' := by
    intro j
    induction j with
    | zero =>
      intro t n w P ht hn hc hO h4 hb hf
      obtain ⟨n, rfl⟩ : ∃ m, n = m + 1 := ⟨n - 1, by omega⟩
      refine ⟨w, ?_, hc, hf⟩
      show b_X4_goesOn_3 _ _ _ (zfix2 _ n) _ _ = _
      generalize zfix2 (b_X4_goesOn_3 (nI g) (nI N) (nI k)) n = kk
      unfold b_X4_goesOn_3
      rw [if_pos (nI_le (by omega) (by omega))]
    | succ j ih =>
      intro t n w P ht hn hc hO h4 hb hf
      obtain ⟨n, rfl⟩ : ∃ m, n = m + 1 := ⟨n - 1, by omega⟩
      obtain ⟨w1, e1, c1, f1⟩ := q_anHour hc hO h4 hg (by omega) (m_walks P k)
      obtain ⟨o1, o2, o3⟩ := m_hour_ok hO (m_walks P k)
      obtain ⟨w', g1, g2, g3⟩ := ih (t + 1) n w1 _ (by omega) (by omega) c1 o1 (by rw [o2.n]; exact h4) (by rw [o3]; omega) (hf.tr f1)
      refine ⟨w', ?_, g2, g3⟩
      show b_X4_goesOn_3 _ _ _ (zfix2 _ n) _ _ = _
      generalize zfix2 (b_X4_goesOn_3 (nI g) (nI N) (nI k)) n = kk at g1 ⊢
      unfold b_X4_goesOn_3
      simp only [zletE]
      rw [if_neg (nI_ge (by omega) (by omega)), q_isWalking hc hg (by omega) hk, zbds, e1, zbds, show nI t + 1 = nI (t + 1) from nI_1 _]
      exact g1
  exact key N 0 100000 w0 P0 (by omega) (by omega) hc0 hO0 h40 hb0 FrM.rf
theorem q_copiesR {w0 : zW} {g1 g2 : Nat} (h1 : g1 + 20 ≤ 120) (h2 : g2 + 20 ≤ 120) (hd : g1 + 20 ≤ g2 ∨ g2 + 20 ≤ g1) : ∃ w', f_X4_copies w0 (nI g1) (nI g2) = some w' ∧ (∀ j, j < 20 → w' 57 (g2 + j) = w0 57 (g1 + j)) ∧ FrM g2 w0 w' := by
  have key : ∀ (k t n : Nat) (w : zW), t + k = 20 → k < n → (∀ j, j < t → w 57 (g2 + j) = w0 57 (g1 + j)) → FrM g2 w0 w → ∃ w', zfix2 (b_X4_copies_2 (nI g1) (nI g2)) n (nI t) w = some w' ∧ (∀ j, j < 20 → w' 57 (g2 + j) = w0 57 (g1 + j)) ∧ FrM g2 w0 w' := by
    intro k
    induction k with
    | zero =>
      intro t n w ht hn hj hf
      obtain ⟨n, rfl⟩ : ∃ m, n = m + 1 := ⟨n - 1, by omega⟩
      refine ⟨w, ?_, by rw [show t = 20 by omega] at hj; exact hj, hf⟩
      show b_X4_copies_2 _ _ (zfix2 _ n) _ _ = _
      generalize zfix2 (b_X4_copies_2 (nI g1) (nI g2)) n = kk
      unfold b_X4_copies_2
      rw [show t = 20 by omega, if_pos (by decide)]
    | succ k ih =>
      intro t n w ht hn hj hf
      obtain ⟨n, rfl⟩ : ∃ m, n = m + 1 := ⟨n - 1, by omega⟩
      have hz1 : zin (nI (g1 + t)) 120 = true := zin_nI (by omega) (by decide)
      have hz2 : zin (nI (g2 + t)) 120 = true := zin_nI (by omega) (by decide)
      have c : (20 : Int32) ≤ nI t ↔ 20 ≤ t := nI_leI (a := 20) (by decide) (by omega)
      obtain ⟨w', e1, e2, e3⟩ := ih (t + 1) n (zup w 57 (g2 + t) (w0 57 (g1 + t))) (by omega) (by omega) (by
        intro j hjt
        rw [zup_s]
        by_cases e : j = t
        · subst e; rw [upd_s]
        · rw [upd_n _ _ (by omega)]; exact hj j (by omega)) (hf.tr (FrM.up _ _ (by omega)))
      refine ⟨w', ?_, e2, e3⟩
      show b_X4_copies_2 _ _ (zfix2 _ n) _ _ = _
      generalize zfix2 (b_X4_copies_2 (nI g1) (nI g2)) n = kk at e1 ⊢
      unfold b_X4_copies_2
      simp only [zletE]
      rw [if_neg (fun q => absurd (c.mp q) (by omega)), nI_add, nI_add]
      simp only [hz1, hz2, zgT]
      rw [zxI (by omega), zxI (by omega), hf.2 _ (by omega), show nI t + 1 = nI (t + 1) from nI_1 _]
      exact e1
  exact key 20 0 100000 w0 (by omega) (by omega) (fun j hj => absurd hj (by omega)) FrM.rf
theorem PR.move {w w' : zW} {g1 g2 fr : Nat} {P : zP} (h : PR w g1 fr P) (h4 : fr + P 0 ≤ 4) (h3 : P 1 ≤ 3) (hc : ∀ j, j < 20 → w' 57 (g2 + j) = w 57 (g1 + j)) (hk : ∀ k, k ≠ 57 → w' k = w k) : PR w' g2 fr P := by
  obtain ⟨⟨a1, a2, a3, a4⟩, ⟨b1, b2, b3, b4, b5, b6⟩, hp, hw⟩ := h
  refine ⟨⟨?_, ?_, ?_, ?_⟩, ⟨?_, ?_, ?_, ?_, ?_, ?_⟩, fun p hpp => ?_, fun i hi => ?_⟩
  · rw [hk _ (by decide)]; exact a1
  · rw [hk _ (by decide)]; exact a2
  · rw [hk _ (by decide)]; exact a3
  · rw [hk _ (by decide)]; exact a4
  · rw [hc _ (by omega)]; exact b1
  · rw [hc _ (by omega)]; exact b2
  · rw [hc _ (by omega)]; exact b3
  · rw [hc _ (by omega)]; exact b4
  · rw [hc _ (by omega)]; exact b5
  · rw [hc _ (by omega)]; exact b6
  · rw [Nat.add_assoc g2 4, hc _ (by omega), hc _ (by omega), hk _ (by decide), ← Nat.add_assoc g1 4]; exact hp p hpp
  · rw [Nat.add_assoc g2 17, Nat.add_assoc g2 14, hc _ (by omega), hc _ (by omega), hk _ (by decide), ← Nat.add_assoc g1 17, ← Nat.add_assoc g1 14]; exact hw i hi
theorem q_copies {w : zW} {g1 g2 fr : Nat} {P : zP} (h : PR w g1 fr P) (hO : Ok P) (h4 : fr + P 0 ≤ 4) (h1 : g1 + 20 ≤ 120) (h2 : g2 + 20 ≤ 120) (hd : g1 + 20 ≤ g2 ∨ g2 + 20 ≤ g1) : ∃ w', f_X4_copies w (nI g1) (nI g2) = some w' ∧ PR w' g2 fr P ∧ FrM g2 w w' := by
  obtain ⟨w', e1, e2, e3⟩ := q_copiesR (w0 := w) h1 h2 hd
  exact ⟨w', e1, h.move h4 hO.1.2.1 e2 e3.1, e3⟩
/-- the reference counts the hours to the goal on page 80 -/
def FrA (w w' : zW) : Prop := (∀ k, k ≠ 57 → k ≠ 56 → w' k = w k) ∧ (∀ j, j < 80 ∨ 100 ≤ j → w' 57 j = w 57 j) ∧ ∀ j, j ≠ 28 → w' 56 j = w 56 j
theorem FrA.rf {w : zW} : FrA w w := ⟨fun _ _ _ => rfl, fun _ _ => rfl, fun _ _ => rfl⟩
theorem FrA.tr {w w1 w2 : zW} (h : FrA w w1) (k : FrA w1 w2) : FrA w w2 := ⟨fun j a b => (k.1 j a b).trans (h.1 j a b), fun j a => (k.2.1 j a).trans (h.2.1 j a), fun j a => (k.2.2 j a).trans (h.2.2 j a)⟩
theorem FrM.a {w w' : zW} (h : FrM 80 w w') : FrA w w' := ⟨fun k a _ => h.1 k a, fun j a => h.2 j (by omega), fun j _ => by rw [h.1 56 (by decide)]⟩
theorem FrA.up (w : zW) (x : Int32) : FrA w (zup w 56 28 x) := ⟨fun k _ b => zup_n w 28 x b, fun j _ => by rw [zup_n _ _ _ (by decide)], fun j a => by rw [zup_s, upd_n _ _ a]⟩
theorem PR.u28 {w : zW} {g fr : Nat} {P : zP} (h : PR w g fr P) (h4 : fr + P 0 ≤ 4) (h3 : P 1 ≤ 3) (x : Int32) : PR (zup w 56 28 x) g fr P :=
  h.frame h4 h3 (fun j a b => by rw [zup_s, upd_n _ _ (by omega)]) (fun j _ _ => by rw [zup_n _ _ _ (by decide)]) (zup_n _ _ _ (by decide)) (zup_n _ _ _ (by decide))
theorem q_arriveFrom {w0 : zW} {g fr k : Nat} {P0 : zP} (hk : k ≤ 3) (h : PR w0 g fr P0) (hO0 : Ok P0) (h40 : fr + P0 0 ≤ 4) (hg : g + 20 ≤ 120) (hgd : g + 20 ≤ 80 ∨ 100 ≤ g) (hb0 : P0 4 < 2 ^ 28) : ∃ w', f_X4_arriveFrom w0 (nI g) (nI k) = some (nI (m_arr (m_toGoal k 96 0 P0).2), w') ∧ w' 56 28 = nI (m_toGoal k 96 0 P0).1 ∧ PR w' 80 fr (m_toGoal k 96 0 P0).2 ∧ FrA w0 w' := by
  have key : ∀ (j t n : Nat) (w : zW) (P : zP) (jj : zW → Option (Int32 × zW)), t + j = 96 → j < n → PR w 80 fr P → Ok P → fr + P 0 ≤ 4 → P 4 + j < 2 ^ 29 → w 56 28 = nI t → FrA w0 w → ∃ w', zfix1 (b_X4_arriveFrom_12 (nI k) jj) n w = jj w' ∧ w' 56 28 = nI (m_toGoal k j t P).1 ∧ PR w' 80 fr (m_toGoal k j t P).2 ∧ FrA w0 w' := by
    intro j
    induction j with
    | zero =>
      intro t n w P jj ht hn hc hO h4 hb h28 hf
      obtain ⟨n, rfl⟩ : ∃ m, n = m + 1 := ⟨n - 1, by omega⟩
      refine ⟨w, ?_, h28, hc, hf⟩
      show b_X4_arriveFrom_12 _ _ (zfix1 _ n) _ = _
      generalize zfix1 (b_X4_arriveFrom_12 (nI k) jj) n = kk
      unfold b_X4_arriveFrom_12
      rw [h28, show t = 96 by omega, if_pos (show (96 : Int32) ≤ nI 96 by decide)]
      split <;> rfl
    | succ j ih =>
      intro t n w P jj ht hn hc hO h4 hb h28 hf
      obtain ⟨n, rfl⟩ : ∃ m, n = m + 1 := ⟨n - 1, by omega⟩
      have c96 : (96 : Int32) ≤ nI t ↔ 96 ≤ t := nI_leI (a := 96) (by decide) (by omega)
      have b2 := hO.1.2.2.1
      have b3 := hO.1.2.2.2.1
      have cg : nI (P 2) ≤ nI (P 3) ↔ P 2 ≤ P 3 := nI_leI (by omega) (by omega)
      have hml : w 57 89 = nI (P 3) := hc.ml
      by_cases hgl : P 2 ≤ P 3
      · refine ⟨w, ?_, ?_, ?_, hf⟩
        · show b_X4_arriveFrom_12 _ _ (zfix1 _ n) _ = _
          generalize zfix1 (b_X4_arriveFrom_12 (nI k) jj) n = kk
          unfold b_X4_arriveFrom_12
          rw [hc.gl, hml, if_pos (cg.mpr hgl)]
        · simp only [m_toGoal, if_pos hgl]; exact h28
        · simp only [m_toGoal, if_pos hgl]; exact hc
      · obtain ⟨w1, e1, c1, f1⟩ := q_goesOn (g := 80) hk (by decide) 1 hc hO h4 (by omega) (by decide)
        obtain ⟨o1, o2, o3⟩ := m_hour_ok hO (m_walks P k)
        have h28' : w1 56 28 = nI t := by rw [f1.1 56 (by decide)]; exact h28
        obtain ⟨w', g1, g2, g3, g4⟩ := ih (t + 1) n (zup w1 56 28 (nI (t + 1))) (m_hour P (m_walks P k)) jj (by omega) (by omega) (PR.u28 c1 (by show fr + m_hour P _ 0 ≤ 4; rw [o2.n]; exact h4) o1.1.2.1 _) o1 (by rw [o2.n]; exact h4) (by rw [o3]; omega) (by rw [zup_s, upd_s]) ((hf.tr f1.a).tr (FrA.up _ _))
        simp only [m_toGoal, if_neg hgl]
        refine ⟨w', ?_, g2, g3, g4⟩
        show b_X4_arriveFrom_12 _ _ (zfix1 _ n) _ = _
        generalize zfix1 (b_X4_arriveFrom_12 (nI k) jj) n = kk at g1 ⊢
        unfold b_X4_arriveFrom_12
        simp only [zletE]
        rw [hc.gl, hml, if_neg (fun q => hgl (cg.mp q)), h28, if_neg (fun q => absurd (c96.mp q) (by omega)), show (80 : Int32) = nI 80 from rfl, show (1 : Int32) = nI 1 from rfl, e1, zbds, h28', nI_add]
        exact g1
  obtain ⟨w1, e1, c1, f1⟩ := q_copies h hO0 h40 hg (g2 := 80) (by decide) (by omega)
  obtain ⟨w', e2, e3, e4, e5⟩ := key 96 0 100000 (zup w1 56 28 0) P0 (fun w3 => if (w3 57 89) < (w3 56 5) then some ((0 : Int32), w3) else zbd (f_X4_upOn w3 (80 : Int32)) fun v5 => some (v5, w3)) (by omega) (by omega) (c1.u28 h40 hO0.1.2.1 _) hO0 h40 (by omega) (by rw [zup_s, upd_s]; rfl) (f1.a.tr (FrA.up _ _))
  refine ⟨w', ?_, e3, e4, e5⟩
  unfold f_X4_arriveFrom
  simp only [zletE, zjn1E]
  rw [show f_X4_copies w0 (nI g) 80 = some w1 from e1, zbds, e2]
  obtain ⟨o1, o2, -⟩ := m_toGoal_ok k 96 0 hO0
  generalize (m_toGoal k 96 0 P0).2 = Q at e4 o1 o2 ⊢
  have b2 := o1.1.2.2.1
  have b3 := o1.1.2.2.2.1
  have cg : nI (Q 3) < nI (Q 2) ↔ Q 3 < Q 2 := nI_ltI (by omega) (by omega)
  rw [e4.gl, show w' 57 89 = nI (Q 3) from e4.ml]
  unfold m_arr
  by_cases d : Q 2 ≤ Q 3
  · rw [if_neg (fun q => absurd (cg.mp q) (by omega)), if_pos d, show (80 : Int32) = nI 80 from rfl, q_upOn e4 o1 (by rw [o2.n]; exact h40) (by decide), zbds]
  · rw [if_pos (cg.mpr (by omega)), if_neg d]
    rfl
