/-! the reference's methods over a page -/
theorem q_hourOn {w : zW} {g fr : Nat} {P : zP} (h : PR w g fr P) (hg : g + 20 ≤ 120) : f_X4_hourOn w (nI g) = some (nI (P 4)) := by
  unfold f_X4_hourOn
  rw [show nI g + 10 = nI (g + 10) from nI_add g 10, zgt (zin_nI (by omega) (by decide)), zxI (by omega), h.hr]
theorem q_isDay {w : zW} {g fr : Nat} {P : zP} (h : PR w g fr P) (hg : g + 20 ≤ 120) (hh : P 4 < 2 ^ 30) : f_X4_isDay w (nI g) = some (zbi (m_day P)) := by
  unfold f_X4_isDay
  rw [q_hourOn h hg, zbds, show (24 : Int32) = nI 24 from rfl, zrem_nI (by omega) (by decide) (by decide), show (6 : Int64) = (nI 6).toInt64 from rfl, show (17 : Int64) = (nI 17).toInt64 from rfl, in_within]
  have hm : P 4 % 24 < 24 := Nat.mod_lt _ (by decide)
  unfold m_day zbi
  by_cases c : 6 ≤ P 4 % 24 ∧ P 4 % 24 ≤ 17
  · rw [win_t c.1 c.2 (by decide), if_pos (by simp; exact c)]
  · rcases win_cases (nI (P 4 % 24)) 6 17 (by decide) with d | ⟨-, p, p1, p2, e⟩ | d
    · rw [d, if_neg (by simp; omega)]
    · have := (nI_eq (by omega) (by omega)).mp e
      omega
    · omega
theorem q_isDown {w : zW} {g fr : Nat} {P : zP} (h : PR w g fr P) (hO : Ok P) (h4 : fr + P 0 ≤ 4) (hg : g + 20 ≤ 120) {p : Nat} (hp : p < P 0) : f_X4_isDown w (nI g) (nI (fr + p)) = some (if P (30 + p) = 0 then 1 else 0) := by
  have hl := (hO.2.1 p hp).2.2.2
  unfold f_X4_isDown
  rw [show nI g + 4 = nI (g + 4) from nI_add g 4, nI_add, zgt (zin_nI (by omega) (by decide)), zxI (by omega), h.lv hp]
  by_cases e : P (30 + p) = 0
  · rw [if_pos ((zeq0 (by omega)).mpr e), if_pos e]
  · rw [if_neg (fun q => e ((zeq0 (by omega)).mp q)), if_neg e]
theorem q_upOn {w : zW} {g fr : Nat} {P : zP} (h : PR w g fr P) (hO : Ok P) (h4 : fr + P 0 ≤ 4) (hg : g + 20 ≤ 120) : f_X4_upOn w (nI g) = some (nI (m_stand P)) := by
  have key : ∀ (k i n : Nat), i + k = P 0 → k < n → zfix2 (b_X4_upOn_7 w (nI g)) n (nI (m_cnt P i)) (nI (fr + i)) = some (nI (m_stand P)) := by
    intro k
    induction k with
    | zero =>
      intro i n hi hn
      obtain ⟨n, rfl⟩ : ∃ m, n = m + 1 := ⟨n - 1, by omega⟩
      show b_X4_upOn_7 w _ (zfix2 _ n) _ _ = _
      generalize zfix2 (b_X4_upOn_7 w (nI g)) n = kk
      unfold b_X4_upOn_7
      rw [h.fr, h.n, nI_add, if_pos (nI_le (by omega) (by omega))]
      unfold m_stand
      rw [show i = P 0 by omega]
    | succ k ih =>
      intro i n hi hn
      obtain ⟨n, rfl⟩ : ∃ m, n = m + 1 := ⟨n - 1, by omega⟩
      have h1 := ih (i + 1) n (by omega) (by omega)
      show b_X4_upOn_7 w _ (zfix2 _ n) _ _ = _
      generalize zfix2 (b_X4_upOn_7 w (nI g)) n = kk at h1 ⊢
      unfold b_X4_upOn_7
      rw [h.fr, h.n, nI_add, if_neg (nI_ge (by omega) (by omega)), q_isDown h hO h4 hg (by omega), zbds]
      have e1 : nI (fr + i) + 1 = nI (fr + (i + 1)) := nI_1 _
      by_cases e : P (30 + i) = 0
      · simp only [zjn1, zlet, m_cnt, if_pos e] at h1 ⊢
        rw [if_neg (by decide), e1, show nI (m_cnt P i) + 0 = nI (m_cnt P i + 0) from nI_add _ 0]
        exact h1
      · simp only [zjn1, zlet, m_cnt, if_neg e] at h1 ⊢
        rw [if_pos (by decide), e1, show nI (m_cnt P i) + 1 = nI (m_cnt P i + 1) from nI_1 _]
        exact h1
  unfold f_X4_upOn
  simp only [zlet]
  rw [h.fr]
  exact key (P 0) 0 100000 (by omega) (by omega)
theorem q_isOver {w : zW} {g fr : Nat} {P : zP} (h : PR w g fr P) (hO : Ok P) (h4 : fr + P 0 ≤ 4) (hg : g + 20 ≤ 120) : f_X4_isOver w (nI g) = some (zbi (m_over P)) := by
  have h2 := hO.1.2.2.1
  have h3 := hO.1.2.2.2.1
  unfold f_X4_isOver
  simp only [zjn0]
  rw [show nI g + 9 = nI (g + 9) from nI_add g 9, zgt (zin_nI (by omega) (by decide)), zxI (by omega), h.ml, h.gl, q_upOn h hO h4 hg, zbds]
  have c1 : nI (P 2) ≤ nI (P 3) ↔ P 2 ≤ P 3 := nI_leI (by omega) (by omega)
  have cs : nI (m_stand P) = 0 ↔ m_stand P = 0 := zeq0 (by have := m_cnt_le P (P 0); have := hO.1.1; unfold m_stand; omega)
  unfold m_over zbi
  by_cases d1 : P 2 ≤ P 3
  · rw [if_pos (c1.mpr d1), if_pos (by simp [d1])]
  · rw [if_neg (fun q => d1 (c1.mp q))]
    by_cases d2 : m_stand P = 0
    · rw [if_pos (cs.mpr d2), if_pos (by simp [d2])]
    · rw [if_neg (fun q => d2 (cs.mp q)), if_neg (by simp [d2]; omega)]
theorem q_fillsOn {w : zW} {g fr : Nat} {P : zP} (h : PR w g fr P) (hO : Ok P) (h4 : fr + P 0 ≤ 4) (hg : g + 20 ≤ 120) {c : Nat} (hc : c ≤ 60) : ∃ w', f_X4_fillsOn w (nI g) (nI c) = some w' ∧ PR w' g fr (m_fill P c) ∧ FrM g w w' := by
  have h5 := hO.1.2.2.2.2.1
  refine ⟨zup w 57 (g + 8) (nI (min 60 (P 5 + c))), ?_, h.f0 h4 hO.1.2.1 8 5 _ (by omega), FrM.up _ _ (by omega)⟩
  have hz : zin (nI (g + 8)) 120 = true := zin_nI (by omega) (by decide)
  unfold f_X4_fillsOn
  simp only [zjn1, zlet]
  rw [show nI g + 8 = nI (g + 8) from nI_add g 8]
  simp only [hz, zgT]
  rw [zxI (by omega), h.bt, nI_add]
  have c1 : nI (P 5 + c) ≤ 60 ↔ P 5 + c ≤ 60 := nI_leI (b := 60) (by omega) (by decide)
  by_cases d : P 5 + c ≤ 60
  · rw [if_pos (c1.mpr d), Nat.min_eq_right d]
  · rw [if_neg (fun q => d (c1.mp q)), Nat.min_eq_left (by omega)]
    rfl
theorem q_pourer {w : zW} {g fr : Nat} {P : zP} (h : PR w g fr P) (hO : Ok P) (h4 : fr + P 0 ≤ 4) (hg : g + 20 ≤ 120) (hh : P 4 < 2 ^ 30) (hn : 0 < P 0) : f_X4_pourer w (nI g) = some (nI (fr + P 4 % P 0)) := by
  have h0 := hO.1.1
  unfold f_X4_pourer
  rw [h.n, if_neg (nI_ne0 hn (by omega)), q_hourOn h hg, zbds, zgt (by simp [znz]; exact nI_ne0 hn (by omega)), h.fr, zrem_nI (by omega) hn (by omega), nI_add]
theorem q_pourer0 {w : zW} {g fr : Nat} {P : zP} (h : PR w g fr P) (hn : P 0 = 0) : f_X4_pourer w (nI g) = some (-4) := by
  unfold f_X4_pourer
  rw [h.n, hn, if_pos (by decide)]
theorem q_wantOf {w : zW} {g fr : Nat} {P : zP} (h : PR w g fr P) (hO : Ok P) (h4 : fr + P 0 ≤ 4) (hg : g + 20 ≤ 120) (hh : P 4 < 2 ^ 30) {p : Nat} (hp : p < P 0) : f_X4_wantOf w (nI g) (nI (fr + p)) = some (nI (m_want P p)) := by
  have h0 := hO.1.1
  obtain ⟨hk, -, -, hl⟩ := hO.2.1 p hp
  unfold f_X4_wantOf
  simp only [zlet]
  rw [show nI g + 4 = nI (g + 4) from nI_add g 4, nI_add, nI_add, zgt (zin_nI (by omega) (by decide)), zgt (zin_nI (by omega) (by decide)), zxI (by omega), zxI (by omega), h.lv hp, h.kd hp]
  unfold m_want
  have c1 : nI (P (10 + p)) = 1 ↔ P (10 + p) = 1 := nI_eq (b := 1) (by omega) (by decide)
  have c2 : nI (P (10 + p)) = 2 ↔ P (10 + p) = 2 := nI_eq (b := 2) (by omega) (by decide)
  have c3 : nI (P (10 + p)) = 3 ↔ P (10 + p) = 3 := nI_eq (b := 3) (by omega) (by decide)
  have c5 : (10 : Int32) ≤ nI (P (30 + p)) ↔ 10 ≤ P (30 + p) := nI_leI (a := 10) (by decide) (by omega)
  have c4 : (4 : Int32) < nI (P (30 + p)) ↔ 4 < P (30 + p) := nI_ltI (a := 4) (by decide) (by omega)
  by_cases d1 : P (10 + p) = 1
  · rw [if_pos (c1.mpr d1), if_pos d1]
    by_cases d5 : 10 ≤ P (30 + p)
    · rw [if_pos (c5.mpr d5), show 10 - P (30 + p) = 0 by omega]; rfl
    · rw [if_neg (fun q => d5 (c5.mp q)), show (10 : Int32) = nI 10 from rfl, zsub_nI (by omega)]
  · rw [if_neg (fun q => d1 (c1.mp q)), if_neg d1]
    by_cases d2 : P (10 + p) = 2
    · rw [if_pos (c2.mpr d2), if_pos d2, q_pourer h hO h4 hg hh (by omega), zbds]
      have hm : P 4 % P 0 < P 0 := Nat.mod_lt _ (by omega)
      by_cases d4 : P 4 % P 0 = p
      · rw [if_pos ((nI_eq (by omega) (by omega)).mpr (by omega)), if_pos d4]; rfl
      · rw [if_neg (fun q => d4 (by have := (nI_eq (by omega) (by omega)).mp q; omega)), if_neg d4]; rfl
    · rw [if_neg (fun q => d2 (c2.mp q)), if_neg d2]
      by_cases d3 : P (10 + p) = 3
      · rw [if_pos (c3.mpr d3), if_pos d3]
        by_cases d4 : P (30 + p) ≤ 4
        · rw [if_neg (fun q => absurd (c4.mp q) (by omega)), if_pos d4]; rfl
        · rw [if_pos (c4.mpr (by omega)), if_neg d4]; rfl
      · rw [if_neg (fun q => d3 (c3.mp q)), if_neg d3]; rfl
theorem q_givesTo {w : zW} {g fr : Nat} {P : zP} (h : PR w g fr P) (hO : Ok P) (h4 : fr + P 0 ≤ 4) (hg : g + 20 ≤ 120) {p : Nat} (hp : p < P 0) : f_X4_givesTo w (nI g) (nI (fr + p)) = some (nI (fr + m_give P p)) := by
  have h0 := hO.1.1
  obtain ⟨hk, -, -, hl⟩ := hO.2.1 p hp
  have cK : nI (P (10 + p)) = 4 ↔ P (10 + p) = 4 := nI_eq (b := 4) (by omega) (by decide)
  have hzk : zin (nI (g + (fr + p))) 120 = true := zin_nI (by omega) (by decide)
  unfold f_X4_givesTo
  simp only [zlet]
  rw [h.fr]
  by_cases d : P (10 + p) = 4
  · have key : ∀ (k i n : Nat), i + k = P 0 → k < n → zfix2 (b_X4_givesTo_8 w (nI g) (nI (fr + p))) n (nI (fr + m_giveF P p i)) (nI (fr + i)) = some (nI (fr + m_giveF P p (P 0))) := by
      intro k
      induction k with
      | zero =>
        intro i n hi hn
        obtain ⟨n, rfl⟩ : ∃ m, n = m + 1 := ⟨n - 1, by omega⟩
        show b_X4_givesTo_8 w _ _ (zfix2 _ n) _ _ = _
        generalize zfix2 (b_X4_givesTo_8 w (nI g) (nI (fr + p))) n = kk
        unfold b_X4_givesTo_8
        rw [h.fr, h.n, nI_add, if_pos (nI_le (by omega) (by omega)), show i = P 0 by omega]
      | succ k ih =>
        intro i n hi hn
        obtain ⟨n, rfl⟩ : ∃ m, n = m + 1 := ⟨n - 1, by omega⟩
        have hgv := m_giveF_lt P hp i (by omega)
        have hli := (hO.2.1 i (by omega)).2.2.2
        have hlg := (hO.2.1 _ hgv).2.2.2
        have h1 := ih (i + 1) n (by omega) (by omega)
        show b_X4_givesTo_8 w _ _ (zfix2 _ n) _ _ = _
        generalize zfix2 (b_X4_givesTo_8 w (nI g) (nI (fr + p))) n = kk at h1 ⊢
        unfold b_X4_givesTo_8
        rw [h.fr, h.n, nI_add, if_neg (nI_ge (by omega) (by omega)), nI_add]
        simp only [hzk, zgT]
        rw [zxI (by omega), h.kd hp, if_pos (cK.mpr d), q_isDown h hO h4 hg (by omega), zbds]
        have e1 : nI (fr + i) + 1 = nI (fr + (i + 1)) := nI_1 _
        simp only [zjn1, zjn0, zlet, m_giveF] at h1 ⊢
        rw [e1]
        by_cases e : P (30 + i) = 0
        · rw [if_pos e, if_neg (by decide)]
          rw [if_neg (fun q => q.1 e)] at h1
          exact h1
        · rw [if_neg e, if_pos rfl, show nI g + 4 = nI (g + 4) from nI_add g 4, nI_add, nI_add, zgt (zin_nI (by omega) (by decide)), zgt (zin_nI (by omega) (by decide)), zxI (by omega), zxI (by omega), h.lv hgv, h.lv (show i < P 0 by omega)]
          by_cases e2 : P (30 + i) < P (30 + m_giveF P p i)
          · rw [if_neg (nI_ge e2 (by omega))]
            rw [if_pos ⟨e, e2⟩] at h1
            exact h1
          · rw [if_pos (nI_le (by omega) (by omega))]
            rw [if_neg (fun q => e2 q.2)] at h1
            exact h1
    unfold m_give
    rw [if_pos d]
    exact key (P 0) 0 100000 (by omega) (by omega)
  · unfold m_give
    rw [if_neg d]
    show b_X4_givesTo_8 w _ _ (zfix2 _ 99999) _ _ = _
    generalize zfix2 (b_X4_givesTo_8 w (nI g) (nI (fr + p))) 99999 = kk
    unfold b_X4_givesTo_8
    rw [h.fr, h.n, nI_add, if_neg (nI_ge (by omega) (by omega)), nI_add]
    simp only [hzk, zgT]
    rw [zxI (by omega), h.kd hp, if_neg (fun q => d (cK.mp q))]
theorem q_lossOf {w : zW} {g fr : Nat} {P : zP} (h : PR w g fr P) (hO : Ok P) (h4 : fr + P 0 ≤ 4) (hg : g + 20 ≤ 120) (hh : P 4 < 2 ^ 30) {p : Nat} (hp : p < P 0) (wk : Bool) : f_X4_lossOf w (nI g) (nI (fr + p)) (zbi wk) = some (nI (m_loss P p wk)) := by
  obtain ⟨-, -, hs, -⟩ := hO.2.1 p hp
  unfold f_X4_lossOf
  simp only [zjn1, zjn0, zlet]
  rw [zgt (zin_nI (by omega) (by decide)), zxI (by omega), h.sz hp, q_isDay h hg hh, q_hourOn h hg]
  simp only [zbds]
  have c3 : nI (P (20 + p)) = 3 ↔ P (20 + p) = 3 := nI_eq (b := 3) (by omega) (by decide)
  have c2 : nI (P (20 + p)) = 2 ↔ P (20 + p) = 2 := nI_eq (b := 2) (by omega) (by decide)
  have hr : zrem (nI (P 4)) 2 = nI (P 4 % 2) := zrem_nI (d := 2) (by omega) (by decide) (by decide)
  have cr : nI (P 4 % 2) = 0 ↔ P 4 % 2 = 0 := zeq0 (by omega)
  rw [hr]
  simp only [c3, c2, cr, m_loss, m_more, zbi]
  have e10 : ((1 : Int32) = 0) = False := eq_false (by decide)
  generalize m_day P = dd
  cases wk <;> cases dd <;> simp only [e10, Bool.false_eq_true, if_false, if_true]
  all_goals
    by_cases d3 : P (20 + p) = 3
    · rw [if_pos d3, if_pos (Or.inl d3)]; rfl
    · rw [if_neg d3]
      by_cases d2 : P (20 + p) = 2
      · rw [if_pos d2]
        by_cases dr : P 4 % 2 = 0
        · rw [if_pos dr, if_pos (Or.inr ⟨d2, dr⟩)]; rfl
        · rw [if_neg dr, if_neg (fun q => q.elim d3 (fun q => dr q.2))]; rfl
      · rw [if_neg d2, if_neg (fun q => q.elim d3 (fun q => d2 q.1))]; rfl
theorem q_isWalking {w : zW} {g fr : Nat} {P : zP} (h : PR w g fr P) (hg : g + 20 ≤ 120) (hh : P 4 < 2 ^ 30) {k : Nat} (hk : k ≤ 3) : f_X4_isWalking w (nI g) (nI k) = some (zbi (m_walks P k)) := by
  unfold f_X4_isWalking m_walks zbi
  simp only [zjn1, zjn0]
  rw [q_isDay h hg hh]
  simp only [zbds]
  generalize m_day P = d
  rcases (show k = 0 ∨ k = 1 ∨ k = 2 ∨ k = 3 by omega) with rfl | rfl | rfl | rfl <;> cases d <;> decide
