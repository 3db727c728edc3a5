/-! the camp's methods -/
theorem k_isDown {w : zW} {b : Nat} {P : zP} (h : CR w b P) (hO : Ok P) {p : Nat} (hp : p < P 0) : f_X0_isDown w b (nI p) = some (if P (30 + p) = 0 then 1 else 0) := by
  have h0 := hO.1.1
  have hl := (hO.2.1 p hp).2.2.2
  unfold f_X0_isDown
  rw [zgt (zin_nI (by omega) (by decide)), zxI (by omega), h.lv hp]
  by_cases e : P (30 + p) = 0
  · rw [if_pos ((zeq0 (by omega)).mpr e), if_pos e]
  · rw [if_neg (fun q => e ((zeq0 (by omega)).mp q)), if_neg e]
theorem k_standing {w : zW} {b : Nat} {P : zP} (h : CR w b P) (hO : Ok P) : f_X0_standing w b = some (nI (m_stand P)) := by
  have h0 := hO.1.1
  have key : ∀ (k i n : Nat), i + k = P 0 → k < n → zfix2 (b_X0_standing_4 w b) n (nI (m_cnt P i)) (nI i) = some (nI (m_stand P)) := by
    intro k
    induction k with
    | zero =>
      intro i n hi hn
      obtain ⟨n, rfl⟩ : ∃ m, n = m + 1 := ⟨n - 1, by omega⟩
      show b_X0_standing_4 w b (zfix2 _ n) _ _ = _
      generalize zfix2 (b_X0_standing_4 w b) n = kk
      unfold b_X0_standing_4
      rw [h.n, if_pos (nI_le (by omega) (by omega))]
      unfold m_stand
      rw [show i = P 0 by omega]
    | succ k ih =>
      intro i n hi hn
      obtain ⟨n, rfl⟩ : ∃ m, n = m + 1 := ⟨n - 1, by omega⟩
      have h1 := ih (i + 1) n (by omega) (by omega)
      show b_X0_standing_4 w b (zfix2 _ n) _ _ = _
      generalize zfix2 (b_X0_standing_4 w b) n = kk at h1 ⊢
      unfold b_X0_standing_4
      rw [h.n, if_neg (nI_ge (by omega) (by omega)), k_isDown h hO (by omega), zbds]
      by_cases e : P (30 + i) = 0
      · simp only [zjn1, zlet, m_cnt, if_pos e] at h1 ⊢
        rw [if_neg (by decide), show nI i + 1 = nI (i + 1) from nI_1 i, show nI (m_cnt P i) + 0 = nI (m_cnt P i + 0) from nI_add _ 0]
        exact h1
      · simp only [zjn1, zlet, m_cnt, if_neg e] at h1 ⊢
        rw [if_pos (by decide), show nI i + 1 = nI (i + 1) from nI_1 i, show nI (m_cnt P i) + 1 = nI (m_cnt P i + 1) from nI_1 _]
        exact h1
  exact key (P 0) 0 100000 (by omega) (by omega)
theorem k_isAtGoal {w : zW} {b : Nat} {P : zP} (h : CR w b P) (hO : Ok P) : f_X0_isAtGoal w b = if P 2 ≤ P 3 then 1 else 0 := by
  have h2 := hO.1.2.2.1
  have h3 := hO.1.2.2.2.1
  unfold f_X0_isAtGoal
  rw [h.ml, h.gl]
  by_cases e : P 2 ≤ P 3
  · rw [if_neg (fun q => absurd ((nI_ltI (by omega) (by omega)).mp q) (by omega)), if_pos e]
  · rw [if_pos ((nI_ltI (by omega) (by omega)).mpr (by omega)), if_neg e]
theorem k_isDay {w : zW} {b : Nat} {P : zP} (h : CR w b P) (hh : P 4 < 2 ^ 30) : f_X0_isDay w b = if m_day P = true then 1 else 0 := by
  unfold f_X0_isDay m_day
  simp only [zlet, zjn0]
  rw [h.hr, show (24 : Int32) = nI 24 from rfl, zrem_nI (by omega) (by decide) (by decide)]
  have hm : P 4 % 24 < 24 := Nat.mod_lt _ (by decide)
  have e1 : nI (P 4 % 24) < 6 ↔ P 4 % 24 < 6 := nI_ltI (b := 6) (by omega) (by decide)
  have e2 : (17 : Int32) < nI (P 4 % 24) ↔ 17 < P 4 % 24 := nI_ltI (a := 17) (by decide) (by omega)
  by_cases c1 : P 4 % 24 < 6
  · rw [if_pos (e1.mpr c1), if_neg (by simp; omega)]
  · rw [if_neg (fun q => c1 (e1.mp q))]
    by_cases c2 : 17 < P 4 % 24
    · rw [if_pos (e2.mpr c2), if_neg (by simp; omega)]
    · rw [if_neg (fun q => c2 (e2.mp q)), if_pos (by simp; omega)]
theorem k_pourer {w : zW} {b : Nat} {P : zP} (h : CR w b P) (hO : Ok P) (hh : P 4 < 2 ^ 30) (hn : 0 < P 0) : f_X0_pourer w b = some (nI (P 4 % P 0)) := by
  have h0 := hO.1.1
  unfold f_X0_pourer
  rw [h.n, if_neg (nI_nle hn (by omega)), zgt (by simp [znz]; exact nI_ne0 hn (by omega)), h.hr, zrem_nI (by omega) hn (by omega)]
theorem k_pourer0 {w : zW} {b : Nat} {P : zP} (h : CR w b P) (hn : P 0 = 0) : f_X0_pourer w b = some (-4) := by
  unfold f_X0_pourer
  rw [h.n, hn, if_pos (by decide)]
theorem k_wanted {w : zW} {b : Nat} {P : zP} (h : CR w b P) (hO : Ok P) (hh : P 4 < 2 ^ 30) {p : Nat} (hp : p < P 0) : f_X0_wanted w b (nI p) = some (nI (if P (30 + p) = 0 then 0 else m_want P p)) := by
  have h0 := hO.1.1
  obtain ⟨hk, -, -, hl⟩ := hO.2.1 p hp
  unfold f_X0_wanted
  rw [k_isDown h hO hp, zbds]
  by_cases e : P (30 + p) = 0
  · rw [if_pos e, if_neg (by decide), if_pos e]; rfl
  · rw [if_neg e, if_pos rfl, if_neg e, zgt (zin_nI (by omega) (by decide)), zxI (by omega), h.kd hp, h.lv hp]
    simp only [zlet]
    unfold m_want
    have c1 : nI (P (10 + p)) = 1 ↔ P (10 + p) = 1 := nI_eq (b := 1) (by omega) (by decide)
    have c2 : nI (P (10 + p)) = 2 ↔ P (10 + p) = 2 := nI_eq (b := 2) (by omega) (by decide)
    have c3 : nI (P (10 + p)) = 3 ↔ P (10 + p) = 3 := nI_eq (b := 3) (by omega) (by decide)
    by_cases d1 : P (10 + p) = 1
    · rw [if_pos (c1.mpr d1), if_pos d1, zgt (zin_nI (by omega) (by decide)), show (10 : Int32) = nI 10 from rfl, zmax_sub (by omega) (by omega)]
    · rw [if_neg (fun q => d1 (c1.mp q)), if_neg d1]
      by_cases d2 : P (10 + p) = 2
      · rw [if_pos (c2.mpr d2), if_pos d2, k_pourer h hO hh (by omega), zbds]
        have hm : P 4 % P 0 < P 0 := Nat.mod_lt _ (by omega)
        by_cases d4 : P 4 % P 0 = p
        · rw [if_pos ((nI_eq (by omega) (by omega)).mpr d4), if_pos d4]; rfl
        · rw [if_neg (fun q => d4 ((nI_eq (by omega) (by omega)).mp q)), if_neg d4]; rfl
      · rw [if_neg (fun q => d2 (c2.mp q)), if_neg d2]
        by_cases d3 : P (10 + p) = 3
        · rw [if_pos (c3.mpr d3), if_pos d3, zgt (zin_nI (by omega) (by decide))]
          have c4 : (4 : Int32) < nI (P (30 + p)) ↔ 4 < P (30 + p) := nI_ltI (a := 4) (by decide) (by omega)
          by_cases d4 : P (30 + p) ≤ 4
          · rw [if_neg (fun q => absurd (c4.mp q) (by omega)), if_pos d4]; rfl
          · rw [if_pos (c4.mpr (by omega)), if_neg d4]; rfl
        · rw [if_neg (fun q => d3 (c3.mp q)), if_neg d3]; rfl
theorem k_drinkerFor {w : zW} {b : Nat} {P : zP} (h : CR w b P) (hO : Ok P) {p : Nat} (hp : p < P 0) : f_X0_drinkerFor w b (nI p) = some (nI (m_give P p)) := by
  have h0 := hO.1.1
  obtain ⟨hk, -, -, hl⟩ := hO.2.1 p hp
  have key : ∀ (k i n : Nat), i + k = P 0 → k < n → zfix2 (b_X0_drinkerFor_14 w b) n (nI (m_giveF P p i)) (nI i) = some (nI (m_giveF P p (P 0))) := by
    intro k
    induction k with
    | zero =>
      intro i n hi hn
      obtain ⟨n, rfl⟩ : ∃ m, n = m + 1 := ⟨n - 1, by omega⟩
      show b_X0_drinkerFor_14 w b (zfix2 _ n) _ _ = _
      generalize zfix2 (b_X0_drinkerFor_14 w b) n = kk
      unfold b_X0_drinkerFor_14
      rw [h.n, if_pos (nI_le (by omega) (by omega)), show i = P 0 by omega]
    | succ k ih =>
      intro i n hi hn
      obtain ⟨n, rfl⟩ : ∃ m, n = m + 1 := ⟨n - 1, by omega⟩
      have hg := m_giveF_lt P hp i (by omega)
      have hli := (hO.2.1 i (by omega)).2.2.2
      have hlg := (hO.2.1 _ hg).2.2.2
      have h1 := ih (i + 1) n (by omega) (by omega)
      show b_X0_drinkerFor_14 w b (zfix2 _ n) _ _ = _
      generalize zfix2 (b_X0_drinkerFor_14 w b) n = kk at h1 ⊢
      unfold b_X0_drinkerFor_14
      rw [h.n, if_neg (nI_ge (by omega) (by omega)), k_isDown h hO (by omega), zbds]
      simp only [zjn1, zlet, m_giveF] at h1 ⊢
      rw [show nI i + 1 = nI (i + 1) from nI_1 i]
      by_cases e : P (30 + i) = 0
      · rw [if_pos e, if_neg (by decide)]
        rw [if_neg (fun q => q.1 e)] at h1
        exact h1
      · rw [if_neg e, if_pos rfl, zgt (zin_nI (by omega) (by decide)), zgt (zin_nI (by omega) (by decide)), zxI (by omega), zxI (by omega), h.lv hg, h.lv (show i < P 0 by omega)]
        by_cases e2 : P (30 + i) < P (30 + m_giveF P p i)
        · rw [if_neg (nI_ge e2 (by omega))]
          rw [if_pos ⟨e, e2⟩] at h1
          exact h1
        · rw [if_pos (nI_le (by omega) (by omega))]
          rw [if_neg (fun q => e2 q.2)] at h1
          exact h1
  unfold f_X0_drinkerFor m_give
  rw [zgt (zin_nI (by omega) (by decide)), zxI (by omega), h.kd hp]
  have c : nI (P (10 + p)) = 4 ↔ P (10 + p) = 4 := nI_eq (b := 4) (by omega) (by decide)
  by_cases d : P (10 + p) = 4
  · rw [if_pos (c.mpr d), if_pos d]
    exact key (P 0) 0 100000 (by omega) (by omega)
  · rw [if_neg (fun q => d (c.mp q)), if_neg d]
def zbi (x : Bool) : Int32 := if x = true then 1 else 0
theorem k_loss {w : zW} {b : Nat} {P : zP} (h : CR w b P) (hO : Ok P) (hh : P 4 < 2 ^ 30) {p : Nat} (hp : p < P 0) (wk : Bool) : f_X0_loss w b (nI p) (zbi wk) = some (nI (if P (30 + p) = 0 then 0 else m_loss P p wk)) := by
  have h0 := hO.1.1
  obtain ⟨-, -, hs, hl⟩ := hO.2.1 p hp
  unfold f_X0_loss
  rw [k_isDown h hO hp, zbds]
  by_cases e : P (30 + p) = 0
  · rw [if_pos e, if_neg (by decide), if_pos e]; rfl
  · rw [if_neg e, if_pos rfl, if_neg e]
    simp only [zjn1, zjn0, zlet]
    have hz : zin (nI p) 4 = true := zin_nI (by omega) (by decide)
    simp only [hz, zgT]
    rw [k_isDay h hh, zxI (by omega), h.sz hp, h.hr]
    have c3 : nI (P (20 + p)) = 3 ↔ P (20 + p) = 3 := nI_eq (b := 3) (by omega) (by decide)
    have c2 : nI (P (20 + p)) = 2 ↔ P (20 + p) = 2 := nI_eq (b := 2) (by omega) (by decide)
    have hr : zrem (nI (P 4)) 2 = nI (P 4 % 2) := zrem_nI (d := 2) (by omega) (by decide) (by decide)
    have cr : nI (P 4 % 2) = 0 ↔ P 4 % 2 = 0 := zeq0 (by omega)
    rw [hr]
    simp only [c3, c2, cr, m_loss, m_more, zbi]
    have e10 : ((1 : Int32) = 0) = False := eq_false (by decide)
    cases wk <;> cases hd : m_day P <;> simp only [e10, Bool.false_eq_true, if_false, if_true]
    all_goals
      by_cases d3 : P (20 + p) = 3
      · rw [if_pos d3, if_pos (Or.inl d3)]; rfl
      · rw [if_neg d3]
        by_cases d2 : P (20 + p) = 2
        · rw [if_pos d2]
          by_cases dr : P 4 % 2 = 0
          · rw [if_pos dr, if_pos (Or.inr ⟨d2, dr⟩)]; rfl
          · rw [if_neg dr, if_neg (fun q => q.elim d3 (fun q => dr q.2))]; rfl
        · rw [if_neg d2, if_neg (fun q => q.elim d3 (fun q => d2 q.1))]; rfl
theorem k_walksBy {w : zW} {b : Nat} {P : zP} (h : CR w b P) (hh : P 4 < 2 ^ 30) {k : Nat} (hk : k ≤ 3) : f_X0_walksBy w b (nI k) = zbi (m_walks P k) := by
  unfold f_X0_walksBy m_walks zbi
  rw [k_isDay h hh]
  rcases (show k = 0 ∨ k = 1 ∨ k = 2 ∨ k = 3 by omega) with rfl | rfl | rfl | rfl <;> cases hd : m_day P <;> simp <;> first | rfl | decide
