/-! within, in; the camp's other methods -/
theorem within_eq (x lo hi : Int32) : f_X3_within x lo hi = if lo ≤ x ∧ x ≤ hi then 1 else 0 := by
  unfold f_X3_within
  simp only [zjn0]
  by_cases h1 : x < lo
  · rw [if_pos h1, if_neg (fun q => absurd h1 (Int32.not_lt.mpr q.1))]
  · rw [if_neg h1]
    by_cases h2 : hi < x
    · rw [if_pos h2, if_neg (fun q => absurd h2 (Int32.not_lt.mpr q.2))]
    · rw [if_neg h2, if_pos ⟨Int32.not_lt.mp h1, Int32.not_lt.mp h2⟩]
theorem in_within (x y z : Int32) : f_X4_in x.toInt64 y.toInt64 z.toInt64 = f_X3_within x y z := by
  have wl : ∀ a b : Int32, lg_cmp a.toInt64 b.toInt64 < 0 ↔ a < b := by
    intro a b
    have w1 : a.toInt64 < b.toInt64 ↔ a < b := by rw [Int64.lt_iff_toInt_lt, Int32.lt_iff_toInt_lt]; simp
    have w2 : b.toInt64 < a.toInt64 ↔ b < a := by rw [Int64.lt_iff_toInt_lt, Int32.lt_iff_toInt_lt]; simp
    have w3 : a.toInt64 = b.toInt64 ↔ a = b := by rw [← Int64.toInt_inj, ← Int32.toInt_inj]; simp
    unfold lg_cmp
    by_cases h1 : b < a
    · rw [if_pos (w2.mpr h1)]
      exact ⟨fun q => absurd q (by decide), fun q => absurd q (by rw [Int32.lt_iff_toInt_lt] at *; omega)⟩
    · rw [if_neg (fun q => h1 (w2.mp q))]
      by_cases h2 : a = b
      · rw [if_pos (w3.mpr h2)]
        exact ⟨fun q => absurd q (by decide), fun q => absurd q (by rw [h2, Int32.lt_iff_toInt_lt]; omega)⟩
      · rw [if_neg (fun q => h2 (w3.mp q))]
        exact ⟨fun _ => by
          rw [Int32.lt_iff_toInt_lt] at *
          have : a.toInt ≠ b.toInt := fun q => h2 (Int32.toInt_inj.mp q)
          omega, fun _ => by decide⟩
  have wg : ∀ a b : Int32, 0 < lg_cmp a.toInt64 b.toInt64 ↔ b < a := by
    intro a b
    have w2 : b.toInt64 < a.toInt64 ↔ b < a := by rw [Int64.lt_iff_toInt_lt, Int32.lt_iff_toInt_lt]; simp
    unfold lg_cmp
    by_cases h1 : b < a
    · rw [if_pos (w2.mpr h1)]
      exact ⟨fun _ => h1, fun _ => by decide⟩
    · rw [if_neg (fun q => h1 (w2.mp q))]
      refine ⟨fun q => ?_, fun q => absurd q h1⟩
      split at q
      · exact absurd q (by decide)
      · exact absurd q (by decide)
  unfold f_X4_in f_X3_within
  simp only [zjn0, wl, wg]
theorem win_t {p lo hi : Nat} (h1 : lo ≤ p) (h2 : p ≤ hi) (hh : hi < 2 ^ 31) : f_X3_within (nI p) (nI lo) (nI hi) = 1 := by
  rw [within_eq, if_pos ⟨nI_le h1 (by omega), nI_le h2 hh⟩]
theorem win_cases (x : Int32) (lo hi : Nat) (hh : hi < 2 ^ 31) : (f_X3_within x (nI lo) (nI hi) = 0) ∨ (f_X3_within x (nI lo) (nI hi) = 1 ∧ ∃ p, lo ≤ p ∧ p ≤ hi ∧ x = nI p) ∨ hi < lo := by
  rcases Nat.lt_or_ge hi lo with hlt | hge
  · exact Or.inr (Or.inr hlt)
  · rw [within_eq]
    by_cases h : nI lo ≤ x ∧ x ≤ nI hi
    · right; left
      rw [if_pos h]
      have h0 : ¬ x < 0 := by
        have := nI_pos' (n := lo) (by omega)
        rw [Int32.le_iff_toInt_le] at *
        rw [Int32.lt_iff_toInt_lt]
        omega
      obtain ⟨p, hp, rfl⟩ := nI_of h0
      exact ⟨rfl, p, (nI_leI (by omega) hp).mp h.1, (nI_leI hp (by omega)).mp h.2, rfl⟩
    · left
      rw [if_neg h]
theorem winN_cases (x : Int32) {N : Nat} (hN : N < 2 ^ 30) : (f_X3_within x 0 (nI N - 1) = 0) ∨ (f_X3_within x 0 (nI N - 1) = 1 ∧ ∃ p, p < N ∧ x = nI p) := by
  rcases Nat.eq_zero_or_pos N with h0 | h0
  · left
    subst h0
    rw [within_eq, if_neg]
    intro h
    have e : nI 0 - 1 = -1 := by decide
    rw [e] at h
    have h1 := Int32.le_iff_toInt_le.mp h.1
    have h2 := Int32.le_iff_toInt_le.mp h.2
    simp at h1 h2
    have : (-1 : Int32).toInt = -1 := by decide
    omega
  · have e : nI N - 1 = nI (N - 1) := pk_sub (b := 1) h0
    rw [e]
    rcases win_cases x 0 (N - 1) (by omega) with h | ⟨h, p, -, hp, rfl⟩ | h
    · exact Or.inl h
    · exact Or.inr ⟨h, p, by omega, rfl⟩
    · omega
theorem winN_t {p N : Nat} (hp : p < N) (hN : N < 2 ^ 30) : f_X3_within (nI p) 0 (nI N - 1) = 1 := by
  have e : nI N - 1 = nI (N - 1) := pk_sub (b := 1) (by omega)
  rw [e]
  exact win_t (Nat.zero_le _) (by omega) (by omega)
/-- a drink: the answer, the company then -/
def m_dk (P : zP) (p c : Nat) : Int32 × zP := if P (30 + p) = 0 ∨ P 5 < c then (-2, P) else if 20 < P (30 + p) + c then (-3, P) else (nI (P (30 + p) + c), pu (pu P (30 + p) (P (30 + p) + c)) 5 (P 5 - c))
theorem m_dk_ok {P : zP} (h : Ok P) {p c : Nat} (hp : p < P 0) : Ok (m_dk P p c).2 ∧ m_fix P (m_dk P p c).2 ∧ (m_dk P p c).2 4 = P 4 ∧ (m_dk P p c).2 3 = P 3 := by
  have h0 := h.1.1
  have h5 := h.1.2.2.2.2.1
  unfold m_dk
  split
  · exact ⟨h, m_fix.rf P, rfl, rfl⟩
  · split
    · exact ⟨h, m_fix.rf P, rfl, rfl⟩
    · refine ⟨(h.lev hp (by omega)).bot (by omega), (m_fix.pu P (by omega)).tr (m_fix.pu _ (by omega)), ?_, ?_⟩
      · show pu (pu P (30 + p) (P (30 + p) + c)) 5 (P 5 - c) 4 = P 4
        rw [pu_n _ _ (show (4 : Nat) ≠ 5 by decide), pu_n _ _ (show 4 ≠ 30 + p by omega)]
      · show pu (pu P (30 + p) (P (30 + p) + c)) 5 (P 5 - c) 3 = P 3
        rw [pu_n _ _ (show (3 : Nat) ≠ 5 by decide), pu_n _ _ (show 3 ≠ 30 + p by omega)]
theorem k_drinkAsAsked {w : zW} {b : Nat} {P : zP} (h : CR w b P) (hO : Ok P) {p c : Nat} (hp : p < P 0) (hc : c ≤ 20) : ∃ w', f_X0_drinkAsAsked w b (nI p) (nI c) = some ((m_dk P p c).1, w') ∧ CR w' b (m_dk P p c).2 ∧ Fr b w w' := by
  have h0 := hO.1.1
  have h5 := hO.1.2.2.2.2.1
  have hl := (hO.2.1 p hp).2.2.2
  have e10 : ((1 : Int32) = 0) = False := eq_false (by decide)
  have hz : zin (nI p) 4 = true := zin_nI (by omega) (by decide)
  have c1 : nI c ≤ nI (P 5) ↔ c ≤ P 5 := nI_leI (by omega) (by omega)
  have c2 : nI (P (30 + p) + c) ≤ 20 ↔ P (30 + p) + c ≤ 20 := nI_leI (b := 20) (by omega) (by decide)
  unfold f_X0_drinkAsAsked
  rw [h.n, winN_t hp (by omega), show f_X3_within (nI c) 0 20 = 1 from win_t (hi := 20) (Nat.zero_le _) hc (by decide), k_isDown h hO hp]
  simp only [e10, if_false, zbds, hz, zgT, zlet]
  rw [zxI (by omega), h.lv hp, h.bt, nI_add]
  simp only [c1, c2]
  unfold m_dk
  by_cases d0 : P (30 + p) = 0
  · simp only [if_pos d0, e10, if_false]
    rw [if_pos (Or.inl d0)]
    exact ⟨w, rfl, h, Fr.rf⟩
  · simp only [if_neg d0, if_true]
    by_cases d1 : c ≤ P 5
    · rw [if_pos d1, if_neg (show ¬ (P (30 + p) = 0 ∨ P 5 < c) by omega)]
      by_cases d2 : P (30 + p) + c ≤ 20
      · rw [if_pos d2, if_neg (show ¬ 20 < P (30 + p) + c by omega)]
        refine ⟨_, ?_, (h.fp h0 3 30 _ (by omega) hp).f0 9 5 _ (by omega), (Fr.up _ 3 _ _ (by decide)).tr (Fr.u0 _ _ _)⟩
        rw [zup_n _ _ _ (show b ≠ b + 3 by omega), h.bt, zsub_nI d1, zup_n _ _ _ (show b + 3 ≠ b by omega), zup_s, upd_s]
      · rw [if_neg d2, if_pos (show 20 < P (30 + p) + c by omega)]
        exact ⟨w, rfl, h, Fr.rf⟩
    · rw [if_neg d1, if_pos (show P (30 + p) = 0 ∨ P 5 < c by omega)]
      exact ⟨w, rfl, h, Fr.rf⟩
theorem k_drinkBad {w : zW} {b : Nat} {P : zP} (h : CR w b P) (a1 a2 : Int32) (hx : f_X3_within a1 0 (nI (P 0) - 1) = 0 ∨ f_X3_within a2 0 20 = 0) : f_X0_drinkAsAsked w b a1 a2 = some (-1, w) := by
  unfold f_X0_drinkAsAsked
  rw [h.n]
  by_cases d : f_X3_within a1 0 (nI (P 0) - 1) = 0
  · rw [if_pos d]
  · rw [if_neg d, if_pos (hx.resolve_left d)]
def m_only (P : zP) (p : Nat) : zP := pu (pu (pu (pu P 10 (P (10 + p))) 20 (P (20 + p))) 30 (P (30 + p))) 0 1
theorem m_only_at (P : zP) (p : Nat) : m_only P p 0 = 1 ∧ m_only P p 10 = P (10 + p) ∧ m_only P p 20 = P (20 + p) ∧ m_only P p 30 = P (30 + p) ∧ ∀ k, k ≠ 0 → k ≠ 10 → k ≠ 20 → k ≠ 30 → m_only P p k = P k := by
  unfold m_only
  refine ⟨pu_s _ _ _, ?_, ?_, ?_, fun k a b c d => ?_⟩
  · rw [pu_n _ _ (by decide), pu_n _ _ (by decide), pu_n _ _ (by decide), pu_s]
  · rw [pu_n _ _ (by decide), pu_n _ _ (by decide), pu_s]
  · rw [pu_n _ _ (by decide), pu_s]
  · rw [pu_n _ _ a, pu_n _ _ d, pu_n _ _ c, pu_n _ _ b]
theorem m_only_ok {P : zP} (h : Ok P) {p : Nat} (hp : p < P 0) : Ok (m_only P p) := by
  obtain ⟨a0, a10, a20, a30, ak⟩ := m_only_at P p
  obtain ⟨⟨h0, h1, h2, h3, h5, h6, h7, h8⟩, hq, hw⟩ := h
  refine ⟨⟨by omega, ?_, ?_, ?_, ?_, ?_, ?_, ?_⟩, fun q hqq => ?_, fun i hi => ?_⟩
  · rw [ak 1 (by decide) (by decide) (by decide) (by decide)]; exact h1
  · rw [ak 2 (by decide) (by decide) (by decide) (by decide)]; exact h2
  · rw [ak 3 (by decide) (by decide) (by decide) (by decide)]; exact h3
  · rw [ak 5 (by decide) (by decide) (by decide) (by decide)]; exact h5
  · rw [ak 6 (by decide) (by decide) (by decide) (by decide)]; exact h6
  · rw [ak 7 (by decide) (by decide) (by decide) (by decide)]; exact h7
  · rw [ak 8 (by decide) (by decide) (by decide) (by decide)]; exact h8
  · rw [a0] at hqq
    rw [show q = 0 by omega, Nat.add_zero, Nat.add_zero, Nat.add_zero, a10, a20, a30]
    exact hq p hp
  · rw [ak 1 (by decide) (by decide) (by decide) (by decide)] at hi
    rw [ak _ (by omega) (by omega) (by omega) (by omega), ak _ (by omega) (by omega) (by omega) (by omega), ak _ (by omega) (by omega) (by omega) (by omega), ak _ (by omega) (by omega) (by omega) (by omega)]
    exact hw i hi
theorem k_leaveOnly {w : zW} {b : Nat} {P : zP} (h : CR w b P) (hO : Ok P) {p : Nat} (hp : p < P 0) : ∃ w', f_X0_leaveOnly w b (nI p) = some w' ∧ CR w' b (m_only P p) ∧ Fr b w w' := by
  have h0 := hO.1.1
  obtain ⟨a0, a10, a20, a30, ak⟩ := m_only_at P p
  have hz : zin (nI p) 4 = true := zin_nI (by omega) (by decide)
  have g1 := h.kd hp
  have g2 := h.sz hp
  have g3 := h.lv hp
  refine ⟨zup (zup (zup (zup w (b + 1) 0 (nI (P (10 + p)))) (b + 2) 0 (nI (P (20 + p)))) (b + 3) 0 (nI (P (30 + p)))) b 0 1, ?_, ?_, (((Fr.up _ 1 _ _ (by decide)).tr (Fr.up _ 2 _ _ (by decide))).tr (Fr.up _ 3 _ _ (by decide))).tr (Fr.u0 _ _ _)⟩
  · unfold f_X0_leaveOnly
    simp only [zlet, hz, zgT]
    rw [zxI (by omega), zup_n _ _ _ (show b + 3 ≠ b + 2 by omega), zup_n _ _ _ (show b + 3 ≠ b + 1 by omega), zup_n _ _ _ (show b + 2 ≠ b + 1 by omega), g1, g2, g3]
  · obtain ⟨⟨p0, p4, p9, p10, p11, p12, p13, p14, p15⟩, -, pw⟩ := h
    refine ⟨?_, fun q hq => ?_, fun i hi => ?_⟩
    · rw [zup_s, zup_n _ _ _ (show b ≠ b + 3 by omega), zup_n _ _ _ (show b ≠ b + 2 by omega), zup_n _ _ _ (show b ≠ b + 1 by omega), a0, ak 1 (by decide) (by decide) (by decide) (by decide), ak 5 (by decide) (by decide) (by decide) (by decide), ak 2 (by decide) (by decide) (by decide) (by decide), ak 3 (by decide) (by decide) (by decide) (by decide), ak 4 (by decide) (by decide) (by decide) (by decide), ak 6 (by decide) (by decide) (by decide) (by decide), ak 7 (by decide) (by decide) (by decide) (by decide), ak 8 (by decide) (by decide) (by decide) (by decide), upd_s, upd_n _ _ (by decide), upd_n _ _ (by decide), upd_n _ _ (by decide), upd_n _ _ (by decide), upd_n _ _ (by decide), upd_n _ _ (by decide), upd_n _ _ (by decide), upd_n _ _ (by decide)]
      exact ⟨rfl, p4, p9, p10, p11, p12, p13, p14, p15⟩
    · rw [a0] at hq
      rw [show q = 0 by omega, Nat.add_zero, Nat.add_zero, Nat.add_zero, a10, a20, a30]
      simp only [zup, show b + 1 ≠ b by omega, show b + 1 ≠ b + 3 by omega, show b + 1 ≠ b + 2 by omega, show b + 2 ≠ b by omega, show b + 2 ≠ b + 3 by omega, show b + 2 ≠ b + 1 by omega, show b + 3 ≠ b by omega, if_false, if_true, upd_s]
      exact ⟨trivial, trivial, trivial⟩
    · rw [ak 1 (by decide) (by decide) (by decide) (by decide)] at hi
      rw [ak _ (by omega) (by omega) (by omega) (by omega), ak _ (by omega) (by omega) (by omega) (by omega), ak _ (by omega) (by omega) (by omega) (by omega), ak _ (by omega) (by omega) (by omega) (by omega)]
      simp only [zup, show b + 4 ≠ b by omega, show b + 4 ≠ b + 3 by omega, show b + 4 ≠ b + 2 by omega, show b + 4 ≠ b + 1 by omega, show b + 5 ≠ b by omega, show b + 5 ≠ b + 3 by omega, show b + 5 ≠ b + 2 by omega, show b + 5 ≠ b + 1 by omega, show b + 6 ≠ b by omega, show b + 6 ≠ b + 3 by omega, show b + 6 ≠ b + 2 by omega, show b + 6 ≠ b + 1 by omega, show b + 7 ≠ b by omega, show b + 7 ≠ b + 3 by omega, show b + 7 ≠ b + 2 by omega, show b + 7 ≠ b + 1 by omega, if_false]
      exact pw i hi
def m_sum (P : zP) : Nat → Nat
  | 0 => 0
  | n + 1 => m_sum P n + P (30 + n)
def m_wc (P : zP) : Nat → Nat
  | 0 => 0
  | n + 1 => m_wc P n + (if P (70 + n) = 0 then 0 else 1)
theorem k_allLevels {w : zW} {b : Nat} {P : zP} (h : CR w b P) (hO : Ok P) : f_X0_allLevels w b = some (nI (m_sum P (P 0))) := by
  have h0 := hO.1.1
  have key : ∀ (k i n : Nat), i + k = P 0 → k < n → zfix2 (b_X0_allLevels_4 w b) n (nI (m_sum P i)) (nI i) = some (nI (m_sum P (P 0))) := by
    intro k
    induction k with
    | zero =>
      intro i n hi hn
      obtain ⟨n, rfl⟩ : ∃ m, n = m + 1 := ⟨n - 1, by omega⟩
      show b_X0_allLevels_4 w b (zfix2 _ n) _ _ = _
      generalize zfix2 (b_X0_allLevels_4 w b) n = kk
      unfold b_X0_allLevels_4
      rw [h.n, if_pos (nI_le (by omega) (by omega)), show i = P 0 by omega]
    | succ k ih =>
      intro i n hi hn
      obtain ⟨n, rfl⟩ : ∃ m, n = m + 1 := ⟨n - 1, by omega⟩
      have h1 := ih (i + 1) n (by omega) (by omega)
      show b_X0_allLevels_4 w b (zfix2 _ n) _ _ = _
      generalize zfix2 (b_X0_allLevels_4 w b) n = kk at h1 ⊢
      unfold b_X0_allLevels_4
      simp only [zlet]
      rw [h.n, if_neg (nI_ge (by omega) (by omega)), zgt (zin_nI (by omega) (by decide)), zxI (by omega), h.lv (show i < P 0 by omega), nI_add, show nI i + 1 = nI (i + 1) from nI_1 i]
      exact h1
  exact key (P 0) 0 100000 (by omega) (by omega)
theorem k_wetWells {w : zW} {b : Nat} {P : zP} (h : CR w b P) (hO : Ok P) : f_X0_wetWells w b = some (nI (m_wc P (P 1))) := by
  have h0 := hO.1.2.1
  have key : ∀ (k i n : Nat), i + k = P 1 → k < n → zfix2 (b_X0_wetWells_4 w b) n (nI (m_wc P i)) (nI i) = some (nI (m_wc P (P 1))) := by
    intro k
    induction k with
    | zero =>
      intro i n hi hn
      obtain ⟨n, rfl⟩ : ∃ m, n = m + 1 := ⟨n - 1, by omega⟩
      show b_X0_wetWells_4 w b (zfix2 _ n) _ _ = _
      generalize zfix2 (b_X0_wetWells_4 w b) n = kk
      unfold b_X0_wetWells_4
      rw [h.wl, if_pos (nI_le (by omega) (by omega)), show i = P 1 by omega]
    | succ k ih =>
      intro i n hi hn
      obtain ⟨n, rfl⟩ : ∃ m, n = m + 1 := ⟨n - 1, by omega⟩
      have h1 := ih (i + 1) n (by omega) (by omega)
      have hw := (hO.2.2 i (by omega)).2.2.2.2.2
      have cw : nI (P (70 + i)) = 0 ↔ P (70 + i) = 0 := zeq0 (by omega)
      show b_X0_wetWells_4 w b (zfix2 _ n) _ _ = _
      generalize zfix2 (b_X0_wetWells_4 w b) n = kk at h1 ⊢
      unfold b_X0_wetWells_4
      simp only [zlet, zjn1, m_wc] at h1 ⊢
      rw [h.wl, if_neg (nI_ge (by omega) (by omega)), zgt (zin_nI (by omega) (by decide)), zxI (by omega), h.w7 (show i < P 1 by omega), show nI i + 1 = nI (i + 1) from nI_1 i]
      by_cases d : P (70 + i) = 0
      · rw [if_pos (cw.mpr d), show nI (m_wc P i) + 0 = nI (m_wc P i + 0) from nI_add _ 0]
        rw [if_pos d] at h1
        exact h1
      · rw [if_neg (fun q => d (cw.mp q)), show nI (m_wc P i) + 1 = nI (m_wc P i + 1) from nI_1 _]
        rw [if_neg d] at h1
        exact h1
  exact key (P 1) 0 100000 (by omega) (by omega)
