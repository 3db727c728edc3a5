/-! who drinks how -/
def SR (w : zW) (n : Nat) (hh cc : Nat → Nat) : Prop := n ≤ 6 ∧ w 0 11 = nI n ∧ w 56 30 = nI n ∧ ∀ i, i < n → 1 ≤ hh i ∧ hh i ≤ 24 ∧ cc i ≤ 60 ∧ w 45 i = nI (hh i) ∧ w 66 (2 * i) = nI (hh i) ∧ w 46 i = nI (cc i) ∧ w 66 (2 * i + 1) = nI (cc i)
theorem JS.sr {w : zW} (h : JS w) : ∃ n hh cc, SR w n hh cc := by
  obtain ⟨n, h1, h2, h3, h4⟩ := h
  refine ⟨n, fun i => zx (w 45 i), fun i => zx (w 46 i), h1, h2, h3, fun i hi => ?_⟩
  obtain ⟨a, b, a1, a2, a3, a4, a5, a6, a7⟩ := h4 i hi
  have e1 : zx (w 45 i) = a := by rw [a4]; exact zxI (by omega)
  have e2 : zx (w 46 i) = b := by rw [a6]; exact zxI (by omega)
  show 1 ≤ zx (w 45 i) ∧ zx (w 45 i) ≤ 24 ∧ zx (w 46 i) ≤ 60 ∧ w 45 i = nI (zx (w 45 i)) ∧ w 66 (2 * i) = nI (zx (w 45 i)) ∧ w 46 i = nI (zx (w 46 i)) ∧ w 66 (2 * i + 1) = nI (zx (w 46 i))
  rw [e1, e2]
  exact ⟨a1, a2, a3, a4, a5, a6, a7⟩
theorem SR.q {w w1 : zW} {n : Nat} {hh cc : Nat → Nat} (h : SR w n hh cc) (hf : zFQ w w1) : SR w1 n hh cc := by
  unfold SR
  rw [hf 0 (by decide), hf 56 (by decide), hf 45 (by decide), hf 66 (by decide), hf 46 (by decide)]
  exact h
theorem SR.m {w w1 : zW} {n : Nat} {hh cc : Nat → Nat} (h : SR w n hh cc) (hf : zMQ w w1) : SR w1 n hh cc := by
  unfold SR
  rw [hf.1 0 (by decide) (by decide), hf.2.2 30 (by decide), hf.1 45 (by decide) (by decide), hf.1 66 (by decide) (by decide), hf.1 46 (by decide) (by decide)]
  exact h
theorem zmax_nI {a b : Nat} (ha : a < 2 ^ 31) (hb : b < 2 ^ 31) : zmax (nI a) (nI b) = nI (max a b) := by
  unfold zmax
  by_cases h : a < b
  · rw [if_pos ((nI_ltI ha hb).mpr h), Nat.max_eq_right (by omega)]
  · rw [if_neg (fun q => h ((nI_ltI ha hb).mp q)), Nat.max_eq_left (by omega)]
def m_lh (hh : Nat → Nat) : Nat → Nat
  | 0 => 0
  | i + 1 => max (m_lh hh i) (hh i)
theorem m_lh_ge (hh : Nat → Nat) : ∀ n i, i < n → hh i ≤ m_lh hh n
  | 0, i, h => absurd h (by omega)
  | n + 1, i, h => by
    have := m_lh_ge hh n i
    simp only [m_lh]
    by_cases e : i = n
    · subst e; omega
    · have := this (by omega); omega
theorem m_lh_le (hh : Nat → Nat) : ∀ n, (∀ i, i < n → hh i ≤ 24) → m_lh hh n ≤ 24
  | 0, _ => by simp only [m_lh]; omega
  | n + 1, h => by
    have h1 := m_lh_le hh n (fun i hi => h i (by omega))
    have h2 := h n (by omega)
    simp only [m_lh]
    omega
theorem k_lastHour {w : zW} {n : Nat} {hh cc : Nat → Nat} (h : SR w n hh cc) : f_X3_lastHourSeen w = some (nI (m_lh hh n)) := by
  obtain ⟨h1, h2, -, h4⟩ := h
  have key : ∀ (k t nn : Nat), t + k = n → k < nn → zfix2 (b_X3_lastHourSeen_4 w) nn (nI (m_lh hh t)) (nI t) = some (nI (m_lh hh n)) := by
    intro k
    induction k with
    | zero =>
      intro t nn ht hn
      obtain ⟨nn, rfl⟩ : ∃ m, nn = m + 1 := ⟨nn - 1, by omega⟩
      show b_X3_lastHourSeen_4 _ (zfix2 _ nn) _ _ = _
      generalize zfix2 (b_X3_lastHourSeen_4 w) nn = kk
      unfold b_X3_lastHourSeen_4
      rw [h2, if_pos (nI_le (by omega) (by omega)), show t = n by omega]
    | succ k ih =>
      intro t nn ht hn
      obtain ⟨nn, rfl⟩ : ∃ m, nn = m + 1 := ⟨nn - 1, by omega⟩
      have g1 := ih (t + 1) nn (by omega) (by omega)
      obtain ⟨a1, a2, a3, a4, -⟩ := h4 t (by omega)
      have hl := m_lh_le hh t (fun i hi => (h4 i (by omega)).2.1)
      show b_X3_lastHourSeen_4 _ (zfix2 _ nn) _ _ = _
      generalize zfix2 (b_X3_lastHourSeen_4 w) nn = kk at g1 ⊢
      unfold b_X3_lastHourSeen_4
      simp only [zletE]
      rw [h2, if_neg (nI_ge (by omega) (by omega)), zgt (zin_nI (by omega) (by decide)), zxI (by omega), a4, zmax_nI (by omega) (by omega), show nI t + 1 = nI (t + 1) from nI_1 _]
      exact g1
  exact key n 0 100000 (by omega) (by omega)
def m_ob (hh cc : Nat → Nat) (t b : Nat) : Nat → Nat → Bool
  | 0, _ => true
  | r + 1, i => (decide (hh i ≠ t) || decide (cc i = b)) && m_ob hh cc t b r (i + 1)
theorem m_ob_t (hh cc : Nat → Nat) (t b : Nat) : ∀ r i, (∀ k, k < i + r → hh k < t) → m_ob hh cc t b r i = true
  | 0, _, _ => rfl
  | r + 1, i, h => by
    have h1 := h i (by omega)
    have h2 := m_ob_t hh cc t b r (i + 1) (fun k hk => h k (by omega))
    simp only [m_ob]
    rw [h2, decide_eq_true (show hh i ≠ t by omega)]
    rfl
theorem k_behind {w : zW} {n t : Nat} {hh cc : Nat → Nat} {P : zP} (h : SR w n hh cc) (hc : CR w 10 P) (hO : Ok P) (ht : t ≤ 24) : f_X3_isAsSeenBehind w (nI t) = some (zbi (m_ob hh cc t (P 5) n 0)) := by
  obtain ⟨h1, h2, -, h4⟩ := h
  have b5 := hO.1.2.2.2.2.1
  have key : ∀ (k i nn : Nat), i + k = n → k < nn → zfix1 (b_X3_isAsSeenBehind_2 w (nI t)) nn (nI i) = some (zbi (m_ob hh cc t (P 5) k i)) := by
    intro k
    induction k with
    | zero =>
      intro i nn hi hn
      obtain ⟨nn, rfl⟩ : ∃ m, nn = m + 1 := ⟨nn - 1, by omega⟩
      show b_X3_isAsSeenBehind_2 _ _ (zfix1 _ nn) _ = _
      generalize zfix1 (b_X3_isAsSeenBehind_2 w (nI t)) nn = kk
      unfold b_X3_isAsSeenBehind_2
      rw [h2, if_pos (nI_le (by omega) (by omega))]
      rfl
    | succ k ih =>
      intro i nn hi hn
      obtain ⟨nn, rfl⟩ : ∃ m, nn = m + 1 := ⟨nn - 1, by omega⟩
      have g1 := ih (i + 1) nn (by omega) (by omega)
      obtain ⟨a1, a2, a3, a4, -, a6, -⟩ := h4 i (by omega)
      have hz : zin (nI i) 6 = true := zin_nI (by omega) (by decide)
      have hx : zx (nI i) = i := zxI (by omega)
      have ct : nI (hh i) = nI t ↔ hh i = t := nI_eq (by omega) (by omega)
      have cb : nI (cc i) = nI (P 5) ↔ cc i = P 5 := nI_eq (by omega) (by omega)
      show b_X3_isAsSeenBehind_2 _ _ (zfix1 _ nn) _ = _
      generalize zfix1 (b_X3_isAsSeenBehind_2 w (nI t)) nn = kk at g1 ⊢
      unfold b_X3_isAsSeenBehind_2
      simp only [zletE, zjn0E, hz, zgTE, hx]
      rw [h2, if_neg (nI_ge (by omega) (by omega)), a4, a6, hc.bt, show nI i + 1 = nI (i + 1) from nI_1 _, g1]
      simp only [m_ob]
      by_cases d1 : hh i = t
      · rw [if_pos (ct.mpr d1), decide_eq_false (show ¬ hh i ≠ t from fun q => q d1), Bool.false_or]
        by_cases d2 : cc i = P 5
        · rw [if_pos (cb.mpr d2), decide_eq_true d2, Bool.true_and]
        · rw [if_neg (fun q => d2 (cb.mp q)), decide_eq_false d2, Bool.false_and]
          rfl
      · rw [if_neg (fun q => d1 (ct.mp q)), decide_eq_true (show hh i ≠ t from d1), Bool.true_or, Bool.true_and]
  exact key n 0 100000 (by omega) (by omega)
theorem q_obL {w : zW} {n t : Nat} {hh cc : Nat → Nat} {P : zP} (h : SR w n hh cc) (hc : PR w 80 0 P) (hO : Ok P) (ht : t ≤ 24) (j : Int32 → Option (Int32 × zW)) : ∀ (k i nn : Nat) (b : Bool), i + k = n → k < nn → zfix2 (b_X4_isAsSeen_69 (nI t) w j) nn (zbi b) (nI i) = j (zbi (b && m_ob hh cc t (P 5) k i)) := by
  obtain ⟨h1, -, h2, h4⟩ := h
  have b5 := hO.1.2.2.2.2.1
  have hb88 : w 57 88 = nI (P 5) := hc.bt
  intro k
  induction k with
  | zero =>
    intro i nn b hi hn
    obtain ⟨nn, rfl⟩ : ∃ m, nn = m + 1 := ⟨nn - 1, by omega⟩
    show b_X4_isAsSeen_69 _ _ _ (zfix2 _ nn) _ _ = _
    generalize zfix2 (b_X4_isAsSeen_69 (nI t) w j) nn = kk
    unfold b_X4_isAsSeen_69
    rw [h2, if_pos (nI_le (by omega) (by omega))]
    simp only [m_ob, Bool.and_true]
  | succ k ih =>
    intro i nn b hi hn
    obtain ⟨nn, rfl⟩ : ∃ m, nn = m + 1 := ⟨nn - 1, by omega⟩
    have g1 := fun b => ih (i + 1) nn b (by omega) (by omega)
    obtain ⟨a1, a2, a3, -, a5, -, a7⟩ := h4 i (by omega)
    have e2 : (2 : Int32) * nI i = nI (2 * i) := pk_mul 2 i
    have e21 : nI (2 * i) + 1 = nI (2 * i + 1) := nI_1 _
    have hz : zin (nI (2 * i)) 12 = true := zin_nI (by omega) (by decide)
    have hx : zx (nI (2 * i)) = 2 * i := zxI (by omega)
    have hz1 : zin (nI (2 * i + 1)) 12 = true := zin_nI (by omega) (by decide)
    have hx1 : zx (nI (2 * i + 1)) = 2 * i + 1 := zxI (by omega)
    have ct : nI (hh i) = nI t ↔ hh i = t := nI_eq (by omega) (by omega)
    have cb : nI (cc i) = nI (P 5) ↔ cc i = P 5 := nI_eq (by omega) (by omega)
    show b_X4_isAsSeen_69 _ _ _ (zfix2 _ nn) _ _ = _
    generalize zfix2 (b_X4_isAsSeen_69 (nI t) w j) nn = kk at g1 ⊢
    have g0 : kk 0 (nI (i + 1)) = j (zbi (false && m_ob hh cc t (P 5) k (i + 1))) := g1 false
    have g2 : kk 1 (nI (i + 1)) = j (zbi (true && m_ob hh cc t (P 5) k (i + 1))) := g1 true
    unfold b_X4_isAsSeen_69
    rw [e2, e21]
    simp only [zletE, zjn0E, zjn1E, hz, zgTE, hx, hz1, hx1]
    rw [h2, if_neg (nI_ge (by omega) (by omega)), a5, a7, hb88, show nI i + 1 = nI (i + 1) from nI_1 _, g0, g2]
    simp only [m_ob]
    cases b with
    | false =>
      rw [if_pos (show zbi false = 0 from rfl)]
      simp only [Bool.false_and]
    | true =>
      rw [if_neg (show ¬ zbi true = 0 from n10)]
      by_cases d1 : hh i = t
      · rw [if_pos (ct.mpr d1), decide_eq_false (show ¬ hh i ≠ t from fun q => q d1), Bool.false_or]
        by_cases d2 : cc i = P 5
        · rw [if_pos (cb.mpr d2), decide_eq_true d2, Bool.true_and, Bool.true_and]
        · rw [if_neg (fun q => d2 (cb.mp q)), decide_eq_false d2, Bool.false_and, Bool.true_and]
      · rw [if_neg (fun q => d1 (ct.mp q)), decide_eq_true (show hh i ≠ t from d1), Bool.true_or, Bool.true_and, Bool.true_and]
def m_as (plan n : Nat) (hh cc : Nat → Nat) : Nat → Nat → zP → Bool
  | 0, _, _ => true
  | k + 1, t, P => m_ob hh cc t (m_hour P (m_walks P plan) 5) n 0 && m_as plan n hh cc k (t + 1) (m_hour P (m_walks P plan))
theorem m_as_t (plan n : Nat) (hh cc : Nat → Nat) : ∀ (k t : Nat) (P : zP), (∀ i, i < n → hh i < t) → m_as plan n hh cc k t P = true
  | 0, _, _, _ => rfl
  | k + 1, t, P, h => by
    simp only [m_as]
    rw [m_ob_t hh cc t _ n 0 (fun i hi => h i (by omega)), m_as_t plan n hh cc k (t + 1) _ (fun i hi => by have := h i hi; omega)]
    rfl
theorem m_as_r (plan n : Nat) (hh cc : Nat → Nat) (r : Nat) : ∀ (k t : Nat) (P : zP), (∀ i, i < n → hh i < t + k) → m_as plan n hh cc (k + r) t P = m_as plan n hh cc k t P
  | 0, t, P, h => by
    rw [Nat.zero_add, m_as_t plan n hh cc r t P h]
    rfl
  | k + 1, t, P, h => by
    rw [show k + 1 + r = (k + r) + 1 by omega]
    simp only [m_as]
    rw [m_as_r plan n hh cc r k (t + 1) _ (fun i hi => by have := h i hi; omega)]
theorem k_asL {w0 : zW} {plan n last : Nat} {hh cc : Nat → Nat} (hs : SR w0 n hh cc) (hpl : plan ≤ 3) (h13 : w0 2 13 = nI plan) (hl : last ≤ 24) : ∀ (k t nn : Nat) (w : zW) (P : zP), t + k = last + 1 → k < nn → CR w 10 P → Ok P → P 4 + k < 2 ^ 29 → zFQ w0 w → ∃ w' Q, zfix2 (b_X3_isAsSeen_57 (nI last)) nn (nI t) w = some (zbi (m_as plan n hh cc k t P), w') ∧ CR w' 10 Q ∧ m_fix P Q ∧ zFQ w0 w' := by
  intro k
  induction k with
  | zero =>
    intro t nn w P ht hn hc hO hb hf
    obtain ⟨nn, rfl⟩ : ∃ m, nn = m + 1 := ⟨nn - 1, by omega⟩
    refine ⟨w, P, ?_, hc, m_fix.rf P, hf⟩
    show b_X3_isAsSeen_57 _ (zfix2 _ nn) _ _ = _
    generalize zfix2 (b_X3_isAsSeen_57 (nI last)) nn = kk
    unfold b_X3_isAsSeen_57
    rw [if_pos (nI_lt (by omega) (by omega))]
    rfl
  | succ k ih =>
    intro t nn w P ht hn hc hO hb hf
    obtain ⟨nn, rfl⟩ : ∃ m, nn = m + 1 := ⟨nn - 1, by omega⟩
    obtain ⟨w1, e1, c1, f1⟩ := k_passHours hpl 1 hc hO (by omega) (by decide)
    obtain ⟨o1, o2, o3⟩ := m_hour_ok hO (m_walks P plan)
    have f1' := hf.tr f1.q10
    have hb1 := k_behind (hs.q f1') (P := m_hour P (m_walks P plan)) (t := t) c1 o1 (by omega)
    cases d : m_ob hh cc t (m_hour P (m_walks P plan) 5) n 0 with
    | false =>
      refine ⟨w1, m_hour P (m_walks P plan), ?_, c1, o2, f1'⟩
      rw [d] at hb1
      show b_X3_isAsSeen_57 _ (zfix2 _ nn) _ _ = _
      generalize zfix2 (b_X3_isAsSeen_57 (nI last)) nn = kk
      unfold b_X3_isAsSeen_57
      rw [if_neg (nI_nlt (by omega) (by omega)), show w 2 13 = nI plan from by rw [hf 2 (by decide)]; exact h13, show f_X0_passHours w 10 1 (nI plan) = some w1 from e1, zbds, hb1, zbds, if_pos (show zbi false = 0 from rfl)]
      simp only [m_as]
      rw [d, Bool.false_and]
      rfl
    | true =>
      obtain ⟨w', Q, g1, g2, g3, g4⟩ := ih (t + 1) nn w1 (m_hour P (m_walks P plan)) (by omega) (by omega) c1 o1 (by rw [o3]; omega) f1'
      refine ⟨w', Q, ?_, g2, o2.tr g3, g4⟩
      rw [d] at hb1
      show b_X3_isAsSeen_57 _ (zfix2 _ nn) _ _ = _
      generalize zfix2 (b_X3_isAsSeen_57 (nI last)) nn = kk at g1 ⊢
      unfold b_X3_isAsSeen_57
      simp only [zletE]
      rw [if_neg (nI_nlt (by omega) (by omega)), show w 2 13 = nI plan from by rw [hf 2 (by decide)]; exact h13, show f_X0_passHours w 10 1 (nI plan) = some w1 from e1, zbds, hb1, zbds, if_neg (show ¬ zbi true = 0 from n10), show nI t + 1 = nI (t + 1) from nI_1 _, g1]
      simp only [m_as]
      rw [d, Bool.true_and]
theorem q_asL {w0 : zW} {plan n : Nat} {hh cc : Nat → Nat} (hs : SR w0 n hh cc) (hpl : plan ≤ 3) (h13 : w0 57 11 = nI plan) : ∀ (k t nn : Nat) (w : zW) (P : zP), t + k = 25 → k + 1 < nn → PR w 80 0 P → Ok P → P 4 + k < 2 ^ 29 → zMQ w0 w → ∃ w', zfix3 b_X4_isAsSeen_42 nn 1 (nI t) w = some (zbi (m_as plan n hh cc k t P), w') ∧ zMQ w0 w' := by
  intro k
  induction k with
  | zero =>
    intro t nn w P ht hn hc hO hb hf
    obtain ⟨nn, rfl⟩ : ∃ m, nn = m + 1 := ⟨nn - 1, by omega⟩
    refine ⟨w, ?_, hf⟩
    show b_X4_isAsSeen_42 (zfix3 _ nn) _ _ _ = _
    generalize zfix3 b_X4_isAsSeen_42 nn = kk
    unfold b_X4_isAsSeen_42
    rw [show t = 25 by omega, if_pos (by decide), zgt (by decide)]
    rfl
  | succ k ih =>
    intro t nn w P ht hn hc hO hb hf
    obtain ⟨nn, rfl⟩ : ∃ m, nn = m + 2 := ⟨nn - 2, by omega⟩
    obtain ⟨fu, hfu⟩ : ∃ n : Nat, 100000 = n := ⟨_, rfl⟩
    have b0 := hO.1.1
    have c24 : (24 : Int32) < nI t ↔ 24 < t := nI_ltI (a := 24) (by decide) (by omega)
    obtain ⟨w1, e1, c1, f1⟩ := q_goesOn (g := 80) hpl (by decide) 1 hc hO (by omega) (by omega) (by decide)
    obtain ⟨o1, o2, o3⟩ := m_hour_ok hO (m_walks P plan)
    have f1' := hf.tr (f1.q (by decide))
    obtain ⟨w', g1, g2⟩ := ih (t + 1) (nn + 1) w1 (m_hour P (m_walks P plan)) (by omega) (by omega) c1 o1 (by rw [o3]; omega) f1'
    have st0 : zfix3 b_X4_isAsSeen_42 (nn + 1) 0 (nI (t + 1)) w1 = some (0, w1) := by
      show b_X4_isAsSeen_42 (zfix3 _ nn) _ _ _ = _
      generalize zfix3 b_X4_isAsSeen_42 nn = kk
      unfold b_X4_isAsSeen_42
      rw [zgt (by decide), if_pos rfl]
      split <;> rfl
    have h5 : (h : Nat) → h ≤ n → n < fu := fun _ _ => by have := hs.1; omega
    show ∃ w', b_X4_isAsSeen_42 (zfix3 _ (nn + 1)) _ _ _ = _ ∧ _
    generalize zfix3 b_X4_isAsSeen_42 (nn + 1) = kk at g1 st0 ⊢
    have hob := q_obL (hs.m f1') (P := m_hour P (m_walks P plan)) (t := t) c1 o1 (by omega) (fun v11 => kk v11 (nI (t + 1)) w1) n 0 fu true (by omega) (h5 0 (by omega))
    rw [Bool.true_and] at hob
    unfold b_X4_isAsSeen_42
    rw [hfu]
    simp only [zletE, zjn1E]
    rw [if_neg (fun q => absurd (c24.mp q) (by omega)), if_neg n10, show w 57 11 = nI plan from by rw [hf.2.1 11 (by decide)]; exact h13, show f_X4_goesOn w 80 1 (nI plan) = some w1 from e1, zbds, show nI t + 1 = nI (t + 1) from nI_1 _, show zfix2 (b_X4_isAsSeen_69 (nI t) w1 _) fu 1 0 = _ from hob]
    cases d : m_ob hh cc t (m_hour P (m_walks P plan) 5) n 0 with
    | false =>
      refine ⟨w1, ?_, f1'⟩
      simp only [m_as]
      rw [d, Bool.false_and]
      exact st0
    | true =>
      refine ⟨w', ?_, g2⟩
      simp only [m_as]
      rw [d, Bool.true_and]
      exact g1
