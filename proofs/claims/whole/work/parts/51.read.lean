/-! drinks read from a sheet -/
def m_dka (P : zP) (a b : Int32) : Int32 × zP := if f_X3_within a 0 (nI (P 0) - 1) = 0 ∨ f_X3_within b 0 20 = 0 then (-1, P) else m_dk P (zx a) (zx b)
theorem m_dka_ok {P : zP} (h : Ok P) (a b : Int32) : Ok (m_dka P a b).2 ∧ m_fix P (m_dka P a b).2 ∧ (m_dka P a b).2 4 = P 4 := by
  unfold m_dka
  rcases drk_cases h.1.1 a b with hx | ⟨p, c, hp, hc, rfl, rfl⟩
  · rw [if_pos hx]
    exact ⟨h, m_fix.rf P, rfl⟩
  · split
    · exact ⟨h, m_fix.rf P, rfl⟩
    · rw [zxI (by have := h.1.1; omega), zxI (by omega)]
      obtain ⟨o1, o2, o3, -⟩ := m_dk_ok h hp (c := c)
      exact ⟨o1, o2, o3⟩
theorem m_dka_t {P : zP} (h : Ok P) {p c : Nat} (hp : p < P 0) (hc : c ≤ 20) : m_dka P (nI p) (nI c) = m_dk P p c := by
  have h0 := h.1.1
  have e2 : f_X3_within (nI c) 0 20 = 1 := win_t (hi := 20) (Nat.zero_le _) hc (by decide)
  unfold m_dka
  rw [winN_t hp (by omega), e2, if_neg (by decide), zxI (by omega), zxI (by omega)]
theorem k_dka {w : zW} {b : Nat} {P : zP} (h : CR w b P) (hO : Ok P) (a1 a2 : Int32) : ∃ w', f_X0_drinkAsAsked w b a1 a2 = some ((m_dka P a1 a2).1, w') ∧ CR w' b (m_dka P a1 a2).2 ∧ Fr b w w' := by
  rcases drk_cases hO.1.1 a1 a2 with hx | ⟨p, c, hp, hc, rfl, rfl⟩
  · refine ⟨w, ?_, ?_, Fr.rf⟩
    · rw [k_drinkBad h a1 a2 hx]; unfold m_dka; rw [if_pos hx]
    · unfold m_dka; rw [if_pos hx]; exact h
  · rw [m_dka_t hO hp hc]
    exact k_drinkAsAsked h hO hp hc
theorem q_dka {w : zW} {P : zP} (h : PR w 0 0 P) (hO : Ok P) (h2 : w 56 2 = nI (P 0)) (a1 a2 : Int32) : ∃ w', f_X4_drinks w a1 a2 = some ((m_dka P a1 a2).1, w') ∧ PR w' 0 0 (m_dka P a1 a2).2 ∧ FrM 0 w w' := by
  rcases drk_cases hO.1.1 a1 a2 with hx | ⟨p, c, hp, hc, rfl, rfl⟩
  · refine ⟨w, ?_, ?_, FrM.rf⟩
    · rw [q_drinksBad h2 a1 a2 hx]; unfold m_dka; rw [if_pos hx]
    · unfold m_dka; rw [if_pos hx]; exact h
  · rw [m_dka_t hO hp hc]
    exact q_drinks h hO h2 hp hc
/-- what comes of a reading: whether it came to an end, its fault, how many, the company -/
def m_rd (c : Nat → Int32) (N f : Nat) : Nat → Nat → zP → Bool × Nat × Nat × zP
  | 0, t, P => (true, 0, t, P)
  | k + 1, t, P => if f + 2 * t + 1 < N then (if (0 : Int32) ≤ (m_dka P (c (f + 2 * t)) (c (f + 2 * t + 1))).1 then m_rd c N f k (t + 1) (m_dka P (c (f + 2 * t)) (c (f + 2 * t + 1))).2 else (false, 0, t, P)) else (true, 2, t, P)
theorem m_rd_ok (c : Nat → Int32) (N f : Nat) : ∀ (k t : Nat) {P : zP}, Ok P → Ok (m_rd c N f k t P).2.2.2 ∧ m_fix P (m_rd c N f k t P).2.2.2 ∧ (m_rd c N f k t P).2.2.2 4 = P 4
  | 0, t, P, h => ⟨h, m_fix.rf P, rfl⟩
  | k + 1, t, P, h => by
    obtain ⟨o1, o2, o3⟩ := m_dka_ok h (c (f + 2 * t)) (c (f + 2 * t + 1))
    obtain ⟨p1, p2, p3⟩ := m_rd_ok c N f k (t + 1) o1
    unfold m_rd
    split
    · split
      · exact ⟨p1, o2.tr p2, p3.trans o3⟩
      · exact ⟨h, m_fix.rf P, rfl⟩
    · exact ⟨h, m_fix.rf P, rfl⟩
theorem k_faultPair {w : zW} {b N L q : Nat} (h1 : w b 1 = nI L) (h2 : w b 2 = nI N) (hN : N ≤ 40) (hq : q < 2 ^ 20) : f_X1_faultOfPair w b (nI L) (nI q) = if q + 1 < N then 0 else 2 := by
  have c0 : (0 : Int32) ≤ nI N := nI_pos' (by omega)
  have hw : ∀ x : Nat, x < 2 ^ 21 → f_X3_within (nI x) 0 (nI N - 1) = if x < N then 1 else 0 := by
    intro x hx
    by_cases d : x < N
    · rw [if_pos d]; exact winN_t d (by omega)
    · rw [if_neg d]
      rcases winN_cases (nI x) (N := N) (by omega) with e | ⟨e, p, hp, e2⟩
      · exact e
      · have := (nI_eq (by omega) (by omega)).mp e2
        omega
  unfold f_X1_faultOfPair f_X1_isNothing
  simp only [zjn0E, zletE]
  rw [h2, if_pos c0, if_pos rfl, h1, if_pos rfl, k_faultAt h2 hN, k_faultAt h2 hN, show nI q + 1 = nI (q + 1) from nI_1 _, hw q (by omega), hw (q + 1) (by omega)]
  by_cases d : q + 1 < N
  · rw [if_pos (show q < N by omega), if_neg n10, if_pos rfl, if_pos d, if_neg n10, if_pos d]
  · by_cases d2 : q < N
    · rw [if_pos d2, if_neg n10, if_pos rfl, if_neg d, if_pos rfl, if_neg d]
    · rw [if_neg d2, if_pos rfl, if_neg (by decide), if_neg d]
theorem k_read {w0 : zW} {i N L f m : Nat} {c : Nat → Int32} (hi : i < 4) (hN : N ≤ 40) (hf : f < 40) (hm : m ≤ 20) (s1 : w0 (48 + 2 * i) 1 = nI L) (s2 : w0 (48 + 2 * i) 2 = nI N) (s3 : ∀ j, j < 40 → w0 (48 + 2 * i + 1) j = c j) (j : Int32 → Int32 → zW → Option (Int32 × zW)) : ∀ (k t n : Nat) (w : zW) (P : zP), t + k = m → k < n → CR w 10 P → Ok P → zFQ w0 w → ∃ w', zfix4 (b_X3_read_55 (nI i) (nI L) (nI f) (nI m) j j) n 0 (nI t) (nI t) w = (if (m_rd c N f k t P).1 = true then j (nI (m_rd c N f k t P).2.1) (nI (m_rd c N f k t P).2.2.1) w' else some (-20 - nI (m_rd c N f k t P).2.2.1, w')) ∧ ((m_rd c N f k t P).1 = true → CR w' 10 (m_rd c N f k t P).2.2.2) ∧ zFQ w0 w' := by
  have hx : zx (nI i) = i := zxI (by omega)
  intro k
  induction k with
  | zero =>
    intro t n w P ht hn hc hO hq
    obtain ⟨n, rfl⟩ : ∃ m, n = m + 1 := ⟨n - 1, by omega⟩
    refine ⟨w, ?_, fun _ => hc, hq⟩
    show b_X3_read_55 _ _ _ _ _ _ (zfix4 _ n) _ _ _ _ = _
    generalize zfix4 (b_X3_read_55 (nI i) (nI L) (nI f) (nI m) j j) n = kk
    unfold b_X3_read_55
    rw [show t = m by omega, if_pos (nI_le (Nat.le_refl _) (by omega))]
    simp only [m_rd]
    rfl
  | succ k ih =>
    intro t n w P ht hn hc hO hq
    obtain ⟨n, rfl⟩ : ∃ m, n = m + 1 := ⟨n - 1, by omega⟩
    have e19 : nI f + (2 : Int32) * nI t = nI (f + 2 * t) := by rw [show (2 : Int32) * nI t = nI (2 * t) from pk_mul 2 t, nI_add]
    have hp := k_faultPair (w := w) (b := 48 + 2 * i) (L := L) (N := N) (q := f + 2 * t) (by rw [hq _ (by omega)]; exact s1) (by rw [hq _ (by omega)]; exact s2) hN (by omega)
    by_cases d : f + 2 * t + 1 < N
    · rw [if_pos d] at hp
      have r1 : w (48 + 2 * i + 1) (f + 2 * t) = c (f + 2 * t) := by rw [hq _ (by omega)]; exact s3 _ (by omega)
      have r2 : w (48 + 2 * i + 1) (f + 2 * t + 1) = c (f + 2 * t + 1) := by rw [hq _ (by omega)]; exact s3 _ (by omega)
      obtain ⟨w1, g1, g2, g3⟩ := k_dka hc hO (c (f + 2 * t)) (c (f + 2 * t + 1))
      obtain ⟨o1, o2, o3⟩ := m_dka_ok hO (c (f + 2 * t)) (c (f + 2 * t + 1))
      by_cases d2 : (0 : Int32) ≤ (m_dka P (c (f + 2 * t)) (c (f + 2 * t + 1))).1
      · obtain ⟨w', k1, k2, k3⟩ := ih (t + 1) n w1 _ (by omega) (by omega) g2 o1 (hq.tr g3.q10)
        have er : m_rd c N f (k + 1) t P = m_rd c N f k (t + 1) (m_dka P (c (f + 2 * t)) (c (f + 2 * t + 1))).2 := by
          show (if f + 2 * t + 1 < N then _ else _) = _
          rw [if_pos d, if_pos d2]
        rw [er]
        refine ⟨w', ?_, k2, k3⟩
        show b_X3_read_55 _ _ _ _ _ _ (zfix4 _ n) _ _ _ _ = _
        generalize zfix4 (b_X3_read_55 (nI i) (nI L) (nI f) (nI m) j j) n = kk at k1 ⊢
        unfold b_X3_read_55
        simp only [zletE]
        rw [if_neg (nI_ge (by omega) (by omega)), e19, hx, hp, if_pos rfl, zgt (zin_nI (by omega) (by decide)), show nI (f + 2 * t) + 1 = nI (f + 2 * t + 1) from nI_1 _, zgt (zin_nI (by omega) (by decide)), zxI (by omega), zxI (by omega), r1, r2, g1, zbd2s, if_pos d2, show nI t + 1 = nI (t + 1) from nI_1 _]
        exact k1
      · have er : m_rd c N f (k + 1) t P = (false, 0, t, P) := by
          show (if f + 2 * t + 1 < N then _ else _) = _
          rw [if_pos d, if_neg d2]
        rw [er]
        refine ⟨w1, ?_, fun q => absurd q Bool.false_ne_true, hq.tr g3.q10⟩
        show b_X3_read_55 _ _ _ _ _ _ (zfix4 _ n) _ _ _ _ = _
        generalize zfix4 (b_X3_read_55 (nI i) (nI L) (nI f) (nI m) j j) n = kk
        unfold b_X3_read_55
        simp only [zletE]
        rw [if_neg (nI_ge (by omega) (by omega)), e19, hx, hp, if_pos rfl, zgt (zin_nI (by omega) (by decide)), show nI (f + 2 * t) + 1 = nI (f + 2 * t + 1) from nI_1 _, zgt (zin_nI (by omega) (by decide)), zxI (by omega), zxI (by omega), r1, r2, g1, zbd2s, if_neg d2, if_neg (by decide)]
    · rw [if_neg d] at hp
      have er : m_rd c N f (k + 1) t P = (true, 2, t, P) := by
        show (if f + 2 * t + 1 < N then _ else _) = _
        rw [if_neg d]
      rw [er]
      refine ⟨w, ?_, fun _ => hc, hq⟩
      show b_X3_read_55 _ _ _ _ _ _ (zfix4 _ n) _ _ _ _ = _
      generalize zfix4 (b_X3_read_55 (nI i) (nI L) (nI f) (nI m) j j) n = kk
      unfold b_X3_read_55
      simp only [zletE]
      rw [if_neg (nI_ge (by omega) (by omega)), e19, hx, hp, if_neg (by decide)]
      rw [if_pos trivial]
      rfl
theorem in_add {N : Nat} (f d : Nat) (h : f + d < 2 ^ 30) : f_X4_in ((nI f).toInt64 + (nI d).toInt64) (0 : Int64) ((nI N - 1).toInt64) = f_X3_within (nI (f + d)) 0 (nI N - 1) := by
  rw [nI_l (by omega), nI_l (by omega), lN_add, ← nI_l (by omega)]
  exact in_within _ 0 _
theorem winN_if {x N : Nat} (hx : x < 2 ^ 21) (hN : N ≤ 40) : f_X3_within (nI x) 0 (nI N - 1) = if x < N then 1 else 0 := by
  by_cases d : x < N
  · rw [if_pos d]; exact winN_t d (by omega)
  · rw [if_neg d]
    rcases winN_cases (nI x) (N := N) (by omega) with e | ⟨e, p, hp, e2⟩
    · exact e
    · have := (nI_eq (by omega) (by omega)).mp e2
      omega
/-- one step of the reference's reading -/
theorem q_rd0 {w : zW} {i N L f m : Nat} (hi : i < 4) (hN : N ≤ 40) (hf : f < 40) (hm : m ≤ 20) (hL : L ≤ 2) (s1 : w 68 i = nI L) (s2 : w 69 i = nI N) (j : Int32 → Int32 → zW → Option (Int32 × zW)) (j2 : Int32 → zW → Option (Int32 × zW)) (kk : Int32 → Int32 → Int32 → zW → Option (Int32 × zW)) {t : Nat} (ht : t < m) : b_X4_read_55 (nI i) (nI L) (nI f) (nI m) j j2 kk 0 (nI t) (nI (2 * t)) w = kk (if f + 2 * t < N then 0 else 2) (nI t) (nI (2 * t + 1)) w := by
  have hz : zin (nI i) 4 = true := zin_nI (by omega) (by decide)
  have hx : zx (nI i) = i := zxI (by omega)
  have e2 : (2 : Int32) * nI m = nI (2 * m) := pk_mul 2 m
  have hr : zrem (nI (2 * t)) 2 = nI (2 * t % 2) := zrem_nI (d := 2) (by omega) (by decide) (by decide)
  have e0 : nI (2 * t) + 1 = nI (2 * t + 1) := nI_1 _
  unfold b_X4_read_55
  simp only [zjn1E, zjn2E, zletE, hz, zgTE, hx]
  rw [e2, if_neg (nI_ge (by omega) (by omega)), if_pos trivial, s1, if_neg (nL4 hL), if_pos rfl, s2, in_add f (2 * t) (by omega), winN_if (by omega) hN, hr, show 2 * t % 2 = 0 by omega, if_neg (show ¬ nI 0 = 1 by decide), e0]
  by_cases d : f + 2 * t < N
  · rw [if_pos d, if_neg n10, if_pos d, if_pos trivial, if_neg (show ¬ nI 0 = 1 by decide)]
  · rw [if_neg d, if_pos rfl, if_neg d, if_neg (by decide)]
theorem q_rd1 {w : zW} {i N L f m : Nat} (hi : i < 4) (hN : N ≤ 40) (hf : f < 40) (hm : m ≤ 20) (hL : L ≤ 2) (s1 : w 68 i = nI L) (s2 : w 69 i = nI N) (j : Int32 → Int32 → zW → Option (Int32 × zW)) (j2 : Int32 → zW → Option (Int32 × zW)) (kk : Int32 → Int32 → Int32 → zW → Option (Int32 × zW)) {t : Nat} (ht : t < m) {x y r : Int32} {w1 : zW} (hx1 : w 70 (40 * i + f + 2 * t) = x) (hx2 : w 70 (40 * i + f + 2 * t + 1) = y) (hd : f_X4_drinks w x y = some (r, w1)) : b_X4_read_55 (nI i) (nI L) (nI f) (nI m) j j2 kk 0 (nI t) (nI (2 * t + 1)) w = if f + 2 * t + 1 < N then (if 0 ≤ r then kk 0 (nI (t + 1)) (nI (2 * (t + 1))) w1 else j2 (nI t) w1) else kk 2 (nI t) (nI (2 * (t + 1))) w := by
  have hz : zin (nI i) 4 = true := zin_nI (by omega) (by decide)
  have hx : zx (nI i) = i := zxI (by omega)
  have e2 : (2 : Int32) * nI m = nI (2 * m) := pk_mul 2 m
  have hr : zrem (nI (2 * t + 1)) 2 = nI ((2 * t + 1) % 2) := zrem_nI (d := 2) (by omega) (by decide) (by decide)
  have e0 : nI (2 * t + 1) + 1 = nI (2 * (t + 1)) := nI_1 _
  have e40 : (40 : Int32) * nI i + nI f + nI (2 * t + 1) = nI (40 * i + f + 2 * t + 1) := by rw [show (40 : Int32) * nI i = nI (40 * i) from pk_mul 40 i, nI_add, nI_add]; rfl
  have e41 : nI (40 * i + f + 2 * t + 1) - 1 = nI (40 * i + f + 2 * t) := nI_pred _
  unfold b_X4_read_55
  simp only [zjn1E, zjn2E, zletE, hz, zgTE, hx]
  rw [e2, if_neg (nI_ge (by omega) (by omega)), if_pos trivial, s1, if_neg (nL4 hL), if_pos rfl, s2, in_add f (2 * t + 1) (by omega), winN_if (by omega) hN, hr, show (2 * t + 1) % 2 = 1 by omega, if_pos (show nI 1 = 1 from rfl), e0, e40, e41, show f + (2 * t + 1) = f + 2 * t + 1 by omega]
  by_cases d : f + 2 * t + 1 < N
  · rw [if_pos d, if_neg n10, if_pos d, if_pos trivial, if_pos (show nI 1 = 1 from rfl), zgt (zin_nI (by omega) (by decide)), zgt (zin_nI (by omega) (by decide)), zxI (by omega), zxI (by omega), hx1, hx2, hd, zbd2s, show nI t + 1 = nI (t + 1) from nI_1 _]
  · rw [if_neg d, if_pos rfl, if_neg d, if_neg (by decide)]
/-- behind a fault the reading ends -/
theorem q_rd2 {w : zW} {a1 a2 a3 a4 v x y : Int32} (j : Int32 → Int32 → zW → Option (Int32 × zW)) (j2 : Int32 → zW → Option (Int32 × zW)) (kk : Int32 → Int32 → Int32 → zW → Option (Int32 × zW)) (hv : ¬ v = 0) : b_X4_read_55 a1 a2 a3 a4 j j2 kk v x y w = j v x w := by
  unfold b_X4_read_55
  rw [if_neg hv]
  split <;> rfl
theorem q_read {w0 : zW} {i N L f m : Nat} {c : Nat → Int32} (hi : i < 4) (hN : N ≤ 40) (hf : f < 40) (hm : m ≤ 20) (hL : L ≤ 2) (s1 : w0 68 i = nI L) (s2 : w0 69 i = nI N) (s3 : ∀ j, j < 40 → w0 70 (40 * i + j) = c j) (j : Int32 → Int32 → zW → Option (Int32 × zW)) (j2 : Int32 → zW → Option (Int32 × zW)) : ∀ (k t n : Nat) (w : zW) (P : zP), t + k = m → 2 * k + 1 < n → PR w 0 0 P → Ok P → w 56 2 = nI (P 0) → FrM 0 w0 w → ∃ w', zfix4 (b_X4_read_55 (nI i) (nI L) (nI f) (nI m) j j2) n 0 (nI t) (nI (2 * t)) w = (if (m_rd c N f k t P).1 = true then j (nI (m_rd c N f k t P).2.1) (nI (m_rd c N f k t P).2.2.1) w' else j2 (nI (m_rd c N f k t P).2.2.1) w') ∧ ((m_rd c N f k t P).1 = true → PR w' 0 0 (m_rd c N f k t P).2.2.2) ∧ FrM 0 w0 w' := by
  intro k
  induction k with
  | zero =>
    intro t n w P ht hn hc hO h2 hq
    obtain ⟨n, rfl⟩ : ∃ m, n = m + 1 := ⟨n - 1, by omega⟩
    refine ⟨w, ?_, fun _ => hc, hq⟩
    show b_X4_read_55 _ _ _ _ _ _ (zfix4 _ n) _ _ _ _ = _
    generalize zfix4 (b_X4_read_55 (nI i) (nI L) (nI f) (nI m) j j2) n = kk
    unfold b_X4_read_55
    rw [show t = m by omega, show (2 : Int32) * nI m = nI (2 * m) from pk_mul 2 m, if_pos (nI_le (Nat.le_refl _) (by omega))]
    simp only [m_rd]
    rfl
  | succ k ih =>
    intro t n w P ht hn hc hO h2 hq
    obtain ⟨n, rfl⟩ : ∃ m, n = m + 2 := ⟨n - 2, by omega⟩
    have z1 : w 68 i = nI L := by rw [hq.1 68 (by decide)]; exact s1
    have z2 : w 69 i = nI N := by rw [hq.1 69 (by decide)]; exact s2
    have z3 : ∀ x, x < 40 → w 70 (40 * i + x) = c x := fun x hx => by rw [hq.1 70 (by decide)]; exact s3 x hx
    have st : ∀ v : Int32, zfix4 (b_X4_read_55 (nI i) (nI L) (nI f) (nI m) j j2) (n + 2) 0 (nI t) (nI (2 * t)) w = zfix4 (b_X4_read_55 (nI i) (nI L) (nI f) (nI m) j j2) (n + 1) (if f + 2 * t < N then 0 else 2) (nI t) (nI (2 * t + 1)) w := fun _ => q_rd0 hi hN hf hm hL z1 z2 j j2 (zfix4 (b_X4_read_55 (nI i) (nI L) (nI f) (nI m) j j2) (n + 1)) (by omega)
    have st2 : ∀ (x y : Int32) (wx : zW), zfix4 (b_X4_read_55 (nI i) (nI L) (nI f) (nI m) j j2) (n + 1) 2 x y wx = j 2 x wx := fun x y wx => q_rd2 j j2 (zfix4 (b_X4_read_55 (nI i) (nI L) (nI f) (nI m) j j2) n) (by decide)
    rw [st 0]
    by_cases d0 : f + 2 * t < N
    · rw [if_pos d0]
      obtain ⟨w1, g1, g2, g3⟩ := q_dka hc hO h2 (w 70 (40 * i + f + 2 * t)) (w 70 (40 * i + f + 2 * t + 1))
      have st1 := q_rd1 hi hN hf hm hL z1 z2 j j2 (zfix4 (b_X4_read_55 (nI i) (nI L) (nI f) (nI m) j j2) n) (t := t) (by omega) rfl rfl g1
      rw [show zfix4 (b_X4_read_55 (nI i) (nI L) (nI f) (nI m) j j2) (n + 1) 0 (nI t) (nI (2 * t + 1)) w = _ from st1]
      by_cases d : f + 2 * t + 1 < N
      · have y1 : w 70 (40 * i + f + 2 * t) = c (f + 2 * t) := by rw [show 40 * i + f + 2 * t = 40 * i + (f + 2 * t) by omega]; exact z3 _ (by omega)
        have y2 : w 70 (40 * i + f + 2 * t + 1) = c (f + 2 * t + 1) := by rw [show 40 * i + f + 2 * t + 1 = 40 * i + (f + 2 * t + 1) by omega]; exact z3 _ (by omega)
        rw [y1, y2] at g1 g2 ⊢
        obtain ⟨o1, o2, o3⟩ := m_dka_ok hO (c (f + 2 * t)) (c (f + 2 * t + 1))
        rw [if_pos d]
        by_cases d2 : (0 : Int32) ≤ (m_dka P (c (f + 2 * t)) (c (f + 2 * t + 1))).1
        · have er : m_rd c N f (k + 1) t P = m_rd c N f k (t + 1) (m_dka P (c (f + 2 * t)) (c (f + 2 * t + 1))).2 := by
            show (if f + 2 * t + 1 < N then _ else _) = _
            rw [if_pos d, if_pos d2]
          rw [er, if_pos d2]
          exact ih (t + 1) n w1 _ (by omega) (by omega) g2 o1 (by rw [g3.1 56 (by decide), o2.n]; exact h2) (hq.tr g3)
        · have er : m_rd c N f (k + 1) t P = (false, 0, t, P) := by
            show (if f + 2 * t + 1 < N then _ else _) = _
            rw [if_pos d, if_neg d2]
          rw [er, if_neg d2]
          exact ⟨w1, rfl, fun q => absurd q Bool.false_ne_true, hq.tr g3⟩
      · have er : m_rd c N f (k + 1) t P = (true, 2, t, P) := by
          show (if f + 2 * t + 1 < N then _ else _) = _
          rw [if_neg d]
        obtain ⟨n, rfl⟩ : ∃ m, n = m + 1 := ⟨n - 1, by omega⟩
        rw [er, if_neg d, show zfix4 (b_X4_read_55 (nI i) (nI L) (nI f) (nI m) j j2) (n + 1) 2 (nI t) (nI (2 * (t + 1))) w = j 2 (nI t) w from q_rd2 j j2 (zfix4 (b_X4_read_55 (nI i) (nI L) (nI f) (nI m) j j2) n) (by decide)]
        exact ⟨w, rfl, fun _ => hc, hq⟩
    · have er : m_rd c N f (k + 1) t P = (true, 2, t, P) := by
        show (if f + 2 * t + 1 < N then _ else _) = _
        rw [if_neg (by omega)]
      rw [er, if_neg d0, st2]
      exact ⟨w, rfl, fun _ => hc, hq⟩
/-! a reading, whole -/
theorem rd_fin {w w8 : zW} {P Q : zP} (h : zJ w) (hN : JN w P) (hf : zFQ w w8) (hc : CR w8 10 Q) (hO : Ok Q) (hx : m_fix P Q) (h4 : Q 4 = P 4) (v : Int32) : ∃ w9, f_X0_copyFrom w8 2 10 = some w9 ∧ (∀ k, 26 ≤ k → zup w9 0 13 v k = w k) ∧ ∀ w' : zW, PR w' 0 0 Q → (∀ k, k ≠ 57 → w' k = zup w9 0 13 v k) → (∀ j, 20 ≤ j → j < 60 → w' 57 j = w 57 j) → zJ (zup w' 56 35 v) := by
  obtain ⟨h1, h2, h3, h4', h5⟩ := hN
  obtain ⟨w9, e9, c9, f9⟩ := k_copyFrom (b := 2) (o := 10) hc hO (by decide)
  have r9 : ∀ k, 26 ≤ k → w9 k = w k := fun k hk => (f9 k (by omega)).trans (hf k (by omega))
  have r26 : ∀ k, 26 ≤ k → zup w9 0 13 v k = w k := fun k hk => by rw [zup_n _ _ _ (by omega)]; exact r9 k hk
  refine ⟨w9, e9, r26, fun w' hp hk h57 => ?_⟩
  have b0 := hO.1.1
  have s : ∀ k, 26 ≤ k → k ≠ 56 → k ≠ 57 → zup w' 56 35 v k = w k := fun k x1 x2 x3 => by rw [zup_n _ _ _ x2, hk k x3, r26 k x1]
  have s6 : ∀ j, j ≠ 35 → zup w' 56 35 v 56 j = w 56 j := fun j hj => by rw [zup_s, upd_n _ _ hj, hk 56 (by decide), r26 56 (by decide)]
  have s0 : ∀ j, j ≠ 13 → zup w' 56 35 v 0 j = w 0 j := fun j hj => by rw [zup_n _ _ _ (by decide), hk 0 (by decide), zup_s, upd_n _ _ hj, f9 0 (by decide), hf 0 (by decide)]
  have s1 : zup w' 56 35 v 1 = w 1 := by rw [zup_n _ _ _ (by decide), hk 1 (by decide), zup_n _ _ _ (by decide), f9 1 (by decide), hf 1 (by decide)]
  have s7 : ∀ j, 20 ≤ j → j < 60 → zup w' 56 35 v 57 j = w 57 j := fun j a b => by rw [zup_n _ _ _ (by decide)]; exact h57 j a b
  obtain ⟨-, hT, hS, hK, hH, hF1, hF2, hF3, hF4⟩ := h
  refine ⟨⟨Q, ?_, ?_, hO, by rw [h4]; exact h4', ?_⟩, ?_, ?_, ?_, ?_, ?_, ?_, ?_, ?_⟩
  · exact c9.frame (fun k a b => by rw [zup_n _ _ _ (by omega), hk k (by omega), zup_n _ _ _ (by omega)])
  · exact hp.frame (by omega) hO.1.2.1 (fun j a b => by rw [zup_s, upd_n _ _ (by omega)]) (fun j a b => by rw [zup_n _ _ _ (by decide)]) (zup_n _ _ _ (by decide)) (zup_n _ _ _ (by decide))
  · rw [s6 2 (by decide), hx.n]; exact h5
  · exact hT.fr (s0 _ (by decide)) s1 (s6 _ (by decide)) (s 63 (by decide) (by decide) (by decide))
  · exact hS.fr (s0 _ (by decide)) (s 45 (by decide) (by decide) (by decide)) (s 46 (by decide) (by decide) (by decide)) (s6 _ (by decide)) (s 66 (by decide) (by decide) (by decide))
  · exact hK.fr (s 44 (by decide) (by decide) (by decide)) (s 67 (by decide) (by decide) (by decide)) (fun j a b => s j (by omega) (by omega) (by omega)) (fun j a b => s6 j (by omega)) s7 (s 58 (by decide) (by decide) (by decide)) (s 59 (by decide) (by decide) (by decide))
  · exact hH.fr (fun j a b => s j (by omega) (by omega) (by omega)) (s 68 (by decide) (by decide) (by decide)) (s 69 (by decide) (by decide) (by decide)) (s 70 (by decide) (by decide) (by decide))
  · rw [s6 19 (by decide), s0 2 (by decide)]; exact hF1
  · rw [zup_s, upd_s, zup_n _ _ _ (by decide), hk 0 (by decide), zup_s, upd_s]
  · rw [s 64 (by decide) (by decide) (by decide)]; exact hF3
  · rw [s 65 (by decide) (by decide) (by decide)]; exact hF4
theorem rd_once {w : zW} {i m : Nat} {a2 a3 v : Int32} (h : zJ w) (hi : i < 4) (e1 : f_X3_isSheet (nI i) = 1) (e2 : f_X3_isLane a2 = 1) (e4 : f_X3_within (nI m) 0 20 = 1) (hp : ∀ n : Nat, 2 < n → ∀ (j : Int32 → Int32 → zW → Option (Int32 × zW)) (w5 : zW), zFQ w w5 → zfix4 (b_X3_read_55 (nI i) a2 a3 (nI m) j j) n 0 0 0 w5 = j v 0 w5) (hq : ∀ n : Nat, 2 < n → ∀ (j : Int32 → Int32 → zW → Option (Int32 × zW)) (j2 : Int32 → zW → Option (Int32 × zW)) (w' : zW), w' 68 = w 68 → w' 69 = w 69 → zfix4 (b_X4_read_55 (nI i) a2 a3 (nI m) j j2) n 0 0 0 w' = j v 0 w') : ∃ (r : Int32) (w1 : zW) (w2 : zW), f_X3_read w (nI i) a2 a3 (nI m) = some (r, w1) ∧ f_X4_read w1 (nI i) a2 a3 (nI m) = some (r, w2) ∧ zJ w2 := by
  obtain ⟨P, hN⟩ := h.1
  obtain ⟨h1, h2, h3, h4, h5⟩ := id hN
  have b0 := h3.1.1
  have hi1 : f_X4_in (nI i).toInt64 (0 : Int64) (3 : Int64) = f_X3_isSheet (nI i) := in_within _ 0 3
  have hi2 : f_X4_in a2.toInt64 (0 : Int64) (2 : Int64) = f_X3_isLane a2 := in_within a2 0 2
  have hi4 : f_X4_in (nI m).toInt64 (0 : Int64) (20 : Int64) = f_X3_within (nI m) 0 20 := in_within _ 0 20
  have hz : zin (nI i) 4 = true := zin_nI (by omega) (by decide)
  obtain ⟨w5, g1, g2, g3⟩ := k_copyFrom (b := 10) h1 h3 (by decide)
  obtain ⟨w9, k1, k2, k3⟩ := rd_fin h hN g3.q10 g2 h3 (m_fix.rf P) rfl v
  have k4 : PR (zup w9 0 13 v) 0 0 P := h2.k56 (by omega) h3.1.2.1 (fun k hk => k2 k (by omega))
  obtain ⟨w4, c1, c2, c3⟩ := q_copies k4 h3 (by omega) (g1 := 0) (by decide) (g2 := 60) (by decide) (by decide)
  obtain ⟨fu, hfu⟩ : ∃ n : Nat, 100000 = n := ⟨_, rfl⟩
  unfold f_X3_read f_X4_read
  rw [hfu]
  simp only [zjn3E, zjn2E, zletE]
  have hp' := hp fu (by omega) (fun v6 v7 w8 => zbd (f_X0_copyFrom w8 2 10) fun w9 => some (v7, zup w9 0 13 v6)) w5 g3.q10
  have hq' := hq fu (by omega) (fun v5 v6 w7 => some (v6, zup w7 56 35 v5)) (fun v9 w10 => zbd (f_X4_copies w10 60 0) fun w11 => some (-20 - v9, w11)) w4 (by rw [c3.1 68 (by decide), k2 68 (by decide)]) (by rw [c3.1 69 (by decide), k2 69 (by decide)])
  clear hp hq
  rw [hi1, hi2, hi4, e1, if_neg n10, e2, if_neg n10, e4, if_neg n10, zgt hz, g1, zbds, hp', k1, zbds]
  refine ⟨_, _, zup w4 56 35 v, rfl, ?_, k3 w4 ?_ ?_ ?_⟩
  · rw [if_neg n10, if_neg n10, if_neg n10, show f_X4_copies (zup w9 0 13 v) 0 60 = some w4 from c1, zbds, hq']
  · exact k4.frame (by omega) h3.1.2.1 (fun j _ _ => by rw [c3.1 56 (by decide)]) (fun j a b => c3.2 j (by omega)) (c3.1 58 (by decide)) (c3.1 59 (by decide))
  · exact fun k hk => c3.1 k hk
  · intro j a b
    rw [c3.2 j (by omega), k2 57 (by decide)]
theorem rd_some {w : zW} {i m L N f : Nat} (h : zJ w) (hi : i < 4) (hm : m ≤ 20) (hL : L ≤ 2) (hN40 : N ≤ 40) (hf : f < N) (e1 : f_X3_isSheet (nI i) = 1) (e2 : f_X3_isLane (nI L) = 1) (e4 : f_X3_within (nI m) 0 20 = 1) (s1 : w (48 + 2 * i) 1 = nI L) (s2 : w (48 + 2 * i) 2 = nI N) (s3 : w 68 i = nI L) (s4 : w 69 i = nI N) (s5 : ∀ j, j < 40 → w (49 + 2 * i) j = w 70 (40 * i + j)) : ∃ (r : Int32) (w1 : zW) (w2 : zW), f_X3_read w (nI i) (nI L) (nI f) (nI m) = some (r, w1) ∧ f_X4_read w1 (nI i) (nI L) (nI f) (nI m) = some (r, w2) ∧ zJ w2 := by
  obtain ⟨P, hN⟩ := h.1
  obtain ⟨h1, h2, h3, h4, h5⟩ := id hN
  have b0 := h3.1.1
  have hi1 : f_X4_in (nI i).toInt64 (0 : Int64) (3 : Int64) = f_X3_isSheet (nI i) := in_within _ 0 3
  have hi2 : f_X4_in (nI L).toInt64 (0 : Int64) (2 : Int64) = f_X3_isLane (nI L) := in_within _ 0 2
  have hi4 : f_X4_in (nI m).toInt64 (0 : Int64) (20 : Int64) = f_X3_within (nI m) 0 20 := in_within _ 0 20
  have hz : zin (nI i) 4 = true := zin_nI (by omega) (by decide)
  obtain ⟨w5, g1, g2, g3⟩ := k_copyFrom (b := 10) h1 h3 (by decide)
  have s5' : ∀ j, j < 40 → w (48 + 2 * i + 1) j = w 70 (40 * i + j) := fun j hj => by rw [show 48 + 2 * i + 1 = 49 + 2 * i by omega]; exact s5 j hj
  obtain ⟨fu, hfu⟩ : ∃ n : Nat, 100000 = n := ⟨_, rfl⟩
  obtain ⟨w8, r1, r2, r3⟩ := k_read (w0 := w) (i := i) (N := N) (L := L) (f := f) (m := m) (c := fun j => w 70 (40 * i + j)) hi hN40 (by omega) hm s1 s2 s5' (fun v6 v7 w8 => zbd (f_X0_copyFrom w8 2 10) fun w9 => some (v7, zup w9 0 13 v6)) m 0 fu w5 P (by omega) (by omega) g2 h3 g3.q10
  obtain ⟨o1, o2, o3⟩ := m_rd_ok (fun j => w 70 (40 * i + j)) N f m 0 h3
  unfold f_X3_read f_X4_read
  rw [hfu]
  simp only [zjn3E, zjn2E, zletE]
  rw [hi1, hi2, hi4, e1, if_neg n10, e2, if_neg n10, e4, if_neg n10, zgt hz, g1, zbds, show zfix4 (b_X3_read_55 (nI i) (nI L) (nI f) (nI m) _ _) fu 0 0 0 w5 = _ from r1]
  by_cases d : (m_rd (fun j => w 70 (40 * i + j)) N f m 0 P).1 = true
  · obtain ⟨w9, k1, k2, k3⟩ := rd_fin h hN r3 (r2 d) o1 o2 o3 (nI (m_rd (fun j => w 70 (40 * i + j)) N f m 0 P).2.1)
    generalize hv : nI (m_rd (fun j => w 70 (40 * i + j)) N f m 0 P).2.1 = v at k2 k3 ⊢
    have k4 : PR (zup w9 0 13 v) 0 0 P := h2.k56 (by omega) h3.1.2.1 (fun k hk => k2 k (by omega))
    obtain ⟨w4, c1, c2, c3⟩ := q_copies k4 h3 (by omega) (g1 := 0) (by decide) (g2 := 60) (by decide) (by decide)
    have k5 : PR w4 0 0 P := k4.frame (by omega) h3.1.2.1 (fun j _ _ => by rw [c3.1 56 (by decide)]) (fun j a b => c3.2 j (by omega)) (c3.1 58 (by decide)) (c3.1 59 (by decide))
    have x4 : ∀ k, 26 ≤ k → k ≠ 57 → w4 k = w k := fun k a b => (c3.1 k b).trans (k2 k a)
    obtain ⟨w', q1, q2, q3⟩ := q_read (w0 := w4) (i := i) (N := N) (L := L) (f := f) (m := m) (c := fun j => w 70 (40 * i + j)) hi hN40 (by omega) hm hL (by rw [x4 68 (by decide) (by decide)]; exact s3) (by rw [x4 69 (by decide) (by decide)]; exact s4) (fun j _ => by rw [x4 70 (by decide) (by decide)]) (fun v5 v6 w7 => some (v6, zup w7 56 35 v5)) (fun v9 w10 => zbd (f_X4_copies w10 60 0) fun w11 => some (-20 - v9, w11)) m 0 fu w4 P (by omega) (by omega) k5 h3 (by rw [x4 56 (by decide) (by decide)]; exact h5) FrM.rf
    rw [if_pos d] at q1
    rw [if_pos d, k1, zbds]
    refine ⟨_, _, zup w' 56 35 v, rfl, ?_, k3 w' (q2 d) ?_ ?_⟩
    · rw [if_neg n10, if_neg n10, if_neg n10, show f_X4_copies (zup w9 0 13 v) 0 60 = some w4 from c1, zbds, show zfix4 (b_X4_read_55 (nI i) (nI L) (nI f) (nI m) _ _) fu 0 0 0 w4 = _ from q1, hv]
    · exact fun k hk => (q3.1 k hk).trans (c3.1 k hk)
    · intro j a b
      rw [q3.2 j (by omega), c3.2 j (by omega), k2 57 (by decide)]
  · have x8 : PR w8 0 0 P := h2.k56 (by omega) h3.1.2.1 (fun k hk => r3 k (by omega))
    obtain ⟨w4, c1, c2, c3⟩ := q_copiesR (w0 := w8) (g1 := 0) (g2 := 60) (by decide) (by decide) (by decide)
    have k5 : PR w4 0 0 P := x8.frame (by omega) h3.1.2.1 (fun j _ _ => by rw [c3.1 56 (by decide)]) (fun j a b => c3.2 j (by omega)) (c3.1 58 (by decide)) (c3.1 59 (by decide))
    have x4 : ∀ k, 26 ≤ k → k ≠ 57 → w4 k = w k := fun k a b => (c3.1 k b).trans (r3 k (by omega))
    obtain ⟨w', q1, q2, q3⟩ := q_read (w0 := w4) (i := i) (N := N) (L := L) (f := f) (m := m) (c := fun j => w 70 (40 * i + j)) hi hN40 (by omega) hm hL (by rw [x4 68 (by decide) (by decide)]; exact s3) (by rw [x4 69 (by decide) (by decide)]; exact s4) (fun j _ => by rw [x4 70 (by decide) (by decide)]) (fun v5 v6 w7 => some (v6, zup w7 56 35 v5)) (fun v9 w10 => zbd (f_X4_copies w10 60 0) fun w11 => some (-20 - v9, w11)) m 0 fu w4 P (by omega) (by omega) k5 h3 (by rw [x4 56 (by decide) (by decide)]; exact h5) FrM.rf
    obtain ⟨w11, d1, d2, d3⟩ := q_copiesR (w0 := w') (g1 := 60) (g2 := 0) (by decide) (by decide) (by decide)
    rw [if_neg d] at q1
    rw [if_neg d]
    refine ⟨_, w8, w11, rfl, ?_, h.q r3 ⟨fun k a b => ?_, fun j a => ?_, fun j a => ?_⟩⟩
    · rw [if_neg n10, if_neg n10, if_neg n10, show f_X4_copies w8 0 60 = some w4 from c1, zbds, show zfix4 (b_X4_read_55 (nI i) (nI L) (nI f) (nI m) _ _) fu 0 0 0 w4 = _ from q1, show f_X4_copies w' 60 0 = some w11 from d1, zbds]
    · rw [d3.1 k b, q3.1 k b, c3.1 k b]
    · by_cases j20 : j < 20
      · have y1 := d2 j j20
        have y2 := c2 j j20
        rw [Nat.zero_add] at y1 y2
        rw [y1, q3.2 (60 + j) (by omega), y2]
      · rw [d3.2 j (by omega), q3.2 j (by omega), c3.2 j (by omega)]
    · rw [d3.1 56 (by decide), q3.1 56 (by decide), c3.1 56 (by decide)]
theorem q_rdF {w' : zW} {i m L : Nat} (hi : i < 4) (m0 : 0 < m) (hm : m ≤ 20) (a3 : Int32) {v : Int32} (hv : ¬ v = 0) (hc : (v = 1 ∧ w' 68 i = -4) ∨ (v = 2 ∧ w' 68 i = nI L ∧ ¬ nI L = -4 ∧ f_X4_in a3.toInt64 0 (w' 69 i - 1).toInt64 = 0) ∨ (v = 3 ∧ ¬ w' 68 i = -4 ∧ ¬ w' 68 i = nI L)) (n : Nat) (hn : 2 < n) (j : Int32 → Int32 → zW → Option (Int32 × zW)) (j2 : Int32 → zW → Option (Int32 × zW)) : zfix4 (b_X4_read_55 (nI i) (nI L) a3 (nI m) j j2) n 0 0 0 w' = j v 0 w' := by
  have hx : zx (nI i) = i := zxI (by omega)
  have hz : zin (nI i) 4 = true := zin_nI (by omega) (by decide)
  have hm2 : ¬ (2 : Int32) * nI m ≤ 0 := by rw [show (2 : Int32) * nI m = nI (2 * m) from pk_mul 2 m]; exact nI_nle (by omega) (by omega)
  have eb : a3.toInt64 + (0 : Int32).toInt64 = a3.toInt64 := by rw [show (0 : Int32).toInt64 = 0 from rfl, Int64.add_zero]
  obtain ⟨n, rfl⟩ : ∃ m, n = m + 2 := ⟨n - 2, by omega⟩
  have st2 : ∀ x y : Int32, zfix4 (b_X4_read_55 (nI i) (nI L) a3 (nI m) j j2) (n + 1) v x y w' = j v x w' := fun x y => q_rd2 j j2 (zfix4 (b_X4_read_55 (nI i) (nI L) a3 (nI m) j j2) n) hv
  show b_X4_read_55 _ _ _ _ _ _ (zfix4 _ (n + 1)) _ _ _ _ = _
  generalize zfix4 (b_X4_read_55 (nI i) (nI L) a3 (nI m) j j2) (n + 1) = kk at st2 ⊢
  unfold b_X4_read_55
  rw [eb]
  simp only [zjn1E, zjn2E, zletE, hz, zgTE, hx]
  rw [if_neg hm2, if_pos trivial]
  rcases hc with ⟨rfl, c1⟩ | ⟨rfl, c1, c2, c3⟩ | ⟨rfl, c1, c2⟩
  · rw [if_pos c1, if_neg n10, st2]
  · rw [c3, c1, if_neg c2, if_pos rfl, if_pos rfl, if_neg (show ¬ (2 : Int32) = 0 by decide), st2]
  · rw [if_neg c1, if_neg c2, if_neg (show ¬ (3 : Int32) = 0 by decide), st2]
theorem o_read (w : zW) (h : zJ w) (a1 a2 a3 a4 : Int32) : ∃ (r : Int32) (w1 : zW) (w2 : zW), f_X3_read w a1 a2 a3 a4 = some (r, w1) ∧ f_X4_read w1 a1 a2 a3 a4 = some (r, w2) ∧ zJ w2 := by
  have hi1 : f_X4_in a1.toInt64 (0 : Int64) (3 : Int64) = f_X3_isSheet a1 := in_within a1 0 3
  have hi2 : f_X4_in a2.toInt64 (0 : Int64) (2 : Int64) = f_X3_isLane a2 := in_within a2 0 2
  have hi4 : f_X4_in a4.toInt64 (0 : Int64) (20 : Int64) = f_X3_within a4 0 20 := in_within a4 0 20
  have hw1 : f_X3_isSheet a1 = 0 ∨ (f_X3_isSheet a1 = 1 ∧ ∃ p, p ≤ 3 ∧ a1 = nI p) := winL a1 3 (by decide)
  have hw2 : f_X3_isLane a2 = 0 ∨ (f_X3_isLane a2 = 1 ∧ ∃ p, p ≤ 2 ∧ a2 = nI p) := winL a2 2 (by decide)
  have hw4 : f_X3_within a4 0 20 = 0 ∨ (f_X3_within a4 0 20 = 1 ∧ ∃ p, p ≤ 20 ∧ a4 = nI p) := winL a4 20 (by decide)
  rcases hw1 with e | ⟨e, i, hi, rfl⟩
  · unfold f_X3_read f_X4_read
    rw [hi1, e, if_pos rfl]
    exact ⟨_, _, w, rfl, if_pos rfl, h⟩
  rcases hw2 with e2 | ⟨e2, L, hL, rfl⟩
  · unfold f_X3_read f_X4_read
    rw [hi1, e, if_neg n10, hi2, e2, if_pos rfl]
    refine ⟨_, _, w, rfl, ?_, h⟩
    rw [if_neg n10, if_pos rfl]
  rcases hw4 with e4 | ⟨e4, m, hm, rfl⟩
  · unfold f_X3_read f_X4_read
    rw [hi1, e, if_neg n10, hi2, e2, if_neg n10, hi4, e4, if_pos rfl]
    refine ⟨_, _, w, rfl, ?_, h⟩
    rw [if_neg n10, if_neg n10, if_pos rfl]
  have hx : zx (nI i) = i := zxI (by omega)
  have hz : zin (nI i) 4 = true := zin_nI (by omega) (by decide)
  rcases Nat.eq_zero_or_pos m with m0 | m0
  · subst m0
    have kp0 : ∀ (n : Nat) (j : Int32 → Int32 → zW → Option (Int32 × zW)) (w5 : zW), 2 < n → zfix4 (b_X3_read_55 (nI i) (nI L) a3 (nI 0) j j) n 0 0 0 w5 = j 0 0 w5 := by
      intro n j w5 hn
      obtain ⟨n, rfl⟩ : ∃ m, n = m + 1 := ⟨n - 1, by omega⟩
      show b_X3_read_55 _ _ _ _ _ _ (zfix4 _ n) _ _ _ _ = _
      generalize zfix4 (b_X3_read_55 (nI i) (nI L) a3 (nI 0) j j) n = kk
      unfold b_X3_read_55
      rw [if_pos (by decide)]
    have kq0 : ∀ (n : Nat) (j : Int32 → Int32 → zW → Option (Int32 × zW)) (j2 : Int32 → zW → Option (Int32 × zW)) (w' : zW), 2 < n → zfix4 (b_X4_read_55 (nI i) (nI L) a3 (nI 0) j j2) n 0 0 0 w' = j 0 0 w' := by
      intro n j j2 w' hn
      obtain ⟨n, rfl⟩ : ∃ m, n = m + 1 := ⟨n - 1, by omega⟩
      show b_X4_read_55 _ _ _ _ _ _ (zfix4 _ n) _ _ _ _ = _
      generalize zfix4 (b_X4_read_55 (nI i) (nI L) a3 (nI 0) j j2) n = kk
      unfold b_X4_read_55
      rw [if_pos (by decide)]
    exact rd_once (v := 0) h (by omega) e e2 e4 (fun n hn j w5 _ => kp0 n j w5 hn) (fun n hn j j2 w' _ _ => kq0 n j j2 w' hn)
  have hm0 : ¬ nI m ≤ 0 := nI_nle m0 (by omega)
  have ea : a3 + (2 : Int32) * 0 = a3 := by rw [show (2 : Int32) * 0 = 0 from rfl, Int32.add_zero]
  have kp : ∀ v : Int32, ¬ v = 0 → (∀ w5 : zW, zFQ w w5 → f_X1_faultOfPair w5 (48 + 2 * i) (nI L) a3 = v) → ∀ (n : Nat), 2 < n → ∀ (j : Int32 → Int32 → zW → Option (Int32 × zW)) (w5 : zW), zFQ w w5 → zfix4 (b_X3_read_55 (nI i) (nI L) a3 (nI m) j j) n 0 0 0 w5 = j v 0 w5 := by
    intro v hv hf n hn j w5 hq
    obtain ⟨n, rfl⟩ : ∃ m, n = m + 1 := ⟨n - 1, by omega⟩
    show b_X3_read_55 _ _ _ _ _ _ (zfix4 _ n) _ _ _ _ = _
    generalize zfix4 (b_X3_read_55 (nI i) (nI L) a3 (nI m) j j) n = kk
    unfold b_X3_read_55
    rw [ea]
    simp only [zletE]
    rw [if_neg hm0, hx, hf w5 hq, if_neg hv]
  rcases h.2.2.2.2.1 i (by omega) with ⟨s1, s2⟩ | ⟨L', N, hL', hN, s1, s2, s3, s4, s5⟩
  · refine rd_once (v := 1) h (by omega) e e2 e4 (kp 1 (by decide) (fun w5 hq => ?_)) (fun n hn j j2 w' p1 p2 => q_rdF (by omega) m0 hm a3 (by decide) ?_ n hn j j2)
    · have t2 : w5 (48 + 2 * i) 2 = -1 := by rw [hq _ (by omega)]; exact s1
      unfold f_X1_faultOfPair
      simp only [zjn0E, zletE, k_faultAt0 t2]
      unfold f_X1_isNothing
      rw [t2, if_neg (show ¬ (0 : Int32) ≤ -1 by decide), if_neg n10, if_neg n10]
    · exact .inl ⟨rfl, by rw [p1]; exact s2⟩
  · by_cases hLL : L' = L
    · subst hLL
      rcases winN_cases a3 (N := N) (by omega) with e3 | ⟨e3, f, hf, rfl⟩
      · refine rd_once (v := 2) h (by omega) e e2 e4 (kp 2 (by decide) (fun w5 hq => ?_)) (fun n hn j j2 w' p1 p2 => q_rdF (by omega) m0 hm a3 (by decide) ?_ n hn j j2)
        · have t1 : w5 (48 + 2 * i) 1 = nI L' := by rw [hq _ (by omega)]; exact s1
          have t2 : w5 (48 + 2 * i) 2 = nI N := by rw [hq _ (by omega)]; exact s2
          have c0 : (0 : Int32) ≤ nI N := nI_pos' (by omega)
          unfold f_X1_faultOfPair
          simp only [zjn0E, zletE, k_faultAt t2 hN]
          unfold f_X1_isNothing
          rw [t2, if_pos c0, if_pos rfl, t1, if_pos rfl, e3, if_pos rfl, if_neg (by decide)]
        · refine .inr (.inl ⟨rfl, by rw [p1]; exact s3, nL4 hL', ?_⟩)
          rw [p2, s4]
          exact (in_within a3 0 (nI N - 1)).trans e3
      · exact rd_some h (by omega) hm hL hN hf e e2 e4 s1 s2 s3 s4 s5
    · have nLL : ¬ nI L' = nI L := fun q => hLL ((nI_eq (by omega) (by omega)).mp q)
      refine rd_once (v := 3) h (by omega) e e2 e4 (kp 3 (by decide) (fun w5 hq => ?_)) (fun n hn j j2 w' p1 p2 => q_rdF (by omega) m0 hm a3 (by decide) ?_ n hn j j2)
      · have t1 : w5 (48 + 2 * i) 1 = nI L' := by rw [hq _ (by omega)]; exact s1
        have t2 : w5 (48 + 2 * i) 2 = nI N := by rw [hq _ (by omega)]; exact s2
        have c0 : (0 : Int32) ≤ nI N := nI_pos' (by omega)
        unfold f_X1_faultOfPair
        simp only [zjn0E]
        unfold f_X1_isNothing
        rw [t2, if_pos c0, if_pos rfl, t1, if_neg nLL]
      · exact .inr (.inr ⟨rfl, by rw [p1, s3]; exact nL4 hL', by rw [p1, s3]; exact nLL⟩)
