/-! fractions, powers, weights -/
theorem lz : (0 : Int64) = lN 0 := rfl
theorem lcmp0 {b : Nat} (hb : b < 2 ^ 31) : (lg_cmp (lN b) 0 = 0 ↔ b = 0) ∧ (lg_cmp (lN b) 0 ≤ 0 ↔ b = 0) ∧ (0 < lg_cmp (lN b) 0 ↔ 0 < b) := by
  unfold lg_cmp
  have h1 : lN b > 0 ↔ 0 < b := by rw [lz]; exact lN_lt (by decide) hb
  have h2 : lN b = 0 ↔ b = 0 := by rw [lz]; exact lN_eq hb (by decide)
  by_cases d : 0 < b
  · rw [if_pos (h1.mpr d)]
    exact ⟨⟨fun q => absurd q (by decide), fun q => absurd d (by omega)⟩, ⟨fun q => absurd q (by decide), fun q => absurd d (by omega)⟩, ⟨fun _ => d, fun _ => by decide⟩⟩
  · rw [if_neg (fun q => d (h1.mp q)), if_pos (h2.mpr (by omega))]
    exact ⟨⟨fun _ => by omega, fun _ => rfl⟩, ⟨fun _ => by omega, fun _ => by decide⟩, ⟨fun q => absurd q (by decide), fun q => absurd q d⟩⟩
theorem nzl {b : Nat} (h0 : 0 < b) (hb : b < 2 ^ 31) : znzl (lN b) = true := by
  unfold znzl
  have h2 : lN b = 0 ↔ b = 0 := by rw [lz]; exact lN_eq hb (by decide)
  rw [Bool.not_eq_true', decide_eq_false_iff_not]
  exact fun q => absurd (h2.mp q) (by omega)
theorem reml {a b : Nat} (ha : a < 2 ^ 31) (h0 : 0 < b) (hb : b < 2 ^ 31) : zreml (lN a) (lN b) = lN (a % b) := pk_lRem (by omega) h0 (by omega)
theorem gcd_st (a b : Nat) : Nat.gcd a b = Nat.gcd b (a % b) := by
  rw [Nat.gcd_comm a b, Nat.gcd_rec b a, Nat.gcd_comm]
theorem gcd_half {a b : Nat} (h : 0 < a % b) (hb : 0 < b) : 2 * (b % (a % b)) < b := by
  have h1 : a % b < b := Nat.mod_lt _ hb
  have h2 : b % (a % b) < a % b := Nat.mod_lt _ h
  have h3 : b % (a % b) + (a % b) * (b / (a % b)) = b := Nat.mod_add_div _ _
  have h4 : 1 ≤ b / (a % b) := (Nat.one_le_div_iff h).mpr (by omega)
  have h5 : (a % b) * 1 ≤ (a % b) * (b / (a % b)) := Nat.mul_le_mul_left _ h4
  omega
theorem gcd_k : ∀ (j a b t n : Nat), a < 2 ^ 31 → b < 2 ^ 31 → b < 2 ^ j → t + 2 * j + 1 ≤ 200 → 2 * j + 1 < n → zfix3 b_X3_commonDivisor_9 n (lN a) (lN b) (nI t) = some (lN (Nat.gcd a b)) := by
  have one : ∀ (a b t : Nat) (kk : Int64 → Int64 → Int32 → Option Int64), a < 2 ^ 31 → b < 2 ^ 31 → t < 200 → b_X3_commonDivisor_9 kk (lN a) (lN b) (nI t) = if b = 0 then some (lN a) else kk (lN b) (lN (a % b)) (nI (t + 1)) := by
    intro a b t kk ha hb ht
    have c200 : (200 : Int32) ≤ nI t ↔ 200 ≤ t := nI_leI (a := 200) (by decide) (by omega)
    unfold b_X3_commonDivisor_9
    simp only [zletE]
    rw [if_neg (fun q => absurd (c200.mp q) (by omega))]
    by_cases d : b = 0
    · rw [if_pos ((lcmp0 hb).1.mpr d), if_pos d]
    · rw [if_neg (fun q => d ((lcmp0 hb).1.mp q)), if_neg d, zgt (nzl (by omega) hb), reml ha (by omega) hb, show nI t + 1 = nI (t + 1) from nI_1 _]
  intro j
  induction j with
  | zero =>
    intro a b t n ha hb h1 h2 hn
    obtain ⟨n, rfl⟩ : ∃ m, n = m + 1 := ⟨n - 1, by omega⟩
    have b0 : b = 0 := by omega
    show b_X3_commonDivisor_9 (zfix3 _ n) _ _ _ = _
    rw [one a b t _ ha hb (by omega), if_pos b0, b0, Nat.gcd_zero_right]
  | succ j ih =>
    intro a b t n ha hb h1 h2 hn
    obtain ⟨n, rfl⟩ : ∃ m, n = m + 2 := ⟨n - 2, by omega⟩
    show b_X3_commonDivisor_9 (zfix3 _ (n + 1)) _ _ _ = _
    rw [one a b t _ ha hb (by omega)]
    by_cases d : b = 0
    · rw [if_pos d, d, Nat.gcd_zero_right]
    · have r1 : a % b < b := Nat.mod_lt _ (by omega)
      rw [if_neg d, gcd_st a b]
      show b_X3_commonDivisor_9 (zfix3 _ n) _ _ _ = _
      rw [one b (a % b) (t + 1) _ hb (by omega) (by omega)]
      by_cases d2 : a % b = 0
      · rw [if_pos d2, d2, Nat.gcd_zero_right]
      · rw [if_neg d2, gcd_st b (a % b)]
        have hh := gcd_half (a := a) (b := b) (by omega) (by omega)
        have p2 : 2 ^ (j + 1) = 2 * 2 ^ j := by rw [Nat.pow_succ]; omega
        exact ih (a % b) (b % (a % b)) (t + 1 + 1) n (by omega) (by omega) (by omega) (by omega) (by omega)
theorem gcd_q (J : Int64 → Option Int64) : ∀ (j a b n : Nat), a < 2 ^ 31 → b < 2 ^ 31 → b < 2 ^ j → 2 * j + 1 < n → zfix2 (b_X4_lowest_6 J) n (lN a) (lN b) = J (lN (Nat.gcd a b)) := by
  have one : ∀ (a b : Nat) (kk : Int64 → Int64 → Option Int64), a < 2 ^ 31 → b < 2 ^ 31 → b_X4_lowest_6 J kk (lN a) (lN b) = if b = 0 then J (lN a) else kk (lN b) (lN (a % b)) := by
    intro a b kk ha hb
    unfold b_X4_lowest_6
    simp only [zletE]
    by_cases d : b = 0
    · rw [if_pos ((lcmp0 hb).1.mpr d), if_pos d]
    · rw [if_neg (fun q => d ((lcmp0 hb).1.mp q)), if_neg d, zgt (nzl (by omega) hb), reml ha (by omega) hb]
  intro j
  induction j with
  | zero =>
    intro a b n ha hb h1 hn
    obtain ⟨n, rfl⟩ : ∃ m, n = m + 1 := ⟨n - 1, by omega⟩
    have b0 : b = 0 := by omega
    show b_X4_lowest_6 J (zfix2 _ n) _ _ = _
    rw [one a b _ ha hb, if_pos b0, b0, Nat.gcd_zero_right]
  | succ j ih =>
    intro a b n ha hb h1 hn
    obtain ⟨n, rfl⟩ : ∃ m, n = m + 2 := ⟨n - 2, by omega⟩
    show b_X4_lowest_6 J (zfix2 _ (n + 1)) _ _ = _
    rw [one a b _ ha hb]
    by_cases d : b = 0
    · rw [if_pos d, d, Nat.gcd_zero_right]
    · have r1 : a % b < b := Nat.mod_lt _ (by omega)
      rw [if_neg d, gcd_st a b]
      show b_X4_lowest_6 J (zfix2 _ n) _ _ = _
      rw [one b (a % b) _ hb (by omega)]
      by_cases d2 : a % b = 0
      · rw [if_pos d2, d2, Nat.gcd_zero_right]
      · rw [if_neg d2, gcd_st b (a % b)]
        have hh := gcd_half (a := a) (b := b) (by omega) (by omega)
        have p2 : 2 ^ (j + 1) = 2 * 2 ^ j := by rw [Nat.pow_succ]; omega
        exact ih (a % b) (b % (a % b)) n (by omega) (by omega) (by omega) (by omega)
def m_fr (a b : Nat) (x : Int32) : Int64 := if x = 0 then lN a / lN (Nat.gcd a b) else lN b / lN (Nat.gcd a b)
theorem k_frac {a b : Nat} (ha : a < 2 ^ 31) (h0 : 0 < b) (hb : b < 2 ^ 31) (x : Int32) : f_X3_partOfFraction (lN a) (lN b) x = some (m_fr a b x) := by
  have g0 : 0 < Nat.gcd a b := Nat.gcd_pos_of_pos_right _ h0
  have g1 : Nat.gcd a b ≤ b := Nat.gcd_le_right _ h0
  have e : f_X3_commonDivisor (lN a) (lN b) = some (lN (Nat.gcd a b)) := gcd_k 31 a b 0 100000 ha hb hb (by decide) (by decide)
  unfold f_X3_partOfFraction m_fr
  rw [e, zbds, if_pos ((lcmp0 (by omega)).2.2.mpr g0), zgt (nzl g0 (by omega)), zgt (nzl g0 (by omega))]
  split <;> rfl
theorem q_frac {a b : Nat} (ha : a < 2 ^ 31) (h0 : 0 < b) (hb : b < 2 ^ 31) (x : Int32) : f_X4_lowest (lN a) (lN b) x = some (m_fr a b x) := by
  have g0 : 0 < Nat.gcd a b := Nat.gcd_pos_of_pos_right _ h0
  have g1 : Nat.gcd a b ≤ b := Nat.gcd_le_right _ h0
  obtain ⟨fu, hfu⟩ : ∃ n : Nat, 100000 = n := ⟨_, rfl⟩
  have e := gcd_q (fun v1 => if x = 0 then zg (znzl v1) (some (lN a / v1)) else zg (znzl v1) (some (lN b / v1))) 31 a b fu ha hb hb (by omega)
  unfold f_X4_lowest m_fr
  rw [hfu]
  simp only [zjn1E]
  rw [e, zgt (nzl g0 (by omega)), zgt (nzl g0 (by omega))]
  split <;> rfl
theorem k_power (b : Nat) (hb : b < 2 ^ 31) {e : Nat} (he : e ≤ 100) : f_X3_power (nI b) (nI e) = some (lN (b ^ e)) := by
  have key : ∀ (k t n : Nat), t + k = e → k < n → zfix2 (b_X3_power_5 (nI b) (nI e)) n (lN (b ^ t)) (nI t) = some (lN (b ^ e)) := by
    intro k
    induction k with
    | zero =>
      intro t n ht hn
      obtain ⟨n, rfl⟩ : ∃ m, n = m + 1 := ⟨n - 1, by omega⟩
      show b_X3_power_5 _ _ (zfix2 _ n) _ _ = _
      generalize zfix2 (b_X3_power_5 (nI b) (nI e)) n = kk
      unfold b_X3_power_5
      rw [show t = e by omega, if_pos (nI_le (Nat.le_refl _) (by omega))]
    | succ k ih =>
      intro t n ht hn
      obtain ⟨n, rfl⟩ : ∃ m, n = m + 1 := ⟨n - 1, by omega⟩
      have h1 := ih (t + 1) n (by omega) (by omega)
      show b_X3_power_5 _ _ (zfix2 _ n) _ _ = _
      generalize zfix2 (b_X3_power_5 (nI b) (nI e)) n = kk at h1 ⊢
      unfold b_X3_power_5
      simp only [zletE]
      rw [if_neg (nI_ge (by omega) (by omega)), nI_l hb, lN_mul, ← Nat.pow_succ, show nI t + 1 = nI (t + 1) from nI_1 _]
      exact h1
  exact key e 0 100000 (by omega) (by omega)
theorem q_tens {e : Nat} (he : e ≤ 100) : f_X4_tens (nI e) = some (lN (10 ^ e)) := by
  have key : ∀ (k t n : Nat), t + k = e → k < n → zfix2 (b_X4_tens_5 (nI e)) n (lN (10 ^ t)) (nI t) = some (lN (10 ^ e)) := by
    intro k
    induction k with
    | zero =>
      intro t n ht hn
      obtain ⟨n, rfl⟩ : ∃ m, n = m + 1 := ⟨n - 1, by omega⟩
      show b_X4_tens_5 _ (zfix2 _ n) _ _ = _
      generalize zfix2 (b_X4_tens_5 (nI e)) n = kk
      unfold b_X4_tens_5
      rw [show t = e by omega, if_pos (nI_le (Nat.le_refl _) (by omega))]
    | succ k ih =>
      intro t n ht hn
      obtain ⟨n, rfl⟩ : ∃ m, n = m + 1 := ⟨n - 1, by omega⟩
      have h1 := ih (t + 1) n (by omega) (by omega)
      show b_X4_tens_5 _ (zfix2 _ n) _ _ = _
      generalize zfix2 (b_X4_tens_5 (nI e)) n = kk at h1 ⊢
      unfold b_X4_tens_5
      simp only [zletE]
      rw [if_neg (nI_ge (by omega) (by omega)), show lN (10 ^ t) * (10 : Int64) = lN (10 ^ t * 10) from lN_mul (10 ^ t) 10, ← Nat.pow_succ, show nI t + 1 = nI (t + 1) from nI_1 _]
      exact h1
  exact key e 0 100000 (by omega) (by omega)
/-! found, or not -/
def m_st : Nat → Nat → zP → Nat
  | 0, c, _ => c
  | k + 1, c, P => m_st k (if P 4 % 24 = 12 ∧ 0 < m_stand P then c + 1 else c) (m_hour P false)
theorem m_st_le : ∀ (k c : Nat) {P : zP}, Ok P → m_st k c P + (P 4 + 11) / 24 ≤ c + (P 4 + k + 11) / 24
  | 0, c, P, _ => by simp only [m_st]; omega
  | k + 1, c, P, h => by
    obtain ⟨o1, -, o3⟩ := m_hour_ok h false
    have := m_st_le k (if P 4 % 24 = 12 ∧ 0 < m_stand P then c + 1 else c) o1
    rw [o3] at this
    simp only [m_st]
    split at this
    · rename_i d
      rw [if_pos d]
      have := d.1
      omega
    · rename_i d
      rw [if_neg d]
      omega
theorem k_stay {w0 : zW} {m : Nat} (hm : m ≤ 96) (j : Int32 → zW → Option (Int64 × zW)) : ∀ (k t c n : Nat) (w : zW) (P : zP), t + k = m → k < n → CR w 10 P → Ok P → P 4 + k < 2 ^ 29 → zFQ w0 w → ∃ w', zfix3 (b_X3_stay_39 (nI m) j) n (nI c) (nI t) w = j (nI (m_st k c P)) w' ∧ zFQ w0 w' := by
  intro k
  induction k with
  | zero =>
    intro t c n w P ht hn hc hO hb hf
    obtain ⟨n, rfl⟩ : ∃ m, n = m + 1 := ⟨n - 1, by omega⟩
    refine ⟨w, ?_, hf⟩
    show b_X3_stay_39 _ _ (zfix3 _ n) _ _ _ = _
    generalize zfix3 (b_X3_stay_39 (nI m) j) n = kk
    unfold b_X3_stay_39
    rw [show t = m by omega, if_pos (nI_le (Nat.le_refl _) (by omega))]
    rfl
  | succ k ih =>
    intro t c n w P ht hn hc hO hb hf
    obtain ⟨n, rfl⟩ : ∃ m, n = m + 1 := ⟨n - 1, by omega⟩
    obtain ⟨w1, e1, c1, f1⟩ := k_passHour hc hO (by omega) false
    obtain ⟨o1, o2, o3⟩ := m_hour_ok hO false
    obtain ⟨w', g1, g2⟩ := ih (t + 1) (if P 4 % 24 = 12 ∧ 0 < m_stand P then c + 1 else c) n w1 (m_hour P false) (by omega) (by omega) c1 o1 (by rw [o3]; omega) (hf.tr f1.q10)
    refine ⟨w', ?_, g2⟩
    have hs := m_cnt_le P (P 0)
    have h4 := hO.1.1
    have cs : nI (m_stand P) ≤ 0 ↔ m_stand P ≤ 0 := nI_leI (b := 0) (by unfold m_stand; omega) (by decide)
    have c12 : nI (P 4 % 24) = 12 ↔ P 4 % 24 = 12 := nI_eq (b := 12) (by omega) (by decide)
    show b_X3_stay_39 _ _ (zfix3 _ n) _ _ _ = _
    generalize zfix3 (b_X3_stay_39 (nI m) j) n = kk at g1 ⊢
    unfold b_X3_stay_39
    simp only [zletE, zjn1E]
    rw [if_neg (nI_ge (by omega) (by omega)), hc.hr, show zrem (nI (P 4)) 24 = nI (P 4 % 24) from zrem_nI (d := 24) (by omega) (by decide) (by decide), k_standing hc hO, zbds, show f_X0_passHour w 10 0 = some w1 from e1, zbds, zbds, show nI t + 1 = nI (t + 1) from nI_1 _, show nI c + 1 = nI (c + 1) from nI_1 _]
    simp only [m_st]
    by_cases d1 : P 4 % 24 = 12
    · rw [if_pos (c12.mpr d1)]
      by_cases d2 : 0 < m_stand P
      · rw [if_neg (fun q => absurd (cs.mp q) (by omega))]
        rw [if_pos ⟨d1, d2⟩] at g1 ⊢
        exact g1
      · rw [if_pos (cs.mpr (by omega))]
        rw [if_neg (fun q => d2 q.2)] at g1 ⊢
        exact g1
    · rw [if_neg (fun q => d1 (c12.mp q))]
      rw [if_neg (fun q => d1 q.1)] at g1 ⊢
      exact g1
theorem q_stay {w0 : zW} {m fd : Nat} (hm : m ≤ 96) (hfd : fd ≤ 10) (h13 : w0 57 13 = nI fd) (j : Int64 → Int64 → zW → Option (Int64 × zW)) : ∀ (k t c n : Nat) (w : zW) (P : zP), t + k = m → k < n → PR w 80 0 P → Ok P → P 4 + k < 2 ^ 29 → zMQ w0 w → ∃ w', zfix4 (b_X4_stay_41 (nI m) j) n (lN (10 ^ c)) (lN ((10 - fd) ^ c)) (nI t) w = j (lN (10 ^ (m_st k c P))) (lN ((10 - fd) ^ (m_st k c P))) w' ∧ zMQ w0 w' := by
  intro k
  induction k with
  | zero =>
    intro t c n w P ht hn hc hO hb hf
    obtain ⟨n, rfl⟩ : ∃ m, n = m + 1 := ⟨n - 1, by omega⟩
    refine ⟨w, ?_, hf⟩
    show b_X4_stay_41 _ _ (zfix4 _ n) _ _ _ _ = _
    generalize zfix4 (b_X4_stay_41 (nI m) j) n = kk
    unfold b_X4_stay_41
    rw [show t = m by omega, if_pos (nI_le (Nat.le_refl _) (by omega))]
    rfl
  | succ k ih =>
    intro t c n w P ht hn hc hO hb hf
    obtain ⟨n, rfl⟩ : ∃ m, n = m + 1 := ⟨n - 1, by omega⟩
    have h4 := hO.1.1
    obtain ⟨w1, e1, c1, f1⟩ := q_goesOn (g := 80) (k := 3) (by decide) (by decide) 1 hc hO (by omega) (by omega) (by decide)
    obtain ⟨o1, o2, o3⟩ := m_hour_ok hO false
    obtain ⟨w', g1, g2⟩ := ih (t + 1) (if P 4 % 24 = 12 ∧ 0 < m_stand P then c + 1 else c) n w1 (m_hour P false) (by omega) (by omega) c1 o1 (by rw [o3]; omega) (hf.tr (f1.q (by decide)))
    refine ⟨w', ?_, g2⟩
    have hs := m_cnt_le P (P 0)
    have cs : nI (m_stand P) ≤ 0 ↔ m_stand P ≤ 0 := nI_leI (b := 0) (by unfold m_stand; omega) (by decide)
    have c12 : nI (P 4 % 24) = 12 ↔ P 4 % 24 = 12 := nI_eq (b := 12) (by omega) (by decide)
    have hw13 : w 57 13 = nI fd := by rw [hf.2.1 13 (by decide)]; exact h13
    have e10 : ((10 : Int32) - nI fd).toInt64 = lN (10 - fd) := by rw [show (10 : Int32) - nI fd = nI (10 - fd) from zsub_nI (a := 10) hfd, nI_l (by omega)]
    show b_X4_stay_41 _ _ (zfix4 _ n) _ _ _ _ = _
    generalize zfix4 (b_X4_stay_41 (nI m) j) n = kk at g1 ⊢
    unfold b_X4_stay_41
    simp only [zletE, zjn2E]
    rw [if_neg (nI_ge (by omega) (by omega)), show f_X4_hourOn w 80 = some (nI (P 4)) from q_hourOn (g := 80) hc (by decide), zbds, show zrem (nI (P 4)) 24 = nI (P 4 % 24) from zrem_nI (d := 24) (by omega) (by decide) (by decide), show f_X4_upOn w 80 = some (nI (m_stand P)) from q_upOn (g := 80) hc hO (by omega) (by decide), zbds, show f_X4_goesOn w 80 1 3 = some w1 from e1, zbds, zbds, show nI t + 1 = nI (t + 1) from nI_1 _, hw13, e10, show lN (10 ^ c) * (10 : Int64) = lN (10 ^ c * 10) from lN_mul (10 ^ c) 10, lN_mul, ← Nat.pow_succ, ← Nat.pow_succ]
    simp only [m_st]
    by_cases d1 : P 4 % 24 = 12
    · rw [if_pos (c12.mpr d1)]
      by_cases d2 : 0 < m_stand P
      · rw [if_neg (fun q => absurd (cs.mp q) (by omega))]
        rw [if_pos ⟨d1, d2⟩] at g1 ⊢
        exact g1
      · rw [if_pos (cs.mpr (by omega))]
        rw [if_neg (fun q => d2 q.2)] at g1 ⊢
        exact g1
    · rw [if_neg (fun q => d1 (c12.mp q))]
      rw [if_neg (fun q => d1 q.1)] at g1 ⊢
      exact g1
theorem o_stay (w : zW) (h : zJ w) (a1 a2 : Int32) : ∃ (r : Int64) (w1 : zW) (w2 : zW), f_X3_stay w a1 a2 = some (r, w1) ∧ f_X4_stay w1 a1 a2 = some (r, w2) ∧ zJ w2 := by
  obtain ⟨P, hN⟩ := h.1
  obtain ⟨h1, h2, h3, h4, h5⟩ := id hN
  have b0 := h3.1.1
  have b8 := h3.1.2.2.2.2.2.2.2
  have hi1 : f_X4_in a1.toInt64 (0 : Int64) (96 : Int64) = f_X3_within a1 0 96 := in_within a1 0 96
  have hi2 : f_X4_in a2.toInt64 (0 : Int64) (1 : Int64) = f_X3_within a2 0 1 := in_within a2 0 1
  have hw1 : f_X3_within a1 0 96 = 0 ∨ (f_X3_within a1 0 96 = 1 ∧ ∃ p, p ≤ 96 ∧ a1 = nI p) := winL a1 96 (by decide)
  obtain ⟨fu, hfu⟩ : ∃ n : Nat, 100000 = n := ⟨_, rfl⟩
  unfold f_X3_stay f_X4_stay
  rw [hfu]
  simp only [zjn2E, zjn3E]
  rw [hi1, hi2]
  rcases hw1 with e | ⟨e, m, hm, rfl⟩
  · rw [e, if_pos rfl]
    exact ⟨_, _, w, rfl, if_pos rfl, h⟩
  rw [e, if_neg n10]
  by_cases e2 : f_X3_within a2 0 1 = 0
  · rw [if_pos e2]
    refine ⟨_, _, w, rfl, ?_, h⟩
    rw [if_neg n10, if_pos e2]
  · rw [if_neg e2]
    obtain ⟨w1, e3, c3, f3⟩ := k_copyFrom (b := 10) h1 h3 (by decide)
    obtain ⟨w2, e4, f4⟩ := k_stay (w0 := w) hm (fun v4 w5 => zbd (f_X3_power 10 v4) fun v6 => zbd (f_X3_power (10 - w5 2 15) v4) fun v7 => zbd (f_X3_partOfFraction (v6 - v7) v6 a2) fun v8 => some (v8, w5)) m 0 0 fu w1 P (by omega) (by omega) c3 h3 (by omega) f3.q10
    have cl2 := zJ.cl hN f4
    obtain ⟨w3, e5, c5, f5⟩ := q_copies cl2.2 h3 (by omega) (g1 := 0) (by decide) (g2 := 80) (by decide) (by decide)
    obtain ⟨w4, e6, f6⟩ := q_stay (w0 := w2) hm b8 cl2.2.fd (fun v4 v5 w6 => zbd (f_X4_lowest (v4 - v5) v4 a2) fun v7 => some (v7, w6)) m 0 0 fu w3 P (by omega) (by omega) c5 h3 (by omega) (f5.q (by decide))
    have hle := m_st_le m 0 h3
    generalize m_st m 0 P = c at e4 e6 hle
    have hc : c ≤ 5 := by omega
    have p1 : 10 ^ c ≤ 10 ^ 5 := Nat.pow_le_pow_right (by decide) hc
    have p2 : (10 - P 8) ^ c ≤ 10 ^ c := Nat.pow_le_pow_left (by omega) c
    have p3 : 0 < 10 ^ c := Nat.pow_pos (by decide)
    have z1 : f_X3_power 10 (nI c) = some (lN (10 ^ c)) := k_power 10 (by decide) (by omega)
    have z2 : f_X3_power (nI (10 - P 8)) (nI c) = some (lN ((10 - P 8) ^ c)) := k_power (10 - P 8) (by omega) (by omega)
    have z3 : w2 2 15 = nI (P 8) := by rw [f4 2 (by decide)]; exact h1.fd
    have z4 : (10 : Int32) - nI (P 8) = nI (10 - P 8) := zsub_nI (a := 10) b8
    rw [e3, zbds, show zfix3 (b_X3_stay_39 (nI m) _) fu 0 0 w1 = _ from e4, z1, zbds, z3, z4, z2, zbds, lN_sub p2, k_frac (by omega) p3 (by omega) a2, zbds]
    refine ⟨_, w2, w4, rfl, ?_, h.q f4 f6⟩
    rw [if_neg n10, if_neg e2, show f_X4_copies w2 0 80 = some w3 from e5, zbds, show zfix4 (b_X4_stay_41 (nI m) _) fu 1 1 0 w3 = _ from e6, lN_sub p2, q_frac (by omega) p3 (by omega) a2, zbds]
