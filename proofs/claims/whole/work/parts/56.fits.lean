/-! kinds by a code -/
def m_kv (c n p : Nat) : Nat := c / 5 ^ (n - 1 - p) % 5
def m_kp (P : zP) (c n lo hi : Nat) : zP := fun j => if 10 + lo ≤ j ∧ j < 10 + hi then m_kv c n (j - 10) else P j
theorem m_kp_n (P : zP) (c n : Nat) {lo hi j : Nat} (h : j < 10 + lo ∨ 10 + hi ≤ j) : m_kp P c n lo hi j = P j := by
  unfold m_kp
  rw [if_neg (by omega)]
theorem m_kp_e (P : zP) (c n t : Nat) : m_kp P c n t t = P := by
  funext j
  exact m_kp_n P c n (by omega)
theorem m_kp_lo (P : zP) (c n : Nat) {s hi : Nat} (hs : s < hi) : m_kp P c n s hi = pu (m_kp P c n (s + 1) hi) (10 + s) (m_kv c n s) := by
  funext j
  unfold pu m_kp
  by_cases e : j = 10 + s
  · rw [if_pos e, if_pos (by omega), show j - 10 = s by omega]
  · rw [if_neg e]
    by_cases d : 10 + s ≤ j ∧ j < 10 + hi
    · rw [if_pos d, if_pos (by omega)]
    · rw [if_neg d, if_neg (by omega)]
theorem m_kp_hi (P : zP) (c n t : Nat) : m_kp P c n 0 (t + 1) = pu (m_kp P c n 0 t) (10 + t) (m_kv c n t) := by
  funext j
  unfold pu m_kp
  by_cases e : j = 10 + t
  · rw [if_pos e, if_pos (by omega), show j - 10 = t by omega]
  · rw [if_neg e]
    by_cases d : 10 + 0 ≤ j ∧ j < 10 + (t + 1)
    · rw [if_pos d, if_pos (by omega)]
    · rw [if_neg d, if_neg (by omega)]
theorem m_kv_le (c n p : Nat) : m_kv c n p ≤ 4 := by
  unfold m_kv
  have := Nat.mod_lt (c / 5 ^ (n - 1 - p)) (show 0 < 5 by decide)
  omega
theorem m_kp_ok {P : zP} (h : Ok P) (c n lo : Nat) {hi : Nat} (hh : hi ≤ 4) : Ok (m_kp P c n lo hi) := by
  obtain ⟨⟨h0, h1, h2, h3, h5, h6, h7, h8⟩, hp, hw⟩ := h
  have e : ∀ k, k < 10 → m_kp P c n lo hi k = P k := fun k hk => m_kp_n P c n (by omega)
  have e2 : ∀ k, 20 ≤ k → m_kp P c n lo hi k = P k := fun k hk => m_kp_n P c n (by omega)
  refine ⟨⟨?_, ?_, ?_, ?_, ?_, ?_, ?_, ?_⟩, fun q hq => ?_, fun i hi => ?_⟩ <;> (try rw [e _ (by decide)]) <;> first | assumption | skip
  · rw [e _ (by decide)] at hq
    have := hp q hq
    rw [e2 (20 + q) (by omega), e2 (30 + q) (by omega)]
    refine ⟨?_, this.2⟩
    unfold m_kp
    split
    · exact m_kv_le _ _ _
    · exact this.1
  · rw [e _ (by decide)] at hi
    rw [e2 (40 + i) (by omega), e2 (50 + i) (by omega), e2 (60 + i) (by omega), e2 (70 + i) (by omega)]
    exact hw i hi
theorem k_kdL {w0 : zW} {P : zP} {c : Nat} (hO : Ok P) (hc : c < 2 ^ 20) (j : zW → Option (Int32 × zW)) : ∀ (t nn : Nat) (w : zW), t ≤ P 0 → t < nn → CR w 10 (m_kp P c (P 0) t (P 0)) → zFQ w0 w → ∃ w', zfix3 (b_X3_isAsSeen_23 j) nn (nI (c / 5 ^ (P 0 - t))) (nI t + (-1)) w = j w' ∧ CR w' 10 (m_kp P c (P 0) 0 (P 0)) ∧ zFQ w0 w' := by
  have b0 := hO.1.1
  intro t
  induction t with
  | zero =>
    intro nn w ht hn hc hf
    obtain ⟨nn, rfl⟩ : ∃ m, nn = m + 1 := ⟨nn - 1, by omega⟩
    refine ⟨w, ?_, hc, hf⟩
    show b_X3_isAsSeen_23 _ (zfix3 _ nn) _ _ _ = _
    generalize zfix3 (b_X3_isAsSeen_23 j) nn = kk
    unfold b_X3_isAsSeen_23
    rw [if_pos (show nI 0 + (-1) < 0 by decide)]
  | succ s ih =>
    intro nn w ht hn hcr hf
    obtain ⟨nn, rfl⟩ : ∃ m, nn = m + 1 := ⟨nn - 1, by omega⟩
    have hd : c / 5 ^ (P 0 - (s + 1)) ≤ c := Nat.div_le_self _ _
    have e0 : m_kp P c (P 0) (s + 1) (P 0) 0 = P 0 := m_kp_n P c (P 0) (by omega)
    have hcr' : CR (zup w (10 + 1) s (nI (m_kv c (P 0) s))) 10 (m_kp P c (P 0) s (P 0)) := by
      rw [m_kp_lo P c (P 0) (show s < P 0 by omega)]
      exact hcr.fp (by rw [e0]; exact b0) 1 10 _ (by omega) (by rw [e0]; omega)
    obtain ⟨w', g1, g2, g3⟩ := ih nn _ (by omega) (by omega) hcr' (hf.tr (zFQ.up _ (by decide)))
    refine ⟨w', ?_, g2, g3⟩
    have ed : c / 5 ^ (P 0 - (s + 1)) / 5 = c / 5 ^ (P 0 - s) := by
      rw [Nat.div_div_eq_div_mul, ← Nat.pow_succ, show (P 0 - (s + 1)).succ = P 0 - s by omega]
    have ev : zrem (nI (c / 5 ^ (P 0 - (s + 1)))) 5 = nI (m_kv c (P 0) s) := by
      rw [show zrem (nI (c / 5 ^ (P 0 - (s + 1)))) 5 = nI (c / 5 ^ (P 0 - (s + 1)) % 5) from zrem_nI (d := 5) (by omega) (by decide) (by decide)]
      unfold m_kv
      rw [show P 0 - 1 - s = P 0 - (s + 1) by omega]
    rw [pk_m1 s]
    show b_X3_isAsSeen_23 _ (zfix3 _ nn) _ _ _ = _
    generalize zfix3 (b_X3_isAsSeen_23 j) nn = kk at g1 ⊢
    unfold b_X3_isAsSeen_23
    simp only [zletE]
    rw [if_neg (nI_pos (by omega)), zgt (zin_nI (by omega) (by decide)), zxI (by omega), ev, show nI (c / 5 ^ (P 0 - (s + 1))) / 5 = nI (c / 5 ^ (P 0 - (s + 1)) / 5) from pk_div (d := 5) (by omega) (by decide) (by decide), ed]
    exact g1
theorem q_kindOf {w : zW} {n c p : Nat} (h : w 56 2 = nI n) (hn : n ≤ 4) (hp : p < n) (hc : c < 2 ^ 20) : f_X4_kindOf w (nI c) (nI p) = some (nI (m_kv c n p)) := by
  have key : ∀ (k q nn : Nat), q = p + k → q < n → k < nn → zfix2 (b_X4_kindOf_10 (nI p)) nn (nI (c / 5 ^ (n - 1 - q))) (nI q) = some (nI (m_kv c n p)) := by
    intro k
    induction k with
    | zero =>
      intro q nn hq hqn hnn
      obtain ⟨nn, rfl⟩ : ∃ m, nn = m + 1 := ⟨nn - 1, by omega⟩
      have hd : c / 5 ^ (n - 1 - q) ≤ c := Nat.div_le_self _ _
      show b_X4_kindOf_10 _ (zfix2 _ nn) _ _ = _
      generalize zfix2 (b_X4_kindOf_10 (nI p)) nn = kk
      unfold b_X4_kindOf_10
      rw [if_pos (nI_le (by omega) (by omega)), show zrem (nI (c / 5 ^ (n - 1 - q))) 5 = nI (c / 5 ^ (n - 1 - q) % 5) from zrem_nI (d := 5) (by omega) (by decide) (by decide), show q = p by omega]
      rfl
    | succ k ih =>
      intro q nn hq hqn hnn
      obtain ⟨nn, rfl⟩ : ∃ m, nn = m + 1 := ⟨nn - 1, by omega⟩
      obtain ⟨q, rfl⟩ : ∃ m, q = m + 1 := ⟨q - 1, by omega⟩
      have hd : c / 5 ^ (n - 1 - (q + 1)) ≤ c := Nat.div_le_self _ _
      have g1 := ih q nn (by omega) (by omega) (by omega)
      have ed : c / 5 ^ (n - 1 - (q + 1)) / 5 = c / 5 ^ (n - 1 - q) := by
        rw [Nat.div_div_eq_div_mul, ← Nat.pow_succ, show (n - 1 - (q + 1)).succ = n - 1 - q by omega]
      show b_X4_kindOf_10 _ (zfix2 _ nn) _ _ = _
      generalize zfix2 (b_X4_kindOf_10 (nI p)) nn = kk at g1 ⊢
      unfold b_X4_kindOf_10
      simp only [zletE]
      rw [if_neg (nI_ge (by omega) (by omega)), show nI (c / 5 ^ (n - 1 - (q + 1))) / 5 = nI (c / 5 ^ (n - 1 - (q + 1)) / 5) from pk_div (d := 5) (by omega) (by decide) (by decide), ed, pk_m1 q]
      exact g1
  obtain ⟨fu, hfu⟩ : ∃ n : Nat, 100000 = n := ⟨_, rfl⟩
  have g := key (n - 1 - p) (n - 1) fu (by omega) (by omega) (by omega)
  rw [Nat.sub_self, Nat.pow_zero, Nat.div_one] at g
  unfold f_X4_kindOf
  rw [hfu, zletE, h, show nI n - 1 = nI (n - 1) from pk_sub (b := 1) (by omega)]
  exact g
theorem q_kdL {w0 : zW} {P : zP} {c : Nat} (hO : Ok P) (hc : c < 2 ^ 20) (h2 : w0 56 2 = nI (P 0)) (j : zW → Option (Int32 × zW)) : ∀ (k t nn : Nat) (w : zW), t + k = P 0 → k < nn → PR w 80 0 (m_kp P c (P 0) 0 t) → zMQ w0 w → ∃ w', zfix2 (b_X4_isAsSeen_9 (nI c) j) nn (nI t) w = j w' ∧ PR w' 80 0 (m_kp P c (P 0) 0 (P 0)) ∧ zMQ w0 w' := by
  have b0 := hO.1.1
  intro k
  induction k with
  | zero =>
    intro t nn w ht hn hp hf
    obtain ⟨nn, rfl⟩ : ∃ m, nn = m + 1 := ⟨nn - 1, by omega⟩
    have hw2 : w 56 2 = nI (P 0) := by rw [hf.2.2 2 (by decide)]; exact h2
    refine ⟨w, ?_, by rw [show t = P 0 by omega] at hp; exact hp, hf⟩
    show b_X4_isAsSeen_9 _ _ (zfix2 _ nn) _ _ = _
    generalize zfix2 (b_X4_isAsSeen_9 (nI c) j) nn = kk
    unfold b_X4_isAsSeen_9
    rw [hw2, if_pos (nI_le (by omega) (by omega))]
  | succ k ih =>
    intro t nn w ht hn hp hf
    obtain ⟨nn, rfl⟩ : ∃ m, nn = m + 1 := ⟨nn - 1, by omega⟩
    have hw2 : w 56 2 = nI (P 0) := by rw [hf.2.2 2 (by decide)]; exact h2
    have ok := m_kp_ok hO c (P 0) 0 (hi := t) (by omega)
    have e0 : m_kp P c (P 0) 0 t 0 = P 0 := m_kp_n P c (P 0) (by omega)
    have hp' : PR (zup w 57 (80 + t) (nI (m_kv c (P 0) t))) 80 0 (m_kp P c (P 0) 0 (t + 1)) := by
      rw [m_kp_hi]
      have := hp.fk (p := t) (by rw [e0]; omega) ok.1.2.1 (by rw [e0]; omega) (m_kv c (P 0) t)
      rw [Nat.zero_add] at this
      exact this
    obtain ⟨w', g1, g2, g3⟩ := ih (t + 1) nn _ (by omega) (by omega) hp' (hf.tr (zMQ.up _ (by omega)))
    refine ⟨w', ?_, g2, g3⟩
    show b_X4_isAsSeen_9 _ _ (zfix2 _ nn) _ _ = _
    generalize zfix2 (b_X4_isAsSeen_9 (nI c) j) nn = kk at g1 ⊢
    unfold b_X4_isAsSeen_9
    simp only [zletE]
    rw [hw2, if_neg (nI_ge (by omega) (by omega)), q_kindOf hw2 b0 (by omega) hc, zbds, show (80 : Int32) + nI t = nI (80 + t) from nI_add 80 t, zgt (zin_nI (by omega) (by decide)), zxI (by omega), show nI t + 1 = nI (t + 1) from nI_1 _]
    exact g1
/-- whether all is as seen, were they of these kinds -/
def m_sn (P : zP) (n : Nat) (hh cc : Nat → Nat) (c : Nat) : Bool := m_as (P 6) n hh cc (m_lh hh n) 1 (m_kp P c (P 0) 0 (P 0))
theorem k_isAsSeen {w : zW} {P : zP} {n c : Nat} {hh cc : Nat → Nat} (h : CR w 2 P) (hO : Ok P) (h4 : P 4 < 1000) (hs : SR w n hh cc) (hc : c < 2 ^ 20) : ∃ w' Q, f_X3_isAsSeen w (nI c) = some (zbi (m_sn P n hh cc c), w') ∧ CR w' 10 Q ∧ Q 0 = P 0 ∧ (∀ p, p < P 0 → Q (10 + p) = m_kv c (P 0) p) ∧ zFQ w w' := by
  have b0 := hO.1.1
  have b6 := hO.1.2.2.2.2.2.1
  obtain ⟨fu, hfu⟩ : ∃ n : Nat, 100000 = n := ⟨_, rfl⟩
  obtain ⟨w1, e1, c1, f1⟩ := k_copyFrom (b := 10) h hO (by decide)
  obtain ⟨w2, e2, c2, f2⟩ := k_kdL (w0 := w) (c := c) hO hc (fun w3 => zbd (f_X3_lastHourSeen w3) fun v4 => zfix2 (b_X3_isAsSeen_57 v4) fu 1 w3) (P 0) fu w1 (Nat.le_refl _) (by omega) (by rw [m_kp_e]; exact c1) f1.q10
  rw [Nat.sub_self, Nat.pow_zero, Nat.div_one] at e2
  have ok := m_kp_ok hO c (P 0) 0 (hi := P 0) b0
  have e0 : m_kp P c (P 0) 0 (P 0) 0 = P 0 := m_kp_n P c (P 0) (by omega)
  have e4 : m_kp P c (P 0) 0 (P 0) 4 = P 4 := m_kp_n P c (P 0) (by omega)
  have hl := m_lh_le hh n (fun i hi => (hs.2.2.2 i hi).2.1)
  obtain ⟨w3, Q, g1, g2, g3, g4⟩ := k_asL (w0 := w) (plan := P 6) hs b6 h.pl hl (m_lh hh n) 1 fu w2 _ (by omega) (by omega) c2 ok (by rw [e4]; omega) f2
  refine ⟨w3, Q, ?_, g2, by rw [g3.n, e0], fun p hp => ?_, g4⟩
  · unfold f_X3_isAsSeen
    rw [hfu]
    simp only [zletE, zjn1E]
    rw [e1, zbds, c1.n, Int32.sub_eq_add_neg, show zfix3 (b_X3_isAsSeen_23 _) fu (nI c) (nI (P 0) + -1) w1 = _ from e2, k_lastHour (hs.q f2), zbds]
    exact g1
  · rw [(g3.2.1 p (by omega)).1]
    unfold m_kp
    rw [if_pos (by omega), show 10 + p - 10 = p by omega]
theorem q_isAsSeen {w : zW} {P : zP} {n c : Nat} {hh cc : Nat → Nat} (h : PR w 0 0 P) (hO : Ok P) (h4 : P 4 < 1000) (h2 : w 56 2 = nI (P 0)) (hs : SR w n hh cc) (hc : c < 2 ^ 20) : ∃ w', f_X4_isAsSeen w (nI c) = some (zbi (m_sn P n hh cc c), w') ∧ zMQ w w' := by
  have b0 := hO.1.1
  have b6 := hO.1.2.2.2.2.2.1
  obtain ⟨fu, hfu⟩ : ∃ n : Nat, 100000 = n := ⟨_, rfl⟩
  obtain ⟨w1, e1, c1, f1⟩ := q_copies h hO (by omega) (g1 := 0) (by decide) (g2 := 80) (by decide) (by decide)
  obtain ⟨w2, e2, c2, f2⟩ := q_kdL (w0 := w) (c := c) hO hc h2 (fun w2 => zfix3 b_X4_isAsSeen_42 fu 1 1 w2) (P 0) 0 fu w1 (by omega) (by omega) (by rw [m_kp_e]; exact c1) (f1.q (by decide))
  have ok := m_kp_ok hO c (P 0) 0 (hi := P 0) b0
  have e4 : m_kp P c (P 0) 0 (P 0) 4 = P 4 := m_kp_n P c (P 0) (by omega)
  have hl := m_lh_le hh n (fun i hi => (hs.2.2.2 i hi).2.1)
  obtain ⟨w3, g1, g2⟩ := q_asL (w0 := w) (plan := P 6) hs b6 h.pl 24 1 fu w2 _ (by decide) (by omega) c2 ok (by rw [e4]; omega) f2
  have er := m_as_r (P 6) n hh cc (24 - m_lh hh n) (m_lh hh n) 1 (m_kp P c (P 0) 0 (P 0)) (fun i hi => by have := m_lh_ge hh n i hi; omega)
  rw [show m_lh hh n + (24 - m_lh hh n) = 24 by omega] at er
  refine ⟨w3, ?_, g2⟩
  unfold f_X4_isAsSeen m_sn
  rw [hfu]
  simp only [zjn1E]
  rw [show f_X4_copies w 0 80 = some w1 from e1, zbds, show zfix2 (b_X4_isAsSeen_9 (nI c) _) fu 0 w1 = _ from e2, ← er]
  exact g1
theorem q_allKinds {w : zW} {n : Nat} (h : w 56 2 = nI n) (hn : n ≤ 4) : f_X4_allKinds w = some (nI (5 ^ n)) := by
  have key : ∀ (k t nn : Nat), t + k = n → k < nn → zfix2 (b_X4_allKinds_4 w) nn (nI (5 ^ t)) (nI t) = some (nI (5 ^ n)) := by
    intro k
    induction k with
    | zero =>
      intro t nn ht hnn
      obtain ⟨nn, rfl⟩ : ∃ m, nn = m + 1 := ⟨nn - 1, by omega⟩
      show b_X4_allKinds_4 _ (zfix2 _ nn) _ _ = _
      generalize zfix2 (b_X4_allKinds_4 w) nn = kk
      unfold b_X4_allKinds_4
      rw [h, if_pos (nI_le (by omega) (by omega)), show t = n by omega]
    | succ k ih =>
      intro t nn ht hnn
      obtain ⟨nn, rfl⟩ : ∃ m, nn = m + 1 := ⟨nn - 1, by omega⟩
      have g1 := ih (t + 1) nn (by omega) (by omega)
      show b_X4_allKinds_4 _ (zfix2 _ nn) _ _ = _
      generalize zfix2 (b_X4_allKinds_4 w) nn = kk at g1 ⊢
      unfold b_X4_allKinds_4
      simp only [zletE]
      rw [h, if_neg (nI_ge (by omega) (by omega)), show nI (5 ^ t) * (5 : Int32) = nI (5 ^ t * 5) from pk_mul (5 ^ t) 5, ← Nat.pow_succ, show nI t + 1 = nI (t + 1) from nI_1 _]
      exact g1
  exact key n 0 100000 (by omega) (by omega)
theorem lcmp_ge {a b : Nat} (ha : a < 2 ^ 31) (hb : b < 2 ^ 31) : 0 ≤ lg_cmp (lN a) (lN b) ↔ b ≤ a := by
  unfold lg_cmp
  have h1 : lN a > lN b ↔ b < a := lN_lt hb ha
  have h2 : lN a = lN b ↔ a = b := lN_eq ha hb
  by_cases d : b < a
  · rw [if_pos (h1.mpr d)]
    exact ⟨fun _ => by omega, fun _ => by decide⟩
  · rw [if_neg (fun q => d (h1.mp q))]
    by_cases e : a = b
    · rw [if_pos (h2.mpr e)]
      exact ⟨fun _ => by omega, fun _ => by decide⟩
    · rw [if_neg (fun q => e (h2.mp q))]
      exact ⟨fun q => absurd q (by decide), fun _ => by omega⟩
def m_ct (f : Nat → Bool) : Nat → Nat → Nat
  | 0, _ => 0
  | r + 1, t => (if f t = true then 1 else 0) + m_ct f r (t + 1)
def m_fs (f : Nat → Bool) : Nat → Nat → Int32
  | 0, _ => -4
  | r + 1, t => if f t = true then nI t else m_fs f r (t + 1)
theorem zbi_0 (b : Bool) : zbi b = 0 ↔ b = false := by cases b <;> decide
theorem k_fits {w0 : zW} {P : zP} {n N q : Nat} {hh cc : Nat → Nat} (h : CR w0 2 P) (hO : Ok P) (h4 : P 4 < 1000) (hs : SR w0 n hh cc) (hN : N ≤ 625) (hq : q ≤ 1) : ∀ (k t x nn : Nat) (w : zW), t + k = N → k < nn → zFQ w0 w → ∃ w', zfix3 (b_X3_fits_28 (nI q) (lN N) (fun v3 w4 => if nI q = 0 then some (v3, w4) else some (-4, w4))) nn (nI x) (nI t) w = some (if q = 0 then nI (x + m_ct (m_sn P n hh cc) k t) else m_fs (m_sn P n hh cc) k t, w') ∧ zFQ w0 w' := by
  have c0 : nI q = 0 ↔ q = 0 := zeq0 (by omega)
  have c1 : nI q = 1 ↔ q = 1 := nI_eq (b := 1) (by omega) (by decide)
  intro k
  induction k with
  | zero =>
    intro t x nn w ht hn hf
    obtain ⟨nn, rfl⟩ : ∃ m, nn = m + 1 := ⟨nn - 1, by omega⟩
    refine ⟨w, ?_, hf⟩
    show b_X3_fits_28 _ _ _ (zfix3 _ nn) _ _ _ = _
    generalize zfix3 (b_X3_fits_28 (nI q) (lN N) (fun v3 w4 => if nI q = 0 then some (v3, w4) else some (-4, w4))) nn = kk
    unfold b_X3_fits_28
    rw [nI_l (by omega), if_pos ((lcmp_ge (by omega) (by omega)).mpr (by omega))]
    simp only [m_ct, m_fs, Nat.add_zero]
    by_cases d : q = 0
    · rw [if_pos (c0.mpr d), if_pos d]
    · rw [if_neg (fun z => d (c0.mp z)), if_neg d]
  | succ k ih =>
    intro t x nn w ht hn hf
    obtain ⟨nn, rfl⟩ : ∃ m, nn = m + 1 := ⟨nn - 1, by omega⟩
    have hc : CR w 2 P := h.frame (fun j x y => hf j (by omega))
    obtain ⟨w1, Q, e1, -, -, -, f1⟩ := k_isAsSeen (c := t) hc hO h4 (hs.q hf) (by omega)
    cases d : m_sn P n hh cc t with
    | false =>
      rw [d] at e1
      obtain ⟨w', g1, g2⟩ := ih (t + 1) x nn w1 (by omega) (by omega) (hf.tr f1)
      refine ⟨w', ?_, g2⟩
      show b_X3_fits_28 _ _ _ (zfix3 _ nn) _ _ _ = _
      generalize zfix3 (b_X3_fits_28 (nI q) (lN N) (fun v3 w4 => if nI q = 0 then some (v3, w4) else some (-4, w4))) nn = kk at g1 ⊢
      unfold b_X3_fits_28
      simp only [zletE, zjn1E]
      rw [nI_l (by omega), if_neg (fun z => absurd ((lcmp_ge (by omega) (by omega)).mp z) (by omega)), e1, zbd2s, if_pos (show zbi false = 0 from rfl), show nI t + 1 = nI (t + 1) from nI_1 _, g1]
      simp only [m_ct, m_fs]
      rw [d, if_neg Bool.false_ne_true, if_neg Bool.false_ne_true, Nat.zero_add]
    | true =>
      rw [d] at e1
      by_cases dq : q = 0
      · obtain ⟨w', g1, g2⟩ := ih (t + 1) (x + 1) nn w1 (by omega) (by omega) (hf.tr f1)
        refine ⟨w', ?_, g2⟩
        show b_X3_fits_28 _ _ _ (zfix3 _ nn) _ _ _ = _
        generalize zfix3 (b_X3_fits_28 (nI q) (lN N) (fun v3 w4 => if nI q = 0 then some (v3, w4) else some (-4, w4))) nn = kk at g1 ⊢
        unfold b_X3_fits_28
        simp only [zletE, zjn1E]
        rw [nI_l (by omega), if_neg (fun z => absurd ((lcmp_ge (by omega) (by omega)).mp z) (by omega)), e1, zbd2s, if_neg (show ¬ zbi true = 0 from n10), if_neg (fun z => by have := c1.mp z; omega), show nI t + 1 = nI (t + 1) from nI_1 _, show nI x + 1 = nI (x + 1) from nI_1 _, g1, if_pos dq, if_pos dq]
        simp only [m_ct]
        rw [d, if_pos rfl, show x + 1 + m_ct (m_sn P n hh cc) k (t + 1) = x + (1 + m_ct (m_sn P n hh cc) k (t + 1)) by omega]
      · refine ⟨w1, ?_, hf.tr f1⟩
        show b_X3_fits_28 _ _ _ (zfix3 _ nn) _ _ _ = _
        generalize zfix3 (b_X3_fits_28 (nI q) (lN N) (fun v3 w4 => if nI q = 0 then some (v3, w4) else some (-4, w4))) nn = kk
        unfold b_X3_fits_28
        simp only [zletE, zjn1E]
        rw [nI_l (by omega), if_neg (fun z => absurd ((lcmp_ge (by omega) (by omega)).mp z) (by omega)), e1, zbd2s, if_neg (show ¬ zbi true = 0 from n10), if_pos (c1.mpr (by omega)), if_neg dq]
        simp only [m_fs]
        rw [d, if_pos rfl]
theorem q_fits {w0 : zW} {P : zP} {n : Nat} {hh cc : Nat → Nat} (h : PR w0 0 0 P) (hO : Ok P) (h4 : P 4 < 1000) (h2 : w0 56 2 = nI (P 0)) (hs : SR w0 n hh cc) (j : Int32 → Int32 → zW → Option (Int32 × zW)) : ∀ (k t x nn : Nat) (y : Int32) (w : zW), t + k = 5 ^ (P 0) → k < nn → x ≤ t → (x = 0 → y = -4) → zMQ w0 w → ∃ w', zfix4 (b_X4_fits_20 j) nn (nI x) y (nI t) w = j (nI (x + m_ct (m_sn P n hh cc) k t)) (if x = 0 then m_fs (m_sn P n hh cc) k t else y) w' ∧ zMQ w0 w' := by
  have b0 := hO.1.1
  have p5 : 5 ^ (P 0) ≤ 5 ^ 4 := Nat.pow_le_pow_right (by decide) b0
  have hpr : ∀ w, zMQ w0 w → PR w 0 0 P := fun w hf => h.frame (by omega) hO.1.2.1 (fun j x y => hf.2.2 j (by omega)) (fun j x y => hf.2.1 j (by omega)) (hf.1 58 (by decide) (by decide)) (hf.1 59 (by decide) (by decide))
  intro k
  induction k with
  | zero =>
    intro t x nn y w ht hn hx hy hf
    obtain ⟨nn, rfl⟩ : ∃ m, nn = m + 1 := ⟨nn - 1, by omega⟩
    have hw2 : w 56 2 = nI (P 0) := by rw [hf.2.2 2 (by decide)]; exact h2
    refine ⟨w, ?_, hf⟩
    show b_X4_fits_20 _ (zfix4 _ nn) _ _ _ _ = _
    generalize zfix4 (b_X4_fits_20 j) nn = kk
    unfold b_X4_fits_20
    rw [q_allKinds hw2 b0, zbds, if_pos (nI_le (by omega) (by omega))]
    simp only [m_ct, m_fs, Nat.add_zero]
    by_cases d : x = 0
    · rw [if_pos d, hy d]
    · rw [if_neg d]
  | succ k ih =>
    intro t x nn y w ht hn hx hy hf
    obtain ⟨nn, rfl⟩ : ∃ m, nn = m + 1 := ⟨nn - 1, by omega⟩
    have hw2 : w 56 2 = nI (P 0) := by rw [hf.2.2 2 (by decide)]; exact h2
    have cx : nI x = 0 ↔ x = 0 := zeq0 (by omega)
    obtain ⟨w1, e1, f1⟩ := q_isAsSeen (c := t) (hpr w hf) hO h4 hw2 (hs.m hf) (by omega)
    cases d : m_sn P n hh cc t with
    | false =>
      rw [d] at e1
      obtain ⟨w', g1, g2⟩ := ih (t + 1) x nn y w1 (by omega) (by omega) (by omega) hy (hf.tr f1)
      refine ⟨w', ?_, g2⟩
      show b_X4_fits_20 _ (zfix4 _ nn) _ _ _ _ = _
      generalize zfix4 (b_X4_fits_20 j) nn = kk at g1 ⊢
      unfold b_X4_fits_20
      simp only [zletE, zjn1E, zjn2E]
      rw [q_allKinds hw2 b0, zbds, if_neg (nI_ge (by omega) (by omega)), e1, zbd2s, if_pos (show zbi false = 0 from rfl), show nI t + 1 = nI (t + 1) from nI_1 _, g1]
      simp only [m_ct, m_fs]
      rw [d, if_neg Bool.false_ne_true, if_neg Bool.false_ne_true, Nat.zero_add]
    | true =>
      rw [d] at e1
      obtain ⟨w', g1, g2⟩ := ih (t + 1) (x + 1) nn (if x = 0 then nI t else y) w1 (by omega) (by omega) (by omega) (fun z => absurd z (by omega)) (hf.tr f1)
      refine ⟨w', ?_, g2⟩
      show b_X4_fits_20 _ (zfix4 _ nn) _ _ _ _ = _
      generalize zfix4 (b_X4_fits_20 j) nn = kk at g1 ⊢
      unfold b_X4_fits_20
      simp only [zletE, zjn1E, zjn2E]
      rw [if_neg (show ¬ x + 1 = 0 by omega)] at g1
      rw [q_allKinds hw2 b0, zbds, if_neg (nI_ge (by omega) (by omega)), e1, zbd2s, if_neg (show ¬ zbi true = 0 from n10), show nI t + 1 = nI (t + 1) from nI_1 _, show nI x + 1 = nI (x + 1) from nI_1 _]
      simp only [m_ct, m_fs]
      rw [d, if_pos rfl, if_pos rfl, show x + (1 + m_ct (m_sn P n hh cc) k (t + 1)) = x + 1 + m_ct (m_sn P n hh cc) k (t + 1) by omega]
      by_cases dx : x = 0
      · rw [if_pos (cx.mpr dx), if_pos dx]
        rw [if_pos dx] at g1
        exact g1
      · rw [if_neg (fun z => dx (cx.mp z)), if_neg dx]
        rw [if_neg dx] at g1
        exact g1
theorem o_fits (w : zW) (h : zJ w) (a1 : Int32) : ∃ (r : Int32) (w1 : zW) (w2 : zW), f_X3_fits w a1 = some (r, w1) ∧ f_X4_fits w1 a1 = some (r, w2) ∧ zJ w2 := by
  obtain ⟨P, hN⟩ := h.1
  obtain ⟨n, hh, cc, hs⟩ := h.2.2.1.sr
  obtain ⟨h1, h2, h3, h4, h5⟩ := id hN
  have b0 := h3.1.1
  have p5 : 5 ^ (P 0) ≤ 5 ^ 4 := Nat.pow_le_pow_right (by decide) b0
  have hi1 : f_X4_in a1.toInt64 (0 : Int64) (1 : Int64) = f_X3_within a1 0 1 := in_within a1 0 1
  have hw1 : f_X3_within a1 0 1 = 0 ∨ (f_X3_within a1 0 1 = 1 ∧ ∃ p, p ≤ 1 ∧ a1 = nI p) := winL a1 1 (by decide)
  obtain ⟨fu, hfu⟩ : ∃ n : Nat, 100000 = n := ⟨_, rfl⟩
  unfold f_X3_fits f_X4_fits
  rw [hfu]
  simp only [zjn2E, zjn3E]
  rw [hi1]
  rcases hw1 with e | ⟨e, q, hq, rfl⟩
  · rw [e, if_pos rfl]
    exact ⟨_, _, w, rfl, if_pos rfl, h⟩
  · have z1 : f_X3_power 5 (nI (P 0)) = some (lN (5 ^ (P 0))) := k_power 5 (by decide) (by omega)
    have c0 : nI q = 0 ↔ q = 0 := zeq0 (by omega)
    obtain ⟨w2, e4, f4⟩ := k_fits (w0 := w) (N := 5 ^ (P 0)) (q := q) h1 h3 h4 hs (by omega) hq (5 ^ (P 0)) 0 0 fu w (by omega) (by omega) zFQ.rf
    have cl2 := zJ.cl hN f4
    obtain ⟨w4, e6, f6⟩ := q_fits (w0 := w2) cl2.2 h3 h4 (by rw [f4 56 (by decide)]; exact h5) (hs.q f4) (fun v2 v3 w4 => if nI q = 0 then some (v2, w4) else some (v3, w4)) (5 ^ (P 0)) 0 0 fu (-4) w2 (by omega) (by omega) (by omega) (fun _ => rfl) zMQ.rf
    rw [e, if_neg n10, h1.n, z1, zbds, show zfix3 (b_X3_fits_28 (nI q) (lN (5 ^ (P 0))) _) fu 0 0 w = _ from e4]
    refine ⟨_, w2, w4, rfl, ?_, h.q f4 f6⟩
    rw [if_neg n10, show zfix4 (b_X4_fits_20 _) fu 0 (-4) 0 w2 = _ from e6, if_pos rfl]
    by_cases d : q = 0
    · rw [if_pos (c0.mpr d), if_pos d]
    · rw [if_neg (fun z => d (c0.mp z)), if_neg d]
def m_kb (f : Nat → Bool) (g : Nat → Nat) : Nat → Nat → Int32 → Int32
  | 0, _, v => v
  | r + 1, t, v => m_kb f g r (t + 1) (if f t = true then v ||| ((1 : Int32) <<< (nI (g t) &&& 31)) else v)
theorem k_kinds {w0 : zW} {P : zP} {n N p : Nat} {hh cc : Nat → Nat} (h : CR w0 2 P) (hO : Ok P) (h4 : P 4 < 1000) (hs : SR w0 n hh cc) (hN : N ≤ 625) (hp : p < P 0) : ∀ (k t nn : Nat) (v : Int32) (w : zW), t + k = N → k < nn → zFQ w0 w → ∃ w', zfix3 (b_X3_kinds_27 (nI p) (lN N)) nn v (nI t) w = some (m_kb (m_sn P n hh cc) (fun c => m_kv c (P 0) p) k t v, w') ∧ zFQ w0 w' := by
  have b0 := hO.1.1
  have hz : zin (nI p) 4 = true := zin_nI (by omega) (by decide)
  have hx : zx (nI p) = p := zxI (by omega)
  intro k
  induction k with
  | zero =>
    intro t nn v w ht hn hf
    obtain ⟨nn, rfl⟩ : ∃ m, nn = m + 1 := ⟨nn - 1, by omega⟩
    refine ⟨w, ?_, hf⟩
    show b_X3_kinds_27 _ _ (zfix3 _ nn) _ _ _ = _
    generalize zfix3 (b_X3_kinds_27 (nI p) (lN N)) nn = kk
    unfold b_X3_kinds_27
    rw [nI_l (by omega), if_pos ((lcmp_ge (by omega) (by omega)).mpr (by omega))]
    rfl
  | succ k ih =>
    intro t nn v w ht hn hf
    obtain ⟨nn, rfl⟩ : ∃ m, nn = m + 1 := ⟨nn - 1, by omega⟩
    have hc : CR w 2 P := h.frame (fun j x y => hf j (by omega))
    obtain ⟨w1, Q, e1, q1, q2, q3, f1⟩ := k_isAsSeen (c := t) hc hO h4 (hs.q hf) (by omega)
    have hk : w1 (10 + 1) p = nI (m_kv t (P 0) p) := by rw [q1.kd (by rw [q2]; exact hp), q3 p hp]
    cases d : m_sn P n hh cc t with
    | false =>
      rw [d] at e1
      obtain ⟨w', g1, g2⟩ := ih (t + 1) nn v w1 (by omega) (by omega) (hf.tr f1)
      refine ⟨w', ?_, g2⟩
      show b_X3_kinds_27 _ _ (zfix3 _ nn) _ _ _ = _
      generalize zfix3 (b_X3_kinds_27 (nI p) (lN N)) nn = kk at g1 ⊢
      unfold b_X3_kinds_27
      simp only [zletE, zjn1E]
      rw [nI_l (by omega), if_neg (fun z => absurd ((lcmp_ge (by omega) (by omega)).mp z) (by omega)), e1, zbd2s, if_pos (show zbi false = 0 from rfl), show nI t + 1 = nI (t + 1) from nI_1 _, g1]
      simp only [m_kb]
      rw [d, if_neg Bool.false_ne_true]
    | true =>
      rw [d] at e1
      obtain ⟨w', g1, g2⟩ := ih (t + 1) nn (v ||| ((1 : Int32) <<< (nI (m_kv t (P 0) p) &&& 31))) w1 (by omega) (by omega) (hf.tr f1)
      refine ⟨w', ?_, g2⟩
      show b_X3_kinds_27 _ _ (zfix3 _ nn) _ _ _ = _
      generalize zfix3 (b_X3_kinds_27 (nI p) (lN N)) nn = kk at g1 ⊢
      unfold b_X3_kinds_27
      simp only [zletE, zjn1E]
      rw [nI_l (by omega), if_neg (fun z => absurd ((lcmp_ge (by omega) (by omega)).mp z) (by omega)), e1, zbd2s, if_neg (show ¬ zbi true = 0 from n10), zgt hz, hx, hk, show nI t + 1 = nI (t + 1) from nI_1 _, g1]
      simp only [m_kb]
      rw [d, if_pos rfl]
theorem q_kinds {w0 : zW} {P : zP} {n p : Nat} {hh cc : Nat → Nat} (h : PR w0 0 0 P) (hO : Ok P) (h4 : P 4 < 1000) (h2 : w0 56 2 = nI (P 0)) (hs : SR w0 n hh cc) (hp : p < P 0) : ∀ (k t nn : Nat) (v : Int32) (w : zW), t + k = 5 ^ (P 0) → k < nn → zMQ w0 w → ∃ w', zfix3 (b_X4_kinds_14 (nI p)) nn v (nI t) w = some (m_kb (m_sn P n hh cc) (fun c => m_kv c (P 0) p) k t v, w') ∧ zMQ w0 w' := by
  have b0 := hO.1.1
  have p5 : 5 ^ (P 0) ≤ 5 ^ 4 := Nat.pow_le_pow_right (by decide) b0
  have hpr : ∀ w, zMQ w0 w → PR w 0 0 P := fun w hf => h.frame (by omega) hO.1.2.1 (fun j x y => hf.2.2 j (by omega)) (fun j x y => hf.2.1 j (by omega)) (hf.1 58 (by decide) (by decide)) (hf.1 59 (by decide) (by decide))
  intro k
  induction k with
  | zero =>
    intro t nn v w ht hn hf
    obtain ⟨nn, rfl⟩ : ∃ m, nn = m + 1 := ⟨nn - 1, by omega⟩
    have hw2 : w 56 2 = nI (P 0) := by rw [hf.2.2 2 (by decide)]; exact h2
    refine ⟨w, ?_, hf⟩
    show b_X4_kinds_14 _ (zfix3 _ nn) _ _ _ = _
    generalize zfix3 (b_X4_kinds_14 (nI p)) nn = kk
    unfold b_X4_kinds_14
    rw [q_allKinds hw2 b0, zbds, if_pos (nI_le (by omega) (by omega))]
    rfl
  | succ k ih =>
    intro t nn v w ht hn hf
    obtain ⟨nn, rfl⟩ : ∃ m, nn = m + 1 := ⟨nn - 1, by omega⟩
    have hw2 : w 56 2 = nI (P 0) := by rw [hf.2.2 2 (by decide)]; exact h2
    obtain ⟨w1, e1, f1⟩ := q_isAsSeen (c := t) (hpr w hf) hO h4 hw2 (hs.m hf) (by omega)
    have hw21 : w1 56 2 = nI (P 0) := by rw [f1.2.2 2 (by decide)]; exact hw2
    cases d : m_sn P n hh cc t with
    | false =>
      rw [d] at e1
      obtain ⟨w', g1, g2⟩ := ih (t + 1) nn v w1 (by omega) (by omega) (hf.tr f1)
      refine ⟨w', ?_, g2⟩
      show b_X4_kinds_14 _ (zfix3 _ nn) _ _ _ = _
      generalize zfix3 (b_X4_kinds_14 (nI p)) nn = kk at g1 ⊢
      unfold b_X4_kinds_14
      simp only [zletE, zjn1E]
      rw [q_allKinds hw2 b0, zbds, if_neg (nI_ge (by omega) (by omega)), e1, zbd2s, if_pos (show zbi false = 0 from rfl), show nI t + 1 = nI (t + 1) from nI_1 _, Int32.or_zero, g1]
      simp only [m_kb]
      rw [d, if_neg Bool.false_ne_true]
    | true =>
      rw [d] at e1
      obtain ⟨w', g1, g2⟩ := ih (t + 1) nn (v ||| ((1 : Int32) <<< (nI (m_kv t (P 0) p) &&& 31))) w1 (by omega) (by omega) (hf.tr f1)
      refine ⟨w', ?_, g2⟩
      show b_X4_kinds_14 _ (zfix3 _ nn) _ _ _ = _
      generalize zfix3 (b_X4_kinds_14 (nI p)) nn = kk at g1 ⊢
      unfold b_X4_kinds_14
      simp only [zletE, zjn1E]
      rw [q_allKinds hw2 b0, zbds, if_neg (nI_ge (by omega) (by omega)), e1, zbd2s, if_neg (show ¬ zbi true = 0 from n10), q_kindOf hw21 b0 hp (by omega), zbds, show nI t + 1 = nI (t + 1) from nI_1 _, g1]
      simp only [m_kb]
      rw [d, if_pos rfl]
theorem o_kinds (w : zW) (h : zJ w) (a1 : Int32) : ∃ (r : Int32) (w1 : zW) (w2 : zW), f_X3_kinds w a1 = some (r, w1) ∧ f_X4_kinds w1 a1 = some (r, w2) ∧ zJ w2 := by
  obtain ⟨P, hN⟩ := h.1
  obtain ⟨n, hh, cc, hs⟩ := h.2.2.1.sr
  obtain ⟨h1, h2, h3, h4, h5⟩ := id hN
  have b0 := h3.1.1
  have p5 : 5 ^ (P 0) ≤ 5 ^ 4 := Nat.pow_le_pow_right (by decide) b0
  obtain ⟨fu, hfu⟩ : ∃ n : Nat, 100000 = n := ⟨_, rfl⟩
  unfold f_X3_kinds f_X4_kinds f_X3_isOne
  rw [hfu, h1.n]
  rcases winN_cases a1 (N := P 0) (by omega) with e | ⟨e, p, hp, rfl⟩
  · rw [e, if_pos rfl]
    refine ⟨_, _, w, rfl, ?_, h⟩
    rw [one4 h5, e, if_pos rfl]
  · have z1 : f_X3_power 5 (nI (P 0)) = some (lN (5 ^ (P 0))) := k_power 5 (by decide) (by omega)
    obtain ⟨w2, e4, f4⟩ := k_kinds (w0 := w) (N := 5 ^ (P 0)) (p := p) h1 h3 h4 hs (by omega) hp (5 ^ (P 0)) 0 fu 0 w (by omega) (by omega) zFQ.rf
    have cl2 := zJ.cl hN f4
    have h56 : w2 56 2 = nI (P 0) := by rw [f4 56 (by decide)]; exact h5
    obtain ⟨w4, e6, f6⟩ := q_kinds (w0 := w2) (p := p) cl2.2 h3 h4 h56 (hs.q f4) hp (5 ^ (P 0)) 0 fu 0 w2 (by omega) (by omega) zMQ.rf
    rw [e, if_neg n10, z1, zbds, show zfix3 (b_X3_kinds_27 (nI p) (lN (5 ^ (P 0)))) fu 0 0 w = _ from e4]
    refine ⟨_, w2, w4, rfl, ?_, h.q f4 f6⟩
    rw [one4 h56, e, if_neg n10]
    exact e6
