/-! the hours ahead -/
theorem k_told {w : zW} {b : Nat} {P : zP} (h : CR w b P) (hO : Ok P) {q : Nat} (hq : q ≤ 2) : f_X3_told w b (nI q) = some (nI (if q = 0 then P 3 else if q = 1 then P 5 else m_stand P)) := by
  unfold f_X3_told
  rw [h.ml, h.bt, k_standing h hO, zbds]
  rcases (show q = 0 ∨ q = 1 ∨ q = 2 by omega) with rfl | rfl | rfl <;> rfl
theorem q_told {w : zW} {P : zP} (h : PR w 80 0 P) (hO : Ok P) {q : Nat} (hq : q ≤ 2) : (if nI q = 0 then some (w 57 89, w) else if nI q = 1 then some (w 57 88, w) else zbd (f_X4_upOn w 80) fun v8 => some (v8, w)) = some (nI (if q = 0 then P 3 else if q = 1 then P 5 else m_stand P), w) := by
  have b0 := hO.1.1
  have hm : w 57 89 = nI (P 3) := h.ml
  have hb : w 57 88 = nI (P 5) := h.bt
  rw [hm, hb, show f_X4_upOn w 80 = some (nI (m_stand P)) from q_upOn (g := 80) h hO (by omega) (by decide), zbds]
  rcases (show q = 0 ∨ q = 1 ∨ q = 2 by omega) with rfl | rfl | rfl <;> rfl
theorem lev_cases {n : Nat} (hn : n ≤ 4) (a : Int32) : (((a < 10) ∨ f_X3_within (a - 10) 0 (nI n - 1) = 0) ∧ f_X3_within a 10 (9 + nI n) = 0) ∨ ((¬ a < 10) ∧ f_X3_within (a - 10) 0 (nI n - 1) = 1 ∧ f_X3_within a 10 (9 + nI n) = 1 ∧ ∃ p, p < n ∧ a = nI (10 + p)) := by
  have e9 : (9 : Int32) + nI n = nI (9 + n) := nI_add 9 n
  have up : ∀ p, p < n → (¬ nI (10 + p) < 10) ∧ f_X3_within (nI (10 + p) - 10) 0 (nI n - 1) = 1 ∧ f_X3_within (nI (10 + p)) 10 (9 + nI n) = 1 := by
    intro p hp
    refine ⟨nI_nlt (b := 10) (by omega) (by omega), ?_, ?_⟩
    · rw [show nI (10 + p) - 10 = nI p from by rw [show (10 : Int32) = nI 10 from rfl, zsub_nI (by omega)]; congr 1; omega]
      exact winN_t hp (by omega)
    · rw [e9]
      exact win_t (lo := 10) (by omega) (by omega) (by omega)
  by_cases h : a < 10
  · left
    refine ⟨.inl h, ?_⟩
    rw [within_eq, if_neg]
    intro q
    have h1 := q.1
    rw [Int32.le_iff_toInt_le] at h1
    rw [Int32.lt_iff_toInt_lt] at h
    omega
  · rcases winN_cases (a - 10) (N := n) (by omega) with e | ⟨e, p, hp, e1⟩
    · left
      refine ⟨.inr e, ?_⟩
      rcases (show f_X3_within a 10 (9 + nI n) = 0 ∨ (f_X3_within a 10 (9 + nI n) = 1 ∧ ∃ p, 10 ≤ p ∧ p ≤ 9 + n ∧ a = nI p) ∨ 9 + n < 10 from by rw [e9]; exact win_cases a 10 (9 + n) (by omega)) with d | ⟨d, p, p1, p2, rfl⟩ | d
      · exact d
      · have := (up (p - 10) (by omega)).2.1
        rw [show 10 + (p - 10) = p by omega, e] at this
        exact absurd this (by decide)
      · have hn0 : n = 0 := by omega
        subst hn0
        rw [within_eq, if_neg]
        intro q
        have h1 := q.1
        have h2 := q.2
        rw [Int32.le_iff_toInt_le] at h1 h2
        have t1 : ((9 : Int32) + nI 0).toInt = 9 := by decide
        have t2 : (10 : Int32).toInt = 10 := by decide
        omega
    · right
      have ea : a = nI (10 + p) := by
        have : a = (a - 10) + 10 := (Int32.sub_add_cancel a 10).symm
        rw [this, e1, show (10 : Int32) = nI 10 from rfl, nI_add, Nat.add_comm]
      obtain ⟨u1, u2, u3⟩ := up p hp
      rw [← ea] at u1 u2 u3
      exact ⟨u1, u2, u3, p, hp, ea⟩
theorem o_ahead (w : zW) (h : zJ w) (a1 a2 : Int32) : ∃ (r : Int32) (w1 : zW) (w2 : zW), f_X3_ahead w a1 a2 = some (r, w1) ∧ f_X4_ahead w1 a1 a2 = some (r, w2) ∧ zJ w2 := by
  obtain ⟨P, hN⟩ := h.1
  obtain ⟨h1, h2, h3, h4, h5⟩ := id hN
  have b0 := h3.1.1
  have b6 := h3.1.2.2.2.2.2.1
  have hi1 : f_X4_in a1.toInt64 (0 : Int64) (96 : Int64) = f_X3_within a1 0 96 := in_within a1 0 96
  have hi2 : f_X4_in a2.toInt64 (0 : Int64) (2 : Int64) = f_X3_within a2 0 2 := in_within a2 0 2
  have hi3 : ∀ {w1 : zW}, w1 56 2 = nI (P 0) → f_X4_in a2.toInt64 (10 : Int64) (9 + w1 56 2).toInt64 = f_X3_within a2 10 (9 + nI (P 0)) := fun e => by rw [e]; exact in_within a2 10 (9 + nI (P 0))
  have hw1 : f_X3_within a1 0 96 = 0 ∨ (f_X3_within a1 0 96 = 1 ∧ ∃ p, p ≤ 96 ∧ a1 = nI p) := winL a1 96 (by decide)
  have hw2 : f_X3_within a2 0 2 = 0 ∨ (f_X3_within a2 0 2 = 1 ∧ ∃ p, p ≤ 2 ∧ a2 = nI p) := winL a2 2 (by decide)
  unfold f_X3_ahead f_X4_ahead f_X3_isOne
  simp only [zjn1E, zjn0E]
  rw [hi1, hi2, h1.n]
  rcases hw1 with e | ⟨e, n, hn, rfl⟩
  · rw [e, if_pos rfl]
    refine ⟨_, _, w, ?_, if_pos rfl, h⟩
    rw [if_pos rfl]
    repeat' split
    all_goals rfl
  · rw [e]
    obtain ⟨w1, e3, c3, f3⟩ := k_copyFrom (b := 10) h1 h3 (by decide)
    obtain ⟨w2, e4, c4, f4⟩ := k_passHours b6 n c3 h3 (by omega) (by omega)
    obtain ⟨o1, o2, o3⟩ := m_hours_ok (P 6) n h3
    have fq := f3.q10.tr f4.q10
    have cl1 := zJ.cl hN f3.q10
    have cl2 := zJ.cl hN fq
    obtain ⟨w3, e5, c5, f5⟩ := q_copies cl2.2 h3 (by omega) (g1 := 0) (by decide) (g2 := 80) (by decide) (by decide)
    obtain ⟨w4, e6, c6, f6⟩ := q_goesOn (g := 80) b6 (by decide) n c5 h3 (by omega) (by omega) (by omega)
    have fm := (f5.q (by decide)).tr (f6.q (by decide))
    have hpl3 : w3 57 11 = nI (P 6) := by rw [f5.2 11 (by decide)]; exact cl2.2.pl
    have e5' : f_X4_copies w2 0 80 = some w3 := e5
    have e6' : f_X4_goesOn w3 80 (nI n) (nI (P 6)) = some w4 := e6
    have hq4 : CR w2 10 (m_hours (P 6) n P) := c4
    rcases lev_cases b0 a2 with ⟨hl, hl2⟩ | ⟨hl1, hl2, hl3, p, hp, rfl⟩
    · have hv : ∀ (x y : Option (Int32 × zW)), (if a2 < 10 then x else if f_X3_within (a2 - 10) 0 (nI (P 0) - 1) = 0 then x else y) = x := by
        intro x y
        rcases hl with hl | hl
        · rw [if_pos hl]
        · rw [if_pos hl]; split <;> rfl
      rw [hv, if_neg n10]
      rcases hw2 with d | ⟨d, q, hq, rfl⟩
      · rw [d, if_pos rfl]
        refine ⟨_, _, w, rfl, ?_, h⟩
        rw [if_neg n10, if_pos rfl, hi3 h5, hl2, if_pos rfl]
      · rw [d, if_neg n10, e3, zbds, cl1.1.pl, e4, zbds, k_told hq4 o1 hq, zbds]
        refine ⟨_, w2, w4, rfl, ?_, h.q fq fm⟩
        rw [if_neg n10, if_neg n10, e5', zbds, hpl3, e6', zbds]
        have := q_told c6 o1 hq
        rcases (show q = 0 ∨ q = 1 ∨ q = 2 by omega) with rfl | rfl | rfl
        · exact this
        · exact this
        · exact this
    · have hz1 : nI (10 + p) - 10 = nI p := by rw [show (10 : Int32) = nI 10 from rfl, zsub_nI (by omega)]; congr 1; omega
      have d : f_X3_within (nI (10 + p)) 0 2 = 0 := by
        rcases hw2 with d | ⟨d, q, hq, e9⟩
        · exact d
        · have := (nI_eq (by omega) (by omega)).mp e9
          omega
      have hp' : p < m_hours (P 6) n P 0 := by rw [o2.n]; exact hp
      have g3 : w2 (10 + 3) p = nI (m_hours (P 6) n P (30 + p)) := hq4.lv hp'
      have k3 : w4 57 (84 + p) = nI (m_hours (P 6) n P (30 + p)) := by have := c6.lv hp'; rw [Nat.zero_add] at this; exact this
      have z1 : zin (nI p) 4 = true := zin_nI (by omega) (by decide)
      have z2 : zin (nI (84 + p)) 120 = true := zin_nI (by omega) (by decide)
      have e83 : (84 : Int32) + nI (10 + p) = nI (84 + (10 + p)) := nI_add 84 (10 + p)
      have e84 : nI (84 + (10 + p)) - 10 = nI (84 + p) := (zsub_nI (a := 84 + (10 + p)) (b := 10) (by omega)).trans (congrArg nI (by omega))
      rw [if_neg hl1, hl2, if_neg n10, if_neg n10, d, if_pos rfl, e3, zbds, cl1.1.pl, e4, zbds, hz1, zgt z1, zxI (by omega), g3]
      refine ⟨_, w2, w4, rfl, ?_, h.q fq fm⟩
      have m0 : ¬ nI (10 + p) = 0 := nI_ne0 (by omega) (by omega)
      have m1 : ¬ nI (10 + p) = 1 := fun q => by have := (nI_eq (b := 1) (by omega) (by decide)).mp q; omega
      have m2 : ¬ nI (10 + p) = 2 := fun q => by have := (nI_eq (b := 2) (by omega) (by decide)).mp q; omega
      have h56 : w2 56 2 = nI (P 0) := by rw [fq 56 (by decide)]; exact h5
      rw [if_neg n10, if_pos rfl, hi3 h56, hl3, if_neg n10, e5', zbds, hpl3, e6', zbds, if_neg m0, if_neg m1, if_neg m2, e83, e84, zgt z2, zxI (by omega), k3]
def m_dn (plan p : Nat) : Nat → Nat → zP → Int32
  | 0, _, _ => -4
  | k + 1, t, P => if P (30 + p) = 0 then nI t else m_dn plan p k (t + 1) (m_hour P (m_walks P plan))
theorem k_down {w0 : zW} {plan p : Nat} (hpl : plan ≤ 3) (h13 : w0 2 13 = nI plan) : ∀ (k t n : Nat) (w : zW) (P : zP), t + k = 97 → k < n → CR w 10 P → Ok P → p < P 0 → P 4 + k < 2 ^ 29 → zFQ w0 w → ∃ w', zfix2 (b_X3_down_23 (nI p)) n (nI t) w = some (m_dn plan p k t P, w') ∧ zFQ w0 w' := by
  intro k
  induction k with
  | zero =>
    intro t n w P ht hn hc hO hp hb hf
    obtain ⟨n, rfl⟩ : ∃ m, n = m + 1 := ⟨n - 1, by omega⟩
    refine ⟨w, ?_, hf⟩
    show b_X3_down_23 _ (zfix2 _ n) _ _ = _
    generalize zfix2 (b_X3_down_23 (nI p)) n = kk
    unfold b_X3_down_23
    rw [show t = 97 by omega, if_pos (by decide)]
    rfl
  | succ k ih =>
    intro t n w P ht hn hc hO hp hb hf
    obtain ⟨n, rfl⟩ : ∃ m, n = m + 1 := ⟨n - 1, by omega⟩
    have c96 : (96 : Int32) < nI t ↔ 96 < t := nI_ltI (a := 96) (by decide) (by omega)
    obtain ⟨w1, e1, c1, f1⟩ := k_passHours hpl 1 hc hO (by omega) (by decide)
    obtain ⟨o1, o2, o3⟩ := m_hour_ok hO (m_walks P plan)
    obtain ⟨w', g1, g2⟩ := ih (t + 1) n w1 (m_hour P (m_walks P plan)) (by omega) (by omega) c1 o1 (by rw [o2.n]; exact hp) (by rw [o3]; omega) (hf.tr f1.q10)
    by_cases d : P (30 + p) = 0
    · refine ⟨w, ?_, hf⟩
      show b_X3_down_23 _ (zfix2 _ n) _ _ = _
      generalize zfix2 (b_X3_down_23 (nI p)) n = kk
      unfold b_X3_down_23
      simp only [m_dn, if_pos d]
      rw [if_neg (fun q => absurd (c96.mp q) (by omega)), k_isDown hc hO hp, if_pos d, zbds, if_neg n10]
    · refine ⟨w', ?_, g2⟩
      show b_X3_down_23 _ (zfix2 _ n) _ _ = _
      generalize zfix2 (b_X3_down_23 (nI p)) n = kk at g1 ⊢
      unfold b_X3_down_23
      simp only [m_dn, if_neg d, zletE]
      rw [if_neg (fun q => absurd (c96.mp q) (by omega)), k_isDown hc hO hp, if_neg d, zbds, if_pos rfl, show w 2 13 = nI plan from by rw [hf 2 (by decide)]; exact h13, show f_X0_passHours w 10 1 (nI plan) = some w1 from e1, zbds, show nI t + 1 = nI (t + 1) from nI_1 _]
      exact g1
theorem q_down {w0 : zW} {plan p : Nat} (hpl : plan ≤ 3) (h13 : w0 57 11 = nI plan) : ∀ (k t n : Nat) (w : zW) (P : zP), t + k = 97 → k < n → PR w 80 0 P → Ok P → p < P 0 → P 4 + k < 2 ^ 29 → zMQ w0 w → ∃ w', zfix2 (b_X4_down_19 (nI p)) n (nI t) w = some (m_dn plan p k t P, w') ∧ zMQ w0 w' := by
  intro k
  induction k with
  | zero =>
    intro t n w P ht hn hc hO hp hb hf
    obtain ⟨n, rfl⟩ : ∃ m, n = m + 1 := ⟨n - 1, by omega⟩
    refine ⟨w, ?_, hf⟩
    show b_X4_down_19 _ (zfix2 _ n) _ _ = _
    generalize zfix2 (b_X4_down_19 (nI p)) n = kk
    unfold b_X4_down_19
    rw [show t = 97 by omega, if_pos (by decide)]
    rfl
  | succ k ih =>
    intro t n w P ht hn hc hO hp hb hf
    obtain ⟨n, rfl⟩ : ∃ m, n = m + 1 := ⟨n - 1, by omega⟩
    have b0 := hO.1.1
    have c96 : (96 : Int32) < nI t ↔ 96 < t := nI_ltI (a := 96) (by decide) (by omega)
    obtain ⟨w1, e1, c1, f1⟩ := q_goesOn (g := 80) hpl (by decide) 1 hc hO (by omega) (by omega) (by decide)
    obtain ⟨o1, o2, o3⟩ := m_hour_ok hO (m_walks P plan)
    obtain ⟨w', g1, g2⟩ := ih (t + 1) n w1 (m_hour P (m_walks P plan)) (by omega) (by omega) c1 o1 (by rw [o2.n]; exact hp) (by rw [o3]; omega) (hf.tr (f1.q (by decide)))
    have hd : f_X4_isDown w 80 (nI p) = some (if P (30 + p) = 0 then 1 else 0) := by have := q_isDown hc hO (by omega) (g := 80) (by decide) hp; rw [Nat.zero_add] at this; exact this
    by_cases d : P (30 + p) = 0
    · refine ⟨w, ?_, hf⟩
      show b_X4_down_19 _ (zfix2 _ n) _ _ = _
      generalize zfix2 (b_X4_down_19 (nI p)) n = kk
      unfold b_X4_down_19
      simp only [m_dn, if_pos d]
      rw [if_neg (fun q => absurd (c96.mp q) (by omega)), hd, if_pos d, zbds, if_neg n10]
    · refine ⟨w', ?_, g2⟩
      show b_X4_down_19 _ (zfix2 _ n) _ _ = _
      generalize zfix2 (b_X4_down_19 (nI p)) n = kk at g1 ⊢
      unfold b_X4_down_19
      simp only [m_dn, if_neg d, zletE]
      rw [if_neg (fun q => absurd (c96.mp q) (by omega)), hd, if_neg d, zbds, if_pos rfl, show w 57 11 = nI plan from by rw [hf.2.1 11 (by decide)]; exact h13, show f_X4_goesOn w 80 1 (nI plan) = some w1 from e1, zbds, show nI t + 1 = nI (t + 1) from nI_1 _]
      exact g1
theorem o_down (w : zW) (h : zJ w) (a1 : Int32) : ∃ (r : Int32) (w1 : zW) (w2 : zW), f_X3_down w a1 = some (r, w1) ∧ f_X4_down w1 a1 = some (r, w2) ∧ zJ w2 := by
  obtain ⟨P, hN⟩ := h.1
  obtain ⟨h1, h2, h3, h4, h5⟩ := id hN
  have b0 := h3.1.1
  have b6 := h3.1.2.2.2.2.2.1
  unfold f_X3_down f_X4_down f_X3_isOne
  rw [h1.n]
  rcases winN_cases a1 (N := P 0) (by omega) with e | ⟨e, p, hp, rfl⟩
  · rw [e, if_pos rfl]
    refine ⟨_, _, w, rfl, ?_, h⟩
    rw [one4 h5, e, if_pos rfl]
  · obtain ⟨w1, e3, c3, f3⟩ := k_copyFrom (b := 10) h1 h3 (by decide)
    obtain ⟨w2, e4, f4⟩ := k_down (w0 := w) b6 h1.pl 97 0 100000 w1 P (by decide) (by decide) c3 h3 hp (by omega) f3.q10
    have cl2 := zJ.cl hN f4
    obtain ⟨w3, e5, c5, f5⟩ := q_copies cl2.2 h3 (by omega) (g1 := 0) (by decide) (g2 := 80) (by decide) (by decide)
    obtain ⟨w4, e6, f6⟩ := q_down (w0 := w2) b6 cl2.2.pl 97 0 100000 w3 P (by decide) (by decide) c5 h3 hp (by omega) (f5.q (by decide))
    rw [e, if_neg n10, e3, zbds, show zfix2 (b_X3_down_23 (nI p)) 100000 0 w1 = _ from e4]
    refine ⟨_, w2, w4, rfl, ?_, h.q f4 f6⟩
    rw [one4 (n := P 0) (by rw [f4 56 (by decide)]; exact h5), e, if_neg n10, show f_X4_copies w2 0 80 = some w3 from e5, zbds]
    exact e6
