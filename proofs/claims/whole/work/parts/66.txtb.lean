/-! text, from its start to its end -/
def Q00 : zP := fun j => if j = 2 then 20 else if j = 4 then 18 else 0
theorem Q00_ot : OT Q00 := by
  refine ⟨⟨by decide, fun p hp => ?_, fun i hi => ?_⟩, by decide, by decide, fun i hi => ?_⟩
  · exact absurd hp (by simp [Q00])
  · exact absurd hi (by simp [Q00])
  · exact absurd hi (by simp [Q00])
/-- the program's start -/
theorem k_txt0 {c : Nat → Nat} {N : Nat} {w : zW} (hN : N ≤ 160) (ht : ∀ i, i < N → c i ≤ 127 ∧ w 1 i = nI (c i)) : ∃ w8, (zbd (f_X0_clear (zup w 42 2 (nI N)) 10) fun w2 => some (zup (zup (zup (zup (zup (zup w2 42 5 0) 42 7 0) 42 8 0) 42 9 0) 42 10 0) 42 11 0)) = some w8 ∧ PS c N 0 w8 ∧ CR w8 10 Q00 ∧ w8 42 7 = nI 0 ∧ w8 42 8 = nI 0 ∧ w8 42 9 = nI 0 ∧ PX w w8 := by
  unfold f_X0_clear
  simp only [zletE]
  refine ⟨_, rfl, ⟨⟨hN, fun i hi => ?_, rfl⟩, Nat.zero_le _, rfl, rfl⟩, ⟨⟨rfl, rfl, rfl, rfl, rfl, rfl, rfl, rfl, rfl⟩, fun p hp => absurd hp (by simp [Q00]), fun i hi => absurd hi (by simp [Q00])⟩, rfl, rfl, rfl, fun k a b => ?_⟩
  · exact ht i hi
  · have a10 : k ≠ 10 := by omega
    simp only [zup_n _ _ _ a, zup_n _ _ _ a10]
theorem q_clrL {w0 : zW} (j : zW → Option (Int32 × zW)) : ∀ (k t n : Nat) (w : zW), t + k = 20 → k < n → (∀ q, q < t → w 60 q = 0) → (∀ q, q ≠ 60 → w q = w0 q) → ∃ w', zfix2 (b_X4_text_45 j) n (nI t) w = j w' ∧ (∀ q, q < 20 → w' 60 q = 0) ∧ ∀ q, q ≠ 60 → w' q = w0 q := by
  intro k
  induction k with
  | zero =>
    intro t n w ht hn h1 h2
    obtain ⟨n, rfl⟩ : ∃ m, n = m + 1 := ⟨n - 1, by omega⟩
    refine ⟨w, ?_, fun q hq => h1 q (by omega), h2⟩
    show b_X4_text_45 _ (zfix2 _ n) _ _ = _
    generalize zfix2 (b_X4_text_45 j) n = kk
    unfold b_X4_text_45
    rw [show t = 20 by omega, if_pos (by decide)]
  | succ k ih =>
    intro t n w ht hn h1 h2
    obtain ⟨n, rfl⟩ : ∃ m, n = m + 1 := ⟨n - 1, by omega⟩
    have c20 : (20 : Int32) ≤ nI t ↔ 20 ≤ t := nI_leI (a := 20) (by decide) (by omega)
    obtain ⟨w', g1, g2, g3⟩ := ih (t + 1) n (zup w 60 t 0) (by omega) (by omega) (fun q hq => by
      rw [zup_s]
      by_cases e : q = t
      · rw [e, upd_s]
      · rw [upd_n _ _ e]; exact h1 q (by omega)) (fun q hq => by rw [zup_n _ _ _ hq]; exact h2 q hq)
    refine ⟨w', ?_, g2, g3⟩
    show b_X4_text_45 _ (zfix2 _ n) _ _ = _
    generalize zfix2 (b_X4_text_45 j) n = kk at g1 ⊢
    unfold b_X4_text_45
    simp only [zletE]
    rw [if_neg (fun x => absurd (c20.mp x) (by omega)), zgt (zin_nI (by omega) (by decide)), zxI (by omega), show nI t + 1 = nI (t + 1) from nI_1 _]
    exact g1
theorem q_cpyL {w0 : zW} (j : zW → Option (Int32 × zW)) : ∀ (k t n : Nat) (w : zW), t + k = 20 → k < n → (∀ q, q < t → w 57 q = w0 60 q) → (∀ q, t ≤ q → w 57 q = w0 57 q) → (∀ q, q < 4 → q < t → w 58 q = w0 61 q) → (∀ q, q < 6 → q < t → w 59 q = w0 62 q) → (∀ q, q ≠ 57 → q ≠ 58 → q ≠ 59 → w q = w0 q) → ∃ w', zfix2 (b_X4_text_146 j) n (nI t) w = j w' ∧ (∀ q, q < 20 → w' 57 q = w0 60 q) ∧ (∀ q, 20 ≤ q → w' 57 q = w0 57 q) ∧ (∀ q, q < 4 → w' 58 q = w0 61 q) ∧ (∀ q, q < 6 → w' 59 q = w0 62 q) ∧ ∀ q, q ≠ 57 → q ≠ 58 → q ≠ 59 → w' q = w0 q := by
  intro k
  induction k with
  | zero =>
    intro t n w ht hn h1 h2 h3 h4 h5
    obtain ⟨n, rfl⟩ : ∃ m, n = m + 1 := ⟨n - 1, by omega⟩
    refine ⟨w, ?_, fun q hq => h1 q (by omega), fun q hq => h2 q (by omega), fun q hq => h3 q hq (by omega), fun q hq => h4 q hq (by omega), h5⟩
    show b_X4_text_146 _ (zfix2 _ n) _ _ = _
    generalize zfix2 (b_X4_text_146 j) n = kk
    unfold b_X4_text_146
    rw [show t = 20 by omega, if_pos (by decide)]
  | succ k ih =>
    intro t n w ht hn h1 h2 h3 h4 h5
    obtain ⟨n, rfl⟩ : ∃ m, n = m + 1 := ⟨n - 1, by omega⟩
    have c20 : (20 : Int32) ≤ nI t ↔ 20 ≤ t := nI_leI (a := 20) (by decide) (by omega)
    have r4 : zrem (nI t) 4 = nI (t % 4) := zrem_nI (d := 4) (by omega) (by decide) (by decide)
    have r6 : zrem (nI t) 6 = nI (t % 6) := zrem_nI (d := 6) (by omega) (by decide) (by decide)
    have e60 : w 60 t = w0 60 t := by rw [h5 60 (by decide) (by decide) (by decide)]
    have e61 : zup w 57 t (w0 60 t) 61 (t % 4) = w0 61 (t % 4) := by rw [zup_n _ _ _ (by decide), h5 61 (by decide) (by decide) (by decide)]
    have e62 : zup (zup w 57 t (w0 60 t)) 58 (t % 4) (w0 61 (t % 4)) 62 (t % 6) = w0 62 (t % 6) := by rw [zup_n _ _ _ (by decide), zup_n _ _ _ (by decide), h5 62 (by decide) (by decide) (by decide)]
    obtain ⟨w', g⟩ := ih (t + 1) n (zup (zup (zup w 57 t (w0 60 t)) 58 (t % 4) (w0 61 (t % 4))) 59 (t % 6) (w0 62 (t % 6))) (by omega) (by omega) (fun q hq => by
      rw [zup_n _ _ _ (by decide), zup_n _ _ _ (by decide), zup_s]
      by_cases e : q = t
      · rw [e, upd_s]
      · rw [upd_n _ _ e]; exact h1 q (by omega)) (fun q hq => by
      rw [zup_n _ _ _ (by decide), zup_n _ _ _ (by decide), zup_s, upd_n _ _ (by omega)]; exact h2 q (by omega)) (fun q hq4 hq => by
      rw [zup_n _ _ _ (by decide), zup_s]
      by_cases e : q = t % 4
      · rw [e, upd_s]
      · rw [upd_n _ _ e, zup_n _ _ _ (by decide)]; exact h3 q hq4 (by omega)) (fun q hq6 hq => by
      rw [zup_s]
      by_cases e : q = t % 6
      · rw [e, upd_s]
      · rw [upd_n _ _ e, zup_n _ _ _ (by decide), zup_n _ _ _ (by decide)]; exact h4 q hq6 (by omega)) (fun q a b c => by rw [zup_n _ _ _ c, zup_n _ _ _ b, zup_n _ _ _ a]; exact h5 q a b c)
    refine ⟨w', ?_, g.2⟩
    have g1 := g.1
    show b_X4_text_146 _ (zfix2 _ n) _ _ = _
    generalize zfix2 (b_X4_text_146 j) n = kk at g1 ⊢
    unfold b_X4_text_146
    simp only [zletE]
    rw [if_neg (fun x => absurd (c20.mp x) (by omega)), r4, r6, zgt (zin_nI (by omega) (by decide)), zgt (zin_nI (by omega) (by decide)), zxI (show t < 2 ^ 31 by omega), zgt (zin_nI (by omega) (by decide)), zgt (zin_nI (by omega) (by decide)), zxI (show t % 4 < 2 ^ 31 by omega), zgt (zin_nI (by omega) (by decide)), zgt (zin_nI (by omega) (by decide)), zxI (show t % 6 < 2 ^ 31 by omega), e60, e61, e62, show nI t + 1 = nI (t + 1) from nI_1 _]
    exact g1
/-- the reference's end -/
def qEnd (v11 : Int32) (w13 : zW) : Option (Int32 × zW) := if zup (zup w13 56 18 0) 56 19 (zup w13 56 18 0 56 20) 56 20 ≤ 0 then zfix2 (b_X4_text_146 fun w17 => some (v11, zup (zup (zup (zup (zup (zup (zup (zup w17 56 2 (w17 56 11)) 56 4 (zup w17 56 2 (w17 56 11) 56 12)) 56 5 (zup (zup w17 56 2 (w17 56 11)) 56 4 (zup w17 56 2 (w17 56 11) 56 12) 56 13)) 56 6 0) 56 7 (zup (zup (zup (zup w17 56 2 (w17 56 11)) 56 4 (zup w17 56 2 (w17 56 11) 56 12)) 56 5 (zup (zup w17 56 2 (w17 56 11)) 56 4 (zup w17 56 2 (w17 56 11) 56 12) 56 13)) 56 6 0 56 2)) 56 30 0) 67 0 (vp_nar .boolean 0)) 67 1 (vp_nar .boolean 0))) 100000 0 (zup (zup w13 56 18 0) 56 19 (zup w13 56 18 0 56 20)) else some (-10 - zup (zup w13 56 18 0) 56 19 (zup w13 56 18 0 56 20) 56 21, zup (zup w13 56 18 0) 56 19 (zup w13 56 18 0 56 20))
theorem q_text (w : zW) : f_X4_text w = zfix2 (b_X4_text_45 fun w9 => zbd (f_X4_step w9) fun w10 => zfix2 (b_X4_text_68 fun v11 w12 => if w12 56 20 = 0 then (if w12 56 16 < w12 56 12 then qEnd v11 w12 else zbd (f_X4_fails w12 6) fun w41 => qEnd v11 w41) else qEnd v11 w12) 100000 0 w10) 100000 0 (zup (zup (zup (zup (zup (zup (zup (zup w 56 20 0) 56 22 0) 56 11 0) 56 12 0) 56 13 20) 56 14 0) 56 15 0) 56 16 (-1)) := by
  obtain ⟨fu, hfu⟩ : ∃ n : Nat, 100000 = n := ⟨_, rfl⟩
  unfold f_X4_text qEnd
  rw [hfu]
  simp only [zletE, zjn1E, zjn2E]
theorem q_end_f {w : zW} {k : Nat} (h : w 56 20 = nI k) (h0 : 0 < k) (hk : k < 2 ^ 31) (v : Int32) : qEnd v w = some (-10 - w 56 21, zup (zup w 56 18 0) 56 19 (nI k)) := by
  have r : zup w 56 18 0 56 20 = nI k := h
  unfold qEnd
  rw [r, show zup (zup w 56 18 0) 56 19 (nI k) 56 20 = nI k from h, if_neg (nI_nle h0 hk)]
  rfl
theorem q_end_k {w : zW} (h : w 56 20 = 0) {Q : zP} {d : Nat} (hG : PG w Q d) (hO : OT Q) (hd : d < 8) (hh : hw d < nI (Q 1)) (v : Int32) : ∃ w', qEnd v w = some (v, w') ∧ PR w' 0 0 (m_dr Q d 3) ∧ w' 56 2 = nI (Q 0) ∧ w' 56 18 = 0 ∧ w' 56 19 = 0 ∧ w' 56 30 = 0 ∧ (∀ q, q < 2 → w' 67 q = 0) ∧ (∀ k, k ≠ 56 → k ≠ 57 → k ≠ 58 → k ≠ 59 → k ≠ 67 → w' k = w k) ∧ w' 56 35 = w 56 35 := by
  obtain ⟨fu, hfu⟩ : ∃ n : Nat, 100000 = n := ⟨_, rfl⟩
  obtain ⟨⟨a1, a2, a3⟩, ⟨b1, b2, b3, b4, b5, b6⟩, hp, hw', hdd⟩ := hG
  have q0 := hO.1.1.1
  have q1 := hO.1.1.2.1
  have e : ∀ k, k < 70 → m_dr Q d 3 k = Q k := fun k hk => by rw [m_dr_at, if_neg (by omega)]
  generalize hW : zup (zup w 56 18 0) 56 19 0 = W
  have W56 : ∀ j, j ≠ 18 → j ≠ 19 → W 56 j = w 56 j := fun j x y => by rw [← hW, zup_s, upd_n _ _ y, zup_s, upd_n _ _ x]
  have Wo : ∀ k, k ≠ 56 → W k = w k := fun k hk => by rw [← hW, zup_n _ _ _ hk, zup_n _ _ _ hk]
  have W18 : W 56 18 = 0 := by rw [← hW]; rfl
  have W19 : W 56 19 = 0 := by rw [← hW]; rfl
  obtain ⟨w17, g1, g2, g3, g4, g5, g6⟩ := q_cpyL (w0 := W) (fun w17 => some (v, zup (zup (zup (zup (zup (zup (zup (zup w17 56 2 (w17 56 11)) 56 4 (zup w17 56 2 (w17 56 11) 56 12)) 56 5 (zup (zup w17 56 2 (w17 56 11)) 56 4 (zup w17 56 2 (w17 56 11) 56 12) 56 13)) 56 6 0) 56 7 (zup (zup (zup (zup w17 56 2 (w17 56 11)) 56 4 (zup w17 56 2 (w17 56 11) 56 12)) 56 5 (zup (zup w17 56 2 (w17 56 11)) 56 4 (zup w17 56 2 (w17 56 11) 56 12) 56 13)) 56 6 0 56 2)) 56 30 0) 67 0 (vp_nar .boolean 0)) 67 1 (vp_nar .boolean 0))) 20 0 fu W (by decide) (by omega) (fun q hq => absurd hq (by omega)) (fun _ _ => rfl) (fun q _ hq => absurd hq (by omega)) (fun q _ hq => absurd hq (by omega)) (fun _ _ _ _ => rfl)
  have c11 : w17 56 11 = nI (Q 0) := by rw [g6 56 (by decide) (by decide) (by decide), W56 11 (by decide) (by decide)]; exact a1
  have c12 : w17 56 12 = nI (Q 1) := by rw [g6 56 (by decide) (by decide) (by decide), W56 12 (by decide) (by decide)]; exact a2
  have c13 : w17 56 13 = nI (Q 2) := by rw [g6 56 (by decide) (by decide) (by decide), W56 13 (by decide) (by decide)]; exact a3
  rw [c11, show zup w17 56 2 (nI (Q 0)) 56 12 = nI (Q 1) from c12, show zup (zup w17 56 2 (nI (Q 0))) 56 4 (nI (Q 1)) 56 13 = nI (Q 2) from c13, show zup (zup (zup (zup w17 56 2 (nI (Q 0))) 56 4 (nI (Q 1))) 56 5 (nI (Q 2))) 56 6 0 56 2 = nI (Q 0) from rfl, znar0] at g1
  generalize hX : zup (zup (zup (zup (zup (zup (zup (zup w17 56 2 (nI (Q 0))) 56 4 (nI (Q 1))) 56 5 (nI (Q 2))) 56 6 0) 56 7 (nI (Q 0))) 56 30 0) 67 0 0) 67 1 0 = X at g1
  have X2 : X 56 2 = nI (Q 0) := by rw [← hX]; rfl
  have X4 : X 56 4 = nI (Q 1) := by rw [← hX]; rfl
  have X5 : X 56 5 = nI (Q 2) := by rw [← hX]; rfl
  have X6 : X 56 6 = nI 0 := by rw [← hX]; rfl
  have X7 : X 56 7 = nI (Q 0) := by rw [← hX]; rfl
  have X18 : X 56 18 = w17 56 18 := by rw [← hX]; rfl
  have X19 : X 56 19 = w17 56 19 := by rw [← hX]; rfl
  have X30 : X 56 30 = 0 := by rw [← hX]; rfl
  have X35 : X 56 35 = w17 56 35 := by rw [← hX]; rfl
  have Xo : ∀ k, k ≠ 56 → k ≠ 67 → X k = w17 k := fun k x y => by rw [← hX, zup_n _ _ _ y, zup_n _ _ _ y, zup_n _ _ _ x, zup_n _ _ _ x, zup_n _ _ _ x, zup_n _ _ _ x, zup_n _ _ _ x, zup_n _ _ _ x]
  have X67 : ∀ q, q < 2 → X 67 q = 0 := fun q hq => by
    rcases (show q = 0 ∨ q = 1 by omega) with rfl | rfl
    · rw [← hX]; rfl
    · rw [← hX]; rfl
  have x57 : ∀ q, q < 20 → X 57 q = w 60 q := fun q hq => by rw [Xo 57 (by decide) (by decide), g2 q hq, Wo 60 (by decide)]
  have x58 : ∀ q, q < 4 → X 58 q = w 61 q := fun q hq => by rw [Xo 58 (by decide) (by decide), g4 q hq, Wo 61 (by decide)]
  have x59 : ∀ q, q < 6 → X 59 q = w 62 q := fun q hq => by rw [Xo 59 (by decide) (by decide), g5 q hq, Wo 62 (by decide)]
  refine ⟨X, ?_, ⟨⟨?_, ?_, X6, ?_⟩, ⟨?_, ?_, ?_, ?_, ?_, ?_⟩, fun p hpp => ?_, fun i hi => ?_⟩, X2, ?_, ?_, X30, X67, fun k k1 k2 k3 k4 k5 => ?_, ?_⟩
  · have r : zup w 56 18 0 56 20 = 0 := h
    unfold qEnd
    rw [hfu, r, hW, show W 56 20 = 0 from by rw [W56 20 (by decide) (by decide)]; exact h, if_pos (by decide)]
    exact g1
  · rw [e 1 (by decide)]; exact X4
  · rw [e 2 (by decide)]; exact X5
  · rw [e 0 (by decide)]; exact X7
  · rw [e 5 (by decide), Nat.zero_add, x57 8 (by decide)]; exact b1
  · rw [e 3 (by decide), Nat.zero_add, x57 9 (by decide)]; exact b2
  · rw [e 4 (by decide), Nat.zero_add, x57 10 (by decide)]; exact b3
  · rw [e 6 (by decide), Nat.zero_add, x57 11 (by decide)]; exact b4
  · rw [e 7 (by decide), Nat.zero_add, x57 12 (by decide)]; exact b5
  · rw [e 8 (by decide), Nat.zero_add, x57 13 (by decide)]; exact b6
  · rw [e 0 (by decide)] at hpp
    rw [Nat.zero_add, Nat.zero_add, Nat.zero_add, e _ (by omega), e _ (by omega), e _ (by omega), x57 p (by omega), x58 p (by omega), x57 (4 + p) (by omega)]
    exact hp p hpp
  · rw [e 1 (by decide)] at hi
    rw [Nat.zero_add, Nat.zero_add, e _ (by omega), e _ (by omega), e _ (by omega), x59 (2 * i) (by omega), x59 (2 * i + 1) (by omega), x57 (17 + i) (by omega), x57 (14 + i) (by omega)]
    obtain ⟨y1, y2, y3⟩ := hw' i hi
    refine ⟨y1, y2, y3, ?_⟩
    rw [hdd i (by omega), m_dr_at, show 70 + i - 70 = i by omega]
    by_cases b : d / 2 ^ i % 2 = 1
    · rw [if_pos ⟨by omega, by omega, b⟩, b]
    · rw [if_neg (fun z => b z.2.2), hO.2.2.2 i hi, show d / 2 ^ i % 2 = 0 by omega]
  · rw [X18, g6 56 (by decide) (by decide) (by decide)]; exact W18
  · rw [X19, g6 56 (by decide) (by decide) (by decide)]; exact W19
  · rw [Xo k k1 k5, g6 k k2 k3 k4, Wo k k1]
  · rw [X35, g6 56 (by decide) (by decide) (by decide), W56 35 (by decide) (by decide)]
