/-! text() -/
theorem txt_all {c : Nat → Nat} {N : Nat} {wc wm : zW} (hN : N ≤ 160) (hc : ∀ i, i < N → c i ≤ 127 ∧ wc 1 i = nI (c i)) (hm : ∀ i, i < N → wm 63 i = nI (c i)) (h18 : wm 56 18 = nI N) (hq : QN wm) : ∃ wc' wm' r, f_X2_readAll wc (nI N) = some wc' ∧ f_X4_text wm = some (r, wm') ∧ PX wc wc' ∧ wm' 56 18 = 0 ∧ wm' 56 35 = wm 56 35 ∧ ((∃ k, 0 < k ∧ k < 2 ^ 31 ∧ wc' 42 10 = nI k ∧ r = -10 - wc' 42 11 ∧ wm' 56 19 = nI k ∧ (∀ q, q ≠ 56 → q ≠ 60 → q ≠ 61 → q ≠ 62 → wm' q = wm q) ∧ ∀ j, j < 11 ∨ 25 < j → wm' 56 j = wm 56 j) ∨ (wc' 42 10 = 0 ∧ r = wc' 42 9 ∧ wm' 56 19 = 0 ∧ wm' 56 30 = 0 ∧ (∀ q, q < 2 → wm' 67 q = 0) ∧ (∀ q, q < 56 ∨ 63 ≤ q → q ≠ 67 → wm' q = wm q) ∧ ∃ P : zP, Ok P ∧ P 4 < 1000 ∧ CR wc' 10 P ∧ PR wm' 0 0 P ∧ wm' 56 2 = nI (P 0))) := by
  obtain ⟨fu, hfu⟩ : ∃ n : Nat, 100000 = n := ⟨_, rfl⟩
  -- the program's start
  obtain ⟨w8, e8, p8, c8, k7, k8, k9, x8⟩ := k_txt0 hN hc
  -- the reference's
  generalize hW : zup (zup (zup (zup (zup (zup (zup (zup wm 56 20 0) 56 22 0) 56 11 0) 56 12 0) 56 13 20) 56 14 0) 56 15 0) 56 16 (-1) = W
  have Wo : ∀ k, k ≠ 56 → W k = wm k := fun k hk => by rw [← hW, zup_n _ _ _ hk, zup_n _ _ _ hk, zup_n _ _ _ hk, zup_n _ _ _ hk, zup_n _ _ _ hk, zup_n _ _ _ hk, zup_n _ _ _ hk, zup_n _ _ _ hk]
  have W56 : ∀ j, j < 11 ∨ 22 < j ∨ j = 18 ∨ j = 19 → W 56 j = wm 56 j := fun j hj => by
    rw [← hW, zup_s, upd_n _ _ (by omega), zup_s, upd_n _ _ (by omega), zup_s, upd_n _ _ (by omega), zup_s, upd_n _ _ (by omega), zup_s, upd_n _ _ (by omega), zup_s, upd_n _ _ (by omega), zup_s, upd_n _ _ (by omega), zup_s, upd_n _ _ (by omega)]
  have W20 : W 56 20 = 0 := by rw [← hW]; rfl
  have W22 : W 56 22 = nI 0 := by rw [← hW]; rfl
  have W11 : W 56 11 = nI 0 := by rw [← hW]; rfl
  have W12 : W 56 12 = nI 0 := by rw [← hW]; rfl
  have W13 : W 56 13 = nI 20 := by rw [← hW]; rfl
  have W14 : W 56 14 = nI 0 := by rw [← hW]; rfl
  have W15 : W 56 15 = nI 0 := by rw [← hW]; rfl
  have W16 : W 56 16 = hw 0 := by rw [← hW]; rfl
  obtain ⟨jE, hjE⟩ : ∃ jE : Int32 → zW → Option (Int32 × zW), jE = fun v11 w12 => if w12 56 20 = 0 then (if w12 56 16 < w12 56 12 then qEnd v11 w12 else zbd (f_X4_fails w12 6) fun w41 => qEnd v11 w41) else qEnd v11 w12 := ⟨_, rfl⟩
  obtain ⟨w9, g1, g2, g3⟩ := q_clrL (w0 := W) (fun w9 => zbd (f_X4_step w9) fun w10 => zfix2 (b_X4_text_68 jE) fu 0 w10) 20 0 fu W (by decide) (by omega) (fun q hq => absurd hq (by omega)) (fun _ _ => rfl)
  have t9 : QT c N w9 := ⟨hN, fun i hi => ⟨(hc i hi).1, by rw [g3 63 (by decide), Wo 63 (by decide)]; exact hm i hi⟩, by rw [g3 56 (by decide), W56 18 (by omega)]; exact h18⟩
  obtain ⟨w10, s1, s2, s3, s4, s5⟩ := q_step t9 (Nat.zero_le N) (by rw [g3 56 (by decide)]; exact W22) (by rw [g3 56 (by decide)]; exact W20)
  have f10 : ∀ k, k ≠ 56 → k ≠ 60 → w10 k = wm k := fun k a b => by rw [s3.1 k a, g3 k b, Wo k a]
  have r60 : ∀ q, q < 20 → w10 60 q = 0 := fun q hq => by rw [s3.1 60 (by decide)]; exact g2 q hq
  have q10 : QS c N 0 w10 := ⟨t9.f s3, ⟨by rw [f10 64 (by decide) (by decide)]; exact hq.1, by rw [f10 65 (by decide) (by decide)]; exact hq.2⟩, Nat.zero_le N, s2, s4, s5⟩
  have r56 : ∀ j, j < 20 → w10 56 j = W 56 j := fun j hj => by rw [s3.2 j (by omega), g3 56 (by decide)]
  have hG0 : PG w10 Q00 0 := by
    refine ⟨⟨by rw [r56 11 (by decide)]; exact W11, by rw [r56 12 (by decide)]; exact W12, by rw [r56 13 (by decide)]; exact W13⟩, ⟨r60 8 (by decide), r60 9 (by decide), by rw [r60 10 (by decide)]; rfl, r60 11 (by decide), r60 12 (by decide), r60 13 (by decide)⟩, fun p hp => absurd hp (by simp [Q00]), fun i hi => absurd hi (by simp [Q00]), fun i hi => ?_⟩
    rw [r60 (14 + i) (by omega), Nat.zero_div]
    rfl
  have hL0 : zLS c N 0 w8 w10 Q00 0 0 0 := by
    refine ⟨p8, q10, c8, hG0, Q00_ot, ⟨k7, by rw [r56 14 (by decide)]; exact W14, by decide, by decide, fun k _ => Nat.zero_testBit k, fun k _ _ => by rw [Nat.zero_testBit, Nat.zero_testBit]⟩, ⟨k8, by rw [r56 15 (by decide)]; exact W15, by decide, by rw [r56 16 (by decide)]; exact W16⟩⟩
  obtain ⟨wc', wm', ln', z1, z2, z3, z4, z5⟩ := ls_loop (fun w9 => if w9 42 10 = 0 then (zbd (f_X2_dryUpWells w9) fun w11 => some w11) else some w9) jE (N - 0) 0 0 fu fu 0 w8 w10 Q00 0 0 0 (Nat.le_refl _) (Nat.le_refl _) (by omega) (by omega) hL0 k9
  have eA : f_X2_readAll wc (nI N) = (if wc' 42 10 = 0 then (zbd (f_X2_dryUpWells wc') fun w11 => some w11) else some wc') := by
    have ez : zmin (nI N) 160 = nI N := by rw [show zmin (nI N) 160 = nI (min N 160) from zmin_nI (b := 160) (by omega) (by decide), Nat.min_eq_left hN]
    unfold f_X2_readAll
    rw [hfu, ez]
    simp only [zletE, zjn1E]
    cases hcl : f_X0_clear (zup wc 42 2 (nI N)) 10 with
    | none => rw [hcl] at e8; exact absurd e8 (by intro q; cases q)
    | some w2 =>
      rw [hcl, zbds] at e8
      rw [zbds, Option.some.inj e8]
      exact z1
  have eT : f_X4_text wm = jE (nI ln') wm' := by
    rw [q_text, hfu, hW, ← hjE]
    rw [show zfix2 (b_X4_text_45 fun w9 => zbd (f_X4_step w9) fun w10 => zfix2 (b_X4_text_68 jE) fu 0 w10) fu 0 W = _ from g1, s1, zbds]
    exact z2
  have fm : ∀ q, q ≠ 56 → q ≠ 60 → q ≠ 61 → q ≠ 62 → wm' q = wm q := fun q a b c' d' => by rw [z4.1 q a b c' d', f10 q a b]
  have f56 : ∀ j, j < 11 ∨ 25 < j → wm' 56 j = wm 56 j := fun j hj => by rw [z4.2 j (by omega), s3.2 j (by omega), g3 56 (by decide), W56 j (by omega)]
  have px : PX wc wc' := x8.tr z3
  rw [eA, eT, hjE]
  have failing : ∀ (k : Nat) (w4 w5 : zW), 0 < k → k < 2 ^ 31 → w4 42 10 = nI k → w5 56 20 = nI k → w5 56 21 = w4 42 11 → (∀ q, q ≠ 56 → q ≠ 60 → q ≠ 61 → q ≠ 62 → w5 q = wm q) → (∀ j, j < 11 ∨ 25 < j → w5 56 j = wm 56 j) → ∃ wm'' r, qEnd (nI ln') w5 = some (r, wm'') ∧ wm'' 56 18 = 0 ∧ wm'' 56 35 = wm 56 35 ∧ (∃ k, 0 < k ∧ k < 2 ^ 31 ∧ w4 42 10 = nI k ∧ r = -10 - w4 42 11 ∧ wm'' 56 19 = nI k ∧ (∀ q, q ≠ 56 → q ≠ 60 → q ≠ 61 → q ≠ 62 → wm'' q = wm q) ∧ ∀ j, j < 11 ∨ 25 < j → wm'' 56 j = wm 56 j) := by
    intro k w4 w5 k0 k1 y1 y2 y3 y4 y5
    refine ⟨_, _, q_end_f y2 k0 k1 _, rfl, ?_, k, k0, k1, y1, by rw [y3], rfl, fun q a b c' d' => ?_, fun j hj => ?_⟩
    · rw [zup_s, upd_n _ _ (by decide), zup_s, upd_n _ _ (by decide)]; exact y5 35 (by omega)
    · rw [zup_n _ _ _ a, zup_n _ _ _ a]; exact y4 q a b c' d'
    · rw [zup_s, upd_n _ _ (by omega), zup_s, upd_n _ _ (by omega)]; exact y5 j hj
  rcases z5 with ⟨k, k0, k6, y1, y2, y3⟩ | ⟨h9, Q', d', hC', hG', hO', hd', h8', h16', h10', h20', h23', h2'⟩
  · have n1 : ¬ wc' 42 10 = 0 := by rw [y1]; exact nI_ne0 k0 (by omega)
    have n2 : ¬ wm' 56 20 = 0 := by rw [y2]; exact nI_ne0 k0 (by omega)
    obtain ⟨wm'', r, v1, v2, v3, v4⟩ := failing k wc' wm' k0 (by omega) y1 y2 y3 fm f56
    rw [if_neg n1]
    refine ⟨wc', wm'', r, rfl, ?_, px, v2, v3, .inl v4⟩
    show (if wm' 56 20 = 0 then _ else _) = _
    rw [if_neg n2]
    exact v1
  · obtain ⟨w4, y1, y2, y3, y4⟩ := k_dry hO' hd' hC' h8' h2'
    have n12 : wm' 56 12 = nI (Q' 1) := hG'.1.2.1
    rw [if_pos h10', y1, zbds]
    rcases y4 with ⟨dh, dc, d10⟩ | ⟨dh, d10, d11⟩
    · obtain ⟨wm'', v1, v2, v3, v4, v5, v6, v7, v8, v9⟩ := q_end_k h20' hG' hO' hd' dh (nI ln')
      obtain ⟨o1, o2, o3, o4⟩ := m_dr_ok hO' d' (t := 3)
      refine ⟨w4, wm'', nI ln', rfl, ?_, px.tr y2, v4, by rw [v9]; exact f56 35 (by omega), .inr ⟨by rw [d10]; exact h10', ?_, v5, v6, v7, fun q hq q67 => ?_, m_dr Q' d' 3, o1, ?_, dc, v2, by rw [o2]; exact v3⟩⟩
      · show (if wm' 56 20 = 0 then _ else _) = _
        rw [if_pos h20', h16', n12, if_pos dh]
        exact v1
      · rw [y3, h9]
      · rw [v8 q (by omega) (by omega) (by omega) (by omega) q67]; exact fm q (by omega) (by omega) (by omega) (by omega)
      · rw [o4]; have := hO'.2.2.1; omega
    · obtain ⟨u1, u2⟩ := QF.fl h20' 6
      obtain ⟨wm'', r, v1, v2, v3, v4⟩ := failing 6 w4 (zup (zup wm' 56 20 6) 56 21 (wm' 56 23)) (by decide) (by decide) d10 rfl (by rw [d11]; exact h23') (fun q a b c' d' => by rw [u2.1 q a]; exact fm q a b c' d') (fun j hj => by rw [u2.2 j (by omega)]; exact f56 j hj)
      refine ⟨w4, wm'', r, rfl, ?_, px.tr y2, v2, v3, .inl v4⟩
      show (if wm' 56 20 = 0 then _ else _) = _
      rw [if_pos h20', h16', n12, if_neg dh, u1, zbds]
      exact v1
theorem k_kept {w0 : zW} : ∀ (k t n : Nat) (w : zW), t + k = 2 → k < n → (∀ q, q < t → w 44 q = 0) → (∀ q, q ≠ 44 → w q = w0 q) → ∃ w', zfix2 b_X3_text_65 n (nI t) w = some (w0 42 9, w') ∧ (∀ q, q < 2 → w' 44 q = 0) ∧ ∀ q, q ≠ 44 → w' q = w0 q := by
  intro k
  induction k with
  | zero =>
    intro t n w ht hn h1 h2
    obtain ⟨n, rfl⟩ : ∃ m, n = m + 1 := ⟨n - 1, by omega⟩
    refine ⟨w, ?_, fun q hq => h1 q (by omega), h2⟩
    show b_X3_text_65 (zfix2 _ n) _ _ = _
    generalize zfix2 b_X3_text_65 n = kk
    unfold b_X3_text_65
    rw [show t = 2 by omega, if_pos (by decide), h2 42 (by decide)]
  | succ k ih =>
    intro t n w ht hn h1 h2
    obtain ⟨n, rfl⟩ : ∃ m, n = m + 1 := ⟨n - 1, by omega⟩
    have c2 : (2 : Int32) ≤ nI t ↔ 2 ≤ t := nI_leI (a := 2) (by decide) (by omega)
    obtain ⟨w', g1, g2, g3⟩ := ih (t + 1) n (zup w 44 t 0) (by omega) (by omega) (fun q hq => by
      rw [zup_s]
      by_cases e : q = t
      · rw [e, upd_s]
      · rw [upd_n _ _ e]; exact h1 q (by omega)) (fun q hq => by rw [zup_n _ _ _ hq]; exact h2 q hq)
    refine ⟨w', ?_, g2, g3⟩
    show b_X3_text_65 (zfix2 _ n) _ _ = _
    generalize zfix2 b_X3_text_65 n = kk at g1 ⊢
    unfold b_X3_text_65
    simp only [zletE]
    rw [if_neg (fun x => absurd (c2.mp x) (by omega)), zgt (zin_nI (by omega) (by decide)), zxI (by omega), znar0, show nI t + 1 = nI (t + 1) from nI_1 _]
    exact g1
theorem o_text (w : zW) (h : zJ w) (_ : Unit) : ∃ (r : Int32) (w1 : zW) (w2 : zW), f_X3_text w = some (r, w1) ∧ f_X4_text w1 = some (r, w2) ∧ zJ w2 := by
  obtain ⟨⟨P, hN⟩, ⟨N, hN160, t1, t2, t3⟩, hS, hK, hH, hF⟩ := id h
  obtain ⟨h1, h2, h3, h4, h5⟩ := id hN
  obtain ⟨F1, F2, F3, F4⟩ := id hF
  have b0 := h3.1.1
  obtain ⟨fu, hfu⟩ : ∃ n : Nat, 100000 = n := ⟨_, rfl⟩
  obtain ⟨c, hc⟩ : ∃ c : Nat → Nat, ∀ i, i < N → c i ≤ 127 ∧ w 1 i = nI (c i) ∧ w 63 i = nI (c i) := by
    refine ⟨fun i => zx (w 1 i), fun i hi => ?_⟩
    obtain ⟨q, q1, q2, q3⟩ := t3 i hi
    have e : zx (w 1 i) = q := by rw [q2]; exact zxI (by omega)
    show zx (w 1 i) ≤ 127 ∧ w 1 i = nI (zx (w 1 i)) ∧ w 63 i = nI (zx (w 1 i))
    rw [e]
    exact ⟨q1, q2, q3⟩
  have hcc : ∀ i, i < N → c i ≤ 127 ∧ zup w 0 1 0 1 i = nI (c i) := fun i hi => ⟨(hc i hi).1, by rw [zup_n _ _ _ (by decide)]; exact (hc i hi).2.1⟩
  -- the program alone, at first
  obtain ⟨w3, wmx, rx, a1, -, a3, -, -, a6⟩ := txt_all (wc := zup w 0 1 0) (wm := w) hN160 hcc (fun i hi => (hc i hi).2.2) t2 ⟨F3, F4⟩
  have r3 : ∀ k, k ≠ 0 → k ≠ 42 → ¬ (10 ≤ k ∧ k < 18) → w3 k = w k := fun k x y z => by rw [a3 k y z, zup_n _ _ _ x]
  have r30 : ∀ j, j ≠ 1 → w3 0 j = w 0 j := fun j hj => by rw [a3 0 (by decide) (by decide), zup_s, upd_n _ _ hj]
  have r31 : w3 0 1 = 0 := by rw [a3 0 (by decide) (by decide), zup_s, upd_s]
  have second : ∀ w1 : zW, (∀ k, 56 ≤ k → w1 k = w k) → ∃ wm' r, f_X4_text w1 = some (r, wm') ∧ wm' 56 18 = 0 ∧ wm' 56 35 = w1 56 35 ∧ ((∃ k, 0 < k ∧ k < 2 ^ 31 ∧ w3 42 10 = nI k ∧ r = -10 - w3 42 11 ∧ wm' 56 19 = nI k ∧ (∀ q, q ≠ 56 → q ≠ 60 → q ≠ 61 → q ≠ 62 → wm' q = w1 q) ∧ ∀ j, j < 11 ∨ 25 < j → wm' 56 j = w1 56 j) ∨ (w3 42 10 = 0 ∧ r = w3 42 9 ∧ wm' 56 19 = 0 ∧ wm' 56 30 = 0 ∧ (∀ q, q < 2 → wm' 67 q = 0) ∧ (∀ q, q < 56 ∨ 63 ≤ q → q ≠ 67 → wm' q = w1 q) ∧ ∃ P : zP, Ok P ∧ P 4 < 1000 ∧ CR w3 10 P ∧ PR wm' 0 0 P ∧ wm' 56 2 = nI (P 0))) := by
    intro w1 hw1
    obtain ⟨w3', wm', r, x1, x2, x3, x4, x5, x6⟩ := txt_all (wc := zup w 0 1 0) (wm := w1) hN160 hcc (fun i hi => by rw [hw1 63 (by decide)]; exact (hc i hi).2.2) (by rw [hw1 56 (by decide)]; exact t2) ⟨by rw [hw1 64 (by decide)]; exact F3, by rw [hw1 65 (by decide)]; exact F4⟩
    have e3 : w3' = w3 := Option.some.inj (x1.symm.trans a1)
    rw [e3] at x6
    exact ⟨wm', r, x2, x4, x5, x6⟩
  have a6' : (∃ k, 0 < k ∧ k < 2 ^ 31 ∧ w3 42 10 = nI k) ∨ (w3 42 10 = 0 ∧ ∃ P : zP, Ok P ∧ P 4 < 1000 ∧ CR w3 10 P) := by
    rcases a6 with ⟨k, k0, k1, k2, -⟩ | ⟨k2, -, -, -, -, -, P', q1, q2, q3, -⟩
    · exact .inl ⟨k, k0, k1, k2⟩
    · exact .inr ⟨k2, P', q1, q2, q3⟩
  unfold f_X3_text
  rw [hfu]
  simp only [zletE]
  rw [t1, a1, zbds, show zup w3 0 2 (w3 42 10) 0 2 = w3 42 10 from rfl]
  rcases a6' with ⟨k, k0, k1, k2⟩ | ⟨k2, P', q1, q2, q3⟩
  · -- a fault
    have n1 : ¬ w3 42 10 = 0 := by rw [k2]; exact nI_ne0 k0 k1
    obtain ⟨wm', r, x2, x4, x5, x6⟩ := second (zup w3 0 2 (w3 42 10)) (fun k hk => by rw [zup_n _ _ _ (by omega)]; exact r3 k (by omega) (by omega) (by omega))
    rw [if_neg n1]
    rcases x6 with ⟨k', k0', k1', k2', rr, v19, vq, vj⟩ | ⟨k2', -⟩
    · refine ⟨_, _, wm', rfl, by rw [x2, rr]; rfl, ?_⟩
      have s : ∀ q, q ≠ 0 → q ≠ 42 → ¬ (10 ≤ q ∧ q < 18) → q ≠ 56 → q ≠ 60 → q ≠ 61 → q ≠ 62 → wm' q = w q := fun q y0 y1 y2 y3 y4 y5 y6 => by rw [vq q y3 y4 y5 y6, zup_n _ _ _ y0]; exact r3 q y0 y1 y2
      have s0 : ∀ j, j ≠ 1 → j ≠ 2 → wm' 0 j = w 0 j := fun j y1 y2 => by rw [vq 0 (by decide) (by decide) (by decide) (by decide), zup_s, upd_n _ _ y2]; exact r30 j y1
      have s6 : ∀ j, j < 11 ∨ 25 < j → wm' 56 j = w 56 j := fun j hj => by rw [vj j hj, zup_n _ _ _ (by decide), r3 56 (by decide) (by decide) (by decide)]
      refine ⟨⟨P, h1.frame (fun q _ _ => s q (by omega) (by omega) (by omega) (by omega) (by omega) (by omega) (by omega)), ?_, h3, h4, by rw [s6 2 (by omega)]; exact h5⟩, ⟨0, by decide, ?_, x4, fun i hi => absurd hi (by omega)⟩, ?_, ?_, ?_, ?_, ?_, ?_, ?_⟩
      · exact h2.frame (by omega) h3.1.2.1 (fun j _ _ => s6 j (by omega)) (fun j _ _ => by rw [s 57 (by decide) (by decide) (by decide) (by decide) (by decide) (by decide) (by decide)]) (s 58 (by decide) (by decide) (by decide) (by decide) (by decide) (by decide) (by decide)) (s 59 (by decide) (by decide) (by decide) (by decide) (by decide) (by decide) (by decide))
      · rw [vq 0 (by decide) (by decide) (by decide) (by decide), zup_s, upd_n _ _ (by decide)]; exact r31
      · exact hS.fr (s0 11 (by decide) (by decide)) (s 45 (by decide) (by decide) (by decide) (by decide) (by decide) (by decide) (by decide)) (s 46 (by decide) (by decide) (by decide) (by decide) (by decide) (by decide) (by decide)) (s6 30 (by omega)) (s 66 (by decide) (by decide) (by decide) (by decide) (by decide) (by decide) (by decide))
      · exact hK.fr (s 44 (by decide) (by decide) (by decide) (by decide) (by decide) (by decide) (by decide)) (s 67 (by decide) (by decide) (by decide) (by decide) (by decide) (by decide) (by decide)) (fun j _ _ => s j (by omega) (by omega) (by omega) (by omega) (by omega) (by omega) (by omega)) (fun j _ _ => s6 j (by omega)) (fun j _ _ => by rw [s 57 (by decide) (by decide) (by decide) (by decide) (by decide) (by decide) (by decide)]) (s 58 (by decide) (by decide) (by decide) (by decide) (by decide) (by decide) (by decide)) (s 59 (by decide) (by decide) (by decide) (by decide) (by decide) (by decide) (by decide))
      · exact hH.fr (fun j _ _ => s j (by omega) (by omega) (by omega) (by omega) (by omega) (by omega) (by omega)) (s 68 (by decide) (by decide) (by decide) (by decide) (by decide) (by decide) (by decide)) (s 69 (by decide) (by decide) (by decide) (by decide) (by decide) (by decide) (by decide)) (s 70 (by decide) (by decide) (by decide) (by decide) (by decide) (by decide) (by decide))
      · rw [v19, vq 0 (by decide) (by decide) (by decide) (by decide), zup_s, upd_s, k2']
      · rw [s6 35 (by omega), s0 13 (by decide) (by decide)]; exact F2
      · rw [s 64 (by decide) (by decide) (by decide) (by decide) (by decide) (by decide) (by decide)]; exact F3
      · rw [s 65 (by decide) (by decide) (by decide) (by decide) (by decide) (by decide) (by decide)]; exact F4
    · exact absurd k2' n1
  · -- taken
    rw [if_pos k2]
    have hc4 : CR (zup w3 0 2 (w3 42 10)) 10 P' := q3.frame (fun q _ _ => zup_n _ _ _ (by omega))
    obtain ⟨w6, e6, c6, f6⟩ := k_copyFrom (b := 2) (o := 10) hc4 q1 (by decide)
    obtain ⟨w9, g1, g2, g3⟩ := k_kept (w0 := zup w6 0 11 0) 2 0 fu (zup w6 0 11 0) (by decide) (by omega) (fun q hq => absurd hq (by omega)) (fun _ _ => rfl)
    have r9 : ∀ q, q ≠ 44 → q ≠ 0 → ¬ (2 ≤ q ∧ q < 10) → w9 q = w3 q := fun q y1 y2 y3 => by rw [g3 q y1, zup_n _ _ _ y2, f6 q (by omega), zup_n _ _ _ y2]
    have r90 : ∀ j, j ≠ 11 → j ≠ 2 → w9 0 j = w3 0 j := fun j y1 y2 => by rw [g3 0 (by decide), zup_s, upd_n _ _ y1, f6 0 (by decide), zup_s, upd_n _ _ y2]
    have r902 : w9 0 2 = 0 := by rw [g3 0 (by decide), zup_s, upd_n _ _ (by decide), f6 0 (by decide), zup_s, upd_s]; exact k2
    have r9011 : w9 0 11 = 0 := by rw [g3 0 (by decide), zup_s, upd_s]
    have e9 : zup w6 0 11 0 42 9 = w3 42 9 := by rw [zup_n _ _ _ (by decide), f6 42 (by decide), zup_n _ _ _ (by decide)]
    obtain ⟨wm', r, x2, x4, x5, x6⟩ := second w9 (fun k hk => by rw [r9 k (by omega) (by omega) (by omega)]; exact r3 k (by omega) (by omega) (by omega))
    rw [e6, zbds, show zfix2 b_X3_text_65 fu 0 (zup w6 0 11 0) = _ from g1, e9]
    rcases x6 with ⟨k', k0', k1', k2', -⟩ | ⟨-, rr, v19, v30, v67, vq, P2, o1, o2, o3, o4, o5⟩
    · exact absurd k2 (by rw [k2']; exact nI_ne0 k0' k1')
    · refine ⟨_, w9, wm', rfl, by rw [x2, rr], ?_⟩
      -- the company of both is one
      have s : ∀ q, q < 56 ∨ 63 ≤ q → q ≠ 67 → q ≠ 44 → q ≠ 0 → q ≠ 42 → ¬ (2 ≤ q ∧ q < 18) → wm' q = w q := fun q y0 y1 y2 y3 y4 y5 => by rw [vq q y0 y1, r9 q y2 y3 (by omega)]; exact r3 q y3 y4 (by omega)
      have z0 : ∀ j, wm' 0 j = w9 0 j := fun j => by rw [vq 0 (by omega) (by decide)]
      have hcopy : CR w6 2 P2 := by
        have hc4' : CR (zup w3 0 2 (w3 42 10)) 10 P2 := o3.frame (fun q _ _ => zup_n _ _ _ (by omega))
        obtain ⟨w6', e6', c6', f6'⟩ := k_copyFrom (b := 2) (o := 10) hc4' o1 (by decide)
        have ee : w6' = w6 := Option.some.inj (e6'.symm.trans e6)
        rw [ee] at c6'
        exact c6'
      refine ⟨⟨P2, ?_, o4, o1, o2, o5⟩, ⟨0, by decide, ?_, x4, fun i hi => absurd hi (by omega)⟩, ⟨0, by decide, ?_, v30, fun i hi => absurd hi (by omega)⟩, fun q hq => .inl ⟨?_, v67 q hq⟩, ?_, ?_, ?_, ?_, ?_⟩
      · exact hcopy.frame (fun q y1 y2 => by rw [vq q (by omega) (by omega), g3 q (by omega), zup_n _ _ _ (by omega)])
      · rw [z0, r90 1 (by decide) (by decide)]; exact r31
      · rw [z0]; exact r9011
      · rw [vq 44 (by omega) (by decide)]; exact g2 q hq
      · exact hH.fr (fun j _ _ => s j (by omega) (by omega) (by omega) (by omega) (by omega) (by omega)) (s 68 (by decide) (by decide) (by decide) (by decide) (by decide) (by decide)) (s 69 (by decide) (by decide) (by decide) (by decide) (by decide) (by decide)) (s 70 (by decide) (by decide) (by decide) (by decide) (by decide) (by decide))
      · rw [v19, z0, r902]
      · rw [x5, z0, r90 13 (by decide) (by decide), r9 56 (by decide) (by decide) (by decide), r3 56 (by decide) (by decide) (by decide), r30 13 (by decide)]; exact F2
      · rw [s 64 (by decide) (by decide) (by decide) (by decide) (by decide) (by decide)]; exact F3
      · rw [s 65 (by decide) (by decide) (by decide) (by decide) (by decide) (by decide)]; exact F4
theorem zJ_0 : zJ zw0 := by
  refine ⟨⟨Q00, ⟨⟨rfl, rfl, rfl, rfl, rfl, rfl, rfl, rfl, rfl⟩, fun p hp => absurd hp (by simp [Q00]), fun i hi => absurd hi (by simp [Q00])⟩, ⟨⟨rfl, rfl, rfl, rfl⟩, ⟨rfl, rfl, rfl, rfl, rfl, rfl⟩, fun p hp => absurd hp (by simp [Q00]), fun i hi => absurd hi (by simp [Q00])⟩, Q00_ot.1, by decide, rfl⟩, ⟨0, by decide, rfl, rfl, fun i hi => absurd hi (by omega)⟩, ⟨0, by decide, rfl, rfl, fun i hi => absurd hi (by omega)⟩, fun k hk => .inl ?_, fun i hi => .inl ?_, rfl, rfl, rfl, rfl⟩
  · exact ⟨rfl, rfl⟩
  · rcases (show i = 0 ∨ i = 1 ∨ i = 2 ∨ i = 3 by omega) with rfl | rfl | rfl | rfl
    · exact ⟨rfl, rfl⟩
    · exact ⟨rfl, rfl⟩
    · exact ⟨rfl, rfl⟩
    · exact ⟨rfl, rfl⟩
theorem zJ_all : ∃ J : zW → Prop, LawSteps J ∧ J zw0 := ⟨zJ, ⟨o_feed, o_end, o_text, o_fault, o_rule, o_one, o_well, o_pours, o_loses, o_teach, o_drink, o_fill, o_plan, o_wet, o_odd, o_lay, o_go, o_ahead, o_down, o_arrive, o_best, o_late, o_least, o_alike, o_alone, o_luck, o_mean, o_stay, o_see, o_forget, o_fits, o_kinds, o_drift, o_keep, o_back, o_sheet, o_put, o_read, o_torn, o_count⟩, zJ_0⟩
