/-! one number, one name, one stop: program and reference at the same place -/
def PS (c : Nat → Nat) (N s : Nat) (w : zW) : Prop := PT c N w ∧ s ≤ N ∧ w 42 5 = nI s ∧ w 42 10 = 0
def QS (c : Nat → Nat) (N s : Nat) (w : zW) : Prop := QT c N w ∧ QN w ∧ s ≤ N ∧ QC c N s w ∧ (tB c N s = false → w 56 20 = 0) ∧ (tB c N s = true → w 56 20 = 1 ∧ w 56 21 = nI (tH c N s))
theorem PS.z {c : Nat → Nat} {N s : Nat} {w : zW} (h : PS c N s w) (k j : Nat) (x : Int32) (hk : (k ≠ 1 ∧ k ≠ 42) ∨ (k = 42 ∧ j ≠ 2 ∧ j ≠ 5 ∧ j ≠ 10)) : PS c N s (zup w k j x) := by
  obtain ⟨⟨h1, h2, h3⟩, h4, h5, h6⟩ := h
  have e1 : zup w k j x 1 = w 1 := zup_n _ _ _ (by omega)
  have e : ∀ i, i = 2 ∨ i = 5 ∨ i = 10 → zup w k j x 42 i = w 42 i := by
    intro i hi
    by_cases d : k = 42
    · subst d; rw [zup_s, upd_n _ _ (by omega)]
    · rw [zup_n _ _ _ (fun q => d q.symm)]
  exact ⟨⟨h1, by rw [e1]; exact h2, by rw [e 2 (by omega)]; exact h3⟩, h4, by rw [e 5 (by omega)]; exact h5, by rw [e 10 (by omega)]; exact h6⟩
theorem QS.z {c : Nat → Nat} {N s : Nat} {w : zW} (h : QS c N s w) (k j : Nat) (x : Int32) (hk : (k ≠ 56 ∧ k ≠ 63 ∧ k ≠ 64 ∧ k ≠ 65) ∨ (k = 56 ∧ j < 18)) : QS c N s (zup w k j x) := by
  obtain ⟨⟨h1, h2, h3⟩, ⟨n1, n2⟩, h4, ⟨c1, c2, c3, c4⟩, h5, h6⟩ := h
  have e63 : zup w k j x 63 = w 63 := zup_n _ _ _ (by omega)
  have e64 : zup w k j x 64 = w 64 := zup_n _ _ _ (by omega)
  have e65 : zup w k j x 65 = w 65 := zup_n _ _ _ (by omega)
  have e : ∀ i, 18 ≤ i → zup w k j x 56 i = w 56 i := by
    intro i hi
    by_cases d : k = 56
    · subst d; rw [zup_s, upd_n _ _ (by omega)]
    · rw [zup_n _ _ _ (fun q => d q.symm)]
  refine ⟨⟨h1, by rw [e63]; exact h2, by rw [e 18 (by omega)]; exact h3⟩, ⟨by rw [e64]; exact n1, by rw [e65]; exact n2⟩, h4, ⟨?_, ?_, ?_, ?_⟩, ?_, ?_⟩
  · rw [e 23 (by omega)]; exact c1
  · rw [e 22 (by omega)]; exact c2
  · rw [e 24 (by omega)]; exact c3
  · rw [e 25 (by omega)]; exact c4
  · rw [e 20 (by omega)]; exact h5
  · rw [e 20 (by omega), e 21 (by omega)]; exact h6
theorem k_nx {c : Nat → Nat} {N s : Nat} {w : zW} (h : PS c N s w) : ∃ w', f_X2_nextToken w = some (zbi (!tB c N s), w') ∧ PF w w' ∧ (tB c N s = false → PC c N s w' ∧ PT c N w' ∧ PS c N (tE c N s) w') ∧ (tB c N s = true → w' 42 10 = 1 ∧ w' 42 11 = nI (tH c N s)) := by
  obtain ⟨h1, h2, h3, h4⟩ := h
  obtain ⟨w', e1, e2, e3, e4, e5⟩ := k_next h1 h2 h3
  have hb := t_b c h2
  exact ⟨w', e1, e3, fun d => ⟨e2, h1.f e3, h1.f e3, hb.2.2.2.1, e2.2.1, by rw [(e4 d).1]; exact h4⟩, e5⟩
theorem q_acc {c : Nat → Nat} {N s : Nat} {w : zW} (h : QS c N s w) (hB : w 56 20 = 0) : ∃ w', f_X4_step w = some w' ∧ QF w w' ∧ QS c N (tE c N s) w' := by
  obtain ⟨h1, h2, h3, h4, h5, h6⟩ := h
  have hb := t_b c h3
  obtain ⟨w', e1, e2, e3, e4, e5⟩ := q_step h1 hb.2.2.2.1 h4.2.1 hB
  exact ⟨w', e1, e3, h1.f e3, ⟨by rw [e3.1 64 (by decide)]; exact h2.1, by rw [e3.1 65 (by decide)]; exact h2.2⟩, hb.2.2.2.1, e2, e4, e5⟩
/-- the fault of a number that should stand there; 0: none -/
def m_nf (c : Nat → Nat) (N s lo hi : Nat) : Nat := if tB c N s = true then 1 else if tK c N s = 2 then (if lo ≤ tV c N s ∧ tV c N s ≤ hi then 0 else 3) else 2
theorem tV_le {c : Nat → Nat} {N s : Nat} (hs : s ≤ N) (hc : ∀ i, i < N → c i ≤ 127) (hk : tK c N s = 2) (hb : tB c N s = false) : tV c N s < 2 ^ 20 := by
  have b := t_b c hs
  have h1 := b.2.2.1 (by omega)
  have h2 := hc (tH c N s) (by omega)
  unfold tV m_nv
  split
  · omega
  · split
    · omega
    · rename_i d1 d2
      have h3 := hc (tH c N s + 1) (by omega)
      omega
theorem k_number {c : Nat → Nat} {N s : Nat} {w : zW} (h : PS c N s w) {lo hi : Nat} (hlo : lo ≤ 127) (hhi : hi ≤ 127) : ∃ w', f_X2_readNumber w (nI lo) (nI hi) = some (if m_nf c N s lo hi = 0 then 1 else 0, w') ∧ PF w w' ∧ (m_nf c N s lo hi = 0 → w' 42 6 = nI (tV c N s) ∧ PS c N (tE c N s) w') ∧ (m_nf c N s lo hi ≠ 0 → w' 42 10 = nI (m_nf c N s lo hi) ∧ w' 42 11 = nI (tH c N s)) := by
  obtain ⟨w1, e1, f1, g1, g2⟩ := k_nx h
  have hb := t_b c h.2.1
  unfold f_X2_readNumber
  simp only [zjn1E, k_fail]
  rw [e1, zbd2s]
  cases d : tB c N s with
  | true =>
    have en : m_nf c N s lo hi = 1 := by unfold m_nf; rw [if_pos d]
    rw [if_pos (show zbi (!true) = 0 from rfl), en]
    refine ⟨w1, rfl, f1, fun q => absurd q (by decide), fun _ => g2 d⟩
  | false =>
    obtain ⟨p1, p2, p3⟩ := g1 d
    have c2 : nI (tK c N s) = 2 ↔ tK c N s = 2 := nI_eq (b := 2) (by omega) (by decide)
    rw [if_neg (show ¬ zbi (!false) = 0 from n10), p1.2.2.1]
    by_cases k2 : tK c N s = 2
    · have hv := tV_le h.2.1 (fun i hi => (h.1.2.1 i hi).1) k2 d
      rw [if_pos (c2.mpr k2), p1.2.2.2 k2, win_if (by omega) (by omega) (by omega)]
      by_cases dv : lo ≤ tV c N s ∧ tV c N s ≤ hi
      · have en : m_nf c N s lo hi = 0 := by unfold m_nf; rw [if_neg (by rw [d]; exact Bool.false_ne_true), if_pos k2, if_pos dv]
        rw [if_pos dv, if_neg n10, en]
        exact ⟨w1, rfl, f1, fun _ => ⟨p1.2.2.2 k2, p3⟩, fun q => absurd rfl q⟩
      · have en : m_nf c N s lo hi = 3 := by unfold m_nf; rw [if_neg (by rw [d]; exact Bool.false_ne_true), if_pos k2, if_neg dv]
        rw [if_neg dv, if_pos rfl, zbd2s, if_pos rfl, en]
        exact ⟨_, rfl, (f1.tr (PF.u _ _ (by decide))).tr (PF.u _ _ (by decide)), fun q => absurd q (by decide), fun _ => ⟨rfl, p1.1⟩⟩
    · have en : m_nf c N s lo hi = 2 := by unfold m_nf; rw [if_neg (by rw [d]; exact Bool.false_ne_true), if_neg k2]
      rw [if_neg (fun q => k2 (c2.mp q)), zbd2s, zgt (by decide), en]
      exact ⟨_, rfl, (f1.tr (PF.u _ _ (by decide))).tr (PF.u _ _ (by decide)), fun q => absurd q (by decide), fun _ => ⟨rfl, p1.1⟩⟩
theorem QF.fl {w : zW} (h : w 56 20 = 0) (x : Int32) : f_X4_fails w x = some (zup (zup w 56 20 x) 56 21 (w 56 23)) ∧ QF w (zup (zup w 56 20 x) 56 21 (w 56 23)) := ⟨q_fails0 h x, (QF.u _ _ (by decide)).tr (QF.u _ _ (by decide))⟩
theorem q_numberN {w : zW} {k : Nat} (h : w 56 20 = nI k) (h0 : 0 < k) (hk : k < 2 ^ 31) (lo hi : Int32) : f_X4_number w lo hi = some (lo, w) := by
  have hn : ¬ w 56 20 = 0 := by rw [h]; exact nI_ne0 h0 hk
  unfold f_X4_number
  simp only [zjn1E]
  rw [if_neg hn, if_neg hn, if_neg hn, q_stepN h h0 hk, zbds]
theorem q_number {c : Nat → Nat} {N s : Nat} {w : zW} (h : QS c N s w) {lo hi : Nat} (hlo : lo ≤ 127) (hhi : hi ≤ 127) : ∃ w', f_X4_number w (nI lo) (nI hi) = some (if m_nf c N s lo hi = 0 then nI (tV c N s) else nI lo, w') ∧ QF w w' ∧ (m_nf c N s lo hi = 0 → QS c N (tE c N s) w') ∧ (m_nf c N s lo hi ≠ 0 → w' 56 20 = nI (m_nf c N s lo hi) ∧ w' 56 21 = nI (tH c N s)) := by
  obtain ⟨h1, h2, h3, h4, h5, h6⟩ := id h
  have hb := t_b c h3
  cases d : tB c N s with
  | true =>
    have en : m_nf c N s lo hi = 1 := by unfold m_nf; rw [if_pos d]
    rw [q_numberN (k := 1) (h6 d).1 (by decide) (by decide), en]
    exact ⟨w, rfl, QF.rf, fun q => absurd q (by decide), fun _ => h6 d⟩
  | false =>
    have h20 := h5 d
    have c2 : nI (tK c N s) = 2 ↔ tK c N s = 2 := nI_eq (b := 2) (by omega) (by decide)
    by_cases k2 : tK c N s = 2
    · have hv := tV_le h3 (fun i hi => (h1.2.1 i hi).1) k2 d
      have hin : f_X4_in (nI (tV c N s)).toInt64 (nI lo).toInt64 (nI hi).toInt64 = if lo ≤ tV c N s ∧ tV c N s ≤ hi then 1 else 0 := q_in (by omega) (by omega) (by omega)
      by_cases dv : lo ≤ tV c N s ∧ tV c N s ≤ hi
      · have en : m_nf c N s lo hi = 0 := by unfold m_nf; rw [if_neg (by rw [d]; exact Bool.false_ne_true), if_pos k2, if_pos dv]
        obtain ⟨w', s1, s2, s3⟩ := q_acc h h20
        refine ⟨w', ?_, s2, fun _ => s3, fun q => absurd en q⟩
        unfold f_X4_number
        simp only [zjn1E]
        rw [if_pos h20, h4.2.2.1, if_pos (c2.mpr k2), if_pos h20, h4.2.2.2 k2, hin, if_pos dv, if_neg n10, if_pos h20, s1, zbds, en, if_pos rfl]
      · have en : m_nf c N s lo hi = 3 := by unfold m_nf; rw [if_neg (by rw [d]; exact Bool.false_ne_true), if_pos k2, if_neg dv]
        obtain ⟨x1, x2⟩ := QF.fl h20 3
        refine ⟨_, ?_, x2, fun q => absurd (en.symm.trans q) (by decide), fun _ => ⟨by rw [en]; rfl, h4.1⟩⟩
        unfold f_X4_number
        simp only [zjn1E]
        rw [if_pos h20, h4.2.2.1, if_pos (c2.mpr k2), if_pos h20, h4.2.2.2 k2, hin, if_neg dv, if_pos rfl, x1, zbds, if_neg (show ¬ zup (zup w 56 20 3) 56 21 (w 56 23) 56 20 = 0 from (by decide : ¬ (3 : Int32) = 0)), q_stepN (k := 3) (show zup (zup w 56 20 3) 56 21 (w 56 23) 56 20 = nI 3 from rfl) (by decide) (by decide), zbds, en]
        rfl
    · have en : m_nf c N s lo hi = 2 := by unfold m_nf; rw [if_neg (by rw [d]; exact Bool.false_ne_true), if_neg k2]
      obtain ⟨x1, x2⟩ := QF.fl h20 2
      have nz : ¬ zup (zup w 56 20 2) 56 21 (w 56 23) 56 20 = 0 := (by decide : ¬ (2 : Int32) = 0)
      refine ⟨_, ?_, x2, fun q => absurd (en.symm.trans q) (by decide), fun _ => ⟨by rw [en]; rfl, h4.1⟩⟩
      unfold f_X4_number
      simp only [zjn1E]
      rw [if_pos h20, h4.2.2.1, if_neg (fun q => k2 (c2.mp q)), x1, zbds, if_neg nz, if_neg nz, q_stepN (k := 2) (show zup (zup w 56 20 2) 56 21 (w 56 23) 56 20 = nI 2 from rfl) (by decide) (by decide), zbds, en]
      rfl
def m_sf (c : Nat → Nat) (N s : Nat) : Nat := if tB c N s = true then 1 else if tK c N s = 3 then 0 else 2
theorem k_stop {c : Nat → Nat} {N s : Nat} {w : zW} (h : PS c N s w) : ∃ w', f_X2_readStop w = some (if m_sf c N s = 0 then 1 else 0, w') ∧ PF w w' ∧ (m_sf c N s = 0 → PS c N (tE c N s) w') ∧ (m_sf c N s ≠ 0 → w' 42 10 = nI (m_sf c N s) ∧ w' 42 11 = nI (tH c N s)) := by
  obtain ⟨w1, e1, f1, g1, g2⟩ := k_nx h
  have hb := t_b c h.2.1
  unfold f_X2_readStop
  simp only [zjn1E, k_fail]
  rw [e1, zbd2s]
  cases d : tB c N s with
  | true =>
    have en : m_sf c N s = 1 := by unfold m_sf; rw [if_pos d]
    rw [if_pos (show zbi (!true) = 0 from rfl), en]
    exact ⟨w1, rfl, f1, fun q => absurd q (by decide), fun _ => g2 d⟩
  | false =>
    obtain ⟨p1, p2, p3⟩ := g1 d
    have c3 : nI (tK c N s) = 3 ↔ tK c N s = 3 := nI_eq (b := 3) (by omega) (by decide)
    rw [if_neg (show ¬ zbi (!false) = 0 from n10), p1.2.2.1]
    by_cases k3 : tK c N s = 3
    · have en : m_sf c N s = 0 := by unfold m_sf; rw [if_neg (by rw [d]; exact Bool.false_ne_true), if_pos k3]
      rw [if_pos (c3.mpr k3), en]
      exact ⟨w1, rfl, f1, fun _ => p3, fun q => absurd rfl q⟩
    · have en : m_sf c N s = 2 := by unfold m_sf; rw [if_neg (by rw [d]; exact Bool.false_ne_true), if_neg k3]
      rw [if_neg (fun q => k3 (c3.mp q)), zbd2s, if_pos rfl, en]
      exact ⟨_, rfl, (f1.tr (PF.u _ _ (by decide))).tr (PF.u _ _ (by decide)), fun q => absurd q (by decide), fun _ => ⟨rfl, p1.1⟩⟩
/-- the end of a line, as the reference has it -/
def qSt (w8 : zW) : Option zW := if w8 56 20 = 0 then (if w8 56 24 = 3 then (zbd (f_X4_step w8) fun w10 => some w10) else zbd (f_X4_fails w8 2) fun w13 => zbd (f_X4_step w13) fun w10 => some w10) else zbd (f_X4_step w8) fun w10 => some w10
theorem q_stopN {w : zW} {k : Nat} (h : w 56 20 = nI k) (h0 : 0 < k) (hk : k < 2 ^ 31) : qSt w = some w := by
  unfold qSt
  rw [if_neg (by rw [h]; exact nI_ne0 h0 hk), q_stepN h h0 hk, zbds]
theorem q_stop {c : Nat → Nat} {N s : Nat} {w : zW} (h : QS c N s w) : ∃ w', qSt w = some w' ∧ QF w w' ∧ (m_sf c N s = 0 → QS c N (tE c N s) w') ∧ (m_sf c N s ≠ 0 → w' 56 20 = nI (m_sf c N s) ∧ w' 56 21 = nI (tH c N s)) := by
  obtain ⟨h1, h2, h3, h4, h5, h6⟩ := id h
  have hb := t_b c h3
  cases d : tB c N s with
  | true =>
    have en : m_sf c N s = 1 := by unfold m_sf; rw [if_pos d]
    rw [q_stopN (k := 1) (h6 d).1 (by decide) (by decide), en]
    exact ⟨w, rfl, QF.rf, fun q => absurd q (by decide), fun _ => h6 d⟩
  | false =>
    have h20 := h5 d
    have c3 : nI (tK c N s) = 3 ↔ tK c N s = 3 := nI_eq (b := 3) (by omega) (by decide)
    by_cases k3 : tK c N s = 3
    · have en : m_sf c N s = 0 := by unfold m_sf; rw [if_neg (by rw [d]; exact Bool.false_ne_true), if_pos k3]
      obtain ⟨w', s1, s2, s3⟩ := q_acc h h20
      refine ⟨w', ?_, s2, fun _ => s3, fun q => absurd en q⟩
      unfold qSt
      rw [if_pos h20, h4.2.2.1, if_pos (c3.mpr k3), s1, zbds]
    · have en : m_sf c N s = 2 := by unfold m_sf; rw [if_neg (by rw [d]; exact Bool.false_ne_true), if_neg k3]
      obtain ⟨x1, x2⟩ := QF.fl h20 2
      refine ⟨_, ?_, x2, fun q => absurd (en.symm.trans q) (by decide), fun _ => ⟨by rw [en]; rfl, h4.1⟩⟩
      unfold qSt
      rw [if_pos h20, h4.2.2.1, if_neg (fun q => k3 (c3.mp q)), x1, zbds, q_stepN (k := 2) (show zup (zup w 56 20 2) 56 21 (w 56 23) 56 20 = nI 2 from rfl) (by decide) (by decide), zbds]
/-- a name that should stand there: of lo .. hi-1 -/
theorem nam_5 : ∀ x, x < 18 → f_X4_in (((if x < 17 then nI (nro x) else -4) - (8 : Int32)).toInt64) (0 : Int64) (((5 : Int32) - 1).toInt64) = (if 8 ≤ x ∧ x < 13 then 1 else 0) ∧ (8 ≤ x ∧ x < 13 → (if x < 17 then nI (nro x) else -4) - (8 : Int32) = nI (x - 8)) := by decide +kernel
theorem nam_4 : ∀ x, x < 18 → f_X4_in (((if x < 17 then nI (nro x) else -4) - (13 : Int32)).toInt64) (0 : Int64) (((4 : Int32) - 1).toInt64) = (if 13 ≤ x ∧ x < 17 then 1 else 0) ∧ (13 ≤ x ∧ x < 17 → (if x < 17 then nI (nro x) else -4) - (13 : Int32) = nI (x - 13)) := by decide +kernel
theorem q_named {c : Nat → Nat} {N s : Nat} {w : zW} (h : QS c N s w) (hB : tB c N s = false) {lo hi : Nat} {a1 a2 : Int32} (hg : ∀ x, x < 18 → f_X4_in (((if x < 17 then nI (nro x) else -4) - a1).toInt64) (0 : Int64) ((a2 - 1).toInt64) = (if lo ≤ x ∧ x < hi then 1 else 0) ∧ (lo ≤ x ∧ x < hi → (if x < 17 then nI (nro x) else -4) - a1 = nI (x - lo))) : ∃ w', f_X4_named w a1 a2 = some (if lo ≤ tX c N s ∧ tX c N s < hi then nI (tX c N s - lo) else 0, w') ∧ QF w w' ∧ (lo ≤ tX c N s ∧ tX c N s < hi → QS c N (tE c N s) w') ∧ (¬ (lo ≤ tX c N s ∧ tX c N s < hi) → w' 56 20 = 2 ∧ w' 56 21 = nI (tH c N s)) := by
  obtain ⟨h1, h2, h3, h4, h5, h6⟩ := id h
  have h20 := h5 hB
  have hx := (tX_ok c N s).1
  obtain ⟨g1, g2⟩ := hg (tX c N s) (by omega)
  have hn : f_X4_nameHere w = some (if tX c N s < 17 then nI (nro (tX c N s)) else -4) := q_nameHere h1 h2 h3 h4
  generalize tX c N s = x at *
  by_cases d : lo ≤ x ∧ x < hi
  · obtain ⟨w', s1, s2, s3⟩ := q_acc h h20
    refine ⟨w', ?_, s2, fun _ => s3, fun q => absurd d q⟩
    rw [if_pos d] at g1
    have g3 := g2 d
    unfold f_X4_named
    simp only [zletE, zjn1E]
    rw [hn, zbds, if_pos h20, g1, if_neg n10, s1, zbds, if_neg n10, if_pos d, g3]
  · obtain ⟨x1, x2⟩ := QF.fl h20 2
    refine ⟨_, ?_, x2, fun q => absurd q d, fun _ => ⟨rfl, h4.1⟩⟩
    rw [if_neg d] at g1
    unfold f_X4_named
    simp only [zletE, zjn1E]
    rw [hn, zbds, if_pos h20, g1, if_pos rfl, x1, zbds, q_stepN (k := 2) (show zup (zup w 56 20 2) 56 21 (w 56 23) 56 20 = nI 2 from rfl) (by decide) (by decide), zbds, if_pos rfl, if_neg d]
