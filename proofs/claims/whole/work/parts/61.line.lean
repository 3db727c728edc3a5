/-! what stands between program and reference within a text -/
def BT (a b : Nat) : Prop := a < 256 ∧ b < 256 ∧ (∀ k, k < 3 → a.testBit k = false) ∧ ∀ k, 1 ≤ k → k ≤ 5 → a.testBit (k + 2) = b.testBit k
theorem bit_t {a k : Nat} (ha : a < 2 ^ 16) (hk : k < 9) : ((nI a >>> (nI k &&& 31)) &&& 1 = 1) ↔ a.testBit k = true := by
  have hs : ((nI k &&& 31).toBitVec.smod 32).toNat = k := (by decide : ∀ k, k < 9 → ((nI k &&& 31).toBitVec.smod 32).toNat = k) k hk
  have hd : a / 2 ^ k ≤ a := Nat.div_le_self _ _
  rw [pk_shrN (by omega) _ k hs, pk_andN (by omega) 1 (by decide), Nat.testBit_eq_decide_div_mod_eq, decide_eq_true_eq]
  exact nI_eq (b := 1) (by omega) (by decide)
theorem shl_8 : ∀ k, k < 9 → (1 : Int32) <<< (nI k &&& 31) = nI (2 ^ k) := by decide
theorem or_nI {a b : Nat} (ha : a < 2 ^ 31) (hb : b < 2 ^ 31) : nI a ||| nI b = nI (a ||| b) := by
  apply Int32.toBitVec_inj.mp
  apply BitVec.eq_of_toNat_eq
  have hab : a ||| b < 2 ^ 31 := Nat.or_lt_two_pow ha hb
  rw [Int32.toBitVec_or, BitVec.toNat_or, pk_tn (by omega), pk_tn (by omega), pk_tn (by omega)]
theorem bit_or {a k : Nat} (ha : a < 256) (hk : k < 8) : nI a ||| ((1 : Int32) <<< (nI k &&& 31)) = nI (a ||| 2 ^ k) ∧ a ||| 2 ^ k < 256 := by
  have hp : 2 ^ k < 2 ^ 8 := Nat.pow_lt_pow_right (by decide) hk
  refine ⟨?_, Nat.or_lt_two_pow (n := 8) ha hp⟩
  rw [shl_8 k (by omega), or_nI (by omega) (by omega)]
theorem BT.set {a b k : Nat} (h : BT a b) (h1 : 1 ≤ k) (h5 : k ≤ 5) : BT (a ||| 2 ^ (k + 2)) (b ||| 2 ^ k) := by
  obtain ⟨g1, g2, g3, g4⟩ := h
  refine ⟨(bit_or g1 (by omega)).2, (bit_or g2 (by omega)).2, fun q hq => ?_, fun q q1 q5 => ?_⟩
  · rw [Nat.testBit_or, g3 q hq, Nat.testBit_two_pow_of_ne (by omega)]
    rfl
  · rw [Nat.testBit_or, Nat.testBit_or, g4 q q1 q5, Nat.testBit_two_pow, Nat.testBit_two_pow]
    congr 1
    exact decide_eq_decide.mpr (by omega)
theorem BT.oth {a b r : Nat} (h : BT a b) (hr : r = 0 ∨ r = 6 ∨ r = 7) : BT a (b ||| 2 ^ r) := by
  obtain ⟨g1, g2, g3, g4⟩ := h
  refine ⟨g1, (bit_or g2 (by omega)).2, g3, fun q q1 q5 => ?_⟩
  rw [Nat.testBit_or, g4 q q1 q5, Nat.testBit_two_pow_of_ne (by omega), Bool.or_false]
def hw (d : Nat) : Int32 := if d = 0 then -1 else if d = 1 then 0 else if d < 4 then 1 else 2
def PG (w : zW) (Q : zP) (d : Nat) : Prop :=
  (w 56 11 = nI (Q 0) ∧ w 56 12 = nI (Q 1) ∧ w 56 13 = nI (Q 2)) ∧
  (w 60 8 = nI (Q 5) ∧ w 60 9 = nI (Q 3) ∧ w 60 10 + 18 = nI (Q 4) ∧ w 60 11 = nI (Q 6) ∧ w 60 12 = nI (Q 7) ∧ w 60 13 = nI (Q 8)) ∧
  (∀ p, p < Q 0 → w 60 p = nI (Q (10 + p)) ∧ w 61 p = nI (Q (20 + p)) ∧ w 60 (4 + p) = nI (Q (30 + p))) ∧
  (∀ i, i < Q 1 → w 62 (2 * i) = nI (Q (40 + i)) ∧ w 60 (17 + i) = nI (Q (50 + i)) ∧ w 62 (2 * i + 1) = nI (Q (60 + i))) ∧
  ∀ i, i < 3 → w 60 (14 + i) = nI (d / 2 ^ i % 2)
def OT (Q : zP) : Prop := Ok Q ∧ Q 3 = 0 ∧ Q 4 ≤ 23 ∧ ∀ i, i < Q 1 → Q (70 + i) = 1
def zLS (c : Nat → Nat) (N s : Nat) (wc wm : zW) (Q : zP) (a b d : Nat) : Prop := PS c N s wc ∧ QS c N s wm ∧ CR wc 10 Q ∧ PG wm Q d ∧ OT Q ∧ (wc 42 7 = nI a ∧ wm 56 14 = nI b ∧ BT a b) ∧ (wc 42 8 = nI d ∧ wm 56 15 = nI d ∧ d < 8 ∧ wm 56 16 = hw d)
def FL (wc wm : zW) : Prop := ∃ k, 0 < k ∧ k ≤ 6 ∧ wc 42 10 = nI k ∧ wm 56 20 = nI k ∧ wm 56 21 = wc 42 11
def PW (w w' : zW) : Prop := (∀ k, k ≠ 42 → ¬ (10 ≤ k ∧ k < 18) → w' k = w k) ∧ w' 42 9 = w 42 9
def QW (w w' : zW) : Prop := (∀ k, k ≠ 56 → k ≠ 60 → k ≠ 61 → k ≠ 62 → w' k = w k) ∧ ∀ j, j < 11 ∨ j = 18 ∨ j = 19 ∨ 25 < j → w' 56 j = w 56 j
theorem PW.rf {w : zW} : PW w w := ⟨fun _ _ _ => rfl, rfl⟩
theorem PW.tr {w w1 w2 : zW} (h : PW w w1) (g : PW w1 w2) : PW w w2 := ⟨fun k a b => (g.1 k a b).trans (h.1 k a b), g.2.trans h.2⟩
theorem QW.rf {w : zW} : QW w w := ⟨fun _ _ _ _ _ => rfl, fun _ _ => rfl⟩
theorem QW.tr {w w1 w2 : zW} (h : QW w w1) (g : QW w1 w2) : QW w w2 := ⟨fun k a b c d => (g.1 k a b c d).trans (h.1 k a b c d), fun j a => (g.2 j a).trans (h.2 j a)⟩
theorem PF.w {w w' : zW} (h : PF w w') : PW w w' := ⟨fun k a _ => h.1 k a, h.2 9 (by decide) (by decide) (by decide) (by decide) (by decide) (by decide)⟩
theorem QF.w {w w' : zW} (h : QF w w') : QW w w' := ⟨fun k a _ _ _ => h.1 k a, fun j a => h.2 j (by omega)⟩
theorem PW.z (w : zW) (k j : Nat) (x : Int32) (h : (k = 42 ∧ j ≠ 9) ∨ (10 ≤ k ∧ k < 18)) : PW w (zup w k j x) := by
  refine ⟨fun i a b => zup_n _ _ _ (by omega), ?_⟩
  by_cases e : k = 42
  · subst e; rw [zup_s, upd_n _ _ (by omega)]
  · rw [zup_n _ _ _ (fun q => e q.symm)]
theorem QW.z (w : zW) (k j : Nat) (x : Int32) (h : (k = 56 ∧ 11 ≤ j ∧ j ≤ 25 ∧ j ≠ 18 ∧ j ≠ 19) ∨ k = 60 ∨ k = 61 ∨ k = 62) : QW w (zup w k j x) := by
  refine ⟨fun i a b c d => zup_n _ _ _ (by omega), fun i hi => ?_⟩
  by_cases e : k = 56
  · subst e; rw [zup_s, upd_n _ _ (by omega)]
  · rw [zup_n _ _ _ (fun q => e q.symm)]
theorem FL.m {wc wm : zW} (h : FL wc wm) (k j : Nat) (x : Int32) (hk : k ≠ 56 ∨ (k = 56 ∧ j ≠ 20 ∧ j ≠ 21)) : FL wc (zup wm k j x) := by
  obtain ⟨q, a, b, e, f, g⟩ := h
  have r : ∀ i, i = 20 ∨ i = 21 → zup wm k j x 56 i = wm 56 i := by
    intro i hi
    by_cases e : k = 56
    · subst e; rw [zup_s, upd_n _ _ (by omega)]
    · rw [zup_n _ _ _ (fun q => e q.symm)]
  exact ⟨q, a, b, e, by rw [r 20 (by omega)]; exact f, by rw [r 21 (by omega)]; exact g⟩
theorem FL.b {wc wm : zW} (h : FL wc wm) : ∃ k, wm 56 20 = nI k ∧ 0 < k ∧ k < 2 ^ 31 := by
  obtain ⟨q, a, b, e, f, g⟩ := h
  exact ⟨q, f, a, by omega⟩
theorem CR.pf {w w' : zW} {Q : zP} (h : CR w 10 Q) (hf : PF w w') : CR w' 10 Q := h.frame (fun k a b => hf.1 k (by omega))
theorem PG.qf {w w' : zW} {Q : zP} {d : Nat} (h : PG w Q d) (hf : QF w w') : PG w' Q d := by
  unfold PG
  rw [hf.2 11 (by decide), hf.2 12 (by decide), hf.2 13 (by decide), hf.1 60 (by decide), hf.1 61 (by decide), hf.1 62 (by decide)]
  exact h
theorem zLS.adv {c : Nat → Nat} {N s s' : Nat} {wc wm wc' wm' : zW} {Q : zP} {a b d : Nat} (h : zLS c N s wc wm Q a b d) (f1 : PF wc wc') (f2 : QF wm wm') (h1 : PS c N s' wc') (h2 : QS c N s' wm') : zLS c N s' wc' wm' Q a b d := by
  obtain ⟨-, -, hC, hG, hO, ⟨t1, t2, t3⟩, ⟨d1, d2, d3, d4⟩⟩ := h
  refine ⟨h1, h2, hC.pf f1, hG.qf f2, hO, ⟨?_, ?_, t3⟩, ⟨?_, ?_, d3, ?_⟩⟩
  · rw [f1.2 7 (by decide) (by decide) (by decide) (by decide) (by decide) (by decide)]; exact t1
  · rw [f2.2 14 (by decide)]; exact t2
  · rw [f1.2 8 (by decide) (by decide) (by decide) (by decide) (by decide) (by decide)]; exact d1
  · rw [f2.2 15 (by decide)]; exact d2
  · rw [f2.2 16 (by decide)]; exact d4
/-- a new company at the same place, by writes to the program's camp and the reference's page alone -/
theorem zLS.new {c : Nat → Nat} {N s : Nat} {wc wm wc' wm' : zW} {Q Q' : zP} {a b d : Nat} (h : zLS c N s wc wm Q a b d) (f1 : ∀ k, ¬ (10 ≤ k ∧ k < 18) → wc' k = wc k) (f2 : ∀ k, k ≠ 56 → k ≠ 60 → k ≠ 61 → k ≠ 62 → wm' k = wm k) (f3 : ∀ j, 14 ≤ j → wm' 56 j = wm 56 j) (hC : CR wc' 10 Q') (hG : PG wm' Q' d) (hO : OT Q') : zLS c N s wc' wm' Q' a b d := by
  obtain ⟨⟨⟨p1, p2, p3⟩, p4, p5, p6⟩, ⟨⟨q1, q2, q3⟩, ⟨n1, n2⟩, q4, ⟨c1, c2, c3, c4⟩, q5, q6⟩, -, -, -, ⟨t1, t2, t3⟩, ⟨d1, d2, d3, d4⟩⟩ := h
  have e42 : wc' 42 = wc 42 := f1 42 (by decide)
  refine ⟨⟨⟨p1, by rw [f1 1 (by decide)]; exact p2, by rw [e42]; exact p3⟩, p4, by rw [e42]; exact p5, by rw [e42]; exact p6⟩, ⟨⟨q1, by rw [f2 63 (by decide) (by decide) (by decide) (by decide)]; exact q2, by rw [f3 18 (by decide)]; exact q3⟩, ⟨by rw [f2 64 (by decide) (by decide) (by decide) (by decide)]; exact n1, by rw [f2 65 (by decide) (by decide) (by decide) (by decide)]; exact n2⟩, q4, ⟨?_, ?_, ?_, ?_⟩, ?_, ?_⟩, hC, hG, hO, ⟨by rw [e42]; exact t1, by rw [f3 14 (by decide)]; exact t2, t3⟩, ⟨by rw [e42]; exact d1, by rw [f3 15 (by decide)]; exact d2, d3, by rw [f3 16 (by decide)]; exact d4⟩⟩
  · rw [f3 23 (by decide)]; exact c1
  · rw [f3 22 (by decide)]; exact c2
  · rw [f3 24 (by decide)]; exact c3
  · rw [f3 25 (by decide)]; exact c4
  · rw [f3 20 (by decide)]; exact q5
  · rw [f3 20 (by decide), f3 21 (by decide)]; exact q6
theorem m_nf_0 {c : Nat → Nat} {N s lo hi : Nat} (h : m_nf c N s lo hi = 0) : tB c N s = false ∧ tK c N s = 2 ∧ lo ≤ tV c N s ∧ tV c N s ≤ hi := by
  unfold m_nf at h
  cases d : tB c N s with
  | true => rw [if_pos d] at h; exact absurd h (by decide)
  | false =>
    rw [if_neg (by rw [d]; exact Bool.false_ne_true)] at h
    by_cases k : tK c N s = 2
    · rw [if_pos k] at h
      by_cases v : lo ≤ tV c N s ∧ tV c N s ≤ hi
      · exact ⟨rfl, k, v⟩
      · rw [if_neg v] at h; exact absurd h (by decide)
    · rw [if_neg k] at h; exact absurd h (by decide)
theorem m_nf_le (c : Nat → Nat) (N s lo hi : Nat) : m_nf c N s lo hi ≤ 3 := by
  unfold m_nf
  repeat' split
  all_goals omega
theorem m_sf_0 {c : Nat → Nat} {N s : Nat} (h : m_sf c N s = 0) : tB c N s = false ∧ tK c N s = 3 := by
  unfold m_sf at h
  cases d : tB c N s with
  | true => rw [if_pos d] at h; exact absurd h (by decide)
  | false =>
    rw [if_neg (by rw [d]; exact Bool.false_ne_true)] at h
    by_cases k : tK c N s = 3
    · exact ⟨rfl, k⟩
    · rw [if_neg k] at h; exact absurd h (by decide)
theorem m_sf_le (c : Nat → Nat) (N s : Nat) : m_sf c N s ≤ 2 := by
  unfold m_sf
  repeat' split
  all_goals omega
def OUT (c : Nat → Nat) (N s a b : Nat) (wc wm : zW) (r : Int32) : Prop := (r = 0 ∧ FL wc wm) ∨ (r = 1 ∧ ∃ s' Q' d', s < s' ∧ zLS c N s' wc wm Q' a b d')
/-- a number in both: what comes of it -/
theorem ls_num {c : Nat → Nat} {N s : Nat} {wc wm : zW} {Q : zP} {a b d : Nat} (hL : zLS c N s wc wm Q a b d) {lo hi : Nat} (hlo : lo ≤ 127) (hhi : hi ≤ 127) : ∃ r v wc1 wm1, f_X2_readNumber wc (nI lo) (nI hi) = some (r, wc1) ∧ f_X4_number wm (nI lo) (nI hi) = some (v, wm1) ∧ PF wc wc1 ∧ QF wm wm1 ∧ (tB c N s = true → r = 0 ∧ wc1 42 10 = 1 ∧ wc1 42 11 = nI (tH c N s)) ∧ ((r = 0 ∧ v = nI lo ∧ FL wc1 wm1) ∨ (r = 1 ∧ ∃ x s', lo ≤ x ∧ x ≤ hi ∧ wc1 42 6 = nI x ∧ v = nI x ∧ s < s' ∧ zLS c N s' wc1 wm1 Q a b d)) := by
  obtain ⟨hP, hQ, -⟩ := id hL
  obtain ⟨w1, e1, f1, g1, g2⟩ := k_number hP hlo hhi
  obtain ⟨w2, e2, f2, k1, k2⟩ := q_number hQ hlo hhi
  have hb := t_b c hP.2.1
  by_cases d0 : m_nf c N s lo hi = 0
  · obtain ⟨z1, z2, z3, z4⟩ := m_nf_0 d0
    rw [if_pos d0] at e1 e2
    refine ⟨1, _, w1, w2, e1, e2, f1, f2, fun q => absurd (z1.symm.trans q) Bool.false_ne_true, .inr ⟨rfl, tV c N s, tE c N s, z3, z4, (g1 d0).1, rfl, ?_, hL.adv f1 f2 (g1 d0).2 (k1 d0)⟩⟩
    have := hb.2.2.1 (by omega)
    omega
  · rw [if_neg d0] at e1 e2
    have hle := m_nf_le c N s lo hi
    refine ⟨0, _, w1, w2, e1, e2, f1, f2, fun q => ⟨rfl, ?_, (g2 d0).2⟩, .inl ⟨rfl, rfl, m_nf c N s lo hi, by omega, by omega, (g2 d0).1, (k2 d0).1, by rw [(k2 d0).2, (g2 d0).2]⟩⟩
    have en : m_nf c N s lo hi = 1 := by unfold m_nf; rw [if_pos q]
    rw [(g2 d0).1, en]
    rfl
def BDY (C : zP → Prop) (F : zW → Option (Int32 × zW)) (G : zW → Option zW) : Prop := ∀ (c : Nat → Nat) (N s : Nat) (wc wm : zW) (Q : zP) (a b d : Nat), zLS c N s wc wm Q a b d → C Q → (tB c N s = true → ∃ wc1, F wc = some (0, wc1) ∧ wc1 42 10 = 1 ∧ wc1 42 11 = nI (tH c N s) ∧ PW wc wc1) ∧ (tB c N s = false → ∃ r wc1 wm1, F wc = some (r, wc1) ∧ G wm = some wm1 ∧ PW wc wc1 ∧ QW wm wm1 ∧ OUT c N s a b wc1 wm1 r)
theorem PG.s {w : zW} {Q : zP} {d : Nat} (h : PG w Q d) {kk q v : Nat} (hk : (kk = 8 ∧ q = 5) ∨ (kk = 11 ∧ q = 6) ∨ (kk = 12 ∧ q = 7) ∨ (kk = 13 ∧ q = 8)) (h0 : Q 0 ≤ 4) (h1 : Q 1 ≤ 3) : PG (zup w 60 kk (nI v)) (pu Q q v) d := by
  obtain ⟨⟨a1, a2, a3⟩, ⟨b1, b2, b3, b4, b5, b6⟩, hp, hw, hd⟩ := h
  have e : ∀ k, k ≠ q → pu Q q v k = Q k := fun k hk => pu_n Q v hk
  have u : ∀ j, j ≠ kk → zup w 60 kk (nI v) 60 j = w 60 j := fun j hj => by rw [zup_s, upd_n _ _ hj]
  have us : zup w 60 kk (nI v) 60 kk = nI v := by rw [zup_s, upd_s]
  have o : ∀ k, k ≠ 60 → zup w 60 kk (nI v) k = w k := fun k hk => zup_n _ _ _ hk
  refine ⟨?_, ?_, fun p hpp => ?_, fun i hi => ?_, fun i hi => ?_⟩
  · rw [o 56 (by decide), e 0 (by omega), e 1 (by omega), e 2 (by omega)]; exact ⟨a1, a2, a3⟩
  · rcases hk with ⟨rfl, rfl⟩ | ⟨rfl, rfl⟩ | ⟨rfl, rfl⟩ | ⟨rfl, rfl⟩
    · rw [us, pu_s, u 9 (by decide), u 10 (by decide), u 11 (by decide), u 12 (by decide), u 13 (by decide), e 3 (by decide), e 4 (by decide), e 6 (by decide), e 7 (by decide), e 8 (by decide)]
      exact ⟨rfl, b2, b3, b4, b5, b6⟩
    · rw [us, pu_s, u 8 (by decide), u 9 (by decide), u 10 (by decide), u 12 (by decide), u 13 (by decide), e 3 (by decide), e 4 (by decide), e 5 (by decide), e 7 (by decide), e 8 (by decide)]
      exact ⟨b1, b2, b3, rfl, b5, b6⟩
    · rw [us, pu_s, u 8 (by decide), u 9 (by decide), u 10 (by decide), u 11 (by decide), u 13 (by decide), e 3 (by decide), e 4 (by decide), e 5 (by decide), e 6 (by decide), e 8 (by decide)]
      exact ⟨b1, b2, b3, b4, rfl, b6⟩
    · rw [us, pu_s, u 8 (by decide), u 9 (by decide), u 10 (by decide), u 11 (by decide), u 12 (by decide), e 3 (by decide), e 4 (by decide), e 5 (by decide), e 6 (by decide), e 7 (by decide)]
      exact ⟨b1, b2, b3, b4, b5, rfl⟩
  · rw [e 0 (by omega)] at hpp
    rw [u p (by omega), u (4 + p) (by omega), o 61 (by decide), e _ (by omega), e _ (by omega), e _ (by omega)]
    exact hp p hpp
  · rw [e 1 (by omega)] at hi
    rw [u (17 + i) (by omega), o 62 (by decide), e _ (by omega), e _ (by omega), e _ (by omega)]
    exact hw i hi
  · rw [u (14 + i) (by omega)]
    exact hd i hi
theorem OT.s {Q : zP} (h : OT Q) {q v : Nat} (hk : (q = 5 ∧ v ≤ 60) ∨ (q = 6 ∧ v ≤ 3) ∨ (q = 7 ∧ v ≤ 9) ∨ (q = 8 ∧ v ≤ 10)) : OT (pu Q q v) := by
  obtain ⟨h1, h2, h3, h4⟩ := h
  have e : ∀ k, k ≠ q → pu Q q v k = Q k := fun k hk => pu_n Q v hk
  refine ⟨h1.set (by omega), by rw [e 3 (by omega)]; exact h2, by rw [e 4 (by omega)]; exact h3, fun i hi => ?_⟩
  rw [e 1 (by omega)] at hi
  rw [e _ (by omega)]
  exact h4 i hi
/-- bottle, dew, found -/
theorem bdy_num {hi jj kk q : Nat} (hc : (jj = 9 ∧ kk = 8 ∧ q = 5 ∧ hi = 60) ∨ (jj = 14 ∧ kk = 12 ∧ q = 7 ∧ hi = 9) ∨ (jj = 15 ∧ kk = 13 ∧ q = 8 ∧ hi = 10)) : BDY (fun _ => True) (fun w => zbd2 (f_X2_readNumber w (nI 0) (nI hi)) fun v2 w1 => if v2 = 0 then some (0, w1) else some (1, zup w1 10 jj (w1 42 6))) (fun w => zbd2 (f_X4_number w (nI 0) (nI hi)) fun v w1 => some (zup w1 60 kk v)) := by
  intro c N s wc wm Q a b d hL _
  obtain ⟨r, v, w1, w2, e1, e2, f1, f2, hb, ho⟩ := ls_num hL (lo := 0) (hi := hi) (by decide) (by omega)
  refine ⟨fun hB => ?_, fun hB => ?_⟩
  · obtain ⟨r0, x1, x2⟩ := hb hB
    subst r0
    refine ⟨w1, ?_, x1, x2, f1.w⟩
    show zbd2 (f_X2_readNumber wc (nI 0) (nI hi)) _ = _
    rw [e1, zbd2s, if_pos rfl]
  · rcases ho with ⟨rfl, rfl, hf⟩ | ⟨rfl, x, s', x1, x2, x3, rfl, x5, hL'⟩
    · refine ⟨0, w1, zup w2 60 kk (nI 0), ?_, ?_, f1.w, f2.w.tr (QW.z _ _ _ _ (by omega)), .inl ⟨rfl, hf.m _ _ _ (by omega)⟩⟩
      · show zbd2 (f_X2_readNumber wc (nI 0) (nI hi)) _ = _
        rw [e1, zbd2s, if_pos rfl]
      · show zbd2 (f_X4_number wm (nI 0) (nI hi)) _ = _
        rw [e2, zbd2s]
    · refine ⟨1, zup w1 10 jj (nI x), zup w2 60 kk (nI x), ?_, ?_, f1.w.tr (PW.z _ _ _ _ (by omega)), f2.w.tr (QW.z _ _ _ _ (by omega)), .inr ⟨rfl, s', pu Q q x, d, x5, ?_⟩⟩
      · show zbd2 (f_X2_readNumber wc (nI 0) (nI hi)) _ = _
        rw [e1, zbd2s, if_neg n10, x3]
      · show zbd2 (f_X4_number wm (nI 0) (nI hi)) _ = _
        rw [e2, zbd2s]
      · obtain ⟨-, -, hC, hG, hO, -⟩ := id hL'
        refine hL'.new (fun k hk => zup_n _ _ _ (by omega)) (fun k k1 k2 k3 k4 => zup_n _ _ _ k2) (fun j hj => by rw [zup_n _ _ _ (by decide)]) (hC.f0 jj q x (by omega)) (hG.s (by omega) hO.1.1.1 hO.1.1.2.1) (hO.s (by omega))
theorem BDY.cg {C : zP → Prop} {F F' : zW → Option (Int32 × zW)} {G G' : zW → Option zW} (h : BDY C F G) (h1 : ∀ w, F' w = F w) (h2 : ∀ w, G' w = G w) : BDY C F' G' := by
  have e1 : F' = F := funext h1
  have e2 : G' = G := funext h2
  rw [e1, e2]
  exact h
theorem bdy_bottle : BDY (fun _ => True) f_X2_readBottle (fun w => f_X4_readOnce w 1) := by
  refine (bdy_num (hi := 60) (jj := 9) (kk := 8) (q := 5) (by omega)).cg (fun w => ?_) (fun w => ?_)
  · unfold f_X2_readBottle
    simp only [zletE]
    rfl
  · unfold f_X4_readOnce
    simp only [zletE]
    rw [if_pos trivial]
    rfl
theorem bdy_dew : BDY (fun _ => True) f_X2_readDew (fun w => f_X4_readOnce w 4) := by
  refine (bdy_num (hi := 9) (jj := 14) (kk := 12) (q := 7) (by omega)).cg (fun w => ?_) (fun w => ?_)
  · unfold f_X2_readDew
    simp only [zletE]
    rfl
  · unfold f_X4_readOnce
    rw [if_neg (by decide), if_neg (by decide), if_neg (by decide), if_pos rfl]
    simp only [zletE]
    rfl
theorem bdy_found : BDY (fun _ => True) f_X2_readFound (fun w => f_X4_readOnce w 5) := by
  refine (bdy_num (hi := 10) (jj := 15) (kk := 13) (q := 8) (by omega)).cg (fun w => ?_) (fun w => ?_)
  · unfold f_X2_readFound
    simp only [zletE]
    rfl
  · unfold f_X4_readOnce
    rw [if_neg (by decide), if_neg (by decide), if_neg (by decide), if_neg (by decide)]
    simp only [zletE]
    rfl
