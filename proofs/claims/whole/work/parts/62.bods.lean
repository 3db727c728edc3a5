/-! goal, plan, one, well, dry -/
theorem CR.fg {w : zW} {b : Nat} {P : zP} (h : CR w b P) (v : Nat) : CR (zup w b 10 (nI v)) b (pu P 2 v) := by
  obtain ⟨⟨a0, a4, a9, a10, a11, a12, a13, a14, a15⟩, hp, hw⟩ := h
  have e : ∀ k, k ≠ 2 → pu P 2 v k = P k := fun k hk => pu_n P v hk
  refine ⟨?_, fun p hpp => ?_, fun i hi => ?_⟩
  · rw [zup_s, e 0 (by decide), e 1 (by decide), e 3 (by decide), e 4 (by decide), e 5 (by decide), e 6 (by decide), e 7 (by decide), e 8 (by decide), pu_s, upd_s, upd_n _ _ (by decide), upd_n _ _ (by decide), upd_n _ _ (by decide), upd_n _ _ (by decide), upd_n _ _ (by decide), upd_n _ _ (by decide), upd_n _ _ (by decide), upd_n _ _ (by decide)]
    exact ⟨a0, a4, a9, rfl, a11, a12, a13, a14, a15⟩
  · rw [e 0 (by decide)] at hpp
    rw [zup_n _ _ _ (by omega), zup_n _ _ _ (by omega), zup_n _ _ _ (by omega), e _ (by omega), e _ (by omega), e _ (by omega)]
    exact hp p hpp
  · rw [e 1 (by decide)] at hi
    rw [zup_n _ _ _ (by omega), zup_n _ _ _ (by omega), zup_n _ _ _ (by omega), zup_n _ _ _ (by omega), e _ (by omega), e _ (by omega), e _ (by omega), e _ (by omega)]
    exact hw i hi
theorem PG.gl {w : zW} {Q : zP} {d : Nat} (h : PG w Q d) (v : Nat) : PG (zup w 56 13 (nI v)) (pu Q 2 v) d := by
  obtain ⟨⟨a1, a2, a3⟩, hb, hp, hw, hd⟩ := h
  have e : ∀ k, k ≠ 2 → pu Q 2 v k = Q k := fun k hk => pu_n Q v hk
  have o : ∀ k, k ≠ 56 → zup w 56 13 (nI v) k = w k := fun k hk => zup_n _ _ _ hk
  refine ⟨?_, ?_, fun p hpp => ?_, fun i hi => ?_, fun i hi => ?_⟩
  · rw [zup_s, upd_n _ _ (by decide), upd_n _ _ (by decide), upd_s, e 0 (by decide), e 1 (by decide), pu_s]; exact ⟨a1, a2, rfl⟩
  · rw [o 60 (by decide), e 3 (by decide), e 4 (by decide), e 5 (by decide), e 6 (by decide), e 7 (by decide), e 8 (by decide)]; exact hb
  · rw [e 0 (by decide)] at hpp
    rw [o 60 (by decide), o 61 (by decide), e _ (by omega), e _ (by omega), e _ (by omega)]
    exact hp p hpp
  · rw [e 1 (by decide)] at hi
    rw [o 60 (by decide), o 62 (by decide), e _ (by omega), e _ (by omega), e _ (by omega)]
    exact hw i hi
  · rw [o 60 (by decide)]; exact hd i hi
theorem PG.hr {w : zW} {Q : zP} {d : Nat} (h : PG w Q d) (h0 : Q 0 ≤ 4) (h1 : Q 1 ≤ 3) {v : Nat} {x : Int32} (hx : x + 18 = nI v) : PG (zup w 60 10 x) (pu Q 4 v) d := by
  obtain ⟨ha, ⟨b1, b2, b3, b4, b5, b6⟩, hp, hw, hd⟩ := h
  have e : ∀ k, k ≠ 4 → pu Q 4 v k = Q k := fun k hk => pu_n Q v hk
  have u : ∀ j, j ≠ 10 → zup w 60 10 x 60 j = w 60 j := fun j hj => by rw [zup_s, upd_n _ _ hj]
  have o : ∀ k, k ≠ 60 → zup w 60 10 x k = w k := fun k hk => zup_n _ _ _ hk
  refine ⟨?_, ?_, fun p hpp => ?_, fun i hi => ?_, fun i hi => ?_⟩
  · rw [o 56 (by decide), e 0 (by decide), e 1 (by decide), e 2 (by decide)]; exact ha
  · rw [u 8 (by decide), u 9 (by decide), u 11 (by decide), u 12 (by decide), u 13 (by decide), zup_s, upd_s, e 3 (by decide), e 5 (by decide), e 6 (by decide), e 7 (by decide), e 8 (by decide), pu_s]
    exact ⟨b1, b2, hx, b4, b5, b6⟩
  · rw [e 0 (by decide)] at hpp
    rw [u p (by omega), u (4 + p) (by omega), o 61 (by decide), e _ (by omega), e _ (by omega), e _ (by omega)]
    exact hp p hpp
  · rw [e 1 (by decide)] at hi
    rw [u (17 + i) (by omega), o 62 (by decide), e _ (by omega), e _ (by omega), e _ (by omega)]
    exact hw i hi
  · rw [u (14 + i) (by omega)]; exact hd i hi
theorem OT.gl {Q : zP} (h : OT Q) {v : Nat} (hv : v ≤ 60) : OT (pu Q 2 v) := by
  obtain ⟨⟨⟨h0, h1, h2, h3, h5, h6, h7, h8⟩, hp, hw⟩, g3, g4, gw⟩ := h
  have e : ∀ k, k ≠ 2 → pu Q 2 v k = Q k := fun k hk => pu_n Q v hk
  refine ⟨⟨⟨by rw [e 0 (by decide)]; exact h0, by rw [e 1 (by decide)]; exact h1, by rw [pu_s]; exact hv, by rw [e 3 (by decide)]; exact h3, by rw [e 5 (by decide)]; exact h5, by rw [e 6 (by decide)]; exact h6, by rw [e 7 (by decide)]; exact h7, by rw [e 8 (by decide)]; exact h8⟩, fun p hpp => ?_, fun i hi => ?_⟩, by rw [e 3 (by decide)]; exact g3, by rw [e 4 (by decide)]; exact g4, fun i hi => ?_⟩
  · rw [e 0 (by decide)] at hpp
    rw [e _ (by omega), e _ (by omega), e _ (by omega)]; exact hp p hpp
  · rw [e 1 (by decide)] at hi
    rw [e _ (by omega), e _ (by omega), e _ (by omega), e _ (by omega)]; exact hw i hi
  · rw [e 1 (by decide)] at hi
    rw [e _ (by omega)]; exact gw i hi
theorem OT.hr {Q : zP} (h : OT Q) {v : Nat} (hv : v ≤ 23) : OT (pu Q 4 v) := by
  obtain ⟨h1, g3, g4, gw⟩ := h
  have e : ∀ k, k ≠ 4 → pu Q 4 v k = Q k := fun k hk => pu_n Q v hk
  refine ⟨h1.hour, by rw [e 3 (by decide)]; exact g3, by rw [pu_s]; exact hv, fun i hi => ?_⟩
  rw [e 1 (by decide)] at hi
  rw [e _ (by omega)]; exact gw i hi
theorem bdy_goal : BDY (fun _ => True) f_X2_readGoal (fun w => f_X4_readOnce w 2) := by
  intro c N s wc wm Q a b d hL _
  obtain ⟨r, v, w1, w2, e1, e2, f1, f2, hb, ho⟩ := ls_num hL (lo := 0) (hi := 60) (by decide) (by decide)
  have eG : f_X4_readOnce wm 2 = zbd2 (f_X4_number wm (nI 0) (nI 60)) fun v15 w14 => zbd2 (f_X4_number (zup w14 56 13 v15) (nI 0) (nI 23)) fun v18 w17 => some (zup w17 60 10 (v18 - 18)) := by
    unfold f_X4_readOnce
    rw [if_neg (by decide), if_pos rfl]
    simp only [zletE]
    rfl
  have eF : f_X2_readGoal wc = zbd2 (f_X2_readNumber wc (nI 0) (nI 60)) fun v2 w1 => if v2 = 0 then some (0, w1) else zbd2 (f_X2_readNumber (zup w1 10 10 (w1 42 6)) (nI 0) (nI 23)) fun v6 w5 => if v6 = 0 then some (0, w5) else some (1, zup w5 10 12 (w5 42 6)) := by
    unfold f_X2_readGoal
    simp only [zletE]
    rfl
  refine ⟨fun hB => ?_, fun hB => ?_⟩
  · obtain ⟨r0, x1, x2⟩ := hb hB
    subst r0
    exact ⟨w1, by rw [eF, e1, zbd2s, if_pos rfl], x1, x2, f1.w⟩
  · show ∃ r wc1 wm1, _ ∧ f_X4_readOnce wm 2 = _ ∧ _
    rw [eF, eG, e1, e2, zbd2s, zbd2s]
    rcases ho with ⟨rfl, rfl, hf⟩ | ⟨rfl, x, s', x1, x2, x3, rfl, x5, hL'⟩
    · have hf' := hf.m 56 13 (nI 0) (by omega)
      obtain ⟨k, k1, k2, k3⟩ := hf'.b
      rw [if_pos rfl, q_numberN k1 k2 k3, zbd2s]
      exact ⟨0, w1, _, rfl, rfl, f1.w, (f2.w.tr (QW.z _ _ _ _ (by omega))).tr (QW.z _ _ _ _ (by omega)), .inl ⟨rfl, hf'.m _ _ _ (by omega)⟩⟩
    · obtain ⟨-, -, hC, hG, hO, -⟩ := id hL'
      have hL2 : zLS c N s' (zup w1 10 10 (nI x)) (zup w2 56 13 (nI x)) (pu Q 2 x) a b d := hL'.new (fun k hk => zup_n _ _ _ (by omega)) (fun k k1 k2 k3 k4 => zup_n _ _ _ k1) (fun j hj => by rw [zup_s, upd_n _ _ (by omega)]) (hC.fg x) (hG.gl x) (hO.gl x2)
      obtain ⟨r', v', w3, w4, e3, e4, f3, f4, -, ho'⟩ := ls_num hL2 (lo := 0) (hi := 23) (by decide) (by decide)
      have g1 : PW wc (zup w1 10 10 (nI x)) := f1.w.tr (PW.z _ _ _ _ (by omega))
      have g2 : QW wm (zup w2 56 13 (nI x)) := f2.w.tr (QW.z _ _ _ _ (by omega))
      rw [if_neg n10, x3, e3, e4, zbd2s, zbd2s]
      rcases ho' with ⟨rfl, rfl, hf⟩ | ⟨rfl, y, s2, y1, y2, y3, rfl, y5, hL3⟩
      · rw [if_pos rfl]
        exact ⟨0, w3, _, rfl, rfl, g1.tr f3.w, (g2.tr f4.w).tr (QW.z _ _ _ _ (by omega)), .inl ⟨rfl, hf.m _ _ _ (by omega)⟩⟩
      · obtain ⟨-, -, hC, hG, hO, -⟩ := id hL3
        rw [if_neg n10, y3]
        refine ⟨1, _, _, rfl, rfl, (g1.tr f3.w).tr (PW.z _ _ _ _ (by omega)), (g2.tr f4.w).tr (QW.z _ _ _ _ (by omega)), .inr ⟨rfl, s2, pu (pu Q 2 x) 4 y, d, by omega, ?_⟩⟩
        exact hL3.new (fun k hk => zup_n _ _ _ (by omega)) (fun k k1 k2 k3 k4 => zup_n _ _ _ k2) (fun j hj => by rw [zup_n _ _ _ (by decide)]) (hC.f0 12 4 y (by omega)) (hG.hr hO.1.1.1 hO.1.1.2.1 (Int32.sub_add_cancel _ _)) (hO.hr y2)
theorem tX_K {c : Nat → Nat} {N s : Nat} (h : tX c N s < 17) : tK c N s = 1 := by
  have := (tX_ok c N s).2 _ h
  unfold NMb at this
  rw [decide_eq_true rfl, Bool.and_eq_true, decide_eq_true_eq] at this
  exact this.1
/-- a name in both: what comes of it -/
theorem ls_nam {c : Nat → Nat} {N s : Nat} {wc wm : zW} {Q : zP} {a b d : Nat} (hL : zLS c N s wc wm Q a b d) (hB : tB c N s = false) {lo hi : Nat} {a1 a2 : Int32} (hhi : hi ≤ 17) (hg : ∀ x, x < 18 → f_X4_in (((if x < 17 then nI (nro x) else -4) - a1).toInt64) (0 : Int64) ((a2 - 1).toInt64) = (if lo ≤ x ∧ x < hi then 1 else 0) ∧ (lo ≤ x ∧ x < hi → (if x < 17 then nI (nro x) else -4) - a1 = nI (x - lo))) : ∃ v wc1 wm1, f_X2_nextToken wc = some (1, wc1) ∧ f_X4_named wm a1 a2 = some (v, wm1) ∧ PF wc wc1 ∧ QF wm wm1 ∧ PT c N wc1 ∧ PC c N s wc1 ∧ ((¬ (lo ≤ tX c N s ∧ tX c N s < hi) ∧ v = 0 ∧ wm1 56 20 = 2 ∧ wm1 56 21 = nI (tH c N s)) ∨ (lo ≤ tX c N s ∧ tX c N s < hi ∧ v = nI (tX c N s - lo) ∧ s < tE c N s ∧ zLS c N (tE c N s) wc1 wm1 Q a b d)) := by
  obtain ⟨hP, hQ, -⟩ := id hL
  obtain ⟨w1, e1, f1, g1, g2⟩ := k_nx hP
  obtain ⟨w2, e2, f2, k1, k2⟩ := q_named hQ hB hg
  have hb := t_b c hP.2.1
  rw [hB] at e1
  obtain ⟨p1, p2, p3⟩ := g1 hB
  by_cases dx : lo ≤ tX c N s ∧ tX c N s < hi
  · rw [if_pos dx] at e2
    have hK := tX_K (c := c) (N := N) (s := s) (by omega)
    have := hb.2.2.1 (by omega)
    exact ⟨_, w1, w2, e1, e2, f1, f2, p2, p1, .inr ⟨dx.1, dx.2, rfl, by omega, hL.adv f1 f2 p3 (k1 dx)⟩⟩
  · rw [if_neg dx] at e2
    exact ⟨_, w1, w2, e1, e2, f1, f2, p2, p1, .inl ⟨dx, rfl, k2 dx⟩⟩
theorem n_m4 {v : Nat} (h : v < 2 ^ 31) : ¬ nI v = -4 := fun q => by
  have := nI_pos h
  rw [q] at this
  exact this (by decide)
theorem zbd2sE {α γ β : Type} (a : α) (c : γ) (f : α → γ → Option β) : zbd2 (some (a, c)) f = f a c := id rfl
theorem zbo0E {α : Type} (k : Option α) : zg (zbo (0 : Int32)) k = k := id rfl
theorem bdy_plan : BDY (fun _ => True) f_X2_readPlan (fun w => f_X4_readOnce w 3) := by
  intro c N s wc wm Q a b d hL _
  have hx := (tX_ok c N s).1
  have eG : f_X4_readOnce wm 3 = zbd2 (f_X4_named wm 13 4) fun v12 w11 => some (zup w11 60 11 v12) := by
    unfold f_X4_readOnce
    rw [if_neg (by decide), if_neg (by decide), if_pos rfl]
    simp only [zletE]
  have eF : f_X2_readPlan wc = zbd2 (f_X2_nextToken wc) fun v2 w1 => if v2 = 0 then some (0, w1) else zbd (f_X2_planByName w1) fun v4 => if v4 = -4 then some ((0 : Int32), zup (zup w1 42 10 2) 42 11 (w1 42 4)) else some (1, zup w1 10 13 v4) := by
    unfold f_X2_readPlan
    simp only [zletE, k_fail, zbd2sE, zbo0E]
  refine ⟨fun hB => ?_, fun hB => ?_⟩
  · obtain ⟨w1, e1, f1, g1, g2⟩ := k_nx hL.1
    rw [hB] at e1
    exact ⟨w1, by rw [eF, e1, zbd2s, if_pos (show zbi (!true) = 0 from rfl)], (g2 hB).1, (g2 hB).2, f1.w⟩
  · obtain ⟨v, w1, w2, e1, e2, f1, f2, p2, p1, ho⟩ := ls_nam hL hB (by decide) nam_4
    show ∃ r wc1 wm1, _ ∧ f_X4_readOnce wm 3 = _ ∧ _
    rw [eF, eG, e1, e2, zbd2s, zbd2s, if_neg n10, k_plan p2 hL.1.2.1 p1, zbds]
    rcases ho with ⟨dx, rfl, q1, q2⟩ | ⟨dx1, dx2, rfl, x5, hL'⟩
    · rw [if_neg dx, if_pos rfl]
      refine ⟨0, _, _, rfl, rfl, (f1.tr ((PF.u _ _ (by decide)).tr (PF.u _ _ (by decide)))).w, f2.w.tr (QW.z _ _ _ _ (by omega)), .inl ⟨rfl, ?_⟩⟩
      refine FL.m ⟨2, by decide, by decide, rfl, q1, ?_⟩ _ _ _ (by omega)
      rw [q2]
      exact p1.1.symm
    · rw [if_pos (show 13 ≤ tX c N s ∧ tX c N s < 17 from ⟨dx1, dx2⟩), if_neg (n_m4 (by omega))]
      obtain ⟨-, -, hC, hG, hO, -⟩ := id hL'
      refine ⟨1, _, _, rfl, rfl, f1.w.tr (PW.z _ _ _ _ (by omega)), f2.w.tr (QW.z _ _ _ _ (by omega)), .inr ⟨rfl, tE c N s, pu Q 6 (tX c N s - 13), d, x5, ?_⟩⟩
      exact hL'.new (fun k hk => zup_n _ _ _ (by omega)) (fun k k1 k2 k3 k4 => zup_n _ _ _ k2) (fun j hj => by rw [zup_n _ _ _ (by decide)]) (hC.f0 13 6 _ (by omega)) (hG.s (by omega) hO.1.1.1 hO.1.1.2.1) (hO.s (by omega))
/-- a ONE more -/
def m_one (Q : zP) (k z l : Nat) : zP := fun j => if j = 0 then Q 0 + 1 else if j = 10 + Q 0 then k else if j = 20 + Q 0 then z else if j = 30 + Q 0 then l else Q j
theorem m_one_at (Q : zP) (k z l : Nat) : m_one Q k z l 0 = Q 0 + 1 ∧ m_one Q k z l (10 + Q 0) = k ∧ m_one Q k z l (20 + Q 0) = z ∧ m_one Q k z l (30 + Q 0) = l ∧ ∀ j, j ≠ 0 → j ≠ 10 + Q 0 → j ≠ 20 + Q 0 → j ≠ 30 + Q 0 → m_one Q k z l j = Q j := by
  unfold m_one
  refine ⟨if_pos rfl, ?_, ?_, ?_, fun j a b c d => ?_⟩
  · rw [if_neg (by omega), if_pos rfl]
  · rw [if_neg (by omega), if_neg (by omega), if_pos rfl]
  · rw [if_neg (by omega), if_neg (by omega), if_neg (by omega), if_pos rfl]
  · rw [if_neg a, if_neg b, if_neg c, if_neg d]
theorem OT.one {Q : zP} (h : OT Q) (h4 : Q 0 < 4) {k z l : Nat} (hk : k ≤ 4) (hz1 : 1 ≤ z) (hz : z ≤ 3) (hl : l ≤ 20) : OT (m_one Q k z l) := by
  obtain ⟨⟨⟨h0, h1, h2, h3, h5, h6, h7, h8⟩, hp, hw⟩, g3, g4, gw⟩ := h
  obtain ⟨e0, e1, e2, e3, e⟩ := m_one_at Q k z l
  refine ⟨⟨⟨by rw [e0]; omega, by rw [e 1 (by omega) (by omega) (by omega) (by omega)]; exact h1, by rw [e 2 (by omega) (by omega) (by omega) (by omega)]; exact h2, by rw [e 3 (by omega) (by omega) (by omega) (by omega)]; exact h3, by rw [e 5 (by omega) (by omega) (by omega) (by omega)]; exact h5, by rw [e 6 (by omega) (by omega) (by omega) (by omega)]; exact h6, by rw [e 7 (by omega) (by omega) (by omega) (by omega)]; exact h7, by rw [e 8 (by omega) (by omega) (by omega) (by omega)]; exact h8⟩, fun p hpp => ?_, fun i hi => ?_⟩, by rw [e 3 (by omega) (by omega) (by omega) (by omega)]; exact g3, by rw [e 4 (by omega) (by omega) (by omega) (by omega)]; exact g4, fun i hi => ?_⟩
  · rw [e0] at hpp
    by_cases d : p = Q 0
    · subst d; rw [e1, e2, e3]; exact ⟨hk, hz1, hz, hl⟩
    · rw [e _ (by omega) (by omega) (by omega) (by omega), e _ (by omega) (by omega) (by omega) (by omega), e _ (by omega) (by omega) (by omega) (by omega)]; exact hp p (by omega)
  · rw [e 1 (by omega) (by omega) (by omega) (by omega)] at hi
    rw [e _ (by omega) (by omega) (by omega) (by omega), e _ (by omega) (by omega) (by omega) (by omega), e _ (by omega) (by omega) (by omega) (by omega), e _ (by omega) (by omega) (by omega) (by omega)]; exact hw i hi
  · rw [e 1 (by omega) (by omega) (by omega) (by omega)] at hi
    rw [e _ (by omega) (by omega) (by omega) (by omega)]; exact gw i hi
theorem CR.one {w : zW} {Q : zP} (h : CR w 10 Q) (h4 : Q 0 < 4) {k z l : Nat} (r1 : w 11 (Q 0) = nI k) (r2 : w 12 (Q 0) = nI z) (r3 : w 13 (Q 0) = nI l) : CR (zup w 10 0 (nI (Q 0 + 1))) 10 (m_one Q k z l) := by
  obtain ⟨⟨a0, a4, a9, a10, a11, a12, a13, a14, a15⟩, hp, hw⟩ := h
  obtain ⟨e0, e1, e2, e3, e⟩ := m_one_at Q k z l
  have s : ∀ j, 1 ≤ j → j ≤ 8 → m_one Q k z l j = Q j := fun j a b => e j (by omega) (by omega) (by omega) (by omega)
  refine ⟨?_, fun p hpp => ?_, fun i hi => ?_⟩
  · rw [zup_s, upd_s, upd_n _ _ (by decide), upd_n _ _ (by decide), upd_n _ _ (by decide), upd_n _ _ (by decide), upd_n _ _ (by decide), upd_n _ _ (by decide), upd_n _ _ (by decide), upd_n _ _ (by decide), e0, s 1 (by decide) (by decide), s 2 (by decide) (by decide), s 3 (by decide) (by decide), s 4 (by decide) (by decide), s 5 (by decide) (by decide), s 6 (by decide) (by decide), s 7 (by decide) (by decide), s 8 (by decide) (by decide)]
    exact ⟨rfl, a4, a9, a10, a11, a12, a13, a14, a15⟩
  · rw [e0] at hpp
    rw [zup_n _ _ _ (by decide), zup_n _ _ _ (by decide), zup_n _ _ _ (by decide)]
    by_cases d : p = Q 0
    · subst d; rw [e1, e2, e3]; exact ⟨r1, r2, r3⟩
    · rw [e _ (by omega) (by omega) (by omega) (by omega), e _ (by omega) (by omega) (by omega) (by omega), e _ (by omega) (by omega) (by omega) (by omega)]; exact hp p (by omega)
  · rw [s 1 (by decide) (by decide)] at hi
    rw [zup_n _ _ _ (by decide), zup_n _ _ _ (by decide), zup_n _ _ _ (by decide), zup_n _ _ _ (by decide), e _ (by omega) (by omega) (by omega) (by omega), e _ (by omega) (by omega) (by omega) (by omega), e _ (by omega) (by omega) (by omega) (by omega), e _ (by omega) (by omega) (by omega) (by omega)]; exact hw i hi
theorem PG.one {w : zW} {Q : zP} {d : Nat} (h : PG w Q d) (h4 : Q 0 < 4) {k z l : Nat} (r1 : w 60 (Q 0) = nI k) (r2 : w 61 (Q 0) = nI z) (r3 : w 60 (4 + Q 0) = nI l) : PG (zup w 56 11 (nI (Q 0 + 1))) (m_one Q k z l) d := by
  obtain ⟨⟨a1, a2, a3⟩, hb, hp, hw, hd⟩ := h
  obtain ⟨e0, e1, e2, e3, e⟩ := m_one_at Q k z l
  have s : ∀ j, 1 ≤ j → j ≤ 8 → m_one Q k z l j = Q j := fun j a b => e j (by omega) (by omega) (by omega) (by omega)
  have o : ∀ q, q ≠ 56 → zup w 56 11 (nI (Q 0 + 1)) q = w q := fun q hq => zup_n _ _ _ hq
  refine ⟨?_, ?_, fun p hpp => ?_, fun i hi => ?_, fun i hi => ?_⟩
  · rw [zup_s, upd_s, upd_n _ _ (by decide), upd_n _ _ (by decide), e0, s 1 (by decide) (by decide), s 2 (by decide) (by decide)]; exact ⟨rfl, a2, a3⟩
  · rw [o 60 (by decide), s 3 (by decide) (by decide), s 4 (by decide) (by decide), s 5 (by decide) (by decide), s 6 (by decide) (by decide), s 7 (by decide) (by decide), s 8 (by decide) (by decide)]; exact hb
  · rw [e0] at hpp
    rw [o 60 (by decide), o 61 (by decide)]
    by_cases dd : p = Q 0
    · subst dd; rw [e1, e2, e3]; exact ⟨r1, r2, r3⟩
    · rw [e _ (by omega) (by omega) (by omega) (by omega), e _ (by omega) (by omega) (by omega) (by omega), e _ (by omega) (by omega) (by omega) (by omega)]; exact hp p (by omega)
  · rw [s 1 (by decide) (by decide)] at hi
    rw [o 60 (by decide), o 62 (by decide), e _ (by omega) (by omega) (by omega) (by omega), e _ (by omega) (by omega) (by omega) (by omega), e _ (by omega) (by omega) (by omega) (by omega)]; exact hw i hi
  · rw [o 60 (by decide)]; exact hd i hi
/-- writes behind the last of people and wells show nowhere -/
theorem CR.sk {w : zW} {Q : zP} (h : CR w 10 Q) {k n : Nat} (x : Int32) (hk : (11 ≤ k ∧ k ≤ 13 ∧ Q 0 ≤ n) ∨ (14 ≤ k ∧ k ≤ 17 ∧ Q 1 ≤ n)) : CR (zup w k n x) 10 Q := by
  obtain ⟨ha, hp, hw⟩ := h
  have u : ∀ q p, ¬ (q = k ∧ p = n) → zup w k n x q p = w q p := by
    intro q p hq
    by_cases e : q = k
    · subst e; rw [zup_s, upd_n _ _ (fun z => hq ⟨rfl, z⟩)]
    · rw [zup_n _ _ _ e]
  refine ⟨by rw [zup_n _ _ _ (by omega)]; exact ha, fun p hpp => ?_, fun i hi => ?_⟩
  · rw [u _ _ (by omega), u _ _ (by omega), u _ _ (by omega)]; exact hp p hpp
  · rw [u _ _ (by omega), u _ _ (by omega), u _ _ (by omega), u _ _ (by omega)]; exact hw i hi
theorem PG.sk {w : zW} {Q : zP} {d : Nat} (h : PG w Q d) {k n : Nat} (x : Int32) (hk : (k = 60 ∧ Q 0 ≤ n ∧ n < 4) ∨ (k = 61 ∧ Q 0 ≤ n) ∨ (k = 60 ∧ 4 + Q 0 ≤ n ∧ n < 8) ∨ (k = 62 ∧ 2 * Q 1 ≤ n) ∨ (k = 60 ∧ 17 + Q 1 ≤ n)) (h0 : Q 0 ≤ 4) : PG (zup w k n x) Q d := by
  obtain ⟨ha, ⟨b1, b2, b3, b4, b5, b6⟩, hp, hw, hd⟩ := h
  have u : ∀ q p, ¬ (q = k ∧ p = n) → zup w k n x q p = w q p := by
    intro q p hq
    by_cases e : q = k
    · subst e; rw [zup_s, upd_n _ _ (fun z => hq ⟨rfl, z⟩)]
    · rw [zup_n _ _ _ e]
  refine ⟨by rw [zup_n _ _ _ (by omega)]; exact ha, ?_, fun p hpp => ?_, fun i hi => ?_, fun i hi => ?_⟩
  · rw [u _ _ (by omega), u _ _ (by omega), u _ _ (by omega), u _ _ (by omega), u _ _ (by omega), u _ _ (by omega)]; exact ⟨b1, b2, b3, b4, b5, b6⟩
  · rw [u _ _ (by omega), u _ _ (by omega), u _ _ (by omega)]; exact hp p hpp
  · rw [u _ _ (by omega), u _ _ (by omega), u _ _ (by omega)]; exact hw i hi
  · rw [u _ _ (by omega)]; exact hd i hi
theorem bdy_one : BDY (fun Q => Q 0 < 4) f_X2_readOne (fun w => f_X4_readMore w 0) := by
  intro c N s wc wm Q a b d hL h4
  have h4' : Q 0 < 4 := h4
  have hx := (tX_ok c N s).1
  obtain ⟨-, -, hC, hG, hO, -⟩ := id hL
  have n10c : wc 10 0 = nI (Q 0) := hC.n
  have n11 : wm 56 11 = nI (Q 0) := hG.1.1
  have hz4 : zin (nI (Q 0)) 4 = true := zin_nI (by omega) (by decide)
  have hz20 : zin (nI (Q 0)) 20 = true := zin_nI (by omega) (by decide)
  have hz20' : zin (nI (4 + Q 0)) 20 = true := zin_nI (by omega) (by decide)
  have hx0 : zx (nI (Q 0)) = Q 0 := zxI (by omega)
  have hx4 : zx (nI (4 + Q 0)) = 4 + Q 0 := zxI (by omega)
  have e4 : (4 : Int32) + nI (Q 0) = nI (4 + Q 0) := nI_add 4 _
  have e1n : nI (Q 0) + 1 = nI (Q 0 + 1) := nI_1 _
  have clt : nI (Q 0) < 4 := nI_lt (b := 4) h4' (by decide)
  have eF : f_X2_readOne wc = zbd2 (f_X2_nextToken wc) fun v4 w3 => if v4 = 0 then some (0, w3) else zbd (f_X2_kindByName w3) fun v6 => if v6 = -4 then some ((0 : Int32), zup (zup w3 42 10 2) 42 11 (w3 42 4)) else zbd2 (f_X2_readNumber (zup w3 11 (Q 0) v6) (nI 1) (nI 3)) fun v11 w10 => if v11 = 0 then some (0, w10) else zbd2 (f_X2_readNumber (zup w10 12 (Q 0) (w10 42 6)) (nI 0) (nI 20)) fun v16 w15 => if v16 = 0 then some (0, w15) else some (1, zup (zup w15 13 (Q 0) (w15 42 6)) 10 0 (zup w15 13 (Q 0) (w15 42 6) 10 0 + 1)) := by
    unfold f_X2_readOne
    rw [zletE, n10c, if_pos clt]
    simp only [zletE, k_fail, zbd2sE, zbo0E, hz4, zgTE, hx0]
    rfl
  -- the reference, from the number of the size on
  have eT : ∀ (w33 : zW), w33 56 11 = nI (Q 0) → (zbd2 (f_X4_number w33 1 3) fun v35 w34 => zg (zin (w33 56 11) 4) <| zlet (zup w34 61 (zx (w33 56 11)) v35) fun w37 => zbd2 (f_X4_number w37 0 20) fun v39 w38 => zg (zin ((4 : Int32) + (w37 56 11)) 20) <| zlet (zup w38 60 (zx ((4 : Int32) + (w37 56 11))) v39) fun w41 => zlet (zup w41 56 11 ((w41 56 11) + (1 : Int32))) fun w42 => some w42) = zbd2 (f_X4_number w33 (nI 1) (nI 3)) fun v35 w34 => zbd2 (f_X4_number (zup w34 61 (Q 0) v35) (nI 0) (nI 20)) fun v39 w38 => zg (zin ((4 : Int32) + zup w34 61 (Q 0) v35 56 11) 20) (some (zup (zup w38 60 (zx ((4 : Int32) + zup w34 61 (Q 0) v35 56 11)) v39) 56 11 (zup w38 60 (zx ((4 : Int32) + zup w34 61 (Q 0) v35 56 11)) v39 56 11 + 1))) := by
    intro w33 h33
    rw [h33]
    simp only [zletE, hz4, zgTE, hx0]
    rfl
  have eG : f_X4_readMore wm 0 = zbd2 (f_X4_named wm 8 5) fun v31 w30 => zbd2 (f_X4_number (zup w30 60 (Q 0) v31) (nI 1) (nI 3)) fun v35 w34 => zg (zin (zup w30 60 (Q 0) v31 56 11) 4) <| zlet (zup w34 61 (zx (zup w30 60 (Q 0) v31 56 11)) v35) fun w37 => zbd2 (f_X4_number w37 0 20) fun v39 w38 => zg (zin ((4 : Int32) + (w37 56 11)) 20) <| zlet (zup w38 60 (zx ((4 : Int32) + (w37 56 11))) v39) fun w41 => zlet (zup w41 56 11 ((w41 56 11) + (1 : Int32))) fun w42 => some w42 := by
    unfold f_X4_readMore
    rw [if_pos rfl, n11]
    simp only [zletE, hz20, zgTE, hx0]
    rfl
  refine ⟨fun hB => ?_, fun hB => ?_⟩
  · obtain ⟨w1, e1, f1, g1, g2⟩ := k_nx hL.1
    rw [hB] at e1
    exact ⟨w1, by rw [eF, e1, zbd2s, if_pos (show zbi (!true) = 0 from rfl)], (g2 hB).1, (g2 hB).2, f1.w⟩
  · obtain ⟨v, w1, w2, e1, e2, f1, f2, p2, p1, ho⟩ := ls_nam hL hB (by decide) nam_5
    have q11 : w2 56 11 = nI (Q 0) := by rw [f2.2 11 (by decide)]; exact n11
    show ∃ r wc1 wm1, _ ∧ f_X4_readMore wm 0 = _ ∧ _
    have h33 : zup w2 60 (Q 0) v 56 11 = nI (Q 0) := by rw [zup_n _ _ _ (by decide)]; exact q11
    rw [eF, eG, e1, e2, zbd2s, zbd2s, if_neg n10, k_kind p2 hL.1.2.1 p1, zbds]
    rw [show (zbd2 (f_X4_number (zup w2 60 (Q 0) v) (nI 1) (nI 3)) fun v35 w34 => zg (zin (zup w2 60 (Q 0) v 56 11) 4) <| zlet (zup w34 61 (zx (zup w2 60 (Q 0) v 56 11)) v35) fun w37 => zbd2 (f_X4_number w37 0 20) fun v39 w38 => zg (zin ((4 : Int32) + (w37 56 11)) 20) <| zlet (zup w38 60 (zx ((4 : Int32) + (w37 56 11))) v39) fun w41 => zlet (zup w41 56 11 ((w41 56 11) + (1 : Int32))) fun w42 => some w42) = _ from eT _ h33]
    have g2 : QW wm (zup w2 60 (Q 0) v) := f2.w.tr (QW.z _ _ _ _ (by omega))
    rcases ho with ⟨dx, rfl, q1, q2⟩ | ⟨dx1, dx2, rfl, x5, hL'⟩
    · have hf : FL (zup (zup w1 42 10 2) 42 11 (w1 42 4)) (zup w2 60 (Q 0) 0) := FL.m ⟨2, by decide, by decide, rfl, q1, by rw [q2]; exact p1.1.symm⟩ _ _ _ (by omega)
      have hf2 := hf.m 61 (Q 0) (nI 1) (by omega)
      obtain ⟨k, k1, k2, k3⟩ := hf.b
      obtain ⟨k', k1', k2', k3'⟩ := hf2.b
      have r11 : zup (zup w2 60 (Q 0) 0) 61 (Q 0) (nI 1) 56 11 = nI (Q 0) := by rw [zup_n _ _ _ (by decide)]; exact h33
      rw [if_neg dx, if_pos rfl, q_numberN k1 k2 k3, zbd2s, q_numberN k1' k2' k3', zbd2s, r11, e4, zgt hz20', hx4]
      exact ⟨0, _, _, rfl, rfl, (f1.tr ((PF.u _ _ (by decide)).tr (PF.u _ _ (by decide)))).w, ((g2.tr (QW.z _ _ _ _ (by omega))).tr (QW.z _ _ _ _ (by omega))).tr (QW.z _ _ _ _ (by omega)), .inl ⟨rfl, (hf2.m _ _ _ (by omega)).m _ _ _ (by omega)⟩⟩
    · obtain ⟨-, -, hC, hG, hO, -⟩ := id hL'
      rw [if_pos (show 8 ≤ tX c N s ∧ tX c N s < 13 from ⟨dx1, dx2⟩), if_neg (n_m4 (by omega))]
      have hL2 : zLS c N (tE c N s) (zup w1 11 (Q 0) (nI (tX c N s - 8))) (zup w2 60 (Q 0) (nI (tX c N s - 8))) Q a b d := hL'.new (fun k hk => zup_n _ _ _ (by omega)) (fun k k1 k2 k3 k4 => zup_n _ _ _ k2) (fun j hj => by rw [zup_n _ _ _ (by decide)]) (hC.sk _ (by omega)) (hG.sk _ (by omega) (by omega)) hO
      obtain ⟨r', v', w3, w4, e3, e5, f3, f4, -, ho'⟩ := ls_num hL2 (lo := 1) (hi := 3) (by decide) (by decide)
      have g1 : PW wc (zup w1 11 (Q 0) (nI (tX c N s - 8))) := f1.w.tr (PW.z _ _ _ _ (by omega))
      have q11' : w4 56 11 = nI (Q 0) := by rw [f4.2 11 (by decide)]; exact h33
      have r11 : zup w4 61 (Q 0) v' 56 11 = nI (Q 0) := by rw [zup_n _ _ _ (by decide)]; exact q11'
      rw [e3, e5, zbd2s, zbd2s, r11, e4]
      simp only [hz20', zgTE, hx4]
      rcases ho' with ⟨rfl, rfl, hf⟩ | ⟨rfl, y, s2, y1, y2, y3, rfl, y5, hL3⟩
      · have hf2 := hf.m 61 (Q 0) (nI 1) (by omega)
        obtain ⟨k', k1', k2', k3'⟩ := hf2.b
        rw [if_pos rfl, q_numberN k1' k2' k3', zbd2s]
        exact ⟨0, _, _, rfl, rfl, g1.tr f3.w, (((g2.tr f4.w).tr (QW.z _ _ _ _ (by omega))).tr (QW.z _ _ _ _ (by omega))).tr (QW.z _ _ _ _ (by omega)), .inl ⟨rfl, (hf2.m _ _ _ (by omega)).m _ _ _ (by omega)⟩⟩
      · obtain ⟨-, -, hC, hG, hO, -⟩ := id hL3
        rw [if_neg n10, y3]
        have hL4 : zLS c N s2 (zup w3 12 (Q 0) (nI y)) (zup w4 61 (Q 0) (nI y)) Q a b d := hL3.new (fun k hk => zup_n _ _ _ (by omega)) (fun k k1 k2 k3 k4 => zup_n _ _ _ k3) (fun j hj => by rw [zup_n _ _ _ (by decide)]) (hC.sk _ (by omega)) (hG.sk _ (by omega) (by omega)) hO
        obtain ⟨r', v'', w5, w6, e6, e7, f5, f6, -, ho''⟩ := ls_num hL4 (lo := 0) (hi := 20) (by decide) (by decide)
        have g3 : PW wc (zup w3 12 (Q 0) (nI y)) := (g1.tr f3.w).tr (PW.z _ _ _ _ (by omega))
        have g4 : QW wm (zup w4 61 (Q 0) (nI y)) := (g2.tr f4.w).tr (QW.z _ _ _ _ (by omega))
        rw [e6, e7, zbd2s, zbd2s]
        rcases ho'' with ⟨rfl, rfl, hf⟩ | ⟨rfl, z, s3, z1, z2, z3, rfl, z5, hL5⟩
        · rw [if_pos rfl]
          exact ⟨0, _, _, rfl, rfl, g3.tr f5.w, ((g4.tr f6.w).tr (QW.z _ _ _ _ (by omega))).tr (QW.z _ _ _ _ (by omega)), .inl ⟨rfl, (hf.m _ _ _ (by omega)).m _ _ _ (by omega)⟩⟩
        · obtain ⟨-, -, hC, hG, hO, -⟩ := id hL5
          have m0 : zup w5 13 (Q 0) (nI z) 10 0 = nI (Q 0) := by rw [zup_n _ _ _ (by decide)]; exact hC.n
          have m1 : zup w6 60 (4 + Q 0) (nI z) 56 11 = nI (Q 0) := by rw [zup_n _ _ _ (by decide)]; exact hG.1.1
          have t1 : w5 11 (Q 0) = nI (tX c N s - 8) := by rw [f5.1 11 (by decide), zup_n _ _ _ (by decide), f3.1 11 (by decide), zup_s, upd_s]
          have t2 : w5 12 (Q 0) = nI y := by rw [f5.1 12 (by decide), zup_s, upd_s]
          have u1 : w6 60 (Q 0) = nI (tX c N s - 8) := by rw [f6.1 60 (by decide), zup_n _ _ _ (by decide), f4.1 60 (by decide), zup_s, upd_s]
          have u2 : w6 61 (Q 0) = nI y := by rw [f6.1 61 (by decide), zup_s, upd_s]
          rw [if_neg n10, z3, m0, m1, e1n]
          refine ⟨1, _, _, rfl, rfl, ((g3.tr f5.w).tr (PW.z _ _ _ _ (by omega))).tr (PW.z _ _ _ _ (by omega)), ((g4.tr f6.w).tr (QW.z _ _ _ _ (by omega))).tr (QW.z _ _ _ _ (by omega)), .inr ⟨rfl, s3, m_one Q (tX c N s - 8) y z, d, by omega, ?_⟩⟩
          refine hL5.new (fun k hk => by rw [zup_n _ _ _ (by omega), zup_n _ _ _ (by omega)]) (fun k k1 k2 k3 k4 => by rw [zup_n _ _ _ k1, zup_n _ _ _ k2]) (fun j hj => by rw [zup_s, upd_n _ _ (by omega), zup_n _ _ _ (by decide)]) ?_ ?_ (hO.one h4' (by omega) y1 y2 z2)
          · exact (hC.sk (k := 13) (n := Q 0) (nI z) (by omega)).one h4' (by rw [zup_n _ _ _ (by decide)]; exact t1) (by rw [zup_n _ _ _ (by decide)]; exact t2) (by rw [zup_s, upd_s])
          · exact (hG.sk (k := 60) (n := 4 + Q 0) (nI z) (by omega) (by omega)).one h4' (by rw [zup_s, upd_n _ _ (by omega)]; exact u1) (by rw [zup_n _ _ _ (by decide)]; exact u2) (by rw [zup_s, upd_s])
