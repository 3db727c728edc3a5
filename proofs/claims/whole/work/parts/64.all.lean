/-! a line -/
def pRest (F : zW → Option (Int32 × zW)) (w : zW) : Option (Int32 × zW) := zbd2 (F w) fun v6 w5 => if v6 = 0 then some (0, w5) else zbd2 (f_X2_readStop w5) fun v10 w9 => if v10 = 0 then some (0, w9) else some (1, w9)
def qRest (G : zW → Option zW) (w6 : zW) : Option zW := if w6 56 20 ≤ 0 then zbd (G w6) fun w15 => qSt w15 else some w6
theorem ls_rest {C : zP → Prop} {F : zW → Option (Int32 × zW)} {G : zW → Option zW} (hB : BDY C F G) {c : Nat → Nat} {N s : Nat} {wc wm : zW} {Q : zP} {a b d : Nat} (hL : zLS c N s wc wm Q a b d) (hC : C Q) : ∃ r wc1 wm1, pRest F wc = some (r, wc1) ∧ qRest G wm = some wm1 ∧ PW wc wc1 ∧ QW wm wm1 ∧ OUT c N s a b wc1 wm1 r := by
  obtain ⟨h1, h2⟩ := hB c N s wc wm Q a b d hL hC
  unfold pRest qRest
  cases d : tB c N s with
  | true =>
    obtain ⟨w1, e1, x1, x2, x3⟩ := h1 d
    obtain ⟨y1, y2⟩ := hL.2.1.2.2.2.2.2 d
    rw [e1, zbd2s, if_pos rfl, y1, if_neg (by decide)]
    exact ⟨0, w1, wm, rfl, rfl, x3, QW.rf, .inl ⟨rfl, 1, by decide, by decide, x1, y1, by rw [y2, x2]⟩⟩
  | false =>
    obtain ⟨r, w1, w2, e1, e2, f1, f2, ho⟩ := h2 d
    rw [e1, zbd2s, hL.2.1.2.2.2.2.1 d, if_pos (show (0 : Int32) ≤ 0 by decide), e2, zbds]
    rcases ho with ⟨rfl, hf⟩ | ⟨rfl, s', Q', d', s1, hL'⟩
    · obtain ⟨k, k1, k2, k3⟩ := hf.b
      rw [if_pos rfl, q_stopN k1 k2 k3]
      exact ⟨0, w1, w2, rfl, rfl, f1, f2, .inl ⟨rfl, hf⟩⟩
    · obtain ⟨w3, e3, f3, g3, g4⟩ := k_stop hL'.1
      obtain ⟨w4, e4, f4, g5, g6⟩ := q_stop hL'.2.1
      rw [if_neg n10, e3, zbd2s, e4]
      by_cases sf : m_sf c N s' = 0
      · rw [if_pos sf, if_neg n10]
        obtain ⟨t1, t2⟩ := m_sf_0 sf
        have := (t_b c hL'.1.2.1).2.2.1 (by omega)
        have := (t_b c hL'.1.2.1).1
        exact ⟨1, w3, w4, rfl, rfl, f1.tr f3.w, f2.tr f4.w, .inr ⟨rfl, tE c N s', Q', d', by omega, hL'.adv f3 f4 (g3 sf) (g5 sf)⟩⟩
      · rw [if_neg sf, if_pos rfl]
        have hle := m_sf_le c N s'
        exact ⟨0, w3, w4, rfl, rfl, f1.tr f3.w, f2.tr f4.w, .inl ⟨rfl, m_sf c N s', by omega, by omega, (g4 sf).1, (g6 sf).1, by rw [(g6 sf).2, (g4 sf).2]⟩⟩
def pDis (v1 : Int32) (w3 : zW) : Option (Int32 × zW) := if v1 = 0 then pRest f_X2_readOne w3 else if v1 = 1 then pRest f_X2_readWell w3 else if v1 = 2 then pRest f_X2_readDry w3 else if v1 = 3 then pRest f_X2_readBottle w3 else if v1 = 4 then pRest f_X2_readGoal w3 else if v1 = 5 then pRest f_X2_readPlan w3 else if v1 = 6 then pRest f_X2_readDew w3 else if v1 = 7 then pRest f_X2_readFound w3 else some ((0 : Int32), zup (zup w3 42 10 2) 42 11 (w3 42 4))
theorem p_line (w : zW) : f_X2_readLine w = zbd (f_X2_lineByName w) fun v1 => if ((w 42 7 >>> (v1 &&& 31)) &&& 1) = 1 then some ((0 : Int32), zup (zup w 42 10 4) 42 11 (w 42 4)) else if v1 < 3 then pDis v1 w else pDis v1 (zup w 42 7 (w 42 7 ||| ((1 : Int32) <<< (v1 &&& 31)))) := by
  unfold f_X2_readLine pDis pRest
  simp only [zletE, zjn1E, k_fail, zbd2sE, zbo0E]
def qGo (v1 : Int32) (w4 : zW) : Option zW := zbd (f_X4_step (zup w4 56 14 (w4 56 14 ||| ((1 : Int32) <<< (v1 &&& 31))))) fun w6 => if w6 56 20 ≤ 0 then (if f_X4_in v1.toInt64 (1 : Int64) (5 : Int64) = 0 then zbd (f_X4_readMore w6 v1) fun w15 => qSt w15 else zbd (f_X4_readOnce w6 v1) fun w16 => qSt w16) else some w6
def qNm (v1 : Int32) (w3 : zW) : Option zW := if f_X4_in v1.toInt64 (1 : Int64) (5 : Int64) = 0 then qGo v1 w3 else if ((w3 56 14 >>> (v1 &&& 31)) &&& 1) = 1 then zbd (f_X4_fails w3 4) fun w19 => qGo v1 w19 else qGo v1 w3
theorem q_line (w : zW) : f_X4_readLine w = zbd (f_X4_nameHere w) fun v1 => if f_X4_in v1.toInt64 (0 : Int64) (7 : Int64) = 0 then zbd (f_X4_fails w 2) fun w25 => some w25 else if v1 = 0 then (if w 56 11 = 4 then zbd (f_X4_fails w 5) fun w20 => qNm v1 w20 else if v1 = 6 then (if w 56 12 = 3 then zbd (f_X4_fails w 5) fun w20 => qNm v1 w20 else qNm v1 w) else qNm v1 w) else if v1 = 6 then (if w 56 12 = 3 then zbd (f_X4_fails w 5) fun w20 => qNm v1 w20 else qNm v1 w) else qNm v1 w := by
  unfold f_X4_readLine qNm qGo qSt
  simp only [zletE, zjn1E, zjn0E]
/-- unbroken: the name is taken -/
theorem q_goOk {c : Nat → Nat} {N s : Nat} {w : zW} (h : QS c N s w) (h20 : w 56 20 = 0) {b r : Nat} (hb : w 56 14 = nI b) (hb2 : b < 256) (hr : r < 8) (G : zW → Option zW) (hG : ∀ w6 : zW, (if f_X4_in (nI r).toInt64 (1 : Int64) (5 : Int64) = 0 then zbd (f_X4_readMore w6 (nI r)) fun w15 => qSt w15 else zbd (f_X4_readOnce w6 (nI r)) fun w16 => qSt w16) = zbd (G w6) fun w15 => qSt w15) : ∃ w6, qGo (nI r) w = qRest G w6 ∧ QF (zup w 56 14 (nI (b ||| 2 ^ r))) w6 ∧ QS c N (tE c N s) w6 := by
  have hq : QS c N s (zup w 56 14 (nI (b ||| 2 ^ r))) := h.z _ _ _ (by omega)
  obtain ⟨w6, e1, f1, g1⟩ := q_acc hq (by rw [zup_s, upd_n _ _ (by decide)]; exact h20)
  refine ⟨w6, ?_, f1, g1⟩
  unfold qGo qRest
  rw [hb, (bit_or hb2 hr).1, e1, zbds, hG]
/-- broken: nothing more comes of it -/
theorem q_goN {w : zW} {k : Nat} (h : w 56 20 = nI k) (h0 : 0 < k) (hk : k < 2 ^ 31) (v1 : Int32) : qGo v1 w = some (zup w 56 14 (w 56 14 ||| ((1 : Int32) <<< (v1 &&& 31)))) := by
  have h' : zup w 56 14 (w 56 14 ||| ((1 : Int32) <<< (v1 &&& 31))) 56 20 = nI k := by rw [zup_s, upd_n _ _ (by decide)]; exact h
  unfold qGo
  rw [q_stepN h' h0 hk, zbds, h', if_neg (nI_nle h0 hk)]
def OUL (c : Nat → Nat) (N s : Nat) (wc wm : zW) (r : Int32) : Prop := (r = 0 ∧ FL wc wm) ∨ (r = 1 ∧ ∃ s' Q' a' b' d', s < s' ∧ zLS c N s' wc wm Q' a' b' d')
theorem nam_in : ∀ x, x < 18 → f_X4_in ((if x < 17 then nI (nro x) else -4 : Int32).toInt64) (0 : Int64) (7 : Int64) = if x < 8 then 1 else 0 := by decide +kernel
theorem in_15 : ∀ r, r < 8 → f_X4_in (nI r).toInt64 (1 : Int64) (5 : Int64) = if 1 ≤ r ∧ r ≤ 5 then 1 else 0 := by decide +kernel
/-- at a line's name: program behind its token, reference with the token at hand -/
theorem ls_line {c : Nat → Nat} {N s : Nat} {wc wc1 wm : zW} {Q : zP} {a b d : Nat} (hL : zLS c N s wc wm Q a b d) (hB : tB c N s = false) (hK : tK c N s ≠ 0) (f1 : PF wc wc1) (p1 : PC c N s wc1) (p3 : PS c N (tE c N s) wc1) : ∃ r wc2 wm2, f_X2_readLine wc1 = some (r, wc2) ∧ f_X4_readLine wm = some wm2 ∧ PW wc1 wc2 ∧ QW wm wm2 ∧ OUL c N s wc2 wm2 r := by
  obtain ⟨hP, hQ, hC, hG, hO, ⟨t1, t2, t3⟩, ⟨d1, d2, d3, d4⟩⟩ := id hL
  obtain ⟨t31, t32, t33, t34⟩ := id t3
  have hs := hP.2.1
  have hE := (t_b c hs).2.2.1 hK
  have hs1 := (t_b c hs).1
  have hx := (tX_ok c N s).1
  have h20 := hQ.2.2.2.2.1 hB
  have hQC := hQ.2.2.2.1
  have k7 : wc1 42 7 = nI a := by rw [f1.2 7 (by decide) (by decide) (by decide) (by decide) (by decide) (by decide)]; exact t1
  have k8 : wc1 42 8 = nI d := by rw [f1.2 8 (by decide) (by decide) (by decide) (by decide) (by decide) (by decide)]; exact d1
  have hn : f_X4_nameHere wm = some (if tX c N s < 17 then nI (nro (tX c N s)) else -4) := q_nameHere hQ.1 hQ.2.1 hs hQC
  have hin := nam_in (tX c N s) (by omega)
  rw [p_line, q_line, k_line p3.1 hs p1, hn, zbds, zbds, hin, k7]
  -- a fault of the name itself
  have fl : ∀ (k : Nat) (wc2 wm2 : zW), 0 < k → k ≤ 6 → wc2 42 10 = nI k → wc2 42 11 = nI (tH c N s) → wm2 56 20 = nI k → wm2 56 21 = nI (tH c N s) → FL wc2 wm2 := fun k wc2 wm2 k0 k6 x1 x2 x3 x4 => ⟨k, k0, k6, x1, x3, by rw [x4, x2]⟩
  by_cases d8 : tX c N s < 8
  · -- the lines
    have go : ∀ (r : Nat) (F : zW → Option (Int32 × zW)) (G : zW → Option zW) (C : zP → Prop) (a' : Nat) (wc2 : zW), r < 8 → BDY C F G → C Q → (∀ w6 : zW, (if f_X4_in (nI r).toInt64 (1 : Int64) (5 : Int64) = 0 then zbd (f_X4_readMore w6 (nI r)) fun w15 => qSt w15 else zbd (f_X4_readOnce w6 (nI r)) fun w16 => qSt w16) = zbd (G w6) fun w15 => qSt w15) → BT a' (b ||| 2 ^ r) → PS c N (tE c N s) wc2 → CR wc2 10 Q → wc2 42 7 = nI a' → wc2 42 8 = nI d → ∃ r' wc3 wm2, pRest F wc2 = some (r', wc3) ∧ qGo (nI r) wm = some wm2 ∧ PW wc2 wc3 ∧ QW wm wm2 ∧ OUL c N s wc3 wm2 r' := by
      intro r F G C a' wc2 hr hbd hCQ hGG hBT hps hcr h7 h8
      obtain ⟨w6, e6, f6, g6⟩ := q_goOk hQ h20 t2 t32 hr G hGG
      have hL6 : zLS c N (tE c N s) wc2 w6 Q a' (b ||| 2 ^ r) d := by
        refine ⟨hps, g6, hcr, ?_, hO, ⟨h7, ?_, hBT⟩, ⟨h8, ?_, d3, ?_⟩⟩
        · refine PG.qf ?_ f6
          obtain ⟨⟨z1, z2, z3⟩, zr⟩ := hG
          have o : ∀ k, k ≠ 56 → zup wm 56 14 (nI (b ||| 2 ^ r)) k = wm k := fun k hk => zup_n _ _ _ hk
          refine ⟨⟨?_, ?_, ?_⟩, ?_⟩
          · rw [zup_s, upd_n _ _ (by decide)]; exact z1
          · rw [zup_s, upd_n _ _ (by decide)]; exact z2
          · rw [zup_s, upd_n _ _ (by decide)]; exact z3
          · rw [o 60 (by decide), o 61 (by decide), o 62 (by decide)]; exact zr
        · rw [f6.2 14 (by decide), zup_s, upd_s]
        · rw [f6.2 15 (by decide), zup_s, upd_n _ _ (by decide)]; exact d2
        · rw [f6.2 16 (by decide), zup_s, upd_n _ _ (by decide)]; exact d4
      obtain ⟨r', wc3, wm2, x1, x2, x3, x4, x5⟩ := ls_rest hbd hL6 hCQ
      refine ⟨r', wc3, wm2, x1, by rw [e6]; exact x2, x3, ((QW.z _ _ _ _ (by omega)).tr f6.w).tr x4, ?_⟩
      rcases x5 with ⟨y1, y2⟩ | ⟨y1, s', Q', d', y2, y3⟩
      · exact .inl ⟨y1, y2⟩
      · exact .inr ⟨y1, s', Q', a', _, d', by omega, y3⟩
    have hc1 : CR wc1 10 Q := hC.pf f1
    -- bottle, goal, plan, dew, found
    have once : ∀ (k : Nat) (F : zW → Option (Int32 × zW)), 1 ≤ k → k ≤ 5 → BDY (fun _ => True) F (fun w => f_X4_readOnce w (nI k)) → (∀ w3, pDis (nI (k + 2)) w3 = pRest F w3) → ∃ r wc2 wm2, (if ((nI a >>> (nI (k + 2) &&& 31)) &&& 1) = 1 then some ((0 : Int32), zup (zup wc1 42 10 4) 42 11 (wc1 42 4)) else if nI (k + 2) < 3 then pDis (nI (k + 2)) wc1 else pDis (nI (k + 2)) (zup wc1 42 7 (nI a ||| ((1 : Int32) <<< (nI (k + 2) &&& 31))))) = some (r, wc2) ∧ qNm (nI k) wm = some wm2 ∧ PW wc1 wc2 ∧ QW wm wm2 ∧ OUL c N s wc2 wm2 r := by
      intro k F hk1 hk5 hbd hpd
      have h15 := in_15 k (by omega)
      rw [if_pos ⟨hk1, hk5⟩] at h15
      have bt1 := bit_t (a := a) (k := k + 2) (by omega) (by omega)
      have bt2 := bit_t (a := b) (k := k) (by omega) (by omega)
      have e34 := t34 k hk1 hk5
      unfold qNm
      rw [h15, if_neg n10, t2]
      by_cases tb : a.testBit (k + 2) = true
      · obtain ⟨u1, u2⟩ := QF.fl h20 4
        rw [if_pos (bt1.mpr tb), if_pos (bt2.mpr (by rw [← e34]; exact tb)), u1, zbds, q_goN (k := 4) rfl (by decide) (by decide)]
        refine ⟨0, _, _, rfl, rfl, ((PF.u _ _ (by decide)).tr (PF.u _ _ (by decide))).w, u2.w.tr (QW.z _ _ _ _ (by omega)), .inl ⟨rfl, ?_⟩⟩
        exact FL.m (fl 4 _ _ (by decide) (by decide) rfl p1.1 rfl hQC.1) _ _ _ (by omega)
      · have nb2 : ¬ ((nI b >>> (nI k &&& 31)) &&& 1) = 1 := fun q => tb (by rw [e34]; exact bt2.mp q)
        have nlt : ¬ nI (k + 2) < 3 := nI_nlt (a := k + 2) (b := 3) (by omega) (by omega)
        rw [if_neg (fun q => tb (bt1.mp q)), if_neg nlt, if_neg nb2, (bit_or t31 (by omega)).1, hpd]
        obtain ⟨r', wc3, wm2, x1, x2, x3, x4, x5⟩ := go k F (fun w => f_X4_readOnce w (nI k)) (fun _ => True) (a ||| 2 ^ (k + 2)) (zup wc1 42 7 (nI (a ||| 2 ^ (k + 2)))) (by omega) hbd trivial (fun w6 => by rw [h15, if_neg n10]) (t3.set hk1 hk5) (p3.z _ _ _ (by omega)) (hc1.frame (fun q _ _ => zup_n _ _ _ (by omega))) (by rw [zup_s, upd_s]) (by rw [zup_s, upd_n _ _ (by decide)]; exact k8)
        exact ⟨r', wc3, wm2, x1, x2, (PW.z _ _ _ _ (by omega)).tr x3, x4, x5⟩
    -- one, well, dry
    have more : ∀ (x r : Nat) (F : zW → Option (Int32 × zW)) (C : zP → Prop), x < 3 → (r = 0 ∨ r = 6 ∨ r = 7) → BDY C F (fun w => f_X4_readMore w (nI r)) → C Q → (∀ w3, pDis (nI x) w3 = pRest F w3) → ∃ r' wc2 wm2, (if ((nI a >>> (nI x &&& 31)) &&& 1) = 1 then some ((0 : Int32), zup (zup wc1 42 10 4) 42 11 (wc1 42 4)) else if nI x < 3 then pDis (nI x) wc1 else pDis (nI x) (zup wc1 42 7 (nI a ||| ((1 : Int32) <<< (nI x &&& 31))))) = some (r', wc2) ∧ qNm (nI r) wm = some wm2 ∧ PW wc1 wc2 ∧ QW wm wm2 ∧ OUL c N s wc2 wm2 r' := by
      intro x r F C hx3 hr hbd hCQ hpd
      have h15 := in_15 r (by omega)
      rw [if_neg (by omega)] at h15
      have bt1 := bit_t (a := a) (k := x) (by omega) (by omega)
      have e0 := t33 x hx3
      unfold qNm
      rw [h15, if_pos rfl, if_neg (fun q => by rw [bt1.mp q] at e0; exact absurd e0 (by decide)), if_pos (show nI x < 3 from nI_lt (b := 3) hx3 (by decide)), hpd]
      exact go r F (fun w => f_X4_readMore w (nI r)) C a wc1 (by omega) hbd hCQ (fun w6 => by rw [h15, if_pos rfl]) (t3.oth hr) p3 hc1 k7 k8
    -- too many
    have many : ∀ (x r : Nat) (F : zW → Option (Int32 × zW)), x < 3 → (r = 0 ∨ r = 6 ∨ r = 7) → (∀ w3, pDis (nI x) w3 = pRest F w3) → F wc1 = some (0, zup (zup wc1 42 10 5) 42 11 (wc1 42 4)) → ∃ r' wc2 wm2, (if ((nI a >>> (nI x &&& 31)) &&& 1) = 1 then some ((0 : Int32), zup (zup wc1 42 10 4) 42 11 (wc1 42 4)) else if nI x < 3 then pDis (nI x) wc1 else pDis (nI x) (zup wc1 42 7 (nI a ||| ((1 : Int32) <<< (nI x &&& 31))))) = some (r', wc2) ∧ (zbd (f_X4_fails wm 5) fun w20 => qNm (nI r) w20) = some wm2 ∧ PW wc1 wc2 ∧ QW wm wm2 ∧ OUL c N s wc2 wm2 r' := by
      intro x r F hx3 hr hpd hF
      have h15 := in_15 r (by omega)
      rw [if_neg (by omega)] at h15
      have bt1 := bit_t (a := a) (k := x) (by omega) (by omega)
      have e0 := t33 x hx3
      obtain ⟨u1, u2⟩ := QF.fl h20 5
      rw [u1, zbds, if_neg (fun q => by rw [bt1.mp q] at e0; exact absurd e0 (by decide)), if_pos (show nI x < 3 from nI_lt (b := 3) hx3 (by decide)), hpd]
      unfold qNm pRest
      rw [h15, if_pos rfl, hF, zbd2s, if_pos rfl, q_goN (k := 5) rfl (by decide) (by decide)]
      refine ⟨0, _, _, rfl, rfl, ((PF.u _ _ (by decide)).tr (PF.u _ _ (by decide))).w, u2.w.tr (QW.z _ _ _ _ (by omega)), .inl ⟨rfl, ?_⟩⟩
      exact FL.m (fl 5 _ _ (by decide) (by decide) rfl p1.1 rfl hQC.1) _ _ _ (by omega)
    have n11 : wm 56 11 = nI (Q 0) := hG.1.1
    have n12 : wm 56 12 = nI (Q 1) := hG.1.2.1
    have q0 := hO.1.1.1
    have q1 := hO.1.1.2.1
    have c4 : nI (Q 0) = 4 ↔ Q 0 = 4 := nI_eq (b := 4) (by omega) (by decide)
    have c3 : nI (Q 1) = 3 ↔ Q 1 = 3 := nI_eq (b := 3) (by omega) (by decide)
    rw [if_pos d8, if_pos d8, if_neg n10, if_pos (show tX c N s < 17 by omega), n11, n12]
    rcases (show tX c N s = 0 ∨ tX c N s = 1 ∨ tX c N s = 2 ∨ tX c N s = 3 ∨ tX c N s = 4 ∨ tX c N s = 5 ∨ tX c N s = 6 ∨ tX c N s = 7 by omega) with e | e | e | e | e | e | e | e <;> rw [e]
    · rw [show nI (nro 0) = 0 from rfl, if_pos rfl, if_neg (show ¬ (0 : Int32) = 6 by decide)]
      by_cases q : Q 0 = 4
      · rw [if_pos (c4.mpr q)]
        refine many 0 0 f_X2_readOne (by decide) (by decide) (fun w3 => by unfold pDis; rw [if_pos (by decide)]) ?_
        unfold f_X2_readOne
        rw [zletE, hc1.n, if_neg (show ¬ nI (Q 0) < 4 from nI_nlt (a := Q 0) (b := 4) (by omega) (by omega)), k_fail, zbd2s]
        rfl
      · rw [if_neg (fun z => q (c4.mp z))]
        exact more 0 0 f_X2_readOne (fun Q => Q 0 < 4) (by decide) (by decide) bdy_one (show Q 0 < 4 by omega) (fun w3 => by unfold pDis; rw [if_pos (by decide)])
    · rw [show nI (nro 1) = 6 from rfl, if_neg (show ¬ (6 : Int32) = 0 by decide), if_pos rfl]
      by_cases q : Q 1 = 3
      · rw [if_pos (c3.mpr q)]
        refine many 1 6 f_X2_readWell (by decide) (by decide) (fun w3 => by unfold pDis; rw [if_neg (by decide), if_pos (by decide)]) ?_
        unfold f_X2_readWell
        rw [zletE, hc1.wl, if_neg (show ¬ nI (Q 1) < 3 from nI_nlt (a := Q 1) (b := 3) (by omega) (by omega)), k_fail, zbd2s]
        rfl
      · rw [if_neg (fun z => q (c3.mp z))]
        exact more 1 6 f_X2_readWell (fun Q => Q 1 < 3) (by decide) (by decide) bdy_well (show Q 1 < 3 by omega) (fun w3 => by unfold pDis; rw [if_neg (by decide), if_pos (by decide)])
    · rw [show nI (nro 2) = 7 from rfl, if_neg (show ¬ (7 : Int32) = 0 by decide), if_neg (show ¬ (7 : Int32) = 6 by decide)]
      exact more 2 7 f_X2_readDry (fun _ => True) (by decide) (by decide) bdy_dry trivial (fun w3 => by unfold pDis; rw [if_neg (by decide), if_neg (by decide), if_pos (by decide)])
    · rw [show nI (nro 3) = 1 from rfl, if_neg (show ¬ (1 : Int32) = 0 by decide), if_neg (show ¬ (1 : Int32) = 6 by decide)]
      exact once 1 f_X2_readBottle (by decide) (by decide) bdy_bottle (fun w3 => by unfold pDis; rw [if_neg (by decide), if_neg (by decide), if_neg (by decide), if_pos (by decide)])
    · rw [show nI (nro 4) = 2 from rfl, if_neg (show ¬ (2 : Int32) = 0 by decide), if_neg (show ¬ (2 : Int32) = 6 by decide)]
      exact once 2 f_X2_readGoal (by decide) (by decide) bdy_goal (fun w3 => by unfold pDis; rw [if_neg (by decide), if_neg (by decide), if_neg (by decide), if_neg (by decide), if_pos (by decide)])
    · rw [show nI (nro 5) = 3 from rfl, if_neg (show ¬ (3 : Int32) = 0 by decide), if_neg (show ¬ (3 : Int32) = 6 by decide)]
      exact once 3 f_X2_readPlan (by decide) (by decide) bdy_plan (fun w3 => by unfold pDis; rw [if_neg (by decide), if_neg (by decide), if_neg (by decide), if_neg (by decide), if_neg (by decide), if_pos (by decide)])
    · rw [show nI (nro 6) = 4 from rfl, if_neg (show ¬ (4 : Int32) = 0 by decide), if_neg (show ¬ (4 : Int32) = 6 by decide)]
      exact once 4 f_X2_readDew (by decide) (by decide) bdy_dew (fun w3 => by unfold pDis; rw [if_neg (by decide), if_neg (by decide), if_neg (by decide), if_neg (by decide), if_neg (by decide), if_neg (by decide), if_pos (by decide)])
    · rw [show nI (nro 7) = 5 from rfl, if_neg (show ¬ (5 : Int32) = 0 by decide), if_neg (show ¬ (5 : Int32) = 6 by decide)]
      exact once 5 f_X2_readFound (by decide) (by decide) bdy_found (fun w3 => by unfold pDis; rw [if_neg (by decide), if_neg (by decide), if_neg (by decide), if_neg (by decide), if_neg (by decide), if_neg (by decide), if_neg (by decide), if_pos (by decide)])
  · -- no line's name
    have bt1 := bit_t (a := a) (k := 8) (by omega) (by decide)
    have e8 : a.testBit 8 = false := Nat.testBit_lt_two_pow t31
    obtain ⟨u1, u2⟩ := QF.fl h20 2
    have hpd : ∀ w3, pDis (nI 8) w3 = some ((0 : Int32), zup (zup w3 42 10 2) 42 11 (w3 42 4)) := fun w3 => by
      unfold pDis
      rw [if_neg (by decide), if_neg (by decide), if_neg (by decide), if_neg (by decide), if_neg (by decide), if_neg (by decide), if_neg (by decide), if_neg (by decide)]
    rw [if_neg d8, if_neg d8, if_pos rfl, u1, zbds, if_neg (fun q => by rw [bt1.mp q] at e8; exact absurd e8 (by decide)), if_neg (by decide), hpd]
    refine ⟨0, _, _, rfl, rfl, (PW.z _ _ _ _ (by omega)).tr ((PF.u _ _ (by decide)).tr (PF.u _ _ (by decide))).w, u2.w, .inl ⟨rfl, ?_⟩⟩
    exact fl 2 _ _ (by decide) (by decide) rfl p1.1 rfl hQC.1
