/-! well, dry; a line's rest -/
def m_wl (Q : zP) (x y z : Nat) : zP := fun j => if j = 1 then Q 1 + 1 else if j = 40 + Q 1 then x else if j = 50 + Q 1 then y else if j = 60 + Q 1 then z else if j = 70 + Q 1 then 1 else Q j
theorem m_wl_at (Q : zP) (x y z : Nat) : m_wl Q x y z 1 = Q 1 + 1 ∧ m_wl Q x y z (40 + Q 1) = x ∧ m_wl Q x y z (50 + Q 1) = y ∧ m_wl Q x y z (60 + Q 1) = z ∧ m_wl Q x y z (70 + Q 1) = 1 ∧ ∀ j, j ≠ 1 → j ≠ 40 + Q 1 → j ≠ 50 + Q 1 → j ≠ 60 + Q 1 → j ≠ 70 + Q 1 → m_wl Q x y z j = Q j := by
  unfold m_wl
  refine ⟨if_pos rfl, ?_, ?_, ?_, ?_, fun j a b c d e => ?_⟩
  · rw [if_neg (by omega), if_pos rfl]
  · rw [if_neg (by omega), if_neg (by omega), if_pos rfl]
  · rw [if_neg (by omega), if_neg (by omega), if_neg (by omega), if_pos rfl]
  · rw [if_neg (by omega), if_neg (by omega), if_neg (by omega), if_neg (by omega), if_pos rfl]
  · rw [if_neg a, if_neg b, if_neg c, if_neg d, if_neg e]
theorem OT.wl {Q : zP} (h : OT Q) (h3' : Q 1 < 3) {x y z : Nat} (hx1 : 1 ≤ x) (hx : x ≤ 60) (hy : y ≤ 10) (hz1 : 1 ≤ z) (hz : z ≤ 20) : OT (m_wl Q x y z) := by
  obtain ⟨⟨⟨h0, h1, h2, h3, h5, h6, h7, h8⟩, hp, hw⟩, g3, g4, gw⟩ := h
  obtain ⟨e1, e4, e5, e6, e7, e⟩ := m_wl_at Q x y z
  have s : ∀ j, j < 40 → j ≠ 1 → m_wl Q x y z j = Q j := fun j a b => e j b (by omega) (by omega) (by omega) (by omega)
  refine ⟨⟨⟨by rw [s 0 (by decide) (by decide)]; exact h0, by rw [e1]; omega, by rw [s 2 (by decide) (by decide)]; exact h2, by rw [s 3 (by decide) (by decide)]; exact h3, by rw [s 5 (by decide) (by decide)]; exact h5, by rw [s 6 (by decide) (by decide)]; exact h6, by rw [s 7 (by decide) (by decide)]; exact h7, by rw [s 8 (by decide) (by decide)]; exact h8⟩, fun p hpp => ?_, fun i hi => ?_⟩, by rw [s 3 (by decide) (by decide)]; exact g3, by rw [s 4 (by decide) (by decide)]; exact g4, fun i hi => ?_⟩
  · rw [s 0 (by decide) (by decide)] at hpp
    rw [s _ (by omega) (by omega), s _ (by omega) (by omega), s _ (by omega) (by omega)]; exact hp p hpp
  · rw [e1] at hi
    by_cases d : i = Q 1
    · subst d; rw [e4, e5, e6, e7]; exact ⟨hx1, hx, hy, hz1, hz, by decide⟩
    · rw [e _ (by omega) (by omega) (by omega) (by omega) (by omega), e _ (by omega) (by omega) (by omega) (by omega) (by omega), e _ (by omega) (by omega) (by omega) (by omega) (by omega), e _ (by omega) (by omega) (by omega) (by omega) (by omega)]; exact hw i (by omega)
  · rw [e1] at hi
    by_cases d : i = Q 1
    · subst d; exact e7
    · rw [e _ (by omega) (by omega) (by omega) (by omega) (by omega)]; exact gw i (by omega)
theorem CR.wlm {w : zW} {Q : zP} (h : CR w 10 Q) (h4 : Q 0 ≤ 4) (h3' : Q 1 < 3) {x y z : Nat} (r1 : w 14 (Q 1) = nI x) (r2 : w 15 (Q 1) = nI y) (r3 : w 16 (Q 1) = nI z) (r4 : w 17 (Q 1) = 1) : CR (zup w 10 4 (nI (Q 1 + 1))) 10 (m_wl Q x y z) := by
  obtain ⟨⟨a0, a4, a9, a10, a11, a12, a13, a14, a15⟩, hp, hw⟩ := h
  obtain ⟨e1, e4, e5, e6, e7, e⟩ := m_wl_at Q x y z
  have s : ∀ j, j < 40 → j ≠ 1 → m_wl Q x y z j = Q j := fun j a b => e j b (by omega) (by omega) (by omega) (by omega)
  refine ⟨?_, fun p hpp => ?_, fun i hi => ?_⟩
  · rw [zup_s, upd_s, upd_n _ _ (by decide), upd_n _ _ (by decide), upd_n _ _ (by decide), upd_n _ _ (by decide), upd_n _ _ (by decide), upd_n _ _ (by decide), upd_n _ _ (by decide), upd_n _ _ (by decide), e1, s 0 (by decide) (by decide), s 2 (by decide) (by decide), s 3 (by decide) (by decide), s 4 (by decide) (by decide), s 5 (by decide) (by decide), s 6 (by decide) (by decide), s 7 (by decide) (by decide), s 8 (by decide) (by decide)]
    exact ⟨a0, rfl, a9, a10, a11, a12, a13, a14, a15⟩
  · rw [s 0 (by decide) (by decide)] at hpp
    rw [zup_n _ _ _ (by decide), zup_n _ _ _ (by decide), zup_n _ _ _ (by decide), s _ (by omega) (by omega), s _ (by omega) (by omega), s _ (by omega) (by omega)]; exact hp p hpp
  · rw [e1] at hi
    rw [zup_n _ _ _ (by decide), zup_n _ _ _ (by decide), zup_n _ _ _ (by decide), zup_n _ _ _ (by decide)]
    by_cases d : i = Q 1
    · subst d; rw [e4, e5, e6, e7]; exact ⟨r1, r2, r3, r4⟩
    · rw [e _ (by omega) (by omega) (by omega) (by omega) (by omega), e _ (by omega) (by omega) (by omega) (by omega) (by omega), e _ (by omega) (by omega) (by omega) (by omega) (by omega), e _ (by omega) (by omega) (by omega) (by omega) (by omega)]; exact hw i (by omega)
theorem PG.wlm {w : zW} {Q : zP} {d : Nat} (h : PG w Q d) (h4 : Q 0 ≤ 4) (h3' : Q 1 < 3) {x y z : Nat} (r1 : w 62 (2 * Q 1) = nI x) (r2 : w 60 (17 + Q 1) = nI y) (r3 : w 62 (2 * Q 1 + 1) = nI z) : PG (zup w 56 12 (nI (Q 1 + 1))) (m_wl Q x y z) d := by
  obtain ⟨⟨a1, a2, a3⟩, hb, hp, hw, hd⟩ := h
  obtain ⟨e1, e4, e5, e6, e7, e⟩ := m_wl_at Q x y z
  have s : ∀ j, j < 40 → j ≠ 1 → m_wl Q x y z j = Q j := fun j a b => e j b (by omega) (by omega) (by omega) (by omega)
  have o : ∀ q, q ≠ 56 → zup w 56 12 (nI (Q 1 + 1)) q = w q := fun q hq => zup_n _ _ _ hq
  refine ⟨?_, ?_, fun p hpp => ?_, fun i hi => ?_, fun i hi => ?_⟩
  · rw [zup_s, upd_s, upd_n _ _ (by decide), upd_n _ _ (by decide), e1, s 0 (by decide) (by decide), s 2 (by decide) (by decide)]; exact ⟨a1, rfl, a3⟩
  · rw [o 60 (by decide), s 3 (by decide) (by decide), s 4 (by decide) (by decide), s 5 (by decide) (by decide), s 6 (by decide) (by decide), s 7 (by decide) (by decide), s 8 (by decide) (by decide)]; exact hb
  · rw [s 0 (by decide) (by decide)] at hpp
    rw [o 60 (by decide), o 61 (by decide), s _ (by omega) (by omega), s _ (by omega) (by omega), s _ (by omega) (by omega)]; exact hp p hpp
  · rw [e1] at hi
    rw [o 60 (by decide), o 62 (by decide)]
    by_cases dd : i = Q 1
    · subst dd; rw [e4, e5, e6]; exact ⟨r1, r2, r3⟩
    · rw [e _ (by omega) (by omega) (by omega) (by omega) (by omega), e _ (by omega) (by omega) (by omega) (by omega) (by omega), e _ (by omega) (by omega) (by omega) (by omega) (by omega)]; exact hw i (by omega)
  · rw [o 60 (by decide)]; exact hd i hi
def qGB (w24 : zW) : Option zW := zbd2 (f_X4_number w24 1 20) fun v26 w25 => zg (zin (((2 : Int32) * (w24 56 12)) + 1) 6) (some (zup (zup w25 62 (zx (((2 : Int32) * (w24 56 12)) + 1)) v26) 56 12 (zup w25 62 (zx (((2 : Int32) * (w24 56 12)) + 1)) v26 56 12 + 1)))
def qGA (w20 : zW) : Option zW := zbd2 (f_X4_number w20 0 10) fun v22 w21 => zg (zin ((17 : Int32) + (w20 56 12)) 20) (qGB (zup w21 60 (zx ((17 : Int32) + (w20 56 12))) v22))
theorem bdy_well : BDY (fun Q => Q 1 < 3) f_X2_readWell (fun w => f_X4_readMore w 6) := by
  intro c N s wc wm Q a b d hL h3
  have h3' : Q 1 < 3 := h3
  obtain ⟨-, -, hC, hG, hO, -⟩ := id hL
  have b0 := hO.1.1.1
  have n10c : wc 10 4 = nI (Q 1) := hC.wl
  have n12 : wm 56 12 = nI (Q 1) := hG.1.2.1
  have hz3 : zin (nI (Q 1)) 3 = true := zin_nI (by omega) (by decide)
  have hx0 : zx (nI (Q 1)) = Q 1 := zxI (by omega)
  have e2 : (2 : Int32) * nI (Q 1) = nI (2 * Q 1) := pk_mul 2 _
  have e21 : nI (2 * Q 1) + 1 = nI (2 * Q 1 + 1) := nI_1 _
  have e17 : (17 : Int32) + nI (Q 1) = nI (17 + Q 1) := nI_add 17 _
  have e1n : nI (Q 1) + 1 = nI (Q 1 + 1) := nI_1 _
  have hz2 : zin (nI (2 * Q 1)) 6 = true := zin_nI (by omega) (by decide)
  have hz21 : zin (nI (2 * Q 1 + 1)) 6 = true := zin_nI (by omega) (by decide)
  have hz17 : zin (nI (17 + Q 1)) 20 = true := zin_nI (by omega) (by decide)
  have hx2 : zx (nI (2 * Q 1)) = 2 * Q 1 := zxI (by omega)
  have hx21 : zx (nI (2 * Q 1 + 1)) = 2 * Q 1 + 1 := zxI (by omega)
  have hx17 : zx (nI (17 + Q 1)) = 17 + Q 1 := zxI (by omega)
  have clt : nI (Q 1) < 3 := nI_lt (b := 3) h3' (by decide)
  have eF : f_X2_readWell wc = zbd2 (f_X2_readNumber wc (nI 1) (nI 60)) fun v4 w3 => if v4 = 0 then some (0, w3) else zbd2 (f_X2_readNumber (zup w3 14 (Q 1) (w3 42 6)) (nI 0) (nI 10)) fun v9 w8 => if v9 = 0 then some (0, w8) else zbd2 (f_X2_readNumber (zup w8 15 (Q 1) (w8 42 6)) (nI 1) (nI 20)) fun v14 w13 => if v14 = 0 then some (0, w13) else some (1, zup (zup (zup w13 16 (Q 1) (w13 42 6)) 17 (Q 1) 1) 10 4 (zup (zup w13 16 (Q 1) (w13 42 6)) 17 (Q 1) 1 10 4 + 1)) := by
    unfold f_X2_readWell
    rw [zletE, n10c, if_pos clt, znar1]
    simp only [zletE, hz3, zgTE, hx0]
    rfl
  have eG : f_X4_readMore wm 6 = zbd2 (f_X4_number wm (nI 1) (nI 60)) fun v18 w17 => qGA (zup w17 62 (2 * Q 1) v18) := by
    unfold f_X4_readMore qGA qGB
    rw [if_neg (by decide), if_pos rfl, n12, e2]
    simp only [zletE, hz2, zgTE, hx2]
    rfl
  have eA : ∀ w, w 56 12 = nI (Q 1) → qGA w = zbd2 (f_X4_number w (nI 0) (nI 10)) fun v22 w21 => qGB (zup w21 60 (17 + Q 1) v22) := by
    intro w hw
    unfold qGA
    rw [hw, e17]
    simp only [hz17, zgTE, hx17]
    rfl
  have eB : ∀ w, w 56 12 = nI (Q 1) → qGB w = zbd2 (f_X4_number w (nI 1) (nI 20)) fun v26 w25 => some (zup (zup w25 62 (2 * Q 1 + 1) v26) 56 12 (zup w25 62 (2 * Q 1 + 1) v26 56 12 + 1)) := by
    intro w hw
    unfold qGB
    rw [hw, e2, e21]
    simp only [hz21, zgTE, hx21]
    rfl
  obtain ⟨r, v, w1, w2, e1', e2', f1, f2, hb, ho⟩ := ls_num hL (lo := 1) (hi := 60) (by decide) (by decide)
  refine ⟨fun hB => ?_, fun hB => ?_⟩
  · obtain ⟨r0, x1, x2⟩ := hb hB
    subst r0
    exact ⟨w1, by rw [eF, e1', zbd2s, if_pos rfl], x1, x2, f1.w⟩
  · show ∃ r wc1 wm1, _ ∧ f_X4_readMore wm 6 = _ ∧ _
    have q12 : w2 56 12 = nI (Q 1) := by rw [f2.2 12 (by decide)]; exact n12
    have g2 : QW wm (zup w2 62 (2 * Q 1) v) := f2.w.tr (QW.z _ _ _ _ (by omega))
    have h20 : zup w2 62 (2 * Q 1) v 56 12 = nI (Q 1) := by rw [zup_n _ _ _ (by decide)]; exact q12
    rw [eF, eG, e1', e2', zbd2s, zbd2s, eA _ h20]
    rcases ho with ⟨rfl, rfl, hf⟩ | ⟨rfl, x, s', x1, x2, x3, rfl, x5, hL'⟩
    · have hf1 := hf.m 62 (2 * Q 1) (nI 1) (by omega)
      have hf2 := hf1.m 60 (17 + Q 1) (nI 0) (by omega)
      obtain ⟨k, k1, k2, k3⟩ := hf1.b
      obtain ⟨k', k1', k2', k3'⟩ := hf2.b
      have h24 : zup (zup w2 62 (2 * Q 1) (nI 1)) 60 (17 + Q 1) (nI 0) 56 12 = nI (Q 1) := by rw [zup_n _ _ _ (by decide)]; exact h20
      rw [if_pos rfl, q_numberN k1 k2 k3, zbd2s, eB _ h24, q_numberN k1' k2' k3', zbd2s]
      exact ⟨0, w1, _, rfl, rfl, f1.w, ((g2.tr (QW.z _ _ _ _ (by omega))).tr (QW.z _ _ _ _ (by omega))).tr (QW.z _ _ _ _ (by omega)), .inl ⟨rfl, (hf2.m _ _ _ (by omega)).m _ _ _ (by omega)⟩⟩
    · obtain ⟨-, -, hC, hG, hO, -⟩ := id hL'
      rw [if_neg n10, x3]
      have hL2 : zLS c N s' (zup w1 14 (Q 1) (nI x)) (zup w2 62 (2 * Q 1) (nI x)) Q a b d := hL'.new (fun k hk => zup_n _ _ _ (by omega)) (fun k k1 k2 k3 k4 => zup_n _ _ _ k4) (fun j hj => by rw [zup_n _ _ _ (by decide)]) (hC.sk _ (by omega)) (hG.sk _ (by omega) b0) hO
      obtain ⟨r', v', w3, w4, e3, e5, f3, f4, -, ho'⟩ := ls_num hL2 (lo := 0) (hi := 10) (by decide) (by decide)
      have g1 : PW wc (zup w1 14 (Q 1) (nI x)) := f1.w.tr (PW.z _ _ _ _ (by omega))
      have h24 : zup w4 60 (17 + Q 1) v' 56 12 = nI (Q 1) := by rw [zup_n _ _ _ (by decide), f4.2 12 (by decide)]; exact h20
      rw [e3, e5, zbd2s, zbd2s, eB _ h24]
      rcases ho' with ⟨rfl, rfl, hf⟩ | ⟨rfl, y, s2, y1, y2, y3, rfl, y5, hL3⟩
      · have hf2 := hf.m 60 (17 + Q 1) (nI 0) (by omega)
        obtain ⟨k', k1', k2', k3'⟩ := hf2.b
        rw [if_pos rfl, q_numberN k1' k2' k3', zbd2s]
        exact ⟨0, _, _, rfl, rfl, g1.tr f3.w, (((g2.tr f4.w).tr (QW.z _ _ _ _ (by omega))).tr (QW.z _ _ _ _ (by omega))).tr (QW.z _ _ _ _ (by omega)), .inl ⟨rfl, (hf2.m _ _ _ (by omega)).m _ _ _ (by omega)⟩⟩
      · obtain ⟨-, -, hC, hG, hO, -⟩ := id hL3
        rw [if_neg n10, y3]
        have hL4 : zLS c N s2 (zup w3 15 (Q 1) (nI y)) (zup w4 60 (17 + Q 1) (nI y)) Q a b d := hL3.new (fun k hk => zup_n _ _ _ (by omega)) (fun k k1 k2 k3 k4 => zup_n _ _ _ k2) (fun j hj => by rw [zup_n _ _ _ (by decide)]) (hC.sk _ (by omega)) (hG.sk _ (by omega) b0) hO
        obtain ⟨r', v'', w5, w6, e6, e7, f5, f6, -, ho''⟩ := ls_num hL4 (lo := 1) (hi := 20) (by decide) (by decide)
        have g3 : PW wc (zup w3 15 (Q 1) (nI y)) := (g1.tr f3.w).tr (PW.z _ _ _ _ (by omega))
        have g4 : QW wm (zup w4 60 (17 + Q 1) (nI y)) := (g2.tr f4.w).tr (QW.z _ _ _ _ (by omega))
        rw [e6, e7, zbd2s, zbd2s]
        rcases ho'' with ⟨rfl, rfl, hf⟩ | ⟨rfl, z, s3, z1, z2, z3, rfl, z5, hL5⟩
        · rw [if_pos rfl]
          exact ⟨0, _, _, rfl, rfl, g3.tr f5.w, ((g4.tr f6.w).tr (QW.z _ _ _ _ (by omega))).tr (QW.z _ _ _ _ (by omega)), .inl ⟨rfl, (hf.m _ _ _ (by omega)).m _ _ _ (by omega)⟩⟩
        · obtain ⟨-, -, hC, hG, hO, -⟩ := id hL5
          have m0 : zup (zup w5 16 (Q 1) (nI z)) 17 (Q 1) 1 10 4 = nI (Q 1) := by rw [zup_n _ _ _ (by decide), zup_n _ _ _ (by decide)]; exact hC.wl
          have m1 : zup w6 62 (2 * Q 1 + 1) (nI z) 56 12 = nI (Q 1) := by rw [zup_n _ _ _ (by decide)]; exact hG.1.2.1
          have t1 : w5 14 (Q 1) = nI x := by rw [f5.1 14 (by decide), zup_n _ _ _ (by decide), f3.1 14 (by decide), zup_s, upd_s]
          have t2 : w5 15 (Q 1) = nI y := by rw [f5.1 15 (by decide), zup_s, upd_s]
          have u1 : w6 62 (2 * Q 1) = nI x := by rw [f6.1 62 (by decide), zup_n _ _ _ (by decide), f4.1 62 (by decide), zup_s, upd_s]
          have u2 : w6 60 (17 + Q 1) = nI y := by rw [f6.1 60 (by decide), zup_s, upd_s]
          rw [if_neg n10, z3, m0, m1, e1n]
          refine ⟨1, _, _, rfl, rfl, (((g3.tr f5.w).tr (PW.z _ _ _ _ (by omega))).tr (PW.z _ _ _ _ (by omega))).tr (PW.z _ _ _ _ (by omega)), ((g4.tr f6.w).tr (QW.z _ _ _ _ (by omega))).tr (QW.z _ _ _ _ (by omega)), .inr ⟨rfl, s3, m_wl Q x y z, d, by omega, ?_⟩⟩
          refine hL5.new (fun k hk => by rw [zup_n _ _ _ (by omega), zup_n _ _ _ (by omega), zup_n _ _ _ (by omega)]) (fun k k1 k2 k3 k4 => by rw [zup_n _ _ _ k1, zup_n _ _ _ k4]) (fun j hj => by rw [zup_s, upd_n _ _ (by omega), zup_n _ _ _ (by decide)]) ?_ ?_ (hO.wl h3' x1 x2 y2 z1 z2)
          · exact ((hC.sk (k := 16) (n := Q 1) (nI z) (by omega)).sk (k := 17) (n := Q 1) 1 (by omega)).wlm b0 h3' (by rw [zup_n _ _ _ (by decide), zup_n _ _ _ (by decide)]; exact t1) (by rw [zup_n _ _ _ (by decide), zup_n _ _ _ (by decide)]; exact t2) (by rw [zup_n _ _ _ (by decide), zup_s, upd_s]) (by rw [zup_s, upd_s])
          · exact (hG.sk (k := 62) (n := 2 * Q 1 + 1) (nI z) (by omega) b0).wlm b0 h3' (by rw [zup_s, upd_n _ _ (by omega)]; exact u1) (by rw [zup_n _ _ _ (by decide)]; exact u2) (by rw [zup_s, upd_s])
/-! a well that is told dry -/
theorem dry_t : ∀ d, d < 8 → ∀ i, i < 3 → (((nI d >>> (nI i &&& 31)) &&& 1 = 1) ↔ d / 2 ^ i % 2 = 1) ∧ nI d ||| ((1 : Int32) <<< (nI i &&& 31)) = nI (d ||| 2 ^ i) ∧ d ||| 2 ^ i < 8 ∧ (if nI i ≤ hw d then hw d else nI i) = hw (d ||| 2 ^ i) ∧ ∀ q, q < 3 → (d ||| 2 ^ i) / 2 ^ q % 2 = if q = i then 1 else d / 2 ^ q % 2 := by decide +kernel
theorem PG.dry {w : zW} {Q : zP} {d i : Nat} (h : PG w Q d) (hd : d < 8) (hi : i < 3) (h0 : Q 0 ≤ 4) (h1 : Q 1 ≤ 3) : PG (zup w 60 (14 + i) 1) Q (d ||| 2 ^ i) := by
  obtain ⟨ha, ⟨b1, b2, b3, b4, b5, b6⟩, hp, hw, hdd⟩ := h
  have u : ∀ j, j ≠ 14 + i → zup w 60 (14 + i) 1 60 j = w 60 j := fun j hj => by rw [zup_s, upd_n _ _ hj]
  have o : ∀ k, k ≠ 60 → zup w 60 (14 + i) 1 k = w k := fun k hk => zup_n _ _ _ hk
  refine ⟨by rw [o 56 (by decide)]; exact ha, ?_, fun p hpp => ?_, fun q hq => ?_, fun q hq => ?_⟩
  · rw [u 8 (by omega), u 9 (by omega), u 10 (by omega), u 11 (by omega), u 12 (by omega), u 13 (by omega)]; exact ⟨b1, b2, b3, b4, b5, b6⟩
  · rw [u p (by omega), u (4 + p) (by omega), o 61 (by decide)]; exact hp p hpp
  · rw [u (17 + q) (by omega), o 62 (by decide)]; exact hw q hq
  · rw [(dry_t d hd i hi).2.2.2.2 q hq]
    by_cases e : q = i
    · subst e; rw [if_pos rfl, zup_s, upd_s]; rfl
    · rw [if_neg e, u _ (by omega)]; exact hdd q hq
theorem k_num4 {c : Nat → Nat} {N s : Nat} {w w' : zW} (h : PS c N s w) {lo hi : Nat} (hlo : lo ≤ 127) (hhi : hi ≤ 127) (h0 : m_nf c N s lo hi = 0) {r : Int32} (he : f_X2_readNumber w (nI lo) (nI hi) = some (r, w')) : w' 42 4 = nI (tH c N s) := by
  obtain ⟨w1, e1, f1, g1, g2⟩ := k_nx h
  obtain ⟨z1, z2, z3, z4⟩ := m_nf_0 h0
  obtain ⟨p1, p2, p3⟩ := g1 z1
  have hv := tV_le h.2.1 (fun i hi => (h.1.2.1 i hi).1) z2 z1
  unfold f_X2_readNumber at he
  simp only [zjn1E] at he
  rw [e1, zbd2s, z1, if_neg (show ¬ zbi (!false) = 0 from n10), p1.2.2.1, z2, if_pos (show nI 2 = 2 from rfl), p1.2.2.2 z2, win_if (by omega) (by omega) (by omega), if_pos (show lo ≤ tV c N s ∧ tV c N s ≤ hi from ⟨z3, z4⟩), if_neg n10] at he
  have := Option.some.inj he
  rw [← (Prod.mk.inj this).2]
  exact p1.1
theorem bdy_dry : BDY (fun _ => True) f_X2_readDry (fun w => f_X4_readMore w 7) := by
  intro c N s wc wm Q a b d hL _
  obtain ⟨hP, hQ, hC, hG, hO, hT, ⟨d1, d2, d3, d4⟩⟩ := id hL
  have eF : f_X2_readDry wc = zbd2 (f_X2_readNumber wc (nI 0) (nI 2)) fun v2 w1 => if v2 = 0 then some (0, w1) else if ((w1 42 8 >>> (w1 42 6 &&& 31)) &&& 1) = 1 then some ((0 : Int32), zup (zup w1 42 10 4) 42 11 (w1 42 4)) else some (1, zup w1 42 8 (w1 42 8 ||| ((1 : Int32) <<< (w1 42 6 &&& 31)))) := by
    unfold f_X2_readDry
    simp only [zletE, k_fail, zbd2sE, zbo0E]
    rfl
  obtain ⟨r, v, w1, w2, e1, e2, f1, f2, hb, ho⟩ := ls_num hL (lo := 0) (hi := 2) (by decide) (by decide)
  refine ⟨fun hB => ?_, fun hB => ?_⟩
  · obtain ⟨r0, x1, x2⟩ := hb hB
    subst r0
    exact ⟨w1, by rw [eF, e1, zbd2s, if_pos rfl], x1, x2, f1.w⟩
  · have h20 := hQ.2.2.2.2.1 hB
    have hQC := hQ.2.2.2.1
    have tb := t_b c hP.2.1
    have c2 : nI (tK c N s) = 2 ↔ tK c N s = 2 := nI_eq (b := 2) (by omega) (by decide)
    -- what the reference does behind its first look
    have eJ : ∀ w3 : zW, ∀ (i : Nat) (w4 : zW), i < 3 → f_X4_number w3 (nI 0) (nI 2) = some (nI i, w4) → w4 56 15 = nI d → w4 56 16 = hw d → (zbd2 (f_X4_number w3 (0 : Int32) (2 : Int32)) fun v5 w4 => if v5 ≤ zup w4 56 15 (w4 56 15 ||| (1 : Int32) <<< (v5 &&& 31)) 56 16 then zg (zin ((14 : Int32) + v5) 20) (some (zup (zup (zup w4 56 15 (w4 56 15 ||| (1 : Int32) <<< (v5 &&& 31))) 56 16 (zup w4 56 15 (w4 56 15 ||| (1 : Int32) <<< (v5 &&& 31)) 56 16)) 60 (zx ((14 : Int32) + v5)) 1)) else zg (zin ((14 : Int32) + v5) 20) (some (zup (zup (zup w4 56 15 (w4 56 15 ||| (1 : Int32) <<< (v5 &&& 31))) 56 16 v5) 60 (zx ((14 : Int32) + v5)) 1))) = some (zup (zup (zup w4 56 15 (nI (d ||| 2 ^ i))) 56 16 (hw (d ||| 2 ^ i))) 60 (14 + i) 1) := by
      intro w3 i w4 hi he h15 h16
      obtain ⟨y1, y2, y3, y4, y5⟩ := dry_t d d3 i hi
      rw [show f_X4_number w3 (0 : Int32) (2 : Int32) = some (nI i, w4) from he, zbd2s, h15, y2, show zup w4 56 15 (nI (d ||| 2 ^ i)) 56 16 = hw d from h16, show (14 : Int32) + nI i = nI (14 + i) from nI_add 14 i, zgt (zin_nI (by omega) (by decide)), zgt (zin_nI (by omega) (by decide)), zxI (by omega)]
      by_cases q : nI i ≤ hw d
      · rw [if_pos q] at y4 ⊢
        rw [y4]
      · rw [if_neg q] at y4 ⊢
        rw [y4]
    have eG : f_X4_readMore wm 7 = (if wm 56 24 = 2 then (if f_X4_in (wm 56 25).toInt64 (0 : Int64) (2 : Int64) = 0 then (zbd2 (f_X4_number wm (0 : Int32) (2 : Int32)) fun v5 w4 => if v5 ≤ zup w4 56 15 (w4 56 15 ||| (1 : Int32) <<< (v5 &&& 31)) 56 16 then zg (zin ((14 : Int32) + v5) 20) (some (zup (zup (zup w4 56 15 (w4 56 15 ||| (1 : Int32) <<< (v5 &&& 31))) 56 16 (zup w4 56 15 (w4 56 15 ||| (1 : Int32) <<< (v5 &&& 31)) 56 16)) 60 (zx ((14 : Int32) + v5)) 1)) else zg (zin ((14 : Int32) + v5) 20) (some (zup (zup (zup w4 56 15 (w4 56 15 ||| (1 : Int32) <<< (v5 &&& 31))) 56 16 v5) 60 (zx ((14 : Int32) + v5)) 1))) else if ((wm 56 15 >>> (wm 56 25 &&& 31)) &&& 1) = 1 then (zbd (f_X4_fails wm 4) fun w16 => zbd2 (f_X4_number w16 (0 : Int32) (2 : Int32)) fun v5 w4 => if v5 ≤ zup w4 56 15 (w4 56 15 ||| (1 : Int32) <<< (v5 &&& 31)) 56 16 then zg (zin ((14 : Int32) + v5) 20) (some (zup (zup (zup w4 56 15 (w4 56 15 ||| (1 : Int32) <<< (v5 &&& 31))) 56 16 (zup w4 56 15 (w4 56 15 ||| (1 : Int32) <<< (v5 &&& 31)) 56 16)) 60 (zx ((14 : Int32) + v5)) 1)) else zg (zin ((14 : Int32) + v5) 20) (some (zup (zup (zup w4 56 15 (w4 56 15 ||| (1 : Int32) <<< (v5 &&& 31))) 56 16 v5) 60 (zx ((14 : Int32) + v5)) 1))) else (zbd2 (f_X4_number wm (0 : Int32) (2 : Int32)) fun v5 w4 => if v5 ≤ zup w4 56 15 (w4 56 15 ||| (1 : Int32) <<< (v5 &&& 31)) 56 16 then zg (zin ((14 : Int32) + v5) 20) (some (zup (zup (zup w4 56 15 (w4 56 15 ||| (1 : Int32) <<< (v5 &&& 31))) 56 16 (zup w4 56 15 (w4 56 15 ||| (1 : Int32) <<< (v5 &&& 31)) 56 16)) 60 (zx ((14 : Int32) + v5)) 1)) else zg (zin ((14 : Int32) + v5) 20) (some (zup (zup (zup w4 56 15 (w4 56 15 ||| (1 : Int32) <<< (v5 &&& 31))) 56 16 v5) 60 (zx ((14 : Int32) + v5)) 1)))) else (zbd2 (f_X4_number wm (0 : Int32) (2 : Int32)) fun v5 w4 => if v5 ≤ zup w4 56 15 (w4 56 15 ||| (1 : Int32) <<< (v5 &&& 31)) 56 16 then zg (zin ((14 : Int32) + v5) 20) (some (zup (zup (zup w4 56 15 (w4 56 15 ||| (1 : Int32) <<< (v5 &&& 31))) 56 16 (zup w4 56 15 (w4 56 15 ||| (1 : Int32) <<< (v5 &&& 31)) 56 16)) 60 (zx ((14 : Int32) + v5)) 1)) else zg (zin ((14 : Int32) + v5) 20) (some (zup (zup (zup w4 56 15 (w4 56 15 ||| (1 : Int32) <<< (v5 &&& 31))) 56 16 v5) 60 (zx ((14 : Int32) + v5)) 1)))) := by
      unfold f_X4_readMore
      rw [if_neg (by decide), if_neg (by decide)]
      simp only [zletE, zjn1E]
      rw [if_pos h20]
    show ∃ r wc1 wm1, _ ∧ f_X4_readMore wm 7 = _ ∧ _
    have q15 : w2 56 15 = nI d := by rw [f2.2 15 (by decide)]; exact d2
    have q16 : w2 56 16 = hw d := by rw [f2.2 16 (by decide)]; exact d4
    have j8 : w1 42 8 = nI d := by rw [f1.2 8 (by decide) (by decide) (by decide) (by decide) (by decide) (by decide)]; exact d1
    have qw : ∀ i, QW wm (zup (zup (zup w2 56 15 (nI (d ||| 2 ^ i))) 56 16 (hw (d ||| 2 ^ i))) 60 (14 + i) 1) := fun i => ((f2.w.tr (QW.z _ _ _ _ (by omega))).tr (QW.z _ _ _ _ (by omega))).tr (QW.z _ _ _ _ (by omega))
    rw [eF, eG, e1, zbd2s, hQC.2.2.1]
    rcases ho with ⟨rfl, rfl, hf⟩ | ⟨rfl, x, s', x1, x2, x3, rfl, x5, hL'⟩
    · rw [if_pos rfl, eJ wm 0 w2 (by decide) e2 q15 q16]
      have fin : FL w1 (zup (zup (zup w2 56 15 (nI (d ||| 2 ^ 0))) 56 16 (hw (d ||| 2 ^ 0))) 60 (14 + 0) 1) := ((hf.m _ _ _ (by omega)).m _ _ _ (by omega)).m _ _ _ (by omega)
      by_cases k2 : tK c N s = 2
      · have hv := tV_le hP.2.1 (fun i hi => (hP.1.2.1 i hi).1) k2 hB
        have hin : f_X4_in (nI (tV c N s)).toInt64 (0 : Int64) (2 : Int64) = if 0 ≤ tV c N s ∧ tV c N s ≤ 2 then 1 else 0 := q_in (lo := 0) (hi := 2) (by omega) (by decide) (by decide)
        have nv : ¬ (0 ≤ tV c N s ∧ tV c N s ≤ 2) := fun q => by
          obtain ⟨w', a1, a2, a3, a4⟩ := k_number hP (lo := 0) (hi := 2) (by decide) (by decide)
          have en : m_nf c N s 0 2 = 0 := by unfold m_nf; rw [if_neg (by rw [hB]; exact Bool.false_ne_true), if_pos k2, if_pos q]
          rw [en, if_pos rfl] at a1
          rw [e1] at a1
          exact absurd (Prod.mk.inj (Option.some.inj a1)).1 (by decide)
        rw [if_pos (c2.mpr k2), hQC.2.2.2 k2, hin, if_neg nv, if_pos rfl]
        exact ⟨0, w1, _, rfl, rfl, f1.w, qw 0, .inl ⟨rfl, fin⟩⟩
      · rw [if_neg (fun q => k2 (c2.mp q))]
        exact ⟨0, w1, _, rfl, rfl, f1.w, qw 0, .inl ⟨rfl, fin⟩⟩
    · have en : m_nf c N s 0 2 = 0 := by
        obtain ⟨w', a1, a2, a3, a4⟩ := k_number hP (lo := 0) (hi := 2) (by decide) (by decide)
        by_cases q : m_nf c N s 0 2 = 0
        · exact q
        · rw [if_neg q, e1] at a1
          exact absurd (Prod.mk.inj (Option.some.inj a1)).1 (by decide)
      obtain ⟨z1, z2, z3, z4⟩ := m_nf_0 en
      have hxV : x = tV c N s := by
        obtain ⟨w', a1, a2, a3, a4⟩ := k_number hP (lo := 0) (hi := 2) (by decide) (by decide)
        rw [en, if_pos rfl, e1] at a1
        have ew := (Prod.mk.inj (Option.some.inj a1)).2
        have := (a3 en).1
        rw [← ew, x3] at this
        exact (nI_eq (by omega) (by omega)).mp this
      have h4 := k_num4 hP (by decide) (by decide) en e1
      obtain ⟨y1, y2, y3, y4, y5⟩ := dry_t d d3 x (by omega)
      have hin : f_X4_in (nI x).toInt64 (0 : Int64) (2 : Int64) = 1 := by
        have := q_in (x := x) (lo := 0) (hi := 2) (by omega) (by decide) (by decide)
        rw [if_pos (by omega)] at this
        exact this
      rw [if_neg n10, x3, j8, if_pos (c2.mpr z2), hQC.2.2.2 z2, ← hxV, hin, if_neg n10, d2, h4]
      by_cases db : d / 2 ^ x % 2 = 1
      · obtain ⟨u1, u2⟩ := QF.fl h20 4
        have nN := q_numberN (w := zup (zup wm 56 20 4) 56 21 (wm 56 23)) (k := 4) rfl (by decide) (by decide) (nI 0) (nI 2)
        rw [if_pos (y1.mpr db), if_pos (y1.mpr db), u1, zbds, eJ _ 0 _ (by decide) nN d2 d4]
        refine ⟨0, _, _, rfl, rfl, (f1.tr ((PF.u _ _ (by decide)).tr (PF.u _ _ (by decide)))).w, ((u2.w.tr (QW.z _ _ _ _ (by omega))).tr (QW.z _ _ _ _ (by omega))).tr (QW.z _ _ _ _ (by omega)), .inl ⟨rfl, ?_⟩⟩
        refine (((FL.m ⟨4, by decide, by decide, rfl, rfl, ?_⟩ _ _ _ (by omega)).m _ _ _ (by omega)).m _ _ _ (by omega))
        exact hQC.1
      · rw [if_neg (fun q => db (y1.mp q)), if_neg (fun q => db (y1.mp q)), y2, eJ wm x w2 (by omega) e2 q15 q16]
        refine ⟨1, _, _, rfl, rfl, f1.w.tr (PW.z _ _ _ _ (by omega)), qw x, .inr ⟨rfl, s', Q, d ||| 2 ^ x, x5, ?_⟩⟩
        obtain ⟨aP, aQ, aC, aG, aO, ⟨t1, t2, t3⟩, -⟩ := hL'
        refine ⟨aP.z _ _ _ (by omega), ((aQ.z _ _ _ (by omega)).z _ _ _ (by omega)).z _ _ _ (by omega), aC.frame (fun k _ _ => zup_n _ _ _ (by omega)), ?_, aO, ⟨?_, ?_, t3⟩, ⟨?_, ?_, y3, ?_⟩⟩
        · refine PG.dry ?_ d3 (by omega) aO.1.1.1 aO.1.1.2.1
          obtain ⟨⟨a1, a2, a3⟩, rest⟩ := aG
          refine ⟨⟨?_, ?_, ?_⟩, ?_⟩
          · rw [zup_s, upd_n _ _ (by decide), zup_s, upd_n _ _ (by decide)]; exact a1
          · rw [zup_s, upd_n _ _ (by decide), zup_s, upd_n _ _ (by decide)]; exact a2
          · rw [zup_s, upd_n _ _ (by decide), zup_s, upd_n _ _ (by decide)]; exact a3
          · have o : ∀ k, k ≠ 56 → zup (zup w2 56 15 (nI (d ||| 2 ^ x))) 56 16 (hw (d ||| 2 ^ x)) k = w2 k := fun k hk => by rw [zup_n _ _ _ hk, zup_n _ _ _ hk]
            rw [o 60 (by decide), o 61 (by decide), o 62 (by decide)]
            exact rest
        · rw [zup_s, upd_n _ _ (by decide)]; exact t1
        · rw [zup_n _ _ _ (by decide), zup_s, upd_n _ _ (by decide), zup_s, upd_n _ _ (by decide)]; exact t2
        · rw [zup_s, upd_s]
        · rw [zup_n _ _ _ (by decide), zup_s, upd_n _ _ (by decide), zup_s, upd_s]
        · rw [zup_n _ _ _ (by decide), zup_s, upd_s]
