/-! the steps that set -/
theorem isPlan_eq (a : Int32) : f_X4_isPlan a = f_X3_isPlan a := in_within a 0 3
theorem e_nb (x : Int32) : ((1 : Int32) = 0) = False := eq_false (by decide)
/-- a place of page 0 is set, and the same of the program's company -/
theorem q_sets {w : zW} {k : Nat} (hk : k < 120) (x : Int32) : f_X4_sets w 1 (nI k) x = some (w 57 k, zup w 57 k x) := by
  unfold f_X4_sets
  simp only [zletE]
  have hz : zin (nI k) 120 = true := zin_nI (by omega) (by decide)
  simp only [hz, zgT]
  rw [if_neg (by decide), zxI (by omega)]
theorem q_sets0 (w : zW) (k x : Int32) : f_X4_sets w 0 k x = some (-1, w) := by
  unfold f_X4_sets
  rw [if_pos rfl]
theorem zJ.set {w : zW} {P Q : zP} {k j d : Nat} {x y : Int32} (h : zJ w) (hN : JN w P) (hk : 2 ≤ k ∧ k < 10) (hd : d < 20) (hO : Ok Q) (h4 : Q 4 < 1000) (h0 : Q 0 = P 0) (hC : CR (zup w k j x) 2 Q) (hP : PR (zup w 57 d y) 0 0 Q) : zJ (zup (zup w k j x) 57 d y) := by
  have e : zup (zup w k j x) 57 d y = zup (zup w 57 d y) k j x := by
    funext i
    by_cases a : i = 57
    · subst a
      rw [zup_s, zup_n _ _ _ (by omega), zup_n _ _ _ (by omega), zup_s]
    · rw [zup_n _ _ _ a]
      by_cases b : i = k
      · subst b; rw [zup_s, zup_s, zup_n _ _ _ (by omega)]
      · rw [zup_n _ _ _ b, zup_n _ _ _ b, zup_n _ _ _ a]
  refine h.n (P := Q) (zFN.up (w := w) (k := k) (j := j) x (by omega)) (zMN.up (w := zup w k j x) y (by omega)) ⟨?_, ?_, hO, h4, ?_⟩
  · exact hC.frame (fun i a b => zup_n _ _ _ (by omega))
  · rw [e]
    exact hP.frame (by have := hO.1.1; omega) hO.1.2.1 (fun i _ _ => by rw [zup_n _ _ _ (by omega)]) (fun i _ _ => by rw [zup_n _ _ _ (by omega)]) (zup_n _ _ _ (by omega)) (zup_n _ _ _ (by omega))
  · rw [zup_n _ _ _ (by decide), zup_n _ _ _ (by omega), h0]
    exact hN.2.2.2.2
theorem Ok.set {P : zP} (h : Ok P) {k v : Nat} (hk : (k = 5 ∧ v ≤ 60) ∨ (k = 6 ∧ v ≤ 3) ∨ (k = 7 ∧ v ≤ 9) ∨ (k = 8 ∧ v ≤ 10) ∨ (∃ p, p < 4 ∧ k = 10 + p ∧ v ≤ 4) ∨ (∃ p, p < 4 ∧ k = 50 + p ∧ v ≤ 10)) : Ok (pu P k v) := by
  obtain ⟨⟨h0, h1, h2, h3, h5, h6, h7, h8⟩, hp, hw⟩ := h
  have e : ∀ j, pu P k v j = if j = k then v else P j := fun _ => rfl
  have e0 : pu P k v 0 = P 0 := pu_n _ _ (by omega)
  have e1 : pu P k v 1 = P 1 := pu_n _ _ (by omega)
  refine ⟨⟨?_, ?_, ?_, ?_, ?_, ?_, ?_, ?_⟩, fun p hpp => ?_, fun i hi => ?_⟩
  · rw [e0]; exact h0
  · rw [e1]; exact h1
  · rw [e]; split <;> omega
  · rw [e]; split <;> omega
  · rw [e]; split <;> omega
  · rw [e]; split <;> omega
  · rw [e]; split <;> omega
  · rw [e]; split <;> omega
  · rw [e0] at hpp
    have := hp p hpp
    rw [e, e, e]
    refine ⟨?_, ?_, ?_, ?_⟩ <;> split <;> omega
  · rw [e1] at hi
    have := hw i hi
    rw [e, e, e, e]
    refine ⟨?_, ?_, ?_, ?_, ?_, ?_⟩ <;> split <;> omega
theorem one4 {w : zW} {n : Nat} (h : w 56 2 = nI n) (a : Int32) : f_X4_isOne w a = f_X3_within a 0 (nI n - 1) := by
  unfold f_X4_isOne
  rw [h]
  exact in_within a 0 (nI n - 1)
theorem well4 {w : zW} {n : Nat} (h : w 56 4 = nI n) (a : Int32) : f_X4_isWell w a = f_X3_within a 0 (nI n - 1) := by
  unfold f_X4_isWell
  rw [h]
  exact in_within a 0 (nI n - 1)
theorem n10 : ¬ (1 : Int32) = 0 := by decide
theorem o_teach (w : zW) (h : zJ w) (a1 a2 : Int32) : ∃ (r : Int32) (w1 : zW) (w2 : zW), f_X3_teach w a1 a2 = some (r, w1) ∧ f_X4_teach w1 a1 a2 = some (r, w2) ∧ zJ w2 := by
  obtain ⟨P, hN⟩ := h.1
  obtain ⟨h1, h2, h3, h4, h5⟩ := id hN
  have b0 := h3.1.1
  have hin : f_X4_in a2.toInt64 (0 : Int64) (4 : Int64) = f_X3_isKind a2 := in_within a2 0 4
  have hwn : f_X3_isKind a2 = 0 ∨ (f_X3_isKind a2 = 1 ∧ ∃ p, p ≤ 4 ∧ a2 = nI p) := winL a2 4 (by decide)
  unfold f_X3_teach f_X4_teach f_X3_isOne
  simp only [zletE, zjn1E, zjn0E]
  rw [hin, h1.n]
  rcases winN_cases a1 (N := P 0) (by omega) with e | ⟨e, p, hp, rfl⟩
  · rw [e, if_pos rfl]
    refine ⟨_, _, w, rfl, ?_, h⟩
    rw [one4 h5, e, if_pos rfl, q_sets0]; rfl
  rw [e, if_neg n10]
  rcases hwn with e2 | ⟨e2, q, hq, rfl⟩
  · rw [e2, if_pos rfl]
    refine ⟨_, _, w, rfl, ?_, h⟩
    rw [one4 h5, e, if_neg n10, if_pos rfl, q_sets0]; rfl
  · have g1 : w (2 + 1) p = nI (P (10 + p)) := h1.kd hp
    have k1 : w 57 p = nI (P (10 + p)) := by have := h2.kd hp; rw [Nat.zero_add, Nat.zero_add] at this; exact this
    have k2 : PR (zup w 57 p (nI q)) 0 0 (pu P (10 + p) q) := by have := h2.fk (by omega) h3.1.2.1 hp q; rw [Nat.zero_add, Nat.zero_add] at this; exact this
    have hz : zin (nI p) 4 = true := zin_nI (by omega) (by decide)
    rw [e2, if_neg n10]
    simp only [hz, zgT]
    rw [zxI (by omega)]
    refine ⟨_, _, zup (zup w (2 + 1) p (nI q)) 57 p (nI q), rfl, ?_, ?_⟩
    · rw [one4 (n := P 0) (by rw [zup_n _ _ _ (by decide)]; exact h5), e, if_neg n10, if_neg n10, q_sets (by omega), zbd2s, zup_n _ _ _ (by decide), k1]
      exact congrArg some (congrArg (fun z => (z, _)) g1.symm)
    · exact h.set hN (by omega) (by omega) (h3.set (by right; right; right; right; left; exact ⟨p, by omega, rfl, hq⟩)) (by rw [pu_n _ _ (by omega)]; exact h4) (pu_n _ _ (by omega)) (h1.fp b0 1 10 q (by omega) hp) k2
theorem o_fill (w : zW) (h : zJ w) (a1 : Int32) : ∃ (r : Int32) (w1 : zW) (w2 : zW), f_X3_fill w a1 = some (r, w1) ∧ f_X4_fill w1 a1 = some (r, w2) ∧ zJ w2 := by
  obtain ⟨P, hN⟩ := h.1
  obtain ⟨h1, h2, h3, h4, h5⟩ := id hN
  have b0 := h3.1.1
  have hin : f_X4_in a1.toInt64 (0 : Int64) (60 : Int64) = f_X3_within a1 0 60 := in_within a1 0 60
  have hwn : f_X3_within a1 0 60 = 0 ∨ (f_X3_within a1 0 60 = 1 ∧ ∃ p, p ≤ 60 ∧ a1 = nI p) := winL a1 60 (by decide)
  unfold f_X3_fill f_X4_fill
  simp only [zletE]
  rw [hin]
  rcases hwn with e | ⟨e, q, hq, rfl⟩
  · rw [e, if_pos rfl]
    exact ⟨_, _, w, rfl, by rw [q_sets0]; rfl, h⟩
  · rw [e, if_neg n10]
    refine ⟨_, _, zup (zup w 2 9 (nI q)) 57 8 (nI q), rfl, ?_, ?_⟩
    · rw [show f_X4_sets (zup w 2 9 (nI q)) 1 8 (nI q) = _ from q_sets (k := 8) (by decide) _, zbd2s, zup_n _ _ _ (by decide), h1.bt]
      exact congrArg some (congrArg (fun z => (z, _)) h2.bt)
    · exact h.set hN (by omega) (by omega) (h3.set (.inl ⟨rfl, hq⟩)) (by rw [pu_n _ _ (by omega)]; exact h4) (pu_n _ _ (by omega)) (h1.f0 9 5 q (by omega)) (h2.f0 (by omega) h3.1.2.1 8 5 q (by omega))
theorem o_plan (w : zW) (h : zJ w) (a1 : Int32) : ∃ (r : Int32) (w1 : zW) (w2 : zW), f_X3_plan w a1 = some (r, w1) ∧ f_X4_plan w1 a1 = some (r, w2) ∧ zJ w2 := by
  obtain ⟨P, hN⟩ := h.1
  obtain ⟨h1, h2, h3, h4, h5⟩ := id hN
  have b0 := h3.1.1
  have hwn : f_X3_isPlan a1 = 0 ∨ (f_X3_isPlan a1 = 1 ∧ ∃ p, p ≤ 3 ∧ a1 = nI p) := winL a1 3 (by decide)
  unfold f_X3_plan f_X4_plan
  simp only [zletE]
  rw [isPlan_eq]
  rcases hwn with e | ⟨e, q, hq, rfl⟩
  · rw [e, if_pos rfl]
    exact ⟨_, _, w, rfl, by rw [q_sets0]; rfl, h⟩
  · rw [e, if_neg n10]
    refine ⟨_, _, zup (zup w 2 13 (nI q)) 57 11 (nI q), rfl, ?_, ?_⟩
    · rw [show f_X4_sets (zup w 2 13 (nI q)) 1 11 (nI q) = _ from q_sets (k := 11) (by decide) _, zbd2s, zup_n _ _ _ (by decide), h1.pl]
      exact congrArg some (congrArg (fun z => (z, _)) h2.pl)
    · exact h.set hN (by omega) (by omega) (h3.set (.inr (.inl ⟨rfl, hq⟩))) (by rw [pu_n _ _ (by omega)]; exact h4) (pu_n _ _ (by omega)) (h1.f0 13 6 q (by omega)) (h2.f0 (by omega) h3.1.2.1 11 6 q (by omega))
theorem o_odd (w : zW) (h : zJ w) (a1 a2 : Int32) : ∃ (r : Int32) (w1 : zW) (w2 : zW), f_X3_odd w a1 a2 = some (r, w1) ∧ f_X4_odd w1 a1 a2 = some (r, w2) ∧ zJ w2 := by
  obtain ⟨P, hN⟩ := h.1
  obtain ⟨h1, h2, h3, h4, h5⟩ := id hN
  have b0 := h3.1.1
  have b1 := h3.1.2.1
  have hin : f_X4_in a2.toInt64 (0 : Int64) (10 : Int64) = f_X3_within a2 0 10 := in_within a2 0 10
  have hwn : f_X3_within a2 0 10 = 0 ∨ (f_X3_within a2 0 10 = 1 ∧ ∃ p, p ≤ 10 ∧ a2 = nI p) := winL a2 10 (by decide)
  unfold f_X3_odd f_X4_odd f_X3_isWell
  simp only [zletE, zjn1E, zjn0E]
  rw [hin, h1.wl]
  rcases winN_cases a1 (N := P 1) (by omega) with e | ⟨e, p, hp, rfl⟩
  · rw [e, if_pos rfl]
    refine ⟨_, _, w, rfl, ?_, h⟩
    rw [well4 h2.wl, e, if_pos rfl, q_sets0]; rfl
  rw [e, if_neg n10]
  rcases hwn with e2 | ⟨e2, q, hq, rfl⟩
  · rw [e2, if_pos rfl]
    refine ⟨_, _, w, rfl, ?_, h⟩
    rw [well4 h2.wl, e, if_neg n10, if_pos rfl, q_sets0]; rfl
  · have g1 : w (2 + 5) p = nI (P (50 + p)) := h1.w5 hp
    have k1 : w 57 (17 + p) = nI (P (50 + p)) := by have := h2.w5 hp; rw [Nat.zero_add] at this; exact this
    have k2 : PR (zup w 57 (17 + p) (nI q)) 0 0 (pu P (50 + p) q) := by have := h2.fo (by omega) h3.1.2.1 hp q; rw [Nat.zero_add] at this; exact this
    have hz : zin (nI p) 3 = true := zin_nI (by omega) (by decide)
    rw [e2, if_neg n10]
    simp only [hz, zgT]
    rw [zxI (by omega)]
    refine ⟨_, _, zup (zup w (2 + 5) p (nI q)) 57 (17 + p) (nI q), rfl, ?_, ?_⟩
    · rw [well4 (n := P 1) (by rw [zup_n _ _ _ (by decide)]; exact h2.wl), e, if_neg n10, if_neg n10, show (17 : Int32) + nI p = nI (17 + p) from nI_add 17 p, q_sets (by omega), zbd2s, zup_n _ _ _ (by decide), k1]
      exact congrArg some (congrArg (fun z => (z, _)) g1.symm)
    · exact h.set hN (by omega) (by omega) (h3.set (by right; right; right; right; right; exact ⟨p, by omega, rfl, hq⟩)) (by rw [pu_n _ _ (by omega)]; exact h4) (pu_n _ _ (by omega)) (h1.fw b0 b1 5 50 q (by omega) hp) k2
theorem o_wet (w : zW) (h : zJ w) (a1 a2 : Int32) (hb : a2 = 0 ∨ a2 = 1) : ∃ (r : Int32) (w1 : zW) (w2 : zW), f_X3_wet w a1 a2 = some (r, w1) ∧ f_X4_wet w1 a1 a2 = some (r, w2) ∧ zJ w2 := by
  obtain ⟨P, hN⟩ := h.1
  obtain ⟨h1, h2, h3, h4, h5⟩ := id hN
  have b0 := h3.1.1
  have b1 := h3.1.2.1
  obtain ⟨q, hq, rfl⟩ : ∃ q, q ≤ 1 ∧ a2 = nI q := by
    rcases hb with rfl | rfl
    · exact ⟨0, by decide, rfl⟩
    · exact ⟨1, by decide, rfl⟩
  unfold f_X3_wet f_X4_wet f_X3_isWell
  simp only [zletE, zjn1E, zjn0E]
  rw [h1.wl]
  rcases winN_cases a1 (N := P 1) (by omega) with e | ⟨e, p, hp, rfl⟩
  · rw [e, if_pos rfl]
    refine ⟨_, _, w, rfl, ?_, h⟩
    rw [well4 h2.wl, e, if_pos rfl]
  have hw7 := (h3.2.2 p hp).2.2.2.2.2
  have g1 : w (2 + 7) p = nI (P (70 + p)) := h1.w7 hp
  have k1 : w 57 (14 + p) = nI (1 - P (70 + p)) := by have := h2.w7 hp; rw [Nat.zero_add] at this; exact this
  have k2 : PR (zup w 57 (14 + p) (nI (1 - q))) 0 0 (pu P (70 + p) q) := by have := h2.fw (by omega) h3.1.2.1 hp q; rw [Nat.zero_add] at this; exact this
  have hz : zin (nI p) 3 = true := zin_nI (by omega) (by decide)
  have ha : ∀ t, t ≤ 1 → f_X3_asNumber (nI t) = nI t := by
    intro t ht
    rcases (show t = 0 ∨ t = 1 by omega) with rfl | rfl <;> rfl
  rw [e, if_neg n10]
  simp only [hz, zgT]
  rw [zxI (by omega), znarB hq]
  refine ⟨_, _, zup (zup w (2 + 7) p (nI q)) 57 (14 + p) (nI (1 - q)), rfl, ?_, ?_⟩
  · have hs : f_X4_sets (zup w (2 + 7) p (nI q)) 1 (14 + nI p) (nI (1 - q)) = some (nI (1 - P (70 + p)), zup (zup w (2 + 7) p (nI q)) 57 (14 + p) (nI (1 - q))) := by
      rw [show (14 : Int32) + nI p = nI (14 + p) from nI_add 14 p, q_sets (by omega), zup_n _ _ _ (by decide), k1]
    rw [well4 (n := P 1) (by rw [zup_n _ _ _ (by decide)]; exact h2.wl), e, if_neg n10]
    have fin : some ((1 : Int32) - nI (1 - P (70 + p)), zup (zup w (2 + 7) p (nI q)) 57 (14 + p) (nI (1 - q))) = some (f_X3_asNumber (w (2 + 7) p), zup (zup w (2 + 7) p (nI q)) 57 (14 + p) (nI (1 - q))) := by
      rw [g1, ha _ hw7, zI1, zsub_nI (by omega), show 1 - (1 - P (70 + p)) = P (70 + p) by omega]
    rcases (show q = 0 ∨ q = 1 by omega) with rfl | rfl
    · rw [if_pos (show nI 0 = 0 from rfl), show f_X4_sets (zup w (2 + 7) p (nI 0)) 1 (14 + nI p) 1 = _ from hs, zbd2s]
      exact fin
    · rw [if_neg (by decide), show f_X4_sets (zup w (2 + 7) p (nI 1)) 1 (14 + nI p) 0 = _ from hs, zbd2s]
      exact fin
  · exact h.set hN (by omega) (by omega) (h3.wet hp hq) (by rw [pu_n _ _ (by omega)]; exact h4) (pu_n _ _ (by omega)) (h1.fw b0 b1 7 70 q (by omega) hp) k2
theorem o_lay (w : zW) (h : zJ w) (a1 a2 : Int32) : ∃ (r : Int32) (w1 : zW) (w2 : zW), f_X3_lay w a1 a2 = some (r, w1) ∧ f_X4_lay w1 a1 a2 = some (r, w2) ∧ zJ w2 := by
  obtain ⟨P, hN⟩ := h.1
  obtain ⟨h1, h2, h3, h4, h5⟩ := id hN
  have b0 := h3.1.1
  have hi1 : f_X4_in a1.toInt64 (0 : Int64) (1 : Int64) = f_X3_within a1 0 1 := in_within a1 0 1
  have hi9 : f_X4_in a2.toInt64 (0 : Int64) (9 : Int64) = f_X3_within a2 0 9 := in_within a2 0 9
  have hi10 : f_X4_in a2.toInt64 (0 : Int64) (10 : Int64) = f_X3_within a2 0 10 := in_within a2 0 10
  have hw1 : f_X3_within a1 0 1 = 0 ∨ (f_X3_within a1 0 1 = 1 ∧ ∃ p, p ≤ 1 ∧ a1 = nI p) := winL a1 1 (by decide)
  have hw9 : f_X3_within a2 0 9 = 0 ∨ (f_X3_within a2 0 9 = 1 ∧ ∃ p, p ≤ 9 ∧ a2 = nI p) := winL a2 9 (by decide)
  have hw10 : f_X3_within a2 0 10 = 0 ∨ (f_X3_within a2 0 10 = 1 ∧ ∃ p, p ≤ 10 ∧ a2 = nI p) := winL a2 10 (by decide)
  have w00 : f_X3_within 0 0 1 = 1 := by decide
  have w11 : f_X3_within 1 0 1 = 1 := by decide
  have n01 : ¬ (0 : Int32) = 1 := by decide
  unfold f_X3_lay f_X4_lay
  simp only [zletE, zjn1E, zjn0E]
  rw [hi1, hi9, hi10]
  by_cases x0 : a1 = 0
  · subst x0
    rw [if_pos rfl]
    rcases hw9 with e | ⟨e, q, hq, rfl⟩
    · rw [e, if_pos rfl, if_neg n01]
      refine ⟨_, _, w, rfl, ?_, h⟩
      rw [w00, if_neg n10, if_pos rfl, if_pos rfl, q_sets0]; rfl
    · rw [e, if_neg n10]
      refine ⟨_, _, zup (zup w 2 14 (nI q)) 57 12 (nI q), rfl, ?_, ?_⟩
      · rw [w00, if_neg n10, if_pos rfl, if_neg n10, show f_X4_sets (zup w 2 14 (nI q)) 1 (12 + 0) (nI q) = _ from q_sets (k := 12) (by decide) _, zbd2s, zup_n _ _ _ (by decide), h1.cl]
        exact congrArg some (congrArg (fun z => (z, _)) h2.cl)
      · exact h.set hN (by omega) (by omega) (h3.set (.inr (.inr (.inl ⟨rfl, hq⟩)))) (by rw [pu_n _ _ (by omega)]; exact h4) (pu_n _ _ (by omega)) (h1.f0 14 7 q (by omega)) (h2.f0 (by omega) h3.1.2.1 12 7 q (by omega))
  · rw [if_neg x0]
    by_cases x1 : a1 = 1
    · subst x1
      rw [if_pos rfl]
      rcases hw10 with e | ⟨e, q, hq, rfl⟩
      · rw [e, if_pos rfl]
        refine ⟨_, _, w, rfl, ?_, h⟩
        rw [w11, if_neg n10, if_neg n10, if_pos rfl, q_sets0]; rfl
      · rw [e, if_neg n10]
        refine ⟨_, _, zup (zup w 2 15 (nI q)) 57 13 (nI q), rfl, ?_, ?_⟩
        · rw [w11, if_neg n10, if_neg n10, if_neg n10, show f_X4_sets (zup w 2 15 (nI q)) 1 (12 + 1) (nI q) = _ from q_sets (k := 13) (by decide) _, zbd2s, zup_n _ _ _ (by decide), h1.fd]
          exact congrArg some (congrArg (fun z => (z, _)) h2.fd)
        · exact h.set hN (by omega) (by omega) (h3.set (.inr (.inr (.inr (.inl ⟨rfl, hq⟩))))) (by rw [pu_n _ _ (by omega)]; exact h4) (pu_n _ _ (by omega)) (h1.f0 15 8 q (by omega)) (h2.f0 (by omega) h3.1.2.1 13 8 q (by omega))
    · rw [if_neg x1]
      rcases hw1 with e | ⟨e, q, hq, rfl⟩
      · refine ⟨_, _, w, rfl, ?_, h⟩
        rw [e, if_pos rfl, q_sets0]; rfl
      · rcases (show q = 0 ∨ q = 1 by omega) with rfl | rfl
        · exact absurd rfl x0
        · exact absurd rfl x1
theorem o_end (w : zW) (h : zJ w) (a1 : Int32) : ∃ (r : Int32) (w1 : zW) (w2 : zW), f_X3_end w a1 = some (r, w1) ∧ f_X4_end w1 a1 = some (r, w2) ∧ zJ w2 := by
  obtain ⟨⟨P, hN⟩, ⟨n, hn, t1, t2, t3⟩, hS, hK, hH, hF⟩ := h
  unfold f_X3_end f_X4_end
  simp only [zletE]
  rw [t1]
  have hin : f_X4_in a1.toInt64 (0 : Int64) (nI n).toInt64 = f_X3_within a1 0 (nI n) := in_within a1 0 (nI n)
  rcases winL a1 n (by omega) with e | ⟨e, p, hp, rfl⟩
  · rw [e, if_pos rfl]
    refine ⟨_, _, w, rfl, ?_, ⟨⟨P, hN⟩, ⟨n, hn, t1, t2, t3⟩, hS, hK, hH, hF⟩⟩
    rw [t2, hin, e, if_pos rfl]
  · rw [e, if_neg n10]
    have t2' : zup w 0 1 (nI p) 56 18 = nI n := by rw [zup_n _ _ _ (by decide)]; exact t2
    refine ⟨_, _, zup (zup w 0 1 (nI p)) 56 18 (nI p), rfl, ?_, ?_⟩
    · rw [t2', hin, e, if_neg n10]
    · have g : ∀ k, k ≠ 0 → k ≠ 56 → zup (zup w 0 1 (nI p)) 56 18 (nI p) k = w k := fun k a d => by rw [zup_n _ _ _ d, zup_n _ _ _ a]
      have g6 : ∀ j, j ≠ 18 → zup (zup w 0 1 (nI p)) 56 18 (nI p) 56 j = w 56 j := fun j hj => by rw [zup_s, upd_n _ _ hj, zup_n _ _ _ (by decide)]
      have g0 : ∀ j, j ≠ 1 → zup (zup w 0 1 (nI p)) 56 18 (nI p) 0 j = w 0 j := fun j hj => by rw [zup_n _ _ _ (by decide), zup_s, upd_n _ _ hj]
      refine ⟨⟨P, ?_⟩, ⟨p, by omega, ?_, ?_, ?_⟩, ?_, ?_, ?_, ?_⟩
      · obtain ⟨b1, b2, b3, b4, b5⟩ := hN
        exact ⟨b1.frame (fun k x y => g k (by omega) (by omega)), b2.frame (by have := b3.1.1; omega) b3.1.2.1 (fun j x y => g6 j (by omega)) (fun j _ _ => by rw [g 57 (by decide) (by decide)]) (g 58 (by decide) (by decide)) (g 59 (by decide) (by decide)), b3, b4, by rw [g6 2 (by decide)]; exact b5⟩
      · rw [zup_n _ _ _ (by decide), zup_s, upd_s]
      · rw [zup_s, upd_s]
      · intro i hi
        rw [g 1 (by decide) (by decide), g 63 (by decide) (by decide)]
        exact t3 i (by omega)
      · exact hS.fr (g0 _ (by decide)) (g _ (by decide) (by decide)) (g _ (by decide) (by decide)) (g6 _ (by decide)) (g _ (by decide) (by decide))
      · exact hK.fr (g _ (by decide) (by decide)) (g _ (by decide) (by decide)) (fun j a b => g j (by omega) (by omega)) (fun j a b => g6 j (by omega)) (fun j _ _ => by rw [g 57 (by decide) (by decide)]) (g _ (by decide) (by decide)) (g _ (by decide) (by decide))
      · exact hH.fr (fun j a b => g j (by omega) (by omega)) (g _ (by decide) (by decide)) (g _ (by decide) (by decide)) (g _ (by decide) (by decide))
      · exact hF.fr (g0 _ (by decide)) (g0 _ (by decide)) (g6 _ (by decide)) (g6 _ (by decide)) (g _ (by decide) (by decide)) (g _ (by decide) (by decide))
theorem o_forget (w : zW) (h : zJ w) (a1 : Int32) : ∃ (r : Int32) (w1 : zW) (w2 : zW), f_X3_forget w a1 = some (r, w1) ∧ f_X4_forget w1 a1 = some (r, w2) ∧ zJ w2 := by
  obtain ⟨⟨P, hN⟩, hT, ⟨n, hn, t1, t2, t3⟩, hK, hH, hF⟩ := h
  unfold f_X3_forget f_X4_forget
  simp only [zletE]
  rw [t1]
  have hin : f_X4_in a1.toInt64 (0 : Int64) (nI n).toInt64 = f_X3_within a1 0 (nI n) := in_within a1 0 (nI n)
  rcases winL a1 n (by omega) with e | ⟨e, p, hp, rfl⟩
  · rw [e, if_pos rfl]
    refine ⟨_, _, w, rfl, ?_, ⟨⟨P, hN⟩, hT, ⟨n, hn, t1, t2, t3⟩, hK, hH, hF⟩⟩
    rw [t2, hin, e, if_pos rfl]
  · rw [e, if_neg n10]
    have t2' : zup w 0 11 (nI p) 56 30 = nI n := by rw [zup_n _ _ _ (by decide)]; exact t2
    refine ⟨_, _, zup (zup w 0 11 (nI p)) 56 30 (nI p), rfl, ?_, ?_⟩
    · rw [t2', hin, e, if_neg n10]
    · have g : ∀ k, k ≠ 0 → k ≠ 56 → zup (zup w 0 11 (nI p)) 56 30 (nI p) k = w k := fun k a d => by rw [zup_n _ _ _ d, zup_n _ _ _ a]
      have g6 : ∀ j, j ≠ 30 → zup (zup w 0 11 (nI p)) 56 30 (nI p) 56 j = w 56 j := fun j hj => by rw [zup_s, upd_n _ _ hj, zup_n _ _ _ (by decide)]
      have g0 : ∀ j, j ≠ 11 → zup (zup w 0 11 (nI p)) 56 30 (nI p) 0 j = w 0 j := fun j hj => by rw [zup_n _ _ _ (by decide), zup_s, upd_n _ _ hj]
      refine ⟨⟨P, ?_⟩, ?_, ⟨p, by omega, ?_, ?_, ?_⟩, ?_, ?_, ?_⟩
      · obtain ⟨b1, b2, b3, b4, b5⟩ := hN
        exact ⟨b1.frame (fun k x y => g k (by omega) (by omega)), b2.frame (by have := b3.1.1; omega) b3.1.2.1 (fun j x y => g6 j (by omega)) (fun j _ _ => by rw [g 57 (by decide) (by decide)]) (g 58 (by decide) (by decide)) (g 59 (by decide) (by decide)), b3, b4, by rw [g6 2 (by decide)]; exact b5⟩
      · exact hT.fr (g0 _ (by decide)) (g _ (by decide) (by decide)) (g6 _ (by decide)) (g _ (by decide) (by decide))
      · rw [zup_n _ _ _ (by decide), zup_s, upd_s]
      · rw [zup_s, upd_s]
      · intro i hi
        rw [g 45 (by decide) (by decide), g 46 (by decide) (by decide), g 66 (by decide) (by decide)]
        exact t3 i (by omega)
      · exact hK.fr (g _ (by decide) (by decide)) (g _ (by decide) (by decide)) (fun j a b => g j (by omega) (by omega)) (fun j a b => g6 j (by omega)) (fun j _ _ => by rw [g 57 (by decide) (by decide)]) (g _ (by decide) (by decide)) (g _ (by decide) (by decide))
      · exact hH.fr (fun j a b => g j (by omega) (by omega)) (g _ (by decide) (by decide)) (g _ (by decide) (by decide)) (g _ (by decide) (by decide))
      · exact hF.fr (g0 _ (by decide)) (g0 _ (by decide)) (g6 _ (by decide)) (g6 _ (by decide)) (g _ (by decide) (by decide)) (g _ (by decide) (by decide))
theorem o_see (w : zW) (h : zJ w) (a1 a2 : Int32) : ∃ (r : Int32) (w1 : zW) (w2 : zW), f_X3_see w a1 a2 = some (r, w1) ∧ f_X4_see w1 a1 a2 = some (r, w2) ∧ zJ w2 := by
  obtain ⟨⟨P, hN⟩, hT, ⟨n, hn, t1, t2, t3⟩, hK, hH, hF⟩ := h
  have hi1 : f_X4_in a1.toInt64 (1 : Int64) (24 : Int64) = f_X3_within a1 1 24 := in_within a1 1 24
  have hi2 : f_X4_in a2.toInt64 (0 : Int64) (60 : Int64) = f_X3_within a2 0 60 := in_within a2 0 60
  have hw1 : f_X3_within a1 1 24 = 0 ∨ (f_X3_within a1 1 24 = 1 ∧ ∃ p, 1 ≤ p ∧ p ≤ 24 ∧ a1 = nI p) ∨ 24 < 1 := win_cases a1 1 24 (by decide)
  have hw2 : f_X3_within a2 0 60 = 0 ∨ (f_X3_within a2 0 60 = 1 ∧ ∃ p, p ≤ 60 ∧ a2 = nI p) := winL a2 60 (by decide)
  have hJ : zJ w := ⟨⟨P, hN⟩, hT, ⟨n, hn, t1, t2, t3⟩, hK, hH, hF⟩
  unfold f_X3_see f_X4_see
  simp only [zletE]
  rw [hi1, hi2]
  rcases hw1 with e | ⟨e, x, hx1, hx2, rfl⟩ | hf
  · rw [e, if_pos rfl]
    exact ⟨_, _, w, rfl, if_pos rfl, hJ⟩
  · rw [e, if_neg n10]
    rcases hw2 with e2 | ⟨e2, y, hy, rfl⟩
    · rw [e2, if_pos rfl]
      refine ⟨_, _, w, rfl, ?_, hJ⟩
      rw [if_neg n10, if_pos rfl]
    · have c : nI n < 6 ↔ n < 6 := nI_ltI (b := 6) (by omega) (by decide)
      have c2 : nI n = 6 ↔ n = 6 := nI_eq (b := 6) (by omega) (by decide)
      rw [e2, if_neg n10, t1]
      by_cases d : n < 6
      · have s1 : zup w 45 n (nI x) 0 11 = nI n := by rw [zup_n _ _ _ (by decide)]; exact t1
        have s2 : zup (zup w 45 n (nI x)) 46 n (nI y) 0 11 = nI n := by rw [zup_n _ _ _ (by decide)]; exact s1
        have hz : zin (nI n) 6 = true := zin_nI (by omega) (by decide)
        rw [if_pos (c.mpr d)]
        simp only [hz, zgT, zxI (show n < 2 ^ 31 by omega), s1, s2, show nI n + 1 = nI (n + 1) from nI_1 _]
        generalize hW : zup (zup (zup w 45 n (nI x)) 46 n (nI y)) 0 11 (nI (n + 1)) = W
        have q6 : ∀ k, 47 ≤ k → W k = w k := fun k hk => by rw [← hW, zup_n _ _ _ (by omega), zup_n _ _ _ (by omega), zup_n _ _ _ (by omega)]
        have u1 : W 56 30 = nI n := by rw [q6 56 (by decide)]; exact t2
        have u2 : zup W 66 (2 * n) (nI x) 56 30 = nI n := by rw [zup_n _ _ _ (by decide)]; exact u1
        have u3 : zup (zup W 66 (2 * n) (nI x)) 66 (2 * n + 1) (nI y) 56 30 = nI n := by rw [zup_n _ _ _ (by decide)]; exact u2
        have m2 : (2 : Int32) * nI n = nI (2 * n) := pk_mul 2 n
        have m21 : nI (2 * n) + 1 = nI (2 * n + 1) := nI_1 _
        have z2 : zin (nI (2 * n)) 12 = true := zin_nI (by omega) (by decide)
        have z21 : zin (nI (2 * n + 1)) 12 = true := zin_nI (by omega) (by decide)
        have x2 : zx (nI (2 * n)) = 2 * n := zxI (by omega)
        have x21 : zx (nI (2 * n + 1)) = 2 * n + 1 := zxI (by omega)
        refine ⟨_, W, zup (zup (zup W 66 (2 * n) (nI x)) 66 (2 * n + 1) (nI y)) 56 30 (nI (n + 1)), rfl, ?_, ?_⟩
        · rw [if_neg n10, if_neg n10, u1, if_neg (fun q => absurd (c2.mp q) (by omega)), m2]
          simp only [z2, zgT, x2, u2, m2, m21, z21, x21, u3, show nI n + 1 = nI (n + 1) from nI_1 _, zup_s, upd_s]
          rw [← hW, zup_s, upd_s]
        · have g : ∀ k, k ≠ 0 → k ≠ 45 → k ≠ 46 → k ≠ 66 → k ≠ 56 → zup (zup (zup W 66 (2 * n) (nI x)) 66 (2 * n + 1) (nI y)) 56 30 (nI (n + 1)) k = w k := fun k a b c d e => by rw [zup_n _ _ _ e, zup_n _ _ _ d, zup_n _ _ _ d, ← hW, zup_n _ _ _ a, zup_n _ _ _ c, zup_n _ _ _ b]
          have g6 : ∀ j, j ≠ 30 → zup (zup (zup W 66 (2 * n) (nI x)) 66 (2 * n + 1) (nI y)) 56 30 (nI (n + 1)) 56 j = w 56 j := fun j hj => by rw [zup_s, upd_n _ _ hj, zup_n _ _ _ (by decide), zup_n _ _ _ (by decide), q6 56 (by decide)]
          have g0 : ∀ j, j ≠ 11 → zup (zup (zup W 66 (2 * n) (nI x)) 66 (2 * n + 1) (nI y)) 56 30 (nI (n + 1)) 0 j = w 0 j := fun j hj => by rw [zup_n _ _ _ (by decide), zup_n _ _ _ (by decide), zup_n _ _ _ (by decide), ← hW, zup_s, upd_n _ _ hj, zup_n _ _ _ (by decide), zup_n _ _ _ (by decide)]
          have g45 : zup (zup (zup W 66 (2 * n) (nI x)) 66 (2 * n + 1) (nI y)) 56 30 (nI (n + 1)) 45 = upd (w 45) n (nI x) := by rw [zup_n _ _ _ (by decide), zup_n _ _ _ (by decide), zup_n _ _ _ (by decide), ← hW, zup_n _ _ _ (by decide), zup_n _ _ _ (by decide), zup_s]
          have g46 : zup (zup (zup W 66 (2 * n) (nI x)) 66 (2 * n + 1) (nI y)) 56 30 (nI (n + 1)) 46 = upd (w 46) n (nI y) := by rw [zup_n _ _ _ (by decide), zup_n _ _ _ (by decide), zup_n _ _ _ (by decide), ← hW, zup_n _ _ _ (by decide), zup_s, zup_n _ _ _ (by decide)]
          have g66 : zup (zup (zup W 66 (2 * n) (nI x)) 66 (2 * n + 1) (nI y)) 56 30 (nI (n + 1)) 66 = upd (upd (w 66) (2 * n) (nI x)) (2 * n + 1) (nI y) := by rw [zup_n _ _ _ (by decide), zup_s, zup_s, q6 66 (by decide)]
          refine ⟨⟨P, ?_⟩, ?_, ⟨n + 1, by omega, ?_, ?_, ?_⟩, ?_, ?_, ?_⟩
          · obtain ⟨b1, b2, b3, b4, b5⟩ := hN
            exact ⟨b1.frame (fun k x y => g k (by omega) (by omega) (by omega) (by omega) (by omega)), b2.frame (by have := b3.1.1; omega) b3.1.2.1 (fun j x y => g6 j (by omega)) (fun j _ _ => by rw [g 57 (by decide) (by decide) (by decide) (by decide) (by decide)]) (g 58 (by decide) (by decide) (by decide) (by decide) (by decide)) (g 59 (by decide) (by decide) (by decide) (by decide) (by decide)), b3, b4, by rw [g6 2 (by decide)]; exact b5⟩
          · exact hT.fr (g0 _ (by decide)) (g _ (by decide) (by decide) (by decide) (by decide) (by decide)) (g6 _ (by decide)) (g _ (by decide) (by decide) (by decide) (by decide) (by decide))
          · rw [zup_n _ _ _ (by decide), zup_n _ _ _ (by decide), zup_n _ _ _ (by decide), ← hW, zup_s, upd_s]
          · rw [zup_s, upd_s]
          · intro i hi
            rw [g45, g46, g66]
            by_cases hin : i = n
            · subst hin
              exact ⟨x, y, hx1, hx2, hy, upd_s _ _ _, by rw [upd_n _ _ (by omega), upd_s], upd_s _ _ _, upd_s _ _ _⟩
            · rw [upd_n _ _ hin, upd_n _ _ hin, upd_n _ _ (by omega), upd_n _ _ (by omega), upd_n _ _ (by omega), upd_n _ _ (by omega)]
              exact t3 i (by omega)
          · exact hK.fr (g _ (by decide) (by decide) (by decide) (by decide) (by decide)) (g _ (by decide) (by decide) (by decide) (by decide) (by decide)) (fun j a b => g j (by omega) (by omega) (by omega) (by omega) (by omega)) (fun j a b => g6 j (by omega)) (fun j _ _ => by rw [g 57 (by decide) (by decide) (by decide) (by decide) (by decide)]) (g _ (by decide) (by decide) (by decide) (by decide) (by decide)) (g _ (by decide) (by decide) (by decide) (by decide) (by decide))
          · exact hH.fr (fun j a b => g j (by omega) (by omega) (by omega) (by omega) (by omega)) (g _ (by decide) (by decide) (by decide) (by decide) (by decide)) (g _ (by decide) (by decide) (by decide) (by decide) (by decide)) (g _ (by decide) (by decide) (by decide) (by decide) (by decide))
          · exact hF.fr (g0 _ (by decide)) (g0 _ (by decide)) (g6 _ (by decide)) (g6 _ (by decide)) (g _ (by decide) (by decide) (by decide) (by decide) (by decide)) (g _ (by decide) (by decide) (by decide) (by decide) (by decide))
      · rw [if_neg (fun q => d (c.mp q))]
        refine ⟨_, _, w, rfl, ?_, hJ⟩
        rw [if_neg n10, if_neg n10, t2, if_pos (c2.mpr (by omega))]
  · omega
