/-! the steps that set -/
theorem isPlan_eq (a : Int32) : f_X4_isPlan a = f_X3_isPlan a := in_within a 0 3
theorem e_nb (x : Int32) : ((1 : Int32) = 0) = False := eq_false (by decide)
/-- a place of page 0 is set, and the same of the program's company -/
theorem q_sets {w : zW} {k : Nat} (hk : k < 120) (x : Int32) : f_X4_sets w 1 (nI k) x = some (w 57 k, zup w 57 k x) := by
  unfold f_X4_sets
  simp only [zletE]
  have hz : zin (nI k) 120 = true := zin_nI (by omega) (by decide)
  simp only [hz, zgT]
  rw [if_neg (by decide), zxI (by omega)]
theorem q_sets0 (w : zW) (k x : Int32) : f_X4_sets w 0 k x = some (-1, w) := by
  unfold f_X4_sets
  rw [if_pos rfl]
theorem zJ.set {w : zW} {P Q : zP} {k j d : Nat} {x y : Int32} (h : zJ w) (hN : JN w P) (hk : 2 ≤ k ∧ k < 10) (hd : d < 20) (hO : Ok Q) (h4 : Q 4 < 1000) (h0 : Q 0 = P 0) (hC : CR (zup w k j x) 2 Q) (hP : PR (zup w 57 d y) 0 0 Q) : zJ (zup (zup w k j x) 57 d y) := by
  have e : zup (zup w k j x) 57 d y = zup (zup w 57 d y) k j x := by
    funext i
    by_cases a : i = 57
    · subst a
      rw [zup_s, zup_n _ _ _ (by omega), zup_n _ _ _ (by omega), zup_s]
    · rw [zup_n _ _ _ a]
      by_cases b : i = k
      · subst b; rw [zup_s, zup_s, zup_n _ _ _ (by omega)]
      · rw [zup_n _ _ _ b, zup_n _ _ _ b, zup_n _ _ _ a]
  refine h.n (P := Q) (zFN.up (w := w) (k := k) (j := j) x (by omega)) (zMN.up (w := zup w k j x) y (by omega)) ⟨?_, ?_, hO, h4, ?_⟩
  · exact hC.frame (fun i a b => zup_n _ _ _ (by omega))
  · rw [e]
    exact hP.frame (by have := hO.1.1; omega) hO.1.2.1 (fun i _ _ => by rw [zup_n _ _ _ (by omega)]) (fun i _ _ => by rw [zup_n _ _ _ (by omega)]) (zup_n _ _ _ (by omega)) (zup_n _ _ _ (by omega))
  · rw [zup_n _ _ _ (by decide), zup_n _ _ _ (by omega), h0]
    exact hN.2.2.2.2
theorem Ok.set {P : zP} (h : Ok P) {k v : Nat} (hk : (k = 5 ∧ v ≤ 60) ∨ (k = 6 ∧ v ≤ 3) ∨ (k = 7 ∧ v ≤ 9) ∨ (k = 8 ∧ v ≤ 10) ∨ (∃ p, p < 4 ∧ k = 10 + p ∧ v ≤ 4) ∨ (∃ p, p < 4 ∧ k = 50 + p ∧ v ≤ 10)) : Ok (pu P k v) := by
  obtain ⟨⟨h0, h1, h2, h3, h5, h6, h7, h8⟩, hp, hw⟩ := h
  have e : ∀ j, pu P k v j = if j = k then v else P j := fun _ => rfl
  have e0 : pu P k v 0 = P 0 := pu_n _ _ (by omega)
  have e1 : pu P k v 1 = P 1 := pu_n _ _ (by omega)
  refine ⟨⟨?_, ?_, ?_, ?_, ?_, ?_, ?_, ?_⟩, fun p hpp => ?_, fun i hi => ?_⟩
  · rw [e0]; exact h0
  · rw [e1]; exact h1
  · rw [e]; split <;> omega
  · rw [e]; split <;> omega
  · rw [e]; split <;> omega
  · rw [e]; split <;> omega
  · rw [e]; split <;> omega
  · rw [e]; split <;> omega
  · rw [e0] at hpp
    have := hp p hpp
    rw [e, e, e]
    refine ⟨?_, ?_, ?_, ?_⟩ <;> split <;> omega
  · rw [e1] at hi
    have := hw i hi
    rw [e, e, e, e]
    refine ⟨?_, ?_, ?_, ?_, ?_, ?_⟩ <;> split <;> omega
theorem one4 {w : zW} {n : Nat} (h : w 56 2 = nI n) (a : Int32) : f_X4_isOne w a = f_X3_within a 0 (nI n - 1) := by
  unfold f_X4_isOne
  rw [h]
  exact in_within a 0 (nI n - 1)
theorem well4 {w : zW} {n : Nat} (h : w 56 4 = nI n) (a : Int32) : f_X4_isWell w a = f_X3_within a 0 (nI n - 1) := by
  unfold f_X4_isWell
  rw [h]
  exact in_within a 0 (nI n - 1)
theorem n10 : ¬ (1 : Int32) = 0 := by decide
theorem o_teach (w : zW) (h : zJ w) (a1 a2 : Int32) : ∃ (r : Int32) (w1 : zW) (w2 : zW), f_X3_teach w a1 a2 = some (r, w1) ∧ f_X4_teach w1 a1 a2 = some (r, w2) ∧ zJ w2 := by
  obtain ⟨P, hN⟩ := h.1
  obtain ⟨h1, h2, h3, h4, h5⟩ := id hN
  have b0 := h3.1.1
  have hin : f_X4_in a2.toInt64 (0 : Int64) (4 : Int64) = f_X3_isKind a2 := in_within a2 0 4
  have hwn : f_X3_isKind a2 = 0 ∨ (f_X3_isKind a2 = 1 ∧ ∃ p, p ≤ 4 ∧ a2 = nI p) := winL a2 4 (by decide)
  unfold f_X3_teach f_X4_teach f_X3_isOne
  simp only [zletE, zjn1E, zjn0E]
  rw [hin, h1.n]
  rcases winN_cases a1 (N := P 0) (by omega) with e | ⟨e, p, hp, rfl⟩
  · rw [e, if_pos rfl]
    refine ⟨_, _, w, rfl, ?_, h⟩
    rw [one4 h5, e, if_pos rfl, q_sets0]; rfl
  rw [e, if_neg n10]
  rcases hwn with e2 | ⟨e2, q, hq, rfl⟩
  · rw [e2, if_pos rfl]
    refine ⟨_, _, w, rfl, ?_, h⟩
    rw [one4 h5, e, if_neg n10, if_pos rfl, q_sets0]; rfl
  · have g1 : w (2 + 1) p = nI (P (10 + p)) := h1.kd hp
    have k1 : w 57 p = nI (P (10 + p)) := by have := h2.kd hp; rw [Nat.zero_add, Nat.zero_add] at this; exact this
    have k2 : PR (zup w 57 p (nI q)) 0 0 (pu P (10 + p) q) := by have := h2.fk (by omega) h3.1.2.1 hp q; rw [Nat.zero_add, Nat.zero_add] at this; exact this
    have hz : zin (nI p) 4 = true := zin_nI (by omega) (by decide)
    rw [e2, if_neg n10]
    simp only [hz, zgT]
    rw [zxI (by omega)]
    refine ⟨_, _, zup (zup w (2 + 1) p (nI q)) 57 p (nI q), rfl, ?_, ?_⟩
    · rw [one4 (n := P 0) (by rw [zup_n _ _ _ (by decide)]; exact h5), e, if_neg n10, if_neg n10, q_sets (by omega), zbd2s, zup_n _ _ _ (by decide), k1]
      exact congrArg some (congrArg (fun z => (z, _)) g1.symm)
    · exact h.set hN (by omega) (by omega) (h3.set (by right; right; right; right; left; exact ⟨p, by omega, rfl, hq⟩)) (by rw [pu_n _ _ (by omega)]; exact h4) (pu_n _ _ (by omega)) (h1.fp b0 1 10 q (by omega) hp) k2
theorem o_fill (w : zW) (h : zJ w) (a1 : Int32) : ∃ (r : Int32) (w1 : zW) (w2 : zW), f_X3_fill w a1 = some (r, w1) ∧ f_X4_fill w1 a1 = some (r, w2) ∧ zJ w2 := by
  obtain ⟨P, hN⟩ := h.1
  obtain ⟨h1, h2, h3, h4, h5⟩ := id hN
  have b0 := h3.1.1
  have hin : f_X4_in a1.toInt64 (0 : Int64) (60 : Int64) = f_X3_within a1 0 60 := in_within a1 0 60
  have hwn : f_X3_within a1 0 60 = 0 ∨ (f_X3_within a1 0 60 = 1 ∧ ∃ p, p ≤ 60 ∧ a1 = nI p) := winL a1 60 (by decide)
  unfold f_X3_fill f_X4_fill
  simp only [zletE]
  rw [hin]
  rcases hwn with e | ⟨e, q, hq, rfl⟩
  · rw [e, if_pos rfl]
    exact ⟨_, _, w, rfl, by rw [q_sets0]; rfl, h⟩
  · rw [e, if_neg n10]
    refine ⟨_, _, zup (zup w 2 9 (nI q)) 57 8 (nI q), rfl, ?_, ?_⟩
    · rw [show f_X4_sets (zup w 2 9 (nI q)) 1 8 (nI q) = _ from q_sets (k := 8) (by decide) _, zbd2s, zup_n _ _ _ (by decide), h1.bt]
      exact congrArg some (congrArg (fun z => (z, _)) h2.bt)
    · exact h.set hN (by omega) (by omega) (h3.set (.inl ⟨rfl, hq⟩)) (by rw [pu_n _ _ (by omega)]; exact h4) (pu_n _ _ (by omega)) (h1.f0 9 5 q (by omega)) (h2.f0 (by omega) h3.1.2.1 8 5 q (by omega))
theorem o_plan (w : zW) (h : zJ w) (a1 : Int32) : ∃ (r : Int32) (w1 : zW) (w2 : zW), f_X3_plan w a1 = some (r, w1) ∧ f_X4_plan w1 a1 = some (r, w2) ∧ zJ w2 := by
  obtain ⟨P, hN⟩ := h.1
  obtain ⟨h1, h2, h3, h4, h5⟩ := id hN
  have b0 := h3.1.1
  have hwn : f_X3_isPlan a1 = 0 ∨ (f_X3_isPlan a1 = 1 ∧ ∃ p, p ≤ 3 ∧ a1 = nI p) := winL a1 3 (by decide)
  unfold f_X3_plan f_X4_plan
  simp only [zletE]
  rw [isPlan_eq]
  rcases hwn with e | ⟨e, q, hq, rfl⟩
  · rw [e, if_pos rfl]
    exact ⟨_, _, w, rfl, by rw [q_sets0]; rfl, h⟩
  · rw [e, if_neg n10]
    refine ⟨_, _, zup (zup w 2 13 (nI q)) 57 11 (nI q), rfl, ?_, ?_⟩
    · rw [show f_X4_sets (zup w 2 13 (nI q)) 1 11 (nI q) = _ from q_sets (k := 11) (by decide) _, zbd2s, zup_n _ _ _ (by decide), h1.pl]
      exact congrArg some (congrArg (fun z => (z, _)) h2.pl)
    · exact h.set hN (by omega) (by omega) (h3.set (.inr (.inl ⟨rfl, hq⟩))) (by rw [pu_n _ _ (by omega)]; exact h4) (pu_n _ _ (by omega)) (h1.f0 13 6 q (by omega)) (h2.f0 (by omega) h3.1.2.1 11 6 q (by omega))
theorem o_odd (w : zW) (h : zJ w) (a1 a2 : Int32) : ∃ (r : Int32) (w1 : zW) (w2 : zW), f_X3_odd w a1 a2 = some (r, w1) ∧ f_X4_odd w1 a1 a2 = some (r, w2) ∧ zJ w2 := by
  obtain ⟨P, hN⟩ := h.1
  obtain ⟨h1, h2, h3, h4, h5⟩ := id hN
  have b0 := h3.1.1
  have b1 := h3.1.2.1
  have hin : f_X4_in a2.toInt64 (0 : Int64) (10 : Int64) = f_X3_within a2 0 10 := in_within a2 0 10
  have hwn : f_X3_within a2 0 10 = 0 ∨ (f_X3_within a2 0 10 = 1 ∧ ∃ p, p ≤ 10 ∧ a2 = nI p) := winL a2 10 (by decide)
  unfold f_X3_odd f_X4_odd f_X3_isWell
  simp only [zletE, zjn1E, zjn0E]
  rw [hin, h1.wl]
  rcases winN_cases a1 (N := P 1) (by omega) with e | ⟨e, p, hp, rfl⟩
  · rw [e, if_pos rfl]
    refine ⟨_, _, w, rfl, ?_, h⟩
    rw [well4 h2.wl, e, if_pos rfl, q_sets0]; rfl
  rw [e, if_neg n10]
  rcases hwn with e2 | ⟨e2, q, hq, rfl⟩
  · rw [e2, if_pos rfl]
    refine ⟨_, _, w, rfl, ?_, h⟩
    rw [well4 h2.wl, e, if_neg n10, if_pos rfl, q_sets0]; rfl
  · have g1 : w (2 + 5) p = nI (P (50 + p)) := h1.w5 hp
    have k1 : w 57 (17 + p) = nI (P (50 + p)) := by have := h2.w5 hp; rw [Nat.zero_add] at this; exact this
    have k2 : PR (zup w 57 (17 + p) (nI q)) 0 0 (pu P (50 + p) q) := by have := h2.fo (by omega) h3.1.2.1 hp q; rw [Nat.zero_add] at this; exact this
    have hz : zin (nI p) 3 = true := zin_nI (by omega) (by decide)
    rw [e2, if_neg n10]
    simp only [hz, zgT]
    rw [zxI (by omega)]
    refine ⟨_, _, zup (zup w (2 + 5) p (nI q)) 57 (17 + p) (nI q), rfl, ?_, ?_⟩
    · rw [well4 (n := P 1) (by rw [zup_n _ _ _ (by decide)]; exact h2.wl), e, if_neg n10, if_neg n10, show (17 : Int32) + nI p = nI (17 + p) from nI_add 17 p, q_sets (by omega), zbd2s, zup_n _ _ _ (by decide), k1]
      exact congrArg some (congrArg (fun z => (z, _)) g1.symm)
    · exact h.set hN (by omega) (by omega) (h3.set (by right; right; right; right; right; exact ⟨p, by omega, rfl, hq⟩)) (by rw [pu_n _ _ (by omega)]; exact h4) (pu_n _ _ (by omega)) (h1.fw b0 b1 5 50 q (by omega) hp) k2
theorem o_wet (w : zW) (h : zJ w) (a1 a2 : Int32) (hb : a2 = 0 ∨ a2 = 1) : ∃ (r : Int32) (w1 : zW) (w2 : zW), f_X3_wet w a1 a2 = some (r, w1) ∧ f_X4_wet w1 a1 a2 = some (r, w2) ∧ zJ w2 := by
  obtain ⟨P, hN⟩ := h.1
  obtain ⟨h1, h2, h3, h4, h5⟩ := id hN
  have b0 := h3.1.1
  have b1 := h3.1.2.1
  obtain ⟨q, hq, rfl⟩ : ∃ q, q ≤ 1 ∧ a2 = nI q := by
    rcases hb with rfl | rfl
    · exact ⟨0, by decide, rfl⟩
    · exact ⟨1, by decide, rfl⟩
  unfold f_X3_wet f_X4_wet f_X3_isWell
  simp only [zletE, zjn1E, zjn0E]
  rw [h1.wl]
  rcases winN_cases a1 (N := P 1) (by omega) with e | ⟨e, p, hp, rfl⟩
  · rw [e, if_pos rfl]
    refine ⟨_, _, w, rfl, ?_, h⟩
    rw [well4 h2.wl, e, if_pos rfl]
  have hw7 := (h3.2.2 p hp).2.2.2.2.2
  have g1 : w (2 + 7) p = nI (P (70 + p)) := h1.w7 hp
  have k1 : w 57 (14 + p) = nI (1 - P (70 + p)) := by have := h2.w7 hp; rw [Nat.zero_add] at this; exact this
  have k2 : PR (zup w 57 (14 + p) (nI (1 - q))) 0 0 (pu P (70 + p) q) := by have := h2.fw (by omega) h3.1.2.1 hp q; rw [Nat.zero_add] at this; exact this
  have hz : zin (nI p) 3 = true := zin_nI (by omega) (by decide)
  have ha : ∀ t, t ≤ 1 → f_X3_asNumber (nI t) = nI t := by
    intro t ht
    rcases (show t = 0 ∨ t = 1 by omega) with rfl | rfl <;> rfl
  rw [e, if_neg n10]
  simp only [hz, zgT]
  rw [zxI (by omega), znarB hq]
  refine ⟨_, _, zup (zup w (2 + 7) p (nI q)) 57 (14 + p) (nI (1 - q)), rfl, ?_, ?_⟩
  · have hs : f_X4_sets (zup w (2 + 7) p (nI q)) 1 (14 + nI p) (nI (1 - q)) = some (nI (1 - P (70 + p)), zup (zup w (2 + 7) p (nI q)) 57 (14 + p) (nI (1 - q))) := by
      rw [show (14 : Int32) + nI p = nI (14 + p) from nI_add 14 p, q_sets (by omega), zup_n _ _ _ (by decide), k1]
    rw [well4 (n := P 1) (by rw [zup_n _ _ _ (by decide)]; exact h2.wl), e, if_neg n10]
    have fin : some ((1 : Int32) - nI (1 - P (70 + p)), zup (zup w (2 + 7) p (nI q)) 57 (14 + p) (nI (1 - q))) = some (f_X3_asNumber (w (2 + 7) p), zup (zup w (2 + 7) p (nI q)) 57 (14 + p) (nI (1 - q))) := by
      rw [g1, ha _ hw7, zI1, zsub_nI (by omega), show 1 - (1 - P (70 + p)) = P (70 + p) by omega]
    rcases (show q = 0 ∨ q = 1 by omega) with rfl | rfl
    · rw [if_pos rfl, show (1 : Int32) = nI (1 - 0) from rfl, show f_X4_sets (zup w (2 + 7) p (nI 0)) (nI (1 - 0)) (14 + nI p) (nI (1 - 0)) = _ from hs, zbd2s]
      exact fin
    · rw [if_neg (by decide), show f_X4_sets (zup w (2 + 7) p (nI 1)) 1 (14 + nI p) 0 = _ from hs, zbd2s]
      exact fin
  · exact h.set hN (by omega) (by omega) (h3.wet hp hq) (by rw [pu_n _ _ (by omega)]; exact h4) (pu_n _ _ (by omega)) (h1.fw b0 b1 7 70 q (by omega) hp) k2
theorem o_lay (w : zW) (h : zJ w) (a1 a2 : Int32) : ∃ (r : Int32) (w1 : zW) (w2 : zW), f_X3_lay w a1 a2 = some (r, w1) ∧ f_X4_lay w1 a1 a2 = some (r, w2) ∧ zJ w2 := by
  obtain ⟨P, hN⟩ := h.1
  obtain ⟨h1, h2, h3, h4, h5⟩ := id hN
  have b0 := h3.1.1
  have hi1 : f_X4_in a1.toInt64 (0 : Int64) (1 : Int64) = f_X3_within a1 0 1 := in_within a1 0 1
  have hi9 : f_X4_in a2.toInt64 (0 : Int64) (9 : Int64) = f_X3_within a2 0 9 := in_within a2 0 9
  have hi10 : f_X4_in a2.toInt64 (0 : Int64) (10 : Int64) = f_X3_within a2 0 10 := in_within a2 0 10
  have hw1 : f_X3_within a1 0 1 = 0 ∨ (f_X3_within a1 0 1 = 1 ∧ ∃ p, p ≤ 1 ∧ a1 = nI p) := winL a1 1 (by decide)
  have hw9 : f_X3_within a2 0 9 = 0 ∨ (f_X3_within a2 0 9 = 1 ∧ ∃ p, p ≤ 9 ∧ a2 = nI p) := winL a2 9 (by decide)
  have hw10 : f_X3_within a2 0 10 = 0 ∨ (f_X3_within a2 0 10 = 1 ∧ ∃ p, p ≤ 10 ∧ a2 = nI p) := winL a2 10 (by decide)
  have w00 : f_X3_within 0 0 1 = 1 := by decide
  have w11 : f_X3_within 1 0 1 = 1 := by decide
  have n01 : ¬ (0 : Int32) = 1 := by decide
  unfold f_X3_lay f_X4_lay
  simp only [zletE, zjn1E, zjn0E]
  rw [hi1, hi9, hi10]
  by_cases x0 : a1 = 0
  · subst x0
    rw [w00, if_pos rfl, if_neg n01, if_neg n10, if_pos rfl]
    rcases hw9 with e | ⟨e, q, hq, rfl⟩
    · rw [e, if_pos rfl]
      exact ⟨_, _, w, rfl, by rw [if_pos rfl, q_sets0]; rfl, h⟩
    · rw [e, if_neg n10]
      refine ⟨_, _, zup (zup w 2 14 (nI q)) 57 12 (nI q), rfl, ?_, ?_⟩
      · rw [if_neg n10, show f_X4_sets (zup w 2 14 (nI q)) 1 (12 + 0) (nI q) = _ from q_sets (k := 12) (by decide) _, zbd2s, zup_n _ _ _ (by decide), h1.cl]
        exact congrArg some (congrArg (fun z => (z, _)) h2.cl)
      · exact h.set hN (by omega) (by omega) (h3.set (.inr (.inr (.inl ⟨rfl, hq⟩)))) (by rw [pu_n _ _ (by omega)]; exact h4) (pu_n _ _ (by omega)) (h1.f0 14 7 q (by omega)) (h2.f0 (by omega) h3.1.2.1 12 7 q (by omega))
  · rw [if_neg x0, if_neg x0]
    by_cases x1 : a1 = 1
    · subst x1
      rw [w11, if_pos rfl, if_neg n10]
      rcases hw10 with e | ⟨e, q, hq, rfl⟩
      · rw [e, if_pos rfl]
        exact ⟨_, _, w, rfl, by rw [if_pos rfl, q_sets0]; rfl, h⟩
      · rw [e, if_neg n10]
        refine ⟨_, _, zup (zup w 2 15 (nI q)) 57 13 (nI q), rfl, ?_, ?_⟩
        · rw [if_neg n10, show f_X4_sets (zup w 2 15 (nI q)) 1 (12 + 1) (nI q) = _ from q_sets (k := 13) (by decide) _, zbd2s, zup_n _ _ _ (by decide), h1.fd]
          exact congrArg some (congrArg (fun z => (z, _)) h2.fd)
        · exact h.set hN (by omega) (by omega) (h3.set (.inr (.inr (.inr (.inl ⟨rfl, hq⟩))))) (by rw [pu_n _ _ (by omega)]; exact h4) (pu_n _ _ (by omega)) (h1.f0 15 8 q (by omega)) (h2.f0 (by omega) h3.1.2.1 13 8 q (by omega))
    · rw [if_neg x1]
      rcases hw1 with e | ⟨e, q, hq, rfl⟩
      · rw [e, if_pos rfl]
        exact ⟨_, _, w, rfl, by rw [q_sets0]; rfl, h⟩
      · rcases (show q = 0 ∨ q = 1 by omega) with rfl | rfl
        · exact absurd rfl x0
        · exact absurd rfl x1
