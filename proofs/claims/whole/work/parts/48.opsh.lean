/-! kept images -/
theorem o_back (w : zW) (h : zJ w) (a1 : Int32) : ∃ (r : Int32) (w1 : zW) (w2 : zW), f_X3_back w a1 = some (r, w1) ∧ f_X4_back w1 a1 = some (r, w2) ∧ zJ w2 := by
  obtain ⟨P, hN⟩ := h.1
  obtain ⟨h1, h2, h3, h4, h5⟩ := id hN
  have b0 := h3.1.1
  have hin : f_X4_in a1.toInt64 (0 : Int64) (1 : Int64) = f_X3_isImage a1 := in_within a1 0 1
  have hwn : f_X3_isImage a1 = 0 ∨ (f_X3_isImage a1 = 1 ∧ ∃ p, p ≤ 1 ∧ a1 = nI p) := winL a1 1 (by decide)
  unfold f_X3_back f_X4_back
  rw [hin]
  rcases hwn with e | ⟨e, k, hk, rfl⟩
  · rw [e, if_pos rfl]
    exact ⟨_, _, w, rfl, if_pos rfl, h⟩
  · have hz : zin (nI k) 2 = true := zin_nI (by omega) (by decide)
    have hx : zx (nI k) = k := zxI (by omega)
    have e20 : (20 : Int32) * (nI k + 1) = nI (20 * (k + 1)) := by rw [show nI k + 1 = nI (k + 1) from nI_1 _]; exact pk_mul 20 (k + 1)
    rw [e, if_neg n10]
    simp only [hz, zgT, hx]
    rcases h.2.2.2.1 k (by omega) with ⟨g1, g2⟩ | ⟨g1, g2, Q, c1, c2, c3, c4⟩
    · rw [g1, if_pos rfl]
      refine ⟨_, _, w, rfl, ?_, h⟩
      rw [if_neg n10, g2, if_pos rfl]
    · have q0 : Q 0 = P 0 := by
        have a := c2.n
        rw [h2.n] at a
        exact ((nI_eq (by omega) (by have := c3.1.1; omega)).mp a).symm
      obtain ⟨w1, e1, d1, f1⟩ := k_copyFrom (b := 2) (o := 26 + 8 * k) c1 c3 (by omega)
      have c2' : PR w1 (20 * (k + 1)) 0 Q := c2.k56 (by have := c3.1.1; omega) c3.1.2.1 (fun j hj => f1 j (by omega))
      obtain ⟨w2, e2, d2, f2⟩ := q_copies c2' c3 (by have := c3.1.1; omega) (g1 := 20 * (k + 1)) (by omega) (g2 := 0) (by decide) (by omega)
      rw [g1, if_neg n10, e1, zbds, d1.hr]
      refine ⟨_, w1, w2, rfl, ?_, h.step hN f1 d1 f2 d2 c3 c4 q0⟩
      rw [if_neg n10, f1 67 (by decide), g2, if_neg n10, e20, show f_X4_copies w1 (nI (20 * (k + 1))) 0 = some w2 from e2, zbds, show f_X4_hourOn w2 0 = some (nI (Q 4)) from q_hourOn (g := 0) d2 (by decide), zbds]
theorem o_keep (w : zW) (h : zJ w) (a1 : Int32) : ∃ (r : Int32) (w1 : zW) (w2 : zW), f_X3_keep w a1 = some (r, w1) ∧ f_X4_keep w1 a1 = some (r, w2) ∧ zJ w2 := by
  obtain ⟨P, hN⟩ := h.1
  obtain ⟨h1, h2, h3, h4, h5⟩ := id hN
  have b0 := h3.1.1
  have hin : f_X4_in a1.toInt64 (0 : Int64) (1 : Int64) = f_X3_isImage a1 := in_within a1 0 1
  have hwn : f_X3_isImage a1 = 0 ∨ (f_X3_isImage a1 = 1 ∧ ∃ p, p ≤ 1 ∧ a1 = nI p) := winL a1 1 (by decide)
  unfold f_X3_keep f_X4_keep
  simp only [zletE, zjn1E]
  rw [hin]
  rcases hwn with e | ⟨e, k, hk, rfl⟩
  · rw [e, if_pos rfl]
    exact ⟨_, _, w, rfl, if_pos rfl, h⟩
  · have hz : zin (nI k) 2 = true := zin_nI (by omega) (by decide)
    have hx : zx (nI k) = k := zxI (by omega)
    have e20 : (20 : Int32) * (nI k + 1) = nI (20 * (k + 1)) := by rw [show nI k + 1 = nI (k + 1) from nI_1 _]; exact pk_mul 20 (k + 1)
    rw [e, if_neg n10]
    simp only [hz, zgT, hx, znar1]
    obtain ⟨w1, e1, d1, f1⟩ := k_copyFrom (b := 26 + 8 * k) (o := 2) h1 h3 (by omega)
    have r1 : ∀ j, (j < 26 + 8 * k ∨ 26 + 8 * k + 7 < j) → j ≠ 44 → zup w1 44 k 1 j = w j := fun j a b => by rw [zup_n _ _ _ b]; exact f1 j a
    have h2' : PR (zup w1 44 k 1) 0 0 P := h2.k56 (by omega) h3.1.2.1 (fun j hj => r1 j (by omega) (by omega))
    obtain ⟨w2, e2, d2, f2⟩ := q_copies h2' h3 (by omega) (g1 := 0) (by decide) (g2 := 20 * (k + 1)) (by omega) (by omega)
    have r2 : ∀ j, j ≠ 57 → j ≠ 67 → zup w2 67 k 1 j = zup w1 44 k 1 j := fun j a b => by rw [zup_n _ _ _ b]; exact f2.1 j a
    have rr : ∀ j, (j < 26 + 8 * k ∨ 26 + 8 * k + 7 < j) → j ≠ 44 → j ≠ 57 → j ≠ 67 → zup w2 67 k 1 j = w j := fun j a b c d => (r2 j c d).trans (r1 j a b)
    have r57 : ∀ j, (j < 20 * (k + 1) ∨ 20 * (k + 1) + 20 ≤ j) → zup w2 67 k 1 57 j = w 57 j := fun j a => by rw [zup_n _ _ _ (by decide), f2.2 j a, r1 57 (by omega) (by decide)]
    have g67 : w2 67 = w 67 := by rw [f2.1 67 (by decide), r1 67 (by omega) (by decide)]
    have ha : ∀ x : Int32, (x = 0 ∨ x = 1) → (if x = 0 then (0 : Int32) else 1) = f_X3_asNumber x := fun x hx => by rcases hx with rfl | rfl <;> rfl
    have hk44 : w 44 k = w 67 k ∧ (w 67 k = 0 ∨ w 67 k = 1) := by
      rcases h.2.2.2.1 k (by omega) with ⟨g1, g2⟩ | ⟨g1, g2, -⟩
      · exact ⟨g1.trans g2.symm, .inl g2⟩
      · exact ⟨g1.trans g2.symm, .inr g2⟩
    rw [e1, zbds]
    refine ⟨_, _, zup w2 67 k 1, rfl, ?_, ?_⟩
    · rw [if_neg n10, e20, show f_X4_copies (zup w1 44 k 1) 0 (nI (20 * (k + 1))) = some w2 from e2, zbds, g67, hk44.1, ← ha _ hk44.2]
      split <;> rfl
    · obtain ⟨-, hT, hS, hK, hH, hF⟩ := h
      refine ⟨⟨P, ?_⟩, ?_, ?_, ?_, ?_, ?_⟩
      · refine ⟨h1.frame (fun j a b => rr j (by omega) (by omega) (by omega) (by omega)), ?_, h3, h4, by rw [rr 56 (by omega) (by decide) (by decide) (by decide)]; exact h5⟩
        exact h2.frame (by omega) h3.1.2.1 (fun j _ _ => by rw [rr 56 (by omega) (by decide) (by decide) (by decide)]) (fun j a b => r57 j (by omega)) (rr 58 (by omega) (by decide) (by decide) (by decide)) (rr 59 (by omega) (by decide) (by decide) (by decide))
      · exact hT.fr (by rw [rr 0 (by omega) (by decide) (by decide) (by decide)]) (rr 1 (by omega) (by decide) (by decide) (by decide)) (by rw [rr 56 (by omega) (by decide) (by decide) (by decide)]) (rr 63 (by omega) (by decide) (by decide) (by decide))
      · exact hS.fr (by rw [rr 0 (by omega) (by decide) (by decide) (by decide)]) (rr 45 (by omega) (by decide) (by decide) (by decide)) (rr 46 (by omega) (by decide) (by decide) (by decide)) (by rw [rr 56 (by omega) (by decide) (by decide) (by decide)]) (rr 66 (by omega) (by decide) (by decide) (by decide))
      · intro i hi
        by_cases ik : i = k
        · subst ik
          refine .inr ⟨?_, ?_, P, ?_, ?_, h3, h4⟩
          · rw [r2 44 (by decide) (by decide), zup_s, upd_s]
          · rw [zup_s, upd_s]
          · exact d1.frame (fun j a b => by rw [r2 j (by omega) (by omega), zup_n _ _ _ (by omega)])
          · exact d2.frame (by omega) h3.1.2.1 (fun j _ _ => by rw [zup_n _ _ _ (by decide)]) (fun j _ _ => by rw [zup_n _ _ _ (by decide)]) (zup_n _ _ _ (by decide)) (zup_n _ _ _ (by decide))
        · refine (hK i hi).fr ?_ ?_ (fun j a b => rr j (by omega) (by omega) (by omega) (by omega)) (fun j _ _ => by rw [rr 56 (by omega) (by decide) (by decide) (by decide)]) (fun j a b => r57 j (by omega)) (rr 58 (by omega) (by decide) (by decide) (by decide)) (rr 59 (by omega) (by decide) (by decide) (by decide))
          · rw [r2 44 (by decide) (by decide), zup_s, upd_n _ _ ik, f1 44 (by omega)]
          · rw [zup_s, upd_n _ _ ik, g67]
      · exact hH.fr (fun j a b => rr j (by omega) (by omega) (by omega) (by omega)) (rr 68 (by omega) (by decide) (by decide) (by decide)) (rr 69 (by omega) (by decide) (by decide) (by decide)) (rr 70 (by omega) (by decide) (by decide) (by decide))
      · exact hF.fr (by rw [rr 0 (by omega) (by decide) (by decide) (by decide)]) (by rw [rr 0 (by omega) (by decide) (by decide) (by decide)]) (by rw [rr 56 (by omega) (by decide) (by decide) (by decide)]) (by rw [rr 56 (by omega) (by decide) (by decide) (by decide)]) (rr 64 (by omega) (by decide) (by decide) (by decide)) (rr 65 (by omega) (by decide) (by decide) (by decide))
