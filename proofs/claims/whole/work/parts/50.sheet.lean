/-! sheets -/
theorem zjn3E {α1 α2 α3 β : Type} (f : α1 → α2 → α3 → β) (g : (α1 → α2 → α3 → β) → β) : zjn3 f g = g f := id rfl
theorem zgTE {α : Type} (k : Option α) : zg true k = k := id rfl
theorem x_toInt (x : Int32) : x.toInt = if 2 * x.toBitVec.toNat < 4294967296 then (x.toBitVec.toNat : Int) else (x.toBitVec.toNat : Int) - 4294967296 := by
  show x.toBitVec.toInt = _
  rw [BitVec.toInt_eq_toNat_cond]
  rfl
theorem sh_b (x : Int32) : (x <<< ((24 : Int32) &&& 31)) >>> ((24 : Int32) &&& 31) = x.toInt8.toInt32 := by
  apply Int32.toInt_inj.mp
  have h1 := pk_shl x ((24 : Int32) &&& 31) 24 (by decide)
  rw [pk_shr _ _ 24 (by decide), Int.shiftRight_eq_div_pow, Int8.toInt_toInt32, Int32.toInt_toInt8, x_toInt (x <<< ((24 : Int32) &&& 31)), h1, x_toInt x, Int.bmod_def]
  have h2 : x.toBitVec.toNat < 2 ^ 32 := x.toBitVec.isLt
  generalize x.toBitVec.toNat = u at *
  omega
theorem sh_s (x : Int32) : (x <<< ((16 : Int32) &&& 31)) >>> ((16 : Int32) &&& 31) = x.toInt16.toInt32 := by
  apply Int32.toInt_inj.mp
  have h1 := pk_shl x ((16 : Int32) &&& 31) 16 (by decide)
  rw [pk_shr _ _ 16 (by decide), Int.shiftRight_eq_div_pow, Int16.toInt_toInt32, Int32.toInt_toInt16, x_toInt (x <<< ((16 : Int32) &&& 31)), h1, x_toInt x, Int.bmod_def]
  have h2 : x.toBitVec.toNat < 2 ^ 32 := x.toBitVec.isLt
  generalize x.toBitVec.toNat = u at *
  omega
theorem zJ.sh {w w2 : zW} (h : zJ w) (hk : ∀ k, (k < 48 ∨ (56 ≤ k ∧ k < 68)) → w2 k = w k) (hH : JH w2) : zJ w2 := by
  obtain ⟨⟨P, hN⟩, hT, hS, hK, -, hF⟩ := h
  obtain ⟨a, b, c, d, e⟩ := hN
  refine ⟨⟨P, a.frame (fun k x y => hk k (by omega)), ?_, c, d, by rw [hk 56 (by omega)]; exact e⟩, ?_, ?_, ?_, hH, ?_⟩
  · exact b.frame (by have := c.1.1; omega) c.1.2.1 (fun j _ _ => by rw [hk 56 (by omega)]) (fun j _ _ => by rw [hk 57 (by omega)]) (hk 58 (by omega)) (hk 59 (by omega))
  · exact hT.fr (by rw [hk 0 (by omega)]) (hk 1 (by omega)) (by rw [hk 56 (by omega)]) (hk 63 (by omega))
  · exact hS.fr (by rw [hk 0 (by omega)]) (hk 45 (by omega)) (hk 46 (by omega)) (by rw [hk 56 (by omega)]) (hk 66 (by omega))
  · exact hK.fr (hk 44 (by omega)) (hk 67 (by omega)) (fun j a b => hk j (by omega)) (fun j _ _ => by rw [hk 56 (by omega)]) (fun j _ _ => by rw [hk 57 (by omega)]) (hk 58 (by omega)) (hk 59 (by omega))
  · exact hF.fr (by rw [hk 0 (by omega)]) (by rw [hk 0 (by omega)]) (by rw [hk 56 (by omega)]) (by rw [hk 56 (by omega)]) (hk 64 (by omega)) (hk 65 (by omega))
theorem k_renewL {w0 : zW} {b : Nat} : ∀ (k t n : Nat) (w : zW), t + k = 40 → k < n → (∀ j, j < t → w (b + 1) j = 0) → (∀ i, i ≠ b + 1 → w i = w0 i) → ∃ w', zfix2 (b_X1_renew_12 b) n (nI t) w = some w' ∧ (∀ j, j < 40 → w' (b + 1) j = 0) ∧ ∀ i, i ≠ b + 1 → w' i = w0 i := by
  intro k
  induction k with
  | zero =>
    intro t n w ht hn h1 h2
    obtain ⟨n, rfl⟩ : ∃ m, n = m + 1 := ⟨n - 1, by omega⟩
    refine ⟨w, ?_, fun j hj => h1 j (by omega), h2⟩
    show b_X1_renew_12 b (zfix2 _ n) _ _ = _
    generalize zfix2 (b_X1_renew_12 b) n = kk
    unfold b_X1_renew_12
    rw [show t = 40 by omega, if_pos (by decide)]
  | succ k ih =>
    intro t n w ht hn h1 h2
    obtain ⟨n, rfl⟩ : ∃ m, n = m + 1 := ⟨n - 1, by omega⟩
    have c40 : (40 : Int32) ≤ nI t ↔ 40 ≤ t := nI_leI (a := 40) (by decide) (by omega)
    obtain ⟨w', g1, g2, g3⟩ := ih (t + 1) n (zup w (b + 1) t 0) (by omega) (by omega) (fun j hj => by
      rw [zup_s]
      by_cases e : j = t
      · rw [e, upd_s]
      · rw [upd_n _ _ e]; exact h1 j (by omega)) (fun i hi => by rw [zup_n _ _ _ hi]; exact h2 i hi)
    refine ⟨w', ?_, g2, g3⟩
    show b_X1_renew_12 b (zfix2 _ n) _ _ = _
    generalize zfix2 (b_X1_renew_12 b) n = kk at g1 ⊢
    unfold b_X1_renew_12
    simp only [zletE]
    rw [if_neg (fun x => absurd (c40.mp x) (by omega)), zgt (zin_nI (by omega) (by decide)), zxI (by omega), show nI t + 1 = nI (t + 1) from nI_1 _]
    exact g1
theorem k_renew (w : zW) (b : Nat) (x y : Int32) : ∃ w', f_X1_renew w b x y = some w' ∧ w' b 1 = x ∧ w' b 2 = y ∧ (∀ j, j < 40 → w' (b + 1) j = 0) ∧ ∀ i, i ≠ b → i ≠ b + 1 → w' i = w i := by
  obtain ⟨w', g1, g2, g3⟩ := k_renewL (w0 := zup (zup w b 1 x) b 2 y) (b := b) 40 0 100000 (zup (zup w b 1 x) b 2 y) (by decide) (by decide) (fun j hj => absurd hj (by omega)) (fun _ _ => rfl)
  refine ⟨w', ?_, ?_, ?_, g2, ?_⟩
  · unfold f_X1_renew
    simp only [zletE]
    exact g1
  · rw [g3 b (by omega), zup_s, upd_n _ _ (by decide), zup_s, upd_s]
  · rw [g3 b (by omega), zup_s, upd_s]
  · intro i h1 h2
    rw [g3 i h2, zup_n _ _ _ h1, zup_n _ _ _ h1]
theorem q_sheetL {w0 : zW} {i : Nat} (hi : i < 4) : ∀ (k t n : Nat) (w : zW), t + k = 40 → k < n → (∀ j, j < t → w 70 (40 * i + j) = 0) → (∀ j, (j < 40 * i ∨ 40 * i + 40 ≤ j) → w 70 j = w0 70 j) → (∀ q, q ≠ 70 → w q = w0 q) → ∃ w', zfix2 (b_X4_sheet_56 (nI i)) n (nI t) w = some (1, w') ∧ (∀ j, j < 40 → w' 70 (40 * i + j) = 0) ∧ (∀ j, (j < 40 * i ∨ 40 * i + 40 ≤ j) → w' 70 j = w0 70 j) ∧ ∀ q, q ≠ 70 → w' q = w0 q := by
  intro k
  induction k with
  | zero =>
    intro t n w ht hn h1 h2 h3
    obtain ⟨n, rfl⟩ : ∃ m, n = m + 1 := ⟨n - 1, by omega⟩
    refine ⟨w, ?_, fun j hj => h1 j (by omega), h2, h3⟩
    show b_X4_sheet_56 _ (zfix2 _ n) _ _ = _
    generalize zfix2 (b_X4_sheet_56 (nI i)) n = kk
    unfold b_X4_sheet_56
    rw [show t = 40 by omega, if_pos (by decide)]
  | succ k ih =>
    intro t n w ht hn h1 h2 h3
    obtain ⟨n, rfl⟩ : ∃ m, n = m + 1 := ⟨n - 1, by omega⟩
    have c40 : (40 : Int32) ≤ nI t ↔ 40 ≤ t := nI_leI (a := 40) (by decide) (by omega)
    obtain ⟨w', g1, g2, g3, g4⟩ := ih (t + 1) n (zup w 70 (40 * i + t) 0) (by omega) (by omega) (fun j hj => by
      rw [zup_s]
      by_cases e : j = t
      · rw [e, upd_s]
      · rw [upd_n _ _ (by omega)]; exact h1 j (by omega)) (fun j hj => by rw [zup_s, upd_n _ _ (by omega)]; exact h2 j hj) (fun q hq => by rw [zup_n _ _ _ hq]; exact h3 q hq)
    refine ⟨w', ?_, g2, g3, g4⟩
    show b_X4_sheet_56 _ (zfix2 _ n) _ _ = _
    generalize zfix2 (b_X4_sheet_56 (nI i)) n = kk at g1 ⊢
    unfold b_X4_sheet_56
    simp only [zletE]
    rw [if_neg (fun x => absurd (c40.mp x) (by omega)), show (40 : Int32) * nI i + nI t = nI (40 * i + t) from by rw [show (40 : Int32) * nI i = nI (40 * i) from pk_mul 40 i, nI_add], zgt (zin_nI (by omega) (by decide)), zxI (by omega), show nI t + 1 = nI (t + 1) from nI_1 _]
    exact g1
theorem o_sheet (w : zW) (h : zJ w) (a1 a2 a3 : Int32) : ∃ (r : Int32) (w1 : zW) (w2 : zW), f_X3_sheet w a1 a2 a3 = some (r, w1) ∧ f_X4_sheet w1 a1 a2 a3 = some (r, w2) ∧ zJ w2 := by
  have hi1 : f_X4_in a1.toInt64 (0 : Int64) (3 : Int64) = f_X3_isSheet a1 := in_within a1 0 3
  have hi2 : f_X4_in a2.toInt64 (0 : Int64) (2 : Int64) = f_X3_isLane a2 := in_within a2 0 2
  have hw1 : f_X3_isSheet a1 = 0 ∨ (f_X3_isSheet a1 = 1 ∧ ∃ p, p ≤ 3 ∧ a1 = nI p) := winL a1 3 (by decide)
  have hw2 : f_X3_isLane a2 = 0 ∨ (f_X3_isLane a2 = 1 ∧ ∃ p, p ≤ 2 ∧ a2 = nI p) := winL a2 2 (by decide)
  have hw3 : f_X3_within a3 0 40 = 0 ∨ (f_X3_within a3 0 40 = 1 ∧ ∃ p, p ≤ 40 ∧ a3 = nI p) := winL a3 40 (by decide)
  unfold f_X3_sheet f_X4_sheet
  generalize hfu : (100000 : Nat) = fu
  rw [hi1, hi2]
  rcases hw1 with e | ⟨e, i, hi, rfl⟩
  · rw [e, if_pos rfl]
    exact ⟨_, _, w, rfl, if_pos rfl, h⟩
  rw [e, if_neg n10]
  rcases hw2 with e2 | ⟨e2, L, hL, rfl⟩
  · rw [e2, if_pos rfl]
    refine ⟨_, _, w, rfl, ?_, h⟩
    rw [if_neg n10, if_pos rfl]
  rw [e2, if_neg n10]
  by_cases d1 : a3 ≤ 40
  · rw [if_pos d1]
    by_cases d2 : (0 : Int32) ≤ a3
    · rcases hw3 with e3 | ⟨-, N, hN, rfl⟩
      · rw [within_eq, if_pos ⟨d2, d1⟩] at e3
        exact absurd e3 (by decide)
      · have hz : zin (nI i) 4 = true := zin_nI (by omega) (by decide)
        have hx : zx (nI i) = i := zxI (by omega)
        obtain ⟨w1, g1, g2, g3, g4, g5⟩ := k_renew w (48 + 2 * i) (nI L) (nI N)
        obtain ⟨w2, k1, k2, k3, k4⟩ := q_sheetL (i := i) (by omega) (w0 := zup (zup w1 68 i (nI L)) 69 i (nI N)) 40 0 fu (zup (zup w1 68 i (nI L)) 69 i (nI N)) (by decide) (by omega) (fun j hj => absurd hj (by omega)) (fun _ _ => rfl) (fun _ _ => rfl)
        rw [if_pos d2]
        simp only [hz, zgTE, hx]
        rw [g1, zbds]
        refine ⟨_, w1, w2, rfl, ?_, ?_⟩
        · rw [if_neg n10, if_neg n10, if_pos d1, if_pos d2]
          simp only [zletE]
          exact k1
        · have r : ∀ k, k ≠ 48 + 2 * i → k ≠ 49 + 2 * i → k ≠ 68 → k ≠ 69 → k ≠ 70 → w2 k = w k := fun k x1 x2 x3 x4 x5 => by
            rw [k4 k x5, zup_n _ _ _ x4, zup_n _ _ _ x3, g5 k x1 (by omega)]
          have r68 : ∀ j, j ≠ i → w2 68 j = w 68 j := fun j hj => by
            rw [k4 68 (by decide), zup_n _ _ _ (by decide), zup_s, upd_n _ _ hj, g5 68 (by omega) (by omega)]
          have r69 : ∀ j, j ≠ i → w2 69 j = w 69 j := fun j hj => by
            rw [k4 69 (by decide), zup_s, upd_n _ _ hj, zup_n _ _ _ (by decide), g5 69 (by omega) (by omega)]
          have r70 : ∀ j, (j < 40 * i ∨ 40 * i + 40 ≤ j) → w2 70 j = w 70 j := fun j hj => by
            rw [k3 j hj, zup_n _ _ _ (by decide), zup_n _ _ _ (by decide), g5 70 (by omega) (by omega)]
          have r48 : w2 (48 + 2 * i) = w1 (48 + 2 * i) := by rw [k4 _ (by omega), zup_n _ _ _ (by omega), zup_n _ _ _ (by omega)]
          have r49 : w2 (49 + 2 * i) = w1 (49 + 2 * i) := by rw [k4 _ (by omega), zup_n _ _ _ (by omega), zup_n _ _ _ (by omega)]
          refine h.sh (fun k hk => r k (by omega) (by omega) (by omega) (by omega) (by omega)) (fun t ht => ?_)
          by_cases ti : t = i
          · subst ti
            refine .inr ⟨L, N, hL, hN, by rw [r48]; exact g2, by rw [r48]; exact g3, ?_, ?_, fun j hj => ?_⟩
            · rw [k4 68 (by decide), zup_n _ _ _ (by decide), zup_s, upd_s]
            · rw [k4 69 (by decide), zup_s, upd_s]
            · rw [r49, k2 j hj, show 49 + 2 * t = 48 + 2 * t + 1 by omega]
              exact g4 j hj
          · exact (h.2.2.2.2.1 t ht).fr (r _ (by omega) (by omega) (by omega) (by omega) (by omega)) (r _ (by omega) (by omega) (by omega) (by omega) (by omega)) (r68 t ti) (r69 t ti) (fun j hj => r70 _ (by omega))
    · rw [if_neg d2]
      refine ⟨_, _, w, rfl, ?_, h⟩
      rw [if_neg n10, if_neg n10, if_pos d1, if_neg d2]
  · rw [if_neg d1]
    refine ⟨_, _, w, rfl, ?_, h⟩
    rw [if_neg n10, if_neg n10, if_neg d1]
theorem nL4 {L : Nat} (hL : L ≤ 2) : ¬ nI L = -4 := by
  rcases (show L = 0 ∨ L = 1 ∨ L = 2 by omega) with rfl | rfl | rfl <;> decide
theorem k_faultAt {w : zW} {b N : Nat} (h : w b 2 = nI N) (hN : N ≤ 40) (a : Int32) : f_X1_faultAt w b a = if f_X3_within a 0 (nI N - 1) = 0 then 2 else 0 := by
  have c0 : (0 : Int32) ≤ nI N := nI_pos' (by omega)
  unfold f_X1_faultAt f_X1_isNothing
  rw [h, if_pos c0, if_pos rfl]
theorem k_faultAt0 {w : zW} {b : Nat} (h : w b 2 = -1) (a : Int32) : f_X1_faultAt w b a = 1 := by
  unfold f_X1_faultAt f_X1_isNothing
  rw [h, if_neg (show ¬ (0 : Int32) ≤ -1 by decide), if_neg n10]
theorem o_put (w : zW) (h : zJ w) (a1 a2 a3 : Int32) : ∃ (r : Int32) (w1 : zW) (w2 : zW), f_X3_put w a1 a2 a3 = some (r, w1) ∧ f_X4_put w1 a1 a2 a3 = some (r, w2) ∧ zJ w2 := by
  have hi1 : f_X4_in a1.toInt64 (0 : Int64) (3 : Int64) = f_X3_isSheet a1 := in_within a1 0 3
  have hw1 : f_X3_isSheet a1 = 0 ∨ (f_X3_isSheet a1 = 1 ∧ ∃ p, p ≤ 3 ∧ a1 = nI p) := winL a1 3 (by decide)
  unfold f_X3_put f_X4_put
  rw [sh_b, sh_s]
  simp only [zletE, zjn1E]
  rw [hi1]
  rcases hw1 with e | ⟨e, i, hi, rfl⟩
  · rw [e, if_pos rfl]
    exact ⟨_, _, w, rfl, if_pos rfl, h⟩
  have hz : zin (nI i) 4 = true := zin_nI (by omega) (by decide)
  have hx : zx (nI i) = i := zxI (by omega)
  rw [e, if_neg n10]
  simp only [hz, zgTE, hx]
  rcases h.2.2.2.2.1 i (by omega) with ⟨s1, s2⟩ | ⟨L, N, hL, hN, s1, s2, s3, s4, s5⟩
  · rw [k_faultAt0 s1, if_neg n10]
    refine ⟨_, _, w, rfl, ?_, h⟩
    rw [if_neg n10, s2, if_pos rfl]
    rfl
  · rw [k_faultAt s2 hN]
    have hin : ∀ {w1 : zW}, w1 69 i = nI N → f_X4_in a2.toInt64 (0 : Int64) (w1 69 i - 1).toInt64 = f_X3_within a2 0 (nI N - 1) := fun e => by rw [e]; exact in_within a2 0 (nI N - 1)
    rcases winN_cases a2 (N := N) (by omega) with e2 | ⟨e2, p, hp, rfl⟩
    · rw [e2, if_pos rfl, if_neg (by decide)]
      refine ⟨_, _, w, rfl, ?_, h⟩
      rw [if_neg n10, s3, if_neg (nL4 hL), hin s4, e2, if_pos rfl]
      rfl
    · have hz2 : zin (nI p) 40 = true := zin_nI (by omega) (by decide)
      have hx2 : zx (nI p) = p := zxI (by omega)
      have e40 : (40 : Int32) * nI i + nI p = nI (40 * i + p) := by rw [show (40 : Int32) * nI i = nI (40 * i) from pk_mul 40 i, nI_add]
      have hz3 : zin (nI (40 * i + p)) 160 = true := zin_nI (by omega) (by decide)
      have hx3 : zx (nI (40 * i + p)) = 40 * i + p := zxI (by omega)
      have fin : ∀ v : Int32, zJ (zup (zup w (48 + 2 * i + 1) p v) 70 (40 * i + p) v) := by
        intro v
        have r : ∀ k, k ≠ 49 + 2 * i → k ≠ 70 → zup (zup w (48 + 2 * i + 1) p v) 70 (40 * i + p) v k = w k := fun k x1 x2 => by rw [zup_n _ _ _ x2, zup_n _ _ _ (by omega)]
        have r70 : ∀ j, j ≠ 40 * i + p → zup (zup w (48 + 2 * i + 1) p v) 70 (40 * i + p) v 70 j = w 70 j := fun j hj => by rw [zup_s, upd_n _ _ hj, zup_n _ _ _ (by omega)]
        refine h.sh (fun k hk => r k (by omega) (by omega)) (fun t ht => ?_)
        by_cases ti : t = i
        · subst ti
          refine .inr ⟨L, N, hL, hN, by rw [r _ (by omega) (by omega)]; exact s1, by rw [r _ (by omega) (by omega)]; exact s2, by rw [r 68 (by omega) (by decide)]; exact s3, by rw [r 69 (by omega) (by decide)]; exact s4, fun j hj => ?_⟩
          by_cases jp : j = p
          · subst jp
            rw [zup_s, upd_s, zup_n _ _ _ (by omega), show 49 + 2 * t = 48 + 2 * t + 1 by omega, zup_s, upd_s]
          · rw [r70 _ (by omega), zup_n _ _ _ (by omega), show 49 + 2 * t = 48 + 2 * t + 1 by omega, zup_s, upd_n _ _ jp, show 48 + 2 * t + 1 = 49 + 2 * t by omega]
            exact s5 j hj
        · exact (h.2.2.2.2.1 t ht).fr (r _ (by omega) (by omega)) (r _ (by omega) (by omega)) (by rw [r 68 (by omega) (by decide)]) (by rw [r 69 (by omega) (by decide)]) (fun j hj => r70 _ (by omega))
      have k68 : ∀ v : Int32, zup w (48 + 2 * i + 1) p v 68 i = nI L := fun v => by rw [zup_n _ _ _ (by omega)]; exact s3
      have k69 : ∀ v : Int32, zup w (48 + 2 * i + 1) p v 69 i = nI N := fun v => by rw [zup_n _ _ _ (by omega)]; exact s4
      rw [e2, if_neg n10, if_pos rfl]
      unfold f_X1_write
      simp only [zletE, hz2, zgTE, hx2, s1]
      rw [e40]
      simp only [hz3, zgTE, hx3]
      rcases (show L = 0 ∨ L = 1 ∨ L = 2 by omega) with rfl | rfl | rfl
      · rw [if_pos (show nI 0 = 0 from rfl), zbds]
        refine ⟨_, _, _, rfl, ?_, fin a3.toInt8.toInt32⟩
        rw [if_neg n10, k68, if_neg (nL4 hL), hin (k69 _), e2, if_neg n10, if_pos (show nI 0 = 0 from rfl)]
      · rw [if_neg (show ¬ nI 1 = 0 by decide), if_pos (show nI 1 = 1 from rfl), zbds]
        refine ⟨_, _, _, rfl, ?_, fin a3.toInt16.toInt32⟩
        rw [if_neg n10, k68, if_neg (nL4 hL), hin (k69 _), e2, if_neg n10, if_neg (show ¬ nI 1 = 0 by decide), if_pos (show nI 1 = 1 from rfl)]
      · rw [if_neg (show ¬ nI 2 = 0 by decide), if_neg (show ¬ nI 2 = 1 by decide), zbds]
        refine ⟨_, _, _, rfl, ?_, fin a3⟩
        rw [if_neg n10, k68, if_neg (nL4 hL), hin (k69 _), e2, if_neg n10, if_neg (show ¬ nI 2 = 0 by decide), if_neg (show ¬ nI 2 = 1 by decide)]
