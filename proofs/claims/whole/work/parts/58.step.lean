/-! the reference's tokens -/
theorem zup_id {w : zW} {k j : Nat} {x : Int32} (h : w k j = x) : zup w k j x = w := by
  funext a b
  by_cases e : a = k
  · subst e
    rw [zup_s]
    by_cases f : b = j
    · subst f; rw [upd_s, h]
    · rw [upd_n _ _ f]
  · rw [zup_n _ _ _ e]
theorem zup_zup (w : zW) (k j : Nat) (x y : Int32) : zup (zup w k j x) k j y = zup w k j y := by
  funext a b
  by_cases e : a = k
  · subst e
    rw [zup_s, zup_s, zup_s]
    by_cases f : b = j
    · subst f; rw [upd_s, upd_s]
    · rw [upd_n _ _ f, upd_n _ _ f, upd_n _ _ f]
  · rw [zup_n _ _ _ e, zup_n _ _ _ e, zup_n _ _ _ e]
theorem zup4 (w : zW) (v p v' p' : Int32) : zup (zup (zup (zup w 56 25 v) 56 22 p) 56 25 v') 56 22 p' = zup (zup w 56 25 v') 56 22 p' := by
  funext a b
  by_cases e : a = 56
  · subst e
    rw [zup_s, zup_s, zup_s, zup_s, zup_s, zup_s]
    by_cases f : b = 22
    · subst f; rw [upd_s, upd_s]
    · rw [upd_n _ _ f, upd_n _ _ f]
      by_cases g : b = 25
      · subst g; rw [upd_s, upd_s]
      · rw [upd_n _ _ g, upd_n _ _ g, upd_n _ _ f, upd_n _ _ g]
  · rw [zup_n _ _ _ e, zup_n _ _ _ e, zup_n _ _ _ e, zup_n _ _ _ e, zup_n _ _ _ e, zup_n _ _ _ e]
theorem q_byte {c : Nat → Nat} {N : Nat} {w : zW} (h : QT c N w) {p : Nat} (hp : p < 2 ^ 20) : f_X4_byteAt w (nI p) = some (if p < N then nI (c p) else -4) := by
  obtain ⟨h1, h2, h3⟩ := h
  unfold f_X4_byteAt
  rw [h3]
  by_cases d : p < N
  · rw [if_neg (nI_ge d (by omega)), zgt (zin_nI (by omega) (by decide)), zxI (by omega), (h2 p d).2, if_pos d]
  · rw [if_pos (nI_le (by omega) (by omega)), if_neg d]
theorem q_skip {c : Nat → Nat} {N : Nat} (j : zW → Option zW) : ∀ (k p n : Nat) (w : zW), p + k = N → k < n → QT c N w → zfix1 (b_X4_step_8 j) n (zup w 56 22 (nI p)) = j (zup w 56 22 (nI (m_rn c 32 32 k p))) := by
  intro k
  induction k with
  | zero =>
    intro p n w hp hn h
    obtain ⟨n, rfl⟩ : ∃ m, n = m + 1 := ⟨n - 1, by omega⟩
    have h1 := h.1
    have hb := q_byte (h.u (j := 22) (nI p) (by decide)) (p := p) (by omega)
    show b_X4_step_8 _ (zfix1 _ n) _ = _
    generalize zfix1 (b_X4_step_8 j) n = kk
    unfold b_X4_step_8
    rw [show zup w 56 22 (nI p) 56 22 = nI p from rfl, hb, zbds, if_neg (show ¬ p < N by omega), if_neg (by decide)]
    rfl
  | succ k ih =>
    intro p n w hp hn h
    obtain ⟨n, rfl⟩ : ∃ m, n = m + 1 := ⟨n - 1, by omega⟩
    have h1 := h.1
    have hc := (h.2.1 p (by omega)).1
    have hb := q_byte (h.u (j := 22) (nI p) (by decide)) (p := p) (by omega)
    have g1 := ih (p + 1) n w (by omega) (by omega) h
    have c32 : nI (c p) = 32 ↔ c p = 32 := nI_eq (b := 32) (by omega) (by decide)
    show b_X4_step_8 _ (zfix1 _ n) _ = _
    generalize zfix1 (b_X4_step_8 j) n = kk at g1 ⊢
    unfold b_X4_step_8
    simp only [zletE]
    rw [show zup w 56 22 (nI p) 56 22 = nI p from rfl, hb, zbds, if_pos (show p < N by omega), zup_zup, show nI p + 1 = nI (p + 1) from nI_1 _, g1]
    simp only [m_rn]
    by_cases d : c p = 32
    · rw [if_pos (c32.mpr d), if_pos (by omega)]
    · rw [if_neg (fun q => d (c32.mp q)), if_neg (by omega)]
theorem q_in {x lo hi : Nat} (hx : x < 2 ^ 31) (hlo : lo < 2 ^ 31) (hh : hi < 2 ^ 31) : f_X4_in (nI x).toInt64 (nI lo).toInt64 (nI hi).toInt64 = if lo ≤ x ∧ x ≤ hi then 1 else 0 := by
  rw [in_within]
  exact win_if hx hlo hh
theorem q_name {c : Nat → Nat} {N : Nat} (j : zW → Option zW) : ∀ (k p n : Nat) (w : zW), p + k = N → k < n → QT c N w → zfix1 (b_X4_step_84 j) n (zup w 56 22 (nI p)) = j (zup w 56 22 (nI (m_rn c 97 122 k p))) := by
  intro k
  induction k with
  | zero =>
    intro p n w hp hn h
    obtain ⟨n, rfl⟩ : ∃ m, n = m + 1 := ⟨n - 1, by omega⟩
    have h1 := h.1
    have hb := q_byte (h.u (j := 22) (nI p) (by decide)) (p := p) (by omega)
    show b_X4_step_84 _ (zfix1 _ n) _ = _
    generalize zfix1 (b_X4_step_84 j) n = kk
    unfold b_X4_step_84
    rw [show zup w 56 22 (nI p) 56 22 = nI p from rfl, hb, zbds, if_neg (show ¬ p < N by omega), if_pos (by decide)]
    rfl
  | succ k ih =>
    intro p n w hp hn h
    obtain ⟨n, rfl⟩ : ∃ m, n = m + 1 := ⟨n - 1, by omega⟩
    have h1 := h.1
    have hc := (h.2.1 p (by omega)).1
    have hb := q_byte (h.u (j := 22) (nI p) (by decide)) (p := p) (by omega)
    have g1 := ih (p + 1) n w (by omega) (by omega) h
    have hi : f_X4_in (nI (c p)).toInt64 (97 : Int64) (122 : Int64) = if 97 ≤ c p ∧ c p ≤ 122 then 1 else 0 := q_in (lo := 97) (hi := 122) (by omega) (by decide) (by decide)
    show b_X4_step_84 _ (zfix1 _ n) _ = _
    generalize zfix1 (b_X4_step_84 j) n = kk at g1 ⊢
    unfold b_X4_step_84
    simp only [zletE]
    rw [show zup w 56 22 (nI p) 56 22 = nI p from rfl, hb, zbds, if_pos (show p < N by omega), zup_zup, show nI p + 1 = nI (p + 1) from nI_1 _, g1, hi]
    simp only [m_rn]
    by_cases d : 97 ≤ c p ∧ c p ≤ 122
    · rw [if_pos d, if_neg n10, if_pos d]
    · rw [if_neg d, if_pos rfl, if_neg d]
theorem q_numb {c : Nat → Nat} {N H : Nat} (j : zW → Option zW) : ∀ (k p n : Nat) (w : zW), p + k = N → k < n → QT c N w → w 56 23 = nI H → H ≤ p → (∀ q, H ≤ q → q < p → 48 ≤ c q ∧ c q ≤ 57) → zfix1 (b_X4_step_140 j) n (zup (zup w 56 25 (nI (m_nv c H (p - H)))) 56 22 (nI p)) = j (zup (zup w 56 25 (nI (m_nv c H (m_rn c 48 57 k p - H)))) 56 22 (nI (m_rn c 48 57 k p))) := by
  intro k
  induction k with
  | zero =>
    intro p n w hp hn h h23 hH hd
    obtain ⟨n, rfl⟩ : ∃ m, n = m + 1 := ⟨n - 1, by omega⟩
    have h1 := h.1
    have hb := q_byte ((h.u (j := 25) (nI (m_nv c H (p - H))) (by decide)).u (j := 22) (nI p) (by decide)) (p := p) (by omega)
    show b_X4_step_140 _ (zfix1 _ n) _ = _
    generalize zfix1 (b_X4_step_140 j) n = kk
    unfold b_X4_step_140
    rw [show zup (zup w 56 25 (nI (m_nv c H (p - H)))) 56 22 (nI p) 56 22 = nI p from rfl, hb, zbds, if_neg (show ¬ p < N by omega), if_pos (by decide)]
    rfl
  | succ k ih =>
    intro p n w hp hn h h23 hH hd
    obtain ⟨n, rfl⟩ : ∃ m, n = m + 1 := ⟨n - 1, by omega⟩
    have h1 := h.1
    have hc := (h.2.1 p (by omega)).1
    have hb := q_byte ((h.u (j := 25) (nI (m_nv c H (p - H))) (by decide)).u (j := 22) (nI p) (by decide)) (p := p) (by omega)
    have hi : f_X4_in (nI (c p)).toInt64 (48 : Int64) (57 : Int64) = if 48 ≤ c p ∧ c p ≤ 57 then 1 else 0 := q_in (lo := 48) (hi := 57) (by omega) (by decide) (by decide)
    have c2 : (2 : Int32) ≤ nI (p - H) ↔ 2 ≤ p - H := nI_leI (a := 2) (by decide) (by omega)
    by_cases d : 48 ≤ c p ∧ c p ≤ 57
    · have g1 := ih (p + 1) n w (by omega) (by omega) h h23 (by omega) (fun q a b => by
        by_cases e : q = p
        · subst e; exact d
        · exact hd q a (by omega))
      have er : m_rn c 48 57 (k + 1) p = m_rn c 48 57 k (p + 1) := by
        show (if 48 ≤ c p ∧ c p ≤ 57 then _ else _) = _
        rw [if_pos d]
      rw [er]
      show b_X4_step_140 _ (zfix1 _ n) _ = _
      generalize zfix1 (b_X4_step_140 j) n = kk at g1 ⊢
      unfold b_X4_step_140
      simp only [zletE, zjn1E]
      rw [show zup (zup w 56 25 (nI (m_nv c H (p - H)))) 56 22 (nI p) 56 22 = nI p from rfl, hb, zbds, zbds, if_pos (show p < N by omega), hi, if_pos d, if_neg n10, show zup (zup w 56 25 (nI (m_nv c H (p - H)))) 56 22 (nI p) 56 23 = nI H from h23, show zup (zup w 56 25 (nI (m_nv c H (p - H)))) 56 22 (nI p) 56 25 = nI (m_nv c H (p - H)) from rfl, show nI p - nI H = nI (p - H) from zsub_nI hH]
      have rd : ∀ x y : Int32, zup (zup (zup w 56 25 (nI (m_nv c H (p - H)))) 56 22 y) 56 25 x 56 22 = y := fun x y => rfl
      rw [rd, rd, zup4, zup4, show nI p + 1 = nI (p + 1) from nI_1 _]
      by_cases d2 : 2 ≤ p - H
      · rw [if_pos (c2.mpr d2)]
        rw [show m_nv c H (p + 1 - H) = m_nv c H (p - H) from by unfold m_nv; rw [if_neg (by omega), if_neg (by omega), if_neg (by omega), if_neg (by omega)]] at g1
        exact g1
      · rw [if_neg (fun q => d2 (c2.mp q)), show (10 : Int32) * nI (m_nv c H (p - H)) = nI (10 * m_nv c H (p - H)) from pk_mul 10 _, nI_add, show nI (10 * m_nv c H (p - H) + c p) - (48 : Int32) = nI (10 * m_nv c H (p - H) + c p - 48) from zsub_nI (b := 48) (by omega)]
        have ev : m_nv c H (p + 1 - H) = 10 * m_nv c H (p - H) + c p - 48 := by
          unfold m_nv
          rcases (show p = H ∨ p = H + 1 by omega) with e | e
          · subst e
            rw [if_neg (by omega), if_pos (by omega), if_pos (by omega)]
            omega
          · subst e
            rw [if_neg (by omega), if_neg (by omega), if_neg (by omega), if_pos (by omega)]
            omega
        rw [ev] at g1
        exact g1
    · have er : m_rn c 48 57 (k + 1) p = p := by
        show (if 48 ≤ c p ∧ c p ≤ 57 then _ else _) = _
        rw [if_neg d]
      rw [er]
      show b_X4_step_140 _ (zfix1 _ n) _ = _
      generalize zfix1 (b_X4_step_140 j) n = kk
      unfold b_X4_step_140
      rw [show zup (zup w 56 25 (nI (m_nv c H (p - H)))) 56 22 (nI p) 56 22 = nI p from rfl, hb, zbds, if_pos (show p < N by omega), hi, if_neg d, if_pos rfl]
theorem q_fails0 {w : zW} (h : w 56 20 = 0) (x : Int32) : f_X4_fails w x = some (zup (zup w 56 20 x) 56 21 (w 56 23)) := by
  unfold f_X4_fails
  rw [if_pos h]
  rfl
theorem q_failsN {w : zW} (h : ¬ w 56 20 = 0) (x : Int32) : f_X4_fails w x = some w := by
  unfold f_X4_fails
  rw [if_neg h]
theorem q_step {c : Nat → Nat} {N s : Nat} {w : zW} (h : QT c N w) (hs : s ≤ N) (h22 : w 56 22 = nI s) (h20 : w 56 20 = 0) : ∃ w', f_X4_step w = some w' ∧ QC c N s w' ∧ QF w w' ∧ (tB c N s = false → w' 56 20 = 0) ∧ (tB c N s = true → w' 56 20 = 1 ∧ w' 56 21 = nI (tH c N s)) := by
  obtain ⟨h1, h2, h3⟩ := id h
  obtain ⟨b1, b2, b3, b4, b5, b6⟩ := t_b c hs
  obtain ⟨fu, hfu⟩ : ∃ n : Nat, 100000 = n := ⟨_, rfl⟩
  have hsk := fun j => q_skip (c := c) j (N - s) s fu w (by omega) (by omega) h
  rw [zup_id h22] at hsk
  have hW0 : QT c N (zup w 56 22 (nI (tH c N s))) := h.u _ (by decide)
  unfold f_X4_step
  rw [hfu, h20, if_pos (by decide)]
  simp only [zletE, zjn1E]
  rw [hsk, show m_rn c 32 32 (N - s) s = tH c N s from rfl]
  rw [show zup w 56 22 (nI (tH c N s)) 56 22 = nI (tH c N s) from rfl, show zup (zup w 56 22 (nI (tH c N s))) 56 23 (nI (tH c N s)) 56 22 = nI (tH c N s) from rfl, q_byte (hW0.u (j := 23) (nI (tH c N s)) (by decide)) (p := tH c N s) (by omega), zbds]
  generalize hW : zup (zup (zup w 56 22 (nI (tH c N s))) 56 23 (nI (tH c N s))) 56 25 0 = W
  have hQ : QT c N W := by rw [← hW]; exact (hW0.u _ (by decide)).u _ (by decide)
  have hF : QF w W := by rw [← hW]; exact ((QF.u w _ (by decide)).tr (QF.u _ _ (by decide))).tr (QF.u _ _ (by decide))
  have w22 : W 56 22 = nI (tH c N s) := by rw [← hW]; rfl
  have w23 : W 56 23 = nI (tH c N s) := by rw [← hW]; rfl
  have w25 : W 56 25 = 0 := by rw [← hW]; rfl
  have w20 : W 56 20 = 0 := by rw [← hW]; exact h20
  clear hW hsk hW0
  by_cases d0 : N ≤ tH c N s
  · have k0 : tK c N s = 0 := by unfold tK; rw [if_pos d0]
    have hB : tB c N s = false := by unfold tB; rw [k0]; rfl
    rw [if_neg (show ¬ tH c N s < N by omega), if_pos rfl, hB]
    refine ⟨_, rfl, ⟨w23, ?_, by rw [k0]; rfl, fun q => by omega⟩, hF.tr (QF.u _ _ (by decide)), fun _ => w20, fun q => absurd q Bool.false_ne_true⟩
    rw [(b6 k0).2]
    have := (b6 k0).1
    rw [this] at w22
    exact w22
  · obtain ⟨a1, a2⟩ := h2 (tH c N s) (by omega)
    have n4 : ¬ nI (c (tH c N s)) = -4 := fun q => by
      have := nI_pos (n := c (tH c N s)) (by omega)
      rw [q] at this
      exact this (by decide)
    have wi1 : f_X4_in (nI (c (tH c N s))).toInt64 (97 : Int64) (122 : Int64) = if 97 ≤ c (tH c N s) ∧ c (tH c N s) ≤ 122 then 1 else 0 := q_in (lo := 97) (hi := 122) (by omega) (by decide) (by decide)
    have wi2 : f_X4_in (nI (c (tH c N s))).toInt64 (48 : Int64) (57 : Int64) = if 48 ≤ c (tH c N s) ∧ c (tH c N s) ≤ 57 then 1 else 0 := q_in (lo := 48) (hi := 57) (by omega) (by decide) (by decide)
    rw [if_pos (show tH c N s < N by omega), if_neg n4, wi1, wi2]
    by_cases d1 : 97 ≤ c (tH c N s) ∧ c (tH c N s) ≤ 122
    · have k1 : tK c N s = 1 := by unfold tK; rw [if_neg d0, if_pos d1]
      have hB : tB c N s = false := by unfold tB; rw [k1]; rfl
      have eE : tE c N s = m_rn c 97 122 (N - tH c N s) (tH c N s) := by unfold tE; rw [if_neg (by omega), if_pos k1]
      have g := q_name (c := c) (fun w25 => some (zup w25 56 24 1)) (N - tH c N s) (tH c N s) fu W (by omega) (by omega) hQ
      rw [zup_id w22, ← eE] at g
      rw [if_pos d1, if_neg n10, g, hB]
      exact ⟨_, rfl, ⟨w23, rfl, by rw [k1]; rfl, fun q => by omega⟩, (hF.tr (QF.u _ _ (by decide))).tr (QF.u _ _ (by decide)), fun _ => w20, fun q => absurd q Bool.false_ne_true⟩
    · rw [if_neg d1, if_pos rfl]
      by_cases d2 : 48 ≤ c (tH c N s) ∧ c (tH c N s) ≤ 57
      · have k2 : tK c N s = 2 := by unfold tK; rw [if_neg d0, if_neg d1, if_pos d2]
        have eE : tE c N s = m_rn c 48 57 (N - tH c N s) (tH c N s) := by unfold tE; rw [if_neg (by omega), if_neg (by omega), if_pos k2]
        have hlen := (b3 (by omega)).2
        have hb1 : nI (tE c N s) - nI (tH c N s) = nI (tE c N s - tH c N s) := zsub_nI (by omega)
        have c2 : nI (tE c N s - tH c N s) ≤ 2 ↔ tE c N s - tH c N s ≤ 2 := nI_leI (b := 2) (by omega) (by decide)
        have g := q_numb (c := c) (H := tH c N s) (fun w13 => if zup w13 56 24 2 56 22 - zup w13 56 24 2 56 23 ≤ 2 then some (zup w13 56 24 2) else zbd (f_X4_fails (zup w13 56 24 2) 1) fun w16 => some w16) (N - tH c N s) (tH c N s) fu W (by omega) (by omega) hQ w23 (Nat.le_refl _) (fun q a b => absurd a (by omega))
        rw [Nat.sub_self, show m_nv c (tH c N s) 0 = 0 from rfl, zup_id (show W 56 25 = nI 0 from w25), zup_id w22, ← eE, show m_nv c (tH c N s) (tE c N s - tH c N s) = tV c N s from rfl] at g
        rw [if_pos d2, if_neg n10, g]
        generalize hX : zup (zup (zup W 56 25 (nI (tV c N s))) 56 22 (nI (tE c N s))) 56 24 2 = X
        have x22 : X 56 22 = nI (tE c N s) := by rw [← hX]; rfl
        have x23 : X 56 23 = nI (tH c N s) := by rw [← hX]; exact w23
        have x24 : X 56 24 = nI (tK c N s) := by rw [← hX, k2]; rfl
        have x25 : X 56 25 = nI (tV c N s) := by rw [← hX]; rfl
        have x20 : X 56 20 = 0 := by rw [← hX]; exact w20
        have xF : QF w X := by rw [← hX]; exact ((hF.tr (QF.u _ _ (by decide))).tr (QF.u _ _ (by decide))).tr (QF.u _ _ (by decide))
        rw [x22, x23, hb1]
        by_cases d3 : tE c N s - tH c N s ≤ 2
        · have hB : tB c N s = false := by unfold tB; rw [k2, decide_eq_false (show ¬ 2 < tE c N s - tH c N s by omega)]; rfl
          rw [if_pos (c2.mpr d3), hB]
          exact ⟨X, rfl, ⟨x23, x22, x24, fun _ => x25⟩, xF, fun _ => x20, fun q => absurd q Bool.false_ne_true⟩
        · have hB : tB c N s = true := by unfold tB; rw [k2, decide_eq_true (show 2 < tE c N s - tH c N s by omega)]; rfl
          rw [if_neg (fun q => d3 (c2.mp q)), hB, q_fails0 x20, zbds]
          exact ⟨_, rfl, ⟨x23, x22, x24, fun _ => x25⟩, (xF.tr (QF.u _ _ (by decide))).tr (QF.u _ _ (by decide)), fun q => absurd q.symm Bool.false_ne_true, fun _ => ⟨rfl, x23⟩⟩
      · have k3 : tK c N s = 3 := by unfold tK; rw [if_neg d0, if_neg d1, if_neg d2]
        have eE : tE c N s = tH c N s + 1 := by unfold tE; rw [if_neg (by omega), if_neg (by omega), if_neg (by omega)]
        have c59 : nI (c (tH c N s)) = 59 ↔ c (tH c N s) = 59 := nI_eq (b := 59) (by omega) (by decide)
        rw [if_neg d2, if_pos rfl, show zup W 56 24 3 56 22 = nI (tH c N s) from w22, show nI (tH c N s) + 1 = nI (tE c N s) from by rw [eE]; exact nI_1 _]
        have ff : QF w (zup (zup W 56 24 3) 56 22 (nI (tE c N s))) := (hF.tr (QF.u _ _ (by decide))).tr (QF.u _ _ (by decide))
        by_cases d3 : c (tH c N s) = 59
        · have hB : tB c N s = false := by unfold tB; rw [k3, d3]; rfl
          rw [if_pos (c59.mpr d3), hB]
          exact ⟨_, rfl, ⟨w23, rfl, by rw [k3]; rfl, fun q => by omega⟩, ff, fun _ => w20, fun q => absurd q Bool.false_ne_true⟩
        · have hB : tB c N s = true := by unfold tB; rw [k3, decide_eq_true d3]; rfl
          rw [if_neg (fun q => d3 (c59.mp q)), hB, q_fails0 (show zup (zup W 56 24 3) 56 22 (nI (tE c N s)) 56 20 = 0 from w20), zbds]
          exact ⟨_, rfl, ⟨w23, rfl, by rw [k3]; rfl, fun q => by omega⟩, (ff.tr (QF.u _ _ (by decide))).tr (QF.u _ _ (by decide)), fun q => absurd q.symm Bool.false_ne_true, fun _ => ⟨rfl, w23⟩⟩
theorem q_stepN {w : zW} {k : Nat} (h : w 56 20 = nI k) (h0 : 0 < k) (hk : k < 2 ^ 31) : f_X4_step w = some w := by
  unfold f_X4_step
  rw [h, if_neg (nI_nle h0 hk)]
