/-! tokens of the tape -/
def m_rn (c : Nat → Nat) (lo hi : Nat) : Nat → Nat → Nat
  | 0, p => p
  | k + 1, p => if lo ≤ c p ∧ c p ≤ hi then m_rn c lo hi k (p + 1) else p
theorem m_rn_b (c : Nat → Nat) (lo hi : Nat) : ∀ k p, p ≤ m_rn c lo hi k p ∧ m_rn c lo hi k p ≤ p + k
  | 0, p => by simp only [m_rn]; omega
  | k + 1, p => by
    have := m_rn_b c lo hi k (p + 1)
    simp only [m_rn]
    split <;> omega
theorem m_rn_in (c : Nat → Nat) (lo hi : Nat) : ∀ k p q, p ≤ q → q < m_rn c lo hi k p → lo ≤ c q ∧ c q ≤ hi
  | 0, p, q, h1, h2 => by simp only [m_rn] at h2; omega
  | k + 1, p, q, h1, h2 => by
    simp only [m_rn] at h2
    split at h2
    · rename_i d
      by_cases e : q = p
      · subst e; exact d
      · exact m_rn_in c lo hi k (p + 1) q (by omega) h2
    · omega
def PT (c : Nat → Nat) (N : Nat) (w : zW) : Prop := N ≤ 160 ∧ (∀ i, i < N → c i ≤ 127 ∧ w 1 i = nI (c i)) ∧ w 42 2 = nI N
theorem PT.u {c : Nat → Nat} {N : Nat} {w : zW} (h : PT c N w) {j : Nat} (x : Int32) (hj : j ≠ 2) : PT c N (zup w 42 j x) := by
  obtain ⟨h1, h2, h3⟩ := h
  refine ⟨h1, fun i hi => ⟨(h2 i hi).1, by rw [zup_n _ _ _ (by decide)]; exact (h2 i hi).2⟩, ?_⟩
  rw [zup_s, upd_n _ _ (fun q => hj q.symm)]
  exact h3
def QT (c : Nat → Nat) (N : Nat) (w : zW) : Prop := N ≤ 160 ∧ (∀ i, i < N → c i ≤ 127 ∧ w 63 i = nI (c i)) ∧ w 56 18 = nI N
theorem QT.u {c : Nat → Nat} {N : Nat} {w : zW} (h : QT c N w) {j : Nat} (x : Int32) (hj : j ≠ 18) : QT c N (zup w 56 j x) := by
  obtain ⟨h1, h2, h3⟩ := h
  refine ⟨h1, fun i hi => ⟨(h2 i hi).1, by rw [zup_n _ _ _ (by decide)]; exact (h2 i hi).2⟩, ?_⟩
  rw [zup_s, upd_n _ _ (fun q => hj q.symm)]
  exact h3
theorem k_run {c : Nat → Nat} {N : Nat} {w : zW} (h : PT c N w) {lo hi p : Nat} (hlo : lo ≤ 127) (hhi : hi ≤ 127) (hp : p ≤ N) : f_X2_endOfRun w (nI p) (nI lo) (nI hi) = some (nI (m_rn c lo hi (N - p) p)) := by
  obtain ⟨h1, h2, h3⟩ := h
  have key : ∀ (k p n : Nat), p + k = N → k < n → zfix1 (b_X2_endOfRun_3 w (nI lo) (nI hi)) n (nI p) = some (nI (m_rn c lo hi k p)) := by
    intro k
    induction k with
    | zero =>
      intro p n hp hn
      obtain ⟨n, rfl⟩ : ∃ m, n = m + 1 := ⟨n - 1, by omega⟩
      show b_X2_endOfRun_3 _ _ _ (zfix1 _ n) _ = _
      generalize zfix1 (b_X2_endOfRun_3 w (nI lo) (nI hi)) n = kk
      unfold b_X2_endOfRun_3
      rw [h3, if_pos (nI_le (by omega) (by omega))]
      rfl
    | succ k ih =>
      intro p n hp hn
      obtain ⟨n, rfl⟩ : ∃ m, n = m + 1 := ⟨n - 1, by omega⟩
      have g1 := ih (p + 1) n (by omega) (by omega)
      obtain ⟨a1, a2⟩ := h2 p (by omega)
      have hz : zin (nI p) 160 = true := zin_nI (by omega) (by decide)
      have hx : zx (nI p) = p := zxI (by omega)
      have c1 : nI (c p) < nI lo ↔ c p < lo := nI_ltI (by omega) (by omega)
      have c2 : nI hi < nI (c p) ↔ hi < c p := nI_ltI (by omega) (by omega)
      show b_X2_endOfRun_3 _ _ _ (zfix1 _ n) _ = _
      generalize zfix1 (b_X2_endOfRun_3 w (nI lo) (nI hi)) n = kk at g1 ⊢
      unfold b_X2_endOfRun_3
      simp only [zletE, hz, zgTE, hx]
      rw [h3, if_neg (nI_ge (by omega) (by omega)), a2, show nI p + 1 = nI (p + 1) from nI_1 _, g1]
      simp only [m_rn]
      by_cases d1 : c p < lo
      · rw [if_pos (c1.mpr d1), if_neg (by omega)]
      · rw [if_neg (fun q => d1 (c1.mp q))]
        by_cases d2 : hi < c p
        · rw [if_pos (c2.mpr d2), if_neg (by omega)]
        · rw [if_neg (fun q => d2 (c2.mp q)), if_pos (by omega)]
  exact key (N - p) p 100000 (by omega) (by omega)
def tH (c : Nat → Nat) (N s : Nat) : Nat := m_rn c 32 32 (N - s) s
def tK (c : Nat → Nat) (N s : Nat) : Nat := if N ≤ tH c N s then 0 else if 97 ≤ c (tH c N s) ∧ c (tH c N s) ≤ 122 then 1 else if 48 ≤ c (tH c N s) ∧ c (tH c N s) ≤ 57 then 2 else 3
def tE (c : Nat → Nat) (N s : Nat) : Nat := if tK c N s = 0 then N else if tK c N s = 1 then m_rn c 97 122 (N - tH c N s) (tH c N s) else if tK c N s = 2 then m_rn c 48 57 (N - tH c N s) (tH c N s) else tH c N s + 1
def m_nv (c : Nat → Nat) (h r : Nat) : Nat := if r = 0 then 0 else if r = 1 then c h - 48 else 10 * (c h - 48) + (c (h + 1) - 48)
def tV (c : Nat → Nat) (N s : Nat) : Nat := m_nv c (tH c N s) (tE c N s - tH c N s)
def tB (c : Nat → Nat) (N s : Nat) : Bool := (decide (tK c N s = 2) && decide (2 < tE c N s - tH c N s)) || (decide (tK c N s = 3) && decide (c (tH c N s) ≠ 59))
theorem m_rn_1 (c : Nat → Nat) {lo hi k p : Nat} (hk : 0 < k) (h : lo ≤ c p ∧ c p ≤ hi) : p + 1 ≤ m_rn c lo hi k p := by
  obtain ⟨k, rfl⟩ : ∃ m, k = m + 1 := ⟨k - 1, by omega⟩
  simp only [m_rn]
  rw [if_pos h]
  exact (m_rn_b c lo hi k (p + 1)).1
theorem t_b (c : Nat → Nat) {N s : Nat} (hs : s ≤ N) : s ≤ tH c N s ∧ tH c N s ≤ N ∧ (tK c N s ≠ 0 → tH c N s < N ∧ tH c N s < tE c N s) ∧ tE c N s ≤ N ∧ tK c N s ≤ 3 ∧ (tK c N s = 0 → tH c N s = N ∧ tE c N s = N) := by
  have h1 := m_rn_b c 32 32 (N - s) s
  have h2 := m_rn_b c 97 122 (N - tH c N s) (tH c N s)
  have h3 := m_rn_b c 48 57 (N - tH c N s) (tH c N s)
  have e1 : tH c N s = m_rn c 32 32 (N - s) s := rfl
  rw [← e1] at h1
  by_cases d0 : N ≤ tH c N s
  · have k0 : tK c N s = 0 := by unfold tK; rw [if_pos d0]
    have e0 : tE c N s = N := by unfold tE; rw [if_pos k0]
    exact ⟨h1.1, by omega, fun q => absurd k0 q, by omega, by omega, fun _ => ⟨by omega, e0⟩⟩
  · by_cases d1 : 97 ≤ c (tH c N s) ∧ c (tH c N s) ≤ 122
    · have k1 : tK c N s = 1 := by unfold tK; rw [if_neg d0, if_pos d1]
      have e0 : tE c N s = m_rn c 97 122 (N - tH c N s) (tH c N s) := by unfold tE; rw [if_neg (by omega), if_pos k1]
      have := m_rn_1 c (k := N - tH c N s) (by omega) d1
      exact ⟨h1.1, by omega, fun _ => ⟨by omega, by omega⟩, by omega, by omega, fun q => by omega⟩
    · by_cases d2 : 48 ≤ c (tH c N s) ∧ c (tH c N s) ≤ 57
      · have k2 : tK c N s = 2 := by unfold tK; rw [if_neg d0, if_neg d1, if_pos d2]
        have e0 : tE c N s = m_rn c 48 57 (N - tH c N s) (tH c N s) := by unfold tE; rw [if_neg (by omega), if_neg (by omega), if_pos k2]
        have := m_rn_1 c (k := N - tH c N s) (by omega) d2
        exact ⟨h1.1, by omega, fun _ => ⟨by omega, by omega⟩, by omega, by omega, fun q => by omega⟩
      · have k3 : tK c N s = 3 := by unfold tK; rw [if_neg d0, if_neg d1, if_neg d2]
        have e0 : tE c N s = tH c N s + 1 := by unfold tE; rw [if_neg (by omega), if_neg (by omega), if_neg (by omega)]
        exact ⟨h1.1, by omega, fun _ => ⟨by omega, by omega⟩, by omega, by omega, fun q => by omega⟩
/-- the program's token, the reference's -/
def PC (c : Nat → Nat) (N s : Nat) (w : zW) : Prop := w 42 4 = nI (tH c N s) ∧ w 42 5 = nI (tE c N s) ∧ w 42 3 = nI (tK c N s) ∧ (tK c N s = 2 → w 42 6 = nI (tV c N s))
def QC (c : Nat → Nat) (N s : Nat) (w : zW) : Prop := w 56 23 = nI (tH c N s) ∧ w 56 22 = nI (tE c N s) ∧ w 56 24 = nI (tK c N s) ∧ (tK c N s = 2 → w 56 25 = nI (tV c N s))
def PF (w w' : zW) : Prop := (∀ k, k ≠ 42 → w' k = w k) ∧ ∀ j, j ≠ 3 → j ≠ 4 → j ≠ 5 → j ≠ 6 → j ≠ 10 → j ≠ 11 → w' 42 j = w 42 j
def QF (w w' : zW) : Prop := (∀ k, k ≠ 56 → w' k = w k) ∧ ∀ j, j < 20 ∨ 25 < j → w' 56 j = w 56 j
theorem PF.rf {w : zW} : PF w w := ⟨fun _ _ => rfl, fun _ _ _ _ _ _ _ => rfl⟩
theorem PF.tr {w w1 w2 : zW} (h : PF w w1) (g : PF w1 w2) : PF w w2 := ⟨fun k a => (g.1 k a).trans (h.1 k a), fun j a b c d e f => (g.2 j a b c d e f).trans (h.2 j a b c d e f)⟩
theorem QF.rf {w : zW} : QF w w := ⟨fun _ _ => rfl, fun _ _ => rfl⟩
theorem QF.tr {w w1 w2 : zW} (h : QF w w1) (g : QF w1 w2) : QF w w2 := ⟨fun k a => (g.1 k a).trans (h.1 k a), fun j a => (g.2 j a).trans (h.2 j a)⟩
theorem PF.u (w : zW) {j : Nat} (x : Int32) (hj : j = 3 ∨ j = 4 ∨ j = 5 ∨ j = 6 ∨ j = 10 ∨ j = 11) : PF w (zup w 42 j x) := ⟨fun k a => zup_n w j x a, fun i a b c d e f => by rw [zup_s, upd_n _ _ (by omega)]⟩
theorem QF.u (w : zW) {j : Nat} (x : Int32) (hj : 20 ≤ j ∧ j ≤ 25) : QF w (zup w 56 j x) := ⟨fun k a => zup_n w j x a, fun i a => by rw [zup_s, upd_n _ _ (by omega)]⟩
theorem PT.f {c : Nat → Nat} {N : Nat} {w w' : zW} (h : PT c N w) (hf : PF w w') : PT c N w' := by
  obtain ⟨h1, h2, h3⟩ := h
  refine ⟨h1, fun i hi => ?_, ?_⟩
  · rw [hf.1 1 (by decide)]; exact h2 i hi
  · rw [hf.2 2 (by decide) (by decide) (by decide) (by decide) (by decide) (by decide)]; exact h3
theorem QT.f {c : Nat → Nat} {N : Nat} {w w' : zW} (h : QT c N w) (hf : QF w w') : QT c N w' := by
  obtain ⟨h1, h2, h3⟩ := h
  refine ⟨h1, fun i hi => ?_, ?_⟩
  · rw [hf.1 63 (by decide)]; exact h2 i hi
  · rw [hf.2 18 (by decide)]; exact h3
theorem win_if {x lo hi : Nat} (hx : x < 2 ^ 31) (hlo : lo < 2 ^ 31) (hh : hi < 2 ^ 31) : f_X3_within (nI x) (nI lo) (nI hi) = if lo ≤ x ∧ x ≤ hi then 1 else 0 := by
  rw [within_eq]
  by_cases d : lo ≤ x ∧ x ≤ hi
  · rw [if_pos d, if_pos ⟨nI_le d.1 hx, nI_le d.2 hh⟩]
  · rw [if_neg d, if_neg (fun q => d ⟨(nI_leI hlo hx).mp q.1, (nI_leI hx hh).mp q.2⟩)]
theorem k_fail (w : zW) (a b : Int32) : f_X2_fail w a b = some (0, zup (zup w 42 10 a) 42 11 b) := rfl
theorem k_next {c : Nat → Nat} {N s : Nat} {w : zW} (h : PT c N w) (hs : s ≤ N) (h5 : w 42 5 = nI s) : ∃ w', f_X2_nextToken w = some (zbi (!tB c N s), w') ∧ PC c N s w' ∧ PF w w' ∧ (tB c N s = false → w' 42 10 = w 42 10 ∧ w' 42 11 = w 42 11) ∧ (tB c N s = true → w' 42 10 = 1 ∧ w' 42 11 = nI (tH c N s)) := by
  obtain ⟨h1, h2, h3⟩ := id h
  obtain ⟨b1, b2, b3, b4, b5, b6⟩ := t_b c hs
  have e1 : f_X2_endOfRun w (nI s) 32 32 = some (nI (tH c N s)) := k_run (lo := 32) (hi := 32) h (by decide) (by decide) hs
  have hw3 : PT c N (zup (zup w 42 4 (nI (tH c N s))) 42 5 (nI N)) := (h.u _ (by decide)).u _ (by decide)
  have f3 : PF w (zup (zup w 42 4 (nI (tH c N s))) 42 5 (nI N)) := (PF.u w _ (by decide)).tr (PF.u _ _ (by decide))
  have hlt : nI (tH c N s) < nI N ↔ tH c N s < N := nI_ltI (by omega) (by omega)
  have eV : m_nv c (tH c N s) (tE c N s - tH c N s) = tV c N s := rfl
  unfold f_X2_nextToken
  simp only [zletE, zjn1E, k_fail]
  rw [h5, e1, zbds, show zup w 42 4 (nI (tH c N s)) 42 2 = nI N from h3]
  rw [show zup (zup w 42 4 (nI (tH c N s))) 42 5 (nI N) 42 4 = nI (tH c N s) from rfl, show zup (zup w 42 4 (nI (tH c N s))) 42 5 (nI N) 42 2 = nI N from h3]
  generalize hW : zup (zup w 42 4 (nI (tH c N s))) 42 5 (nI N) = W at hw3 f3
  have hW4 : W 42 4 = nI (tH c N s) := by rw [← hW]; rfl
  have hW5 : W 42 5 = nI N := by rw [← hW]; rfl
  have hW10 : W 42 10 = w 42 10 ∧ W 42 11 = w 42 11 := by rw [← hW]; exact ⟨rfl, rfl⟩
  by_cases d0 : N ≤ tH c N s
  · have k0 : tK c N s = 0 := by unfold tK; rw [if_pos d0]
    have hB : tB c N s = false := by unfold tB; rw [k0]; rfl
    rw [if_neg (fun q => absurd (hlt.mp q) (by omega)), hB]
    refine ⟨_, rfl, ⟨hW4, ?_, by rw [k0]; rfl, fun q => by omega⟩, f3.tr (PF.u _ _ (by decide)), fun _ => hW10, fun q => absurd q Bool.false_ne_true⟩
    rw [(b6 k0).2]
    exact hW5
  · have hz : zin (nI (tH c N s)) 160 = true := zin_nI (by omega) (by decide)
    have hx : zx (nI (tH c N s)) = tH c N s := zxI (by omega)
    obtain ⟨a1, a2⟩ := h2 (tH c N s) (by omega)
    have hW1 : W 1 (tH c N s) = nI (c (tH c N s)) := (hw3.2.1 _ (by omega)).2
    have wi1 : f_X3_within (nI (c (tH c N s))) 97 122 = if 97 ≤ c (tH c N s) ∧ c (tH c N s) ≤ 122 then 1 else 0 := by
      exact win_if (lo := 97) (hi := 122) (by omega) (by decide) (by decide)
    have wi2 : f_X3_within (nI (c (tH c N s))) 48 57 = if 48 ≤ c (tH c N s) ∧ c (tH c N s) ≤ 57 then 1 else 0 := by
      exact win_if (lo := 48) (hi := 57) (by omega) (by decide) (by decide)
    rw [if_pos (hlt.mpr (by omega)), zgt hz, hx, hW1, wi1, wi2]
    by_cases d1 : 97 ≤ c (tH c N s) ∧ c (tH c N s) ≤ 122
    · have k1 : tK c N s = 1 := by unfold tK; rw [if_neg d0, if_pos d1]
      have hB : tB c N s = false := by unfold tB; rw [k1]; rfl
      have eE : tE c N s = m_rn c 97 122 (N - tH c N s) (tH c N s) := by unfold tE; rw [if_neg (by omega), if_pos k1]
      have er : f_X2_endOfRun (zup W 42 3 1) (nI (tH c N s)) 97 122 = some (nI (tE c N s)) := by rw [eE]; exact k_run (lo := 97) (hi := 122) (hw3.u _ (by decide)) (by decide) (by decide) b2
      rw [if_pos d1, if_neg n10, show zup W 42 3 1 42 4 = nI (tH c N s) from hW4, er, zbds, hB]
      refine ⟨_, rfl, ⟨hW4, rfl, by rw [k1]; rfl, fun q => by omega⟩, (f3.tr (PF.u _ _ (by decide))).tr (PF.u _ _ (by decide)), fun _ => hW10, fun q => absurd q Bool.false_ne_true⟩
    · rw [if_neg d1, if_pos rfl]
      by_cases d2 : 48 ≤ c (tH c N s) ∧ c (tH c N s) ≤ 57
      · have k2 : tK c N s = 2 := by unfold tK; rw [if_neg d0, if_neg d1, if_pos d2]
        have eE : tE c N s = m_rn c 48 57 (N - tH c N s) (tH c N s) := by unfold tE; rw [if_neg (by omega), if_neg (by omega), if_pos k2]
        have er : f_X2_endOfRun (zup W 42 3 2) (nI (tH c N s)) 48 57 = some (nI (tE c N s)) := by rw [eE]; exact k_run (lo := 48) (hi := 57) (hw3.u _ (by decide)) (by decide) (by decide) b2
        have hlen := (b3 (by omega)).2
        have hb1 : nI (tE c N s) - nI (tH c N s) = nI (tE c N s - tH c N s) := zsub_nI (by omega)
        have c1 : nI (tE c N s - tH c N s) = 1 ↔ tE c N s - tH c N s = 1 := nI_eq (b := 1) (by omega) (by decide)
        have c2 : nI (tE c N s - tH c N s) ≤ 2 ↔ tE c N s - tH c N s ≤ 2 := nI_leI (b := 2) (by omega) (by decide)
        have v0 : nI (c (tH c N s)) - 48 = nI (c (tH c N s) - 48) := zsub_nI (b := 48) (by omega)
        rw [if_pos d2, if_neg n10, show zup W 42 3 2 42 4 = nI (tH c N s) from hW4, er, zbds]
        rw [show zup (zup W 42 3 2) 42 5 (nI (tE c N s)) 42 5 = nI (tE c N s) from rfl, show zup (zup W 42 3 2) 42 5 (nI (tE c N s)) 42 4 = nI (tH c N s) from hW4, hb1, v0, show nI (tH c N s) + 1 = nI (tH c N s + 1) from nI_1 _]
        have fin : ∀ w' : zW, w' = zup (zup (zup W 42 3 2) 42 5 (nI (tE c N s))) 42 6 (nI (tV c N s)) → ∃ w'', (if w' 42 5 - w' 42 4 ≤ 2 then some ((1 : Int32), w') else zbd2 (some ((0 : Int32), zup (zup w' 42 10 1) 42 11 (w' 42 4))) fun v24 w23 => if v24 = 0 then some (0, w23) else some (1, w23)) = some (zbi (!tB c N s), w'') ∧ PC c N s w'' ∧ PF w w'' ∧ (tB c N s = false → w'' 42 10 = w 42 10 ∧ w'' 42 11 = w 42 11) ∧ (tB c N s = true → w'' 42 10 = 1 ∧ w'' 42 11 = nI (tH c N s)) := by
          intro w' hw'
          have r4 : w' 42 4 = nI (tH c N s) := by rw [hw']; exact hW4
          have r5 : w' 42 5 = nI (tE c N s) := by rw [hw']; rfl
          have r3 : w' 42 3 = nI (tK c N s) := by rw [hw', k2]; rfl
          have r6 : w' 42 6 = nI (tV c N s) := by rw [hw']; rfl
          have rf : PF w w' := by rw [hw']; exact ((f3.tr (PF.u _ _ (by decide))).tr (PF.u _ _ (by decide))).tr (PF.u _ _ (by decide))
          have r10 : w' 42 10 = w 42 10 ∧ w' 42 11 = w 42 11 := by rw [hw']; exact hW10
          rw [r4, r5, hb1]
          by_cases d3 : tE c N s - tH c N s ≤ 2
          · have hB : tB c N s = false := by unfold tB; rw [k2, decide_eq_false (show ¬ 2 < tE c N s - tH c N s by omega)]; rfl
            rw [if_pos (c2.mpr d3), hB]
            exact ⟨w', rfl, ⟨r4, r5, r3, fun _ => r6⟩, rf, fun _ => r10, fun q => absurd q Bool.false_ne_true⟩
          · have hB : tB c N s = true := by unfold tB; rw [k2, decide_eq_true (show 2 < tE c N s - tH c N s by omega)]; rfl
            rw [if_neg (fun q => d3 (c2.mp q)), hB, zbd2s, if_pos rfl]
            exact ⟨_, rfl, ⟨r4, r5, r3, fun _ => r6⟩, (rf.tr (PF.u _ _ (by decide))).tr (PF.u _ _ (by decide)), fun q => absurd q.symm Bool.false_ne_true, fun _ => ⟨rfl, rfl⟩⟩
        by_cases d3 : tE c N s - tH c N s = 1
        · rw [if_pos (c1.mpr d3)]
          refine fin _ ?_
          rw [← eV]
          unfold m_nv
          rw [if_neg (by omega), if_pos d3]
        · have d4 : tH c N s + 1 < tE c N s := by omega
          have hd2 : 48 ≤ c (tH c N s + 1) ∧ c (tH c N s + 1) ≤ 57 := m_rn_in c 48 57 (N - tH c N s) (tH c N s) (tH c N s + 1) (by omega) (by rw [← eE]; exact d4)
          have hW2 : W 1 (tH c N s + 1) = nI (c (tH c N s + 1)) := (hw3.2.1 _ (by omega)).2
          rw [if_neg (fun q => d3 (c1.mp q)), zgt (zin_nI (by omega) (by decide)), zxI (by omega), show zup (zup W 42 3 2) 42 5 (nI (tE c N s)) 1 (tH c N s + 1) = nI (c (tH c N s + 1)) from hW2]
          refine fin _ ?_
          rw [← eV]
          unfold m_nv
          rw [if_neg (by omega), if_neg d3, show nI (c (tH c N s) - 48) * (10 : Int32) = nI ((c (tH c N s) - 48) * 10) from pk_mul _ 10, nI_add, show nI ((c (tH c N s) - 48) * 10 + c (tH c N s + 1)) - (48 : Int32) = nI ((c (tH c N s) - 48) * 10 + c (tH c N s + 1) - 48) from zsub_nI (b := 48) (by omega), show (c (tH c N s) - 48) * 10 + c (tH c N s + 1) - 48 = 10 * (c (tH c N s) - 48) + (c (tH c N s + 1) - 48) by omega]
      · have k3 : tK c N s = 3 := by unfold tK; rw [if_neg d0, if_neg d1, if_neg d2]
        have eE : tE c N s = tH c N s + 1 := by unfold tE; rw [if_neg (by omega), if_neg (by omega), if_neg (by omega)]
        have c59 : nI (c (tH c N s)) = 59 ↔ c (tH c N s) = 59 := nI_eq (b := 59) (by omega) (by decide)
        rw [if_neg d2, if_pos rfl, show zup W 42 3 3 42 4 = nI (tH c N s) from hW4, show nI (tH c N s) + 1 = nI (tE c N s) from by rw [eE]; exact nI_1 _]
        have ff : PF w (zup (zup W 42 3 3) 42 5 (nI (tE c N s))) := (f3.tr (PF.u _ _ (by decide))).tr (PF.u _ _ (by decide))
        by_cases d3 : c (tH c N s) = 59
        · have hB : tB c N s = false := by unfold tB; rw [k3, d3]; rfl
          rw [if_pos (c59.mpr d3), hB]
          exact ⟨_, rfl, ⟨hW4, rfl, by rw [k3]; rfl, fun q => by omega⟩, ff, fun _ => hW10, fun q => absurd q Bool.false_ne_true⟩
        · have hB : tB c N s = true := by unfold tB; rw [k3, decide_eq_true d3]; rfl
          rw [if_neg (fun q => d3 (c59.mp q)), hB, zbd2s, if_pos rfl, show zup (zup W 42 3 3) 42 5 (nI (tE c N s)) 42 4 = nI (tH c N s) from hW4]
          exact ⟨_, rfl, ⟨hW4, rfl, by rw [k3]; rfl, fun q => by omega⟩, (ff.tr (PF.u _ _ (by decide))).tr (PF.u _ _ (by decide)), fun q => absurd q.symm Bool.false_ne_true, fun _ => ⟨rfl, rfl⟩⟩
