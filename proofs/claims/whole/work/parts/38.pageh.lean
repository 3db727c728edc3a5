/-! the reference's hour -/
theorem zletE {α β : Type} (x : α) (f : α → β) : zlet x f = f x := id rfl
theorem zjn0E {β : Type} (f : β) (g : β → β) : zjn0 f g = g f := id rfl
theorem zjn1E {α1 β : Type} (f : α1 → β) (g : (α1 → β) → β) : zjn1 f g = g f := id rfl
theorem zjn2E {α1 α2 β : Type} (f : α1 → α2 → β) (g : (α1 → α2 → β) → β) : zjn2 f g = g f := id rfl
theorem q_allDrink {w : zW} {g fr : Nat} {P : zP} (h : PR w g fr P) (hO : Ok P) (h4 : fr + P 0 ≤ 4) (hg : g + 20 ≤ 120) (hh : P 4 < 2 ^ 30) (hn : 0 < P 0) : ∃ w', f_X4_allDrink w (nI g) = some w' ∧ PR w' g fr (m_drink P) ∧ FrM g w w' := by
  have h0 := hO.1.1
  have e8 : nI g + 8 = nI (g + 8) := nI_add g 8
  have e4 : nI g + 4 = nI (g + 4) := nI_add g 4
  have hz8 : zin (nI (g + 8)) 120 = true := zin_nI (by omega) (by decide)
  have key : ∀ (k t n : Nat) (w3 : zW), t + k = P 0 → k < n → PR w3 g fr (m_drinkN P (P 4 % P 0) t) → FrM g w w3 → ∃ w', zfix2 (b_X4_allDrink_13 (nI g) (nI (P 4 % P 0))) n (nI (t + 1)) w3 = some w' ∧ PR w' g fr (m_drink P) ∧ FrM g w w' := by
    intro k
    induction k with
    | zero =>
      intro t n w3 ht hk hc hf
      obtain ⟨n, rfl⟩ : ∃ m, n = m + 1 := ⟨n - 1, by omega⟩
      refine ⟨w3, ?_, ?_, hf⟩
      · show b_X4_allDrink_13 _ _ (zfix2 _ n) _ _ = _
        generalize zfix2 (b_X4_allDrink_13 (nI g) (nI (P 4 % P 0))) n = kk
        unfold b_X4_allDrink_13
        rw [hc.n, (m_drinkN_ok hO _ hn t).2.1.n, if_pos (nI_lt (by omega) (by omega))]
      · unfold m_drink
        rw [show P 0 = t by omega] at hc ⊢
        exact hc
    | succ k ih =>
      intro t n w3 ht hk hc hf
      obtain ⟨n, rfl⟩ : ∃ m, n = m + 1 := ⟨n - 1, by omega⟩
      obtain ⟨o1, o2, o3, o4⟩ := m_drinkN_ok hO (P 4 % P 0) hn t
      have hq0 : P 4 % P 0 < P 0 := Nat.mod_lt _ hn
      obtain ⟨p, hpe⟩ : ∃ p, p = (P 4 % P 0 + (t + 1)) % P 0 := ⟨_, rfl⟩
      have hpP : p < P 0 := by rw [hpe]; exact Nat.mod_lt _ hn
      have hih := ih (t + 1) n
      simp only [m_drinkN] at hih
      rw [← hpe] at hih
      generalize hQ : m_drinkN P (P 4 % P 0) t = Q at hc o1 o2 o3 o4 hih
      have hp : p < Q 0 := by rw [o2.n]; exact hpP
      have hQ0 := o2.n
      have h4' : fr + Q 0 ≤ 4 := by rw [hQ0]; exact h4
      have hg0 := m_give_lt Q hp
      have hgl := (o1.2.1 _ hg0).2.2.2
      have hb5 := o1.1.2.2.2.2.1
      have hzT : zin (nI (g + 4 + (fr + m_give Q p))) 120 = true := zin_nI (by omega) (by decide)
      have hxT : zx (nI (g + 4 + (fr + m_give Q p))) = g + 4 + (fr + m_give Q p) := zxI (by omega)
      have hx8 : zx (nI (g + 8)) = g + 8 := zxI (by omega)
      have hw : m_want Q p < 2 ^ 31 := by
        unfold m_want
        repeat' split
        all_goals omega
      by_cases d0 : Q (30 + p) = 0
      · obtain ⟨w', e1, e2, e3⟩ := hih w3 (by omega) (by omega) (by unfold m_drink1; rw [if_pos d0]; exact hc) hf
        refine ⟨w', ?_, e2, e3⟩
        show b_X4_allDrink_13 _ _ (zfix2 _ n) _ _ = _
        generalize zfix2 (b_X4_allDrink_13 (nI g) (nI (P 4 % P 0))) n = kk at e1 ⊢
        unfold b_X4_allDrink_13
        simp only [zlet, zjn1]
        rw [hc.n, hc.fr, hQ0, if_neg (nI_nlt (by omega) (by omega)), zgt (by simp [znz]; exact nI_ne0 hn (by omega)), nI_add, zrem_nI (by omega) hn (by omega), ← hpe, nI_add, q_isDown hc o1 h4' hg hp, zbds, if_pos d0, if_neg (by decide), show nI (t + 1) + 1 = nI (t + 1 + 1) from nI_1 _]
        exact e1
      · obtain ⟨c, hce⟩ : ∃ c, c = m_caps Q p := ⟨_, rfl⟩
        have hc5 : c ≤ Q 5 := by rw [hce]; unfold m_caps; omega
        obtain ⟨w', e1, e2, e3⟩ := hih (zup (zup w3 57 (g + 4 + (fr + m_give Q p)) (nI (Q (30 + m_give Q p) + c))) 57 (g + 8) (nI (Q 5 - c))) (by omega) (by omega) (by
            unfold m_drink1
            rw [if_neg d0, ← hce]
            have hPR := hc.fl h4' o1.1.2.1 hg0 (Q (30 + m_give Q p) + c)
            have hO2 : Ok (pu Q (30 + m_give Q p) (Q (30 + m_give Q p) + c)) := o1.lev hg0 (by rw [hce]; unfold m_caps; omega)
            exact hPR.f0 (by rw [pu_n _ _ (by omega)]; exact h4') hO2.1.2.1 8 5 _ (by omega)) ((hf.tr (FrM.up _ _ (by omega))).tr (FrM.up _ _ (by omega)))
        refine ⟨w', ?_, e2, e3⟩
        show b_X4_allDrink_13 _ _ (zfix2 _ n) _ _ = _
        generalize zfix2 (b_X4_allDrink_13 (nI g) (nI (P 4 % P 0))) n = kk at e1 ⊢
        unfold b_X4_allDrink_13
        simp only [zlet, zjn1]
        rw [hc.n, hc.fr, hQ0, if_neg (nI_nlt (by omega) (by omega)), zgt (by simp [znz]; exact nI_ne0 hn (by omega)), nI_add, zrem_nI (by omega) hn (by omega), ← hpe, nI_add, q_isDown hc o1 h4' hg hp, zbds, if_neg d0, if_pos rfl, q_givesTo hc o1 h4' hg hp, zbds, q_wantOf hc o1 h4' hg (by rw [o3]; exact hh) hp, zbds, e4, e8, nI_add]
        simp only [hzT, hz8, zgT, hxT, hx8]
        rw [hc.lv hg0, hc.bt, show (20 : Int32) = nI 20 from rfl, zsub_nI hgl, show nI (t + 1) + 1 = nI (t + 1 + 1) from nI_1 _]
        have r8 : ∀ x, zup w3 57 (g + 4 + (fr + m_give Q p)) x 57 (g + 8) = nI (Q 5) := fun x => by rw [zup_s, upd_n _ _ (by omega), hc.bt]
        simp only [r8]
        have c1 : nI (20 - Q (30 + m_give Q p)) ≤ nI (m_want Q p) ↔ 20 - Q (30 + m_give Q p) ≤ m_want Q p := nI_leI (by omega) hw
        have c2 : ∀ v, v < 2 ^ 31 → (nI (Q 5) ≤ nI v ↔ Q 5 ≤ v) := fun v hv => nI_leI (by omega) hv
        have fin : ∀ v, v = c → kk (nI (t + 1 + 1)) (zup (zup w3 57 (g + 4 + (fr + m_give Q p)) (nI (Q (30 + m_give Q p)) + nI v)) 57 (g + 8) (nI (Q 5) - nI v)) = some w' := by
          intro v hv
          rw [hv, nI_add, zsub_nI hc5]
          exact e1
        by_cases d1 : 20 - Q (30 + m_give Q p) ≤ m_want Q p
        · rw [if_pos (c1.mpr d1)]
          by_cases d2 : Q 5 ≤ 20 - Q (30 + m_give Q p)
          · rw [if_pos ((c2 _ (by omega)).mpr d2)]
            exact fin _ (by rw [hce]; unfold m_caps; omega)
          · rw [if_neg (fun q => d2 ((c2 _ (by omega)).mp q))]
            exact fin _ (by rw [hce]; unfold m_caps; omega)
        · rw [if_neg (fun q => d1 (c1.mp q))]
          by_cases d2 : Q 5 ≤ m_want Q p
          · rw [if_pos ((c2 _ hw).mpr d2)]
            exact fin _ (by rw [hce]; unfold m_caps; omega)
          · rw [if_neg (fun q => d2 ((c2 _ hw).mp q))]
            exact fin _ (by rw [hce]; unfold m_caps; omega)
  obtain ⟨w', e1, e2, e3⟩ := key (P 0) 0 100000 w (by omega) (by omega) h FrM.rf
  refine ⟨w', ?_, e2, e3⟩
  unfold f_X4_allDrink
  simp only [zlet]
  rw [q_pourer h hO h4 hg hh hn, zbds, h.fr, zsub_nI (by omega), show fr + P 4 % P 0 - fr = P 4 % P 0 by omega]
  exact e1
theorem q_walksOn {w : zW} {g fr : Nat} {P : zP} (h : PR w g fr P) (hO : Ok P) (h4 : fr + P 0 ≤ 4) (hg : g + 20 ≤ 120) (hh : P 4 < 2 ^ 30) (hgo : P 3 < P 2) : ∃ w', f_X4_walksOn w (nI g) = some w' ∧ PR w' g fr (m_walk P) ∧ FrM g w w' := by
  have h1 := hO.1.2.1
  have h2 := hO.1.2.2.1
  have hst := m_step_le P
  have hO3 : Ok (pu P 3 (P 3 + m_step P)) := hO.mile (by omega)
  have hP1 : pu P 3 (P 3 + m_step P) 1 = P 1 := pu_n _ _ (by decide)
  have hP0 : pu P 3 (P 3 + m_step P) 0 = P 0 := pu_n _ _ (by decide)
  have e9 : nI g + 9 = nI (g + 9) := nI_add g 9
  have e14 : nI g + 14 = nI (g + 14) := nI_add g 14
  have e4 : nI g + 4 = nI (g + 4) := nI_add g 4
  have hz9 : zin (nI (g + 9)) 120 = true := zin_nI (by omega) (by decide)
  have hx9 : zx (nI (g + 9)) = g + 9 := zxI (by omega)
  have e10 : ((1 : Int32) = 0) = False := eq_false (by decide)
  have key : ∀ (k t n : Nat) (w3 : zW), t + k = P 1 → k < n → PR w3 g fr (m_wellN (pu P 3 (P 3 + m_step P)) (P 3) t) → FrM g w w3 → ∃ w', zfix2 (b_X4_walksOn_93 (nI g) (nI (P 3))) n (nI t) w3 = some w' ∧ PR w' g fr (m_walk P) ∧ FrM g w w' := by
    intro k
    induction k with
    | zero =>
      intro t n w3 ht hk hc hf
      obtain ⟨n, rfl⟩ : ∃ m, n = m + 1 := ⟨n - 1, by omega⟩
      obtain ⟨-, o2, -⟩ := m_wellN_ok hO3 (P 3) t (by omega)
      refine ⟨w3, ?_, ?_, hf⟩
      · show b_X4_walksOn_93 _ _ (zfix2 _ n) _ _ = _
        generalize zfix2 (b_X4_walksOn_93 (nI g) (nI (P 3))) n = kk
        unfold b_X4_walksOn_93
        rw [hc.wl, o2.wl, hP1, if_pos (nI_le (by omega) (by omega))]
      · unfold m_walk
        rw [show P 1 = t by omega]
        exact hc
    | succ k ih =>
      intro t n w3 ht hk hc hf
      obtain ⟨n, rfl⟩ : ∃ m, n = m + 1 := ⟨n - 1, by omega⟩
      obtain ⟨o1, o2, o3, o4⟩ := m_wellN_ok hO3 (P 3) t (by omega)
      have hwl := o2.wl
      rw [hP1] at hwl
      have hpl := o2.n
      rw [hP0] at hpl
      have ht1 : t < m_wellN (pu P 3 (P 3 + m_step P)) (P 3) t 1 := by rw [hwl]; omega
      have hih := ih (t + 1) n
      simp only [m_wellN] at hih
      generalize m_wellN (pu P 3 (P 3 + m_step P)) (P 3) t = Q at hc o1 o2 o3 o4 hwl hpl ht1 hih
      obtain ⟨q1, q2, q3, q4, q5, q6⟩ := o1.2.2 t ht1
      have q7 := o1.1.2.2.2.1
      have h4' : fr + Q 0 ≤ 4 := by rw [hpl]; exact h4
      have m2 : (2 : Int32) * nI t = nI (2 * t) := pk_mul 2 t
      have m3 : nI (2 * t) + 1 = nI (2 * t + 1) := nI_1 _
      have hz2 : zin (nI (2 * t)) 6 = true := zin_nI (by omega) (by decide)
      have hz3 : zin (nI (2 * t + 1)) 6 = true := zin_nI (by omega) (by decide)
      have hzD : zin (nI (g + 14 + t)) 120 = true := zin_nI (by omega) (by decide)
      have hx2 : zx (nI (2 * t)) = 2 * t := zxI (by omega)
      have hx3 : zx (nI (2 * t + 1)) = 2 * t + 1 := zxI (by omega)
      have hxD : zx (nI (g + 14 + t)) = g + 14 + t := zxI (by omega)
      have cw : nI (1 - Q (70 + t)) = 0 ↔ Q (70 + t) = 1 := (zeq0 (by omega)).trans (by omega)
      have cl : nI (Q (40 + t)) ≤ nI (P 3) ↔ Q (40 + t) ≤ P 3 := nI_leI (by omega) (by omega)
      have cg : nI (Q 3) < nI (Q (40 + t)) ↔ Q 3 < Q (40 + t) := nI_ltI (by omega) (by omega)
      by_cases hcond : Q (70 + t) = 1 ∧ P 3 < Q (40 + t) ∧ Q (40 + t) ≤ Q 3
      · obtain ⟨w4, e5, c4, f4⟩ := q_fillsOn hc o1 h4' hg (c := Q (60 + t)) (by omega)
        obtain ⟨w', e1, e2, e3⟩ := hih (zup w4 57 (g + 14 + t) (nI (1 - 0))) (by omega) (by omega) (by
          unfold m_well1
          rw [if_pos hcond]
          have o5 := m_fill_fix Q (Q (60 + t))
          exact c4.fw (by rw [o5.n]; exact h4') (by rw [o5.wl]; exact o1.1.2.1) (by rw [o5.wl]; exact ht1) 0) ((hf.tr f4).tr (FrM.up _ _ (by omega)))
        refine ⟨w', ?_, e2, e3⟩
        show b_X4_walksOn_93 _ _ (zfix2 _ n) _ _ = _
        generalize zfix2 (b_X4_walksOn_93 (nI g) (nI (P 3))) n = kk at e1 ⊢
        unfold b_X4_walksOn_93
        simp only [zjn1, zlet]
        rw [hc.wl, hwl, if_neg (nI_ge (by omega) (by omega)), m2, m3, e9, e14, nI_add]
        simp only [hz2, hz3, hz9, hzD, zgT, hx2, hx3, hx9, hxD]
        rw [hc.w7 ht1, hc.w4 ht1, hc.w6 ht1, hc.ml, if_neg (fun q => absurd (cl.mp q) (by omega)), if_neg (fun q => absurd (cg.mp q) (by omega)), if_pos (cw.mpr hcond.1), e5, zbds, show nI t + 1 = nI (t + 1) from nI_1 _]
        exact e1
      · obtain ⟨w', e1, e2, e3⟩ := hih w3 (by omega) (by omega) (by
          unfold m_well1
          rw [if_neg hcond]
          exact hc) hf
        refine ⟨w', ?_, e2, e3⟩
        show b_X4_walksOn_93 _ _ (zfix2 _ n) _ _ = _
        generalize zfix2 (b_X4_walksOn_93 (nI g) (nI (P 3))) n = kk at e1 ⊢
        unfold b_X4_walksOn_93
        simp only [zjn1, zlet]
        rw [hc.wl, hwl, if_neg (nI_ge (by omega) (by omega)), m2, m3, e9, e14, nI_add]
        simp only [hz2, hz3, hz9, hzD, zgT, hx2, hx3, hx9, hxD]
        rw [hc.w7 ht1, hc.w4 ht1, hc.w6 ht1, hc.ml, show nI t + 1 = nI (t + 1) from nI_1 _]
        by_cases d2 : Q (40 + t) ≤ P 3
        · rw [if_pos (cl.mpr d2)]; exact e1
        · rw [if_neg (fun q => d2 (cl.mp q))]
          by_cases d3 : Q 3 < Q (40 + t)
          · rw [if_pos (cg.mpr d3)]; exact e1
          · rw [if_neg (fun q => d3 (cg.mp q)), if_neg (fun q => absurd (cw.mp q) (by omega))]; exact e1
  obtain ⟨w', e1, e2, e3⟩ := key (P 1) 0 100000 (zup w 57 (g + 9) (nI (P 3 + m_step P))) (by omega) (by omega) (h.f0 h4 h1 9 3 _ (by omega)) (FrM.up _ _ (by omega))
  have slow : ∀ (k i n : Nat) (j : Int32 → Option zW), i + k = P 0 → k < n → zfix2 (b_X4_walksOn_7 w (nI g) j) n (zbi (m_weakN P i)) (nI (fr + i)) = j (zbi (m_weak P)) := by
    intro k
    induction k with
    | zero =>
      intro i n j hi hn
      obtain ⟨n, rfl⟩ : ∃ m, n = m + 1 := ⟨n - 1, by omega⟩
      show b_X4_walksOn_7 w _ _ (zfix2 _ n) _ _ = _
      generalize zfix2 (b_X4_walksOn_7 w (nI g) j) n = kk
      unfold b_X4_walksOn_7
      rw [h.fr, h.n, nI_add, if_pos (nI_le (by omega) (by omega))]
      unfold m_weak
      rw [show i = P 0 by omega]
    | succ k ih =>
      intro i n j hi hn
      obtain ⟨n, rfl⟩ : ∃ m, n = m + 1 := ⟨n - 1, by omega⟩
      have hl := (hO.2.1 i (by omega)).2.2.2
      have h1 := ih (i + 1) n j (by omega) (by omega)
      show b_X4_walksOn_7 w _ _ (zfix2 _ n) _ _ = _
      generalize zfix2 (b_X4_walksOn_7 w (nI g) j) n = kk at h1 ⊢
      unfold b_X4_walksOn_7
      simp only [zjn1, zlet]
      rw [h.fr, h.n, nI_add, if_neg (nI_ge (by omega) (by omega)), e4, nI_add, zgt (zin_nI (by omega) (by decide)), zxI (by omega), h.lv (show i < P 0 by omega), show nI (fr + i) + 1 = nI (fr + (i + 1)) from nI_1 _, show (1 : Int64) = (nI 1).toInt64 from rfl, show (5 : Int64) = (nI 5).toInt64 from rfl, in_within]
      by_cases c : 1 ≤ P (30 + i) ∧ P (30 + i) ≤ 5
      · rw [win_t c.1 c.2 (by decide), if_neg (by decide), show (1 : Int32) = zbi (m_weakN P (i + 1)) from by simp [m_weakN, c, zbi]]
        exact h1
      · rcases win_cases (nI (P (30 + i))) 1 5 (by decide) with d | ⟨-, p, p1, p2, e⟩ | d
        · rw [d, if_pos rfl, show zbi (m_weakN P i) = zbi (m_weakN P (i + 1)) from by
            have : (decide (1 ≤ P (30 + i)) && decide (P (30 + i) ≤ 5)) = false := by simp; omega
            simp [m_weakN, this]]
          exact h1
        · have := (nI_eq (by omega) (by omega)).mp e
          omega
        · omega
  refine ⟨w', ?_, e2, e3⟩
  unfold f_X4_walksOn
  simp only [zjn1E, zletE]
  rw [h.fr]
  have s0 : ∀ (n : Nat) (j : Int32 → Option zW), P 0 < n → zfix2 (b_X4_walksOn_7 w (nI g) j) n (0 : Int32) (nI fr) = j (zbi (m_weak P)) := fun n j hn => slow (P 0) 0 n j (by omega) hn
  have h0 := hO.1.1
  rw [s0 100000 _ (by omega), q_isDay h hg hh, e9]
  simp only [zbds, hz9, zgT, hx9]
  rw [h.ml]
  have q1 : (3 : Int32) - 0 = nI (3 - 0) := by decide
  have q2 : (3 : Int32) - 1 = nI (3 - 1) := by decide
  have q3 : (2 : Int32) - 0 = nI (2 - 0) := by decide
  have q4 : (2 : Int32) - 1 = nI (2 - 1) := by decide
  unfold m_step at e1
  unfold zbi
  generalize m_day P = d at e1 ⊢
  generalize m_weak P = k at e1 ⊢
  cases d <;> cases k <;> simp only [e10, Bool.false_eq_true, if_false, if_true, q1, q2, q3, q4, nI_add] at e1 ⊢ <;> exact e1
