/-! the camp's hour -/
theorem m_drink1_eq {Q : zP} {p c : Nat} (hc : c = min (if Q (30 + p) = 0 then 0 else m_want Q p) (min (20 - Q (30 + m_give Q p)) (Q 5))) : pu (pu Q (30 + m_give Q p) (Q (30 + m_give Q p) + c)) 5 (Q 5 - c) = m_drink1 Q p := by
  unfold m_drink1
  by_cases e : Q (30 + p) = 0
  · rw [if_pos e] at hc
    have h0 : c = 0 := by omega
    rw [if_pos e, h0, Nat.add_zero, Nat.sub_zero, pu_id, pu_id]
  · rw [if_neg e] at hc
    rw [if_neg e, show c = m_caps Q p from hc]
theorem k_drinkRound {w : zW} {b : Nat} {P : zP} (h : CR w b P) (hO : Ok P) (hh : P 4 < 2 ^ 30) (hn : 0 < P 0) : ∃ w', f_X0_drinkRound w b = some w' ∧ CR w' b (m_drink P) ∧ Fr b w w' := by
  have h0 := hO.1.1
  have key : ∀ (k t n : Nat) (w3 : zW), t + k = P 0 → k < n → CR w3 b (m_drinkN P (P 4 % P 0) t) → Fr b w w3 → ∃ w', zfix2 (b_X0_drinkRound_7 b (nI (P 4 % P 0))) n (nI (t + 1)) w3 = some w' ∧ CR w' b (m_drink P) ∧ Fr b w w' := by
    intro k
    induction k with
    | zero =>
      intro t n w3 ht hk hc hf
      obtain ⟨n, rfl⟩ : ∃ m, n = m + 1 := ⟨n - 1, by omega⟩
      refine ⟨w3, ?_, ?_, hf⟩
      · show b_X0_drinkRound_7 b _ (zfix2 _ n) _ _ = _
        generalize zfix2 (b_X0_drinkRound_7 b (nI (P 4 % P 0))) n = kk
        unfold b_X0_drinkRound_7
        rw [hc.n, (m_drinkN_ok hO _ hn t).2.1.n, if_pos (nI_lt (by omega) (by omega))]
      · unfold m_drink
        rw [show P 0 = t by omega] at hc ⊢
        exact hc
    | succ k ih =>
      intro t n w3 ht hk hc hf
      obtain ⟨n, rfl⟩ : ∃ m, n = m + 1 := ⟨n - 1, by omega⟩
      obtain ⟨o1, o2, o3, o4⟩ := m_drinkN_ok hO (P 4 % P 0) hn t
      have hq0 : P 4 % P 0 < P 0 := Nat.mod_lt _ hn
      obtain ⟨p, hpe⟩ : ∃ p, p = (P 4 % P 0 + (t + 1)) % P 0 := ⟨_, rfl⟩
      have hpP : p < P 0 := by rw [hpe]; exact Nat.mod_lt _ hn
      generalize hQ : m_drinkN P (P 4 % P 0) t = Q at hc o1 o2 o3 o4
      have hp : p < Q 0 := by rw [o2.n]; exact hpP
      have hg := m_give_lt Q hp
      have hgl := (o1.2.1 _ hg).2.2.2
      have hb5 := o1.1.2.2.2.2.1
      have hz : zin (nI (m_give Q p)) 4 = true := zin_nI (by rw [o2.n] at hg; omega) (by decide)
      have hzx : zx (nI (m_give Q p)) = m_give Q p := zxI (by rw [o2.n] at hg; omega)
      have hQ0 := o2.n
      obtain ⟨c, hce⟩ : ∃ c, c = min (if Q (30 + p) = 0 then 0 else m_want Q p) (min (20 - Q (30 + m_give Q p)) (Q 5)) := ⟨_, rfl⟩
      have hw : (if Q (30 + p) = 0 then 0 else m_want Q p) < 2 ^ 31 := by
        split
        · decide
        · unfold m_want
          repeat' split
          all_goals omega
      obtain ⟨w', e1, e2, e3⟩ := ih (t + 1) n (zup (zup w3 (b + 3) (m_give Q p) (nI (Q (30 + m_give Q p) + c))) b 9 (nI (Q 5 - c))) (by omega) (by omega) (by
          simp only [m_drinkN]
          rw [hQ, ← hpe, ← m_drink1_eq hce]
          exact (hc.fp (by rw [hQ0]; exact h0) 3 30 _ (by omega) hg).f0 9 5 _ (by omega)) ((hf.tr (Fr.up _ 3 _ _ (by decide))).tr (Fr.u0 _ _ _))
      refine ⟨w', ?_, e2, e3⟩
      show b_X0_drinkRound_7 b _ (zfix2 _ n) _ _ = _
      generalize zfix2 (b_X0_drinkRound_7 b (nI (P 4 % P 0))) n = kk at e1 ⊢
      unfold b_X0_drinkRound_7
      simp only [zlet]
      rw [hc.n, hQ0, if_neg (nI_nlt (by omega) (by omega)), zgt (by simp [znz]; exact nI_ne0 hn (by omega)), nI_add, zrem_nI (by omega) hn (by omega), ← hpe, k_drinkerFor hc o1 hp, zbds, k_wanted hc o1 (by rw [o3]; exact hh) hp, zbds]
      simp only [hz, zgT, hzx]
      rw [hc.lv hg, hc.bt, show (20 : Int32) = nI 20 from rfl, zsub_nI hgl, zmin_nI (by omega) (by omega), zmin_nI hw (by omega), ← hce, nI_add, zup_n _ _ _ (show b ≠ b + 3 by omega), hc.bt, zsub_nI (by omega), show nI (t + 1) + 1 = nI (t + 1 + 1) from nI_1 _]
      exact e1
  obtain ⟨w', e1, e2, e3⟩ := key (P 0) 0 100000 w (by omega) (by omega) h Fr.rf
  refine ⟨w', ?_, e2, e3⟩
  unfold f_X0_drinkRound
  rw [k_pourer h hO hh hn, zbds]
  exact e1
theorem m_loss_pu (P : zP) (wk : Bool) {n p : Nat} (hn : n ≤ P 0) (hO : Ok P) : m_loss (m_loseN P wk n) p wk = m_loss P p wk ∨ 4 ≤ p := by
  rcases Nat.lt_or_ge p 4 with hp | hp
  · left
    obtain ⟨-, o2, o3, -⟩ := m_loseN_ok hO wk n hn
    unfold m_loss m_more m_day
    rw [o3, (o2.2.1 p hp).2]
  · exact Or.inr hp
theorem k_loseWater {w : zW} {b : Nat} {P : zP} (h : CR w b P) (hO : Ok P) (hh : P 4 < 2 ^ 30) (wk : Bool) : ∃ w', f_X0_loseWater w b (zbi wk) = some w' ∧ CR w' b (m_lose P wk) ∧ Fr b w w' := by
  have h0 := hO.1.1
  have key : ∀ (k t n : Nat) (w3 : zW), t + k = P 0 → k < n → CR w3 b (m_loseN P wk t) → Fr b w w3 → ∃ w', zfix2 (b_X0_loseWater_2 b (zbi wk)) n (nI t) w3 = some w' ∧ CR w' b (m_lose P wk) ∧ Fr b w w' := by
    intro k
    induction k with
    | zero =>
      intro t n w3 ht hk hc hf
      obtain ⟨n, rfl⟩ : ∃ m, n = m + 1 := ⟨n - 1, by omega⟩
      obtain ⟨-, o2, -⟩ := m_loseN_ok hO wk t (by omega)
      refine ⟨w3, ?_, ?_, hf⟩
      · show b_X0_loseWater_2 b _ (zfix2 _ n) _ _ = _
        generalize zfix2 (b_X0_loseWater_2 b (zbi wk)) n = kk
        unfold b_X0_loseWater_2
        rw [hc.n, o2.n, if_pos (nI_le (by omega) (by omega))]
      · unfold m_lose
        rw [show P 0 = t by omega]
        exact hc
    | succ k ih =>
      intro t n w3 ht hk hc hf
      obtain ⟨n, rfl⟩ : ∃ m, n = m + 1 := ⟨n - 1, by omega⟩
      obtain ⟨o1, o2, o3, o4, o5, o6⟩ := m_loseN_ok hO wk t (by omega)
      have hp : t < m_loseN P wk t 0 := by rw [o2.n]; omega
      have hl := (hO.2.1 t (by omega)).2.2.2
      have hlt : m_loseN P wk t (30 + t) = P (30 + t) := o6 t (Nat.le_refl _)
      have hml : m_loss (m_loseN P wk t) t wk = m_loss P t wk := (m_loss_pu P wk (by omega) hO).resolve_right (by omega)
      have hmb : m_loss P t wk ≤ 3 := by
        unfold m_loss m_more
        repeat' split
        all_goals omega
      have hz : zin (nI t) 4 = true := zin_nI (by omega) (by decide)
      obtain ⟨w', e1, e2, e3⟩ := ih (t + 1) n (zup w3 (b + 3) t (nI (P (30 + t) - m_loss P t wk))) (by omega) (by omega) (hc.fp o1.1.1 3 30 _ (by omega) hp) (hf.tr (Fr.up _ 3 _ _ (by decide)))
      refine ⟨w', ?_, e2, e3⟩
      show b_X0_loseWater_2 b _ (zfix2 _ n) _ _ = _
      generalize zfix2 (b_X0_loseWater_2 b (zbi wk)) n = kk at e1 ⊢
      unfold b_X0_loseWater_2
      simp only [zlet]
      rw [hc.n, o2.n, if_neg (nI_ge (by omega) (by omega)), k_loss hc o1 (by rw [o3]; exact hh) hp, zbds, hlt, hml]
      simp only [hz, zgT]
      rw [zxI (by omega), hc.lv hp, hlt, show nI t + 1 = nI (t + 1) from nI_1 _]
      have hx : zmax 0 (nI (P (30 + t)) - nI (if P (30 + t) = 0 then 0 else m_loss P t wk)) = nI (P (30 + t) - m_loss P t wk) := by
        rw [zmax_sub (by omega) (by split <;> omega)]
        congr 1
        split <;> omega
      rw [hx]
      exact e1
  obtain ⟨w', e1, e2, e3⟩ := key (P 0) 0 100000 w (by omega) (by omega) h Fr.rf
  exact ⟨w', e1, e2, e3⟩
theorem k_weak {w : zW} {b : Nat} {P : zP} (h : CR w b P) (hO : Ok P) : f_X0_isSomeoneWeak w b = some (zbi (m_weak P)) := by
  have h0 := hO.1.1
  have up : ∀ k i, i + k = P 0 → m_weakN P i = true → m_weakN P (P 0) = true := by
    intro k
    induction k with
    | zero => intro i hi e; rw [← hi]; exact e
    | succ k ih => intro i hi e; exact ih (i + 1) (by omega) (by simp [m_weakN, e])
  have key : ∀ (k i n : Nat), i + k = P 0 → k < n → m_weakN P i = false → zfix1 (b_X0_isSomeoneWeak_2 w b) n (nI i) = some (zbi (m_weak P)) := by
    intro k
    induction k with
    | zero =>
      intro i n hi hn e
      obtain ⟨n, rfl⟩ : ∃ m, n = m + 1 := ⟨n - 1, by omega⟩
      show b_X0_isSomeoneWeak_2 w b (zfix1 _ n) _ = _
      generalize zfix1 (b_X0_isSomeoneWeak_2 w b) n = kk
      unfold b_X0_isSomeoneWeak_2
      rw [h.n, if_pos (nI_le (by omega) (by omega))]
      unfold m_weak
      rw [show P 0 = i by omega, e]
      rfl
    | succ k ih =>
      intro i n hi hn e
      obtain ⟨n, rfl⟩ : ∃ m, n = m + 1 := ⟨n - 1, by omega⟩
      have h1 := ih (i + 1) n (by omega) (by omega)
      have hl := (hO.2.1 i (by omega)).2.2.2
      show b_X0_isSomeoneWeak_2 w b (zfix1 _ n) _ = _
      generalize zfix1 (b_X0_isSomeoneWeak_2 w b) n = kk at h1 ⊢
      unfold b_X0_isSomeoneWeak_2
      simp only [zjn0, zlet]
      rw [h.n, if_neg (nI_ge (by omega) (by omega)), k_isDown h hO (by omega), zbds, show nI i + 1 = nI (i + 1) from nI_1 i]
      have c5 : (5 : Int32) < nI (P (30 + i)) ↔ 5 < P (30 + i) := nI_ltI (a := 5) (by decide) (by omega)
      by_cases d0 : P (30 + i) = 0
      · rw [if_pos d0, if_neg (by decide)]
        exact h1 (by simp [m_weakN, e, d0])
      · rw [if_neg d0, if_pos rfl, zgt (zin_nI (by omega) (by decide)), zxI (by omega), h.lv (show i < P 0 by omega)]
        by_cases d5 : 5 < P (30 + i)
        · rw [if_pos (c5.mpr d5)]
          exact h1 (by simp [m_weakN, e]; omega)
        · rw [if_neg (fun q => d5 (c5.mp q))]
          unfold m_weak
          rw [up k (i + 1) (by omega) (by simp [m_weakN]; omega)]
          rfl
  exact key (P 0) 0 100000 (by omega) (by omega) rfl
theorem k_pourIn {w : zW} {b : Nat} {P : zP} (h : CR w b P) (hO : Ok P) {c : Nat} (hc : c ≤ 60) : ∃ w', f_X0_pourIn w b (nI c) = some w' ∧ CR w' b (m_fill P c) ∧ Fr b w w' := by
  have h5 := hO.1.2.2.2.2.1
  refine ⟨zup w b 9 (nI (min 60 (P 5 + c))), ?_, h.f0 9 5 _ (by omega), Fr.u0 _ _ _⟩
  unfold f_X0_pourIn
  simp only [zlet]
  rw [h.bt, nI_add, show (60 : Int32) = nI 60 from rfl, zmin_nI (by decide) (by omega)]
theorem k_walkOn {w : zW} {b : Nat} {P : zP} (h : CR w b P) (hO : Ok P) (hh : P 4 < 2 ^ 30) (hg : P 3 < P 2) : ∃ w', f_X0_walkOn w b = some w' ∧ CR w' b (m_walk P) ∧ Fr b w w' := by
  have h1 := hO.1.2.1
  have h2 := hO.1.2.2.1
  have hst := m_step_le P
  have hO3 : Ok (pu P 3 (P 3 + m_step P)) := hO.mile (by omega)
  have hP1 : pu P 3 (P 3 + m_step P) 1 = P 1 := pu_n _ _ (by decide)
  have key : ∀ (k t n : Nat) (w3 : zW), t + k = P 1 → k < n → CR w3 b (m_wellN (pu P 3 (P 3 + m_step P)) (P 3) t) → Fr b w w3 → ∃ w', zfix2 (b_X0_walkOn_41 b (nI (P 3))) n (nI t) w3 = some w' ∧ CR w' b (m_walk P) ∧ Fr b w w' := by
    intro k
    induction k with
    | zero =>
      intro t n w3 ht hk hc hf
      obtain ⟨n, rfl⟩ : ∃ m, n = m + 1 := ⟨n - 1, by omega⟩
      obtain ⟨-, o2, -⟩ := m_wellN_ok hO3 (P 3) t (by omega)
      refine ⟨w3, ?_, ?_, hf⟩
      · show b_X0_walkOn_41 b _ (zfix2 _ n) _ _ = _
        generalize zfix2 (b_X0_walkOn_41 b (nI (P 3))) n = kk
        unfold b_X0_walkOn_41
        rw [hc.wl, o2.wl, hP1, if_pos (nI_le (by omega) (by omega))]
      · unfold m_walk
        rw [show P 1 = t by omega]
        exact hc
    | succ k ih =>
      intro t n w3 ht hk hc hf
      obtain ⟨n, rfl⟩ : ∃ m, n = m + 1 := ⟨n - 1, by omega⟩
      obtain ⟨o1, o2, o3, o4⟩ := m_wellN_ok hO3 (P 3) t (by omega)
      have hwl := o2.wl
      rw [hP1] at hwl
      have ht1 : t < m_wellN (pu P 3 (P 3 + m_step P)) (P 3) t 1 := by rw [hwl]; omega
      have hih := ih (t + 1) n
      simp only [m_wellN] at hih
      generalize m_wellN (pu P 3 (P 3 + m_step P)) (P 3) t = Q at hc o1 o2 o3 o4 hwl ht1 hih
      obtain ⟨q1, q2, q3, q4, q5, q6⟩ := o1.2.2 t ht1
      have q7 := o1.1.2.2.2.1
      have hz : zin (nI t) 3 = true := zin_nI (by omega) (by decide)
      have cw : nI (Q (70 + t)) = 0 ↔ Q (70 + t) = 0 := zeq0 (by omega)
      have cl : nI (Q (40 + t)) ≤ nI (P 3) ↔ Q (40 + t) ≤ P 3 := nI_leI (by omega) (by omega)
      have cg : nI (Q 3) < nI (Q (40 + t)) ↔ Q 3 < Q (40 + t) := nI_ltI (by omega) (by omega)
      by_cases hcond : Q (70 + t) = 1 ∧ P 3 < Q (40 + t) ∧ Q (40 + t) ≤ Q 3
      · obtain ⟨w4, e4, c4, f4⟩ := k_pourIn hc o1 (c := Q (60 + t)) (by omega)
        obtain ⟨w', e1, e2, e3⟩ := hih (zup w4 (b + 7) t (nI 0)) (by omega) (by omega) (by
          unfold m_well1
          rw [if_pos hcond]
          have o5 := m_fill_fix Q (Q (60 + t))
          exact c4.fw (by rw [o5.n]; exact o1.1.1) (by rw [o5.wl]; exact o1.1.2.1) 7 70 0 (by omega) (by rw [o5.wl]; exact ht1)) ((hf.tr f4).tr (Fr.up _ 7 _ _ (by decide)))
        refine ⟨w', ?_, e2, e3⟩
        show b_X0_walkOn_41 b _ (zfix2 _ n) _ _ = _
        generalize zfix2 (b_X0_walkOn_41 b (nI (P 3))) n = kk at e1 ⊢
        unfold b_X0_walkOn_41
        simp only [zjn1, zlet, hz, zgT]
        rw [hc.wl, hwl, if_neg (nI_ge (by omega) (by omega)), zxI (by omega), hc.w7 ht1, hc.w4 ht1, hc.w6 ht1, hc.ml, if_neg (fun q => absurd (cw.mp q) (by omega)), if_neg (fun q => absurd (cl.mp q) (by omega)), if_neg (fun q => absurd (cg.mp q) (by omega)), e4, zbds, znar0, show nI t + 1 = nI (t + 1) from nI_1 _]
        exact e1
      · obtain ⟨w', e1, e2, e3⟩ := hih w3 (by omega) (by omega) (by
          unfold m_well1
          rw [if_neg hcond]
          exact hc) hf
        refine ⟨w', ?_, e2, e3⟩
        show b_X0_walkOn_41 b _ (zfix2 _ n) _ _ = _
        generalize zfix2 (b_X0_walkOn_41 b (nI (P 3))) n = kk at e1 ⊢
        unfold b_X0_walkOn_41
        simp only [zjn1, zlet, hz, zgT]
        rw [hc.wl, hwl, if_neg (nI_ge (by omega) (by omega)), zxI (by omega), hc.w7 ht1, hc.w4 ht1, hc.w6 ht1, hc.ml, show nI t + 1 = nI (t + 1) from nI_1 _]
        by_cases d1 : Q (70 + t) = 0
        · rw [if_pos (cw.mpr d1)]; exact e1
        · rw [if_neg (fun q => d1 (cw.mp q))]
          by_cases d2 : Q (40 + t) ≤ P 3
          · rw [if_pos (cl.mpr d2)]; exact e1
          · rw [if_neg (fun q => d2 (cl.mp q)), if_pos (cg.mpr (by omega))]; exact e1
  obtain ⟨w', e1, e2, e3⟩ := key (P 1) 0 100000 (zup w b 11 (nI (P 3 + m_step P))) (by omega) (by omega) (h.f0 11 3 _ (by omega)) (Fr.u0 _ _ _)
  refine ⟨w', ?_, e2, e3⟩
  unfold f_X0_walkOn
  simp only [zjn1, zlet]
  rw [h.ml, k_isDay h hh, k_weak h hO]
  simp only [zbds]
  have e10 : ((1 : Int32) = 0) = False := eq_false (by decide)
  unfold m_step at e1
  unfold zbi
  have q1 : (3 : Int32) - 0 = nI (3 - 0) := by decide
  have q2 : (3 : Int32) - 1 = nI (3 - 1) := by decide
  have q3 : (2 : Int32) - 0 = nI (2 - 0) := by decide
  have q4 : (2 : Int32) - 1 = nI (2 - 1) := by decide
  generalize m_day P = d at e1 ⊢
  generalize m_weak P = k at e1 ⊢
  cases d <;> cases k <;> simp only [e10, Bool.false_eq_true, if_false, if_true, q1, q2, q3, q4, nI_add] at e1 ⊢ <;> exact e1
