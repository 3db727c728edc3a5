/-! THE MATHEMATICS: a company is P : Nat → Nat. 0 people, 1 wells, 2 goal, 3 mile, 4 hour, 5 bottle, 6 plan, 7 cloths, 8 found; 10+p kind, 20+p size, 30+p level; 40+i mile of a well, 50+i odds, 60+i caps, 70+i wet -/
abbrev zP : Type := Nat → Nat
def pu (P : zP) (k v : Nat) : zP := fun j => if j = k then v else P j
theorem pu_s (P : zP) (k v : Nat) : pu P k v k = v := by simp [pu]
theorem pu_n (P : zP) {k j : Nat} (v : Nat) (h : j ≠ k) : pu P k v j = P j := by simp [pu, h]
theorem pu_id (P : zP) (k : Nat) : pu P k (P k) = P := by
  funext j
  by_cases h : j = k
  · subst h; simp [pu]
  · simp [pu, h]
def m_cnt (P : zP) : Nat → Nat
  | 0 => 0
  | n + 1 => m_cnt P n + (if P (30 + n) = 0 then 0 else 1)
def m_stand (P : zP) : Nat := m_cnt P (P 0)
theorem m_cnt_le (P : zP) : ∀ n, m_cnt P n ≤ n
  | 0 => Nat.le_refl 0
  | n + 1 => by
    have h := m_cnt_le P n
    simp only [m_cnt]
    split <;> omega
def m_day (P : zP) : Bool := decide (6 ≤ P 4 % 24) && decide (P 4 % 24 ≤ 17)
def m_want (P : zP) (p : Nat) : Nat :=
  if P (10 + p) = 1 then 10 - P (30 + p)
  else if P (10 + p) = 2 then (if P 4 % P 0 = p then 2 else 1)
  else if P (10 + p) = 3 then (if P (30 + p) ≤ 4 then 2 else 0)
  else 1
def m_giveF (P : zP) (p : Nat) : Nat → Nat
  | 0 => p
  | n + 1 => if P (30 + n) ≠ 0 ∧ P (30 + n) < P (30 + m_giveF P p n) then n else m_giveF P p n
def m_give (P : zP) (p : Nat) : Nat := if P (10 + p) = 4 then m_giveF P p (P 0) else p
def m_caps (P : zP) (p : Nat) : Nat := min (m_want P p) (min (20 - P (30 + m_give P p)) (P 5))
def m_drink1 (P : zP) (p : Nat) : zP := if P (30 + p) = 0 then P else pu (pu P (30 + m_give P p) (P (30 + m_give P p) + m_caps P p)) 5 (P 5 - m_caps P p)
def m_drinkN (P : zP) (q : Nat) : Nat → zP
  | 0 => P
  | n + 1 => m_drink1 (m_drinkN P q n) ((q + (n + 1)) % P 0)
def m_drink (P : zP) : zP := m_drinkN P (P 4 % P 0) (P 0)
def m_more (P : zP) (p : Nat) : Nat := if P (20 + p) = 3 ∨ (P (20 + p) = 2 ∧ P 4 % 2 = 0) then 1 else 0
def m_loss (P : zP) (p : Nat) (wk : Bool) : Nat := (if m_day P = true then 1 else 0) + (if wk = true then 1 else 0) + m_more P p
def m_loseN (P : zP) (wk : Bool) : Nat → zP
  | 0 => P
  | n + 1 => pu (m_loseN P wk n) (30 + n) (P (30 + n) - m_loss P n wk)
def m_lose (P : zP) (wk : Bool) : zP := m_loseN P wk (P 0)
def m_weakN (P : zP) : Nat → Bool
  | 0 => false
  | n + 1 => m_weakN P n || (decide (1 ≤ P (30 + n)) && decide (P (30 + n) ≤ 5))
def m_weak (P : zP) : Bool := m_weakN P (P 0)
def m_fill (P : zP) (c : Nat) : zP := pu P 5 (min 60 (P 5 + c))
def m_well1 (P : zP) (fr i : Nat) : zP := if P (70 + i) = 1 ∧ fr < P (40 + i) ∧ P (40 + i) ≤ P 3 then pu (m_fill P (P (60 + i))) (70 + i) 0 else P
def m_wellN (P : zP) (fr : Nat) : Nat → zP
  | 0 => P
  | n + 1 => m_well1 (m_wellN P fr n) fr n
def m_step (P : zP) : Nat := (if m_day P = true then 2 else 3) - (if m_weak P = true then 1 else 0)
def m_walk (P : zP) : zP := m_wellN (pu P 3 (P 3 + m_step P)) (P 3) (P 1)
def m_over (P : zP) : Bool := decide (P 2 ≤ P 3) || decide (m_stand P = 0)
def m_in1 (P : zP) : zP := if P 4 % 24 = 4 then m_fill P (P 7) else P
def m_in2 (P : zP) (wk : Bool) : zP := m_lose (m_drink (m_in1 P)) wk
def m_in3 (P : zP) (wk : Bool) : zP := if wk = true ∧ 0 < m_stand (m_in2 P wk) then m_walk (m_in2 P wk) else m_in2 P wk
def m_body (P : zP) (wk : Bool) : zP := if m_over P = true then P else m_in3 P wk
def m_hour (P : zP) (wk : Bool) : zP := pu (m_body P wk) 4 (P 4 + 1)
def m_walks (P : zP) (plan : Nat) : Bool := if plan = 0 then !(m_day P) else if plan = 1 then m_day P else decide (plan = 2)
def m_hours (plan : Nat) : Nat → zP → zP
  | 0, P => P
  | n + 1, P => m_hours plan n (m_hour P (m_walks P plan))
/-- bounds -/
def Ok (P : zP) : Prop := (P 0 ≤ 4 ∧ P 1 ≤ 3 ∧ P 2 ≤ 60 ∧ P 3 ≤ 62 ∧ P 5 ≤ 60 ∧ P 6 ≤ 3 ∧ P 7 ≤ 9 ∧ P 8 ≤ 10) ∧ (∀ p, p < P 0 → P (10 + p) ≤ 4 ∧ 1 ≤ P (20 + p) ∧ P (20 + p) ≤ 3 ∧ P (30 + p) ≤ 20) ∧ ∀ i, i < P 1 → 1 ≤ P (40 + i) ∧ P (40 + i) ≤ 60 ∧ P (50 + i) ≤ 10 ∧ 1 ≤ P (60 + i) ∧ P (60 + i) ≤ 20 ∧ P (70 + i) ≤ 1
theorem Ok.bot {P : zP} (h : Ok P) {v : Nat} (hv : v ≤ 60) : Ok (pu P 5 v) := by
  obtain ⟨⟨h0, h1, h2, h3, h5, h6, h7, h8⟩, hp, hw⟩ := h
  refine ⟨⟨?_, ?_, ?_, ?_, ?_, ?_, ?_, ?_⟩, fun p hpp => ?_, fun i hi => ?_⟩ <;> simp [pu] at * <;> first | assumption | skip
  · have := hp p hpp
    simp [show ¬ (10 + p = 5) by omega, show ¬ (20 + p = 5) by omega, show ¬ (30 + p = 5) by omega]; omega
  · have := hw i hi
    simp [show ¬ (40 + i = 5) by omega, show ¬ (50 + i = 5) by omega, show ¬ (60 + i = 5) by omega, show ¬ (70 + i = 5) by omega]; omega
theorem Ok.lev {P : zP} (h : Ok P) {p v : Nat} (hp4 : p < P 0) (hv : v ≤ 20) : Ok (pu P (30 + p) v) := by
  obtain ⟨⟨h0, h1, h2, h3, h5, h6, h7, h8⟩, hp, hw⟩ := h
  have e : ∀ k, k < 10 → pu P (30 + p) v k = P k := fun k hk => pu_n P v (by omega)
  refine ⟨⟨?_, ?_, ?_, ?_, ?_, ?_, ?_, ?_⟩, fun q hq => ?_, fun i hi => ?_⟩ <;> (try rw [e _ (by decide)]) <;> first | assumption | skip
  · rw [e 0 (by decide)] at hq
    have := hp q hq
    rw [pu_n P v (show 10 + q ≠ 30 + p by omega), pu_n P v (show 20 + q ≠ 30 + p by omega)]
    refine ⟨this.1, this.2.1, this.2.2.1, ?_⟩
    by_cases hqp : q = p
    · subst hqp; rw [pu_s]; exact hv
    · rw [pu_n P v (by omega)]; exact this.2.2.2
  · rw [e 1 (by decide)] at hi
    have := hw i hi
    rw [pu_n P v (show 40 + i ≠ 30 + p by omega), pu_n P v (show 50 + i ≠ 30 + p by omega), pu_n P v (show 60 + i ≠ 30 + p by omega), pu_n P v (show 70 + i ≠ 30 + p by omega)]
    exact this
theorem Ok.mile {P : zP} (h : Ok P) {v : Nat} (hv : v ≤ 62) : Ok (pu P 3 v) := by
  obtain ⟨⟨h0, h1, h2, h3, h5, h6, h7, h8⟩, hp, hw⟩ := h
  have e : ∀ k, k ≠ 3 → pu P 3 v k = P k := fun k hk => pu_n P v hk
  refine ⟨⟨?_, ?_, ?_, ?_, ?_, ?_, ?_, ?_⟩, fun q hq => ?_, fun i hi => ?_⟩
  · rw [e _ (by decide)]; assumption
  · rw [e _ (by decide)]; assumption
  · rw [e _ (by decide)]; assumption
  · rw [pu_s]; assumption
  · rw [e _ (by decide)]; assumption
  · rw [e _ (by decide)]; assumption
  · rw [e _ (by decide)]; assumption
  · rw [e _ (by decide)]; assumption
  · rw [e _ (by decide)] at hq
    rw [e _ (by omega), e _ (by omega), e _ (by omega)]; exact hp q hq
  · rw [e _ (by decide)] at hi
    rw [e _ (by omega), e _ (by omega), e _ (by omega), e _ (by omega)]; exact hw i hi
theorem Ok.hour {P : zP} (h : Ok P) {v : Nat} : Ok (pu P 4 v) := by
  obtain ⟨⟨h0, h1, h2, h3, h5, h6, h7, h8⟩, hp, hw⟩ := h
  have e : ∀ k, k ≠ 4 → pu P 4 v k = P k := fun k hk => pu_n P v hk
  refine ⟨⟨?_, ?_, ?_, ?_, ?_, ?_, ?_, ?_⟩, fun q hq => ?_, fun i hi => ?_⟩ <;> (try rw [e _ (by decide)]) <;> first | assumption | skip
  · rw [e _ (by decide)] at hq
    rw [e _ (by omega), e _ (by omega), e _ (by omega)]; exact hp q hq
  · rw [e _ (by decide)] at hi
    rw [e _ (by omega), e _ (by omega), e _ (by omega), e _ (by omega)]; exact hw i hi
theorem Ok.wet {P : zP} (h : Ok P) {i v : Nat} (hi : i < P 1) (hv : v ≤ 1) : Ok (pu P (70 + i) v) := by
  obtain ⟨⟨h0, h1, h2, h3, h5, h6, h7, h8⟩, hp, hw⟩ := h
  have e : ∀ k, k < 10 → pu P (70 + i) v k = P k := fun k hk => pu_n P v (by omega)
  refine ⟨⟨?_, ?_, ?_, ?_, ?_, ?_, ?_, ?_⟩, fun q hq => ?_, fun k hk => ?_⟩ <;> (try rw [e _ (by decide)]) <;> first | assumption | skip
  · rw [e 0 (by decide)] at hq
    rw [pu_n P v (show 10 + q ≠ 70 + i by omega), pu_n P v (show 20 + q ≠ 70 + i by omega), pu_n P v (show 30 + q ≠ 70 + i by omega)]
    exact hp q hq
  · rw [e 1 (by decide)] at hk
    have := hw k hk
    rw [pu_n P v (show 40 + k ≠ 70 + i by omega), pu_n P v (show 50 + k ≠ 70 + i by omega), pu_n P v (show 60 + k ≠ 70 + i by omega)]
    refine ⟨this.1, this.2.1, this.2.2.1, this.2.2.2.1, this.2.2.2.2.1, ?_⟩
    by_cases hki : k = i
    · subst hki; rw [pu_s]; exact hv
    · rw [pu_n P v (by omega)]; exact this.2.2.2.2.2
theorem m_giveF_lt (P : zP) {p N : Nat} (hp : p < N) : ∀ n, n ≤ N → m_giveF P p n < N
  | 0, _ => hp
  | n + 1, hn => by
    have h := m_giveF_lt P hp n (by omega)
    simp only [m_giveF]
    split <;> omega
theorem m_give_lt (P : zP) {p : Nat} (hp : p < P 0) : m_give P p < P 0 := by
  unfold m_give
  split
  · exact m_giveF_lt P hp (P 0) (Nat.le_refl _)
  · exact hp
theorem Ok.drink1 {P : zP} (h : Ok P) {p : Nat} (hp : p < P 0) : Ok (m_drink1 P p) := by
  unfold m_drink1
  split
  · exact h
  · have h1 := h.1.2.2.2.2.1
    have h2 := (h.2.1 _ (m_give_lt P hp)).2.2.2
    exact (h.lev (m_give_lt P hp) (by unfold m_caps; omega)).bot (by omega)
/-- what an hour never changes -/
def m_fix (P Q : zP) : Prop := (∀ k, k < 10 → k ≠ 3 → k ≠ 4 → k ≠ 5 → Q k = P k) ∧ (∀ p, p < 4 → Q (10 + p) = P (10 + p) ∧ Q (20 + p) = P (20 + p)) ∧ ∀ i, i < 4 → Q (40 + i) = P (40 + i) ∧ Q (50 + i) = P (50 + i) ∧ Q (60 + i) = P (60 + i)
theorem m_fix.rf (P : zP) : m_fix P P := ⟨fun _ _ _ _ _ => rfl, fun _ _ => ⟨rfl, rfl⟩, fun _ _ => ⟨rfl, rfl, rfl⟩⟩
theorem m_fix.tr {P Q R : zP} (h : m_fix P Q) (g : m_fix Q R) : m_fix P R := ⟨fun k a b c d => (g.1 k a b c d).trans (h.1 k a b c d), fun p hp => ⟨(g.2.1 p hp).1.trans (h.2.1 p hp).1, (g.2.1 p hp).2.trans (h.2.1 p hp).2⟩, fun i hi => ⟨(g.2.2 i hi).1.trans (h.2.2 i hi).1, (g.2.2 i hi).2.1.trans (h.2.2 i hi).2.1, (g.2.2 i hi).2.2.trans (h.2.2 i hi).2.2⟩⟩
theorem m_fix.pu (P : zP) {k v : Nat} (h : k = 3 ∨ k = 4 ∨ k = 5 ∨ (30 ≤ k ∧ k < 34) ∨ (70 ≤ k ∧ k < 74)) : m_fix P (pu P k v) := ⟨fun j a b c d => pu_n P v (by omega), fun p hp => ⟨pu_n P v (by omega), pu_n P v (by omega)⟩, fun i hi => ⟨pu_n P v (by omega), pu_n P v (by omega), pu_n P v (by omega)⟩⟩
theorem m_fix.n {P Q : zP} (h : m_fix P Q) : Q 0 = P 0 := h.1 0 (by decide) (by decide) (by decide) (by decide)
theorem m_fix.wl {P Q : zP} (h : m_fix P Q) : Q 1 = P 1 := h.1 1 (by decide) (by decide) (by decide) (by decide)
theorem m_fix.gl {P Q : zP} (h : m_fix P Q) : Q 2 = P 2 := h.1 2 (by decide) (by decide) (by decide) (by decide)
theorem m_fill_fix (P : zP) (c : Nat) : m_fix P (m_fill P c) := m_fix.pu P (by omega)
theorem m_drink1_fix {P : zP} (h : Ok P) {p : Nat} (hp : p < P 0) : m_fix P (m_drink1 P p) := by
  unfold m_drink1
  split
  · exact m_fix.rf P
  · have h0 := h.1.1
    have h1 := m_give_lt P hp
    exact (m_fix.pu P (by omega)).tr (m_fix.pu _ (by omega))
theorem m_drink1_4 (P : zP) {p : Nat} (hp : p < P 0) (h4 : P 0 ≤ 4) : m_drink1 P p 4 = P 4 ∧ m_drink1 P p 3 = P 3 := by
  unfold m_drink1
  have h1 := m_give_lt P hp
  split
  · exact ⟨rfl, rfl⟩
  · exact ⟨by rw [pu_n _ _ (by decide), pu_n _ _ (by omega)], by rw [pu_n _ _ (by decide), pu_n _ _ (by omega)]⟩
theorem m_drinkN_ok {P : zP} (h : Ok P) (q : Nat) (hn : 0 < P 0) : ∀ n, Ok (m_drinkN P q n) ∧ m_fix P (m_drinkN P q n) ∧ m_drinkN P q n 4 = P 4 ∧ m_drinkN P q n 3 = P 3
  | 0 => ⟨h, m_fix.rf P, rfl, rfl⟩
  | n + 1 => by
    obtain ⟨h1, h2, h3, h4⟩ := m_drinkN_ok h q hn n
    have hp : (q + (n + 1)) % P 0 < m_drinkN P q n 0 := by rw [h2.n]; exact Nat.mod_lt _ hn
    have h5 := m_drink1_4 (m_drinkN P q n) hp h1.1.1
    exact ⟨h1.drink1 hp, h2.tr (m_drink1_fix h1 hp), h5.1.trans h3, h5.2.trans h4⟩
theorem m_loseN_ok {P : zP} (h : Ok P) (wk : Bool) : ∀ n, n ≤ P 0 → Ok (m_loseN P wk n) ∧ m_fix P (m_loseN P wk n) ∧ m_loseN P wk n 4 = P 4 ∧ m_loseN P wk n 3 = P 3 ∧ m_loseN P wk n 5 = P 5 ∧ ∀ j, n ≤ j → m_loseN P wk n (30 + j) = P (30 + j)
  | 0, _ => ⟨h, m_fix.rf P, rfl, rfl, rfl, fun _ _ => rfl⟩
  | n + 1, hn => by
    obtain ⟨h1, h2, h3, h4, h5, h6⟩ := m_loseN_ok h wk n (by omega)
    have h0 := h.1.1
    have hl := (h.2.1 n (by omega)).2.2.2
    refine ⟨h1.lev (by rw [h2.n]; omega) (by omega), h2.tr (m_fix.pu _ (by omega)), ?_, ?_, ?_, fun j hj => ?_⟩
    · simp only [m_loseN]; rw [pu_n _ _ (by omega)]; exact h3
    · simp only [m_loseN]; rw [pu_n _ _ (by omega)]; exact h4
    · simp only [m_loseN]; rw [pu_n _ _ (by omega)]; exact h5
    · simp only [m_loseN]; rw [pu_n _ _ (by omega)]; exact h6 j (by omega)
theorem m_well1_ok {P : zP} (h : Ok P) (fr : Nat) {i : Nat} (hi : i < P 1) : Ok (m_well1 P fr i) ∧ m_fix P (m_well1 P fr i) ∧ m_well1 P fr i 4 = P 4 ∧ m_well1 P fr i 3 = P 3 := by
  have h1 := h.1.2.1
  unfold m_well1
  split
  · refine ⟨(h.bot (by omega)).wet (by rw [pu_n _ _ (by decide)]; exact hi) (by omega), (m_fill_fix P _).tr (m_fix.pu _ (by omega)), ?_, ?_⟩
    · rw [pu_n _ _ (by omega)]; exact pu_n _ _ (by decide)
    · rw [pu_n _ _ (by omega)]; exact pu_n _ _ (by decide)
  · exact ⟨h, m_fix.rf P, rfl, rfl⟩
theorem m_wellN_ok {P : zP} (h : Ok P) (fr : Nat) : ∀ n, n ≤ P 1 → Ok (m_wellN P fr n) ∧ m_fix P (m_wellN P fr n) ∧ m_wellN P fr n 4 = P 4 ∧ m_wellN P fr n 3 = P 3
  | 0, _ => ⟨h, m_fix.rf P, rfl, rfl⟩
  | n + 1, hn => by
    obtain ⟨h1, h2, h3, h4⟩ := m_wellN_ok h fr n (by omega)
    obtain ⟨g1, g2, g3, g4⟩ := m_well1_ok h1 fr (i := n) (by rw [h2.wl]; omega)
    exact ⟨g1, h2.tr g2, g3.trans h3, g4.trans h4⟩
theorem m_step_le (P : zP) : 1 ≤ m_step P ∧ m_step P ≤ 3 := by
  unfold m_step
  constructor <;> (repeat' split) <;> omega
theorem m_walk_ok {P : zP} (h : Ok P) (hg : P 3 < P 2) : Ok (m_walk P) ∧ m_fix P (m_walk P) ∧ m_walk P 4 = P 4 := by
  have h2 := h.1.2.2.1
  have h3 := m_step_le P
  have hO : Ok (pu P 3 (P 3 + m_step P)) := h.mile (by omega)
  obtain ⟨g1, g2, g3, -⟩ := m_wellN_ok hO (P 3) (P 1) (by rw [pu_n _ _ (by decide)]; exact Nat.le_refl _)
  exact ⟨g1, (m_fix.pu P (by omega)).tr g2, g3.trans (pu_n _ _ (by decide))⟩
theorem m_in1_ok {P : zP} (h : Ok P) : Ok (m_in1 P) ∧ m_fix P (m_in1 P) ∧ m_in1 P 4 = P 4 ∧ m_in1 P 3 = P 3 := by
  unfold m_in1
  split
  · exact ⟨h.bot (by omega), m_fill_fix P _, pu_n _ _ (by decide), pu_n _ _ (by decide)⟩
  · exact ⟨h, m_fix.rf P, rfl, rfl⟩
theorem m_in2_ok {P : zP} (h : Ok P) (wk : Bool) (hn : 0 < P 0) : Ok (m_in2 P wk) ∧ m_fix P (m_in2 P wk) ∧ m_in2 P wk 4 = P 4 ∧ m_in2 P wk 3 = P 3 := by
  obtain ⟨a1, a2, a3, a4⟩ := m_in1_ok h
  obtain ⟨b1, b2, b3, b4⟩ := m_drinkN_ok a1 (m_in1 P 4 % m_in1 P 0) (by rw [a2.n]; exact hn) (m_in1 P 0)
  obtain ⟨c1, c2, c3, c4, -⟩ := m_loseN_ok b1 wk _ (Nat.le_refl _)
  exact ⟨c1, (a2.tr b2).tr c2, c3.trans (b3.trans a3), c4.trans (b4.trans a4)⟩
theorem m_stand_0 {P : zP} (h : ¬ m_stand P = 0) : 0 < P 0 := by
  have := m_cnt_le P (P 0)
  unfold m_stand at h
  omega
theorem m_body_ok {P : zP} (h : Ok P) (wk : Bool) : Ok (m_body P wk) ∧ m_fix P (m_body P wk) ∧ m_body P wk 4 = P 4 := by
  unfold m_body
  split
  · exact ⟨h, m_fix.rf P, rfl⟩
  · next ho =>
    simp only [m_over, Bool.or_eq_true, decide_eq_true_eq, not_or] at ho
    obtain ⟨c1, c2, c3, c4⟩ := m_in2_ok h wk (m_stand_0 ho.2)
    unfold m_in3
    split
    · obtain ⟨d1, d2, d3⟩ := m_walk_ok c1 (by rw [c4, c2.gl]; omega)
      exact ⟨d1, c2.tr d2, d3.trans c3⟩
    · exact ⟨c1, c2, c3⟩
theorem m_hour_ok {P : zP} (h : Ok P) (wk : Bool) : Ok (m_hour P wk) ∧ m_fix P (m_hour P wk) ∧ m_hour P wk 4 = P 4 + 1 := by
  obtain ⟨a1, a2, a3⟩ := m_body_ok h wk
  exact ⟨a1.hour, a2.tr (m_fix.pu _ (by omega)), pu_s _ _ _⟩
theorem m_hours_ok (plan : Nat) : ∀ (n : Nat) {P : zP}, Ok P → Ok (m_hours plan n P) ∧ m_fix P (m_hours plan n P) ∧ m_hours plan n P 4 = P 4 + n
  | 0, P, h => ⟨h, m_fix.rf P, rfl⟩
  | n + 1, P, h => by
    obtain ⟨a1, a2, a3⟩ := m_hour_ok h (m_walks P plan)
    obtain ⟨b1, b2, b3⟩ := m_hours_ok plan n a1
    exact ⟨b1, a2.tr b2, by rw [m_hours, b3, a3]; omega⟩
