/-! A camp of the class at cells b .. b+7 holds the company P -/
theorem zgt {α : Type} {b : Bool} (h : b = true) (k : Option α) : zg b k = k := by rw [h]; rfl
theorem zgT {α : Type} (k : Option α) : zg true k = k := rfl
theorem zbds {α β : Type} (a : α) (f : α → Option β) : zbd (some a) f = f a := rfl
theorem zbd2s {α γ β : Type} (a : α) (c : γ) (f : α → γ → Option β) : zbd2 (some (a, c)) f = f a c := rfl
theorem zxI {k : Nat} (h : k < 2 ^ 31) : zx (nI k) = k := nI_clamp h
theorem zlit (n : Nat) : (OfNat.ofNat n : Int32) = nI n := rfl
theorem zI0 : (0 : Int32) = nI 0 := rfl
theorem zI1 : (1 : Int32) = nI 1 := rfl
theorem zeq0 {k : Nat} (h : k < 2 ^ 31) : nI k = 0 ↔ k = 0 := nI_eq (b := 0) h (by decide)
theorem zrem_nI {a d : Nat} (ha : a < 2 ^ 31) (h0 : 0 < d) (hd : d < 2 ^ 31) : zrem (nI a) (nI d) = nI (a % d) := pk_rem ha h0 hd
theorem zmin_nI {a b : Nat} (ha : a < 2 ^ 31) (hb : b < 2 ^ 31) : zmin (nI a) (nI b) = nI (min a b) := by
  unfold zmin
  by_cases h : b < a
  · rw [if_pos ((nI_ltI hb ha).mpr h), Nat.min_eq_right (by omega)]
  · rw [if_neg (fun q => h ((nI_ltI hb ha).mp q)), Nat.min_eq_left (by omega)]
theorem zsub_nI {a b : Nat} (h : b ≤ a) : nI a - nI b = nI (a - b) := pk_sub h
/-- what is left, or nothing -/
theorem zmax_sub {a b : Nat} (ha : a < 2 ^ 30) (hb : b < 2 ^ 30) : zmax 0 (nI a - nI b) = nI (a - b) := by
  unfold zmax
  have e : (0 : Int32) < nI a - nI b ↔ b < a := by
    rw [Int32.lt_iff_toInt_lt, pk_sub_toInt ha hb, Int32.toInt_zero]
    omega
  by_cases h : b < a
  · rw [if_pos (e.mpr h), pk_sub (by omega)]
  · rw [if_neg (fun q => h (e.mp q)), show a - b = 0 by omega]
    rfl
theorem znar0 : vp_nar .boolean 0 = 0 := by decide +kernel
theorem znar1 : vp_nar .boolean 1 = 1 := by decide +kernel
theorem znarB {k : Nat} (h : k ≤ 1) : vp_nar .boolean (nI k) = nI k := by
  rcases (show k = 0 ∨ k = 1 by omega) with rfl | rfl
  · exact znar0
  · exact znar1
def CR (w : zW) (b : Nat) (P : zP) : Prop :=
  (w b 0 = nI (P 0) ∧ w b 4 = nI (P 1) ∧ w b 9 = nI (P 5) ∧ w b 10 = nI (P 2) ∧ w b 11 = nI (P 3) ∧ w b 12 = nI (P 4) ∧ w b 13 = nI (P 6) ∧ w b 14 = nI (P 7) ∧ w b 15 = nI (P 8)) ∧
  (∀ p, p < P 0 → w (b + 1) p = nI (P (10 + p)) ∧ w (b + 2) p = nI (P (20 + p)) ∧ w (b + 3) p = nI (P (30 + p))) ∧
  ∀ i, i < P 1 → w (b + 4) i = nI (P (40 + i)) ∧ w (b + 5) i = nI (P (50 + i)) ∧ w (b + 6) i = nI (P (60 + i)) ∧ w (b + 7) i = nI (P (70 + i))
theorem CR.n {w : zW} {b : Nat} {P : zP} (h : CR w b P) : w b 0 = nI (P 0) := h.1.1
theorem CR.wl {w : zW} {b : Nat} {P : zP} (h : CR w b P) : w b 4 = nI (P 1) := h.1.2.1
theorem CR.bt {w : zW} {b : Nat} {P : zP} (h : CR w b P) : w b 9 = nI (P 5) := h.1.2.2.1
theorem CR.gl {w : zW} {b : Nat} {P : zP} (h : CR w b P) : w b 10 = nI (P 2) := h.1.2.2.2.1
theorem CR.ml {w : zW} {b : Nat} {P : zP} (h : CR w b P) : w b 11 = nI (P 3) := h.1.2.2.2.2.1
theorem CR.hr {w : zW} {b : Nat} {P : zP} (h : CR w b P) : w b 12 = nI (P 4) := h.1.2.2.2.2.2.1
theorem CR.pl {w : zW} {b : Nat} {P : zP} (h : CR w b P) : w b 13 = nI (P 6) := h.1.2.2.2.2.2.2.1
theorem CR.cl {w : zW} {b : Nat} {P : zP} (h : CR w b P) : w b 14 = nI (P 7) := h.1.2.2.2.2.2.2.2.1
theorem CR.fd {w : zW} {b : Nat} {P : zP} (h : CR w b P) : w b 15 = nI (P 8) := h.1.2.2.2.2.2.2.2.2
theorem CR.kd {w : zW} {b : Nat} {P : zP} (h : CR w b P) {p : Nat} (hp : p < P 0) : w (b + 1) p = nI (P (10 + p)) := (h.2.1 p hp).1
theorem CR.sz {w : zW} {b : Nat} {P : zP} (h : CR w b P) {p : Nat} (hp : p < P 0) : w (b + 2) p = nI (P (20 + p)) := (h.2.1 p hp).2.1
theorem CR.lv {w : zW} {b : Nat} {P : zP} (h : CR w b P) {p : Nat} (hp : p < P 0) : w (b + 3) p = nI (P (30 + p)) := (h.2.1 p hp).2.2
theorem CR.w4 {w : zW} {b : Nat} {P : zP} (h : CR w b P) {i : Nat} (hi : i < P 1) : w (b + 4) i = nI (P (40 + i)) := (h.2.2 i hi).1
theorem CR.w5 {w : zW} {b : Nat} {P : zP} (h : CR w b P) {i : Nat} (hi : i < P 1) : w (b + 5) i = nI (P (50 + i)) := (h.2.2 i hi).2.1
theorem CR.w6 {w : zW} {b : Nat} {P : zP} (h : CR w b P) {i : Nat} (hi : i < P 1) : w (b + 6) i = nI (P (60 + i)) := (h.2.2 i hi).2.2.1
theorem CR.w7 {w : zW} {b : Nat} {P : zP} (h : CR w b P) {i : Nat} (hi : i < P 1) : w (b + 7) i = nI (P (70 + i)) := (h.2.2 i hi).2.2.2
theorem CR.frame {w w' : zW} {b : Nat} {P : zP} (h : CR w b P) (hk : ∀ k, b ≤ k → k ≤ b + 7 → w' k = w k) : CR w' b P := by
  unfold CR
  rw [hk b (by omega) (by omega), hk (b + 1) (by omega) (by omega), hk (b + 2) (by omega) (by omega), hk (b + 3) (by omega) (by omega), hk (b + 4) (by omega) (by omega), hk (b + 5) (by omega) (by omega), hk (b + 6) (by omega) (by omega), hk (b + 7) (by omega) (by omega)]
  exact h
/-- a company that differs nowhere where one looks -/
def m_same (P Q : zP) : Prop := (∀ k, k < 10 → Q k = P k) ∧ (∀ p, p < P 0 → Q (10 + p) = P (10 + p) ∧ Q (20 + p) = P (20 + p) ∧ Q (30 + p) = P (30 + p)) ∧ ∀ i, i < P 1 → Q (40 + i) = P (40 + i) ∧ Q (50 + i) = P (50 + i) ∧ Q (60 + i) = P (60 + i) ∧ Q (70 + i) = P (70 + i)
def Fr (b : Nat) (w w' : zW) : Prop := ∀ k, (k < b ∨ b + 7 < k) → w' k = w k
theorem Fr.rf {b : Nat} {w : zW} : Fr b w w := fun _ _ => rfl
theorem Fr.tr {b : Nat} {w w1 w2 : zW} (h : Fr b w w1) (g : Fr b w1 w2) : Fr b w w2 := fun k hk => (g k hk).trans (h k hk)
theorem Fr.up {b : Nat} (w : zW) (d j : Nat) (x : Int32) (hd : d ≤ 7) : Fr b w (zup w (b + d) j x) := fun k hk => zup_n w j x (by omega)
theorem Fr.u0 {b : Nat} (w : zW) (j : Nat) (x : Int32) : Fr b w (zup w b j x) := fun k hk => zup_n w j x (by omega)
theorem upd_s (f : Nat → Int32) (k : Nat) (x : Int32) : upd f k x k = x := by simp [upd]
theorem upd_n (f : Nat → Int32) {k j : Nat} (x : Int32) (h : j ≠ k) : upd f k x j = f j := by simp [upd, h]
theorem CR.f0 {w : zW} {b : Nat} {P : zP} (h : CR w b P) (j c : Nat) (v : Nat) (hj : (j = 9 ∧ c = 5) ∨ (j = 11 ∧ c = 3) ∨ (j = 12 ∧ c = 4) ∨ (j = 13 ∧ c = 6) ∨ (j = 14 ∧ c = 7) ∨ (j = 15 ∧ c = 8)) : CR (zup w b j (nI v)) b (pu P c v) := by
  have hc : c ≠ 0 ∧ c ≠ 1 ∧ c < 10 := by omega
  have e0 : pu P c v 0 = P 0 := pu_n P v (by omega)
  have e1 : pu P c v 1 = P 1 := pu_n P v (by omega)
  obtain ⟨⟨a0, a4, a9, a10, a11, a12, a13, a14, a15⟩, hp, hw⟩ := h
  refine ⟨?_, fun p hpp => ?_, fun i hi => ?_⟩
  · rw [zup_s, e0, e1]
    rcases hj with ⟨rfl, rfl⟩ | ⟨rfl, rfl⟩ | ⟨rfl, rfl⟩ | ⟨rfl, rfl⟩ | ⟨rfl, rfl⟩ | ⟨rfl, rfl⟩ <;> simp [upd, pu, *]
  · rw [e0] at hpp
    have := hp p hpp
    rw [zup_n _ _ _ (by omega), zup_n _ _ _ (by omega), zup_n _ _ _ (by omega), pu_n P v (by omega), pu_n P v (by omega), pu_n P v (by omega)]
    exact this
  · rw [e1] at hi
    have := hw i hi
    rw [zup_n _ _ _ (by omega), zup_n _ _ _ (by omega), zup_n _ _ _ (by omega), zup_n _ _ _ (by omega), pu_n P v (by omega), pu_n P v (by omega), pu_n P v (by omega), pu_n P v (by omega)]
    exact this
theorem CR.fp {w : zW} {b : Nat} {P : zP} (h : CR w b P) (h4 : P 0 ≤ 4) {p : Nat} (d c v : Nat) (hd : (d = 1 ∧ c = 10) ∨ (d = 2 ∧ c = 20) ∨ (d = 3 ∧ c = 30)) (hp : p < P 0) : CR (zup w (b + d) p (nI v)) b (pu P (c + p) v) := by
  have e : ∀ k, k < 10 → pu P (c + p) v k = P k := fun k hk => pu_n P v (by omega)
  obtain ⟨ha, hq, hw⟩ := h
  refine ⟨?_, fun q hqq => ?_, fun i hi => ?_⟩
  · rw [zup_n _ _ _ (by omega)]
    simp only [e _ (show 0 < 10 by decide), e _ (show 1 < 10 by decide), e _ (show 2 < 10 by decide), e _ (show 3 < 10 by decide), e _ (show 4 < 10 by decide), e _ (show 5 < 10 by decide), e _ (show 6 < 10 by decide), e _ (show 7 < 10 by decide), e _ (show 8 < 10 by decide)]
    exact ha
  · rw [e 0 (by decide)] at hqq
    have := hq q hqq
    rcases hd with ⟨rfl, rfl⟩ | ⟨rfl, rfl⟩ | ⟨rfl, rfl⟩
    · rw [zup_s, zup_n _ _ _ (by omega), zup_n _ _ _ (by omega), pu_n P v (show 20 + q ≠ 10 + p by omega), pu_n P v (show 30 + q ≠ 10 + p by omega)]
      refine ⟨?_, this.2⟩
      by_cases hqp : q = p
      · subst hqp; rw [upd_s, pu_s]
      · rw [upd_n _ _ hqp, pu_n P v (by omega)]; exact this.1
    · rw [zup_s, zup_n _ _ _ (by omega), zup_n _ _ _ (by omega), pu_n P v (show 10 + q ≠ 20 + p by omega), pu_n P v (show 30 + q ≠ 20 + p by omega)]
      refine ⟨this.1, ?_, this.2.2⟩
      by_cases hqp : q = p
      · subst hqp; rw [upd_s, pu_s]
      · rw [upd_n _ _ hqp, pu_n P v (by omega)]; exact this.2.1
    · rw [zup_s, zup_n _ _ _ (by omega), zup_n _ _ _ (by omega), pu_n P v (show 10 + q ≠ 30 + p by omega), pu_n P v (show 20 + q ≠ 30 + p by omega)]
      refine ⟨this.1, this.2.1, ?_⟩
      by_cases hqp : q = p
      · subst hqp; rw [upd_s, pu_s]
      · rw [upd_n _ _ hqp, pu_n P v (by omega)]; exact this.2.2
  · rw [e 1 (by decide)] at hi
    have := hw i hi
    rw [zup_n _ _ _ (by omega), zup_n _ _ _ (by omega), zup_n _ _ _ (by omega), zup_n _ _ _ (by omega), pu_n P v (by omega), pu_n P v (by omega), pu_n P v (by omega), pu_n P v (by omega)]
    exact this
theorem CR.fw {w : zW} {b : Nat} {P : zP} (h : CR w b P) (h4 : P 0 ≤ 4) (h3 : P 1 ≤ 3) {i : Nat} (d c v : Nat) (hd : (d = 5 ∧ c = 50) ∨ (d = 7 ∧ c = 70)) (hi : i < P 1) : CR (zup w (b + d) i (nI v)) b (pu P (c + i) v) := by
  have e : ∀ k, k < 10 → pu P (c + i) v k = P k := fun k hk => pu_n P v (by omega)
  obtain ⟨ha, hq, hw⟩ := h
  refine ⟨?_, fun q hqq => ?_, fun k hk => ?_⟩
  · rw [zup_n _ _ _ (by omega)]
    simp only [e _ (show 0 < 10 by decide), e _ (show 1 < 10 by decide), e _ (show 2 < 10 by decide), e _ (show 3 < 10 by decide), e _ (show 4 < 10 by decide), e _ (show 5 < 10 by decide), e _ (show 6 < 10 by decide), e _ (show 7 < 10 by decide), e _ (show 8 < 10 by decide)]
    exact ha
  · rw [e 0 (by decide)] at hqq
    have := hq q hqq
    rw [zup_n _ _ _ (by omega), zup_n _ _ _ (by omega), zup_n _ _ _ (by omega), pu_n P v (by omega), pu_n P v (by omega), pu_n P v (by omega)]
    exact this
  · rw [e 1 (by decide)] at hk
    have := hw k hk
    rcases hd with ⟨rfl, rfl⟩ | ⟨rfl, rfl⟩
    · rw [zup_s, zup_n _ _ _ (by omega), zup_n _ _ _ (by omega), zup_n _ _ _ (by omega), pu_n P v (show 40 + k ≠ 50 + i by omega), pu_n P v (show 60 + k ≠ 50 + i by omega), pu_n P v (show 70 + k ≠ 50 + i by omega)]
      refine ⟨this.1, ?_, this.2.2⟩
      by_cases hki : k = i
      · subst hki; rw [upd_s, pu_s]
      · rw [upd_n _ _ hki, pu_n P v (by omega)]; exact this.2.1
    · rw [zup_s, zup_n _ _ _ (by omega), zup_n _ _ _ (by omega), zup_n _ _ _ (by omega), pu_n P v (show 40 + k ≠ 70 + i by omega), pu_n P v (show 50 + k ≠ 70 + i by omega), pu_n P v (show 60 + k ≠ 70 + i by omega)]
      refine ⟨this.1, this.2.1, this.2.2.1, ?_⟩
      by_cases hki : k = i
      · subst hki; rw [upd_s, pu_s]
      · rw [upd_n _ _ hki, pu_n P v (by omega)]; exact this.2.2.2
theorem CR.same {w : zW} {b : Nat} {P Q : zP} (h : CR w b P) (hs : m_same P Q) : CR w b Q := by
  obtain ⟨⟨a0, a4, a9, a10, a11, a12, a13, a14, a15⟩, hp, hw⟩ := h
  obtain ⟨s1, s2, s3⟩ := hs
  have e0 := s1 0 (by decide)
  have e1 := s1 1 (by decide)
  refine ⟨⟨by rw [a0, e0], by rw [a4, e1], by rw [a9, s1 5 (by decide)], by rw [a10, s1 2 (by decide)], by rw [a11, s1 3 (by decide)], by rw [a12, s1 4 (by decide)], by rw [a13, s1 6 (by decide)], by rw [a14, s1 7 (by decide)], by rw [a15, s1 8 (by decide)]⟩, fun p hpp => ?_, fun i hi => ?_⟩
  · rw [e0] at hpp
    rw [(s2 p hpp).1, (s2 p hpp).2.1, (s2 p hpp).2.2]
    exact hp p hpp
  · rw [e1] at hi
    rw [(s3 i hi).1, (s3 i hi).2.1, (s3 i hi).2.2.1, (s3 i hi).2.2.2]
    exact hw i hi
