/-! What holds between the two after every step -/
def JN (w : zW) (P : zP) : Prop := CR w 2 P ∧ PR w 0 0 P ∧ Ok P ∧ P 4 < 1000 ∧ w 56 2 = nI (P 0)
def JT (w : zW) : Prop := ∃ n, n ≤ 160 ∧ w 0 1 = nI n ∧ w 56 18 = nI n ∧ ∀ i, i < n → ∃ c, c ≤ 127 ∧ w 1 i = nI c ∧ w 63 i = nI c
def JS (w : zW) : Prop := ∃ n, n ≤ 6 ∧ w 0 11 = nI n ∧ w 56 30 = nI n ∧ ∀ i, i < n → ∃ h c, 1 ≤ h ∧ h ≤ 24 ∧ c ≤ 60 ∧ w 45 i = nI h ∧ w 66 (2 * i) = nI h ∧ w 46 i = nI c ∧ w 66 (2 * i + 1) = nI c
def JK1 (w : zW) (k : Nat) : Prop := (w 44 k = 0 ∧ w 67 k = 0) ∨ (w 44 k = 1 ∧ w 67 k = 1 ∧ ∃ Q : zP, CR w (26 + 8 * k) Q ∧ PR w (20 * (k + 1)) 0 Q ∧ Ok Q ∧ Q 4 < 1000)
def JK (w : zW) : Prop := ∀ k, k < 2 → JK1 w k
def JH1 (w : zW) (i : Nat) : Prop := (w (48 + 2 * i) 2 = -1 ∧ w 68 i = -4) ∨ ∃ L n, L ≤ 2 ∧ n ≤ 40 ∧ w (48 + 2 * i) 1 = nI L ∧ w (48 + 2 * i) 2 = nI n ∧ w 68 i = nI L ∧ w 69 i = nI n ∧ ∀ j, j < 40 → w (49 + 2 * i) j = w 70 (40 * i + j)
def JH (w : zW) : Prop := ∀ i, i < 4 → JH1 w i
def JF (w : zW) : Prop := w 56 19 = w 0 2 ∧ w 56 35 = w 0 13 ∧ w 64 = zw0 64 ∧ w 65 = zw0 65
def zJ (w : zW) : Prop := (∃ P, JN w P) ∧ JT w ∧ JS w ∧ JK w ∧ JH w ∧ JF w
theorem CR.eqs {w w' : zW} {b : Nat} {P : zP} (h : CR w b P) (hk : ∀ k, b ≤ k → k ≤ b + 7 → w' k = w k) : CR w' b P := h.frame hk
theorem JT.fr {w w' : zW} (h : JT w) (h0 : w' 0 1 = w 0 1) (h1 : w' 1 = w 1) (h2 : w' 56 18 = w 56 18) (h3 : w' 63 = w 63) : JT w' := by
  unfold JT
  rw [h0, h1, h2, h3]
  exact h
theorem JS.fr {w w' : zW} (h : JS w) (h0 : w' 0 11 = w 0 11) (h1 : w' 45 = w 45) (h2 : w' 46 = w 46) (h3 : w' 56 30 = w 56 30) (h4 : w' 66 = w 66) : JS w' := by
  unfold JS
  rw [h0, h1, h2, h3, h4]
  exact h
theorem JK1.fr {w w' : zW} {k : Nat} (h : JK1 w k) (h0 : w' 44 k = w 44 k) (h1 : w' 67 k = w 67 k) (h2 : ∀ j, 26 + 8 * k ≤ j → j < 26 + 8 * k + 8 → w' j = w j) (h3 : ∀ j, 4 ≤ j → j ≤ 7 → w' 56 j = w 56 j) (h4 : ∀ j, 20 * (k + 1) ≤ j → j < 20 * (k + 1) + 20 → w' 57 j = w 57 j) (h5 : w' 58 = w 58) (h6 : w' 59 = w 59) : JK1 w' k := by
  rcases h with h | ⟨a, b, Q, c, d, e, f⟩
  · exact .inl ⟨by rw [h0]; exact h.1, by rw [h1]; exact h.2⟩
  · refine .inr ⟨by rw [h0]; exact a, by rw [h1]; exact b, Q, ?_, ?_, e, f⟩
    · exact c.frame (fun j ha hb => h2 j ha (by omega))
    · exact d.frame (by have := e.1.1; omega) e.1.2.1 h3 h4 h5 h6
theorem JK.fr {w w' : zW} (h : JK w) (h0 : w' 44 = w 44) (h1 : w' 67 = w 67) (h2 : ∀ j, 26 ≤ j → j < 42 → w' j = w j) (h3 : ∀ j, 4 ≤ j → j ≤ 7 → w' 56 j = w 56 j) (h4 : ∀ j, 20 ≤ j → j < 60 → w' 57 j = w 57 j) (h5 : w' 58 = w 58) (h6 : w' 59 = w 59) : JK w' :=
  fun k hk => (h k hk).fr (by rw [h0]) (by rw [h1]) (fun j a b => h2 j (by omega) (by omega)) h3 (fun j a b => h4 j (by omega) (by omega)) h5 h6
theorem JH1.fr {w w' : zW} {i : Nat} (h : JH1 w i) (h0 : w' (48 + 2 * i) = w (48 + 2 * i)) (h1 : w' (49 + 2 * i) = w (49 + 2 * i)) (h2 : w' 68 i = w 68 i) (h3 : w' 69 i = w 69 i) (h4 : ∀ j, j < 40 → w' 70 (40 * i + j) = w 70 (40 * i + j)) : JH1 w' i := by
  unfold JH1
  rw [h0, h1, h2, h3]
  rcases h with h | ⟨L, n, a, b, c, d, e, f, g⟩
  · exact .inl h
  · exact .inr ⟨L, n, a, b, c, d, e, f, fun j hj => by rw [h4 j hj]; exact g j hj⟩
theorem JH.fr {w w' : zW} (h : JH w) (h0 : ∀ j, 48 ≤ j → j < 56 → w' j = w j) (h1 : w' 68 = w 68) (h2 : w' 69 = w 69) (h3 : w' 70 = w 70) : JH w' :=
  fun i hi => (h i hi).fr (h0 _ (by omega) (by omega)) (h0 _ (by omega) (by omega)) (by rw [h1]) (by rw [h2]) (fun j _ => by rw [h3])
theorem JF.fr {w w' : zW} (h : JF w) (h0 : w' 0 2 = w 0 2) (h1 : w' 0 13 = w 0 13) (h2 : w' 56 19 = w 56 19) (h3 : w' 56 35 = w 56 35) (h4 : w' 64 = w 64) (h5 : w' 65 = w 65) : JF w' := by
  unfold JF
  rw [h0, h1, h2, h3, h4, h5]
  exact h
theorem JN.cl {w w' : zW} {P : zP} (h : JN w P) (hk : ∀ k, (2 ≤ k ∧ k < 10) ∨ 56 ≤ k → w' k = w k) : JN w' P := by
  obtain ⟨a, b, c, d, e⟩ := h
  refine ⟨a.frame (fun k x y => hk k (by omega)), ?_, c, d, by rw [hk 56 (by decide)]; exact e⟩
  exact b.frame (by have := c.1.1; omega) c.1.2.1 (fun j _ _ => by rw [hk 56 (by decide)]) (fun j _ _ => by rw [hk 57 (by decide)]) (hk 58 (by decide)) (hk 59 (by decide))
/-- frames: what a step of the program may write, what a step of the reference may write -/
def zFQ (w w' : zW) : Prop := ∀ k, ¬ (10 ≤ k ∧ k < 26) → w' k = w k
def zFN (w w' : zW) : Prop := ∀ k, ¬ (2 ≤ k ∧ k < 26) → w' k = w k
def zMQ (w w' : zW) : Prop := (∀ k, k ≠ 56 → k ≠ 57 → w' k = w k) ∧ (∀ j, j < 60 → w' 57 j = w 57 j) ∧ ∀ j, j ≠ 28 → w' 56 j = w 56 j
def zMN (w w' : zW) : Prop := (∀ k, k ≠ 56 → k ≠ 57 → w' k = w k) ∧ (∀ j, 20 ≤ j → j < 60 → w' 57 j = w 57 j) ∧ ∀ j, j ≠ 28 → w' 56 j = w 56 j
theorem zFQ.rf {w : zW} : zFQ w w := fun _ _ => rfl
theorem zFQ.tr {w w1 w2 : zW} (h : zFQ w w1) (k : zFQ w1 w2) : zFQ w w2 := fun j a => (k j a).trans (h j a)
theorem zFQ.n {w w1 : zW} (h : zFQ w w1) : zFN w w1 := fun j a => h j (by omega)
theorem zFN.rf {w : zW} : zFN w w := fun _ _ => rfl
theorem zFN.tr {w w1 w2 : zW} (h : zFN w w1) (k : zFN w1 w2) : zFN w w2 := fun j a => (k j a).trans (h j a)
theorem zMQ.rf {w : zW} : zMQ w w := ⟨fun _ _ _ => rfl, fun _ _ => rfl, fun _ _ => rfl⟩
theorem zMQ.tr {w w1 w2 : zW} (h : zMQ w w1) (k : zMQ w1 w2) : zMQ w w2 := ⟨fun j a b => (k.1 j a b).trans (h.1 j a b), fun j a => (k.2.1 j a).trans (h.2.1 j a), fun j a => (k.2.2 j a).trans (h.2.2 j a)⟩
theorem zMQ.n {w w1 : zW} (h : zMQ w w1) : zMN w w1 := ⟨h.1, fun j _ b => h.2.1 j b, h.2.2⟩
theorem zMN.rf {w : zW} : zMN w w := zMQ.rf.n
theorem zMN.tr {w w1 w2 : zW} (h : zMN w w1) (k : zMN w1 w2) : zMN w w2 := ⟨fun j a b => (k.1 j a b).trans (h.1 j a b), fun j a b => (k.2.1 j a b).trans (h.2.1 j a b), fun j a => (k.2.2 j a).trans (h.2.2 j a)⟩
theorem Fr.q10 {w w' : zW} (h : Fr 10 w w') : zFQ w w' := fun k a => h k (by omega)
theorem Fr.q18 {w w' : zW} (h : Fr 18 w w') : zFQ w w' := fun k a => h k (by omega)
theorem Fr.n2 {w w' : zW} (h : Fr 2 w w') : zFN w w' := fun k a => h k (by omega)
theorem FrM.q {g : Nat} {w w' : zW} (h : FrM g w w') (hg : 60 ≤ g) : zMQ w w' := ⟨fun k _ a => h.1 k a, fun j a => h.2 j (by omega), fun j _ => by rw [h.1 56 (by decide)]⟩
theorem FrM.n0 {w w' : zW} (h : FrM 0 w w') : zMN w w' := ⟨fun k _ a => h.1 k a, fun j a _ => h.2 j (by omega), fun j _ => by rw [h.1 56 (by decide)]⟩
theorem FrA.q {w w' : zW} (h : FrA w w') : zMQ w w' := ⟨fun k a b => h.1 k b a, fun j a => h.2.1 j (by omega), h.2.2⟩
theorem zMQ.up {w : zW} {j : Nat} (x : Int32) (h : 60 ≤ j) : zMQ w (zup w 57 j x) := ⟨fun k _ b => zup_n w j x b, fun i a => by rw [zup_s, upd_n _ _ (by omega)], fun i _ => by rw [zup_n _ _ _ (by decide)]⟩
theorem zFQ.up {w : zW} {k j : Nat} (x : Int32) (h : 10 ≤ k ∧ k < 26) : zFQ w (zup w k j x) := fun i a => zup_n w j x (by omega)
theorem zFN.up {w : zW} {k j : Nat} (x : Int32) (h : 2 ≤ k ∧ k < 26) : zFN w (zup w k j x) := fun i a => zup_n w j x (by omega)
theorem zMN.up {w : zW} {j : Nat} (x : Int32) (h : j < 20 ∨ 60 ≤ j) : zMN w (zup w 57 j x) := ⟨fun k _ b => zup_n w j x b, fun i a b => by rw [zup_s, upd_n _ _ (by omega)], fun i _ => by rw [zup_n _ _ _ (by decide)]⟩
theorem zJ.n {w w1 w2 : zW} {P : zP} (h : zJ w) (hf : zFN w w1) (hm : zMN w1 w2) (hN : JN w2 P) : zJ w2 := by
  obtain ⟨-, hT, hS, hK, hH, hF⟩ := h
  have e : ∀ k, ¬ (2 ≤ k ∧ k < 26) → k ≠ 56 → k ≠ 57 → w2 k = w k := fun k a b c => (hm.1 k b c).trans (hf k a)
  have e6 : ∀ j, j ≠ 28 → w2 56 j = w 56 j := fun j hj => (hm.2.2 j hj).trans (by rw [hf 56 (by decide)])
  have e7 : ∀ j, 20 ≤ j → j < 60 → w2 57 j = w 57 j := fun j a b => (hm.2.1 j a b).trans (by rw [hf 57 (by decide)])
  refine ⟨⟨P, hN⟩, ?_, ?_, ?_, ?_, ?_⟩
  · exact hT.fr (by rw [e 0 (by decide) (by decide) (by decide)]) (e 1 (by decide) (by decide) (by decide)) (e6 _ (by decide)) (e 63 (by decide) (by decide) (by decide))
  · exact hS.fr (by rw [e 0 (by decide) (by decide) (by decide)]) (e 45 (by decide) (by decide) (by decide)) (e 46 (by decide) (by decide) (by decide)) (e6 _ (by decide)) (e 66 (by decide) (by decide) (by decide))
  · exact hK.fr (e 44 (by decide) (by decide) (by decide)) (e 67 (by decide) (by decide) (by decide)) (fun j a b => e j (by omega) (by omega) (by omega)) (fun j a b => e6 j (by omega)) e7 (e 58 (by decide) (by decide) (by decide)) (e 59 (by decide) (by decide) (by decide))
  · exact hH.fr (fun j a b => e j (by omega) (by omega) (by omega)) (e 68 (by decide) (by decide) (by decide)) (e 69 (by decide) (by decide) (by decide)) (e 70 (by decide) (by decide) (by decide))
  · exact hF.fr (by rw [e 0 (by decide) (by decide) (by decide)]) (by rw [e 0 (by decide) (by decide) (by decide)]) (e6 _ (by decide)) (e6 _ (by decide)) (e 64 (by decide) (by decide) (by decide)) (e 65 (by decide) (by decide) (by decide))
theorem JN.q {w w1 w2 : zW} {P : zP} (hN : JN w P) (hf : zFQ w w1) (hm : zMQ w1 w2) : JN w2 P := by
  obtain ⟨a, b, c, d, e⟩ := hN
  have e6 : ∀ j, j ≠ 28 → w2 56 j = w 56 j := fun j hj => (hm.2.2 j hj).trans (by rw [hf 56 (by decide)])
  refine ⟨a.frame (fun k x y => (hm.1 k (by omega) (by omega)).trans (hf k (by omega))), ?_, c, d, by rw [e6 2 (by decide)]; exact e⟩
  exact b.frame (by have := c.1.1; omega) c.1.2.1 (fun j x y => e6 j (by omega)) (fun j x y => (hm.2.1 j (by omega)).trans (by rw [hf 57 (by decide)])) ((hm.1 58 (by decide) (by decide)).trans (hf 58 (by decide))) ((hm.1 59 (by decide) (by decide)).trans (hf 59 (by decide)))
theorem zJ.q {w w1 w2 : zW} (h : zJ w) (hf : zFQ w w1) (hm : zMQ w1 w2) : zJ w2 := by
  obtain ⟨P, hN⟩ := h.1
  exact h.n hf.n hm.n (hN.q hf hm)
theorem winL (x : Int32) (hi : Nat) (hh : hi < 2 ^ 31) : f_X3_within x 0 (nI hi) = 0 ∨ (f_X3_within x 0 (nI hi) = 1 ∧ ∃ p, p ≤ hi ∧ x = nI p) := by
  rcases win_cases x 0 hi hh with h | ⟨h, p, -, h2, h3⟩ | h
  · exact .inl h
  · exact .inr ⟨h, p, h2, h3⟩
  · omega
theorem zJ.cl {w w1 : zW} {P : zP} (hN : JN w P) (hf : zFQ w w1) : CR w1 2 P ∧ PR w1 0 0 P := by
  have h := hN.q hf (zMQ.rf (w := w1))
  exact ⟨h.1, h.2.1⟩
