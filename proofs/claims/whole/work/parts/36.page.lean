/-! A page of the reference at places g .. g+19 of its state holds the company P, whose first is number fr there -/
def PR (w : zW) (g fr : Nat) (P : zP) : Prop :=
  (w 56 4 = nI (P 1) ∧ w 56 5 = nI (P 2) ∧ w 56 6 = nI fr ∧ w 56 7 = nI (P 0)) ∧
  (w 57 (g + 8) = nI (P 5) ∧ w 57 (g + 9) = nI (P 3) ∧ w 57 (g + 10) + 18 = nI (P 4) ∧ w 57 (g + 11) = nI (P 6) ∧ w 57 (g + 12) = nI (P 7) ∧ w 57 (g + 13) = nI (P 8)) ∧
  (∀ p, p < P 0 → w 57 (g + (fr + p)) = nI (P (10 + p)) ∧ w 58 (fr + p) = nI (P (20 + p)) ∧ w 57 (g + 4 + (fr + p)) = nI (P (30 + p))) ∧
  ∀ i, i < P 1 → w 59 (2 * i) = nI (P (40 + i)) ∧ w 57 (g + 17 + i) = nI (P (50 + i)) ∧ w 59 (2 * i + 1) = nI (P (60 + i)) ∧ w 57 (g + 14 + i) = nI (1 - P (70 + i))
theorem PR.wl {w : zW} {g fr : Nat} {P : zP} (h : PR w g fr P) : w 56 4 = nI (P 1) := h.1.1
theorem PR.gl {w : zW} {g fr : Nat} {P : zP} (h : PR w g fr P) : w 56 5 = nI (P 2) := h.1.2.1
theorem PR.fr {w : zW} {g fr : Nat} {P : zP} (h : PR w g fr P) : w 56 6 = nI fr := h.1.2.2.1
theorem PR.n {w : zW} {g fr : Nat} {P : zP} (h : PR w g fr P) : w 56 7 = nI (P 0) := h.1.2.2.2
theorem PR.bt {w : zW} {g fr : Nat} {P : zP} (h : PR w g fr P) : w 57 (g + 8) = nI (P 5) := h.2.1.1
theorem PR.ml {w : zW} {g fr : Nat} {P : zP} (h : PR w g fr P) : w 57 (g + 9) = nI (P 3) := h.2.1.2.1
theorem PR.hr {w : zW} {g fr : Nat} {P : zP} (h : PR w g fr P) : w 57 (g + 10) + 18 = nI (P 4) := h.2.1.2.2.1
theorem PR.pl {w : zW} {g fr : Nat} {P : zP} (h : PR w g fr P) : w 57 (g + 11) = nI (P 6) := h.2.1.2.2.2.1
theorem PR.cl {w : zW} {g fr : Nat} {P : zP} (h : PR w g fr P) : w 57 (g + 12) = nI (P 7) := h.2.1.2.2.2.2.1
theorem PR.fd {w : zW} {g fr : Nat} {P : zP} (h : PR w g fr P) : w 57 (g + 13) = nI (P 8) := h.2.1.2.2.2.2.2
theorem PR.kd {w : zW} {g fr : Nat} {P : zP} (h : PR w g fr P) {p : Nat} (hp : p < P 0) : w 57 (g + (fr + p)) = nI (P (10 + p)) := (h.2.2.1 p hp).1
theorem PR.sz {w : zW} {g fr : Nat} {P : zP} (h : PR w g fr P) {p : Nat} (hp : p < P 0) : w 58 (fr + p) = nI (P (20 + p)) := (h.2.2.1 p hp).2.1
theorem PR.lv {w : zW} {g fr : Nat} {P : zP} (h : PR w g fr P) {p : Nat} (hp : p < P 0) : w 57 (g + 4 + (fr + p)) = nI (P (30 + p)) := (h.2.2.1 p hp).2.2
theorem PR.w4 {w : zW} {g fr : Nat} {P : zP} (h : PR w g fr P) {i : Nat} (hi : i < P 1) : w 59 (2 * i) = nI (P (40 + i)) := (h.2.2.2 i hi).1
theorem PR.w5 {w : zW} {g fr : Nat} {P : zP} (h : PR w g fr P) {i : Nat} (hi : i < P 1) : w 57 (g + 17 + i) = nI (P (50 + i)) := (h.2.2.2 i hi).2.1
theorem PR.w6 {w : zW} {g fr : Nat} {P : zP} (h : PR w g fr P) {i : Nat} (hi : i < P 1) : w 59 (2 * i + 1) = nI (P (60 + i)) := (h.2.2.2 i hi).2.2.1
theorem PR.w7 {w : zW} {g fr : Nat} {P : zP} (h : PR w g fr P) {i : Nat} (hi : i < P 1) : w 57 (g + 14 + i) = nI (1 - P (70 + i)) := (h.2.2.2 i hi).2.2.2
/-- nothing but a page changes -/
def FrM (g : Nat) (w w' : zW) : Prop := (∀ k, k ≠ 57 → w' k = w k) ∧ ∀ j, (j < g ∨ g + 20 ≤ j) → w' 57 j = w 57 j
theorem FrM.rf {g : Nat} {w : zW} : FrM g w w := ⟨fun _ _ => rfl, fun _ _ => rfl⟩
theorem FrM.tr {g : Nat} {w w1 w2 : zW} (h : FrM g w w1) (k : FrM g w1 w2) : FrM g w w2 := ⟨fun j hj => (k.1 j hj).trans (h.1 j hj), fun j hj => (k.2 j hj).trans (h.2 j hj)⟩
theorem FrM.up {g : Nat} (w : zW) {j : Nat} (x : Int32) (h : g ≤ j ∧ j < g + 20) : FrM g w (zup w 57 j x) := ⟨fun k hk => zup_n w j x hk, fun k hk => by rw [zup_s, upd_n _ _ (by omega)]⟩
theorem PR.frame {w w' : zW} {g fr : Nat} {P : zP} (h : PR w g fr P) (h4 : fr + P 0 ≤ 4) (h3 : P 1 ≤ 3) (h56 : ∀ j, 4 ≤ j → j ≤ 7 → w' 56 j = w 56 j) (h57 : ∀ j, g ≤ j → j < g + 20 → w' 57 j = w 57 j) (h58 : w' 58 = w 58) (h59 : w' 59 = w 59) : PR w' g fr P := by
  obtain ⟨⟨a1, a2, a3, a4⟩, ⟨b1, b2, b3, b4, b5, b6⟩, hp, hw⟩ := h
  refine ⟨⟨?_, ?_, ?_, ?_⟩, ⟨?_, ?_, ?_, ?_, ?_, ?_⟩, fun p hpp => ?_, fun i hi => ?_⟩
  · rw [h56 _ (by decide) (by decide)]; exact a1
  · rw [h56 _ (by decide) (by decide)]; exact a2
  · rw [h56 _ (by decide) (by decide)]; exact a3
  · rw [h56 _ (by decide) (by decide)]; exact a4
  · rw [h57 _ (by omega) (by omega)]; exact b1
  · rw [h57 _ (by omega) (by omega)]; exact b2
  · rw [h57 _ (by omega) (by omega)]; exact b3
  · rw [h57 _ (by omega) (by omega)]; exact b4
  · rw [h57 _ (by omega) (by omega)]; exact b5
  · rw [h57 _ (by omega) (by omega)]; exact b6
  · rw [h57 _ (by omega) (by omega), h57 _ (by omega) (by omega), h58]; exact hp p hpp
  · rw [h57 _ (by omega) (by omega), h57 _ (by omega) (by omega), h59]; exact hw i hi
/-- a place of the page is written -/
theorem PR.upc {w : zW} {g fr : Nat} {P Q : zP} (h : PR w g fr P) (h4 : fr + P 0 ≤ 4) (h3 : P 1 ≤ 3) (d : Nat) (x : Int32)
    (q0 : Q 0 = P 0) (q1 : Q 1 = P 1) (q2 : Q 2 = P 2)
    (k5 : if d = 8 then x = nI (Q 5) else Q 5 = P 5) (k3 : if d = 9 then x = nI (Q 3) else Q 3 = P 3) (k4 : if d = 10 then x + 18 = nI (Q 4) else Q 4 = P 4) (k6 : if d = 11 then x = nI (Q 6) else Q 6 = P 6) (k7 : if d = 12 then x = nI (Q 7) else Q 7 = P 7) (k8 : if d = 13 then x = nI (Q 8) else Q 8 = P 8)
    (kp : ∀ p, p < P 0 → (if d = fr + p then x = nI (Q (10 + p)) else Q (10 + p) = P (10 + p)) ∧ Q (20 + p) = P (20 + p) ∧ (if d = 4 + (fr + p) then x = nI (Q (30 + p)) else Q (30 + p) = P (30 + p)))
    (kw : ∀ i, i < P 1 → Q (40 + i) = P (40 + i) ∧ (if d = 17 + i then x = nI (Q (50 + i)) else Q (50 + i) = P (50 + i)) ∧ Q (60 + i) = P (60 + i) ∧ (if d = 14 + i then x = nI (1 - Q (70 + i)) else Q (70 + i) = P (70 + i))) : PR (zup w 57 (g + d) x) g fr Q := by
  obtain ⟨⟨a1, a2, a3, a4⟩, ⟨b1, b2, b3, b4, b5, b6⟩, hp, hw⟩ := h
  have e56 : zup w 57 (g + d) x 56 = w 56 := zup_n _ _ _ (by decide)
  have e58 : zup w 57 (g + d) x 58 = w 58 := zup_n _ _ _ (by decide)
  have e59 : zup w 57 (g + d) x 59 = w 59 := zup_n _ _ _ (by decide)
  have e57 : ∀ o, zup w 57 (g + d) x 57 (g + o) = if d = o then x else w 57 (g + o) := by
    intro o
    rw [zup_s]
    by_cases c : d = o
    · subst c; rw [upd_s, if_pos rfl]
    · rw [upd_n _ _ (by omega), if_neg c]
  refine ⟨⟨?_, ?_, ?_, ?_⟩, ⟨?_, ?_, ?_, ?_, ?_, ?_⟩, fun p hpp => ?_, fun i hi => ?_⟩
  · rw [e56, q1]; exact a1
  · rw [e56, q2]; exact a2
  · rw [e56]; exact a3
  · rw [e56, q0]; exact a4
  · rw [e57]; by_cases c : d = 8
    · rw [if_pos c] at k5 ⊢; exact k5
    · rw [if_neg c] at k5 ⊢; rw [k5]; exact b1
  · rw [e57]; by_cases c : d = 9
    · rw [if_pos c] at k3 ⊢; exact k3
    · rw [if_neg c] at k3 ⊢; rw [k3]; exact b2
  · rw [e57]; by_cases c : d = 10
    · rw [if_pos c] at k4 ⊢; exact k4
    · rw [if_neg c] at k4 ⊢; rw [k4]; exact b3
  · rw [e57]; by_cases c : d = 11
    · rw [if_pos c] at k6 ⊢; exact k6
    · rw [if_neg c] at k6 ⊢; rw [k6]; exact b4
  · rw [e57]; by_cases c : d = 12
    · rw [if_pos c] at k7 ⊢; exact k7
    · rw [if_neg c] at k7 ⊢; rw [k7]; exact b5
  · rw [e57]; by_cases c : d = 13
    · rw [if_pos c] at k8 ⊢; exact k8
    · rw [if_neg c] at k8 ⊢; rw [k8]; exact b6
  · rw [q0] at hpp
    obtain ⟨s1, s2, s3⟩ := hp p hpp
    obtain ⟨t1, t2, t3⟩ := kp p hpp
    refine ⟨?_, by rw [e58, t2]; exact s2, ?_⟩
    · rw [e57]; by_cases c : d = fr + p
      · rw [if_pos c] at t1 ⊢; exact t1
      · rw [if_neg c] at t1 ⊢; rw [t1]; exact s1
    · rw [Nat.add_assoc g 4, e57]; by_cases c : d = 4 + (fr + p)
      · rw [if_pos c] at t3 ⊢; exact t3
      · rw [if_neg c] at t3 ⊢; rw [t3, ← Nat.add_assoc]; exact s3
  · rw [q1] at hi
    obtain ⟨s1, s2, s3, s4⟩ := hw i hi
    obtain ⟨t1, t2, t3, t4⟩ := kw i hi
    refine ⟨by rw [e59, t1]; exact s1, ?_, by rw [e59, t3]; exact s3, ?_⟩
    · rw [Nat.add_assoc g 17, e57]; by_cases c : d = 17 + i
      · rw [if_pos c] at t2 ⊢; exact t2
      · rw [if_neg c] at t2 ⊢; rw [t2, ← Nat.add_assoc]; exact s2
    · rw [Nat.add_assoc g 14, e57]; by_cases c : d = 14 + i
      · rw [if_pos c] at t4 ⊢; exact t4
      · rw [if_neg c] at t4 ⊢; rw [t4, ← Nat.add_assoc]; exact s4
theorem PR.f0 {w : zW} {g fr : Nat} {P : zP} (h : PR w g fr P) (h4 : fr + P 0 ≤ 4) (h3 : P 1 ≤ 3) (d c v : Nat) (hd : (d = 8 ∧ c = 5) ∨ (d = 9 ∧ c = 3) ∨ (d = 11 ∧ c = 6) ∨ (d = 12 ∧ c = 7) ∨ (d = 13 ∧ c = 8)) : PR (zup w 57 (g + d) (nI v)) g fr (pu P c v) := by
  have e : ∀ k, k ≠ c → pu P c v k = P k := fun k hk => pu_n P v hk
  refine h.upc h4 h3 d (nI v) (e 0 (by omega)) (e 1 (by omega)) (e 2 (by omega)) ?_ ?_ ?_ ?_ ?_ ?_ (fun p hp => ⟨?_, e _ (by omega), ?_⟩) (fun i hi => ⟨e _ (by omega), ?_, e _ (by omega), ?_⟩)
  · rcases hd with ⟨rfl, rfl⟩ | ⟨rfl, rfl⟩ | ⟨rfl, rfl⟩ | ⟨rfl, rfl⟩ | ⟨rfl, rfl⟩ <;> simp [pu]
  · rcases hd with ⟨rfl, rfl⟩ | ⟨rfl, rfl⟩ | ⟨rfl, rfl⟩ | ⟨rfl, rfl⟩ | ⟨rfl, rfl⟩ <;> simp [pu]
  · rw [if_neg (by omega)]; exact e _ (by omega)
  · rcases hd with ⟨rfl, rfl⟩ | ⟨rfl, rfl⟩ | ⟨rfl, rfl⟩ | ⟨rfl, rfl⟩ | ⟨rfl, rfl⟩ <;> simp [pu]
  · rcases hd with ⟨rfl, rfl⟩ | ⟨rfl, rfl⟩ | ⟨rfl, rfl⟩ | ⟨rfl, rfl⟩ | ⟨rfl, rfl⟩ <;> simp [pu]
  · rcases hd with ⟨rfl, rfl⟩ | ⟨rfl, rfl⟩ | ⟨rfl, rfl⟩ | ⟨rfl, rfl⟩ | ⟨rfl, rfl⟩ <;> simp [pu]
  · rw [if_neg (by omega)]; exact e _ (by omega)
  · rw [if_neg (by omega)]; exact e _ (by omega)
  · rw [if_neg (by omega)]; exact e _ (by omega)
  · rw [if_neg (by omega)]; exact e _ (by omega)
theorem PR.fh {w : zW} {g fr : Nat} {P : zP} (h : PR w g fr P) (h4 : fr + P 0 ≤ 4) (h3 : P 1 ≤ 3) (v : Nat) {x : Int32} (hx : x + 18 = nI v) : PR (zup w 57 (g + 10) x) g fr (pu P 4 v) := by
  have e : ∀ k, k ≠ 4 → pu P 4 v k = P k := fun k hk => pu_n P v hk
  refine h.upc h4 h3 10 x (e 0 (by omega)) (e 1 (by omega)) (e 2 (by omega)) ?_ ?_ ?_ ?_ ?_ ?_ (fun p hp => ⟨?_, e _ (by omega), ?_⟩) (fun i hi => ⟨e _ (by omega), ?_, e _ (by omega), ?_⟩)
  · rw [if_neg (by omega)]; exact e _ (by omega)
  · rw [if_neg (by omega)]; exact e _ (by omega)
  · rw [if_pos rfl, pu_s]; exact hx
  · rw [if_neg (by omega)]; exact e _ (by omega)
  · rw [if_neg (by omega)]; exact e _ (by omega)
  · rw [if_neg (by omega)]; exact e _ (by omega)
  · rw [if_neg (by omega)]; exact e _ (by omega)
  · rw [if_neg (by omega)]; exact e _ (by omega)
  · rw [if_neg (by omega)]; exact e _ (by omega)
  · rw [if_neg (by omega)]; exact e _ (by omega)
theorem PR.fl {w : zW} {g fr : Nat} {P : zP} (h : PR w g fr P) (h4 : fr + P 0 ≤ 4) (h3 : P 1 ≤ 3) {p : Nat} (hp : p < P 0) (v : Nat) : PR (zup w 57 (g + 4 + (fr + p)) (nI v)) g fr (pu P (30 + p) v) := by
  have e : ∀ k, k ≠ 30 + p → pu P (30 + p) v k = P k := fun k hk => pu_n P v hk
  rw [Nat.add_assoc g 4]
  refine h.upc h4 h3 (4 + (fr + p)) (nI v) (e 0 (by omega)) (e 1 (by omega)) (e 2 (by omega)) ?_ ?_ ?_ ?_ ?_ ?_ (fun q hq => ⟨?_, e _ (by omega), ?_⟩) (fun i hi => ⟨e _ (by omega), ?_, e _ (by omega), ?_⟩)
  · rw [if_neg (by omega)]; exact e _ (by omega)
  · rw [if_neg (by omega)]; exact e _ (by omega)
  · rw [if_neg (by omega)]; exact e _ (by omega)
  · rw [if_neg (by omega)]; exact e _ (by omega)
  · rw [if_neg (by omega)]; exact e _ (by omega)
  · rw [if_neg (by omega)]; exact e _ (by omega)
  · rw [if_neg (by omega)]; exact e _ (by omega)
  · by_cases c : q = p
    · subst c; rw [if_pos rfl, pu_s]
    · rw [if_neg (by omega)]; exact e _ (by omega)
  · rw [if_neg (by omega)]; exact e _ (by omega)
  · rw [if_neg (by omega)]; exact e _ (by omega)
theorem PR.fk {w : zW} {g fr : Nat} {P : zP} (h : PR w g fr P) (h4 : fr + P 0 ≤ 4) (h3 : P 1 ≤ 3) {p : Nat} (hp : p < P 0) (v : Nat) : PR (zup w 57 (g + (fr + p)) (nI v)) g fr (pu P (10 + p) v) := by
  have e : ∀ k, k ≠ 10 + p → pu P (10 + p) v k = P k := fun k hk => pu_n P v hk
  refine h.upc h4 h3 (fr + p) (nI v) (e 0 (by omega)) (e 1 (by omega)) (e 2 (by omega)) ?_ ?_ ?_ ?_ ?_ ?_ (fun q hq => ⟨?_, e _ (by omega), ?_⟩) (fun i hi => ⟨e _ (by omega), ?_, e _ (by omega), ?_⟩)
  · rw [if_neg (by omega)]; exact e _ (by omega)
  · rw [if_neg (by omega)]; exact e _ (by omega)
  · rw [if_neg (by omega)]; exact e _ (by omega)
  · rw [if_neg (by omega)]; exact e _ (by omega)
  · rw [if_neg (by omega)]; exact e _ (by omega)
  · rw [if_neg (by omega)]; exact e _ (by omega)
  · by_cases c : q = p
    · subst c; rw [if_pos rfl, pu_s]
    · rw [if_neg (by omega)]; exact e _ (by omega)
  · rw [if_neg (by omega)]; exact e _ (by omega)
  · rw [if_neg (by omega)]; exact e _ (by omega)
  · rw [if_neg (by omega)]; exact e _ (by omega)
theorem PR.fw {w : zW} {g fr : Nat} {P : zP} (h : PR w g fr P) (h4 : fr + P 0 ≤ 4) (h3 : P 1 ≤ 3) {i : Nat} (hi : i < P 1) (v : Nat) : PR (zup w 57 (g + 14 + i) (nI (1 - v))) g fr (pu P (70 + i) v) := by
  have e : ∀ k, k ≠ 70 + i → pu P (70 + i) v k = P k := fun k hk => pu_n P v hk
  rw [Nat.add_assoc g 14]
  refine h.upc h4 h3 (14 + i) (nI (1 - v)) (e 0 (by omega)) (e 1 (by omega)) (e 2 (by omega)) ?_ ?_ ?_ ?_ ?_ ?_ (fun q hq => ⟨?_, e _ (by omega), ?_⟩) (fun k hk => ⟨e _ (by omega), ?_, e _ (by omega), ?_⟩)
  · rw [if_neg (by omega)]; exact e _ (by omega)
  · rw [if_neg (by omega)]; exact e _ (by omega)
  · rw [if_neg (by omega)]; exact e _ (by omega)
  · rw [if_neg (by omega)]; exact e _ (by omega)
  · rw [if_neg (by omega)]; exact e _ (by omega)
  · rw [if_neg (by omega)]; exact e _ (by omega)
  · rw [if_neg (by omega)]; exact e _ (by omega)
  · rw [if_neg (by omega)]; exact e _ (by omega)
  · rw [if_neg (by omega)]; exact e _ (by omega)
  · by_cases c : k = i
    · subst c; rw [if_pos rfl, pu_s]
    · rw [if_neg (by omega)]; exact e _ (by omega)
theorem PR.fo {w : zW} {g fr : Nat} {P : zP} (h : PR w g fr P) (h4 : fr + P 0 ≤ 4) (h3 : P 1 ≤ 3) {i : Nat} (hi : i < P 1) (v : Nat) : PR (zup w 57 (g + 17 + i) (nI v)) g fr (pu P (50 + i) v) := by
  have e : ∀ k, k ≠ 50 + i → pu P (50 + i) v k = P k := fun k hk => pu_n P v hk
  rw [Nat.add_assoc g 17]
  refine h.upc h4 h3 (17 + i) (nI v) (e 0 (by omega)) (e 1 (by omega)) (e 2 (by omega)) ?_ ?_ ?_ ?_ ?_ ?_ (fun q hq => ⟨?_, e _ (by omega), ?_⟩) (fun k hk => ⟨e _ (by omega), ?_, e _ (by omega), ?_⟩)
  · rw [if_neg (by omega)]; exact e _ (by omega)
  · rw [if_neg (by omega)]; exact e _ (by omega)
  · rw [if_neg (by omega)]; exact e _ (by omega)
  · rw [if_neg (by omega)]; exact e _ (by omega)
  · rw [if_neg (by omega)]; exact e _ (by omega)
  · rw [if_neg (by omega)]; exact e _ (by omega)
  · rw [if_neg (by omega)]; exact e _ (by omega)
  · rw [if_neg (by omega)]; exact e _ (by omega)
  · by_cases c : k = i
    · subst c; rw [if_pos rfl, pu_s]
    · rw [if_neg (by omega)]; exact e _ (by omega)
  · rw [if_neg (by omega)]; exact e _ (by omega)
