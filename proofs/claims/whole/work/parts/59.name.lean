/-! names -/
def nl (i : Nat) : Nat := zsl.getD i 0
def mb (i k : Nat) : Nat := zx (zsch i k)
theorem mb_ok : ∀ i, i < 17 → ∀ k, k < nl i → zsch i k = nI (mb i k) ∧ mb i k ≤ 127 := by decide +kernel
theorem nl_le : ∀ i, i < 17 → 3 ≤ nl i ∧ nl i ≤ 8 := by decide +kernel
/-- the reference's n-th name, by the program's numbers; and back -/
def npi (r : Nat) : Nat := [0, 3, 4, 5, 6, 7, 1, 2, 8, 9, 10, 11, 12, 13, 14, 15, 16].getD r 17
def nro (x : Nat) : Nat := [0, 6, 7, 1, 2, 3, 4, 5, 8, 9, 10, 11, 12, 13, 14, 15, 16].getD x 17
theorem npi_ok : ∀ r, r < 17 → npi r < 17 ∧ nro (npi r) = r := by decide +kernel
theorem nro_ok : ∀ x, x < 17 → nro x < 17 ∧ npi (nro x) = x := by decide +kernel
theorem cut_ok : ∀ r, r < 17 → zw0 64 (r + 1) - zw0 64 r = nI (nl (npi r)) ∧ ∀ k, k < nl (npi r) → zin (zw0 64 r + nI k) 74 = true ∧ zw0 65 (zx (zw0 64 r + nI k)) = nI (mb (npi r) k) := by decide +kernel
theorem nm_ne : ∀ i, i < 17 → ∀ j, j < 17 → i ≠ j → nl i ≠ nl j ∨ ¬ ∀ k, k < nl i → mb i k = mb j k := by decide +kernel
def m_eq (c : Nat → Nat) (h i : Nat) : Nat → Nat → Bool
  | 0, _ => true
  | r + 1, k => decide (c (h + k) = mb i k) && m_eq c h i r (k + 1)
theorem m_eq_t (c : Nat → Nat) (h i : Nat) : ∀ r k, m_eq c h i r k = true → ∀ q, k ≤ q → q < k + r → c (h + q) = mb i q
  | 0, k, _, q, h1, h2 => by omega
  | r + 1, k, hm, q, h1, h2 => by
    simp only [m_eq, Bool.and_eq_true, decide_eq_true_eq] at hm
    by_cases e : q = k
    · subst e; exact hm.1
    · exact m_eq_t c h i r (k + 1) hm.2 q (by omega) (by omega)
def NMb (c : Nat → Nat) (N s i : Nat) : Bool := decide (tK c N s = 1) && (decide (tE c N s - tH c N s = nl i) && m_eq c (tH c N s) i (nl i) 0)
theorem NMb_u {c : Nat → Nat} {N s i j : Nat} (hi : i < 17) (hj : j < 17) (h1 : NMb c N s i = true) (h2 : NMb c N s j = true) : i = j := by
  simp only [NMb, Bool.and_eq_true, decide_eq_true_eq] at h1 h2
  by_cases e : i = j
  · exact e
  · exfalso
    have hl : nl i = nl j := h1.2.1.symm.trans h2.2.1
    rcases nm_ne i hi j hj e with d | d
    · exact d hl
    · refine d (fun k hk => ?_)
      rw [← m_eq_t c _ i _ 0 h1.2.2 k (by omega) (by omega), ← m_eq_t c _ j _ 0 h2.2.2 k (by omega) (by omega)]
def m_fx (f : Nat → Bool) : Nat → Nat
  | 0 => 17
  | n + 1 => if f n = true then n else m_fx f n
theorem m_fx_ok (f : Nat → Bool) (hu : ∀ i j, i < 17 → j < 17 → f i = true → f j = true → i = j) : ∀ n, n ≤ 17 → m_fx f n ≤ 17 ∧ (m_fx f n = 17 ∨ (m_fx f n < n ∧ f (m_fx f n) = true)) ∧ (m_fx f n = 17 → ∀ j, j < n → f j = false)
  | 0, _ => ⟨Nat.le_refl _, .inl rfl, fun _ j hj => absurd hj (by omega)⟩
  | n + 1, hn => by
    obtain ⟨a, b, d⟩ := m_fx_ok f hu n (by omega)
    simp only [m_fx]
    by_cases e : f n = true
    · rw [if_pos e]
      exact ⟨by omega, .inr ⟨by omega, e⟩, fun q => absurd q (by omega)⟩
    · rw [if_neg e]
      refine ⟨a, ?_, fun q j hj => ?_⟩
      · rcases b with b | b
        · exact .inl b
        · exact .inr ⟨by omega, b.2⟩
      · by_cases ej : j = n
        · subst ej; exact Bool.eq_false_iff.mpr e
        · exact d q j (by omega)
/-- which name the token is; 17: none -/
def tX (c : Nat → Nat) (N s : Nat) : Nat := m_fx (NMb c N s) 17
theorem tX_ok (c : Nat → Nat) (N s : Nat) : tX c N s ≤ 17 ∧ ∀ j, j < 17 → NMb c N s j = decide (j = tX c N s) := by
  obtain ⟨a, b, d⟩ := m_fx_ok (NMb c N s) (fun i j hi hj h1 h2 => NMb_u hi hj h1 h2) 17 (Nat.le_refl _)
  refine ⟨a, fun j hj => ?_⟩
  show _ = decide (j = m_fx (NMb c N s) 17)
  rcases b with b | ⟨b1, b2⟩
  · rw [d b j hj, decide_eq_false (by omega)]
  · by_cases e : j = m_fx (NMb c N s) 17
    · rw [decide_eq_true e, e, b2]
    · rw [decide_eq_false e]
      exact Bool.eq_false_iff.mpr (fun q => e (NMb_u hj b1 q b2))
theorem k_isName {c : Nat → Nat} {N s : Nat} {w : zW} (h : PT c N w) (hs : s ≤ N) (hp : PC c N s w) {i : Nat} (hi : i < 17) : f_X2_isName w i = some (zbi (decide (i = tX c N s))) := by
  rw [← (tX_ok c N s).2 i hi]
  obtain ⟨h1, h2, h3⟩ := id h
  obtain ⟨p4, p5, p3, -⟩ := hp
  obtain ⟨b1, b2, b3, b4, b5, b6⟩ := t_b c hs
  obtain ⟨l1, l2⟩ := nl_le i hi
  have c1 : nI (tK c N s) = 1 ↔ tK c N s = 1 := nI_eq (b := 1) (by omega) (by decide)
  have hlen : f_J0_length_8abf5 i = nI (nl i) := rfl
  unfold f_X2_isName
  rw [p3, p4, p5, hlen]
  unfold NMb
  by_cases d1 : tK c N s = 1
  · have hlt := b3 (by omega)
    have cl : nI (tE c N s - tH c N s) = nI (nl i) ↔ tE c N s - tH c N s = nl i := nI_eq (by omega) (by omega)
    rw [if_pos (c1.mpr d1), zsub_nI (by omega), decide_eq_true d1, Bool.true_and]
    by_cases d2 : tE c N s - tH c N s = nl i
    · rw [if_pos (cl.mpr d2), decide_eq_true d2, Bool.true_and]
      have key : ∀ (k q n : Nat), q + k = nl i → k < n → zfix1 (b_X2_isName_28 w i) n (nI q) = some (zbi (m_eq c (tH c N s) i k q)) := by
        intro k
        induction k with
        | zero =>
          intro q n hq hn
          obtain ⟨n, rfl⟩ : ∃ m, n = m + 1 := ⟨n - 1, by omega⟩
          show b_X2_isName_28 _ _ (zfix1 _ n) _ = _
          generalize zfix1 (b_X2_isName_28 w i) n = kk
          unfold b_X2_isName_28
          rw [hlen, if_pos (nI_le (by omega) (by omega))]
          rfl
        | succ k ih =>
          intro q n hq hn
          obtain ⟨n, rfl⟩ : ∃ m, n = m + 1 := ⟨n - 1, by omega⟩
          have g1 := ih (q + 1) n (by omega) (by omega)
          obtain ⟨m1, m2⟩ := mb_ok i hi q (by omega)
          obtain ⟨a1, a2⟩ := h2 (tH c N s + q) (by omega)
          have hch : f_J0_charAt_5068e i (nI q) = some (nI (mb i q)) := by
            unfold f_J0_charAt_5068e
            rw [zgt (zin_nI (show q < zsl.getD i 0 from by show q < nl i; omega) (show nl i < 2 ^ 31 by omega)), zxI (by omega), m1]
          have cc : nI (c (tH c N s + q)) = nI (mb i q) ↔ c (tH c N s + q) = mb i q := nI_eq (by omega) (by omega)
          show b_X2_isName_28 _ _ (zfix1 _ n) _ = _
          generalize zfix1 (b_X2_isName_28 w i) n = kk at g1 ⊢
          unfold b_X2_isName_28
          simp only [zletE]
          rw [hlen, if_neg (nI_ge (by omega) (by omega)), p4, nI_add, zgt (zin_nI (by omega) (by decide)), hch, zbds, zxI (by omega), a2, show nI q + 1 = nI (q + 1) from nI_1 _, g1]
          simp only [m_eq]
          by_cases d : c (tH c N s + q) = mb i q
          · rw [if_pos (cc.mpr d), decide_eq_true d, Bool.true_and]
          · rw [if_neg (fun z => d (cc.mp z)), decide_eq_false d, Bool.false_and]
            rfl
      exact key (nl i) 0 100000 (by omega) (by omega)
    · rw [if_neg (fun z => d2 (cl.mp z)), decide_eq_false d2, Bool.false_and]
      rfl
  · rw [if_neg (fun z => d1 (c1.mp z)), decide_eq_false d1, Bool.false_and]
    rfl
theorem k_line {c : Nat → Nat} {N s : Nat} {w : zW} (h : PT c N w) (hs : s ≤ N) (hp : PC c N s w) : f_X2_lineByName w = some (nI (if tX c N s < 8 then tX c N s else 8)) := by
  have hx := (tX_ok c N s).1
  unfold f_X2_lineByName
  rw [k_isName h hs hp (i := 0) (by decide), k_isName h hs hp (i := 1) (by decide), k_isName h hs hp (i := 2) (by decide), k_isName h hs hp (i := 3) (by decide), k_isName h hs hp (i := 4) (by decide), k_isName h hs hp (i := 5) (by decide), k_isName h hs hp (i := 6) (by decide), k_isName h hs hp (i := 7) (by decide)]
  generalize tX c N s = x at hx
  have : ∀ x, x < 18 → (zbd (some (zbi (decide (0 = x)))) fun v1 => if v1 = (0 : Int32) then zbd (some (zbi (decide (1 = x)))) fun v3 => if v3 = (0 : Int32) then zbd (some (zbi (decide (2 = x)))) fun v5 => if v5 = (0 : Int32) then zbd (some (zbi (decide (3 = x)))) fun v7 => if v7 = (0 : Int32) then zbd (some (zbi (decide (4 = x)))) fun v9 => if v9 = (0 : Int32) then zbd (some (zbi (decide (5 = x)))) fun v11 => if v11 = (0 : Int32) then zbd (some (zbi (decide (6 = x)))) fun v13 => if v13 = (0 : Int32) then zbd (some (zbi (decide (7 = x)))) fun v15 => if v15 = (0 : Int32) then some (8 : Int32) else some 7 else some 6 else some 5 else some 4 else some 3 else some 2 else some 1 else some 0) = some (nI (if x < 8 then x else 8)) := by decide +kernel
  exact this x (by omega)
theorem k_kind {c : Nat → Nat} {N s : Nat} {w : zW} (h : PT c N w) (hs : s ≤ N) (hp : PC c N s w) : f_X2_kindByName w = some (if 8 ≤ tX c N s ∧ tX c N s < 13 then nI (tX c N s - 8) else -4) := by
  have hx := (tX_ok c N s).1
  unfold f_X2_kindByName
  rw [k_isName h hs hp (i := 8) (by decide), k_isName h hs hp (i := 9) (by decide), k_isName h hs hp (i := 10) (by decide), k_isName h hs hp (i := 11) (by decide), k_isName h hs hp (i := 12) (by decide)]
  generalize tX c N s = x at hx
  have : ∀ x, x < 18 → (zbd (some (zbi (decide (8 = x)))) fun v1 => if v1 = (0 : Int32) then zbd (some (zbi (decide (9 = x)))) fun v3 => if v3 = (0 : Int32) then zbd (some (zbi (decide (10 = x)))) fun v5 => if v5 = (0 : Int32) then zbd (some (zbi (decide (11 = x)))) fun v7 => if v7 = (0 : Int32) then zbd (some (zbi (decide (12 = x)))) fun v9 => if v9 = (0 : Int32) then some (-4 : Int32) else some 4 else some 3 else some 2 else some 1 else some 0) = some (if 8 ≤ x ∧ x < 13 then nI (x - 8) else -4) := by decide +kernel
  exact this x (by omega)
theorem k_plan {c : Nat → Nat} {N s : Nat} {w : zW} (h : PT c N w) (hs : s ≤ N) (hp : PC c N s w) : f_X2_planByName w = some (if 13 ≤ tX c N s ∧ tX c N s < 17 then nI (tX c N s - 13) else -4) := by
  have hx := (tX_ok c N s).1
  unfold f_X2_planByName
  rw [k_isName h hs hp (i := 13) (by decide), k_isName h hs hp (i := 14) (by decide), k_isName h hs hp (i := 15) (by decide), k_isName h hs hp (i := 16) (by decide)]
  generalize tX c N s = x at hx
  have : ∀ x, x < 18 → (zbd (some (zbi (decide (13 = x)))) fun v1 => if v1 = (0 : Int32) then zbd (some (zbi (decide (14 = x)))) fun v3 => if v3 = (0 : Int32) then zbd (some (zbi (decide (15 = x)))) fun v5 => if v5 = (0 : Int32) then zbd (some (zbi (decide (16 = x)))) fun v7 => if v7 = (0 : Int32) then some (-4 : Int32) else some 3 else some 2 else some 1 else some 0) = some (if 13 ≤ x ∧ x < 17 then nI (x - 13) else -4) := by decide +kernel
  exact this x (by omega)
def QN (w : zW) : Prop := w 64 = zw0 64 ∧ w 65 = zw0 65
/-- the reference's number of the name -/
def tR (c : Nat → Nat) (N s : Nat) : Int32 := if tX c N s < 17 then nI (nro (tX c N s)) else -4
theorem q_eqL {c : Nat → Nat} {N s r : Nat} {w : zW} (h : QT c N w) (hn : QN w) (hs : s ≤ N) (hq : QC c N s w) (hr : r < 17) (hl : tE c N s - tH c N s = nl (npi r)) (hk1 : tK c N s = 1) (j : Int32 → Option Int32) : ∀ (k q n : Nat) (b : Bool), q + k = nl (npi r) → k < n → zfix2 (b_X4_nameHere_51 w (nI r) j) n (zbi b) (nI q) = j (zbi (b && m_eq c (tH c N s) (npi r) k q)) := by
  obtain ⟨h1, h2, h3⟩ := id h
  obtain ⟨p23, p22, -, -⟩ := hq
  obtain ⟨b1, b2, b3, b4, b5, b6⟩ := t_b c hs
  obtain ⟨l1, l2⟩ := nl_le (npi r) (npi_ok r hr).1
  have hlt := b3 (by omega)
  have hsub : nI (tE c N s) - nI (tH c N s) = nI (nl (npi r)) := by rw [zsub_nI (by omega), hl]
  have b0 : zbi false = 0 := rfl
  intro k
  induction k with
  | zero =>
    intro q n b hq hn'
    obtain ⟨n, rfl⟩ : ∃ m, n = m + 1 := ⟨n - 1, by omega⟩
    show b_X4_nameHere_51 _ _ _ (zfix2 _ n) _ _ = _
    generalize zfix2 (b_X4_nameHere_51 w (nI r) j) n = kk
    unfold b_X4_nameHere_51
    rw [p22, p23, hsub, if_pos (nI_le (by omega) (by omega))]
    simp only [m_eq, Bool.and_true]
    split <;> rfl
  | succ k ih =>
    intro q n b hq hn'
    obtain ⟨n, rfl⟩ : ∃ m, n = m + 1 := ⟨n - 1, by omega⟩
    cases b with
    | false =>
      show b_X4_nameHere_51 _ _ _ (zfix2 _ n) _ _ = _
      generalize zfix2 (b_X4_nameHere_51 w (nI r) j) n = kk
      unfold b_X4_nameHere_51
      rw [if_pos b0, Bool.false_and]
    | true =>
      have g1 := fun b => ih (q + 1) n b (by omega) (by omega)
      obtain ⟨m1, m2⟩ := mb_ok (npi r) (npi_ok r hr).1 q (by omega)
      obtain ⟨a1, a2⟩ := h2 (tH c N s + q) (by omega)
      obtain ⟨z1, z2⟩ := (cut_ok r hr).2 q (by omega)
      have cc : nI (c (tH c N s + q)) = nI (mb (npi r) q) ↔ c (tH c N s + q) = mb (npi r) q := nI_eq (by omega) (by omega)
      have hb := q_byte h (p := tH c N s + q) (by omega)
      rw [if_pos (show tH c N s + q < N by omega)] at hb
      show b_X4_nameHere_51 _ _ _ (zfix2 _ n) _ _ = _
      generalize zfix2 (b_X4_nameHere_51 w (nI r) j) n = kk at g1 ⊢
      have g0 : kk 0 (nI (q + 1)) = j (zbi (false && m_eq c (tH c N s) (npi r) k (q + 1))) := g1 false
      have g2 : kk 1 (nI (q + 1)) = j (zbi (true && m_eq c (tH c N s) (npi r) k (q + 1))) := g1 true
      unfold b_X4_nameHere_51
      simp only [zletE, zjn1E]
      rw [if_neg (show ¬ zbi true = 0 from n10), p22, p23, hsub, if_neg (nI_ge (by omega) (by omega)), nI_add, hb, zbds, zgt (zin_nI (by omega) (by decide)), zxI (by omega), hn.1, zgt z1, hn.2, z2, show nI q + 1 = nI (q + 1) from nI_1 _, g0, g2]
      simp only [m_eq]
      by_cases d : c (tH c N s + q) = mb (npi r) q
      · rw [if_pos (cc.mpr d), decide_eq_true d, Bool.true_and, Bool.true_and]
      · rw [if_neg (fun z => d (cc.mp z)), decide_eq_false d, Bool.false_and, Bool.true_and]
theorem q_nameHere {c : Nat → Nat} {N s : Nat} {w : zW} (h : QT c N w) (hn : QN w) (hs : s ≤ N) (hq : QC c N s w) : f_X4_nameHere w = some (tR c N s) := by
  obtain ⟨hx, hN⟩ := tX_ok c N s
  obtain ⟨p23, p22, p24, -⟩ := id hq
  obtain ⟨b1, b2, b3, b4, b5, b6⟩ := t_b c hs
  have h1 := h.1
  have c1 : nI (tK c N s) = 1 ↔ tK c N s = 1 := nI_eq (b := 1) (by omega) (by decide)
  have key : ∀ (k r n : Nat), r + k = 17 → k < n → (∀ r', r' < r → npi r' ≠ tX c N s) → zfix1 (b_X4_nameHere_2 w) n (nI r) = some (tR c N s) := by
    intro k
    induction k with
    | zero =>
      intro r n hr hn' hb
      obtain ⟨n, rfl⟩ : ∃ m, n = m + 1 := ⟨n - 1, by omega⟩
      have e17 : ¬ tX c N s < 17 := fun q => hb (nro (tX c N s)) (by have := (nro_ok _ q).1; omega) (nro_ok _ q).2
      show b_X4_nameHere_2 _ (zfix1 _ n) _ = _
      generalize zfix1 (b_X4_nameHere_2 w) n = kk
      unfold b_X4_nameHere_2 tR
      rw [show r = 17 by omega, if_pos (by decide), if_neg e17]
    | succ k ih =>
      intro r n hr hn' hb
      obtain ⟨n, rfl⟩ : ∃ m, n = m + 1 := ⟨n - 1, by omega⟩
      obtain ⟨fu, hfu⟩ : ∃ n : Nat, 100000 = n := ⟨_, rfl⟩
      obtain ⟨np1, np2⟩ := npi_ok r (by omega)
      obtain ⟨l1, l2⟩ := nl_le (npi r) np1
      have cu := (cut_ok r (by omega)).1
      have c17 : (17 : Int32) ≤ nI r ↔ 17 ≤ r := nI_leI (a := 17) (by decide) (by omega)
      have hz : zin (nI r) 18 = true := zin_nI (by omega) (by decide)
      have hx0 : zx (nI r) = r := zxI (by omega)
      have hz1 : zin (nI (r + 1)) 18 = true := zin_nI (by omega) (by decide)
      have hx1 : zx (nI (r + 1)) = r + 1 := zxI (by omega)
      have hNr := hN (npi r) np1
      by_cases d1 : tK c N s = 1
      · have hlt := b3 (by omega)
        have cl : nI (tE c N s - tH c N s) = nI (nl (npi r)) ↔ tE c N s - tH c N s = nl (npi r) := nI_eq (by omega) (by omega)
        unfold NMb at hNr
        rw [decide_eq_true d1, Bool.true_and] at hNr
        by_cases dx : npi r = tX c N s
        · rw [decide_eq_true dx, Bool.and_eq_true, decide_eq_true_eq] at hNr
          show b_X4_nameHere_2 _ (zfix1 _ n) _ = _
          generalize zfix1 (b_X4_nameHere_2 w) n = kk
          have g := q_eqL h hn hs hq (r := r) (by omega) hNr.1 d1 (fun v7 => if v7 = 0 then kk (nI (r + 1)) else some (nI r)) (nl (npi r)) 0 fu true (by omega) (by omega)
          rw [hNr.2, Bool.true_and] at g
          unfold b_X4_nameHere_2
          rw [hfu]
          simp only [zletE, zjn1E]
          rw [if_neg (fun q => absurd (c17.mp q) (by omega)), p24, if_pos (c1.mpr d1), show nI r + 1 = nI (r + 1) from nI_1 _, zgt hz1, zgt hz, hx0, hx1, hn.1, cu, p22, p23, zsub_nI (by omega), if_pos (cl.mpr hNr.1), show zfix2 (b_X4_nameHere_51 w (nI r) _) fu 1 0 = _ from g, if_neg (show ¬ zbi true = 0 from n10)]
          unfold tR
          rw [if_pos (by omega), ← dx, np2]
        · have g1 := ih (r + 1) n (by omega) (by omega) (fun r' hr' => by
            by_cases e : r' = r
            · subst e; exact dx
            · exact hb r' (by omega))
          show b_X4_nameHere_2 _ (zfix1 _ n) _ = _
          generalize zfix1 (b_X4_nameHere_2 w) n = kk at g1 ⊢
          rw [decide_eq_false dx] at hNr
          have z0 : ∀ n, zfix2 (b_X4_nameHere_51 w (nI r) (fun v7 => if v7 = 0 then kk (nI (r + 1)) else some (nI r))) (n + 1) 0 0 = kk (nI (r + 1)) := by
            intro n
            show b_X4_nameHere_51 _ _ _ (zfix2 _ n) _ _ = _
            generalize zfix2 (b_X4_nameHere_51 w (nI r) (fun v7 => if v7 = 0 then kk (nI (r + 1)) else some (nI r))) n = k2
            unfold b_X4_nameHere_51
            rw [if_pos rfl]
            show (if (0 : Int32) = 0 then kk (nI (r + 1)) else some (nI r)) = _
            rw [if_pos rfl]
          obtain ⟨fv, hfv⟩ : ∃ m, fu = m + 1 := ⟨fu - 1, by omega⟩
          unfold b_X4_nameHere_2
          rw [hfu]
          simp only [zletE, zjn1E]
          rw [if_neg (fun q => absurd (c17.mp q) (by omega)), p24, if_pos (c1.mpr d1), show nI r + 1 = nI (r + 1) from nI_1 _, zgt hz1, zgt hz, hx0, hx1, hn.1, cu, p22, p23, zsub_nI (by omega)]
          by_cases d2 : tE c N s - tH c N s = nl (npi r)
          · have g := q_eqL h hn hs hq (r := r) (by omega) d2 d1 (fun v7 => if v7 = 0 then kk (nI (r + 1)) else some (nI r)) (nl (npi r)) 0 fu true (by omega) (by omega)
            rw [decide_eq_true d2, Bool.true_and] at hNr
            rw [hNr, Bool.true_and] at g
            rw [if_pos (cl.mpr d2), show zfix2 (b_X4_nameHere_51 w (nI r) _) fu 1 0 = _ from g, if_pos (show zbi false = 0 from rfl)]
            exact g1
          · rw [if_neg (fun q => d2 (cl.mp q)), hfv, z0]
            exact g1
      · have e17 : ¬ tX c N s < 17 := fun q => by
          have := hN _ q
          unfold NMb at this
          rw [decide_eq_false d1, Bool.false_and, decide_eq_true rfl] at this
          exact Bool.false_ne_true this
        show b_X4_nameHere_2 _ (zfix1 _ n) _ = _
        generalize zfix1 (b_X4_nameHere_2 w) n = kk
        unfold b_X4_nameHere_2 tR
        rw [if_neg (fun q => absurd (c17.mp q) (by omega)), p24, if_neg (fun q => d1 (c1.mp q)), if_neg e17]
  exact key 17 0 100000 (by decide) (by decide) (fun r' hr' => absurd hr' (by omega))
