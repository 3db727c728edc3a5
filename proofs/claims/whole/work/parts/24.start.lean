/-- the world behind the two constructors -/
def zw0 : zW := fun k => match k with
  | 2 => fun j => if j = 10 then 20 else if j = 12 then 18 else 0
  | 10 => fun j => if j = 10 then 20 else if j = 12 then 18 else 0
  | 18 => fun j => if j = 10 then 20 else if j = 12 then 18 else 0
  | 26 => fun j => if j = 10 then 20 else if j = 12 then 18 else 0
  | 34 => fun j => if j = 10 then 20 else if j = 12 then 18 else 0
  | 48 => fun j => if j = 2 then -1 else 0
  | 50 => fun j => if j = 2 then -1 else 0
  | 52 => fun j => if j = 2 then -1 else 0
  | 54 => fun j => if j = 2 then -1 else 0
  | 56 => fun j => if j = 5 then 20 else 0
  | 64 => zinr [74, 70, 67, 64, 59, 54, 50, 47, 40, 32, 29, 25, 20, 17, 13, 9, 3, 0]
  | 65 => zinr [121, 97, 116, 115, 108, 108, 97, 121, 97, 100, 116, 104, 103, 105, 110, 114, 101, 118, 105, 103, 116, 115, 97, 108, 121, 108, 115, 121, 116, 115, 114, 105, 104, 116, 100, 101, 114, 117, 115, 97, 101, 109, 121, 114, 100, 108, 108, 101, 119, 100, 110, 117, 111, 102, 119, 101, 100, 110, 97, 108, 112, 108, 97, 111, 103, 101, 108, 116, 116, 111, 98, 101, 110, 111]
  | 68 => zinr [-4, -4, -4, -4]
  | _ => fun _ => 0
theorem arrV_cg {cA : ClassId} {n : Nat} {f g : Nat → Value} (h : ∀ j, j < n → f j = g j) : arrV cA n f = arrV cA n g := by
  unfold arrV
  congr 1
  apply Array.ext
  · simp
  · intro i h1 h2
    simp at h1
    simp [h i h1]
theorem vp_cell_cg {cA : ClassId} {n : Nat} {f g : Nat → Option Nat} (h : ∀ j, j < n → f j = g j) : vp_cell cA (n, .inr (.inr (.inr (.inr f)))) = vp_cell cA (n, .inr (.inr (.inr (.inr g)))) := by
  rw [vp_cell_q, vp_cell_q]
  exact arrV_cg (fun j hj => by rw [h j hj])
def zflat : List Cond := flatC (Jvm.Cond.and given_1 narrow_1)
def ztm (i : Nat) : Term := Term.string "BottleFour$TextReader" (zsi.getD i 0)
/-- where the conditions of the i-th String constant begin -/
def zix (i : Nat) : Nat := ([9, 16, 25, 34, 47, 59, 72, 85, 101, 121, 141, 158, 177, 198, 220, 241, 263] : List Nat).getD i 0
theorem zm_ex : ∀ i, i < 17 → Cond.exactly (ztm i) "java/lang/String" ∈ zflat := fun i hi => List.mem_of_getElem? (i := zix i) ((by decide +kernel : ∀ i, i < 17 → zflat[zix i]? = some (Cond.exactly (ztm i) "java/lang/String")) i hi)
theorem zm_co : ∀ i, i < 17 → Cond.eq (.field (ztm i) "java/lang/String" "coder" "B") (.int 0) ∈ zflat := fun i hi => List.mem_of_getElem? (i := zix i + 1) ((by decide +kernel : ∀ i, i < 17 → zflat[zix i + 1]? = some (Cond.eq (.field (ztm i) "java/lang/String" "coder" "B") (.int 0))) i hi)
theorem zm_ar : ∀ i, i < 17 → Cond.arrayOf (.field (ztm i) "java/lang/String" "value" "[B") .byte ∈ zflat := fun i hi => List.mem_of_getElem? (i := zix i + 2) ((by decide +kernel : ∀ i, i < 17 → zflat[zix i + 2]? = some (Cond.arrayOf (.field (ztm i) "java/lang/String" "value" "[B") .byte)) i hi)
theorem zm_le : ∀ i, i < 17 → Cond.eq (.length (.field (ztm i) "java/lang/String" "value" "[B")) (.int (Int32.ofNat (zsl.getD i 0))) ∈ zflat := fun i hi => List.mem_of_getElem? (i := zix i + 3) ((by decide +kernel : ∀ i, i < 17 → zflat[zix i + 3]? = some (Cond.eq (.length (.field (ztm i) "java/lang/String" "value" "[B")) (.int (Int32.ofNat (zsl.getD i 0))))) i hi)
theorem zm_el : ∀ i, i < 17 → ∀ j, j < zsl.getD i 0 → Cond.eq (.elem (.field (ztm i) "java/lang/String" "value" "[B") (.int (Int32.ofNat j))) (.int ((zsb.getD i []).getD j 0)) ∈ zflat := fun i hi j hj => List.mem_of_getElem? (i := zix i + 4 + j) ((by decide +kernel : ∀ i, i < 17 → ∀ j, j < zsl.getD i 0 → zflat[zix i + 4 + j]? = some (Cond.eq (.elem (.field (ztm i) "java/lang/String" "value" "[B") (.int (Int32.ofNat j))) (.int ((zsb.getD i []).getD j 0)))) i hi j hj)
theorem zm_ne : ∀ i, i < 17 → ∀ j, j < i → Cond.not (Cond.eq (ztm j) (ztm i)) ∈ zflat := fun i hi j hj => List.mem_of_getElem? (i := zix i + 4 + zsl.getD i 0 + j) ((by decide +kernel : ∀ i, i < 17 → ∀ j, j < i → zflat[zix i + 4 + zsl.getD i 0 + j]? = some (Cond.not (Cond.eq (ztm j) (ztm i)))) i hi j hj)
theorem zm_cs : Cond.eq (.static "java/lang/String" "COMPACT_STRINGS" "Z") (.int 1) ∈ zflat := List.mem_of_getElem? (i := 4) (by decide +kernel)
theorem zm_pf : Cond.isRef (.static "jdk/internal/util/Preconditions" "SIOOBE_FORMATTER" "Ljava/util/function/BiFunction;") ∈ zflat := List.mem_of_getElem? (i := 5) (by decide +kernel)
theorem zl_sr : ∀ i, i < 17 → Cond.stringRef RX2 (zsi.getD i 0) (zst.getD i "") ∈ lw_tbl := by decide +kernel
theorem zl_ls1 : Cond.laysStatic "java/lang/String" "COMPACT_STRINGS" "Z" ∈ lw_tbl := List.mem_of_getElem? (i := 320) (by decide +kernel)
theorem zl_ls2 : Cond.laysStatic "jdk/internal/util/Preconditions" "SIOOBE_FORMATTER" "Ljava/util/function/BiFunction;" ∈ lw_tbl := List.mem_of_getElem? (i := 336) (by decide +kernel)
theorem zl_n1 : Cond.methodLinkNest RX2 86 yX3_within RX3 ∈ lw_tbl := List.mem_of_getElem? (i := 293) (by decide +kernel)
theorem zl_n2 : Cond.methodLinkNest RX0 80 yX3_within RX3 ∈ lw_tbl := List.mem_of_getElem? (i := 505) (by decide +kernel)
theorem zl_n3 : Cond.methodLinkNest RX1 26 yX3_within RX3 ∈ lw_tbl := List.mem_of_getElem? (i := 732) (by decide +kernel)
theorem zl_n4 : Cond.methodLinkNest RX3 22 yX0_init RX3 ∈ lw_tbl := List.mem_of_getElem? (i := 63) (by decide +kernel)
theorem zl_n5 : Cond.methodLinkNest RX3 62 yX1_init RX3 ∈ lw_tbl := List.mem_of_getElem? (i := 200) (by decide +kernel)
theorem zl_a1 : Cond.arrayOver (.object "BottleFour$Camp") ∈ lw_tbl := List.mem_of_getElem? (i := 196) (by decide +kernel)
theorem zl_a2 : Cond.arrayOver (.object "BottleFour$Sheet") ∈ lw_tbl := List.mem_of_getElem? (i := 198) (by decide +kernel)
theorem zk_arr {s : State} {args : Array Value} {ty : FieldType} (h : (Cond.arrayClass ty).before args s = true) (hra : ∀ (U : State) (cA : ClassId), U.vm.findClass ("[" ++ ty.toString) = some cA → va_RA U cA ty) : ∃ cA : ClassId, ArrOfT s cA ty ∧ va_RA s cA ty := by
  obtain ⟨cA, kA, comp, h1, h2, h3⟩ := Cond.arrayClass_spec h
  exact ⟨cA, fun n z => ⟨(fun k h => by cases h), kA, h2, comp, h3⟩, hra s cA h1⟩
theorem zk_obj {s : State} {args : Array Value} {C : String} (h : (Cond.arrayOver (.object C)).before args s = true) : ∃ cA : ClassId, ArrOfT s cA (.object C) ∧ va_RA s cA (.object C) := by
  obtain ⟨comp, cA, kA, h1, h2, h3, h4, h5⟩ := Cond.arrayOver_spec h
  exact ⟨cA, fun n z => ⟨(fun k h => by cases h), kA, h3, comp, h4⟩, kA, comp, h3, h4, h1, h5⟩
set_option maxRecDepth 100000 in
set_option maxHeartbeats 8000000 in
theorem law_start {p : Program} {e : Env} {s : State} {m : MethodId} {below : List Frame} {meth : Method} {c : Code} (l : Launch) {b L : Nat} {xs : Nat → Int32} {J : zW → Prop} (hJ : LawSteps J) (h0 : J zw0) (hL : L ≤ 320) (C0 : lw_At p s m meth c b L xs) : W p l e room_1 s m #[Value.ref b] below meth c s.heap [] 0 0 (lw_Z below #[Value.ref b] s) (entryFrame m ([Value.ref b] : List Value).toArray 4) := by
  obtain ⟨hx, hb, hr, hml, hown, hts, hX, hbl, hlocks, hgv⟩ := C0
  have hfl := flat_of_before _ hgv
  have hz : ∀ w ∈ zGW, w.before #[Value.ref b] s = true := fun w h => hts w (zGW_tbl w h)
  obtain ⟨c0, iS0, hK0⟩ := u_known (C := RX0) (T := TX0) (N := 16) (n := 16) hz zlay_X0 (hz _ zw_ins_X0)
  obtain ⟨c1, iS1, hK1⟩ := u_known (C := RX1) (T := TX1) (N := 3) (n := 3) hz zlay_X1 (hz _ zw_ins_X1)
  obtain ⟨c2, iS2, hK2⟩ := u_known (C := RX2) (T := TX2) (N := 12) (n := 12) hz zlay_X2 (hz _ zw_ins_X2)
  obtain ⟨c3, iS3, hK3⟩ := u_known (C := RX3) (T := TX3) (N := 14) (n := 14) hz zlay_X3 (hz _ zw_ins_X3)
  obtain ⟨c4, iS4, hK4⟩ := u_known (C := RX4) (T := TX4) (N := 36) (n := 36) hz zlay_X4 (hz _ zw_ins_X4)
  obtain ⟨y0, hy0⟩ := zk_arr (hz _ zw_ac_int) (fun _ _ h => h)
  obtain ⟨y1, hy1⟩ := zk_arr (hz _ zw_ac_boolean) (fun _ _ h => h)
  obtain ⟨y2, hy2⟩ := zk_arr (hz _ zw_ac_byte) (fun _ _ h => h)
  obtain ⟨y3, hy3⟩ := zk_obj (hts _ zl_a1)
  obtain ⟨y4, hy4⟩ := zk_obj (hts _ zl_a2)
  obtain ⟨D, hD0⟩ : ∃ D : va_G, ∀ (k : Nat) (q : vw_C), vwCl[k]? = some q → u_Kn s q.1 q.2.1 q.2.2 (D.1 k) (D.2 k) := by
    refine ⟨(fun k => match k with | 0 => c0 | 1 => c1 | 2 => c2 | 3 => c3 | _ => c4, fun k => match k with | 0 => iS0 | 1 => iS1 | 2 => iS2 | 3 => iS3 | _ => iS4), ?_⟩
    intro k q hq
    match k, hq with
    | 0, hq => cases hq; exact hK0
    | 1, hq => cases hq; exact hK1
    | 2, hq => cases hq; exact hK2
    | 3, hq => cases hq; exact hK3
    | 4, hq => cases hq; exact hK4
    | k + 5, hq => simp [vwCl] at hq
  obtain ⟨cy, hcy⟩ : ∃ cy : Nat → ClassId, ∀ (k : Nat) (q : ClassId × FieldType), (ytys cy)[k]? = some q → ArrOfT s q.1 q.2 ∧ va_RA s q.1 q.2 := by
    refine ⟨fun k => match k with | 0 => y0 | 1 => y1 | 2 => y2 | 3 => y3 | _ => y4, ?_⟩
    intro k q hq
    match k, hq with
    | 0, hq => cases hq; exact hy0
    | 1, hq => cases hq; exact hy1
    | 2, hq => cases hq; exact hy2
    | 3, hq => cases hq; exact hy3
    | 4, hq => cases hq; exact hy4
    | k + 5, hq => simp [ytys] at hq
  have hK : va_K D vwCl (ytys cy) s := ⟨hD0, hcy⟩
  have hC : yC D cy s.heap.size RL cL_law 4 p s m #[Value.ref b] meth c := ⟨hx, hb, hml, hown, hz, hK, ⟨va_Nw.of rfl (hts _ zl_n4), va_Nw.of rfl (hts _ zl_n5), va_AO.of (hts _ zl_a1), va_AO.of (hts _ zl_a2)⟩, Nat.le_refl _⟩
  have hA0 : ∀ a : Nat, a < s.heap.size → ¬ yA s.heap.size a := fun a h => Nat.not_le.mpr h
  obtain ⟨adK, adV, hSt, hSe⟩ := vk_Sof (args := #[Value.ref b]) (s := s) (N := 17) (tm := ztm) (len := zsl) (byt := zsb) (A := yA s.heap.size) (by decide) (fun i hi => hfl _ (zm_ex i hi)) (fun i hi => hfl _ (zm_co i hi)) (fun i hi => hfl _ (zm_ar i hi)) (fun i hi => hfl _ (zm_le i hi)) (fun i hi j hj => hfl _ (zm_el i hi j hj))
    (fun i j hi hj hij => by
      rcases Nat.lt_or_gt_of_ne hij with h | h
      · exact Or.inl (hfl _ (zm_ne j hj i h))
      · exact Or.inr (hfl _ (zm_ne i hi j h))) hA0
  have hcs := va_Zof (A := yA s.heap.size) (hts _ zl_ls1) (hz _ zw_ini_J0) (va_eqt (hfl _ zm_cs)) hA0
  have hpf := va_Zqof (A := yA s.heap.size) (hts _ zl_ls2) (hz _ zw_ini_J3) (hfl _ zm_pf) hA0
  rw [lg_entry_eq]
  have hl0 := lv_entry ([.ref b]) (n := 4) (Nat.le_of_ble_eq_true rfl)
  refine (?_ : Yj D s.heap.size p l e room_1 s m #[Value.ref b] below meth c (lw_Z below #[Value.ref b] s) 4 0 0 0 [(0, .ref b)] [] [] []) s.heap [] _ (fun k q h => by simp at h) ⟨fun i j p q h => by simp at h, fun k q h => by simp at h⟩ va_S.rf hl0
  refine y_new (ci := 3) (N := 14) (fs := [.null, .int 0, .int 0, .null, .null, .null, .null, .null, .null, .null, .null, .int 0, .null, .int 0]) hC zlay_X3 tyX3_ok zw_cl_L_7 zw_ins_X3 zw_ini_X3 rfl (by decide +kernel) (Nat.le_of_ble_eq_true rfl) (Nat.le_of_ble_eq_true rfl) dL_law_0 (fun p0 => ?_)
  refine y_dup hC dL_law_3 rfl ?_
  refine y_callI (X1 := []) (L1 := [(p0, .inr (3, [.null, .int 0, .int 0, .null, .null, .null, .null, .null, .null, .null, .null, .int 0, .null, .int 0]))]) (As := []) (rest := [.ref p0]) (n := 0) hC rfl (c_X3_init l D cy s.heap.size [] p0) zw_cd_X3_init zw_ini_X3 zw_ml_L_9 zw_im_X3_init rfl (by decide +kernel) ⟨rfl, rfl, (Nat.le_of_ble_eq_true rfl), (Nat.le_of_ble_eq_true rfl)⟩ rfl rfl (Nat.le_of_ble_eq_true rfl) dL_law_4 ⟨(Nat.le_of_ble_eq_true rfl), (Nat.le_of_ble_eq_true rfl)⟩ (fun ws hws => ?_)
  obtain ⟨p1, p2, p3, p4, p5, p6, p7, p8, p9, p10, p11, p12, p13, p14, p15, p16, p17, p18, p19, p20, p21, p22, p23, p24, p25, p26, p27, p28, p29, p30, p31, p32, p33, p34, p35, p36, p37, p38, p39, p40, p41, p42, p43, p44, p45, p46, p47, p48, p49, p50, p51, p52, p53, p54, p55, hws⟩ := hws
  refine y_X (X' := []) (L' := ([(p0, .inr (3, [.ref p1, .int 0, .int 0, .ref p2, .ref p10, .ref p18, .ref p26, .ref p27, .ref p44, .ref p45, .ref p46, .int 0, .ref p47, .int 0])), (p1, .inl (cy 2, 160, .inl (fun _ => 0))), (p2, .inr (0, [.int 0, .ref p3, .ref p4, .ref p5, .int 0, .ref p6, .ref p7, .ref p8, .ref p9, .int 0, .int 20, .int 0, .int 18, .int 0, .int 0, .int 0])), (p3, .inl (cy 0, 4, .inl (fun _ => 0))), (p4, .inl (cy 0, 4, .inl (fun _ => 0))), (p5, .inl (cy 0, 4, .inl (fun _ => 0))), (p6, .inl (cy 0, 3, .inl (fun _ => 0))), (p7, .inl (cy 0, 3, .inl (fun _ => 0))), (p8, .inl (cy 0, 3, .inl (fun _ => 0))), (p9, .inl (cy 1, 3, .inl (fun _ => 0))), (p10, .inr (0, [.int 0, .ref p11, .ref p12, .ref p13, .int 0, .ref p14, .ref p15, .ref p16, .ref p17, .int 0, .int 20, .int 0, .int 18, .int 0, .int 0, .int 0])), (p11, .inl (cy 0, 4, .inl (fun _ => 0))), (p12, .inl (cy 0, 4, .inl (fun _ => 0))), (p13, .inl (cy 0, 4, .inl (fun _ => 0))), (p14, .inl (cy 0, 3, .inl (fun _ => 0))), (p15, .inl (cy 0, 3, .inl (fun _ => 0))), (p16, .inl (cy 0, 3, .inl (fun _ => 0))), (p17, .inl (cy 1, 3, .inl (fun _ => 0))), (p18, .inr (0, [.int 0, .ref p19, .ref p20, .ref p21, .int 0, .ref p22, .ref p23, .ref p24, .ref p25, .int 0, .int 20, .int 0, .int 18, .int 0, .int 0, .int 0])), (p19, .inl (cy 0, 4, .inl (fun _ => 0))), (p20, .inl (cy 0, 4, .inl (fun _ => 0))), (p21, .inl (cy 0, 4, .inl (fun _ => 0))), (p22, .inl (cy 0, 3, .inl (fun _ => 0))), (p23, .inl (cy 0, 3, .inl (fun _ => 0))), (p24, .inl (cy 0, 3, .inl (fun _ => 0))), (p25, .inl (cy 1, 3, .inl (fun _ => 0))), (p26, .inr (2, [.ref p1, .ref p10, .int 0, .int 0, .int 0, .int 0, .int 0, .int 0, .int 0, .int 0, .int 0, .int 0])), (p27, .inl (cy 3, 2, .inr (.inr (.inr (.inr (va_up (va_up (fun _ => none) 0 (some p28)) 1 (some p36))))))), (p28, .inr (0, [.int 0, .ref p29, .ref p30, .ref p31, .int 0, .ref p32, .ref p33, .ref p34, .ref p35, .int 0, .int 20, .int 0, .int 18, .int 0, .int 0, .int 0])), (p29, .inl (cy 0, 4, .inl (fun _ => 0))), (p30, .inl (cy 0, 4, .inl (fun _ => 0))), (p31, .inl (cy 0, 4, .inl (fun _ => 0))), (p32, .inl (cy 0, 3, .inl (fun _ => 0))), (p33, .inl (cy 0, 3, .inl (fun _ => 0))), (p34, .inl (cy 0, 3, .inl (fun _ => 0))), (p35, .inl (cy 1, 3, .inl (fun _ => 0))), (p36, .inr (0, [.int 0, .ref p37, .ref p38, .ref p39, .int 0, .ref p40, .ref p41, .ref p42, .ref p43, .int 0, .int 20, .int 0, .int 18, .int 0, .int 0, .int 0])), (p37, .inl (cy 0, 4, .inl (fun _ => 0))), (p38, .inl (cy 0, 4, .inl (fun _ => 0))), (p39, .inl (cy 0, 4, .inl (fun _ => 0))), (p40, .inl (cy 0, 3, .inl (fun _ => 0))), (p41, .inl (cy 0, 3, .inl (fun _ => 0))), (p42, .inl (cy 0, 3, .inl (fun _ => 0))), (p43, .inl (cy 1, 3, .inl (fun _ => 0))), (p44, .inl (cy 1, 2, .inl (fun _ => 0))), (p45, .inl (cy 0, 6, .inl (fun _ => 0))), (p46, .inl (cy 0, 6, .inl (fun _ => 0))), (p47, .inl (cy 4, 4, .inr (.inr (.inr (.inr (va_up (va_up (va_up (va_up (fun _ => none) 0 (some p48)) 1 (some p50)) 2 (some p52)) 3 (some p54))))))), (p48, .inr (1, [.ref p49, .int 0, .int (-1)])), (p49, .inl (cy 0, 40, .inl (fun _ => 0))), (p50, .inr (1, [.ref p51, .int 0, .int (-1)])), (p51, .inl (cy 0, 40, .inl (fun _ => 0))), (p52, .inr (1, [.ref p53, .int 0, .int (-1)])), (p53, .inl (cy 0, 40, .inl (fun _ => 0))), (p54, .inr (1, [.ref p55, .int 0, .int (-1)])), (p55, .inl (cy 0, 40, .inl (fun _ => 0)))] : va_W)) hws ?_
  refine y_astore_n (lv' := [(1, .ref p0), (0, .ref b)]) hC dL_law_7 rfl (by decide) rfl ?_
  refine y_new (ci := 4) (N := 36) (fs := [.null, .null, .int 0, .null, .int 0, .int 0, .int 0, .int 0, .null, .null, .null, .int 0, .int 0, .int 0, .int 0, .int 0, .int 0, .null, .int 0, .int 0, .int 0, .int 0, .int 0, .int 0, .int 0, .int 0, .null, .null, .int 0, .null, .int 0, .null, .null, .null, .null, .int 0]) hC zlay_X4 tyX4_ok zw_cl_L_10 zw_ins_X4 zw_ini_X4 rfl (by decide +kernel) (Nat.le_of_ble_eq_true rfl) (Nat.le_of_ble_eq_true rfl) dL_law_8 (fun p56 => ?_)
  refine y_dup hC dL_law_11 rfl ?_
  refine y_callI (X1 := [(p0, .inr (3, [.ref p1, .int 0, .int 0, .ref p2, .ref p10, .ref p18, .ref p26, .ref p27, .ref p44, .ref p45, .ref p46, .int 0, .ref p47, .int 0])), (p1, .inl (cy 2, 160, .inl (fun _ => 0))), (p2, .inr (0, [.int 0, .ref p3, .ref p4, .ref p5, .int 0, .ref p6, .ref p7, .ref p8, .ref p9, .int 0, .int 20, .int 0, .int 18, .int 0, .int 0, .int 0])), (p3, .inl (cy 0, 4, .inl (fun _ => 0))), (p4, .inl (cy 0, 4, .inl (fun _ => 0))), (p5, .inl (cy 0, 4, .inl (fun _ => 0))), (p6, .inl (cy 0, 3, .inl (fun _ => 0))), (p7, .inl (cy 0, 3, .inl (fun _ => 0))), (p8, .inl (cy 0, 3, .inl (fun _ => 0))), (p9, .inl (cy 1, 3, .inl (fun _ => 0))), (p10, .inr (0, [.int 0, .ref p11, .ref p12, .ref p13, .int 0, .ref p14, .ref p15, .ref p16, .ref p17, .int 0, .int 20, .int 0, .int 18, .int 0, .int 0, .int 0])), (p11, .inl (cy 0, 4, .inl (fun _ => 0))), (p12, .inl (cy 0, 4, .inl (fun _ => 0))), (p13, .inl (cy 0, 4, .inl (fun _ => 0))), (p14, .inl (cy 0, 3, .inl (fun _ => 0))), (p15, .inl (cy 0, 3, .inl (fun _ => 0))), (p16, .inl (cy 0, 3, .inl (fun _ => 0))), (p17, .inl (cy 1, 3, .inl (fun _ => 0))), (p18, .inr (0, [.int 0, .ref p19, .ref p20, .ref p21, .int 0, .ref p22, .ref p23, .ref p24, .ref p25, .int 0, .int 20, .int 0, .int 18, .int 0, .int 0, .int 0])), (p19, .inl (cy 0, 4, .inl (fun _ => 0))), (p20, .inl (cy 0, 4, .inl (fun _ => 0))), (p21, .inl (cy 0, 4, .inl (fun _ => 0))), (p22, .inl (cy 0, 3, .inl (fun _ => 0))), (p23, .inl (cy 0, 3, .inl (fun _ => 0))), (p24, .inl (cy 0, 3, .inl (fun _ => 0))), (p25, .inl (cy 1, 3, .inl (fun _ => 0))), (p26, .inr (2, [.ref p1, .ref p10, .int 0, .int 0, .int 0, .int 0, .int 0, .int 0, .int 0, .int 0, .int 0, .int 0])), (p27, .inl (cy 3, 2, .inr (.inr (.inr (.inr (va_up (va_up (fun _ => none) 0 (some p28)) 1 (some p36))))))), (p28, .inr (0, [.int 0, .ref p29, .ref p30, .ref p31, .int 0, .ref p32, .ref p33, .ref p34, .ref p35, .int 0, .int 20, .int 0, .int 18, .int 0, .int 0, .int 0])), (p29, .inl (cy 0, 4, .inl (fun _ => 0))), (p30, .inl (cy 0, 4, .inl (fun _ => 0))), (p31, .inl (cy 0, 4, .inl (fun _ => 0))), (p32, .inl (cy 0, 3, .inl (fun _ => 0))), (p33, .inl (cy 0, 3, .inl (fun _ => 0))), (p34, .inl (cy 0, 3, .inl (fun _ => 0))), (p35, .inl (cy 1, 3, .inl (fun _ => 0))), (p36, .inr (0, [.int 0, .ref p37, .ref p38, .ref p39, .int 0, .ref p40, .ref p41, .ref p42, .ref p43, .int 0, .int 20, .int 0, .int 18, .int 0, .int 0, .int 0])), (p37, .inl (cy 0, 4, .inl (fun _ => 0))), (p38, .inl (cy 0, 4, .inl (fun _ => 0))), (p39, .inl (cy 0, 4, .inl (fun _ => 0))), (p40, .inl (cy 0, 3, .inl (fun _ => 0))), (p41, .inl (cy 0, 3, .inl (fun _ => 0))), (p42, .inl (cy 0, 3, .inl (fun _ => 0))), (p43, .inl (cy 1, 3, .inl (fun _ => 0))), (p44, .inl (cy 1, 2, .inl (fun _ => 0))), (p45, .inl (cy 0, 6, .inl (fun _ => 0))), (p46, .inl (cy 0, 6, .inl (fun _ => 0))), (p47, .inl (cy 4, 4, .inr (.inr (.inr (.inr (va_up (va_up (va_up (va_up (fun _ => none) 0 (some p48)) 1 (some p50)) 2 (some p52)) 3 (some p54))))))), (p48, .inr (1, [.ref p49, .int 0, .int (-1)])), (p49, .inl (cy 0, 40, .inl (fun _ => 0))), (p50, .inr (1, [.ref p51, .int 0, .int (-1)])), (p51, .inl (cy 0, 40, .inl (fun _ => 0))), (p52, .inr (1, [.ref p53, .int 0, .int (-1)])), (p53, .inl (cy 0, 40, .inl (fun _ => 0))), (p54, .inr (1, [.ref p55, .int 0, .int (-1)])), (p55, .inl (cy 0, 40, .inl (fun _ => 0)))]) (L1 := [(p56, .inr (4, [.null, .null, .int 0, .null, .int 0, .int 0, .int 0, .int 0, .null, .null, .null, .int 0, .int 0, .int 0, .int 0, .int 0, .int 0, .null, .int 0, .int 0, .int 0, .int 0, .int 0, .int 0, .int 0, .int 0, .null, .null, .int 0, .null, .int 0, .null, .null, .null, .null, .int 0]))]) (As := []) (rest := [.ref p56]) (n := 0) hC rfl (c_X4_init l D cy s.heap.size _ p56) zw_cd_X4_init zw_ini_X4 zw_ml_L_12 zw_im_X4_init rfl (by decide +kernel) ⟨rfl, rfl, (Nat.le_of_ble_eq_true rfl), (Nat.le_of_ble_eq_true rfl)⟩ rfl rfl (Nat.le_of_ble_eq_true rfl) dL_law_12 ⟨(Nat.le_of_ble_eq_true rfl), (Nat.le_of_ble_eq_true rfl)⟩ (fun ws hws => ?_)
  obtain ⟨p57, p58, p59, p60, p61, p62, p63, p64, p65, p66, p67, p68, p69, p70, hws⟩ := hws
  refine y_X (X' := []) (L' := ([(p0, .inr (3, [.ref p1, .int 0, .int 0, .ref p2, .ref p10, .ref p18, .ref p26, .ref p27, .ref p44, .ref p45, .ref p46, .int 0, .ref p47, .int 0])), (p1, .inl (cy 2, 160, .inl (fun _ => 0))), (p2, .inr (0, [.int 0, .ref p3, .ref p4, .ref p5, .int 0, .ref p6, .ref p7, .ref p8, .ref p9, .int 0, .int 20, .int 0, .int 18, .int 0, .int 0, .int 0])), (p3, .inl (cy 0, 4, .inl (fun _ => 0))), (p4, .inl (cy 0, 4, .inl (fun _ => 0))), (p5, .inl (cy 0, 4, .inl (fun _ => 0))), (p6, .inl (cy 0, 3, .inl (fun _ => 0))), (p7, .inl (cy 0, 3, .inl (fun _ => 0))), (p8, .inl (cy 0, 3, .inl (fun _ => 0))), (p9, .inl (cy 1, 3, .inl (fun _ => 0))), (p10, .inr (0, [.int 0, .ref p11, .ref p12, .ref p13, .int 0, .ref p14, .ref p15, .ref p16, .ref p17, .int 0, .int 20, .int 0, .int 18, .int 0, .int 0, .int 0])), (p11, .inl (cy 0, 4, .inl (fun _ => 0))), (p12, .inl (cy 0, 4, .inl (fun _ => 0))), (p13, .inl (cy 0, 4, .inl (fun _ => 0))), (p14, .inl (cy 0, 3, .inl (fun _ => 0))), (p15, .inl (cy 0, 3, .inl (fun _ => 0))), (p16, .inl (cy 0, 3, .inl (fun _ => 0))), (p17, .inl (cy 1, 3, .inl (fun _ => 0))), (p18, .inr (0, [.int 0, .ref p19, .ref p20, .ref p21, .int 0, .ref p22, .ref p23, .ref p24, .ref p25, .int 0, .int 20, .int 0, .int 18, .int 0, .int 0, .int 0])), (p19, .inl (cy 0, 4, .inl (fun _ => 0))), (p20, .inl (cy 0, 4, .inl (fun _ => 0))), (p21, .inl (cy 0, 4, .inl (fun _ => 0))), (p22, .inl (cy 0, 3, .inl (fun _ => 0))), (p23, .inl (cy 0, 3, .inl (fun _ => 0))), (p24, .inl (cy 0, 3, .inl (fun _ => 0))), (p25, .inl (cy 1, 3, .inl (fun _ => 0))), (p26, .inr (2, [.ref p1, .ref p10, .int 0, .int 0, .int 0, .int 0, .int 0, .int 0, .int 0, .int 0, .int 0, .int 0])), (p27, .inl (cy 3, 2, .inr (.inr (.inr (.inr (va_up (va_up (fun _ => none) 0 (some p28)) 1 (some p36))))))), (p28, .inr (0, [.int 0, .ref p29, .ref p30, .ref p31, .int 0, .ref p32, .ref p33, .ref p34, .ref p35, .int 0, .int 20, .int 0, .int 18, .int 0, .int 0, .int 0])), (p29, .inl (cy 0, 4, .inl (fun _ => 0))), (p30, .inl (cy 0, 4, .inl (fun _ => 0))), (p31, .inl (cy 0, 4, .inl (fun _ => 0))), (p32, .inl (cy 0, 3, .inl (fun _ => 0))), (p33, .inl (cy 0, 3, .inl (fun _ => 0))), (p34, .inl (cy 0, 3, .inl (fun _ => 0))), (p35, .inl (cy 1, 3, .inl (fun _ => 0))), (p36, .inr (0, [.int 0, .ref p37, .ref p38, .ref p39, .int 0, .ref p40, .ref p41, .ref p42, .ref p43, .int 0, .int 20, .int 0, .int 18, .int 0, .int 0, .int 0])), (p37, .inl (cy 0, 4, .inl (fun _ => 0))), (p38, .inl (cy 0, 4, .inl (fun _ => 0))), (p39, .inl (cy 0, 4, .inl (fun _ => 0))), (p40, .inl (cy 0, 3, .inl (fun _ => 0))), (p41, .inl (cy 0, 3, .inl (fun _ => 0))), (p42, .inl (cy 0, 3, .inl (fun _ => 0))), (p43, .inl (cy 1, 3, .inl (fun _ => 0))), (p44, .inl (cy 1, 2, .inl (fun _ => 0))), (p45, .inl (cy 0, 6, .inl (fun _ => 0))), (p46, .inl (cy 0, 6, .inl (fun _ => 0))), (p47, .inl (cy 4, 4, .inr (.inr (.inr (.inr (va_up (va_up (va_up (va_up (fun _ => none) 0 (some p48)) 1 (some p50)) 2 (some p52)) 3 (some p54))))))), (p48, .inr (1, [.ref p49, .int 0, .int (-1)])), (p49, .inl (cy 0, 40, .inl (fun _ => 0))), (p50, .inr (1, [.ref p51, .int 0, .int (-1)])), (p51, .inl (cy 0, 40, .inl (fun _ => 0))), (p52, .inr (1, [.ref p53, .int 0, .int (-1)])), (p53, .inl (cy 0, 40, .inl (fun _ => 0))), (p54, .inr (1, [.ref p55, .int 0, .int (-1)])), (p55, .inl (cy 0, 40, .inl (fun _ => 0))), (p56, .inr (4, [.ref p57, .ref p58, .int 0, .ref p59, .int 0, .int 20, .int 0, .int 0, .ref p60, .ref p61, .ref p62, .int 0, .int 0, .int 0, .int 0, .int 0, .int 0, .ref p63, .int 0, .int 0, .int 0, .int 0, .int 0, .int 0, .int 0, .int 0, .ref p64, .ref p65, .int 0, .ref p66, .int 0, .ref p67, .ref p68, .ref p69, .ref p70, .int 0])), (p57, .inl (cy 0, 120, .inl (fun _ => 0))), (p58, .inl (cy 0, 4, .inl (fun _ => 0))), (p59, .inl (cy 0, 6, .inl (fun _ => 0))), (p60, .inl (cy 0, 20, .inl (fun _ => 0))), (p61, .inl (cy 0, 4, .inl (fun _ => 0))), (p62, .inl (cy 0, 6, .inl (fun _ => 0))), (p63, .inl (cy 0, 160, .inl (fun _ => 0))), (p64, .inl (cy 0, 18, .inl (zinr [74, 70, 67, 64, 59, 54, 50, 47, 40, 32, 29, 25, 20, 17, 13, 9, 3, 0]))), (p65, .inl (cy 0, 74, .inl (zinr [121, 97, 116, 115, 108, 108, 97, 121, 97, 100, 116, 104, 103, 105, 110, 114, 101, 118, 105, 103, 116, 115, 97, 108, 121, 108, 115, 121, 116, 115, 114, 105, 104, 116, 100, 101, 114, 117, 115, 97, 101, 109, 121, 114, 100, 108, 108, 101, 119, 100, 110, 117, 111, 102, 119, 101, 100, 110, 97, 108, 112, 108, 97, 111, 103, 101, 108, 116, 116, 111, 98, 101, 110, 111]))), (p66, .inl (cy 0, 12, .inl (fun _ => 0))), (p67, .inl (cy 1, 2, .inl (fun _ => 0))), (p68, .inl (cy 0, 4, .inl (zinr [-4, -4, -4, -4]))), (p69, .inl (cy 0, 4, .inl (fun _ => 0))), (p70, .inl (cy 0, 160, .inl (fun _ => 0)))] : va_W)) (by rw [hws]; rfl) ?_
  refine y_astore_n (lv' := [(2, .ref p56), (1, .ref p0), (0, .ref b)]) hC dL_law_15 rfl (by decide) rfl ?_
  intro H locs ls hP hD hS hl
  refine lv_iconst (v := 0) hx hb dL_law_16 (by decide) ?_
  refine lv_istore_n (lv' := [(3, .int 0), (2, .ref p56), (1, .ref p0), (0, .ref b)]) hx hb dL_law_17 rfl hl (by decide) rfl (fun ls hl => ?_)
  obtain ⟨ad, had⟩ : ∃ ad : Nat → Nat, ad = fun k => ([p0, p1, p2, p3, p4, p5, p6, p7, p8, p9, p10, p11, p12, p13, p14, p15, p16, p17, p18, p19, p20, p21, p22, p23, p24, p25, p28, p29, p30, p31, p32, p33, p34, p35, p36, p37, p38, p39, p40, p41, p42, p43, p26, p27, p44, p45, p46, p47, p48, p49, p50, p51, p52, p53, p54, p55, p56, p57, p58, p59, p60, p61, p62, p63, p64, p65, p66, p67, p68, p69, p70] : List Nat).getD k 0 := ⟨_, rfl⟩
  have hP1 := hP.set (p := 27) (e := .inl (cy 3, 2, .inr (.inr (.inr (.inr (fun i => some (ad (26 + 8 * i)))))))) hD rfl (by
    have h1 := hP 27 _ rfl
    refine h1.trans (congrArg some (vp_cell_cg (fun j hj => ?_)))
    subst had
    rcases (show j = 0 ∨ j = 1 by omega) with rfl | rfl <;> rfl) (fun _ _ => rfl)
  have hD1 := hD.set (p := 27) (e := .inl (cy 3, 2, .inr (.inr (.inr (.inr (fun i => some (ad (26 + 8 * i)))))))) rfl
  have hP2 := hP1.set (p := 47) (e := .inl (cy 4, 4, .inr (.inr (.inr (.inr (fun i => some (ad (48 + 2 * i)))))))) hD1 rfl (by
    have h1 := hP 47 _ rfl
    refine h1.trans (congrArg some (vp_cell_cg (fun j hj => ?_)))
    subst had
    rcases (show j = 0 ∨ j = 1 ∨ j = 2 ∨ j = 3 by omega) with rfl | rfl | rfl | rfl <;> rfl) (fun _ _ => rfl)
  have hD2 := hD1.set (p := 47) (e := .inl (cy 4, 4, .inr (.inr (.inr (.inr (fun i => some (ad (48 + 2 * i)))))))) rfl
  have hP3 : va_P D vwCl (z_ws (D, cy, ad, adK, adV) zw0) H := by
    subst had
    exact hP2.sub [0, 1, 2, 3, 4, 5, 6, 7, 8, 9, 10, 11, 12, 13, 14, 15, 16, 17, 18, 19, 20, 21, 22, 23, 24, 25, 28, 29, 30, 31, 32, 33, 34, 35, 36, 37, 38, 39, 40, 41, 42, 43, 26, 27, 44, 45, 46, 47, 48, 49, 50, 51, 52, 53, 54, 55, 56, 57, 58, 59, 60, 61, 62, 63, 64, 65, 66, 67, 68, 69, 70] rfl
  have hD3 : va_D (yA s.heap.size) (z_ws (D, cy, ad, adK, adV) zw0) := by
    subst had
    exact hD2.sub [0, 1, 2, 3, 4, 5, 6, 7, 8, 9, 10, 11, 12, 13, 14, 15, 16, 17, 18, 19, 20, 21, 22, 23, 24, 25, 28, 29, 30, 31, 32, 33, 34, 35, 36, 37, 38, 39, 40, 41, 42, 43, 26, 27, 44, 45, 46, 47, 48, 49, 50, 51, 52, 53, 54, 55, 56, 57, 58, 59, 60, 61, 62, 63, 64, 65, 66, 67, 68, 69, 70] (by decide) rfl
  have hzA : ∀ q, zA (D, cy, ad, adK, adV) q → s.heap.size ≤ q := by
    rintro q ⟨k, hk, rfl⟩
    exact hD3.2 k _ (z_ws_get hk)
  have hap : zapart (D, cy, ad, adK, adV) := fun i j hi hj h => hD3.1 i j _ _ (z_ws_get hi) (z_ws_get hj) h
  have hZK : zK (D, cy, ad, adK, adV) s := ⟨hK, ⟨va_Nw.of rfl (hts _ zl_n1), va_Nw.of rfl (hts _ zl_n2), va_Nw.of rfl (hts _ zl_n3)⟩, ⟨hSt.narrow hzA, fun i hi => vk_R.of (A := #[Value.ref b]) (hts _ (zl_sr i hi)) (hSe i hi), hcs.narrow hzA, hpf.narrow hzA⟩, hap⟩
  have hCZ : zC (D, cy, ad, adK, adV) RL cL_law 4 ret p s m #[Value.ref b] meth c := ⟨hx, hb, hml, hown, hz, hZK, hlocks, hr⟩
  refine va_forget (fun q hq => hS.2.2 q hq) ?_
  have e0 : zad (D, cy, ad, adK, adV) 0 = p0 := by subst had; rfl
  have e56 : zad (D, cy, ad, adK, adV) 56 = p56 := by subst had; rfl
  refine law_loop (G := (D, cy, ad, adK, adV)) hCZ hX hbl (fun h => absurd (hzA b h) (Nat.not_le.mpr hbl)) hzA hL hJ (L + 1) 0 (Nat.zero_le _) (by omega) zw0 h0 H [] ls hP3 ⟨hS.1, fun q h1 _ => hS.2.1 q h1 (Nat.not_le.mpr h1), fun _ h => by cases h⟩ ?_
  rw [e0, e56]
  exact lv_sub hl [3, 2, 1, 0] rfl
