abbrev rm_X2_fail : Room := { frames := 0, cells := 0, slots := 0, locals := 0 }
def f_X2_fail (w : zW) (a1 : Int32) (a2 : Int32) : Option (Int32 × zW) :=
  zlet (zup w 42 10 a1) fun w1 =>
  zlet (zup w1 42 11 a2) fun w2 =>
  some ((0 : Int32), w2)
set_option maxRecDepth 100000 in
set_option maxHeartbeats 4000000 in
theorem c_X2_fail (l : Launch) (G : zG) (w : zW) (a1 : Int32) (a2 : Int32) {r : Int32} {wz : zW} (hf : f_X2_fail w a1 a2 = some (r, wz)) : zMet l G yX2_fail cX2_fail 3 (some .boolean) rm_X2_fail [.ref (zad G 42), .int a1, .int a2] w (some (.int r)) wz := by
  refine z_start (own := RX2) (by decide) rfl (Nat.le_of_ble_eq_true rfl) (lv := [(0, .ref (zad G 42)), (1, .int a1), (2, .int a2)]) rfl ?_
  intro p e s m args below meth c hC
  unfold f_X2_fail at hf
  refine z_aload_n hC dX2_fail_0 0 rfl rfl ?_
  refine z_iload_n hC dX2_fail_1 1 rfl rfl ?_
  obtain ⟨w1, ew1, hf⟩ := zlet_e hf
  refine z_put2 hC 10 (by decide) rfl rfl zw_fl_X2_36 rfl ew1 dX2_fail_2 ?_
  refine z_aload_n hC dX2_fail_5 0 rfl rfl ?_
  refine z_iload_n hC dX2_fail_6 2 rfl rfl ?_
  obtain ⟨w2, ew2, hf⟩ := zlet_e hf
  refine z_put2 hC 11 (by decide) rfl rfl zw_fl_X2_39 rfl ew2 dX2_fail_7 ?_
  refine z_iconst hC dX2_fail_10 (v := 0) rfl ?_
  obtain ⟨rfl, rfl⟩ := zso2 hf
  exact z_zret hC rfl dX2_fail_11
theorem zy_X2_fail : zYV yX2_fail cX2_fail 3 (some .boolean) RX2 2 := ⟨zw_cd_X2_fail, zw_im_X2_fail, zw_sel_X2_fail, zw_ini_X2, by decide +kernel⟩
abbrev rm_X2_dryUpWells : Room := { frames := 1, cells := 0, slots := 0, locals := 22 }
def b_X2_dryUpWells_2 (j30 : zW → Option zW) (k2 : Int32 → zW → Option zW) (v4 : Int32) (w5 : zW) : Option zW :=
  if (3 : Int32) ≤ v4 then
    some w5
  else
  zjn1 (fun (w7 : zW) =>
    zlet (v4 + (1 : Int32)) fun v8 =>
    k2 v8 w7)
  (fun (j52 : zW → Option zW) =>
  if (((w5 42 8) >>> (v4 &&& 31)) &&& (1 : Int32)) = (1 : Int32) then
    if v4 < (w5 10 4) then
      zg (zin v4 3) <|
      zlet (zup w5 (10 + 7) (zx v4) (vp_nar .boolean (0 : Int32))) fun w12 =>
      j52 w12
    else
    j30 w5
  else
    j52 w5)
def f_X2_dryUpWells (w : zW) : Option zW :=
  zjn1 (fun (w1 : zW) =>
    zbd2 (f_X2_fail w1 (6 : Int32) (w1 42 2)) fun v3 w2 =>
    some w2)
  (fun (j30 : zW → Option zW) =>
  zfix2 (b_X2_dryUpWells_2 j30) 100000 (0 : Int32) w)
set_option maxRecDepth 100000 in
set_option maxHeartbeats 4000000 in
theorem c_X2_dryUpWells (l : Launch) (G : zG) (w : zW) {wz : zW} (hf : f_X2_dryUpWells w = some wz) : zMet l G yX2_dryUpWells cX2_dryUpWells 2 none rm_X2_dryUpWells [.ref (zad G 42)] w none wz := by
  refine z_start (own := RX2) (by decide) rfl (Nat.le_of_ble_eq_true rfl) (lv := [(0, .ref (zad G 42))]) rfl ?_
  intro p e s m args below meth c hC
  unfold f_X2_dryUpWells at hf
  refine z_iconst hC dX2_dryUpWells_0 (v := 0) rfl ?_
  refine z_istore_n (lv' := [(1, .int (0 : Int32)), (0, .ref (zad G 42))]) hC dX2_dryUpWells_1 rfl (by decide) rfl ?_
  obtain ⟨j30, hj30, hf⟩ := zjn1_e hf
  have hJ30 : ∀ (w1 : zW), j30 w1 = some wz → Z G p l e rm_X2_dryUpWells s m args below meth c (MQ below (zQ G none wz) args s 0 0 (zA G)) 2 30 [(0, .ref (zad G 42))] [] w1 := by
    intro w1 hf
    replace hf := hj30 w1 hf
    refine z_aload_n hC dX2_dryUpWells_30 0 rfl rfl ?_
    refine z_bipush hC dX2_dryUpWells_31 (v := 6) rfl ?_
    refine z_aload_n hC dX2_dryUpWells_33 0 rfl rfl ?_
    refine z_get2 hC 2 (by decide) zw_fl_X2_9 (v := .int (w1 42 2)) rfl dX2_dryUpWells_34 ?_
    obtain ⟨v3, w2, ew2, hf⟩ := zbd2_e hf
    refine z_cvi (As := [.int (6 : Int32), .int (w1 42 2)]) (rest := []) hC zo_read rfl (c_X2_fail l G w1 (6 : Int32) (w1 42 2) ew2) zw_ml_X2_74 zy_X2_fail ⟨rfl, rfl, Nat.le_of_ble_eq_true rfl, Nat.le_of_ble_eq_true rfl⟩ rfl rfl (Nat.le_of_ble_eq_true rfl) dX2_dryUpWells_37 ?_
    refine z_pop hC dX2_dryUpWells_40 rfl ?_
    obtain rfl := zso1 hf
    exact z_vret hC dX2_dryUpWells_41
  have hL2 : ∀ (n : Nat) (v4 : Int32) (w5 : zW), zfix2 (b_X2_dryUpWells_2 j30) n v4 w5 = some wz → Z G p l e rm_X2_dryUpWells s m args below meth c (MQ below (zQ G none wz) args s 0 0 (zA G)) 2 2 [(0, .ref (zad G 42)), (1, .int v4)] [] w5 := by
    intro n
    induction n with
    | zero => intro v4 w5 hf; exact (zfix2_0 hf).elim
    | succ n ih2 =>
      intro v4 w5 hf
      replace hf := zfix2_e hf
      unfold b_X2_dryUpWells_2 at hf
      refine z_iload_n hC dX2_dryUpWells_2 1 rfl rfl ?_
      refine z_iconst hC dX2_dryUpWells_3 (v := 3) rfl ?_
      refine z_icmp_ge (tgt := 58) hC dX2_dryUpWells_4 (by decide) (fun h6 => ?_) (fun h6 => ?_)
      · replace hf := zif_t h6 hf
        obtain rfl := zso1 hf
        exact z_vret hC dX2_dryUpWells_58
      replace hf := zif_f h6 hf
      refine z_aload_n hC dX2_dryUpWells_7 0 rfl rfl ?_
      refine z_get2 hC 8 (by decide) zw_fl_X2_30 (v := .int (w5 42 8)) rfl dX2_dryUpWells_8 ?_
      refine z_iload_n hC dX2_dryUpWells_11 1 rfl rfl ?_
      refine z_ishr hC dX2_dryUpWells_12 ?_
      refine z_iconst hC dX2_dryUpWells_13 (v := 1) rfl ?_
      refine z_iand hC dX2_dryUpWells_14 ?_
      refine z_iconst hC dX2_dryUpWells_15 (v := 1) rfl ?_
      obtain ⟨j52, hj52, hf⟩ := zjn1_e hf
      have hJ52 : ∀ (w7 : zW), j52 w7 = some wz → Z G p l e rm_X2_dryUpWells s m args below meth c (MQ below (zQ G none wz) args s 0 0 (zA G)) 2 52 [(0, .ref (zad G 42)), (1, .int v4)] [] w7 := by
        intro w7 hf
        replace hf := hj52 w7 hf
        obtain ⟨v8, ev8, hf⟩ := zlet_e hf
        refine z_iinc (v := v8) (lv' := [(1, .int v8), (0, .ref (zad G 42))]) hC dX2_dryUpWells_52 1 rfl (by rw [ev8]; rfl) (by decide) rfl ?_
        refine z_goto (tgt := 2) hC dX2_dryUpWells_55 (by decide) ?_
        refine z_lv [1, 0] rfl ?_
        exact ih2 _ _ hf
      refine z_icmp_ne (tgt := 52) hC dX2_dryUpWells_16 (by decide) (fun h9 => ?_) (fun h9 => ?_)
      · replace hf := zif_f h9 hf
        exact hJ52 _ hf
      replace hf := zif_t h9 hf
      refine z_iload_n hC dX2_dryUpWells_19 1 rfl rfl ?_
      refine z_aload_n hC dX2_dryUpWells_20 0 rfl rfl ?_
      refine z_get2 hC 1 (by decide) zw_fl_X2_46 (v := .ref (zad G 10)) rfl dX2_dryUpWells_21 ?_
      refine z_get0 hC zcamp10 4 (by decide) zw_fl_X2_71 (v := .int (w5 10 4)) rfl dX2_dryUpWells_24 ?_
      refine z_icmp_lt (tgt := 42) hC dX2_dryUpWells_27 (by decide) (fun h10 => ?_) (fun h10 => ?_)
      · replace hf := zif_t h10 hf
        refine z_aload_n hC dX2_dryUpWells_42 0 rfl rfl ?_
        refine z_get2 hC 1 (by decide) zw_fl_X2_46 (v := .ref (zad G 10)) rfl dX2_dryUpWells_43 ?_
        refine z_get0 hC zcamp10 8 (by decide) zw_fl_X2_78 (v := .ref (zad G (10 + 7))) rfl dX2_dryUpWells_46 ?_
        refine z_iload_n hC dX2_dryUpWells_49 1 rfl rfl ?_
        refine z_iconst hC dX2_dryUpWells_50 (v := 0) rfl ?_
        obtain ⟨hg11, hf⟩ := zg_e hf
        obtain ⟨w12, ew12, hf⟩ := zlet_e hf
        refine z_zast hC (za_c7 zcamp10) hg11 rfl ew12 dX2_dryUpWells_51 ?_
        exact hJ52 _ hf
      replace hf := zif_f h10 hf
      refine z_lv [0] rfl ?_
      exact hJ30 _ hf
  refine z_lv [1, 0] rfl ?_
  exact hL2 _ _ _ hf
theorem zy_X2_dryUpWells : zYV yX2_dryUpWells cX2_dryUpWells 2 none RX2 0 := ⟨zw_cd_X2_dryUpWells, zw_im_X2_dryUpWells, zw_sel_X2_dryUpWells, zw_ini_X2, by decide +kernel⟩
abbrev rm_X2_endOfRun : Room := { frames := 0, cells := 0, slots := 0, locals := 0 }
def b_X2_endOfRun_3 (w : zW) (a2 : Int32) (a3 : Int32) (k3 : Int32 → Option Int32) (v1 : Int32) : Option Int32 :=
  if (w 42 2) ≤ v1 then
    some v1
  else
  zg (zin v1 160) <|
  if (w 1 (zx v1)) < a2 then
    some v1
  else
  zg (zin v1 160) <|
  if a3 < (w 1 (zx v1)) then
    some v1
  else
  zlet (v1 + (1 : Int32)) fun v7 =>
  k3 v7
def f_X2_endOfRun (w : zW) (a1 : Int32) (a2 : Int32) (a3 : Int32) : Option Int32 :=
  zfix1 (b_X2_endOfRun_3 w a2 a3) 100000 a1
set_option maxRecDepth 100000 in
set_option maxHeartbeats 4000000 in
theorem c_X2_endOfRun (l : Launch) (G : zG) (w : zW) (a1 : Int32) (a2 : Int32) (a3 : Int32) {r : Int32} (hf : f_X2_endOfRun w a1 a2 a3 = some r) : zMet l G yX2_endOfRun cX2_endOfRun 5 (some .int) rm_X2_endOfRun [.ref (zad G 42), .int a1, .int a2, .int a3] w (some (.int r)) w := by
  refine z_start (own := RX2) (by decide) rfl (Nat.le_of_ble_eq_true rfl) (lv := [(0, .ref (zad G 42)), (1, .int a1), (2, .int a2), (3, .int a3)]) rfl ?_
  intro p e s m args below meth c hC
  unfold f_X2_endOfRun at hf
  refine z_iload_n hC dX2_endOfRun_0 1 rfl rfl ?_
  refine z_istore (lv' := [(4, .int a1), (0, .ref (zad G 42)), (1, .int a1), (2, .int a2), (3, .int a3)]) hC dX2_endOfRun_1 (by decide) rfl ?_
  have hL3 : ∀ (n : Nat) (v1 : Int32), zfix1 (b_X2_endOfRun_3 w a2 a3) n v1 = some r → Z G p l e rm_X2_endOfRun s m args below meth c (MQ below (zQ G (some (.int r)) w) args s 0 0 (zA G)) 5 3 [(0, .ref (zad G 42)), (2, .int a2), (3, .int a3), (4, .int v1)] [] w := by
    intro n
    induction n with
    | zero => intro v1 hf; exact (zfix1_0 hf).elim
    | succ n ih3 =>
      intro v1 hf
      replace hf := zfix1_e hf
      unfold b_X2_endOfRun_3 at hf
      refine z_iload hC dX2_endOfRun_3 3 rfl ?_
      refine z_aload_n hC dX2_endOfRun_5 0 rfl rfl ?_
      refine z_get2 hC 2 (by decide) zw_fl_X2_9 (v := .int (w 42 2)) rfl dX2_endOfRun_6 ?_
      refine z_icmp_ge (tgt := 40) hC dX2_endOfRun_9 (by decide) (fun h2 => ?_) (fun h2 => ?_)
      · replace hf := zif_t h2 hf
        refine z_iload hC dX2_endOfRun_40 3 rfl ?_
        obtain rfl := zso1 hf
        exact z_iret hC dX2_endOfRun_42
      replace hf := zif_f h2 hf
      refine z_aload_n hC dX2_endOfRun_12 0 rfl rfl ?_
      refine z_get2 hC 0 (by decide) zw_fl_X2_42 (v := .ref (zad G 1)) rfl dX2_endOfRun_13 ?_
      refine z_iload hC dX2_endOfRun_16 3 rfl ?_
      obtain ⟨hg3, hf⟩ := zg_e hf
      refine z_bald hC za_1 hg3 rfl dX2_endOfRun_18 ?_
      refine z_iload_n hC dX2_endOfRun_19 1 rfl rfl ?_
      refine z_icmp_lt (tgt := 40) hC dX2_endOfRun_20 (by decide) (fun h4 => ?_) (fun h4 => ?_)
      · replace hf := zif_t h4 hf
        refine z_iload hC dX2_endOfRun_40 3 rfl ?_
        obtain rfl := zso1 hf
        exact z_iret hC dX2_endOfRun_42
      replace hf := zif_f h4 hf
      refine z_aload_n hC dX2_endOfRun_23 0 rfl rfl ?_
      refine z_get2 hC 0 (by decide) zw_fl_X2_42 (v := .ref (zad G 1)) rfl dX2_endOfRun_24 ?_
      refine z_iload hC dX2_endOfRun_27 3 rfl ?_
      obtain ⟨hg5, hf⟩ := zg_e hf
      refine z_bald hC za_1 hg5 rfl dX2_endOfRun_29 ?_
      refine z_iload_n hC dX2_endOfRun_30 2 rfl rfl ?_
      refine z_icmp_gt (tgt := 40) hC dX2_endOfRun_31 (by decide) (fun h6 => ?_) (fun h6 => ?_)
      · replace hf := zif_t h6 hf
        refine z_iload hC dX2_endOfRun_40 3 rfl ?_
        obtain rfl := zso1 hf
        exact z_iret hC dX2_endOfRun_42
      replace hf := zif_f h6 hf
      obtain ⟨v7, ev7, hf⟩ := zlet_e hf
      refine z_iinc (v := v7) (lv' := [(4, .int v7), (0, .ref (zad G 42)), (2, .int a2), (3, .int a3)]) hC dX2_endOfRun_34 3 rfl (by rw [ev7]; rfl) (by decide) rfl ?_
      refine z_goto (tgt := 3) hC dX2_endOfRun_37 (by decide) ?_
      refine z_lv [1, 2, 3, 0] rfl ?_
      exact ih3 _ hf
  refine z_lv [1, 3, 4, 0] rfl ?_
  exact hL3 _ _ hf
theorem zy_X2_endOfRun : zYV yX2_endOfRun cX2_endOfRun 5 (some .int) RX2 3 := ⟨zw_cd_X2_endOfRun, zw_im_X2_endOfRun, zw_sel_X2_endOfRun, zw_ini_X2, by decide +kernel⟩
abbrev rm_X2_isName : Room := { frames := 4, cells := 0, slots := 0, locals := 85 }
def b_X2_isName_28 (w : zW) (i1 : Nat) (k28 : Int32 → Option Int32) (v3 : Int32) : Option Int32 :=
  if (f_J0_length_8abf5 i1) ≤ v3 then
    some (1 : Int32)
  else
  zg (zin ((w 42 4) + v3) 160) <|
  zbd (f_J0_charAt_5068e i1 v3) fun v6 =>
  if (w 1 (zx ((w 42 4) + v3))) = v6 then
    zlet (v3 + (1 : Int32)) fun v8 =>
    k28 v8
  else
  some (0 : Int32)
def f_X2_isName (w : zW) (i1 : Nat) : Option Int32 :=
  if (w 42 3) = (1 : Int32) then
    if ((w 42 5) - (w 42 4)) = (f_J0_length_8abf5 i1) then
      zfix1 (b_X2_isName_28 w i1) 100000 (0 : Int32)
    else
    some (0 : Int32)
  else
    some (0 : Int32)
set_option maxRecDepth 100000 in
set_option maxHeartbeats 4000000 in
theorem c_X2_isName (l : Launch) (G : zG) (w : zW) (i1 : Nat) (hi1 : i1 < 17) {r : Int32} (hf : f_X2_isName w i1 = some r) : zMet l G yX2_isName cX2_isName 3 (some .boolean) rm_X2_isName [.ref (zad G 42), .ref (zaK G i1)] w (some (.int r)) w := by
  refine z_start (own := RX2) (by decide) rfl (Nat.le_of_ble_eq_true rfl) (lv := [(0, .ref (zad G 42)), (1, .ref (zaK G i1))]) rfl ?_
  intro p e s m args below meth c hC
  unfold f_X2_isName at hf
  refine z_aload_n hC dX2_isName_0 0 rfl rfl ?_
  refine z_get2 hC 3 (by decide) zw_fl_X2_15 (v := .int (w 42 3)) rfl dX2_isName_1 ?_
  refine z_iconst hC dX2_isName_4 (v := 1) rfl ?_
  refine z_icmp_ne (tgt := 24) hC dX2_isName_5 (by decide) (fun h1 => ?_) (fun h1 => ?_)
  · replace hf := zif_f h1 hf
    refine z_iconst hC dX2_isName_24 (v := 0) rfl ?_
    obtain rfl := zso1 hf
    exact z_zret hC rfl dX2_isName_25
  replace hf := zif_t h1 hf
  refine z_aload_n hC dX2_isName_8 0 rfl rfl ?_
  refine z_get2 hC 5 (by decide) zw_fl_X2_21 (v := .int (w 42 5)) rfl dX2_isName_9 ?_
  refine z_aload_n hC dX2_isName_12 0 rfl rfl ?_
  refine z_get2 hC 4 (by decide) zw_fl_X2_18 (v := .int (w 42 4)) rfl dX2_isName_13 ?_
  refine z_isub hC dX2_isName_16 ?_
  refine z_aload_n hC dX2_isName_17 1 rfl rfl ?_
  refine z_cki (As := []) (rest := [.int ((w 42 5) - (w 42 4))]) hC hi1 (c_J0_length_8abf5 l G w i1 hi1) zw_ml_X2_90 zy_J0_length_8abf5 ⟨rfl, rfl, Nat.le_of_ble_eq_true rfl, Nat.le_of_ble_eq_true rfl⟩ rfl rfl (Nat.le_of_ble_eq_true rfl) dX2_isName_18 ?_
  refine z_icmp_eq (tgt := 26) hC dX2_isName_21 (by decide) (fun h2 => ?_) (fun h2 => ?_)
  · replace hf := zif_t h2 hf
    refine z_iconst hC dX2_isName_26 (v := 0) rfl ?_
    refine z_istore_n (lv' := [(2, .int (0 : Int32)), (0, .ref (zad G 42)), (1, .ref (zaK G i1))]) hC dX2_isName_27 rfl (by decide) rfl ?_
    have hL28 : ∀ (n : Nat) (v3 : Int32), zfix1 (b_X2_isName_28 w i1) n v3 = some r → Z G p l e rm_X2_isName s m args below meth c (MQ below (zQ G (some (.int r)) w) args s 0 0 (zA G)) 3 28 [(0, .ref (zad G 42)), (1, .ref (zaK G i1)), (2, .int v3)] [] w := by
      intro n
      induction n with
      | zero => intro v3 hf; exact (zfix1_0 hf).elim
      | succ n ih28 =>
        intro v3 hf
        replace hf := zfix1_e hf
        unfold b_X2_isName_28 at hf
        refine z_iload_n hC dX2_isName_28 2 rfl rfl ?_
        refine z_aload_n hC dX2_isName_29 1 rfl rfl ?_
        refine z_cki (As := []) (rest := [.int v3]) hC hi1 (c_J0_length_8abf5 l G w i1 hi1) zw_ml_X2_90 zy_J0_length_8abf5 ⟨rfl, rfl, Nat.le_of_ble_eq_true rfl, Nat.le_of_ble_eq_true rfl⟩ rfl rfl (Nat.le_of_ble_eq_true rfl) dX2_isName_30 ?_
        refine z_icmp_ge (tgt := 63) hC dX2_isName_33 (by decide) (fun h4 => ?_) (fun h4 => ?_)
        · replace hf := zif_t h4 hf
          refine z_iconst hC dX2_isName_63 (v := 1) rfl ?_
          obtain rfl := zso1 hf
          exact z_zret hC rfl dX2_isName_64
        replace hf := zif_f h4 hf
        refine z_aload_n hC dX2_isName_36 0 rfl rfl ?_
        refine z_get2 hC 0 (by decide) zw_fl_X2_42 (v := .ref (zad G 1)) rfl dX2_isName_37 ?_
        refine z_aload_n hC dX2_isName_40 0 rfl rfl ?_
        refine z_get2 hC 4 (by decide) zw_fl_X2_18 (v := .int (w 42 4)) rfl dX2_isName_41 ?_
        refine z_iload_n hC dX2_isName_44 2 rfl rfl ?_
        refine z_iadd hC dX2_isName_45 ?_
        obtain ⟨hg5, hf⟩ := zg_e hf
        refine z_bald hC za_1 hg5 rfl dX2_isName_46 ?_
        refine z_aload_n hC dX2_isName_47 1 rfl rfl ?_
        refine z_iload_n hC dX2_isName_48 2 rfl rfl ?_
        obtain ⟨v6, ev6, hf⟩ := zbd_e hf
        refine z_cki (As := [.int v3]) (rest := [.int (w 1 (zx ((w 42 4) + v3)))]) hC hi1 (c_J0_charAt_5068e l G w i1 hi1 v3 ev6) zw_ml_X2_95 zy_J0_charAt_5068e ⟨rfl, rfl, Nat.le_of_ble_eq_true rfl, Nat.le_of_ble_eq_true rfl⟩ rfl rfl (Nat.le_of_ble_eq_true rfl) dX2_isName_49 ?_
        refine z_icmp_eq (tgt := 57) hC dX2_isName_52 (by decide) (fun h7 => ?_) (fun h7 => ?_)
        · replace hf := zif_t h7 hf
          obtain ⟨v8, ev8, hf⟩ := zlet_e hf
          refine z_iinc (v := v8) (lv' := [(2, .int v8), (0, .ref (zad G 42)), (1, .ref (zaK G i1))]) hC dX2_isName_57 2 rfl (by rw [ev8]; rfl) (by decide) rfl ?_
          refine z_goto (tgt := 28) hC dX2_isName_60 (by decide) ?_
          refine z_lv [1, 2, 0] rfl ?_
          exact ih28 _ hf
        replace hf := zif_f h7 hf
        refine z_iconst hC dX2_isName_55 (v := 0) rfl ?_
        obtain rfl := zso1 hf
        exact z_zret hC rfl dX2_isName_56
    refine z_lv [1, 2, 0] rfl ?_
    exact hL28 _ _ hf
  replace hf := zif_f h2 hf
  refine z_iconst hC dX2_isName_24 (v := 0) rfl ?_
  obtain rfl := zso1 hf
  exact z_zret hC rfl dX2_isName_25
theorem zy_X2_isName : zYV yX2_isName cX2_isName 3 (some .boolean) RX2 1 := ⟨zw_cd_X2_isName, zw_im_X2_isName, zw_sel_X2_isName, zw_ini_X2, by decide +kernel⟩
abbrev rm_X2_kindByName : Room := { frames := 5, cells := 0, slots := 0, locals := 107 }
def f_X2_kindByName (w : zW) : Option Int32 :=
  zbd (f_X2_isName w 8) fun v1 =>
  if v1 = (0 : Int32) then
    zbd (f_X2_isName w 9) fun v3 =>
    if v3 = (0 : Int32) then
      zbd (f_X2_isName w 10) fun v5 =>
      if v5 = (0 : Int32) then
        zbd (f_X2_isName w 11) fun v7 =>
        if v7 = (0 : Int32) then
          zbd (f_X2_isName w 12) fun v9 =>
          if v9 = (0 : Int32) then
            some (-4 : Int32)
          else
          some (4 : Int32)
        else
        some (3 : Int32)
      else
      some (2 : Int32)
    else
    some (1 : Int32)
  else
  some (0 : Int32)
set_option maxRecDepth 100000 in
set_option maxHeartbeats 4000000 in
theorem c_X2_kindByName (l : Launch) (G : zG) (w : zW) {r : Int32} (hf : f_X2_kindByName w = some r) : zMet l G yX2_kindByName cX2_kindByName 1 (some .int) rm_X2_kindByName [.ref (zad G 42)] w (some (.int r)) w := by
  refine z_start (own := RX2) (by decide) rfl (Nat.le_of_ble_eq_true rfl) (lv := [(0, .ref (zad G 42))]) rfl ?_
  intro p e s m args below meth c hC
  unfold f_X2_kindByName at hf
  refine z_aload_n hC dX2_kindByName_0 0 rfl rfl ?_
  refine z_ldcS (i := 8) hC (by decide) rfl rfl rfl dX2_kindByName_1 ?_
  obtain ⟨v1, ev1, hf⟩ := zbd_e hf
  refine z_cvi (As := [.ref (zaK G 8)]) (rest := []) hC zo_read rfl (c_X2_isName l G w 8 (by decide) ev1) zw_ml_X2_131 zy_X2_isName ⟨rfl, rfl, Nat.le_of_ble_eq_true rfl, Nat.le_of_ble_eq_true rfl⟩ rfl rfl (Nat.le_of_ble_eq_true rfl) dX2_kindByName_3 ?_
  refine z_if_eq (tgt := 11) hC dX2_kindByName_6 (by decide) (fun h2 => ?_) (fun h2 => ?_)
  · replace hf := zif_t h2 hf
    refine z_aload_n hC dX2_kindByName_11 0 rfl rfl ?_
    refine z_ldcS (i := 9) hC (by decide) rfl rfl rfl dX2_kindByName_12 ?_
    obtain ⟨v3, ev3, hf⟩ := zbd_e hf
    refine z_cvi (As := [.ref (zaK G 9)]) (rest := []) hC zo_read rfl (c_X2_isName l G w 9 (by decide) ev3) zw_ml_X2_131 zy_X2_isName ⟨rfl, rfl, Nat.le_of_ble_eq_true rfl, Nat.le_of_ble_eq_true rfl⟩ rfl rfl (Nat.le_of_ble_eq_true rfl) dX2_kindByName_14 ?_
    refine z_if_eq (tgt := 22) hC dX2_kindByName_17 (by decide) (fun h4 => ?_) (fun h4 => ?_)
    · replace hf := zif_t h4 hf
      refine z_aload_n hC dX2_kindByName_22 0 rfl rfl ?_
      refine z_ldcS (i := 10) hC (by decide) rfl rfl rfl dX2_kindByName_23 ?_
      obtain ⟨v5, ev5, hf⟩ := zbd_e hf
      refine z_cvi (As := [.ref (zaK G 10)]) (rest := []) hC zo_read rfl (c_X2_isName l G w 10 (by decide) ev5) zw_ml_X2_131 zy_X2_isName ⟨rfl, rfl, Nat.le_of_ble_eq_true rfl, Nat.le_of_ble_eq_true rfl⟩ rfl rfl (Nat.le_of_ble_eq_true rfl) dX2_kindByName_25 ?_
      refine z_if_eq (tgt := 33) hC dX2_kindByName_28 (by decide) (fun h6 => ?_) (fun h6 => ?_)
      · replace hf := zif_t h6 hf
        refine z_aload_n hC dX2_kindByName_33 0 rfl rfl ?_
        refine z_ldcS (i := 11) hC (by decide) rfl rfl rfl dX2_kindByName_34 ?_
        obtain ⟨v7, ev7, hf⟩ := zbd_e hf
        refine z_cvi (As := [.ref (zaK G 11)]) (rest := []) hC zo_read rfl (c_X2_isName l G w 11 (by decide) ev7) zw_ml_X2_131 zy_X2_isName ⟨rfl, rfl, Nat.le_of_ble_eq_true rfl, Nat.le_of_ble_eq_true rfl⟩ rfl rfl (Nat.le_of_ble_eq_true rfl) dX2_kindByName_36 ?_
        refine z_if_eq (tgt := 44) hC dX2_kindByName_39 (by decide) (fun h8 => ?_) (fun h8 => ?_)
        · replace hf := zif_t h8 hf
          refine z_aload_n hC dX2_kindByName_44 0 rfl rfl ?_
          refine z_ldcS (i := 12) hC (by decide) rfl rfl rfl dX2_kindByName_45 ?_
          obtain ⟨v9, ev9, hf⟩ := zbd_e hf
          refine z_cvi (As := [.ref (zaK G 12)]) (rest := []) hC zo_read rfl (c_X2_isName l G w 12 (by decide) ev9) zw_ml_X2_131 zy_X2_isName ⟨rfl, rfl, Nat.le_of_ble_eq_true rfl, Nat.le_of_ble_eq_true rfl⟩ rfl rfl (Nat.le_of_ble_eq_true rfl) dX2_kindByName_47 ?_
          refine z_if_eq (tgt := 55) hC dX2_kindByName_50 (by decide) (fun h10 => ?_) (fun h10 => ?_)
          · replace hf := zif_t h10 hf
            refine z_bipush hC dX2_kindByName_55 (v := -4) rfl ?_
            obtain rfl := zso1 hf
            exact z_iret hC dX2_kindByName_57
          replace hf := zif_f h10 hf
          refine z_iconst hC dX2_kindByName_53 (v := 4) rfl ?_
          obtain rfl := zso1 hf
          exact z_iret hC dX2_kindByName_54
        replace hf := zif_f h8 hf
        refine z_iconst hC dX2_kindByName_42 (v := 3) rfl ?_
        obtain rfl := zso1 hf
        exact z_iret hC dX2_kindByName_43
      replace hf := zif_f h6 hf
      refine z_iconst hC dX2_kindByName_31 (v := 2) rfl ?_
      obtain rfl := zso1 hf
      exact z_iret hC dX2_kindByName_32
    replace hf := zif_f h4 hf
    refine z_iconst hC dX2_kindByName_20 (v := 1) rfl ?_
    obtain rfl := zso1 hf
    exact z_iret hC dX2_kindByName_21
  replace hf := zif_f h2 hf
  refine z_iconst hC dX2_kindByName_9 (v := 0) rfl ?_
  obtain rfl := zso1 hf
  exact z_iret hC dX2_kindByName_10
theorem zy_X2_kindByName : zYV yX2_kindByName cX2_kindByName 1 (some .int) RX2 0 := ⟨zw_cd_X2_kindByName, zw_im_X2_kindByName, zw_sel_X2_kindByName, zw_ini_X2, by decide +kernel⟩
abbrev rm_X2_lineByName : Room := { frames := 5, cells := 0, slots := 0, locals := 107 }
def f_X2_lineByName (w : zW) : Option Int32 :=
  zbd (f_X2_isName w 0) fun v1 =>
  if v1 = (0 : Int32) then
    zbd (f_X2_isName w 1) fun v3 =>
    if v3 = (0 : Int32) then
      zbd (f_X2_isName w 2) fun v5 =>
      if v5 = (0 : Int32) then
        zbd (f_X2_isName w 3) fun v7 =>
        if v7 = (0 : Int32) then
          zbd (f_X2_isName w 4) fun v9 =>
          if v9 = (0 : Int32) then
            zbd (f_X2_isName w 5) fun v11 =>
            if v11 = (0 : Int32) then
              zbd (f_X2_isName w 6) fun v13 =>
              if v13 = (0 : Int32) then
                zbd (f_X2_isName w 7) fun v15 =>
                if v15 = (0 : Int32) then
                  some (8 : Int32)
                else
                some (7 : Int32)
              else
              some (6 : Int32)
            else
            some (5 : Int32)
          else
          some (4 : Int32)
        else
        some (3 : Int32)
      else
      some (2 : Int32)
    else
    some (1 : Int32)
  else
  some (0 : Int32)
set_option maxRecDepth 100000 in
set_option maxHeartbeats 4000000 in
theorem c_X2_lineByName (l : Launch) (G : zG) (w : zW) {r : Int32} (hf : f_X2_lineByName w = some r) : zMet l G yX2_lineByName cX2_lineByName 1 (some .int) rm_X2_lineByName [.ref (zad G 42)] w (some (.int r)) w := by
  refine z_start (own := RX2) (by decide) rfl (Nat.le_of_ble_eq_true rfl) (lv := [(0, .ref (zad G 42))]) rfl ?_
  intro p e s m args below meth c hC
  unfold f_X2_lineByName at hf
  refine z_aload_n hC dX2_lineByName_0 0 rfl rfl ?_
  refine z_ldcS (i := 0) hC (by decide) rfl rfl rfl dX2_lineByName_1 ?_
  obtain ⟨v1, ev1, hf⟩ := zbd_e hf
  refine z_cvi (As := [.ref (zaK G 0)]) (rest := []) hC zo_read rfl (c_X2_isName l G w 0 (by decide) ev1) zw_ml_X2_131 zy_X2_isName ⟨rfl, rfl, Nat.le_of_ble_eq_true rfl, Nat.le_of_ble_eq_true rfl⟩ rfl rfl (Nat.le_of_ble_eq_true rfl) dX2_lineByName_3 ?_
  refine z_if_eq (tgt := 11) hC dX2_lineByName_6 (by decide) (fun h2 => ?_) (fun h2 => ?_)
  · replace hf := zif_t h2 hf
    refine z_aload_n hC dX2_lineByName_11 0 rfl rfl ?_
    refine z_ldcS (i := 1) hC (by decide) rfl rfl rfl dX2_lineByName_12 ?_
    obtain ⟨v3, ev3, hf⟩ := zbd_e hf
    refine z_cvi (As := [.ref (zaK G 1)]) (rest := []) hC zo_read rfl (c_X2_isName l G w 1 (by decide) ev3) zw_ml_X2_131 zy_X2_isName ⟨rfl, rfl, Nat.le_of_ble_eq_true rfl, Nat.le_of_ble_eq_true rfl⟩ rfl rfl (Nat.le_of_ble_eq_true rfl) dX2_lineByName_14 ?_
    refine z_if_eq (tgt := 22) hC dX2_lineByName_17 (by decide) (fun h4 => ?_) (fun h4 => ?_)
    · replace hf := zif_t h4 hf
      refine z_aload_n hC dX2_lineByName_22 0 rfl rfl ?_
      refine z_ldcS (i := 2) hC (by decide) rfl rfl rfl dX2_lineByName_23 ?_
      obtain ⟨v5, ev5, hf⟩ := zbd_e hf
      refine z_cvi (As := [.ref (zaK G 2)]) (rest := []) hC zo_read rfl (c_X2_isName l G w 2 (by decide) ev5) zw_ml_X2_131 zy_X2_isName ⟨rfl, rfl, Nat.le_of_ble_eq_true rfl, Nat.le_of_ble_eq_true rfl⟩ rfl rfl (Nat.le_of_ble_eq_true rfl) dX2_lineByName_25 ?_
      refine z_if_eq (tgt := 33) hC dX2_lineByName_28 (by decide) (fun h6 => ?_) (fun h6 => ?_)
      · replace hf := zif_t h6 hf
        refine z_aload_n hC dX2_lineByName_33 0 rfl rfl ?_
        refine z_ldcS (i := 3) hC (by decide) rfl rfl rfl dX2_lineByName_34 ?_
        obtain ⟨v7, ev7, hf⟩ := zbd_e hf
        refine z_cvi (As := [.ref (zaK G 3)]) (rest := []) hC zo_read rfl (c_X2_isName l G w 3 (by decide) ev7) zw_ml_X2_131 zy_X2_isName ⟨rfl, rfl, Nat.le_of_ble_eq_true rfl, Nat.le_of_ble_eq_true rfl⟩ rfl rfl (Nat.le_of_ble_eq_true rfl) dX2_lineByName_36 ?_
        refine z_if_eq (tgt := 44) hC dX2_lineByName_39 (by decide) (fun h8 => ?_) (fun h8 => ?_)
        · replace hf := zif_t h8 hf
          refine z_aload_n hC dX2_lineByName_44 0 rfl rfl ?_
          refine z_ldcS (i := 4) hC (by decide) rfl rfl rfl dX2_lineByName_45 ?_
          obtain ⟨v9, ev9, hf⟩ := zbd_e hf
          refine z_cvi (As := [.ref (zaK G 4)]) (rest := []) hC zo_read rfl (c_X2_isName l G w 4 (by decide) ev9) zw_ml_X2_131 zy_X2_isName ⟨rfl, rfl, Nat.le_of_ble_eq_true rfl, Nat.le_of_ble_eq_true rfl⟩ rfl rfl (Nat.le_of_ble_eq_true rfl) dX2_lineByName_47 ?_
          refine z_if_eq (tgt := 55) hC dX2_lineByName_50 (by decide) (fun h10 => ?_) (fun h10 => ?_)
          · replace hf := zif_t h10 hf
            refine z_aload_n hC dX2_lineByName_55 0 rfl rfl ?_
            refine z_ldcS (i := 5) hC (by decide) rfl rfl rfl dX2_lineByName_56 ?_
            obtain ⟨v11, ev11, hf⟩ := zbd_e hf
            refine z_cvi (As := [.ref (zaK G 5)]) (rest := []) hC zo_read rfl (c_X2_isName l G w 5 (by decide) ev11) zw_ml_X2_131 zy_X2_isName ⟨rfl, rfl, Nat.le_of_ble_eq_true rfl, Nat.le_of_ble_eq_true rfl⟩ rfl rfl (Nat.le_of_ble_eq_true rfl) dX2_lineByName_58 ?_
            refine z_if_eq (tgt := 66) hC dX2_lineByName_61 (by decide) (fun h12 => ?_) (fun h12 => ?_)
            · replace hf := zif_t h12 hf
              refine z_aload_n hC dX2_lineByName_66 0 rfl rfl ?_
              refine z_ldcS (i := 6) hC (by decide) rfl rfl rfl dX2_lineByName_67 ?_
              obtain ⟨v13, ev13, hf⟩ := zbd_e hf
              refine z_cvi (As := [.ref (zaK G 6)]) (rest := []) hC zo_read rfl (c_X2_isName l G w 6 (by decide) ev13) zw_ml_X2_131 zy_X2_isName ⟨rfl, rfl, Nat.le_of_ble_eq_true rfl, Nat.le_of_ble_eq_true rfl⟩ rfl rfl (Nat.le_of_ble_eq_true rfl) dX2_lineByName_69 ?_
              refine z_if_eq (tgt := 78) hC dX2_lineByName_72 (by decide) (fun h14 => ?_) (fun h14 => ?_)
              · replace hf := zif_t h14 hf
                refine z_aload_n hC dX2_lineByName_78 0 rfl rfl ?_
                refine z_ldcS (i := 7) hC (by decide) rfl rfl rfl dX2_lineByName_79 ?_
                obtain ⟨v15, ev15, hf⟩ := zbd_e hf
                refine z_cvi (As := [.ref (zaK G 7)]) (rest := []) hC zo_read rfl (c_X2_isName l G w 7 (by decide) ev15) zw_ml_X2_131 zy_X2_isName ⟨rfl, rfl, Nat.le_of_ble_eq_true rfl, Nat.le_of_ble_eq_true rfl⟩ rfl rfl (Nat.le_of_ble_eq_true rfl) dX2_lineByName_81 ?_
                refine z_if_eq (tgt := 90) hC dX2_lineByName_84 (by decide) (fun h16 => ?_) (fun h16 => ?_)
                · replace hf := zif_t h16 hf
                  refine z_bipush hC dX2_lineByName_90 (v := 8) rfl ?_
                  obtain rfl := zso1 hf
                  exact z_iret hC dX2_lineByName_92
                replace hf := zif_f h16 hf
                refine z_bipush hC dX2_lineByName_87 (v := 7) rfl ?_
                obtain rfl := zso1 hf
                exact z_iret hC dX2_lineByName_89
              replace hf := zif_f h14 hf
              refine z_bipush hC dX2_lineByName_75 (v := 6) rfl ?_
              obtain rfl := zso1 hf
              exact z_iret hC dX2_lineByName_77
            replace hf := zif_f h12 hf
            refine z_iconst hC dX2_lineByName_64 (v := 5) rfl ?_
            obtain rfl := zso1 hf
            exact z_iret hC dX2_lineByName_65
          replace hf := zif_f h10 hf
          refine z_iconst hC dX2_lineByName_53 (v := 4) rfl ?_
          obtain rfl := zso1 hf
          exact z_iret hC dX2_lineByName_54
        replace hf := zif_f h8 hf
        refine z_iconst hC dX2_lineByName_42 (v := 3) rfl ?_
        obtain rfl := zso1 hf
        exact z_iret hC dX2_lineByName_43
      replace hf := zif_f h6 hf
      refine z_iconst hC dX2_lineByName_31 (v := 2) rfl ?_
      obtain rfl := zso1 hf
      exact z_iret hC dX2_lineByName_32
    replace hf := zif_f h4 hf
    refine z_iconst hC dX2_lineByName_20 (v := 1) rfl ?_
    obtain rfl := zso1 hf
    exact z_iret hC dX2_lineByName_21
  replace hf := zif_f h2 hf
  refine z_iconst hC dX2_lineByName_9 (v := 0) rfl ?_
  obtain rfl := zso1 hf
  exact z_iret hC dX2_lineByName_10
theorem zy_X2_lineByName : zYV yX2_lineByName cX2_lineByName 1 (some .int) RX2 0 := ⟨zw_cd_X2_lineByName, zw_im_X2_lineByName, zw_sel_X2_lineByName, zw_ini_X2, by decide +kernel⟩
abbrev rm_X2_nextToken : Room := { frames := 1, cells := 0, slots := 0, locals := 24 }
def f_X2_nextToken (w : zW) : Option (Int32 × zW) :=
  zbd (f_X2_endOfRun w (w 42 5) (32 : Int32) (32 : Int32)) fun v1 =>
  zlet (zup w 42 4 v1) fun w2 =>
  zlet (zup w2 42 5 (w2 42 2)) fun w3 =>
  if (w3 42 4) < (w3 42 2) then
    zg (zin (w3 42 4) 160) <|
    zlet (w3 1 (zx (w3 42 4))) fun v6 =>
    if (f_X3_within v6 (97 : Int32) (122 : Int32)) = (0 : Int32) then
      if (f_X3_within v6 (48 : Int32) (57 : Int32)) = (0 : Int32) then
        zlet (zup w3 42 3 (3 : Int32)) fun w9 =>
        zlet (zup w9 42 5 ((w9 42 4) + (1 : Int32))) fun w10 =>
        zjn1 (fun (w11 : zW) =>
          some ((1 : Int32), w11))
        (fun (j228 : zW → Option (Int32 × zW)) =>
        if v6 = (59 : Int32) then
          j228 w10
        else
        zbd2 (f_X2_fail w10 (1 : Int32) (w10 42 4)) fun v14 w13 =>
        if v14 = (0 : Int32) then
          some ((0 : Int32), w13)
        else
        j228 w13)
      else
      zlet (zup w3 42 3 (2 : Int32)) fun w16 =>
      zbd (f_X2_endOfRun w16 (w16 42 4) (48 : Int32) (57 : Int32)) fun v17 =>
      zlet (zup w16 42 5 v17) fun w18 =>
      zjn1 (fun (v19 : Int32) =>
        zlet (zup w18 42 6 v19) fun w20 =>
        zjn1 (fun (w21 : zW) =>
          some ((1 : Int32), w21))
        (fun (j189 : zW → Option (Int32 × zW)) =>
        if ((w20 42 5) - (w20 42 4)) ≤ (2 : Int32) then
          j189 w20
        else
        zbd2 (f_X2_fail w20 (1 : Int32) (w20 42 4)) fun v24 w23 =>
        if v24 = (0 : Int32) then
          some ((0 : Int32), w23)
        else
        j189 w23))
      (fun (j161 : Int32 → Option (Int32 × zW)) =>
      if ((w18 42 5) - (w18 42 4)) = (1 : Int32) then
        j161 (v6 - (48 : Int32))
      else
        zg (zin ((w18 42 4) + (1 : Int32)) 160) <|
        j161 ((((v6 - (48 : Int32)) * (10 : Int32)) + (w18 1 (zx ((w18 42 4) + (1 : Int32))))) - (48 : Int32)))
    else
    zlet (zup w3 42 3 (1 : Int32)) fun w28 =>
    zbd (f_X2_endOfRun w28 (w28 42 4) (97 : Int32) (122 : Int32)) fun v29 =>
    zlet (zup w28 42 5 v29) fun w30 =>
    some ((1 : Int32), w30)
  else
  zlet (zup w3 42 3 (0 : Int32)) fun w31 =>
  some ((1 : Int32), w31)
set_option maxRecDepth 100000 in
set_option maxHeartbeats 4000000 in
theorem c_X2_nextToken (l : Launch) (G : zG) (w : zW) {r : Int32} {wz : zW} (hf : f_X2_nextToken w = some (r, wz)) : zMet l G yX2_nextToken cX2_nextToken 2 (some .boolean) rm_X2_nextToken [.ref (zad G 42)] w (some (.int r)) wz := by
  refine z_start (own := RX2) (by decide) rfl (Nat.le_of_ble_eq_true rfl) (lv := [(0, .ref (zad G 42))]) rfl ?_
  intro p e s m args below meth c hC
  unfold f_X2_nextToken at hf
  refine z_aload_n hC dX2_nextToken_0 0 rfl rfl ?_
  refine z_aload_n hC dX2_nextToken_1 0 rfl rfl ?_
  refine z_aload_n hC dX2_nextToken_2 0 rfl rfl ?_
  refine z_get2 hC 5 (by decide) zw_fl_X2_21 (v := .int (w 42 5)) rfl dX2_nextToken_3 ?_
  refine z_bipush hC dX2_nextToken_6 (v := 32) rfl ?_
  refine z_bipush hC dX2_nextToken_8 (v := 32) rfl ?_
  obtain ⟨v1, ev1, hf⟩ := zbd_e hf
  refine z_cvi (As := [.int (w 42 5), .int (32 : Int32), .int (32 : Int32)]) (rest := [.ref (zad G 42)]) hC zo_read rfl (c_X2_endOfRun l G w (w 42 5) (32 : Int32) (32 : Int32) ev1) zw_ml_X2_82 zy_X2_endOfRun ⟨rfl, rfl, Nat.le_of_ble_eq_true rfl, Nat.le_of_ble_eq_true rfl⟩ rfl rfl (Nat.le_of_ble_eq_true rfl) dX2_nextToken_10 ?_
  obtain ⟨w2, ew2, hf⟩ := zlet_e hf
  refine z_put2 hC 4 (by decide) rfl rfl zw_fl_X2_18 rfl ew2 dX2_nextToken_13 ?_
  refine z_aload_n hC dX2_nextToken_16 0 rfl rfl ?_
  refine z_aload_n hC dX2_nextToken_17 0 rfl rfl ?_
  refine z_get2 hC 2 (by decide) zw_fl_X2_9 (v := .int (w2 42 2)) rfl dX2_nextToken_18 ?_
  obtain ⟨w3, ew3, hf⟩ := zlet_e hf
  refine z_put2 hC 5 (by decide) rfl rfl zw_fl_X2_21 rfl ew3 dX2_nextToken_21 ?_
  refine z_aload_n hC dX2_nextToken_24 0 rfl rfl ?_
  refine z_get2 hC 4 (by decide) zw_fl_X2_18 (v := .int (w3 42 4)) rfl dX2_nextToken_25 ?_
  refine z_aload_n hC dX2_nextToken_28 0 rfl rfl ?_
  refine z_get2 hC 2 (by decide) zw_fl_X2_9 (v := .int (w3 42 2)) rfl dX2_nextToken_29 ?_
  refine z_icmp_lt (tgt := 42) hC dX2_nextToken_32 (by decide) (fun h4 => ?_) (fun h4 => ?_)
  · replace hf := zif_t h4 hf
    refine z_aload_n hC dX2_nextToken_42 0 rfl rfl ?_
    refine z_get2 hC 0 (by decide) zw_fl_X2_42 (v := .ref (zad G 1)) rfl dX2_nextToken_43 ?_
    refine z_aload_n hC dX2_nextToken_46 0 rfl rfl ?_
    refine z_get2 hC 4 (by decide) zw_fl_X2_18 (v := .int (w3 42 4)) rfl dX2_nextToken_47 ?_
    obtain ⟨hg5, hf⟩ := zg_e hf
    refine z_bald hC za_1 hg5 rfl dX2_nextToken_50 ?_
    obtain ⟨v6, ev6, hf⟩ := zlet_e hf
    refine z_topi ev6 ?_
    refine z_istore_n (lv' := [(1, .int v6), (0, .ref (zad G 42))]) hC dX2_nextToken_51 rfl (by decide) rfl ?_
    refine z_iload_n hC dX2_nextToken_52 0 rfl rfl ?_
    refine z_bipush hC dX2_nextToken_53 (v := 97) rfl ?_
    refine z_bipush hC dX2_nextToken_55 (v := 122) rfl ?_
    refine z_cni (As := [.int v6, .int (97 : Int32), .int (122 : Int32)]) (rest := []) hC (c_X3_within l G w3 v6 (97 : Int32) (122 : Int32)) hC.2.2.2.2.2.1.2.1.1 zy_X3_within ⟨rfl, rfl, Nat.le_of_ble_eq_true rfl, Nat.le_of_ble_eq_true rfl⟩ rfl rfl (Nat.le_of_ble_eq_true rfl) dX2_nextToken_57 ?_
    refine z_if_eq (tgt := 86) hC dX2_nextToken_60 (by decide) (fun h7 => ?_) (fun h7 => ?_)
    · replace hf := zif_t h7 hf
      refine z_iload_n hC dX2_nextToken_86 0 rfl rfl ?_
      refine z_bipush hC dX2_nextToken_87 (v := 48) rfl ?_
      refine z_bipush hC dX2_nextToken_89 (v := 57) rfl ?_
      refine z_cni (As := [.int v6, .int (48 : Int32), .int (57 : Int32)]) (rest := []) hC (c_X3_within l G w3 v6 (48 : Int32) (57 : Int32)) hC.2.2.2.2.2.1.2.1.1 zy_X3_within ⟨rfl, rfl, Nat.le_of_ble_eq_true rfl, Nat.le_of_ble_eq_true rfl⟩ rfl rfl (Nat.le_of_ble_eq_true rfl) dX2_nextToken_91 ?_
      refine z_if_eq (tgt := 195) hC dX2_nextToken_94 (by decide) (fun h8 => ?_) (fun h8 => ?_)
      · replace hf := zif_t h8 hf
        refine z_aload_n hC dX2_nextToken_195 1 rfl rfl ?_
        refine z_iconst hC dX2_nextToken_196 (v := 3) rfl ?_
        obtain ⟨w9, ew9, hf⟩ := zlet_e hf
        refine z_put2 hC 3 (by decide) rfl rfl zw_fl_X2_15 rfl ew9 dX2_nextToken_197 ?_
        refine z_aload_n hC dX2_nextToken_200 1 rfl rfl ?_
        refine z_aload_n hC dX2_nextToken_201 1 rfl rfl ?_
        refine z_get2 hC 4 (by decide) zw_fl_X2_18 (v := .int (w9 42 4)) rfl dX2_nextToken_202 ?_
        refine z_iconst hC dX2_nextToken_205 (v := 1) rfl ?_
        refine z_iadd hC dX2_nextToken_206 ?_
        obtain ⟨w10, ew10, hf⟩ := zlet_e hf
        refine z_put2 hC 5 (by decide) rfl rfl zw_fl_X2_21 rfl ew10 dX2_nextToken_207 ?_
        refine z_iload_n hC dX2_nextToken_210 0 rfl rfl ?_
        refine z_bipush hC dX2_nextToken_211 (v := 59) rfl ?_
        obtain ⟨j228, hj228, hf⟩ := zjn1_e hf
        have hJ228 : ∀ (w11 : zW), j228 w11 = some (r, wz) → Z G p l e rm_X2_nextToken s m args below meth c (MQ below (zQ G (some (.int r)) wz) args s 0 0 (zA G)) 2 228 [] [] w11 := by
          intro w11 hf
          replace hf := hj228 w11 hf
          refine z_iconst hC dX2_nextToken_228 (v := 1) rfl ?_
          refine z_goto (tgt := 233) hC dX2_nextToken_229 (by decide) ?_
          obtain ⟨rfl, rfl⟩ := zso2 hf
          exact z_zret hC rfl dX2_nextToken_233
        refine z_icmp_eq (tgt := 228) hC dX2_nextToken_213 (by decide) (fun h12 => ?_) (fun h12 => ?_)
        · replace hf := zif_t h12 hf
          refine z_lv [] rfl ?_
          exact hJ228 _ hf
        replace hf := zif_f h12 hf
        refine z_aload_n hC dX2_nextToken_216 1 rfl rfl ?_
        refine z_iconst hC dX2_nextToken_217 (v := 1) rfl ?_
        refine z_aload_n hC dX2_nextToken_218 1 rfl rfl ?_
        refine z_get2 hC 4 (by decide) zw_fl_X2_18 (v := .int (w10 42 4)) rfl dX2_nextToken_219 ?_
        obtain ⟨v14, w13, ew13, hf⟩ := zbd2_e hf
        refine z_cvi (As := [.int (1 : Int32), .int (w10 42 4)]) (rest := []) hC zo_read rfl (c_X2_fail l G w10 (1 : Int32) (w10 42 4) ew13) zw_ml_X2_74 zy_X2_fail ⟨rfl, rfl, Nat.le_of_ble_eq_true rfl, Nat.le_of_ble_eq_true rfl⟩ rfl rfl (Nat.le_of_ble_eq_true rfl) dX2_nextToken_222 ?_
        refine z_if_eq (tgt := 232) hC dX2_nextToken_225 (by decide) (fun h15 => ?_) (fun h15 => ?_)
        · replace hf := zif_t h15 hf
          refine z_iconst hC dX2_nextToken_232 (v := 0) rfl ?_
          obtain ⟨rfl, rfl⟩ := zso2 hf
          exact z_zret hC rfl dX2_nextToken_233
        replace hf := zif_f h15 hf
        refine z_lv [] rfl ?_
        exact hJ228 _ hf
      replace hf := zif_f h8 hf
      refine z_aload_n hC dX2_nextToken_97 1 rfl rfl ?_
      refine z_iconst hC dX2_nextToken_98 (v := 2) rfl ?_
      obtain ⟨w16, ew16, hf⟩ := zlet_e hf
      refine z_put2 hC 3 (by decide) rfl rfl zw_fl_X2_15 rfl ew16 dX2_nextToken_99 ?_
      refine z_aload_n hC dX2_nextToken_102 1 rfl rfl ?_
      refine z_aload_n hC dX2_nextToken_103 1 rfl rfl ?_
      refine z_aload_n hC dX2_nextToken_104 1 rfl rfl ?_
      refine z_get2 hC 4 (by decide) zw_fl_X2_18 (v := .int (w16 42 4)) rfl dX2_nextToken_105 ?_
      refine z_bipush hC dX2_nextToken_108 (v := 48) rfl ?_
      refine z_bipush hC dX2_nextToken_110 (v := 57) rfl ?_
      obtain ⟨v17, ev17, hf⟩ := zbd_e hf
      refine z_cvi (As := [.int (w16 42 4), .int (48 : Int32), .int (57 : Int32)]) (rest := [.ref (zad G 42)]) hC zo_read rfl (c_X2_endOfRun l G w16 (w16 42 4) (48 : Int32) (57 : Int32) ev17) zw_ml_X2_82 zy_X2_endOfRun ⟨rfl, rfl, Nat.le_of_ble_eq_true rfl, Nat.le_of_ble_eq_true rfl⟩ rfl rfl (Nat.le_of_ble_eq_true rfl) dX2_nextToken_112 ?_
      obtain ⟨w18, ew18, hf⟩ := zlet_e hf
      refine z_put2 hC 5 (by decide) rfl rfl zw_fl_X2_21 rfl ew18 dX2_nextToken_115 ?_
      refine z_aload_n hC dX2_nextToken_118 1 rfl rfl ?_
      refine z_aload_n hC dX2_nextToken_119 1 rfl rfl ?_
      refine z_get2 hC 5 (by decide) zw_fl_X2_21 (v := .int (w18 42 5)) rfl dX2_nextToken_120 ?_
      refine z_aload_n hC dX2_nextToken_123 1 rfl rfl ?_
      refine z_get2 hC 4 (by decide) zw_fl_X2_18 (v := .int (w18 42 4)) rfl dX2_nextToken_124 ?_
      refine z_isub hC dX2_nextToken_127 ?_
      refine z_iconst hC dX2_nextToken_128 (v := 1) rfl ?_
      obtain ⟨j161, hj161, hf⟩ := zjn1_e hf
      have hJ161 : ∀ (v19 : Int32), j161 v19 = some (r, wz) → Z G p l e rm_X2_nextToken s m args below meth c (MQ below (zQ G (some (.int r)) wz) args s 0 0 (zA G)) 2 161 [(0, .ref (zad G 42))] [.int v19, .ref (zad G 42)] w18 := by
        intro v19 hf
        replace hf := hj161 v19 hf
        obtain ⟨w20, ew20, hf⟩ := zlet_e hf
        refine z_put2 hC 6 (by decide) rfl rfl zw_fl_X2_24 rfl ew20 dX2_nextToken_161 ?_
        refine z_aload_n hC dX2_nextToken_164 0 rfl rfl ?_
        refine z_get2 hC 5 (by decide) zw_fl_X2_21 (v := .int (w20 42 5)) rfl dX2_nextToken_165 ?_
        refine z_aload_n hC dX2_nextToken_168 0 rfl rfl ?_
        refine z_get2 hC 4 (by decide) zw_fl_X2_18 (v := .int (w20 42 4)) rfl dX2_nextToken_169 ?_
        refine z_isub hC dX2_nextToken_172 ?_
        refine z_iconst hC dX2_nextToken_173 (v := 2) rfl ?_
        obtain ⟨j189, hj189, hf⟩ := zjn1_e hf
        have hJ189 : ∀ (w21 : zW), j189 w21 = some (r, wz) → Z G p l e rm_X2_nextToken s m args below meth c (MQ below (zQ G (some (.int r)) wz) args s 0 0 (zA G)) 2 189 [] [] w21 := by
          intro w21 hf
          replace hf := hj189 w21 hf
          refine z_iconst hC dX2_nextToken_189 (v := 1) rfl ?_
          refine z_goto (tgt := 194) hC dX2_nextToken_190 (by decide) ?_
          obtain ⟨rfl, rfl⟩ := zso2 hf
          exact z_zret hC rfl dX2_nextToken_194
        refine z_icmp_le (tgt := 189) hC dX2_nextToken_174 (by decide) (fun h22 => ?_) (fun h22 => ?_)
        · replace hf := zif_t h22 hf
          refine z_lv [] rfl ?_
          exact hJ189 _ hf
        replace hf := zif_f h22 hf
        refine z_aload_n hC dX2_nextToken_177 0 rfl rfl ?_
        refine z_iconst hC dX2_nextToken_178 (v := 1) rfl ?_
        refine z_aload_n hC dX2_nextToken_179 0 rfl rfl ?_
        refine z_get2 hC 4 (by decide) zw_fl_X2_18 (v := .int (w20 42 4)) rfl dX2_nextToken_180 ?_
        obtain ⟨v24, w23, ew23, hf⟩ := zbd2_e hf
        refine z_cvi (As := [.int (1 : Int32), .int (w20 42 4)]) (rest := []) hC zo_read rfl (c_X2_fail l G w20 (1 : Int32) (w20 42 4) ew23) zw_ml_X2_74 zy_X2_fail ⟨rfl, rfl, Nat.le_of_ble_eq_true rfl, Nat.le_of_ble_eq_true rfl⟩ rfl rfl (Nat.le_of_ble_eq_true rfl) dX2_nextToken_183 ?_
        refine z_if_eq (tgt := 193) hC dX2_nextToken_186 (by decide) (fun h25 => ?_) (fun h25 => ?_)
        · replace hf := zif_t h25 hf
          refine z_iconst hC dX2_nextToken_193 (v := 0) rfl ?_
          obtain ⟨rfl, rfl⟩ := zso2 hf
          exact z_zret hC rfl dX2_nextToken_194
        replace hf := zif_f h25 hf
        refine z_lv [] rfl ?_
        exact hJ189 _ hf
      refine z_icmp_ne (tgt := 139) hC dX2_nextToken_129 (by decide) (fun h26 => ?_) (fun h26 => ?_)
      · replace hf := zif_f h26 hf
        refine z_iload_n hC dX2_nextToken_139 0 rfl rfl ?_
        refine z_bipush hC dX2_nextToken_140 (v := 48) rfl ?_
        refine z_isub hC dX2_nextToken_142 ?_
        refine z_bipush hC dX2_nextToken_143 (v := 10) rfl ?_
        refine z_imul hC dX2_nextToken_145 ?_
        refine z_aload_n hC dX2_nextToken_146 1 rfl rfl ?_
        refine z_get2 hC 0 (by decide) zw_fl_X2_42 (v := .ref (zad G 1)) rfl dX2_nextToken_147 ?_
        refine z_aload_n hC dX2_nextToken_150 1 rfl rfl ?_
        refine z_get2 hC 4 (by decide) zw_fl_X2_18 (v := .int (w18 42 4)) rfl dX2_nextToken_151 ?_
        refine z_iconst hC dX2_nextToken_154 (v := 1) rfl ?_
        refine z_iadd hC dX2_nextToken_155 ?_
        obtain ⟨hg27, hf⟩ := zg_e hf
        refine z_bald hC za_1 hg27 rfl dX2_nextToken_156 ?_
        refine z_iadd hC dX2_nextToken_157 ?_
        refine z_bipush hC dX2_nextToken_158 (v := 48) rfl ?_
        refine z_isub hC dX2_nextToken_160 ?_
        refine z_lv [1] rfl ?_
        exact hJ161 _ hf
      replace hf := zif_t h26 hf
      refine z_iload_n hC dX2_nextToken_132 0 rfl rfl ?_
      refine z_bipush hC dX2_nextToken_133 (v := 48) rfl ?_
      refine z_isub hC dX2_nextToken_135 ?_
      refine z_goto (tgt := 161) hC dX2_nextToken_136 (by decide) ?_
      refine z_lv [1] rfl ?_
      exact hJ161 _ hf
    replace hf := zif_f h7 hf
    refine z_aload_n hC dX2_nextToken_63 1 rfl rfl ?_
    refine z_iconst hC dX2_nextToken_64 (v := 1) rfl ?_
    obtain ⟨w28, ew28, hf⟩ := zlet_e hf
    refine z_put2 hC 3 (by decide) rfl rfl zw_fl_X2_15 rfl ew28 dX2_nextToken_65 ?_
    refine z_aload_n hC dX2_nextToken_68 1 rfl rfl ?_
    refine z_aload_n hC dX2_nextToken_69 1 rfl rfl ?_
    refine z_aload_n hC dX2_nextToken_70 1 rfl rfl ?_
    refine z_get2 hC 4 (by decide) zw_fl_X2_18 (v := .int (w28 42 4)) rfl dX2_nextToken_71 ?_
    refine z_bipush hC dX2_nextToken_74 (v := 97) rfl ?_
    refine z_bipush hC dX2_nextToken_76 (v := 122) rfl ?_
    obtain ⟨v29, ev29, hf⟩ := zbd_e hf
    refine z_cvi (As := [.int (w28 42 4), .int (97 : Int32), .int (122 : Int32)]) (rest := [.ref (zad G 42)]) hC zo_read rfl (c_X2_endOfRun l G w28 (w28 42 4) (97 : Int32) (122 : Int32) ev29) zw_ml_X2_82 zy_X2_endOfRun ⟨rfl, rfl, Nat.le_of_ble_eq_true rfl, Nat.le_of_ble_eq_true rfl⟩ rfl rfl (Nat.le_of_ble_eq_true rfl) dX2_nextToken_78 ?_
    obtain ⟨w30, ew30, hf⟩ := zlet_e hf
    refine z_put2 hC 5 (by decide) rfl rfl zw_fl_X2_21 rfl ew30 dX2_nextToken_81 ?_
    refine z_iconst hC dX2_nextToken_84 (v := 1) rfl ?_
    obtain ⟨rfl, rfl⟩ := zso2 hf
    exact z_zret hC rfl dX2_nextToken_85
  replace hf := zif_f h4 hf
  refine z_aload_n hC dX2_nextToken_35 0 rfl rfl ?_
  refine z_iconst hC dX2_nextToken_36 (v := 0) rfl ?_
  obtain ⟨w31, ew31, hf⟩ := zlet_e hf
  refine z_put2 hC 3 (by decide) rfl rfl zw_fl_X2_15 rfl ew31 dX2_nextToken_37 ?_
  refine z_iconst hC dX2_nextToken_40 (v := 1) rfl ?_
  obtain ⟨rfl, rfl⟩ := zso2 hf
  exact z_zret hC rfl dX2_nextToken_41
theorem zy_X2_nextToken : zYV yX2_nextToken cX2_nextToken 2 (some .boolean) RX2 0 := ⟨zw_cd_X2_nextToken, zw_im_X2_nextToken, zw_sel_X2_nextToken, zw_ini_X2, by decide +kernel⟩
abbrev rm_X2_planByName : Room := { frames := 5, cells := 0, slots := 0, locals := 107 }
def f_X2_planByName (w : zW) : Option Int32 :=
  zbd (f_X2_isName w 13) fun v1 =>
  if v1 = (0 : Int32) then
    zbd (f_X2_isName w 14) fun v3 =>
    if v3 = (0 : Int32) then
      zbd (f_X2_isName w 15) fun v5 =>
      if v5 = (0 : Int32) then
        zbd (f_X2_isName w 16) fun v7 =>
        if v7 = (0 : Int32) then
          some (-4 : Int32)
        else
        some (3 : Int32)
      else
      some (2 : Int32)
    else
    some (1 : Int32)
  else
  some (0 : Int32)
set_option maxRecDepth 100000 in
set_option maxHeartbeats 4000000 in
theorem c_X2_planByName (l : Launch) (G : zG) (w : zW) {r : Int32} (hf : f_X2_planByName w = some r) : zMet l G yX2_planByName cX2_planByName 1 (some .int) rm_X2_planByName [.ref (zad G 42)] w (some (.int r)) w := by
  refine z_start (own := RX2) (by decide) rfl (Nat.le_of_ble_eq_true rfl) (lv := [(0, .ref (zad G 42))]) rfl ?_
  intro p e s m args below meth c hC
  unfold f_X2_planByName at hf
  refine z_aload_n hC dX2_planByName_0 0 rfl rfl ?_
  refine z_ldcS (i := 13) hC (by decide) rfl rfl rfl dX2_planByName_1 ?_
  obtain ⟨v1, ev1, hf⟩ := zbd_e hf
  refine z_cvi (As := [.ref (zaK G 13)]) (rest := []) hC zo_read rfl (c_X2_isName l G w 13 (by decide) ev1) zw_ml_X2_131 zy_X2_isName ⟨rfl, rfl, Nat.le_of_ble_eq_true rfl, Nat.le_of_ble_eq_true rfl⟩ rfl rfl (Nat.le_of_ble_eq_true rfl) dX2_planByName_3 ?_
  refine z_if_eq (tgt := 11) hC dX2_planByName_6 (by decide) (fun h2 => ?_) (fun h2 => ?_)
  · replace hf := zif_t h2 hf
    refine z_aload_n hC dX2_planByName_11 0 rfl rfl ?_
    refine z_ldcS (i := 14) hC (by decide) rfl rfl rfl dX2_planByName_12 ?_
    obtain ⟨v3, ev3, hf⟩ := zbd_e hf
    refine z_cvi (As := [.ref (zaK G 14)]) (rest := []) hC zo_read rfl (c_X2_isName l G w 14 (by decide) ev3) zw_ml_X2_131 zy_X2_isName ⟨rfl, rfl, Nat.le_of_ble_eq_true rfl, Nat.le_of_ble_eq_true rfl⟩ rfl rfl (Nat.le_of_ble_eq_true rfl) dX2_planByName_14 ?_
    refine z_if_eq (tgt := 22) hC dX2_planByName_17 (by decide) (fun h4 => ?_) (fun h4 => ?_)
    · replace hf := zif_t h4 hf
      refine z_aload_n hC dX2_planByName_22 0 rfl rfl ?_
      refine z_ldcS (i := 15) hC (by decide) rfl rfl rfl dX2_planByName_23 ?_
      obtain ⟨v5, ev5, hf⟩ := zbd_e hf
      refine z_cvi (As := [.ref (zaK G 15)]) (rest := []) hC zo_read rfl (c_X2_isName l G w 15 (by decide) ev5) zw_ml_X2_131 zy_X2_isName ⟨rfl, rfl, Nat.le_of_ble_eq_true rfl, Nat.le_of_ble_eq_true rfl⟩ rfl rfl (Nat.le_of_ble_eq_true rfl) dX2_planByName_25 ?_
      refine z_if_eq (tgt := 33) hC dX2_planByName_28 (by decide) (fun h6 => ?_) (fun h6 => ?_)
      · replace hf := zif_t h6 hf
        refine z_aload_n hC dX2_planByName_33 0 rfl rfl ?_
        refine z_ldcS (i := 16) hC (by decide) rfl rfl rfl dX2_planByName_34 ?_
        obtain ⟨v7, ev7, hf⟩ := zbd_e hf
        refine z_cvi (As := [.ref (zaK G 16)]) (rest := []) hC zo_read rfl (c_X2_isName l G w 16 (by decide) ev7) zw_ml_X2_131 zy_X2_isName ⟨rfl, rfl, Nat.le_of_ble_eq_true rfl, Nat.le_of_ble_eq_true rfl⟩ rfl rfl (Nat.le_of_ble_eq_true rfl) dX2_planByName_36 ?_
        refine z_if_eq (tgt := 44) hC dX2_planByName_39 (by decide) (fun h8 => ?_) (fun h8 => ?_)
        · replace hf := zif_t h8 hf
          refine z_bipush hC dX2_planByName_44 (v := -4) rfl ?_
          obtain rfl := zso1 hf
          exact z_iret hC dX2_planByName_46
        replace hf := zif_f h8 hf
        refine z_iconst hC dX2_planByName_42 (v := 3) rfl ?_
        obtain rfl := zso1 hf
        exact z_iret hC dX2_planByName_43
      replace hf := zif_f h6 hf
      refine z_iconst hC dX2_planByName_31 (v := 2) rfl ?_
      obtain rfl := zso1 hf
      exact z_iret hC dX2_planByName_32
    replace hf := zif_f h4 hf
    refine z_iconst hC dX2_planByName_20 (v := 1) rfl ?_
    obtain rfl := zso1 hf
    exact z_iret hC dX2_planByName_21
  replace hf := zif_f h2 hf
  refine z_iconst hC dX2_planByName_9 (v := 0) rfl ?_
  obtain rfl := zso1 hf
  exact z_iret hC dX2_planByName_10
theorem zy_X2_planByName : zYV yX2_planByName cX2_planByName 1 (some .int) RX2 0 := ⟨zw_cd_X2_planByName, zw_im_X2_planByName, zw_sel_X2_planByName, zw_ini_X2, by decide +kernel⟩
abbrev rm_X2_readNumber : Room := { frames := 2, cells := 0, slots := 0, locals := 45 }
def f_X2_readNumber (w : zW) (a1 : Int32) (a2 : Int32) : Option (Int32 × zW) :=
  zbd2 (f_X2_nextToken w) fun v2 w1 =>
  if v2 = (0 : Int32) then
    some ((0 : Int32), w1)
  else
    if (w1 42 3) = (2 : Int32) then
      zjn1 (fun (w5 : zW) =>
        some ((1 : Int32), w5))
      (fun (j51 : zW → Option (Int32 × zW)) =>
      if (f_X3_within (w1 42 6) a1 a2) = (0 : Int32) then
        zbd2 (f_X2_fail w1 (3 : Int32) (w1 42 4)) fun v8 w7 =>
        if v8 = (0 : Int32) then
          some ((0 : Int32), w7)
        else
        j51 w7
      else
        j51 w1)
    else
    zbd2 (f_X2_fail w1 (2 : Int32) (w1 42 4)) fun v11 w10 =>
    zg (zbo v11) <|
    some (v11, w10)
set_option maxRecDepth 100000 in
set_option maxHeartbeats 4000000 in
theorem c_X2_readNumber (l : Launch) (G : zG) (w : zW) (a1 : Int32) (a2 : Int32) {r : Int32} {wz : zW} (hf : f_X2_readNumber w a1 a2 = some (r, wz)) : zMet l G yX2_readNumber cX2_readNumber 3 (some .boolean) rm_X2_readNumber [.ref (zad G 42), .int a1, .int a2] w (some (.int r)) wz := by
  refine z_start (own := RX2) (by decide) rfl (Nat.le_of_ble_eq_true rfl) (lv := [(0, .ref (zad G 42)), (1, .int a1), (2, .int a2)]) rfl ?_
  intro p e s m args below meth c hC
  unfold f_X2_readNumber at hf
  refine z_aload_n hC dX2_readNumber_0 0 rfl rfl ?_
  obtain ⟨v2, w1, ew1, hf⟩ := zbd2_e hf
  refine z_cvi (As := []) (rest := []) hC zo_read rfl (c_X2_nextToken l G w ew1) zw_ml_X2_61 zy_X2_nextToken ⟨rfl, rfl, Nat.le_of_ble_eq_true rfl, Nat.le_of_ble_eq_true rfl⟩ rfl rfl (Nat.le_of_ble_eq_true rfl) dX2_readNumber_1 ?_
  refine z_if_ne (tgt := 9) hC dX2_readNumber_4 (by decide) (fun h3 => ?_) (fun h3 => ?_)
  · replace hf := zif_f h3 hf
    refine z_aload_n hC dX2_readNumber_9 0 rfl rfl ?_
    refine z_get2 hC 3 (by decide) zw_fl_X2_15 (v := .int (w1 42 3)) rfl dX2_readNumber_10 ?_
    refine z_iconst hC dX2_readNumber_13 (v := 2) rfl ?_
    refine z_icmp_eq (tgt := 27) hC dX2_readNumber_14 (by decide) (fun h4 => ?_) (fun h4 => ?_)
    · replace hf := zif_t h4 hf
      refine z_aload_n hC dX2_readNumber_27 0 rfl rfl ?_
      refine z_get2 hC 6 (by decide) zw_fl_X2_24 (v := .int (w1 42 6)) rfl dX2_readNumber_28 ?_
      refine z_iload_n hC dX2_readNumber_31 1 rfl rfl ?_
      refine z_iload_n hC dX2_readNumber_32 2 rfl rfl ?_
      refine z_cni (As := [.int (w1 42 6), .int a1, .int a2]) (rest := []) hC (c_X3_within l G w1 (w1 42 6) a1 a2) hC.2.2.2.2.2.1.2.1.1 zy_X3_within ⟨rfl, rfl, Nat.le_of_ble_eq_true rfl, Nat.le_of_ble_eq_true rfl⟩ rfl rfl (Nat.le_of_ble_eq_true rfl) dX2_readNumber_33 ?_
      obtain ⟨j51, hj51, hf⟩ := zjn1_e hf
      have hJ51 : ∀ (w5 : zW), j51 w5 = some (r, wz) → Z G p l e rm_X2_readNumber s m args below meth c (MQ below (zQ G (some (.int r)) wz) args s 0 0 (zA G)) 3 51 [] [] w5 := by
        intro w5 hf
        replace hf := hj51 w5 hf
        refine z_iconst hC dX2_readNumber_51 (v := 1) rfl ?_
        refine z_goto (tgt := 56) hC dX2_readNumber_52 (by decide) ?_
        obtain ⟨rfl, rfl⟩ := zso2 hf
        exact z_zret hC rfl dX2_readNumber_56
      refine z_if_ne (tgt := 51) hC dX2_readNumber_36 (by decide) (fun h6 => ?_) (fun h6 => ?_)
      · replace hf := zif_f h6 hf
        refine z_lv [] rfl ?_
        exact hJ51 _ hf
      replace hf := zif_t h6 hf
      refine z_aload_n hC dX2_readNumber_39 0 rfl rfl ?_
      refine z_iconst hC dX2_readNumber_40 (v := 3) rfl ?_
      refine z_aload_n hC dX2_readNumber_41 0 rfl rfl ?_
      refine z_get2 hC 4 (by decide) zw_fl_X2_18 (v := .int (w1 42 4)) rfl dX2_readNumber_42 ?_
      obtain ⟨v8, w7, ew7, hf⟩ := zbd2_e hf
      refine z_cvi (As := [.int (3 : Int32), .int (w1 42 4)]) (rest := []) hC zo_read rfl (c_X2_fail l G w1 (3 : Int32) (w1 42 4) ew7) zw_ml_X2_74 zy_X2_fail ⟨rfl, rfl, Nat.le_of_ble_eq_true rfl, Nat.le_of_ble_eq_true rfl⟩ rfl rfl (Nat.le_of_ble_eq_true rfl) dX2_readNumber_45 ?_
      refine z_if_eq (tgt := 55) hC dX2_readNumber_48 (by decide) (fun h9 => ?_) (fun h9 => ?_)
      · replace hf := zif_t h9 hf
        refine z_iconst hC dX2_readNumber_55 (v := 0) rfl ?_
        obtain ⟨rfl, rfl⟩ := zso2 hf
        exact z_zret hC rfl dX2_readNumber_56
      replace hf := zif_f h9 hf
      refine z_lv [] rfl ?_
      exact hJ51 _ hf
    replace hf := zif_f h4 hf
    refine z_aload_n hC dX2_readNumber_17 0 rfl rfl ?_
    refine z_iconst hC dX2_readNumber_18 (v := 2) rfl ?_
    refine z_aload_n hC dX2_readNumber_19 0 rfl rfl ?_
    refine z_get2 hC 4 (by decide) zw_fl_X2_18 (v := .int (w1 42 4)) rfl dX2_readNumber_20 ?_
    obtain ⟨v11, w10, ew10, hf⟩ := zbd2_e hf
    refine z_cvi (As := [.int (2 : Int32), .int (w1 42 4)]) (rest := []) hC zo_read rfl (c_X2_fail l G w1 (2 : Int32) (w1 42 4) ew10) zw_ml_X2_74 zy_X2_fail ⟨rfl, rfl, Nat.le_of_ble_eq_true rfl, Nat.le_of_ble_eq_true rfl⟩ rfl rfl (Nat.le_of_ble_eq_true rfl) dX2_readNumber_23 ?_
    obtain ⟨hg12, hf⟩ := zg_e hf
    obtain ⟨rfl, rfl⟩ := zso2 hf
    exact z_zret hC (zbo_n hg12) dX2_readNumber_26
  replace hf := zif_t h3 hf
  refine z_iconst hC dX2_readNumber_7 (v := 0) rfl ?_
  obtain ⟨rfl, rfl⟩ := zso2 hf
  exact z_zret hC rfl dX2_readNumber_8
theorem zy_X2_readNumber : zYV yX2_readNumber cX2_readNumber 3 (some .boolean) RX2 2 := ⟨zw_cd_X2_readNumber, zw_im_X2_readNumber, zw_sel_X2_readNumber, zw_ini_X2, by decide +kernel⟩
abbrev rm_X2_readOne : Room := { frames := 6, cells := 0, slots := 0, locals := 127 }
def f_X2_readOne (w : zW) : Option (Int32 × zW) :=
  zlet (w 10 0) fun v1 =>
  if v1 < (4 : Int32) then
    zbd2 (f_X2_nextToken w) fun v4 w3 =>
    if v4 = (0 : Int32) then
      some ((0 : Int32), w3)
    else
      zbd (f_X2_kindByName w3) fun v6 =>
      if v6 = (-4 : Int32) then
        zbd2 (f_X2_fail w3 (2 : Int32) (w3 42 4)) fun v22 w21 =>
        zg (zbo v22) <|
        some (v22, w21)
      else
        zg (zin v1 4) <|
        zlet (zup w3 (10 + 1) (zx v1) v6) fun w9 =>
        zbd2 (f_X2_readNumber w9 (1 : Int32) (3 : Int32)) fun v11 w10 =>
        if v11 = (0 : Int32) then
          some ((0 : Int32), w10)
        else
          zg (zin v1 4) <|
          zlet (zup w10 (10 + 2) (zx v1) (w10 42 6)) fun w14 =>
          zbd2 (f_X2_readNumber w14 (0 : Int32) (20 : Int32)) fun v16 w15 =>
          if v16 = (0 : Int32) then
            some ((0 : Int32), w15)
          else
            zg (zin v1 4) <|
            zlet (zup w15 (10 + 3) (zx v1) (w15 42 6)) fun w19 =>
            zlet (zup w19 10 0 ((w19 10 0) + (1 : Int32))) fun w20 =>
            some ((1 : Int32), w20)
  else
  zbd2 (f_X2_fail w (5 : Int32) (w 42 4)) fun v25 w24 =>
  zg (zbo v25) <|
  some (v25, w24)
set_option maxRecDepth 100000 in
set_option maxHeartbeats 4000000 in
theorem c_X2_readOne (l : Launch) (G : zG) (w : zW) {r : Int32} {wz : zW} (hf : f_X2_readOne w = some (r, wz)) : zMet l G yX2_readOne cX2_readOne 3 (some .boolean) rm_X2_readOne [.ref (zad G 42)] w (some (.int r)) wz := by
  refine z_start (own := RX2) (by decide) rfl (Nat.le_of_ble_eq_true rfl) (lv := [(0, .ref (zad G 42))]) rfl ?_
  intro p e s m args below meth c hC
  unfold f_X2_readOne at hf
  refine z_aload_n hC dX2_readOne_0 0 rfl rfl ?_
  refine z_get2 hC 1 (by decide) zw_fl_X2_46 (v := .ref (zad G 10)) rfl dX2_readOne_1 ?_
  refine z_get0 hC zcamp10 0 (by decide) zw_fl_X2_149 (v := .int (w 10 0)) rfl dX2_readOne_4 ?_
  obtain ⟨v1, ev1, hf⟩ := zlet_e hf
  refine z_topi ev1 ?_
  refine z_istore_n (lv' := [(1, .int v1), (0, .ref (zad G 42))]) hC dX2_readOne_7 rfl (by decide) rfl ?_
  refine z_iload_n hC dX2_readOne_8 0 rfl rfl ?_
  refine z_iconst hC dX2_readOne_9 (v := 4) rfl ?_
  refine z_icmp_lt (tgt := 23) hC dX2_readOne_10 (by decide) (fun h2 => ?_) (fun h2 => ?_)
  · replace hf := zif_t h2 hf
    refine z_aload_n hC dX2_readOne_23 1 rfl rfl ?_
    obtain ⟨v4, w3, ew3, hf⟩ := zbd2_e hf
    refine z_cvi (As := []) (rest := []) hC zo_read rfl (c_X2_nextToken l G w ew3) zw_ml_X2_61 zy_X2_nextToken ⟨rfl, rfl, Nat.le_of_ble_eq_true rfl, Nat.le_of_ble_eq_true rfl⟩ rfl rfl (Nat.le_of_ble_eq_true rfl) dX2_readOne_24 ?_
    refine z_if_ne (tgt := 32) hC dX2_readOne_27 (by decide) (fun h5 => ?_) (fun h5 => ?_)
    · replace hf := zif_f h5 hf
      refine z_aload_n hC dX2_readOne_32 1 rfl rfl ?_
      obtain ⟨v6, ev6, hf⟩ := zbd_e hf
      refine z_cvi (As := []) (rest := []) hC zo_read rfl (c_X2_kindByName l G w3 ev6) zw_ml_X2_152 zy_X2_kindByName ⟨rfl, rfl, Nat.le_of_ble_eq_true rfl, Nat.le_of_ble_eq_true rfl⟩ rfl rfl (Nat.le_of_ble_eq_true rfl) dX2_readOne_33 ?_
      refine z_istore_n (lv' := [(2, .int v6), (1, .int v1), (0, .ref (zad G 42))]) hC dX2_readOne_36 rfl (by decide) rfl ?_
      refine z_iload_n hC dX2_readOne_37 0 rfl rfl ?_
      refine z_bipush hC dX2_readOne_38 (v := -4) rfl ?_
      refine z_icmp_ne (tgt := 53) hC dX2_readOne_40 (by decide) (fun h7 => ?_) (fun h7 => ?_)
      · replace hf := zif_f h7 hf
        refine z_aload_n hC dX2_readOne_53 2 rfl rfl ?_
        refine z_get2 hC 1 (by decide) zw_fl_X2_46 (v := .ref (zad G 10)) rfl dX2_readOne_54 ?_
        refine z_get0 hC zcamp10 1 (by decide) zw_fl_X2_155 (v := .ref (zad G (10 + 1))) rfl dX2_readOne_57 ?_
        refine z_iload_n hC dX2_readOne_60 1 rfl rfl ?_
        refine z_iload_n hC dX2_readOne_61 0 rfl rfl ?_
        obtain ⟨hg8, hf⟩ := zg_e hf
        obtain ⟨w9, ew9, hf⟩ := zlet_e hf
        refine z_iast hC (za_c1 zcamp10) hg8 rfl ew9 dX2_readOne_62 ?_
        refine z_aload_n hC dX2_readOne_63 2 rfl rfl ?_
        refine z_iconst hC dX2_readOne_64 (v := 1) rfl ?_
        refine z_iconst hC dX2_readOne_65 (v := 3) rfl ?_
        obtain ⟨v11, w10, ew10, hf⟩ := zbd2_e hf
        refine z_cvi (As := [.int (1 : Int32), .int (3 : Int32)]) (rest := []) hC zo_read rfl (c_X2_readNumber l G w9 (1 : Int32) (3 : Int32) ew10) zw_ml_X2_159 zy_X2_readNumber ⟨rfl, rfl, Nat.le_of_ble_eq_true rfl, Nat.le_of_ble_eq_true rfl⟩ rfl rfl (Nat.le_of_ble_eq_true rfl) dX2_readOne_66 ?_
        refine z_if_ne (tgt := 74) hC dX2_readOne_69 (by decide) (fun h12 => ?_) (fun h12 => ?_)
        · replace hf := zif_f h12 hf
          refine z_aload_n hC dX2_readOne_74 2 rfl rfl ?_
          refine z_get2 hC 1 (by decide) zw_fl_X2_46 (v := .ref (zad G 10)) rfl dX2_readOne_75 ?_
          refine z_get0 hC zcamp10 2 (by decide) zw_fl_X2_162 (v := .ref (zad G (10 + 2))) rfl dX2_readOne_78 ?_
          refine z_iload_n hC dX2_readOne_81 1 rfl rfl ?_
          refine z_aload_n hC dX2_readOne_82 2 rfl rfl ?_
          refine z_get2 hC 6 (by decide) zw_fl_X2_24 (v := .int (w10 42 6)) rfl dX2_readOne_83 ?_
          obtain ⟨hg13, hf⟩ := zg_e hf
          obtain ⟨w14, ew14, hf⟩ := zlet_e hf
          refine z_iast hC (za_c2 zcamp10) hg13 rfl ew14 dX2_readOne_86 ?_
          refine z_aload_n hC dX2_readOne_87 2 rfl rfl ?_
          refine z_iconst hC dX2_readOne_88 (v := 0) rfl ?_
          refine z_bipush hC dX2_readOne_89 (v := 20) rfl ?_
          obtain ⟨v16, w15, ew15, hf⟩ := zbd2_e hf
          refine z_cvi (As := [.int (0 : Int32), .int (20 : Int32)]) (rest := []) hC zo_read rfl (c_X2_readNumber l G w14 (0 : Int32) (20 : Int32) ew15) zw_ml_X2_159 zy_X2_readNumber ⟨rfl, rfl, Nat.le_of_ble_eq_true rfl, Nat.le_of_ble_eq_true rfl⟩ rfl rfl (Nat.le_of_ble_eq_true rfl) dX2_readOne_91 ?_
          refine z_if_ne (tgt := 99) hC dX2_readOne_94 (by decide) (fun h17 => ?_) (fun h17 => ?_)
          · replace hf := zif_f h17 hf
            refine z_aload_n hC dX2_readOne_99 2 rfl rfl ?_
            refine z_get2 hC 1 (by decide) zw_fl_X2_46 (v := .ref (zad G 10)) rfl dX2_readOne_100 ?_
            refine z_get0 hC zcamp10 3 (by decide) zw_fl_X2_165 (v := .ref (zad G (10 + 3))) rfl dX2_readOne_103 ?_
            refine z_iload_n hC dX2_readOne_106 1 rfl rfl ?_
            refine z_aload_n hC dX2_readOne_107 2 rfl rfl ?_
            refine z_get2 hC 6 (by decide) zw_fl_X2_24 (v := .int (w15 42 6)) rfl dX2_readOne_108 ?_
            obtain ⟨hg18, hf⟩ := zg_e hf
            obtain ⟨w19, ew19, hf⟩ := zlet_e hf
            refine z_iast hC (za_c3 zcamp10) hg18 rfl ew19 dX2_readOne_111 ?_
            refine z_aload_n hC dX2_readOne_112 2 rfl rfl ?_
            refine z_get2 hC 1 (by decide) zw_fl_X2_46 (v := .ref (zad G 10)) rfl dX2_readOne_113 ?_
            refine z_dup hC dX2_readOne_116 rfl ?_
            refine z_get0 hC zcamp10 0 (by decide) zw_fl_X2_149 (v := .int (w19 10 0)) rfl dX2_readOne_117 ?_
            refine z_iconst hC dX2_readOne_120 (v := 1) rfl ?_
            refine z_iadd hC dX2_readOne_121 ?_
            obtain ⟨w20, ew20, hf⟩ := zlet_e hf
            refine z_put0 hC zcamp10 0 (by decide) rfl rfl zw_fl_X2_149 rfl ew20 dX2_readOne_122 ?_
            refine z_iconst hC dX2_readOne_125 (v := 1) rfl ?_
            obtain ⟨rfl, rfl⟩ := zso2 hf
            exact z_zret hC rfl dX2_readOne_126
          replace hf := zif_t h17 hf
          refine z_iconst hC dX2_readOne_97 (v := 0) rfl ?_
          obtain ⟨rfl, rfl⟩ := zso2 hf
          exact z_zret hC rfl dX2_readOne_98
        replace hf := zif_t h12 hf
        refine z_iconst hC dX2_readOne_72 (v := 0) rfl ?_
        obtain ⟨rfl, rfl⟩ := zso2 hf
        exact z_zret hC rfl dX2_readOne_73
      replace hf := zif_t h7 hf
      refine z_aload_n hC dX2_readOne_43 2 rfl rfl ?_
      refine z_iconst hC dX2_readOne_44 (v := 2) rfl ?_
      refine z_aload_n hC dX2_readOne_45 2 rfl rfl ?_
      refine z_get2 hC 4 (by decide) zw_fl_X2_18 (v := .int (w3 42 4)) rfl dX2_readOne_46 ?_
      obtain ⟨v22, w21, ew21, hf⟩ := zbd2_e hf
      refine z_cvi (As := [.int (2 : Int32), .int (w3 42 4)]) (rest := []) hC zo_read rfl (c_X2_fail l G w3 (2 : Int32) (w3 42 4) ew21) zw_ml_X2_74 zy_X2_fail ⟨rfl, rfl, Nat.le_of_ble_eq_true rfl, Nat.le_of_ble_eq_true rfl⟩ rfl rfl (Nat.le_of_ble_eq_true rfl) dX2_readOne_49 ?_
      obtain ⟨hg23, hf⟩ := zg_e hf
      obtain ⟨rfl, rfl⟩ := zso2 hf
      exact z_zret hC (zbo_n hg23) dX2_readOne_52
    replace hf := zif_t h5 hf
    refine z_iconst hC dX2_readOne_30 (v := 0) rfl ?_
    obtain ⟨rfl, rfl⟩ := zso2 hf
    exact z_zret hC rfl dX2_readOne_31
  replace hf := zif_f h2 hf
  refine z_aload_n hC dX2_readOne_13 1 rfl rfl ?_
  refine z_iconst hC dX2_readOne_14 (v := 5) rfl ?_
  refine z_aload_n hC dX2_readOne_15 1 rfl rfl ?_
  refine z_get2 hC 4 (by decide) zw_fl_X2_18 (v := .int (w 42 4)) rfl dX2_readOne_16 ?_
  obtain ⟨v25, w24, ew24, hf⟩ := zbd2_e hf
  refine z_cvi (As := [.int (5 : Int32), .int (w 42 4)]) (rest := []) hC zo_read rfl (c_X2_fail l G w (5 : Int32) (w 42 4) ew24) zw_ml_X2_74 zy_X2_fail ⟨rfl, rfl, Nat.le_of_ble_eq_true rfl, Nat.le_of_ble_eq_true rfl⟩ rfl rfl (Nat.le_of_ble_eq_true rfl) dX2_readOne_19 ?_
  obtain ⟨hg26, hf⟩ := zg_e hf
  obtain ⟨rfl, rfl⟩ := zso2 hf
  exact z_zret hC (zbo_n hg26) dX2_readOne_22
theorem zy_X2_readOne : zYV yX2_readOne cX2_readOne 3 (some .boolean) RX2 0 := ⟨zw_cd_X2_readOne, zw_im_X2_readOne, zw_sel_X2_readOne, zw_ini_X2, by decide +kernel⟩
abbrev rm_X2_readStop : Room := { frames := 2, cells := 0, slots := 0, locals := 45 }
def f_X2_readStop (w : zW) : Option (Int32 × zW) :=
  zbd2 (f_X2_nextToken w) fun v2 w1 =>
  zjn1 (fun (w3 : zW) =>
    some ((0 : Int32), w3))
  (fun (j31 : zW → Option (Int32 × zW)) =>
  if v2 = (0 : Int32) then
    j31 w1
  else
  zjn1 (fun (w5 : zW) =>
    some ((1 : Int32), w5))
  (fun (j27 : zW → Option (Int32 × zW)) =>
  if (w1 42 3) = (3 : Int32) then
    j27 w1
  else
  zbd2 (f_X2_fail w1 (2 : Int32) (w1 42 4)) fun v8 w7 =>
  if v8 = (0 : Int32) then
    j31 w7
  else
  j27 w7))
set_option maxRecDepth 100000 in
set_option maxHeartbeats 4000000 in
theorem c_X2_readStop (l : Launch) (G : zG) (w : zW) {r : Int32} {wz : zW} (hf : f_X2_readStop w = some (r, wz)) : zMet l G yX2_readStop cX2_readStop 1 (some .boolean) rm_X2_readStop [.ref (zad G 42)] w (some (.int r)) wz := by
  refine z_start (own := RX2) (by decide) rfl (Nat.le_of_ble_eq_true rfl) (lv := [(0, .ref (zad G 42))]) rfl ?_
  intro p e s m args below meth c hC
  unfold f_X2_readStop at hf
  refine z_aload_n hC dX2_readStop_0 0 rfl rfl ?_
  obtain ⟨v2, w1, ew1, hf⟩ := zbd2_e hf
  refine z_cvi (As := []) (rest := []) hC zo_read rfl (c_X2_nextToken l G w ew1) zw_ml_X2_61 zy_X2_nextToken ⟨rfl, rfl, Nat.le_of_ble_eq_true rfl, Nat.le_of_ble_eq_true rfl⟩ rfl rfl (Nat.le_of_ble_eq_true rfl) dX2_readStop_1 ?_
  obtain ⟨j31, hj31, hf⟩ := zjn1_e hf
  have hJ31 : ∀ (w3 : zW), j31 w3 = some (r, wz) → Z G p l e rm_X2_readStop s m args below meth c (MQ below (zQ G (some (.int r)) wz) args s 0 0 (zA G)) 1 31 [] [] w3 := by
    intro w3 hf
    replace hf := hj31 w3 hf
    refine z_iconst hC dX2_readStop_31 (v := 0) rfl ?_
    obtain ⟨rfl, rfl⟩ := zso2 hf
    exact z_zret hC rfl dX2_readStop_32
  refine z_if_eq (tgt := 31) hC dX2_readStop_4 (by decide) (fun h4 => ?_) (fun h4 => ?_)
  · replace hf := zif_t h4 hf
    refine z_lv [] rfl ?_
    exact hJ31 _ hf
  replace hf := zif_f h4 hf
  refine z_aload_n hC dX2_readStop_7 0 rfl rfl ?_
  refine z_get2 hC 3 (by decide) zw_fl_X2_15 (v := .int (w1 42 3)) rfl dX2_readStop_8 ?_
  refine z_iconst hC dX2_readStop_11 (v := 3) rfl ?_
  obtain ⟨j27, hj27, hf⟩ := zjn1_e hf
  have hJ27 : ∀ (w5 : zW), j27 w5 = some (r, wz) → Z G p l e rm_X2_readStop s m args below meth c (MQ below (zQ G (some (.int r)) wz) args s 0 0 (zA G)) 1 27 [] [] w5 := by
    intro w5 hf
    replace hf := hj27 w5 hf
    refine z_iconst hC dX2_readStop_27 (v := 1) rfl ?_
    refine z_goto (tgt := 32) hC dX2_readStop_28 (by decide) ?_
    obtain ⟨rfl, rfl⟩ := zso2 hf
    exact z_zret hC rfl dX2_readStop_32
  refine z_icmp_eq (tgt := 27) hC dX2_readStop_12 (by decide) (fun h6 => ?_) (fun h6 => ?_)
  · replace hf := zif_t h6 hf
    refine z_lv [] rfl ?_
    exact hJ27 _ hf
  replace hf := zif_f h6 hf
  refine z_aload_n hC dX2_readStop_15 0 rfl rfl ?_
  refine z_iconst hC dX2_readStop_16 (v := 2) rfl ?_
  refine z_aload_n hC dX2_readStop_17 0 rfl rfl ?_
  refine z_get2 hC 4 (by decide) zw_fl_X2_18 (v := .int (w1 42 4)) rfl dX2_readStop_18 ?_
  obtain ⟨v8, w7, ew7, hf⟩ := zbd2_e hf
  refine z_cvi (As := [.int (2 : Int32), .int (w1 42 4)]) (rest := []) hC zo_read rfl (c_X2_fail l G w1 (2 : Int32) (w1 42 4) ew7) zw_ml_X2_74 zy_X2_fail ⟨rfl, rfl, Nat.le_of_ble_eq_true rfl, Nat.le_of_ble_eq_true rfl⟩ rfl rfl (Nat.le_of_ble_eq_true rfl) dX2_readStop_21 ?_
  refine z_if_eq (tgt := 31) hC dX2_readStop_24 (by decide) (fun h9 => ?_) (fun h9 => ?_)
  · replace hf := zif_t h9 hf
    refine z_lv [] rfl ?_
    exact hJ31 _ hf
  replace hf := zif_f h9 hf
  refine z_lv [] rfl ?_
  exact hJ27 _ hf
theorem zy_X2_readStop : zYV yX2_readStop cX2_readStop 1 (some .boolean) RX2 0 := ⟨zw_cd_X2_readStop, zw_im_X2_readStop, zw_sel_X2_readStop, zw_ini_X2, by decide +kernel⟩
abbrev rm_X2_readWell : Room := { frames := 3, cells := 0, slots := 0, locals := 67 }
def f_X2_readWell (w : zW) : Option (Int32 × zW) :=
  zlet (w 10 4) fun v1 =>
  if v1 < (3 : Int32) then
    zbd2 (f_X2_readNumber w (1 : Int32) (60 : Int32)) fun v4 w3 =>
    if v4 = (0 : Int32) then
      some ((0 : Int32), w3)
    else
      zg (zin v1 3) <|
      zlet (zup w3 (10 + 4) (zx v1) (w3 42 6)) fun w7 =>
      zbd2 (f_X2_readNumber w7 (0 : Int32) (10 : Int32)) fun v9 w8 =>
      if v9 = (0 : Int32) then
        some ((0 : Int32), w8)
      else
        zg (zin v1 3) <|
        zlet (zup w8 (10 + 5) (zx v1) (w8 42 6)) fun w12 =>
        zbd2 (f_X2_readNumber w12 (1 : Int32) (20 : Int32)) fun v14 w13 =>
        if v14 = (0 : Int32) then
          some ((0 : Int32), w13)
        else
          zg (zin v1 3) <|
          zlet (zup w13 (10 + 6) (zx v1) (w13 42 6)) fun w17 =>
          zg (zin v1 3) <|
          zlet (zup w17 (10 + 7) (zx v1) (vp_nar .boolean (1 : Int32))) fun w19 =>
          zlet (zup w19 10 4 ((w19 10 4) + (1 : Int32))) fun w20 =>
          some ((1 : Int32), w20)
  else
  zbd2 (f_X2_fail w (5 : Int32) (w 42 4)) fun v22 w21 =>
  zg (zbo v22) <|
  some (v22, w21)
set_option maxRecDepth 100000 in
set_option maxHeartbeats 4000000 in
theorem c_X2_readWell (l : Launch) (G : zG) (w : zW) {r : Int32} {wz : zW} (hf : f_X2_readWell w = some (r, wz)) : zMet l G yX2_readWell cX2_readWell 2 (some .boolean) rm_X2_readWell [.ref (zad G 42)] w (some (.int r)) wz := by
  refine z_start (own := RX2) (by decide) rfl (Nat.le_of_ble_eq_true rfl) (lv := [(0, .ref (zad G 42))]) rfl ?_
  intro p e s m args below meth c hC
  unfold f_X2_readWell at hf
  refine z_aload_n hC dX2_readWell_0 0 rfl rfl ?_
  refine z_get2 hC 1 (by decide) zw_fl_X2_46 (v := .ref (zad G 10)) rfl dX2_readWell_1 ?_
  refine z_get0 hC zcamp10 4 (by decide) zw_fl_X2_71 (v := .int (w 10 4)) rfl dX2_readWell_4 ?_
  obtain ⟨v1, ev1, hf⟩ := zlet_e hf
  refine z_topi ev1 ?_
  refine z_istore_n (lv' := [(1, .int v1), (0, .ref (zad G 42))]) hC dX2_readWell_7 rfl (by decide) rfl ?_
  refine z_iload_n hC dX2_readWell_8 0 rfl rfl ?_
  refine z_iconst hC dX2_readWell_9 (v := 3) rfl ?_
  refine z_icmp_lt (tgt := 23) hC dX2_readWell_10 (by decide) (fun h2 => ?_) (fun h2 => ?_)
  · replace hf := zif_t h2 hf
    refine z_aload_n hC dX2_readWell_23 1 rfl rfl ?_
    refine z_iconst hC dX2_readWell_24 (v := 1) rfl ?_
    refine z_bipush hC dX2_readWell_25 (v := 60) rfl ?_
    obtain ⟨v4, w3, ew3, hf⟩ := zbd2_e hf
    refine z_cvi (As := [.int (1 : Int32), .int (60 : Int32)]) (rest := []) hC zo_read rfl (c_X2_readNumber l G w (1 : Int32) (60 : Int32) ew3) zw_ml_X2_159 zy_X2_readNumber ⟨rfl, rfl, Nat.le_of_ble_eq_true rfl, Nat.le_of_ble_eq_true rfl⟩ rfl rfl (Nat.le_of_ble_eq_true rfl) dX2_readWell_27 ?_
    refine z_if_ne (tgt := 35) hC dX2_readWell_30 (by decide) (fun h5 => ?_) (fun h5 => ?_)
    · replace hf := zif_f h5 hf
      refine z_aload_n hC dX2_readWell_35 1 rfl rfl ?_
      refine z_get2 hC 1 (by decide) zw_fl_X2_46 (v := .ref (zad G 10)) rfl dX2_readWell_36 ?_
      refine z_get0 hC zcamp10 5 (by decide) zw_fl_X2_178 (v := .ref (zad G (10 + 4))) rfl dX2_readWell_39 ?_
      refine z_iload_n hC dX2_readWell_42 0 rfl rfl ?_
      refine z_aload_n hC dX2_readWell_43 1 rfl rfl ?_
      refine z_get2 hC 6 (by decide) zw_fl_X2_24 (v := .int (w3 42 6)) rfl dX2_readWell_44 ?_
      obtain ⟨hg6, hf⟩ := zg_e hf
      obtain ⟨w7, ew7, hf⟩ := zlet_e hf
      refine z_iast hC (za_c4 zcamp10) hg6 rfl ew7 dX2_readWell_47 ?_
      refine z_aload_n hC dX2_readWell_48 1 rfl rfl ?_
      refine z_iconst hC dX2_readWell_49 (v := 0) rfl ?_
      refine z_bipush hC dX2_readWell_50 (v := 10) rfl ?_
      obtain ⟨v9, w8, ew8, hf⟩ := zbd2_e hf
      refine z_cvi (As := [.int (0 : Int32), .int (10 : Int32)]) (rest := []) hC zo_read rfl (c_X2_readNumber l G w7 (0 : Int32) (10 : Int32) ew8) zw_ml_X2_159 zy_X2_readNumber ⟨rfl, rfl, Nat.le_of_ble_eq_true rfl, Nat.le_of_ble_eq_true rfl⟩ rfl rfl (Nat.le_of_ble_eq_true rfl) dX2_readWell_52 ?_
      refine z_if_ne (tgt := 60) hC dX2_readWell_55 (by decide) (fun h10 => ?_) (fun h10 => ?_)
      · replace hf := zif_f h10 hf
        refine z_aload_n hC dX2_readWell_60 1 rfl rfl ?_
        refine z_get2 hC 1 (by decide) zw_fl_X2_46 (v := .ref (zad G 10)) rfl dX2_readWell_61 ?_
        refine z_get0 hC zcamp10 6 (by decide) zw_fl_X2_181 (v := .ref (zad G (10 + 5))) rfl dX2_readWell_64 ?_
        refine z_iload_n hC dX2_readWell_67 0 rfl rfl ?_
        refine z_aload_n hC dX2_readWell_68 1 rfl rfl ?_
        refine z_get2 hC 6 (by decide) zw_fl_X2_24 (v := .int (w8 42 6)) rfl dX2_readWell_69 ?_
        obtain ⟨hg11, hf⟩ := zg_e hf
        obtain ⟨w12, ew12, hf⟩ := zlet_e hf
        refine z_iast hC (za_c5 zcamp10) hg11 rfl ew12 dX2_readWell_72 ?_
        refine z_aload_n hC dX2_readWell_73 1 rfl rfl ?_
        refine z_iconst hC dX2_readWell_74 (v := 1) rfl ?_
        refine z_bipush hC dX2_readWell_75 (v := 20) rfl ?_
        obtain ⟨v14, w13, ew13, hf⟩ := zbd2_e hf
        refine z_cvi (As := [.int (1 : Int32), .int (20 : Int32)]) (rest := []) hC zo_read rfl (c_X2_readNumber l G w12 (1 : Int32) (20 : Int32) ew13) zw_ml_X2_159 zy_X2_readNumber ⟨rfl, rfl, Nat.le_of_ble_eq_true rfl, Nat.le_of_ble_eq_true rfl⟩ rfl rfl (Nat.le_of_ble_eq_true rfl) dX2_readWell_77 ?_
        refine z_if_ne (tgt := 85) hC dX2_readWell_80 (by decide) (fun h15 => ?_) (fun h15 => ?_)
        · replace hf := zif_f h15 hf
          refine z_aload_n hC dX2_readWell_85 1 rfl rfl ?_
          refine z_get2 hC 1 (by decide) zw_fl_X2_46 (v := .ref (zad G 10)) rfl dX2_readWell_86 ?_
          refine z_get0 hC zcamp10 7 (by decide) zw_fl_X2_184 (v := .ref (zad G (10 + 6))) rfl dX2_readWell_89 ?_
          refine z_iload_n hC dX2_readWell_92 0 rfl rfl ?_
          refine z_aload_n hC dX2_readWell_93 1 rfl rfl ?_
          refine z_get2 hC 6 (by decide) zw_fl_X2_24 (v := .int (w13 42 6)) rfl dX2_readWell_94 ?_
          obtain ⟨hg16, hf⟩ := zg_e hf
          obtain ⟨w17, ew17, hf⟩ := zlet_e hf
          refine z_iast hC (za_c6 zcamp10) hg16 rfl ew17 dX2_readWell_97 ?_
          refine z_aload_n hC dX2_readWell_98 1 rfl rfl ?_
          refine z_get2 hC 1 (by decide) zw_fl_X2_46 (v := .ref (zad G 10)) rfl dX2_readWell_99 ?_
          refine z_get0 hC zcamp10 8 (by decide) zw_fl_X2_78 (v := .ref (zad G (10 + 7))) rfl dX2_readWell_102 ?_
          refine z_iload_n hC dX2_readWell_105 0 rfl rfl ?_
          refine z_iconst hC dX2_readWell_106 (v := 1) rfl ?_
          obtain ⟨hg18, hf⟩ := zg_e hf
          obtain ⟨w19, ew19, hf⟩ := zlet_e hf
          refine z_zast hC (za_c7 zcamp10) hg18 rfl ew19 dX2_readWell_107 ?_
          refine z_aload_n hC dX2_readWell_108 1 rfl rfl ?_
          refine z_get2 hC 1 (by decide) zw_fl_X2_46 (v := .ref (zad G 10)) rfl dX2_readWell_109 ?_
          refine z_dup hC dX2_readWell_112 rfl ?_
          refine z_get0 hC zcamp10 4 (by decide) zw_fl_X2_71 (v := .int (w19 10 4)) rfl dX2_readWell_113 ?_
          refine z_iconst hC dX2_readWell_116 (v := 1) rfl ?_
          refine z_iadd hC dX2_readWell_117 ?_
          obtain ⟨w20, ew20, hf⟩ := zlet_e hf
          refine z_put0 hC zcamp10 4 (by decide) rfl rfl zw_fl_X2_71 rfl ew20 dX2_readWell_118 ?_
          refine z_iconst hC dX2_readWell_121 (v := 1) rfl ?_
          obtain ⟨rfl, rfl⟩ := zso2 hf
          exact z_zret hC rfl dX2_readWell_122
        replace hf := zif_t h15 hf
        refine z_iconst hC dX2_readWell_83 (v := 0) rfl ?_
        obtain ⟨rfl, rfl⟩ := zso2 hf
        exact z_zret hC rfl dX2_readWell_84
      replace hf := zif_t h10 hf
      refine z_iconst hC dX2_readWell_58 (v := 0) rfl ?_
      obtain ⟨rfl, rfl⟩ := zso2 hf
      exact z_zret hC rfl dX2_readWell_59
    replace hf := zif_t h5 hf
    refine z_iconst hC dX2_readWell_33 (v := 0) rfl ?_
    obtain ⟨rfl, rfl⟩ := zso2 hf
    exact z_zret hC rfl dX2_readWell_34
  replace hf := zif_f h2 hf
  refine z_aload_n hC dX2_readWell_13 1 rfl rfl ?_
  refine z_iconst hC dX2_readWell_14 (v := 5) rfl ?_
  refine z_aload_n hC dX2_readWell_15 1 rfl rfl ?_
  refine z_get2 hC 4 (by decide) zw_fl_X2_18 (v := .int (w 42 4)) rfl dX2_readWell_16 ?_
  obtain ⟨v22, w21, ew21, hf⟩ := zbd2_e hf
  refine z_cvi (As := [.int (5 : Int32), .int (w 42 4)]) (rest := []) hC zo_read rfl (c_X2_fail l G w (5 : Int32) (w 42 4) ew21) zw_ml_X2_74 zy_X2_fail ⟨rfl, rfl, Nat.le_of_ble_eq_true rfl, Nat.le_of_ble_eq_true rfl⟩ rfl rfl (Nat.le_of_ble_eq_true rfl) dX2_readWell_19 ?_
  obtain ⟨hg23, hf⟩ := zg_e hf
  obtain ⟨rfl, rfl⟩ := zso2 hf
  exact z_zret hC (zbo_n hg23) dX2_readWell_22
theorem zy_X2_readWell : zYV yX2_readWell cX2_readWell 2 (some .boolean) RX2 0 := ⟨zw_cd_X2_readWell, zw_im_X2_readWell, zw_sel_X2_readWell, zw_ini_X2, by decide +kernel⟩
abbrev rm_X2_readDry : Room := { frames := 3, cells := 0, slots := 0, locals := 67 }
def f_X2_readDry (w : zW) : Option (Int32 × zW) :=
  zbd2 (f_X2_readNumber w (0 : Int32) (2 : Int32)) fun v2 w1 =>
  if v2 = (0 : Int32) then
    some ((0 : Int32), w1)
  else
    if (((w1 42 8) >>> ((w1 42 6) &&& 31)) &&& (1 : Int32)) = (1 : Int32) then
      zbd2 (f_X2_fail w1 (4 : Int32) (w1 42 4)) fun v7 w6 =>
      zg (zbo v7) <|
      some (v7, w6)
    else
      zlet (zup w1 42 8 ((w1 42 8) ||| ((1 : Int32) <<< ((w1 42 6) &&& 31)))) fun w5 =>
      some ((1 : Int32), w5)
set_option maxRecDepth 100000 in
set_option maxHeartbeats 4000000 in
theorem c_X2_readDry (l : Launch) (G : zG) (w : zW) {r : Int32} {wz : zW} (hf : f_X2_readDry w = some (r, wz)) : zMet l G yX2_readDry cX2_readDry 1 (some .boolean) rm_X2_readDry [.ref (zad G 42)] w (some (.int r)) wz := by
  refine z_start (own := RX2) (by decide) rfl (Nat.le_of_ble_eq_true rfl) (lv := [(0, .ref (zad G 42))]) rfl ?_
  intro p e s m args below meth c hC
  unfold f_X2_readDry at hf
  refine z_aload_n hC dX2_readDry_0 0 rfl rfl ?_
  refine z_iconst hC dX2_readDry_1 (v := 0) rfl ?_
  refine z_iconst hC dX2_readDry_2 (v := 2) rfl ?_
  obtain ⟨v2, w1, ew1, hf⟩ := zbd2_e hf
  refine z_cvi (As := [.int (0 : Int32), .int (2 : Int32)]) (rest := []) hC zo_read rfl (c_X2_readNumber l G w (0 : Int32) (2 : Int32) ew1) zw_ml_X2_159 zy_X2_readNumber ⟨rfl, rfl, Nat.le_of_ble_eq_true rfl, Nat.le_of_ble_eq_true rfl⟩ rfl rfl (Nat.le_of_ble_eq_true rfl) dX2_readDry_3 ?_
  refine z_if_ne (tgt := 11) hC dX2_readDry_6 (by decide) (fun h3 => ?_) (fun h3 => ?_)
  · replace hf := zif_f h3 hf
    refine z_aload_n hC dX2_readDry_11 0 rfl rfl ?_
    refine z_get2 hC 8 (by decide) zw_fl_X2_30 (v := .int (w1 42 8)) rfl dX2_readDry_12 ?_
    refine z_aload_n hC dX2_readDry_15 0 rfl rfl ?_
    refine z_get2 hC 6 (by decide) zw_fl_X2_24 (v := .int (w1 42 6)) rfl dX2_readDry_16 ?_
    refine z_ishr hC dX2_readDry_19 ?_
    refine z_iconst hC dX2_readDry_20 (v := 1) rfl ?_
    refine z_iand hC dX2_readDry_21 ?_
    refine z_iconst hC dX2_readDry_22 (v := 1) rfl ?_
    refine z_icmp_ne (tgt := 36) hC dX2_readDry_23 (by decide) (fun h4 => ?_) (fun h4 => ?_)
    · replace hf := zif_f h4 hf
      refine z_aload_n hC dX2_readDry_36 0 rfl rfl ?_
      refine z_dup hC dX2_readDry_37 rfl ?_
      refine z_get2 hC 8 (by decide) zw_fl_X2_30 (v := .int (w1 42 8)) rfl dX2_readDry_38 ?_
      refine z_iconst hC dX2_readDry_41 (v := 1) rfl ?_
      refine z_aload_n hC dX2_readDry_42 0 rfl rfl ?_
      refine z_get2 hC 6 (by decide) zw_fl_X2_24 (v := .int (w1 42 6)) rfl dX2_readDry_43 ?_
      refine z_ishl hC dX2_readDry_46 ?_
      refine z_ior hC dX2_readDry_47 ?_
      obtain ⟨w5, ew5, hf⟩ := zlet_e hf
      refine z_put2 hC 8 (by decide) rfl rfl zw_fl_X2_30 rfl ew5 dX2_readDry_48 ?_
      refine z_iconst hC dX2_readDry_51 (v := 1) rfl ?_
      obtain ⟨rfl, rfl⟩ := zso2 hf
      exact z_zret hC rfl dX2_readDry_52
    replace hf := zif_t h4 hf
    refine z_aload_n hC dX2_readDry_26 0 rfl rfl ?_
    refine z_iconst hC dX2_readDry_27 (v := 4) rfl ?_
    refine z_aload_n hC dX2_readDry_28 0 rfl rfl ?_
    refine z_get2 hC 4 (by decide) zw_fl_X2_18 (v := .int (w1 42 4)) rfl dX2_readDry_29 ?_
    obtain ⟨v7, w6, ew6, hf⟩ := zbd2_e hf
    refine z_cvi (As := [.int (4 : Int32), .int (w1 42 4)]) (rest := []) hC zo_read rfl (c_X2_fail l G w1 (4 : Int32) (w1 42 4) ew6) zw_ml_X2_74 zy_X2_fail ⟨rfl, rfl, Nat.le_of_ble_eq_true rfl, Nat.le_of_ble_eq_true rfl⟩ rfl rfl (Nat.le_of_ble_eq_true rfl) dX2_readDry_32 ?_
    obtain ⟨hg8, hf⟩ := zg_e hf
    obtain ⟨rfl, rfl⟩ := zso2 hf
    exact z_zret hC (zbo_n hg8) dX2_readDry_35
  replace hf := zif_t h3 hf
  refine z_iconst hC dX2_readDry_9 (v := 0) rfl ?_
  obtain ⟨rfl, rfl⟩ := zso2 hf
  exact z_zret hC rfl dX2_readDry_10
theorem zy_X2_readDry : zYV yX2_readDry cX2_readDry 1 (some .boolean) RX2 0 := ⟨zw_cd_X2_readDry, zw_im_X2_readDry, zw_sel_X2_readDry, zw_ini_X2, by decide +kernel⟩
abbrev rm_X2_readBottle : Room := { frames := 3, cells := 0, slots := 0, locals := 67 }
def f_X2_readBottle (w : zW) : Option (Int32 × zW) :=
  zbd2 (f_X2_readNumber w (0 : Int32) (60 : Int32)) fun v2 w1 =>
  if v2 = (0 : Int32) then
    some ((0 : Int32), w1)
  else
    zlet (zup w1 10 9 (w1 42 6)) fun w4 =>
    some ((1 : Int32), w4)
set_option maxRecDepth 100000 in
set_option maxHeartbeats 4000000 in
theorem c_X2_readBottle (l : Launch) (G : zG) (w : zW) {r : Int32} {wz : zW} (hf : f_X2_readBottle w = some (r, wz)) : zMet l G yX2_readBottle cX2_readBottle 1 (some .boolean) rm_X2_readBottle [.ref (zad G 42)] w (some (.int r)) wz := by
  refine z_start (own := RX2) (by decide) rfl (Nat.le_of_ble_eq_true rfl) (lv := [(0, .ref (zad G 42))]) rfl ?_
  intro p e s m args below meth c hC
  unfold f_X2_readBottle at hf
  refine z_aload_n hC dX2_readBottle_0 0 rfl rfl ?_
  refine z_iconst hC dX2_readBottle_1 (v := 0) rfl ?_
  refine z_bipush hC dX2_readBottle_2 (v := 60) rfl ?_
  obtain ⟨v2, w1, ew1, hf⟩ := zbd2_e hf
  refine z_cvi (As := [.int (0 : Int32), .int (60 : Int32)]) (rest := []) hC zo_read rfl (c_X2_readNumber l G w (0 : Int32) (60 : Int32) ew1) zw_ml_X2_159 zy_X2_readNumber ⟨rfl, rfl, Nat.le_of_ble_eq_true rfl, Nat.le_of_ble_eq_true rfl⟩ rfl rfl (Nat.le_of_ble_eq_true rfl) dX2_readBottle_4 ?_
  refine z_if_ne (tgt := 12) hC dX2_readBottle_7 (by decide) (fun h3 => ?_) (fun h3 => ?_)
  · replace hf := zif_f h3 hf
    refine z_aload_n hC dX2_readBottle_12 0 rfl rfl ?_
    refine z_get2 hC 1 (by decide) zw_fl_X2_46 (v := .ref (zad G 10)) rfl dX2_readBottle_13 ?_
    refine z_aload_n hC dX2_readBottle_16 0 rfl rfl ?_
    refine z_get2 hC 6 (by decide) zw_fl_X2_24 (v := .int (w1 42 6)) rfl dX2_readBottle_17 ?_
    obtain ⟨w4, ew4, hf⟩ := zlet_e hf
    refine z_put0 hC zcamp10 9 (by decide) rfl rfl zw_fl_X2_187 rfl ew4 dX2_readBottle_20 ?_
    refine z_iconst hC dX2_readBottle_23 (v := 1) rfl ?_
    obtain ⟨rfl, rfl⟩ := zso2 hf
    exact z_zret hC rfl dX2_readBottle_24
  replace hf := zif_t h3 hf
  refine z_iconst hC dX2_readBottle_10 (v := 0) rfl ?_
  obtain ⟨rfl, rfl⟩ := zso2 hf
  exact z_zret hC rfl dX2_readBottle_11
theorem zy_X2_readBottle : zYV yX2_readBottle cX2_readBottle 1 (some .boolean) RX2 0 := ⟨zw_cd_X2_readBottle, zw_im_X2_readBottle, zw_sel_X2_readBottle, zw_ini_X2, by decide +kernel⟩
abbrev rm_X2_readGoal : Room := { frames := 3, cells := 0, slots := 0, locals := 67 }
def f_X2_readGoal (w : zW) : Option (Int32 × zW) :=
  zbd2 (f_X2_readNumber w (0 : Int32) (60 : Int32)) fun v2 w1 =>
  if v2 = (0 : Int32) then
    some ((0 : Int32), w1)
  else
    zlet (zup w1 10 10 (w1 42 6)) fun w4 =>
    zbd2 (f_X2_readNumber w4 (0 : Int32) (23 : Int32)) fun v6 w5 =>
    if v6 = (0 : Int32) then
      some ((0 : Int32), w5)
    else
      zlet (zup w5 10 12 (w5 42 6)) fun w8 =>
      some ((1 : Int32), w8)
set_option maxRecDepth 100000 in
set_option maxHeartbeats 4000000 in
theorem c_X2_readGoal (l : Launch) (G : zG) (w : zW) {r : Int32} {wz : zW} (hf : f_X2_readGoal w = some (r, wz)) : zMet l G yX2_readGoal cX2_readGoal 1 (some .boolean) rm_X2_readGoal [.ref (zad G 42)] w (some (.int r)) wz := by
  refine z_start (own := RX2) (by decide) rfl (Nat.le_of_ble_eq_true rfl) (lv := [(0, .ref (zad G 42))]) rfl ?_
  intro p e s m args below meth c hC
  unfold f_X2_readGoal at hf
  refine z_aload_n hC dX2_readGoal_0 0 rfl rfl ?_
  refine z_iconst hC dX2_readGoal_1 (v := 0) rfl ?_
  refine z_bipush hC dX2_readGoal_2 (v := 60) rfl ?_
  obtain ⟨v2, w1, ew1, hf⟩ := zbd2_e hf
  refine z_cvi (As := [.int (0 : Int32), .int (60 : Int32)]) (rest := []) hC zo_read rfl (c_X2_readNumber l G w (0 : Int32) (60 : Int32) ew1) zw_ml_X2_159 zy_X2_readNumber ⟨rfl, rfl, Nat.le_of_ble_eq_true rfl, Nat.le_of_ble_eq_true rfl⟩ rfl rfl (Nat.le_of_ble_eq_true rfl) dX2_readGoal_4 ?_
  refine z_if_ne (tgt := 12) hC dX2_readGoal_7 (by decide) (fun h3 => ?_) (fun h3 => ?_)
  · replace hf := zif_f h3 hf
    refine z_aload_n hC dX2_readGoal_12 0 rfl rfl ?_
    refine z_get2 hC 1 (by decide) zw_fl_X2_46 (v := .ref (zad G 10)) rfl dX2_readGoal_13 ?_
    refine z_aload_n hC dX2_readGoal_16 0 rfl rfl ?_
    refine z_get2 hC 6 (by decide) zw_fl_X2_24 (v := .int (w1 42 6)) rfl dX2_readGoal_17 ?_
    obtain ⟨w4, ew4, hf⟩ := zlet_e hf
    refine z_put0 hC zcamp10 10 (by decide) rfl rfl zw_fl_X2_189 rfl ew4 dX2_readGoal_20 ?_
    refine z_aload_n hC dX2_readGoal_23 0 rfl rfl ?_
    refine z_iconst hC dX2_readGoal_24 (v := 0) rfl ?_
    refine z_bipush hC dX2_readGoal_25 (v := 23) rfl ?_
    obtain ⟨v6, w5, ew5, hf⟩ := zbd2_e hf
    refine z_cvi (As := [.int (0 : Int32), .int (23 : Int32)]) (rest := []) hC zo_read rfl (c_X2_readNumber l G w4 (0 : Int32) (23 : Int32) ew5) zw_ml_X2_159 zy_X2_readNumber ⟨rfl, rfl, Nat.le_of_ble_eq_true rfl, Nat.le_of_ble_eq_true rfl⟩ rfl rfl (Nat.le_of_ble_eq_true rfl) dX2_readGoal_27 ?_
    refine z_if_ne (tgt := 35) hC dX2_readGoal_30 (by decide) (fun h7 => ?_) (fun h7 => ?_)
    · replace hf := zif_f h7 hf
      refine z_aload_n hC dX2_readGoal_35 0 rfl rfl ?_
      refine z_get2 hC 1 (by decide) zw_fl_X2_46 (v := .ref (zad G 10)) rfl dX2_readGoal_36 ?_
      refine z_aload_n hC dX2_readGoal_39 0 rfl rfl ?_
      refine z_get2 hC 6 (by decide) zw_fl_X2_24 (v := .int (w5 42 6)) rfl dX2_readGoal_40 ?_
      obtain ⟨w8, ew8, hf⟩ := zlet_e hf
      refine z_put0 hC zcamp10 12 (by decide) rfl rfl zw_fl_X2_191 rfl ew8 dX2_readGoal_43 ?_
      refine z_iconst hC dX2_readGoal_46 (v := 1) rfl ?_
      obtain ⟨rfl, rfl⟩ := zso2 hf
      exact z_zret hC rfl dX2_readGoal_47
    replace hf := zif_t h7 hf
    refine z_iconst hC dX2_readGoal_33 (v := 0) rfl ?_
    obtain ⟨rfl, rfl⟩ := zso2 hf
    exact z_zret hC rfl dX2_readGoal_34
  replace hf := zif_t h3 hf
  refine z_iconst hC dX2_readGoal_10 (v := 0) rfl ?_
  obtain ⟨rfl, rfl⟩ := zso2 hf
  exact z_zret hC rfl dX2_readGoal_11
theorem zy_X2_readGoal : zYV yX2_readGoal cX2_readGoal 1 (some .boolean) RX2 0 := ⟨zw_cd_X2_readGoal, zw_im_X2_readGoal, zw_sel_X2_readGoal, zw_ini_X2, by decide +kernel⟩
abbrev rm_X2_readPlan : Room := { frames := 6, cells := 0, slots := 0, locals := 127 }
def f_X2_readPlan (w : zW) : Option (Int32 × zW) :=
  zbd2 (f_X2_nextToken w) fun v2 w1 =>
  if v2 = (0 : Int32) then
    some ((0 : Int32), w1)
  else
    zbd (f_X2_planByName w1) fun v4 =>
    if v4 = (-4 : Int32) then
      zbd2 (f_X2_fail w1 (2 : Int32) (w1 42 4)) fun v8 w7 =>
      zg (zbo v8) <|
      some (v8, w7)
    else
      zlet (zup w1 10 13 v4) fun w6 =>
      some ((1 : Int32), w6)
set_option maxRecDepth 100000 in
set_option maxHeartbeats 4000000 in
theorem c_X2_readPlan (l : Launch) (G : zG) (w : zW) {r : Int32} {wz : zW} (hf : f_X2_readPlan w = some (r, wz)) : zMet l G yX2_readPlan cX2_readPlan 2 (some .boolean) rm_X2_readPlan [.ref (zad G 42)] w (some (.int r)) wz := by
  refine z_start (own := RX2) (by decide) rfl (Nat.le_of_ble_eq_true rfl) (lv := [(0, .ref (zad G 42))]) rfl ?_
  intro p e s m args below meth c hC
  unfold f_X2_readPlan at hf
  refine z_aload_n hC dX2_readPlan_0 0 rfl rfl ?_
  obtain ⟨v2, w1, ew1, hf⟩ := zbd2_e hf
  refine z_cvi (As := []) (rest := []) hC zo_read rfl (c_X2_nextToken l G w ew1) zw_ml_X2_61 zy_X2_nextToken ⟨rfl, rfl, Nat.le_of_ble_eq_true rfl, Nat.le_of_ble_eq_true rfl⟩ rfl rfl (Nat.le_of_ble_eq_true rfl) dX2_readPlan_1 ?_
  refine z_if_ne (tgt := 9) hC dX2_readPlan_4 (by decide) (fun h3 => ?_) (fun h3 => ?_)
  · replace hf := zif_f h3 hf
    refine z_aload_n hC dX2_readPlan_9 0 rfl rfl ?_
    obtain ⟨v4, ev4, hf⟩ := zbd_e hf
    refine z_cvi (As := []) (rest := []) hC zo_read rfl (c_X2_planByName l G w1 ev4) zw_ml_X2_194 zy_X2_planByName ⟨rfl, rfl, Nat.le_of_ble_eq_true rfl, Nat.le_of_ble_eq_true rfl⟩ rfl rfl (Nat.le_of_ble_eq_true rfl) dX2_readPlan_10 ?_
    refine z_istore_n (lv' := [(1, .int v4), (0, .ref (zad G 42))]) hC dX2_readPlan_13 rfl (by decide) rfl ?_
    refine z_iload_n hC dX2_readPlan_14 0 rfl rfl ?_
    refine z_bipush hC dX2_readPlan_15 (v := -4) rfl ?_
    refine z_icmp_ne (tgt := 30) hC dX2_readPlan_17 (by decide) (fun h5 => ?_) (fun h5 => ?_)
    · replace hf := zif_f h5 hf
      refine z_aload_n hC dX2_readPlan_30 1 rfl rfl ?_
      refine z_get2 hC 1 (by decide) zw_fl_X2_46 (v := .ref (zad G 10)) rfl dX2_readPlan_31 ?_
      refine z_iload_n hC dX2_readPlan_34 0 rfl rfl ?_
      obtain ⟨w6, ew6, hf⟩ := zlet_e hf
      refine z_put0 hC zcamp10 13 (by decide) rfl rfl zw_fl_X2_197 rfl ew6 dX2_readPlan_35 ?_
      refine z_iconst hC dX2_readPlan_38 (v := 1) rfl ?_
      obtain ⟨rfl, rfl⟩ := zso2 hf
      exact z_zret hC rfl dX2_readPlan_39
    replace hf := zif_t h5 hf
    refine z_aload_n hC dX2_readPlan_20 1 rfl rfl ?_
    refine z_iconst hC dX2_readPlan_21 (v := 2) rfl ?_
    refine z_aload_n hC dX2_readPlan_22 1 rfl rfl ?_
    refine z_get2 hC 4 (by decide) zw_fl_X2_18 (v := .int (w1 42 4)) rfl dX2_readPlan_23 ?_
    obtain ⟨v8, w7, ew7, hf⟩ := zbd2_e hf
    refine z_cvi (As := [.int (2 : Int32), .int (w1 42 4)]) (rest := []) hC zo_read rfl (c_X2_fail l G w1 (2 : Int32) (w1 42 4) ew7) zw_ml_X2_74 zy_X2_fail ⟨rfl, rfl, Nat.le_of_ble_eq_true rfl, Nat.le_of_ble_eq_true rfl⟩ rfl rfl (Nat.le_of_ble_eq_true rfl) dX2_readPlan_26 ?_
    obtain ⟨hg9, hf⟩ := zg_e hf
    obtain ⟨rfl, rfl⟩ := zso2 hf
    exact z_zret hC (zbo_n hg9) dX2_readPlan_29
  replace hf := zif_t h3 hf
  refine z_iconst hC dX2_readPlan_7 (v := 0) rfl ?_
  obtain ⟨rfl, rfl⟩ := zso2 hf
  exact z_zret hC rfl dX2_readPlan_8
theorem zy_X2_readPlan : zYV yX2_readPlan cX2_readPlan 2 (some .boolean) RX2 0 := ⟨zw_cd_X2_readPlan, zw_im_X2_readPlan, zw_sel_X2_readPlan, zw_ini_X2, by decide +kernel⟩
abbrev rm_X2_readDew : Room := { frames := 3, cells := 0, slots := 0, locals := 67 }
def f_X2_readDew (w : zW) : Option (Int32 × zW) :=
  zbd2 (f_X2_readNumber w (0 : Int32) (9 : Int32)) fun v2 w1 =>
  if v2 = (0 : Int32) then
    some ((0 : Int32), w1)
  else
    zlet (zup w1 10 14 (w1 42 6)) fun w4 =>
    some ((1 : Int32), w4)
set_option maxRecDepth 100000 in
set_option maxHeartbeats 4000000 in
theorem c_X2_readDew (l : Launch) (G : zG) (w : zW) {r : Int32} {wz : zW} (hf : f_X2_readDew w = some (r, wz)) : zMet l G yX2_readDew cX2_readDew 1 (some .boolean) rm_X2_readDew [.ref (zad G 42)] w (some (.int r)) wz := by
  refine z_start (own := RX2) (by decide) rfl (Nat.le_of_ble_eq_true rfl) (lv := [(0, .ref (zad G 42))]) rfl ?_
  intro p e s m args below meth c hC
  unfold f_X2_readDew at hf
  refine z_aload_n hC dX2_readDew_0 0 rfl rfl ?_
  refine z_iconst hC dX2_readDew_1 (v := 0) rfl ?_
  refine z_bipush hC dX2_readDew_2 (v := 9) rfl ?_
  obtain ⟨v2, w1, ew1, hf⟩ := zbd2_e hf
  refine z_cvi (As := [.int (0 : Int32), .int (9 : Int32)]) (rest := []) hC zo_read rfl (c_X2_readNumber l G w (0 : Int32) (9 : Int32) ew1) zw_ml_X2_159 zy_X2_readNumber ⟨rfl, rfl, Nat.le_of_ble_eq_true rfl, Nat.le_of_ble_eq_true rfl⟩ rfl rfl (Nat.le_of_ble_eq_true rfl) dX2_readDew_4 ?_
  refine z_if_ne (tgt := 12) hC dX2_readDew_7 (by decide) (fun h3 => ?_) (fun h3 => ?_)
  · replace hf := zif_f h3 hf
    refine z_aload_n hC dX2_readDew_12 0 rfl rfl ?_
    refine z_get2 hC 1 (by decide) zw_fl_X2_46 (v := .ref (zad G 10)) rfl dX2_readDew_13 ?_
    refine z_aload_n hC dX2_readDew_16 0 rfl rfl ?_
    refine z_get2 hC 6 (by decide) zw_fl_X2_24 (v := .int (w1 42 6)) rfl dX2_readDew_17 ?_
    obtain ⟨w4, ew4, hf⟩ := zlet_e hf
    refine z_put0 hC zcamp10 14 (by decide) rfl rfl zw_fl_X2_207 rfl ew4 dX2_readDew_20 ?_
    refine z_iconst hC dX2_readDew_23 (v := 1) rfl ?_
    obtain ⟨rfl, rfl⟩ := zso2 hf
    exact z_zret hC rfl dX2_readDew_24
  replace hf := zif_t h3 hf
  refine z_iconst hC dX2_readDew_10 (v := 0) rfl ?_
  obtain ⟨rfl, rfl⟩ := zso2 hf
  exact z_zret hC rfl dX2_readDew_11
theorem zy_X2_readDew : zYV yX2_readDew cX2_readDew 1 (some .boolean) RX2 0 := ⟨zw_cd_X2_readDew, zw_im_X2_readDew, zw_sel_X2_readDew, zw_ini_X2, by decide +kernel⟩
abbrev rm_X2_readFound : Room := { frames := 3, cells := 0, slots := 0, locals := 67 }
def f_X2_readFound (w : zW) : Option (Int32 × zW) :=
  zbd2 (f_X2_readNumber w (0 : Int32) (10 : Int32)) fun v2 w1 =>
  if v2 = (0 : Int32) then
    some ((0 : Int32), w1)
  else
    zlet (zup w1 10 15 (w1 42 6)) fun w4 =>
    some ((1 : Int32), w4)
set_option maxRecDepth 100000 in
set_option maxHeartbeats 4000000 in
theorem c_X2_readFound (l : Launch) (G : zG) (w : zW) {r : Int32} {wz : zW} (hf : f_X2_readFound w = some (r, wz)) : zMet l G yX2_readFound cX2_readFound 1 (some .boolean) rm_X2_readFound [.ref (zad G 42)] w (some (.int r)) wz := by
  refine z_start (own := RX2) (by decide) rfl (Nat.le_of_ble_eq_true rfl) (lv := [(0, .ref (zad G 42))]) rfl ?_
  intro p e s m args below meth c hC
  unfold f_X2_readFound at hf
  refine z_aload_n hC dX2_readFound_0 0 rfl rfl ?_
  refine z_iconst hC dX2_readFound_1 (v := 0) rfl ?_
  refine z_bipush hC dX2_readFound_2 (v := 10) rfl ?_
  obtain ⟨v2, w1, ew1, hf⟩ := zbd2_e hf
  refine z_cvi (As := [.int (0 : Int32), .int (10 : Int32)]) (rest := []) hC zo_read rfl (c_X2_readNumber l G w (0 : Int32) (10 : Int32) ew1) zw_ml_X2_159 zy_X2_readNumber ⟨rfl, rfl, Nat.le_of_ble_eq_true rfl, Nat.le_of_ble_eq_true rfl⟩ rfl rfl (Nat.le_of_ble_eq_true rfl) dX2_readFound_4 ?_
  refine z_if_ne (tgt := 12) hC dX2_readFound_7 (by decide) (fun h3 => ?_) (fun h3 => ?_)
  · replace hf := zif_f h3 hf
    refine z_aload_n hC dX2_readFound_12 0 rfl rfl ?_
    refine z_get2 hC 1 (by decide) zw_fl_X2_46 (v := .ref (zad G 10)) rfl dX2_readFound_13 ?_
    refine z_aload_n hC dX2_readFound_16 0 rfl rfl ?_
    refine z_get2 hC 6 (by decide) zw_fl_X2_24 (v := .int (w1 42 6)) rfl dX2_readFound_17 ?_
    obtain ⟨w4, ew4, hf⟩ := zlet_e hf
    refine z_put0 hC zcamp10 15 (by decide) rfl rfl zw_fl_X2_210 rfl ew4 dX2_readFound_20 ?_
    refine z_iconst hC dX2_readFound_23 (v := 1) rfl ?_
    obtain ⟨rfl, rfl⟩ := zso2 hf
    exact z_zret hC rfl dX2_readFound_24
  replace hf := zif_t h3 hf
  refine z_iconst hC dX2_readFound_10 (v := 0) rfl ?_
  obtain ⟨rfl, rfl⟩ := zso2 hf
  exact z_zret hC rfl dX2_readFound_11
theorem zy_X2_readFound : zYV yX2_readFound cX2_readFound 1 (some .boolean) RX2 0 := ⟨zw_cd_X2_readFound, zw_im_X2_readFound, zw_sel_X2_readFound, zw_ini_X2, by decide +kernel⟩
abbrev rm_X2_readLine : Room := { frames := 7, cells := 0, slots := 0, locals := 149 }
def f_X2_readLine (w : zW) : Option (Int32 × zW) :=
  zbd (f_X2_lineByName w) fun v1 =>
  if (((w 42 7) >>> (v1 &&& 31)) &&& (1 : Int32)) = (1 : Int32) then
    zbd2 (f_X2_fail w (4 : Int32) (w 42 4)) fun v74 w73 =>
    zg (zbo v74) <|
    some (v74, w73)
  else
    zjn1 (fun (w3 : zW) =>
      if v1 = (0 : Int32) then
        zbd2 (f_X2_readOne w3) fun v6 w5 =>
        zjn1 (fun (w7 : zW) =>
          some ((0 : Int32), w7))
        (fun (j110 : zW → Option (Int32 × zW)) =>
        if v6 = (0 : Int32) then
          j110 w5
        else
        zbd2 (f_X2_readStop w5) fun v10 w9 =>
        if v10 = (0 : Int32) then
          j110 w9
        else
        some ((1 : Int32), w9))
      else
      if v1 = (1 : Int32) then
        zbd2 (f_X2_readWell w3) fun v14 w13 =>
        zjn1 (fun (w15 : zW) =>
          some ((0 : Int32), w15))
        (fun (j130 : zW → Option (Int32 × zW)) =>
        if v14 = (0 : Int32) then
          j130 w13
        else
        zbd2 (f_X2_readStop w13) fun v18 w17 =>
        if v18 = (0 : Int32) then
          j130 w17
        else
        some ((1 : Int32), w17))
      else
      if v1 = (2 : Int32) then
        zbd2 (f_X2_readDry w3) fun v22 w21 =>
        zjn1 (fun (w23 : zW) =>
          some ((0 : Int32), w23))
        (fun (j150 : zW → Option (Int32 × zW)) =>
        if v22 = (0 : Int32) then
          j150 w21
        else
        zbd2 (f_X2_readStop w21) fun v26 w25 =>
        if v26 = (0 : Int32) then
          j150 w25
        else
        some ((1 : Int32), w25))
      else
      if v1 = (3 : Int32) then
        zbd2 (f_X2_readBottle w3) fun v30 w29 =>
        zjn1 (fun (w31 : zW) =>
          some ((0 : Int32), w31))
        (fun (j170 : zW → Option (Int32 × zW)) =>
        if v30 = (0 : Int32) then
          j170 w29
        else
        zbd2 (f_X2_readStop w29) fun v34 w33 =>
        if v34 = (0 : Int32) then
          j170 w33
        else
        some ((1 : Int32), w33))
      else
      if v1 = (4 : Int32) then
        zbd2 (f_X2_readGoal w3) fun v38 w37 =>
        zjn1 (fun (w39 : zW) =>
          some ((0 : Int32), w39))
        (fun (j190 : zW → Option (Int32 × zW)) =>
        if v38 = (0 : Int32) then
          j190 w37
        else
        zbd2 (f_X2_readStop w37) fun v42 w41 =>
        if v42 = (0 : Int32) then
          j190 w41
        else
        some ((1 : Int32), w41))
      else
      if v1 = (5 : Int32) then
        zbd2 (f_X2_readPlan w3) fun v46 w45 =>
        zjn1 (fun (w47 : zW) =>
          some ((0 : Int32), w47))
        (fun (j210 : zW → Option (Int32 × zW)) =>
        if v46 = (0 : Int32) then
          j210 w45
        else
        zbd2 (f_X2_readStop w45) fun v50 w49 =>
        if v50 = (0 : Int32) then
          j210 w49
        else
        some ((1 : Int32), w49))
      else
      if v1 = (6 : Int32) then
        zbd2 (f_X2_readDew w3) fun v54 w53 =>
        zjn1 (fun (w55 : zW) =>
          some ((0 : Int32), w55))
        (fun (j230 : zW → Option (Int32 × zW)) =>
        if v54 = (0 : Int32) then
          j230 w53
        else
        zbd2 (f_X2_readStop w53) fun v58 w57 =>
        if v58 = (0 : Int32) then
          j230 w57
        else
        some ((1 : Int32), w57))
      else
      if v1 = (7 : Int32) then
        zbd2 (f_X2_readFound w3) fun v62 w61 =>
        zjn1 (fun (w63 : zW) =>
          some ((0 : Int32), w63))
        (fun (j250 : zW → Option (Int32 × zW)) =>
        if v62 = (0 : Int32) then
          j250 w61
        else
        zbd2 (f_X2_readStop w61) fun v66 w65 =>
        if v66 = (0 : Int32) then
          j250 w65
        else
        some ((1 : Int32), w65))
      else
      zbd2 (f_X2_fail w3 (2 : Int32) (w3 42 4)) fun v69 w68 =>
      zg (zbo v69) <|
      some (v69, w68))
    (fun (j44 : zW → Option (Int32 × zW)) =>
    if v1 < (3 : Int32) then
      j44 w
    else
    zlet (zup w 42 7 ((w 42 7) ||| ((1 : Int32) <<< (v1 &&& 31)))) fun w72 =>
    j44 w72)
set_option maxRecDepth 100000 in
set_option maxHeartbeats 4000000 in
theorem c_X2_readLine (l : Launch) (G : zG) (w : zW) {r : Int32} {wz : zW} (hf : f_X2_readLine w = some (r, wz)) : zMet l G yX2_readLine cX2_readLine 2 (some .boolean) rm_X2_readLine [.ref (zad G 42)] w (some (.int r)) wz := by
  refine z_start (own := RX2) (by decide) rfl (Nat.le_of_ble_eq_true rfl) (lv := [(0, .ref (zad G 42))]) rfl ?_
  intro p e s m args below meth c hC
  unfold f_X2_readLine at hf
  refine z_aload_n hC dX2_readLine_0 0 rfl rfl ?_
  obtain ⟨v1, ev1, hf⟩ := zbd_e hf
  refine z_cvi (As := []) (rest := []) hC zo_read rfl (c_X2_lineByName l G w ev1) zw_ml_X2_99 zy_X2_lineByName ⟨rfl, rfl, Nat.le_of_ble_eq_true rfl, Nat.le_of_ble_eq_true rfl⟩ rfl rfl (Nat.le_of_ble_eq_true rfl) dX2_readLine_1 ?_
  refine z_istore_n (lv' := [(1, .int v1), (0, .ref (zad G 42))]) hC dX2_readLine_4 rfl (by decide) rfl ?_
  refine z_aload_n hC dX2_readLine_5 1 rfl rfl ?_
  refine z_get2 hC 7 (by decide) zw_fl_X2_27 (v := .int (w 42 7)) rfl dX2_readLine_6 ?_
  refine z_iload_n hC dX2_readLine_9 0 rfl rfl ?_
  refine z_ishr hC dX2_readLine_10 ?_
  refine z_iconst hC dX2_readLine_11 (v := 1) rfl ?_
  refine z_iand hC dX2_readLine_12 ?_
  refine z_iconst hC dX2_readLine_13 (v := 1) rfl ?_
  refine z_icmp_ne (tgt := 27) hC dX2_readLine_14 (by decide) (fun h2 => ?_) (fun h2 => ?_)
  · replace hf := zif_f h2 hf
    refine z_iload_n hC dX2_readLine_27 0 rfl rfl ?_
    refine z_iconst hC dX2_readLine_28 (v := 3) rfl ?_
    obtain ⟨j44, hj44, hf⟩ := zjn1_e hf
    have hJ44 : ∀ (w3 : zW), j44 w3 = some (r, wz) → Z G p l e rm_X2_readLine s m args below meth c (MQ below (zQ G (some (.int r)) wz) args s 0 0 (zA G)) 2 44 [(0, .ref (zad G 42)), (1, .int v1)] [] w3 := by
      intro w3 hf
      replace hf := hj44 w3 hf
      refine z_iload_n hC dX2_readLine_44 1 rfl rfl ?_
      by_cases h4 : v1 = (0 : Int32)
      · replace hf := zif_t h4 hf
        refine z_tabIn (tgt := 92) hC dX2_readLine_45 (by rw [h4]; decide) (by rw [h4]; decide) (by rw [h4]; rfl) (by decide) ?_
        refine z_aload_n hC dX2_readLine_92 0 rfl rfl ?_
        obtain ⟨v6, w5, ew5, hf⟩ := zbd2_e hf
        refine z_cvi (As := []) (rest := []) hC zo_read rfl (c_X2_readOne l G w3 ew5) zw_ml_X2_102 zy_X2_readOne ⟨rfl, rfl, Nat.le_of_ble_eq_true rfl, Nat.le_of_ble_eq_true rfl⟩ rfl rfl (Nat.le_of_ble_eq_true rfl) dX2_readLine_93 ?_
        obtain ⟨j110, hj110, hf⟩ := zjn1_e hf
        have hJ110 : ∀ (w7 : zW), j110 w7 = some (r, wz) → Z G p l e rm_X2_readLine s m args below meth c (MQ below (zQ G (some (.int r)) wz) args s 0 0 (zA G)) 2 110 [] [] w7 := by
          intro w7 hf
          replace hf := hj110 w7 hf
          refine z_iconst hC dX2_readLine_110 (v := 0) rfl ?_
          obtain ⟨rfl, rfl⟩ := zso2 hf
          exact z_zret hC rfl dX2_readLine_111
        refine z_if_eq (tgt := 110) hC dX2_readLine_96 (by decide) (fun h8 => ?_) (fun h8 => ?_)
        · replace hf := zif_t h8 hf
          refine z_lv [] rfl ?_
          exact hJ110 _ hf
        replace hf := zif_f h8 hf
        refine z_aload_n hC dX2_readLine_99 0 rfl rfl ?_
        obtain ⟨v10, w9, ew9, hf⟩ := zbd2_e hf
        refine z_cvi (As := []) (rest := []) hC zo_read rfl (c_X2_readStop l G w5 ew9) zw_ml_X2_105 zy_X2_readStop ⟨rfl, rfl, Nat.le_of_ble_eq_true rfl, Nat.le_of_ble_eq_true rfl⟩ rfl rfl (Nat.le_of_ble_eq_true rfl) dX2_readLine_100 ?_
        refine z_if_eq (tgt := 110) hC dX2_readLine_103 (by decide) (fun h11 => ?_) (fun h11 => ?_)
        · replace hf := zif_t h11 hf
          refine z_lv [] rfl ?_
          exact hJ110 _ hf
        replace hf := zif_f h11 hf
        refine z_iconst hC dX2_readLine_106 (v := 1) rfl ?_
        refine z_goto (tgt := 111) hC dX2_readLine_107 (by decide) ?_
        obtain ⟨rfl, rfl⟩ := zso2 hf
        exact z_zret hC rfl dX2_readLine_111
      replace hf := zif_f h4 hf
      by_cases h12 : v1 = (1 : Int32)
      · replace hf := zif_t h12 hf
        refine z_tabIn (tgt := 112) hC dX2_readLine_45 (by rw [h12]; decide) (by rw [h12]; decide) (by rw [h12]; rfl) (by decide) ?_
        refine z_aload_n hC dX2_readLine_112 0 rfl rfl ?_
        obtain ⟨v14, w13, ew13, hf⟩ := zbd2_e hf
        refine z_cvi (As := []) (rest := []) hC zo_read rfl (c_X2_readWell l G w3 ew13) zw_ml_X2_108 zy_X2_readWell ⟨rfl, rfl, Nat.le_of_ble_eq_true rfl, Nat.le_of_ble_eq_true rfl⟩ rfl rfl (Nat.le_of_ble_eq_true rfl) dX2_readLine_113 ?_
        obtain ⟨j130, hj130, hf⟩ := zjn1_e hf
        have hJ130 : ∀ (w15 : zW), j130 w15 = some (r, wz) → Z G p l e rm_X2_readLine s m args below meth c (MQ below (zQ G (some (.int r)) wz) args s 0 0 (zA G)) 2 130 [] [] w15 := by
          intro w15 hf
          replace hf := hj130 w15 hf
          refine z_iconst hC dX2_readLine_130 (v := 0) rfl ?_
          obtain ⟨rfl, rfl⟩ := zso2 hf
          exact z_zret hC rfl dX2_readLine_131
        refine z_if_eq (tgt := 130) hC dX2_readLine_116 (by decide) (fun h16 => ?_) (fun h16 => ?_)
        · replace hf := zif_t h16 hf
          refine z_lv [] rfl ?_
          exact hJ130 _ hf
        replace hf := zif_f h16 hf
        refine z_aload_n hC dX2_readLine_119 0 rfl rfl ?_
        obtain ⟨v18, w17, ew17, hf⟩ := zbd2_e hf
        refine z_cvi (As := []) (rest := []) hC zo_read rfl (c_X2_readStop l G w13 ew17) zw_ml_X2_105 zy_X2_readStop ⟨rfl, rfl, Nat.le_of_ble_eq_true rfl, Nat.le_of_ble_eq_true rfl⟩ rfl rfl (Nat.le_of_ble_eq_true rfl) dX2_readLine_120 ?_
        refine z_if_eq (tgt := 130) hC dX2_readLine_123 (by decide) (fun h19 => ?_) (fun h19 => ?_)
        · replace hf := zif_t h19 hf
          refine z_lv [] rfl ?_
          exact hJ130 _ hf
        replace hf := zif_f h19 hf
        refine z_iconst hC dX2_readLine_126 (v := 1) rfl ?_
        refine z_goto (tgt := 131) hC dX2_readLine_127 (by decide) ?_
        obtain ⟨rfl, rfl⟩ := zso2 hf
        exact z_zret hC rfl dX2_readLine_131
      replace hf := zif_f h12 hf
      by_cases h20 : v1 = (2 : Int32)
      · replace hf := zif_t h20 hf
        refine z_tabIn (tgt := 132) hC dX2_readLine_45 (by rw [h20]; decide) (by rw [h20]; decide) (by rw [h20]; rfl) (by decide) ?_
        refine z_aload_n hC dX2_readLine_132 0 rfl rfl ?_
        obtain ⟨v22, w21, ew21, hf⟩ := zbd2_e hf
        refine z_cvi (As := []) (rest := []) hC zo_read rfl (c_X2_readDry l G w3 ew21) zw_ml_X2_111 zy_X2_readDry ⟨rfl, rfl, Nat.le_of_ble_eq_true rfl, Nat.le_of_ble_eq_true rfl⟩ rfl rfl (Nat.le_of_ble_eq_true rfl) dX2_readLine_133 ?_
        obtain ⟨j150, hj150, hf⟩ := zjn1_e hf
        have hJ150 : ∀ (w23 : zW), j150 w23 = some (r, wz) → Z G p l e rm_X2_readLine s m args below meth c (MQ below (zQ G (some (.int r)) wz) args s 0 0 (zA G)) 2 150 [] [] w23 := by
          intro w23 hf
          replace hf := hj150 w23 hf
          refine z_iconst hC dX2_readLine_150 (v := 0) rfl ?_
          obtain ⟨rfl, rfl⟩ := zso2 hf
          exact z_zret hC rfl dX2_readLine_151
        refine z_if_eq (tgt := 150) hC dX2_readLine_136 (by decide) (fun h24 => ?_) (fun h24 => ?_)
        · replace hf := zif_t h24 hf
          refine z_lv [] rfl ?_
          exact hJ150 _ hf
        replace hf := zif_f h24 hf
        refine z_aload_n hC dX2_readLine_139 0 rfl rfl ?_
        obtain ⟨v26, w25, ew25, hf⟩ := zbd2_e hf
        refine z_cvi (As := []) (rest := []) hC zo_read rfl (c_X2_readStop l G w21 ew25) zw_ml_X2_105 zy_X2_readStop ⟨rfl, rfl, Nat.le_of_ble_eq_true rfl, Nat.le_of_ble_eq_true rfl⟩ rfl rfl (Nat.le_of_ble_eq_true rfl) dX2_readLine_140 ?_
        refine z_if_eq (tgt := 150) hC dX2_readLine_143 (by decide) (fun h27 => ?_) (fun h27 => ?_)
        · replace hf := zif_t h27 hf
          refine z_lv [] rfl ?_
          exact hJ150 _ hf
        replace hf := zif_f h27 hf
        refine z_iconst hC dX2_readLine_146 (v := 1) rfl ?_
        refine z_goto (tgt := 151) hC dX2_readLine_147 (by decide) ?_
        obtain ⟨rfl, rfl⟩ := zso2 hf
        exact z_zret hC rfl dX2_readLine_151
      replace hf := zif_f h20 hf
      by_cases h28 : v1 = (3 : Int32)
      · replace hf := zif_t h28 hf
        refine z_tabIn (tgt := 152) hC dX2_readLine_45 (by rw [h28]; decide) (by rw [h28]; decide) (by rw [h28]; rfl) (by decide) ?_
        refine z_aload_n hC dX2_readLine_152 0 rfl rfl ?_
        obtain ⟨v30, w29, ew29, hf⟩ := zbd2_e hf
        refine z_cvi (As := []) (rest := []) hC zo_read rfl (c_X2_readBottle l G w3 ew29) zw_ml_X2_114 zy_X2_readBottle ⟨rfl, rfl, Nat.le_of_ble_eq_true rfl, Nat.le_of_ble_eq_true rfl⟩ rfl rfl (Nat.le_of_ble_eq_true rfl) dX2_readLine_153 ?_
        obtain ⟨j170, hj170, hf⟩ := zjn1_e hf
        have hJ170 : ∀ (w31 : zW), j170 w31 = some (r, wz) → Z G p l e rm_X2_readLine s m args below meth c (MQ below (zQ G (some (.int r)) wz) args s 0 0 (zA G)) 2 170 [] [] w31 := by
          intro w31 hf
          replace hf := hj170 w31 hf
          refine z_iconst hC dX2_readLine_170 (v := 0) rfl ?_
          obtain ⟨rfl, rfl⟩ := zso2 hf
          exact z_zret hC rfl dX2_readLine_171
        refine z_if_eq (tgt := 170) hC dX2_readLine_156 (by decide) (fun h32 => ?_) (fun h32 => ?_)
        · replace hf := zif_t h32 hf
          refine z_lv [] rfl ?_
          exact hJ170 _ hf
        replace hf := zif_f h32 hf
        refine z_aload_n hC dX2_readLine_159 0 rfl rfl ?_
        obtain ⟨v34, w33, ew33, hf⟩ := zbd2_e hf
        refine z_cvi (As := []) (rest := []) hC zo_read rfl (c_X2_readStop l G w29 ew33) zw_ml_X2_105 zy_X2_readStop ⟨rfl, rfl, Nat.le_of_ble_eq_true rfl, Nat.le_of_ble_eq_true rfl⟩ rfl rfl (Nat.le_of_ble_eq_true rfl) dX2_readLine_160 ?_
        refine z_if_eq (tgt := 170) hC dX2_readLine_163 (by decide) (fun h35 => ?_) (fun h35 => ?_)
        · replace hf := zif_t h35 hf
          refine z_lv [] rfl ?_
          exact hJ170 _ hf
        replace hf := zif_f h35 hf
        refine z_iconst hC dX2_readLine_166 (v := 1) rfl ?_
        refine z_goto (tgt := 171) hC dX2_readLine_167 (by decide) ?_
        obtain ⟨rfl, rfl⟩ := zso2 hf
        exact z_zret hC rfl dX2_readLine_171
      replace hf := zif_f h28 hf
      by_cases h36 : v1 = (4 : Int32)
      · replace hf := zif_t h36 hf
        refine z_tabIn (tgt := 172) hC dX2_readLine_45 (by rw [h36]; decide) (by rw [h36]; decide) (by rw [h36]; rfl) (by decide) ?_
        refine z_aload_n hC dX2_readLine_172 0 rfl rfl ?_
        obtain ⟨v38, w37, ew37, hf⟩ := zbd2_e hf
        refine z_cvi (As := []) (rest := []) hC zo_read rfl (c_X2_readGoal l G w3 ew37) zw_ml_X2_117 zy_X2_readGoal ⟨rfl, rfl, Nat.le_of_ble_eq_true rfl, Nat.le_of_ble_eq_true rfl⟩ rfl rfl (Nat.le_of_ble_eq_true rfl) dX2_readLine_173 ?_
        obtain ⟨j190, hj190, hf⟩ := zjn1_e hf
        have hJ190 : ∀ (w39 : zW), j190 w39 = some (r, wz) → Z G p l e rm_X2_readLine s m args below meth c (MQ below (zQ G (some (.int r)) wz) args s 0 0 (zA G)) 2 190 [] [] w39 := by
          intro w39 hf
          replace hf := hj190 w39 hf
          refine z_iconst hC dX2_readLine_190 (v := 0) rfl ?_
          obtain ⟨rfl, rfl⟩ := zso2 hf
          exact z_zret hC rfl dX2_readLine_191
        refine z_if_eq (tgt := 190) hC dX2_readLine_176 (by decide) (fun h40 => ?_) (fun h40 => ?_)
        · replace hf := zif_t h40 hf
          refine z_lv [] rfl ?_
          exact hJ190 _ hf
        replace hf := zif_f h40 hf
        refine z_aload_n hC dX2_readLine_179 0 rfl rfl ?_
        obtain ⟨v42, w41, ew41, hf⟩ := zbd2_e hf
        refine z_cvi (As := []) (rest := []) hC zo_read rfl (c_X2_readStop l G w37 ew41) zw_ml_X2_105 zy_X2_readStop ⟨rfl, rfl, Nat.le_of_ble_eq_true rfl, Nat.le_of_ble_eq_true rfl⟩ rfl rfl (Nat.le_of_ble_eq_true rfl) dX2_readLine_180 ?_
        refine z_if_eq (tgt := 190) hC dX2_readLine_183 (by decide) (fun h43 => ?_) (fun h43 => ?_)
        · replace hf := zif_t h43 hf
          refine z_lv [] rfl ?_
          exact hJ190 _ hf
        replace hf := zif_f h43 hf
        refine z_iconst hC dX2_readLine_186 (v := 1) rfl ?_
        refine z_goto (tgt := 191) hC dX2_readLine_187 (by decide) ?_
        obtain ⟨rfl, rfl⟩ := zso2 hf
        exact z_zret hC rfl dX2_readLine_191
      replace hf := zif_f h36 hf
      by_cases h44 : v1 = (5 : Int32)
      · replace hf := zif_t h44 hf
        refine z_tabIn (tgt := 192) hC dX2_readLine_45 (by rw [h44]; decide) (by rw [h44]; decide) (by rw [h44]; rfl) (by decide) ?_
        refine z_aload_n hC dX2_readLine_192 0 rfl rfl ?_
        obtain ⟨v46, w45, ew45, hf⟩ := zbd2_e hf
        refine z_cvi (As := []) (rest := []) hC zo_read rfl (c_X2_readPlan l G w3 ew45) zw_ml_X2_120 zy_X2_readPlan ⟨rfl, rfl, Nat.le_of_ble_eq_true rfl, Nat.le_of_ble_eq_true rfl⟩ rfl rfl (Nat.le_of_ble_eq_true rfl) dX2_readLine_193 ?_
        obtain ⟨j210, hj210, hf⟩ := zjn1_e hf
        have hJ210 : ∀ (w47 : zW), j210 w47 = some (r, wz) → Z G p l e rm_X2_readLine s m args below meth c (MQ below (zQ G (some (.int r)) wz) args s 0 0 (zA G)) 2 210 [] [] w47 := by
          intro w47 hf
          replace hf := hj210 w47 hf
          refine z_iconst hC dX2_readLine_210 (v := 0) rfl ?_
          obtain ⟨rfl, rfl⟩ := zso2 hf
          exact z_zret hC rfl dX2_readLine_211
        refine z_if_eq (tgt := 210) hC dX2_readLine_196 (by decide) (fun h48 => ?_) (fun h48 => ?_)
        · replace hf := zif_t h48 hf
          refine z_lv [] rfl ?_
          exact hJ210 _ hf
        replace hf := zif_f h48 hf
        refine z_aload_n hC dX2_readLine_199 0 rfl rfl ?_
        obtain ⟨v50, w49, ew49, hf⟩ := zbd2_e hf
        refine z_cvi (As := []) (rest := []) hC zo_read rfl (c_X2_readStop l G w45 ew49) zw_ml_X2_105 zy_X2_readStop ⟨rfl, rfl, Nat.le_of_ble_eq_true rfl, Nat.le_of_ble_eq_true rfl⟩ rfl rfl (Nat.le_of_ble_eq_true rfl) dX2_readLine_200 ?_
        refine z_if_eq (tgt := 210) hC dX2_readLine_203 (by decide) (fun h51 => ?_) (fun h51 => ?_)
        · replace hf := zif_t h51 hf
          refine z_lv [] rfl ?_
          exact hJ210 _ hf
        replace hf := zif_f h51 hf
        refine z_iconst hC dX2_readLine_206 (v := 1) rfl ?_
        refine z_goto (tgt := 211) hC dX2_readLine_207 (by decide) ?_
        obtain ⟨rfl, rfl⟩ := zso2 hf
        exact z_zret hC rfl dX2_readLine_211
      replace hf := zif_f h44 hf
      by_cases h52 : v1 = (6 : Int32)
      · replace hf := zif_t h52 hf
        refine z_tabIn (tgt := 212) hC dX2_readLine_45 (by rw [h52]; decide) (by rw [h52]; decide) (by rw [h52]; rfl) (by decide) ?_
        refine z_aload_n hC dX2_readLine_212 0 rfl rfl ?_
        obtain ⟨v54, w53, ew53, hf⟩ := zbd2_e hf
        refine z_cvi (As := []) (rest := []) hC zo_read rfl (c_X2_readDew l G w3 ew53) zw_ml_X2_123 zy_X2_readDew ⟨rfl, rfl, Nat.le_of_ble_eq_true rfl, Nat.le_of_ble_eq_true rfl⟩ rfl rfl (Nat.le_of_ble_eq_true rfl) dX2_readLine_213 ?_
        obtain ⟨j230, hj230, hf⟩ := zjn1_e hf
        have hJ230 : ∀ (w55 : zW), j230 w55 = some (r, wz) → Z G p l e rm_X2_readLine s m args below meth c (MQ below (zQ G (some (.int r)) wz) args s 0 0 (zA G)) 2 230 [] [] w55 := by
          intro w55 hf
          replace hf := hj230 w55 hf
          refine z_iconst hC dX2_readLine_230 (v := 0) rfl ?_
          obtain ⟨rfl, rfl⟩ := zso2 hf
          exact z_zret hC rfl dX2_readLine_231
        refine z_if_eq (tgt := 230) hC dX2_readLine_216 (by decide) (fun h56 => ?_) (fun h56 => ?_)
        · replace hf := zif_t h56 hf
          refine z_lv [] rfl ?_
          exact hJ230 _ hf
        replace hf := zif_f h56 hf
        refine z_aload_n hC dX2_readLine_219 0 rfl rfl ?_
        obtain ⟨v58, w57, ew57, hf⟩ := zbd2_e hf
        refine z_cvi (As := []) (rest := []) hC zo_read rfl (c_X2_readStop l G w53 ew57) zw_ml_X2_105 zy_X2_readStop ⟨rfl, rfl, Nat.le_of_ble_eq_true rfl, Nat.le_of_ble_eq_true rfl⟩ rfl rfl (Nat.le_of_ble_eq_true rfl) dX2_readLine_220 ?_
        refine z_if_eq (tgt := 230) hC dX2_readLine_223 (by decide) (fun h59 => ?_) (fun h59 => ?_)
        · replace hf := zif_t h59 hf
          refine z_lv [] rfl ?_
          exact hJ230 _ hf
        replace hf := zif_f h59 hf
        refine z_iconst hC dX2_readLine_226 (v := 1) rfl ?_
        refine z_goto (tgt := 231) hC dX2_readLine_227 (by decide) ?_
        obtain ⟨rfl, rfl⟩ := zso2 hf
        exact z_zret hC rfl dX2_readLine_231
      replace hf := zif_f h52 hf
      by_cases h60 : v1 = (7 : Int32)
      · replace hf := zif_t h60 hf
        refine z_tabIn (tgt := 232) hC dX2_readLine_45 (by rw [h60]; decide) (by rw [h60]; decide) (by rw [h60]; rfl) (by decide) ?_
        refine z_aload_n hC dX2_readLine_232 0 rfl rfl ?_
        obtain ⟨v62, w61, ew61, hf⟩ := zbd2_e hf
        refine z_cvi (As := []) (rest := []) hC zo_read rfl (c_X2_readFound l G w3 ew61) zw_ml_X2_126 zy_X2_readFound ⟨rfl, rfl, Nat.le_of_ble_eq_true rfl, Nat.le_of_ble_eq_true rfl⟩ rfl rfl (Nat.le_of_ble_eq_true rfl) dX2_readLine_233 ?_
        obtain ⟨j250, hj250, hf⟩ := zjn1_e hf
        have hJ250 : ∀ (w63 : zW), j250 w63 = some (r, wz) → Z G p l e rm_X2_readLine s m args below meth c (MQ below (zQ G (some (.int r)) wz) args s 0 0 (zA G)) 2 250 [] [] w63 := by
          intro w63 hf
          replace hf := hj250 w63 hf
          refine z_iconst hC dX2_readLine_250 (v := 0) rfl ?_
          obtain ⟨rfl, rfl⟩ := zso2 hf
          exact z_zret hC rfl dX2_readLine_251
        refine z_if_eq (tgt := 250) hC dX2_readLine_236 (by decide) (fun h64 => ?_) (fun h64 => ?_)
        · replace hf := zif_t h64 hf
          refine z_lv [] rfl ?_
          exact hJ250 _ hf
        replace hf := zif_f h64 hf
        refine z_aload_n hC dX2_readLine_239 0 rfl rfl ?_
        obtain ⟨v66, w65, ew65, hf⟩ := zbd2_e hf
        refine z_cvi (As := []) (rest := []) hC zo_read rfl (c_X2_readStop l G w61 ew65) zw_ml_X2_105 zy_X2_readStop ⟨rfl, rfl, Nat.le_of_ble_eq_true rfl, Nat.le_of_ble_eq_true rfl⟩ rfl rfl (Nat.le_of_ble_eq_true rfl) dX2_readLine_240 ?_
        refine z_if_eq (tgt := 250) hC dX2_readLine_243 (by decide) (fun h67 => ?_) (fun h67 => ?_)
        · replace hf := zif_t h67 hf
          refine z_lv [] rfl ?_
          exact hJ250 _ hf
        replace hf := zif_f h67 hf
        refine z_iconst hC dX2_readLine_246 (v := 1) rfl ?_
        refine z_goto (tgt := 251) hC dX2_readLine_247 (by decide) ?_
        obtain ⟨rfl, rfl⟩ := zso2 hf
        exact z_zret hC rfl dX2_readLine_251
      replace hf := zif_f h60 hf
      have nh4 := znt (k := 0) (by decide) h4
      have nh12 := znt (k := 1) (by decide) h12
      have nh20 := znt (k := 2) (by decide) h20
      have nh28 := znt (k := 3) (by decide) h28
      have nh36 := znt (k := 4) (by decide) h36
      have nh44 := znt (k := 5) (by decide) h44
      have nh52 := znt (k := 6) (by decide) h52
      have nh60 := znt (k := 7) (by decide) h60
      refine z_tabOut (tgt := 252) hC dX2_readLine_45 (by omega) (by decide) ?_
      refine z_aload_n hC dX2_readLine_252 0 rfl rfl ?_
      refine z_iconst hC dX2_readLine_253 (v := 2) rfl ?_
      refine z_aload_n hC dX2_readLine_254 0 rfl rfl ?_
      refine z_get2 hC 4 (by decide) zw_fl_X2_18 (v := .int (w3 42 4)) rfl dX2_readLine_255 ?_
      obtain ⟨v69, w68, ew68, hf⟩ := zbd2_e hf
      refine z_cvi (As := [.int (2 : Int32), .int (w3 42 4)]) (rest := []) hC zo_read rfl (c_X2_fail l G w3 (2 : Int32) (w3 42 4) ew68) zw_ml_X2_74 zy_X2_fail ⟨rfl, rfl, Nat.le_of_ble_eq_true rfl, Nat.le_of_ble_eq_true rfl⟩ rfl rfl (Nat.le_of_ble_eq_true rfl) dX2_readLine_258 ?_
      obtain ⟨hg70, hf⟩ := zg_e hf
      obtain ⟨rfl, rfl⟩ := zso2 hf
      exact z_zret hC (zbo_n hg70) dX2_readLine_261
    refine z_icmp_lt (tgt := 44) hC dX2_readLine_29 (by decide) (fun h71 => ?_) (fun h71 => ?_)
    · replace hf := zif_t h71 hf
      refine z_lv [1, 0] rfl ?_
      exact hJ44 _ hf
    replace hf := zif_f h71 hf
    refine z_aload_n hC dX2_readLine_32 1 rfl rfl ?_
    refine z_dup hC dX2_readLine_33 rfl ?_
    refine z_get2 hC 7 (by decide) zw_fl_X2_27 (v := .int (w 42 7)) rfl dX2_readLine_34 ?_
    refine z_iconst hC dX2_readLine_37 (v := 1) rfl ?_
    refine z_iload_n hC dX2_readLine_38 0 rfl rfl ?_
    refine z_ishl hC dX2_readLine_39 ?_
    refine z_ior hC dX2_readLine_40 ?_
    obtain ⟨w72, ew72, hf⟩ := zlet_e hf
    refine z_put2 hC 7 (by decide) rfl rfl zw_fl_X2_27 rfl ew72 dX2_readLine_41 ?_
    refine z_lv [1, 0] rfl ?_
    exact hJ44 _ hf
  replace hf := zif_t h2 hf
  refine z_aload_n hC dX2_readLine_17 1 rfl rfl ?_
  refine z_iconst hC dX2_readLine_18 (v := 4) rfl ?_
  refine z_aload_n hC dX2_readLine_19 1 rfl rfl ?_
  refine z_get2 hC 4 (by decide) zw_fl_X2_18 (v := .int (w 42 4)) rfl dX2_readLine_20 ?_
  obtain ⟨v74, w73, ew73, hf⟩ := zbd2_e hf
  refine z_cvi (As := [.int (4 : Int32), .int (w 42 4)]) (rest := []) hC zo_read rfl (c_X2_fail l G w (4 : Int32) (w 42 4) ew73) zw_ml_X2_74 zy_X2_fail ⟨rfl, rfl, Nat.le_of_ble_eq_true rfl, Nat.le_of_ble_eq_true rfl⟩ rfl rfl (Nat.le_of_ble_eq_true rfl) dX2_readLine_23 ?_
  obtain ⟨hg75, hf⟩ := zg_e hf
  obtain ⟨rfl, rfl⟩ := zso2 hf
  exact z_zret hC (zbo_n hg75) dX2_readLine_26
theorem zy_X2_readLine : zYV yX2_readLine cX2_readLine 2 (some .boolean) RX2 0 := ⟨zw_cd_X2_readLine, zw_im_X2_readLine, zw_sel_X2_readLine, zw_ini_X2, by decide +kernel⟩
abbrev rm_X2_readAll : Room := { frames := 8, cells := 0, slots := 0, locals := 170 }
def b_X2_readAll_52 (j99 : zW → Option zW) (j80 : zW → Option zW) (k52 : Int32 → zW → Option zW) (v13 : Int32) (w14 : zW) : Option zW :=
  if (160 : Int32) < v13 then
    j99 w14
  else
  zbd2 (f_X2_nextToken w14) fun v17 w16 =>
  if v17 = (0 : Int32) then
    j99 w16
  else
  if (w16 42 3) = (0 : Int32) then
    j99 w16
  else
  zbd2 (f_X2_readLine w16) fun v21 w20 =>
  if v21 = (0 : Int32) then
    j80 w20
  else
    zlet (zup w20 42 9 ((w20 42 9) + (1 : Int32))) fun w23 =>
    zlet (v13 + (1 : Int32)) fun v24 =>
    k52 v24 w23
def f_X2_readAll (w : zW) (a1 : Int32) : Option zW :=
  zlet (zup w 42 2 (zmin a1 (160 : Int32))) fun w1 =>
  zbd (f_X0_clear w1 10) fun w2 =>
  zlet (zup w2 42 5 (0 : Int32)) fun w3 =>
  zlet (zup w3 42 7 (0 : Int32)) fun w4 =>
  zlet (zup w4 42 8 (0 : Int32)) fun w5 =>
  zlet (zup w5 42 9 (0 : Int32)) fun w6 =>
  zlet (zup w6 42 10 (0 : Int32)) fun w7 =>
  zlet (zup w7 42 11 (0 : Int32)) fun w8 =>
  zjn1 (fun (w9 : zW) =>
    if (w9 42 10) = (0 : Int32) then
      zbd (f_X2_dryUpWells w9) fun w11 =>
      some w11
    else
      some w9)
  (fun (j99 : zW → Option zW) =>
  zjn1 (fun (w12 : zW) =>
    j99 w12)
  (fun (j80 : zW → Option zW) =>
  zfix2 (b_X2_readAll_52 j99 j80) 100000 (0 : Int32) w8))
set_option maxRecDepth 100000 in
set_option maxHeartbeats 4000000 in
theorem c_X2_readAll (l : Launch) (G : zG) (w : zW) (a1 : Int32) {wz : zW} (hf : f_X2_readAll w a1 = some wz) : zMet l G yX2_readAll cX2_readAll 3 none rm_X2_readAll [.ref (zad G 42), .int a1] w none wz := by
  refine z_start (own := RX2) (by decide) rfl (Nat.le_of_ble_eq_true rfl) (lv := [(0, .ref (zad G 42)), (1, .int a1)]) rfl ?_
  intro p e s m args below meth c hC
  unfold f_X2_readAll at hf
  refine z_aload_n hC dX2_readAll_0 0 rfl rfl ?_
  refine z_iload_n hC dX2_readAll_1 1 rfl rfl ?_
  refine z_aload_n hC dX2_readAll_2 0 rfl rfl ?_
  refine z_get2 hC 0 (by decide) zw_fl_X2_42 (v := .ref (zad G 1)) rfl dX2_readAll_3 ?_
  refine z_alen hC za_1 (v := 160) rfl rfl dX2_readAll_6 ?_
  refine z_min hC zw_ml_X2_50 (Nat.le_of_ble_eq_true rfl) (Nat.le_of_ble_eq_true rfl) dX2_readAll_7 ?_
  obtain ⟨w1, ew1, hf⟩ := zlet_e hf
  refine z_put2 hC 2 (by decide) rfl rfl zw_fl_X2_9 rfl ew1 dX2_readAll_10 ?_
  refine z_aload_n hC dX2_readAll_13 0 rfl rfl ?_
  refine z_get2 hC 1 (by decide) zw_fl_X2_46 (v := .ref (zad G 10)) rfl dX2_readAll_14 ?_
  obtain ⟨w2, ew2, hf⟩ := zbd_e hf
  refine z_cvv (As := []) (rest := []) hC (zo_camp zcamp10) rfl (c_X0_clear l G w1 10 zcamp10 ew2) zw_ml_X2_56 zy_X0_clear ⟨rfl, rfl, Nat.le_of_ble_eq_true rfl, Nat.le_of_ble_eq_true rfl⟩ rfl rfl (Nat.le_of_ble_eq_true rfl) dX2_readAll_17 ?_
  refine z_aload_n hC dX2_readAll_20 0 rfl rfl ?_
  refine z_iconst hC dX2_readAll_21 (v := 0) rfl ?_
  obtain ⟨w3, ew3, hf⟩ := zlet_e hf
  refine z_put2 hC 5 (by decide) rfl rfl zw_fl_X2_21 rfl ew3 dX2_readAll_22 ?_
  refine z_aload_n hC dX2_readAll_25 0 rfl rfl ?_
  refine z_iconst hC dX2_readAll_26 (v := 0) rfl ?_
  obtain ⟨w4, ew4, hf⟩ := zlet_e hf
  refine z_put2 hC 7 (by decide) rfl rfl zw_fl_X2_27 rfl ew4 dX2_readAll_27 ?_
  refine z_aload_n hC dX2_readAll_30 0 rfl rfl ?_
  refine z_iconst hC dX2_readAll_31 (v := 0) rfl ?_
  obtain ⟨w5, ew5, hf⟩ := zlet_e hf
  refine z_put2 hC 8 (by decide) rfl rfl zw_fl_X2_30 rfl ew5 dX2_readAll_32 ?_
  refine z_aload_n hC dX2_readAll_35 0 rfl rfl ?_
  refine z_iconst hC dX2_readAll_36 (v := 0) rfl ?_
  obtain ⟨w6, ew6, hf⟩ := zlet_e hf
  refine z_put2 hC 9 (by decide) rfl rfl zw_fl_X2_33 rfl ew6 dX2_readAll_37 ?_
  refine z_aload_n hC dX2_readAll_40 0 rfl rfl ?_
  refine z_iconst hC dX2_readAll_41 (v := 0) rfl ?_
  obtain ⟨w7, ew7, hf⟩ := zlet_e hf
  refine z_put2 hC 10 (by decide) rfl rfl zw_fl_X2_36 rfl ew7 dX2_readAll_42 ?_
  refine z_aload_n hC dX2_readAll_45 0 rfl rfl ?_
  refine z_iconst hC dX2_readAll_46 (v := 0) rfl ?_
  obtain ⟨w8, ew8, hf⟩ := zlet_e hf
  refine z_put2 hC 11 (by decide) rfl rfl zw_fl_X2_39 rfl ew8 dX2_readAll_47 ?_
  refine z_iconst hC dX2_readAll_50 (v := 0) rfl ?_
  refine z_istore_n (lv' := [(2, .int (0 : Int32)), (0, .ref (zad G 42)), (1, .int a1)]) hC dX2_readAll_51 rfl (by decide) rfl ?_
  obtain ⟨j99, hj99, hf⟩ := zjn1_e hf
  have hJ99 : ∀ (w9 : zW), j99 w9 = some wz → Z G p l e rm_X2_readAll s m args below meth c (MQ below (zQ G none wz) args s 0 0 (zA G)) 3 99 [(0, .ref (zad G 42))] [] w9 := by
    intro w9 hf
    replace hf := hj99 w9 hf
    refine z_aload_n hC dX2_readAll_99 0 rfl rfl ?_
    refine z_get2 hC 10 (by decide) zw_fl_X2_36 (v := .int (w9 42 10)) rfl dX2_readAll_100 ?_
    refine z_if_ne (tgt := 110) hC dX2_readAll_103 (by decide) (fun h10 => ?_) (fun h10 => ?_)
    · replace hf := zif_f h10 hf
      obtain rfl := zso1 hf
      exact z_vret hC dX2_readAll_110
    replace hf := zif_t h10 hf
    refine z_aload_n hC dX2_readAll_106 0 rfl rfl ?_
    obtain ⟨w11, ew11, hf⟩ := zbd_e hf
    refine z_cvv (As := []) (rest := []) hC zo_read rfl (c_X2_dryUpWells l G w9 ew11) zw_ml_X2_68 zy_X2_dryUpWells ⟨rfl, rfl, Nat.le_of_ble_eq_true rfl, Nat.le_of_ble_eq_true rfl⟩ rfl rfl (Nat.le_of_ble_eq_true rfl) dX2_readAll_107 ?_
    obtain rfl := zso1 hf
    exact z_vret hC dX2_readAll_110
  obtain ⟨j80, hj80, hf⟩ := zjn1_e hf
  have hJ80 : ∀ (w12 : zW), j80 w12 = some wz → Z G p l e rm_X2_readAll s m args below meth c (MQ below (zQ G none wz) args s 0 0 (zA G)) 3 80 [(0, .ref (zad G 42))] [] w12 := by
    intro w12 hf
    replace hf := hj80 w12 hf
    refine z_goto (tgt := 99) hC dX2_readAll_80 (by decide) ?_
    exact hJ99 _ hf
  have hL52 : ∀ (n : Nat) (v13 : Int32) (w14 : zW), zfix2 (b_X2_readAll_52 j99 j80) n v13 w14 = some wz → Z G p l e rm_X2_readAll s m args below meth c (MQ below (zQ G none wz) args s 0 0 (zA G)) 3 52 [(0, .ref (zad G 42)), (2, .int v13)] [] w14 := by
    intro n
    induction n with
    | zero => intro v13 w14 hf; exact (zfix2_0 hf).elim
    | succ n ih52 =>
      intro v13 w14 hf
      replace hf := zfix2_e hf
      unfold b_X2_readAll_52 at hf
      refine z_iload_n hC dX2_readAll_52 1 rfl rfl ?_
      refine z_sipush hC dX2_readAll_53 (v := 160) rfl ?_
      refine z_icmp_gt (tgt := 99) hC dX2_readAll_56 (by decide) (fun h15 => ?_) (fun h15 => ?_)
      · replace hf := zif_t h15 hf
        refine z_lv [0] rfl ?_
        exact hJ99 _ hf
      replace hf := zif_f h15 hf
      refine z_aload_n hC dX2_readAll_59 0 rfl rfl ?_
      obtain ⟨v17, w16, ew16, hf⟩ := zbd2_e hf
      refine z_cvi (As := []) (rest := []) hC zo_read rfl (c_X2_nextToken l G w14 ew16) zw_ml_X2_61 zy_X2_nextToken ⟨rfl, rfl, Nat.le_of_ble_eq_true rfl, Nat.le_of_ble_eq_true rfl⟩ rfl rfl (Nat.le_of_ble_eq_true rfl) dX2_readAll_60 ?_
      refine z_if_eq (tgt := 99) hC dX2_readAll_63 (by decide) (fun h18 => ?_) (fun h18 => ?_)
      · replace hf := zif_t h18 hf
        refine z_lv [0] rfl ?_
        exact hJ99 _ hf
      replace hf := zif_f h18 hf
      refine z_aload_n hC dX2_readAll_66 0 rfl rfl ?_
      refine z_get2 hC 3 (by decide) zw_fl_X2_15 (v := .int (w16 42 3)) rfl dX2_readAll_67 ?_
      refine z_if_eq (tgt := 99) hC dX2_readAll_70 (by decide) (fun h19 => ?_) (fun h19 => ?_)
      · replace hf := zif_t h19 hf
        refine z_lv [0] rfl ?_
        exact hJ99 _ hf
      replace hf := zif_f h19 hf
      refine z_aload_n hC dX2_readAll_73 0 rfl rfl ?_
      obtain ⟨v21, w20, ew20, hf⟩ := zbd2_e hf
      refine z_cvi (As := []) (rest := []) hC zo_read rfl (c_X2_readLine l G w16 ew20) zw_ml_X2_65 zy_X2_readLine ⟨rfl, rfl, Nat.le_of_ble_eq_true rfl, Nat.le_of_ble_eq_true rfl⟩ rfl rfl (Nat.le_of_ble_eq_true rfl) dX2_readAll_74 ?_
      refine z_if_ne (tgt := 83) hC dX2_readAll_77 (by decide) (fun h22 => ?_) (fun h22 => ?_)
      · replace hf := zif_f h22 hf
        refine z_aload_n hC dX2_readAll_83 0 rfl rfl ?_
        refine z_dup hC dX2_readAll_84 rfl ?_
        refine z_get2 hC 9 (by decide) zw_fl_X2_33 (v := .int (w20 42 9)) rfl dX2_readAll_85 ?_
        refine z_iconst hC dX2_readAll_88 (v := 1) rfl ?_
        refine z_iadd hC dX2_readAll_89 ?_
        obtain ⟨w23, ew23, hf⟩ := zlet_e hf
        refine z_put2 hC 9 (by decide) rfl rfl zw_fl_X2_33 rfl ew23 dX2_readAll_90 ?_
        obtain ⟨v24, ev24, hf⟩ := zlet_e hf
        refine z_iinc (v := v24) (lv' := [(2, .int v24), (0, .ref (zad G 42))]) hC dX2_readAll_93 1 rfl (by rw [ev24]; rfl) (by decide) rfl ?_
        refine z_goto (tgt := 52) hC dX2_readAll_96 (by decide) ?_
        refine z_lv [1, 0] rfl ?_
        exact ih52 _ _ hf
      replace hf := zif_t h22 hf
      refine z_lv [0] rfl ?_
      exact hJ80 _ hf
  refine z_lv [1, 0] rfl ?_
  exact hL52 _ _ _ hf
theorem zy_X2_readAll : zYV yX2_readAll cX2_readAll 3 none RX2 1 := ⟨zw_cd_X2_readAll, zw_im_X2_readAll, zw_sel_X2_readAll, zw_ini_X2, by decide +kernel⟩
