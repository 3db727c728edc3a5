abbrev rm_X3_go : Room := { frames := 5, cells := 0, slots := 0, locals := 114 }
def f_X3_go (w : zW) (a1 : Int32) : Option (Int32 × zW) :=
  if (f_X3_within a1 (0 : Int32) (60 : Int32)) = (0 : Int32) then
    some ((-1 : Int32), w)
  else
    if ((w 2 12) + a1) < (1000 : Int32) then
      zbd (f_X0_passHours w 2 a1 (w 2 13)) fun w3 =>
      zbd (f_X0_standing w3 2) fun v4 =>
      some (v4, w3)
    else
    some ((-3 : Int32), w)
set_option maxRecDepth 100000 in
set_option maxHeartbeats 4000000 in
theorem c_X3_go (l : Launch) (G : zG) (w : zW) (a1 : Int32) {r : Int32} {wz : zW} (hf : f_X3_go w a1 = some (r, wz)) : zMet l G yX3_go cX3_go 2 (some .int) rm_X3_go [.ref (zad G 0), .int a1] w (some (.int r)) wz := by
  refine z_start (own := RX3) (by decide) rfl (Nat.le_of_ble_eq_true rfl) (lv := [(0, .ref (zad G 0)), (1, .int a1)]) rfl ?_
  intro p e s m args below meth c hC
  unfold f_X3_go at hf
  refine z_iload_n hC dX3_go_0 1 rfl rfl ?_
  refine z_iconst hC dX3_go_1 (v := 0) rfl ?_
  refine z_bipush hC dX3_go_2 (v := 60) rfl ?_
  refine z_csi (As := [.int a1, .int (0 : Int32), .int (60 : Int32)]) (rest := []) hC (c_X3_within l G w a1 (0 : Int32) (60 : Int32)) zw_ml_X3_70 zy_X3_within ⟨rfl, rfl, Nat.le_of_ble_eq_true rfl, Nat.le_of_ble_eq_true rfl⟩ rfl rfl (Nat.le_of_ble_eq_true rfl) dX3_go_4 ?_
  refine z_if_ne (tgt := 12) hC dX3_go_7 (by decide) (fun h1 => ?_) (fun h1 => ?_)
  · replace hf := zif_f h1 hf
    refine z_aload_n hC dX3_go_12 0 rfl rfl ?_
    refine z_get3 hC 3 (by decide) zw_fl_X3_23 (v := .ref (zad G 2)) rfl dX3_go_13 ?_
    refine z_get0 hC zcamp2 12 (by decide) zw_fl_X3_103 (v := .int (w 2 12)) rfl dX3_go_16 ?_
    refine z_iload_n hC dX3_go_19 1 rfl rfl ?_
    refine z_iadd hC dX3_go_20 ?_
    refine z_sipush hC dX3_go_21 (v := 1000) rfl ?_
    refine z_icmp_lt (tgt := 30) hC dX3_go_24 (by decide) (fun h2 => ?_) (fun h2 => ?_)
    · replace hf := zif_t h2 hf
      refine z_aload_n hC dX3_go_30 0 rfl rfl ?_
      refine z_get3 hC 3 (by decide) zw_fl_X3_23 (v := .ref (zad G 2)) rfl dX3_go_31 ?_
      refine z_iload_n hC dX3_go_34 1 rfl rfl ?_
      refine z_aload_n hC dX3_go_35 0 rfl rfl ?_
      refine z_get3 hC 3 (by decide) zw_fl_X3_23 (v := .ref (zad G 2)) rfl dX3_go_36 ?_
      refine z_get0 hC zcamp2 13 (by decide) zw_fl_X3_109 (v := .int (w 2 13)) rfl dX3_go_39 ?_
      obtain ⟨w3, ew3, hf⟩ := zbd_e hf
      refine z_cvv (As := [.int a1, .int (w 2 13)]) (rest := []) hC (zo_camp zcamp2) rfl (c_X0_passHours l G w 2 zcamp2 a1 (w 2 13) ew3) zw_ml_X3_172 zy_X0_passHours ⟨rfl, rfl, Nat.le_of_ble_eq_true rfl, Nat.le_of_ble_eq_true rfl⟩ rfl rfl (Nat.le_of_ble_eq_true rfl) dX3_go_42 ?_
      refine z_aload_n hC dX3_go_45 0 rfl rfl ?_
      refine z_get3 hC 3 (by decide) zw_fl_X3_23 (v := .ref (zad G 2)) rfl dX3_go_46 ?_
      obtain ⟨v4, ev4, hf⟩ := zbd_e hf
      refine z_cvi (As := []) (rest := []) hC (zo_camp zcamp2) rfl (c_X0_standing l G w3 2 zcamp2 ev4) zw_ml_X3_176 zy_X0_standing ⟨rfl, rfl, Nat.le_of_ble_eq_true rfl, Nat.le_of_ble_eq_true rfl⟩ rfl rfl (Nat.le_of_ble_eq_true rfl) dX3_go_49 ?_
      obtain ⟨rfl, rfl⟩ := zso2 hf
      exact z_iret hC dX3_go_52
    replace hf := zif_f h2 hf
    refine z_bipush hC dX3_go_27 (v := -3) rfl ?_
    obtain ⟨rfl, rfl⟩ := zso2 hf
    exact z_iret hC dX3_go_29
  replace hf := zif_t h1 hf
  refine z_iconst hC dX3_go_10 (v := -1) rfl ?_
  obtain ⟨rfl, rfl⟩ := zso2 hf
  exact z_iret hC dX3_go_11
theorem zy_X3_go : zYV yX3_go cX3_go 2 (some .int) RX3 1 := ⟨zw_cd_X3_go, zw_im_X3_go, zw_sel_X3_go, zw_ini_X3, by decide +kernel⟩
abbrev rm_X3_isLane : Room := { frames := 1, cells := 0, slots := 0, locals := 22 }
def f_X3_isLane (a0 : Int32) : Int32 :=
  f_X3_within a0 (0 : Int32) (2 : Int32)
theorem zb_X3_isLane (a0 : Int32) : zbo (f_X3_isLane a0) = true := by
  unfold f_X3_isLane
  (try simp only [zjn0, zjn1, zlet])
  (try repeat' split) <;> first | (with_reducible exact zb_X3_within _ _ _) | rfl
set_option maxRecDepth 100000 in
set_option maxHeartbeats 4000000 in
theorem c_X3_isLane (l : Launch) (G : zG) (w : zW) (a0 : Int32) : zMet l G yX3_isLane cX3_isLane 1 (some .boolean) rm_X3_isLane [.int a0] w (some (.int (f_X3_isLane a0))) w := by
  generalize hf : f_X3_isLane a0 = r
  refine z_start (own := RX3) (by decide) rfl (Nat.le_of_ble_eq_true rfl) (lv := [(0, .int a0)]) rfl ?_
  intro p e s m args below meth c hC
  unfold f_X3_isLane at hf
  refine z_iload_n hC dX3_isLane_0 0 rfl rfl ?_
  refine z_iconst hC dX3_isLane_1 (v := 0) rfl ?_
  refine z_iconst hC dX3_isLane_2 (v := 2) rfl ?_
  refine z_csi (As := [.int a0, .int (0 : Int32), .int (2 : Int32)]) (rest := []) hC (c_X3_within l G w a0 (0 : Int32) (2 : Int32)) zw_ml_X3_70 zy_X3_within ⟨rfl, rfl, Nat.le_of_ble_eq_true rfl, Nat.le_of_ble_eq_true rfl⟩ rfl rfl (Nat.le_of_ble_eq_true rfl) dX3_isLane_3 ?_
  subst hf
  exact z_zret hC (zbo_n (zb_X3_within _ _ _)) dX3_isLane_6
theorem zy_X3_isLane : zYS yX3_isLane cX3_isLane 1 (some .boolean) 1 := ⟨zw_cd_X3_isLane, zw_st_X3_isLane, zw_ini_X3, by decide +kernel⟩
abbrev rm_X3_isSheet : Room := { frames := 1, cells := 0, slots := 0, locals := 22 }
def f_X3_isSheet (a0 : Int32) : Int32 :=
  f_X3_within a0 (0 : Int32) (3 : Int32)
theorem zb_X3_isSheet (a0 : Int32) : zbo (f_X3_isSheet a0) = true := by
  unfold f_X3_isSheet
  (try simp only [zjn0, zjn1, zlet])
  (try repeat' split) <;> first | (with_reducible exact zb_X3_within _ _ _) | rfl
set_option maxRecDepth 100000 in
set_option maxHeartbeats 4000000 in
theorem c_X3_isSheet (l : Launch) (G : zG) (w : zW) (a0 : Int32) : zMet l G yX3_isSheet cX3_isSheet 1 (some .boolean) rm_X3_isSheet [.int a0] w (some (.int (f_X3_isSheet a0))) w := by
  generalize hf : f_X3_isSheet a0 = r
  refine z_start (own := RX3) (by decide) rfl (Nat.le_of_ble_eq_true rfl) (lv := [(0, .int a0)]) rfl ?_
  intro p e s m args below meth c hC
  unfold f_X3_isSheet at hf
  refine z_iload_n hC dX3_isSheet_0 0 rfl rfl ?_
  refine z_iconst hC dX3_isSheet_1 (v := 0) rfl ?_
  refine z_iconst hC dX3_isSheet_2 (v := 3) rfl ?_
  refine z_csi (As := [.int a0, .int (0 : Int32), .int (3 : Int32)]) (rest := []) hC (c_X3_within l G w a0 (0 : Int32) (3 : Int32)) zw_ml_X3_70 zy_X3_within ⟨rfl, rfl, Nat.le_of_ble_eq_true rfl, Nat.le_of_ble_eq_true rfl⟩ rfl rfl (Nat.le_of_ble_eq_true rfl) dX3_isSheet_3 ?_
  subst hf
  exact z_zret hC (zbo_n (zb_X3_within _ _ _)) dX3_isSheet_6
theorem zy_X3_isSheet : zYS yX3_isSheet cX3_isSheet 1 (some .boolean) 1 := ⟨zw_cd_X3_isSheet, zw_st_X3_isSheet, zw_ini_X3, by decide +kernel⟩
abbrev rm_X3_isWell : Room := { frames := 1, cells := 0, slots := 0, locals := 22 }
def f_X3_isWell (w : zW) (a1 : Int32) : Int32 :=
  f_X3_within a1 (0 : Int32) ((w 2 4) - (1 : Int32))
theorem zb_X3_isWell (w : zW) (a1 : Int32) : zbo (f_X3_isWell w a1) = true := by
  unfold f_X3_isWell
  (try simp only [zjn0, zjn1, zlet])
  (try repeat' split) <;> first | (with_reducible exact zb_X3_within _ _ _) | rfl
set_option maxRecDepth 100000 in
set_option maxHeartbeats 4000000 in
theorem c_X3_isWell (l : Launch) (G : zG) (w : zW) (a1 : Int32) : zMet l G yX3_isWell cX3_isWell 2 (some .boolean) rm_X3_isWell [.ref (zad G 0), .int a1] w (some (.int (f_X3_isWell w a1))) w := by
  generalize hf : f_X3_isWell w a1 = r
  refine z_start (own := RX3) (by decide) rfl (Nat.le_of_ble_eq_true rfl) (lv := [(0, .ref (zad G 0)), (1, .int a1)]) rfl ?_
  intro p e s m args below meth c hC
  unfold f_X3_isWell at hf
  refine z_iload_n hC dX3_isWell_0 1 rfl rfl ?_
  refine z_iconst hC dX3_isWell_1 (v := 0) rfl ?_
  refine z_aload_n hC dX3_isWell_2 0 rfl rfl ?_
  refine z_get3 hC 3 (by decide) zw_fl_X3_23 (v := .ref (zad G 2)) rfl dX3_isWell_3 ?_
  refine z_get0 hC zcamp2 4 (by decide) zw_fl_X3_94 (v := .int (w 2 4)) rfl dX3_isWell_6 ?_
  refine z_iconst hC dX3_isWell_9 (v := 1) rfl ?_
  refine z_isub hC dX3_isWell_10 ?_
  refine z_csi (As := [.int a1, .int (0 : Int32), .int ((w 2 4) - (1 : Int32))]) (rest := []) hC (c_X3_within l G w a1 (0 : Int32) ((w 2 4) - (1 : Int32))) zw_ml_X3_70 zy_X3_within ⟨rfl, rfl, Nat.le_of_ble_eq_true rfl, Nat.le_of_ble_eq_true rfl⟩ rfl rfl (Nat.le_of_ble_eq_true rfl) dX3_isWell_11 ?_
  subst hf
  exact z_zret hC (zbo_n (zb_X3_within _ _ _)) dX3_isWell_14
theorem zy_X3_isWell : zYV yX3_isWell cX3_isWell 2 (some .boolean) RX3 1 := ⟨zw_cd_X3_isWell, zw_im_X3_isWell, zw_sel_X3_isWell, zw_ini_X3, by decide +kernel⟩
abbrev rm_X3_keep : Room := { frames := 2, cells := 0, slots := 0, locals := 42 }
def f_X3_keep (w : zW) (a1 : Int32) : Option (Int32 × zW) :=
  if (f_X3_isImage a1) = (0 : Int32) then
    some ((-1 : Int32), w)
  else
    zg (zin a1 2) <|
    zlet (w 44 (zx a1)) fun v3 =>
    zg (zin a1 2) <|
    zbd (f_X0_copyFrom w (26 + 8 * zx a1) 2) fun w5 =>
    zg (zin a1 2) <|
    zlet (zup w5 44 (zx a1) (vp_nar .boolean (1 : Int32))) fun w7 =>
    some (f_X3_asNumber v3, w7)
set_option maxRecDepth 100000 in
set_option maxHeartbeats 4000000 in
theorem c_X3_keep (l : Launch) (G : zG) (w : zW) (a1 : Int32) {r : Int32} {wz : zW} (hf : f_X3_keep w a1 = some (r, wz)) : zMet l G yX3_keep cX3_keep 3 (some .int) rm_X3_keep [.ref (zad G 0), .int a1] w (some (.int r)) wz := by
  refine z_start (own := RX3) (by decide) rfl (Nat.le_of_ble_eq_true rfl) (lv := [(0, .ref (zad G 0)), (1, .int a1)]) rfl ?_
  intro p e s m args below meth c hC
  unfold f_X3_keep at hf
  refine z_iload_n hC dX3_keep_0 1 rfl rfl ?_
  refine z_csi (As := [.int a1]) (rest := []) hC (c_X3_isImage l G w a1) zw_ml_X3_224 zy_X3_isImage ⟨rfl, rfl, Nat.le_of_ble_eq_true rfl, Nat.le_of_ble_eq_true rfl⟩ rfl rfl (Nat.le_of_ble_eq_true rfl) dX3_keep_1 ?_
  refine z_if_ne (tgt := 9) hC dX3_keep_4 (by decide) (fun h1 => ?_) (fun h1 => ?_)
  · replace hf := zif_f h1 hf
    refine z_aload_n hC dX3_keep_9 0 rfl rfl ?_
    refine z_get3 hC 8 (by decide) zw_fl_X3_46 (v := .ref (zad G 44)) rfl dX3_keep_10 ?_
    refine z_iload_n hC dX3_keep_13 1 rfl rfl ?_
    obtain ⟨hg2, hf⟩ := zg_e hf
    refine z_zald hC za_44 hg2 rfl dX3_keep_14 ?_
    obtain ⟨v3, ev3, hf⟩ := zlet_e hf
    refine z_topi ev3 ?_
    refine z_istore_n (lv' := [(2, .int v3), (0, .ref (zad G 0)), (1, .int a1)]) hC dX3_keep_15 rfl (by decide) rfl ?_
    refine z_aload_n hC dX3_keep_16 1 rfl rfl ?_
    refine z_get3 hC 7 (by decide) zw_fl_X3_42 (v := .ref (zad G 43)) rfl dX3_keep_17 ?_
    refine z_iload_n hC dX3_keep_20 2 rfl rfl ?_
    obtain ⟨hg4, hf⟩ := zg_e hf
    refine z_aald43 hC hg4 dX3_keep_21 ?_
    refine z_aload_n hC dX3_keep_22 1 rfl rfl ?_
    refine z_get3 hC 3 (by decide) zw_fl_X3_23 (v := .ref (zad G 2)) rfl dX3_keep_23 ?_
    obtain ⟨w5, ew5, hf⟩ := zbd_e hf
    refine z_cvv (As := [.ref (zad G 2)]) (rest := []) hC (zo_camp (zcampI hg4)) rfl (c_X0_copyFrom l G w (26 + 8 * zx a1) (zcampI hg4) 2 zcamp2 ew5) zw_ml_X3_84 zy_X0_copyFrom ⟨rfl, rfl, Nat.le_of_ble_eq_true rfl, Nat.le_of_ble_eq_true rfl⟩ rfl rfl (Nat.le_of_ble_eq_true rfl) dX3_keep_26 ?_
    refine z_aload_n hC dX3_keep_29 1 rfl rfl ?_
    refine z_get3 hC 8 (by decide) zw_fl_X3_46 (v := .ref (zad G 44)) rfl dX3_keep_30 ?_
    refine z_iload_n hC dX3_keep_33 2 rfl rfl ?_
    refine z_iconst hC dX3_keep_34 (v := 1) rfl ?_
    obtain ⟨hg6, hf⟩ := zg_e hf
    obtain ⟨w7, ew7, hf⟩ := zlet_e hf
    refine z_zast hC za_44 hg6 rfl ew7 dX3_keep_35 ?_
    refine z_iload_n hC dX3_keep_36 0 rfl rfl ?_
    refine z_csi (As := [.int v3]) (rest := []) hC (c_X3_asNumber l G w7 v3) zw_ml_X3_150 zy_X3_asNumber ⟨rfl, rfl, Nat.le_of_ble_eq_true rfl, Nat.le_of_ble_eq_true rfl⟩ rfl rfl (Nat.le_of_ble_eq_true rfl) dX3_keep_37 ?_
    obtain ⟨rfl, rfl⟩ := zso2 hf
    exact z_iret hC dX3_keep_40
  replace hf := zif_t h1 hf
  refine z_iconst hC dX3_keep_7 (v := -1) rfl ?_
  obtain ⟨rfl, rfl⟩ := zso2 hf
  exact z_iret hC dX3_keep_8
theorem zy_X3_keep : zYV yX3_keep cX3_keep 3 (some .int) RX3 1 := ⟨zw_cd_X3_keep, zw_im_X3_keep, zw_sel_X3_keep, zw_ini_X3, by decide +kernel⟩
abbrev rm_X3_kinds : Room := { frames := 6, cells := 0, slots := 0, locals := 138 }
def b_X3_kinds_27 (a1 : Int32) (v2 : Int64) (k27 : Int32 → Int32 → zW → Option (Int32 × zW)) (v3 : Int32) (v4 : Int32) (w5 : zW) : Option (Int32 × zW) :=
  if (0 : Int32) ≤ (lg_cmp (v4.toInt64) v2) then
    some (v3, w5)
  else
  zbd2 (f_X3_isAsSeen w5 v4) fun v8 w7 =>
  zjn1 (fun (v9 : Int32) =>
    zlet (v4 + (1 : Int32)) fun v10 =>
    k27 v9 v10 w7)
  (fun (j58 : Int32 → Option (Int32 × zW)) =>
  if v8 = (0 : Int32) then
    j58 v3
  else
  zg (zin a1 4) <|
  zlet (v3 ||| ((1 : Int32) <<< ((w7 (10 + 1) (zx a1)) &&& 31))) fun v13 =>
  j58 v13)
def f_X3_kinds (w : zW) (a1 : Int32) : Option (Int32 × zW) :=
  if (f_X3_isOne w a1) = (0 : Int32) then
    some ((-1 : Int32), w)
  else
    zbd (f_X3_power (5 : Int32) (w 2 0)) fun v2 =>
    zfix3 (b_X3_kinds_27 a1 v2) 100000 (0 : Int32) (0 : Int32) w
set_option maxRecDepth 100000 in
set_option maxHeartbeats 4000000 in
theorem c_X3_kinds (l : Launch) (G : zG) (w : zW) (a1 : Int32) {r : Int32} {wz : zW} (hf : f_X3_kinds w a1 = some (r, wz)) : zMet l G yX3_kinds cX3_kinds 6 (some .int) rm_X3_kinds [.ref (zad G 0), .int a1] w (some (.int r)) wz := by
  refine z_start (own := RX3) (by decide) rfl (Nat.le_of_ble_eq_true rfl) (lv := [(0, .ref (zad G 0)), (1, .int a1)]) rfl ?_
  intro p e s m args below meth c hC
  unfold f_X3_kinds at hf
  refine z_aload_n hC dX3_kinds_0 0 rfl rfl ?_
  refine z_iload_n hC dX3_kinds_1 1 rfl rfl ?_
  refine z_cvi (As := [.int a1]) (rest := []) hC zo_bot rfl (c_X3_isOne l G w a1) zw_ml_X3_118 zy_X3_isOne ⟨rfl, rfl, Nat.le_of_ble_eq_true rfl, Nat.le_of_ble_eq_true rfl⟩ rfl rfl (Nat.le_of_ble_eq_true rfl) dX3_kinds_2 ?_
  refine z_if_ne (tgt := 10) hC dX3_kinds_5 (by decide) (fun h1 => ?_) (fun h1 => ?_)
  · replace hf := zif_f h1 hf
    refine z_iconst hC dX3_kinds_10 (v := 0) rfl ?_
    refine z_istore_n (lv' := [(2, .int (0 : Int32)), (0, .ref (zad G 0)), (1, .int a1)]) hC dX3_kinds_11 rfl (by decide) rfl ?_
    refine z_iconst hC dX3_kinds_12 (v := 5) rfl ?_
    refine z_aload_n hC dX3_kinds_13 1 rfl rfl ?_
    refine z_get3 hC 3 (by decide) zw_fl_X3_23 (v := .ref (zad G 2)) rfl dX3_kinds_14 ?_
    refine z_get0 hC zcamp2 0 (by decide) zw_fl_X3_91 (v := .int (w 2 0)) rfl dX3_kinds_17 ?_
    obtain ⟨v2, ev2, hf⟩ := zbd_e hf
    refine z_csl (As := [.int (5 : Int32), .int (w 2 0)]) (rest := []) hC (c_X3_power l G w (5 : Int32) (w 2 0) ev2) zw_ml_X3_212 zy_X3_power ⟨rfl, rfl, Nat.le_of_ble_eq_true rfl, Nat.le_of_ble_eq_true rfl⟩ rfl rfl (Nat.le_of_ble_eq_true rfl) dX3_kinds_20 ?_
    refine z_lstore_n (lv' := [(3, .long v2), (2, .int (0 : Int32)), (0, .ref (zad G 0)), (1, .int a1)]) hC dX3_kinds_23 rfl (by decide) rfl ?_
    refine z_iconst hC dX3_kinds_24 (v := 0) rfl ?_
    refine z_istore (lv' := [(5, .int (0 : Int32)), (3, .long v2), (2, .int (0 : Int32)), (0, .ref (zad G 0)), (1, .int a1)]) hC dX3_kinds_25 (by decide) rfl ?_
    have hL27 : ∀ (n : Nat) (v3 : Int32) (v4 : Int32) (w5 : zW), zfix3 (b_X3_kinds_27 a1 v2) n v3 v4 w5 = some (r, wz) → Z G p l e rm_X3_kinds s m args below meth c (MQ below (zQ G (some (.int r)) wz) args s 0 0 (zA G)) 6 27 [(0, .ref (zad G 0)), (1, .int a1), (2, .int v3), (3, .long v2), (5, .int v4)] [] w5 := by
      intro n
      induction n with
      | zero => intro v3 v4 w5 hf; exact (zfix3_0 hf).elim
      | succ n ih27 =>
        intro v3 v4 w5 hf
        replace hf := zfix3_e hf
        unfold b_X3_kinds_27 at hf
        refine z_iload hC dX3_kinds_27 4 rfl ?_
        refine z_i2l hC dX3_kinds_29 ?_
        refine z_lload_n hC dX3_kinds_30 3 rfl rfl ?_
        refine z_lcmp hC dX3_kinds_31 ?_
        refine z_if_ge (tgt := 64) hC dX3_kinds_32 (by decide) (fun h6 => ?_) (fun h6 => ?_)
        · replace hf := zif_t h6 hf
          refine z_iload_n hC dX3_kinds_64 2 rfl rfl ?_
          obtain ⟨rfl, rfl⟩ := zso2 hf
          exact z_iret hC dX3_kinds_65
        replace hf := zif_f h6 hf
        refine z_aload_n hC dX3_kinds_35 0 rfl rfl ?_
        refine z_iload hC dX3_kinds_36 4 rfl ?_
        obtain ⟨v8, w7, ew7, hf⟩ := zbd2_e hf
        refine z_cvi (As := [.int v4]) (rest := []) hC zo_bot rfl (c_X3_isAsSeen l G w5 v4 ew7) zw_ml_X3_220 zy_X3_isAsSeen ⟨rfl, rfl, Nat.le_of_ble_eq_true rfl, Nat.le_of_ble_eq_true rfl⟩ rfl rfl (Nat.le_of_ble_eq_true rfl) dX3_kinds_38 ?_
        obtain ⟨j58, hj58, hf⟩ := zjn1_e hf
        have hJ58 : ∀ (v9 : Int32), j58 v9 = some (r, wz) → Z G p l e rm_X3_kinds s m args below meth c (MQ below (zQ G (some (.int r)) wz) args s 0 0 (zA G)) 6 58 [(0, .ref (zad G 0)), (1, .int a1), (2, .int v9), (3, .long v2), (5, .int v4)] [] w7 := by
          intro v9 hf
          replace hf := hj58 v9 hf
          obtain ⟨v10, ev10, hf⟩ := zlet_e hf
          refine z_iinc (v := v10) (lv' := [(5, .int v10), (0, .ref (zad G 0)), (1, .int a1), (2, .int v9), (3, .long v2)]) hC dX3_kinds_58 4 rfl (by rw [ev10]; rfl) (by decide) rfl ?_
          refine z_goto (tgt := 27) hC dX3_kinds_61 (by decide) ?_
          refine z_lv [1, 2, 3, 4, 0] rfl ?_
          exact ih27 _ _ _ hf
        refine z_if_eq (tgt := 58) hC dX3_kinds_41 (by decide) (fun h11 => ?_) (fun h11 => ?_)
        · replace hf := zif_t h11 hf
          exact hJ58 _ hf
        replace hf := zif_f h11 hf
        refine z_iload_n hC dX3_kinds_44 2 rfl rfl ?_
        refine z_iconst hC dX3_kinds_45 (v := 1) rfl ?_
        refine z_aload_n hC dX3_kinds_46 0 rfl rfl ?_
        refine z_get3 hC 4 (by decide) zw_fl_X3_27 (v := .ref (zad G 10)) rfl dX3_kinds_47 ?_
        refine z_get0 hC zcamp10 1 (by decide) zw_fl_X3_122 (v := .ref (zad G (10 + 1))) rfl dX3_kinds_50 ?_
        refine z_iload_n hC dX3_kinds_53 1 rfl rfl ?_
        obtain ⟨hg12, hf⟩ := zg_e hf
        refine z_iald hC (za_c1 zcamp10) hg12 rfl dX3_kinds_54 ?_
        refine z_ishl hC dX3_kinds_55 ?_
        refine z_ior hC dX3_kinds_56 ?_
        obtain ⟨v13, ev13, hf⟩ := zlet_e hf
        refine z_topi ev13 ?_
        refine z_istore_n (lv' := [(2, .int v13), (0, .ref (zad G 0)), (1, .int a1), (3, .long v2), (5, .int v4)]) hC dX3_kinds_57 rfl (by decide) rfl ?_
        refine z_lv [1, 2, 0, 3, 4] rfl ?_
        exact hJ58 _ hf
    refine z_lv [3, 4, 2, 1, 0] rfl ?_
    exact hL27 _ _ _ _ hf
  replace hf := zif_t h1 hf
  refine z_iconst hC dX3_kinds_8 (v := -1) rfl ?_
  obtain ⟨rfl, rfl⟩ := zso2 hf
  exact z_iret hC dX3_kinds_9
theorem zy_X3_kinds : zYV yX3_kinds cX3_kinds 6 (some .int) RX3 1 := ⟨zw_cd_X3_kinds, zw_im_X3_kinds, zw_sel_X3_kinds, zw_ini_X3, by decide +kernel⟩
abbrev rm_X3_late : Room := { frames := 5, cells := 0, slots := 0, locals := 113 }
def b_X3_late_27 (a1 : Int32) (k27 : Int32 → Int32 → zW → Option (Int32 × zW)) (v3 : Int32) (v4 : Int32) (w5 : zW) : Option (Int32 × zW) :=
  if (72 : Int32) < v4 then
    some (v3, w5)
  else
  zbd (f_X0_copyFrom w5 10 18) fun w7 =>
  zbd2 (f_X0_hoursToGoal w7 10 (2 : Int32)) fun v9 w8 =>
  zbd (f_X0_arrived w8 10) fun v10 =>
  zjn1 (fun (v11 : Int32) =>
    zbd (f_X0_passHour w8 18 (0 : Int32)) fun w12 =>
    zlet (v4 + (1 : Int32)) fun v13 =>
    k27 v11 v13 w12)
  (fun (j66 : Int32 → Option (Int32 × zW)) =>
  if v10 < a1 then
    j66 v3
  else
  j66 v4)
def f_X3_late (w : zW) (a1 : Int32) : Option (Int32 × zW) :=
  if (f_X3_within a1 (1 : Int32) (4 : Int32)) = (0 : Int32) then
    some ((-1 : Int32), w)
  else
    zbd (f_X0_copyFrom w 18 2) fun w2 =>
    zfix3 (b_X3_late_27 a1) 100000 (-4 : Int32) (0 : Int32) w2
set_option maxRecDepth 100000 in
set_option maxHeartbeats 4000000 in
theorem c_X3_late (l : Launch) (G : zG) (w : zW) (a1 : Int32) {r : Int32} {wz : zW} (hf : f_X3_late w a1 = some (r, wz)) : zMet l G yX3_late cX3_late 4 (some .int) rm_X3_late [.ref (zad G 0), .int a1] w (some (.int r)) wz := by
  refine z_start (own := RX3) (by decide) rfl (Nat.le_of_ble_eq_true rfl) (lv := [(0, .ref (zad G 0)), (1, .int a1)]) rfl ?_
  intro p e s m args below meth c hC
  unfold f_X3_late at hf
  refine z_iload_n hC dX3_late_0 1 rfl rfl ?_
  refine z_iconst hC dX3_late_1 (v := 1) rfl ?_
  refine z_iconst hC dX3_late_2 (v := 4) rfl ?_
  refine z_csi (As := [.int a1, .int (1 : Int32), .int (4 : Int32)]) (rest := []) hC (c_X3_within l G w a1 (1 : Int32) (4 : Int32)) zw_ml_X3_70 zy_X3_within ⟨rfl, rfl, Nat.le_of_ble_eq_true rfl, Nat.le_of_ble_eq_true rfl⟩ rfl rfl (Nat.le_of_ble_eq_true rfl) dX3_late_3 ?_
  refine z_if_ne (tgt := 11) hC dX3_late_6 (by decide) (fun h1 => ?_) (fun h1 => ?_)
  · replace hf := zif_f h1 hf
    refine z_bipush hC dX3_late_11 (v := -4) rfl ?_
    refine z_istore_n (lv' := [(2, .int (-4 : Int32)), (0, .ref (zad G 0)), (1, .int a1)]) hC dX3_late_13 rfl (by decide) rfl ?_
    refine z_aload_n hC dX3_late_14 1 rfl rfl ?_
    refine z_get3 hC 5 (by decide) zw_fl_X3_30 (v := .ref (zad G 18)) rfl dX3_late_15 ?_
    refine z_aload_n hC dX3_late_18 1 rfl rfl ?_
    refine z_get3 hC 3 (by decide) zw_fl_X3_23 (v := .ref (zad G 2)) rfl dX3_late_19 ?_
    obtain ⟨w2, ew2, hf⟩ := zbd_e hf
    refine z_cvv (As := [.ref (zad G 2)]) (rest := []) hC (zo_camp zcamp18) rfl (c_X0_copyFrom l G w 18 zcamp18 2 zcamp2 ew2) zw_ml_X3_84 zy_X0_copyFrom ⟨rfl, rfl, Nat.le_of_ble_eq_true rfl, Nat.le_of_ble_eq_true rfl⟩ rfl rfl (Nat.le_of_ble_eq_true rfl) dX3_late_22 ?_
    refine z_iconst hC dX3_late_25 (v := 0) rfl ?_
    refine z_istore_n (lv' := [(3, .int (0 : Int32)), (2, .int (-4 : Int32)), (0, .ref (zad G 0)), (1, .int a1)]) hC dX3_late_26 rfl (by decide) rfl ?_
    have hL27 : ∀ (n : Nat) (v3 : Int32) (v4 : Int32) (w5 : zW), zfix3 (b_X3_late_27 a1) n v3 v4 w5 = some (r, wz) → Z G p l e rm_X3_late s m args below meth c (MQ below (zQ G (some (.int r)) wz) args s 0 0 (zA G)) 4 27 [(0, .ref (zad G 0)), (1, .int a1), (2, .int v3), (3, .int v4)] [] w5 := by
      intro n
      induction n with
      | zero => intro v3 v4 w5 hf; exact (zfix3_0 hf).elim
      | succ n ih27 =>
        intro v3 v4 w5 hf
        replace hf := zfix3_e hf
        unfold b_X3_late_27 at hf
        refine z_iload_n hC dX3_late_27 3 rfl rfl ?_
        refine z_bipush hC dX3_late_28 (v := 72) rfl ?_
        refine z_icmp_gt (tgt := 80) hC dX3_late_30 (by decide) (fun h6 => ?_) (fun h6 => ?_)
        · replace hf := zif_t h6 hf
          refine z_iload_n hC dX3_late_80 2 rfl rfl ?_
          obtain ⟨rfl, rfl⟩ := zso2 hf
          exact z_iret hC dX3_late_81
        replace hf := zif_f h6 hf
        refine z_aload_n hC dX3_late_33 0 rfl rfl ?_
        refine z_get3 hC 4 (by decide) zw_fl_X3_27 (v := .ref (zad G 10)) rfl dX3_late_34 ?_
        refine z_aload_n hC dX3_late_37 0 rfl rfl ?_
        refine z_get3 hC 5 (by decide) zw_fl_X3_30 (v := .ref (zad G 18)) rfl dX3_late_38 ?_
        obtain ⟨w7, ew7, hf⟩ := zbd_e hf
        refine z_cvv (As := [.ref (zad G 18)]) (rest := []) hC (zo_camp zcamp10) rfl (c_X0_copyFrom l G w5 10 zcamp10 18 zcamp18 ew7) zw_ml_X3_84 zy_X0_copyFrom ⟨rfl, rfl, Nat.le_of_ble_eq_true rfl, Nat.le_of_ble_eq_true rfl⟩ rfl rfl (Nat.le_of_ble_eq_true rfl) dX3_late_41 ?_
        refine z_aload_n hC dX3_late_44 0 rfl rfl ?_
        refine z_get3 hC 4 (by decide) zw_fl_X3_27 (v := .ref (zad G 10)) rfl dX3_late_45 ?_
        refine z_iconst hC dX3_late_48 (v := 2) rfl ?_
        obtain ⟨v9, w8, ew8, hf⟩ := zbd2_e hf
        refine z_cvi (As := [.int (2 : Int32)]) (rest := []) hC (zo_camp zcamp10) rfl (c_X0_hoursToGoal l G w7 10 zcamp10 (2 : Int32) ew8) zw_ml_X3_186 zy_X0_hoursToGoal ⟨rfl, rfl, Nat.le_of_ble_eq_true rfl, Nat.le_of_ble_eq_true rfl⟩ rfl rfl (Nat.le_of_ble_eq_true rfl) dX3_late_49 ?_
        refine z_pop hC dX3_late_52 rfl ?_
        refine z_aload_n hC dX3_late_53 0 rfl rfl ?_
        refine z_get3 hC 4 (by decide) zw_fl_X3_27 (v := .ref (zad G 10)) rfl dX3_late_54 ?_
        obtain ⟨v10, ev10, hf⟩ := zbd_e hf
        refine z_cvi (As := []) (rest := []) hC (zo_camp zcamp10) rfl (c_X0_arrived l G w8 10 zcamp10 ev10) zw_ml_X3_189 zy_X0_arrived ⟨rfl, rfl, Nat.le_of_ble_eq_true rfl, Nat.le_of_ble_eq_true rfl⟩ rfl rfl (Nat.le_of_ble_eq_true rfl) dX3_late_57 ?_
        refine z_iload_n hC dX3_late_60 1 rfl rfl ?_
        obtain ⟨j66, hj66, hf⟩ := zjn1_e hf
        have hJ66 : ∀ (v11 : Int32), j66 v11 = some (r, wz) → Z G p l e rm_X3_late s m args below meth c (MQ below (zQ G (some (.int r)) wz) args s 0 0 (zA G)) 4 66 [(0, .ref (zad G 0)), (1, .int a1), (2, .int v11), (3, .int v4)] [] w8 := by
          intro v11 hf
          replace hf := hj66 v11 hf
          refine z_aload_n hC dX3_late_66 0 rfl rfl ?_
          refine z_get3 hC 5 (by decide) zw_fl_X3_30 (v := .ref (zad G 18)) rfl dX3_late_67 ?_
          refine z_iconst hC dX3_late_70 (v := 0) rfl ?_
          obtain ⟨w12, ew12, hf⟩ := zbd_e hf
          refine z_cvv (As := [.int (0 : Int32)]) (rest := []) hC (zo_camp zcamp18) rfl (c_X0_passHour l G w8 18 zcamp18 (0 : Int32) ew12) zw_ml_X3_192 zy_X0_passHour ⟨rfl, rfl, Nat.le_of_ble_eq_true rfl, Nat.le_of_ble_eq_true rfl⟩ rfl rfl (Nat.le_of_ble_eq_true rfl) dX3_late_71 ?_
          obtain ⟨v13, ev13, hf⟩ := zlet_e hf
          refine z_iinc (v := v13) (lv' := [(3, .int v13), (0, .ref (zad G 0)), (1, .int a1), (2, .int v11)]) hC dX3_late_74 3 rfl (by rw [ev13]; rfl) (by decide) rfl ?_
          refine z_goto (tgt := 27) hC dX3_late_77 (by decide) ?_
          refine z_lv [1, 2, 3, 0] rfl ?_
          exact ih27 _ _ _ hf
        refine z_icmp_lt (tgt := 66) hC dX3_late_61 (by decide) (fun h14 => ?_) (fun h14 => ?_)
        · replace hf := zif_t h14 hf
          exact hJ66 _ hf
        replace hf := zif_f h14 hf
        refine z_iload_n hC dX3_late_64 3 rfl rfl ?_
        refine z_istore_n (lv' := [(2, .int v4), (0, .ref (zad G 0)), (1, .int a1), (3, .int v4)]) hC dX3_late_65 rfl (by decide) rfl ?_
        refine z_lv [1, 2, 0, 3] rfl ?_
        exact hJ66 _ hf
    refine z_lv [2, 3, 1, 0] rfl ?_
    exact hL27 _ _ _ _ hf
  replace hf := zif_t h1 hf
  refine z_iconst hC dX3_late_9 (v := -1) rfl ?_
  obtain ⟨rfl, rfl⟩ := zso2 hf
  exact z_iret hC dX3_late_10
theorem zy_X3_late : zYV yX3_late cX3_late 4 (some .int) RX3 1 := ⟨zw_cd_X3_late, zw_im_X3_late, zw_sel_X3_late, zw_ini_X3, by decide +kernel⟩
abbrev rm_X3_lay : Room := { frames := 1, cells := 0, slots := 0, locals := 22 }
def f_X3_lay (w : zW) (a1 : Int32) (a2 : Int32) : Option (Int32 × zW) :=
  zjn0 (
    if a1 = (1 : Int32) then
      if (f_X3_within a2 (0 : Int32) (10 : Int32)) = (0 : Int32) then
        some ((-1 : Int32), w)
      else
      zlet (w 2 15) fun v3 =>
      zlet (zup w 2 15 a2) fun w4 =>
      some (v3, w4)
    else
      some ((-1 : Int32), w))
  (fun (j32 : Option (Int32 × zW)) =>
  if a1 = (0 : Int32) then
    if (f_X3_within a2 (0 : Int32) (9 : Int32)) = (0 : Int32) then
      j32
    else
    zlet (w 2 14) fun v7 =>
    zlet (zup w 2 14 a2) fun w8 =>
    some (v7, w8)
  else
    j32)
set_option maxRecDepth 100000 in
set_option maxHeartbeats 4000000 in
theorem c_X3_lay (l : Launch) (G : zG) (w : zW) (a1 : Int32) (a2 : Int32) {r : Int32} {wz : zW} (hf : f_X3_lay w a1 a2 = some (r, wz)) : zMet l G yX3_lay cX3_lay 4 (some .int) rm_X3_lay [.ref (zad G 0), .int a1, .int a2] w (some (.int r)) wz := by
  refine z_start (own := RX3) (by decide) rfl (Nat.le_of_ble_eq_true rfl) (lv := [(0, .ref (zad G 0)), (1, .int a1), (2, .int a2)]) rfl ?_
  intro p e s m args below meth c hC
  unfold f_X3_lay at hf
  refine z_iload_n hC dX3_lay_0 1 rfl rfl ?_
  obtain ⟨j32, hj32, hf⟩ := zjn0_e hf
  have hJ32 : j32 = some (r, wz) → Z G p l e rm_X3_lay s m args below meth c (MQ below (zQ G (some (.int r)) wz) args s 0 0 (zA G)) 4 32 [(0, .ref (zad G 0)), (1, .int a1), (2, .int a2)] [] w := by
    intro hf
    replace hf := hj32  hf
    refine z_iload_n hC dX3_lay_32 1 rfl rfl ?_
    refine z_iconst hC dX3_lay_33 (v := 1) rfl ?_
    refine z_icmp_ne (tgt := 65) hC dX3_lay_34 (by decide) (fun h1 => ?_) (fun h1 => ?_)
    · replace hf := zif_f h1 hf
      refine z_iconst hC dX3_lay_65 (v := -1) rfl ?_
      obtain ⟨rfl, rfl⟩ := zso2 hf
      exact z_iret hC dX3_lay_66
    replace hf := zif_t h1 hf
    refine z_iload_n hC dX3_lay_37 2 rfl rfl ?_
    refine z_iconst hC dX3_lay_38 (v := 0) rfl ?_
    refine z_bipush hC dX3_lay_39 (v := 10) rfl ?_
    refine z_csi (As := [.int a2, .int (0 : Int32), .int (10 : Int32)]) (rest := []) hC (c_X3_within l G w a2 (0 : Int32) (10 : Int32)) zw_ml_X3_70 zy_X3_within ⟨rfl, rfl, Nat.le_of_ble_eq_true rfl, Nat.le_of_ble_eq_true rfl⟩ rfl rfl (Nat.le_of_ble_eq_true rfl) dX3_lay_41 ?_
    refine z_if_eq (tgt := 65) hC dX3_lay_44 (by decide) (fun h2 => ?_) (fun h2 => ?_)
    · replace hf := zif_t h2 hf
      refine z_iconst hC dX3_lay_65 (v := -1) rfl ?_
      obtain ⟨rfl, rfl⟩ := zso2 hf
      exact z_iret hC dX3_lay_66
    replace hf := zif_f h2 hf
    refine z_aload_n hC dX3_lay_47 0 rfl rfl ?_
    refine z_get3 hC 3 (by decide) zw_fl_X3_23 (v := .ref (zad G 2)) rfl dX3_lay_48 ?_
    refine z_get0 hC zcamp2 15 (by decide) zw_fl_X3_115 (v := .int (w 2 15)) rfl dX3_lay_51 ?_
    obtain ⟨v3, ev3, hf⟩ := zlet_e hf
    refine z_topi ev3 ?_
    refine z_istore_n (lv' := [(3, .int v3), (0, .ref (zad G 0)), (1, .int a1), (2, .int a2)]) hC dX3_lay_54 rfl (by decide) rfl ?_
    refine z_aload_n hC dX3_lay_55 1 rfl rfl ?_
    refine z_get3 hC 3 (by decide) zw_fl_X3_23 (v := .ref (zad G 2)) rfl dX3_lay_56 ?_
    refine z_iload_n hC dX3_lay_59 3 rfl rfl ?_
    obtain ⟨w4, ew4, hf⟩ := zlet_e hf
    refine z_put0 hC zcamp2 15 (by decide) rfl rfl zw_fl_X3_115 rfl ew4 dX3_lay_60 ?_
    refine z_iload_n hC dX3_lay_63 0 rfl rfl ?_
    obtain ⟨rfl, rfl⟩ := zso2 hf
    exact z_iret hC dX3_lay_64
  refine z_if_ne (tgt := 32) hC dX3_lay_1 (by decide) (fun h5 => ?_) (fun h5 => ?_)
  · replace hf := zif_f h5 hf
    exact hJ32 hf
  replace hf := zif_t h5 hf
  refine z_iload_n hC dX3_lay_4 2 rfl rfl ?_
  refine z_iconst hC dX3_lay_5 (v := 0) rfl ?_
  refine z_bipush hC dX3_lay_6 (v := 9) rfl ?_
  refine z_csi (As := [.int a2, .int (0 : Int32), .int (9 : Int32)]) (rest := []) hC (c_X3_within l G w a2 (0 : Int32) (9 : Int32)) zw_ml_X3_70 zy_X3_within ⟨rfl, rfl, Nat.le_of_ble_eq_true rfl, Nat.le_of_ble_eq_true rfl⟩ rfl rfl (Nat.le_of_ble_eq_true rfl) dX3_lay_8 ?_
  refine z_if_eq (tgt := 32) hC dX3_lay_11 (by decide) (fun h6 => ?_) (fun h6 => ?_)
  · replace hf := zif_t h6 hf
    exact hJ32 hf
  replace hf := zif_f h6 hf
  refine z_aload_n hC dX3_lay_14 0 rfl rfl ?_
  refine z_get3 hC 3 (by decide) zw_fl_X3_23 (v := .ref (zad G 2)) rfl dX3_lay_15 ?_
  refine z_get0 hC zcamp2 14 (by decide) zw_fl_X3_112 (v := .int (w 2 14)) rfl dX3_lay_18 ?_
  obtain ⟨v7, ev7, hf⟩ := zlet_e hf
  refine z_topi ev7 ?_
  refine z_istore_n (lv' := [(3, .int v7), (0, .ref (zad G 0)), (1, .int a1), (2, .int a2)]) hC dX3_lay_21 rfl (by decide) rfl ?_
  refine z_aload_n hC dX3_lay_22 1 rfl rfl ?_
  refine z_get3 hC 3 (by decide) zw_fl_X3_23 (v := .ref (zad G 2)) rfl dX3_lay_23 ?_
  refine z_iload_n hC dX3_lay_26 3 rfl rfl ?_
  obtain ⟨w8, ew8, hf⟩ := zlet_e hf
  refine z_put0 hC zcamp2 14 (by decide) rfl rfl zw_fl_X3_112 rfl ew8 dX3_lay_27 ?_
  refine z_iload_n hC dX3_lay_30 0 rfl rfl ?_
  obtain ⟨rfl, rfl⟩ := zso2 hf
  exact z_iret hC dX3_lay_31
theorem zy_X3_lay : zYV yX3_lay cX3_lay 4 (some .int) RX3 2 := ⟨zw_cd_X3_lay, zw_im_X3_lay, zw_sel_X3_lay, zw_ini_X3, by decide +kernel⟩
abbrev rm_X3_least : Room := { frames := 5, cells := 0, slots := 0, locals := 113 }
def b_X3_least_10 (v1 : Int32) (k10 : Int32 → zW → Option (Int32 × zW)) (v2 : Int32) (w3 : zW) : Option (Int32 × zW) :=
  if (60 : Int32) < v2 then
    some ((-4 : Int32), w3)
  else
  zbd (f_X0_copyFrom w3 10 2) fun w5 =>
  zlet (zup w5 10 9 v2) fun w6 =>
  zbd2 (f_X0_hoursToGoal w6 10 (w6 2 13)) fun v8 w7 =>
  zjn0 (
    zlet (v2 + (1 : Int32)) fun v9 =>
    k10 v9 w7)
  (fun (j73 : Option (Int32 × zW)) =>
  if (f_X0_isAtGoal w7 10) = (0 : Int32) then
    j73
  else
  zbd (f_X0_standing w7 10) fun v11 =>
  if v11 = v1 then
    some (v2, w7)
  else
    j73)
def f_X3_least (w : zW) : Option (Int32 × zW) :=
  zbd (f_X0_standing w 2) fun v1 =>
  zfix2 (b_X3_least_10 v1) 100000 (0 : Int32) w
set_option maxRecDepth 100000 in
set_option maxHeartbeats 4000000 in
theorem c_X3_least (l : Launch) (G : zG) (w : zW) {r : Int32} {wz : zW} (hf : f_X3_least w = some (r, wz)) : zMet l G yX3_least cX3_least 3 (some .int) rm_X3_least [.ref (zad G 0)] w (some (.int r)) wz := by
  refine z_start (own := RX3) (by decide) rfl (Nat.le_of_ble_eq_true rfl) (lv := [(0, .ref (zad G 0))]) rfl ?_
  intro p e s m args below meth c hC
  unfold f_X3_least at hf
  refine z_aload_n hC dX3_least_0 0 rfl rfl ?_
  refine z_get3 hC 3 (by decide) zw_fl_X3_23 (v := .ref (zad G 2)) rfl dX3_least_1 ?_
  obtain ⟨v1, ev1, hf⟩ := zbd_e hf
  refine z_cvi (As := []) (rest := []) hC (zo_camp zcamp2) rfl (c_X0_standing l G w 2 zcamp2 ev1) zw_ml_X3_176 zy_X0_standing ⟨rfl, rfl, Nat.le_of_ble_eq_true rfl, Nat.le_of_ble_eq_true rfl⟩ rfl rfl (Nat.le_of_ble_eq_true rfl) dX3_least_4 ?_
  refine z_istore_n (lv' := [(1, .int v1), (0, .ref (zad G 0))]) hC dX3_least_7 rfl (by decide) rfl ?_
  refine z_iconst hC dX3_least_8 (v := 0) rfl ?_
  refine z_istore_n (lv' := [(2, .int (0 : Int32)), (1, .int v1), (0, .ref (zad G 0))]) hC dX3_least_9 rfl (by decide) rfl ?_
  have hL10 : ∀ (n : Nat) (v2 : Int32) (w3 : zW), zfix2 (b_X3_least_10 v1) n v2 w3 = some (r, wz) → Z G p l e rm_X3_least s m args below meth c (MQ below (zQ G (some (.int r)) wz) args s 0 0 (zA G)) 3 10 [(0, .ref (zad G 0)), (1, .int v1), (2, .int v2)] [] w3 := by
    intro n
    induction n with
    | zero => intro v2 w3 hf; exact (zfix2_0 hf).elim
    | succ n ih10 =>
      intro v2 w3 hf
      replace hf := zfix2_e hf
      unfold b_X3_least_10 at hf
      refine z_iload_n hC dX3_least_10 2 rfl rfl ?_
      refine z_bipush hC dX3_least_11 (v := 60) rfl ?_
      refine z_icmp_gt (tgt := 79) hC dX3_least_13 (by decide) (fun h4 => ?_) (fun h4 => ?_)
      · replace hf := zif_t h4 hf
        refine z_bipush hC dX3_least_79 (v := -4) rfl ?_
        obtain ⟨rfl, rfl⟩ := zso2 hf
        exact z_iret hC dX3_least_81
      replace hf := zif_f h4 hf
      refine z_aload_n hC dX3_least_16 0 rfl rfl ?_
      refine z_get3 hC 4 (by decide) zw_fl_X3_27 (v := .ref (zad G 10)) rfl dX3_least_17 ?_
      refine z_aload_n hC dX3_least_20 0 rfl rfl ?_
      refine z_get3 hC 3 (by decide) zw_fl_X3_23 (v := .ref (zad G 2)) rfl dX3_least_21 ?_
      obtain ⟨w5, ew5, hf⟩ := zbd_e hf
      refine z_cvv (As := [.ref (zad G 2)]) (rest := []) hC (zo_camp zcamp10) rfl (c_X0_copyFrom l G w3 10 zcamp10 2 zcamp2 ew5) zw_ml_X3_84 zy_X0_copyFrom ⟨rfl, rfl, Nat.le_of_ble_eq_true rfl, Nat.le_of_ble_eq_true rfl⟩ rfl rfl (Nat.le_of_ble_eq_true rfl) dX3_least_24 ?_
      refine z_aload_n hC dX3_least_27 0 rfl rfl ?_
      refine z_get3 hC 4 (by decide) zw_fl_X3_27 (v := .ref (zad G 10)) rfl dX3_least_28 ?_
      refine z_iload_n hC dX3_least_31 2 rfl rfl ?_
      obtain ⟨w6, ew6, hf⟩ := zlet_e hf
      refine z_put0 hC zcamp10 9 (by decide) rfl rfl zw_fl_X3_106 rfl ew6 dX3_least_32 ?_
      refine z_aload_n hC dX3_least_35 0 rfl rfl ?_
      refine z_get3 hC 4 (by decide) zw_fl_X3_27 (v := .ref (zad G 10)) rfl dX3_least_36 ?_
      refine z_aload_n hC dX3_least_39 0 rfl rfl ?_
      refine z_get3 hC 3 (by decide) zw_fl_X3_23 (v := .ref (zad G 2)) rfl dX3_least_40 ?_
      refine z_get0 hC zcamp2 13 (by decide) zw_fl_X3_109 (v := .int (w6 2 13)) rfl dX3_least_43 ?_
      obtain ⟨v8, w7, ew7, hf⟩ := zbd2_e hf
      refine z_cvi (As := [.int (w6 2 13)]) (rest := []) hC (zo_camp zcamp10) rfl (c_X0_hoursToGoal l G w6 10 zcamp10 (w6 2 13) ew7) zw_ml_X3_186 zy_X0_hoursToGoal ⟨rfl, rfl, Nat.le_of_ble_eq_true rfl, Nat.le_of_ble_eq_true rfl⟩ rfl rfl (Nat.le_of_ble_eq_true rfl) dX3_least_46 ?_
      refine z_pop hC dX3_least_49 rfl ?_
      refine z_aload_n hC dX3_least_50 0 rfl rfl ?_
      refine z_get3 hC 4 (by decide) zw_fl_X3_27 (v := .ref (zad G 10)) rfl dX3_least_51 ?_
      refine z_cvi (As := []) (rest := []) hC (zo_camp zcamp10) rfl (c_X0_isAtGoal l G w7 10 zcamp10) zw_ml_X3_196 zy_X0_isAtGoal ⟨rfl, rfl, Nat.le_of_ble_eq_true rfl, Nat.le_of_ble_eq_true rfl⟩ rfl rfl (Nat.le_of_ble_eq_true rfl) dX3_least_54 ?_
      obtain ⟨j73, hj73, hf⟩ := zjn0_e hf
      have hJ73 : j73 = some (r, wz) → Z G p l e rm_X3_least s m args below meth c (MQ below (zQ G (some (.int r)) wz) args s 0 0 (zA G)) 3 73 [(0, .ref (zad G 0)), (1, .int v1), (2, .int v2)] [] w7 := by
        intro hf
        replace hf := hj73  hf
        obtain ⟨v9, ev9, hf⟩ := zlet_e hf
        refine z_iinc (v := v9) (lv' := [(2, .int v9), (0, .ref (zad G 0)), (1, .int v1)]) hC dX3_least_73 2 rfl (by rw [ev9]; rfl) (by decide) rfl ?_
        refine z_goto (tgt := 10) hC dX3_least_76 (by decide) ?_
        refine z_lv [1, 2, 0] rfl ?_
        exact ih10 _ _ hf
      refine z_if_eq (tgt := 73) hC dX3_least_57 (by decide) (fun h10 => ?_) (fun h10 => ?_)
      · replace hf := zif_t h10 hf
        exact hJ73 hf
      replace hf := zif_f h10 hf
      refine z_aload_n hC dX3_least_60 0 rfl rfl ?_
      refine z_get3 hC 4 (by decide) zw_fl_X3_27 (v := .ref (zad G 10)) rfl dX3_least_61 ?_
      obtain ⟨v11, ev11, hf⟩ := zbd_e hf
      refine z_cvi (As := []) (rest := []) hC (zo_camp zcamp10) rfl (c_X0_standing l G w7 10 zcamp10 ev11) zw_ml_X3_176 zy_X0_standing ⟨rfl, rfl, Nat.le_of_ble_eq_true rfl, Nat.le_of_ble_eq_true rfl⟩ rfl rfl (Nat.le_of_ble_eq_true rfl) dX3_least_64 ?_
      refine z_iload_n hC dX3_least_67 1 rfl rfl ?_
      refine z_icmp_ne (tgt := 73) hC dX3_least_68 (by decide) (fun h12 => ?_) (fun h12 => ?_)
      · replace hf := zif_f h12 hf
        exact hJ73 hf
      replace hf := zif_t h12 hf
      refine z_iload_n hC dX3_least_71 2 rfl rfl ?_
      obtain ⟨rfl, rfl⟩ := zso2 hf
      exact z_iret hC dX3_least_72
  refine z_lv [2, 1, 0] rfl ?_
  exact hL10 _ _ _ hf
theorem zy_X3_least : zYV yX3_least cX3_least 3 (some .int) RX3 0 := ⟨zw_cd_X3_least, zw_im_X3_least, zw_sel_X3_least, zw_ini_X3, by decide +kernel⟩
abbrev rm_X3_loses : Room := { frames := 2, cells := 0, slots := 0, locals := 44 }
def f_X3_loses (w : zW) (a1 : Int32) (a2 : Int32) : Option Int32 :=
  if (f_X3_isOne w a1) = (0 : Int32) then
    some (-1 : Int32)
  else
  zbd (f_X0_loss w 2 a1 a2) fun v2 =>
  some v2
set_option maxRecDepth 100000 in
set_option maxHeartbeats 4000000 in
theorem c_X3_loses (l : Launch) (G : zG) (w : zW) (a1 : Int32) (a2 : Int32) {r : Int32} (hf : f_X3_loses w a1 a2 = some r) : zMet l G yX3_loses cX3_loses 3 (some .int) rm_X3_loses [.ref (zad G 0), .int a1, .int a2] w (some (.int r)) w := by
  refine z_start (own := RX3) (by decide) rfl (Nat.le_of_ble_eq_true rfl) (lv := [(0, .ref (zad G 0)), (1, .int a1), (2, .int a2)]) rfl ?_
  intro p e s m args below meth c hC
  unfold f_X3_loses at hf
  refine z_aload_n hC dX3_loses_0 0 rfl rfl ?_
  refine z_iload_n hC dX3_loses_1 1 rfl rfl ?_
  refine z_cvi (As := [.int a1]) (rest := []) hC zo_bot rfl (c_X3_isOne l G w a1) zw_ml_X3_118 zy_X3_isOne ⟨rfl, rfl, Nat.le_of_ble_eq_true rfl, Nat.le_of_ble_eq_true rfl⟩ rfl rfl (Nat.le_of_ble_eq_true rfl) dX3_loses_2 ?_
  refine z_if_eq (tgt := 20) hC dX3_loses_5 (by decide) (fun h1 => ?_) (fun h1 => ?_)
  · replace hf := zif_t h1 hf
    refine z_iconst hC dX3_loses_20 (v := -1) rfl ?_
    obtain rfl := zso1 hf
    exact z_iret hC dX3_loses_21
  replace hf := zif_f h1 hf
  refine z_aload_n hC dX3_loses_8 0 rfl rfl ?_
  refine z_get3 hC 3 (by decide) zw_fl_X3_23 (v := .ref (zad G 2)) rfl dX3_loses_9 ?_
  refine z_iload_n hC dX3_loses_12 1 rfl rfl ?_
  refine z_iload_n hC dX3_loses_13 2 rfl rfl ?_
  obtain ⟨v2, ev2, hf⟩ := zbd_e hf
  refine z_cvi (As := [.int a1, .int a2]) (rest := []) hC (zo_camp zcamp2) rfl (c_X0_loss l G w 2 zcamp2 a1 a2 ev2) zw_ml_X3_158 zy_X0_loss ⟨rfl, rfl, Nat.le_of_ble_eq_true rfl, Nat.le_of_ble_eq_true rfl⟩ rfl rfl (Nat.le_of_ble_eq_true rfl) dX3_loses_14 ?_
  refine z_goto (tgt := 21) hC dX3_loses_17 (by decide) ?_
  obtain rfl := zso1 hf
  exact z_iret hC dX3_loses_21
theorem zy_X3_loses : zYV yX3_loses cX3_loses 3 (some .int) RX3 2 := ⟨zw_cd_X3_loses, zw_im_X3_loses, zw_sel_X3_loses, zw_ini_X3, by decide +kernel⟩
abbrev rm_X3_weightOf : Room := { frames := 0, cells := 0, slots := 0, locals := 0 }
def b_X3_weightOf_5 (w : zW) (a1 : Int32) (k5 : Int64 → Int32 → Option Int64) (v1 : Int64) (v2 : Int32) : Option Int64 :=
  if (w 2 4) ≤ v2 then
    some v1
  else
  zg (zin v2 3) <|
  zjn1 (fun (v5 : Int32) =>
    zjn1 (fun (v6 : Int32) =>
      zjn1 (fun (v7 : Int64) =>
        zlet (v1 * v7) fun v8 =>
        zlet (v2 + (1 : Int32)) fun v9 =>
        k5 v8 v9)
      (fun (j81 : Int64 → Option Int64) =>
      if v6 = (0 : Int32) then
        j81 (((10 : Int32) - v5).toInt64)
      else
      j81 (v5.toInt64)))
    (fun (j61 : Int32 → Option Int64) =>
    if ((a1 >>> (v2 &&& 31)) &&& (1 : Int32)) = (1 : Int32) then
      j61 (1 : Int32)
    else
      j61 (0 : Int32)))
  (fun (j44 : Int32 → Option Int64) =>
  if (w (2 + 7) (zx v2)) = (0 : Int32) then
    j44 (0 : Int32)
  else
  zg (zin v2 3) <|
  j44 (w (2 + 5) (zx v2)))
def f_X3_weightOf (w : zW) (a1 : Int32) : Option Int64 :=
  zfix2 (b_X3_weightOf_5 w a1) 100000 (1 : Int64) (0 : Int32)
set_option maxRecDepth 100000 in
set_option maxHeartbeats 4000000 in
theorem c_X3_weightOf (l : Launch) (G : zG) (w : zW) (a1 : Int32) {r : Int64} (hf : f_X3_weightOf w a1 = some r) : zMet l G yX3_weightOf cX3_weightOf 7 (some .long) rm_X3_weightOf [.ref (zad G 0), .int a1] w (some (.long r)) w := by
  refine z_start (own := RX3) (by decide) rfl (Nat.le_of_ble_eq_true rfl) (lv := [(0, .ref (zad G 0)), (1, .int a1)]) rfl ?_
  intro p e s m args below meth c hC
  unfold f_X3_weightOf at hf
  refine z_lconst hC dX3_weightOf_0 (v := 1) rfl ?_
  refine z_lstore_n (lv' := [(2, .long (1 : Int64)), (0, .ref (zad G 0)), (1, .int a1)]) hC dX3_weightOf_1 rfl (by decide) rfl ?_
  refine z_iconst hC dX3_weightOf_2 (v := 0) rfl ?_
  refine z_istore (lv' := [(4, .int (0 : Int32)), (2, .long (1 : Int64)), (0, .ref (zad G 0)), (1, .int a1)]) hC dX3_weightOf_3 (by decide) rfl ?_
  have hL5 : ∀ (n : Nat) (v1 : Int64) (v2 : Int32), zfix2 (b_X3_weightOf_5 w a1) n v1 v2 = some r → Z G p l e rm_X3_weightOf s m args below meth c (MQ below (zQ G (some (.long r)) w) args s 0 0 (zA G)) 7 5 [(0, .ref (zad G 0)), (1, .int a1), (2, .long v1), (4, .int v2)] [] w := by
    intro n
    induction n with
    | zero => intro v1 v2 hf; exact (zfix2_0 hf).elim
    | succ n ih5 =>
      intro v1 v2 hf
      replace hf := zfix2_e hf
      unfold b_X3_weightOf_5 at hf
      refine z_iload hC dX3_weightOf_5 3 rfl ?_
      refine z_aload_n hC dX3_weightOf_7 0 rfl rfl ?_
      refine z_get3 hC 3 (by decide) zw_fl_X3_23 (v := .ref (zad G 2)) rfl dX3_weightOf_8 ?_
      refine z_get0 hC zcamp2 4 (by decide) zw_fl_X3_94 (v := .int (w 2 4)) rfl dX3_weightOf_11 ?_
      refine z_icmp_ge (tgt := 89) hC dX3_weightOf_14 (by decide) (fun h3 => ?_) (fun h3 => ?_)
      · replace hf := zif_t h3 hf
        refine z_lload_n hC dX3_weightOf_89 2 rfl rfl ?_
        obtain rfl := zso1 hf
        exact z_lret hC dX3_weightOf_90
      replace hf := zif_f h3 hf
      refine z_aload_n hC dX3_weightOf_17 0 rfl rfl ?_
      refine z_get3 hC 3 (by decide) zw_fl_X3_23 (v := .ref (zad G 2)) rfl dX3_weightOf_18 ?_
      refine z_get0 hC zcamp2 8 (by decide) zw_fl_X3_147 (v := .ref (zad G (2 + 7))) rfl dX3_weightOf_21 ?_
      refine z_iload hC dX3_weightOf_24 3 rfl ?_
      obtain ⟨hg4, hf⟩ := zg_e hf
      refine z_zald hC (za_c7 zcamp2) hg4 rfl dX3_weightOf_26 ?_
      obtain ⟨j44, hj44, hf⟩ := zjn1_e hf
      have hJ44 : ∀ (v5 : Int32), j44 v5 = some r → Z G p l e rm_X3_weightOf s m args below meth c (MQ below (zQ G (some (.long r)) w) args s 0 0 (zA G)) 7 44 [(0, .ref (zad G 0)), (1, .int a1), (2, .long v1), (4, .int v2)] [.int v5] w := by
        intro v5 hf
        replace hf := hj44 v5 hf
        refine z_istore (lv' := [(5, .int v5), (0, .ref (zad G 0)), (1, .int a1), (2, .long v1), (4, .int v2)]) hC dX3_weightOf_44 (by decide) rfl ?_
        refine z_iload_n hC dX3_weightOf_46 2 rfl rfl ?_
        refine z_iload hC dX3_weightOf_47 4 rfl ?_
        refine z_ishr hC dX3_weightOf_49 ?_
        refine z_iconst hC dX3_weightOf_50 (v := 1) rfl ?_
        refine z_iand hC dX3_weightOf_51 ?_
        refine z_iconst hC dX3_weightOf_52 (v := 1) rfl ?_
        obtain ⟨j61, hj61, hf⟩ := zjn1_e hf
        have hJ61 : ∀ (v6 : Int32), j61 v6 = some r → Z G p l e rm_X3_weightOf s m args below meth c (MQ below (zQ G (some (.long r)) w) args s 0 0 (zA G)) 7 61 [(0, .ref (zad G 0)), (1, .int a1), (2, .long v1), (4, .int v2), (5, .int v5)] [.int v6] w := by
          intro v6 hf
          replace hf := hj61 v6 hf
          refine z_istore (lv' := [(6, .int v6), (0, .ref (zad G 0)), (1, .int a1), (2, .long v1), (4, .int v2), (5, .int v5)]) hC dX3_weightOf_61 (by decide) rfl ?_
          refine z_lload_n hC dX3_weightOf_63 3 rfl rfl ?_
          refine z_iload hC dX3_weightOf_64 0 rfl ?_
          obtain ⟨j81, hj81, hf⟩ := zjn1_e hf
          have hJ81 : ∀ (v7 : Int64), j81 v7 = some r → Z G p l e rm_X3_weightOf s m args below meth c (MQ below (zQ G (some (.long r)) w) args s 0 0 (zA G)) 7 81 [(0, .ref (zad G 0)), (1, .int a1), (4, .int v2)] [.long v7, .long v1] w := by
            intro v7 hf
            replace hf := hj81 v7 hf
            refine z_lmul hC dX3_weightOf_81 ?_
            obtain ⟨v8, ev8, hf⟩ := zlet_e hf
            refine z_topl ev8 ?_
            refine z_lstore_n (lv' := [(2, .long v8), (0, .ref (zad G 0)), (1, .int a1), (4, .int v2)]) hC dX3_weightOf_82 rfl (by decide) rfl ?_
            obtain ⟨v9, ev9, hf⟩ := zlet_e hf
            refine z_iinc (v := v9) (lv' := [(4, .int v9), (2, .long v8), (0, .ref (zad G 0)), (1, .int a1)]) hC dX3_weightOf_83 3 rfl (by rw [ev9]; rfl) (by decide) rfl ?_
            refine z_goto (tgt := 5) hC dX3_weightOf_86 (by decide) ?_
            refine z_lv [2, 3, 1, 0] rfl ?_
            exact ih5 _ _ hf
          refine z_if_eq (tgt := 75) hC dX3_weightOf_66 (by decide) (fun h10 => ?_) (fun h10 => ?_)
          · replace hf := zif_t h10 hf
            refine z_bipush hC dX3_weightOf_75 (v := 10) rfl ?_
            refine z_iload hC dX3_weightOf_77 5 rfl ?_
            refine z_isub hC dX3_weightOf_79 ?_
            refine z_i2l hC dX3_weightOf_80 ?_
            refine z_lv [1, 2, 4] rfl ?_
            exact hJ81 _ hf
          replace hf := zif_f h10 hf
          refine z_iload hC dX3_weightOf_69 5 rfl ?_
          refine z_i2l hC dX3_weightOf_71 ?_
          refine z_goto (tgt := 81) hC dX3_weightOf_72 (by decide) ?_
          refine z_lv [1, 2, 4] rfl ?_
          exact hJ81 _ hf
        refine z_icmp_ne (tgt := 60) hC dX3_weightOf_53 (by decide) (fun h11 => ?_) (fun h11 => ?_)
        · replace hf := zif_f h11 hf
          refine z_iconst hC dX3_weightOf_60 (v := 0) rfl ?_
          refine z_lv [1, 2, 3, 4, 0] rfl ?_
          exact hJ61 _ hf
        replace hf := zif_t h11 hf
        refine z_iconst hC dX3_weightOf_56 (v := 1) rfl ?_
        refine z_goto (tgt := 61) hC dX3_weightOf_57 (by decide) ?_
        refine z_lv [1, 2, 3, 4, 0] rfl ?_
        exact hJ61 _ hf
      refine z_if_eq (tgt := 43) hC dX3_weightOf_27 (by decide) (fun h12 => ?_) (fun h12 => ?_)
      · replace hf := zif_t h12 hf
        refine z_iconst hC dX3_weightOf_43 (v := 0) rfl ?_
        exact hJ44 _ hf
      replace hf := zif_f h12 hf
      refine z_aload_n hC dX3_weightOf_30 0 rfl rfl ?_
      refine z_get3 hC 3 (by decide) zw_fl_X3_23 (v := .ref (zad G 2)) rfl dX3_weightOf_31 ?_
      refine z_get0 hC zcamp2 6 (by decide) zw_fl_X3_141 (v := .ref (zad G (2 + 5))) rfl dX3_weightOf_34 ?_
      refine z_iload hC dX3_weightOf_37 3 rfl ?_
      obtain ⟨hg13, hf⟩ := zg_e hf
      refine z_iald hC (za_c5 zcamp2) hg13 rfl dX3_weightOf_39 ?_
      refine z_goto (tgt := 44) hC dX3_weightOf_40 (by decide) ?_
      exact hJ44 _ hf
  refine z_lv [2, 3, 1, 0] rfl ?_
  exact hL5 _ _ _ hf
theorem zy_X3_weightOf : zYV yX3_weightOf cX3_weightOf 7 (some .long) RX3 1 := ⟨zw_cd_X3_weightOf, zw_im_X3_weightOf, zw_sel_X3_weightOf, zw_ini_X3, by decide +kernel⟩
abbrev rm_X3_partOfFraction : Room := { frames := 1, cells := 0, slots := 0, locals := 30 }
def f_X3_partOfFraction (a0 : Int64) (a2 : Int64) (a4 : Int32) : Option Int64 :=
  zbd (f_X3_commonDivisor a0 a2) fun v1 =>
  if (0 : Int32) < (lg_cmp v1 (0 : Int64)) then
    if a4 = (0 : Int32) then
      zg (znzl v1) <|
      some (a0 / v1)
    else
      zg (znzl v1) <|
      some (a2 / v1)
  else
  if a4 = (0 : Int32) then
    some (0 : Int64)
  else
    some (1 : Int64)
set_option maxRecDepth 100000 in
set_option maxHeartbeats 4000000 in
theorem c_X3_partOfFraction (l : Launch) (G : zG) (w : zW) (a0 : Int64) (a2 : Int64) (a4 : Int32) {r : Int64} (hf : f_X3_partOfFraction a0 a2 a4 = some r) : zMet l G yX3_partOfFraction cX3_partOfFraction 7 (some .long) rm_X3_partOfFraction [.long a0, .long a2, .int a4] w (some (.long r)) w := by
  refine z_start (own := RX3) (by decide) rfl (Nat.le_of_ble_eq_true rfl) (lv := [(0, .long a0), (2, .long a2), (4, .int a4)]) rfl ?_
  intro p e s m args below meth c hC
  unfold f_X3_partOfFraction at hf
  refine z_lload_n hC dX3_partOfFraction_0 0 rfl rfl ?_
  refine z_lload_n hC dX3_partOfFraction_1 1 rfl rfl ?_
  obtain ⟨v1, ev1, hf⟩ := zbd_e hf
  refine z_csl (As := [.long a0, .long a2]) (rest := []) hC (c_X3_commonDivisor l G w a0 a2 ev1) zw_ml_X3_271 zy_X3_commonDivisor ⟨rfl, rfl, Nat.le_of_ble_eq_true rfl, Nat.le_of_ble_eq_true rfl⟩ rfl rfl (Nat.le_of_ble_eq_true rfl) dX3_partOfFraction_2 ?_
  refine z_lstore (lv' := [(5, .long v1), (0, .long a0), (2, .long a2), (4, .int a4)]) hC dX3_partOfFraction_5 (by decide) rfl ?_
  refine z_lload hC dX3_partOfFraction_7 0 rfl ?_
  refine z_lconst hC dX3_partOfFraction_9 (v := 0) rfl ?_
  refine z_lcmp hC dX3_partOfFraction_10 ?_
  refine z_if_gt (tgt := 25) hC dX3_partOfFraction_11 (by decide) (fun h2 => ?_) (fun h2 => ?_)
  · replace hf := zif_t h2 hf
    refine z_iload hC dX3_partOfFraction_25 3 rfl ?_
    refine z_if_ne (tgt := 34) hC dX3_partOfFraction_27 (by decide) (fun h3 => ?_) (fun h3 => ?_)
    · replace hf := zif_f h3 hf
      refine z_lload_n hC dX3_partOfFraction_34 2 rfl rfl ?_
      refine z_lload hC dX3_partOfFraction_35 0 rfl ?_
      obtain ⟨hg4, hf⟩ := zg_e hf
      refine z_ldiv hC dX3_partOfFraction_37 (znzl_e hg4) ?_
      obtain rfl := zso1 hf
      exact z_lret hC dX3_partOfFraction_38
    replace hf := zif_t h3 hf
    refine z_lload_n hC dX3_partOfFraction_30 1 rfl rfl ?_
    refine z_goto (tgt := 35) hC dX3_partOfFraction_31 (by decide) ?_
    refine z_lload hC dX3_partOfFraction_35 0 rfl ?_
    obtain ⟨hg5, hf⟩ := zg_e hf
    refine z_ldiv hC dX3_partOfFraction_37 (znzl_e hg5) ?_
    obtain rfl := zso1 hf
    exact z_lret hC dX3_partOfFraction_38
  replace hf := zif_f h2 hf
  refine z_iload hC dX3_partOfFraction_14 3 rfl ?_
  refine z_if_ne (tgt := 23) hC dX3_partOfFraction_16 (by decide) (fun h6 => ?_) (fun h6 => ?_)
  · replace hf := zif_f h6 hf
    refine z_lconst hC dX3_partOfFraction_23 (v := 1) rfl ?_
    obtain rfl := zso1 hf
    exact z_lret hC dX3_partOfFraction_24
  replace hf := zif_t h6 hf
  refine z_lconst hC dX3_partOfFraction_19 (v := 0) rfl ?_
  refine z_goto (tgt := 24) hC dX3_partOfFraction_20 (by decide) ?_
  obtain rfl := zso1 hf
  exact z_lret hC dX3_partOfFraction_24
theorem zy_X3_partOfFraction : zYS yX3_partOfFraction cX3_partOfFraction 7 (some .long) 3 := ⟨zw_cd_X3_partOfFraction, zw_st_X3_partOfFraction, zw_ini_X3, by decide +kernel⟩
abbrev rm_X3_luck : Room := { frames := 6, cells := 0, slots := 0, locals := 136 }
def b_X3_luck_35 (a1 : Int32) (a2 : Int32) (j88 : Int64 → zW → Option (Int64 × zW)) (k35 : Int64 → Int32 → zW → Option (Int64 × zW)) (v8 : Int64) (v9 : Int32) (w10 : zW) : Option (Int64 × zW) :=
  if ((1 : Int32) <<< ((w10 2 4) &&& 31)) ≤ v9 then
    j88 v8 w10
  else
  zbd (f_X3_weightOf w10 v9) fun v12 =>
  zjn2 (fun (v13 : Int64) (w14 : zW) =>
    zlet (v9 + (1 : Int32)) fun v15 =>
    k35 v13 v15 w14)
  (fun (j82 : Int64 → zW → Option (Int64 × zW)) =>
  if (lg_cmp v12 (0 : Int64)) ≤ (0 : Int32) then
    j82 v8 w10
  else
  zbd2 (f_X3_arrivingBy w10 v9 a2) fun v18 w17 =>
  if v18 < a1 then
    j82 v8 w17
  else
  zlet (v8 + v12) fun v20 =>
  j82 v20 w17)
def f_X3_luck (w : zW) (a1 : Int32) (a2 : Int32) (a3 : Int32) : Option (Int64 × zW) :=
  if (f_X3_within a1 (1 : Int32) (4 : Int32)) = (0 : Int32) then
    some ((-1 : Int64), w)
  else
  if (f_X3_isPlan a2) = (0 : Int32) then
    some ((-1 : Int64), w)
  else
  if (f_X3_within a3 (0 : Int32) (1 : Int32)) = (0 : Int32) then
    some ((-1 : Int64), w)
  else
    zjn2 (fun (v4 : Int64) (w5 : zW) =>
      zbd (f_X3_power (10 : Int32) (w5 2 4)) fun v6 =>
      zbd (f_X3_partOfFraction v4 v6 a3) fun v7 =>
      some (v7, w5))
    (fun (j88 : Int64 → zW → Option (Int64 × zW)) =>
    zfix3 (b_X3_luck_35 a1 a2 j88) 100000 (0 : Int64) (0 : Int32) w)
set_option maxRecDepth 100000 in
set_option maxHeartbeats 4000000 in
theorem c_X3_luck (l : Launch) (G : zG) (w : zW) (a1 : Int32) (a2 : Int32) (a3 : Int32) {r : Int64} {wz : zW} (hf : f_X3_luck w a1 a2 a3 = some (r, wz)) : zMet l G yX3_luck cX3_luck 9 (some .long) rm_X3_luck [.ref (zad G 0), .int a1, .int a2, .int a3] w (some (.long r)) wz := by
  refine z_start (own := RX3) (by decide) rfl (Nat.le_of_ble_eq_true rfl) (lv := [(0, .ref (zad G 0)), (1, .int a1), (2, .int a2), (3, .int a3)]) rfl ?_
  intro p e s m args below meth c hC
  unfold f_X3_luck at hf
  refine z_iload_n hC dX3_luck_0 1 rfl rfl ?_
  refine z_iconst hC dX3_luck_1 (v := 1) rfl ?_
  refine z_iconst hC dX3_luck_2 (v := 4) rfl ?_
  refine z_csi (As := [.int a1, .int (1 : Int32), .int (4 : Int32)]) (rest := []) hC (c_X3_within l G w a1 (1 : Int32) (4 : Int32)) zw_ml_X3_70 zy_X3_within ⟨rfl, rfl, Nat.le_of_ble_eq_true rfl, Nat.le_of_ble_eq_true rfl⟩ rfl rfl (Nat.le_of_ble_eq_true rfl) dX3_luck_3 ?_
  refine z_if_eq (tgt := 25) hC dX3_luck_6 (by decide) (fun h1 => ?_) (fun h1 => ?_)
  · replace hf := zif_t h1 hf
    refine z_ldc2 hC zw_cst_X3_203 dX3_luck_25 ?_
    obtain ⟨rfl, rfl⟩ := zso2 hf
    exact z_lret hC dX3_luck_28
  replace hf := zif_f h1 hf
  refine z_iload_n hC dX3_luck_9 2 rfl rfl ?_
  refine z_csi (As := [.int a2]) (rest := []) hC (c_X3_isPlan l G w a2) zw_ml_X3_169 zy_X3_isPlan ⟨rfl, rfl, Nat.le_of_ble_eq_true rfl, Nat.le_of_ble_eq_true rfl⟩ rfl rfl (Nat.le_of_ble_eq_true rfl) dX3_luck_10 ?_
  refine z_if_eq (tgt := 25) hC dX3_luck_13 (by decide) (fun h2 => ?_) (fun h2 => ?_)
  · replace hf := zif_t h2 hf
    refine z_ldc2 hC zw_cst_X3_203 dX3_luck_25 ?_
    obtain ⟨rfl, rfl⟩ := zso2 hf
    exact z_lret hC dX3_luck_28
  replace hf := zif_f h2 hf
  refine z_iload_n hC dX3_luck_16 3 rfl rfl ?_
  refine z_iconst hC dX3_luck_17 (v := 0) rfl ?_
  refine z_iconst hC dX3_luck_18 (v := 1) rfl ?_
  refine z_csi (As := [.int a3, .int (0 : Int32), .int (1 : Int32)]) (rest := []) hC (c_X3_within l G w a3 (0 : Int32) (1 : Int32)) zw_ml_X3_70 zy_X3_within ⟨rfl, rfl, Nat.le_of_ble_eq_true rfl, Nat.le_of_ble_eq_true rfl⟩ rfl rfl (Nat.le_of_ble_eq_true rfl) dX3_luck_19 ?_
  refine z_if_ne (tgt := 29) hC dX3_luck_22 (by decide) (fun h3 => ?_) (fun h3 => ?_)
  · replace hf := zif_f h3 hf
    refine z_lconst hC dX3_luck_29 (v := 0) rfl ?_
    refine z_lstore (lv' := [(4, .long (0 : Int64)), (0, .ref (zad G 0)), (1, .int a1), (2, .int a2), (3, .int a3)]) hC dX3_luck_30 (by decide) rfl ?_
    refine z_iconst hC dX3_luck_32 (v := 0) rfl ?_
    refine z_istore (lv' := [(6, .int (0 : Int32)), (4, .long (0 : Int64)), (0, .ref (zad G 0)), (1, .int a1), (2, .int a2), (3, .int a3)]) hC dX3_luck_33 (by decide) rfl ?_
    obtain ⟨j88, hj88, hf⟩ := zjn2_e hf
    have hJ88 : ∀ (v4 : Int64) (w5 : zW), j88 v4 w5 = some (r, wz) → Z G p l e rm_X3_luck s m args below meth c (MQ below (zQ G (some (.long r)) wz) args s 0 0 (zA G)) 9 88 [(0, .ref (zad G 0)), (3, .int a3), (4, .long v4)] [] w5 := by
      intro v4 w5 hf
      replace hf := hj88 v4 w5 hf
      refine z_lload hC dX3_luck_88 2 rfl ?_
      refine z_bipush hC dX3_luck_90 (v := 10) rfl ?_
      refine z_aload_n hC dX3_luck_92 0 rfl rfl ?_
      refine z_get3 hC 3 (by decide) zw_fl_X3_23 (v := .ref (zad G 2)) rfl dX3_luck_93 ?_
      refine z_get0 hC zcamp2 4 (by decide) zw_fl_X3_94 (v := .int (w5 2 4)) rfl dX3_luck_96 ?_
      obtain ⟨v6, ev6, hf⟩ := zbd_e hf
      refine z_csl (As := [.int (10 : Int32), .int (w5 2 4)]) (rest := [.long v4]) hC (c_X3_power l G w5 (10 : Int32) (w5 2 4) ev6) zw_ml_X3_212 zy_X3_power ⟨rfl, rfl, Nat.le_of_ble_eq_true rfl, Nat.le_of_ble_eq_true rfl⟩ rfl rfl (Nat.le_of_ble_eq_true rfl) dX3_luck_99 ?_
      refine z_iload_n hC dX3_luck_102 1 rfl rfl ?_
      obtain ⟨v7, ev7, hf⟩ := zbd_e hf
      refine z_csl (As := [.long v4, .long v6, .int a3]) (rest := []) hC (c_X3_partOfFraction l G w5 v4 v6 a3 ev7) zw_ml_X3_216 zy_X3_partOfFraction ⟨rfl, rfl, Nat.le_of_ble_eq_true rfl, Nat.le_of_ble_eq_true rfl⟩ rfl rfl (Nat.le_of_ble_eq_true rfl) dX3_luck_103 ?_
      obtain ⟨rfl, rfl⟩ := zso2 hf
      exact z_lret hC dX3_luck_106
    have hL35 : ∀ (n : Nat) (v8 : Int64) (v9 : Int32) (w10 : zW), zfix3 (b_X3_luck_35 a1 a2 j88) n v8 v9 w10 = some (r, wz) → Z G p l e rm_X3_luck s m args below meth c (MQ below (zQ G (some (.long r)) wz) args s 0 0 (zA G)) 9 35 [(0, .ref (zad G 0)), (1, .int a1), (2, .int a2), (3, .int a3), (4, .long v8), (6, .int v9)] [] w10 := by
      intro n
      induction n with
      | zero => intro v8 v9 w10 hf; exact (zfix3_0 hf).elim
      | succ n ih35 =>
        intro v8 v9 w10 hf
        replace hf := zfix3_e hf
        unfold b_X3_luck_35 at hf
        refine z_iload hC dX3_luck_35 5 rfl ?_
        refine z_iconst hC dX3_luck_37 (v := 1) rfl ?_
        refine z_aload_n hC dX3_luck_38 0 rfl rfl ?_
        refine z_get3 hC 3 (by decide) zw_fl_X3_23 (v := .ref (zad G 2)) rfl dX3_luck_39 ?_
        refine z_get0 hC zcamp2 4 (by decide) zw_fl_X3_94 (v := .int (w10 2 4)) rfl dX3_luck_42 ?_
        refine z_ishl hC dX3_luck_45 ?_
        refine z_icmp_ge (tgt := 88) hC dX3_luck_46 (by decide) (fun h11 => ?_) (fun h11 => ?_)
        · replace hf := zif_t h11 hf
          refine z_lv [0, 3, 4] rfl ?_
          exact hJ88 _ _ hf
        replace hf := zif_f h11 hf
        refine z_aload_n hC dX3_luck_49 0 rfl rfl ?_
        refine z_iload hC dX3_luck_50 5 rfl ?_
        obtain ⟨v12, ev12, hf⟩ := zbd_e hf
        refine z_cvl (As := [.int v9]) (rest := []) hC zo_bot rfl (c_X3_weightOf l G w10 v9 ev12) zw_ml_X3_205 zy_X3_weightOf ⟨rfl, rfl, Nat.le_of_ble_eq_true rfl, Nat.le_of_ble_eq_true rfl⟩ rfl rfl (Nat.le_of_ble_eq_true rfl) dX3_luck_52 ?_
        refine z_lstore (lv' := [(7, .long v12), (0, .ref (zad G 0)), (1, .int a1), (2, .int a2), (3, .int a3), (4, .long v8), (6, .int v9)]) hC dX3_luck_55 (by decide) rfl ?_
        refine z_lload hC dX3_luck_57 0 rfl ?_
        refine z_lconst hC dX3_luck_59 (v := 0) rfl ?_
        refine z_lcmp hC dX3_luck_60 ?_
        obtain ⟨j82, hj82, hf⟩ := zjn2_e hf
        have hJ82 : ∀ (v13 : Int64) (w14 : zW), j82 v13 w14 = some (r, wz) → Z G p l e rm_X3_luck s m args below meth c (MQ below (zQ G (some (.long r)) wz) args s 0 0 (zA G)) 9 82 [(0, .ref (zad G 0)), (1, .int a1), (2, .int a2), (3, .int a3), (4, .long v13), (6, .int v9)] [] w14 := by
          intro v13 w14 hf
          replace hf := hj82 v13 w14 hf
          obtain ⟨v15, ev15, hf⟩ := zlet_e hf
          refine z_iinc (v := v15) (lv' := [(6, .int v15), (0, .ref (zad G 0)), (1, .int a1), (2, .int a2), (3, .int a3), (4, .long v13)]) hC dX3_luck_82 5 rfl (by rw [ev15]; rfl) (by decide) rfl ?_
          refine z_goto (tgt := 35) hC dX3_luck_85 (by decide) ?_
          refine z_lv [1, 2, 3, 4, 5, 0] rfl ?_
          exact ih35 _ _ _ hf
        refine z_if_le (tgt := 82) hC dX3_luck_61 (by decide) (fun h16 => ?_) (fun h16 => ?_)
        · replace hf := zif_t h16 hf
          refine z_lv [1, 2, 3, 4, 5, 6] rfl ?_
          exact hJ82 _ _ hf
        replace hf := zif_f h16 hf
        refine z_aload_n hC dX3_luck_64 1 rfl rfl ?_
        refine z_iload hC dX3_luck_65 6 rfl ?_
        refine z_iload_n hC dX3_luck_67 3 rfl rfl ?_
        obtain ⟨v18, w17, ew17, hf⟩ := zbd2_e hf
        refine z_cvi (As := [.int v9, .int a2]) (rest := []) hC zo_bot rfl (c_X3_arrivingBy l G w10 v9 a2 ew17) zw_ml_X3_209 zy_X3_arrivingBy ⟨rfl, rfl, Nat.le_of_ble_eq_true rfl, Nat.le_of_ble_eq_true rfl⟩ rfl rfl (Nat.le_of_ble_eq_true rfl) dX3_luck_68 ?_
        refine z_iload_n hC dX3_luck_71 2 rfl rfl ?_
        refine z_icmp_lt (tgt := 82) hC dX3_luck_72 (by decide) (fun h19 => ?_) (fun h19 => ?_)
        · replace hf := zif_t h19 hf
          refine z_lv [1, 2, 3, 4, 5, 6] rfl ?_
          exact hJ82 _ _ hf
        replace hf := zif_f h19 hf
        refine z_lload hC dX3_luck_75 5 rfl ?_
        refine z_lload hC dX3_luck_77 0 rfl ?_
        refine z_ladd hC dX3_luck_79 ?_
        obtain ⟨v20, ev20, hf⟩ := zlet_e hf
        refine z_topl ev20 ?_
        refine z_lstore (lv' := [(4, .long v20), (7, .long v12), (0, .ref (zad G 0)), (1, .int a1), (2, .int a2), (3, .int a3), (6, .int v9)]) hC dX3_luck_80 (by decide) rfl ?_
        refine z_lv [2, 3, 4, 5, 0, 6] rfl ?_
        exact hJ82 _ _ hf
    refine z_lv [2, 3, 4, 5, 1, 0] rfl ?_
    exact hL35 _ _ _ _ hf
  replace hf := zif_t h3 hf
  refine z_ldc2 hC zw_cst_X3_203 dX3_luck_25 ?_
  obtain ⟨rfl, rfl⟩ := zso2 hf
  exact z_lret hC dX3_luck_28
theorem zy_X3_luck : zYV yX3_luck cX3_luck 9 (some .long) RX3 3 := ⟨zw_cd_X3_luck, zw_im_X3_luck, zw_sel_X3_luck, zw_ini_X3, by decide +kernel⟩
abbrev rm_X3_mean : Room := { frames := 6, cells := 0, slots := 0, locals := 136 }
def b_X3_mean_25 (a1 : Int32) (j74 : Int64 → zW → Option (Int64 × zW)) (k25 : Int64 → Int32 → zW → Option (Int64 × zW)) (v7 : Int64) (v8 : Int32) (w9 : zW) : Option (Int64 × zW) :=
  if ((1 : Int32) <<< ((w9 2 4) &&& 31)) ≤ v8 then
    j74 v7 w9
  else
  zbd (f_X3_weightOf w9 v8) fun v11 =>
  zjn2 (fun (v12 : Int64) (w13 : zW) =>
    zlet (v8 + (1 : Int32)) fun v14 =>
    k25 v12 v14 w13)
  (fun (j68 : Int64 → zW → Option (Int64 × zW)) =>
  if (lg_cmp v11 (0 : Int64)) ≤ (0 : Int32) then
    j68 v7 w9
  else
  zbd2 (f_X3_arrivingBy w9 v8 a1) fun v17 w16 =>
  zlet (v7 + (v11 * (v17.toInt64))) fun v18 =>
  j68 v18 w16)
def f_X3_mean (w : zW) (a1 : Int32) (a2 : Int32) : Option (Int64 × zW) :=
  if (f_X3_isPlan a1) = (0 : Int32) then
    some ((-1 : Int64), w)
  else
  if (f_X3_within a2 (0 : Int32) (1 : Int32)) = (0 : Int32) then
    some ((-1 : Int64), w)
  else
    zjn2 (fun (v3 : Int64) (w4 : zW) =>
      zbd (f_X3_power (10 : Int32) (w4 2 4)) fun v5 =>
      zbd (f_X3_partOfFraction v3 v5 a2) fun v6 =>
      some (v6, w4))
    (fun (j74 : Int64 → zW → Option (Int64 × zW)) =>
    zfix3 (b_X3_mean_25 a1 j74) 100000 (0 : Int64) (0 : Int32) w)
set_option maxRecDepth 100000 in
set_option maxHeartbeats 4000000 in
theorem c_X3_mean (l : Launch) (G : zG) (w : zW) (a1 : Int32) (a2 : Int32) {r : Int64} {wz : zW} (hf : f_X3_mean w a1 a2 = some (r, wz)) : zMet l G yX3_mean cX3_mean 8 (some .long) rm_X3_mean [.ref (zad G 0), .int a1, .int a2] w (some (.long r)) wz := by
  refine z_start (own := RX3) (by decide) rfl (Nat.le_of_ble_eq_true rfl) (lv := [(0, .ref (zad G 0)), (1, .int a1), (2, .int a2)]) rfl ?_
  intro p e s m args below meth c hC
  unfold f_X3_mean at hf
  refine z_iload_n hC dX3_mean_0 1 rfl rfl ?_
  refine z_csi (As := [.int a1]) (rest := []) hC (c_X3_isPlan l G w a1) zw_ml_X3_169 zy_X3_isPlan ⟨rfl, rfl, Nat.le_of_ble_eq_true rfl, Nat.le_of_ble_eq_true rfl⟩ rfl rfl (Nat.le_of_ble_eq_true rfl) dX3_mean_1 ?_
  refine z_if_eq (tgt := 16) hC dX3_mean_4 (by decide) (fun h1 => ?_) (fun h1 => ?_)
  · replace hf := zif_t h1 hf
    refine z_ldc2 hC zw_cst_X3_203 dX3_mean_16 ?_
    obtain ⟨rfl, rfl⟩ := zso2 hf
    exact z_lret hC dX3_mean_19
  replace hf := zif_f h1 hf
  refine z_iload_n hC dX3_mean_7 2 rfl rfl ?_
  refine z_iconst hC dX3_mean_8 (v := 0) rfl ?_
  refine z_iconst hC dX3_mean_9 (v := 1) rfl ?_
  refine z_csi (As := [.int a2, .int (0 : Int32), .int (1 : Int32)]) (rest := []) hC (c_X3_within l G w a2 (0 : Int32) (1 : Int32)) zw_ml_X3_70 zy_X3_within ⟨rfl, rfl, Nat.le_of_ble_eq_true rfl, Nat.le_of_ble_eq_true rfl⟩ rfl rfl (Nat.le_of_ble_eq_true rfl) dX3_mean_10 ?_
  refine z_if_ne (tgt := 20) hC dX3_mean_13 (by decide) (fun h2 => ?_) (fun h2 => ?_)
  · replace hf := zif_f h2 hf
    refine z_lconst hC dX3_mean_20 (v := 0) rfl ?_
    refine z_lstore_n (lv' := [(3, .long (0 : Int64)), (0, .ref (zad G 0)), (1, .int a1), (2, .int a2)]) hC dX3_mean_21 rfl (by decide) rfl ?_
    refine z_iconst hC dX3_mean_22 (v := 0) rfl ?_
    refine z_istore (lv' := [(5, .int (0 : Int32)), (3, .long (0 : Int64)), (0, .ref (zad G 0)), (1, .int a1), (2, .int a2)]) hC dX3_mean_23 (by decide) rfl ?_
    obtain ⟨j74, hj74, hf⟩ := zjn2_e hf
    have hJ74 : ∀ (v3 : Int64) (w4 : zW), j74 v3 w4 = some (r, wz) → Z G p l e rm_X3_mean s m args below meth c (MQ below (zQ G (some (.long r)) wz) args s 0 0 (zA G)) 8 74 [(0, .ref (zad G 0)), (2, .int a2), (3, .long v3)] [] w4 := by
      intro v3 w4 hf
      replace hf := hj74 v3 w4 hf
      refine z_lload_n hC dX3_mean_74 2 rfl rfl ?_
      refine z_bipush hC dX3_mean_75 (v := 10) rfl ?_
      refine z_aload_n hC dX3_mean_77 0 rfl rfl ?_
      refine z_get3 hC 3 (by decide) zw_fl_X3_23 (v := .ref (zad G 2)) rfl dX3_mean_78 ?_
      refine z_get0 hC zcamp2 4 (by decide) zw_fl_X3_94 (v := .int (w4 2 4)) rfl dX3_mean_81 ?_
      obtain ⟨v5, ev5, hf⟩ := zbd_e hf
      refine z_csl (As := [.int (10 : Int32), .int (w4 2 4)]) (rest := [.long v3]) hC (c_X3_power l G w4 (10 : Int32) (w4 2 4) ev5) zw_ml_X3_212 zy_X3_power ⟨rfl, rfl, Nat.le_of_ble_eq_true rfl, Nat.le_of_ble_eq_true rfl⟩ rfl rfl (Nat.le_of_ble_eq_true rfl) dX3_mean_84 ?_
      refine z_iload_n hC dX3_mean_87 1 rfl rfl ?_
      obtain ⟨v6, ev6, hf⟩ := zbd_e hf
      refine z_csl (As := [.long v3, .long v5, .int a2]) (rest := []) hC (c_X3_partOfFraction l G w4 v3 v5 a2 ev6) zw_ml_X3_216 zy_X3_partOfFraction ⟨rfl, rfl, Nat.le_of_ble_eq_true rfl, Nat.le_of_ble_eq_true rfl⟩ rfl rfl (Nat.le_of_ble_eq_true rfl) dX3_mean_88 ?_
      obtain ⟨rfl, rfl⟩ := zso2 hf
      exact z_lret hC dX3_mean_91
    have hL25 : ∀ (n : Nat) (v7 : Int64) (v8 : Int32) (w9 : zW), zfix3 (b_X3_mean_25 a1 j74) n v7 v8 w9 = some (r, wz) → Z G p l e rm_X3_mean s m args below meth c (MQ below (zQ G (some (.long r)) wz) args s 0 0 (zA G)) 8 25 [(0, .ref (zad G 0)), (1, .int a1), (2, .int a2), (3, .long v7), (5, .int v8)] [] w9 := by
      intro n
      induction n with
      | zero => intro v7 v8 w9 hf; exact (zfix3_0 hf).elim
      | succ n ih25 =>
        intro v7 v8 w9 hf
        replace hf := zfix3_e hf
        unfold b_X3_mean_25 at hf
        refine z_iload hC dX3_mean_25 4 rfl ?_
        refine z_iconst hC dX3_mean_27 (v := 1) rfl ?_
        refine z_aload_n hC dX3_mean_28 0 rfl rfl ?_
        refine z_get3 hC 3 (by decide) zw_fl_X3_23 (v := .ref (zad G 2)) rfl dX3_mean_29 ?_
        refine z_get0 hC zcamp2 4 (by decide) zw_fl_X3_94 (v := .int (w9 2 4)) rfl dX3_mean_32 ?_
        refine z_ishl hC dX3_mean_35 ?_
        refine z_icmp_ge (tgt := 74) hC dX3_mean_36 (by decide) (fun h10 => ?_) (fun h10 => ?_)
        · replace hf := zif_t h10 hf
          refine z_lv [0, 2, 3] rfl ?_
          exact hJ74 _ _ hf
        replace hf := zif_f h10 hf
        refine z_aload_n hC dX3_mean_39 0 rfl rfl ?_
        refine z_iload hC dX3_mean_40 4 rfl ?_
        obtain ⟨v11, ev11, hf⟩ := zbd_e hf
        refine z_cvl (As := [.int v8]) (rest := []) hC zo_bot rfl (c_X3_weightOf l G w9 v8 ev11) zw_ml_X3_205 zy_X3_weightOf ⟨rfl, rfl, Nat.le_of_ble_eq_true rfl, Nat.le_of_ble_eq_true rfl⟩ rfl rfl (Nat.le_of_ble_eq_true rfl) dX3_mean_42 ?_
        refine z_lstore (lv' := [(6, .long v11), (0, .ref (zad G 0)), (1, .int a1), (2, .int a2), (3, .long v7), (5, .int v8)]) hC dX3_mean_45 (by decide) rfl ?_
        refine z_lload hC dX3_mean_47 0 rfl ?_
        refine z_lconst hC dX3_mean_49 (v := 0) rfl ?_
        refine z_lcmp hC dX3_mean_50 ?_
        obtain ⟨j68, hj68, hf⟩ := zjn2_e hf
        have hJ68 : ∀ (v12 : Int64) (w13 : zW), j68 v12 w13 = some (r, wz) → Z G p l e rm_X3_mean s m args below meth c (MQ below (zQ G (some (.long r)) wz) args s 0 0 (zA G)) 8 68 [(0, .ref (zad G 0)), (1, .int a1), (2, .int a2), (3, .long v12), (5, .int v8)] [] w13 := by
          intro v12 w13 hf
          replace hf := hj68 v12 w13 hf
          obtain ⟨v14, ev14, hf⟩ := zlet_e hf
          refine z_iinc (v := v14) (lv' := [(5, .int v14), (0, .ref (zad G 0)), (1, .int a1), (2, .int a2), (3, .long v12)]) hC dX3_mean_68 4 rfl (by rw [ev14]; rfl) (by decide) rfl ?_
          refine z_goto (tgt := 25) hC dX3_mean_71 (by decide) ?_
          refine z_lv [1, 2, 3, 4, 0] rfl ?_
          exact ih25 _ _ _ hf
        refine z_if_le (tgt := 68) hC dX3_mean_51 (by decide) (fun h15 => ?_) (fun h15 => ?_)
        · replace hf := zif_t h15 hf
          refine z_lv [1, 2, 3, 4, 5] rfl ?_
          exact hJ68 _ _ hf
        replace hf := zif_f h15 hf
        refine z_lload_n hC dX3_mean_54 4 rfl rfl ?_
        refine z_lload hC dX3_mean_55 0 rfl ?_
        refine z_aload_n hC dX3_mean_57 1 rfl rfl ?_
        refine z_iload hC dX3_mean_58 5 rfl ?_
        refine z_iload_n hC dX3_mean_60 2 rfl rfl ?_
        obtain ⟨v17, w16, ew16, hf⟩ := zbd2_e hf
        refine z_cvi (As := [.int v8, .int a1]) (rest := [.long v11, .long v7]) hC zo_bot rfl (c_X3_arrivingBy l G w9 v8 a1 ew16) zw_ml_X3_209 zy_X3_arrivingBy ⟨rfl, rfl, Nat.le_of_ble_eq_true rfl, Nat.le_of_ble_eq_true rfl⟩ rfl rfl (Nat.le_of_ble_eq_true rfl) dX3_mean_61 ?_
        refine z_i2l hC dX3_mean_64 ?_
        refine z_lmul hC dX3_mean_65 ?_
        refine z_ladd hC dX3_mean_66 ?_
        obtain ⟨v18, ev18, hf⟩ := zlet_e hf
        refine z_topl ev18 ?_
        refine z_lstore_n (lv' := [(3, .long v18), (6, .long v11), (0, .ref (zad G 0)), (1, .int a1), (2, .int a2), (5, .int v8)]) hC dX3_mean_67 rfl (by decide) rfl ?_
        refine z_lv [2, 3, 4, 0, 5] rfl ?_
        exact hJ68 _ _ hf
    refine z_lv [2, 3, 4, 1, 0] rfl ?_
    exact hL25 _ _ _ _ hf
  replace hf := zif_t h2 hf
  refine z_ldc2 hC zw_cst_X3_203 dX3_mean_16 ?_
  obtain ⟨rfl, rfl⟩ := zso2 hf
  exact z_lret hC dX3_mean_19
theorem zy_X3_mean : zYV yX3_mean cX3_mean 8 (some .long) RX3 2 := ⟨zw_cd_X3_mean, zw_im_X3_mean, zw_sel_X3_mean, zw_ini_X3, by decide +kernel⟩
abbrev rm_X3_odd : Room := { frames := 2, cells := 0, slots := 0, locals := 43 }
def f_X3_odd (w : zW) (a1 : Int32) (a2 : Int32) : Option (Int32 × zW) :=
  if (f_X3_isWell w a1) = (0 : Int32) then
    some ((-1 : Int32), w)
  else
  if (f_X3_within a2 (0 : Int32) (10 : Int32)) = (0 : Int32) then
    some ((-1 : Int32), w)
  else
    zg (zin a1 3) <|
    zlet (w (2 + 5) (zx a1)) fun v4 =>
    zg (zin a1 3) <|
    zlet (zup w (2 + 5) (zx a1) a2) fun w6 =>
    some (v4, w6)
set_option maxRecDepth 100000 in
set_option maxHeartbeats 4000000 in
theorem c_X3_odd (l : Launch) (G : zG) (w : zW) (a1 : Int32) (a2 : Int32) {r : Int32} {wz : zW} (hf : f_X3_odd w a1 a2 = some (r, wz)) : zMet l G yX3_odd cX3_odd 4 (some .int) rm_X3_odd [.ref (zad G 0), .int a1, .int a2] w (some (.int r)) wz := by
  refine z_start (own := RX3) (by decide) rfl (Nat.le_of_ble_eq_true rfl) (lv := [(0, .ref (zad G 0)), (1, .int a1), (2, .int a2)]) rfl ?_
  intro p e s m args below meth c hC
  unfold f_X3_odd at hf
  refine z_aload_n hC dX3_odd_0 0 rfl rfl ?_
  refine z_iload_n hC dX3_odd_1 1 rfl rfl ?_
  refine z_cvi (As := [.int a1]) (rest := []) hC zo_bot rfl (c_X3_isWell l G w a1) zw_ml_X3_135 zy_X3_isWell ⟨rfl, rfl, Nat.le_of_ble_eq_true rfl, Nat.le_of_ble_eq_true rfl⟩ rfl rfl (Nat.le_of_ble_eq_true rfl) dX3_odd_2 ?_
  refine z_if_eq (tgt := 18) hC dX3_odd_5 (by decide) (fun h1 => ?_) (fun h1 => ?_)
  · replace hf := zif_t h1 hf
    refine z_iconst hC dX3_odd_18 (v := -1) rfl ?_
    obtain ⟨rfl, rfl⟩ := zso2 hf
    exact z_iret hC dX3_odd_19
  replace hf := zif_f h1 hf
  refine z_iload_n hC dX3_odd_8 2 rfl rfl ?_
  refine z_iconst hC dX3_odd_9 (v := 0) rfl ?_
  refine z_bipush hC dX3_odd_10 (v := 10) rfl ?_
  refine z_csi (As := [.int a2, .int (0 : Int32), .int (10 : Int32)]) (rest := []) hC (c_X3_within l G w a2 (0 : Int32) (10 : Int32)) zw_ml_X3_70 zy_X3_within ⟨rfl, rfl, Nat.le_of_ble_eq_true rfl, Nat.le_of_ble_eq_true rfl⟩ rfl rfl (Nat.le_of_ble_eq_true rfl) dX3_odd_12 ?_
  refine z_if_ne (tgt := 20) hC dX3_odd_15 (by decide) (fun h2 => ?_) (fun h2 => ?_)
  · replace hf := zif_f h2 hf
    refine z_aload_n hC dX3_odd_20 0 rfl rfl ?_
    refine z_get3 hC 3 (by decide) zw_fl_X3_23 (v := .ref (zad G 2)) rfl dX3_odd_21 ?_
    refine z_get0 hC zcamp2 6 (by decide) zw_fl_X3_141 (v := .ref (zad G (2 + 5))) rfl dX3_odd_24 ?_
    refine z_iload_n hC dX3_odd_27 1 rfl rfl ?_
    obtain ⟨hg3, hf⟩ := zg_e hf
    refine z_iald hC (za_c5 zcamp2) hg3 rfl dX3_odd_28 ?_
    obtain ⟨v4, ev4, hf⟩ := zlet_e hf
    refine z_topi ev4 ?_
    refine z_istore_n (lv' := [(3, .int v4), (0, .ref (zad G 0)), (1, .int a1), (2, .int a2)]) hC dX3_odd_29 rfl (by decide) rfl ?_
    refine z_aload_n hC dX3_odd_30 1 rfl rfl ?_
    refine z_get3 hC 3 (by decide) zw_fl_X3_23 (v := .ref (zad G 2)) rfl dX3_odd_31 ?_
    refine z_get0 hC zcamp2 6 (by decide) zw_fl_X3_141 (v := .ref (zad G (2 + 5))) rfl dX3_odd_34 ?_
    refine z_iload_n hC dX3_odd_37 2 rfl rfl ?_
    refine z_iload_n hC dX3_odd_38 3 rfl rfl ?_
    obtain ⟨hg5, hf⟩ := zg_e hf
    obtain ⟨w6, ew6, hf⟩ := zlet_e hf
    refine z_iast hC (za_c5 zcamp2) hg5 rfl ew6 dX3_odd_39 ?_
    refine z_iload_n hC dX3_odd_40 0 rfl rfl ?_
    obtain ⟨rfl, rfl⟩ := zso2 hf
    exact z_iret hC dX3_odd_41
  replace hf := zif_t h2 hf
  refine z_iconst hC dX3_odd_18 (v := -1) rfl ?_
  obtain ⟨rfl, rfl⟩ := zso2 hf
  exact z_iret hC dX3_odd_19
theorem zy_X3_odd : zYV yX3_odd cX3_odd 4 (some .int) RX3 2 := ⟨zw_cd_X3_odd, zw_im_X3_odd, zw_sel_X3_odd, zw_ini_X3, by decide +kernel⟩
abbrev rm_X3_one : Room := { frames := 2, cells := 0, slots := 0, locals := 43 }
def f_X3_one (w : zW) (a1 : Int32) (a2 : Int32) : Option Int32 :=
  if (f_X3_isOne w a1) = (0 : Int32) then
    some (-1 : Int32)
  else
    if a2 = (0 : Int32) then
      zg (zin a1 4) <|
      some (w (2 + 1) (zx a1))
    else
    if a2 = (1 : Int32) then
      zg (zin a1 4) <|
      some (w (2 + 2) (zx a1))
    else
    if a2 = (2 : Int32) then
      zg (zin a1 4) <|
      some (w (2 + 3) (zx a1))
    else
    if a2 = (3 : Int32) then
      zbd (f_X0_wanted w 2 a1) fun v9 =>
      some v9
    else
    some (-1 : Int32)
set_option maxRecDepth 100000 in
set_option maxHeartbeats 4000000 in
theorem c_X3_one (l : Launch) (G : zG) (w : zW) (a1 : Int32) (a2 : Int32) {r : Int32} (hf : f_X3_one w a1 a2 = some r) : zMet l G yX3_one cX3_one 3 (some .int) rm_X3_one [.ref (zad G 0), .int a1, .int a2] w (some (.int r)) w := by
  refine z_start (own := RX3) (by decide) rfl (Nat.le_of_ble_eq_true rfl) (lv := [(0, .ref (zad G 0)), (1, .int a1), (2, .int a2)]) rfl ?_
  intro p e s m args below meth c hC
  unfold f_X3_one at hf
  refine z_aload_n hC dX3_one_0 0 rfl rfl ?_
  refine z_iload_n hC dX3_one_1 1 rfl rfl ?_
  refine z_cvi (As := [.int a1]) (rest := []) hC zo_bot rfl (c_X3_isOne l G w a1) zw_ml_X3_118 zy_X3_isOne ⟨rfl, rfl, Nat.le_of_ble_eq_true rfl, Nat.le_of_ble_eq_true rfl⟩ rfl rfl (Nat.le_of_ble_eq_true rfl) dX3_one_2 ?_
  refine z_if_ne (tgt := 10) hC dX3_one_5 (by decide) (fun h1 => ?_) (fun h1 => ?_)
  · replace hf := zif_f h1 hf
    refine z_iload_n hC dX3_one_10 2 rfl rfl ?_
    by_cases h2 : a2 = (0 : Int32)
    · replace hf := zif_t h2 hf
      refine z_tabIn (tgt := 40) hC dX3_one_11 (by rw [h2]; decide) (by rw [h2]; decide) (by rw [h2]; rfl) (by decide) ?_
      refine z_aload_n hC dX3_one_40 0 rfl rfl ?_
      refine z_get3 hC 3 (by decide) zw_fl_X3_23 (v := .ref (zad G 2)) rfl dX3_one_41 ?_
      refine z_get0 hC zcamp2 1 (by decide) zw_fl_X3_122 (v := .ref (zad G (2 + 1))) rfl dX3_one_44 ?_
      refine z_iload_n hC dX3_one_47 1 rfl rfl ?_
      obtain ⟨hg3, hf⟩ := zg_e hf
      refine z_iald hC (za_c1 zcamp2) hg3 rfl dX3_one_48 ?_
      obtain rfl := zso1 hf
      exact z_iret hC dX3_one_49
    replace hf := zif_f h2 hf
    by_cases h4 : a2 = (1 : Int32)
    · replace hf := zif_t h4 hf
      refine z_tabIn (tgt := 50) hC dX3_one_11 (by rw [h4]; decide) (by rw [h4]; decide) (by rw [h4]; rfl) (by decide) ?_
      refine z_aload_n hC dX3_one_50 0 rfl rfl ?_
      refine z_get3 hC 3 (by decide) zw_fl_X3_23 (v := .ref (zad G 2)) rfl dX3_one_51 ?_
      refine z_get0 hC zcamp2 2 (by decide) zw_fl_X3_125 (v := .ref (zad G (2 + 2))) rfl dX3_one_54 ?_
      refine z_iload_n hC dX3_one_57 1 rfl rfl ?_
      obtain ⟨hg5, hf⟩ := zg_e hf
      refine z_iald hC (za_c2 zcamp2) hg5 rfl dX3_one_58 ?_
      obtain rfl := zso1 hf
      exact z_iret hC dX3_one_59
    replace hf := zif_f h4 hf
    by_cases h6 : a2 = (2 : Int32)
    · replace hf := zif_t h6 hf
      refine z_tabIn (tgt := 60) hC dX3_one_11 (by rw [h6]; decide) (by rw [h6]; decide) (by rw [h6]; rfl) (by decide) ?_
      refine z_aload_n hC dX3_one_60 0 rfl rfl ?_
      refine z_get3 hC 3 (by decide) zw_fl_X3_23 (v := .ref (zad G 2)) rfl dX3_one_61 ?_
      refine z_get0 hC zcamp2 3 (by decide) zw_fl_X3_128 (v := .ref (zad G (2 + 3))) rfl dX3_one_64 ?_
      refine z_iload_n hC dX3_one_67 1 rfl rfl ?_
      obtain ⟨hg7, hf⟩ := zg_e hf
      refine z_iald hC (za_c3 zcamp2) hg7 rfl dX3_one_68 ?_
      obtain rfl := zso1 hf
      exact z_iret hC dX3_one_69
    replace hf := zif_f h6 hf
    by_cases h8 : a2 = (3 : Int32)
    · replace hf := zif_t h8 hf
      refine z_tabIn (tgt := 70) hC dX3_one_11 (by rw [h8]; decide) (by rw [h8]; decide) (by rw [h8]; rfl) (by decide) ?_
      refine z_aload_n hC dX3_one_70 0 rfl rfl ?_
      refine z_get3 hC 3 (by decide) zw_fl_X3_23 (v := .ref (zad G 2)) rfl dX3_one_71 ?_
      refine z_iload_n hC dX3_one_74 1 rfl rfl ?_
      obtain ⟨v9, ev9, hf⟩ := zbd_e hf
      refine z_cvi (As := [.int a1]) (rest := []) hC (zo_camp zcamp2) rfl (c_X0_wanted l G w 2 zcamp2 a1 ev9) zw_ml_X3_131 zy_X0_wanted ⟨rfl, rfl, Nat.le_of_ble_eq_true rfl, Nat.le_of_ble_eq_true rfl⟩ rfl rfl (Nat.le_of_ble_eq_true rfl) dX3_one_75 ?_
      obtain rfl := zso1 hf
      exact z_iret hC dX3_one_78
    replace hf := zif_f h8 hf
    have nh2 := znt (k := 0) (by decide) h2
    have nh4 := znt (k := 1) (by decide) h4
    have nh6 := znt (k := 2) (by decide) h6
    have nh8 := znt (k := 3) (by decide) h8
    refine z_tabOut (tgt := 79) hC dX3_one_11 (by omega) (by decide) ?_
    refine z_iconst hC dX3_one_79 (v := -1) rfl ?_
    obtain rfl := zso1 hf
    exact z_iret hC dX3_one_80
  replace hf := zif_t h1 hf
  refine z_iconst hC dX3_one_8 (v := -1) rfl ?_
  obtain rfl := zso1 hf
  exact z_iret hC dX3_one_9
theorem zy_X3_one : zYV yX3_one cX3_one 3 (some .int) RX3 2 := ⟨zw_cd_X3_one, zw_im_X3_one, zw_sel_X3_one, zw_ini_X3, by decide +kernel⟩
abbrev rm_X3_plan : Room := { frames := 2, cells := 0, slots := 0, locals := 42 }
def f_X3_plan (w : zW) (a1 : Int32) : Option (Int32 × zW) :=
  if (f_X3_isPlan a1) = (0 : Int32) then
    some ((-1 : Int32), w)
  else
    zlet (w 2 13) fun v2 =>
    zlet (zup w 2 13 a1) fun w3 =>
    some (v2, w3)
set_option maxRecDepth 100000 in
set_option maxHeartbeats 4000000 in
theorem c_X3_plan (l : Launch) (G : zG) (w : zW) (a1 : Int32) {r : Int32} {wz : zW} (hf : f_X3_plan w a1 = some (r, wz)) : zMet l G yX3_plan cX3_plan 3 (some .int) rm_X3_plan [.ref (zad G 0), .int a1] w (some (.int r)) wz := by
  refine z_start (own := RX3) (by decide) rfl (Nat.le_of_ble_eq_true rfl) (lv := [(0, .ref (zad G 0)), (1, .int a1)]) rfl ?_
  intro p e s m args below meth c hC
  unfold f_X3_plan at hf
  refine z_iload_n hC dX3_plan_0 1 rfl rfl ?_
  refine z_csi (As := [.int a1]) (rest := []) hC (c_X3_isPlan l G w a1) zw_ml_X3_169 zy_X3_isPlan ⟨rfl, rfl, Nat.le_of_ble_eq_true rfl, Nat.le_of_ble_eq_true rfl⟩ rfl rfl (Nat.le_of_ble_eq_true rfl) dX3_plan_1 ?_
  refine z_if_ne (tgt := 9) hC dX3_plan_4 (by decide) (fun h1 => ?_) (fun h1 => ?_)
  · replace hf := zif_f h1 hf
    refine z_aload_n hC dX3_plan_9 0 rfl rfl ?_
    refine z_get3 hC 3 (by decide) zw_fl_X3_23 (v := .ref (zad G 2)) rfl dX3_plan_10 ?_
    refine z_get0 hC zcamp2 13 (by decide) zw_fl_X3_109 (v := .int (w 2 13)) rfl dX3_plan_13 ?_
    obtain ⟨v2, ev2, hf⟩ := zlet_e hf
    refine z_topi ev2 ?_
    refine z_istore_n (lv' := [(2, .int v2), (0, .ref (zad G 0)), (1, .int a1)]) hC dX3_plan_16 rfl (by decide) rfl ?_
    refine z_aload_n hC dX3_plan_17 1 rfl rfl ?_
    refine z_get3 hC 3 (by decide) zw_fl_X3_23 (v := .ref (zad G 2)) rfl dX3_plan_18 ?_
    refine z_iload_n hC dX3_plan_21 2 rfl rfl ?_
    obtain ⟨w3, ew3, hf⟩ := zlet_e hf
    refine z_put0 hC zcamp2 13 (by decide) rfl rfl zw_fl_X3_109 rfl ew3 dX3_plan_22 ?_
    refine z_iload_n hC dX3_plan_25 0 rfl rfl ?_
    obtain ⟨rfl, rfl⟩ := zso2 hf
    exact z_iret hC dX3_plan_26
  replace hf := zif_t h1 hf
  refine z_iconst hC dX3_plan_7 (v := -1) rfl ?_
  obtain ⟨rfl, rfl⟩ := zso2 hf
  exact z_iret hC dX3_plan_8
theorem zy_X3_plan : zYV yX3_plan cX3_plan 3 (some .int) RX3 1 := ⟨zw_cd_X3_plan, zw_im_X3_plan, zw_sel_X3_plan, zw_ini_X3, by decide +kernel⟩
abbrev rm_X3_pours : Room := { frames := 1, cells := 0, slots := 0, locals := 20 }
def f_X3_pours (w : zW) : Option Int32 :=
  zbd (f_X0_pourer w 2) fun v1 =>
  some v1
set_option maxRecDepth 100000 in
set_option maxHeartbeats 4000000 in
theorem c_X3_pours (l : Launch) (G : zG) (w : zW) {r : Int32} (hf : f_X3_pours w = some r) : zMet l G yX3_pours cX3_pours 1 (some .int) rm_X3_pours [.ref (zad G 0)] w (some (.int r)) w := by
  refine z_start (own := RX3) (by decide) rfl (Nat.le_of_ble_eq_true rfl) (lv := [(0, .ref (zad G 0))]) rfl ?_
  intro p e s m args below meth c hC
  unfold f_X3_pours at hf
  refine z_aload_n hC dX3_pours_0 0 rfl rfl ?_
  refine z_get3 hC 3 (by decide) zw_fl_X3_23 (v := .ref (zad G 2)) rfl dX3_pours_1 ?_
  obtain ⟨v1, ev1, hf⟩ := zbd_e hf
  refine z_cvi (As := []) (rest := []) hC (zo_camp zcamp2) rfl (c_X0_pourer l G w 2 zcamp2 ev1) zw_ml_X3_154 zy_X0_pourer ⟨rfl, rfl, Nat.le_of_ble_eq_true rfl, Nat.le_of_ble_eq_true rfl⟩ rfl rfl (Nat.le_of_ble_eq_true rfl) dX3_pours_4 ?_
  obtain rfl := zso1 hf
  exact z_iret hC dX3_pours_7
theorem zy_X3_pours : zYV yX3_pours cX3_pours 1 (some .int) RX3 0 := ⟨zw_cd_X3_pours, zw_im_X3_pours, zw_sel_X3_pours, zw_ini_X3, by decide +kernel⟩
abbrev rm_X3_put : Room := { frames := 2, cells := 0, slots := 0, locals := 43 }
def f_X3_put (w : zW) (a1 : Int32) (a2 : Int32) (a3 : Int32) : Option (Int32 × zW) :=
  if (f_X3_isSheet a1) = (0 : Int32) then
    some ((-1 : Int32), w)
  else
    zg (zin a1 4) <|
    zlet (f_X1_faultAt w (48 + 2 * zx a1) a2) fun v3 =>
    if v3 = (0 : Int32) then
      zg (zin a1 4) <|
      zbd (f_X1_write w (48 + 2 * zx a1) a2 a3) fun w6 =>
      some ((1 : Int32), w6)
    else
    some ((-10 : Int32) - v3, w)
set_option maxRecDepth 100000 in
set_option maxHeartbeats 4000000 in
theorem c_X3_put (l : Launch) (G : zG) (w : zW) (a1 : Int32) (a2 : Int32) (a3 : Int32) {r : Int32} {wz : zW} (hf : f_X3_put w a1 a2 a3 = some (r, wz)) : zMet l G yX3_put cX3_put 5 (some .int) rm_X3_put [.ref (zad G 0), .int a1, .int a2, .int a3] w (some (.int r)) wz := by
  refine z_start (own := RX3) (by decide) rfl (Nat.le_of_ble_eq_true rfl) (lv := [(0, .ref (zad G 0)), (1, .int a1), (2, .int a2), (3, .int a3)]) rfl ?_
  intro p e s m args below meth c hC
  unfold f_X3_put at hf
  refine z_iload_n hC dX3_put_0 1 rfl rfl ?_
  refine z_csi (As := [.int a1]) (rest := []) hC (c_X3_isSheet l G w a1) zw_ml_X3_227 zy_X3_isSheet ⟨rfl, rfl, Nat.le_of_ble_eq_true rfl, Nat.le_of_ble_eq_true rfl⟩ rfl rfl (Nat.le_of_ble_eq_true rfl) dX3_put_1 ?_
  refine z_if_ne (tgt := 9) hC dX3_put_4 (by decide) (fun h1 => ?_) (fun h1 => ?_)
  · replace hf := zif_f h1 hf
    refine z_aload_n hC dX3_put_9 0 rfl rfl ?_
    refine z_get3 hC 12 (by decide) zw_fl_X3_63 (v := .ref (zad G 47)) rfl dX3_put_10 ?_
    refine z_iload_n hC dX3_put_13 1 rfl rfl ?_
    obtain ⟨hg2, hf⟩ := zg_e hf
    refine z_aald47 hC hg2 dX3_put_14 ?_
    refine z_iload_n hC dX3_put_15 2 rfl rfl ?_
    refine z_cvi (As := [.int a2]) (rest := []) hC (zo_shee (zsheeI hg2)) rfl (c_X1_faultAt l G w (48 + 2 * zx a1) (zsheeI hg2) a2) zw_ml_X3_236 zy_X1_faultAt ⟨rfl, rfl, Nat.le_of_ble_eq_true rfl, Nat.le_of_ble_eq_true rfl⟩ rfl rfl (Nat.le_of_ble_eq_true rfl) dX3_put_16 ?_
    obtain ⟨v3, ev3, hf⟩ := zlet_e hf
    refine z_topi ev3 ?_
    refine z_istore (lv' := [(4, .int v3), (0, .ref (zad G 0)), (1, .int a1), (2, .int a2), (3, .int a3)]) hC dX3_put_19 (by decide) rfl ?_
    refine z_iload hC dX3_put_21 0 rfl ?_
    refine z_if_eq (tgt := 32) hC dX3_put_23 (by decide) (fun h4 => ?_) (fun h4 => ?_)
    · replace hf := zif_t h4 hf
      refine z_aload_n hC dX3_put_32 1 rfl rfl ?_
      refine z_get3 hC 12 (by decide) zw_fl_X3_63 (v := .ref (zad G 47)) rfl dX3_put_33 ?_
      refine z_iload_n hC dX3_put_36 2 rfl rfl ?_
      obtain ⟨hg5, hf⟩ := zg_e hf
      refine z_aald47 hC hg5 dX3_put_37 ?_
      refine z_iload_n hC dX3_put_38 3 rfl rfl ?_
      refine z_iload_n hC dX3_put_39 4 rfl rfl ?_
      obtain ⟨w6, ew6, hf⟩ := zbd_e hf
      refine z_cvv (As := [.int a2, .int a3]) (rest := []) hC (zo_shee (zsheeI hg5)) rfl (c_X1_write l G w (48 + 2 * zx a1) (zsheeI hg5) a2 a3 ew6) zw_ml_X3_239 zy_X1_write ⟨rfl, rfl, Nat.le_of_ble_eq_true rfl, Nat.le_of_ble_eq_true rfl⟩ rfl rfl (Nat.le_of_ble_eq_true rfl) dX3_put_40 ?_
      refine z_iconst hC dX3_put_43 (v := 1) rfl ?_
      obtain ⟨rfl, rfl⟩ := zso2 hf
      exact z_iret hC dX3_put_44
    replace hf := zif_f h4 hf
    refine z_bipush hC dX3_put_26 (v := -10) rfl ?_
    refine z_iload hC dX3_put_28 0 rfl ?_
    refine z_isub hC dX3_put_30 ?_
    obtain ⟨rfl, rfl⟩ := zso2 hf
    exact z_iret hC dX3_put_31
  replace hf := zif_t h1 hf
  refine z_iconst hC dX3_put_7 (v := -1) rfl ?_
  obtain ⟨rfl, rfl⟩ := zso2 hf
  exact z_iret hC dX3_put_8
theorem zy_X3_put : zYV yX3_put cX3_put 5 (some .int) RX3 3 := ⟨zw_cd_X3_put, zw_im_X3_put, zw_sel_X3_put, zw_ini_X3, by decide +kernel⟩
abbrev rm_X3_read : Room := { frames := 3, cells := 0, slots := 0, locals := 66 }
def b_X3_read_55 (a1 : Int32) (a2 : Int32) (a3 : Int32) (a4 : Int32) (j131 : Int32 → Int32 → zW → Option (Int32 × zW)) (j85 : Int32 → Int32 → zW → Option (Int32 × zW)) (k55 : Int32 → Int32 → Int32 → zW → Option (Int32 × zW)) (v14 : Int32) (v15 : Int32) (v16 : Int32) (w17 : zW) : Option (Int32 × zW) :=
  if a4 ≤ v16 then
    j131 v14 v15 w17
  else
  zlet (a3 + ((2 : Int32) * v16)) fun v19 =>
  zlet (f_X1_faultOfPair w17 (48 + 2 * zx a1) a2 v19) fun v20 =>
  if v20 = (0 : Int32) then
    zg (zin v19 40) <|
    zg (zin (v19 + (1 : Int32)) 40) <|
    zbd2 (f_X0_drinkAsAsked w17 10 (w17 ((48 + 2 * zx a1) + 1) (zx v19)) (w17 ((48 + 2 * zx a1) + 1) (zx (v19 + (1 : Int32))))) fun v25 w24 =>
    if (0 : Int32) ≤ v25 then
      zlet (v15 + (1 : Int32)) fun v27 =>
      zlet (v16 + (1 : Int32)) fun v28 =>
      k55 v20 v27 v28 w24
    else
    some ((-20 : Int32) - v16, w24)
  else
  j85 v20 v15 w17
def f_X3_read (w : zW) (a1 : Int32) (a2 : Int32) (a3 : Int32) (a4 : Int32) : Option (Int32 × zW) :=
  if (f_X3_isSheet a1) = (0 : Int32) then
    some ((-1 : Int32), w)
  else
  if (f_X3_isLane a2) = (0 : Int32) then
    some ((-1 : Int32), w)
  else
  if (f_X3_within a4 (0 : Int32) (20 : Int32)) = (0 : Int32) then
    some ((-1 : Int32), w)
  else
    zg (zin a1 4) <|
    zbd (f_X0_copyFrom w 10 2) fun w5 =>
    zjn3 (fun (v6 : Int32) (v7 : Int32) (w8 : zW) =>
      zbd (f_X0_copyFrom w8 2 10) fun w9 =>
      zlet (zup w9 0 13 v6) fun w10 =>
      some (v7, w10))
    (fun (j131 : Int32 → Int32 → zW → Option (Int32 × zW)) =>
    zjn3 (fun (v11 : Int32) (v12 : Int32) (w13 : zW) =>
      j131 v11 v12 w13)
    (fun (j85 : Int32 → Int32 → zW → Option (Int32 × zW)) =>
    zfix4 (b_X3_read_55 a1 a2 a3 a4 j131 j85) 100000 (0 : Int32) (0 : Int32) (0 : Int32) w5))
set_option maxRecDepth 100000 in
set_option maxHeartbeats 4000000 in
theorem c_X3_read (l : Launch) (G : zG) (w : zW) (a1 : Int32) (a2 : Int32) (a3 : Int32) (a4 : Int32) {r : Int32} {wz : zW} (hf : f_X3_read w a1 a2 a3 a4 = some (r, wz)) : zMet l G yX3_read cX3_read 10 (some .int) rm_X3_read [.ref (zad G 0), .int a1, .int a2, .int a3, .int a4] w (some (.int r)) wz := by
  refine z_start (own := RX3) (by decide) rfl (Nat.le_of_ble_eq_true rfl) (lv := [(0, .ref (zad G 0)), (1, .int a1), (2, .int a2), (3, .int a3), (4, .int a4)]) rfl ?_
  intro p e s m args below meth c hC
  unfold f_X3_read at hf
  refine z_iload_n hC dX3_read_0 1 rfl rfl ?_
  refine z_csi (As := [.int a1]) (rest := []) hC (c_X3_isSheet l G w a1) zw_ml_X3_227 zy_X3_isSheet ⟨rfl, rfl, Nat.le_of_ble_eq_true rfl, Nat.le_of_ble_eq_true rfl⟩ rfl rfl (Nat.le_of_ble_eq_true rfl) dX3_read_1 ?_
  refine z_if_eq (tgt := 25) hC dX3_read_4 (by decide) (fun h1 => ?_) (fun h1 => ?_)
  · replace hf := zif_t h1 hf
    refine z_iconst hC dX3_read_25 (v := -1) rfl ?_
    obtain ⟨rfl, rfl⟩ := zso2 hf
    exact z_iret hC dX3_read_26
  replace hf := zif_f h1 hf
  refine z_iload_n hC dX3_read_7 2 rfl rfl ?_
  refine z_csi (As := [.int a2]) (rest := []) hC (c_X3_isLane l G w a2) zw_ml_X3_230 zy_X3_isLane ⟨rfl, rfl, Nat.le_of_ble_eq_true rfl, Nat.le_of_ble_eq_true rfl⟩ rfl rfl (Nat.le_of_ble_eq_true rfl) dX3_read_8 ?_
  refine z_if_eq (tgt := 25) hC dX3_read_11 (by decide) (fun h2 => ?_) (fun h2 => ?_)
  · replace hf := zif_t h2 hf
    refine z_iconst hC dX3_read_25 (v := -1) rfl ?_
    obtain ⟨rfl, rfl⟩ := zso2 hf
    exact z_iret hC dX3_read_26
  replace hf := zif_f h2 hf
  refine z_iload hC dX3_read_14 4 rfl ?_
  refine z_iconst hC dX3_read_16 (v := 0) rfl ?_
  refine z_bipush hC dX3_read_17 (v := 20) rfl ?_
  refine z_csi (As := [.int a4, .int (0 : Int32), .int (20 : Int32)]) (rest := []) hC (c_X3_within l G w a4 (0 : Int32) (20 : Int32)) zw_ml_X3_70 zy_X3_within ⟨rfl, rfl, Nat.le_of_ble_eq_true rfl, Nat.le_of_ble_eq_true rfl⟩ rfl rfl (Nat.le_of_ble_eq_true rfl) dX3_read_19 ?_
  refine z_if_ne (tgt := 27) hC dX3_read_22 (by decide) (fun h3 => ?_) (fun h3 => ?_)
  · replace hf := zif_f h3 hf
    refine z_aload_n hC dX3_read_27 0 rfl rfl ?_
    refine z_get3 hC 12 (by decide) zw_fl_X3_63 (v := .ref (zad G 47)) rfl dX3_read_28 ?_
    refine z_iload_n hC dX3_read_31 1 rfl rfl ?_
    obtain ⟨hg4, hf⟩ := zg_e hf
    refine z_aald47 hC hg4 dX3_read_32 ?_
    refine z_astore (lv' := [(5, .ref (zad G (48 + 2 * zx a1))), (0, .ref (zad G 0)), (1, .int a1), (2, .int a2), (3, .int a3), (4, .int a4)]) hC dX3_read_33 (by decide) rfl ?_
    refine z_aload_n hC dX3_read_35 1 rfl rfl ?_
    refine z_get3 hC 4 (by decide) zw_fl_X3_27 (v := .ref (zad G 10)) rfl dX3_read_36 ?_
    refine z_aload_n hC dX3_read_39 1 rfl rfl ?_
    refine z_get3 hC 3 (by decide) zw_fl_X3_23 (v := .ref (zad G 2)) rfl dX3_read_40 ?_
    obtain ⟨w5, ew5, hf⟩ := zbd_e hf
    refine z_cvv (As := [.ref (zad G 2)]) (rest := []) hC (zo_camp zcamp10) rfl (c_X0_copyFrom l G w 10 zcamp10 2 zcamp2 ew5) zw_ml_X3_84 zy_X0_copyFrom ⟨rfl, rfl, Nat.le_of_ble_eq_true rfl, Nat.le_of_ble_eq_true rfl⟩ rfl rfl (Nat.le_of_ble_eq_true rfl) dX3_read_43 ?_
    refine z_iconst hC dX3_read_46 (v := 0) rfl ?_
    refine z_istore (lv' := [(6, .int (0 : Int32)), (5, .ref (zad G (48 + 2 * zx a1))), (0, .ref (zad G 0)), (1, .int a1), (2, .int a2), (3, .int a3), (4, .int a4)]) hC dX3_read_47 (by decide) rfl ?_
    refine z_iconst hC dX3_read_49 (v := 0) rfl ?_
    refine z_istore (lv' := [(7, .int (0 : Int32)), (6, .int (0 : Int32)), (5, .ref (zad G (48 + 2 * zx a1))), (0, .ref (zad G 0)), (1, .int a1), (2, .int a2), (3, .int a3), (4, .int a4)]) hC dX3_read_50 (by decide) rfl ?_
    refine z_iconst hC dX3_read_52 (v := 0) rfl ?_
    refine z_istore (lv' := [(8, .int (0 : Int32)), (7, .int (0 : Int32)), (6, .int (0 : Int32)), (5, .ref (zad G (48 + 2 * zx a1))), (0, .ref (zad G 0)), (1, .int a1), (2, .int a2), (3, .int a3), (4, .int a4)]) hC dX3_read_53 (by decide) rfl ?_
    obtain ⟨j131, hj131, hf⟩ := zjn3_e hf
    have hJ131 : ∀ (v6 : Int32) (v7 : Int32) (w8 : zW), j131 v6 v7 w8 = some (r, wz) → Z G p l e rm_X3_read s m args below meth c (MQ below (zQ G (some (.int r)) wz) args s 0 0 (zA G)) 10 131 [(0, .ref (zad G 0)), (6, .int v6), (7, .int v7)] [] w8 := by
      intro v6 v7 w8 hf
      replace hf := hj131 v6 v7 w8 hf
      refine z_aload_n hC dX3_read_131 0 rfl rfl ?_
      refine z_get3 hC 3 (by decide) zw_fl_X3_23 (v := .ref (zad G 2)) rfl dX3_read_132 ?_
      refine z_aload_n hC dX3_read_135 0 rfl rfl ?_
      refine z_get3 hC 4 (by decide) zw_fl_X3_27 (v := .ref (zad G 10)) rfl dX3_read_136 ?_
      obtain ⟨w9, ew9, hf⟩ := zbd_e hf
      refine z_cvv (As := [.ref (zad G 10)]) (rest := []) hC (zo_camp zcamp2) rfl (c_X0_copyFrom l G w8 2 zcamp2 10 zcamp10 ew9) zw_ml_X3_84 zy_X0_copyFrom ⟨rfl, rfl, Nat.le_of_ble_eq_true rfl, Nat.le_of_ble_eq_true rfl⟩ rfl rfl (Nat.le_of_ble_eq_true rfl) dX3_read_139 ?_
      refine z_aload_n hC dX3_read_142 0 rfl rfl ?_
      refine z_iload hC dX3_read_143 1 rfl ?_
      obtain ⟨w10, ew10, hf⟩ := zlet_e hf
      refine z_put3 hC 13 (by decide) rfl rfl zw_fl_X3_67 rfl ew10 dX3_read_145 ?_
      refine z_iload hC dX3_read_148 2 rfl ?_
      obtain ⟨rfl, rfl⟩ := zso2 hf
      exact z_iret hC dX3_read_150
    obtain ⟨j85, hj85, hf⟩ := zjn3_e hf
    have hJ85 : ∀ (v11 : Int32) (v12 : Int32) (w13 : zW), j85 v11 v12 w13 = some (r, wz) → Z G p l e rm_X3_read s m args below meth c (MQ below (zQ G (some (.int r)) wz) args s 0 0 (zA G)) 10 85 [(0, .ref (zad G 0)), (6, .int v11), (7, .int v12)] [] w13 := by
      intro v11 v12 w13 hf
      replace hf := hj85 v11 v12 w13 hf
      refine z_goto (tgt := 131) hC dX3_read_85 (by decide) ?_
      exact hJ131 _ _ _ hf
    have hL55 : ∀ (n : Nat) (v14 : Int32) (v15 : Int32) (v16 : Int32) (w17 : zW), zfix4 (b_X3_read_55 a1 a2 a3 a4 j131 j85) n v14 v15 v16 w17 = some (r, wz) → Z G p l e rm_X3_read s m args below meth c (MQ below (zQ G (some (.int r)) wz) args s 0 0 (zA G)) 10 55 [(0, .ref (zad G 0)), (2, .int a2), (3, .int a3), (4, .int a4), (5, .ref (zad G (48 + 2 * zx a1))), (6, .int v14), (7, .int v15), (8, .int v16)] [] w17 := by
      intro n
      induction n with
      | zero => intro v14 v15 v16 w17 hf; exact (zfix4_0 hf).elim
      | succ n ih55 =>
        intro v14 v15 v16 w17 hf
        replace hf := zfix4_e hf
        unfold b_X3_read_55 at hf
        refine z_iload hC dX3_read_55 7 rfl ?_
        refine z_iload hC dX3_read_57 3 rfl ?_
        refine z_icmp_ge (tgt := 131) hC dX3_read_59 (by decide) (fun h18 => ?_) (fun h18 => ?_)
        · replace hf := zif_t h18 hf
          refine z_lv [0, 5, 6] rfl ?_
          exact hJ131 _ _ _ hf
        replace hf := zif_f h18 hf
        refine z_iload_n hC dX3_read_62 2 rfl rfl ?_
        refine z_iconst hC dX3_read_63 (v := 2) rfl ?_
        refine z_iload hC dX3_read_64 7 rfl ?_
        refine z_imul hC dX3_read_66 ?_
        refine z_iadd hC dX3_read_67 ?_
        obtain ⟨v19, ev19, hf⟩ := zlet_e hf
        refine z_topi ev19 ?_
        refine z_istore (lv' := [(9, .int v19), (0, .ref (zad G 0)), (2, .int a2), (3, .int a3), (4, .int a4), (5, .ref (zad G (48 + 2 * zx a1))), (6, .int v14), (7, .int v15), (8, .int v16)]) hC dX3_read_68 (by decide) rfl ?_
        refine z_aload hC dX3_read_70 5 rfl ?_
        refine z_iload_n hC dX3_read_72 2 rfl rfl ?_
        refine z_iload hC dX3_read_73 0 rfl ?_
        refine z_cvi (As := [.int a2, .int v19]) (rest := []) hC (zo_shee (zsheeI hg4)) rfl (c_X1_faultOfPair l G w17 (48 + 2 * zx a1) (zsheeI hg4) a2 v19) zw_ml_X3_242 zy_X1_faultOfPair ⟨rfl, rfl, Nat.le_of_ble_eq_true rfl, Nat.le_of_ble_eq_true rfl⟩ rfl rfl (Nat.le_of_ble_eq_true rfl) dX3_read_75 ?_
        obtain ⟨v20, ev20, hf⟩ := zlet_e hf
        refine z_topi ev20 ?_
        refine z_istore (lv' := [(6, .int v20), (9, .int v19), (0, .ref (zad G 0)), (2, .int a2), (3, .int a3), (4, .int a4), (5, .ref (zad G (48 + 2 * zx a1))), (7, .int v15), (8, .int v16)]) hC dX3_read_78 (by decide) rfl ?_
        refine z_iload hC dX3_read_80 0 rfl ?_
        refine z_if_eq (tgt := 88) hC dX3_read_82 (by decide) (fun h21 => ?_) (fun h21 => ?_)
        · replace hf := zif_t h21 hf
          refine z_aload_n hC dX3_read_88 2 rfl rfl ?_
          refine z_get3 hC 4 (by decide) zw_fl_X3_27 (v := .ref (zad G 10)) rfl dX3_read_89 ?_
          refine z_aload hC dX3_read_92 6 rfl ?_
          refine z_get1 hC (zsheeI hg4) 0 (by decide) zw_fl_X3_245 (v := .ref (zad G ((48 + 2 * zx a1) + 1))) rfl dX3_read_94 ?_
          refine z_iload hC dX3_read_97 1 rfl ?_
          obtain ⟨hg22, hf⟩ := zg_e hf
          refine z_iald hC (za_s1 (zsheeI hg4)) hg22 rfl dX3_read_99 ?_
          refine z_aload hC dX3_read_100 6 rfl ?_
          refine z_get1 hC (zsheeI hg4) 0 (by decide) zw_fl_X3_245 (v := .ref (zad G ((48 + 2 * zx a1) + 1))) rfl dX3_read_102 ?_
          refine z_iload hC dX3_read_105 1 rfl ?_
          refine z_iconst hC dX3_read_107 (v := 1) rfl ?_
          refine z_iadd hC dX3_read_108 ?_
          obtain ⟨hg23, hf⟩ := zg_e hf
          refine z_iald hC (za_s1 (zsheeI hg4)) hg23 rfl dX3_read_109 ?_
          obtain ⟨v25, w24, ew24, hf⟩ := zbd2_e hf
          refine z_cvi (As := [.int (w17 ((48 + 2 * zx a1) + 1) (zx v19)), .int (w17 ((48 + 2 * zx a1) + 1) (zx (v19 + (1 : Int32))))]) (rest := []) hC (zo_camp zcamp10) rfl (c_X0_drinkAsAsked l G w17 10 zcamp10 (w17 ((48 + 2 * zx a1) + 1) (zx v19)) (w17 ((48 + 2 * zx a1) + 1) (zx (v19 + (1 : Int32)))) ew24) zw_ml_X3_165 zy_X0_drinkAsAsked ⟨rfl, rfl, Nat.le_of_ble_eq_true rfl, Nat.le_of_ble_eq_true rfl⟩ rfl rfl (Nat.le_of_ble_eq_true rfl) dX3_read_110 ?_
          refine z_if_ge (tgt := 122) hC dX3_read_113 (by decide) (fun h26 => ?_) (fun h26 => ?_)
          · replace hf := zif_t h26 hf
            obtain ⟨v27, ev27, hf⟩ := zlet_e hf
            refine z_iinc (v := v27) (lv' := [(7, .int v27), (6, .int v20), (9, .int v19), (0, .ref (zad G 0)), (2, .int a2), (3, .int a3), (4, .int a4), (5, .ref (zad G (48 + 2 * zx a1))), (8, .int v16)]) hC dX3_read_122 7 rfl (by rw [ev27]; rfl) (by decide) rfl ?_
            obtain ⟨v28, ev28, hf⟩ := zlet_e hf
            refine z_iinc (v := v28) (lv' := [(8, .int v28), (7, .int v27), (6, .int v20), (9, .int v19), (0, .ref (zad G 0)), (2, .int a2), (3, .int a3), (4, .int a4), (5, .ref (zad G (48 + 2 * zx a1)))]) hC dX3_read_125 8 rfl (by rw [ev28]; rfl) (by decide) rfl ?_
            refine z_goto (tgt := 55) hC dX3_read_128 (by decide) ?_
            refine z_lv [4, 5, 6, 7, 8, 2, 1, 0] rfl ?_
            exact ih55 _ _ _ _ hf
          replace hf := zif_f h26 hf
          refine z_bipush hC dX3_read_116 (v := -20) rfl ?_
          refine z_iload hC dX3_read_118 8 rfl ?_
          refine z_isub hC dX3_read_120 ?_
          obtain ⟨rfl, rfl⟩ := zso2 hf
          exact z_iret hC dX3_read_121
        replace hf := zif_f h21 hf
        refine z_lv [2, 0, 7] rfl ?_
        exact hJ85 _ _ _ hf
    refine z_lv [4, 6, 7, 8, 3, 2, 1, 0] rfl ?_
    exact hL55 _ _ _ _ _ hf
  replace hf := zif_t h3 hf
  refine z_iconst hC dX3_read_25 (v := -1) rfl ?_
  obtain ⟨rfl, rfl⟩ := zso2 hf
  exact z_iret hC dX3_read_26
theorem zy_X3_read : zYV yX3_read cX3_read 10 (some .int) RX3 4 := ⟨zw_cd_X3_read, zw_im_X3_read, zw_sel_X3_read, zw_ini_X3, by decide +kernel⟩
abbrev rm_X3_rule : Room := { frames := 0, cells := 0, slots := 0, locals := 0 }
def f_X3_rule (w : zW) (a1 : Int32) : Int32 :=
  if a1 = (0 : Int32) then
    w 2 0
  else
  if a1 = (1 : Int32) then
    w 2 4
  else
  if a1 = (2 : Int32) then
    w 2 10
  else
  if a1 = (3 : Int32) then
    w 2 11
  else
  if a1 = (4 : Int32) then
    w 2 12
  else
  if a1 = (5 : Int32) then
    w 2 9
  else
  if a1 = (6 : Int32) then
    w 2 13
  else
  if a1 = (7 : Int32) then
    w 2 14
  else
  if a1 = (8 : Int32) then
    w 2 15
  else
  (-1 : Int32)
set_option maxRecDepth 100000 in
set_option maxHeartbeats 4000000 in
theorem c_X3_rule (l : Launch) (G : zG) (w : zW) (a1 : Int32) : zMet l G yX3_rule cX3_rule 2 (some .int) rm_X3_rule [.ref (zad G 0), .int a1] w (some (.int (f_X3_rule w a1))) w := by
  generalize hf : f_X3_rule w a1 = r
  refine z_start (own := RX3) (by decide) rfl (Nat.le_of_ble_eq_true rfl) (lv := [(0, .ref (zad G 0)), (1, .int a1)]) rfl ?_
  intro p e s m args below meth c hC
  unfold f_X3_rule at hf
  refine z_iload_n hC dX3_rule_0 1 rfl rfl ?_
  by_cases h1 : a1 = (0 : Int32)
  · replace hf := zif_t h1 hf
    refine z_tabIn (tgt := 52) hC dX3_rule_1 (by rw [h1]; decide) (by rw [h1]; decide) (by rw [h1]; rfl) (by decide) ?_
    refine z_aload_n hC dX3_rule_52 0 rfl rfl ?_
    refine z_get3 hC 3 (by decide) zw_fl_X3_23 (v := .ref (zad G 2)) rfl dX3_rule_53 ?_
    refine z_get0 hC zcamp2 0 (by decide) zw_fl_X3_91 (v := .int (w 2 0)) rfl dX3_rule_56 ?_
    subst hf
    exact z_iret hC dX3_rule_59
  replace hf := zif_f h1 hf
  by_cases h2 : a1 = (1 : Int32)
  · replace hf := zif_t h2 hf
    refine z_tabIn (tgt := 60) hC dX3_rule_1 (by rw [h2]; decide) (by rw [h2]; decide) (by rw [h2]; rfl) (by decide) ?_
    refine z_aload_n hC dX3_rule_60 0 rfl rfl ?_
    refine z_get3 hC 3 (by decide) zw_fl_X3_23 (v := .ref (zad G 2)) rfl dX3_rule_61 ?_
    refine z_get0 hC zcamp2 4 (by decide) zw_fl_X3_94 (v := .int (w 2 4)) rfl dX3_rule_64 ?_
    subst hf
    exact z_iret hC dX3_rule_67
  replace hf := zif_f h2 hf
  by_cases h3 : a1 = (2 : Int32)
  · replace hf := zif_t h3 hf
    refine z_tabIn (tgt := 68) hC dX3_rule_1 (by rw [h3]; decide) (by rw [h3]; decide) (by rw [h3]; rfl) (by decide) ?_
    refine z_aload_n hC dX3_rule_68 0 rfl rfl ?_
    refine z_get3 hC 3 (by decide) zw_fl_X3_23 (v := .ref (zad G 2)) rfl dX3_rule_69 ?_
    refine z_get0 hC zcamp2 10 (by decide) zw_fl_X3_97 (v := .int (w 2 10)) rfl dX3_rule_72 ?_
    subst hf
    exact z_iret hC dX3_rule_75
  replace hf := zif_f h3 hf
  by_cases h4 : a1 = (3 : Int32)
  · replace hf := zif_t h4 hf
    refine z_tabIn (tgt := 76) hC dX3_rule_1 (by rw [h4]; decide) (by rw [h4]; decide) (by rw [h4]; rfl) (by decide) ?_
    refine z_aload_n hC dX3_rule_76 0 rfl rfl ?_
    refine z_get3 hC 3 (by decide) zw_fl_X3_23 (v := .ref (zad G 2)) rfl dX3_rule_77 ?_
    refine z_get0 hC zcamp2 11 (by decide) zw_fl_X3_100 (v := .int (w 2 11)) rfl dX3_rule_80 ?_
    subst hf
    exact z_iret hC dX3_rule_83
  replace hf := zif_f h4 hf
  by_cases h5 : a1 = (4 : Int32)
  · replace hf := zif_t h5 hf
    refine z_tabIn (tgt := 84) hC dX3_rule_1 (by rw [h5]; decide) (by rw [h5]; decide) (by rw [h5]; rfl) (by decide) ?_
    refine z_aload_n hC dX3_rule_84 0 rfl rfl ?_
    refine z_get3 hC 3 (by decide) zw_fl_X3_23 (v := .ref (zad G 2)) rfl dX3_rule_85 ?_
    refine z_get0 hC zcamp2 12 (by decide) zw_fl_X3_103 (v := .int (w 2 12)) rfl dX3_rule_88 ?_
    subst hf
    exact z_iret hC dX3_rule_91
  replace hf := zif_f h5 hf
  by_cases h6 : a1 = (5 : Int32)
  · replace hf := zif_t h6 hf
    refine z_tabIn (tgt := 92) hC dX3_rule_1 (by rw [h6]; decide) (by rw [h6]; decide) (by rw [h6]; rfl) (by decide) ?_
    refine z_aload_n hC dX3_rule_92 0 rfl rfl ?_
    refine z_get3 hC 3 (by decide) zw_fl_X3_23 (v := .ref (zad G 2)) rfl dX3_rule_93 ?_
    refine z_get0 hC zcamp2 9 (by decide) zw_fl_X3_106 (v := .int (w 2 9)) rfl dX3_rule_96 ?_
    subst hf
    exact z_iret hC dX3_rule_99
  replace hf := zif_f h6 hf
  by_cases h7 : a1 = (6 : Int32)
  · replace hf := zif_t h7 hf
    refine z_tabIn (tgt := 100) hC dX3_rule_1 (by rw [h7]; decide) (by rw [h7]; decide) (by rw [h7]; rfl) (by decide) ?_
    refine z_aload_n hC dX3_rule_100 0 rfl rfl ?_
    refine z_get3 hC 3 (by decide) zw_fl_X3_23 (v := .ref (zad G 2)) rfl dX3_rule_101 ?_
    refine z_get0 hC zcamp2 13 (by decide) zw_fl_X3_109 (v := .int (w 2 13)) rfl dX3_rule_104 ?_
    subst hf
    exact z_iret hC dX3_rule_107
  replace hf := zif_f h7 hf
  by_cases h8 : a1 = (7 : Int32)
  · replace hf := zif_t h8 hf
    refine z_tabIn (tgt := 108) hC dX3_rule_1 (by rw [h8]; decide) (by rw [h8]; decide) (by rw [h8]; rfl) (by decide) ?_
    refine z_aload_n hC dX3_rule_108 0 rfl rfl ?_
    refine z_get3 hC 3 (by decide) zw_fl_X3_23 (v := .ref (zad G 2)) rfl dX3_rule_109 ?_
    refine z_get0 hC zcamp2 14 (by decide) zw_fl_X3_112 (v := .int (w 2 14)) rfl dX3_rule_112 ?_
    subst hf
    exact z_iret hC dX3_rule_115
  replace hf := zif_f h8 hf
  by_cases h9 : a1 = (8 : Int32)
  · replace hf := zif_t h9 hf
    refine z_tabIn (tgt := 116) hC dX3_rule_1 (by rw [h9]; decide) (by rw [h9]; decide) (by rw [h9]; rfl) (by decide) ?_
    refine z_aload_n hC dX3_rule_116 0 rfl rfl ?_
    refine z_get3 hC 3 (by decide) zw_fl_X3_23 (v := .ref (zad G 2)) rfl dX3_rule_117 ?_
    refine z_get0 hC zcamp2 15 (by decide) zw_fl_X3_115 (v := .int (w 2 15)) rfl dX3_rule_120 ?_
    subst hf
    exact z_iret hC dX3_rule_123
  replace hf := zif_f h9 hf
  have nh1 := znt (k := 0) (by decide) h1
  have nh2 := znt (k := 1) (by decide) h2
  have nh3 := znt (k := 2) (by decide) h3
  have nh4 := znt (k := 3) (by decide) h4
  have nh5 := znt (k := 4) (by decide) h5
  have nh6 := znt (k := 5) (by decide) h6
  have nh7 := znt (k := 6) (by decide) h7
  have nh8 := znt (k := 7) (by decide) h8
  have nh9 := znt (k := 8) (by decide) h9
  refine z_tabOut (tgt := 124) hC dX3_rule_1 (by omega) (by decide) ?_
  refine z_iconst hC dX3_rule_124 (v := -1) rfl ?_
  subst hf
  exact z_iret hC dX3_rule_125
theorem zy_X3_rule : zYV yX3_rule cX3_rule 2 (some .int) RX3 1 := ⟨zw_cd_X3_rule, zw_im_X3_rule, zw_sel_X3_rule, zw_ini_X3, by decide +kernel⟩
abbrev rm_X3_see : Room := { frames := 1, cells := 0, slots := 0, locals := 22 }
def f_X3_see (w : zW) (a1 : Int32) (a2 : Int32) : Option (Int32 × zW) :=
  if (f_X3_within a1 (1 : Int32) (24 : Int32)) = (0 : Int32) then
    some ((-1 : Int32), w)
  else
  if (f_X3_within a2 (0 : Int32) (60 : Int32)) = (0 : Int32) then
    some ((-1 : Int32), w)
  else
    if (w 0 11) < (6 : Int32) then
      zg (zin (w 0 11) 6) <|
      zlet (zup w 45 (zx (w 0 11)) a1) fun w5 =>
      zg (zin (w5 0 11) 6) <|
      zlet (zup w5 46 (zx (w5 0 11)) a2) fun w7 =>
      zlet (zup w7 0 11 ((w7 0 11) + (1 : Int32))) fun w8 =>
      some (w8 0 11, w8)
    else
    some ((-3 : Int32), w)
set_option maxRecDepth 100000 in
set_option maxHeartbeats 4000000 in
theorem c_X3_see (l : Launch) (G : zG) (w : zW) (a1 : Int32) (a2 : Int32) {r : Int32} {wz : zW} (hf : f_X3_see w a1 a2 = some (r, wz)) : zMet l G yX3_see cX3_see 3 (some .int) rm_X3_see [.ref (zad G 0), .int a1, .int a2] w (some (.int r)) wz := by
  refine z_start (own := RX3) (by decide) rfl (Nat.le_of_ble_eq_true rfl) (lv := [(0, .ref (zad G 0)), (1, .int a1), (2, .int a2)]) rfl ?_
  intro p e s m args below meth c hC
  unfold f_X3_see at hf
  refine z_iload_n hC dX3_see_0 1 rfl rfl ?_
  refine z_iconst hC dX3_see_1 (v := 1) rfl ?_
  refine z_bipush hC dX3_see_2 (v := 24) rfl ?_
  refine z_csi (As := [.int a1, .int (1 : Int32), .int (24 : Int32)]) (rest := []) hC (c_X3_within l G w a1 (1 : Int32) (24 : Int32)) zw_ml_X3_70 zy_X3_within ⟨rfl, rfl, Nat.le_of_ble_eq_true rfl, Nat.le_of_ble_eq_true rfl⟩ rfl rfl (Nat.le_of_ble_eq_true rfl) dX3_see_4 ?_
  refine z_if_eq (tgt := 20) hC dX3_see_7 (by decide) (fun h1 => ?_) (fun h1 => ?_)
  · replace hf := zif_t h1 hf
    refine z_iconst hC dX3_see_20 (v := -1) rfl ?_
    obtain ⟨rfl, rfl⟩ := zso2 hf
    exact z_iret hC dX3_see_21
  replace hf := zif_f h1 hf
  refine z_iload_n hC dX3_see_10 2 rfl rfl ?_
  refine z_iconst hC dX3_see_11 (v := 0) rfl ?_
  refine z_bipush hC dX3_see_12 (v := 60) rfl ?_
  refine z_csi (As := [.int a2, .int (0 : Int32), .int (60 : Int32)]) (rest := []) hC (c_X3_within l G w a2 (0 : Int32) (60 : Int32)) zw_ml_X3_70 zy_X3_within ⟨rfl, rfl, Nat.le_of_ble_eq_true rfl, Nat.le_of_ble_eq_true rfl⟩ rfl rfl (Nat.le_of_ble_eq_true rfl) dX3_see_14 ?_
  refine z_if_ne (tgt := 22) hC dX3_see_17 (by decide) (fun h2 => ?_) (fun h2 => ?_)
  · replace hf := zif_f h2 hf
    refine z_aload_n hC dX3_see_22 0 rfl rfl ?_
    refine z_get3 hC 11 (by decide) zw_fl_X3_57 (v := .int (w 0 11)) rfl dX3_see_23 ?_
    refine z_bipush hC dX3_see_26 (v := 6) rfl ?_
    refine z_icmp_lt (tgt := 34) hC dX3_see_28 (by decide) (fun h3 => ?_) (fun h3 => ?_)
    · replace hf := zif_t h3 hf
      refine z_aload_n hC dX3_see_34 0 rfl rfl ?_
      refine z_get3 hC 9 (by decide) zw_fl_X3_50 (v := .ref (zad G 45)) rfl dX3_see_35 ?_
      refine z_aload_n hC dX3_see_38 0 rfl rfl ?_
      refine z_get3 hC 11 (by decide) zw_fl_X3_57 (v := .int (w 0 11)) rfl dX3_see_39 ?_
      refine z_iload_n hC dX3_see_42 1 rfl rfl ?_
      obtain ⟨hg4, hf⟩ := zg_e hf
      obtain ⟨w5, ew5, hf⟩ := zlet_e hf
      refine z_iast hC za_45 hg4 rfl ew5 dX3_see_43 ?_
      refine z_aload_n hC dX3_see_44 0 rfl rfl ?_
      refine z_get3 hC 10 (by decide) zw_fl_X3_54 (v := .ref (zad G 46)) rfl dX3_see_45 ?_
      refine z_aload_n hC dX3_see_48 0 rfl rfl ?_
      refine z_get3 hC 11 (by decide) zw_fl_X3_57 (v := .int (w5 0 11)) rfl dX3_see_49 ?_
      refine z_iload_n hC dX3_see_52 2 rfl rfl ?_
      obtain ⟨hg6, hf⟩ := zg_e hf
      obtain ⟨w7, ew7, hf⟩ := zlet_e hf
      refine z_iast hC za_46 hg6 rfl ew7 dX3_see_53 ?_
      refine z_aload_n hC dX3_see_54 0 rfl rfl ?_
      refine z_dup hC dX3_see_55 rfl ?_
      refine z_get3 hC 11 (by decide) zw_fl_X3_57 (v := .int (w7 0 11)) rfl dX3_see_56 ?_
      refine z_iconst hC dX3_see_59 (v := 1) rfl ?_
      refine z_iadd hC dX3_see_60 ?_
      obtain ⟨w8, ew8, hf⟩ := zlet_e hf
      refine z_put3 hC 11 (by decide) rfl rfl zw_fl_X3_57 rfl ew8 dX3_see_61 ?_
      refine z_aload_n hC dX3_see_64 0 rfl rfl ?_
      refine z_get3 hC 11 (by decide) zw_fl_X3_57 (v := .int (w8 0 11)) rfl dX3_see_65 ?_
      obtain ⟨rfl, rfl⟩ := zso2 hf
      exact z_iret hC dX3_see_68
    replace hf := zif_f h3 hf
    refine z_bipush hC dX3_see_31 (v := -3) rfl ?_
    obtain ⟨rfl, rfl⟩ := zso2 hf
    exact z_iret hC dX3_see_33
  replace hf := zif_t h2 hf
  refine z_iconst hC dX3_see_20 (v := -1) rfl ?_
  obtain ⟨rfl, rfl⟩ := zso2 hf
  exact z_iret hC dX3_see_21
theorem zy_X3_see : zYV yX3_see cX3_see 3 (some .int) RX3 2 := ⟨zw_cd_X3_see, zw_im_X3_see, zw_sel_X3_see, zw_ini_X3, by decide +kernel⟩
abbrev rm_X3_sheet : Room := { frames := 2, cells := 0, slots := 0, locals := 42 }
def f_X3_sheet (w : zW) (a1 : Int32) (a2 : Int32) (a3 : Int32) : Option (Int32 × zW) :=
  if (f_X3_isSheet a1) = (0 : Int32) then
    some ((-1 : Int32), w)
  else
  if (f_X3_isLane a2) = (0 : Int32) then
    some ((-1 : Int32), w)
  else
  if a3 ≤ (40 : Int32) then
    if (0 : Int32) ≤ a3 then
      zg (zin a1 4) <|
      zbd (f_X1_renew w (48 + 2 * zx a1) a2 a3) fun w6 =>
      some ((1 : Int32), w6)
    else
    some ((-14 : Int32), w)
  else
  some ((-1 : Int32), w)
set_option maxRecDepth 100000 in
set_option maxHeartbeats 4000000 in
theorem c_X3_sheet (l : Launch) (G : zG) (w : zW) (a1 : Int32) (a2 : Int32) (a3 : Int32) {r : Int32} {wz : zW} (hf : f_X3_sheet w a1 a2 a3 = some (r, wz)) : zMet l G yX3_sheet cX3_sheet 4 (some .int) rm_X3_sheet [.ref (zad G 0), .int a1, .int a2, .int a3] w (some (.int r)) wz := by
  refine z_start (own := RX3) (by decide) rfl (Nat.le_of_ble_eq_true rfl) (lv := [(0, .ref (zad G 0)), (1, .int a1), (2, .int a2), (3, .int a3)]) rfl ?_
  intro p e s m args below meth c hC
  unfold f_X3_sheet at hf
  refine z_iload_n hC dX3_sheet_0 1 rfl rfl ?_
  refine z_csi (As := [.int a1]) (rest := []) hC (c_X3_isSheet l G w a1) zw_ml_X3_227 zy_X3_isSheet ⟨rfl, rfl, Nat.le_of_ble_eq_true rfl, Nat.le_of_ble_eq_true rfl⟩ rfl rfl (Nat.le_of_ble_eq_true rfl) dX3_sheet_1 ?_
  refine z_if_eq (tgt := 20) hC dX3_sheet_4 (by decide) (fun h1 => ?_) (fun h1 => ?_)
  · replace hf := zif_t h1 hf
    refine z_iconst hC dX3_sheet_20 (v := -1) rfl ?_
    obtain ⟨rfl, rfl⟩ := zso2 hf
    exact z_iret hC dX3_sheet_21
  replace hf := zif_f h1 hf
  refine z_iload_n hC dX3_sheet_7 2 rfl rfl ?_
  refine z_csi (As := [.int a2]) (rest := []) hC (c_X3_isLane l G w a2) zw_ml_X3_230 zy_X3_isLane ⟨rfl, rfl, Nat.le_of_ble_eq_true rfl, Nat.le_of_ble_eq_true rfl⟩ rfl rfl (Nat.le_of_ble_eq_true rfl) dX3_sheet_8 ?_
  refine z_if_eq (tgt := 20) hC dX3_sheet_11 (by decide) (fun h2 => ?_) (fun h2 => ?_)
  · replace hf := zif_t h2 hf
    refine z_iconst hC dX3_sheet_20 (v := -1) rfl ?_
    obtain ⟨rfl, rfl⟩ := zso2 hf
    exact z_iret hC dX3_sheet_21
  replace hf := zif_f h2 hf
  refine z_iload_n hC dX3_sheet_14 3 rfl rfl ?_
  refine z_bipush hC dX3_sheet_15 (v := 40) rfl ?_
  refine z_icmp_le (tgt := 22) hC dX3_sheet_17 (by decide) (fun h3 => ?_) (fun h3 => ?_)
  · replace hf := zif_t h3 hf
    refine z_iload_n hC dX3_sheet_22 3 rfl rfl ?_
    refine z_if_ge (tgt := 29) hC dX3_sheet_23 (by decide) (fun h4 => ?_) (fun h4 => ?_)
    · replace hf := zif_t h4 hf
      refine z_aload_n hC dX3_sheet_29 0 rfl rfl ?_
      refine z_get3 hC 12 (by decide) zw_fl_X3_63 (v := .ref (zad G 47)) rfl dX3_sheet_30 ?_
      refine z_iload_n hC dX3_sheet_33 1 rfl rfl ?_
      obtain ⟨hg5, hf⟩ := zg_e hf
      refine z_aald47 hC hg5 dX3_sheet_34 ?_
      refine z_iload_n hC dX3_sheet_35 2 rfl rfl ?_
      refine z_iload_n hC dX3_sheet_36 3 rfl rfl ?_
      obtain ⟨w6, ew6, hf⟩ := zbd_e hf
      refine z_cvv (As := [.int a2, .int a3]) (rest := []) hC (zo_shee (zsheeI hg5)) rfl (c_X1_renew l G w (48 + 2 * zx a1) (zsheeI hg5) a2 a3 ew6) zw_ml_X3_233 zy_X1_renew ⟨rfl, rfl, Nat.le_of_ble_eq_true rfl, Nat.le_of_ble_eq_true rfl⟩ rfl rfl (Nat.le_of_ble_eq_true rfl) dX3_sheet_37 ?_
      refine z_iconst hC dX3_sheet_40 (v := 1) rfl ?_
      obtain ⟨rfl, rfl⟩ := zso2 hf
      exact z_iret hC dX3_sheet_41
    replace hf := zif_f h4 hf
    refine z_bipush hC dX3_sheet_26 (v := -14) rfl ?_
    obtain ⟨rfl, rfl⟩ := zso2 hf
    exact z_iret hC dX3_sheet_28
  replace hf := zif_f h3 hf
  refine z_iconst hC dX3_sheet_20 (v := -1) rfl ?_
  obtain ⟨rfl, rfl⟩ := zso2 hf
  exact z_iret hC dX3_sheet_21
theorem zy_X3_sheet : zYV yX3_sheet cX3_sheet 4 (some .int) RX3 3 := ⟨zw_cd_X3_sheet, zw_im_X3_sheet, zw_sel_X3_sheet, zw_ini_X3, by decide +kernel⟩
abbrev rm_X3_stay : Room := { frames := 4, cells := 0, slots := 0, locals := 91 }
def b_X3_stay_39 (a1 : Int32) (j87 : Int32 → zW → Option (Int64 × zW)) (k39 : Int32 → Int32 → zW → Option (Int64 × zW)) (v9 : Int32) (v10 : Int32) (w11 : zW) : Option (Int64 × zW) :=
  if a1 ≤ v10 then
    j87 v9 w11
  else
  zjn1 (fun (v13 : Int32) =>
    zbd (f_X0_passHour w11 10 (0 : Int32)) fun w14 =>
    zlet (v10 + (1 : Int32)) fun v15 =>
    k39 v13 v15 w14)
  (fun (j73 : Int32 → Option (Int64 × zW)) =>
  if (zrem (w11 10 12) (24 : Int32)) = (12 : Int32) then
    zbd (f_X0_standing w11 10) fun v17 =>
    if v17 ≤ (0 : Int32) then
      j73 v9
    else
    zlet (v9 + (1 : Int32)) fun v19 =>
    j73 v19
  else
    j73 v9)
def f_X3_stay (w : zW) (a1 : Int32) (a2 : Int32) : Option (Int64 × zW) :=
  if (f_X3_within a1 (0 : Int32) (96 : Int32)) = (0 : Int32) then
    some ((-1 : Int64), w)
  else
  if (f_X3_within a2 (0 : Int32) (1 : Int32)) = (0 : Int32) then
    some ((-1 : Int64), w)
  else
    zbd (f_X0_copyFrom w 10 2) fun w3 =>
    zjn2 (fun (v4 : Int32) (w5 : zW) =>
      zbd (f_X3_power (10 : Int32) v4) fun v6 =>
      zbd (f_X3_power ((10 : Int32) - (w5 2 15)) v4) fun v7 =>
      zbd (f_X3_partOfFraction (v6 - v7) v6 a2) fun v8 =>
      some (v8, w5))
    (fun (j87 : Int32 → zW → Option (Int64 × zW)) =>
    zfix3 (b_X3_stay_39 a1 j87) 100000 (0 : Int32) (0 : Int32) w3)
set_option maxRecDepth 100000 in
set_option maxHeartbeats 4000000 in
theorem c_X3_stay (l : Launch) (G : zG) (w : zW) (a1 : Int32) (a2 : Int32) {r : Int64} {wz : zW} (hf : f_X3_stay w a1 a2 = some (r, wz)) : zMet l G yX3_stay cX3_stay 6 (some .long) rm_X3_stay [.ref (zad G 0), .int a1, .int a2] w (some (.long r)) wz := by
  refine z_start (own := RX3) (by decide) rfl (Nat.le_of_ble_eq_true rfl) (lv := [(0, .ref (zad G 0)), (1, .int a1), (2, .int a2)]) rfl ?_
  intro p e s m args below meth c hC
  unfold f_X3_stay at hf
  refine z_iload_n hC dX3_stay_0 1 rfl rfl ?_
  refine z_iconst hC dX3_stay_1 (v := 0) rfl ?_
  refine z_bipush hC dX3_stay_2 (v := 96) rfl ?_
  refine z_csi (As := [.int a1, .int (0 : Int32), .int (96 : Int32)]) (rest := []) hC (c_X3_within l G w a1 (0 : Int32) (96 : Int32)) zw_ml_X3_70 zy_X3_within ⟨rfl, rfl, Nat.le_of_ble_eq_true rfl, Nat.le_of_ble_eq_true rfl⟩ rfl rfl (Nat.le_of_ble_eq_true rfl) dX3_stay_4 ?_
  refine z_if_eq (tgt := 19) hC dX3_stay_7 (by decide) (fun h1 => ?_) (fun h1 => ?_)
  · replace hf := zif_t h1 hf
    refine z_ldc2 hC zw_cst_X3_203 dX3_stay_19 ?_
    obtain ⟨rfl, rfl⟩ := zso2 hf
    exact z_lret hC dX3_stay_22
  replace hf := zif_f h1 hf
  refine z_iload_n hC dX3_stay_10 2 rfl rfl ?_
  refine z_iconst hC dX3_stay_11 (v := 0) rfl ?_
  refine z_iconst hC dX3_stay_12 (v := 1) rfl ?_
  refine z_csi (As := [.int a2, .int (0 : Int32), .int (1 : Int32)]) (rest := []) hC (c_X3_within l G w a2 (0 : Int32) (1 : Int32)) zw_ml_X3_70 zy_X3_within ⟨rfl, rfl, Nat.le_of_ble_eq_true rfl, Nat.le_of_ble_eq_true rfl⟩ rfl rfl (Nat.le_of_ble_eq_true rfl) dX3_stay_13 ?_
  refine z_if_ne (tgt := 23) hC dX3_stay_16 (by decide) (fun h2 => ?_) (fun h2 => ?_)
  · replace hf := zif_f h2 hf
    refine z_iconst hC dX3_stay_23 (v := 0) rfl ?_
    refine z_istore_n (lv' := [(3, .int (0 : Int32)), (0, .ref (zad G 0)), (1, .int a1), (2, .int a2)]) hC dX3_stay_24 rfl (by decide) rfl ?_
    refine z_aload_n hC dX3_stay_25 1 rfl rfl ?_
    refine z_get3 hC 4 (by decide) zw_fl_X3_27 (v := .ref (zad G 10)) rfl dX3_stay_26 ?_
    refine z_aload_n hC dX3_stay_29 1 rfl rfl ?_
    refine z_get3 hC 3 (by decide) zw_fl_X3_23 (v := .ref (zad G 2)) rfl dX3_stay_30 ?_
    obtain ⟨w3, ew3, hf⟩ := zbd_e hf
    refine z_cvv (As := [.ref (zad G 2)]) (rest := []) hC (zo_camp zcamp10) rfl (c_X0_copyFrom l G w 10 zcamp10 2 zcamp2 ew3) zw_ml_X3_84 zy_X0_copyFrom ⟨rfl, rfl, Nat.le_of_ble_eq_true rfl, Nat.le_of_ble_eq_true rfl⟩ rfl rfl (Nat.le_of_ble_eq_true rfl) dX3_stay_33 ?_
    refine z_iconst hC dX3_stay_36 (v := 0) rfl ?_
    refine z_istore (lv' := [(4, .int (0 : Int32)), (3, .int (0 : Int32)), (0, .ref (zad G 0)), (1, .int a1), (2, .int a2)]) hC dX3_stay_37 (by decide) rfl ?_
    obtain ⟨j87, hj87, hf⟩ := zjn2_e hf
    have hJ87 : ∀ (v4 : Int32) (w5 : zW), j87 v4 w5 = some (r, wz) → Z G p l e rm_X3_stay s m args below meth c (MQ below (zQ G (some (.long r)) wz) args s 0 0 (zA G)) 6 87 [(0, .ref (zad G 0)), (2, .int a2), (3, .int v4)] [] w5 := by
      intro v4 w5 hf
      replace hf := hj87 v4 w5 hf
      refine z_bipush hC dX3_stay_87 (v := 10) rfl ?_
      refine z_iload_n hC dX3_stay_89 2 rfl rfl ?_
      obtain ⟨v6, ev6, hf⟩ := zbd_e hf
      refine z_csl (As := [.int (10 : Int32), .int v4]) (rest := []) hC (c_X3_power l G w5 (10 : Int32) v4 ev6) zw_ml_X3_212 zy_X3_power ⟨rfl, rfl, Nat.le_of_ble_eq_true rfl, Nat.le_of_ble_eq_true rfl⟩ rfl rfl (Nat.le_of_ble_eq_true rfl) dX3_stay_90 ?_
      refine z_lstore (lv' := [(4, .long v6), (0, .ref (zad G 0)), (2, .int a2), (3, .int v4)]) hC dX3_stay_93 (by decide) rfl ?_
      refine z_lload hC dX3_stay_95 0 rfl ?_
      refine z_bipush hC dX3_stay_97 (v := 10) rfl ?_
      refine z_aload_n hC dX3_stay_99 1 rfl rfl ?_
      refine z_get3 hC 3 (by decide) zw_fl_X3_23 (v := .ref (zad G 2)) rfl dX3_stay_100 ?_
      refine z_get0 hC zcamp2 15 (by decide) zw_fl_X3_115 (v := .int (w5 2 15)) rfl dX3_stay_103 ?_
      refine z_isub hC dX3_stay_106 ?_
      refine z_iload_n hC dX3_stay_107 3 rfl rfl ?_
      obtain ⟨v7, ev7, hf⟩ := zbd_e hf
      refine z_csl (As := [.int ((10 : Int32) - (w5 2 15)), .int v4]) (rest := [.long v6]) hC (c_X3_power l G w5 ((10 : Int32) - (w5 2 15)) v4 ev7) zw_ml_X3_212 zy_X3_power ⟨rfl, rfl, Nat.le_of_ble_eq_true rfl, Nat.le_of_ble_eq_true rfl⟩ rfl rfl (Nat.le_of_ble_eq_true rfl) dX3_stay_108 ?_
      refine z_lsub hC dX3_stay_111 ?_
      refine z_lload hC dX3_stay_112 0 rfl ?_
      refine z_iload_n hC dX3_stay_114 2 rfl rfl ?_
      obtain ⟨v8, ev8, hf⟩ := zbd_e hf
      refine z_csl (As := [.long (v6 - v7), .long v6, .int a2]) (rest := []) hC (c_X3_partOfFraction l G w5 (v6 - v7) v6 a2 ev8) zw_ml_X3_216 zy_X3_partOfFraction ⟨rfl, rfl, Nat.le_of_ble_eq_true rfl, Nat.le_of_ble_eq_true rfl⟩ rfl rfl (Nat.le_of_ble_eq_true rfl) dX3_stay_115 ?_
      obtain ⟨rfl, rfl⟩ := zso2 hf
      exact z_lret hC dX3_stay_118
    have hL39 : ∀ (n : Nat) (v9 : Int32) (v10 : Int32) (w11 : zW), zfix3 (b_X3_stay_39 a1 j87) n v9 v10 w11 = some (r, wz) → Z G p l e rm_X3_stay s m args below meth c (MQ below (zQ G (some (.long r)) wz) args s 0 0 (zA G)) 6 39 [(0, .ref (zad G 0)), (1, .int a1), (2, .int a2), (3, .int v9), (4, .int v10)] [] w11 := by
      intro n
      induction n with
      | zero => intro v9 v10 w11 hf; exact (zfix3_0 hf).elim
      | succ n ih39 =>
        intro v9 v10 w11 hf
        replace hf := zfix3_e hf
        unfold b_X3_stay_39 at hf
        refine z_iload hC dX3_stay_39 4 rfl ?_
        refine z_iload_n hC dX3_stay_41 1 rfl rfl ?_
        refine z_icmp_ge (tgt := 87) hC dX3_stay_42 (by decide) (fun h12 => ?_) (fun h12 => ?_)
        · replace hf := zif_t h12 hf
          refine z_lv [0, 2, 3] rfl ?_
          exact hJ87 _ _ hf
        replace hf := zif_f h12 hf
        refine z_aload_n hC dX3_stay_45 0 rfl rfl ?_
        refine z_get3 hC 4 (by decide) zw_fl_X3_27 (v := .ref (zad G 10)) rfl dX3_stay_46 ?_
        refine z_get0 hC zcamp10 12 (by decide) zw_fl_X3_103 (v := .int (w11 10 12)) rfl dX3_stay_49 ?_
        refine z_bipush hC dX3_stay_52 (v := 24) rfl ?_
        refine z_irem hC dX3_stay_54 (by decide) ?_
        refine z_bipush hC dX3_stay_55 (v := 12) rfl ?_
        obtain ⟨j73, hj73, hf⟩ := zjn1_e hf
        have hJ73 : ∀ (v13 : Int32), j73 v13 = some (r, wz) → Z G p l e rm_X3_stay s m args below meth c (MQ below (zQ G (some (.long r)) wz) args s 0 0 (zA G)) 6 73 [(0, .ref (zad G 0)), (1, .int a1), (2, .int a2), (3, .int v13), (4, .int v10)] [] w11 := by
          intro v13 hf
          replace hf := hj73 v13 hf
          refine z_aload_n hC dX3_stay_73 0 rfl rfl ?_
          refine z_get3 hC 4 (by decide) zw_fl_X3_27 (v := .ref (zad G 10)) rfl dX3_stay_74 ?_
          refine z_iconst hC dX3_stay_77 (v := 0) rfl ?_
          obtain ⟨w14, ew14, hf⟩ := zbd_e hf
          refine z_cvv (As := [.int (0 : Int32)]) (rest := []) hC (zo_camp zcamp10) rfl (c_X0_passHour l G w11 10 zcamp10 (0 : Int32) ew14) zw_ml_X3_192 zy_X0_passHour ⟨rfl, rfl, Nat.le_of_ble_eq_true rfl, Nat.le_of_ble_eq_true rfl⟩ rfl rfl (Nat.le_of_ble_eq_true rfl) dX3_stay_78 ?_
          obtain ⟨v15, ev15, hf⟩ := zlet_e hf
          refine z_iinc (v := v15) (lv' := [(4, .int v15), (0, .ref (zad G 0)), (1, .int a1), (2, .int a2), (3, .int v13)]) hC dX3_stay_81 4 rfl (by rw [ev15]; rfl) (by decide) rfl ?_
          refine z_goto (tgt := 39) hC dX3_stay_84 (by decide) ?_
          refine z_lv [1, 2, 3, 4, 0] rfl ?_
          exact ih39 _ _ _ hf
        refine z_icmp_ne (tgt := 73) hC dX3_stay_57 (by decide) (fun h16 => ?_) (fun h16 => ?_)
        · replace hf := zif_f h16 hf
          exact hJ73 _ hf
        replace hf := zif_t h16 hf
        refine z_aload_n hC dX3_stay_60 0 rfl rfl ?_
        refine z_get3 hC 4 (by decide) zw_fl_X3_27 (v := .ref (zad G 10)) rfl dX3_stay_61 ?_
        obtain ⟨v17, ev17, hf⟩ := zbd_e hf
        refine z_cvi (As := []) (rest := []) hC (zo_camp zcamp10) rfl (c_X0_standing l G w11 10 zcamp10 ev17) zw_ml_X3_176 zy_X0_standing ⟨rfl, rfl, Nat.le_of_ble_eq_true rfl, Nat.le_of_ble_eq_true rfl⟩ rfl rfl (Nat.le_of_ble_eq_true rfl) dX3_stay_64 ?_
        refine z_if_le (tgt := 73) hC dX3_stay_67 (by decide) (fun h18 => ?_) (fun h18 => ?_)
        · replace hf := zif_t h18 hf
          exact hJ73 _ hf
        replace hf := zif_f h18 hf
        obtain ⟨v19, ev19, hf⟩ := zlet_e hf
        refine z_iinc (v := v19) (lv' := [(3, .int v19), (0, .ref (zad G 0)), (1, .int a1), (2, .int a2), (4, .int v10)]) hC dX3_stay_70 3 rfl (by rw [ev19]; rfl) (by decide) rfl ?_
        refine z_lv [1, 2, 3, 0, 4] rfl ?_
        exact hJ73 _ hf
    refine z_lv [2, 3, 4, 1, 0] rfl ?_
    exact hL39 _ _ _ _ hf
  replace hf := zif_t h2 hf
  refine z_ldc2 hC zw_cst_X3_203 dX3_stay_19 ?_
  obtain ⟨rfl, rfl⟩ := zso2 hf
  exact z_lret hC dX3_stay_22
theorem zy_X3_stay : zYV yX3_stay cX3_stay 6 (some .long) RX3 2 := ⟨zw_cd_X3_stay, zw_im_X3_stay, zw_sel_X3_stay, zw_ini_X3, by decide +kernel⟩
abbrev rm_X3_teach : Room := { frames := 2, cells := 0, slots := 0, locals := 43 }
def f_X3_teach (w : zW) (a1 : Int32) (a2 : Int32) : Option (Int32 × zW) :=
  if (f_X3_isOne w a1) = (0 : Int32) then
    some ((-1 : Int32), w)
  else
  if (f_X3_isKind a2) = (0 : Int32) then
    some ((-1 : Int32), w)
  else
    zg (zin a1 4) <|
    zlet (w (2 + 1) (zx a1)) fun v4 =>
    zg (zin a1 4) <|
    zlet (zup w (2 + 1) (zx a1) a2) fun w6 =>
    some (v4, w6)
set_option maxRecDepth 100000 in
set_option maxHeartbeats 4000000 in
theorem c_X3_teach (l : Launch) (G : zG) (w : zW) (a1 : Int32) (a2 : Int32) {r : Int32} {wz : zW} (hf : f_X3_teach w a1 a2 = some (r, wz)) : zMet l G yX3_teach cX3_teach 4 (some .int) rm_X3_teach [.ref (zad G 0), .int a1, .int a2] w (some (.int r)) wz := by
  refine z_start (own := RX3) (by decide) rfl (Nat.le_of_ble_eq_true rfl) (lv := [(0, .ref (zad G 0)), (1, .int a1), (2, .int a2)]) rfl ?_
  intro p e s m args below meth c hC
  unfold f_X3_teach at hf
  refine z_aload_n hC dX3_teach_0 0 rfl rfl ?_
  refine z_iload_n hC dX3_teach_1 1 rfl rfl ?_
  refine z_cvi (As := [.int a1]) (rest := []) hC zo_bot rfl (c_X3_isOne l G w a1) zw_ml_X3_118 zy_X3_isOne ⟨rfl, rfl, Nat.le_of_ble_eq_true rfl, Nat.le_of_ble_eq_true rfl⟩ rfl rfl (Nat.le_of_ble_eq_true rfl) dX3_teach_2 ?_
  refine z_if_eq (tgt := 15) hC dX3_teach_5 (by decide) (fun h1 => ?_) (fun h1 => ?_)
  · replace hf := zif_t h1 hf
    refine z_iconst hC dX3_teach_15 (v := -1) rfl ?_
    obtain ⟨rfl, rfl⟩ := zso2 hf
    exact z_iret hC dX3_teach_16
  replace hf := zif_f h1 hf
  refine z_iload_n hC dX3_teach_8 2 rfl rfl ?_
  refine z_csi (As := [.int a2]) (rest := []) hC (c_X3_isKind l G w a2) zw_ml_X3_162 zy_X3_isKind ⟨rfl, rfl, Nat.le_of_ble_eq_true rfl, Nat.le_of_ble_eq_true rfl⟩ rfl rfl (Nat.le_of_ble_eq_true rfl) dX3_teach_9 ?_
  refine z_if_ne (tgt := 17) hC dX3_teach_12 (by decide) (fun h2 => ?_) (fun h2 => ?_)
  · replace hf := zif_f h2 hf
    refine z_aload_n hC dX3_teach_17 0 rfl rfl ?_
    refine z_get3 hC 3 (by decide) zw_fl_X3_23 (v := .ref (zad G 2)) rfl dX3_teach_18 ?_
    refine z_get0 hC zcamp2 1 (by decide) zw_fl_X3_122 (v := .ref (zad G (2 + 1))) rfl dX3_teach_21 ?_
    refine z_iload_n hC dX3_teach_24 1 rfl rfl ?_
    obtain ⟨hg3, hf⟩ := zg_e hf
    refine z_iald hC (za_c1 zcamp2) hg3 rfl dX3_teach_25 ?_
    obtain ⟨v4, ev4, hf⟩ := zlet_e hf
    refine z_topi ev4 ?_
    refine z_istore_n (lv' := [(3, .int v4), (0, .ref (zad G 0)), (1, .int a1), (2, .int a2)]) hC dX3_teach_26 rfl (by decide) rfl ?_
    refine z_aload_n hC dX3_teach_27 1 rfl rfl ?_
    refine z_get3 hC 3 (by decide) zw_fl_X3_23 (v := .ref (zad G 2)) rfl dX3_teach_28 ?_
    refine z_get0 hC zcamp2 1 (by decide) zw_fl_X3_122 (v := .ref (zad G (2 + 1))) rfl dX3_teach_31 ?_
    refine z_iload_n hC dX3_teach_34 2 rfl rfl ?_
    refine z_iload_n hC dX3_teach_35 3 rfl rfl ?_
    obtain ⟨hg5, hf⟩ := zg_e hf
    obtain ⟨w6, ew6, hf⟩ := zlet_e hf
    refine z_iast hC (za_c1 zcamp2) hg5 rfl ew6 dX3_teach_36 ?_
    refine z_iload_n hC dX3_teach_37 0 rfl rfl ?_
    obtain ⟨rfl, rfl⟩ := zso2 hf
    exact z_iret hC dX3_teach_38
  replace hf := zif_t h2 hf
  refine z_iconst hC dX3_teach_15 (v := -1) rfl ?_
  obtain ⟨rfl, rfl⟩ := zso2 hf
  exact z_iret hC dX3_teach_16
theorem zy_X3_teach : zYV yX3_teach cX3_teach 4 (some .int) RX3 2 := ⟨zw_cd_X3_teach, zw_im_X3_teach, zw_sel_X3_teach, zw_ini_X3, by decide +kernel⟩
abbrev rm_X3_text : Room := { frames := 9, cells := 0, slots := 0, locals := 192 }
def b_X3_text_65 (k65 : Int32 → zW → Option (Int32 × zW)) (v8 : Int32) (w9 : zW) : Option (Int32 × zW) :=
  if (2 : Int32) ≤ v8 then
    some (w9 42 9, w9)
  else
  zg (zin v8 2) <|
  zlet (zup w9 44 (zx v8) (vp_nar .boolean (0 : Int32))) fun w12 =>
  zlet (v8 + (1 : Int32)) fun v13 =>
  k65 v13 w12
def f_X3_text (w : zW) : Option (Int32 × zW) :=
  zlet (w 0 1) fun v1 =>
  zlet (zup w 0 1 (0 : Int32)) fun w2 =>
  zbd (f_X2_readAll w2 v1) fun w3 =>
  zlet (zup w3 0 2 (w3 42 10)) fun w4 =>
  if (w4 0 2) = (0 : Int32) then
    zbd (f_X0_copyFrom w4 2 10) fun w6 =>
    zlet (zup w6 0 11 (0 : Int32)) fun w7 =>
    zfix2 (b_X3_text_65) 100000 (0 : Int32) w7
  else
  some ((-10 : Int32) - (w4 42 11), w4)
set_option maxRecDepth 100000 in
set_option maxHeartbeats 4000000 in
theorem c_X3_text (l : Launch) (G : zG) (w : zW) {r : Int32} {wz : zW} (hf : f_X3_text w = some (r, wz)) : zMet l G yX3_text cX3_text 3 (some .int) rm_X3_text [.ref (zad G 0)] w (some (.int r)) wz := by
  refine z_start (own := RX3) (by decide) rfl (Nat.le_of_ble_eq_true rfl) (lv := [(0, .ref (zad G 0))]) rfl ?_
  intro p e s m args below meth c hC
  unfold f_X3_text at hf
  refine z_aload_n hC dX3_text_0 0 rfl rfl ?_
  refine z_get3 hC 1 (by decide) zw_fl_X3_13 (v := .int (w 0 1)) rfl dX3_text_1 ?_
  obtain ⟨v1, ev1, hf⟩ := zlet_e hf
  refine z_topi ev1 ?_
  refine z_istore_n (lv' := [(1, .int v1), (0, .ref (zad G 0))]) hC dX3_text_4 rfl (by decide) rfl ?_
  refine z_aload_n hC dX3_text_5 1 rfl rfl ?_
  refine z_iconst hC dX3_text_6 (v := 0) rfl ?_
  obtain ⟨w2, ew2, hf⟩ := zlet_e hf
  refine z_put3 hC 1 (by decide) rfl rfl zw_fl_X3_13 rfl ew2 dX3_text_7 ?_
  refine z_aload_n hC dX3_text_10 1 rfl rfl ?_
  refine z_get3 hC 6 (by decide) zw_fl_X3_38 (v := .ref (zad G 42)) rfl dX3_text_11 ?_
  refine z_iload_n hC dX3_text_14 0 rfl rfl ?_
  obtain ⟨w3, ew3, hf⟩ := zbd_e hf
  refine z_cvv (As := [.int v1]) (rest := []) hC zo_read rfl (c_X2_readAll l G w2 v1 ew3) zw_ml_X3_74 zy_X2_readAll ⟨rfl, rfl, Nat.le_of_ble_eq_true rfl, Nat.le_of_ble_eq_true rfl⟩ rfl rfl (Nat.le_of_ble_eq_true rfl) dX3_text_15 ?_
  refine z_aload_n hC dX3_text_18 1 rfl rfl ?_
  refine z_aload_n hC dX3_text_19 1 rfl rfl ?_
  refine z_get3 hC 6 (by decide) zw_fl_X3_38 (v := .ref (zad G 42)) rfl dX3_text_20 ?_
  refine z_get2 hC 10 (by decide) zw_fl_X3_78 (v := .int (w3 42 10)) rfl dX3_text_23 ?_
  obtain ⟨w4, ew4, hf⟩ := zlet_e hf
  refine z_put3 hC 2 (by decide) rfl rfl zw_fl_X3_17 rfl ew4 dX3_text_26 ?_
  refine z_aload_n hC dX3_text_29 1 rfl rfl ?_
  refine z_get3 hC 2 (by decide) zw_fl_X3_17 (v := .int (w4 0 2)) rfl dX3_text_30 ?_
  refine z_if_eq (tgt := 47) hC dX3_text_33 (by decide) (fun h5 => ?_) (fun h5 => ?_)
  · replace hf := zif_t h5 hf
    refine z_aload_n hC dX3_text_47 1 rfl rfl ?_
    refine z_get3 hC 3 (by decide) zw_fl_X3_23 (v := .ref (zad G 2)) rfl dX3_text_48 ?_
    refine z_aload_n hC dX3_text_51 1 rfl rfl ?_
    refine z_get3 hC 4 (by decide) zw_fl_X3_27 (v := .ref (zad G 10)) rfl dX3_text_52 ?_
    obtain ⟨w6, ew6, hf⟩ := zbd_e hf
    refine z_cvv (As := [.ref (zad G 10)]) (rest := []) hC (zo_camp zcamp2) rfl (c_X0_copyFrom l G w4 2 zcamp2 10 zcamp10 ew6) zw_ml_X3_84 zy_X0_copyFrom ⟨rfl, rfl, Nat.le_of_ble_eq_true rfl, Nat.le_of_ble_eq_true rfl⟩ rfl rfl (Nat.le_of_ble_eq_true rfl) dX3_text_55 ?_
    refine z_aload_n hC dX3_text_58 1 rfl rfl ?_
    refine z_iconst hC dX3_text_59 (v := 0) rfl ?_
    obtain ⟨w7, ew7, hf⟩ := zlet_e hf
    refine z_put3 hC 11 (by decide) rfl rfl zw_fl_X3_57 rfl ew7 dX3_text_60 ?_
    refine z_iconst hC dX3_text_63 (v := 0) rfl ?_
    refine z_istore_n (lv' := [(2, .int (0 : Int32)), (1, .int v1), (0, .ref (zad G 0))]) hC dX3_text_64 rfl (by decide) rfl ?_
    have hL65 : ∀ (n : Nat) (v8 : Int32) (w9 : zW), zfix2 (b_X3_text_65) n v8 w9 = some (r, wz) → Z G p l e rm_X3_text s m args below meth c (MQ below (zQ G (some (.int r)) wz) args s 0 0 (zA G)) 3 65 [(0, .ref (zad G 0)), (2, .int v8)] [] w9 := by
      intro n
      induction n with
      | zero => intro v8 w9 hf; exact (zfix2_0 hf).elim
      | succ n ih65 =>
        intro v8 w9 hf
        replace hf := zfix2_e hf
        unfold b_X3_text_65 at hf
        refine z_iload_n hC dX3_text_65 1 rfl rfl ?_
        refine z_iconst hC dX3_text_66 (v := 2) rfl ?_
        refine z_icmp_ge (tgt := 83) hC dX3_text_67 (by decide) (fun h10 => ?_) (fun h10 => ?_)
        · replace hf := zif_t h10 hf
          refine z_aload_n hC dX3_text_83 0 rfl rfl ?_
          refine z_get3 hC 6 (by decide) zw_fl_X3_38 (v := .ref (zad G 42)) rfl dX3_text_84 ?_
          refine z_get2 hC 9 (by decide) zw_fl_X3_88 (v := .int (w9 42 9)) rfl dX3_text_87 ?_
          obtain ⟨rfl, rfl⟩ := zso2 hf
          exact z_iret hC dX3_text_90
        replace hf := zif_f h10 hf
        refine z_aload_n hC dX3_text_70 0 rfl rfl ?_
        refine z_get3 hC 8 (by decide) zw_fl_X3_46 (v := .ref (zad G 44)) rfl dX3_text_71 ?_
        refine z_iload_n hC dX3_text_74 1 rfl rfl ?_
        refine z_iconst hC dX3_text_75 (v := 0) rfl ?_
        obtain ⟨hg11, hf⟩ := zg_e hf
        obtain ⟨w12, ew12, hf⟩ := zlet_e hf
        refine z_zast hC za_44 hg11 rfl ew12 dX3_text_76 ?_
        obtain ⟨v13, ev13, hf⟩ := zlet_e hf
        refine z_iinc (v := v13) (lv' := [(2, .int v13), (0, .ref (zad G 0))]) hC dX3_text_77 1 rfl (by rw [ev13]; rfl) (by decide) rfl ?_
        refine z_goto (tgt := 65) hC dX3_text_80 (by decide) ?_
        refine z_lv [1, 0] rfl ?_
        exact ih65 _ _ hf
    refine z_lv [2, 0] rfl ?_
    exact hL65 _ _ _ hf
  replace hf := zif_f h5 hf
  refine z_bipush hC dX3_text_36 (v := -10) rfl ?_
  refine z_aload_n hC dX3_text_38 1 rfl rfl ?_
  refine z_get3 hC 6 (by decide) zw_fl_X3_38 (v := .ref (zad G 42)) rfl dX3_text_39 ?_
  refine z_get2 hC 11 (by decide) zw_fl_X3_81 (v := .int (w4 42 11)) rfl dX3_text_42 ?_
  refine z_isub hC dX3_text_45 ?_
  obtain ⟨rfl, rfl⟩ := zso2 hf
  exact z_iret hC dX3_text_46
theorem zy_X3_text : zYV yX3_text cX3_text 3 (some .int) RX3 0 := ⟨zw_cd_X3_text, zw_im_X3_text, zw_sel_X3_text, zw_ini_X3, by decide +kernel⟩
abbrev rm_X3_torn : Room := { frames := 0, cells := 0, slots := 0, locals := 0 }
def f_X3_torn (w : zW) : Int32 :=
  w 0 13
set_option maxRecDepth 100000 in
set_option maxHeartbeats 4000000 in
theorem c_X3_torn (l : Launch) (G : zG) (w : zW) : zMet l G yX3_torn cX3_torn 1 (some .int) rm_X3_torn [.ref (zad G 0)] w (some (.int (f_X3_torn w))) w := by
  generalize hf : f_X3_torn w = r
  refine z_start (own := RX3) (by decide) rfl (Nat.le_of_ble_eq_true rfl) (lv := [(0, .ref (zad G 0))]) rfl ?_
  intro p e s m args below meth c hC
  unfold f_X3_torn at hf
  refine z_aload_n hC dX3_torn_0 0 rfl rfl ?_
  refine z_get3 hC 13 (by decide) zw_fl_X3_67 (v := .int (w 0 13)) rfl dX3_torn_1 ?_
  subst hf
  exact z_iret hC dX3_torn_4
theorem zy_X3_torn : zYV yX3_torn cX3_torn 1 (some .int) RX3 0 := ⟨zw_cd_X3_torn, zw_im_X3_torn, zw_sel_X3_torn, zw_ini_X3, by decide +kernel⟩
abbrev rm_X3_well : Room := { frames := 2, cells := 0, slots := 0, locals := 43 }
def f_X3_well (w : zW) (a1 : Int32) (a2 : Int32) : Option Int32 :=
  if (f_X3_isWell w a1) = (0 : Int32) then
    some (-1 : Int32)
  else
    if a2 = (0 : Int32) then
      zg (zin a1 3) <|
      some (w (2 + 4) (zx a1))
    else
    if a2 = (1 : Int32) then
      zg (zin a1 3) <|
      some (w (2 + 5) (zx a1))
    else
    if a2 = (2 : Int32) then
      zg (zin a1 3) <|
      some (w (2 + 6) (zx a1))
    else
    if a2 = (3 : Int32) then
      zg (zin a1 3) <|
      some (f_X3_asNumber (w (2 + 7) (zx a1)))
    else
    some (-1 : Int32)
set_option maxRecDepth 100000 in
set_option maxHeartbeats 4000000 in
theorem c_X3_well (l : Launch) (G : zG) (w : zW) (a1 : Int32) (a2 : Int32) {r : Int32} (hf : f_X3_well w a1 a2 = some r) : zMet l G yX3_well cX3_well 3 (some .int) rm_X3_well [.ref (zad G 0), .int a1, .int a2] w (some (.int r)) w := by
  refine z_start (own := RX3) (by decide) rfl (Nat.le_of_ble_eq_true rfl) (lv := [(0, .ref (zad G 0)), (1, .int a1), (2, .int a2)]) rfl ?_
  intro p e s m args below meth c hC
  unfold f_X3_well at hf
  refine z_aload_n hC dX3_well_0 0 rfl rfl ?_
  refine z_iload_n hC dX3_well_1 1 rfl rfl ?_
  refine z_cvi (As := [.int a1]) (rest := []) hC zo_bot rfl (c_X3_isWell l G w a1) zw_ml_X3_135 zy_X3_isWell ⟨rfl, rfl, Nat.le_of_ble_eq_true rfl, Nat.le_of_ble_eq_true rfl⟩ rfl rfl (Nat.le_of_ble_eq_true rfl) dX3_well_2 ?_
  refine z_if_ne (tgt := 10) hC dX3_well_5 (by decide) (fun h1 => ?_) (fun h1 => ?_)
  · replace hf := zif_f h1 hf
    refine z_iload_n hC dX3_well_10 2 rfl rfl ?_
    by_cases h2 : a2 = (0 : Int32)
    · replace hf := zif_t h2 hf
      refine z_tabIn (tgt := 40) hC dX3_well_11 (by rw [h2]; decide) (by rw [h2]; decide) (by rw [h2]; rfl) (by decide) ?_
      refine z_aload_n hC dX3_well_40 0 rfl rfl ?_
      refine z_get3 hC 3 (by decide) zw_fl_X3_23 (v := .ref (zad G 2)) rfl dX3_well_41 ?_
      refine z_get0 hC zcamp2 5 (by decide) zw_fl_X3_138 (v := .ref (zad G (2 + 4))) rfl dX3_well_44 ?_
      refine z_iload_n hC dX3_well_47 1 rfl rfl ?_
      obtain ⟨hg3, hf⟩ := zg_e hf
      refine z_iald hC (za_c4 zcamp2) hg3 rfl dX3_well_48 ?_
      obtain rfl := zso1 hf
      exact z_iret hC dX3_well_49
    replace hf := zif_f h2 hf
    by_cases h4 : a2 = (1 : Int32)
    · replace hf := zif_t h4 hf
      refine z_tabIn (tgt := 50) hC dX3_well_11 (by rw [h4]; decide) (by rw [h4]; decide) (by rw [h4]; rfl) (by decide) ?_
      refine z_aload_n hC dX3_well_50 0 rfl rfl ?_
      refine z_get3 hC 3 (by decide) zw_fl_X3_23 (v := .ref (zad G 2)) rfl dX3_well_51 ?_
      refine z_get0 hC zcamp2 6 (by decide) zw_fl_X3_141 (v := .ref (zad G (2 + 5))) rfl dX3_well_54 ?_
      refine z_iload_n hC dX3_well_57 1 rfl rfl ?_
      obtain ⟨hg5, hf⟩ := zg_e hf
      refine z_iald hC (za_c5 zcamp2) hg5 rfl dX3_well_58 ?_
      obtain rfl := zso1 hf
      exact z_iret hC dX3_well_59
    replace hf := zif_f h4 hf
    by_cases h6 : a2 = (2 : Int32)
    · replace hf := zif_t h6 hf
      refine z_tabIn (tgt := 60) hC dX3_well_11 (by rw [h6]; decide) (by rw [h6]; decide) (by rw [h6]; rfl) (by decide) ?_
      refine z_aload_n hC dX3_well_60 0 rfl rfl ?_
      refine z_get3 hC 3 (by decide) zw_fl_X3_23 (v := .ref (zad G 2)) rfl dX3_well_61 ?_
      refine z_get0 hC zcamp2 7 (by decide) zw_fl_X3_144 (v := .ref (zad G (2 + 6))) rfl dX3_well_64 ?_
      refine z_iload_n hC dX3_well_67 1 rfl rfl ?_
      obtain ⟨hg7, hf⟩ := zg_e hf
      refine z_iald hC (za_c6 zcamp2) hg7 rfl dX3_well_68 ?_
      obtain rfl := zso1 hf
      exact z_iret hC dX3_well_69
    replace hf := zif_f h6 hf
    by_cases h8 : a2 = (3 : Int32)
    · replace hf := zif_t h8 hf
      refine z_tabIn (tgt := 70) hC dX3_well_11 (by rw [h8]; decide) (by rw [h8]; decide) (by rw [h8]; rfl) (by decide) ?_
      refine z_aload_n hC dX3_well_70 0 rfl rfl ?_
      refine z_get3 hC 3 (by decide) zw_fl_X3_23 (v := .ref (zad G 2)) rfl dX3_well_71 ?_
      refine z_get0 hC zcamp2 8 (by decide) zw_fl_X3_147 (v := .ref (zad G (2 + 7))) rfl dX3_well_74 ?_
      refine z_iload_n hC dX3_well_77 1 rfl rfl ?_
      obtain ⟨hg9, hf⟩ := zg_e hf
      refine z_zald hC (za_c7 zcamp2) hg9 rfl dX3_well_78 ?_
      refine z_csi (As := [.int (w (2 + 7) (zx a1))]) (rest := []) hC (c_X3_asNumber l G w (w (2 + 7) (zx a1))) zw_ml_X3_150 zy_X3_asNumber ⟨rfl, rfl, Nat.le_of_ble_eq_true rfl, Nat.le_of_ble_eq_true rfl⟩ rfl rfl (Nat.le_of_ble_eq_true rfl) dX3_well_79 ?_
      obtain rfl := zso1 hf
      exact z_iret hC dX3_well_82
    replace hf := zif_f h8 hf
    have nh2 := znt (k := 0) (by decide) h2
    have nh4 := znt (k := 1) (by decide) h4
    have nh6 := znt (k := 2) (by decide) h6
    have nh8 := znt (k := 3) (by decide) h8
    refine z_tabOut (tgt := 83) hC dX3_well_11 (by omega) (by decide) ?_
    refine z_iconst hC dX3_well_83 (v := -1) rfl ?_
    obtain rfl := zso1 hf
    exact z_iret hC dX3_well_84
  replace hf := zif_t h1 hf
  refine z_iconst hC dX3_well_8 (v := -1) rfl ?_
  obtain rfl := zso1 hf
  exact z_iret hC dX3_well_9
theorem zy_X3_well : zYV yX3_well cX3_well 3 (some .int) RX3 2 := ⟨zw_cd_X3_well, zw_im_X3_well, zw_sel_X3_well, zw_ini_X3, by decide +kernel⟩
abbrev rm_X3_wet : Room := { frames := 2, cells := 0, slots := 0, locals := 43 }
def f_X3_wet (w : zW) (a1 : Int32) (a2 : Int32) : Option (Int32 × zW) :=
  if (f_X3_isWell w a1) = (0 : Int32) then
    some ((-1 : Int32), w)
  else
    zg (zin a1 3) <|
    zlet (w (2 + 7) (zx a1)) fun v3 =>
    zg (zin a1 3) <|
    zlet (zup w (2 + 7) (zx a1) (vp_nar .boolean a2)) fun w5 =>
    some (f_X3_asNumber v3, w5)
set_option maxRecDepth 100000 in
set_option maxHeartbeats 4000000 in
theorem c_X3_wet (l : Launch) (G : zG) (w : zW) (a1 : Int32) (a2 : Int32) {r : Int32} {wz : zW} (hf : f_X3_wet w a1 a2 = some (r, wz)) : zMet l G yX3_wet cX3_wet 4 (some .int) rm_X3_wet [.ref (zad G 0), .int a1, .int a2] w (some (.int r)) wz := by
  refine z_start (own := RX3) (by decide) rfl (Nat.le_of_ble_eq_true rfl) (lv := [(0, .ref (zad G 0)), (1, .int a1), (2, .int a2)]) rfl ?_
  intro p e s m args below meth c hC
  unfold f_X3_wet at hf
  refine z_aload_n hC dX3_wet_0 0 rfl rfl ?_
  refine z_iload_n hC dX3_wet_1 1 rfl rfl ?_
  refine z_cvi (As := [.int a1]) (rest := []) hC zo_bot rfl (c_X3_isWell l G w a1) zw_ml_X3_135 zy_X3_isWell ⟨rfl, rfl, Nat.le_of_ble_eq_true rfl, Nat.le_of_ble_eq_true rfl⟩ rfl rfl (Nat.le_of_ble_eq_true rfl) dX3_wet_2 ?_
  refine z_if_ne (tgt := 10) hC dX3_wet_5 (by decide) (fun h1 => ?_) (fun h1 => ?_)
  · replace hf := zif_f h1 hf
    refine z_aload_n hC dX3_wet_10 0 rfl rfl ?_
    refine z_get3 hC 3 (by decide) zw_fl_X3_23 (v := .ref (zad G 2)) rfl dX3_wet_11 ?_
    refine z_get0 hC zcamp2 8 (by decide) zw_fl_X3_147 (v := .ref (zad G (2 + 7))) rfl dX3_wet_14 ?_
    refine z_iload_n hC dX3_wet_17 1 rfl rfl ?_
    obtain ⟨hg2, hf⟩ := zg_e hf
    refine z_zald hC (za_c7 zcamp2) hg2 rfl dX3_wet_18 ?_
    obtain ⟨v3, ev3, hf⟩ := zlet_e hf
    refine z_topi ev3 ?_
    refine z_istore_n (lv' := [(3, .int v3), (0, .ref (zad G 0)), (1, .int a1), (2, .int a2)]) hC dX3_wet_19 rfl (by decide) rfl ?_
    refine z_aload_n hC dX3_wet_20 1 rfl rfl ?_
    refine z_get3 hC 3 (by decide) zw_fl_X3_23 (v := .ref (zad G 2)) rfl dX3_wet_21 ?_
    refine z_get0 hC zcamp2 8 (by decide) zw_fl_X3_147 (v := .ref (zad G (2 + 7))) rfl dX3_wet_24 ?_
    refine z_iload_n hC dX3_wet_27 2 rfl rfl ?_
    refine z_iload_n hC dX3_wet_28 3 rfl rfl ?_
    obtain ⟨hg4, hf⟩ := zg_e hf
    obtain ⟨w5, ew5, hf⟩ := zlet_e hf
    refine z_zast hC (za_c7 zcamp2) hg4 rfl ew5 dX3_wet_29 ?_
    refine z_iload_n hC dX3_wet_30 0 rfl rfl ?_
    refine z_csi (As := [.int v3]) (rest := []) hC (c_X3_asNumber l G w5 v3) zw_ml_X3_150 zy_X3_asNumber ⟨rfl, rfl, Nat.le_of_ble_eq_true rfl, Nat.le_of_ble_eq_true rfl⟩ rfl rfl (Nat.le_of_ble_eq_true rfl) dX3_wet_31 ?_
    obtain ⟨rfl, rfl⟩ := zso2 hf
    exact z_iret hC dX3_wet_34
  replace hf := zif_t h1 hf
  refine z_iconst hC dX3_wet_8 (v := -1) rfl ?_
  obtain ⟨rfl, rfl⟩ := zso2 hf
  exact z_iret hC dX3_wet_9
theorem zy_X3_wet : zYV yX3_wet cX3_wet 4 (some .int) RX3 2 := ⟨zw_cd_X3_wet, zw_im_X3_wet, zw_sel_X3_wet, zw_ini_X3, by decide +kernel⟩
