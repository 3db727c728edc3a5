abbrev rm_X3_isOne : Room := { frames := 1, cells := 0, slots := 0, locals := 22 }
def f_X3_isOne (w : zW) (a1 : Int32) : Int32 :=
  f_X3_within a1 (0 : Int32) ((w 2 0) - (1 : Int32))
theorem zb_X3_isOne (w : zW) (a1 : Int32) : zbo (f_X3_isOne w a1) = true := by
  unfold f_X3_isOne
  (try simp only [zjn0, zjn1, zlet])
  (try repeat' split) <;> first | (with_reducible exact zb_X3_within _ _ _) | rfl
set_option maxRecDepth 100000 in
set_option maxHeartbeats 4000000 in
theorem c_X3_isOne (l : Launch) (G : zG) (w : zW) (a1 : Int32) : zMet l G yX3_isOne cX3_isOne 2 (some .boolean) rm_X3_isOne [.ref (zad G 0), .int a1] w (some (.int (f_X3_isOne w a1))) w := by
  generalize hf : f_X3_isOne w a1 = r
  refine z_start (own := RX3) (by decide) rfl (Nat.le_of_ble_eq_true rfl) (lv := [(0, .ref (zad G 0)), (1, .int a1)]) rfl ?_
  intro p e s m args below meth c hC
  unfold f_X3_isOne at hf
  refine z_iload_n hC dX3_isOne_0 1 rfl rfl ?_
  refine z_iconst hC dX3_isOne_1 (v := 0) rfl ?_
  refine z_aload_n hC dX3_isOne_2 0 rfl rfl ?_
  refine z_get3 hC 3 (by decide) zw_fl_X3_23 (v := .ref (zad G 2)) rfl dX3_isOne_3 ?_
  refine z_get0 hC zcamp2 0 (by decide) zw_fl_X3_91 (v := .int (w 2 0)) rfl dX3_isOne_6 ?_
  refine z_iconst hC dX3_isOne_9 (v := 1) rfl ?_
  refine z_isub hC dX3_isOne_10 ?_
  refine z_csi (As := [.int a1, .int (0 : Int32), .int ((w 2 0) - (1 : Int32))]) (rest := []) hC (c_X3_within l G w a1 (0 : Int32) ((w 2 0) - (1 : Int32))) zw_ml_X3_70 zy_X3_within ⟨rfl, rfl, Nat.le_of_ble_eq_true rfl, Nat.le_of_ble_eq_true rfl⟩ rfl rfl (Nat.le_of_ble_eq_true rfl) dX3_isOne_11 ?_
  subst hf
  exact z_zret hC (zbo_n (zb_X3_within _ _ _)) dX3_isOne_14
theorem zy_X3_isOne : zYV yX3_isOne cX3_isOne 2 (some .boolean) RX3 1 := ⟨zw_cd_X3_isOne, zw_im_X3_isOne, zw_sel_X3_isOne, zw_ini_X3, by decide +kernel⟩
abbrev rm_X3_told : Room := { frames := 2, cells := 0, slots := 0, locals := 43 }
def f_X3_told (w : zW) (o0 : Nat) (a1 : Int32) : Option Int32 :=
  if a1 = (0 : Int32) then
    some (w o0 11)
  else
  if a1 = (1 : Int32) then
    some (w o0 9)
  else
  zbd (f_X0_standing w o0) fun v3 =>
  some v3
set_option maxRecDepth 100000 in
set_option maxHeartbeats 4000000 in
theorem c_X3_told (l : Launch) (G : zG) (w : zW) (o0 : Nat) (ho0 : zcamp o0) (a1 : Int32) {r : Int32} (hf : f_X3_told w o0 a1 = some r) : zMet l G yX3_told cX3_told 2 (some .int) rm_X3_told [.ref (zad G o0), .int a1] w (some (.int r)) w := by
  refine z_start (own := RX3) (by decide) rfl (Nat.le_of_ble_eq_true rfl) (lv := [(0, .ref (zad G o0)), (1, .int a1)]) rfl ?_
  intro p e s m args below meth c hC
  unfold f_X3_told at hf
  refine z_iload_n hC dX3_told_0 1 rfl rfl ?_
  by_cases h1 : a1 = (0 : Int32)
  · replace hf := zif_t h1 hf
    refine z_lookup (tgt := 28) (off := 27) hC dX3_told_1 (by decide) (by first | (rw [h1]; done) | (rw [h1]; rfl)) (by decide) ?_
    refine z_aload_n hC dX3_told_28 0 rfl rfl ?_
    refine z_get0 hC ho0 11 (by decide) zw_fl_X3_100 (v := .int (w o0 11)) rfl dX3_told_29 ?_
    obtain rfl := zso1 hf
    exact z_iret hC dX3_told_32
  replace hf := zif_f h1 hf
  by_cases h2 : a1 = (1 : Int32)
  · replace hf := zif_t h2 hf
    refine z_lookup (tgt := 33) (off := 32) hC dX3_told_1 (by decide) (by first | (rw [h2]; done) | (rw [h2]; rfl)) (by decide) ?_
    refine z_aload_n hC dX3_told_33 0 rfl rfl ?_
    refine z_get0 hC ho0 9 (by decide) zw_fl_X3_106 (v := .int (w o0 9)) rfl dX3_told_34 ?_
    obtain rfl := zso1 hf
    exact z_iret hC dX3_told_37
  replace hf := zif_f h2 hf
  refine z_lookup (tgt := 38) (off := 37) hC dX3_told_1 (by decide) ((lv_osw h1 (by decide)).trans <| (lv_osw h2 (by decide)).trans <| rfl) (by decide) ?_
  refine z_aload_n hC dX3_told_38 0 rfl rfl ?_
  obtain ⟨v3, ev3, hf⟩ := zbd_e hf
  refine z_cvi (As := []) (rest := []) hC (zo_camp ho0) rfl (c_X0_standing l G w o0 ho0 ev3) zw_ml_X3_176 zy_X0_standing ⟨rfl, rfl, Nat.le_of_ble_eq_true rfl, Nat.le_of_ble_eq_true rfl⟩ rfl rfl (Nat.le_of_ble_eq_true rfl) dX3_told_39 ?_
  obtain rfl := zso1 hf
  exact z_iret hC dX3_told_42
theorem zy_X3_told : zYS yX3_told cX3_told 2 (some .int) 2 := ⟨zw_cd_X3_told, zw_st_X3_told, zw_ini_X3, by decide +kernel⟩
abbrev rm_X3_ahead : Room := { frames := 5, cells := 0, slots := 0, locals := 114 }
def f_X3_ahead (w : zW) (a1 : Int32) (a2 : Int32) : Option (Int32 × zW) :=
  zjn1 (fun (v1 : Int32) =>
    if (f_X3_within a1 (0 : Int32) (96 : Int32)) = (0 : Int32) then
      some ((-1 : Int32), w)
    else
    zjn0 (
      zbd (f_X0_copyFrom w 10 2) fun w3 =>
      zbd (f_X0_passHours w3 10 a1 (w3 2 13)) fun w4 =>
      if v1 = (0 : Int32) then
        zbd (f_X3_told w4 10 a2) fun v6 =>
        some (v6, w4)
      else
      zg (zin (a2 - (10 : Int32)) 4) <|
      some (w4 (10 + 3) (zx (a2 - (10 : Int32))), w4))
    (fun (j48 : Option (Int32 × zW)) =>
    if (f_X3_within a2 (0 : Int32) (2 : Int32)) = (0 : Int32) then
      if v1 = (0 : Int32) then
        some ((-1 : Int32), w)
      else
        j48
    else
      j48))
  (fun (j22 : Int32 → Option (Int32 × zW)) =>
  zjn0 (
    j22 (0 : Int32))
  (fun (j21 : Option (Int32 × zW)) =>
  if a2 < (10 : Int32) then
    j21
  else
  if (f_X3_isOne w (a2 - (10 : Int32))) = (0 : Int32) then
    j21
  else
  j22 (1 : Int32)))
set_option maxRecDepth 100000 in
set_option maxHeartbeats 4000000 in
theorem c_X3_ahead (l : Launch) (G : zG) (w : zW) (a1 : Int32) (a2 : Int32) {r : Int32} {wz : zW} (hf : f_X3_ahead w a1 a2 = some (r, wz)) : zMet l G yX3_ahead cX3_ahead 4 (some .int) rm_X3_ahead [.ref (zad G 0), .int a1, .int a2] w (some (.int r)) wz := by
  refine z_start (own := RX3) (by decide) rfl (Nat.le_of_ble_eq_true rfl) (lv := [(0, .ref (zad G 0)), (1, .int a1), (2, .int a2)]) rfl ?_
  intro p e s m args below meth c hC
  unfold f_X3_ahead at hf
  refine z_iload_n hC dX3_ahead_0 2 rfl rfl ?_
  refine z_bipush hC dX3_ahead_1 (v := 10) rfl ?_
  obtain ⟨j22, hj22, hf⟩ := zjn1_e hf
  have hJ22 : ∀ (v1 : Int32), j22 v1 = some (r, wz) → Z G p l e rm_X3_ahead s m args below meth c (MQ below (zQ G (some (.int r)) wz) args s 0 0 (zA G)) 4 22 [(0, .ref (zad G 0)), (1, .int a1), (2, .int a2)] [.int v1] w := by
    intro v1 hf
    replace hf := hj22 v1 hf
    refine z_istore_n (lv' := [(3, .int v1), (0, .ref (zad G 0)), (1, .int a1), (2, .int a2)]) hC dX3_ahead_22 rfl (by decide) rfl ?_
    refine z_iload_n hC dX3_ahead_23 2 rfl rfl ?_
    refine z_iconst hC dX3_ahead_24 (v := 0) rfl ?_
    refine z_bipush hC dX3_ahead_25 (v := 96) rfl ?_
    refine z_csi (As := [.int a1, .int (0 : Int32), .int (96 : Int32)]) (rest := []) hC (c_X3_within l G w a1 (0 : Int32) (96 : Int32)) zw_ml_X3_70 zy_X3_within ⟨rfl, rfl, Nat.le_of_ble_eq_true rfl, Nat.le_of_ble_eq_true rfl⟩ rfl rfl (Nat.le_of_ble_eq_true rfl) dX3_ahead_27 ?_
    refine z_if_eq (tgt := 46) hC dX3_ahead_30 (by decide) (fun h2 => ?_) (fun h2 => ?_)
    · replace hf := zif_t h2 hf
      refine z_iconst hC dX3_ahead_46 (v := -1) rfl ?_
      obtain ⟨rfl, rfl⟩ := zso2 hf
      exact z_iret hC dX3_ahead_47
    replace hf := zif_f h2 hf
    refine z_iload_n hC dX3_ahead_33 3 rfl rfl ?_
    refine z_iconst hC dX3_ahead_34 (v := 0) rfl ?_
    refine z_iconst hC dX3_ahead_35 (v := 2) rfl ?_
    refine z_csi (As := [.int a2, .int (0 : Int32), .int (2 : Int32)]) (rest := []) hC (c_X3_within l G w a2 (0 : Int32) (2 : Int32)) zw_ml_X3_70 zy_X3_within ⟨rfl, rfl, Nat.le_of_ble_eq_true rfl, Nat.le_of_ble_eq_true rfl⟩ rfl rfl (Nat.le_of_ble_eq_true rfl) dX3_ahead_36 ?_
    obtain ⟨j48, hj48, hf⟩ := zjn0_e hf
    have hJ48 : j48 = some (r, wz) → Z G p l e rm_X3_ahead s m args below meth c (MQ below (zQ G (some (.int r)) wz) args s 0 0 (zA G)) 4 48 [(0, .ref (zad G 0)), (1, .int a1), (2, .int a2), (3, .int v1)] [] w := by
      intro hf
      replace hf := hj48  hf
      refine z_aload_n hC dX3_ahead_48 0 rfl rfl ?_
      refine z_get3 hC 4 (by decide) zw_fl_X3_27 (v := .ref (zad G 10)) rfl dX3_ahead_49 ?_
      refine z_aload_n hC dX3_ahead_52 0 rfl rfl ?_
      refine z_get3 hC 3 (by decide) zw_fl_X3_23 (v := .ref (zad G 2)) rfl dX3_ahead_53 ?_
      obtain ⟨w3, ew3, hf⟩ := zbd_e hf
      refine z_cvv (As := [.ref (zad G 2)]) (rest := []) hC (zo_camp zcamp10) rfl (c_X0_copyFrom l G w 10 zcamp10 2 zcamp2 ew3) zw_ml_X3_84 zy_X0_copyFrom ⟨rfl, rfl, Nat.le_of_ble_eq_true rfl, Nat.le_of_ble_eq_true rfl⟩ rfl rfl (Nat.le_of_ble_eq_true rfl) dX3_ahead_56 ?_
      refine z_aload_n hC dX3_ahead_59 0 rfl rfl ?_
      refine z_get3 hC 4 (by decide) zw_fl_X3_27 (v := .ref (zad G 10)) rfl dX3_ahead_60 ?_
      refine z_iload_n hC dX3_ahead_63 1 rfl rfl ?_
      refine z_aload_n hC dX3_ahead_64 0 rfl rfl ?_
      refine z_get3 hC 3 (by decide) zw_fl_X3_23 (v := .ref (zad G 2)) rfl dX3_ahead_65 ?_
      refine z_get0 hC zcamp2 13 (by decide) zw_fl_X3_109 (v := .int (w3 2 13)) rfl dX3_ahead_68 ?_
      obtain ⟨w4, ew4, hf⟩ := zbd_e hf
      refine z_cvv (As := [.int a1, .int (w3 2 13)]) (rest := []) hC (zo_camp zcamp10) rfl (c_X0_passHours l G w3 10 zcamp10 a1 (w3 2 13) ew4) zw_ml_X3_172 zy_X0_passHours ⟨rfl, rfl, Nat.le_of_ble_eq_true rfl, Nat.le_of_ble_eq_true rfl⟩ rfl rfl (Nat.le_of_ble_eq_true rfl) dX3_ahead_71 ?_
      refine z_iload_n hC dX3_ahead_74 3 rfl rfl ?_
      refine z_if_eq (tgt := 93) hC dX3_ahead_75 (by decide) (fun h5 => ?_) (fun h5 => ?_)
      · replace hf := zif_t h5 hf
        refine z_aload_n hC dX3_ahead_93 0 rfl rfl ?_
        refine z_get3 hC 4 (by decide) zw_fl_X3_27 (v := .ref (zad G 10)) rfl dX3_ahead_94 ?_
        refine z_iload_n hC dX3_ahead_97 2 rfl rfl ?_
        obtain ⟨v6, ev6, hf⟩ := zbd_e hf
        refine z_csi (As := [.ref (zad G 10), .int a2]) (rest := []) hC (c_X3_told l G w4 10 zcamp10 a2 ev6) zw_ml_X3_179 zy_X3_told ⟨rfl, rfl, Nat.le_of_ble_eq_true rfl, Nat.le_of_ble_eq_true rfl⟩ rfl rfl (Nat.le_of_ble_eq_true rfl) dX3_ahead_98 ?_
        obtain ⟨rfl, rfl⟩ := zso2 hf
        exact z_iret hC dX3_ahead_101
      replace hf := zif_f h5 hf
      refine z_aload_n hC dX3_ahead_78 0 rfl rfl ?_
      refine z_get3 hC 4 (by decide) zw_fl_X3_27 (v := .ref (zad G 10)) rfl dX3_ahead_79 ?_
      refine z_get0 hC zcamp10 3 (by decide) zw_fl_X3_128 (v := .ref (zad G (10 + 3))) rfl dX3_ahead_82 ?_
      refine z_iload_n hC dX3_ahead_85 2 rfl rfl ?_
      refine z_bipush hC dX3_ahead_86 (v := 10) rfl ?_
      refine z_isub hC dX3_ahead_88 ?_
      obtain ⟨hg7, hf⟩ := zg_e hf
      refine z_iald hC (za_c3 zcamp10) hg7 rfl dX3_ahead_89 ?_
      refine z_goto (tgt := 101) hC dX3_ahead_90 (by decide) ?_
      obtain ⟨rfl, rfl⟩ := zso2 hf
      exact z_iret hC dX3_ahead_101
    refine z_if_ne (tgt := 48) hC dX3_ahead_39 (by decide) (fun h8 => ?_) (fun h8 => ?_)
    · replace hf := zif_f h8 hf
      refine z_lv [1, 2, 3, 0] rfl ?_
      exact hJ48 hf
    replace hf := zif_t h8 hf
    refine z_iload_n hC dX3_ahead_42 0 rfl rfl ?_
    refine z_if_ne (tgt := 48) hC dX3_ahead_43 (by decide) (fun h9 => ?_) (fun h9 => ?_)
    · replace hf := zif_f h9 hf
      refine z_lv [1, 2, 3, 0] rfl ?_
      exact hJ48 hf
    replace hf := zif_t h9 hf
    refine z_iconst hC dX3_ahead_46 (v := -1) rfl ?_
    obtain ⟨rfl, rfl⟩ := zso2 hf
    exact z_iret hC dX3_ahead_47
  obtain ⟨j21, hj21, hf⟩ := zjn0_e hf
  have hJ21 : j21 = some (r, wz) → Z G p l e rm_X3_ahead s m args below meth c (MQ below (zQ G (some (.int r)) wz) args s 0 0 (zA G)) 4 21 [(0, .ref (zad G 0)), (1, .int a1), (2, .int a2)] [] w := by
    intro hf
    replace hf := hj21  hf
    refine z_iconst hC dX3_ahead_21 (v := 0) rfl ?_
    exact hJ22 _ hf
  refine z_icmp_lt (tgt := 21) hC dX3_ahead_3 (by decide) (fun h10 => ?_) (fun h10 => ?_)
  · replace hf := zif_t h10 hf
    exact hJ21 hf
  replace hf := zif_f h10 hf
  refine z_aload_n hC dX3_ahead_6 0 rfl rfl ?_
  refine z_iload_n hC dX3_ahead_7 2 rfl rfl ?_
  refine z_bipush hC dX3_ahead_8 (v := 10) rfl ?_
  refine z_isub hC dX3_ahead_10 ?_
  refine z_cvi (As := [.int (a2 - (10 : Int32))]) (rest := []) hC zo_bot rfl (c_X3_isOne l G w (a2 - (10 : Int32))) zw_ml_X3_118 zy_X3_isOne ⟨rfl, rfl, Nat.le_of_ble_eq_true rfl, Nat.le_of_ble_eq_true rfl⟩ rfl rfl (Nat.le_of_ble_eq_true rfl) dX3_ahead_11 ?_
  refine z_if_eq (tgt := 21) hC dX3_ahead_14 (by decide) (fun h11 => ?_) (fun h11 => ?_)
  · replace hf := zif_t h11 hf
    exact hJ21 hf
  replace hf := zif_f h11 hf
  refine z_iconst hC dX3_ahead_17 (v := 1) rfl ?_
  refine z_goto (tgt := 22) hC dX3_ahead_18 (by decide) ?_
  exact hJ22 _ hf
theorem zy_X3_ahead : zYV yX3_ahead cX3_ahead 4 (some .int) RX3 2 := ⟨zw_cd_X3_ahead, zw_im_X3_ahead, zw_sel_X3_ahead, zw_ini_X3, by decide +kernel⟩
abbrev rm_X3_isKind : Room := { frames := 1, cells := 0, slots := 0, locals := 22 }
def f_X3_isKind (a0 : Int32) : Int32 :=
  f_X3_within a0 (0 : Int32) (4 : Int32)
theorem zb_X3_isKind (a0 : Int32) : zbo (f_X3_isKind a0) = true := by
  unfold f_X3_isKind
  (try simp only [zjn0, zjn1, zlet])
  (try repeat' split) <;> first | (with_reducible exact zb_X3_within _ _ _) | rfl
set_option maxRecDepth 100000 in
set_option maxHeartbeats 4000000 in
theorem c_X3_isKind (l : Launch) (G : zG) (w : zW) (a0 : Int32) : zMet l G yX3_isKind cX3_isKind 1 (some .boolean) rm_X3_isKind [.int a0] w (some (.int (f_X3_isKind a0))) w := by
  generalize hf : f_X3_isKind a0 = r
  refine z_start (own := RX3) (by decide) rfl (Nat.le_of_ble_eq_true rfl) (lv := [(0, .int a0)]) rfl ?_
  intro p e s m args below meth c hC
  unfold f_X3_isKind at hf
  refine z_iload_n hC dX3_isKind_0 0 rfl rfl ?_
  refine z_iconst hC dX3_isKind_1 (v := 0) rfl ?_
  refine z_iconst hC dX3_isKind_2 (v := 4) rfl ?_
  refine z_csi (As := [.int a0, .int (0 : Int32), .int (4 : Int32)]) (rest := []) hC (c_X3_within l G w a0 (0 : Int32) (4 : Int32)) zw_ml_X3_70 zy_X3_within ⟨rfl, rfl, Nat.le_of_ble_eq_true rfl, Nat.le_of_ble_eq_true rfl⟩ rfl rfl (Nat.le_of_ble_eq_true rfl) dX3_isKind_3 ?_
  subst hf
  exact z_zret hC (zbo_n (zb_X3_within _ _ _)) dX3_isKind_6
theorem zy_X3_isKind : zYS yX3_isKind cX3_isKind 1 (some .boolean) 1 := ⟨zw_cd_X3_isKind, zw_st_X3_isKind, zw_ini_X3, by decide +kernel⟩
abbrev rm_X3_alike : Room := { frames := 5, cells := 0, slots := 0, locals := 113 }
def b_X3_alike_22 (a1 : Int32) (j49 : zW → Option (Int32 × zW)) (k22 : Int32 → zW → Option (Int32 × zW)) (v7 : Int32) (w8 : zW) : Option (Int32 × zW) :=
  if (w8 10 0) ≤ v7 then
    j49 w8
  else
  zg (zin v7 4) <|
  zlet (zup w8 (10 + 1) (zx v7) a1) fun w11 =>
  zlet (v7 + (1 : Int32)) fun v12 =>
  k22 v12 w11
def f_X3_alike (w : zW) (a1 : Int32) : Option (Int32 × zW) :=
  if (f_X3_isKind a1) = (0 : Int32) then
    some ((-1 : Int32), w)
  else
    zbd (f_X0_copyFrom w 10 2) fun w2 =>
    zjn1 (fun (w3 : zW) =>
      zbd2 (f_X0_hoursToGoal w3 10 (w3 2 13)) fun v5 w4 =>
      zbd (f_X0_arrived w4 10) fun v6 =>
      some (v6, w4))
    (fun (j49 : zW → Option (Int32 × zW)) =>
    zfix2 (b_X3_alike_22 a1 j49) 100000 (0 : Int32) w2)
set_option maxRecDepth 100000 in
set_option maxHeartbeats 4000000 in
theorem c_X3_alike (l : Launch) (G : zG) (w : zW) (a1 : Int32) {r : Int32} {wz : zW} (hf : f_X3_alike w a1 = some (r, wz)) : zMet l G yX3_alike cX3_alike 3 (some .int) rm_X3_alike [.ref (zad G 0), .int a1] w (some (.int r)) wz := by
  refine z_start (own := RX3) (by decide) rfl (Nat.le_of_ble_eq_true rfl) (lv := [(0, .ref (zad G 0)), (1, .int a1)]) rfl ?_
  intro p e s m args below meth c hC
  unfold f_X3_alike at hf
  refine z_iload_n hC dX3_alike_0 1 rfl rfl ?_
  refine z_csi (As := [.int a1]) (rest := []) hC (c_X3_isKind l G w a1) zw_ml_X3_162 zy_X3_isKind ⟨rfl, rfl, Nat.le_of_ble_eq_true rfl, Nat.le_of_ble_eq_true rfl⟩ rfl rfl (Nat.le_of_ble_eq_true rfl) dX3_alike_1 ?_
  refine z_if_ne (tgt := 9) hC dX3_alike_4 (by decide) (fun h1 => ?_) (fun h1 => ?_)
  · replace hf := zif_f h1 hf
    refine z_aload_n hC dX3_alike_9 0 rfl rfl ?_
    refine z_get3 hC 4 (by decide) zw_fl_X3_27 (v := .ref (zad G 10)) rfl dX3_alike_10 ?_
    refine z_aload_n hC dX3_alike_13 0 rfl rfl ?_
    refine z_get3 hC 3 (by decide) zw_fl_X3_23 (v := .ref (zad G 2)) rfl dX3_alike_14 ?_
    obtain ⟨w2, ew2, hf⟩ := zbd_e hf
    refine z_cvv (As := [.ref (zad G 2)]) (rest := []) hC (zo_camp zcamp10) rfl (c_X0_copyFrom l G w 10 zcamp10 2 zcamp2 ew2) zw_ml_X3_84 zy_X0_copyFrom ⟨rfl, rfl, Nat.le_of_ble_eq_true rfl, Nat.le_of_ble_eq_true rfl⟩ rfl rfl (Nat.le_of_ble_eq_true rfl) dX3_alike_17 ?_
    refine z_iconst hC dX3_alike_20 (v := 0) rfl ?_
    refine z_istore_n (lv' := [(2, .int (0 : Int32)), (0, .ref (zad G 0)), (1, .int a1)]) hC dX3_alike_21 rfl (by decide) rfl ?_
    obtain ⟨j49, hj49, hf⟩ := zjn1_e hf
    have hJ49 : ∀ (w3 : zW), j49 w3 = some (r, wz) → Z G p l e rm_X3_alike s m args below meth c (MQ below (zQ G (some (.int r)) wz) args s 0 0 (zA G)) 3 49 [(0, .ref (zad G 0))] [] w3 := by
      intro w3 hf
      replace hf := hj49 w3 hf
      refine z_aload_n hC dX3_alike_49 0 rfl rfl ?_
      refine z_get3 hC 4 (by decide) zw_fl_X3_27 (v := .ref (zad G 10)) rfl dX3_alike_50 ?_
      refine z_aload_n hC dX3_alike_53 0 rfl rfl ?_
      refine z_get3 hC 3 (by decide) zw_fl_X3_23 (v := .ref (zad G 2)) rfl dX3_alike_54 ?_
      refine z_get0 hC zcamp2 13 (by decide) zw_fl_X3_109 (v := .int (w3 2 13)) rfl dX3_alike_57 ?_
      obtain ⟨v5, w4, ew4, hf⟩ := zbd2_e hf
      refine z_cvi (As := [.int (w3 2 13)]) (rest := []) hC (zo_camp zcamp10) rfl (c_X0_hoursToGoal l G w3 10 zcamp10 (w3 2 13) ew4) zw_ml_X3_186 zy_X0_hoursToGoal ⟨rfl, rfl, Nat.le_of_ble_eq_true rfl, Nat.le_of_ble_eq_true rfl⟩ rfl rfl (Nat.le_of_ble_eq_true rfl) dX3_alike_60 ?_
      refine z_pop hC dX3_alike_63 rfl ?_
      refine z_aload_n hC dX3_alike_64 0 rfl rfl ?_
      refine z_get3 hC 4 (by decide) zw_fl_X3_27 (v := .ref (zad G 10)) rfl dX3_alike_65 ?_
      obtain ⟨v6, ev6, hf⟩ := zbd_e hf
      refine z_cvi (As := []) (rest := []) hC (zo_camp zcamp10) rfl (c_X0_arrived l G w4 10 zcamp10 ev6) zw_ml_X3_189 zy_X0_arrived ⟨rfl, rfl, Nat.le_of_ble_eq_true rfl, Nat.le_of_ble_eq_true rfl⟩ rfl rfl (Nat.le_of_ble_eq_true rfl) dX3_alike_68 ?_
      obtain ⟨rfl, rfl⟩ := zso2 hf
      exact z_iret hC dX3_alike_71
    have hL22 : ∀ (n : Nat) (v7 : Int32) (w8 : zW), zfix2 (b_X3_alike_22 a1 j49) n v7 w8 = some (r, wz) → Z G p l e rm_X3_alike s m args below meth c (MQ below (zQ G (some (.int r)) wz) args s 0 0 (zA G)) 3 22 [(0, .ref (zad G 0)), (1, .int a1), (2, .int v7)] [] w8 := by
      intro n
      induction n with
      | zero => intro v7 w8 hf; exact (zfix2_0 hf).elim
      | succ n ih22 =>
        intro v7 w8 hf
        replace hf := zfix2_e hf
        unfold b_X3_alike_22 at hf
        refine z_iload_n hC dX3_alike_22 2 rfl rfl ?_
        refine z_aload_n hC dX3_alike_23 0 rfl rfl ?_
        refine z_get3 hC 4 (by decide) zw_fl_X3_27 (v := .ref (zad G 10)) rfl dX3_alike_24 ?_
        refine z_get0 hC zcamp10 0 (by decide) zw_fl_X3_91 (v := .int (w8 10 0)) rfl dX3_alike_27 ?_
        refine z_icmp_ge (tgt := 49) hC dX3_alike_30 (by decide) (fun h9 => ?_) (fun h9 => ?_)
        · replace hf := zif_t h9 hf
          refine z_lv [0] rfl ?_
          exact hJ49 _ hf
        replace hf := zif_f h9 hf
        refine z_aload_n hC dX3_alike_33 0 rfl rfl ?_
        refine z_get3 hC 4 (by decide) zw_fl_X3_27 (v := .ref (zad G 10)) rfl dX3_alike_34 ?_
        refine z_get0 hC zcamp10 1 (by decide) zw_fl_X3_122 (v := .ref (zad G (10 + 1))) rfl dX3_alike_37 ?_
        refine z_iload_n hC dX3_alike_40 2 rfl rfl ?_
        refine z_iload_n hC dX3_alike_41 1 rfl rfl ?_
        obtain ⟨hg10, hf⟩ := zg_e hf
        obtain ⟨w11, ew11, hf⟩ := zlet_e hf
        refine z_iast hC (za_c1 zcamp10) hg10 rfl ew11 dX3_alike_42 ?_
        obtain ⟨v12, ev12, hf⟩ := zlet_e hf
        refine z_iinc (v := v12) (lv' := [(2, .int v12), (0, .ref (zad G 0)), (1, .int a1)]) hC dX3_alike_43 2 rfl (by rw [ev12]; rfl) (by decide) rfl ?_
        refine z_goto (tgt := 22) hC dX3_alike_46 (by decide) ?_
        refine z_lv [1, 2, 0] rfl ?_
        exact ih22 _ _ hf
    refine z_lv [1, 2, 0] rfl ?_
    exact hL22 _ _ _ hf
  replace hf := zif_t h1 hf
  refine z_iconst hC dX3_alike_7 (v := -1) rfl ?_
  obtain ⟨rfl, rfl⟩ := zso2 hf
  exact z_iret hC dX3_alike_8
theorem zy_X3_alike : zYV yX3_alike cX3_alike 3 (some .int) RX3 1 := ⟨zw_cd_X3_alike, zw_im_X3_alike, zw_sel_X3_alike, zw_ini_X3, by decide +kernel⟩
abbrev rm_X3_alone : Room := { frames := 5, cells := 0, slots := 0, locals := 113 }
def f_X3_alone (w : zW) (a1 : Int32) (a2 : Int32) : Option (Int32 × zW) :=
  if (f_X3_isOne w a1) = (0 : Int32) then
    some ((-1 : Int32), w)
  else
  if (f_X3_within a2 (0 : Int32) (20 : Int32)) = (0 : Int32) then
    some ((-1 : Int32), w)
  else
    zbd (f_X0_isDown w 2 a1) fun v3 =>
    if v3 = (0 : Int32) then
      zbd (f_X0_copyFrom w 10 2) fun w5 =>
      zbd (f_X0_leaveOnly w5 10 a1) fun w6 =>
      zlet (zup w6 10 9 a2) fun w7 =>
      zbd2 (f_X0_hoursToGoal w7 10 (w7 2 13)) fun v9 w8 =>
      zbd (f_X0_arrived w8 10) fun v10 =>
      if v10 ≤ (0 : Int32) then
        some ((-4 : Int32), w8)
      else
      some (v9, w8)
    else
    some ((-2 : Int32), w)
set_option maxRecDepth 100000 in
set_option maxHeartbeats 4000000 in
theorem c_X3_alone (l : Launch) (G : zG) (w : zW) (a1 : Int32) (a2 : Int32) {r : Int32} {wz : zW} (hf : f_X3_alone w a1 a2 = some (r, wz)) : zMet l G yX3_alone cX3_alone 4 (some .int) rm_X3_alone [.ref (zad G 0), .int a1, .int a2] w (some (.int r)) wz := by
  refine z_start (own := RX3) (by decide) rfl (Nat.le_of_ble_eq_true rfl) (lv := [(0, .ref (zad G 0)), (1, .int a1), (2, .int a2)]) rfl ?_
  intro p e s m args below meth c hC
  unfold f_X3_alone at hf
  refine z_aload_n hC dX3_alone_0 0 rfl rfl ?_
  refine z_iload_n hC dX3_alone_1 1 rfl rfl ?_
  refine z_cvi (As := [.int a1]) (rest := []) hC zo_bot rfl (c_X3_isOne l G w a1) zw_ml_X3_118 zy_X3_isOne ⟨rfl, rfl, Nat.le_of_ble_eq_true rfl, Nat.le_of_ble_eq_true rfl⟩ rfl rfl (Nat.le_of_ble_eq_true rfl) dX3_alone_2 ?_
  refine z_if_eq (tgt := 18) hC dX3_alone_5 (by decide) (fun h1 => ?_) (fun h1 => ?_)
  · replace hf := zif_t h1 hf
    refine z_iconst hC dX3_alone_18 (v := -1) rfl ?_
    obtain ⟨rfl, rfl⟩ := zso2 hf
    exact z_iret hC dX3_alone_19
  replace hf := zif_f h1 hf
  refine z_iload_n hC dX3_alone_8 2 rfl rfl ?_
  refine z_iconst hC dX3_alone_9 (v := 0) rfl ?_
  refine z_bipush hC dX3_alone_10 (v := 20) rfl ?_
  refine z_csi (As := [.int a2, .int (0 : Int32), .int (20 : Int32)]) (rest := []) hC (c_X3_within l G w a2 (0 : Int32) (20 : Int32)) zw_ml_X3_70 zy_X3_within ⟨rfl, rfl, Nat.le_of_ble_eq_true rfl, Nat.le_of_ble_eq_true rfl⟩ rfl rfl (Nat.le_of_ble_eq_true rfl) dX3_alone_12 ?_
  refine z_if_ne (tgt := 20) hC dX3_alone_15 (by decide) (fun h2 => ?_) (fun h2 => ?_)
  · replace hf := zif_f h2 hf
    refine z_aload_n hC dX3_alone_20 0 rfl rfl ?_
    refine z_get3 hC 3 (by decide) zw_fl_X3_23 (v := .ref (zad G 2)) rfl dX3_alone_21 ?_
    refine z_iload_n hC dX3_alone_24 1 rfl rfl ?_
    obtain ⟨v3, ev3, hf⟩ := zbd_e hf
    refine z_cvi (As := [.int a1]) (rest := []) hC (zo_camp zcamp2) rfl (c_X0_isDown l G w 2 zcamp2 a1 ev3) zw_ml_X3_183 zy_X0_isDown ⟨rfl, rfl, Nat.le_of_ble_eq_true rfl, Nat.le_of_ble_eq_true rfl⟩ rfl rfl (Nat.le_of_ble_eq_true rfl) dX3_alone_25 ?_
    refine z_if_eq (tgt := 34) hC dX3_alone_28 (by decide) (fun h4 => ?_) (fun h4 => ?_)
    · replace hf := zif_t h4 hf
      refine z_aload_n hC dX3_alone_34 0 rfl rfl ?_
      refine z_get3 hC 4 (by decide) zw_fl_X3_27 (v := .ref (zad G 10)) rfl dX3_alone_35 ?_
      refine z_aload_n hC dX3_alone_38 0 rfl rfl ?_
      refine z_get3 hC 3 (by decide) zw_fl_X3_23 (v := .ref (zad G 2)) rfl dX3_alone_39 ?_
      obtain ⟨w5, ew5, hf⟩ := zbd_e hf
      refine z_cvv (As := [.ref (zad G 2)]) (rest := []) hC (zo_camp zcamp10) rfl (c_X0_copyFrom l G w 10 zcamp10 2 zcamp2 ew5) zw_ml_X3_84 zy_X0_copyFrom ⟨rfl, rfl, Nat.le_of_ble_eq_true rfl, Nat.le_of_ble_eq_true rfl⟩ rfl rfl (Nat.le_of_ble_eq_true rfl) dX3_alone_42 ?_
      refine z_aload_n hC dX3_alone_45 0 rfl rfl ?_
      refine z_get3 hC 4 (by decide) zw_fl_X3_27 (v := .ref (zad G 10)) rfl dX3_alone_46 ?_
      refine z_iload_n hC dX3_alone_49 1 rfl rfl ?_
      obtain ⟨w6, ew6, hf⟩ := zbd_e hf
      refine z_cvv (As := [.int a1]) (rest := []) hC (zo_camp zcamp10) rfl (c_X0_leaveOnly l G w5 10 zcamp10 a1 ew6) zw_ml_X3_200 zy_X0_leaveOnly ⟨rfl, rfl, Nat.le_of_ble_eq_true rfl, Nat.le_of_ble_eq_true rfl⟩ rfl rfl (Nat.le_of_ble_eq_true rfl) dX3_alone_50 ?_
      refine z_aload_n hC dX3_alone_53 0 rfl rfl ?_
      refine z_get3 hC 4 (by decide) zw_fl_X3_27 (v := .ref (zad G 10)) rfl dX3_alone_54 ?_
      refine z_iload_n hC dX3_alone_57 2 rfl rfl ?_
      obtain ⟨w7, ew7, hf⟩ := zlet_e hf
      refine z_put0 hC zcamp10 9 (by decide) rfl rfl zw_fl_X3_106 rfl ew7 dX3_alone_58 ?_
      refine z_aload_n hC dX3_alone_61 0 rfl rfl ?_
      refine z_get3 hC 4 (by decide) zw_fl_X3_27 (v := .ref (zad G 10)) rfl dX3_alone_62 ?_
      refine z_aload_n hC dX3_alone_65 0 rfl rfl ?_
      refine z_get3 hC 3 (by decide) zw_fl_X3_23 (v := .ref (zad G 2)) rfl dX3_alone_66 ?_
      refine z_get0 hC zcamp2 13 (by decide) zw_fl_X3_109 (v := .int (w7 2 13)) rfl dX3_alone_69 ?_
      obtain ⟨v9, w8, ew8, hf⟩ := zbd2_e hf
      refine z_cvi (As := [.int (w7 2 13)]) (rest := []) hC (zo_camp zcamp10) rfl (c_X0_hoursToGoal l G w7 10 zcamp10 (w7 2 13) ew8) zw_ml_X3_186 zy_X0_hoursToGoal ⟨rfl, rfl, Nat.le_of_ble_eq_true rfl, Nat.le_of_ble_eq_true rfl⟩ rfl rfl (Nat.le_of_ble_eq_true rfl) dX3_alone_72 ?_
      refine z_istore_n (lv' := [(3, .int v9), (0, .ref (zad G 0)), (1, .int a1), (2, .int a2)]) hC dX3_alone_75 rfl (by decide) rfl ?_
      refine z_aload_n hC dX3_alone_76 1 rfl rfl ?_
      refine z_get3 hC 4 (by decide) zw_fl_X3_27 (v := .ref (zad G 10)) rfl dX3_alone_77 ?_
      obtain ⟨v10, ev10, hf⟩ := zbd_e hf
      refine z_cvi (As := []) (rest := []) hC (zo_camp zcamp10) rfl (c_X0_arrived l G w8 10 zcamp10 ev10) zw_ml_X3_189 zy_X0_arrived ⟨rfl, rfl, Nat.le_of_ble_eq_true rfl, Nat.le_of_ble_eq_true rfl⟩ rfl rfl (Nat.le_of_ble_eq_true rfl) dX3_alone_80 ?_
      refine z_if_le (tgt := 90) hC dX3_alone_83 (by decide) (fun h11 => ?_) (fun h11 => ?_)
      · replace hf := zif_t h11 hf
        refine z_bipush hC dX3_alone_90 (v := -4) rfl ?_
        obtain ⟨rfl, rfl⟩ := zso2 hf
        exact z_iret hC dX3_alone_92
      replace hf := zif_f h11 hf
      refine z_iload_n hC dX3_alone_86 0 rfl rfl ?_
      refine z_goto (tgt := 92) hC dX3_alone_87 (by decide) ?_
      obtain ⟨rfl, rfl⟩ := zso2 hf
      exact z_iret hC dX3_alone_92
    replace hf := zif_f h4 hf
    refine z_bipush hC dX3_alone_31 (v := -2) rfl ?_
    obtain ⟨rfl, rfl⟩ := zso2 hf
    exact z_iret hC dX3_alone_33
  replace hf := zif_t h2 hf
  refine z_iconst hC dX3_alone_18 (v := -1) rfl ?_
  obtain ⟨rfl, rfl⟩ := zso2 hf
  exact z_iret hC dX3_alone_19
theorem zy_X3_alone : zYV yX3_alone cX3_alone 4 (some .int) RX3 2 := ⟨zw_cd_X3_alone, zw_im_X3_alone, zw_sel_X3_alone, zw_ini_X3, by decide +kernel⟩
abbrev rm_X3_isPlan : Room := { frames := 1, cells := 0, slots := 0, locals := 22 }
def f_X3_isPlan (a0 : Int32) : Int32 :=
  f_X3_within a0 (0 : Int32) (3 : Int32)
theorem zb_X3_isPlan (a0 : Int32) : zbo (f_X3_isPlan a0) = true := by
  unfold f_X3_isPlan
  (try simp only [zjn0, zjn1, zlet])
  (try repeat' split) <;> first | (with_reducible exact zb_X3_within _ _ _) | rfl
set_option maxRecDepth 100000 in
set_option maxHeartbeats 4000000 in
theorem c_X3_isPlan (l : Launch) (G : zG) (w : zW) (a0 : Int32) : zMet l G yX3_isPlan cX3_isPlan 1 (some .boolean) rm_X3_isPlan [.int a0] w (some (.int (f_X3_isPlan a0))) w := by
  generalize hf : f_X3_isPlan a0 = r
  refine z_start (own := RX3) (by decide) rfl (Nat.le_of_ble_eq_true rfl) (lv := [(0, .int a0)]) rfl ?_
  intro p e s m args below meth c hC
  unfold f_X3_isPlan at hf
  refine z_iload_n hC dX3_isPlan_0 0 rfl rfl ?_
  refine z_iconst hC dX3_isPlan_1 (v := 0) rfl ?_
  refine z_iconst hC dX3_isPlan_2 (v := 3) rfl ?_
  refine z_csi (As := [.int a0, .int (0 : Int32), .int (3 : Int32)]) (rest := []) hC (c_X3_within l G w a0 (0 : Int32) (3 : Int32)) zw_ml_X3_70 zy_X3_within ⟨rfl, rfl, Nat.le_of_ble_eq_true rfl, Nat.le_of_ble_eq_true rfl⟩ rfl rfl (Nat.le_of_ble_eq_true rfl) dX3_isPlan_3 ?_
  subst hf
  exact z_zret hC (zbo_n (zb_X3_within _ _ _)) dX3_isPlan_6
theorem zy_X3_isPlan : zYS yX3_isPlan cX3_isPlan 1 (some .boolean) 1 := ⟨zw_cd_X3_isPlan, zw_st_X3_isPlan, zw_ini_X3, by decide +kernel⟩
abbrev rm_X3_arrive : Room := { frames := 5, cells := 0, slots := 0, locals := 113 }
def f_X3_arrive (w : zW) (a1 : Int32) (a2 : Int32) : Option (Int32 × zW) :=
  if (f_X3_isPlan a1) = (0 : Int32) then
    some ((-1 : Int32), w)
  else
  if (f_X3_within a2 (0 : Int32) (1 : Int32)) = (0 : Int32) then
    some ((-1 : Int32), w)
  else
    zbd (f_X0_copyFrom w 10 2) fun w3 =>
    zbd2 (f_X0_hoursToGoal w3 10 a1) fun v5 w4 =>
    zbd (f_X0_arrived w4 10) fun v6 =>
    if a2 = (0 : Int32) then
      some (v6, w4)
    else
      if v6 ≤ (0 : Int32) then
        some ((-4 : Int32), w4)
      else
      some (v5, w4)
set_option maxRecDepth 100000 in
set_option maxHeartbeats 4000000 in
theorem c_X3_arrive (l : Launch) (G : zG) (w : zW) (a1 : Int32) (a2 : Int32) {r : Int32} {wz : zW} (hf : f_X3_arrive w a1 a2 = some (r, wz)) : zMet l G yX3_arrive cX3_arrive 5 (some .int) rm_X3_arrive [.ref (zad G 0), .int a1, .int a2] w (some (.int r)) wz := by
  refine z_start (own := RX3) (by decide) rfl (Nat.le_of_ble_eq_true rfl) (lv := [(0, .ref (zad G 0)), (1, .int a1), (2, .int a2)]) rfl ?_
  intro p e s m args below meth c hC
  unfold f_X3_arrive at hf
  refine z_iload_n hC dX3_arrive_0 1 rfl rfl ?_
  refine z_csi (As := [.int a1]) (rest := []) hC (c_X3_isPlan l G w a1) zw_ml_X3_169 zy_X3_isPlan ⟨rfl, rfl, Nat.le_of_ble_eq_true rfl, Nat.le_of_ble_eq_true rfl⟩ rfl rfl (Nat.le_of_ble_eq_true rfl) dX3_arrive_1 ?_
  refine z_if_eq (tgt := 16) hC dX3_arrive_4 (by decide) (fun h1 => ?_) (fun h1 => ?_)
  · replace hf := zif_t h1 hf
    refine z_iconst hC dX3_arrive_16 (v := -1) rfl ?_
    obtain ⟨rfl, rfl⟩ := zso2 hf
    exact z_iret hC dX3_arrive_17
  replace hf := zif_f h1 hf
  refine z_iload_n hC dX3_arrive_7 2 rfl rfl ?_
  refine z_iconst hC dX3_arrive_8 (v := 0) rfl ?_
  refine z_iconst hC dX3_arrive_9 (v := 1) rfl ?_
  refine z_csi (As := [.int a2, .int (0 : Int32), .int (1 : Int32)]) (rest := []) hC (c_X3_within l G w a2 (0 : Int32) (1 : Int32)) zw_ml_X3_70 zy_X3_within ⟨rfl, rfl, Nat.le_of_ble_eq_true rfl, Nat.le_of_ble_eq_true rfl⟩ rfl rfl (Nat.le_of_ble_eq_true rfl) dX3_arrive_10 ?_
  refine z_if_ne (tgt := 18) hC dX3_arrive_13 (by decide) (fun h2 => ?_) (fun h2 => ?_)
  · replace hf := zif_f h2 hf
    refine z_aload_n hC dX3_arrive_18 0 rfl rfl ?_
    refine z_get3 hC 4 (by decide) zw_fl_X3_27 (v := .ref (zad G 10)) rfl dX3_arrive_19 ?_
    refine z_aload_n hC dX3_arrive_22 0 rfl rfl ?_
    refine z_get3 hC 3 (by decide) zw_fl_X3_23 (v := .ref (zad G 2)) rfl dX3_arrive_23 ?_
    obtain ⟨w3, ew3, hf⟩ := zbd_e hf
    refine z_cvv (As := [.ref (zad G 2)]) (rest := []) hC (zo_camp zcamp10) rfl (c_X0_copyFrom l G w 10 zcamp10 2 zcamp2 ew3) zw_ml_X3_84 zy_X0_copyFrom ⟨rfl, rfl, Nat.le_of_ble_eq_true rfl, Nat.le_of_ble_eq_true rfl⟩ rfl rfl (Nat.le_of_ble_eq_true rfl) dX3_arrive_26 ?_
    refine z_aload_n hC dX3_arrive_29 0 rfl rfl ?_
    refine z_get3 hC 4 (by decide) zw_fl_X3_27 (v := .ref (zad G 10)) rfl dX3_arrive_30 ?_
    refine z_iload_n hC dX3_arrive_33 1 rfl rfl ?_
    obtain ⟨v5, w4, ew4, hf⟩ := zbd2_e hf
    refine z_cvi (As := [.int a1]) (rest := []) hC (zo_camp zcamp10) rfl (c_X0_hoursToGoal l G w3 10 zcamp10 a1 ew4) zw_ml_X3_186 zy_X0_hoursToGoal ⟨rfl, rfl, Nat.le_of_ble_eq_true rfl, Nat.le_of_ble_eq_true rfl⟩ rfl rfl (Nat.le_of_ble_eq_true rfl) dX3_arrive_34 ?_
    refine z_istore_n (lv' := [(3, .int v5), (0, .ref (zad G 0)), (1, .int a1), (2, .int a2)]) hC dX3_arrive_37 rfl (by decide) rfl ?_
    refine z_aload_n hC dX3_arrive_38 1 rfl rfl ?_
    refine z_get3 hC 4 (by decide) zw_fl_X3_27 (v := .ref (zad G 10)) rfl dX3_arrive_39 ?_
    obtain ⟨v6, ev6, hf⟩ := zbd_e hf
    refine z_cvi (As := []) (rest := []) hC (zo_camp zcamp10) rfl (c_X0_arrived l G w4 10 zcamp10 ev6) zw_ml_X3_189 zy_X0_arrived ⟨rfl, rfl, Nat.le_of_ble_eq_true rfl, Nat.le_of_ble_eq_true rfl⟩ rfl rfl (Nat.le_of_ble_eq_true rfl) dX3_arrive_42 ?_
    refine z_istore (lv' := [(4, .int v6), (3, .int v5), (0, .ref (zad G 0)), (1, .int a1), (2, .int a2)]) hC dX3_arrive_45 (by decide) rfl ?_
    refine z_iload_n hC dX3_arrive_47 4 rfl rfl ?_
    refine z_if_ne (tgt := 54) hC dX3_arrive_48 (by decide) (fun h7 => ?_) (fun h7 => ?_)
    · replace hf := zif_f h7 hf
      refine z_iload hC dX3_arrive_54 0 rfl ?_
      refine z_if_le (tgt := 63) hC dX3_arrive_56 (by decide) (fun h8 => ?_) (fun h8 => ?_)
      · replace hf := zif_t h8 hf
        refine z_bipush hC dX3_arrive_63 (v := -4) rfl ?_
        obtain ⟨rfl, rfl⟩ := zso2 hf
        exact z_iret hC dX3_arrive_65
      replace hf := zif_f h8 hf
      refine z_iload_n hC dX3_arrive_59 1 rfl rfl ?_
      refine z_goto (tgt := 65) hC dX3_arrive_60 (by decide) ?_
      obtain ⟨rfl, rfl⟩ := zso2 hf
      exact z_iret hC dX3_arrive_65
    replace hf := zif_t h7 hf
    refine z_iload hC dX3_arrive_51 0 rfl ?_
    obtain ⟨rfl, rfl⟩ := zso2 hf
    exact z_iret hC dX3_arrive_53
  replace hf := zif_t h2 hf
  refine z_iconst hC dX3_arrive_16 (v := -1) rfl ?_
  obtain ⟨rfl, rfl⟩ := zso2 hf
  exact z_iret hC dX3_arrive_17
theorem zy_X3_arrive : zYV yX3_arrive cX3_arrive 5 (some .int) RX3 2 := ⟨zw_cd_X3_arrive, zw_im_X3_arrive, zw_sel_X3_arrive, zw_ini_X3, by decide +kernel⟩
abbrev rm_X3_arrivingBy : Room := { frames := 5, cells := 0, slots := 0, locals := 113 }
def b_X3_arrivingBy_13 (a1 : Int32) (j53 : zW → Option (Int32 × zW)) (k13 : Int32 → zW → Option (Int32 × zW)) (v6 : Int32) (w7 : zW) : Option (Int32 × zW) :=
  if (w7 10 4) ≤ v6 then
    j53 w7
  else
  zjn1 (fun (v9 : Int32) =>
    zg (zin v6 3) <|
    zlet (zup w7 (10 + 7) (zx v6) (vp_nar .boolean v9)) fun w11 =>
    zlet (v6 + (1 : Int32)) fun v12 =>
    k13 v12 w11)
  (fun (j46 : Int32 → Option (Int32 × zW)) =>
  if ((a1 >>> (v6 &&& 31)) &&& (1 : Int32)) = (1 : Int32) then
    j46 (1 : Int32)
  else
    j46 (0 : Int32))
def f_X3_arrivingBy (w : zW) (a1 : Int32) (a2 : Int32) : Option (Int32 × zW) :=
  zbd (f_X0_copyFrom w 10 2) fun w1 =>
  zjn1 (fun (w2 : zW) =>
    zbd2 (f_X0_hoursToGoal w2 10 a2) fun v4 w3 =>
    zbd (f_X0_arrived w3 10) fun v5 =>
    some (v5, w3))
  (fun (j53 : zW → Option (Int32 × zW)) =>
  zfix2 (b_X3_arrivingBy_13 a1 j53) 100000 (0 : Int32) w1)
set_option maxRecDepth 100000 in
set_option maxHeartbeats 4000000 in
theorem c_X3_arrivingBy (l : Launch) (G : zG) (w : zW) (a1 : Int32) (a2 : Int32) {r : Int32} {wz : zW} (hf : f_X3_arrivingBy w a1 a2 = some (r, wz)) : zMet l G yX3_arrivingBy cX3_arrivingBy 4 (some .int) rm_X3_arrivingBy [.ref (zad G 0), .int a1, .int a2] w (some (.int r)) wz := by
  refine z_start (own := RX3) (by decide) rfl (Nat.le_of_ble_eq_true rfl) (lv := [(0, .ref (zad G 0)), (1, .int a1), (2, .int a2)]) rfl ?_
  intro p e s m args below meth c hC
  unfold f_X3_arrivingBy at hf
  refine z_aload_n hC dX3_arrivingBy_0 0 rfl rfl ?_
  refine z_get3 hC 4 (by decide) zw_fl_X3_27 (v := .ref (zad G 10)) rfl dX3_arrivingBy_1 ?_
  refine z_aload_n hC dX3_arrivingBy_4 0 rfl rfl ?_
  refine z_get3 hC 3 (by decide) zw_fl_X3_23 (v := .ref (zad G 2)) rfl dX3_arrivingBy_5 ?_
  obtain ⟨w1, ew1, hf⟩ := zbd_e hf
  refine z_cvv (As := [.ref (zad G 2)]) (rest := []) hC (zo_camp zcamp10) rfl (c_X0_copyFrom l G w 10 zcamp10 2 zcamp2 ew1) zw_ml_X3_84 zy_X0_copyFrom ⟨rfl, rfl, Nat.le_of_ble_eq_true rfl, Nat.le_of_ble_eq_true rfl⟩ rfl rfl (Nat.le_of_ble_eq_true rfl) dX3_arrivingBy_8 ?_
  refine z_iconst hC dX3_arrivingBy_11 (v := 0) rfl ?_
  refine z_istore_n (lv' := [(3, .int (0 : Int32)), (0, .ref (zad G 0)), (1, .int a1), (2, .int a2)]) hC dX3_arrivingBy_12 rfl (by decide) rfl ?_
  obtain ⟨j53, hj53, hf⟩ := zjn1_e hf
  have hJ53 : ∀ (w2 : zW), j53 w2 = some (r, wz) → Z G p l e rm_X3_arrivingBy s m args below meth c (MQ below (zQ G (some (.int r)) wz) args s 0 0 (zA G)) 4 53 [(0, .ref (zad G 0)), (2, .int a2)] [] w2 := by
    intro w2 hf
    replace hf := hj53 w2 hf
    refine z_aload_n hC dX3_arrivingBy_53 0 rfl rfl ?_
    refine z_get3 hC 4 (by decide) zw_fl_X3_27 (v := .ref (zad G 10)) rfl dX3_arrivingBy_54 ?_
    refine z_iload_n hC dX3_arrivingBy_57 1 rfl rfl ?_
    obtain ⟨v4, w3, ew3, hf⟩ := zbd2_e hf
    refine z_cvi (As := [.int a2]) (rest := []) hC (zo_camp zcamp10) rfl (c_X0_hoursToGoal l G w2 10 zcamp10 a2 ew3) zw_ml_X3_186 zy_X0_hoursToGoal ⟨rfl, rfl, Nat.le_of_ble_eq_true rfl, Nat.le_of_ble_eq_true rfl⟩ rfl rfl (Nat.le_of_ble_eq_true rfl) dX3_arrivingBy_58 ?_
    refine z_pop hC dX3_arrivingBy_61 rfl ?_
    refine z_aload_n hC dX3_arrivingBy_62 0 rfl rfl ?_
    refine z_get3 hC 4 (by decide) zw_fl_X3_27 (v := .ref (zad G 10)) rfl dX3_arrivingBy_63 ?_
    obtain ⟨v5, ev5, hf⟩ := zbd_e hf
    refine z_cvi (As := []) (rest := []) hC (zo_camp zcamp10) rfl (c_X0_arrived l G w3 10 zcamp10 ev5) zw_ml_X3_189 zy_X0_arrived ⟨rfl, rfl, Nat.le_of_ble_eq_true rfl, Nat.le_of_ble_eq_true rfl⟩ rfl rfl (Nat.le_of_ble_eq_true rfl) dX3_arrivingBy_66 ?_
    obtain ⟨rfl, rfl⟩ := zso2 hf
    exact z_iret hC dX3_arrivingBy_69
  have hL13 : ∀ (n : Nat) (v6 : Int32) (w7 : zW), zfix2 (b_X3_arrivingBy_13 a1 j53) n v6 w7 = some (r, wz) → Z G p l e rm_X3_arrivingBy s m args below meth c (MQ below (zQ G (some (.int r)) wz) args s 0 0 (zA G)) 4 13 [(0, .ref (zad G 0)), (1, .int a1), (2, .int a2), (3, .int v6)] [] w7 := by
    intro n
    induction n with
    | zero => intro v6 w7 hf; exact (zfix2_0 hf).elim
    | succ n ih13 =>
      intro v6 w7 hf
      replace hf := zfix2_e hf
      unfold b_X3_arrivingBy_13 at hf
      refine z_iload_n hC dX3_arrivingBy_13 3 rfl rfl ?_
      refine z_aload_n hC dX3_arrivingBy_14 0 rfl rfl ?_
      refine z_get3 hC 4 (by decide) zw_fl_X3_27 (v := .ref (zad G 10)) rfl dX3_arrivingBy_15 ?_
      refine z_get0 hC zcamp10 4 (by decide) zw_fl_X3_94 (v := .int (w7 10 4)) rfl dX3_arrivingBy_18 ?_
      refine z_icmp_ge (tgt := 53) hC dX3_arrivingBy_21 (by decide) (fun h8 => ?_) (fun h8 => ?_)
      · replace hf := zif_t h8 hf
        refine z_lv [0, 2] rfl ?_
        exact hJ53 _ hf
      replace hf := zif_f h8 hf
      refine z_aload_n hC dX3_arrivingBy_24 0 rfl rfl ?_
      refine z_get3 hC 4 (by decide) zw_fl_X3_27 (v := .ref (zad G 10)) rfl dX3_arrivingBy_25 ?_
      refine z_get0 hC zcamp10 8 (by decide) zw_fl_X3_147 (v := .ref (zad G (10 + 7))) rfl dX3_arrivingBy_28 ?_
      refine z_iload_n hC dX3_arrivingBy_31 3 rfl rfl ?_
      refine z_iload_n hC dX3_arrivingBy_32 1 rfl rfl ?_
      refine z_iload_n hC dX3_arrivingBy_33 3 rfl rfl ?_
      refine z_ishr hC dX3_arrivingBy_34 ?_
      refine z_iconst hC dX3_arrivingBy_35 (v := 1) rfl ?_
      refine z_iand hC dX3_arrivingBy_36 ?_
      refine z_iconst hC dX3_arrivingBy_37 (v := 1) rfl ?_
      obtain ⟨j46, hj46, hf⟩ := zjn1_e hf
      have hJ46 : ∀ (v9 : Int32), j46 v9 = some (r, wz) → Z G p l e rm_X3_arrivingBy s m args below meth c (MQ below (zQ G (some (.int r)) wz) args s 0 0 (zA G)) 4 46 [(0, .ref (zad G 0)), (1, .int a1), (2, .int a2), (3, .int v6)] [.int v9, .int v6, .ref (zad G (10 + 7))] w7 := by
        intro v9 hf
        replace hf := hj46 v9 hf
        obtain ⟨hg10, hf⟩ := zg_e hf
        obtain ⟨w11, ew11, hf⟩ := zlet_e hf
        refine z_zast hC (za_c7 zcamp10) hg10 rfl ew11 dX3_arrivingBy_46 ?_
        obtain ⟨v12, ev12, hf⟩ := zlet_e hf
        refine z_iinc (v := v12) (lv' := [(3, .int v12), (0, .ref (zad G 0)), (1, .int a1), (2, .int a2)]) hC dX3_arrivingBy_47 3 rfl (by rw [ev12]; rfl) (by decide) rfl ?_
        refine z_goto (tgt := 13) hC dX3_arrivingBy_50 (by decide) ?_
        refine z_lv [1, 2, 3, 0] rfl ?_
        exact ih13 _ _ hf
      refine z_icmp_ne (tgt := 45) hC dX3_arrivingBy_38 (by decide) (fun h13 => ?_) (fun h13 => ?_)
      · replace hf := zif_f h13 hf
        refine z_iconst hC dX3_arrivingBy_45 (v := 0) rfl ?_
        exact hJ46 _ hf
      replace hf := zif_t h13 hf
      refine z_iconst hC dX3_arrivingBy_41 (v := 1) rfl ?_
      refine z_goto (tgt := 46) hC dX3_arrivingBy_42 (by decide) ?_
      exact hJ46 _ hf
  refine z_lv [1, 2, 3, 0] rfl ?_
  exact hL13 _ _ _ hf
theorem zy_X3_arrivingBy : zYV yX3_arrivingBy cX3_arrivingBy 4 (some .int) RX3 2 := ⟨zw_cd_X3_arrivingBy, zw_im_X3_arrivingBy, zw_sel_X3_arrivingBy, zw_ini_X3, by decide +kernel⟩
abbrev rm_X3_asNumber : Room := { frames := 0, cells := 0, slots := 0, locals := 0 }
def f_X3_asNumber (a0 : Int32) : Int32 :=
  if a0 = (0 : Int32) then
    (0 : Int32)
  else
  (1 : Int32)
set_option maxRecDepth 100000 in
set_option maxHeartbeats 4000000 in
theorem c_X3_asNumber (l : Launch) (G : zG) (w : zW) (a0 : Int32) : zMet l G yX3_asNumber cX3_asNumber 1 (some .int) rm_X3_asNumber [.int a0] w (some (.int (f_X3_asNumber a0))) w := by
  generalize hf : f_X3_asNumber a0 = r
  refine z_start (own := RX3) (by decide) rfl (Nat.le_of_ble_eq_true rfl) (lv := [(0, .int a0)]) rfl ?_
  intro p e s m args below meth c hC
  unfold f_X3_asNumber at hf
  refine z_iload_n hC dX3_asNumber_0 0 rfl rfl ?_
  refine z_if_eq (tgt := 8) hC dX3_asNumber_1 (by decide) (fun h1 => ?_) (fun h1 => ?_)
  · replace hf := zif_t h1 hf
    refine z_iconst hC dX3_asNumber_8 (v := 0) rfl ?_
    subst hf
    exact z_iret hC dX3_asNumber_9
  replace hf := zif_f h1 hf
  refine z_iconst hC dX3_asNumber_4 (v := 1) rfl ?_
  refine z_goto (tgt := 9) hC dX3_asNumber_5 (by decide) ?_
  subst hf
  exact z_iret hC dX3_asNumber_9
theorem zy_X3_asNumber : zYS yX3_asNumber cX3_asNumber 1 (some .int) 1 := ⟨zw_cd_X3_asNumber, zw_st_X3_asNumber, zw_ini_X3, by decide +kernel⟩
abbrev rm_X3_isImage : Room := { frames := 1, cells := 0, slots := 0, locals := 22 }
def f_X3_isImage (a0 : Int32) : Int32 :=
  f_X3_within a0 (0 : Int32) (1 : Int32)
theorem zb_X3_isImage (a0 : Int32) : zbo (f_X3_isImage a0) = true := by
  unfold f_X3_isImage
  (try simp only [zjn0, zjn1, zlet])
  (try repeat' split) <;> first | (with_reducible exact zb_X3_within _ _ _) | rfl
set_option maxRecDepth 100000 in
set_option maxHeartbeats 4000000 in
theorem c_X3_isImage (l : Launch) (G : zG) (w : zW) (a0 : Int32) : zMet l G yX3_isImage cX3_isImage 1 (some .boolean) rm_X3_isImage [.int a0] w (some (.int (f_X3_isImage a0))) w := by
  generalize hf : f_X3_isImage a0 = r
  refine z_start (own := RX3) (by decide) rfl (Nat.le_of_ble_eq_true rfl) (lv := [(0, .int a0)]) rfl ?_
  intro p e s m args below meth c hC
  unfold f_X3_isImage at hf
  refine z_iload_n hC dX3_isImage_0 0 rfl rfl ?_
  refine z_iconst hC dX3_isImage_1 (v := 0) rfl ?_
  refine z_iconst hC dX3_isImage_2 (v := 1) rfl ?_
  refine z_csi (As := [.int a0, .int (0 : Int32), .int (1 : Int32)]) (rest := []) hC (c_X3_within l G w a0 (0 : Int32) (1 : Int32)) zw_ml_X3_70 zy_X3_within ⟨rfl, rfl, Nat.le_of_ble_eq_true rfl, Nat.le_of_ble_eq_true rfl⟩ rfl rfl (Nat.le_of_ble_eq_true rfl) dX3_isImage_3 ?_
  subst hf
  exact z_zret hC (zbo_n (zb_X3_within _ _ _)) dX3_isImage_6
theorem zy_X3_isImage : zYS yX3_isImage cX3_isImage 1 (some .boolean) 1 := ⟨zw_cd_X3_isImage, zw_st_X3_isImage, zw_ini_X3, by decide +kernel⟩
abbrev rm_X3_back : Room := { frames := 2, cells := 0, slots := 0, locals := 42 }
def f_X3_back (w : zW) (a1 : Int32) : Option (Int32 × zW) :=
  if (f_X3_isImage a1) = (0 : Int32) then
    some ((-1 : Int32), w)
  else
    zg (zin a1 2) <|
    if (w 44 (zx a1)) = (0 : Int32) then
      some ((-2 : Int32), w)
    else
      zg (zin a1 2) <|
      zbd (f_X0_copyFrom w 2 (26 + 8 * zx a1)) fun w5 =>
      some (w5 2 12, w5)
set_option maxRecDepth 100000 in
set_option maxHeartbeats 4000000 in
theorem c_X3_back (l : Launch) (G : zG) (w : zW) (a1 : Int32) {r : Int32} {wz : zW} (hf : f_X3_back w a1 = some (r, wz)) : zMet l G yX3_back cX3_back 2 (some .int) rm_X3_back [.ref (zad G 0), .int a1] w (some (.int r)) wz := by
  refine z_start (own := RX3) (by decide) rfl (Nat.le_of_ble_eq_true rfl) (lv := [(0, .ref (zad G 0)), (1, .int a1)]) rfl ?_
  intro p e s m args below meth c hC
  unfold f_X3_back at hf
  refine z_iload_n hC dX3_back_0 1 rfl rfl ?_
  refine z_csi (As := [.int a1]) (rest := []) hC (c_X3_isImage l G w a1) zw_ml_X3_224 zy_X3_isImage ⟨rfl, rfl, Nat.le_of_ble_eq_true rfl, Nat.le_of_ble_eq_true rfl⟩ rfl rfl (Nat.le_of_ble_eq_true rfl) dX3_back_1 ?_
  refine z_if_ne (tgt := 9) hC dX3_back_4 (by decide) (fun h1 => ?_) (fun h1 => ?_)
  · replace hf := zif_f h1 hf
    refine z_aload_n hC dX3_back_9 0 rfl rfl ?_
    refine z_get3 hC 8 (by decide) zw_fl_X3_46 (v := .ref (zad G 44)) rfl dX3_back_10 ?_
    refine z_iload_n hC dX3_back_13 1 rfl rfl ?_
    obtain ⟨hg2, hf⟩ := zg_e hf
    refine z_zald hC za_44 hg2 rfl dX3_back_14 ?_
    refine z_if_ne (tgt := 21) hC dX3_back_15 (by decide) (fun h3 => ?_) (fun h3 => ?_)
    · replace hf := zif_f h3 hf
      refine z_aload_n hC dX3_back_21 0 rfl rfl ?_
      refine z_get3 hC 3 (by decide) zw_fl_X3_23 (v := .ref (zad G 2)) rfl dX3_back_22 ?_
      refine z_aload_n hC dX3_back_25 0 rfl rfl ?_
      refine z_get3 hC 7 (by decide) zw_fl_X3_42 (v := .ref (zad G 43)) rfl dX3_back_26 ?_
      refine z_iload_n hC dX3_back_29 1 rfl rfl ?_
      obtain ⟨hg4, hf⟩ := zg_e hf
      refine z_aald43 hC hg4 dX3_back_30 ?_
      obtain ⟨w5, ew5, hf⟩ := zbd_e hf
      refine z_cvv (As := [.ref (zad G (26 + 8 * zx a1))]) (rest := []) hC (zo_camp zcamp2) rfl (c_X0_copyFrom l G w 2 zcamp2 (26 + 8 * zx a1) (zcampI hg4) ew5) zw_ml_X3_84 zy_X0_copyFrom ⟨rfl, rfl, Nat.le_of_ble_eq_true rfl, Nat.le_of_ble_eq_true rfl⟩ rfl rfl (Nat.le_of_ble_eq_true rfl) dX3_back_31 ?_
      refine z_aload_n hC dX3_back_34 0 rfl rfl ?_
      refine z_get3 hC 3 (by decide) zw_fl_X3_23 (v := .ref (zad G 2)) rfl dX3_back_35 ?_
      refine z_get0 hC zcamp2 12 (by decide) zw_fl_X3_103 (v := .int (w5 2 12)) rfl dX3_back_38 ?_
      obtain ⟨rfl, rfl⟩ := zso2 hf
      exact z_iret hC dX3_back_41
    replace hf := zif_t h3 hf
    refine z_bipush hC dX3_back_18 (v := -2) rfl ?_
    obtain ⟨rfl, rfl⟩ := zso2 hf
    exact z_iret hC dX3_back_20
  replace hf := zif_t h1 hf
  refine z_iconst hC dX3_back_7 (v := -1) rfl ?_
  obtain ⟨rfl, rfl⟩ := zso2 hf
  exact z_iret hC dX3_back_8
theorem zy_X3_back : zYV yX3_back cX3_back 2 (some .int) RX3 1 := ⟨zw_cd_X3_back, zw_im_X3_back, zw_sel_X3_back, zw_ini_X3, by decide +kernel⟩
abbrev rm_X3_best : Room := { frames := 5, cells := 0, slots := 0, locals := 113 }
def b_X3_best_21 (j98 : Int32 → Int32 → zW → Option (Int32 × zW)) (k21 : Int32 → Int32 → Int32 → Int32 → zW → Option (Int32 × zW)) (v6 : Int32) (v7 : Int32) (v8 : Int32) (v9 : Int32) (w10 : zW) : Option (Int32 × zW) :=
  if (2 : Int32) < v9 then
    j98 v6 v7 w10
  else
  zbd (f_X0_copyFrom w10 10 2) fun w12 =>
  zbd2 (f_X0_hoursToGoal w12 10 v9) fun v14 w13 =>
  zbd (f_X0_arrived w13 10) fun v15 =>
  zjn3 (fun (v16 : Int32) (v17 : Int32) (v18 : Int32) =>
    zlet (v9 + (1 : Int32)) fun v19 =>
    k21 v16 v17 v18 v19 w13)
  (fun (j92 : Int32 → Int32 → Int32 → Option (Int32 × zW)) =>
  zjn0 (
    j92 v9 v15 v14)
  (fun (j82 : Option (Int32 × zW)) =>
  if v7 < v15 then
    j82
  else
  if v15 ≤ (0 : Int32) then
    j92 v6 v7 v8
  else
  if v15 = v7 then
    if v8 ≤ v14 then
      j92 v6 v7 v8
    else
    j82
  else
    j92 v6 v7 v8))
def f_X3_best (w : zW) (a1 : Int32) : Option (Int32 × zW) :=
  if (f_X3_within a1 (0 : Int32) (1 : Int32)) = (0 : Int32) then
    some ((-1 : Int32), w)
  else
    zjn3 (fun (v2 : Int32) (v3 : Int32) (w4 : zW) =>
      if a1 = (0 : Int32) then
        some (v2, w4)
      else
        some (v3, w4))
    (fun (j98 : Int32 → Int32 → zW → Option (Int32 × zW)) =>
    zfix5 (b_X3_best_21 j98) 100000 (0 : Int32) (0 : Int32) (0 : Int32) (0 : Int32) w)
set_option maxRecDepth 100000 in
set_option maxHeartbeats 4000000 in
theorem c_X3_best (l : Launch) (G : zG) (w : zW) (a1 : Int32) {r : Int32} {wz : zW} (hf : f_X3_best w a1 = some (r, wz)) : zMet l G yX3_best cX3_best 8 (some .int) rm_X3_best [.ref (zad G 0), .int a1] w (some (.int r)) wz := by
  refine z_start (own := RX3) (by decide) rfl (Nat.le_of_ble_eq_true rfl) (lv := [(0, .ref (zad G 0)), (1, .int a1)]) rfl ?_
  intro p e s m args below meth c hC
  unfold f_X3_best at hf
  refine z_iload_n hC dX3_best_0 1 rfl rfl ?_
  refine z_iconst hC dX3_best_1 (v := 0) rfl ?_
  refine z_iconst hC dX3_best_2 (v := 1) rfl ?_
  refine z_csi (As := [.int a1, .int (0 : Int32), .int (1 : Int32)]) (rest := []) hC (c_X3_within l G w a1 (0 : Int32) (1 : Int32)) zw_ml_X3_70 zy_X3_within ⟨rfl, rfl, Nat.le_of_ble_eq_true rfl, Nat.le_of_ble_eq_true rfl⟩ rfl rfl (Nat.le_of_ble_eq_true rfl) dX3_best_3 ?_
  refine z_if_ne (tgt := 11) hC dX3_best_6 (by decide) (fun h1 => ?_) (fun h1 => ?_)
  · replace hf := zif_f h1 hf
    refine z_iconst hC dX3_best_11 (v := 0) rfl ?_
    refine z_istore_n (lv' := [(2, .int (0 : Int32)), (0, .ref (zad G 0)), (1, .int a1)]) hC dX3_best_12 rfl (by decide) rfl ?_
    refine z_iconst hC dX3_best_13 (v := 0) rfl ?_
    refine z_istore_n (lv' := [(3, .int (0 : Int32)), (2, .int (0 : Int32)), (0, .ref (zad G 0)), (1, .int a1)]) hC dX3_best_14 rfl (by decide) rfl ?_
    refine z_iconst hC dX3_best_15 (v := 0) rfl ?_
    refine z_istore (lv' := [(4, .int (0 : Int32)), (3, .int (0 : Int32)), (2, .int (0 : Int32)), (0, .ref (zad G 0)), (1, .int a1)]) hC dX3_best_16 (by decide) rfl ?_
    refine z_iconst hC dX3_best_18 (v := 0) rfl ?_
    refine z_istore (lv' := [(5, .int (0 : Int32)), (4, .int (0 : Int32)), (3, .int (0 : Int32)), (2, .int (0 : Int32)), (0, .ref (zad G 0)), (1, .int a1)]) hC dX3_best_19 (by decide) rfl ?_
    obtain ⟨j98, hj98, hf⟩ := zjn3_e hf
    have hJ98 : ∀ (v2 : Int32) (v3 : Int32) (w4 : zW), j98 v2 v3 w4 = some (r, wz) → Z G p l e rm_X3_best s m args below meth c (MQ below (zQ G (some (.int r)) wz) args s 0 0 (zA G)) 8 98 [(1, .int a1), (2, .int v2), (3, .int v3)] [] w4 := by
      intro v2 v3 w4 hf
      replace hf := hj98 v2 v3 w4 hf
      refine z_iload_n hC dX3_best_98 0 rfl rfl ?_
      refine z_if_ne (tgt := 106) hC dX3_best_99 (by decide) (fun h5 => ?_) (fun h5 => ?_)
      · replace hf := zif_f h5 hf
        refine z_iload_n hC dX3_best_106 2 rfl rfl ?_
        obtain ⟨rfl, rfl⟩ := zso2 hf
        exact z_iret hC dX3_best_107
      replace hf := zif_t h5 hf
      refine z_iload_n hC dX3_best_102 1 rfl rfl ?_
      refine z_goto (tgt := 107) hC dX3_best_103 (by decide) ?_
      obtain ⟨rfl, rfl⟩ := zso2 hf
      exact z_iret hC dX3_best_107
    have hL21 : ∀ (n : Nat) (v6 : Int32) (v7 : Int32) (v8 : Int32) (v9 : Int32) (w10 : zW), zfix5 (b_X3_best_21 j98) n v6 v7 v8 v9 w10 = some (r, wz) → Z G p l e rm_X3_best s m args below meth c (MQ below (zQ G (some (.int r)) wz) args s 0 0 (zA G)) 8 21 [(0, .ref (zad G 0)), (1, .int a1), (2, .int v6), (3, .int v7), (4, .int v8), (5, .int v9)] [] w10 := by
      intro n
      induction n with
      | zero => intro v6 v7 v8 v9 w10 hf; exact (zfix5_0 hf).elim
      | succ n ih21 =>
        intro v6 v7 v8 v9 w10 hf
        replace hf := zfix5_e hf
        unfold b_X3_best_21 at hf
        refine z_iload hC dX3_best_21 5 rfl ?_
        refine z_iconst hC dX3_best_23 (v := 2) rfl ?_
        refine z_icmp_gt (tgt := 98) hC dX3_best_24 (by decide) (fun h11 => ?_) (fun h11 => ?_)
        · replace hf := zif_t h11 hf
          refine z_lv [1, 2, 3] rfl ?_
          exact hJ98 _ _ _ hf
        replace hf := zif_f h11 hf
        refine z_aload_n hC dX3_best_27 0 rfl rfl ?_
        refine z_get3 hC 4 (by decide) zw_fl_X3_27 (v := .ref (zad G 10)) rfl dX3_best_28 ?_
        refine z_aload_n hC dX3_best_31 0 rfl rfl ?_
        refine z_get3 hC 3 (by decide) zw_fl_X3_23 (v := .ref (zad G 2)) rfl dX3_best_32 ?_
        obtain ⟨w12, ew12, hf⟩ := zbd_e hf
        refine z_cvv (As := [.ref (zad G 2)]) (rest := []) hC (zo_camp zcamp10) rfl (c_X0_copyFrom l G w10 10 zcamp10 2 zcamp2 ew12) zw_ml_X3_84 zy_X0_copyFrom ⟨rfl, rfl, Nat.le_of_ble_eq_true rfl, Nat.le_of_ble_eq_true rfl⟩ rfl rfl (Nat.le_of_ble_eq_true rfl) dX3_best_35 ?_
        refine z_aload_n hC dX3_best_38 0 rfl rfl ?_
        refine z_get3 hC 4 (by decide) zw_fl_X3_27 (v := .ref (zad G 10)) rfl dX3_best_39 ?_
        refine z_iload hC dX3_best_42 5 rfl ?_
        obtain ⟨v14, w13, ew13, hf⟩ := zbd2_e hf
        refine z_cvi (As := [.int v9]) (rest := []) hC (zo_camp zcamp10) rfl (c_X0_hoursToGoal l G w12 10 zcamp10 v9 ew13) zw_ml_X3_186 zy_X0_hoursToGoal ⟨rfl, rfl, Nat.le_of_ble_eq_true rfl, Nat.le_of_ble_eq_true rfl⟩ rfl rfl (Nat.le_of_ble_eq_true rfl) dX3_best_44 ?_
        refine z_istore (lv' := [(6, .int v14), (0, .ref (zad G 0)), (1, .int a1), (2, .int v6), (3, .int v7), (4, .int v8), (5, .int v9)]) hC dX3_best_47 (by decide) rfl ?_
        refine z_aload_n hC dX3_best_49 1 rfl rfl ?_
        refine z_get3 hC 4 (by decide) zw_fl_X3_27 (v := .ref (zad G 10)) rfl dX3_best_50 ?_
        obtain ⟨v15, ev15, hf⟩ := zbd_e hf
        refine z_cvi (As := []) (rest := []) hC (zo_camp zcamp10) rfl (c_X0_arrived l G w13 10 zcamp10 ev15) zw_ml_X3_189 zy_X0_arrived ⟨rfl, rfl, Nat.le_of_ble_eq_true rfl, Nat.le_of_ble_eq_true rfl⟩ rfl rfl (Nat.le_of_ble_eq_true rfl) dX3_best_53 ?_
        refine z_istore (lv' := [(7, .int v15), (6, .int v14), (0, .ref (zad G 0)), (1, .int a1), (2, .int v6), (3, .int v7), (4, .int v8), (5, .int v9)]) hC dX3_best_56 (by decide) rfl ?_
        refine z_iload hC dX3_best_58 0 rfl ?_
        refine z_iload_n hC dX3_best_60 5 rfl rfl ?_
        obtain ⟨j92, hj92, hf⟩ := zjn3_e hf
        have hJ92 : ∀ (v16 : Int32) (v17 : Int32) (v18 : Int32), j92 v16 v17 v18 = some (r, wz) → Z G p l e rm_X3_best s m args below meth c (MQ below (zQ G (some (.int r)) wz) args s 0 0 (zA G)) 8 92 [(0, .ref (zad G 0)), (1, .int a1), (2, .int v16), (3, .int v17), (4, .int v18), (5, .int v9)] [] w13 := by
          intro v16 v17 v18 hf
          replace hf := hj92 v16 v17 v18 hf
          obtain ⟨v19, ev19, hf⟩ := zlet_e hf
          refine z_iinc (v := v19) (lv' := [(5, .int v19), (0, .ref (zad G 0)), (1, .int a1), (2, .int v16), (3, .int v17), (4, .int v18)]) hC dX3_best_92 5 rfl (by rw [ev19]; rfl) (by decide) rfl ?_
          refine z_goto (tgt := 21) hC dX3_best_95 (by decide) ?_
          refine z_lv [1, 2, 3, 4, 5, 0] rfl ?_
          exact ih21 _ _ _ _ _ hf
        obtain ⟨j82, hj82, hf⟩ := zjn0_e hf
        have hJ82 : j82 = some (r, wz) → Z G p l e rm_X3_best s m args below meth c (MQ below (zQ G (some (.int r)) wz) args s 0 0 (zA G)) 8 82 [(0, .ref (zad G 0)), (1, .int a1), (5, .int v9), (6, .int v14), (7, .int v15)] [] w13 := by
          intro hf
          replace hf := hj82  hf
          refine z_iload hC dX3_best_82 2 rfl ?_
          refine z_istore_n (lv' := [(2, .int v9), (0, .ref (zad G 0)), (1, .int a1), (5, .int v9), (6, .int v14), (7, .int v15)]) hC dX3_best_84 rfl (by decide) rfl ?_
          refine z_iload hC dX3_best_85 5 rfl ?_
          refine z_istore_n (lv' := [(3, .int v15), (2, .int v9), (0, .ref (zad G 0)), (1, .int a1), (5, .int v9), (6, .int v14), (7, .int v15)]) hC dX3_best_87 rfl (by decide) rfl ?_
          refine z_iload hC dX3_best_88 5 rfl ?_
          refine z_istore (lv' := [(4, .int v14), (3, .int v15), (2, .int v9), (0, .ref (zad G 0)), (1, .int a1), (5, .int v9), (6, .int v14), (7, .int v15)]) hC dX3_best_90 (by decide) rfl ?_
          refine z_lv [3, 4, 2, 1, 0, 5] rfl ?_
          exact hJ92 _ _ _ hf
        refine z_icmp_gt (tgt := 82) hC dX3_best_61 (by decide) (fun h20 => ?_) (fun h20 => ?_)
        · replace hf := zif_t h20 hf
          refine z_lv [2, 3, 7, 1, 0] rfl ?_
          exact hJ82 hf
        replace hf := zif_f h20 hf
        refine z_iload hC dX3_best_64 0 rfl ?_
        refine z_if_le (tgt := 92) hC dX3_best_66 (by decide) (fun h21 => ?_) (fun h21 => ?_)
        · replace hf := zif_t h21 hf
          refine z_lv [2, 3, 4, 5, 6, 7] rfl ?_
          exact hJ92 _ _ _ hf
        replace hf := zif_f h21 hf
        refine z_iload hC dX3_best_69 0 rfl ?_
        refine z_iload_n hC dX3_best_71 5 rfl rfl ?_
        refine z_icmp_ne (tgt := 92) hC dX3_best_72 (by decide) (fun h22 => ?_) (fun h22 => ?_)
        · replace hf := zif_f h22 hf
          refine z_lv [2, 3, 4, 5, 6, 7] rfl ?_
          exact hJ92 _ _ _ hf
        replace hf := zif_t h22 hf
        refine z_iload hC dX3_best_75 1 rfl ?_
        refine z_iload hC dX3_best_77 6 rfl ?_
        refine z_icmp_ge (tgt := 92) hC dX3_best_79 (by decide) (fun h23 => ?_) (fun h23 => ?_)
        · replace hf := zif_t h23 hf
          refine z_lv [2, 3, 4, 5, 6, 7] rfl ?_
          exact hJ92 _ _ _ hf
        replace hf := zif_f h23 hf
        refine z_lv [2, 3, 7, 1, 0] rfl ?_
        exact hJ82 hf
    refine z_lv [4, 5, 3, 2, 1, 0] rfl ?_
    exact hL21 _ _ _ _ _ _ hf
  replace hf := zif_t h1 hf
  refine z_iconst hC dX3_best_9 (v := -1) rfl ?_
  obtain ⟨rfl, rfl⟩ := zso2 hf
  exact z_iret hC dX3_best_10
theorem zy_X3_best : zYV yX3_best cX3_best 8 (some .int) RX3 1 := ⟨zw_cd_X3_best, zw_im_X3_best, zw_sel_X3_best, zw_ini_X3, by decide +kernel⟩
abbrev rm_X3_commonDivisor : Room := { frames := 0, cells := 0, slots := 0, locals := 0 }
def b_X3_commonDivisor_9 (k9 : Int64 → Int64 → Int32 → Option Int64) (v1 : Int64) (v2 : Int64) (v3 : Int32) : Option Int64 :=
  if (200 : Int32) ≤ v3 then
    some v1
  else
  if (lg_cmp v2 (0 : Int64)) = (0 : Int32) then
    some v1
  else
  zg (znzl v2) <|
  zlet (zreml v1 v2) fun v7 =>
  zlet (v3 + (1 : Int32)) fun v8 =>
  k9 v2 v7 v8
def f_X3_commonDivisor (a0 : Int64) (a2 : Int64) : Option Int64 :=
  zfix3 (b_X3_commonDivisor_9) 100000 a0 a2 (0 : Int32)
set_option maxRecDepth 100000 in
set_option maxHeartbeats 4000000 in
theorem c_X3_commonDivisor (l : Launch) (G : zG) (w : zW) (a0 : Int64) (a2 : Int64) {r : Int64} (hf : f_X3_commonDivisor a0 a2 = some r) : zMet l G yX3_commonDivisor cX3_commonDivisor 11 (some .long) rm_X3_commonDivisor [.long a0, .long a2] w (some (.long r)) w := by
  refine z_start (own := RX3) (by decide) rfl (Nat.le_of_ble_eq_true rfl) (lv := [(0, .long a0), (2, .long a2)]) rfl ?_
  intro p e s m args below meth c hC
  unfold f_X3_commonDivisor at hf
  refine z_lload_n hC dX3_commonDivisor_0 0 rfl rfl ?_
  refine z_lstore (lv' := [(4, .long a0), (0, .long a0), (2, .long a2)]) hC dX3_commonDivisor_1 (by decide) rfl ?_
  refine z_lload_n hC dX3_commonDivisor_3 2 rfl rfl ?_
  refine z_lstore (lv' := [(6, .long a2), (4, .long a0), (0, .long a0), (2, .long a2)]) hC dX3_commonDivisor_4 (by decide) rfl ?_
  refine z_iconst hC dX3_commonDivisor_6 (v := 0) rfl ?_
  refine z_istore (lv' := [(8, .int (0 : Int32)), (6, .long a2), (4, .long a0), (0, .long a0), (2, .long a2)]) hC dX3_commonDivisor_7 (by decide) rfl ?_
  have hL9 : ∀ (n : Nat) (v1 : Int64) (v2 : Int64) (v3 : Int32), zfix3 (b_X3_commonDivisor_9) n v1 v2 v3 = some r → Z G p l e rm_X3_commonDivisor s m args below meth c (MQ below (zQ G (some (.long r)) w) args s 0 0 (zA G)) 11 9 [(4, .long v1), (6, .long v2), (8, .int v3)] [] w := by
    intro n
    induction n with
    | zero => intro v1 v2 v3 hf; exact (zfix3_0 hf).elim
    | succ n ih9 =>
      intro v1 v2 v3 hf
      replace hf := zfix3_e hf
      unfold b_X3_commonDivisor_9 at hf
      refine z_iload hC dX3_commonDivisor_9 2 rfl ?_
      refine z_sipush hC dX3_commonDivisor_11 (v := 200) rfl ?_
      refine z_icmp_ge (tgt := 45) hC dX3_commonDivisor_14 (by decide) (fun h4 => ?_) (fun h4 => ?_)
      · replace hf := zif_t h4 hf
        refine z_lload hC dX3_commonDivisor_45 0 rfl ?_
        obtain rfl := zso1 hf
        exact z_lret hC dX3_commonDivisor_47
      replace hf := zif_f h4 hf
      refine z_lload hC dX3_commonDivisor_17 1 rfl ?_
      refine z_lconst hC dX3_commonDivisor_19 (v := 0) rfl ?_
      refine z_lcmp hC dX3_commonDivisor_20 ?_
      refine z_if_eq (tgt := 45) hC dX3_commonDivisor_21 (by decide) (fun h5 => ?_) (fun h5 => ?_)
      · replace hf := zif_t h5 hf
        refine z_lload hC dX3_commonDivisor_45 0 rfl ?_
        obtain rfl := zso1 hf
        exact z_lret hC dX3_commonDivisor_47
      replace hf := zif_f h5 hf
      refine z_lload hC dX3_commonDivisor_24 0 rfl ?_
      refine z_lload hC dX3_commonDivisor_26 1 rfl ?_
      obtain ⟨hg6, hf⟩ := zg_e hf
      refine z_lrem hC dX3_commonDivisor_28 (znzl_e hg6) ?_
      obtain ⟨v7, ev7, hf⟩ := zlet_e hf
      refine z_topl ev7 ?_
      refine z_lstore (lv' := [(9, .long v7), (4, .long v1), (6, .long v2), (8, .int v3)]) hC dX3_commonDivisor_29 (by decide) rfl ?_
      refine z_lload hC dX3_commonDivisor_31 2 rfl ?_
      refine z_lstore (lv' := [(4, .long v2), (9, .long v7), (6, .long v2), (8, .int v3)]) hC dX3_commonDivisor_33 (by decide) rfl ?_
      refine z_lload hC dX3_commonDivisor_35 1 rfl ?_
      refine z_lstore (lv' := [(6, .long v7), (4, .long v2), (9, .long v7), (8, .int v3)]) hC dX3_commonDivisor_37 (by decide) rfl ?_
      obtain ⟨v8, ev8, hf⟩ := zlet_e hf
      refine z_iinc (v := v8) (lv' := [(8, .int v8), (6, .long v7), (4, .long v2), (9, .long v7)]) hC dX3_commonDivisor_39 3 rfl (by rw [ev8]; rfl) (by decide) rfl ?_
      refine z_goto (tgt := 9) hC dX3_commonDivisor_42 (by decide) ?_
      refine z_lv [2, 1, 0] rfl ?_
      exact ih9 _ _ _ hf
  refine z_lv [2, 1, 0] rfl ?_
  exact hL9 _ _ _ _ hf
theorem zy_X3_commonDivisor : zYS yX3_commonDivisor cX3_commonDivisor 11 (some .long) 2 := ⟨zw_cd_X3_commonDivisor, zw_st_X3_commonDivisor, zw_ini_X3, by decide +kernel⟩
abbrev rm_X3_count : Room := { frames := 2, cells := 0, slots := 0, locals := 43 }
def f_X3_count (w : zW) (a1 : Int32) : Option Int32 :=
  if a1 = (0 : Int32) then
    some (w 0 11)
  else
  if a1 = (1 : Int32) then
    some ((f_X3_asNumber (w 44 0)) + (f_X3_asNumber (w 44 1)))
  else
  if a1 = (2 : Int32) then
    some (w 0 1)
  else
  if a1 = (3 : Int32) then
    zg (zin (0 : Int32) 4) <|
    if (f_X1_isNothing w (48 + 2 * zx (0 : Int32))) = (0 : Int32) then
      zg (zin (0 : Int32) 4) <|
      some (w (48 + 2 * zx (0 : Int32)) 2)
    else
    some (-4 : Int32)
  else
  if a1 = (4 : Int32) then
    zbd (f_X0_standing w 2) fun v9 =>
    some v9
  else
  if a1 = (5 : Int32) then
    zbd (f_X0_allLevels w 2) fun v11 =>
    some v11
  else
  if a1 = (6 : Int32) then
    zbd (f_X0_wetWells w 2) fun v13 =>
    some v13
  else
  some (-1 : Int32)
set_option maxRecDepth 100000 in
set_option maxHeartbeats 4000000 in
theorem c_X3_count (l : Launch) (G : zG) (w : zW) (a1 : Int32) {r : Int32} (hf : f_X3_count w a1 = some r) : zMet l G yX3_count cX3_count 2 (some .int) rm_X3_count [.ref (zad G 0), .int a1] w (some (.int r)) w := by
  refine z_start (own := RX3) (by decide) rfl (Nat.le_of_ble_eq_true rfl) (lv := [(0, .ref (zad G 0)), (1, .int a1)]) rfl ?_
  intro p e s m args below meth c hC
  unfold f_X3_count at hf
  refine z_iload_n hC dX3_count_0 1 rfl rfl ?_
  by_cases h1 : a1 = (0 : Int32)
  · replace hf := zif_t h1 hf
    refine z_tabIn (tgt := 44) hC dX3_count_1 (by rw [h1]; decide) (by rw [h1]; decide) (by rw [h1]; rfl) (by decide) ?_
    refine z_aload_n hC dX3_count_44 0 rfl rfl ?_
    refine z_get3 hC 11 (by decide) zw_fl_X3_57 (v := .int (w 0 11)) rfl dX3_count_45 ?_
    obtain rfl := zso1 hf
    exact z_iret hC dX3_count_48
  replace hf := zif_f h1 hf
  by_cases h2 : a1 = (1 : Int32)
  · replace hf := zif_t h2 hf
    refine z_tabIn (tgt := 49) hC dX3_count_1 (by rw [h2]; decide) (by rw [h2]; decide) (by rw [h2]; rfl) (by decide) ?_
    refine z_aload_n hC dX3_count_49 0 rfl rfl ?_
    refine z_get3 hC 8 (by decide) zw_fl_X3_46 (v := .ref (zad G 44)) rfl dX3_count_50 ?_
    refine z_iconst hC dX3_count_53 (v := 0) rfl ?_
    refine z_zald hC za_44 (by decide) (j := 0) (by decide) dX3_count_54 ?_
    refine z_csi (As := [.int (w 44 0)]) (rest := []) hC (c_X3_asNumber l G w (w 44 0)) zw_ml_X3_150 zy_X3_asNumber ⟨rfl, rfl, Nat.le_of_ble_eq_true rfl, Nat.le_of_ble_eq_true rfl⟩ rfl rfl (Nat.le_of_ble_eq_true rfl) dX3_count_55 ?_
    refine z_aload_n hC dX3_count_58 0 rfl rfl ?_
    refine z_get3 hC 8 (by decide) zw_fl_X3_46 (v := .ref (zad G 44)) rfl dX3_count_59 ?_
    refine z_iconst hC dX3_count_62 (v := 1) rfl ?_
    refine z_zald hC za_44 (by decide) (j := 1) (by decide) dX3_count_63 ?_
    refine z_csi (As := [.int (w 44 1)]) (rest := [.int (f_X3_asNumber (w 44 0))]) hC (c_X3_asNumber l G w (w 44 1)) zw_ml_X3_150 zy_X3_asNumber ⟨rfl, rfl, Nat.le_of_ble_eq_true rfl, Nat.le_of_ble_eq_true rfl⟩ rfl rfl (Nat.le_of_ble_eq_true rfl) dX3_count_64 ?_
    refine z_iadd hC dX3_count_67 ?_
    obtain rfl := zso1 hf
    exact z_iret hC dX3_count_68
  replace hf := zif_f h2 hf
  by_cases h3 : a1 = (2 : Int32)
  · replace hf := zif_t h3 hf
    refine z_tabIn (tgt := 69) hC dX3_count_1 (by rw [h3]; decide) (by rw [h3]; decide) (by rw [h3]; rfl) (by decide) ?_
    refine z_aload_n hC dX3_count_69 0 rfl rfl ?_
    refine z_get3 hC 1 (by decide) zw_fl_X3_13 (v := .int (w 0 1)) rfl dX3_count_70 ?_
    obtain rfl := zso1 hf
    exact z_iret hC dX3_count_73
  replace hf := zif_f h3 hf
  by_cases h4 : a1 = (3 : Int32)
  · replace hf := zif_t h4 hf
    refine z_tabIn (tgt := 74) hC dX3_count_1 (by rw [h4]; decide) (by rw [h4]; decide) (by rw [h4]; rfl) (by decide) ?_
    refine z_aload_n hC dX3_count_74 0 rfl rfl ?_
    refine z_get3 hC 12 (by decide) zw_fl_X3_63 (v := .ref (zad G 47)) rfl dX3_count_75 ?_
    refine z_iconst hC dX3_count_78 (v := 0) rfl ?_
    obtain ⟨hg5, hf⟩ := zg_e hf
    refine z_aald47 hC hg5 dX3_count_79 ?_
    refine z_cvi (As := []) (rest := []) hC (zo_shee (zsheeI hg5)) rfl (c_X1_isNothing l G w (48 + 2 * zx (0 : Int32)) (zsheeI hg5)) zw_ml_X3_248 zy_X1_isNothing ⟨rfl, rfl, Nat.le_of_ble_eq_true rfl, Nat.le_of_ble_eq_true rfl⟩ rfl rfl (Nat.le_of_ble_eq_true rfl) dX3_count_80 ?_
    refine z_if_eq (tgt := 91) hC dX3_count_83 (by decide) (fun h6 => ?_) (fun h6 => ?_)
    · replace hf := zif_t h6 hf
      refine z_aload_n hC dX3_count_91 0 rfl rfl ?_
      refine z_get3 hC 12 (by decide) zw_fl_X3_63 (v := .ref (zad G 47)) rfl dX3_count_92 ?_
      refine z_iconst hC dX3_count_95 (v := 0) rfl ?_
      obtain ⟨hg7, hf⟩ := zg_e hf
      refine z_aald47 hC hg7 dX3_count_96 ?_
      refine z_get1 hC (zsheeI hg7) 2 (by decide) zw_fl_X3_251 (v := .int (w (48 + 2 * zx (0 : Int32)) 2)) rfl dX3_count_97 ?_
      obtain rfl := zso1 hf
      exact z_iret hC dX3_count_100
    replace hf := zif_f h6 hf
    refine z_bipush hC dX3_count_86 (v := -4) rfl ?_
    refine z_goto (tgt := 100) hC dX3_count_88 (by decide) ?_
    obtain rfl := zso1 hf
    exact z_iret hC dX3_count_100
  replace hf := zif_f h4 hf
  by_cases h8 : a1 = (4 : Int32)
  · replace hf := zif_t h8 hf
    refine z_tabIn (tgt := 101) hC dX3_count_1 (by rw [h8]; decide) (by rw [h8]; decide) (by rw [h8]; rfl) (by decide) ?_
    refine z_aload_n hC dX3_count_101 0 rfl rfl ?_
    refine z_get3 hC 3 (by decide) zw_fl_X3_23 (v := .ref (zad G 2)) rfl dX3_count_102 ?_
    obtain ⟨v9, ev9, hf⟩ := zbd_e hf
    refine z_cvi (As := []) (rest := []) hC (zo_camp zcamp2) rfl (c_X0_standing l G w 2 zcamp2 ev9) zw_ml_X3_176 zy_X0_standing ⟨rfl, rfl, Nat.le_of_ble_eq_true rfl, Nat.le_of_ble_eq_true rfl⟩ rfl rfl (Nat.le_of_ble_eq_true rfl) dX3_count_105 ?_
    obtain rfl := zso1 hf
    exact z_iret hC dX3_count_108
  replace hf := zif_f h8 hf
  by_cases h10 : a1 = (5 : Int32)
  · replace hf := zif_t h10 hf
    refine z_tabIn (tgt := 109) hC dX3_count_1 (by rw [h10]; decide) (by rw [h10]; decide) (by rw [h10]; rfl) (by decide) ?_
    refine z_aload_n hC dX3_count_109 0 rfl rfl ?_
    refine z_get3 hC 3 (by decide) zw_fl_X3_23 (v := .ref (zad G 2)) rfl dX3_count_110 ?_
    obtain ⟨v11, ev11, hf⟩ := zbd_e hf
    refine z_cvi (As := []) (rest := []) hC (zo_camp zcamp2) rfl (c_X0_allLevels l G w 2 zcamp2 ev11) zw_ml_X3_254 zy_X0_allLevels ⟨rfl, rfl, Nat.le_of_ble_eq_true rfl, Nat.le_of_ble_eq_true rfl⟩ rfl rfl (Nat.le_of_ble_eq_true rfl) dX3_count_113 ?_
    obtain rfl := zso1 hf
    exact z_iret hC dX3_count_116
  replace hf := zif_f h10 hf
  by_cases h12 : a1 = (6 : Int32)
  · replace hf := zif_t h12 hf
    refine z_tabIn (tgt := 117) hC dX3_count_1 (by rw [h12]; decide) (by rw [h12]; decide) (by rw [h12]; rfl) (by decide) ?_
    refine z_aload_n hC dX3_count_117 0 rfl rfl ?_
    refine z_get3 hC 3 (by decide) zw_fl_X3_23 (v := .ref (zad G 2)) rfl dX3_count_118 ?_
    obtain ⟨v13, ev13, hf⟩ := zbd_e hf
    refine z_cvi (As := []) (rest := []) hC (zo_camp zcamp2) rfl (c_X0_wetWells l G w 2 zcamp2 ev13) zw_ml_X3_257 zy_X0_wetWells ⟨rfl, rfl, Nat.le_of_ble_eq_true rfl, Nat.le_of_ble_eq_true rfl⟩ rfl rfl (Nat.le_of_ble_eq_true rfl) dX3_count_121 ?_
    obtain rfl := zso1 hf
    exact z_iret hC dX3_count_124
  replace hf := zif_f h12 hf
  have nh1 := znt (k := 0) (by decide) h1
  have nh2 := znt (k := 1) (by decide) h2
  have nh3 := znt (k := 2) (by decide) h3
  have nh4 := znt (k := 3) (by decide) h4
  have nh8 := znt (k := 4) (by decide) h8
  have nh10 := znt (k := 5) (by decide) h10
  have nh12 := znt (k := 6) (by decide) h12
  refine z_tabOut (tgt := 125) hC dX3_count_1 (by omega) (by decide) ?_
  refine z_iconst hC dX3_count_125 (v := -1) rfl ?_
  obtain rfl := zso1 hf
  exact z_iret hC dX3_count_126
theorem zy_X3_count : zYV yX3_count cX3_count 2 (some .int) RX3 1 := ⟨zw_cd_X3_count, zw_im_X3_count, zw_sel_X3_count, zw_ini_X3, by decide +kernel⟩
abbrev rm_X3_down : Room := { frames := 5, cells := 0, slots := 0, locals := 114 }
def b_X3_down_23 (a1 : Int32) (k23 : Int32 → zW → Option (Int32 × zW)) (v3 : Int32) (w4 : zW) : Option (Int32 × zW) :=
  if (96 : Int32) < v3 then
    some ((-4 : Int32), w4)
  else
  zbd (f_X0_isDown w4 10 a1) fun v6 =>
  if v6 = (0 : Int32) then
    zbd (f_X0_passHours w4 10 (1 : Int32) (w4 2 13)) fun w8 =>
    zlet (v3 + (1 : Int32)) fun v9 =>
    k23 v9 w8
  else
  some (v3, w4)
def f_X3_down (w : zW) (a1 : Int32) : Option (Int32 × zW) :=
  if (f_X3_isOne w a1) = (0 : Int32) then
    some ((-1 : Int32), w)
  else
    zbd (f_X0_copyFrom w 10 2) fun w2 =>
    zfix2 (b_X3_down_23 a1) 100000 (0 : Int32) w2
set_option maxRecDepth 100000 in
set_option maxHeartbeats 4000000 in
theorem c_X3_down (l : Launch) (G : zG) (w : zW) (a1 : Int32) {r : Int32} {wz : zW} (hf : f_X3_down w a1 = some (r, wz)) : zMet l G yX3_down cX3_down 3 (some .int) rm_X3_down [.ref (zad G 0), .int a1] w (some (.int r)) wz := by
  refine z_start (own := RX3) (by decide) rfl (Nat.le_of_ble_eq_true rfl) (lv := [(0, .ref (zad G 0)), (1, .int a1)]) rfl ?_
  intro p e s m args below meth c hC
  unfold f_X3_down at hf
  refine z_aload_n hC dX3_down_0 0 rfl rfl ?_
  refine z_iload_n hC dX3_down_1 1 rfl rfl ?_
  refine z_cvi (As := [.int a1]) (rest := []) hC zo_bot rfl (c_X3_isOne l G w a1) zw_ml_X3_118 zy_X3_isOne ⟨rfl, rfl, Nat.le_of_ble_eq_true rfl, Nat.le_of_ble_eq_true rfl⟩ rfl rfl (Nat.le_of_ble_eq_true rfl) dX3_down_2 ?_
  refine z_if_ne (tgt := 10) hC dX3_down_5 (by decide) (fun h1 => ?_) (fun h1 => ?_)
  · replace hf := zif_f h1 hf
    refine z_aload_n hC dX3_down_10 0 rfl rfl ?_
    refine z_get3 hC 4 (by decide) zw_fl_X3_27 (v := .ref (zad G 10)) rfl dX3_down_11 ?_
    refine z_aload_n hC dX3_down_14 0 rfl rfl ?_
    refine z_get3 hC 3 (by decide) zw_fl_X3_23 (v := .ref (zad G 2)) rfl dX3_down_15 ?_
    obtain ⟨w2, ew2, hf⟩ := zbd_e hf
    refine z_cvv (As := [.ref (zad G 2)]) (rest := []) hC (zo_camp zcamp10) rfl (c_X0_copyFrom l G w 10 zcamp10 2 zcamp2 ew2) zw_ml_X3_84 zy_X0_copyFrom ⟨rfl, rfl, Nat.le_of_ble_eq_true rfl, Nat.le_of_ble_eq_true rfl⟩ rfl rfl (Nat.le_of_ble_eq_true rfl) dX3_down_18 ?_
    refine z_iconst hC dX3_down_21 (v := 0) rfl ?_
    refine z_istore_n (lv' := [(2, .int (0 : Int32)), (0, .ref (zad G 0)), (1, .int a1)]) hC dX3_down_22 rfl (by decide) rfl ?_
    have hL23 : ∀ (n : Nat) (v3 : Int32) (w4 : zW), zfix2 (b_X3_down_23 a1) n v3 w4 = some (r, wz) → Z G p l e rm_X3_down s m args below meth c (MQ below (zQ G (some (.int r)) wz) args s 0 0 (zA G)) 3 23 [(0, .ref (zad G 0)), (1, .int a1), (2, .int v3)] [] w4 := by
      intro n
      induction n with
      | zero => intro v3 w4 hf; exact (zfix2_0 hf).elim
      | succ n ih23 =>
        intro v3 w4 hf
        replace hf := zfix2_e hf
        unfold b_X3_down_23 at hf
        refine z_iload_n hC dX3_down_23 2 rfl rfl ?_
        refine z_bipush hC dX3_down_24 (v := 96) rfl ?_
        refine z_icmp_gt (tgt := 63) hC dX3_down_26 (by decide) (fun h5 => ?_) (fun h5 => ?_)
        · replace hf := zif_t h5 hf
          refine z_bipush hC dX3_down_63 (v := -4) rfl ?_
          obtain ⟨rfl, rfl⟩ := zso2 hf
          exact z_iret hC dX3_down_65
        replace hf := zif_f h5 hf
        refine z_aload_n hC dX3_down_29 0 rfl rfl ?_
        refine z_get3 hC 4 (by decide) zw_fl_X3_27 (v := .ref (zad G 10)) rfl dX3_down_30 ?_
        refine z_iload_n hC dX3_down_33 1 rfl rfl ?_
        obtain ⟨v6, ev6, hf⟩ := zbd_e hf
        refine z_cvi (As := [.int a1]) (rest := []) hC (zo_camp zcamp10) rfl (c_X0_isDown l G w4 10 zcamp10 a1 ev6) zw_ml_X3_183 zy_X0_isDown ⟨rfl, rfl, Nat.le_of_ble_eq_true rfl, Nat.le_of_ble_eq_true rfl⟩ rfl rfl (Nat.le_of_ble_eq_true rfl) dX3_down_34 ?_
        refine z_if_eq (tgt := 42) hC dX3_down_37 (by decide) (fun h7 => ?_) (fun h7 => ?_)
        · replace hf := zif_t h7 hf
          refine z_aload_n hC dX3_down_42 0 rfl rfl ?_
          refine z_get3 hC 4 (by decide) zw_fl_X3_27 (v := .ref (zad G 10)) rfl dX3_down_43 ?_
          refine z_iconst hC dX3_down_46 (v := 1) rfl ?_
          refine z_aload_n hC dX3_down_47 0 rfl rfl ?_
          refine z_get3 hC 3 (by decide) zw_fl_X3_23 (v := .ref (zad G 2)) rfl dX3_down_48 ?_
          refine z_get0 hC zcamp2 13 (by decide) zw_fl_X3_109 (v := .int (w4 2 13)) rfl dX3_down_51 ?_
          obtain ⟨w8, ew8, hf⟩ := zbd_e hf
          refine z_cvv (As := [.int (1 : Int32), .int (w4 2 13)]) (rest := []) hC (zo_camp zcamp10) rfl (c_X0_passHours l G w4 10 zcamp10 (1 : Int32) (w4 2 13) ew8) zw_ml_X3_172 zy_X0_passHours ⟨rfl, rfl, Nat.le_of_ble_eq_true rfl, Nat.le_of_ble_eq_true rfl⟩ rfl rfl (Nat.le_of_ble_eq_true rfl) dX3_down_54 ?_
          obtain ⟨v9, ev9, hf⟩ := zlet_e hf
          refine z_iinc (v := v9) (lv' := [(2, .int v9), (0, .ref (zad G 0)), (1, .int a1)]) hC dX3_down_57 2 rfl (by rw [ev9]; rfl) (by decide) rfl ?_
          refine z_goto (tgt := 23) hC dX3_down_60 (by decide) ?_
          refine z_lv [1, 2, 0] rfl ?_
          exact ih23 _ _ hf
        replace hf := zif_f h7 hf
        refine z_iload_n hC dX3_down_40 2 rfl rfl ?_
        obtain ⟨rfl, rfl⟩ := zso2 hf
        exact z_iret hC dX3_down_41
    refine z_lv [1, 2, 0] rfl ?_
    exact hL23 _ _ _ hf
  replace hf := zif_t h1 hf
  refine z_iconst hC dX3_down_8 (v := -1) rfl ?_
  obtain ⟨rfl, rfl⟩ := zso2 hf
  exact z_iret hC dX3_down_9
theorem zy_X3_down : zYV yX3_down cX3_down 3 (some .int) RX3 1 := ⟨zw_cd_X3_down, zw_im_X3_down, zw_sel_X3_down, zw_ini_X3, by decide +kernel⟩
abbrev rm_X3_drift : Room := { frames := 4, cells := 0, slots := 0, locals := 91 }
def b_X3_drift_38 (a2 : Int32) (j87 : zW → Option (Int32 × zW)) (k38 : Int32 → Int32 → zW → Option (Int32 × zW)) (v6 : Int32) (v7 : Int32) (w8 : zW) : Option (Int32 × zW) :=
  if a2 ≤ v7 then
    j87 w8
  else
  zlet ((v6 * (1103515245 : Int32)) + (12345 : Int32)) fun v10 =>
  zjn1 (fun (v11 : Int32) =>
    zbd (f_X0_passHour w8 10 v11) fun w12 =>
    zlet (v7 + (1 : Int32)) fun v13 =>
    k38 v10 v13 w12)
  (fun (j78 : Int32 → Option (Int32 × zW)) =>
  if (zrem (((v10.toUInt32 >>> ((16 : Int32).toUInt32 &&& Int32.toUInt32 31)).toInt32) &&& (32767 : Int32)) (3 : Int32)) = (0 : Int32) then
    j78 (0 : Int32)
  else
  j78 (1 : Int32))
def f_X3_drift (w : zW) (a1 : Int32) (a2 : Int32) (a3 : Int32) : Option (Int32 × zW) :=
  if (f_X3_within a2 (1 : Int32) (60 : Int32)) = (0 : Int32) then
    some ((-1 : Int32), w)
  else
  if (f_X3_within a3 (0 : Int32) (2 : Int32)) = (0 : Int32) then
    some ((-1 : Int32), w)
  else
    zbd (f_X0_copyFrom w 10 2) fun w3 =>
    zjn1 (fun (w4 : zW) =>
      zbd (f_X3_told w4 10 a3) fun v5 =>
      some (v5, w4))
    (fun (j87 : zW → Option (Int32 × zW)) =>
    zfix3 (b_X3_drift_38 a2 j87) 100000 a1 (0 : Int32) w3)
set_option maxRecDepth 100000 in
set_option maxHeartbeats 4000000 in
theorem c_X3_drift (l : Launch) (G : zG) (w : zW) (a1 : Int32) (a2 : Int32) (a3 : Int32) {r : Int32} {wz : zW} (hf : f_X3_drift w a1 a2 a3 = some (r, wz)) : zMet l G yX3_drift cX3_drift 6 (some .int) rm_X3_drift [.ref (zad G 0), .int a1, .int a2, .int a3] w (some (.int r)) wz := by
  refine z_start (own := RX3) (by decide) rfl (Nat.le_of_ble_eq_true rfl) (lv := [(0, .ref (zad G 0)), (1, .int a1), (2, .int a2), (3, .int a3)]) rfl ?_
  intro p e s m args below meth c hC
  unfold f_X3_drift at hf
  refine z_iload_n hC dX3_drift_0 2 rfl rfl ?_
  refine z_iconst hC dX3_drift_1 (v := 1) rfl ?_
  refine z_bipush hC dX3_drift_2 (v := 60) rfl ?_
  refine z_csi (As := [.int a2, .int (1 : Int32), .int (60 : Int32)]) (rest := []) hC (c_X3_within l G w a2 (1 : Int32) (60 : Int32)) zw_ml_X3_70 zy_X3_within ⟨rfl, rfl, Nat.le_of_ble_eq_true rfl, Nat.le_of_ble_eq_true rfl⟩ rfl rfl (Nat.le_of_ble_eq_true rfl) dX3_drift_4 ?_
  refine z_if_eq (tgt := 19) hC dX3_drift_7 (by decide) (fun h1 => ?_) (fun h1 => ?_)
  · replace hf := zif_t h1 hf
    refine z_iconst hC dX3_drift_19 (v := -1) rfl ?_
    obtain ⟨rfl, rfl⟩ := zso2 hf
    exact z_iret hC dX3_drift_20
  replace hf := zif_f h1 hf
  refine z_iload_n hC dX3_drift_10 3 rfl rfl ?_
  refine z_iconst hC dX3_drift_11 (v := 0) rfl ?_
  refine z_iconst hC dX3_drift_12 (v := 2) rfl ?_
  refine z_csi (As := [.int a3, .int (0 : Int32), .int (2 : Int32)]) (rest := []) hC (c_X3_within l G w a3 (0 : Int32) (2 : Int32)) zw_ml_X3_70 zy_X3_within ⟨rfl, rfl, Nat.le_of_ble_eq_true rfl, Nat.le_of_ble_eq_true rfl⟩ rfl rfl (Nat.le_of_ble_eq_true rfl) dX3_drift_13 ?_
  refine z_if_ne (tgt := 21) hC dX3_drift_16 (by decide) (fun h2 => ?_) (fun h2 => ?_)
  · replace hf := zif_f h2 hf
    refine z_aload_n hC dX3_drift_21 0 rfl rfl ?_
    refine z_get3 hC 4 (by decide) zw_fl_X3_27 (v := .ref (zad G 10)) rfl dX3_drift_22 ?_
    refine z_aload_n hC dX3_drift_25 0 rfl rfl ?_
    refine z_get3 hC 3 (by decide) zw_fl_X3_23 (v := .ref (zad G 2)) rfl dX3_drift_26 ?_
    obtain ⟨w3, ew3, hf⟩ := zbd_e hf
    refine z_cvv (As := [.ref (zad G 2)]) (rest := []) hC (zo_camp zcamp10) rfl (c_X0_copyFrom l G w 10 zcamp10 2 zcamp2 ew3) zw_ml_X3_84 zy_X0_copyFrom ⟨rfl, rfl, Nat.le_of_ble_eq_true rfl, Nat.le_of_ble_eq_true rfl⟩ rfl rfl (Nat.le_of_ble_eq_true rfl) dX3_drift_29 ?_
    refine z_iload_n hC dX3_drift_32 1 rfl rfl ?_
    refine z_istore (lv' := [(4, .int a1), (0, .ref (zad G 0)), (1, .int a1), (2, .int a2), (3, .int a3)]) hC dX3_drift_33 (by decide) rfl ?_
    refine z_iconst hC dX3_drift_35 (v := 0) rfl ?_
    refine z_istore (lv' := [(5, .int (0 : Int32)), (4, .int a1), (0, .ref (zad G 0)), (1, .int a1), (2, .int a2), (3, .int a3)]) hC dX3_drift_36 (by decide) rfl ?_
    obtain ⟨j87, hj87, hf⟩ := zjn1_e hf
    have hJ87 : ∀ (w4 : zW), j87 w4 = some (r, wz) → Z G p l e rm_X3_drift s m args below meth c (MQ below (zQ G (some (.int r)) wz) args s 0 0 (zA G)) 6 87 [(0, .ref (zad G 0)), (3, .int a3)] [] w4 := by
      intro w4 hf
      replace hf := hj87 w4 hf
      refine z_aload_n hC dX3_drift_87 0 rfl rfl ?_
      refine z_get3 hC 4 (by decide) zw_fl_X3_27 (v := .ref (zad G 10)) rfl dX3_drift_88 ?_
      refine z_iload_n hC dX3_drift_91 1 rfl rfl ?_
      obtain ⟨v5, ev5, hf⟩ := zbd_e hf
      refine z_csi (As := [.ref (zad G 10), .int a3]) (rest := []) hC (c_X3_told l G w4 10 zcamp10 a3 ev5) zw_ml_X3_179 zy_X3_told ⟨rfl, rfl, Nat.le_of_ble_eq_true rfl, Nat.le_of_ble_eq_true rfl⟩ rfl rfl (Nat.le_of_ble_eq_true rfl) dX3_drift_92 ?_
      obtain ⟨rfl, rfl⟩ := zso2 hf
      exact z_iret hC dX3_drift_95
    have hL38 : ∀ (n : Nat) (v6 : Int32) (v7 : Int32) (w8 : zW), zfix3 (b_X3_drift_38 a2 j87) n v6 v7 w8 = some (r, wz) → Z G p l e rm_X3_drift s m args below meth c (MQ below (zQ G (some (.int r)) wz) args s 0 0 (zA G)) 6 38 [(0, .ref (zad G 0)), (2, .int a2), (3, .int a3), (4, .int v6), (5, .int v7)] [] w8 := by
      intro n
      induction n with
      | zero => intro v6 v7 w8 hf; exact (zfix3_0 hf).elim
      | succ n ih38 =>
        intro v6 v7 w8 hf
        replace hf := zfix3_e hf
        unfold b_X3_drift_38 at hf
        refine z_iload hC dX3_drift_38 4 rfl ?_
        refine z_iload_n hC dX3_drift_40 1 rfl rfl ?_
        refine z_icmp_ge (tgt := 87) hC dX3_drift_41 (by decide) (fun h9 => ?_) (fun h9 => ?_)
        · replace hf := zif_t h9 hf
          refine z_lv [0, 2] rfl ?_
          exact hJ87 _ hf
        replace hf := zif_f h9 hf
        refine z_iload hC dX3_drift_44 3 rfl ?_
        refine z_ldc hC zw_cst_X3_223 dX3_drift_46 ?_
        refine z_imul hC dX3_drift_48 ?_
        refine z_sipush hC dX3_drift_49 (v := 12345) rfl ?_
        refine z_iadd hC dX3_drift_52 ?_
        obtain ⟨v10, ev10, hf⟩ := zlet_e hf
        refine z_topi ev10 ?_
        refine z_istore (lv' := [(4, .int v10), (0, .ref (zad G 0)), (2, .int a2), (3, .int a3), (5, .int v7)]) hC dX3_drift_53 (by decide) rfl ?_
        refine z_aload_n hC dX3_drift_55 1 rfl rfl ?_
        refine z_get3 hC 4 (by decide) zw_fl_X3_27 (v := .ref (zad G 10)) rfl dX3_drift_56 ?_
        refine z_iload hC dX3_drift_59 0 rfl ?_
        refine z_bipush hC dX3_drift_61 (v := 16) rfl ?_
        refine z_iushr hC dX3_drift_63 ?_
        refine z_sipush hC dX3_drift_64 (v := 32767) rfl ?_
        refine z_iand hC dX3_drift_67 ?_
        refine z_iconst hC dX3_drift_68 (v := 3) rfl ?_
        refine z_irem hC dX3_drift_69 (by decide) ?_
        obtain ⟨j78, hj78, hf⟩ := zjn1_e hf
        have hJ78 : ∀ (v11 : Int32), j78 v11 = some (r, wz) → Z G p l e rm_X3_drift s m args below meth c (MQ below (zQ G (some (.int r)) wz) args s 0 0 (zA G)) 6 78 [(0, .ref (zad G 0)), (2, .int a2), (3, .int a3), (4, .int v10), (5, .int v7)] [.int v11, .ref (zad G 10)] w8 := by
          intro v11 hf
          replace hf := hj78 v11 hf
          obtain ⟨w12, ew12, hf⟩ := zbd_e hf
          refine z_cvv (As := [.int v11]) (rest := []) hC (zo_camp zcamp10) rfl (c_X0_passHour l G w8 10 zcamp10 v11 ew12) zw_ml_X3_192 zy_X0_passHour ⟨rfl, rfl, Nat.le_of_ble_eq_true rfl, Nat.le_of_ble_eq_true rfl⟩ rfl rfl (Nat.le_of_ble_eq_true rfl) dX3_drift_78 ?_
          obtain ⟨v13, ev13, hf⟩ := zlet_e hf
          refine z_iinc (v := v13) (lv' := [(5, .int v13), (0, .ref (zad G 0)), (2, .int a2), (3, .int a3), (4, .int v10)]) hC dX3_drift_81 4 rfl (by rw [ev13]; rfl) (by decide) rfl ?_
          refine z_goto (tgt := 38) hC dX3_drift_84 (by decide) ?_
          refine z_lv [1, 2, 3, 4, 0] rfl ?_
          exact ih38 _ _ _ hf
        refine z_if_eq (tgt := 77) hC dX3_drift_70 (by decide) (fun h14 => ?_) (fun h14 => ?_)
        · replace hf := zif_t h14 hf
          refine z_iconst hC dX3_drift_77 (v := 0) rfl ?_
          refine z_lv [1, 2, 3, 0, 4] rfl ?_
          exact hJ78 _ hf
        replace hf := zif_f h14 hf
        refine z_iconst hC dX3_drift_73 (v := 1) rfl ?_
        refine z_goto (tgt := 78) hC dX3_drift_74 (by decide) ?_
        refine z_lv [1, 2, 3, 0, 4] rfl ?_
        exact hJ78 _ hf
    refine z_lv [2, 4, 5, 1, 0] rfl ?_
    exact hL38 _ _ _ _ hf
  replace hf := zif_t h2 hf
  refine z_iconst hC dX3_drift_19 (v := -1) rfl ?_
  obtain ⟨rfl, rfl⟩ := zso2 hf
  exact z_iret hC dX3_drift_20
theorem zy_X3_drift : zYV yX3_drift cX3_drift 6 (some .int) RX3 3 := ⟨zw_cd_X3_drift, zw_im_X3_drift, zw_sel_X3_drift, zw_ini_X3, by decide +kernel⟩
abbrev rm_X3_drink : Room := { frames := 2, cells := 0, slots := 0, locals := 44 }
def f_X3_drink (w : zW) (a1 : Int32) (a2 : Int32) : Option (Int32 × zW) :=
  zbd2 (f_X0_drinkAsAsked w 2 a1 a2) fun v2 w1 =>
  some (v2, w1)
set_option maxRecDepth 100000 in
set_option maxHeartbeats 4000000 in
theorem c_X3_drink (l : Launch) (G : zG) (w : zW) (a1 : Int32) (a2 : Int32) {r : Int32} {wz : zW} (hf : f_X3_drink w a1 a2 = some (r, wz)) : zMet l G yX3_drink cX3_drink 3 (some .int) rm_X3_drink [.ref (zad G 0), .int a1, .int a2] w (some (.int r)) wz := by
  refine z_start (own := RX3) (by decide) rfl (Nat.le_of_ble_eq_true rfl) (lv := [(0, .ref (zad G 0)), (1, .int a1), (2, .int a2)]) rfl ?_
  intro p e s m args below meth c hC
  unfold f_X3_drink at hf
  refine z_aload_n hC dX3_drink_0 0 rfl rfl ?_
  refine z_get3 hC 3 (by decide) zw_fl_X3_23 (v := .ref (zad G 2)) rfl dX3_drink_1 ?_
  refine z_iload_n hC dX3_drink_4 1 rfl rfl ?_
  refine z_iload_n hC dX3_drink_5 2 rfl rfl ?_
  obtain ⟨v2, w1, ew1, hf⟩ := zbd2_e hf
  refine z_cvi (As := [.int a1, .int a2]) (rest := []) hC (zo_camp zcamp2) rfl (c_X0_drinkAsAsked l G w 2 zcamp2 a1 a2 ew1) zw_ml_X3_165 zy_X0_drinkAsAsked ⟨rfl, rfl, Nat.le_of_ble_eq_true rfl, Nat.le_of_ble_eq_true rfl⟩ rfl rfl (Nat.le_of_ble_eq_true rfl) dX3_drink_6 ?_
  obtain ⟨rfl, rfl⟩ := zso2 hf
  exact z_iret hC dX3_drink_9
theorem zy_X3_drink : zYV yX3_drink cX3_drink 3 (some .int) RX3 2 := ⟨zw_cd_X3_drink, zw_im_X3_drink, zw_sel_X3_drink, zw_ini_X3, by decide +kernel⟩
abbrev rm_X3_end : Room := { frames := 1, cells := 0, slots := 0, locals := 22 }
def f_X3_end (w : zW) (a1 : Int32) : Option (Int32 × zW) :=
  if (f_X3_within a1 (0 : Int32) (w 0 1)) = (0 : Int32) then
    some ((-1 : Int32), w)
  else
    zlet (w 0 1) fun v2 =>
    zlet (zup w 0 1 a1) fun w3 =>
    some (v2, w3)
set_option maxRecDepth 100000 in
set_option maxHeartbeats 4000000 in
theorem c_X3_end (l : Launch) (G : zG) (w : zW) (a1 : Int32) {r : Int32} {wz : zW} (hf : f_X3_end w a1 = some (r, wz)) : zMet l G yX3_end cX3_end 3 (some .int) rm_X3_end [.ref (zad G 0), .int a1] w (some (.int r)) wz := by
  refine z_start (own := RX3) (by decide) rfl (Nat.le_of_ble_eq_true rfl) (lv := [(0, .ref (zad G 0)), (1, .int a1)]) rfl ?_
  intro p e s m args below meth c hC
  unfold f_X3_end at hf
  refine z_iload_n hC dX3_end_0 1 rfl rfl ?_
  refine z_iconst hC dX3_end_1 (v := 0) rfl ?_
  refine z_aload_n hC dX3_end_2 0 rfl rfl ?_
  refine z_get3 hC 1 (by decide) zw_fl_X3_13 (v := .int (w 0 1)) rfl dX3_end_3 ?_
  refine z_csi (As := [.int a1, .int (0 : Int32), .int (w 0 1)]) (rest := []) hC (c_X3_within l G w a1 (0 : Int32) (w 0 1)) zw_ml_X3_70 zy_X3_within ⟨rfl, rfl, Nat.le_of_ble_eq_true rfl, Nat.le_of_ble_eq_true rfl⟩ rfl rfl (Nat.le_of_ble_eq_true rfl) dX3_end_6 ?_
  refine z_if_ne (tgt := 14) hC dX3_end_9 (by decide) (fun h1 => ?_) (fun h1 => ?_)
  · replace hf := zif_f h1 hf
    refine z_aload_n hC dX3_end_14 0 rfl rfl ?_
    refine z_get3 hC 1 (by decide) zw_fl_X3_13 (v := .int (w 0 1)) rfl dX3_end_15 ?_
    obtain ⟨v2, ev2, hf⟩ := zlet_e hf
    refine z_topi ev2 ?_
    refine z_istore_n (lv' := [(2, .int v2), (0, .ref (zad G 0)), (1, .int a1)]) hC dX3_end_18 rfl (by decide) rfl ?_
    refine z_aload_n hC dX3_end_19 1 rfl rfl ?_
    refine z_iload_n hC dX3_end_20 2 rfl rfl ?_
    obtain ⟨w3, ew3, hf⟩ := zlet_e hf
    refine z_put3 hC 1 (by decide) rfl rfl zw_fl_X3_13 rfl ew3 dX3_end_21 ?_
    refine z_iload_n hC dX3_end_24 0 rfl rfl ?_
    obtain ⟨rfl, rfl⟩ := zso2 hf
    exact z_iret hC dX3_end_25
  replace hf := zif_t h1 hf
  refine z_iconst hC dX3_end_12 (v := -1) rfl ?_
  obtain ⟨rfl, rfl⟩ := zso2 hf
  exact z_iret hC dX3_end_13
theorem zy_X3_end : zYV yX3_end cX3_end 3 (some .int) RX3 1 := ⟨zw_cd_X3_end, zw_im_X3_end, zw_sel_X3_end, zw_ini_X3, by decide +kernel⟩
abbrev rm_X3_fault : Room := { frames := 0, cells := 0, slots := 0, locals := 0 }
def f_X3_fault (w : zW) : Int32 :=
  w 0 2
set_option maxRecDepth 100000 in
set_option maxHeartbeats 4000000 in
theorem c_X3_fault (l : Launch) (G : zG) (w : zW) : zMet l G yX3_fault cX3_fault 1 (some .int) rm_X3_fault [.ref (zad G 0)] w (some (.int (f_X3_fault w))) w := by
  generalize hf : f_X3_fault w = r
  refine z_start (own := RX3) (by decide) rfl (Nat.le_of_ble_eq_true rfl) (lv := [(0, .ref (zad G 0))]) rfl ?_
  intro p e s m args below meth c hC
  unfold f_X3_fault at hf
  refine z_aload_n hC dX3_fault_0 0 rfl rfl ?_
  refine z_get3 hC 2 (by decide) zw_fl_X3_17 (v := .int (w 0 2)) rfl dX3_fault_1 ?_
  subst hf
  exact z_iret hC dX3_fault_4
theorem zy_X3_fault : zYV yX3_fault cX3_fault 1 (some .int) RX3 0 := ⟨zw_cd_X3_fault, zw_im_X3_fault, zw_sel_X3_fault, zw_ini_X3, by decide +kernel⟩
abbrev rm_X3_feed : Room := { frames := 1, cells := 0, slots := 0, locals := 22 }
def f_X3_feed (w : zW) (a1 : Int32) : Option (Int32 × zW) :=
  if (f_X3_within a1 (0 : Int32) (127 : Int32)) = (0 : Int32) then
    some ((-1 : Int32), w)
  else
    if (w 0 1) < (160 : Int32) then
      zg (zin (w 0 1) 160) <|
      zlet (zup w 1 (zx (w 0 1)) (vp_nar .byte (a1.toInt8.toInt32))) fun w4 =>
      zlet (zup w4 0 1 ((w4 0 1) + (1 : Int32))) fun w5 =>
      some (w5 0 1, w5)
    else
    some ((-3 : Int32), w)
set_option maxRecDepth 100000 in
set_option maxHeartbeats 4000000 in
theorem c_X3_feed (l : Launch) (G : zG) (w : zW) (a1 : Int32) {r : Int32} {wz : zW} (hf : f_X3_feed w a1 = some (r, wz)) : zMet l G yX3_feed cX3_feed 2 (some .int) rm_X3_feed [.ref (zad G 0), .int a1] w (some (.int r)) wz := by
  refine z_start (own := RX3) (by decide) rfl (Nat.le_of_ble_eq_true rfl) (lv := [(0, .ref (zad G 0)), (1, .int a1)]) rfl ?_
  intro p e s m args below meth c hC
  unfold f_X3_feed at hf
  refine z_iload_n hC dX3_feed_0 1 rfl rfl ?_
  refine z_iconst hC dX3_feed_1 (v := 0) rfl ?_
  refine z_bipush hC dX3_feed_2 (v := 127) rfl ?_
  refine z_csi (As := [.int a1, .int (0 : Int32), .int (127 : Int32)]) (rest := []) hC (c_X3_within l G w a1 (0 : Int32) (127 : Int32)) zw_ml_X3_70 zy_X3_within ⟨rfl, rfl, Nat.le_of_ble_eq_true rfl, Nat.le_of_ble_eq_true rfl⟩ rfl rfl (Nat.le_of_ble_eq_true rfl) dX3_feed_4 ?_
  refine z_if_ne (tgt := 12) hC dX3_feed_7 (by decide) (fun h1 => ?_) (fun h1 => ?_)
  · replace hf := zif_f h1 hf
    refine z_aload_n hC dX3_feed_12 0 rfl rfl ?_
    refine z_get3 hC 1 (by decide) zw_fl_X3_13 (v := .int (w 0 1)) rfl dX3_feed_13 ?_
    refine z_sipush hC dX3_feed_16 (v := 160) rfl ?_
    refine z_icmp_lt (tgt := 25) hC dX3_feed_19 (by decide) (fun h2 => ?_) (fun h2 => ?_)
    · replace hf := zif_t h2 hf
      refine z_aload_n hC dX3_feed_25 0 rfl rfl ?_
      refine z_get3 hC 0 (by decide) zw_fl_X3_9 (v := .ref (zad G 1)) rfl dX3_feed_26 ?_
      refine z_aload_n hC dX3_feed_29 0 rfl rfl ?_
      refine z_get3 hC 1 (by decide) zw_fl_X3_13 (v := .int (w 0 1)) rfl dX3_feed_30 ?_
      refine z_iload_n hC dX3_feed_33 1 rfl rfl ?_
      refine z_i2b hC dX3_feed_34 ?_
      obtain ⟨hg3, hf⟩ := zg_e hf
      obtain ⟨w4, ew4, hf⟩ := zlet_e hf
      refine z_bast hC za_1 hg3 rfl ew4 dX3_feed_35 ?_
      refine z_aload_n hC dX3_feed_36 0 rfl rfl ?_
      refine z_dup hC dX3_feed_37 rfl ?_
      refine z_get3 hC 1 (by decide) zw_fl_X3_13 (v := .int (w4 0 1)) rfl dX3_feed_38 ?_
      refine z_iconst hC dX3_feed_41 (v := 1) rfl ?_
      refine z_iadd hC dX3_feed_42 ?_
      obtain ⟨w5, ew5, hf⟩ := zlet_e hf
      refine z_put3 hC 1 (by decide) rfl rfl zw_fl_X3_13 rfl ew5 dX3_feed_43 ?_
      refine z_aload_n hC dX3_feed_46 0 rfl rfl ?_
      refine z_get3 hC 1 (by decide) zw_fl_X3_13 (v := .int (w5 0 1)) rfl dX3_feed_47 ?_
      obtain ⟨rfl, rfl⟩ := zso2 hf
      exact z_iret hC dX3_feed_50
    replace hf := zif_f h2 hf
    refine z_bipush hC dX3_feed_22 (v := -3) rfl ?_
    obtain ⟨rfl, rfl⟩ := zso2 hf
    exact z_iret hC dX3_feed_24
  replace hf := zif_t h1 hf
  refine z_iconst hC dX3_feed_10 (v := -1) rfl ?_
  obtain ⟨rfl, rfl⟩ := zso2 hf
  exact z_iret hC dX3_feed_11
theorem zy_X3_feed : zYV yX3_feed cX3_feed 2 (some .int) RX3 1 := ⟨zw_cd_X3_feed, zw_im_X3_feed, zw_sel_X3_feed, zw_ini_X3, by decide +kernel⟩
abbrev rm_X3_fill : Room := { frames := 1, cells := 0, slots := 0, locals := 22 }
def f_X3_fill (w : zW) (a1 : Int32) : Option (Int32 × zW) :=
  if (f_X3_within a1 (0 : Int32) (60 : Int32)) = (0 : Int32) then
    some ((-1 : Int32), w)
  else
    zlet (w 2 9) fun v2 =>
    zlet (zup w 2 9 a1) fun w3 =>
    some (v2, w3)
set_option maxRecDepth 100000 in
set_option maxHeartbeats 4000000 in
theorem c_X3_fill (l : Launch) (G : zG) (w : zW) (a1 : Int32) {r : Int32} {wz : zW} (hf : f_X3_fill w a1 = some (r, wz)) : zMet l G yX3_fill cX3_fill 3 (some .int) rm_X3_fill [.ref (zad G 0), .int a1] w (some (.int r)) wz := by
  refine z_start (own := RX3) (by decide) rfl (Nat.le_of_ble_eq_true rfl) (lv := [(0, .ref (zad G 0)), (1, .int a1)]) rfl ?_
  intro p e s m args below meth c hC
  unfold f_X3_fill at hf
  refine z_iload_n hC dX3_fill_0 1 rfl rfl ?_
  refine z_iconst hC dX3_fill_1 (v := 0) rfl ?_
  refine z_bipush hC dX3_fill_2 (v := 60) rfl ?_
  refine z_csi (As := [.int a1, .int (0 : Int32), .int (60 : Int32)]) (rest := []) hC (c_X3_within l G w a1 (0 : Int32) (60 : Int32)) zw_ml_X3_70 zy_X3_within ⟨rfl, rfl, Nat.le_of_ble_eq_true rfl, Nat.le_of_ble_eq_true rfl⟩ rfl rfl (Nat.le_of_ble_eq_true rfl) dX3_fill_4 ?_
  refine z_if_ne (tgt := 12) hC dX3_fill_7 (by decide) (fun h1 => ?_) (fun h1 => ?_)
  · replace hf := zif_f h1 hf
    refine z_aload_n hC dX3_fill_12 0 rfl rfl ?_
    refine z_get3 hC 3 (by decide) zw_fl_X3_23 (v := .ref (zad G 2)) rfl dX3_fill_13 ?_
    refine z_get0 hC zcamp2 9 (by decide) zw_fl_X3_106 (v := .int (w 2 9)) rfl dX3_fill_16 ?_
    obtain ⟨v2, ev2, hf⟩ := zlet_e hf
    refine z_topi ev2 ?_
    refine z_istore_n (lv' := [(2, .int v2), (0, .ref (zad G 0)), (1, .int a1)]) hC dX3_fill_19 rfl (by decide) rfl ?_
    refine z_aload_n hC dX3_fill_20 1 rfl rfl ?_
    refine z_get3 hC 3 (by decide) zw_fl_X3_23 (v := .ref (zad G 2)) rfl dX3_fill_21 ?_
    refine z_iload_n hC dX3_fill_24 2 rfl rfl ?_
    obtain ⟨w3, ew3, hf⟩ := zlet_e hf
    refine z_put0 hC zcamp2 9 (by decide) rfl rfl zw_fl_X3_106 rfl ew3 dX3_fill_25 ?_
    refine z_iload_n hC dX3_fill_28 0 rfl rfl ?_
    obtain ⟨rfl, rfl⟩ := zso2 hf
    exact z_iret hC dX3_fill_29
  replace hf := zif_t h1 hf
  refine z_iconst hC dX3_fill_10 (v := -1) rfl ?_
  obtain ⟨rfl, rfl⟩ := zso2 hf
  exact z_iret hC dX3_fill_11
theorem zy_X3_fill : zYV yX3_fill cX3_fill 3 (some .int) RX3 1 := ⟨zw_cd_X3_fill, zw_im_X3_fill, zw_sel_X3_fill, zw_ini_X3, by decide +kernel⟩
abbrev rm_X3_power : Room := { frames := 0, cells := 0, slots := 0, locals := 0 }
def b_X3_power_5 (a0 : Int32) (a1 : Int32) (k5 : Int64 → Int32 → Option Int64) (v1 : Int64) (v2 : Int32) : Option Int64 :=
  if a1 ≤ v2 then
    some v1
  else
  zlet (v1 * (a0.toInt64)) fun v4 =>
  zlet (v2 + (1 : Int32)) fun v5 =>
  k5 v4 v5
def f_X3_power (a0 : Int32) (a1 : Int32) : Option Int64 :=
  zfix2 (b_X3_power_5 a0 a1) 100000 (1 : Int64) (0 : Int32)
set_option maxRecDepth 100000 in
set_option maxHeartbeats 4000000 in
theorem c_X3_power (l : Launch) (G : zG) (w : zW) (a0 : Int32) (a1 : Int32) {r : Int64} (hf : f_X3_power a0 a1 = some r) : zMet l G yX3_power cX3_power 5 (some .long) rm_X3_power [.int a0, .int a1] w (some (.long r)) w := by
  refine z_start (own := RX3) (by decide) rfl (Nat.le_of_ble_eq_true rfl) (lv := [(0, .int a0), (1, .int a1)]) rfl ?_
  intro p e s m args below meth c hC
  unfold f_X3_power at hf
  refine z_lconst hC dX3_power_0 (v := 1) rfl ?_
  refine z_lstore_n (lv' := [(2, .long (1 : Int64)), (0, .int a0), (1, .int a1)]) hC dX3_power_1 rfl (by decide) rfl ?_
  refine z_iconst hC dX3_power_2 (v := 0) rfl ?_
  refine z_istore (lv' := [(4, .int (0 : Int32)), (2, .long (1 : Int64)), (0, .int a0), (1, .int a1)]) hC dX3_power_3 (by decide) rfl ?_
  have hL5 : ∀ (n : Nat) (v1 : Int64) (v2 : Int32), zfix2 (b_X3_power_5 a0 a1) n v1 v2 = some r → Z G p l e rm_X3_power s m args below meth c (MQ below (zQ G (some (.long r)) w) args s 0 0 (zA G)) 5 5 [(0, .int a0), (1, .int a1), (2, .long v1), (4, .int v2)] [] w := by
    intro n
    induction n with
    | zero => intro v1 v2 hf; exact (zfix2_0 hf).elim
    | succ n ih5 =>
      intro v1 v2 hf
      replace hf := zfix2_e hf
      unfold b_X3_power_5 at hf
      refine z_iload hC dX3_power_5 3 rfl ?_
      refine z_iload_n hC dX3_power_7 1 rfl rfl ?_
      refine z_icmp_ge (tgt := 22) hC dX3_power_8 (by decide) (fun h3 => ?_) (fun h3 => ?_)
      · replace hf := zif_t h3 hf
        refine z_lload_n hC dX3_power_22 2 rfl rfl ?_
        obtain rfl := zso1 hf
        exact z_lret hC dX3_power_23
      replace hf := zif_f h3 hf
      refine z_lload_n hC dX3_power_11 2 rfl rfl ?_
      refine z_iload_n hC dX3_power_12 0 rfl rfl ?_
      refine z_i2l hC dX3_power_13 ?_
      refine z_lmul hC dX3_power_14 ?_
      obtain ⟨v4, ev4, hf⟩ := zlet_e hf
      refine z_topl ev4 ?_
      refine z_lstore_n (lv' := [(2, .long v4), (0, .int a0), (1, .int a1), (4, .int v2)]) hC dX3_power_15 rfl (by decide) rfl ?_
      obtain ⟨v5, ev5, hf⟩ := zlet_e hf
      refine z_iinc (v := v5) (lv' := [(4, .int v5), (2, .long v4), (0, .int a0), (1, .int a1)]) hC dX3_power_16 3 rfl (by rw [ev5]; rfl) (by decide) rfl ?_
      refine z_goto (tgt := 5) hC dX3_power_19 (by decide) ?_
      refine z_lv [2, 3, 1, 0] rfl ?_
      exact ih5 _ _ hf
  refine z_lv [2, 3, 1, 0] rfl ?_
  exact hL5 _ _ _ hf
theorem zy_X3_power : zYS yX3_power cX3_power 5 (some .long) 2 := ⟨zw_cd_X3_power, zw_st_X3_power, zw_ini_X3, by decide +kernel⟩
abbrev rm_X3_lastHourSeen : Room := { frames := 1, cells := 0, slots := 0, locals := 21 }
def b_X3_lastHourSeen_4 (w : zW) (k4 : Int32 → Int32 → Option Int32) (v1 : Int32) (v2 : Int32) : Option Int32 :=
  if (w 0 11) ≤ v2 then
    some v1
  else
  zg (zin v2 6) <|
  zlet (zmax v1 (w 45 (zx v2))) fun v5 =>
  zlet (v2 + (1 : Int32)) fun v6 =>
  k4 v5 v6
def f_X3_lastHourSeen (w : zW) : Option Int32 :=
  zfix2 (b_X3_lastHourSeen_4 w) 100000 (0 : Int32) (0 : Int32)
set_option maxRecDepth 100000 in
set_option maxHeartbeats 4000000 in
theorem c_X3_lastHourSeen (l : Launch) (G : zG) (w : zW) {r : Int32} (hf : f_X3_lastHourSeen w = some r) : zMet l G yX3_lastHourSeen cX3_lastHourSeen 3 (some .int) rm_X3_lastHourSeen [.ref (zad G 0)] w (some (.int r)) w := by
  refine z_start (own := RX3) (by decide) rfl (Nat.le_of_ble_eq_true rfl) (lv := [(0, .ref (zad G 0))]) rfl ?_
  intro p e s m args below meth c hC
  unfold f_X3_lastHourSeen at hf
  refine z_iconst hC dX3_lastHourSeen_0 (v := 0) rfl ?_
  refine z_istore_n (lv' := [(1, .int (0 : Int32)), (0, .ref (zad G 0))]) hC dX3_lastHourSeen_1 rfl (by decide) rfl ?_
  refine z_iconst hC dX3_lastHourSeen_2 (v := 0) rfl ?_
  refine z_istore_n (lv' := [(2, .int (0 : Int32)), (1, .int (0 : Int32)), (0, .ref (zad G 0))]) hC dX3_lastHourSeen_3 rfl (by decide) rfl ?_
  have hL4 : ∀ (n : Nat) (v1 : Int32) (v2 : Int32), zfix2 (b_X3_lastHourSeen_4 w) n v1 v2 = some r → Z G p l e rm_X3_lastHourSeen s m args below meth c (MQ below (zQ G (some (.int r)) w) args s 0 0 (zA G)) 3 4 [(0, .ref (zad G 0)), (1, .int v1), (2, .int v2)] [] w := by
    intro n
    induction n with
    | zero => intro v1 v2 hf; exact (zfix2_0 hf).elim
    | succ n ih4 =>
      intro v1 v2 hf
      replace hf := zfix2_e hf
      unfold b_X3_lastHourSeen_4 at hf
      refine z_iload_n hC dX3_lastHourSeen_4 2 rfl rfl ?_
      refine z_aload_n hC dX3_lastHourSeen_5 0 rfl rfl ?_
      refine z_get3 hC 11 (by decide) zw_fl_X3_57 (v := .int (w 0 11)) rfl dX3_lastHourSeen_6 ?_
      refine z_icmp_ge (tgt := 29) hC dX3_lastHourSeen_9 (by decide) (fun h3 => ?_) (fun h3 => ?_)
      · replace hf := zif_t h3 hf
        refine z_iload_n hC dX3_lastHourSeen_29 1 rfl rfl ?_
        obtain rfl := zso1 hf
        exact z_iret hC dX3_lastHourSeen_30
      replace hf := zif_f h3 hf
      refine z_iload_n hC dX3_lastHourSeen_12 1 rfl rfl ?_
      refine z_aload_n hC dX3_lastHourSeen_13 0 rfl rfl ?_
      refine z_get3 hC 9 (by decide) zw_fl_X3_50 (v := .ref (zad G 45)) rfl dX3_lastHourSeen_14 ?_
      refine z_iload_n hC dX3_lastHourSeen_17 2 rfl rfl ?_
      obtain ⟨hg4, hf⟩ := zg_e hf
      refine z_iald hC za_45 hg4 rfl dX3_lastHourSeen_18 ?_
      refine z_max hC zw_ml_X3_266 (Nat.le_of_ble_eq_true rfl) (Nat.le_of_ble_eq_true rfl) dX3_lastHourSeen_19 ?_
      obtain ⟨v5, ev5, hf⟩ := zlet_e hf
      refine z_topi ev5 ?_
      refine z_istore_n (lv' := [(1, .int v5), (0, .ref (zad G 0)), (2, .int v2)]) hC dX3_lastHourSeen_22 rfl (by decide) rfl ?_
      obtain ⟨v6, ev6, hf⟩ := zlet_e hf
      refine z_iinc (v := v6) (lv' := [(2, .int v6), (1, .int v5), (0, .ref (zad G 0))]) hC dX3_lastHourSeen_23 2 rfl (by rw [ev6]; rfl) (by decide) rfl ?_
      refine z_goto (tgt := 4) hC dX3_lastHourSeen_26 (by decide) ?_
      refine z_lv [2, 1, 0] rfl ?_
      exact ih4 _ _ hf
  refine z_lv [2, 1, 0] rfl ?_
  exact hL4 _ _ _ hf
theorem zy_X3_lastHourSeen : zYV yX3_lastHourSeen cX3_lastHourSeen 3 (some .int) RX3 0 := ⟨zw_cd_X3_lastHourSeen, zw_im_X3_lastHourSeen, zw_sel_X3_lastHourSeen, zw_ini_X3, by decide +kernel⟩
abbrev rm_X3_isAsSeenBehind : Room := { frames := 0, cells := 0, slots := 0, locals := 0 }
def b_X3_isAsSeenBehind_2 (w : zW) (a1 : Int32) (k2 : Int32 → Option Int32) (v1 : Int32) : Option Int32 :=
  if (w 0 11) ≤ v1 then
    some (1 : Int32)
  else
  zg (zin v1 6) <|
  zjn0 (
    zlet (v1 + (1 : Int32)) fun v4 =>
    k2 v4)
  (fun (j38 : Option Int32) =>
  if (w 45 (zx v1)) = a1 then
    zg (zin v1 6) <|
    if (w 46 (zx v1)) = (w 10 9) then
      j38
    else
    some (0 : Int32)
  else
    j38)
def f_X3_isAsSeenBehind (w : zW) (a1 : Int32) : Option Int32 :=
  zfix1 (b_X3_isAsSeenBehind_2 w a1) 100000 (0 : Int32)
set_option maxRecDepth 100000 in
set_option maxHeartbeats 4000000 in
theorem c_X3_isAsSeenBehind (l : Launch) (G : zG) (w : zW) (a1 : Int32) {r : Int32} (hf : f_X3_isAsSeenBehind w a1 = some r) : zMet l G yX3_isAsSeenBehind cX3_isAsSeenBehind 3 (some .boolean) rm_X3_isAsSeenBehind [.ref (zad G 0), .int a1] w (some (.int r)) w := by
  refine z_start (own := RX3) (by decide) rfl (Nat.le_of_ble_eq_true rfl) (lv := [(0, .ref (zad G 0)), (1, .int a1)]) rfl ?_
  intro p e s m args below meth c hC
  unfold f_X3_isAsSeenBehind at hf
  refine z_iconst hC dX3_isAsSeenBehind_0 (v := 0) rfl ?_
  refine z_istore_n (lv' := [(2, .int (0 : Int32)), (0, .ref (zad G 0)), (1, .int a1)]) hC dX3_isAsSeenBehind_1 rfl (by decide) rfl ?_
  have hL2 : ∀ (n : Nat) (v1 : Int32), zfix1 (b_X3_isAsSeenBehind_2 w a1) n v1 = some r → Z G p l e rm_X3_isAsSeenBehind s m args below meth c (MQ below (zQ G (some (.int r)) w) args s 0 0 (zA G)) 3 2 [(0, .ref (zad G 0)), (1, .int a1), (2, .int v1)] [] w := by
    intro n
    induction n with
    | zero => intro v1 hf; exact (zfix1_0 hf).elim
    | succ n ih2 =>
      intro v1 hf
      replace hf := zfix1_e hf
      unfold b_X3_isAsSeenBehind_2 at hf
      refine z_iload_n hC dX3_isAsSeenBehind_2 2 rfl rfl ?_
      refine z_aload_n hC dX3_isAsSeenBehind_3 0 rfl rfl ?_
      refine z_get3 hC 11 (by decide) zw_fl_X3_57 (v := .int (w 0 11)) rfl dX3_isAsSeenBehind_4 ?_
      refine z_icmp_ge (tgt := 44) hC dX3_isAsSeenBehind_7 (by decide) (fun h2 => ?_) (fun h2 => ?_)
      · replace hf := zif_t h2 hf
        refine z_iconst hC dX3_isAsSeenBehind_44 (v := 1) rfl ?_
        obtain rfl := zso1 hf
        exact z_zret hC rfl dX3_isAsSeenBehind_45
      replace hf := zif_f h2 hf
      refine z_aload_n hC dX3_isAsSeenBehind_10 0 rfl rfl ?_
      refine z_get3 hC 9 (by decide) zw_fl_X3_50 (v := .ref (zad G 45)) rfl dX3_isAsSeenBehind_11 ?_
      refine z_iload_n hC dX3_isAsSeenBehind_14 2 rfl rfl ?_
      obtain ⟨hg3, hf⟩ := zg_e hf
      refine z_iald hC za_45 hg3 rfl dX3_isAsSeenBehind_15 ?_
      refine z_iload_n hC dX3_isAsSeenBehind_16 1 rfl rfl ?_
      obtain ⟨j38, hj38, hf⟩ := zjn0_e hf
      have hJ38 : j38 = some r → Z G p l e rm_X3_isAsSeenBehind s m args below meth c (MQ below (zQ G (some (.int r)) w) args s 0 0 (zA G)) 3 38 [(0, .ref (zad G 0)), (1, .int a1), (2, .int v1)] [] w := by
        intro hf
        replace hf := hj38  hf
        obtain ⟨v4, ev4, hf⟩ := zlet_e hf
        refine z_iinc (v := v4) (lv' := [(2, .int v4), (0, .ref (zad G 0)), (1, .int a1)]) hC dX3_isAsSeenBehind_38 2 rfl (by rw [ev4]; rfl) (by decide) rfl ?_
        refine z_goto (tgt := 2) hC dX3_isAsSeenBehind_41 (by decide) ?_
        refine z_lv [1, 2, 0] rfl ?_
        exact ih2 _ hf
      refine z_icmp_ne (tgt := 38) hC dX3_isAsSeenBehind_17 (by decide) (fun h5 => ?_) (fun h5 => ?_)
      · replace hf := zif_f h5 hf
        exact hJ38 hf
      replace hf := zif_t h5 hf
      refine z_aload_n hC dX3_isAsSeenBehind_20 0 rfl rfl ?_
      refine z_get3 hC 10 (by decide) zw_fl_X3_54 (v := .ref (zad G 46)) rfl dX3_isAsSeenBehind_21 ?_
      refine z_iload_n hC dX3_isAsSeenBehind_24 2 rfl rfl ?_
      obtain ⟨hg6, hf⟩ := zg_e hf
      refine z_iald hC za_46 hg6 rfl dX3_isAsSeenBehind_25 ?_
      refine z_aload_n hC dX3_isAsSeenBehind_26 0 rfl rfl ?_
      refine z_get3 hC 4 (by decide) zw_fl_X3_27 (v := .ref (zad G 10)) rfl dX3_isAsSeenBehind_27 ?_
      refine z_get0 hC zcamp10 9 (by decide) zw_fl_X3_106 (v := .int (w 10 9)) rfl dX3_isAsSeenBehind_30 ?_
      refine z_icmp_eq (tgt := 38) hC dX3_isAsSeenBehind_33 (by decide) (fun h7 => ?_) (fun h7 => ?_)
      · replace hf := zif_t h7 hf
        exact hJ38 hf
      replace hf := zif_f h7 hf
      refine z_iconst hC dX3_isAsSeenBehind_36 (v := 0) rfl ?_
      obtain rfl := zso1 hf
      exact z_zret hC rfl dX3_isAsSeenBehind_37
  refine z_lv [1, 2, 0] rfl ?_
  exact hL2 _ _ hf
theorem zy_X3_isAsSeenBehind : zYV yX3_isAsSeenBehind cX3_isAsSeenBehind 3 (some .boolean) RX3 1 := ⟨zw_cd_X3_isAsSeenBehind, zw_im_X3_isAsSeenBehind, zw_sel_X3_isAsSeenBehind, zw_ini_X3, by decide +kernel⟩
abbrev rm_X3_isAsSeen : Room := { frames := 5, cells := 0, slots := 0, locals := 114 }
def b_X3_isAsSeen_57 (v4 : Int32) (k57 : Int32 → zW → Option (Int32 × zW)) (v5 : Int32) (w6 : zW) : Option (Int32 × zW) :=
  if v4 < v5 then
    some ((1 : Int32), w6)
  else
  zbd (f_X0_passHours w6 10 (1 : Int32) (w6 2 13)) fun w8 =>
  zbd (f_X3_isAsSeenBehind w8 v5) fun v9 =>
  if v9 = (0 : Int32) then
    some ((0 : Int32), w8)
  else
    zlet (v5 + (1 : Int32)) fun v11 =>
    k57 v11 w8
def b_X3_isAsSeen_23 (j49 : zW → Option (Int32 × zW)) (k23 : Int32 → Int32 → zW → Option (Int32 × zW)) (v12 : Int32) (v13 : Int32) (w14 : zW) : Option (Int32 × zW) :=
  if v13 < (0 : Int32) then
    j49 w14
  else
  zg (zin v13 4) <|
  zlet (zup w14 (10 + 1) (zx v13) (zrem v12 (5 : Int32))) fun w17 =>
  zlet (v12 / (5 : Int32)) fun v18 =>
  zlet (v13 + (-1 : Int32)) fun v19 =>
  k23 v18 v19 w17
def f_X3_isAsSeen (w : zW) (a1 : Int32) : Option (Int32 × zW) :=
  zbd (f_X0_copyFrom w 10 2) fun w1 =>
  zlet ((w1 10 0) - (1 : Int32)) fun v2 =>
  zjn1 (fun (w3 : zW) =>
    zbd (f_X3_lastHourSeen w3) fun v4 =>
    zfix2 (b_X3_isAsSeen_57 v4) 100000 (1 : Int32) w3)
  (fun (j49 : zW → Option (Int32 × zW)) =>
  zfix3 (b_X3_isAsSeen_23 j49) 100000 a1 v2 w1)
set_option maxRecDepth 100000 in
set_option maxHeartbeats 4000000 in
theorem c_X3_isAsSeen (l : Launch) (G : zG) (w : zW) (a1 : Int32) {r : Int32} {wz : zW} (hf : f_X3_isAsSeen w a1 = some (r, wz)) : zMet l G yX3_isAsSeen cX3_isAsSeen 5 (some .boolean) rm_X3_isAsSeen [.ref (zad G 0), .int a1] w (some (.int r)) wz := by
  refine z_start (own := RX3) (by decide) rfl (Nat.le_of_ble_eq_true rfl) (lv := [(0, .ref (zad G 0)), (1, .int a1)]) rfl ?_
  intro p e s m args below meth c hC
  unfold f_X3_isAsSeen at hf
  refine z_aload_n hC dX3_isAsSeen_0 0 rfl rfl ?_
  refine z_get3 hC 4 (by decide) zw_fl_X3_27 (v := .ref (zad G 10)) rfl dX3_isAsSeen_1 ?_
  refine z_aload_n hC dX3_isAsSeen_4 0 rfl rfl ?_
  refine z_get3 hC 3 (by decide) zw_fl_X3_23 (v := .ref (zad G 2)) rfl dX3_isAsSeen_5 ?_
  obtain ⟨w1, ew1, hf⟩ := zbd_e hf
  refine z_cvv (As := [.ref (zad G 2)]) (rest := []) hC (zo_camp zcamp10) rfl (c_X0_copyFrom l G w 10 zcamp10 2 zcamp2 ew1) zw_ml_X3_84 zy_X0_copyFrom ⟨rfl, rfl, Nat.le_of_ble_eq_true rfl, Nat.le_of_ble_eq_true rfl⟩ rfl rfl (Nat.le_of_ble_eq_true rfl) dX3_isAsSeen_8 ?_
  refine z_iload_n hC dX3_isAsSeen_11 1 rfl rfl ?_
  refine z_istore_n (lv' := [(2, .int a1), (0, .ref (zad G 0)), (1, .int a1)]) hC dX3_isAsSeen_12 rfl (by decide) rfl ?_
  refine z_aload_n hC dX3_isAsSeen_13 1 rfl rfl ?_
  refine z_get3 hC 4 (by decide) zw_fl_X3_27 (v := .ref (zad G 10)) rfl dX3_isAsSeen_14 ?_
  refine z_get0 hC zcamp10 0 (by decide) zw_fl_X3_91 (v := .int (w1 10 0)) rfl dX3_isAsSeen_17 ?_
  refine z_iconst hC dX3_isAsSeen_20 (v := 1) rfl ?_
  refine z_isub hC dX3_isAsSeen_21 ?_
  obtain ⟨v2, ev2, hf⟩ := zlet_e hf
  refine z_topi ev2 ?_
  refine z_istore_n (lv' := [(3, .int v2), (2, .int a1), (0, .ref (zad G 0)), (1, .int a1)]) hC dX3_isAsSeen_22 rfl (by decide) rfl ?_
  obtain ⟨j49, hj49, hf⟩ := zjn1_e hf
  have hJ49 : ∀ (w3 : zW), j49 w3 = some (r, wz) → Z G p l e rm_X3_isAsSeen s m args below meth c (MQ below (zQ G (some (.int r)) wz) args s 0 0 (zA G)) 5 49 [(0, .ref (zad G 0))] [] w3 := by
    intro w3 hf
    replace hf := hj49 w3 hf
    refine z_aload_n hC dX3_isAsSeen_49 0 rfl rfl ?_
    obtain ⟨v4, ev4, hf⟩ := zbd_e hf
    refine z_cvi (As := []) (rest := []) hC zo_bot rfl (c_X3_lastHourSeen l G w3 ev4) zw_ml_X3_260 zy_X3_lastHourSeen ⟨rfl, rfl, Nat.le_of_ble_eq_true rfl, Nat.le_of_ble_eq_true rfl⟩ rfl rfl (Nat.le_of_ble_eq_true rfl) dX3_isAsSeen_50 ?_
    refine z_istore_n (lv' := [(3, .int v4), (0, .ref (zad G 0))]) hC dX3_isAsSeen_53 rfl (by decide) rfl ?_
    refine z_iconst hC dX3_isAsSeen_54 (v := 1) rfl ?_
    refine z_istore (lv' := [(4, .int (1 : Int32)), (3, .int v4), (0, .ref (zad G 0))]) hC dX3_isAsSeen_55 (by decide) rfl ?_
    have hL57 : ∀ (n : Nat) (v5 : Int32) (w6 : zW), zfix2 (b_X3_isAsSeen_57 v4) n v5 w6 = some (r, wz) → Z G p l e rm_X3_isAsSeen s m args below meth c (MQ below (zQ G (some (.int r)) wz) args s 0 0 (zA G)) 5 57 [(0, .ref (zad G 0)), (3, .int v4), (4, .int v5)] [] w6 := by
      intro n
      induction n with
      | zero => intro v5 w6 hf; exact (zfix2_0 hf).elim
      | succ n ih57 =>
        intro v5 w6 hf
        replace hf := zfix2_e hf
        unfold b_X3_isAsSeen_57 at hf
        refine z_iload hC dX3_isAsSeen_57 2 rfl ?_
        refine z_iload_n hC dX3_isAsSeen_59 1 rfl rfl ?_
        refine z_icmp_gt (tgt := 95) hC dX3_isAsSeen_60 (by decide) (fun h7 => ?_) (fun h7 => ?_)
        · replace hf := zif_t h7 hf
          refine z_iconst hC dX3_isAsSeen_95 (v := 1) rfl ?_
          obtain ⟨rfl, rfl⟩ := zso2 hf
          exact z_zret hC rfl dX3_isAsSeen_96
        replace hf := zif_f h7 hf
        refine z_aload_n hC dX3_isAsSeen_63 0 rfl rfl ?_
        refine z_get3 hC 4 (by decide) zw_fl_X3_27 (v := .ref (zad G 10)) rfl dX3_isAsSeen_64 ?_
        refine z_iconst hC dX3_isAsSeen_67 (v := 1) rfl ?_
        refine z_aload_n hC dX3_isAsSeen_68 0 rfl rfl ?_
        refine z_get3 hC 3 (by decide) zw_fl_X3_23 (v := .ref (zad G 2)) rfl dX3_isAsSeen_69 ?_
        refine z_get0 hC zcamp2 13 (by decide) zw_fl_X3_109 (v := .int (w6 2 13)) rfl dX3_isAsSeen_72 ?_
        obtain ⟨w8, ew8, hf⟩ := zbd_e hf
        refine z_cvv (As := [.int (1 : Int32), .int (w6 2 13)]) (rest := []) hC (zo_camp zcamp10) rfl (c_X0_passHours l G w6 10 zcamp10 (1 : Int32) (w6 2 13) ew8) zw_ml_X3_172 zy_X0_passHours ⟨rfl, rfl, Nat.le_of_ble_eq_true rfl, Nat.le_of_ble_eq_true rfl⟩ rfl rfl (Nat.le_of_ble_eq_true rfl) dX3_isAsSeen_75 ?_
        refine z_aload_n hC dX3_isAsSeen_78 0 rfl rfl ?_
        refine z_iload hC dX3_isAsSeen_79 2 rfl ?_
        obtain ⟨v9, ev9, hf⟩ := zbd_e hf
        refine z_cvi (As := [.int v5]) (rest := []) hC zo_bot rfl (c_X3_isAsSeenBehind l G w8 v5 ev9) zw_ml_X3_263 zy_X3_isAsSeenBehind ⟨rfl, rfl, Nat.le_of_ble_eq_true rfl, Nat.le_of_ble_eq_true rfl⟩ rfl rfl (Nat.le_of_ble_eq_true rfl) dX3_isAsSeen_81 ?_
        refine z_if_ne (tgt := 89) hC dX3_isAsSeen_84 (by decide) (fun h10 => ?_) (fun h10 => ?_)
        · replace hf := zif_f h10 hf
          obtain ⟨v11, ev11, hf⟩ := zlet_e hf
          refine z_iinc (v := v11) (lv' := [(4, .int v11), (0, .ref (zad G 0)), (3, .int v4)]) hC dX3_isAsSeen_89 2 rfl (by rw [ev11]; rfl) (by decide) rfl ?_
          refine z_goto (tgt := 57) hC dX3_isAsSeen_92 (by decide) ?_
          refine z_lv [1, 2, 0] rfl ?_
          exact ih57 _ _ hf
        replace hf := zif_t h10 hf
        refine z_iconst hC dX3_isAsSeen_87 (v := 0) rfl ?_
        obtain ⟨rfl, rfl⟩ := zso2 hf
        exact z_zret hC rfl dX3_isAsSeen_88
    refine z_lv [2, 1, 0] rfl ?_
    exact hL57 _ _ _ hf
  have hL23 : ∀ (n : Nat) (v12 : Int32) (v13 : Int32) (w14 : zW), zfix3 (b_X3_isAsSeen_23 j49) n v12 v13 w14 = some (r, wz) → Z G p l e rm_X3_isAsSeen s m args below meth c (MQ below (zQ G (some (.int r)) wz) args s 0 0 (zA G)) 5 23 [(0, .ref (zad G 0)), (2, .int v12), (3, .int v13)] [] w14 := by
    intro n
    induction n with
    | zero => intro v12 v13 w14 hf; exact (zfix3_0 hf).elim
    | succ n ih23 =>
      intro v12 v13 w14 hf
      replace hf := zfix3_e hf
      unfold b_X3_isAsSeen_23 at hf
      refine z_iload_n hC dX3_isAsSeen_23 2 rfl rfl ?_
      refine z_if_lt (tgt := 49) hC dX3_isAsSeen_24 (by decide) (fun h15 => ?_) (fun h15 => ?_)
      · replace hf := zif_t h15 hf
        refine z_lv [0] rfl ?_
        exact hJ49 _ hf
      replace hf := zif_f h15 hf
      refine z_aload_n hC dX3_isAsSeen_27 0 rfl rfl ?_
      refine z_get3 hC 4 (by decide) zw_fl_X3_27 (v := .ref (zad G 10)) rfl dX3_isAsSeen_28 ?_
      refine z_get0 hC zcamp10 1 (by decide) zw_fl_X3_122 (v := .ref (zad G (10 + 1))) rfl dX3_isAsSeen_31 ?_
      refine z_iload_n hC dX3_isAsSeen_34 2 rfl rfl ?_
      refine z_iload_n hC dX3_isAsSeen_35 1 rfl rfl ?_
      refine z_iconst hC dX3_isAsSeen_36 (v := 5) rfl ?_
      refine z_irem hC dX3_isAsSeen_37 (by decide) ?_
      obtain ⟨hg16, hf⟩ := zg_e hf
      obtain ⟨w17, ew17, hf⟩ := zlet_e hf
      refine z_iast hC (za_c1 zcamp10) hg16 rfl ew17 dX3_isAsSeen_38 ?_
      refine z_iload_n hC dX3_isAsSeen_39 1 rfl rfl ?_
      refine z_iconst hC dX3_isAsSeen_40 (v := 5) rfl ?_
      refine z_idiv hC dX3_isAsSeen_41 (by decide) ?_
      obtain ⟨v18, ev18, hf⟩ := zlet_e hf
      refine z_topi ev18 ?_
      refine z_istore_n (lv' := [(2, .int v18), (0, .ref (zad G 0)), (3, .int v13)]) hC dX3_isAsSeen_42 rfl (by decide) rfl ?_
      obtain ⟨v19, ev19, hf⟩ := zlet_e hf
      refine z_iinc (v := v19) (lv' := [(3, .int v19), (2, .int v18), (0, .ref (zad G 0))]) hC dX3_isAsSeen_43 2 rfl (by rw [ev19]; rfl) (by decide) rfl ?_
      refine z_goto (tgt := 23) hC dX3_isAsSeen_46 (by decide) ?_
      refine z_lv [2, 1, 0] rfl ?_
      exact ih23 _ _ _ hf
  refine z_lv [2, 1, 0] rfl ?_
  exact hL23 _ _ _ _ hf
theorem zy_X3_isAsSeen : zYV yX3_isAsSeen cX3_isAsSeen 5 (some .boolean) RX3 1 := ⟨zw_cd_X3_isAsSeen, zw_im_X3_isAsSeen, zw_sel_X3_isAsSeen, zw_ini_X3, by decide +kernel⟩
abbrev rm_X3_fits : Room := { frames := 6, cells := 0, slots := 0, locals := 138 }
def b_X3_fits_28 (a1 : Int32) (v2 : Int64) (j62 : Int32 → zW → Option (Int32 × zW)) (k28 : Int32 → Int32 → zW → Option (Int32 × zW)) (v6 : Int32) (v7 : Int32) (w8 : zW) : Option (Int32 × zW) :=
  if (0 : Int32) ≤ (lg_cmp (v7.toInt64) v2) then
    j62 v6 w8
  else
  zbd2 (f_X3_isAsSeen w8 v7) fun v11 w10 =>
  zjn1 (fun (v12 : Int32) =>
    zlet (v7 + (1 : Int32)) fun v13 =>
    k28 v12 v13 w10)
  (fun (j56 : Int32 → Option (Int32 × zW)) =>
  if v11 = (0 : Int32) then
    j56 v6
  else
  if a1 = (1 : Int32) then
    some (v7, w10)
  else
    zlet (v6 + (1 : Int32)) fun v16 =>
    j56 v16)
def f_X3_fits (w : zW) (a1 : Int32) : Option (Int32 × zW) :=
  if (f_X3_within a1 (0 : Int32) (1 : Int32)) = (0 : Int32) then
    some ((-1 : Int32), w)
  else
    zbd (f_X3_power (5 : Int32) (w 2 0)) fun v2 =>
    zjn2 (fun (v3 : Int32) (w4 : zW) =>
      if a1 = (0 : Int32) then
        some (v3, w4)
      else
        some ((-4 : Int32), w4))
    (fun (j62 : Int32 → zW → Option (Int32 × zW)) =>
    zfix3 (b_X3_fits_28 a1 v2 j62) 100000 (0 : Int32) (0 : Int32) w)
set_option maxRecDepth 100000 in
set_option maxHeartbeats 4000000 in
theorem c_X3_fits (l : Launch) (G : zG) (w : zW) (a1 : Int32) {r : Int32} {wz : zW} (hf : f_X3_fits w a1 = some (r, wz)) : zMet l G yX3_fits cX3_fits 6 (some .int) rm_X3_fits [.ref (zad G 0), .int a1] w (some (.int r)) wz := by
  refine z_start (own := RX3) (by decide) rfl (Nat.le_of_ble_eq_true rfl) (lv := [(0, .ref (zad G 0)), (1, .int a1)]) rfl ?_
  intro p e s m args below meth c hC
  unfold f_X3_fits at hf
  refine z_iload_n hC dX3_fits_0 1 rfl rfl ?_
  refine z_iconst hC dX3_fits_1 (v := 0) rfl ?_
  refine z_iconst hC dX3_fits_2 (v := 1) rfl ?_
  refine z_csi (As := [.int a1, .int (0 : Int32), .int (1 : Int32)]) (rest := []) hC (c_X3_within l G w a1 (0 : Int32) (1 : Int32)) zw_ml_X3_70 zy_X3_within ⟨rfl, rfl, Nat.le_of_ble_eq_true rfl, Nat.le_of_ble_eq_true rfl⟩ rfl rfl (Nat.le_of_ble_eq_true rfl) dX3_fits_3 ?_
  refine z_if_ne (tgt := 11) hC dX3_fits_6 (by decide) (fun h1 => ?_) (fun h1 => ?_)
  · replace hf := zif_f h1 hf
    refine z_iconst hC dX3_fits_11 (v := 0) rfl ?_
    refine z_istore_n (lv' := [(2, .int (0 : Int32)), (0, .ref (zad G 0)), (1, .int a1)]) hC dX3_fits_12 rfl (by decide) rfl ?_
    refine z_iconst hC dX3_fits_13 (v := 5) rfl ?_
    refine z_aload_n hC dX3_fits_14 1 rfl rfl ?_
    refine z_get3 hC 3 (by decide) zw_fl_X3_23 (v := .ref (zad G 2)) rfl dX3_fits_15 ?_
    refine z_get0 hC zcamp2 0 (by decide) zw_fl_X3_91 (v := .int (w 2 0)) rfl dX3_fits_18 ?_
    obtain ⟨v2, ev2, hf⟩ := zbd_e hf
    refine z_csl (As := [.int (5 : Int32), .int (w 2 0)]) (rest := []) hC (c_X3_power l G w (5 : Int32) (w 2 0) ev2) zw_ml_X3_212 zy_X3_power ⟨rfl, rfl, Nat.le_of_ble_eq_true rfl, Nat.le_of_ble_eq_true rfl⟩ rfl rfl (Nat.le_of_ble_eq_true rfl) dX3_fits_21 ?_
    refine z_lstore_n (lv' := [(3, .long v2), (2, .int (0 : Int32)), (0, .ref (zad G 0)), (1, .int a1)]) hC dX3_fits_24 rfl (by decide) rfl ?_
    refine z_iconst hC dX3_fits_25 (v := 0) rfl ?_
    refine z_istore (lv' := [(5, .int (0 : Int32)), (3, .long v2), (2, .int (0 : Int32)), (0, .ref (zad G 0)), (1, .int a1)]) hC dX3_fits_26 (by decide) rfl ?_
    obtain ⟨j62, hj62, hf⟩ := zjn2_e hf
    have hJ62 : ∀ (v3 : Int32) (w4 : zW), j62 v3 w4 = some (r, wz) → Z G p l e rm_X3_fits s m args below meth c (MQ below (zQ G (some (.int r)) wz) args s 0 0 (zA G)) 6 62 [(1, .int a1), (2, .int v3)] [] w4 := by
      intro v3 w4 hf
      replace hf := hj62 v3 w4 hf
      refine z_iload_n hC dX3_fits_62 0 rfl rfl ?_
      refine z_if_ne (tgt := 70) hC dX3_fits_63 (by decide) (fun h5 => ?_) (fun h5 => ?_)
      · replace hf := zif_f h5 hf
        refine z_bipush hC dX3_fits_70 (v := -4) rfl ?_
        obtain ⟨rfl, rfl⟩ := zso2 hf
        exact z_iret hC dX3_fits_72
      replace hf := zif_t h5 hf
      refine z_iload_n hC dX3_fits_66 1 rfl rfl ?_
      refine z_goto (tgt := 72) hC dX3_fits_67 (by decide) ?_
      obtain ⟨rfl, rfl⟩ := zso2 hf
      exact z_iret hC dX3_fits_72
    have hL28 : ∀ (n : Nat) (v6 : Int32) (v7 : Int32) (w8 : zW), zfix3 (b_X3_fits_28 a1 v2 j62) n v6 v7 w8 = some (r, wz) → Z G p l e rm_X3_fits s m args below meth c (MQ below (zQ G (some (.int r)) wz) args s 0 0 (zA G)) 6 28 [(0, .ref (zad G 0)), (1, .int a1), (2, .int v6), (3, .long v2), (5, .int v7)] [] w8 := by
      intro n
      induction n with
      | zero => intro v6 v7 w8 hf; exact (zfix3_0 hf).elim
      | succ n ih28 =>
        intro v6 v7 w8 hf
        replace hf := zfix3_e hf
        unfold b_X3_fits_28 at hf
        refine z_iload hC dX3_fits_28 4 rfl ?_
        refine z_i2l hC dX3_fits_30 ?_
        refine z_lload_n hC dX3_fits_31 3 rfl rfl ?_
        refine z_lcmp hC dX3_fits_32 ?_
        refine z_if_ge (tgt := 62) hC dX3_fits_33 (by decide) (fun h9 => ?_) (fun h9 => ?_)
        · replace hf := zif_t h9 hf
          refine z_lv [1, 2] rfl ?_
          exact hJ62 _ _ hf
        replace hf := zif_f h9 hf
        refine z_aload_n hC dX3_fits_36 0 rfl rfl ?_
        refine z_iload hC dX3_fits_37 4 rfl ?_
        obtain ⟨v11, w10, ew10, hf⟩ := zbd2_e hf
        refine z_cvi (As := [.int v7]) (rest := []) hC zo_bot rfl (c_X3_isAsSeen l G w8 v7 ew10) zw_ml_X3_220 zy_X3_isAsSeen ⟨rfl, rfl, Nat.le_of_ble_eq_true rfl, Nat.le_of_ble_eq_true rfl⟩ rfl rfl (Nat.le_of_ble_eq_true rfl) dX3_fits_39 ?_
        obtain ⟨j56, hj56, hf⟩ := zjn1_e hf
        have hJ56 : ∀ (v12 : Int32), j56 v12 = some (r, wz) → Z G p l e rm_X3_fits s m args below meth c (MQ below (zQ G (some (.int r)) wz) args s 0 0 (zA G)) 6 56 [(0, .ref (zad G 0)), (1, .int a1), (2, .int v12), (3, .long v2), (5, .int v7)] [] w10 := by
          intro v12 hf
          replace hf := hj56 v12 hf
          obtain ⟨v13, ev13, hf⟩ := zlet_e hf
          refine z_iinc (v := v13) (lv' := [(5, .int v13), (0, .ref (zad G 0)), (1, .int a1), (2, .int v12), (3, .long v2)]) hC dX3_fits_56 4 rfl (by rw [ev13]; rfl) (by decide) rfl ?_
          refine z_goto (tgt := 28) hC dX3_fits_59 (by decide) ?_
          refine z_lv [1, 2, 3, 4, 0] rfl ?_
          exact ih28 _ _ _ hf
        refine z_if_eq (tgt := 56) hC dX3_fits_42 (by decide) (fun h14 => ?_) (fun h14 => ?_)
        · replace hf := zif_t h14 hf
          exact hJ56 _ hf
        replace hf := zif_f h14 hf
        refine z_iload_n hC dX3_fits_45 1 rfl rfl ?_
        refine z_iconst hC dX3_fits_46 (v := 1) rfl ?_
        refine z_icmp_ne (tgt := 53) hC dX3_fits_47 (by decide) (fun h15 => ?_) (fun h15 => ?_)
        · replace hf := zif_f h15 hf
          obtain ⟨v16, ev16, hf⟩ := zlet_e hf
          refine z_iinc (v := v16) (lv' := [(2, .int v16), (0, .ref (zad G 0)), (1, .int a1), (3, .long v2), (5, .int v7)]) hC dX3_fits_53 2 rfl (by rw [ev16]; rfl) (by decide) rfl ?_
          refine z_lv [1, 2, 0, 3, 4] rfl ?_
          exact hJ56 _ hf
        replace hf := zif_t h15 hf
        refine z_iload hC dX3_fits_50 4 rfl ?_
        obtain ⟨rfl, rfl⟩ := zso2 hf
        exact z_iret hC dX3_fits_52
    refine z_lv [3, 4, 2, 1, 0] rfl ?_
    exact hL28 _ _ _ _ hf
  replace hf := zif_t h1 hf
  refine z_iconst hC dX3_fits_9 (v := -1) rfl ?_
  obtain ⟨rfl, rfl⟩ := zso2 hf
  exact z_iret hC dX3_fits_10
theorem zy_X3_fits : zYV yX3_fits cX3_fits 6 (some .int) RX3 1 := ⟨zw_cd_X3_fits, zw_im_X3_fits, zw_sel_X3_fits, zw_ini_X3, by decide +kernel⟩
abbrev rm_X3_forget : Room := { frames := 1, cells := 0, slots := 0, locals := 22 }
def f_X3_forget (w : zW) (a1 : Int32) : Option (Int32 × zW) :=
  if (f_X3_within a1 (0 : Int32) (w 0 11)) = (0 : Int32) then
    some ((-1 : Int32), w)
  else
    zlet (w 0 11) fun v2 =>
    zlet (zup w 0 11 a1) fun w3 =>
    some (v2, w3)
set_option maxRecDepth 100000 in
set_option maxHeartbeats 4000000 in
theorem c_X3_forget (l : Launch) (G : zG) (w : zW) (a1 : Int32) {r : Int32} {wz : zW} (hf : f_X3_forget w a1 = some (r, wz)) : zMet l G yX3_forget cX3_forget 3 (some .int) rm_X3_forget [.ref (zad G 0), .int a1] w (some (.int r)) wz := by
  refine z_start (own := RX3) (by decide) rfl (Nat.le_of_ble_eq_true rfl) (lv := [(0, .ref (zad G 0)), (1, .int a1)]) rfl ?_
  intro p e s m args below meth c hC
  unfold f_X3_forget at hf
  refine z_iload_n hC dX3_forget_0 1 rfl rfl ?_
  refine z_iconst hC dX3_forget_1 (v := 0) rfl ?_
  refine z_aload_n hC dX3_forget_2 0 rfl rfl ?_
  refine z_get3 hC 11 (by decide) zw_fl_X3_57 (v := .int (w 0 11)) rfl dX3_forget_3 ?_
  refine z_csi (As := [.int a1, .int (0 : Int32), .int (w 0 11)]) (rest := []) hC (c_X3_within l G w a1 (0 : Int32) (w 0 11)) zw_ml_X3_70 zy_X3_within ⟨rfl, rfl, Nat.le_of_ble_eq_true rfl, Nat.le_of_ble_eq_true rfl⟩ rfl rfl (Nat.le_of_ble_eq_true rfl) dX3_forget_6 ?_
  refine z_if_ne (tgt := 14) hC dX3_forget_9 (by decide) (fun h1 => ?_) (fun h1 => ?_)
  · replace hf := zif_f h1 hf
    refine z_aload_n hC dX3_forget_14 0 rfl rfl ?_
    refine z_get3 hC 11 (by decide) zw_fl_X3_57 (v := .int (w 0 11)) rfl dX3_forget_15 ?_
    obtain ⟨v2, ev2, hf⟩ := zlet_e hf
    refine z_topi ev2 ?_
    refine z_istore_n (lv' := [(2, .int v2), (0, .ref (zad G 0)), (1, .int a1)]) hC dX3_forget_18 rfl (by decide) rfl ?_
    refine z_aload_n hC dX3_forget_19 1 rfl rfl ?_
    refine z_iload_n hC dX3_forget_20 2 rfl rfl ?_
    obtain ⟨w3, ew3, hf⟩ := zlet_e hf
    refine z_put3 hC 11 (by decide) rfl rfl zw_fl_X3_57 rfl ew3 dX3_forget_21 ?_
    refine z_iload_n hC dX3_forget_24 0 rfl rfl ?_
    obtain ⟨rfl, rfl⟩ := zso2 hf
    exact z_iret hC dX3_forget_25
  replace hf := zif_t h1 hf
  refine z_iconst hC dX3_forget_12 (v := -1) rfl ?_
  obtain ⟨rfl, rfl⟩ := zso2 hf
  exact z_iret hC dX3_forget_13
theorem zy_X3_forget : zYV yX3_forget cX3_forget 3 (some .int) RX3 1 := ⟨zw_cd_X3_forget, zw_im_X3_forget, zw_sel_X3_forget, zw_ini_X3, by decide +kernel⟩
