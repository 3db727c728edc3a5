abbrev rm_X4_best : Room := { frames := 7, cells := 0, slots := 0, locals := 161 }
def b_X4_best_22 (j115 : Int32 → Int32 → zW → Option (Int32 × zW)) (k22 : Int32 → Int32 → Int32 → Int32 → zW → Option (Int32 × zW)) (v6 : Int32) (v7 : Int32) (v8 : Int32) (v9 : Int32) (w10 : zW) : Option (Int32 × zW) :=
  if (3 : Int32) ≤ v9 then
    j115 v6 v8 w10
  else
  zbd2 (f_X4_arriveFrom w10 (0 : Int32) v9) fun v13 w12 =>
  zjn1 (fun (v14 : Int32) =>
    zjn1 (fun (v15 : Int32) =>
      zjn1 (fun (v16 : Int32) =>
        zjn1 (fun (v17 : Int32) =>
          zlet (v9 + (1 : Int32)) fun v18 =>
          k22 v16 v17 v15 v18 w12)
        (fun (j108 : Int32 → Option (Int32 × zW)) =>
        if v14 = (0 : Int32) then
          j108 v7
        else
        j108 (w12 56 28)))
      (fun (j94 : Int32 → Option (Int32 × zW)) =>
      if v14 = (0 : Int32) then
        j94 v6
      else
      j94 v13))
    (fun (j81 : Int32 → Option (Int32 × zW)) =>
    if v14 = (0 : Int32) then
      j81 v8
    else
    j81 v9))
  (fun (j67 : Int32 → Option (Int32 × zW)) =>
  zjn0 (
    j67 (1 : Int32))
  (fun (j62 : Option (Int32 × zW)) =>
  if v6 < v13 then
    j62
  else
  zjn0 (
    j67 (0 : Int32))
  (fun (j66 : Option (Int32 × zW)) =>
  if v13 = v6 then
    if v13 ≤ (0 : Int32) then
      j66
    else
    if v7 ≤ (w12 56 28) then
      j66
    else
    j62
  else
    j66)))
def f_X4_best (w : zW) (a1 : Int32) : Option (Int32 × zW) :=
  if (f_X4_in (a1.toInt64) (0 : Int64) (1 : Int64)) = (0 : Int32) then
    some ((-1 : Int32), w)
  else
    zjn3 (fun (v2 : Int32) (v3 : Int32) (w4 : zW) =>
      if a1 = (0 : Int32) then
        some (v3, w4)
      else
        some (v2, w4))
    (fun (j115 : Int32 → Int32 → zW → Option (Int32 × zW)) =>
    zfix5 (b_X4_best_22 j115) 100000 (-1 : Int32) (0 : Int32) (0 : Int32) (0 : Int32) w)
set_option maxRecDepth 100000 in
set_option maxHeartbeats 4000000 in
theorem c_X4_best (l : Launch) (G : zG) (w : zW) (a1 : Int32) {r : Int32} {wz : zW} (hf : f_X4_best w a1 = some (r, wz)) : zMet l G yX4_best cX4_best 8 (some .int) rm_X4_best [.ref (zad G 56), .int a1] w (some (.int r)) wz := by
  refine z_start (own := RX4) (by decide) rfl (Nat.le_of_ble_eq_true rfl) (lv := [(0, .ref (zad G 56)), (1, .int a1)]) rfl ?_
  intro p e s m args below meth c hC
  unfold f_X4_best at hf
  refine z_iload_n hC dX4_best_0 1 rfl rfl ?_
  refine z_i2l hC dX4_best_1 ?_
  refine z_lconst hC dX4_best_2 (v := 0) rfl ?_
  refine z_lconst hC dX4_best_3 (v := 1) rfl ?_
  refine z_csi (As := [.long (a1.toInt64), .long (0 : Int64), .long (1 : Int64)]) (rest := []) hC (c_X4_in l G w (a1.toInt64) (0 : Int64) (1 : Int64)) zw_ml_X4_59 zy_X4_in ⟨rfl, rfl, Nat.le_of_ble_eq_true rfl, Nat.le_of_ble_eq_true rfl⟩ rfl rfl (Nat.le_of_ble_eq_true rfl) dX4_best_4 ?_
  refine z_if_ne (tgt := 12) hC dX4_best_7 (by decide) (fun h1 => ?_) (fun h1 => ?_)
  · replace hf := zif_f h1 hf
    refine z_iconst hC dX4_best_12 (v := -1) rfl ?_
    refine z_istore_n (lv' := [(2, .int (-1 : Int32)), (0, .ref (zad G 56)), (1, .int a1)]) hC dX4_best_13 rfl (by decide) rfl ?_
    refine z_iconst hC dX4_best_14 (v := 0) rfl ?_
    refine z_istore_n (lv' := [(3, .int (0 : Int32)), (2, .int (-1 : Int32)), (0, .ref (zad G 56)), (1, .int a1)]) hC dX4_best_15 rfl (by decide) rfl ?_
    refine z_iconst hC dX4_best_16 (v := 0) rfl ?_
    refine z_istore (lv' := [(4, .int (0 : Int32)), (3, .int (0 : Int32)), (2, .int (-1 : Int32)), (0, .ref (zad G 56)), (1, .int a1)]) hC dX4_best_17 (by decide) rfl ?_
    refine z_iconst hC dX4_best_19 (v := 0) rfl ?_
    refine z_istore (lv' := [(5, .int (0 : Int32)), (4, .int (0 : Int32)), (3, .int (0 : Int32)), (2, .int (-1 : Int32)), (0, .ref (zad G 56)), (1, .int a1)]) hC dX4_best_20 (by decide) rfl ?_
    obtain ⟨j115, hj115, hf⟩ := zjn3_e hf
    have hJ115 : ∀ (v2 : Int32) (v3 : Int32) (w4 : zW), j115 v2 v3 w4 = some (r, wz) → Z G p l e rm_X4_best s m args below meth c (MQ below (zQ G (some (.int r)) wz) args s 0 0 (zA G)) 8 115 [(1, .int a1), (2, .int v2), (4, .int v3)] [] w4 := by
      intro v2 v3 w4 hf
      replace hf := hj115 v2 v3 w4 hf
      refine z_iload_n hC dX4_best_115 0 rfl rfl ?_
      refine z_if_ne (tgt := 124) hC dX4_best_116 (by decide) (fun h5 => ?_) (fun h5 => ?_)
      · replace hf := zif_f h5 hf
        refine z_iload_n hC dX4_best_124 1 rfl rfl ?_
        obtain ⟨rfl, rfl⟩ := zso2 hf
        exact z_iret hC dX4_best_125
      replace hf := zif_t h5 hf
      refine z_iload hC dX4_best_119 2 rfl ?_
      refine z_goto (tgt := 125) hC dX4_best_121 (by decide) ?_
      obtain ⟨rfl, rfl⟩ := zso2 hf
      exact z_iret hC dX4_best_125
    have hL22 : ∀ (n : Nat) (v6 : Int32) (v7 : Int32) (v8 : Int32) (v9 : Int32) (w10 : zW), zfix5 (b_X4_best_22 j115) n v6 v7 v8 v9 w10 = some (r, wz) → Z G p l e rm_X4_best s m args below meth c (MQ below (zQ G (some (.int r)) wz) args s 0 0 (zA G)) 8 22 [(0, .ref (zad G 56)), (1, .int a1), (2, .int v6), (3, .int v7), (4, .int v8), (5, .int v9)] [] w10 := by
      intro n
      induction n with
      | zero => intro v6 v7 v8 v9 w10 hf; exact (zfix5_0 hf).elim
      | succ n ih22 =>
        intro v6 v7 v8 v9 w10 hf
        replace hf := zfix5_e hf
        unfold b_X4_best_22 at hf
        refine z_iload hC dX4_best_22 5 rfl ?_
        refine z_iconst hC dX4_best_24 (v := 3) rfl ?_
        refine z_icmp_ge (tgt := 115) hC dX4_best_25 (by decide) (fun h11 => ?_) (fun h11 => ?_)
        · replace hf := zif_t h11 hf
          refine z_lv [1, 2, 4] rfl ?_
          exact hJ115 _ _ _ hf
        replace hf := zif_f h11 hf
        refine z_aload_n hC dX4_best_28 0 rfl rfl ?_
        refine z_iconst hC dX4_best_29 (v := 0) rfl ?_
        refine z_iload hC dX4_best_30 5 rfl ?_
        obtain ⟨v13, w12, ew12, hf⟩ := zbd2_e hf
        refine z_cvi (As := [.int (0 : Int32), .int v9]) (rest := []) hC zo_mod rfl (c_X4_arriveFrom l G w10 (0 : Int32) v9 ew12) zw_ml_X4_256 zy_X4_arriveFrom ⟨rfl, rfl, Nat.le_of_ble_eq_true rfl, Nat.le_of_ble_eq_true rfl⟩ rfl rfl (Nat.le_of_ble_eq_true rfl) dX4_best_32 ?_
        refine z_istore (lv' := [(6, .int v13), (0, .ref (zad G 56)), (1, .int a1), (2, .int v6), (3, .int v7), (4, .int v8), (5, .int v9)]) hC dX4_best_35 (by decide) rfl ?_
        refine z_iload hC dX4_best_37 0 rfl ?_
        refine z_iload_n hC dX4_best_39 3 rfl rfl ?_
        obtain ⟨j67, hj67, hf⟩ := zjn1_e hf
        have hJ67 : ∀ (v14 : Int32), j67 v14 = some (r, wz) → Z G p l e rm_X4_best s m args below meth c (MQ below (zQ G (some (.int r)) wz) args s 0 0 (zA G)) 8 67 [(0, .ref (zad G 56)), (1, .int a1), (2, .int v6), (3, .int v7), (4, .int v8), (5, .int v9), (6, .int v13)] [.int v14] w12 := by
          intro v14 hf
          replace hf := hj67 v14 hf
          refine z_istore (lv' := [(7, .int v14), (0, .ref (zad G 56)), (1, .int a1), (2, .int v6), (3, .int v7), (4, .int v8), (5, .int v9), (6, .int v13)]) hC dX4_best_67 (by decide) rfl ?_
          refine z_iload hC dX4_best_69 0 rfl ?_
          obtain ⟨j81, hj81, hf⟩ := zjn1_e hf
          have hJ81 : ∀ (v15 : Int32), j81 v15 = some (r, wz) → Z G p l e rm_X4_best s m args below meth c (MQ below (zQ G (some (.int r)) wz) args s 0 0 (zA G)) 8 81 [(0, .ref (zad G 56)), (1, .int a1), (2, .int v6), (3, .int v7), (5, .int v9), (6, .int v13), (7, .int v14)] [.int v15] w12 := by
            intro v15 hf
            replace hf := hj81 v15 hf
            refine z_istore (lv' := [(4, .int v15), (0, .ref (zad G 56)), (1, .int a1), (2, .int v6), (3, .int v7), (5, .int v9), (6, .int v13), (7, .int v14)]) hC dX4_best_81 (by decide) rfl ?_
            refine z_iload hC dX4_best_83 7 rfl ?_
            obtain ⟨j94, hj94, hf⟩ := zjn1_e hf
            have hJ94 : ∀ (v16 : Int32), j94 v16 = some (r, wz) → Z G p l e rm_X4_best s m args below meth c (MQ below (zQ G (some (.int r)) wz) args s 0 0 (zA G)) 8 94 [(0, .ref (zad G 56)), (1, .int a1), (3, .int v7), (4, .int v15), (5, .int v9), (7, .int v14)] [.int v16] w12 := by
              intro v16 hf
              replace hf := hj94 v16 hf
              refine z_istore_n (lv' := [(2, .int v16), (0, .ref (zad G 56)), (1, .int a1), (3, .int v7), (4, .int v15), (5, .int v9), (7, .int v14)]) hC dX4_best_94 rfl (by decide) rfl ?_
              refine z_iload hC dX4_best_95 6 rfl ?_
              obtain ⟨j108, hj108, hf⟩ := zjn1_e hf
              have hJ108 : ∀ (v17 : Int32), j108 v17 = some (r, wz) → Z G p l e rm_X4_best s m args below meth c (MQ below (zQ G (some (.int r)) wz) args s 0 0 (zA G)) 8 108 [(0, .ref (zad G 56)), (1, .int a1), (2, .int v16), (4, .int v15), (5, .int v9)] [.int v17] w12 := by
                intro v17 hf
                replace hf := hj108 v17 hf
                refine z_istore_n (lv' := [(3, .int v17), (0, .ref (zad G 56)), (1, .int a1), (2, .int v16), (4, .int v15), (5, .int v9)]) hC dX4_best_108 rfl (by decide) rfl ?_
                obtain ⟨v18, ev18, hf⟩ := zlet_e hf
                refine z_iinc (v := v18) (lv' := [(5, .int v18), (3, .int v17), (0, .ref (zad G 56)), (1, .int a1), (2, .int v16), (4, .int v15)]) hC dX4_best_109 5 rfl (by rw [ev18]; rfl) (by decide) rfl ?_
                refine z_goto (tgt := 22) hC dX4_best_112 (by decide) ?_
                refine z_lv [2, 3, 4, 1, 5, 0] rfl ?_
                exact ih22 _ _ _ _ _ hf
              refine z_if_eq (tgt := 107) hC dX4_best_97 (by decide) (fun h19 => ?_) (fun h19 => ?_)
              · replace hf := zif_t h19 hf
                refine z_iload_n hC dX4_best_107 3 rfl rfl ?_
                refine z_lv [1, 2, 0, 4, 5] rfl ?_
                exact hJ108 _ hf
              replace hf := zif_f h19 hf
              refine z_aload_n hC dX4_best_100 1 rfl rfl ?_
              refine z_get4 hC 28 (by decide) zw_fl_X4_253 (v := .int (w12 56 28)) rfl dX4_best_101 ?_
              refine z_goto (tgt := 108) hC dX4_best_104 (by decide) ?_
              refine z_lv [1, 2, 0, 4, 5] rfl ?_
              exact hJ108 _ hf
            refine z_if_eq (tgt := 93) hC dX4_best_85 (by decide) (fun h20 => ?_) (fun h20 => ?_)
            · replace hf := zif_t h20 hf
              refine z_iload_n hC dX4_best_93 3 rfl rfl ?_
              refine z_lv [1, 2, 4, 0, 5, 7] rfl ?_
              exact hJ94 _ hf
            replace hf := zif_f h20 hf
            refine z_iload hC dX4_best_88 6 rfl ?_
            refine z_goto (tgt := 94) hC dX4_best_90 (by decide) ?_
            refine z_lv [1, 2, 4, 0, 5, 7] rfl ?_
            exact hJ94 _ hf
          refine z_if_eq (tgt := 79) hC dX4_best_71 (by decide) (fun h21 => ?_) (fun h21 => ?_)
          · replace hf := zif_t h21 hf
            refine z_iload hC dX4_best_79 5 rfl ?_
            refine z_lv [1, 2, 3, 4, 6, 7, 0] rfl ?_
            exact hJ81 _ hf
          replace hf := zif_f h21 hf
          refine z_iload hC dX4_best_74 6 rfl ?_
          refine z_goto (tgt := 81) hC dX4_best_76 (by decide) ?_
          refine z_lv [1, 2, 3, 4, 6, 7, 0] rfl ?_
          exact hJ81 _ hf
        obtain ⟨j62, hj62, hf⟩ := zjn0_e hf
        have hJ62 : j62 = some (r, wz) → Z G p l e rm_X4_best s m args below meth c (MQ below (zQ G (some (.int r)) wz) args s 0 0 (zA G)) 8 62 [(0, .ref (zad G 56)), (1, .int a1), (2, .int v6), (3, .int v7), (4, .int v8), (5, .int v9), (6, .int v13)] [] w12 := by
          intro hf
          replace hf := hj62  hf
          refine z_iconst hC dX4_best_62 (v := 1) rfl ?_
          refine z_goto (tgt := 67) hC dX4_best_63 (by decide) ?_
          exact hJ67 _ hf
        refine z_icmp_gt (tgt := 62) hC dX4_best_40 (by decide) (fun h22 => ?_) (fun h22 => ?_)
        · replace hf := zif_t h22 hf
          refine z_lv [1, 2, 3, 4, 5, 6, 0] rfl ?_
          exact hJ62 hf
        replace hf := zif_f h22 hf
        refine z_iload hC dX4_best_43 0 rfl ?_
        refine z_iload_n hC dX4_best_45 3 rfl rfl ?_
        obtain ⟨j66, hj66, hf⟩ := zjn0_e hf
        have hJ66 : j66 = some (r, wz) → Z G p l e rm_X4_best s m args below meth c (MQ below (zQ G (some (.int r)) wz) args s 0 0 (zA G)) 8 66 [(0, .ref (zad G 56)), (1, .int a1), (2, .int v6), (3, .int v7), (4, .int v8), (5, .int v9), (6, .int v13)] [] w12 := by
          intro hf
          replace hf := hj66  hf
          refine z_iconst hC dX4_best_66 (v := 0) rfl ?_
          exact hJ67 _ hf
        refine z_icmp_ne (tgt := 66) hC dX4_best_46 (by decide) (fun h23 => ?_) (fun h23 => ?_)
        · replace hf := zif_f h23 hf
          refine z_lv [1, 2, 3, 4, 5, 6, 0] rfl ?_
          exact hJ66 hf
        replace hf := zif_t h23 hf
        refine z_iload hC dX4_best_49 0 rfl ?_
        refine z_if_le (tgt := 66) hC dX4_best_51 (by decide) (fun h24 => ?_) (fun h24 => ?_)
        · replace hf := zif_t h24 hf
          refine z_lv [1, 2, 3, 4, 5, 6, 0] rfl ?_
          exact hJ66 hf
        replace hf := zif_f h24 hf
        refine z_aload_n hC dX4_best_54 1 rfl rfl ?_
        refine z_get4 hC 28 (by decide) zw_fl_X4_253 (v := .int (w12 56 28)) rfl dX4_best_55 ?_
        refine z_iload_n hC dX4_best_58 4 rfl rfl ?_
        refine z_icmp_ge (tgt := 66) hC dX4_best_59 (by decide) (fun h25 => ?_) (fun h25 => ?_)
        · replace hf := zif_t h25 hf
          refine z_lv [1, 2, 3, 4, 5, 6, 0] rfl ?_
          exact hJ66 hf
        replace hf := zif_f h25 hf
        refine z_lv [1, 2, 3, 4, 5, 6, 0] rfl ?_
        exact hJ62 hf
    refine z_lv [4, 5, 3, 2, 1, 0] rfl ?_
    exact hL22 _ _ _ _ _ _ hf
  replace hf := zif_t h1 hf
  refine z_iconst hC dX4_best_10 (v := -1) rfl ?_
  obtain ⟨rfl, rfl⟩ := zso2 hf
  exact z_iret hC dX4_best_11
theorem zy_X4_best : zYV yX4_best cX4_best 8 (some .int) RX4 1 := ⟨zw_cd_X4_best, zw_im_X4_best, zw_sel_X4_best, zw_ini_X4, by decide +kernel⟩
abbrev rm_X4_byteAt : Room := { frames := 0, cells := 0, slots := 0, locals := 0 }
def f_X4_byteAt (w : zW) (a1 : Int32) : Option Int32 :=
  if (w 56 18) ≤ a1 then
    some (-4 : Int32)
  else
  zg (zin a1 160) <|
  some (w 63 (zx a1))
set_option maxRecDepth 100000 in
set_option maxHeartbeats 4000000 in
theorem c_X4_byteAt (l : Launch) (G : zG) (w : zW) (a1 : Int32) {r : Int32} (hf : f_X4_byteAt w a1 = some r) : zMet l G yX4_byteAt cX4_byteAt 2 (some .int) rm_X4_byteAt [.ref (zad G 56), .int a1] w (some (.int r)) w := by
  refine z_start (own := RX4) (by decide) rfl (Nat.le_of_ble_eq_true rfl) (lv := [(0, .ref (zad G 56)), (1, .int a1)]) rfl ?_
  intro p e s m args below meth c hC
  unfold f_X4_byteAt at hf
  refine z_iload_n hC dX4_byteAt_0 1 rfl rfl ?_
  refine z_aload_n hC dX4_byteAt_1 0 rfl rfl ?_
  refine z_get4 hC 18 (by decide) zw_fl_X4_63 (v := .int (w 56 18)) rfl dX4_byteAt_2 ?_
  refine z_icmp_ge (tgt := 17) hC dX4_byteAt_5 (by decide) (fun h1 => ?_) (fun h1 => ?_)
  · replace hf := zif_t h1 hf
    refine z_bipush hC dX4_byteAt_17 (v := -4) rfl ?_
    obtain rfl := zso1 hf
    exact z_iret hC dX4_byteAt_19
  replace hf := zif_f h1 hf
  refine z_aload_n hC dX4_byteAt_8 0 rfl rfl ?_
  refine z_get4 hC 17 (by decide) zw_fl_X4_32 (v := .ref (zad G 63)) rfl dX4_byteAt_9 ?_
  refine z_iload_n hC dX4_byteAt_12 1 rfl rfl ?_
  obtain ⟨hg2, hf⟩ := zg_e hf
  refine z_iald hC za_63 hg2 rfl dX4_byteAt_13 ?_
  refine z_goto (tgt := 19) hC dX4_byteAt_14 (by decide) ?_
  obtain rfl := zso1 hf
  exact z_iret hC dX4_byteAt_19
theorem zy_X4_byteAt : zYV yX4_byteAt cX4_byteAt 2 (some .int) RX4 1 := ⟨zw_cd_X4_byteAt, zw_im_X4_byteAt, zw_sel_X4_byteAt, zw_ini_X4, by decide +kernel⟩
abbrev rm_X4_count : Room := { frames := 2, cells := 0, slots := 0, locals := 45 }
def b_X4_count_37 (w : zW) (j67 : Int32 → Option Int32) (k37 : Int32 → Int32 → Option Int32) (v15 : Int32) (v16 : Int32) : Option Int32 :=
  if (w 56 4) ≤ v16 then
    j67 v15
  else
  zg (zin ((14 : Int32) + v16) 120) <|
  zlet (v15 + ((1 : Int32) - (w 57 (zx ((14 : Int32) + v16))))) fun v19 =>
  zlet (v16 + (1 : Int32)) fun v20 =>
  k37 v19 v20
def b_X4_count_7 (w : zW) (j34 : Int32 → Option Int32) (k7 : Int32 → Int32 → Option Int32) (v21 : Int32) (v22 : Int32) : Option Int32 :=
  if (w 56 2) ≤ v22 then
    j34 v21
  else
  zg (zin ((4 : Int32) + v22) 120) <|
  zlet (v21 + (w 57 (zx ((4 : Int32) + v22)))) fun v25 =>
  zlet (v22 + (1 : Int32)) fun v26 =>
  k7 v25 v26
def f_X4_count (w : zW) (a1 : Int32) : Option Int32 :=
  zjn1 (fun (v1 : Int32) =>
    zjn1 (fun (v2 : Int32) =>
      if a1 = (0 : Int32) then
        some (w 56 30)
      else
      if a1 = (1 : Int32) then
        zjn1 (fun (v5 : Int32) =>
          if (w 67 1) = (0 : Int32) then
            some (v5 + (0 : Int32))
          else
          some (v5 + (1 : Int32)))
        (fun (j131 : Int32 → Option Int32) =>
        if (w 67 0) = (0 : Int32) then
          j131 (0 : Int32)
        else
        j131 (1 : Int32))
      else
      if a1 = (2 : Int32) then
        some (w 56 18)
      else
      if a1 = (3 : Int32) then
        if (w 68 0) = (-4 : Int32) then
          some (-4 : Int32)
        else
          some (w 69 0)
      else
      if a1 = (4 : Int32) then
        zbd (f_X4_upOn w (0 : Int32)) fun v12 =>
        some v12
      else
      if a1 = (5 : Int32) then
        some v1
      else
      if a1 = (6 : Int32) then
        some v2
      else
      some (-1 : Int32))
    (fun (j67 : Int32 → Option Int32) =>
    zfix2 (b_X4_count_37 w j67) 100000 (0 : Int32) (0 : Int32)))
  (fun (j34 : Int32 → Option Int32) =>
  zfix2 (b_X4_count_7 w j34) 100000 (0 : Int32) (0 : Int32))
set_option maxRecDepth 100000 in
set_option maxHeartbeats 4000000 in
theorem c_X4_count (l : Launch) (G : zG) (w : zW) (a1 : Int32) {r : Int32} (hf : f_X4_count w a1 = some r) : zMet l G yX4_count cX4_count 5 (some .int) rm_X4_count [.ref (zad G 56), .int a1] w (some (.int r)) w := by
  refine z_start (own := RX4) (by decide) rfl (Nat.le_of_ble_eq_true rfl) (lv := [(0, .ref (zad G 56)), (1, .int a1)]) rfl ?_
  intro p e s m args below meth c hC
  unfold f_X4_count at hf
  refine z_iconst hC dX4_count_0 (v := 0) rfl ?_
  refine z_istore_n (lv' := [(2, .int (0 : Int32)), (0, .ref (zad G 56)), (1, .int a1)]) hC dX4_count_1 rfl (by decide) rfl ?_
  refine z_iconst hC dX4_count_2 (v := 0) rfl ?_
  refine z_istore_n (lv' := [(3, .int (0 : Int32)), (2, .int (0 : Int32)), (0, .ref (zad G 56)), (1, .int a1)]) hC dX4_count_3 rfl (by decide) rfl ?_
  refine z_iconst hC dX4_count_4 (v := 0) rfl ?_
  refine z_istore (lv' := [(4, .int (0 : Int32)), (3, .int (0 : Int32)), (2, .int (0 : Int32)), (0, .ref (zad G 56)), (1, .int a1)]) hC dX4_count_5 (by decide) rfl ?_
  obtain ⟨j34, hj34, hf⟩ := zjn1_e hf
  have hJ34 : ∀ (v1 : Int32), j34 v1 = some r → Z G p l e rm_X4_count s m args below meth c (MQ below (zQ G (some (.int r)) w) args s 0 0 (zA G)) 5 34 [(0, .ref (zad G 56)), (1, .int a1), (2, .int v1), (3, .int (0 : Int32))] [] w := by
    intro v1 hf
    replace hf := hj34 v1 hf
    refine z_iconst hC dX4_count_34 (v := 0) rfl ?_
    refine z_istore (lv' := [(4, .int (0 : Int32)), (0, .ref (zad G 56)), (1, .int a1), (2, .int v1), (3, .int (0 : Int32))]) hC dX4_count_35 (by decide) rfl ?_
    obtain ⟨j67, hj67, hf⟩ := zjn1_e hf
    have hJ67 : ∀ (v2 : Int32), j67 v2 = some r → Z G p l e rm_X4_count s m args below meth c (MQ below (zQ G (some (.int r)) w) args s 0 0 (zA G)) 5 67 [(0, .ref (zad G 56)), (1, .int a1), (2, .int v1), (3, .int v2)] [] w := by
      intro v2 hf
      replace hf := hj67 v2 hf
      refine z_iload_n hC dX4_count_67 1 rfl rfl ?_
      by_cases h3 : a1 = (0 : Int32)
      · replace hf := zif_t h3 hf
        refine z_tabIn (tgt := 112) hC dX4_count_68 (by rw [h3]; decide) (by rw [h3]; decide) (by rw [h3]; rfl) (by decide) ?_
        refine z_aload_n hC dX4_count_112 0 rfl rfl ?_
        refine z_get4 hC 30 (by decide) zw_fl_X4_162 (v := .int (w 56 30)) rfl dX4_count_113 ?_
        obtain rfl := zso1 hf
        exact z_iret hC dX4_count_116
      replace hf := zif_f h3 hf
      by_cases h4 : a1 = (1 : Int32)
      · replace hf := zif_t h4 hf
        refine z_tabIn (tgt := 117) hC dX4_count_68 (by rw [h4]; decide) (by rw [h4]; decide) (by rw [h4]; rfl) (by decide) ?_
        refine z_aload_n hC dX4_count_117 0 rfl rfl ?_
        refine z_get4 hC 31 (by decide) zw_fl_X4_44 (v := .ref (zad G 67)) rfl dX4_count_118 ?_
        refine z_iconst hC dX4_count_121 (v := 0) rfl ?_
        refine z_zald hC za_67 (by decide) (j := 0) (by decide) dX4_count_122 ?_
        obtain ⟨j131, hj131, hf⟩ := zjn1_e hf
        have hJ131 : ∀ (v5 : Int32), j131 v5 = some r → Z G p l e rm_X4_count s m args below meth c (MQ below (zQ G (some (.int r)) w) args s 0 0 (zA G)) 5 131 [(0, .ref (zad G 56))] [.int v5] w := by
          intro v5 hf
          replace hf := hj131 v5 hf
          refine z_aload_n hC dX4_count_131 0 rfl rfl ?_
          refine z_get4 hC 31 (by decide) zw_fl_X4_44 (v := .ref (zad G 67)) rfl dX4_count_132 ?_
          refine z_iconst hC dX4_count_135 (v := 1) rfl ?_
          refine z_zald hC za_67 (by decide) (j := 1) (by decide) dX4_count_136 ?_
          refine z_if_eq (tgt := 144) hC dX4_count_137 (by decide) (fun h6 => ?_) (fun h6 => ?_)
          · replace hf := zif_t h6 hf
            refine z_iconst hC dX4_count_144 (v := 0) rfl ?_
            refine z_iadd hC dX4_count_145 ?_
            obtain rfl := zso1 hf
            exact z_iret hC dX4_count_146
          replace hf := zif_f h6 hf
          refine z_iconst hC dX4_count_140 (v := 1) rfl ?_
          refine z_goto (tgt := 145) hC dX4_count_141 (by decide) ?_
          refine z_iadd hC dX4_count_145 ?_
          obtain rfl := zso1 hf
          exact z_iret hC dX4_count_146
        refine z_if_eq (tgt := 130) hC dX4_count_123 (by decide) (fun h7 => ?_) (fun h7 => ?_)
        · replace hf := zif_t h7 hf
          refine z_iconst hC dX4_count_130 (v := 0) rfl ?_
          refine z_lv [0] rfl ?_
          exact hJ131 _ hf
        replace hf := zif_f h7 hf
        refine z_iconst hC dX4_count_126 (v := 1) rfl ?_
        refine z_goto (tgt := 131) hC dX4_count_127 (by decide) ?_
        refine z_lv [0] rfl ?_
        exact hJ131 _ hf
      replace hf := zif_f h4 hf
      by_cases h8 : a1 = (2 : Int32)
      · replace hf := zif_t h8 hf
        refine z_tabIn (tgt := 147) hC dX4_count_68 (by rw [h8]; decide) (by rw [h8]; decide) (by rw [h8]; rfl) (by decide) ?_
        refine z_aload_n hC dX4_count_147 0 rfl rfl ?_
        refine z_get4 hC 18 (by decide) zw_fl_X4_63 (v := .int (w 56 18)) rfl dX4_count_148 ?_
        obtain rfl := zso1 hf
        exact z_iret hC dX4_count_151
      replace hf := zif_f h8 hf
      by_cases h9 : a1 = (3 : Int32)
      · replace hf := zif_t h9 hf
        refine z_tabIn (tgt := 152) hC dX4_count_68 (by rw [h9]; decide) (by rw [h9]; decide) (by rw [h9]; rfl) (by decide) ?_
        refine z_aload_n hC dX4_count_152 0 rfl rfl ?_
        refine z_get4 hC 32 (by decide) zw_fl_X4_48 (v := .ref (zad G 68)) rfl dX4_count_153 ?_
        refine z_iconst hC dX4_count_156 (v := 0) rfl ?_
        refine z_iald hC za_68 (by decide) (j := 0) (by decide) dX4_count_157 ?_
        refine z_bipush hC dX4_count_158 (v := -4) rfl ?_
        refine z_icmp_ne (tgt := 168) hC dX4_count_160 (by decide) (fun h10 => ?_) (fun h10 => ?_)
        · replace hf := zif_f h10 hf
          refine z_aload_n hC dX4_count_168 0 rfl rfl ?_
          refine z_get4 hC 33 (by decide) zw_fl_X4_51 (v := .ref (zad G 69)) rfl dX4_count_169 ?_
          refine z_iconst hC dX4_count_172 (v := 0) rfl ?_
          refine z_iald hC za_69 (by decide) (j := 0) (by decide) dX4_count_173 ?_
          obtain rfl := zso1 hf
          exact z_iret hC dX4_count_174
        replace hf := zif_t h10 hf
        refine z_bipush hC dX4_count_163 (v := -4) rfl ?_
        refine z_goto (tgt := 174) hC dX4_count_165 (by decide) ?_
        obtain rfl := zso1 hf
        exact z_iret hC dX4_count_174
      replace hf := zif_f h9 hf
      by_cases h11 : a1 = (4 : Int32)
      · replace hf := zif_t h11 hf
        refine z_tabIn (tgt := 175) hC dX4_count_68 (by rw [h11]; decide) (by rw [h11]; decide) (by rw [h11]; rfl) (by decide) ?_
        refine z_aload_n hC dX4_count_175 0 rfl rfl ?_
        refine z_iconst hC dX4_count_176 (v := 0) rfl ?_
        obtain ⟨v12, ev12, hf⟩ := zbd_e hf
        refine z_cvi (As := [.int (0 : Int32)]) (rest := []) hC zo_mod rfl (c_X4_upOn l G w (0 : Int32) ev12) zw_ml_X4_218 zy_X4_upOn ⟨rfl, rfl, Nat.le_of_ble_eq_true rfl, Nat.le_of_ble_eq_true rfl⟩ rfl rfl (Nat.le_of_ble_eq_true rfl) dX4_count_177 ?_
        obtain rfl := zso1 hf
        exact z_iret hC dX4_count_180
      replace hf := zif_f h11 hf
      by_cases h13 : a1 = (5 : Int32)
      · replace hf := zif_t h13 hf
        refine z_tabIn (tgt := 181) hC dX4_count_68 (by rw [h13]; decide) (by rw [h13]; decide) (by rw [h13]; rfl) (by decide) ?_
        refine z_iload_n hC dX4_count_181 2 rfl rfl ?_
        obtain rfl := zso1 hf
        exact z_iret hC dX4_count_182
      replace hf := zif_f h13 hf
      by_cases h14 : a1 = (6 : Int32)
      · replace hf := zif_t h14 hf
        refine z_tabIn (tgt := 183) hC dX4_count_68 (by rw [h14]; decide) (by rw [h14]; decide) (by rw [h14]; rfl) (by decide) ?_
        refine z_iload_n hC dX4_count_183 3 rfl rfl ?_
        obtain rfl := zso1 hf
        exact z_iret hC dX4_count_184
      replace hf := zif_f h14 hf
      have nh3 := znt (k := 0) (by decide) h3
      have nh4 := znt (k := 1) (by decide) h4
      have nh8 := znt (k := 2) (by decide) h8
      have nh9 := znt (k := 3) (by decide) h9
      have nh11 := znt (k := 4) (by decide) h11
      have nh13 := znt (k := 5) (by decide) h13
      have nh14 := znt (k := 6) (by decide) h14
      refine z_tabOut (tgt := 185) hC dX4_count_68 (by omega) (by decide) ?_
      refine z_iconst hC dX4_count_185 (v := -1) rfl ?_
      obtain rfl := zso1 hf
      exact z_iret hC dX4_count_186
    have hL37 : ∀ (n : Nat) (v15 : Int32) (v16 : Int32), zfix2 (b_X4_count_37 w j67) n v15 v16 = some r → Z G p l e rm_X4_count s m args below meth c (MQ below (zQ G (some (.int r)) w) args s 0 0 (zA G)) 5 37 [(0, .ref (zad G 56)), (1, .int a1), (2, .int v1), (3, .int v15), (4, .int v16)] [] w := by
      intro n
      induction n with
      | zero => intro v15 v16 hf; exact (zfix2_0 hf).elim
      | succ n ih37 =>
        intro v15 v16 hf
        replace hf := zfix2_e hf
        unfold b_X4_count_37 at hf
        refine z_iload hC dX4_count_37 4 rfl ?_
        refine z_aload_n hC dX4_count_39 0 rfl rfl ?_
        refine z_get4 hC 4 (by decide) zw_fl_X4_153 (v := .int (w 56 4)) rfl dX4_count_40 ?_
        refine z_icmp_ge (tgt := 67) hC dX4_count_43 (by decide) (fun h17 => ?_) (fun h17 => ?_)
        · replace hf := zif_t h17 hf
          refine z_lv [0, 1, 2, 3] rfl ?_
          exact hJ67 _ hf
        replace hf := zif_f h17 hf
        refine z_iload_n hC dX4_count_46 3 rfl rfl ?_
        refine z_iconst hC dX4_count_47 (v := 1) rfl ?_
        refine z_aload_n hC dX4_count_48 0 rfl rfl ?_
        refine z_get4 hC 0 (by decide) zw_fl_X4_7 (v := .ref (zad G 57)) rfl dX4_count_49 ?_
        refine z_bipush hC dX4_count_52 (v := 14) rfl ?_
        refine z_iload hC dX4_count_54 4 rfl ?_
        refine z_iadd hC dX4_count_56 ?_
        obtain ⟨hg18, hf⟩ := zg_e hf
        refine z_iald hC za_57 hg18 rfl dX4_count_57 ?_
        refine z_isub hC dX4_count_58 ?_
        refine z_iadd hC dX4_count_59 ?_
        obtain ⟨v19, ev19, hf⟩ := zlet_e hf
        refine z_topi ev19 ?_
        refine z_istore_n (lv' := [(3, .int v19), (0, .ref (zad G 56)), (1, .int a1), (2, .int v1), (4, .int v16)]) hC dX4_count_60 rfl (by decide) rfl ?_
        obtain ⟨v20, ev20, hf⟩ := zlet_e hf
        refine z_iinc (v := v20) (lv' := [(4, .int v20), (3, .int v19), (0, .ref (zad G 56)), (1, .int a1), (2, .int v1)]) hC dX4_count_61 4 rfl (by rw [ev20]; rfl) (by decide) rfl ?_
        refine z_goto (tgt := 37) hC dX4_count_64 (by decide) ?_
        refine z_lv [2, 3, 4, 1, 0] rfl ?_
        exact ih37 _ _ hf
    refine z_lv [1, 2, 3, 4, 0] rfl ?_
    exact hL37 _ _ _ hf
  have hL7 : ∀ (n : Nat) (v21 : Int32) (v22 : Int32), zfix2 (b_X4_count_7 w j34) n v21 v22 = some r → Z G p l e rm_X4_count s m args below meth c (MQ below (zQ G (some (.int r)) w) args s 0 0 (zA G)) 5 7 [(0, .ref (zad G 56)), (1, .int a1), (2, .int v21), (3, .int (0 : Int32)), (4, .int v22)] [] w := by
    intro n
    induction n with
    | zero => intro v21 v22 hf; exact (zfix2_0 hf).elim
    | succ n ih7 =>
      intro v21 v22 hf
      replace hf := zfix2_e hf
      unfold b_X4_count_7 at hf
      refine z_iload hC dX4_count_7 4 rfl ?_
      refine z_aload_n hC dX4_count_9 0 rfl rfl ?_
      refine z_get4 hC 2 (by decide) zw_fl_X4_150 (v := .int (w 56 2)) rfl dX4_count_10 ?_
      refine z_icmp_ge (tgt := 34) hC dX4_count_13 (by decide) (fun h23 => ?_) (fun h23 => ?_)
      · replace hf := zif_t h23 hf
        refine z_lv [0, 1, 2, 3] rfl ?_
        exact hJ34 _ hf
      replace hf := zif_f h23 hf
      refine z_iload_n hC dX4_count_16 2 rfl rfl ?_
      refine z_aload_n hC dX4_count_17 0 rfl rfl ?_
      refine z_get4 hC 0 (by decide) zw_fl_X4_7 (v := .ref (zad G 57)) rfl dX4_count_18 ?_
      refine z_iconst hC dX4_count_21 (v := 4) rfl ?_
      refine z_iload hC dX4_count_22 4 rfl ?_
      refine z_iadd hC dX4_count_24 ?_
      obtain ⟨hg24, hf⟩ := zg_e hf
      refine z_iald hC za_57 hg24 rfl dX4_count_25 ?_
      refine z_iadd hC dX4_count_26 ?_
      obtain ⟨v25, ev25, hf⟩ := zlet_e hf
      refine z_topi ev25 ?_
      refine z_istore_n (lv' := [(2, .int v25), (0, .ref (zad G 56)), (1, .int a1), (3, .int (0 : Int32)), (4, .int v22)]) hC dX4_count_27 rfl (by decide) rfl ?_
      obtain ⟨v26, ev26, hf⟩ := zlet_e hf
      refine z_iinc (v := v26) (lv' := [(4, .int v26), (2, .int v25), (0, .ref (zad G 56)), (1, .int a1), (3, .int (0 : Int32))]) hC dX4_count_28 4 rfl (by rw [ev26]; rfl) (by decide) rfl ?_
      refine z_goto (tgt := 7) hC dX4_count_31 (by decide) ?_
      refine z_lv [2, 3, 1, 4, 0] rfl ?_
      exact ih7 _ _ hf
  refine z_lv [3, 4, 2, 1, 0] rfl ?_
  exact hL7 _ _ _ hf
theorem zy_X4_count : zYV yX4_count cX4_count 5 (some .int) RX4 1 := ⟨zw_cd_X4_count, zw_im_X4_count, zw_sel_X4_count, zw_ini_X4, by decide +kernel⟩
abbrev rm_X4_down : Room := { frames := 6, cells := 0, slots := 0, locals := 139 }
def b_X4_down_19 (a1 : Int32) (k19 : Int32 → zW → Option (Int32 × zW)) (v3 : Int32) (w4 : zW) : Option (Int32 × zW) :=
  if (96 : Int32) < v3 then
    some ((-4 : Int32), w4)
  else
  zbd (f_X4_isDown w4 (80 : Int32) a1) fun v6 =>
  if v6 = (0 : Int32) then
    zbd (f_X4_goesOn w4 (80 : Int32) (1 : Int32) (w4 57 11)) fun w8 =>
    zlet (v3 + (1 : Int32)) fun v9 =>
    k19 v9 w8
  else
  some (v3, w4)
def f_X4_down (w : zW) (a1 : Int32) : Option (Int32 × zW) :=
  if (f_X4_isOne w a1) = (0 : Int32) then
    some ((-1 : Int32), w)
  else
    zbd (f_X4_copies w (0 : Int32) (80 : Int32)) fun w2 =>
    zfix2 (b_X4_down_19 a1) 100000 (0 : Int32) w2
set_option maxRecDepth 100000 in
set_option maxHeartbeats 4000000 in
theorem c_X4_down (l : Launch) (G : zG) (w : zW) (a1 : Int32) {r : Int32} {wz : zW} (hf : f_X4_down w a1 = some (r, wz)) : zMet l G yX4_down cX4_down 3 (some .int) rm_X4_down [.ref (zad G 56), .int a1] w (some (.int r)) wz := by
  refine z_start (own := RX4) (by decide) rfl (Nat.le_of_ble_eq_true rfl) (lv := [(0, .ref (zad G 56)), (1, .int a1)]) rfl ?_
  intro p e s m args below meth c hC
  unfold f_X4_down at hf
  refine z_aload_n hC dX4_down_0 0 rfl rfl ?_
  refine z_iload_n hC dX4_down_1 1 rfl rfl ?_
  refine z_cvi (As := [.int a1]) (rest := []) hC zo_mod rfl (c_X4_isOne l G w a1) zw_ml_X4_177 zy_X4_isOne ⟨rfl, rfl, Nat.le_of_ble_eq_true rfl, Nat.le_of_ble_eq_true rfl⟩ rfl rfl (Nat.le_of_ble_eq_true rfl) dX4_down_2 ?_
  refine z_if_ne (tgt := 10) hC dX4_down_5 (by decide) (fun h1 => ?_) (fun h1 => ?_)
  · replace hf := zif_f h1 hf
    refine z_aload_n hC dX4_down_10 0 rfl rfl ?_
    refine z_iconst hC dX4_down_11 (v := 0) rfl ?_
    refine z_bipush hC dX4_down_12 (v := 80) rfl ?_
    obtain ⟨w2, ew2, hf⟩ := zbd_e hf
    refine z_cvv (As := [.int (0 : Int32), .int (80 : Int32)]) (rest := []) hC zo_mod rfl (c_X4_copies l G w (0 : Int32) (80 : Int32) ew2) zw_ml_X4_250 zy_X4_copies ⟨rfl, rfl, Nat.le_of_ble_eq_true rfl, Nat.le_of_ble_eq_true rfl⟩ rfl rfl (Nat.le_of_ble_eq_true rfl) dX4_down_14 ?_
    refine z_iconst hC dX4_down_17 (v := 0) rfl ?_
    refine z_istore_n (lv' := [(2, .int (0 : Int32)), (0, .ref (zad G 56)), (1, .int a1)]) hC dX4_down_18 rfl (by decide) rfl ?_
    have hL19 : ∀ (n : Nat) (v3 : Int32) (w4 : zW), zfix2 (b_X4_down_19 a1) n v3 w4 = some (r, wz) → Z G p l e rm_X4_down s m args below meth c (MQ below (zQ G (some (.int r)) wz) args s 0 0 (zA G)) 3 19 [(0, .ref (zad G 56)), (1, .int a1), (2, .int v3)] [] w4 := by
      intro n
      induction n with
      | zero => intro v3 w4 hf; exact (zfix2_0 hf).elim
      | succ n ih19 =>
        intro v3 w4 hf
        replace hf := zfix2_e hf
        unfold b_X4_down_19 at hf
        refine z_iload_n hC dX4_down_19 2 rfl rfl ?_
        refine z_bipush hC dX4_down_20 (v := 96) rfl ?_
        refine z_icmp_gt (tgt := 57) hC dX4_down_22 (by decide) (fun h5 => ?_) (fun h5 => ?_)
        · replace hf := zif_t h5 hf
          refine z_bipush hC dX4_down_57 (v := -4) rfl ?_
          obtain ⟨rfl, rfl⟩ := zso2 hf
          exact z_iret hC dX4_down_59
        replace hf := zif_f h5 hf
        refine z_aload_n hC dX4_down_25 0 rfl rfl ?_
        refine z_bipush hC dX4_down_26 (v := 80) rfl ?_
        refine z_iload_n hC dX4_down_28 1 rfl rfl ?_
        obtain ⟨v6, ev6, hf⟩ := zbd_e hf
        refine z_cvi (As := [.int (80 : Int32), .int a1]) (rest := []) hC zo_mod rfl (c_X4_isDown l G w4 (80 : Int32) a1 ev6) zw_ml_X4_167 zy_X4_isDown ⟨rfl, rfl, Nat.le_of_ble_eq_true rfl, Nat.le_of_ble_eq_true rfl⟩ rfl rfl (Nat.le_of_ble_eq_true rfl) dX4_down_29 ?_
        refine z_if_eq (tgt := 37) hC dX4_down_32 (by decide) (fun h7 => ?_) (fun h7 => ?_)
        · replace hf := zif_t h7 hf
          refine z_aload_n hC dX4_down_37 0 rfl rfl ?_
          refine z_bipush hC dX4_down_38 (v := 80) rfl ?_
          refine z_iconst hC dX4_down_40 (v := 1) rfl ?_
          refine z_aload_n hC dX4_down_41 0 rfl rfl ?_
          refine z_get4 hC 0 (by decide) zw_fl_X4_7 (v := .ref (zad G 57)) rfl dX4_down_42 ?_
          refine z_bipush hC dX4_down_45 (v := 11) rfl ?_
          refine z_iald hC za_57 (by decide) (j := 11) (by decide) dX4_down_47 ?_
          obtain ⟨w8, ew8, hf⟩ := zbd_e hf
          refine z_cvv (As := [.int (80 : Int32), .int (1 : Int32), .int (w4 57 11)]) (rest := []) hC zo_mod rfl (c_X4_goesOn l G w4 (80 : Int32) (1 : Int32) (w4 57 11) ew8) zw_ml_X4_244 zy_X4_goesOn ⟨rfl, rfl, Nat.le_of_ble_eq_true rfl, Nat.le_of_ble_eq_true rfl⟩ rfl rfl (Nat.le_of_ble_eq_true rfl) dX4_down_48 ?_
          obtain ⟨v9, ev9, hf⟩ := zlet_e hf
          refine z_iinc (v := v9) (lv' := [(2, .int v9), (0, .ref (zad G 56)), (1, .int a1)]) hC dX4_down_51 2 rfl (by rw [ev9]; rfl) (by decide) rfl ?_
          refine z_goto (tgt := 19) hC dX4_down_54 (by decide) ?_
          refine z_lv [1, 2, 0] rfl ?_
          exact ih19 _ _ hf
        replace hf := zif_f h7 hf
        refine z_iload_n hC dX4_down_35 2 rfl rfl ?_
        obtain ⟨rfl, rfl⟩ := zso2 hf
        exact z_iret hC dX4_down_36
    refine z_lv [1, 2, 0] rfl ?_
    exact hL19 _ _ _ hf
  replace hf := zif_t h1 hf
  refine z_iconst hC dX4_down_8 (v := -1) rfl ?_
  obtain ⟨rfl, rfl⟩ := zso2 hf
  exact z_iret hC dX4_down_9
theorem zy_X4_down : zYV yX4_down cX4_down 3 (some .int) RX4 1 := ⟨zw_cd_X4_down, zw_im_X4_down, zw_sel_X4_down, zw_ini_X4, by decide +kernel⟩
abbrev rm_X4_drift : Room := { frames := 5, cells := 0, slots := 0, locals := 115 }
def b_X4_drift_39 (a2 : Int32) (j88 : zW → Option (Int32 × zW)) (k39 : Int32 → Int32 → zW → Option (Int32 × zW)) (v8 : Int32) (v9 : Int32) (w10 : zW) : Option (Int32 × zW) :=
  if a2 ≤ v9 then
    j88 w10
  else
  zlet ((v8 * (1103515245 : Int32)) + (12345 : Int32)) fun v12 =>
  zjn1 (fun (v13 : Int32) =>
    zbd (f_X4_anHour w10 (80 : Int32) v13) fun w14 =>
    zlet (v9 + (1 : Int32)) fun v15 =>
    k39 v12 v15 w14)
  (fun (j79 : Int32 → Option (Int32 × zW)) =>
  if (zrem ((v12 >>> ((16 : Int32) &&& 31)) &&& (32767 : Int32)) (3 : Int32)) = (0 : Int32) then
    j79 (0 : Int32)
  else
  j79 (1 : Int32))
def f_X4_drift (w : zW) (a1 : Int32) (a2 : Int32) (a3 : Int32) : Option (Int32 × zW) :=
  if (f_X4_in (a2.toInt64) (1 : Int64) (60 : Int64)) = (0 : Int32) then
    some ((-1 : Int32), w)
  else
  if (f_X4_in (a3.toInt64) (0 : Int64) (2 : Int64)) = (0 : Int32) then
    some ((-1 : Int32), w)
  else
    zbd (f_X4_copies w (0 : Int32) (80 : Int32)) fun w3 =>
    zjn1 (fun (w4 : zW) =>
      if a3 = (0 : Int32) then
        some (w4 57 89, w4)
      else
        if a3 = (1 : Int32) then
          some (w4 57 88, w4)
        else
          zbd (f_X4_upOn w4 (80 : Int32)) fun v7 =>
          some (v7, w4))
    (fun (j88 : zW → Option (Int32 × zW)) =>
    zfix3 (b_X4_drift_39 a2 j88) 100000 a1 (0 : Int32) w3)
set_option maxRecDepth 100000 in
set_option maxHeartbeats 4000000 in
theorem c_X4_drift (l : Launch) (G : zG) (w : zW) (a1 : Int32) (a2 : Int32) (a3 : Int32) {r : Int32} {wz : zW} (hf : f_X4_drift w a1 a2 a3 = some (r, wz)) : zMet l G yX4_drift cX4_drift 6 (some .int) rm_X4_drift [.ref (zad G 56), .int a1, .int a2, .int a3] w (some (.int r)) wz := by
  refine z_start (own := RX4) (by decide) rfl (Nat.le_of_ble_eq_true rfl) (lv := [(0, .ref (zad G 56)), (1, .int a1), (2, .int a2), (3, .int a3)]) rfl ?_
  intro p e s m args below meth c hC
  unfold f_X4_drift at hf
  refine z_iload_n hC dX4_drift_0 2 rfl rfl ?_
  refine z_i2l hC dX4_drift_1 ?_
  refine z_lconst hC dX4_drift_2 (v := 1) rfl ?_
  refine z_ldc2 hC zw_cst_X4_209 dX4_drift_3 ?_
  refine z_csi (As := [.long (a2.toInt64), .long (1 : Int64), .long (60 : Int64)]) (rest := []) hC (c_X4_in l G w (a2.toInt64) (1 : Int64) (60 : Int64)) zw_ml_X4_59 zy_X4_in ⟨rfl, rfl, Nat.le_of_ble_eq_true rfl, Nat.le_of_ble_eq_true rfl⟩ rfl rfl (Nat.le_of_ble_eq_true rfl) dX4_drift_6 ?_
  refine z_if_eq (tgt := 24) hC dX4_drift_9 (by decide) (fun h1 => ?_) (fun h1 => ?_)
  · replace hf := zif_t h1 hf
    refine z_iconst hC dX4_drift_24 (v := -1) rfl ?_
    obtain ⟨rfl, rfl⟩ := zso2 hf
    exact z_iret hC dX4_drift_25
  replace hf := zif_f h1 hf
  refine z_iload_n hC dX4_drift_12 3 rfl rfl ?_
  refine z_i2l hC dX4_drift_13 ?_
  refine z_lconst hC dX4_drift_14 (v := 0) rfl ?_
  refine z_ldc2 hC zw_cst_X4_123 dX4_drift_15 ?_
  refine z_csi (As := [.long (a3.toInt64), .long (0 : Int64), .long (2 : Int64)]) (rest := []) hC (c_X4_in l G w (a3.toInt64) (0 : Int64) (2 : Int64)) zw_ml_X4_59 zy_X4_in ⟨rfl, rfl, Nat.le_of_ble_eq_true rfl, Nat.le_of_ble_eq_true rfl⟩ rfl rfl (Nat.le_of_ble_eq_true rfl) dX4_drift_18 ?_
  refine z_if_ne (tgt := 26) hC dX4_drift_21 (by decide) (fun h2 => ?_) (fun h2 => ?_)
  · replace hf := zif_f h2 hf
    refine z_aload_n hC dX4_drift_26 0 rfl rfl ?_
    refine z_iconst hC dX4_drift_27 (v := 0) rfl ?_
    refine z_bipush hC dX4_drift_28 (v := 80) rfl ?_
    obtain ⟨w3, ew3, hf⟩ := zbd_e hf
    refine z_cvv (As := [.int (0 : Int32), .int (80 : Int32)]) (rest := []) hC zo_mod rfl (c_X4_copies l G w (0 : Int32) (80 : Int32) ew3) zw_ml_X4_250 zy_X4_copies ⟨rfl, rfl, Nat.le_of_ble_eq_true rfl, Nat.le_of_ble_eq_true rfl⟩ rfl rfl (Nat.le_of_ble_eq_true rfl) dX4_drift_30 ?_
    refine z_iload_n hC dX4_drift_33 1 rfl rfl ?_
    refine z_istore (lv' := [(4, .int a1), (0, .ref (zad G 56)), (1, .int a1), (2, .int a2), (3, .int a3)]) hC dX4_drift_34 (by decide) rfl ?_
    refine z_iconst hC dX4_drift_36 (v := 0) rfl ?_
    refine z_istore (lv' := [(5, .int (0 : Int32)), (4, .int a1), (0, .ref (zad G 56)), (1, .int a1), (2, .int a2), (3, .int a3)]) hC dX4_drift_37 (by decide) rfl ?_
    obtain ⟨j88, hj88, hf⟩ := zjn1_e hf
    have hJ88 : ∀ (w4 : zW), j88 w4 = some (r, wz) → Z G p l e rm_X4_drift s m args below meth c (MQ below (zQ G (some (.int r)) wz) args s 0 0 (zA G)) 6 88 [(0, .ref (zad G 56)), (3, .int a3)] [] w4 := by
      intro w4 hf
      replace hf := hj88 w4 hf
      refine z_iload_n hC dX4_drift_88 1 rfl rfl ?_
      refine z_if_ne (tgt := 102) hC dX4_drift_89 (by decide) (fun h5 => ?_) (fun h5 => ?_)
      · replace hf := zif_f h5 hf
        refine z_iload_n hC dX4_drift_102 1 rfl rfl ?_
        refine z_iconst hC dX4_drift_103 (v := 1) rfl ?_
        refine z_icmp_ne (tgt := 117) hC dX4_drift_104 (by decide) (fun h6 => ?_) (fun h6 => ?_)
        · replace hf := zif_f h6 hf
          refine z_aload_n hC dX4_drift_117 0 rfl rfl ?_
          refine z_bipush hC dX4_drift_118 (v := 80) rfl ?_
          obtain ⟨v7, ev7, hf⟩ := zbd_e hf
          refine z_cvi (As := [.int (80 : Int32)]) (rest := []) hC zo_mod rfl (c_X4_upOn l G w4 (80 : Int32) ev7) zw_ml_X4_218 zy_X4_upOn ⟨rfl, rfl, Nat.le_of_ble_eq_true rfl, Nat.le_of_ble_eq_true rfl⟩ rfl rfl (Nat.le_of_ble_eq_true rfl) dX4_drift_120 ?_
          obtain ⟨rfl, rfl⟩ := zso2 hf
          exact z_iret hC dX4_drift_123
        replace hf := zif_t h6 hf
        refine z_aload_n hC dX4_drift_107 0 rfl rfl ?_
        refine z_get4 hC 0 (by decide) zw_fl_X4_7 (v := .ref (zad G 57)) rfl dX4_drift_108 ?_
        refine z_bipush hC dX4_drift_111 (v := 88) rfl ?_
        refine z_iald hC za_57 (by decide) (j := 88) (by decide) dX4_drift_113 ?_
        refine z_goto (tgt := 123) hC dX4_drift_114 (by decide) ?_
        obtain ⟨rfl, rfl⟩ := zso2 hf
        exact z_iret hC dX4_drift_123
      replace hf := zif_t h5 hf
      refine z_aload_n hC dX4_drift_92 0 rfl rfl ?_
      refine z_get4 hC 0 (by decide) zw_fl_X4_7 (v := .ref (zad G 57)) rfl dX4_drift_93 ?_
      refine z_bipush hC dX4_drift_96 (v := 89) rfl ?_
      refine z_iald hC za_57 (by decide) (j := 89) (by decide) dX4_drift_98 ?_
      refine z_goto (tgt := 123) hC dX4_drift_99 (by decide) ?_
      obtain ⟨rfl, rfl⟩ := zso2 hf
      exact z_iret hC dX4_drift_123
    have hL39 : ∀ (n : Nat) (v8 : Int32) (v9 : Int32) (w10 : zW), zfix3 (b_X4_drift_39 a2 j88) n v8 v9 w10 = some (r, wz) → Z G p l e rm_X4_drift s m args below meth c (MQ below (zQ G (some (.int r)) wz) args s 0 0 (zA G)) 6 39 [(0, .ref (zad G 56)), (2, .int a2), (3, .int a3), (4, .int v8), (5, .int v9)] [] w10 := by
      intro n
      induction n with
      | zero => intro v8 v9 w10 hf; exact (zfix3_0 hf).elim
      | succ n ih39 =>
        intro v8 v9 w10 hf
        replace hf := zfix3_e hf
        unfold b_X4_drift_39 at hf
        refine z_iload hC dX4_drift_39 4 rfl ?_
        refine z_iload_n hC dX4_drift_41 1 rfl rfl ?_
        refine z_icmp_ge (tgt := 88) hC dX4_drift_42 (by decide) (fun h11 => ?_) (fun h11 => ?_)
        · replace hf := zif_t h11 hf
          refine z_lv [0, 2] rfl ?_
          exact hJ88 _ hf
        replace hf := zif_f h11 hf
        refine z_iload hC dX4_drift_45 3 rfl ?_
        refine z_ldcw hC zw_cst_X4_284 dX4_drift_47 ?_
        refine z_imul hC dX4_drift_50 ?_
        refine z_sipush hC dX4_drift_51 (v := 12345) rfl ?_
        refine z_iadd hC dX4_drift_54 ?_
        obtain ⟨v12, ev12, hf⟩ := zlet_e hf
        refine z_topi ev12 ?_
        refine z_istore (lv' := [(4, .int v12), (0, .ref (zad G 56)), (2, .int a2), (3, .int a3), (5, .int v9)]) hC dX4_drift_55 (by decide) rfl ?_
        refine z_aload_n hC dX4_drift_57 1 rfl rfl ?_
        refine z_bipush hC dX4_drift_58 (v := 80) rfl ?_
        refine z_iload hC dX4_drift_60 0 rfl ?_
        refine z_bipush hC dX4_drift_62 (v := 16) rfl ?_
        refine z_ishr hC dX4_drift_64 ?_
        refine z_sipush hC dX4_drift_65 (v := 32767) rfl ?_
        refine z_iand hC dX4_drift_68 ?_
        refine z_iconst hC dX4_drift_69 (v := 3) rfl ?_
        refine z_irem hC dX4_drift_70 (by decide) ?_
        obtain ⟨j79, hj79, hf⟩ := zjn1_e hf
        have hJ79 : ∀ (v13 : Int32), j79 v13 = some (r, wz) → Z G p l e rm_X4_drift s m args below meth c (MQ below (zQ G (some (.int r)) wz) args s 0 0 (zA G)) 6 79 [(0, .ref (zad G 56)), (2, .int a2), (3, .int a3), (4, .int v12), (5, .int v9)] [.int v13, .int (80 : Int32), .ref (zad G 56)] w10 := by
          intro v13 hf
          replace hf := hj79 v13 hf
          obtain ⟨w14, ew14, hf⟩ := zbd_e hf
          refine z_cvv (As := [.int (80 : Int32), .int v13]) (rest := []) hC zo_mod rfl (c_X4_anHour l G w10 (80 : Int32) v13 ew14) zw_ml_X4_240 zy_X4_anHour ⟨rfl, rfl, Nat.le_of_ble_eq_true rfl, Nat.le_of_ble_eq_true rfl⟩ rfl rfl (Nat.le_of_ble_eq_true rfl) dX4_drift_79 ?_
          obtain ⟨v15, ev15, hf⟩ := zlet_e hf
          refine z_iinc (v := v15) (lv' := [(5, .int v15), (0, .ref (zad G 56)), (2, .int a2), (3, .int a3), (4, .int v12)]) hC dX4_drift_82 4 rfl (by rw [ev15]; rfl) (by decide) rfl ?_
          refine z_goto (tgt := 39) hC dX4_drift_85 (by decide) ?_
          refine z_lv [1, 2, 3, 4, 0] rfl ?_
          exact ih39 _ _ _ hf
        refine z_if_eq (tgt := 78) hC dX4_drift_71 (by decide) (fun h16 => ?_) (fun h16 => ?_)
        · replace hf := zif_t h16 hf
          refine z_iconst hC dX4_drift_78 (v := 0) rfl ?_
          refine z_lv [1, 2, 3, 0, 4] rfl ?_
          exact hJ79 _ hf
        replace hf := zif_f h16 hf
        refine z_iconst hC dX4_drift_74 (v := 1) rfl ?_
        refine z_goto (tgt := 79) hC dX4_drift_75 (by decide) ?_
        refine z_lv [1, 2, 3, 0, 4] rfl ?_
        exact hJ79 _ hf
    refine z_lv [2, 4, 5, 1, 0] rfl ?_
    exact hL39 _ _ _ _ hf
  replace hf := zif_t h2 hf
  refine z_iconst hC dX4_drift_24 (v := -1) rfl ?_
  obtain ⟨rfl, rfl⟩ := zso2 hf
  exact z_iret hC dX4_drift_25
theorem zy_X4_drift : zYV yX4_drift cX4_drift 6 (some .int) RX4 3 := ⟨zw_cd_X4_drift, zw_im_X4_drift, zw_sel_X4_drift, zw_ini_X4, by decide +kernel⟩
abbrev rm_X4_drinks : Room := { frames := 2, cells := 0, slots := 0, locals := 46 }
def f_X4_drinks (w : zW) (a1 : Int32) (a2 : Int32) : Option (Int32 × zW) :=
  if (f_X4_isOne w a1) = (0 : Int32) then
    some ((-1 : Int32), w)
  else
  if (f_X4_in (a2.toInt64) (0 : Int64) (20 : Int64)) = (0 : Int32) then
    some ((-1 : Int32), w)
  else
    zbd (f_X4_isDown w (0 : Int32) a1) fun v3 =>
    if v3 = (0 : Int32) then
      if a2 ≤ (w 57 8) then
        zg (zin ((4 : Int32) + a1) 120) <|
        if ((w 57 (zx ((4 : Int32) + a1))) + a2) ≤ (20 : Int32) then
          zlet (zup w 57 8 ((w 57 8) - a2)) fun w8 =>
          zg (zin ((4 : Int32) + a1) 120) <|
          zg (zin ((4 : Int32) + a1) 120) <|
          zlet (zup w8 57 (zx ((4 : Int32) + a1)) ((w8 57 (zx ((4 : Int32) + a1))) + a2)) fun w11 =>
          zg (zin ((4 : Int32) + a1) 120) <|
          some (w11 57 (zx ((4 : Int32) + a1)), w11)
        else
        some ((-3 : Int32), w)
      else
      some ((-2 : Int32), w)
    else
      some ((-2 : Int32), w)
set_option maxRecDepth 100000 in
set_option maxHeartbeats 4000000 in
theorem c_X4_drinks (l : Launch) (G : zG) (w : zW) (a1 : Int32) (a2 : Int32) {r : Int32} {wz : zW} (hf : f_X4_drinks w a1 a2 = some (r, wz)) : zMet l G yX4_drinks cX4_drinks 3 (some .int) rm_X4_drinks [.ref (zad G 56), .int a1, .int a2] w (some (.int r)) wz := by
  refine z_start (own := RX4) (by decide) rfl (Nat.le_of_ble_eq_true rfl) (lv := [(0, .ref (zad G 56)), (1, .int a1), (2, .int a2)]) rfl ?_
  intro p e s m args below meth c hC
  unfold f_X4_drinks at hf
  refine z_aload_n hC dX4_drinks_0 0 rfl rfl ?_
  refine z_iload_n hC dX4_drinks_1 1 rfl rfl ?_
  refine z_cvi (As := [.int a1]) (rest := []) hC zo_mod rfl (c_X4_isOne l G w a1) zw_ml_X4_177 zy_X4_isOne ⟨rfl, rfl, Nat.le_of_ble_eq_true rfl, Nat.le_of_ble_eq_true rfl⟩ rfl rfl (Nat.le_of_ble_eq_true rfl) dX4_drinks_2 ?_
  refine z_if_eq (tgt := 20) hC dX4_drinks_5 (by decide) (fun h1 => ?_) (fun h1 => ?_)
  · replace hf := zif_t h1 hf
    refine z_iconst hC dX4_drinks_20 (v := -1) rfl ?_
    obtain ⟨rfl, rfl⟩ := zso2 hf
    exact z_iret hC dX4_drinks_21
  replace hf := zif_f h1 hf
  refine z_iload_n hC dX4_drinks_8 2 rfl rfl ?_
  refine z_i2l hC dX4_drinks_9 ?_
  refine z_lconst hC dX4_drinks_10 (v := 0) rfl ?_
  refine z_ldc2 hC zw_cst_X4_204 dX4_drinks_11 ?_
  refine z_csi (As := [.long (a2.toInt64), .long (0 : Int64), .long (20 : Int64)]) (rest := []) hC (c_X4_in l G w (a2.toInt64) (0 : Int64) (20 : Int64)) zw_ml_X4_59 zy_X4_in ⟨rfl, rfl, Nat.le_of_ble_eq_true rfl, Nat.le_of_ble_eq_true rfl⟩ rfl rfl (Nat.le_of_ble_eq_true rfl) dX4_drinks_14 ?_
  refine z_if_ne (tgt := 22) hC dX4_drinks_17 (by decide) (fun h2 => ?_) (fun h2 => ?_)
  · replace hf := zif_f h2 hf
    refine z_aload_n hC dX4_drinks_22 0 rfl rfl ?_
    refine z_iconst hC dX4_drinks_23 (v := 0) rfl ?_
    refine z_iload_n hC dX4_drinks_24 1 rfl rfl ?_
    obtain ⟨v3, ev3, hf⟩ := zbd_e hf
    refine z_cvi (As := [.int (0 : Int32), .int a1]) (rest := []) hC zo_mod rfl (c_X4_isDown l G w (0 : Int32) a1 ev3) zw_ml_X4_167 zy_X4_isDown ⟨rfl, rfl, Nat.le_of_ble_eq_true rfl, Nat.le_of_ble_eq_true rfl⟩ rfl rfl (Nat.le_of_ble_eq_true rfl) dX4_drinks_25 ?_
    refine z_if_ne (tgt := 42) hC dX4_drinks_28 (by decide) (fun h4 => ?_) (fun h4 => ?_)
    · replace hf := zif_f h4 hf
      refine z_bipush hC dX4_drinks_42 (v := -2) rfl ?_
      obtain ⟨rfl, rfl⟩ := zso2 hf
      exact z_iret hC dX4_drinks_44
    replace hf := zif_t h4 hf
    refine z_aload_n hC dX4_drinks_31 0 rfl rfl ?_
    refine z_get4 hC 0 (by decide) zw_fl_X4_7 (v := .ref (zad G 57)) rfl dX4_drinks_32 ?_
    refine z_bipush hC dX4_drinks_35 (v := 8) rfl ?_
    refine z_iald hC za_57 (by decide) (j := 8) (by decide) dX4_drinks_37 ?_
    refine z_iload_n hC dX4_drinks_38 2 rfl rfl ?_
    refine z_icmp_ge (tgt := 45) hC dX4_drinks_39 (by decide) (fun h5 => ?_) (fun h5 => ?_)
    · replace hf := zif_t h5 hf
      refine z_aload_n hC dX4_drinks_45 0 rfl rfl ?_
      refine z_get4 hC 0 (by decide) zw_fl_X4_7 (v := .ref (zad G 57)) rfl dX4_drinks_46 ?_
      refine z_iconst hC dX4_drinks_49 (v := 4) rfl ?_
      refine z_iload_n hC dX4_drinks_50 1 rfl rfl ?_
      refine z_iadd hC dX4_drinks_51 ?_
      obtain ⟨hg6, hf⟩ := zg_e hf
      refine z_iald hC za_57 hg6 rfl dX4_drinks_52 ?_
      refine z_iload_n hC dX4_drinks_53 2 rfl rfl ?_
      refine z_iadd hC dX4_drinks_54 ?_
      refine z_bipush hC dX4_drinks_55 (v := 20) rfl ?_
      refine z_icmp_le (tgt := 63) hC dX4_drinks_57 (by decide) (fun h7 => ?_) (fun h7 => ?_)
      · replace hf := zif_t h7 hf
        refine z_aload_n hC dX4_drinks_63 0 rfl rfl ?_
        refine z_get4 hC 0 (by decide) zw_fl_X4_7 (v := .ref (zad G 57)) rfl dX4_drinks_64 ?_
        refine z_bipush hC dX4_drinks_67 (v := 8) rfl ?_
        refine z_dup2 hC dX4_drinks_69 rfl rfl ?_
        refine z_iald hC za_57 (by decide) (j := 8) (by decide) dX4_drinks_70 ?_
        refine z_iload_n hC dX4_drinks_71 2 rfl rfl ?_
        refine z_isub hC dX4_drinks_72 ?_
        obtain ⟨w8, ew8, hf⟩ := zlet_e hf
        refine z_iast hC za_57 (by decide) (j := 8) (by decide) ew8 dX4_drinks_73 ?_
        refine z_aload_n hC dX4_drinks_74 0 rfl rfl ?_
        refine z_get4 hC 0 (by decide) zw_fl_X4_7 (v := .ref (zad G 57)) rfl dX4_drinks_75 ?_
        refine z_iconst hC dX4_drinks_78 (v := 4) rfl ?_
        refine z_iload_n hC dX4_drinks_79 1 rfl rfl ?_
        refine z_iadd hC dX4_drinks_80 ?_
        refine z_dup2 hC dX4_drinks_81 rfl rfl ?_
        obtain ⟨hg9, hf⟩ := zg_e hf
        refine z_iald hC za_57 hg9 rfl dX4_drinks_82 ?_
        refine z_iload_n hC dX4_drinks_83 2 rfl rfl ?_
        refine z_iadd hC dX4_drinks_84 ?_
        obtain ⟨hg10, hf⟩ := zg_e hf
        obtain ⟨w11, ew11, hf⟩ := zlet_e hf
        refine z_iast hC za_57 hg10 rfl ew11 dX4_drinks_85 ?_
        refine z_aload_n hC dX4_drinks_86 0 rfl rfl ?_
        refine z_get4 hC 0 (by decide) zw_fl_X4_7 (v := .ref (zad G 57)) rfl dX4_drinks_87 ?_
        refine z_iconst hC dX4_drinks_90 (v := 4) rfl ?_
        refine z_iload_n hC dX4_drinks_91 1 rfl rfl ?_
        refine z_iadd hC dX4_drinks_92 ?_
        obtain ⟨hg12, hf⟩ := zg_e hf
        refine z_iald hC za_57 hg12 rfl dX4_drinks_93 ?_
        obtain ⟨rfl, rfl⟩ := zso2 hf
        exact z_iret hC dX4_drinks_94
      replace hf := zif_f h7 hf
      refine z_bipush hC dX4_drinks_60 (v := -3) rfl ?_
      obtain ⟨rfl, rfl⟩ := zso2 hf
      exact z_iret hC dX4_drinks_62
    replace hf := zif_f h5 hf
    refine z_bipush hC dX4_drinks_42 (v := -2) rfl ?_
    obtain ⟨rfl, rfl⟩ := zso2 hf
    exact z_iret hC dX4_drinks_44
  replace hf := zif_t h2 hf
  refine z_iconst hC dX4_drinks_20 (v := -1) rfl ?_
  obtain ⟨rfl, rfl⟩ := zso2 hf
  exact z_iret hC dX4_drinks_21
theorem zy_X4_drinks : zYV yX4_drinks cX4_drinks 3 (some .int) RX4 2 := ⟨zw_cd_X4_drinks, zw_im_X4_drinks, zw_sel_X4_drinks, zw_ini_X4, by decide +kernel⟩
abbrev rm_X4_drink : Room := { frames := 3, cells := 0, slots := 0, locals := 68 }
def f_X4_drink (w : zW) (a1 : Int32) (a2 : Int32) : Option (Int32 × zW) :=
  zbd2 (f_X4_drinks w a1 a2) fun v2 w1 =>
  some (v2, w1)
set_option maxRecDepth 100000 in
set_option maxHeartbeats 4000000 in
theorem c_X4_drink (l : Launch) (G : zG) (w : zW) (a1 : Int32) (a2 : Int32) {r : Int32} {wz : zW} (hf : f_X4_drink w a1 a2 = some (r, wz)) : zMet l G yX4_drink cX4_drink 3 (some .int) rm_X4_drink [.ref (zad G 56), .int a1, .int a2] w (some (.int r)) wz := by
  refine z_start (own := RX4) (by decide) rfl (Nat.le_of_ble_eq_true rfl) (lv := [(0, .ref (zad G 56)), (1, .int a1), (2, .int a2)]) rfl ?_
  intro p e s m args below meth c hC
  unfold f_X4_drink at hf
  refine z_aload_n hC dX4_drink_0 0 rfl rfl ?_
  refine z_iload_n hC dX4_drink_1 1 rfl rfl ?_
  refine z_iload_n hC dX4_drink_2 2 rfl rfl ?_
  obtain ⟨v2, w1, ew1, hf⟩ := zbd2_e hf
  refine z_cvi (As := [.int a1, .int a2]) (rest := []) hC zo_mod rfl (c_X4_drinks l G w a1 a2 ew1) zw_ml_X4_206 zy_X4_drinks ⟨rfl, rfl, Nat.le_of_ble_eq_true rfl, Nat.le_of_ble_eq_true rfl⟩ rfl rfl (Nat.le_of_ble_eq_true rfl) dX4_drink_3 ?_
  obtain ⟨rfl, rfl⟩ := zso2 hf
  exact z_iret hC dX4_drink_6
theorem zy_X4_drink : zYV yX4_drink cX4_drink 3 (some .int) RX4 2 := ⟨zw_cd_X4_drink, zw_im_X4_drink, zw_sel_X4_drink, zw_ini_X4, by decide +kernel⟩
abbrev rm_X4_end : Room := { frames := 1, cells := 0, slots := 0, locals := 25 }
def f_X4_end (w : zW) (a1 : Int32) : Option (Int32 × zW) :=
  if (f_X4_in (a1.toInt64) (0 : Int64) ((w 56 18).toInt64)) = (0 : Int32) then
    some ((-1 : Int32), w)
  else
    zlet (w 56 18) fun v2 =>
    zlet (zup w 56 18 a1) fun w3 =>
    some (v2, w3)
set_option maxRecDepth 100000 in
set_option maxHeartbeats 4000000 in
theorem c_X4_end (l : Launch) (G : zG) (w : zW) (a1 : Int32) {r : Int32} {wz : zW} (hf : f_X4_end w a1 = some (r, wz)) : zMet l G yX4_end cX4_end 3 (some .int) rm_X4_end [.ref (zad G 56), .int a1] w (some (.int r)) wz := by
  refine z_start (own := RX4) (by decide) rfl (Nat.le_of_ble_eq_true rfl) (lv := [(0, .ref (zad G 56)), (1, .int a1)]) rfl ?_
  intro p e s m args below meth c hC
  unfold f_X4_end at hf
  refine z_iload_n hC dX4_end_0 1 rfl rfl ?_
  refine z_i2l hC dX4_end_1 ?_
  refine z_lconst hC dX4_end_2 (v := 0) rfl ?_
  refine z_aload_n hC dX4_end_3 0 rfl rfl ?_
  refine z_get4 hC 18 (by decide) zw_fl_X4_63 (v := .int (w 56 18)) rfl dX4_end_4 ?_
  refine z_i2l hC dX4_end_7 ?_
  refine z_csi (As := [.long (a1.toInt64), .long (0 : Int64), .long ((w 56 18).toInt64)]) (rest := []) hC (c_X4_in l G w (a1.toInt64) (0 : Int64) ((w 56 18).toInt64)) zw_ml_X4_59 zy_X4_in ⟨rfl, rfl, Nat.le_of_ble_eq_true rfl, Nat.le_of_ble_eq_true rfl⟩ rfl rfl (Nat.le_of_ble_eq_true rfl) dX4_end_8 ?_
  refine z_if_ne (tgt := 16) hC dX4_end_11 (by decide) (fun h1 => ?_) (fun h1 => ?_)
  · replace hf := zif_f h1 hf
    refine z_aload_n hC dX4_end_16 0 rfl rfl ?_
    refine z_get4 hC 18 (by decide) zw_fl_X4_63 (v := .int (w 56 18)) rfl dX4_end_17 ?_
    obtain ⟨v2, ev2, hf⟩ := zlet_e hf
    refine z_topi ev2 ?_
    refine z_istore_n (lv' := [(2, .int v2), (0, .ref (zad G 56)), (1, .int a1)]) hC dX4_end_20 rfl (by decide) rfl ?_
    refine z_aload_n hC dX4_end_21 1 rfl rfl ?_
    refine z_iload_n hC dX4_end_22 2 rfl rfl ?_
    obtain ⟨w3, ew3, hf⟩ := zlet_e hf
    refine z_put4 hC 18 (by decide) rfl rfl zw_fl_X4_63 rfl ew3 dX4_end_23 ?_
    refine z_iload_n hC dX4_end_26 0 rfl rfl ?_
    obtain ⟨rfl, rfl⟩ := zso2 hf
    exact z_iret hC dX4_end_27
  replace hf := zif_t h1 hf
  refine z_iconst hC dX4_end_14 (v := -1) rfl ?_
  obtain ⟨rfl, rfl⟩ := zso2 hf
  exact z_iret hC dX4_end_15
theorem zy_X4_end : zYV yX4_end cX4_end 3 (some .int) RX4 1 := ⟨zw_cd_X4_end, zw_im_X4_end, zw_sel_X4_end, zw_ini_X4, by decide +kernel⟩
abbrev rm_X4_fails : Room := { frames := 0, cells := 0, slots := 0, locals := 0 }
def f_X4_fails (w : zW) (a1 : Int32) : Option zW :=
  if (w 56 20) = (0 : Int32) then
    zlet (zup w 56 20 a1) fun w2 =>
    zlet (zup w2 56 21 (w2 56 23)) fun w3 =>
    some w3
  else
    some w
set_option maxRecDepth 100000 in
set_option maxHeartbeats 4000000 in
theorem c_X4_fails (l : Launch) (G : zG) (w : zW) (a1 : Int32) {wz : zW} (hf : f_X4_fails w a1 = some wz) : zMet l G yX4_fails cX4_fails 2 none rm_X4_fails [.ref (zad G 56), .int a1] w none wz := by
  refine z_start (own := RX4) (by decide) rfl (Nat.le_of_ble_eq_true rfl) (lv := [(0, .ref (zad G 56)), (1, .int a1)]) rfl ?_
  intro p e s m args below meth c hC
  unfold f_X4_fails at hf
  refine z_aload_n hC dX4_fails_0 0 rfl rfl ?_
  refine z_get4 hC 20 (by decide) zw_fl_X4_66 (v := .int (w 56 20)) rfl dX4_fails_1 ?_
  refine z_if_ne (tgt := 20) hC dX4_fails_4 (by decide) (fun h1 => ?_) (fun h1 => ?_)
  · replace hf := zif_f h1 hf
    obtain rfl := zso1 hf
    exact z_vret hC dX4_fails_20
  replace hf := zif_t h1 hf
  refine z_aload_n hC dX4_fails_7 0 rfl rfl ?_
  refine z_iload_n hC dX4_fails_8 1 rfl rfl ?_
  obtain ⟨w2, ew2, hf⟩ := zlet_e hf
  refine z_put4 hC 20 (by decide) rfl rfl zw_fl_X4_66 rfl ew2 dX4_fails_9 ?_
  refine z_aload_n hC dX4_fails_12 0 rfl rfl ?_
  refine z_aload_n hC dX4_fails_13 0 rfl rfl ?_
  refine z_get4 hC 23 (by decide) zw_fl_X4_69 (v := .int (w2 56 23)) rfl dX4_fails_14 ?_
  obtain ⟨w3, ew3, hf⟩ := zlet_e hf
  refine z_put4 hC 21 (by decide) rfl rfl zw_fl_X4_72 rfl ew3 dX4_fails_17 ?_
  obtain rfl := zso1 hf
  exact z_vret hC dX4_fails_20
theorem zy_X4_fails : zYV yX4_fails cX4_fails 2 none RX4 1 := ⟨zw_cd_X4_fails, zw_im_X4_fails, zw_sel_X4_fails, zw_ini_X4, by decide +kernel⟩
abbrev rm_X4_fault : Room := { frames := 0, cells := 0, slots := 0, locals := 0 }
def f_X4_fault (w : zW) : Int32 :=
  w 56 19
set_option maxRecDepth 100000 in
set_option maxHeartbeats 4000000 in
theorem c_X4_fault (l : Launch) (G : zG) (w : zW) : zMet l G yX4_fault cX4_fault 1 (some .int) rm_X4_fault [.ref (zad G 56)] w (some (.int (f_X4_fault w))) w := by
  generalize hf : f_X4_fault w = r
  refine z_start (own := RX4) (by decide) rfl (Nat.le_of_ble_eq_true rfl) (lv := [(0, .ref (zad G 56))]) rfl ?_
  intro p e s m args below meth c hC
  unfold f_X4_fault at hf
  refine z_aload_n hC dX4_fault_0 0 rfl rfl ?_
  refine z_get4 hC 19 (by decide) zw_fl_X4_147 (v := .int (w 56 19)) rfl dX4_fault_1 ?_
  subst hf
  exact z_iret hC dX4_fault_4
theorem zy_X4_fault : zYV yX4_fault cX4_fault 1 (some .int) RX4 0 := ⟨zw_cd_X4_fault, zw_im_X4_fault, zw_sel_X4_fault, zw_ini_X4, by decide +kernel⟩
abbrev rm_X4_feed : Room := { frames := 1, cells := 0, slots := 0, locals := 25 }
def f_X4_feed (w : zW) (a1 : Int32) : Option (Int32 × zW) :=
  if (f_X4_in (a1.toInt64) (0 : Int64) (127 : Int64)) = (0 : Int32) then
    some ((-1 : Int32), w)
  else
    if (w 56 18) = (160 : Int32) then
      some ((-3 : Int32), w)
    else
      zg (zin (w 56 18) 160) <|
      zlet (zup w 63 (zx (w 56 18)) a1) fun w4 =>
      zlet (zup w4 56 18 ((w4 56 18) + (1 : Int32))) fun w5 =>
      some (w5 56 18, w5)
set_option maxRecDepth 100000 in
set_option maxHeartbeats 4000000 in
theorem c_X4_feed (l : Launch) (G : zG) (w : zW) (a1 : Int32) {r : Int32} {wz : zW} (hf : f_X4_feed w a1 = some (r, wz)) : zMet l G yX4_feed cX4_feed 2 (some .int) rm_X4_feed [.ref (zad G 56), .int a1] w (some (.int r)) wz := by
  refine z_start (own := RX4) (by decide) rfl (Nat.le_of_ble_eq_true rfl) (lv := [(0, .ref (zad G 56)), (1, .int a1)]) rfl ?_
  intro p e s m args below meth c hC
  unfold f_X4_feed at hf
  refine z_iload_n hC dX4_feed_0 1 rfl rfl ?_
  refine z_i2l hC dX4_feed_1 ?_
  refine z_lconst hC dX4_feed_2 (v := 0) rfl ?_
  refine z_ldc2 hC zw_cst_X4_57 dX4_feed_3 ?_
  refine z_csi (As := [.long (a1.toInt64), .long (0 : Int64), .long (127 : Int64)]) (rest := []) hC (c_X4_in l G w (a1.toInt64) (0 : Int64) (127 : Int64)) zw_ml_X4_59 zy_X4_in ⟨rfl, rfl, Nat.le_of_ble_eq_true rfl, Nat.le_of_ble_eq_true rfl⟩ rfl rfl (Nat.le_of_ble_eq_true rfl) dX4_feed_6 ?_
  refine z_if_ne (tgt := 14) hC dX4_feed_9 (by decide) (fun h1 => ?_) (fun h1 => ?_)
  · replace hf := zif_f h1 hf
    refine z_aload_n hC dX4_feed_14 0 rfl rfl ?_
    refine z_get4 hC 18 (by decide) zw_fl_X4_63 (v := .int (w 56 18)) rfl dX4_feed_15 ?_
    refine z_sipush hC dX4_feed_18 (v := 160) rfl ?_
    refine z_icmp_ne (tgt := 27) hC dX4_feed_21 (by decide) (fun h2 => ?_) (fun h2 => ?_)
    · replace hf := zif_f h2 hf
      refine z_aload_n hC dX4_feed_27 0 rfl rfl ?_
      refine z_get4 hC 17 (by decide) zw_fl_X4_32 (v := .ref (zad G 63)) rfl dX4_feed_28 ?_
      refine z_aload_n hC dX4_feed_31 0 rfl rfl ?_
      refine z_get4 hC 18 (by decide) zw_fl_X4_63 (v := .int (w 56 18)) rfl dX4_feed_32 ?_
      refine z_iload_n hC dX4_feed_35 1 rfl rfl ?_
      obtain ⟨hg3, hf⟩ := zg_e hf
      obtain ⟨w4, ew4, hf⟩ := zlet_e hf
      refine z_iast hC za_63 hg3 rfl ew4 dX4_feed_36 ?_
      refine z_aload_n hC dX4_feed_37 0 rfl rfl ?_
      refine z_dup hC dX4_feed_38 rfl ?_
      refine z_get4 hC 18 (by decide) zw_fl_X4_63 (v := .int (w4 56 18)) rfl dX4_feed_39 ?_
      refine z_iconst hC dX4_feed_42 (v := 1) rfl ?_
      refine z_iadd hC dX4_feed_43 ?_
      obtain ⟨w5, ew5, hf⟩ := zlet_e hf
      refine z_put4 hC 18 (by decide) rfl rfl zw_fl_X4_63 rfl ew5 dX4_feed_44 ?_
      refine z_aload_n hC dX4_feed_47 0 rfl rfl ?_
      refine z_get4 hC 18 (by decide) zw_fl_X4_63 (v := .int (w5 56 18)) rfl dX4_feed_48 ?_
      obtain ⟨rfl, rfl⟩ := zso2 hf
      exact z_iret hC dX4_feed_51
    replace hf := zif_t h2 hf
    refine z_bipush hC dX4_feed_24 (v := -3) rfl ?_
    obtain ⟨rfl, rfl⟩ := zso2 hf
    exact z_iret hC dX4_feed_26
  replace hf := zif_t h1 hf
  refine z_iconst hC dX4_feed_12 (v := -1) rfl ?_
  obtain ⟨rfl, rfl⟩ := zso2 hf
  exact z_iret hC dX4_feed_13
theorem zy_X4_feed : zYV yX4_feed cX4_feed 2 (some .int) RX4 1 := ⟨zw_cd_X4_feed, zw_im_X4_feed, zw_sel_X4_feed, zw_ini_X4, by decide +kernel⟩
abbrev rm_X4_sets : Room := { frames := 0, cells := 0, slots := 0, locals := 0 }
def f_X4_sets (w : zW) (a1 : Int32) (a2 : Int32) (a3 : Int32) : Option (Int32 × zW) :=
  if a1 = (0 : Int32) then
    some ((-1 : Int32), w)
  else
    zg (zin a2 120) <|
    zlet (w 57 (zx a2)) fun v3 =>
    zg (zin a2 120) <|
    zlet (zup w 57 (zx a2) a3) fun w5 =>
    some (v3, w5)
set_option maxRecDepth 100000 in
set_option maxHeartbeats 4000000 in
theorem c_X4_sets (l : Launch) (G : zG) (w : zW) (a1 : Int32) (a2 : Int32) (a3 : Int32) {r : Int32} {wz : zW} (hf : f_X4_sets w a1 a2 a3 = some (r, wz)) : zMet l G yX4_sets cX4_sets 5 (some .int) rm_X4_sets [.ref (zad G 56), .int a1, .int a2, .int a3] w (some (.int r)) wz := by
  refine z_start (own := RX4) (by decide) rfl (Nat.le_of_ble_eq_true rfl) (lv := [(0, .ref (zad G 56)), (1, .int a1), (2, .int a2), (3, .int a3)]) rfl ?_
  intro p e s m args below meth c hC
  unfold f_X4_sets at hf
  refine z_iload_n hC dX4_sets_0 1 rfl rfl ?_
  refine z_if_ne (tgt := 6) hC dX4_sets_1 (by decide) (fun h1 => ?_) (fun h1 => ?_)
  · replace hf := zif_f h1 hf
    refine z_aload_n hC dX4_sets_6 0 rfl rfl ?_
    refine z_get4 hC 0 (by decide) zw_fl_X4_7 (v := .ref (zad G 57)) rfl dX4_sets_7 ?_
    refine z_iload_n hC dX4_sets_10 2 rfl rfl ?_
    obtain ⟨hg2, hf⟩ := zg_e hf
    refine z_iald hC za_57 hg2 rfl dX4_sets_11 ?_
    obtain ⟨v3, ev3, hf⟩ := zlet_e hf
    refine z_topi ev3 ?_
    refine z_istore (lv' := [(4, .int v3), (0, .ref (zad G 56)), (1, .int a1), (2, .int a2), (3, .int a3)]) hC dX4_sets_12 (by decide) rfl ?_
    refine z_aload_n hC dX4_sets_14 1 rfl rfl ?_
    refine z_get4 hC 0 (by decide) zw_fl_X4_7 (v := .ref (zad G 57)) rfl dX4_sets_15 ?_
    refine z_iload_n hC dX4_sets_18 3 rfl rfl ?_
    refine z_iload_n hC dX4_sets_19 4 rfl rfl ?_
    obtain ⟨hg4, hf⟩ := zg_e hf
    obtain ⟨w5, ew5, hf⟩ := zlet_e hf
    refine z_iast hC za_57 hg4 rfl ew5 dX4_sets_20 ?_
    refine z_iload hC dX4_sets_21 0 rfl ?_
    obtain ⟨rfl, rfl⟩ := zso2 hf
    exact z_iret hC dX4_sets_23
  replace hf := zif_t h1 hf
  refine z_iconst hC dX4_sets_4 (v := -1) rfl ?_
  obtain ⟨rfl, rfl⟩ := zso2 hf
  exact z_iret hC dX4_sets_5
theorem zy_X4_sets : zYV yX4_sets cX4_sets 5 (some .int) RX4 3 := ⟨zw_cd_X4_sets, zw_im_X4_sets, zw_sel_X4_sets, zw_ini_X4, by decide +kernel⟩
abbrev rm_X4_fill : Room := { frames := 1, cells := 0, slots := 0, locals := 25 }
def f_X4_fill (w : zW) (a1 : Int32) : Option (Int32 × zW) :=
  zbd2 (f_X4_sets w (f_X4_in (a1.toInt64) (0 : Int64) (60 : Int64)) (8 : Int32) a1) fun v2 w1 =>
  some (v2, w1)
set_option maxRecDepth 100000 in
set_option maxHeartbeats 4000000 in
theorem c_X4_fill (l : Launch) (G : zG) (w : zW) (a1 : Int32) {r : Int32} {wz : zW} (hf : f_X4_fill w a1 = some (r, wz)) : zMet l G yX4_fill cX4_fill 2 (some .int) rm_X4_fill [.ref (zad G 56), .int a1] w (some (.int r)) wz := by
  refine z_start (own := RX4) (by decide) rfl (Nat.le_of_ble_eq_true rfl) (lv := [(0, .ref (zad G 56)), (1, .int a1)]) rfl ?_
  intro p e s m args below meth c hC
  unfold f_X4_fill at hf
  refine z_aload_n hC dX4_fill_0 0 rfl rfl ?_
  refine z_iload_n hC dX4_fill_1 1 rfl rfl ?_
  refine z_i2l hC dX4_fill_2 ?_
  refine z_lconst hC dX4_fill_3 (v := 0) rfl ?_
  refine z_ldc2 hC zw_cst_X4_209 dX4_fill_4 ?_
  refine z_csi (As := [.long (a1.toInt64), .long (0 : Int64), .long (60 : Int64)]) (rest := [.ref (zad G 56)]) hC (c_X4_in l G w (a1.toInt64) (0 : Int64) (60 : Int64)) zw_ml_X4_59 zy_X4_in ⟨rfl, rfl, Nat.le_of_ble_eq_true rfl, Nat.le_of_ble_eq_true rfl⟩ rfl rfl (Nat.le_of_ble_eq_true rfl) dX4_fill_7 ?_
  refine z_bipush hC dX4_fill_10 (v := 8) rfl ?_
  refine z_iload_n hC dX4_fill_12 1 rfl rfl ?_
  obtain ⟨v2, w1, ew1, hf⟩ := zbd2_e hf
  refine z_cvi (As := [.int (f_X4_in (a1.toInt64) (0 : Int64) (60 : Int64)), .int (8 : Int32), .int a1]) (rest := []) hC zo_mod rfl (c_X4_sets l G w (f_X4_in (a1.toInt64) (0 : Int64) (60 : Int64)) (8 : Int32) a1 ew1) zw_ml_X4_200 zy_X4_sets ⟨rfl, rfl, Nat.le_of_ble_eq_true rfl, Nat.le_of_ble_eq_true rfl⟩ rfl rfl (Nat.le_of_ble_eq_true rfl) dX4_fill_13 ?_
  obtain ⟨rfl, rfl⟩ := zso2 hf
  exact z_iret hC dX4_fill_16
theorem zy_X4_fill : zYV yX4_fill cX4_fill 2 (some .int) RX4 1 := ⟨zw_cd_X4_fill, zw_im_X4_fill, zw_sel_X4_fill, zw_ini_X4, by decide +kernel⟩
abbrev rm_X4_kindOf : Room := { frames := 0, cells := 0, slots := 0, locals := 0 }
def b_X4_kindOf_10 (a2 : Int32) (k10 : Int32 → Int32 → Option Int32) (v2 : Int32) (v3 : Int32) : Option Int32 :=
  if v3 ≤ a2 then
    some (zrem v2 (5 : Int32))
  else
  zlet (v2 / (5 : Int32)) fun v5 =>
  zlet (v3 + (-1 : Int32)) fun v6 =>
  k10 v5 v6
def f_X4_kindOf (w : zW) (a1 : Int32) (a2 : Int32) : Option Int32 :=
  zlet ((w 56 2) - (1 : Int32)) fun v1 =>
  zfix2 (b_X4_kindOf_10 a2) 100000 a1 v1
set_option maxRecDepth 100000 in
set_option maxHeartbeats 4000000 in
theorem c_X4_kindOf (l : Launch) (G : zG) (w : zW) (a1 : Int32) (a2 : Int32) {r : Int32} (hf : f_X4_kindOf w a1 a2 = some r) : zMet l G yX4_kindOf cX4_kindOf 5 (some .int) rm_X4_kindOf [.ref (zad G 56), .int a1, .int a2] w (some (.int r)) w := by
  refine z_start (own := RX4) (by decide) rfl (Nat.le_of_ble_eq_true rfl) (lv := [(0, .ref (zad G 56)), (1, .int a1), (2, .int a2)]) rfl ?_
  intro p e s m args below meth c hC
  unfold f_X4_kindOf at hf
  refine z_iload_n hC dX4_kindOf_0 1 rfl rfl ?_
  refine z_istore_n (lv' := [(3, .int a1), (0, .ref (zad G 56)), (1, .int a1), (2, .int a2)]) hC dX4_kindOf_1 rfl (by decide) rfl ?_
  refine z_aload_n hC dX4_kindOf_2 1 rfl rfl ?_
  refine z_get4 hC 2 (by decide) zw_fl_X4_150 (v := .int (w 56 2)) rfl dX4_kindOf_3 ?_
  refine z_iconst hC dX4_kindOf_6 (v := 1) rfl ?_
  refine z_isub hC dX4_kindOf_7 ?_
  obtain ⟨v1, ev1, hf⟩ := zlet_e hf
  refine z_topi ev1 ?_
  refine z_istore (lv' := [(4, .int v1), (3, .int a1), (0, .ref (zad G 56)), (1, .int a1), (2, .int a2)]) hC dX4_kindOf_8 (by decide) rfl ?_
  have hL10 : ∀ (n : Nat) (v2 : Int32) (v3 : Int32), zfix2 (b_X4_kindOf_10 a2) n v2 v3 = some r → Z G p l e rm_X4_kindOf s m args below meth c (MQ below (zQ G (some (.int r)) w) args s 0 0 (zA G)) 5 10 [(2, .int a2), (3, .int v2), (4, .int v3)] [] w := by
    intro n
    induction n with
    | zero => intro v2 v3 hf; exact (zfix2_0 hf).elim
    | succ n ih10 =>
      intro v2 v3 hf
      replace hf := zfix2_e hf
      unfold b_X4_kindOf_10 at hf
      refine z_iload hC dX4_kindOf_10 2 rfl ?_
      refine z_iload_n hC dX4_kindOf_12 0 rfl rfl ?_
      refine z_icmp_le (tgt := 26) hC dX4_kindOf_13 (by decide) (fun h4 => ?_) (fun h4 => ?_)
      · replace hf := zif_t h4 hf
        refine z_iload_n hC dX4_kindOf_26 1 rfl rfl ?_
        refine z_iconst hC dX4_kindOf_27 (v := 5) rfl ?_
        refine z_irem hC dX4_kindOf_28 (by decide) ?_
        obtain rfl := zso1 hf
        exact z_iret hC dX4_kindOf_29
      replace hf := zif_f h4 hf
      refine z_iload_n hC dX4_kindOf_16 1 rfl rfl ?_
      refine z_iconst hC dX4_kindOf_17 (v := 5) rfl ?_
      refine z_idiv hC dX4_kindOf_18 (by decide) ?_
      obtain ⟨v5, ev5, hf⟩ := zlet_e hf
      refine z_topi ev5 ?_
      refine z_istore_n (lv' := [(3, .int v5), (2, .int a2), (4, .int v3)]) hC dX4_kindOf_19 rfl (by decide) rfl ?_
      obtain ⟨v6, ev6, hf⟩ := zlet_e hf
      refine z_iinc (v := v6) (lv' := [(4, .int v6), (3, .int v5), (2, .int a2)]) hC dX4_kindOf_20 2 rfl (by rw [ev6]; rfl) (by decide) rfl ?_
      refine z_goto (tgt := 10) hC dX4_kindOf_23 (by decide) ?_
      refine z_lv [2, 1, 0] rfl ?_
      exact ih10 _ _ hf
  refine z_lv [4, 1, 0] rfl ?_
  exact hL10 _ _ _ hf
theorem zy_X4_kindOf : zYV yX4_kindOf cX4_kindOf 5 (some .int) RX4 2 := ⟨zw_cd_X4_kindOf, zw_im_X4_kindOf, zw_sel_X4_kindOf, zw_ini_X4, by decide +kernel⟩
abbrev rm_X4_isAsSeen : Room := { frames := 6, cells := 0, slots := 0, locals := 139 }
def b_X4_isAsSeen_69 (v4 : Int32) (w10 : zW) (j128 : Int32 → Option (Int32 × zW)) (k69 : Int32 → Int32 → Option (Int32 × zW)) (v13 : Int32) (v14 : Int32) : Option (Int32 × zW) :=
  if (w10 56 30) ≤ v14 then
    j128 v13
  else
  zjn1 (fun (v16 : Int32) =>
    zlet (v14 + (1 : Int32)) fun v17 =>
    k69 v16 v17)
  (fun (j121 : Int32 → Option (Int32 × zW)) =>
  zjn0 (
    j121 (0 : Int32))
  (fun (j120 : Option (Int32 × zW)) =>
  if v13 = (0 : Int32) then
    j120
  else
  zg (zin ((2 : Int32) * v14) 12) <|
  zjn0 (
    j121 (1 : Int32))
  (fun (j116 : Option (Int32 × zW)) =>
  if (w10 66 (zx ((2 : Int32) * v14))) = v4 then
    zg (zin (((2 : Int32) * v14) + (1 : Int32)) 12) <|
    if (w10 66 (zx (((2 : Int32) * v14) + (1 : Int32)))) = (w10 57 88) then
      j116
    else
      j120
  else
    j116)))
def b_X4_isAsSeen_42 (k42 : Int32 → Int32 → zW → Option (Int32 × zW)) (v3 : Int32) (v4 : Int32) (w5 : zW) : Option (Int32 × zW) :=
  if (24 : Int32) < v4 then
    zg (zbo v3) <|
    some (v3, w5)
  else
  if v3 = (0 : Int32) then
    zg (zbo v3) <|
    some (v3, w5)
  else
  zbd (f_X4_goesOn w5 (80 : Int32) (1 : Int32) (w5 57 11)) fun w10 =>
  zjn1 (fun (v11 : Int32) =>
    zlet (v4 + (1 : Int32)) fun v12 =>
    k42 v11 v12 w10)
  (fun (j128 : Int32 → Option (Int32 × zW)) =>
  zfix2 (b_X4_isAsSeen_69 v4 w10 j128) 100000 v3 (0 : Int32))
def b_X4_isAsSeen_9 (a1 : Int32) (j38 : zW → Option (Int32 × zW)) (k9 : Int32 → zW → Option (Int32 × zW)) (v23 : Int32) (w24 : zW) : Option (Int32 × zW) :=
  if (w24 56 2) ≤ v23 then
    j38 w24
  else
  zbd (f_X4_kindOf w24 a1 v23) fun v26 =>
  zg (zin ((80 : Int32) + v23) 120) <|
  zlet (zup w24 57 (zx ((80 : Int32) + v23)) v26) fun w28 =>
  zlet (v23 + (1 : Int32)) fun v29 =>
  k9 v29 w28
def f_X4_isAsSeen (w : zW) (a1 : Int32) : Option (Int32 × zW) :=
  zbd (f_X4_copies w (0 : Int32) (80 : Int32)) fun w1 =>
  zjn1 (fun (w2 : zW) =>
    zfix3 (b_X4_isAsSeen_42) 100000 (1 : Int32) (1 : Int32) w2)
  (fun (j38 : zW → Option (Int32 × zW)) =>
  zfix2 (b_X4_isAsSeen_9 a1 j38) 100000 (0 : Int32) w1)
set_option maxRecDepth 100000 in
set_option maxHeartbeats 4000000 in
theorem c_X4_isAsSeen (l : Launch) (G : zG) (w : zW) (a1 : Int32) {r : Int32} {wz : zW} (hf : f_X4_isAsSeen w a1 = some (r, wz)) : zMet l G yX4_isAsSeen cX4_isAsSeen 5 (some .boolean) rm_X4_isAsSeen [.ref (zad G 56), .int a1] w (some (.int r)) wz := by
  refine z_start (own := RX4) (by decide) rfl (Nat.le_of_ble_eq_true rfl) (lv := [(0, .ref (zad G 56)), (1, .int a1)]) rfl ?_
  intro p e s m args below meth c hC
  unfold f_X4_isAsSeen at hf
  refine z_aload_n hC dX4_isAsSeen_0 0 rfl rfl ?_
  refine z_iconst hC dX4_isAsSeen_1 (v := 0) rfl ?_
  refine z_bipush hC dX4_isAsSeen_2 (v := 80) rfl ?_
  obtain ⟨w1, ew1, hf⟩ := zbd_e hf
  refine z_cvv (As := [.int (0 : Int32), .int (80 : Int32)]) (rest := []) hC zo_mod rfl (c_X4_copies l G w (0 : Int32) (80 : Int32) ew1) zw_ml_X4_250 zy_X4_copies ⟨rfl, rfl, Nat.le_of_ble_eq_true rfl, Nat.le_of_ble_eq_true rfl⟩ rfl rfl (Nat.le_of_ble_eq_true rfl) dX4_isAsSeen_4 ?_
  refine z_iconst hC dX4_isAsSeen_7 (v := 0) rfl ?_
  refine z_istore_n (lv' := [(2, .int (0 : Int32)), (0, .ref (zad G 56)), (1, .int a1)]) hC dX4_isAsSeen_8 rfl (by decide) rfl ?_
  obtain ⟨j38, hj38, hf⟩ := zjn1_e hf
  have hJ38 : ∀ (w2 : zW), j38 w2 = some (r, wz) → Z G p l e rm_X4_isAsSeen s m args below meth c (MQ below (zQ G (some (.int r)) wz) args s 0 0 (zA G)) 5 38 [(0, .ref (zad G 56))] [] w2 := by
    intro w2 hf
    replace hf := hj38 w2 hf
    refine z_iconst hC dX4_isAsSeen_38 (v := 1) rfl ?_
    refine z_istore_n (lv' := [(2, .int (1 : Int32)), (0, .ref (zad G 56))]) hC dX4_isAsSeen_39 rfl (by decide) rfl ?_
    refine z_iconst hC dX4_isAsSeen_40 (v := 1) rfl ?_
    refine z_istore_n (lv' := [(3, .int (1 : Int32)), (2, .int (1 : Int32)), (0, .ref (zad G 56))]) hC dX4_isAsSeen_41 rfl (by decide) rfl ?_
    have hL42 : ∀ (n : Nat) (v3 : Int32) (v4 : Int32) (w5 : zW), zfix3 (b_X4_isAsSeen_42) n v3 v4 w5 = some (r, wz) → Z G p l e rm_X4_isAsSeen s m args below meth c (MQ below (zQ G (some (.int r)) wz) args s 0 0 (zA G)) 5 42 [(0, .ref (zad G 56)), (2, .int v3), (3, .int v4)] [] w5 := by
      intro n
      induction n with
      | zero => intro v3 v4 w5 hf; exact (zfix3_0 hf).elim
      | succ n ih42 =>
        intro v3 v4 w5 hf
        replace hf := zfix3_e hf
        unfold b_X4_isAsSeen_42 at hf
        refine z_iload_n hC dX4_isAsSeen_42 2 rfl rfl ?_
        refine z_bipush hC dX4_isAsSeen_43 (v := 24) rfl ?_
        refine z_icmp_gt (tgt := 134) hC dX4_isAsSeen_45 (by decide) (fun h6 => ?_) (fun h6 => ?_)
        · replace hf := zif_t h6 hf
          refine z_iload_n hC dX4_isAsSeen_134 1 rfl rfl ?_
          obtain ⟨hg7, hf⟩ := zg_e hf
          obtain ⟨rfl, rfl⟩ := zso2 hf
          exact z_zret hC (zbo_n hg7) dX4_isAsSeen_135
        replace hf := zif_f h6 hf
        refine z_iload_n hC dX4_isAsSeen_48 1 rfl rfl ?_
        refine z_if_eq (tgt := 134) hC dX4_isAsSeen_49 (by decide) (fun h8 => ?_) (fun h8 => ?_)
        · replace hf := zif_t h8 hf
          refine z_iload_n hC dX4_isAsSeen_134 1 rfl rfl ?_
          obtain ⟨hg9, hf⟩ := zg_e hf
          obtain ⟨rfl, rfl⟩ := zso2 hf
          exact z_zret hC (zbo_n hg9) dX4_isAsSeen_135
        replace hf := zif_f h8 hf
        refine z_aload_n hC dX4_isAsSeen_52 0 rfl rfl ?_
        refine z_bipush hC dX4_isAsSeen_53 (v := 80) rfl ?_
        refine z_iconst hC dX4_isAsSeen_55 (v := 1) rfl ?_
        refine z_aload_n hC dX4_isAsSeen_56 0 rfl rfl ?_
        refine z_get4 hC 0 (by decide) zw_fl_X4_7 (v := .ref (zad G 57)) rfl dX4_isAsSeen_57 ?_
        refine z_bipush hC dX4_isAsSeen_60 (v := 11) rfl ?_
        refine z_iald hC za_57 (by decide) (j := 11) (by decide) dX4_isAsSeen_62 ?_
        obtain ⟨w10, ew10, hf⟩ := zbd_e hf
        refine z_cvv (As := [.int (80 : Int32), .int (1 : Int32), .int (w5 57 11)]) (rest := []) hC zo_mod rfl (c_X4_goesOn l G w5 (80 : Int32) (1 : Int32) (w5 57 11) ew10) zw_ml_X4_244 zy_X4_goesOn ⟨rfl, rfl, Nat.le_of_ble_eq_true rfl, Nat.le_of_ble_eq_true rfl⟩ rfl rfl (Nat.le_of_ble_eq_true rfl) dX4_isAsSeen_63 ?_
        refine z_iconst hC dX4_isAsSeen_66 (v := 0) rfl ?_
        refine z_istore (lv' := [(4, .int (0 : Int32)), (0, .ref (zad G 56)), (2, .int v3), (3, .int v4)]) hC dX4_isAsSeen_67 (by decide) rfl ?_
        obtain ⟨j128, hj128, hf⟩ := zjn1_e hf
        have hJ128 : ∀ (v11 : Int32), j128 v11 = some (r, wz) → Z G p l e rm_X4_isAsSeen s m args below meth c (MQ below (zQ G (some (.int r)) wz) args s 0 0 (zA G)) 5 128 [(0, .ref (zad G 56)), (2, .int v11), (3, .int v4)] [] w10 := by
          intro v11 hf
          replace hf := hj128 v11 hf
          obtain ⟨v12, ev12, hf⟩ := zlet_e hf
          refine z_iinc (v := v12) (lv' := [(3, .int v12), (0, .ref (zad G 56)), (2, .int v11)]) hC dX4_isAsSeen_128 2 rfl (by rw [ev12]; rfl) (by decide) rfl ?_
          refine z_goto (tgt := 42) hC dX4_isAsSeen_131 (by decide) ?_
          refine z_lv [1, 2, 0] rfl ?_
          exact ih42 _ _ _ hf
        have hL69 : ∀ (n : Nat) (v13 : Int32) (v14 : Int32), zfix2 (b_X4_isAsSeen_69 v4 w10 j128) n v13 v14 = some (r, wz) → Z G p l e rm_X4_isAsSeen s m args below meth c (MQ below (zQ G (some (.int r)) wz) args s 0 0 (zA G)) 5 69 [(0, .ref (zad G 56)), (2, .int v13), (3, .int v4), (4, .int v14)] [] w10 := by
          intro n
          induction n with
          | zero => intro v13 v14 hf; exact (zfix2_0 hf).elim
          | succ n ih69 =>
            intro v13 v14 hf
            replace hf := zfix2_e hf
            unfold b_X4_isAsSeen_69 at hf
            refine z_iload hC dX4_isAsSeen_69 3 rfl ?_
            refine z_aload_n hC dX4_isAsSeen_71 0 rfl rfl ?_
            refine z_get4 hC 30 (by decide) zw_fl_X4_162 (v := .int (w10 56 30)) rfl dX4_isAsSeen_72 ?_
            refine z_icmp_ge (tgt := 128) hC dX4_isAsSeen_75 (by decide) (fun h15 => ?_) (fun h15 => ?_)
            · replace hf := zif_t h15 hf
              refine z_lv [0, 1, 2] rfl ?_
              exact hJ128 _ hf
            replace hf := zif_f h15 hf
            refine z_iload_n hC dX4_isAsSeen_78 1 rfl rfl ?_
            obtain ⟨j121, hj121, hf⟩ := zjn1_e hf
            have hJ121 : ∀ (v16 : Int32), j121 v16 = some (r, wz) → Z G p l e rm_X4_isAsSeen s m args below meth c (MQ below (zQ G (some (.int r)) wz) args s 0 0 (zA G)) 5 121 [(0, .ref (zad G 56)), (3, .int v4), (4, .int v14)] [.int v16] w10 := by
              intro v16 hf
              replace hf := hj121 v16 hf
              refine z_istore_n (lv' := [(2, .int v16), (0, .ref (zad G 56)), (3, .int v4), (4, .int v14)]) hC dX4_isAsSeen_121 rfl (by decide) rfl ?_
              obtain ⟨v17, ev17, hf⟩ := zlet_e hf
              refine z_iinc (v := v17) (lv' := [(4, .int v17), (2, .int v16), (0, .ref (zad G 56)), (3, .int v4)]) hC dX4_isAsSeen_122 3 rfl (by rw [ev17]; rfl) (by decide) rfl ?_
              refine z_goto (tgt := 69) hC dX4_isAsSeen_125 (by decide) ?_
              refine z_lv [2, 1, 3, 0] rfl ?_
              exact ih69 _ _ hf
            obtain ⟨j120, hj120, hf⟩ := zjn0_e hf
            have hJ120 : j120 = some (r, wz) → Z G p l e rm_X4_isAsSeen s m args below meth c (MQ below (zQ G (some (.int r)) wz) args s 0 0 (zA G)) 5 120 [(0, .ref (zad G 56)), (3, .int v4), (4, .int v14)] [] w10 := by
              intro hf
              replace hf := hj120  hf
              refine z_iconst hC dX4_isAsSeen_120 (v := 0) rfl ?_
              exact hJ121 _ hf
            refine z_if_eq (tgt := 120) hC dX4_isAsSeen_79 (by decide) (fun h18 => ?_) (fun h18 => ?_)
            · replace hf := zif_t h18 hf
              refine z_lv [0, 2, 3] rfl ?_
              exact hJ120 hf
            replace hf := zif_f h18 hf
            refine z_aload_n hC dX4_isAsSeen_82 0 rfl rfl ?_
            refine z_get4 hC 29 (by decide) zw_fl_X4_41 (v := .ref (zad G 66)) rfl dX4_isAsSeen_83 ?_
            refine z_iconst hC dX4_isAsSeen_86 (v := 2) rfl ?_
            refine z_iload hC dX4_isAsSeen_87 3 rfl ?_
            refine z_imul hC dX4_isAsSeen_89 ?_
            obtain ⟨hg19, hf⟩ := zg_e hf
            refine z_iald hC za_66 hg19 rfl dX4_isAsSeen_90 ?_
            refine z_iload_n hC dX4_isAsSeen_91 2 rfl rfl ?_
            obtain ⟨j116, hj116, hf⟩ := zjn0_e hf
            have hJ116 : j116 = some (r, wz) → Z G p l e rm_X4_isAsSeen s m args below meth c (MQ below (zQ G (some (.int r)) wz) args s 0 0 (zA G)) 5 116 [(0, .ref (zad G 56)), (3, .int v4), (4, .int v14)] [] w10 := by
              intro hf
              replace hf := hj116  hf
              refine z_iconst hC dX4_isAsSeen_116 (v := 1) rfl ?_
              refine z_goto (tgt := 121) hC dX4_isAsSeen_117 (by decide) ?_
              exact hJ121 _ hf
            refine z_icmp_ne (tgt := 116) hC dX4_isAsSeen_92 (by decide) (fun h20 => ?_) (fun h20 => ?_)
            · replace hf := zif_f h20 hf
              refine z_lv [0, 2, 3] rfl ?_
              exact hJ116 hf
            replace hf := zif_t h20 hf
            refine z_aload_n hC dX4_isAsSeen_95 0 rfl rfl ?_
            refine z_get4 hC 29 (by decide) zw_fl_X4_41 (v := .ref (zad G 66)) rfl dX4_isAsSeen_96 ?_
            refine z_iconst hC dX4_isAsSeen_99 (v := 2) rfl ?_
            refine z_iload hC dX4_isAsSeen_100 3 rfl ?_
            refine z_imul hC dX4_isAsSeen_102 ?_
            refine z_iconst hC dX4_isAsSeen_103 (v := 1) rfl ?_
            refine z_iadd hC dX4_isAsSeen_104 ?_
            obtain ⟨hg21, hf⟩ := zg_e hf
            refine z_iald hC za_66 hg21 rfl dX4_isAsSeen_105 ?_
            refine z_aload_n hC dX4_isAsSeen_106 0 rfl rfl ?_
            refine z_get4 hC 0 (by decide) zw_fl_X4_7 (v := .ref (zad G 57)) rfl dX4_isAsSeen_107 ?_
            refine z_bipush hC dX4_isAsSeen_110 (v := 88) rfl ?_
            refine z_iald hC za_57 (by decide) (j := 88) (by decide) dX4_isAsSeen_112 ?_
            refine z_icmp_ne (tgt := 120) hC dX4_isAsSeen_113 (by decide) (fun h22 => ?_) (fun h22 => ?_)
            · replace hf := zif_f h22 hf
              refine z_lv [0, 2, 3] rfl ?_
              exact hJ120 hf
            replace hf := zif_t h22 hf
            refine z_lv [0, 2, 3] rfl ?_
            exact hJ116 hf
        refine z_lv [1, 2, 3, 0] rfl ?_
        exact hL69 _ _ _ hf
    refine z_lv [2, 1, 0] rfl ?_
    exact hL42 _ _ _ _ hf
  have hL9 : ∀ (n : Nat) (v23 : Int32) (w24 : zW), zfix2 (b_X4_isAsSeen_9 a1 j38) n v23 w24 = some (r, wz) → Z G p l e rm_X4_isAsSeen s m args below meth c (MQ below (zQ G (some (.int r)) wz) args s 0 0 (zA G)) 5 9 [(0, .ref (zad G 56)), (1, .int a1), (2, .int v23)] [] w24 := by
    intro n
    induction n with
    | zero => intro v23 w24 hf; exact (zfix2_0 hf).elim
    | succ n ih9 =>
      intro v23 w24 hf
      replace hf := zfix2_e hf
      unfold b_X4_isAsSeen_9 at hf
      refine z_iload_n hC dX4_isAsSeen_9 2 rfl rfl ?_
      refine z_aload_n hC dX4_isAsSeen_10 0 rfl rfl ?_
      refine z_get4 hC 2 (by decide) zw_fl_X4_150 (v := .int (w24 56 2)) rfl dX4_isAsSeen_11 ?_
      refine z_icmp_ge (tgt := 38) hC dX4_isAsSeen_14 (by decide) (fun h25 => ?_) (fun h25 => ?_)
      · replace hf := zif_t h25 hf
        refine z_lv [0] rfl ?_
        exact hJ38 _ hf
      replace hf := zif_f h25 hf
      refine z_aload_n hC dX4_isAsSeen_17 0 rfl rfl ?_
      refine z_get4 hC 0 (by decide) zw_fl_X4_7 (v := .ref (zad G 57)) rfl dX4_isAsSeen_18 ?_
      refine z_bipush hC dX4_isAsSeen_21 (v := 80) rfl ?_
      refine z_iload_n hC dX4_isAsSeen_23 2 rfl rfl ?_
      refine z_iadd hC dX4_isAsSeen_24 ?_
      refine z_aload_n hC dX4_isAsSeen_25 0 rfl rfl ?_
      refine z_iload_n hC dX4_isAsSeen_26 1 rfl rfl ?_
      refine z_iload_n hC dX4_isAsSeen_27 2 rfl rfl ?_
      obtain ⟨v26, ev26, hf⟩ := zbd_e hf
      refine z_cvi (As := [.int a1, .int v23]) (rest := [.int ((80 : Int32) + v23), .ref (zad G 57)]) hC zo_mod rfl (c_X4_kindOf l G w24 a1 v23 ev26) zw_ml_X4_275 zy_X4_kindOf ⟨rfl, rfl, Nat.le_of_ble_eq_true rfl, Nat.le_of_ble_eq_true rfl⟩ rfl rfl (Nat.le_of_ble_eq_true rfl) dX4_isAsSeen_28 ?_
      obtain ⟨hg27, hf⟩ := zg_e hf
      obtain ⟨w28, ew28, hf⟩ := zlet_e hf
      refine z_iast hC za_57 hg27 rfl ew28 dX4_isAsSeen_31 ?_
      obtain ⟨v29, ev29, hf⟩ := zlet_e hf
      refine z_iinc (v := v29) (lv' := [(2, .int v29), (0, .ref (zad G 56)), (1, .int a1)]) hC dX4_isAsSeen_32 2 rfl (by rw [ev29]; rfl) (by decide) rfl ?_
      refine z_goto (tgt := 9) hC dX4_isAsSeen_35 (by decide) ?_
      refine z_lv [1, 2, 0] rfl ?_
      exact ih9 _ _ hf
  refine z_lv [1, 2, 0] rfl ?_
  exact hL9 _ _ _ hf
theorem zy_X4_isAsSeen : zYV yX4_isAsSeen cX4_isAsSeen 5 (some .boolean) RX4 1 := ⟨zw_cd_X4_isAsSeen, zw_im_X4_isAsSeen, zw_sel_X4_isAsSeen, zw_ini_X4, by decide +kernel⟩
abbrev rm_X4_fits : Room := { frames := 7, cells := 0, slots := 0, locals := 163 }
def b_X4_fits_20 (j58 : Int32 → Int32 → zW → Option (Int32 × zW)) (k20 : Int32 → Int32 → Int32 → zW → Option (Int32 × zW)) (v6 : Int32) (v7 : Int32) (v8 : Int32) (w9 : zW) : Option (Int32 × zW) :=
  zbd (f_X4_allKinds w9) fun v10 =>
  if v10 ≤ v8 then
    j58 v6 v7 w9
  else
  zbd2 (f_X4_isAsSeen w9 v8) fun v13 w12 =>
  zjn2 (fun (v14 : Int32) (v15 : Int32) =>
    zlet (v8 + (1 : Int32)) fun v16 =>
    k20 v14 v15 v16 w12)
  (fun (j52 : Int32 → Int32 → Option (Int32 × zW)) =>
  if v13 = (0 : Int32) then
    j52 v6 v7
  else
  zjn1 (fun (v18 : Int32) =>
    zlet (v6 + (1 : Int32)) fun v19 =>
    j52 v19 v18)
  (fun (j48 : Int32 → Option (Int32 × zW)) =>
  if v6 = (0 : Int32) then
    j48 v8
  else
    j48 v7))
def f_X4_fits (w : zW) (a1 : Int32) : Option (Int32 × zW) :=
  if (f_X4_in (a1.toInt64) (0 : Int64) (1 : Int64)) = (0 : Int32) then
    some ((-1 : Int32), w)
  else
    zjn3 (fun (v2 : Int32) (v3 : Int32) (w4 : zW) =>
      if a1 = (0 : Int32) then
        some (v2, w4)
      else
        some (v3, w4))
    (fun (j58 : Int32 → Int32 → zW → Option (Int32 × zW)) =>
    zfix4 (b_X4_fits_20 j58) 100000 (0 : Int32) (-4 : Int32) (0 : Int32) w)
set_option maxRecDepth 100000 in
set_option maxHeartbeats 4000000 in
theorem c_X4_fits (l : Launch) (G : zG) (w : zW) (a1 : Int32) {r : Int32} {wz : zW} (hf : f_X4_fits w a1 = some (r, wz)) : zMet l G yX4_fits cX4_fits 5 (some .int) rm_X4_fits [.ref (zad G 56), .int a1] w (some (.int r)) wz := by
  refine z_start (own := RX4) (by decide) rfl (Nat.le_of_ble_eq_true rfl) (lv := [(0, .ref (zad G 56)), (1, .int a1)]) rfl ?_
  intro p e s m args below meth c hC
  unfold f_X4_fits at hf
  refine z_iload_n hC dX4_fits_0 1 rfl rfl ?_
  refine z_i2l hC dX4_fits_1 ?_
  refine z_lconst hC dX4_fits_2 (v := 0) rfl ?_
  refine z_lconst hC dX4_fits_3 (v := 1) rfl ?_
  refine z_csi (As := [.long (a1.toInt64), .long (0 : Int64), .long (1 : Int64)]) (rest := []) hC (c_X4_in l G w (a1.toInt64) (0 : Int64) (1 : Int64)) zw_ml_X4_59 zy_X4_in ⟨rfl, rfl, Nat.le_of_ble_eq_true rfl, Nat.le_of_ble_eq_true rfl⟩ rfl rfl (Nat.le_of_ble_eq_true rfl) dX4_fits_4 ?_
  refine z_if_ne (tgt := 12) hC dX4_fits_7 (by decide) (fun h1 => ?_) (fun h1 => ?_)
  · replace hf := zif_f h1 hf
    refine z_iconst hC dX4_fits_12 (v := 0) rfl ?_
    refine z_istore_n (lv' := [(2, .int (0 : Int32)), (0, .ref (zad G 56)), (1, .int a1)]) hC dX4_fits_13 rfl (by decide) rfl ?_
    refine z_bipush hC dX4_fits_14 (v := -4) rfl ?_
    refine z_istore_n (lv' := [(3, .int (-4 : Int32)), (2, .int (0 : Int32)), (0, .ref (zad G 56)), (1, .int a1)]) hC dX4_fits_16 rfl (by decide) rfl ?_
    refine z_iconst hC dX4_fits_17 (v := 0) rfl ?_
    refine z_istore (lv' := [(4, .int (0 : Int32)), (3, .int (-4 : Int32)), (2, .int (0 : Int32)), (0, .ref (zad G 56)), (1, .int a1)]) hC dX4_fits_18 (by decide) rfl ?_
    obtain ⟨j58, hj58, hf⟩ := zjn3_e hf
    have hJ58 : ∀ (v2 : Int32) (v3 : Int32) (w4 : zW), j58 v2 v3 w4 = some (r, wz) → Z G p l e rm_X4_fits s m args below meth c (MQ below (zQ G (some (.int r)) wz) args s 0 0 (zA G)) 5 58 [(1, .int a1), (2, .int v2), (3, .int v3)] [] w4 := by
      intro v2 v3 w4 hf
      replace hf := hj58 v2 v3 w4 hf
      refine z_iload_n hC dX4_fits_58 0 rfl rfl ?_
      refine z_if_ne (tgt := 66) hC dX4_fits_59 (by decide) (fun h5 => ?_) (fun h5 => ?_)
      · replace hf := zif_f h5 hf
        refine z_iload_n hC dX4_fits_66 2 rfl rfl ?_
        obtain ⟨rfl, rfl⟩ := zso2 hf
        exact z_iret hC dX4_fits_67
      replace hf := zif_t h5 hf
      refine z_iload_n hC dX4_fits_62 1 rfl rfl ?_
      refine z_goto (tgt := 67) hC dX4_fits_63 (by decide) ?_
      obtain ⟨rfl, rfl⟩ := zso2 hf
      exact z_iret hC dX4_fits_67
    have hL20 : ∀ (n : Nat) (v6 : Int32) (v7 : Int32) (v8 : Int32) (w9 : zW), zfix4 (b_X4_fits_20 j58) n v6 v7 v8 w9 = some (r, wz) → Z G p l e rm_X4_fits s m args below meth c (MQ below (zQ G (some (.int r)) wz) args s 0 0 (zA G)) 5 20 [(0, .ref (zad G 56)), (1, .int a1), (2, .int v6), (3, .int v7), (4, .int v8)] [] w9 := by
      intro n
      induction n with
      | zero => intro v6 v7 v8 w9 hf; exact (zfix4_0 hf).elim
      | succ n ih20 =>
        intro v6 v7 v8 w9 hf
        replace hf := zfix4_e hf
        unfold b_X4_fits_20 at hf
        refine z_iload hC dX4_fits_20 4 rfl ?_
        refine z_aload_n hC dX4_fits_22 0 rfl rfl ?_
        obtain ⟨v10, ev10, hf⟩ := zbd_e hf
        refine z_cvi (As := []) (rest := [.int v8]) hC zo_mod rfl (c_X4_allKinds l G w9 ev10) zw_ml_X4_278 zy_X4_allKinds ⟨rfl, rfl, Nat.le_of_ble_eq_true rfl, Nat.le_of_ble_eq_true rfl⟩ rfl rfl (Nat.le_of_ble_eq_true rfl) dX4_fits_23 ?_
        refine z_icmp_ge (tgt := 58) hC dX4_fits_26 (by decide) (fun h11 => ?_) (fun h11 => ?_)
        · replace hf := zif_t h11 hf
          refine z_lv [1, 2, 3] rfl ?_
          exact hJ58 _ _ _ hf
        replace hf := zif_f h11 hf
        refine z_aload_n hC dX4_fits_29 0 rfl rfl ?_
        refine z_iload hC dX4_fits_30 4 rfl ?_
        obtain ⟨v13, w12, ew12, hf⟩ := zbd2_e hf
        refine z_cvi (As := [.int v8]) (rest := []) hC zo_mod rfl (c_X4_isAsSeen l G w9 v8 ew12) zw_ml_X4_281 zy_X4_isAsSeen ⟨rfl, rfl, Nat.le_of_ble_eq_true rfl, Nat.le_of_ble_eq_true rfl⟩ rfl rfl (Nat.le_of_ble_eq_true rfl) dX4_fits_32 ?_
        obtain ⟨j52, hj52, hf⟩ := zjn2_e hf
        have hJ52 : ∀ (v14 : Int32) (v15 : Int32), j52 v14 v15 = some (r, wz) → Z G p l e rm_X4_fits s m args below meth c (MQ below (zQ G (some (.int r)) wz) args s 0 0 (zA G)) 5 52 [(0, .ref (zad G 56)), (1, .int a1), (2, .int v14), (3, .int v15), (4, .int v8)] [] w12 := by
          intro v14 v15 hf
          replace hf := hj52 v14 v15 hf
          obtain ⟨v16, ev16, hf⟩ := zlet_e hf
          refine z_iinc (v := v16) (lv' := [(4, .int v16), (0, .ref (zad G 56)), (1, .int a1), (2, .int v14), (3, .int v15)]) hC dX4_fits_52 4 rfl (by rw [ev16]; rfl) (by decide) rfl ?_
          refine z_goto (tgt := 20) hC dX4_fits_55 (by decide) ?_
          refine z_lv [1, 2, 3, 4, 0] rfl ?_
          exact ih20 _ _ _ _ hf
        refine z_if_eq (tgt := 52) hC dX4_fits_35 (by decide) (fun h17 => ?_) (fun h17 => ?_)
        · replace hf := zif_t h17 hf
          exact hJ52 _ _ hf
        replace hf := zif_f h17 hf
        refine z_iload_n hC dX4_fits_38 2 rfl rfl ?_
        obtain ⟨j48, hj48, hf⟩ := zjn1_e hf
        have hJ48 : ∀ (v18 : Int32), j48 v18 = some (r, wz) → Z G p l e rm_X4_fits s m args below meth c (MQ below (zQ G (some (.int r)) wz) args s 0 0 (zA G)) 5 48 [(0, .ref (zad G 56)), (1, .int a1), (2, .int v6), (4, .int v8)] [.int v18] w12 := by
          intro v18 hf
          replace hf := hj48 v18 hf
          refine z_istore_n (lv' := [(3, .int v18), (0, .ref (zad G 56)), (1, .int a1), (2, .int v6), (4, .int v8)]) hC dX4_fits_48 rfl (by decide) rfl ?_
          obtain ⟨v19, ev19, hf⟩ := zlet_e hf
          refine z_iinc (v := v19) (lv' := [(2, .int v19), (3, .int v18), (0, .ref (zad G 56)), (1, .int a1), (4, .int v8)]) hC dX4_fits_49 3 rfl (by rw [ev19]; rfl) (by decide) rfl ?_
          refine z_lv [2, 3, 0, 1, 4] rfl ?_
          exact hJ52 _ _ hf
        refine z_if_ne (tgt := 47) hC dX4_fits_39 (by decide) (fun h20 => ?_) (fun h20 => ?_)
        · replace hf := zif_f h20 hf
          refine z_iload_n hC dX4_fits_47 3 rfl rfl ?_
          refine z_lv [0, 1, 2, 4] rfl ?_
          exact hJ48 _ hf
        replace hf := zif_t h20 hf
        refine z_iload hC dX4_fits_42 4 rfl ?_
        refine z_goto (tgt := 48) hC dX4_fits_44 (by decide) ?_
        refine z_lv [0, 1, 2, 4] rfl ?_
        exact hJ48 _ hf
    refine z_lv [3, 4, 2, 1, 0] rfl ?_
    exact hL20 _ _ _ _ _ hf
  replace hf := zif_t h1 hf
  refine z_iconst hC dX4_fits_10 (v := -1) rfl ?_
  obtain ⟨rfl, rfl⟩ := zso2 hf
  exact z_iret hC dX4_fits_11
theorem zy_X4_fits : zYV yX4_fits cX4_fits 5 (some .int) RX4 1 := ⟨zw_cd_X4_fits, zw_im_X4_fits, zw_sel_X4_fits, zw_ini_X4, by decide +kernel⟩
abbrev rm_X4_forget : Room := { frames := 1, cells := 0, slots := 0, locals := 25 }
def f_X4_forget (w : zW) (a1 : Int32) : Option (Int32 × zW) :=
  if (f_X4_in (a1.toInt64) (0 : Int64) ((w 56 30).toInt64)) = (0 : Int32) then
    some ((-1 : Int32), w)
  else
    zlet (w 56 30) fun v2 =>
    zlet (zup w 56 30 a1) fun w3 =>
    some (v2, w3)
set_option maxRecDepth 100000 in
set_option maxHeartbeats 4000000 in
theorem c_X4_forget (l : Launch) (G : zG) (w : zW) (a1 : Int32) {r : Int32} {wz : zW} (hf : f_X4_forget w a1 = some (r, wz)) : zMet l G yX4_forget cX4_forget 3 (some .int) rm_X4_forget [.ref (zad G 56), .int a1] w (some (.int r)) wz := by
  refine z_start (own := RX4) (by decide) rfl (Nat.le_of_ble_eq_true rfl) (lv := [(0, .ref (zad G 56)), (1, .int a1)]) rfl ?_
  intro p e s m args below meth c hC
  unfold f_X4_forget at hf
  refine z_iload_n hC dX4_forget_0 1 rfl rfl ?_
  refine z_i2l hC dX4_forget_1 ?_
  refine z_lconst hC dX4_forget_2 (v := 0) rfl ?_
  refine z_aload_n hC dX4_forget_3 0 rfl rfl ?_
  refine z_get4 hC 30 (by decide) zw_fl_X4_162 (v := .int (w 56 30)) rfl dX4_forget_4 ?_
  refine z_i2l hC dX4_forget_7 ?_
  refine z_csi (As := [.long (a1.toInt64), .long (0 : Int64), .long ((w 56 30).toInt64)]) (rest := []) hC (c_X4_in l G w (a1.toInt64) (0 : Int64) ((w 56 30).toInt64)) zw_ml_X4_59 zy_X4_in ⟨rfl, rfl, Nat.le_of_ble_eq_true rfl, Nat.le_of_ble_eq_true rfl⟩ rfl rfl (Nat.le_of_ble_eq_true rfl) dX4_forget_8 ?_
  refine z_if_ne (tgt := 16) hC dX4_forget_11 (by decide) (fun h1 => ?_) (fun h1 => ?_)
  · replace hf := zif_f h1 hf
    refine z_aload_n hC dX4_forget_16 0 rfl rfl ?_
    refine z_get4 hC 30 (by decide) zw_fl_X4_162 (v := .int (w 56 30)) rfl dX4_forget_17 ?_
    obtain ⟨v2, ev2, hf⟩ := zlet_e hf
    refine z_topi ev2 ?_
    refine z_istore_n (lv' := [(2, .int v2), (0, .ref (zad G 56)), (1, .int a1)]) hC dX4_forget_20 rfl (by decide) rfl ?_
    refine z_aload_n hC dX4_forget_21 1 rfl rfl ?_
    refine z_iload_n hC dX4_forget_22 2 rfl rfl ?_
    obtain ⟨w3, ew3, hf⟩ := zlet_e hf
    refine z_put4 hC 30 (by decide) rfl rfl zw_fl_X4_162 rfl ew3 dX4_forget_23 ?_
    refine z_iload_n hC dX4_forget_26 0 rfl rfl ?_
    obtain ⟨rfl, rfl⟩ := zso2 hf
    exact z_iret hC dX4_forget_27
  replace hf := zif_t h1 hf
  refine z_iconst hC dX4_forget_14 (v := -1) rfl ?_
  obtain ⟨rfl, rfl⟩ := zso2 hf
  exact z_iret hC dX4_forget_15
theorem zy_X4_forget : zYV yX4_forget cX4_forget 3 (some .int) RX4 1 := ⟨zw_cd_X4_forget, zw_im_X4_forget, zw_sel_X4_forget, zw_ini_X4, by decide +kernel⟩
abbrev rm_X4_go : Room := { frames := 6, cells := 0, slots := 0, locals := 139 }
def f_X4_go (w : zW) (a1 : Int32) : Option (Int32 × zW) :=
  if (f_X4_in (a1.toInt64) (0 : Int64) (60 : Int64)) = (0 : Int32) then
    some ((-1 : Int32), w)
  else
    zbd (f_X4_hourOn w (0 : Int32)) fun v2 =>
    if (v2 + a1) ≤ (999 : Int32) then
      zbd (f_X4_goesOn w (0 : Int32) a1 (w 57 11)) fun w4 =>
      zbd (f_X4_upOn w4 (0 : Int32)) fun v5 =>
      some (v5, w4)
    else
    some ((-3 : Int32), w)
set_option maxRecDepth 100000 in
set_option maxHeartbeats 4000000 in
theorem c_X4_go (l : Launch) (G : zG) (w : zW) (a1 : Int32) {r : Int32} {wz : zW} (hf : f_X4_go w a1 = some (r, wz)) : zMet l G yX4_go cX4_go 2 (some .int) rm_X4_go [.ref (zad G 56), .int a1] w (some (.int r)) wz := by
  refine z_start (own := RX4) (by decide) rfl (Nat.le_of_ble_eq_true rfl) (lv := [(0, .ref (zad G 56)), (1, .int a1)]) rfl ?_
  intro p e s m args below meth c hC
  unfold f_X4_go at hf
  refine z_iload_n hC dX4_go_0 1 rfl rfl ?_
  refine z_i2l hC dX4_go_1 ?_
  refine z_lconst hC dX4_go_2 (v := 0) rfl ?_
  refine z_ldc2 hC zw_cst_X4_209 dX4_go_3 ?_
  refine z_csi (As := [.long (a1.toInt64), .long (0 : Int64), .long (60 : Int64)]) (rest := []) hC (c_X4_in l G w (a1.toInt64) (0 : Int64) (60 : Int64)) zw_ml_X4_59 zy_X4_in ⟨rfl, rfl, Nat.le_of_ble_eq_true rfl, Nat.le_of_ble_eq_true rfl⟩ rfl rfl (Nat.le_of_ble_eq_true rfl) dX4_go_6 ?_
  refine z_if_ne (tgt := 14) hC dX4_go_9 (by decide) (fun h1 => ?_) (fun h1 => ?_)
  · replace hf := zif_f h1 hf
    refine z_aload_n hC dX4_go_14 0 rfl rfl ?_
    refine z_iconst hC dX4_go_15 (v := 0) rfl ?_
    obtain ⟨v2, ev2, hf⟩ := zbd_e hf
    refine z_cvi (As := [.int (0 : Int32)]) (rest := []) hC zo_mod rfl (c_X4_hourOn l G w (0 : Int32) ev2) zw_ml_X4_171 zy_X4_hourOn ⟨rfl, rfl, Nat.le_of_ble_eq_true rfl, Nat.le_of_ble_eq_true rfl⟩ rfl rfl (Nat.le_of_ble_eq_true rfl) dX4_go_16 ?_
    refine z_iload_n hC dX4_go_19 1 rfl rfl ?_
    refine z_iadd hC dX4_go_20 ?_
    refine z_sipush hC dX4_go_21 (v := 999) rfl ?_
    refine z_icmp_le (tgt := 30) hC dX4_go_24 (by decide) (fun h3 => ?_) (fun h3 => ?_)
    · replace hf := zif_t h3 hf
      refine z_aload_n hC dX4_go_30 0 rfl rfl ?_
      refine z_iconst hC dX4_go_31 (v := 0) rfl ?_
      refine z_iload_n hC dX4_go_32 1 rfl rfl ?_
      refine z_aload_n hC dX4_go_33 0 rfl rfl ?_
      refine z_get4 hC 0 (by decide) zw_fl_X4_7 (v := .ref (zad G 57)) rfl dX4_go_34 ?_
      refine z_bipush hC dX4_go_37 (v := 11) rfl ?_
      refine z_iald hC za_57 (by decide) (j := 11) (by decide) dX4_go_39 ?_
      obtain ⟨w4, ew4, hf⟩ := zbd_e hf
      refine z_cvv (As := [.int (0 : Int32), .int a1, .int (w 57 11)]) (rest := []) hC zo_mod rfl (c_X4_goesOn l G w (0 : Int32) a1 (w 57 11) ew4) zw_ml_X4_244 zy_X4_goesOn ⟨rfl, rfl, Nat.le_of_ble_eq_true rfl, Nat.le_of_ble_eq_true rfl⟩ rfl rfl (Nat.le_of_ble_eq_true rfl) dX4_go_40 ?_
      refine z_aload_n hC dX4_go_43 0 rfl rfl ?_
      refine z_iconst hC dX4_go_44 (v := 0) rfl ?_
      obtain ⟨v5, ev5, hf⟩ := zbd_e hf
      refine z_cvi (As := [.int (0 : Int32)]) (rest := []) hC zo_mod rfl (c_X4_upOn l G w4 (0 : Int32) ev5) zw_ml_X4_218 zy_X4_upOn ⟨rfl, rfl, Nat.le_of_ble_eq_true rfl, Nat.le_of_ble_eq_true rfl⟩ rfl rfl (Nat.le_of_ble_eq_true rfl) dX4_go_45 ?_
      obtain ⟨rfl, rfl⟩ := zso2 hf
      exact z_iret hC dX4_go_48
    replace hf := zif_f h3 hf
    refine z_bipush hC dX4_go_27 (v := -3) rfl ?_
    obtain ⟨rfl, rfl⟩ := zso2 hf
    exact z_iret hC dX4_go_29
  replace hf := zif_t h1 hf
  refine z_iconst hC dX4_go_12 (v := -1) rfl ?_
  obtain ⟨rfl, rfl⟩ := zso2 hf
  exact z_iret hC dX4_go_13
theorem zy_X4_go : zYV yX4_go cX4_go 2 (some .int) RX4 1 := ⟨zw_cd_X4_go, zw_im_X4_go, zw_sel_X4_go, zw_ini_X4, by decide +kernel⟩
abbrev rm_X4_isWell : Room := { frames := 1, cells := 0, slots := 0, locals := 25 }
def f_X4_isWell (w : zW) (a1 : Int32) : Int32 :=
  f_X4_in (a1.toInt64) (0 : Int64) (((w 56 4) - (1 : Int32)).toInt64)
theorem zb_X4_isWell (w : zW) (a1 : Int32) : zbo (f_X4_isWell w a1) = true := by
  unfold f_X4_isWell
  (try simp only [zjn0, zjn1, zlet])
  (try repeat' split) <;> first | (with_reducible exact zb_X4_in _ _ _) | rfl
set_option maxRecDepth 100000 in
set_option maxHeartbeats 4000000 in
theorem c_X4_isWell (l : Launch) (G : zG) (w : zW) (a1 : Int32) : zMet l G yX4_isWell cX4_isWell 2 (some .boolean) rm_X4_isWell [.ref (zad G 56), .int a1] w (some (.int (f_X4_isWell w a1))) w := by
  generalize hf : f_X4_isWell w a1 = r
  refine z_start (own := RX4) (by decide) rfl (Nat.le_of_ble_eq_true rfl) (lv := [(0, .ref (zad G 56)), (1, .int a1)]) rfl ?_
  intro p e s m args below meth c hC
  unfold f_X4_isWell at hf
  refine z_iload_n hC dX4_isWell_0 1 rfl rfl ?_
  refine z_i2l hC dX4_isWell_1 ?_
  refine z_lconst hC dX4_isWell_2 (v := 0) rfl ?_
  refine z_aload_n hC dX4_isWell_3 0 rfl rfl ?_
  refine z_get4 hC 4 (by decide) zw_fl_X4_153 (v := .int (w 56 4)) rfl dX4_isWell_4 ?_
  refine z_iconst hC dX4_isWell_7 (v := 1) rfl ?_
  refine z_isub hC dX4_isWell_8 ?_
  refine z_i2l hC dX4_isWell_9 ?_
  refine z_csi (As := [.long (a1.toInt64), .long (0 : Int64), .long (((w 56 4) - (1 : Int32)).toInt64)]) (rest := []) hC (c_X4_in l G w (a1.toInt64) (0 : Int64) (((w 56 4) - (1 : Int32)).toInt64)) zw_ml_X4_59 zy_X4_in ⟨rfl, rfl, Nat.le_of_ble_eq_true rfl, Nat.le_of_ble_eq_true rfl⟩ rfl rfl (Nat.le_of_ble_eq_true rfl) dX4_isWell_10 ?_
  subst hf
  exact z_zret hC (zbo_n (zb_X4_in _ _ _)) dX4_isWell_13
theorem zy_X4_isWell : zYV yX4_isWell cX4_isWell 2 (some .boolean) RX4 1 := ⟨zw_cd_X4_isWell, zw_im_X4_isWell, zw_sel_X4_isWell, zw_ini_X4, by decide +kernel⟩
abbrev rm_X4_keep : Room := { frames := 1, cells := 0, slots := 0, locals := 25 }
def f_X4_keep (w : zW) (a1 : Int32) : Option (Int32 × zW) :=
  if (f_X4_in (a1.toInt64) (0 : Int64) (1 : Int64)) = (0 : Int32) then
    some ((-1 : Int32), w)
  else
    zbd (f_X4_copies w (0 : Int32) ((20 : Int32) * (a1 + (1 : Int32)))) fun w2 =>
    zg (zin a1 2) <|
    zjn1 (fun (v4 : Int32) =>
      zg (zin a1 2) <|
      zlet (zup w2 67 (zx a1) (vp_nar .boolean (1 : Int32))) fun w6 =>
      some (v4, w6))
    (fun (j37 : Int32 → Option (Int32 × zW)) =>
    if (w2 67 (zx a1)) = (0 : Int32) then
      j37 (0 : Int32)
    else
    j37 (1 : Int32))
set_option maxRecDepth 100000 in
set_option maxHeartbeats 4000000 in
theorem c_X4_keep (l : Launch) (G : zG) (w : zW) (a1 : Int32) {r : Int32} {wz : zW} (hf : f_X4_keep w a1 = some (r, wz)) : zMet l G yX4_keep cX4_keep 3 (some .int) rm_X4_keep [.ref (zad G 56), .int a1] w (some (.int r)) wz := by
  refine z_start (own := RX4) (by decide) rfl (Nat.le_of_ble_eq_true rfl) (lv := [(0, .ref (zad G 56)), (1, .int a1)]) rfl ?_
  intro p e s m args below meth c hC
  unfold f_X4_keep at hf
  refine z_iload_n hC dX4_keep_0 1 rfl rfl ?_
  refine z_i2l hC dX4_keep_1 ?_
  refine z_lconst hC dX4_keep_2 (v := 0) rfl ?_
  refine z_lconst hC dX4_keep_3 (v := 1) rfl ?_
  refine z_csi (As := [.long (a1.toInt64), .long (0 : Int64), .long (1 : Int64)]) (rest := []) hC (c_X4_in l G w (a1.toInt64) (0 : Int64) (1 : Int64)) zw_ml_X4_59 zy_X4_in ⟨rfl, rfl, Nat.le_of_ble_eq_true rfl, Nat.le_of_ble_eq_true rfl⟩ rfl rfl (Nat.le_of_ble_eq_true rfl) dX4_keep_4 ?_
  refine z_if_ne (tgt := 12) hC dX4_keep_7 (by decide) (fun h1 => ?_) (fun h1 => ?_)
  · replace hf := zif_f h1 hf
    refine z_aload_n hC dX4_keep_12 0 rfl rfl ?_
    refine z_iconst hC dX4_keep_13 (v := 0) rfl ?_
    refine z_bipush hC dX4_keep_14 (v := 20) rfl ?_
    refine z_iload_n hC dX4_keep_16 1 rfl rfl ?_
    refine z_iconst hC dX4_keep_17 (v := 1) rfl ?_
    refine z_iadd hC dX4_keep_18 ?_
    refine z_imul hC dX4_keep_19 ?_
    obtain ⟨w2, ew2, hf⟩ := zbd_e hf
    refine z_cvv (As := [.int (0 : Int32), .int ((20 : Int32) * (a1 + (1 : Int32)))]) (rest := []) hC zo_mod rfl (c_X4_copies l G w (0 : Int32) ((20 : Int32) * (a1 + (1 : Int32))) ew2) zw_ml_X4_250 zy_X4_copies ⟨rfl, rfl, Nat.le_of_ble_eq_true rfl, Nat.le_of_ble_eq_true rfl⟩ rfl rfl (Nat.le_of_ble_eq_true rfl) dX4_keep_20 ?_
    refine z_aload_n hC dX4_keep_23 0 rfl rfl ?_
    refine z_get4 hC 31 (by decide) zw_fl_X4_44 (v := .ref (zad G 67)) rfl dX4_keep_24 ?_
    refine z_iload_n hC dX4_keep_27 1 rfl rfl ?_
    obtain ⟨hg3, hf⟩ := zg_e hf
    refine z_zald hC za_67 hg3 rfl dX4_keep_28 ?_
    obtain ⟨j37, hj37, hf⟩ := zjn1_e hf
    have hJ37 : ∀ (v4 : Int32), j37 v4 = some (r, wz) → Z G p l e rm_X4_keep s m args below meth c (MQ below (zQ G (some (.int r)) wz) args s 0 0 (zA G)) 3 37 [(0, .ref (zad G 56)), (1, .int a1)] [.int v4] w2 := by
      intro v4 hf
      replace hf := hj37 v4 hf
      refine z_istore_n (lv' := [(2, .int v4), (0, .ref (zad G 56)), (1, .int a1)]) hC dX4_keep_37 rfl (by decide) rfl ?_
      refine z_aload_n hC dX4_keep_38 1 rfl rfl ?_
      refine z_get4 hC 31 (by decide) zw_fl_X4_44 (v := .ref (zad G 67)) rfl dX4_keep_39 ?_
      refine z_iload_n hC dX4_keep_42 2 rfl rfl ?_
      refine z_iconst hC dX4_keep_43 (v := 1) rfl ?_
      obtain ⟨hg5, hf⟩ := zg_e hf
      obtain ⟨w6, ew6, hf⟩ := zlet_e hf
      refine z_zast hC za_67 hg5 rfl ew6 dX4_keep_44 ?_
      refine z_iload_n hC dX4_keep_45 0 rfl rfl ?_
      obtain ⟨rfl, rfl⟩ := zso2 hf
      exact z_iret hC dX4_keep_46
    refine z_if_eq (tgt := 36) hC dX4_keep_29 (by decide) (fun h7 => ?_) (fun h7 => ?_)
    · replace hf := zif_t h7 hf
      refine z_iconst hC dX4_keep_36 (v := 0) rfl ?_
      exact hJ37 _ hf
    replace hf := zif_f h7 hf
    refine z_iconst hC dX4_keep_32 (v := 1) rfl ?_
    refine z_goto (tgt := 37) hC dX4_keep_33 (by decide) ?_
    exact hJ37 _ hf
  replace hf := zif_t h1 hf
  refine z_iconst hC dX4_keep_10 (v := -1) rfl ?_
  obtain ⟨rfl, rfl⟩ := zso2 hf
  exact z_iret hC dX4_keep_11
theorem zy_X4_keep : zYV yX4_keep cX4_keep 3 (some .int) RX4 1 := ⟨zw_cd_X4_keep, zw_im_X4_keep, zw_sel_X4_keep, zw_ini_X4, by decide +kernel⟩
abbrev rm_X4_kinds : Room := { frames := 7, cells := 0, slots := 0, locals := 163 }
def b_X4_kinds_14 (a1 : Int32) (k14 : Int32 → Int32 → zW → Option (Int32 × zW)) (v2 : Int32) (v3 : Int32) (w4 : zW) : Option (Int32 × zW) :=
  zbd (f_X4_allKinds w4) fun v5 =>
  if v5 ≤ v3 then
    some (v2, w4)
  else
  zbd2 (f_X4_isAsSeen w4 v3) fun v8 w7 =>
  zjn1 (fun (v9 : Int32) =>
    zlet (v2 ||| v9) fun v10 =>
    zlet (v3 + (1 : Int32)) fun v11 =>
    k14 v10 v11 w7)
  (fun (j43 : Int32 → Option (Int32 × zW)) =>
  if v8 = (0 : Int32) then
    j43 (0 : Int32)
  else
  zbd (f_X4_kindOf w7 v3 a1) fun v13 =>
  j43 ((1 : Int32) <<< (v13 &&& 31)))
def f_X4_kinds (w : zW) (a1 : Int32) : Option (Int32 × zW) :=
  if (f_X4_isOne w a1) = (0 : Int32) then
    some ((-1 : Int32), w)
  else
    zfix3 (b_X4_kinds_14 a1) 100000 (0 : Int32) (0 : Int32) w
set_option maxRecDepth 100000 in
set_option maxHeartbeats 4000000 in
theorem c_X4_kinds (l : Launch) (G : zG) (w : zW) (a1 : Int32) {r : Int32} {wz : zW} (hf : f_X4_kinds w a1 = some (r, wz)) : zMet l G yX4_kinds cX4_kinds 4 (some .int) rm_X4_kinds [.ref (zad G 56), .int a1] w (some (.int r)) wz := by
  refine z_start (own := RX4) (by decide) rfl (Nat.le_of_ble_eq_true rfl) (lv := [(0, .ref (zad G 56)), (1, .int a1)]) rfl ?_
  intro p e s m args below meth c hC
  unfold f_X4_kinds at hf
  refine z_aload_n hC dX4_kinds_0 0 rfl rfl ?_
  refine z_iload_n hC dX4_kinds_1 1 rfl rfl ?_
  refine z_cvi (As := [.int a1]) (rest := []) hC zo_mod rfl (c_X4_isOne l G w a1) zw_ml_X4_177 zy_X4_isOne ⟨rfl, rfl, Nat.le_of_ble_eq_true rfl, Nat.le_of_ble_eq_true rfl⟩ rfl rfl (Nat.le_of_ble_eq_true rfl) dX4_kinds_2 ?_
  refine z_if_ne (tgt := 10) hC dX4_kinds_5 (by decide) (fun h1 => ?_) (fun h1 => ?_)
  · replace hf := zif_f h1 hf
    refine z_iconst hC dX4_kinds_10 (v := 0) rfl ?_
    refine z_istore_n (lv' := [(2, .int (0 : Int32)), (0, .ref (zad G 56)), (1, .int a1)]) hC dX4_kinds_11 rfl (by decide) rfl ?_
    refine z_iconst hC dX4_kinds_12 (v := 0) rfl ?_
    refine z_istore_n (lv' := [(3, .int (0 : Int32)), (2, .int (0 : Int32)), (0, .ref (zad G 56)), (1, .int a1)]) hC dX4_kinds_13 rfl (by decide) rfl ?_
    have hL14 : ∀ (n : Nat) (v2 : Int32) (v3 : Int32) (w4 : zW), zfix3 (b_X4_kinds_14 a1) n v2 v3 w4 = some (r, wz) → Z G p l e rm_X4_kinds s m args below meth c (MQ below (zQ G (some (.int r)) wz) args s 0 0 (zA G)) 4 14 [(0, .ref (zad G 56)), (1, .int a1), (2, .int v2), (3, .int v3)] [] w4 := by
      intro n
      induction n with
      | zero => intro v2 v3 w4 hf; exact (zfix3_0 hf).elim
      | succ n ih14 =>
        intro v2 v3 w4 hf
        replace hf := zfix3_e hf
        unfold b_X4_kinds_14 at hf
        refine z_iload_n hC dX4_kinds_14 3 rfl rfl ?_
        refine z_aload_n hC dX4_kinds_15 0 rfl rfl ?_
        obtain ⟨v5, ev5, hf⟩ := zbd_e hf
        refine z_cvi (As := []) (rest := [.int v3]) hC zo_mod rfl (c_X4_allKinds l G w4 ev5) zw_ml_X4_278 zy_X4_allKinds ⟨rfl, rfl, Nat.le_of_ble_eq_true rfl, Nat.le_of_ble_eq_true rfl⟩ rfl rfl (Nat.le_of_ble_eq_true rfl) dX4_kinds_16 ?_
        refine z_icmp_ge (tgt := 51) hC dX4_kinds_19 (by decide) (fun h6 => ?_) (fun h6 => ?_)
        · replace hf := zif_t h6 hf
          refine z_iload_n hC dX4_kinds_51 2 rfl rfl ?_
          obtain ⟨rfl, rfl⟩ := zso2 hf
          exact z_iret hC dX4_kinds_52
        replace hf := zif_f h6 hf
        refine z_iload_n hC dX4_kinds_22 2 rfl rfl ?_
        refine z_aload_n hC dX4_kinds_23 0 rfl rfl ?_
        refine z_iload_n hC dX4_kinds_24 3 rfl rfl ?_
        obtain ⟨v8, w7, ew7, hf⟩ := zbd2_e hf
        refine z_cvi (As := [.int v3]) (rest := [.int v2]) hC zo_mod rfl (c_X4_isAsSeen l G w4 v3 ew7) zw_ml_X4_281 zy_X4_isAsSeen ⟨rfl, rfl, Nat.le_of_ble_eq_true rfl, Nat.le_of_ble_eq_true rfl⟩ rfl rfl (Nat.le_of_ble_eq_true rfl) dX4_kinds_25 ?_
        obtain ⟨j43, hj43, hf⟩ := zjn1_e hf
        have hJ43 : ∀ (v9 : Int32), j43 v9 = some (r, wz) → Z G p l e rm_X4_kinds s m args below meth c (MQ below (zQ G (some (.int r)) wz) args s 0 0 (zA G)) 4 43 [(0, .ref (zad G 56)), (1, .int a1), (3, .int v3)] [.int v9, .int v2] w7 := by
          intro v9 hf
          replace hf := hj43 v9 hf
          refine z_ior hC dX4_kinds_43 ?_
          obtain ⟨v10, ev10, hf⟩ := zlet_e hf
          refine z_topi ev10 ?_
          refine z_istore_n (lv' := [(2, .int v10), (0, .ref (zad G 56)), (1, .int a1), (3, .int v3)]) hC dX4_kinds_44 rfl (by decide) rfl ?_
          obtain ⟨v11, ev11, hf⟩ := zlet_e hf
          refine z_iinc (v := v11) (lv' := [(3, .int v11), (2, .int v10), (0, .ref (zad G 56)), (1, .int a1)]) hC dX4_kinds_45 3 rfl (by rw [ev11]; rfl) (by decide) rfl ?_
          refine z_goto (tgt := 14) hC dX4_kinds_48 (by decide) ?_
          refine z_lv [2, 3, 1, 0] rfl ?_
          exact ih14 _ _ _ hf
        refine z_if_eq (tgt := 42) hC dX4_kinds_28 (by decide) (fun h12 => ?_) (fun h12 => ?_)
        · replace hf := zif_t h12 hf
          refine z_iconst hC dX4_kinds_42 (v := 0) rfl ?_
          refine z_lv [0, 1, 3] rfl ?_
          exact hJ43 _ hf
        replace hf := zif_f h12 hf
        refine z_iconst hC dX4_kinds_31 (v := 1) rfl ?_
        refine z_aload_n hC dX4_kinds_32 0 rfl rfl ?_
        refine z_iload_n hC dX4_kinds_33 3 rfl rfl ?_
        refine z_iload_n hC dX4_kinds_34 1 rfl rfl ?_
        obtain ⟨v13, ev13, hf⟩ := zbd_e hf
        refine z_cvi (As := [.int v3, .int a1]) (rest := [.int (1 : Int32), .int v2]) hC zo_mod rfl (c_X4_kindOf l G w7 v3 a1 ev13) zw_ml_X4_275 zy_X4_kindOf ⟨rfl, rfl, Nat.le_of_ble_eq_true rfl, Nat.le_of_ble_eq_true rfl⟩ rfl rfl (Nat.le_of_ble_eq_true rfl) dX4_kinds_35 ?_
        refine z_ishl hC dX4_kinds_38 ?_
        refine z_goto (tgt := 43) hC dX4_kinds_39 (by decide) ?_
        refine z_lv [0, 1, 3] rfl ?_
        exact hJ43 _ hf
    refine z_lv [2, 3, 1, 0] rfl ?_
    exact hL14 _ _ _ _ hf
  replace hf := zif_t h1 hf
  refine z_iconst hC dX4_kinds_8 (v := -1) rfl ?_
  obtain ⟨rfl, rfl⟩ := zso2 hf
  exact z_iret hC dX4_kinds_9
theorem zy_X4_kinds : zYV yX4_kinds cX4_kinds 4 (some .int) RX4 1 := ⟨zw_cd_X4_kinds, zw_im_X4_kinds, zw_sel_X4_kinds, zw_ini_X4, by decide +kernel⟩
abbrev rm_X4_late : Room := { frames := 7, cells := 0, slots := 0, locals := 161 }
def b_X4_late_26 (a1 : Int32) (k26 : Int32 → Int32 → zW → Option (Int32 × zW)) (v3 : Int32) (v4 : Int32) (w5 : zW) : Option (Int32 × zW) :=
  if (72 : Int32) < v4 then
    some (v3, w5)
  else
  zbd2 (f_X4_arriveFrom w5 (100 : Int32) (2 : Int32)) fun v8 w7 =>
  zjn1 (fun (v9 : Int32) =>
    zbd (f_X4_goesOn w7 (100 : Int32) (1 : Int32) (3 : Int32)) fun w10 =>
    zlet (v4 + (1 : Int32)) fun v11 =>
    k26 v9 v11 w10)
  (fun (j48 : Int32 → Option (Int32 × zW)) =>
  if v8 < a1 then
    j48 v3
  else
  j48 v4)
def f_X4_late (w : zW) (a1 : Int32) : Option (Int32 × zW) :=
  if (f_X4_in (a1.toInt64) (1 : Int64) (4 : Int64)) = (0 : Int32) then
    some ((-1 : Int32), w)
  else
    zbd (f_X4_copies w (0 : Int32) (100 : Int32)) fun w2 =>
    zfix3 (b_X4_late_26 a1) 100000 (-4 : Int32) (0 : Int32) w2
set_option maxRecDepth 100000 in
set_option maxHeartbeats 4000000 in
theorem c_X4_late (l : Launch) (G : zG) (w : zW) (a1 : Int32) {r : Int32} {wz : zW} (hf : f_X4_late w a1 = some (r, wz)) : zMet l G yX4_late cX4_late 4 (some .int) rm_X4_late [.ref (zad G 56), .int a1] w (some (.int r)) wz := by
  refine z_start (own := RX4) (by decide) rfl (Nat.le_of_ble_eq_true rfl) (lv := [(0, .ref (zad G 56)), (1, .int a1)]) rfl ?_
  intro p e s m args below meth c hC
  unfold f_X4_late at hf
  refine z_iload_n hC dX4_late_0 1 rfl rfl ?_
  refine z_i2l hC dX4_late_1 ?_
  refine z_lconst hC dX4_late_2 (v := 1) rfl ?_
  refine z_ldc2 hC zw_cst_X4_198 dX4_late_3 ?_
  refine z_csi (As := [.long (a1.toInt64), .long (1 : Int64), .long (4 : Int64)]) (rest := []) hC (c_X4_in l G w (a1.toInt64) (1 : Int64) (4 : Int64)) zw_ml_X4_59 zy_X4_in ⟨rfl, rfl, Nat.le_of_ble_eq_true rfl, Nat.le_of_ble_eq_true rfl⟩ rfl rfl (Nat.le_of_ble_eq_true rfl) dX4_late_6 ?_
  refine z_if_ne (tgt := 14) hC dX4_late_9 (by decide) (fun h1 => ?_) (fun h1 => ?_)
  · replace hf := zif_f h1 hf
    refine z_bipush hC dX4_late_14 (v := -4) rfl ?_
    refine z_istore_n (lv' := [(2, .int (-4 : Int32)), (0, .ref (zad G 56)), (1, .int a1)]) hC dX4_late_16 rfl (by decide) rfl ?_
    refine z_aload_n hC dX4_late_17 1 rfl rfl ?_
    refine z_iconst hC dX4_late_18 (v := 0) rfl ?_
    refine z_bipush hC dX4_late_19 (v := 100) rfl ?_
    obtain ⟨w2, ew2, hf⟩ := zbd_e hf
    refine z_cvv (As := [.int (0 : Int32), .int (100 : Int32)]) (rest := []) hC zo_mod rfl (c_X4_copies l G w (0 : Int32) (100 : Int32) ew2) zw_ml_X4_250 zy_X4_copies ⟨rfl, rfl, Nat.le_of_ble_eq_true rfl, Nat.le_of_ble_eq_true rfl⟩ rfl rfl (Nat.le_of_ble_eq_true rfl) dX4_late_21 ?_
    refine z_iconst hC dX4_late_24 (v := 0) rfl ?_
    refine z_istore_n (lv' := [(3, .int (0 : Int32)), (2, .int (-4 : Int32)), (0, .ref (zad G 56)), (1, .int a1)]) hC dX4_late_25 rfl (by decide) rfl ?_
    have hL26 : ∀ (n : Nat) (v3 : Int32) (v4 : Int32) (w5 : zW), zfix3 (b_X4_late_26 a1) n v3 v4 w5 = some (r, wz) → Z G p l e rm_X4_late s m args below meth c (MQ below (zQ G (some (.int r)) wz) args s 0 0 (zA G)) 4 26 [(0, .ref (zad G 56)), (1, .int a1), (2, .int v3), (3, .int v4)] [] w5 := by
      intro n
      induction n with
      | zero => intro v3 v4 w5 hf; exact (zfix3_0 hf).elim
      | succ n ih26 =>
        intro v3 v4 w5 hf
        replace hf := zfix3_e hf
        unfold b_X4_late_26 at hf
        refine z_iload_n hC dX4_late_26 3 rfl rfl ?_
        refine z_bipush hC dX4_late_27 (v := 72) rfl ?_
        refine z_icmp_gt (tgt := 63) hC dX4_late_29 (by decide) (fun h6 => ?_) (fun h6 => ?_)
        · replace hf := zif_t h6 hf
          refine z_iload_n hC dX4_late_63 2 rfl rfl ?_
          obtain ⟨rfl, rfl⟩ := zso2 hf
          exact z_iret hC dX4_late_64
        replace hf := zif_f h6 hf
        refine z_aload_n hC dX4_late_32 0 rfl rfl ?_
        refine z_bipush hC dX4_late_33 (v := 100) rfl ?_
        refine z_iconst hC dX4_late_35 (v := 2) rfl ?_
        obtain ⟨v8, w7, ew7, hf⟩ := zbd2_e hf
        refine z_cvi (As := [.int (100 : Int32), .int (2 : Int32)]) (rest := []) hC zo_mod rfl (c_X4_arriveFrom l G w5 (100 : Int32) (2 : Int32) ew7) zw_ml_X4_256 zy_X4_arriveFrom ⟨rfl, rfl, Nat.le_of_ble_eq_true rfl, Nat.le_of_ble_eq_true rfl⟩ rfl rfl (Nat.le_of_ble_eq_true rfl) dX4_late_36 ?_
        refine z_iload_n hC dX4_late_39 1 rfl rfl ?_
        obtain ⟨j48, hj48, hf⟩ := zjn1_e hf
        have hJ48 : ∀ (v9 : Int32), j48 v9 = some (r, wz) → Z G p l e rm_X4_late s m args below meth c (MQ below (zQ G (some (.int r)) wz) args s 0 0 (zA G)) 4 48 [(0, .ref (zad G 56)), (1, .int a1), (3, .int v4)] [.int v9] w7 := by
          intro v9 hf
          replace hf := hj48 v9 hf
          refine z_istore_n (lv' := [(2, .int v9), (0, .ref (zad G 56)), (1, .int a1), (3, .int v4)]) hC dX4_late_48 rfl (by decide) rfl ?_
          refine z_aload_n hC dX4_late_49 1 rfl rfl ?_
          refine z_bipush hC dX4_late_50 (v := 100) rfl ?_
          refine z_iconst hC dX4_late_52 (v := 1) rfl ?_
          refine z_iconst hC dX4_late_53 (v := 3) rfl ?_
          obtain ⟨w10, ew10, hf⟩ := zbd_e hf
          refine z_cvv (As := [.int (100 : Int32), .int (1 : Int32), .int (3 : Int32)]) (rest := []) hC zo_mod rfl (c_X4_goesOn l G w7 (100 : Int32) (1 : Int32) (3 : Int32) ew10) zw_ml_X4_244 zy_X4_goesOn ⟨rfl, rfl, Nat.le_of_ble_eq_true rfl, Nat.le_of_ble_eq_true rfl⟩ rfl rfl (Nat.le_of_ble_eq_true rfl) dX4_late_54 ?_
          obtain ⟨v11, ev11, hf⟩ := zlet_e hf
          refine z_iinc (v := v11) (lv' := [(3, .int v11), (2, .int v9), (0, .ref (zad G 56)), (1, .int a1)]) hC dX4_late_57 3 rfl (by rw [ev11]; rfl) (by decide) rfl ?_
          refine z_goto (tgt := 26) hC dX4_late_60 (by decide) ?_
          refine z_lv [2, 3, 1, 0] rfl ?_
          exact ih26 _ _ _ hf
        refine z_icmp_lt (tgt := 47) hC dX4_late_40 (by decide) (fun h12 => ?_) (fun h12 => ?_)
        · replace hf := zif_t h12 hf
          refine z_iload_n hC dX4_late_47 2 rfl rfl ?_
          refine z_lv [0, 1, 3] rfl ?_
          exact hJ48 _ hf
        replace hf := zif_f h12 hf
        refine z_iload_n hC dX4_late_43 3 rfl rfl ?_
        refine z_goto (tgt := 48) hC dX4_late_44 (by decide) ?_
        refine z_lv [0, 1, 3] rfl ?_
        exact hJ48 _ hf
    refine z_lv [2, 3, 1, 0] rfl ?_
    exact hL26 _ _ _ _ hf
  replace hf := zif_t h1 hf
  refine z_iconst hC dX4_late_12 (v := -1) rfl ?_
  obtain ⟨rfl, rfl⟩ := zso2 hf
  exact z_iret hC dX4_late_13
theorem zy_X4_late : zYV yX4_late cX4_late 4 (some .int) RX4 1 := ⟨zw_cd_X4_late, zw_im_X4_late, zw_sel_X4_late, zw_ini_X4, by decide +kernel⟩
abbrev rm_X4_lay : Room := { frames := 1, cells := 0, slots := 0, locals := 25 }
def f_X4_lay (w : zW) (a1 : Int32) (a2 : Int32) : Option (Int32 × zW) :=
  zjn1 (fun (v1 : Int32) =>
    zbd2 (f_X4_sets w v1 ((12 : Int32) + a1) a2) fun v3 w2 =>
    some (v3, w2))
  (fun (j38 : Int32 → Option (Int32 × zW)) =>
  zjn0 (
    j38 (0 : Int32))
  (fun (j37 : Option (Int32 × zW)) =>
  if (f_X4_in (a1.toInt64) (0 : Int64) (1 : Int64)) = (0 : Int32) then
    j37
  else
  zjn1 (fun (v5 : Int64) =>
    if (f_X4_in (a2.toInt64) (0 : Int64) v5) = (0 : Int32) then
      j37
    else
    j38 (1 : Int32))
  (fun (j27 : Int64 → Option (Int32 × zW)) =>
  if a1 = (0 : Int32) then
    j27 (9 : Int64)
  else
    j27 (10 : Int64))))
set_option maxRecDepth 100000 in
set_option maxHeartbeats 4000000 in
theorem c_X4_lay (l : Launch) (G : zG) (w : zW) (a1 : Int32) (a2 : Int32) {r : Int32} {wz : zW} (hf : f_X4_lay w a1 a2 = some (r, wz)) : zMet l G yX4_lay cX4_lay 3 (some .int) rm_X4_lay [.ref (zad G 56), .int a1, .int a2] w (some (.int r)) wz := by
  refine z_start (own := RX4) (by decide) rfl (Nat.le_of_ble_eq_true rfl) (lv := [(0, .ref (zad G 56)), (1, .int a1), (2, .int a2)]) rfl ?_
  intro p e s m args below meth c hC
  unfold f_X4_lay at hf
  refine z_aload_n hC dX4_lay_0 0 rfl rfl ?_
  refine z_iload_n hC dX4_lay_1 1 rfl rfl ?_
  refine z_i2l hC dX4_lay_2 ?_
  refine z_lconst hC dX4_lay_3 (v := 0) rfl ?_
  refine z_lconst hC dX4_lay_4 (v := 1) rfl ?_
  refine z_csi (As := [.long (a1.toInt64), .long (0 : Int64), .long (1 : Int64)]) (rest := [.ref (zad G 56)]) hC (c_X4_in l G w (a1.toInt64) (0 : Int64) (1 : Int64)) zw_ml_X4_59 zy_X4_in ⟨rfl, rfl, Nat.le_of_ble_eq_true rfl, Nat.le_of_ble_eq_true rfl⟩ rfl rfl (Nat.le_of_ble_eq_true rfl) dX4_lay_5 ?_
  obtain ⟨j38, hj38, hf⟩ := zjn1_e hf
  have hJ38 : ∀ (v1 : Int32), j38 v1 = some (r, wz) → Z G p l e rm_X4_lay s m args below meth c (MQ below (zQ G (some (.int r)) wz) args s 0 0 (zA G)) 3 38 [(1, .int a1), (2, .int a2)] [.int v1, .ref (zad G 56)] w := by
    intro v1 hf
    replace hf := hj38 v1 hf
    refine z_bipush hC dX4_lay_38 (v := 12) rfl ?_
    refine z_iload_n hC dX4_lay_40 0 rfl rfl ?_
    refine z_iadd hC dX4_lay_41 ?_
    refine z_iload_n hC dX4_lay_42 1 rfl rfl ?_
    obtain ⟨v3, w2, ew2, hf⟩ := zbd2_e hf
    refine z_cvi (As := [.int v1, .int ((12 : Int32) + a1), .int a2]) (rest := []) hC zo_mod rfl (c_X4_sets l G w v1 ((12 : Int32) + a1) a2 ew2) zw_ml_X4_200 zy_X4_sets ⟨rfl, rfl, Nat.le_of_ble_eq_true rfl, Nat.le_of_ble_eq_true rfl⟩ rfl rfl (Nat.le_of_ble_eq_true rfl) dX4_lay_43 ?_
    obtain ⟨rfl, rfl⟩ := zso2 hf
    exact z_iret hC dX4_lay_46
  obtain ⟨j37, hj37, hf⟩ := zjn0_e hf
  have hJ37 : j37 = some (r, wz) → Z G p l e rm_X4_lay s m args below meth c (MQ below (zQ G (some (.int r)) wz) args s 0 0 (zA G)) 3 37 [(1, .int a1), (2, .int a2)] [.ref (zad G 56)] w := by
    intro hf
    replace hf := hj37  hf
    refine z_iconst hC dX4_lay_37 (v := 0) rfl ?_
    exact hJ38 _ hf
  refine z_if_eq (tgt := 37) hC dX4_lay_8 (by decide) (fun h4 => ?_) (fun h4 => ?_)
  · replace hf := zif_t h4 hf
    refine z_lv [1, 2] rfl ?_
    exact hJ37 hf
  replace hf := zif_f h4 hf
  refine z_iload_n hC dX4_lay_11 2 rfl rfl ?_
  refine z_i2l hC dX4_lay_12 ?_
  refine z_lconst hC dX4_lay_13 (v := 0) rfl ?_
  refine z_iload_n hC dX4_lay_14 1 rfl rfl ?_
  obtain ⟨j27, hj27, hf⟩ := zjn1_e hf
  have hJ27 : ∀ (v5 : Int64), j27 v5 = some (r, wz) → Z G p l e rm_X4_lay s m args below meth c (MQ below (zQ G (some (.int r)) wz) args s 0 0 (zA G)) 3 27 [(1, .int a1), (2, .int a2)] [.long v5, .long (0 : Int64), .long (a2.toInt64), .ref (zad G 56)] w := by
    intro v5 hf
    replace hf := hj27 v5 hf
    refine z_csi (As := [.long (a2.toInt64), .long (0 : Int64), .long v5]) (rest := [.ref (zad G 56)]) hC (c_X4_in l G w (a2.toInt64) (0 : Int64) v5) zw_ml_X4_59 zy_X4_in ⟨rfl, rfl, Nat.le_of_ble_eq_true rfl, Nat.le_of_ble_eq_true rfl⟩ rfl rfl (Nat.le_of_ble_eq_true rfl) dX4_lay_27 ?_
    refine z_if_eq (tgt := 37) hC dX4_lay_30 (by decide) (fun h6 => ?_) (fun h6 => ?_)
    · replace hf := zif_t h6 hf
      exact hJ37 hf
    replace hf := zif_f h6 hf
    refine z_iconst hC dX4_lay_33 (v := 1) rfl ?_
    refine z_goto (tgt := 38) hC dX4_lay_34 (by decide) ?_
    exact hJ38 _ hf
  refine z_if_ne (tgt := 24) hC dX4_lay_15 (by decide) (fun h7 => ?_) (fun h7 => ?_)
  · replace hf := zif_f h7 hf
    refine z_ldc2 hC zw_cst_X4_214 dX4_lay_24 ?_
    refine z_lv [1, 2] rfl ?_
    exact hJ27 _ hf
  replace hf := zif_t h7 hf
  refine z_ldc2 hC zw_cst_X4_216 dX4_lay_18 ?_
  refine z_goto (tgt := 27) hC dX4_lay_21 (by decide) ?_
  refine z_lv [1, 2] rfl ?_
  exact hJ27 _ hf
theorem zy_X4_lay : zYV yX4_lay cX4_lay 3 (some .int) RX4 2 := ⟨zw_cd_X4_lay, zw_im_X4_lay, zw_sel_X4_lay, zw_ini_X4, by decide +kernel⟩
abbrev rm_X4_least : Room := { frames := 7, cells := 0, slots := 0, locals := 161 }
def b_X4_least_9 (k9 : Int32 → zW → Option (Int32 × zW)) (v2 : Int32) (w3 : zW) : Option (Int32 × zW) :=
  if (60 : Int32) < v2 then
    some ((-4 : Int32), w3)
  else
  zlet (zup w3 57 108 v2) fun w5 =>
  zbd2 (f_X4_arriveFrom w5 (100 : Int32) (w5 57 11)) fun v7 w6 =>
  zbd (f_X4_upOn w6 (0 : Int32)) fun v8 =>
  zjn0 (
    zlet (v2 + (1 : Int32)) fun v9 =>
    k9 v9 w6)
  (fun (j60 : Option (Int32 × zW)) =>
  if v7 = v8 then
    if (w6 57 89) < (w6 56 5) then
      j60
    else
    some (v2, w6)
  else
    j60)
def f_X4_least (w : zW) : Option (Int32 × zW) :=
  zbd (f_X4_copies w (0 : Int32) (100 : Int32)) fun w1 =>
  zfix2 (b_X4_least_9) 100000 (0 : Int32) w1
set_option maxRecDepth 100000 in
set_option maxHeartbeats 4000000 in
theorem c_X4_least (l : Launch) (G : zG) (w : zW) {r : Int32} {wz : zW} (hf : f_X4_least w = some (r, wz)) : zMet l G yX4_least cX4_least 2 (some .int) rm_X4_least [.ref (zad G 56)] w (some (.int r)) wz := by
  refine z_start (own := RX4) (by decide) rfl (Nat.le_of_ble_eq_true rfl) (lv := [(0, .ref (zad G 56))]) rfl ?_
  intro p e s m args below meth c hC
  unfold f_X4_least at hf
  refine z_aload_n hC dX4_least_0 0 rfl rfl ?_
  refine z_iconst hC dX4_least_1 (v := 0) rfl ?_
  refine z_bipush hC dX4_least_2 (v := 100) rfl ?_
  obtain ⟨w1, ew1, hf⟩ := zbd_e hf
  refine z_cvv (As := [.int (0 : Int32), .int (100 : Int32)]) (rest := []) hC zo_mod rfl (c_X4_copies l G w (0 : Int32) (100 : Int32) ew1) zw_ml_X4_250 zy_X4_copies ⟨rfl, rfl, Nat.le_of_ble_eq_true rfl, Nat.le_of_ble_eq_true rfl⟩ rfl rfl (Nat.le_of_ble_eq_true rfl) dX4_least_4 ?_
  refine z_iconst hC dX4_least_7 (v := 0) rfl ?_
  refine z_istore_n (lv' := [(1, .int (0 : Int32)), (0, .ref (zad G 56))]) hC dX4_least_8 rfl (by decide) rfl ?_
  have hL9 : ∀ (n : Nat) (v2 : Int32) (w3 : zW), zfix2 (b_X4_least_9) n v2 w3 = some (r, wz) → Z G p l e rm_X4_least s m args below meth c (MQ below (zQ G (some (.int r)) wz) args s 0 0 (zA G)) 2 9 [(0, .ref (zad G 56)), (1, .int v2)] [] w3 := by
    intro n
    induction n with
    | zero => intro v2 w3 hf; exact (zfix2_0 hf).elim
    | succ n ih9 =>
      intro v2 w3 hf
      replace hf := zfix2_e hf
      unfold b_X4_least_9 at hf
      refine z_iload_n hC dX4_least_9 1 rfl rfl ?_
      refine z_bipush hC dX4_least_10 (v := 60) rfl ?_
      refine z_icmp_gt (tgt := 66) hC dX4_least_12 (by decide) (fun h4 => ?_) (fun h4 => ?_)
      · replace hf := zif_t h4 hf
        refine z_bipush hC dX4_least_66 (v := -4) rfl ?_
        obtain ⟨rfl, rfl⟩ := zso2 hf
        exact z_iret hC dX4_least_68
      replace hf := zif_f h4 hf
      refine z_aload_n hC dX4_least_15 0 rfl rfl ?_
      refine z_get4 hC 0 (by decide) zw_fl_X4_7 (v := .ref (zad G 57)) rfl dX4_least_16 ?_
      refine z_bipush hC dX4_least_19 (v := 108) rfl ?_
      refine z_iload_n hC dX4_least_21 1 rfl rfl ?_
      obtain ⟨w5, ew5, hf⟩ := zlet_e hf
      refine z_iast hC za_57 (by decide) (j := 108) (by decide) ew5 dX4_least_22 ?_
      refine z_aload_n hC dX4_least_23 0 rfl rfl ?_
      refine z_bipush hC dX4_least_24 (v := 100) rfl ?_
      refine z_aload_n hC dX4_least_26 0 rfl rfl ?_
      refine z_get4 hC 0 (by decide) zw_fl_X4_7 (v := .ref (zad G 57)) rfl dX4_least_27 ?_
      refine z_bipush hC dX4_least_30 (v := 11) rfl ?_
      refine z_iald hC za_57 (by decide) (j := 11) (by decide) dX4_least_32 ?_
      obtain ⟨v7, w6, ew6, hf⟩ := zbd2_e hf
      refine z_cvi (As := [.int (100 : Int32), .int (w5 57 11)]) (rest := []) hC zo_mod rfl (c_X4_arriveFrom l G w5 (100 : Int32) (w5 57 11) ew6) zw_ml_X4_256 zy_X4_arriveFrom ⟨rfl, rfl, Nat.le_of_ble_eq_true rfl, Nat.le_of_ble_eq_true rfl⟩ rfl rfl (Nat.le_of_ble_eq_true rfl) dX4_least_33 ?_
      refine z_aload_n hC dX4_least_36 0 rfl rfl ?_
      refine z_iconst hC dX4_least_37 (v := 0) rfl ?_
      obtain ⟨v8, ev8, hf⟩ := zbd_e hf
      refine z_cvi (As := [.int (0 : Int32)]) (rest := [.int v7]) hC zo_mod rfl (c_X4_upOn l G w6 (0 : Int32) ev8) zw_ml_X4_218 zy_X4_upOn ⟨rfl, rfl, Nat.le_of_ble_eq_true rfl, Nat.le_of_ble_eq_true rfl⟩ rfl rfl (Nat.le_of_ble_eq_true rfl) dX4_least_38 ?_
      obtain ⟨j60, hj60, hf⟩ := zjn0_e hf
      have hJ60 : j60 = some (r, wz) → Z G p l e rm_X4_least s m args below meth c (MQ below (zQ G (some (.int r)) wz) args s 0 0 (zA G)) 2 60 [(0, .ref (zad G 56)), (1, .int v2)] [] w6 := by
        intro hf
        replace hf := hj60  hf
        obtain ⟨v9, ev9, hf⟩ := zlet_e hf
        refine z_iinc (v := v9) (lv' := [(1, .int v9), (0, .ref (zad G 56))]) hC dX4_least_60 1 rfl (by rw [ev9]; rfl) (by decide) rfl ?_
        refine z_goto (tgt := 9) hC dX4_least_63 (by decide) ?_
        refine z_lv [1, 0] rfl ?_
        exact ih9 _ _ hf
      refine z_icmp_ne (tgt := 60) hC dX4_least_41 (by decide) (fun h10 => ?_) (fun h10 => ?_)
      · replace hf := zif_f h10 hf
        exact hJ60 hf
      replace hf := zif_t h10 hf
      refine z_aload_n hC dX4_least_44 0 rfl rfl ?_
      refine z_get4 hC 0 (by decide) zw_fl_X4_7 (v := .ref (zad G 57)) rfl dX4_least_45 ?_
      refine z_bipush hC dX4_least_48 (v := 89) rfl ?_
      refine z_iald hC za_57 (by decide) (j := 89) (by decide) dX4_least_50 ?_
      refine z_aload_n hC dX4_least_51 0 rfl rfl ?_
      refine z_get4 hC 5 (by decide) zw_fl_X4_19 (v := .int (w6 56 5)) rfl dX4_least_52 ?_
      refine z_icmp_lt (tgt := 60) hC dX4_least_55 (by decide) (fun h11 => ?_) (fun h11 => ?_)
      · replace hf := zif_t h11 hf
        exact hJ60 hf
      replace hf := zif_f h11 hf
      refine z_iload_n hC dX4_least_58 1 rfl rfl ?_
      obtain ⟨rfl, rfl⟩ := zso2 hf
      exact z_iret hC dX4_least_59
  refine z_lv [1, 0] rfl ?_
  exact hL9 _ _ _ hf
theorem zy_X4_least : zYV yX4_least cX4_least 2 (some .int) RX4 0 := ⟨zw_cd_X4_least, zw_im_X4_least, zw_sel_X4_least, zw_ini_X4, by decide +kernel⟩
abbrev rm_X4_loses : Room := { frames := 3, cells := 0, slots := 0, locals := 71 }
def f_X4_loses (w : zW) (a1 : Int32) (a2 : Int32) : Option Int32 :=
  if (f_X4_isOne w a1) = (0 : Int32) then
    some (-1 : Int32)
  else
    zbd (f_X4_isDown w (0 : Int32) a1) fun v2 =>
    if v2 = (0 : Int32) then
      zbd (f_X4_lossOf w (0 : Int32) a1 a2) fun v4 =>
      some v4
    else
    some (0 : Int32)
set_option maxRecDepth 100000 in
set_option maxHeartbeats 4000000 in
theorem c_X4_loses (l : Launch) (G : zG) (w : zW) (a1 : Int32) (a2 : Int32) {r : Int32} (hf : f_X4_loses w a1 a2 = some r) : zMet l G yX4_loses cX4_loses 3 (some .int) rm_X4_loses [.ref (zad G 56), .int a1, .int a2] w (some (.int r)) w := by
  refine z_start (own := RX4) (by decide) rfl (Nat.le_of_ble_eq_true rfl) (lv := [(0, .ref (zad G 56)), (1, .int a1), (2, .int a2)]) rfl ?_
  intro p e s m args below meth c hC
  unfold f_X4_loses at hf
  refine z_aload_n hC dX4_loses_0 0 rfl rfl ?_
  refine z_iload_n hC dX4_loses_1 1 rfl rfl ?_
  refine z_cvi (As := [.int a1]) (rest := []) hC zo_mod rfl (c_X4_isOne l G w a1) zw_ml_X4_177 zy_X4_isOne ⟨rfl, rfl, Nat.le_of_ble_eq_true rfl, Nat.le_of_ble_eq_true rfl⟩ rfl rfl (Nat.le_of_ble_eq_true rfl) dX4_loses_2 ?_
  refine z_if_ne (tgt := 12) hC dX4_loses_5 (by decide) (fun h1 => ?_) (fun h1 => ?_)
  · replace hf := zif_f h1 hf
    refine z_aload_n hC dX4_loses_12 0 rfl rfl ?_
    refine z_iconst hC dX4_loses_13 (v := 0) rfl ?_
    refine z_iload_n hC dX4_loses_14 1 rfl rfl ?_
    obtain ⟨v2, ev2, hf⟩ := zbd_e hf
    refine z_cvi (As := [.int (0 : Int32), .int a1]) (rest := []) hC zo_mod rfl (c_X4_isDown l G w (0 : Int32) a1 ev2) zw_ml_X4_167 zy_X4_isDown ⟨rfl, rfl, Nat.le_of_ble_eq_true rfl, Nat.le_of_ble_eq_true rfl⟩ rfl rfl (Nat.le_of_ble_eq_true rfl) dX4_loses_15 ?_
    refine z_if_eq (tgt := 25) hC dX4_loses_18 (by decide) (fun h3 => ?_) (fun h3 => ?_)
    · replace hf := zif_t h3 hf
      refine z_aload_n hC dX4_loses_25 0 rfl rfl ?_
      refine z_iconst hC dX4_loses_26 (v := 0) rfl ?_
      refine z_iload_n hC dX4_loses_27 1 rfl rfl ?_
      refine z_iload_n hC dX4_loses_28 2 rfl rfl ?_
      obtain ⟨v4, ev4, hf⟩ := zbd_e hf
      refine z_cvi (As := [.int (0 : Int32), .int a1, .int a2]) (rest := []) hC zo_mod rfl (c_X4_lossOf l G w (0 : Int32) a1 a2 ev4) zw_ml_X4_194 zy_X4_lossOf ⟨rfl, rfl, Nat.le_of_ble_eq_true rfl, Nat.le_of_ble_eq_true rfl⟩ rfl rfl (Nat.le_of_ble_eq_true rfl) dX4_loses_29 ?_
      obtain rfl := zso1 hf
      exact z_iret hC dX4_loses_32
    replace hf := zif_f h3 hf
    refine z_iconst hC dX4_loses_21 (v := 0) rfl ?_
    refine z_goto (tgt := 32) hC dX4_loses_22 (by decide) ?_
    obtain rfl := zso1 hf
    exact z_iret hC dX4_loses_32
  replace hf := zif_t h1 hf
  refine z_iconst hC dX4_loses_8 (v := -1) rfl ?_
  refine z_goto (tgt := 32) hC dX4_loses_9 (by decide) ?_
  obtain rfl := zso1 hf
  exact z_iret hC dX4_loses_32
theorem zy_X4_loses : zYV yX4_loses cX4_loses 3 (some .int) RX4 2 := ⟨zw_cd_X4_loses, zw_im_X4_loses, zw_sel_X4_loses, zw_ini_X4, by decide +kernel⟩
