abbrev rm_X4_lowest : Room := { frames := 0, cells := 0, slots := 0, locals := 0 }
def b_X4_lowest_6 (j31 : Int64 → Option Int64) (k6 : Int64 → Int64 → Option Int64) (v5 : Int64) (v6 : Int64) : Option Int64 :=
  if (lg_cmp v6 (0 : Int64)) = (0 : Int32) then
    j31 v5
  else
  zg (znzl v6) <|
  zlet (zreml v5 v6) fun v9 =>
  k6 v6 v9
def f_X4_lowest (a0 : Int64) (a2 : Int64) (a4 : Int32) : Option Int64 :=
  zjn1 (fun (v1 : Int64) =>
    if a4 = (0 : Int32) then
      zg (znzl v1) <|
      some (a0 / v1)
    else
      zg (znzl v1) <|
      some (a2 / v1))
  (fun (j31 : Int64 → Option Int64) =>
  zfix2 (b_X4_lowest_6 j31) 100000 a0 a2)
set_option maxRecDepth 100000 in
set_option maxHeartbeats 4000000 in
theorem c_X4_lowest (l : Launch) (G : zG) (w : zW) (a0 : Int64) (a2 : Int64) (a4 : Int32) {r : Int64} (hf : f_X4_lowest a0 a2 a4 = some r) : zMet l G yX4_lowest cX4_lowest 11 (some .long) rm_X4_lowest [.long a0, .long a2, .int a4] w (some (.long r)) w := by
  refine z_start (own := RX4) (by decide) rfl (Nat.le_of_ble_eq_true rfl) (lv := [(0, .long a0), (2, .long a2), (4, .int a4)]) rfl ?_
  intro p e s m args below meth c hC
  unfold f_X4_lowest at hf
  refine z_lload_n hC dX4_lowest_0 0 rfl rfl ?_
  refine z_lstore (lv' := [(5, .long a0), (0, .long a0), (2, .long a2), (4, .int a4)]) hC dX4_lowest_1 (by decide) rfl ?_
  refine z_lload_n hC dX4_lowest_3 2 rfl rfl ?_
  refine z_lstore (lv' := [(7, .long a2), (5, .long a0), (0, .long a0), (2, .long a2), (4, .int a4)]) hC dX4_lowest_4 (by decide) rfl ?_
  obtain ⟨j31, hj31, hf⟩ := zjn1_e hf
  have hJ31 : ∀ (v1 : Int64), j31 v1 = some r → Z G p l e rm_X4_lowest s m args below meth c (MQ below (zQ G (some (.long r)) w) args s 0 0 (zA G)) 11 31 [(0, .long a0), (2, .long a2), (4, .int a4), (5, .long v1)] [] w := by
    intro v1 hf
    replace hf := hj31 v1 hf
    refine z_iload hC dX4_lowest_31 2 rfl ?_
    refine z_if_ne (tgt := 40) hC dX4_lowest_33 (by decide) (fun h2 => ?_) (fun h2 => ?_)
    · replace hf := zif_f h2 hf
      refine z_lload_n hC dX4_lowest_40 1 rfl rfl ?_
      refine z_lload hC dX4_lowest_41 3 rfl ?_
      obtain ⟨hg3, hf⟩ := zg_e hf
      refine z_ldiv hC dX4_lowest_43 (znzl_e hg3) ?_
      obtain rfl := zso1 hf
      exact z_lret hC dX4_lowest_44
    replace hf := zif_t h2 hf
    refine z_lload_n hC dX4_lowest_36 0 rfl rfl ?_
    refine z_goto (tgt := 41) hC dX4_lowest_37 (by decide) ?_
    refine z_lload hC dX4_lowest_41 3 rfl ?_
    obtain ⟨hg4, hf⟩ := zg_e hf
    refine z_ldiv hC dX4_lowest_43 (znzl_e hg4) ?_
    obtain rfl := zso1 hf
    exact z_lret hC dX4_lowest_44
  have hL6 : ∀ (n : Nat) (v5 : Int64) (v6 : Int64), zfix2 (b_X4_lowest_6 j31) n v5 v6 = some r → Z G p l e rm_X4_lowest s m args below meth c (MQ below (zQ G (some (.long r)) w) args s 0 0 (zA G)) 11 6 [(0, .long a0), (2, .long a2), (4, .int a4), (5, .long v5), (7, .long v6)] [] w := by
    intro n
    induction n with
    | zero => intro v5 v6 hf; exact (zfix2_0 hf).elim
    | succ n ih6 =>
      intro v5 v6 hf
      replace hf := zfix2_e hf
      unfold b_X4_lowest_6 at hf
      refine z_lload hC dX4_lowest_6 4 rfl ?_
      refine z_lconst hC dX4_lowest_8 (v := 0) rfl ?_
      refine z_lcmp hC dX4_lowest_9 ?_
      refine z_if_eq (tgt := 31) hC dX4_lowest_10 (by decide) (fun h7 => ?_) (fun h7 => ?_)
      · replace hf := zif_t h7 hf
        refine z_lv [0, 1, 2, 3] rfl ?_
        exact hJ31 _ hf
      replace hf := zif_f h7 hf
      refine z_lload hC dX4_lowest_13 3 rfl ?_
      refine z_lload hC dX4_lowest_15 4 rfl ?_
      obtain ⟨hg8, hf⟩ := zg_e hf
      refine z_lrem hC dX4_lowest_17 (znzl_e hg8) ?_
      obtain ⟨v9, ev9, hf⟩ := zlet_e hf
      refine z_topl ev9 ?_
      refine z_lstore (lv' := [(9, .long v9), (0, .long a0), (2, .long a2), (4, .int a4), (5, .long v5), (7, .long v6)]) hC dX4_lowest_18 (by decide) rfl ?_
      refine z_lload hC dX4_lowest_20 5 rfl ?_
      refine z_lstore (lv' := [(5, .long v6), (9, .long v9), (0, .long a0), (2, .long a2), (4, .int a4), (7, .long v6)]) hC dX4_lowest_22 (by decide) rfl ?_
      refine z_lload hC dX4_lowest_24 1 rfl ?_
      refine z_lstore (lv' := [(7, .long v9), (5, .long v6), (9, .long v9), (0, .long a0), (2, .long a2), (4, .int a4)]) hC dX4_lowest_26 (by decide) rfl ?_
      refine z_goto (tgt := 6) hC dX4_lowest_28 (by decide) ?_
      refine z_lv [3, 4, 5, 1, 0] rfl ?_
      exact ih6 _ _ hf
  refine z_lv [2, 3, 4, 1, 0] rfl ?_
  exact hL6 _ _ _ hf
theorem zy_X4_lowest : zYS yX4_lowest cX4_lowest 11 (some .long) 3 := ⟨zw_cd_X4_lowest, zw_st_X4_lowest, zw_ini_X4, by decide +kernel⟩
abbrev rm_X4_sumBy : Room := { frames := 7, cells := 0, slots := 0, locals := 161 }
def b_X4_sumBy_29 (v2 : Int32) (j134 : Int64 → zW → Option (Int64 × zW)) (k29 : Int64 → Int32 → zW → Option (Int64 × zW)) (v18 : Int64) (v19 : Int32) (w20 : zW) : Option (Int64 × zW) :=
  if (w20 56 4) ≤ v19 then
    j134 v18 w20
  else
  zjn1 (fun (v22 : Int32) =>
    zg (zin ((14 : Int32) + v19) 120) <|
    zjn1 (fun (v24 : Int32) =>
      zjn1 (fun (v25 : Int64) =>
        zlet (v18 * v25) fun v26 =>
        zjn1 (fun (v27 : Int32) =>
          zg (zin ((114 : Int32) + v19) 120) <|
          zlet (zup w20 57 (zx ((114 : Int32) + v19)) v27) fun w29 =>
          zlet (v19 + (1 : Int32)) fun v30 =>
          k29 v26 v30 w29)
        (fun (j127 : Int32 → Option (Int64 × zW)) =>
        if v22 = (0 : Int32) then
          j127 (1 : Int32)
        else
        j127 (0 : Int32)))
      (fun (j105 : Int64 → Option (Int64 × zW)) =>
      if v22 = (0 : Int32) then
        j105 (((10 : Int32) - v24).toInt64)
      else
      j105 (v24.toInt64)))
    (fun (j84 : Int32 → Option (Int64 × zW)) =>
    if (w20 57 (zx ((14 : Int32) + v19))) = (1 : Int32) then
      j84 (0 : Int32)
    else
      zg (zin ((17 : Int32) + v19) 120) <|
      j84 (w20 57 (zx ((17 : Int32) + v19)))))
  (fun (j54 : Int32 → Option (Int64 × zW)) =>
  if ((v2 >>> (v19 &&& 31)) &&& (1 : Int32)) = (1 : Int32) then
    j54 (1 : Int32)
  else
    j54 (0 : Int32))
def b_X4_sumBy_5 (a1 : Int32) (a2 : Int32) (k5 : Int64 → Int32 → zW → Option (Int64 × zW)) (v1 : Int64) (v2 : Int32) (w3 : zW) : Option (Int64 × zW) :=
  if ((1 : Int32) <<< ((w3 56 4) &&& 31)) ≤ v2 then
    some (v1, w3)
  else
  zbd (f_X4_copies w3 (0 : Int32) (100 : Int32)) fun w5 =>
  zjn2 (fun (v6 : Int64) (w7 : zW) =>
    zjn2 (fun (v8 : Int32) (w9 : zW) =>
      zjn1 (fun (v10 : Int32) =>
        zlet (v1 + (v6 * (v10.toInt64))) fun v11 =>
        zlet (v2 + (1 : Int32)) fun v12 =>
        k5 v11 v12 w9)
      (fun (j177 : Int32 → Option (Int64 × zW)) =>
      if a2 = (0 : Int32) then
        j177 v8
      else
        if v8 < a2 then
          j177 (0 : Int32)
        else
        j177 (1 : Int32)))
    (fun (j152 : Int32 → zW → Option (Int64 × zW)) =>
    if (lg_cmp v6 (0 : Int64)) = (0 : Int32) then
      j152 (0 : Int32) w7
    else
      zbd2 (f_X4_arriveFrom w7 (100 : Int32) a1) fun v17 w16 =>
      j152 v17 w16))
  (fun (j134 : Int64 → zW → Option (Int64 × zW)) =>
  zfix3 (b_X4_sumBy_29 v2 j134) 100000 (1 : Int64) (0 : Int32) w5)
def f_X4_sumBy (w : zW) (a1 : Int32) (a2 : Int32) : Option (Int64 × zW) :=
  zfix3 (b_X4_sumBy_5 a1 a2) 100000 (0 : Int64) (0 : Int32) w
set_option maxRecDepth 100000 in
set_option maxHeartbeats 4000000 in
theorem c_X4_sumBy (l : Launch) (G : zG) (w : zW) (a1 : Int32) (a2 : Int32) {r : Int64} {wz : zW} (hf : f_X4_sumBy w a1 a2 = some (r, wz)) : zMet l G yX4_sumBy cX4_sumBy 11 (some .long) rm_X4_sumBy [.ref (zad G 56), .int a1, .int a2] w (some (.long r)) wz := by
  refine z_start (own := RX4) (by decide) rfl (Nat.le_of_ble_eq_true rfl) (lv := [(0, .ref (zad G 56)), (1, .int a1), (2, .int a2)]) rfl ?_
  intro p e s m args below meth c hC
  unfold f_X4_sumBy at hf
  refine z_lconst hC dX4_sumBy_0 (v := 0) rfl ?_
  refine z_lstore_n (lv' := [(3, .long (0 : Int64)), (0, .ref (zad G 56)), (1, .int a1), (2, .int a2)]) hC dX4_sumBy_1 rfl (by decide) rfl ?_
  refine z_iconst hC dX4_sumBy_2 (v := 0) rfl ?_
  refine z_istore (lv' := [(5, .int (0 : Int32)), (3, .long (0 : Int64)), (0, .ref (zad G 56)), (1, .int a1), (2, .int a2)]) hC dX4_sumBy_3 (by decide) rfl ?_
  have hL5 : ∀ (n : Nat) (v1 : Int64) (v2 : Int32) (w3 : zW), zfix3 (b_X4_sumBy_5 a1 a2) n v1 v2 w3 = some (r, wz) → Z G p l e rm_X4_sumBy s m args below meth c (MQ below (zQ G (some (.long r)) wz) args s 0 0 (zA G)) 11 5 [(0, .ref (zad G 56)), (1, .int a1), (2, .int a2), (3, .long v1), (5, .int v2)] [] w3 := by
    intro n
    induction n with
    | zero => intro v1 v2 w3 hf; exact (zfix3_0 hf).elim
    | succ n ih5 =>
      intro v1 v2 w3 hf
      replace hf := zfix3_e hf
      unfold b_X4_sumBy_5 at hf
      refine z_iload hC dX4_sumBy_5 4 rfl ?_
      refine z_iconst hC dX4_sumBy_7 (v := 1) rfl ?_
      refine z_aload_n hC dX4_sumBy_8 0 rfl rfl ?_
      refine z_get4 hC 4 (by decide) zw_fl_X4_153 (v := .int (w3 56 4)) rfl dX4_sumBy_9 ?_
      refine z_ishl hC dX4_sumBy_12 ?_
      refine z_icmp_ge (tgt := 187) hC dX4_sumBy_13 (by decide) (fun h4 => ?_) (fun h4 => ?_)
      · replace hf := zif_t h4 hf
        refine z_lload_n hC dX4_sumBy_187 3 rfl rfl ?_
        obtain ⟨rfl, rfl⟩ := zso2 hf
        exact z_lret hC dX4_sumBy_188
      replace hf := zif_f h4 hf
      refine z_lconst hC dX4_sumBy_16 (v := 1) rfl ?_
      refine z_lstore (lv' := [(6, .long (1 : Int64)), (0, .ref (zad G 56)), (1, .int a1), (2, .int a2), (3, .long v1), (5, .int v2)]) hC dX4_sumBy_17 (by decide) rfl ?_
      refine z_aload_n hC dX4_sumBy_19 1 rfl rfl ?_
      refine z_iconst hC dX4_sumBy_20 (v := 0) rfl ?_
      refine z_bipush hC dX4_sumBy_21 (v := 100) rfl ?_
      obtain ⟨w5, ew5, hf⟩ := zbd_e hf
      refine z_cvv (As := [.int (0 : Int32), .int (100 : Int32)]) (rest := []) hC zo_mod rfl (c_X4_copies l G w3 (0 : Int32) (100 : Int32) ew5) zw_ml_X4_250 zy_X4_copies ⟨rfl, rfl, Nat.le_of_ble_eq_true rfl, Nat.le_of_ble_eq_true rfl⟩ rfl rfl (Nat.le_of_ble_eq_true rfl) dX4_sumBy_23 ?_
      refine z_iconst hC dX4_sumBy_26 (v := 0) rfl ?_
      refine z_istore (lv' := [(8, .int (0 : Int32)), (6, .long (1 : Int64)), (0, .ref (zad G 56)), (1, .int a1), (2, .int a2), (3, .long v1), (5, .int v2)]) hC dX4_sumBy_27 (by decide) rfl ?_
      obtain ⟨j134, hj134, hf⟩ := zjn2_e hf
      have hJ134 : ∀ (v6 : Int64) (w7 : zW), j134 v6 w7 = some (r, wz) → Z G p l e rm_X4_sumBy s m args below meth c (MQ below (zQ G (some (.long r)) wz) args s 0 0 (zA G)) 11 134 [(0, .ref (zad G 56)), (1, .int a1), (2, .int a2), (3, .long v1), (5, .int v2), (6, .long v6)] [] w7 := by
        intro v6 w7 hf
        replace hf := hj134 v6 w7 hf
        refine z_lload hC dX4_sumBy_134 5 rfl ?_
        refine z_lconst hC dX4_sumBy_136 (v := 0) rfl ?_
        refine z_lcmp hC dX4_sumBy_137 ?_
        obtain ⟨j152, hj152, hf⟩ := zjn2_e hf
        have hJ152 : ∀ (v8 : Int32) (w9 : zW), j152 v8 w9 = some (r, wz) → Z G p l e rm_X4_sumBy s m args below meth c (MQ below (zQ G (some (.long r)) wz) args s 0 0 (zA G)) 11 152 [(0, .ref (zad G 56)), (1, .int a1), (2, .int a2), (3, .long v1), (5, .int v2), (6, .long v6)] [.int v8] w9 := by
          intro v8 w9 hf
          replace hf := hj152 v8 w9 hf
          refine z_istore (lv' := [(8, .int v8), (0, .ref (zad G 56)), (1, .int a1), (2, .int a2), (3, .long v1), (5, .int v2), (6, .long v6)]) hC dX4_sumBy_152 (by decide) rfl ?_
          refine z_lload_n hC dX4_sumBy_154 4 rfl rfl ?_
          refine z_lload hC dX4_sumBy_155 6 rfl ?_
          refine z_iload_n hC dX4_sumBy_157 3 rfl rfl ?_
          obtain ⟨j177, hj177, hf⟩ := zjn1_e hf
          have hJ177 : ∀ (v10 : Int32), j177 v10 = some (r, wz) → Z G p l e rm_X4_sumBy s m args below meth c (MQ below (zQ G (some (.long r)) wz) args s 0 0 (zA G)) 11 177 [(0, .ref (zad G 56)), (1, .int a1), (2, .int a2), (5, .int v2)] [.int v10, .long v6, .long v1] w9 := by
            intro v10 hf
            replace hf := hj177 v10 hf
            refine z_i2l hC dX4_sumBy_177 ?_
            refine z_lmul hC dX4_sumBy_178 ?_
            refine z_ladd hC dX4_sumBy_179 ?_
            obtain ⟨v11, ev11, hf⟩ := zlet_e hf
            refine z_topl ev11 ?_
            refine z_lstore_n (lv' := [(3, .long v11), (0, .ref (zad G 56)), (1, .int a1), (2, .int a2), (5, .int v2)]) hC dX4_sumBy_180 rfl (by decide) rfl ?_
            obtain ⟨v12, ev12, hf⟩ := zlet_e hf
            refine z_iinc (v := v12) (lv' := [(5, .int v12), (3, .long v11), (0, .ref (zad G 56)), (1, .int a1), (2, .int a2)]) hC dX4_sumBy_181 4 rfl (by rw [ev12]; rfl) (by decide) rfl ?_
            refine z_goto (tgt := 5) hC dX4_sumBy_184 (by decide) ?_
            refine z_lv [2, 3, 4, 1, 0] rfl ?_
            exact ih5 _ _ _ hf
          refine z_if_ne (tgt := 166) hC dX4_sumBy_158 (by decide) (fun h13 => ?_) (fun h13 => ?_)
          · replace hf := zif_f h13 hf
            refine z_iload hC dX4_sumBy_166 0 rfl ?_
            refine z_iload_n hC dX4_sumBy_168 3 rfl rfl ?_
            refine z_icmp_lt (tgt := 176) hC dX4_sumBy_169 (by decide) (fun h14 => ?_) (fun h14 => ?_)
            · replace hf := zif_t h14 hf
              refine z_iconst hC dX4_sumBy_176 (v := 0) rfl ?_
              refine z_lv [1, 2, 3, 5] rfl ?_
              exact hJ177 _ hf
            replace hf := zif_f h14 hf
            refine z_iconst hC dX4_sumBy_172 (v := 1) rfl ?_
            refine z_goto (tgt := 177) hC dX4_sumBy_173 (by decide) ?_
            refine z_lv [1, 2, 3, 5] rfl ?_
            exact hJ177 _ hf
          replace hf := zif_t h13 hf
          refine z_iload hC dX4_sumBy_161 0 rfl ?_
          refine z_goto (tgt := 177) hC dX4_sumBy_163 (by decide) ?_
          refine z_lv [1, 2, 3, 5] rfl ?_
          exact hJ177 _ hf
        refine z_if_ne (tgt := 145) hC dX4_sumBy_138 (by decide) (fun h15 => ?_) (fun h15 => ?_)
        · replace hf := zif_f h15 hf
          refine z_aload_n hC dX4_sumBy_145 0 rfl rfl ?_
          refine z_bipush hC dX4_sumBy_146 (v := 100) rfl ?_
          refine z_iload_n hC dX4_sumBy_148 1 rfl rfl ?_
          obtain ⟨v17, w16, ew16, hf⟩ := zbd2_e hf
          refine z_cvi (As := [.int (100 : Int32), .int a1]) (rest := []) hC zo_mod rfl (c_X4_arriveFrom l G w7 (100 : Int32) a1 ew16) zw_ml_X4_256 zy_X4_arriveFrom ⟨rfl, rfl, Nat.le_of_ble_eq_true rfl, Nat.le_of_ble_eq_true rfl⟩ rfl rfl (Nat.le_of_ble_eq_true rfl) dX4_sumBy_149 ?_
          exact hJ152 _ _ hf
        replace hf := zif_t h15 hf
        refine z_iconst hC dX4_sumBy_141 (v := 0) rfl ?_
        refine z_goto (tgt := 152) hC dX4_sumBy_142 (by decide) ?_
        exact hJ152 _ _ hf
      have hL29 : ∀ (n : Nat) (v18 : Int64) (v19 : Int32) (w20 : zW), zfix3 (b_X4_sumBy_29 v2 j134) n v18 v19 w20 = some (r, wz) → Z G p l e rm_X4_sumBy s m args below meth c (MQ below (zQ G (some (.long r)) wz) args s 0 0 (zA G)) 11 29 [(0, .ref (zad G 56)), (1, .int a1), (2, .int a2), (3, .long v1), (5, .int v2), (6, .long v18), (8, .int v19)] [] w20 := by
        intro n
        induction n with
        | zero => intro v18 v19 w20 hf; exact (zfix3_0 hf).elim
        | succ n ih29 =>
          intro v18 v19 w20 hf
          replace hf := zfix3_e hf
          unfold b_X4_sumBy_29 at hf
          refine z_iload hC dX4_sumBy_29 6 rfl ?_
          refine z_aload_n hC dX4_sumBy_31 0 rfl rfl ?_
          refine z_get4 hC 4 (by decide) zw_fl_X4_153 (v := .int (w20 56 4)) rfl dX4_sumBy_32 ?_
          refine z_icmp_ge (tgt := 134) hC dX4_sumBy_35 (by decide) (fun h21 => ?_) (fun h21 => ?_)
          · replace hf := zif_t h21 hf
            refine z_lv [0, 1, 2, 3, 4, 5] rfl ?_
            exact hJ134 _ _ hf
          replace hf := zif_f h21 hf
          refine z_iload hC dX4_sumBy_38 4 rfl ?_
          refine z_iload hC dX4_sumBy_40 6 rfl ?_
          refine z_ishr hC dX4_sumBy_42 ?_
          refine z_iconst hC dX4_sumBy_43 (v := 1) rfl ?_
          refine z_iand hC dX4_sumBy_44 ?_
          refine z_iconst hC dX4_sumBy_45 (v := 1) rfl ?_
          obtain ⟨j54, hj54, hf⟩ := zjn1_e hf
          have hJ54 : ∀ (v22 : Int32), j54 v22 = some (r, wz) → Z G p l e rm_X4_sumBy s m args below meth c (MQ below (zQ G (some (.long r)) wz) args s 0 0 (zA G)) 11 54 [(0, .ref (zad G 56)), (1, .int a1), (2, .int a2), (3, .long v1), (5, .int v2), (6, .long v18), (8, .int v19)] [.int v22] w20 := by
            intro v22 hf
            replace hf := hj54 v22 hf
            refine z_istore (lv' := [(9, .int v22), (0, .ref (zad G 56)), (1, .int a1), (2, .int a2), (3, .long v1), (5, .int v2), (6, .long v18), (8, .int v19)]) hC dX4_sumBy_54 (by decide) rfl ?_
            refine z_aload_n hC dX4_sumBy_56 1 rfl rfl ?_
            refine z_get4 hC 0 (by decide) zw_fl_X4_7 (v := .ref (zad G 57)) rfl dX4_sumBy_57 ?_
            refine z_bipush hC dX4_sumBy_60 (v := 14) rfl ?_
            refine z_iload hC dX4_sumBy_62 7 rfl ?_
            refine z_iadd hC dX4_sumBy_64 ?_
            obtain ⟨hg23, hf⟩ := zg_e hf
            refine z_iald hC za_57 hg23 rfl dX4_sumBy_65 ?_
            refine z_iconst hC dX4_sumBy_66 (v := 1) rfl ?_
            obtain ⟨j84, hj84, hf⟩ := zjn1_e hf
            have hJ84 : ∀ (v24 : Int32), j84 v24 = some (r, wz) → Z G p l e rm_X4_sumBy s m args below meth c (MQ below (zQ G (some (.long r)) wz) args s 0 0 (zA G)) 11 84 [(0, .ref (zad G 56)), (1, .int a1), (2, .int a2), (3, .long v1), (5, .int v2), (6, .long v18), (8, .int v19), (9, .int v22)] [.int v24] w20 := by
              intro v24 hf
              replace hf := hj84 v24 hf
              refine z_istore (lv' := [(10, .int v24), (0, .ref (zad G 56)), (1, .int a1), (2, .int a2), (3, .long v1), (5, .int v2), (6, .long v18), (8, .int v19), (9, .int v22)]) hC dX4_sumBy_84 (by decide) rfl ?_
              refine z_lload hC dX4_sumBy_86 6 rfl ?_
              refine z_iload hC dX4_sumBy_88 8 rfl ?_
              obtain ⟨j105, hj105, hf⟩ := zjn1_e hf
              have hJ105 : ∀ (v25 : Int64), j105 v25 = some (r, wz) → Z G p l e rm_X4_sumBy s m args below meth c (MQ below (zQ G (some (.long r)) wz) args s 0 0 (zA G)) 11 105 [(0, .ref (zad G 56)), (1, .int a1), (2, .int a2), (3, .long v1), (5, .int v2), (8, .int v19), (9, .int v22)] [.long v25, .long v18] w20 := by
                intro v25 hf
                replace hf := hj105 v25 hf
                refine z_lmul hC dX4_sumBy_105 ?_
                obtain ⟨v26, ev26, hf⟩ := zlet_e hf
                refine z_topl ev26 ?_
                refine z_lstore (lv' := [(6, .long v26), (0, .ref (zad G 56)), (1, .int a1), (2, .int a2), (3, .long v1), (5, .int v2), (8, .int v19), (9, .int v22)]) hC dX4_sumBy_106 (by decide) rfl ?_
                refine z_aload_n hC dX4_sumBy_108 1 rfl rfl ?_
                refine z_get4 hC 0 (by decide) zw_fl_X4_7 (v := .ref (zad G 57)) rfl dX4_sumBy_109 ?_
                refine z_bipush hC dX4_sumBy_112 (v := 114) rfl ?_
                refine z_iload hC dX4_sumBy_114 6 rfl ?_
                refine z_iadd hC dX4_sumBy_116 ?_
                refine z_iload hC dX4_sumBy_117 7 rfl ?_
                obtain ⟨j127, hj127, hf⟩ := zjn1_e hf
                have hJ127 : ∀ (v27 : Int32), j127 v27 = some (r, wz) → Z G p l e rm_X4_sumBy s m args below meth c (MQ below (zQ G (some (.long r)) wz) args s 0 0 (zA G)) 11 127 [(0, .ref (zad G 56)), (1, .int a1), (2, .int a2), (3, .long v1), (5, .int v2), (6, .long v26), (8, .int v19)] [.int v27, .int ((114 : Int32) + v19), .ref (zad G 57)] w20 := by
                  intro v27 hf
                  replace hf := hj127 v27 hf
                  obtain ⟨hg28, hf⟩ := zg_e hf
                  obtain ⟨w29, ew29, hf⟩ := zlet_e hf
                  refine z_iast hC za_57 hg28 rfl ew29 dX4_sumBy_127 ?_
                  obtain ⟨v30, ev30, hf⟩ := zlet_e hf
                  refine z_iinc (v := v30) (lv' := [(8, .int v30), (0, .ref (zad G 56)), (1, .int a1), (2, .int a2), (3, .long v1), (5, .int v2), (6, .long v26)]) hC dX4_sumBy_128 6 rfl (by rw [ev30]; rfl) (by decide) rfl ?_
                  refine z_goto (tgt := 29) hC dX4_sumBy_131 (by decide) ?_
                  refine z_lv [1, 2, 3, 4, 5, 6, 0] rfl ?_
                  exact ih29 _ _ _ hf
                refine z_if_eq (tgt := 126) hC dX4_sumBy_119 (by decide) (fun h31 => ?_) (fun h31 => ?_)
                · replace hf := zif_t h31 hf
                  refine z_iconst hC dX4_sumBy_126 (v := 1) rfl ?_
                  refine z_lv [1, 2, 3, 4, 5, 0, 6] rfl ?_
                  exact hJ127 _ hf
                replace hf := zif_f h31 hf
                refine z_iconst hC dX4_sumBy_122 (v := 0) rfl ?_
                refine z_goto (tgt := 127) hC dX4_sumBy_123 (by decide) ?_
                refine z_lv [1, 2, 3, 4, 5, 0, 6] rfl ?_
                exact hJ127 _ hf
              refine z_if_eq (tgt := 99) hC dX4_sumBy_90 (by decide) (fun h32 => ?_) (fun h32 => ?_)
              · replace hf := zif_t h32 hf
                refine z_bipush hC dX4_sumBy_99 (v := 10) rfl ?_
                refine z_iload hC dX4_sumBy_101 0 rfl ?_
                refine z_isub hC dX4_sumBy_103 ?_
                refine z_i2l hC dX4_sumBy_104 ?_
                refine z_lv [1, 2, 3, 4, 5, 7, 8] rfl ?_
                exact hJ105 _ hf
              replace hf := zif_f h32 hf
              refine z_iload hC dX4_sumBy_93 0 rfl ?_
              refine z_i2l hC dX4_sumBy_95 ?_
              refine z_goto (tgt := 105) hC dX4_sumBy_96 (by decide) ?_
              refine z_lv [1, 2, 3, 4, 5, 7, 8] rfl ?_
              exact hJ105 _ hf
            refine z_icmp_ne (tgt := 74) hC dX4_sumBy_67 (by decide) (fun h33 => ?_) (fun h33 => ?_)
            · replace hf := zif_f h33 hf
              refine z_aload_n hC dX4_sumBy_74 1 rfl rfl ?_
              refine z_get4 hC 0 (by decide) zw_fl_X4_7 (v := .ref (zad G 57)) rfl dX4_sumBy_75 ?_
              refine z_bipush hC dX4_sumBy_78 (v := 17) rfl ?_
              refine z_iload hC dX4_sumBy_80 7 rfl ?_
              refine z_iadd hC dX4_sumBy_82 ?_
              obtain ⟨hg34, hf⟩ := zg_e hf
              refine z_iald hC za_57 hg34 rfl dX4_sumBy_83 ?_
              refine z_lv [1, 2, 3, 4, 5, 6, 7, 0] rfl ?_
              exact hJ84 _ hf
            replace hf := zif_t h33 hf
            refine z_iconst hC dX4_sumBy_70 (v := 0) rfl ?_
            refine z_goto (tgt := 84) hC dX4_sumBy_71 (by decide) ?_
            refine z_lv [1, 2, 3, 4, 5, 6, 7, 0] rfl ?_
            exact hJ84 _ hf
          refine z_icmp_ne (tgt := 53) hC dX4_sumBy_46 (by decide) (fun h35 => ?_) (fun h35 => ?_)
          · replace hf := zif_f h35 hf
            refine z_iconst hC dX4_sumBy_53 (v := 0) rfl ?_
            exact hJ54 _ hf
          replace hf := zif_t h35 hf
          refine z_iconst hC dX4_sumBy_49 (v := 1) rfl ?_
          refine z_goto (tgt := 54) hC dX4_sumBy_50 (by decide) ?_
          exact hJ54 _ hf
      refine z_lv [2, 3, 4, 5, 6, 1, 0] rfl ?_
      exact hL29 _ _ _ _ hf
  refine z_lv [2, 3, 4, 1, 0] rfl ?_
  exact hL5 _ _ _ _ hf
theorem zy_X4_sumBy : zYV yX4_sumBy cX4_sumBy 11 (some .long) RX4 2 := ⟨zw_cd_X4_sumBy, zw_im_X4_sumBy, zw_sel_X4_sumBy, zw_ini_X4, by decide +kernel⟩
abbrev rm_X4_tens : Room := { frames := 0, cells := 0, slots := 0, locals := 0 }
def b_X4_tens_5 (a1 : Int32) (k5 : Int64 → Int32 → Option Int64) (v1 : Int64) (v2 : Int32) : Option Int64 :=
  if a1 ≤ v2 then
    some v1
  else
  zlet (v1 * (10 : Int64)) fun v4 =>
  zlet (v2 + (1 : Int32)) fun v5 =>
  k5 v4 v5
def f_X4_tens (a1 : Int32) : Option Int64 :=
  zfix2 (b_X4_tens_5 a1) 100000 (1 : Int64) (0 : Int32)
set_option maxRecDepth 100000 in
set_option maxHeartbeats 4000000 in
theorem c_X4_tens (l : Launch) (G : zG) (w : zW) (a1 : Int32) {r : Int64} (hf : f_X4_tens a1 = some r) : zMet l G yX4_tens cX4_tens 5 (some .long) rm_X4_tens [.ref (zad G 56), .int a1] w (some (.long r)) w := by
  refine z_start (own := RX4) (by decide) rfl (Nat.le_of_ble_eq_true rfl) (lv := [(0, .ref (zad G 56)), (1, .int a1)]) rfl ?_
  intro p e s m args below meth c hC
  unfold f_X4_tens at hf
  refine z_lconst hC dX4_tens_0 (v := 1) rfl ?_
  refine z_lstore_n (lv' := [(2, .long (1 : Int64)), (0, .ref (zad G 56)), (1, .int a1)]) hC dX4_tens_1 rfl (by decide) rfl ?_
  refine z_iconst hC dX4_tens_2 (v := 0) rfl ?_
  refine z_istore (lv' := [(4, .int (0 : Int32)), (2, .long (1 : Int64)), (0, .ref (zad G 56)), (1, .int a1)]) hC dX4_tens_3 (by decide) rfl ?_
  have hL5 : ∀ (n : Nat) (v1 : Int64) (v2 : Int32), zfix2 (b_X4_tens_5 a1) n v1 v2 = some r → Z G p l e rm_X4_tens s m args below meth c (MQ below (zQ G (some (.long r)) w) args s 0 0 (zA G)) 5 5 [(1, .int a1), (2, .long v1), (4, .int v2)] [] w := by
    intro n
    induction n with
    | zero => intro v1 v2 hf; exact (zfix2_0 hf).elim
    | succ n ih5 =>
      intro v1 v2 hf
      replace hf := zfix2_e hf
      unfold b_X4_tens_5 at hf
      refine z_iload hC dX4_tens_5 2 rfl ?_
      refine z_iload_n hC dX4_tens_7 0 rfl rfl ?_
      refine z_icmp_ge (tgt := 23) hC dX4_tens_8 (by decide) (fun h3 => ?_) (fun h3 => ?_)
      · replace hf := zif_t h3 hf
        refine z_lload_n hC dX4_tens_23 1 rfl rfl ?_
        obtain rfl := zso1 hf
        exact z_lret hC dX4_tens_24
      replace hf := zif_f h3 hf
      refine z_lload_n hC dX4_tens_11 1 rfl rfl ?_
      refine z_ldc2 hC zw_cst_X4_214 dX4_tens_12 ?_
      refine z_lmul hC dX4_tens_15 ?_
      obtain ⟨v4, ev4, hf⟩ := zlet_e hf
      refine z_topl ev4 ?_
      refine z_lstore_n (lv' := [(2, .long v4), (1, .int a1), (4, .int v2)]) hC dX4_tens_16 rfl (by decide) rfl ?_
      obtain ⟨v5, ev5, hf⟩ := zlet_e hf
      refine z_iinc (v := v5) (lv' := [(4, .int v5), (2, .long v4), (1, .int a1)]) hC dX4_tens_17 2 rfl (by rw [ev5]; rfl) (by decide) rfl ?_
      refine z_goto (tgt := 5) hC dX4_tens_20 (by decide) ?_
      refine z_lv [2, 1, 0] rfl ?_
      exact ih5 _ _ hf
  refine z_lv [3, 1, 0] rfl ?_
  exact hL5 _ _ _ hf
theorem zy_X4_tens : zYV yX4_tens cX4_tens 5 (some .long) RX4 1 := ⟨zw_cd_X4_tens, zw_im_X4_tens, zw_sel_X4_tens, zw_ini_X4, by decide +kernel⟩
abbrev rm_X4_luck : Room := { frames := 8, cells := 0, slots := 0, locals := 191 }
def f_X4_luck (w : zW) (a1 : Int32) (a2 : Int32) (a3 : Int32) : Option (Int64 × zW) :=
  if (f_X4_in (a1.toInt64) (1 : Int64) (4 : Int64)) = (0 : Int32) then
    some ((-1 : Int64), w)
  else
  if (f_X4_isPlan a2) = (0 : Int32) then
    some ((-1 : Int64), w)
  else
  if (f_X4_in (a3.toInt64) (0 : Int64) (1 : Int64)) = (0 : Int32) then
    some ((-1 : Int64), w)
  else
    zbd2 (f_X4_sumBy w a2 a1) fun v5 w4 =>
    zbd (f_X4_tens (w4 56 4)) fun v6 =>
    zbd (f_X4_lowest v5 v6 a3) fun v7 =>
    some (v7, w4)
set_option maxRecDepth 100000 in
set_option maxHeartbeats 4000000 in
theorem c_X4_luck (l : Launch) (G : zG) (w : zW) (a1 : Int32) (a2 : Int32) (a3 : Int32) {r : Int64} {wz : zW} (hf : f_X4_luck w a1 a2 a3 = some (r, wz)) : zMet l G yX4_luck cX4_luck 4 (some .long) rm_X4_luck [.ref (zad G 56), .int a1, .int a2, .int a3] w (some (.long r)) wz := by
  refine z_start (own := RX4) (by decide) rfl (Nat.le_of_ble_eq_true rfl) (lv := [(0, .ref (zad G 56)), (1, .int a1), (2, .int a2), (3, .int a3)]) rfl ?_
  intro p e s m args below meth c hC
  unfold f_X4_luck at hf
  refine z_iload_n hC dX4_luck_0 1 rfl rfl ?_
  refine z_i2l hC dX4_luck_1 ?_
  refine z_lconst hC dX4_luck_2 (v := 1) rfl ?_
  refine z_ldc2 hC zw_cst_X4_198 dX4_luck_3 ?_
  refine z_csi (As := [.long (a1.toInt64), .long (1 : Int64), .long (4 : Int64)]) (rest := []) hC (c_X4_in l G w (a1.toInt64) (1 : Int64) (4 : Int64)) zw_ml_X4_59 zy_X4_in ⟨rfl, rfl, Nat.le_of_ble_eq_true rfl, Nat.le_of_ble_eq_true rfl⟩ rfl rfl (Nat.le_of_ble_eq_true rfl) dX4_luck_6 ?_
  refine z_if_eq (tgt := 29) hC dX4_luck_9 (by decide) (fun h1 => ?_) (fun h1 => ?_)
  · replace hf := zif_t h1 hf
    refine z_ldc2 hC zw_cst_X4_259 dX4_luck_29 ?_
    obtain ⟨rfl, rfl⟩ := zso2 hf
    exact z_lret hC dX4_luck_32
  replace hf := zif_f h1 hf
  refine z_iload_n hC dX4_luck_12 2 rfl rfl ?_
  refine z_csi (As := [.int a2]) (rest := []) hC (c_X4_isPlan l G w a2) zw_ml_X4_211 zy_X4_isPlan ⟨rfl, rfl, Nat.le_of_ble_eq_true rfl, Nat.le_of_ble_eq_true rfl⟩ rfl rfl (Nat.le_of_ble_eq_true rfl) dX4_luck_13 ?_
  refine z_if_eq (tgt := 29) hC dX4_luck_16 (by decide) (fun h2 => ?_) (fun h2 => ?_)
  · replace hf := zif_t h2 hf
    refine z_ldc2 hC zw_cst_X4_259 dX4_luck_29 ?_
    obtain ⟨rfl, rfl⟩ := zso2 hf
    exact z_lret hC dX4_luck_32
  replace hf := zif_f h2 hf
  refine z_iload_n hC dX4_luck_19 3 rfl rfl ?_
  refine z_i2l hC dX4_luck_20 ?_
  refine z_lconst hC dX4_luck_21 (v := 0) rfl ?_
  refine z_lconst hC dX4_luck_22 (v := 1) rfl ?_
  refine z_csi (As := [.long (a3.toInt64), .long (0 : Int64), .long (1 : Int64)]) (rest := []) hC (c_X4_in l G w (a3.toInt64) (0 : Int64) (1 : Int64)) zw_ml_X4_59 zy_X4_in ⟨rfl, rfl, Nat.le_of_ble_eq_true rfl, Nat.le_of_ble_eq_true rfl⟩ rfl rfl (Nat.le_of_ble_eq_true rfl) dX4_luck_23 ?_
  refine z_if_ne (tgt := 33) hC dX4_luck_26 (by decide) (fun h3 => ?_) (fun h3 => ?_)
  · replace hf := zif_f h3 hf
    refine z_aload_n hC dX4_luck_33 0 rfl rfl ?_
    refine z_iload_n hC dX4_luck_34 2 rfl rfl ?_
    refine z_iload_n hC dX4_luck_35 1 rfl rfl ?_
    obtain ⟨v5, w4, ew4, hf⟩ := zbd2_e hf
    refine z_cvl (As := [.int a2, .int a1]) (rest := []) hC zo_mod rfl (c_X4_sumBy l G w a2 a1 ew4) zw_ml_X4_261 zy_X4_sumBy ⟨rfl, rfl, Nat.le_of_ble_eq_true rfl, Nat.le_of_ble_eq_true rfl⟩ rfl rfl (Nat.le_of_ble_eq_true rfl) dX4_luck_36 ?_
    refine z_aload_n hC dX4_luck_39 0 rfl rfl ?_
    refine z_aload_n hC dX4_luck_40 0 rfl rfl ?_
    refine z_get4 hC 4 (by decide) zw_fl_X4_153 (v := .int (w4 56 4)) rfl dX4_luck_41 ?_
    obtain ⟨v6, ev6, hf⟩ := zbd_e hf
    refine z_cvl (As := [.int (w4 56 4)]) (rest := [.long v5]) hC zo_mod rfl (c_X4_tens l G w4 (w4 56 4) ev6) zw_ml_X4_265 zy_X4_tens ⟨rfl, rfl, Nat.le_of_ble_eq_true rfl, Nat.le_of_ble_eq_true rfl⟩ rfl rfl (Nat.le_of_ble_eq_true rfl) dX4_luck_44 ?_
    refine z_iload_n hC dX4_luck_47 3 rfl rfl ?_
    obtain ⟨v7, ev7, hf⟩ := zbd_e hf
    refine z_csl (As := [.long v5, .long v6, .int a3]) (rest := []) hC (c_X4_lowest l G w4 v5 v6 a3 ev7) zw_ml_X4_269 zy_X4_lowest ⟨rfl, rfl, Nat.le_of_ble_eq_true rfl, Nat.le_of_ble_eq_true rfl⟩ rfl rfl (Nat.le_of_ble_eq_true rfl) dX4_luck_48 ?_
    obtain ⟨rfl, rfl⟩ := zso2 hf
    exact z_lret hC dX4_luck_51
  replace hf := zif_t h3 hf
  refine z_ldc2 hC zw_cst_X4_259 dX4_luck_29 ?_
  obtain ⟨rfl, rfl⟩ := zso2 hf
  exact z_lret hC dX4_luck_32
theorem zy_X4_luck : zYV yX4_luck cX4_luck 4 (some .long) RX4 3 := ⟨zw_cd_X4_luck, zw_im_X4_luck, zw_sel_X4_luck, zw_ini_X4, by decide +kernel⟩
abbrev rm_X4_mean : Room := { frames := 8, cells := 0, slots := 0, locals := 191 }
def f_X4_mean (w : zW) (a1 : Int32) (a2 : Int32) : Option (Int64 × zW) :=
  zjn0 (
    some ((-1 : Int64), w))
  (fun (j38 : Option (Int64 × zW)) =>
  if (f_X4_isPlan a1) = (0 : Int32) then
    j38
  else
  if (f_X4_in (a2.toInt64) (0 : Int64) (1 : Int64)) = (0 : Int32) then
    j38
  else
  zbd2 (f_X4_sumBy w a1 (0 : Int32)) fun v4 w3 =>
  zbd (f_X4_tens (w3 56 4)) fun v5 =>
  zbd (f_X4_lowest v4 v5 a2) fun v6 =>
  some (v6, w3))
set_option maxRecDepth 100000 in
set_option maxHeartbeats 4000000 in
theorem c_X4_mean (l : Launch) (G : zG) (w : zW) (a1 : Int32) (a2 : Int32) {r : Int64} {wz : zW} (hf : f_X4_mean w a1 a2 = some (r, wz)) : zMet l G yX4_mean cX4_mean 3 (some .long) rm_X4_mean [.ref (zad G 56), .int a1, .int a2] w (some (.long r)) wz := by
  refine z_start (own := RX4) (by decide) rfl (Nat.le_of_ble_eq_true rfl) (lv := [(0, .ref (zad G 56)), (1, .int a1), (2, .int a2)]) rfl ?_
  intro p e s m args below meth c hC
  unfold f_X4_mean at hf
  refine z_iload_n hC dX4_mean_0 1 rfl rfl ?_
  refine z_csi (As := [.int a1]) (rest := []) hC (c_X4_isPlan l G w a1) zw_ml_X4_211 zy_X4_isPlan ⟨rfl, rfl, Nat.le_of_ble_eq_true rfl, Nat.le_of_ble_eq_true rfl⟩ rfl rfl (Nat.le_of_ble_eq_true rfl) dX4_mean_1 ?_
  obtain ⟨j38, hj38, hf⟩ := zjn0_e hf
  have hJ38 : j38 = some (r, wz) → Z G p l e rm_X4_mean s m args below meth c (MQ below (zQ G (some (.long r)) wz) args s 0 0 (zA G)) 3 38 [] [] w := by
    intro hf
    replace hf := hj38  hf
    refine z_ldc2 hC zw_cst_X4_259 dX4_mean_38 ?_
    obtain ⟨rfl, rfl⟩ := zso2 hf
    exact z_lret hC dX4_mean_41
  refine z_if_eq (tgt := 38) hC dX4_mean_4 (by decide) (fun h1 => ?_) (fun h1 => ?_)
  · replace hf := zif_t h1 hf
    refine z_lv [] rfl ?_
    exact hJ38 hf
  replace hf := zif_f h1 hf
  refine z_iload_n hC dX4_mean_7 2 rfl rfl ?_
  refine z_i2l hC dX4_mean_8 ?_
  refine z_lconst hC dX4_mean_9 (v := 0) rfl ?_
  refine z_lconst hC dX4_mean_10 (v := 1) rfl ?_
  refine z_csi (As := [.long (a2.toInt64), .long (0 : Int64), .long (1 : Int64)]) (rest := []) hC (c_X4_in l G w (a2.toInt64) (0 : Int64) (1 : Int64)) zw_ml_X4_59 zy_X4_in ⟨rfl, rfl, Nat.le_of_ble_eq_true rfl, Nat.le_of_ble_eq_true rfl⟩ rfl rfl (Nat.le_of_ble_eq_true rfl) dX4_mean_11 ?_
  refine z_if_eq (tgt := 38) hC dX4_mean_14 (by decide) (fun h2 => ?_) (fun h2 => ?_)
  · replace hf := zif_t h2 hf
    refine z_lv [] rfl ?_
    exact hJ38 hf
  replace hf := zif_f h2 hf
  refine z_aload_n hC dX4_mean_17 0 rfl rfl ?_
  refine z_iload_n hC dX4_mean_18 1 rfl rfl ?_
  refine z_iconst hC dX4_mean_19 (v := 0) rfl ?_
  obtain ⟨v4, w3, ew3, hf⟩ := zbd2_e hf
  refine z_cvl (As := [.int a1, .int (0 : Int32)]) (rest := []) hC zo_mod rfl (c_X4_sumBy l G w a1 (0 : Int32) ew3) zw_ml_X4_261 zy_X4_sumBy ⟨rfl, rfl, Nat.le_of_ble_eq_true rfl, Nat.le_of_ble_eq_true rfl⟩ rfl rfl (Nat.le_of_ble_eq_true rfl) dX4_mean_20 ?_
  refine z_aload_n hC dX4_mean_23 0 rfl rfl ?_
  refine z_aload_n hC dX4_mean_24 0 rfl rfl ?_
  refine z_get4 hC 4 (by decide) zw_fl_X4_153 (v := .int (w3 56 4)) rfl dX4_mean_25 ?_
  obtain ⟨v5, ev5, hf⟩ := zbd_e hf
  refine z_cvl (As := [.int (w3 56 4)]) (rest := [.long v4]) hC zo_mod rfl (c_X4_tens l G w3 (w3 56 4) ev5) zw_ml_X4_265 zy_X4_tens ⟨rfl, rfl, Nat.le_of_ble_eq_true rfl, Nat.le_of_ble_eq_true rfl⟩ rfl rfl (Nat.le_of_ble_eq_true rfl) dX4_mean_28 ?_
  refine z_iload_n hC dX4_mean_31 2 rfl rfl ?_
  obtain ⟨v6, ev6, hf⟩ := zbd_e hf
  refine z_csl (As := [.long v4, .long v5, .int a2]) (rest := []) hC (c_X4_lowest l G w3 v4 v5 a2 ev6) zw_ml_X4_269 zy_X4_lowest ⟨rfl, rfl, Nat.le_of_ble_eq_true rfl, Nat.le_of_ble_eq_true rfl⟩ rfl rfl (Nat.le_of_ble_eq_true rfl) dX4_mean_32 ?_
  refine z_goto (tgt := 41) hC dX4_mean_35 (by decide) ?_
  obtain ⟨rfl, rfl⟩ := zso2 hf
  exact z_lret hC dX4_mean_41
theorem zy_X4_mean : zYV yX4_mean cX4_mean 3 (some .long) RX4 2 := ⟨zw_cd_X4_mean, zw_im_X4_mean, zw_sel_X4_mean, zw_ini_X4, by decide +kernel⟩
abbrev rm_X4_nameHere : Room := { frames := 1, cells := 0, slots := 0, locals := 21 }
def b_X4_nameHere_51 (w : zW) (v1 : Int32) (j106 : Int32 → Option Int32) (k51 : Int32 → Int32 → Option Int32) (v10 : Int32) (v11 : Int32) : Option Int32 :=
  if v10 = (0 : Int32) then
    j106 v10
  else
  if ((w 56 22) - (w 56 23)) ≤ v11 then
    j106 v10
  else
  zbd (f_X4_byteAt w ((w 56 23) + v11)) fun v14 =>
  zg (zin v1 18) <|
  zg (zin ((w 64 (zx v1)) + v11) 74) <|
  zjn1 (fun (v17 : Int32) =>
    zlet (v11 + (1 : Int32)) fun v18 =>
    k51 v17 v18)
  (fun (j99 : Int32 → Option Int32) =>
  if v14 = (w 65 (zx ((w 64 (zx v1)) + v11))) then
    j99 (1 : Int32)
  else
    j99 (0 : Int32))
def b_X4_nameHere_2 (w : zW) (k2 : Int32 → Option Int32) (v1 : Int32) : Option Int32 :=
  if (17 : Int32) ≤ v1 then
    some (-4 : Int32)
  else
  if (w 56 24) = (1 : Int32) then
    zg (zin (v1 + (1 : Int32)) 18) <|
    zg (zin v1 18) <|
    zjn1 (fun (v6 : Int32) =>
      zjn1 (fun (v7 : Int32) =>
        if v7 = (0 : Int32) then
          zlet (v1 + (1 : Int32)) fun v9 =>
          k2 v9
        else
        some v1)
      (fun (j106 : Int32 → Option Int32) =>
      zfix2 (b_X4_nameHere_51 w v1 j106) 100000 v6 (0 : Int32)))
    (fun (j48 : Int32 → Option Int32) =>
    if ((w 56 22) - (w 56 23)) = ((w 64 (zx (v1 + (1 : Int32)))) - (w 64 (zx v1))) then
      j48 (1 : Int32)
    else
      j48 (0 : Int32))
  else
    some (-4 : Int32)
def f_X4_nameHere (w : zW) : Option Int32 :=
  zfix1 (b_X4_nameHere_2 w) 100000 (0 : Int32)
set_option maxRecDepth 100000 in
set_option maxHeartbeats 4000000 in
theorem c_X4_nameHere (l : Launch) (G : zG) (w : zW) {r : Int32} (hf : f_X4_nameHere w = some r) : zMet l G yX4_nameHere cX4_nameHere 4 (some .int) rm_X4_nameHere [.ref (zad G 56)] w (some (.int r)) w := by
  refine z_start (own := RX4) (by decide) rfl (Nat.le_of_ble_eq_true rfl) (lv := [(0, .ref (zad G 56))]) rfl ?_
  intro p e s m args below meth c hC
  unfold f_X4_nameHere at hf
  refine z_iconst hC dX4_nameHere_0 (v := 0) rfl ?_
  refine z_istore_n (lv' := [(1, .int (0 : Int32)), (0, .ref (zad G 56))]) hC dX4_nameHere_1 rfl (by decide) rfl ?_
  have hL2 : ∀ (n : Nat) (v1 : Int32), zfix1 (b_X4_nameHere_2 w) n v1 = some r → Z G p l e rm_X4_nameHere s m args below meth c (MQ below (zQ G (some (.int r)) w) args s 0 0 (zA G)) 4 2 [(0, .ref (zad G 56)), (1, .int v1)] [] w := by
    intro n
    induction n with
    | zero => intro v1 hf; exact (zfix1_0 hf).elim
    | succ n ih2 =>
      intro v1 hf
      replace hf := zfix1_e hf
      unfold b_X4_nameHere_2 at hf
      refine z_iload_n hC dX4_nameHere_2 1 rfl rfl ?_
      refine z_bipush hC dX4_nameHere_3 (v := 17) rfl ?_
      refine z_icmp_ge (tgt := 118) hC dX4_nameHere_5 (by decide) (fun h2 => ?_) (fun h2 => ?_)
      · replace hf := zif_t h2 hf
        refine z_bipush hC dX4_nameHere_118 (v := -4) rfl ?_
        obtain rfl := zso1 hf
        exact z_iret hC dX4_nameHere_120
      replace hf := zif_f h2 hf
      refine z_aload_n hC dX4_nameHere_8 0 rfl rfl ?_
      refine z_get4 hC 24 (by decide) zw_fl_X4_75 (v := .int (w 56 24)) rfl dX4_nameHere_9 ?_
      refine z_iconst hC dX4_nameHere_12 (v := 1) rfl ?_
      refine z_icmp_ne (tgt := 118) hC dX4_nameHere_13 (by decide) (fun h3 => ?_) (fun h3 => ?_)
      · replace hf := zif_f h3 hf
        refine z_bipush hC dX4_nameHere_118 (v := -4) rfl ?_
        obtain rfl := zso1 hf
        exact z_iret hC dX4_nameHere_120
      replace hf := zif_t h3 hf
      refine z_aload_n hC dX4_nameHere_16 0 rfl rfl ?_
      refine z_get4 hC 22 (by decide) zw_fl_X4_78 (v := .int (w 56 22)) rfl dX4_nameHere_17 ?_
      refine z_aload_n hC dX4_nameHere_20 0 rfl rfl ?_
      refine z_get4 hC 23 (by decide) zw_fl_X4_69 (v := .int (w 56 23)) rfl dX4_nameHere_21 ?_
      refine z_isub hC dX4_nameHere_24 ?_
      refine z_aload_n hC dX4_nameHere_25 0 rfl rfl ?_
      refine z_get4 hC 26 (by decide) zw_fl_X4_35 (v := .ref (zad G 64)) rfl dX4_nameHere_26 ?_
      refine z_iload_n hC dX4_nameHere_29 1 rfl rfl ?_
      refine z_iconst hC dX4_nameHere_30 (v := 1) rfl ?_
      refine z_iadd hC dX4_nameHere_31 ?_
      obtain ⟨hg4, hf⟩ := zg_e hf
      refine z_iald hC za_64 hg4 rfl dX4_nameHere_32 ?_
      refine z_aload_n hC dX4_nameHere_33 0 rfl rfl ?_
      refine z_get4 hC 26 (by decide) zw_fl_X4_35 (v := .ref (zad G 64)) rfl dX4_nameHere_34 ?_
      refine z_iload_n hC dX4_nameHere_37 1 rfl rfl ?_
      obtain ⟨hg5, hf⟩ := zg_e hf
      refine z_iald hC za_64 hg5 rfl dX4_nameHere_38 ?_
      refine z_isub hC dX4_nameHere_39 ?_
      obtain ⟨j48, hj48, hf⟩ := zjn1_e hf
      have hJ48 : ∀ (v6 : Int32), j48 v6 = some r → Z G p l e rm_X4_nameHere s m args below meth c (MQ below (zQ G (some (.int r)) w) args s 0 0 (zA G)) 4 48 [(0, .ref (zad G 56)), (1, .int v1)] [.int v6] w := by
        intro v6 hf
        replace hf := hj48 v6 hf
        refine z_istore_n (lv' := [(2, .int v6), (0, .ref (zad G 56)), (1, .int v1)]) hC dX4_nameHere_48 rfl (by decide) rfl ?_
        refine z_iconst hC dX4_nameHere_49 (v := 0) rfl ?_
        refine z_istore_n (lv' := [(3, .int (0 : Int32)), (2, .int v6), (0, .ref (zad G 56)), (1, .int v1)]) hC dX4_nameHere_50 rfl (by decide) rfl ?_
        obtain ⟨j106, hj106, hf⟩ := zjn1_e hf
        have hJ106 : ∀ (v7 : Int32), j106 v7 = some r → Z G p l e rm_X4_nameHere s m args below meth c (MQ below (zQ G (some (.int r)) w) args s 0 0 (zA G)) 4 106 [(0, .ref (zad G 56)), (1, .int v1), (2, .int v7)] [] w := by
          intro v7 hf
          replace hf := hj106 v7 hf
          refine z_iload_n hC dX4_nameHere_106 2 rfl rfl ?_
          refine z_if_eq (tgt := 112) hC dX4_nameHere_107 (by decide) (fun h8 => ?_) (fun h8 => ?_)
          · replace hf := zif_t h8 hf
            obtain ⟨v9, ev9, hf⟩ := zlet_e hf
            refine z_iinc (v := v9) (lv' := [(1, .int v9), (0, .ref (zad G 56)), (2, .int v7)]) hC dX4_nameHere_112 1 rfl (by rw [ev9]; rfl) (by decide) rfl ?_
            refine z_goto (tgt := 2) hC dX4_nameHere_115 (by decide) ?_
            refine z_lv [1, 0] rfl ?_
            exact ih2 _ hf
          replace hf := zif_f h8 hf
          refine z_iload_n hC dX4_nameHere_110 1 rfl rfl ?_
          obtain rfl := zso1 hf
          exact z_iret hC dX4_nameHere_111
        have hL51 : ∀ (n : Nat) (v10 : Int32) (v11 : Int32), zfix2 (b_X4_nameHere_51 w v1 j106) n v10 v11 = some r → Z G p l e rm_X4_nameHere s m args below meth c (MQ below (zQ G (some (.int r)) w) args s 0 0 (zA G)) 4 51 [(0, .ref (zad G 56)), (1, .int v1), (2, .int v10), (3, .int v11)] [] w := by
          intro n
          induction n with
          | zero => intro v10 v11 hf; exact (zfix2_0 hf).elim
          | succ n ih51 =>
            intro v10 v11 hf
            replace hf := zfix2_e hf
            unfold b_X4_nameHere_51 at hf
            refine z_iload_n hC dX4_nameHere_51 2 rfl rfl ?_
            refine z_if_eq (tgt := 106) hC dX4_nameHere_52 (by decide) (fun h12 => ?_) (fun h12 => ?_)
            · replace hf := zif_t h12 hf
              refine z_lv [0, 1, 2] rfl ?_
              exact hJ106 _ hf
            replace hf := zif_f h12 hf
            refine z_iload_n hC dX4_nameHere_55 3 rfl rfl ?_
            refine z_aload_n hC dX4_nameHere_56 0 rfl rfl ?_
            refine z_get4 hC 22 (by decide) zw_fl_X4_78 (v := .int (w 56 22)) rfl dX4_nameHere_57 ?_
            refine z_aload_n hC dX4_nameHere_60 0 rfl rfl ?_
            refine z_get4 hC 23 (by decide) zw_fl_X4_69 (v := .int (w 56 23)) rfl dX4_nameHere_61 ?_
            refine z_isub hC dX4_nameHere_64 ?_
            refine z_icmp_ge (tgt := 106) hC dX4_nameHere_65 (by decide) (fun h13 => ?_) (fun h13 => ?_)
            · replace hf := zif_t h13 hf
              refine z_lv [0, 1, 2] rfl ?_
              exact hJ106 _ hf
            replace hf := zif_f h13 hf
            refine z_aload_n hC dX4_nameHere_68 0 rfl rfl ?_
            refine z_aload_n hC dX4_nameHere_69 0 rfl rfl ?_
            refine z_get4 hC 23 (by decide) zw_fl_X4_69 (v := .int (w 56 23)) rfl dX4_nameHere_70 ?_
            refine z_iload_n hC dX4_nameHere_73 3 rfl rfl ?_
            refine z_iadd hC dX4_nameHere_74 ?_
            obtain ⟨v14, ev14, hf⟩ := zbd_e hf
            refine z_cvi (As := [.int ((w 56 23) + v11)]) (rest := []) hC zo_mod rfl (c_X4_byteAt l G w ((w 56 23) + v11) ev14) zw_ml_X4_81 zy_X4_byteAt ⟨rfl, rfl, Nat.le_of_ble_eq_true rfl, Nat.le_of_ble_eq_true rfl⟩ rfl rfl (Nat.le_of_ble_eq_true rfl) dX4_nameHere_75 ?_
            refine z_aload_n hC dX4_nameHere_78 0 rfl rfl ?_
            refine z_get4 hC 27 (by decide) zw_fl_X4_38 (v := .ref (zad G 65)) rfl dX4_nameHere_79 ?_
            refine z_aload_n hC dX4_nameHere_82 0 rfl rfl ?_
            refine z_get4 hC 26 (by decide) zw_fl_X4_35 (v := .ref (zad G 64)) rfl dX4_nameHere_83 ?_
            refine z_iload_n hC dX4_nameHere_86 1 rfl rfl ?_
            obtain ⟨hg15, hf⟩ := zg_e hf
            refine z_iald hC za_64 hg15 rfl dX4_nameHere_87 ?_
            refine z_iload_n hC dX4_nameHere_88 3 rfl rfl ?_
            refine z_iadd hC dX4_nameHere_89 ?_
            obtain ⟨hg16, hf⟩ := zg_e hf
            refine z_iald hC za_65 hg16 rfl dX4_nameHere_90 ?_
            obtain ⟨j99, hj99, hf⟩ := zjn1_e hf
            have hJ99 : ∀ (v17 : Int32), j99 v17 = some r → Z G p l e rm_X4_nameHere s m args below meth c (MQ below (zQ G (some (.int r)) w) args s 0 0 (zA G)) 4 99 [(0, .ref (zad G 56)), (1, .int v1), (3, .int v11)] [.int v17] w := by
              intro v17 hf
              replace hf := hj99 v17 hf
              refine z_istore_n (lv' := [(2, .int v17), (0, .ref (zad G 56)), (1, .int v1), (3, .int v11)]) hC dX4_nameHere_99 rfl (by decide) rfl ?_
              obtain ⟨v18, ev18, hf⟩ := zlet_e hf
              refine z_iinc (v := v18) (lv' := [(3, .int v18), (2, .int v17), (0, .ref (zad G 56)), (1, .int v1)]) hC dX4_nameHere_100 3 rfl (by rw [ev18]; rfl) (by decide) rfl ?_
              refine z_goto (tgt := 51) hC dX4_nameHere_103 (by decide) ?_
              refine z_lv [2, 3, 1, 0] rfl ?_
              exact ih51 _ _ hf
            refine z_icmp_ne (tgt := 98) hC dX4_nameHere_91 (by decide) (fun h19 => ?_) (fun h19 => ?_)
            · replace hf := zif_f h19 hf
              refine z_iconst hC dX4_nameHere_98 (v := 0) rfl ?_
              refine z_lv [0, 1, 3] rfl ?_
              exact hJ99 _ hf
            replace hf := zif_t h19 hf
            refine z_iconst hC dX4_nameHere_94 (v := 1) rfl ?_
            refine z_goto (tgt := 99) hC dX4_nameHere_95 (by decide) ?_
            refine z_lv [0, 1, 3] rfl ?_
            exact hJ99 _ hf
        refine z_lv [2, 3, 1, 0] rfl ?_
        exact hL51 _ _ _ hf
      refine z_icmp_ne (tgt := 47) hC dX4_nameHere_40 (by decide) (fun h20 => ?_) (fun h20 => ?_)
      · replace hf := zif_f h20 hf
        refine z_iconst hC dX4_nameHere_47 (v := 0) rfl ?_
        exact hJ48 _ hf
      replace hf := zif_t h20 hf
      refine z_iconst hC dX4_nameHere_43 (v := 1) rfl ?_
      refine z_goto (tgt := 48) hC dX4_nameHere_44 (by decide) ?_
      exact hJ48 _ hf
  refine z_lv [1, 0] rfl ?_
  exact hL2 _ _ hf
theorem zy_X4_nameHere : zYV yX4_nameHere cX4_nameHere 4 (some .int) RX4 0 := ⟨zw_cd_X4_nameHere, zw_im_X4_nameHere, zw_sel_X4_nameHere, zw_ini_X4, by decide +kernel⟩
abbrev rm_X4_step : Room := { frames := 1, cells := 0, slots := 0, locals := 25 }
def b_X4_step_140 (j217 : zW → Option zW) (k140 : zW → Option zW) (w17 : zW) : Option zW :=
  zbd (f_X4_byteAt w17 (w17 56 22)) fun v18 =>
  if (f_X4_in (v18.toInt64) (48 : Int64) (57 : Int64)) = (0 : Int32) then
    j217 w17
  else
  zjn1 (fun (v20 : Int32) =>
    zlet (zup w17 56 25 v20) fun w21 =>
    zlet (zup w21 56 22 ((w21 56 22) + (1 : Int32))) fun w22 =>
    k140 w22)
  (fun (j201 : Int32 → Option zW) =>
  if (2 : Int32) ≤ ((w17 56 22) - (w17 56 23)) then
    j201 (w17 56 25)
  else
  zbd (f_X4_byteAt w17 (w17 56 22)) fun v24 =>
  j201 ((((10 : Int32) * (w17 56 25)) + v24) - (48 : Int32)))
def b_X4_step_84 (j118 : zW → Option zW) (k84 : zW → Option zW) (w27 : zW) : Option zW :=
  zbd (f_X4_byteAt w27 (w27 56 22)) fun v28 =>
  if (f_X4_in (v28.toInt64) (97 : Int64) (122 : Int64)) = (0 : Int32) then
    j118 w27
  else
  zlet (zup w27 56 22 ((w27 56 22) + (1 : Int32))) fun w30 =>
  k84 w30
def b_X4_step_8 (j34 : zW → Option zW) (k8 : zW → Option zW) (w32 : zW) : Option zW :=
  zbd (f_X4_byteAt w32 (w32 56 22)) fun v33 =>
  if v33 = (32 : Int32) then
    zlet (zup w32 56 22 ((w32 56 22) + (1 : Int32))) fun w35 =>
    k8 w35
  else
    j34 w32
def f_X4_step (w : zW) : Option zW :=
  if (w 56 20) ≤ (0 : Int32) then
    zjn1 (fun (w2 : zW) =>
      zlet (zup w2 56 23 (w2 56 22)) fun w3 =>
      zbd (f_X4_byteAt w3 (w3 56 22)) fun v4 =>
      zlet (zup w3 56 25 (0 : Int32)) fun w5 =>
      if v4 = (-4 : Int32) then
        zlet (zup w5 56 24 (0 : Int32)) fun w31 =>
        some w31
      else
        if (f_X4_in (v4.toInt64) (97 : Int64) (122 : Int64)) = (0 : Int32) then
          if (f_X4_in (v4.toInt64) (48 : Int64) (57 : Int64)) = (0 : Int32) then
            zlet (zup w5 56 24 (3 : Int32)) fun w9 =>
            zlet (zup w9 56 22 ((w9 56 22) + (1 : Int32))) fun w10 =>
            if v4 = (59 : Int32) then
              some w10
            else
            zbd (f_X4_fails w10 (1 : Int32)) fun w12 =>
            some w12
          else
          zjn1 (fun (w13 : zW) =>
            zlet (zup w13 56 24 (2 : Int32)) fun w14 =>
            if ((w14 56 22) - (w14 56 23)) ≤ (2 : Int32) then
              some w14
            else
            zbd (f_X4_fails w14 (1 : Int32)) fun w16 =>
            some w16)
          (fun (j217 : zW → Option zW) =>
          zfix1 (b_X4_step_140 j217) 100000 w5)
        else
        zjn1 (fun (w25 : zW) =>
          zlet (zup w25 56 24 (1 : Int32)) fun w26 =>
          some w26)
        (fun (j118 : zW → Option zW) =>
        zfix1 (b_X4_step_84 j118) 100000 w5))
    (fun (j34 : zW → Option zW) =>
    zfix1 (b_X4_step_8 j34) 100000 w)
  else
  some w
set_option maxRecDepth 100000 in
set_option maxHeartbeats 4000000 in
theorem c_X4_step (l : Launch) (G : zG) (w : zW) {wz : zW} (hf : f_X4_step w = some wz) : zMet l G yX4_step cX4_step 2 none rm_X4_step [.ref (zad G 56)] w none wz := by
  refine z_start (own := RX4) (by decide) rfl (Nat.le_of_ble_eq_true rfl) (lv := [(0, .ref (zad G 56))]) rfl ?_
  intro p e s m args below meth c hC
  unfold f_X4_step at hf
  refine z_aload_n hC dX4_step_0 0 rfl rfl ?_
  refine z_get4 hC 20 (by decide) zw_fl_X4_66 (v := .int (w 56 20)) rfl dX4_step_1 ?_
  refine z_if_le (tgt := 8) hC dX4_step_4 (by decide) (fun h1 => ?_) (fun h1 => ?_)
  · replace hf := zif_t h1 hf
    obtain ⟨j34, hj34, hf⟩ := zjn1_e hf
    have hJ34 : ∀ (w2 : zW), j34 w2 = some wz → Z G p l e rm_X4_step s m args below meth c (MQ below (zQ G none wz) args s 0 0 (zA G)) 2 34 [(0, .ref (zad G 56))] [] w2 := by
      intro w2 hf
      replace hf := hj34 w2 hf
      refine z_aload_n hC dX4_step_34 0 rfl rfl ?_
      refine z_aload_n hC dX4_step_35 0 rfl rfl ?_
      refine z_get4 hC 22 (by decide) zw_fl_X4_78 (v := .int (w2 56 22)) rfl dX4_step_36 ?_
      obtain ⟨w3, ew3, hf⟩ := zlet_e hf
      refine z_put4 hC 23 (by decide) rfl rfl zw_fl_X4_69 rfl ew3 dX4_step_39 ?_
      refine z_aload_n hC dX4_step_42 0 rfl rfl ?_
      refine z_aload_n hC dX4_step_43 0 rfl rfl ?_
      refine z_get4 hC 22 (by decide) zw_fl_X4_78 (v := .int (w3 56 22)) rfl dX4_step_44 ?_
      obtain ⟨v4, ev4, hf⟩ := zbd_e hf
      refine z_cvi (As := [.int (w3 56 22)]) (rest := []) hC zo_mod rfl (c_X4_byteAt l G w3 (w3 56 22) ev4) zw_ml_X4_81 zy_X4_byteAt ⟨rfl, rfl, Nat.le_of_ble_eq_true rfl, Nat.le_of_ble_eq_true rfl⟩ rfl rfl (Nat.le_of_ble_eq_true rfl) dX4_step_47 ?_
      refine z_istore_n (lv' := [(1, .int v4), (0, .ref (zad G 56))]) hC dX4_step_50 rfl (by decide) rfl ?_
      refine z_aload_n hC dX4_step_51 1 rfl rfl ?_
      refine z_iconst hC dX4_step_52 (v := 0) rfl ?_
      obtain ⟨w5, ew5, hf⟩ := zlet_e hf
      refine z_put4 hC 25 (by decide) rfl rfl zw_fl_X4_85 rfl ew5 dX4_step_53 ?_
      refine z_iload_n hC dX4_step_56 0 rfl rfl ?_
      refine z_bipush hC dX4_step_57 (v := -4) rfl ?_
      refine z_icmp_ne (tgt := 70) hC dX4_step_59 (by decide) (fun h6 => ?_) (fun h6 => ?_)
      · replace hf := zif_f h6 hf
        refine z_iload_n hC dX4_step_70 0 rfl rfl ?_
        refine z_i2l hC dX4_step_71 ?_
        refine z_ldc2 hC zw_cst_X4_88 dX4_step_72 ?_
        refine z_ldc2 hC zw_cst_X4_90 dX4_step_75 ?_
        refine z_csi (As := [.long (v4.toInt64), .long (97 : Int64), .long (122 : Int64)]) (rest := []) hC (c_X4_in l G w5 (v4.toInt64) (97 : Int64) (122 : Int64)) zw_ml_X4_59 zy_X4_in ⟨rfl, rfl, Nat.le_of_ble_eq_true rfl, Nat.le_of_ble_eq_true rfl⟩ rfl rfl (Nat.le_of_ble_eq_true rfl) dX4_step_78 ?_
        refine z_if_eq (tgt := 126) hC dX4_step_81 (by decide) (fun h7 => ?_) (fun h7 => ?_)
        · replace hf := zif_t h7 hf
          refine z_iload_n hC dX4_step_126 0 rfl rfl ?_
          refine z_i2l hC dX4_step_127 ?_
          refine z_ldc2 hC zw_cst_X4_92 dX4_step_128 ?_
          refine z_ldc2 hC zw_cst_X4_94 dX4_step_131 ?_
          refine z_csi (As := [.long (v4.toInt64), .long (48 : Int64), .long (57 : Int64)]) (rest := []) hC (c_X4_in l G w5 (v4.toInt64) (48 : Int64) (57 : Int64)) zw_ml_X4_59 zy_X4_in ⟨rfl, rfl, Nat.le_of_ble_eq_true rfl, Nat.le_of_ble_eq_true rfl⟩ rfl rfl (Nat.le_of_ble_eq_true rfl) dX4_step_134 ?_
          refine z_if_eq (tgt := 243) hC dX4_step_137 (by decide) (fun h8 => ?_) (fun h8 => ?_)
          · replace hf := zif_t h8 hf
            refine z_aload_n hC dX4_step_243 1 rfl rfl ?_
            refine z_iconst hC dX4_step_244 (v := 3) rfl ?_
            obtain ⟨w9, ew9, hf⟩ := zlet_e hf
            refine z_put4 hC 24 (by decide) rfl rfl zw_fl_X4_75 rfl ew9 dX4_step_245 ?_
            refine z_aload_n hC dX4_step_248 1 rfl rfl ?_
            refine z_dup hC dX4_step_249 rfl ?_
            refine z_get4 hC 22 (by decide) zw_fl_X4_78 (v := .int (w9 56 22)) rfl dX4_step_250 ?_
            refine z_iconst hC dX4_step_253 (v := 1) rfl ?_
            refine z_iadd hC dX4_step_254 ?_
            obtain ⟨w10, ew10, hf⟩ := zlet_e hf
            refine z_put4 hC 22 (by decide) rfl rfl zw_fl_X4_78 rfl ew10 dX4_step_255 ?_
            refine z_iload_n hC dX4_step_258 0 rfl rfl ?_
            refine z_bipush hC dX4_step_259 (v := 59) rfl ?_
            refine z_icmp_eq (tgt := 269) hC dX4_step_261 (by decide) (fun h11 => ?_) (fun h11 => ?_)
            · replace hf := zif_t h11 hf
              obtain rfl := zso1 hf
              exact z_vret hC dX4_step_269
            replace hf := zif_f h11 hf
            refine z_aload_n hC dX4_step_264 1 rfl rfl ?_
            refine z_iconst hC dX4_step_265 (v := 1) rfl ?_
            obtain ⟨w12, ew12, hf⟩ := zbd_e hf
            refine z_cvv (As := [.int (1 : Int32)]) (rest := []) hC zo_mod rfl (c_X4_fails l G w10 (1 : Int32) ew12) zw_ml_X4_96 zy_X4_fails ⟨rfl, rfl, Nat.le_of_ble_eq_true rfl, Nat.le_of_ble_eq_true rfl⟩ rfl rfl (Nat.le_of_ble_eq_true rfl) dX4_step_266 ?_
            obtain rfl := zso1 hf
            exact z_vret hC dX4_step_269
          replace hf := zif_f h8 hf
          obtain ⟨j217, hj217, hf⟩ := zjn1_e hf
          have hJ217 : ∀ (w13 : zW), j217 w13 = some wz → Z G p l e rm_X4_step s m args below meth c (MQ below (zQ G none wz) args s 0 0 (zA G)) 2 217 [(0, .ref (zad G 56))] [] w13 := by
            intro w13 hf
            replace hf := hj217 w13 hf
            refine z_aload_n hC dX4_step_217 0 rfl rfl ?_
            refine z_iconst hC dX4_step_218 (v := 2) rfl ?_
            obtain ⟨w14, ew14, hf⟩ := zlet_e hf
            refine z_put4 hC 24 (by decide) rfl rfl zw_fl_X4_75 rfl ew14 dX4_step_219 ?_
            refine z_aload_n hC dX4_step_222 0 rfl rfl ?_
            refine z_get4 hC 22 (by decide) zw_fl_X4_78 (v := .int (w14 56 22)) rfl dX4_step_223 ?_
            refine z_aload_n hC dX4_step_226 0 rfl rfl ?_
            refine z_get4 hC 23 (by decide) zw_fl_X4_69 (v := .int (w14 56 23)) rfl dX4_step_227 ?_
            refine z_isub hC dX4_step_230 ?_
            refine z_iconst hC dX4_step_231 (v := 2) rfl ?_
            refine z_icmp_le (tgt := 269) hC dX4_step_232 (by decide) (fun h15 => ?_) (fun h15 => ?_)
            · replace hf := zif_t h15 hf
              obtain rfl := zso1 hf
              exact z_vret hC dX4_step_269
            replace hf := zif_f h15 hf
            refine z_aload_n hC dX4_step_235 0 rfl rfl ?_
            refine z_iconst hC dX4_step_236 (v := 1) rfl ?_
            obtain ⟨w16, ew16, hf⟩ := zbd_e hf
            refine z_cvv (As := [.int (1 : Int32)]) (rest := []) hC zo_mod rfl (c_X4_fails l G w14 (1 : Int32) ew16) zw_ml_X4_96 zy_X4_fails ⟨rfl, rfl, Nat.le_of_ble_eq_true rfl, Nat.le_of_ble_eq_true rfl⟩ rfl rfl (Nat.le_of_ble_eq_true rfl) dX4_step_237 ?_
            refine z_goto (tgt := 269) hC dX4_step_240 (by decide) ?_
            obtain rfl := zso1 hf
            exact z_vret hC dX4_step_269
          have hL140 : ∀ (n : Nat) (w17 : zW), zfix1 (b_X4_step_140 j217) n w17 = some wz → Z G p l e rm_X4_step s m args below meth c (MQ below (zQ G none wz) args s 0 0 (zA G)) 2 140 [(0, .ref (zad G 56))] [] w17 := by
            intro n
            induction n with
            | zero => intro w17 hf; exact (zfix1_0 hf).elim
            | succ n ih140 =>
              intro w17 hf
              replace hf := zfix1_e hf
              unfold b_X4_step_140 at hf
              refine z_aload_n hC dX4_step_140 0 rfl rfl ?_
              refine z_aload_n hC dX4_step_141 0 rfl rfl ?_
              refine z_get4 hC 22 (by decide) zw_fl_X4_78 (v := .int (w17 56 22)) rfl dX4_step_142 ?_
              obtain ⟨v18, ev18, hf⟩ := zbd_e hf
              refine z_cvi (As := [.int (w17 56 22)]) (rest := []) hC zo_mod rfl (c_X4_byteAt l G w17 (w17 56 22) ev18) zw_ml_X4_81 zy_X4_byteAt ⟨rfl, rfl, Nat.le_of_ble_eq_true rfl, Nat.le_of_ble_eq_true rfl⟩ rfl rfl (Nat.le_of_ble_eq_true rfl) dX4_step_145 ?_
              refine z_i2l hC dX4_step_148 ?_
              refine z_ldc2 hC zw_cst_X4_92 dX4_step_149 ?_
              refine z_ldc2 hC zw_cst_X4_94 dX4_step_152 ?_
              refine z_csi (As := [.long (v18.toInt64), .long (48 : Int64), .long (57 : Int64)]) (rest := []) hC (c_X4_in l G w17 (v18.toInt64) (48 : Int64) (57 : Int64)) zw_ml_X4_59 zy_X4_in ⟨rfl, rfl, Nat.le_of_ble_eq_true rfl, Nat.le_of_ble_eq_true rfl⟩ rfl rfl (Nat.le_of_ble_eq_true rfl) dX4_step_155 ?_
              refine z_if_eq (tgt := 217) hC dX4_step_158 (by decide) (fun h19 => ?_) (fun h19 => ?_)
              · replace hf := zif_t h19 hf
                exact hJ217 _ hf
              replace hf := zif_f h19 hf
              refine z_aload_n hC dX4_step_161 0 rfl rfl ?_
              refine z_aload_n hC dX4_step_162 0 rfl rfl ?_
              refine z_get4 hC 22 (by decide) zw_fl_X4_78 (v := .int (w17 56 22)) rfl dX4_step_163 ?_
              refine z_aload_n hC dX4_step_166 0 rfl rfl ?_
              refine z_get4 hC 23 (by decide) zw_fl_X4_69 (v := .int (w17 56 23)) rfl dX4_step_167 ?_
              refine z_isub hC dX4_step_170 ?_
              refine z_iconst hC dX4_step_171 (v := 2) rfl ?_
              obtain ⟨j201, hj201, hf⟩ := zjn1_e hf
              have hJ201 : ∀ (v20 : Int32), j201 v20 = some wz → Z G p l e rm_X4_step s m args below meth c (MQ below (zQ G none wz) args s 0 0 (zA G)) 2 201 [(0, .ref (zad G 56))] [.int v20, .ref (zad G 56)] w17 := by
                intro v20 hf
                replace hf := hj201 v20 hf
                obtain ⟨w21, ew21, hf⟩ := zlet_e hf
                refine z_put4 hC 25 (by decide) rfl rfl zw_fl_X4_85 rfl ew21 dX4_step_201 ?_
                refine z_aload_n hC dX4_step_204 0 rfl rfl ?_
                refine z_dup hC dX4_step_205 rfl ?_
                refine z_get4 hC 22 (by decide) zw_fl_X4_78 (v := .int (w21 56 22)) rfl dX4_step_206 ?_
                refine z_iconst hC dX4_step_209 (v := 1) rfl ?_
                refine z_iadd hC dX4_step_210 ?_
                obtain ⟨w22, ew22, hf⟩ := zlet_e hf
                refine z_put4 hC 22 (by decide) rfl rfl zw_fl_X4_78 rfl ew22 dX4_step_211 ?_
                refine z_goto (tgt := 140) hC dX4_step_214 (by decide) ?_
                exact ih140 _ hf
              refine z_icmp_ge (tgt := 197) hC dX4_step_172 (by decide) (fun h23 => ?_) (fun h23 => ?_)
              · replace hf := zif_t h23 hf
                refine z_aload_n hC dX4_step_197 0 rfl rfl ?_
                refine z_get4 hC 25 (by decide) zw_fl_X4_85 (v := .int (w17 56 25)) rfl dX4_step_198 ?_
                exact hJ201 _ hf
              replace hf := zif_f h23 hf
              refine z_bipush hC dX4_step_175 (v := 10) rfl ?_
              refine z_aload_n hC dX4_step_177 0 rfl rfl ?_
              refine z_get4 hC 25 (by decide) zw_fl_X4_85 (v := .int (w17 56 25)) rfl dX4_step_178 ?_
              refine z_imul hC dX4_step_181 ?_
              refine z_aload_n hC dX4_step_182 0 rfl rfl ?_
              refine z_aload_n hC dX4_step_183 0 rfl rfl ?_
              refine z_get4 hC 22 (by decide) zw_fl_X4_78 (v := .int (w17 56 22)) rfl dX4_step_184 ?_
              obtain ⟨v24, ev24, hf⟩ := zbd_e hf
              refine z_cvi (As := [.int (w17 56 22)]) (rest := [.int ((10 : Int32) * (w17 56 25)), .ref (zad G 56)]) hC zo_mod rfl (c_X4_byteAt l G w17 (w17 56 22) ev24) zw_ml_X4_81 zy_X4_byteAt ⟨rfl, rfl, Nat.le_of_ble_eq_true rfl, Nat.le_of_ble_eq_true rfl⟩ rfl rfl (Nat.le_of_ble_eq_true rfl) dX4_step_187 ?_
              refine z_iadd hC dX4_step_190 ?_
              refine z_bipush hC dX4_step_191 (v := 48) rfl ?_
              refine z_isub hC dX4_step_193 ?_
              refine z_goto (tgt := 201) hC dX4_step_194 (by decide) ?_
              exact hJ201 _ hf
          refine z_lv [1] rfl ?_
          exact hL140 _ _ hf
        replace hf := zif_f h7 hf
        obtain ⟨j118, hj118, hf⟩ := zjn1_e hf
        have hJ118 : ∀ (w25 : zW), j118 w25 = some wz → Z G p l e rm_X4_step s m args below meth c (MQ below (zQ G none wz) args s 0 0 (zA G)) 2 118 [(0, .ref (zad G 56))] [] w25 := by
          intro w25 hf
          replace hf := hj118 w25 hf
          refine z_aload_n hC dX4_step_118 0 rfl rfl ?_
          refine z_iconst hC dX4_step_119 (v := 1) rfl ?_
          obtain ⟨w26, ew26, hf⟩ := zlet_e hf
          refine z_put4 hC 24 (by decide) rfl rfl zw_fl_X4_75 rfl ew26 dX4_step_120 ?_
          refine z_goto (tgt := 269) hC dX4_step_123 (by decide) ?_
          obtain rfl := zso1 hf
          exact z_vret hC dX4_step_269
        have hL84 : ∀ (n : Nat) (w27 : zW), zfix1 (b_X4_step_84 j118) n w27 = some wz → Z G p l e rm_X4_step s m args below meth c (MQ below (zQ G none wz) args s 0 0 (zA G)) 2 84 [(0, .ref (zad G 56))] [] w27 := by
          intro n
          induction n with
          | zero => intro w27 hf; exact (zfix1_0 hf).elim
          | succ n ih84 =>
            intro w27 hf
            replace hf := zfix1_e hf
            unfold b_X4_step_84 at hf
            refine z_aload_n hC dX4_step_84 0 rfl rfl ?_
            refine z_aload_n hC dX4_step_85 0 rfl rfl ?_
            refine z_get4 hC 22 (by decide) zw_fl_X4_78 (v := .int (w27 56 22)) rfl dX4_step_86 ?_
            obtain ⟨v28, ev28, hf⟩ := zbd_e hf
            refine z_cvi (As := [.int (w27 56 22)]) (rest := []) hC zo_mod rfl (c_X4_byteAt l G w27 (w27 56 22) ev28) zw_ml_X4_81 zy_X4_byteAt ⟨rfl, rfl, Nat.le_of_ble_eq_true rfl, Nat.le_of_ble_eq_true rfl⟩ rfl rfl (Nat.le_of_ble_eq_true rfl) dX4_step_89 ?_
            refine z_i2l hC dX4_step_92 ?_
            refine z_ldc2 hC zw_cst_X4_88 dX4_step_93 ?_
            refine z_ldc2 hC zw_cst_X4_90 dX4_step_96 ?_
            refine z_csi (As := [.long (v28.toInt64), .long (97 : Int64), .long (122 : Int64)]) (rest := []) hC (c_X4_in l G w27 (v28.toInt64) (97 : Int64) (122 : Int64)) zw_ml_X4_59 zy_X4_in ⟨rfl, rfl, Nat.le_of_ble_eq_true rfl, Nat.le_of_ble_eq_true rfl⟩ rfl rfl (Nat.le_of_ble_eq_true rfl) dX4_step_99 ?_
            refine z_if_eq (tgt := 118) hC dX4_step_102 (by decide) (fun h29 => ?_) (fun h29 => ?_)
            · replace hf := zif_t h29 hf
              exact hJ118 _ hf
            replace hf := zif_f h29 hf
            refine z_aload_n hC dX4_step_105 0 rfl rfl ?_
            refine z_dup hC dX4_step_106 rfl ?_
            refine z_get4 hC 22 (by decide) zw_fl_X4_78 (v := .int (w27 56 22)) rfl dX4_step_107 ?_
            refine z_iconst hC dX4_step_110 (v := 1) rfl ?_
            refine z_iadd hC dX4_step_111 ?_
            obtain ⟨w30, ew30, hf⟩ := zlet_e hf
            refine z_put4 hC 22 (by decide) rfl rfl zw_fl_X4_78 rfl ew30 dX4_step_112 ?_
            refine z_goto (tgt := 84) hC dX4_step_115 (by decide) ?_
            exact ih84 _ hf
        refine z_lv [1] rfl ?_
        exact hL84 _ _ hf
      replace hf := zif_t h6 hf
      refine z_aload_n hC dX4_step_62 1 rfl rfl ?_
      refine z_iconst hC dX4_step_63 (v := 0) rfl ?_
      obtain ⟨w31, ew31, hf⟩ := zlet_e hf
      refine z_put4 hC 24 (by decide) rfl rfl zw_fl_X4_75 rfl ew31 dX4_step_64 ?_
      refine z_goto (tgt := 269) hC dX4_step_67 (by decide) ?_
      obtain rfl := zso1 hf
      exact z_vret hC dX4_step_269
    have hL8 : ∀ (n : Nat) (w32 : zW), zfix1 (b_X4_step_8 j34) n w32 = some wz → Z G p l e rm_X4_step s m args below meth c (MQ below (zQ G none wz) args s 0 0 (zA G)) 2 8 [(0, .ref (zad G 56))] [] w32 := by
      intro n
      induction n with
      | zero => intro w32 hf; exact (zfix1_0 hf).elim
      | succ n ih8 =>
        intro w32 hf
        replace hf := zfix1_e hf
        unfold b_X4_step_8 at hf
        refine z_aload_n hC dX4_step_8 0 rfl rfl ?_
        refine z_aload_n hC dX4_step_9 0 rfl rfl ?_
        refine z_get4 hC 22 (by decide) zw_fl_X4_78 (v := .int (w32 56 22)) rfl dX4_step_10 ?_
        obtain ⟨v33, ev33, hf⟩ := zbd_e hf
        refine z_cvi (As := [.int (w32 56 22)]) (rest := []) hC zo_mod rfl (c_X4_byteAt l G w32 (w32 56 22) ev33) zw_ml_X4_81 zy_X4_byteAt ⟨rfl, rfl, Nat.le_of_ble_eq_true rfl, Nat.le_of_ble_eq_true rfl⟩ rfl rfl (Nat.le_of_ble_eq_true rfl) dX4_step_13 ?_
        refine z_bipush hC dX4_step_16 (v := 32) rfl ?_
        refine z_icmp_ne (tgt := 34) hC dX4_step_18 (by decide) (fun h34 => ?_) (fun h34 => ?_)
        · replace hf := zif_f h34 hf
          exact hJ34 _ hf
        replace hf := zif_t h34 hf
        refine z_aload_n hC dX4_step_21 0 rfl rfl ?_
        refine z_dup hC dX4_step_22 rfl ?_
        refine z_get4 hC 22 (by decide) zw_fl_X4_78 (v := .int (w32 56 22)) rfl dX4_step_23 ?_
        refine z_iconst hC dX4_step_26 (v := 1) rfl ?_
        refine z_iadd hC dX4_step_27 ?_
        obtain ⟨w35, ew35, hf⟩ := zlet_e hf
        refine z_put4 hC 22 (by decide) rfl rfl zw_fl_X4_78 rfl ew35 dX4_step_28 ?_
        refine z_goto (tgt := 8) hC dX4_step_31 (by decide) ?_
        exact ih8 _ hf
    exact hL8 _ _ hf
  replace hf := zif_f h1 hf
  obtain rfl := zso1 hf
  exact z_vret hC dX4_step_7
theorem zy_X4_step : zYV yX4_step cX4_step 2 none RX4 0 := ⟨zw_cd_X4_step, zw_im_X4_step, zw_sel_X4_step, zw_ini_X4, by decide +kernel⟩
abbrev rm_X4_named : Room := { frames := 2, cells := 0, slots := 0, locals := 46 }
def f_X4_named (w : zW) (a1 : Int32) (a2 : Int32) : Option (Int32 × zW) :=
  zbd (f_X4_nameHere w) fun v1 =>
  zlet (v1 - a1) fun v2 =>
  zjn1 (fun (w3 : zW) =>
    zbd (f_X4_step w3) fun w4 =>
    if (f_X4_in (v2.toInt64) (0 : Int64) ((a2 - (1 : Int32)).toInt64)) = (0 : Int32) then
      some ((0 : Int32), w4)
    else
    some (v2, w4))
  (fun (j32 : zW → Option (Int32 × zW)) =>
  if (w 56 20) = (0 : Int32) then
    if (f_X4_in (v2.toInt64) (0 : Int64) ((a2 - (1 : Int32)).toInt64)) = (0 : Int32) then
      zbd (f_X4_fails w (2 : Int32)) fun w8 =>
      j32 w8
    else
      j32 w
  else
    j32 w)
set_option maxRecDepth 100000 in
set_option maxHeartbeats 4000000 in
theorem c_X4_named (l : Launch) (G : zG) (w : zW) (a1 : Int32) (a2 : Int32) {r : Int32} {wz : zW} (hf : f_X4_named w a1 a2 = some (r, wz)) : zMet l G yX4_named cX4_named 4 (some .int) rm_X4_named [.ref (zad G 56), .int a1, .int a2] w (some (.int r)) wz := by
  refine z_start (own := RX4) (by decide) rfl (Nat.le_of_ble_eq_true rfl) (lv := [(0, .ref (zad G 56)), (1, .int a1), (2, .int a2)]) rfl ?_
  intro p e s m args below meth c hC
  unfold f_X4_named at hf
  refine z_aload_n hC dX4_named_0 0 rfl rfl ?_
  obtain ⟨v1, ev1, hf⟩ := zbd_e hf
  refine z_cvi (As := []) (rest := []) hC zo_mod rfl (c_X4_nameHere l G w ev1) zw_ml_X4_103 zy_X4_nameHere ⟨rfl, rfl, Nat.le_of_ble_eq_true rfl, Nat.le_of_ble_eq_true rfl⟩ rfl rfl (Nat.le_of_ble_eq_true rfl) dX4_named_1 ?_
  refine z_iload_n hC dX4_named_4 1 rfl rfl ?_
  refine z_isub hC dX4_named_5 ?_
  obtain ⟨v2, ev2, hf⟩ := zlet_e hf
  refine z_topi ev2 ?_
  refine z_istore_n (lv' := [(3, .int v2), (0, .ref (zad G 56)), (1, .int a1), (2, .int a2)]) hC dX4_named_6 rfl (by decide) rfl ?_
  refine z_aload_n hC dX4_named_7 1 rfl rfl ?_
  refine z_get4 hC 20 (by decide) zw_fl_X4_66 (v := .int (w 56 20)) rfl dX4_named_8 ?_
  obtain ⟨j32, hj32, hf⟩ := zjn1_e hf
  have hJ32 : ∀ (w3 : zW), j32 w3 = some (r, wz) → Z G p l e rm_X4_named s m args below meth c (MQ below (zQ G (some (.int r)) wz) args s 0 0 (zA G)) 4 32 [(0, .ref (zad G 56)), (2, .int a2), (3, .int v2)] [] w3 := by
    intro w3 hf
    replace hf := hj32 w3 hf
    refine z_aload_n hC dX4_named_32 0 rfl rfl ?_
    obtain ⟨w4, ew4, hf⟩ := zbd_e hf
    refine z_cvv (As := []) (rest := []) hC zo_mod rfl (c_X4_step l G w3 ew4) zw_ml_X4_100 zy_X4_step ⟨rfl, rfl, Nat.le_of_ble_eq_true rfl, Nat.le_of_ble_eq_true rfl⟩ rfl rfl (Nat.le_of_ble_eq_true rfl) dX4_named_33 ?_
    refine z_iload_n hC dX4_named_36 2 rfl rfl ?_
    refine z_i2l hC dX4_named_37 ?_
    refine z_lconst hC dX4_named_38 (v := 0) rfl ?_
    refine z_iload_n hC dX4_named_39 1 rfl rfl ?_
    refine z_iconst hC dX4_named_40 (v := 1) rfl ?_
    refine z_isub hC dX4_named_41 ?_
    refine z_i2l hC dX4_named_42 ?_
    refine z_csi (As := [.long (v2.toInt64), .long (0 : Int64), .long ((a2 - (1 : Int32)).toInt64)]) (rest := []) hC (c_X4_in l G w4 (v2.toInt64) (0 : Int64) ((a2 - (1 : Int32)).toInt64)) zw_ml_X4_59 zy_X4_in ⟨rfl, rfl, Nat.le_of_ble_eq_true rfl, Nat.le_of_ble_eq_true rfl⟩ rfl rfl (Nat.le_of_ble_eq_true rfl) dX4_named_43 ?_
    refine z_if_eq (tgt := 53) hC dX4_named_46 (by decide) (fun h5 => ?_) (fun h5 => ?_)
    · replace hf := zif_t h5 hf
      refine z_iconst hC dX4_named_53 (v := 0) rfl ?_
      obtain ⟨rfl, rfl⟩ := zso2 hf
      exact z_iret hC dX4_named_54
    replace hf := zif_f h5 hf
    refine z_iload_n hC dX4_named_49 2 rfl rfl ?_
    refine z_goto (tgt := 54) hC dX4_named_50 (by decide) ?_
    obtain ⟨rfl, rfl⟩ := zso2 hf
    exact z_iret hC dX4_named_54
  refine z_if_ne (tgt := 32) hC dX4_named_11 (by decide) (fun h6 => ?_) (fun h6 => ?_)
  · replace hf := zif_f h6 hf
    refine z_lv [1, 3, 0] rfl ?_
    exact hJ32 _ hf
  replace hf := zif_t h6 hf
  refine z_iload_n hC dX4_named_14 0 rfl rfl ?_
  refine z_i2l hC dX4_named_15 ?_
  refine z_lconst hC dX4_named_16 (v := 0) rfl ?_
  refine z_iload_n hC dX4_named_17 3 rfl rfl ?_
  refine z_iconst hC dX4_named_18 (v := 1) rfl ?_
  refine z_isub hC dX4_named_19 ?_
  refine z_i2l hC dX4_named_20 ?_
  refine z_csi (As := [.long (v2.toInt64), .long (0 : Int64), .long ((a2 - (1 : Int32)).toInt64)]) (rest := []) hC (c_X4_in l G w (v2.toInt64) (0 : Int64) ((a2 - (1 : Int32)).toInt64)) zw_ml_X4_59 zy_X4_in ⟨rfl, rfl, Nat.le_of_ble_eq_true rfl, Nat.le_of_ble_eq_true rfl⟩ rfl rfl (Nat.le_of_ble_eq_true rfl) dX4_named_21 ?_
  refine z_if_ne (tgt := 32) hC dX4_named_24 (by decide) (fun h7 => ?_) (fun h7 => ?_)
  · replace hf := zif_f h7 hf
    refine z_lv [1, 3, 0] rfl ?_
    exact hJ32 _ hf
  replace hf := zif_t h7 hf
  refine z_aload_n hC dX4_named_27 1 rfl rfl ?_
  refine z_iconst hC dX4_named_28 (v := 2) rfl ?_
  obtain ⟨w8, ew8, hf⟩ := zbd_e hf
  refine z_cvv (As := [.int (2 : Int32)]) (rest := []) hC zo_mod rfl (c_X4_fails l G w (2 : Int32) ew8) zw_ml_X4_96 zy_X4_fails ⟨rfl, rfl, Nat.le_of_ble_eq_true rfl, Nat.le_of_ble_eq_true rfl⟩ rfl rfl (Nat.le_of_ble_eq_true rfl) dX4_named_29 ?_
  refine z_lv [1, 3, 0] rfl ?_
  exact hJ32 _ hf
theorem zy_X4_named : zYV yX4_named cX4_named 4 (some .int) RX4 2 := ⟨zw_cd_X4_named, zw_im_X4_named, zw_sel_X4_named, zw_ini_X4, by decide +kernel⟩
abbrev rm_X4_number : Room := { frames := 2, cells := 0, slots := 0, locals := 46 }
def f_X4_number (w : zW) (a1 : Int32) (a2 : Int32) : Option (Int32 × zW) :=
  zjn1 (fun (w1 : zW) =>
    zjn1 (fun (w2 : zW) =>
      zjn1 (fun (v3 : Int32) =>
        zbd (f_X4_step w2) fun w4 =>
        some (v3, w4))
      (fun (j62 : Int32 → Option (Int32 × zW)) =>
      if (w2 56 20) = (0 : Int32) then
        j62 (w2 56 25)
      else
        j62 a1))
    (fun (j47 : zW → Option (Int32 × zW)) =>
    if (w1 56 20) = (0 : Int32) then
      if (f_X4_in ((w1 56 25).toInt64) (a1.toInt64) (a2.toInt64)) = (0 : Int32) then
        zbd (f_X4_fails w1 (3 : Int32)) fun w8 =>
        j47 w8
      else
        j47 w1
    else
      j47 w1))
  (fun (j20 : zW → Option (Int32 × zW)) =>
  if (w 56 20) = (0 : Int32) then
    if (w 56 24) = (2 : Int32) then
      j20 w
    else
    zbd (f_X4_fails w (2 : Int32)) fun w11 =>
    j20 w11
  else
    j20 w)
set_option maxRecDepth 100000 in
set_option maxHeartbeats 4000000 in
theorem c_X4_number (l : Launch) (G : zG) (w : zW) (a1 : Int32) (a2 : Int32) {r : Int32} {wz : zW} (hf : f_X4_number w a1 a2 = some (r, wz)) : zMet l G yX4_number cX4_number 4 (some .int) rm_X4_number [.ref (zad G 56), .int a1, .int a2] w (some (.int r)) wz := by
  refine z_start (own := RX4) (by decide) rfl (Nat.le_of_ble_eq_true rfl) (lv := [(0, .ref (zad G 56)), (1, .int a1), (2, .int a2)]) rfl ?_
  intro p e s m args below meth c hC
  unfold f_X4_number at hf
  refine z_aload_n hC dX4_number_0 0 rfl rfl ?_
  refine z_get4 hC 20 (by decide) zw_fl_X4_66 (v := .int (w 56 20)) rfl dX4_number_1 ?_
  obtain ⟨j20, hj20, hf⟩ := zjn1_e hf
  have hJ20 : ∀ (w1 : zW), j20 w1 = some (r, wz) → Z G p l e rm_X4_number s m args below meth c (MQ below (zQ G (some (.int r)) wz) args s 0 0 (zA G)) 4 20 [(0, .ref (zad G 56)), (1, .int a1), (2, .int a2)] [] w1 := by
    intro w1 hf
    replace hf := hj20 w1 hf
    refine z_aload_n hC dX4_number_20 0 rfl rfl ?_
    refine z_get4 hC 20 (by decide) zw_fl_X4_66 (v := .int (w1 56 20)) rfl dX4_number_21 ?_
    obtain ⟨j47, hj47, hf⟩ := zjn1_e hf
    have hJ47 : ∀ (w2 : zW), j47 w2 = some (r, wz) → Z G p l e rm_X4_number s m args below meth c (MQ below (zQ G (some (.int r)) wz) args s 0 0 (zA G)) 4 47 [(0, .ref (zad G 56)), (1, .int a1)] [] w2 := by
      intro w2 hf
      replace hf := hj47 w2 hf
      refine z_aload_n hC dX4_number_47 0 rfl rfl ?_
      refine z_get4 hC 20 (by decide) zw_fl_X4_66 (v := .int (w2 56 20)) rfl dX4_number_48 ?_
      obtain ⟨j62, hj62, hf⟩ := zjn1_e hf
      have hJ62 : ∀ (v3 : Int32), j62 v3 = some (r, wz) → Z G p l e rm_X4_number s m args below meth c (MQ below (zQ G (some (.int r)) wz) args s 0 0 (zA G)) 4 62 [(0, .ref (zad G 56))] [.int v3] w2 := by
        intro v3 hf
        replace hf := hj62 v3 hf
        refine z_istore_n (lv' := [(3, .int v3), (0, .ref (zad G 56))]) hC dX4_number_62 rfl (by decide) rfl ?_
        refine z_aload_n hC dX4_number_63 1 rfl rfl ?_
        obtain ⟨w4, ew4, hf⟩ := zbd_e hf
        refine z_cvv (As := []) (rest := []) hC zo_mod rfl (c_X4_step l G w2 ew4) zw_ml_X4_100 zy_X4_step ⟨rfl, rfl, Nat.le_of_ble_eq_true rfl, Nat.le_of_ble_eq_true rfl⟩ rfl rfl (Nat.le_of_ble_eq_true rfl) dX4_number_64 ?_
        refine z_iload_n hC dX4_number_67 0 rfl rfl ?_
        obtain ⟨rfl, rfl⟩ := zso2 hf
        exact z_iret hC dX4_number_68
      refine z_if_ne (tgt := 61) hC dX4_number_51 (by decide) (fun h5 => ?_) (fun h5 => ?_)
      · replace hf := zif_f h5 hf
        refine z_iload_n hC dX4_number_61 1 rfl rfl ?_
        refine z_lv [0] rfl ?_
        exact hJ62 _ hf
      replace hf := zif_t h5 hf
      refine z_aload_n hC dX4_number_54 0 rfl rfl ?_
      refine z_get4 hC 25 (by decide) zw_fl_X4_85 (v := .int (w2 56 25)) rfl dX4_number_55 ?_
      refine z_goto (tgt := 62) hC dX4_number_58 (by decide) ?_
      refine z_lv [0] rfl ?_
      exact hJ62 _ hf
    refine z_if_ne (tgt := 47) hC dX4_number_24 (by decide) (fun h6 => ?_) (fun h6 => ?_)
    · replace hf := zif_f h6 hf
      refine z_lv [0, 1] rfl ?_
      exact hJ47 _ hf
    replace hf := zif_t h6 hf
    refine z_aload_n hC dX4_number_27 0 rfl rfl ?_
    refine z_get4 hC 25 (by decide) zw_fl_X4_85 (v := .int (w1 56 25)) rfl dX4_number_28 ?_
    refine z_i2l hC dX4_number_31 ?_
    refine z_iload_n hC dX4_number_32 1 rfl rfl ?_
    refine z_i2l hC dX4_number_33 ?_
    refine z_iload_n hC dX4_number_34 2 rfl rfl ?_
    refine z_i2l hC dX4_number_35 ?_
    refine z_csi (As := [.long ((w1 56 25).toInt64), .long (a1.toInt64), .long (a2.toInt64)]) (rest := []) hC (c_X4_in l G w1 ((w1 56 25).toInt64) (a1.toInt64) (a2.toInt64)) zw_ml_X4_59 zy_X4_in ⟨rfl, rfl, Nat.le_of_ble_eq_true rfl, Nat.le_of_ble_eq_true rfl⟩ rfl rfl (Nat.le_of_ble_eq_true rfl) dX4_number_36 ?_
    refine z_if_ne (tgt := 47) hC dX4_number_39 (by decide) (fun h7 => ?_) (fun h7 => ?_)
    · replace hf := zif_f h7 hf
      refine z_lv [0, 1] rfl ?_
      exact hJ47 _ hf
    replace hf := zif_t h7 hf
    refine z_aload_n hC dX4_number_42 0 rfl rfl ?_
    refine z_iconst hC dX4_number_43 (v := 3) rfl ?_
    obtain ⟨w8, ew8, hf⟩ := zbd_e hf
    refine z_cvv (As := [.int (3 : Int32)]) (rest := []) hC zo_mod rfl (c_X4_fails l G w1 (3 : Int32) ew8) zw_ml_X4_96 zy_X4_fails ⟨rfl, rfl, Nat.le_of_ble_eq_true rfl, Nat.le_of_ble_eq_true rfl⟩ rfl rfl (Nat.le_of_ble_eq_true rfl) dX4_number_44 ?_
    refine z_lv [0, 1] rfl ?_
    exact hJ47 _ hf
  refine z_if_ne (tgt := 20) hC dX4_number_4 (by decide) (fun h9 => ?_) (fun h9 => ?_)
  · replace hf := zif_f h9 hf
    exact hJ20 _ hf
  replace hf := zif_t h9 hf
  refine z_aload_n hC dX4_number_7 0 rfl rfl ?_
  refine z_get4 hC 24 (by decide) zw_fl_X4_75 (v := .int (w 56 24)) rfl dX4_number_8 ?_
  refine z_iconst hC dX4_number_11 (v := 2) rfl ?_
  refine z_icmp_eq (tgt := 20) hC dX4_number_12 (by decide) (fun h10 => ?_) (fun h10 => ?_)
  · replace hf := zif_t h10 hf
    exact hJ20 _ hf
  replace hf := zif_f h10 hf
  refine z_aload_n hC dX4_number_15 0 rfl rfl ?_
  refine z_iconst hC dX4_number_16 (v := 2) rfl ?_
  obtain ⟨w11, ew11, hf⟩ := zbd_e hf
  refine z_cvv (As := [.int (2 : Int32)]) (rest := []) hC zo_mod rfl (c_X4_fails l G w (2 : Int32) ew11) zw_ml_X4_96 zy_X4_fails ⟨rfl, rfl, Nat.le_of_ble_eq_true rfl, Nat.le_of_ble_eq_true rfl⟩ rfl rfl (Nat.le_of_ble_eq_true rfl) dX4_number_17 ?_
  exact hJ20 _ hf
theorem zy_X4_number : zYV yX4_number cX4_number 4 (some .int) RX4 2 := ⟨zw_cd_X4_number, zw_im_X4_number, zw_sel_X4_number, zw_ini_X4, by decide +kernel⟩
abbrev rm_X4_odd : Room := { frames := 2, cells := 0, slots := 0, locals := 46 }
def f_X4_odd (w : zW) (a1 : Int32) (a2 : Int32) : Option (Int32 × zW) :=
  zjn1 (fun (v1 : Int32) =>
    zbd2 (f_X4_sets w v1 ((17 : Int32) + a1) a2) fun v3 w2 =>
    some (v3, w2))
  (fun (j26 : Int32 → Option (Int32 × zW)) =>
  zjn0 (
    j26 (0 : Int32))
  (fun (j25 : Option (Int32 × zW)) =>
  if (f_X4_isWell w a1) = (0 : Int32) then
    j25
  else
  if (f_X4_in (a2.toInt64) (0 : Int64) (10 : Int64)) = (0 : Int32) then
    j25
  else
  j26 (1 : Int32)))
set_option maxRecDepth 100000 in
set_option maxHeartbeats 4000000 in
theorem c_X4_odd (l : Launch) (G : zG) (w : zW) (a1 : Int32) (a2 : Int32) {r : Int32} {wz : zW} (hf : f_X4_odd w a1 a2 = some (r, wz)) : zMet l G yX4_odd cX4_odd 3 (some .int) rm_X4_odd [.ref (zad G 56), .int a1, .int a2] w (some (.int r)) wz := by
  refine z_start (own := RX4) (by decide) rfl (Nat.le_of_ble_eq_true rfl) (lv := [(0, .ref (zad G 56)), (1, .int a1), (2, .int a2)]) rfl ?_
  intro p e s m args below meth c hC
  unfold f_X4_odd at hf
  refine z_aload_n hC dX4_odd_0 0 rfl rfl ?_
  refine z_aload_n hC dX4_odd_1 0 rfl rfl ?_
  refine z_iload_n hC dX4_odd_2 1 rfl rfl ?_
  refine z_cvi (As := [.int a1]) (rest := [.ref (zad G 56)]) hC zo_mod rfl (c_X4_isWell l G w a1) zw_ml_X4_184 zy_X4_isWell ⟨rfl, rfl, Nat.le_of_ble_eq_true rfl, Nat.le_of_ble_eq_true rfl⟩ rfl rfl (Nat.le_of_ble_eq_true rfl) dX4_odd_3 ?_
  obtain ⟨j26, hj26, hf⟩ := zjn1_e hf
  have hJ26 : ∀ (v1 : Int32), j26 v1 = some (r, wz) → Z G p l e rm_X4_odd s m args below meth c (MQ below (zQ G (some (.int r)) wz) args s 0 0 (zA G)) 3 26 [(1, .int a1), (2, .int a2)] [.int v1, .ref (zad G 56)] w := by
    intro v1 hf
    replace hf := hj26 v1 hf
    refine z_bipush hC dX4_odd_26 (v := 17) rfl ?_
    refine z_iload_n hC dX4_odd_28 0 rfl rfl ?_
    refine z_iadd hC dX4_odd_29 ?_
    refine z_iload_n hC dX4_odd_30 1 rfl rfl ?_
    obtain ⟨v3, w2, ew2, hf⟩ := zbd2_e hf
    refine z_cvi (As := [.int v1, .int ((17 : Int32) + a1), .int a2]) (rest := []) hC zo_mod rfl (c_X4_sets l G w v1 ((17 : Int32) + a1) a2 ew2) zw_ml_X4_200 zy_X4_sets ⟨rfl, rfl, Nat.le_of_ble_eq_true rfl, Nat.le_of_ble_eq_true rfl⟩ rfl rfl (Nat.le_of_ble_eq_true rfl) dX4_odd_31 ?_
    obtain ⟨rfl, rfl⟩ := zso2 hf
    exact z_iret hC dX4_odd_34
  obtain ⟨j25, hj25, hf⟩ := zjn0_e hf
  have hJ25 : j25 = some (r, wz) → Z G p l e rm_X4_odd s m args below meth c (MQ below (zQ G (some (.int r)) wz) args s 0 0 (zA G)) 3 25 [(1, .int a1), (2, .int a2)] [.ref (zad G 56)] w := by
    intro hf
    replace hf := hj25  hf
    refine z_iconst hC dX4_odd_25 (v := 0) rfl ?_
    exact hJ26 _ hf
  refine z_if_eq (tgt := 25) hC dX4_odd_6 (by decide) (fun h4 => ?_) (fun h4 => ?_)
  · replace hf := zif_t h4 hf
    refine z_lv [1, 2] rfl ?_
    exact hJ25 hf
  replace hf := zif_f h4 hf
  refine z_iload_n hC dX4_odd_9 2 rfl rfl ?_
  refine z_i2l hC dX4_odd_10 ?_
  refine z_lconst hC dX4_odd_11 (v := 0) rfl ?_
  refine z_ldc2 hC zw_cst_X4_214 dX4_odd_12 ?_
  refine z_csi (As := [.long (a2.toInt64), .long (0 : Int64), .long (10 : Int64)]) (rest := [.ref (zad G 56)]) hC (c_X4_in l G w (a2.toInt64) (0 : Int64) (10 : Int64)) zw_ml_X4_59 zy_X4_in ⟨rfl, rfl, Nat.le_of_ble_eq_true rfl, Nat.le_of_ble_eq_true rfl⟩ rfl rfl (Nat.le_of_ble_eq_true rfl) dX4_odd_15 ?_
  refine z_if_eq (tgt := 25) hC dX4_odd_18 (by decide) (fun h5 => ?_) (fun h5 => ?_)
  · replace hf := zif_t h5 hf
    refine z_lv [1, 2] rfl ?_
    exact hJ25 hf
  replace hf := zif_f h5 hf
  refine z_iconst hC dX4_odd_21 (v := 1) rfl ?_
  refine z_goto (tgt := 26) hC dX4_odd_22 (by decide) ?_
  refine z_lv [1, 2] rfl ?_
  exact hJ26 _ hf
theorem zy_X4_odd : zYV yX4_odd cX4_odd 3 (some .int) RX4 2 := ⟨zw_cd_X4_odd, zw_im_X4_odd, zw_sel_X4_odd, zw_ini_X4, by decide +kernel⟩
abbrev rm_X4_one : Room := { frames := 3, cells := 0, slots := 0, locals := 65 }
def f_X4_one (w : zW) (a1 : Int32) (a2 : Int32) : Option Int32 :=
  if (f_X4_isOne w a1) = (0 : Int32) then
    some (-1 : Int32)
  else
    if a2 = (0 : Int32) then
      zg (zin a1 120) <|
      some (w 57 (zx a1))
    else
    if a2 = (1 : Int32) then
      zg (zin a1 4) <|
      some (w 58 (zx a1))
    else
    if a2 = (2 : Int32) then
      zg (zin ((4 : Int32) + a1) 120) <|
      some (w 57 (zx ((4 : Int32) + a1)))
    else
    if a2 = (3 : Int32) then
      zbd (f_X4_isDown w (0 : Int32) a1) fun v9 =>
      if v9 = (0 : Int32) then
        zbd (f_X4_wantOf w (0 : Int32) a1) fun v11 =>
        some v11
      else
      some (0 : Int32)
    else
    some (-1 : Int32)
set_option maxRecDepth 100000 in
set_option maxHeartbeats 4000000 in
theorem c_X4_one (l : Launch) (G : zG) (w : zW) (a1 : Int32) (a2 : Int32) {r : Int32} (hf : f_X4_one w a1 a2 = some r) : zMet l G yX4_one cX4_one 3 (some .int) rm_X4_one [.ref (zad G 56), .int a1, .int a2] w (some (.int r)) w := by
  refine z_start (own := RX4) (by decide) rfl (Nat.le_of_ble_eq_true rfl) (lv := [(0, .ref (zad G 56)), (1, .int a1), (2, .int a2)]) rfl ?_
  intro p e s m args below meth c hC
  unfold f_X4_one at hf
  refine z_aload_n hC dX4_one_0 0 rfl rfl ?_
  refine z_iload_n hC dX4_one_1 1 rfl rfl ?_
  refine z_cvi (As := [.int a1]) (rest := []) hC zo_mod rfl (c_X4_isOne l G w a1) zw_ml_X4_177 zy_X4_isOne ⟨rfl, rfl, Nat.le_of_ble_eq_true rfl, Nat.le_of_ble_eq_true rfl⟩ rfl rfl (Nat.le_of_ble_eq_true rfl) dX4_one_2 ?_
  refine z_if_ne (tgt := 10) hC dX4_one_5 (by decide) (fun h1 => ?_) (fun h1 => ?_)
  · replace hf := zif_f h1 hf
    refine z_iload_n hC dX4_one_10 2 rfl rfl ?_
    by_cases h2 : a2 = (0 : Int32)
    · replace hf := zif_t h2 hf
      refine z_tabIn (tgt := 40) hC dX4_one_11 (by rw [h2]; decide) (by rw [h2]; decide) (by rw [h2]; rfl) (by decide) ?_
      refine z_aload_n hC dX4_one_40 0 rfl rfl ?_
      refine z_get4 hC 0 (by decide) zw_fl_X4_7 (v := .ref (zad G 57)) rfl dX4_one_41 ?_
      refine z_iload_n hC dX4_one_44 1 rfl rfl ?_
      obtain ⟨hg3, hf⟩ := zg_e hf
      refine z_iald hC za_57 hg3 rfl dX4_one_45 ?_
      obtain rfl := zso1 hf
      exact z_iret hC dX4_one_46
    replace hf := zif_f h2 hf
    by_cases h4 : a2 = (1 : Int32)
    · replace hf := zif_t h4 hf
      refine z_tabIn (tgt := 47) hC dX4_one_11 (by rw [h4]; decide) (by rw [h4]; decide) (by rw [h4]; rfl) (by decide) ?_
      refine z_aload_n hC dX4_one_47 0 rfl rfl ?_
      refine z_get4 hC 1 (by decide) zw_fl_X4_13 (v := .ref (zad G 58)) rfl dX4_one_48 ?_
      refine z_iload_n hC dX4_one_51 1 rfl rfl ?_
      obtain ⟨hg5, hf⟩ := zg_e hf
      refine z_iald hC za_58 hg5 rfl dX4_one_52 ?_
      obtain rfl := zso1 hf
      exact z_iret hC dX4_one_53
    replace hf := zif_f h4 hf
    by_cases h6 : a2 = (2 : Int32)
    · replace hf := zif_t h6 hf
      refine z_tabIn (tgt := 54) hC dX4_one_11 (by rw [h6]; decide) (by rw [h6]; decide) (by rw [h6]; rfl) (by decide) ?_
      refine z_aload_n hC dX4_one_54 0 rfl rfl ?_
      refine z_get4 hC 0 (by decide) zw_fl_X4_7 (v := .ref (zad G 57)) rfl dX4_one_55 ?_
      refine z_iconst hC dX4_one_58 (v := 4) rfl ?_
      refine z_iload_n hC dX4_one_59 1 rfl rfl ?_
      refine z_iadd hC dX4_one_60 ?_
      obtain ⟨hg7, hf⟩ := zg_e hf
      refine z_iald hC za_57 hg7 rfl dX4_one_61 ?_
      obtain rfl := zso1 hf
      exact z_iret hC dX4_one_62
    replace hf := zif_f h6 hf
    by_cases h8 : a2 = (3 : Int32)
    · replace hf := zif_t h8 hf
      refine z_tabIn (tgt := 63) hC dX4_one_11 (by rw [h8]; decide) (by rw [h8]; decide) (by rw [h8]; rfl) (by decide) ?_
      refine z_aload_n hC dX4_one_63 0 rfl rfl ?_
      refine z_iconst hC dX4_one_64 (v := 0) rfl ?_
      refine z_iload_n hC dX4_one_65 1 rfl rfl ?_
      obtain ⟨v9, ev9, hf⟩ := zbd_e hf
      refine z_cvi (As := [.int (0 : Int32), .int a1]) (rest := []) hC zo_mod rfl (c_X4_isDown l G w (0 : Int32) a1 ev9) zw_ml_X4_167 zy_X4_isDown ⟨rfl, rfl, Nat.le_of_ble_eq_true rfl, Nat.le_of_ble_eq_true rfl⟩ rfl rfl (Nat.le_of_ble_eq_true rfl) dX4_one_66 ?_
      refine z_if_eq (tgt := 76) hC dX4_one_69 (by decide) (fun h10 => ?_) (fun h10 => ?_)
      · replace hf := zif_t h10 hf
        refine z_aload_n hC dX4_one_76 0 rfl rfl ?_
        refine z_iconst hC dX4_one_77 (v := 0) rfl ?_
        refine z_iload_n hC dX4_one_78 1 rfl rfl ?_
        obtain ⟨v11, ev11, hf⟩ := zbd_e hf
        refine z_cvi (As := [.int (0 : Int32), .int a1]) (rest := []) hC zo_mod rfl (c_X4_wantOf l G w (0 : Int32) a1 ev11) zw_ml_X4_181 zy_X4_wantOf ⟨rfl, rfl, Nat.le_of_ble_eq_true rfl, Nat.le_of_ble_eq_true rfl⟩ rfl rfl (Nat.le_of_ble_eq_true rfl) dX4_one_79 ?_
        obtain rfl := zso1 hf
        exact z_iret hC dX4_one_82
      replace hf := zif_f h10 hf
      refine z_iconst hC dX4_one_72 (v := 0) rfl ?_
      refine z_goto (tgt := 82) hC dX4_one_73 (by decide) ?_
      obtain rfl := zso1 hf
      exact z_iret hC dX4_one_82
    replace hf := zif_f h8 hf
    have nh2 := znt (k := 0) (by decide) h2
    have nh4 := znt (k := 1) (by decide) h4
    have nh6 := znt (k := 2) (by decide) h6
    have nh8 := znt (k := 3) (by decide) h8
    refine z_tabOut (tgt := 83) hC dX4_one_11 (by omega) (by decide) ?_
    refine z_iconst hC dX4_one_83 (v := -1) rfl ?_
    obtain rfl := zso1 hf
    exact z_iret hC dX4_one_84
  replace hf := zif_t h1 hf
  refine z_iconst hC dX4_one_8 (v := -1) rfl ?_
  obtain rfl := zso1 hf
  exact z_iret hC dX4_one_9
theorem zy_X4_one : zYV yX4_one cX4_one 3 (some .int) RX4 2 := ⟨zw_cd_X4_one, zw_im_X4_one, zw_sel_X4_one, zw_ini_X4, by decide +kernel⟩
abbrev rm_X4_plan : Room := { frames := 2, cells := 0, slots := 0, locals := 45 }
def f_X4_plan (w : zW) (a1 : Int32) : Option (Int32 × zW) :=
  zbd2 (f_X4_sets w (f_X4_isPlan a1) (11 : Int32) a1) fun v2 w1 =>
  some (v2, w1)
set_option maxRecDepth 100000 in
set_option maxHeartbeats 4000000 in
theorem c_X4_plan (l : Launch) (G : zG) (w : zW) (a1 : Int32) {r : Int32} {wz : zW} (hf : f_X4_plan w a1 = some (r, wz)) : zMet l G yX4_plan cX4_plan 2 (some .int) rm_X4_plan [.ref (zad G 56), .int a1] w (some (.int r)) wz := by
  refine z_start (own := RX4) (by decide) rfl (Nat.le_of_ble_eq_true rfl) (lv := [(0, .ref (zad G 56)), (1, .int a1)]) rfl ?_
  intro p e s m args below meth c hC
  unfold f_X4_plan at hf
  refine z_aload_n hC dX4_plan_0 0 rfl rfl ?_
  refine z_iload_n hC dX4_plan_1 1 rfl rfl ?_
  refine z_csi (As := [.int a1]) (rest := [.ref (zad G 56)]) hC (c_X4_isPlan l G w a1) zw_ml_X4_211 zy_X4_isPlan ⟨rfl, rfl, Nat.le_of_ble_eq_true rfl, Nat.le_of_ble_eq_true rfl⟩ rfl rfl (Nat.le_of_ble_eq_true rfl) dX4_plan_2 ?_
  refine z_bipush hC dX4_plan_5 (v := 11) rfl ?_
  refine z_iload_n hC dX4_plan_7 1 rfl rfl ?_
  obtain ⟨v2, w1, ew1, hf⟩ := zbd2_e hf
  refine z_cvi (As := [.int (f_X4_isPlan a1), .int (11 : Int32), .int a1]) (rest := []) hC zo_mod rfl (c_X4_sets l G w (f_X4_isPlan a1) (11 : Int32) a1 ew1) zw_ml_X4_200 zy_X4_sets ⟨rfl, rfl, Nat.le_of_ble_eq_true rfl, Nat.le_of_ble_eq_true rfl⟩ rfl rfl (Nat.le_of_ble_eq_true rfl) dX4_plan_8 ?_
  obtain ⟨rfl, rfl⟩ := zso2 hf
  exact z_iret hC dX4_plan_11
theorem zy_X4_plan : zYV yX4_plan cX4_plan 2 (some .int) RX4 1 := ⟨zw_cd_X4_plan, zw_im_X4_plan, zw_sel_X4_plan, zw_ini_X4, by decide +kernel⟩
abbrev rm_X4_pours : Room := { frames := 2, cells := 0, slots := 0, locals := 42 }
def f_X4_pours (w : zW) : Option Int32 :=
  zbd (f_X4_pourer w (0 : Int32)) fun v1 =>
  some v1
set_option maxRecDepth 100000 in
set_option maxHeartbeats 4000000 in
theorem c_X4_pours (l : Launch) (G : zG) (w : zW) {r : Int32} (hf : f_X4_pours w = some r) : zMet l G yX4_pours cX4_pours 1 (some .int) rm_X4_pours [.ref (zad G 56)] w (some (.int r)) w := by
  refine z_start (own := RX4) (by decide) rfl (Nat.le_of_ble_eq_true rfl) (lv := [(0, .ref (zad G 56))]) rfl ?_
  intro p e s m args below meth c hC
  unfold f_X4_pours at hf
  refine z_aload_n hC dX4_pours_0 0 rfl rfl ?_
  refine z_iconst hC dX4_pours_1 (v := 0) rfl ?_
  obtain ⟨v1, ev1, hf⟩ := zbd_e hf
  refine z_cvi (As := [.int (0 : Int32)]) (rest := []) hC zo_mod rfl (c_X4_pourer l G w (0 : Int32) ev1) zw_ml_X4_174 zy_X4_pourer ⟨rfl, rfl, Nat.le_of_ble_eq_true rfl, Nat.le_of_ble_eq_true rfl⟩ rfl rfl (Nat.le_of_ble_eq_true rfl) dX4_pours_2 ?_
  obtain rfl := zso1 hf
  exact z_iret hC dX4_pours_5
theorem zy_X4_pours : zYV yX4_pours cX4_pours 1 (some .int) RX4 0 := ⟨zw_cd_X4_pours, zw_im_X4_pours, zw_sel_X4_pours, zw_ini_X4, by decide +kernel⟩
abbrev rm_X4_put : Room := { frames := 1, cells := 0, slots := 0, locals := 25 }
def f_X4_put (w : zW) (a1 : Int32) (a2 : Int32) (a3 : Int32) : Option (Int32 × zW) :=
  if (f_X4_in (a1.toInt64) (0 : Int64) (3 : Int64)) = (0 : Int32) then
    some ((-1 : Int32), w)
  else
    zg (zin a1 4) <|
    if (w 68 (zx a1)) = (-4 : Int32) then
      some ((-11 : Int32), w)
    else
      zg (zin a1 4) <|
      if (f_X4_in (a2.toInt64) (0 : Int64) (((w 69 (zx a1)) - (1 : Int32)).toInt64)) = (0 : Int32) then
        some ((-12 : Int32), w)
      else
        zg (zin a1 4) <|
        zjn1 (fun (v7 : Int32) =>
          zg (zin (((40 : Int32) * a1) + a2) 160) <|
          zlet (zup w 70 (zx (((40 : Int32) * a1) + a2)) v7) fun w9 =>
          some ((1 : Int32), w9))
        (fun (j99 : Int32 → Option (Int32 × zW)) =>
        if (w 68 (zx a1)) = (0 : Int32) then
          j99 ((a3 <<< ((24 : Int32) &&& 31)) >>> ((24 : Int32) &&& 31))
        else
          zg (zin a1 4) <|
          if (w 68 (zx a1)) = (1 : Int32) then
            j99 ((a3 <<< ((16 : Int32) &&& 31)) >>> ((16 : Int32) &&& 31))
          else
            j99 a3)
set_option maxRecDepth 100000 in
set_option maxHeartbeats 4000000 in
theorem c_X4_put (l : Launch) (G : zG) (w : zW) (a1 : Int32) (a2 : Int32) (a3 : Int32) {r : Int32} {wz : zW} (hf : f_X4_put w a1 a2 a3 = some (r, wz)) : zMet l G yX4_put cX4_put 4 (some .int) rm_X4_put [.ref (zad G 56), .int a1, .int a2, .int a3] w (some (.int r)) wz := by
  refine z_start (own := RX4) (by decide) rfl (Nat.le_of_ble_eq_true rfl) (lv := [(0, .ref (zad G 56)), (1, .int a1), (2, .int a2), (3, .int a3)]) rfl ?_
  intro p e s m args below meth c hC
  unfold f_X4_put at hf
  refine z_iload_n hC dX4_put_0 1 rfl rfl ?_
  refine z_i2l hC dX4_put_1 ?_
  refine z_lconst hC dX4_put_2 (v := 0) rfl ?_
  refine z_ldc2 hC zw_cst_X4_165 dX4_put_3 ?_
  refine z_csi (As := [.long (a1.toInt64), .long (0 : Int64), .long (3 : Int64)]) (rest := []) hC (c_X4_in l G w (a1.toInt64) (0 : Int64) (3 : Int64)) zw_ml_X4_59 zy_X4_in ⟨rfl, rfl, Nat.le_of_ble_eq_true rfl, Nat.le_of_ble_eq_true rfl⟩ rfl rfl (Nat.le_of_ble_eq_true rfl) dX4_put_6 ?_
  refine z_if_ne (tgt := 14) hC dX4_put_9 (by decide) (fun h1 => ?_) (fun h1 => ?_)
  · replace hf := zif_f h1 hf
    refine z_aload_n hC dX4_put_14 0 rfl rfl ?_
    refine z_get4 hC 32 (by decide) zw_fl_X4_48 (v := .ref (zad G 68)) rfl dX4_put_15 ?_
    refine z_iload_n hC dX4_put_18 1 rfl rfl ?_
    obtain ⟨hg2, hf⟩ := zg_e hf
    refine z_iald hC za_68 hg2 rfl dX4_put_19 ?_
    refine z_bipush hC dX4_put_20 (v := -4) rfl ?_
    refine z_icmp_ne (tgt := 28) hC dX4_put_22 (by decide) (fun h3 => ?_) (fun h3 => ?_)
    · replace hf := zif_f h3 hf
      refine z_iload_n hC dX4_put_28 2 rfl rfl ?_
      refine z_i2l hC dX4_put_29 ?_
      refine z_lconst hC dX4_put_30 (v := 0) rfl ?_
      refine z_aload_n hC dX4_put_31 0 rfl rfl ?_
      refine z_get4 hC 33 (by decide) zw_fl_X4_51 (v := .ref (zad G 69)) rfl dX4_put_32 ?_
      refine z_iload_n hC dX4_put_35 1 rfl rfl ?_
      obtain ⟨hg4, hf⟩ := zg_e hf
      refine z_iald hC za_69 hg4 rfl dX4_put_36 ?_
      refine z_iconst hC dX4_put_37 (v := 1) rfl ?_
      refine z_isub hC dX4_put_38 ?_
      refine z_i2l hC dX4_put_39 ?_
      refine z_csi (As := [.long (a2.toInt64), .long (0 : Int64), .long (((w 69 (zx a1)) - (1 : Int32)).toInt64)]) (rest := []) hC (c_X4_in l G w (a2.toInt64) (0 : Int64) (((w 69 (zx a1)) - (1 : Int32)).toInt64)) zw_ml_X4_59 zy_X4_in ⟨rfl, rfl, Nat.le_of_ble_eq_true rfl, Nat.le_of_ble_eq_true rfl⟩ rfl rfl (Nat.le_of_ble_eq_true rfl) dX4_put_40 ?_
      refine z_if_ne (tgt := 49) hC dX4_put_43 (by decide) (fun h5 => ?_) (fun h5 => ?_)
      · replace hf := zif_f h5 hf
        refine z_aload_n hC dX4_put_49 0 rfl rfl ?_
        refine z_get4 hC 34 (by decide) zw_fl_X4_54 (v := .ref (zad G 70)) rfl dX4_put_50 ?_
        refine z_bipush hC dX4_put_53 (v := 40) rfl ?_
        refine z_iload_n hC dX4_put_55 1 rfl rfl ?_
        refine z_imul hC dX4_put_56 ?_
        refine z_iload_n hC dX4_put_57 2 rfl rfl ?_
        refine z_iadd hC dX4_put_58 ?_
        refine z_aload_n hC dX4_put_59 0 rfl rfl ?_
        refine z_get4 hC 32 (by decide) zw_fl_X4_48 (v := .ref (zad G 68)) rfl dX4_put_60 ?_
        refine z_iload_n hC dX4_put_63 1 rfl rfl ?_
        obtain ⟨hg6, hf⟩ := zg_e hf
        refine z_iald hC za_68 hg6 rfl dX4_put_64 ?_
        obtain ⟨j99, hj99, hf⟩ := zjn1_e hf
        have hJ99 : ∀ (v7 : Int32), j99 v7 = some (r, wz) → Z G p l e rm_X4_put s m args below meth c (MQ below (zQ G (some (.int r)) wz) args s 0 0 (zA G)) 4 99 [] [.int v7, .int (((40 : Int32) * a1) + a2), .ref (zad G 70)] w := by
          intro v7 hf
          replace hf := hj99 v7 hf
          obtain ⟨hg8, hf⟩ := zg_e hf
          obtain ⟨w9, ew9, hf⟩ := zlet_e hf
          refine z_iast hC za_70 hg8 rfl ew9 dX4_put_99 ?_
          refine z_iconst hC dX4_put_100 (v := 1) rfl ?_
          obtain ⟨rfl, rfl⟩ := zso2 hf
          exact z_iret hC dX4_put_101
        refine z_if_ne (tgt := 78) hC dX4_put_65 (by decide) (fun h10 => ?_) (fun h10 => ?_)
        · replace hf := zif_f h10 hf
          refine z_aload_n hC dX4_put_78 0 rfl rfl ?_
          refine z_get4 hC 32 (by decide) zw_fl_X4_48 (v := .ref (zad G 68)) rfl dX4_put_79 ?_
          refine z_iload_n hC dX4_put_82 1 rfl rfl ?_
          obtain ⟨hg11, hf⟩ := zg_e hf
          refine z_iald hC za_68 hg11 rfl dX4_put_83 ?_
          refine z_iconst hC dX4_put_84 (v := 1) rfl ?_
          refine z_icmp_ne (tgt := 98) hC dX4_put_85 (by decide) (fun h12 => ?_) (fun h12 => ?_)
          · replace hf := zif_f h12 hf
            refine z_iload_n hC dX4_put_98 3 rfl rfl ?_
            refine z_lv [] rfl ?_
            exact hJ99 _ hf
          replace hf := zif_t h12 hf
          refine z_iload_n hC dX4_put_88 3 rfl rfl ?_
          refine z_bipush hC dX4_put_89 (v := 16) rfl ?_
          refine z_ishl hC dX4_put_91 ?_
          refine z_bipush hC dX4_put_92 (v := 16) rfl ?_
          refine z_ishr hC dX4_put_94 ?_
          refine z_goto (tgt := 99) hC dX4_put_95 (by decide) ?_
          refine z_lv [] rfl ?_
          exact hJ99 _ hf
        replace hf := zif_t h10 hf
        refine z_iload_n hC dX4_put_68 3 rfl rfl ?_
        refine z_bipush hC dX4_put_69 (v := 24) rfl ?_
        refine z_ishl hC dX4_put_71 ?_
        refine z_bipush hC dX4_put_72 (v := 24) rfl ?_
        refine z_ishr hC dX4_put_74 ?_
        refine z_goto (tgt := 99) hC dX4_put_75 (by decide) ?_
        refine z_lv [] rfl ?_
        exact hJ99 _ hf
      replace hf := zif_t h5 hf
      refine z_bipush hC dX4_put_46 (v := -12) rfl ?_
      obtain ⟨rfl, rfl⟩ := zso2 hf
      exact z_iret hC dX4_put_48
    replace hf := zif_t h3 hf
    refine z_bipush hC dX4_put_25 (v := -11) rfl ?_
    obtain ⟨rfl, rfl⟩ := zso2 hf
    exact z_iret hC dX4_put_27
  replace hf := zif_t h1 hf
  refine z_iconst hC dX4_put_12 (v := -1) rfl ?_
  obtain ⟨rfl, rfl⟩ := zso2 hf
  exact z_iret hC dX4_put_13
theorem zy_X4_put : zYV yX4_put cX4_put 4 (some .int) RX4 3 := ⟨zw_cd_X4_put, zw_im_X4_put, zw_sel_X4_put, zw_ini_X4, by decide +kernel⟩
abbrev rm_X4_read : Room := { frames := 3, cells := 0, slots := 0, locals := 68 }
def b_X4_read_55 (a1 : Int32) (a2 : Int32) (a3 : Int32) (a4 : Int32) (j196 : Int32 → Int32 → zW → Option (Int32 × zW)) (j174 : Int32 → zW → Option (Int32 × zW)) (k55 : Int32 → Int32 → Int32 → zW → Option (Int32 × zW)) (v12 : Int32) (v13 : Int32) (v14 : Int32) (w15 : zW) : Option (Int32 × zW) :=
  if ((2 : Int32) * a4) ≤ v14 then
    j196 v12 v13 w15
  else
  if v12 = (0 : Int32) then
    zg (zin a1 4) <|
    zjn1 (fun (v19 : Int32) =>
      zjn2 (fun (v20 : Int32) (w21 : zW) =>
        zlet (v14 + (1 : Int32)) fun v22 =>
        k55 v19 v20 v22 w21)
      (fun (j190 : Int32 → zW → Option (Int32 × zW)) =>
      if v19 = (0 : Int32) then
        if (zrem v14 (2 : Int32)) = (1 : Int32) then
          zlet ((((40 : Int32) * a1) + a3) + v14) fun v25 =>
          zg (zin (v25 - (1 : Int32)) 160) <|
          zg (zin v25 160) <|
          zbd2 (f_X4_drinks w15 (w15 70 (zx (v25 - (1 : Int32)))) (w15 70 (zx v25))) fun v29 w28 =>
          if (0 : Int32) ≤ v29 then
            zlet (v13 + (1 : Int32)) fun v31 =>
            j190 v31 w28
          else
          j174 v13 w28
        else
          j190 v13 w15
      else
        j190 v13 w15))
    (fun (j125 : Int32 → Option (Int32 × zW)) =>
    if (w15 68 (zx a1)) = (-4 : Int32) then
      j125 (1 : Int32)
    else
      zg (zin a1 4) <|
      if (w15 68 (zx a1)) = a2 then
        zg (zin a1 4) <|
        if (f_X4_in ((a3.toInt64) + (v14.toInt64)) (0 : Int64) (((w15 69 (zx a1)) - (1 : Int32)).toInt64)) = (0 : Int32) then
          j125 (2 : Int32)
        else
          j125 (0 : Int32)
      else
      j125 (3 : Int32))
  else
    j196 v12 v13 w15
def f_X4_read (w : zW) (a1 : Int32) (a2 : Int32) (a3 : Int32) (a4 : Int32) : Option (Int32 × zW) :=
  if (f_X4_in (a1.toInt64) (0 : Int64) (3 : Int64)) = (0 : Int32) then
    some ((-1 : Int32), w)
  else
  if (f_X4_in (a2.toInt64) (0 : Int64) (2 : Int64)) = (0 : Int32) then
    some ((-1 : Int32), w)
  else
  if (f_X4_in (a4.toInt64) (0 : Int64) (20 : Int64)) = (0 : Int32) then
    some ((-1 : Int32), w)
  else
    zbd (f_X4_copies w (0 : Int32) (60 : Int32)) fun w4 =>
    zjn3 (fun (v5 : Int32) (v6 : Int32) (w7 : zW) =>
      zlet (zup w7 56 35 v5) fun w8 =>
      some (v6, w8))
    (fun (j196 : Int32 → Int32 → zW → Option (Int32 × zW)) =>
    zjn2 (fun (v9 : Int32) (w10 : zW) =>
      zbd (f_X4_copies w10 (60 : Int32) (0 : Int32)) fun w11 =>
      some ((-20 : Int32) - v9, w11))
    (fun (j174 : Int32 → zW → Option (Int32 × zW)) =>
    zfix4 (b_X4_read_55 a1 a2 a3 a4 j196 j174) 100000 (0 : Int32) (0 : Int32) (0 : Int32) w4))
set_option maxRecDepth 100000 in
set_option maxHeartbeats 4000000 in
theorem c_X4_read (l : Launch) (G : zG) (w : zW) (a1 : Int32) (a2 : Int32) (a3 : Int32) (a4 : Int32) {r : Int32} {wz : zW} (hf : f_X4_read w a1 a2 a3 a4 = some (r, wz)) : zMet l G yX4_read cX4_read 9 (some .int) rm_X4_read [.ref (zad G 56), .int a1, .int a2, .int a3, .int a4] w (some (.int r)) wz := by
  refine z_start (own := RX4) (by decide) rfl (Nat.le_of_ble_eq_true rfl) (lv := [(0, .ref (zad G 56)), (1, .int a1), (2, .int a2), (3, .int a3), (4, .int a4)]) rfl ?_
  intro p e s m args below meth c hC
  unfold f_X4_read at hf
  refine z_iload_n hC dX4_read_0 1 rfl rfl ?_
  refine z_i2l hC dX4_read_1 ?_
  refine z_lconst hC dX4_read_2 (v := 0) rfl ?_
  refine z_ldc2 hC zw_cst_X4_165 dX4_read_3 ?_
  refine z_csi (As := [.long (a1.toInt64), .long (0 : Int64), .long (3 : Int64)]) (rest := []) hC (c_X4_in l G w (a1.toInt64) (0 : Int64) (3 : Int64)) zw_ml_X4_59 zy_X4_in ⟨rfl, rfl, Nat.le_of_ble_eq_true rfl, Nat.le_of_ble_eq_true rfl⟩ rfl rfl (Nat.le_of_ble_eq_true rfl) dX4_read_6 ?_
  refine z_if_eq (tgt := 37) hC dX4_read_9 (by decide) (fun h1 => ?_) (fun h1 => ?_)
  · replace hf := zif_t h1 hf
    refine z_iconst hC dX4_read_37 (v := -1) rfl ?_
    obtain ⟨rfl, rfl⟩ := zso2 hf
    exact z_iret hC dX4_read_38
  replace hf := zif_f h1 hf
  refine z_iload_n hC dX4_read_12 2 rfl rfl ?_
  refine z_i2l hC dX4_read_13 ?_
  refine z_lconst hC dX4_read_14 (v := 0) rfl ?_
  refine z_ldc2 hC zw_cst_X4_123 dX4_read_15 ?_
  refine z_csi (As := [.long (a2.toInt64), .long (0 : Int64), .long (2 : Int64)]) (rest := []) hC (c_X4_in l G w (a2.toInt64) (0 : Int64) (2 : Int64)) zw_ml_X4_59 zy_X4_in ⟨rfl, rfl, Nat.le_of_ble_eq_true rfl, Nat.le_of_ble_eq_true rfl⟩ rfl rfl (Nat.le_of_ble_eq_true rfl) dX4_read_18 ?_
  refine z_if_eq (tgt := 37) hC dX4_read_21 (by decide) (fun h2 => ?_) (fun h2 => ?_)
  · replace hf := zif_t h2 hf
    refine z_iconst hC dX4_read_37 (v := -1) rfl ?_
    obtain ⟨rfl, rfl⟩ := zso2 hf
    exact z_iret hC dX4_read_38
  replace hf := zif_f h2 hf
  refine z_iload hC dX4_read_24 4 rfl ?_
  refine z_i2l hC dX4_read_26 ?_
  refine z_lconst hC dX4_read_27 (v := 0) rfl ?_
  refine z_ldc2 hC zw_cst_X4_204 dX4_read_28 ?_
  refine z_csi (As := [.long (a4.toInt64), .long (0 : Int64), .long (20 : Int64)]) (rest := []) hC (c_X4_in l G w (a4.toInt64) (0 : Int64) (20 : Int64)) zw_ml_X4_59 zy_X4_in ⟨rfl, rfl, Nat.le_of_ble_eq_true rfl, Nat.le_of_ble_eq_true rfl⟩ rfl rfl (Nat.le_of_ble_eq_true rfl) dX4_read_31 ?_
  refine z_if_ne (tgt := 39) hC dX4_read_34 (by decide) (fun h3 => ?_) (fun h3 => ?_)
  · replace hf := zif_f h3 hf
    refine z_aload_n hC dX4_read_39 0 rfl rfl ?_
    refine z_iconst hC dX4_read_40 (v := 0) rfl ?_
    refine z_bipush hC dX4_read_41 (v := 60) rfl ?_
    obtain ⟨w4, ew4, hf⟩ := zbd_e hf
    refine z_cvv (As := [.int (0 : Int32), .int (60 : Int32)]) (rest := []) hC zo_mod rfl (c_X4_copies l G w (0 : Int32) (60 : Int32) ew4) zw_ml_X4_250 zy_X4_copies ⟨rfl, rfl, Nat.le_of_ble_eq_true rfl, Nat.le_of_ble_eq_true rfl⟩ rfl rfl (Nat.le_of_ble_eq_true rfl) dX4_read_43 ?_
    refine z_iconst hC dX4_read_46 (v := 0) rfl ?_
    refine z_istore (lv' := [(5, .int (0 : Int32)), (0, .ref (zad G 56)), (1, .int a1), (2, .int a2), (3, .int a3), (4, .int a4)]) hC dX4_read_47 (by decide) rfl ?_
    refine z_iconst hC dX4_read_49 (v := 0) rfl ?_
    refine z_istore (lv' := [(6, .int (0 : Int32)), (5, .int (0 : Int32)), (0, .ref (zad G 56)), (1, .int a1), (2, .int a2), (3, .int a3), (4, .int a4)]) hC dX4_read_50 (by decide) rfl ?_
    refine z_iconst hC dX4_read_52 (v := 0) rfl ?_
    refine z_istore (lv' := [(7, .int (0 : Int32)), (6, .int (0 : Int32)), (5, .int (0 : Int32)), (0, .ref (zad G 56)), (1, .int a1), (2, .int a2), (3, .int a3), (4, .int a4)]) hC dX4_read_53 (by decide) rfl ?_
    obtain ⟨j196, hj196, hf⟩ := zjn3_e hf
    have hJ196 : ∀ (v5 : Int32) (v6 : Int32) (w7 : zW), j196 v5 v6 w7 = some (r, wz) → Z G p l e rm_X4_read s m args below meth c (MQ below (zQ G (some (.int r)) wz) args s 0 0 (zA G)) 9 196 [(0, .ref (zad G 56)), (5, .int v5), (6, .int v6)] [] w7 := by
      intro v5 v6 w7 hf
      replace hf := hj196 v5 v6 w7 hf
      refine z_aload_n hC dX4_read_196 0 rfl rfl ?_
      refine z_iload hC dX4_read_197 1 rfl ?_
      obtain ⟨w8, ew8, hf⟩ := zlet_e hf
      refine z_put4 hC 35 (by decide) rfl rfl zw_fl_X4_285 rfl ew8 dX4_read_199 ?_
      refine z_iload hC dX4_read_202 2 rfl ?_
      obtain ⟨rfl, rfl⟩ := zso2 hf
      exact z_iret hC dX4_read_204
    obtain ⟨j174, hj174, hf⟩ := zjn2_e hf
    have hJ174 : ∀ (v9 : Int32) (w10 : zW), j174 v9 w10 = some (r, wz) → Z G p l e rm_X4_read s m args below meth c (MQ below (zQ G (some (.int r)) wz) args s 0 0 (zA G)) 9 174 [(0, .ref (zad G 56)), (6, .int v9)] [] w10 := by
      intro v9 w10 hf
      replace hf := hj174 v9 w10 hf
      refine z_aload_n hC dX4_read_174 0 rfl rfl ?_
      refine z_bipush hC dX4_read_175 (v := 60) rfl ?_
      refine z_iconst hC dX4_read_177 (v := 0) rfl ?_
      obtain ⟨w11, ew11, hf⟩ := zbd_e hf
      refine z_cvv (As := [.int (60 : Int32), .int (0 : Int32)]) (rest := []) hC zo_mod rfl (c_X4_copies l G w10 (60 : Int32) (0 : Int32) ew11) zw_ml_X4_250 zy_X4_copies ⟨rfl, rfl, Nat.le_of_ble_eq_true rfl, Nat.le_of_ble_eq_true rfl⟩ rfl rfl (Nat.le_of_ble_eq_true rfl) dX4_read_178 ?_
      refine z_bipush hC dX4_read_181 (v := -20) rfl ?_
      refine z_iload hC dX4_read_183 1 rfl ?_
      refine z_isub hC dX4_read_185 ?_
      obtain ⟨rfl, rfl⟩ := zso2 hf
      exact z_iret hC dX4_read_186
    have hL55 : ∀ (n : Nat) (v12 : Int32) (v13 : Int32) (v14 : Int32) (w15 : zW), zfix4 (b_X4_read_55 a1 a2 a3 a4 j196 j174) n v12 v13 v14 w15 = some (r, wz) → Z G p l e rm_X4_read s m args below meth c (MQ below (zQ G (some (.int r)) wz) args s 0 0 (zA G)) 9 55 [(0, .ref (zad G 56)), (1, .int a1), (2, .int a2), (3, .int a3), (4, .int a4), (5, .int v12), (6, .int v13), (7, .int v14)] [] w15 := by
      intro n
      induction n with
      | zero => intro v12 v13 v14 w15 hf; exact (zfix4_0 hf).elim
      | succ n ih55 =>
        intro v12 v13 v14 w15 hf
        replace hf := zfix4_e hf
        unfold b_X4_read_55 at hf
        refine z_iload hC dX4_read_55 7 rfl ?_
        refine z_iconst hC dX4_read_57 (v := 2) rfl ?_
        refine z_iload hC dX4_read_58 4 rfl ?_
        refine z_imul hC dX4_read_60 ?_
        refine z_icmp_ge (tgt := 196) hC dX4_read_61 (by decide) (fun h16 => ?_) (fun h16 => ?_)
        · replace hf := zif_t h16 hf
          refine z_lv [0, 5, 6] rfl ?_
          exact hJ196 _ _ _ hf
        replace hf := zif_f h16 hf
        refine z_iload hC dX4_read_64 5 rfl ?_
        refine z_if_ne (tgt := 196) hC dX4_read_66 (by decide) (fun h17 => ?_) (fun h17 => ?_)
        · replace hf := zif_f h17 hf
          refine z_lv [0, 5, 6] rfl ?_
          exact hJ196 _ _ _ hf
        replace hf := zif_t h17 hf
        refine z_aload_n hC dX4_read_69 0 rfl rfl ?_
        refine z_get4 hC 32 (by decide) zw_fl_X4_48 (v := .ref (zad G 68)) rfl dX4_read_70 ?_
        refine z_iload_n hC dX4_read_73 1 rfl rfl ?_
        obtain ⟨hg18, hf⟩ := zg_e hf
        refine z_iald hC za_68 hg18 rfl dX4_read_74 ?_
        refine z_bipush hC dX4_read_75 (v := -4) rfl ?_
        obtain ⟨j125, hj125, hf⟩ := zjn1_e hf
        have hJ125 : ∀ (v19 : Int32), j125 v19 = some (r, wz) → Z G p l e rm_X4_read s m args below meth c (MQ below (zQ G (some (.int r)) wz) args s 0 0 (zA G)) 9 125 [(0, .ref (zad G 56)), (1, .int a1), (2, .int a2), (3, .int a3), (4, .int a4), (6, .int v13), (7, .int v14)] [.int v19] w15 := by
          intro v19 hf
          replace hf := hj125 v19 hf
          refine z_istore (lv' := [(5, .int v19), (0, .ref (zad G 56)), (1, .int a1), (2, .int a2), (3, .int a3), (4, .int a4), (6, .int v13), (7, .int v14)]) hC dX4_read_125 (by decide) rfl ?_
          refine z_iload hC dX4_read_127 0 rfl ?_
          obtain ⟨j190, hj190, hf⟩ := zjn2_e hf
          have hJ190 : ∀ (v20 : Int32) (w21 : zW), j190 v20 w21 = some (r, wz) → Z G p l e rm_X4_read s m args below meth c (MQ below (zQ G (some (.int r)) wz) args s 0 0 (zA G)) 9 190 [(0, .ref (zad G 56)), (1, .int a1), (2, .int a2), (3, .int a3), (4, .int a4), (5, .int v19), (6, .int v20), (7, .int v14)] [] w21 := by
            intro v20 w21 hf
            replace hf := hj190 v20 w21 hf
            obtain ⟨v22, ev22, hf⟩ := zlet_e hf
            refine z_iinc (v := v22) (lv' := [(7, .int v22), (0, .ref (zad G 56)), (1, .int a1), (2, .int a2), (3, .int a3), (4, .int a4), (5, .int v19), (6, .int v20)]) hC dX4_read_190 7 rfl (by rw [ev22]; rfl) (by decide) rfl ?_
            refine z_goto (tgt := 55) hC dX4_read_193 (by decide) ?_
            refine z_lv [1, 2, 3, 4, 5, 6, 7, 0] rfl ?_
            exact ih55 _ _ _ _ hf
          refine z_if_ne (tgt := 190) hC dX4_read_129 (by decide) (fun h23 => ?_) (fun h23 => ?_)
          · replace hf := zif_f h23 hf
            refine z_lv [1, 2, 3, 4, 5, 0, 6, 7] rfl ?_
            exact hJ190 _ _ hf
          replace hf := zif_t h23 hf
          refine z_iload hC dX4_read_132 7 rfl ?_
          refine z_iconst hC dX4_read_134 (v := 2) rfl ?_
          refine z_irem hC dX4_read_135 (by decide) ?_
          refine z_iconst hC dX4_read_136 (v := 1) rfl ?_
          refine z_icmp_ne (tgt := 190) hC dX4_read_137 (by decide) (fun h24 => ?_) (fun h24 => ?_)
          · replace hf := zif_f h24 hf
            refine z_lv [1, 2, 3, 4, 5, 0, 6, 7] rfl ?_
            exact hJ190 _ _ hf
          replace hf := zif_t h24 hf
          refine z_bipush hC dX4_read_140 (v := 40) rfl ?_
          refine z_iload_n hC dX4_read_142 2 rfl rfl ?_
          refine z_imul hC dX4_read_143 ?_
          refine z_iload_n hC dX4_read_144 4 rfl rfl ?_
          refine z_iadd hC dX4_read_145 ?_
          refine z_iload hC dX4_read_146 7 rfl ?_
          refine z_iadd hC dX4_read_148 ?_
          obtain ⟨v25, ev25, hf⟩ := zlet_e hf
          refine z_topi ev25 ?_
          refine z_istore (lv' := [(8, .int v25), (5, .int v19), (0, .ref (zad G 56)), (1, .int a1), (2, .int a2), (3, .int a3), (4, .int a4), (6, .int v13), (7, .int v14)]) hC dX4_read_149 (by decide) rfl ?_
          refine z_aload_n hC dX4_read_151 2 rfl rfl ?_
          refine z_aload_n hC dX4_read_152 2 rfl rfl ?_
          refine z_get4 hC 34 (by decide) zw_fl_X4_54 (v := .ref (zad G 70)) rfl dX4_read_153 ?_
          refine z_iload hC dX4_read_156 0 rfl ?_
          refine z_iconst hC dX4_read_158 (v := 1) rfl ?_
          refine z_isub hC dX4_read_159 ?_
          obtain ⟨hg26, hf⟩ := zg_e hf
          refine z_iald hC za_70 hg26 rfl dX4_read_160 ?_
          refine z_aload_n hC dX4_read_161 2 rfl rfl ?_
          refine z_get4 hC 34 (by decide) zw_fl_X4_54 (v := .ref (zad G 70)) rfl dX4_read_162 ?_
          refine z_iload hC dX4_read_165 0 rfl ?_
          obtain ⟨hg27, hf⟩ := zg_e hf
          refine z_iald hC za_70 hg27 rfl dX4_read_167 ?_
          obtain ⟨v29, w28, ew28, hf⟩ := zbd2_e hf
          refine z_cvi (As := [.int (w15 70 (zx (v25 - (1 : Int32)))), .int (w15 70 (zx v25))]) (rest := []) hC zo_mod rfl (c_X4_drinks l G w15 (w15 70 (zx (v25 - (1 : Int32)))) (w15 70 (zx v25)) ew28) zw_ml_X4_206 zy_X4_drinks ⟨rfl, rfl, Nat.le_of_ble_eq_true rfl, Nat.le_of_ble_eq_true rfl⟩ rfl rfl (Nat.le_of_ble_eq_true rfl) dX4_read_168 ?_
          refine z_if_ge (tgt := 187) hC dX4_read_171 (by decide) (fun h30 => ?_) (fun h30 => ?_)
          · replace hf := zif_t h30 hf
            obtain ⟨v31, ev31, hf⟩ := zlet_e hf
            refine z_iinc (v := v31) (lv' := [(6, .int v31), (8, .int v25), (5, .int v19), (0, .ref (zad G 56)), (1, .int a1), (2, .int a2), (3, .int a3), (4, .int a4), (7, .int v14)]) hC dX4_read_187 7 rfl (by rw [ev31]; rfl) (by decide) rfl ?_
            refine z_lv [3, 4, 5, 6, 7, 2, 0, 8] rfl ?_
            exact hJ190 _ _ hf
          replace hf := zif_f h30 hf
          refine z_lv [2, 7] rfl ?_
          exact hJ174 _ _ hf
        refine z_icmp_ne (tgt := 84) hC dX4_read_77 (by decide) (fun h32 => ?_) (fun h32 => ?_)
        · replace hf := zif_f h32 hf
          refine z_aload_n hC dX4_read_84 0 rfl rfl ?_
          refine z_get4 hC 32 (by decide) zw_fl_X4_48 (v := .ref (zad G 68)) rfl dX4_read_85 ?_
          refine z_iload_n hC dX4_read_88 1 rfl rfl ?_
          obtain ⟨hg33, hf⟩ := zg_e hf
          refine z_iald hC za_68 hg33 rfl dX4_read_89 ?_
          refine z_iload_n hC dX4_read_90 2 rfl rfl ?_
          refine z_icmp_eq (tgt := 98) hC dX4_read_91 (by decide) (fun h34 => ?_) (fun h34 => ?_)
          · replace hf := zif_t h34 hf
            refine z_iload_n hC dX4_read_98 3 rfl rfl ?_
            refine z_i2l hC dX4_read_99 ?_
            refine z_iload hC dX4_read_100 7 rfl ?_
            refine z_i2l hC dX4_read_102 ?_
            refine z_ladd hC dX4_read_103 ?_
            refine z_lconst hC dX4_read_104 (v := 0) rfl ?_
            refine z_aload_n hC dX4_read_105 0 rfl rfl ?_
            refine z_get4 hC 33 (by decide) zw_fl_X4_51 (v := .ref (zad G 69)) rfl dX4_read_106 ?_
            refine z_iload_n hC dX4_read_109 1 rfl rfl ?_
            obtain ⟨hg35, hf⟩ := zg_e hf
            refine z_iald hC za_69 hg35 rfl dX4_read_110 ?_
            refine z_iconst hC dX4_read_111 (v := 1) rfl ?_
            refine z_isub hC dX4_read_112 ?_
            refine z_i2l hC dX4_read_113 ?_
            refine z_csi (As := [.long ((a3.toInt64) + (v14.toInt64)), .long (0 : Int64), .long (((w15 69 (zx a1)) - (1 : Int32)).toInt64)]) (rest := []) hC (c_X4_in l G w15 ((a3.toInt64) + (v14.toInt64)) (0 : Int64) (((w15 69 (zx a1)) - (1 : Int32)).toInt64)) zw_ml_X4_59 zy_X4_in ⟨rfl, rfl, Nat.le_of_ble_eq_true rfl, Nat.le_of_ble_eq_true rfl⟩ rfl rfl (Nat.le_of_ble_eq_true rfl) dX4_read_114 ?_
            refine z_if_ne (tgt := 124) hC dX4_read_117 (by decide) (fun h36 => ?_) (fun h36 => ?_)
            · replace hf := zif_f h36 hf
              refine z_iconst hC dX4_read_124 (v := 0) rfl ?_
              refine z_lv [0, 1, 2, 3, 4, 6, 7] rfl ?_
              exact hJ125 _ hf
            replace hf := zif_t h36 hf
            refine z_iconst hC dX4_read_120 (v := 2) rfl ?_
            refine z_goto (tgt := 125) hC dX4_read_121 (by decide) ?_
            refine z_lv [0, 1, 2, 3, 4, 6, 7] rfl ?_
            exact hJ125 _ hf
          replace hf := zif_f h34 hf
          refine z_iconst hC dX4_read_94 (v := 3) rfl ?_
          refine z_goto (tgt := 125) hC dX4_read_95 (by decide) ?_
          refine z_lv [0, 1, 2, 3, 4, 6, 7] rfl ?_
          exact hJ125 _ hf
        replace hf := zif_t h32 hf
        refine z_iconst hC dX4_read_80 (v := 1) rfl ?_
        refine z_goto (tgt := 125) hC dX4_read_81 (by decide) ?_
        refine z_lv [0, 1, 2, 3, 4, 6, 7] rfl ?_
        exact hJ125 _ hf
    refine z_lv [3, 4, 5, 6, 7, 2, 1, 0] rfl ?_
    exact hL55 _ _ _ _ _ hf
  replace hf := zif_t h3 hf
  refine z_iconst hC dX4_read_37 (v := -1) rfl ?_
  obtain ⟨rfl, rfl⟩ := zso2 hf
  exact z_iret hC dX4_read_38
theorem zy_X4_read : zYV yX4_read cX4_read 9 (some .int) RX4 4 := ⟨zw_cd_X4_read, zw_im_X4_read, zw_sel_X4_read, zw_ini_X4, by decide +kernel⟩
abbrev rm_X4_readOnce : Room := { frames := 3, cells := 0, slots := 0, locals := 69 }
def f_X4_readOnce (w : zW) (a1 : Int32) : Option zW :=
  if a1 = (1 : Int32) then
    zbd2 (f_X4_number w (0 : Int32) (60 : Int32)) fun v21 w20 =>
    zlet (zup w20 60 8 v21) fun w22 =>
    some w22
  else
    if a1 = (2 : Int32) then
      zbd2 (f_X4_number w (0 : Int32) (60 : Int32)) fun v15 w14 =>
      zlet (zup w14 56 13 v15) fun w16 =>
      zbd2 (f_X4_number w16 (0 : Int32) (23 : Int32)) fun v18 w17 =>
      zlet (zup w17 60 10 (v18 - (18 : Int32))) fun w19 =>
      some w19
    else
      if a1 = (3 : Int32) then
        zbd2 (f_X4_named w (13 : Int32) (4 : Int32)) fun v12 w11 =>
        zlet (zup w11 60 11 v12) fun w13 =>
        some w13
      else
        if a1 = (4 : Int32) then
          zbd2 (f_X4_number w (0 : Int32) (9 : Int32)) fun v9 w8 =>
          zlet (zup w8 60 12 v9) fun w10 =>
          some w10
        else
          zbd2 (f_X4_number w (0 : Int32) (10 : Int32)) fun v6 w5 =>
          zlet (zup w5 60 13 v6) fun w7 =>
          some w7
set_option maxRecDepth 100000 in
set_option maxHeartbeats 4000000 in
theorem c_X4_readOnce (l : Launch) (G : zG) (w : zW) (a1 : Int32) {wz : zW} (hf : f_X4_readOnce w a1 = some wz) : zMet l G yX4_readOnce cX4_readOnce 2 none rm_X4_readOnce [.ref (zad G 56), .int a1] w none wz := by
  refine z_start (own := RX4) (by decide) rfl (Nat.le_of_ble_eq_true rfl) (lv := [(0, .ref (zad G 56)), (1, .int a1)]) rfl ?_
  intro p e s m args below meth c hC
  unfold f_X4_readOnce at hf
  refine z_iload_n hC dX4_readOnce_0 1 rfl rfl ?_
  refine z_iconst hC dX4_readOnce_1 (v := 1) rfl ?_
  refine z_icmp_ne (tgt := 22) hC dX4_readOnce_2 (by decide) (fun h1 => ?_) (fun h1 => ?_)
  · replace hf := zif_f h1 hf
    refine z_iload_n hC dX4_readOnce_22 1 rfl rfl ?_
    refine z_iconst hC dX4_readOnce_23 (v := 2) rfl ?_
    refine z_icmp_ne (tgt := 58) hC dX4_readOnce_24 (by decide) (fun h2 => ?_) (fun h2 => ?_)
    · replace hf := zif_f h2 hf
      refine z_iload_n hC dX4_readOnce_58 1 rfl rfl ?_
      refine z_iconst hC dX4_readOnce_59 (v := 3) rfl ?_
      refine z_icmp_ne (tgt := 80) hC dX4_readOnce_60 (by decide) (fun h3 => ?_) (fun h3 => ?_)
      · replace hf := zif_f h3 hf
        refine z_iload_n hC dX4_readOnce_80 1 rfl rfl ?_
        refine z_iconst hC dX4_readOnce_81 (v := 4) rfl ?_
        refine z_icmp_ne (tgt := 102) hC dX4_readOnce_82 (by decide) (fun h4 => ?_) (fun h4 => ?_)
        · replace hf := zif_f h4 hf
          refine z_aload_n hC dX4_readOnce_102 0 rfl rfl ?_
          refine z_get4 hC 8 (by decide) zw_fl_X4_23 (v := .ref (zad G 60)) rfl dX4_readOnce_103 ?_
          refine z_bipush hC dX4_readOnce_106 (v := 13) rfl ?_
          refine z_aload_n hC dX4_readOnce_108 0 rfl rfl ?_
          refine z_iconst hC dX4_readOnce_109 (v := 0) rfl ?_
          refine z_bipush hC dX4_readOnce_110 (v := 10) rfl ?_
          obtain ⟨v6, w5, ew5, hf⟩ := zbd2_e hf
          refine z_cvi (As := [.int (0 : Int32), .int (10 : Int32)]) (rest := [.int (13 : Int32), .ref (zad G 60)]) hC zo_mod rfl (c_X4_number l G w (0 : Int32) (10 : Int32) ew5) zw_ml_X4_107 zy_X4_number ⟨rfl, rfl, Nat.le_of_ble_eq_true rfl, Nat.le_of_ble_eq_true rfl⟩ rfl rfl (Nat.le_of_ble_eq_true rfl) dX4_readOnce_112 ?_
          obtain ⟨w7, ew7, hf⟩ := zlet_e hf
          refine z_iast hC za_60 (by decide) (j := 13) (by decide) ew7 dX4_readOnce_115 ?_
          obtain rfl := zso1 hf
          exact z_vret hC dX4_readOnce_116
        replace hf := zif_t h4 hf
        refine z_aload_n hC dX4_readOnce_85 0 rfl rfl ?_
        refine z_get4 hC 8 (by decide) zw_fl_X4_23 (v := .ref (zad G 60)) rfl dX4_readOnce_86 ?_
        refine z_bipush hC dX4_readOnce_89 (v := 12) rfl ?_
        refine z_aload_n hC dX4_readOnce_91 0 rfl rfl ?_
        refine z_iconst hC dX4_readOnce_92 (v := 0) rfl ?_
        refine z_bipush hC dX4_readOnce_93 (v := 9) rfl ?_
        obtain ⟨v9, w8, ew8, hf⟩ := zbd2_e hf
        refine z_cvi (As := [.int (0 : Int32), .int (9 : Int32)]) (rest := [.int (12 : Int32), .ref (zad G 60)]) hC zo_mod rfl (c_X4_number l G w (0 : Int32) (9 : Int32) ew8) zw_ml_X4_107 zy_X4_number ⟨rfl, rfl, Nat.le_of_ble_eq_true rfl, Nat.le_of_ble_eq_true rfl⟩ rfl rfl (Nat.le_of_ble_eq_true rfl) dX4_readOnce_95 ?_
        obtain ⟨w10, ew10, hf⟩ := zlet_e hf
        refine z_iast hC za_60 (by decide) (j := 12) (by decide) ew10 dX4_readOnce_98 ?_
        refine z_goto (tgt := 116) hC dX4_readOnce_99 (by decide) ?_
        obtain rfl := zso1 hf
        exact z_vret hC dX4_readOnce_116
      replace hf := zif_t h3 hf
      refine z_aload_n hC dX4_readOnce_63 0 rfl rfl ?_
      refine z_get4 hC 8 (by decide) zw_fl_X4_23 (v := .ref (zad G 60)) rfl dX4_readOnce_64 ?_
      refine z_bipush hC dX4_readOnce_67 (v := 11) rfl ?_
      refine z_aload_n hC dX4_readOnce_69 0 rfl rfl ?_
      refine z_bipush hC dX4_readOnce_70 (v := 13) rfl ?_
      refine z_iconst hC dX4_readOnce_72 (v := 4) rfl ?_
      obtain ⟨v12, w11, ew11, hf⟩ := zbd2_e hf
      refine z_cvi (As := [.int (13 : Int32), .int (4 : Int32)]) (rest := [.int (11 : Int32), .ref (zad G 60)]) hC zo_mod rfl (c_X4_named l G w (13 : Int32) (4 : Int32) ew11) zw_ml_X4_114 zy_X4_named ⟨rfl, rfl, Nat.le_of_ble_eq_true rfl, Nat.le_of_ble_eq_true rfl⟩ rfl rfl (Nat.le_of_ble_eq_true rfl) dX4_readOnce_73 ?_
      obtain ⟨w13, ew13, hf⟩ := zlet_e hf
      refine z_iast hC za_60 (by decide) (j := 11) (by decide) ew13 dX4_readOnce_76 ?_
      refine z_goto (tgt := 116) hC dX4_readOnce_77 (by decide) ?_
      obtain rfl := zso1 hf
      exact z_vret hC dX4_readOnce_116
    replace hf := zif_t h2 hf
    refine z_aload_n hC dX4_readOnce_27 0 rfl rfl ?_
    refine z_aload_n hC dX4_readOnce_28 0 rfl rfl ?_
    refine z_iconst hC dX4_readOnce_29 (v := 0) rfl ?_
    refine z_bipush hC dX4_readOnce_30 (v := 60) rfl ?_
    obtain ⟨v15, w14, ew14, hf⟩ := zbd2_e hf
    refine z_cvi (As := [.int (0 : Int32), .int (60 : Int32)]) (rest := [.ref (zad G 56)]) hC zo_mod rfl (c_X4_number l G w (0 : Int32) (60 : Int32) ew14) zw_ml_X4_107 zy_X4_number ⟨rfl, rfl, Nat.le_of_ble_eq_true rfl, Nat.le_of_ble_eq_true rfl⟩ rfl rfl (Nat.le_of_ble_eq_true rfl) dX4_readOnce_32 ?_
    obtain ⟨w16, ew16, hf⟩ := zlet_e hf
    refine z_put4 hC 13 (by decide) rfl rfl zw_fl_X4_111 rfl ew16 dX4_readOnce_35 ?_
    refine z_aload_n hC dX4_readOnce_38 0 rfl rfl ?_
    refine z_get4 hC 8 (by decide) zw_fl_X4_23 (v := .ref (zad G 60)) rfl dX4_readOnce_39 ?_
    refine z_bipush hC dX4_readOnce_42 (v := 10) rfl ?_
    refine z_aload_n hC dX4_readOnce_44 0 rfl rfl ?_
    refine z_iconst hC dX4_readOnce_45 (v := 0) rfl ?_
    refine z_bipush hC dX4_readOnce_46 (v := 23) rfl ?_
    obtain ⟨v18, w17, ew17, hf⟩ := zbd2_e hf
    refine z_cvi (As := [.int (0 : Int32), .int (23 : Int32)]) (rest := [.int (10 : Int32), .ref (zad G 60)]) hC zo_mod rfl (c_X4_number l G w16 (0 : Int32) (23 : Int32) ew17) zw_ml_X4_107 zy_X4_number ⟨rfl, rfl, Nat.le_of_ble_eq_true rfl, Nat.le_of_ble_eq_true rfl⟩ rfl rfl (Nat.le_of_ble_eq_true rfl) dX4_readOnce_48 ?_
    refine z_bipush hC dX4_readOnce_51 (v := 18) rfl ?_
    refine z_isub hC dX4_readOnce_53 ?_
    obtain ⟨w19, ew19, hf⟩ := zlet_e hf
    refine z_iast hC za_60 (by decide) (j := 10) (by decide) ew19 dX4_readOnce_54 ?_
    refine z_goto (tgt := 116) hC dX4_readOnce_55 (by decide) ?_
    obtain rfl := zso1 hf
    exact z_vret hC dX4_readOnce_116
  replace hf := zif_t h1 hf
  refine z_aload_n hC dX4_readOnce_5 0 rfl rfl ?_
  refine z_get4 hC 8 (by decide) zw_fl_X4_23 (v := .ref (zad G 60)) rfl dX4_readOnce_6 ?_
  refine z_bipush hC dX4_readOnce_9 (v := 8) rfl ?_
  refine z_aload_n hC dX4_readOnce_11 0 rfl rfl ?_
  refine z_iconst hC dX4_readOnce_12 (v := 0) rfl ?_
  refine z_bipush hC dX4_readOnce_13 (v := 60) rfl ?_
  obtain ⟨v21, w20, ew20, hf⟩ := zbd2_e hf
  refine z_cvi (As := [.int (0 : Int32), .int (60 : Int32)]) (rest := [.int (8 : Int32), .ref (zad G 60)]) hC zo_mod rfl (c_X4_number l G w (0 : Int32) (60 : Int32) ew20) zw_ml_X4_107 zy_X4_number ⟨rfl, rfl, Nat.le_of_ble_eq_true rfl, Nat.le_of_ble_eq_true rfl⟩ rfl rfl (Nat.le_of_ble_eq_true rfl) dX4_readOnce_15 ?_
  obtain ⟨w22, ew22, hf⟩ := zlet_e hf
  refine z_iast hC za_60 (by decide) (j := 8) (by decide) ew22 dX4_readOnce_18 ?_
  refine z_goto (tgt := 116) hC dX4_readOnce_19 (by decide) ?_
  obtain rfl := zso1 hf
  exact z_vret hC dX4_readOnce_116
theorem zy_X4_readOnce : zYV yX4_readOnce cX4_readOnce 2 none RX4 1 := ⟨zw_cd_X4_readOnce, zw_im_X4_readOnce, zw_sel_X4_readOnce, zw_ini_X4, by decide +kernel⟩
abbrev rm_X4_readMore : Room := { frames := 3, cells := 0, slots := 0, locals := 69 }
def f_X4_readMore (w : zW) (a1 : Int32) : Option zW :=
  if a1 = (0 : Int32) then
    zbd2 (f_X4_named w (8 : Int32) (5 : Int32)) fun v31 w30 =>
    zg (zin (w 56 11) 20) <|
    zlet (zup w30 60 (zx (w 56 11)) v31) fun w33 =>
    zbd2 (f_X4_number w33 (1 : Int32) (3 : Int32)) fun v35 w34 =>
    zg (zin (w33 56 11) 4) <|
    zlet (zup w34 61 (zx (w33 56 11)) v35) fun w37 =>
    zbd2 (f_X4_number w37 (0 : Int32) (20 : Int32)) fun v39 w38 =>
    zg (zin ((4 : Int32) + (w37 56 11)) 20) <|
    zlet (zup w38 60 (zx ((4 : Int32) + (w37 56 11))) v39) fun w41 =>
    zlet (zup w41 56 11 ((w41 56 11) + (1 : Int32))) fun w42 =>
    some w42
  else
    if a1 = (6 : Int32) then
      zbd2 (f_X4_number w (1 : Int32) (60 : Int32)) fun v18 w17 =>
      zg (zin ((2 : Int32) * (w 56 12)) 6) <|
      zlet (zup w17 62 (zx ((2 : Int32) * (w 56 12))) v18) fun w20 =>
      zbd2 (f_X4_number w20 (0 : Int32) (10 : Int32)) fun v22 w21 =>
      zg (zin ((17 : Int32) + (w20 56 12)) 20) <|
      zlet (zup w21 60 (zx ((17 : Int32) + (w20 56 12))) v22) fun w24 =>
      zbd2 (f_X4_number w24 (1 : Int32) (20 : Int32)) fun v26 w25 =>
      zg (zin (((2 : Int32) * (w24 56 12)) + (1 : Int32)) 6) <|
      zlet (zup w25 62 (zx (((2 : Int32) * (w24 56 12)) + (1 : Int32))) v26) fun w28 =>
      zlet (zup w28 56 12 ((w28 56 12) + (1 : Int32))) fun w29 =>
      some w29
    else
      zjn1 (fun (w3 : zW) =>
        zbd2 (f_X4_number w3 (0 : Int32) (2 : Int32)) fun v5 w4 =>
        zlet (zup w4 56 15 ((w4 56 15) ||| ((1 : Int32) <<< (v5 &&& 31)))) fun w6 =>
        zjn1 (fun (v7 : Int32) =>
          zlet (zup w6 56 16 v7) fun w8 =>
          zg (zin ((14 : Int32) + v5) 20) <|
          zlet (zup w8 60 (zx ((14 : Int32) + v5)) (1 : Int32)) fun w10 =>
          some w10)
        (fun (j228 : Int32 → Option zW) =>
        if v5 ≤ (w6 56 16) then
          j228 (w6 56 16)
        else
        j228 v5))
      (fun (j192 : zW → Option zW) =>
      if (w 56 20) = (0 : Int32) then
        if (w 56 24) = (2 : Int32) then
          if (f_X4_in ((w 56 25).toInt64) (0 : Int64) (2 : Int64)) = (0 : Int32) then
            j192 w
          else
          if (((w 56 15) >>> ((w 56 25) &&& 31)) &&& (1 : Int32)) = (1 : Int32) then
            zbd (f_X4_fails w (4 : Int32)) fun w16 =>
            j192 w16
          else
            j192 w
        else
          j192 w
      else
        j192 w)
set_option maxRecDepth 100000 in
set_option maxHeartbeats 4000000 in
theorem c_X4_readMore (l : Launch) (G : zG) (w : zW) (a1 : Int32) {wz : zW} (hf : f_X4_readMore w a1 = some wz) : zMet l G yX4_readMore cX4_readMore 3 none rm_X4_readMore [.ref (zad G 56), .int a1] w none wz := by
  refine z_start (own := RX4) (by decide) rfl (Nat.le_of_ble_eq_true rfl) (lv := [(0, .ref (zad G 56)), (1, .int a1)]) rfl ?_
  intro p e s m args below meth c hC
  unfold f_X4_readMore at hf
  refine z_iload_n hC dX4_readMore_0 1 rfl rfl ?_
  refine z_if_ne (tgt := 66) hC dX4_readMore_1 (by decide) (fun h1 => ?_) (fun h1 => ?_)
  · replace hf := zif_f h1 hf
    refine z_iload_n hC dX4_readMore_66 1 rfl rfl ?_
    refine z_bipush hC dX4_readMore_67 (v := 6) rfl ?_
    refine z_icmp_ne (tgt := 142) hC dX4_readMore_69 (by decide) (fun h2 => ?_) (fun h2 => ?_)
    · replace hf := zif_f h2 hf
      refine z_aload_n hC dX4_readMore_142 0 rfl rfl ?_
      refine z_get4 hC 20 (by decide) zw_fl_X4_66 (v := .int (w 56 20)) rfl dX4_readMore_143 ?_
      obtain ⟨j192, hj192, hf⟩ := zjn1_e hf
      have hJ192 : ∀ (w3 : zW), j192 w3 = some wz → Z G p l e rm_X4_readMore s m args below meth c (MQ below (zQ G none wz) args s 0 0 (zA G)) 3 192 [(0, .ref (zad G 56))] [] w3 := by
        intro w3 hf
        replace hf := hj192 w3 hf
        refine z_aload_n hC dX4_readMore_192 0 rfl rfl ?_
        refine z_iconst hC dX4_readMore_193 (v := 0) rfl ?_
        refine z_iconst hC dX4_readMore_194 (v := 2) rfl ?_
        obtain ⟨v5, w4, ew4, hf⟩ := zbd2_e hf
        refine z_cvi (As := [.int (0 : Int32), .int (2 : Int32)]) (rest := []) hC zo_mod rfl (c_X4_number l G w3 (0 : Int32) (2 : Int32) ew4) zw_ml_X4_107 zy_X4_number ⟨rfl, rfl, Nat.le_of_ble_eq_true rfl, Nat.le_of_ble_eq_true rfl⟩ rfl rfl (Nat.le_of_ble_eq_true rfl) dX4_readMore_195 ?_
        refine z_istore_n (lv' := [(2, .int v5), (0, .ref (zad G 56))]) hC dX4_readMore_198 rfl (by decide) rfl ?_
        refine z_aload_n hC dX4_readMore_199 1 rfl rfl ?_
        refine z_dup hC dX4_readMore_200 rfl ?_
        refine z_get4 hC 15 (by decide) zw_fl_X4_125 (v := .int (w4 56 15)) rfl dX4_readMore_201 ?_
        refine z_iconst hC dX4_readMore_204 (v := 1) rfl ?_
        refine z_iload_n hC dX4_readMore_205 0 rfl rfl ?_
        refine z_ishl hC dX4_readMore_206 ?_
        refine z_ior hC dX4_readMore_207 ?_
        obtain ⟨w6, ew6, hf⟩ := zlet_e hf
        refine z_put4 hC 15 (by decide) rfl rfl zw_fl_X4_125 rfl ew6 dX4_readMore_208 ?_
        refine z_aload_n hC dX4_readMore_211 1 rfl rfl ?_
        refine z_iload_n hC dX4_readMore_212 0 rfl rfl ?_
        refine z_aload_n hC dX4_readMore_213 1 rfl rfl ?_
        refine z_get4 hC 16 (by decide) zw_fl_X4_128 (v := .int (w6 56 16)) rfl dX4_readMore_214 ?_
        obtain ⟨j228, hj228, hf⟩ := zjn1_e hf
        have hJ228 : ∀ (v7 : Int32), j228 v7 = some wz → Z G p l e rm_X4_readMore s m args below meth c (MQ below (zQ G none wz) args s 0 0 (zA G)) 3 228 [(0, .ref (zad G 56)), (2, .int v5)] [.int v7, .ref (zad G 56)] w6 := by
          intro v7 hf
          replace hf := hj228 v7 hf
          obtain ⟨w8, ew8, hf⟩ := zlet_e hf
          refine z_put4 hC 16 (by decide) rfl rfl zw_fl_X4_128 rfl ew8 dX4_readMore_228 ?_
          refine z_aload_n hC dX4_readMore_231 0 rfl rfl ?_
          refine z_get4 hC 8 (by decide) zw_fl_X4_23 (v := .ref (zad G 60)) rfl dX4_readMore_232 ?_
          refine z_bipush hC dX4_readMore_235 (v := 14) rfl ?_
          refine z_iload_n hC dX4_readMore_237 1 rfl rfl ?_
          refine z_iadd hC dX4_readMore_238 ?_
          refine z_iconst hC dX4_readMore_239 (v := 1) rfl ?_
          obtain ⟨hg9, hf⟩ := zg_e hf
          obtain ⟨w10, ew10, hf⟩ := zlet_e hf
          refine z_iast hC za_60 hg9 rfl ew10 dX4_readMore_240 ?_
          obtain rfl := zso1 hf
          exact z_vret hC dX4_readMore_241
        refine z_icmp_le (tgt := 224) hC dX4_readMore_217 (by decide) (fun h11 => ?_) (fun h11 => ?_)
        · replace hf := zif_t h11 hf
          refine z_aload_n hC dX4_readMore_224 1 rfl rfl ?_
          refine z_get4 hC 16 (by decide) zw_fl_X4_128 (v := .int (w6 56 16)) rfl dX4_readMore_225 ?_
          refine z_lv [1, 0] rfl ?_
          exact hJ228 _ hf
        replace hf := zif_f h11 hf
        refine z_iload_n hC dX4_readMore_220 0 rfl rfl ?_
        refine z_goto (tgt := 228) hC dX4_readMore_221 (by decide) ?_
        refine z_lv [1, 0] rfl ?_
        exact hJ228 _ hf
      refine z_if_ne (tgt := 192) hC dX4_readMore_146 (by decide) (fun h12 => ?_) (fun h12 => ?_)
      · replace hf := zif_f h12 hf
        refine z_lv [0] rfl ?_
        exact hJ192 _ hf
      replace hf := zif_t h12 hf
      refine z_aload_n hC dX4_readMore_149 0 rfl rfl ?_
      refine z_get4 hC 24 (by decide) zw_fl_X4_75 (v := .int (w 56 24)) rfl dX4_readMore_150 ?_
      refine z_iconst hC dX4_readMore_153 (v := 2) rfl ?_
      refine z_icmp_ne (tgt := 192) hC dX4_readMore_154 (by decide) (fun h13 => ?_) (fun h13 => ?_)
      · replace hf := zif_f h13 hf
        refine z_lv [0] rfl ?_
        exact hJ192 _ hf
      replace hf := zif_t h13 hf
      refine z_aload_n hC dX4_readMore_157 0 rfl rfl ?_
      refine z_get4 hC 25 (by decide) zw_fl_X4_85 (v := .int (w 56 25)) rfl dX4_readMore_158 ?_
      refine z_i2l hC dX4_readMore_161 ?_
      refine z_lconst hC dX4_readMore_162 (v := 0) rfl ?_
      refine z_ldc2 hC zw_cst_X4_123 dX4_readMore_163 ?_
      refine z_csi (As := [.long ((w 56 25).toInt64), .long (0 : Int64), .long (2 : Int64)]) (rest := []) hC (c_X4_in l G w ((w 56 25).toInt64) (0 : Int64) (2 : Int64)) zw_ml_X4_59 zy_X4_in ⟨rfl, rfl, Nat.le_of_ble_eq_true rfl, Nat.le_of_ble_eq_true rfl⟩ rfl rfl (Nat.le_of_ble_eq_true rfl) dX4_readMore_166 ?_
      refine z_if_eq (tgt := 192) hC dX4_readMore_169 (by decide) (fun h14 => ?_) (fun h14 => ?_)
      · replace hf := zif_t h14 hf
        refine z_lv [0] rfl ?_
        exact hJ192 _ hf
      replace hf := zif_f h14 hf
      refine z_aload_n hC dX4_readMore_172 0 rfl rfl ?_
      refine z_get4 hC 15 (by decide) zw_fl_X4_125 (v := .int (w 56 15)) rfl dX4_readMore_173 ?_
      refine z_aload_n hC dX4_readMore_176 0 rfl rfl ?_
      refine z_get4 hC 25 (by decide) zw_fl_X4_85 (v := .int (w 56 25)) rfl dX4_readMore_177 ?_
      refine z_ishr hC dX4_readMore_180 ?_
      refine z_iconst hC dX4_readMore_181 (v := 1) rfl ?_
      refine z_iand hC dX4_readMore_182 ?_
      refine z_iconst hC dX4_readMore_183 (v := 1) rfl ?_
      refine z_icmp_ne (tgt := 192) hC dX4_readMore_184 (by decide) (fun h15 => ?_) (fun h15 => ?_)
      · replace hf := zif_f h15 hf
        refine z_lv [0] rfl ?_
        exact hJ192 _ hf
      replace hf := zif_t h15 hf
      refine z_aload_n hC dX4_readMore_187 0 rfl rfl ?_
      refine z_iconst hC dX4_readMore_188 (v := 4) rfl ?_
      obtain ⟨w16, ew16, hf⟩ := zbd_e hf
      refine z_cvv (As := [.int (4 : Int32)]) (rest := []) hC zo_mod rfl (c_X4_fails l G w (4 : Int32) ew16) zw_ml_X4_96 zy_X4_fails ⟨rfl, rfl, Nat.le_of_ble_eq_true rfl, Nat.le_of_ble_eq_true rfl⟩ rfl rfl (Nat.le_of_ble_eq_true rfl) dX4_readMore_189 ?_
      refine z_lv [0] rfl ?_
      exact hJ192 _ hf
    replace hf := zif_t h2 hf
    refine z_aload_n hC dX4_readMore_72 0 rfl rfl ?_
    refine z_get4 hC 10 (by decide) zw_fl_X4_29 (v := .ref (zad G 62)) rfl dX4_readMore_73 ?_
    refine z_iconst hC dX4_readMore_76 (v := 2) rfl ?_
    refine z_aload_n hC dX4_readMore_77 0 rfl rfl ?_
    refine z_get4 hC 12 (by decide) zw_fl_X4_120 (v := .int (w 56 12)) rfl dX4_readMore_78 ?_
    refine z_imul hC dX4_readMore_81 ?_
    refine z_aload_n hC dX4_readMore_82 0 rfl rfl ?_
    refine z_iconst hC dX4_readMore_83 (v := 1) rfl ?_
    refine z_bipush hC dX4_readMore_84 (v := 60) rfl ?_
    obtain ⟨v18, w17, ew17, hf⟩ := zbd2_e hf
    refine z_cvi (As := [.int (1 : Int32), .int (60 : Int32)]) (rest := [.int ((2 : Int32) * (w 56 12)), .ref (zad G 62)]) hC zo_mod rfl (c_X4_number l G w (1 : Int32) (60 : Int32) ew17) zw_ml_X4_107 zy_X4_number ⟨rfl, rfl, Nat.le_of_ble_eq_true rfl, Nat.le_of_ble_eq_true rfl⟩ rfl rfl (Nat.le_of_ble_eq_true rfl) dX4_readMore_86 ?_
    obtain ⟨hg19, hf⟩ := zg_e hf
    obtain ⟨w20, ew20, hf⟩ := zlet_e hf
    refine z_iast hC za_62 hg19 rfl ew20 dX4_readMore_89 ?_
    refine z_aload_n hC dX4_readMore_90 0 rfl rfl ?_
    refine z_get4 hC 8 (by decide) zw_fl_X4_23 (v := .ref (zad G 60)) rfl dX4_readMore_91 ?_
    refine z_bipush hC dX4_readMore_94 (v := 17) rfl ?_
    refine z_aload_n hC dX4_readMore_96 0 rfl rfl ?_
    refine z_get4 hC 12 (by decide) zw_fl_X4_120 (v := .int (w20 56 12)) rfl dX4_readMore_97 ?_
    refine z_iadd hC dX4_readMore_100 ?_
    refine z_aload_n hC dX4_readMore_101 0 rfl rfl ?_
    refine z_iconst hC dX4_readMore_102 (v := 0) rfl ?_
    refine z_bipush hC dX4_readMore_103 (v := 10) rfl ?_
    obtain ⟨v22, w21, ew21, hf⟩ := zbd2_e hf
    refine z_cvi (As := [.int (0 : Int32), .int (10 : Int32)]) (rest := [.int ((17 : Int32) + (w20 56 12)), .ref (zad G 60)]) hC zo_mod rfl (c_X4_number l G w20 (0 : Int32) (10 : Int32) ew21) zw_ml_X4_107 zy_X4_number ⟨rfl, rfl, Nat.le_of_ble_eq_true rfl, Nat.le_of_ble_eq_true rfl⟩ rfl rfl (Nat.le_of_ble_eq_true rfl) dX4_readMore_105 ?_
    obtain ⟨hg23, hf⟩ := zg_e hf
    obtain ⟨w24, ew24, hf⟩ := zlet_e hf
    refine z_iast hC za_60 hg23 rfl ew24 dX4_readMore_108 ?_
    refine z_aload_n hC dX4_readMore_109 0 rfl rfl ?_
    refine z_get4 hC 10 (by decide) zw_fl_X4_29 (v := .ref (zad G 62)) rfl dX4_readMore_110 ?_
    refine z_iconst hC dX4_readMore_113 (v := 2) rfl ?_
    refine z_aload_n hC dX4_readMore_114 0 rfl rfl ?_
    refine z_get4 hC 12 (by decide) zw_fl_X4_120 (v := .int (w24 56 12)) rfl dX4_readMore_115 ?_
    refine z_imul hC dX4_readMore_118 ?_
    refine z_iconst hC dX4_readMore_119 (v := 1) rfl ?_
    refine z_iadd hC dX4_readMore_120 ?_
    refine z_aload_n hC dX4_readMore_121 0 rfl rfl ?_
    refine z_iconst hC dX4_readMore_122 (v := 1) rfl ?_
    refine z_bipush hC dX4_readMore_123 (v := 20) rfl ?_
    obtain ⟨v26, w25, ew25, hf⟩ := zbd2_e hf
    refine z_cvi (As := [.int (1 : Int32), .int (20 : Int32)]) (rest := [.int (((2 : Int32) * (w24 56 12)) + (1 : Int32)), .ref (zad G 62)]) hC zo_mod rfl (c_X4_number l G w24 (1 : Int32) (20 : Int32) ew25) zw_ml_X4_107 zy_X4_number ⟨rfl, rfl, Nat.le_of_ble_eq_true rfl, Nat.le_of_ble_eq_true rfl⟩ rfl rfl (Nat.le_of_ble_eq_true rfl) dX4_readMore_125 ?_
    obtain ⟨hg27, hf⟩ := zg_e hf
    obtain ⟨w28, ew28, hf⟩ := zlet_e hf
    refine z_iast hC za_62 hg27 rfl ew28 dX4_readMore_128 ?_
    refine z_aload_n hC dX4_readMore_129 0 rfl rfl ?_
    refine z_dup hC dX4_readMore_130 rfl ?_
    refine z_get4 hC 12 (by decide) zw_fl_X4_120 (v := .int (w28 56 12)) rfl dX4_readMore_131 ?_
    refine z_iconst hC dX4_readMore_134 (v := 1) rfl ?_
    refine z_iadd hC dX4_readMore_135 ?_
    obtain ⟨w29, ew29, hf⟩ := zlet_e hf
    refine z_put4 hC 12 (by decide) rfl rfl zw_fl_X4_120 rfl ew29 dX4_readMore_136 ?_
    refine z_goto (tgt := 241) hC dX4_readMore_139 (by decide) ?_
    obtain rfl := zso1 hf
    exact z_vret hC dX4_readMore_241
  replace hf := zif_t h1 hf
  refine z_aload_n hC dX4_readMore_4 0 rfl rfl ?_
  refine z_get4 hC 8 (by decide) zw_fl_X4_23 (v := .ref (zad G 60)) rfl dX4_readMore_5 ?_
  refine z_aload_n hC dX4_readMore_8 0 rfl rfl ?_
  refine z_get4 hC 11 (by decide) zw_fl_X4_117 (v := .int (w 56 11)) rfl dX4_readMore_9 ?_
  refine z_aload_n hC dX4_readMore_12 0 rfl rfl ?_
  refine z_bipush hC dX4_readMore_13 (v := 8) rfl ?_
  refine z_iconst hC dX4_readMore_15 (v := 5) rfl ?_
  obtain ⟨v31, w30, ew30, hf⟩ := zbd2_e hf
  refine z_cvi (As := [.int (8 : Int32), .int (5 : Int32)]) (rest := [.int (w 56 11), .ref (zad G 60)]) hC zo_mod rfl (c_X4_named l G w (8 : Int32) (5 : Int32) ew30) zw_ml_X4_114 zy_X4_named ⟨rfl, rfl, Nat.le_of_ble_eq_true rfl, Nat.le_of_ble_eq_true rfl⟩ rfl rfl (Nat.le_of_ble_eq_true rfl) dX4_readMore_16 ?_
  obtain ⟨hg32, hf⟩ := zg_e hf
  obtain ⟨w33, ew33, hf⟩ := zlet_e hf
  refine z_iast hC za_60 hg32 rfl ew33 dX4_readMore_19 ?_
  refine z_aload_n hC dX4_readMore_20 0 rfl rfl ?_
  refine z_get4 hC 9 (by decide) zw_fl_X4_26 (v := .ref (zad G 61)) rfl dX4_readMore_21 ?_
  refine z_aload_n hC dX4_readMore_24 0 rfl rfl ?_
  refine z_get4 hC 11 (by decide) zw_fl_X4_117 (v := .int (w33 56 11)) rfl dX4_readMore_25 ?_
  refine z_aload_n hC dX4_readMore_28 0 rfl rfl ?_
  refine z_iconst hC dX4_readMore_29 (v := 1) rfl ?_
  refine z_iconst hC dX4_readMore_30 (v := 3) rfl ?_
  obtain ⟨v35, w34, ew34, hf⟩ := zbd2_e hf
  refine z_cvi (As := [.int (1 : Int32), .int (3 : Int32)]) (rest := [.int (w33 56 11), .ref (zad G 61)]) hC zo_mod rfl (c_X4_number l G w33 (1 : Int32) (3 : Int32) ew34) zw_ml_X4_107 zy_X4_number ⟨rfl, rfl, Nat.le_of_ble_eq_true rfl, Nat.le_of_ble_eq_true rfl⟩ rfl rfl (Nat.le_of_ble_eq_true rfl) dX4_readMore_31 ?_
  obtain ⟨hg36, hf⟩ := zg_e hf
  obtain ⟨w37, ew37, hf⟩ := zlet_e hf
  refine z_iast hC za_61 hg36 rfl ew37 dX4_readMore_34 ?_
  refine z_aload_n hC dX4_readMore_35 0 rfl rfl ?_
  refine z_get4 hC 8 (by decide) zw_fl_X4_23 (v := .ref (zad G 60)) rfl dX4_readMore_36 ?_
  refine z_iconst hC dX4_readMore_39 (v := 4) rfl ?_
  refine z_aload_n hC dX4_readMore_40 0 rfl rfl ?_
  refine z_get4 hC 11 (by decide) zw_fl_X4_117 (v := .int (w37 56 11)) rfl dX4_readMore_41 ?_
  refine z_iadd hC dX4_readMore_44 ?_
  refine z_aload_n hC dX4_readMore_45 0 rfl rfl ?_
  refine z_iconst hC dX4_readMore_46 (v := 0) rfl ?_
  refine z_bipush hC dX4_readMore_47 (v := 20) rfl ?_
  obtain ⟨v39, w38, ew38, hf⟩ := zbd2_e hf
  refine z_cvi (As := [.int (0 : Int32), .int (20 : Int32)]) (rest := [.int ((4 : Int32) + (w37 56 11)), .ref (zad G 60)]) hC zo_mod rfl (c_X4_number l G w37 (0 : Int32) (20 : Int32) ew38) zw_ml_X4_107 zy_X4_number ⟨rfl, rfl, Nat.le_of_ble_eq_true rfl, Nat.le_of_ble_eq_true rfl⟩ rfl rfl (Nat.le_of_ble_eq_true rfl) dX4_readMore_49 ?_
  obtain ⟨hg40, hf⟩ := zg_e hf
  obtain ⟨w41, ew41, hf⟩ := zlet_e hf
  refine z_iast hC za_60 hg40 rfl ew41 dX4_readMore_52 ?_
  refine z_aload_n hC dX4_readMore_53 0 rfl rfl ?_
  refine z_dup hC dX4_readMore_54 rfl ?_
  refine z_get4 hC 11 (by decide) zw_fl_X4_117 (v := .int (w41 56 11)) rfl dX4_readMore_55 ?_
  refine z_iconst hC dX4_readMore_58 (v := 1) rfl ?_
  refine z_iadd hC dX4_readMore_59 ?_
  obtain ⟨w42, ew42, hf⟩ := zlet_e hf
  refine z_put4 hC 11 (by decide) rfl rfl zw_fl_X4_117 rfl ew42 dX4_readMore_60 ?_
  refine z_goto (tgt := 241) hC dX4_readMore_63 (by decide) ?_
  obtain rfl := zso1 hf
  exact z_vret hC dX4_readMore_241
theorem zy_X4_readMore : zYV yX4_readMore cX4_readMore 3 none RX4 1 := ⟨zw_cd_X4_readMore, zw_im_X4_readMore, zw_sel_X4_readMore, zw_ini_X4, by decide +kernel⟩
abbrev rm_X4_readLine : Room := { frames := 4, cells := 0, slots := 0, locals := 91 }
def f_X4_readLine (w : zW) : Option zW :=
  zbd (f_X4_nameHere w) fun v1 =>
  if (f_X4_in (v1.toInt64) (0 : Int64) (7 : Int64)) = (0 : Int32) then
    zbd (f_X4_fails w (2 : Int32)) fun w25 =>
    some w25
  else
    zjn1 (fun (w3 : zW) =>
      zjn1 (fun (w4 : zW) =>
        zlet (zup w4 56 14 ((w4 56 14) ||| ((1 : Int32) <<< (v1 &&& 31)))) fun w5 =>
        zbd (f_X4_step w5) fun w6 =>
        if (w6 56 20) ≤ (0 : Int32) then
          zjn1 (fun (w8 : zW) =>
            zjn1 (fun (w9 : zW) =>
              zbd (f_X4_step w9) fun w10 =>
              some w10)
            (fun (j152 : zW → Option zW) =>
            if (w8 56 20) = (0 : Int32) then
              if (w8 56 24) = (3 : Int32) then
                j152 w8
              else
              zbd (f_X4_fails w8 (2 : Int32)) fun w13 =>
              j152 w13
            else
              j152 w8))
          (fun (j132 : zW → Option zW) =>
          if (f_X4_in (v1.toInt64) (1 : Int64) (5 : Int64)) = (0 : Int32) then
            zbd (f_X4_readMore w6 v1) fun w15 =>
            j132 w15
          else
          zbd (f_X4_readOnce w6 v1) fun w16 =>
          j132 w16)
        else
        some w6)
      (fun (j83 : zW → Option zW) =>
      if (f_X4_in (v1.toInt64) (1 : Int64) (5 : Int64)) = (0 : Int32) then
        j83 w3
      else
      if (((w3 56 14) >>> (v1 &&& 31)) &&& (1 : Int32)) = (1 : Int32) then
        zbd (f_X4_fails w3 (4 : Int32)) fun w19 =>
        j83 w19
      else
        j83 w3))
    (fun (j54 : zW → Option zW) =>
    zjn0 (
      zbd (f_X4_fails w (5 : Int32)) fun w20 =>
      j54 w20)
    (fun (j49 : Option zW) =>
    zjn0 (
      if v1 = (6 : Int32) then
        if (w 56 12) = (3 : Int32) then
          j49
        else
          j54 w
      else
        j54 w)
    (fun (j35 : Option zW) =>
    if v1 = (0 : Int32) then
      if (w 56 11) = (4 : Int32) then
        j49
      else
      j35
    else
      j35)))
set_option maxRecDepth 100000 in
set_option maxHeartbeats 4000000 in
theorem c_X4_readLine (l : Launch) (G : zG) (w : zW) {wz : zW} (hf : f_X4_readLine w = some wz) : zMet l G yX4_readLine cX4_readLine 2 none rm_X4_readLine [.ref (zad G 56)] w none wz := by
  refine z_start (own := RX4) (by decide) rfl (Nat.le_of_ble_eq_true rfl) (lv := [(0, .ref (zad G 56))]) rfl ?_
  intro p e s m args below meth c hC
  unfold f_X4_readLine at hf
  refine z_aload_n hC dX4_readLine_0 0 rfl rfl ?_
  obtain ⟨v1, ev1, hf⟩ := zbd_e hf
  refine z_cvi (As := []) (rest := []) hC zo_mod rfl (c_X4_nameHere l G w ev1) zw_ml_X4_103 zy_X4_nameHere ⟨rfl, rfl, Nat.le_of_ble_eq_true rfl, Nat.le_of_ble_eq_true rfl⟩ rfl rfl (Nat.le_of_ble_eq_true rfl) dX4_readLine_1 ?_
  refine z_istore_n (lv' := [(1, .int v1), (0, .ref (zad G 56))]) hC dX4_readLine_4 rfl (by decide) rfl ?_
  refine z_iload_n hC dX4_readLine_5 0 rfl rfl ?_
  refine z_i2l hC dX4_readLine_6 ?_
  refine z_lconst hC dX4_readLine_7 (v := 0) rfl ?_
  refine z_ldc2 hC zw_cst_X4_131 dX4_readLine_8 ?_
  refine z_csi (As := [.long (v1.toInt64), .long (0 : Int64), .long (7 : Int64)]) (rest := []) hC (c_X4_in l G w (v1.toInt64) (0 : Int64) (7 : Int64)) zw_ml_X4_59 zy_X4_in ⟨rfl, rfl, Nat.le_of_ble_eq_true rfl, Nat.le_of_ble_eq_true rfl⟩ rfl rfl (Nat.le_of_ble_eq_true rfl) dX4_readLine_11 ?_
  refine z_if_ne (tgt := 23) hC dX4_readLine_14 (by decide) (fun h2 => ?_) (fun h2 => ?_)
  · replace hf := zif_f h2 hf
    refine z_iload_n hC dX4_readLine_23 0 rfl rfl ?_
    obtain ⟨j54, hj54, hf⟩ := zjn1_e hf
    have hJ54 : ∀ (w3 : zW), j54 w3 = some wz → Z G p l e rm_X4_readLine s m args below meth c (MQ below (zQ G none wz) args s 0 0 (zA G)) 2 54 [(0, .ref (zad G 56)), (1, .int v1)] [] w3 := by
      intro w3 hf
      replace hf := hj54 w3 hf
      refine z_iload_n hC dX4_readLine_54 1 rfl rfl ?_
      refine z_i2l hC dX4_readLine_55 ?_
      refine z_lconst hC dX4_readLine_56 (v := 1) rfl ?_
      refine z_ldc2 hC zw_cst_X4_133 dX4_readLine_57 ?_
      refine z_csi (As := [.long (v1.toInt64), .long (1 : Int64), .long (5 : Int64)]) (rest := []) hC (c_X4_in l G w3 (v1.toInt64) (1 : Int64) (5 : Int64)) zw_ml_X4_59 zy_X4_in ⟨rfl, rfl, Nat.le_of_ble_eq_true rfl, Nat.le_of_ble_eq_true rfl⟩ rfl rfl (Nat.le_of_ble_eq_true rfl) dX4_readLine_60 ?_
      obtain ⟨j83, hj83, hf⟩ := zjn1_e hf
      have hJ83 : ∀ (w4 : zW), j83 w4 = some wz → Z G p l e rm_X4_readLine s m args below meth c (MQ below (zQ G none wz) args s 0 0 (zA G)) 2 83 [(0, .ref (zad G 56)), (1, .int v1)] [] w4 := by
        intro w4 hf
        replace hf := hj83 w4 hf
        refine z_aload_n hC dX4_readLine_83 0 rfl rfl ?_
        refine z_dup hC dX4_readLine_84 rfl ?_
        refine z_get4 hC 14 (by decide) zw_fl_X4_135 (v := .int (w4 56 14)) rfl dX4_readLine_85 ?_
        refine z_iconst hC dX4_readLine_88 (v := 1) rfl ?_
        refine z_iload_n hC dX4_readLine_89 1 rfl rfl ?_
        refine z_ishl hC dX4_readLine_90 ?_
        refine z_ior hC dX4_readLine_91 ?_
        obtain ⟨w5, ew5, hf⟩ := zlet_e hf
        refine z_put4 hC 14 (by decide) rfl rfl zw_fl_X4_135 rfl ew5 dX4_readLine_92 ?_
        refine z_aload_n hC dX4_readLine_95 0 rfl rfl ?_
        obtain ⟨w6, ew6, hf⟩ := zbd_e hf
        refine z_cvv (As := []) (rest := []) hC zo_mod rfl (c_X4_step l G w5 ew6) zw_ml_X4_100 zy_X4_step ⟨rfl, rfl, Nat.le_of_ble_eq_true rfl, Nat.le_of_ble_eq_true rfl⟩ rfl rfl (Nat.le_of_ble_eq_true rfl) dX4_readLine_96 ?_
        refine z_aload_n hC dX4_readLine_99 0 rfl rfl ?_
        refine z_get4 hC 20 (by decide) zw_fl_X4_66 (v := .int (w6 56 20)) rfl dX4_readLine_100 ?_
        refine z_if_le (tgt := 107) hC dX4_readLine_103 (by decide) (fun h7 => ?_) (fun h7 => ?_)
        · replace hf := zif_t h7 hf
          refine z_iload_n hC dX4_readLine_107 1 rfl rfl ?_
          refine z_i2l hC dX4_readLine_108 ?_
          refine z_lconst hC dX4_readLine_109 (v := 1) rfl ?_
          refine z_ldc2 hC zw_cst_X4_133 dX4_readLine_110 ?_
          refine z_csi (As := [.long (v1.toInt64), .long (1 : Int64), .long (5 : Int64)]) (rest := []) hC (c_X4_in l G w6 (v1.toInt64) (1 : Int64) (5 : Int64)) zw_ml_X4_59 zy_X4_in ⟨rfl, rfl, Nat.le_of_ble_eq_true rfl, Nat.le_of_ble_eq_true rfl⟩ rfl rfl (Nat.le_of_ble_eq_true rfl) dX4_readLine_113 ?_
          obtain ⟨j132, hj132, hf⟩ := zjn1_e hf
          have hJ132 : ∀ (w8 : zW), j132 w8 = some wz → Z G p l e rm_X4_readLine s m args below meth c (MQ below (zQ G none wz) args s 0 0 (zA G)) 2 132 [(0, .ref (zad G 56))] [] w8 := by
            intro w8 hf
            replace hf := hj132 w8 hf
            refine z_aload_n hC dX4_readLine_132 0 rfl rfl ?_
            refine z_get4 hC 20 (by decide) zw_fl_X4_66 (v := .int (w8 56 20)) rfl dX4_readLine_133 ?_
            obtain ⟨j152, hj152, hf⟩ := zjn1_e hf
            have hJ152 : ∀ (w9 : zW), j152 w9 = some wz → Z G p l e rm_X4_readLine s m args below meth c (MQ below (zQ G none wz) args s 0 0 (zA G)) 2 152 [(0, .ref (zad G 56))] [] w9 := by
              intro w9 hf
              replace hf := hj152 w9 hf
              refine z_aload_n hC dX4_readLine_152 0 rfl rfl ?_
              obtain ⟨w10, ew10, hf⟩ := zbd_e hf
              refine z_cvv (As := []) (rest := []) hC zo_mod rfl (c_X4_step l G w9 ew10) zw_ml_X4_100 zy_X4_step ⟨rfl, rfl, Nat.le_of_ble_eq_true rfl, Nat.le_of_ble_eq_true rfl⟩ rfl rfl (Nat.le_of_ble_eq_true rfl) dX4_readLine_153 ?_
              obtain rfl := zso1 hf
              exact z_vret hC dX4_readLine_156
            refine z_if_ne (tgt := 152) hC dX4_readLine_136 (by decide) (fun h11 => ?_) (fun h11 => ?_)
            · replace hf := zif_f h11 hf
              exact hJ152 _ hf
            replace hf := zif_t h11 hf
            refine z_aload_n hC dX4_readLine_139 0 rfl rfl ?_
            refine z_get4 hC 24 (by decide) zw_fl_X4_75 (v := .int (w8 56 24)) rfl dX4_readLine_140 ?_
            refine z_iconst hC dX4_readLine_143 (v := 3) rfl ?_
            refine z_icmp_eq (tgt := 152) hC dX4_readLine_144 (by decide) (fun h12 => ?_) (fun h12 => ?_)
            · replace hf := zif_t h12 hf
              exact hJ152 _ hf
            replace hf := zif_f h12 hf
            refine z_aload_n hC dX4_readLine_147 0 rfl rfl ?_
            refine z_iconst hC dX4_readLine_148 (v := 2) rfl ?_
            obtain ⟨w13, ew13, hf⟩ := zbd_e hf
            refine z_cvv (As := [.int (2 : Int32)]) (rest := []) hC zo_mod rfl (c_X4_fails l G w8 (2 : Int32) ew13) zw_ml_X4_96 zy_X4_fails ⟨rfl, rfl, Nat.le_of_ble_eq_true rfl, Nat.le_of_ble_eq_true rfl⟩ rfl rfl (Nat.le_of_ble_eq_true rfl) dX4_readLine_149 ?_
            exact hJ152 _ hf
          refine z_if_eq (tgt := 127) hC dX4_readLine_116 (by decide) (fun h14 => ?_) (fun h14 => ?_)
          · replace hf := zif_t h14 hf
            refine z_aload_n hC dX4_readLine_127 0 rfl rfl ?_
            refine z_iload_n hC dX4_readLine_128 1 rfl rfl ?_
            obtain ⟨w15, ew15, hf⟩ := zbd_e hf
            refine z_cvv (As := [.int v1]) (rest := []) hC zo_mod rfl (c_X4_readMore l G w6 v1 ew15) zw_ml_X4_141 zy_X4_readMore ⟨rfl, rfl, Nat.le_of_ble_eq_true rfl, Nat.le_of_ble_eq_true rfl⟩ rfl rfl (Nat.le_of_ble_eq_true rfl) dX4_readLine_129 ?_
            refine z_lv [0] rfl ?_
            exact hJ132 _ hf
          replace hf := zif_f h14 hf
          refine z_aload_n hC dX4_readLine_119 0 rfl rfl ?_
          refine z_iload_n hC dX4_readLine_120 1 rfl rfl ?_
          obtain ⟨w16, ew16, hf⟩ := zbd_e hf
          refine z_cvv (As := [.int v1]) (rest := []) hC zo_mod rfl (c_X4_readOnce l G w6 v1 ew16) zw_ml_X4_138 zy_X4_readOnce ⟨rfl, rfl, Nat.le_of_ble_eq_true rfl, Nat.le_of_ble_eq_true rfl⟩ rfl rfl (Nat.le_of_ble_eq_true rfl) dX4_readLine_121 ?_
          refine z_goto (tgt := 132) hC dX4_readLine_124 (by decide) ?_
          refine z_lv [0] rfl ?_
          exact hJ132 _ hf
        replace hf := zif_f h7 hf
        obtain rfl := zso1 hf
        exact z_vret hC dX4_readLine_106
      refine z_if_eq (tgt := 83) hC dX4_readLine_63 (by decide) (fun h17 => ?_) (fun h17 => ?_)
      · replace hf := zif_t h17 hf
        exact hJ83 _ hf
      replace hf := zif_f h17 hf
      refine z_aload_n hC dX4_readLine_66 0 rfl rfl ?_
      refine z_get4 hC 14 (by decide) zw_fl_X4_135 (v := .int (w3 56 14)) rfl dX4_readLine_67 ?_
      refine z_iload_n hC dX4_readLine_70 1 rfl rfl ?_
      refine z_ishr hC dX4_readLine_71 ?_
      refine z_iconst hC dX4_readLine_72 (v := 1) rfl ?_
      refine z_iand hC dX4_readLine_73 ?_
      refine z_iconst hC dX4_readLine_74 (v := 1) rfl ?_
      refine z_icmp_ne (tgt := 83) hC dX4_readLine_75 (by decide) (fun h18 => ?_) (fun h18 => ?_)
      · replace hf := zif_f h18 hf
        exact hJ83 _ hf
      replace hf := zif_t h18 hf
      refine z_aload_n hC dX4_readLine_78 0 rfl rfl ?_
      refine z_iconst hC dX4_readLine_79 (v := 4) rfl ?_
      obtain ⟨w19, ew19, hf⟩ := zbd_e hf
      refine z_cvv (As := [.int (4 : Int32)]) (rest := []) hC zo_mod rfl (c_X4_fails l G w3 (4 : Int32) ew19) zw_ml_X4_96 zy_X4_fails ⟨rfl, rfl, Nat.le_of_ble_eq_true rfl, Nat.le_of_ble_eq_true rfl⟩ rfl rfl (Nat.le_of_ble_eq_true rfl) dX4_readLine_80 ?_
      exact hJ83 _ hf
    obtain ⟨j49, hj49, hf⟩ := zjn0_e hf
    have hJ49 : j49 = some wz → Z G p l e rm_X4_readLine s m args below meth c (MQ below (zQ G none wz) args s 0 0 (zA G)) 2 49 [(0, .ref (zad G 56)), (1, .int v1)] [] w := by
      intro hf
      replace hf := hj49  hf
      refine z_aload_n hC dX4_readLine_49 0 rfl rfl ?_
      refine z_iconst hC dX4_readLine_50 (v := 5) rfl ?_
      obtain ⟨w20, ew20, hf⟩ := zbd_e hf
      refine z_cvv (As := [.int (5 : Int32)]) (rest := []) hC zo_mod rfl (c_X4_fails l G w (5 : Int32) ew20) zw_ml_X4_96 zy_X4_fails ⟨rfl, rfl, Nat.le_of_ble_eq_true rfl, Nat.le_of_ble_eq_true rfl⟩ rfl rfl (Nat.le_of_ble_eq_true rfl) dX4_readLine_51 ?_
      exact hJ54 _ hf
    obtain ⟨j35, hj35, hf⟩ := zjn0_e hf
    have hJ35 : j35 = some wz → Z G p l e rm_X4_readLine s m args below meth c (MQ below (zQ G none wz) args s 0 0 (zA G)) 2 35 [(0, .ref (zad G 56)), (1, .int v1)] [] w := by
      intro hf
      replace hf := hj35  hf
      refine z_iload_n hC dX4_readLine_35 1 rfl rfl ?_
      refine z_bipush hC dX4_readLine_36 (v := 6) rfl ?_
      refine z_icmp_ne (tgt := 54) hC dX4_readLine_38 (by decide) (fun h21 => ?_) (fun h21 => ?_)
      · replace hf := zif_f h21 hf
        exact hJ54 _ hf
      replace hf := zif_t h21 hf
      refine z_aload_n hC dX4_readLine_41 0 rfl rfl ?_
      refine z_get4 hC 12 (by decide) zw_fl_X4_120 (v := .int (w 56 12)) rfl dX4_readLine_42 ?_
      refine z_iconst hC dX4_readLine_45 (v := 3) rfl ?_
      refine z_icmp_ne (tgt := 54) hC dX4_readLine_46 (by decide) (fun h22 => ?_) (fun h22 => ?_)
      · replace hf := zif_f h22 hf
        exact hJ54 _ hf
      replace hf := zif_t h22 hf
      exact hJ49 hf
    refine z_if_ne (tgt := 35) hC dX4_readLine_24 (by decide) (fun h23 => ?_) (fun h23 => ?_)
    · replace hf := zif_f h23 hf
      refine z_lv [1, 0] rfl ?_
      exact hJ35 hf
    replace hf := zif_t h23 hf
    refine z_aload_n hC dX4_readLine_27 1 rfl rfl ?_
    refine z_get4 hC 11 (by decide) zw_fl_X4_117 (v := .int (w 56 11)) rfl dX4_readLine_28 ?_
    refine z_iconst hC dX4_readLine_31 (v := 4) rfl ?_
    refine z_icmp_eq (tgt := 49) hC dX4_readLine_32 (by decide) (fun h24 => ?_) (fun h24 => ?_)
    · replace hf := zif_t h24 hf
      refine z_lv [1, 0] rfl ?_
      exact hJ49 hf
    replace hf := zif_f h24 hf
    refine z_lv [1, 0] rfl ?_
    exact hJ35 hf
  replace hf := zif_t h2 hf
  refine z_aload_n hC dX4_readLine_17 1 rfl rfl ?_
  refine z_iconst hC dX4_readLine_18 (v := 2) rfl ?_
  obtain ⟨w25, ew25, hf⟩ := zbd_e hf
  refine z_cvv (As := [.int (2 : Int32)]) (rest := []) hC zo_mod rfl (c_X4_fails l G w (2 : Int32) ew25) zw_ml_X4_96 zy_X4_fails ⟨rfl, rfl, Nat.le_of_ble_eq_true rfl, Nat.le_of_ble_eq_true rfl⟩ rfl rfl (Nat.le_of_ble_eq_true rfl) dX4_readLine_19 ?_
  obtain rfl := zso1 hf
  exact z_vret hC dX4_readLine_22
theorem zy_X4_readLine : zYV yX4_readLine cX4_readLine 2 none RX4 0 := ⟨zw_cd_X4_readLine, zw_im_X4_readLine, zw_sel_X4_readLine, zw_ini_X4, by decide +kernel⟩
abbrev rm_X4_rule : Room := { frames := 1, cells := 0, slots := 0, locals := 21 }
def f_X4_rule (w : zW) (a1 : Int32) : Option Int32 :=
  if a1 = (0 : Int32) then
    some (w 56 2)
  else
  if a1 = (1 : Int32) then
    some (w 56 4)
  else
  if a1 = (2 : Int32) then
    some (w 56 5)
  else
  if a1 = (3 : Int32) then
    some (w 57 9)
  else
  if a1 = (4 : Int32) then
    zbd (f_X4_hourOn w (0 : Int32)) fun v6 =>
    some v6
  else
  if a1 = (5 : Int32) then
    some (w 57 8)
  else
  if a1 = (6 : Int32) then
    zg (zin (((11 : Int32) + a1) - (6 : Int32)) 120) <|
    some (w 57 (zx (((11 : Int32) + a1) - (6 : Int32))))
  else
  if a1 = (7 : Int32) then
    zg (zin (((11 : Int32) + a1) - (6 : Int32)) 120) <|
    some (w 57 (zx (((11 : Int32) + a1) - (6 : Int32))))
  else
  if a1 = (8 : Int32) then
    zg (zin (((11 : Int32) + a1) - (6 : Int32)) 120) <|
    some (w 57 (zx (((11 : Int32) + a1) - (6 : Int32))))
  else
  some (-1 : Int32)
set_option maxRecDepth 100000 in
set_option maxHeartbeats 4000000 in
theorem c_X4_rule (l : Launch) (G : zG) (w : zW) (a1 : Int32) {r : Int32} (hf : f_X4_rule w a1 = some r) : zMet l G yX4_rule cX4_rule 2 (some .int) rm_X4_rule [.ref (zad G 56), .int a1] w (some (.int r)) w := by
  refine z_start (own := RX4) (by decide) rfl (Nat.le_of_ble_eq_true rfl) (lv := [(0, .ref (zad G 56)), (1, .int a1)]) rfl ?_
  intro p e s m args below meth c hC
  unfold f_X4_rule at hf
  refine z_iload_n hC dX4_rule_0 1 rfl rfl ?_
  by_cases h1 : a1 = (0 : Int32)
  · replace hf := zif_t h1 hf
    refine z_tabIn (tgt := 52) hC dX4_rule_1 (by rw [h1]; decide) (by rw [h1]; decide) (by rw [h1]; rfl) (by decide) ?_
    refine z_aload_n hC dX4_rule_52 0 rfl rfl ?_
    refine z_get4 hC 2 (by decide) zw_fl_X4_150 (v := .int (w 56 2)) rfl dX4_rule_53 ?_
    obtain rfl := zso1 hf
    exact z_iret hC dX4_rule_56
  replace hf := zif_f h1 hf
  by_cases h2 : a1 = (1 : Int32)
  · replace hf := zif_t h2 hf
    refine z_tabIn (tgt := 57) hC dX4_rule_1 (by rw [h2]; decide) (by rw [h2]; decide) (by rw [h2]; rfl) (by decide) ?_
    refine z_aload_n hC dX4_rule_57 0 rfl rfl ?_
    refine z_get4 hC 4 (by decide) zw_fl_X4_153 (v := .int (w 56 4)) rfl dX4_rule_58 ?_
    obtain rfl := zso1 hf
    exact z_iret hC dX4_rule_61
  replace hf := zif_f h2 hf
  by_cases h3 : a1 = (2 : Int32)
  · replace hf := zif_t h3 hf
    refine z_tabIn (tgt := 62) hC dX4_rule_1 (by rw [h3]; decide) (by rw [h3]; decide) (by rw [h3]; rfl) (by decide) ?_
    refine z_aload_n hC dX4_rule_62 0 rfl rfl ?_
    refine z_get4 hC 5 (by decide) zw_fl_X4_19 (v := .int (w 56 5)) rfl dX4_rule_63 ?_
    obtain rfl := zso1 hf
    exact z_iret hC dX4_rule_66
  replace hf := zif_f h3 hf
  by_cases h4 : a1 = (3 : Int32)
  · replace hf := zif_t h4 hf
    refine z_tabIn (tgt := 67) hC dX4_rule_1 (by rw [h4]; decide) (by rw [h4]; decide) (by rw [h4]; rfl) (by decide) ?_
    refine z_aload_n hC dX4_rule_67 0 rfl rfl ?_
    refine z_get4 hC 0 (by decide) zw_fl_X4_7 (v := .ref (zad G 57)) rfl dX4_rule_68 ?_
    refine z_bipush hC dX4_rule_71 (v := 9) rfl ?_
    refine z_iald hC za_57 (by decide) (j := 9) (by decide) dX4_rule_73 ?_
    obtain rfl := zso1 hf
    exact z_iret hC dX4_rule_74
  replace hf := zif_f h4 hf
  by_cases h5 : a1 = (4 : Int32)
  · replace hf := zif_t h5 hf
    refine z_tabIn (tgt := 75) hC dX4_rule_1 (by rw [h5]; decide) (by rw [h5]; decide) (by rw [h5]; rfl) (by decide) ?_
    refine z_aload_n hC dX4_rule_75 0 rfl rfl ?_
    refine z_iconst hC dX4_rule_76 (v := 0) rfl ?_
    obtain ⟨v6, ev6, hf⟩ := zbd_e hf
    refine z_cvi (As := [.int (0 : Int32)]) (rest := []) hC zo_mod rfl (c_X4_hourOn l G w (0 : Int32) ev6) zw_ml_X4_171 zy_X4_hourOn ⟨rfl, rfl, Nat.le_of_ble_eq_true rfl, Nat.le_of_ble_eq_true rfl⟩ rfl rfl (Nat.le_of_ble_eq_true rfl) dX4_rule_77 ?_
    obtain rfl := zso1 hf
    exact z_iret hC dX4_rule_80
  replace hf := zif_f h5 hf
  by_cases h7 : a1 = (5 : Int32)
  · replace hf := zif_t h7 hf
    refine z_tabIn (tgt := 81) hC dX4_rule_1 (by rw [h7]; decide) (by rw [h7]; decide) (by rw [h7]; rfl) (by decide) ?_
    refine z_aload_n hC dX4_rule_81 0 rfl rfl ?_
    refine z_get4 hC 0 (by decide) zw_fl_X4_7 (v := .ref (zad G 57)) rfl dX4_rule_82 ?_
    refine z_bipush hC dX4_rule_85 (v := 8) rfl ?_
    refine z_iald hC za_57 (by decide) (j := 8) (by decide) dX4_rule_87 ?_
    obtain rfl := zso1 hf
    exact z_iret hC dX4_rule_88
  replace hf := zif_f h7 hf
  by_cases h8 : a1 = (6 : Int32)
  · replace hf := zif_t h8 hf
    refine z_tabIn (tgt := 89) hC dX4_rule_1 (by rw [h8]; decide) (by rw [h8]; decide) (by rw [h8]; rfl) (by decide) ?_
    refine z_aload_n hC dX4_rule_89 0 rfl rfl ?_
    refine z_get4 hC 0 (by decide) zw_fl_X4_7 (v := .ref (zad G 57)) rfl dX4_rule_90 ?_
    refine z_bipush hC dX4_rule_93 (v := 11) rfl ?_
    refine z_iload_n hC dX4_rule_95 1 rfl rfl ?_
    refine z_iadd hC dX4_rule_96 ?_
    refine z_bipush hC dX4_rule_97 (v := 6) rfl ?_
    refine z_isub hC dX4_rule_99 ?_
    obtain ⟨hg9, hf⟩ := zg_e hf
    refine z_iald hC za_57 hg9 rfl dX4_rule_100 ?_
    obtain rfl := zso1 hf
    exact z_iret hC dX4_rule_101
  replace hf := zif_f h8 hf
  by_cases h10 : a1 = (7 : Int32)
  · replace hf := zif_t h10 hf
    refine z_tabIn (tgt := 89) hC dX4_rule_1 (by rw [h10]; decide) (by rw [h10]; decide) (by rw [h10]; rfl) (by decide) ?_
    refine z_aload_n hC dX4_rule_89 0 rfl rfl ?_
    refine z_get4 hC 0 (by decide) zw_fl_X4_7 (v := .ref (zad G 57)) rfl dX4_rule_90 ?_
    refine z_bipush hC dX4_rule_93 (v := 11) rfl ?_
    refine z_iload_n hC dX4_rule_95 1 rfl rfl ?_
    refine z_iadd hC dX4_rule_96 ?_
    refine z_bipush hC dX4_rule_97 (v := 6) rfl ?_
    refine z_isub hC dX4_rule_99 ?_
    obtain ⟨hg11, hf⟩ := zg_e hf
    refine z_iald hC za_57 hg11 rfl dX4_rule_100 ?_
    obtain rfl := zso1 hf
    exact z_iret hC dX4_rule_101
  replace hf := zif_f h10 hf
  by_cases h12 : a1 = (8 : Int32)
  · replace hf := zif_t h12 hf
    refine z_tabIn (tgt := 89) hC dX4_rule_1 (by rw [h12]; decide) (by rw [h12]; decide) (by rw [h12]; rfl) (by decide) ?_
    refine z_aload_n hC dX4_rule_89 0 rfl rfl ?_
    refine z_get4 hC 0 (by decide) zw_fl_X4_7 (v := .ref (zad G 57)) rfl dX4_rule_90 ?_
    refine z_bipush hC dX4_rule_93 (v := 11) rfl ?_
    refine z_iload_n hC dX4_rule_95 1 rfl rfl ?_
    refine z_iadd hC dX4_rule_96 ?_
    refine z_bipush hC dX4_rule_97 (v := 6) rfl ?_
    refine z_isub hC dX4_rule_99 ?_
    obtain ⟨hg13, hf⟩ := zg_e hf
    refine z_iald hC za_57 hg13 rfl dX4_rule_100 ?_
    obtain rfl := zso1 hf
    exact z_iret hC dX4_rule_101
  replace hf := zif_f h12 hf
  have nh1 := znt (k := 0) (by decide) h1
  have nh2 := znt (k := 1) (by decide) h2
  have nh3 := znt (k := 2) (by decide) h3
  have nh4 := znt (k := 3) (by decide) h4
  have nh5 := znt (k := 4) (by decide) h5
  have nh7 := znt (k := 5) (by decide) h7
  have nh8 := znt (k := 6) (by decide) h8
  have nh10 := znt (k := 7) (by decide) h10
  have nh12 := znt (k := 8) (by decide) h12
  refine z_tabOut (tgt := 102) hC dX4_rule_1 (by omega) (by decide) ?_
  refine z_iconst hC dX4_rule_102 (v := -1) rfl ?_
  obtain rfl := zso1 hf
  exact z_iret hC dX4_rule_103
theorem zy_X4_rule : zYV yX4_rule cX4_rule 2 (some .int) RX4 1 := ⟨zw_cd_X4_rule, zw_im_X4_rule, zw_sel_X4_rule, zw_ini_X4, by decide +kernel⟩
abbrev rm_X4_see : Room := { frames := 1, cells := 0, slots := 0, locals := 25 }
def f_X4_see (w : zW) (a1 : Int32) (a2 : Int32) : Option (Int32 × zW) :=
  if (f_X4_in (a1.toInt64) (1 : Int64) (24 : Int64)) = (0 : Int32) then
    some ((-1 : Int32), w)
  else
  if (f_X4_in (a2.toInt64) (0 : Int64) (60 : Int64)) = (0 : Int32) then
    some ((-1 : Int32), w)
  else
    if (w 56 30) = (6 : Int32) then
      some ((-3 : Int32), w)
    else
      zg (zin ((2 : Int32) * (w 56 30)) 12) <|
      zlet (zup w 66 (zx ((2 : Int32) * (w 56 30))) a1) fun w5 =>
      zg (zin (((2 : Int32) * (w5 56 30)) + (1 : Int32)) 12) <|
      zlet (zup w5 66 (zx (((2 : Int32) * (w5 56 30)) + (1 : Int32))) a2) fun w7 =>
      zlet (zup w7 56 30 ((w7 56 30) + (1 : Int32))) fun w8 =>
      some (w8 56 30, w8)
set_option maxRecDepth 100000 in
set_option maxHeartbeats 4000000 in
theorem c_X4_see (l : Launch) (G : zG) (w : zW) (a1 : Int32) (a2 : Int32) {r : Int32} {wz : zW} (hf : f_X4_see w a1 a2 = some (r, wz)) : zMet l G yX4_see cX4_see 3 (some .int) rm_X4_see [.ref (zad G 56), .int a1, .int a2] w (some (.int r)) wz := by
  refine z_start (own := RX4) (by decide) rfl (Nat.le_of_ble_eq_true rfl) (lv := [(0, .ref (zad G 56)), (1, .int a1), (2, .int a2)]) rfl ?_
  intro p e s m args below meth c hC
  unfold f_X4_see at hf
  refine z_iload_n hC dX4_see_0 1 rfl rfl ?_
  refine z_i2l hC dX4_see_1 ?_
  refine z_lconst hC dX4_see_2 (v := 1) rfl ?_
  refine z_ldc2 hC zw_cst_X4_273 dX4_see_3 ?_
  refine z_csi (As := [.long (a1.toInt64), .long (1 : Int64), .long (24 : Int64)]) (rest := []) hC (c_X4_in l G w (a1.toInt64) (1 : Int64) (24 : Int64)) zw_ml_X4_59 zy_X4_in ⟨rfl, rfl, Nat.le_of_ble_eq_true rfl, Nat.le_of_ble_eq_true rfl⟩ rfl rfl (Nat.le_of_ble_eq_true rfl) dX4_see_6 ?_
  refine z_if_eq (tgt := 24) hC dX4_see_9 (by decide) (fun h1 => ?_) (fun h1 => ?_)
  · replace hf := zif_t h1 hf
    refine z_iconst hC dX4_see_24 (v := -1) rfl ?_
    obtain ⟨rfl, rfl⟩ := zso2 hf
    exact z_iret hC dX4_see_25
  replace hf := zif_f h1 hf
  refine z_iload_n hC dX4_see_12 2 rfl rfl ?_
  refine z_i2l hC dX4_see_13 ?_
  refine z_lconst hC dX4_see_14 (v := 0) rfl ?_
  refine z_ldc2 hC zw_cst_X4_209 dX4_see_15 ?_
  refine z_csi (As := [.long (a2.toInt64), .long (0 : Int64), .long (60 : Int64)]) (rest := []) hC (c_X4_in l G w (a2.toInt64) (0 : Int64) (60 : Int64)) zw_ml_X4_59 zy_X4_in ⟨rfl, rfl, Nat.le_of_ble_eq_true rfl, Nat.le_of_ble_eq_true rfl⟩ rfl rfl (Nat.le_of_ble_eq_true rfl) dX4_see_18 ?_
  refine z_if_ne (tgt := 26) hC dX4_see_21 (by decide) (fun h2 => ?_) (fun h2 => ?_)
  · replace hf := zif_f h2 hf
    refine z_aload_n hC dX4_see_26 0 rfl rfl ?_
    refine z_get4 hC 30 (by decide) zw_fl_X4_162 (v := .int (w 56 30)) rfl dX4_see_27 ?_
    refine z_bipush hC dX4_see_30 (v := 6) rfl ?_
    refine z_icmp_ne (tgt := 38) hC dX4_see_32 (by decide) (fun h3 => ?_) (fun h3 => ?_)
    · replace hf := zif_f h3 hf
      refine z_aload_n hC dX4_see_38 0 rfl rfl ?_
      refine z_get4 hC 29 (by decide) zw_fl_X4_41 (v := .ref (zad G 66)) rfl dX4_see_39 ?_
      refine z_iconst hC dX4_see_42 (v := 2) rfl ?_
      refine z_aload_n hC dX4_see_43 0 rfl rfl ?_
      refine z_get4 hC 30 (by decide) zw_fl_X4_162 (v := .int (w 56 30)) rfl dX4_see_44 ?_
      refine z_imul hC dX4_see_47 ?_
      refine z_iload_n hC dX4_see_48 1 rfl rfl ?_
      obtain ⟨hg4, hf⟩ := zg_e hf
      obtain ⟨w5, ew5, hf⟩ := zlet_e hf
      refine z_iast hC za_66 hg4 rfl ew5 dX4_see_49 ?_
      refine z_aload_n hC dX4_see_50 0 rfl rfl ?_
      refine z_get4 hC 29 (by decide) zw_fl_X4_41 (v := .ref (zad G 66)) rfl dX4_see_51 ?_
      refine z_iconst hC dX4_see_54 (v := 2) rfl ?_
      refine z_aload_n hC dX4_see_55 0 rfl rfl ?_
      refine z_get4 hC 30 (by decide) zw_fl_X4_162 (v := .int (w5 56 30)) rfl dX4_see_56 ?_
      refine z_imul hC dX4_see_59 ?_
      refine z_iconst hC dX4_see_60 (v := 1) rfl ?_
      refine z_iadd hC dX4_see_61 ?_
      refine z_iload_n hC dX4_see_62 2 rfl rfl ?_
      obtain ⟨hg6, hf⟩ := zg_e hf
      obtain ⟨w7, ew7, hf⟩ := zlet_e hf
      refine z_iast hC za_66 hg6 rfl ew7 dX4_see_63 ?_
      refine z_aload_n hC dX4_see_64 0 rfl rfl ?_
      refine z_dup hC dX4_see_65 rfl ?_
      refine z_get4 hC 30 (by decide) zw_fl_X4_162 (v := .int (w7 56 30)) rfl dX4_see_66 ?_
      refine z_iconst hC dX4_see_69 (v := 1) rfl ?_
      refine z_iadd hC dX4_see_70 ?_
      obtain ⟨w8, ew8, hf⟩ := zlet_e hf
      refine z_put4 hC 30 (by decide) rfl rfl zw_fl_X4_162 rfl ew8 dX4_see_71 ?_
      refine z_aload_n hC dX4_see_74 0 rfl rfl ?_
      refine z_get4 hC 30 (by decide) zw_fl_X4_162 (v := .int (w8 56 30)) rfl dX4_see_75 ?_
      obtain ⟨rfl, rfl⟩ := zso2 hf
      exact z_iret hC dX4_see_78
    replace hf := zif_t h3 hf
    refine z_bipush hC dX4_see_35 (v := -3) rfl ?_
    obtain ⟨rfl, rfl⟩ := zso2 hf
    exact z_iret hC dX4_see_37
  replace hf := zif_t h2 hf
  refine z_iconst hC dX4_see_24 (v := -1) rfl ?_
  obtain ⟨rfl, rfl⟩ := zso2 hf
  exact z_iret hC dX4_see_25
theorem zy_X4_see : zYV yX4_see cX4_see 3 (some .int) RX4 2 := ⟨zw_cd_X4_see, zw_im_X4_see, zw_sel_X4_see, zw_ini_X4, by decide +kernel⟩
abbrev rm_X4_sheet : Room := { frames := 1, cells := 0, slots := 0, locals := 25 }
def b_X4_sheet_56 (a1 : Int32) (k56 : Int32 → zW → Option (Int32 × zW)) (v9 : Int32) (w10 : zW) : Option (Int32 × zW) :=
  if (40 : Int32) ≤ v9 then
    some ((1 : Int32), w10)
  else
  zg (zin (((40 : Int32) * a1) + v9) 160) <|
  zlet (zup w10 70 (zx (((40 : Int32) * a1) + v9)) (0 : Int32)) fun w13 =>
  zlet (v9 + (1 : Int32)) fun v14 =>
  k56 v14 w13
def f_X4_sheet (w : zW) (a1 : Int32) (a2 : Int32) (a3 : Int32) : Option (Int32 × zW) :=
  if (f_X4_in (a1.toInt64) (0 : Int64) (3 : Int64)) = (0 : Int32) then
    some ((-1 : Int32), w)
  else
  if (f_X4_in (a2.toInt64) (0 : Int64) (2 : Int64)) = (0 : Int32) then
    some ((-1 : Int32), w)
  else
  if a3 ≤ (40 : Int32) then
    if (0 : Int32) ≤ a3 then
      zg (zin a1 4) <|
      zlet (zup w 68 (zx a1) a2) fun w6 =>
      zg (zin a1 4) <|
      zlet (zup w6 69 (zx a1) a3) fun w8 =>
      zfix2 (b_X4_sheet_56 a1) 100000 (0 : Int32) w8
    else
    some ((-14 : Int32), w)
  else
  some ((-1 : Int32), w)
set_option maxRecDepth 100000 in
set_option maxHeartbeats 4000000 in
theorem c_X4_sheet (l : Launch) (G : zG) (w : zW) (a1 : Int32) (a2 : Int32) (a3 : Int32) {r : Int32} {wz : zW} (hf : f_X4_sheet w a1 a2 a3 = some (r, wz)) : zMet l G yX4_sheet cX4_sheet 5 (some .int) rm_X4_sheet [.ref (zad G 56), .int a1, .int a2, .int a3] w (some (.int r)) wz := by
  refine z_start (own := RX4) (by decide) rfl (Nat.le_of_ble_eq_true rfl) (lv := [(0, .ref (zad G 56)), (1, .int a1), (2, .int a2), (3, .int a3)]) rfl ?_
  intro p e s m args below meth c hC
  unfold f_X4_sheet at hf
  refine z_iload_n hC dX4_sheet_0 1 rfl rfl ?_
  refine z_i2l hC dX4_sheet_1 ?_
  refine z_lconst hC dX4_sheet_2 (v := 0) rfl ?_
  refine z_ldc2 hC zw_cst_X4_165 dX4_sheet_3 ?_
  refine z_csi (As := [.long (a1.toInt64), .long (0 : Int64), .long (3 : Int64)]) (rest := []) hC (c_X4_in l G w (a1.toInt64) (0 : Int64) (3 : Int64)) zw_ml_X4_59 zy_X4_in ⟨rfl, rfl, Nat.le_of_ble_eq_true rfl, Nat.le_of_ble_eq_true rfl⟩ rfl rfl (Nat.le_of_ble_eq_true rfl) dX4_sheet_6 ?_
  refine z_if_eq (tgt := 30) hC dX4_sheet_9 (by decide) (fun h1 => ?_) (fun h1 => ?_)
  · replace hf := zif_t h1 hf
    refine z_iconst hC dX4_sheet_30 (v := -1) rfl ?_
    obtain ⟨rfl, rfl⟩ := zso2 hf
    exact z_iret hC dX4_sheet_31
  replace hf := zif_f h1 hf
  refine z_iload_n hC dX4_sheet_12 2 rfl rfl ?_
  refine z_i2l hC dX4_sheet_13 ?_
  refine z_lconst hC dX4_sheet_14 (v := 0) rfl ?_
  refine z_ldc2 hC zw_cst_X4_123 dX4_sheet_15 ?_
  refine z_csi (As := [.long (a2.toInt64), .long (0 : Int64), .long (2 : Int64)]) (rest := []) hC (c_X4_in l G w (a2.toInt64) (0 : Int64) (2 : Int64)) zw_ml_X4_59 zy_X4_in ⟨rfl, rfl, Nat.le_of_ble_eq_true rfl, Nat.le_of_ble_eq_true rfl⟩ rfl rfl (Nat.le_of_ble_eq_true rfl) dX4_sheet_18 ?_
  refine z_if_eq (tgt := 30) hC dX4_sheet_21 (by decide) (fun h2 => ?_) (fun h2 => ?_)
  · replace hf := zif_t h2 hf
    refine z_iconst hC dX4_sheet_30 (v := -1) rfl ?_
    obtain ⟨rfl, rfl⟩ := zso2 hf
    exact z_iret hC dX4_sheet_31
  replace hf := zif_f h2 hf
  refine z_iload_n hC dX4_sheet_24 3 rfl rfl ?_
  refine z_bipush hC dX4_sheet_25 (v := 40) rfl ?_
  refine z_icmp_le (tgt := 32) hC dX4_sheet_27 (by decide) (fun h3 => ?_) (fun h3 => ?_)
  · replace hf := zif_t h3 hf
    refine z_iload_n hC dX4_sheet_32 3 rfl rfl ?_
    refine z_if_ge (tgt := 39) hC dX4_sheet_33 (by decide) (fun h4 => ?_) (fun h4 => ?_)
    · replace hf := zif_t h4 hf
      refine z_aload_n hC dX4_sheet_39 0 rfl rfl ?_
      refine z_get4 hC 32 (by decide) zw_fl_X4_48 (v := .ref (zad G 68)) rfl dX4_sheet_40 ?_
      refine z_iload_n hC dX4_sheet_43 1 rfl rfl ?_
      refine z_iload_n hC dX4_sheet_44 2 rfl rfl ?_
      obtain ⟨hg5, hf⟩ := zg_e hf
      obtain ⟨w6, ew6, hf⟩ := zlet_e hf
      refine z_iast hC za_68 hg5 rfl ew6 dX4_sheet_45 ?_
      refine z_aload_n hC dX4_sheet_46 0 rfl rfl ?_
      refine z_get4 hC 33 (by decide) zw_fl_X4_51 (v := .ref (zad G 69)) rfl dX4_sheet_47 ?_
      refine z_iload_n hC dX4_sheet_50 1 rfl rfl ?_
      refine z_iload_n hC dX4_sheet_51 3 rfl rfl ?_
      obtain ⟨hg7, hf⟩ := zg_e hf
      obtain ⟨w8, ew8, hf⟩ := zlet_e hf
      refine z_iast hC za_69 hg7 rfl ew8 dX4_sheet_52 ?_
      refine z_iconst hC dX4_sheet_53 (v := 0) rfl ?_
      refine z_istore (lv' := [(4, .int (0 : Int32)), (0, .ref (zad G 56)), (1, .int a1), (2, .int a2), (3, .int a3)]) hC dX4_sheet_54 (by decide) rfl ?_
      have hL56 : ∀ (n : Nat) (v9 : Int32) (w10 : zW), zfix2 (b_X4_sheet_56 a1) n v9 w10 = some (r, wz) → Z G p l e rm_X4_sheet s m args below meth c (MQ below (zQ G (some (.int r)) wz) args s 0 0 (zA G)) 5 56 [(0, .ref (zad G 56)), (1, .int a1), (4, .int v9)] [] w10 := by
        intro n
        induction n with
        | zero => intro v9 w10 hf; exact (zfix2_0 hf).elim
        | succ n ih56 =>
          intro v9 w10 hf
          replace hf := zfix2_e hf
          unfold b_X4_sheet_56 at hf
          refine z_iload hC dX4_sheet_56 2 rfl ?_
          refine z_bipush hC dX4_sheet_58 (v := 40) rfl ?_
          refine z_icmp_ge (tgt := 82) hC dX4_sheet_60 (by decide) (fun h11 => ?_) (fun h11 => ?_)
          · replace hf := zif_t h11 hf
            refine z_iconst hC dX4_sheet_82 (v := 1) rfl ?_
            obtain ⟨rfl, rfl⟩ := zso2 hf
            exact z_iret hC dX4_sheet_83
          replace hf := zif_f h11 hf
          refine z_aload_n hC dX4_sheet_63 0 rfl rfl ?_
          refine z_get4 hC 34 (by decide) zw_fl_X4_54 (v := .ref (zad G 70)) rfl dX4_sheet_64 ?_
          refine z_bipush hC dX4_sheet_67 (v := 40) rfl ?_
          refine z_iload_n hC dX4_sheet_69 1 rfl rfl ?_
          refine z_imul hC dX4_sheet_70 ?_
          refine z_iload hC dX4_sheet_71 2 rfl ?_
          refine z_iadd hC dX4_sheet_73 ?_
          refine z_iconst hC dX4_sheet_74 (v := 0) rfl ?_
          obtain ⟨hg12, hf⟩ := zg_e hf
          obtain ⟨w13, ew13, hf⟩ := zlet_e hf
          refine z_iast hC za_70 hg12 rfl ew13 dX4_sheet_75 ?_
          obtain ⟨v14, ev14, hf⟩ := zlet_e hf
          refine z_iinc (v := v14) (lv' := [(4, .int v14), (0, .ref (zad G 56)), (1, .int a1)]) hC dX4_sheet_76 2 rfl (by rw [ev14]; rfl) (by decide) rfl ?_
          refine z_goto (tgt := 56) hC dX4_sheet_79 (by decide) ?_
          refine z_lv [1, 2, 0] rfl ?_
          exact ih56 _ _ hf
      refine z_lv [1, 2, 0] rfl ?_
      exact hL56 _ _ _ hf
    replace hf := zif_f h4 hf
    refine z_bipush hC dX4_sheet_36 (v := -14) rfl ?_
    obtain ⟨rfl, rfl⟩ := zso2 hf
    exact z_iret hC dX4_sheet_38
  replace hf := zif_f h3 hf
  refine z_iconst hC dX4_sheet_30 (v := -1) rfl ?_
  obtain ⟨rfl, rfl⟩ := zso2 hf
  exact z_iret hC dX4_sheet_31
theorem zy_X4_sheet : zYV yX4_sheet cX4_sheet 5 (some .int) RX4 3 := ⟨zw_cd_X4_sheet, zw_im_X4_sheet, zw_sel_X4_sheet, zw_ini_X4, by decide +kernel⟩
abbrev rm_X4_stay : Room := { frames := 6, cells := 0, slots := 0, locals := 139 }
def b_X4_stay_41 (a1 : Int32) (j106 : Int64 → Int64 → zW → Option (Int64 × zW)) (k41 : Int64 → Int64 → Int32 → zW → Option (Int64 × zW)) (v8 : Int64) (v9 : Int64) (v10 : Int32) (w11 : zW) : Option (Int64 × zW) :=
  if a1 ≤ v10 then
    j106 v8 v9 w11
  else
  zbd (f_X4_hourOn w11 (80 : Int32)) fun v13 =>
  zjn2 (fun (v14 : Int64) (v15 : Int64) =>
    zbd (f_X4_goesOn w11 (80 : Int32) (1 : Int32) (3 : Int32)) fun w16 =>
    zlet (v10 + (1 : Int32)) fun v17 =>
    k41 v14 v15 v17 w16)
  (fun (j92 : Int64 → Int64 → Option (Int64 × zW)) =>
  if (zrem v13 (24 : Int32)) = (12 : Int32) then
    zbd (f_X4_upOn w11 (80 : Int32)) fun v19 =>
    if v19 ≤ (0 : Int32) then
      j92 v8 v9
    else
    zlet (v8 * (10 : Int64)) fun v21 =>
    zlet (v9 * (((10 : Int32) - (w11 57 13)).toInt64)) fun v22 =>
    j92 v21 v22
  else
    j92 v8 v9)
def f_X4_stay (w : zW) (a1 : Int32) (a2 : Int32) : Option (Int64 × zW) :=
  if (f_X4_in (a1.toInt64) (0 : Int64) (96 : Int64)) = (0 : Int32) then
    some ((-1 : Int64), w)
  else
  if (f_X4_in (a2.toInt64) (0 : Int64) (1 : Int64)) = (0 : Int32) then
    some ((-1 : Int64), w)
  else
    zbd (f_X4_copies w (0 : Int32) (80 : Int32)) fun w3 =>
    zjn3 (fun (v4 : Int64) (v5 : Int64) (w6 : zW) =>
      zbd (f_X4_lowest (v4 - v5) v4 a2) fun v7 =>
      some (v7, w6))
    (fun (j106 : Int64 → Int64 → zW → Option (Int64 × zW)) =>
    zfix4 (b_X4_stay_41 a1 j106) 100000 (1 : Int64) (1 : Int64) (0 : Int32) w3)
set_option maxRecDepth 100000 in
set_option maxHeartbeats 4000000 in
theorem c_X4_stay (l : Launch) (G : zG) (w : zW) (a1 : Int32) (a2 : Int32) {r : Int64} {wz : zW} (hf : f_X4_stay w a1 a2 = some (r, wz)) : zMet l G yX4_stay cX4_stay 8 (some .long) rm_X4_stay [.ref (zad G 56), .int a1, .int a2] w (some (.long r)) wz := by
  refine z_start (own := RX4) (by decide) rfl (Nat.le_of_ble_eq_true rfl) (lv := [(0, .ref (zad G 56)), (1, .int a1), (2, .int a2)]) rfl ?_
  intro p e s m args below meth c hC
  unfold f_X4_stay at hf
  refine z_iload_n hC dX4_stay_0 1 rfl rfl ?_
  refine z_i2l hC dX4_stay_1 ?_
  refine z_lconst hC dX4_stay_2 (v := 0) rfl ?_
  refine z_ldc2 hC zw_cst_X4_248 dX4_stay_3 ?_
  refine z_csi (As := [.long (a1.toInt64), .long (0 : Int64), .long (96 : Int64)]) (rest := []) hC (c_X4_in l G w (a1.toInt64) (0 : Int64) (96 : Int64)) zw_ml_X4_59 zy_X4_in ⟨rfl, rfl, Nat.le_of_ble_eq_true rfl, Nat.le_of_ble_eq_true rfl⟩ rfl rfl (Nat.le_of_ble_eq_true rfl) dX4_stay_6 ?_
  refine z_if_eq (tgt := 22) hC dX4_stay_9 (by decide) (fun h1 => ?_) (fun h1 => ?_)
  · replace hf := zif_t h1 hf
    refine z_ldc2 hC zw_cst_X4_259 dX4_stay_22 ?_
    obtain ⟨rfl, rfl⟩ := zso2 hf
    exact z_lret hC dX4_stay_25
  replace hf := zif_f h1 hf
  refine z_iload_n hC dX4_stay_12 2 rfl rfl ?_
  refine z_i2l hC dX4_stay_13 ?_
  refine z_lconst hC dX4_stay_14 (v := 0) rfl ?_
  refine z_lconst hC dX4_stay_15 (v := 1) rfl ?_
  refine z_csi (As := [.long (a2.toInt64), .long (0 : Int64), .long (1 : Int64)]) (rest := []) hC (c_X4_in l G w (a2.toInt64) (0 : Int64) (1 : Int64)) zw_ml_X4_59 zy_X4_in ⟨rfl, rfl, Nat.le_of_ble_eq_true rfl, Nat.le_of_ble_eq_true rfl⟩ rfl rfl (Nat.le_of_ble_eq_true rfl) dX4_stay_16 ?_
  refine z_if_ne (tgt := 26) hC dX4_stay_19 (by decide) (fun h2 => ?_) (fun h2 => ?_)
  · replace hf := zif_f h2 hf
    refine z_lconst hC dX4_stay_26 (v := 1) rfl ?_
    refine z_lstore_n (lv' := [(3, .long (1 : Int64)), (0, .ref (zad G 56)), (1, .int a1), (2, .int a2)]) hC dX4_stay_27 rfl (by decide) rfl ?_
    refine z_lconst hC dX4_stay_28 (v := 1) rfl ?_
    refine z_lstore (lv' := [(5, .long (1 : Int64)), (3, .long (1 : Int64)), (0, .ref (zad G 56)), (1, .int a1), (2, .int a2)]) hC dX4_stay_29 (by decide) rfl ?_
    refine z_aload_n hC dX4_stay_31 2 rfl rfl ?_
    refine z_iconst hC dX4_stay_32 (v := 0) rfl ?_
    refine z_bipush hC dX4_stay_33 (v := 80) rfl ?_
    obtain ⟨w3, ew3, hf⟩ := zbd_e hf
    refine z_cvv (As := [.int (0 : Int32), .int (80 : Int32)]) (rest := []) hC zo_mod rfl (c_X4_copies l G w (0 : Int32) (80 : Int32) ew3) zw_ml_X4_250 zy_X4_copies ⟨rfl, rfl, Nat.le_of_ble_eq_true rfl, Nat.le_of_ble_eq_true rfl⟩ rfl rfl (Nat.le_of_ble_eq_true rfl) dX4_stay_35 ?_
    refine z_iconst hC dX4_stay_38 (v := 0) rfl ?_
    refine z_istore (lv' := [(7, .int (0 : Int32)), (5, .long (1 : Int64)), (3, .long (1 : Int64)), (0, .ref (zad G 56)), (1, .int a1), (2, .int a2)]) hC dX4_stay_39 (by decide) rfl ?_
    obtain ⟨j106, hj106, hf⟩ := zjn3_e hf
    have hJ106 : ∀ (v4 : Int64) (v5 : Int64) (w6 : zW), j106 v4 v5 w6 = some (r, wz) → Z G p l e rm_X4_stay s m args below meth c (MQ below (zQ G (some (.long r)) wz) args s 0 0 (zA G)) 8 106 [(2, .int a2), (3, .long v4), (5, .long v5)] [] w6 := by
      intro v4 v5 w6 hf
      replace hf := hj106 v4 v5 w6 hf
      refine z_lload_n hC dX4_stay_106 1 rfl rfl ?_
      refine z_lload hC dX4_stay_107 2 rfl ?_
      refine z_lsub hC dX4_stay_109 ?_
      refine z_lload_n hC dX4_stay_110 1 rfl rfl ?_
      refine z_iload_n hC dX4_stay_111 0 rfl rfl ?_
      obtain ⟨v7, ev7, hf⟩ := zbd_e hf
      refine z_csl (As := [.long (v4 - v5), .long v4, .int a2]) (rest := []) hC (c_X4_lowest l G w6 (v4 - v5) v4 a2 ev7) zw_ml_X4_269 zy_X4_lowest ⟨rfl, rfl, Nat.le_of_ble_eq_true rfl, Nat.le_of_ble_eq_true rfl⟩ rfl rfl (Nat.le_of_ble_eq_true rfl) dX4_stay_112 ?_
      obtain ⟨rfl, rfl⟩ := zso2 hf
      exact z_lret hC dX4_stay_115
    have hL41 : ∀ (n : Nat) (v8 : Int64) (v9 : Int64) (v10 : Int32) (w11 : zW), zfix4 (b_X4_stay_41 a1 j106) n v8 v9 v10 w11 = some (r, wz) → Z G p l e rm_X4_stay s m args below meth c (MQ below (zQ G (some (.long r)) wz) args s 0 0 (zA G)) 8 41 [(0, .ref (zad G 56)), (1, .int a1), (2, .int a2), (3, .long v8), (5, .long v9), (7, .int v10)] [] w11 := by
      intro n
      induction n with
      | zero => intro v8 v9 v10 w11 hf; exact (zfix4_0 hf).elim
      | succ n ih41 =>
        intro v8 v9 v10 w11 hf
        replace hf := zfix4_e hf
        unfold b_X4_stay_41 at hf
        refine z_iload hC dX4_stay_41 5 rfl ?_
        refine z_iload_n hC dX4_stay_43 1 rfl rfl ?_
        refine z_icmp_ge (tgt := 106) hC dX4_stay_44 (by decide) (fun h12 => ?_) (fun h12 => ?_)
        · replace hf := zif_t h12 hf
          refine z_lv [2, 3, 4] rfl ?_
          exact hJ106 _ _ _ hf
        replace hf := zif_f h12 hf
        refine z_aload_n hC dX4_stay_47 0 rfl rfl ?_
        refine z_bipush hC dX4_stay_48 (v := 80) rfl ?_
        obtain ⟨v13, ev13, hf⟩ := zbd_e hf
        refine z_cvi (As := [.int (80 : Int32)]) (rest := []) hC zo_mod rfl (c_X4_hourOn l G w11 (80 : Int32) ev13) zw_ml_X4_171 zy_X4_hourOn ⟨rfl, rfl, Nat.le_of_ble_eq_true rfl, Nat.le_of_ble_eq_true rfl⟩ rfl rfl (Nat.le_of_ble_eq_true rfl) dX4_stay_50 ?_
        refine z_bipush hC dX4_stay_53 (v := 24) rfl ?_
        refine z_irem hC dX4_stay_55 (by decide) ?_
        refine z_bipush hC dX4_stay_56 (v := 12) rfl ?_
        obtain ⟨j92, hj92, hf⟩ := zjn2_e hf
        have hJ92 : ∀ (v14 : Int64) (v15 : Int64), j92 v14 v15 = some (r, wz) → Z G p l e rm_X4_stay s m args below meth c (MQ below (zQ G (some (.long r)) wz) args s 0 0 (zA G)) 8 92 [(0, .ref (zad G 56)), (1, .int a1), (2, .int a2), (3, .long v14), (5, .long v15), (7, .int v10)] [] w11 := by
          intro v14 v15 hf
          replace hf := hj92 v14 v15 hf
          refine z_aload_n hC dX4_stay_92 0 rfl rfl ?_
          refine z_bipush hC dX4_stay_93 (v := 80) rfl ?_
          refine z_iconst hC dX4_stay_95 (v := 1) rfl ?_
          refine z_iconst hC dX4_stay_96 (v := 3) rfl ?_
          obtain ⟨w16, ew16, hf⟩ := zbd_e hf
          refine z_cvv (As := [.int (80 : Int32), .int (1 : Int32), .int (3 : Int32)]) (rest := []) hC zo_mod rfl (c_X4_goesOn l G w11 (80 : Int32) (1 : Int32) (3 : Int32) ew16) zw_ml_X4_244 zy_X4_goesOn ⟨rfl, rfl, Nat.le_of_ble_eq_true rfl, Nat.le_of_ble_eq_true rfl⟩ rfl rfl (Nat.le_of_ble_eq_true rfl) dX4_stay_97 ?_
          obtain ⟨v17, ev17, hf⟩ := zlet_e hf
          refine z_iinc (v := v17) (lv' := [(7, .int v17), (0, .ref (zad G 56)), (1, .int a1), (2, .int a2), (3, .long v14), (5, .long v15)]) hC dX4_stay_100 5 rfl (by rw [ev17]; rfl) (by decide) rfl ?_
          refine z_goto (tgt := 41) hC dX4_stay_103 (by decide) ?_
          refine z_lv [1, 2, 3, 4, 5, 0] rfl ?_
          exact ih41 _ _ _ _ hf
        refine z_icmp_ne (tgt := 92) hC dX4_stay_58 (by decide) (fun h18 => ?_) (fun h18 => ?_)
        · replace hf := zif_f h18 hf
          exact hJ92 _ _ hf
        replace hf := zif_t h18 hf
        refine z_aload_n hC dX4_stay_61 0 rfl rfl ?_
        refine z_bipush hC dX4_stay_62 (v := 80) rfl ?_
        obtain ⟨v19, ev19, hf⟩ := zbd_e hf
        refine z_cvi (As := [.int (80 : Int32)]) (rest := []) hC zo_mod rfl (c_X4_upOn l G w11 (80 : Int32) ev19) zw_ml_X4_218 zy_X4_upOn ⟨rfl, rfl, Nat.le_of_ble_eq_true rfl, Nat.le_of_ble_eq_true rfl⟩ rfl rfl (Nat.le_of_ble_eq_true rfl) dX4_stay_64 ?_
        refine z_if_le (tgt := 92) hC dX4_stay_67 (by decide) (fun h20 => ?_) (fun h20 => ?_)
        · replace hf := zif_t h20 hf
          exact hJ92 _ _ hf
        replace hf := zif_f h20 hf
        refine z_lload_n hC dX4_stay_70 3 rfl rfl ?_
        refine z_ldc2 hC zw_cst_X4_214 dX4_stay_71 ?_
        refine z_lmul hC dX4_stay_74 ?_
        obtain ⟨v21, ev21, hf⟩ := zlet_e hf
        refine z_topl ev21 ?_
        refine z_lstore_n (lv' := [(3, .long v21), (0, .ref (zad G 56)), (1, .int a1), (2, .int a2), (5, .long v9), (7, .int v10)]) hC dX4_stay_75 rfl (by decide) rfl ?_
        refine z_lload hC dX4_stay_76 4 rfl ?_
        refine z_bipush hC dX4_stay_78 (v := 10) rfl ?_
        refine z_aload_n hC dX4_stay_80 1 rfl rfl ?_
        refine z_get4 hC 0 (by decide) zw_fl_X4_7 (v := .ref (zad G 57)) rfl dX4_stay_81 ?_
        refine z_bipush hC dX4_stay_84 (v := 13) rfl ?_
        refine z_iald hC za_57 (by decide) (j := 13) (by decide) dX4_stay_86 ?_
        refine z_isub hC dX4_stay_87 ?_
        refine z_i2l hC dX4_stay_88 ?_
        refine z_lmul hC dX4_stay_89 ?_
        obtain ⟨v22, ev22, hf⟩ := zlet_e hf
        refine z_topl ev22 ?_
        refine z_lstore (lv' := [(5, .long v22), (3, .long v21), (0, .ref (zad G 56)), (1, .int a1), (2, .int a2), (7, .int v10)]) hC dX4_stay_90 (by decide) rfl ?_
        refine z_lv [2, 3, 4, 1, 0, 5] rfl ?_
        exact hJ92 _ _ hf
    refine z_lv [3, 4, 5, 2, 1, 0] rfl ?_
    exact hL41 _ _ _ _ _ hf
  replace hf := zif_t h2 hf
  refine z_ldc2 hC zw_cst_X4_259 dX4_stay_22 ?_
  obtain ⟨rfl, rfl⟩ := zso2 hf
  exact z_lret hC dX4_stay_25
theorem zy_X4_stay : zYV yX4_stay cX4_stay 8 (some .long) RX4 2 := ⟨zw_cd_X4_stay, zw_im_X4_stay, zw_sel_X4_stay, zw_ini_X4, by decide +kernel⟩
abbrev rm_X4_teach : Room := { frames := 2, cells := 0, slots := 0, locals := 46 }
def f_X4_teach (w : zW) (a1 : Int32) (a2 : Int32) : Option (Int32 × zW) :=
  zjn1 (fun (v1 : Int32) =>
    zbd2 (f_X4_sets w v1 a1 a2) fun v3 w2 =>
    some (v3, w2))
  (fun (j26 : Int32 → Option (Int32 × zW)) =>
  zjn0 (
    j26 (0 : Int32))
  (fun (j25 : Option (Int32 × zW)) =>
  if (f_X4_isOne w a1) = (0 : Int32) then
    j25
  else
  if (f_X4_in (a2.toInt64) (0 : Int64) (4 : Int64)) = (0 : Int32) then
    j25
  else
  j26 (1 : Int32)))
set_option maxRecDepth 100000 in
set_option maxHeartbeats 4000000 in
theorem c_X4_teach (l : Launch) (G : zG) (w : zW) (a1 : Int32) (a2 : Int32) {r : Int32} {wz : zW} (hf : f_X4_teach w a1 a2 = some (r, wz)) : zMet l G yX4_teach cX4_teach 3 (some .int) rm_X4_teach [.ref (zad G 56), .int a1, .int a2] w (some (.int r)) wz := by
  refine z_start (own := RX4) (by decide) rfl (Nat.le_of_ble_eq_true rfl) (lv := [(0, .ref (zad G 56)), (1, .int a1), (2, .int a2)]) rfl ?_
  intro p e s m args below meth c hC
  unfold f_X4_teach at hf
  refine z_aload_n hC dX4_teach_0 0 rfl rfl ?_
  refine z_aload_n hC dX4_teach_1 0 rfl rfl ?_
  refine z_iload_n hC dX4_teach_2 1 rfl rfl ?_
  refine z_cvi (As := [.int a1]) (rest := [.ref (zad G 56)]) hC zo_mod rfl (c_X4_isOne l G w a1) zw_ml_X4_177 zy_X4_isOne ⟨rfl, rfl, Nat.le_of_ble_eq_true rfl, Nat.le_of_ble_eq_true rfl⟩ rfl rfl (Nat.le_of_ble_eq_true rfl) dX4_teach_3 ?_
  obtain ⟨j26, hj26, hf⟩ := zjn1_e hf
  have hJ26 : ∀ (v1 : Int32), j26 v1 = some (r, wz) → Z G p l e rm_X4_teach s m args below meth c (MQ below (zQ G (some (.int r)) wz) args s 0 0 (zA G)) 3 26 [(1, .int a1), (2, .int a2)] [.int v1, .ref (zad G 56)] w := by
    intro v1 hf
    replace hf := hj26 v1 hf
    refine z_iload_n hC dX4_teach_26 0 rfl rfl ?_
    refine z_iload_n hC dX4_teach_27 1 rfl rfl ?_
    obtain ⟨v3, w2, ew2, hf⟩ := zbd2_e hf
    refine z_cvi (As := [.int v1, .int a1, .int a2]) (rest := []) hC zo_mod rfl (c_X4_sets l G w v1 a1 a2 ew2) zw_ml_X4_200 zy_X4_sets ⟨rfl, rfl, Nat.le_of_ble_eq_true rfl, Nat.le_of_ble_eq_true rfl⟩ rfl rfl (Nat.le_of_ble_eq_true rfl) dX4_teach_28 ?_
    obtain ⟨rfl, rfl⟩ := zso2 hf
    exact z_iret hC dX4_teach_31
  obtain ⟨j25, hj25, hf⟩ := zjn0_e hf
  have hJ25 : j25 = some (r, wz) → Z G p l e rm_X4_teach s m args below meth c (MQ below (zQ G (some (.int r)) wz) args s 0 0 (zA G)) 3 25 [(1, .int a1), (2, .int a2)] [.ref (zad G 56)] w := by
    intro hf
    replace hf := hj25  hf
    refine z_iconst hC dX4_teach_25 (v := 0) rfl ?_
    exact hJ26 _ hf
  refine z_if_eq (tgt := 25) hC dX4_teach_6 (by decide) (fun h4 => ?_) (fun h4 => ?_)
  · replace hf := zif_t h4 hf
    refine z_lv [1, 2] rfl ?_
    exact hJ25 hf
  replace hf := zif_f h4 hf
  refine z_iload_n hC dX4_teach_9 2 rfl rfl ?_
  refine z_i2l hC dX4_teach_10 ?_
  refine z_lconst hC dX4_teach_11 (v := 0) rfl ?_
  refine z_ldc2 hC zw_cst_X4_198 dX4_teach_12 ?_
  refine z_csi (As := [.long (a2.toInt64), .long (0 : Int64), .long (4 : Int64)]) (rest := [.ref (zad G 56)]) hC (c_X4_in l G w (a2.toInt64) (0 : Int64) (4 : Int64)) zw_ml_X4_59 zy_X4_in ⟨rfl, rfl, Nat.le_of_ble_eq_true rfl, Nat.le_of_ble_eq_true rfl⟩ rfl rfl (Nat.le_of_ble_eq_true rfl) dX4_teach_15 ?_
  refine z_if_eq (tgt := 25) hC dX4_teach_18 (by decide) (fun h5 => ?_) (fun h5 => ?_)
  · replace hf := zif_t h5 hf
    refine z_lv [1, 2] rfl ?_
    exact hJ25 hf
  replace hf := zif_f h5 hf
  refine z_iconst hC dX4_teach_21 (v := 1) rfl ?_
  refine z_goto (tgt := 26) hC dX4_teach_22 (by decide) ?_
  refine z_lv [1, 2] rfl ?_
  exact hJ26 _ hf
theorem zy_X4_teach : zYV yX4_teach cX4_teach 3 (some .int) RX4 2 := ⟨zw_cd_X4_teach, zw_im_X4_teach, zw_sel_X4_teach, zw_ini_X4, by decide +kernel⟩
abbrev rm_X4_text : Room := { frames := 5, cells := 0, slots := 0, locals := 112 }
def b_X4_text_146 (j204 : zW → Option (Int32 × zW)) (k146 : Int32 → zW → Option (Int32 × zW)) (v26 : Int32) (w27 : zW) : Option (Int32 × zW) :=
  if (20 : Int32) ≤ v26 then
    j204 w27
  else
  zg (zin v26 20) <|
  zg (zin v26 120) <|
  zlet (zup w27 57 (zx v26) (w27 60 (zx v26))) fun w31 =>
  zg (zin (zrem v26 (4 : Int32)) 4) <|
  zg (zin (zrem v26 (4 : Int32)) 4) <|
  zlet (zup w31 58 (zx (zrem v26 (4 : Int32))) (w31 61 (zx (zrem v26 (4 : Int32))))) fun w34 =>
  zg (zin (zrem v26 (6 : Int32)) 6) <|
  zg (zin (zrem v26 (6 : Int32)) 6) <|
  zlet (zup w34 59 (zx (zrem v26 (6 : Int32))) (w34 62 (zx (zrem v26 (6 : Int32))))) fun w37 =>
  zlet (v26 + (1 : Int32)) fun v38 =>
  k146 v38 w37
def b_X4_text_68 (j92 : Int32 → zW → Option (Int32 × zW)) (k68 : Int32 → zW → Option (Int32 × zW)) (v42 : Int32) (w43 : zW) : Option (Int32 × zW) :=
  if (w43 56 20) = (0 : Int32) then
    if (w43 56 24) = (0 : Int32) then
      j92 v42 w43
    else
    zbd (f_X4_readLine w43) fun w46 =>
    zlet (v42 + (1 : Int32)) fun v47 =>
    k68 v47 w46
  else
    j92 v42 w43
def b_X4_text_45 (j64 : zW → Option (Int32 × zW)) (k45 : Int32 → zW → Option (Int32 × zW)) (v48 : Int32) (w49 : zW) : Option (Int32 × zW) :=
  if (20 : Int32) ≤ v48 then
    j64 w49
  else
  zg (zin v48 20) <|
  zlet (zup w49 60 (zx v48) (0 : Int32)) fun w52 =>
  zlet (v48 + (1 : Int32)) fun v53 =>
  k45 v53 w52
def f_X4_text (w : zW) : Option (Int32 × zW) :=
  zlet (zup w 56 20 (0 : Int32)) fun w1 =>
  zlet (zup w1 56 22 (0 : Int32)) fun w2 =>
  zlet (zup w2 56 11 (0 : Int32)) fun w3 =>
  zlet (zup w3 56 12 (0 : Int32)) fun w4 =>
  zlet (zup w4 56 13 (20 : Int32)) fun w5 =>
  zlet (zup w5 56 14 (0 : Int32)) fun w6 =>
  zlet (zup w6 56 15 (0 : Int32)) fun w7 =>
  zlet (zup w7 56 16 (-1 : Int32)) fun w8 =>
  zjn1 (fun (w9 : zW) =>
    zbd (f_X4_step w9) fun w10 =>
    zjn2 (fun (v11 : Int32) (w12 : zW) =>
      zjn1 (fun (w13 : zW) =>
        zlet (zup w13 56 18 (0 : Int32)) fun w14 =>
        zlet (zup w14 56 19 (w14 56 20)) fun w15 =>
        if (w15 56 20) ≤ (0 : Int32) then
          zjn1 (fun (w17 : zW) =>
            zlet (zup w17 56 2 (w17 56 11)) fun w18 =>
            zlet (zup w18 56 4 (w18 56 12)) fun w19 =>
            zlet (zup w19 56 5 (w19 56 13)) fun w20 =>
            zlet (zup w20 56 6 (0 : Int32)) fun w21 =>
            zlet (zup w21 56 7 (w21 56 2)) fun w22 =>
            zlet (zup w22 56 30 (0 : Int32)) fun w23 =>
            zlet (zup w23 67 0 (vp_nar .boolean (0 : Int32))) fun w24 =>
            zlet (zup w24 67 1 (vp_nar .boolean (0 : Int32))) fun w25 =>
            some (v11, w25))
          (fun (j204 : zW → Option (Int32 × zW)) =>
          zfix2 (b_X4_text_146 j204) 100000 (0 : Int32) w15)
        else
        some ((-10 : Int32) - (w15 56 21), w15))
      (fun (j116 : zW → Option (Int32 × zW)) =>
      if (w12 56 20) = (0 : Int32) then
        if (w12 56 16) < (w12 56 12) then
          j116 w12
        else
        zbd (f_X4_fails w12 (6 : Int32)) fun w41 =>
        j116 w41
      else
        j116 w12))
    (fun (j92 : Int32 → zW → Option (Int32 × zW)) =>
    zfix2 (b_X4_text_68 j92) 100000 (0 : Int32) w10))
  (fun (j64 : zW → Option (Int32 × zW)) =>
  zfix2 (b_X4_text_45 j64) 100000 (0 : Int32) w8)
set_option maxRecDepth 100000 in
set_option maxHeartbeats 4000000 in
theorem c_X4_text (l : Launch) (G : zG) (w : zW) {r : Int32} {wz : zW} (hf : f_X4_text w = some (r, wz)) : zMet l G yX4_text cX4_text 3 (some .int) rm_X4_text [.ref (zad G 56)] w (some (.int r)) wz := by
  refine z_start (own := RX4) (by decide) rfl (Nat.le_of_ble_eq_true rfl) (lv := [(0, .ref (zad G 56))]) rfl ?_
  intro p e s m args below meth c hC
  unfold f_X4_text at hf
  refine z_aload_n hC dX4_text_0 0 rfl rfl ?_
  refine z_iconst hC dX4_text_1 (v := 0) rfl ?_
  obtain ⟨w1, ew1, hf⟩ := zlet_e hf
  refine z_put4 hC 20 (by decide) rfl rfl zw_fl_X4_66 rfl ew1 dX4_text_2 ?_
  refine z_aload_n hC dX4_text_5 0 rfl rfl ?_
  refine z_iconst hC dX4_text_6 (v := 0) rfl ?_
  obtain ⟨w2, ew2, hf⟩ := zlet_e hf
  refine z_put4 hC 22 (by decide) rfl rfl zw_fl_X4_78 rfl ew2 dX4_text_7 ?_
  refine z_aload_n hC dX4_text_10 0 rfl rfl ?_
  refine z_iconst hC dX4_text_11 (v := 0) rfl ?_
  obtain ⟨w3, ew3, hf⟩ := zlet_e hf
  refine z_put4 hC 11 (by decide) rfl rfl zw_fl_X4_117 rfl ew3 dX4_text_12 ?_
  refine z_aload_n hC dX4_text_15 0 rfl rfl ?_
  refine z_iconst hC dX4_text_16 (v := 0) rfl ?_
  obtain ⟨w4, ew4, hf⟩ := zlet_e hf
  refine z_put4 hC 12 (by decide) rfl rfl zw_fl_X4_120 rfl ew4 dX4_text_17 ?_
  refine z_aload_n hC dX4_text_20 0 rfl rfl ?_
  refine z_bipush hC dX4_text_21 (v := 20) rfl ?_
  obtain ⟨w5, ew5, hf⟩ := zlet_e hf
  refine z_put4 hC 13 (by decide) rfl rfl zw_fl_X4_111 rfl ew5 dX4_text_23 ?_
  refine z_aload_n hC dX4_text_26 0 rfl rfl ?_
  refine z_iconst hC dX4_text_27 (v := 0) rfl ?_
  obtain ⟨w6, ew6, hf⟩ := zlet_e hf
  refine z_put4 hC 14 (by decide) rfl rfl zw_fl_X4_135 rfl ew6 dX4_text_28 ?_
  refine z_aload_n hC dX4_text_31 0 rfl rfl ?_
  refine z_iconst hC dX4_text_32 (v := 0) rfl ?_
  obtain ⟨w7, ew7, hf⟩ := zlet_e hf
  refine z_put4 hC 15 (by decide) rfl rfl zw_fl_X4_125 rfl ew7 dX4_text_33 ?_
  refine z_aload_n hC dX4_text_36 0 rfl rfl ?_
  refine z_iconst hC dX4_text_37 (v := -1) rfl ?_
  obtain ⟨w8, ew8, hf⟩ := zlet_e hf
  refine z_put4 hC 16 (by decide) rfl rfl zw_fl_X4_128 rfl ew8 dX4_text_38 ?_
  refine z_iconst hC dX4_text_41 (v := 0) rfl ?_
  refine z_istore_n (lv' := [(1, .int (0 : Int32)), (0, .ref (zad G 56))]) hC dX4_text_42 rfl (by decide) rfl ?_
  refine z_iconst hC dX4_text_43 (v := 0) rfl ?_
  refine z_istore_n (lv' := [(2, .int (0 : Int32)), (1, .int (0 : Int32)), (0, .ref (zad G 56))]) hC dX4_text_44 rfl (by decide) rfl ?_
  obtain ⟨j64, hj64, hf⟩ := zjn1_e hf
  have hJ64 : ∀ (w9 : zW), j64 w9 = some (r, wz) → Z G p l e rm_X4_text s m args below meth c (MQ below (zQ G (some (.int r)) wz) args s 0 0 (zA G)) 3 64 [(0, .ref (zad G 56)), (1, .int (0 : Int32))] [] w9 := by
    intro w9 hf
    replace hf := hj64 w9 hf
    refine z_aload_n hC dX4_text_64 0 rfl rfl ?_
    obtain ⟨w10, ew10, hf⟩ := zbd_e hf
    refine z_cvv (As := []) (rest := []) hC zo_mod rfl (c_X4_step l G w9 ew10) zw_ml_X4_100 zy_X4_step ⟨rfl, rfl, Nat.le_of_ble_eq_true rfl, Nat.le_of_ble_eq_true rfl⟩ rfl rfl (Nat.le_of_ble_eq_true rfl) dX4_text_65 ?_
    obtain ⟨j92, hj92, hf⟩ := zjn2_e hf
    have hJ92 : ∀ (v11 : Int32) (w12 : zW), j92 v11 w12 = some (r, wz) → Z G p l e rm_X4_text s m args below meth c (MQ below (zQ G (some (.int r)) wz) args s 0 0 (zA G)) 3 92 [(0, .ref (zad G 56)), (1, .int v11)] [] w12 := by
      intro v11 w12 hf
      replace hf := hj92 v11 w12 hf
      refine z_aload_n hC dX4_text_92 0 rfl rfl ?_
      refine z_get4 hC 20 (by decide) zw_fl_X4_66 (v := .int (w12 56 20)) rfl dX4_text_93 ?_
      obtain ⟨j116, hj116, hf⟩ := zjn1_e hf
      have hJ116 : ∀ (w13 : zW), j116 w13 = some (r, wz) → Z G p l e rm_X4_text s m args below meth c (MQ below (zQ G (some (.int r)) wz) args s 0 0 (zA G)) 3 116 [(0, .ref (zad G 56)), (1, .int v11)] [] w13 := by
        intro w13 hf
        replace hf := hj116 w13 hf
        refine z_aload_n hC dX4_text_116 0 rfl rfl ?_
        refine z_iconst hC dX4_text_117 (v := 0) rfl ?_
        obtain ⟨w14, ew14, hf⟩ := zlet_e hf
        refine z_put4 hC 18 (by decide) rfl rfl zw_fl_X4_63 rfl ew14 dX4_text_118 ?_
        refine z_aload_n hC dX4_text_121 0 rfl rfl ?_
        refine z_aload_n hC dX4_text_122 0 rfl rfl ?_
        refine z_get4 hC 20 (by decide) zw_fl_X4_66 (v := .int (w14 56 20)) rfl dX4_text_123 ?_
        obtain ⟨w15, ew15, hf⟩ := zlet_e hf
        refine z_put4 hC 19 (by decide) rfl rfl zw_fl_X4_147 rfl ew15 dX4_text_126 ?_
        refine z_aload_n hC dX4_text_129 0 rfl rfl ?_
        refine z_get4 hC 20 (by decide) zw_fl_X4_66 (v := .int (w15 56 20)) rfl dX4_text_130 ?_
        refine z_if_le (tgt := 144) hC dX4_text_133 (by decide) (fun h16 => ?_) (fun h16 => ?_)
        · replace hf := zif_t h16 hf
          refine z_iconst hC dX4_text_144 (v := 0) rfl ?_
          refine z_istore_n (lv' := [(2, .int (0 : Int32)), (0, .ref (zad G 56)), (1, .int v11)]) hC dX4_text_145 rfl (by decide) rfl ?_
          obtain ⟨j204, hj204, hf⟩ := zjn1_e hf
          have hJ204 : ∀ (w17 : zW), j204 w17 = some (r, wz) → Z G p l e rm_X4_text s m args below meth c (MQ below (zQ G (some (.int r)) wz) args s 0 0 (zA G)) 3 204 [(0, .ref (zad G 56)), (1, .int v11)] [] w17 := by
            intro w17 hf
            replace hf := hj204 w17 hf
            refine z_aload_n hC dX4_text_204 0 rfl rfl ?_
            refine z_aload_n hC dX4_text_205 0 rfl rfl ?_
            refine z_get4 hC 11 (by decide) zw_fl_X4_117 (v := .int (w17 56 11)) rfl dX4_text_206 ?_
            obtain ⟨w18, ew18, hf⟩ := zlet_e hf
            refine z_put4 hC 2 (by decide) rfl rfl zw_fl_X4_150 rfl ew18 dX4_text_209 ?_
            refine z_aload_n hC dX4_text_212 0 rfl rfl ?_
            refine z_aload_n hC dX4_text_213 0 rfl rfl ?_
            refine z_get4 hC 12 (by decide) zw_fl_X4_120 (v := .int (w18 56 12)) rfl dX4_text_214 ?_
            obtain ⟨w19, ew19, hf⟩ := zlet_e hf
            refine z_put4 hC 4 (by decide) rfl rfl zw_fl_X4_153 rfl ew19 dX4_text_217 ?_
            refine z_aload_n hC dX4_text_220 0 rfl rfl ?_
            refine z_aload_n hC dX4_text_221 0 rfl rfl ?_
            refine z_get4 hC 13 (by decide) zw_fl_X4_111 (v := .int (w19 56 13)) rfl dX4_text_222 ?_
            obtain ⟨w20, ew20, hf⟩ := zlet_e hf
            refine z_put4 hC 5 (by decide) rfl rfl zw_fl_X4_19 rfl ew20 dX4_text_225 ?_
            refine z_aload_n hC dX4_text_228 0 rfl rfl ?_
            refine z_iconst hC dX4_text_229 (v := 0) rfl ?_
            obtain ⟨w21, ew21, hf⟩ := zlet_e hf
            refine z_put4 hC 6 (by decide) rfl rfl zw_fl_X4_156 rfl ew21 dX4_text_230 ?_
            refine z_aload_n hC dX4_text_233 0 rfl rfl ?_
            refine z_aload_n hC dX4_text_234 0 rfl rfl ?_
            refine z_get4 hC 2 (by decide) zw_fl_X4_150 (v := .int (w21 56 2)) rfl dX4_text_235 ?_
            obtain ⟨w22, ew22, hf⟩ := zlet_e hf
            refine z_put4 hC 7 (by decide) rfl rfl zw_fl_X4_159 rfl ew22 dX4_text_238 ?_
            refine z_aload_n hC dX4_text_241 0 rfl rfl ?_
            refine z_iconst hC dX4_text_242 (v := 0) rfl ?_
            obtain ⟨w23, ew23, hf⟩ := zlet_e hf
            refine z_put4 hC 30 (by decide) rfl rfl zw_fl_X4_162 rfl ew23 dX4_text_243 ?_
            refine z_aload_n hC dX4_text_246 0 rfl rfl ?_
            refine z_get4 hC 31 (by decide) zw_fl_X4_44 (v := .ref (zad G 67)) rfl dX4_text_247 ?_
            refine z_iconst hC dX4_text_250 (v := 0) rfl ?_
            refine z_iconst hC dX4_text_251 (v := 0) rfl ?_
            obtain ⟨w24, ew24, hf⟩ := zlet_e hf
            refine z_zast hC za_67 (by decide) (j := 0) (by decide) ew24 dX4_text_252 ?_
            refine z_aload_n hC dX4_text_253 0 rfl rfl ?_
            refine z_get4 hC 31 (by decide) zw_fl_X4_44 (v := .ref (zad G 67)) rfl dX4_text_254 ?_
            refine z_iconst hC dX4_text_257 (v := 1) rfl ?_
            refine z_iconst hC dX4_text_258 (v := 0) rfl ?_
            obtain ⟨w25, ew25, hf⟩ := zlet_e hf
            refine z_zast hC za_67 (by decide) (j := 1) (by decide) ew25 dX4_text_259 ?_
            refine z_iload_n hC dX4_text_260 1 rfl rfl ?_
            obtain ⟨rfl, rfl⟩ := zso2 hf
            exact z_iret hC dX4_text_261
          have hL146 : ∀ (n : Nat) (v26 : Int32) (w27 : zW), zfix2 (b_X4_text_146 j204) n v26 w27 = some (r, wz) → Z G p l e rm_X4_text s m args below meth c (MQ below (zQ G (some (.int r)) wz) args s 0 0 (zA G)) 3 146 [(0, .ref (zad G 56)), (1, .int v11), (2, .int v26)] [] w27 := by
            intro n
            induction n with
            | zero => intro v26 w27 hf; exact (zfix2_0 hf).elim
            | succ n ih146 =>
              intro v26 w27 hf
              replace hf := zfix2_e hf
              unfold b_X4_text_146 at hf
              refine z_iload_n hC dX4_text_146 2 rfl rfl ?_
              refine z_bipush hC dX4_text_147 (v := 20) rfl ?_
              refine z_icmp_ge (tgt := 204) hC dX4_text_149 (by decide) (fun h28 => ?_) (fun h28 => ?_)
              · replace hf := zif_t h28 hf
                refine z_lv [0, 1] rfl ?_
                exact hJ204 _ hf
              replace hf := zif_f h28 hf
              refine z_aload_n hC dX4_text_152 0 rfl rfl ?_
              refine z_get4 hC 0 (by decide) zw_fl_X4_7 (v := .ref (zad G 57)) rfl dX4_text_153 ?_
              refine z_iload_n hC dX4_text_156 2 rfl rfl ?_
              refine z_aload_n hC dX4_text_157 0 rfl rfl ?_
              refine z_get4 hC 8 (by decide) zw_fl_X4_23 (v := .ref (zad G 60)) rfl dX4_text_158 ?_
              refine z_iload_n hC dX4_text_161 2 rfl rfl ?_
              obtain ⟨hg29, hf⟩ := zg_e hf
              refine z_iald hC za_60 hg29 rfl dX4_text_162 ?_
              obtain ⟨hg30, hf⟩ := zg_e hf
              obtain ⟨w31, ew31, hf⟩ := zlet_e hf
              refine z_iast hC za_57 hg30 rfl ew31 dX4_text_163 ?_
              refine z_aload_n hC dX4_text_164 0 rfl rfl ?_
              refine z_get4 hC 1 (by decide) zw_fl_X4_13 (v := .ref (zad G 58)) rfl dX4_text_165 ?_
              refine z_iload_n hC dX4_text_168 2 rfl rfl ?_
              refine z_iconst hC dX4_text_169 (v := 4) rfl ?_
              refine z_irem hC dX4_text_170 (by decide) ?_
              refine z_aload_n hC dX4_text_171 0 rfl rfl ?_
              refine z_get4 hC 9 (by decide) zw_fl_X4_26 (v := .ref (zad G 61)) rfl dX4_text_172 ?_
              refine z_iload_n hC dX4_text_175 2 rfl rfl ?_
              refine z_iconst hC dX4_text_176 (v := 4) rfl ?_
              refine z_irem hC dX4_text_177 (by decide) ?_
              obtain ⟨hg32, hf⟩ := zg_e hf
              refine z_iald hC za_61 hg32 rfl dX4_text_178 ?_
              obtain ⟨hg33, hf⟩ := zg_e hf
              obtain ⟨w34, ew34, hf⟩ := zlet_e hf
              refine z_iast hC za_58 hg33 rfl ew34 dX4_text_179 ?_
              refine z_aload_n hC dX4_text_180 0 rfl rfl ?_
              refine z_get4 hC 3 (by decide) zw_fl_X4_16 (v := .ref (zad G 59)) rfl dX4_text_181 ?_
              refine z_iload_n hC dX4_text_184 2 rfl rfl ?_
              refine z_bipush hC dX4_text_185 (v := 6) rfl ?_
              refine z_irem hC dX4_text_187 (by decide) ?_
              refine z_aload_n hC dX4_text_188 0 rfl rfl ?_
              refine z_get4 hC 10 (by decide) zw_fl_X4_29 (v := .ref (zad G 62)) rfl dX4_text_189 ?_
              refine z_iload_n hC dX4_text_192 2 rfl rfl ?_
              refine z_bipush hC dX4_text_193 (v := 6) rfl ?_
              refine z_irem hC dX4_text_195 (by decide) ?_
              obtain ⟨hg35, hf⟩ := zg_e hf
              refine z_iald hC za_62 hg35 rfl dX4_text_196 ?_
              obtain ⟨hg36, hf⟩ := zg_e hf
              obtain ⟨w37, ew37, hf⟩ := zlet_e hf
              refine z_iast hC za_59 hg36 rfl ew37 dX4_text_197 ?_
              obtain ⟨v38, ev38, hf⟩ := zlet_e hf
              refine z_iinc (v := v38) (lv' := [(2, .int v38), (0, .ref (zad G 56)), (1, .int v11)]) hC dX4_text_198 2 rfl (by rw [ev38]; rfl) (by decide) rfl ?_
              refine z_goto (tgt := 146) hC dX4_text_201 (by decide) ?_
              refine z_lv [1, 2, 0] rfl ?_
              exact ih146 _ _ hf
          refine z_lv [1, 2, 0] rfl ?_
          exact hL146 _ _ _ hf
        replace hf := zif_f h16 hf
        refine z_bipush hC dX4_text_136 (v := -10) rfl ?_
        refine z_aload_n hC dX4_text_138 0 rfl rfl ?_
        refine z_get4 hC 21 (by decide) zw_fl_X4_72 (v := .int (w15 56 21)) rfl dX4_text_139 ?_
        refine z_isub hC dX4_text_142 ?_
        obtain ⟨rfl, rfl⟩ := zso2 hf
        exact z_iret hC dX4_text_143
      refine z_if_ne (tgt := 116) hC dX4_text_96 (by decide) (fun h39 => ?_) (fun h39 => ?_)
      · replace hf := zif_f h39 hf
        exact hJ116 _ hf
      replace hf := zif_t h39 hf
      refine z_aload_n hC dX4_text_99 0 rfl rfl ?_
      refine z_get4 hC 16 (by decide) zw_fl_X4_128 (v := .int (w12 56 16)) rfl dX4_text_100 ?_
      refine z_aload_n hC dX4_text_103 0 rfl rfl ?_
      refine z_get4 hC 12 (by decide) zw_fl_X4_120 (v := .int (w12 56 12)) rfl dX4_text_104 ?_
      refine z_icmp_lt (tgt := 116) hC dX4_text_107 (by decide) (fun h40 => ?_) (fun h40 => ?_)
      · replace hf := zif_t h40 hf
        exact hJ116 _ hf
      replace hf := zif_f h40 hf
      refine z_aload_n hC dX4_text_110 0 rfl rfl ?_
      refine z_bipush hC dX4_text_111 (v := 6) rfl ?_
      obtain ⟨w41, ew41, hf⟩ := zbd_e hf
      refine z_cvv (As := [.int (6 : Int32)]) (rest := []) hC zo_mod rfl (c_X4_fails l G w12 (6 : Int32) ew41) zw_ml_X4_96 zy_X4_fails ⟨rfl, rfl, Nat.le_of_ble_eq_true rfl, Nat.le_of_ble_eq_true rfl⟩ rfl rfl (Nat.le_of_ble_eq_true rfl) dX4_text_113 ?_
      exact hJ116 _ hf
    have hL68 : ∀ (n : Nat) (v42 : Int32) (w43 : zW), zfix2 (b_X4_text_68 j92) n v42 w43 = some (r, wz) → Z G p l e rm_X4_text s m args below meth c (MQ below (zQ G (some (.int r)) wz) args s 0 0 (zA G)) 3 68 [(0, .ref (zad G 56)), (1, .int v42)] [] w43 := by
      intro n
      induction n with
      | zero => intro v42 w43 hf; exact (zfix2_0 hf).elim
      | succ n ih68 =>
        intro v42 w43 hf
        replace hf := zfix2_e hf
        unfold b_X4_text_68 at hf
        refine z_aload_n hC dX4_text_68 0 rfl rfl ?_
        refine z_get4 hC 20 (by decide) zw_fl_X4_66 (v := .int (w43 56 20)) rfl dX4_text_69 ?_
        refine z_if_ne (tgt := 92) hC dX4_text_72 (by decide) (fun h44 => ?_) (fun h44 => ?_)
        · replace hf := zif_f h44 hf
          exact hJ92 _ _ hf
        replace hf := zif_t h44 hf
        refine z_aload_n hC dX4_text_75 0 rfl rfl ?_
        refine z_get4 hC 24 (by decide) zw_fl_X4_75 (v := .int (w43 56 24)) rfl dX4_text_76 ?_
        refine z_if_eq (tgt := 92) hC dX4_text_79 (by decide) (fun h45 => ?_) (fun h45 => ?_)
        · replace hf := zif_t h45 hf
          exact hJ92 _ _ hf
        replace hf := zif_f h45 hf
        refine z_aload_n hC dX4_text_82 0 rfl rfl ?_
        obtain ⟨w46, ew46, hf⟩ := zbd_e hf
        refine z_cvv (As := []) (rest := []) hC zo_mod rfl (c_X4_readLine l G w43 ew46) zw_ml_X4_144 zy_X4_readLine ⟨rfl, rfl, Nat.le_of_ble_eq_true rfl, Nat.le_of_ble_eq_true rfl⟩ rfl rfl (Nat.le_of_ble_eq_true rfl) dX4_text_83 ?_
        obtain ⟨v47, ev47, hf⟩ := zlet_e hf
        refine z_iinc (v := v47) (lv' := [(1, .int v47), (0, .ref (zad G 56))]) hC dX4_text_86 1 rfl (by rw [ev47]; rfl) (by decide) rfl ?_
        refine z_goto (tgt := 68) hC dX4_text_89 (by decide) ?_
        refine z_lv [1, 0] rfl ?_
        exact ih68 _ _ hf
    exact hL68 _ _ _ hf
  have hL45 : ∀ (n : Nat) (v48 : Int32) (w49 : zW), zfix2 (b_X4_text_45 j64) n v48 w49 = some (r, wz) → Z G p l e rm_X4_text s m args below meth c (MQ below (zQ G (some (.int r)) wz) args s 0 0 (zA G)) 3 45 [(0, .ref (zad G 56)), (1, .int (0 : Int32)), (2, .int v48)] [] w49 := by
    intro n
    induction n with
    | zero => intro v48 w49 hf; exact (zfix2_0 hf).elim
    | succ n ih45 =>
      intro v48 w49 hf
      replace hf := zfix2_e hf
      unfold b_X4_text_45 at hf
      refine z_iload_n hC dX4_text_45 2 rfl rfl ?_
      refine z_bipush hC dX4_text_46 (v := 20) rfl ?_
      refine z_icmp_ge (tgt := 64) hC dX4_text_48 (by decide) (fun h50 => ?_) (fun h50 => ?_)
      · replace hf := zif_t h50 hf
        refine z_lv [0, 1] rfl ?_
        exact hJ64 _ hf
      replace hf := zif_f h50 hf
      refine z_aload_n hC dX4_text_51 0 rfl rfl ?_
      refine z_get4 hC 8 (by decide) zw_fl_X4_23 (v := .ref (zad G 60)) rfl dX4_text_52 ?_
      refine z_iload_n hC dX4_text_55 2 rfl rfl ?_
      refine z_iconst hC dX4_text_56 (v := 0) rfl ?_
      obtain ⟨hg51, hf⟩ := zg_e hf
      obtain ⟨w52, ew52, hf⟩ := zlet_e hf
      refine z_iast hC za_60 hg51 rfl ew52 dX4_text_57 ?_
      obtain ⟨v53, ev53, hf⟩ := zlet_e hf
      refine z_iinc (v := v53) (lv' := [(2, .int v53), (0, .ref (zad G 56)), (1, .int (0 : Int32))]) hC dX4_text_58 2 rfl (by rw [ev53]; rfl) (by decide) rfl ?_
      refine z_goto (tgt := 45) hC dX4_text_61 (by decide) ?_
      refine z_lv [1, 2, 0] rfl ?_
      exact ih45 _ _ hf
  refine z_lv [2, 1, 0] rfl ?_
  exact hL45 _ _ _ hf
theorem zy_X4_text : zYV yX4_text cX4_text 3 (some .int) RX4 0 := ⟨zw_cd_X4_text, zw_im_X4_text, zw_sel_X4_text, zw_ini_X4, by decide +kernel⟩
abbrev rm_X4_torn : Room := { frames := 0, cells := 0, slots := 0, locals := 0 }
def f_X4_torn (w : zW) : Int32 :=
  w 56 35
set_option maxRecDepth 100000 in
set_option maxHeartbeats 4000000 in
theorem c_X4_torn (l : Launch) (G : zG) (w : zW) : zMet l G yX4_torn cX4_torn 1 (some .int) rm_X4_torn [.ref (zad G 56)] w (some (.int (f_X4_torn w))) w := by
  generalize hf : f_X4_torn w = r
  refine z_start (own := RX4) (by decide) rfl (Nat.le_of_ble_eq_true rfl) (lv := [(0, .ref (zad G 56))]) rfl ?_
  intro p e s m args below meth c hC
  unfold f_X4_torn at hf
  refine z_aload_n hC dX4_torn_0 0 rfl rfl ?_
  refine z_get4 hC 35 (by decide) zw_fl_X4_285 (v := .int (w 56 35)) rfl dX4_torn_1 ?_
  subst hf
  exact z_iret hC dX4_torn_4
theorem zy_X4_torn : zYV yX4_torn cX4_torn 1 (some .int) RX4 0 := ⟨zw_cd_X4_torn, zw_im_X4_torn, zw_sel_X4_torn, zw_ini_X4, by decide +kernel⟩
abbrev rm_X4_well : Room := { frames := 2, cells := 0, slots := 0, locals := 46 }
def f_X4_well (w : zW) (a1 : Int32) (a2 : Int32) : Option Int32 :=
  if (f_X4_isWell w a1) = (0 : Int32) then
    some (-1 : Int32)
  else
    if a2 = (0 : Int32) then
      zg (zin ((2 : Int32) * a1) 6) <|
      some (w 59 (zx ((2 : Int32) * a1)))
    else
    if a2 = (1 : Int32) then
      zg (zin ((17 : Int32) + a1) 120) <|
      some (w 57 (zx ((17 : Int32) + a1)))
    else
    if a2 = (2 : Int32) then
      zg (zin (((2 : Int32) * a1) + (1 : Int32)) 6) <|
      some (w 59 (zx (((2 : Int32) * a1) + (1 : Int32))))
    else
    if a2 = (3 : Int32) then
      zg (zin ((14 : Int32) + a1) 120) <|
      some ((1 : Int32) - (w 57 (zx ((14 : Int32) + a1))))
    else
    some (-1 : Int32)
set_option maxRecDepth 100000 in
set_option maxHeartbeats 4000000 in
theorem c_X4_well (l : Launch) (G : zG) (w : zW) (a1 : Int32) (a2 : Int32) {r : Int32} (hf : f_X4_well w a1 a2 = some r) : zMet l G yX4_well cX4_well 3 (some .int) rm_X4_well [.ref (zad G 56), .int a1, .int a2] w (some (.int r)) w := by
  refine z_start (own := RX4) (by decide) rfl (Nat.le_of_ble_eq_true rfl) (lv := [(0, .ref (zad G 56)), (1, .int a1), (2, .int a2)]) rfl ?_
  intro p e s m args below meth c hC
  unfold f_X4_well at hf
  refine z_aload_n hC dX4_well_0 0 rfl rfl ?_
  refine z_iload_n hC dX4_well_1 1 rfl rfl ?_
  refine z_cvi (As := [.int a1]) (rest := []) hC zo_mod rfl (c_X4_isWell l G w a1) zw_ml_X4_184 zy_X4_isWell ⟨rfl, rfl, Nat.le_of_ble_eq_true rfl, Nat.le_of_ble_eq_true rfl⟩ rfl rfl (Nat.le_of_ble_eq_true rfl) dX4_well_2 ?_
  refine z_if_ne (tgt := 10) hC dX4_well_5 (by decide) (fun h1 => ?_) (fun h1 => ?_)
  · replace hf := zif_f h1 hf
    refine z_iload_n hC dX4_well_10 2 rfl rfl ?_
    by_cases h2 : a2 = (0 : Int32)
    · replace hf := zif_t h2 hf
      refine z_tabIn (tgt := 40) hC dX4_well_11 (by rw [h2]; decide) (by rw [h2]; decide) (by rw [h2]; rfl) (by decide) ?_
      refine z_aload_n hC dX4_well_40 0 rfl rfl ?_
      refine z_get4 hC 3 (by decide) zw_fl_X4_16 (v := .ref (zad G 59)) rfl dX4_well_41 ?_
      refine z_iconst hC dX4_well_44 (v := 2) rfl ?_
      refine z_iload_n hC dX4_well_45 1 rfl rfl ?_
      refine z_imul hC dX4_well_46 ?_
      obtain ⟨hg3, hf⟩ := zg_e hf
      refine z_iald hC za_59 hg3 rfl dX4_well_47 ?_
      obtain rfl := zso1 hf
      exact z_iret hC dX4_well_48
    replace hf := zif_f h2 hf
    by_cases h4 : a2 = (1 : Int32)
    · replace hf := zif_t h4 hf
      refine z_tabIn (tgt := 49) hC dX4_well_11 (by rw [h4]; decide) (by rw [h4]; decide) (by rw [h4]; rfl) (by decide) ?_
      refine z_aload_n hC dX4_well_49 0 rfl rfl ?_
      refine z_get4 hC 0 (by decide) zw_fl_X4_7 (v := .ref (zad G 57)) rfl dX4_well_50 ?_
      refine z_bipush hC dX4_well_53 (v := 17) rfl ?_
      refine z_iload_n hC dX4_well_55 1 rfl rfl ?_
      refine z_iadd hC dX4_well_56 ?_
      obtain ⟨hg5, hf⟩ := zg_e hf
      refine z_iald hC za_57 hg5 rfl dX4_well_57 ?_
      obtain rfl := zso1 hf
      exact z_iret hC dX4_well_58
    replace hf := zif_f h4 hf
    by_cases h6 : a2 = (2 : Int32)
    · replace hf := zif_t h6 hf
      refine z_tabIn (tgt := 59) hC dX4_well_11 (by rw [h6]; decide) (by rw [h6]; decide) (by rw [h6]; rfl) (by decide) ?_
      refine z_aload_n hC dX4_well_59 0 rfl rfl ?_
      refine z_get4 hC 3 (by decide) zw_fl_X4_16 (v := .ref (zad G 59)) rfl dX4_well_60 ?_
      refine z_iconst hC dX4_well_63 (v := 2) rfl ?_
      refine z_iload_n hC dX4_well_64 1 rfl rfl ?_
      refine z_imul hC dX4_well_65 ?_
      refine z_iconst hC dX4_well_66 (v := 1) rfl ?_
      refine z_iadd hC dX4_well_67 ?_
      obtain ⟨hg7, hf⟩ := zg_e hf
      refine z_iald hC za_59 hg7 rfl dX4_well_68 ?_
      obtain rfl := zso1 hf
      exact z_iret hC dX4_well_69
    replace hf := zif_f h6 hf
    by_cases h8 : a2 = (3 : Int32)
    · replace hf := zif_t h8 hf
      refine z_tabIn (tgt := 70) hC dX4_well_11 (by rw [h8]; decide) (by rw [h8]; decide) (by rw [h8]; rfl) (by decide) ?_
      refine z_iconst hC dX4_well_70 (v := 1) rfl ?_
      refine z_aload_n hC dX4_well_71 0 rfl rfl ?_
      refine z_get4 hC 0 (by decide) zw_fl_X4_7 (v := .ref (zad G 57)) rfl dX4_well_72 ?_
      refine z_bipush hC dX4_well_75 (v := 14) rfl ?_
      refine z_iload_n hC dX4_well_77 1 rfl rfl ?_
      refine z_iadd hC dX4_well_78 ?_
      obtain ⟨hg9, hf⟩ := zg_e hf
      refine z_iald hC za_57 hg9 rfl dX4_well_79 ?_
      refine z_isub hC dX4_well_80 ?_
      obtain rfl := zso1 hf
      exact z_iret hC dX4_well_81
    replace hf := zif_f h8 hf
    have nh2 := znt (k := 0) (by decide) h2
    have nh4 := znt (k := 1) (by decide) h4
    have nh6 := znt (k := 2) (by decide) h6
    have nh8 := znt (k := 3) (by decide) h8
    refine z_tabOut (tgt := 82) hC dX4_well_11 (by omega) (by decide) ?_
    refine z_iconst hC dX4_well_82 (v := -1) rfl ?_
    obtain rfl := zso1 hf
    exact z_iret hC dX4_well_83
  replace hf := zif_t h1 hf
  refine z_iconst hC dX4_well_8 (v := -1) rfl ?_
  obtain rfl := zso1 hf
  exact z_iret hC dX4_well_9
theorem zy_X4_well : zYV yX4_well cX4_well 3 (some .int) RX4 2 := ⟨zw_cd_X4_well, zw_im_X4_well, zw_sel_X4_well, zw_ini_X4, by decide +kernel⟩
abbrev rm_X4_wet : Room := { frames := 2, cells := 0, slots := 0, locals := 46 }
def f_X4_wet (w : zW) (a1 : Int32) (a2 : Int32) : Option (Int32 × zW) :=
  if (f_X4_isWell w a1) = (0 : Int32) then
    some ((-1 : Int32), w)
  else
  zjn1 (fun (v2 : Int32) =>
    zbd2 (f_X4_sets w (1 : Int32) ((14 : Int32) + a1) v2) fun v4 w3 =>
    some ((1 : Int32) - v4, w3))
  (fun (j24 : Int32 → Option (Int32 × zW)) =>
  if a2 = (0 : Int32) then
    j24 (1 : Int32)
  else
  j24 (0 : Int32))
set_option maxRecDepth 100000 in
set_option maxHeartbeats 4000000 in
theorem c_X4_wet (l : Launch) (G : zG) (w : zW) (a1 : Int32) (a2 : Int32) {r : Int32} {wz : zW} (hf : f_X4_wet w a1 a2 = some (r, wz)) : zMet l G yX4_wet cX4_wet 3 (some .int) rm_X4_wet [.ref (zad G 56), .int a1, .int a2] w (some (.int r)) wz := by
  refine z_start (own := RX4) (by decide) rfl (Nat.le_of_ble_eq_true rfl) (lv := [(0, .ref (zad G 56)), (1, .int a1), (2, .int a2)]) rfl ?_
  intro p e s m args below meth c hC
  unfold f_X4_wet at hf
  refine z_aload_n hC dX4_wet_0 0 rfl rfl ?_
  refine z_iload_n hC dX4_wet_1 1 rfl rfl ?_
  refine z_cvi (As := [.int a1]) (rest := []) hC zo_mod rfl (c_X4_isWell l G w a1) zw_ml_X4_184 zy_X4_isWell ⟨rfl, rfl, Nat.le_of_ble_eq_true rfl, Nat.le_of_ble_eq_true rfl⟩ rfl rfl (Nat.le_of_ble_eq_true rfl) dX4_wet_2 ?_
  refine z_if_eq (tgt := 31) hC dX4_wet_5 (by decide) (fun h1 => ?_) (fun h1 => ?_)
  · replace hf := zif_t h1 hf
    refine z_iconst hC dX4_wet_31 (v := -1) rfl ?_
    obtain ⟨rfl, rfl⟩ := zso2 hf
    exact z_iret hC dX4_wet_32
  replace hf := zif_f h1 hf
  refine z_iconst hC dX4_wet_8 (v := 1) rfl ?_
  refine z_aload_n hC dX4_wet_9 0 rfl rfl ?_
  refine z_iconst hC dX4_wet_10 (v := 1) rfl ?_
  refine z_bipush hC dX4_wet_11 (v := 14) rfl ?_
  refine z_iload_n hC dX4_wet_13 1 rfl rfl ?_
  refine z_iadd hC dX4_wet_14 ?_
  refine z_iload_n hC dX4_wet_15 2 rfl rfl ?_
  obtain ⟨j24, hj24, hf⟩ := zjn1_e hf
  have hJ24 : ∀ (v2 : Int32), j24 v2 = some (r, wz) → Z G p l e rm_X4_wet s m args below meth c (MQ below (zQ G (some (.int r)) wz) args s 0 0 (zA G)) 3 24 [] [.int v2, .int ((14 : Int32) + a1), .int (1 : Int32), .ref (zad G 56), .int (1 : Int32)] w := by
    intro v2 hf
    replace hf := hj24 v2 hf
    obtain ⟨v4, w3, ew3, hf⟩ := zbd2_e hf
    refine z_cvi (As := [.int (1 : Int32), .int ((14 : Int32) + a1), .int v2]) (rest := [.int (1 : Int32)]) hC zo_mod rfl (c_X4_sets l G w (1 : Int32) ((14 : Int32) + a1) v2 ew3) zw_ml_X4_200 zy_X4_sets ⟨rfl, rfl, Nat.le_of_ble_eq_true rfl, Nat.le_of_ble_eq_true rfl⟩ rfl rfl (Nat.le_of_ble_eq_true rfl) dX4_wet_24 ?_
    refine z_isub hC dX4_wet_27 ?_
    refine z_goto (tgt := 32) hC dX4_wet_28 (by decide) ?_
    obtain ⟨rfl, rfl⟩ := zso2 hf
    exact z_iret hC dX4_wet_32
  refine z_if_eq (tgt := 23) hC dX4_wet_16 (by decide) (fun h5 => ?_) (fun h5 => ?_)
  · replace hf := zif_t h5 hf
    refine z_iconst hC dX4_wet_23 (v := 1) rfl ?_
    refine z_lv [] rfl ?_
    exact hJ24 _ hf
  replace hf := zif_f h5 hf
  refine z_iconst hC dX4_wet_19 (v := 0) rfl ?_
  refine z_goto (tgt := 24) hC dX4_wet_20 (by decide) ?_
  refine z_lv [] rfl ?_
  exact hJ24 _ hf
theorem zy_X4_wet : zYV yX4_wet cX4_wet 3 (some .int) RX4 2 := ⟨zw_cd_X4_wet, zw_im_X4_wet, zw_sel_X4_wet, zw_ini_X4, by decide +kernel⟩
