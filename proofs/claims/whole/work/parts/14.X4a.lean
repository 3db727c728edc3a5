abbrev rm_X4_copies : Room := { frames := 0, cells := 0, slots := 0, locals := 0 }
def b_X4_copies_2 (a1 : Int32) (a2 : Int32) (k2 : Int32 → zW → Option zW) (v1 : Int32) (w2 : zW) : Option zW :=
  if (20 : Int32) ≤ v1 then
    some w2
  else
  zg (zin (a1 + v1) 120) <|
  zg (zin (a2 + v1) 120) <|
  zlet (zup w2 57 (zx (a2 + v1)) (w2 57 (zx (a1 + v1)))) fun w6 =>
  zlet (v1 + (1 : Int32)) fun v7 =>
  k2 v7 w6
def f_X4_copies (w : zW) (a1 : Int32) (a2 : Int32) : Option zW :=
  zfix2 (b_X4_copies_2 a1 a2) 100000 (0 : Int32) w
set_option maxRecDepth 100000 in
set_option maxHeartbeats 4000000 in
theorem c_X4_copies (l : Launch) (G : zG) (w : zW) (a1 : Int32) (a2 : Int32) {wz : zW} (hf : f_X4_copies w a1 a2 = some wz) : zMet l G yX4_copies cX4_copies 4 none rm_X4_copies [.ref (zad G 56), .int a1, .int a2] w none wz := by
  refine z_start (own := RX4) (by decide) rfl (Nat.le_of_ble_eq_true rfl) (lv := [(0, .ref (zad G 56)), (1, .int a1), (2, .int a2)]) rfl ?_
  intro p e s m args below meth c hC
  unfold f_X4_copies at hf
  refine z_iconst hC dX4_copies_0 (v := 0) rfl ?_
  refine z_istore_n (lv' := [(3, .int (0 : Int32)), (0, .ref (zad G 56)), (1, .int a1), (2, .int a2)]) hC dX4_copies_1 rfl (by decide) rfl ?_
  have hL2 : ∀ (n : Nat) (v1 : Int32) (w2 : zW), zfix2 (b_X4_copies_2 a1 a2) n v1 w2 = some wz → Z G p l e rm_X4_copies s m args below meth c (MQ below (zQ G none wz) args s 0 0 (zA G)) 4 2 [(0, .ref (zad G 56)), (1, .int a1), (2, .int a2), (3, .int v1)] [] w2 := by
    intro n
    induction n with
    | zero => intro v1 w2 hf; exact (zfix2_0 hf).elim
    | succ n ih2 =>
      intro v1 w2 hf
      replace hf := zfix2_e hf
      unfold b_X4_copies_2 at hf
      refine z_iload_n hC dX4_copies_2 3 rfl rfl ?_
      refine z_bipush hC dX4_copies_3 (v := 20) rfl ?_
      refine z_icmp_ge (tgt := 30) hC dX4_copies_5 (by decide) (fun h3 => ?_) (fun h3 => ?_)
      · replace hf := zif_t h3 hf
        obtain rfl := zso1 hf
        exact z_vret hC dX4_copies_30
      replace hf := zif_f h3 hf
      refine z_aload_n hC dX4_copies_8 0 rfl rfl ?_
      refine z_get4 hC 0 (by decide) zw_fl_X4_7 (v := .ref (zad G 57)) rfl dX4_copies_9 ?_
      refine z_iload_n hC dX4_copies_12 2 rfl rfl ?_
      refine z_iload_n hC dX4_copies_13 3 rfl rfl ?_
      refine z_iadd hC dX4_copies_14 ?_
      refine z_aload_n hC dX4_copies_15 0 rfl rfl ?_
      refine z_get4 hC 0 (by decide) zw_fl_X4_7 (v := .ref (zad G 57)) rfl dX4_copies_16 ?_
      refine z_iload_n hC dX4_copies_19 1 rfl rfl ?_
      refine z_iload_n hC dX4_copies_20 3 rfl rfl ?_
      refine z_iadd hC dX4_copies_21 ?_
      obtain ⟨hg4, hf⟩ := zg_e hf
      refine z_iald hC za_57 hg4 rfl dX4_copies_22 ?_
      obtain ⟨hg5, hf⟩ := zg_e hf
      obtain ⟨w6, ew6, hf⟩ := zlet_e hf
      refine z_iast hC za_57 hg5 rfl ew6 dX4_copies_23 ?_
      obtain ⟨v7, ev7, hf⟩ := zlet_e hf
      refine z_iinc (v := v7) (lv' := [(3, .int v7), (0, .ref (zad G 56)), (1, .int a1), (2, .int a2)]) hC dX4_copies_24 3 rfl (by rw [ev7]; rfl) (by decide) rfl ?_
      refine z_goto (tgt := 2) hC dX4_copies_27 (by decide) ?_
      refine z_lv [1, 2, 3, 0] rfl ?_
      exact ih2 _ _ hf
  refine z_lv [1, 2, 3, 0] rfl ?_
  exact hL2 _ _ _ hf
theorem zy_X4_copies : zYV yX4_copies cX4_copies 4 none RX4 2 := ⟨zw_cd_X4_copies, zw_im_X4_copies, zw_sel_X4_copies, zw_ini_X4, by decide +kernel⟩
abbrev rm_X4_hourOn : Room := { frames := 0, cells := 0, slots := 0, locals := 0 }
def f_X4_hourOn (w : zW) (a1 : Int32) : Option Int32 :=
  zg (zin (a1 + (10 : Int32)) 120) <|
  some ((w 57 (zx (a1 + (10 : Int32)))) + (18 : Int32))
set_option maxRecDepth 100000 in
set_option maxHeartbeats 4000000 in
theorem c_X4_hourOn (l : Launch) (G : zG) (w : zW) (a1 : Int32) {r : Int32} (hf : f_X4_hourOn w a1 = some r) : zMet l G yX4_hourOn cX4_hourOn 2 (some .int) rm_X4_hourOn [.ref (zad G 56), .int a1] w (some (.int r)) w := by
  refine z_start (own := RX4) (by decide) rfl (Nat.le_of_ble_eq_true rfl) (lv := [(0, .ref (zad G 56)), (1, .int a1)]) rfl ?_
  intro p e s m args below meth c hC
  unfold f_X4_hourOn at hf
  refine z_aload_n hC dX4_hourOn_0 0 rfl rfl ?_
  refine z_get4 hC 0 (by decide) zw_fl_X4_7 (v := .ref (zad G 57)) rfl dX4_hourOn_1 ?_
  refine z_iload_n hC dX4_hourOn_4 1 rfl rfl ?_
  refine z_bipush hC dX4_hourOn_5 (v := 10) rfl ?_
  refine z_iadd hC dX4_hourOn_7 ?_
  obtain ⟨hg1, hf⟩ := zg_e hf
  refine z_iald hC za_57 hg1 rfl dX4_hourOn_8 ?_
  refine z_bipush hC dX4_hourOn_9 (v := 18) rfl ?_
  refine z_iadd hC dX4_hourOn_11 ?_
  obtain rfl := zso1 hf
  exact z_iret hC dX4_hourOn_12
theorem zy_X4_hourOn : zYV yX4_hourOn cX4_hourOn 2 (some .int) RX4 1 := ⟨zw_cd_X4_hourOn, zw_im_X4_hourOn, zw_sel_X4_hourOn, zw_ini_X4, by decide +kernel⟩
abbrev rm_X4_isDay : Room := { frames := 1, cells := 0, slots := 0, locals := 25 }
def f_X4_isDay (w : zW) (a1 : Int32) : Option Int32 :=
  zbd (f_X4_hourOn w a1) fun v1 =>
  some (f_X4_in ((zrem v1 (24 : Int32)).toInt64) (6 : Int64) (17 : Int64))
set_option maxRecDepth 100000 in
set_option maxHeartbeats 4000000 in
theorem c_X4_isDay (l : Launch) (G : zG) (w : zW) (a1 : Int32) {r : Int32} (hf : f_X4_isDay w a1 = some r) : zMet l G yX4_isDay cX4_isDay 2 (some .boolean) rm_X4_isDay [.ref (zad G 56), .int a1] w (some (.int r)) w := by
  refine z_start (own := RX4) (by decide) rfl (Nat.le_of_ble_eq_true rfl) (lv := [(0, .ref (zad G 56)), (1, .int a1)]) rfl ?_
  intro p e s m args below meth c hC
  unfold f_X4_isDay at hf
  refine z_aload_n hC dX4_isDay_0 0 rfl rfl ?_
  refine z_iload_n hC dX4_isDay_1 1 rfl rfl ?_
  obtain ⟨v1, ev1, hf⟩ := zbd_e hf
  refine z_cvi (As := [.int a1]) (rest := []) hC zo_mod rfl (c_X4_hourOn l G w a1 ev1) zw_ml_X4_171 zy_X4_hourOn ⟨rfl, rfl, Nat.le_of_ble_eq_true rfl, Nat.le_of_ble_eq_true rfl⟩ rfl rfl (Nat.le_of_ble_eq_true rfl) dX4_isDay_2 ?_
  refine z_bipush hC dX4_isDay_5 (v := 24) rfl ?_
  refine z_irem hC dX4_isDay_7 (by decide) ?_
  refine z_i2l hC dX4_isDay_8 ?_
  refine z_ldc2 hC zw_cst_X4_187 dX4_isDay_9 ?_
  refine z_ldc2 hC zw_cst_X4_189 dX4_isDay_12 ?_
  refine z_csi (As := [.long ((zrem v1 (24 : Int32)).toInt64), .long (6 : Int64), .long (17 : Int64)]) (rest := []) hC (c_X4_in l G w ((zrem v1 (24 : Int32)).toInt64) (6 : Int64) (17 : Int64)) zw_ml_X4_59 zy_X4_in ⟨rfl, rfl, Nat.le_of_ble_eq_true rfl, Nat.le_of_ble_eq_true rfl⟩ rfl rfl (Nat.le_of_ble_eq_true rfl) dX4_isDay_15 ?_
  obtain rfl := zso1 hf
  exact z_zret hC (zbo_n (zb_X4_in _ _ _)) dX4_isDay_18
theorem zy_X4_isDay : zYV yX4_isDay cX4_isDay 2 (some .boolean) RX4 1 := ⟨zw_cd_X4_isDay, zw_im_X4_isDay, zw_sel_X4_isDay, zw_ini_X4, by decide +kernel⟩
abbrev rm_X4_isWalking : Room := { frames := 2, cells := 0, slots := 0, locals := 46 }
def f_X4_isWalking (w : zW) (a1 : Int32) (a2 : Int32) : Option Int32 :=
  zjn0 (
    some (1 : Int32))
  (fun (j28 : Option Int32) =>
  if a2 = (2 : Int32) then
    j28
  else
  zjn0 (
    some (0 : Int32))
  (fun (j32 : Option Int32) =>
  if (2 : Int32) ≤ a2 then
    j32
  else
  zjn1 (fun (v3 : Int32) =>
    zbd (f_X4_isDay w a1) fun v4 =>
    if v3 = v4 then
      j28
    else
      j32)
  (fun (j20 : Int32 → Option Int32) =>
  if a2 = (1 : Int32) then
    j20 (1 : Int32)
  else
    j20 (0 : Int32))))
set_option maxRecDepth 100000 in
set_option maxHeartbeats 4000000 in
theorem c_X4_isWalking (l : Launch) (G : zG) (w : zW) (a1 : Int32) (a2 : Int32) {r : Int32} (hf : f_X4_isWalking w a1 a2 = some r) : zMet l G yX4_isWalking cX4_isWalking 3 (some .boolean) rm_X4_isWalking [.ref (zad G 56), .int a1, .int a2] w (some (.int r)) w := by
  refine z_start (own := RX4) (by decide) rfl (Nat.le_of_ble_eq_true rfl) (lv := [(0, .ref (zad G 56)), (1, .int a1), (2, .int a2)]) rfl ?_
  intro p e s m args below meth c hC
  unfold f_X4_isWalking at hf
  refine z_iload_n hC dX4_isWalking_0 2 rfl rfl ?_
  refine z_iconst hC dX4_isWalking_1 (v := 2) rfl ?_
  obtain ⟨j28, hj28, hf⟩ := zjn0_e hf
  have hJ28 : j28 = some r → Z G p l e rm_X4_isWalking s m args below meth c (MQ below (zQ G (some (.int r)) w) args s 0 0 (zA G)) 3 28 [] [] w := by
    intro hf
    replace hf := hj28  hf
    refine z_iconst hC dX4_isWalking_28 (v := 1) rfl ?_
    refine z_goto (tgt := 33) hC dX4_isWalking_29 (by decide) ?_
    obtain rfl := zso1 hf
    exact z_zret hC rfl dX4_isWalking_33
  refine z_icmp_eq (tgt := 28) hC dX4_isWalking_2 (by decide) (fun h1 => ?_) (fun h1 => ?_)
  · replace hf := zif_t h1 hf
    refine z_lv [] rfl ?_
    exact hJ28 hf
  replace hf := zif_f h1 hf
  refine z_iload_n hC dX4_isWalking_5 2 rfl rfl ?_
  refine z_iconst hC dX4_isWalking_6 (v := 2) rfl ?_
  obtain ⟨j32, hj32, hf⟩ := zjn0_e hf
  have hJ32 : j32 = some r → Z G p l e rm_X4_isWalking s m args below meth c (MQ below (zQ G (some (.int r)) w) args s 0 0 (zA G)) 3 32 [] [] w := by
    intro hf
    replace hf := hj32  hf
    refine z_iconst hC dX4_isWalking_32 (v := 0) rfl ?_
    obtain rfl := zso1 hf
    exact z_zret hC rfl dX4_isWalking_33
  refine z_icmp_ge (tgt := 32) hC dX4_isWalking_7 (by decide) (fun h2 => ?_) (fun h2 => ?_)
  · replace hf := zif_t h2 hf
    refine z_lv [] rfl ?_
    exact hJ32 hf
  replace hf := zif_f h2 hf
  refine z_iload_n hC dX4_isWalking_10 2 rfl rfl ?_
  refine z_iconst hC dX4_isWalking_11 (v := 1) rfl ?_
  obtain ⟨j20, hj20, hf⟩ := zjn1_e hf
  have hJ20 : ∀ (v3 : Int32), j20 v3 = some r → Z G p l e rm_X4_isWalking s m args below meth c (MQ below (zQ G (some (.int r)) w) args s 0 0 (zA G)) 3 20 [(0, .ref (zad G 56)), (1, .int a1)] [.int v3] w := by
    intro v3 hf
    replace hf := hj20 v3 hf
    refine z_aload_n hC dX4_isWalking_20 0 rfl rfl ?_
    refine z_iload_n hC dX4_isWalking_21 1 rfl rfl ?_
    obtain ⟨v4, ev4, hf⟩ := zbd_e hf
    refine z_cvi (As := [.int a1]) (rest := [.int v3]) hC zo_mod rfl (c_X4_isDay l G w a1 ev4) zw_ml_X4_191 zy_X4_isDay ⟨rfl, rfl, Nat.le_of_ble_eq_true rfl, Nat.le_of_ble_eq_true rfl⟩ rfl rfl (Nat.le_of_ble_eq_true rfl) dX4_isWalking_22 ?_
    refine z_icmp_ne (tgt := 32) hC dX4_isWalking_25 (by decide) (fun h5 => ?_) (fun h5 => ?_)
    · replace hf := zif_f h5 hf
      refine z_lv [] rfl ?_
      exact hJ32 hf
    replace hf := zif_t h5 hf
    refine z_lv [] rfl ?_
    exact hJ28 hf
  refine z_icmp_ne (tgt := 19) hC dX4_isWalking_12 (by decide) (fun h6 => ?_) (fun h6 => ?_)
  · replace hf := zif_f h6 hf
    refine z_iconst hC dX4_isWalking_19 (v := 0) rfl ?_
    refine z_lv [0, 1] rfl ?_
    exact hJ20 _ hf
  replace hf := zif_t h6 hf
  refine z_iconst hC dX4_isWalking_15 (v := 1) rfl ?_
  refine z_goto (tgt := 20) hC dX4_isWalking_16 (by decide) ?_
  refine z_lv [0, 1] rfl ?_
  exact hJ20 _ hf
theorem zy_X4_isWalking : zYV yX4_isWalking cX4_isWalking 3 (some .boolean) RX4 2 := ⟨zw_cd_X4_isWalking, zw_im_X4_isWalking, zw_sel_X4_isWalking, zw_ini_X4, by decide +kernel⟩
abbrev rm_X4_isDown : Room := { frames := 0, cells := 0, slots := 0, locals := 0 }
def f_X4_isDown (w : zW) (a1 : Int32) (a2 : Int32) : Option Int32 :=
  zg (zin ((a1 + (4 : Int32)) + a2) 120) <|
  if (w 57 (zx ((a1 + (4 : Int32)) + a2))) = (0 : Int32) then
    some (1 : Int32)
  else
    some (0 : Int32)
set_option maxRecDepth 100000 in
set_option maxHeartbeats 4000000 in
theorem c_X4_isDown (l : Launch) (G : zG) (w : zW) (a1 : Int32) (a2 : Int32) {r : Int32} (hf : f_X4_isDown w a1 a2 = some r) : zMet l G yX4_isDown cX4_isDown 3 (some .boolean) rm_X4_isDown [.ref (zad G 56), .int a1, .int a2] w (some (.int r)) w := by
  refine z_start (own := RX4) (by decide) rfl (Nat.le_of_ble_eq_true rfl) (lv := [(0, .ref (zad G 56)), (1, .int a1), (2, .int a2)]) rfl ?_
  intro p e s m args below meth c hC
  unfold f_X4_isDown at hf
  refine z_aload_n hC dX4_isDown_0 0 rfl rfl ?_
  refine z_get4 hC 0 (by decide) zw_fl_X4_7 (v := .ref (zad G 57)) rfl dX4_isDown_1 ?_
  refine z_iload_n hC dX4_isDown_4 1 rfl rfl ?_
  refine z_iconst hC dX4_isDown_5 (v := 4) rfl ?_
  refine z_iadd hC dX4_isDown_6 ?_
  refine z_iload_n hC dX4_isDown_7 2 rfl rfl ?_
  refine z_iadd hC dX4_isDown_8 ?_
  obtain ⟨hg1, hf⟩ := zg_e hf
  refine z_iald hC za_57 hg1 rfl dX4_isDown_9 ?_
  refine z_if_ne (tgt := 17) hC dX4_isDown_10 (by decide) (fun h2 => ?_) (fun h2 => ?_)
  · replace hf := zif_f h2 hf
    refine z_iconst hC dX4_isDown_17 (v := 0) rfl ?_
    obtain rfl := zso1 hf
    exact z_zret hC rfl dX4_isDown_18
  replace hf := zif_t h2 hf
  refine z_iconst hC dX4_isDown_13 (v := 1) rfl ?_
  refine z_goto (tgt := 18) hC dX4_isDown_14 (by decide) ?_
  obtain rfl := zso1 hf
  exact z_zret hC rfl dX4_isDown_18
theorem zy_X4_isDown : zYV yX4_isDown cX4_isDown 3 (some .boolean) RX4 2 := ⟨zw_cd_X4_isDown, zw_im_X4_isDown, zw_sel_X4_isDown, zw_ini_X4, by decide +kernel⟩
abbrev rm_X4_upOn : Room := { frames := 1, cells := 0, slots := 0, locals := 22 }
def b_X4_upOn_7 (w : zW) (a1 : Int32) (k7 : Int32 → Int32 → Option Int32) (v2 : Int32) (v3 : Int32) : Option Int32 :=
  if ((w 56 6) + (w 56 7)) ≤ v3 then
    some v2
  else
  zbd (f_X4_isDown w a1 v3) fun v5 =>
  zjn1 (fun (v6 : Int32) =>
    zlet (v2 + v6) fun v7 =>
    zlet (v3 + (1 : Int32)) fun v8 =>
    k7 v7 v8)
  (fun (j35 : Int32 → Option Int32) =>
  if v5 = (0 : Int32) then
    j35 (1 : Int32)
  else
  j35 (0 : Int32))
def f_X4_upOn (w : zW) (a1 : Int32) : Option Int32 :=
  zlet (w 56 6) fun v1 =>
  zfix2 (b_X4_upOn_7 w a1) 100000 (0 : Int32) v1
set_option maxRecDepth 100000 in
set_option maxHeartbeats 4000000 in
theorem c_X4_upOn (l : Launch) (G : zG) (w : zW) (a1 : Int32) {r : Int32} (hf : f_X4_upOn w a1 = some r) : zMet l G yX4_upOn cX4_upOn 4 (some .int) rm_X4_upOn [.ref (zad G 56), .int a1] w (some (.int r)) w := by
  refine z_start (own := RX4) (by decide) rfl (Nat.le_of_ble_eq_true rfl) (lv := [(0, .ref (zad G 56)), (1, .int a1)]) rfl ?_
  intro p e s m args below meth c hC
  unfold f_X4_upOn at hf
  refine z_iconst hC dX4_upOn_0 (v := 0) rfl ?_
  refine z_istore_n (lv' := [(2, .int (0 : Int32)), (0, .ref (zad G 56)), (1, .int a1)]) hC dX4_upOn_1 rfl (by decide) rfl ?_
  refine z_aload_n hC dX4_upOn_2 1 rfl rfl ?_
  refine z_get4 hC 6 (by decide) zw_fl_X4_156 (v := .int (w 56 6)) rfl dX4_upOn_3 ?_
  obtain ⟨v1, ev1, hf⟩ := zlet_e hf
  refine z_topi ev1 ?_
  refine z_istore_n (lv' := [(3, .int v1), (2, .int (0 : Int32)), (0, .ref (zad G 56)), (1, .int a1)]) hC dX4_upOn_6 rfl (by decide) rfl ?_
  have hL7 : ∀ (n : Nat) (v2 : Int32) (v3 : Int32), zfix2 (b_X4_upOn_7 w a1) n v2 v3 = some r → Z G p l e rm_X4_upOn s m args below meth c (MQ below (zQ G (some (.int r)) w) args s 0 0 (zA G)) 4 7 [(0, .ref (zad G 56)), (1, .int a1), (2, .int v2), (3, .int v3)] [] w := by
    intro n
    induction n with
    | zero => intro v2 v3 hf; exact (zfix2_0 hf).elim
    | succ n ih7 =>
      intro v2 v3 hf
      replace hf := zfix2_e hf
      unfold b_X4_upOn_7 at hf
      refine z_iload_n hC dX4_upOn_7 3 rfl rfl ?_
      refine z_aload_n hC dX4_upOn_8 0 rfl rfl ?_
      refine z_get4 hC 6 (by decide) zw_fl_X4_156 (v := .int (w 56 6)) rfl dX4_upOn_9 ?_
      refine z_aload_n hC dX4_upOn_12 0 rfl rfl ?_
      refine z_get4 hC 7 (by decide) zw_fl_X4_159 (v := .int (w 56 7)) rfl dX4_upOn_13 ?_
      refine z_iadd hC dX4_upOn_16 ?_
      refine z_icmp_ge (tgt := 43) hC dX4_upOn_17 (by decide) (fun h4 => ?_) (fun h4 => ?_)
      · replace hf := zif_t h4 hf
        refine z_iload_n hC dX4_upOn_43 2 rfl rfl ?_
        obtain rfl := zso1 hf
        exact z_iret hC dX4_upOn_44
      replace hf := zif_f h4 hf
      refine z_iload_n hC dX4_upOn_20 2 rfl rfl ?_
      refine z_aload_n hC dX4_upOn_21 0 rfl rfl ?_
      refine z_iload_n hC dX4_upOn_22 1 rfl rfl ?_
      refine z_iload_n hC dX4_upOn_23 3 rfl rfl ?_
      obtain ⟨v5, ev5, hf⟩ := zbd_e hf
      refine z_cvi (As := [.int a1, .int v3]) (rest := [.int v2]) hC zo_mod rfl (c_X4_isDown l G w a1 v3 ev5) zw_ml_X4_167 zy_X4_isDown ⟨rfl, rfl, Nat.le_of_ble_eq_true rfl, Nat.le_of_ble_eq_true rfl⟩ rfl rfl (Nat.le_of_ble_eq_true rfl) dX4_upOn_24 ?_
      obtain ⟨j35, hj35, hf⟩ := zjn1_e hf
      have hJ35 : ∀ (v6 : Int32), j35 v6 = some r → Z G p l e rm_X4_upOn s m args below meth c (MQ below (zQ G (some (.int r)) w) args s 0 0 (zA G)) 4 35 [(0, .ref (zad G 56)), (1, .int a1), (3, .int v3)] [.int v6, .int v2] w := by
        intro v6 hf
        replace hf := hj35 v6 hf
        refine z_iadd hC dX4_upOn_35 ?_
        obtain ⟨v7, ev7, hf⟩ := zlet_e hf
        refine z_topi ev7 ?_
        refine z_istore_n (lv' := [(2, .int v7), (0, .ref (zad G 56)), (1, .int a1), (3, .int v3)]) hC dX4_upOn_36 rfl (by decide) rfl ?_
        obtain ⟨v8, ev8, hf⟩ := zlet_e hf
        refine z_iinc (v := v8) (lv' := [(3, .int v8), (2, .int v7), (0, .ref (zad G 56)), (1, .int a1)]) hC dX4_upOn_37 3 rfl (by rw [ev8]; rfl) (by decide) rfl ?_
        refine z_goto (tgt := 7) hC dX4_upOn_40 (by decide) ?_
        refine z_lv [2, 3, 1, 0] rfl ?_
        exact ih7 _ _ hf
      refine z_if_eq (tgt := 34) hC dX4_upOn_27 (by decide) (fun h9 => ?_) (fun h9 => ?_)
      · replace hf := zif_t h9 hf
        refine z_iconst hC dX4_upOn_34 (v := 1) rfl ?_
        refine z_lv [0, 1, 3] rfl ?_
        exact hJ35 _ hf
      replace hf := zif_f h9 hf
      refine z_iconst hC dX4_upOn_30 (v := 0) rfl ?_
      refine z_goto (tgt := 35) hC dX4_upOn_31 (by decide) ?_
      refine z_lv [0, 1, 3] rfl ?_
      exact hJ35 _ hf
  refine z_lv [2, 3, 1, 0] rfl ?_
  exact hL7 _ _ _ hf
theorem zy_X4_upOn : zYV yX4_upOn cX4_upOn 4 (some .int) RX4 1 := ⟨zw_cd_X4_upOn, zw_im_X4_upOn, zw_sel_X4_upOn, zw_ini_X4, by decide +kernel⟩
abbrev rm_X4_isOver : Room := { frames := 2, cells := 0, slots := 0, locals := 45 }
def f_X4_isOver (w : zW) (a1 : Int32) : Option Int32 :=
  zg (zin (a1 + (9 : Int32)) 120) <|
  zjn0 (
    some (1 : Int32))
  (fun (j24 : Option Int32) =>
  if (w 56 5) ≤ (w 57 (zx (a1 + (9 : Int32)))) then
    j24
  else
  zbd (f_X4_upOn w a1) fun v3 =>
  if v3 = (0 : Int32) then
    j24
  else
    some (0 : Int32))
set_option maxRecDepth 100000 in
set_option maxHeartbeats 4000000 in
theorem c_X4_isOver (l : Launch) (G : zG) (w : zW) (a1 : Int32) {r : Int32} (hf : f_X4_isOver w a1 = some r) : zMet l G yX4_isOver cX4_isOver 2 (some .boolean) rm_X4_isOver [.ref (zad G 56), .int a1] w (some (.int r)) w := by
  refine z_start (own := RX4) (by decide) rfl (Nat.le_of_ble_eq_true rfl) (lv := [(0, .ref (zad G 56)), (1, .int a1)]) rfl ?_
  intro p e s m args below meth c hC
  unfold f_X4_isOver at hf
  refine z_aload_n hC dX4_isOver_0 0 rfl rfl ?_
  refine z_get4 hC 0 (by decide) zw_fl_X4_7 (v := .ref (zad G 57)) rfl dX4_isOver_1 ?_
  refine z_iload_n hC dX4_isOver_4 1 rfl rfl ?_
  refine z_bipush hC dX4_isOver_5 (v := 9) rfl ?_
  refine z_iadd hC dX4_isOver_7 ?_
  obtain ⟨hg1, hf⟩ := zg_e hf
  refine z_iald hC za_57 hg1 rfl dX4_isOver_8 ?_
  refine z_aload_n hC dX4_isOver_9 0 rfl rfl ?_
  refine z_get4 hC 5 (by decide) zw_fl_X4_19 (v := .int (w 56 5)) rfl dX4_isOver_10 ?_
  obtain ⟨j24, hj24, hf⟩ := zjn0_e hf
  have hJ24 : j24 = some r → Z G p l e rm_X4_isOver s m args below meth c (MQ below (zQ G (some (.int r)) w) args s 0 0 (zA G)) 2 24 [] [] w := by
    intro hf
    replace hf := hj24  hf
    refine z_iconst hC dX4_isOver_24 (v := 1) rfl ?_
    refine z_goto (tgt := 29) hC dX4_isOver_25 (by decide) ?_
    obtain rfl := zso1 hf
    exact z_zret hC rfl dX4_isOver_29
  refine z_icmp_ge (tgt := 24) hC dX4_isOver_13 (by decide) (fun h2 => ?_) (fun h2 => ?_)
  · replace hf := zif_t h2 hf
    refine z_lv [] rfl ?_
    exact hJ24 hf
  replace hf := zif_f h2 hf
  refine z_aload_n hC dX4_isOver_16 0 rfl rfl ?_
  refine z_iload_n hC dX4_isOver_17 1 rfl rfl ?_
  obtain ⟨v3, ev3, hf⟩ := zbd_e hf
  refine z_cvi (As := [.int a1]) (rest := []) hC zo_mod rfl (c_X4_upOn l G w a1 ev3) zw_ml_X4_218 zy_X4_upOn ⟨rfl, rfl, Nat.le_of_ble_eq_true rfl, Nat.le_of_ble_eq_true rfl⟩ rfl rfl (Nat.le_of_ble_eq_true rfl) dX4_isOver_18 ?_
  refine z_if_ne (tgt := 28) hC dX4_isOver_21 (by decide) (fun h4 => ?_) (fun h4 => ?_)
  · replace hf := zif_f h4 hf
    refine z_iconst hC dX4_isOver_28 (v := 0) rfl ?_
    obtain rfl := zso1 hf
    exact z_zret hC rfl dX4_isOver_29
  replace hf := zif_t h4 hf
  refine z_lv [] rfl ?_
  exact hJ24 hf
theorem zy_X4_isOver : zYV yX4_isOver cX4_isOver 2 (some .boolean) RX4 1 := ⟨zw_cd_X4_isOver, zw_im_X4_isOver, zw_sel_X4_isOver, zw_ini_X4, by decide +kernel⟩
abbrev rm_X4_fillsOn : Room := { frames := 0, cells := 0, slots := 0, locals := 0 }
def f_X4_fillsOn (w : zW) (a1 : Int32) (a2 : Int32) : Option zW :=
  zg (zin (a1 + (8 : Int32)) 120) <|
  zlet ((w 57 (zx (a1 + (8 : Int32)))) + a2) fun v2 =>
  zjn1 (fun (v3 : Int32) =>
    zg (zin (a1 + (8 : Int32)) 120) <|
    zlet (zup w 57 (zx (a1 + (8 : Int32))) v3) fun w5 =>
    some w5)
  (fun (j32 : Int32 → Option zW) =>
  if v2 ≤ (60 : Int32) then
    j32 v2
  else
  j32 (60 : Int32))
set_option maxRecDepth 100000 in
set_option maxHeartbeats 4000000 in
theorem c_X4_fillsOn (l : Launch) (G : zG) (w : zW) (a1 : Int32) (a2 : Int32) {wz : zW} (hf : f_X4_fillsOn w a1 a2 = some wz) : zMet l G yX4_fillsOn cX4_fillsOn 4 none rm_X4_fillsOn [.ref (zad G 56), .int a1, .int a2] w none wz := by
  refine z_start (own := RX4) (by decide) rfl (Nat.le_of_ble_eq_true rfl) (lv := [(0, .ref (zad G 56)), (1, .int a1), (2, .int a2)]) rfl ?_
  intro p e s m args below meth c hC
  unfold f_X4_fillsOn at hf
  refine z_aload_n hC dX4_fillsOn_0 0 rfl rfl ?_
  refine z_get4 hC 0 (by decide) zw_fl_X4_7 (v := .ref (zad G 57)) rfl dX4_fillsOn_1 ?_
  refine z_iload_n hC dX4_fillsOn_4 1 rfl rfl ?_
  refine z_bipush hC dX4_fillsOn_5 (v := 8) rfl ?_
  refine z_iadd hC dX4_fillsOn_7 ?_
  obtain ⟨hg1, hf⟩ := zg_e hf
  refine z_iald hC za_57 hg1 rfl dX4_fillsOn_8 ?_
  refine z_iload_n hC dX4_fillsOn_9 2 rfl rfl ?_
  refine z_iadd hC dX4_fillsOn_10 ?_
  obtain ⟨v2, ev2, hf⟩ := zlet_e hf
  refine z_topi ev2 ?_
  refine z_istore_n (lv' := [(3, .int v2), (0, .ref (zad G 56)), (1, .int a1), (2, .int a2)]) hC dX4_fillsOn_11 rfl (by decide) rfl ?_
  refine z_aload_n hC dX4_fillsOn_12 1 rfl rfl ?_
  refine z_get4 hC 0 (by decide) zw_fl_X4_7 (v := .ref (zad G 57)) rfl dX4_fillsOn_13 ?_
  refine z_iload_n hC dX4_fillsOn_16 2 rfl rfl ?_
  refine z_bipush hC dX4_fillsOn_17 (v := 8) rfl ?_
  refine z_iadd hC dX4_fillsOn_19 ?_
  refine z_iload_n hC dX4_fillsOn_20 0 rfl rfl ?_
  refine z_bipush hC dX4_fillsOn_21 (v := 60) rfl ?_
  obtain ⟨j32, hj32, hf⟩ := zjn1_e hf
  have hJ32 : ∀ (v3 : Int32), j32 v3 = some wz → Z G p l e rm_X4_fillsOn s m args below meth c (MQ below (zQ G none wz) args s 0 0 (zA G)) 4 32 [] [.int v3, .int (a1 + (8 : Int32)), .ref (zad G 57)] w := by
    intro v3 hf
    replace hf := hj32 v3 hf
    obtain ⟨hg4, hf⟩ := zg_e hf
    obtain ⟨w5, ew5, hf⟩ := zlet_e hf
    refine z_iast hC za_57 hg4 rfl ew5 dX4_fillsOn_32 ?_
    obtain rfl := zso1 hf
    exact z_vret hC dX4_fillsOn_33
  refine z_icmp_le (tgt := 31) hC dX4_fillsOn_23 (by decide) (fun h6 => ?_) (fun h6 => ?_)
  · replace hf := zif_t h6 hf
    refine z_iload_n hC dX4_fillsOn_31 0 rfl rfl ?_
    refine z_lv [] rfl ?_
    exact hJ32 _ hf
  replace hf := zif_f h6 hf
  refine z_bipush hC dX4_fillsOn_26 (v := 60) rfl ?_
  refine z_goto (tgt := 32) hC dX4_fillsOn_28 (by decide) ?_
  refine z_lv [] rfl ?_
  exact hJ32 _ hf
theorem zy_X4_fillsOn : zYV yX4_fillsOn cX4_fillsOn 4 none RX4 2 := ⟨zw_cd_X4_fillsOn, zw_im_X4_fillsOn, zw_sel_X4_fillsOn, zw_ini_X4, by decide +kernel⟩
abbrev rm_X4_pourer : Room := { frames := 1, cells := 0, slots := 0, locals := 21 }
def f_X4_pourer (w : zW) (a1 : Int32) : Option Int32 :=
  if (w 56 7) = (0 : Int32) then
    some (-4 : Int32)
  else
    zbd (f_X4_hourOn w a1) fun v2 =>
    zg (znz (w 56 7)) <|
    some ((w 56 6) + (zrem v2 (w 56 7)))
set_option maxRecDepth 100000 in
set_option maxHeartbeats 4000000 in
theorem c_X4_pourer (l : Launch) (G : zG) (w : zW) (a1 : Int32) {r : Int32} (hf : f_X4_pourer w a1 = some r) : zMet l G yX4_pourer cX4_pourer 2 (some .int) rm_X4_pourer [.ref (zad G 56), .int a1] w (some (.int r)) w := by
  refine z_start (own := RX4) (by decide) rfl (Nat.le_of_ble_eq_true rfl) (lv := [(0, .ref (zad G 56)), (1, .int a1)]) rfl ?_
  intro p e s m args below meth c hC
  unfold f_X4_pourer at hf
  refine z_aload_n hC dX4_pourer_0 0 rfl rfl ?_
  refine z_get4 hC 7 (by decide) zw_fl_X4_159 (v := .int (w 56 7)) rfl dX4_pourer_1 ?_
  refine z_if_ne (tgt := 12) hC dX4_pourer_4 (by decide) (fun h1 => ?_) (fun h1 => ?_)
  · replace hf := zif_f h1 hf
    refine z_aload_n hC dX4_pourer_12 0 rfl rfl ?_
    refine z_get4 hC 6 (by decide) zw_fl_X4_156 (v := .int (w 56 6)) rfl dX4_pourer_13 ?_
    refine z_aload_n hC dX4_pourer_16 0 rfl rfl ?_
    refine z_iload_n hC dX4_pourer_17 1 rfl rfl ?_
    obtain ⟨v2, ev2, hf⟩ := zbd_e hf
    refine z_cvi (As := [.int a1]) (rest := [.int (w 56 6)]) hC zo_mod rfl (c_X4_hourOn l G w a1 ev2) zw_ml_X4_171 zy_X4_hourOn ⟨rfl, rfl, Nat.le_of_ble_eq_true rfl, Nat.le_of_ble_eq_true rfl⟩ rfl rfl (Nat.le_of_ble_eq_true rfl) dX4_pourer_18 ?_
    refine z_aload_n hC dX4_pourer_21 0 rfl rfl ?_
    refine z_get4 hC 7 (by decide) zw_fl_X4_159 (v := .int (w 56 7)) rfl dX4_pourer_22 ?_
    obtain ⟨hg3, hf⟩ := zg_e hf
    refine z_irem hC dX4_pourer_25 (znz_e hg3) ?_
    refine z_iadd hC dX4_pourer_26 ?_
    obtain rfl := zso1 hf
    exact z_iret hC dX4_pourer_27
  replace hf := zif_t h1 hf
  refine z_bipush hC dX4_pourer_7 (v := -4) rfl ?_
  refine z_goto (tgt := 27) hC dX4_pourer_9 (by decide) ?_
  obtain rfl := zso1 hf
  exact z_iret hC dX4_pourer_27
theorem zy_X4_pourer : zYV yX4_pourer cX4_pourer 2 (some .int) RX4 1 := ⟨zw_cd_X4_pourer, zw_im_X4_pourer, zw_sel_X4_pourer, zw_ini_X4, by decide +kernel⟩
abbrev rm_X4_givesTo : Room := { frames := 1, cells := 0, slots := 0, locals := 22 }
def b_X4_givesTo_8 (w : zW) (a1 : Int32) (a2 : Int32) (k8 : Int32 → Int32 → Option Int32) (v2 : Int32) (v3 : Int32) : Option Int32 :=
  if ((w 56 6) + (w 56 7)) ≤ v3 then
    some v2
  else
  zg (zin (a1 + a2) 120) <|
  if (w 57 (zx (a1 + a2))) = (4 : Int32) then
    zbd (f_X4_isDown w a1 v3) fun v7 =>
    zjn1 (fun (v8 : Int32) =>
      zlet (v3 + (1 : Int32)) fun v9 =>
      k8 v8 v9)
    (fun (j74 : Int32 → Option Int32) =>
    zjn0 (
      j74 v2)
    (fun (j73 : Option Int32) =>
    if v7 = (0 : Int32) then
      zg (zin ((a1 + (4 : Int32)) + v3) 120) <|
      zg (zin ((a1 + (4 : Int32)) + v2) 120) <|
      if (w 57 (zx ((a1 + (4 : Int32)) + v2))) ≤ (w 57 (zx ((a1 + (4 : Int32)) + v3))) then
        j73
      else
      j74 v3
    else
      j73))
  else
    some v2
def f_X4_givesTo (w : zW) (a1 : Int32) (a2 : Int32) : Option Int32 :=
  zlet (w 56 6) fun v1 =>
  zfix2 (b_X4_givesTo_8 w a1 a2) 100000 a2 v1
set_option maxRecDepth 100000 in
set_option maxHeartbeats 4000000 in
theorem c_X4_givesTo (l : Launch) (G : zG) (w : zW) (a1 : Int32) (a2 : Int32) {r : Int32} (hf : f_X4_givesTo w a1 a2 = some r) : zMet l G yX4_givesTo cX4_givesTo 5 (some .int) rm_X4_givesTo [.ref (zad G 56), .int a1, .int a2] w (some (.int r)) w := by
  refine z_start (own := RX4) (by decide) rfl (Nat.le_of_ble_eq_true rfl) (lv := [(0, .ref (zad G 56)), (1, .int a1), (2, .int a2)]) rfl ?_
  intro p e s m args below meth c hC
  unfold f_X4_givesTo at hf
  refine z_iload_n hC dX4_givesTo_0 2 rfl rfl ?_
  refine z_istore_n (lv' := [(3, .int a2), (0, .ref (zad G 56)), (1, .int a1), (2, .int a2)]) hC dX4_givesTo_1 rfl (by decide) rfl ?_
  refine z_aload_n hC dX4_givesTo_2 1 rfl rfl ?_
  refine z_get4 hC 6 (by decide) zw_fl_X4_156 (v := .int (w 56 6)) rfl dX4_givesTo_3 ?_
  obtain ⟨v1, ev1, hf⟩ := zlet_e hf
  refine z_topi ev1 ?_
  refine z_istore (lv' := [(4, .int v1), (3, .int a2), (0, .ref (zad G 56)), (1, .int a1), (2, .int a2)]) hC dX4_givesTo_6 (by decide) rfl ?_
  have hL8 : ∀ (n : Nat) (v2 : Int32) (v3 : Int32), zfix2 (b_X4_givesTo_8 w a1 a2) n v2 v3 = some r → Z G p l e rm_X4_givesTo s m args below meth c (MQ below (zQ G (some (.int r)) w) args s 0 0 (zA G)) 5 8 [(0, .ref (zad G 56)), (1, .int a1), (2, .int a2), (3, .int v2), (4, .int v3)] [] w := by
    intro n
    induction n with
    | zero => intro v2 v3 hf; exact (zfix2_0 hf).elim
    | succ n ih8 =>
      intro v2 v3 hf
      replace hf := zfix2_e hf
      unfold b_X4_givesTo_8 at hf
      refine z_iload hC dX4_givesTo_8 4 rfl ?_
      refine z_aload_n hC dX4_givesTo_10 0 rfl rfl ?_
      refine z_get4 hC 6 (by decide) zw_fl_X4_156 (v := .int (w 56 6)) rfl dX4_givesTo_11 ?_
      refine z_aload_n hC dX4_givesTo_14 0 rfl rfl ?_
      refine z_get4 hC 7 (by decide) zw_fl_X4_159 (v := .int (w 56 7)) rfl dX4_givesTo_15 ?_
      refine z_iadd hC dX4_givesTo_18 ?_
      refine z_icmp_ge (tgt := 81) hC dX4_givesTo_19 (by decide) (fun h4 => ?_) (fun h4 => ?_)
      · replace hf := zif_t h4 hf
        refine z_iload_n hC dX4_givesTo_81 3 rfl rfl ?_
        obtain rfl := zso1 hf
        exact z_iret hC dX4_givesTo_82
      replace hf := zif_f h4 hf
      refine z_aload_n hC dX4_givesTo_22 0 rfl rfl ?_
      refine z_get4 hC 0 (by decide) zw_fl_X4_7 (v := .ref (zad G 57)) rfl dX4_givesTo_23 ?_
      refine z_iload_n hC dX4_givesTo_26 1 rfl rfl ?_
      refine z_iload_n hC dX4_givesTo_27 2 rfl rfl ?_
      refine z_iadd hC dX4_givesTo_28 ?_
      obtain ⟨hg5, hf⟩ := zg_e hf
      refine z_iald hC za_57 hg5 rfl dX4_givesTo_29 ?_
      refine z_iconst hC dX4_givesTo_30 (v := 4) rfl ?_
      refine z_icmp_ne (tgt := 81) hC dX4_givesTo_31 (by decide) (fun h6 => ?_) (fun h6 => ?_)
      · replace hf := zif_f h6 hf
        refine z_iload_n hC dX4_givesTo_81 3 rfl rfl ?_
        obtain rfl := zso1 hf
        exact z_iret hC dX4_givesTo_82
      replace hf := zif_t h6 hf
      refine z_aload_n hC dX4_givesTo_34 0 rfl rfl ?_
      refine z_iload_n hC dX4_givesTo_35 1 rfl rfl ?_
      refine z_iload hC dX4_givesTo_36 4 rfl ?_
      obtain ⟨v7, ev7, hf⟩ := zbd_e hf
      refine z_cvi (As := [.int a1, .int v3]) (rest := []) hC zo_mod rfl (c_X4_isDown l G w a1 v3 ev7) zw_ml_X4_167 zy_X4_isDown ⟨rfl, rfl, Nat.le_of_ble_eq_true rfl, Nat.le_of_ble_eq_true rfl⟩ rfl rfl (Nat.le_of_ble_eq_true rfl) dX4_givesTo_38 ?_
      obtain ⟨j74, hj74, hf⟩ := zjn1_e hf
      have hJ74 : ∀ (v8 : Int32), j74 v8 = some r → Z G p l e rm_X4_givesTo s m args below meth c (MQ below (zQ G (some (.int r)) w) args s 0 0 (zA G)) 5 74 [(0, .ref (zad G 56)), (1, .int a1), (2, .int a2), (4, .int v3)] [.int v8] w := by
        intro v8 hf
        replace hf := hj74 v8 hf
        refine z_istore_n (lv' := [(3, .int v8), (0, .ref (zad G 56)), (1, .int a1), (2, .int a2), (4, .int v3)]) hC dX4_givesTo_74 rfl (by decide) rfl ?_
        obtain ⟨v9, ev9, hf⟩ := zlet_e hf
        refine z_iinc (v := v9) (lv' := [(4, .int v9), (3, .int v8), (0, .ref (zad G 56)), (1, .int a1), (2, .int a2)]) hC dX4_givesTo_75 4 rfl (by rw [ev9]; rfl) (by decide) rfl ?_
        refine z_goto (tgt := 8) hC dX4_givesTo_78 (by decide) ?_
        refine z_lv [2, 3, 4, 1, 0] rfl ?_
        exact ih8 _ _ hf
      obtain ⟨j73, hj73, hf⟩ := zjn0_e hf
      have hJ73 : j73 = some r → Z G p l e rm_X4_givesTo s m args below meth c (MQ below (zQ G (some (.int r)) w) args s 0 0 (zA G)) 5 73 [(0, .ref (zad G 56)), (1, .int a1), (2, .int a2), (3, .int v2), (4, .int v3)] [] w := by
        intro hf
        replace hf := hj73  hf
        refine z_iload_n hC dX4_givesTo_73 3 rfl rfl ?_
        refine z_lv [0, 1, 2, 4] rfl ?_
        exact hJ74 _ hf
      refine z_if_ne (tgt := 73) hC dX4_givesTo_41 (by decide) (fun h10 => ?_) (fun h10 => ?_)
      · replace hf := zif_f h10 hf
        exact hJ73 hf
      replace hf := zif_t h10 hf
      refine z_aload_n hC dX4_givesTo_44 0 rfl rfl ?_
      refine z_get4 hC 0 (by decide) zw_fl_X4_7 (v := .ref (zad G 57)) rfl dX4_givesTo_45 ?_
      refine z_iload_n hC dX4_givesTo_48 1 rfl rfl ?_
      refine z_iconst hC dX4_givesTo_49 (v := 4) rfl ?_
      refine z_iadd hC dX4_givesTo_50 ?_
      refine z_iload hC dX4_givesTo_51 4 rfl ?_
      refine z_iadd hC dX4_givesTo_53 ?_
      obtain ⟨hg11, hf⟩ := zg_e hf
      refine z_iald hC za_57 hg11 rfl dX4_givesTo_54 ?_
      refine z_aload_n hC dX4_givesTo_55 0 rfl rfl ?_
      refine z_get4 hC 0 (by decide) zw_fl_X4_7 (v := .ref (zad G 57)) rfl dX4_givesTo_56 ?_
      refine z_iload_n hC dX4_givesTo_59 1 rfl rfl ?_
      refine z_iconst hC dX4_givesTo_60 (v := 4) rfl ?_
      refine z_iadd hC dX4_givesTo_61 ?_
      refine z_iload_n hC dX4_givesTo_62 3 rfl rfl ?_
      refine z_iadd hC dX4_givesTo_63 ?_
      obtain ⟨hg12, hf⟩ := zg_e hf
      refine z_iald hC za_57 hg12 rfl dX4_givesTo_64 ?_
      refine z_icmp_ge (tgt := 73) hC dX4_givesTo_65 (by decide) (fun h13 => ?_) (fun h13 => ?_)
      · replace hf := zif_t h13 hf
        exact hJ73 hf
      replace hf := zif_f h13 hf
      refine z_iload hC dX4_givesTo_68 4 rfl ?_
      refine z_goto (tgt := 74) hC dX4_givesTo_70 (by decide) ?_
      refine z_lv [0, 1, 2, 4] rfl ?_
      exact hJ74 _ hf
  refine z_lv [2, 3, 4, 1, 0] rfl ?_
  exact hL8 _ _ _ hf
theorem zy_X4_givesTo : zYV yX4_givesTo cX4_givesTo 5 (some .int) RX4 2 := ⟨zw_cd_X4_givesTo, zw_im_X4_givesTo, zw_sel_X4_givesTo, zw_ini_X4, by decide +kernel⟩
abbrev rm_X4_wantOf : Room := { frames := 2, cells := 0, slots := 0, locals := 42 }
def f_X4_wantOf (w : zW) (a1 : Int32) (a2 : Int32) : Option Int32 :=
  zg (zin ((a1 + (4 : Int32)) + a2) 120) <|
  zlet (w 57 (zx ((a1 + (4 : Int32)) + a2))) fun v2 =>
  zg (zin (a1 + a2) 120) <|
  zlet (w 57 (zx (a1 + a2))) fun v4 =>
  if v4 = (1 : Int32) then
    if (10 : Int32) ≤ v2 then
      some (0 : Int32)
    else
    some ((10 : Int32) - v2)
  else
  if v4 = (2 : Int32) then
    zbd (f_X4_pourer w a1) fun v8 =>
    if v8 = a2 then
      some (2 : Int32)
    else
      some (1 : Int32)
  else
  if v4 = (3 : Int32) then
    if (4 : Int32) < v2 then
      some (0 : Int32)
    else
    some (2 : Int32)
  else
  some (1 : Int32)
set_option maxRecDepth 100000 in
set_option maxHeartbeats 4000000 in
theorem c_X4_wantOf (l : Launch) (G : zG) (w : zW) (a1 : Int32) (a2 : Int32) {r : Int32} (hf : f_X4_wantOf w a1 a2 = some r) : zMet l G yX4_wantOf cX4_wantOf 4 (some .int) rm_X4_wantOf [.ref (zad G 56), .int a1, .int a2] w (some (.int r)) w := by
  refine z_start (own := RX4) (by decide) rfl (Nat.le_of_ble_eq_true rfl) (lv := [(0, .ref (zad G 56)), (1, .int a1), (2, .int a2)]) rfl ?_
  intro p e s m args below meth c hC
  unfold f_X4_wantOf at hf
  refine z_aload_n hC dX4_wantOf_0 0 rfl rfl ?_
  refine z_get4 hC 0 (by decide) zw_fl_X4_7 (v := .ref (zad G 57)) rfl dX4_wantOf_1 ?_
  refine z_iload_n hC dX4_wantOf_4 1 rfl rfl ?_
  refine z_iconst hC dX4_wantOf_5 (v := 4) rfl ?_
  refine z_iadd hC dX4_wantOf_6 ?_
  refine z_iload_n hC dX4_wantOf_7 2 rfl rfl ?_
  refine z_iadd hC dX4_wantOf_8 ?_
  obtain ⟨hg1, hf⟩ := zg_e hf
  refine z_iald hC za_57 hg1 rfl dX4_wantOf_9 ?_
  obtain ⟨v2, ev2, hf⟩ := zlet_e hf
  refine z_topi ev2 ?_
  refine z_istore_n (lv' := [(3, .int v2), (0, .ref (zad G 56)), (1, .int a1), (2, .int a2)]) hC dX4_wantOf_10 rfl (by decide) rfl ?_
  refine z_aload_n hC dX4_wantOf_11 1 rfl rfl ?_
  refine z_get4 hC 0 (by decide) zw_fl_X4_7 (v := .ref (zad G 57)) rfl dX4_wantOf_12 ?_
  refine z_iload_n hC dX4_wantOf_15 2 rfl rfl ?_
  refine z_iload_n hC dX4_wantOf_16 3 rfl rfl ?_
  refine z_iadd hC dX4_wantOf_17 ?_
  obtain ⟨hg3, hf⟩ := zg_e hf
  refine z_iald hC za_57 hg3 rfl dX4_wantOf_18 ?_
  obtain ⟨v4, ev4, hf⟩ := zlet_e hf
  refine z_topi ev4 ?_
  by_cases h5 : v4 = (1 : Int32)
  · replace hf := zif_t h5 hf
    refine z_tabIn (tgt := 44) hC dX4_wantOf_19 (by rw [h5]; decide) (by rw [h5]; decide) (by rw [h5]; rfl) (by decide) ?_
    refine z_iload_n hC dX4_wantOf_44 0 rfl rfl ?_
    refine z_bipush hC dX4_wantOf_45 (v := 10) rfl ?_
    refine z_icmp_ge (tgt := 57) hC dX4_wantOf_47 (by decide) (fun h6 => ?_) (fun h6 => ?_)
    · replace hf := zif_t h6 hf
      refine z_iconst hC dX4_wantOf_57 (v := 0) rfl ?_
      obtain rfl := zso1 hf
      exact z_iret hC dX4_wantOf_58
    replace hf := zif_f h6 hf
    refine z_bipush hC dX4_wantOf_50 (v := 10) rfl ?_
    refine z_iload_n hC dX4_wantOf_52 0 rfl rfl ?_
    refine z_isub hC dX4_wantOf_53 ?_
    refine z_goto (tgt := 58) hC dX4_wantOf_54 (by decide) ?_
    obtain rfl := zso1 hf
    exact z_iret hC dX4_wantOf_58
  replace hf := zif_f h5 hf
  by_cases h7 : v4 = (2 : Int32)
  · replace hf := zif_t h7 hf
    refine z_tabIn (tgt := 59) hC dX4_wantOf_19 (by rw [h7]; decide) (by rw [h7]; decide) (by rw [h7]; rfl) (by decide) ?_
    refine z_aload_n hC dX4_wantOf_59 1 rfl rfl ?_
    refine z_iload_n hC dX4_wantOf_60 2 rfl rfl ?_
    obtain ⟨v8, ev8, hf⟩ := zbd_e hf
    refine z_cvi (As := [.int a1]) (rest := []) hC zo_mod rfl (c_X4_pourer l G w a1 ev8) zw_ml_X4_174 zy_X4_pourer ⟨rfl, rfl, Nat.le_of_ble_eq_true rfl, Nat.le_of_ble_eq_true rfl⟩ rfl rfl (Nat.le_of_ble_eq_true rfl) dX4_wantOf_61 ?_
    refine z_iload_n hC dX4_wantOf_64 3 rfl rfl ?_
    refine z_icmp_ne (tgt := 72) hC dX4_wantOf_65 (by decide) (fun h9 => ?_) (fun h9 => ?_)
    · replace hf := zif_f h9 hf
      refine z_iconst hC dX4_wantOf_72 (v := 1) rfl ?_
      obtain rfl := zso1 hf
      exact z_iret hC dX4_wantOf_73
    replace hf := zif_t h9 hf
    refine z_iconst hC dX4_wantOf_68 (v := 2) rfl ?_
    refine z_goto (tgt := 73) hC dX4_wantOf_69 (by decide) ?_
    obtain rfl := zso1 hf
    exact z_iret hC dX4_wantOf_73
  replace hf := zif_f h7 hf
  by_cases h10 : v4 = (3 : Int32)
  · replace hf := zif_t h10 hf
    refine z_tabIn (tgt := 74) hC dX4_wantOf_19 (by rw [h10]; decide) (by rw [h10]; decide) (by rw [h10]; rfl) (by decide) ?_
    refine z_iload_n hC dX4_wantOf_74 0 rfl rfl ?_
    refine z_iconst hC dX4_wantOf_75 (v := 4) rfl ?_
    refine z_icmp_gt (tgt := 83) hC dX4_wantOf_76 (by decide) (fun h11 => ?_) (fun h11 => ?_)
    · replace hf := zif_t h11 hf
      refine z_iconst hC dX4_wantOf_83 (v := 0) rfl ?_
      obtain rfl := zso1 hf
      exact z_iret hC dX4_wantOf_84
    replace hf := zif_f h11 hf
    refine z_iconst hC dX4_wantOf_79 (v := 2) rfl ?_
    refine z_goto (tgt := 84) hC dX4_wantOf_80 (by decide) ?_
    obtain rfl := zso1 hf
    exact z_iret hC dX4_wantOf_84
  replace hf := zif_f h10 hf
  have nh5 := znt (k := 1) (by decide) h5
  have nh7 := znt (k := 2) (by decide) h7
  have nh10 := znt (k := 3) (by decide) h10
  refine z_tabOut (tgt := 85) hC dX4_wantOf_19 (by omega) (by decide) ?_
  refine z_iconst hC dX4_wantOf_85 (v := 1) rfl ?_
  obtain rfl := zso1 hf
  exact z_iret hC dX4_wantOf_86
theorem zy_X4_wantOf : zYV yX4_wantOf cX4_wantOf 4 (some .int) RX4 2 := ⟨zw_cd_X4_wantOf, zw_im_X4_wantOf, zw_sel_X4_wantOf, zw_ini_X4, by decide +kernel⟩
abbrev rm_X4_allDrink : Room := { frames := 3, cells := 0, slots := 0, locals := 65 }
def b_X4_allDrink_13 (a1 : Int32) (v2 : Int32) (k13 : Int32 → zW → Option zW) (v3 : Int32) (w4 : zW) : Option zW :=
  if (w4 56 7) < v3 then
    some w4
  else
  zg (znz (w4 56 7)) <|
  zlet ((w4 56 6) + (zrem (v2 + v3) (w4 56 7))) fun v7 =>
  zbd (f_X4_isDown w4 a1 v7) fun v8 =>
  zjn1 (fun (w9 : zW) =>
    zlet (v3 + (1 : Int32)) fun v10 =>
    k13 v10 w9)
  (fun (j164 : zW → Option zW) =>
  if v8 = (0 : Int32) then
    zbd (f_X4_givesTo w4 a1 v7) fun v12 =>
    zbd (f_X4_wantOf w4 a1 v7) fun v13 =>
    zg (zin ((a1 + (4 : Int32)) + v12) 120) <|
    zjn1 (fun (v15 : Int32) =>
      zg (zin (a1 + (8 : Int32)) 120) <|
      zjn1 (fun (v17 : Int32) =>
        zg (zin ((a1 + (4 : Int32)) + v12) 120) <|
        zg (zin ((a1 + (4 : Int32)) + v12) 120) <|
        zlet (zup w4 57 (zx ((a1 + (4 : Int32)) + v12)) ((w4 57 (zx ((a1 + (4 : Int32)) + v12))) + v17)) fun w20 =>
        zg (zin (a1 + (8 : Int32)) 120) <|
        zg (zin (a1 + (8 : Int32)) 120) <|
        zlet (zup w20 57 (zx (a1 + (8 : Int32))) ((w20 57 (zx (a1 + (8 : Int32)))) - v17)) fun w23 =>
        j164 w23)
      (fun (j132 : Int32 → Option zW) =>
      if (w4 57 (zx (a1 + (8 : Int32)))) ≤ v15 then
        zg (zin (a1 + (8 : Int32)) 120) <|
        j132 (w4 57 (zx (a1 + (8 : Int32))))
      else
      j132 v15))
    (fun (j102 : Int32 → Option zW) =>
    if ((20 : Int32) - (w4 57 (zx ((a1 + (4 : Int32)) + v12)))) ≤ v13 then
      zg (zin ((a1 + (4 : Int32)) + v12) 120) <|
      j102 ((20 : Int32) - (w4 57 (zx ((a1 + (4 : Int32)) + v12))))
    else
    j102 v13)
  else
    j164 w4)
def f_X4_allDrink (w : zW) (a1 : Int32) : Option zW :=
  zbd (f_X4_pourer w a1) fun v1 =>
  zlet (v1 - (w 56 6)) fun v2 =>
  zfix2 (b_X4_allDrink_13 a1 v2) 100000 (1 : Int32) w
set_option maxRecDepth 100000 in
set_option maxHeartbeats 4000000 in
theorem c_X4_allDrink (l : Launch) (G : zG) (w : zW) (a1 : Int32) {wz : zW} (hf : f_X4_allDrink w a1 = some wz) : zMet l G yX4_allDrink cX4_allDrink 7 none rm_X4_allDrink [.ref (zad G 56), .int a1] w none wz := by
  refine z_start (own := RX4) (by decide) rfl (Nat.le_of_ble_eq_true rfl) (lv := [(0, .ref (zad G 56)), (1, .int a1)]) rfl ?_
  intro p e s m args below meth c hC
  unfold f_X4_allDrink at hf
  refine z_aload_n hC dX4_allDrink_0 0 rfl rfl ?_
  refine z_iload_n hC dX4_allDrink_1 1 rfl rfl ?_
  obtain ⟨v1, ev1, hf⟩ := zbd_e hf
  refine z_cvi (As := [.int a1]) (rest := []) hC zo_mod rfl (c_X4_pourer l G w a1 ev1) zw_ml_X4_174 zy_X4_pourer ⟨rfl, rfl, Nat.le_of_ble_eq_true rfl, Nat.le_of_ble_eq_true rfl⟩ rfl rfl (Nat.le_of_ble_eq_true rfl) dX4_allDrink_2 ?_
  refine z_aload_n hC dX4_allDrink_5 0 rfl rfl ?_
  refine z_get4 hC 6 (by decide) zw_fl_X4_156 (v := .int (w 56 6)) rfl dX4_allDrink_6 ?_
  refine z_isub hC dX4_allDrink_9 ?_
  obtain ⟨v2, ev2, hf⟩ := zlet_e hf
  refine z_topi ev2 ?_
  refine z_istore_n (lv' := [(2, .int v2), (0, .ref (zad G 56)), (1, .int a1)]) hC dX4_allDrink_10 rfl (by decide) rfl ?_
  refine z_iconst hC dX4_allDrink_11 (v := 1) rfl ?_
  refine z_istore_n (lv' := [(3, .int (1 : Int32)), (2, .int v2), (0, .ref (zad G 56)), (1, .int a1)]) hC dX4_allDrink_12 rfl (by decide) rfl ?_
  have hL13 : ∀ (n : Nat) (v3 : Int32) (w4 : zW), zfix2 (b_X4_allDrink_13 a1 v2) n v3 w4 = some wz → Z G p l e rm_X4_allDrink s m args below meth c (MQ below (zQ G none wz) args s 0 0 (zA G)) 7 13 [(0, .ref (zad G 56)), (1, .int a1), (2, .int v2), (3, .int v3)] [] w4 := by
    intro n
    induction n with
    | zero => intro v3 w4 hf; exact (zfix2_0 hf).elim
    | succ n ih13 =>
      intro v3 w4 hf
      replace hf := zfix2_e hf
      unfold b_X4_allDrink_13 at hf
      refine z_iload_n hC dX4_allDrink_13 3 rfl rfl ?_
      refine z_aload_n hC dX4_allDrink_14 0 rfl rfl ?_
      refine z_get4 hC 7 (by decide) zw_fl_X4_159 (v := .int (w4 56 7)) rfl dX4_allDrink_15 ?_
      refine z_icmp_gt (tgt := 170) hC dX4_allDrink_18 (by decide) (fun h5 => ?_) (fun h5 => ?_)
      · replace hf := zif_t h5 hf
        obtain rfl := zso1 hf
        exact z_vret hC dX4_allDrink_170
      replace hf := zif_f h5 hf
      refine z_aload_n hC dX4_allDrink_21 0 rfl rfl ?_
      refine z_get4 hC 6 (by decide) zw_fl_X4_156 (v := .int (w4 56 6)) rfl dX4_allDrink_22 ?_
      refine z_iload_n hC dX4_allDrink_25 2 rfl rfl ?_
      refine z_iload_n hC dX4_allDrink_26 3 rfl rfl ?_
      refine z_iadd hC dX4_allDrink_27 ?_
      refine z_aload_n hC dX4_allDrink_28 0 rfl rfl ?_
      refine z_get4 hC 7 (by decide) zw_fl_X4_159 (v := .int (w4 56 7)) rfl dX4_allDrink_29 ?_
      obtain ⟨hg6, hf⟩ := zg_e hf
      refine z_irem hC dX4_allDrink_32 (znz_e hg6) ?_
      refine z_iadd hC dX4_allDrink_33 ?_
      obtain ⟨v7, ev7, hf⟩ := zlet_e hf
      refine z_topi ev7 ?_
      refine z_istore (lv' := [(4, .int v7), (0, .ref (zad G 56)), (1, .int a1), (2, .int v2), (3, .int v3)]) hC dX4_allDrink_34 (by decide) rfl ?_
      refine z_aload_n hC dX4_allDrink_36 1 rfl rfl ?_
      refine z_iload_n hC dX4_allDrink_37 2 rfl rfl ?_
      refine z_iload hC dX4_allDrink_38 0 rfl ?_
      obtain ⟨v8, ev8, hf⟩ := zbd_e hf
      refine z_cvi (As := [.int a1, .int v7]) (rest := []) hC zo_mod rfl (c_X4_isDown l G w4 a1 v7 ev8) zw_ml_X4_167 zy_X4_isDown ⟨rfl, rfl, Nat.le_of_ble_eq_true rfl, Nat.le_of_ble_eq_true rfl⟩ rfl rfl (Nat.le_of_ble_eq_true rfl) dX4_allDrink_40 ?_
      obtain ⟨j164, hj164, hf⟩ := zjn1_e hf
      have hJ164 : ∀ (w9 : zW), j164 w9 = some wz → Z G p l e rm_X4_allDrink s m args below meth c (MQ below (zQ G none wz) args s 0 0 (zA G)) 7 164 [(0, .ref (zad G 56)), (1, .int a1), (2, .int v2), (3, .int v3)] [] w9 := by
        intro w9 hf
        replace hf := hj164 w9 hf
        obtain ⟨v10, ev10, hf⟩ := zlet_e hf
        refine z_iinc (v := v10) (lv' := [(3, .int v10), (0, .ref (zad G 56)), (1, .int a1), (2, .int v2)]) hC dX4_allDrink_164 3 rfl (by rw [ev10]; rfl) (by decide) rfl ?_
        refine z_goto (tgt := 13) hC dX4_allDrink_167 (by decide) ?_
        refine z_lv [1, 2, 3, 0] rfl ?_
        exact ih13 _ _ hf
      refine z_if_ne (tgt := 164) hC dX4_allDrink_43 (by decide) (fun h11 => ?_) (fun h11 => ?_)
      · replace hf := zif_f h11 hf
        refine z_lv [1, 2, 3, 4] rfl ?_
        exact hJ164 _ hf
      replace hf := zif_t h11 hf
      refine z_aload_n hC dX4_allDrink_46 1 rfl rfl ?_
      refine z_iload_n hC dX4_allDrink_47 2 rfl rfl ?_
      refine z_iload hC dX4_allDrink_48 0 rfl ?_
      obtain ⟨v12, ev12, hf⟩ := zbd_e hf
      refine z_cvi (As := [.int a1, .int v7]) (rest := []) hC zo_mod rfl (c_X4_givesTo l G w4 a1 v7 ev12) zw_ml_X4_221 zy_X4_givesTo ⟨rfl, rfl, Nat.le_of_ble_eq_true rfl, Nat.le_of_ble_eq_true rfl⟩ rfl rfl (Nat.le_of_ble_eq_true rfl) dX4_allDrink_50 ?_
      refine z_istore (lv' := [(5, .int v12), (4, .int v7), (0, .ref (zad G 56)), (1, .int a1), (2, .int v2), (3, .int v3)]) hC dX4_allDrink_53 (by decide) rfl ?_
      refine z_aload_n hC dX4_allDrink_55 2 rfl rfl ?_
      refine z_iload_n hC dX4_allDrink_56 3 rfl rfl ?_
      refine z_iload hC dX4_allDrink_57 1 rfl ?_
      obtain ⟨v13, ev13, hf⟩ := zbd_e hf
      refine z_cvi (As := [.int a1, .int v7]) (rest := []) hC zo_mod rfl (c_X4_wantOf l G w4 a1 v7 ev13) zw_ml_X4_181 zy_X4_wantOf ⟨rfl, rfl, Nat.le_of_ble_eq_true rfl, Nat.le_of_ble_eq_true rfl⟩ rfl rfl (Nat.le_of_ble_eq_true rfl) dX4_allDrink_59 ?_
      refine z_istore (lv' := [(6, .int v13), (5, .int v12), (4, .int v7), (0, .ref (zad G 56)), (1, .int a1), (2, .int v2), (3, .int v3)]) hC dX4_allDrink_62 (by decide) rfl ?_
      refine z_iload hC dX4_allDrink_64 0 rfl ?_
      refine z_bipush hC dX4_allDrink_66 (v := 20) rfl ?_
      refine z_aload_n hC dX4_allDrink_68 3 rfl rfl ?_
      refine z_get4 hC 0 (by decide) zw_fl_X4_7 (v := .ref (zad G 57)) rfl dX4_allDrink_69 ?_
      refine z_iload_n hC dX4_allDrink_72 4 rfl rfl ?_
      refine z_iconst hC dX4_allDrink_73 (v := 4) rfl ?_
      refine z_iadd hC dX4_allDrink_74 ?_
      refine z_iload hC dX4_allDrink_75 1 rfl ?_
      refine z_iadd hC dX4_allDrink_77 ?_
      obtain ⟨hg14, hf⟩ := zg_e hf
      refine z_iald hC za_57 hg14 rfl dX4_allDrink_78 ?_
      refine z_isub hC dX4_allDrink_79 ?_
      obtain ⟨j102, hj102, hf⟩ := zjn1_e hf
      have hJ102 : ∀ (v15 : Int32), j102 v15 = some wz → Z G p l e rm_X4_allDrink s m args below meth c (MQ below (zQ G none wz) args s 0 0 (zA G)) 7 102 [(0, .ref (zad G 56)), (1, .int a1), (2, .int v2), (3, .int v3), (5, .int v12)] [.int v15] w4 := by
        intro v15 hf
        replace hf := hj102 v15 hf
        refine z_istore (lv' := [(6, .int v15), (0, .ref (zad G 56)), (1, .int a1), (2, .int v2), (3, .int v3), (5, .int v12)]) hC dX4_allDrink_102 (by decide) rfl ?_
        refine z_iload hC dX4_allDrink_104 0 rfl ?_
        refine z_aload_n hC dX4_allDrink_106 1 rfl rfl ?_
        refine z_get4 hC 0 (by decide) zw_fl_X4_7 (v := .ref (zad G 57)) rfl dX4_allDrink_107 ?_
        refine z_iload_n hC dX4_allDrink_110 2 rfl rfl ?_
        refine z_bipush hC dX4_allDrink_111 (v := 8) rfl ?_
        refine z_iadd hC dX4_allDrink_113 ?_
        obtain ⟨hg16, hf⟩ := zg_e hf
        refine z_iald hC za_57 hg16 rfl dX4_allDrink_114 ?_
        obtain ⟨j132, hj132, hf⟩ := zjn1_e hf
        have hJ132 : ∀ (v17 : Int32), j132 v17 = some wz → Z G p l e rm_X4_allDrink s m args below meth c (MQ below (zQ G none wz) args s 0 0 (zA G)) 7 132 [(0, .ref (zad G 56)), (1, .int a1), (2, .int v2), (3, .int v3), (5, .int v12)] [.int v17] w4 := by
          intro v17 hf
          replace hf := hj132 v17 hf
          refine z_istore (lv' := [(6, .int v17), (0, .ref (zad G 56)), (1, .int a1), (2, .int v2), (3, .int v3), (5, .int v12)]) hC dX4_allDrink_132 (by decide) rfl ?_
          refine z_aload_n hC dX4_allDrink_134 1 rfl rfl ?_
          refine z_get4 hC 0 (by decide) zw_fl_X4_7 (v := .ref (zad G 57)) rfl dX4_allDrink_135 ?_
          refine z_iload_n hC dX4_allDrink_138 2 rfl rfl ?_
          refine z_iconst hC dX4_allDrink_139 (v := 4) rfl ?_
          refine z_iadd hC dX4_allDrink_140 ?_
          refine z_iload hC dX4_allDrink_141 5 rfl ?_
          refine z_iadd hC dX4_allDrink_143 ?_
          refine z_dup2 hC dX4_allDrink_144 rfl rfl ?_
          obtain ⟨hg18, hf⟩ := zg_e hf
          refine z_iald hC za_57 hg18 rfl dX4_allDrink_145 ?_
          refine z_iload hC dX4_allDrink_146 0 rfl ?_
          refine z_iadd hC dX4_allDrink_148 ?_
          obtain ⟨hg19, hf⟩ := zg_e hf
          obtain ⟨w20, ew20, hf⟩ := zlet_e hf
          refine z_iast hC za_57 hg19 rfl ew20 dX4_allDrink_149 ?_
          refine z_aload_n hC dX4_allDrink_150 1 rfl rfl ?_
          refine z_get4 hC 0 (by decide) zw_fl_X4_7 (v := .ref (zad G 57)) rfl dX4_allDrink_151 ?_
          refine z_iload_n hC dX4_allDrink_154 2 rfl rfl ?_
          refine z_bipush hC dX4_allDrink_155 (v := 8) rfl ?_
          refine z_iadd hC dX4_allDrink_157 ?_
          refine z_dup2 hC dX4_allDrink_158 rfl rfl ?_
          obtain ⟨hg21, hf⟩ := zg_e hf
          refine z_iald hC za_57 hg21 rfl dX4_allDrink_159 ?_
          refine z_iload hC dX4_allDrink_160 0 rfl ?_
          refine z_isub hC dX4_allDrink_162 ?_
          obtain ⟨hg22, hf⟩ := zg_e hf
          obtain ⟨w23, ew23, hf⟩ := zlet_e hf
          refine z_iast hC za_57 hg22 rfl ew23 dX4_allDrink_163 ?_
          refine z_lv [1, 2, 3, 4] rfl ?_
          exact hJ164 _ hf
        refine z_icmp_ge (tgt := 123) hC dX4_allDrink_115 (by decide) (fun h24 => ?_) (fun h24 => ?_)
        · replace hf := zif_t h24 hf
          refine z_aload_n hC dX4_allDrink_123 1 rfl rfl ?_
          refine z_get4 hC 0 (by decide) zw_fl_X4_7 (v := .ref (zad G 57)) rfl dX4_allDrink_124 ?_
          refine z_iload_n hC dX4_allDrink_127 2 rfl rfl ?_
          refine z_bipush hC dX4_allDrink_128 (v := 8) rfl ?_
          refine z_iadd hC dX4_allDrink_130 ?_
          obtain ⟨hg25, hf⟩ := zg_e hf
          refine z_iald hC za_57 hg25 rfl dX4_allDrink_131 ?_
          refine z_lv [1, 2, 3, 4, 5] rfl ?_
          exact hJ132 _ hf
        replace hf := zif_f h24 hf
        refine z_iload hC dX4_allDrink_118 0 rfl ?_
        refine z_goto (tgt := 132) hC dX4_allDrink_120 (by decide) ?_
        refine z_lv [1, 2, 3, 4, 5] rfl ?_
        exact hJ132 _ hf
      refine z_icmp_ge (tgt := 88) hC dX4_allDrink_80 (by decide) (fun h26 => ?_) (fun h26 => ?_)
      · replace hf := zif_t h26 hf
        refine z_bipush hC dX4_allDrink_88 (v := 20) rfl ?_
        refine z_aload_n hC dX4_allDrink_90 3 rfl rfl ?_
        refine z_get4 hC 0 (by decide) zw_fl_X4_7 (v := .ref (zad G 57)) rfl dX4_allDrink_91 ?_
        refine z_iload_n hC dX4_allDrink_94 4 rfl rfl ?_
        refine z_iconst hC dX4_allDrink_95 (v := 4) rfl ?_
        refine z_iadd hC dX4_allDrink_96 ?_
        refine z_iload hC dX4_allDrink_97 1 rfl ?_
        refine z_iadd hC dX4_allDrink_99 ?_
        obtain ⟨hg27, hf⟩ := zg_e hf
        refine z_iald hC za_57 hg27 rfl dX4_allDrink_100 ?_
        refine z_isub hC dX4_allDrink_101 ?_
        refine z_lv [3, 4, 5, 6, 1] rfl ?_
        exact hJ102 _ hf
      replace hf := zif_f h26 hf
      refine z_iload hC dX4_allDrink_83 0 rfl ?_
      refine z_goto (tgt := 102) hC dX4_allDrink_85 (by decide) ?_
      refine z_lv [3, 4, 5, 6, 1] rfl ?_
      exact hJ102 _ hf
  refine z_lv [2, 3, 1, 0] rfl ?_
  exact hL13 _ _ _ hf
theorem zy_X4_allDrink : zYV yX4_allDrink cX4_allDrink 7 none RX4 1 := ⟨zw_cd_X4_allDrink, zw_im_X4_allDrink, zw_sel_X4_allDrink, zw_ini_X4, by decide +kernel⟩
abbrev rm_X4_lossOf : Room := { frames := 2, cells := 0, slots := 0, locals := 46 }
def f_X4_lossOf (w : zW) (a1 : Int32) (a2 : Int32) (a3 : Int32) : Option Int32 :=
  zg (zin a2 4) <|
  zlet (w 58 (zx a2)) fun v2 =>
  zjn1 (fun (v3 : Int32) =>
    zbd (f_X4_isDay w a1) fun v4 =>
    zjn1 (fun (v5 : Int32) =>
      if a3 = (0 : Int32) then
        some ((v5 + (0 : Int32)) + v3)
      else
      some ((v5 + (1 : Int32)) + v3))
    (fun (j50 : Int32 → Option Int32) =>
    if v4 = (0 : Int32) then
      j50 (0 : Int32)
    else
    j50 (1 : Int32)))
  (fun (j35 : Int32 → Option Int32) =>
  zjn0 (
    j35 (1 : Int32))
  (fun (j30 : Option Int32) =>
  if v2 = (3 : Int32) then
    j30
  else
  zjn0 (
    j35 (0 : Int32))
  (fun (j34 : Option Int32) =>
  if v2 = (2 : Int32) then
    zbd (f_X4_hourOn w a1) fun v10 =>
    if (zrem v10 (2 : Int32)) = (0 : Int32) then
      j30
    else
      j34
  else
    j34)))
set_option maxRecDepth 100000 in
set_option maxHeartbeats 4000000 in
theorem c_X4_lossOf (l : Launch) (G : zG) (w : zW) (a1 : Int32) (a2 : Int32) (a3 : Int32) {r : Int32} (hf : f_X4_lossOf w a1 a2 a3 = some r) : zMet l G yX4_lossOf cX4_lossOf 6 (some .int) rm_X4_lossOf [.ref (zad G 56), .int a1, .int a2, .int a3] w (some (.int r)) w := by
  refine z_start (own := RX4) (by decide) rfl (Nat.le_of_ble_eq_true rfl) (lv := [(0, .ref (zad G 56)), (1, .int a1), (2, .int a2), (3, .int a3)]) rfl ?_
  intro p e s m args below meth c hC
  unfold f_X4_lossOf at hf
  refine z_aload_n hC dX4_lossOf_0 0 rfl rfl ?_
  refine z_get4 hC 1 (by decide) zw_fl_X4_13 (v := .ref (zad G 58)) rfl dX4_lossOf_1 ?_
  refine z_iload_n hC dX4_lossOf_4 2 rfl rfl ?_
  obtain ⟨hg1, hf⟩ := zg_e hf
  refine z_iald hC za_58 hg1 rfl dX4_lossOf_5 ?_
  obtain ⟨v2, ev2, hf⟩ := zlet_e hf
  refine z_topi ev2 ?_
  refine z_istore (lv' := [(4, .int v2), (0, .ref (zad G 56)), (1, .int a1), (2, .int a2), (3, .int a3)]) hC dX4_lossOf_6 (by decide) rfl ?_
  refine z_iload hC dX4_lossOf_8 0 rfl ?_
  refine z_iconst hC dX4_lossOf_10 (v := 3) rfl ?_
  obtain ⟨j35, hj35, hf⟩ := zjn1_e hf
  have hJ35 : ∀ (v3 : Int32), j35 v3 = some r → Z G p l e rm_X4_lossOf s m args below meth c (MQ below (zQ G (some (.int r)) w) args s 0 0 (zA G)) 6 35 [(0, .ref (zad G 56)), (1, .int a1), (3, .int a3)] [.int v3] w := by
    intro v3 hf
    replace hf := hj35 v3 hf
    refine z_istore (lv' := [(5, .int v3), (0, .ref (zad G 56)), (1, .int a1), (3, .int a3)]) hC dX4_lossOf_35 (by decide) rfl ?_
    refine z_aload_n hC dX4_lossOf_37 1 rfl rfl ?_
    refine z_iload_n hC dX4_lossOf_38 2 rfl rfl ?_
    obtain ⟨v4, ev4, hf⟩ := zbd_e hf
    refine z_cvi (As := [.int a1]) (rest := []) hC zo_mod rfl (c_X4_isDay l G w a1 ev4) zw_ml_X4_191 zy_X4_isDay ⟨rfl, rfl, Nat.le_of_ble_eq_true rfl, Nat.le_of_ble_eq_true rfl⟩ rfl rfl (Nat.le_of_ble_eq_true rfl) dX4_lossOf_39 ?_
    obtain ⟨j50, hj50, hf⟩ := zjn1_e hf
    have hJ50 : ∀ (v5 : Int32), j50 v5 = some r → Z G p l e rm_X4_lossOf s m args below meth c (MQ below (zQ G (some (.int r)) w) args s 0 0 (zA G)) 6 50 [(3, .int a3), (5, .int v3)] [.int v5] w := by
      intro v5 hf
      replace hf := hj50 v5 hf
      refine z_iload_n hC dX4_lossOf_50 0 rfl rfl ?_
      refine z_if_eq (tgt := 58) hC dX4_lossOf_51 (by decide) (fun h6 => ?_) (fun h6 => ?_)
      · replace hf := zif_t h6 hf
        refine z_iconst hC dX4_lossOf_58 (v := 0) rfl ?_
        refine z_iadd hC dX4_lossOf_59 ?_
        refine z_iload hC dX4_lossOf_60 1 rfl ?_
        refine z_iadd hC dX4_lossOf_62 ?_
        obtain rfl := zso1 hf
        exact z_iret hC dX4_lossOf_63
      replace hf := zif_f h6 hf
      refine z_iconst hC dX4_lossOf_54 (v := 1) rfl ?_
      refine z_goto (tgt := 59) hC dX4_lossOf_55 (by decide) ?_
      refine z_iadd hC dX4_lossOf_59 ?_
      refine z_iload hC dX4_lossOf_60 1 rfl ?_
      refine z_iadd hC dX4_lossOf_62 ?_
      obtain rfl := zso1 hf
      exact z_iret hC dX4_lossOf_63
    refine z_if_eq (tgt := 49) hC dX4_lossOf_42 (by decide) (fun h7 => ?_) (fun h7 => ?_)
    · replace hf := zif_t h7 hf
      refine z_iconst hC dX4_lossOf_49 (v := 0) rfl ?_
      refine z_lv [3, 0] rfl ?_
      exact hJ50 _ hf
    replace hf := zif_f h7 hf
    refine z_iconst hC dX4_lossOf_45 (v := 1) rfl ?_
    refine z_goto (tgt := 50) hC dX4_lossOf_46 (by decide) ?_
    refine z_lv [3, 0] rfl ?_
    exact hJ50 _ hf
  obtain ⟨j30, hj30, hf⟩ := zjn0_e hf
  have hJ30 : j30 = some r → Z G p l e rm_X4_lossOf s m args below meth c (MQ below (zQ G (some (.int r)) w) args s 0 0 (zA G)) 6 30 [(0, .ref (zad G 56)), (1, .int a1), (3, .int a3)] [] w := by
    intro hf
    replace hf := hj30  hf
    refine z_iconst hC dX4_lossOf_30 (v := 1) rfl ?_
    refine z_goto (tgt := 35) hC dX4_lossOf_31 (by decide) ?_
    exact hJ35 _ hf
  refine z_icmp_eq (tgt := 30) hC dX4_lossOf_11 (by decide) (fun h8 => ?_) (fun h8 => ?_)
  · replace hf := zif_t h8 hf
    refine z_lv [1, 2, 4] rfl ?_
    exact hJ30 hf
  replace hf := zif_f h8 hf
  refine z_iload hC dX4_lossOf_14 0 rfl ?_
  refine z_iconst hC dX4_lossOf_16 (v := 2) rfl ?_
  obtain ⟨j34, hj34, hf⟩ := zjn0_e hf
  have hJ34 : j34 = some r → Z G p l e rm_X4_lossOf s m args below meth c (MQ below (zQ G (some (.int r)) w) args s 0 0 (zA G)) 6 34 [(0, .ref (zad G 56)), (1, .int a1), (3, .int a3)] [] w := by
    intro hf
    replace hf := hj34  hf
    refine z_iconst hC dX4_lossOf_34 (v := 0) rfl ?_
    exact hJ35 _ hf
  refine z_icmp_ne (tgt := 34) hC dX4_lossOf_17 (by decide) (fun h9 => ?_) (fun h9 => ?_)
  · replace hf := zif_f h9 hf
    refine z_lv [1, 2, 4] rfl ?_
    exact hJ34 hf
  replace hf := zif_t h9 hf
  refine z_aload_n hC dX4_lossOf_20 1 rfl rfl ?_
  refine z_iload_n hC dX4_lossOf_21 2 rfl rfl ?_
  obtain ⟨v10, ev10, hf⟩ := zbd_e hf
  refine z_cvi (As := [.int a1]) (rest := []) hC zo_mod rfl (c_X4_hourOn l G w a1 ev10) zw_ml_X4_171 zy_X4_hourOn ⟨rfl, rfl, Nat.le_of_ble_eq_true rfl, Nat.le_of_ble_eq_true rfl⟩ rfl rfl (Nat.le_of_ble_eq_true rfl) dX4_lossOf_22 ?_
  refine z_iconst hC dX4_lossOf_25 (v := 2) rfl ?_
  refine z_irem hC dX4_lossOf_26 (by decide) ?_
  refine z_if_ne (tgt := 34) hC dX4_lossOf_27 (by decide) (fun h11 => ?_) (fun h11 => ?_)
  · replace hf := zif_f h11 hf
    refine z_lv [1, 2, 4] rfl ?_
    exact hJ34 hf
  replace hf := zif_t h11 hf
  refine z_lv [1, 2, 4] rfl ?_
  exact hJ30 hf
theorem zy_X4_lossOf : zYV yX4_lossOf cX4_lossOf 6 (some .int) RX4 3 := ⟨zw_cd_X4_lossOf, zw_im_X4_lossOf, zw_sel_X4_lossOf, zw_ini_X4, by decide +kernel⟩
abbrev rm_X4_walksOn : Room := { frames := 2, cells := 0, slots := 0, locals := 46 }
def b_X4_walksOn_93 (a1 : Int32) (v4 : Int32) (k93 : Int32 → zW → Option zW) (v10 : Int32) (w11 : zW) : Option zW :=
  if (w11 56 4) ≤ v10 then
    some w11
  else
  zg (zin ((2 : Int32) * v10) 6) <|
  zjn1 (fun (w14 : zW) =>
    zlet (v10 + (1 : Int32)) fun v15 =>
    k93 v15 w14)
  (fun (j180 : zW → Option zW) =>
  if (w11 59 (zx ((2 : Int32) * v10))) ≤ v4 then
    j180 w11
  else
  zg (zin ((2 : Int32) * v10) 6) <|
  zg (zin (a1 + (9 : Int32)) 120) <|
  if (w11 57 (zx (a1 + (9 : Int32)))) < (w11 59 (zx ((2 : Int32) * v10))) then
    j180 w11
  else
  zg (zin ((a1 + (14 : Int32)) + v10) 120) <|
  if (w11 57 (zx ((a1 + (14 : Int32)) + v10))) = (0 : Int32) then
    zg (zin (((2 : Int32) * v10) + (1 : Int32)) 6) <|
    zbd (f_X4_fillsOn w11 a1 (w11 59 (zx (((2 : Int32) * v10) + (1 : Int32))))) fun w23 =>
    zg (zin ((a1 + (14 : Int32)) + v10) 120) <|
    zlet (zup w23 57 (zx ((a1 + (14 : Int32)) + v10)) (1 : Int32)) fun w25 =>
    j180 w25
  else
    j180 w11)
def b_X4_walksOn_7 (w : zW) (a1 : Int32) (j53 : Int32 → Option zW) (k7 : Int32 → Int32 → Option zW) (v27 : Int32) (v28 : Int32) : Option zW :=
  if ((w 56 6) + (w 56 7)) ≤ v28 then
    j53 v27
  else
  zg (zin ((a1 + (4 : Int32)) + v28) 120) <|
  zjn1 (fun (v31 : Int32) =>
    zlet (v28 + (1 : Int32)) fun v32 =>
    k7 v31 v32)
  (fun (j46 : Int32 → Option zW) =>
  if (f_X4_in ((w 57 (zx ((a1 + (4 : Int32)) + v28))).toInt64) (1 : Int64) (5 : Int64)) = (0 : Int32) then
    j46 v27
  else
  j46 (1 : Int32))
def f_X4_walksOn (w : zW) (a1 : Int32) : Option zW :=
  zlet (w 56 6) fun v1 =>
  zjn1 (fun (v2 : Int32) =>
    zg (zin (a1 + (9 : Int32)) 120) <|
    zlet (w 57 (zx (a1 + (9 : Int32)))) fun v4 =>
    zg (zin (a1 + (9 : Int32)) 120) <|
    zbd (f_X4_isDay w a1) fun v6 =>
    zjn1 (fun (v7 : Int32) =>
      zg (zin (a1 + (9 : Int32)) 120) <|
      zlet (zup w 57 (zx (a1 + (9 : Int32))) ((w 57 (zx (a1 + (9 : Int32)))) + (v7 - v2))) fun w9 =>
      zfix2 (b_X4_walksOn_93 a1 v4) 100000 (0 : Int32) w9)
    (fun (j86 : Int32 → Option zW) =>
    if v6 = (0 : Int32) then
      j86 (3 : Int32)
    else
    j86 (2 : Int32)))
  (fun (j53 : Int32 → Option zW) =>
  zfix2 (b_X4_walksOn_7 w a1 j53) 100000 (0 : Int32) v1)
set_option maxRecDepth 100000 in
set_option maxHeartbeats 4000000 in
theorem c_X4_walksOn (l : Launch) (G : zG) (w : zW) (a1 : Int32) {wz : zW} (hf : f_X4_walksOn w a1 = some wz) : zMet l G yX4_walksOn cX4_walksOn 5 none rm_X4_walksOn [.ref (zad G 56), .int a1] w none wz := by
  refine z_start (own := RX4) (by decide) rfl (Nat.le_of_ble_eq_true rfl) (lv := [(0, .ref (zad G 56)), (1, .int a1)]) rfl ?_
  intro p e s m args below meth c hC
  unfold f_X4_walksOn at hf
  refine z_iconst hC dX4_walksOn_0 (v := 0) rfl ?_
  refine z_istore_n (lv' := [(2, .int (0 : Int32)), (0, .ref (zad G 56)), (1, .int a1)]) hC dX4_walksOn_1 rfl (by decide) rfl ?_
  refine z_aload_n hC dX4_walksOn_2 1 rfl rfl ?_
  refine z_get4 hC 6 (by decide) zw_fl_X4_156 (v := .int (w 56 6)) rfl dX4_walksOn_3 ?_
  obtain ⟨v1, ev1, hf⟩ := zlet_e hf
  refine z_topi ev1 ?_
  refine z_istore_n (lv' := [(3, .int v1), (2, .int (0 : Int32)), (0, .ref (zad G 56)), (1, .int a1)]) hC dX4_walksOn_6 rfl (by decide) rfl ?_
  obtain ⟨j53, hj53, hf⟩ := zjn1_e hf
  have hJ53 : ∀ (v2 : Int32), j53 v2 = some wz → Z G p l e rm_X4_walksOn s m args below meth c (MQ below (zQ G none wz) args s 0 0 (zA G)) 5 53 [(0, .ref (zad G 56)), (1, .int a1), (2, .int v2)] [] w := by
    intro v2 hf
    replace hf := hj53 v2 hf
    refine z_aload_n hC dX4_walksOn_53 0 rfl rfl ?_
    refine z_get4 hC 0 (by decide) zw_fl_X4_7 (v := .ref (zad G 57)) rfl dX4_walksOn_54 ?_
    refine z_iload_n hC dX4_walksOn_57 1 rfl rfl ?_
    refine z_bipush hC dX4_walksOn_58 (v := 9) rfl ?_
    refine z_iadd hC dX4_walksOn_60 ?_
    obtain ⟨hg3, hf⟩ := zg_e hf
    refine z_iald hC za_57 hg3 rfl dX4_walksOn_61 ?_
    obtain ⟨v4, ev4, hf⟩ := zlet_e hf
    refine z_topi ev4 ?_
    refine z_istore_n (lv' := [(3, .int v4), (0, .ref (zad G 56)), (1, .int a1), (2, .int v2)]) hC dX4_walksOn_62 rfl (by decide) rfl ?_
    refine z_aload_n hC dX4_walksOn_63 1 rfl rfl ?_
    refine z_get4 hC 0 (by decide) zw_fl_X4_7 (v := .ref (zad G 57)) rfl dX4_walksOn_64 ?_
    refine z_iload_n hC dX4_walksOn_67 2 rfl rfl ?_
    refine z_bipush hC dX4_walksOn_68 (v := 9) rfl ?_
    refine z_iadd hC dX4_walksOn_70 ?_
    refine z_dup2 hC dX4_walksOn_71 rfl rfl ?_
    obtain ⟨hg5, hf⟩ := zg_e hf
    refine z_iald hC za_57 hg5 rfl dX4_walksOn_72 ?_
    refine z_aload_n hC dX4_walksOn_73 1 rfl rfl ?_
    refine z_iload_n hC dX4_walksOn_74 2 rfl rfl ?_
    obtain ⟨v6, ev6, hf⟩ := zbd_e hf
    refine z_cvi (As := [.int a1]) (rest := [.int (w 57 (zx (a1 + (9 : Int32)))), .int (a1 + (9 : Int32)), .ref (zad G 57)]) hC zo_mod rfl (c_X4_isDay l G w a1 ev6) zw_ml_X4_191 zy_X4_isDay ⟨rfl, rfl, Nat.le_of_ble_eq_true rfl, Nat.le_of_ble_eq_true rfl⟩ rfl rfl (Nat.le_of_ble_eq_true rfl) dX4_walksOn_75 ?_
    obtain ⟨j86, hj86, hf⟩ := zjn1_e hf
    have hJ86 : ∀ (v7 : Int32), j86 v7 = some wz → Z G p l e rm_X4_walksOn s m args below meth c (MQ below (zQ G none wz) args s 0 0 (zA G)) 5 86 [(0, .ref (zad G 56)), (1, .int a1), (2, .int v2), (3, .int v4)] [.int v7, .int (w 57 (zx (a1 + (9 : Int32)))), .int (a1 + (9 : Int32)), .ref (zad G 57)] w := by
      intro v7 hf
      replace hf := hj86 v7 hf
      refine z_iload_n hC dX4_walksOn_86 2 rfl rfl ?_
      refine z_isub hC dX4_walksOn_87 ?_
      refine z_iadd hC dX4_walksOn_88 ?_
      obtain ⟨hg8, hf⟩ := zg_e hf
      obtain ⟨w9, ew9, hf⟩ := zlet_e hf
      refine z_iast hC za_57 hg8 rfl ew9 dX4_walksOn_89 ?_
      refine z_iconst hC dX4_walksOn_90 (v := 0) rfl ?_
      refine z_istore (lv' := [(4, .int (0 : Int32)), (0, .ref (zad G 56)), (1, .int a1), (2, .int v2), (3, .int v4)]) hC dX4_walksOn_91 (by decide) rfl ?_
      have hL93 : ∀ (n : Nat) (v10 : Int32) (w11 : zW), zfix2 (b_X4_walksOn_93 a1 v4) n v10 w11 = some wz → Z G p l e rm_X4_walksOn s m args below meth c (MQ below (zQ G none wz) args s 0 0 (zA G)) 5 93 [(0, .ref (zad G 56)), (1, .int a1), (3, .int v4), (4, .int v10)] [] w11 := by
        intro n
        induction n with
        | zero => intro v10 w11 hf; exact (zfix2_0 hf).elim
        | succ n ih93 =>
          intro v10 w11 hf
          replace hf := zfix2_e hf
          unfold b_X4_walksOn_93 at hf
          refine z_iload hC dX4_walksOn_93 3 rfl ?_
          refine z_aload_n hC dX4_walksOn_95 0 rfl rfl ?_
          refine z_get4 hC 4 (by decide) zw_fl_X4_153 (v := .int (w11 56 4)) rfl dX4_walksOn_96 ?_
          refine z_icmp_ge (tgt := 186) hC dX4_walksOn_99 (by decide) (fun h12 => ?_) (fun h12 => ?_)
          · replace hf := zif_t h12 hf
            obtain rfl := zso1 hf
            exact z_vret hC dX4_walksOn_186
          replace hf := zif_f h12 hf
          refine z_aload_n hC dX4_walksOn_102 0 rfl rfl ?_
          refine z_get4 hC 3 (by decide) zw_fl_X4_16 (v := .ref (zad G 59)) rfl dX4_walksOn_103 ?_
          refine z_iconst hC dX4_walksOn_106 (v := 2) rfl ?_
          refine z_iload hC dX4_walksOn_107 3 rfl ?_
          refine z_imul hC dX4_walksOn_109 ?_
          obtain ⟨hg13, hf⟩ := zg_e hf
          refine z_iald hC za_59 hg13 rfl dX4_walksOn_110 ?_
          refine z_iload_n hC dX4_walksOn_111 2 rfl rfl ?_
          obtain ⟨j180, hj180, hf⟩ := zjn1_e hf
          have hJ180 : ∀ (w14 : zW), j180 w14 = some wz → Z G p l e rm_X4_walksOn s m args below meth c (MQ below (zQ G none wz) args s 0 0 (zA G)) 5 180 [(0, .ref (zad G 56)), (1, .int a1), (3, .int v4), (4, .int v10)] [] w14 := by
            intro w14 hf
            replace hf := hj180 w14 hf
            obtain ⟨v15, ev15, hf⟩ := zlet_e hf
            refine z_iinc (v := v15) (lv' := [(4, .int v15), (0, .ref (zad G 56)), (1, .int a1), (3, .int v4)]) hC dX4_walksOn_180 3 rfl (by rw [ev15]; rfl) (by decide) rfl ?_
            refine z_goto (tgt := 93) hC dX4_walksOn_183 (by decide) ?_
            refine z_lv [1, 2, 3, 0] rfl ?_
            exact ih93 _ _ hf
          refine z_icmp_le (tgt := 180) hC dX4_walksOn_112 (by decide) (fun h16 => ?_) (fun h16 => ?_)
          · replace hf := zif_t h16 hf
            exact hJ180 _ hf
          replace hf := zif_f h16 hf
          refine z_aload_n hC dX4_walksOn_115 0 rfl rfl ?_
          refine z_get4 hC 3 (by decide) zw_fl_X4_16 (v := .ref (zad G 59)) rfl dX4_walksOn_116 ?_
          refine z_iconst hC dX4_walksOn_119 (v := 2) rfl ?_
          refine z_iload hC dX4_walksOn_120 3 rfl ?_
          refine z_imul hC dX4_walksOn_122 ?_
          obtain ⟨hg17, hf⟩ := zg_e hf
          refine z_iald hC za_59 hg17 rfl dX4_walksOn_123 ?_
          refine z_aload_n hC dX4_walksOn_124 0 rfl rfl ?_
          refine z_get4 hC 0 (by decide) zw_fl_X4_7 (v := .ref (zad G 57)) rfl dX4_walksOn_125 ?_
          refine z_iload_n hC dX4_walksOn_128 1 rfl rfl ?_
          refine z_bipush hC dX4_walksOn_129 (v := 9) rfl ?_
          refine z_iadd hC dX4_walksOn_131 ?_
          obtain ⟨hg18, hf⟩ := zg_e hf
          refine z_iald hC za_57 hg18 rfl dX4_walksOn_132 ?_
          refine z_icmp_gt (tgt := 180) hC dX4_walksOn_133 (by decide) (fun h19 => ?_) (fun h19 => ?_)
          · replace hf := zif_t h19 hf
            exact hJ180 _ hf
          replace hf := zif_f h19 hf
          refine z_aload_n hC dX4_walksOn_136 0 rfl rfl ?_
          refine z_get4 hC 0 (by decide) zw_fl_X4_7 (v := .ref (zad G 57)) rfl dX4_walksOn_137 ?_
          refine z_iload_n hC dX4_walksOn_140 1 rfl rfl ?_
          refine z_bipush hC dX4_walksOn_141 (v := 14) rfl ?_
          refine z_iadd hC dX4_walksOn_143 ?_
          refine z_iload hC dX4_walksOn_144 3 rfl ?_
          refine z_iadd hC dX4_walksOn_146 ?_
          obtain ⟨hg20, hf⟩ := zg_e hf
          refine z_iald hC za_57 hg20 rfl dX4_walksOn_147 ?_
          refine z_if_ne (tgt := 180) hC dX4_walksOn_148 (by decide) (fun h21 => ?_) (fun h21 => ?_)
          · replace hf := zif_f h21 hf
            exact hJ180 _ hf
          replace hf := zif_t h21 hf
          refine z_aload_n hC dX4_walksOn_151 0 rfl rfl ?_
          refine z_iload_n hC dX4_walksOn_152 1 rfl rfl ?_
          refine z_aload_n hC dX4_walksOn_153 0 rfl rfl ?_
          refine z_get4 hC 3 (by decide) zw_fl_X4_16 (v := .ref (zad G 59)) rfl dX4_walksOn_154 ?_
          refine z_iconst hC dX4_walksOn_157 (v := 2) rfl ?_
          refine z_iload hC dX4_walksOn_158 3 rfl ?_
          refine z_imul hC dX4_walksOn_160 ?_
          refine z_iconst hC dX4_walksOn_161 (v := 1) rfl ?_
          refine z_iadd hC dX4_walksOn_162 ?_
          obtain ⟨hg22, hf⟩ := zg_e hf
          refine z_iald hC za_59 hg22 rfl dX4_walksOn_163 ?_
          obtain ⟨w23, ew23, hf⟩ := zbd_e hf
          refine z_cvv (As := [.int a1, .int (w11 59 (zx (((2 : Int32) * v10) + (1 : Int32))))]) (rest := []) hC zo_mod rfl (c_X4_fillsOn l G w11 a1 (w11 59 (zx (((2 : Int32) * v10) + (1 : Int32)))) ew23) zw_ml_X4_224 zy_X4_fillsOn ⟨rfl, rfl, Nat.le_of_ble_eq_true rfl, Nat.le_of_ble_eq_true rfl⟩ rfl rfl (Nat.le_of_ble_eq_true rfl) dX4_walksOn_164 ?_
          refine z_aload_n hC dX4_walksOn_167 0 rfl rfl ?_
          refine z_get4 hC 0 (by decide) zw_fl_X4_7 (v := .ref (zad G 57)) rfl dX4_walksOn_168 ?_
          refine z_iload_n hC dX4_walksOn_171 1 rfl rfl ?_
          refine z_bipush hC dX4_walksOn_172 (v := 14) rfl ?_
          refine z_iadd hC dX4_walksOn_174 ?_
          refine z_iload hC dX4_walksOn_175 3 rfl ?_
          refine z_iadd hC dX4_walksOn_177 ?_
          refine z_iconst hC dX4_walksOn_178 (v := 1) rfl ?_
          obtain ⟨hg24, hf⟩ := zg_e hf
          obtain ⟨w25, ew25, hf⟩ := zlet_e hf
          refine z_iast hC za_57 hg24 rfl ew25 dX4_walksOn_179 ?_
          exact hJ180 _ hf
      refine z_lv [1, 2, 4, 0] rfl ?_
      exact hL93 _ _ _ hf
    refine z_if_eq (tgt := 85) hC dX4_walksOn_78 (by decide) (fun h26 => ?_) (fun h26 => ?_)
    · replace hf := zif_t h26 hf
      refine z_iconst hC dX4_walksOn_85 (v := 3) rfl ?_
      refine z_lv [1, 2, 3, 0] rfl ?_
      exact hJ86 _ hf
    replace hf := zif_f h26 hf
    refine z_iconst hC dX4_walksOn_81 (v := 2) rfl ?_
    refine z_goto (tgt := 86) hC dX4_walksOn_82 (by decide) ?_
    refine z_lv [1, 2, 3, 0] rfl ?_
    exact hJ86 _ hf
  have hL7 : ∀ (n : Nat) (v27 : Int32) (v28 : Int32), zfix2 (b_X4_walksOn_7 w a1 j53) n v27 v28 = some wz → Z G p l e rm_X4_walksOn s m args below meth c (MQ below (zQ G none wz) args s 0 0 (zA G)) 5 7 [(0, .ref (zad G 56)), (1, .int a1), (2, .int v27), (3, .int v28)] [] w := by
    intro n
    induction n with
    | zero => intro v27 v28 hf; exact (zfix2_0 hf).elim
    | succ n ih7 =>
      intro v27 v28 hf
      replace hf := zfix2_e hf
      unfold b_X4_walksOn_7 at hf
      refine z_iload_n hC dX4_walksOn_7 3 rfl rfl ?_
      refine z_aload_n hC dX4_walksOn_8 0 rfl rfl ?_
      refine z_get4 hC 6 (by decide) zw_fl_X4_156 (v := .int (w 56 6)) rfl dX4_walksOn_9 ?_
      refine z_aload_n hC dX4_walksOn_12 0 rfl rfl ?_
      refine z_get4 hC 7 (by decide) zw_fl_X4_159 (v := .int (w 56 7)) rfl dX4_walksOn_13 ?_
      refine z_iadd hC dX4_walksOn_16 ?_
      refine z_icmp_ge (tgt := 53) hC dX4_walksOn_17 (by decide) (fun h29 => ?_) (fun h29 => ?_)
      · replace hf := zif_t h29 hf
        refine z_lv [0, 1, 2] rfl ?_
        exact hJ53 _ hf
      replace hf := zif_f h29 hf
      refine z_aload_n hC dX4_walksOn_20 0 rfl rfl ?_
      refine z_get4 hC 0 (by decide) zw_fl_X4_7 (v := .ref (zad G 57)) rfl dX4_walksOn_21 ?_
      refine z_iload_n hC dX4_walksOn_24 1 rfl rfl ?_
      refine z_iconst hC dX4_walksOn_25 (v := 4) rfl ?_
      refine z_iadd hC dX4_walksOn_26 ?_
      refine z_iload_n hC dX4_walksOn_27 3 rfl rfl ?_
      refine z_iadd hC dX4_walksOn_28 ?_
      obtain ⟨hg30, hf⟩ := zg_e hf
      refine z_iald hC za_57 hg30 rfl dX4_walksOn_29 ?_
      refine z_i2l hC dX4_walksOn_30 ?_
      refine z_lconst hC dX4_walksOn_31 (v := 1) rfl ?_
      refine z_ldc2 hC zw_cst_X4_133 dX4_walksOn_32 ?_
      refine z_csi (As := [.long ((w 57 (zx ((a1 + (4 : Int32)) + v28))).toInt64), .long (1 : Int64), .long (5 : Int64)]) (rest := []) hC (c_X4_in l G w ((w 57 (zx ((a1 + (4 : Int32)) + v28))).toInt64) (1 : Int64) (5 : Int64)) zw_ml_X4_59 zy_X4_in ⟨rfl, rfl, Nat.le_of_ble_eq_true rfl, Nat.le_of_ble_eq_true rfl⟩ rfl rfl (Nat.le_of_ble_eq_true rfl) dX4_walksOn_35 ?_
      obtain ⟨j46, hj46, hf⟩ := zjn1_e hf
      have hJ46 : ∀ (v31 : Int32), j46 v31 = some wz → Z G p l e rm_X4_walksOn s m args below meth c (MQ below (zQ G none wz) args s 0 0 (zA G)) 5 46 [(0, .ref (zad G 56)), (1, .int a1), (3, .int v28)] [.int v31] w := by
        intro v31 hf
        replace hf := hj46 v31 hf
        refine z_istore_n (lv' := [(2, .int v31), (0, .ref (zad G 56)), (1, .int a1), (3, .int v28)]) hC dX4_walksOn_46 rfl (by decide) rfl ?_
        obtain ⟨v32, ev32, hf⟩ := zlet_e hf
        refine z_iinc (v := v32) (lv' := [(3, .int v32), (2, .int v31), (0, .ref (zad G 56)), (1, .int a1)]) hC dX4_walksOn_47 3 rfl (by rw [ev32]; rfl) (by decide) rfl ?_
        refine z_goto (tgt := 7) hC dX4_walksOn_50 (by decide) ?_
        refine z_lv [2, 3, 1, 0] rfl ?_
        exact ih7 _ _ hf
      refine z_if_eq (tgt := 45) hC dX4_walksOn_38 (by decide) (fun h33 => ?_) (fun h33 => ?_)
      · replace hf := zif_t h33 hf
        refine z_iload_n hC dX4_walksOn_45 2 rfl rfl ?_
        refine z_lv [0, 1, 3] rfl ?_
        exact hJ46 _ hf
      replace hf := zif_f h33 hf
      refine z_iconst hC dX4_walksOn_41 (v := 1) rfl ?_
      refine z_goto (tgt := 46) hC dX4_walksOn_42 (by decide) ?_
      refine z_lv [0, 1, 3] rfl ?_
      exact hJ46 _ hf
  refine z_lv [2, 3, 1, 0] rfl ?_
  exact hL7 _ _ _ hf
theorem zy_X4_walksOn : zYV yX4_walksOn cX4_walksOn 5 none RX4 1 := ⟨zw_cd_X4_walksOn, zw_im_X4_walksOn, zw_sel_X4_walksOn, zw_ini_X4, by decide +kernel⟩
abbrev rm_X4_anHour : Room := { frames := 4, cells := 0, slots := 0, locals := 91 }
def b_X4_anHour_44 (a1 : Int32) (a2 : Int32) (j104 : zW → Option zW) (k44 : Int32 → zW → Option zW) (v16 : Int32) (w17 : zW) : Option zW :=
  if ((w17 56 6) + (w17 56 7)) ≤ v16 then
    j104 w17
  else
  zg (zin ((a1 + (4 : Int32)) + v16) 120) <|
  zbd (f_X4_lossOf w17 a1 v16 a2) fun v20 =>
  zlet ((w17 57 (zx ((a1 + (4 : Int32)) + v16))) - v20) fun v21 =>
  zjn1 (fun (v22 : Int32) =>
    zg (zin ((a1 + (4 : Int32)) + v16) 120) <|
    zlet (zup w17 57 (zx ((a1 + (4 : Int32)) + v16)) v22) fun w24 =>
    zlet (v16 + (1 : Int32)) fun v25 =>
    k44 v25 w24)
  (fun (j97 : Int32 → Option zW) =>
  if v21 ≤ (0 : Int32) then
    j97 (0 : Int32)
  else
  j97 v21)
def f_X4_anHour (w : zW) (a1 : Int32) (a2 : Int32) : Option zW :=
  zbd (f_X4_isOver w a1) fun v1 =>
  zjn1 (fun (w2 : zW) =>
    zg (zin (a1 + (10 : Int32)) 120) <|
    zg (zin (a1 + (10 : Int32)) 120) <|
    zlet (zup w2 57 (zx (a1 + (10 : Int32))) ((w2 57 (zx (a1 + (10 : Int32)))) + (1 : Int32))) fun w5 =>
    some w5)
  (fun (j121 : zW → Option zW) =>
  if v1 = (0 : Int32) then
    zbd (f_X4_hourOn w a1) fun v7 =>
    zjn1 (fun (w8 : zW) =>
      zbd (f_X4_allDrink w8 a1) fun w9 =>
      zlet (w9 56 6) fun v10 =>
      zjn1 (fun (w11 : zW) =>
        if a2 = (0 : Int32) then
          j121 w11
        else
        zbd (f_X4_upOn w11 a1) fun v13 =>
        if v13 ≤ (0 : Int32) then
          j121 w11
        else
        zbd (f_X4_walksOn w11 a1) fun w15 =>
        j121 w15)
      (fun (j104 : zW → Option zW) =>
      zfix2 (b_X4_anHour_44 a1 a2 j104) 100000 v10 w9))
    (fun (j34 : zW → Option zW) =>
    if (zrem v7 (24 : Int32)) = (4 : Int32) then
      zg (zin (a1 + (12 : Int32)) 120) <|
      zbd (f_X4_fillsOn w a1 (w 57 (zx (a1 + (12 : Int32))))) fun w29 =>
      j34 w29
    else
      j34 w)
  else
    j121 w)
set_option maxRecDepth 100000 in
set_option maxHeartbeats 4000000 in
theorem c_X4_anHour (l : Launch) (G : zG) (w : zW) (a1 : Int32) (a2 : Int32) {wz : zW} (hf : f_X4_anHour w a1 a2 = some wz) : zMet l G yX4_anHour cX4_anHour 5 none rm_X4_anHour [.ref (zad G 56), .int a1, .int a2] w none wz := by
  refine z_start (own := RX4) (by decide) rfl (Nat.le_of_ble_eq_true rfl) (lv := [(0, .ref (zad G 56)), (1, .int a1), (2, .int a2)]) rfl ?_
  intro p e s m args below meth c hC
  unfold f_X4_anHour at hf
  refine z_aload_n hC dX4_anHour_0 0 rfl rfl ?_
  refine z_iload_n hC dX4_anHour_1 1 rfl rfl ?_
  obtain ⟨v1, ev1, hf⟩ := zbd_e hf
  refine z_cvi (As := [.int a1]) (rest := []) hC zo_mod rfl (c_X4_isOver l G w a1 ev1) zw_ml_X4_228 zy_X4_isOver ⟨rfl, rfl, Nat.le_of_ble_eq_true rfl, Nat.le_of_ble_eq_true rfl⟩ rfl rfl (Nat.le_of_ble_eq_true rfl) dX4_anHour_2 ?_
  obtain ⟨j121, hj121, hf⟩ := zjn1_e hf
  have hJ121 : ∀ (w2 : zW), j121 w2 = some wz → Z G p l e rm_X4_anHour s m args below meth c (MQ below (zQ G none wz) args s 0 0 (zA G)) 5 121 [(0, .ref (zad G 56)), (1, .int a1)] [] w2 := by
    intro w2 hf
    replace hf := hj121 w2 hf
    refine z_aload_n hC dX4_anHour_121 0 rfl rfl ?_
    refine z_get4 hC 0 (by decide) zw_fl_X4_7 (v := .ref (zad G 57)) rfl dX4_anHour_122 ?_
    refine z_iload_n hC dX4_anHour_125 1 rfl rfl ?_
    refine z_bipush hC dX4_anHour_126 (v := 10) rfl ?_
    refine z_iadd hC dX4_anHour_128 ?_
    refine z_dup2 hC dX4_anHour_129 rfl rfl ?_
    obtain ⟨hg3, hf⟩ := zg_e hf
    refine z_iald hC za_57 hg3 rfl dX4_anHour_130 ?_
    refine z_iconst hC dX4_anHour_131 (v := 1) rfl ?_
    refine z_iadd hC dX4_anHour_132 ?_
    obtain ⟨hg4, hf⟩ := zg_e hf
    obtain ⟨w5, ew5, hf⟩ := zlet_e hf
    refine z_iast hC za_57 hg4 rfl ew5 dX4_anHour_133 ?_
    obtain rfl := zso1 hf
    exact z_vret hC dX4_anHour_134
  refine z_if_ne (tgt := 121) hC dX4_anHour_5 (by decide) (fun h6 => ?_) (fun h6 => ?_)
  · replace hf := zif_f h6 hf
    refine z_lv [0, 1] rfl ?_
    exact hJ121 _ hf
  replace hf := zif_t h6 hf
  refine z_aload_n hC dX4_anHour_8 0 rfl rfl ?_
  refine z_iload_n hC dX4_anHour_9 1 rfl rfl ?_
  obtain ⟨v7, ev7, hf⟩ := zbd_e hf
  refine z_cvi (As := [.int a1]) (rest := []) hC zo_mod rfl (c_X4_hourOn l G w a1 ev7) zw_ml_X4_171 zy_X4_hourOn ⟨rfl, rfl, Nat.le_of_ble_eq_true rfl, Nat.le_of_ble_eq_true rfl⟩ rfl rfl (Nat.le_of_ble_eq_true rfl) dX4_anHour_10 ?_
  refine z_bipush hC dX4_anHour_13 (v := 24) rfl ?_
  refine z_irem hC dX4_anHour_15 (by decide) ?_
  refine z_iconst hC dX4_anHour_16 (v := 4) rfl ?_
  obtain ⟨j34, hj34, hf⟩ := zjn1_e hf
  have hJ34 : ∀ (w8 : zW), j34 w8 = some wz → Z G p l e rm_X4_anHour s m args below meth c (MQ below (zQ G none wz) args s 0 0 (zA G)) 5 34 [(0, .ref (zad G 56)), (1, .int a1), (2, .int a2)] [] w8 := by
    intro w8 hf
    replace hf := hj34 w8 hf
    refine z_aload_n hC dX4_anHour_34 0 rfl rfl ?_
    refine z_iload_n hC dX4_anHour_35 1 rfl rfl ?_
    obtain ⟨w9, ew9, hf⟩ := zbd_e hf
    refine z_cvv (As := [.int a1]) (rest := []) hC zo_mod rfl (c_X4_allDrink l G w8 a1 ew9) zw_ml_X4_231 zy_X4_allDrink ⟨rfl, rfl, Nat.le_of_ble_eq_true rfl, Nat.le_of_ble_eq_true rfl⟩ rfl rfl (Nat.le_of_ble_eq_true rfl) dX4_anHour_36 ?_
    refine z_aload_n hC dX4_anHour_39 0 rfl rfl ?_
    refine z_get4 hC 6 (by decide) zw_fl_X4_156 (v := .int (w9 56 6)) rfl dX4_anHour_40 ?_
    obtain ⟨v10, ev10, hf⟩ := zlet_e hf
    refine z_topi ev10 ?_
    refine z_istore_n (lv' := [(3, .int v10), (0, .ref (zad G 56)), (1, .int a1), (2, .int a2)]) hC dX4_anHour_43 rfl (by decide) rfl ?_
    obtain ⟨j104, hj104, hf⟩ := zjn1_e hf
    have hJ104 : ∀ (w11 : zW), j104 w11 = some wz → Z G p l e rm_X4_anHour s m args below meth c (MQ below (zQ G none wz) args s 0 0 (zA G)) 5 104 [(0, .ref (zad G 56)), (1, .int a1), (2, .int a2)] [] w11 := by
      intro w11 hf
      replace hf := hj104 w11 hf
      refine z_iload_n hC dX4_anHour_104 2 rfl rfl ?_
      refine z_if_eq (tgt := 121) hC dX4_anHour_105 (by decide) (fun h12 => ?_) (fun h12 => ?_)
      · replace hf := zif_t h12 hf
        refine z_lv [0, 1] rfl ?_
        exact hJ121 _ hf
      replace hf := zif_f h12 hf
      refine z_aload_n hC dX4_anHour_108 0 rfl rfl ?_
      refine z_iload_n hC dX4_anHour_109 1 rfl rfl ?_
      obtain ⟨v13, ev13, hf⟩ := zbd_e hf
      refine z_cvi (As := [.int a1]) (rest := []) hC zo_mod rfl (c_X4_upOn l G w11 a1 ev13) zw_ml_X4_218 zy_X4_upOn ⟨rfl, rfl, Nat.le_of_ble_eq_true rfl, Nat.le_of_ble_eq_true rfl⟩ rfl rfl (Nat.le_of_ble_eq_true rfl) dX4_anHour_110 ?_
      refine z_if_le (tgt := 121) hC dX4_anHour_113 (by decide) (fun h14 => ?_) (fun h14 => ?_)
      · replace hf := zif_t h14 hf
        refine z_lv [0, 1] rfl ?_
        exact hJ121 _ hf
      replace hf := zif_f h14 hf
      refine z_aload_n hC dX4_anHour_116 0 rfl rfl ?_
      refine z_iload_n hC dX4_anHour_117 1 rfl rfl ?_
      obtain ⟨w15, ew15, hf⟩ := zbd_e hf
      refine z_cvv (As := [.int a1]) (rest := []) hC zo_mod rfl (c_X4_walksOn l G w11 a1 ew15) zw_ml_X4_234 zy_X4_walksOn ⟨rfl, rfl, Nat.le_of_ble_eq_true rfl, Nat.le_of_ble_eq_true rfl⟩ rfl rfl (Nat.le_of_ble_eq_true rfl) dX4_anHour_118 ?_
      refine z_lv [0, 1] rfl ?_
      exact hJ121 _ hf
    have hL44 : ∀ (n : Nat) (v16 : Int32) (w17 : zW), zfix2 (b_X4_anHour_44 a1 a2 j104) n v16 w17 = some wz → Z G p l e rm_X4_anHour s m args below meth c (MQ below (zQ G none wz) args s 0 0 (zA G)) 5 44 [(0, .ref (zad G 56)), (1, .int a1), (2, .int a2), (3, .int v16)] [] w17 := by
      intro n
      induction n with
      | zero => intro v16 w17 hf; exact (zfix2_0 hf).elim
      | succ n ih44 =>
        intro v16 w17 hf
        replace hf := zfix2_e hf
        unfold b_X4_anHour_44 at hf
        refine z_iload_n hC dX4_anHour_44 3 rfl rfl ?_
        refine z_aload_n hC dX4_anHour_45 0 rfl rfl ?_
        refine z_get4 hC 6 (by decide) zw_fl_X4_156 (v := .int (w17 56 6)) rfl dX4_anHour_46 ?_
        refine z_aload_n hC dX4_anHour_49 0 rfl rfl ?_
        refine z_get4 hC 7 (by decide) zw_fl_X4_159 (v := .int (w17 56 7)) rfl dX4_anHour_50 ?_
        refine z_iadd hC dX4_anHour_53 ?_
        refine z_icmp_ge (tgt := 104) hC dX4_anHour_54 (by decide) (fun h18 => ?_) (fun h18 => ?_)
        · replace hf := zif_t h18 hf
          refine z_lv [0, 1, 2] rfl ?_
          exact hJ104 _ hf
        replace hf := zif_f h18 hf
        refine z_aload_n hC dX4_anHour_57 0 rfl rfl ?_
        refine z_get4 hC 0 (by decide) zw_fl_X4_7 (v := .ref (zad G 57)) rfl dX4_anHour_58 ?_
        refine z_iload_n hC dX4_anHour_61 1 rfl rfl ?_
        refine z_iconst hC dX4_anHour_62 (v := 4) rfl ?_
        refine z_iadd hC dX4_anHour_63 ?_
        refine z_iload_n hC dX4_anHour_64 3 rfl rfl ?_
        refine z_iadd hC dX4_anHour_65 ?_
        obtain ⟨hg19, hf⟩ := zg_e hf
        refine z_iald hC za_57 hg19 rfl dX4_anHour_66 ?_
        refine z_aload_n hC dX4_anHour_67 0 rfl rfl ?_
        refine z_iload_n hC dX4_anHour_68 1 rfl rfl ?_
        refine z_iload_n hC dX4_anHour_69 3 rfl rfl ?_
        refine z_iload_n hC dX4_anHour_70 2 rfl rfl ?_
        obtain ⟨v20, ev20, hf⟩ := zbd_e hf
        refine z_cvi (As := [.int a1, .int v16, .int a2]) (rest := [.int (w17 57 (zx ((a1 + (4 : Int32)) + v16)))]) hC zo_mod rfl (c_X4_lossOf l G w17 a1 v16 a2 ev20) zw_ml_X4_194 zy_X4_lossOf ⟨rfl, rfl, Nat.le_of_ble_eq_true rfl, Nat.le_of_ble_eq_true rfl⟩ rfl rfl (Nat.le_of_ble_eq_true rfl) dX4_anHour_71 ?_
        refine z_isub hC dX4_anHour_74 ?_
        obtain ⟨v21, ev21, hf⟩ := zlet_e hf
        refine z_topi ev21 ?_
        refine z_istore (lv' := [(4, .int v21), (0, .ref (zad G 56)), (1, .int a1), (2, .int a2), (3, .int v16)]) hC dX4_anHour_75 (by decide) rfl ?_
        refine z_aload_n hC dX4_anHour_77 1 rfl rfl ?_
        refine z_get4 hC 0 (by decide) zw_fl_X4_7 (v := .ref (zad G 57)) rfl dX4_anHour_78 ?_
        refine z_iload_n hC dX4_anHour_81 2 rfl rfl ?_
        refine z_iconst hC dX4_anHour_82 (v := 4) rfl ?_
        refine z_iadd hC dX4_anHour_83 ?_
        refine z_iload_n hC dX4_anHour_84 4 rfl rfl ?_
        refine z_iadd hC dX4_anHour_85 ?_
        refine z_iload hC dX4_anHour_86 0 rfl ?_
        obtain ⟨j97, hj97, hf⟩ := zjn1_e hf
        have hJ97 : ∀ (v22 : Int32), j97 v22 = some wz → Z G p l e rm_X4_anHour s m args below meth c (MQ below (zQ G none wz) args s 0 0 (zA G)) 5 97 [(0, .ref (zad G 56)), (1, .int a1), (2, .int a2), (3, .int v16)] [.int v22, .int ((a1 + (4 : Int32)) + v16), .ref (zad G 57)] w17 := by
          intro v22 hf
          replace hf := hj97 v22 hf
          obtain ⟨hg23, hf⟩ := zg_e hf
          obtain ⟨w24, ew24, hf⟩ := zlet_e hf
          refine z_iast hC za_57 hg23 rfl ew24 dX4_anHour_97 ?_
          obtain ⟨v25, ev25, hf⟩ := zlet_e hf
          refine z_iinc (v := v25) (lv' := [(3, .int v25), (0, .ref (zad G 56)), (1, .int a1), (2, .int a2)]) hC dX4_anHour_98 3 rfl (by rw [ev25]; rfl) (by decide) rfl ?_
          refine z_goto (tgt := 44) hC dX4_anHour_101 (by decide) ?_
          refine z_lv [1, 2, 3, 0] rfl ?_
          exact ih44 _ _ hf
        refine z_if_le (tgt := 96) hC dX4_anHour_88 (by decide) (fun h26 => ?_) (fun h26 => ?_)
        · replace hf := zif_t h26 hf
          refine z_iconst hC dX4_anHour_96 (v := 0) rfl ?_
          refine z_lv [1, 2, 3, 4] rfl ?_
          exact hJ97 _ hf
        replace hf := zif_f h26 hf
        refine z_iload hC dX4_anHour_91 0 rfl ?_
        refine z_goto (tgt := 97) hC dX4_anHour_93 (by decide) ?_
        refine z_lv [1, 2, 3, 4] rfl ?_
        exact hJ97 _ hf
    refine z_lv [1, 2, 3, 0] rfl ?_
    exact hL44 _ _ _ hf
  refine z_icmp_ne (tgt := 34) hC dX4_anHour_17 (by decide) (fun h27 => ?_) (fun h27 => ?_)
  · replace hf := zif_f h27 hf
    exact hJ34 _ hf
  replace hf := zif_t h27 hf
  refine z_aload_n hC dX4_anHour_20 0 rfl rfl ?_
  refine z_iload_n hC dX4_anHour_21 1 rfl rfl ?_
  refine z_aload_n hC dX4_anHour_22 0 rfl rfl ?_
  refine z_get4 hC 0 (by decide) zw_fl_X4_7 (v := .ref (zad G 57)) rfl dX4_anHour_23 ?_
  refine z_iload_n hC dX4_anHour_26 1 rfl rfl ?_
  refine z_bipush hC dX4_anHour_27 (v := 12) rfl ?_
  refine z_iadd hC dX4_anHour_29 ?_
  obtain ⟨hg28, hf⟩ := zg_e hf
  refine z_iald hC za_57 hg28 rfl dX4_anHour_30 ?_
  obtain ⟨w29, ew29, hf⟩ := zbd_e hf
  refine z_cvv (As := [.int a1, .int (w 57 (zx (a1 + (12 : Int32))))]) (rest := []) hC zo_mod rfl (c_X4_fillsOn l G w a1 (w 57 (zx (a1 + (12 : Int32)))) ew29) zw_ml_X4_224 zy_X4_fillsOn ⟨rfl, rfl, Nat.le_of_ble_eq_true rfl, Nat.le_of_ble_eq_true rfl⟩ rfl rfl (Nat.le_of_ble_eq_true rfl) dX4_anHour_31 ?_
  exact hJ34 _ hf
theorem zy_X4_anHour : zYV yX4_anHour cX4_anHour 5 none RX4 2 := ⟨zw_cd_X4_anHour, zw_im_X4_anHour, zw_sel_X4_anHour, zw_ini_X4, by decide +kernel⟩
abbrev rm_X4_goesOn : Room := { frames := 5, cells := 0, slots := 0, locals := 115 }
def b_X4_goesOn_3 (a1 : Int32) (a2 : Int32) (a3 : Int32) (k3 : Int32 → zW → Option zW) (v1 : Int32) (w2 : zW) : Option zW :=
  if a2 ≤ v1 then
    some w2
  else
  zbd (f_X4_isWalking w2 a1 a3) fun v4 =>
  zbd (f_X4_anHour w2 a1 v4) fun w5 =>
  zlet (v1 + (1 : Int32)) fun v6 =>
  k3 v6 w5
def f_X4_goesOn (w : zW) (a1 : Int32) (a2 : Int32) (a3 : Int32) : Option zW :=
  zfix2 (b_X4_goesOn_3 a1 a2 a3) 100000 (0 : Int32) w
set_option maxRecDepth 100000 in
set_option maxHeartbeats 4000000 in
theorem c_X4_goesOn (l : Launch) (G : zG) (w : zW) (a1 : Int32) (a2 : Int32) (a3 : Int32) {wz : zW} (hf : f_X4_goesOn w a1 a2 a3 = some wz) : zMet l G yX4_goesOn cX4_goesOn 5 none rm_X4_goesOn [.ref (zad G 56), .int a1, .int a2, .int a3] w none wz := by
  refine z_start (own := RX4) (by decide) rfl (Nat.le_of_ble_eq_true rfl) (lv := [(0, .ref (zad G 56)), (1, .int a1), (2, .int a2), (3, .int a3)]) rfl ?_
  intro p e s m args below meth c hC
  unfold f_X4_goesOn at hf
  refine z_iconst hC dX4_goesOn_0 (v := 0) rfl ?_
  refine z_istore (lv' := [(4, .int (0 : Int32)), (0, .ref (zad G 56)), (1, .int a1), (2, .int a2), (3, .int a3)]) hC dX4_goesOn_1 (by decide) rfl ?_
  have hL3 : ∀ (n : Nat) (v1 : Int32) (w2 : zW), zfix2 (b_X4_goesOn_3 a1 a2 a3) n v1 w2 = some wz → Z G p l e rm_X4_goesOn s m args below meth c (MQ below (zQ G none wz) args s 0 0 (zA G)) 5 3 [(0, .ref (zad G 56)), (1, .int a1), (2, .int a2), (3, .int a3), (4, .int v1)] [] w2 := by
    intro n
    induction n with
    | zero => intro v1 w2 hf; exact (zfix2_0 hf).elim
    | succ n ih3 =>
      intro v1 w2 hf
      replace hf := zfix2_e hf
      unfold b_X4_goesOn_3 at hf
      refine z_iload hC dX4_goesOn_3 4 rfl ?_
      refine z_iload_n hC dX4_goesOn_5 2 rfl rfl ?_
      refine z_icmp_ge (tgt := 26) hC dX4_goesOn_6 (by decide) (fun h3 => ?_) (fun h3 => ?_)
      · replace hf := zif_t h3 hf
        obtain rfl := zso1 hf
        exact z_vret hC dX4_goesOn_26
      replace hf := zif_f h3 hf
      refine z_aload_n hC dX4_goesOn_9 0 rfl rfl ?_
      refine z_iload_n hC dX4_goesOn_10 1 rfl rfl ?_
      refine z_aload_n hC dX4_goesOn_11 0 rfl rfl ?_
      refine z_iload_n hC dX4_goesOn_12 1 rfl rfl ?_
      refine z_iload_n hC dX4_goesOn_13 3 rfl rfl ?_
      obtain ⟨v4, ev4, hf⟩ := zbd_e hf
      refine z_cvi (As := [.int a1, .int a3]) (rest := [.int a1, .ref (zad G 56)]) hC zo_mod rfl (c_X4_isWalking l G w2 a1 a3 ev4) zw_ml_X4_237 zy_X4_isWalking ⟨rfl, rfl, Nat.le_of_ble_eq_true rfl, Nat.le_of_ble_eq_true rfl⟩ rfl rfl (Nat.le_of_ble_eq_true rfl) dX4_goesOn_14 ?_
      obtain ⟨w5, ew5, hf⟩ := zbd_e hf
      refine z_cvv (As := [.int a1, .int v4]) (rest := []) hC zo_mod rfl (c_X4_anHour l G w2 a1 v4 ew5) zw_ml_X4_240 zy_X4_anHour ⟨rfl, rfl, Nat.le_of_ble_eq_true rfl, Nat.le_of_ble_eq_true rfl⟩ rfl rfl (Nat.le_of_ble_eq_true rfl) dX4_goesOn_17 ?_
      obtain ⟨v6, ev6, hf⟩ := zlet_e hf
      refine z_iinc (v := v6) (lv' := [(4, .int v6), (0, .ref (zad G 56)), (1, .int a1), (2, .int a2), (3, .int a3)]) hC dX4_goesOn_20 4 rfl (by rw [ev6]; rfl) (by decide) rfl ?_
      refine z_goto (tgt := 3) hC dX4_goesOn_23 (by decide) ?_
      refine z_lv [1, 2, 3, 4, 0] rfl ?_
      exact ih3 _ _ hf
  refine z_lv [1, 2, 3, 4, 0] rfl ?_
  exact hL3 _ _ _ hf
theorem zy_X4_goesOn : zYV yX4_goesOn cX4_goesOn 5 none RX4 3 := ⟨zw_cd_X4_goesOn, zw_im_X4_goesOn, zw_sel_X4_goesOn, zw_ini_X4, by decide +kernel⟩
abbrev rm_X4_ahead : Room := { frames := 6, cells := 0, slots := 0, locals := 139 }
def f_X4_ahead (w : zW) (a1 : Int32) (a2 : Int32) : Option (Int32 × zW) :=
  if (f_X4_in (a1.toInt64) (0 : Int64) (96 : Int64)) = (0 : Int32) then
    some ((-1 : Int32), w)
  else
  zjn0 (
    zbd (f_X4_copies w (0 : Int32) (80 : Int32)) fun w2 =>
    zbd (f_X4_goesOn w2 (80 : Int32) a1 (w2 57 11)) fun w3 =>
    if a2 = (0 : Int32) then
      some (w3 57 89, w3)
    else
      if a2 = (1 : Int32) then
        some (w3 57 88, w3)
      else
        if a2 = (2 : Int32) then
          zbd (f_X4_upOn w3 (80 : Int32)) fun v8 =>
          some (v8, w3)
        else
          zg (zin (((84 : Int32) + a2) - (10 : Int32)) 120) <|
          some (w3 57 (zx (((84 : Int32) + a2) - (10 : Int32))), w3))
  (fun (j45 : Option (Int32 × zW)) =>
  if (f_X4_in (a2.toInt64) (0 : Int64) (2 : Int64)) = (0 : Int32) then
    if (f_X4_in (a2.toInt64) (10 : Int64) (((9 : Int32) + (w 56 2)).toInt64)) = (0 : Int32) then
      some ((-1 : Int32), w)
    else
      j45
  else
    j45)
set_option maxRecDepth 100000 in
set_option maxHeartbeats 4000000 in
theorem c_X4_ahead (l : Launch) (G : zG) (w : zW) (a1 : Int32) (a2 : Int32) {r : Int32} {wz : zW} (hf : f_X4_ahead w a1 a2 = some (r, wz)) : zMet l G yX4_ahead cX4_ahead 3 (some .int) rm_X4_ahead [.ref (zad G 56), .int a1, .int a2] w (some (.int r)) wz := by
  refine z_start (own := RX4) (by decide) rfl (Nat.le_of_ble_eq_true rfl) (lv := [(0, .ref (zad G 56)), (1, .int a1), (2, .int a2)]) rfl ?_
  intro p e s m args below meth c hC
  unfold f_X4_ahead at hf
  refine z_iload_n hC dX4_ahead_0 1 rfl rfl ?_
  refine z_i2l hC dX4_ahead_1 ?_
  refine z_lconst hC dX4_ahead_2 (v := 0) rfl ?_
  refine z_ldc2 hC zw_cst_X4_248 dX4_ahead_3 ?_
  refine z_csi (As := [.long (a1.toInt64), .long (0 : Int64), .long (96 : Int64)]) (rest := []) hC (c_X4_in l G w (a1.toInt64) (0 : Int64) (96 : Int64)) zw_ml_X4_59 zy_X4_in ⟨rfl, rfl, Nat.le_of_ble_eq_true rfl, Nat.le_of_ble_eq_true rfl⟩ rfl rfl (Nat.le_of_ble_eq_true rfl) dX4_ahead_6 ?_
  refine z_if_eq (tgt := 43) hC dX4_ahead_9 (by decide) (fun h1 => ?_) (fun h1 => ?_)
  · replace hf := zif_t h1 hf
    refine z_iconst hC dX4_ahead_43 (v := -1) rfl ?_
    obtain ⟨rfl, rfl⟩ := zso2 hf
    exact z_iret hC dX4_ahead_44
  replace hf := zif_f h1 hf
  refine z_iload_n hC dX4_ahead_12 2 rfl rfl ?_
  refine z_i2l hC dX4_ahead_13 ?_
  refine z_lconst hC dX4_ahead_14 (v := 0) rfl ?_
  refine z_ldc2 hC zw_cst_X4_123 dX4_ahead_15 ?_
  refine z_csi (As := [.long (a2.toInt64), .long (0 : Int64), .long (2 : Int64)]) (rest := []) hC (c_X4_in l G w (a2.toInt64) (0 : Int64) (2 : Int64)) zw_ml_X4_59 zy_X4_in ⟨rfl, rfl, Nat.le_of_ble_eq_true rfl, Nat.le_of_ble_eq_true rfl⟩ rfl rfl (Nat.le_of_ble_eq_true rfl) dX4_ahead_18 ?_
  obtain ⟨j45, hj45, hf⟩ := zjn0_e hf
  have hJ45 : j45 = some (r, wz) → Z G p l e rm_X4_ahead s m args below meth c (MQ below (zQ G (some (.int r)) wz) args s 0 0 (zA G)) 3 45 [(0, .ref (zad G 56)), (1, .int a1), (2, .int a2)] [] w := by
    intro hf
    replace hf := hj45  hf
    refine z_aload_n hC dX4_ahead_45 0 rfl rfl ?_
    refine z_iconst hC dX4_ahead_46 (v := 0) rfl ?_
    refine z_bipush hC dX4_ahead_47 (v := 80) rfl ?_
    obtain ⟨w2, ew2, hf⟩ := zbd_e hf
    refine z_cvv (As := [.int (0 : Int32), .int (80 : Int32)]) (rest := []) hC zo_mod rfl (c_X4_copies l G w (0 : Int32) (80 : Int32) ew2) zw_ml_X4_250 zy_X4_copies ⟨rfl, rfl, Nat.le_of_ble_eq_true rfl, Nat.le_of_ble_eq_true rfl⟩ rfl rfl (Nat.le_of_ble_eq_true rfl) dX4_ahead_49 ?_
    refine z_aload_n hC dX4_ahead_52 0 rfl rfl ?_
    refine z_bipush hC dX4_ahead_53 (v := 80) rfl ?_
    refine z_iload_n hC dX4_ahead_55 1 rfl rfl ?_
    refine z_aload_n hC dX4_ahead_56 0 rfl rfl ?_
    refine z_get4 hC 0 (by decide) zw_fl_X4_7 (v := .ref (zad G 57)) rfl dX4_ahead_57 ?_
    refine z_bipush hC dX4_ahead_60 (v := 11) rfl ?_
    refine z_iald hC za_57 (by decide) (j := 11) (by decide) dX4_ahead_62 ?_
    obtain ⟨w3, ew3, hf⟩ := zbd_e hf
    refine z_cvv (As := [.int (80 : Int32), .int a1, .int (w2 57 11)]) (rest := []) hC zo_mod rfl (c_X4_goesOn l G w2 (80 : Int32) a1 (w2 57 11) ew3) zw_ml_X4_244 zy_X4_goesOn ⟨rfl, rfl, Nat.le_of_ble_eq_true rfl, Nat.le_of_ble_eq_true rfl⟩ rfl rfl (Nat.le_of_ble_eq_true rfl) dX4_ahead_63 ?_
    refine z_iload_n hC dX4_ahead_66 2 rfl rfl ?_
    refine z_if_ne (tgt := 80) hC dX4_ahead_67 (by decide) (fun h4 => ?_) (fun h4 => ?_)
    · replace hf := zif_f h4 hf
      refine z_iload_n hC dX4_ahead_80 2 rfl rfl ?_
      refine z_iconst hC dX4_ahead_81 (v := 1) rfl ?_
      refine z_icmp_ne (tgt := 95) hC dX4_ahead_82 (by decide) (fun h5 => ?_) (fun h5 => ?_)
      · replace hf := zif_f h5 hf
        refine z_iload_n hC dX4_ahead_95 2 rfl rfl ?_
        refine z_iconst hC dX4_ahead_96 (v := 2) rfl ?_
        refine z_icmp_ne (tgt := 109) hC dX4_ahead_97 (by decide) (fun h6 => ?_) (fun h6 => ?_)
        · replace hf := zif_f h6 hf
          refine z_aload_n hC dX4_ahead_109 0 rfl rfl ?_
          refine z_get4 hC 0 (by decide) zw_fl_X4_7 (v := .ref (zad G 57)) rfl dX4_ahead_110 ?_
          refine z_bipush hC dX4_ahead_113 (v := 84) rfl ?_
          refine z_iload_n hC dX4_ahead_115 2 rfl rfl ?_
          refine z_iadd hC dX4_ahead_116 ?_
          refine z_bipush hC dX4_ahead_117 (v := 10) rfl ?_
          refine z_isub hC dX4_ahead_119 ?_
          obtain ⟨hg7, hf⟩ := zg_e hf
          refine z_iald hC za_57 hg7 rfl dX4_ahead_120 ?_
          obtain ⟨rfl, rfl⟩ := zso2 hf
          exact z_iret hC dX4_ahead_121
        replace hf := zif_t h6 hf
        refine z_aload_n hC dX4_ahead_100 0 rfl rfl ?_
        refine z_bipush hC dX4_ahead_101 (v := 80) rfl ?_
        obtain ⟨v8, ev8, hf⟩ := zbd_e hf
        refine z_cvi (As := [.int (80 : Int32)]) (rest := []) hC zo_mod rfl (c_X4_upOn l G w3 (80 : Int32) ev8) zw_ml_X4_218 zy_X4_upOn ⟨rfl, rfl, Nat.le_of_ble_eq_true rfl, Nat.le_of_ble_eq_true rfl⟩ rfl rfl (Nat.le_of_ble_eq_true rfl) dX4_ahead_103 ?_
        refine z_goto (tgt := 121) hC dX4_ahead_106 (by decide) ?_
        obtain ⟨rfl, rfl⟩ := zso2 hf
        exact z_iret hC dX4_ahead_121
      replace hf := zif_t h5 hf
      refine z_aload_n hC dX4_ahead_85 0 rfl rfl ?_
      refine z_get4 hC 0 (by decide) zw_fl_X4_7 (v := .ref (zad G 57)) rfl dX4_ahead_86 ?_
      refine z_bipush hC dX4_ahead_89 (v := 88) rfl ?_
      refine z_iald hC za_57 (by decide) (j := 88) (by decide) dX4_ahead_91 ?_
      refine z_goto (tgt := 121) hC dX4_ahead_92 (by decide) ?_
      obtain ⟨rfl, rfl⟩ := zso2 hf
      exact z_iret hC dX4_ahead_121
    replace hf := zif_t h4 hf
    refine z_aload_n hC dX4_ahead_70 0 rfl rfl ?_
    refine z_get4 hC 0 (by decide) zw_fl_X4_7 (v := .ref (zad G 57)) rfl dX4_ahead_71 ?_
    refine z_bipush hC dX4_ahead_74 (v := 89) rfl ?_
    refine z_iald hC za_57 (by decide) (j := 89) (by decide) dX4_ahead_76 ?_
    refine z_goto (tgt := 121) hC dX4_ahead_77 (by decide) ?_
    obtain ⟨rfl, rfl⟩ := zso2 hf
    exact z_iret hC dX4_ahead_121
  refine z_if_ne (tgt := 45) hC dX4_ahead_21 (by decide) (fun h9 => ?_) (fun h9 => ?_)
  · replace hf := zif_f h9 hf
    exact hJ45 hf
  replace hf := zif_t h9 hf
  refine z_iload_n hC dX4_ahead_24 2 rfl rfl ?_
  refine z_i2l hC dX4_ahead_25 ?_
  refine z_ldc2 hC zw_cst_X4_214 dX4_ahead_26 ?_
  refine z_bipush hC dX4_ahead_29 (v := 9) rfl ?_
  refine z_aload_n hC dX4_ahead_31 0 rfl rfl ?_
  refine z_get4 hC 2 (by decide) zw_fl_X4_150 (v := .int (w 56 2)) rfl dX4_ahead_32 ?_
  refine z_iadd hC dX4_ahead_35 ?_
  refine z_i2l hC dX4_ahead_36 ?_
  refine z_csi (As := [.long (a2.toInt64), .long (10 : Int64), .long (((9 : Int32) + (w 56 2)).toInt64)]) (rest := []) hC (c_X4_in l G w (a2.toInt64) (10 : Int64) (((9 : Int32) + (w 56 2)).toInt64)) zw_ml_X4_59 zy_X4_in ⟨rfl, rfl, Nat.le_of_ble_eq_true rfl, Nat.le_of_ble_eq_true rfl⟩ rfl rfl (Nat.le_of_ble_eq_true rfl) dX4_ahead_37 ?_
  refine z_if_ne (tgt := 45) hC dX4_ahead_40 (by decide) (fun h10 => ?_) (fun h10 => ?_)
  · replace hf := zif_f h10 hf
    exact hJ45 hf
  replace hf := zif_t h10 hf
  refine z_iconst hC dX4_ahead_43 (v := -1) rfl ?_
  obtain ⟨rfl, rfl⟩ := zso2 hf
  exact z_iret hC dX4_ahead_44
theorem zy_X4_ahead : zYV yX4_ahead cX4_ahead 3 (some .int) RX4 2 := ⟨zw_cd_X4_ahead, zw_im_X4_ahead, zw_sel_X4_ahead, zw_ini_X4, by decide +kernel⟩
abbrev rm_X4_arriveFrom : Room := { frames := 6, cells := 0, slots := 0, locals := 139 }
def b_X4_arriveFrom_12 (a2 : Int32) (j56 : zW → Option (Int32 × zW)) (k12 : zW → Option (Int32 × zW)) (w6 : zW) : Option (Int32 × zW) :=
  if (w6 56 5) ≤ (w6 57 89) then
    j56 w6
  else
  if (96 : Int32) ≤ (w6 56 28) then
    j56 w6
  else
  zbd (f_X4_goesOn w6 (80 : Int32) (1 : Int32) a2) fun w9 =>
  zlet (zup w9 56 28 ((w9 56 28) + (1 : Int32))) fun w10 =>
  k12 w10
def f_X4_arriveFrom (w : zW) (a1 : Int32) (a2 : Int32) : Option (Int32 × zW) :=
  zbd (f_X4_copies w a1 (80 : Int32)) fun w1 =>
  zlet (zup w1 56 28 (0 : Int32)) fun w2 =>
  zjn1 (fun (w3 : zW) =>
    if (w3 57 89) < (w3 56 5) then
      some ((0 : Int32), w3)
    else
    zbd (f_X4_upOn w3 (80 : Int32)) fun v5 =>
    some (v5, w3))
  (fun (j56 : zW → Option (Int32 × zW)) =>
  zfix1 (b_X4_arriveFrom_12 a2 j56) 100000 w2)
set_option maxRecDepth 100000 in
set_option maxHeartbeats 4000000 in
theorem c_X4_arriveFrom (l : Launch) (G : zG) (w : zW) (a1 : Int32) (a2 : Int32) {r : Int32} {wz : zW} (hf : f_X4_arriveFrom w a1 a2 = some (r, wz)) : zMet l G yX4_arriveFrom cX4_arriveFrom 3 (some .int) rm_X4_arriveFrom [.ref (zad G 56), .int a1, .int a2] w (some (.int r)) wz := by
  refine z_start (own := RX4) (by decide) rfl (Nat.le_of_ble_eq_true rfl) (lv := [(0, .ref (zad G 56)), (1, .int a1), (2, .int a2)]) rfl ?_
  intro p e s m args below meth c hC
  unfold f_X4_arriveFrom at hf
  refine z_aload_n hC dX4_arriveFrom_0 0 rfl rfl ?_
  refine z_iload_n hC dX4_arriveFrom_1 1 rfl rfl ?_
  refine z_bipush hC dX4_arriveFrom_2 (v := 80) rfl ?_
  obtain ⟨w1, ew1, hf⟩ := zbd_e hf
  refine z_cvv (As := [.int a1, .int (80 : Int32)]) (rest := []) hC zo_mod rfl (c_X4_copies l G w a1 (80 : Int32) ew1) zw_ml_X4_250 zy_X4_copies ⟨rfl, rfl, Nat.le_of_ble_eq_true rfl, Nat.le_of_ble_eq_true rfl⟩ rfl rfl (Nat.le_of_ble_eq_true rfl) dX4_arriveFrom_4 ?_
  refine z_aload_n hC dX4_arriveFrom_7 0 rfl rfl ?_
  refine z_iconst hC dX4_arriveFrom_8 (v := 0) rfl ?_
  obtain ⟨w2, ew2, hf⟩ := zlet_e hf
  refine z_put4 hC 28 (by decide) rfl rfl zw_fl_X4_253 rfl ew2 dX4_arriveFrom_9 ?_
  obtain ⟨j56, hj56, hf⟩ := zjn1_e hf
  have hJ56 : ∀ (w3 : zW), j56 w3 = some (r, wz) → Z G p l e rm_X4_arriveFrom s m args below meth c (MQ below (zQ G (some (.int r)) wz) args s 0 0 (zA G)) 3 56 [(0, .ref (zad G 56))] [] w3 := by
    intro w3 hf
    replace hf := hj56 w3 hf
    refine z_aload_n hC dX4_arriveFrom_56 0 rfl rfl ?_
    refine z_get4 hC 0 (by decide) zw_fl_X4_7 (v := .ref (zad G 57)) rfl dX4_arriveFrom_57 ?_
    refine z_bipush hC dX4_arriveFrom_60 (v := 89) rfl ?_
    refine z_iald hC za_57 (by decide) (j := 89) (by decide) dX4_arriveFrom_62 ?_
    refine z_aload_n hC dX4_arriveFrom_63 0 rfl rfl ?_
    refine z_get4 hC 5 (by decide) zw_fl_X4_19 (v := .int (w3 56 5)) rfl dX4_arriveFrom_64 ?_
    refine z_icmp_lt (tgt := 79) hC dX4_arriveFrom_67 (by decide) (fun h4 => ?_) (fun h4 => ?_)
    · replace hf := zif_t h4 hf
      refine z_iconst hC dX4_arriveFrom_79 (v := 0) rfl ?_
      obtain ⟨rfl, rfl⟩ := zso2 hf
      exact z_iret hC dX4_arriveFrom_80
    replace hf := zif_f h4 hf
    refine z_aload_n hC dX4_arriveFrom_70 0 rfl rfl ?_
    refine z_bipush hC dX4_arriveFrom_71 (v := 80) rfl ?_
    obtain ⟨v5, ev5, hf⟩ := zbd_e hf
    refine z_cvi (As := [.int (80 : Int32)]) (rest := []) hC zo_mod rfl (c_X4_upOn l G w3 (80 : Int32) ev5) zw_ml_X4_218 zy_X4_upOn ⟨rfl, rfl, Nat.le_of_ble_eq_true rfl, Nat.le_of_ble_eq_true rfl⟩ rfl rfl (Nat.le_of_ble_eq_true rfl) dX4_arriveFrom_73 ?_
    refine z_goto (tgt := 80) hC dX4_arriveFrom_76 (by decide) ?_
    obtain ⟨rfl, rfl⟩ := zso2 hf
    exact z_iret hC dX4_arriveFrom_80
  have hL12 : ∀ (n : Nat) (w6 : zW), zfix1 (b_X4_arriveFrom_12 a2 j56) n w6 = some (r, wz) → Z G p l e rm_X4_arriveFrom s m args below meth c (MQ below (zQ G (some (.int r)) wz) args s 0 0 (zA G)) 3 12 [(0, .ref (zad G 56)), (2, .int a2)] [] w6 := by
    intro n
    induction n with
    | zero => intro w6 hf; exact (zfix1_0 hf).elim
    | succ n ih12 =>
      intro w6 hf
      replace hf := zfix1_e hf
      unfold b_X4_arriveFrom_12 at hf
      refine z_aload_n hC dX4_arriveFrom_12 0 rfl rfl ?_
      refine z_get4 hC 0 (by decide) zw_fl_X4_7 (v := .ref (zad G 57)) rfl dX4_arriveFrom_13 ?_
      refine z_bipush hC dX4_arriveFrom_16 (v := 89) rfl ?_
      refine z_iald hC za_57 (by decide) (j := 89) (by decide) dX4_arriveFrom_18 ?_
      refine z_aload_n hC dX4_arriveFrom_19 0 rfl rfl ?_
      refine z_get4 hC 5 (by decide) zw_fl_X4_19 (v := .int (w6 56 5)) rfl dX4_arriveFrom_20 ?_
      refine z_icmp_ge (tgt := 56) hC dX4_arriveFrom_23 (by decide) (fun h7 => ?_) (fun h7 => ?_)
      · replace hf := zif_t h7 hf
        refine z_lv [0] rfl ?_
        exact hJ56 _ hf
      replace hf := zif_f h7 hf
      refine z_aload_n hC dX4_arriveFrom_26 0 rfl rfl ?_
      refine z_get4 hC 28 (by decide) zw_fl_X4_253 (v := .int (w6 56 28)) rfl dX4_arriveFrom_27 ?_
      refine z_bipush hC dX4_arriveFrom_30 (v := 96) rfl ?_
      refine z_icmp_ge (tgt := 56) hC dX4_arriveFrom_32 (by decide) (fun h8 => ?_) (fun h8 => ?_)
      · replace hf := zif_t h8 hf
        refine z_lv [0] rfl ?_
        exact hJ56 _ hf
      replace hf := zif_f h8 hf
      refine z_aload_n hC dX4_arriveFrom_35 0 rfl rfl ?_
      refine z_bipush hC dX4_arriveFrom_36 (v := 80) rfl ?_
      refine z_iconst hC dX4_arriveFrom_38 (v := 1) rfl ?_
      refine z_iload_n hC dX4_arriveFrom_39 1 rfl rfl ?_
      obtain ⟨w9, ew9, hf⟩ := zbd_e hf
      refine z_cvv (As := [.int (80 : Int32), .int (1 : Int32), .int a2]) (rest := []) hC zo_mod rfl (c_X4_goesOn l G w6 (80 : Int32) (1 : Int32) a2 ew9) zw_ml_X4_244 zy_X4_goesOn ⟨rfl, rfl, Nat.le_of_ble_eq_true rfl, Nat.le_of_ble_eq_true rfl⟩ rfl rfl (Nat.le_of_ble_eq_true rfl) dX4_arriveFrom_40 ?_
      refine z_aload_n hC dX4_arriveFrom_43 0 rfl rfl ?_
      refine z_dup hC dX4_arriveFrom_44 rfl ?_
      refine z_get4 hC 28 (by decide) zw_fl_X4_253 (v := .int (w9 56 28)) rfl dX4_arriveFrom_45 ?_
      refine z_iconst hC dX4_arriveFrom_48 (v := 1) rfl ?_
      refine z_iadd hC dX4_arriveFrom_49 ?_
      obtain ⟨w10, ew10, hf⟩ := zlet_e hf
      refine z_put4 hC 28 (by decide) rfl rfl zw_fl_X4_253 rfl ew10 dX4_arriveFrom_50 ?_
      refine z_goto (tgt := 12) hC dX4_arriveFrom_53 (by decide) ?_
      exact ih12 _ hf
  refine z_lv [0, 2] rfl ?_
  exact hL12 _ _ hf
theorem zy_X4_arriveFrom : zYV yX4_arriveFrom cX4_arriveFrom 3 (some .int) RX4 2 := ⟨zw_cd_X4_arriveFrom, zw_im_X4_arriveFrom, zw_sel_X4_arriveFrom, zw_ini_X4, by decide +kernel⟩
abbrev rm_X4_alike : Room := { frames := 7, cells := 0, slots := 0, locals := 161 }
def b_X4_alike_23 (a1 : Int32) (j44 : zW → Option (Int32 × zW)) (k23 : Int32 → zW → Option (Int32 × zW)) (v6 : Int32) (w7 : zW) : Option (Int32 × zW) :=
  if (4 : Int32) ≤ v6 then
    j44 w7
  else
  zg (zin ((100 : Int32) + v6) 120) <|
  zlet (zup w7 57 (zx ((100 : Int32) + v6)) a1) fun w10 =>
  zlet (v6 + (1 : Int32)) fun v11 =>
  k23 v11 w10
def f_X4_alike (w : zW) (a1 : Int32) : Option (Int32 × zW) :=
  if (f_X4_in (a1.toInt64) (0 : Int64) (4 : Int64)) = (0 : Int32) then
    some ((-1 : Int32), w)
  else
    zbd (f_X4_copies w (0 : Int32) (100 : Int32)) fun w2 =>
    zjn1 (fun (w3 : zW) =>
      zbd2 (f_X4_arriveFrom w3 (100 : Int32) (w3 57 11)) fun v5 w4 =>
      some (v5, w4))
    (fun (j44 : zW → Option (Int32 × zW)) =>
    zfix2 (b_X4_alike_23 a1 j44) 100000 (0 : Int32) w2)
set_option maxRecDepth 100000 in
set_option maxHeartbeats 4000000 in
theorem c_X4_alike (l : Launch) (G : zG) (w : zW) (a1 : Int32) {r : Int32} {wz : zW} (hf : f_X4_alike w a1 = some (r, wz)) : zMet l G yX4_alike cX4_alike 3 (some .int) rm_X4_alike [.ref (zad G 56), .int a1] w (some (.int r)) wz := by
  refine z_start (own := RX4) (by decide) rfl (Nat.le_of_ble_eq_true rfl) (lv := [(0, .ref (zad G 56)), (1, .int a1)]) rfl ?_
  intro p e s m args below meth c hC
  unfold f_X4_alike at hf
  refine z_iload_n hC dX4_alike_0 1 rfl rfl ?_
  refine z_i2l hC dX4_alike_1 ?_
  refine z_lconst hC dX4_alike_2 (v := 0) rfl ?_
  refine z_ldc2 hC zw_cst_X4_198 dX4_alike_3 ?_
  refine z_csi (As := [.long (a1.toInt64), .long (0 : Int64), .long (4 : Int64)]) (rest := []) hC (c_X4_in l G w (a1.toInt64) (0 : Int64) (4 : Int64)) zw_ml_X4_59 zy_X4_in ⟨rfl, rfl, Nat.le_of_ble_eq_true rfl, Nat.le_of_ble_eq_true rfl⟩ rfl rfl (Nat.le_of_ble_eq_true rfl) dX4_alike_6 ?_
  refine z_if_ne (tgt := 14) hC dX4_alike_9 (by decide) (fun h1 => ?_) (fun h1 => ?_)
  · replace hf := zif_f h1 hf
    refine z_aload_n hC dX4_alike_14 0 rfl rfl ?_
    refine z_iconst hC dX4_alike_15 (v := 0) rfl ?_
    refine z_bipush hC dX4_alike_16 (v := 100) rfl ?_
    obtain ⟨w2, ew2, hf⟩ := zbd_e hf
    refine z_cvv (As := [.int (0 : Int32), .int (100 : Int32)]) (rest := []) hC zo_mod rfl (c_X4_copies l G w (0 : Int32) (100 : Int32) ew2) zw_ml_X4_250 zy_X4_copies ⟨rfl, rfl, Nat.le_of_ble_eq_true rfl, Nat.le_of_ble_eq_true rfl⟩ rfl rfl (Nat.le_of_ble_eq_true rfl) dX4_alike_18 ?_
    refine z_iconst hC dX4_alike_21 (v := 0) rfl ?_
    refine z_istore_n (lv' := [(2, .int (0 : Int32)), (0, .ref (zad G 56)), (1, .int a1)]) hC dX4_alike_22 rfl (by decide) rfl ?_
    obtain ⟨j44, hj44, hf⟩ := zjn1_e hf
    have hJ44 : ∀ (w3 : zW), j44 w3 = some (r, wz) → Z G p l e rm_X4_alike s m args below meth c (MQ below (zQ G (some (.int r)) wz) args s 0 0 (zA G)) 3 44 [(0, .ref (zad G 56))] [] w3 := by
      intro w3 hf
      replace hf := hj44 w3 hf
      refine z_aload_n hC dX4_alike_44 0 rfl rfl ?_
      refine z_bipush hC dX4_alike_45 (v := 100) rfl ?_
      refine z_aload_n hC dX4_alike_47 0 rfl rfl ?_
      refine z_get4 hC 0 (by decide) zw_fl_X4_7 (v := .ref (zad G 57)) rfl dX4_alike_48 ?_
      refine z_bipush hC dX4_alike_51 (v := 11) rfl ?_
      refine z_iald hC za_57 (by decide) (j := 11) (by decide) dX4_alike_53 ?_
      obtain ⟨v5, w4, ew4, hf⟩ := zbd2_e hf
      refine z_cvi (As := [.int (100 : Int32), .int (w3 57 11)]) (rest := []) hC zo_mod rfl (c_X4_arriveFrom l G w3 (100 : Int32) (w3 57 11) ew4) zw_ml_X4_256 zy_X4_arriveFrom ⟨rfl, rfl, Nat.le_of_ble_eq_true rfl, Nat.le_of_ble_eq_true rfl⟩ rfl rfl (Nat.le_of_ble_eq_true rfl) dX4_alike_54 ?_
      obtain ⟨rfl, rfl⟩ := zso2 hf
      exact z_iret hC dX4_alike_57
    have hL23 : ∀ (n : Nat) (v6 : Int32) (w7 : zW), zfix2 (b_X4_alike_23 a1 j44) n v6 w7 = some (r, wz) → Z G p l e rm_X4_alike s m args below meth c (MQ below (zQ G (some (.int r)) wz) args s 0 0 (zA G)) 3 23 [(0, .ref (zad G 56)), (1, .int a1), (2, .int v6)] [] w7 := by
      intro n
      induction n with
      | zero => intro v6 w7 hf; exact (zfix2_0 hf).elim
      | succ n ih23 =>
        intro v6 w7 hf
        replace hf := zfix2_e hf
        unfold b_X4_alike_23 at hf
        refine z_iload_n hC dX4_alike_23 2 rfl rfl ?_
        refine z_iconst hC dX4_alike_24 (v := 4) rfl ?_
        refine z_icmp_ge (tgt := 44) hC dX4_alike_25 (by decide) (fun h8 => ?_) (fun h8 => ?_)
        · replace hf := zif_t h8 hf
          refine z_lv [0] rfl ?_
          exact hJ44 _ hf
        replace hf := zif_f h8 hf
        refine z_aload_n hC dX4_alike_28 0 rfl rfl ?_
        refine z_get4 hC 0 (by decide) zw_fl_X4_7 (v := .ref (zad G 57)) rfl dX4_alike_29 ?_
        refine z_bipush hC dX4_alike_32 (v := 100) rfl ?_
        refine z_iload_n hC dX4_alike_34 2 rfl rfl ?_
        refine z_iadd hC dX4_alike_35 ?_
        refine z_iload_n hC dX4_alike_36 1 rfl rfl ?_
        obtain ⟨hg9, hf⟩ := zg_e hf
        obtain ⟨w10, ew10, hf⟩ := zlet_e hf
        refine z_iast hC za_57 hg9 rfl ew10 dX4_alike_37 ?_
        obtain ⟨v11, ev11, hf⟩ := zlet_e hf
        refine z_iinc (v := v11) (lv' := [(2, .int v11), (0, .ref (zad G 56)), (1, .int a1)]) hC dX4_alike_38 2 rfl (by rw [ev11]; rfl) (by decide) rfl ?_
        refine z_goto (tgt := 23) hC dX4_alike_41 (by decide) ?_
        refine z_lv [1, 2, 0] rfl ?_
        exact ih23 _ _ hf
    refine z_lv [1, 2, 0] rfl ?_
    exact hL23 _ _ _ hf
  replace hf := zif_t h1 hf
  refine z_iconst hC dX4_alike_12 (v := -1) rfl ?_
  obtain ⟨rfl, rfl⟩ := zso2 hf
  exact z_iret hC dX4_alike_13
theorem zy_X4_alike : zYV yX4_alike cX4_alike 3 (some .int) RX4 1 := ⟨zw_cd_X4_alike, zw_im_X4_alike, zw_sel_X4_alike, zw_ini_X4, by decide +kernel⟩
abbrev rm_X4_allKinds : Room := { frames := 0, cells := 0, slots := 0, locals := 0 }
def b_X4_allKinds_4 (w : zW) (k4 : Int32 → Int32 → Option Int32) (v1 : Int32) (v2 : Int32) : Option Int32 :=
  if (w 56 2) ≤ v2 then
    some v1
  else
  zlet (v1 * (5 : Int32)) fun v4 =>
  zlet (v2 + (1 : Int32)) fun v5 =>
  k4 v4 v5
def f_X4_allKinds (w : zW) : Option Int32 :=
  zfix2 (b_X4_allKinds_4 w) 100000 (1 : Int32) (0 : Int32)
set_option maxRecDepth 100000 in
set_option maxHeartbeats 4000000 in
theorem c_X4_allKinds (l : Launch) (G : zG) (w : zW) {r : Int32} (hf : f_X4_allKinds w = some r) : zMet l G yX4_allKinds cX4_allKinds 3 (some .int) rm_X4_allKinds [.ref (zad G 56)] w (some (.int r)) w := by
  refine z_start (own := RX4) (by decide) rfl (Nat.le_of_ble_eq_true rfl) (lv := [(0, .ref (zad G 56))]) rfl ?_
  intro p e s m args below meth c hC
  unfold f_X4_allKinds at hf
  refine z_iconst hC dX4_allKinds_0 (v := 1) rfl ?_
  refine z_istore_n (lv' := [(1, .int (1 : Int32)), (0, .ref (zad G 56))]) hC dX4_allKinds_1 rfl (by decide) rfl ?_
  refine z_iconst hC dX4_allKinds_2 (v := 0) rfl ?_
  refine z_istore_n (lv' := [(2, .int (0 : Int32)), (1, .int (1 : Int32)), (0, .ref (zad G 56))]) hC dX4_allKinds_3 rfl (by decide) rfl ?_
  have hL4 : ∀ (n : Nat) (v1 : Int32) (v2 : Int32), zfix2 (b_X4_allKinds_4 w) n v1 v2 = some r → Z G p l e rm_X4_allKinds s m args below meth c (MQ below (zQ G (some (.int r)) w) args s 0 0 (zA G)) 3 4 [(0, .ref (zad G 56)), (1, .int v1), (2, .int v2)] [] w := by
    intro n
    induction n with
    | zero => intro v1 v2 hf; exact (zfix2_0 hf).elim
    | succ n ih4 =>
      intro v1 v2 hf
      replace hf := zfix2_e hf
      unfold b_X4_allKinds_4 at hf
      refine z_iload_n hC dX4_allKinds_4 2 rfl rfl ?_
      refine z_aload_n hC dX4_allKinds_5 0 rfl rfl ?_
      refine z_get4 hC 2 (by decide) zw_fl_X4_150 (v := .int (w 56 2)) rfl dX4_allKinds_6 ?_
      refine z_icmp_ge (tgt := 22) hC dX4_allKinds_9 (by decide) (fun h3 => ?_) (fun h3 => ?_)
      · replace hf := zif_t h3 hf
        refine z_iload_n hC dX4_allKinds_22 1 rfl rfl ?_
        obtain rfl := zso1 hf
        exact z_iret hC dX4_allKinds_23
      replace hf := zif_f h3 hf
      refine z_iload_n hC dX4_allKinds_12 1 rfl rfl ?_
      refine z_iconst hC dX4_allKinds_13 (v := 5) rfl ?_
      refine z_imul hC dX4_allKinds_14 ?_
      obtain ⟨v4, ev4, hf⟩ := zlet_e hf
      refine z_topi ev4 ?_
      refine z_istore_n (lv' := [(1, .int v4), (0, .ref (zad G 56)), (2, .int v2)]) hC dX4_allKinds_15 rfl (by decide) rfl ?_
      obtain ⟨v5, ev5, hf⟩ := zlet_e hf
      refine z_iinc (v := v5) (lv' := [(2, .int v5), (1, .int v4), (0, .ref (zad G 56))]) hC dX4_allKinds_16 2 rfl (by rw [ev5]; rfl) (by decide) rfl ?_
      refine z_goto (tgt := 4) hC dX4_allKinds_19 (by decide) ?_
      refine z_lv [2, 1, 0] rfl ?_
      exact ih4 _ _ hf
  refine z_lv [2, 1, 0] rfl ?_
  exact hL4 _ _ _ hf
theorem zy_X4_allKinds : zYV yX4_allKinds cX4_allKinds 3 (some .int) RX4 0 := ⟨zw_cd_X4_allKinds, zw_im_X4_allKinds, zw_sel_X4_allKinds, zw_ini_X4, by decide +kernel⟩
abbrev rm_X4_isOne : Room := { frames := 1, cells := 0, slots := 0, locals := 25 }
def f_X4_isOne (w : zW) (a1 : Int32) : Int32 :=
  f_X4_in (a1.toInt64) (0 : Int64) (((w 56 2) - (1 : Int32)).toInt64)
theorem zb_X4_isOne (w : zW) (a1 : Int32) : zbo (f_X4_isOne w a1) = true := by
  unfold f_X4_isOne
  (try simp only [zjn0, zjn1, zlet])
  (try repeat' split) <;> first | (with_reducible exact zb_X4_in _ _ _) | rfl
set_option maxRecDepth 100000 in
set_option maxHeartbeats 4000000 in
theorem c_X4_isOne (l : Launch) (G : zG) (w : zW) (a1 : Int32) : zMet l G yX4_isOne cX4_isOne 2 (some .boolean) rm_X4_isOne [.ref (zad G 56), .int a1] w (some (.int (f_X4_isOne w a1))) w := by
  generalize hf : f_X4_isOne w a1 = r
  refine z_start (own := RX4) (by decide) rfl (Nat.le_of_ble_eq_true rfl) (lv := [(0, .ref (zad G 56)), (1, .int a1)]) rfl ?_
  intro p e s m args below meth c hC
  unfold f_X4_isOne at hf
  refine z_iload_n hC dX4_isOne_0 1 rfl rfl ?_
  refine z_i2l hC dX4_isOne_1 ?_
  refine z_lconst hC dX4_isOne_2 (v := 0) rfl ?_
  refine z_aload_n hC dX4_isOne_3 0 rfl rfl ?_
  refine z_get4 hC 2 (by decide) zw_fl_X4_150 (v := .int (w 56 2)) rfl dX4_isOne_4 ?_
  refine z_iconst hC dX4_isOne_7 (v := 1) rfl ?_
  refine z_isub hC dX4_isOne_8 ?_
  refine z_i2l hC dX4_isOne_9 ?_
  refine z_csi (As := [.long (a1.toInt64), .long (0 : Int64), .long (((w 56 2) - (1 : Int32)).toInt64)]) (rest := []) hC (c_X4_in l G w (a1.toInt64) (0 : Int64) (((w 56 2) - (1 : Int32)).toInt64)) zw_ml_X4_59 zy_X4_in ⟨rfl, rfl, Nat.le_of_ble_eq_true rfl, Nat.le_of_ble_eq_true rfl⟩ rfl rfl (Nat.le_of_ble_eq_true rfl) dX4_isOne_10 ?_
  subst hf
  exact z_zret hC (zbo_n (zb_X4_in _ _ _)) dX4_isOne_13
theorem zy_X4_isOne : zYV yX4_isOne cX4_isOne 2 (some .boolean) RX4 1 := ⟨zw_cd_X4_isOne, zw_im_X4_isOne, zw_sel_X4_isOne, zw_ini_X4, by decide +kernel⟩
abbrev rm_X4_alone : Room := { frames := 7, cells := 0, slots := 0, locals := 161 }
def f_X4_alone (w : zW) (a1 : Int32) (a2 : Int32) : Option (Int32 × zW) :=
  if (f_X4_isOne w a1) = (0 : Int32) then
    some ((-1 : Int32), w)
  else
  if (f_X4_in (a2.toInt64) (0 : Int64) (20 : Int64)) = (0 : Int32) then
    some ((-1 : Int32), w)
  else
    zbd (f_X4_isDown w (0 : Int32) a1) fun v3 =>
    if v3 = (0 : Int32) then
      zbd (f_X4_copies w (0 : Int32) (100 : Int32)) fun w5 =>
      zlet (zup w5 57 108 a2) fun w6 =>
      zlet (zup w6 56 6 a1) fun w7 =>
      zlet (zup w7 56 7 (1 : Int32)) fun w8 =>
      zbd2 (f_X4_arriveFrom w8 (100 : Int32) (w8 57 11)) fun v10 w9 =>
      zlet (zup w9 56 6 (0 : Int32)) fun w11 =>
      zlet (zup w11 56 7 (w11 56 2)) fun w12 =>
      if v10 = (0 : Int32) then
        some ((-4 : Int32), w12)
      else
        some (w12 56 28, w12)
    else
    some ((-2 : Int32), w)
set_option maxRecDepth 100000 in
set_option maxHeartbeats 4000000 in
theorem c_X4_alone (l : Launch) (G : zG) (w : zW) (a1 : Int32) (a2 : Int32) {r : Int32} {wz : zW} (hf : f_X4_alone w a1 a2 = some (r, wz)) : zMet l G yX4_alone cX4_alone 4 (some .int) rm_X4_alone [.ref (zad G 56), .int a1, .int a2] w (some (.int r)) wz := by
  refine z_start (own := RX4) (by decide) rfl (Nat.le_of_ble_eq_true rfl) (lv := [(0, .ref (zad G 56)), (1, .int a1), (2, .int a2)]) rfl ?_
  intro p e s m args below meth c hC
  unfold f_X4_alone at hf
  refine z_aload_n hC dX4_alone_0 0 rfl rfl ?_
  refine z_iload_n hC dX4_alone_1 1 rfl rfl ?_
  refine z_cvi (As := [.int a1]) (rest := []) hC zo_mod rfl (c_X4_isOne l G w a1) zw_ml_X4_177 zy_X4_isOne ⟨rfl, rfl, Nat.le_of_ble_eq_true rfl, Nat.le_of_ble_eq_true rfl⟩ rfl rfl (Nat.le_of_ble_eq_true rfl) dX4_alone_2 ?_
  refine z_if_eq (tgt := 20) hC dX4_alone_5 (by decide) (fun h1 => ?_) (fun h1 => ?_)
  · replace hf := zif_t h1 hf
    refine z_iconst hC dX4_alone_20 (v := -1) rfl ?_
    obtain ⟨rfl, rfl⟩ := zso2 hf
    exact z_iret hC dX4_alone_21
  replace hf := zif_f h1 hf
  refine z_iload_n hC dX4_alone_8 2 rfl rfl ?_
  refine z_i2l hC dX4_alone_9 ?_
  refine z_lconst hC dX4_alone_10 (v := 0) rfl ?_
  refine z_ldc2 hC zw_cst_X4_204 dX4_alone_11 ?_
  refine z_csi (As := [.long (a2.toInt64), .long (0 : Int64), .long (20 : Int64)]) (rest := []) hC (c_X4_in l G w (a2.toInt64) (0 : Int64) (20 : Int64)) zw_ml_X4_59 zy_X4_in ⟨rfl, rfl, Nat.le_of_ble_eq_true rfl, Nat.le_of_ble_eq_true rfl⟩ rfl rfl (Nat.le_of_ble_eq_true rfl) dX4_alone_14 ?_
  refine z_if_ne (tgt := 22) hC dX4_alone_17 (by decide) (fun h2 => ?_) (fun h2 => ?_)
  · replace hf := zif_f h2 hf
    refine z_aload_n hC dX4_alone_22 0 rfl rfl ?_
    refine z_iconst hC dX4_alone_23 (v := 0) rfl ?_
    refine z_iload_n hC dX4_alone_24 1 rfl rfl ?_
    obtain ⟨v3, ev3, hf⟩ := zbd_e hf
    refine z_cvi (As := [.int (0 : Int32), .int a1]) (rest := []) hC zo_mod rfl (c_X4_isDown l G w (0 : Int32) a1 ev3) zw_ml_X4_167 zy_X4_isDown ⟨rfl, rfl, Nat.le_of_ble_eq_true rfl, Nat.le_of_ble_eq_true rfl⟩ rfl rfl (Nat.le_of_ble_eq_true rfl) dX4_alone_25 ?_
    refine z_if_eq (tgt := 34) hC dX4_alone_28 (by decide) (fun h4 => ?_) (fun h4 => ?_)
    · replace hf := zif_t h4 hf
      refine z_aload_n hC dX4_alone_34 0 rfl rfl ?_
      refine z_iconst hC dX4_alone_35 (v := 0) rfl ?_
      refine z_bipush hC dX4_alone_36 (v := 100) rfl ?_
      obtain ⟨w5, ew5, hf⟩ := zbd_e hf
      refine z_cvv (As := [.int (0 : Int32), .int (100 : Int32)]) (rest := []) hC zo_mod rfl (c_X4_copies l G w (0 : Int32) (100 : Int32) ew5) zw_ml_X4_250 zy_X4_copies ⟨rfl, rfl, Nat.le_of_ble_eq_true rfl, Nat.le_of_ble_eq_true rfl⟩ rfl rfl (Nat.le_of_ble_eq_true rfl) dX4_alone_38 ?_
      refine z_aload_n hC dX4_alone_41 0 rfl rfl ?_
      refine z_get4 hC 0 (by decide) zw_fl_X4_7 (v := .ref (zad G 57)) rfl dX4_alone_42 ?_
      refine z_bipush hC dX4_alone_45 (v := 108) rfl ?_
      refine z_iload_n hC dX4_alone_47 2 rfl rfl ?_
      obtain ⟨w6, ew6, hf⟩ := zlet_e hf
      refine z_iast hC za_57 (by decide) (j := 108) (by decide) ew6 dX4_alone_48 ?_
      refine z_aload_n hC dX4_alone_49 0 rfl rfl ?_
      refine z_iload_n hC dX4_alone_50 1 rfl rfl ?_
      obtain ⟨w7, ew7, hf⟩ := zlet_e hf
      refine z_put4 hC 6 (by decide) rfl rfl zw_fl_X4_156 rfl ew7 dX4_alone_51 ?_
      refine z_aload_n hC dX4_alone_54 0 rfl rfl ?_
      refine z_iconst hC dX4_alone_55 (v := 1) rfl ?_
      obtain ⟨w8, ew8, hf⟩ := zlet_e hf
      refine z_put4 hC 7 (by decide) rfl rfl zw_fl_X4_159 rfl ew8 dX4_alone_56 ?_
      refine z_aload_n hC dX4_alone_59 0 rfl rfl ?_
      refine z_bipush hC dX4_alone_60 (v := 100) rfl ?_
      refine z_aload_n hC dX4_alone_62 0 rfl rfl ?_
      refine z_get4 hC 0 (by decide) zw_fl_X4_7 (v := .ref (zad G 57)) rfl dX4_alone_63 ?_
      refine z_bipush hC dX4_alone_66 (v := 11) rfl ?_
      refine z_iald hC za_57 (by decide) (j := 11) (by decide) dX4_alone_68 ?_
      obtain ⟨v10, w9, ew9, hf⟩ := zbd2_e hf
      refine z_cvi (As := [.int (100 : Int32), .int (w8 57 11)]) (rest := []) hC zo_mod rfl (c_X4_arriveFrom l G w8 (100 : Int32) (w8 57 11) ew9) zw_ml_X4_256 zy_X4_arriveFrom ⟨rfl, rfl, Nat.le_of_ble_eq_true rfl, Nat.le_of_ble_eq_true rfl⟩ rfl rfl (Nat.le_of_ble_eq_true rfl) dX4_alone_69 ?_
      refine z_istore_n (lv' := [(3, .int v10), (0, .ref (zad G 56)), (1, .int a1), (2, .int a2)]) hC dX4_alone_72 rfl (by decide) rfl ?_
      refine z_aload_n hC dX4_alone_73 1 rfl rfl ?_
      refine z_iconst hC dX4_alone_74 (v := 0) rfl ?_
      obtain ⟨w11, ew11, hf⟩ := zlet_e hf
      refine z_put4 hC 6 (by decide) rfl rfl zw_fl_X4_156 rfl ew11 dX4_alone_75 ?_
      refine z_aload_n hC dX4_alone_78 1 rfl rfl ?_
      refine z_aload_n hC dX4_alone_79 1 rfl rfl ?_
      refine z_get4 hC 2 (by decide) zw_fl_X4_150 (v := .int (w11 56 2)) rfl dX4_alone_80 ?_
      obtain ⟨w12, ew12, hf⟩ := zlet_e hf
      refine z_put4 hC 7 (by decide) rfl rfl zw_fl_X4_159 rfl ew12 dX4_alone_83 ?_
      refine z_iload_n hC dX4_alone_86 0 rfl rfl ?_
      refine z_if_ne (tgt := 95) hC dX4_alone_87 (by decide) (fun h13 => ?_) (fun h13 => ?_)
      · replace hf := zif_f h13 hf
        refine z_aload_n hC dX4_alone_95 1 rfl rfl ?_
        refine z_get4 hC 28 (by decide) zw_fl_X4_253 (v := .int (w12 56 28)) rfl dX4_alone_96 ?_
        obtain ⟨rfl, rfl⟩ := zso2 hf
        exact z_iret hC dX4_alone_99
      replace hf := zif_t h13 hf
      refine z_bipush hC dX4_alone_90 (v := -4) rfl ?_
      refine z_goto (tgt := 99) hC dX4_alone_92 (by decide) ?_
      obtain ⟨rfl, rfl⟩ := zso2 hf
      exact z_iret hC dX4_alone_99
    replace hf := zif_f h4 hf
    refine z_bipush hC dX4_alone_31 (v := -2) rfl ?_
    obtain ⟨rfl, rfl⟩ := zso2 hf
    exact z_iret hC dX4_alone_33
  replace hf := zif_t h2 hf
  refine z_iconst hC dX4_alone_20 (v := -1) rfl ?_
  obtain ⟨rfl, rfl⟩ := zso2 hf
  exact z_iret hC dX4_alone_21
theorem zy_X4_alone : zYV yX4_alone cX4_alone 4 (some .int) RX4 2 := ⟨zw_cd_X4_alone, zw_im_X4_alone, zw_sel_X4_alone, zw_ini_X4, by decide +kernel⟩
abbrev rm_X4_isPlan : Room := { frames := 1, cells := 0, slots := 0, locals := 25 }
def f_X4_isPlan (a0 : Int32) : Int32 :=
  f_X4_in (a0.toInt64) (0 : Int64) (3 : Int64)
theorem zb_X4_isPlan (a0 : Int32) : zbo (f_X4_isPlan a0) = true := by
  unfold f_X4_isPlan
  (try simp only [zjn0, zjn1, zlet])
  (try repeat' split) <;> first | (with_reducible exact zb_X4_in _ _ _) | rfl
set_option maxRecDepth 100000 in
set_option maxHeartbeats 4000000 in
theorem c_X4_isPlan (l : Launch) (G : zG) (w : zW) (a0 : Int32) : zMet l G yX4_isPlan cX4_isPlan 1 (some .boolean) rm_X4_isPlan [.int a0] w (some (.int (f_X4_isPlan a0))) w := by
  generalize hf : f_X4_isPlan a0 = r
  refine z_start (own := RX4) (by decide) rfl (Nat.le_of_ble_eq_true rfl) (lv := [(0, .int a0)]) rfl ?_
  intro p e s m args below meth c hC
  unfold f_X4_isPlan at hf
  refine z_iload_n hC dX4_isPlan_0 0 rfl rfl ?_
  refine z_i2l hC dX4_isPlan_1 ?_
  refine z_lconst hC dX4_isPlan_2 (v := 0) rfl ?_
  refine z_ldc2 hC zw_cst_X4_165 dX4_isPlan_3 ?_
  refine z_csi (As := [.long (a0.toInt64), .long (0 : Int64), .long (3 : Int64)]) (rest := []) hC (c_X4_in l G w (a0.toInt64) (0 : Int64) (3 : Int64)) zw_ml_X4_59 zy_X4_in ⟨rfl, rfl, Nat.le_of_ble_eq_true rfl, Nat.le_of_ble_eq_true rfl⟩ rfl rfl (Nat.le_of_ble_eq_true rfl) dX4_isPlan_6 ?_
  subst hf
  exact z_zret hC (zbo_n (zb_X4_in _ _ _)) dX4_isPlan_9
theorem zy_X4_isPlan : zYS yX4_isPlan cX4_isPlan 1 (some .boolean) 1 := ⟨zw_cd_X4_isPlan, zw_st_X4_isPlan, zw_ini_X4, by decide +kernel⟩
abbrev rm_X4_arrive : Room := { frames := 7, cells := 0, slots := 0, locals := 161 }
def f_X4_arrive (w : zW) (a1 : Int32) (a2 : Int32) : Option (Int32 × zW) :=
  if (f_X4_isPlan a1) = (0 : Int32) then
    some ((-1 : Int32), w)
  else
  if (f_X4_in (a2.toInt64) (0 : Int64) (1 : Int64)) = (0 : Int32) then
    some ((-1 : Int32), w)
  else
    zbd2 (f_X4_arriveFrom w (0 : Int32) a1) fun v4 w3 =>
    if a2 = (0 : Int32) then
      some (v4, w3)
    else
      if v4 = (0 : Int32) then
        some ((-4 : Int32), w3)
      else
        some (w3 56 28, w3)
set_option maxRecDepth 100000 in
set_option maxHeartbeats 4000000 in
theorem c_X4_arrive (l : Launch) (G : zG) (w : zW) (a1 : Int32) (a2 : Int32) {r : Int32} {wz : zW} (hf : f_X4_arrive w a1 a2 = some (r, wz)) : zMet l G yX4_arrive cX4_arrive 4 (some .int) rm_X4_arrive [.ref (zad G 56), .int a1, .int a2] w (some (.int r)) wz := by
  refine z_start (own := RX4) (by decide) rfl (Nat.le_of_ble_eq_true rfl) (lv := [(0, .ref (zad G 56)), (1, .int a1), (2, .int a2)]) rfl ?_
  intro p e s m args below meth c hC
  unfold f_X4_arrive at hf
  refine z_iload_n hC dX4_arrive_0 1 rfl rfl ?_
  refine z_csi (As := [.int a1]) (rest := []) hC (c_X4_isPlan l G w a1) zw_ml_X4_211 zy_X4_isPlan ⟨rfl, rfl, Nat.le_of_ble_eq_true rfl, Nat.le_of_ble_eq_true rfl⟩ rfl rfl (Nat.le_of_ble_eq_true rfl) dX4_arrive_1 ?_
  refine z_if_eq (tgt := 17) hC dX4_arrive_4 (by decide) (fun h1 => ?_) (fun h1 => ?_)
  · replace hf := zif_t h1 hf
    refine z_iconst hC dX4_arrive_17 (v := -1) rfl ?_
    obtain ⟨rfl, rfl⟩ := zso2 hf
    exact z_iret hC dX4_arrive_18
  replace hf := zif_f h1 hf
  refine z_iload_n hC dX4_arrive_7 2 rfl rfl ?_
  refine z_i2l hC dX4_arrive_8 ?_
  refine z_lconst hC dX4_arrive_9 (v := 0) rfl ?_
  refine z_lconst hC dX4_arrive_10 (v := 1) rfl ?_
  refine z_csi (As := [.long (a2.toInt64), .long (0 : Int64), .long (1 : Int64)]) (rest := []) hC (c_X4_in l G w (a2.toInt64) (0 : Int64) (1 : Int64)) zw_ml_X4_59 zy_X4_in ⟨rfl, rfl, Nat.le_of_ble_eq_true rfl, Nat.le_of_ble_eq_true rfl⟩ rfl rfl (Nat.le_of_ble_eq_true rfl) dX4_arrive_11 ?_
  refine z_if_ne (tgt := 19) hC dX4_arrive_14 (by decide) (fun h2 => ?_) (fun h2 => ?_)
  · replace hf := zif_f h2 hf
    refine z_aload_n hC dX4_arrive_19 0 rfl rfl ?_
    refine z_iconst hC dX4_arrive_20 (v := 0) rfl ?_
    refine z_iload_n hC dX4_arrive_21 1 rfl rfl ?_
    obtain ⟨v4, w3, ew3, hf⟩ := zbd2_e hf
    refine z_cvi (As := [.int (0 : Int32), .int a1]) (rest := []) hC zo_mod rfl (c_X4_arriveFrom l G w (0 : Int32) a1 ew3) zw_ml_X4_256 zy_X4_arriveFrom ⟨rfl, rfl, Nat.le_of_ble_eq_true rfl, Nat.le_of_ble_eq_true rfl⟩ rfl rfl (Nat.le_of_ble_eq_true rfl) dX4_arrive_22 ?_
    refine z_istore_n (lv' := [(3, .int v4), (0, .ref (zad G 56)), (1, .int a1), (2, .int a2)]) hC dX4_arrive_25 rfl (by decide) rfl ?_
    refine z_iload_n hC dX4_arrive_26 3 rfl rfl ?_
    refine z_if_ne (tgt := 34) hC dX4_arrive_27 (by decide) (fun h5 => ?_) (fun h5 => ?_)
    · replace hf := zif_f h5 hf
      refine z_iload_n hC dX4_arrive_34 0 rfl rfl ?_
      refine z_if_ne (tgt := 43) hC dX4_arrive_35 (by decide) (fun h6 => ?_) (fun h6 => ?_)
      · replace hf := zif_f h6 hf
        refine z_aload_n hC dX4_arrive_43 1 rfl rfl ?_
        refine z_get4 hC 28 (by decide) zw_fl_X4_253 (v := .int (w3 56 28)) rfl dX4_arrive_44 ?_
        obtain ⟨rfl, rfl⟩ := zso2 hf
        exact z_iret hC dX4_arrive_47
      replace hf := zif_t h6 hf
      refine z_bipush hC dX4_arrive_38 (v := -4) rfl ?_
      refine z_goto (tgt := 47) hC dX4_arrive_40 (by decide) ?_
      obtain ⟨rfl, rfl⟩ := zso2 hf
      exact z_iret hC dX4_arrive_47
    replace hf := zif_t h5 hf
    refine z_iload_n hC dX4_arrive_30 0 rfl rfl ?_
    refine z_goto (tgt := 47) hC dX4_arrive_31 (by decide) ?_
    obtain ⟨rfl, rfl⟩ := zso2 hf
    exact z_iret hC dX4_arrive_47
  replace hf := zif_t h2 hf
  refine z_iconst hC dX4_arrive_17 (v := -1) rfl ?_
  obtain ⟨rfl, rfl⟩ := zso2 hf
  exact z_iret hC dX4_arrive_18
theorem zy_X4_arrive : zYV yX4_arrive cX4_arrive 4 (some .int) RX4 2 := ⟨zw_cd_X4_arrive, zw_im_X4_arrive, zw_sel_X4_arrive, zw_ini_X4, by decide +kernel⟩
abbrev rm_X4_back : Room := { frames := 1, cells := 0, slots := 0, locals := 25 }
def f_X4_back (w : zW) (a1 : Int32) : Option (Int32 × zW) :=
  if (f_X4_in (a1.toInt64) (0 : Int64) (1 : Int64)) = (0 : Int32) then
    some ((-1 : Int32), w)
  else
    zg (zin a1 2) <|
    if (w 67 (zx a1)) = (0 : Int32) then
      some ((-2 : Int32), w)
    else
      zbd (f_X4_copies w ((20 : Int32) * (a1 + (1 : Int32))) (0 : Int32)) fun w4 =>
      zbd (f_X4_hourOn w4 (0 : Int32)) fun v5 =>
      some (v5, w4)
set_option maxRecDepth 100000 in
set_option maxHeartbeats 4000000 in
theorem c_X4_back (l : Launch) (G : zG) (w : zW) (a1 : Int32) {r : Int32} {wz : zW} (hf : f_X4_back w a1 = some (r, wz)) : zMet l G yX4_back cX4_back 2 (some .int) rm_X4_back [.ref (zad G 56), .int a1] w (some (.int r)) wz := by
  refine z_start (own := RX4) (by decide) rfl (Nat.le_of_ble_eq_true rfl) (lv := [(0, .ref (zad G 56)), (1, .int a1)]) rfl ?_
  intro p e s m args below meth c hC
  unfold f_X4_back at hf
  refine z_iload_n hC dX4_back_0 1 rfl rfl ?_
  refine z_i2l hC dX4_back_1 ?_
  refine z_lconst hC dX4_back_2 (v := 0) rfl ?_
  refine z_lconst hC dX4_back_3 (v := 1) rfl ?_
  refine z_csi (As := [.long (a1.toInt64), .long (0 : Int64), .long (1 : Int64)]) (rest := []) hC (c_X4_in l G w (a1.toInt64) (0 : Int64) (1 : Int64)) zw_ml_X4_59 zy_X4_in ⟨rfl, rfl, Nat.le_of_ble_eq_true rfl, Nat.le_of_ble_eq_true rfl⟩ rfl rfl (Nat.le_of_ble_eq_true rfl) dX4_back_4 ?_
  refine z_if_ne (tgt := 12) hC dX4_back_7 (by decide) (fun h1 => ?_) (fun h1 => ?_)
  · replace hf := zif_f h1 hf
    refine z_aload_n hC dX4_back_12 0 rfl rfl ?_
    refine z_get4 hC 31 (by decide) zw_fl_X4_44 (v := .ref (zad G 67)) rfl dX4_back_13 ?_
    refine z_iload_n hC dX4_back_16 1 rfl rfl ?_
    obtain ⟨hg2, hf⟩ := zg_e hf
    refine z_zald hC za_67 hg2 rfl dX4_back_17 ?_
    refine z_if_ne (tgt := 24) hC dX4_back_18 (by decide) (fun h3 => ?_) (fun h3 => ?_)
    · replace hf := zif_f h3 hf
      refine z_aload_n hC dX4_back_24 0 rfl rfl ?_
      refine z_bipush hC dX4_back_25 (v := 20) rfl ?_
      refine z_iload_n hC dX4_back_27 1 rfl rfl ?_
      refine z_iconst hC dX4_back_28 (v := 1) rfl ?_
      refine z_iadd hC dX4_back_29 ?_
      refine z_imul hC dX4_back_30 ?_
      refine z_iconst hC dX4_back_31 (v := 0) rfl ?_
      obtain ⟨w4, ew4, hf⟩ := zbd_e hf
      refine z_cvv (As := [.int ((20 : Int32) * (a1 + (1 : Int32))), .int (0 : Int32)]) (rest := []) hC zo_mod rfl (c_X4_copies l G w ((20 : Int32) * (a1 + (1 : Int32))) (0 : Int32) ew4) zw_ml_X4_250 zy_X4_copies ⟨rfl, rfl, Nat.le_of_ble_eq_true rfl, Nat.le_of_ble_eq_true rfl⟩ rfl rfl (Nat.le_of_ble_eq_true rfl) dX4_back_32 ?_
      refine z_aload_n hC dX4_back_35 0 rfl rfl ?_
      refine z_iconst hC dX4_back_36 (v := 0) rfl ?_
      obtain ⟨v5, ev5, hf⟩ := zbd_e hf
      refine z_cvi (As := [.int (0 : Int32)]) (rest := []) hC zo_mod rfl (c_X4_hourOn l G w4 (0 : Int32) ev5) zw_ml_X4_171 zy_X4_hourOn ⟨rfl, rfl, Nat.le_of_ble_eq_true rfl, Nat.le_of_ble_eq_true rfl⟩ rfl rfl (Nat.le_of_ble_eq_true rfl) dX4_back_37 ?_
      obtain ⟨rfl, rfl⟩ := zso2 hf
      exact z_iret hC dX4_back_40
    replace hf := zif_t h3 hf
    refine z_bipush hC dX4_back_21 (v := -2) rfl ?_
    obtain ⟨rfl, rfl⟩ := zso2 hf
    exact z_iret hC dX4_back_23
  replace hf := zif_t h1 hf
  refine z_iconst hC dX4_back_10 (v := -1) rfl ?_
  obtain ⟨rfl, rfl⟩ := zso2 hf
  exact z_iret hC dX4_back_11
theorem zy_X4_back : zYV yX4_back cX4_back 2 (some .int) RX4 1 := ⟨zw_cd_X4_back, zw_im_X4_back, zw_sel_X4_back, zw_ini_X4, by decide +kernel⟩
