abbrev rm_X1_isNothing : Room := { frames := 0, cells := 0, slots := 0, locals := 0 }
def f_X1_isNothing (w : zW) (b : Nat) : Int32 :=
  if (0 : Int32) ≤ (w b 2) then
    (0 : Int32)
  else
  (1 : Int32)
theorem zb_X1_isNothing (w : zW) (b : Nat) : zbo (f_X1_isNothing w b) = true := by
  unfold f_X1_isNothing
  (try simp only [zjn0, zjn1, zlet])
  (try repeat' split) <;> first | rfl
set_option maxRecDepth 100000 in
set_option maxHeartbeats 4000000 in
theorem c_X1_isNothing (l : Launch) (G : zG) (w : zW) (b : Nat) (hb : zshee b) : zMet l G yX1_isNothing cX1_isNothing 1 (some .boolean) rm_X1_isNothing [.ref (zad G b)] w (some (.int (f_X1_isNothing w b))) w := by
  generalize hf : f_X1_isNothing w b = r
  refine z_start (own := RX1) (by decide) rfl (Nat.le_of_ble_eq_true rfl) (lv := [(0, .ref (zad G b))]) rfl ?_
  intro p e s m args below meth c hC
  unfold f_X1_isNothing at hf
  refine z_aload_n hC dX1_isNothing_0 0 rfl rfl ?_
  refine z_get1 hC hb 2 (by decide) zw_fl_X1_19 (v := .int (w b 2)) rfl dX1_isNothing_1 ?_
  refine z_if_ge (tgt := 11) hC dX1_isNothing_4 (by decide) (fun h1 => ?_) (fun h1 => ?_)
  · replace hf := zif_t h1 hf
    refine z_iconst hC dX1_isNothing_11 (v := 0) rfl ?_
    subst hf
    exact z_zret hC rfl dX1_isNothing_12
  replace hf := zif_f h1 hf
  refine z_iconst hC dX1_isNothing_7 (v := 1) rfl ?_
  refine z_goto (tgt := 12) hC dX1_isNothing_8 (by decide) ?_
  subst hf
  exact z_zret hC rfl dX1_isNothing_12
theorem zy_X1_isNothing : zYV yX1_isNothing cX1_isNothing 1 (some .boolean) RX1 0 := ⟨zw_cd_X1_isNothing, zw_im_X1_isNothing, zw_sel_X1_isNothing, zw_ini_X1, by decide +kernel⟩
abbrev rm_X1_faultAt : Room := { frames := 1, cells := 0, slots := 0, locals := 22 }
def f_X1_faultAt (w : zW) (b : Nat) (a1 : Int32) : Int32 :=
  if (f_X1_isNothing w b) = (0 : Int32) then
    if (f_X3_within a1 (0 : Int32) ((w b 2) - (1 : Int32))) = (0 : Int32) then
      (2 : Int32)
    else
    (0 : Int32)
  else
  (1 : Int32)
set_option maxRecDepth 100000 in
set_option maxHeartbeats 4000000 in
theorem c_X1_faultAt (l : Launch) (G : zG) (w : zW) (b : Nat) (hb : zshee b) (a1 : Int32) : zMet l G yX1_faultAt cX1_faultAt 2 (some .int) rm_X1_faultAt [.ref (zad G b), .int a1] w (some (.int (f_X1_faultAt w b a1))) w := by
  generalize hf : f_X1_faultAt w b a1 = r
  refine z_start (own := RX1) (by decide) rfl (Nat.le_of_ble_eq_true rfl) (lv := [(0, .ref (zad G b)), (1, .int a1)]) rfl ?_
  intro p e s m args below meth c hC
  unfold f_X1_faultAt at hf
  refine z_aload_n hC dX1_faultAt_0 0 rfl rfl ?_
  refine z_cvi (As := []) (rest := []) hC (zo_shee hb) rfl (c_X1_isNothing l G w b hb) zw_ml_X1_22 zy_X1_isNothing ⟨rfl, rfl, Nat.le_of_ble_eq_true rfl, Nat.le_of_ble_eq_true rfl⟩ rfl rfl (Nat.le_of_ble_eq_true rfl) dX1_faultAt_1 ?_
  refine z_if_eq (tgt := 9) hC dX1_faultAt_4 (by decide) (fun h1 => ?_) (fun h1 => ?_)
  · replace hf := zif_t h1 hf
    refine z_iload_n hC dX1_faultAt_9 1 rfl rfl ?_
    refine z_iconst hC dX1_faultAt_10 (v := 0) rfl ?_
    refine z_aload_n hC dX1_faultAt_11 0 rfl rfl ?_
    refine z_get1 hC hb 2 (by decide) zw_fl_X1_19 (v := .int (w b 2)) rfl dX1_faultAt_12 ?_
    refine z_iconst hC dX1_faultAt_15 (v := 1) rfl ?_
    refine z_isub hC dX1_faultAt_16 ?_
    refine z_cni (As := [.int a1, .int (0 : Int32), .int ((w b 2) - (1 : Int32))]) (rest := []) hC (c_X3_within l G w a1 (0 : Int32) ((w b 2) - (1 : Int32))) hC.2.2.2.2.2.1.2.1.2.2 zy_X3_within ⟨rfl, rfl, Nat.le_of_ble_eq_true rfl, Nat.le_of_ble_eq_true rfl⟩ rfl rfl (Nat.le_of_ble_eq_true rfl) dX1_faultAt_17 ?_
    refine z_if_eq (tgt := 27) hC dX1_faultAt_20 (by decide) (fun h2 => ?_) (fun h2 => ?_)
    · replace hf := zif_t h2 hf
      refine z_iconst hC dX1_faultAt_27 (v := 2) rfl ?_
      subst hf
      exact z_iret hC dX1_faultAt_28
    replace hf := zif_f h2 hf
    refine z_iconst hC dX1_faultAt_23 (v := 0) rfl ?_
    refine z_goto (tgt := 28) hC dX1_faultAt_24 (by decide) ?_
    subst hf
    exact z_iret hC dX1_faultAt_28
  replace hf := zif_f h1 hf
  refine z_iconst hC dX1_faultAt_7 (v := 1) rfl ?_
  subst hf
  exact z_iret hC dX1_faultAt_8
theorem zy_X1_faultAt : zYV yX1_faultAt cX1_faultAt 2 (some .int) RX1 1 := ⟨zw_cd_X1_faultAt, zw_im_X1_faultAt, zw_sel_X1_faultAt, zw_ini_X1, by decide +kernel⟩
abbrev rm_X1_faultOfPair : Room := { frames := 2, cells := 0, slots := 0, locals := 43 }
def f_X1_faultOfPair (w : zW) (b : Nat) (a1 : Int32) (a2 : Int32) : Int32 :=
  zjn0 (
    zlet (f_X1_faultAt w b a2) fun v1 =>
    if v1 = (0 : Int32) then
      f_X1_faultAt w b (a2 + (1 : Int32))
    else
    v1)
  (fun (j17 : Int32) =>
  if (f_X1_isNothing w b) = (0 : Int32) then
    if (w b 1) = a1 then
      j17
    else
    (3 : Int32)
  else
    j17)
set_option maxRecDepth 100000 in
set_option maxHeartbeats 4000000 in
theorem c_X1_faultOfPair (l : Launch) (G : zG) (w : zW) (b : Nat) (hb : zshee b) (a1 : Int32) (a2 : Int32) : zMet l G yX1_faultOfPair cX1_faultOfPair 4 (some .int) rm_X1_faultOfPair [.ref (zad G b), .int a1, .int a2] w (some (.int (f_X1_faultOfPair w b a1 a2))) w := by
  generalize hf : f_X1_faultOfPair w b a1 a2 = r
  refine z_start (own := RX1) (by decide) rfl (Nat.le_of_ble_eq_true rfl) (lv := [(0, .ref (zad G b)), (1, .int a1), (2, .int a2)]) rfl ?_
  intro p e s m args below meth c hC
  unfold f_X1_faultOfPair at hf
  refine z_aload_n hC dX1_faultOfPair_0 0 rfl rfl ?_
  refine z_cvi (As := []) (rest := []) hC (zo_shee hb) rfl (c_X1_isNothing l G w b hb) zw_ml_X1_22 zy_X1_isNothing ⟨rfl, rfl, Nat.le_of_ble_eq_true rfl, Nat.le_of_ble_eq_true rfl⟩ rfl rfl (Nat.le_of_ble_eq_true rfl) dX1_faultOfPair_1 ?_
  obtain ⟨j17, hj17, hf⟩ := zjn0_e hf
  have hJ17 : j17 = r → Z G p l e rm_X1_faultOfPair s m args below meth c (MQ below (zQ G (some (.int r)) w) args s 0 0 (zA G)) 4 17 [(0, .ref (zad G b)), (2, .int a2)] [] w := by
    intro hf
    replace hf := hj17  hf
    refine z_aload_n hC dX1_faultOfPair_17 0 rfl rfl ?_
    refine z_iload_n hC dX1_faultOfPair_18 1 rfl rfl ?_
    refine z_cvi (As := [.int a2]) (rest := []) hC (zo_shee hb) rfl (c_X1_faultAt l G w b hb a2) zw_ml_X1_30 zy_X1_faultAt ⟨rfl, rfl, Nat.le_of_ble_eq_true rfl, Nat.le_of_ble_eq_true rfl⟩ rfl rfl (Nat.le_of_ble_eq_true rfl) dX1_faultOfPair_19 ?_
    obtain ⟨v1, ev1, hf⟩ := zlet_e hf
    refine z_topi ev1 ?_
    refine z_istore_n (lv' := [(3, .int v1), (0, .ref (zad G b)), (2, .int a2)]) hC dX1_faultOfPair_22 rfl (by decide) rfl ?_
    refine z_iload_n hC dX1_faultOfPair_23 0 rfl rfl ?_
    refine z_if_eq (tgt := 31) hC dX1_faultOfPair_24 (by decide) (fun h2 => ?_) (fun h2 => ?_)
    · replace hf := zif_t h2 hf
      refine z_aload_n hC dX1_faultOfPair_31 1 rfl rfl ?_
      refine z_iload_n hC dX1_faultOfPair_32 2 rfl rfl ?_
      refine z_iconst hC dX1_faultOfPair_33 (v := 1) rfl ?_
      refine z_iadd hC dX1_faultOfPair_34 ?_
      refine z_cvi (As := [.int (a2 + (1 : Int32))]) (rest := []) hC (zo_shee hb) rfl (c_X1_faultAt l G w b hb (a2 + (1 : Int32))) zw_ml_X1_30 zy_X1_faultAt ⟨rfl, rfl, Nat.le_of_ble_eq_true rfl, Nat.le_of_ble_eq_true rfl⟩ rfl rfl (Nat.le_of_ble_eq_true rfl) dX1_faultOfPair_35 ?_
      subst hf
      exact z_iret hC dX1_faultOfPair_38
    replace hf := zif_f h2 hf
    refine z_iload_n hC dX1_faultOfPair_27 0 rfl rfl ?_
    refine z_goto (tgt := 38) hC dX1_faultOfPair_28 (by decide) ?_
    subst hf
    exact z_iret hC dX1_faultOfPair_38
  refine z_if_ne (tgt := 17) hC dX1_faultOfPair_4 (by decide) (fun h3 => ?_) (fun h3 => ?_)
  · replace hf := zif_f h3 hf
    refine z_lv [0, 2] rfl ?_
    exact hJ17 hf
  replace hf := zif_t h3 hf
  refine z_aload_n hC dX1_faultOfPair_7 0 rfl rfl ?_
  refine z_get1 hC hb 1 (by decide) zw_fl_X1_15 (v := .int (w b 1)) rfl dX1_faultOfPair_8 ?_
  refine z_iload_n hC dX1_faultOfPair_11 1 rfl rfl ?_
  refine z_icmp_eq (tgt := 17) hC dX1_faultOfPair_12 (by decide) (fun h4 => ?_) (fun h4 => ?_)
  · replace hf := zif_t h4 hf
    refine z_lv [0, 2] rfl ?_
    exact hJ17 hf
  replace hf := zif_f h4 hf
  refine z_iconst hC dX1_faultOfPair_15 (v := 3) rfl ?_
  subst hf
  exact z_iret hC dX1_faultOfPair_16
theorem zy_X1_faultOfPair : zYV yX1_faultOfPair cX1_faultOfPair 4 (some .int) RX1 2 := ⟨zw_cd_X1_faultOfPair, zw_im_X1_faultOfPair, zw_sel_X1_faultOfPair, zw_ini_X1, by decide +kernel⟩
abbrev rm_X1_renew : Room := { frames := 0, cells := 0, slots := 0, locals := 0 }
def b_X1_renew_12 (b : Nat) (k12 : Int32 → zW → Option zW) (v3 : Int32) (w4 : zW) : Option zW :=
  if (40 : Int32) ≤ v3 then
    some w4
  else
  zg (zin v3 40) <|
  zlet (zup w4 (b + 1) (zx v3) (0 : Int32)) fun w7 =>
  zlet (v3 + (1 : Int32)) fun v8 =>
  k12 v8 w7
def f_X1_renew (w : zW) (b : Nat) (a1 : Int32) (a2 : Int32) : Option zW :=
  zlet (zup w b 1 a1) fun w1 =>
  zlet (zup w1 b 2 a2) fun w2 =>
  zfix2 (b_X1_renew_12 b) 100000 (0 : Int32) w2
set_option maxRecDepth 100000 in
set_option maxHeartbeats 4000000 in
theorem c_X1_renew (l : Launch) (G : zG) (w : zW) (b : Nat) (hb : zshee b) (a1 : Int32) (a2 : Int32) {wz : zW} (hf : f_X1_renew w b a1 a2 = some wz) : zMet l G yX1_renew cX1_renew 4 none rm_X1_renew [.ref (zad G b), .int a1, .int a2] w none wz := by
  refine z_start (own := RX1) (by decide) rfl (Nat.le_of_ble_eq_true rfl) (lv := [(0, .ref (zad G b)), (1, .int a1), (2, .int a2)]) rfl ?_
  intro p e s m args below meth c hC
  unfold f_X1_renew at hf
  refine z_aload_n hC dX1_renew_0 0 rfl rfl ?_
  refine z_iload_n hC dX1_renew_1 1 rfl rfl ?_
  obtain ⟨w1, ew1, hf⟩ := zlet_e hf
  refine z_put1 hC hb 1 (by decide) rfl rfl zw_fl_X1_15 rfl ew1 dX1_renew_2 ?_
  refine z_aload_n hC dX1_renew_5 0 rfl rfl ?_
  refine z_iload_n hC dX1_renew_6 2 rfl rfl ?_
  obtain ⟨w2, ew2, hf⟩ := zlet_e hf
  refine z_put1 hC hb 2 (by decide) rfl rfl zw_fl_X1_19 rfl ew2 dX1_renew_7 ?_
  refine z_iconst hC dX1_renew_10 (v := 0) rfl ?_
  refine z_istore_n (lv' := [(3, .int (0 : Int32)), (0, .ref (zad G b)), (1, .int a1), (2, .int a2)]) hC dX1_renew_11 rfl (by decide) rfl ?_
  have hL12 : ∀ (n : Nat) (v3 : Int32) (w4 : zW), zfix2 (b_X1_renew_12 b) n v3 w4 = some wz → Z G p l e rm_X1_renew s m args below meth c (MQ below (zQ G none wz) args s 0 0 (zA G)) 4 12 [(0, .ref (zad G b)), (3, .int v3)] [] w4 := by
    intro n
    induction n with
    | zero => intro v3 w4 hf; exact (zfix2_0 hf).elim
    | succ n ih12 =>
      intro v3 w4 hf
      replace hf := zfix2_e hf
      unfold b_X1_renew_12 at hf
      refine z_iload_n hC dX1_renew_12 1 rfl rfl ?_
      refine z_bipush hC dX1_renew_13 (v := 40) rfl ?_
      refine z_icmp_ge (tgt := 31) hC dX1_renew_15 (by decide) (fun h5 => ?_) (fun h5 => ?_)
      · replace hf := zif_t h5 hf
        obtain rfl := zso1 hf
        exact z_vret hC dX1_renew_31
      replace hf := zif_f h5 hf
      refine z_aload_n hC dX1_renew_18 0 rfl rfl ?_
      refine z_get1 hC hb 0 (by decide) zw_fl_X1_9 (v := .ref (zad G (b + 1))) rfl dX1_renew_19 ?_
      refine z_iload_n hC dX1_renew_22 1 rfl rfl ?_
      refine z_iconst hC dX1_renew_23 (v := 0) rfl ?_
      obtain ⟨hg6, hf⟩ := zg_e hf
      obtain ⟨w7, ew7, hf⟩ := zlet_e hf
      refine z_iast hC (za_s1 hb) hg6 rfl ew7 dX1_renew_24 ?_
      obtain ⟨v8, ev8, hf⟩ := zlet_e hf
      refine z_iinc (v := v8) (lv' := [(3, .int v8), (0, .ref (zad G b))]) hC dX1_renew_25 1 rfl (by rw [ev8]; rfl) (by decide) rfl ?_
      refine z_goto (tgt := 12) hC dX1_renew_28 (by decide) ?_
      refine z_lv [1, 0] rfl ?_
      exact ih12 _ _ hf
  refine z_lv [1, 0] rfl ?_
  exact hL12 _ _ _ hf
theorem zy_X1_renew : zYV yX1_renew cX1_renew 4 none RX1 2 := ⟨zw_cd_X1_renew, zw_im_X1_renew, zw_sel_X1_renew, zw_ini_X1, by decide +kernel⟩
abbrev rm_X1_write : Room := { frames := 0, cells := 0, slots := 0, locals := 0 }
def f_X1_write (w : zW) (b : Nat) (a1 : Int32) (a2 : Int32) : Option zW :=
  zlet (w b 1) fun v1 =>
  if v1 = (0 : Int32) then
    zg (zin a1 40) <|
    zlet (zup w (b + 1) (zx a1) (a2.toInt8.toInt32)) fun w4 =>
    some w4
  else
  if v1 = (1 : Int32) then
    zg (zin a1 40) <|
    zlet (zup w (b + 1) (zx a1) (a2.toInt16.toInt32)) fun w7 =>
    some w7
  else
  zg (zin a1 40) <|
  zlet (zup w (b + 1) (zx a1) a2) fun w9 =>
  some w9
set_option maxRecDepth 100000 in
set_option maxHeartbeats 4000000 in
theorem c_X1_write (l : Launch) (G : zG) (w : zW) (b : Nat) (hb : zshee b) (a1 : Int32) (a2 : Int32) {wz : zW} (hf : f_X1_write w b a1 a2 = some wz) : zMet l G yX1_write cX1_write 3 none rm_X1_write [.ref (zad G b), .int a1, .int a2] w none wz := by
  refine z_start (own := RX1) (by decide) rfl (Nat.le_of_ble_eq_true rfl) (lv := [(0, .ref (zad G b)), (1, .int a1), (2, .int a2)]) rfl ?_
  intro p e s m args below meth c hC
  unfold f_X1_write at hf
  refine z_aload_n hC dX1_write_0 0 rfl rfl ?_
  refine z_get1 hC hb 1 (by decide) zw_fl_X1_15 (v := .int (w b 1)) rfl dX1_write_1 ?_
  obtain ⟨v1, ev1, hf⟩ := zlet_e hf
  refine z_topi ev1 ?_
  by_cases h2 : v1 = (0 : Int32)
  · replace hf := zif_t h2 hf
    refine z_lookup (tgt := 32) (off := 28) hC dX1_write_4 (by decide) (by first | (rw [h2]; done) | (rw [h2]; rfl)) (by decide) ?_
    refine z_aload_n hC dX1_write_32 0 rfl rfl ?_
    refine z_get1 hC hb 0 (by decide) zw_fl_X1_9 (v := .ref (zad G (b + 1))) rfl dX1_write_33 ?_
    refine z_iload_n hC dX1_write_36 1 rfl rfl ?_
    refine z_iload_n hC dX1_write_37 2 rfl rfl ?_
    refine z_i2b hC dX1_write_38 ?_
    obtain ⟨hg3, hf⟩ := zg_e hf
    obtain ⟨w4, ew4, hf⟩ := zlet_e hf
    refine z_iast hC (za_s1 hb) hg3 rfl ew4 dX1_write_39 ?_
    refine z_goto (tgt := 61) hC dX1_write_40 (by decide) ?_
    obtain rfl := zso1 hf
    exact z_vret hC dX1_write_61
  replace hf := zif_f h2 hf
  by_cases h5 : v1 = (1 : Int32)
  · replace hf := zif_t h5 hf
    refine z_lookup (tgt := 43) (off := 39) hC dX1_write_4 (by decide) (by first | (rw [h5]; done) | (rw [h5]; rfl)) (by decide) ?_
    refine z_aload_n hC dX1_write_43 0 rfl rfl ?_
    refine z_get1 hC hb 0 (by decide) zw_fl_X1_9 (v := .ref (zad G (b + 1))) rfl dX1_write_44 ?_
    refine z_iload_n hC dX1_write_47 1 rfl rfl ?_
    refine z_iload_n hC dX1_write_48 2 rfl rfl ?_
    refine z_i2s hC dX1_write_49 ?_
    obtain ⟨hg6, hf⟩ := zg_e hf
    obtain ⟨w7, ew7, hf⟩ := zlet_e hf
    refine z_iast hC (za_s1 hb) hg6 rfl ew7 dX1_write_50 ?_
    refine z_goto (tgt := 61) hC dX1_write_51 (by decide) ?_
    obtain rfl := zso1 hf
    exact z_vret hC dX1_write_61
  replace hf := zif_f h5 hf
  refine z_lookup (tgt := 54) (off := 50) hC dX1_write_4 (by decide) ((lv_osw h2 (by decide)).trans <| (lv_osw h5 (by decide)).trans <| rfl) (by decide) ?_
  refine z_aload_n hC dX1_write_54 0 rfl rfl ?_
  refine z_get1 hC hb 0 (by decide) zw_fl_X1_9 (v := .ref (zad G (b + 1))) rfl dX1_write_55 ?_
  refine z_iload_n hC dX1_write_58 1 rfl rfl ?_
  refine z_iload_n hC dX1_write_59 2 rfl rfl ?_
  obtain ⟨hg8, hf⟩ := zg_e hf
  obtain ⟨w9, ew9, hf⟩ := zlet_e hf
  refine z_iast hC (za_s1 hb) hg8 rfl ew9 dX1_write_60 ?_
  obtain rfl := zso1 hf
  exact z_vret hC dX1_write_61
theorem zy_X1_write : zYV yX1_write cX1_write 3 none RX1 2 := ⟨zw_cd_X1_write, zw_im_X1_write, zw_sel_X1_write, zw_ini_X1, by decide +kernel⟩
