abbrev rm_X3_within : Room := { frames := 0, cells := 0, slots := 0, locals := 0 }
def f_X3_within (a0 : Int32) (a1 : Int32) (a2 : Int32) : Int32 :=
  zjn0 (
    (0 : Int32))
  (fun (j14 : Int32) =>
  if a0 < a1 then
    j14
  else
  if a2 < a0 then
    j14
  else
  (1 : Int32))
theorem zb_X3_within (a0 : Int32) (a1 : Int32) (a2 : Int32) : zbo (f_X3_within a0 a1 a2) = true := by
  unfold f_X3_within
  (try simp only [zjn0, zjn1, zlet])
  (try repeat' split) <;> first | rfl
set_option maxRecDepth 100000 in
set_option maxHeartbeats 4000000 in
theorem c_X3_within (l : Launch) (G : zG) (w : zW) (a0 : Int32) (a1 : Int32) (a2 : Int32) : zMet l G yX3_within cX3_within 3 (some .boolean) rm_X3_within [.int a0, .int a1, .int a2] w (some (.int (f_X3_within a0 a1 a2))) w := by
  generalize hf : f_X3_within a0 a1 a2 = r
  refine z_start (own := RX3) (by decide) rfl (Nat.le_of_ble_eq_true rfl) (lv := [(0, .int a0), (1, .int a1), (2, .int a2)]) rfl ?_
  intro p e s m args below meth c hC
  unfold f_X3_within at hf
  refine z_iload_n hC dX3_within_0 0 rfl rfl ?_
  refine z_iload_n hC dX3_within_1 1 rfl rfl ?_
  obtain ⟨j14, hj14, hf⟩ := zjn0_e hf
  have hJ14 : j14 = r → Z G p l e rm_X3_within s m args below meth c (MQ below (zQ G (some (.int r)) w) args s 0 0 (zA G)) 3 14 [] [] w := by
    intro hf
    replace hf := hj14  hf
    refine z_iconst hC dX3_within_14 (v := 0) rfl ?_
    subst hf
    exact z_zret hC rfl dX3_within_15
  refine z_icmp_lt (tgt := 14) hC dX3_within_2 (by decide) (fun h1 => ?_) (fun h1 => ?_)
  · replace hf := zif_t h1 hf
    refine z_lv [] rfl ?_
    exact hJ14 hf
  replace hf := zif_f h1 hf
  refine z_iload_n hC dX3_within_5 0 rfl rfl ?_
  refine z_iload_n hC dX3_within_6 2 rfl rfl ?_
  refine z_icmp_gt (tgt := 14) hC dX3_within_7 (by decide) (fun h2 => ?_) (fun h2 => ?_)
  · replace hf := zif_t h2 hf
    refine z_lv [] rfl ?_
    exact hJ14 hf
  replace hf := zif_f h2 hf
  refine z_iconst hC dX3_within_10 (v := 1) rfl ?_
  refine z_goto (tgt := 15) hC dX3_within_11 (by decide) ?_
  subst hf
  exact z_zret hC rfl dX3_within_15
theorem zy_X3_within : zYS yX3_within cX3_within 3 (some .boolean) 3 := ⟨zw_cd_X3_within, zw_st_X3_within, zw_ini_X3, by decide +kernel⟩
abbrev rm_X4_in : Room := { frames := 0, cells := 0, slots := 0, locals := 0 }
def f_X4_in (a0 : Int64) (a2 : Int64) (a4 : Int64) : Int32 :=
  zjn0 (
    (0 : Int32))
  (fun (j17 : Int32) =>
  if (lg_cmp a0 a2) < (0 : Int32) then
    j17
  else
  if (0 : Int32) < (lg_cmp a0 a4) then
    j17
  else
  (1 : Int32))
theorem zb_X4_in (a0 : Int64) (a2 : Int64) (a4 : Int64) : zbo (f_X4_in a0 a2 a4) = true := by
  unfold f_X4_in
  (try simp only [zjn0, zjn1, zlet])
  (try repeat' split) <;> first | rfl
set_option maxRecDepth 100000 in
set_option maxHeartbeats 4000000 in
theorem c_X4_in (l : Launch) (G : zG) (w : zW) (a0 : Int64) (a2 : Int64) (a4 : Int64) : zMet l G yX4_in cX4_in 6 (some .boolean) rm_X4_in [.long a0, .long a2, .long a4] w (some (.int (f_X4_in a0 a2 a4))) w := by
  generalize hf : f_X4_in a0 a2 a4 = r
  refine z_start (own := RX4) (by decide) rfl (Nat.le_of_ble_eq_true rfl) (lv := [(0, .long a0), (2, .long a2), (4, .long a4)]) rfl ?_
  intro p e s m args below meth c hC
  unfold f_X4_in at hf
  refine z_lload_n hC dX4_in_0 0 rfl rfl ?_
  refine z_lload_n hC dX4_in_1 1 rfl rfl ?_
  refine z_lcmp hC dX4_in_2 ?_
  obtain ⟨j17, hj17, hf⟩ := zjn0_e hf
  have hJ17 : j17 = r → Z G p l e rm_X4_in s m args below meth c (MQ below (zQ G (some (.int r)) w) args s 0 0 (zA G)) 6 17 [] [] w := by
    intro hf
    replace hf := hj17  hf
    refine z_iconst hC dX4_in_17 (v := 0) rfl ?_
    subst hf
    exact z_zret hC rfl dX4_in_18
  refine z_if_lt (tgt := 17) hC dX4_in_3 (by decide) (fun h1 => ?_) (fun h1 => ?_)
  · replace hf := zif_t h1 hf
    refine z_lv [] rfl ?_
    exact hJ17 hf
  replace hf := zif_f h1 hf
  refine z_lload_n hC dX4_in_6 0 rfl rfl ?_
  refine z_lload hC dX4_in_7 2 rfl ?_
  refine z_lcmp hC dX4_in_9 ?_
  refine z_if_gt (tgt := 17) hC dX4_in_10 (by decide) (fun h2 => ?_) (fun h2 => ?_)
  · replace hf := zif_t h2 hf
    refine z_lv [] rfl ?_
    exact hJ17 hf
  replace hf := zif_f h2 hf
  refine z_iconst hC dX4_in_13 (v := 1) rfl ?_
  refine z_goto (tgt := 18) hC dX4_in_14 (by decide) ?_
  subst hf
  exact z_zret hC rfl dX4_in_18
theorem zy_X4_in : zYS yX4_in cX4_in 6 (some .boolean) 3 := ⟨zw_cd_X4_in, zw_st_X4_in, zw_ini_X4, by decide +kernel⟩
abbrev rm_X0_allLevels : Room := { frames := 0, cells := 0, slots := 0, locals := 0 }
def b_X0_allLevels_4 (w : zW) (b : Nat) (k4 : Int32 → Int32 → Option Int32) (v1 : Int32) (v2 : Int32) : Option Int32 :=
  if (w b 0) ≤ v2 then
    some v1
  else
  zg (zin v2 4) <|
  zlet (v1 + (w (b + 3) (zx v2))) fun v5 =>
  zlet (v2 + (1 : Int32)) fun v6 =>
  k4 v5 v6
def f_X0_allLevels (w : zW) (b : Nat) : Option Int32 :=
  zfix2 (b_X0_allLevels_4 w b) 100000 (0 : Int32) (0 : Int32)
set_option maxRecDepth 100000 in
set_option maxHeartbeats 4000000 in
theorem c_X0_allLevels (l : Launch) (G : zG) (w : zW) (b : Nat) (hb : zcamp b) {r : Int32} (hf : f_X0_allLevels w b = some r) : zMet l G yX0_allLevels cX0_allLevels 3 (some .int) rm_X0_allLevels [.ref (zad G b)] w (some (.int r)) w := by
  refine z_start (own := RX0) (by decide) rfl (Nat.le_of_ble_eq_true rfl) (lv := [(0, .ref (zad G b))]) rfl ?_
  intro p e s m args below meth c hC
  unfold f_X0_allLevels at hf
  refine z_iconst hC dX0_allLevels_0 (v := 0) rfl ?_
  refine z_istore_n (lv' := [(1, .int (0 : Int32)), (0, .ref (zad G b))]) hC dX0_allLevels_1 rfl (by decide) rfl ?_
  refine z_iconst hC dX0_allLevels_2 (v := 0) rfl ?_
  refine z_istore_n (lv' := [(2, .int (0 : Int32)), (1, .int (0 : Int32)), (0, .ref (zad G b))]) hC dX0_allLevels_3 rfl (by decide) rfl ?_
  have hL4 : ∀ (n : Nat) (v1 : Int32) (v2 : Int32), zfix2 (b_X0_allLevels_4 w b) n v1 v2 = some r → Z G p l e rm_X0_allLevels s m args below meth c (MQ below (zQ G (some (.int r)) w) args s 0 0 (zA G)) 3 4 [(0, .ref (zad G b)), (1, .int v1), (2, .int v2)] [] w := by
    intro n
    induction n with
    | zero => intro v1 v2 hf; exact (zfix2_0 hf).elim
    | succ n ih4 =>
      intro v1 v2 hf
      replace hf := zfix2_e hf
      unfold b_X0_allLevels_4 at hf
      refine z_iload_n hC dX0_allLevels_4 2 rfl rfl ?_
      refine z_aload_n hC dX0_allLevels_5 0 rfl rfl ?_
      refine z_get0 hC hb 0 (by decide) zw_fl_X0_9 (v := .int (w b 0)) rfl dX0_allLevels_6 ?_
      refine z_icmp_ge (tgt := 27) hC dX0_allLevels_9 (by decide) (fun h3 => ?_) (fun h3 => ?_)
      · replace hf := zif_t h3 hf
        refine z_iload_n hC dX0_allLevels_27 1 rfl rfl ?_
        obtain rfl := zso1 hf
        exact z_iret hC dX0_allLevels_28
      replace hf := zif_f h3 hf
      refine z_iload_n hC dX0_allLevels_12 1 rfl rfl ?_
      refine z_aload_n hC dX0_allLevels_13 0 rfl rfl ?_
      refine z_get0 hC hb 3 (by decide) zw_fl_X0_22 (v := .ref (zad G (b + 3))) rfl dX0_allLevels_14 ?_
      refine z_iload_n hC dX0_allLevels_17 2 rfl rfl ?_
      obtain ⟨hg4, hf⟩ := zg_e hf
      refine z_iald hC (za_c3 hb) hg4 rfl dX0_allLevels_18 ?_
      refine z_iadd hC dX0_allLevels_19 ?_
      obtain ⟨v5, ev5, hf⟩ := zlet_e hf
      refine z_topi ev5 ?_
      refine z_istore_n (lv' := [(1, .int v5), (0, .ref (zad G b)), (2, .int v2)]) hC dX0_allLevels_20 rfl (by decide) rfl ?_
      obtain ⟨v6, ev6, hf⟩ := zlet_e hf
      refine z_iinc (v := v6) (lv' := [(2, .int v6), (1, .int v5), (0, .ref (zad G b))]) hC dX0_allLevels_21 2 rfl (by rw [ev6]; rfl) (by decide) rfl ?_
      refine z_goto (tgt := 4) hC dX0_allLevels_24 (by decide) ?_
      refine z_lv [2, 1, 0] rfl ?_
      exact ih4 _ _ hf
  refine z_lv [2, 1, 0] rfl ?_
  exact hL4 _ _ _ hf
theorem zy_X0_allLevels : zYV yX0_allLevels cX0_allLevels 3 (some .int) RX0 0 := ⟨zw_cd_X0_allLevels, zw_im_X0_allLevels, zw_sel_X0_allLevels, zw_ini_X0, by decide +kernel⟩
abbrev rm_X0_isAtGoal : Room := { frames := 0, cells := 0, slots := 0, locals := 0 }
def f_X0_isAtGoal (w : zW) (b : Nat) : Int32 :=
  if (w b 11) < (w b 10) then
    (0 : Int32)
  else
  (1 : Int32)
theorem zb_X0_isAtGoal (w : zW) (b : Nat) : zbo (f_X0_isAtGoal w b) = true := by
  unfold f_X0_isAtGoal
  (try simp only [zjn0, zjn1, zlet])
  (try repeat' split) <;> first | rfl
set_option maxRecDepth 100000 in
set_option maxHeartbeats 4000000 in
theorem c_X0_isAtGoal (l : Launch) (G : zG) (w : zW) (b : Nat) (hb : zcamp b) : zMet l G yX0_isAtGoal cX0_isAtGoal 1 (some .boolean) rm_X0_isAtGoal [.ref (zad G b)] w (some (.int (f_X0_isAtGoal w b))) w := by
  generalize hf : f_X0_isAtGoal w b = r
  refine z_start (own := RX0) (by decide) rfl (Nat.le_of_ble_eq_true rfl) (lv := [(0, .ref (zad G b))]) rfl ?_
  intro p e s m args below meth c hC
  unfold f_X0_isAtGoal at hf
  refine z_aload_n hC dX0_isAtGoal_0 0 rfl rfl ?_
  refine z_get0 hC hb 11 (by decide) zw_fl_X0_47 (v := .int (w b 11)) rfl dX0_isAtGoal_1 ?_
  refine z_aload_n hC dX0_isAtGoal_4 0 rfl rfl ?_
  refine z_get0 hC hb 10 (by decide) zw_fl_X0_44 (v := .int (w b 10)) rfl dX0_isAtGoal_5 ?_
  refine z_icmp_lt (tgt := 15) hC dX0_isAtGoal_8 (by decide) (fun h1 => ?_) (fun h1 => ?_)
  · replace hf := zif_t h1 hf
    refine z_iconst hC dX0_isAtGoal_15 (v := 0) rfl ?_
    subst hf
    exact z_zret hC rfl dX0_isAtGoal_16
  replace hf := zif_f h1 hf
  refine z_iconst hC dX0_isAtGoal_11 (v := 1) rfl ?_
  refine z_goto (tgt := 16) hC dX0_isAtGoal_12 (by decide) ?_
  subst hf
  exact z_zret hC rfl dX0_isAtGoal_16
theorem zy_X0_isAtGoal : zYV yX0_isAtGoal cX0_isAtGoal 1 (some .boolean) RX0 0 := ⟨zw_cd_X0_isAtGoal, zw_im_X0_isAtGoal, zw_sel_X0_isAtGoal, zw_ini_X0, by decide +kernel⟩
abbrev rm_X0_isDown : Room := { frames := 0, cells := 0, slots := 0, locals := 0 }
def f_X0_isDown (w : zW) (b : Nat) (a1 : Int32) : Option Int32 :=
  zg (zin a1 4) <|
  if (w (b + 3) (zx a1)) = (0 : Int32) then
    some (1 : Int32)
  else
    some (0 : Int32)
set_option maxRecDepth 100000 in
set_option maxHeartbeats 4000000 in
theorem c_X0_isDown (l : Launch) (G : zG) (w : zW) (b : Nat) (hb : zcamp b) (a1 : Int32) {r : Int32} (hf : f_X0_isDown w b a1 = some r) : zMet l G yX0_isDown cX0_isDown 2 (some .boolean) rm_X0_isDown [.ref (zad G b), .int a1] w (some (.int r)) w := by
  refine z_start (own := RX0) (by decide) rfl (Nat.le_of_ble_eq_true rfl) (lv := [(0, .ref (zad G b)), (1, .int a1)]) rfl ?_
  intro p e s m args below meth c hC
  unfold f_X0_isDown at hf
  refine z_aload_n hC dX0_isDown_0 0 rfl rfl ?_
  refine z_get0 hC hb 3 (by decide) zw_fl_X0_22 (v := .ref (zad G (b + 3))) rfl dX0_isDown_1 ?_
  refine z_iload_n hC dX0_isDown_4 1 rfl rfl ?_
  obtain ⟨hg1, hf⟩ := zg_e hf
  refine z_iald hC (za_c3 hb) hg1 rfl dX0_isDown_5 ?_
  refine z_if_ne (tgt := 13) hC dX0_isDown_6 (by decide) (fun h2 => ?_) (fun h2 => ?_)
  · replace hf := zif_f h2 hf
    refine z_iconst hC dX0_isDown_13 (v := 0) rfl ?_
    obtain rfl := zso1 hf
    exact z_zret hC rfl dX0_isDown_14
  replace hf := zif_t h2 hf
  refine z_iconst hC dX0_isDown_9 (v := 1) rfl ?_
  refine z_goto (tgt := 14) hC dX0_isDown_10 (by decide) ?_
  obtain rfl := zso1 hf
  exact z_zret hC rfl dX0_isDown_14
theorem zy_X0_isDown : zYV yX0_isDown cX0_isDown 2 (some .boolean) RX0 1 := ⟨zw_cd_X0_isDown, zw_im_X0_isDown, zw_sel_X0_isDown, zw_ini_X0, by decide +kernel⟩
abbrev rm_X0_standing : Room := { frames := 1, cells := 0, slots := 0, locals := 21 }
def b_X0_standing_4 (w : zW) (b : Nat) (k4 : Int32 → Int32 → Option Int32) (v1 : Int32) (v2 : Int32) : Option Int32 :=
  if (w b 0) ≤ v2 then
    some v1
  else
  zbd (f_X0_isDown w b v2) fun v4 =>
  zjn1 (fun (v5 : Int32) =>
    zlet (v1 + v5) fun v6 =>
    zlet (v2 + (1 : Int32)) fun v7 =>
    k4 v6 v7)
  (fun (j26 : Int32 → Option Int32) =>
  if v4 = (0 : Int32) then
    j26 (1 : Int32)
  else
  j26 (0 : Int32))
def f_X0_standing (w : zW) (b : Nat) : Option Int32 :=
  zfix2 (b_X0_standing_4 w b) 100000 (0 : Int32) (0 : Int32)
set_option maxRecDepth 100000 in
set_option maxHeartbeats 4000000 in
theorem c_X0_standing (l : Launch) (G : zG) (w : zW) (b : Nat) (hb : zcamp b) {r : Int32} (hf : f_X0_standing w b = some r) : zMet l G yX0_standing cX0_standing 3 (some .int) rm_X0_standing [.ref (zad G b)] w (some (.int r)) w := by
  refine z_start (own := RX0) (by decide) rfl (Nat.le_of_ble_eq_true rfl) (lv := [(0, .ref (zad G b))]) rfl ?_
  intro p e s m args below meth c hC
  unfold f_X0_standing at hf
  refine z_iconst hC dX0_standing_0 (v := 0) rfl ?_
  refine z_istore_n (lv' := [(1, .int (0 : Int32)), (0, .ref (zad G b))]) hC dX0_standing_1 rfl (by decide) rfl ?_
  refine z_iconst hC dX0_standing_2 (v := 0) rfl ?_
  refine z_istore_n (lv' := [(2, .int (0 : Int32)), (1, .int (0 : Int32)), (0, .ref (zad G b))]) hC dX0_standing_3 rfl (by decide) rfl ?_
  have hL4 : ∀ (n : Nat) (v1 : Int32) (v2 : Int32), zfix2 (b_X0_standing_4 w b) n v1 v2 = some r → Z G p l e rm_X0_standing s m args below meth c (MQ below (zQ G (some (.int r)) w) args s 0 0 (zA G)) 3 4 [(0, .ref (zad G b)), (1, .int v1), (2, .int v2)] [] w := by
    intro n
    induction n with
    | zero => intro v1 v2 hf; exact (zfix2_0 hf).elim
    | succ n ih4 =>
      intro v1 v2 hf
      replace hf := zfix2_e hf
      unfold b_X0_standing_4 at hf
      refine z_iload_n hC dX0_standing_4 2 rfl rfl ?_
      refine z_aload_n hC dX0_standing_5 0 rfl rfl ?_
      refine z_get0 hC hb 0 (by decide) zw_fl_X0_9 (v := .int (w b 0)) rfl dX0_standing_6 ?_
      refine z_icmp_ge (tgt := 34) hC dX0_standing_9 (by decide) (fun h3 => ?_) (fun h3 => ?_)
      · replace hf := zif_t h3 hf
        refine z_iload_n hC dX0_standing_34 1 rfl rfl ?_
        obtain rfl := zso1 hf
        exact z_iret hC dX0_standing_35
      replace hf := zif_f h3 hf
      refine z_iload_n hC dX0_standing_12 1 rfl rfl ?_
      refine z_aload_n hC dX0_standing_13 0 rfl rfl ?_
      refine z_iload_n hC dX0_standing_14 2 rfl rfl ?_
      obtain ⟨v4, ev4, hf⟩ := zbd_e hf
      refine z_cvi (As := [.int v2]) (rest := [.int v1]) hC (zo_camp hb) rfl (c_X0_isDown l G w b hb v2 ev4) zw_ml_X0_62 zy_X0_isDown ⟨rfl, rfl, Nat.le_of_ble_eq_true rfl, Nat.le_of_ble_eq_true rfl⟩ rfl rfl (Nat.le_of_ble_eq_true rfl) dX0_standing_15 ?_
      obtain ⟨j26, hj26, hf⟩ := zjn1_e hf
      have hJ26 : ∀ (v5 : Int32), j26 v5 = some r → Z G p l e rm_X0_standing s m args below meth c (MQ below (zQ G (some (.int r)) w) args s 0 0 (zA G)) 3 26 [(0, .ref (zad G b)), (2, .int v2)] [.int v5, .int v1] w := by
        intro v5 hf
        replace hf := hj26 v5 hf
        refine z_iadd hC dX0_standing_26 ?_
        obtain ⟨v6, ev6, hf⟩ := zlet_e hf
        refine z_topi ev6 ?_
        refine z_istore_n (lv' := [(1, .int v6), (0, .ref (zad G b)), (2, .int v2)]) hC dX0_standing_27 rfl (by decide) rfl ?_
        obtain ⟨v7, ev7, hf⟩ := zlet_e hf
        refine z_iinc (v := v7) (lv' := [(2, .int v7), (1, .int v6), (0, .ref (zad G b))]) hC dX0_standing_28 2 rfl (by rw [ev7]; rfl) (by decide) rfl ?_
        refine z_goto (tgt := 4) hC dX0_standing_31 (by decide) ?_
        refine z_lv [2, 1, 0] rfl ?_
        exact ih4 _ _ hf
      refine z_if_eq (tgt := 25) hC dX0_standing_18 (by decide) (fun h8 => ?_) (fun h8 => ?_)
      · replace hf := zif_t h8 hf
        refine z_iconst hC dX0_standing_25 (v := 1) rfl ?_
        refine z_lv [0, 2] rfl ?_
        exact hJ26 _ hf
      replace hf := zif_f h8 hf
      refine z_iconst hC dX0_standing_21 (v := 0) rfl ?_
      refine z_goto (tgt := 26) hC dX0_standing_22 (by decide) ?_
      refine z_lv [0, 2] rfl ?_
      exact hJ26 _ hf
  refine z_lv [2, 1, 0] rfl ?_
  exact hL4 _ _ _ hf
theorem zy_X0_standing : zYV yX0_standing cX0_standing 3 (some .int) RX0 0 := ⟨zw_cd_X0_standing, zw_im_X0_standing, zw_sel_X0_standing, zw_ini_X0, by decide +kernel⟩
abbrev rm_X0_arrived : Room := { frames := 2, cells := 0, slots := 0, locals := 43 }
def f_X0_arrived (w : zW) (b : Nat) : Option Int32 :=
  if (f_X0_isAtGoal w b) = (0 : Int32) then
    some (0 : Int32)
  else
  zbd (f_X0_standing w b) fun v2 =>
  some v2
set_option maxRecDepth 100000 in
set_option maxHeartbeats 4000000 in
theorem c_X0_arrived (l : Launch) (G : zG) (w : zW) (b : Nat) (hb : zcamp b) {r : Int32} (hf : f_X0_arrived w b = some r) : zMet l G yX0_arrived cX0_arrived 1 (some .int) rm_X0_arrived [.ref (zad G b)] w (some (.int r)) w := by
  refine z_start (own := RX0) (by decide) rfl (Nat.le_of_ble_eq_true rfl) (lv := [(0, .ref (zad G b))]) rfl ?_
  intro p e s m args below meth c hC
  unfold f_X0_arrived at hf
  refine z_aload_n hC dX0_arrived_0 0 rfl rfl ?_
  refine z_cvi (As := []) (rest := []) hC (zo_camp hb) rfl (c_X0_isAtGoal l G w b hb) zw_ml_X0_91 zy_X0_isAtGoal ⟨rfl, rfl, Nat.le_of_ble_eq_true rfl, Nat.le_of_ble_eq_true rfl⟩ rfl rfl (Nat.le_of_ble_eq_true rfl) dX0_arrived_1 ?_
  refine z_if_eq (tgt := 14) hC dX0_arrived_4 (by decide) (fun h1 => ?_) (fun h1 => ?_)
  · replace hf := zif_t h1 hf
    refine z_iconst hC dX0_arrived_14 (v := 0) rfl ?_
    obtain rfl := zso1 hf
    exact z_iret hC dX0_arrived_15
  replace hf := zif_f h1 hf
  refine z_aload_n hC dX0_arrived_7 0 rfl rfl ?_
  obtain ⟨v2, ev2, hf⟩ := zbd_e hf
  refine z_cvi (As := []) (rest := []) hC (zo_camp hb) rfl (c_X0_standing l G w b hb ev2) zw_ml_X0_94 zy_X0_standing ⟨rfl, rfl, Nat.le_of_ble_eq_true rfl, Nat.le_of_ble_eq_true rfl⟩ rfl rfl (Nat.le_of_ble_eq_true rfl) dX0_arrived_8 ?_
  refine z_goto (tgt := 15) hC dX0_arrived_11 (by decide) ?_
  obtain rfl := zso1 hf
  exact z_iret hC dX0_arrived_15
theorem zy_X0_arrived : zYV yX0_arrived cX0_arrived 1 (some .int) RX0 0 := ⟨zw_cd_X0_arrived, zw_im_X0_arrived, zw_sel_X0_arrived, zw_ini_X0, by decide +kernel⟩
abbrev rm_X0_clear : Room := { frames := 0, cells := 0, slots := 0, locals := 0 }
def f_X0_clear (w : zW) (b : Nat) : Option zW :=
  zlet (zup w b 0 (0 : Int32)) fun w1 =>
  zlet (zup w1 b 4 (0 : Int32)) fun w2 =>
  zlet (zup w2 b 9 (0 : Int32)) fun w3 =>
  zlet (zup w3 b 10 (20 : Int32)) fun w4 =>
  zlet (zup w4 b 11 (0 : Int32)) fun w5 =>
  zlet (zup w5 b 12 (18 : Int32)) fun w6 =>
  zlet (zup w6 b 13 (0 : Int32)) fun w7 =>
  zlet (zup w7 b 14 (0 : Int32)) fun w8 =>
  zlet (zup w8 b 15 (0 : Int32)) fun w9 =>
  some w9
set_option maxRecDepth 100000 in
set_option maxHeartbeats 4000000 in
theorem c_X0_clear (l : Launch) (G : zG) (w : zW) (b : Nat) (hb : zcamp b) {wz : zW} (hf : f_X0_clear w b = some wz) : zMet l G yX0_clear cX0_clear 1 none rm_X0_clear [.ref (zad G b)] w none wz := by
  refine z_start (own := RX0) (by decide) rfl (Nat.le_of_ble_eq_true rfl) (lv := [(0, .ref (zad G b))]) rfl ?_
  intro p e s m args below meth c hC
  unfold f_X0_clear at hf
  refine z_aload_n hC dX0_clear_0 0 rfl rfl ?_
  refine z_iconst hC dX0_clear_1 (v := 0) rfl ?_
  obtain ⟨w1, ew1, hf⟩ := zlet_e hf
  refine z_put0 hC hb 0 (by decide) rfl rfl zw_fl_X0_9 rfl ew1 dX0_clear_2 ?_
  refine z_aload_n hC dX0_clear_5 0 rfl rfl ?_
  refine z_iconst hC dX0_clear_6 (v := 0) rfl ?_
  obtain ⟨w2, ew2, hf⟩ := zlet_e hf
  refine z_put0 hC hb 4 (by decide) rfl rfl zw_fl_X0_25 rfl ew2 dX0_clear_7 ?_
  refine z_aload_n hC dX0_clear_10 0 rfl rfl ?_
  refine z_iconst hC dX0_clear_11 (v := 0) rfl ?_
  obtain ⟨w3, ew3, hf⟩ := zlet_e hf
  refine z_put0 hC hb 9 (by decide) rfl rfl zw_fl_X0_41 rfl ew3 dX0_clear_12 ?_
  refine z_aload_n hC dX0_clear_15 0 rfl rfl ?_
  refine z_bipush hC dX0_clear_16 (v := 20) rfl ?_
  obtain ⟨w4, ew4, hf⟩ := zlet_e hf
  refine z_put0 hC hb 10 (by decide) rfl rfl zw_fl_X0_44 rfl ew4 dX0_clear_18 ?_
  refine z_aload_n hC dX0_clear_21 0 rfl rfl ?_
  refine z_iconst hC dX0_clear_22 (v := 0) rfl ?_
  obtain ⟨w5, ew5, hf⟩ := zlet_e hf
  refine z_put0 hC hb 11 (by decide) rfl rfl zw_fl_X0_47 rfl ew5 dX0_clear_23 ?_
  refine z_aload_n hC dX0_clear_26 0 rfl rfl ?_
  refine z_bipush hC dX0_clear_27 (v := 18) rfl ?_
  obtain ⟨w6, ew6, hf⟩ := zlet_e hf
  refine z_put0 hC hb 12 (by decide) rfl rfl zw_fl_X0_50 rfl ew6 dX0_clear_29 ?_
  refine z_aload_n hC dX0_clear_32 0 rfl rfl ?_
  refine z_iconst hC dX0_clear_33 (v := 0) rfl ?_
  obtain ⟨w7, ew7, hf⟩ := zlet_e hf
  refine z_put0 hC hb 13 (by decide) rfl rfl zw_fl_X0_53 rfl ew7 dX0_clear_34 ?_
  refine z_aload_n hC dX0_clear_37 0 rfl rfl ?_
  refine z_iconst hC dX0_clear_38 (v := 0) rfl ?_
  obtain ⟨w8, ew8, hf⟩ := zlet_e hf
  refine z_put0 hC hb 14 (by decide) rfl rfl zw_fl_X0_56 rfl ew8 dX0_clear_39 ?_
  refine z_aload_n hC dX0_clear_42 0 rfl rfl ?_
  refine z_iconst hC dX0_clear_43 (v := 0) rfl ?_
  obtain ⟨w9, ew9, hf⟩ := zlet_e hf
  refine z_put0 hC hb 15 (by decide) rfl rfl zw_fl_X0_59 rfl ew9 dX0_clear_44 ?_
  obtain rfl := zso1 hf
  exact z_vret hC dX0_clear_47
theorem zy_X0_clear : zYV yX0_clear cX0_clear 1 none RX0 0 := ⟨zw_cd_X0_clear, zw_im_X0_clear, zw_sel_X0_clear, zw_ini_X0, by decide +kernel⟩
abbrev rm_X0_copyFrom : Room := { frames := 0, cells := 0, slots := 0, locals := 0 }
def b_X0_copyFrom_126 (b : Nat) (o1 : Nat) (k126 : Int32 → zW → Option zW) (v11 : Int32) (w12 : zW) : Option zW :=
  if (w12 b 4) ≤ v11 then
    some w12
  else
  zg (zin v11 3) <|
  zg (zin v11 3) <|
  zlet (zup w12 (b + 4) (zx v11) (w12 (o1 + 4) (zx v11))) fun w16 =>
  zg (zin v11 3) <|
  zg (zin v11 3) <|
  zlet (zup w16 (b + 5) (zx v11) (w16 (o1 + 5) (zx v11))) fun w19 =>
  zg (zin v11 3) <|
  zg (zin v11 3) <|
  zlet (zup w19 (b + 6) (zx v11) (w19 (o1 + 6) (zx v11))) fun w22 =>
  zg (zin v11 3) <|
  zg (zin v11 3) <|
  zlet (zup w22 (b + 7) (zx v11) (vp_nar .boolean (w22 (o1 + 7) (zx v11)))) fun w25 =>
  zlet (v11 + (1 : Int32)) fun v26 =>
  k126 v26 w25
def b_X0_copyFrom_74 (b : Nat) (o1 : Nat) (j124 : zW → Option zW) (k74 : Int32 → zW → Option zW) (v27 : Int32) (w28 : zW) : Option zW :=
  if (w28 b 0) ≤ v27 then
    j124 w28
  else
  zg (zin v27 4) <|
  zg (zin v27 4) <|
  zlet (zup w28 (b + 1) (zx v27) (w28 (o1 + 1) (zx v27))) fun w32 =>
  zg (zin v27 4) <|
  zg (zin v27 4) <|
  zlet (zup w32 (b + 2) (zx v27) (w32 (o1 + 2) (zx v27))) fun w35 =>
  zg (zin v27 4) <|
  zg (zin v27 4) <|
  zlet (zup w35 (b + 3) (zx v27) (w35 (o1 + 3) (zx v27))) fun w38 =>
  zlet (v27 + (1 : Int32)) fun v39 =>
  k74 v39 w38
def f_X0_copyFrom (w : zW) (b : Nat) (o1 : Nat) : Option zW :=
  zlet (zup w b 0 (w o1 0)) fun w1 =>
  zlet (zup w1 b 4 (w1 o1 4)) fun w2 =>
  zlet (zup w2 b 9 (w2 o1 9)) fun w3 =>
  zlet (zup w3 b 10 (w3 o1 10)) fun w4 =>
  zlet (zup w4 b 11 (w4 o1 11)) fun w5 =>
  zlet (zup w5 b 12 (w5 o1 12)) fun w6 =>
  zlet (zup w6 b 13 (w6 o1 13)) fun w7 =>
  zlet (zup w7 b 14 (w7 o1 14)) fun w8 =>
  zlet (zup w8 b 15 (w8 o1 15)) fun w9 =>
  zjn1 (fun (w10 : zW) =>
    zfix2 (b_X0_copyFrom_126 b o1) 100000 (0 : Int32) w10)
  (fun (j124 : zW → Option zW) =>
  zfix2 (b_X0_copyFrom_74 b o1 j124) 100000 (0 : Int32) w9)
set_option maxRecDepth 100000 in
set_option maxHeartbeats 4000000 in
theorem c_X0_copyFrom (l : Launch) (G : zG) (w : zW) (b : Nat) (hb : zcamp b) (o1 : Nat) (ho1 : zcamp o1) {wz : zW} (hf : f_X0_copyFrom w b o1 = some wz) : zMet l G yX0_copyFrom cX0_copyFrom 3 none rm_X0_copyFrom [.ref (zad G b), .ref (zad G o1)] w none wz := by
  refine z_start (own := RX0) (by decide) rfl (Nat.le_of_ble_eq_true rfl) (lv := [(0, .ref (zad G b)), (1, .ref (zad G o1))]) rfl ?_
  intro p e s m args below meth c hC
  unfold f_X0_copyFrom at hf
  refine z_aload_n hC dX0_copyFrom_0 0 rfl rfl ?_
  refine z_aload_n hC dX0_copyFrom_1 1 rfl rfl ?_
  refine z_get0 hC ho1 0 (by decide) zw_fl_X0_9 (v := .int (w o1 0)) rfl dX0_copyFrom_2 ?_
  obtain ⟨w1, ew1, hf⟩ := zlet_e hf
  refine z_put0 hC hb 0 (by decide) rfl rfl zw_fl_X0_9 rfl ew1 dX0_copyFrom_5 ?_
  refine z_aload_n hC dX0_copyFrom_8 0 rfl rfl ?_
  refine z_aload_n hC dX0_copyFrom_9 1 rfl rfl ?_
  refine z_get0 hC ho1 4 (by decide) zw_fl_X0_25 (v := .int (w1 o1 4)) rfl dX0_copyFrom_10 ?_
  obtain ⟨w2, ew2, hf⟩ := zlet_e hf
  refine z_put0 hC hb 4 (by decide) rfl rfl zw_fl_X0_25 rfl ew2 dX0_copyFrom_13 ?_
  refine z_aload_n hC dX0_copyFrom_16 0 rfl rfl ?_
  refine z_aload_n hC dX0_copyFrom_17 1 rfl rfl ?_
  refine z_get0 hC ho1 9 (by decide) zw_fl_X0_41 (v := .int (w2 o1 9)) rfl dX0_copyFrom_18 ?_
  obtain ⟨w3, ew3, hf⟩ := zlet_e hf
  refine z_put0 hC hb 9 (by decide) rfl rfl zw_fl_X0_41 rfl ew3 dX0_copyFrom_21 ?_
  refine z_aload_n hC dX0_copyFrom_24 0 rfl rfl ?_
  refine z_aload_n hC dX0_copyFrom_25 1 rfl rfl ?_
  refine z_get0 hC ho1 10 (by decide) zw_fl_X0_44 (v := .int (w3 o1 10)) rfl dX0_copyFrom_26 ?_
  obtain ⟨w4, ew4, hf⟩ := zlet_e hf
  refine z_put0 hC hb 10 (by decide) rfl rfl zw_fl_X0_44 rfl ew4 dX0_copyFrom_29 ?_
  refine z_aload_n hC dX0_copyFrom_32 0 rfl rfl ?_
  refine z_aload_n hC dX0_copyFrom_33 1 rfl rfl ?_
  refine z_get0 hC ho1 11 (by decide) zw_fl_X0_47 (v := .int (w4 o1 11)) rfl dX0_copyFrom_34 ?_
  obtain ⟨w5, ew5, hf⟩ := zlet_e hf
  refine z_put0 hC hb 11 (by decide) rfl rfl zw_fl_X0_47 rfl ew5 dX0_copyFrom_37 ?_
  refine z_aload_n hC dX0_copyFrom_40 0 rfl rfl ?_
  refine z_aload_n hC dX0_copyFrom_41 1 rfl rfl ?_
  refine z_get0 hC ho1 12 (by decide) zw_fl_X0_50 (v := .int (w5 o1 12)) rfl dX0_copyFrom_42 ?_
  obtain ⟨w6, ew6, hf⟩ := zlet_e hf
  refine z_put0 hC hb 12 (by decide) rfl rfl zw_fl_X0_50 rfl ew6 dX0_copyFrom_45 ?_
  refine z_aload_n hC dX0_copyFrom_48 0 rfl rfl ?_
  refine z_aload_n hC dX0_copyFrom_49 1 rfl rfl ?_
  refine z_get0 hC ho1 13 (by decide) zw_fl_X0_53 (v := .int (w6 o1 13)) rfl dX0_copyFrom_50 ?_
  obtain ⟨w7, ew7, hf⟩ := zlet_e hf
  refine z_put0 hC hb 13 (by decide) rfl rfl zw_fl_X0_53 rfl ew7 dX0_copyFrom_53 ?_
  refine z_aload_n hC dX0_copyFrom_56 0 rfl rfl ?_
  refine z_aload_n hC dX0_copyFrom_57 1 rfl rfl ?_
  refine z_get0 hC ho1 14 (by decide) zw_fl_X0_56 (v := .int (w7 o1 14)) rfl dX0_copyFrom_58 ?_
  obtain ⟨w8, ew8, hf⟩ := zlet_e hf
  refine z_put0 hC hb 14 (by decide) rfl rfl zw_fl_X0_56 rfl ew8 dX0_copyFrom_61 ?_
  refine z_aload_n hC dX0_copyFrom_64 0 rfl rfl ?_
  refine z_aload_n hC dX0_copyFrom_65 1 rfl rfl ?_
  refine z_get0 hC ho1 15 (by decide) zw_fl_X0_59 (v := .int (w8 o1 15)) rfl dX0_copyFrom_66 ?_
  obtain ⟨w9, ew9, hf⟩ := zlet_e hf
  refine z_put0 hC hb 15 (by decide) rfl rfl zw_fl_X0_59 rfl ew9 dX0_copyFrom_69 ?_
  refine z_iconst hC dX0_copyFrom_72 (v := 0) rfl ?_
  refine z_istore_n (lv' := [(2, .int (0 : Int32)), (0, .ref (zad G b)), (1, .ref (zad G o1))]) hC dX0_copyFrom_73 rfl (by decide) rfl ?_
  obtain ⟨j124, hj124, hf⟩ := zjn1_e hf
  have hJ124 : ∀ (w10 : zW), j124 w10 = some wz → Z G p l e rm_X0_copyFrom s m args below meth c (MQ below (zQ G none wz) args s 0 0 (zA G)) 3 124 [(0, .ref (zad G b)), (1, .ref (zad G o1))] [] w10 := by
    intro w10 hf
    replace hf := hj124 w10 hf
    refine z_iconst hC dX0_copyFrom_124 (v := 0) rfl ?_
    refine z_istore_n (lv' := [(2, .int (0 : Int32)), (0, .ref (zad G b)), (1, .ref (zad G o1))]) hC dX0_copyFrom_125 rfl (by decide) rfl ?_
    have hL126 : ∀ (n : Nat) (v11 : Int32) (w12 : zW), zfix2 (b_X0_copyFrom_126 b o1) n v11 w12 = some wz → Z G p l e rm_X0_copyFrom s m args below meth c (MQ below (zQ G none wz) args s 0 0 (zA G)) 3 126 [(0, .ref (zad G b)), (1, .ref (zad G o1)), (2, .int v11)] [] w12 := by
      intro n
      induction n with
      | zero => intro v11 w12 hf; exact (zfix2_0 hf).elim
      | succ n ih126 =>
        intro v11 w12 hf
        replace hf := zfix2_e hf
        unfold b_X0_copyFrom_126 at hf
        refine z_iload_n hC dX0_copyFrom_126 2 rfl rfl ?_
        refine z_aload_n hC dX0_copyFrom_127 0 rfl rfl ?_
        refine z_get0 hC hb 4 (by decide) zw_fl_X0_25 (v := .int (w12 b 4)) rfl dX0_copyFrom_128 ?_
        refine z_icmp_ge (tgt := 188) hC dX0_copyFrom_131 (by decide) (fun h13 => ?_) (fun h13 => ?_)
        · replace hf := zif_t h13 hf
          obtain rfl := zso1 hf
          exact z_vret hC dX0_copyFrom_188
        replace hf := zif_f h13 hf
        refine z_aload_n hC dX0_copyFrom_134 0 rfl rfl ?_
        refine z_get0 hC hb 5 (by decide) zw_fl_X0_28 (v := .ref (zad G (b + 4))) rfl dX0_copyFrom_135 ?_
        refine z_iload_n hC dX0_copyFrom_138 2 rfl rfl ?_
        refine z_aload_n hC dX0_copyFrom_139 1 rfl rfl ?_
        refine z_get0 hC ho1 5 (by decide) zw_fl_X0_28 (v := .ref (zad G (o1 + 4))) rfl dX0_copyFrom_140 ?_
        refine z_iload_n hC dX0_copyFrom_143 2 rfl rfl ?_
        obtain ⟨hg14, hf⟩ := zg_e hf
        refine z_iald hC (za_c4 ho1) hg14 rfl dX0_copyFrom_144 ?_
        obtain ⟨hg15, hf⟩ := zg_e hf
        obtain ⟨w16, ew16, hf⟩ := zlet_e hf
        refine z_iast hC (za_c4 hb) hg15 rfl ew16 dX0_copyFrom_145 ?_
        refine z_aload_n hC dX0_copyFrom_146 0 rfl rfl ?_
        refine z_get0 hC hb 6 (by decide) zw_fl_X0_31 (v := .ref (zad G (b + 5))) rfl dX0_copyFrom_147 ?_
        refine z_iload_n hC dX0_copyFrom_150 2 rfl rfl ?_
        refine z_aload_n hC dX0_copyFrom_151 1 rfl rfl ?_
        refine z_get0 hC ho1 6 (by decide) zw_fl_X0_31 (v := .ref (zad G (o1 + 5))) rfl dX0_copyFrom_152 ?_
        refine z_iload_n hC dX0_copyFrom_155 2 rfl rfl ?_
        obtain ⟨hg17, hf⟩ := zg_e hf
        refine z_iald hC (za_c5 ho1) hg17 rfl dX0_copyFrom_156 ?_
        obtain ⟨hg18, hf⟩ := zg_e hf
        obtain ⟨w19, ew19, hf⟩ := zlet_e hf
        refine z_iast hC (za_c5 hb) hg18 rfl ew19 dX0_copyFrom_157 ?_
        refine z_aload_n hC dX0_copyFrom_158 0 rfl rfl ?_
        refine z_get0 hC hb 7 (by decide) zw_fl_X0_34 (v := .ref (zad G (b + 6))) rfl dX0_copyFrom_159 ?_
        refine z_iload_n hC dX0_copyFrom_162 2 rfl rfl ?_
        refine z_aload_n hC dX0_copyFrom_163 1 rfl rfl ?_
        refine z_get0 hC ho1 7 (by decide) zw_fl_X0_34 (v := .ref (zad G (o1 + 6))) rfl dX0_copyFrom_164 ?_
        refine z_iload_n hC dX0_copyFrom_167 2 rfl rfl ?_
        obtain ⟨hg20, hf⟩ := zg_e hf
        refine z_iald hC (za_c6 ho1) hg20 rfl dX0_copyFrom_168 ?_
        obtain ⟨hg21, hf⟩ := zg_e hf
        obtain ⟨w22, ew22, hf⟩ := zlet_e hf
        refine z_iast hC (za_c6 hb) hg21 rfl ew22 dX0_copyFrom_169 ?_
        refine z_aload_n hC dX0_copyFrom_170 0 rfl rfl ?_
        refine z_get0 hC hb 8 (by decide) zw_fl_X0_37 (v := .ref (zad G (b + 7))) rfl dX0_copyFrom_171 ?_
        refine z_iload_n hC dX0_copyFrom_174 2 rfl rfl ?_
        refine z_aload_n hC dX0_copyFrom_175 1 rfl rfl ?_
        refine z_get0 hC ho1 8 (by decide) zw_fl_X0_37 (v := .ref (zad G (o1 + 7))) rfl dX0_copyFrom_176 ?_
        refine z_iload_n hC dX0_copyFrom_179 2 rfl rfl ?_
        obtain ⟨hg23, hf⟩ := zg_e hf
        refine z_zald hC (za_c7 ho1) hg23 rfl dX0_copyFrom_180 ?_
        obtain ⟨hg24, hf⟩ := zg_e hf
        obtain ⟨w25, ew25, hf⟩ := zlet_e hf
        refine z_zast hC (za_c7 hb) hg24 rfl ew25 dX0_copyFrom_181 ?_
        obtain ⟨v26, ev26, hf⟩ := zlet_e hf
        refine z_iinc (v := v26) (lv' := [(2, .int v26), (0, .ref (zad G b)), (1, .ref (zad G o1))]) hC dX0_copyFrom_182 2 rfl (by rw [ev26]; rfl) (by decide) rfl ?_
        refine z_goto (tgt := 126) hC dX0_copyFrom_185 (by decide) ?_
        refine z_lv [1, 2, 0] rfl ?_
        exact ih126 _ _ hf
    refine z_lv [1, 2, 0] rfl ?_
    exact hL126 _ _ _ hf
  have hL74 : ∀ (n : Nat) (v27 : Int32) (w28 : zW), zfix2 (b_X0_copyFrom_74 b o1 j124) n v27 w28 = some wz → Z G p l e rm_X0_copyFrom s m args below meth c (MQ below (zQ G none wz) args s 0 0 (zA G)) 3 74 [(0, .ref (zad G b)), (1, .ref (zad G o1)), (2, .int v27)] [] w28 := by
    intro n
    induction n with
    | zero => intro v27 w28 hf; exact (zfix2_0 hf).elim
    | succ n ih74 =>
      intro v27 w28 hf
      replace hf := zfix2_e hf
      unfold b_X0_copyFrom_74 at hf
      refine z_iload_n hC dX0_copyFrom_74 2 rfl rfl ?_
      refine z_aload_n hC dX0_copyFrom_75 0 rfl rfl ?_
      refine z_get0 hC hb 0 (by decide) zw_fl_X0_9 (v := .int (w28 b 0)) rfl dX0_copyFrom_76 ?_
      refine z_icmp_ge (tgt := 124) hC dX0_copyFrom_79 (by decide) (fun h29 => ?_) (fun h29 => ?_)
      · replace hf := zif_t h29 hf
        refine z_lv [0, 1] rfl ?_
        exact hJ124 _ hf
      replace hf := zif_f h29 hf
      refine z_aload_n hC dX0_copyFrom_82 0 rfl rfl ?_
      refine z_get0 hC hb 1 (by decide) zw_fl_X0_15 (v := .ref (zad G (b + 1))) rfl dX0_copyFrom_83 ?_
      refine z_iload_n hC dX0_copyFrom_86 2 rfl rfl ?_
      refine z_aload_n hC dX0_copyFrom_87 1 rfl rfl ?_
      refine z_get0 hC ho1 1 (by decide) zw_fl_X0_15 (v := .ref (zad G (o1 + 1))) rfl dX0_copyFrom_88 ?_
      refine z_iload_n hC dX0_copyFrom_91 2 rfl rfl ?_
      obtain ⟨hg30, hf⟩ := zg_e hf
      refine z_iald hC (za_c1 ho1) hg30 rfl dX0_copyFrom_92 ?_
      obtain ⟨hg31, hf⟩ := zg_e hf
      obtain ⟨w32, ew32, hf⟩ := zlet_e hf
      refine z_iast hC (za_c1 hb) hg31 rfl ew32 dX0_copyFrom_93 ?_
      refine z_aload_n hC dX0_copyFrom_94 0 rfl rfl ?_
      refine z_get0 hC hb 2 (by decide) zw_fl_X0_19 (v := .ref (zad G (b + 2))) rfl dX0_copyFrom_95 ?_
      refine z_iload_n hC dX0_copyFrom_98 2 rfl rfl ?_
      refine z_aload_n hC dX0_copyFrom_99 1 rfl rfl ?_
      refine z_get0 hC ho1 2 (by decide) zw_fl_X0_19 (v := .ref (zad G (o1 + 2))) rfl dX0_copyFrom_100 ?_
      refine z_iload_n hC dX0_copyFrom_103 2 rfl rfl ?_
      obtain ⟨hg33, hf⟩ := zg_e hf
      refine z_iald hC (za_c2 ho1) hg33 rfl dX0_copyFrom_104 ?_
      obtain ⟨hg34, hf⟩ := zg_e hf
      obtain ⟨w35, ew35, hf⟩ := zlet_e hf
      refine z_iast hC (za_c2 hb) hg34 rfl ew35 dX0_copyFrom_105 ?_
      refine z_aload_n hC dX0_copyFrom_106 0 rfl rfl ?_
      refine z_get0 hC hb 3 (by decide) zw_fl_X0_22 (v := .ref (zad G (b + 3))) rfl dX0_copyFrom_107 ?_
      refine z_iload_n hC dX0_copyFrom_110 2 rfl rfl ?_
      refine z_aload_n hC dX0_copyFrom_111 1 rfl rfl ?_
      refine z_get0 hC ho1 3 (by decide) zw_fl_X0_22 (v := .ref (zad G (o1 + 3))) rfl dX0_copyFrom_112 ?_
      refine z_iload_n hC dX0_copyFrom_115 2 rfl rfl ?_
      obtain ⟨hg36, hf⟩ := zg_e hf
      refine z_iald hC (za_c3 ho1) hg36 rfl dX0_copyFrom_116 ?_
      obtain ⟨hg37, hf⟩ := zg_e hf
      obtain ⟨w38, ew38, hf⟩ := zlet_e hf
      refine z_iast hC (za_c3 hb) hg37 rfl ew38 dX0_copyFrom_117 ?_
      obtain ⟨v39, ev39, hf⟩ := zlet_e hf
      refine z_iinc (v := v39) (lv' := [(2, .int v39), (0, .ref (zad G b)), (1, .ref (zad G o1))]) hC dX0_copyFrom_118 2 rfl (by rw [ev39]; rfl) (by decide) rfl ?_
      refine z_goto (tgt := 74) hC dX0_copyFrom_121 (by decide) ?_
      refine z_lv [1, 2, 0] rfl ?_
      exact ih74 _ _ hf
  refine z_lv [1, 2, 0] rfl ?_
  exact hL74 _ _ _ hf
theorem zy_X0_copyFrom : zYV yX0_copyFrom cX0_copyFrom 3 none RX0 1 := ⟨zw_cd_X0_copyFrom, zw_im_X0_copyFrom, zw_sel_X0_copyFrom, zw_ini_X0, by decide +kernel⟩
abbrev rm_X0_drinkAsAsked : Room := { frames := 1, cells := 0, slots := 0, locals := 22 }
def f_X0_drinkAsAsked (w : zW) (b : Nat) (a1 : Int32) (a2 : Int32) : Option (Int32 × zW) :=
  if (f_X3_within a1 (0 : Int32) ((w b 0) - (1 : Int32))) = (0 : Int32) then
    some ((-1 : Int32), w)
  else
  if (f_X3_within a2 (0 : Int32) (20 : Int32)) = (0 : Int32) then
    some ((-1 : Int32), w)
  else
    zbd (f_X0_isDown w b a1) fun v3 =>
    if v3 = (0 : Int32) then
      if a2 ≤ (w b 9) then
        zg (zin a1 4) <|
        if ((w (b + 3) (zx a1)) + a2) ≤ (20 : Int32) then
          zg (zin a1 4) <|
          zg (zin a1 4) <|
          zlet (zup w (b + 3) (zx a1) ((w (b + 3) (zx a1)) + a2)) fun w10 =>
          zlet (zup w10 b 9 ((w10 b 9) - a2)) fun w11 =>
          zg (zin a1 4) <|
          some (w11 (b + 3) (zx a1), w11)
        else
        some ((-3 : Int32), w)
      else
      some ((-2 : Int32), w)
    else
      some ((-2 : Int32), w)
set_option maxRecDepth 100000 in
set_option maxHeartbeats 4000000 in
theorem c_X0_drinkAsAsked (l : Launch) (G : zG) (w : zW) (b : Nat) (hb : zcamp b) (a1 : Int32) (a2 : Int32) {r : Int32} {wz : zW} (hf : f_X0_drinkAsAsked w b a1 a2 = some (r, wz)) : zMet l G yX0_drinkAsAsked cX0_drinkAsAsked 3 (some .int) rm_X0_drinkAsAsked [.ref (zad G b), .int a1, .int a2] w (some (.int r)) wz := by
  refine z_start (own := RX0) (by decide) rfl (Nat.le_of_ble_eq_true rfl) (lv := [(0, .ref (zad G b)), (1, .int a1), (2, .int a2)]) rfl ?_
  intro p e s m args below meth c hC
  unfold f_X0_drinkAsAsked at hf
  refine z_iload_n hC dX0_drinkAsAsked_0 1 rfl rfl ?_
  refine z_iconst hC dX0_drinkAsAsked_1 (v := 0) rfl ?_
  refine z_aload_n hC dX0_drinkAsAsked_2 0 rfl rfl ?_
  refine z_get0 hC hb 0 (by decide) zw_fl_X0_9 (v := .int (w b 0)) rfl dX0_drinkAsAsked_3 ?_
  refine z_iconst hC dX0_drinkAsAsked_6 (v := 1) rfl ?_
  refine z_isub hC dX0_drinkAsAsked_7 ?_
  refine z_cni (As := [.int a1, .int (0 : Int32), .int ((w b 0) - (1 : Int32))]) (rest := []) hC (c_X3_within l G w a1 (0 : Int32) ((w b 0) - (1 : Int32))) hC.2.2.2.2.2.1.2.1.2.1 zy_X3_within ⟨rfl, rfl, Nat.le_of_ble_eq_true rfl, Nat.le_of_ble_eq_true rfl⟩ rfl rfl (Nat.le_of_ble_eq_true rfl) dX0_drinkAsAsked_8 ?_
  refine z_if_eq (tgt := 24) hC dX0_drinkAsAsked_11 (by decide) (fun h1 => ?_) (fun h1 => ?_)
  · replace hf := zif_t h1 hf
    refine z_iconst hC dX0_drinkAsAsked_24 (v := -1) rfl ?_
    obtain ⟨rfl, rfl⟩ := zso2 hf
    exact z_iret hC dX0_drinkAsAsked_25
  replace hf := zif_f h1 hf
  refine z_iload_n hC dX0_drinkAsAsked_14 2 rfl rfl ?_
  refine z_iconst hC dX0_drinkAsAsked_15 (v := 0) rfl ?_
  refine z_bipush hC dX0_drinkAsAsked_16 (v := 20) rfl ?_
  refine z_cni (As := [.int a2, .int (0 : Int32), .int (20 : Int32)]) (rest := []) hC (c_X3_within l G w a2 (0 : Int32) (20 : Int32)) hC.2.2.2.2.2.1.2.1.2.1 zy_X3_within ⟨rfl, rfl, Nat.le_of_ble_eq_true rfl, Nat.le_of_ble_eq_true rfl⟩ rfl rfl (Nat.le_of_ble_eq_true rfl) dX0_drinkAsAsked_18 ?_
  refine z_if_ne (tgt := 26) hC dX0_drinkAsAsked_21 (by decide) (fun h2 => ?_) (fun h2 => ?_)
  · replace hf := zif_f h2 hf
    refine z_aload_n hC dX0_drinkAsAsked_26 0 rfl rfl ?_
    refine z_iload_n hC dX0_drinkAsAsked_27 1 rfl rfl ?_
    obtain ⟨v3, ev3, hf⟩ := zbd_e hf
    refine z_cvi (As := [.int a1]) (rest := []) hC (zo_camp hb) rfl (c_X0_isDown l G w b hb a1 ev3) zw_ml_X0_62 zy_X0_isDown ⟨rfl, rfl, Nat.le_of_ble_eq_true rfl, Nat.le_of_ble_eq_true rfl⟩ rfl rfl (Nat.le_of_ble_eq_true rfl) dX0_drinkAsAsked_28 ?_
    refine z_if_ne (tgt := 42) hC dX0_drinkAsAsked_31 (by decide) (fun h4 => ?_) (fun h4 => ?_)
    · replace hf := zif_f h4 hf
      refine z_bipush hC dX0_drinkAsAsked_42 (v := -2) rfl ?_
      obtain ⟨rfl, rfl⟩ := zso2 hf
      exact z_iret hC dX0_drinkAsAsked_44
    replace hf := zif_t h4 hf
    refine z_iload_n hC dX0_drinkAsAsked_34 2 rfl rfl ?_
    refine z_aload_n hC dX0_drinkAsAsked_35 0 rfl rfl ?_
    refine z_get0 hC hb 9 (by decide) zw_fl_X0_41 (v := .int (w b 9)) rfl dX0_drinkAsAsked_36 ?_
    refine z_icmp_le (tgt := 45) hC dX0_drinkAsAsked_39 (by decide) (fun h5 => ?_) (fun h5 => ?_)
    · replace hf := zif_t h5 hf
      refine z_aload_n hC dX0_drinkAsAsked_45 0 rfl rfl ?_
      refine z_get0 hC hb 3 (by decide) zw_fl_X0_22 (v := .ref (zad G (b + 3))) rfl dX0_drinkAsAsked_46 ?_
      refine z_iload_n hC dX0_drinkAsAsked_49 1 rfl rfl ?_
      obtain ⟨hg6, hf⟩ := zg_e hf
      refine z_iald hC (za_c3 hb) hg6 rfl dX0_drinkAsAsked_50 ?_
      refine z_iload_n hC dX0_drinkAsAsked_51 2 rfl rfl ?_
      refine z_iadd hC dX0_drinkAsAsked_52 ?_
      refine z_bipush hC dX0_drinkAsAsked_53 (v := 20) rfl ?_
      refine z_icmp_le (tgt := 61) hC dX0_drinkAsAsked_55 (by decide) (fun h7 => ?_) (fun h7 => ?_)
      · replace hf := zif_t h7 hf
        refine z_aload_n hC dX0_drinkAsAsked_61 0 rfl rfl ?_
        refine z_get0 hC hb 3 (by decide) zw_fl_X0_22 (v := .ref (zad G (b + 3))) rfl dX0_drinkAsAsked_62 ?_
        refine z_iload_n hC dX0_drinkAsAsked_65 1 rfl rfl ?_
        refine z_dup2 hC dX0_drinkAsAsked_66 rfl rfl ?_
        obtain ⟨hg8, hf⟩ := zg_e hf
        refine z_iald hC (za_c3 hb) hg8 rfl dX0_drinkAsAsked_67 ?_
        refine z_iload_n hC dX0_drinkAsAsked_68 2 rfl rfl ?_
        refine z_iadd hC dX0_drinkAsAsked_69 ?_
        obtain ⟨hg9, hf⟩ := zg_e hf
        obtain ⟨w10, ew10, hf⟩ := zlet_e hf
        refine z_iast hC (za_c3 hb) hg9 rfl ew10 dX0_drinkAsAsked_70 ?_
        refine z_aload_n hC dX0_drinkAsAsked_71 0 rfl rfl ?_
        refine z_dup hC dX0_drinkAsAsked_72 rfl ?_
        refine z_get0 hC hb 9 (by decide) zw_fl_X0_41 (v := .int (w10 b 9)) rfl dX0_drinkAsAsked_73 ?_
        refine z_iload_n hC dX0_drinkAsAsked_76 2 rfl rfl ?_
        refine z_isub hC dX0_drinkAsAsked_77 ?_
        obtain ⟨w11, ew11, hf⟩ := zlet_e hf
        refine z_put0 hC hb 9 (by decide) rfl rfl zw_fl_X0_41 rfl ew11 dX0_drinkAsAsked_78 ?_
        refine z_aload_n hC dX0_drinkAsAsked_81 0 rfl rfl ?_
        refine z_get0 hC hb 3 (by decide) zw_fl_X0_22 (v := .ref (zad G (b + 3))) rfl dX0_drinkAsAsked_82 ?_
        refine z_iload_n hC dX0_drinkAsAsked_85 1 rfl rfl ?_
        obtain ⟨hg12, hf⟩ := zg_e hf
        refine z_iald hC (za_c3 hb) hg12 rfl dX0_drinkAsAsked_86 ?_
        obtain ⟨rfl, rfl⟩ := zso2 hf
        exact z_iret hC dX0_drinkAsAsked_87
      replace hf := zif_f h7 hf
      refine z_bipush hC dX0_drinkAsAsked_58 (v := -3) rfl ?_
      obtain ⟨rfl, rfl⟩ := zso2 hf
      exact z_iret hC dX0_drinkAsAsked_60
    replace hf := zif_f h5 hf
    refine z_bipush hC dX0_drinkAsAsked_42 (v := -2) rfl ?_
    obtain ⟨rfl, rfl⟩ := zso2 hf
    exact z_iret hC dX0_drinkAsAsked_44
  replace hf := zif_t h2 hf
  refine z_iconst hC dX0_drinkAsAsked_24 (v := -1) rfl ?_
  obtain ⟨rfl, rfl⟩ := zso2 hf
  exact z_iret hC dX0_drinkAsAsked_25
theorem zy_X0_drinkAsAsked : zYV yX0_drinkAsAsked cX0_drinkAsAsked 3 (some .int) RX0 2 := ⟨zw_cd_X0_drinkAsAsked, zw_im_X0_drinkAsAsked, zw_sel_X0_drinkAsAsked, zw_ini_X0, by decide +kernel⟩
abbrev rm_X0_pourer : Room := { frames := 0, cells := 0, slots := 0, locals := 0 }
def f_X0_pourer (w : zW) (b : Nat) : Option Int32 :=
  if (w b 0) ≤ (0 : Int32) then
    some (-4 : Int32)
  else
  zg (znz (w b 0)) <|
  some (zrem (w b 12) (w b 0))
set_option maxRecDepth 100000 in
set_option maxHeartbeats 4000000 in
theorem c_X0_pourer (l : Launch) (G : zG) (w : zW) (b : Nat) (hb : zcamp b) {r : Int32} (hf : f_X0_pourer w b = some r) : zMet l G yX0_pourer cX0_pourer 1 (some .int) rm_X0_pourer [.ref (zad G b)] w (some (.int r)) w := by
  refine z_start (own := RX0) (by decide) rfl (Nat.le_of_ble_eq_true rfl) (lv := [(0, .ref (zad G b))]) rfl ?_
  intro p e s m args below meth c hC
  unfold f_X0_pourer at hf
  refine z_aload_n hC dX0_pourer_0 0 rfl rfl ?_
  refine z_get0 hC hb 0 (by decide) zw_fl_X0_9 (v := .int (w b 0)) rfl dX0_pourer_1 ?_
  refine z_if_le (tgt := 19) hC dX0_pourer_4 (by decide) (fun h1 => ?_) (fun h1 => ?_)
  · replace hf := zif_t h1 hf
    refine z_bipush hC dX0_pourer_19 (v := -4) rfl ?_
    obtain rfl := zso1 hf
    exact z_iret hC dX0_pourer_21
  replace hf := zif_f h1 hf
  refine z_aload_n hC dX0_pourer_7 0 rfl rfl ?_
  refine z_get0 hC hb 12 (by decide) zw_fl_X0_50 (v := .int (w b 12)) rfl dX0_pourer_8 ?_
  refine z_aload_n hC dX0_pourer_11 0 rfl rfl ?_
  refine z_get0 hC hb 0 (by decide) zw_fl_X0_9 (v := .int (w b 0)) rfl dX0_pourer_12 ?_
  obtain ⟨hg2, hf⟩ := zg_e hf
  refine z_irem hC dX0_pourer_15 (znz_e hg2) ?_
  refine z_goto (tgt := 21) hC dX0_pourer_16 (by decide) ?_
  obtain rfl := zso1 hf
  exact z_iret hC dX0_pourer_21
theorem zy_X0_pourer : zYV yX0_pourer cX0_pourer 1 (some .int) RX0 0 := ⟨zw_cd_X0_pourer, zw_im_X0_pourer, zw_sel_X0_pourer, zw_ini_X0, by decide +kernel⟩
abbrev rm_X0_drinkerFor : Room := { frames := 1, cells := 0, slots := 0, locals := 21 }
def b_X0_drinkerFor_14 (w : zW) (b : Nat) (k14 : Int32 → Int32 → Option Int32) (v3 : Int32) (v4 : Int32) : Option Int32 :=
  if (w b 0) ≤ v4 then
    some v3
  else
  zbd (f_X0_isDown w b v4) fun v6 =>
  zjn1 (fun (v7 : Int32) =>
    zlet (v4 + (1 : Int32)) fun v8 =>
    k14 v7 v8)
  (fun (j47 : Int32 → Option Int32) =>
  if v6 = (0 : Int32) then
    zg (zin v4 4) <|
    zg (zin v3 4) <|
    if (w (b + 3) (zx v3)) ≤ (w (b + 3) (zx v4)) then
      j47 v3
    else
    j47 v4
  else
    j47 v3)
def f_X0_drinkerFor (w : zW) (b : Nat) (a1 : Int32) : Option Int32 :=
  zg (zin a1 4) <|
  if (w (b + 1) (zx a1)) = (4 : Int32) then
    zfix2 (b_X0_drinkerFor_14 w b) 100000 a1 (0 : Int32)
  else
    some a1
set_option maxRecDepth 100000 in
set_option maxHeartbeats 4000000 in
theorem c_X0_drinkerFor (l : Launch) (G : zG) (w : zW) (b : Nat) (hb : zcamp b) (a1 : Int32) {r : Int32} (hf : f_X0_drinkerFor w b a1 = some r) : zMet l G yX0_drinkerFor cX0_drinkerFor 4 (some .int) rm_X0_drinkerFor [.ref (zad G b), .int a1] w (some (.int r)) w := by
  refine z_start (own := RX0) (by decide) rfl (Nat.le_of_ble_eq_true rfl) (lv := [(0, .ref (zad G b)), (1, .int a1)]) rfl ?_
  intro p e s m args below meth c hC
  unfold f_X0_drinkerFor at hf
  refine z_iload_n hC dX0_drinkerFor_0 1 rfl rfl ?_
  refine z_istore_n (lv' := [(2, .int a1), (0, .ref (zad G b)), (1, .int a1)]) hC dX0_drinkerFor_1 rfl (by decide) rfl ?_
  refine z_aload_n hC dX0_drinkerFor_2 1 rfl rfl ?_
  refine z_get0 hC hb 1 (by decide) zw_fl_X0_15 (v := .ref (zad G (b + 1))) rfl dX0_drinkerFor_3 ?_
  refine z_iload_n hC dX0_drinkerFor_6 2 rfl rfl ?_
  obtain ⟨hg1, hf⟩ := zg_e hf
  refine z_iald hC (za_c1 hb) hg1 rfl dX0_drinkerFor_7 ?_
  refine z_iconst hC dX0_drinkerFor_8 (v := 4) rfl ?_
  refine z_icmp_ne (tgt := 53) hC dX0_drinkerFor_9 (by decide) (fun h2 => ?_) (fun h2 => ?_)
  · replace hf := zif_f h2 hf
    refine z_iload_n hC dX0_drinkerFor_53 0 rfl rfl ?_
    obtain rfl := zso1 hf
    exact z_iret hC dX0_drinkerFor_54
  replace hf := zif_t h2 hf
  refine z_iconst hC dX0_drinkerFor_12 (v := 0) rfl ?_
  refine z_istore_n (lv' := [(3, .int (0 : Int32)), (2, .int a1), (0, .ref (zad G b)), (1, .int a1)]) hC dX0_drinkerFor_13 rfl (by decide) rfl ?_
  have hL14 : ∀ (n : Nat) (v3 : Int32) (v4 : Int32), zfix2 (b_X0_drinkerFor_14 w b) n v3 v4 = some r → Z G p l e rm_X0_drinkerFor s m args below meth c (MQ below (zQ G (some (.int r)) w) args s 0 0 (zA G)) 4 14 [(0, .ref (zad G b)), (2, .int v3), (3, .int v4)] [] w := by
    intro n
    induction n with
    | zero => intro v3 v4 hf; exact (zfix2_0 hf).elim
    | succ n ih14 =>
      intro v3 v4 hf
      replace hf := zfix2_e hf
      unfold b_X0_drinkerFor_14 at hf
      refine z_iload_n hC dX0_drinkerFor_14 2 rfl rfl ?_
      refine z_aload_n hC dX0_drinkerFor_15 0 rfl rfl ?_
      refine z_get0 hC hb 0 (by decide) zw_fl_X0_9 (v := .int (w b 0)) rfl dX0_drinkerFor_16 ?_
      refine z_icmp_ge (tgt := 53) hC dX0_drinkerFor_19 (by decide) (fun h5 => ?_) (fun h5 => ?_)
      · replace hf := zif_t h5 hf
        refine z_iload_n hC dX0_drinkerFor_53 1 rfl rfl ?_
        obtain rfl := zso1 hf
        exact z_iret hC dX0_drinkerFor_54
      replace hf := zif_f h5 hf
      refine z_aload_n hC dX0_drinkerFor_22 0 rfl rfl ?_
      refine z_iload_n hC dX0_drinkerFor_23 2 rfl rfl ?_
      obtain ⟨v6, ev6, hf⟩ := zbd_e hf
      refine z_cvi (As := [.int v4]) (rest := []) hC (zo_camp hb) rfl (c_X0_isDown l G w b hb v4 ev6) zw_ml_X0_62 zy_X0_isDown ⟨rfl, rfl, Nat.le_of_ble_eq_true rfl, Nat.le_of_ble_eq_true rfl⟩ rfl rfl (Nat.le_of_ble_eq_true rfl) dX0_drinkerFor_24 ?_
      obtain ⟨j47, hj47, hf⟩ := zjn1_e hf
      have hJ47 : ∀ (v7 : Int32), j47 v7 = some r → Z G p l e rm_X0_drinkerFor s m args below meth c (MQ below (zQ G (some (.int r)) w) args s 0 0 (zA G)) 4 47 [(0, .ref (zad G b)), (2, .int v7), (3, .int v4)] [] w := by
        intro v7 hf
        replace hf := hj47 v7 hf
        obtain ⟨v8, ev8, hf⟩ := zlet_e hf
        refine z_iinc (v := v8) (lv' := [(3, .int v8), (0, .ref (zad G b)), (2, .int v7)]) hC dX0_drinkerFor_47 2 rfl (by rw [ev8]; rfl) (by decide) rfl ?_
        refine z_goto (tgt := 14) hC dX0_drinkerFor_50 (by decide) ?_
        refine z_lv [1, 2, 0] rfl ?_
        exact ih14 _ _ hf
      refine z_if_ne (tgt := 47) hC dX0_drinkerFor_27 (by decide) (fun h9 => ?_) (fun h9 => ?_)
      · replace hf := zif_f h9 hf
        exact hJ47 _ hf
      replace hf := zif_t h9 hf
      refine z_aload_n hC dX0_drinkerFor_30 0 rfl rfl ?_
      refine z_get0 hC hb 3 (by decide) zw_fl_X0_22 (v := .ref (zad G (b + 3))) rfl dX0_drinkerFor_31 ?_
      refine z_iload_n hC dX0_drinkerFor_34 2 rfl rfl ?_
      obtain ⟨hg10, hf⟩ := zg_e hf
      refine z_iald hC (za_c3 hb) hg10 rfl dX0_drinkerFor_35 ?_
      refine z_aload_n hC dX0_drinkerFor_36 0 rfl rfl ?_
      refine z_get0 hC hb 3 (by decide) zw_fl_X0_22 (v := .ref (zad G (b + 3))) rfl dX0_drinkerFor_37 ?_
      refine z_iload_n hC dX0_drinkerFor_40 1 rfl rfl ?_
      obtain ⟨hg11, hf⟩ := zg_e hf
      refine z_iald hC (za_c3 hb) hg11 rfl dX0_drinkerFor_41 ?_
      refine z_icmp_ge (tgt := 47) hC dX0_drinkerFor_42 (by decide) (fun h12 => ?_) (fun h12 => ?_)
      · replace hf := zif_t h12 hf
        exact hJ47 _ hf
      replace hf := zif_f h12 hf
      refine z_iload_n hC dX0_drinkerFor_45 2 rfl rfl ?_
      refine z_istore_n (lv' := [(2, .int v4), (0, .ref (zad G b)), (3, .int v4)]) hC dX0_drinkerFor_46 rfl (by decide) rfl ?_
      refine z_lv [1, 0, 2] rfl ?_
      exact hJ47 _ hf
  refine z_lv [2, 1, 0] rfl ?_
  exact hL14 _ _ _ hf
theorem zy_X0_drinkerFor : zYV yX0_drinkerFor cX0_drinkerFor 4 (some .int) RX0 1 := ⟨zw_cd_X0_drinkerFor, zw_im_X0_drinkerFor, zw_sel_X0_drinkerFor, zw_ini_X0, by decide +kernel⟩
abbrev rm_X0_wanted : Room := { frames := 1, cells := 0, slots := 0, locals := 21 }
def f_X0_wanted (w : zW) (b : Nat) (a1 : Int32) : Option Int32 :=
  zbd (f_X0_isDown w b a1) fun v1 =>
  if v1 = (0 : Int32) then
    zg (zin a1 4) <|
    zlet (w (b + 1) (zx a1)) fun v4 =>
    if v4 = (1 : Int32) then
      zg (zin a1 4) <|
      some (zmax (0 : Int32) ((10 : Int32) - (w (b + 3) (zx a1))))
    else
    if v4 = (2 : Int32) then
      zbd (f_X0_pourer w b) fun v8 =>
      if v8 = a1 then
        some (2 : Int32)
      else
        some (1 : Int32)
    else
    if v4 = (3 : Int32) then
      zg (zin a1 4) <|
      if (4 : Int32) < (w (b + 3) (zx a1)) then
        some (0 : Int32)
      else
      some (2 : Int32)
    else
    some (1 : Int32)
  else
  some (0 : Int32)
set_option maxRecDepth 100000 in
set_option maxHeartbeats 4000000 in
theorem c_X0_wanted (l : Launch) (G : zG) (w : zW) (b : Nat) (hb : zcamp b) (a1 : Int32) {r : Int32} (hf : f_X0_wanted w b a1 = some r) : zMet l G yX0_wanted cX0_wanted 2 (some .int) rm_X0_wanted [.ref (zad G b), .int a1] w (some (.int r)) w := by
  refine z_start (own := RX0) (by decide) rfl (Nat.le_of_ble_eq_true rfl) (lv := [(0, .ref (zad G b)), (1, .int a1)]) rfl ?_
  intro p e s m args below meth c hC
  unfold f_X0_wanted at hf
  refine z_aload_n hC dX0_wanted_0 0 rfl rfl ?_
  refine z_iload_n hC dX0_wanted_1 1 rfl rfl ?_
  obtain ⟨v1, ev1, hf⟩ := zbd_e hf
  refine z_cvi (As := [.int a1]) (rest := []) hC (zo_camp hb) rfl (c_X0_isDown l G w b hb a1 ev1) zw_ml_X0_62 zy_X0_isDown ⟨rfl, rfl, Nat.le_of_ble_eq_true rfl, Nat.le_of_ble_eq_true rfl⟩ rfl rfl (Nat.le_of_ble_eq_true rfl) dX0_wanted_2 ?_
  refine z_if_eq (tgt := 10) hC dX0_wanted_5 (by decide) (fun h2 => ?_) (fun h2 => ?_)
  · replace hf := zif_t h2 hf
    refine z_aload_n hC dX0_wanted_10 0 rfl rfl ?_
    refine z_get0 hC hb 1 (by decide) zw_fl_X0_15 (v := .ref (zad G (b + 1))) rfl dX0_wanted_11 ?_
    refine z_iload_n hC dX0_wanted_14 1 rfl rfl ?_
    obtain ⟨hg3, hf⟩ := zg_e hf
    refine z_iald hC (za_c1 hb) hg3 rfl dX0_wanted_15 ?_
    obtain ⟨v4, ev4, hf⟩ := zlet_e hf
    refine z_topi ev4 ?_
    by_cases h5 : v4 = (1 : Int32)
    · replace hf := zif_t h5 hf
      refine z_tabIn (tgt := 44) hC dX0_wanted_16 (by rw [h5]; decide) (by rw [h5]; decide) (by rw [h5]; rfl) (by decide) ?_
      refine z_iconst hC dX0_wanted_44 (v := 0) rfl ?_
      refine z_bipush hC dX0_wanted_45 (v := 10) rfl ?_
      refine z_aload_n hC dX0_wanted_47 0 rfl rfl ?_
      refine z_get0 hC hb 3 (by decide) zw_fl_X0_22 (v := .ref (zad G (b + 3))) rfl dX0_wanted_48 ?_
      refine z_iload_n hC dX0_wanted_51 1 rfl rfl ?_
      obtain ⟨hg6, hf⟩ := zg_e hf
      refine z_iald hC (za_c3 hb) hg6 rfl dX0_wanted_52 ?_
      refine z_isub hC dX0_wanted_53 ?_
      refine z_max hC zw_ml_X0_66 (Nat.le_of_ble_eq_true rfl) (Nat.le_of_ble_eq_true rfl) dX0_wanted_54 ?_
      obtain rfl := zso1 hf
      exact z_iret hC dX0_wanted_57
    replace hf := zif_f h5 hf
    by_cases h7 : v4 = (2 : Int32)
    · replace hf := zif_t h7 hf
      refine z_tabIn (tgt := 58) hC dX0_wanted_16 (by rw [h7]; decide) (by rw [h7]; decide) (by rw [h7]; rfl) (by decide) ?_
      refine z_aload_n hC dX0_wanted_58 0 rfl rfl ?_
      obtain ⟨v8, ev8, hf⟩ := zbd_e hf
      refine z_cvi (As := []) (rest := []) hC (zo_camp hb) rfl (c_X0_pourer l G w b hb ev8) zw_ml_X0_72 zy_X0_pourer ⟨rfl, rfl, Nat.le_of_ble_eq_true rfl, Nat.le_of_ble_eq_true rfl⟩ rfl rfl (Nat.le_of_ble_eq_true rfl) dX0_wanted_59 ?_
      refine z_iload_n hC dX0_wanted_62 1 rfl rfl ?_
      refine z_icmp_ne (tgt := 70) hC dX0_wanted_63 (by decide) (fun h9 => ?_) (fun h9 => ?_)
      · replace hf := zif_f h9 hf
        refine z_iconst hC dX0_wanted_70 (v := 1) rfl ?_
        obtain rfl := zso1 hf
        exact z_iret hC dX0_wanted_71
      replace hf := zif_t h9 hf
      refine z_iconst hC dX0_wanted_66 (v := 2) rfl ?_
      refine z_goto (tgt := 71) hC dX0_wanted_67 (by decide) ?_
      obtain rfl := zso1 hf
      exact z_iret hC dX0_wanted_71
    replace hf := zif_f h7 hf
    by_cases h10 : v4 = (3 : Int32)
    · replace hf := zif_t h10 hf
      refine z_tabIn (tgt := 72) hC dX0_wanted_16 (by rw [h10]; decide) (by rw [h10]; decide) (by rw [h10]; rfl) (by decide) ?_
      refine z_aload_n hC dX0_wanted_72 0 rfl rfl ?_
      refine z_get0 hC hb 3 (by decide) zw_fl_X0_22 (v := .ref (zad G (b + 3))) rfl dX0_wanted_73 ?_
      refine z_iload_n hC dX0_wanted_76 1 rfl rfl ?_
      obtain ⟨hg11, hf⟩ := zg_e hf
      refine z_iald hC (za_c3 hb) hg11 rfl dX0_wanted_77 ?_
      refine z_iconst hC dX0_wanted_78 (v := 4) rfl ?_
      refine z_icmp_gt (tgt := 86) hC dX0_wanted_79 (by decide) (fun h12 => ?_) (fun h12 => ?_)
      · replace hf := zif_t h12 hf
        refine z_iconst hC dX0_wanted_86 (v := 0) rfl ?_
        obtain rfl := zso1 hf
        exact z_iret hC dX0_wanted_87
      replace hf := zif_f h12 hf
      refine z_iconst hC dX0_wanted_82 (v := 2) rfl ?_
      refine z_goto (tgt := 87) hC dX0_wanted_83 (by decide) ?_
      obtain rfl := zso1 hf
      exact z_iret hC dX0_wanted_87
    replace hf := zif_f h10 hf
    have nh5 := znt (k := 1) (by decide) h5
    have nh7 := znt (k := 2) (by decide) h7
    have nh10 := znt (k := 3) (by decide) h10
    refine z_tabOut (tgt := 88) hC dX0_wanted_16 (by omega) (by decide) ?_
    refine z_iconst hC dX0_wanted_88 (v := 1) rfl ?_
    obtain rfl := zso1 hf
    exact z_iret hC dX0_wanted_89
  replace hf := zif_f h2 hf
  refine z_iconst hC dX0_wanted_8 (v := 0) rfl ?_
  obtain rfl := zso1 hf
  exact z_iret hC dX0_wanted_9
theorem zy_X0_wanted : zYV yX0_wanted cX0_wanted 2 (some .int) RX0 1 := ⟨zw_cd_X0_wanted, zw_im_X0_wanted, zw_sel_X0_wanted, zw_ini_X0, by decide +kernel⟩
abbrev rm_X0_drinkRound : Room := { frames := 2, cells := 0, slots := 0, locals := 44 }
def b_X0_drinkRound_7 (b : Nat) (v1 : Int32) (k7 : Int32 → zW → Option zW) (v2 : Int32) (w3 : zW) : Option zW :=
  if (w3 b 0) < v2 then
    some w3
  else
  zg (znz (w3 b 0)) <|
  zlet (zrem (v1 + v2) (w3 b 0)) fun v6 =>
  zbd (f_X0_drinkerFor w3 b v6) fun v7 =>
  zbd (f_X0_wanted w3 b v6) fun v8 =>
  zg (zin v7 4) <|
  zlet (zmin v8 (zmin ((20 : Int32) - (w3 (b + 3) (zx v7))) (w3 b 9))) fun v10 =>
  zg (zin v7 4) <|
  zg (zin v7 4) <|
  zlet (zup w3 (b + 3) (zx v7) ((w3 (b + 3) (zx v7)) + v10)) fun w13 =>
  zlet (zup w13 b 9 ((w13 b 9) - v10)) fun w14 =>
  zlet (v2 + (1 : Int32)) fun v15 =>
  k7 v15 w14
def f_X0_drinkRound (w : zW) (b : Nat) : Option zW :=
  zbd (f_X0_pourer w b) fun v1 =>
  zfix2 (b_X0_drinkRound_7 b v1) 100000 (1 : Int32) w
set_option maxRecDepth 100000 in
set_option maxHeartbeats 4000000 in
theorem c_X0_drinkRound (l : Launch) (G : zG) (w : zW) (b : Nat) (hb : zcamp b) {wz : zW} (hf : f_X0_drinkRound w b = some wz) : zMet l G yX0_drinkRound cX0_drinkRound 6 none rm_X0_drinkRound [.ref (zad G b)] w none wz := by
  refine z_start (own := RX0) (by decide) rfl (Nat.le_of_ble_eq_true rfl) (lv := [(0, .ref (zad G b))]) rfl ?_
  intro p e s m args below meth c hC
  unfold f_X0_drinkRound at hf
  refine z_aload_n hC dX0_drinkRound_0 0 rfl rfl ?_
  obtain ⟨v1, ev1, hf⟩ := zbd_e hf
  refine z_cvi (As := []) (rest := []) hC (zo_camp hb) rfl (c_X0_pourer l G w b hb ev1) zw_ml_X0_72 zy_X0_pourer ⟨rfl, rfl, Nat.le_of_ble_eq_true rfl, Nat.le_of_ble_eq_true rfl⟩ rfl rfl (Nat.le_of_ble_eq_true rfl) dX0_drinkRound_1 ?_
  refine z_istore_n (lv' := [(1, .int v1), (0, .ref (zad G b))]) hC dX0_drinkRound_4 rfl (by decide) rfl ?_
  refine z_iconst hC dX0_drinkRound_5 (v := 1) rfl ?_
  refine z_istore_n (lv' := [(2, .int (1 : Int32)), (1, .int v1), (0, .ref (zad G b))]) hC dX0_drinkRound_6 rfl (by decide) rfl ?_
  have hL7 : ∀ (n : Nat) (v2 : Int32) (w3 : zW), zfix2 (b_X0_drinkRound_7 b v1) n v2 w3 = some wz → Z G p l e rm_X0_drinkRound s m args below meth c (MQ below (zQ G none wz) args s 0 0 (zA G)) 6 7 [(0, .ref (zad G b)), (1, .int v1), (2, .int v2)] [] w3 := by
    intro n
    induction n with
    | zero => intro v2 w3 hf; exact (zfix2_0 hf).elim
    | succ n ih7 =>
      intro v2 w3 hf
      replace hf := zfix2_e hf
      unfold b_X0_drinkRound_7 at hf
      refine z_iload_n hC dX0_drinkRound_7 2 rfl rfl ?_
      refine z_aload_n hC dX0_drinkRound_8 0 rfl rfl ?_
      refine z_get0 hC hb 0 (by decide) zw_fl_X0_9 (v := .int (w3 b 0)) rfl dX0_drinkRound_9 ?_
      refine z_icmp_gt (tgt := 87) hC dX0_drinkRound_12 (by decide) (fun h4 => ?_) (fun h4 => ?_)
      · replace hf := zif_t h4 hf
        obtain rfl := zso1 hf
        exact z_vret hC dX0_drinkRound_87
      replace hf := zif_f h4 hf
      refine z_iload_n hC dX0_drinkRound_15 1 rfl rfl ?_
      refine z_iload_n hC dX0_drinkRound_16 2 rfl rfl ?_
      refine z_iadd hC dX0_drinkRound_17 ?_
      refine z_aload_n hC dX0_drinkRound_18 0 rfl rfl ?_
      refine z_get0 hC hb 0 (by decide) zw_fl_X0_9 (v := .int (w3 b 0)) rfl dX0_drinkRound_19 ?_
      obtain ⟨hg5, hf⟩ := zg_e hf
      refine z_irem hC dX0_drinkRound_22 (znz_e hg5) ?_
      obtain ⟨v6, ev6, hf⟩ := zlet_e hf
      refine z_topi ev6 ?_
      refine z_istore_n (lv' := [(3, .int v6), (0, .ref (zad G b)), (1, .int v1), (2, .int v2)]) hC dX0_drinkRound_23 rfl (by decide) rfl ?_
      refine z_aload_n hC dX0_drinkRound_24 1 rfl rfl ?_
      refine z_iload_n hC dX0_drinkRound_25 0 rfl rfl ?_
      obtain ⟨v7, ev7, hf⟩ := zbd_e hf
      refine z_cvi (As := [.int v6]) (rest := []) hC (zo_camp hb) rfl (c_X0_drinkerFor l G w3 b hb v6 ev7) zw_ml_X0_113 zy_X0_drinkerFor ⟨rfl, rfl, Nat.le_of_ble_eq_true rfl, Nat.le_of_ble_eq_true rfl⟩ rfl rfl (Nat.le_of_ble_eq_true rfl) dX0_drinkRound_26 ?_
      refine z_istore (lv' := [(4, .int v7), (3, .int v6), (0, .ref (zad G b)), (1, .int v1), (2, .int v2)]) hC dX0_drinkRound_29 (by decide) rfl ?_
      refine z_aload_n hC dX0_drinkRound_31 2 rfl rfl ?_
      refine z_iload_n hC dX0_drinkRound_32 1 rfl rfl ?_
      obtain ⟨v8, ev8, hf⟩ := zbd_e hf
      refine z_cvi (As := [.int v6]) (rest := []) hC (zo_camp hb) rfl (c_X0_wanted l G w3 b hb v6 ev8) zw_ml_X0_117 zy_X0_wanted ⟨rfl, rfl, Nat.le_of_ble_eq_true rfl, Nat.le_of_ble_eq_true rfl⟩ rfl rfl (Nat.le_of_ble_eq_true rfl) dX0_drinkRound_33 ?_
      refine z_bipush hC dX0_drinkRound_36 (v := 20) rfl ?_
      refine z_aload_n hC dX0_drinkRound_38 2 rfl rfl ?_
      refine z_get0 hC hb 3 (by decide) zw_fl_X0_22 (v := .ref (zad G (b + 3))) rfl dX0_drinkRound_39 ?_
      refine z_iload hC dX0_drinkRound_42 0 rfl ?_
      obtain ⟨hg9, hf⟩ := zg_e hf
      refine z_iald hC (za_c3 hb) hg9 rfl dX0_drinkRound_44 ?_
      refine z_isub hC dX0_drinkRound_45 ?_
      refine z_aload_n hC dX0_drinkRound_46 2 rfl rfl ?_
      refine z_get0 hC hb 9 (by decide) zw_fl_X0_41 (v := .int (w3 b 9)) rfl dX0_drinkRound_47 ?_
      refine z_min hC zw_ml_X0_110 (Nat.le_of_ble_eq_true rfl) (Nat.le_of_ble_eq_true rfl) dX0_drinkRound_50 ?_
      refine z_min hC zw_ml_X0_110 (Nat.le_of_ble_eq_true rfl) (Nat.le_of_ble_eq_true rfl) dX0_drinkRound_53 ?_
      obtain ⟨v10, ev10, hf⟩ := zlet_e hf
      refine z_topi ev10 ?_
      refine z_istore (lv' := [(5, .int v10), (4, .int v7), (3, .int v6), (0, .ref (zad G b)), (1, .int v1), (2, .int v2)]) hC dX0_drinkRound_56 (by decide) rfl ?_
      refine z_aload_n hC dX0_drinkRound_58 3 rfl rfl ?_
      refine z_get0 hC hb 3 (by decide) zw_fl_X0_22 (v := .ref (zad G (b + 3))) rfl dX0_drinkRound_59 ?_
      refine z_iload hC dX0_drinkRound_62 1 rfl ?_
      refine z_dup2 hC dX0_drinkRound_64 rfl rfl ?_
      obtain ⟨hg11, hf⟩ := zg_e hf
      refine z_iald hC (za_c3 hb) hg11 rfl dX0_drinkRound_65 ?_
      refine z_iload hC dX0_drinkRound_66 0 rfl ?_
      refine z_iadd hC dX0_drinkRound_68 ?_
      obtain ⟨hg12, hf⟩ := zg_e hf
      obtain ⟨w13, ew13, hf⟩ := zlet_e hf
      refine z_iast hC (za_c3 hb) hg12 rfl ew13 dX0_drinkRound_69 ?_
      refine z_aload_n hC dX0_drinkRound_70 3 rfl rfl ?_
      refine z_dup hC dX0_drinkRound_71 rfl ?_
      refine z_get0 hC hb 9 (by decide) zw_fl_X0_41 (v := .int (w13 b 9)) rfl dX0_drinkRound_72 ?_
      refine z_iload hC dX0_drinkRound_75 0 rfl ?_
      refine z_isub hC dX0_drinkRound_77 ?_
      obtain ⟨w14, ew14, hf⟩ := zlet_e hf
      refine z_put0 hC hb 9 (by decide) rfl rfl zw_fl_X0_41 rfl ew14 dX0_drinkRound_78 ?_
      obtain ⟨v15, ev15, hf⟩ := zlet_e hf
      refine z_iinc (v := v15) (lv' := [(2, .int v15), (5, .int v10), (4, .int v7), (3, .int v6), (0, .ref (zad G b)), (1, .int v1)]) hC dX0_drinkRound_81 5 rfl (by rw [ev15]; rfl) (by decide) rfl ?_
      refine z_goto (tgt := 7) hC dX0_drinkRound_84 (by decide) ?_
      refine z_lv [4, 5, 0] rfl ?_
      exact ih7 _ _ hf
  refine z_lv [2, 1, 0] rfl ?_
  exact hL7 _ _ _ hf
theorem zy_X0_drinkRound : zYV yX0_drinkRound cX0_drinkRound 6 none RX0 0 := ⟨zw_cd_X0_drinkRound, zw_im_X0_drinkRound, zw_sel_X0_drinkRound, zw_ini_X0, by decide +kernel⟩
abbrev rm_X0_isDay : Room := { frames := 0, cells := 0, slots := 0, locals := 0 }
def f_X0_isDay (w : zW) (b : Nat) : Int32 :=
  zlet (zrem (w b 12) (24 : Int32)) fun v1 =>
  zjn0 (
    (0 : Int32))
  (fun (j24 : Int32) =>
  if v1 < (6 : Int32) then
    j24
  else
  if (17 : Int32) < v1 then
    j24
  else
  (1 : Int32))
theorem zb_X0_isDay (w : zW) (b : Nat) : zbo (f_X0_isDay w b) = true := by
  unfold f_X0_isDay
  (try simp only [zjn0, zjn1, zlet])
  (try repeat' split) <;> first | rfl
set_option maxRecDepth 100000 in
set_option maxHeartbeats 4000000 in
theorem c_X0_isDay (l : Launch) (G : zG) (w : zW) (b : Nat) (hb : zcamp b) : zMet l G yX0_isDay cX0_isDay 2 (some .boolean) rm_X0_isDay [.ref (zad G b)] w (some (.int (f_X0_isDay w b))) w := by
  generalize hf : f_X0_isDay w b = r
  refine z_start (own := RX0) (by decide) rfl (Nat.le_of_ble_eq_true rfl) (lv := [(0, .ref (zad G b))]) rfl ?_
  intro p e s m args below meth c hC
  unfold f_X0_isDay at hf
  refine z_aload_n hC dX0_isDay_0 0 rfl rfl ?_
  refine z_get0 hC hb 12 (by decide) zw_fl_X0_50 (v := .int (w b 12)) rfl dX0_isDay_1 ?_
  refine z_bipush hC dX0_isDay_4 (v := 24) rfl ?_
  refine z_irem hC dX0_isDay_6 (by decide) ?_
  obtain ⟨v1, ev1, hf⟩ := zlet_e hf
  refine z_topi ev1 ?_
  refine z_istore_n (lv' := [(1, .int v1), (0, .ref (zad G b))]) hC dX0_isDay_7 rfl (by decide) rfl ?_
  refine z_iload_n hC dX0_isDay_8 0 rfl rfl ?_
  refine z_bipush hC dX0_isDay_9 (v := 6) rfl ?_
  obtain ⟨j24, hj24, hf⟩ := zjn0_e hf
  have hJ24 : j24 = r → Z G p l e rm_X0_isDay s m args below meth c (MQ below (zQ G (some (.int r)) w) args s 0 0 (zA G)) 2 24 [] [] w := by
    intro hf
    replace hf := hj24  hf
    refine z_iconst hC dX0_isDay_24 (v := 0) rfl ?_
    subst hf
    exact z_zret hC rfl dX0_isDay_25
  refine z_icmp_lt (tgt := 24) hC dX0_isDay_11 (by decide) (fun h2 => ?_) (fun h2 => ?_)
  · replace hf := zif_t h2 hf
    refine z_lv [] rfl ?_
    exact hJ24 hf
  replace hf := zif_f h2 hf
  refine z_iload_n hC dX0_isDay_14 0 rfl rfl ?_
  refine z_bipush hC dX0_isDay_15 (v := 17) rfl ?_
  refine z_icmp_gt (tgt := 24) hC dX0_isDay_17 (by decide) (fun h3 => ?_) (fun h3 => ?_)
  · replace hf := zif_t h3 hf
    refine z_lv [] rfl ?_
    exact hJ24 hf
  replace hf := zif_f h3 hf
  refine z_iconst hC dX0_isDay_20 (v := 1) rfl ?_
  refine z_goto (tgt := 25) hC dX0_isDay_21 (by decide) ?_
  subst hf
  exact z_zret hC rfl dX0_isDay_25
theorem zy_X0_isDay : zYV yX0_isDay cX0_isDay 2 (some .boolean) RX0 0 := ⟨zw_cd_X0_isDay, zw_im_X0_isDay, zw_sel_X0_isDay, zw_ini_X0, by decide +kernel⟩
abbrev rm_X0_walksBy : Room := { frames := 1, cells := 0, slots := 0, locals := 21 }
def f_X0_walksBy (w : zW) (b : Nat) (a1 : Int32) : Int32 :=
  if a1 = (0 : Int32) then
    if (f_X0_isDay w b) = (0 : Int32) then
      (1 : Int32)
    else
      (0 : Int32)
  else
  if a1 = (1 : Int32) then
    f_X0_isDay w b
  else
  if a1 = (2 : Int32) then
    (1 : Int32)
  else
  (0 : Int32)
theorem zb_X0_walksBy (w : zW) (b : Nat) (a1 : Int32) : zbo (f_X0_walksBy w b a1) = true := by
  unfold f_X0_walksBy
  (try simp only [zjn0, zjn1, zlet])
  (try repeat' split) <;> first | (with_reducible exact zb_X0_isDay _ _) | rfl
set_option maxRecDepth 100000 in
set_option maxHeartbeats 4000000 in
theorem c_X0_walksBy (l : Launch) (G : zG) (w : zW) (b : Nat) (hb : zcamp b) (a1 : Int32) : zMet l G yX0_walksBy cX0_walksBy 2 (some .boolean) rm_X0_walksBy [.ref (zad G b), .int a1] w (some (.int (f_X0_walksBy w b a1))) w := by
  generalize hf : f_X0_walksBy w b a1 = r
  refine z_start (own := RX0) (by decide) rfl (Nat.le_of_ble_eq_true rfl) (lv := [(0, .ref (zad G b)), (1, .int a1)]) rfl ?_
  intro p e s m args below meth c hC
  unfold f_X0_walksBy at hf
  refine z_iload_n hC dX0_walksBy_0 1 rfl rfl ?_
  by_cases h1 : a1 = (0 : Int32)
  · replace hf := zif_t h1 hf
    refine z_tabIn (tgt := 28) hC dX0_walksBy_1 (by rw [h1]; decide) (by rw [h1]; decide) (by rw [h1]; rfl) (by decide) ?_
    refine z_aload_n hC dX0_walksBy_28 0 rfl rfl ?_
    refine z_cvi (As := []) (rest := []) hC (zo_camp hb) rfl (c_X0_isDay l G w b hb) zw_ml_X0_76 zy_X0_isDay ⟨rfl, rfl, Nat.le_of_ble_eq_true rfl, Nat.le_of_ble_eq_true rfl⟩ rfl rfl (Nat.le_of_ble_eq_true rfl) dX0_walksBy_29 ?_
    refine z_if_ne (tgt := 39) hC dX0_walksBy_32 (by decide) (fun h2 => ?_) (fun h2 => ?_)
    · replace hf := zif_f h2 hf
      refine z_iconst hC dX0_walksBy_39 (v := 0) rfl ?_
      subst hf
      exact z_zret hC rfl dX0_walksBy_40
    replace hf := zif_t h2 hf
    refine z_iconst hC dX0_walksBy_35 (v := 1) rfl ?_
    refine z_goto (tgt := 40) hC dX0_walksBy_36 (by decide) ?_
    subst hf
    exact z_zret hC rfl dX0_walksBy_40
  replace hf := zif_f h1 hf
  by_cases h3 : a1 = (1 : Int32)
  · replace hf := zif_t h3 hf
    refine z_tabIn (tgt := 41) hC dX0_walksBy_1 (by rw [h3]; decide) (by rw [h3]; decide) (by rw [h3]; rfl) (by decide) ?_
    refine z_aload_n hC dX0_walksBy_41 0 rfl rfl ?_
    refine z_cvi (As := []) (rest := []) hC (zo_camp hb) rfl (c_X0_isDay l G w b hb) zw_ml_X0_76 zy_X0_isDay ⟨rfl, rfl, Nat.le_of_ble_eq_true rfl, Nat.le_of_ble_eq_true rfl⟩ rfl rfl (Nat.le_of_ble_eq_true rfl) dX0_walksBy_42 ?_
    subst hf
    exact z_zret hC (zbo_n (zb_X0_isDay _ _)) dX0_walksBy_45
  replace hf := zif_f h3 hf
  by_cases h4 : a1 = (2 : Int32)
  · replace hf := zif_t h4 hf
    refine z_tabIn (tgt := 46) hC dX0_walksBy_1 (by rw [h4]; decide) (by rw [h4]; decide) (by rw [h4]; rfl) (by decide) ?_
    refine z_iconst hC dX0_walksBy_46 (v := 1) rfl ?_
    subst hf
    exact z_zret hC rfl dX0_walksBy_47
  replace hf := zif_f h4 hf
  have nh1 := znt (k := 0) (by decide) h1
  have nh3 := znt (k := 1) (by decide) h3
  have nh4 := znt (k := 2) (by decide) h4
  refine z_tabOut (tgt := 48) hC dX0_walksBy_1 (by omega) (by decide) ?_
  refine z_iconst hC dX0_walksBy_48 (v := 0) rfl ?_
  subst hf
  exact z_zret hC rfl dX0_walksBy_49
theorem zy_X0_walksBy : zYV yX0_walksBy cX0_walksBy 2 (some .boolean) RX0 1 := ⟨zw_cd_X0_walksBy, zw_im_X0_walksBy, zw_sel_X0_walksBy, zw_ini_X0, by decide +kernel⟩
abbrev rm_X0_pourIn : Room := { frames := 1, cells := 0, slots := 0, locals := 21 }
def f_X0_pourIn (w : zW) (b : Nat) (a1 : Int32) : Option zW :=
  zlet (zup w b 9 (zmin (60 : Int32) ((w b 9) + a1))) fun w1 =>
  some w1
set_option maxRecDepth 100000 in
set_option maxHeartbeats 4000000 in
theorem c_X0_pourIn (l : Launch) (G : zG) (w : zW) (b : Nat) (hb : zcamp b) (a1 : Int32) {wz : zW} (hf : f_X0_pourIn w b a1 = some wz) : zMet l G yX0_pourIn cX0_pourIn 2 none rm_X0_pourIn [.ref (zad G b), .int a1] w none wz := by
  refine z_start (own := RX0) (by decide) rfl (Nat.le_of_ble_eq_true rfl) (lv := [(0, .ref (zad G b)), (1, .int a1)]) rfl ?_
  intro p e s m args below meth c hC
  unfold f_X0_pourIn at hf
  refine z_aload_n hC dX0_pourIn_0 0 rfl rfl ?_
  refine z_bipush hC dX0_pourIn_1 (v := 60) rfl ?_
  refine z_aload_n hC dX0_pourIn_3 0 rfl rfl ?_
  refine z_get0 hC hb 9 (by decide) zw_fl_X0_41 (v := .int (w b 9)) rfl dX0_pourIn_4 ?_
  refine z_iload_n hC dX0_pourIn_7 1 rfl rfl ?_
  refine z_iadd hC dX0_pourIn_8 ?_
  refine z_min hC zw_ml_X0_110 (Nat.le_of_ble_eq_true rfl) (Nat.le_of_ble_eq_true rfl) dX0_pourIn_9 ?_
  obtain ⟨w1, ew1, hf⟩ := zlet_e hf
  refine z_put0 hC hb 9 (by decide) rfl rfl zw_fl_X0_41 rfl ew1 dX0_pourIn_12 ?_
  obtain rfl := zso1 hf
  exact z_vret hC dX0_pourIn_15
theorem zy_X0_pourIn : zYV yX0_pourIn cX0_pourIn 2 none RX0 1 := ⟨zw_cd_X0_pourIn, zw_im_X0_pourIn, zw_sel_X0_pourIn, zw_ini_X0, by decide +kernel⟩
abbrev rm_X0_loss : Room := { frames := 1, cells := 0, slots := 0, locals := 21 }
def f_X0_loss (w : zW) (b : Nat) (a1 : Int32) (a2 : Int32) : Option Int32 :=
  zbd (f_X0_isDown w b a1) fun v1 =>
  if v1 = (0 : Int32) then
    zjn1 (fun (v3 : Int32) =>
      zjn1 (fun (v4 : Int32) =>
        zlet (v3 + v4) fun v5 =>
        zg (zin a1 4) <|
        zjn0 (
          zlet (v5 + (1 : Int32)) fun v7 =>
          some v7)
        (fun (j62 : Option Int32) =>
        if (w (b + 2) (zx a1)) = (3 : Int32) then
          j62
        else
        zg (zin a1 4) <|
        if (w (b + 2) (zx a1)) = (2 : Int32) then
          if (zrem (w b 12) (2 : Int32)) = (0 : Int32) then
            j62
          else
            some v5
        else
          some v5))
      (fun (j31 : Int32 → Option Int32) =>
      if a2 = (0 : Int32) then
        j31 (0 : Int32)
      else
      j31 (1 : Int32)))
    (fun (j22 : Int32 → Option Int32) =>
    if (f_X0_isDay w b) = (0 : Int32) then
      j22 (0 : Int32)
    else
    j22 (1 : Int32))
  else
  some (0 : Int32)
set_option maxRecDepth 100000 in
set_option maxHeartbeats 4000000 in
theorem c_X0_loss (l : Launch) (G : zG) (w : zW) (b : Nat) (hb : zcamp b) (a1 : Int32) (a2 : Int32) {r : Int32} (hf : f_X0_loss w b a1 a2 = some r) : zMet l G yX0_loss cX0_loss 4 (some .int) rm_X0_loss [.ref (zad G b), .int a1, .int a2] w (some (.int r)) w := by
  refine z_start (own := RX0) (by decide) rfl (Nat.le_of_ble_eq_true rfl) (lv := [(0, .ref (zad G b)), (1, .int a1), (2, .int a2)]) rfl ?_
  intro p e s m args below meth c hC
  unfold f_X0_loss at hf
  refine z_aload_n hC dX0_loss_0 0 rfl rfl ?_
  refine z_iload_n hC dX0_loss_1 1 rfl rfl ?_
  obtain ⟨v1, ev1, hf⟩ := zbd_e hf
  refine z_cvi (As := [.int a1]) (rest := []) hC (zo_camp hb) rfl (c_X0_isDown l G w b hb a1 ev1) zw_ml_X0_62 zy_X0_isDown ⟨rfl, rfl, Nat.le_of_ble_eq_true rfl, Nat.le_of_ble_eq_true rfl⟩ rfl rfl (Nat.le_of_ble_eq_true rfl) dX0_loss_2 ?_
  refine z_if_eq (tgt := 10) hC dX0_loss_5 (by decide) (fun h2 => ?_) (fun h2 => ?_)
  · replace hf := zif_t h2 hf
    refine z_aload_n hC dX0_loss_10 0 rfl rfl ?_
    refine z_cvi (As := []) (rest := []) hC (zo_camp hb) rfl (c_X0_isDay l G w b hb) zw_ml_X0_76 zy_X0_isDay ⟨rfl, rfl, Nat.le_of_ble_eq_true rfl, Nat.le_of_ble_eq_true rfl⟩ rfl rfl (Nat.le_of_ble_eq_true rfl) dX0_loss_11 ?_
    obtain ⟨j22, hj22, hf⟩ := zjn1_e hf
    have hJ22 : ∀ (v3 : Int32), j22 v3 = some r → Z G p l e rm_X0_loss s m args below meth c (MQ below (zQ G (some (.int r)) w) args s 0 0 (zA G)) 4 22 [(0, .ref (zad G b)), (1, .int a1), (2, .int a2)] [.int v3] w := by
      intro v3 hf
      replace hf := hj22 v3 hf
      refine z_iload_n hC dX0_loss_22 2 rfl rfl ?_
      obtain ⟨j31, hj31, hf⟩ := zjn1_e hf
      have hJ31 : ∀ (v4 : Int32), j31 v4 = some r → Z G p l e rm_X0_loss s m args below meth c (MQ below (zQ G (some (.int r)) w) args s 0 0 (zA G)) 4 31 [(0, .ref (zad G b)), (1, .int a1)] [.int v4, .int v3] w := by
        intro v4 hf
        replace hf := hj31 v4 hf
        refine z_iadd hC dX0_loss_31 ?_
        obtain ⟨v5, ev5, hf⟩ := zlet_e hf
        refine z_topi ev5 ?_
        refine z_istore_n (lv' := [(3, .int v5), (0, .ref (zad G b)), (1, .int a1)]) hC dX0_loss_32 rfl (by decide) rfl ?_
        refine z_aload_n hC dX0_loss_33 1 rfl rfl ?_
        refine z_get0 hC hb 2 (by decide) zw_fl_X0_19 (v := .ref (zad G (b + 2))) rfl dX0_loss_34 ?_
        refine z_iload_n hC dX0_loss_37 2 rfl rfl ?_
        obtain ⟨hg6, hf⟩ := zg_e hf
        refine z_iald hC (za_c2 hb) hg6 rfl dX0_loss_38 ?_
        refine z_iconst hC dX0_loss_39 (v := 3) rfl ?_
        obtain ⟨j62, hj62, hf⟩ := zjn0_e hf
        have hJ62 : j62 = some r → Z G p l e rm_X0_loss s m args below meth c (MQ below (zQ G (some (.int r)) w) args s 0 0 (zA G)) 4 62 [(3, .int v5)] [] w := by
          intro hf
          replace hf := hj62  hf
          obtain ⟨v7, ev7, hf⟩ := zlet_e hf
          refine z_iinc (v := v7) (lv' := [(3, .int v7)]) hC dX0_loss_62 0 rfl (by rw [ev7]; rfl) (by decide) rfl ?_
          refine z_iload_n hC dX0_loss_65 0 rfl rfl ?_
          obtain rfl := zso1 hf
          exact z_iret hC dX0_loss_66
        refine z_icmp_eq (tgt := 62) hC dX0_loss_40 (by decide) (fun h8 => ?_) (fun h8 => ?_)
        · replace hf := zif_t h8 hf
          refine z_lv [0] rfl ?_
          exact hJ62 hf
        replace hf := zif_f h8 hf
        refine z_aload_n hC dX0_loss_43 1 rfl rfl ?_
        refine z_get0 hC hb 2 (by decide) zw_fl_X0_19 (v := .ref (zad G (b + 2))) rfl dX0_loss_44 ?_
        refine z_iload_n hC dX0_loss_47 2 rfl rfl ?_
        obtain ⟨hg9, hf⟩ := zg_e hf
        refine z_iald hC (za_c2 hb) hg9 rfl dX0_loss_48 ?_
        refine z_iconst hC dX0_loss_49 (v := 2) rfl ?_
        refine z_icmp_ne (tgt := 65) hC dX0_loss_50 (by decide) (fun h10 => ?_) (fun h10 => ?_)
        · replace hf := zif_f h10 hf
          refine z_iload_n hC dX0_loss_65 0 rfl rfl ?_
          obtain rfl := zso1 hf
          exact z_iret hC dX0_loss_66
        replace hf := zif_t h10 hf
        refine z_aload_n hC dX0_loss_53 1 rfl rfl ?_
        refine z_get0 hC hb 12 (by decide) zw_fl_X0_50 (v := .int (w b 12)) rfl dX0_loss_54 ?_
        refine z_iconst hC dX0_loss_57 (v := 2) rfl ?_
        refine z_irem hC dX0_loss_58 (by decide) ?_
        refine z_if_ne (tgt := 65) hC dX0_loss_59 (by decide) (fun h11 => ?_) (fun h11 => ?_)
        · replace hf := zif_f h11 hf
          refine z_iload_n hC dX0_loss_65 0 rfl rfl ?_
          obtain rfl := zso1 hf
          exact z_iret hC dX0_loss_66
        replace hf := zif_t h11 hf
        refine z_lv [0] rfl ?_
        exact hJ62 hf
      refine z_if_eq (tgt := 30) hC dX0_loss_23 (by decide) (fun h12 => ?_) (fun h12 => ?_)
      · replace hf := zif_t h12 hf
        refine z_iconst hC dX0_loss_30 (v := 0) rfl ?_
        refine z_lv [0, 1] rfl ?_
        exact hJ31 _ hf
      replace hf := zif_f h12 hf
      refine z_iconst hC dX0_loss_26 (v := 1) rfl ?_
      refine z_goto (tgt := 31) hC dX0_loss_27 (by decide) ?_
      refine z_lv [0, 1] rfl ?_
      exact hJ31 _ hf
    refine z_if_eq (tgt := 21) hC dX0_loss_14 (by decide) (fun h13 => ?_) (fun h13 => ?_)
    · replace hf := zif_t h13 hf
      refine z_iconst hC dX0_loss_21 (v := 0) rfl ?_
      exact hJ22 _ hf
    replace hf := zif_f h13 hf
    refine z_iconst hC dX0_loss_17 (v := 1) rfl ?_
    refine z_goto (tgt := 22) hC dX0_loss_18 (by decide) ?_
    exact hJ22 _ hf
  replace hf := zif_f h2 hf
  refine z_iconst hC dX0_loss_8 (v := 0) rfl ?_
  obtain rfl := zso1 hf
  exact z_iret hC dX0_loss_9
theorem zy_X0_loss : zYV yX0_loss cX0_loss 4 (some .int) RX0 2 := ⟨zw_cd_X0_loss, zw_im_X0_loss, zw_sel_X0_loss, zw_ini_X0, by decide +kernel⟩
abbrev rm_X0_loseWater : Room := { frames := 2, cells := 0, slots := 0, locals := 44 }
def b_X0_loseWater_2 (b : Nat) (a1 : Int32) (k2 : Int32 → zW → Option zW) (v1 : Int32) (w2 : zW) : Option zW :=
  if (w2 b 0) ≤ v1 then
    some w2
  else
  zg (zin v1 4) <|
  zbd (f_X0_loss w2 b v1 a1) fun v5 =>
  zg (zin v1 4) <|
  zlet (zup w2 (b + 3) (zx v1) (zmax (0 : Int32) ((w2 (b + 3) (zx v1)) - v5))) fun w7 =>
  zlet (v1 + (1 : Int32)) fun v8 =>
  k2 v8 w7
def f_X0_loseWater (w : zW) (b : Nat) (a1 : Int32) : Option zW :=
  zfix2 (b_X0_loseWater_2 b a1) 100000 (0 : Int32) w
set_option maxRecDepth 100000 in
set_option maxHeartbeats 4000000 in
theorem c_X0_loseWater (l : Launch) (G : zG) (w : zW) (b : Nat) (hb : zcamp b) (a1 : Int32) {wz : zW} (hf : f_X0_loseWater w b a1 = some wz) : zMet l G yX0_loseWater cX0_loseWater 3 none rm_X0_loseWater [.ref (zad G b), .int a1] w none wz := by
  refine z_start (own := RX0) (by decide) rfl (Nat.le_of_ble_eq_true rfl) (lv := [(0, .ref (zad G b)), (1, .int a1)]) rfl ?_
  intro p e s m args below meth c hC
  unfold f_X0_loseWater at hf
  refine z_iconst hC dX0_loseWater_0 (v := 0) rfl ?_
  refine z_istore_n (lv' := [(2, .int (0 : Int32)), (0, .ref (zad G b)), (1, .int a1)]) hC dX0_loseWater_1 rfl (by decide) rfl ?_
  have hL2 : ∀ (n : Nat) (v1 : Int32) (w2 : zW), zfix2 (b_X0_loseWater_2 b a1) n v1 w2 = some wz → Z G p l e rm_X0_loseWater s m args below meth c (MQ below (zQ G none wz) args s 0 0 (zA G)) 3 2 [(0, .ref (zad G b)), (1, .int a1), (2, .int v1)] [] w2 := by
    intro n
    induction n with
    | zero => intro v1 w2 hf; exact (zfix2_0 hf).elim
    | succ n ih2 =>
      intro v1 w2 hf
      replace hf := zfix2_e hf
      unfold b_X0_loseWater_2 at hf
      refine z_iload_n hC dX0_loseWater_2 2 rfl rfl ?_
      refine z_aload_n hC dX0_loseWater_3 0 rfl rfl ?_
      refine z_get0 hC hb 0 (by decide) zw_fl_X0_9 (v := .int (w2 b 0)) rfl dX0_loseWater_4 ?_
      refine z_icmp_ge (tgt := 39) hC dX0_loseWater_7 (by decide) (fun h3 => ?_) (fun h3 => ?_)
      · replace hf := zif_t h3 hf
        obtain rfl := zso1 hf
        exact z_vret hC dX0_loseWater_39
      replace hf := zif_f h3 hf
      refine z_aload_n hC dX0_loseWater_10 0 rfl rfl ?_
      refine z_get0 hC hb 3 (by decide) zw_fl_X0_22 (v := .ref (zad G (b + 3))) rfl dX0_loseWater_11 ?_
      refine z_iload_n hC dX0_loseWater_14 2 rfl rfl ?_
      refine z_iconst hC dX0_loseWater_15 (v := 0) rfl ?_
      refine z_aload_n hC dX0_loseWater_16 0 rfl rfl ?_
      refine z_get0 hC hb 3 (by decide) zw_fl_X0_22 (v := .ref (zad G (b + 3))) rfl dX0_loseWater_17 ?_
      refine z_iload_n hC dX0_loseWater_20 2 rfl rfl ?_
      obtain ⟨hg4, hf⟩ := zg_e hf
      refine z_iald hC (za_c3 hb) hg4 rfl dX0_loseWater_21 ?_
      refine z_aload_n hC dX0_loseWater_22 0 rfl rfl ?_
      refine z_iload_n hC dX0_loseWater_23 2 rfl rfl ?_
      refine z_iload_n hC dX0_loseWater_24 1 rfl rfl ?_
      obtain ⟨v5, ev5, hf⟩ := zbd_e hf
      refine z_cvi (As := [.int v1, .int a1]) (rest := [.int (w2 (b + 3) (zx v1)), .int (0 : Int32), .int v1, .ref (zad G (b + 3))]) hC (zo_camp hb) rfl (c_X0_loss l G w2 b hb v1 a1 ev5) zw_ml_X0_120 zy_X0_loss ⟨rfl, rfl, Nat.le_of_ble_eq_true rfl, Nat.le_of_ble_eq_true rfl⟩ rfl rfl (Nat.le_of_ble_eq_true rfl) dX0_loseWater_25 ?_
      refine z_isub hC dX0_loseWater_28 ?_
      refine z_max hC zw_ml_X0_66 (Nat.le_of_ble_eq_true rfl) (Nat.le_of_ble_eq_true rfl) dX0_loseWater_29 ?_
      obtain ⟨hg6, hf⟩ := zg_e hf
      obtain ⟨w7, ew7, hf⟩ := zlet_e hf
      refine z_iast hC (za_c3 hb) hg6 rfl ew7 dX0_loseWater_32 ?_
      obtain ⟨v8, ev8, hf⟩ := zlet_e hf
      refine z_iinc (v := v8) (lv' := [(2, .int v8), (0, .ref (zad G b)), (1, .int a1)]) hC dX0_loseWater_33 2 rfl (by rw [ev8]; rfl) (by decide) rfl ?_
      refine z_goto (tgt := 2) hC dX0_loseWater_36 (by decide) ?_
      refine z_lv [1, 2, 0] rfl ?_
      exact ih2 _ _ hf
  refine z_lv [1, 2, 0] rfl ?_
  exact hL2 _ _ _ hf
theorem zy_X0_loseWater : zYV yX0_loseWater cX0_loseWater 3 none RX0 1 := ⟨zw_cd_X0_loseWater, zw_im_X0_loseWater, zw_sel_X0_loseWater, zw_ini_X0, by decide +kernel⟩
abbrev rm_X0_isSomeoneWeak : Room := { frames := 1, cells := 0, slots := 0, locals := 21 }
def b_X0_isSomeoneWeak_2 (w : zW) (b : Nat) (k2 : Int32 → Option Int32) (v1 : Int32) : Option Int32 :=
  if (w b 0) ≤ v1 then
    some (0 : Int32)
  else
  zbd (f_X0_isDown w b v1) fun v3 =>
  zjn0 (
    zlet (v1 + (1 : Int32)) fun v4 =>
    k2 v4)
  (fun (j30 : Option Int32) =>
  if v3 = (0 : Int32) then
    zg (zin v1 4) <|
    if (5 : Int32) < (w (b + 3) (zx v1)) then
      j30
    else
    some (1 : Int32)
  else
    j30)
def f_X0_isSomeoneWeak (w : zW) (b : Nat) : Option Int32 :=
  zfix1 (b_X0_isSomeoneWeak_2 w b) 100000 (0 : Int32)
set_option maxRecDepth 100000 in
set_option maxHeartbeats 4000000 in
theorem c_X0_isSomeoneWeak (l : Launch) (G : zG) (w : zW) (b : Nat) (hb : zcamp b) {r : Int32} (hf : f_X0_isSomeoneWeak w b = some r) : zMet l G yX0_isSomeoneWeak cX0_isSomeoneWeak 2 (some .boolean) rm_X0_isSomeoneWeak [.ref (zad G b)] w (some (.int r)) w := by
  refine z_start (own := RX0) (by decide) rfl (Nat.le_of_ble_eq_true rfl) (lv := [(0, .ref (zad G b))]) rfl ?_
  intro p e s m args below meth c hC
  unfold f_X0_isSomeoneWeak at hf
  refine z_iconst hC dX0_isSomeoneWeak_0 (v := 0) rfl ?_
  refine z_istore_n (lv' := [(1, .int (0 : Int32)), (0, .ref (zad G b))]) hC dX0_isSomeoneWeak_1 rfl (by decide) rfl ?_
  have hL2 : ∀ (n : Nat) (v1 : Int32), zfix1 (b_X0_isSomeoneWeak_2 w b) n v1 = some r → Z G p l e rm_X0_isSomeoneWeak s m args below meth c (MQ below (zQ G (some (.int r)) w) args s 0 0 (zA G)) 2 2 [(0, .ref (zad G b)), (1, .int v1)] [] w := by
    intro n
    induction n with
    | zero => intro v1 hf; exact (zfix1_0 hf).elim
    | succ n ih2 =>
      intro v1 hf
      replace hf := zfix1_e hf
      unfold b_X0_isSomeoneWeak_2 at hf
      refine z_iload_n hC dX0_isSomeoneWeak_2 1 rfl rfl ?_
      refine z_aload_n hC dX0_isSomeoneWeak_3 0 rfl rfl ?_
      refine z_get0 hC hb 0 (by decide) zw_fl_X0_9 (v := .int (w b 0)) rfl dX0_isSomeoneWeak_4 ?_
      refine z_icmp_ge (tgt := 36) hC dX0_isSomeoneWeak_7 (by decide) (fun h2 => ?_) (fun h2 => ?_)
      · replace hf := zif_t h2 hf
        refine z_iconst hC dX0_isSomeoneWeak_36 (v := 0) rfl ?_
        obtain rfl := zso1 hf
        exact z_zret hC rfl dX0_isSomeoneWeak_37
      replace hf := zif_f h2 hf
      refine z_aload_n hC dX0_isSomeoneWeak_10 0 rfl rfl ?_
      refine z_iload_n hC dX0_isSomeoneWeak_11 1 rfl rfl ?_
      obtain ⟨v3, ev3, hf⟩ := zbd_e hf
      refine z_cvi (As := [.int v1]) (rest := []) hC (zo_camp hb) rfl (c_X0_isDown l G w b hb v1 ev3) zw_ml_X0_62 zy_X0_isDown ⟨rfl, rfl, Nat.le_of_ble_eq_true rfl, Nat.le_of_ble_eq_true rfl⟩ rfl rfl (Nat.le_of_ble_eq_true rfl) dX0_isSomeoneWeak_12 ?_
      obtain ⟨j30, hj30, hf⟩ := zjn0_e hf
      have hJ30 : j30 = some r → Z G p l e rm_X0_isSomeoneWeak s m args below meth c (MQ below (zQ G (some (.int r)) w) args s 0 0 (zA G)) 2 30 [(0, .ref (zad G b)), (1, .int v1)] [] w := by
        intro hf
        replace hf := hj30  hf
        obtain ⟨v4, ev4, hf⟩ := zlet_e hf
        refine z_iinc (v := v4) (lv' := [(1, .int v4), (0, .ref (zad G b))]) hC dX0_isSomeoneWeak_30 1 rfl (by rw [ev4]; rfl) (by decide) rfl ?_
        refine z_goto (tgt := 2) hC dX0_isSomeoneWeak_33 (by decide) ?_
        refine z_lv [1, 0] rfl ?_
        exact ih2 _ hf
      refine z_if_ne (tgt := 30) hC dX0_isSomeoneWeak_15 (by decide) (fun h5 => ?_) (fun h5 => ?_)
      · replace hf := zif_f h5 hf
        exact hJ30 hf
      replace hf := zif_t h5 hf
      refine z_aload_n hC dX0_isSomeoneWeak_18 0 rfl rfl ?_
      refine z_get0 hC hb 3 (by decide) zw_fl_X0_22 (v := .ref (zad G (b + 3))) rfl dX0_isSomeoneWeak_19 ?_
      refine z_iload_n hC dX0_isSomeoneWeak_22 1 rfl rfl ?_
      obtain ⟨hg6, hf⟩ := zg_e hf
      refine z_iald hC (za_c3 hb) hg6 rfl dX0_isSomeoneWeak_23 ?_
      refine z_iconst hC dX0_isSomeoneWeak_24 (v := 5) rfl ?_
      refine z_icmp_gt (tgt := 30) hC dX0_isSomeoneWeak_25 (by decide) (fun h7 => ?_) (fun h7 => ?_)
      · replace hf := zif_t h7 hf
        exact hJ30 hf
      replace hf := zif_f h7 hf
      refine z_iconst hC dX0_isSomeoneWeak_28 (v := 1) rfl ?_
      obtain rfl := zso1 hf
      exact z_zret hC rfl dX0_isSomeoneWeak_29
  refine z_lv [1, 0] rfl ?_
  exact hL2 _ _ hf
theorem zy_X0_isSomeoneWeak : zYV yX0_isSomeoneWeak cX0_isSomeoneWeak 2 (some .boolean) RX0 0 := ⟨zw_cd_X0_isSomeoneWeak, zw_im_X0_isSomeoneWeak, zw_sel_X0_isSomeoneWeak, zw_ini_X0, by decide +kernel⟩
abbrev rm_X0_walkOn : Room := { frames := 2, cells := 0, slots := 0, locals := 42 }
def b_X0_walkOn_41 (b : Nat) (v1 : Int32) (k41 : Int32 → zW → Option zW) (v6 : Int32) (w7 : zW) : Option zW :=
  if (w7 b 4) ≤ v6 then
    some w7
  else
  zg (zin v6 3) <|
  zjn1 (fun (w10 : zW) =>
    zlet (v6 + (1 : Int32)) fun v11 =>
    k41 v11 w10)
  (fun (j98 : zW → Option zW) =>
  if (w7 (b + 7) (zx v6)) = (0 : Int32) then
    j98 w7
  else
  zg (zin v6 3) <|
  if (w7 (b + 4) (zx v6)) ≤ v1 then
    j98 w7
  else
  zg (zin v6 3) <|
  if (w7 b 11) < (w7 (b + 4) (zx v6)) then
    j98 w7
  else
  zg (zin v6 3) <|
  zbd (f_X0_pourIn w7 b (w7 (b + 6) (zx v6))) fun w18 =>
  zg (zin v6 3) <|
  zlet (zup w18 (b + 7) (zx v6) (vp_nar .boolean (0 : Int32))) fun w20 =>
  j98 w20)
def f_X0_walkOn (w : zW) (b : Nat) : Option zW :=
  zlet (w b 11) fun v1 =>
  zjn1 (fun (v2 : Int32) =>
    zbd (f_X0_isSomeoneWeak w b) fun v3 =>
    zjn1 (fun (v4 : Int32) =>
      zlet (zup w b 11 ((w b 11) + (v2 - v4))) fun w5 =>
      zfix2 (b_X0_walkOn_41 b v1) 100000 (0 : Int32) w5)
    (fun (j34 : Int32 → Option zW) =>
    if v3 = (0 : Int32) then
      j34 (0 : Int32)
    else
    j34 (1 : Int32)))
  (fun (j22 : Int32 → Option zW) =>
  if (f_X0_isDay w b) = (0 : Int32) then
    j22 (3 : Int32)
  else
  j22 (2 : Int32))
set_option maxRecDepth 100000 in
set_option maxHeartbeats 4000000 in
theorem c_X0_walkOn (l : Launch) (G : zG) (w : zW) (b : Nat) (hb : zcamp b) {wz : zW} (hf : f_X0_walkOn w b = some wz) : zMet l G yX0_walkOn cX0_walkOn 3 none rm_X0_walkOn [.ref (zad G b)] w none wz := by
  refine z_start (own := RX0) (by decide) rfl (Nat.le_of_ble_eq_true rfl) (lv := [(0, .ref (zad G b))]) rfl ?_
  intro p e s m args below meth c hC
  unfold f_X0_walkOn at hf
  refine z_aload_n hC dX0_walkOn_0 0 rfl rfl ?_
  refine z_get0 hC hb 11 (by decide) zw_fl_X0_47 (v := .int (w b 11)) rfl dX0_walkOn_1 ?_
  obtain ⟨v1, ev1, hf⟩ := zlet_e hf
  refine z_topi ev1 ?_
  refine z_istore_n (lv' := [(1, .int v1), (0, .ref (zad G b))]) hC dX0_walkOn_4 rfl (by decide) rfl ?_
  refine z_aload_n hC dX0_walkOn_5 1 rfl rfl ?_
  refine z_dup hC dX0_walkOn_6 rfl ?_
  refine z_get0 hC hb 11 (by decide) zw_fl_X0_47 (v := .int (w b 11)) rfl dX0_walkOn_7 ?_
  refine z_aload_n hC dX0_walkOn_10 1 rfl rfl ?_
  refine z_cvi (As := []) (rest := [.int (w b 11), .ref (zad G b)]) hC (zo_camp hb) rfl (c_X0_isDay l G w b hb) zw_ml_X0_76 zy_X0_isDay ⟨rfl, rfl, Nat.le_of_ble_eq_true rfl, Nat.le_of_ble_eq_true rfl⟩ rfl rfl (Nat.le_of_ble_eq_true rfl) dX0_walkOn_11 ?_
  obtain ⟨j22, hj22, hf⟩ := zjn1_e hf
  have hJ22 : ∀ (v2 : Int32), j22 v2 = some wz → Z G p l e rm_X0_walkOn s m args below meth c (MQ below (zQ G none wz) args s 0 0 (zA G)) 3 22 [(0, .ref (zad G b)), (1, .int v1)] [.int v2, .int (w b 11), .ref (zad G b)] w := by
    intro v2 hf
    replace hf := hj22 v2 hf
    refine z_aload_n hC dX0_walkOn_22 0 rfl rfl ?_
    obtain ⟨v3, ev3, hf⟩ := zbd_e hf
    refine z_cvi (As := []) (rest := [.int v2, .int (w b 11), .ref (zad G b)]) hC (zo_camp hb) rfl (c_X0_isSomeoneWeak l G w b hb ev3) zw_ml_X0_124 zy_X0_isSomeoneWeak ⟨rfl, rfl, Nat.le_of_ble_eq_true rfl, Nat.le_of_ble_eq_true rfl⟩ rfl rfl (Nat.le_of_ble_eq_true rfl) dX0_walkOn_23 ?_
    obtain ⟨j34, hj34, hf⟩ := zjn1_e hf
    have hJ34 : ∀ (v4 : Int32), j34 v4 = some wz → Z G p l e rm_X0_walkOn s m args below meth c (MQ below (zQ G none wz) args s 0 0 (zA G)) 3 34 [(0, .ref (zad G b)), (1, .int v1)] [.int v4, .int v2, .int (w b 11), .ref (zad G b)] w := by
      intro v4 hf
      replace hf := hj34 v4 hf
      refine z_isub hC dX0_walkOn_34 ?_
      refine z_iadd hC dX0_walkOn_35 ?_
      obtain ⟨w5, ew5, hf⟩ := zlet_e hf
      refine z_put0 hC hb 11 (by decide) rfl rfl zw_fl_X0_47 rfl ew5 dX0_walkOn_36 ?_
      refine z_iconst hC dX0_walkOn_39 (v := 0) rfl ?_
      refine z_istore_n (lv' := [(2, .int (0 : Int32)), (0, .ref (zad G b)), (1, .int v1)]) hC dX0_walkOn_40 rfl (by decide) rfl ?_
      have hL41 : ∀ (n : Nat) (v6 : Int32) (w7 : zW), zfix2 (b_X0_walkOn_41 b v1) n v6 w7 = some wz → Z G p l e rm_X0_walkOn s m args below meth c (MQ below (zQ G none wz) args s 0 0 (zA G)) 3 41 [(0, .ref (zad G b)), (1, .int v1), (2, .int v6)] [] w7 := by
        intro n
        induction n with
        | zero => intro v6 w7 hf; exact (zfix2_0 hf).elim
        | succ n ih41 =>
          intro v6 w7 hf
          replace hf := zfix2_e hf
          unfold b_X0_walkOn_41 at hf
          refine z_iload_n hC dX0_walkOn_41 2 rfl rfl ?_
          refine z_aload_n hC dX0_walkOn_42 0 rfl rfl ?_
          refine z_get0 hC hb 4 (by decide) zw_fl_X0_25 (v := .int (w7 b 4)) rfl dX0_walkOn_43 ?_
          refine z_icmp_ge (tgt := 104) hC dX0_walkOn_46 (by decide) (fun h8 => ?_) (fun h8 => ?_)
          · replace hf := zif_t h8 hf
            obtain rfl := zso1 hf
            exact z_vret hC dX0_walkOn_104
          replace hf := zif_f h8 hf
          refine z_aload_n hC dX0_walkOn_49 0 rfl rfl ?_
          refine z_get0 hC hb 8 (by decide) zw_fl_X0_37 (v := .ref (zad G (b + 7))) rfl dX0_walkOn_50 ?_
          refine z_iload_n hC dX0_walkOn_53 2 rfl rfl ?_
          obtain ⟨hg9, hf⟩ := zg_e hf
          refine z_zald hC (za_c7 hb) hg9 rfl dX0_walkOn_54 ?_
          obtain ⟨j98, hj98, hf⟩ := zjn1_e hf
          have hJ98 : ∀ (w10 : zW), j98 w10 = some wz → Z G p l e rm_X0_walkOn s m args below meth c (MQ below (zQ G none wz) args s 0 0 (zA G)) 3 98 [(0, .ref (zad G b)), (1, .int v1), (2, .int v6)] [] w10 := by
            intro w10 hf
            replace hf := hj98 w10 hf
            obtain ⟨v11, ev11, hf⟩ := zlet_e hf
            refine z_iinc (v := v11) (lv' := [(2, .int v11), (0, .ref (zad G b)), (1, .int v1)]) hC dX0_walkOn_98 2 rfl (by rw [ev11]; rfl) (by decide) rfl ?_
            refine z_goto (tgt := 41) hC dX0_walkOn_101 (by decide) ?_
            refine z_lv [1, 2, 0] rfl ?_
            exact ih41 _ _ hf
          refine z_if_eq (tgt := 98) hC dX0_walkOn_55 (by decide) (fun h12 => ?_) (fun h12 => ?_)
          · replace hf := zif_t h12 hf
            exact hJ98 _ hf
          replace hf := zif_f h12 hf
          refine z_aload_n hC dX0_walkOn_58 0 rfl rfl ?_
          refine z_get0 hC hb 5 (by decide) zw_fl_X0_28 (v := .ref (zad G (b + 4))) rfl dX0_walkOn_59 ?_
          refine z_iload_n hC dX0_walkOn_62 2 rfl rfl ?_
          obtain ⟨hg13, hf⟩ := zg_e hf
          refine z_iald hC (za_c4 hb) hg13 rfl dX0_walkOn_63 ?_
          refine z_iload_n hC dX0_walkOn_64 1 rfl rfl ?_
          refine z_icmp_le (tgt := 98) hC dX0_walkOn_65 (by decide) (fun h14 => ?_) (fun h14 => ?_)
          · replace hf := zif_t h14 hf
            exact hJ98 _ hf
          replace hf := zif_f h14 hf
          refine z_aload_n hC dX0_walkOn_68 0 rfl rfl ?_
          refine z_get0 hC hb 5 (by decide) zw_fl_X0_28 (v := .ref (zad G (b + 4))) rfl dX0_walkOn_69 ?_
          refine z_iload_n hC dX0_walkOn_72 2 rfl rfl ?_
          obtain ⟨hg15, hf⟩ := zg_e hf
          refine z_iald hC (za_c4 hb) hg15 rfl dX0_walkOn_73 ?_
          refine z_aload_n hC dX0_walkOn_74 0 rfl rfl ?_
          refine z_get0 hC hb 11 (by decide) zw_fl_X0_47 (v := .int (w7 b 11)) rfl dX0_walkOn_75 ?_
          refine z_icmp_gt (tgt := 98) hC dX0_walkOn_78 (by decide) (fun h16 => ?_) (fun h16 => ?_)
          · replace hf := zif_t h16 hf
            exact hJ98 _ hf
          replace hf := zif_f h16 hf
          refine z_aload_n hC dX0_walkOn_81 0 rfl rfl ?_
          refine z_aload_n hC dX0_walkOn_82 0 rfl rfl ?_
          refine z_get0 hC hb 7 (by decide) zw_fl_X0_34 (v := .ref (zad G (b + 6))) rfl dX0_walkOn_83 ?_
          refine z_iload_n hC dX0_walkOn_86 2 rfl rfl ?_
          obtain ⟨hg17, hf⟩ := zg_e hf
          refine z_iald hC (za_c6 hb) hg17 rfl dX0_walkOn_87 ?_
          obtain ⟨w18, ew18, hf⟩ := zbd_e hf
          refine z_cvv (As := [.int (w7 (b + 6) (zx v6))]) (rest := []) hC (zo_camp hb) rfl (c_X0_pourIn l G w7 b hb (w7 (b + 6) (zx v6)) ew18) zw_ml_X0_97 zy_X0_pourIn ⟨rfl, rfl, Nat.le_of_ble_eq_true rfl, Nat.le_of_ble_eq_true rfl⟩ rfl rfl (Nat.le_of_ble_eq_true rfl) dX0_walkOn_88 ?_
          refine z_aload_n hC dX0_walkOn_91 0 rfl rfl ?_
          refine z_get0 hC hb 8 (by decide) zw_fl_X0_37 (v := .ref (zad G (b + 7))) rfl dX0_walkOn_92 ?_
          refine z_iload_n hC dX0_walkOn_95 2 rfl rfl ?_
          refine z_iconst hC dX0_walkOn_96 (v := 0) rfl ?_
          obtain ⟨hg19, hf⟩ := zg_e hf
          obtain ⟨w20, ew20, hf⟩ := zlet_e hf
          refine z_zast hC (za_c7 hb) hg19 rfl ew20 dX0_walkOn_97 ?_
          exact hJ98 _ hf
      refine z_lv [1, 2, 0] rfl ?_
      exact hL41 _ _ _ hf
    refine z_if_eq (tgt := 33) hC dX0_walkOn_26 (by decide) (fun h21 => ?_) (fun h21 => ?_)
    · replace hf := zif_t h21 hf
      refine z_iconst hC dX0_walkOn_33 (v := 0) rfl ?_
      exact hJ34 _ hf
    replace hf := zif_f h21 hf
    refine z_iconst hC dX0_walkOn_29 (v := 1) rfl ?_
    refine z_goto (tgt := 34) hC dX0_walkOn_30 (by decide) ?_
    exact hJ34 _ hf
  refine z_if_eq (tgt := 21) hC dX0_walkOn_14 (by decide) (fun h22 => ?_) (fun h22 => ?_)
  · replace hf := zif_t h22 hf
    refine z_iconst hC dX0_walkOn_21 (v := 3) rfl ?_
    refine z_lv [1, 0] rfl ?_
    exact hJ22 _ hf
  replace hf := zif_f h22 hf
  refine z_iconst hC dX0_walkOn_17 (v := 2) rfl ?_
  refine z_goto (tgt := 22) hC dX0_walkOn_18 (by decide) ?_
  refine z_lv [1, 0] rfl ?_
  exact hJ22 _ hf
theorem zy_X0_walkOn : zYV yX0_walkOn cX0_walkOn 3 none RX0 0 := ⟨zw_cd_X0_walkOn, zw_im_X0_walkOn, zw_sel_X0_walkOn, zw_ini_X0, by decide +kernel⟩
abbrev rm_X0_passHour : Room := { frames := 3, cells := 0, slots := 0, locals := 69 }
def f_X0_passHour (w : zW) (b : Nat) (a1 : Int32) : Option zW :=
  zjn1 (fun (v1 : Int32) =>
    zjn1 (fun (w2 : zW) =>
      zlet (zup w2 b 12 ((w2 b 12) + (1 : Int32))) fun w3 =>
      some w3)
    (fun (j67 : zW → Option zW) =>
    if v1 = (0 : Int32) then
      zjn1 (fun (w5 : zW) =>
        zbd (f_X0_drinkRound w5 b) fun w6 =>
        zbd (f_X0_loseWater w6 b a1) fun w7 =>
        if a1 = (0 : Int32) then
          j67 w7
        else
        zbd (f_X0_standing w7 b) fun v9 =>
        if v9 ≤ (0 : Int32) then
          j67 w7
        else
        zbd (f_X0_walkOn w7 b) fun w11 =>
        j67 w11)
      (fun (j43 : zW → Option zW) =>
      if (zrem (w b 12) (24 : Int32)) = (4 : Int32) then
        zbd (f_X0_pourIn w b (w b 14)) fun w13 =>
        j43 w13
      else
        j43 w)
    else
      j67 w))
  (fun (j19 : Int32 → Option zW) =>
  zjn0 (
    j19 (1 : Int32))
  (fun (j14 : Option zW) =>
  if (f_X0_isAtGoal w b) = (0 : Int32) then
    zbd (f_X0_standing w b) fun v15 =>
    if v15 = (0 : Int32) then
      j14
    else
      j19 (0 : Int32)
  else
    j14))
set_option maxRecDepth 100000 in
set_option maxHeartbeats 4000000 in
theorem c_X0_passHour (l : Launch) (G : zG) (w : zW) (b : Nat) (hb : zcamp b) (a1 : Int32) {wz : zW} (hf : f_X0_passHour w b a1 = some wz) : zMet l G yX0_passHour cX0_passHour 3 none rm_X0_passHour [.ref (zad G b), .int a1] w none wz := by
  refine z_start (own := RX0) (by decide) rfl (Nat.le_of_ble_eq_true rfl) (lv := [(0, .ref (zad G b)), (1, .int a1)]) rfl ?_
  intro p e s m args below meth c hC
  unfold f_X0_passHour at hf
  refine z_aload_n hC dX0_passHour_0 0 rfl rfl ?_
  refine z_cvi (As := []) (rest := []) hC (zo_camp hb) rfl (c_X0_isAtGoal l G w b hb) zw_ml_X0_91 zy_X0_isAtGoal ⟨rfl, rfl, Nat.le_of_ble_eq_true rfl, Nat.le_of_ble_eq_true rfl⟩ rfl rfl (Nat.le_of_ble_eq_true rfl) dX0_passHour_1 ?_
  obtain ⟨j19, hj19, hf⟩ := zjn1_e hf
  have hJ19 : ∀ (v1 : Int32), j19 v1 = some wz → Z G p l e rm_X0_passHour s m args below meth c (MQ below (zQ G none wz) args s 0 0 (zA G)) 3 19 [(0, .ref (zad G b)), (1, .int a1)] [.int v1] w := by
    intro v1 hf
    replace hf := hj19 v1 hf
    refine z_istore_n (lv' := [(2, .int v1), (0, .ref (zad G b)), (1, .int a1)]) hC dX0_passHour_19 rfl (by decide) rfl ?_
    refine z_iload_n hC dX0_passHour_20 0 rfl rfl ?_
    obtain ⟨j67, hj67, hf⟩ := zjn1_e hf
    have hJ67 : ∀ (w2 : zW), j67 w2 = some wz → Z G p l e rm_X0_passHour s m args below meth c (MQ below (zQ G none wz) args s 0 0 (zA G)) 3 67 [(0, .ref (zad G b))] [] w2 := by
      intro w2 hf
      replace hf := hj67 w2 hf
      refine z_aload_n hC dX0_passHour_67 0 rfl rfl ?_
      refine z_dup hC dX0_passHour_68 rfl ?_
      refine z_get0 hC hb 12 (by decide) zw_fl_X0_50 (v := .int (w2 b 12)) rfl dX0_passHour_69 ?_
      refine z_iconst hC dX0_passHour_72 (v := 1) rfl ?_
      refine z_iadd hC dX0_passHour_73 ?_
      obtain ⟨w3, ew3, hf⟩ := zlet_e hf
      refine z_put0 hC hb 12 (by decide) rfl rfl zw_fl_X0_50 rfl ew3 dX0_passHour_74 ?_
      obtain rfl := zso1 hf
      exact z_vret hC dX0_passHour_77
    refine z_if_ne (tgt := 67) hC dX0_passHour_21 (by decide) (fun h4 => ?_) (fun h4 => ?_)
    · replace hf := zif_f h4 hf
      refine z_lv [1] rfl ?_
      exact hJ67 _ hf
    replace hf := zif_t h4 hf
    refine z_aload_n hC dX0_passHour_24 1 rfl rfl ?_
    refine z_get0 hC hb 12 (by decide) zw_fl_X0_50 (v := .int (w b 12)) rfl dX0_passHour_25 ?_
    refine z_bipush hC dX0_passHour_28 (v := 24) rfl ?_
    refine z_irem hC dX0_passHour_30 (by decide) ?_
    refine z_iconst hC dX0_passHour_31 (v := 4) rfl ?_
    obtain ⟨j43, hj43, hf⟩ := zjn1_e hf
    have hJ43 : ∀ (w5 : zW), j43 w5 = some wz → Z G p l e rm_X0_passHour s m args below meth c (MQ below (zQ G none wz) args s 0 0 (zA G)) 3 43 [(0, .ref (zad G b)), (1, .int a1)] [] w5 := by
      intro w5 hf
      replace hf := hj43 w5 hf
      refine z_aload_n hC dX0_passHour_43 0 rfl rfl ?_
      obtain ⟨w6, ew6, hf⟩ := zbd_e hf
      refine z_cvv (As := []) (rest := []) hC (zo_camp hb) rfl (c_X0_drinkRound l G w5 b hb ew6) zw_ml_X0_101 zy_X0_drinkRound ⟨rfl, rfl, Nat.le_of_ble_eq_true rfl, Nat.le_of_ble_eq_true rfl⟩ rfl rfl (Nat.le_of_ble_eq_true rfl) dX0_passHour_44 ?_
      refine z_aload_n hC dX0_passHour_47 0 rfl rfl ?_
      refine z_iload_n hC dX0_passHour_48 1 rfl rfl ?_
      obtain ⟨w7, ew7, hf⟩ := zbd_e hf
      refine z_cvv (As := [.int a1]) (rest := []) hC (zo_camp hb) rfl (c_X0_loseWater l G w6 b hb a1 ew7) zw_ml_X0_104 zy_X0_loseWater ⟨rfl, rfl, Nat.le_of_ble_eq_true rfl, Nat.le_of_ble_eq_true rfl⟩ rfl rfl (Nat.le_of_ble_eq_true rfl) dX0_passHour_49 ?_
      refine z_iload_n hC dX0_passHour_52 1 rfl rfl ?_
      refine z_if_eq (tgt := 67) hC dX0_passHour_53 (by decide) (fun h8 => ?_) (fun h8 => ?_)
      · replace hf := zif_t h8 hf
        refine z_lv [0] rfl ?_
        exact hJ67 _ hf
      replace hf := zif_f h8 hf
      refine z_aload_n hC dX0_passHour_56 0 rfl rfl ?_
      obtain ⟨v9, ev9, hf⟩ := zbd_e hf
      refine z_cvi (As := []) (rest := []) hC (zo_camp hb) rfl (c_X0_standing l G w7 b hb ev9) zw_ml_X0_94 zy_X0_standing ⟨rfl, rfl, Nat.le_of_ble_eq_true rfl, Nat.le_of_ble_eq_true rfl⟩ rfl rfl (Nat.le_of_ble_eq_true rfl) dX0_passHour_57 ?_
      refine z_if_le (tgt := 67) hC dX0_passHour_60 (by decide) (fun h10 => ?_) (fun h10 => ?_)
      · replace hf := zif_t h10 hf
        refine z_lv [0] rfl ?_
        exact hJ67 _ hf
      replace hf := zif_f h10 hf
      refine z_aload_n hC dX0_passHour_63 0 rfl rfl ?_
      obtain ⟨w11, ew11, hf⟩ := zbd_e hf
      refine z_cvv (As := []) (rest := []) hC (zo_camp hb) rfl (c_X0_walkOn l G w7 b hb ew11) zw_ml_X0_107 zy_X0_walkOn ⟨rfl, rfl, Nat.le_of_ble_eq_true rfl, Nat.le_of_ble_eq_true rfl⟩ rfl rfl (Nat.le_of_ble_eq_true rfl) dX0_passHour_64 ?_
      refine z_lv [0] rfl ?_
      exact hJ67 _ hf
    refine z_icmp_ne (tgt := 43) hC dX0_passHour_32 (by decide) (fun h12 => ?_) (fun h12 => ?_)
    · replace hf := zif_f h12 hf
      refine z_lv [1, 2] rfl ?_
      exact hJ43 _ hf
    replace hf := zif_t h12 hf
    refine z_aload_n hC dX0_passHour_35 1 rfl rfl ?_
    refine z_aload_n hC dX0_passHour_36 1 rfl rfl ?_
    refine z_get0 hC hb 14 (by decide) zw_fl_X0_56 (v := .int (w b 14)) rfl dX0_passHour_37 ?_
    obtain ⟨w13, ew13, hf⟩ := zbd_e hf
    refine z_cvv (As := [.int (w b 14)]) (rest := []) hC (zo_camp hb) rfl (c_X0_pourIn l G w b hb (w b 14) ew13) zw_ml_X0_97 zy_X0_pourIn ⟨rfl, rfl, Nat.le_of_ble_eq_true rfl, Nat.le_of_ble_eq_true rfl⟩ rfl rfl (Nat.le_of_ble_eq_true rfl) dX0_passHour_40 ?_
    refine z_lv [1, 2] rfl ?_
    exact hJ43 _ hf
  obtain ⟨j14, hj14, hf⟩ := zjn0_e hf
  have hJ14 : j14 = some wz → Z G p l e rm_X0_passHour s m args below meth c (MQ below (zQ G none wz) args s 0 0 (zA G)) 3 14 [(0, .ref (zad G b)), (1, .int a1)] [] w := by
    intro hf
    replace hf := hj14  hf
    refine z_iconst hC dX0_passHour_14 (v := 1) rfl ?_
    refine z_goto (tgt := 19) hC dX0_passHour_15 (by decide) ?_
    exact hJ19 _ hf
  refine z_if_ne (tgt := 14) hC dX0_passHour_4 (by decide) (fun h14 => ?_) (fun h14 => ?_)
  · replace hf := zif_f h14 hf
    exact hJ14 hf
  replace hf := zif_t h14 hf
  refine z_aload_n hC dX0_passHour_7 0 rfl rfl ?_
  obtain ⟨v15, ev15, hf⟩ := zbd_e hf
  refine z_cvi (As := []) (rest := []) hC (zo_camp hb) rfl (c_X0_standing l G w b hb ev15) zw_ml_X0_94 zy_X0_standing ⟨rfl, rfl, Nat.le_of_ble_eq_true rfl, Nat.le_of_ble_eq_true rfl⟩ rfl rfl (Nat.le_of_ble_eq_true rfl) dX0_passHour_8 ?_
  refine z_if_ne (tgt := 18) hC dX0_passHour_11 (by decide) (fun h16 => ?_) (fun h16 => ?_)
  · replace hf := zif_f h16 hf
    refine z_iconst hC dX0_passHour_18 (v := 0) rfl ?_
    exact hJ19 _ hf
  replace hf := zif_t h16 hf
  exact hJ14 hf
theorem zy_X0_passHour : zYV yX0_passHour cX0_passHour 3 none RX0 1 := ⟨zw_cd_X0_passHour, zw_im_X0_passHour, zw_sel_X0_passHour, zw_ini_X0, by decide +kernel⟩
abbrev rm_X0_hoursToGoal : Room := { frames := 4, cells := 0, slots := 0, locals := 91 }
def b_X0_hoursToGoal_2 (b : Nat) (a1 : Int32) (k2 : Int32 → zW → Option (Int32 × zW)) (v1 : Int32) (w2 : zW) : Option (Int32 × zW) :=
  if (96 : Int32) ≤ v1 then
    some (v1, w2)
  else
  if (f_X0_isAtGoal w2 b) = (0 : Int32) then
    zbd (f_X0_passHour w2 b (f_X0_walksBy w2 b a1)) fun w5 =>
    zlet (v1 + (1 : Int32)) fun v6 =>
    k2 v6 w5
  else
    some (v1, w2)
def f_X0_hoursToGoal (w : zW) (b : Nat) (a1 : Int32) : Option (Int32 × zW) :=
  zfix2 (b_X0_hoursToGoal_2 b a1) 100000 (0 : Int32) w
set_option maxRecDepth 100000 in
set_option maxHeartbeats 4000000 in
theorem c_X0_hoursToGoal (l : Launch) (G : zG) (w : zW) (b : Nat) (hb : zcamp b) (a1 : Int32) {r : Int32} {wz : zW} (hf : f_X0_hoursToGoal w b a1 = some (r, wz)) : zMet l G yX0_hoursToGoal cX0_hoursToGoal 3 (some .int) rm_X0_hoursToGoal [.ref (zad G b), .int a1] w (some (.int r)) wz := by
  refine z_start (own := RX0) (by decide) rfl (Nat.le_of_ble_eq_true rfl) (lv := [(0, .ref (zad G b)), (1, .int a1)]) rfl ?_
  intro p e s m args below meth c hC
  unfold f_X0_hoursToGoal at hf
  refine z_iconst hC dX0_hoursToGoal_0 (v := 0) rfl ?_
  refine z_istore_n (lv' := [(2, .int (0 : Int32)), (0, .ref (zad G b)), (1, .int a1)]) hC dX0_hoursToGoal_1 rfl (by decide) rfl ?_
  have hL2 : ∀ (n : Nat) (v1 : Int32) (w2 : zW), zfix2 (b_X0_hoursToGoal_2 b a1) n v1 w2 = some (r, wz) → Z G p l e rm_X0_hoursToGoal s m args below meth c (MQ below (zQ G (some (.int r)) wz) args s 0 0 (zA G)) 3 2 [(0, .ref (zad G b)), (1, .int a1), (2, .int v1)] [] w2 := by
    intro n
    induction n with
    | zero => intro v1 w2 hf; exact (zfix2_0 hf).elim
    | succ n ih2 =>
      intro v1 w2 hf
      replace hf := zfix2_e hf
      unfold b_X0_hoursToGoal_2 at hf
      refine z_iload_n hC dX0_hoursToGoal_2 2 rfl rfl ?_
      refine z_bipush hC dX0_hoursToGoal_3 (v := 96) rfl ?_
      refine z_icmp_ge (tgt := 30) hC dX0_hoursToGoal_5 (by decide) (fun h3 => ?_) (fun h3 => ?_)
      · replace hf := zif_t h3 hf
        refine z_iload_n hC dX0_hoursToGoal_30 2 rfl rfl ?_
        obtain ⟨rfl, rfl⟩ := zso2 hf
        exact z_iret hC dX0_hoursToGoal_31
      replace hf := zif_f h3 hf
      refine z_aload_n hC dX0_hoursToGoal_8 0 rfl rfl ?_
      refine z_cvi (As := []) (rest := []) hC (zo_camp hb) rfl (c_X0_isAtGoal l G w2 b hb) zw_ml_X0_91 zy_X0_isAtGoal ⟨rfl, rfl, Nat.le_of_ble_eq_true rfl, Nat.le_of_ble_eq_true rfl⟩ rfl rfl (Nat.le_of_ble_eq_true rfl) dX0_hoursToGoal_9 ?_
      refine z_if_ne (tgt := 30) hC dX0_hoursToGoal_12 (by decide) (fun h4 => ?_) (fun h4 => ?_)
      · replace hf := zif_f h4 hf
        refine z_iload_n hC dX0_hoursToGoal_30 2 rfl rfl ?_
        obtain ⟨rfl, rfl⟩ := zso2 hf
        exact z_iret hC dX0_hoursToGoal_31
      replace hf := zif_t h4 hf
      refine z_aload_n hC dX0_hoursToGoal_15 0 rfl rfl ?_
      refine z_aload_n hC dX0_hoursToGoal_16 0 rfl rfl ?_
      refine z_iload_n hC dX0_hoursToGoal_17 1 rfl rfl ?_
      refine z_cvi (As := [.int a1]) (rest := [.ref (zad G b)]) hC (zo_camp hb) rfl (c_X0_walksBy l G w2 b hb a1) zw_ml_X0_84 zy_X0_walksBy ⟨rfl, rfl, Nat.le_of_ble_eq_true rfl, Nat.le_of_ble_eq_true rfl⟩ rfl rfl (Nat.le_of_ble_eq_true rfl) dX0_hoursToGoal_18 ?_
      obtain ⟨w5, ew5, hf⟩ := zbd_e hf
      refine z_cvv (As := [.int (f_X0_walksBy w2 b a1)]) (rest := []) hC (zo_camp hb) rfl (c_X0_passHour l G w2 b hb (f_X0_walksBy w2 b a1) ew5) zw_ml_X0_87 zy_X0_passHour ⟨rfl, rfl, Nat.le_of_ble_eq_true rfl, Nat.le_of_ble_eq_true rfl⟩ rfl rfl (Nat.le_of_ble_eq_true rfl) dX0_hoursToGoal_21 ?_
      obtain ⟨v6, ev6, hf⟩ := zlet_e hf
      refine z_iinc (v := v6) (lv' := [(2, .int v6), (0, .ref (zad G b)), (1, .int a1)]) hC dX0_hoursToGoal_24 2 rfl (by rw [ev6]; rfl) (by decide) rfl ?_
      refine z_goto (tgt := 2) hC dX0_hoursToGoal_27 (by decide) ?_
      refine z_lv [1, 2, 0] rfl ?_
      exact ih2 _ _ hf
  refine z_lv [1, 2, 0] rfl ?_
  exact hL2 _ _ _ hf
theorem zy_X0_hoursToGoal : zYV yX0_hoursToGoal cX0_hoursToGoal 3 (some .int) RX0 1 := ⟨zw_cd_X0_hoursToGoal, zw_im_X0_hoursToGoal, zw_sel_X0_hoursToGoal, zw_ini_X0, by decide +kernel⟩
abbrev rm_X0_leaveOnly : Room := { frames := 0, cells := 0, slots := 0, locals := 0 }
def f_X0_leaveOnly (w : zW) (b : Nat) (a1 : Int32) : Option zW :=
  zg (zin a1 4) <|
  zlet (zup w (b + 1) 0 (w (b + 1) (zx a1))) fun w2 =>
  zg (zin a1 4) <|
  zlet (zup w2 (b + 2) 0 (w2 (b + 2) (zx a1))) fun w4 =>
  zg (zin a1 4) <|
  zlet (zup w4 (b + 3) 0 (w4 (b + 3) (zx a1))) fun w6 =>
  zlet (zup w6 b 0 (1 : Int32)) fun w7 =>
  some w7
set_option maxRecDepth 100000 in
set_option maxHeartbeats 4000000 in
theorem c_X0_leaveOnly (l : Launch) (G : zG) (w : zW) (b : Nat) (hb : zcamp b) (a1 : Int32) {wz : zW} (hf : f_X0_leaveOnly w b a1 = some wz) : zMet l G yX0_leaveOnly cX0_leaveOnly 2 none rm_X0_leaveOnly [.ref (zad G b), .int a1] w none wz := by
  refine z_start (own := RX0) (by decide) rfl (Nat.le_of_ble_eq_true rfl) (lv := [(0, .ref (zad G b)), (1, .int a1)]) rfl ?_
  intro p e s m args below meth c hC
  unfold f_X0_leaveOnly at hf
  refine z_aload_n hC dX0_leaveOnly_0 0 rfl rfl ?_
  refine z_get0 hC hb 1 (by decide) zw_fl_X0_15 (v := .ref (zad G (b + 1))) rfl dX0_leaveOnly_1 ?_
  refine z_iconst hC dX0_leaveOnly_4 (v := 0) rfl ?_
  refine z_aload_n hC dX0_leaveOnly_5 0 rfl rfl ?_
  refine z_get0 hC hb 1 (by decide) zw_fl_X0_15 (v := .ref (zad G (b + 1))) rfl dX0_leaveOnly_6 ?_
  refine z_iload_n hC dX0_leaveOnly_9 1 rfl rfl ?_
  obtain ⟨hg1, hf⟩ := zg_e hf
  refine z_iald hC (za_c1 hb) hg1 rfl dX0_leaveOnly_10 ?_
  obtain ⟨w2, ew2, hf⟩ := zlet_e hf
  refine z_iast hC (za_c1 hb) (by decide) (j := 0) (by decide) ew2 dX0_leaveOnly_11 ?_
  refine z_aload_n hC dX0_leaveOnly_12 0 rfl rfl ?_
  refine z_get0 hC hb 2 (by decide) zw_fl_X0_19 (v := .ref (zad G (b + 2))) rfl dX0_leaveOnly_13 ?_
  refine z_iconst hC dX0_leaveOnly_16 (v := 0) rfl ?_
  refine z_aload_n hC dX0_leaveOnly_17 0 rfl rfl ?_
  refine z_get0 hC hb 2 (by decide) zw_fl_X0_19 (v := .ref (zad G (b + 2))) rfl dX0_leaveOnly_18 ?_
  refine z_iload_n hC dX0_leaveOnly_21 1 rfl rfl ?_
  obtain ⟨hg3, hf⟩ := zg_e hf
  refine z_iald hC (za_c2 hb) hg3 rfl dX0_leaveOnly_22 ?_
  obtain ⟨w4, ew4, hf⟩ := zlet_e hf
  refine z_iast hC (za_c2 hb) (by decide) (j := 0) (by decide) ew4 dX0_leaveOnly_23 ?_
  refine z_aload_n hC dX0_leaveOnly_24 0 rfl rfl ?_
  refine z_get0 hC hb 3 (by decide) zw_fl_X0_22 (v := .ref (zad G (b + 3))) rfl dX0_leaveOnly_25 ?_
  refine z_iconst hC dX0_leaveOnly_28 (v := 0) rfl ?_
  refine z_aload_n hC dX0_leaveOnly_29 0 rfl rfl ?_
  refine z_get0 hC hb 3 (by decide) zw_fl_X0_22 (v := .ref (zad G (b + 3))) rfl dX0_leaveOnly_30 ?_
  refine z_iload_n hC dX0_leaveOnly_33 1 rfl rfl ?_
  obtain ⟨hg5, hf⟩ := zg_e hf
  refine z_iald hC (za_c3 hb) hg5 rfl dX0_leaveOnly_34 ?_
  obtain ⟨w6, ew6, hf⟩ := zlet_e hf
  refine z_iast hC (za_c3 hb) (by decide) (j := 0) (by decide) ew6 dX0_leaveOnly_35 ?_
  refine z_aload_n hC dX0_leaveOnly_36 0 rfl rfl ?_
  refine z_iconst hC dX0_leaveOnly_37 (v := 1) rfl ?_
  obtain ⟨w7, ew7, hf⟩ := zlet_e hf
  refine z_put0 hC hb 0 (by decide) rfl rfl zw_fl_X0_9 rfl ew7 dX0_leaveOnly_38 ?_
  obtain rfl := zso1 hf
  exact z_vret hC dX0_leaveOnly_41
theorem zy_X0_leaveOnly : zYV yX0_leaveOnly cX0_leaveOnly 2 none RX0 1 := ⟨zw_cd_X0_leaveOnly, zw_im_X0_leaveOnly, zw_sel_X0_leaveOnly, zw_ini_X0, by decide +kernel⟩
abbrev rm_X0_passHours : Room := { frames := 4, cells := 0, slots := 0, locals := 91 }
def b_X0_passHours_2 (b : Nat) (a1 : Int32) (a2 : Int32) (k2 : Int32 → zW → Option zW) (v1 : Int32) (w2 : zW) : Option zW :=
  if a1 ≤ v1 then
    some w2
  else
  zbd (f_X0_passHour w2 b (f_X0_walksBy w2 b a2)) fun w4 =>
  zlet (v1 + (1 : Int32)) fun v5 =>
  k2 v5 w4
def f_X0_passHours (w : zW) (b : Nat) (a1 : Int32) (a2 : Int32) : Option zW :=
  zfix2 (b_X0_passHours_2 b a1 a2) 100000 (0 : Int32) w
set_option maxRecDepth 100000 in
set_option maxHeartbeats 4000000 in
theorem c_X0_passHours (l : Launch) (G : zG) (w : zW) (b : Nat) (hb : zcamp b) (a1 : Int32) (a2 : Int32) {wz : zW} (hf : f_X0_passHours w b a1 a2 = some wz) : zMet l G yX0_passHours cX0_passHours 4 none rm_X0_passHours [.ref (zad G b), .int a1, .int a2] w none wz := by
  refine z_start (own := RX0) (by decide) rfl (Nat.le_of_ble_eq_true rfl) (lv := [(0, .ref (zad G b)), (1, .int a1), (2, .int a2)]) rfl ?_
  intro p e s m args below meth c hC
  unfold f_X0_passHours at hf
  refine z_iconst hC dX0_passHours_0 (v := 0) rfl ?_
  refine z_istore_n (lv' := [(3, .int (0 : Int32)), (0, .ref (zad G b)), (1, .int a1), (2, .int a2)]) hC dX0_passHours_1 rfl (by decide) rfl ?_
  have hL2 : ∀ (n : Nat) (v1 : Int32) (w2 : zW), zfix2 (b_X0_passHours_2 b a1 a2) n v1 w2 = some wz → Z G p l e rm_X0_passHours s m args below meth c (MQ below (zQ G none wz) args s 0 0 (zA G)) 4 2 [(0, .ref (zad G b)), (1, .int a1), (2, .int a2), (3, .int v1)] [] w2 := by
    intro n
    induction n with
    | zero => intro v1 w2 hf; exact (zfix2_0 hf).elim
    | succ n ih2 =>
      intro v1 w2 hf
      replace hf := zfix2_e hf
      unfold b_X0_passHours_2 at hf
      refine z_iload_n hC dX0_passHours_2 3 rfl rfl ?_
      refine z_iload_n hC dX0_passHours_3 1 rfl rfl ?_
      refine z_icmp_ge (tgt := 22) hC dX0_passHours_4 (by decide) (fun h3 => ?_) (fun h3 => ?_)
      · replace hf := zif_t h3 hf
        obtain rfl := zso1 hf
        exact z_vret hC dX0_passHours_22
      replace hf := zif_f h3 hf
      refine z_aload_n hC dX0_passHours_7 0 rfl rfl ?_
      refine z_aload_n hC dX0_passHours_8 0 rfl rfl ?_
      refine z_iload_n hC dX0_passHours_9 2 rfl rfl ?_
      refine z_cvi (As := [.int a2]) (rest := [.ref (zad G b)]) hC (zo_camp hb) rfl (c_X0_walksBy l G w2 b hb a2) zw_ml_X0_84 zy_X0_walksBy ⟨rfl, rfl, Nat.le_of_ble_eq_true rfl, Nat.le_of_ble_eq_true rfl⟩ rfl rfl (Nat.le_of_ble_eq_true rfl) dX0_passHours_10 ?_
      obtain ⟨w4, ew4, hf⟩ := zbd_e hf
      refine z_cvv (As := [.int (f_X0_walksBy w2 b a2)]) (rest := []) hC (zo_camp hb) rfl (c_X0_passHour l G w2 b hb (f_X0_walksBy w2 b a2) ew4) zw_ml_X0_87 zy_X0_passHour ⟨rfl, rfl, Nat.le_of_ble_eq_true rfl, Nat.le_of_ble_eq_true rfl⟩ rfl rfl (Nat.le_of_ble_eq_true rfl) dX0_passHours_13 ?_
      obtain ⟨v5, ev5, hf⟩ := zlet_e hf
      refine z_iinc (v := v5) (lv' := [(3, .int v5), (0, .ref (zad G b)), (1, .int a1), (2, .int a2)]) hC dX0_passHours_16 3 rfl (by rw [ev5]; rfl) (by decide) rfl ?_
      refine z_goto (tgt := 2) hC dX0_passHours_19 (by decide) ?_
      refine z_lv [1, 2, 3, 0] rfl ?_
      exact ih2 _ _ hf
  refine z_lv [1, 2, 3, 0] rfl ?_
  exact hL2 _ _ _ hf
theorem zy_X0_passHours : zYV yX0_passHours cX0_passHours 4 none RX0 2 := ⟨zw_cd_X0_passHours, zw_im_X0_passHours, zw_sel_X0_passHours, zw_ini_X0, by decide +kernel⟩
abbrev rm_X0_wetWells : Room := { frames := 0, cells := 0, slots := 0, locals := 0 }
def b_X0_wetWells_4 (w : zW) (b : Nat) (k4 : Int32 → Int32 → Option Int32) (v1 : Int32) (v2 : Int32) : Option Int32 :=
  if (w b 4) ≤ v2 then
    some v1
  else
  zg (zin v2 3) <|
  zjn1 (fun (v5 : Int32) =>
    zlet (v1 + v5) fun v6 =>
    zlet (v2 + (1 : Int32)) fun v7 =>
    k4 v6 v7)
  (fun (j27 : Int32 → Option Int32) =>
  if (w (b + 7) (zx v2)) = (0 : Int32) then
    j27 (0 : Int32)
  else
  j27 (1 : Int32))
def f_X0_wetWells (w : zW) (b : Nat) : Option Int32 :=
  zfix2 (b_X0_wetWells_4 w b) 100000 (0 : Int32) (0 : Int32)
set_option maxRecDepth 100000 in
set_option maxHeartbeats 4000000 in
theorem c_X0_wetWells (l : Launch) (G : zG) (w : zW) (b : Nat) (hb : zcamp b) {r : Int32} (hf : f_X0_wetWells w b = some r) : zMet l G yX0_wetWells cX0_wetWells 3 (some .int) rm_X0_wetWells [.ref (zad G b)] w (some (.int r)) w := by
  refine z_start (own := RX0) (by decide) rfl (Nat.le_of_ble_eq_true rfl) (lv := [(0, .ref (zad G b))]) rfl ?_
  intro p e s m args below meth c hC
  unfold f_X0_wetWells at hf
  refine z_iconst hC dX0_wetWells_0 (v := 0) rfl ?_
  refine z_istore_n (lv' := [(1, .int (0 : Int32)), (0, .ref (zad G b))]) hC dX0_wetWells_1 rfl (by decide) rfl ?_
  refine z_iconst hC dX0_wetWells_2 (v := 0) rfl ?_
  refine z_istore_n (lv' := [(2, .int (0 : Int32)), (1, .int (0 : Int32)), (0, .ref (zad G b))]) hC dX0_wetWells_3 rfl (by decide) rfl ?_
  have hL4 : ∀ (n : Nat) (v1 : Int32) (v2 : Int32), zfix2 (b_X0_wetWells_4 w b) n v1 v2 = some r → Z G p l e rm_X0_wetWells s m args below meth c (MQ below (zQ G (some (.int r)) w) args s 0 0 (zA G)) 3 4 [(0, .ref (zad G b)), (1, .int v1), (2, .int v2)] [] w := by
    intro n
    induction n with
    | zero => intro v1 v2 hf; exact (zfix2_0 hf).elim
    | succ n ih4 =>
      intro v1 v2 hf
      replace hf := zfix2_e hf
      unfold b_X0_wetWells_4 at hf
      refine z_iload_n hC dX0_wetWells_4 2 rfl rfl ?_
      refine z_aload_n hC dX0_wetWells_5 0 rfl rfl ?_
      refine z_get0 hC hb 4 (by decide) zw_fl_X0_25 (v := .int (w b 4)) rfl dX0_wetWells_6 ?_
      refine z_icmp_ge (tgt := 35) hC dX0_wetWells_9 (by decide) (fun h3 => ?_) (fun h3 => ?_)
      · replace hf := zif_t h3 hf
        refine z_iload_n hC dX0_wetWells_35 1 rfl rfl ?_
        obtain rfl := zso1 hf
        exact z_iret hC dX0_wetWells_36
      replace hf := zif_f h3 hf
      refine z_iload_n hC dX0_wetWells_12 1 rfl rfl ?_
      refine z_aload_n hC dX0_wetWells_13 0 rfl rfl ?_
      refine z_get0 hC hb 8 (by decide) zw_fl_X0_37 (v := .ref (zad G (b + 7))) rfl dX0_wetWells_14 ?_
      refine z_iload_n hC dX0_wetWells_17 2 rfl rfl ?_
      obtain ⟨hg4, hf⟩ := zg_e hf
      refine z_zald hC (za_c7 hb) hg4 rfl dX0_wetWells_18 ?_
      obtain ⟨j27, hj27, hf⟩ := zjn1_e hf
      have hJ27 : ∀ (v5 : Int32), j27 v5 = some r → Z G p l e rm_X0_wetWells s m args below meth c (MQ below (zQ G (some (.int r)) w) args s 0 0 (zA G)) 3 27 [(0, .ref (zad G b)), (2, .int v2)] [.int v5, .int v1] w := by
        intro v5 hf
        replace hf := hj27 v5 hf
        refine z_iadd hC dX0_wetWells_27 ?_
        obtain ⟨v6, ev6, hf⟩ := zlet_e hf
        refine z_topi ev6 ?_
        refine z_istore_n (lv' := [(1, .int v6), (0, .ref (zad G b)), (2, .int v2)]) hC dX0_wetWells_28 rfl (by decide) rfl ?_
        obtain ⟨v7, ev7, hf⟩ := zlet_e hf
        refine z_iinc (v := v7) (lv' := [(2, .int v7), (1, .int v6), (0, .ref (zad G b))]) hC dX0_wetWells_29 2 rfl (by rw [ev7]; rfl) (by decide) rfl ?_
        refine z_goto (tgt := 4) hC dX0_wetWells_32 (by decide) ?_
        refine z_lv [2, 1, 0] rfl ?_
        exact ih4 _ _ hf
      refine z_if_eq (tgt := 26) hC dX0_wetWells_19 (by decide) (fun h8 => ?_) (fun h8 => ?_)
      · replace hf := zif_t h8 hf
        refine z_iconst hC dX0_wetWells_26 (v := 0) rfl ?_
        refine z_lv [0, 2] rfl ?_
        exact hJ27 _ hf
      replace hf := zif_f h8 hf
      refine z_iconst hC dX0_wetWells_22 (v := 1) rfl ?_
      refine z_goto (tgt := 27) hC dX0_wetWells_23 (by decide) ?_
      refine z_lv [0, 2] rfl ?_
      exact hJ27 _ hf
  refine z_lv [2, 1, 0] rfl ?_
  exact hL4 _ _ _ hf
theorem zy_X0_wetWells : zYV yX0_wetWells cX0_wetWells 3 (some .int) RX0 0 := ⟨zw_cd_X0_wetWells, zw_im_X0_wetWells, zw_sel_X0_wetWells, zw_ini_X0, by decide +kernel⟩
