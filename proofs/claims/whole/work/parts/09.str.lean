/-! String.length() and charAt() over the reader's constants -/
section ZSTR
variable {G : zG} {p : Program} {l : Launch} {e : Env} {R : Room} {s : State} {m : MethodId} {args : Array Value} {below : List Frame} {meth : Method} {c : Code} {Q : State → Prop} {own : String} {cc : ByteArray} {nL : Nat} {ret : Option FieldType} {pc : Nat} {lv : List (Nat × Value)} {st : List Value} {w : zW}
theorem z_gets (C : zC G own cc nL ret p s m args meth c) {Cn n d : String} {v : Value} {index : Nat} (hZ : va_Z Cn n d v (zA G) s s.heap) (hl : Cond.fieldLink own index Cn n d ∈ zGW) (hd : decode cc pc = .ok (.getstatic index, 3)) (kk : Z G p l e R s m args below meth c Q nL (pc + 3) lv (v :: st) w) : Z G p l e R s m args below meth c Q nL pc lv st w := fun H locs ls hP hS hl9 => va_gets C.1 C.2.1 hZ hS C.2.2.2.1 (C.2.2.2.2.1 _ hl) (fun _ h => h) hd (kk H locs ls hP hS hl9)
theorem z_sget (C : zC G own cc nL ret p s m args meth c) {o n d : String} {v : Value} {index q : Nat} (hE : va_OF o n d v q (zA G) s s.heap) (hl : Cond.fieldLink own index o n d ∈ zGW) (hd : decode cc pc = .ok (.getfield index, 3)) (kk : Z G p l e R s m args below meth c Q nL (pc + 3) lv (v :: st) w) : Z G p l e R s m args below meth c Q nL pc lv (.ref q :: st) w := fun H locs ls hP hS hl9 => vk_getf C.1 C.2.1 hE hS C.2.2.2.1 (C.2.2.2.2.1 _ hl) (fun _ h => h) hd (kk H locs ls hP hS hl9)
theorem z_slen (C : zC G own cc nL ret p s m args meth c) {ty : FieldType} {t N : Nat} {f : Nat → Value} {v : Int32} (hT : va_T ty t N f (zA G) s s.heap) (hv : Int32.ofNat N = v) (hd : decode cc pc = .ok (.arraylength, 1)) (kk : Z G p l e R s m args below meth c Q nL (pc + 1) lv (.int v :: st) w) : Z G p l e R s m args below meth c Q nL pc lv (.ref t :: st) w := fun H locs ls hP hS hl9 => va_tlen C.1 C.2.1 hT hS hv hd (kk H locs ls hP hS hl9)
theorem z_sald (C : zC G own cc nL ret p s m args meth c) {t N : Nat} {f : Nat → Value} {i : Int32} {v : Value} (hT : va_T .byte t N f (zA G) s s.heap) (hi : zin i N = true) (hv : f (zx i) = v) (hd : decode cc pc = .ok (.baload, 1)) (kk : Z G p l e R s m args below meth c Q nL (pc + 1) lv (v :: st) w) : Z G p l e R s m args below meth c Q nL pc lv (.int i :: .ref t :: st) w := fun H locs ls hP hS hl9 => va_tb C.1 C.2.1 hT hS (zin_vp hi) hv hd (kk H locs ls hP hS hl9)
theorem z_pr (kk : ∀ r : Option Nat, Z G p l e R s m args below meth c Q nL pc lv (va_rf r :: st) w) {v : Value} (h : v = .null ∨ ∃ t, v = .ref t) : Z G p l e R s m args below meth c Q nL pc lv (v :: st) w := by
  rcases h with rfl | ⟨t, rfl⟩
  · exact kk none
  · exact kk (some t)
end ZSTR
theorem zs_at {G : zG} {s : State} (h : zK G s) {i : Nat} (hi : i < 17) : va_O "java/lang/String" (zaK G i) (zA G) s s.heap ∧ va_OF "java/lang/String" "coder" "B" (.int 0) (zaK G i) (zA G) s s.heap ∧ va_OF "java/lang/String" "value" "[B" (.ref (zaV G i)) (zaK G i) (zA G) s s.heap ∧ va_T .byte (zaV G i) (zsl.getD i 0) (fun j => .int ((zsb.getD i []).getD j 0)) (zA G) s s.heap := h.2.2.1.1.1 i hi
abbrev rm_J0 : Room := { frames := 0, cells := 0, slots := 0, locals := 0 }
theorem c_J0_coder (l : Launch) (G : zG) (w : zW) (i : Nat) (hi : i < 17) : zMet l G yJ0_coder_7d493 cJ0_coder_7d493 1 (some .byte) rm_J0 [.ref (zaK G i)] w (some (.int 0)) w := by
  refine z_start (own := RJ0) (by decide) rfl (Nat.le_of_ble_eq_true rfl) (lv := [(0, .ref (zaK G i))]) rfl ?_
  intro p e s m args below meth c hC
  have hs := zs_at hC.2.2.2.2.2.1 hi
  refine z_gets hC hC.2.2.2.2.2.1.2.2.1.2.2.1 zw_fl_J0_38 dJ0_coder_7d493_0 ?_
  refine z_if_eq (tgt := 13) hC dJ0_coder_7d493_3 (by decide) (fun h1 => absurd h1 (by decide)) (fun _ => ?_)
  refine z_aload_n hC dJ0_coder_7d493_6 0 rfl rfl ?_
  refine z_sget hC hs.2.1 zw_fl_J0_15 dJ0_coder_7d493_7 ?_
  refine z_goto (tgt := 14) hC dJ0_coder_7d493_10 (by decide) ?_
  exact z_zret hC rfl dJ0_coder_7d493_14
theorem zy_J0_coder : zYV yJ0_coder_7d493 cJ0_coder_7d493 1 (some .byte) "java/lang/String" 0 := ⟨zw_cd_J0_coder_7d493, zw_im_J0_coder_7d493, zw_sel_J0_coder_7d493, zw_ini_J0, by decide +kernel⟩
theorem c_J0_isLatin1 (l : Launch) (G : zG) (w : zW) (i : Nat) (hi : i < 17) : zMet l G yJ0_isLatin1_aae02 cJ0_isLatin1_aae02 1 (some .boolean) rm_J0 [.ref (zaK G i)] w (some (.int 1)) w := by
  refine z_start (own := RJ0) (by decide) rfl (Nat.le_of_ble_eq_true rfl) (lv := [(0, .ref (zaK G i))]) rfl ?_
  intro p e s m args below meth c hC
  have hs := zs_at hC.2.2.2.2.2.1 hi
  refine z_gets hC hC.2.2.2.2.2.1.2.2.1.2.2.1 zw_fl_J0_38 dJ0_isLatin1_aae02_0 ?_
  refine z_if_eq (tgt := 17) hC dJ0_isLatin1_aae02_3 (by decide) (fun h1 => absurd h1 (by decide)) (fun _ => ?_)
  refine z_aload_n hC dJ0_isLatin1_aae02_6 0 rfl rfl ?_
  refine z_sget hC hs.2.1 zw_fl_J0_15 dJ0_isLatin1_aae02_7 ?_
  refine z_if_ne (tgt := 17) hC dJ0_isLatin1_aae02_10 (by decide) (fun h1 => absurd rfl h1) (fun _ => ?_)
  refine z_iconst hC dJ0_isLatin1_aae02_13 (v := 1) rfl ?_
  refine z_goto (tgt := 18) hC dJ0_isLatin1_aae02_14 (by decide) ?_
  exact z_zret hC rfl dJ0_isLatin1_aae02_18
theorem zy_J0_isLatin1 : zYV yJ0_isLatin1_aae02 cJ0_isLatin1_aae02 1 (some .boolean) "java/lang/String" 0 := ⟨zw_cd_J0_isLatin1_aae02, zw_im_J0_isLatin1_aae02, zw_sel_J0_isLatin1_aae02, zw_ini_J0, by decide +kernel⟩
def f_J0_length_8abf5 (i : Nat) : Int32 := nI (zsl.getD i 0)
theorem zs_shr : ∀ i, i < 17 → (Int32.ofNat (zsl.getD i 0)) >>> ((0 : Int32) &&& 31) = f_J0_length_8abf5 i := by decide +kernel
abbrev rm_J0_length_8abf5 : Room := { frames := 1, cells := 0, slots := 0, locals := 20 }
theorem c_J0_length_8abf5 (l : Launch) (G : zG) (w : zW) (i : Nat) (hi : i < 17) : zMet l G yJ0_length_8abf5 cJ0_length_8abf5 1 (some .int) rm_J0_length_8abf5 [.ref (zaK G i)] w (some (.int (f_J0_length_8abf5 i))) w := by
  refine z_start (own := RJ0) (by decide) rfl (Nat.le_of_ble_eq_true rfl) (lv := [(0, .ref (zaK G i))]) rfl ?_
  intro p e s m args below meth c hC
  have hs := zs_at hC.2.2.2.2.2.1 hi
  refine z_aload_n hC dJ0_length_8abf5_0 0 rfl rfl ?_
  refine z_sget hC hs.2.2.1 zw_fl_J0_9 dJ0_length_8abf5_1 ?_
  refine z_slen hC hs.2.2.2 rfl dJ0_length_8abf5_4 ?_
  refine z_aload_n hC dJ0_length_8abf5_5 0 rfl rfl ?_
  refine z_cki (As := []) (rest := [.int (Int32.ofNat (zsl.getD i 0))]) hC hi (c_J0_coder l G w i hi) zw_ml_J0_335 zy_J0_coder ⟨rfl, rfl, Nat.le_of_ble_eq_true rfl, Nat.le_of_ble_eq_true rfl⟩ rfl rfl (Nat.le_of_ble_eq_true rfl) dJ0_length_8abf5_6 ?_
  refine z_ishr hC dJ0_length_8abf5_9 ?_
  rw [← zs_shr i hi]
  exact z_iret hC dJ0_length_8abf5_10
theorem zy_J0_length_8abf5 : zYV yJ0_length_8abf5 cJ0_length_8abf5 1 (some .int) "java/lang/String" 0 := ⟨zw_cd_J0_length_8abf5, zw_im_J0_length_8abf5, zw_sel_J0_length_8abf5, zw_ini_J0, by decide +kernel⟩
theorem c_J3_checkIndex (l : Launch) (G : zG) (w : zW) (a0 a1 : Int32) (r : Option Nat) (h0 : ¬ a0 < 0) (h1 : a0 < a1) : zMet l G yJ3_checkIndex_8e157 cJ3_checkIndex_8e157 3 (some .int) rm_J0 [.int a0, .int a1, va_rf r] w (some (.int a0)) w := by
  cases r <;>
  · refine z_start (own := RJ3) (by decide) rfl (Nat.le_of_ble_eq_true rfl) rfl ?_
    intro p e s m args below meth c hC
    refine z_iload_n hC dJ3_checkIndex_8e157_0 0 rfl rfl ?_
    refine z_if_lt (tgt := 9) hC dJ3_checkIndex_8e157_1 (by decide) (fun h => absurd h h0) (fun _ => ?_)
    refine z_iload_n hC dJ3_checkIndex_8e157_4 0 rfl rfl ?_
    refine z_iload_n hC dJ3_checkIndex_8e157_5 1 rfl rfl ?_
    refine z_icmp_lt (tgt := 16) hC dJ3_checkIndex_8e157_6 (by decide) (fun _ => ?_) (fun h => absurd h1 h)
    refine z_iload_n hC dJ3_checkIndex_8e157_16 0 rfl rfl ?_
    exact z_iret hC dJ3_checkIndex_8e157_17
theorem zy_J3_checkIndex : zYS yJ3_checkIndex_8e157 cJ3_checkIndex_8e157 3 (some .int) 3 := ⟨zw_cd_J3_checkIndex_8e157, zw_st_J3_checkIndex_8e157, zw_ini_J3, by decide +kernel⟩
abbrev rm_J0_checkIndex : Room := { frames := 1, cells := 0, slots := 0, locals := 22 }
theorem c_J0_checkIndex (l : Launch) (G : zG) (w : zW) (a0 a1 : Int32) (h0 : ¬ a0 < 0) (h1 : a0 < a1) : zMet l G yJ0_checkIndex_df160 cJ0_checkIndex_df160 2 none rm_J0_checkIndex [.int a0, .int a1] w none w := by
  refine z_start (own := RJ0) (by decide) rfl (Nat.le_of_ble_eq_true rfl) (lv := [(0, .int a0), (1, .int a1)]) rfl ?_
  intro p e s m args below meth c hC
  refine z_iload_n hC dJ0_checkIndex_df160_0 0 rfl rfl ?_
  refine z_iload_n hC dJ0_checkIndex_df160_1 1 rfl rfl ?_
  obtain ⟨r, hZ⟩ : ∃ r : Option Nat, va_Z "jdk/internal/util/Preconditions" "SIOOBE_FORMATTER" "Ljava/util/function/BiFunction;" (va_rf r) (zA G) s s.heap := by
    rcases hC.2.2.2.2.2.1.2.2.1.2.2.2 with h | ⟨t, h⟩
    · exact ⟨none, h⟩
    · exact ⟨some t, h⟩
  refine z_gets hC hZ zw_fl_J0_1053 dJ0_checkIndex_df160_2 ?_
  refine z_csi (As := [.int a0, .int a1, va_rf r]) (rest := []) hC (c_J3_checkIndex l G w a0 a1 r h0 h1) zw_ml_J0_1059 zy_J3_checkIndex ⟨rfl, rfl, Nat.le_of_ble_eq_true rfl, Nat.le_of_ble_eq_true rfl⟩ rfl rfl (Nat.le_of_ble_eq_true rfl) dJ0_checkIndex_df160_5 ?_
  refine z_pop hC dJ0_checkIndex_df160_8 rfl ?_
  exact z_vret hC dJ0_checkIndex_df160_9
theorem zy_J0_checkIndex : zYS yJ0_checkIndex_df160 cJ0_checkIndex_df160 2 none 2 := ⟨zw_cd_J0_checkIndex_df160, zw_st_J0_checkIndex_df160, zw_ini_J0, by decide +kernel⟩
/-- the char at k of constant i -/
def zsch (i k : Nat) : Int32 := (((zsb.getD i []).getD k 0 &&& 255).toUInt32 % 65536).toInt32
abbrev rm_J1_charAt : Room := { frames := 2, cells := 0, slots := 0, locals := 43 }
theorem zs_lt31 : ∀ i, i < 17 → zsl.getD i 0 < 100 := by decide
theorem zin_ltI {a : Int32} {n : Nat} (h : zin a n = true) (hn : n < 2 ^ 31) : ¬ a < 0 ∧ a < Int32.ofNat n := by
  have h0 : ¬ a < 0 := by
    simp only [zin, Bool.and_eq_true, Bool.not_eq_true', decide_eq_false_iff_not] at h
    exact h.1
  obtain ⟨k, hk, rfl⟩ := nI_of h0
  have h1 := zin_lt h
  rw [show zx (nI k) = k from nI_clamp hk] at h1
  exact ⟨h0, nI_lt h1 hn⟩
theorem c_J1_charAt (l : Launch) (G : zG) (w : zW) (i : Nat) (hi : i < 17) (a : Int32) (ha : zin a (zsl.getD i 0) = true) : zMet l G yJ1_charAt_3b067 cJ1_charAt_3b067 2 (some .char) rm_J1_charAt [.ref (zaV G i), .int a] w (some (.int (zsch i (zx a)))) w := by
  refine z_start (own := RJ1) (by decide) rfl (Nat.le_of_ble_eq_true rfl) (lv := [(0, .ref (zaV G i)), (1, .int a)]) rfl ?_
  intro p e s m args below meth c hC
  have hs := zs_at hC.2.2.2.2.2.1 hi
  have h31 := zs_lt31 i hi
  obtain ⟨h0, h1⟩ := zin_ltI ha (by omega)
  refine z_iload_n hC dJ1_charAt_3b067_0 1 rfl rfl ?_
  refine z_aload_n hC dJ1_charAt_3b067_1 0 rfl rfl ?_
  refine z_slen hC hs.2.2.2 rfl dJ1_charAt_3b067_2 ?_
  refine z_csv (As := [.int a, .int (Int32.ofNat (zsl.getD i 0))]) (rest := []) hC (c_J0_checkIndex l G w a _ h0 h1) zw_ml_J1_9 zy_J0_checkIndex ⟨rfl, rfl, Nat.le_of_ble_eq_true rfl, Nat.le_of_ble_eq_true rfl⟩ rfl rfl (Nat.le_of_ble_eq_true rfl) dJ1_charAt_3b067_3 ?_
  refine z_aload_n hC dJ1_charAt_3b067_6 0 rfl rfl ?_
  refine z_iload_n hC dJ1_charAt_3b067_7 1 rfl rfl ?_
  refine z_sald hC hs.2.2.2 ha rfl dJ1_charAt_3b067_8 ?_
  refine z_sipush hC dJ1_charAt_3b067_9 (v := 255) rfl ?_
  refine z_iand hC dJ1_charAt_3b067_12 ?_
  refine z_i2c hC dJ1_charAt_3b067_13 ?_
  exact z_zret hC (pk_nc _) dJ1_charAt_3b067_14
theorem zy_J1_charAt : zYS yJ1_charAt_3b067 cJ1_charAt_3b067 2 (some .char) 2 := ⟨zw_cd_J1_charAt_3b067, zw_st_J1_charAt_3b067, zw_ini_J1, by decide +kernel⟩
def f_J0_charAt_5068e (i : Nat) (a : Int32) : Option Int32 := zg (zin a (zsl.getD i 0)) (some (zsch i (zx a)))
abbrev rm_J0_charAt_5068e : Room := { frames := 3, cells := 0, slots := 0, locals := 64 }
theorem c_J0_charAt_5068e (l : Launch) (G : zG) (w : zW) (i : Nat) (hi : i < 17) (a : Int32) {r : Int32} (hf : f_J0_charAt_5068e i a = some r) : zMet l G yJ0_charAt_5068e cJ0_charAt_5068e 2 (some .char) rm_J0_charAt_5068e [.ref (zaK G i), .int a] w (some (.int r)) w := by
  obtain ⟨ha, hf⟩ := zg_e hf
  obtain rfl := zso1 hf
  refine z_start (own := RJ0) (by decide) rfl (Nat.le_of_ble_eq_true rfl) (lv := [(0, .ref (zaK G i)), (1, .int a)]) rfl ?_
  intro p e s m args below meth c hC
  have hs := zs_at hC.2.2.2.2.2.1 hi
  refine z_aload_n hC dJ0_charAt_5068e_0 0 rfl rfl ?_
  refine z_cki (As := []) (rest := []) hC hi (c_J0_isLatin1 l G w i hi) zw_ml_J0_492 zy_J0_isLatin1 ⟨rfl, rfl, Nat.le_of_ble_eq_true rfl, Nat.le_of_ble_eq_true rfl⟩ rfl rfl (Nat.le_of_ble_eq_true rfl) dJ0_charAt_5068e_1 ?_
  refine z_if_eq (tgt := 16) hC dJ0_charAt_5068e_4 (by decide) (fun h1 => absurd h1 (by decide)) (fun _ => ?_)
  refine z_aload_n hC dJ0_charAt_5068e_7 0 rfl rfl ?_
  refine z_sget hC hs.2.2.1 zw_fl_J0_9 dJ0_charAt_5068e_8 ?_
  refine z_iload_n hC dJ0_charAt_5068e_11 1 rfl rfl ?_
  refine z_csi (As := [.ref (zaV G i), .int a]) (rest := []) hC (c_J1_charAt l G w i hi a ha) zw_ml_J0_495 zy_J1_charAt ⟨rfl, rfl, Nat.le_of_ble_eq_true rfl, Nat.le_of_ble_eq_true rfl⟩ rfl rfl (Nat.le_of_ble_eq_true rfl) dJ0_charAt_5068e_12 ?_
  exact z_zret hC (pk_nc _) dJ0_charAt_5068e_15
theorem zy_J0_charAt_5068e : zYV yJ0_charAt_5068e cJ0_charAt_5068e 2 (some .char) "java/lang/String" 1 := ⟨zw_cd_J0_charAt_5068e, zw_im_J0_charAt_5068e, zw_sel_J0_charAt_5068e, zw_ini_J0, by decide +kernel⟩
