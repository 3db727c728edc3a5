/-! THE WORLD: after the two constructors 71 cells stand, at addresses 'zad G k', and nothing is made any more. References never change; all else is ints: w k j is what cell k has at slot (or place) j. -/
abbrev zW : Type := Nat → Nat → Int32
def zup (w : zW) (k j : Nat) (x : Int32) : zW := fun k' => if k' = k then upd (w k) j x else w k'
theorem zup_s (w : zW) (k j : Nat) (x : Int32) : zup w k j x k = upd (w k) j x := by simp [zup]
theorem zup_n (w : zW) {k k' : Nat} (j : Nat) (x : Int32) (h : k' ≠ k) : zup w k j x k' = w k' := by simp [zup, h]
/-- classes and slots, array classes, addresses; the String constants: their objects, their bytes -/
abbrev zG : Type := va_G × (Nat → ClassId) × (Nat → Nat) × (Nat → Nat) × (Nat → Nat)
abbrev zcy (G : zG) (t : Nat) : ClassId := G.2.1 t
abbrev zad (G : zG) (k : Nat) : Nat := G.2.2.1 k
abbrev zaK (G : zG) (k : Nat) : Nat := G.2.2.2.1 k
abbrev zaV (G : zG) (k : Nat) : Nat := G.2.2.2.2 k
def zF_camp (b : Nat) (G : zG) (r : Nat → Int32) : List Value := [.int (r 0), .ref (zad G (b + 1)), .ref (zad G (b + 2)), .ref (zad G (b + 3)), .int (r 4), .ref (zad G (b + 4)), .ref (zad G (b + 5)), .ref (zad G (b + 6)), .ref (zad G (b + 7)), .int (r 9), .int (r 10), .int (r 11), .int (r 12), .int (r 13), .int (r 14), .int (r 15)]
def zF_sheet (b : Nat) (G : zG) (r : Nat → Int32) : List Value := [.ref (zad G (b + 1)), .int (r 1), .int (r 2)]
def zF_reader (G : zG) (r : Nat → Int32) : List Value := [.ref (zad G 1), .ref (zad G 10), .int (r 2), .int (r 3), .int (r 4), .int (r 5), .int (r 6), .int (r 7), .int (r 8), .int (r 9), .int (r 10), .int (r 11)]
def zF_bot (G : zG) (r : Nat → Int32) : List Value := [.ref (zad G 1), .int (r 1), .int (r 2), .ref (zad G 2), .ref (zad G 10), .ref (zad G 18), .ref (zad G 42), .ref (zad G 43), .ref (zad G 44), .ref (zad G 45), .ref (zad G 46), .int (r 11), .ref (zad G 47), .int (r 13)]
def zF_mod (G : zG) (r : Nat → Int32) : List Value := [.ref (zad G 57), .ref (zad G 58), .int (r 2), .ref (zad G 59), .int (r 4), .int (r 5), .int (r 6), .int (r 7), .ref (zad G 60), .ref (zad G 61), .ref (zad G 62), .int (r 11), .int (r 12), .int (r 13), .int (r 14), .int (r 15), .int (r 16), .ref (zad G 63), .int (r 18), .int (r 19), .int (r 20), .int (r 21), .int (r 22), .int (r 23), .int (r 24), .int (r 25), .ref (zad G 64), .ref (zad G 65), .int (r 28), .ref (zad G 66), .int (r 30), .ref (zad G 67), .ref (zad G 68), .ref (zad G 69), .ref (zad G 70), .int (r 35)]
/-- what a cell is: an object (class, fields), or an array (kind, length) -/
def z_el (G : zG) (r : Nat → Int32) : Nat → va_E
  | 0 => .inr (3, zF_bot G r)
  | 1 => .inl (zcy G 2, 160, .inl r)
  | 2 => .inr (0, zF_camp 2 G r)
  | 3 => .inl (zcy G 0, 4, .inl r)
  | 4 => .inl (zcy G 0, 4, .inl r)
  | 5 => .inl (zcy G 0, 4, .inl r)
  | 6 => .inl (zcy G 0, 3, .inl r)
  | 7 => .inl (zcy G 0, 3, .inl r)
  | 8 => .inl (zcy G 0, 3, .inl r)
  | 9 => .inl (zcy G 1, 3, .inl r)
  | 10 => .inr (0, zF_camp 10 G r)
  | 11 => .inl (zcy G 0, 4, .inl r)
  | 12 => .inl (zcy G 0, 4, .inl r)
  | 13 => .inl (zcy G 0, 4, .inl r)
  | 14 => .inl (zcy G 0, 3, .inl r)
  | 15 => .inl (zcy G 0, 3, .inl r)
  | 16 => .inl (zcy G 0, 3, .inl r)
  | 17 => .inl (zcy G 1, 3, .inl r)
  | 18 => .inr (0, zF_camp 18 G r)
  | 19 => .inl (zcy G 0, 4, .inl r)
  | 20 => .inl (zcy G 0, 4, .inl r)
  | 21 => .inl (zcy G 0, 4, .inl r)
  | 22 => .inl (zcy G 0, 3, .inl r)
  | 23 => .inl (zcy G 0, 3, .inl r)
  | 24 => .inl (zcy G 0, 3, .inl r)
  | 25 => .inl (zcy G 1, 3, .inl r)
  | 26 => .inr (0, zF_camp 26 G r)
  | 27 => .inl (zcy G 0, 4, .inl r)
  | 28 => .inl (zcy G 0, 4, .inl r)
  | 29 => .inl (zcy G 0, 4, .inl r)
  | 30 => .inl (zcy G 0, 3, .inl r)
  | 31 => .inl (zcy G 0, 3, .inl r)
  | 32 => .inl (zcy G 0, 3, .inl r)
  | 33 => .inl (zcy G 1, 3, .inl r)
  | 34 => .inr (0, zF_camp 34 G r)
  | 35 => .inl (zcy G 0, 4, .inl r)
  | 36 => .inl (zcy G 0, 4, .inl r)
  | 37 => .inl (zcy G 0, 4, .inl r)
  | 38 => .inl (zcy G 0, 3, .inl r)
  | 39 => .inl (zcy G 0, 3, .inl r)
  | 40 => .inl (zcy G 0, 3, .inl r)
  | 41 => .inl (zcy G 1, 3, .inl r)
  | 42 => .inr (2, zF_reader G r)
  | 43 => .inl (zcy G 3, 2, .inr (.inr (.inr (.inr (fun i => some (zad G (26 + 8 * i)))))))
  | 44 => .inl (zcy G 1, 2, .inl r)
  | 45 => .inl (zcy G 0, 6, .inl r)
  | 46 => .inl (zcy G 0, 6, .inl r)
  | 47 => .inl (zcy G 4, 4, .inr (.inr (.inr (.inr (fun i => some (zad G (48 + 2 * i)))))))
  | 48 => .inr (1, zF_sheet 48 G r)
  | 49 => .inl (zcy G 0, 40, .inl r)
  | 50 => .inr (1, zF_sheet 50 G r)
  | 51 => .inl (zcy G 0, 40, .inl r)
  | 52 => .inr (1, zF_sheet 52 G r)
  | 53 => .inl (zcy G 0, 40, .inl r)
  | 54 => .inr (1, zF_sheet 54 G r)
  | 55 => .inl (zcy G 0, 40, .inl r)
  | 56 => .inr (4, zF_mod G r)
  | 57 => .inl (zcy G 0, 120, .inl r)
  | 58 => .inl (zcy G 0, 4, .inl r)
  | 59 => .inl (zcy G 0, 6, .inl r)
  | 60 => .inl (zcy G 0, 20, .inl r)
  | 61 => .inl (zcy G 0, 4, .inl r)
  | 62 => .inl (zcy G 0, 6, .inl r)
  | 63 => .inl (zcy G 0, 160, .inl r)
  | 64 => .inl (zcy G 0, 18, .inl r)
  | 65 => .inl (zcy G 0, 74, .inl r)
  | 66 => .inl (zcy G 0, 12, .inl r)
  | 67 => .inl (zcy G 1, 2, .inl r)
  | 68 => .inl (zcy G 0, 4, .inl r)
  | 69 => .inl (zcy G 0, 4, .inl r)
  | _ => .inl (zcy G 0, 160, .inl r)
def z_ws (G : zG) (w : zW) : va_W := (List.range 71).map (fun k => (zad G k, z_el G (w k) k))
theorem z_ws_get {G : zG} {w : zW} {k : Nat} (hk : k < 71) : (z_ws G w)[k]? = some (zad G k, z_el G (w k) k) := by simp [z_ws, hk]
theorem z_ws_up {G : zG} {w : zW} {k j : Nat} {x : Int32} {e : va_E} (he : z_el G (upd (w k) j x) k = e) : (z_ws G w).set k (zad G k, e) = z_ws G (zup w k j x) := by
  apply List.ext_getElem?
  intro i
  by_cases hi : i < 71
  · rw [z_ws_get hi]
    by_cases hik : i = k
    · subst hik
      rw [List.getElem?_set_self (by simp [z_ws, hi]), zup_s, he]
    · rw [List.getElem?_set_ne (fun h => hik h.symm), z_ws_get hi, zup_n _ _ _ hik]
  · rw [List.getElem?_eq_none (by simp [z_ws]; omega), List.getElem?_eq_none (by simp [z_ws]; omega)]
def ztys (G : zG) : List (ClassId × FieldType) := [(zcy G 0, .int), (zcy G 1, .boolean), (zcy G 2, .byte), (zcy G 3, .object "BottleFour$Camp"), (zcy G 4, .object "BottleFour$Sheet")]
/-- an array of ints, booleans, bytes (t 0, 1, 2) of n places -/
def zarr (t k n : Nat) : Prop := k < 71 ∧ ∀ (G : zG) (r : Nat → Int32), z_el G r k = .inl (zcy G t, n, .inl r)
def zobj (ci k : Nat) (F : zG → (Nat → Int32) → List Value) : Prop := k < 71 ∧ ∀ (G : zG) (r : Nat → Int32), z_el G r k = .inr (ci, F G r)
def zcamp (b : Nat) : Prop := b = 2 ∨ b = 10 ∨ b = 18 ∨ b = 26 ∨ b = 34
def zshee (b : Nat) : Prop := b = 48 ∨ b = 50 ∨ b = 52 ∨ b = 54
theorem zo_camp {b : Nat} (h : zcamp b) : zobj 0 b (zF_camp b) := by rcases h with rfl | rfl | rfl | rfl | rfl <;> exact ⟨by decide, fun _ _ => rfl⟩
theorem zo_shee {b : Nat} (h : zshee b) : zobj 1 b (zF_sheet b) := by rcases h with rfl | rfl | rfl | rfl <;> exact ⟨by decide, fun _ _ => rfl⟩
theorem zo_read : zobj 2 42 zF_reader := ⟨by decide, fun _ _ => rfl⟩
theorem zo_bot : zobj 3 0 zF_bot := ⟨by decide, fun _ _ => rfl⟩
theorem zo_mod : zobj 4 56 zF_mod := ⟨by decide, fun _ _ => rfl⟩
theorem za_c1 {b : Nat} (h : zcamp b) : zarr 0 (b + 1) 4 := by rcases h with rfl | rfl | rfl | rfl | rfl <;> exact ⟨by decide, fun _ _ => rfl⟩
theorem za_c2 {b : Nat} (h : zcamp b) : zarr 0 (b + 2) 4 := by rcases h with rfl | rfl | rfl | rfl | rfl <;> exact ⟨by decide, fun _ _ => rfl⟩
theorem za_c3 {b : Nat} (h : zcamp b) : zarr 0 (b + 3) 4 := by rcases h with rfl | rfl | rfl | rfl | rfl <;> exact ⟨by decide, fun _ _ => rfl⟩
theorem za_c4 {b : Nat} (h : zcamp b) : zarr 0 (b + 4) 3 := by rcases h with rfl | rfl | rfl | rfl | rfl <;> exact ⟨by decide, fun _ _ => rfl⟩
theorem za_c5 {b : Nat} (h : zcamp b) : zarr 0 (b + 5) 3 := by rcases h with rfl | rfl | rfl | rfl | rfl <;> exact ⟨by decide, fun _ _ => rfl⟩
theorem za_c6 {b : Nat} (h : zcamp b) : zarr 0 (b + 6) 3 := by rcases h with rfl | rfl | rfl | rfl | rfl <;> exact ⟨by decide, fun _ _ => rfl⟩
theorem za_c7 {b : Nat} (h : zcamp b) : zarr 1 (b + 7) 3 := by rcases h with rfl | rfl | rfl | rfl | rfl <;> exact ⟨by decide, fun _ _ => rfl⟩
theorem za_s1 {b : Nat} (h : zshee b) : zarr 0 (b + 1) 40 := by rcases h with rfl | rfl | rfl | rfl <;> exact ⟨by decide, fun _ _ => rfl⟩
theorem za_1 : zarr 2 1 160 := ⟨by decide, fun _ _ => rfl⟩
theorem za_44 : zarr 1 44 2 := ⟨by decide, fun _ _ => rfl⟩
theorem za_45 : zarr 0 45 6 := ⟨by decide, fun _ _ => rfl⟩
theorem za_46 : zarr 0 46 6 := ⟨by decide, fun _ _ => rfl⟩
theorem za_57 : zarr 0 57 120 := ⟨by decide, fun _ _ => rfl⟩
theorem za_58 : zarr 0 58 4 := ⟨by decide, fun _ _ => rfl⟩
theorem za_59 : zarr 0 59 6 := ⟨by decide, fun _ _ => rfl⟩
theorem za_60 : zarr 0 60 20 := ⟨by decide, fun _ _ => rfl⟩
theorem za_61 : zarr 0 61 4 := ⟨by decide, fun _ _ => rfl⟩
theorem za_62 : zarr 0 62 6 := ⟨by decide, fun _ _ => rfl⟩
theorem za_63 : zarr 0 63 160 := ⟨by decide, fun _ _ => rfl⟩
theorem za_64 : zarr 0 64 18 := ⟨by decide, fun _ _ => rfl⟩
theorem za_65 : zarr 0 65 74 := ⟨by decide, fun _ _ => rfl⟩
theorem za_66 : zarr 0 66 12 := ⟨by decide, fun _ _ => rfl⟩
theorem za_67 : zarr 1 67 2 := ⟨by decide, fun _ _ => rfl⟩
theorem za_68 : zarr 0 68 4 := ⟨by decide, fun _ _ => rfl⟩
theorem za_69 : zarr 0 69 4 := ⟨by decide, fun _ _ => rfl⟩
theorem za_70 : zarr 0 70 160 := ⟨by decide, fun _ _ => rfl⟩
theorem zcamp2 : zcamp 2 := Or.inl rfl
theorem zcamp10 : zcamp 10 := Or.inr (Or.inl rfl)
theorem zcamp18 : zcamp 18 := Or.inr (Or.inr (Or.inl rfl))
/-- the place of an index -/
abbrev zx (i : Int32) : Nat := i.toNatClampNeg
def zin (i : Int32) (n : Nat) : Bool := !(decide (i < 0)) && decide (i.toNatClampNeg < n)
theorem zin_vp {i : Int32} {n : Nat} (h : zin i n = true) : vp_in i n := by
  simp only [zin, Bool.and_eq_true, Bool.not_eq_true', decide_eq_false_iff_not, decide_eq_true_eq] at h
  rintro (q | q)
  · exact h.1 q
  · omega
theorem zin_lt {i : Int32} {n : Nat} (h : zin i n = true) : zx i < n := by
  simp only [zin, Bool.and_eq_true, decide_eq_true_eq] at h
  exact h.2
theorem zin_nI {k n : Nat} (h : k < n) (hn : n < 2 ^ 31) : zin (nI k) n = true := by
  have h1 : ¬ nI k < 0 := nI_pos (by omega)
  have h2 : (nI k).toNatClampNeg = k := nI_clamp (by omega)
  simp [zin, h1, h2, h]
theorem zcampI {i : Int32} (h : zin i 2 = true) : zcamp (26 + 8 * zx i) := by
  have h1 := zin_lt h
  rcases (show zx i = 0 ∨ zx i = 1 by omega) with e | e <;> rw [e] <;> simp [zcamp]
theorem zsheeI {i : Int32} (h : zin i 4 = true) : zshee (48 + 2 * zx i) := by
  have h1 := zin_lt h
  rcases (show zx i = 0 ∨ zx i = 1 ∨ zx i = 2 ∨ zx i = 3 by omega) with e | e | e | e <;> rw [e] <;> simp [zshee]
/-- the String constants of the reader -/
def zsi : List Nat := [129, 135, 137, 139, 141, 143, 145, 147, 168, 170, 172, 174, 176, 199, 201, 203, 205]
def zst : List String := ["one", "well", "dry", "bottle", "goal", "plan", "dew", "found", "measured", "thirsty", "sly", "last", "giver", "night", "day", "all", "stay"]
def zsl : List Nat := [3, 4, 3, 6, 4, 4, 3, 5, 8, 7, 3, 4, 5, 5, 3, 3, 4]
def zsb : List (List Int32) := [[111, 110, 101], [119, 101, 108, 108], [100, 114, 121], [98, 111, 116, 116, 108, 101], [103, 111, 97, 108], [112, 108, 97, 110], [100, 101, 119], [102, 111, 117, 110, 100], [109, 101, 97, 115, 117, 114, 101, 100], [116, 104, 105, 114, 115, 116, 121], [115, 108, 121], [108, 97, 115, 116], [103, 105, 118, 101, 114], [110, 105, 103, 104, 116], [100, 97, 121], [97, 108, 108], [115, 116, 97, 121]]
def zA (G : zG) : Nat → Prop := fun q => ∃ k, k < 71 ∧ q = zad G k
def zNest (U : State) : Prop := va_Nw (.methodLinkNest RX2 86 yX3_within RX3) U ∧ va_Nw (.methodLinkNest RX0 80 yX3_within RX3) U ∧ va_Nw (.methodLinkNest RX1 26 yX3_within RX3) U
def zStr (G : zG) (U : State) : Prop := vk_S 17 zsl zsb G.2.2.2.1 G.2.2.2.2 (zA G) U U.heap ∧ (∀ i, i < 17 → vk_R RX2 (zsi.getD i 0) (zst.getD i "") (zaK G i) U) ∧ va_Z "java/lang/String" "COMPACT_STRINGS" "Z" (.int 1) (zA G) U U.heap ∧ va_Zq "jdk/internal/util/Preconditions" "SIOOBE_FORMATTER" "Ljava/util/function/BiFunction;" (zA G) U U.heap
def zapart (G : zG) : Prop := ∀ i j : Nat, i < 71 → j < 71 → zad G i = zad G j → i = j
def zK (G : zG) (U : State) : Prop := va_K G.1 vwCl (ztys G) U ∧ zNest U ∧ zStr G U ∧ zapart G
def zH (G : zG) (w : zW) (U : State) : Prop := va_P G.1 vwCl (z_ws G w) U.heap ∧ zK G U
theorem z_D {G : zG} (h : zapart G) (w : zW) : va_D (zA G) (z_ws G w) := by
  have key : ∀ (k : Nat) (q : Nat × va_E), (z_ws G w)[k]? = some q → k < 71 ∧ q.1 = zad G k := by
    intro k q hk
    have hl : k < 71 := by
      have := (List.getElem?_eq_some_iff.mp hk).1
      simpa [z_ws] using this
    rw [z_ws_get hl] at hk
    cases hk
    exact ⟨hl, rfl⟩
  refine ⟨fun i j a b hi hj hab => ?_, fun k q hk => ?_⟩
  · obtain ⟨h1, h2⟩ := key i a hi
    obtain ⟨h3, h4⟩ := key j b hj
    exact h i j h1 h3 (by rw [← h2, ← h4, hab])
  · obtain ⟨h1, h2⟩ := key k q hk
    exact ⟨k, h1, h2⟩
theorem zK_warm {G : zG} {s t : State} (h : zK G s) (hW : s.WarmedH t.vm) (hF : ∀ q : Nat, q < s.heap.size → ¬ zA G q → t.heap[q]? = s.heap[q]?) : zK G t := by
  obtain ⟨h1, ⟨n1, n2, n3⟩, ⟨s1, s2, s3, s4⟩, h4⟩ := h
  have hA := hW.alike
  exact ⟨va_K.moved hA h1, ⟨va_Nw.warmM hW n1, va_Nw.warmM hW n2, va_Nw.warmM hW n3⟩, ⟨(vk_S.moved hA s1).kept hF, fun i hi => vk_R.warm hW (s2 i hi), (va_Z.moved hA s3).kept hF, (va_Zq.moved hA s4).kept hF⟩, h4⟩
theorem zK_same {G : zG} {s t : State} (h : zK G s) (hv : t.vm = s.vm) (hh : t.heap = s.heap) : zK G t := by
  obtain ⟨h1, ⟨n1, n2, n3⟩, ⟨s1, s2, s3, s4⟩, h4⟩ := h
  have hA : s.vm.Alike t.vm := by rw [hv]; exact Vm.Alike.refl _
  refine ⟨va_K.moved hA h1, ⟨va_Nw.same rfl hv.symm n1, va_Nw.same rfl hv.symm n2, va_Nw.same rfl hv.symm n3⟩, ⟨?_, fun i hi => vk_R.same hv (s2 i hi), ?_, ?_⟩, h4⟩
  · rw [hh]; exact vk_S.moved hA s1
  · rw [hh]; exact va_Z.moved hA s3
  · rw [hh]; exact va_Zq.moved hA s4
theorem zH_blind {G : zG} {w : zW} {av : List Value} : FrameBlind (va_Pc av (zH G w)) := fun _ _ _ _ h => ⟨h.1, h.2.1, zK_same h.2.2 rfl rfl⟩
def zQ (G : zG) (o : Option Value) (w' : zW) : Array Value → State → Outcome → State → Prop := fun _ st oc t => oc = .returned o ∧ zH G w' t ∧ va_F (zA G) st t
/-- THE CONTRACT: from the world w the method, called with av, answers o and leaves the world w' -/
def zMet (l : Launch) (G : zG) (y : MethodName) (cc : ByteArray) (nL : Nat) (ret : Option FieldType) (rm : Room) (av : List Value) (w : zW) (o : Option Value) (w' : zW) : Prop := Met l y (Cond.code y cc nL ret :: zGW) rm (va_Pc av (zH G w)) (zQ G o w') 0 0 (zA G)
/-- what holds all along a method's body -/
def zC (G : zG) (own : String) (cc : ByteArray) (nL : Nat) (ret : Option FieldType) (p : Program) (s : State) (m : MethodId) (args : Array Value) (meth : Method) (c : Code) : Prop :=
  p.tables.exec = Jvm.exec ∧ c.code = cc ∧ c.maxLocals = nL ∧ s.vm.findClass own = some m.cls ∧ (∀ w ∈ zGW, w.before args s = true) ∧ zK G s ∧ meth.locks = false ∧ meth.sig.returnType = ret
/-- the machine at a place of a method's body, in the world w -/
def Z (G : zG) (p : Program) (l : Launch) (e : Env) (R : Room) (s : State) (m : MethodId) (args : Array Value) (below : List Frame) (meth : Method) (c : Code) (Q : State → Prop) (nL : Nat) (pc : Nat) (lv : List (Nat × Value)) (st : List Value) (w : zW) : Prop :=
  ∀ (H : Heap) (locs : List Loc) (ls : Array Slot), va_P G.1 vwCl (z_ws G w) H → va_S (zA G) s.heap H locs → lv_has ls nL lv → W p l e R s m args below meth c H locs 0 0 Q (F0 m pc ls st)
