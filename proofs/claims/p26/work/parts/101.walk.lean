set_option maxHeartbeats 4000000 in
set_option maxRecDepth 100000 in
theorem M_X2_isOfPart (l : Launch) (G : zG) (hG : zOK G) (N : Nat) (mem : zMem) (a1 : Int32) (r : Int32) (mem' : zMem) (hf : f_X2_isOfPart N mem a1 = some (r, mem')) : zM l G yX2_isOfPart cX2_isOfPart 1 (some .boolean) 1 22 [.int a1] mem (zQi G r mem') := by
  refine zStart hG (by decide +kernel) (Nat.le_of_ble_eq_true rfl) (fun p e s m below meth c C hr hlk ls hl Z => ?_)
  have hl : lv_has ls 1 [(0, .int a1)] := hl
  have C : zC (zAd G) G p s m _ c cX2_isOfPart 1 RX2 := C
  unfold f_X2_isOfPart at hf
  refine lv_iload_n C.1.1 C.1.2.1 dX2_isOfPart_0 rfl (lv_at hl 0 rfl) ?_
  refine lv_iconst (v := (1 : Int32)) C.1.1 C.1.2.1 dX2_isOfPart_1 (by decide) ?_
  refine lv_iconst (v := (4 : Int32)) C.1.1 C.1.2.1 dX2_isOfPart_2 (by decide) ?_
  obtain ⟨r109, mem109, hc109, hf⟩ := zb_some hf
  refine z_callNi (As := [.int a1, .int (1 : Int32), .int (4 : Int32)]) (rest := []) C Z (M_X4_isWithin l G C.2.1 N mem a1 (1 : Int32) (4 : Int32) r109 mem109 hc109) (zcw_X2_65 C.1.2.2.2.2 (C.2.2.2.2.2.2.2.2.2.2.2.1) ⟨Nat.le_of_ble_eq_true rfl, Nat.le_of_ble_eq_true rfl⟩) rfl hl.1 rfl (Nat.le_of_ble_eq_true rfl) ⟨Nat.le_refl 0, Nat.le_refl 0⟩ dX2_isOfPart_3 (fun H locs Z => ?_)
  obtain ⟨hb110, hf⟩ := zgd_some hf
  cases hf
  exact z_zret C Z hr hlk hb110 dX2_isOfPart_6
set_option maxHeartbeats 4000000 in
set_option maxRecDepth 100000 in
theorem M_X2_countPartsAndSouls (l : Launch) (G : zG) (hG : zOK G) (N : Nat) (mem : zMem) (a1 : Int32) (r : Unit) (mem' : zMem) (hf : f_X2_countPartsAndSouls N mem a1 = some (r, mem')) : zM l G yX2_countPartsAndSouls cX2_countPartsAndSouls 2 none 2 42 [.ref (zr G 1), .int a1] mem (zQv G mem') := by
  refine zStart hG (by decide +kernel) (Nat.le_of_ble_eq_true rfl) (fun p e s m below meth c C hr hlk ls hl Z => ?_)
  have hl : lv_has ls 2 [(0, .ref (zr G 1)), (1, .int a1)] := hl
  have C : zC (zAd G) G p s m _ c cX2_countPartsAndSouls 2 RX2 := C
  unfold f_X2_countPartsAndSouls at hf
  refine lv_iload_n C.1.1 C.1.2.1 dX2_countPartsAndSouls_0 rfl (lv_at hl 1 rfl) ?_
  refine lv_if_ne (tgt := 17) C.1.1 C.1.2.1 dX2_countPartsAndSouls_1 (by decide) (fun h111 => ?_) (fun h111 => ?_)
  · replace hf := (if_neg h111).symm.trans hf
    refine lv_iload_n C.1.1 C.1.2.1 dX2_countPartsAndSouls_17 rfl (lv_at hl 1 rfl) ?_
    refine lv_iconst (v := (5 : Int32)) C.1.1 C.1.2.1 dX2_countPartsAndSouls_18 (by decide) ?_
    refine lv_icmp_ne (tgt := 35) C.1.1 C.1.2.1 dX2_countPartsAndSouls_19 (by decide) (fun h112 => ?_) (fun h112 => ?_)
    · replace hf := (if_neg h112).symm.trans hf
      refine lv_iload_n C.1.1 C.1.2.1 dX2_countPartsAndSouls_35 rfl (lv_at hl 1 rfl) ?_
      obtain ⟨r113, mem113, hc113, hf⟩ := zb_some hf
      refine z_callSi (As := [.int a1]) (rest := []) C Z (M_X2_isOfPart l G C.2.1 N mem a1 r113 mem113 hc113) (zcw_X2_69 C.1.2.2.2.2 ⟨Nat.le_of_ble_eq_true rfl, Nat.le_of_ble_eq_true rfl⟩) rfl hl.1 rfl (Nat.le_of_ble_eq_true rfl) ⟨Nat.le_refl 0, Nat.le_refl 0⟩ dX2_countPartsAndSouls_36 (fun H locs Z => ?_)
      refine lv_if_eq (tgt := 52) C.1.1 C.1.2.1 dX2_countPartsAndSouls_39 (by decide) (fun h114 => ?_) (fun h114 => ?_)
      · replace hf := (if_pos h114).symm.trans hf
        cases hf
        exact z_vret C Z hr hlk dX2_countPartsAndSouls_52
      · replace hf := (if_neg h114).symm.trans hf
        refine lv_aload_n C.1.1 C.1.2.1 dX2_countPartsAndSouls_42 rfl (lv_at hl 0 rfl) ?_
        refine lv_dup C.1.1 C.1.2.1 dX2_countPartsAndSouls_43 rfl ?_
        refine zg_X2_28 C Z dX2_countPartsAndSouls_44 ?_
        refine lv_iconst (v := (1 : Int32)) C.1.1 C.1.2.1 dX2_countPartsAndSouls_47 (by decide) ?_
        refine lv_iadd C.1.1 C.1.2.1 dX2_countPartsAndSouls_48 ?_
        refine zp_X2_28 C Z dX2_countPartsAndSouls_49 (fun H locs Z => ?_)
        obtain ⟨mem115, hm115, hf⟩ := zlet_some hf
        rw [← hm115] at Z
        cases hf
        exact z_vret C Z hr hlk dX2_countPartsAndSouls_52
    · replace hf := (if_pos h112).symm.trans hf
      refine lv_aload_n C.1.1 C.1.2.1 dX2_countPartsAndSouls_22 rfl (lv_at hl 0 rfl) ?_
      refine lv_dup C.1.1 C.1.2.1 dX2_countPartsAndSouls_23 rfl ?_
      refine zg_X2_31 C Z dX2_countPartsAndSouls_24 ?_
      refine lv_iconst (v := (1 : Int32)) C.1.1 C.1.2.1 dX2_countPartsAndSouls_27 (by decide) ?_
      refine lv_iadd C.1.1 C.1.2.1 dX2_countPartsAndSouls_28 ?_
      refine zp_X2_31 C Z dX2_countPartsAndSouls_29 (fun H locs Z => ?_)
      obtain ⟨mem116, hm116, hf⟩ := zlet_some hf
      rw [← hm116] at Z
      refine lv_goto (tgt := 52) C.1.1 C.1.2.1 dX2_countPartsAndSouls_32 (by decide) ?_
      cases hf
      exact z_vret C Z hr hlk dX2_countPartsAndSouls_52
  · replace hf := (if_pos h111).symm.trans hf
    refine lv_aload_n C.1.1 C.1.2.1 dX2_countPartsAndSouls_4 rfl (lv_at hl 0 rfl) ?_
    refine lv_iconst (v := (0 : Int32)) C.1.1 C.1.2.1 dX2_countPartsAndSouls_5 (by decide) ?_
    refine zp_X2_28 C Z dX2_countPartsAndSouls_6 (fun H locs Z => ?_)
    obtain ⟨mem117, hm117, hf⟩ := zlet_some hf
    rw [← hm117] at Z
    refine lv_aload_n C.1.1 C.1.2.1 dX2_countPartsAndSouls_9 rfl (lv_at hl 0 rfl) ?_
    refine lv_iconst (v := (0 : Int32)) C.1.1 C.1.2.1 dX2_countPartsAndSouls_10 (by decide) ?_
    refine zp_X2_31 C Z dX2_countPartsAndSouls_11 (fun H locs Z => ?_)
    obtain ⟨mem118, hm118, hf⟩ := zlet_some hf
    rw [← hm118] at Z
    refine lv_goto (tgt := 52) C.1.1 C.1.2.1 dX2_countPartsAndSouls_14 (by decide) ?_
    cases hf
    exact z_vret C Z hr hlk dX2_countPartsAndSouls_52
set_option maxHeartbeats 4000000 in
set_option maxRecDepth 100000 in
theorem K_X2_tokenNumber_48 {p : Program} {l : Launch} {e : Env} {s : State} {m : MethodId} {args : Array Value} {below : List Frame} {meth : Method} {c : Code} {G : zG} (C : zC (zAd G) G p s m args c cX2_tokenNumber 4 RX2) (hr : meth.sig.returnType = (some .int)) (hlk : meth.locks = false) {r : Int32} {mem' : zMem} (N : Nat) : ∀ (n : Nat) (mem : zMem) (x2 : Int32) (x3 : Int32) (H : Heap) (locs : List Loc) (ls : Array Slot), zH (zAd G) G s mem H locs → lv_has ls 4 [(0, .ref (zr G 1)), (2, .int x2), (3, .int x3)] → f_X2_tokenNumber_48 N n mem x2 x3 = some (r, mem') → W p l e ({ frames := 1, cells := 0, slots := 0, locals := 22 } : Room) s m args below meth c H locs 0 0 (MQ below (zQi G r mem') args s 0 0 (zAd G)) (F0 m 48 ls []) := by
  intro n
  induction n with
  | zero =>
    intro mem x2 x3 H locs ls Z hl hf
    rw [f_X2_tokenNumber_48.eq_1] at hf
    cases hf
  | succ n ih =>
    intro mem x2 x3 H locs ls Z hl hf
    rw [f_X2_tokenNumber_48.eq_2] at hf
    refine lv_iload_n C.1.1 C.1.2.1 dX2_tokenNumber_48 rfl (lv_at hl 2 rfl) ?_
    refine lv_aload_n C.1.1 C.1.2.1 dX2_tokenNumber_49 rfl (lv_at hl 0 rfl) ?_
    refine zg_X2_34 C Z dX2_tokenNumber_50 ?_
    refine lv_icmp_ge (tgt := 77) C.1.1 C.1.2.1 dX2_tokenNumber_53 (by decide) (fun h119 => ?_) (fun h119 => ?_)
    · replace hf := (if_pos h119).symm.trans hf
      refine lv_iload_n C.1.1 C.1.2.1 dX2_tokenNumber_77 rfl (lv_at hl 1 rfl) ?_
      cases hf
      exact z_iret C Z hr hlk dX2_tokenNumber_78
    · replace hf := (if_neg h119).symm.trans hf
      refine lv_iload_n C.1.1 C.1.2.1 dX2_tokenNumber_56 rfl (lv_at hl 1 rfl) ?_
      refine lv_bipush (v := (10 : Int32)) C.1.1 C.1.2.1 dX2_tokenNumber_57 (by decide) ?_
      refine lv_imul C.1.1 C.1.2.1 dX2_tokenNumber_59 ?_
      refine lv_aload_n C.1.1 C.1.2.1 dX2_tokenNumber_60 rfl (lv_at hl 0 rfl) ?_
      refine zg_X2_9 C Z dX2_tokenNumber_61 ?_
      refine lv_iload_n C.1.1 C.1.2.1 dX2_tokenNumber_64 rfl (lv_at hl 2 rfl) ?_
      obtain ⟨hi120, hf⟩ := zgd_some hf
      refine z_iald (k := 2) C Z (by decide) rfl hi120 dX2_tokenNumber_65 ?_
      refine lv_iadd C.1.1 C.1.2.1 dX2_tokenNumber_66 ?_
      refine lv_bipush (v := (48 : Int32)) C.1.1 C.1.2.1 dX2_tokenNumber_67 (by decide) ?_
      refine lv_isub C.1.1 C.1.2.1 dX2_tokenNumber_69 ?_
      refine lv_istore_n (lv' := [(2, .int (((x2 * (10 : Int32)) + (mem 2 x3.toNatClampNeg)) - (48 : Int32))), (0, .ref (zr G 1)), (3, .int x3)]) C.1.1 C.1.2.1 dX2_tokenNumber_70 rfl hl (by decide) rfl (fun ls hl => ?_)
      refine lv_iinc (v := (x3 + 1)) (lv' := [(3, .int (x3 + 1)), (2, .int (((x2 * (10 : Int32)) + (mem 2 x3.toNatClampNeg)) - (48 : Int32))), (0, .ref (zr G 1))]) C.1.1 C.1.2.1 dX2_tokenNumber_71 hl (k := 2) rfl rfl (by decide) rfl (fun ls hl => ?_)
      refine lv_goto (tgt := 48) C.1.1 C.1.2.1 dX2_tokenNumber_74 (by decide) ?_
      exact ih mem (((x2 * (10 : Int32)) + (mem 2 x3.toNatClampNeg)) - (48 : Int32)) (x3 + 1) _ _ _ Z (lv_sub hl [2, 1, 0] rfl) hf
set_option maxHeartbeats 4000000 in
set_option maxRecDepth 100000 in
theorem M_X2_tokenNumber (l : Launch) (G : zG) (hG : zOK G) (N : Nat) (mem : zMem) (r : Int32) (mem' : zMem) (hf : f_X2_tokenNumber N mem = some (r, mem')) : zM l G yX2_tokenNumber cX2_tokenNumber 4 (some .int) 1 22 [.ref (zr G 1)] mem (zQi G r mem') := by
  refine zStart hG (by decide +kernel) (Nat.le_of_ble_eq_true rfl) (fun p e s m below meth c C hr hlk ls hl Z => ?_)
  have hl : lv_has ls 4 [(0, .ref (zr G 1))] := hl
  have C : zC (zAd G) G p s m _ c cX2_tokenNumber 4 RX2 := C
  unfold f_X2_tokenNumber at hf
  refine lv_aload_n C.1.1 C.1.2.1 dX2_tokenNumber_0 rfl (lv_at hl 0 rfl) ?_
  refine zg_X2_34 C Z dX2_tokenNumber_1 ?_
  refine lv_aload_n C.1.1 C.1.2.1 dX2_tokenNumber_4 rfl (lv_at hl 0 rfl) ?_
  refine zg_X2_44 C Z dX2_tokenNumber_5 ?_
  refine lv_isub C.1.1 C.1.2.1 dX2_tokenNumber_8 ?_
  refine lv_istore_n (lv' := [(1, .int ((mem 1 7) - (mem 1 6))), (0, .ref (zr G 1))]) C.1.1 C.1.2.1 dX2_tokenNumber_9 rfl hl (by decide) rfl (fun ls hl => ?_)
  refine lv_iload_n C.1.1 C.1.2.1 dX2_tokenNumber_10 rfl (lv_at hl 0 rfl) ?_
  refine lv_iconst (v := (1 : Int32)) C.1.1 C.1.2.1 dX2_tokenNumber_11 (by decide) ?_
  refine lv_icmp_lt (tgt := 39) C.1.1 C.1.2.1 dX2_tokenNumber_12 (by decide) (fun h121 => ?_) (fun h121 => ?_)
  · replace hf := (if_pos h121).symm.trans hf
    refine lv_iconst (v := (-1 : Int32)) C.1.1 C.1.2.1 dX2_tokenNumber_39 (by decide) ?_
    cases hf
    exact z_iret C Z hr hlk dX2_tokenNumber_40
  · replace hf := (if_neg h121).symm.trans hf
    refine lv_iload_n C.1.1 C.1.2.1 dX2_tokenNumber_15 rfl (lv_at hl 0 rfl) ?_
    refine lv_iconst (v := (2 : Int32)) C.1.1 C.1.2.1 dX2_tokenNumber_16 (by decide) ?_
    refine lv_icmp_gt (tgt := 39) C.1.1 C.1.2.1 dX2_tokenNumber_17 (by decide) (fun h122 => ?_) (fun h122 => ?_)
    · replace hf := (if_pos h122).symm.trans hf
      refine lv_iconst (v := (-1 : Int32)) C.1.1 C.1.2.1 dX2_tokenNumber_39 (by decide) ?_
      cases hf
      exact z_iret C Z hr hlk dX2_tokenNumber_40
    · replace hf := (if_neg h122).symm.trans hf
      refine lv_aload_n C.1.1 C.1.2.1 dX2_tokenNumber_20 rfl (lv_at hl 1 rfl) ?_
      refine zg_X2_9 C Z dX2_tokenNumber_21 ?_
      refine lv_aload_n C.1.1 C.1.2.1 dX2_tokenNumber_24 rfl (lv_at hl 1 rfl) ?_
      refine zg_X2_44 C Z dX2_tokenNumber_25 ?_
      obtain ⟨hi123, hf⟩ := zgd_some hf
      refine z_iald (k := 2) C Z (by decide) rfl hi123 dX2_tokenNumber_28 ?_
      refine lv_bipush (v := (48 : Int32)) C.1.1 C.1.2.1 dX2_tokenNumber_29 (by decide) ?_
      refine lv_bipush (v := (57 : Int32)) C.1.1 C.1.2.1 dX2_tokenNumber_31 (by decide) ?_
      obtain ⟨r124, mem124, hc124, hf⟩ := zb_some hf
      refine z_callNi (As := [.int (mem 2 (mem 1 6).toNatClampNeg), .int (48 : Int32), .int (57 : Int32)]) (rest := []) C Z (M_X4_isWithin l G C.2.1 N mem (mem 2 (mem 1 6).toNatClampNeg) (48 : Int32) (57 : Int32) r124 mem124 hc124) (zcw_X2_65 C.1.2.2.2.2 (C.2.2.2.2.2.2.2.2.2.2.2.1) ⟨Nat.le_of_ble_eq_true rfl, Nat.le_of_ble_eq_true rfl⟩) rfl hl.1 rfl (Nat.le_of_ble_eq_true rfl) ⟨Nat.le_refl 0, Nat.le_refl 0⟩ dX2_tokenNumber_33 (fun H locs Z => ?_)
      refine lv_if_ne (tgt := 41) C.1.1 C.1.2.1 dX2_tokenNumber_36 (by decide) (fun h125 => ?_) (fun h125 => ?_)
      · replace hf := (if_neg h125).symm.trans hf
        refine lv_iconst (v := (0 : Int32)) C.1.1 C.1.2.1 dX2_tokenNumber_41 (by decide) ?_
        refine lv_istore_n (lv' := [(2, .int (0 : Int32)), (1, .int ((mem 1 7) - (mem 1 6))), (0, .ref (zr G 1))]) C.1.1 C.1.2.1 dX2_tokenNumber_42 rfl hl (by decide) rfl (fun ls hl => ?_)
        refine lv_aload_n C.1.1 C.1.2.1 dX2_tokenNumber_43 rfl (lv_at hl 2 rfl) ?_
        refine zg_X2_44 C Z dX2_tokenNumber_44 ?_
        refine lv_istore_n (lv' := [(3, .int (mem124 1 6)), (2, .int (0 : Int32)), (1, .int ((mem 1 7) - (mem 1 6))), (0, .ref (zr G 1))]) C.1.1 C.1.2.1 dX2_tokenNumber_47 rfl hl (by decide) rfl (fun ls hl => ?_)
        exact K_X2_tokenNumber_48 (l := l) (e := e) (below := below) C hr hlk N N mem124 (0 : Int32) (mem124 1 6) _ _ _ Z (lv_sub hl [3, 1, 0] rfl) hf
      · replace hf := (if_pos h125).symm.trans hf
        refine lv_iconst (v := (-1 : Int32)) C.1.1 C.1.2.1 dX2_tokenNumber_39 (by decide) ?_
        cases hf
        exact z_iret C Z hr hlk dX2_tokenNumber_40
set_option maxHeartbeats 4000000 in
set_option maxRecDepth 100000 in
theorem M_X2_mostFirst (l : Launch) (G : zG) (hG : zOK G) (N : Nat) (mem : zMem) (a1 : Int32) (r : Int32) (mem' : zMem) (hf : f_X2_mostFirst N mem a1 = some (r, mem')) : zM l G yX2_mostFirst cX2_mostFirst 1 (some .int) 0 0 [.int a1] mem (zQi G r mem') := by
  refine zStart hG (by decide +kernel) (Nat.le_of_ble_eq_true rfl) (fun p e s m below meth c C hr hlk ls hl Z => ?_)
  have hl : lv_has ls 1 [(0, .int a1)] := hl
  have C : zC (zAd G) G p s m _ c cX2_mostFirst 1 RX2 := C
  unfold f_X2_mostFirst at hf
  refine lv_iload_n C.1.1 C.1.2.1 dX2_mostFirst_0 rfl (lv_at hl 0 rfl) ?_
  by_cases h126 : a1 = 5
  · replace hf := (if_pos h126).symm.trans hf
    refine lv_tableIn (off := 31) (tgt := 32) C.1.1 C.1.2.1 dX2_mostFirst_1 (by rw [h126]; decide) (by rw [h126]; decide) (by rw [h126]; rfl) (by decide) ?_
    refine lv_bipush (v := (40 : Int32)) C.1.1 C.1.2.1 dX2_mostFirst_32 (by decide) ?_
    cases hf
    exact z_iret C Z hr hlk dX2_mostFirst_34
  replace hf := (if_neg h126).symm.trans hf
  by_cases h127 : a1 = 6
  · replace hf := (if_pos h127).symm.trans hf
    refine lv_tableIn (off := 34) (tgt := 35) C.1.1 C.1.2.1 dX2_mostFirst_1 (by rw [h127]; decide) (by rw [h127]; decide) (by rw [h127]; rfl) (by decide) ?_
    refine lv_bipush (v := (9 : Int32)) C.1.1 C.1.2.1 dX2_mostFirst_35 (by decide) ?_
    cases hf
    exact z_iret C Z hr hlk dX2_mostFirst_37
  replace hf := (if_neg h127).symm.trans hf
  by_cases h128 : a1 = 7
  · replace hf := (if_pos h128).symm.trans hf
    refine lv_tableIn (off := 37) (tgt := 38) C.1.1 C.1.2.1 dX2_mostFirst_1 (by rw [h128]; decide) (by rw [h128]; decide) (by rw [h128]; rfl) (by decide) ?_
    refine lv_iconst (v := (5 : Int32)) C.1.1 C.1.2.1 dX2_mostFirst_38 (by decide) ?_
    cases hf
    exact z_iret C Z hr hlk dX2_mostFirst_39
  replace hf := (if_neg h128).symm.trans hf
  by_cases h129 : a1 = 8
  · replace hf := (if_pos h129).symm.trans hf
    refine lv_tableIn (off := 39) (tgt := 40) C.1.1 C.1.2.1 dX2_mostFirst_1 (by rw [h129]; decide) (by rw [h129]; decide) (by rw [h129]; rfl) (by decide) ?_
    refine lv_bipush (v := (9 : Int32)) C.1.1 C.1.2.1 dX2_mostFirst_40 (by decide) ?_
    cases hf
    exact z_iret C Z hr hlk dX2_mostFirst_42
  replace hf := (if_neg h129).symm.trans hf
  have eh126 := lv_neT h126 (a := 5) rfl
  have eh127 := lv_neT h127 (a := 6) rfl
  have eh128 := lv_neT h128 (a := 7) rfl
  have eh129 := lv_neT h129 (a := 8) rfl
  refine lv_tableOut (tgt := 43) C.1.1 C.1.2.1 dX2_mostFirst_1 (by omega) (by decide) ?_
  refine lv_bipush (v := (20 : Int32)) C.1.1 C.1.2.1 dX2_mostFirst_43 (by decide) ?_
  cases hf
  exact z_iret C Z hr hlk dX2_mostFirst_45
set_option maxHeartbeats 4000000 in
set_option maxRecDepth 100000 in
theorem M_X2_readClause (l : Launch) (G : zG) (hG : zOK G) (N : Nat) (mem : zMem) (a1 : Int32) (r : Int32) (mem' : zMem) (hf : f_X2_readClause N mem a1 = some (r, mem')) : zM l G yX2_readClause cX2_readClause 3 (some .boolean) 6 128 [.ref (zr G 1), .int a1] mem (zQi G r mem') := by
  refine zStart hG (by decide +kernel) (Nat.le_of_ble_eq_true rfl) (fun p e s m below meth c C hr hlk ls hl Z => ?_)
  have hl : lv_has ls 3 [(0, .ref (zr G 1)), (1, .int a1)] := hl
  have C : zC (zAd G) G p s m _ c cX2_readClause 3 RX2 := C
  unfold f_X2_readClause at hf
  refine lv_aload_n C.1.1 C.1.2.1 dX2_readClause_0 rfl (lv_at hl 0 rfl) ?_
  obtain ⟨r130, mem130, hc130, hf⟩ := zb_some hf
  refine z_callVv (k := 1) (As := []) (rest := []) C Z (M_X2_nextToken l G C.2.1 N mem r130 mem130 hc130) (zcw_X2_47 C.1.2.2.2.2 ⟨Nat.le_of_ble_eq_true rfl, Nat.le_of_ble_eq_true rfl⟩) (by decide) rfl rfl rfl hl.1 rfl (Nat.le_of_ble_eq_true rfl) ⟨Nat.le_refl 0, Nat.le_refl 0⟩ dX2_readClause_1 (fun H locs Z => ?_)
  refine lv_aload_n C.1.1 C.1.2.1 dX2_readClause_4 rfl (lv_at hl 0 rfl) ?_
  obtain ⟨r131, mem131, hc131, hf⟩ := zb_some hf
  refine z_callVi (k := 1) (As := []) (rest := []) C Z (M_X2_tokenWord l G C.2.1 N mem130 r131 mem131 hc131) (zcw_X2_50 C.1.2.2.2.2 ⟨Nat.le_of_ble_eq_true rfl, Nat.le_of_ble_eq_true rfl⟩) (by decide) rfl rfl rfl hl.1 rfl (Nat.le_of_ble_eq_true rfl) ⟨Nat.le_refl 0, Nat.le_refl 0⟩ dX2_readClause_5 (fun H locs Z => ?_)
  refine lv_istore_n (lv' := [(2, .int r131), (0, .ref (zr G 1)), (1, .int a1)]) C.1.1 C.1.2.1 dX2_readClause_8 rfl hl (by decide) rfl (fun ls hl => ?_)
  refine lv_aload_n C.1.1 C.1.2.1 dX2_readClause_9 rfl (lv_at hl 1 rfl) ?_
  refine zg_X2_15 C Z dX2_readClause_10 ?_
  refine lv_iload_n C.1.1 C.1.2.1 dX2_readClause_13 rfl (lv_at hl 2 rfl) ?_
  refine lv_iload_n C.1.1 C.1.2.1 dX2_readClause_14 rfl (lv_at hl 0 rfl) ?_
  obtain ⟨hi132, hf⟩ := zgd_some hf
  refine z_iast (k := 3) C Z (by decide) (fun _ => rfl) hi132 dX2_readClause_15 (fun H locs Z => ?_)
  obtain ⟨mem133, hm133, hf⟩ := zlet_some hf
  rw [← hm133] at Z
  refine lv_aload_n C.1.1 C.1.2.1 dX2_readClause_16 rfl (lv_at hl 1 rfl) ?_
  refine zg_X2_18 C Z dX2_readClause_17 ?_
  refine lv_iload_n C.1.1 C.1.2.1 dX2_readClause_20 rfl (lv_at hl 2 rfl) ?_
  refine lv_iconst (v := (0 : Int32)) C.1.1 C.1.2.1 dX2_readClause_21 (by decide) ?_
  obtain ⟨hi134, hf⟩ := zgd_some hf
  refine z_iast (k := 4) C Z (by decide) (fun _ => rfl) hi134 dX2_readClause_22 (fun H locs Z => ?_)
  obtain ⟨mem135, hm135, hf⟩ := zlet_some hf
  rw [← hm135] at Z
  refine lv_aload_n C.1.1 C.1.2.1 dX2_readClause_23 rfl (lv_at hl 1 rfl) ?_
  refine zg_X2_21 C Z dX2_readClause_24 ?_
  refine lv_iload_n C.1.1 C.1.2.1 dX2_readClause_27 rfl (lv_at hl 2 rfl) ?_
  refine lv_iconst (v := (0 : Int32)) C.1.1 C.1.2.1 dX2_readClause_28 (by decide) ?_
  obtain ⟨hi136, hf⟩ := zgd_some hf
  refine z_iast (k := 5) C Z (by decide) (fun _ => rfl) hi136 dX2_readClause_29 (fun H locs Z => ?_)
  obtain ⟨mem137, hm137, hf⟩ := zlet_some hf
  rw [← hm137] at Z
  refine lv_iload_n C.1.1 C.1.2.1 dX2_readClause_30 rfl (lv_at hl 0 rfl) ?_
  refine lv_iconst (v := (-1 : Int32)) C.1.1 C.1.2.1 dX2_readClause_31 (by decide) ?_
  refine lv_icmp_ne (tgt := 37) C.1.1 C.1.2.1 dX2_readClause_32 (by decide) (fun h138 => ?_) (fun h138 => ?_)
  · replace hf := (if_neg h138).symm.trans hf
    refine lv_aload_n C.1.1 C.1.2.1 dX2_readClause_37 rfl (lv_at hl 1 rfl) ?_
    refine lv_iload_n C.1.1 C.1.2.1 dX2_readClause_38 rfl (lv_at hl 0 rfl) ?_
    obtain ⟨r139, mem139, hc139, hf⟩ := zb_some hf
    refine z_callVv (k := 1) (As := [.int r131]) (rest := []) C Z (M_X2_countPartsAndSouls l G C.2.1 N mem137 r131 r139 mem139 hc139) (zcw_X2_54 C.1.2.2.2.2 ⟨Nat.le_of_ble_eq_true rfl, Nat.le_of_ble_eq_true rfl⟩) (by decide) rfl rfl rfl hl.1 rfl (Nat.le_of_ble_eq_true rfl) ⟨Nat.le_refl 0, Nat.le_refl 0⟩ dX2_readClause_39 (fun H locs Z => ?_)
    refine lv_aload_n C.1.1 C.1.2.1 dX2_readClause_42 rfl (lv_at hl 1 rfl) ?_
    refine zg_X2_28 C Z dX2_readClause_43 ?_
    refine lv_bipush (v := (8 : Int32)) C.1.1 C.1.2.1 dX2_readClause_46 (by decide) ?_
    refine lv_icmp_gt (tgt := 60) C.1.1 C.1.2.1 dX2_readClause_48 (by decide) (fun h140 => ?_) (fun h140 => ?_)
    · replace hf := (if_pos h140).symm.trans hf
      refine lv_iconst (v := (0 : Int32)) C.1.1 C.1.2.1 dX2_readClause_60 (by decide) ?_
      cases hf
      exact z_zret C Z hr hlk (by decide) dX2_readClause_61
    · replace hf := (if_neg h140).symm.trans hf
      refine lv_aload_n C.1.1 C.1.2.1 dX2_readClause_51 rfl (lv_at hl 1 rfl) ?_
      refine zg_X2_31 C Z dX2_readClause_52 ?_
      refine lv_bipush (v := (6 : Int32)) C.1.1 C.1.2.1 dX2_readClause_55 (by decide) ?_
      refine lv_icmp_le (tgt := 62) C.1.1 C.1.2.1 dX2_readClause_57 (by decide) (fun h141 => ?_) (fun h141 => ?_)
      · replace hf := (if_pos h141).symm.trans hf
        refine lv_iload_n C.1.1 C.1.2.1 dX2_readClause_62 rfl (lv_at hl 0 rfl) ?_
        refine lv_if_ne (tgt := 68) C.1.1 C.1.2.1 dX2_readClause_63 (by decide) (fun h142 => ?_) (fun h142 => ?_)
        · replace hf := (if_neg h142).symm.trans hf
          refine lv_aload_n C.1.1 C.1.2.1 dX2_readClause_68 rfl (lv_at hl 1 rfl) ?_
          obtain ⟨r143, mem143, hc143, hf⟩ := zb_some hf
          refine z_callVv (k := 1) (As := []) (rest := []) C Z (M_X2_nextToken l G C.2.1 N mem139 r143 mem143 hc143) (zcw_X2_47 C.1.2.2.2.2 ⟨Nat.le_of_ble_eq_true rfl, Nat.le_of_ble_eq_true rfl⟩) (by decide) rfl rfl rfl hl.1 rfl (Nat.le_of_ble_eq_true rfl) ⟨Nat.le_refl 0, Nat.le_refl 0⟩ dX2_readClause_69 (fun H locs Z => ?_)
          refine lv_aload_n C.1.1 C.1.2.1 dX2_readClause_72 rfl (lv_at hl 1 rfl) ?_
          refine zg_X2_18 C Z dX2_readClause_73 ?_
          refine lv_iload_n C.1.1 C.1.2.1 dX2_readClause_76 rfl (lv_at hl 2 rfl) ?_
          refine lv_aload_n C.1.1 C.1.2.1 dX2_readClause_77 rfl (lv_at hl 1 rfl) ?_
          obtain ⟨r144, mem144, hc144, hf⟩ := zb_some hf
          refine z_callVi (k := 1) (As := []) (rest := [.int a1, .ref (zr G 4)]) C Z (M_X2_tokenNumber l G C.2.1 N mem143 r144 mem144 hc144) (zcw_X2_58 C.1.2.2.2.2 ⟨Nat.le_of_ble_eq_true rfl, Nat.le_of_ble_eq_true rfl⟩) (by decide) rfl rfl rfl hl.1 rfl (Nat.le_of_ble_eq_true rfl) ⟨Nat.le_refl 0, Nat.le_refl 0⟩ dX2_readClause_78 (fun H locs Z => ?_)
          obtain ⟨hi145, hf⟩ := zgd_some hf
          refine z_iast (k := 4) C Z (by decide) (fun _ => rfl) hi145 dX2_readClause_81 (fun H locs Z => ?_)
          obtain ⟨mem146, hm146, hf⟩ := zlet_some hf
          rw [← hm146] at Z
          refine lv_aload_n C.1.1 C.1.2.1 dX2_readClause_82 rfl (lv_at hl 1 rfl) ?_
          refine zg_X2_18 C Z dX2_readClause_83 ?_
          refine lv_iload_n C.1.1 C.1.2.1 dX2_readClause_86 rfl (lv_at hl 2 rfl) ?_
          obtain ⟨hi147, hf⟩ := zgd_some hf
          refine z_iald (k := 4) C Z (by decide) rfl hi147 dX2_readClause_87 ?_
          refine lv_iconst (v := (0 : Int32)) C.1.1 C.1.2.1 dX2_readClause_88 (by decide) ?_
          refine lv_iload_n C.1.1 C.1.2.1 dX2_readClause_89 rfl (lv_at hl 0 rfl) ?_
          obtain ⟨r148, mem148, hc148, hf⟩ := zb_some hf
          refine z_callSi (As := [.int r131]) (rest := [.int (0 : Int32), .int (mem146 4 a1.toNatClampNeg)]) C Z (M_X2_mostFirst l G C.2.1 N mem146 r131 r148 mem148 hc148) (zcw_X2_61 C.1.2.2.2.2 ⟨Nat.le_of_ble_eq_true rfl, Nat.le_of_ble_eq_true rfl⟩) rfl hl.1 rfl (Nat.le_of_ble_eq_true rfl) ⟨Nat.le_refl 0, Nat.le_refl 0⟩ dX2_readClause_90 (fun H locs Z => ?_)
          obtain ⟨r149, mem149, hc149, hf⟩ := zb_some hf
          refine z_callNi (As := [.int (mem146 4 a1.toNatClampNeg), .int (0 : Int32), .int r148]) (rest := []) C Z (M_X4_isWithin l G C.2.1 N mem148 (mem146 4 a1.toNatClampNeg) (0 : Int32) r148 r149 mem149 hc149) (zcw_X2_65 C.1.2.2.2.2 (C.2.2.2.2.2.2.2.2.2.2.2.1) ⟨Nat.le_of_ble_eq_true rfl, Nat.le_of_ble_eq_true rfl⟩) rfl hl.1 rfl (Nat.le_of_ble_eq_true rfl) ⟨Nat.le_refl 0, Nat.le_refl 0⟩ dX2_readClause_93 (fun H locs Z => ?_)
          refine lv_if_ne (tgt := 101) C.1.1 C.1.2.1 dX2_readClause_96 (by decide) (fun h150 => ?_) (fun h150 => ?_)
          · replace hf := (if_neg h150).symm.trans hf
            refine lv_iload_n C.1.1 C.1.2.1 dX2_readClause_101 rfl (lv_at hl 0 rfl) ?_
            obtain ⟨r151, mem151, hc151, hf⟩ := zb_some hf
            refine z_callSi (As := [.int r131]) (rest := []) C Z (M_X2_isOfPart l G C.2.1 N mem149 r131 r151 mem151 hc151) (zcw_X2_69 C.1.2.2.2.2 ⟨Nat.le_of_ble_eq_true rfl, Nat.le_of_ble_eq_true rfl⟩) rfl hl.1 rfl (Nat.le_of_ble_eq_true rfl) ⟨Nat.le_refl 0, Nat.le_refl 0⟩ dX2_readClause_102 (fun H locs Z => ?_)
            refine lv_if_ne (tgt := 110) C.1.1 C.1.2.1 dX2_readClause_105 (by decide) (fun h152 => ?_) (fun h152 => ?_)
            · replace hf := (if_neg h152).symm.trans hf
              refine lv_aload_n C.1.1 C.1.2.1 dX2_readClause_110 rfl (lv_at hl 1 rfl) ?_
              obtain ⟨r153, mem153, hc153, hf⟩ := zb_some hf
              refine z_callVv (k := 1) (As := []) (rest := []) C Z (M_X2_nextToken l G C.2.1 N mem151 r153 mem153 hc153) (zcw_X2_47 C.1.2.2.2.2 ⟨Nat.le_of_ble_eq_true rfl, Nat.le_of_ble_eq_true rfl⟩) (by decide) rfl rfl rfl hl.1 rfl (Nat.le_of_ble_eq_true rfl) ⟨Nat.le_refl 0, Nat.le_refl 0⟩ dX2_readClause_111 (fun H locs Z => ?_)
              refine lv_aload_n C.1.1 C.1.2.1 dX2_readClause_114 rfl (lv_at hl 1 rfl) ?_
              refine zg_X2_21 C Z dX2_readClause_115 ?_
              refine lv_iload_n C.1.1 C.1.2.1 dX2_readClause_118 rfl (lv_at hl 2 rfl) ?_
              refine lv_aload_n C.1.1 C.1.2.1 dX2_readClause_119 rfl (lv_at hl 1 rfl) ?_
              obtain ⟨r154, mem154, hc154, hf⟩ := zb_some hf
              refine z_callVi (k := 1) (As := []) (rest := [.int a1, .ref (zr G 5)]) C Z (M_X2_tokenNumber l G C.2.1 N mem153 r154 mem154 hc154) (zcw_X2_58 C.1.2.2.2.2 ⟨Nat.le_of_ble_eq_true rfl, Nat.le_of_ble_eq_true rfl⟩) (by decide) rfl rfl rfl hl.1 rfl (Nat.le_of_ble_eq_true rfl) ⟨Nat.le_refl 0, Nat.le_refl 0⟩ dX2_readClause_120 (fun H locs Z => ?_)
              obtain ⟨hi155, hf⟩ := zgd_some hf
              refine z_iast (k := 5) C Z (by decide) (fun _ => rfl) hi155 dX2_readClause_123 (fun H locs Z => ?_)
              obtain ⟨mem156, hm156, hf⟩ := zlet_some hf
              rw [← hm156] at Z
              refine lv_aload_n C.1.1 C.1.2.1 dX2_readClause_124 rfl (lv_at hl 1 rfl) ?_
              refine zg_X2_21 C Z dX2_readClause_125 ?_
              refine lv_iload_n C.1.1 C.1.2.1 dX2_readClause_128 rfl (lv_at hl 2 rfl) ?_
              obtain ⟨hi157, hf⟩ := zgd_some hf
              refine z_iald (k := 5) C Z (by decide) rfl hi157 dX2_readClause_129 ?_
              refine lv_iconst (v := (1 : Int32)) C.1.1 C.1.2.1 dX2_readClause_130 (by decide) ?_
              refine lv_bipush (v := (30 : Int32)) C.1.1 C.1.2.1 dX2_readClause_131 (by decide) ?_
              obtain ⟨r158, mem158, hc158, hf⟩ := zb_some hf
              refine z_callNi (As := [.int (mem156 5 a1.toNatClampNeg), .int (1 : Int32), .int (30 : Int32)]) (rest := []) C Z (M_X4_isWithin l G C.2.1 N mem156 (mem156 5 a1.toNatClampNeg) (1 : Int32) (30 : Int32) r158 mem158 hc158) (zcw_X2_65 C.1.2.2.2.2 (C.2.2.2.2.2.2.2.2.2.2.2.1) ⟨Nat.le_of_ble_eq_true rfl, Nat.le_of_ble_eq_true rfl⟩) rfl hl.1 rfl (Nat.le_of_ble_eq_true rfl) ⟨Nat.le_refl 0, Nat.le_refl 0⟩ dX2_readClause_133 (fun H locs Z => ?_)
              obtain ⟨hb159, hf⟩ := zgd_some hf
              cases hf
              exact z_zret C Z hr hlk hb159 dX2_readClause_136
            · replace hf := (if_pos h152).symm.trans hf
              refine lv_iconst (v := (1 : Int32)) C.1.1 C.1.2.1 dX2_readClause_108 (by decide) ?_
              cases hf
              exact z_zret C Z hr hlk (by decide) dX2_readClause_109
          · replace hf := (if_pos h150).symm.trans hf
            refine lv_iconst (v := (0 : Int32)) C.1.1 C.1.2.1 dX2_readClause_99 (by decide) ?_
            cases hf
            exact z_zret C Z hr hlk (by decide) dX2_readClause_100
        · replace hf := (if_pos h142).symm.trans hf
          refine lv_iconst (v := (1 : Int32)) C.1.1 C.1.2.1 dX2_readClause_66 (by decide) ?_
          cases hf
          exact z_zret C Z hr hlk (by decide) dX2_readClause_67
      · replace hf := (if_neg h141).symm.trans hf
        refine lv_iconst (v := (0 : Int32)) C.1.1 C.1.2.1 dX2_readClause_60 (by decide) ?_
        cases hf
        exact z_zret C Z hr hlk (by decide) dX2_readClause_61
  · replace hf := (if_pos h138).symm.trans hf
    refine lv_iconst (v := (0 : Int32)) C.1.1 C.1.2.1 dX2_readClause_35 (by decide) ?_
    cases hf
    exact z_zret C Z hr hlk (by decide) dX2_readClause_36
set_option maxHeartbeats 4000000 in
set_option maxRecDepth 100000 in
theorem K_X2_firstFault_22 {p : Program} {l : Launch} {e : Env} {s : State} {m : MethodId} {args : Array Value} {below : List Frame} {meth : Method} {c : Code} {G : zG} (C : zC (zAd G) G p s m args c cX2_firstFault 4 RX2) (hr : meth.sig.returnType = (some .int)) (hlk : meth.locks = false) {r : Int32} {mem' : zMem} (N : Nat) : ∀ (n : Nat) (mem : zMem) (x3 : Int32) (H : Heap) (locs : List Loc) (ls : Array Slot), zH (zAd G) G s mem H locs → lv_has ls 4 [(0, .ref (zr G 1)), (3, .int x3)] → f_X2_firstFault_22 N n mem x3 = some (r, mem') → W p l e ({ frames := 7, cells := 0, slots := 0, locals := 150 } : Room) s m args below meth c H locs 0 0 (MQ below (zQi G r mem') args s 0 0 (zAd G)) (F0 m 22 ls []) := by
  intro n
  induction n with
  | zero =>
    intro mem x3 H locs ls Z hl hf
    rw [f_X2_firstFault_22.eq_1] at hf
    cases hf
  | succ n ih =>
    intro mem x3 H locs ls Z hl hf
    rw [f_X2_firstFault_22.eq_2] at hf
    refine lv_iload_n C.1.1 C.1.2.1 dX2_firstFault_22 rfl (lv_at hl 1 rfl) ?_
    refine lv_bipush (v := (14 : Int32)) C.1.1 C.1.2.1 dX2_firstFault_23 (by decide) ?_
    refine lv_icmp_ge (tgt := 90) C.1.1 C.1.2.1 dX2_firstFault_25 (by decide) (fun h160 => ?_) (fun h160 => ?_)
    · replace hf := (if_pos h160).symm.trans hf
      refine lv_aload_n C.1.1 C.1.2.1 dX2_firstFault_90 rfl (lv_at hl 0 rfl) ?_
      refine zg_X2_44 C Z dX2_firstFault_91 ?_
      cases hf
      exact z_iret C Z hr hlk dX2_firstFault_94
    · replace hf := (if_neg h160).symm.trans hf
      refine lv_aload_n C.1.1 C.1.2.1 dX2_firstFault_28 rfl (lv_at hl 0 rfl) ?_
      refine lv_iload_n C.1.1 C.1.2.1 dX2_firstFault_29 rfl (lv_at hl 1 rfl) ?_
      obtain ⟨r161, mem161, hc161, hf⟩ := zb_some hf
      refine z_callVi (k := 1) (As := [.int x3]) (rest := []) C Z (M_X2_readClause l G C.2.1 N mem x3 r161 mem161 hc161) (zcw_X2_40 C.1.2.2.2.2 ⟨Nat.le_of_ble_eq_true rfl, Nat.le_of_ble_eq_true rfl⟩) (by decide) rfl rfl rfl hl.1 rfl (Nat.le_of_ble_eq_true rfl) ⟨Nat.le_refl 0, Nat.le_refl 0⟩ dX2_firstFault_30 (fun H locs Z => ?_)
      refine lv_if_ne (tgt := 41) C.1.1 C.1.2.1 dX2_firstFault_33 (by decide) (fun h162 => ?_) (fun h162 => ?_)
      · replace hf := (if_neg h162).symm.trans hf
        refine lv_aload_n C.1.1 C.1.2.1 dX2_firstFault_41 rfl (lv_at hl 0 rfl) ?_
        refine lv_iload_n C.1.1 C.1.2.1 dX2_firstFault_42 rfl (lv_at hl 1 rfl) ?_
        refine lv_iconst (v := (1 : Int32)) C.1.1 C.1.2.1 dX2_firstFault_43 (by decide) ?_
        refine lv_iadd C.1.1 C.1.2.1 dX2_firstFault_44 ?_
        refine zp_X2_37 C Z dX2_firstFault_45 (fun H locs Z => ?_)
        obtain ⟨mem163, hm163, hf⟩ := zlet_some hf
        rw [← hm163] at Z
        refine lv_aload_n C.1.1 C.1.2.1 dX2_firstFault_48 rfl (lv_at hl 0 rfl) ?_
        obtain ⟨r164, mem164, hc164, hf⟩ := zb_some hf
        refine z_callVv (k := 1) (As := []) (rest := []) C Z (M_X2_nextToken l G C.2.1 N mem163 r164 mem164 hc164) (zcw_X2_47 C.1.2.2.2.2 ⟨Nat.le_of_ble_eq_true rfl, Nat.le_of_ble_eq_true rfl⟩) (by decide) rfl rfl rfl hl.1 rfl (Nat.le_of_ble_eq_true rfl) ⟨Nat.le_refl 0, Nat.le_refl 0⟩ dX2_firstFault_49 (fun H locs Z => ?_)
        refine lv_aload_n C.1.1 C.1.2.1 dX2_firstFault_52 rfl (lv_at hl 0 rfl) ?_
        refine zg_X2_44 C Z dX2_firstFault_53 ?_
        refine lv_aload_n C.1.1 C.1.2.1 dX2_firstFault_56 rfl (lv_at hl 0 rfl) ?_
        refine zg_X2_24 C Z dX2_firstFault_57 ?_
        refine lv_icmp_lt (tgt := 65) C.1.1 C.1.2.1 dX2_firstFault_60 (by decide) (fun h165 => ?_) (fun h165 => ?_)
        · replace hf := (if_pos h165).symm.trans hf
          refine lv_aload_n C.1.1 C.1.2.1 dX2_firstFault_65 rfl (lv_at hl 0 rfl) ?_
          refine zg_X2_9 C Z dX2_firstFault_66 ?_
          refine lv_aload_n C.1.1 C.1.2.1 dX2_firstFault_69 rfl (lv_at hl 0 rfl) ?_
          refine zg_X2_44 C Z dX2_firstFault_70 ?_
          obtain ⟨hi166, hf⟩ := zgd_some hf
          refine z_iald (k := 2) C Z (by decide) rfl hi166 dX2_firstFault_73 ?_
          refine lv_bipush (v := (59 : Int32)) C.1.1 C.1.2.1 dX2_firstFault_74 (by decide) ?_
          refine lv_icmp_eq (tgt := 84) C.1.1 C.1.2.1 dX2_firstFault_76 (by decide) (fun h167 => ?_) (fun h167 => ?_)
          · replace hf := (if_pos h167).symm.trans hf
            refine lv_iinc (v := (x3 + 1)) (lv' := [(3, .int (x3 + 1)), (0, .ref (zr G 1))]) C.1.1 C.1.2.1 dX2_firstFault_84 hl (k := 1) rfl rfl (by decide) rfl (fun ls hl => ?_)
            refine lv_goto (tgt := 22) C.1.1 C.1.2.1 dX2_firstFault_87 (by decide) ?_
            exact ih mem164 (x3 + 1) _ _ _ Z (lv_sub hl [1, 0] rfl) hf
          · replace hf := (if_neg h167).symm.trans hf
            refine lv_aload_n C.1.1 C.1.2.1 dX2_firstFault_79 rfl (lv_at hl 0 rfl) ?_
            refine zg_X2_44 C Z dX2_firstFault_80 ?_
            cases hf
            exact z_iret C Z hr hlk dX2_firstFault_83
        · replace hf := (if_neg h165).symm.trans hf
          refine lv_iconst (v := (-1 : Int32)) C.1.1 C.1.2.1 dX2_firstFault_63 (by decide) ?_
          cases hf
          exact z_iret C Z hr hlk dX2_firstFault_64
      · replace hf := (if_pos h162).symm.trans hf
        refine lv_aload_n C.1.1 C.1.2.1 dX2_firstFault_36 rfl (lv_at hl 0 rfl) ?_
        refine zg_X2_44 C Z dX2_firstFault_37 ?_
        cases hf
        exact z_iret C Z hr hlk dX2_firstFault_40
set_option maxHeartbeats 4000000 in
set_option maxRecDepth 100000 in
theorem M_X2_firstFault (l : Launch) (G : zG) (hG : zOK G) (N : Nat) (mem : zMem) (a1 : Int32) (a2 : Int32) (r : Int32) (mem' : zMem) (hf : f_X2_firstFault N mem a1 a2 = some (r, mem')) : zM l G yX2_firstFault cX2_firstFault 4 (some .int) 7 150 [.ref (zr G 1), .int a1, .int a2] mem (zQi G r mem') := by
  refine zStart hG (by decide +kernel) (Nat.le_of_ble_eq_true rfl) (fun p e s m below meth c C hr hlk ls hl Z => ?_)
  have hl : lv_has ls 4 [(0, .ref (zr G 1)), (1, .int a1), (2, .int a2)] := hl
  have C : zC (zAd G) G p s m _ c cX2_firstFault 4 RX2 := C
  unfold f_X2_firstFault at hf
  refine lv_aload_n C.1.1 C.1.2.1 dX2_firstFault_0 rfl (lv_at hl 0 rfl) ?_
  refine lv_iload_n C.1.1 C.1.2.1 dX2_firstFault_1 rfl (lv_at hl 1 rfl) ?_
  refine zp_X2_28 C Z dX2_firstFault_2 (fun H locs Z => ?_)
  obtain ⟨mem168, hm168, hf⟩ := zlet_some hf
  rw [← hm168] at Z
  refine lv_aload_n C.1.1 C.1.2.1 dX2_firstFault_5 rfl (lv_at hl 0 rfl) ?_
  refine lv_iload_n C.1.1 C.1.2.1 dX2_firstFault_6 rfl (lv_at hl 2 rfl) ?_
  refine zp_X2_31 C Z dX2_firstFault_7 (fun H locs Z => ?_)
  obtain ⟨mem169, hm169, hf⟩ := zlet_some hf
  rw [← hm169] at Z
  refine lv_aload_n C.1.1 C.1.2.1 dX2_firstFault_10 rfl (lv_at hl 0 rfl) ?_
  refine lv_iconst (v := (0 : Int32)) C.1.1 C.1.2.1 dX2_firstFault_11 (by decide) ?_
  refine zp_X2_34 C Z dX2_firstFault_12 (fun H locs Z => ?_)
  obtain ⟨mem170, hm170, hf⟩ := zlet_some hf
  rw [← hm170] at Z
  refine lv_aload_n C.1.1 C.1.2.1 dX2_firstFault_15 rfl (lv_at hl 0 rfl) ?_
  refine lv_iconst (v := (0 : Int32)) C.1.1 C.1.2.1 dX2_firstFault_16 (by decide) ?_
  refine zp_X2_37 C Z dX2_firstFault_17 (fun H locs Z => ?_)
  obtain ⟨mem171, hm171, hf⟩ := zlet_some hf
  rw [← hm171] at Z
  refine lv_iconst (v := (0 : Int32)) C.1.1 C.1.2.1 dX2_firstFault_20 (by decide) ?_
  refine lv_istore_n (lv' := [(3, .int (0 : Int32)), (0, .ref (zr G 1)), (1, .int a1), (2, .int a2)]) C.1.1 C.1.2.1 dX2_firstFault_21 rfl hl (by decide) rfl (fun ls hl => ?_)
  exact K_X2_firstFault_22 (l := l) (e := e) (below := below) C hr hlk N N mem171 (0 : Int32) _ _ _ Z (lv_sub hl [1, 0] rfl) hf
set_option maxHeartbeats 4000000 in
set_option maxRecDepth 100000 in
theorem M_X3_beginAsTold (l : Launch) (G : zG) (hG : zOK G) (N : Nat) (w : Nat) (hw : zW w = true) (mem : zMem) (r : Unit) (mem' : zMem) (hf : f_X3_beginAsTold N w mem = some (r, mem')) : zM l G yX3_beginAsTold cX3_beginAsTold 2 none 1 18 [.ref (zr G w), .ref (zr G 6)] mem (zQv G mem') := by
  refine zStart hG (by decide +kernel) (Nat.le_of_ble_eq_true rfl) (fun p e s m below meth c C hr hlk ls hl Z => ?_)
  have hl : lv_has ls 2 [(0, .ref (zr G w)), (1, .ref (zr G 6))] := hl
  have C : zC (zAd G) G p s m _ c cX3_beginAsTold 2 RX3 := C
  unfold f_X3_beginAsTold at hf
  refine lv_aload_n C.1.1 C.1.2.1 dX3_beginAsTold_0 rfl (lv_at hl 1 rfl) ?_
  refine zg_X3_15 C Z dX3_beginAsTold_1 ?_
  refine lv_iconst (v := (0 : Int32)) C.1.1 C.1.2.1 dX3_beginAsTold_4 (by decide) ?_
  refine lv_aload_n C.1.1 C.1.2.1 dX3_beginAsTold_5 rfl (lv_at hl 0 rfl) ?_
  refine zg_X3_9 hw C Z dX3_beginAsTold_6 ?_
  refine lv_iconst (v := (0 : Int32)) C.1.1 C.1.2.1 dX3_beginAsTold_9 (by decide) ?_
  refine lv_bipush (v := (6 : Int32)) C.1.1 C.1.2.1 dX3_beginAsTold_10 (by decide) ?_
  refine z_cpy6 (a := 10) (b := (w + 1)) C Z hl.1 (by decide) (zW_lt hw).2 (fun _ => rfl) (zcf_Ws hw _) lkA_X3_20 lkA_native lkA_static lkN_J10 (Nat.le_of_ble_eq_true rfl) (Nat.le_of_ble_eq_true rfl) dX3_beginAsTold_12 (fun H locs Z => ?_)
  obtain ⟨mem172, hm172, hf⟩ := zlet_some hf
  rw [← hm172] at Z
  refine lv_aload_n C.1.1 C.1.2.1 dX3_beginAsTold_15 rfl (lv_at hl 0 rfl) ?_
  refine lv_iconst (v := (0 : Int32)) C.1.1 C.1.2.1 dX3_beginAsTold_16 (by decide) ?_
  refine zp_X3_26 hw C Z dX3_beginAsTold_17 (fun H locs Z => ?_)
  obtain ⟨mem173, hm173, hf⟩ := zlet_some hf
  rw [← hm173] at Z
  refine lv_aload_n C.1.1 C.1.2.1 dX3_beginAsTold_20 rfl (lv_at hl 0 rfl) ?_
  refine lv_iconst (v := (0 : Int32)) C.1.1 C.1.2.1 dX3_beginAsTold_21 (by decide) ?_
  refine zp_X3_30 hw C Z dX3_beginAsTold_22 (fun H locs Z => ?_)
  obtain ⟨mem174, hm174, hf⟩ := zlet_some hf
  rw [← hm174] at Z
  refine lv_aload_n C.1.1 C.1.2.1 dX3_beginAsTold_25 rfl (lv_at hl 0 rfl) ?_
  refine lv_aload_n C.1.1 C.1.2.1 dX3_beginAsTold_26 rfl (lv_at hl 1 rfl) ?_
  refine zg_X3_33 C Z dX3_beginAsTold_27 ?_
  refine zp_X3_36 hw C Z dX3_beginAsTold_30 (fun H locs Z => ?_)
  obtain ⟨mem175, hm175, hf⟩ := zlet_some hf
  rw [← hm175] at Z
  refine lv_aload_n C.1.1 C.1.2.1 dX3_beginAsTold_33 rfl (lv_at hl 0 rfl) ?_
  refine lv_iconst (v := (0 : Int32)) C.1.1 C.1.2.1 dX3_beginAsTold_34 (by decide) ?_
  refine zp_X3_39 hw C Z dX3_beginAsTold_35 (fun H locs Z => ?_)
  obtain ⟨mem176, hm176, hf⟩ := zlet_some hf
  rw [← hm176] at Z
  refine lv_aload_n C.1.1 C.1.2.1 dX3_beginAsTold_38 rfl (lv_at hl 0 rfl) ?_
  refine lv_iconst (v := (0 : Int32)) C.1.1 C.1.2.1 dX3_beginAsTold_39 (by decide) ?_
  refine zp_X3_42 hw C Z dX3_beginAsTold_40 (fun H locs Z => ?_)
  obtain ⟨mem177, hm177, hf⟩ := zlet_some hf
  rw [← hm177] at Z
  refine lv_aload_n C.1.1 C.1.2.1 dX3_beginAsTold_43 rfl (lv_at hl 0 rfl) ?_
  refine lv_iconst (v := (0 : Int32)) C.1.1 C.1.2.1 dX3_beginAsTold_44 (by decide) ?_
  refine zp_X3_45 hw C Z dX3_beginAsTold_45 (fun H locs Z => ?_)
  obtain ⟨mem178, hm178, hf⟩ := zlet_some hf
  rw [← hm178] at Z
  cases hf
  exact z_vret C Z hr hlk dX3_beginAsTold_48
set_option maxHeartbeats 4000000 in
set_option maxRecDepth 100000 in
theorem K_X3_end_2 {p : Program} {l : Launch} {e : Env} {s : State} {m : MethodId} {args : Array Value} {below : List Frame} {meth : Method} {c : Code} {G : zG} (w : Nat) (hw : zW w = true) (C : zC (zAd G) G p s m args c cX3_end 3 RX3) (hr : meth.sig.returnType = none) (hlk : meth.locks = false) {r : Unit} {mem' : zMem} (N : Nat) : ∀ (n : Nat) (mem : zMem) (x1 : Int32) (x2 : Int32) (H : Heap) (locs : List Loc) (ls : Array Slot), zH (zAd G) G s mem H locs → lv_has ls 3 [(0, .ref (zr G w)), (1, .int x1), (2, .int x2)] → f_X3_end_2 N w n mem x1 x2 = some (r, mem') → W p l e ({ frames := 0, cells := 0, slots := 0, locals := 0 } : Room) s m args below meth c H locs 0 0 (MQ below (zQv G mem') args s 0 0 (zAd G)) (F0 m 2 ls []) := by
  intro n
  induction n with
  | zero =>
    intro mem x1 x2 H locs ls Z hl hf
    rw [f_X3_end_2.eq_1] at hf
    cases hf
  | succ n ih =>
    intro mem x1 x2 H locs ls Z hl hf
    rw [f_X3_end_2.eq_2] at hf
    refine lv_iload_n C.1.1 C.1.2.1 dX3_end_2 rfl (lv_at hl 2 rfl) ?_
    refine lv_bipush (v := (6 : Int32)) C.1.1 C.1.2.1 dX3_end_3 (by decide) ?_
    refine lv_icmp_ge (tgt := 36) C.1.1 C.1.2.1 dX3_end_5 (by decide) (fun h179 => ?_) (fun h179 => ?_)
    · replace hf := (if_pos h179).symm.trans hf
      refine lv_aload_n C.1.1 C.1.2.1 dX3_end_36 rfl (lv_at hl 0 rfl) ?_
      refine lv_iconst (v := (0 : Int32)) C.1.1 C.1.2.1 dX3_end_37 (by decide) ?_
      refine zp_X3_26 hw C Z dX3_end_38 (fun H locs Z => ?_)
      obtain ⟨mem180, hm180, hf⟩ := zlet_some hf
      rw [← hm180] at Z
      refine lv_aload_n C.1.1 C.1.2.1 dX3_end_41 rfl (lv_at hl 0 rfl) ?_
      refine lv_iconst (v := (0 : Int32)) C.1.1 C.1.2.1 dX3_end_42 (by decide) ?_
      refine zp_X3_30 hw C Z dX3_end_43 (fun H locs Z => ?_)
      obtain ⟨mem181, hm181, hf⟩ := zlet_some hf
      rw [← hm181] at Z
      refine lv_aload_n C.1.1 C.1.2.1 dX3_end_46 rfl (lv_at hl 0 rfl) ?_
      refine lv_dup C.1.1 C.1.2.1 dX3_end_47 rfl ?_
      refine zg_X3_39 hw C Z dX3_end_48 ?_
      refine lv_iconst (v := (1 : Int32)) C.1.1 C.1.2.1 dX3_end_51 (by decide) ?_
      refine lv_iadd C.1.1 C.1.2.1 dX3_end_52 ?_
      refine zp_X3_39 hw C Z dX3_end_53 (fun H locs Z => ?_)
      obtain ⟨mem182, hm182, hf⟩ := zlet_some hf
      rw [← hm182] at Z
      refine lv_aload_n C.1.1 C.1.2.1 dX3_end_56 rfl (lv_at hl 0 rfl) ?_
      refine lv_dup C.1.1 C.1.2.1 dX3_end_57 rfl ?_
      refine zg_X3_45 hw C Z dX3_end_58 ?_
      refine lv_iload_n C.1.1 C.1.2.1 dX3_end_61 rfl (lv_at hl 1 rfl) ?_
      refine lv_if_eq (tgt := 69) C.1.1 C.1.2.1 dX3_end_62 (by decide) (fun h183 => ?_) (fun h183 => ?_)
      · replace hf := (if_pos h183).symm.trans hf
        refine lv_iconst (v := (0 : Int32)) C.1.1 C.1.2.1 dX3_end_69 (by decide) ?_
        refine lv_iadd C.1.1 C.1.2.1 dX3_end_70 ?_
        refine zp_X3_45 hw C Z dX3_end_71 (fun H locs Z => ?_)
        obtain ⟨mem184, hm184, hf⟩ := zlet_some hf
        rw [← hm184] at Z
        cases hf
        exact z_vret C Z hr hlk dX3_end_74
      · replace hf := (if_neg h183).symm.trans hf
        refine lv_iconst (v := (1 : Int32)) C.1.1 C.1.2.1 dX3_end_65 (by decide) ?_
        refine lv_goto (tgt := 70) C.1.1 C.1.2.1 dX3_end_66 (by decide) ?_
        refine lv_iadd C.1.1 C.1.2.1 dX3_end_70 ?_
        refine zp_X3_45 hw C Z dX3_end_71 (fun H locs Z => ?_)
        obtain ⟨mem185, hm185, hf⟩ := zlet_some hf
        rw [← hm185] at Z
        cases hf
        exact z_vret C Z hr hlk dX3_end_74
    · replace hf := (if_neg h179).symm.trans hf
      refine lv_aload_n C.1.1 C.1.2.1 dX3_end_8 rfl (lv_at hl 0 rfl) ?_
      refine zg_X3_9 hw C Z dX3_end_9 ?_
      refine lv_iload_n C.1.1 C.1.2.1 dX3_end_12 rfl (lv_at hl 2 rfl) ?_
      refine lv_iload_n C.1.1 C.1.2.1 dX3_end_13 rfl (lv_at hl 1 rfl) ?_
      refine lv_if_eq (tgt := 21) C.1.1 C.1.2.1 dX3_end_14 (by decide) (fun h186 => ?_) (fun h186 => ?_)
      · replace hf := (if_pos h186).symm.trans hf
        refine lv_aload_n C.1.1 C.1.2.1 dX3_end_21 rfl (lv_at hl 0 rfl) ?_
        refine zg_X3_9 hw C Z dX3_end_22 ?_
        refine lv_iload_n C.1.1 C.1.2.1 dX3_end_25 rfl (lv_at hl 2 rfl) ?_
        obtain ⟨hi187, hf⟩ := zgd_some hf
        refine z_iald (k := (w + 1)) C Z (zW_lt hw).2 (zcf_Ws hw _ _) hi187 dX3_end_26 ?_
        refine lv_iconst (v := (2 : Int32)) C.1.1 C.1.2.1 dX3_end_27 (by decide) ?_
        refine lv_idiv C.1.1 C.1.2.1 dX3_end_28 (by decide) ?_
        obtain ⟨hi188, hf⟩ := zgd_some hf
        refine z_iast (k := (w + 1)) C Z (zW_lt hw).2 (zcf_Ws hw _) hi188 dX3_end_29 (fun H locs Z => ?_)
        obtain ⟨mem189, hm189, hf⟩ := zlet_some hf
        rw [← hm189] at Z
        refine lv_iinc (v := (x2 + 1)) (lv' := [(2, .int (x2 + 1)), (0, .ref (zr G w)), (1, .int x1)]) C.1.1 C.1.2.1 dX3_end_30 hl (k := 2) rfl rfl (by decide) rfl (fun ls hl => ?_)
        refine lv_goto (tgt := 2) C.1.1 C.1.2.1 dX3_end_33 (by decide) ?_
        exact ih mem189 x1 (x2 + 1) _ _ _ Z (lv_sub hl [1, 2, 0] rfl) hf
      · replace hf := (if_neg h186).symm.trans hf
        refine lv_iconst (v := (0 : Int32)) C.1.1 C.1.2.1 dX3_end_17 (by decide) ?_
        refine lv_goto (tgt := 29) C.1.1 C.1.2.1 dX3_end_18 (by decide) ?_
        obtain ⟨hi190, hf⟩ := zgd_some hf
        refine z_iast (k := (w + 1)) C Z (zW_lt hw).2 (zcf_Ws hw _) hi190 dX3_end_29 (fun H locs Z => ?_)
        obtain ⟨mem191, hm191, hf⟩ := zlet_some hf
        rw [← hm191] at Z
        refine lv_iinc (v := (x2 + 1)) (lv' := [(2, .int (x2 + 1)), (0, .ref (zr G w)), (1, .int x1)]) C.1.1 C.1.2.1 dX3_end_30 hl (k := 2) rfl rfl (by decide) rfl (fun ls hl => ?_)
        refine lv_goto (tgt := 2) C.1.1 C.1.2.1 dX3_end_33 (by decide) ?_
        exact ih mem191 x1 (x2 + 1) _ _ _ Z (lv_sub hl [1, 2, 0] rfl) hf
set_option maxHeartbeats 4000000 in
set_option maxRecDepth 100000 in
theorem M_X3_end (l : Launch) (G : zG) (hG : zOK G) (N : Nat) (w : Nat) (hw : zW w = true) (mem : zMem) (a1 : Int32) (r : Unit) (mem' : zMem) (hf : f_X3_end N w mem a1 = some (r, mem')) : zM l G yX3_end cX3_end 3 none 0 0 [.ref (zr G w), .int a1] mem (zQv G mem') := by
  refine zStart hG (by decide +kernel) (Nat.le_of_ble_eq_true rfl) (fun p e s m below meth c C hr hlk ls hl Z => ?_)
  have hl : lv_has ls 3 [(0, .ref (zr G w)), (1, .int a1)] := hl
  have C : zC (zAd G) G p s m _ c cX3_end 3 RX3 := C
  unfold f_X3_end at hf
  refine lv_iconst (v := (0 : Int32)) C.1.1 C.1.2.1 dX3_end_0 (by decide) ?_
  refine lv_istore_n (lv' := [(2, .int (0 : Int32)), (0, .ref (zr G w)), (1, .int a1)]) C.1.1 C.1.2.1 dX3_end_1 rfl hl (by decide) rfl (fun ls hl => ?_)
  exact K_X3_end_2 (l := l) (e := e) (below := below) (w := w) hw C hr hlk N N mem a1 (0 : Int32) _ _ _ Z (lv_sub hl [1, 2, 0] rfl) hf
set_option maxHeartbeats 4000000 in
set_option maxRecDepth 100000 in
theorem M_X3_becomeLike (l : Launch) (G : zG) (hG : zOK G) (N : Nat) (w : Nat) (o : Nat) (hw : zW w = true) (ho : zW o = true) (mem : zMem) (r : Unit) (mem' : zMem) (hf : f_X3_becomeLike N w o mem = some (r, mem')) : zM l G yX3_becomeLike cX3_becomeLike 2 none 1 18 [.ref (zr G w), .ref (zr G o)] mem (zQv G mem') := by
  refine zStart hG (by decide +kernel) (Nat.le_of_ble_eq_true rfl) (fun p e s m below meth c C hr hlk ls hl Z => ?_)
  have hl : lv_has ls 2 [(0, .ref (zr G w)), (1, .ref (zr G o))] := hl
  have C : zC (zAd G) G p s m _ c cX3_becomeLike 2 RX3 := C
  unfold f_X3_becomeLike at hf
  refine lv_aload_n C.1.1 C.1.2.1 dX3_becomeLike_0 rfl (lv_at hl 1 rfl) ?_
  refine zg_X3_9 ho C Z dX3_becomeLike_1 ?_
  refine lv_iconst (v := (0 : Int32)) C.1.1 C.1.2.1 dX3_becomeLike_4 (by decide) ?_
  refine lv_aload_n C.1.1 C.1.2.1 dX3_becomeLike_5 rfl (lv_at hl 0 rfl) ?_
  refine zg_X3_9 hw C Z dX3_becomeLike_6 ?_
  refine lv_iconst (v := (0 : Int32)) C.1.1 C.1.2.1 dX3_becomeLike_9 (by decide) ?_
  refine lv_bipush (v := (6 : Int32)) C.1.1 C.1.2.1 dX3_becomeLike_10 (by decide) ?_
  refine z_cpy6 (a := (o + 1)) (b := (w + 1)) C Z hl.1 (zW_lt ho).2 (zW_lt hw).2 (zcf_Ws ho _) (zcf_Ws hw _) lkA_X3_20 lkA_native lkA_static lkN_J10 (Nat.le_of_ble_eq_true rfl) (Nat.le_of_ble_eq_true rfl) dX3_becomeLike_12 (fun H locs Z => ?_)
  obtain ⟨mem192, hm192, hf⟩ := zlet_some hf
  rw [← hm192] at Z
  refine lv_aload_n C.1.1 C.1.2.1 dX3_becomeLike_15 rfl (lv_at hl 0 rfl) ?_
  refine lv_aload_n C.1.1 C.1.2.1 dX3_becomeLike_16 rfl (lv_at hl 1 rfl) ?_
  refine zg_X3_26 ho C Z dX3_becomeLike_17 ?_
  refine zp_X3_26 hw C Z dX3_becomeLike_20 (fun H locs Z => ?_)
  obtain ⟨mem193, hm193, hf⟩ := zlet_some hf
  rw [← hm193] at Z
  refine lv_aload_n C.1.1 C.1.2.1 dX3_becomeLike_23 rfl (lv_at hl 0 rfl) ?_
  refine lv_aload_n C.1.1 C.1.2.1 dX3_becomeLike_24 rfl (lv_at hl 1 rfl) ?_
  refine zg_X3_30 ho C Z dX3_becomeLike_25 ?_
  refine zp_X3_30 hw C Z dX3_becomeLike_28 (fun H locs Z => ?_)
  obtain ⟨mem194, hm194, hf⟩ := zlet_some hf
  rw [← hm194] at Z
  refine lv_aload_n C.1.1 C.1.2.1 dX3_becomeLike_31 rfl (lv_at hl 0 rfl) ?_
  refine lv_aload_n C.1.1 C.1.2.1 dX3_becomeLike_32 rfl (lv_at hl 1 rfl) ?_
  refine zg_X3_36 ho C Z dX3_becomeLike_33 ?_
  refine zp_X3_36 hw C Z dX3_becomeLike_36 (fun H locs Z => ?_)
  obtain ⟨mem195, hm195, hf⟩ := zlet_some hf
  rw [← hm195] at Z
  refine lv_aload_n C.1.1 C.1.2.1 dX3_becomeLike_39 rfl (lv_at hl 0 rfl) ?_
  refine lv_aload_n C.1.1 C.1.2.1 dX3_becomeLike_40 rfl (lv_at hl 1 rfl) ?_
  refine zg_X3_39 ho C Z dX3_becomeLike_41 ?_
  refine zp_X3_39 hw C Z dX3_becomeLike_44 (fun H locs Z => ?_)
  obtain ⟨mem196, hm196, hf⟩ := zlet_some hf
  rw [← hm196] at Z
  refine lv_aload_n C.1.1 C.1.2.1 dX3_becomeLike_47 rfl (lv_at hl 0 rfl) ?_
  refine lv_aload_n C.1.1 C.1.2.1 dX3_becomeLike_48 rfl (lv_at hl 1 rfl) ?_
  refine zg_X3_42 ho C Z dX3_becomeLike_49 ?_
  refine zp_X3_42 hw C Z dX3_becomeLike_52 (fun H locs Z => ?_)
  obtain ⟨mem197, hm197, hf⟩ := zlet_some hf
  rw [← hm197] at Z
  refine lv_aload_n C.1.1 C.1.2.1 dX3_becomeLike_55 rfl (lv_at hl 0 rfl) ?_
  refine lv_aload_n C.1.1 C.1.2.1 dX3_becomeLike_56 rfl (lv_at hl 1 rfl) ?_
  refine zg_X3_45 ho C Z dX3_becomeLike_57 ?_
  refine zp_X3_45 hw C Z dX3_becomeLike_60 (fun H locs Z => ?_)
  obtain ⟨mem198, hm198, hf⟩ := zlet_some hf
  rw [← hm198] at Z
  cases hf
  exact z_vret C Z hr hlk dX3_becomeLike_63
set_option maxHeartbeats 4000000 in
set_option maxRecDepth 100000 in
theorem M_X4_write (l : Launch) (G : zG) (hG : zOK G) (N : Nat) (mem : zMem) (a1 : Int32) (r : Int32) (mem' : zMem) (hf : f_X4_write N mem a1 = some (r, mem')) : zM l G yX4_write cX4_write 2 (some .int) 1 22 [.ref (zr G 0), .int a1] mem (zQi G r mem') := by
  refine zStart hG (by decide +kernel) (Nat.le_of_ble_eq_true rfl) (fun p e s m below meth c C hr hlk ls hl Z => ?_)
  have hl : lv_has ls 2 [(0, .ref (zr G 0)), (1, .int a1)] := hl
  have C : zC (zAd G) G p s m _ c cX4_write 2 RX4 := C
  unfold f_X4_write at hf
  refine lv_iload_n C.1.1 C.1.2.1 dX4_write_0 rfl (lv_at hl 1 rfl) ?_
  refine lv_iconst (v := (0 : Int32)) C.1.1 C.1.2.1 dX4_write_1 (by decide) ?_
  refine lv_sipush (v := (255 : Int32)) C.1.1 C.1.2.1 dX4_write_2 (by decide) ?_
  obtain ⟨r199, mem199, hc199, hf⟩ := zb_some hf
  refine z_callSi (As := [.int a1, .int (0 : Int32), .int (255 : Int32)]) (rest := []) C Z (M_X4_isWithin l G C.2.1 N mem a1 (0 : Int32) (255 : Int32) r199 mem199 hc199) (zcw_X4_52 C.1.2.2.2.2 ⟨Nat.le_of_ble_eq_true rfl, Nat.le_of_ble_eq_true rfl⟩) rfl hl.1 rfl (Nat.le_of_ble_eq_true rfl) ⟨Nat.le_refl 0, Nat.le_refl 0⟩ dX4_write_5 (fun H locs Z => ?_)
  refine lv_if_ne (tgt := 14) C.1.1 C.1.2.1 dX4_write_8 (by decide) (fun h200 => ?_) (fun h200 => ?_)
  · replace hf := (if_neg h200).symm.trans hf
    refine lv_aload_n C.1.1 C.1.2.1 dX4_write_14 rfl (lv_at hl 0 rfl) ?_
    refine zg_X4_10 C Z dX4_write_15 ?_
    refine lv_iload_n C.1.1 C.1.2.1 dX4_write_18 rfl (lv_at hl 1 rfl) ?_
    obtain ⟨r201, mem201, hc201, hf⟩ := zb_some hf
    refine z_callVi (k := 1) (As := [.int a1]) (rest := []) C Z (M_X2_add l G C.2.1 N mem199 a1 r201 mem201 hc201) (zcw_X4_56 C.1.2.2.2.2 ⟨Nat.le_of_ble_eq_true rfl, Nat.le_of_ble_eq_true rfl⟩) (by decide) rfl rfl rfl hl.1 rfl (Nat.le_of_ble_eq_true rfl) ⟨Nat.le_refl 0, Nat.le_refl 0⟩ dX4_write_19 (fun H locs Z => ?_)
    refine lv_if_eq (tgt := 35) C.1.1 C.1.2.1 dX4_write_22 (by decide) (fun h202 => ?_) (fun h202 => ?_)
    · replace hf := (if_pos h202).symm.trans hf
      refine lv_bipush (v := (-5 : Int32)) C.1.1 C.1.2.1 dX4_write_35 (by decide) ?_
      cases hf
      exact z_iret C Z hr hlk dX4_write_37
    · replace hf := (if_neg h202).symm.trans hf
      refine lv_aload_n C.1.1 C.1.2.1 dX4_write_25 rfl (lv_at hl 0 rfl) ?_
      refine zg_X4_10 C Z dX4_write_26 ?_
      refine zg_X4_60 C Z dX4_write_29 ?_
      refine lv_goto (tgt := 37) C.1.1 C.1.2.1 dX4_write_32 (by decide) ?_
      cases hf
      exact z_iret C Z hr hlk dX4_write_37
  · replace hf := (if_pos h200).symm.trans hf
    refine lv_bipush (v := (-3 : Int32)) C.1.1 C.1.2.1 dX4_write_11 (by decide) ?_
    cases hf
    exact z_iret C Z hr hlk dX4_write_13
set_option maxHeartbeats 4000000 in
set_option maxRecDepth 100000 in
theorem M_X4_erase (l : Launch) (G : zG) (hG : zOK G) (N : Nat) (mem : zMem) (r : Int32) (mem' : zMem) (hf : f_X4_erase N mem = some (r, mem')) : zM l G yX4_erase cX4_erase 2 (some .int) 0 0 [.ref (zr G 0)] mem (zQi G r mem') := by
  refine zStart hG (by decide +kernel) (Nat.le_of_ble_eq_true rfl) (fun p e s m below meth c C hr hlk ls hl Z => ?_)
  have hl : lv_has ls 2 [(0, .ref (zr G 0))] := hl
  have C : zC (zAd G) G p s m _ c cX4_erase 2 RX4 := C
  unfold f_X4_erase at hf
  refine lv_aload_n C.1.1 C.1.2.1 dX4_erase_0 rfl (lv_at hl 0 rfl) ?_
  refine zg_X4_10 C Z dX4_erase_1 ?_
  refine zg_X4_60 C Z dX4_erase_4 ?_
  refine lv_istore_n (lv' := [(1, .int (mem 1 4)), (0, .ref (zr G 0))]) C.1.1 C.1.2.1 dX4_erase_7 rfl hl (by decide) rfl (fun ls hl => ?_)
  refine lv_aload_n C.1.1 C.1.2.1 dX4_erase_8 rfl (lv_at hl 1 rfl) ?_
  refine zg_X4_10 C Z dX4_erase_9 ?_
  refine lv_iconst (v := (0 : Int32)) C.1.1 C.1.2.1 dX4_erase_12 (by decide) ?_
  refine zp_X4_60 C Z dX4_erase_13 (fun H locs Z => ?_)
  obtain ⟨mem203, hm203, hf⟩ := zlet_some hf
  rw [← hm203] at Z
  refine lv_iload_n C.1.1 C.1.2.1 dX4_erase_16 rfl (lv_at hl 0 rfl) ?_
  cases hf
  exact z_iret C Z hr hlk dX4_erase_17
set_option maxHeartbeats 4000000 in
set_option maxRecDepth 100000 in
theorem M_X4_fault (l : Launch) (G : zG) (hG : zOK G) (N : Nat) (mem : zMem) (r : Int32) (mem' : zMem) (hf : f_X4_fault N mem = some (r, mem')) : zM l G yX4_fault cX4_fault 1 (some .int) 8 173 [.ref (zr G 0)] mem (zQi G r mem') := by
  refine zStart hG (by decide +kernel) (Nat.le_of_ble_eq_true rfl) (fun p e s m below meth c C hr hlk ls hl Z => ?_)
  have hl : lv_has ls 1 [(0, .ref (zr G 0))] := hl
  have C : zC (zAd G) G p s m _ c cX4_fault 1 RX4 := C
  unfold f_X4_fault at hf
  refine lv_aload_n C.1.1 C.1.2.1 dX4_fault_0 rfl (lv_at hl 0 rfl) ?_
  refine zg_X4_10 C Z dX4_fault_1 ?_
  refine lv_aload_n C.1.1 C.1.2.1 dX4_fault_4 rfl (lv_at hl 0 rfl) ?_
  refine zg_X4_19 C Z dX4_fault_5 ?_
  refine zg_X4_64 C Z dX4_fault_8 ?_
  refine lv_aload_n C.1.1 C.1.2.1 dX4_fault_11 rfl (lv_at hl 0 rfl) ?_
  refine zg_X4_19 C Z dX4_fault_12 ?_
  refine zg_X4_67 C Z dX4_fault_15 ?_
  obtain ⟨r204, mem204, hc204, hf⟩ := zb_some hf
  refine z_callVi (k := 1) (As := [.int (mem 6 4), .int (mem 6 5)]) (rest := []) C Z (M_X2_firstFault l G C.2.1 N mem (mem 6 4) (mem 6 5) r204 mem204 hc204) (zcw_X4_70 C.1.2.2.2.2 ⟨Nat.le_of_ble_eq_true rfl, Nat.le_of_ble_eq_true rfl⟩) (by decide) rfl rfl rfl hl.1 rfl (Nat.le_of_ble_eq_true rfl) ⟨Nat.le_refl 0, Nat.le_refl 0⟩ dX4_fault_18 (fun H locs Z => ?_)
  cases hf
  exact z_iret C Z hr hlk dX4_fault_21
set_option maxHeartbeats 4000000 in
set_option maxRecDepth 100000 in
theorem K_X4_beginAnew_20 {p : Program} {l : Launch} {e : Env} {s : State} {m : MethodId} {args : Array Value} {below : List Frame} {meth : Method} {c : Code} {G : zG} (C : zC (zAd G) G p s m args c cX4_beginAnew 2 RX4) (hr : meth.sig.returnType = none) (hlk : meth.locks = false) {r : Unit} {mem' : zMem} (N : Nat) : ∀ (n : Nat) (mem : zMem) (x1 : Int32) (H : Heap) (locs : List Loc) (ls : Array Slot), zH (zAd G) G s mem H locs → lv_has ls 2 [(0, .ref (zr G 0)), (1, .int x1)] → f_X4_beginAnew_20 N n mem x1 = some (r, mem') → W p l e ({ frames := 2, cells := 0, slots := 0, locals := 39 } : Room) s m args below meth c H locs 0 0 (MQ below (zQv G mem') args s 0 0 (zAd G)) (F0 m 20 ls []) := by
  intro n
  induction n with
  | zero =>
    intro mem x1 H locs ls Z hl hf
    rw [f_X4_beginAnew_20.eq_1] at hf
    cases hf
  | succ n ih =>
    intro mem x1 H locs ls Z hl hf
    rw [f_X4_beginAnew_20.eq_2] at hf
    refine lv_iload_n C.1.1 C.1.2.1 dX4_beginAnew_20 rfl (lv_at hl 1 rfl) ?_
    refine lv_iconst (v := (2 : Int32)) C.1.1 C.1.2.1 dX4_beginAnew_21 (by decide) ?_
    refine lv_icmp_ge (tgt := 38) C.1.1 C.1.2.1 dX4_beginAnew_22 (by decide) (fun h205 => ?_) (fun h205 => ?_)
    · replace hf := (if_pos h205).symm.trans hf
      refine lv_aload_n C.1.1 C.1.2.1 dX4_beginAnew_38 rfl (lv_at hl 0 rfl) ?_
      refine lv_iconst (v := (0 : Int32)) C.1.1 C.1.2.1 dX4_beginAnew_39 (by decide) ?_
      refine zp_X4_101 C Z dX4_beginAnew_40 (fun H locs Z => ?_)
      obtain ⟨mem206, hm206, hf⟩ := zlet_some hf
      rw [← hm206] at Z
      cases hf
      exact z_vret C Z hr hlk dX4_beginAnew_43
    · replace hf := (if_neg h205).symm.trans hf
      refine lv_aload_n C.1.1 C.1.2.1 dX4_beginAnew_25 rfl (lv_at hl 0 rfl) ?_
      refine zg_X4_41 C Z dX4_beginAnew_26 ?_
      refine lv_iload_n C.1.1 C.1.2.1 dX4_beginAnew_29 rfl (lv_at hl 1 rfl) ?_
      refine lv_iconst (v := (0 : Int32)) C.1.1 C.1.2.1 dX4_beginAnew_30 (by decide) ?_
      obtain ⟨hi207, hf⟩ := zgd_some hf
      refine z_bast (k := 35) C Z (by decide) (fun _ => rfl) hi207 dX4_beginAnew_31 (fun H locs Z => ?_)
      obtain ⟨mem208, hm208, hf⟩ := zlet_some hf
      rw [← hm208] at Z
      refine lv_iinc (v := (x1 + 1)) (lv' := [(1, .int (x1 + 1)), (0, .ref (zr G 0))]) C.1.1 C.1.2.1 dX4_beginAnew_32 hl (k := 1) rfl rfl (by decide) rfl (fun ls hl => ?_)
      refine lv_goto (tgt := 20) C.1.1 C.1.2.1 dX4_beginAnew_35 (by decide) ?_
      exact ih mem208 (x1 + 1) _ _ _ Z (lv_sub hl [1, 0] rfl) hf
set_option maxHeartbeats 4000000 in
set_option maxRecDepth 100000 in
theorem M_X4_beginAnew (l : Launch) (G : zG) (hG : zOK G) (N : Nat) (mem : zMem) (r : Unit) (mem' : zMem) (hf : f_X4_beginAnew N mem = some (r, mem')) : zM l G yX4_beginAnew cX4_beginAnew 2 none 2 39 [.ref (zr G 0)] mem (zQv G mem') := by
  refine zStart hG (by decide +kernel) (Nat.le_of_ble_eq_true rfl) (fun p e s m below meth c C hr hlk ls hl Z => ?_)
  have hl : lv_has ls 2 [(0, .ref (zr G 0))] := hl
  have C : zC (zAd G) G p s m _ c cX4_beginAnew 2 RX4 := C
  unfold f_X4_beginAnew at hf
  refine lv_aload_n C.1.1 C.1.2.1 dX4_beginAnew_0 rfl (lv_at hl 0 rfl) ?_
  refine zg_X4_26 C Z dX4_beginAnew_1 ?_
  refine lv_aload_n C.1.1 C.1.2.1 dX4_beginAnew_4 rfl (lv_at hl 0 rfl) ?_
  refine zg_X4_19 C Z dX4_beginAnew_5 ?_
  obtain ⟨r209, mem209, hc209, hf⟩ := zb_some hf
  refine z_callVv (k := 11) (As := [.ref (zr G 6)]) (rest := []) C Z (M_X3_beginAsTold l G C.2.1 N 11 (by decide) mem r209 mem209 hc209) (zcw_X4_94 C.1.2.2.2.2 ⟨Nat.le_of_ble_eq_true rfl, Nat.le_of_ble_eq_true rfl⟩) (by decide) rfl rfl rfl hl.1 rfl (Nat.le_of_ble_eq_true rfl) ⟨Nat.le_refl 0, Nat.le_refl 0⟩ dX4_beginAnew_8 (fun H locs Z => ?_)
  refine lv_aload_n C.1.1 C.1.2.1 dX4_beginAnew_11 rfl (lv_at hl 0 rfl) ?_
  refine zg_X4_48 C Z dX4_beginAnew_12 ?_
  obtain ⟨r210, mem210, hc210, hf⟩ := zb_some hf
  refine z_callVv (k := 36) (As := []) (rest := []) C Z (M_X0_clear l G C.2.1 N mem209 r210 mem210 hc210) (zcw_X4_98 C.1.2.2.2.2 ⟨Nat.le_of_ble_eq_true rfl, Nat.le_of_ble_eq_true rfl⟩) (by decide) rfl rfl rfl hl.1 rfl (Nat.le_of_ble_eq_true rfl) ⟨Nat.le_refl 0, Nat.le_refl 0⟩ dX4_beginAnew_15 (fun H locs Z => ?_)
  refine lv_iconst (v := (0 : Int32)) C.1.1 C.1.2.1 dX4_beginAnew_18 (by decide) ?_
  refine lv_istore_n (lv' := [(1, .int (0 : Int32)), (0, .ref (zr G 0))]) C.1.1 C.1.2.1 dX4_beginAnew_19 rfl hl (by decide) rfl (fun ls hl => ?_)
  exact K_X4_beginAnew_20 (l := l) (e := e) (below := below) C hr hlk N N mem210 (0 : Int32) _ _ _ Z (lv_sub hl [1, 0] rfl) hf
set_option maxHeartbeats 4000000 in
set_option maxRecDepth 100000 in
theorem K_X4_kirk_38 {p : Program} {l : Launch} {e : Env} {s : State} {m : MethodId} {args : Array Value} {below : List Frame} {meth : Method} {c : Code} {G : zG} (C : zC (zAd G) G p s m args c cX4_kirk 3 RX4) (hr : meth.sig.returnType = (some .int)) (hlk : meth.locks = false) {r : Int32} {mem' : zMem} (N : Nat) : ∀ (n : Nat) (mem : zMem) (x1 : Int32) (x2 : Int32) (H : Heap) (locs : List Loc) (ls : Array Slot), zH (zAd G) G s mem H locs → lv_has ls 3 [(0, .ref (zr G 0)), (1, .int x1), (2, .int x2)] → f_X4_kirk_38 N n mem x1 x2 = some (r, mem') → W p l e ({ frames := 8, cells := 0, slots := 0, locals := 173 } : Room) s m args below meth c H locs 0 0 (MQ below (zQi G r mem') args s 0 0 (zAd G)) (F0 m 38 ls []) := by
  intro n
  induction n with
  | zero =>
    intro mem x1 x2 H locs ls Z hl hf
    rw [f_X4_kirk_38.eq_1] at hf
    cases hf
  | succ n ih =>
    intro mem x1 x2 H locs ls Z hl hf
    rw [f_X4_kirk_38.eq_2] at hf
    refine lv_iload_n C.1.1 C.1.2.1 dX4_kirk_38 rfl (lv_at hl 2 rfl) ?_
    refine lv_iload_n C.1.1 C.1.2.1 dX4_kirk_39 rfl (lv_at hl 1 rfl) ?_
    refine lv_icmp_ge (tgt := 83) C.1.1 C.1.2.1 dX4_kirk_40 (by decide) (fun h211 => ?_) (fun h211 => ?_)
    · replace hf := (if_pos h211).symm.trans hf
      refine lv_aload_n C.1.1 C.1.2.1 dX4_kirk_83 rfl (lv_at hl 0 rfl) ?_
      refine zg_X4_10 C Z dX4_kirk_84 ?_
      refine lv_iconst (v := (0 : Int32)) C.1.1 C.1.2.1 dX4_kirk_87 (by decide) ?_
      refine zp_X4_60 C Z dX4_kirk_88 (fun H locs Z => ?_)
      obtain ⟨mem212, hm212, hf⟩ := zlet_some hf
      rw [← hm212] at Z
      refine lv_aload_n C.1.1 C.1.2.1 dX4_kirk_91 rfl (lv_at hl 0 rfl) ?_
      obtain ⟨r213, mem213, hc213, hf⟩ := zb_some hf
      refine z_callVv (k := 0) (As := []) (rest := []) C Z (M_X4_beginAnew l G C.2.1 N mem212 r213 mem213 hc213) (zcw_X4_91 C.1.2.2.2.2 ⟨Nat.le_of_ble_eq_true rfl, Nat.le_of_ble_eq_true rfl⟩) (by decide) rfl rfl rfl hl.1 rfl (Nat.le_of_ble_eq_true rfl) ⟨Nat.le_refl 0, Nat.le_refl 0⟩ dX4_kirk_92 (fun H locs Z => ?_)
      refine lv_iload_n C.1.1 C.1.2.1 dX4_kirk_95 rfl (lv_at hl 1 rfl) ?_
      cases hf
      exact z_iret C Z hr hlk dX4_kirk_96
    · replace hf := (if_neg h211).symm.trans hf
      refine lv_aload_n C.1.1 C.1.2.1 dX4_kirk_43 rfl (lv_at hl 0 rfl) ?_
      refine zg_X4_19 C Z dX4_kirk_44 ?_
      refine lv_aload_n C.1.1 C.1.2.1 dX4_kirk_47 rfl (lv_at hl 0 rfl) ?_
      refine zg_X4_10 C Z dX4_kirk_48 ?_
      refine zg_X4_77 C Z dX4_kirk_51 ?_
      refine lv_iload_n C.1.1 C.1.2.1 dX4_kirk_54 rfl (lv_at hl 2 rfl) ?_
      obtain ⟨hi214, hf⟩ := zgd_some hf
      refine z_iald (k := 3) C Z (by decide) rfl hi214 dX4_kirk_55 ?_
      refine lv_aload_n C.1.1 C.1.2.1 dX4_kirk_56 rfl (lv_at hl 0 rfl) ?_
      refine zg_X4_10 C Z dX4_kirk_57 ?_
      refine zg_X4_81 C Z dX4_kirk_60 ?_
      refine lv_iload_n C.1.1 C.1.2.1 dX4_kirk_63 rfl (lv_at hl 2 rfl) ?_
      obtain ⟨hi215, hf⟩ := zgd_some hf
      refine z_iald (k := 4) C Z (by decide) rfl hi215 dX4_kirk_64 ?_
      refine lv_aload_n C.1.1 C.1.2.1 dX4_kirk_65 rfl (lv_at hl 0 rfl) ?_
      refine zg_X4_10 C Z dX4_kirk_66 ?_
      refine zg_X4_84 C Z dX4_kirk_69 ?_
      refine lv_iload_n C.1.1 C.1.2.1 dX4_kirk_72 rfl (lv_at hl 2 rfl) ?_
      obtain ⟨hi216, hf⟩ := zgd_some hf
      refine z_iald (k := 5) C Z (by decide) rfl hi216 dX4_kirk_73 ?_
      obtain ⟨r217, mem217, hc217, hf⟩ := zb_some hf
      refine z_callVv (k := 6) (As := [.int (mem 3 x2.toNatClampNeg), .int (mem 4 x2.toNatClampNeg), .int (mem 5 x2.toNatClampNeg)]) (rest := []) C Z (M_X1_tell l G C.2.1 N mem (mem 3 x2.toNatClampNeg) (mem 4 x2.toNatClampNeg) (mem 5 x2.toNatClampNeg) r217 mem217 hc217) (zcw_X4_87 C.1.2.2.2.2 ⟨Nat.le_of_ble_eq_true rfl, Nat.le_of_ble_eq_true rfl⟩) (by decide) rfl rfl rfl hl.1 rfl (Nat.le_of_ble_eq_true rfl) ⟨Nat.le_refl 0, Nat.le_refl 0⟩ dX4_kirk_74 (fun H locs Z => ?_)
      refine lv_iinc (v := (x2 + 1)) (lv' := [(2, .int (x2 + 1)), (0, .ref (zr G 0)), (1, .int x1)]) C.1.1 C.1.2.1 dX4_kirk_77 hl (k := 2) rfl rfl (by decide) rfl (fun ls hl => ?_)
      refine lv_goto (tgt := 38) C.1.1 C.1.2.1 dX4_kirk_80 (by decide) ?_
      exact ih mem217 x1 (x2 + 1) _ _ _ Z (lv_sub hl [1, 2, 0] rfl) hf
set_option maxHeartbeats 4000000 in
set_option maxRecDepth 100000 in
theorem M_X4_kirk (l : Launch) (G : zG) (hG : zOK G) (N : Nat) (mem : zMem) (r : Int32) (mem' : zMem) (hf : f_X4_kirk N mem = some (r, mem')) : zM l G yX4_kirk cX4_kirk 3 (some .int) 8 173 [.ref (zr G 0)] mem (zQi G r mem') := by
  refine zStart hG (by decide +kernel) (Nat.le_of_ble_eq_true rfl) (fun p e s m below meth c C hr hlk ls hl Z => ?_)
  have hl : lv_has ls 3 [(0, .ref (zr G 0))] := hl
  have C : zC (zAd G) G p s m _ c cX4_kirk 3 RX4 := C
  unfold f_X4_kirk at hf
  refine lv_aload_n C.1.1 C.1.2.1 dX4_kirk_0 rfl (lv_at hl 0 rfl) ?_
  refine zg_X4_10 C Z dX4_kirk_1 ?_
  refine lv_aload_n C.1.1 C.1.2.1 dX4_kirk_4 rfl (lv_at hl 0 rfl) ?_
  refine zg_X4_19 C Z dX4_kirk_5 ?_
  refine zg_X4_64 C Z dX4_kirk_8 ?_
  refine lv_aload_n C.1.1 C.1.2.1 dX4_kirk_11 rfl (lv_at hl 0 rfl) ?_
  refine zg_X4_19 C Z dX4_kirk_12 ?_
  refine zg_X4_67 C Z dX4_kirk_15 ?_
  obtain ⟨r218, mem218, hc218, hf⟩ := zb_some hf
  refine z_callVi (k := 1) (As := [.int (mem 6 4), .int (mem 6 5)]) (rest := []) C Z (M_X2_firstFault l G C.2.1 N mem (mem 6 4) (mem 6 5) r218 mem218 hc218) (zcw_X4_70 C.1.2.2.2.2 ⟨Nat.le_of_ble_eq_true rfl, Nat.le_of_ble_eq_true rfl⟩) (by decide) rfl rfl rfl hl.1 rfl (Nat.le_of_ble_eq_true rfl) ⟨Nat.le_refl 0, Nat.le_refl 0⟩ dX4_kirk_18 (fun H locs Z => ?_)
  refine lv_iconst (v := (-1 : Int32)) C.1.1 C.1.2.1 dX4_kirk_21 (by decide) ?_
  refine lv_icmp_eq (tgt := 28) C.1.1 C.1.2.1 dX4_kirk_22 (by decide) (fun h219 => ?_) (fun h219 => ?_)
  · replace hf := (if_pos h219).symm.trans hf
    refine lv_aload_n C.1.1 C.1.2.1 dX4_kirk_28 rfl (lv_at hl 0 rfl) ?_
    refine zg_X4_10 C Z dX4_kirk_29 ?_
    refine zg_X4_74 C Z dX4_kirk_32 ?_
    refine lv_istore_n (lv' := [(1, .int (mem218 1 5)), (0, .ref (zr G 0))]) C.1.1 C.1.2.1 dX4_kirk_35 rfl hl (by decide) rfl (fun ls hl => ?_)
    refine lv_iconst (v := (0 : Int32)) C.1.1 C.1.2.1 dX4_kirk_36 (by decide) ?_
    refine lv_istore_n (lv' := [(2, .int (0 : Int32)), (1, .int (mem218 1 5)), (0, .ref (zr G 0))]) C.1.1 C.1.2.1 dX4_kirk_37 rfl hl (by decide) rfl (fun ls hl => ?_)
    exact K_X4_kirk_38 (l := l) (e := e) (below := below) C hr hlk N N mem218 (mem218 1 5) (0 : Int32) _ _ _ Z (lv_sub hl [2, 1, 0] rfl) hf
  · replace hf := (if_neg h219).symm.trans hf
    refine lv_bipush (v := (-4 : Int32)) C.1.1 C.1.2.1 dX4_kirk_25 (by decide) ?_
    cases hf
    exact z_iret C Z hr hlk dX4_kirk_27
set_option maxHeartbeats 4000000 in
set_option maxRecDepth 100000 in
theorem M_X4_isPart (l : Launch) (G : zG) (hG : zOK G) (N : Nat) (mem : zMem) (a1 : Int32) (r : Int32) (mem' : zMem) (hf : f_X4_isPart N mem a1 = some (r, mem')) : zM l G yX4_isPart cX4_isPart 2 (some .boolean) 0 0 [.ref (zr G 0), .int a1] mem (zQi G r mem') := by
  refine zStart hG (by decide +kernel) (Nat.le_of_ble_eq_true rfl) (fun p e s m below meth c C hr hlk ls hl Z => ?_)
  have hl : lv_has ls 2 [(0, .ref (zr G 0)), (1, .int a1)] := hl
  have C : zC (zAd G) G p s m _ c cX4_isPart 2 RX4 := C
  unfold f_X4_isPart at hf
  refine lv_iload_n C.1.1 C.1.2.1 dX4_isPart_0 rfl (lv_at hl 1 rfl) ?_
  refine lv_if_lt (tgt := 19) C.1.1 C.1.2.1 dX4_isPart_1 (by decide) (fun h220 => ?_) (fun h220 => ?_)
  · replace hf := (if_pos h220).symm.trans hf
    refine lv_iconst (v := (0 : Int32)) C.1.1 C.1.2.1 dX4_isPart_19 (by decide) ?_
    cases hf
    exact z_zret C Z hr hlk (by decide) dX4_isPart_20
  · replace hf := (if_neg h220).symm.trans hf
    refine lv_iload_n C.1.1 C.1.2.1 dX4_isPart_4 rfl (lv_at hl 1 rfl) ?_
    refine lv_aload_n C.1.1 C.1.2.1 dX4_isPart_5 rfl (lv_at hl 0 rfl) ?_
    refine zg_X4_19 C Z dX4_isPart_6 ?_
    refine zg_X4_64 C Z dX4_isPart_9 ?_
    refine lv_icmp_ge (tgt := 19) C.1.1 C.1.2.1 dX4_isPart_12 (by decide) (fun h221 => ?_) (fun h221 => ?_)
    · replace hf := (if_pos h221).symm.trans hf
      refine lv_iconst (v := (0 : Int32)) C.1.1 C.1.2.1 dX4_isPart_19 (by decide) ?_
      cases hf
      exact z_zret C Z hr hlk (by decide) dX4_isPart_20
    · replace hf := (if_neg h221).symm.trans hf
      refine lv_iconst (v := (1 : Int32)) C.1.1 C.1.2.1 dX4_isPart_15 (by decide) ?_
      refine lv_goto (tgt := 20) C.1.1 C.1.2.1 dX4_isPart_16 (by decide) ?_
      cases hf
      exact z_zret C Z hr hlk (by decide) dX4_isPart_20
