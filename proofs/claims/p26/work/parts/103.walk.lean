set_option maxHeartbeats 4000000 in
set_option maxRecDepth 100000 in
theorem K_X4_stops_33 {p : Program} {l : Launch} {e : Env} {s : State} {m : MethodId} {args : Array Value} {below : List Frame} {meth : Method} {c : Code} {G : zG} (C : zC (zAd G) G p s m args c cX4_stops 5 RX4) (hr : meth.sig.returnType = (some .int)) (hlk : meth.locks = false) {r : Int32} {mem' : zMem} (N : Nat) : ∀ (n : Nat) (mem : zMem) (x1 : Int32) (x2 : Int32) (x3 : Int32) (x4 : Int32) (H : Heap) (locs : List Loc) (ls : Array Slot), zH (zAd G) G s mem H locs → lv_has ls 5 [(0, .ref (zr G 0)), (1, .int x1), (2, .int x2), (3, .int x3), (4, .int x4)] → f_X4_stops_33 N n mem x1 x2 x3 x4 = some (r, mem') → W p l e ({ frames := 3, cells := 0, slots := 0, locals := 67 } : Room) s m args below meth c H locs 0 0 (MQ below (zQi G r mem') args s 0 0 (zAd G)) (F0 m 33 ls []) := by
  intro n
  induction n with
  | zero =>
    intro mem x1 x2 x3 x4 H locs ls Z hl hf
    rw [f_X4_stops_33.eq_1] at hf
    cases hf
  | succ n ih =>
    intro mem x1 x2 x3 x4 H locs ls Z hl hf
    rw [f_X4_stops_33.eq_2] at hf
    refine lv_iload C.1.1 C.1.2.1 dX4_stops_33 (lv_at hl 4 rfl) ?_
    refine lv_aload_n C.1.1 C.1.2.1 dX4_stops_35 rfl (lv_at hl 0 rfl) ?_
    refine zg_X4_19 C Z dX4_stops_36 ?_
    refine zg_X4_64 C Z dX4_stops_39 ?_
    refine lv_icmp_ge (tgt := 94) C.1.1 C.1.2.1 dX4_stops_42 (by decide) (fun h325 => ?_) (fun h325 => ?_)
    · replace hf := (if_pos h325).symm.trans hf
      refine lv_iconst (v := (-1 : Int32)) C.1.1 C.1.2.1 dX4_stops_94 (by decide) ?_
      cases hf
      exact z_iret C Z hr hlk dX4_stops_95
    · replace hf := (if_neg h325).symm.trans hf
      refine lv_iload C.1.1 C.1.2.1 dX4_stops_45 (lv_at hl 4 rfl) ?_
      refine lv_aload_n C.1.1 C.1.2.1 dX4_stops_47 rfl (lv_at hl 0 rfl) ?_
      refine zg_X4_26 C Z dX4_stops_48 ?_
      refine zg_X4_123 (k := 11) (by decide) C Z dX4_stops_51 ?_
      obtain ⟨r326, mem326, hc326, hf⟩ := zb_some hf
      refine z_callSi (As := [.int x4, .int (mem 11 1)]) (rest := []) C Z (M_X4_isIn l G C.2.1 N mem x4 (mem 11 1) r326 mem326 hc326) (zcw_X4_126 C.1.2.2.2.2 ⟨Nat.le_of_ble_eq_true rfl, Nat.le_of_ble_eq_true rfl⟩) rfl hl.1 rfl (Nat.le_of_ble_eq_true rfl) ⟨Nat.le_refl 0, Nat.le_refl 0⟩ dX4_stops_54 (fun H locs Z => ?_)
      refine lv_if_eq (tgt := 63) C.1.1 C.1.2.1 dX4_stops_57 (by decide) (fun h327 => ?_) (fun h327 => ?_)
      · replace hf := (if_pos h327).symm.trans hf
        refine lv_iload_n C.1.1 C.1.2.1 dX4_stops_63 rfl (lv_at hl 2 rfl) ?_
        refine lv_iconst (v := (1 : Int32)) C.1.1 C.1.2.1 dX4_stops_64 (by decide) ?_
        refine lv_iload C.1.1 C.1.2.1 dX4_stops_65 (lv_at hl 4 rfl) ?_
        refine lv_ishl C.1.1 C.1.2.1 dX4_stops_67 ?_
        refine lv_ior C.1.1 C.1.2.1 dX4_stops_68 ?_
        refine lv_istore_n (lv' := [(2, .int (x2 ||| ((1 : Int32) <<< (x4 &&& 31)))), (0, .ref (zr G 0)), (1, .int x1), (3, .int x3), (4, .int x4)]) C.1.1 C.1.2.1 dX4_stops_69 rfl hl (by decide) rfl (fun ls hl => ?_)
        refine lv_iinc (v := (x3 + 1)) (lv' := [(3, .int (x3 + 1)), (2, .int (x2 ||| ((1 : Int32) <<< (x4 &&& 31)))), (0, .ref (zr G 0)), (1, .int x1), (4, .int x4)]) C.1.1 C.1.2.1 dX4_stops_70 hl (k := 3) rfl rfl (by decide) rfl (fun ls hl => ?_)
        refine lv_aload_n C.1.1 C.1.2.1 dX4_stops_73 rfl (lv_at hl 2 rfl) ?_
        refine lv_aload_n C.1.1 C.1.2.1 dX4_stops_74 rfl (lv_at hl 2 rfl) ?_
        refine lv_iload_n C.1.1 C.1.2.1 dX4_stops_75 rfl (lv_at hl 1 rfl) ?_
        obtain ⟨r328, mem328, hc328, hf⟩ := zb_some hf
        refine z_callVi (k := 0) (As := [.int (x2 ||| ((1 : Int32) <<< (x4 &&& 31)))]) (rest := [.ref (zr G 0)]) C Z (M_X4_sermonOf l G C.2.1 N mem326 (x2 ||| ((1 : Int32) <<< (x4 &&& 31))) r328 mem328 hc328) (zcw_X4_148 C.1.2.2.2.2 ⟨Nat.le_of_ble_eq_true rfl, Nat.le_of_ble_eq_true rfl⟩) (by decide) rfl rfl rfl hl.1 rfl (Nat.le_of_ble_eq_true rfl) ⟨Nat.le_refl 0, Nat.le_refl 0⟩ dX4_stops_76 (fun H locs Z => ?_)
        refine lv_iload_n C.1.1 C.1.2.1 dX4_stops_79 rfl (lv_at hl 3 rfl) ?_
        obtain ⟨r329, mem329, hc329, hf⟩ := zb_some hf
        refine z_callVi (k := 0) (As := [.int r328, .int x1]) (rest := []) C Z (M_X4_hangsLevel l G C.2.1 N mem328 r328 x1 r329 mem329 hc329) (zcw_X4_178 C.1.2.2.2.2 ⟨Nat.le_of_ble_eq_true rfl, Nat.le_of_ble_eq_true rfl⟩) (by decide) rfl rfl rfl hl.1 rfl (Nat.le_of_ble_eq_true rfl) ⟨Nat.le_refl 0, Nat.le_refl 0⟩ dX4_stops_80 (fun H locs Z => ?_)
        refine lv_if_eq (tgt := 88) C.1.1 C.1.2.1 dX4_stops_83 (by decide) (fun h330 => ?_) (fun h330 => ?_)
        · replace hf := (if_pos h330).symm.trans hf
          refine lv_iinc (v := (x4 + 1)) (lv' := [(4, .int (x4 + 1)), (3, .int (x3 + 1)), (2, .int (x2 ||| ((1 : Int32) <<< (x4 &&& 31)))), (0, .ref (zr G 0)), (1, .int x1)]) C.1.1 C.1.2.1 dX4_stops_88 hl (k := 4) rfl rfl (by decide) rfl (fun ls hl => ?_)
          refine lv_goto (tgt := 33) C.1.1 C.1.2.1 dX4_stops_91 (by decide) ?_
          exact ih mem329 x1 (x2 ||| ((1 : Int32) <<< (x4 &&& 31))) (x3 + 1) (x4 + 1) _ _ _ Z (lv_sub hl [3, 4, 2, 1, 0] rfl) hf
        · replace hf := (if_neg h330).symm.trans hf
          refine lv_iload_n C.1.1 C.1.2.1 dX4_stops_86 rfl (lv_at hl 0 rfl) ?_
          cases hf
          exact z_iret C Z hr hlk dX4_stops_87
      · replace hf := (if_neg h327).symm.trans hf
        refine lv_goto (tgt := 88) C.1.1 C.1.2.1 dX4_stops_60 (by decide) ?_
        refine lv_iinc (v := (x4 + 1)) (lv' := [(4, .int (x4 + 1)), (0, .ref (zr G 0)), (1, .int x1), (2, .int x2), (3, .int x3)]) C.1.1 C.1.2.1 dX4_stops_88 hl (k := 4) rfl rfl (by decide) rfl (fun ls hl => ?_)
        refine lv_goto (tgt := 33) C.1.1 C.1.2.1 dX4_stops_91 (by decide) ?_
        exact ih mem326 x1 x2 x3 (x4 + 1) _ _ _ Z (lv_sub hl [1, 2, 3, 4, 0] rfl) hf
set_option maxHeartbeats 4000000 in
set_option maxRecDepth 100000 in
theorem M_X4_stops (l : Launch) (G : zG) (hG : zOK G) (N : Nat) (mem : zMem) (r : Int32) (mem' : zMem) (hf : f_X4_stops N mem = some (r, mem')) : zM l G yX4_stops cX4_stops 5 (some .int) 3 67 [.ref (zr G 0)] mem (zQi G r mem') := by
  refine zStart hG (by decide +kernel) (Nat.le_of_ble_eq_true rfl) (fun p e s m below meth c C hr hlk ls hl Z => ?_)
  have hl : lv_has ls 5 [(0, .ref (zr G 0))] := hl
  have C : zC (zAd G) G p s m _ c cX4_stops 5 RX4 := C
  unfold f_X4_stops at hf
  refine lv_aload_n C.1.1 C.1.2.1 dX4_stops_0 rfl (lv_at hl 0 rfl) ?_
  obtain ⟨r331, mem331, hc331, hf⟩ := zb_some hf
  refine z_callVi (k := 0) (As := []) (rest := []) C Z (M_X4_leadNow l G C.2.1 N mem r331 mem331 hc331) (zcw_X4_152 C.1.2.2.2.2 ⟨Nat.le_of_ble_eq_true rfl, Nat.le_of_ble_eq_true rfl⟩) (by decide) rfl rfl rfl hl.1 rfl (Nat.le_of_ble_eq_true rfl) ⟨Nat.le_refl 0, Nat.le_refl 0⟩ dX4_stops_1 (fun H locs Z => ?_)
  refine lv_istore_n (lv' := [(1, .int r331), (0, .ref (zr G 0))]) C.1.1 C.1.2.1 dX4_stops_4 rfl hl (by decide) rfl (fun ls hl => ?_)
  refine lv_aload_n C.1.1 C.1.2.1 dX4_stops_5 rfl (lv_at hl 1 rfl) ?_
  refine zg_X4_26 C Z dX4_stops_6 ?_
  refine zg_X4_123 (k := 11) (by decide) C Z dX4_stops_9 ?_
  refine lv_istore_n (lv' := [(2, .int (mem331 11 1)), (1, .int r331), (0, .ref (zr G 0))]) C.1.1 C.1.2.1 dX4_stops_12 rfl hl (by decide) rfl (fun ls hl => ?_)
  refine lv_iconst (v := (0 : Int32)) C.1.1 C.1.2.1 dX4_stops_13 (by decide) ?_
  refine lv_istore_n (lv' := [(3, .int (0 : Int32)), (2, .int (mem331 11 1)), (1, .int r331), (0, .ref (zr G 0))]) C.1.1 C.1.2.1 dX4_stops_14 rfl hl (by decide) rfl (fun ls hl => ?_)
  refine lv_aload_n C.1.1 C.1.2.1 dX4_stops_15 rfl (lv_at hl 3 rfl) ?_
  refine lv_aload_n C.1.1 C.1.2.1 dX4_stops_16 rfl (lv_at hl 3 rfl) ?_
  refine lv_iload_n C.1.1 C.1.2.1 dX4_stops_17 rfl (lv_at hl 1 rfl) ?_
  obtain ⟨r332, mem332, hc332, hf⟩ := zb_some hf
  refine z_callVi (k := 0) (As := [.int (mem331 11 1)]) (rest := [.ref (zr G 0)]) C Z (M_X4_sermonOf l G C.2.1 N mem331 (mem331 11 1) r332 mem332 hc332) (zcw_X4_148 C.1.2.2.2.2 ⟨Nat.le_of_ble_eq_true rfl, Nat.le_of_ble_eq_true rfl⟩) (by decide) rfl rfl rfl hl.1 rfl (Nat.le_of_ble_eq_true rfl) ⟨Nat.le_refl 0, Nat.le_refl 0⟩ dX4_stops_18 (fun H locs Z => ?_)
  refine lv_iload_n C.1.1 C.1.2.1 dX4_stops_21 rfl (lv_at hl 2 rfl) ?_
  obtain ⟨r333, mem333, hc333, hf⟩ := zb_some hf
  refine z_callVi (k := 0) (As := [.int r332, .int r331]) (rest := []) C Z (M_X4_hangsLevel l G C.2.1 N mem332 r332 r331 r333 mem333 hc333) (zcw_X4_178 C.1.2.2.2.2 ⟨Nat.le_of_ble_eq_true rfl, Nat.le_of_ble_eq_true rfl⟩) (by decide) rfl rfl rfl hl.1 rfl (Nat.le_of_ble_eq_true rfl) ⟨Nat.le_refl 0, Nat.le_refl 0⟩ dX4_stops_22 (fun H locs Z => ?_)
  refine lv_if_eq (tgt := 30) C.1.1 C.1.2.1 dX4_stops_25 (by decide) (fun h334 => ?_) (fun h334 => ?_)
  · replace hf := (if_pos h334).symm.trans hf
    refine lv_iconst (v := (0 : Int32)) C.1.1 C.1.2.1 dX4_stops_30 (by decide) ?_
    refine lv_istore (lv' := [(4, .int (0 : Int32)), (3, .int (0 : Int32)), (2, .int (mem331 11 1)), (1, .int r331), (0, .ref (zr G 0))]) C.1.1 C.1.2.1 dX4_stops_31 hl (by decide) rfl (fun ls hl => ?_)
    exact K_X4_stops_33 (l := l) (e := e) (below := below) C hr hlk N N mem333 r331 (mem331 11 1) (0 : Int32) (0 : Int32) _ _ _ Z (lv_sub hl [4, 3, 2, 1, 0] rfl) hf
  · replace hf := (if_neg h334).symm.trans hf
    refine lv_iload_n C.1.1 C.1.2.1 dX4_stops_28 rfl (lv_at hl 0 rfl) ?_
    cases hf
    exact z_iret C Z hr hlk dX4_stops_29
set_option maxHeartbeats 4000000 in
set_option maxRecDepth 100000 in
theorem M_X4_levels (l : Launch) (G : zG) (hG : zOK G) (N : Nat) (mem : zMem) (a1 : Int32) (a2 : Int32) (r : Int32) (mem' : zMem) (hf : f_X4_levels N mem a1 a2 = some (r, mem')) : zM l G yX4_levels cX4_levels 3 (some .boolean) 3 67 [.ref (zr G 0), .int a1, .int a2] mem (zQi G r mem') := by
  refine zStart hG (by decide +kernel) (Nat.le_of_ble_eq_true rfl) (fun p e s m below meth c C hr hlk ls hl Z => ?_)
  have hl : lv_has ls 3 [(0, .ref (zr G 0)), (1, .int a1), (2, .int a2)] := hl
  have C : zC (zAd G) G p s m _ c cX4_levels 3 RX4 := C
  unfold f_X4_levels at hf
  refine lv_iload_n C.1.1 C.1.2.1 dX4_levels_0 rfl (lv_at hl 1 rfl) ?_
  refine lv_aload_n C.1.1 C.1.2.1 dX4_levels_1 rfl (lv_at hl 0 rfl) ?_
  refine zg_X4_26 C Z dX4_levels_2 ?_
  refine zg_X4_123 (k := 11) (by decide) C Z dX4_levels_5 ?_
  refine lv_iand C.1.1 C.1.2.1 dX4_levels_8 ?_
  refine lv_if_ne (tgt := 37) C.1.1 C.1.2.1 dX4_levels_9 (by decide) (fun h335 => ?_) (fun h335 => ?_)
  · replace hf := (if_neg h335).symm.trans hf
    refine lv_iconst (v := (0 : Int32)) C.1.1 C.1.2.1 dX4_levels_37 (by decide) ?_
    cases hf
    exact z_zret C Z hr hlk (by decide) dX4_levels_38
  · replace hf := (if_pos h335).symm.trans hf
    refine lv_aload_n C.1.1 C.1.2.1 dX4_levels_12 rfl (lv_at hl 0 rfl) ?_
    refine lv_aload_n C.1.1 C.1.2.1 dX4_levels_13 rfl (lv_at hl 0 rfl) ?_
    refine lv_aload_n C.1.1 C.1.2.1 dX4_levels_14 rfl (lv_at hl 0 rfl) ?_
    refine zg_X4_26 C Z dX4_levels_15 ?_
    refine zg_X4_123 (k := 11) (by decide) C Z dX4_levels_18 ?_
    refine lv_iload_n C.1.1 C.1.2.1 dX4_levels_21 rfl (lv_at hl 1 rfl) ?_
    refine lv_ior C.1.1 C.1.2.1 dX4_levels_22 ?_
    obtain ⟨r336, mem336, hc336, hf⟩ := zb_some hf
    refine z_callVi (k := 0) (As := [.int ((mem 11 1) ||| a1)]) (rest := [.ref (zr G 0)]) C Z (M_X4_sermonOf l G C.2.1 N mem ((mem 11 1) ||| a1) r336 mem336 hc336) (zcw_X4_148 C.1.2.2.2.2 ⟨Nat.le_of_ble_eq_true rfl, Nat.le_of_ble_eq_true rfl⟩) (by decide) rfl rfl rfl hl.1 rfl (Nat.le_of_ble_eq_true rfl) ⟨Nat.le_refl 0, Nat.le_refl 0⟩ dX4_levels_23 (fun H locs Z => ?_)
    refine lv_iload_n C.1.1 C.1.2.1 dX4_levels_26 rfl (lv_at hl 2 rfl) ?_
    obtain ⟨r337, mem337, hc337, hf⟩ := zb_some hf
    refine z_callVi (k := 0) (As := [.int r336, .int a2]) (rest := []) C Z (M_X4_hangsLevel l G C.2.1 N mem336 r336 a2 r337 mem337 hc337) (zcw_X4_178 C.1.2.2.2.2 ⟨Nat.le_of_ble_eq_true rfl, Nat.le_of_ble_eq_true rfl⟩) (by decide) rfl rfl rfl hl.1 rfl (Nat.le_of_ble_eq_true rfl) ⟨Nat.le_refl 0, Nat.le_refl 0⟩ dX4_levels_27 (fun H locs Z => ?_)
    refine lv_if_eq (tgt := 37) C.1.1 C.1.2.1 dX4_levels_30 (by decide) (fun h338 => ?_) (fun h338 => ?_)
    · replace hf := (if_pos h338).symm.trans hf
      refine lv_iconst (v := (0 : Int32)) C.1.1 C.1.2.1 dX4_levels_37 (by decide) ?_
      cases hf
      exact z_zret C Z hr hlk (by decide) dX4_levels_38
    · replace hf := (if_neg h338).symm.trans hf
      refine lv_iconst (v := (1 : Int32)) C.1.1 C.1.2.1 dX4_levels_33 (by decide) ?_
      refine lv_goto (tgt := 38) C.1.1 C.1.2.1 dX4_levels_34 (by decide) ?_
      cases hf
      exact z_zret C Z hr hlk (by decide) dX4_levels_38
set_option maxHeartbeats 4000000 in
set_option maxRecDepth 100000 in
theorem M_J6_bitCount_0f7a4 (l : Launch) (G : zG) (hG : zOK G) (N : Nat) (mem : zMem) (a1 : Int32) (r : Int32) (mem' : zMem) (hf : f_J6_bitCount_0f7a4 N mem a1 = some (r, mem')) : zM l G yJ6_bitCount_0f7a4 cJ6_bitCount_0f7a4 1 (some .int) 0 0 [.int a1] mem (zQi G r mem') := by
  refine zStart hG (by decide +kernel) (Nat.le_of_ble_eq_true rfl) (fun p e s m below meth c C hr hlk ls hl Z => ?_)
  have hl : lv_has ls 1 [(0, .int a1)] := hl
  have C : zC (zAd G) G p s m _ c cJ6_bitCount_0f7a4 1 RJ6 := C
  unfold f_J6_bitCount_0f7a4 at hf
  refine lv_iload_n C.1.1 C.1.2.1 dJ6_bitCount_0f7a4_0 rfl (lv_at hl 0 rfl) ?_
  refine lv_iload_n C.1.1 C.1.2.1 dJ6_bitCount_0f7a4_1 rfl (lv_at hl 0 rfl) ?_
  refine lv_iconst (v := (1 : Int32)) C.1.1 C.1.2.1 dJ6_bitCount_0f7a4_2 (by decide) ?_
  refine lv_iushr (v := (a1.toUInt32 >>> ((1 : Int32).toUInt32 &&& Int32.toUInt32 31)).toInt32) C.1.1 C.1.2.1 dJ6_bitCount_0f7a4_3 rfl ?_
  refine lv_ldcw C.1.1 C.1.2.1 C.1.2.2.2.1 (C.1.2.2.2.2 _ lkK_265) dJ6_bitCount_0f7a4_4 ?_
  refine lv_iand C.1.1 C.1.2.1 dJ6_bitCount_0f7a4_7 ?_
  refine lv_isub C.1.1 C.1.2.1 dJ6_bitCount_0f7a4_8 ?_
  refine lv_istore_n (lv' := [(0, .int (a1 - ((a1.toUInt32 >>> ((1 : Int32).toUInt32 &&& Int32.toUInt32 31)).toInt32 &&& (1431655765 : Int32))))]) C.1.1 C.1.2.1 dJ6_bitCount_0f7a4_9 rfl hl (by decide) rfl (fun ls hl => ?_)
  refine lv_iload_n C.1.1 C.1.2.1 dJ6_bitCount_0f7a4_10 rfl (lv_at hl 0 rfl) ?_
  refine lv_ldcw C.1.1 C.1.2.1 C.1.2.2.2.1 (C.1.2.2.2.2 _ lkK_266) dJ6_bitCount_0f7a4_11 ?_
  refine lv_iand C.1.1 C.1.2.1 dJ6_bitCount_0f7a4_14 ?_
  refine lv_iload_n C.1.1 C.1.2.1 dJ6_bitCount_0f7a4_15 rfl (lv_at hl 0 rfl) ?_
  refine lv_iconst (v := (2 : Int32)) C.1.1 C.1.2.1 dJ6_bitCount_0f7a4_16 (by decide) ?_
  refine lv_iushr (v := ((a1 - ((a1.toUInt32 >>> ((1 : Int32).toUInt32 &&& Int32.toUInt32 31)).toInt32 &&& (1431655765 : Int32))).toUInt32 >>> ((2 : Int32).toUInt32 &&& Int32.toUInt32 31)).toInt32) C.1.1 C.1.2.1 dJ6_bitCount_0f7a4_17 rfl ?_
  refine lv_ldcw C.1.1 C.1.2.1 C.1.2.2.2.1 (C.1.2.2.2.2 _ lkK_266) dJ6_bitCount_0f7a4_18 ?_
  refine lv_iand C.1.1 C.1.2.1 dJ6_bitCount_0f7a4_21 ?_
  refine lv_iadd C.1.1 C.1.2.1 dJ6_bitCount_0f7a4_22 ?_
  refine lv_istore_n (lv' := [(0, .int (((a1 - ((a1.toUInt32 >>> ((1 : Int32).toUInt32 &&& Int32.toUInt32 31)).toInt32 &&& (1431655765 : Int32))) &&& (858993459 : Int32)) + (((a1 - ((a1.toUInt32 >>> ((1 : Int32).toUInt32 &&& Int32.toUInt32 31)).toInt32 &&& (1431655765 : Int32))).toUInt32 >>> ((2 : Int32).toUInt32 &&& Int32.toUInt32 31)).toInt32 &&& (858993459 : Int32))))]) C.1.1 C.1.2.1 dJ6_bitCount_0f7a4_23 rfl hl (by decide) rfl (fun ls hl => ?_)
  refine lv_iload_n C.1.1 C.1.2.1 dJ6_bitCount_0f7a4_24 rfl (lv_at hl 0 rfl) ?_
  refine lv_iload_n C.1.1 C.1.2.1 dJ6_bitCount_0f7a4_25 rfl (lv_at hl 0 rfl) ?_
  refine lv_iconst (v := (4 : Int32)) C.1.1 C.1.2.1 dJ6_bitCount_0f7a4_26 (by decide) ?_
  refine lv_iushr (v := ((((a1 - ((a1.toUInt32 >>> ((1 : Int32).toUInt32 &&& Int32.toUInt32 31)).toInt32 &&& (1431655765 : Int32))) &&& (858993459 : Int32)) + (((a1 - ((a1.toUInt32 >>> ((1 : Int32).toUInt32 &&& Int32.toUInt32 31)).toInt32 &&& (1431655765 : Int32))).toUInt32 >>> ((2 : Int32).toUInt32 &&& Int32.toUInt32 31)).toInt32 &&& (858993459 : Int32))).toUInt32 >>> ((4 : Int32).toUInt32 &&& Int32.toUInt32 31)).toInt32) C.1.1 C.1.2.1 dJ6_bitCount_0f7a4_27 rfl ?_
  refine lv_iadd C.1.1 C.1.2.1 dJ6_bitCount_0f7a4_28 ?_
  refine lv_ldcw C.1.1 C.1.2.1 C.1.2.2.2.1 (C.1.2.2.2.2 _ lkK_267) dJ6_bitCount_0f7a4_29 ?_
  refine lv_iand C.1.1 C.1.2.1 dJ6_bitCount_0f7a4_32 ?_
  refine lv_istore_n (lv' := [(0, .int (((((a1 - ((a1.toUInt32 >>> ((1 : Int32).toUInt32 &&& Int32.toUInt32 31)).toInt32 &&& (1431655765 : Int32))) &&& (858993459 : Int32)) + (((a1 - ((a1.toUInt32 >>> ((1 : Int32).toUInt32 &&& Int32.toUInt32 31)).toInt32 &&& (1431655765 : Int32))).toUInt32 >>> ((2 : Int32).toUInt32 &&& Int32.toUInt32 31)).toInt32 &&& (858993459 : Int32))) + ((((a1 - ((a1.toUInt32 >>> ((1 : Int32).toUInt32 &&& Int32.toUInt32 31)).toInt32 &&& (1431655765 : Int32))) &&& (858993459 : Int32)) + (((a1 - ((a1.toUInt32 >>> ((1 : Int32).toUInt32 &&& Int32.toUInt32 31)).toInt32 &&& (1431655765 : Int32))).toUInt32 >>> ((2 : Int32).toUInt32 &&& Int32.toUInt32 31)).toInt32 &&& (858993459 : Int32))).toUInt32 >>> ((4 : Int32).toUInt32 &&& Int32.toUInt32 31)).toInt32) &&& (252645135 : Int32)))]) C.1.1 C.1.2.1 dJ6_bitCount_0f7a4_33 rfl hl (by decide) rfl (fun ls hl => ?_)
  refine lv_iload_n C.1.1 C.1.2.1 dJ6_bitCount_0f7a4_34 rfl (lv_at hl 0 rfl) ?_
  refine lv_iload_n C.1.1 C.1.2.1 dJ6_bitCount_0f7a4_35 rfl (lv_at hl 0 rfl) ?_
  refine lv_bipush (v := (8 : Int32)) C.1.1 C.1.2.1 dJ6_bitCount_0f7a4_36 (by decide) ?_
  refine lv_iushr (v := ((((((a1 - ((a1.toUInt32 >>> ((1 : Int32).toUInt32 &&& Int32.toUInt32 31)).toInt32 &&& (1431655765 : Int32))) &&& (858993459 : Int32)) + (((a1 - ((a1.toUInt32 >>> ((1 : Int32).toUInt32 &&& Int32.toUInt32 31)).toInt32 &&& (1431655765 : Int32))).toUInt32 >>> ((2 : Int32).toUInt32 &&& Int32.toUInt32 31)).toInt32 &&& (858993459 : Int32))) + ((((a1 - ((a1.toUInt32 >>> ((1 : Int32).toUInt32 &&& Int32.toUInt32 31)).toInt32 &&& (1431655765 : Int32))) &&& (858993459 : Int32)) + (((a1 - ((a1.toUInt32 >>> ((1 : Int32).toUInt32 &&& Int32.toUInt32 31)).toInt32 &&& (1431655765 : Int32))).toUInt32 >>> ((2 : Int32).toUInt32 &&& Int32.toUInt32 31)).toInt32 &&& (858993459 : Int32))).toUInt32 >>> ((4 : Int32).toUInt32 &&& Int32.toUInt32 31)).toInt32) &&& (252645135 : Int32)).toUInt32 >>> ((8 : Int32).toUInt32 &&& Int32.toUInt32 31)).toInt32) C.1.1 C.1.2.1 dJ6_bitCount_0f7a4_38 rfl ?_
  refine lv_iadd C.1.1 C.1.2.1 dJ6_bitCount_0f7a4_39 ?_
  refine lv_istore_n (lv' := [(0, .int ((((((a1 - ((a1.toUInt32 >>> ((1 : Int32).toUInt32 &&& Int32.toUInt32 31)).toInt32 &&& (1431655765 : Int32))) &&& (858993459 : Int32)) + (((a1 - ((a1.toUInt32 >>> ((1 : Int32).toUInt32 &&& Int32.toUInt32 31)).toInt32 &&& (1431655765 : Int32))).toUInt32 >>> ((2 : Int32).toUInt32 &&& Int32.toUInt32 31)).toInt32 &&& (858993459 : Int32))) + ((((a1 - ((a1.toUInt32 >>> ((1 : Int32).toUInt32 &&& Int32.toUInt32 31)).toInt32 &&& (1431655765 : Int32))) &&& (858993459 : Int32)) + (((a1 - ((a1.toUInt32 >>> ((1 : Int32).toUInt32 &&& Int32.toUInt32 31)).toInt32 &&& (1431655765 : Int32))).toUInt32 >>> ((2 : Int32).toUInt32 &&& Int32.toUInt32 31)).toInt32 &&& (858993459 : Int32))).toUInt32 >>> ((4 : Int32).toUInt32 &&& Int32.toUInt32 31)).toInt32) &&& (252645135 : Int32)) + ((((((a1 - ((a1.toUInt32 >>> ((1 : Int32).toUInt32 &&& Int32.toUInt32 31)).toInt32 &&& (1431655765 : Int32))) &&& (858993459 : Int32)) + (((a1 - ((a1.toUInt32 >>> ((1 : Int32).toUInt32 &&& Int32.toUInt32 31)).toInt32 &&& (1431655765 : Int32))).toUInt32 >>> ((2 : Int32).toUInt32 &&& Int32.toUInt32 31)).toInt32 &&& (858993459 : Int32))) + ((((a1 - ((a1.toUInt32 >>> ((1 : Int32).toUInt32 &&& Int32.toUInt32 31)).toInt32 &&& (1431655765 : Int32))) &&& (858993459 : Int32)) + (((a1 - ((a1.toUInt32 >>> ((1 : Int32).toUInt32 &&& Int32.toUInt32 31)).toInt32 &&& (1431655765 : Int32))).toUInt32 >>> ((2 : Int32).toUInt32 &&& Int32.toUInt32 31)).toInt32 &&& (858993459 : Int32))).toUInt32 >>> ((4 : Int32).toUInt32 &&& Int32.toUInt32 31)).toInt32) &&& (252645135 : Int32)).toUInt32 >>> ((8 : Int32).toUInt32 &&& Int32.toUInt32 31)).toInt32))]) C.1.1 C.1.2.1 dJ6_bitCount_0f7a4_40 rfl hl (by decide) rfl (fun ls hl => ?_)
  refine lv_iload_n C.1.1 C.1.2.1 dJ6_bitCount_0f7a4_41 rfl (lv_at hl 0 rfl) ?_
  refine lv_iload_n C.1.1 C.1.2.1 dJ6_bitCount_0f7a4_42 rfl (lv_at hl 0 rfl) ?_
  refine lv_bipush (v := (16 : Int32)) C.1.1 C.1.2.1 dJ6_bitCount_0f7a4_43 (by decide) ?_
  refine lv_iushr (v := (((((((a1 - ((a1.toUInt32 >>> ((1 : Int32).toUInt32 &&& Int32.toUInt32 31)).toInt32 &&& (1431655765 : Int32))) &&& (858993459 : Int32)) + (((a1 - ((a1.toUInt32 >>> ((1 : Int32).toUInt32 &&& Int32.toUInt32 31)).toInt32 &&& (1431655765 : Int32))).toUInt32 >>> ((2 : Int32).toUInt32 &&& Int32.toUInt32 31)).toInt32 &&& (858993459 : Int32))) + ((((a1 - ((a1.toUInt32 >>> ((1 : Int32).toUInt32 &&& Int32.toUInt32 31)).toInt32 &&& (1431655765 : Int32))) &&& (858993459 : Int32)) + (((a1 - ((a1.toUInt32 >>> ((1 : Int32).toUInt32 &&& Int32.toUInt32 31)).toInt32 &&& (1431655765 : Int32))).toUInt32 >>> ((2 : Int32).toUInt32 &&& Int32.toUInt32 31)).toInt32 &&& (858993459 : Int32))).toUInt32 >>> ((4 : Int32).toUInt32 &&& Int32.toUInt32 31)).toInt32) &&& (252645135 : Int32)) + ((((((a1 - ((a1.toUInt32 >>> ((1 : Int32).toUInt32 &&& Int32.toUInt32 31)).toInt32 &&& (1431655765 : Int32))) &&& (858993459 : Int32)) + (((a1 - ((a1.toUInt32 >>> ((1 : Int32).toUInt32 &&& Int32.toUInt32 31)).toInt32 &&& (1431655765 : Int32))).toUInt32 >>> ((2 : Int32).toUInt32 &&& Int32.toUInt32 31)).toInt32 &&& (858993459 : Int32))) + ((((a1 - ((a1.toUInt32 >>> ((1 : Int32).toUInt32 &&& Int32.toUInt32 31)).toInt32 &&& (1431655765 : Int32))) &&& (858993459 : Int32)) + (((a1 - ((a1.toUInt32 >>> ((1 : Int32).toUInt32 &&& Int32.toUInt32 31)).toInt32 &&& (1431655765 : Int32))).toUInt32 >>> ((2 : Int32).toUInt32 &&& Int32.toUInt32 31)).toInt32 &&& (858993459 : Int32))).toUInt32 >>> ((4 : Int32).toUInt32 &&& Int32.toUInt32 31)).toInt32) &&& (252645135 : Int32)).toUInt32 >>> ((8 : Int32).toUInt32 &&& Int32.toUInt32 31)).toInt32).toUInt32 >>> ((16 : Int32).toUInt32 &&& Int32.toUInt32 31)).toInt32) C.1.1 C.1.2.1 dJ6_bitCount_0f7a4_45 rfl ?_
  refine lv_iadd C.1.1 C.1.2.1 dJ6_bitCount_0f7a4_46 ?_
  refine lv_istore_n (lv' := [(0, .int (((((((a1 - ((a1.toUInt32 >>> ((1 : Int32).toUInt32 &&& Int32.toUInt32 31)).toInt32 &&& (1431655765 : Int32))) &&& (858993459 : Int32)) + (((a1 - ((a1.toUInt32 >>> ((1 : Int32).toUInt32 &&& Int32.toUInt32 31)).toInt32 &&& (1431655765 : Int32))).toUInt32 >>> ((2 : Int32).toUInt32 &&& Int32.toUInt32 31)).toInt32 &&& (858993459 : Int32))) + ((((a1 - ((a1.toUInt32 >>> ((1 : Int32).toUInt32 &&& Int32.toUInt32 31)).toInt32 &&& (1431655765 : Int32))) &&& (858993459 : Int32)) + (((a1 - ((a1.toUInt32 >>> ((1 : Int32).toUInt32 &&& Int32.toUInt32 31)).toInt32 &&& (1431655765 : Int32))).toUInt32 >>> ((2 : Int32).toUInt32 &&& Int32.toUInt32 31)).toInt32 &&& (858993459 : Int32))).toUInt32 >>> ((4 : Int32).toUInt32 &&& Int32.toUInt32 31)).toInt32) &&& (252645135 : Int32)) + ((((((a1 - ((a1.toUInt32 >>> ((1 : Int32).toUInt32 &&& Int32.toUInt32 31)).toInt32 &&& (1431655765 : Int32))) &&& (858993459 : Int32)) + (((a1 - ((a1.toUInt32 >>> ((1 : Int32).toUInt32 &&& Int32.toUInt32 31)).toInt32 &&& (1431655765 : Int32))).toUInt32 >>> ((2 : Int32).toUInt32 &&& Int32.toUInt32 31)).toInt32 &&& (858993459 : Int32))) + ((((a1 - ((a1.toUInt32 >>> ((1 : Int32).toUInt32 &&& Int32.toUInt32 31)).toInt32 &&& (1431655765 : Int32))) &&& (858993459 : Int32)) + (((a1 - ((a1.toUInt32 >>> ((1 : Int32).toUInt32 &&& Int32.toUInt32 31)).toInt32 &&& (1431655765 : Int32))).toUInt32 >>> ((2 : Int32).toUInt32 &&& Int32.toUInt32 31)).toInt32 &&& (858993459 : Int32))).toUInt32 >>> ((4 : Int32).toUInt32 &&& Int32.toUInt32 31)).toInt32) &&& (252645135 : Int32)).toUInt32 >>> ((8 : Int32).toUInt32 &&& Int32.toUInt32 31)).toInt32) + (((((((a1 - ((a1.toUInt32 >>> ((1 : Int32).toUInt32 &&& Int32.toUInt32 31)).toInt32 &&& (1431655765 : Int32))) &&& (858993459 : Int32)) + (((a1 - ((a1.toUInt32 >>> ((1 : Int32).toUInt32 &&& Int32.toUInt32 31)).toInt32 &&& (1431655765 : Int32))).toUInt32 >>> ((2 : Int32).toUInt32 &&& Int32.toUInt32 31)).toInt32 &&& (858993459 : Int32))) + ((((a1 - ((a1.toUInt32 >>> ((1 : Int32).toUInt32 &&& Int32.toUInt32 31)).toInt32 &&& (1431655765 : Int32))) &&& (858993459 : Int32)) + (((a1 - ((a1.toUInt32 >>> ((1 : Int32).toUInt32 &&& Int32.toUInt32 31)).toInt32 &&& (1431655765 : Int32))).toUInt32 >>> ((2 : Int32).toUInt32 &&& Int32.toUInt32 31)).toInt32 &&& (858993459 : Int32))).toUInt32 >>> ((4 : Int32).toUInt32 &&& Int32.toUInt32 31)).toInt32) &&& (252645135 : Int32)) + ((((((a1 - ((a1.toUInt32 >>> ((1 : Int32).toUInt32 &&& Int32.toUInt32 31)).toInt32 &&& (1431655765 : Int32))) &&& (858993459 : Int32)) + (((a1 - ((a1.toUInt32 >>> ((1 : Int32).toUInt32 &&& Int32.toUInt32 31)).toInt32 &&& (1431655765 : Int32))).toUInt32 >>> ((2 : Int32).toUInt32 &&& Int32.toUInt32 31)).toInt32 &&& (858993459 : Int32))) + ((((a1 - ((a1.toUInt32 >>> ((1 : Int32).toUInt32 &&& Int32.toUInt32 31)).toInt32 &&& (1431655765 : Int32))) &&& (858993459 : Int32)) + (((a1 - ((a1.toUInt32 >>> ((1 : Int32).toUInt32 &&& Int32.toUInt32 31)).toInt32 &&& (1431655765 : Int32))).toUInt32 >>> ((2 : Int32).toUInt32 &&& Int32.toUInt32 31)).toInt32 &&& (858993459 : Int32))).toUInt32 >>> ((4 : Int32).toUInt32 &&& Int32.toUInt32 31)).toInt32) &&& (252645135 : Int32)).toUInt32 >>> ((8 : Int32).toUInt32 &&& Int32.toUInt32 31)).toInt32).toUInt32 >>> ((16 : Int32).toUInt32 &&& Int32.toUInt32 31)).toInt32))]) C.1.1 C.1.2.1 dJ6_bitCount_0f7a4_47 rfl hl (by decide) rfl (fun ls hl => ?_)
  refine lv_iload_n C.1.1 C.1.2.1 dJ6_bitCount_0f7a4_48 rfl (lv_at hl 0 rfl) ?_
  refine lv_bipush (v := (63 : Int32)) C.1.1 C.1.2.1 dJ6_bitCount_0f7a4_49 (by decide) ?_
  refine lv_iand C.1.1 C.1.2.1 dJ6_bitCount_0f7a4_51 ?_
  cases hf
  exact z_iret C Z hr hlk dJ6_bitCount_0f7a4_52
set_option maxHeartbeats 4000000 in
set_option maxRecDepth 100000 in
theorem M_X4_isSooner (l : Launch) (G : zG) (hG : zOK G) (N : Nat) (mem : zMem) (a1 : Int32) (a2 : Int32) (r : Int32) (mem' : zMem) (hf : f_X4_isSooner N mem a1 a2 = some (r, mem')) : zM l G yX4_isSooner cX4_isSooner 5 (some .boolean) 2 44 [.ref (zr G 0), .int a1, .int a2] mem (zQi G r mem') := by
  refine zStart hG (by decide +kernel) (Nat.le_of_ble_eq_true rfl) (fun p e s m below meth c C hr hlk ls hl Z => ?_)
  have hl : lv_has ls 5 [(0, .ref (zr G 0)), (1, .int a1), (2, .int a2)] := hl
  have C : zC (zAd G) G p s m _ c cX4_isSooner 5 RX4 := C
  unfold f_X4_isSooner at hf
  refine lv_aload_n C.1.1 C.1.2.1 dX4_isSooner_0 rfl (lv_at hl 0 rfl) ?_
  refine zg_X4_19 C Z dX4_isSooner_1 ?_
  refine lv_iload_n C.1.1 C.1.2.1 dX4_isSooner_4 rfl (lv_at hl 1 rfl) ?_
  obtain ⟨r339, mem339, hc339, hf⟩ := zb_some hf
  refine z_callVi (k := 6) (As := [.int a1]) (rest := []) C Z (M_X1_minutesOf l G C.2.1 N mem a1 r339 mem339 hc339) (zcw_X4_184 C.1.2.2.2.2 ⟨Nat.le_of_ble_eq_true rfl, Nat.le_of_ble_eq_true rfl⟩) (by decide) rfl rfl rfl hl.1 rfl (Nat.le_of_ble_eq_true rfl) ⟨Nat.le_refl 0, Nat.le_refl 0⟩ dX4_isSooner_5 (fun H locs Z => ?_)
  refine lv_istore_n (lv' := [(3, .int r339), (0, .ref (zr G 0)), (1, .int a1), (2, .int a2)]) C.1.1 C.1.2.1 dX4_isSooner_8 rfl hl (by decide) rfl (fun ls hl => ?_)
  refine lv_aload_n C.1.1 C.1.2.1 dX4_isSooner_9 rfl (lv_at hl 1 rfl) ?_
  refine zg_X4_19 C Z dX4_isSooner_10 ?_
  refine lv_iload_n C.1.1 C.1.2.1 dX4_isSooner_13 rfl (lv_at hl 3 rfl) ?_
  obtain ⟨r340, mem340, hc340, hf⟩ := zb_some hf
  refine z_callVi (k := 6) (As := [.int a2]) (rest := []) C Z (M_X1_minutesOf l G C.2.1 N mem339 a2 r340 mem340 hc340) (zcw_X4_184 C.1.2.2.2.2 ⟨Nat.le_of_ble_eq_true rfl, Nat.le_of_ble_eq_true rfl⟩) (by decide) rfl rfl rfl hl.1 rfl (Nat.le_of_ble_eq_true rfl) ⟨Nat.le_refl 0, Nat.le_refl 0⟩ dX4_isSooner_14 (fun H locs Z => ?_)
  refine lv_istore (lv' := [(4, .int r340), (3, .int r339), (0, .ref (zr G 0)), (1, .int a1), (2, .int a2)]) C.1.1 C.1.2.1 dX4_isSooner_17 hl (by decide) rfl (fun ls hl => ?_)
  refine lv_iload_n C.1.1 C.1.2.1 dX4_isSooner_19 rfl (lv_at hl 1 rfl) ?_
  refine lv_iload C.1.1 C.1.2.1 dX4_isSooner_20 (lv_at hl 0 rfl) ?_
  refine lv_icmp_eq (tgt := 37) C.1.1 C.1.2.1 dX4_isSooner_22 (by decide) (fun h341 => ?_) (fun h341 => ?_)
  · replace hf := (if_pos h341).symm.trans hf
    refine lv_iload_n C.1.1 C.1.2.1 dX4_isSooner_37 rfl (lv_at hl 3 rfl) ?_
    obtain ⟨r342, mem342, hc342, hf⟩ := zb_some hf
    refine z_callSi (As := [.int a1]) (rest := []) C Z (M_J6_bitCount_0f7a4 l G C.2.1 N mem340 a1 r342 mem342 hc342) (zcw_X4_193 C.1.2.2.2.2 ⟨Nat.le_of_ble_eq_true rfl, Nat.le_of_ble_eq_true rfl⟩) rfl hl.1 rfl (Nat.le_of_ble_eq_true rfl) ⟨Nat.le_refl 0, Nat.le_refl 0⟩ dX4_isSooner_38 (fun H locs Z => ?_)
    refine lv_iload_n C.1.1 C.1.2.1 dX4_isSooner_41 rfl (lv_at hl 4 rfl) ?_
    obtain ⟨r343, mem343, hc343, hf⟩ := zb_some hf
    refine z_callSi (As := [.int a2]) (rest := [.int r342]) C Z (M_J6_bitCount_0f7a4 l G C.2.1 N mem342 a2 r343 mem343 hc343) (zcw_X4_193 C.1.2.2.2.2 ⟨Nat.le_of_ble_eq_true rfl, Nat.le_of_ble_eq_true rfl⟩) rfl hl.1 rfl (Nat.le_of_ble_eq_true rfl) ⟨Nat.le_refl 0, Nat.le_refl 0⟩ dX4_isSooner_42 (fun H locs Z => ?_)
    refine lv_icmp_ge (tgt := 52) C.1.1 C.1.2.1 dX4_isSooner_45 (by decide) (fun h344 => ?_) (fun h344 => ?_)
    · replace hf := (if_pos h344).symm.trans hf
      refine lv_iconst (v := (0 : Int32)) C.1.1 C.1.2.1 dX4_isSooner_52 (by decide) ?_
      cases hf
      exact z_zret C Z hr hlk (by decide) dX4_isSooner_53
    · replace hf := (if_neg h344).symm.trans hf
      refine lv_iconst (v := (1 : Int32)) C.1.1 C.1.2.1 dX4_isSooner_48 (by decide) ?_
      refine lv_goto (tgt := 53) C.1.1 C.1.2.1 dX4_isSooner_49 (by decide) ?_
      cases hf
      exact z_zret C Z hr hlk (by decide) dX4_isSooner_53
  · replace hf := (if_neg h341).symm.trans hf
    refine lv_iload_n C.1.1 C.1.2.1 dX4_isSooner_25 rfl (lv_at hl 1 rfl) ?_
    refine lv_iload C.1.1 C.1.2.1 dX4_isSooner_26 (lv_at hl 0 rfl) ?_
    refine lv_icmp_ge (tgt := 35) C.1.1 C.1.2.1 dX4_isSooner_28 (by decide) (fun h345 => ?_) (fun h345 => ?_)
    · replace hf := (if_pos h345).symm.trans hf
      refine lv_iconst (v := (0 : Int32)) C.1.1 C.1.2.1 dX4_isSooner_35 (by decide) ?_
      cases hf
      exact z_zret C Z hr hlk (by decide) dX4_isSooner_36
    · replace hf := (if_neg h345).symm.trans hf
      refine lv_iconst (v := (1 : Int32)) C.1.1 C.1.2.1 dX4_isSooner_31 (by decide) ?_
      refine lv_goto (tgt := 36) C.1.1 C.1.2.1 dX4_isSooner_32 (by decide) ?_
      cases hf
      exact z_zret C Z hr hlk (by decide) dX4_isSooner_36
set_option maxHeartbeats 4000000 in
set_option maxRecDepth 100000 in
theorem K_X4_soonestSet_9 {p : Program} {l : Launch} {e : Env} {s : State} {m : MethodId} {args : Array Value} {below : List Frame} {meth : Method} {c : Code} {G : zG} (C : zC (zAd G) G p s m args c cX4_soonestSet 4 RX4) (hr : meth.sig.returnType = (some .int)) (hlk : meth.locks = false) {r : Int32} {mem' : zMem} (N : Nat) : ∀ (n : Nat) (mem : zMem) (x1 : Int32) (x2 : Int32) (x3 : Int32) (H : Heap) (locs : List Loc) (ls : Array Slot), zH (zAd G) G s mem H locs → lv_has ls 4 [(0, .ref (zr G 0)), (1, .int x1), (2, .int x2), (3, .int x3)] → f_X4_soonestSet_9 N n mem x1 x2 x3 = some (r, mem') → W p l e ({ frames := 4, cells := 0, slots := 0, locals := 89 } : Room) s m args below meth c H locs 0 0 (MQ below (zQi G r mem') args s 0 0 (zAd G)) (F0 m 9 ls []) := by
  intro n
  induction n with
  | zero =>
    intro mem x1 x2 x3 H locs ls Z hl hf
    rw [f_X4_soonestSet_9.eq_1] at hf
    cases hf
  | succ n ih =>
    intro mem x1 x2 x3 H locs ls Z hl hf
    rw [f_X4_soonestSet_9.eq_2] at hf
    refine lv_iload_n C.1.1 C.1.2.1 dX4_soonestSet_9 rfl (lv_at hl 3 rfl) ?_
    refine lv_iconst (v := (1 : Int32)) C.1.1 C.1.2.1 dX4_soonestSet_10 (by decide) ?_
    refine lv_aload_n C.1.1 C.1.2.1 dX4_soonestSet_11 rfl (lv_at hl 0 rfl) ?_
    refine zg_X4_19 C Z dX4_soonestSet_12 ?_
    refine zg_X4_64 C Z dX4_soonestSet_15 ?_
    refine lv_ishl C.1.1 C.1.2.1 dX4_soonestSet_18 ?_
    refine lv_icmp_ge (tgt := 53) C.1.1 C.1.2.1 dX4_soonestSet_19 (by decide) (fun h346 => ?_) (fun h346 => ?_)
    · replace hf := (if_pos h346).symm.trans hf
      refine lv_iload_n C.1.1 C.1.2.1 dX4_soonestSet_53 rfl (lv_at hl 2 rfl) ?_
      cases hf
      exact z_iret C Z hr hlk dX4_soonestSet_54
    · replace hf := (if_neg h346).symm.trans hf
      refine lv_aload_n C.1.1 C.1.2.1 dX4_soonestSet_22 rfl (lv_at hl 0 rfl) ?_
      refine lv_iload_n C.1.1 C.1.2.1 dX4_soonestSet_23 rfl (lv_at hl 3 rfl) ?_
      refine lv_iload_n C.1.1 C.1.2.1 dX4_soonestSet_24 rfl (lv_at hl 1 rfl) ?_
      obtain ⟨r347, mem347, hc347, hf⟩ := zb_some hf
      refine z_callVi (k := 0) (As := [.int x3, .int x1]) (rest := []) C Z (M_X4_levels l G C.2.1 N mem x3 x1 r347 mem347 hc347) (zcw_X4_187 C.1.2.2.2.2 ⟨Nat.le_of_ble_eq_true rfl, Nat.le_of_ble_eq_true rfl⟩) (by decide) rfl rfl rfl hl.1 rfl (Nat.le_of_ble_eq_true rfl) ⟨Nat.le_refl 0, Nat.le_refl 0⟩ dX4_soonestSet_25 (fun H locs Z => ?_)
      refine lv_if_eq (tgt := 47) C.1.1 C.1.2.1 dX4_soonestSet_28 (by decide) (fun h348 => ?_) (fun h348 => ?_)
      · replace hf := (if_pos h348).symm.trans hf
        refine lv_iinc (v := (x3 + 1)) (lv' := [(3, .int (x3 + 1)), (0, .ref (zr G 0)), (1, .int x1), (2, .int x2)]) C.1.1 C.1.2.1 dX4_soonestSet_47 hl (k := 3) rfl rfl (by decide) rfl (fun ls hl => ?_)
        refine lv_goto (tgt := 9) C.1.1 C.1.2.1 dX4_soonestSet_50 (by decide) ?_
        exact ih mem347 x1 x2 (x3 + 1) _ _ _ Z (lv_sub hl [1, 2, 3, 0] rfl) hf
      · replace hf := (if_neg h348).symm.trans hf
        refine lv_iload_n C.1.1 C.1.2.1 dX4_soonestSet_31 rfl (lv_at hl 2 rfl) ?_
        refine lv_iconst (v := (-1 : Int32)) C.1.1 C.1.2.1 dX4_soonestSet_32 (by decide) ?_
        refine lv_icmp_eq (tgt := 45) C.1.1 C.1.2.1 dX4_soonestSet_33 (by decide) (fun h349 => ?_) (fun h349 => ?_)
        · replace hf := (if_pos h349).symm.trans hf
          refine lv_iload_n C.1.1 C.1.2.1 dX4_soonestSet_45 rfl (lv_at hl 3 rfl) ?_
          refine lv_istore_n (lv' := [(2, .int x3), (0, .ref (zr G 0)), (1, .int x1), (3, .int x3)]) C.1.1 C.1.2.1 dX4_soonestSet_46 rfl hl (by decide) rfl (fun ls hl => ?_)
          refine lv_iinc (v := (x3 + 1)) (lv' := [(3, .int (x3 + 1)), (2, .int x3), (0, .ref (zr G 0)), (1, .int x1)]) C.1.1 C.1.2.1 dX4_soonestSet_47 hl (k := 3) rfl rfl (by decide) rfl (fun ls hl => ?_)
          refine lv_goto (tgt := 9) C.1.1 C.1.2.1 dX4_soonestSet_50 (by decide) ?_
          exact ih mem347 x1 x3 (x3 + 1) _ _ _ Z (lv_sub hl [2, 3, 1, 0] rfl) hf
        · replace hf := (if_neg h349).symm.trans hf
          refine lv_aload_n C.1.1 C.1.2.1 dX4_soonestSet_36 rfl (lv_at hl 0 rfl) ?_
          refine lv_iload_n C.1.1 C.1.2.1 dX4_soonestSet_37 rfl (lv_at hl 3 rfl) ?_
          refine lv_iload_n C.1.1 C.1.2.1 dX4_soonestSet_38 rfl (lv_at hl 2 rfl) ?_
          obtain ⟨r350, mem350, hc350, hf⟩ := zb_some hf
          refine z_callVi (k := 0) (As := [.int x3, .int x2]) (rest := []) C Z (M_X4_isSooner l G C.2.1 N mem347 x3 x2 r350 mem350 hc350) (zcw_X4_190 C.1.2.2.2.2 ⟨Nat.le_of_ble_eq_true rfl, Nat.le_of_ble_eq_true rfl⟩) (by decide) rfl rfl rfl hl.1 rfl (Nat.le_of_ble_eq_true rfl) ⟨Nat.le_refl 0, Nat.le_refl 0⟩ dX4_soonestSet_39 (fun H locs Z => ?_)
          refine lv_if_eq (tgt := 47) C.1.1 C.1.2.1 dX4_soonestSet_42 (by decide) (fun h351 => ?_) (fun h351 => ?_)
          · replace hf := (if_pos h351).symm.trans hf
            refine lv_iinc (v := (x3 + 1)) (lv' := [(3, .int (x3 + 1)), (0, .ref (zr G 0)), (1, .int x1), (2, .int x2)]) C.1.1 C.1.2.1 dX4_soonestSet_47 hl (k := 3) rfl rfl (by decide) rfl (fun ls hl => ?_)
            refine lv_goto (tgt := 9) C.1.1 C.1.2.1 dX4_soonestSet_50 (by decide) ?_
            exact ih mem350 x1 x2 (x3 + 1) _ _ _ Z (lv_sub hl [1, 2, 3, 0] rfl) hf
          · replace hf := (if_neg h351).symm.trans hf
            refine lv_iload_n C.1.1 C.1.2.1 dX4_soonestSet_45 rfl (lv_at hl 3 rfl) ?_
            refine lv_istore_n (lv' := [(2, .int x3), (0, .ref (zr G 0)), (1, .int x1), (3, .int x3)]) C.1.1 C.1.2.1 dX4_soonestSet_46 rfl hl (by decide) rfl (fun ls hl => ?_)
            refine lv_iinc (v := (x3 + 1)) (lv' := [(3, .int (x3 + 1)), (2, .int x3), (0, .ref (zr G 0)), (1, .int x1)]) C.1.1 C.1.2.1 dX4_soonestSet_47 hl (k := 3) rfl rfl (by decide) rfl (fun ls hl => ?_)
            refine lv_goto (tgt := 9) C.1.1 C.1.2.1 dX4_soonestSet_50 (by decide) ?_
            exact ih mem350 x1 x3 (x3 + 1) _ _ _ Z (lv_sub hl [2, 3, 1, 0] rfl) hf
set_option maxHeartbeats 4000000 in
set_option maxRecDepth 100000 in
theorem M_X4_soonestSet (l : Launch) (G : zG) (hG : zOK G) (N : Nat) (mem : zMem) (r : Int32) (mem' : zMem) (hf : f_X4_soonestSet N mem = some (r, mem')) : zM l G yX4_soonestSet cX4_soonestSet 4 (some .int) 4 89 [.ref (zr G 0)] mem (zQi G r mem') := by
  refine zStart hG (by decide +kernel) (Nat.le_of_ble_eq_true rfl) (fun p e s m below meth c C hr hlk ls hl Z => ?_)
  have hl : lv_has ls 4 [(0, .ref (zr G 0))] := hl
  have C : zC (zAd G) G p s m _ c cX4_soonestSet 4 RX4 := C
  unfold f_X4_soonestSet at hf
  refine lv_aload_n C.1.1 C.1.2.1 dX4_soonestSet_0 rfl (lv_at hl 0 rfl) ?_
  obtain ⟨r352, mem352, hc352, hf⟩ := zb_some hf
  refine z_callVi (k := 0) (As := []) (rest := []) C Z (M_X4_leadNow l G C.2.1 N mem r352 mem352 hc352) (zcw_X4_152 C.1.2.2.2.2 ⟨Nat.le_of_ble_eq_true rfl, Nat.le_of_ble_eq_true rfl⟩) (by decide) rfl rfl rfl hl.1 rfl (Nat.le_of_ble_eq_true rfl) ⟨Nat.le_refl 0, Nat.le_refl 0⟩ dX4_soonestSet_1 (fun H locs Z => ?_)
  refine lv_istore_n (lv' := [(1, .int r352), (0, .ref (zr G 0))]) C.1.1 C.1.2.1 dX4_soonestSet_4 rfl hl (by decide) rfl (fun ls hl => ?_)
  refine lv_iconst (v := (-1 : Int32)) C.1.1 C.1.2.1 dX4_soonestSet_5 (by decide) ?_
  refine lv_istore_n (lv' := [(2, .int (-1 : Int32)), (1, .int r352), (0, .ref (zr G 0))]) C.1.1 C.1.2.1 dX4_soonestSet_6 rfl hl (by decide) rfl (fun ls hl => ?_)
  refine lv_iconst (v := (0 : Int32)) C.1.1 C.1.2.1 dX4_soonestSet_7 (by decide) ?_
  refine lv_istore_n (lv' := [(3, .int (0 : Int32)), (2, .int (-1 : Int32)), (1, .int r352), (0, .ref (zr G 0))]) C.1.1 C.1.2.1 dX4_soonestSet_8 rfl hl (by decide) rfl (fun ls hl => ?_)
  exact K_X4_soonestSet_9 (l := l) (e := e) (below := below) C hr hlk N N mem352 r352 (-1 : Int32) (0 : Int32) _ _ _ Z (lv_sub hl [3, 2, 1, 0] rfl) hf
set_option maxHeartbeats 4000000 in
set_option maxRecDepth 100000 in
theorem M_X4_soonest (l : Launch) (G : zG) (hG : zOK G) (N : Nat) (mem : zMem) (a1 : Int32) (r : Int32) (mem' : zMem) (hf : f_X4_soonest N mem a1 = some (r, mem')) : zM l G yX4_soonest cX4_soonest 3 (some .int) 5 112 [.ref (zr G 0), .int a1] mem (zQi G r mem') := by
  refine zStart hG (by decide +kernel) (Nat.le_of_ble_eq_true rfl) (fun p e s m below meth c C hr hlk ls hl Z => ?_)
  have hl : lv_has ls 3 [(0, .ref (zr G 0)), (1, .int a1)] := hl
  have C : zC (zAd G) G p s m _ c cX4_soonest 3 RX4 := C
  unfold f_X4_soonest at hf
  refine lv_iload_n C.1.1 C.1.2.1 dX4_soonest_0 rfl (lv_at hl 1 rfl) ?_
  refine lv_iconst (v := (0 : Int32)) C.1.1 C.1.2.1 dX4_soonest_1 (by decide) ?_
  refine lv_iconst (v := (1 : Int32)) C.1.1 C.1.2.1 dX4_soonest_2 (by decide) ?_
  obtain ⟨r353, mem353, hc353, hf⟩ := zb_some hf
  refine z_callSi (As := [.int a1, .int (0 : Int32), .int (1 : Int32)]) (rest := []) C Z (M_X4_isWithin l G C.2.1 N mem a1 (0 : Int32) (1 : Int32) r353 mem353 hc353) (zcw_X4_52 C.1.2.2.2.2 ⟨Nat.le_of_ble_eq_true rfl, Nat.le_of_ble_eq_true rfl⟩) rfl hl.1 rfl (Nat.le_of_ble_eq_true rfl) ⟨Nat.le_refl 0, Nat.le_refl 0⟩ dX4_soonest_3 (fun H locs Z => ?_)
  refine lv_if_ne (tgt := 12) C.1.1 C.1.2.1 dX4_soonest_6 (by decide) (fun h354 => ?_) (fun h354 => ?_)
  · replace hf := (if_neg h354).symm.trans hf
    refine lv_aload_n C.1.1 C.1.2.1 dX4_soonest_12 rfl (lv_at hl 0 rfl) ?_
    obtain ⟨r355, mem355, hc355, hf⟩ := zb_some hf
    refine z_callVi (k := 0) (As := []) (rest := []) C Z (M_X4_soonestSet l G C.2.1 N mem353 r355 mem355 hc355) (zcw_X4_181 C.1.2.2.2.2 ⟨Nat.le_of_ble_eq_true rfl, Nat.le_of_ble_eq_true rfl⟩) (by decide) rfl rfl rfl hl.1 rfl (Nat.le_of_ble_eq_true rfl) ⟨Nat.le_refl 0, Nat.le_refl 0⟩ dX4_soonest_13 (fun H locs Z => ?_)
    refine lv_istore_n (lv' := [(2, .int r355), (0, .ref (zr G 0)), (1, .int a1)]) C.1.1 C.1.2.1 dX4_soonest_16 rfl hl (by decide) rfl (fun ls hl => ?_)
    refine lv_iload_n C.1.1 C.1.2.1 dX4_soonest_17 rfl (lv_at hl 0 rfl) ?_
    refine lv_iconst (v := (-1 : Int32)) C.1.1 C.1.2.1 dX4_soonest_18 (by decide) ?_
    refine lv_icmp_ne (tgt := 24) C.1.1 C.1.2.1 dX4_soonest_19 (by decide) (fun h356 => ?_) (fun h356 => ?_)
    · replace hf := (if_neg h356).symm.trans hf
      refine lv_iload_n C.1.1 C.1.2.1 dX4_soonest_24 rfl (lv_at hl 2 rfl) ?_
      refine lv_if_ne (tgt := 32) C.1.1 C.1.2.1 dX4_soonest_25 (by decide) (fun h357 => ?_) (fun h357 => ?_)
      · replace hf := (if_neg h357).symm.trans hf
        refine lv_aload_n C.1.1 C.1.2.1 dX4_soonest_32 rfl (lv_at hl 1 rfl) ?_
        refine zg_X4_19 C Z dX4_soonest_33 ?_
        refine lv_iload_n C.1.1 C.1.2.1 dX4_soonest_36 rfl (lv_at hl 0 rfl) ?_
        obtain ⟨r358, mem358, hc358, hf⟩ := zb_some hf
        refine z_callVi (k := 6) (As := [.int r355]) (rest := []) C Z (M_X1_minutesOf l G C.2.1 N mem355 r355 r358 mem358 hc358) (zcw_X4_184 C.1.2.2.2.2 ⟨Nat.le_of_ble_eq_true rfl, Nat.le_of_ble_eq_true rfl⟩) (by decide) rfl rfl rfl hl.1 rfl (Nat.le_of_ble_eq_true rfl) ⟨Nat.le_refl 0, Nat.le_refl 0⟩ dX4_soonest_37 (fun H locs Z => ?_)
        cases hf
        exact z_iret C Z hr hlk dX4_soonest_40
      · replace hf := (if_pos h357).symm.trans hf
        refine lv_iload_n C.1.1 C.1.2.1 dX4_soonest_28 rfl (lv_at hl 0 rfl) ?_
        refine lv_goto (tgt := 40) C.1.1 C.1.2.1 dX4_soonest_29 (by decide) ?_
        cases hf
        exact z_iret C Z hr hlk dX4_soonest_40
    · replace hf := (if_pos h356).symm.trans hf
      refine lv_iconst (v := (-1 : Int32)) C.1.1 C.1.2.1 dX4_soonest_22 (by decide) ?_
      cases hf
      exact z_iret C Z hr hlk dX4_soonest_23
  · replace hf := (if_pos h354).symm.trans hf
    refine lv_bipush (v := (-3 : Int32)) C.1.1 C.1.2.1 dX4_soonest_9 (by decide) ?_
    cases hf
    exact z_iret C Z hr hlk dX4_soonest_11
set_option maxHeartbeats 4000000 in
set_option maxRecDepth 100000 in
theorem K_X4_never_15 {p : Program} {l : Launch} {e : Env} {s : State} {m : MethodId} {args : Array Value} {below : List Frame} {meth : Method} {c : Code} {G : zG} (C : zC (zAd G) G p s m args c cX4_never 3 RX4) (hr : meth.sig.returnType = (some .int)) (hlk : meth.locks = false) {r : Int32} {mem' : zMem} (N : Nat) : ∀ (n : Nat) (mem : zMem) (x1 : Int32) (x2 : Int32) (H : Heap) (locs : List Loc) (ls : Array Slot), zH (zAd G) G s mem H locs → lv_has ls 3 [(0, .ref (zr G 0)), (1, .int x1), (2, .int x2)] → f_X4_never_15 N n mem x1 x2 = some (r, mem') → W p l e ({ frames := 4, cells := 0, slots := 0, locals := 89 } : Room) s m args below meth c H locs 0 0 (MQ below (zQi G r mem') args s 0 0 (zAd G)) (F0 m 15 ls []) := by
  intro n
  induction n with
  | zero =>
    intro mem x1 x2 H locs ls Z hl hf
    rw [f_X4_never_15.eq_1] at hf
    cases hf
  | succ n ih =>
    intro mem x1 x2 H locs ls Z hl hf
    rw [f_X4_never_15.eq_2] at hf
    refine lv_iload_n C.1.1 C.1.2.1 dX4_never_15 rfl (lv_at hl 2 rfl) ?_
    refine lv_iconst (v := (1 : Int32)) C.1.1 C.1.2.1 dX4_never_16 (by decide) ?_
    refine lv_aload_n C.1.1 C.1.2.1 dX4_never_17 rfl (lv_at hl 0 rfl) ?_
    refine zg_X4_19 C Z dX4_never_18 ?_
    refine zg_X4_64 C Z dX4_never_21 ?_
    refine lv_ishl C.1.1 C.1.2.1 dX4_never_24 ?_
    refine lv_icmp_ge (tgt := 45) C.1.1 C.1.2.1 dX4_never_25 (by decide) (fun h359 => ?_) (fun h359 => ?_)
    · replace hf := (if_pos h359).symm.trans hf
      refine lv_iconst (v := (1 : Int32)) C.1.1 C.1.2.1 dX4_never_45 (by decide) ?_
      cases hf
      exact z_iret C Z hr hlk dX4_never_46
    · replace hf := (if_neg h359).symm.trans hf
      refine lv_aload_n C.1.1 C.1.2.1 dX4_never_28 rfl (lv_at hl 0 rfl) ?_
      refine lv_iload_n C.1.1 C.1.2.1 dX4_never_29 rfl (lv_at hl 2 rfl) ?_
      refine lv_iload_n C.1.1 C.1.2.1 dX4_never_30 rfl (lv_at hl 1 rfl) ?_
      obtain ⟨r360, mem360, hc360, hf⟩ := zb_some hf
      refine z_callVi (k := 0) (As := [.int x2, .int x1]) (rest := []) C Z (M_X4_levels l G C.2.1 N mem x2 x1 r360 mem360 hc360) (zcw_X4_187 C.1.2.2.2.2 ⟨Nat.le_of_ble_eq_true rfl, Nat.le_of_ble_eq_true rfl⟩) (by decide) rfl rfl rfl hl.1 rfl (Nat.le_of_ble_eq_true rfl) ⟨Nat.le_refl 0, Nat.le_refl 0⟩ dX4_never_31 (fun H locs Z => ?_)
      refine lv_if_eq (tgt := 39) C.1.1 C.1.2.1 dX4_never_34 (by decide) (fun h361 => ?_) (fun h361 => ?_)
      · replace hf := (if_pos h361).symm.trans hf
        refine lv_iinc (v := (x2 + 1)) (lv' := [(2, .int (x2 + 1)), (0, .ref (zr G 0)), (1, .int x1)]) C.1.1 C.1.2.1 dX4_never_39 hl (k := 2) rfl rfl (by decide) rfl (fun ls hl => ?_)
        refine lv_goto (tgt := 15) C.1.1 C.1.2.1 dX4_never_42 (by decide) ?_
        exact ih mem360 x1 (x2 + 1) _ _ _ Z (lv_sub hl [1, 2, 0] rfl) hf
      · replace hf := (if_neg h361).symm.trans hf
        refine lv_iconst (v := (0 : Int32)) C.1.1 C.1.2.1 dX4_never_37 (by decide) ?_
        cases hf
        exact z_iret C Z hr hlk dX4_never_38
set_option maxHeartbeats 4000000 in
set_option maxRecDepth 100000 in
theorem M_X4_never (l : Launch) (G : zG) (hG : zOK G) (N : Nat) (mem : zMem) (a1 : Int32) (r : Int32) (mem' : zMem) (hf : f_X4_never N mem a1 = some (r, mem')) : zM l G yX4_never cX4_never 3 (some .int) 4 89 [.ref (zr G 0), .int a1] mem (zQi G r mem') := by
  refine zStart hG (by decide +kernel) (Nat.le_of_ble_eq_true rfl) (fun p e s m below meth c C hr hlk ls hl Z => ?_)
  have hl : lv_has ls 3 [(0, .ref (zr G 0)), (1, .int a1)] := hl
  have C : zC (zAd G) G p s m _ c cX4_never 3 RX4 := C
  unfold f_X4_never at hf
  refine lv_iload_n C.1.1 C.1.2.1 dX4_never_0 rfl (lv_at hl 1 rfl) ?_
  refine lv_iconst (v := (0 : Int32)) C.1.1 C.1.2.1 dX4_never_1 (by decide) ?_
  refine lv_bipush (v := (99 : Int32)) C.1.1 C.1.2.1 dX4_never_2 (by decide) ?_
  obtain ⟨r362, mem362, hc362, hf⟩ := zb_some hf
  refine z_callSi (As := [.int a1, .int (0 : Int32), .int (99 : Int32)]) (rest := []) C Z (M_X4_isWithin l G C.2.1 N mem a1 (0 : Int32) (99 : Int32) r362 mem362 hc362) (zcw_X4_52 C.1.2.2.2.2 ⟨Nat.le_of_ble_eq_true rfl, Nat.le_of_ble_eq_true rfl⟩) rfl hl.1 rfl (Nat.le_of_ble_eq_true rfl) ⟨Nat.le_refl 0, Nat.le_refl 0⟩ dX4_never_4 (fun H locs Z => ?_)
  refine lv_if_ne (tgt := 13) C.1.1 C.1.2.1 dX4_never_7 (by decide) (fun h363 => ?_) (fun h363 => ?_)
  · replace hf := (if_neg h363).symm.trans hf
    refine lv_iconst (v := (0 : Int32)) C.1.1 C.1.2.1 dX4_never_13 (by decide) ?_
    refine lv_istore_n (lv' := [(2, .int (0 : Int32)), (0, .ref (zr G 0)), (1, .int a1)]) C.1.1 C.1.2.1 dX4_never_14 rfl hl (by decide) rfl (fun ls hl => ?_)
    exact K_X4_never_15 (l := l) (e := e) (below := below) C hr hlk N N mem362 a1 (0 : Int32) _ _ _ Z (lv_sub hl [1, 2, 0] rfl) hf
  · replace hf := (if_pos h363).symm.trans hf
    refine lv_bipush (v := (-3 : Int32)) C.1.1 C.1.2.1 dX4_never_10 (by decide) ?_
    cases hf
    exact z_iret C Z hr hlk dX4_never_12
set_option maxHeartbeats 4000000 in
set_option maxRecDepth 100000 in
theorem M_X4_isSet (l : Launch) (G : zG) (hG : zOK G) (N : Nat) (mem : zMem) (a1 : Int32) (r : Int32) (mem' : zMem) (hf : f_X4_isSet N mem a1 = some (r, mem')) : zM l G yX4_isSet cX4_isSet 2 (some .boolean) 0 0 [.ref (zr G 0), .int a1] mem (zQi G r mem') := by
  refine zStart hG (by decide +kernel) (Nat.le_of_ble_eq_true rfl) (fun p e s m below meth c C hr hlk ls hl Z => ?_)
  have hl : lv_has ls 2 [(0, .ref (zr G 0)), (1, .int a1)] := hl
  have C : zC (zAd G) G p s m _ c cX4_isSet 2 RX4 := C
  unfold f_X4_isSet at hf
  refine lv_iload_n C.1.1 C.1.2.1 dX4_isSet_0 rfl (lv_at hl 1 rfl) ?_
  refine lv_if_lt (tgt := 21) C.1.1 C.1.2.1 dX4_isSet_1 (by decide) (fun h364 => ?_) (fun h364 => ?_)
  · replace hf := (if_pos h364).symm.trans hf
    refine lv_iconst (v := (0 : Int32)) C.1.1 C.1.2.1 dX4_isSet_21 (by decide) ?_
    cases hf
    exact z_zret C Z hr hlk (by decide) dX4_isSet_22
  · replace hf := (if_neg h364).symm.trans hf
    refine lv_iload_n C.1.1 C.1.2.1 dX4_isSet_4 rfl (lv_at hl 1 rfl) ?_
    refine lv_iconst (v := (1 : Int32)) C.1.1 C.1.2.1 dX4_isSet_5 (by decide) ?_
    refine lv_aload_n C.1.1 C.1.2.1 dX4_isSet_6 rfl (lv_at hl 0 rfl) ?_
    refine zg_X4_19 C Z dX4_isSet_7 ?_
    refine zg_X4_64 C Z dX4_isSet_10 ?_
    refine lv_ishl C.1.1 C.1.2.1 dX4_isSet_13 ?_
    refine lv_icmp_ge (tgt := 21) C.1.1 C.1.2.1 dX4_isSet_14 (by decide) (fun h365 => ?_) (fun h365 => ?_)
    · replace hf := (if_pos h365).symm.trans hf
      refine lv_iconst (v := (0 : Int32)) C.1.1 C.1.2.1 dX4_isSet_21 (by decide) ?_
      cases hf
      exact z_zret C Z hr hlk (by decide) dX4_isSet_22
    · replace hf := (if_neg h365).symm.trans hf
      refine lv_iconst (v := (1 : Int32)) C.1.1 C.1.2.1 dX4_isSet_17 (by decide) ?_
      refine lv_goto (tgt := 22) C.1.1 C.1.2.1 dX4_isSet_18 (by decide) ?_
      cases hf
      exact z_zret C Z hr hlk (by decide) dX4_isSet_22
set_option maxHeartbeats 4000000 in
set_option maxRecDepth 100000 in
theorem M_X4_seen (l : Launch) (G : zG) (hG : zOK G) (N : Nat) (mem : zMem) (a1 : Int32) (a2 : Int32) (a3 : Int32) (r : Int32) (mem' : zMem) (hf : f_X4_seen N mem a1 a2 a3 = some (r, mem')) : zM l G yX4_seen cX4_seen 4 (some .int) 1 23 [.ref (zr G 0), .int a1, .int a2, .int a3] mem (zQi G r mem') := by
  refine zStart hG (by decide +kernel) (Nat.le_of_ble_eq_true rfl) (fun p e s m below meth c C hr hlk ls hl Z => ?_)
  have hl : lv_has ls 4 [(0, .ref (zr G 0)), (1, .int a1), (2, .int a2), (3, .int a3)] := hl
  have C : zC (zAd G) G p s m _ c cX4_seen 4 RX4 := C
  unfold f_X4_seen at hf
  refine lv_aload_n C.1.1 C.1.2.1 dX4_seen_0 rfl (lv_at hl 0 rfl) ?_
  refine lv_iload_n C.1.1 C.1.2.1 dX4_seen_1 rfl (lv_at hl 1 rfl) ?_
  obtain ⟨r366, mem366, hc366, hf⟩ := zb_some hf
  refine z_callVi (k := 0) (As := [.int a1]) (rest := []) C Z (M_X4_isSet l G C.2.1 N mem a1 r366 mem366 hc366) (zcw_X4_198 C.1.2.2.2.2 ⟨Nat.le_of_ble_eq_true rfl, Nat.le_of_ble_eq_true rfl⟩) (by decide) rfl rfl rfl hl.1 rfl (Nat.le_of_ble_eq_true rfl) ⟨Nat.le_refl 0, Nat.le_refl 0⟩ dX4_seen_2 (fun H locs Z => ?_)
  refine lv_if_ne (tgt := 11) C.1.1 C.1.2.1 dX4_seen_5 (by decide) (fun h367 => ?_) (fun h367 => ?_)
  · replace hf := (if_neg h367).symm.trans hf
    refine lv_iload_n C.1.1 C.1.2.1 dX4_seen_11 rfl (lv_at hl 2 rfl) ?_
    refine lv_iconst (v := (0 : Int32)) C.1.1 C.1.2.1 dX4_seen_12 (by decide) ?_
    refine lv_bipush (v := (9 : Int32)) C.1.1 C.1.2.1 dX4_seen_13 (by decide) ?_
    obtain ⟨r368, mem368, hc368, hf⟩ := zb_some hf
    refine z_callSi (As := [.int a2, .int (0 : Int32), .int (9 : Int32)]) (rest := []) C Z (M_X4_isWithin l G C.2.1 N mem366 a2 (0 : Int32) (9 : Int32) r368 mem368 hc368) (zcw_X4_52 C.1.2.2.2.2 ⟨Nat.le_of_ble_eq_true rfl, Nat.le_of_ble_eq_true rfl⟩) rfl hl.1 rfl (Nat.le_of_ble_eq_true rfl) ⟨Nat.le_refl 0, Nat.le_refl 0⟩ dX4_seen_15 (fun H locs Z => ?_)
    refine lv_if_eq (tgt := 32) C.1.1 C.1.2.1 dX4_seen_18 (by decide) (fun h369 => ?_) (fun h369 => ?_)
    · replace hf := (if_pos h369).symm.trans hf
      refine lv_bipush (v := (-3 : Int32)) C.1.1 C.1.2.1 dX4_seen_32 (by decide) ?_
      cases hf
      exact z_iret C Z hr hlk dX4_seen_34
    · replace hf := (if_neg h369).symm.trans hf
      refine lv_iload_n C.1.1 C.1.2.1 dX4_seen_21 rfl (lv_at hl 3 rfl) ?_
      refine lv_iconst (v := (0 : Int32)) C.1.1 C.1.2.1 dX4_seen_22 (by decide) ?_
      refine lv_sipush (v := (255 : Int32)) C.1.1 C.1.2.1 dX4_seen_23 (by decide) ?_
      obtain ⟨r370, mem370, hc370, hf⟩ := zb_some hf
      refine z_callSi (As := [.int a3, .int (0 : Int32), .int (255 : Int32)]) (rest := []) C Z (M_X4_isWithin l G C.2.1 N mem368 a3 (0 : Int32) (255 : Int32) r370 mem370 hc370) (zcw_X4_52 C.1.2.2.2.2 ⟨Nat.le_of_ble_eq_true rfl, Nat.le_of_ble_eq_true rfl⟩) rfl hl.1 rfl (Nat.le_of_ble_eq_true rfl) ⟨Nat.le_refl 0, Nat.le_refl 0⟩ dX4_seen_26 (fun H locs Z => ?_)
      refine lv_if_ne (tgt := 35) C.1.1 C.1.2.1 dX4_seen_29 (by decide) (fun h371 => ?_) (fun h371 => ?_)
      · replace hf := (if_neg h371).symm.trans hf
        refine lv_aload_n C.1.1 C.1.2.1 dX4_seen_35 rfl (lv_at hl 0 rfl) ?_
        refine zg_X4_48 C Z dX4_seen_36 ?_
        refine lv_iload_n C.1.1 C.1.2.1 dX4_seen_39 rfl (lv_at hl 1 rfl) ?_
        refine lv_iload_n C.1.1 C.1.2.1 dX4_seen_40 rfl (lv_at hl 2 rfl) ?_
        refine lv_iload_n C.1.1 C.1.2.1 dX4_seen_41 rfl (lv_at hl 3 rfl) ?_
        obtain ⟨r372, mem372, hc372, hf⟩ := zb_some hf
        refine z_callVi (k := 36) (As := [.int a1, .int a2, .int a3]) (rest := []) C Z (M_X0_addSeen l G C.2.1 N mem370 a1 a2 a3 r372 mem372 hc372) (zcw_X4_201 C.1.2.2.2.2 ⟨Nat.le_of_ble_eq_true rfl, Nat.le_of_ble_eq_true rfl⟩) (by decide) rfl rfl rfl hl.1 rfl (Nat.le_of_ble_eq_true rfl) ⟨Nat.le_refl 0, Nat.le_refl 0⟩ dX4_seen_42 (fun H locs Z => ?_)
        refine lv_if_eq (tgt := 58) C.1.1 C.1.2.1 dX4_seen_45 (by decide) (fun h373 => ?_) (fun h373 => ?_)
        · replace hf := (if_pos h373).symm.trans hf
          refine lv_bipush (v := (-5 : Int32)) C.1.1 C.1.2.1 dX4_seen_58 (by decide) ?_
          cases hf
          exact z_iret C Z hr hlk dX4_seen_60
        · replace hf := (if_neg h373).symm.trans hf
          refine lv_aload_n C.1.1 C.1.2.1 dX4_seen_48 rfl (lv_at hl 0 rfl) ?_
          refine zg_X4_48 C Z dX4_seen_49 ?_
          refine zg_X4_204 C Z dX4_seen_52 ?_
          refine lv_goto (tgt := 60) C.1.1 C.1.2.1 dX4_seen_55 (by decide) ?_
          cases hf
          exact z_iret C Z hr hlk dX4_seen_60
      · replace hf := (if_pos h371).symm.trans hf
        refine lv_bipush (v := (-3 : Int32)) C.1.1 C.1.2.1 dX4_seen_32 (by decide) ?_
        cases hf
        exact z_iret C Z hr hlk dX4_seen_34
  · replace hf := (if_pos h367).symm.trans hf
    refine lv_bipush (v := (-2 : Int32)) C.1.1 C.1.2.1 dX4_seen_8 (by decide) ?_
    cases hf
    exact z_iret C Z hr hlk dX4_seen_10
set_option maxHeartbeats 4000000 in
set_option maxRecDepth 100000 in
theorem K_X4_heard_49 {p : Program} {l : Launch} {e : Env} {s : State} {m : MethodId} {args : Array Value} {below : List Frame} {meth : Method} {c : Code} {G : zG} (C : zC (zAd G) G p s m args c cX4_heard 4 RX4) (hr : meth.sig.returnType = (some .int)) (hlk : meth.locks = false) {r : Int32} {mem' : zMem} (N : Nat) (mem : zMem) (s1 : Int32) (s2 : Int32) (s3 : Int32) (H : Heap) (locs : List Loc) (ls : Array Slot) (Z : zH (zAd G) G s mem H locs) (hl : lv_has ls 4 [(0, .ref (zr G 0))]) (hf : f_X4_heard_49 N mem s1 s2 s3 = some (r, mem')) : W p l e ({ frames := 1, cells := 0, slots := 0, locals := 24 } : Room) s m args below meth c H locs 0 0 (MQ below (zQi G r mem') args s 0 0 (zAd G)) (F0 m 49 ls [.int s3, .int s2, .int s1, .ref (zr G 36)]) := by
  unfold f_X4_heard_49 at hf
  refine lv_aload_n C.1.1 C.1.2.1 dX4_heard_49 rfl (lv_at hl 0 rfl) ?_
  refine zg_X4_26 C Z dX4_heard_50 ?_
  refine zg_X4_116 (k := 11) (by decide) C Z dX4_heard_53 ?_
  obtain ⟨r374, mem374, hc374, hf⟩ := zb_some hf
  refine z_callVi (k := 36) (As := [.int s1, .int s2, .int s3, .int (mem 11 3)]) (rest := []) C Z (M_X0_addHeard l G C.2.1 N mem s1 s2 s3 (mem 11 3) r374 mem374 hc374) (zcw_X4_207 C.1.2.2.2.2 ⟨Nat.le_of_ble_eq_true rfl, Nat.le_of_ble_eq_true rfl⟩) (by decide) rfl rfl rfl hl.1 rfl (Nat.le_of_ble_eq_true rfl) ⟨Nat.le_refl 0, Nat.le_refl 0⟩ dX4_heard_56 (fun H locs Z => ?_)
  refine lv_if_eq (tgt := 72) C.1.1 C.1.2.1 dX4_heard_59 (by decide) (fun h375 => ?_) (fun h375 => ?_)
  · replace hf := (if_pos h375).symm.trans hf
    refine lv_bipush (v := (-5 : Int32)) C.1.1 C.1.2.1 dX4_heard_72 (by decide) ?_
    cases hf
    exact z_iret C Z hr hlk dX4_heard_74
  · replace hf := (if_neg h375).symm.trans hf
    refine lv_aload_n C.1.1 C.1.2.1 dX4_heard_62 rfl (lv_at hl 0 rfl) ?_
    refine zg_X4_48 C Z dX4_heard_63 ?_
    refine zg_X4_211 C Z dX4_heard_66 ?_
    refine lv_goto (tgt := 74) C.1.1 C.1.2.1 dX4_heard_69 (by decide) ?_
    cases hf
    exact z_iret C Z hr hlk dX4_heard_74
set_option maxHeartbeats 4000000 in
set_option maxRecDepth 100000 in
theorem M_X4_heard (l : Launch) (G : zG) (hG : zOK G) (N : Nat) (mem : zMem) (a1 : Int32) (a2 : Int32) (a3 : Int32) (r : Int32) (mem' : zMem) (hf : f_X4_heard N mem a1 a2 a3 = some (r, mem')) : zM l G yX4_heard cX4_heard 4 (some .int) 1 24 [.ref (zr G 0), .int a1, .int a2, .int a3] mem (zQi G r mem') := by
  refine zStart hG (by decide +kernel) (Nat.le_of_ble_eq_true rfl) (fun p e s m below meth c C hr hlk ls hl Z => ?_)
  have hl : lv_has ls 4 [(0, .ref (zr G 0)), (1, .int a1), (2, .int a2), (3, .int a3)] := hl
  have C : zC (zAd G) G p s m _ c cX4_heard 4 RX4 := C
  unfold f_X4_heard at hf
  refine lv_aload_n C.1.1 C.1.2.1 dX4_heard_0 rfl (lv_at hl 0 rfl) ?_
  refine lv_iload_n C.1.1 C.1.2.1 dX4_heard_1 rfl (lv_at hl 1 rfl) ?_
  obtain ⟨r376, mem376, hc376, hf⟩ := zb_some hf
  refine z_callVi (k := 0) (As := [.int a1]) (rest := []) C Z (M_X4_isSet l G C.2.1 N mem a1 r376 mem376 hc376) (zcw_X4_198 C.1.2.2.2.2 ⟨Nat.le_of_ble_eq_true rfl, Nat.le_of_ble_eq_true rfl⟩) (by decide) rfl rfl rfl hl.1 rfl (Nat.le_of_ble_eq_true rfl) ⟨Nat.le_refl 0, Nat.le_refl 0⟩ dX4_heard_2 (fun H locs Z => ?_)
  refine lv_if_ne (tgt := 11) C.1.1 C.1.2.1 dX4_heard_5 (by decide) (fun h377 => ?_) (fun h377 => ?_)
  · replace hf := (if_neg h377).symm.trans hf
    refine lv_iload_n C.1.1 C.1.2.1 dX4_heard_11 rfl (lv_at hl 2 rfl) ?_
    refine lv_iconst (v := (0 : Int32)) C.1.1 C.1.2.1 dX4_heard_12 (by decide) ?_
    refine lv_bipush (v := (99 : Int32)) C.1.1 C.1.2.1 dX4_heard_13 (by decide) ?_
    obtain ⟨r378, mem378, hc378, hf⟩ := zb_some hf
    refine z_callSi (As := [.int a2, .int (0 : Int32), .int (99 : Int32)]) (rest := []) C Z (M_X4_isWithin l G C.2.1 N mem376 a2 (0 : Int32) (99 : Int32) r378 mem378 hc378) (zcw_X4_52 C.1.2.2.2.2 ⟨Nat.le_of_ble_eq_true rfl, Nat.le_of_ble_eq_true rfl⟩) rfl hl.1 rfl (Nat.le_of_ble_eq_true rfl) ⟨Nat.le_refl 0, Nat.le_refl 0⟩ dX4_heard_15 (fun H locs Z => ?_)
    refine lv_if_eq (tgt := 30) C.1.1 C.1.2.1 dX4_heard_18 (by decide) (fun h379 => ?_) (fun h379 => ?_)
    · replace hf := (if_pos h379).symm.trans hf
      refine lv_bipush (v := (-3 : Int32)) C.1.1 C.1.2.1 dX4_heard_30 (by decide) ?_
      cases hf
      exact z_iret C Z hr hlk dX4_heard_32
    · replace hf := (if_neg h379).symm.trans hf
      refine lv_iload_n C.1.1 C.1.2.1 dX4_heard_21 rfl (lv_at hl 3 rfl) ?_
      refine lv_iconst (v := (0 : Int32)) C.1.1 C.1.2.1 dX4_heard_22 (by decide) ?_
      refine lv_iconst (v := (1 : Int32)) C.1.1 C.1.2.1 dX4_heard_23 (by decide) ?_
      obtain ⟨r380, mem380, hc380, hf⟩ := zb_some hf
      refine z_callSi (As := [.int a3, .int (0 : Int32), .int (1 : Int32)]) (rest := []) C Z (M_X4_isWithin l G C.2.1 N mem378 a3 (0 : Int32) (1 : Int32) r380 mem380 hc380) (zcw_X4_52 C.1.2.2.2.2 ⟨Nat.le_of_ble_eq_true rfl, Nat.le_of_ble_eq_true rfl⟩) rfl hl.1 rfl (Nat.le_of_ble_eq_true rfl) ⟨Nat.le_refl 0, Nat.le_refl 0⟩ dX4_heard_24 (fun H locs Z => ?_)
      refine lv_if_ne (tgt := 33) C.1.1 C.1.2.1 dX4_heard_27 (by decide) (fun h381 => ?_) (fun h381 => ?_)
      · replace hf := (if_neg h381).symm.trans hf
        refine lv_aload_n C.1.1 C.1.2.1 dX4_heard_33 rfl (lv_at hl 0 rfl) ?_
        refine zg_X4_48 C Z dX4_heard_34 ?_
        refine lv_iload_n C.1.1 C.1.2.1 dX4_heard_37 rfl (lv_at hl 1 rfl) ?_
        refine lv_iload_n C.1.1 C.1.2.1 dX4_heard_38 rfl (lv_at hl 2 rfl) ?_
        refine lv_iload_n C.1.1 C.1.2.1 dX4_heard_39 rfl (lv_at hl 3 rfl) ?_
        refine lv_iconst (v := (1 : Int32)) C.1.1 C.1.2.1 dX4_heard_40 (by decide) ?_
        refine lv_icmp_ne (tgt := 48) C.1.1 C.1.2.1 dX4_heard_41 (by decide) (fun h382 => ?_) (fun h382 => ?_)
        · replace hf := (if_neg h382).symm.trans hf
          refine lv_iconst (v := (0 : Int32)) C.1.1 C.1.2.1 dX4_heard_48 (by decide) ?_
          exact K_X4_heard_49 (l := l) (e := e) (below := below) C hr hlk N mem380 a1 a2 (0 : Int32) _ _ _ Z (lv_sub hl [0] rfl) hf
        · replace hf := (if_pos h382).symm.trans hf
          refine lv_iconst (v := (1 : Int32)) C.1.1 C.1.2.1 dX4_heard_44 (by decide) ?_
          refine lv_goto (tgt := 49) C.1.1 C.1.2.1 dX4_heard_45 (by decide) ?_
          exact K_X4_heard_49 (l := l) (e := e) (below := below) C hr hlk N mem380 a1 a2 (1 : Int32) _ _ _ Z (lv_sub hl [0] rfl) hf
      · replace hf := (if_pos h381).symm.trans hf
        refine lv_bipush (v := (-3 : Int32)) C.1.1 C.1.2.1 dX4_heard_30 (by decide) ?_
        cases hf
        exact z_iret C Z hr hlk dX4_heard_32
  · replace hf := (if_pos h377).symm.trans hf
    refine lv_bipush (v := (-2 : Int32)) C.1.1 C.1.2.1 dX4_heard_8 (by decide) ?_
    cases hf
    exact z_iret C Z hr hlk dX4_heard_10
set_option maxHeartbeats 4000000 in
set_option maxRecDepth 100000 in
theorem M_X4_forget (l : Launch) (G : zG) (hG : zOK G) (N : Nat) (mem : zMem) (r : Int32) (mem' : zMem) (hf : f_X4_forget N mem = some (r, mem')) : zM l G yX4_forget cX4_forget 2 (some .int) 1 20 [.ref (zr G 0)] mem (zQi G r mem') := by
  refine zStart hG (by decide +kernel) (Nat.le_of_ble_eq_true rfl) (fun p e s m below meth c C hr hlk ls hl Z => ?_)
  have hl : lv_has ls 2 [(0, .ref (zr G 0))] := hl
  have C : zC (zAd G) G p s m _ c cX4_forget 2 RX4 := C
  unfold f_X4_forget at hf
  refine lv_aload_n C.1.1 C.1.2.1 dX4_forget_0 rfl (lv_at hl 0 rfl) ?_
  refine zg_X4_48 C Z dX4_forget_1 ?_
  refine zg_X4_204 C Z dX4_forget_4 ?_
  refine lv_aload_n C.1.1 C.1.2.1 dX4_forget_7 rfl (lv_at hl 0 rfl) ?_
  refine zg_X4_48 C Z dX4_forget_8 ?_
  refine zg_X4_211 C Z dX4_forget_11 ?_
  refine lv_iadd C.1.1 C.1.2.1 dX4_forget_14 ?_
  refine lv_istore_n (lv' := [(1, .int ((mem 36 7) + (mem 36 8))), (0, .ref (zr G 0))]) C.1.1 C.1.2.1 dX4_forget_15 rfl hl (by decide) rfl (fun ls hl => ?_)
  refine lv_aload_n C.1.1 C.1.2.1 dX4_forget_16 rfl (lv_at hl 1 rfl) ?_
  refine zg_X4_48 C Z dX4_forget_17 ?_
  obtain ⟨r383, mem383, hc383, hf⟩ := zb_some hf
  refine z_callVv (k := 36) (As := []) (rest := []) C Z (M_X0_clear l G C.2.1 N mem r383 mem383 hc383) (zcw_X4_98 C.1.2.2.2.2 ⟨Nat.le_of_ble_eq_true rfl, Nat.le_of_ble_eq_true rfl⟩) (by decide) rfl rfl rfl hl.1 rfl (Nat.le_of_ble_eq_true rfl) ⟨Nat.le_refl 0, Nat.le_refl 0⟩ dX4_forget_20 (fun H locs Z => ?_)
  refine lv_iload_n C.1.1 C.1.2.1 dX4_forget_23 rfl (lv_at hl 0 rfl) ?_
  cases hf
  exact z_iret C Z hr hlk dX4_forget_24
