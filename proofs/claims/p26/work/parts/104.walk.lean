set_option maxHeartbeats 4000000 in
set_option maxRecDepth 100000 in
theorem K_X4_fitsAllSeen_2 {p : Program} {l : Launch} {e : Env} {s : State} {m : MethodId} {args : Array Value} {below : List Frame} {meth : Method} {c : Code} {G : zG} (C : zC (zAd G) G p s m args c cX4_fitsAllSeen 7 RX4) (hr : meth.sig.returnType = (some .boolean)) (hlk : meth.locks = false) {r : Int32} {mem' : zMem} (N : Nat) : ∀ (n : Nat) (mem : zMem) (x1 : Int32) (x2 : Int32) (x3 : Int32) (H : Heap) (locs : List Loc) (ls : Array Slot), zH (zAd G) G s mem H locs → lv_has ls 7 [(0, .ref (zr G 0)), (1, .int x1), (2, .int x2), (3, .int x3)] → f_X4_fitsAllSeen_2 N n mem x1 x2 x3 = some (r, mem') → W p l e ({ frames := 2, cells := 0, slots := 0, locals := 46 } : Room) s m args below meth c H locs 0 0 (MQ below (zQi G r mem') args s 0 0 (zAd G)) (F0 m 2 ls []) := by
  intro n
  induction n with
  | zero =>
    intro mem x1 x2 x3 H locs ls Z hl hf
    rw [f_X4_fitsAllSeen_2.eq_1] at hf
    cases hf
  | succ n ih =>
    intro mem x1 x2 x3 H locs ls Z hl hf
    rw [f_X4_fitsAllSeen_2.eq_2] at hf
    refine lv_iload_n C.1.1 C.1.2.1 dX4_fitsAllSeen_2 rfl (lv_at hl 3 rfl) ?_
    refine lv_aload_n C.1.1 C.1.2.1 dX4_fitsAllSeen_3 rfl (lv_at hl 0 rfl) ?_
    refine zg_X4_48 C Z dX4_fitsAllSeen_4 ?_
    refine zg_X4_204 C Z dX4_fitsAllSeen_7 ?_
    refine lv_icmp_ge (tgt := 105) C.1.1 C.1.2.1 dX4_fitsAllSeen_10 (by decide) (fun h384 => ?_) (fun h384 => ?_)
    · replace hf := (if_pos h384).symm.trans hf
      refine lv_iconst (v := (1 : Int32)) C.1.1 C.1.2.1 dX4_fitsAllSeen_105 (by decide) ?_
      cases hf
      exact z_zret C Z hr hlk (by decide) dX4_fitsAllSeen_106
    · replace hf := (if_neg h384).symm.trans hf
      refine lv_aload_n C.1.1 C.1.2.1 dX4_fitsAllSeen_13 rfl (lv_at hl 0 rfl) ?_
      refine zg_X4_48 C Z dX4_fitsAllSeen_14 ?_
      refine zg_X4_217 C Z dX4_fitsAllSeen_17 ?_
      refine lv_iload_n C.1.1 C.1.2.1 dX4_fitsAllSeen_20 rfl (lv_at hl 3 rfl) ?_
      obtain ⟨hi385, hf⟩ := zgd_some hf
      refine z_iald (k := 37) C Z (by decide) rfl hi385 dX4_fitsAllSeen_21 ?_
      refine lv_istore (lv' := [(4, .int (mem 37 x3.toNatClampNeg)), (0, .ref (zr G 0)), (1, .int x1), (2, .int x2), (3, .int x3)]) C.1.1 C.1.2.1 dX4_fitsAllSeen_22 hl (by decide) rfl (fun ls hl => ?_)
      refine lv_aload_n C.1.1 C.1.2.1 dX4_fitsAllSeen_24 rfl (lv_at hl 1 rfl) ?_
      refine zg_X4_48 C Z dX4_fitsAllSeen_25 ?_
      refine zg_X4_220 C Z dX4_fitsAllSeen_28 ?_
      refine lv_iload_n C.1.1 C.1.2.1 dX4_fitsAllSeen_31 rfl (lv_at hl 4 rfl) ?_
      obtain ⟨hi386, hf⟩ := zgd_some hf
      refine z_iald (k := 38) C Z (by decide) rfl hi386 dX4_fitsAllSeen_32 ?_
      refine lv_istore (lv' := [(5, .int (mem 38 x3.toNatClampNeg)), (4, .int (mem 37 x3.toNatClampNeg)), (0, .ref (zr G 0)), (1, .int x1), (2, .int x2), (3, .int x3)]) C.1.1 C.1.2.1 dX4_fitsAllSeen_33 hl (by decide) rfl (fun ls hl => ?_)
      refine lv_aload_n C.1.1 C.1.2.1 dX4_fitsAllSeen_35 rfl (lv_at hl 2 rfl) ?_
      refine zg_X4_19 C Z dX4_fitsAllSeen_36 ?_
      refine lv_iload C.1.1 C.1.2.1 dX4_fitsAllSeen_39 (lv_at hl 1 rfl) ?_
      refine lv_iconst (v := (1 : Int32)) C.1.1 C.1.2.1 dX4_fitsAllSeen_41 (by decide) ?_
      refine lv_iload_n C.1.1 C.1.2.1 dX4_fitsAllSeen_42 rfl (lv_at hl 3 rfl) ?_
      refine lv_ishl C.1.1 C.1.2.1 dX4_fitsAllSeen_43 ?_
      refine lv_iconst (v := (-1 : Int32)) C.1.1 C.1.2.1 dX4_fitsAllSeen_44 (by decide) ?_
      refine lv_ixor C.1.1 C.1.2.1 dX4_fitsAllSeen_45 ?_
      refine lv_iand C.1.1 C.1.2.1 dX4_fitsAllSeen_46 ?_
      refine lv_iload C.1.1 C.1.2.1 dX4_fitsAllSeen_47 (lv_at hl 0 rfl) ?_
      obtain ⟨r387, mem387, hc387, hf⟩ := zb_some hf
      refine z_callVi (k := 6) (As := [.int ((mem 37 x3.toNatClampNeg) &&& (((1 : Int32) <<< (x1 &&& 31)) ^^^ (-1 : Int32))), .int (mem 38 x3.toNatClampNeg)]) (rest := []) C Z (M_X1_ouncesOfSet l G C.2.1 N mem ((mem 37 x3.toNatClampNeg) &&& (((1 : Int32) <<< (x1 &&& 31)) ^^^ (-1 : Int32))) (mem 38 x3.toNatClampNeg) r387 mem387 hc387) (zcw_X4_223 C.1.2.2.2.2 ⟨Nat.le_of_ble_eq_true rfl, Nat.le_of_ble_eq_true rfl⟩) (by decide) rfl rfl rfl hl.1 rfl (Nat.le_of_ble_eq_true rfl) ⟨Nat.le_refl 0, Nat.le_refl 0⟩ dX4_fitsAllSeen_49 (fun H locs Z => ?_)
      refine lv_istore (lv' := [(6, .int r387), (5, .int (mem 38 x3.toNatClampNeg)), (4, .int (mem 37 x3.toNatClampNeg)), (0, .ref (zr G 0)), (1, .int x1), (2, .int x2), (3, .int x3)]) C.1.1 C.1.2.1 dX4_fitsAllSeen_52 hl (by decide) rfl (fun ls hl => ?_)
      refine lv_iload_n C.1.1 C.1.2.1 dX4_fitsAllSeen_54 rfl (lv_at hl 4 rfl) ?_
      refine lv_iload C.1.1 C.1.2.1 dX4_fitsAllSeen_55 (lv_at hl 2 rfl) ?_
      obtain ⟨r388, mem388, hc388, hf⟩ := zb_some hf
      refine z_callSi (As := [.int x1, .int (mem 37 x3.toNatClampNeg)]) (rest := []) C Z (M_X4_isIn l G C.2.1 N mem387 x1 (mem 37 x3.toNatClampNeg) r388 mem388 hc388) (zcw_X4_126 C.1.2.2.2.2 ⟨Nat.le_of_ble_eq_true rfl, Nat.le_of_ble_eq_true rfl⟩) rfl hl.1 rfl (Nat.le_of_ble_eq_true rfl) ⟨Nat.le_refl 0, Nat.le_refl 0⟩ dX4_fitsAllSeen_57 (fun H locs Z => ?_)
      refine lv_if_eq (tgt := 83) C.1.1 C.1.2.1 dX4_fitsAllSeen_60 (by decide) (fun h389 => ?_) (fun h389 => ?_)
      · replace hf := (if_pos h389).symm.trans hf
        refine lv_iload C.1.1 C.1.2.1 dX4_fitsAllSeen_83 (lv_at hl 0 rfl) ?_
        refine lv_aload_n C.1.1 C.1.2.1 dX4_fitsAllSeen_85 rfl (lv_at hl 3 rfl) ?_
        refine zg_X4_48 C Z dX4_fitsAllSeen_86 ?_
        refine zg_X4_226 C Z dX4_fitsAllSeen_89 ?_
        refine lv_iload_n C.1.1 C.1.2.1 dX4_fitsAllSeen_92 rfl (lv_at hl 6 rfl) ?_
        obtain ⟨hi390, hf⟩ := zgd_some hf
        refine z_iald (k := 39) C Z (by decide) rfl hi390 dX4_fitsAllSeen_93 ?_
        refine lv_icmp_eq (tgt := 99) C.1.1 C.1.2.1 dX4_fitsAllSeen_94 (by decide) (fun h391 => ?_) (fun h391 => ?_)
        · replace hf := (if_pos h391).symm.trans hf
          refine lv_iinc (v := (x3 + 1)) (lv' := [(3, .int (x3 + 1)), (6, .int r387), (5, .int (mem 38 x3.toNatClampNeg)), (4, .int (mem 37 x3.toNatClampNeg)), (0, .ref (zr G 0)), (1, .int x1), (2, .int x2)]) C.1.1 C.1.2.1 dX4_fitsAllSeen_99 hl (k := 6) rfl rfl (by decide) rfl (fun ls hl => ?_)
          refine lv_goto (tgt := 2) C.1.1 C.1.2.1 dX4_fitsAllSeen_102 (by decide) ?_
          exact ih mem388 x1 x2 (x3 + 1) _ _ _ Z (lv_sub hl [4, 5, 6, 0] rfl) hf
        · replace hf := (if_neg h391).symm.trans hf
          refine lv_iconst (v := (0 : Int32)) C.1.1 C.1.2.1 dX4_fitsAllSeen_97 (by decide) ?_
          cases hf
          exact z_zret C Z hr hlk (by decide) dX4_fitsAllSeen_98
      · replace hf := (if_neg h389).symm.trans hf
        refine lv_iload C.1.1 C.1.2.1 dX4_fitsAllSeen_63 (lv_at hl 0 rfl) ?_
        refine lv_aload_n C.1.1 C.1.2.1 dX4_fitsAllSeen_65 rfl (lv_at hl 3 rfl) ?_
        refine zg_X4_19 C Z dX4_fitsAllSeen_66 ?_
        refine zg_X4_107 C Z dX4_fitsAllSeen_69 ?_
        refine lv_iload_n C.1.1 C.1.2.1 dX4_fitsAllSeen_72 rfl (lv_at hl 4 rfl) ?_
        obtain ⟨hi392, hf⟩ := zgd_some hf
        refine z_iald (k := 7) C Z (by decide) rfl hi392 dX4_fitsAllSeen_73 ?_
        refine lv_iload_n C.1.1 C.1.2.1 dX4_fitsAllSeen_74 rfl (lv_at hl 5 rfl) ?_
        refine lv_iload C.1.1 C.1.2.1 dX4_fitsAllSeen_75 (lv_at hl 1 rfl) ?_
        obtain ⟨r393, mem393, hc393, hf⟩ := zb_some hf
        refine z_callSi (As := [.int (mem388 7 x1.toNatClampNeg), .int x2, .int (mem 38 x3.toNatClampNeg)]) (rest := [.int r387]) C Z (M_X4_ouncesOf l G C.2.1 N mem388 (mem388 7 x1.toNatClampNeg) x2 (mem 38 x3.toNatClampNeg) r393 mem393 hc393) (zcw_X4_119 C.1.2.2.2.2 ⟨Nat.le_of_ble_eq_true rfl, Nat.le_of_ble_eq_true rfl⟩) rfl hl.1 rfl (Nat.le_of_ble_eq_true rfl) ⟨Nat.le_refl 0, Nat.le_refl 0⟩ dX4_fitsAllSeen_77 (fun H locs Z => ?_)
        refine lv_iadd C.1.1 C.1.2.1 dX4_fitsAllSeen_80 ?_
        refine lv_istore (lv' := [(6, .int (r387 + r393)), (5, .int (mem 38 x3.toNatClampNeg)), (4, .int (mem 37 x3.toNatClampNeg)), (0, .ref (zr G 0)), (1, .int x1), (2, .int x2), (3, .int x3)]) C.1.1 C.1.2.1 dX4_fitsAllSeen_81 hl (by decide) rfl (fun ls hl => ?_)
        refine lv_iload C.1.1 C.1.2.1 dX4_fitsAllSeen_83 (lv_at hl 0 rfl) ?_
        refine lv_aload_n C.1.1 C.1.2.1 dX4_fitsAllSeen_85 rfl (lv_at hl 3 rfl) ?_
        refine zg_X4_48 C Z dX4_fitsAllSeen_86 ?_
        refine zg_X4_226 C Z dX4_fitsAllSeen_89 ?_
        refine lv_iload_n C.1.1 C.1.2.1 dX4_fitsAllSeen_92 rfl (lv_at hl 6 rfl) ?_
        obtain ⟨hi394, hf⟩ := zgd_some hf
        refine z_iald (k := 39) C Z (by decide) rfl hi394 dX4_fitsAllSeen_93 ?_
        refine lv_icmp_eq (tgt := 99) C.1.1 C.1.2.1 dX4_fitsAllSeen_94 (by decide) (fun h395 => ?_) (fun h395 => ?_)
        · replace hf := (if_pos h395).symm.trans hf
          refine lv_iinc (v := (x3 + 1)) (lv' := [(3, .int (x3 + 1)), (6, .int (r387 + r393)), (5, .int (mem 38 x3.toNatClampNeg)), (4, .int (mem 37 x3.toNatClampNeg)), (0, .ref (zr G 0)), (1, .int x1), (2, .int x2)]) C.1.1 C.1.2.1 dX4_fitsAllSeen_99 hl (k := 6) rfl rfl (by decide) rfl (fun ls hl => ?_)
          refine lv_goto (tgt := 2) C.1.1 C.1.2.1 dX4_fitsAllSeen_102 (by decide) ?_
          exact ih mem393 x1 x2 (x3 + 1) _ _ _ Z (lv_sub hl [4, 5, 6, 0] rfl) hf
        · replace hf := (if_neg h395).symm.trans hf
          refine lv_iconst (v := (0 : Int32)) C.1.1 C.1.2.1 dX4_fitsAllSeen_97 (by decide) ?_
          cases hf
          exact z_zret C Z hr hlk (by decide) dX4_fitsAllSeen_98
set_option maxHeartbeats 4000000 in
set_option maxRecDepth 100000 in
theorem M_X4_fitsAllSeen (l : Launch) (G : zG) (hG : zOK G) (N : Nat) (mem : zMem) (a1 : Int32) (a2 : Int32) (r : Int32) (mem' : zMem) (hf : f_X4_fitsAllSeen N mem a1 a2 = some (r, mem')) : zM l G yX4_fitsAllSeen cX4_fitsAllSeen 7 (some .boolean) 2 46 [.ref (zr G 0), .int a1, .int a2] mem (zQi G r mem') := by
  refine zStart hG (by decide +kernel) (Nat.le_of_ble_eq_true rfl) (fun p e s m below meth c C hr hlk ls hl Z => ?_)
  have hl : lv_has ls 7 [(0, .ref (zr G 0)), (1, .int a1), (2, .int a2)] := hl
  have C : zC (zAd G) G p s m _ c cX4_fitsAllSeen 7 RX4 := C
  unfold f_X4_fitsAllSeen at hf
  refine lv_iconst (v := (0 : Int32)) C.1.1 C.1.2.1 dX4_fitsAllSeen_0 (by decide) ?_
  refine lv_istore_n (lv' := [(3, .int (0 : Int32)), (0, .ref (zr G 0)), (1, .int a1), (2, .int a2)]) C.1.1 C.1.2.1 dX4_fitsAllSeen_1 rfl hl (by decide) rfl (fun ls hl => ?_)
  exact K_X4_fitsAllSeen_2 (l := l) (e := e) (below := below) C hr hlk N N mem a1 a2 (0 : Int32) _ _ _ Z (lv_sub hl [1, 2, 3, 0] rfl) hf
set_option maxHeartbeats 4000000 in
set_option maxRecDepth 100000 in
theorem K_X4_weights_15 {p : Program} {l : Launch} {e : Env} {s : State} {m : MethodId} {args : Array Value} {below : List Frame} {meth : Method} {c : Code} {G : zG} (C : zC (zAd G) G p s m args c cX4_weights 4 RX4) (hr : meth.sig.returnType = (some .int)) (hlk : meth.locks = false) {r : Int32} {mem' : zMem} (N : Nat) : ∀ (n : Nat) (mem : zMem) (x1 : Int32) (x2 : Int32) (x3 : Int32) (H : Heap) (locs : List Loc) (ls : Array Slot), zH (zAd G) G s mem H locs → lv_has ls 4 [(0, .ref (zr G 0)), (1, .int x1), (2, .int x2), (3, .int x3)] → f_X4_weights_15 N n mem x1 x2 x3 = some (r, mem') → W p l e ({ frames := 3, cells := 0, slots := 0, locals := 72 } : Room) s m args below meth c H locs 0 0 (MQ below (zQi G r mem') args s 0 0 (zAd G)) (F0 m 15 ls []) := by
  intro n
  induction n with
  | zero =>
    intro mem x1 x2 x3 H locs ls Z hl hf
    rw [f_X4_weights_15.eq_1] at hf
    cases hf
  | succ n ih =>
    intro mem x1 x2 x3 H locs ls Z hl hf
    rw [f_X4_weights_15.eq_2] at hf
    refine lv_iload_n C.1.1 C.1.2.1 dX4_weights_15 rfl (lv_at hl 3 rfl) ?_
    refine lv_bipush (v := (20 : Int32)) C.1.1 C.1.2.1 dX4_weights_16 (by decide) ?_
    refine lv_icmp_gt (tgt := 42) C.1.1 C.1.2.1 dX4_weights_18 (by decide) (fun h396 => ?_) (fun h396 => ?_)
    · replace hf := (if_pos h396).symm.trans hf
      refine lv_iload_n C.1.1 C.1.2.1 dX4_weights_42 rfl (lv_at hl 2 rfl) ?_
      cases hf
      exact z_iret C Z hr hlk dX4_weights_43
    · replace hf := (if_neg h396).symm.trans hf
      refine lv_aload_n C.1.1 C.1.2.1 dX4_weights_21 rfl (lv_at hl 0 rfl) ?_
      refine lv_iload_n C.1.1 C.1.2.1 dX4_weights_22 rfl (lv_at hl 1 rfl) ?_
      refine lv_iload_n C.1.1 C.1.2.1 dX4_weights_23 rfl (lv_at hl 3 rfl) ?_
      obtain ⟨r397, mem397, hc397, hf⟩ := zb_some hf
      refine z_callVi (k := 0) (As := [.int x1, .int x3]) (rest := []) C Z (M_X4_fitsAllSeen l G C.2.1 N mem x1 x3 r397 mem397 hc397) (zcw_X4_214 C.1.2.2.2.2 ⟨Nat.le_of_ble_eq_true rfl, Nat.le_of_ble_eq_true rfl⟩) (by decide) rfl rfl rfl hl.1 rfl (Nat.le_of_ble_eq_true rfl) ⟨Nat.le_refl 0, Nat.le_refl 0⟩ dX4_weights_24 (fun H locs Z => ?_)
      refine lv_if_eq (tgt := 36) C.1.1 C.1.2.1 dX4_weights_27 (by decide) (fun h398 => ?_) (fun h398 => ?_)
      · replace hf := (if_pos h398).symm.trans hf
        refine lv_iinc (v := (x3 + 1)) (lv' := [(3, .int (x3 + 1)), (0, .ref (zr G 0)), (1, .int x1), (2, .int x2)]) C.1.1 C.1.2.1 dX4_weights_36 hl (k := 3) rfl rfl (by decide) rfl (fun ls hl => ?_)
        refine lv_goto (tgt := 15) C.1.1 C.1.2.1 dX4_weights_39 (by decide) ?_
        exact ih mem397 x1 x2 (x3 + 1) _ _ _ Z (lv_sub hl [1, 2, 3, 0] rfl) hf
      · replace hf := (if_neg h398).symm.trans hf
        refine lv_iload_n C.1.1 C.1.2.1 dX4_weights_30 rfl (lv_at hl 2 rfl) ?_
        refine lv_iconst (v := (1 : Int32)) C.1.1 C.1.2.1 dX4_weights_31 (by decide) ?_
        refine lv_iload_n C.1.1 C.1.2.1 dX4_weights_32 rfl (lv_at hl 3 rfl) ?_
        refine lv_ishl C.1.1 C.1.2.1 dX4_weights_33 ?_
        refine lv_ior C.1.1 C.1.2.1 dX4_weights_34 ?_
        refine lv_istore_n (lv' := [(2, .int (x2 ||| ((1 : Int32) <<< (x3 &&& 31)))), (0, .ref (zr G 0)), (1, .int x1), (3, .int x3)]) C.1.1 C.1.2.1 dX4_weights_35 rfl hl (by decide) rfl (fun ls hl => ?_)
        refine lv_iinc (v := (x3 + 1)) (lv' := [(3, .int (x3 + 1)), (2, .int (x2 ||| ((1 : Int32) <<< (x3 &&& 31)))), (0, .ref (zr G 0)), (1, .int x1)]) C.1.1 C.1.2.1 dX4_weights_36 hl (k := 3) rfl rfl (by decide) rfl (fun ls hl => ?_)
        refine lv_goto (tgt := 15) C.1.1 C.1.2.1 dX4_weights_39 (by decide) ?_
        exact ih mem397 x1 (x2 ||| ((1 : Int32) <<< (x3 &&& 31))) (x3 + 1) _ _ _ Z (lv_sub hl [2, 3, 1, 0] rfl) hf
set_option maxHeartbeats 4000000 in
set_option maxRecDepth 100000 in
theorem M_X4_weights (l : Launch) (G : zG) (hG : zOK G) (N : Nat) (mem : zMem) (a1 : Int32) (r : Int32) (mem' : zMem) (hf : f_X4_weights N mem a1 = some (r, mem')) : zM l G yX4_weights cX4_weights 4 (some .int) 3 72 [.ref (zr G 0), .int a1] mem (zQi G r mem') := by
  refine zStart hG (by decide +kernel) (Nat.le_of_ble_eq_true rfl) (fun p e s m below meth c C hr hlk ls hl Z => ?_)
  have hl : lv_has ls 4 [(0, .ref (zr G 0)), (1, .int a1)] := hl
  have C : zC (zAd G) G p s m _ c cX4_weights 4 RX4 := C
  unfold f_X4_weights at hf
  refine lv_aload_n C.1.1 C.1.2.1 dX4_weights_0 rfl (lv_at hl 0 rfl) ?_
  refine lv_iload_n C.1.1 C.1.2.1 dX4_weights_1 rfl (lv_at hl 1 rfl) ?_
  obtain ⟨r399, mem399, hc399, hf⟩ := zb_some hf
  refine z_callVi (k := 0) (As := [.int a1]) (rest := []) C Z (M_X4_isPart l G C.2.1 N mem a1 r399 mem399 hc399) (zcw_X4_104 C.1.2.2.2.2 ⟨Nat.le_of_ble_eq_true rfl, Nat.le_of_ble_eq_true rfl⟩) (by decide) rfl rfl rfl hl.1 rfl (Nat.le_of_ble_eq_true rfl) ⟨Nat.le_refl 0, Nat.le_refl 0⟩ dX4_weights_2 (fun H locs Z => ?_)
  refine lv_if_ne (tgt := 11) C.1.1 C.1.2.1 dX4_weights_5 (by decide) (fun h400 => ?_) (fun h400 => ?_)
  · replace hf := (if_neg h400).symm.trans hf
    refine lv_iconst (v := (0 : Int32)) C.1.1 C.1.2.1 dX4_weights_11 (by decide) ?_
    refine lv_istore_n (lv' := [(2, .int (0 : Int32)), (0, .ref (zr G 0)), (1, .int a1)]) C.1.1 C.1.2.1 dX4_weights_12 rfl hl (by decide) rfl (fun ls hl => ?_)
    refine lv_iconst (v := (0 : Int32)) C.1.1 C.1.2.1 dX4_weights_13 (by decide) ?_
    refine lv_istore_n (lv' := [(3, .int (0 : Int32)), (2, .int (0 : Int32)), (0, .ref (zr G 0)), (1, .int a1)]) C.1.1 C.1.2.1 dX4_weights_14 rfl hl (by decide) rfl (fun ls hl => ?_)
    exact K_X4_weights_15 (l := l) (e := e) (below := below) C hr hlk N N mem399 a1 (0 : Int32) (0 : Int32) _ _ _ Z (lv_sub hl [2, 3, 1, 0] rfl) hf
  · replace hf := (if_pos h400).symm.trans hf
    refine lv_bipush (v := (-2 : Int32)) C.1.1 C.1.2.1 dX4_weights_8 (by decide) ?_
    cases hf
    exact z_iret C Z hr hlk dX4_weights_10
set_option maxHeartbeats 4000000 in
set_option maxRecDepth 100000 in
theorem K_X4_fitsAllHeard_2 {p : Program} {l : Launch} {e : Env} {s : State} {m : MethodId} {args : Array Value} {below : List Frame} {meth : Method} {c : Code} {G : zG} (C : zC (zAd G) G p s m args c cX4_fitsAllHeard 4 RX4) (hr : meth.sig.returnType = (some .boolean)) (hlk : meth.locks = false) {r : Int32} {mem' : zMem} (N : Nat) : ∀ (n : Nat) (mem : zMem) (x1 : Int32) (x2 : Int32) (H : Heap) (locs : List Loc) (ls : Array Slot), zH (zAd G) G s mem H locs → lv_has ls 4 [(0, .ref (zr G 0)), (1, .int x1), (2, .int x2)] → f_X4_fitsAllHeard_2 N n mem x1 x2 = some (r, mem') → W p l e ({ frames := 2, cells := 0, slots := 0, locals := 46 } : Room) s m args below meth c H locs 0 0 (MQ below (zQi G r mem') args s 0 0 (zAd G)) (F0 m 2 ls []) := by
  intro n
  induction n with
  | zero =>
    intro mem x1 x2 H locs ls Z hl hf
    rw [f_X4_fitsAllHeard_2.eq_1] at hf
    cases hf
  | succ n ih =>
    intro mem x1 x2 H locs ls Z hl hf
    rw [f_X4_fitsAllHeard_2.eq_2] at hf
    refine lv_iload_n C.1.1 C.1.2.1 dX4_fitsAllHeard_2 rfl (lv_at hl 2 rfl) ?_
    refine lv_aload_n C.1.1 C.1.2.1 dX4_fitsAllHeard_3 rfl (lv_at hl 0 rfl) ?_
    refine zg_X4_48 C Z dX4_fitsAllHeard_4 ?_
    refine zg_X4_211 C Z dX4_fitsAllHeard_7 ?_
    refine lv_icmp_ge (tgt := 75) C.1.1 C.1.2.1 dX4_fitsAllHeard_10 (by decide) (fun h401 => ?_) (fun h401 => ?_)
    · replace hf := (if_pos h401).symm.trans hf
      refine lv_iconst (v := (1 : Int32)) C.1.1 C.1.2.1 dX4_fitsAllHeard_75 (by decide) ?_
      cases hf
      exact z_zret C Z hr hlk (by decide) dX4_fitsAllHeard_76
    · replace hf := (if_neg h401).symm.trans hf
      refine lv_aload_n C.1.1 C.1.2.1 dX4_fitsAllHeard_13 rfl (lv_at hl 0 rfl) ?_
      refine zg_X4_19 C Z dX4_fitsAllHeard_14 ?_
      refine lv_aload_n C.1.1 C.1.2.1 dX4_fitsAllHeard_17 rfl (lv_at hl 0 rfl) ?_
      refine zg_X4_48 C Z dX4_fitsAllHeard_18 ?_
      refine zg_X4_232 C Z dX4_fitsAllHeard_21 ?_
      refine lv_iload_n C.1.1 C.1.2.1 dX4_fitsAllHeard_24 rfl (lv_at hl 2 rfl) ?_
      obtain ⟨hi402, hf⟩ := zgd_some hf
      refine z_iald (k := 40) C Z (by decide) rfl hi402 dX4_fitsAllHeard_25 ?_
      refine lv_aload_n C.1.1 C.1.2.1 dX4_fitsAllHeard_26 rfl (lv_at hl 0 rfl) ?_
      refine zg_X4_48 C Z dX4_fitsAllHeard_27 ?_
      refine zg_X4_235 C Z dX4_fitsAllHeard_30 ?_
      refine lv_iload_n C.1.1 C.1.2.1 dX4_fitsAllHeard_33 rfl (lv_at hl 2 rfl) ?_
      obtain ⟨hi403, hf⟩ := zgd_some hf
      refine z_iald (k := 42) C Z (by decide) rfl hi403 dX4_fitsAllHeard_34 ?_
      obtain ⟨r404, mem404, hc404, hf⟩ := zb_some hf
      refine z_callVi (k := 6) (As := [.int (mem 40 x2.toNatClampNeg), .int (mem 42 x2.toNatClampNeg)]) (rest := []) C Z (M_X1_ouncesOfSet l G C.2.1 N mem (mem 40 x2.toNatClampNeg) (mem 42 x2.toNatClampNeg) r404 mem404 hc404) (zcw_X4_223 C.1.2.2.2.2 ⟨Nat.le_of_ble_eq_true rfl, Nat.le_of_ble_eq_true rfl⟩) (by decide) rfl rfl rfl hl.1 rfl (Nat.le_of_ble_eq_true rfl) ⟨Nat.le_refl 0, Nat.le_refl 0⟩ dX4_fitsAllHeard_35 (fun H locs Z => ?_)
      refine lv_iload_n C.1.1 C.1.2.1 dX4_fitsAllHeard_38 rfl (lv_at hl 1 rfl) ?_
      refine lv_iadd C.1.1 C.1.2.1 dX4_fitsAllHeard_39 ?_
      refine lv_istore_n (lv' := [(3, .int (r404 + x1)), (0, .ref (zr G 0)), (1, .int x1), (2, .int x2)]) C.1.1 C.1.2.1 dX4_fitsAllHeard_40 rfl hl (by decide) rfl (fun ls hl => ?_)
      refine lv_aload_n C.1.1 C.1.2.1 dX4_fitsAllHeard_41 rfl (lv_at hl 1 rfl) ?_
      refine lv_iload_n C.1.1 C.1.2.1 dX4_fitsAllHeard_42 rfl (lv_at hl 0 rfl) ?_
      refine lv_aload_n C.1.1 C.1.2.1 dX4_fitsAllHeard_43 rfl (lv_at hl 1 rfl) ?_
      refine zg_X4_48 C Z dX4_fitsAllHeard_44 ?_
      refine zg_X4_238 C Z dX4_fitsAllHeard_47 ?_
      refine lv_iload_n C.1.1 C.1.2.1 dX4_fitsAllHeard_50 rfl (lv_at hl 3 rfl) ?_
      obtain ⟨hi405, hf⟩ := zgd_some hf
      refine z_iald (k := 41) C Z (by decide) rfl hi405 dX4_fitsAllHeard_51 ?_
      obtain ⟨r406, mem406, hc406, hf⟩ := zb_some hf
      refine z_callVi (k := 0) (As := [.int (r404 + x1), .int (mem404 41 x2.toNatClampNeg)]) (rest := []) C Z (M_X4_hangsLevel l G C.2.1 N mem404 (r404 + x1) (mem404 41 x2.toNatClampNeg) r406 mem406 hc406) (zcw_X4_178 C.1.2.2.2.2 ⟨Nat.le_of_ble_eq_true rfl, Nat.le_of_ble_eq_true rfl⟩) (by decide) rfl rfl rfl hl.1 rfl (Nat.le_of_ble_eq_true rfl) ⟨Nat.le_refl 0, Nat.le_refl 0⟩ dX4_fitsAllHeard_52 (fun H locs Z => ?_)
      refine lv_aload_n C.1.1 C.1.2.1 dX4_fitsAllHeard_55 rfl (lv_at hl 1 rfl) ?_
      refine zg_X4_48 C Z dX4_fitsAllHeard_56 ?_
      refine zg_X4_241 C Z dX4_fitsAllHeard_59 ?_
      refine lv_iload_n C.1.1 C.1.2.1 dX4_fitsAllHeard_62 rfl (lv_at hl 3 rfl) ?_
      obtain ⟨hi407, hf⟩ := zgd_some hf
      refine z_bald (k := 43) C Z (by decide) rfl hi407 dX4_fitsAllHeard_63 ?_
      refine lv_icmp_eq (tgt := 69) C.1.1 C.1.2.1 dX4_fitsAllHeard_64 (by decide) (fun h408 => ?_) (fun h408 => ?_)
      · replace hf := (if_pos h408).symm.trans hf
        refine lv_iinc (v := (x2 + 1)) (lv' := [(2, .int (x2 + 1)), (3, .int (r404 + x1)), (0, .ref (zr G 0)), (1, .int x1)]) C.1.1 C.1.2.1 dX4_fitsAllHeard_69 hl (k := 3) rfl rfl (by decide) rfl (fun ls hl => ?_)
        refine lv_goto (tgt := 2) C.1.1 C.1.2.1 dX4_fitsAllHeard_72 (by decide) ?_
        exact ih mem406 x1 (x2 + 1) _ _ _ Z (lv_sub hl [2, 3, 0] rfl) hf
      · replace hf := (if_neg h408).symm.trans hf
        refine lv_iconst (v := (0 : Int32)) C.1.1 C.1.2.1 dX4_fitsAllHeard_67 (by decide) ?_
        cases hf
        exact z_zret C Z hr hlk (by decide) dX4_fitsAllHeard_68
set_option maxHeartbeats 4000000 in
set_option maxRecDepth 100000 in
theorem M_X4_fitsAllHeard (l : Launch) (G : zG) (hG : zOK G) (N : Nat) (mem : zMem) (a1 : Int32) (r : Int32) (mem' : zMem) (hf : f_X4_fitsAllHeard N mem a1 = some (r, mem')) : zM l G yX4_fitsAllHeard cX4_fitsAllHeard 4 (some .boolean) 2 46 [.ref (zr G 0), .int a1] mem (zQi G r mem') := by
  refine zStart hG (by decide +kernel) (Nat.le_of_ble_eq_true rfl) (fun p e s m below meth c C hr hlk ls hl Z => ?_)
  have hl : lv_has ls 4 [(0, .ref (zr G 0)), (1, .int a1)] := hl
  have C : zC (zAd G) G p s m _ c cX4_fitsAllHeard 4 RX4 := C
  unfold f_X4_fitsAllHeard at hf
  refine lv_iconst (v := (0 : Int32)) C.1.1 C.1.2.1 dX4_fitsAllHeard_0 (by decide) ?_
  refine lv_istore_n (lv' := [(2, .int (0 : Int32)), (0, .ref (zr G 0)), (1, .int a1)]) C.1.1 C.1.2.1 dX4_fitsAllHeard_1 rfl hl (by decide) rfl (fun ls hl => ?_)
  exact K_X4_fitsAllHeard_2 (l := l) (e := e) (below := below) C hr hlk N N mem a1 (0 : Int32) _ _ _ Z (lv_sub hl [1, 2, 0] rfl) hf
set_option maxHeartbeats 4000000 in
set_option maxRecDepth 100000 in
theorem K_X4_thumbs_4 {p : Program} {l : Launch} {e : Env} {s : State} {m : MethodId} {args : Array Value} {below : List Frame} {meth : Method} {c : Code} {G : zG} (C : zC (zAd G) G p s m args c cX4_thumbs 3 RX4) (hr : meth.sig.returnType = (some .int)) (hlk : meth.locks = false) {r : Int32} {mem' : zMem} (N : Nat) : ∀ (n : Nat) (mem : zMem) (x1 : Int32) (x2 : Int32) (H : Heap) (locs : List Loc) (ls : Array Slot), zH (zAd G) G s mem H locs → lv_has ls 3 [(0, .ref (zr G 0)), (1, .int x1), (2, .int x2)] → f_X4_thumbs_4 N n mem x1 x2 = some (r, mem') → W p l e ({ frames := 3, cells := 0, slots := 0, locals := 69 } : Room) s m args below meth c H locs 0 0 (MQ below (zQi G r mem') args s 0 0 (zAd G)) (F0 m 4 ls []) := by
  intro n
  induction n with
  | zero =>
    intro mem x1 x2 H locs ls Z hl hf
    rw [f_X4_thumbs_4.eq_1] at hf
    cases hf
  | succ n ih =>
    intro mem x1 x2 H locs ls Z hl hf
    rw [f_X4_thumbs_4.eq_2] at hf
    refine lv_iload_n C.1.1 C.1.2.1 dX4_thumbs_4 rfl (lv_at hl 2 rfl) ?_
    refine lv_bipush (v := (9 : Int32)) C.1.1 C.1.2.1 dX4_thumbs_5 (by decide) ?_
    refine lv_icmp_gt (tgt := 30) C.1.1 C.1.2.1 dX4_thumbs_7 (by decide) (fun h409 => ?_) (fun h409 => ?_)
    · replace hf := (if_pos h409).symm.trans hf
      refine lv_iload_n C.1.1 C.1.2.1 dX4_thumbs_30 rfl (lv_at hl 1 rfl) ?_
      cases hf
      exact z_iret C Z hr hlk dX4_thumbs_31
    · replace hf := (if_neg h409).symm.trans hf
      refine lv_aload_n C.1.1 C.1.2.1 dX4_thumbs_10 rfl (lv_at hl 0 rfl) ?_
      refine lv_iload_n C.1.1 C.1.2.1 dX4_thumbs_11 rfl (lv_at hl 2 rfl) ?_
      obtain ⟨r410, mem410, hc410, hf⟩ := zb_some hf
      refine z_callVi (k := 0) (As := [.int x2]) (rest := []) C Z (M_X4_fitsAllHeard l G C.2.1 N mem x2 r410 mem410 hc410) (zcw_X4_229 C.1.2.2.2.2 ⟨Nat.le_of_ble_eq_true rfl, Nat.le_of_ble_eq_true rfl⟩) (by decide) rfl rfl rfl hl.1 rfl (Nat.le_of_ble_eq_true rfl) ⟨Nat.le_refl 0, Nat.le_refl 0⟩ dX4_thumbs_12 (fun H locs Z => ?_)
      refine lv_if_eq (tgt := 24) C.1.1 C.1.2.1 dX4_thumbs_15 (by decide) (fun h411 => ?_) (fun h411 => ?_)
      · replace hf := (if_pos h411).symm.trans hf
        refine lv_iinc (v := (x2 + 1)) (lv' := [(2, .int (x2 + 1)), (0, .ref (zr G 0)), (1, .int x1)]) C.1.1 C.1.2.1 dX4_thumbs_24 hl (k := 2) rfl rfl (by decide) rfl (fun ls hl => ?_)
        refine lv_goto (tgt := 4) C.1.1 C.1.2.1 dX4_thumbs_27 (by decide) ?_
        exact ih mem410 x1 (x2 + 1) _ _ _ Z (lv_sub hl [1, 2, 0] rfl) hf
      · replace hf := (if_neg h411).symm.trans hf
        refine lv_iload_n C.1.1 C.1.2.1 dX4_thumbs_18 rfl (lv_at hl 1 rfl) ?_
        refine lv_iconst (v := (1 : Int32)) C.1.1 C.1.2.1 dX4_thumbs_19 (by decide) ?_
        refine lv_iload_n C.1.1 C.1.2.1 dX4_thumbs_20 rfl (lv_at hl 2 rfl) ?_
        refine lv_ishl C.1.1 C.1.2.1 dX4_thumbs_21 ?_
        refine lv_ior C.1.1 C.1.2.1 dX4_thumbs_22 ?_
        refine lv_istore_n (lv' := [(1, .int (x1 ||| ((1 : Int32) <<< (x2 &&& 31)))), (0, .ref (zr G 0)), (2, .int x2)]) C.1.1 C.1.2.1 dX4_thumbs_23 rfl hl (by decide) rfl (fun ls hl => ?_)
        refine lv_iinc (v := (x2 + 1)) (lv' := [(2, .int (x2 + 1)), (1, .int (x1 ||| ((1 : Int32) <<< (x2 &&& 31)))), (0, .ref (zr G 0))]) C.1.1 C.1.2.1 dX4_thumbs_24 hl (k := 2) rfl rfl (by decide) rfl (fun ls hl => ?_)
        refine lv_goto (tgt := 4) C.1.1 C.1.2.1 dX4_thumbs_27 (by decide) ?_
        exact ih mem410 (x1 ||| ((1 : Int32) <<< (x2 &&& 31))) (x2 + 1) _ _ _ Z (lv_sub hl [2, 1, 0] rfl) hf
set_option maxHeartbeats 4000000 in
set_option maxRecDepth 100000 in
theorem M_X4_thumbs (l : Launch) (G : zG) (hG : zOK G) (N : Nat) (mem : zMem) (r : Int32) (mem' : zMem) (hf : f_X4_thumbs N mem = some (r, mem')) : zM l G yX4_thumbs cX4_thumbs 3 (some .int) 3 69 [.ref (zr G 0)] mem (zQi G r mem') := by
  refine zStart hG (by decide +kernel) (Nat.le_of_ble_eq_true rfl) (fun p e s m below meth c C hr hlk ls hl Z => ?_)
  have hl : lv_has ls 3 [(0, .ref (zr G 0))] := hl
  have C : zC (zAd G) G p s m _ c cX4_thumbs 3 RX4 := C
  unfold f_X4_thumbs at hf
  refine lv_iconst (v := (0 : Int32)) C.1.1 C.1.2.1 dX4_thumbs_0 (by decide) ?_
  refine lv_istore_n (lv' := [(1, .int (0 : Int32)), (0, .ref (zr G 0))]) C.1.1 C.1.2.1 dX4_thumbs_1 rfl hl (by decide) rfl (fun ls hl => ?_)
  refine lv_iconst (v := (0 : Int32)) C.1.1 C.1.2.1 dX4_thumbs_2 (by decide) ?_
  refine lv_istore_n (lv' := [(2, .int (0 : Int32)), (1, .int (0 : Int32)), (0, .ref (zr G 0))]) C.1.1 C.1.2.1 dX4_thumbs_3 rfl hl (by decide) rfl (fun ls hl => ?_)
  exact K_X4_thumbs_4 (l := l) (e := e) (below := below) C hr hlk N N mem (0 : Int32) (0 : Int32) _ _ _ Z (lv_sub hl [2, 1, 0] rfl) hf
set_option maxHeartbeats 4000000 in
set_option maxRecDepth 100000 in
theorem K_X4_waysOfConfessing_5 {p : Program} {l : Launch} {e : Env} {s : State} {m : MethodId} {args : Array Value} {below : List Frame} {meth : Method} {c : Code} {G : zG} (C : zC (zAd G) G p s m args c cX4_waysOfConfessing 5 RX4) (hr : meth.sig.returnType = (some .int)) (hlk : meth.locks = false) {r : Int32} {mem' : zMem} (N : Nat) : ∀ (n : Nat) (mem : zMem) (x1 : Int32) (x2 : Int32) (x3 : Int32) (x4 : Int32) (H : Heap) (locs : List Loc) (ls : Array Slot), zH (zAd G) G s mem H locs → lv_has ls 5 [(0, .ref (zr G 0)), (1, .int x1), (2, .int x2), (3, .int x3), (4, .int x4)] → f_X4_waysOfConfessing_5 N n mem x1 x2 x3 x4 = some (r, mem') → W p l e ({ frames := 1, cells := 0, slots := 0, locals := 21 } : Room) s m args below meth c H locs 0 0 (MQ below (zQi G r mem') args s 0 0 (zAd G)) (F0 m 5 ls []) := by
  intro n
  induction n with
  | zero =>
    intro mem x1 x2 x3 x4 H locs ls Z hl hf
    rw [f_X4_waysOfConfessing_5.eq_1] at hf
    cases hf
  | succ n ih =>
    intro mem x1 x2 x3 x4 H locs ls Z hl hf
    rw [f_X4_waysOfConfessing_5.eq_2] at hf
    refine lv_iload C.1.1 C.1.2.1 dX4_waysOfConfessing_5 (lv_at hl 4 rfl) ?_
    refine lv_aload_n C.1.1 C.1.2.1 dX4_waysOfConfessing_7 rfl (lv_at hl 0 rfl) ?_
    refine zg_X4_19 C Z dX4_waysOfConfessing_8 ?_
    refine zg_X4_67 C Z dX4_waysOfConfessing_11 ?_
    refine lv_icmp_ge (tgt := 43) C.1.1 C.1.2.1 dX4_waysOfConfessing_14 (by decide) (fun h412 => ?_) (fun h412 => ?_)
    · replace hf := (if_pos h412).symm.trans hf
      refine lv_iload_n C.1.1 C.1.2.1 dX4_waysOfConfessing_43 rfl (lv_at hl 3 rfl) ?_
      cases hf
      exact z_iret C Z hr hlk dX4_waysOfConfessing_44
    · replace hf := (if_neg h412).symm.trans hf
      refine lv_iload_n C.1.1 C.1.2.1 dX4_waysOfConfessing_17 rfl (lv_at hl 3 rfl) ?_
      refine lv_iload C.1.1 C.1.2.1 dX4_waysOfConfessing_18 (lv_at hl 4 rfl) ?_
      refine lv_iload_n C.1.1 C.1.2.1 dX4_waysOfConfessing_20 rfl (lv_at hl 1 rfl) ?_
      obtain ⟨r413, mem413, hc413, hf⟩ := zb_some hf
      refine z_callSi (As := [.int x4, .int x1]) (rest := [.int x3]) C Z (M_X4_isIn l G C.2.1 N mem x4 x1 r413 mem413 hc413) (zcw_X4_126 C.1.2.2.2.2 ⟨Nat.le_of_ble_eq_true rfl, Nat.le_of_ble_eq_true rfl⟩) rfl hl.1 rfl (Nat.le_of_ble_eq_true rfl) ⟨Nat.le_refl 0, Nat.le_refl 0⟩ dX4_waysOfConfessing_21 (fun H locs Z => ?_)
      refine lv_if_eq (tgt := 31) C.1.1 C.1.2.1 dX4_waysOfConfessing_24 (by decide) (fun h414 => ?_) (fun h414 => ?_)
      · replace hf := (if_pos h414).symm.trans hf
        refine lv_bipush (v := (10 : Int32)) C.1.1 C.1.2.1 dX4_waysOfConfessing_31 (by decide) ?_
        refine lv_iload_n C.1.1 C.1.2.1 dX4_waysOfConfessing_33 rfl (lv_at hl 2 rfl) ?_
        refine lv_isub C.1.1 C.1.2.1 dX4_waysOfConfessing_34 ?_
        refine lv_imul C.1.1 C.1.2.1 dX4_waysOfConfessing_35 ?_
        refine lv_istore_n (lv' := [(3, .int (x3 * ((10 : Int32) - x2))), (0, .ref (zr G 0)), (1, .int x1), (2, .int x2), (4, .int x4)]) C.1.1 C.1.2.1 dX4_waysOfConfessing_36 rfl hl (by decide) rfl (fun ls hl => ?_)
        refine lv_iinc (v := (x4 + 1)) (lv' := [(4, .int (x4 + 1)), (3, .int (x3 * ((10 : Int32) - x2))), (0, .ref (zr G 0)), (1, .int x1), (2, .int x2)]) C.1.1 C.1.2.1 dX4_waysOfConfessing_37 hl (k := 4) rfl rfl (by decide) rfl (fun ls hl => ?_)
        refine lv_goto (tgt := 5) C.1.1 C.1.2.1 dX4_waysOfConfessing_40 (by decide) ?_
        exact ih mem413 x1 x2 (x3 * ((10 : Int32) - x2)) (x4 + 1) _ _ _ Z (lv_sub hl [2, 3, 4, 1, 0] rfl) hf
      · replace hf := (if_neg h414).symm.trans hf
        refine lv_iload_n C.1.1 C.1.2.1 dX4_waysOfConfessing_27 rfl (lv_at hl 2 rfl) ?_
        refine lv_goto (tgt := 35) C.1.1 C.1.2.1 dX4_waysOfConfessing_28 (by decide) ?_
        refine lv_imul C.1.1 C.1.2.1 dX4_waysOfConfessing_35 ?_
        refine lv_istore_n (lv' := [(3, .int (x3 * x2)), (0, .ref (zr G 0)), (1, .int x1), (2, .int x2), (4, .int x4)]) C.1.1 C.1.2.1 dX4_waysOfConfessing_36 rfl hl (by decide) rfl (fun ls hl => ?_)
        refine lv_iinc (v := (x4 + 1)) (lv' := [(4, .int (x4 + 1)), (3, .int (x3 * x2)), (0, .ref (zr G 0)), (1, .int x1), (2, .int x2)]) C.1.1 C.1.2.1 dX4_waysOfConfessing_37 hl (k := 4) rfl rfl (by decide) rfl (fun ls hl => ?_)
        refine lv_goto (tgt := 5) C.1.1 C.1.2.1 dX4_waysOfConfessing_40 (by decide) ?_
        exact ih mem413 x1 x2 (x3 * x2) (x4 + 1) _ _ _ Z (lv_sub hl [2, 3, 4, 1, 0] rfl) hf
set_option maxHeartbeats 4000000 in
set_option maxRecDepth 100000 in
theorem M_X4_waysOfConfessing (l : Launch) (G : zG) (hG : zOK G) (N : Nat) (mem : zMem) (a1 : Int32) (a2 : Int32) (r : Int32) (mem' : zMem) (hf : f_X4_waysOfConfessing N mem a1 a2 = some (r, mem')) : zM l G yX4_waysOfConfessing cX4_waysOfConfessing 5 (some .int) 1 21 [.ref (zr G 0), .int a1, .int a2] mem (zQi G r mem') := by
  refine zStart hG (by decide +kernel) (Nat.le_of_ble_eq_true rfl) (fun p e s m below meth c C hr hlk ls hl Z => ?_)
  have hl : lv_has ls 5 [(0, .ref (zr G 0)), (1, .int a1), (2, .int a2)] := hl
  have C : zC (zAd G) G p s m _ c cX4_waysOfConfessing 5 RX4 := C
  unfold f_X4_waysOfConfessing at hf
  refine lv_iconst (v := (1 : Int32)) C.1.1 C.1.2.1 dX4_waysOfConfessing_0 (by decide) ?_
  refine lv_istore_n (lv' := [(3, .int (1 : Int32)), (0, .ref (zr G 0)), (1, .int a1), (2, .int a2)]) C.1.1 C.1.2.1 dX4_waysOfConfessing_1 rfl hl (by decide) rfl (fun ls hl => ?_)
  refine lv_iconst (v := (0 : Int32)) C.1.1 C.1.2.1 dX4_waysOfConfessing_2 (by decide) ?_
  refine lv_istore (lv' := [(4, .int (0 : Int32)), (3, .int (1 : Int32)), (0, .ref (zr G 0)), (1, .int a1), (2, .int a2)]) C.1.1 C.1.2.1 dX4_waysOfConfessing_3 hl (by decide) rfl (fun ls hl => ?_)
  exact K_X4_waysOfConfessing_5 (l := l) (e := e) (below := below) C hr hlk N N mem a1 a2 (1 : Int32) (0 : Int32) _ _ _ Z (lv_sub hl [2, 3, 4, 1, 0] rfl) hf
set_option maxHeartbeats 4000000 in
set_option maxRecDepth 100000 in
theorem K_X4_greatestDivisor_7 {p : Program} {l : Launch} {e : Env} {s : State} {m : MethodId} {args : Array Value} {below : List Frame} {meth : Method} {c : Code} {G : zG} (C : zC (zAd G) G p s m args c cX4_greatestDivisor 6 RX4) (hr : meth.sig.returnType = (some .int)) (hlk : meth.locks = false) {r : Int32} {mem' : zMem} (N : Nat) : ∀ (n : Nat) (mem : zMem) (x2 : Int32) (x3 : Int32) (x4 : Int32) (H : Heap) (locs : List Loc) (ls : Array Slot), zH (zAd G) G s mem H locs → lv_has ls 6 [(2, .int x2), (3, .int x3), (4, .int x4)] → f_X4_greatestDivisor_7 N n mem x2 x3 x4 = some (r, mem') → W p l e ({ frames := 0, cells := 0, slots := 0, locals := 0 } : Room) s m args below meth c H locs 0 0 (MQ below (zQi G r mem') args s 0 0 (zAd G)) (F0 m 7 ls []) := by
  intro n
  induction n with
  | zero =>
    intro mem x2 x3 x4 H locs ls Z hl hf
    rw [f_X4_greatestDivisor_7.eq_1] at hf
    cases hf
  | succ n ih =>
    intro mem x2 x3 x4 H locs ls Z hl hf
    rw [f_X4_greatestDivisor_7.eq_2] at hf
    refine lv_iload C.1.1 C.1.2.1 dX4_greatestDivisor_7 (lv_at hl 2 rfl) ?_
    refine lv_bipush (v := (64 : Int32)) C.1.1 C.1.2.1 dX4_greatestDivisor_9 (by decide) ?_
    refine lv_icmp_ge (tgt := 34) C.1.1 C.1.2.1 dX4_greatestDivisor_11 (by decide) (fun h415 => ?_) (fun h415 => ?_)
    · replace hf := (if_pos h415).symm.trans hf
      refine lv_iload_n C.1.1 C.1.2.1 dX4_greatestDivisor_34 rfl (lv_at hl 0 rfl) ?_
      cases hf
      exact z_iret C Z hr hlk dX4_greatestDivisor_35
    · replace hf := (if_neg h415).symm.trans hf
      refine lv_iload_n C.1.1 C.1.2.1 dX4_greatestDivisor_14 rfl (lv_at hl 1 rfl) ?_
      refine lv_if_eq (tgt := 34) C.1.1 C.1.2.1 dX4_greatestDivisor_15 (by decide) (fun h416 => ?_) (fun h416 => ?_)
      · replace hf := (if_pos h416).symm.trans hf
        refine lv_iload_n C.1.1 C.1.2.1 dX4_greatestDivisor_34 rfl (lv_at hl 0 rfl) ?_
        cases hf
        exact z_iret C Z hr hlk dX4_greatestDivisor_35
      · replace hf := (if_neg h416).symm.trans hf
        refine lv_iload_n C.1.1 C.1.2.1 dX4_greatestDivisor_18 rfl (lv_at hl 0 rfl) ?_
        refine lv_iload_n C.1.1 C.1.2.1 dX4_greatestDivisor_19 rfl (lv_at hl 1 rfl) ?_
        obtain ⟨hz417, hf⟩ := zgd_some hf
        refine lv_irem C.1.1 C.1.2.1 dX4_greatestDivisor_20 (znz_ne hz417) ?_
        refine lv_istore (lv' := [(5, .int (x2 - x2 / x3 * x3)), (2, .int x2), (3, .int x3), (4, .int x4)]) C.1.1 C.1.2.1 dX4_greatestDivisor_21 hl (by decide) rfl (fun ls hl => ?_)
        refine lv_iload_n C.1.1 C.1.2.1 dX4_greatestDivisor_23 rfl (lv_at hl 2 rfl) ?_
        refine lv_istore_n (lv' := [(2, .int x3), (5, .int (x2 - x2 / x3 * x3)), (3, .int x3), (4, .int x4)]) C.1.1 C.1.2.1 dX4_greatestDivisor_24 rfl hl (by decide) rfl (fun ls hl => ?_)
        refine lv_iload C.1.1 C.1.2.1 dX4_greatestDivisor_25 (lv_at hl 1 rfl) ?_
        refine lv_istore_n (lv' := [(3, .int (x2 - x2 / x3 * x3)), (2, .int x3), (5, .int (x2 - x2 / x3 * x3)), (4, .int x4)]) C.1.1 C.1.2.1 dX4_greatestDivisor_27 rfl hl (by decide) rfl (fun ls hl => ?_)
        refine lv_iinc (v := (x4 + 1)) (lv' := [(4, .int (x4 + 1)), (3, .int (x2 - x2 / x3 * x3)), (2, .int x3), (5, .int (x2 - x2 / x3 * x3))]) C.1.1 C.1.2.1 dX4_greatestDivisor_28 hl (k := 3) rfl rfl (by decide) rfl (fun ls hl => ?_)
        refine lv_goto (tgt := 7) C.1.1 C.1.2.1 dX4_greatestDivisor_31 (by decide) ?_
        exact ih mem x3 (x2 - x2 / x3 * x3) (x4 + 1) _ _ _ Z (lv_sub hl [2, 1, 0] rfl) hf
set_option maxHeartbeats 4000000 in
set_option maxRecDepth 100000 in
theorem M_X4_greatestDivisor (l : Launch) (G : zG) (hG : zOK G) (N : Nat) (mem : zMem) (a1 : Int32) (a2 : Int32) (r : Int32) (mem' : zMem) (hf : f_X4_greatestDivisor N mem a1 a2 = some (r, mem')) : zM l G yX4_greatestDivisor cX4_greatestDivisor 6 (some .int) 0 0 [.int a1, .int a2] mem (zQi G r mem') := by
  refine zStart hG (by decide +kernel) (Nat.le_of_ble_eq_true rfl) (fun p e s m below meth c C hr hlk ls hl Z => ?_)
  have hl : lv_has ls 6 [(0, .int a1), (1, .int a2)] := hl
  have C : zC (zAd G) G p s m _ c cX4_greatestDivisor 6 RX4 := C
  unfold f_X4_greatestDivisor at hf
  refine lv_iload_n C.1.1 C.1.2.1 dX4_greatestDivisor_0 rfl (lv_at hl 0 rfl) ?_
  refine lv_istore_n (lv' := [(2, .int a1), (0, .int a1), (1, .int a2)]) C.1.1 C.1.2.1 dX4_greatestDivisor_1 rfl hl (by decide) rfl (fun ls hl => ?_)
  refine lv_iload_n C.1.1 C.1.2.1 dX4_greatestDivisor_2 rfl (lv_at hl 2 rfl) ?_
  refine lv_istore_n (lv' := [(3, .int a2), (2, .int a1), (0, .int a1), (1, .int a2)]) C.1.1 C.1.2.1 dX4_greatestDivisor_3 rfl hl (by decide) rfl (fun ls hl => ?_)
  refine lv_iconst (v := (0 : Int32)) C.1.1 C.1.2.1 dX4_greatestDivisor_4 (by decide) ?_
  refine lv_istore (lv' := [(4, .int (0 : Int32)), (3, .int a2), (2, .int a1), (0, .int a1), (1, .int a2)]) C.1.1 C.1.2.1 dX4_greatestDivisor_5 hl (by decide) rfl (fun ls hl => ?_)
  exact K_X4_greatestDivisor_7 (l := l) (e := e) (below := below) C hr hlk N N mem a1 a2 (0 : Int32) _ _ _ Z (lv_sub hl [2, 1, 0] rfl) hf
set_option maxHeartbeats 4000000 in
set_option maxRecDepth 100000 in
theorem K_X4_confessed_43 {p : Program} {l : Launch} {e : Env} {s : State} {m : MethodId} {args : Array Value} {below : List Frame} {meth : Method} {c : Code} {G : zG} (C : zC (zAd G) G p s m args c cX4_confessed 8 RX4) (hr : meth.sig.returnType = (some .int)) (hlk : meth.locks = false) {r : Int32} {mem' : zMem} (N : Nat) : ∀ (n : Nat) (mem : zMem) (x1 : Int32) (x2 : Int32) (x3 : Int32) (x4 : Int32) (x5 : Int32) (x6 : Int32) (H : Heap) (locs : List Loc) (ls : Array Slot), zH (zAd G) G s mem H locs → lv_has ls 8 [(0, .ref (zr G 0)), (1, .int x1), (2, .int x2), (3, .int x3), (4, .int x4), (5, .int x5), (6, .int x6)] → f_X4_confessed_43 N n mem x1 x2 x3 x4 x5 x6 = some (r, mem') → W p l e ({ frames := 3, cells := 0, slots := 0, locals := 67 } : Room) s m args below meth c H locs 0 0 (MQ below (zQi G r mem') args s 0 0 (zAd G)) (F0 m 43 ls []) := by
  intro n
  induction n with
  | zero =>
    intro mem x1 x2 x3 x4 x5 x6 H locs ls Z hl hf
    rw [f_X4_confessed_43.eq_1] at hf
    cases hf
  | succ n ih =>
    intro mem x1 x2 x3 x4 x5 x6 H locs ls Z hl hf
    rw [f_X4_confessed_43.eq_2] at hf
    refine lv_iload C.1.1 C.1.2.1 dX4_confessed_43 (lv_at hl 6 rfl) ?_
    refine lv_iconst (v := (1 : Int32)) C.1.1 C.1.2.1 dX4_confessed_45 (by decide) ?_
    refine lv_aload_n C.1.1 C.1.2.1 dX4_confessed_46 rfl (lv_at hl 0 rfl) ?_
    refine zg_X4_19 C Z dX4_confessed_47 ?_
    refine zg_X4_67 C Z dX4_confessed_50 ?_
    refine lv_ishl C.1.1 C.1.2.1 dX4_confessed_53 ?_
    refine lv_icmp_ge (tgt := 100) C.1.1 C.1.2.1 dX4_confessed_54 (by decide) (fun h418 => ?_) (fun h418 => ?_)
    · replace hf := (if_pos h418).symm.trans hf
      refine lv_iload C.1.1 C.1.2.1 dX4_confessed_100 (lv_at hl 4 rfl) ?_
      refine lv_iload C.1.1 C.1.2.1 dX4_confessed_102 (lv_at hl 5 rfl) ?_
      obtain ⟨r419, mem419, hc419, hf⟩ := zb_some hf
      refine z_callSi (As := [.int x4, .int x5]) (rest := []) C Z (M_X4_greatestDivisor l G C.2.1 N mem x4 x5 r419 mem419 hc419) (zcw_X4_250 C.1.2.2.2.2 ⟨Nat.le_of_ble_eq_true rfl, Nat.le_of_ble_eq_true rfl⟩) rfl hl.1 rfl (Nat.le_of_ble_eq_true rfl) ⟨Nat.le_refl 0, Nat.le_refl 0⟩ dX4_confessed_104 (fun H locs Z => ?_)
      refine lv_iconst (v := (1 : Int32)) C.1.1 C.1.2.1 dX4_confessed_107 (by decide) ?_
      refine va_mmax C.1.1 C.1.2.1 (C.1.2.2.1.trans hl.1.symm) C.1.2.2.2.1 (C.1.2.2.2.2 _ lkM_X4_253) (C.1.2.2.2.2 _ lkS_J9_max_7cf53) (C.1.2.2.2.2 _ lkN_J9) (C.1.2.2.2.2 _ lkC_J9_max_7cf53) (Nat.le_of_ble_eq_true rfl) (Nat.le_of_ble_eq_true rfl) (Nat.le_refl 0) (Nat.le_refl 0) dX4_confessed_108 ?_
      refine lv_istore (lv' := [(6, .int (if r419 < (1 : Int32) then (1 : Int32) else r419)), (0, .ref (zr G 0)), (1, .int x1), (2, .int x2), (3, .int x3), (4, .int x4), (5, .int x5)]) C.1.1 C.1.2.1 dX4_confessed_111 hl (by decide) rfl (fun ls hl => ?_)
      refine lv_iload_n C.1.1 C.1.2.1 dX4_confessed_113 rfl (lv_at hl 3 rfl) ?_
      refine lv_if_ne (tgt := 122) C.1.1 C.1.2.1 dX4_confessed_114 (by decide) (fun h420 => ?_) (fun h420 => ?_)
      · replace hf := (if_neg h420).symm.trans hf
        refine lv_iload C.1.1 C.1.2.1 dX4_confessed_122 (lv_at hl 6 rfl) ?_
        refine lv_iload C.1.1 C.1.2.1 dX4_confessed_124 (lv_at hl 0 rfl) ?_
        obtain ⟨hz421, hf⟩ := zgd_some hf
        refine lv_idiv C.1.1 C.1.2.1 dX4_confessed_126 (znz_ne hz421) ?_
        cases hf
        exact z_iret C Z hr hlk dX4_confessed_127
      · replace hf := (if_pos h420).symm.trans hf
        refine lv_iload C.1.1 C.1.2.1 dX4_confessed_117 (lv_at hl 5 rfl) ?_
        refine lv_goto (tgt := 124) C.1.1 C.1.2.1 dX4_confessed_119 (by decide) ?_
        refine lv_iload C.1.1 C.1.2.1 dX4_confessed_124 (lv_at hl 0 rfl) ?_
        obtain ⟨hz422, hf⟩ := zgd_some hf
        refine lv_idiv C.1.1 C.1.2.1 dX4_confessed_126 (znz_ne hz422) ?_
        cases hf
        exact z_iret C Z hr hlk dX4_confessed_127
    · replace hf := (if_neg h418).symm.trans hf
      refine lv_aload_n C.1.1 C.1.2.1 dX4_confessed_57 rfl (lv_at hl 0 rfl) ?_
      refine lv_iload C.1.1 C.1.2.1 dX4_confessed_58 (lv_at hl 6 rfl) ?_
      refine lv_iload_n C.1.1 C.1.2.1 dX4_confessed_60 rfl (lv_at hl 1 rfl) ?_
      obtain ⟨r423, mem423, hc423, hf⟩ := zb_some hf
      refine z_callVi (k := 0) (As := [.int x6, .int x1]) (rest := []) C Z (M_X4_waysOfConfessing l G C.2.1 N mem x6 x1 r423 mem423 hc423) (zcw_X4_244 C.1.2.2.2.2 ⟨Nat.le_of_ble_eq_true rfl, Nat.le_of_ble_eq_true rfl⟩) (by decide) rfl rfl rfl hl.1 rfl (Nat.le_of_ble_eq_true rfl) ⟨Nat.le_refl 0, Nat.le_refl 0⟩ dX4_confessed_61 (fun H locs Z => ?_)
      refine lv_istore (lv' := [(7, .int r423), (0, .ref (zr G 0)), (1, .int x1), (2, .int x2), (3, .int x3), (4, .int x4), (5, .int x5), (6, .int x6)]) C.1.1 C.1.2.1 dX4_confessed_64 hl (by decide) rfl (fun ls hl => ?_)
      refine lv_iload C.1.1 C.1.2.1 dX4_confessed_66 (lv_at hl 6 rfl) ?_
      refine lv_iload C.1.1 C.1.2.1 dX4_confessed_68 (lv_at hl 0 rfl) ?_
      refine lv_iadd C.1.1 C.1.2.1 dX4_confessed_70 ?_
      refine lv_istore (lv' := [(5, .int (x5 + r423)), (7, .int r423), (0, .ref (zr G 0)), (1, .int x1), (2, .int x2), (3, .int x3), (4, .int x4), (6, .int x6)]) C.1.1 C.1.2.1 dX4_confessed_71 hl (by decide) rfl (fun ls hl => ?_)
      refine lv_aload_n C.1.1 C.1.2.1 dX4_confessed_73 rfl (lv_at hl 2 rfl) ?_
      refine lv_iload_n C.1.1 C.1.2.1 dX4_confessed_74 rfl (lv_at hl 5 rfl) ?_
      refine lv_aload_n C.1.1 C.1.2.1 dX4_confessed_75 rfl (lv_at hl 2 rfl) ?_
      refine lv_iload C.1.1 C.1.2.1 dX4_confessed_76 (lv_at hl 7 rfl) ?_
      obtain ⟨r424, mem424, hc424, hf⟩ := zb_some hf
      refine z_callVi (k := 0) (As := [.int x6]) (rest := [.int x3, .ref (zr G 0)]) C Z (M_X4_leadWithout l G C.2.1 N mem423 x6 r424 mem424 hc424) (zcw_X4_247 C.1.2.2.2.2 ⟨Nat.le_of_ble_eq_true rfl, Nat.le_of_ble_eq_true rfl⟩) (by decide) rfl rfl rfl hl.1 rfl (Nat.le_of_ble_eq_true rfl) ⟨Nat.le_refl 0, Nat.le_refl 0⟩ dX4_confessed_78 (fun H locs Z => ?_)
      obtain ⟨r425, mem425, hc425, hf⟩ := zb_some hf
      refine z_callVi (k := 0) (As := [.int x3, .int r424]) (rest := []) C Z (M_X4_hangsLevel l G C.2.1 N mem424 x3 r424 r425 mem425 hc425) (zcw_X4_178 C.1.2.2.2.2 ⟨Nat.le_of_ble_eq_true rfl, Nat.le_of_ble_eq_true rfl⟩) (by decide) rfl rfl rfl hl.1 rfl (Nat.le_of_ble_eq_true rfl) ⟨Nat.le_refl 0, Nat.le_refl 0⟩ dX4_confessed_81 (fun H locs Z => ?_)
      refine lv_if_eq (tgt := 94) C.1.1 C.1.2.1 dX4_confessed_84 (by decide) (fun h426 => ?_) (fun h426 => ?_)
      · replace hf := (if_pos h426).symm.trans hf
        refine lv_iinc (v := (x6 + 1)) (lv' := [(6, .int (x6 + 1)), (5, .int (x5 + r423)), (7, .int r423), (0, .ref (zr G 0)), (1, .int x1), (2, .int x2), (3, .int x3), (4, .int x4)]) C.1.1 C.1.2.1 dX4_confessed_94 hl (k := 7) rfl rfl (by decide) rfl (fun ls hl => ?_)
        refine lv_goto (tgt := 43) C.1.1 C.1.2.1 dX4_confessed_97 (by decide) ?_
        exact ih mem425 x1 x2 x3 x4 (x5 + r423) (x6 + 1) _ _ _ Z (lv_sub hl [3, 4, 5, 6, 7, 1, 0] rfl) hf
      · replace hf := (if_neg h426).symm.trans hf
        refine lv_iload C.1.1 C.1.2.1 dX4_confessed_87 (lv_at hl 6 rfl) ?_
        refine lv_iload C.1.1 C.1.2.1 dX4_confessed_89 (lv_at hl 1 rfl) ?_
        refine lv_iadd C.1.1 C.1.2.1 dX4_confessed_91 ?_
        refine lv_istore (lv' := [(4, .int (x4 + r423)), (5, .int (x5 + r423)), (7, .int r423), (0, .ref (zr G 0)), (1, .int x1), (2, .int x2), (3, .int x3), (6, .int x6)]) C.1.1 C.1.2.1 dX4_confessed_92 hl (by decide) rfl (fun ls hl => ?_)
        refine lv_iinc (v := (x6 + 1)) (lv' := [(6, .int (x6 + 1)), (4, .int (x4 + r423)), (5, .int (x5 + r423)), (7, .int r423), (0, .ref (zr G 0)), (1, .int x1), (2, .int x2), (3, .int x3)]) C.1.1 C.1.2.1 dX4_confessed_94 hl (k := 7) rfl rfl (by decide) rfl (fun ls hl => ?_)
        refine lv_goto (tgt := 43) C.1.1 C.1.2.1 dX4_confessed_97 (by decide) ?_
        exact ih mem425 x1 x2 x3 (x4 + r423) (x5 + r423) (x6 + 1) _ _ _ Z (lv_sub hl [4, 5, 6, 7, 1, 2, 0] rfl) hf
set_option maxHeartbeats 4000000 in
set_option maxRecDepth 100000 in
theorem M_X4_confessed (l : Launch) (G : zG) (hG : zOK G) (N : Nat) (mem : zMem) (a1 : Int32) (a2 : Int32) (r : Int32) (mem' : zMem) (hf : f_X4_confessed N mem a1 a2 = some (r, mem')) : zM l G yX4_confessed cX4_confessed 8 (some .int) 3 67 [.ref (zr G 0), .int a1, .int a2] mem (zQi G r mem') := by
  refine zStart hG (by decide +kernel) (Nat.le_of_ble_eq_true rfl) (fun p e s m below meth c C hr hlk ls hl Z => ?_)
  have hl : lv_has ls 8 [(0, .ref (zr G 0)), (1, .int a1), (2, .int a2)] := hl
  have C : zC (zAd G) G p s m _ c cX4_confessed 8 RX4 := C
  unfold f_X4_confessed at hf
  refine lv_iload_n C.1.1 C.1.2.1 dX4_confessed_0 rfl (lv_at hl 1 rfl) ?_
  refine lv_iconst (v := (0 : Int32)) C.1.1 C.1.2.1 dX4_confessed_1 (by decide) ?_
  refine lv_bipush (v := (10 : Int32)) C.1.1 C.1.2.1 dX4_confessed_2 (by decide) ?_
  obtain ⟨r427, mem427, hc427, hf⟩ := zb_some hf
  refine z_callSi (As := [.int a1, .int (0 : Int32), .int (10 : Int32)]) (rest := []) C Z (M_X4_isWithin l G C.2.1 N mem a1 (0 : Int32) (10 : Int32) r427 mem427 hc427) (zcw_X4_52 C.1.2.2.2.2 ⟨Nat.le_of_ble_eq_true rfl, Nat.le_of_ble_eq_true rfl⟩) rfl hl.1 rfl (Nat.le_of_ble_eq_true rfl) ⟨Nat.le_refl 0, Nat.le_refl 0⟩ dX4_confessed_4 (fun H locs Z => ?_)
  refine lv_if_eq (tgt := 19) C.1.1 C.1.2.1 dX4_confessed_7 (by decide) (fun h428 => ?_) (fun h428 => ?_)
  · replace hf := (if_pos h428).symm.trans hf
    refine lv_bipush (v := (-3 : Int32)) C.1.1 C.1.2.1 dX4_confessed_19 (by decide) ?_
    cases hf
    exact z_iret C Z hr hlk dX4_confessed_21
  · replace hf := (if_neg h428).symm.trans hf
    refine lv_iload_n C.1.1 C.1.2.1 dX4_confessed_10 rfl (lv_at hl 2 rfl) ?_
    refine lv_iconst (v := (0 : Int32)) C.1.1 C.1.2.1 dX4_confessed_11 (by decide) ?_
    refine lv_iconst (v := (1 : Int32)) C.1.1 C.1.2.1 dX4_confessed_12 (by decide) ?_
    obtain ⟨r429, mem429, hc429, hf⟩ := zb_some hf
    refine z_callSi (As := [.int a2, .int (0 : Int32), .int (1 : Int32)]) (rest := []) C Z (M_X4_isWithin l G C.2.1 N mem427 a2 (0 : Int32) (1 : Int32) r429 mem429 hc429) (zcw_X4_52 C.1.2.2.2.2 ⟨Nat.le_of_ble_eq_true rfl, Nat.le_of_ble_eq_true rfl⟩) rfl hl.1 rfl (Nat.le_of_ble_eq_true rfl) ⟨Nat.le_refl 0, Nat.le_refl 0⟩ dX4_confessed_13 (fun H locs Z => ?_)
    refine lv_if_ne (tgt := 22) C.1.1 C.1.2.1 dX4_confessed_16 (by decide) (fun h430 => ?_) (fun h430 => ?_)
    · replace hf := (if_neg h430).symm.trans hf
      refine lv_aload_n C.1.1 C.1.2.1 dX4_confessed_22 rfl (lv_at hl 0 rfl) ?_
      refine lv_aload_n C.1.1 C.1.2.1 dX4_confessed_23 rfl (lv_at hl 0 rfl) ?_
      refine zg_X4_26 C Z dX4_confessed_24 ?_
      refine zg_X4_123 (k := 11) (by decide) C Z dX4_confessed_27 ?_
      obtain ⟨r431, mem431, hc431, hf⟩ := zb_some hf
      refine z_callVi (k := 0) (As := [.int (mem429 11 1)]) (rest := []) C Z (M_X4_sermonOf l G C.2.1 N mem429 (mem429 11 1) r431 mem431 hc431) (zcw_X4_148 C.1.2.2.2.2 ⟨Nat.le_of_ble_eq_true rfl, Nat.le_of_ble_eq_true rfl⟩) (by decide) rfl rfl rfl hl.1 rfl (Nat.le_of_ble_eq_true rfl) ⟨Nat.le_refl 0, Nat.le_refl 0⟩ dX4_confessed_30 (fun H locs Z => ?_)
      refine lv_istore_n (lv' := [(3, .int r431), (0, .ref (zr G 0)), (1, .int a1), (2, .int a2)]) C.1.1 C.1.2.1 dX4_confessed_33 rfl hl (by decide) rfl (fun ls hl => ?_)
      refine lv_iconst (v := (0 : Int32)) C.1.1 C.1.2.1 dX4_confessed_34 (by decide) ?_
      refine lv_istore (lv' := [(4, .int (0 : Int32)), (3, .int r431), (0, .ref (zr G 0)), (1, .int a1), (2, .int a2)]) C.1.1 C.1.2.1 dX4_confessed_35 hl (by decide) rfl (fun ls hl => ?_)
      refine lv_iconst (v := (0 : Int32)) C.1.1 C.1.2.1 dX4_confessed_37 (by decide) ?_
      refine lv_istore (lv' := [(5, .int (0 : Int32)), (4, .int (0 : Int32)), (3, .int r431), (0, .ref (zr G 0)), (1, .int a1), (2, .int a2)]) C.1.1 C.1.2.1 dX4_confessed_38 hl (by decide) rfl (fun ls hl => ?_)
      refine lv_iconst (v := (0 : Int32)) C.1.1 C.1.2.1 dX4_confessed_40 (by decide) ?_
      refine lv_istore (lv' := [(6, .int (0 : Int32)), (5, .int (0 : Int32)), (4, .int (0 : Int32)), (3, .int r431), (0, .ref (zr G 0)), (1, .int a1), (2, .int a2)]) C.1.1 C.1.2.1 dX4_confessed_41 hl (by decide) rfl (fun ls hl => ?_)
      exact K_X4_confessed_43 (l := l) (e := e) (below := below) C hr hlk N N mem431 a1 a2 r431 (0 : Int32) (0 : Int32) (0 : Int32) _ _ _ Z (lv_sub hl [4, 5, 6, 3, 2, 1, 0] rfl) hf
    · replace hf := (if_pos h430).symm.trans hf
      refine lv_bipush (v := (-3 : Int32)) C.1.1 C.1.2.1 dX4_confessed_19 (by decide) ?_
      cases hf
      exact z_iret C Z hr hlk dX4_confessed_21
set_option maxHeartbeats 4000000 in
set_option maxRecDepth 100000 in
theorem M_X4_count (l : Launch) (G : zG) (hG : zOK G) (N : Nat) (mem : zMem) (a1 : Int32) (r : Int32) (mem' : zMem) (hf : f_X4_count N mem a1 = some (r, mem')) : zM l G yX4_count cX4_count 2 (some .int) 4 87 [.ref (zr G 0), .int a1] mem (zQi G r mem') := by
  refine zStart hG (by decide +kernel) (Nat.le_of_ble_eq_true rfl) (fun p e s m below meth c C hr hlk ls hl Z => ?_)
  have hl : lv_has ls 2 [(0, .ref (zr G 0)), (1, .int a1)] := hl
  have C : zC (zAd G) G p s m _ c cX4_count 2 RX4 := C
  unfold f_X4_count at hf
  refine lv_iload_n C.1.1 C.1.2.1 dX4_count_0 rfl (lv_at hl 1 rfl) ?_
  by_cases h432 : a1 = 0
  · replace hf := (if_pos h432).symm.trans hf
    refine lv_tableIn (off := 75) (tgt := 76) C.1.1 C.1.2.1 dX4_count_1 (by rw [h432]; decide) (by rw [h432]; decide) (by rw [h432]; rfl) (by decide) ?_
    refine lv_aload_n C.1.1 C.1.2.1 dX4_count_76 rfl (lv_at hl 0 rfl) ?_
    refine zg_X4_19 C Z dX4_count_77 ?_
    refine zg_X4_64 C Z dX4_count_80 ?_
    cases hf
    exact z_iret C Z hr hlk dX4_count_83
  replace hf := (if_neg h432).symm.trans hf
  by_cases h433 : a1 = 1
  · replace hf := (if_pos h433).symm.trans hf
    refine lv_tableIn (off := 83) (tgt := 84) C.1.1 C.1.2.1 dX4_count_1 (by rw [h433]; decide) (by rw [h433]; decide) (by rw [h433]; rfl) (by decide) ?_
    refine lv_aload_n C.1.1 C.1.2.1 dX4_count_84 rfl (lv_at hl 0 rfl) ?_
    refine zg_X4_19 C Z dX4_count_85 ?_
    refine zg_X4_67 C Z dX4_count_88 ?_
    cases hf
    exact z_iret C Z hr hlk dX4_count_91
  replace hf := (if_neg h433).symm.trans hf
  by_cases h434 : a1 = 2
  · replace hf := (if_pos h434).symm.trans hf
    refine lv_tableIn (off := 91) (tgt := 92) C.1.1 C.1.2.1 dX4_count_1 (by rw [h434]; decide) (by rw [h434]; decide) (by rw [h434]; rfl) (by decide) ?_
    refine lv_aload_n C.1.1 C.1.2.1 dX4_count_92 rfl (lv_at hl 0 rfl) ?_
    refine zg_X4_26 C Z dX4_count_93 ?_
    refine zg_X4_164 (k := 11) (by decide) C Z dX4_count_96 ?_
    cases hf
    exact z_iret C Z hr hlk dX4_count_99
  replace hf := (if_neg h434).symm.trans hf
  by_cases h435 : a1 = 3
  · replace hf := (if_pos h435).symm.trans hf
    refine lv_tableIn (off := 99) (tgt := 100) C.1.1 C.1.2.1 dX4_count_1 (by rw [h435]; decide) (by rw [h435]; decide) (by rw [h435]; rfl) (by decide) ?_
    refine lv_aload_n C.1.1 C.1.2.1 dX4_count_100 rfl (lv_at hl 0 rfl) ?_
    refine lv_aload_n C.1.1 C.1.2.1 dX4_count_101 rfl (lv_at hl 0 rfl) ?_
    refine zg_X4_26 C Z dX4_count_102 ?_
    refine zg_X4_123 (k := 11) (by decide) C Z dX4_count_105 ?_
    obtain ⟨r436, mem436, hc436, hf⟩ := zb_some hf
    refine z_callVi (k := 0) (As := [.int (mem 11 1)]) (rest := []) C Z (M_X4_sermonOf l G C.2.1 N mem (mem 11 1) r436 mem436 hc436) (zcw_X4_148 C.1.2.2.2.2 ⟨Nat.le_of_ble_eq_true rfl, Nat.le_of_ble_eq_true rfl⟩) (by decide) rfl rfl rfl hl.1 rfl (Nat.le_of_ble_eq_true rfl) ⟨Nat.le_refl 0, Nat.le_refl 0⟩ dX4_count_108 (fun H locs Z => ?_)
    cases hf
    exact z_iret C Z hr hlk dX4_count_111
  replace hf := (if_neg h435).symm.trans hf
  by_cases h437 : a1 = 4
  · replace hf := (if_pos h437).symm.trans hf
    refine lv_tableIn (off := 111) (tgt := 112) C.1.1 C.1.2.1 dX4_count_1 (by rw [h437]; decide) (by rw [h437]; decide) (by rw [h437]; rfl) (by decide) ?_
    refine lv_aload_n C.1.1 C.1.2.1 dX4_count_112 rfl (lv_at hl 0 rfl) ?_
    obtain ⟨r438, mem438, hc438, hf⟩ := zb_some hf
    refine z_callVi (k := 0) (As := []) (rest := []) C Z (M_X4_leadNow l G C.2.1 N mem r438 mem438 hc438) (zcw_X4_152 C.1.2.2.2.2 ⟨Nat.le_of_ble_eq_true rfl, Nat.le_of_ble_eq_true rfl⟩) (by decide) rfl rfl rfl hl.1 rfl (Nat.le_of_ble_eq_true rfl) ⟨Nat.le_refl 0, Nat.le_refl 0⟩ dX4_count_113 (fun H locs Z => ?_)
    cases hf
    exact z_iret C Z hr hlk dX4_count_116
  replace hf := (if_neg h437).symm.trans hf
  by_cases h439 : a1 = 5
  · replace hf := (if_pos h439).symm.trans hf
    refine lv_tableIn (off := 116) (tgt := 117) C.1.1 C.1.2.1 dX4_count_1 (by rw [h439]; decide) (by rw [h439]; decide) (by rw [h439]; rfl) (by decide) ?_
    refine lv_aload_n C.1.1 C.1.2.1 dX4_count_117 rfl (lv_at hl 0 rfl) ?_
    obtain ⟨r440, mem440, hc440, hf⟩ := zb_some hf
    refine z_callVi (k := 0) (As := []) (rest := []) C Z (M_X4_hangsLevelNow l G C.2.1 N mem r440 mem440 hc440) (zcw_X4_139 C.1.2.2.2.2 ⟨Nat.le_of_ble_eq_true rfl, Nat.le_of_ble_eq_true rfl⟩) (by decide) rfl rfl rfl hl.1 rfl (Nat.le_of_ble_eq_true rfl) ⟨Nat.le_refl 0, Nat.le_refl 0⟩ dX4_count_118 (fun H locs Z => ?_)
    refine lv_if_eq (tgt := 128) C.1.1 C.1.2.1 dX4_count_121 (by decide) (fun h441 => ?_) (fun h441 => ?_)
    · replace hf := (if_pos h441).symm.trans hf
      refine lv_iconst (v := (0 : Int32)) C.1.1 C.1.2.1 dX4_count_128 (by decide) ?_
      cases hf
      exact z_iret C Z hr hlk dX4_count_129
    · replace hf := (if_neg h441).symm.trans hf
      refine lv_iconst (v := (1 : Int32)) C.1.1 C.1.2.1 dX4_count_124 (by decide) ?_
      refine lv_goto (tgt := 129) C.1.1 C.1.2.1 dX4_count_125 (by decide) ?_
      cases hf
      exact z_iret C Z hr hlk dX4_count_129
  replace hf := (if_neg h439).symm.trans hf
  by_cases h442 : a1 = 6
  · replace hf := (if_pos h442).symm.trans hf
    refine lv_tableIn (off := 129) (tgt := 130) C.1.1 C.1.2.1 dX4_count_1 (by rw [h442]; decide) (by rw [h442]; decide) (by rw [h442]; rfl) (by decide) ?_
    refine lv_aload_n C.1.1 C.1.2.1 dX4_count_130 rfl (lv_at hl 0 rfl) ?_
    refine zg_X4_26 C Z dX4_count_131 ?_
    refine zg_X4_123 (k := 11) (by decide) C Z dX4_count_134 ?_
    cases hf
    exact z_iret C Z hr hlk dX4_count_137
  replace hf := (if_neg h442).symm.trans hf
  by_cases h443 : a1 = 7
  · replace hf := (if_pos h443).symm.trans hf
    refine lv_tableIn (off := 137) (tgt := 138) C.1.1 C.1.2.1 dX4_count_1 (by rw [h443]; decide) (by rw [h443]; decide) (by rw [h443]; rfl) (by decide) ?_
    refine lv_aload_n C.1.1 C.1.2.1 dX4_count_138 rfl (lv_at hl 0 rfl) ?_
    refine zg_X4_26 C Z dX4_count_139 ?_
    refine zg_X4_146 (k := 11) (by decide) C Z dX4_count_142 ?_
    cases hf
    exact z_iret C Z hr hlk dX4_count_145
  replace hf := (if_neg h443).symm.trans hf
  by_cases h444 : a1 = 8
  · replace hf := (if_pos h444).symm.trans hf
    refine lv_tableIn (off := 145) (tgt := 146) C.1.1 C.1.2.1 dX4_count_1 (by rw [h444]; decide) (by rw [h444]; decide) (by rw [h444]; rfl) (by decide) ?_
    refine lv_aload_n C.1.1 C.1.2.1 dX4_count_146 rfl (lv_at hl 0 rfl) ?_
    refine zg_X4_26 C Z dX4_count_147 ?_
    refine zg_X4_256 (k := 11) (by decide) C Z dX4_count_150 ?_
    cases hf
    exact z_iret C Z hr hlk dX4_count_153
  replace hf := (if_neg h444).symm.trans hf
  by_cases h445 : a1 = 9
  · replace hf := (if_pos h445).symm.trans hf
    refine lv_tableIn (off := 153) (tgt := 154) C.1.1 C.1.2.1 dX4_count_1 (by rw [h445]; decide) (by rw [h445]; decide) (by rw [h445]; rfl) (by decide) ?_
    refine lv_aload_n C.1.1 C.1.2.1 dX4_count_154 rfl (lv_at hl 0 rfl) ?_
    refine zg_X4_26 C Z dX4_count_155 ?_
    refine zg_X4_161 (k := 11) (by decide) C Z dX4_count_158 ?_
    cases hf
    exact z_iret C Z hr hlk dX4_count_161
  replace hf := (if_neg h445).symm.trans hf
  by_cases h446 : a1 = 10
  · replace hf := (if_pos h446).symm.trans hf
    refine lv_tableIn (off := 161) (tgt := 162) C.1.1 C.1.2.1 dX4_count_1 (by rw [h446]; decide) (by rw [h446]; decide) (by rw [h446]; rfl) (by decide) ?_
    refine lv_aload_n C.1.1 C.1.2.1 dX4_count_162 rfl (lv_at hl 0 rfl) ?_
    refine zg_X4_26 C Z dX4_count_163 ?_
    refine zg_X4_116 (k := 11) (by decide) C Z dX4_count_166 ?_
    cases hf
    exact z_iret C Z hr hlk dX4_count_169
  replace hf := (if_neg h446).symm.trans hf
  by_cases h447 : a1 = 11
  · replace hf := (if_pos h447).symm.trans hf
    refine lv_tableIn (off := 169) (tgt := 170) C.1.1 C.1.2.1 dX4_count_1 (by rw [h447]; decide) (by rw [h447]; decide) (by rw [h447]; rfl) (by decide) ?_
    refine lv_aload_n C.1.1 C.1.2.1 dX4_count_170 rfl (lv_at hl 0 rfl) ?_
    refine zg_X4_48 C Z dX4_count_171 ?_
    refine zg_X4_204 C Z dX4_count_174 ?_
    cases hf
    exact z_iret C Z hr hlk dX4_count_177
  replace hf := (if_neg h447).symm.trans hf
  by_cases h448 : a1 = 12
  · replace hf := (if_pos h448).symm.trans hf
    refine lv_tableIn (off := 177) (tgt := 178) C.1.1 C.1.2.1 dX4_count_1 (by rw [h448]; decide) (by rw [h448]; decide) (by rw [h448]; rfl) (by decide) ?_
    refine lv_aload_n C.1.1 C.1.2.1 dX4_count_178 rfl (lv_at hl 0 rfl) ?_
    refine zg_X4_48 C Z dX4_count_179 ?_
    refine zg_X4_211 C Z dX4_count_182 ?_
    cases hf
    exact z_iret C Z hr hlk dX4_count_185
  replace hf := (if_neg h448).symm.trans hf
  by_cases h449 : a1 = 13
  · replace hf := (if_pos h449).symm.trans hf
    refine lv_tableIn (off := 185) (tgt := 186) C.1.1 C.1.2.1 dX4_count_1 (by rw [h449]; decide) (by rw [h449]; decide) (by rw [h449]; rfl) (by decide) ?_
    refine lv_aload_n C.1.1 C.1.2.1 dX4_count_186 rfl (lv_at hl 0 rfl) ?_
    refine zg_X4_101 C Z dX4_count_187 ?_
    cases hf
    exact z_iret C Z hr hlk dX4_count_190
  replace hf := (if_neg h449).symm.trans hf
  by_cases h450 : a1 = 14
  · replace hf := (if_pos h450).symm.trans hf
    refine lv_tableIn (off := 190) (tgt := 191) C.1.1 C.1.2.1 dX4_count_1 (by rw [h450]; decide) (by rw [h450]; decide) (by rw [h450]; rfl) (by decide) ?_
    refine lv_aload_n C.1.1 C.1.2.1 dX4_count_191 rfl (lv_at hl 0 rfl) ?_
    refine zg_X4_10 C Z dX4_count_192 ?_
    refine zg_X4_60 C Z dX4_count_195 ?_
    cases hf
    exact z_iret C Z hr hlk dX4_count_198
  replace hf := (if_neg h450).symm.trans hf
  have eh432 := lv_neT h432 (a := 0) rfl
  have eh433 := lv_neT h433 (a := 1) rfl
  have eh434 := lv_neT h434 (a := 2) rfl
  have eh435 := lv_neT h435 (a := 3) rfl
  have eh437 := lv_neT h437 (a := 4) rfl
  have eh439 := lv_neT h439 (a := 5) rfl
  have eh442 := lv_neT h442 (a := 6) rfl
  have eh443 := lv_neT h443 (a := 7) rfl
  have eh444 := lv_neT h444 (a := 8) rfl
  have eh445 := lv_neT h445 (a := 9) rfl
  have eh446 := lv_neT h446 (a := 10) rfl
  have eh447 := lv_neT h447 (a := 11) rfl
  have eh448 := lv_neT h448 (a := 12) rfl
  have eh449 := lv_neT h449 (a := 13) rfl
  have eh450 := lv_neT h450 (a := 14) rfl
  refine lv_tableOut (tgt := 199) C.1.1 C.1.2.1 dX4_count_1 (by omega) (by decide) ?_
  refine lv_bipush (v := (-3 : Int32)) C.1.1 C.1.2.1 dX4_count_199 (by decide) ?_
  cases hf
  exact z_iret C Z hr hlk dX4_count_201
set_option maxHeartbeats 4000000 in
set_option maxRecDepth 100000 in
theorem M_X5_in (l : Launch) (G : zG) (hG : zOK G) (N : Nat) (mem : zMem) (a1 : Int32) (a2 : Int32) (a3 : Int32) (r : Int32) (mem' : zMem) (hf : f_X5_in N mem a1 a2 a3 = some (r, mem')) : zM l G yX5_in cX5_in 3 (some .boolean) 0 0 [.int a1, .int a2, .int a3] mem (zQi G r mem') := by
  refine zStart hG (by decide +kernel) (Nat.le_of_ble_eq_true rfl) (fun p e s m below meth c C hr hlk ls hl Z => ?_)
  have hl : lv_has ls 3 [(0, .int a1), (1, .int a2), (2, .int a3)] := hl
  have C : zC (zAd G) G p s m _ c cX5_in 3 RX5 := C
  unfold f_X5_in at hf
  refine lv_iload_n C.1.1 C.1.2.1 dX5_in_0 rfl (lv_at hl 0 rfl) ?_
  refine lv_iload_n C.1.1 C.1.2.1 dX5_in_1 rfl (lv_at hl 1 rfl) ?_
  refine lv_icmp_lt (tgt := 14) C.1.1 C.1.2.1 dX5_in_2 (by decide) (fun h451 => ?_) (fun h451 => ?_)
  · replace hf := (if_pos h451).symm.trans hf
    refine lv_iconst (v := (0 : Int32)) C.1.1 C.1.2.1 dX5_in_14 (by decide) ?_
    cases hf
    exact z_zret C Z hr hlk (by decide) dX5_in_15
  · replace hf := (if_neg h451).symm.trans hf
    refine lv_iload_n C.1.1 C.1.2.1 dX5_in_5 rfl (lv_at hl 0 rfl) ?_
    refine lv_iload_n C.1.1 C.1.2.1 dX5_in_6 rfl (lv_at hl 2 rfl) ?_
    refine lv_icmp_gt (tgt := 14) C.1.1 C.1.2.1 dX5_in_7 (by decide) (fun h452 => ?_) (fun h452 => ?_)
    · replace hf := (if_pos h452).symm.trans hf
      refine lv_iconst (v := (0 : Int32)) C.1.1 C.1.2.1 dX5_in_14 (by decide) ?_
      cases hf
      exact z_zret C Z hr hlk (by decide) dX5_in_15
    · replace hf := (if_neg h452).symm.trans hf
      refine lv_iconst (v := (1 : Int32)) C.1.1 C.1.2.1 dX5_in_10 (by decide) ?_
      refine lv_goto (tgt := 15) C.1.1 C.1.2.1 dX5_in_11 (by decide) ?_
      cases hf
      exact z_zret C Z hr hlk (by decide) dX5_in_15
set_option maxHeartbeats 4000000 in
set_option maxRecDepth 100000 in
theorem M_X5_isPart (l : Launch) (G : zG) (hG : zOK G) (N : Nat) (mem : zMem) (a1 : Int32) (r : Int32) (mem' : zMem) (hf : f_X5_isPart N mem a1 = some (r, mem')) : zM l G yX5_isPart cX5_isPart 2 (some .boolean) 1 22 [.ref (zr G 44), .int a1] mem (zQi G r mem') := by
  refine zStart hG (by decide +kernel) (Nat.le_of_ble_eq_true rfl) (fun p e s m below meth c C hr hlk ls hl Z => ?_)
  have hl : lv_has ls 2 [(0, .ref (zr G 44)), (1, .int a1)] := hl
  have C : zC (zAd G) G p s m _ c cX5_isPart 2 RX5 := C
  unfold f_X5_isPart at hf
  refine lv_iload_n C.1.1 C.1.2.1 dX5_isPart_0 rfl (lv_at hl 1 rfl) ?_
  refine lv_iconst (v := (0 : Int32)) C.1.1 C.1.2.1 dX5_isPart_1 (by decide) ?_
  refine lv_aload_n C.1.1 C.1.2.1 dX5_isPart_2 rfl (lv_at hl 0 rfl) ?_
  refine zg_X5_13 C Z dX5_isPart_3 ?_
  refine lv_iconst (v := (0 : Int32)) C.1.1 C.1.2.1 dX5_isPart_6 (by decide) ?_
  refine z_iald (k := 46) C Z (by decide) rfl (by decide) dX5_isPart_7 ?_
  refine lv_iconst (v := (1 : Int32)) C.1.1 C.1.2.1 dX5_isPart_8 (by decide) ?_
  refine lv_isub C.1.1 C.1.2.1 dX5_isPart_9 ?_
  obtain ⟨r453, mem453, hc453, hf⟩ := zb_some hf
  refine z_callSi (As := [.int a1, .int (0 : Int32), .int ((mem 46 (0 : Int32).toNatClampNeg) - (1 : Int32))]) (rest := []) C Z (M_X5_in l G C.2.1 N mem a1 (0 : Int32) ((mem 46 (0 : Int32).toNatClampNeg) - (1 : Int32)) r453 mem453 hc453) (zcw_X5_44 C.1.2.2.2.2 ⟨Nat.le_of_ble_eq_true rfl, Nat.le_of_ble_eq_true rfl⟩) rfl hl.1 rfl (Nat.le_of_ble_eq_true rfl) ⟨Nat.le_refl 0, Nat.le_refl 0⟩ dX5_isPart_10 (fun H locs Z => ?_)
  obtain ⟨hb454, hf⟩ := zgd_some hf
  cases hf
  exact z_zret C Z hr hlk hb454 dX5_isPart_13
set_option maxHeartbeats 4000000 in
set_option maxRecDepth 100000 in
theorem M_X5_isSet (l : Launch) (G : zG) (hG : zOK G) (N : Nat) (mem : zMem) (a1 : Int32) (r : Int32) (mem' : zMem) (hf : f_X5_isSet N mem a1 = some (r, mem')) : zM l G yX5_isSet cX5_isSet 2 (some .boolean) 1 22 [.ref (zr G 44), .int a1] mem (zQi G r mem') := by
  refine zStart hG (by decide +kernel) (Nat.le_of_ble_eq_true rfl) (fun p e s m below meth c C hr hlk ls hl Z => ?_)
  have hl : lv_has ls 2 [(0, .ref (zr G 44)), (1, .int a1)] := hl
  have C : zC (zAd G) G p s m _ c cX5_isSet 2 RX5 := C
  unfold f_X5_isSet at hf
  refine lv_iload_n C.1.1 C.1.2.1 dX5_isSet_0 rfl (lv_at hl 1 rfl) ?_
  refine lv_iconst (v := (0 : Int32)) C.1.1 C.1.2.1 dX5_isSet_1 (by decide) ?_
  refine lv_iconst (v := (1 : Int32)) C.1.1 C.1.2.1 dX5_isSet_2 (by decide) ?_
  refine lv_aload_n C.1.1 C.1.2.1 dX5_isSet_3 rfl (lv_at hl 0 rfl) ?_
  refine zg_X5_13 C Z dX5_isSet_4 ?_
  refine lv_iconst (v := (0 : Int32)) C.1.1 C.1.2.1 dX5_isSet_7 (by decide) ?_
  refine z_iald (k := 46) C Z (by decide) rfl (by decide) dX5_isSet_8 ?_
  refine lv_ishl C.1.1 C.1.2.1 dX5_isSet_9 ?_
  refine lv_iconst (v := (1 : Int32)) C.1.1 C.1.2.1 dX5_isSet_10 (by decide) ?_
  refine lv_isub C.1.1 C.1.2.1 dX5_isSet_11 ?_
  obtain ⟨r455, mem455, hc455, hf⟩ := zb_some hf
  refine z_callSi (As := [.int a1, .int (0 : Int32), .int (((1 : Int32) <<< ((mem 46 (0 : Int32).toNatClampNeg) &&& 31)) - (1 : Int32))]) (rest := []) C Z (M_X5_in l G C.2.1 N mem a1 (0 : Int32) (((1 : Int32) <<< ((mem 46 (0 : Int32).toNatClampNeg) &&& 31)) - (1 : Int32)) r455 mem455 hc455) (zcw_X5_44 C.1.2.2.2.2 ⟨Nat.le_of_ble_eq_true rfl, Nat.le_of_ble_eq_true rfl⟩) rfl hl.1 rfl (Nat.le_of_ble_eq_true rfl) ⟨Nat.le_refl 0, Nat.le_refl 0⟩ dX5_isSet_12 (fun H locs Z => ?_)
  obtain ⟨hb456, hf⟩ := zgd_some hf
  cases hf
  exact z_zret C Z hr hlk hb456 dX5_isSet_15
set_option maxHeartbeats 4000000 in
set_option maxRecDepth 100000 in
theorem M_X5_write (l : Launch) (G : zG) (hG : zOK G) (N : Nat) (mem : zMem) (a1 : Int32) (r : Int32) (mem' : zMem) (hf : f_X5_write N mem a1 = some (r, mem')) : zM l G yX5_write cX5_write 2 (some .int) 1 22 [.ref (zr G 44), .int a1] mem (zQi G r mem') := by
  refine zStart hG (by decide +kernel) (Nat.le_of_ble_eq_true rfl) (fun p e s m below meth c C hr hlk ls hl Z => ?_)
  have hl : lv_has ls 2 [(0, .ref (zr G 44)), (1, .int a1)] := hl
  have C : zC (zAd G) G p s m _ c cX5_write 2 RX5 := C
  unfold f_X5_write at hf
  refine lv_iload_n C.1.1 C.1.2.1 dX5_write_0 rfl (lv_at hl 1 rfl) ?_
  refine lv_iconst (v := (0 : Int32)) C.1.1 C.1.2.1 dX5_write_1 (by decide) ?_
  refine lv_sipush (v := (255 : Int32)) C.1.1 C.1.2.1 dX5_write_2 (by decide) ?_
  obtain ⟨r457, mem457, hc457, hf⟩ := zb_some hf
  refine z_callSi (As := [.int a1, .int (0 : Int32), .int (255 : Int32)]) (rest := []) C Z (M_X5_in l G C.2.1 N mem a1 (0 : Int32) (255 : Int32) r457 mem457 hc457) (zcw_X5_44 C.1.2.2.2.2 ⟨Nat.le_of_ble_eq_true rfl, Nat.le_of_ble_eq_true rfl⟩) rfl hl.1 rfl (Nat.le_of_ble_eq_true rfl) ⟨Nat.le_refl 0, Nat.le_refl 0⟩ dX5_write_5 (fun H locs Z => ?_)
  refine lv_if_ne (tgt := 14) C.1.1 C.1.2.1 dX5_write_8 (by decide) (fun h458 => ?_) (fun h458 => ?_)
  · replace hf := (if_neg h458).symm.trans hf
    refine lv_aload_n C.1.1 C.1.2.1 dX5_write_14 rfl (lv_at hl 0 rfl) ?_
    refine zg_X5_48 C Z dX5_write_15 ?_
    refine lv_sipush (v := (160 : Int32)) C.1.1 C.1.2.1 dX5_write_18 (by decide) ?_
    refine lv_icmp_ne (tgt := 27) C.1.1 C.1.2.1 dX5_write_21 (by decide) (fun h459 => ?_) (fun h459 => ?_)
    · replace hf := (if_neg h459).symm.trans hf
      refine lv_aload_n C.1.1 C.1.2.1 dX5_write_27 rfl (lv_at hl 0 rfl) ?_
      refine zg_X5_7 C Z dX5_write_28 ?_
      refine lv_aload_n C.1.1 C.1.2.1 dX5_write_31 rfl (lv_at hl 0 rfl) ?_
      refine zg_X5_48 C Z dX5_write_32 ?_
      refine lv_iload_n C.1.1 C.1.2.1 dX5_write_35 rfl (lv_at hl 1 rfl) ?_
      obtain ⟨hi460, hf⟩ := zgd_some hf
      refine z_iast (k := 45) C Z (by decide) (fun _ => rfl) hi460 dX5_write_36 (fun H locs Z => ?_)
      obtain ⟨mem461, hm461, hf⟩ := zlet_some hf
      rw [← hm461] at Z
      refine lv_aload_n C.1.1 C.1.2.1 dX5_write_37 rfl (lv_at hl 0 rfl) ?_
      refine lv_dup C.1.1 C.1.2.1 dX5_write_38 rfl ?_
      refine zg_X5_48 C Z dX5_write_39 ?_
      refine lv_iconst (v := (1 : Int32)) C.1.1 C.1.2.1 dX5_write_42 (by decide) ?_
      refine lv_iadd C.1.1 C.1.2.1 dX5_write_43 ?_
      refine zp_X5_48 C Z dX5_write_44 (fun H locs Z => ?_)
      obtain ⟨mem462, hm462, hf⟩ := zlet_some hf
      rw [← hm462] at Z
      refine lv_aload_n C.1.1 C.1.2.1 dX5_write_47 rfl (lv_at hl 0 rfl) ?_
      refine zg_X5_48 C Z dX5_write_48 ?_
      cases hf
      exact z_iret C Z hr hlk dX5_write_51
    · replace hf := (if_pos h459).symm.trans hf
      refine lv_bipush (v := (-5 : Int32)) C.1.1 C.1.2.1 dX5_write_24 (by decide) ?_
      cases hf
      exact z_iret C Z hr hlk dX5_write_26
  · replace hf := (if_pos h458).symm.trans hf
    refine lv_bipush (v := (-3 : Int32)) C.1.1 C.1.2.1 dX5_write_11 (by decide) ?_
    cases hf
    exact z_iret C Z hr hlk dX5_write_13
