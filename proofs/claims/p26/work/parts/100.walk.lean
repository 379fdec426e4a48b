set_option maxHeartbeats 4000000 in
set_option maxRecDepth 100000 in
theorem M_X0_addSeen (l : Launch) (G : zG) (hG : zOK G) (N : Nat) (mem : zMem) (a1 : Int32) (a2 : Int32) (a3 : Int32) (r : Int32) (mem' : zMem) (hf : f_X0_addSeen N mem a1 a2 a3 = some (r, mem')) : zM l G yX0_addSeen cX0_addSeen 4 (some .boolean) 0 0 [.ref (zr G 36), .int a1, .int a2, .int a3] mem (zQi G r mem') := by
  refine zStart hG (by decide +kernel) (Nat.le_of_ble_eq_true rfl) (fun p e s m below meth c C hr hlk ls hl Z => ?_)
  have hl : lv_has ls 4 [(0, .ref (zr G 36)), (1, .int a1), (2, .int a2), (3, .int a3)] := hl
  have C : zC (zAd G) G p s m _ c cX0_addSeen 4 RX0 := C
  unfold f_X0_addSeen at hf
  refine lv_aload_n C.1.1 C.1.2.1 dX0_addSeen_0 rfl (lv_at hl 0 rfl) ?_
  refine zg_X0_34 C Z dX0_addSeen_1 ?_
  refine lv_bipush (v := (6 : Int32)) C.1.1 C.1.2.1 dX0_addSeen_4 (by decide) ?_
  refine lv_icmp_lt (tgt := 11) C.1.1 C.1.2.1 dX0_addSeen_6 (by decide) (fun h1 => ?_) (fun h1 => ?_)
  · replace hf := (if_pos h1).symm.trans hf
    refine lv_aload_n C.1.1 C.1.2.1 dX0_addSeen_11 rfl (lv_at hl 0 rfl) ?_
    refine zg_X0_9 C Z dX0_addSeen_12 ?_
    refine lv_aload_n C.1.1 C.1.2.1 dX0_addSeen_15 rfl (lv_at hl 0 rfl) ?_
    refine zg_X0_34 C Z dX0_addSeen_16 ?_
    refine lv_iload_n C.1.1 C.1.2.1 dX0_addSeen_19 rfl (lv_at hl 1 rfl) ?_
    obtain ⟨hi2, hf⟩ := zgd_some hf
    refine z_iast (k := 37) C Z (by decide) (fun _ => rfl) hi2 dX0_addSeen_20 (fun H locs Z => ?_)
    obtain ⟨mem3, hm3, hf⟩ := zlet_some hf
    rw [← hm3] at Z
    refine lv_aload_n C.1.1 C.1.2.1 dX0_addSeen_21 rfl (lv_at hl 0 rfl) ?_
    refine zg_X0_15 C Z dX0_addSeen_22 ?_
    refine lv_aload_n C.1.1 C.1.2.1 dX0_addSeen_25 rfl (lv_at hl 0 rfl) ?_
    refine zg_X0_34 C Z dX0_addSeen_26 ?_
    refine lv_iload_n C.1.1 C.1.2.1 dX0_addSeen_29 rfl (lv_at hl 2 rfl) ?_
    obtain ⟨hi4, hf⟩ := zgd_some hf
    refine z_iast (k := 38) C Z (by decide) (fun _ => rfl) hi4 dX0_addSeen_30 (fun H locs Z => ?_)
    obtain ⟨mem5, hm5, hf⟩ := zlet_some hf
    rw [← hm5] at Z
    refine lv_aload_n C.1.1 C.1.2.1 dX0_addSeen_31 rfl (lv_at hl 0 rfl) ?_
    refine zg_X0_18 C Z dX0_addSeen_32 ?_
    refine lv_aload_n C.1.1 C.1.2.1 dX0_addSeen_35 rfl (lv_at hl 0 rfl) ?_
    refine zg_X0_34 C Z dX0_addSeen_36 ?_
    refine lv_iload_n C.1.1 C.1.2.1 dX0_addSeen_39 rfl (lv_at hl 3 rfl) ?_
    obtain ⟨hi6, hf⟩ := zgd_some hf
    refine z_iast (k := 39) C Z (by decide) (fun _ => rfl) hi6 dX0_addSeen_40 (fun H locs Z => ?_)
    obtain ⟨mem7, hm7, hf⟩ := zlet_some hf
    rw [← hm7] at Z
    refine lv_aload_n C.1.1 C.1.2.1 dX0_addSeen_41 rfl (lv_at hl 0 rfl) ?_
    refine lv_dup C.1.1 C.1.2.1 dX0_addSeen_42 rfl ?_
    refine zg_X0_34 C Z dX0_addSeen_43 ?_
    refine lv_iconst (v := (1 : Int32)) C.1.1 C.1.2.1 dX0_addSeen_46 (by decide) ?_
    refine lv_iadd C.1.1 C.1.2.1 dX0_addSeen_47 ?_
    refine zp_X0_34 C Z dX0_addSeen_48 (fun H locs Z => ?_)
    obtain ⟨mem8, hm8, hf⟩ := zlet_some hf
    rw [← hm8] at Z
    refine lv_iconst (v := (1 : Int32)) C.1.1 C.1.2.1 dX0_addSeen_51 (by decide) ?_
    cases hf
    exact z_zret C Z hr hlk (by decide) dX0_addSeen_52
  · replace hf := (if_neg h1).symm.trans hf
    refine lv_iconst (v := (0 : Int32)) C.1.1 C.1.2.1 dX0_addSeen_9 (by decide) ?_
    cases hf
    exact z_zret C Z hr hlk (by decide) dX0_addSeen_10
set_option maxHeartbeats 4000000 in
set_option maxRecDepth 100000 in
theorem M_X0_addHeard (l : Launch) (G : zG) (hG : zOK G) (N : Nat) (mem : zMem) (a1 : Int32) (a2 : Int32) (a3 : Int32) (a4 : Int32) (r : Int32) (mem' : zMem) (hf : f_X0_addHeard N mem a1 a2 a3 a4 = some (r, mem')) : zM l G yX0_addHeard cX0_addHeard 5 (some .boolean) 0 0 [.ref (zr G 36), .int a1, .int a2, .int a3, .int a4] mem (zQi G r mem') := by
  refine zStart hG (by decide +kernel) (Nat.le_of_ble_eq_true rfl) (fun p e s m below meth c C hr hlk ls hl Z => ?_)
  have hl : lv_has ls 5 [(0, .ref (zr G 36)), (1, .int a1), (2, .int a2), (3, .int a3), (4, .int a4)] := hl
  have C : zC (zAd G) G p s m _ c cX0_addHeard 5 RX0 := C
  unfold f_X0_addHeard at hf
  refine lv_aload_n C.1.1 C.1.2.1 dX0_addHeard_0 rfl (lv_at hl 0 rfl) ?_
  refine zg_X0_38 C Z dX0_addHeard_1 ?_
  refine lv_bipush (v := (6 : Int32)) C.1.1 C.1.2.1 dX0_addHeard_4 (by decide) ?_
  refine lv_icmp_lt (tgt := 11) C.1.1 C.1.2.1 dX0_addHeard_6 (by decide) (fun h9 => ?_) (fun h9 => ?_)
  · replace hf := (if_pos h9).symm.trans hf
    refine lv_aload_n C.1.1 C.1.2.1 dX0_addHeard_11 rfl (lv_at hl 0 rfl) ?_
    refine zg_X0_21 C Z dX0_addHeard_12 ?_
    refine lv_aload_n C.1.1 C.1.2.1 dX0_addHeard_15 rfl (lv_at hl 0 rfl) ?_
    refine zg_X0_38 C Z dX0_addHeard_16 ?_
    refine lv_iload_n C.1.1 C.1.2.1 dX0_addHeard_19 rfl (lv_at hl 1 rfl) ?_
    obtain ⟨hi10, hf⟩ := zgd_some hf
    refine z_iast (k := 40) C Z (by decide) (fun _ => rfl) hi10 dX0_addHeard_20 (fun H locs Z => ?_)
    obtain ⟨mem11, hm11, hf⟩ := zlet_some hf
    rw [← hm11] at Z
    refine lv_aload_n C.1.1 C.1.2.1 dX0_addHeard_21 rfl (lv_at hl 0 rfl) ?_
    refine zg_X0_24 C Z dX0_addHeard_22 ?_
    refine lv_aload_n C.1.1 C.1.2.1 dX0_addHeard_25 rfl (lv_at hl 0 rfl) ?_
    refine zg_X0_38 C Z dX0_addHeard_26 ?_
    refine lv_iload_n C.1.1 C.1.2.1 dX0_addHeard_29 rfl (lv_at hl 2 rfl) ?_
    obtain ⟨hi12, hf⟩ := zgd_some hf
    refine z_iast (k := 41) C Z (by decide) (fun _ => rfl) hi12 dX0_addHeard_30 (fun H locs Z => ?_)
    obtain ⟨mem13, hm13, hf⟩ := zlet_some hf
    rw [← hm13] at Z
    refine lv_aload_n C.1.1 C.1.2.1 dX0_addHeard_31 rfl (lv_at hl 0 rfl) ?_
    refine zg_X0_30 C Z dX0_addHeard_32 ?_
    refine lv_aload_n C.1.1 C.1.2.1 dX0_addHeard_35 rfl (lv_at hl 0 rfl) ?_
    refine zg_X0_38 C Z dX0_addHeard_36 ?_
    refine lv_iload_n C.1.1 C.1.2.1 dX0_addHeard_39 rfl (lv_at hl 3 rfl) ?_
    obtain ⟨hi14, hf⟩ := zgd_some hf
    refine z_bast (k := 43) C Z (by decide) (fun _ => rfl) hi14 dX0_addHeard_40 (fun H locs Z => ?_)
    obtain ⟨mem15, hm15, hf⟩ := zlet_some hf
    rw [← hm15] at Z
    refine lv_aload_n C.1.1 C.1.2.1 dX0_addHeard_41 rfl (lv_at hl 0 rfl) ?_
    refine zg_X0_27 C Z dX0_addHeard_42 ?_
    refine lv_aload_n C.1.1 C.1.2.1 dX0_addHeard_45 rfl (lv_at hl 0 rfl) ?_
    refine zg_X0_38 C Z dX0_addHeard_46 ?_
    refine lv_iload C.1.1 C.1.2.1 dX0_addHeard_49 (lv_at hl 4 rfl) ?_
    obtain ⟨hi16, hf⟩ := zgd_some hf
    refine z_iast (k := 42) C Z (by decide) (fun _ => rfl) hi16 dX0_addHeard_51 (fun H locs Z => ?_)
    obtain ⟨mem17, hm17, hf⟩ := zlet_some hf
    rw [← hm17] at Z
    refine lv_aload_n C.1.1 C.1.2.1 dX0_addHeard_52 rfl (lv_at hl 0 rfl) ?_
    refine lv_dup C.1.1 C.1.2.1 dX0_addHeard_53 rfl ?_
    refine zg_X0_38 C Z dX0_addHeard_54 ?_
    refine lv_iconst (v := (1 : Int32)) C.1.1 C.1.2.1 dX0_addHeard_57 (by decide) ?_
    refine lv_iadd C.1.1 C.1.2.1 dX0_addHeard_58 ?_
    refine zp_X0_38 C Z dX0_addHeard_59 (fun H locs Z => ?_)
    obtain ⟨mem18, hm18, hf⟩ := zlet_some hf
    rw [← hm18] at Z
    refine lv_iconst (v := (1 : Int32)) C.1.1 C.1.2.1 dX0_addHeard_62 (by decide) ?_
    cases hf
    exact z_zret C Z hr hlk (by decide) dX0_addHeard_63
  · replace hf := (if_neg h9).symm.trans hf
    refine lv_iconst (v := (0 : Int32)) C.1.1 C.1.2.1 dX0_addHeard_9 (by decide) ?_
    cases hf
    exact z_zret C Z hr hlk (by decide) dX0_addHeard_10
set_option maxHeartbeats 4000000 in
set_option maxRecDepth 100000 in
theorem M_X0_clear (l : Launch) (G : zG) (hG : zOK G) (N : Nat) (mem : zMem) (r : Unit) (mem' : zMem) (hf : f_X0_clear N mem = some (r, mem')) : zM l G yX0_clear cX0_clear 1 none 0 0 [.ref (zr G 36)] mem (zQv G mem') := by
  refine zStart hG (by decide +kernel) (Nat.le_of_ble_eq_true rfl) (fun p e s m below meth c C hr hlk ls hl Z => ?_)
  have hl : lv_has ls 1 [(0, .ref (zr G 36))] := hl
  have C : zC (zAd G) G p s m _ c cX0_clear 1 RX0 := C
  unfold f_X0_clear at hf
  refine lv_aload_n C.1.1 C.1.2.1 dX0_clear_0 rfl (lv_at hl 0 rfl) ?_
  refine lv_iconst (v := (0 : Int32)) C.1.1 C.1.2.1 dX0_clear_1 (by decide) ?_
  refine zp_X0_34 C Z dX0_clear_2 (fun H locs Z => ?_)
  obtain ⟨mem19, hm19, hf⟩ := zlet_some hf
  rw [← hm19] at Z
  refine lv_aload_n C.1.1 C.1.2.1 dX0_clear_5 rfl (lv_at hl 0 rfl) ?_
  refine lv_iconst (v := (0 : Int32)) C.1.1 C.1.2.1 dX0_clear_6 (by decide) ?_
  refine zp_X0_38 C Z dX0_clear_7 (fun H locs Z => ?_)
  obtain ⟨mem20, hm20, hf⟩ := zlet_some hf
  rw [← hm20] at Z
  cases hf
  exact z_vret C Z hr hlk dX0_clear_10
set_option maxHeartbeats 4000000 in
set_option maxRecDepth 100000 in
theorem M_X1_beginAsAtFirst (l : Launch) (G : zG) (hG : zOK G) (N : Nat) (mem : zMem) (r : Unit) (mem' : zMem) (hf : f_X1_beginAsAtFirst N mem = some (r, mem')) : zM l G yX1_beginAsAtFirst cX1_beginAsAtFirst 1 none 0 0 [.ref (zr G 6)] mem (zQv G mem') := by
  refine zStart hG (by decide +kernel) (Nat.le_of_ble_eq_true rfl) (fun p e s m below meth c C hr hlk ls hl Z => ?_)
  have hl : lv_has ls 1 [(0, .ref (zr G 6))] := hl
  have C : zC (zAd G) G p s m _ c cX1_beginAsAtFirst 1 RX1 := C
  unfold f_X1_beginAsAtFirst at hf
  refine lv_aload_n C.1.1 C.1.2.1 dX1_beginAsAtFirst_0 rfl (lv_at hl 0 rfl) ?_
  refine lv_iconst (v := (0 : Int32)) C.1.1 C.1.2.1 dX1_beginAsAtFirst_1 (by decide) ?_
  refine zp_X1_27 C Z dX1_beginAsAtFirst_2 (fun H locs Z => ?_)
  obtain ⟨mem21, hm21, hf⟩ := zlet_some hf
  rw [← hm21] at Z
  refine lv_aload_n C.1.1 C.1.2.1 dX1_beginAsAtFirst_5 rfl (lv_at hl 0 rfl) ?_
  refine lv_iconst (v := (0 : Int32)) C.1.1 C.1.2.1 dX1_beginAsAtFirst_6 (by decide) ?_
  refine zp_X1_31 C Z dX1_beginAsAtFirst_7 (fun H locs Z => ?_)
  obtain ⟨mem22, hm22, hf⟩ := zlet_some hf
  rw [← hm22] at Z
  refine lv_aload_n C.1.1 C.1.2.1 dX1_beginAsAtFirst_10 rfl (lv_at hl 0 rfl) ?_
  refine lv_iconst (v := (0 : Int32)) C.1.1 C.1.2.1 dX1_beginAsAtFirst_11 (by decide) ?_
  refine zp_X1_34 C Z dX1_beginAsAtFirst_12 (fun H locs Z => ?_)
  obtain ⟨mem23, hm23, hf⟩ := zlet_some hf
  rw [← hm23] at Z
  refine lv_aload_n C.1.1 C.1.2.1 dX1_beginAsAtFirst_15 rfl (lv_at hl 0 rfl) ?_
  refine lv_iconst (v := (1 : Int32)) C.1.1 C.1.2.1 dX1_beginAsAtFirst_16 (by decide) ?_
  refine zp_X1_37 C Z dX1_beginAsAtFirst_17 (fun H locs Z => ?_)
  obtain ⟨mem24, hm24, hf⟩ := zlet_some hf
  rw [← hm24] at Z
  refine lv_aload_n C.1.1 C.1.2.1 dX1_beginAsAtFirst_20 rfl (lv_at hl 0 rfl) ?_
  refine lv_iconst (v := (0 : Int32)) C.1.1 C.1.2.1 dX1_beginAsAtFirst_21 (by decide) ?_
  refine zp_X1_40 C Z dX1_beginAsAtFirst_22 (fun H locs Z => ?_)
  obtain ⟨mem25, hm25, hf⟩ := zlet_some hf
  rw [← hm25] at Z
  cases hf
  exact z_vret C Z hr hlk dX1_beginAsAtFirst_25
set_option maxHeartbeats 4000000 in
set_option maxRecDepth 100000 in
theorem M_X1_addPart (l : Launch) (G : zG) (hG : zOK G) (N : Nat) (mem : zMem) (a1 : Int32) (a2 : Int32) (a3 : Int32) (r : Unit) (mem' : zMem) (hf : f_X1_addPart N mem a1 a2 a3 = some (r, mem')) : zM l G yX1_addPart cX1_addPart 4 none 0 0 [.ref (zr G 6), .int a1, .int a2, .int a3] mem (zQv G mem') := by
  refine zStart hG (by decide +kernel) (Nat.le_of_ble_eq_true rfl) (fun p e s m below meth c C hr hlk ls hl Z => ?_)
  have hl : lv_has ls 4 [(0, .ref (zr G 6)), (1, .int a1), (2, .int a2), (3, .int a3)] := hl
  have C : zC (zAd G) G p s m _ c cX1_addPart 4 RX1 := C
  unfold f_X1_addPart at hf
  refine lv_aload_n C.1.1 C.1.2.1 dX1_addPart_0 rfl (lv_at hl 0 rfl) ?_
  refine zg_X1_27 C Z dX1_addPart_1 ?_
  refine lv_bipush (v := (8 : Int32)) C.1.1 C.1.2.1 dX1_addPart_4 (by decide) ?_
  refine lv_icmp_ge (tgt := 49) C.1.1 C.1.2.1 dX1_addPart_6 (by decide) (fun h26 => ?_) (fun h26 => ?_)
  · replace hf := (if_pos h26).symm.trans hf
    cases hf
    exact z_vret C Z hr hlk dX1_addPart_49
  · replace hf := (if_neg h26).symm.trans hf
    refine lv_aload_n C.1.1 C.1.2.1 dX1_addPart_9 rfl (lv_at hl 0 rfl) ?_
    refine zg_X1_9 C Z dX1_addPart_10 ?_
    refine lv_aload_n C.1.1 C.1.2.1 dX1_addPart_13 rfl (lv_at hl 0 rfl) ?_
    refine zg_X1_27 C Z dX1_addPart_14 ?_
    refine lv_iload_n C.1.1 C.1.2.1 dX1_addPart_17 rfl (lv_at hl 1 rfl) ?_
    obtain ⟨hi27, hf⟩ := zgd_some hf
    refine z_iast (k := 7) C Z (by decide) (fun _ => rfl) hi27 dX1_addPart_18 (fun H locs Z => ?_)
    obtain ⟨mem28, hm28, hf⟩ := zlet_some hf
    rw [← hm28] at Z
    refine lv_aload_n C.1.1 C.1.2.1 dX1_addPart_19 rfl (lv_at hl 0 rfl) ?_
    refine zg_X1_15 C Z dX1_addPart_20 ?_
    refine lv_aload_n C.1.1 C.1.2.1 dX1_addPart_23 rfl (lv_at hl 0 rfl) ?_
    refine zg_X1_27 C Z dX1_addPart_24 ?_
    refine lv_iload_n C.1.1 C.1.2.1 dX1_addPart_27 rfl (lv_at hl 2 rfl) ?_
    obtain ⟨hi29, hf⟩ := zgd_some hf
    refine z_iast (k := 8) C Z (by decide) (fun _ => rfl) hi29 dX1_addPart_28 (fun H locs Z => ?_)
    obtain ⟨mem30, hm30, hf⟩ := zlet_some hf
    rw [← hm30] at Z
    refine lv_aload_n C.1.1 C.1.2.1 dX1_addPart_29 rfl (lv_at hl 0 rfl) ?_
    refine zg_X1_18 C Z dX1_addPart_30 ?_
    refine lv_aload_n C.1.1 C.1.2.1 dX1_addPart_33 rfl (lv_at hl 0 rfl) ?_
    refine zg_X1_27 C Z dX1_addPart_34 ?_
    refine lv_iload_n C.1.1 C.1.2.1 dX1_addPart_37 rfl (lv_at hl 3 rfl) ?_
    obtain ⟨hi31, hf⟩ := zgd_some hf
    refine z_iast (k := 9) C Z (by decide) (fun _ => rfl) hi31 dX1_addPart_38 (fun H locs Z => ?_)
    obtain ⟨mem32, hm32, hf⟩ := zlet_some hf
    rw [← hm32] at Z
    refine lv_aload_n C.1.1 C.1.2.1 dX1_addPart_39 rfl (lv_at hl 0 rfl) ?_
    refine lv_dup C.1.1 C.1.2.1 dX1_addPart_40 rfl ?_
    refine zg_X1_27 C Z dX1_addPart_41 ?_
    refine lv_iconst (v := (1 : Int32)) C.1.1 C.1.2.1 dX1_addPart_44 (by decide) ?_
    refine lv_iadd C.1.1 C.1.2.1 dX1_addPart_45 ?_
    refine zp_X1_27 C Z dX1_addPart_46 (fun H locs Z => ?_)
    obtain ⟨mem33, hm33, hf⟩ := zlet_some hf
    rw [← hm33] at Z
    cases hf
    exact z_vret C Z hr hlk dX1_addPart_49
set_option maxHeartbeats 4000000 in
set_option maxRecDepth 100000 in
theorem M_X1_addSoul (l : Launch) (G : zG) (hG : zOK G) (N : Nat) (mem : zMem) (a1 : Int32) (r : Unit) (mem' : zMem) (hf : f_X1_addSoul N mem a1 = some (r, mem')) : zM l G yX1_addSoul cX1_addSoul 2 none 0 0 [.ref (zr G 6), .int a1] mem (zQv G mem') := by
  refine zStart hG (by decide +kernel) (Nat.le_of_ble_eq_true rfl) (fun p e s m below meth c C hr hlk ls hl Z => ?_)
  have hl : lv_has ls 2 [(0, .ref (zr G 6)), (1, .int a1)] := hl
  have C : zC (zAd G) G p s m _ c cX1_addSoul 2 RX1 := C
  unfold f_X1_addSoul at hf
  refine lv_aload_n C.1.1 C.1.2.1 dX1_addSoul_0 rfl (lv_at hl 0 rfl) ?_
  refine zg_X1_31 C Z dX1_addSoul_1 ?_
  refine lv_bipush (v := (6 : Int32)) C.1.1 C.1.2.1 dX1_addSoul_4 (by decide) ?_
  refine lv_icmp_ge (tgt := 29) C.1.1 C.1.2.1 dX1_addSoul_6 (by decide) (fun h34 => ?_) (fun h34 => ?_)
  · replace hf := (if_pos h34).symm.trans hf
    cases hf
    exact z_vret C Z hr hlk dX1_addSoul_29
  · replace hf := (if_neg h34).symm.trans hf
    refine lv_aload_n C.1.1 C.1.2.1 dX1_addSoul_9 rfl (lv_at hl 0 rfl) ?_
    refine zg_X1_21 C Z dX1_addSoul_10 ?_
    refine lv_aload_n C.1.1 C.1.2.1 dX1_addSoul_13 rfl (lv_at hl 0 rfl) ?_
    refine zg_X1_31 C Z dX1_addSoul_14 ?_
    refine lv_iload_n C.1.1 C.1.2.1 dX1_addSoul_17 rfl (lv_at hl 1 rfl) ?_
    obtain ⟨hi35, hf⟩ := zgd_some hf
    refine z_iast (k := 10) C Z (by decide) (fun _ => rfl) hi35 dX1_addSoul_18 (fun H locs Z => ?_)
    obtain ⟨mem36, hm36, hf⟩ := zlet_some hf
    rw [← hm36] at Z
    refine lv_aload_n C.1.1 C.1.2.1 dX1_addSoul_19 rfl (lv_at hl 0 rfl) ?_
    refine lv_dup C.1.1 C.1.2.1 dX1_addSoul_20 rfl ?_
    refine zg_X1_31 C Z dX1_addSoul_21 ?_
    refine lv_iconst (v := (1 : Int32)) C.1.1 C.1.2.1 dX1_addSoul_24 (by decide) ?_
    refine lv_iadd C.1.1 C.1.2.1 dX1_addSoul_25 ?_
    refine zp_X1_31 C Z dX1_addSoul_26 (fun H locs Z => ?_)
    obtain ⟨mem37, hm37, hf⟩ := zlet_some hf
    rw [← hm37] at Z
    cases hf
    exact z_vret C Z hr hlk dX1_addSoul_29
set_option maxHeartbeats 4000000 in
set_option maxRecDepth 100000 in
theorem M_X1_tell (l : Launch) (G : zG) (hG : zOK G) (N : Nat) (mem : zMem) (a1 : Int32) (a2 : Int32) (a3 : Int32) (r : Unit) (mem' : zMem) (hf : f_X1_tell N mem a1 a2 a3 = some (r, mem')) : zM l G yX1_tell cX1_tell 4 none 1 23 [.ref (zr G 6), .int a1, .int a2, .int a3] mem (zQv G mem') := by
  refine zStart hG (by decide +kernel) (Nat.le_of_ble_eq_true rfl) (fun p e s m below meth c C hr hlk ls hl Z => ?_)
  have hl : lv_has ls 4 [(0, .ref (zr G 6)), (1, .int a1), (2, .int a2), (3, .int a3)] := hl
  have C : zC (zAd G) G p s m _ c cX1_tell 4 RX1 := C
  unfold f_X1_tell at hf
  refine lv_iload_n C.1.1 C.1.2.1 dX1_tell_0 rfl (lv_at hl 1 rfl) ?_
  by_cases h38 : a1 = 0
  · replace hf := (if_pos h38).symm.trans hf
    refine lv_tableIn (off := 51) (tgt := 52) C.1.1 C.1.2.1 dX1_tell_1 (by rw [h38]; decide) (by rw [h38]; decide) (by rw [h38]; rfl) (by decide) ?_
    refine lv_aload_n C.1.1 C.1.2.1 dX1_tell_52 rfl (lv_at hl 0 rfl) ?_
    obtain ⟨r39, mem39, hc39, hf⟩ := zb_some hf
    refine z_callVv (k := 6) (As := []) (rest := []) C Z (M_X1_beginAsAtFirst l G C.2.1 N mem r39 mem39 hc39) (zcw_X1_24 C.1.2.2.2.2 ⟨Nat.le_of_ble_eq_true rfl, Nat.le_of_ble_eq_true rfl⟩) (by decide) rfl rfl rfl hl.1 rfl (Nat.le_of_ble_eq_true rfl) ⟨Nat.le_refl 0, Nat.le_refl 0⟩ dX1_tell_53 (fun H locs Z => ?_)
    refine lv_goto (tgt := 131) C.1.1 C.1.2.1 dX1_tell_56 (by decide) ?_
    cases hf
    exact z_vret C Z hr hlk dX1_tell_131
  replace hf := (if_neg h38).symm.trans hf
  by_cases h40 : a1 = 1
  · replace hf := (if_pos h40).symm.trans hf
    refine lv_tableIn (off := 58) (tgt := 59) C.1.1 C.1.2.1 dX1_tell_1 (by rw [h40]; decide) (by rw [h40]; decide) (by rw [h40]; rfl) (by decide) ?_
    refine lv_aload_n C.1.1 C.1.2.1 dX1_tell_59 rfl (lv_at hl 0 rfl) ?_
    refine lv_iconst (v := (0 : Int32)) C.1.1 C.1.2.1 dX1_tell_60 (by decide) ?_
    refine lv_iload_n C.1.1 C.1.2.1 dX1_tell_61 rfl (lv_at hl 2 rfl) ?_
    refine lv_iload_n C.1.1 C.1.2.1 dX1_tell_62 rfl (lv_at hl 3 rfl) ?_
    obtain ⟨r41, mem41, hc41, hf⟩ := zb_some hf
    refine z_callVv (k := 6) (As := [.int (0 : Int32), .int a2, .int a3]) (rest := []) C Z (M_X1_addPart l G C.2.1 N mem (0 : Int32) a2 a3 r41 mem41 hc41) (zcw_X1_43 C.1.2.2.2.2 ⟨Nat.le_of_ble_eq_true rfl, Nat.le_of_ble_eq_true rfl⟩) (by decide) rfl rfl rfl hl.1 rfl (Nat.le_of_ble_eq_true rfl) ⟨Nat.le_refl 0, Nat.le_refl 0⟩ dX1_tell_63 (fun H locs Z => ?_)
    refine lv_goto (tgt := 131) C.1.1 C.1.2.1 dX1_tell_66 (by decide) ?_
    cases hf
    exact z_vret C Z hr hlk dX1_tell_131
  replace hf := (if_neg h40).symm.trans hf
  by_cases h42 : a1 = 2
  · replace hf := (if_pos h42).symm.trans hf
    refine lv_tableIn (off := 68) (tgt := 69) C.1.1 C.1.2.1 dX1_tell_1 (by rw [h42]; decide) (by rw [h42]; decide) (by rw [h42]; rfl) (by decide) ?_
    refine lv_aload_n C.1.1 C.1.2.1 dX1_tell_69 rfl (lv_at hl 0 rfl) ?_
    refine lv_iconst (v := (1 : Int32)) C.1.1 C.1.2.1 dX1_tell_70 (by decide) ?_
    refine lv_iload_n C.1.1 C.1.2.1 dX1_tell_71 rfl (lv_at hl 2 rfl) ?_
    refine lv_iload_n C.1.1 C.1.2.1 dX1_tell_72 rfl (lv_at hl 3 rfl) ?_
    obtain ⟨r43, mem43, hc43, hf⟩ := zb_some hf
    refine z_callVv (k := 6) (As := [.int (1 : Int32), .int a2, .int a3]) (rest := []) C Z (M_X1_addPart l G C.2.1 N mem (1 : Int32) a2 a3 r43 mem43 hc43) (zcw_X1_43 C.1.2.2.2.2 ⟨Nat.le_of_ble_eq_true rfl, Nat.le_of_ble_eq_true rfl⟩) (by decide) rfl rfl rfl hl.1 rfl (Nat.le_of_ble_eq_true rfl) ⟨Nat.le_refl 0, Nat.le_refl 0⟩ dX1_tell_73 (fun H locs Z => ?_)
    refine lv_goto (tgt := 131) C.1.1 C.1.2.1 dX1_tell_76 (by decide) ?_
    cases hf
    exact z_vret C Z hr hlk dX1_tell_131
  replace hf := (if_neg h42).symm.trans hf
  by_cases h44 : a1 = 3
  · replace hf := (if_pos h44).symm.trans hf
    refine lv_tableIn (off := 78) (tgt := 79) C.1.1 C.1.2.1 dX1_tell_1 (by rw [h44]; decide) (by rw [h44]; decide) (by rw [h44]; rfl) (by decide) ?_
    refine lv_aload_n C.1.1 C.1.2.1 dX1_tell_79 rfl (lv_at hl 0 rfl) ?_
    refine lv_iconst (v := (2 : Int32)) C.1.1 C.1.2.1 dX1_tell_80 (by decide) ?_
    refine lv_iload_n C.1.1 C.1.2.1 dX1_tell_81 rfl (lv_at hl 2 rfl) ?_
    refine lv_iload_n C.1.1 C.1.2.1 dX1_tell_82 rfl (lv_at hl 3 rfl) ?_
    obtain ⟨r45, mem45, hc45, hf⟩ := zb_some hf
    refine z_callVv (k := 6) (As := [.int (2 : Int32), .int a2, .int a3]) (rest := []) C Z (M_X1_addPart l G C.2.1 N mem (2 : Int32) a2 a3 r45 mem45 hc45) (zcw_X1_43 C.1.2.2.2.2 ⟨Nat.le_of_ble_eq_true rfl, Nat.le_of_ble_eq_true rfl⟩) (by decide) rfl rfl rfl hl.1 rfl (Nat.le_of_ble_eq_true rfl) ⟨Nat.le_refl 0, Nat.le_refl 0⟩ dX1_tell_83 (fun H locs Z => ?_)
    refine lv_goto (tgt := 131) C.1.1 C.1.2.1 dX1_tell_86 (by decide) ?_
    cases hf
    exact z_vret C Z hr hlk dX1_tell_131
  replace hf := (if_neg h44).symm.trans hf
  by_cases h46 : a1 = 4
  · replace hf := (if_pos h46).symm.trans hf
    refine lv_tableIn (off := 88) (tgt := 89) C.1.1 C.1.2.1 dX1_tell_1 (by rw [h46]; decide) (by rw [h46]; decide) (by rw [h46]; rfl) (by decide) ?_
    refine lv_aload_n C.1.1 C.1.2.1 dX1_tell_89 rfl (lv_at hl 0 rfl) ?_
    refine lv_iconst (v := (3 : Int32)) C.1.1 C.1.2.1 dX1_tell_90 (by decide) ?_
    refine lv_iload_n C.1.1 C.1.2.1 dX1_tell_91 rfl (lv_at hl 2 rfl) ?_
    refine lv_iload_n C.1.1 C.1.2.1 dX1_tell_92 rfl (lv_at hl 3 rfl) ?_
    obtain ⟨r47, mem47, hc47, hf⟩ := zb_some hf
    refine z_callVv (k := 6) (As := [.int (3 : Int32), .int a2, .int a3]) (rest := []) C Z (M_X1_addPart l G C.2.1 N mem (3 : Int32) a2 a3 r47 mem47 hc47) (zcw_X1_43 C.1.2.2.2.2 ⟨Nat.le_of_ble_eq_true rfl, Nat.le_of_ble_eq_true rfl⟩) (by decide) rfl rfl rfl hl.1 rfl (Nat.le_of_ble_eq_true rfl) ⟨Nat.le_refl 0, Nat.le_refl 0⟩ dX1_tell_93 (fun H locs Z => ?_)
    refine lv_goto (tgt := 131) C.1.1 C.1.2.1 dX1_tell_96 (by decide) ?_
    cases hf
    exact z_vret C Z hr hlk dX1_tell_131
  replace hf := (if_neg h46).symm.trans hf
  by_cases h48 : a1 = 5
  · replace hf := (if_pos h48).symm.trans hf
    refine lv_tableIn (off := 98) (tgt := 99) C.1.1 C.1.2.1 dX1_tell_1 (by rw [h48]; decide) (by rw [h48]; decide) (by rw [h48]; rfl) (by decide) ?_
    refine lv_aload_n C.1.1 C.1.2.1 dX1_tell_99 rfl (lv_at hl 0 rfl) ?_
    refine lv_iload_n C.1.1 C.1.2.1 dX1_tell_100 rfl (lv_at hl 2 rfl) ?_
    obtain ⟨r49, mem49, hc49, hf⟩ := zb_some hf
    refine z_callVv (k := 6) (As := [.int a2]) (rest := []) C Z (M_X1_addSoul l G C.2.1 N mem a2 r49 mem49 hc49) (zcw_X1_47 C.1.2.2.2.2 ⟨Nat.le_of_ble_eq_true rfl, Nat.le_of_ble_eq_true rfl⟩) (by decide) rfl rfl rfl hl.1 rfl (Nat.le_of_ble_eq_true rfl) ⟨Nat.le_refl 0, Nat.le_refl 0⟩ dX1_tell_101 (fun H locs Z => ?_)
    refine lv_goto (tgt := 131) C.1.1 C.1.2.1 dX1_tell_104 (by decide) ?_
    cases hf
    exact z_vret C Z hr hlk dX1_tell_131
  replace hf := (if_neg h48).symm.trans hf
  by_cases h50 : a1 = 6
  · replace hf := (if_pos h50).symm.trans hf
    refine lv_tableIn (off := 106) (tgt := 107) C.1.1 C.1.2.1 dX1_tell_1 (by rw [h50]; decide) (by rw [h50]; decide) (by rw [h50]; rfl) (by decide) ?_
    refine lv_aload_n C.1.1 C.1.2.1 dX1_tell_107 rfl (lv_at hl 0 rfl) ?_
    refine lv_iload_n C.1.1 C.1.2.1 dX1_tell_108 rfl (lv_at hl 2 rfl) ?_
    refine zp_X1_34 C Z dX1_tell_109 (fun H locs Z => ?_)
    obtain ⟨mem51, hm51, hf⟩ := zlet_some hf
    rw [← hm51] at Z
    refine lv_goto (tgt := 131) C.1.1 C.1.2.1 dX1_tell_112 (by decide) ?_
    cases hf
    exact z_vret C Z hr hlk dX1_tell_131
  replace hf := (if_neg h50).symm.trans hf
  by_cases h52 : a1 = 7
  · replace hf := (if_pos h52).symm.trans hf
    refine lv_tableIn (off := 114) (tgt := 115) C.1.1 C.1.2.1 dX1_tell_1 (by rw [h52]; decide) (by rw [h52]; decide) (by rw [h52]; rfl) (by decide) ?_
    refine lv_aload_n C.1.1 C.1.2.1 dX1_tell_115 rfl (lv_at hl 0 rfl) ?_
    refine lv_iload_n C.1.1 C.1.2.1 dX1_tell_116 rfl (lv_at hl 2 rfl) ?_
    refine zp_X1_37 C Z dX1_tell_117 (fun H locs Z => ?_)
    obtain ⟨mem53, hm53, hf⟩ := zlet_some hf
    rw [← hm53] at Z
    refine lv_goto (tgt := 131) C.1.1 C.1.2.1 dX1_tell_120 (by decide) ?_
    cases hf
    exact z_vret C Z hr hlk dX1_tell_131
  replace hf := (if_neg h52).symm.trans hf
  by_cases h54 : a1 = 8
  · replace hf := (if_pos h54).symm.trans hf
    refine lv_tableIn (off := 122) (tgt := 123) C.1.1 C.1.2.1 dX1_tell_1 (by rw [h54]; decide) (by rw [h54]; decide) (by rw [h54]; rfl) (by decide) ?_
    refine lv_aload_n C.1.1 C.1.2.1 dX1_tell_123 rfl (lv_at hl 0 rfl) ?_
    refine lv_iload_n C.1.1 C.1.2.1 dX1_tell_124 rfl (lv_at hl 2 rfl) ?_
    refine zp_X1_40 C Z dX1_tell_125 (fun H locs Z => ?_)
    obtain ⟨mem55, hm55, hf⟩ := zlet_some hf
    rw [← hm55] at Z
    refine lv_goto (tgt := 131) C.1.1 C.1.2.1 dX1_tell_128 (by decide) ?_
    cases hf
    exact z_vret C Z hr hlk dX1_tell_131
  replace hf := (if_neg h54).symm.trans hf
  have eh38 := lv_neT h38 (a := 0) rfl
  have eh40 := lv_neT h40 (a := 1) rfl
  have eh42 := lv_neT h42 (a := 2) rfl
  have eh44 := lv_neT h44 (a := 3) rfl
  have eh46 := lv_neT h46 (a := 4) rfl
  have eh48 := lv_neT h48 (a := 5) rfl
  have eh50 := lv_neT h50 (a := 6) rfl
  have eh52 := lv_neT h52 (a := 7) rfl
  have eh54 := lv_neT h54 (a := 8) rfl
  refine lv_tableOut (tgt := 131) C.1.1 C.1.2.1 dX1_tell_1 (by omega) (by decide) ?_
  cases hf
  exact z_vret C Z hr hlk dX1_tell_131
set_option maxHeartbeats 4000000 in
set_option maxRecDepth 100000 in
theorem M_X4_isIn (l : Launch) (G : zG) (hG : zOK G) (N : Nat) (mem : zMem) (a1 : Int32) (a2 : Int32) (r : Int32) (mem' : zMem) (hf : f_X4_isIn N mem a1 a2 = some (r, mem')) : zM l G yX4_isIn cX4_isIn 2 (some .boolean) 0 0 [.int a1, .int a2] mem (zQi G r mem') := by
  refine zStart hG (by decide +kernel) (Nat.le_of_ble_eq_true rfl) (fun p e s m below meth c C hr hlk ls hl Z => ?_)
  have hl : lv_has ls 2 [(0, .int a1), (1, .int a2)] := hl
  have C : zC (zAd G) G p s m _ c cX4_isIn 2 RX4 := C
  unfold f_X4_isIn at hf
  refine lv_iload_n C.1.1 C.1.2.1 dX4_isIn_0 rfl (lv_at hl 1 rfl) ?_
  refine lv_iload_n C.1.1 C.1.2.1 dX4_isIn_1 rfl (lv_at hl 0 rfl) ?_
  refine lv_ishr C.1.1 C.1.2.1 dX4_isIn_2 ?_
  refine lv_iconst (v := (1 : Int32)) C.1.1 C.1.2.1 dX4_isIn_3 (by decide) ?_
  refine lv_iand C.1.1 C.1.2.1 dX4_isIn_4 ?_
  refine lv_iconst (v := (1 : Int32)) C.1.1 C.1.2.1 dX4_isIn_5 (by decide) ?_
  refine lv_icmp_ne (tgt := 13) C.1.1 C.1.2.1 dX4_isIn_6 (by decide) (fun h56 => ?_) (fun h56 => ?_)
  · replace hf := (if_neg h56).symm.trans hf
    refine lv_iconst (v := (0 : Int32)) C.1.1 C.1.2.1 dX4_isIn_13 (by decide) ?_
    cases hf
    exact z_zret C Z hr hlk (by decide) dX4_isIn_14
  · replace hf := (if_pos h56).symm.trans hf
    refine lv_iconst (v := (1 : Int32)) C.1.1 C.1.2.1 dX4_isIn_9 (by decide) ?_
    refine lv_goto (tgt := 14) C.1.1 C.1.2.1 dX4_isIn_10 (by decide) ?_
    cases hf
    exact z_zret C Z hr hlk (by decide) dX4_isIn_14
set_option maxHeartbeats 4000000 in
set_option maxRecDepth 100000 in
theorem M_X4_ouncesOf (l : Launch) (G : zG) (hG : zOK G) (N : Nat) (mem : zMem) (a1 : Int32) (a2 : Int32) (a3 : Int32) (r : Int32) (mem' : zMem) (hf : f_X4_ouncesOf N mem a1 a2 a3 = some (r, mem')) : zM l G yX4_ouncesOf cX4_ouncesOf 3 (some .int) 0 0 [.int a1, .int a2, .int a3] mem (zQi G r mem') := by
  refine zStart hG (by decide +kernel) (Nat.le_of_ble_eq_true rfl) (fun p e s m below meth c C hr hlk ls hl Z => ?_)
  have hl : lv_has ls 3 [(0, .int a1), (1, .int a2), (2, .int a3)] := hl
  have C : zC (zAd G) G p s m _ c cX4_ouncesOf 3 RX4 := C
  unfold f_X4_ouncesOf at hf
  refine lv_iload_n C.1.1 C.1.2.1 dX4_ouncesOf_0 rfl (lv_at hl 0 rfl) ?_
  by_cases h57 : a1 = 1
  · replace hf := (if_pos h57).symm.trans hf
    refine lv_tableIn (off := 27) (tgt := 28) C.1.1 C.1.2.1 dX4_ouncesOf_1 (by rw [h57]; decide) (by rw [h57]; decide) (by rw [h57]; rfl) (by decide) ?_
    refine lv_iload_n C.1.1 C.1.2.1 dX4_ouncesOf_28 rfl (lv_at hl 1 rfl) ?_
    refine lv_iload_n C.1.1 C.1.2.1 dX4_ouncesOf_29 rfl (lv_at hl 2 rfl) ?_
    refine lv_iadd C.1.1 C.1.2.1 dX4_ouncesOf_30 ?_
    cases hf
    exact z_iret C Z hr hlk dX4_ouncesOf_31
  replace hf := (if_neg h57).symm.trans hf
  by_cases h58 : a1 = 2
  · replace hf := (if_pos h58).symm.trans hf
    refine lv_tableIn (off := 31) (tgt := 32) C.1.1 C.1.2.1 dX4_ouncesOf_1 (by rw [h58]; decide) (by rw [h58]; decide) (by rw [h58]; rfl) (by decide) ?_
    refine lv_iload_n C.1.1 C.1.2.1 dX4_ouncesOf_32 rfl (lv_at hl 1 rfl) ?_
    refine lv_iconst (v := (2 : Int32)) C.1.1 C.1.2.1 dX4_ouncesOf_33 (by decide) ?_
    refine lv_idiv C.1.1 C.1.2.1 dX4_ouncesOf_34 (by decide) ?_
    cases hf
    exact z_iret C Z hr hlk dX4_ouncesOf_35
  replace hf := (if_neg h58).symm.trans hf
  by_cases h59 : a1 = 3
  · replace hf := (if_pos h59).symm.trans hf
    refine lv_tableIn (off := 35) (tgt := 36) C.1.1 C.1.2.1 dX4_ouncesOf_1 (by rw [h59]; decide) (by rw [h59]; decide) (by rw [h59]; rfl) (by decide) ?_
    refine lv_iconst (v := (0 : Int32)) C.1.1 C.1.2.1 dX4_ouncesOf_36 (by decide) ?_
    cases hf
    exact z_iret C Z hr hlk dX4_ouncesOf_37
  replace hf := (if_neg h59).symm.trans hf
  have eh57 := lv_neT h57 (a := 1) rfl
  have eh58 := lv_neT h58 (a := 2) rfl
  have eh59 := lv_neT h59 (a := 3) rfl
  refine lv_tableOut (tgt := 38) C.1.1 C.1.2.1 dX4_ouncesOf_1 (by omega) (by decide) ?_
  refine lv_iload_n C.1.1 C.1.2.1 dX4_ouncesOf_38 rfl (lv_at hl 1 rfl) ?_
  cases hf
  exact z_iret C Z hr hlk dX4_ouncesOf_39
set_option maxHeartbeats 4000000 in
set_option maxRecDepth 100000 in
theorem K_X1_ouncesOfSet_5 {p : Program} {l : Launch} {e : Env} {s : State} {m : MethodId} {args : Array Value} {below : List Frame} {meth : Method} {c : Code} {G : zG} (C : zC (zAd G) G p s m args c cX1_ouncesOfSet 5 RX1) (hr : meth.sig.returnType = (some .int)) (hlk : meth.locks = false) {r : Int32} {mem' : zMem} (N : Nat) : ∀ (n : Nat) (mem : zMem) (x1 : Int32) (x2 : Int32) (x3 : Int32) (x4 : Int32) (H : Heap) (locs : List Loc) (ls : Array Slot), zH (zAd G) G s mem H locs → lv_has ls 5 [(0, .ref (zr G 6)), (1, .int x1), (2, .int x2), (3, .int x3), (4, .int x4)] → f_X1_ouncesOfSet_5 N n mem x1 x2 x3 x4 = some (r, mem') → W p l e ({ frames := 1, cells := 0, slots := 0, locals := 22 } : Room) s m args below meth c H locs 0 0 (MQ below (zQi G r mem') args s 0 0 (zAd G)) (F0 m 5 ls []) := by
  intro n
  induction n with
  | zero =>
    intro mem x1 x2 x3 x4 H locs ls Z hl hf
    rw [f_X1_ouncesOfSet_5.eq_1] at hf
    cases hf
  | succ n ih =>
    intro mem x1 x2 x3 x4 H locs ls Z hl hf
    rw [f_X1_ouncesOfSet_5.eq_2] at hf
    refine lv_iload C.1.1 C.1.2.1 dX1_ouncesOfSet_5 (lv_at hl 4 rfl) ?_
    refine lv_aload_n C.1.1 C.1.2.1 dX1_ouncesOfSet_7 rfl (lv_at hl 0 rfl) ?_
    refine zg_X1_27 C Z dX1_ouncesOfSet_8 ?_
    refine lv_icmp_ge (tgt := 50) C.1.1 C.1.2.1 dX1_ouncesOfSet_11 (by decide) (fun h60 => ?_) (fun h60 => ?_)
    · replace hf := (if_pos h60).symm.trans hf
      refine lv_iload_n C.1.1 C.1.2.1 dX1_ouncesOfSet_50 rfl (lv_at hl 3 rfl) ?_
      cases hf
      exact z_iret C Z hr hlk dX1_ouncesOfSet_51
    · replace hf := (if_neg h60).symm.trans hf
      refine lv_iload C.1.1 C.1.2.1 dX1_ouncesOfSet_14 (lv_at hl 4 rfl) ?_
      refine lv_iload_n C.1.1 C.1.2.1 dX1_ouncesOfSet_16 rfl (lv_at hl 1 rfl) ?_
      obtain ⟨r61, mem61, hc61, hf⟩ := zb_some hf
      refine z_callNi (As := [.int x4, .int x1]) (rest := []) C Z (M_X4_isIn l G C.2.1 N mem x4 x1 r61 mem61 hc61) (zcw_X1_51 C.1.2.2.2.2 (C.2.2.2.2.2.2.2.2.2.2.2.2.1) ⟨Nat.le_of_ble_eq_true rfl, Nat.le_of_ble_eq_true rfl⟩) rfl hl.1 rfl (Nat.le_of_ble_eq_true rfl) ⟨Nat.le_refl 0, Nat.le_refl 0⟩ dX1_ouncesOfSet_17 (fun H locs Z => ?_)
      refine lv_if_eq (tgt := 44) C.1.1 C.1.2.1 dX1_ouncesOfSet_20 (by decide) (fun h62 => ?_) (fun h62 => ?_)
      · replace hf := (if_pos h62).symm.trans hf
        refine lv_iinc (v := (x4 + 1)) (lv' := [(4, .int (x4 + 1)), (0, .ref (zr G 6)), (1, .int x1), (2, .int x2), (3, .int x3)]) C.1.1 C.1.2.1 dX1_ouncesOfSet_44 hl (k := 4) rfl rfl (by decide) rfl (fun ls hl => ?_)
        refine lv_goto (tgt := 5) C.1.1 C.1.2.1 dX1_ouncesOfSet_47 (by decide) ?_
        exact ih mem61 x1 x2 x3 (x4 + 1) _ _ _ Z (lv_sub hl [1, 2, 3, 4, 0] rfl) hf
      · replace hf := (if_neg h62).symm.trans hf
        refine lv_iload_n C.1.1 C.1.2.1 dX1_ouncesOfSet_23 rfl (lv_at hl 3 rfl) ?_
        refine lv_aload_n C.1.1 C.1.2.1 dX1_ouncesOfSet_24 rfl (lv_at hl 0 rfl) ?_
        refine zg_X1_9 C Z dX1_ouncesOfSet_25 ?_
        refine lv_iload C.1.1 C.1.2.1 dX1_ouncesOfSet_28 (lv_at hl 4 rfl) ?_
        obtain ⟨hi63, hf⟩ := zgd_some hf
        refine z_iald (k := 7) C Z (by decide) rfl hi63 dX1_ouncesOfSet_30 ?_
        refine lv_aload_n C.1.1 C.1.2.1 dX1_ouncesOfSet_31 rfl (lv_at hl 0 rfl) ?_
        refine zg_X1_15 C Z dX1_ouncesOfSet_32 ?_
        refine lv_iload C.1.1 C.1.2.1 dX1_ouncesOfSet_35 (lv_at hl 4 rfl) ?_
        obtain ⟨hi64, hf⟩ := zgd_some hf
        refine z_iald (k := 8) C Z (by decide) rfl hi64 dX1_ouncesOfSet_37 ?_
        refine lv_iload_n C.1.1 C.1.2.1 dX1_ouncesOfSet_38 rfl (lv_at hl 2 rfl) ?_
        obtain ⟨r65, mem65, hc65, hf⟩ := zb_some hf
        refine z_callNi (As := [.int (mem61 7 x4.toNatClampNeg), .int (mem61 8 x4.toNatClampNeg), .int x2]) (rest := [.int x3]) C Z (M_X4_ouncesOf l G C.2.1 N mem61 (mem61 7 x4.toNatClampNeg) (mem61 8 x4.toNatClampNeg) x2 r65 mem65 hc65) (zcw_X1_55 C.1.2.2.2.2 (C.2.2.2.2.2.2.2.2.2.2.2.2.2.1) ⟨Nat.le_of_ble_eq_true rfl, Nat.le_of_ble_eq_true rfl⟩) rfl hl.1 rfl (Nat.le_of_ble_eq_true rfl) ⟨Nat.le_refl 0, Nat.le_refl 0⟩ dX1_ouncesOfSet_39 (fun H locs Z => ?_)
        refine lv_iadd C.1.1 C.1.2.1 dX1_ouncesOfSet_42 ?_
        refine lv_istore_n (lv' := [(3, .int (x3 + r65)), (0, .ref (zr G 6)), (1, .int x1), (2, .int x2), (4, .int x4)]) C.1.1 C.1.2.1 dX1_ouncesOfSet_43 rfl hl (by decide) rfl (fun ls hl => ?_)
        refine lv_iinc (v := (x4 + 1)) (lv' := [(4, .int (x4 + 1)), (3, .int (x3 + r65)), (0, .ref (zr G 6)), (1, .int x1), (2, .int x2)]) C.1.1 C.1.2.1 dX1_ouncesOfSet_44 hl (k := 4) rfl rfl (by decide) rfl (fun ls hl => ?_)
        refine lv_goto (tgt := 5) C.1.1 C.1.2.1 dX1_ouncesOfSet_47 (by decide) ?_
        exact ih mem65 x1 x2 (x3 + r65) (x4 + 1) _ _ _ Z (lv_sub hl [2, 3, 4, 1, 0] rfl) hf
set_option maxHeartbeats 4000000 in
set_option maxRecDepth 100000 in
theorem M_X1_ouncesOfSet (l : Launch) (G : zG) (hG : zOK G) (N : Nat) (mem : zMem) (a1 : Int32) (a2 : Int32) (r : Int32) (mem' : zMem) (hf : f_X1_ouncesOfSet N mem a1 a2 = some (r, mem')) : zM l G yX1_ouncesOfSet cX1_ouncesOfSet 5 (some .int) 1 22 [.ref (zr G 6), .int a1, .int a2] mem (zQi G r mem') := by
  refine zStart hG (by decide +kernel) (Nat.le_of_ble_eq_true rfl) (fun p e s m below meth c C hr hlk ls hl Z => ?_)
  have hl : lv_has ls 5 [(0, .ref (zr G 6)), (1, .int a1), (2, .int a2)] := hl
  have C : zC (zAd G) G p s m _ c cX1_ouncesOfSet 5 RX1 := C
  unfold f_X1_ouncesOfSet at hf
  refine lv_iconst (v := (0 : Int32)) C.1.1 C.1.2.1 dX1_ouncesOfSet_0 (by decide) ?_
  refine lv_istore_n (lv' := [(3, .int (0 : Int32)), (0, .ref (zr G 6)), (1, .int a1), (2, .int a2)]) C.1.1 C.1.2.1 dX1_ouncesOfSet_1 rfl hl (by decide) rfl (fun ls hl => ?_)
  refine lv_iconst (v := (0 : Int32)) C.1.1 C.1.2.1 dX1_ouncesOfSet_2 (by decide) ?_
  refine lv_istore (lv' := [(4, .int (0 : Int32)), (3, .int (0 : Int32)), (0, .ref (zr G 6)), (1, .int a1), (2, .int a2)]) C.1.1 C.1.2.1 dX1_ouncesOfSet_3 hl (by decide) rfl (fun ls hl => ?_)
  exact K_X1_ouncesOfSet_5 (l := l) (e := e) (below := below) C hr hlk N N mem a1 a2 (0 : Int32) (0 : Int32) _ _ _ Z (lv_sub hl [2, 3, 4, 1, 0] rfl) hf
set_option maxHeartbeats 4000000 in
set_option maxRecDepth 100000 in
theorem K_X1_minutesOf_4 {p : Program} {l : Launch} {e : Env} {s : State} {m : MethodId} {args : Array Value} {below : List Frame} {meth : Method} {c : Code} {G : zG} (C : zC (zAd G) G p s m args c cX1_minutesOf 4 RX1) (hr : meth.sig.returnType = (some .int)) (hlk : meth.locks = false) {r : Int32} {mem' : zMem} (N : Nat) : ∀ (n : Nat) (mem : zMem) (x1 : Int32) (x2 : Int32) (x3 : Int32) (H : Heap) (locs : List Loc) (ls : Array Slot), zH (zAd G) G s mem H locs → lv_has ls 4 [(0, .ref (zr G 6)), (1, .int x1), (2, .int x2), (3, .int x3)] → f_X1_minutesOf_4 N n mem x1 x2 x3 = some (r, mem') → W p l e ({ frames := 1, cells := 0, slots := 0, locals := 21 } : Room) s m args below meth c H locs 0 0 (MQ below (zQi G r mem') args s 0 0 (zAd G)) (F0 m 4 ls []) := by
  intro n
  induction n with
  | zero =>
    intro mem x1 x2 x3 H locs ls Z hl hf
    rw [f_X1_minutesOf_4.eq_1] at hf
    cases hf
  | succ n ih =>
    intro mem x1 x2 x3 H locs ls Z hl hf
    rw [f_X1_minutesOf_4.eq_2] at hf
    refine lv_iload_n C.1.1 C.1.2.1 dX1_minutesOf_4 rfl (lv_at hl 3 rfl) ?_
    refine lv_aload_n C.1.1 C.1.2.1 dX1_minutesOf_5 rfl (lv_at hl 0 rfl) ?_
    refine zg_X1_27 C Z dX1_minutesOf_6 ?_
    refine lv_icmp_ge (tgt := 35) C.1.1 C.1.2.1 dX1_minutesOf_9 (by decide) (fun h66 => ?_) (fun h66 => ?_)
    · replace hf := (if_pos h66).symm.trans hf
      refine lv_iload_n C.1.1 C.1.2.1 dX1_minutesOf_35 rfl (lv_at hl 2 rfl) ?_
      cases hf
      exact z_iret C Z hr hlk dX1_minutesOf_36
    · replace hf := (if_neg h66).symm.trans hf
      refine lv_iload_n C.1.1 C.1.2.1 dX1_minutesOf_12 rfl (lv_at hl 3 rfl) ?_
      refine lv_iload_n C.1.1 C.1.2.1 dX1_minutesOf_13 rfl (lv_at hl 1 rfl) ?_
      obtain ⟨r67, mem67, hc67, hf⟩ := zb_some hf
      refine z_callNi (As := [.int x3, .int x1]) (rest := []) C Z (M_X4_isIn l G C.2.1 N mem x3 x1 r67 mem67 hc67) (zcw_X1_51 C.1.2.2.2.2 (C.2.2.2.2.2.2.2.2.2.2.2.2.1) ⟨Nat.le_of_ble_eq_true rfl, Nat.le_of_ble_eq_true rfl⟩) rfl hl.1 rfl (Nat.le_of_ble_eq_true rfl) ⟨Nat.le_refl 0, Nat.le_refl 0⟩ dX1_minutesOf_14 (fun H locs Z => ?_)
      refine lv_if_eq (tgt := 29) C.1.1 C.1.2.1 dX1_minutesOf_17 (by decide) (fun h68 => ?_) (fun h68 => ?_)
      · replace hf := (if_pos h68).symm.trans hf
        refine lv_iinc (v := (x3 + 1)) (lv' := [(3, .int (x3 + 1)), (0, .ref (zr G 6)), (1, .int x1), (2, .int x2)]) C.1.1 C.1.2.1 dX1_minutesOf_29 hl (k := 3) rfl rfl (by decide) rfl (fun ls hl => ?_)
        refine lv_goto (tgt := 4) C.1.1 C.1.2.1 dX1_minutesOf_32 (by decide) ?_
        exact ih mem67 x1 x2 (x3 + 1) _ _ _ Z (lv_sub hl [1, 2, 3, 0] rfl) hf
      · replace hf := (if_neg h68).symm.trans hf
        refine lv_iload_n C.1.1 C.1.2.1 dX1_minutesOf_20 rfl (lv_at hl 2 rfl) ?_
        refine lv_aload_n C.1.1 C.1.2.1 dX1_minutesOf_21 rfl (lv_at hl 0 rfl) ?_
        refine zg_X1_18 C Z dX1_minutesOf_22 ?_
        refine lv_iload_n C.1.1 C.1.2.1 dX1_minutesOf_25 rfl (lv_at hl 3 rfl) ?_
        obtain ⟨hi69, hf⟩ := zgd_some hf
        refine z_iald (k := 9) C Z (by decide) rfl hi69 dX1_minutesOf_26 ?_
        refine lv_iadd C.1.1 C.1.2.1 dX1_minutesOf_27 ?_
        refine lv_istore_n (lv' := [(2, .int (x2 + (mem67 9 x3.toNatClampNeg))), (0, .ref (zr G 6)), (1, .int x1), (3, .int x3)]) C.1.1 C.1.2.1 dX1_minutesOf_28 rfl hl (by decide) rfl (fun ls hl => ?_)
        refine lv_iinc (v := (x3 + 1)) (lv' := [(3, .int (x3 + 1)), (2, .int (x2 + (mem67 9 x3.toNatClampNeg))), (0, .ref (zr G 6)), (1, .int x1)]) C.1.1 C.1.2.1 dX1_minutesOf_29 hl (k := 3) rfl rfl (by decide) rfl (fun ls hl => ?_)
        refine lv_goto (tgt := 4) C.1.1 C.1.2.1 dX1_minutesOf_32 (by decide) ?_
        exact ih mem67 x1 (x2 + (mem67 9 x3.toNatClampNeg)) (x3 + 1) _ _ _ Z (lv_sub hl [2, 3, 1, 0] rfl) hf
set_option maxHeartbeats 4000000 in
set_option maxRecDepth 100000 in
theorem M_X1_minutesOf (l : Launch) (G : zG) (hG : zOK G) (N : Nat) (mem : zMem) (a1 : Int32) (r : Int32) (mem' : zMem) (hf : f_X1_minutesOf N mem a1 = some (r, mem')) : zM l G yX1_minutesOf cX1_minutesOf 4 (some .int) 1 21 [.ref (zr G 6), .int a1] mem (zQi G r mem') := by
  refine zStart hG (by decide +kernel) (Nat.le_of_ble_eq_true rfl) (fun p e s m below meth c C hr hlk ls hl Z => ?_)
  have hl : lv_has ls 4 [(0, .ref (zr G 6)), (1, .int a1)] := hl
  have C : zC (zAd G) G p s m _ c cX1_minutesOf 4 RX1 := C
  unfold f_X1_minutesOf at hf
  refine lv_iconst (v := (0 : Int32)) C.1.1 C.1.2.1 dX1_minutesOf_0 (by decide) ?_
  refine lv_istore_n (lv' := [(2, .int (0 : Int32)), (0, .ref (zr G 6)), (1, .int a1)]) C.1.1 C.1.2.1 dX1_minutesOf_1 rfl hl (by decide) rfl (fun ls hl => ?_)
  refine lv_iconst (v := (0 : Int32)) C.1.1 C.1.2.1 dX1_minutesOf_2 (by decide) ?_
  refine lv_istore_n (lv' := [(3, .int (0 : Int32)), (2, .int (0 : Int32)), (0, .ref (zr G 6)), (1, .int a1)]) C.1.1 C.1.2.1 dX1_minutesOf_3 rfl hl (by decide) rfl (fun ls hl => ?_)
  exact K_X1_minutesOf_4 (l := l) (e := e) (below := below) C hr hlk N N mem a1 (0 : Int32) (0 : Int32) _ _ _ Z (lv_sub hl [2, 3, 1, 0] rfl) hf
set_option maxHeartbeats 4000000 in
set_option maxRecDepth 100000 in
theorem M_X2_add (l : Launch) (G : zG) (hG : zOK G) (N : Nat) (mem : zMem) (a1 : Int32) (r : Int32) (mem' : zMem) (hf : f_X2_add N mem a1 = some (r, mem')) : zM l G yX2_add cX2_add 2 (some .boolean) 0 0 [.ref (zr G 1), .int a1] mem (zQi G r mem') := by
  refine zStart hG (by decide +kernel) (Nat.le_of_ble_eq_true rfl) (fun p e s m below meth c C hr hlk ls hl Z => ?_)
  have hl : lv_has ls 2 [(0, .ref (zr G 1)), (1, .int a1)] := hl
  have C : zC (zAd G) G p s m _ c cX2_add 2 RX2 := C
  unfold f_X2_add at hf
  refine lv_aload_n C.1.1 C.1.2.1 dX2_add_0 rfl (lv_at hl 0 rfl) ?_
  refine zg_X2_24 C Z dX2_add_1 ?_
  refine lv_sipush (v := (160 : Int32)) C.1.1 C.1.2.1 dX2_add_4 (by decide) ?_
  refine lv_icmp_lt (tgt := 12) C.1.1 C.1.2.1 dX2_add_7 (by decide) (fun h70 => ?_) (fun h70 => ?_)
  · replace hf := (if_pos h70).symm.trans hf
    refine lv_aload_n C.1.1 C.1.2.1 dX2_add_12 rfl (lv_at hl 0 rfl) ?_
    refine zg_X2_9 C Z dX2_add_13 ?_
    refine lv_aload_n C.1.1 C.1.2.1 dX2_add_16 rfl (lv_at hl 0 rfl) ?_
    refine zg_X2_24 C Z dX2_add_17 ?_
    refine lv_iload_n C.1.1 C.1.2.1 dX2_add_20 rfl (lv_at hl 1 rfl) ?_
    obtain ⟨hi71, hf⟩ := zgd_some hf
    refine z_iast (k := 2) C Z (by decide) (fun _ => rfl) hi71 dX2_add_21 (fun H locs Z => ?_)
    obtain ⟨mem72, hm72, hf⟩ := zlet_some hf
    rw [← hm72] at Z
    refine lv_aload_n C.1.1 C.1.2.1 dX2_add_22 rfl (lv_at hl 0 rfl) ?_
    refine lv_dup C.1.1 C.1.2.1 dX2_add_23 rfl ?_
    refine zg_X2_24 C Z dX2_add_24 ?_
    refine lv_iconst (v := (1 : Int32)) C.1.1 C.1.2.1 dX2_add_27 (by decide) ?_
    refine lv_iadd C.1.1 C.1.2.1 dX2_add_28 ?_
    refine zp_X2_24 C Z dX2_add_29 (fun H locs Z => ?_)
    obtain ⟨mem73, hm73, hf⟩ := zlet_some hf
    rw [← hm73] at Z
    refine lv_iconst (v := (1 : Int32)) C.1.1 C.1.2.1 dX2_add_32 (by decide) ?_
    cases hf
    exact z_zret C Z hr hlk (by decide) dX2_add_33
  · replace hf := (if_neg h70).symm.trans hf
    refine lv_iconst (v := (0 : Int32)) C.1.1 C.1.2.1 dX2_add_10 (by decide) ?_
    cases hf
    exact z_zret C Z hr hlk (by decide) dX2_add_11
set_option maxHeartbeats 4000000 in
set_option maxRecDepth 100000 in
theorem M_X4_isWithin (l : Launch) (G : zG) (hG : zOK G) (N : Nat) (mem : zMem) (a1 : Int32) (a2 : Int32) (a3 : Int32) (r : Int32) (mem' : zMem) (hf : f_X4_isWithin N mem a1 a2 a3 = some (r, mem')) : zM l G yX4_isWithin cX4_isWithin 3 (some .boolean) 0 0 [.int a1, .int a2, .int a3] mem (zQi G r mem') := by
  refine zStart hG (by decide +kernel) (Nat.le_of_ble_eq_true rfl) (fun p e s m below meth c C hr hlk ls hl Z => ?_)
  have hl : lv_has ls 3 [(0, .int a1), (1, .int a2), (2, .int a3)] := hl
  have C : zC (zAd G) G p s m _ c cX4_isWithin 3 RX4 := C
  unfold f_X4_isWithin at hf
  refine lv_iload_n C.1.1 C.1.2.1 dX4_isWithin_0 rfl (lv_at hl 0 rfl) ?_
  refine lv_iload_n C.1.1 C.1.2.1 dX4_isWithin_1 rfl (lv_at hl 1 rfl) ?_
  refine lv_icmp_lt (tgt := 14) C.1.1 C.1.2.1 dX4_isWithin_2 (by decide) (fun h74 => ?_) (fun h74 => ?_)
  · replace hf := (if_pos h74).symm.trans hf
    refine lv_iconst (v := (0 : Int32)) C.1.1 C.1.2.1 dX4_isWithin_14 (by decide) ?_
    cases hf
    exact z_zret C Z hr hlk (by decide) dX4_isWithin_15
  · replace hf := (if_neg h74).symm.trans hf
    refine lv_iload_n C.1.1 C.1.2.1 dX4_isWithin_5 rfl (lv_at hl 0 rfl) ?_
    refine lv_iload_n C.1.1 C.1.2.1 dX4_isWithin_6 rfl (lv_at hl 2 rfl) ?_
    refine lv_icmp_gt (tgt := 14) C.1.1 C.1.2.1 dX4_isWithin_7 (by decide) (fun h75 => ?_) (fun h75 => ?_)
    · replace hf := (if_pos h75).symm.trans hf
      refine lv_iconst (v := (0 : Int32)) C.1.1 C.1.2.1 dX4_isWithin_14 (by decide) ?_
      cases hf
      exact z_zret C Z hr hlk (by decide) dX4_isWithin_15
    · replace hf := (if_neg h75).symm.trans hf
      refine lv_iconst (v := (1 : Int32)) C.1.1 C.1.2.1 dX4_isWithin_10 (by decide) ?_
      refine lv_goto (tgt := 15) C.1.1 C.1.2.1 dX4_isWithin_11 (by decide) ?_
      cases hf
      exact z_zret C Z hr hlk (by decide) dX4_isWithin_15
set_option maxHeartbeats 4000000 in
set_option maxRecDepth 100000 in
theorem K_X2_endOfRow_3 {p : Program} {l : Launch} {e : Env} {s : State} {m : MethodId} {args : Array Value} {below : List Frame} {meth : Method} {c : Code} {G : zG} (C : zC (zAd G) G p s m args c cX2_endOfRow 5 RX2) (hr : meth.sig.returnType = (some .int)) (hlk : meth.locks = false) {r : Int32} {mem' : zMem} (N : Nat) : ∀ (n : Nat) (mem : zMem) (x2 : Int32) (x3 : Int32) (x4 : Int32) (H : Heap) (locs : List Loc) (ls : Array Slot), zH (zAd G) G s mem H locs → lv_has ls 5 [(0, .ref (zr G 1)), (2, .int x2), (3, .int x3), (4, .int x4)] → f_X2_endOfRow_3 N n mem x2 x3 x4 = some (r, mem') → W p l e ({ frames := 1, cells := 0, slots := 0, locals := 22 } : Room) s m args below meth c H locs 0 0 (MQ below (zQi G r mem') args s 0 0 (zAd G)) (F0 m 3 ls []) := by
  intro n
  induction n with
  | zero =>
    intro mem x2 x3 x4 H locs ls Z hl hf
    rw [f_X2_endOfRow_3.eq_1] at hf
    cases hf
  | succ n ih =>
    intro mem x2 x3 x4 H locs ls Z hl hf
    rw [f_X2_endOfRow_3.eq_2] at hf
    refine lv_iload C.1.1 C.1.2.1 dX2_endOfRow_3 (lv_at hl 3 rfl) ?_
    refine lv_aload_n C.1.1 C.1.2.1 dX2_endOfRow_5 rfl (lv_at hl 0 rfl) ?_
    refine zg_X2_24 C Z dX2_endOfRow_6 ?_
    refine lv_icmp_ge (tgt := 33) C.1.1 C.1.2.1 dX2_endOfRow_9 (by decide) (fun h76 => ?_) (fun h76 => ?_)
    · replace hf := (if_pos h76).symm.trans hf
      refine lv_iload C.1.1 C.1.2.1 dX2_endOfRow_33 (lv_at hl 3 rfl) ?_
      cases hf
      exact z_iret C Z hr hlk dX2_endOfRow_35
    · replace hf := (if_neg h76).symm.trans hf
      refine lv_aload_n C.1.1 C.1.2.1 dX2_endOfRow_12 rfl (lv_at hl 0 rfl) ?_
      refine zg_X2_9 C Z dX2_endOfRow_13 ?_
      refine lv_iload C.1.1 C.1.2.1 dX2_endOfRow_16 (lv_at hl 3 rfl) ?_
      obtain ⟨hi77, hf⟩ := zgd_some hf
      refine z_iald (k := 2) C Z (by decide) rfl hi77 dX2_endOfRow_18 ?_
      refine lv_iload_n C.1.1 C.1.2.1 dX2_endOfRow_19 rfl (lv_at hl 1 rfl) ?_
      refine lv_iload_n C.1.1 C.1.2.1 dX2_endOfRow_20 rfl (lv_at hl 2 rfl) ?_
      obtain ⟨r78, mem78, hc78, hf⟩ := zb_some hf
      refine z_callNi (As := [.int (mem 2 x4.toNatClampNeg), .int x2, .int x3]) (rest := []) C Z (M_X4_isWithin l G C.2.1 N mem (mem 2 x4.toNatClampNeg) x2 x3 r78 mem78 hc78) (zcw_X2_65 C.1.2.2.2.2 (C.2.2.2.2.2.2.2.2.2.2.2.1) ⟨Nat.le_of_ble_eq_true rfl, Nat.le_of_ble_eq_true rfl⟩) rfl hl.1 rfl (Nat.le_of_ble_eq_true rfl) ⟨Nat.le_refl 0, Nat.le_refl 0⟩ dX2_endOfRow_21 (fun H locs Z => ?_)
      refine lv_if_eq (tgt := 33) C.1.1 C.1.2.1 dX2_endOfRow_24 (by decide) (fun h79 => ?_) (fun h79 => ?_)
      · replace hf := (if_pos h79).symm.trans hf
        refine lv_iload C.1.1 C.1.2.1 dX2_endOfRow_33 (lv_at hl 3 rfl) ?_
        cases hf
        exact z_iret C Z hr hlk dX2_endOfRow_35
      · replace hf := (if_neg h79).symm.trans hf
        refine lv_iinc (v := (x4 + 1)) (lv' := [(4, .int (x4 + 1)), (0, .ref (zr G 1)), (2, .int x2), (3, .int x3)]) C.1.1 C.1.2.1 dX2_endOfRow_27 hl (k := 3) rfl rfl (by decide) rfl (fun ls hl => ?_)
        refine lv_goto (tgt := 3) C.1.1 C.1.2.1 dX2_endOfRow_30 (by decide) ?_
        exact ih mem78 x2 x3 (x4 + 1) _ _ _ Z (lv_sub hl [1, 2, 3, 0] rfl) hf
set_option maxHeartbeats 4000000 in
set_option maxRecDepth 100000 in
theorem M_X2_endOfRow (l : Launch) (G : zG) (hG : zOK G) (N : Nat) (mem : zMem) (a1 : Int32) (a2 : Int32) (a3 : Int32) (r : Int32) (mem' : zMem) (hf : f_X2_endOfRow N mem a1 a2 a3 = some (r, mem')) : zM l G yX2_endOfRow cX2_endOfRow 5 (some .int) 1 22 [.ref (zr G 1), .int a1, .int a2, .int a3] mem (zQi G r mem') := by
  refine zStart hG (by decide +kernel) (Nat.le_of_ble_eq_true rfl) (fun p e s m below meth c C hr hlk ls hl Z => ?_)
  have hl : lv_has ls 5 [(0, .ref (zr G 1)), (1, .int a1), (2, .int a2), (3, .int a3)] := hl
  have C : zC (zAd G) G p s m _ c cX2_endOfRow 5 RX2 := C
  unfold f_X2_endOfRow at hf
  refine lv_iload_n C.1.1 C.1.2.1 dX2_endOfRow_0 rfl (lv_at hl 1 rfl) ?_
  refine lv_istore (lv' := [(4, .int a1), (0, .ref (zr G 1)), (1, .int a1), (2, .int a2), (3, .int a3)]) C.1.1 C.1.2.1 dX2_endOfRow_1 hl (by decide) rfl (fun ls hl => ?_)
  exact K_X2_endOfRow_3 (l := l) (e := e) (below := below) C hr hlk N N mem a2 a3 a1 _ _ _ Z (lv_sub hl [1, 3, 4, 0] rfl) hf
set_option maxHeartbeats 4000000 in
set_option maxRecDepth 100000 in
theorem K_X2_nextToken_59 {p : Program} {l : Launch} {e : Env} {s : State} {m : MethodId} {args : Array Value} {below : List Frame} {meth : Method} {c : Code} {G : zG} (C : zC (zAd G) G p s m args c cX2_nextToken 1 RX2) (hr : meth.sig.returnType = none) (hlk : meth.locks = false) {r : Unit} {mem' : zMem} (N : Nat) (mem : zMem) (H : Heap) (locs : List Loc) (ls : Array Slot) (Z : zH (zAd G) G s mem H locs) (hl : lv_has ls 1 [(0, .ref (zr G 1))]) (hf : f_X2_nextToken_59 N mem = some (r, mem')) : W p l e ({ frames := 2, cells := 0, slots := 0, locals := 46 } : Room) s m args below meth c H locs 0 0 (MQ below (zQv G mem') args s 0 0 (zAd G)) (F0 m 59 ls []) := by
  unfold f_X2_nextToken_59 at hf
  refine lv_aload_n C.1.1 C.1.2.1 dX2_nextToken_59 rfl (lv_at hl 0 rfl) ?_
  refine zg_X2_34 C Z dX2_nextToken_60 ?_
  refine lv_aload_n C.1.1 C.1.2.1 dX2_nextToken_63 rfl (lv_at hl 0 rfl) ?_
  refine zg_X2_44 C Z dX2_nextToken_64 ?_
  refine lv_icmp_ne (tgt := 91) C.1.1 C.1.2.1 dX2_nextToken_67 (by decide) (fun h80 => ?_) (fun h80 => ?_)
  · replace hf := (if_neg h80).symm.trans hf
    cases hf
    exact z_vret C Z hr hlk dX2_nextToken_91
  · replace hf := (if_pos h80).symm.trans hf
    refine lv_aload_n C.1.1 C.1.2.1 dX2_nextToken_70 rfl (lv_at hl 0 rfl) ?_
    refine zg_X2_44 C Z dX2_nextToken_71 ?_
    refine lv_aload_n C.1.1 C.1.2.1 dX2_nextToken_74 rfl (lv_at hl 0 rfl) ?_
    refine zg_X2_24 C Z dX2_nextToken_75 ?_
    refine lv_icmp_ge (tgt := 91) C.1.1 C.1.2.1 dX2_nextToken_78 (by decide) (fun h81 => ?_) (fun h81 => ?_)
    · replace hf := (if_pos h81).symm.trans hf
      cases hf
      exact z_vret C Z hr hlk dX2_nextToken_91
    · replace hf := (if_neg h81).symm.trans hf
      refine lv_aload_n C.1.1 C.1.2.1 dX2_nextToken_81 rfl (lv_at hl 0 rfl) ?_
      refine lv_dup C.1.1 C.1.2.1 dX2_nextToken_82 rfl ?_
      refine zg_X2_34 C Z dX2_nextToken_83 ?_
      refine lv_iconst (v := (1 : Int32)) C.1.1 C.1.2.1 dX2_nextToken_86 (by decide) ?_
      refine lv_iadd C.1.1 C.1.2.1 dX2_nextToken_87 ?_
      refine zp_X2_34 C Z dX2_nextToken_88 (fun H locs Z => ?_)
      obtain ⟨mem82, hm82, hf⟩ := zlet_some hf
      rw [← hm82] at Z
      cases hf
      exact z_vret C Z hr hlk dX2_nextToken_91
set_option maxHeartbeats 4000000 in
set_option maxRecDepth 100000 in
theorem M_X2_nextToken (l : Launch) (G : zG) (hG : zOK G) (N : Nat) (mem : zMem) (r : Unit) (mem' : zMem) (hf : f_X2_nextToken N mem = some (r, mem')) : zM l G yX2_nextToken cX2_nextToken 1 none 2 46 [.ref (zr G 1)] mem (zQv G mem') := by
  refine zStart hG (by decide +kernel) (Nat.le_of_ble_eq_true rfl) (fun p e s m below meth c C hr hlk ls hl Z => ?_)
  have hl : lv_has ls 1 [(0, .ref (zr G 1))] := hl
  have C : zC (zAd G) G p s m _ c cX2_nextToken 1 RX2 := C
  unfold f_X2_nextToken at hf
  refine lv_aload_n C.1.1 C.1.2.1 dX2_nextToken_0 rfl (lv_at hl 0 rfl) ?_
  refine lv_aload_n C.1.1 C.1.2.1 dX2_nextToken_1 rfl (lv_at hl 0 rfl) ?_
  refine lv_aload_n C.1.1 C.1.2.1 dX2_nextToken_2 rfl (lv_at hl 0 rfl) ?_
  refine zg_X2_34 C Z dX2_nextToken_3 ?_
  refine lv_bipush (v := (32 : Int32)) C.1.1 C.1.2.1 dX2_nextToken_6 (by decide) ?_
  refine lv_bipush (v := (32 : Int32)) C.1.1 C.1.2.1 dX2_nextToken_8 (by decide) ?_
  obtain ⟨r83, mem83, hc83, hf⟩ := zb_some hf
  refine z_callVi (k := 1) (As := [.int (mem 1 7), .int (32 : Int32), .int (32 : Int32)]) (rest := [.ref (zr G 1)]) C Z (M_X2_endOfRow l G C.2.1 N mem (mem 1 7) (32 : Int32) (32 : Int32) r83 mem83 hc83) (zcw_X2_72 C.1.2.2.2.2 ⟨Nat.le_of_ble_eq_true rfl, Nat.le_of_ble_eq_true rfl⟩) (by decide) rfl rfl rfl hl.1 rfl (Nat.le_of_ble_eq_true rfl) ⟨Nat.le_refl 0, Nat.le_refl 0⟩ dX2_nextToken_10 (fun H locs Z => ?_)
  refine zp_X2_44 C Z dX2_nextToken_13 (fun H locs Z => ?_)
  obtain ⟨mem84, hm84, hf⟩ := zlet_some hf
  rw [← hm84] at Z
  refine lv_aload_n C.1.1 C.1.2.1 dX2_nextToken_16 rfl (lv_at hl 0 rfl) ?_
  refine lv_aload_n C.1.1 C.1.2.1 dX2_nextToken_17 rfl (lv_at hl 0 rfl) ?_
  refine lv_aload_n C.1.1 C.1.2.1 dX2_nextToken_18 rfl (lv_at hl 0 rfl) ?_
  refine zg_X2_44 C Z dX2_nextToken_19 ?_
  refine lv_bipush (v := (97 : Int32)) C.1.1 C.1.2.1 dX2_nextToken_22 (by decide) ?_
  refine lv_bipush (v := (122 : Int32)) C.1.1 C.1.2.1 dX2_nextToken_24 (by decide) ?_
  obtain ⟨r85, mem85, hc85, hf⟩ := zb_some hf
  refine z_callVi (k := 1) (As := [.int (mem84 1 6), .int (97 : Int32), .int (122 : Int32)]) (rest := [.ref (zr G 1)]) C Z (M_X2_endOfRow l G C.2.1 N mem84 (mem84 1 6) (97 : Int32) (122 : Int32) r85 mem85 hc85) (zcw_X2_72 C.1.2.2.2.2 ⟨Nat.le_of_ble_eq_true rfl, Nat.le_of_ble_eq_true rfl⟩) (by decide) rfl rfl rfl hl.1 rfl (Nat.le_of_ble_eq_true rfl) ⟨Nat.le_refl 0, Nat.le_refl 0⟩ dX2_nextToken_26 (fun H locs Z => ?_)
  refine zp_X2_34 C Z dX2_nextToken_29 (fun H locs Z => ?_)
  obtain ⟨mem86, hm86, hf⟩ := zlet_some hf
  rw [← hm86] at Z
  refine lv_aload_n C.1.1 C.1.2.1 dX2_nextToken_32 rfl (lv_at hl 0 rfl) ?_
  refine zg_X2_34 C Z dX2_nextToken_33 ?_
  refine lv_aload_n C.1.1 C.1.2.1 dX2_nextToken_36 rfl (lv_at hl 0 rfl) ?_
  refine zg_X2_44 C Z dX2_nextToken_37 ?_
  refine lv_icmp_ne (tgt := 59) C.1.1 C.1.2.1 dX2_nextToken_40 (by decide) (fun h87 => ?_) (fun h87 => ?_)
  · replace hf := (if_neg h87).symm.trans hf
    exact K_X2_nextToken_59 (l := l) (e := e) (below := below) C hr hlk N mem86 _ _ _ Z (lv_sub hl [0] rfl) hf
  · replace hf := (if_pos h87).symm.trans hf
    refine lv_aload_n C.1.1 C.1.2.1 dX2_nextToken_43 rfl (lv_at hl 0 rfl) ?_
    refine lv_aload_n C.1.1 C.1.2.1 dX2_nextToken_44 rfl (lv_at hl 0 rfl) ?_
    refine lv_aload_n C.1.1 C.1.2.1 dX2_nextToken_45 rfl (lv_at hl 0 rfl) ?_
    refine zg_X2_44 C Z dX2_nextToken_46 ?_
    refine lv_bipush (v := (48 : Int32)) C.1.1 C.1.2.1 dX2_nextToken_49 (by decide) ?_
    refine lv_bipush (v := (57 : Int32)) C.1.1 C.1.2.1 dX2_nextToken_51 (by decide) ?_
    obtain ⟨r88, mem88, hc88, hf⟩ := zb_some hf
    refine z_callVi (k := 1) (As := [.int (mem86 1 6), .int (48 : Int32), .int (57 : Int32)]) (rest := [.ref (zr G 1)]) C Z (M_X2_endOfRow l G C.2.1 N mem86 (mem86 1 6) (48 : Int32) (57 : Int32) r88 mem88 hc88) (zcw_X2_72 C.1.2.2.2.2 ⟨Nat.le_of_ble_eq_true rfl, Nat.le_of_ble_eq_true rfl⟩) (by decide) rfl rfl rfl hl.1 rfl (Nat.le_of_ble_eq_true rfl) ⟨Nat.le_refl 0, Nat.le_refl 0⟩ dX2_nextToken_53 (fun H locs Z => ?_)
    refine zp_X2_34 C Z dX2_nextToken_56 (fun H locs Z => ?_)
    obtain ⟨mem89, hm89, hf⟩ := zlet_some hf
    rw [← hm89] at Z
    exact K_X2_nextToken_59 (l := l) (e := e) (below := below) C hr hlk N mem89 _ _ _ Z (lv_sub hl [0] rfl) hf
set_option maxHeartbeats 4000000 in
set_option maxRecDepth 100000 in
theorem M_X2_nameOf (l : Launch) (G : zG) (hG : zOK G) (N : Nat) (mem : zMem) (a1 : Int32) (r : Nat) (mem' : zMem) (hf : f_X2_nameOf N mem a1 = some (r, mem')) : zM l G yX2_nameOf cX2_nameOf 1 (some (.object "java/lang/String")) 0 0 [.int a1] mem (zQs G r mem') := by
  refine zStart hG (by decide +kernel) (Nat.le_of_ble_eq_true rfl) (fun p e s m below meth c C hr hlk ls hl Z => ?_)
  have hl : lv_has ls 1 [(0, .int a1)] := hl
  have C : zC (zAd G) G p s m _ c cX2_nameOf 1 RX2 := C
  unfold f_X2_nameOf at hf
  refine lv_iload_n C.1.1 C.1.2.1 dX2_nameOf_0 rfl (lv_at hl 0 rfl) ?_
  by_cases h90 : a1 = 0
  · replace hf := (if_pos h90).symm.trans hf
    refine lv_tableIn (off := 47) (tgt := 48) C.1.1 C.1.2.1 dX2_nameOf_1 (by rw [h90]; decide) (by rw [h90]; decide) (by rw [h90]; rfl) (by decide) ?_
    refine va_ldcS C.1.1 C.1.2.1 C.1.2.2.2.1 (C.2.2.2.2.2.1 0 (by decide)) dX2_nameOf_48 ?_
    cases hf
    exact z_sret C Z hr hlk dX2_nameOf_50
  replace hf := (if_neg h90).symm.trans hf
  by_cases h91 : a1 = 1
  · replace hf := (if_pos h91).symm.trans hf
    refine lv_tableIn (off := 50) (tgt := 51) C.1.1 C.1.2.1 dX2_nameOf_1 (by rw [h91]; decide) (by rw [h91]; decide) (by rw [h91]; rfl) (by decide) ?_
    refine va_ldcS C.1.1 C.1.2.1 C.1.2.2.2.1 (C.2.2.2.2.2.1 1 (by decide)) dX2_nameOf_51 ?_
    cases hf
    exact z_sret C Z hr hlk dX2_nameOf_53
  replace hf := (if_neg h91).symm.trans hf
  by_cases h92 : a1 = 2
  · replace hf := (if_pos h92).symm.trans hf
    refine lv_tableIn (off := 53) (tgt := 54) C.1.1 C.1.2.1 dX2_nameOf_1 (by rw [h92]; decide) (by rw [h92]; decide) (by rw [h92]; rfl) (by decide) ?_
    refine va_ldcS C.1.1 C.1.2.1 C.1.2.2.2.1 (C.2.2.2.2.2.1 2 (by decide)) dX2_nameOf_54 ?_
    cases hf
    exact z_sret C Z hr hlk dX2_nameOf_56
  replace hf := (if_neg h92).symm.trans hf
  by_cases h93 : a1 = 3
  · replace hf := (if_pos h93).symm.trans hf
    refine lv_tableIn (off := 56) (tgt := 57) C.1.1 C.1.2.1 dX2_nameOf_1 (by rw [h93]; decide) (by rw [h93]; decide) (by rw [h93]; rfl) (by decide) ?_
    refine va_ldcS C.1.1 C.1.2.1 C.1.2.2.2.1 (C.2.2.2.2.2.1 3 (by decide)) dX2_nameOf_57 ?_
    cases hf
    exact z_sret C Z hr hlk dX2_nameOf_59
  replace hf := (if_neg h93).symm.trans hf
  by_cases h94 : a1 = 4
  · replace hf := (if_pos h94).symm.trans hf
    refine lv_tableIn (off := 59) (tgt := 60) C.1.1 C.1.2.1 dX2_nameOf_1 (by rw [h94]; decide) (by rw [h94]; decide) (by rw [h94]; rfl) (by decide) ?_
    refine va_ldcS C.1.1 C.1.2.1 C.1.2.2.2.1 (C.2.2.2.2.2.1 4 (by decide)) dX2_nameOf_60 ?_
    cases hf
    exact z_sret C Z hr hlk dX2_nameOf_62
  replace hf := (if_neg h94).symm.trans hf
  by_cases h95 : a1 = 5
  · replace hf := (if_pos h95).symm.trans hf
    refine lv_tableIn (off := 62) (tgt := 63) C.1.1 C.1.2.1 dX2_nameOf_1 (by rw [h95]; decide) (by rw [h95]; decide) (by rw [h95]; rfl) (by decide) ?_
    refine va_ldcS C.1.1 C.1.2.1 C.1.2.2.2.1 (C.2.2.2.2.2.1 5 (by decide)) dX2_nameOf_63 ?_
    cases hf
    exact z_sret C Z hr hlk dX2_nameOf_65
  replace hf := (if_neg h95).symm.trans hf
  by_cases h96 : a1 = 6
  · replace hf := (if_pos h96).symm.trans hf
    refine lv_tableIn (off := 65) (tgt := 66) C.1.1 C.1.2.1 dX2_nameOf_1 (by rw [h96]; decide) (by rw [h96]; decide) (by rw [h96]; rfl) (by decide) ?_
    refine va_ldcS C.1.1 C.1.2.1 C.1.2.2.2.1 (C.2.2.2.2.2.1 6 (by decide)) dX2_nameOf_66 ?_
    cases hf
    exact z_sret C Z hr hlk dX2_nameOf_68
  replace hf := (if_neg h96).symm.trans hf
  by_cases h97 : a1 = 7
  · replace hf := (if_pos h97).symm.trans hf
    refine lv_tableIn (off := 68) (tgt := 69) C.1.1 C.1.2.1 dX2_nameOf_1 (by rw [h97]; decide) (by rw [h97]; decide) (by rw [h97]; rfl) (by decide) ?_
    refine va_ldcS C.1.1 C.1.2.1 C.1.2.2.2.1 (C.2.2.2.2.2.1 7 (by decide)) dX2_nameOf_69 ?_
    cases hf
    exact z_sret C Z hr hlk dX2_nameOf_71
  replace hf := (if_neg h97).symm.trans hf
  have eh90 := lv_neT h90 (a := 0) rfl
  have eh91 := lv_neT h91 (a := 1) rfl
  have eh92 := lv_neT h92 (a := 2) rfl
  have eh93 := lv_neT h93 (a := 3) rfl
  have eh94 := lv_neT h94 (a := 4) rfl
  have eh95 := lv_neT h95 (a := 5) rfl
  have eh96 := lv_neT h96 (a := 6) rfl
  have eh97 := lv_neT h97 (a := 7) rfl
  refine lv_tableOut (tgt := 72) C.1.1 C.1.2.1 dX2_nameOf_1 (by omega) (by decide) ?_
  refine va_ldcS C.1.1 C.1.2.1 C.1.2.2.2.1 (C.2.2.2.2.2.1 8 (by decide)) dX2_nameOf_72 ?_
  cases hf
  exact z_sret C Z hr hlk dX2_nameOf_74
set_option maxHeartbeats 4000000 in
set_option maxRecDepth 100000 in
theorem K_X2_tokenIs_20 {p : Program} {l : Launch} {e : Env} {s : State} {m : MethodId} {args : Array Value} {below : List Frame} {meth : Method} {c : Code} {G : zG} (t : Nat) (ht : t < 9) (C : zC (zAd G) G p s m args c cX2_tokenIs 3 RX2) (hr : meth.sig.returnType = (some .boolean)) (hlk : meth.locks = false) {r : Int32} {mem' : zMem} (N : Nat) : ∀ (n : Nat) (mem : zMem) (x2 : Int32) (H : Heap) (locs : List Loc) (ls : Array Slot), zH (zAd G) G s mem H locs → lv_has ls 3 [(0, .ref (zr G 1)), (1, .ref (zk G t)), (2, .int x2)] → f_X2_tokenIs_20 N t n mem x2 = some (r, mem') → W p l e ({ frames := 4, cells := 0, slots := 0, locals := 85 } : Room) s m args below meth c H locs 0 0 (MQ below (zQi G r mem') args s 0 0 (zAd G)) (F0 m 20 ls []) := by
  intro n
  induction n with
  | zero =>
    intro mem x2 H locs ls Z hl hf
    rw [f_X2_tokenIs_20.eq_1] at hf
    cases hf
  | succ n ih =>
    intro mem x2 H locs ls Z hl hf
    rw [f_X2_tokenIs_20.eq_2] at hf
    refine lv_iload_n C.1.1 C.1.2.1 dX2_tokenIs_20 rfl (lv_at hl 2 rfl) ?_
    refine lv_aload_n C.1.1 C.1.2.1 dX2_tokenIs_21 rfl (lv_at hl 1 rfl) ?_
    obtain ⟨r98, mem98, hc98, hf⟩ := zb_some hf
    refine z_callTi (i := t) (As := []) (rest := [.int x2]) ht C Z (M_J0_length_8abf5 l G C.2.1 N t ht mem r98 mem98 hc98) (zcw_X2_84 C.1.2.2.2.2 ⟨Nat.le_of_ble_eq_true rfl, Nat.le_of_ble_eq_true rfl⟩) rfl hl.1 rfl (Nat.le_of_ble_eq_true rfl) ⟨Nat.le_refl 0, Nat.le_refl 0⟩ dX2_tokenIs_22 (fun H locs Z => ?_)
    refine lv_icmp_ge (tgt := 55) C.1.1 C.1.2.1 dX2_tokenIs_25 (by decide) (fun h99 => ?_) (fun h99 => ?_)
    · replace hf := (if_pos h99).symm.trans hf
      refine lv_iconst (v := (1 : Int32)) C.1.1 C.1.2.1 dX2_tokenIs_55 (by decide) ?_
      cases hf
      exact z_zret C Z hr hlk (by decide) dX2_tokenIs_56
    · replace hf := (if_neg h99).symm.trans hf
      refine lv_aload_n C.1.1 C.1.2.1 dX2_tokenIs_28 rfl (lv_at hl 0 rfl) ?_
      refine zg_X2_9 C Z dX2_tokenIs_29 ?_
      refine lv_aload_n C.1.1 C.1.2.1 dX2_tokenIs_32 rfl (lv_at hl 0 rfl) ?_
      refine zg_X2_44 C Z dX2_tokenIs_33 ?_
      refine lv_iload_n C.1.1 C.1.2.1 dX2_tokenIs_36 rfl (lv_at hl 2 rfl) ?_
      refine lv_iadd C.1.1 C.1.2.1 dX2_tokenIs_37 ?_
      obtain ⟨hi100, hf⟩ := zgd_some hf
      refine z_iald (k := 2) C Z (by decide) rfl hi100 dX2_tokenIs_38 ?_
      refine lv_aload_n C.1.1 C.1.2.1 dX2_tokenIs_39 rfl (lv_at hl 1 rfl) ?_
      refine lv_iload_n C.1.1 C.1.2.1 dX2_tokenIs_40 rfl (lv_at hl 2 rfl) ?_
      obtain ⟨r101, mem101, hc101, hf⟩ := zb_some hf
      refine z_callTi (i := t) (As := [.int x2]) (rest := [.int (mem98 2 ((mem98 1 6) + x2).toNatClampNeg)]) ht C Z (M_J0_charAt_5068e l G C.2.1 N t ht mem98 x2 r101 mem101 hc101) (zcw_X2_88 C.1.2.2.2.2 ⟨Nat.le_of_ble_eq_true rfl, Nat.le_of_ble_eq_true rfl⟩) rfl hl.1 rfl (Nat.le_of_ble_eq_true rfl) ⟨Nat.le_refl 0, Nat.le_refl 0⟩ dX2_tokenIs_41 (fun H locs Z => ?_)
      refine lv_icmp_eq (tgt := 49) C.1.1 C.1.2.1 dX2_tokenIs_44 (by decide) (fun h102 => ?_) (fun h102 => ?_)
      · replace hf := (if_pos h102).symm.trans hf
        refine lv_iinc (v := (x2 + 1)) (lv' := [(2, .int (x2 + 1)), (0, .ref (zr G 1)), (1, .ref (zk G t))]) C.1.1 C.1.2.1 dX2_tokenIs_49 hl (k := 2) rfl rfl (by decide) rfl (fun ls hl => ?_)
        refine lv_goto (tgt := 20) C.1.1 C.1.2.1 dX2_tokenIs_52 (by decide) ?_
        exact ih mem101 (x2 + 1) _ _ _ Z (lv_sub hl [1, 2, 0] rfl) hf
      · replace hf := (if_neg h102).symm.trans hf
        refine lv_iconst (v := (0 : Int32)) C.1.1 C.1.2.1 dX2_tokenIs_47 (by decide) ?_
        cases hf
        exact z_zret C Z hr hlk (by decide) dX2_tokenIs_48
set_option maxHeartbeats 4000000 in
set_option maxRecDepth 100000 in
theorem M_X2_tokenIs (l : Launch) (G : zG) (hG : zOK G) (N : Nat) (t : Nat) (ht : t < 9) (mem : zMem) (r : Int32) (mem' : zMem) (hf : f_X2_tokenIs N t mem = some (r, mem')) : zM l G yX2_tokenIs cX2_tokenIs 3 (some .boolean) 4 85 [.ref (zr G 1), .ref (zk G t)] mem (zQi G r mem') := by
  refine zStart hG (by decide +kernel) (Nat.le_of_ble_eq_true rfl) (fun p e s m below meth c C hr hlk ls hl Z => ?_)
  have hl : lv_has ls 3 [(0, .ref (zr G 1)), (1, .ref (zk G t))] := hl
  have C : zC (zAd G) G p s m _ c cX2_tokenIs 3 RX2 := C
  unfold f_X2_tokenIs at hf
  refine lv_aload_n C.1.1 C.1.2.1 dX2_tokenIs_0 rfl (lv_at hl 1 rfl) ?_
  obtain ⟨r103, mem103, hc103, hf⟩ := zb_some hf
  refine z_callTi (i := t) (As := []) (rest := []) ht C Z (M_J0_length_8abf5 l G C.2.1 N t ht mem r103 mem103 hc103) (zcw_X2_84 C.1.2.2.2.2 ⟨Nat.le_of_ble_eq_true rfl, Nat.le_of_ble_eq_true rfl⟩) rfl hl.1 rfl (Nat.le_of_ble_eq_true rfl) ⟨Nat.le_refl 0, Nat.le_refl 0⟩ dX2_tokenIs_1 (fun H locs Z => ?_)
  refine lv_aload_n C.1.1 C.1.2.1 dX2_tokenIs_4 rfl (lv_at hl 0 rfl) ?_
  refine zg_X2_34 C Z dX2_tokenIs_5 ?_
  refine lv_aload_n C.1.1 C.1.2.1 dX2_tokenIs_8 rfl (lv_at hl 0 rfl) ?_
  refine zg_X2_44 C Z dX2_tokenIs_9 ?_
  refine lv_isub C.1.1 C.1.2.1 dX2_tokenIs_12 ?_
  refine lv_icmp_eq (tgt := 18) C.1.1 C.1.2.1 dX2_tokenIs_13 (by decide) (fun h104 => ?_) (fun h104 => ?_)
  · replace hf := (if_pos h104).symm.trans hf
    refine lv_iconst (v := (0 : Int32)) C.1.1 C.1.2.1 dX2_tokenIs_18 (by decide) ?_
    refine lv_istore_n (lv' := [(2, .int (0 : Int32)), (0, .ref (zr G 1)), (1, .ref (zk G t))]) C.1.1 C.1.2.1 dX2_tokenIs_19 rfl hl (by decide) rfl (fun ls hl => ?_)
    exact K_X2_tokenIs_20 (l := l) (e := e) (below := below) (t := t) ht C hr hlk N N mem103 (0 : Int32) _ _ _ Z (lv_sub hl [1, 2, 0] rfl) hf
  · replace hf := (if_neg h104).symm.trans hf
    refine lv_iconst (v := (0 : Int32)) C.1.1 C.1.2.1 dX2_tokenIs_16 (by decide) ?_
    cases hf
    exact z_zret C Z hr hlk (by decide) dX2_tokenIs_17
theorem f_X2_nameOf_lt {N : Nat} {mem mem' : zMem} {a : Int32} {i : Nat} (h : f_X2_nameOf N mem a = some (i, mem')) : i < 9 := by
  unfold f_X2_nameOf at h
  repeat' split at h
  all_goals (cases h; decide)
set_option maxHeartbeats 4000000 in
set_option maxRecDepth 100000 in
theorem K_X2_tokenWord_2 {p : Program} {l : Launch} {e : Env} {s : State} {m : MethodId} {args : Array Value} {below : List Frame} {meth : Method} {c : Code} {G : zG} (C : zC (zAd G) G p s m args c cX2_tokenWord 2 RX2) (hr : meth.sig.returnType = (some .int)) (hlk : meth.locks = false) {r : Int32} {mem' : zMem} (N : Nat) : ∀ (n : Nat) (mem : zMem) (x1 : Int32) (H : Heap) (locs : List Loc) (ls : Array Slot), zH (zAd G) G s mem H locs → lv_has ls 2 [(0, .ref (zr G 1)), (1, .int x1)] → f_X2_tokenWord_2 N n mem x1 = some (r, mem') → W p l e ({ frames := 5, cells := 0, slots := 0, locals := 107 } : Room) s m args below meth c H locs 0 0 (MQ below (zQi G r mem') args s 0 0 (zAd G)) (F0 m 2 ls []) := by
  intro n
  induction n with
  | zero =>
    intro mem x1 H locs ls Z hl hf
    rw [f_X2_tokenWord_2.eq_1] at hf
    cases hf
  | succ n ih =>
    intro mem x1 H locs ls Z hl hf
    rw [f_X2_tokenWord_2.eq_2] at hf
    refine lv_iload_n C.1.1 C.1.2.1 dX2_tokenWord_2 rfl (lv_at hl 1 rfl) ?_
    refine lv_bipush (v := (8 : Int32)) C.1.1 C.1.2.1 dX2_tokenWord_3 (by decide) ?_
    refine lv_icmp_gt (tgt := 27) C.1.1 C.1.2.1 dX2_tokenWord_5 (by decide) (fun h105 => ?_) (fun h105 => ?_)
    · replace hf := (if_pos h105).symm.trans hf
      refine lv_iconst (v := (-1 : Int32)) C.1.1 C.1.2.1 dX2_tokenWord_27 (by decide) ?_
      cases hf
      exact z_iret C Z hr hlk dX2_tokenWord_28
    · replace hf := (if_neg h105).symm.trans hf
      refine lv_aload_n C.1.1 C.1.2.1 dX2_tokenWord_8 rfl (lv_at hl 0 rfl) ?_
      refine lv_iload_n C.1.1 C.1.2.1 dX2_tokenWord_9 rfl (lv_at hl 1 rfl) ?_
      obtain ⟨r106, mem106, hc106, hf⟩ := zb_some hf
      refine z_callSs (As := [.int x1]) (rest := [.ref (zr G 1)]) C Z (M_X2_nameOf l G C.2.1 N mem x1 r106 mem106 hc106) (zcw_X2_76 C.1.2.2.2.2 ⟨Nat.le_of_ble_eq_true rfl, Nat.le_of_ble_eq_true rfl⟩) rfl hl.1 rfl (Nat.le_of_ble_eq_true rfl) ⟨Nat.le_refl 0, Nat.le_refl 0⟩ dX2_tokenWord_10 (fun H locs Z => ?_)
      obtain ⟨r107, mem107, hc107, hf⟩ := zb_some hf
      refine z_callVi (k := 1) (As := [.ref (zk G r106)]) (rest := []) C Z (M_X2_tokenIs l G C.2.1 N r106 (f_X2_nameOf_lt hc106) mem106 r107 mem107 hc107) (zcw_X2_80 C.1.2.2.2.2 ⟨Nat.le_of_ble_eq_true rfl, Nat.le_of_ble_eq_true rfl⟩) (by decide) rfl rfl rfl hl.1 rfl (Nat.le_of_ble_eq_true rfl) ⟨Nat.le_refl 0, Nat.le_refl 0⟩ dX2_tokenWord_13 (fun H locs Z => ?_)
      refine lv_if_eq (tgt := 21) C.1.1 C.1.2.1 dX2_tokenWord_16 (by decide) (fun h108 => ?_) (fun h108 => ?_)
      · replace hf := (if_pos h108).symm.trans hf
        refine lv_iinc (v := (x1 + 1)) (lv' := [(1, .int (x1 + 1)), (0, .ref (zr G 1))]) C.1.1 C.1.2.1 dX2_tokenWord_21 hl (k := 1) rfl rfl (by decide) rfl (fun ls hl => ?_)
        refine lv_goto (tgt := 2) C.1.1 C.1.2.1 dX2_tokenWord_24 (by decide) ?_
        exact ih mem107 (x1 + 1) _ _ _ Z (lv_sub hl [1, 0] rfl) hf
      · replace hf := (if_neg h108).symm.trans hf
        refine lv_iload_n C.1.1 C.1.2.1 dX2_tokenWord_19 rfl (lv_at hl 1 rfl) ?_
        cases hf
        exact z_iret C Z hr hlk dX2_tokenWord_20
set_option maxHeartbeats 4000000 in
set_option maxRecDepth 100000 in
theorem M_X2_tokenWord (l : Launch) (G : zG) (hG : zOK G) (N : Nat) (mem : zMem) (r : Int32) (mem' : zMem) (hf : f_X2_tokenWord N mem = some (r, mem')) : zM l G yX2_tokenWord cX2_tokenWord 2 (some .int) 5 107 [.ref (zr G 1)] mem (zQi G r mem') := by
  refine zStart hG (by decide +kernel) (Nat.le_of_ble_eq_true rfl) (fun p e s m below meth c C hr hlk ls hl Z => ?_)
  have hl : lv_has ls 2 [(0, .ref (zr G 1))] := hl
  have C : zC (zAd G) G p s m _ c cX2_tokenWord 2 RX2 := C
  unfold f_X2_tokenWord at hf
  refine lv_iconst (v := (0 : Int32)) C.1.1 C.1.2.1 dX2_tokenWord_0 (by decide) ?_
  refine lv_istore_n (lv' := [(1, .int (0 : Int32)), (0, .ref (zr G 1))]) C.1.1 C.1.2.1 dX2_tokenWord_1 rfl hl (by decide) rfl (fun ls hl => ?_)
  exact K_X2_tokenWord_2 (l := l) (e := e) (below := below) C hr hlk N N mem (0 : Int32) _ _ _ Z (lv_sub hl [1, 0] rfl) hf
