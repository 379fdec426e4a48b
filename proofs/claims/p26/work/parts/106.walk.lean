set_option maxHeartbeats 4000000 in
set_option maxRecDepth 100000 in
theorem M_X5_readsPart (l : Launch) (G : zG) (hG : zOK G) (N : Nat) (mem : zMem) (a1 : Int32) (r : Int32) (mem' : zMem) (hf : f_X5_readsPart N mem a1 = some (r, mem')) : zM l G yX5_readsPart cX5_readsPart 3 (some .boolean) 4 86 [.ref (zr G 44), .int a1] mem (zQi G r mem') := by
  refine zStart hG (by decide +kernel) (Nat.le_of_ble_eq_true rfl) (fun p e s m below meth c C hr hlk ls hl Z => ?_)
  have hl : lv_has ls 3 [(0, .ref (zr G 44)), (1, .int a1)] := hl
  have C : zC (zAd G) G p s m _ c cX5_readsPart 3 RX5 := C
  unfold f_X5_readsPart at hf
  refine lv_aload_n C.1.1 C.1.2.1 dX5_readsPart_0 rfl (lv_at hl 0 rfl) ?_
  refine zg_X5_16 C Z dX5_readsPart_1 ?_
  refine lv_iconst (v := (0 : Int32)) C.1.1 C.1.2.1 dX5_readsPart_4 (by decide) ?_
  refine z_iald (k := 47) C Z (by decide) rfl (by decide) dX5_readsPart_5 ?_
  refine lv_istore_n (lv' := [(2, .int (mem 47 (0 : Int32).toNatClampNeg)), (0, .ref (zr G 44)), (1, .int a1)]) C.1.1 C.1.2.1 dX5_readsPart_6 rfl hl (by decide) rfl (fun ls hl => ?_)
  refine lv_iload_n C.1.1 C.1.2.1 dX5_readsPart_7 rfl (lv_at hl 0 rfl) ?_
  refine lv_bipush (v := (8 : Int32)) C.1.1 C.1.2.1 dX5_readsPart_8 (by decide) ?_
  refine lv_icmp_eq (tgt := 41) C.1.1 C.1.2.1 dX5_readsPart_10 (by decide) (fun h540 => ?_) (fun h540 => ?_)
  · replace hf := (if_pos h540).symm.trans hf
    refine lv_iconst (v := (0 : Int32)) C.1.1 C.1.2.1 dX5_readsPart_41 (by decide) ?_
    cases hf
    exact z_zret C Z hr hlk (by decide) dX5_readsPart_42
  · replace hf := (if_neg h540).symm.trans hf
    refine lv_aload_n C.1.1 C.1.2.1 dX5_readsPart_13 rfl (lv_at hl 1 rfl) ?_
    refine lv_bipush (v := (13 : Int32)) C.1.1 C.1.2.1 dX5_readsPart_14 (by decide) ?_
    refine lv_iload_n C.1.1 C.1.2.1 dX5_readsPart_16 rfl (lv_at hl 0 rfl) ?_
    refine lv_iadd C.1.1 C.1.2.1 dX5_readsPart_17 ?_
    refine lv_iconst (v := (0 : Int32)) C.1.1 C.1.2.1 dX5_readsPart_18 (by decide) ?_
    refine lv_bipush (v := (20 : Int32)) C.1.1 C.1.2.1 dX5_readsPart_19 (by decide) ?_
    obtain ⟨r541, mem541, hc541, hf⟩ := zb_some hf
    refine z_callVi (k := 44) (As := [.int ((13 : Int32) + (mem 47 (0 : Int32).toNatClampNeg)), .int (0 : Int32), .int (20 : Int32)]) (rest := []) C Z (M_X5_number l G C.2.1 N mem ((13 : Int32) + (mem 47 (0 : Int32).toNatClampNeg)) (0 : Int32) (20 : Int32) r541 mem541 hc541) (zcw_X5_78 C.1.2.2.2.2 ⟨Nat.le_of_ble_eq_true rfl, Nat.le_of_ble_eq_true rfl⟩) (by decide) rfl rfl rfl hl.1 rfl (Nat.le_of_ble_eq_true rfl) ⟨Nat.le_refl 0, Nat.le_refl 0⟩ dX5_readsPart_21 (fun H locs Z => ?_)
    refine lv_if_eq (tgt := 41) C.1.1 C.1.2.1 dX5_readsPart_24 (by decide) (fun h542 => ?_) (fun h542 => ?_)
    · replace hf := (if_pos h542).symm.trans hf
      refine lv_iconst (v := (0 : Int32)) C.1.1 C.1.2.1 dX5_readsPart_41 (by decide) ?_
      cases hf
      exact z_zret C Z hr hlk (by decide) dX5_readsPart_42
    · replace hf := (if_neg h542).symm.trans hf
      refine lv_aload_n C.1.1 C.1.2.1 dX5_readsPart_27 rfl (lv_at hl 1 rfl) ?_
      refine lv_bipush (v := (21 : Int32)) C.1.1 C.1.2.1 dX5_readsPart_28 (by decide) ?_
      refine lv_iload_n C.1.1 C.1.2.1 dX5_readsPart_30 rfl (lv_at hl 0 rfl) ?_
      refine lv_iadd C.1.1 C.1.2.1 dX5_readsPart_31 ?_
      refine lv_iconst (v := (1 : Int32)) C.1.1 C.1.2.1 dX5_readsPart_32 (by decide) ?_
      refine lv_bipush (v := (30 : Int32)) C.1.1 C.1.2.1 dX5_readsPart_33 (by decide) ?_
      obtain ⟨r543, mem543, hc543, hf⟩ := zb_some hf
      refine z_callVi (k := 44) (As := [.int ((21 : Int32) + (mem 47 (0 : Int32).toNatClampNeg)), .int (1 : Int32), .int (30 : Int32)]) (rest := []) C Z (M_X5_number l G C.2.1 N mem541 ((21 : Int32) + (mem 47 (0 : Int32).toNatClampNeg)) (1 : Int32) (30 : Int32) r543 mem543 hc543) (zcw_X5_78 C.1.2.2.2.2 ⟨Nat.le_of_ble_eq_true rfl, Nat.le_of_ble_eq_true rfl⟩) (by decide) rfl rfl rfl hl.1 rfl (Nat.le_of_ble_eq_true rfl) ⟨Nat.le_refl 0, Nat.le_refl 0⟩ dX5_readsPart_35 (fun H locs Z => ?_)
      refine lv_if_ne (tgt := 43) C.1.1 C.1.2.1 dX5_readsPart_38 (by decide) (fun h544 => ?_) (fun h544 => ?_)
      · replace hf := (if_neg h544).symm.trans hf
        refine lv_aload_n C.1.1 C.1.2.1 dX5_readsPart_43 rfl (lv_at hl 1 rfl) ?_
        refine zg_X5_16 C Z dX5_readsPart_44 ?_
        refine lv_iconst (v := (5 : Int32)) C.1.1 C.1.2.1 dX5_readsPart_47 (by decide) ?_
        refine lv_iload_n C.1.1 C.1.2.1 dX5_readsPart_48 rfl (lv_at hl 0 rfl) ?_
        refine lv_iadd C.1.1 C.1.2.1 dX5_readsPart_49 ?_
        refine lv_iload_n C.1.1 C.1.2.1 dX5_readsPart_50 rfl (lv_at hl 2 rfl) ?_
        obtain ⟨hi545, hf⟩ := zgd_some hf
        refine z_iast (k := 47) C Z (by decide) (fun _ => rfl) hi545 dX5_readsPart_51 (fun H locs Z => ?_)
        obtain ⟨mem546, hm546, hf⟩ := zlet_some hf
        rw [← hm546] at Z
        refine lv_aload_n C.1.1 C.1.2.1 dX5_readsPart_52 rfl (lv_at hl 1 rfl) ?_
        refine zg_X5_16 C Z dX5_readsPart_53 ?_
        refine lv_iconst (v := (0 : Int32)) C.1.1 C.1.2.1 dX5_readsPart_56 (by decide) ?_
        refine lv_dup2_11 C.1.1 C.1.2.1 dX5_readsPart_57 rfl rfl ?_
        refine z_iald (k := 47) C Z (by decide) rfl (by decide) dX5_readsPart_58 ?_
        refine lv_iconst (v := (1 : Int32)) C.1.1 C.1.2.1 dX5_readsPart_59 (by decide) ?_
        refine lv_iadd C.1.1 C.1.2.1 dX5_readsPart_60 ?_
        refine z_iast (k := 47) C Z (by decide) (fun _ => rfl) (by decide) dX5_readsPart_61 (fun H locs Z => ?_)
        obtain ⟨mem547, hm547, hf⟩ := zlet_some hf
        rw [← hm547] at Z
        refine lv_iconst (v := (1 : Int32)) C.1.1 C.1.2.1 dX5_readsPart_62 (by decide) ?_
        cases hf
        exact z_zret C Z hr hlk (by decide) dX5_readsPart_63
      · replace hf := (if_pos h544).symm.trans hf
        refine lv_iconst (v := (0 : Int32)) C.1.1 C.1.2.1 dX5_readsPart_41 (by decide) ?_
        cases hf
        exact z_zret C Z hr hlk (by decide) dX5_readsPart_42
set_option maxHeartbeats 4000000 in
set_option maxRecDepth 100000 in
theorem M_X5_readsSoul (l : Launch) (G : zG) (hG : zOK G) (N : Nat) (mem : zMem) (r : Int32) (mem' : zMem) (hf : f_X5_readsSoul N mem = some (r, mem')) : zM l G yX5_readsSoul cX5_readsSoul 2 (some .boolean) 4 86 [.ref (zr G 44)] mem (zQi G r mem') := by
  refine zStart hG (by decide +kernel) (Nat.le_of_ble_eq_true rfl) (fun p e s m below meth c C hr hlk ls hl Z => ?_)
  have hl : lv_has ls 2 [(0, .ref (zr G 44))] := hl
  have C : zC (zAd G) G p s m _ c cX5_readsSoul 2 RX5 := C
  unfold f_X5_readsSoul at hf
  refine lv_aload_n C.1.1 C.1.2.1 dX5_readsSoul_0 rfl (lv_at hl 0 rfl) ?_
  refine zg_X5_16 C Z dX5_readsSoul_1 ?_
  refine lv_iconst (v := (1 : Int32)) C.1.1 C.1.2.1 dX5_readsSoul_4 (by decide) ?_
  refine z_iald (k := 47) C Z (by decide) rfl (by decide) dX5_readsSoul_5 ?_
  refine lv_istore_n (lv' := [(1, .int (mem 47 (1 : Int32).toNatClampNeg)), (0, .ref (zr G 44))]) C.1.1 C.1.2.1 dX5_readsSoul_6 rfl hl (by decide) rfl (fun ls hl => ?_)
  refine lv_iload_n C.1.1 C.1.2.1 dX5_readsSoul_7 rfl (lv_at hl 0 rfl) ?_
  refine lv_bipush (v := (6 : Int32)) C.1.1 C.1.2.1 dX5_readsSoul_8 (by decide) ?_
  refine lv_icmp_eq (tgt := 27) C.1.1 C.1.2.1 dX5_readsSoul_10 (by decide) (fun h548 => ?_) (fun h548 => ?_)
  · replace hf := (if_pos h548).symm.trans hf
    refine lv_iconst (v := (0 : Int32)) C.1.1 C.1.2.1 dX5_readsSoul_27 (by decide) ?_
    cases hf
    exact z_zret C Z hr hlk (by decide) dX5_readsSoul_28
  · replace hf := (if_neg h548).symm.trans hf
    refine lv_aload_n C.1.1 C.1.2.1 dX5_readsSoul_13 rfl (lv_at hl 1 rfl) ?_
    refine lv_bipush (v := (29 : Int32)) C.1.1 C.1.2.1 dX5_readsSoul_14 (by decide) ?_
    refine lv_iload_n C.1.1 C.1.2.1 dX5_readsSoul_16 rfl (lv_at hl 0 rfl) ?_
    refine lv_iadd C.1.1 C.1.2.1 dX5_readsSoul_17 ?_
    refine lv_iconst (v := (0 : Int32)) C.1.1 C.1.2.1 dX5_readsSoul_18 (by decide) ?_
    refine lv_bipush (v := (40 : Int32)) C.1.1 C.1.2.1 dX5_readsSoul_19 (by decide) ?_
    obtain ⟨r549, mem549, hc549, hf⟩ := zb_some hf
    refine z_callVi (k := 44) (As := [.int ((29 : Int32) + (mem 47 (1 : Int32).toNatClampNeg)), .int (0 : Int32), .int (40 : Int32)]) (rest := []) C Z (M_X5_number l G C.2.1 N mem ((29 : Int32) + (mem 47 (1 : Int32).toNatClampNeg)) (0 : Int32) (40 : Int32) r549 mem549 hc549) (zcw_X5_78 C.1.2.2.2.2 ⟨Nat.le_of_ble_eq_true rfl, Nat.le_of_ble_eq_true rfl⟩) (by decide) rfl rfl rfl hl.1 rfl (Nat.le_of_ble_eq_true rfl) ⟨Nat.le_refl 0, Nat.le_refl 0⟩ dX5_readsSoul_21 (fun H locs Z => ?_)
    refine lv_if_ne (tgt := 29) C.1.1 C.1.2.1 dX5_readsSoul_24 (by decide) (fun h550 => ?_) (fun h550 => ?_)
    · replace hf := (if_neg h550).symm.trans hf
      refine lv_aload_n C.1.1 C.1.2.1 dX5_readsSoul_29 rfl (lv_at hl 1 rfl) ?_
      refine zg_X5_16 C Z dX5_readsSoul_30 ?_
      refine lv_iconst (v := (1 : Int32)) C.1.1 C.1.2.1 dX5_readsSoul_33 (by decide) ?_
      refine lv_dup2_11 C.1.1 C.1.2.1 dX5_readsSoul_34 rfl rfl ?_
      refine z_iald (k := 47) C Z (by decide) rfl (by decide) dX5_readsSoul_35 ?_
      refine lv_iconst (v := (1 : Int32)) C.1.1 C.1.2.1 dX5_readsSoul_36 (by decide) ?_
      refine lv_iadd C.1.1 C.1.2.1 dX5_readsSoul_37 ?_
      refine z_iast (k := 47) C Z (by decide) (fun _ => rfl) (by decide) dX5_readsSoul_38 (fun H locs Z => ?_)
      obtain ⟨mem551, hm551, hf⟩ := zlet_some hf
      rw [← hm551] at Z
      refine lv_iconst (v := (1 : Int32)) C.1.1 C.1.2.1 dX5_readsSoul_39 (by decide) ?_
      cases hf
      exact z_zret C Z hr hlk (by decide) dX5_readsSoul_40
    · replace hf := (if_pos h550).symm.trans hf
      refine lv_iconst (v := (0 : Int32)) C.1.1 C.1.2.1 dX5_readsSoul_27 (by decide) ?_
      cases hf
      exact z_zret C Z hr hlk (by decide) dX5_readsSoul_28
set_option maxHeartbeats 4000000 in
set_option maxRecDepth 100000 in
theorem M_X5_readsClause (l : Launch) (G : zG) (hG : zOK G) (N : Nat) (mem : zMem) (r : Int32) (mem' : zMem) (hf : f_X5_readsClause N mem = some (r, mem')) : zM l G yX5_readsClause cX5_readsClause 1 (some .boolean) 5 108 [.ref (zr G 44)] mem (zQi G r mem') := by
  refine zStart hG (by decide +kernel) (Nat.le_of_ble_eq_true rfl) (fun p e s m below meth c C hr hlk ls hl Z => ?_)
  have hl : lv_has ls 1 [(0, .ref (zr G 44))] := hl
  have C : zC (zAd G) G p s m _ c cX5_readsClause 1 RX5 := C
  unfold f_X5_readsClause at hf
  refine lv_aload_n C.1.1 C.1.2.1 dX5_readsClause_0 rfl (lv_at hl 0 rfl) ?_
  refine lv_bipush (v := (107 : Int32)) C.1.1 C.1.2.1 dX5_readsClause_1 (by decide) ?_
  refine lv_bipush (v := (105 : Int32)) C.1.1 C.1.2.1 dX5_readsClause_3 (by decide) ?_
  refine lv_bipush (v := (114 : Int32)) C.1.1 C.1.2.1 dX5_readsClause_5 (by decide) ?_
  refine lv_bipush (v := (107 : Int32)) C.1.1 C.1.2.1 dX5_readsClause_7 (by decide) ?_
  refine lv_iconst (v := (0 : Int32)) C.1.1 C.1.2.1 dX5_readsClause_9 (by decide) ?_
  obtain ⟨r552, mem552, hc552, hf⟩ := zb_some hf
  refine z_callVi (k := 44) (As := [.int (107 : Int32), .int (105 : Int32), .int (114 : Int32), .int (107 : Int32), .int (0 : Int32)]) (rest := []) C Z (M_X5_isWord l G C.2.1 N mem (107 : Int32) (105 : Int32) (114 : Int32) (107 : Int32) (0 : Int32) r552 mem552 hc552) (zcw_X5_81 C.1.2.2.2.2 ⟨Nat.le_of_ble_eq_true rfl, Nat.le_of_ble_eq_true rfl⟩) (by decide) rfl rfl rfl hl.1 rfl (Nat.le_of_ble_eq_true rfl) ⟨Nat.le_refl 0, Nat.le_refl 0⟩ dX5_readsClause_10 (fun H locs Z => ?_)
  refine lv_if_eq (tgt := 22) C.1.1 C.1.2.1 dX5_readsClause_13 (by decide) (fun h553 => ?_) (fun h553 => ?_)
  · replace hf := (if_pos h553).symm.trans hf
    refine lv_aload_n C.1.1 C.1.2.1 dX5_readsClause_22 rfl (lv_at hl 0 rfl) ?_
    refine lv_bipush (v := (119 : Int32)) C.1.1 C.1.2.1 dX5_readsClause_23 (by decide) ?_
    refine lv_bipush (v := (111 : Int32)) C.1.1 C.1.2.1 dX5_readsClause_25 (by decide) ?_
    refine lv_bipush (v := (114 : Int32)) C.1.1 C.1.2.1 dX5_readsClause_27 (by decide) ?_
    refine lv_bipush (v := (100 : Int32)) C.1.1 C.1.2.1 dX5_readsClause_29 (by decide) ?_
    refine lv_iconst (v := (0 : Int32)) C.1.1 C.1.2.1 dX5_readsClause_31 (by decide) ?_
    obtain ⟨r554, mem554, hc554, hf⟩ := zb_some hf
    refine z_callVi (k := 44) (As := [.int (119 : Int32), .int (111 : Int32), .int (114 : Int32), .int (100 : Int32), .int (0 : Int32)]) (rest := []) C Z (M_X5_isWord l G C.2.1 N mem552 (119 : Int32) (111 : Int32) (114 : Int32) (100 : Int32) (0 : Int32) r554 mem554 hc554) (zcw_X5_81 C.1.2.2.2.2 ⟨Nat.le_of_ble_eq_true rfl, Nat.le_of_ble_eq_true rfl⟩) (by decide) rfl rfl rfl hl.1 rfl (Nat.le_of_ble_eq_true rfl) ⟨Nat.le_refl 0, Nat.le_refl 0⟩ dX5_readsClause_32 (fun H locs Z => ?_)
    refine lv_if_eq (tgt := 44) C.1.1 C.1.2.1 dX5_readsClause_35 (by decide) (fun h555 => ?_) (fun h555 => ?_)
    · replace hf := (if_pos h555).symm.trans hf
      refine lv_aload_n C.1.1 C.1.2.1 dX5_readsClause_44 rfl (lv_at hl 0 rfl) ?_
      refine lv_bipush (v := (103 : Int32)) C.1.1 C.1.2.1 dX5_readsClause_45 (by decide) ?_
      refine lv_bipush (v := (114 : Int32)) C.1.1 C.1.2.1 dX5_readsClause_47 (by decide) ?_
      refine lv_bipush (v := (101 : Int32)) C.1.1 C.1.2.1 dX5_readsClause_49 (by decide) ?_
      refine lv_bipush (v := (101 : Int32)) C.1.1 C.1.2.1 dX5_readsClause_51 (by decide) ?_
      refine lv_bipush (v := (107 : Int32)) C.1.1 C.1.2.1 dX5_readsClause_53 (by decide) ?_
      obtain ⟨r556, mem556, hc556, hf⟩ := zb_some hf
      refine z_callVi (k := 44) (As := [.int (103 : Int32), .int (114 : Int32), .int (101 : Int32), .int (101 : Int32), .int (107 : Int32)]) (rest := []) C Z (M_X5_isWord l G C.2.1 N mem554 (103 : Int32) (114 : Int32) (101 : Int32) (101 : Int32) (107 : Int32) r556 mem556 hc556) (zcw_X5_81 C.1.2.2.2.2 ⟨Nat.le_of_ble_eq_true rfl, Nat.le_of_ble_eq_true rfl⟩) (by decide) rfl rfl rfl hl.1 rfl (Nat.le_of_ble_eq_true rfl) ⟨Nat.le_refl 0, Nat.le_refl 0⟩ dX5_readsClause_55 (fun H locs Z => ?_)
      refine lv_if_eq (tgt := 67) C.1.1 C.1.2.1 dX5_readsClause_58 (by decide) (fun h557 => ?_) (fun h557 => ?_)
      · replace hf := (if_pos h557).symm.trans hf
        refine lv_aload_n C.1.1 C.1.2.1 dX5_readsClause_67 rfl (lv_at hl 0 rfl) ?_
        refine lv_bipush (v := (113 : Int32)) C.1.1 C.1.2.1 dX5_readsClause_68 (by decide) ?_
        refine lv_bipush (v := (117 : Int32)) C.1.1 C.1.2.1 dX5_readsClause_70 (by decide) ?_
        refine lv_bipush (v := (111 : Int32)) C.1.1 C.1.2.1 dX5_readsClause_72 (by decide) ?_
        refine lv_bipush (v := (116 : Int32)) C.1.1 C.1.2.1 dX5_readsClause_74 (by decide) ?_
        refine lv_bipush (v := (101 : Int32)) C.1.1 C.1.2.1 dX5_readsClause_76 (by decide) ?_
        obtain ⟨r558, mem558, hc558, hf⟩ := zb_some hf
        refine z_callVi (k := 44) (As := [.int (113 : Int32), .int (117 : Int32), .int (111 : Int32), .int (116 : Int32), .int (101 : Int32)]) (rest := []) C Z (M_X5_isWord l G C.2.1 N mem556 (113 : Int32) (117 : Int32) (111 : Int32) (116 : Int32) (101 : Int32) r558 mem558 hc558) (zcw_X5_81 C.1.2.2.2.2 ⟨Nat.le_of_ble_eq_true rfl, Nat.le_of_ble_eq_true rfl⟩) (by decide) rfl rfl rfl hl.1 rfl (Nat.le_of_ble_eq_true rfl) ⟨Nat.le_refl 0, Nat.le_refl 0⟩ dX5_readsClause_78 (fun H locs Z => ?_)
        refine lv_if_eq (tgt := 90) C.1.1 C.1.2.1 dX5_readsClause_81 (by decide) (fun h559 => ?_) (fun h559 => ?_)
        · replace hf := (if_pos h559).symm.trans hf
          refine lv_aload_n C.1.1 C.1.2.1 dX5_readsClause_90 rfl (lv_at hl 0 rfl) ?_
          refine lv_bipush (v := (112 : Int32)) C.1.1 C.1.2.1 dX5_readsClause_91 (by decide) ?_
          refine lv_bipush (v := (115 : Int32)) C.1.1 C.1.2.1 dX5_readsClause_93 (by decide) ?_
          refine lv_bipush (v := (97 : Int32)) C.1.1 C.1.2.1 dX5_readsClause_95 (by decide) ?_
          refine lv_bipush (v := (108 : Int32)) C.1.1 C.1.2.1 dX5_readsClause_97 (by decide) ?_
          refine lv_bipush (v := (109 : Int32)) C.1.1 C.1.2.1 dX5_readsClause_99 (by decide) ?_
          obtain ⟨r560, mem560, hc560, hf⟩ := zb_some hf
          refine z_callVi (k := 44) (As := [.int (112 : Int32), .int (115 : Int32), .int (97 : Int32), .int (108 : Int32), .int (109 : Int32)]) (rest := []) C Z (M_X5_isWord l G C.2.1 N mem558 (112 : Int32) (115 : Int32) (97 : Int32) (108 : Int32) (109 : Int32) r560 mem560 hc560) (zcw_X5_81 C.1.2.2.2.2 ⟨Nat.le_of_ble_eq_true rfl, Nat.le_of_ble_eq_true rfl⟩) (by decide) rfl rfl rfl hl.1 rfl (Nat.le_of_ble_eq_true rfl) ⟨Nat.le_refl 0, Nat.le_refl 0⟩ dX5_readsClause_101 (fun H locs Z => ?_)
          refine lv_if_eq (tgt := 113) C.1.1 C.1.2.1 dX5_readsClause_104 (by decide) (fun h561 => ?_) (fun h561 => ?_)
          · replace hf := (if_pos h561).symm.trans hf
            refine lv_aload_n C.1.1 C.1.2.1 dX5_readsClause_113 rfl (lv_at hl 0 rfl) ?_
            refine lv_bipush (v := (115 : Int32)) C.1.1 C.1.2.1 dX5_readsClause_114 (by decide) ?_
            refine lv_bipush (v := (111 : Int32)) C.1.1 C.1.2.1 dX5_readsClause_116 (by decide) ?_
            refine lv_bipush (v := (117 : Int32)) C.1.1 C.1.2.1 dX5_readsClause_118 (by decide) ?_
            refine lv_bipush (v := (108 : Int32)) C.1.1 C.1.2.1 dX5_readsClause_120 (by decide) ?_
            refine lv_iconst (v := (0 : Int32)) C.1.1 C.1.2.1 dX5_readsClause_122 (by decide) ?_
            obtain ⟨r562, mem562, hc562, hf⟩ := zb_some hf
            refine z_callVi (k := 44) (As := [.int (115 : Int32), .int (111 : Int32), .int (117 : Int32), .int (108 : Int32), .int (0 : Int32)]) (rest := []) C Z (M_X5_isWord l G C.2.1 N mem560 (115 : Int32) (111 : Int32) (117 : Int32) (108 : Int32) (0 : Int32) r562 mem562 hc562) (zcw_X5_81 C.1.2.2.2.2 ⟨Nat.le_of_ble_eq_true rfl, Nat.le_of_ble_eq_true rfl⟩) (by decide) rfl rfl rfl hl.1 rfl (Nat.le_of_ble_eq_true rfl) ⟨Nat.le_refl 0, Nat.le_refl 0⟩ dX5_readsClause_123 (fun H locs Z => ?_)
            refine lv_if_eq (tgt := 134) C.1.1 C.1.2.1 dX5_readsClause_126 (by decide) (fun h563 => ?_) (fun h563 => ?_)
            · replace hf := (if_pos h563).symm.trans hf
              refine lv_aload_n C.1.1 C.1.2.1 dX5_readsClause_134 rfl (lv_at hl 0 rfl) ?_
              refine lv_bipush (v := (116 : Int32)) C.1.1 C.1.2.1 dX5_readsClause_135 (by decide) ?_
              refine lv_bipush (v := (104 : Int32)) C.1.1 C.1.2.1 dX5_readsClause_137 (by decide) ?_
              refine lv_bipush (v := (117 : Int32)) C.1.1 C.1.2.1 dX5_readsClause_139 (by decide) ?_
              refine lv_bipush (v := (109 : Int32)) C.1.1 C.1.2.1 dX5_readsClause_141 (by decide) ?_
              refine lv_bipush (v := (98 : Int32)) C.1.1 C.1.2.1 dX5_readsClause_143 (by decide) ?_
              obtain ⟨r564, mem564, hc564, hf⟩ := zb_some hf
              refine z_callVi (k := 44) (As := [.int (116 : Int32), .int (104 : Int32), .int (117 : Int32), .int (109 : Int32), .int (98 : Int32)]) (rest := []) C Z (M_X5_isWord l G C.2.1 N mem562 (116 : Int32) (104 : Int32) (117 : Int32) (109 : Int32) (98 : Int32) r564 mem564 hc564) (zcw_X5_81 C.1.2.2.2.2 ⟨Nat.le_of_ble_eq_true rfl, Nat.le_of_ble_eq_true rfl⟩) (by decide) rfl rfl rfl hl.1 rfl (Nat.le_of_ble_eq_true rfl) ⟨Nat.le_refl 0, Nat.le_refl 0⟩ dX5_readsClause_145 (fun H locs Z => ?_)
              refine lv_if_eq (tgt := 160) C.1.1 C.1.2.1 dX5_readsClause_148 (by decide) (fun h565 => ?_) (fun h565 => ?_)
              · replace hf := (if_pos h565).symm.trans hf
                refine lv_aload_n C.1.1 C.1.2.1 dX5_readsClause_160 rfl (lv_at hl 0 rfl) ?_
                refine lv_bipush (v := (98 : Int32)) C.1.1 C.1.2.1 dX5_readsClause_161 (by decide) ?_
                refine lv_bipush (v := (101 : Int32)) C.1.1 C.1.2.1 dX5_readsClause_163 (by decide) ?_
                refine lv_bipush (v := (97 : Int32)) C.1.1 C.1.2.1 dX5_readsClause_165 (by decide) ?_
                refine lv_bipush (v := (109 : Int32)) C.1.1 C.1.2.1 dX5_readsClause_167 (by decide) ?_
                refine lv_iconst (v := (0 : Int32)) C.1.1 C.1.2.1 dX5_readsClause_169 (by decide) ?_
                obtain ⟨r566, mem566, hc566, hf⟩ := zb_some hf
                refine z_callVi (k := 44) (As := [.int (98 : Int32), .int (101 : Int32), .int (97 : Int32), .int (109 : Int32), .int (0 : Int32)]) (rest := []) C Z (M_X5_isWord l G C.2.1 N mem564 (98 : Int32) (101 : Int32) (97 : Int32) (109 : Int32) (0 : Int32) r566 mem566 hc566) (zcw_X5_81 C.1.2.2.2.2 ⟨Nat.le_of_ble_eq_true rfl, Nat.le_of_ble_eq_true rfl⟩) (by decide) rfl rfl rfl hl.1 rfl (Nat.le_of_ble_eq_true rfl) ⟨Nat.le_refl 0, Nat.le_refl 0⟩ dX5_readsClause_170 (fun H locs Z => ?_)
                refine lv_if_eq (tgt := 184) C.1.1 C.1.2.1 dX5_readsClause_173 (by decide) (fun h567 => ?_) (fun h567 => ?_)
                · replace hf := (if_pos h567).symm.trans hf
                  refine lv_aload_n C.1.1 C.1.2.1 dX5_readsClause_184 rfl (lv_at hl 0 rfl) ?_
                  refine lv_bipush (v := (119 : Int32)) C.1.1 C.1.2.1 dX5_readsClause_185 (by decide) ?_
                  refine lv_bipush (v := (101 : Int32)) C.1.1 C.1.2.1 dX5_readsClause_187 (by decide) ?_
                  refine lv_bipush (v := (116 : Int32)) C.1.1 C.1.2.1 dX5_readsClause_189 (by decide) ?_
                  refine lv_iconst (v := (0 : Int32)) C.1.1 C.1.2.1 dX5_readsClause_191 (by decide) ?_
                  refine lv_iconst (v := (0 : Int32)) C.1.1 C.1.2.1 dX5_readsClause_192 (by decide) ?_
                  obtain ⟨r568, mem568, hc568, hf⟩ := zb_some hf
                  refine z_callVi (k := 44) (As := [.int (119 : Int32), .int (101 : Int32), .int (116 : Int32), .int (0 : Int32), .int (0 : Int32)]) (rest := []) C Z (M_X5_isWord l G C.2.1 N mem566 (119 : Int32) (101 : Int32) (116 : Int32) (0 : Int32) (0 : Int32) r568 mem568 hc568) (zcw_X5_81 C.1.2.2.2.2 ⟨Nat.le_of_ble_eq_true rfl, Nat.le_of_ble_eq_true rfl⟩) (by decide) rfl rfl rfl hl.1 rfl (Nat.le_of_ble_eq_true rfl) ⟨Nat.le_refl 0, Nat.le_refl 0⟩ dX5_readsClause_193 (fun H locs Z => ?_)
                  refine lv_if_eq (tgt := 214) C.1.1 C.1.2.1 dX5_readsClause_196 (by decide) (fun h569 => ?_) (fun h569 => ?_)
                  · replace hf := (if_pos h569).symm.trans hf
                    refine lv_iconst (v := (0 : Int32)) C.1.1 C.1.2.1 dX5_readsClause_214 (by decide) ?_
                    cases hf
                    exact z_zret C Z hr hlk (by decide) dX5_readsClause_215
                  · replace hf := (if_neg h569).symm.trans hf
                    refine lv_aload_n C.1.1 C.1.2.1 dX5_readsClause_199 rfl (lv_at hl 0 rfl) ?_
                    refine lv_iconst (v := (4 : Int32)) C.1.1 C.1.2.1 dX5_readsClause_200 (by decide) ?_
                    refine lv_iconst (v := (0 : Int32)) C.1.1 C.1.2.1 dX5_readsClause_201 (by decide) ?_
                    refine lv_bipush (v := (9 : Int32)) C.1.1 C.1.2.1 dX5_readsClause_202 (by decide) ?_
                    obtain ⟨r570, mem570, hc570, hf⟩ := zb_some hf
                    refine z_callVi (k := 44) (As := [.int (4 : Int32), .int (0 : Int32), .int (9 : Int32)]) (rest := []) C Z (M_X5_number l G C.2.1 N mem568 (4 : Int32) (0 : Int32) (9 : Int32) r570 mem570 hc570) (zcw_X5_78 C.1.2.2.2.2 ⟨Nat.le_of_ble_eq_true rfl, Nat.le_of_ble_eq_true rfl⟩) (by decide) rfl rfl rfl hl.1 rfl (Nat.le_of_ble_eq_true rfl) ⟨Nat.le_refl 0, Nat.le_refl 0⟩ dX5_readsClause_204 (fun H locs Z => ?_)
                    refine lv_if_eq (tgt := 214) C.1.1 C.1.2.1 dX5_readsClause_207 (by decide) (fun h571 => ?_) (fun h571 => ?_)
                    · replace hf := (if_pos h571).symm.trans hf
                      refine lv_iconst (v := (0 : Int32)) C.1.1 C.1.2.1 dX5_readsClause_214 (by decide) ?_
                      cases hf
                      exact z_zret C Z hr hlk (by decide) dX5_readsClause_215
                    · replace hf := (if_neg h571).symm.trans hf
                      refine lv_iconst (v := (1 : Int32)) C.1.1 C.1.2.1 dX5_readsClause_210 (by decide) ?_
                      refine lv_goto (tgt := 215) C.1.1 C.1.2.1 dX5_readsClause_211 (by decide) ?_
                      cases hf
                      exact z_zret C Z hr hlk (by decide) dX5_readsClause_215
                · replace hf := (if_neg h567).symm.trans hf
                  refine lv_aload_n C.1.1 C.1.2.1 dX5_readsClause_176 rfl (lv_at hl 0 rfl) ?_
                  refine lv_iconst (v := (3 : Int32)) C.1.1 C.1.2.1 dX5_readsClause_177 (by decide) ?_
                  refine lv_iconst (v := (0 : Int32)) C.1.1 C.1.2.1 dX5_readsClause_178 (by decide) ?_
                  refine lv_iconst (v := (5 : Int32)) C.1.1 C.1.2.1 dX5_readsClause_179 (by decide) ?_
                  obtain ⟨r572, mem572, hc572, hf⟩ := zb_some hf
                  refine z_callVi (k := 44) (As := [.int (3 : Int32), .int (0 : Int32), .int (5 : Int32)]) (rest := []) C Z (M_X5_number l G C.2.1 N mem566 (3 : Int32) (0 : Int32) (5 : Int32) r572 mem572 hc572) (zcw_X5_78 C.1.2.2.2.2 ⟨Nat.le_of_ble_eq_true rfl, Nat.le_of_ble_eq_true rfl⟩) (by decide) rfl rfl rfl hl.1 rfl (Nat.le_of_ble_eq_true rfl) ⟨Nat.le_refl 0, Nat.le_refl 0⟩ dX5_readsClause_180 (fun H locs Z => ?_)
                  obtain ⟨hb573, hf⟩ := zgd_some hf
                  cases hf
                  exact z_zret C Z hr hlk hb573 dX5_readsClause_183
              · replace hf := (if_neg h565).symm.trans hf
                refine lv_aload_n C.1.1 C.1.2.1 dX5_readsClause_151 rfl (lv_at hl 0 rfl) ?_
                refine lv_iconst (v := (2 : Int32)) C.1.1 C.1.2.1 dX5_readsClause_152 (by decide) ?_
                refine lv_iconst (v := (0 : Int32)) C.1.1 C.1.2.1 dX5_readsClause_153 (by decide) ?_
                refine lv_bipush (v := (9 : Int32)) C.1.1 C.1.2.1 dX5_readsClause_154 (by decide) ?_
                obtain ⟨r574, mem574, hc574, hf⟩ := zb_some hf
                refine z_callVi (k := 44) (As := [.int (2 : Int32), .int (0 : Int32), .int (9 : Int32)]) (rest := []) C Z (M_X5_number l G C.2.1 N mem564 (2 : Int32) (0 : Int32) (9 : Int32) r574 mem574 hc574) (zcw_X5_78 C.1.2.2.2.2 ⟨Nat.le_of_ble_eq_true rfl, Nat.le_of_ble_eq_true rfl⟩) (by decide) rfl rfl rfl hl.1 rfl (Nat.le_of_ble_eq_true rfl) ⟨Nat.le_refl 0, Nat.le_refl 0⟩ dX5_readsClause_156 (fun H locs Z => ?_)
                obtain ⟨hb575, hf⟩ := zgd_some hf
                cases hf
                exact z_zret C Z hr hlk hb575 dX5_readsClause_159
            · replace hf := (if_neg h563).symm.trans hf
              refine lv_aload_n C.1.1 C.1.2.1 dX5_readsClause_129 rfl (lv_at hl 0 rfl) ?_
              obtain ⟨r576, mem576, hc576, hf⟩ := zb_some hf
              refine z_callVi (k := 44) (As := []) (rest := []) C Z (M_X5_readsSoul l G C.2.1 N mem562 r576 mem576 hc576) (zcw_X5_88 C.1.2.2.2.2 ⟨Nat.le_of_ble_eq_true rfl, Nat.le_of_ble_eq_true rfl⟩) (by decide) rfl rfl rfl hl.1 rfl (Nat.le_of_ble_eq_true rfl) ⟨Nat.le_refl 0, Nat.le_refl 0⟩ dX5_readsClause_130 (fun H locs Z => ?_)
              obtain ⟨hb577, hf⟩ := zgd_some hf
              cases hf
              exact z_zret C Z hr hlk hb577 dX5_readsClause_133
          · replace hf := (if_neg h561).symm.trans hf
            refine lv_aload_n C.1.1 C.1.2.1 dX5_readsClause_107 rfl (lv_at hl 0 rfl) ?_
            refine lv_iconst (v := (3 : Int32)) C.1.1 C.1.2.1 dX5_readsClause_108 (by decide) ?_
            obtain ⟨r578, mem578, hc578, hf⟩ := zb_some hf
            refine z_callVi (k := 44) (As := [.int (3 : Int32)]) (rest := []) C Z (M_X5_readsPart l G C.2.1 N mem560 (3 : Int32) r578 mem578 hc578) (zcw_X5_85 C.1.2.2.2.2 ⟨Nat.le_of_ble_eq_true rfl, Nat.le_of_ble_eq_true rfl⟩) (by decide) rfl rfl rfl hl.1 rfl (Nat.le_of_ble_eq_true rfl) ⟨Nat.le_refl 0, Nat.le_refl 0⟩ dX5_readsClause_109 (fun H locs Z => ?_)
            obtain ⟨hb579, hf⟩ := zgd_some hf
            cases hf
            exact z_zret C Z hr hlk hb579 dX5_readsClause_112
        · replace hf := (if_neg h559).symm.trans hf
          refine lv_aload_n C.1.1 C.1.2.1 dX5_readsClause_84 rfl (lv_at hl 0 rfl) ?_
          refine lv_iconst (v := (2 : Int32)) C.1.1 C.1.2.1 dX5_readsClause_85 (by decide) ?_
          obtain ⟨r580, mem580, hc580, hf⟩ := zb_some hf
          refine z_callVi (k := 44) (As := [.int (2 : Int32)]) (rest := []) C Z (M_X5_readsPart l G C.2.1 N mem558 (2 : Int32) r580 mem580 hc580) (zcw_X5_85 C.1.2.2.2.2 ⟨Nat.le_of_ble_eq_true rfl, Nat.le_of_ble_eq_true rfl⟩) (by decide) rfl rfl rfl hl.1 rfl (Nat.le_of_ble_eq_true rfl) ⟨Nat.le_refl 0, Nat.le_refl 0⟩ dX5_readsClause_86 (fun H locs Z => ?_)
          obtain ⟨hb581, hf⟩ := zgd_some hf
          cases hf
          exact z_zret C Z hr hlk hb581 dX5_readsClause_89
      · replace hf := (if_neg h557).symm.trans hf
        refine lv_aload_n C.1.1 C.1.2.1 dX5_readsClause_61 rfl (lv_at hl 0 rfl) ?_
        refine lv_iconst (v := (1 : Int32)) C.1.1 C.1.2.1 dX5_readsClause_62 (by decide) ?_
        obtain ⟨r582, mem582, hc582, hf⟩ := zb_some hf
        refine z_callVi (k := 44) (As := [.int (1 : Int32)]) (rest := []) C Z (M_X5_readsPart l G C.2.1 N mem556 (1 : Int32) r582 mem582 hc582) (zcw_X5_85 C.1.2.2.2.2 ⟨Nat.le_of_ble_eq_true rfl, Nat.le_of_ble_eq_true rfl⟩) (by decide) rfl rfl rfl hl.1 rfl (Nat.le_of_ble_eq_true rfl) ⟨Nat.le_refl 0, Nat.le_refl 0⟩ dX5_readsClause_63 (fun H locs Z => ?_)
        obtain ⟨hb583, hf⟩ := zgd_some hf
        cases hf
        exact z_zret C Z hr hlk hb583 dX5_readsClause_66
    · replace hf := (if_neg h555).symm.trans hf
      refine lv_aload_n C.1.1 C.1.2.1 dX5_readsClause_38 rfl (lv_at hl 0 rfl) ?_
      refine lv_iconst (v := (0 : Int32)) C.1.1 C.1.2.1 dX5_readsClause_39 (by decide) ?_
      obtain ⟨r584, mem584, hc584, hf⟩ := zb_some hf
      refine z_callVi (k := 44) (As := [.int (0 : Int32)]) (rest := []) C Z (M_X5_readsPart l G C.2.1 N mem554 (0 : Int32) r584 mem584 hc584) (zcw_X5_85 C.1.2.2.2.2 ⟨Nat.le_of_ble_eq_true rfl, Nat.le_of_ble_eq_true rfl⟩) (by decide) rfl rfl rfl hl.1 rfl (Nat.le_of_ble_eq_true rfl) ⟨Nat.le_refl 0, Nat.le_refl 0⟩ dX5_readsClause_40 (fun H locs Z => ?_)
      obtain ⟨hb585, hf⟩ := zgd_some hf
      cases hf
      exact z_zret C Z hr hlk hb585 dX5_readsClause_43
  · replace hf := (if_neg h553).symm.trans hf
    refine lv_aload_n C.1.1 C.1.2.1 dX5_readsClause_16 rfl (lv_at hl 0 rfl) ?_
    obtain ⟨r586, mem586, hc586, hf⟩ := zb_some hf
    refine z_callVv (k := 44) (As := []) (rest := []) C Z (M_X5_forgets l G C.2.1 N mem552 r586 mem586 hc586) (zcw_X5_38 C.1.2.2.2.2 ⟨Nat.le_of_ble_eq_true rfl, Nat.le_of_ble_eq_true rfl⟩) (by decide) rfl rfl rfl hl.1 rfl (Nat.le_of_ble_eq_true rfl) ⟨Nat.le_refl 0, Nat.le_refl 0⟩ dX5_readsClause_17 (fun H locs Z => ?_)
    refine lv_iconst (v := (1 : Int32)) C.1.1 C.1.2.1 dX5_readsClause_20 (by decide) ?_
    cases hf
    exact z_zret C Z hr hlk (by decide) dX5_readsClause_21
set_option maxHeartbeats 4000000 in
set_option maxRecDepth 100000 in
theorem K_X5_reads_35 {p : Program} {l : Launch} {e : Env} {s : State} {m : MethodId} {args : Array Value} {below : List Frame} {meth : Method} {c : Code} {G : zG} (C : zC (zAd G) G p s m args c cX5_reads 3 RX5) (hr : meth.sig.returnType = (some .int)) (hlk : meth.locks = false) {r : Int32} {mem' : zMem} (N : Nat) : ∀ (n : Nat) (mem : zMem) (x1 : Int32) (x2 : Int32) (H : Heap) (locs : List Loc) (ls : Array Slot), zH (zAd G) G s mem H locs → lv_has ls 3 [(0, .ref (zr G 44)), (1, .int x1), (2, .int x2)] → f_X5_reads_35 N n mem x1 x2 = some (r, mem') → W p l e ({ frames := 6, cells := 0, slots := 0, locals := 128 } : Room) s m args below meth c H locs 0 0 (MQ below (zQi G r mem') args s 0 0 (zAd G)) (F0 m 35 ls []) := by
  intro n
  induction n with
  | zero =>
    intro mem x1 x2 H locs ls Z hl hf
    rw [f_X5_reads_35.eq_1] at hf
    cases hf
  | succ n ih =>
    intro mem x1 x2 H locs ls Z hl hf
    rw [f_X5_reads_35.eq_2] at hf
    refine lv_iload_n C.1.1 C.1.2.1 dX5_reads_35 rfl (lv_at hl 2 rfl) ?_
    refine lv_if_eq (tgt := 106) C.1.1 C.1.2.1 dX5_reads_36 (by decide) (fun h587 => ?_) (fun h587 => ?_)
    · replace hf := (if_pos h587).symm.trans hf
      refine lv_iload_n C.1.1 C.1.2.1 dX5_reads_106 rfl (lv_at hl 1 rfl) ?_
      cases hf
      exact z_iret C Z hr hlk dX5_reads_107
    · replace hf := (if_neg h587).symm.trans hf
      refine lv_aload_n C.1.1 C.1.2.1 dX5_reads_39 rfl (lv_at hl 0 rfl) ?_
      obtain ⟨r588, mem588, hc588, hf⟩ := zb_some hf
      refine z_callVv (k := 44) (As := []) (rest := []) C Z (M_X5_token l G C.2.1 N mem r588 mem588 hc588) (zcw_X5_75 C.1.2.2.2.2 ⟨Nat.le_of_ble_eq_true rfl, Nat.le_of_ble_eq_true rfl⟩) (by decide) rfl rfl rfl hl.1 rfl (Nat.le_of_ble_eq_true rfl) ⟨Nat.le_refl 0, Nat.le_refl 0⟩ dX5_reads_40 (fun H locs Z => ?_)
      refine lv_aload_n C.1.1 C.1.2.1 dX5_reads_43 rfl (lv_at hl 0 rfl) ?_
      obtain ⟨r589, mem589, hc589, hf⟩ := zb_some hf
      refine z_callVi (k := 44) (As := []) (rest := []) C Z (M_X5_readsClause l G C.2.1 N mem588 r589 mem589 hc589) (zcw_X5_92 C.1.2.2.2.2 ⟨Nat.le_of_ble_eq_true rfl, Nat.le_of_ble_eq_true rfl⟩) (by decide) rfl rfl rfl hl.1 rfl (Nat.le_of_ble_eq_true rfl) ⟨Nat.le_refl 0, Nat.le_refl 0⟩ dX5_reads_44 (fun H locs Z => ?_)
      refine lv_if_ne (tgt := 52) C.1.1 C.1.2.1 dX5_reads_47 (by decide) (fun h590 => ?_) (fun h590 => ?_)
      · replace hf := (if_neg h590).symm.trans hf
        refine lv_iinc (v := (x1 + 1)) (lv' := [(1, .int (x1 + 1)), (0, .ref (zr G 44)), (2, .int x2)]) C.1.1 C.1.2.1 dX5_reads_52 hl (k := 1) rfl rfl (by decide) rfl (fun ls hl => ?_)
        refine lv_aload_n C.1.1 C.1.2.1 dX5_reads_55 rfl (lv_at hl 1 rfl) ?_
        obtain ⟨r591, mem591, hc591, hf⟩ := zb_some hf
        refine z_callVv (k := 44) (As := []) (rest := []) C Z (M_X5_token l G C.2.1 N mem589 r591 mem591 hc591) (zcw_X5_75 C.1.2.2.2.2 ⟨Nat.le_of_ble_eq_true rfl, Nat.le_of_ble_eq_true rfl⟩) (by decide) rfl rfl rfl hl.1 rfl (Nat.le_of_ble_eq_true rfl) ⟨Nat.le_refl 0, Nat.le_refl 0⟩ dX5_reads_56 (fun H locs Z => ?_)
        refine lv_aload_n C.1.1 C.1.2.1 dX5_reads_59 rfl (lv_at hl 1 rfl) ?_
        refine zg_X5_69 C Z dX5_reads_60 ?_
        refine lv_if_eq (tgt := 70) C.1.1 C.1.2.1 dX5_reads_63 (by decide) (fun h592 => ?_) (fun h592 => ?_)
        · replace hf := (if_pos h592).symm.trans hf
          refine lv_iconst (v := (0 : Int32)) C.1.1 C.1.2.1 dX5_reads_70 (by decide) ?_
          refine lv_istore_n (lv' := [(2, .int (0 : Int32)), (1, .int (x1 + 1)), (0, .ref (zr G 44))]) C.1.1 C.1.2.1 dX5_reads_71 rfl hl (by decide) rfl (fun ls hl => ?_)
          refine lv_iload_n C.1.1 C.1.2.1 dX5_reads_72 rfl (lv_at hl 0 rfl) ?_
          refine lv_if_eq (tgt := 35) C.1.1 C.1.2.1 dX5_reads_73 (by decide) (fun h593 => ?_) (fun h593 => ?_)
          · replace hf := (if_pos h593).symm.trans hf
            exact ih mem591 (x1 + 1) (0 : Int32) _ _ _ Z (lv_sub hl [2, 1, 0] rfl) hf
          · replace hf := (if_neg h593).symm.trans hf
            refine lv_aload_n C.1.1 C.1.2.1 dX5_reads_76 rfl (lv_at hl 2 rfl) ?_
            refine zg_X5_69 C Z dX5_reads_77 ?_
            refine lv_iconst (v := (3 : Int32)) C.1.1 C.1.2.1 dX5_reads_80 (by decide) ?_
            refine lv_icmp_ne (tgt := 104) C.1.1 C.1.2.1 dX5_reads_81 (by decide) (fun h594 => ?_) (fun h594 => ?_)
            · replace hf := (if_neg h594).symm.trans hf
              refine lv_iconst (v := (-1 : Int32)) C.1.1 C.1.2.1 dX5_reads_104 (by decide) ?_
              cases hf
              exact z_iret C Z hr hlk dX5_reads_105
            · replace hf := (if_pos h594).symm.trans hf
              refine lv_aload_n C.1.1 C.1.2.1 dX5_reads_84 rfl (lv_at hl 2 rfl) ?_
              refine zg_X5_7 C Z dX5_reads_85 ?_
              refine lv_aload_n C.1.1 C.1.2.1 dX5_reads_88 rfl (lv_at hl 2 rfl) ?_
              refine zg_X5_59 C Z dX5_reads_89 ?_
              obtain ⟨hi595, hf⟩ := zgd_some hf
              refine z_iald (k := 45) C Z (by decide) rfl hi595 dX5_reads_92 ?_
              refine lv_bipush (v := (59 : Int32)) C.1.1 C.1.2.1 dX5_reads_93 (by decide) ?_
              refine lv_icmp_ne (tgt := 104) C.1.1 C.1.2.1 dX5_reads_95 (by decide) (fun h596 => ?_) (fun h596 => ?_)
              · replace hf := (if_neg h596).symm.trans hf
                refine lv_iconst (v := (-1 : Int32)) C.1.1 C.1.2.1 dX5_reads_104 (by decide) ?_
                cases hf
                exact z_iret C Z hr hlk dX5_reads_105
              · replace hf := (if_pos h596).symm.trans hf
                refine lv_iload_n C.1.1 C.1.2.1 dX5_reads_98 rfl (lv_at hl 1 rfl) ?_
                refine lv_bipush (v := (14 : Int32)) C.1.1 C.1.2.1 dX5_reads_99 (by decide) ?_
                refine lv_icmp_ne (tgt := 35) C.1.1 C.1.2.1 dX5_reads_101 (by decide) (fun h597 => ?_) (fun h597 => ?_)
                · replace hf := (if_neg h597).symm.trans hf
                  exact ih mem591 (x1 + 1) (0 : Int32) _ _ _ Z (lv_sub hl [2, 1, 0] rfl) hf
                · replace hf := (if_pos h597).symm.trans hf
                  refine lv_iconst (v := (-1 : Int32)) C.1.1 C.1.2.1 dX5_reads_104 (by decide) ?_
                  cases hf
                  exact z_iret C Z hr hlk dX5_reads_105
        · replace hf := (if_neg h592).symm.trans hf
          refine lv_iconst (v := (1 : Int32)) C.1.1 C.1.2.1 dX5_reads_66 (by decide) ?_
          refine lv_goto (tgt := 71) C.1.1 C.1.2.1 dX5_reads_67 (by decide) ?_
          refine lv_istore_n (lv' := [(2, .int (1 : Int32)), (1, .int (x1 + 1)), (0, .ref (zr G 44))]) C.1.1 C.1.2.1 dX5_reads_71 rfl hl (by decide) rfl (fun ls hl => ?_)
          refine lv_iload_n C.1.1 C.1.2.1 dX5_reads_72 rfl (lv_at hl 0 rfl) ?_
          refine lv_if_eq (tgt := 35) C.1.1 C.1.2.1 dX5_reads_73 (by decide) (fun h598 => ?_) (fun h598 => ?_)
          · replace hf := (if_pos h598).symm.trans hf
            exact ih mem591 (x1 + 1) (1 : Int32) _ _ _ Z (lv_sub hl [2, 1, 0] rfl) hf
          · replace hf := (if_neg h598).symm.trans hf
            refine lv_aload_n C.1.1 C.1.2.1 dX5_reads_76 rfl (lv_at hl 2 rfl) ?_
            refine zg_X5_69 C Z dX5_reads_77 ?_
            refine lv_iconst (v := (3 : Int32)) C.1.1 C.1.2.1 dX5_reads_80 (by decide) ?_
            refine lv_icmp_ne (tgt := 104) C.1.1 C.1.2.1 dX5_reads_81 (by decide) (fun h599 => ?_) (fun h599 => ?_)
            · replace hf := (if_neg h599).symm.trans hf
              refine lv_iconst (v := (-1 : Int32)) C.1.1 C.1.2.1 dX5_reads_104 (by decide) ?_
              cases hf
              exact z_iret C Z hr hlk dX5_reads_105
            · replace hf := (if_pos h599).symm.trans hf
              refine lv_aload_n C.1.1 C.1.2.1 dX5_reads_84 rfl (lv_at hl 2 rfl) ?_
              refine zg_X5_7 C Z dX5_reads_85 ?_
              refine lv_aload_n C.1.1 C.1.2.1 dX5_reads_88 rfl (lv_at hl 2 rfl) ?_
              refine zg_X5_59 C Z dX5_reads_89 ?_
              obtain ⟨hi600, hf⟩ := zgd_some hf
              refine z_iald (k := 45) C Z (by decide) rfl hi600 dX5_reads_92 ?_
              refine lv_bipush (v := (59 : Int32)) C.1.1 C.1.2.1 dX5_reads_93 (by decide) ?_
              refine lv_icmp_ne (tgt := 104) C.1.1 C.1.2.1 dX5_reads_95 (by decide) (fun h601 => ?_) (fun h601 => ?_)
              · replace hf := (if_neg h601).symm.trans hf
                refine lv_iconst (v := (-1 : Int32)) C.1.1 C.1.2.1 dX5_reads_104 (by decide) ?_
                cases hf
                exact z_iret C Z hr hlk dX5_reads_105
              · replace hf := (if_pos h601).symm.trans hf
                refine lv_iload_n C.1.1 C.1.2.1 dX5_reads_98 rfl (lv_at hl 1 rfl) ?_
                refine lv_bipush (v := (14 : Int32)) C.1.1 C.1.2.1 dX5_reads_99 (by decide) ?_
                refine lv_icmp_ne (tgt := 35) C.1.1 C.1.2.1 dX5_reads_101 (by decide) (fun h602 => ?_) (fun h602 => ?_)
                · replace hf := (if_neg h602).symm.trans hf
                  exact ih mem591 (x1 + 1) (1 : Int32) _ _ _ Z (lv_sub hl [2, 1, 0] rfl) hf
                · replace hf := (if_pos h602).symm.trans hf
                  refine lv_iconst (v := (-1 : Int32)) C.1.1 C.1.2.1 dX5_reads_104 (by decide) ?_
                  cases hf
                  exact z_iret C Z hr hlk dX5_reads_105
      · replace hf := (if_pos h590).symm.trans hf
        refine lv_iconst (v := (-1 : Int32)) C.1.1 C.1.2.1 dX5_reads_50 (by decide) ?_
        cases hf
        exact z_iret C Z hr hlk dX5_reads_51
set_option maxHeartbeats 4000000 in
set_option maxRecDepth 100000 in
theorem K_X5_reads_2 {p : Program} {l : Launch} {e : Env} {s : State} {m : MethodId} {args : Array Value} {below : List Frame} {meth : Method} {c : Code} {G : zG} (C : zC (zAd G) G p s m args c cX5_reads 3 RX5) (hr : meth.sig.returnType = (some .int)) (hlk : meth.locks = false) {r : Int32} {mem' : zMem} (N : Nat) : ∀ (n : Nat) (mem : zMem) (x1 : Int32) (H : Heap) (locs : List Loc) (ls : Array Slot), zH (zAd G) G s mem H locs → lv_has ls 3 [(0, .ref (zr G 44)), (1, .int x1)] → f_X5_reads_2 N n mem x1 = some (r, mem') → W p l e ({ frames := 6, cells := 0, slots := 0, locals := 128 } : Room) s m args below meth c H locs 0 0 (MQ below (zQi G r mem') args s 0 0 (zAd G)) (F0 m 2 ls []) := by
  intro n
  induction n with
  | zero =>
    intro mem x1 H locs ls Z hl hf
    rw [f_X5_reads_2.eq_1] at hf
    cases hf
  | succ n ih =>
    intro mem x1 H locs ls Z hl hf
    rw [f_X5_reads_2.eq_2] at hf
    refine lv_iload_n C.1.1 C.1.2.1 dX5_reads_2 rfl (lv_at hl 1 rfl) ?_
    refine lv_bipush (v := (35 : Int32)) C.1.1 C.1.2.1 dX5_reads_3 (by decide) ?_
    refine lv_icmp_ge (tgt := 26) C.1.1 C.1.2.1 dX5_reads_5 (by decide) (fun h603 => ?_) (fun h603 => ?_)
    · replace hf := (if_pos h603).symm.trans hf
      refine lv_aload_n C.1.1 C.1.2.1 dX5_reads_26 rfl (lv_at hl 0 rfl) ?_
      refine lv_iconst (v := (0 : Int32)) C.1.1 C.1.2.1 dX5_reads_27 (by decide) ?_
      refine zp_X5_52 C Z dX5_reads_28 (fun H locs Z => ?_)
      obtain ⟨mem604, hm604, hf⟩ := zlet_some hf
      rw [← hm604] at Z
      refine lv_iconst (v := (0 : Int32)) C.1.1 C.1.2.1 dX5_reads_31 (by decide) ?_
      refine lv_istore_n (lv' := [(1, .int (0 : Int32)), (0, .ref (zr G 44))]) C.1.1 C.1.2.1 dX5_reads_32 rfl hl (by decide) rfl (fun ls hl => ?_)
      refine lv_iconst (v := (1 : Int32)) C.1.1 C.1.2.1 dX5_reads_33 (by decide) ?_
      refine lv_istore_n (lv' := [(2, .int (1 : Int32)), (1, .int (0 : Int32)), (0, .ref (zr G 44))]) C.1.1 C.1.2.1 dX5_reads_34 rfl hl (by decide) rfl (fun ls hl => ?_)
      exact K_X5_reads_35 (l := l) (e := e) (below := below) C hr hlk N N mem604 (0 : Int32) (1 : Int32) _ _ _ Z (lv_sub hl [2, 1, 0] rfl) hf
    · replace hf := (if_neg h603).symm.trans hf
      refine lv_aload_n C.1.1 C.1.2.1 dX5_reads_8 rfl (lv_at hl 0 rfl) ?_
      refine zg_X5_16 C Z dX5_reads_9 ?_
      refine lv_iload_n C.1.1 C.1.2.1 dX5_reads_12 rfl (lv_at hl 1 rfl) ?_
      refine lv_aload_n C.1.1 C.1.2.1 dX5_reads_13 rfl (lv_at hl 0 rfl) ?_
      refine zg_X5_13 C Z dX5_reads_14 ?_
      refine lv_iload_n C.1.1 C.1.2.1 dX5_reads_17 rfl (lv_at hl 1 rfl) ?_
      obtain ⟨hi605, hf⟩ := zgd_some hf
      refine z_iald (k := 46) C Z (by decide) rfl hi605 dX5_reads_18 ?_
      obtain ⟨hi606, hf⟩ := zgd_some hf
      refine z_iast (k := 47) C Z (by decide) (fun _ => rfl) hi606 dX5_reads_19 (fun H locs Z => ?_)
      obtain ⟨mem607, hm607, hf⟩ := zlet_some hf
      rw [← hm607] at Z
      refine lv_iinc (v := (x1 + 1)) (lv' := [(1, .int (x1 + 1)), (0, .ref (zr G 44))]) C.1.1 C.1.2.1 dX5_reads_20 hl (k := 1) rfl rfl (by decide) rfl (fun ls hl => ?_)
      refine lv_goto (tgt := 2) C.1.1 C.1.2.1 dX5_reads_23 (by decide) ?_
      exact ih mem607 (x1 + 1) _ _ _ Z (lv_sub hl [1, 0] rfl) hf
set_option maxHeartbeats 4000000 in
set_option maxRecDepth 100000 in
theorem M_X5_reads (l : Launch) (G : zG) (hG : zOK G) (N : Nat) (mem : zMem) (r : Int32) (mem' : zMem) (hf : f_X5_reads N mem = some (r, mem')) : zM l G yX5_reads cX5_reads 3 (some .int) 6 128 [.ref (zr G 44)] mem (zQi G r mem') := by
  refine zStart hG (by decide +kernel) (Nat.le_of_ble_eq_true rfl) (fun p e s m below meth c C hr hlk ls hl Z => ?_)
  have hl : lv_has ls 3 [(0, .ref (zr G 44))] := hl
  have C : zC (zAd G) G p s m _ c cX5_reads 3 RX5 := C
  unfold f_X5_reads at hf
  refine lv_iconst (v := (0 : Int32)) C.1.1 C.1.2.1 dX5_reads_0 (by decide) ?_
  refine lv_istore_n (lv' := [(1, .int (0 : Int32)), (0, .ref (zr G 44))]) C.1.1 C.1.2.1 dX5_reads_1 rfl hl (by decide) rfl (fun ls hl => ?_)
  exact K_X5_reads_2 (l := l) (e := e) (below := below) C hr hlk N N mem (0 : Int32) _ _ _ Z (lv_sub hl [1, 0] rfl) hf
set_option maxHeartbeats 4000000 in
set_option maxRecDepth 100000 in
theorem K_X5_lays_2 {p : Program} {l : Launch} {e : Env} {s : State} {m : MethodId} {args : Array Value} {below : List Frame} {meth : Method} {c : Code} {G : zG} (C : zC (zAd G) G p s m args c cX5_lays 2 RX5) (hr : meth.sig.returnType = none) (hlk : meth.locks = false) {r : Unit} {mem' : zMem} (N : Nat) : ∀ (n : Nat) (mem : zMem) (x1 : Int32) (H : Heap) (locs : List Loc) (ls : Array Slot), zH (zAd G) G s mem H locs → lv_has ls 2 [(0, .ref (zr G 44)), (1, .int x1)] → f_X5_lays_2 N n mem x1 = some (r, mem') → W p l e ({ frames := 0, cells := 0, slots := 0, locals := 0 } : Room) s m args below meth c H locs 0 0 (MQ below (zQv G mem') args s 0 0 (zAd G)) (F0 m 2 ls []) := by
  intro n
  induction n with
  | zero =>
    intro mem x1 H locs ls Z hl hf
    rw [f_X5_lays_2.eq_1] at hf
    cases hf
  | succ n ih =>
    intro mem x1 H locs ls Z hl hf
    rw [f_X5_lays_2.eq_2] at hf
    refine lv_iload_n C.1.1 C.1.2.1 dX5_lays_2 rfl (lv_at hl 1 rfl) ?_
    refine lv_bipush (v := (12 : Int32)) C.1.1 C.1.2.1 dX5_lays_3 (by decide) ?_
    refine lv_icmp_ge (tgt := 39) C.1.1 C.1.2.1 dX5_lays_5 (by decide) (fun h608 => ?_) (fun h608 => ?_)
    · replace hf := (if_pos h608).symm.trans hf
      refine lv_aload_n C.1.1 C.1.2.1 dX5_lays_39 rfl (lv_at hl 0 rfl) ?_
      refine zg_X5_19 C Z dX5_lays_40 ?_
      refine lv_bipush (v := (6 : Int32)) C.1.1 C.1.2.1 dX5_lays_43 (by decide) ?_
      refine lv_aload_n C.1.1 C.1.2.1 dX5_lays_45 rfl (lv_at hl 0 rfl) ?_
      refine zg_X5_13 C Z dX5_lays_46 ?_
      refine lv_iconst (v := (4 : Int32)) C.1.1 C.1.2.1 dX5_lays_49 (by decide) ?_
      refine z_iald (k := 46) C Z (by decide) rfl (by decide) dX5_lays_50 ?_
      refine z_iast (k := 48) C Z (by decide) (fun _ => rfl) (by decide) dX5_lays_51 (fun H locs Z => ?_)
      obtain ⟨mem609, hm609, hf⟩ := zlet_some hf
      rw [← hm609] at Z
      refine lv_aload_n C.1.1 C.1.2.1 dX5_lays_52 rfl (lv_at hl 0 rfl) ?_
      refine lv_iconst (v := (0 : Int32)) C.1.1 C.1.2.1 dX5_lays_53 (by decide) ?_
      refine zp_X5_95 C Z dX5_lays_54 (fun H locs Z => ?_)
      obtain ⟨mem610, hm610, hf⟩ := zlet_some hf
      rw [← hm610] at Z
      refine lv_aload_n C.1.1 C.1.2.1 dX5_lays_57 rfl (lv_at hl 0 rfl) ?_
      refine lv_iconst (v := (0 : Int32)) C.1.1 C.1.2.1 dX5_lays_58 (by decide) ?_
      refine zp_X5_98 C Z dX5_lays_59 (fun H locs Z => ?_)
      obtain ⟨mem611, hm611, hf⟩ := zlet_some hf
      rw [← hm611] at Z
      refine lv_aload_n C.1.1 C.1.2.1 dX5_lays_62 rfl (lv_at hl 0 rfl) ?_
      refine lv_iconst (v := (0 : Int32)) C.1.1 C.1.2.1 dX5_lays_63 (by decide) ?_
      refine zp_X5_101 C Z dX5_lays_64 (fun H locs Z => ?_)
      obtain ⟨mem612, hm612, hf⟩ := zlet_some hf
      rw [← hm612] at Z
      refine lv_aload_n C.1.1 C.1.2.1 dX5_lays_67 rfl (lv_at hl 0 rfl) ?_
      refine zg_X5_28 C Z dX5_lays_68 ?_
      refine lv_iconst (v := (0 : Int32)) C.1.1 C.1.2.1 dX5_lays_71 (by decide) ?_
      refine lv_iconst (v := (0 : Int32)) C.1.1 C.1.2.1 dX5_lays_72 (by decide) ?_
      refine z_bast (k := 51) C Z (by decide) (fun _ => rfl) (by decide) dX5_lays_73 (fun H locs Z => ?_)
      obtain ⟨mem613, hm613, hf⟩ := zlet_some hf
      rw [← hm613] at Z
      refine lv_aload_n C.1.1 C.1.2.1 dX5_lays_74 rfl (lv_at hl 0 rfl) ?_
      refine zg_X5_28 C Z dX5_lays_75 ?_
      refine lv_iconst (v := (1 : Int32)) C.1.1 C.1.2.1 dX5_lays_78 (by decide) ?_
      refine lv_iconst (v := (0 : Int32)) C.1.1 C.1.2.1 dX5_lays_79 (by decide) ?_
      refine z_bast (k := 51) C Z (by decide) (fun _ => rfl) (by decide) dX5_lays_80 (fun H locs Z => ?_)
      obtain ⟨mem614, hm614, hf⟩ := zlet_some hf
      rw [← hm614] at Z
      cases hf
      exact z_vret C Z hr hlk dX5_lays_81
    · replace hf := (if_neg h608).symm.trans hf
      refine lv_aload_n C.1.1 C.1.2.1 dX5_lays_8 rfl (lv_at hl 0 rfl) ?_
      refine zg_X5_19 C Z dX5_lays_9 ?_
      refine lv_iload_n C.1.1 C.1.2.1 dX5_lays_12 rfl (lv_at hl 1 rfl) ?_
      refine lv_iload_n C.1.1 C.1.2.1 dX5_lays_13 rfl (lv_at hl 1 rfl) ?_
      refine lv_bipush (v := (6 : Int32)) C.1.1 C.1.2.1 dX5_lays_14 (by decide) ?_
      refine lv_icmp_ge (tgt := 31) C.1.1 C.1.2.1 dX5_lays_16 (by decide) (fun h615 => ?_) (fun h615 => ?_)
      · replace hf := (if_pos h615).symm.trans hf
        refine lv_iconst (v := (0 : Int32)) C.1.1 C.1.2.1 dX5_lays_31 (by decide) ?_
        obtain ⟨hi616, hf⟩ := zgd_some hf
        refine z_iast (k := 48) C Z (by decide) (fun _ => rfl) hi616 dX5_lays_32 (fun H locs Z => ?_)
        obtain ⟨mem617, hm617, hf⟩ := zlet_some hf
        rw [← hm617] at Z
        refine lv_iinc (v := (x1 + 1)) (lv' := [(1, .int (x1 + 1)), (0, .ref (zr G 44))]) C.1.1 C.1.2.1 dX5_lays_33 hl (k := 1) rfl rfl (by decide) rfl (fun ls hl => ?_)
        refine lv_goto (tgt := 2) C.1.1 C.1.2.1 dX5_lays_36 (by decide) ?_
        exact ih mem617 (x1 + 1) _ _ _ Z (lv_sub hl [1, 0] rfl) hf
      · replace hf := (if_neg h615).symm.trans hf
        refine lv_aload_n C.1.1 C.1.2.1 dX5_lays_19 rfl (lv_at hl 0 rfl) ?_
        refine zg_X5_13 C Z dX5_lays_20 ?_
        refine lv_bipush (v := (29 : Int32)) C.1.1 C.1.2.1 dX5_lays_23 (by decide) ?_
        refine lv_iload_n C.1.1 C.1.2.1 dX5_lays_25 rfl (lv_at hl 1 rfl) ?_
        refine lv_iadd C.1.1 C.1.2.1 dX5_lays_26 ?_
        obtain ⟨hi618, hf⟩ := zgd_some hf
        refine z_iald (k := 46) C Z (by decide) rfl hi618 dX5_lays_27 ?_
        refine lv_goto (tgt := 32) C.1.1 C.1.2.1 dX5_lays_28 (by decide) ?_
        obtain ⟨hi619, hf⟩ := zgd_some hf
        refine z_iast (k := 48) C Z (by decide) (fun _ => rfl) hi619 dX5_lays_32 (fun H locs Z => ?_)
        obtain ⟨mem620, hm620, hf⟩ := zlet_some hf
        rw [← hm620] at Z
        refine lv_iinc (v := (x1 + 1)) (lv' := [(1, .int (x1 + 1)), (0, .ref (zr G 44))]) C.1.1 C.1.2.1 dX5_lays_33 hl (k := 1) rfl rfl (by decide) rfl (fun ls hl => ?_)
        refine lv_goto (tgt := 2) C.1.1 C.1.2.1 dX5_lays_36 (by decide) ?_
        exact ih mem620 (x1 + 1) _ _ _ Z (lv_sub hl [1, 0] rfl) hf
set_option maxHeartbeats 4000000 in
set_option maxRecDepth 100000 in
theorem M_X5_lays (l : Launch) (G : zG) (hG : zOK G) (N : Nat) (mem : zMem) (r : Unit) (mem' : zMem) (hf : f_X5_lays N mem = some (r, mem')) : zM l G yX5_lays cX5_lays 2 none 0 0 [.ref (zr G 44)] mem (zQv G mem') := by
  refine zStart hG (by decide +kernel) (Nat.le_of_ble_eq_true rfl) (fun p e s m below meth c C hr hlk ls hl Z => ?_)
  have hl : lv_has ls 2 [(0, .ref (zr G 44))] := hl
  have C : zC (zAd G) G p s m _ c cX5_lays 2 RX5 := C
  unfold f_X5_lays at hf
  refine lv_iconst (v := (0 : Int32)) C.1.1 C.1.2.1 dX5_lays_0 (by decide) ?_
  refine lv_istore_n (lv' := [(1, .int (0 : Int32)), (0, .ref (zr G 44))]) C.1.1 C.1.2.1 dX5_lays_1 rfl hl (by decide) rfl (fun ls hl => ?_)
  exact K_X5_lays_2 (l := l) (e := e) (below := below) C hr hlk N N mem (0 : Int32) _ _ _ Z (lv_sub hl [1, 0] rfl) hf
set_option maxHeartbeats 4000000 in
set_option maxRecDepth 100000 in
theorem M_X5_fault (l : Launch) (G : zG) (hG : zOK G) (N : Nat) (mem : zMem) (r : Int32) (mem' : zMem) (hf : f_X5_fault N mem = some (r, mem')) : zM l G yX5_fault cX5_fault 1 (some .int) 7 150 [.ref (zr G 44)] mem (zQi G r mem') := by
  refine zStart hG (by decide +kernel) (Nat.le_of_ble_eq_true rfl) (fun p e s m below meth c C hr hlk ls hl Z => ?_)
  have hl : lv_has ls 1 [(0, .ref (zr G 44))] := hl
  have C : zC (zAd G) G p s m _ c cX5_fault 1 RX5 := C
  unfold f_X5_fault at hf
  refine lv_aload_n C.1.1 C.1.2.1 dX5_fault_0 rfl (lv_at hl 0 rfl) ?_
  obtain ⟨r621, mem621, hc621, hf⟩ := zb_some hf
  refine z_callVi (k := 44) (As := []) (rest := []) C Z (M_X5_reads l G C.2.1 N mem r621 mem621 hc621) (zcw_X5_104 C.1.2.2.2.2 ⟨Nat.le_of_ble_eq_true rfl, Nat.le_of_ble_eq_true rfl⟩) (by decide) rfl rfl rfl hl.1 rfl (Nat.le_of_ble_eq_true rfl) ⟨Nat.le_refl 0, Nat.le_refl 0⟩ dX5_fault_1 (fun H locs Z => ?_)
  refine lv_iconst (v := (-1 : Int32)) C.1.1 C.1.2.1 dX5_fault_4 (by decide) ?_
  refine lv_icmp_ne (tgt := 15) C.1.1 C.1.2.1 dX5_fault_5 (by decide) (fun h622 => ?_) (fun h622 => ?_)
  · replace hf := (if_neg h622).symm.trans hf
    refine lv_iconst (v := (-1 : Int32)) C.1.1 C.1.2.1 dX5_fault_15 (by decide) ?_
    cases hf
    exact z_iret C Z hr hlk dX5_fault_16
  · replace hf := (if_pos h622).symm.trans hf
    refine lv_aload_n C.1.1 C.1.2.1 dX5_fault_8 rfl (lv_at hl 0 rfl) ?_
    refine zg_X5_59 C Z dX5_fault_9 ?_
    refine lv_goto (tgt := 16) C.1.1 C.1.2.1 dX5_fault_12 (by decide) ?_
    cases hf
    exact z_iret C Z hr hlk dX5_fault_16
set_option maxHeartbeats 4000000 in
set_option maxRecDepth 100000 in
theorem K_X5_kirk_15 {p : Program} {l : Launch} {e : Env} {s : State} {m : MethodId} {args : Array Value} {below : List Frame} {meth : Method} {c : Code} {G : zG} (C : zC (zAd G) G p s m args c cX5_kirk 3 RX5) (hr : meth.sig.returnType = (some .int)) (hlk : meth.locks = false) {r : Int32} {mem' : zMem} (N : Nat) : ∀ (n : Nat) (mem : zMem) (x1 : Int32) (x2 : Int32) (H : Heap) (locs : List Loc) (ls : Array Slot), zH (zAd G) G s mem H locs → lv_has ls 3 [(0, .ref (zr G 44)), (1, .int x1), (2, .int x2)] → f_X5_kirk_15 N n mem x1 x2 = some (r, mem') → W p l e ({ frames := 7, cells := 0, slots := 0, locals := 150 } : Room) s m args below meth c H locs 0 0 (MQ below (zQi G r mem') args s 0 0 (zAd G)) (F0 m 15 ls []) := by
  intro n
  induction n with
  | zero =>
    intro mem x1 x2 H locs ls Z hl hf
    rw [f_X5_kirk_15.eq_1] at hf
    cases hf
  | succ n ih =>
    intro mem x1 x2 H locs ls Z hl hf
    rw [f_X5_kirk_15.eq_2] at hf
    refine lv_iload_n C.1.1 C.1.2.1 dX5_kirk_15 rfl (lv_at hl 2 rfl) ?_
    refine lv_bipush (v := (35 : Int32)) C.1.1 C.1.2.1 dX5_kirk_16 (by decide) ?_
    refine lv_icmp_ge (tgt := 39) C.1.1 C.1.2.1 dX5_kirk_18 (by decide) (fun h623 => ?_) (fun h623 => ?_)
    · replace hf := (if_pos h623).symm.trans hf
      refine lv_aload_n C.1.1 C.1.2.1 dX5_kirk_39 rfl (lv_at hl 0 rfl) ?_
      obtain ⟨r624, mem624, hc624, hf⟩ := zb_some hf
      refine z_callVv (k := 44) (As := []) (rest := []) C Z (M_X5_lays l G C.2.1 N mem r624 mem624 hc624) (zcw_X5_41 C.1.2.2.2.2 ⟨Nat.le_of_ble_eq_true rfl, Nat.le_of_ble_eq_true rfl⟩) (by decide) rfl rfl rfl hl.1 rfl (Nat.le_of_ble_eq_true rfl) ⟨Nat.le_refl 0, Nat.le_refl 0⟩ dX5_kirk_40 (fun H locs Z => ?_)
      refine lv_aload_n C.1.1 C.1.2.1 dX5_kirk_43 rfl (lv_at hl 0 rfl) ?_
      refine lv_iconst (v := (0 : Int32)) C.1.1 C.1.2.1 dX5_kirk_44 (by decide) ?_
      refine zp_X5_48 C Z dX5_kirk_45 (fun H locs Z => ?_)
      obtain ⟨mem625, hm625, hf⟩ := zlet_some hf
      rw [← hm625] at Z
      refine lv_iload_n C.1.1 C.1.2.1 dX5_kirk_48 rfl (lv_at hl 1 rfl) ?_
      cases hf
      exact z_iret C Z hr hlk dX5_kirk_49
    · replace hf := (if_neg h623).symm.trans hf
      refine lv_aload_n C.1.1 C.1.2.1 dX5_kirk_21 rfl (lv_at hl 0 rfl) ?_
      refine zg_X5_13 C Z dX5_kirk_22 ?_
      refine lv_iload_n C.1.1 C.1.2.1 dX5_kirk_25 rfl (lv_at hl 2 rfl) ?_
      refine lv_aload_n C.1.1 C.1.2.1 dX5_kirk_26 rfl (lv_at hl 0 rfl) ?_
      refine zg_X5_16 C Z dX5_kirk_27 ?_
      refine lv_iload_n C.1.1 C.1.2.1 dX5_kirk_30 rfl (lv_at hl 2 rfl) ?_
      obtain ⟨hi626, hf⟩ := zgd_some hf
      refine z_iald (k := 47) C Z (by decide) rfl hi626 dX5_kirk_31 ?_
      obtain ⟨hi627, hf⟩ := zgd_some hf
      refine z_iast (k := 46) C Z (by decide) (fun _ => rfl) hi627 dX5_kirk_32 (fun H locs Z => ?_)
      obtain ⟨mem628, hm628, hf⟩ := zlet_some hf
      rw [← hm628] at Z
      refine lv_iinc (v := (x2 + 1)) (lv' := [(2, .int (x2 + 1)), (0, .ref (zr G 44)), (1, .int x1)]) C.1.1 C.1.2.1 dX5_kirk_33 hl (k := 2) rfl rfl (by decide) rfl (fun ls hl => ?_)
      refine lv_goto (tgt := 15) C.1.1 C.1.2.1 dX5_kirk_36 (by decide) ?_
      exact ih mem628 x1 (x2 + 1) _ _ _ Z (lv_sub hl [1, 2, 0] rfl) hf
set_option maxHeartbeats 4000000 in
set_option maxRecDepth 100000 in
theorem M_X5_kirk (l : Launch) (G : zG) (hG : zOK G) (N : Nat) (mem : zMem) (r : Int32) (mem' : zMem) (hf : f_X5_kirk N mem = some (r, mem')) : zM l G yX5_kirk cX5_kirk 3 (some .int) 7 150 [.ref (zr G 44)] mem (zQi G r mem') := by
  refine zStart hG (by decide +kernel) (Nat.le_of_ble_eq_true rfl) (fun p e s m below meth c C hr hlk ls hl Z => ?_)
  have hl : lv_has ls 3 [(0, .ref (zr G 44))] := hl
  have C : zC (zAd G) G p s m _ c cX5_kirk 3 RX5 := C
  unfold f_X5_kirk at hf
  refine lv_aload_n C.1.1 C.1.2.1 dX5_kirk_0 rfl (lv_at hl 0 rfl) ?_
  obtain ⟨r629, mem629, hc629, hf⟩ := zb_some hf
  refine z_callVi (k := 44) (As := []) (rest := []) C Z (M_X5_reads l G C.2.1 N mem r629 mem629 hc629) (zcw_X5_104 C.1.2.2.2.2 ⟨Nat.le_of_ble_eq_true rfl, Nat.le_of_ble_eq_true rfl⟩) (by decide) rfl rfl rfl hl.1 rfl (Nat.le_of_ble_eq_true rfl) ⟨Nat.le_refl 0, Nat.le_refl 0⟩ dX5_kirk_1 (fun H locs Z => ?_)
  refine lv_istore_n (lv' := [(1, .int r629), (0, .ref (zr G 44))]) C.1.1 C.1.2.1 dX5_kirk_4 rfl hl (by decide) rfl (fun ls hl => ?_)
  refine lv_iload_n C.1.1 C.1.2.1 dX5_kirk_5 rfl (lv_at hl 0 rfl) ?_
  refine lv_iconst (v := (-1 : Int32)) C.1.1 C.1.2.1 dX5_kirk_6 (by decide) ?_
  refine lv_icmp_ne (tgt := 13) C.1.1 C.1.2.1 dX5_kirk_7 (by decide) (fun h630 => ?_) (fun h630 => ?_)
  · replace hf := (if_neg h630).symm.trans hf
    refine lv_iconst (v := (0 : Int32)) C.1.1 C.1.2.1 dX5_kirk_13 (by decide) ?_
    refine lv_istore_n (lv' := [(2, .int (0 : Int32)), (1, .int r629), (0, .ref (zr G 44))]) C.1.1 C.1.2.1 dX5_kirk_14 rfl hl (by decide) rfl (fun ls hl => ?_)
    exact K_X5_kirk_15 (l := l) (e := e) (below := below) C hr hlk N N mem629 r629 (0 : Int32) _ _ _ Z (lv_sub hl [2, 1, 0] rfl) hf
  · replace hf := (if_pos h630).symm.trans hf
    refine lv_bipush (v := (-4 : Int32)) C.1.1 C.1.2.1 dX5_kirk_10 (by decide) ?_
    cases hf
    exact z_iret C Z hr hlk dX5_kirk_12
set_option maxHeartbeats 4000000 in
set_option maxRecDepth 100000 in
theorem M_X5_weighs (l : Launch) (G : zG) (hG : zOK G) (N : Nat) (mem : zMem) (a1 : Int32) (a2 : Int32) (a3 : Int32) (r : Int32) (mem' : zMem) (hf : f_X5_weighs N mem a1 a2 a3 = some (r, mem')) : zM l G yX5_weighs cX5_weighs 3 (some .int) 0 0 [.int a1, .int a2, .int a3] mem (zQi G r mem') := by
  refine zStart hG (by decide +kernel) (Nat.le_of_ble_eq_true rfl) (fun p e s m below meth c C hr hlk ls hl Z => ?_)
  have hl : lv_has ls 3 [(0, .int a1), (1, .int a2), (2, .int a3)] := hl
  have C : zC (zAd G) G p s m _ c cX5_weighs 3 RX5 := C
  unfold f_X5_weighs at hf
  refine lv_iload_n C.1.1 C.1.2.1 dX5_weighs_0 rfl (lv_at hl 0 rfl) ?_
  refine lv_iconst (v := (3 : Int32)) C.1.1 C.1.2.1 dX5_weighs_1 (by decide) ?_
  refine lv_icmp_ne (tgt := 9) C.1.1 C.1.2.1 dX5_weighs_2 (by decide) (fun h631 => ?_) (fun h631 => ?_)
  · replace hf := (if_neg h631).symm.trans hf
    refine lv_iload_n C.1.1 C.1.2.1 dX5_weighs_9 rfl (lv_at hl 0 rfl) ?_
    refine lv_iconst (v := (2 : Int32)) C.1.1 C.1.2.1 dX5_weighs_10 (by decide) ?_
    refine lv_icmp_ne (tgt := 20) C.1.1 C.1.2.1 dX5_weighs_11 (by decide) (fun h632 => ?_) (fun h632 => ?_)
    · replace hf := (if_neg h632).symm.trans hf
      refine lv_iload_n C.1.1 C.1.2.1 dX5_weighs_20 rfl (lv_at hl 0 rfl) ?_
      refine lv_iconst (v := (1 : Int32)) C.1.1 C.1.2.1 dX5_weighs_21 (by decide) ?_
      refine lv_icmp_ne (tgt := 31) C.1.1 C.1.2.1 dX5_weighs_22 (by decide) (fun h633 => ?_) (fun h633 => ?_)
      · replace hf := (if_neg h633).symm.trans hf
        refine lv_iload_n C.1.1 C.1.2.1 dX5_weighs_31 rfl (lv_at hl 1 rfl) ?_
        cases hf
        exact z_iret C Z hr hlk dX5_weighs_32
      · replace hf := (if_pos h633).symm.trans hf
        refine lv_iload_n C.1.1 C.1.2.1 dX5_weighs_25 rfl (lv_at hl 1 rfl) ?_
        refine lv_iload_n C.1.1 C.1.2.1 dX5_weighs_26 rfl (lv_at hl 2 rfl) ?_
        refine lv_iadd C.1.1 C.1.2.1 dX5_weighs_27 ?_
        refine lv_goto (tgt := 32) C.1.1 C.1.2.1 dX5_weighs_28 (by decide) ?_
        cases hf
        exact z_iret C Z hr hlk dX5_weighs_32
    · replace hf := (if_pos h632).symm.trans hf
      refine lv_iload_n C.1.1 C.1.2.1 dX5_weighs_14 rfl (lv_at hl 1 rfl) ?_
      refine lv_iconst (v := (2 : Int32)) C.1.1 C.1.2.1 dX5_weighs_15 (by decide) ?_
      refine lv_idiv C.1.1 C.1.2.1 dX5_weighs_16 (by decide) ?_
      refine lv_goto (tgt := 32) C.1.1 C.1.2.1 dX5_weighs_17 (by decide) ?_
      cases hf
      exact z_iret C Z hr hlk dX5_weighs_32
  · replace hf := (if_pos h631).symm.trans hf
    refine lv_iconst (v := (0 : Int32)) C.1.1 C.1.2.1 dX5_weighs_5 (by decide) ?_
    refine lv_goto (tgt := 32) C.1.1 C.1.2.1 dX5_weighs_6 (by decide) ?_
    cases hf
    exact z_iret C Z hr hlk dX5_weighs_32
set_option maxHeartbeats 4000000 in
set_option maxRecDepth 100000 in
theorem M_X5_ounces (l : Launch) (G : zG) (hG : zOK G) (N : Nat) (mem : zMem) (a1 : Int32) (a2 : Int32) (r : Int32) (mem' : zMem) (hf : f_X5_ounces N mem a1 a2 = some (r, mem')) : zM l G yX5_ounces cX5_ounces 3 (some .int) 1 22 [.ref (zr G 44), .int a1, .int a2] mem (zQi G r mem') := by
  refine zStart hG (by decide +kernel) (Nat.le_of_ble_eq_true rfl) (fun p e s m below meth c C hr hlk ls hl Z => ?_)
  have hl : lv_has ls 3 [(0, .ref (zr G 44)), (1, .int a1), (2, .int a2)] := hl
  have C : zC (zAd G) G p s m _ c cX5_ounces 3 RX5 := C
  unfold f_X5_ounces at hf
  refine lv_aload_n C.1.1 C.1.2.1 dX5_ounces_0 rfl (lv_at hl 0 rfl) ?_
  refine zg_X5_13 C Z dX5_ounces_1 ?_
  refine lv_iconst (v := (5 : Int32)) C.1.1 C.1.2.1 dX5_ounces_4 (by decide) ?_
  refine lv_iload_n C.1.1 C.1.2.1 dX5_ounces_5 rfl (lv_at hl 1 rfl) ?_
  refine lv_iadd C.1.1 C.1.2.1 dX5_ounces_6 ?_
  obtain ⟨hi634, hf⟩ := zgd_some hf
  refine z_iald (k := 46) C Z (by decide) rfl hi634 dX5_ounces_7 ?_
  refine lv_aload_n C.1.1 C.1.2.1 dX5_ounces_8 rfl (lv_at hl 0 rfl) ?_
  refine zg_X5_13 C Z dX5_ounces_9 ?_
  refine lv_bipush (v := (13 : Int32)) C.1.1 C.1.2.1 dX5_ounces_12 (by decide) ?_
  refine lv_iload_n C.1.1 C.1.2.1 dX5_ounces_14 rfl (lv_at hl 1 rfl) ?_
  refine lv_iadd C.1.1 C.1.2.1 dX5_ounces_15 ?_
  obtain ⟨hi635, hf⟩ := zgd_some hf
  refine z_iald (k := 46) C Z (by decide) rfl hi635 dX5_ounces_16 ?_
  refine lv_iload_n C.1.1 C.1.2.1 dX5_ounces_17 rfl (lv_at hl 2 rfl) ?_
  obtain ⟨r636, mem636, hc636, hf⟩ := zb_some hf
  refine z_callSi (As := [.int (mem 46 ((5 : Int32) + a1).toNatClampNeg), .int (mem 46 ((13 : Int32) + a1).toNatClampNeg), .int a2]) (rest := []) C Z (M_X5_weighs l G C.2.1 N mem (mem 46 ((5 : Int32) + a1).toNatClampNeg) (mem 46 ((13 : Int32) + a1).toNatClampNeg) a2 r636 mem636 hc636) (zcw_X5_108 C.1.2.2.2.2 ⟨Nat.le_of_ble_eq_true rfl, Nat.le_of_ble_eq_true rfl⟩) rfl hl.1 rfl (Nat.le_of_ble_eq_true rfl) ⟨Nat.le_refl 0, Nat.le_refl 0⟩ dX5_ounces_18 (fun H locs Z => ?_)
  cases hf
  exact z_iret C Z hr hlk dX5_ounces_21
set_option maxHeartbeats 4000000 in
set_option maxRecDepth 100000 in
theorem K_X5_ouncesOf_5 {p : Program} {l : Launch} {e : Env} {s : State} {m : MethodId} {args : Array Value} {below : List Frame} {meth : Method} {c : Code} {G : zG} (C : zC (zAd G) G p s m args c cX5_ouncesOf 5 RX5) (hr : meth.sig.returnType = (some .int)) (hlk : meth.locks = false) {r : Int32} {mem' : zMem} (N : Nat) : ∀ (n : Nat) (mem : zMem) (x1 : Int32) (x2 : Int32) (x3 : Int32) (x4 : Int32) (H : Heap) (locs : List Loc) (ls : Array Slot), zH (zAd G) G s mem H locs → lv_has ls 5 [(0, .ref (zr G 44)), (1, .int x1), (2, .int x2), (3, .int x3), (4, .int x4)] → f_X5_ouncesOf_5 N n mem x1 x2 x3 x4 = some (r, mem') → W p l e ({ frames := 2, cells := 0, slots := 0, locals := 44 } : Room) s m args below meth c H locs 0 0 (MQ below (zQi G r mem') args s 0 0 (zAd G)) (F0 m 5 ls []) := by
  intro n
  induction n with
  | zero =>
    intro mem x1 x2 x3 x4 H locs ls Z hl hf
    rw [f_X5_ouncesOf_5.eq_1] at hf
    cases hf
  | succ n ih =>
    intro mem x1 x2 x3 x4 H locs ls Z hl hf
    rw [f_X5_ouncesOf_5.eq_2] at hf
    refine lv_iload C.1.1 C.1.2.1 dX5_ouncesOf_5 (lv_at hl 4 rfl) ?_
    refine lv_aload_n C.1.1 C.1.2.1 dX5_ouncesOf_7 rfl (lv_at hl 0 rfl) ?_
    refine zg_X5_13 C Z dX5_ouncesOf_8 ?_
    refine lv_iconst (v := (0 : Int32)) C.1.1 C.1.2.1 dX5_ouncesOf_11 (by decide) ?_
    refine z_iald (k := 46) C Z (by decide) rfl (by decide) dX5_ouncesOf_12 ?_
    refine lv_icmp_ge (tgt := 46) C.1.1 C.1.2.1 dX5_ouncesOf_13 (by decide) (fun h637 => ?_) (fun h637 => ?_)
    · replace hf := (if_pos h637).symm.trans hf
      refine lv_iload_n C.1.1 C.1.2.1 dX5_ouncesOf_46 rfl (lv_at hl 3 rfl) ?_
      cases hf
      exact z_iret C Z hr hlk dX5_ouncesOf_47
    · replace hf := (if_neg h637).symm.trans hf
      refine lv_iload_n C.1.1 C.1.2.1 dX5_ouncesOf_16 rfl (lv_at hl 3 rfl) ?_
      refine lv_iload_n C.1.1 C.1.2.1 dX5_ouncesOf_17 rfl (lv_at hl 1 rfl) ?_
      refine lv_iload C.1.1 C.1.2.1 dX5_ouncesOf_18 (lv_at hl 4 rfl) ?_
      refine lv_ishr C.1.1 C.1.2.1 dX5_ouncesOf_20 ?_
      refine lv_iconst (v := (1 : Int32)) C.1.1 C.1.2.1 dX5_ouncesOf_21 (by decide) ?_
      refine lv_iand C.1.1 C.1.2.1 dX5_ouncesOf_22 ?_
      refine lv_iconst (v := (1 : Int32)) C.1.1 C.1.2.1 dX5_ouncesOf_23 (by decide) ?_
      refine lv_icmp_ne (tgt := 37) C.1.1 C.1.2.1 dX5_ouncesOf_24 (by decide) (fun h638 => ?_) (fun h638 => ?_)
      · replace hf := (if_neg h638).symm.trans hf
        refine lv_iconst (v := (0 : Int32)) C.1.1 C.1.2.1 dX5_ouncesOf_37 (by decide) ?_
        refine lv_iadd C.1.1 C.1.2.1 dX5_ouncesOf_38 ?_
        refine lv_istore_n (lv' := [(3, .int (x3 + (0 : Int32))), (0, .ref (zr G 44)), (1, .int x1), (2, .int x2), (4, .int x4)]) C.1.1 C.1.2.1 dX5_ouncesOf_39 rfl hl (by decide) rfl (fun ls hl => ?_)
        refine lv_iinc (v := (x4 + 1)) (lv' := [(4, .int (x4 + 1)), (3, .int (x3 + (0 : Int32))), (0, .ref (zr G 44)), (1, .int x1), (2, .int x2)]) C.1.1 C.1.2.1 dX5_ouncesOf_40 hl (k := 4) rfl rfl (by decide) rfl (fun ls hl => ?_)
        refine lv_goto (tgt := 5) C.1.1 C.1.2.1 dX5_ouncesOf_43 (by decide) ?_
        exact ih mem x1 x2 (x3 + (0 : Int32)) (x4 + 1) _ _ _ Z (lv_sub hl [2, 3, 4, 1, 0] rfl) hf
      · replace hf := (if_pos h638).symm.trans hf
        refine lv_aload_n C.1.1 C.1.2.1 dX5_ouncesOf_27 rfl (lv_at hl 0 rfl) ?_
        refine lv_iload C.1.1 C.1.2.1 dX5_ouncesOf_28 (lv_at hl 4 rfl) ?_
        refine lv_iload_n C.1.1 C.1.2.1 dX5_ouncesOf_30 rfl (lv_at hl 2 rfl) ?_
        obtain ⟨r639, mem639, hc639, hf⟩ := zb_some hf
        refine z_callVi (k := 44) (As := [.int x4, .int x2]) (rest := [.int x3]) C Z (M_X5_ounces l G C.2.1 N mem x4 x2 r639 mem639 hc639) (zcw_X5_112 C.1.2.2.2.2 ⟨Nat.le_of_ble_eq_true rfl, Nat.le_of_ble_eq_true rfl⟩) (by decide) rfl rfl rfl hl.1 rfl (Nat.le_of_ble_eq_true rfl) ⟨Nat.le_refl 0, Nat.le_refl 0⟩ dX5_ouncesOf_31 (fun H locs Z => ?_)
        refine lv_goto (tgt := 38) C.1.1 C.1.2.1 dX5_ouncesOf_34 (by decide) ?_
        refine lv_iadd C.1.1 C.1.2.1 dX5_ouncesOf_38 ?_
        refine lv_istore_n (lv' := [(3, .int (x3 + r639)), (0, .ref (zr G 44)), (1, .int x1), (2, .int x2), (4, .int x4)]) C.1.1 C.1.2.1 dX5_ouncesOf_39 rfl hl (by decide) rfl (fun ls hl => ?_)
        refine lv_iinc (v := (x4 + 1)) (lv' := [(4, .int (x4 + 1)), (3, .int (x3 + r639)), (0, .ref (zr G 44)), (1, .int x1), (2, .int x2)]) C.1.1 C.1.2.1 dX5_ouncesOf_40 hl (k := 4) rfl rfl (by decide) rfl (fun ls hl => ?_)
        refine lv_goto (tgt := 5) C.1.1 C.1.2.1 dX5_ouncesOf_43 (by decide) ?_
        exact ih mem639 x1 x2 (x3 + r639) (x4 + 1) _ _ _ Z (lv_sub hl [2, 3, 4, 1, 0] rfl) hf
set_option maxHeartbeats 4000000 in
set_option maxRecDepth 100000 in
theorem M_X5_ouncesOf (l : Launch) (G : zG) (hG : zOK G) (N : Nat) (mem : zMem) (a1 : Int32) (a2 : Int32) (r : Int32) (mem' : zMem) (hf : f_X5_ouncesOf N mem a1 a2 = some (r, mem')) : zM l G yX5_ouncesOf cX5_ouncesOf 5 (some .int) 2 44 [.ref (zr G 44), .int a1, .int a2] mem (zQi G r mem') := by
  refine zStart hG (by decide +kernel) (Nat.le_of_ble_eq_true rfl) (fun p e s m below meth c C hr hlk ls hl Z => ?_)
  have hl : lv_has ls 5 [(0, .ref (zr G 44)), (1, .int a1), (2, .int a2)] := hl
  have C : zC (zAd G) G p s m _ c cX5_ouncesOf 5 RX5 := C
  unfold f_X5_ouncesOf at hf
  refine lv_iconst (v := (0 : Int32)) C.1.1 C.1.2.1 dX5_ouncesOf_0 (by decide) ?_
  refine lv_istore_n (lv' := [(3, .int (0 : Int32)), (0, .ref (zr G 44)), (1, .int a1), (2, .int a2)]) C.1.1 C.1.2.1 dX5_ouncesOf_1 rfl hl (by decide) rfl (fun ls hl => ?_)
  refine lv_iconst (v := (0 : Int32)) C.1.1 C.1.2.1 dX5_ouncesOf_2 (by decide) ?_
  refine lv_istore (lv' := [(4, .int (0 : Int32)), (3, .int (0 : Int32)), (0, .ref (zr G 44)), (1, .int a1), (2, .int a2)]) C.1.1 C.1.2.1 dX5_ouncesOf_3 hl (by decide) rfl (fun ls hl => ?_)
  exact K_X5_ouncesOf_5 (l := l) (e := e) (below := below) C hr hlk N N mem a1 a2 (0 : Int32) (0 : Int32) _ _ _ Z (lv_sub hl [2, 3, 4, 1, 0] rfl) hf
