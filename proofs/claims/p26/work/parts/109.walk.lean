set_option maxHeartbeats 4000000 in
set_option maxRecDepth 100000 in
theorem M_X5_seen (l : Launch) (G : zG) (hG : zOK G) (N : Nat) (mem : zMem) (a1 : Int32) (a2 : Int32) (a3 : Int32) (r : Int32) (mem' : zMem) (hf : f_X5_seen N mem a1 a2 a3 = some (r, mem')) : zM l G yX5_seen cX5_seen 4 (some .int) 2 43 [.ref (zr G 44), .int a1, .int a2, .int a3] mem (zQi G r mem') := by
  refine zStart hG (by decide +kernel) (Nat.le_of_ble_eq_true rfl) (fun p e s m below meth c C hr hlk ls hl Z => ?_)
  have hl : lv_has ls 4 [(0, .ref (zr G 44)), (1, .int a1), (2, .int a2), (3, .int a3)] := hl
  have C : zC (zAd G) G p s m _ c cX5_seen 4 RX5 := C
  unfold f_X5_seen at hf
  refine lv_aload_n C.1.1 C.1.2.1 dX5_seen_0 rfl (lv_at hl 0 rfl) ?_
  refine lv_iload_n C.1.1 C.1.2.1 dX5_seen_1 rfl (lv_at hl 1 rfl) ?_
  obtain ⟨r809, mem809, hc809, hf⟩ := zb_some hf
  refine z_callVi (k := 44) (As := [.int a1]) (rest := []) C Z (M_X5_isSet l G C.2.1 N mem a1 r809 mem809 hc809) (zcw_X5_147 C.1.2.2.2.2 ⟨Nat.le_of_ble_eq_true rfl, Nat.le_of_ble_eq_true rfl⟩) (by decide) rfl rfl rfl hl.1 rfl (Nat.le_of_ble_eq_true rfl) ⟨Nat.le_refl 0, Nat.le_refl 0⟩ dX5_seen_2 (fun H locs Z => ?_)
  refine lv_if_ne (tgt := 11) C.1.1 C.1.2.1 dX5_seen_5 (by decide) (fun h810 => ?_) (fun h810 => ?_)
  · replace hf := (if_neg h810).symm.trans hf
    refine lv_iload_n C.1.1 C.1.2.1 dX5_seen_11 rfl (lv_at hl 2 rfl) ?_
    refine lv_iconst (v := (0 : Int32)) C.1.1 C.1.2.1 dX5_seen_12 (by decide) ?_
    refine lv_bipush (v := (9 : Int32)) C.1.1 C.1.2.1 dX5_seen_13 (by decide) ?_
    obtain ⟨r811, mem811, hc811, hf⟩ := zb_some hf
    refine z_callSi (As := [.int a2, .int (0 : Int32), .int (9 : Int32)]) (rest := []) C Z (M_X5_in l G C.2.1 N mem809 a2 (0 : Int32) (9 : Int32) r811 mem811 hc811) (zcw_X5_44 C.1.2.2.2.2 ⟨Nat.le_of_ble_eq_true rfl, Nat.le_of_ble_eq_true rfl⟩) rfl hl.1 rfl (Nat.le_of_ble_eq_true rfl) ⟨Nat.le_refl 0, Nat.le_refl 0⟩ dX5_seen_15 (fun H locs Z => ?_)
    refine lv_if_eq (tgt := 32) C.1.1 C.1.2.1 dX5_seen_18 (by decide) (fun h812 => ?_) (fun h812 => ?_)
    · replace hf := (if_pos h812).symm.trans hf
      refine lv_bipush (v := (-3 : Int32)) C.1.1 C.1.2.1 dX5_seen_32 (by decide) ?_
      cases hf
      exact z_iret C Z hr hlk dX5_seen_34
    · replace hf := (if_neg h812).symm.trans hf
      refine lv_iload_n C.1.1 C.1.2.1 dX5_seen_21 rfl (lv_at hl 3 rfl) ?_
      refine lv_iconst (v := (0 : Int32)) C.1.1 C.1.2.1 dX5_seen_22 (by decide) ?_
      refine lv_sipush (v := (255 : Int32)) C.1.1 C.1.2.1 dX5_seen_23 (by decide) ?_
      obtain ⟨r813, mem813, hc813, hf⟩ := zb_some hf
      refine z_callSi (As := [.int a3, .int (0 : Int32), .int (255 : Int32)]) (rest := []) C Z (M_X5_in l G C.2.1 N mem811 a3 (0 : Int32) (255 : Int32) r813 mem813 hc813) (zcw_X5_44 C.1.2.2.2.2 ⟨Nat.le_of_ble_eq_true rfl, Nat.le_of_ble_eq_true rfl⟩) rfl hl.1 rfl (Nat.le_of_ble_eq_true rfl) ⟨Nat.le_refl 0, Nat.le_refl 0⟩ dX5_seen_26 (fun H locs Z => ?_)
      refine lv_if_ne (tgt := 35) C.1.1 C.1.2.1 dX5_seen_29 (by decide) (fun h814 => ?_) (fun h814 => ?_)
      · replace hf := (if_neg h814).symm.trans hf
        refine lv_aload_n C.1.1 C.1.2.1 dX5_seen_35 rfl (lv_at hl 0 rfl) ?_
        refine zg_X5_98 C Z dX5_seen_36 ?_
        refine lv_bipush (v := (6 : Int32)) C.1.1 C.1.2.1 dX5_seen_39 (by decide) ?_
        refine lv_icmp_ne (tgt := 47) C.1.1 C.1.2.1 dX5_seen_41 (by decide) (fun h815 => ?_) (fun h815 => ?_)
        · replace hf := (if_neg h815).symm.trans hf
          refine lv_aload_n C.1.1 C.1.2.1 dX5_seen_47 rfl (lv_at hl 0 rfl) ?_
          refine zg_X5_32 C Z dX5_seen_48 ?_
          refine lv_iconst (v := (3 : Int32)) C.1.1 C.1.2.1 dX5_seen_51 (by decide) ?_
          refine lv_aload_n C.1.1 C.1.2.1 dX5_seen_52 rfl (lv_at hl 0 rfl) ?_
          refine zg_X5_98 C Z dX5_seen_53 ?_
          refine lv_imul C.1.1 C.1.2.1 dX5_seen_56 ?_
          refine lv_iload_n C.1.1 C.1.2.1 dX5_seen_57 rfl (lv_at hl 1 rfl) ?_
          obtain ⟨hi816, hf⟩ := zgd_some hf
          refine z_iast (k := 52) C Z (by decide) (fun _ => rfl) hi816 dX5_seen_58 (fun H locs Z => ?_)
          obtain ⟨mem817, hm817, hf⟩ := zlet_some hf
          rw [← hm817] at Z
          refine lv_aload_n C.1.1 C.1.2.1 dX5_seen_59 rfl (lv_at hl 0 rfl) ?_
          refine zg_X5_32 C Z dX5_seen_60 ?_
          refine lv_iconst (v := (3 : Int32)) C.1.1 C.1.2.1 dX5_seen_63 (by decide) ?_
          refine lv_aload_n C.1.1 C.1.2.1 dX5_seen_64 rfl (lv_at hl 0 rfl) ?_
          refine zg_X5_98 C Z dX5_seen_65 ?_
          refine lv_imul C.1.1 C.1.2.1 dX5_seen_68 ?_
          refine lv_iconst (v := (1 : Int32)) C.1.1 C.1.2.1 dX5_seen_69 (by decide) ?_
          refine lv_iadd C.1.1 C.1.2.1 dX5_seen_70 ?_
          refine lv_iload_n C.1.1 C.1.2.1 dX5_seen_71 rfl (lv_at hl 2 rfl) ?_
          obtain ⟨hi818, hf⟩ := zgd_some hf
          refine z_iast (k := 52) C Z (by decide) (fun _ => rfl) hi818 dX5_seen_72 (fun H locs Z => ?_)
          obtain ⟨mem819, hm819, hf⟩ := zlet_some hf
          rw [← hm819] at Z
          refine lv_aload_n C.1.1 C.1.2.1 dX5_seen_73 rfl (lv_at hl 0 rfl) ?_
          refine zg_X5_32 C Z dX5_seen_74 ?_
          refine lv_iconst (v := (3 : Int32)) C.1.1 C.1.2.1 dX5_seen_77 (by decide) ?_
          refine lv_aload_n C.1.1 C.1.2.1 dX5_seen_78 rfl (lv_at hl 0 rfl) ?_
          refine zg_X5_98 C Z dX5_seen_79 ?_
          refine lv_imul C.1.1 C.1.2.1 dX5_seen_82 ?_
          refine lv_iconst (v := (2 : Int32)) C.1.1 C.1.2.1 dX5_seen_83 (by decide) ?_
          refine lv_iadd C.1.1 C.1.2.1 dX5_seen_84 ?_
          refine lv_iload_n C.1.1 C.1.2.1 dX5_seen_85 rfl (lv_at hl 3 rfl) ?_
          obtain ⟨hi820, hf⟩ := zgd_some hf
          refine z_iast (k := 52) C Z (by decide) (fun _ => rfl) hi820 dX5_seen_86 (fun H locs Z => ?_)
          obtain ⟨mem821, hm821, hf⟩ := zlet_some hf
          rw [← hm821] at Z
          refine lv_aload_n C.1.1 C.1.2.1 dX5_seen_87 rfl (lv_at hl 0 rfl) ?_
          refine lv_dup C.1.1 C.1.2.1 dX5_seen_88 rfl ?_
          refine zg_X5_98 C Z dX5_seen_89 ?_
          refine lv_iconst (v := (1 : Int32)) C.1.1 C.1.2.1 dX5_seen_92 (by decide) ?_
          refine lv_iadd C.1.1 C.1.2.1 dX5_seen_93 ?_
          refine zp_X5_98 C Z dX5_seen_94 (fun H locs Z => ?_)
          obtain ⟨mem822, hm822, hf⟩ := zlet_some hf
          rw [← hm822] at Z
          refine lv_aload_n C.1.1 C.1.2.1 dX5_seen_97 rfl (lv_at hl 0 rfl) ?_
          refine zg_X5_98 C Z dX5_seen_98 ?_
          cases hf
          exact z_iret C Z hr hlk dX5_seen_101
        · replace hf := (if_pos h815).symm.trans hf
          refine lv_bipush (v := (-5 : Int32)) C.1.1 C.1.2.1 dX5_seen_44 (by decide) ?_
          cases hf
          exact z_iret C Z hr hlk dX5_seen_46
      · replace hf := (if_pos h814).symm.trans hf
        refine lv_bipush (v := (-3 : Int32)) C.1.1 C.1.2.1 dX5_seen_32 (by decide) ?_
        cases hf
        exact z_iret C Z hr hlk dX5_seen_34
  · replace hf := (if_pos h810).symm.trans hf
    refine lv_bipush (v := (-2 : Int32)) C.1.1 C.1.2.1 dX5_seen_8 (by decide) ?_
    cases hf
    exact z_iret C Z hr hlk dX5_seen_10
set_option maxHeartbeats 4000000 in
set_option maxRecDepth 100000 in
theorem M_X5_heard (l : Launch) (G : zG) (hG : zOK G) (N : Nat) (mem : zMem) (a1 : Int32) (a2 : Int32) (a3 : Int32) (r : Int32) (mem' : zMem) (hf : f_X5_heard N mem a1 a2 a3 = some (r, mem')) : zM l G yX5_heard cX5_heard 4 (some .int) 2 43 [.ref (zr G 44), .int a1, .int a2, .int a3] mem (zQi G r mem') := by
  refine zStart hG (by decide +kernel) (Nat.le_of_ble_eq_true rfl) (fun p e s m below meth c C hr hlk ls hl Z => ?_)
  have hl : lv_has ls 4 [(0, .ref (zr G 44)), (1, .int a1), (2, .int a2), (3, .int a3)] := hl
  have C : zC (zAd G) G p s m _ c cX5_heard 4 RX5 := C
  unfold f_X5_heard at hf
  refine lv_aload_n C.1.1 C.1.2.1 dX5_heard_0 rfl (lv_at hl 0 rfl) ?_
  refine lv_iload_n C.1.1 C.1.2.1 dX5_heard_1 rfl (lv_at hl 1 rfl) ?_
  obtain ⟨r823, mem823, hc823, hf⟩ := zb_some hf
  refine z_callVi (k := 44) (As := [.int a1]) (rest := []) C Z (M_X5_isSet l G C.2.1 N mem a1 r823 mem823 hc823) (zcw_X5_147 C.1.2.2.2.2 ⟨Nat.le_of_ble_eq_true rfl, Nat.le_of_ble_eq_true rfl⟩) (by decide) rfl rfl rfl hl.1 rfl (Nat.le_of_ble_eq_true rfl) ⟨Nat.le_refl 0, Nat.le_refl 0⟩ dX5_heard_2 (fun H locs Z => ?_)
  refine lv_if_ne (tgt := 11) C.1.1 C.1.2.1 dX5_heard_5 (by decide) (fun h824 => ?_) (fun h824 => ?_)
  · replace hf := (if_neg h824).symm.trans hf
    refine lv_iload_n C.1.1 C.1.2.1 dX5_heard_11 rfl (lv_at hl 2 rfl) ?_
    refine lv_iconst (v := (0 : Int32)) C.1.1 C.1.2.1 dX5_heard_12 (by decide) ?_
    refine lv_bipush (v := (99 : Int32)) C.1.1 C.1.2.1 dX5_heard_13 (by decide) ?_
    obtain ⟨r825, mem825, hc825, hf⟩ := zb_some hf
    refine z_callSi (As := [.int a2, .int (0 : Int32), .int (99 : Int32)]) (rest := []) C Z (M_X5_in l G C.2.1 N mem823 a2 (0 : Int32) (99 : Int32) r825 mem825 hc825) (zcw_X5_44 C.1.2.2.2.2 ⟨Nat.le_of_ble_eq_true rfl, Nat.le_of_ble_eq_true rfl⟩) rfl hl.1 rfl (Nat.le_of_ble_eq_true rfl) ⟨Nat.le_refl 0, Nat.le_refl 0⟩ dX5_heard_15 (fun H locs Z => ?_)
    refine lv_if_eq (tgt := 30) C.1.1 C.1.2.1 dX5_heard_18 (by decide) (fun h826 => ?_) (fun h826 => ?_)
    · replace hf := (if_pos h826).symm.trans hf
      refine lv_bipush (v := (-3 : Int32)) C.1.1 C.1.2.1 dX5_heard_30 (by decide) ?_
      cases hf
      exact z_iret C Z hr hlk dX5_heard_32
    · replace hf := (if_neg h826).symm.trans hf
      refine lv_iload_n C.1.1 C.1.2.1 dX5_heard_21 rfl (lv_at hl 3 rfl) ?_
      refine lv_iconst (v := (0 : Int32)) C.1.1 C.1.2.1 dX5_heard_22 (by decide) ?_
      refine lv_iconst (v := (1 : Int32)) C.1.1 C.1.2.1 dX5_heard_23 (by decide) ?_
      obtain ⟨r827, mem827, hc827, hf⟩ := zb_some hf
      refine z_callSi (As := [.int a3, .int (0 : Int32), .int (1 : Int32)]) (rest := []) C Z (M_X5_in l G C.2.1 N mem825 a3 (0 : Int32) (1 : Int32) r827 mem827 hc827) (zcw_X5_44 C.1.2.2.2.2 ⟨Nat.le_of_ble_eq_true rfl, Nat.le_of_ble_eq_true rfl⟩) rfl hl.1 rfl (Nat.le_of_ble_eq_true rfl) ⟨Nat.le_refl 0, Nat.le_refl 0⟩ dX5_heard_24 (fun H locs Z => ?_)
      refine lv_if_ne (tgt := 33) C.1.1 C.1.2.1 dX5_heard_27 (by decide) (fun h828 => ?_) (fun h828 => ?_)
      · replace hf := (if_neg h828).symm.trans hf
        refine lv_aload_n C.1.1 C.1.2.1 dX5_heard_33 rfl (lv_at hl 0 rfl) ?_
        refine zg_X5_101 C Z dX5_heard_34 ?_
        refine lv_bipush (v := (6 : Int32)) C.1.1 C.1.2.1 dX5_heard_37 (by decide) ?_
        refine lv_icmp_ne (tgt := 45) C.1.1 C.1.2.1 dX5_heard_39 (by decide) (fun h829 => ?_) (fun h829 => ?_)
        · replace hf := (if_neg h829).symm.trans hf
          refine lv_aload_n C.1.1 C.1.2.1 dX5_heard_45 rfl (lv_at hl 0 rfl) ?_
          refine zg_X5_35 C Z dX5_heard_46 ?_
          refine lv_iconst (v := (3 : Int32)) C.1.1 C.1.2.1 dX5_heard_49 (by decide) ?_
          refine lv_aload_n C.1.1 C.1.2.1 dX5_heard_50 rfl (lv_at hl 0 rfl) ?_
          refine zg_X5_101 C Z dX5_heard_51 ?_
          refine lv_imul C.1.1 C.1.2.1 dX5_heard_54 ?_
          refine lv_iload_n C.1.1 C.1.2.1 dX5_heard_55 rfl (lv_at hl 1 rfl) ?_
          obtain ⟨hi830, hf⟩ := zgd_some hf
          refine z_iast (k := 53) C Z (by decide) (fun _ => rfl) hi830 dX5_heard_56 (fun H locs Z => ?_)
          obtain ⟨mem831, hm831, hf⟩ := zlet_some hf
          rw [← hm831] at Z
          refine lv_aload_n C.1.1 C.1.2.1 dX5_heard_57 rfl (lv_at hl 0 rfl) ?_
          refine zg_X5_35 C Z dX5_heard_58 ?_
          refine lv_iconst (v := (3 : Int32)) C.1.1 C.1.2.1 dX5_heard_61 (by decide) ?_
          refine lv_aload_n C.1.1 C.1.2.1 dX5_heard_62 rfl (lv_at hl 0 rfl) ?_
          refine zg_X5_101 C Z dX5_heard_63 ?_
          refine lv_imul C.1.1 C.1.2.1 dX5_heard_66 ?_
          refine lv_iconst (v := (1 : Int32)) C.1.1 C.1.2.1 dX5_heard_67 (by decide) ?_
          refine lv_iadd C.1.1 C.1.2.1 dX5_heard_68 ?_
          refine lv_iload_n C.1.1 C.1.2.1 dX5_heard_69 rfl (lv_at hl 2 rfl) ?_
          obtain ⟨hi832, hf⟩ := zgd_some hf
          refine z_iast (k := 53) C Z (by decide) (fun _ => rfl) hi832 dX5_heard_70 (fun H locs Z => ?_)
          obtain ⟨mem833, hm833, hf⟩ := zlet_some hf
          rw [← hm833] at Z
          refine lv_aload_n C.1.1 C.1.2.1 dX5_heard_71 rfl (lv_at hl 0 rfl) ?_
          refine zg_X5_35 C Z dX5_heard_72 ?_
          refine lv_iconst (v := (3 : Int32)) C.1.1 C.1.2.1 dX5_heard_75 (by decide) ?_
          refine lv_aload_n C.1.1 C.1.2.1 dX5_heard_76 rfl (lv_at hl 0 rfl) ?_
          refine zg_X5_101 C Z dX5_heard_77 ?_
          refine lv_imul C.1.1 C.1.2.1 dX5_heard_80 ?_
          refine lv_iconst (v := (2 : Int32)) C.1.1 C.1.2.1 dX5_heard_81 (by decide) ?_
          refine lv_iadd C.1.1 C.1.2.1 dX5_heard_82 ?_
          refine lv_iload_n C.1.1 C.1.2.1 dX5_heard_83 rfl (lv_at hl 3 rfl) ?_
          obtain ⟨hi834, hf⟩ := zgd_some hf
          refine z_iast (k := 53) C Z (by decide) (fun _ => rfl) hi834 dX5_heard_84 (fun H locs Z => ?_)
          obtain ⟨mem835, hm835, hf⟩ := zlet_some hf
          rw [← hm835] at Z
          refine lv_aload_n C.1.1 C.1.2.1 dX5_heard_85 rfl (lv_at hl 0 rfl) ?_
          refine lv_dup C.1.1 C.1.2.1 dX5_heard_86 rfl ?_
          refine zg_X5_101 C Z dX5_heard_87 ?_
          refine lv_iconst (v := (1 : Int32)) C.1.1 C.1.2.1 dX5_heard_90 (by decide) ?_
          refine lv_iadd C.1.1 C.1.2.1 dX5_heard_91 ?_
          refine zp_X5_101 C Z dX5_heard_92 (fun H locs Z => ?_)
          obtain ⟨mem836, hm836, hf⟩ := zlet_some hf
          rw [← hm836] at Z
          refine lv_aload_n C.1.1 C.1.2.1 dX5_heard_95 rfl (lv_at hl 0 rfl) ?_
          refine zg_X5_101 C Z dX5_heard_96 ?_
          cases hf
          exact z_iret C Z hr hlk dX5_heard_99
        · replace hf := (if_pos h829).symm.trans hf
          refine lv_bipush (v := (-5 : Int32)) C.1.1 C.1.2.1 dX5_heard_42 (by decide) ?_
          cases hf
          exact z_iret C Z hr hlk dX5_heard_44
      · replace hf := (if_pos h828).symm.trans hf
        refine lv_bipush (v := (-3 : Int32)) C.1.1 C.1.2.1 dX5_heard_30 (by decide) ?_
        cases hf
        exact z_iret C Z hr hlk dX5_heard_32
  · replace hf := (if_pos h824).symm.trans hf
    refine lv_bipush (v := (-2 : Int32)) C.1.1 C.1.2.1 dX5_heard_8 (by decide) ?_
    cases hf
    exact z_iret C Z hr hlk dX5_heard_10
set_option maxHeartbeats 4000000 in
set_option maxRecDepth 100000 in
theorem M_X5_forget (l : Launch) (G : zG) (hG : zOK G) (N : Nat) (mem : zMem) (r : Int32) (mem' : zMem) (hf : f_X5_forget N mem = some (r, mem')) : zM l G yX5_forget cX5_forget 2 (some .int) 0 0 [.ref (zr G 44)] mem (zQi G r mem') := by
  refine zStart hG (by decide +kernel) (Nat.le_of_ble_eq_true rfl) (fun p e s m below meth c C hr hlk ls hl Z => ?_)
  have hl : lv_has ls 2 [(0, .ref (zr G 44))] := hl
  have C : zC (zAd G) G p s m _ c cX5_forget 2 RX5 := C
  unfold f_X5_forget at hf
  refine lv_aload_n C.1.1 C.1.2.1 dX5_forget_0 rfl (lv_at hl 0 rfl) ?_
  refine zg_X5_98 C Z dX5_forget_1 ?_
  refine lv_aload_n C.1.1 C.1.2.1 dX5_forget_4 rfl (lv_at hl 0 rfl) ?_
  refine zg_X5_101 C Z dX5_forget_5 ?_
  refine lv_iadd C.1.1 C.1.2.1 dX5_forget_8 ?_
  refine lv_istore_n (lv' := [(1, .int ((mem 44 10) + (mem 44 12))), (0, .ref (zr G 44))]) C.1.1 C.1.2.1 dX5_forget_9 rfl hl (by decide) rfl (fun ls hl => ?_)
  refine lv_aload_n C.1.1 C.1.2.1 dX5_forget_10 rfl (lv_at hl 1 rfl) ?_
  refine lv_iconst (v := (0 : Int32)) C.1.1 C.1.2.1 dX5_forget_11 (by decide) ?_
  refine zp_X5_98 C Z dX5_forget_12 (fun H locs Z => ?_)
  obtain ⟨mem837, hm837, hf⟩ := zlet_some hf
  rw [← hm837] at Z
  refine lv_aload_n C.1.1 C.1.2.1 dX5_forget_15 rfl (lv_at hl 1 rfl) ?_
  refine lv_iconst (v := (0 : Int32)) C.1.1 C.1.2.1 dX5_forget_16 (by decide) ?_
  refine zp_X5_101 C Z dX5_forget_17 (fun H locs Z => ?_)
  obtain ⟨mem838, hm838, hf⟩ := zlet_some hf
  rw [← hm838] at Z
  refine lv_iload_n C.1.1 C.1.2.1 dX5_forget_20 rfl (lv_at hl 0 rfl) ?_
  cases hf
  exact z_iret C Z hr hlk dX5_forget_21
set_option maxHeartbeats 4000000 in
set_option maxRecDepth 100000 in
theorem K_X5_weights_27 {p : Program} {l : Launch} {e : Env} {s : State} {m : MethodId} {args : Array Value} {below : List Frame} {meth : Method} {c : Code} {G : zG} (C : zC (zAd G) G p s m args c cX5_weights 9 RX5) (hr : meth.sig.returnType = (some .int)) (hlk : meth.locks = false) {r : Int32} {mem' : zMem} (N : Nat) (k : zMem → Int32 → Int32 → Int32 → Int32 → Option (Int32 × zMem)) (hk : ∀ (mem : zMem) (x1 : Int32) (x2 : Int32) (x3 : Int32) (x4 : Int32) (H : Heap) (locs : List Loc) (ls : Array Slot), zH (zAd G) G s mem H locs → lv_has ls 9 [(0, .ref (zr G 44)), (1, .int x1), (2, .int x2), (3, .int x3), (4, .int x4)] → k mem x1 x2 x3 x4 = some (r, mem') → W p l e ({ frames := 3, cells := 0, slots := 0, locals := 68 } : Room) s m args below meth c H locs 0 0 (MQ below (zQi G r mem') args s 0 0 (zAd G)) (F0 m 143 ls [])) : ∀ (n : Nat) (mem : zMem) (x1 : Int32) (x2 : Int32) (x3 : Int32) (x4 : Int32) (x5 : Int32) (H : Heap) (locs : List Loc) (ls : Array Slot), zH (zAd G) G s mem H locs → lv_has ls 9 [(0, .ref (zr G 44)), (1, .int x1), (2, .int x2), (3, .int x3), (4, .int x4), (5, .int x5)] → f_X5_weights_27 k N n mem x1 x2 x3 x4 x5 = some (r, mem') → W p l e ({ frames := 3, cells := 0, slots := 0, locals := 68 } : Room) s m args below meth c H locs 0 0 (MQ below (zQi G r mem') args s 0 0 (zAd G)) (F0 m 27 ls []) := by
  intro n
  induction n with
  | zero =>
    intro mem x1 x2 x3 x4 x5 H locs ls Z hl hf
    rw [f_X5_weights_27.eq_1] at hf
    cases hf
  | succ n ih =>
    intro mem x1 x2 x3 x4 x5 H locs ls Z hl hf
    rw [f_X5_weights_27.eq_2] at hf
    refine lv_iload C.1.1 C.1.2.1 dX5_weights_27 (lv_at hl 5 rfl) ?_
    refine lv_aload_n C.1.1 C.1.2.1 dX5_weights_29 rfl (lv_at hl 0 rfl) ?_
    refine zg_X5_98 C Z dX5_weights_30 ?_
    refine lv_icmp_ge (tgt := 143) C.1.1 C.1.2.1 dX5_weights_33 (by decide) (fun h839 => ?_) (fun h839 => ?_)
    · replace hf := (if_pos h839).symm.trans hf
      exact hk mem x1 x2 x3 x4 _ _ _ Z (lv_sub hl [0, 1, 2, 3, 4] rfl) hf
    · replace hf := (if_neg h839).symm.trans hf
      refine lv_aload_n C.1.1 C.1.2.1 dX5_weights_36 rfl (lv_at hl 0 rfl) ?_
      refine zg_X5_32 C Z dX5_weights_37 ?_
      refine lv_iconst (v := (3 : Int32)) C.1.1 C.1.2.1 dX5_weights_40 (by decide) ?_
      refine lv_iload C.1.1 C.1.2.1 dX5_weights_41 (lv_at hl 5 rfl) ?_
      refine lv_imul C.1.1 C.1.2.1 dX5_weights_43 ?_
      obtain ⟨hi840, hf⟩ := zgd_some hf
      refine z_iald (k := 52) C Z (by decide) rfl hi840 dX5_weights_44 ?_
      refine lv_istore (lv' := [(6, .int (mem 52 ((3 : Int32) * x5).toNatClampNeg)), (0, .ref (zr G 44)), (1, .int x1), (2, .int x2), (3, .int x3), (4, .int x4), (5, .int x5)]) C.1.1 C.1.2.1 dX5_weights_45 hl (by decide) rfl (fun ls hl => ?_)
      refine lv_aload_n C.1.1 C.1.2.1 dX5_weights_47 rfl (lv_at hl 1 rfl) ?_
      refine zg_X5_32 C Z dX5_weights_48 ?_
      refine lv_iconst (v := (3 : Int32)) C.1.1 C.1.2.1 dX5_weights_51 (by decide) ?_
      refine lv_iload C.1.1 C.1.2.1 dX5_weights_52 (lv_at hl 6 rfl) ?_
      refine lv_imul C.1.1 C.1.2.1 dX5_weights_54 ?_
      refine lv_iconst (v := (1 : Int32)) C.1.1 C.1.2.1 dX5_weights_55 (by decide) ?_
      refine lv_iadd C.1.1 C.1.2.1 dX5_weights_56 ?_
      obtain ⟨hi841, hf⟩ := zgd_some hf
      refine z_iald (k := 52) C Z (by decide) rfl hi841 dX5_weights_57 ?_
      refine lv_istore (lv' := [(7, .int (mem 52 (((3 : Int32) * x5) + (1 : Int32)).toNatClampNeg)), (6, .int (mem 52 ((3 : Int32) * x5).toNatClampNeg)), (0, .ref (zr G 44)), (1, .int x1), (2, .int x2), (3, .int x3), (4, .int x4), (5, .int x5)]) C.1.1 C.1.2.1 dX5_weights_58 hl (by decide) rfl (fun ls hl => ?_)
      refine lv_aload_n C.1.1 C.1.2.1 dX5_weights_60 rfl (lv_at hl 2 rfl) ?_
      refine lv_iload C.1.1 C.1.2.1 dX5_weights_61 (lv_at hl 1 rfl) ?_
      refine lv_iconst (v := (1 : Int32)) C.1.1 C.1.2.1 dX5_weights_63 (by decide) ?_
      refine lv_iload_n C.1.1 C.1.2.1 dX5_weights_64 rfl (lv_at hl 3 rfl) ?_
      refine lv_ishl C.1.1 C.1.2.1 dX5_weights_65 ?_
      refine lv_iconst (v := (-1 : Int32)) C.1.1 C.1.2.1 dX5_weights_66 (by decide) ?_
      refine lv_ixor C.1.1 C.1.2.1 dX5_weights_67 ?_
      refine lv_iand C.1.1 C.1.2.1 dX5_weights_68 ?_
      refine lv_iload C.1.1 C.1.2.1 dX5_weights_69 (lv_at hl 0 rfl) ?_
      obtain ⟨r842, mem842, hc842, hf⟩ := zb_some hf
      refine z_callVi (k := 44) (As := [.int ((mem 52 ((3 : Int32) * x5).toNatClampNeg) &&& (((1 : Int32) <<< (x1 &&& 31)) ^^^ (-1 : Int32))), .int (mem 52 (((3 : Int32) * x5) + (1 : Int32)).toNatClampNeg)]) (rest := []) C Z (M_X5_ouncesOf l G C.2.1 N mem ((mem 52 ((3 : Int32) * x5).toNatClampNeg) &&& (((1 : Int32) <<< (x1 &&& 31)) ^^^ (-1 : Int32))) (mem 52 (((3 : Int32) * x5) + (1 : Int32)).toNatClampNeg) r842 mem842 hc842) (zcw_X5_116 C.1.2.2.2.2 ⟨Nat.le_of_ble_eq_true rfl, Nat.le_of_ble_eq_true rfl⟩) (by decide) rfl rfl rfl hl.1 rfl (Nat.le_of_ble_eq_true rfl) ⟨Nat.le_refl 0, Nat.le_refl 0⟩ dX5_weights_71 (fun H locs Z => ?_)
      refine lv_istore (lv' := [(8, .int r842), (7, .int (mem 52 (((3 : Int32) * x5) + (1 : Int32)).toNatClampNeg)), (6, .int (mem 52 ((3 : Int32) * x5).toNatClampNeg)), (0, .ref (zr G 44)), (1, .int x1), (2, .int x2), (3, .int x3), (4, .int x4), (5, .int x5)]) C.1.1 C.1.2.1 dX5_weights_74 hl (by decide) rfl (fun ls hl => ?_)
      refine lv_iload C.1.1 C.1.2.1 dX5_weights_76 (lv_at hl 0 rfl) ?_
      refine lv_iload C.1.1 C.1.2.1 dX5_weights_78 (lv_at hl 2 rfl) ?_
      refine lv_iload_n C.1.1 C.1.2.1 dX5_weights_80 rfl (lv_at hl 4 rfl) ?_
      refine lv_ishr C.1.1 C.1.2.1 dX5_weights_81 ?_
      refine lv_iconst (v := (1 : Int32)) C.1.1 C.1.2.1 dX5_weights_82 (by decide) ?_
      refine lv_iand C.1.1 C.1.2.1 dX5_weights_83 ?_
      refine lv_iconst (v := (1 : Int32)) C.1.1 C.1.2.1 dX5_weights_84 (by decide) ?_
      refine lv_icmp_ne (tgt := 105) C.1.1 C.1.2.1 dX5_weights_85 (by decide) (fun h843 => ?_) (fun h843 => ?_)
      · replace hf := (if_neg h843).symm.trans hf
        refine lv_iconst (v := (0 : Int32)) C.1.1 C.1.2.1 dX5_weights_105 (by decide) ?_
        refine lv_iadd C.1.1 C.1.2.1 dX5_weights_106 ?_
        refine lv_istore (lv' := [(8, .int (r842 + (0 : Int32))), (7, .int (mem 52 (((3 : Int32) * x5) + (1 : Int32)).toNatClampNeg)), (6, .int (mem 52 ((3 : Int32) * x5).toNatClampNeg)), (0, .ref (zr G 44)), (1, .int x1), (2, .int x2), (3, .int x3), (4, .int x4), (5, .int x5)]) C.1.1 C.1.2.1 dX5_weights_107 hl (by decide) rfl (fun ls hl => ?_)
        refine lv_iload C.1.1 C.1.2.1 dX5_weights_109 (lv_at hl 7 rfl) ?_
        refine lv_if_eq (tgt := 134) C.1.1 C.1.2.1 dX5_weights_111 (by decide) (fun h844 => ?_) (fun h844 => ?_)
        · replace hf := (if_pos h844).symm.trans hf
          refine lv_iconst (v := (0 : Int32)) C.1.1 C.1.2.1 dX5_weights_134 (by decide) ?_
          refine lv_istore (lv' := [(4, .int (0 : Int32)), (8, .int (r842 + (0 : Int32))), (7, .int (mem 52 (((3 : Int32) * x5) + (1 : Int32)).toNatClampNeg)), (6, .int (mem 52 ((3 : Int32) * x5).toNatClampNeg)), (0, .ref (zr G 44)), (1, .int x1), (2, .int x2), (3, .int x3), (5, .int x5)]) C.1.1 C.1.2.1 dX5_weights_135 hl (by decide) rfl (fun ls hl => ?_)
          refine lv_iinc (v := (x5 + 1)) (lv' := [(5, .int (x5 + 1)), (4, .int (0 : Int32)), (8, .int (r842 + (0 : Int32))), (7, .int (mem 52 (((3 : Int32) * x5) + (1 : Int32)).toNatClampNeg)), (6, .int (mem 52 ((3 : Int32) * x5).toNatClampNeg)), (0, .ref (zr G 44)), (1, .int x1), (2, .int x2), (3, .int x3)]) C.1.1 C.1.2.1 dX5_weights_137 hl (k := 8) rfl rfl (by decide) rfl (fun ls hl => ?_)
          refine lv_goto (tgt := 27) C.1.1 C.1.2.1 dX5_weights_140 (by decide) ?_
          exact ih mem842 x1 x2 x3 (0 : Int32) (x5 + 1) _ _ _ Z (lv_sub hl [5, 6, 7, 8, 1, 0] rfl) hf
        · replace hf := (if_neg h844).symm.trans hf
          refine lv_iload C.1.1 C.1.2.1 dX5_weights_114 (lv_at hl 0 rfl) ?_
          refine lv_aload_n C.1.1 C.1.2.1 dX5_weights_116 rfl (lv_at hl 3 rfl) ?_
          refine zg_X5_32 C Z dX5_weights_117 ?_
          refine lv_iconst (v := (3 : Int32)) C.1.1 C.1.2.1 dX5_weights_120 (by decide) ?_
          refine lv_iload C.1.1 C.1.2.1 dX5_weights_121 (lv_at hl 8 rfl) ?_
          refine lv_imul C.1.1 C.1.2.1 dX5_weights_123 ?_
          refine lv_iconst (v := (2 : Int32)) C.1.1 C.1.2.1 dX5_weights_124 (by decide) ?_
          refine lv_iadd C.1.1 C.1.2.1 dX5_weights_125 ?_
          obtain ⟨hi845, hf⟩ := zgd_some hf
          refine z_iald (k := 52) C Z (by decide) rfl hi845 dX5_weights_126 ?_
          refine lv_icmp_ne (tgt := 134) C.1.1 C.1.2.1 dX5_weights_127 (by decide) (fun h846 => ?_) (fun h846 => ?_)
          · replace hf := (if_neg h846).symm.trans hf
            refine lv_iconst (v := (0 : Int32)) C.1.1 C.1.2.1 dX5_weights_134 (by decide) ?_
            refine lv_istore (lv' := [(4, .int (0 : Int32)), (8, .int (r842 + (0 : Int32))), (7, .int (mem 52 (((3 : Int32) * x5) + (1 : Int32)).toNatClampNeg)), (6, .int (mem 52 ((3 : Int32) * x5).toNatClampNeg)), (0, .ref (zr G 44)), (1, .int x1), (2, .int x2), (3, .int x3), (5, .int x5)]) C.1.1 C.1.2.1 dX5_weights_135 hl (by decide) rfl (fun ls hl => ?_)
            refine lv_iinc (v := (x5 + 1)) (lv' := [(5, .int (x5 + 1)), (4, .int (0 : Int32)), (8, .int (r842 + (0 : Int32))), (7, .int (mem 52 (((3 : Int32) * x5) + (1 : Int32)).toNatClampNeg)), (6, .int (mem 52 ((3 : Int32) * x5).toNatClampNeg)), (0, .ref (zr G 44)), (1, .int x1), (2, .int x2), (3, .int x3)]) C.1.1 C.1.2.1 dX5_weights_137 hl (k := 8) rfl rfl (by decide) rfl (fun ls hl => ?_)
            refine lv_goto (tgt := 27) C.1.1 C.1.2.1 dX5_weights_140 (by decide) ?_
            exact ih mem842 x1 x2 x3 (0 : Int32) (x5 + 1) _ _ _ Z (lv_sub hl [5, 6, 7, 8, 1, 0] rfl) hf
          · replace hf := (if_pos h846).symm.trans hf
            refine lv_iconst (v := (1 : Int32)) C.1.1 C.1.2.1 dX5_weights_130 (by decide) ?_
            refine lv_goto (tgt := 135) C.1.1 C.1.2.1 dX5_weights_131 (by decide) ?_
            refine lv_istore (lv' := [(4, .int (1 : Int32)), (8, .int (r842 + (0 : Int32))), (7, .int (mem 52 (((3 : Int32) * x5) + (1 : Int32)).toNatClampNeg)), (6, .int (mem 52 ((3 : Int32) * x5).toNatClampNeg)), (0, .ref (zr G 44)), (1, .int x1), (2, .int x2), (3, .int x3), (5, .int x5)]) C.1.1 C.1.2.1 dX5_weights_135 hl (by decide) rfl (fun ls hl => ?_)
            refine lv_iinc (v := (x5 + 1)) (lv' := [(5, .int (x5 + 1)), (4, .int (1 : Int32)), (8, .int (r842 + (0 : Int32))), (7, .int (mem 52 (((3 : Int32) * x5) + (1 : Int32)).toNatClampNeg)), (6, .int (mem 52 ((3 : Int32) * x5).toNatClampNeg)), (0, .ref (zr G 44)), (1, .int x1), (2, .int x2), (3, .int x3)]) C.1.1 C.1.2.1 dX5_weights_137 hl (k := 8) rfl rfl (by decide) rfl (fun ls hl => ?_)
            refine lv_goto (tgt := 27) C.1.1 C.1.2.1 dX5_weights_140 (by decide) ?_
            exact ih mem842 x1 x2 x3 (1 : Int32) (x5 + 1) _ _ _ Z (lv_sub hl [5, 6, 7, 8, 1, 0] rfl) hf
      · replace hf := (if_pos h843).symm.trans hf
        refine lv_aload_n C.1.1 C.1.2.1 dX5_weights_88 rfl (lv_at hl 3 rfl) ?_
        refine zg_X5_13 C Z dX5_weights_89 ?_
        refine lv_iconst (v := (5 : Int32)) C.1.1 C.1.2.1 dX5_weights_92 (by decide) ?_
        refine lv_iload_n C.1.1 C.1.2.1 dX5_weights_93 rfl (lv_at hl 4 rfl) ?_
        refine lv_iadd C.1.1 C.1.2.1 dX5_weights_94 ?_
        obtain ⟨hi847, hf⟩ := zgd_some hf
        refine z_iald (k := 46) C Z (by decide) rfl hi847 dX5_weights_95 ?_
        refine lv_iload_n C.1.1 C.1.2.1 dX5_weights_96 rfl (lv_at hl 6 rfl) ?_
        refine lv_iload C.1.1 C.1.2.1 dX5_weights_97 (lv_at hl 1 rfl) ?_
        obtain ⟨r848, mem848, hc848, hf⟩ := zb_some hf
        refine z_callSi (As := [.int (mem842 46 ((5 : Int32) + x1).toNatClampNeg), .int x3, .int (mem 52 (((3 : Int32) * x5) + (1 : Int32)).toNatClampNeg)]) (rest := [.int r842]) C Z (M_X5_weighs l G C.2.1 N mem842 (mem842 46 ((5 : Int32) + x1).toNatClampNeg) x3 (mem 52 (((3 : Int32) * x5) + (1 : Int32)).toNatClampNeg) r848 mem848 hc848) (zcw_X5_108 C.1.2.2.2.2 ⟨Nat.le_of_ble_eq_true rfl, Nat.le_of_ble_eq_true rfl⟩) rfl hl.1 rfl (Nat.le_of_ble_eq_true rfl) ⟨Nat.le_refl 0, Nat.le_refl 0⟩ dX5_weights_99 (fun H locs Z => ?_)
        refine lv_goto (tgt := 106) C.1.1 C.1.2.1 dX5_weights_102 (by decide) ?_
        refine lv_iadd C.1.1 C.1.2.1 dX5_weights_106 ?_
        refine lv_istore (lv' := [(8, .int (r842 + r848)), (7, .int (mem 52 (((3 : Int32) * x5) + (1 : Int32)).toNatClampNeg)), (6, .int (mem 52 ((3 : Int32) * x5).toNatClampNeg)), (0, .ref (zr G 44)), (1, .int x1), (2, .int x2), (3, .int x3), (4, .int x4), (5, .int x5)]) C.1.1 C.1.2.1 dX5_weights_107 hl (by decide) rfl (fun ls hl => ?_)
        refine lv_iload C.1.1 C.1.2.1 dX5_weights_109 (lv_at hl 7 rfl) ?_
        refine lv_if_eq (tgt := 134) C.1.1 C.1.2.1 dX5_weights_111 (by decide) (fun h849 => ?_) (fun h849 => ?_)
        · replace hf := (if_pos h849).symm.trans hf
          refine lv_iconst (v := (0 : Int32)) C.1.1 C.1.2.1 dX5_weights_134 (by decide) ?_
          refine lv_istore (lv' := [(4, .int (0 : Int32)), (8, .int (r842 + r848)), (7, .int (mem 52 (((3 : Int32) * x5) + (1 : Int32)).toNatClampNeg)), (6, .int (mem 52 ((3 : Int32) * x5).toNatClampNeg)), (0, .ref (zr G 44)), (1, .int x1), (2, .int x2), (3, .int x3), (5, .int x5)]) C.1.1 C.1.2.1 dX5_weights_135 hl (by decide) rfl (fun ls hl => ?_)
          refine lv_iinc (v := (x5 + 1)) (lv' := [(5, .int (x5 + 1)), (4, .int (0 : Int32)), (8, .int (r842 + r848)), (7, .int (mem 52 (((3 : Int32) * x5) + (1 : Int32)).toNatClampNeg)), (6, .int (mem 52 ((3 : Int32) * x5).toNatClampNeg)), (0, .ref (zr G 44)), (1, .int x1), (2, .int x2), (3, .int x3)]) C.1.1 C.1.2.1 dX5_weights_137 hl (k := 8) rfl rfl (by decide) rfl (fun ls hl => ?_)
          refine lv_goto (tgt := 27) C.1.1 C.1.2.1 dX5_weights_140 (by decide) ?_
          exact ih mem848 x1 x2 x3 (0 : Int32) (x5 + 1) _ _ _ Z (lv_sub hl [5, 6, 7, 8, 1, 0] rfl) hf
        · replace hf := (if_neg h849).symm.trans hf
          refine lv_iload C.1.1 C.1.2.1 dX5_weights_114 (lv_at hl 0 rfl) ?_
          refine lv_aload_n C.1.1 C.1.2.1 dX5_weights_116 rfl (lv_at hl 3 rfl) ?_
          refine zg_X5_32 C Z dX5_weights_117 ?_
          refine lv_iconst (v := (3 : Int32)) C.1.1 C.1.2.1 dX5_weights_120 (by decide) ?_
          refine lv_iload C.1.1 C.1.2.1 dX5_weights_121 (lv_at hl 8 rfl) ?_
          refine lv_imul C.1.1 C.1.2.1 dX5_weights_123 ?_
          refine lv_iconst (v := (2 : Int32)) C.1.1 C.1.2.1 dX5_weights_124 (by decide) ?_
          refine lv_iadd C.1.1 C.1.2.1 dX5_weights_125 ?_
          obtain ⟨hi850, hf⟩ := zgd_some hf
          refine z_iald (k := 52) C Z (by decide) rfl hi850 dX5_weights_126 ?_
          refine lv_icmp_ne (tgt := 134) C.1.1 C.1.2.1 dX5_weights_127 (by decide) (fun h851 => ?_) (fun h851 => ?_)
          · replace hf := (if_neg h851).symm.trans hf
            refine lv_iconst (v := (0 : Int32)) C.1.1 C.1.2.1 dX5_weights_134 (by decide) ?_
            refine lv_istore (lv' := [(4, .int (0 : Int32)), (8, .int (r842 + r848)), (7, .int (mem 52 (((3 : Int32) * x5) + (1 : Int32)).toNatClampNeg)), (6, .int (mem 52 ((3 : Int32) * x5).toNatClampNeg)), (0, .ref (zr G 44)), (1, .int x1), (2, .int x2), (3, .int x3), (5, .int x5)]) C.1.1 C.1.2.1 dX5_weights_135 hl (by decide) rfl (fun ls hl => ?_)
            refine lv_iinc (v := (x5 + 1)) (lv' := [(5, .int (x5 + 1)), (4, .int (0 : Int32)), (8, .int (r842 + r848)), (7, .int (mem 52 (((3 : Int32) * x5) + (1 : Int32)).toNatClampNeg)), (6, .int (mem 52 ((3 : Int32) * x5).toNatClampNeg)), (0, .ref (zr G 44)), (1, .int x1), (2, .int x2), (3, .int x3)]) C.1.1 C.1.2.1 dX5_weights_137 hl (k := 8) rfl rfl (by decide) rfl (fun ls hl => ?_)
            refine lv_goto (tgt := 27) C.1.1 C.1.2.1 dX5_weights_140 (by decide) ?_
            exact ih mem848 x1 x2 x3 (0 : Int32) (x5 + 1) _ _ _ Z (lv_sub hl [5, 6, 7, 8, 1, 0] rfl) hf
          · replace hf := (if_pos h851).symm.trans hf
            refine lv_iconst (v := (1 : Int32)) C.1.1 C.1.2.1 dX5_weights_130 (by decide) ?_
            refine lv_goto (tgt := 135) C.1.1 C.1.2.1 dX5_weights_131 (by decide) ?_
            refine lv_istore (lv' := [(4, .int (1 : Int32)), (8, .int (r842 + r848)), (7, .int (mem 52 (((3 : Int32) * x5) + (1 : Int32)).toNatClampNeg)), (6, .int (mem 52 ((3 : Int32) * x5).toNatClampNeg)), (0, .ref (zr G 44)), (1, .int x1), (2, .int x2), (3, .int x3), (5, .int x5)]) C.1.1 C.1.2.1 dX5_weights_135 hl (by decide) rfl (fun ls hl => ?_)
            refine lv_iinc (v := (x5 + 1)) (lv' := [(5, .int (x5 + 1)), (4, .int (1 : Int32)), (8, .int (r842 + r848)), (7, .int (mem 52 (((3 : Int32) * x5) + (1 : Int32)).toNatClampNeg)), (6, .int (mem 52 ((3 : Int32) * x5).toNatClampNeg)), (0, .ref (zr G 44)), (1, .int x1), (2, .int x2), (3, .int x3)]) C.1.1 C.1.2.1 dX5_weights_137 hl (k := 8) rfl rfl (by decide) rfl (fun ls hl => ?_)
            refine lv_goto (tgt := 27) C.1.1 C.1.2.1 dX5_weights_140 (by decide) ?_
            exact ih mem848 x1 x2 x3 (1 : Int32) (x5 + 1) _ _ _ Z (lv_sub hl [5, 6, 7, 8, 1, 0] rfl) hf
set_option maxHeartbeats 4000000 in
set_option maxRecDepth 100000 in
theorem K_X5_weights_15 {p : Program} {l : Launch} {e : Env} {s : State} {m : MethodId} {args : Array Value} {below : List Frame} {meth : Method} {c : Code} {G : zG} (C : zC (zAd G) G p s m args c cX5_weights 9 RX5) (hr : meth.sig.returnType = (some .int)) (hlk : meth.locks = false) {r : Int32} {mem' : zMem} (N : Nat) : ∀ (n : Nat) (mem : zMem) (x1 : Int32) (x2 : Int32) (x3 : Int32) (H : Heap) (locs : List Loc) (ls : Array Slot), zH (zAd G) G s mem H locs → lv_has ls 9 [(0, .ref (zr G 44)), (1, .int x1), (2, .int x2), (3, .int x3)] → f_X5_weights_15 N n mem x1 x2 x3 = some (r, mem') → W p l e ({ frames := 3, cells := 0, slots := 0, locals := 68 } : Room) s m args below meth c H locs 0 0 (MQ below (zQi G r mem') args s 0 0 (zAd G)) (F0 m 15 ls []) := by
  intro n
  induction n with
  | zero =>
    intro mem x1 x2 x3 H locs ls Z hl hf
    rw [f_X5_weights_15.eq_1] at hf
    cases hf
  | succ n ih =>
    intro mem x1 x2 x3 H locs ls Z hl hf
    rw [f_X5_weights_15.eq_2] at hf
    refine lv_iload_n C.1.1 C.1.2.1 dX5_weights_15 rfl (lv_at hl 3 rfl) ?_
    refine lv_bipush (v := (21 : Int32)) C.1.1 C.1.2.1 dX5_weights_16 (by decide) ?_
    refine lv_icmp_ge (tgt := 164) C.1.1 C.1.2.1 dX5_weights_18 (by decide) (fun h852 => ?_) (fun h852 => ?_)
    · replace hf := (if_pos h852).symm.trans hf
      refine lv_iload_n C.1.1 C.1.2.1 dX5_weights_164 rfl (lv_at hl 2 rfl) ?_
      cases hf
      exact z_iret C Z hr hlk dX5_weights_165
    · replace hf := (if_neg h852).symm.trans hf
      refine lv_iconst (v := (1 : Int32)) C.1.1 C.1.2.1 dX5_weights_21 (by decide) ?_
      refine lv_istore (lv' := [(4, .int (1 : Int32)), (0, .ref (zr G 44)), (1, .int x1), (2, .int x2), (3, .int x3)]) C.1.1 C.1.2.1 dX5_weights_22 hl (by decide) rfl (fun ls hl => ?_)
      refine lv_iconst (v := (0 : Int32)) C.1.1 C.1.2.1 dX5_weights_24 (by decide) ?_
      refine lv_istore (lv' := [(5, .int (0 : Int32)), (4, .int (1 : Int32)), (0, .ref (zr G 44)), (1, .int x1), (2, .int x2), (3, .int x3)]) C.1.1 C.1.2.1 dX5_weights_25 hl (by decide) rfl (fun ls hl => ?_)
      refine K_X5_weights_27 (l := l) (e := e) (below := below) C hr hlk N _ (fun mem_853 x1_853 x2_853 x3_853 x4_853 H locs ls Z hl hf => ?_) N mem x1 x2 x3 (1 : Int32) (0 : Int32) _ _ _ Z (lv_sub hl [2, 3, 4, 5, 1, 0] rfl) hf
      refine lv_iload_n C.1.1 C.1.2.1 dX5_weights_143 rfl (lv_at hl 2 rfl) ?_
      refine lv_iload C.1.1 C.1.2.1 dX5_weights_144 (lv_at hl 4 rfl) ?_
      refine lv_if_eq (tgt := 155) C.1.1 C.1.2.1 dX5_weights_146 (by decide) (fun h854 => ?_) (fun h854 => ?_)
      · replace hf := (if_pos h854).symm.trans hf
        refine lv_iconst (v := (0 : Int32)) C.1.1 C.1.2.1 dX5_weights_155 (by decide) ?_
        refine lv_ior C.1.1 C.1.2.1 dX5_weights_156 ?_
        refine lv_istore_n (lv' := [(2, .int (x2_853 ||| (0 : Int32))), (0, .ref (zr G 44)), (1, .int x1_853), (3, .int x3_853), (4, .int x4_853)]) C.1.1 C.1.2.1 dX5_weights_157 rfl hl (by decide) rfl (fun ls hl => ?_)
        refine lv_iinc (v := (x3_853 + 1)) (lv' := [(3, .int (x3_853 + 1)), (2, .int (x2_853 ||| (0 : Int32))), (0, .ref (zr G 44)), (1, .int x1_853), (4, .int x4_853)]) C.1.1 C.1.2.1 dX5_weights_158 hl (k := 3) rfl rfl (by decide) rfl (fun ls hl => ?_)
        refine lv_goto (tgt := 15) C.1.1 C.1.2.1 dX5_weights_161 (by decide) ?_
        exact ih mem_853 x1_853 (x2_853 ||| (0 : Int32)) (x3_853 + 1) _ _ _ Z (lv_sub hl [2, 3, 1, 0] rfl) hf
      · replace hf := (if_neg h854).symm.trans hf
        refine lv_iconst (v := (1 : Int32)) C.1.1 C.1.2.1 dX5_weights_149 (by decide) ?_
        refine lv_iload_n C.1.1 C.1.2.1 dX5_weights_150 rfl (lv_at hl 3 rfl) ?_
        refine lv_ishl C.1.1 C.1.2.1 dX5_weights_151 ?_
        refine lv_goto (tgt := 156) C.1.1 C.1.2.1 dX5_weights_152 (by decide) ?_
        refine lv_ior C.1.1 C.1.2.1 dX5_weights_156 ?_
        refine lv_istore_n (lv' := [(2, .int (x2_853 ||| ((1 : Int32) <<< (x3_853 &&& 31)))), (0, .ref (zr G 44)), (1, .int x1_853), (3, .int x3_853), (4, .int x4_853)]) C.1.1 C.1.2.1 dX5_weights_157 rfl hl (by decide) rfl (fun ls hl => ?_)
        refine lv_iinc (v := (x3_853 + 1)) (lv' := [(3, .int (x3_853 + 1)), (2, .int (x2_853 ||| ((1 : Int32) <<< (x3_853 &&& 31)))), (0, .ref (zr G 44)), (1, .int x1_853), (4, .int x4_853)]) C.1.1 C.1.2.1 dX5_weights_158 hl (k := 3) rfl rfl (by decide) rfl (fun ls hl => ?_)
        refine lv_goto (tgt := 15) C.1.1 C.1.2.1 dX5_weights_161 (by decide) ?_
        exact ih mem_853 x1_853 (x2_853 ||| ((1 : Int32) <<< (x3_853 &&& 31))) (x3_853 + 1) _ _ _ Z (lv_sub hl [2, 3, 1, 0] rfl) hf
set_option maxHeartbeats 4000000 in
set_option maxRecDepth 100000 in
theorem M_X5_weights (l : Launch) (G : zG) (hG : zOK G) (N : Nat) (mem : zMem) (a1 : Int32) (r : Int32) (mem' : zMem) (hf : f_X5_weights N mem a1 = some (r, mem')) : zM l G yX5_weights cX5_weights 9 (some .int) 3 68 [.ref (zr G 44), .int a1] mem (zQi G r mem') := by
  refine zStart hG (by decide +kernel) (Nat.le_of_ble_eq_true rfl) (fun p e s m below meth c C hr hlk ls hl Z => ?_)
  have hl : lv_has ls 9 [(0, .ref (zr G 44)), (1, .int a1)] := hl
  have C : zC (zAd G) G p s m _ c cX5_weights 9 RX5 := C
  unfold f_X5_weights at hf
  refine lv_aload_n C.1.1 C.1.2.1 dX5_weights_0 rfl (lv_at hl 0 rfl) ?_
  refine lv_iload_n C.1.1 C.1.2.1 dX5_weights_1 rfl (lv_at hl 1 rfl) ?_
  obtain ⟨r855, mem855, hc855, hf⟩ := zb_some hf
  refine z_callVi (k := 44) (As := [.int a1]) (rest := []) C Z (M_X5_isPart l G C.2.1 N mem a1 r855 mem855 hc855) (zcw_X5_129 C.1.2.2.2.2 ⟨Nat.le_of_ble_eq_true rfl, Nat.le_of_ble_eq_true rfl⟩) (by decide) rfl rfl rfl hl.1 rfl (Nat.le_of_ble_eq_true rfl) ⟨Nat.le_refl 0, Nat.le_refl 0⟩ dX5_weights_2 (fun H locs Z => ?_)
  refine lv_if_ne (tgt := 11) C.1.1 C.1.2.1 dX5_weights_5 (by decide) (fun h856 => ?_) (fun h856 => ?_)
  · replace hf := (if_neg h856).symm.trans hf
    refine lv_iconst (v := (0 : Int32)) C.1.1 C.1.2.1 dX5_weights_11 (by decide) ?_
    refine lv_istore_n (lv' := [(2, .int (0 : Int32)), (0, .ref (zr G 44)), (1, .int a1)]) C.1.1 C.1.2.1 dX5_weights_12 rfl hl (by decide) rfl (fun ls hl => ?_)
    refine lv_iconst (v := (0 : Int32)) C.1.1 C.1.2.1 dX5_weights_13 (by decide) ?_
    refine lv_istore_n (lv' := [(3, .int (0 : Int32)), (2, .int (0 : Int32)), (0, .ref (zr G 44)), (1, .int a1)]) C.1.1 C.1.2.1 dX5_weights_14 rfl hl (by decide) rfl (fun ls hl => ?_)
    exact K_X5_weights_15 (l := l) (e := e) (below := below) C hr hlk N N mem855 a1 (0 : Int32) (0 : Int32) _ _ _ Z (lv_sub hl [2, 3, 1, 0] rfl) hf
  · replace hf := (if_pos h856).symm.trans hf
    refine lv_bipush (v := (-2 : Int32)) C.1.1 C.1.2.1 dX5_weights_8 (by decide) ?_
    cases hf
    exact z_iret C Z hr hlk dX5_weights_10
set_option maxHeartbeats 4000000 in
set_option maxRecDepth 100000 in
theorem K_X5_thumbs_15 {p : Program} {l : Launch} {e : Env} {s : State} {m : MethodId} {args : Array Value} {below : List Frame} {meth : Method} {c : Code} {G : zG} (C : zC (zAd G) G p s m args c cX5_thumbs 6 RX5) (hr : meth.sig.returnType = (some .int)) (hlk : meth.locks = false) {r : Int32} {mem' : zMem} (N : Nat) (k : zMem → Int32 → Int32 → Int32 → Option (Int32 × zMem)) (hk : ∀ (mem : zMem) (x1 : Int32) (x2 : Int32) (x3 : Int32) (H : Heap) (locs : List Loc) (ls : Array Slot), zH (zAd G) G s mem H locs → lv_has ls 6 [(0, .ref (zr G 44)), (1, .int x1), (2, .int x2), (3, .int x3)] → k mem x1 x2 x3 = some (r, mem') → W p l e ({ frames := 3, cells := 0, slots := 0, locals := 68 } : Room) s m args below meth c H locs 0 0 (MQ below (zQi G r mem') args s 0 0 (zAd G)) (F0 m 104 ls [])) : ∀ (n : Nat) (mem : zMem) (x1 : Int32) (x2 : Int32) (x3 : Int32) (x4 : Int32) (H : Heap) (locs : List Loc) (ls : Array Slot), zH (zAd G) G s mem H locs → lv_has ls 6 [(0, .ref (zr G 44)), (1, .int x1), (2, .int x2), (3, .int x3), (4, .int x4)] → f_X5_thumbs_15 k N n mem x1 x2 x3 x4 = some (r, mem') → W p l e ({ frames := 3, cells := 0, slots := 0, locals := 68 } : Room) s m args below meth c H locs 0 0 (MQ below (zQi G r mem') args s 0 0 (zAd G)) (F0 m 15 ls []) := by
  intro n
  induction n with
  | zero =>
    intro mem x1 x2 x3 x4 H locs ls Z hl hf
    rw [f_X5_thumbs_15.eq_1] at hf
    cases hf
  | succ n ih =>
    intro mem x1 x2 x3 x4 H locs ls Z hl hf
    rw [f_X5_thumbs_15.eq_2] at hf
    refine lv_iload C.1.1 C.1.2.1 dX5_thumbs_15 (lv_at hl 4 rfl) ?_
    refine lv_aload_n C.1.1 C.1.2.1 dX5_thumbs_17 rfl (lv_at hl 0 rfl) ?_
    refine zg_X5_101 C Z dX5_thumbs_18 ?_
    refine lv_icmp_ge (tgt := 104) C.1.1 C.1.2.1 dX5_thumbs_21 (by decide) (fun h857 => ?_) (fun h857 => ?_)
    · replace hf := (if_pos h857).symm.trans hf
      exact hk mem x1 x2 x3 _ _ _ Z (lv_sub hl [0, 1, 2, 3] rfl) hf
    · replace hf := (if_neg h857).symm.trans hf
      refine lv_iload_n C.1.1 C.1.2.1 dX5_thumbs_24 rfl (lv_at hl 2 rfl) ?_
      refine lv_aload_n C.1.1 C.1.2.1 dX5_thumbs_25 rfl (lv_at hl 0 rfl) ?_
      refine lv_aload_n C.1.1 C.1.2.1 dX5_thumbs_26 rfl (lv_at hl 0 rfl) ?_
      refine zg_X5_35 C Z dX5_thumbs_27 ?_
      refine lv_iconst (v := (3 : Int32)) C.1.1 C.1.2.1 dX5_thumbs_30 (by decide) ?_
      refine lv_iload C.1.1 C.1.2.1 dX5_thumbs_31 (lv_at hl 4 rfl) ?_
      refine lv_imul C.1.1 C.1.2.1 dX5_thumbs_33 ?_
      obtain ⟨hi858, hf⟩ := zgd_some hf
      refine z_iald (k := 53) C Z (by decide) rfl hi858 dX5_thumbs_34 ?_
      refine lv_aload_n C.1.1 C.1.2.1 dX5_thumbs_35 rfl (lv_at hl 0 rfl) ?_
      refine zg_X5_19 C Z dX5_thumbs_36 ?_
      refine lv_bipush (v := (6 : Int32)) C.1.1 C.1.2.1 dX5_thumbs_39 (by decide) ?_
      refine z_iald (k := 48) C Z (by decide) rfl (by decide) dX5_thumbs_41 ?_
      obtain ⟨r859, mem859, hc859, hf⟩ := zb_some hf
      refine z_callVi (k := 44) (As := [.int (mem 53 ((3 : Int32) * x4).toNatClampNeg), .int (mem 48 (6 : Int32).toNatClampNeg)]) (rest := [.int x2]) C Z (M_X5_ouncesOf l G C.2.1 N mem (mem 53 ((3 : Int32) * x4).toNatClampNeg) (mem 48 (6 : Int32).toNatClampNeg) r859 mem859 hc859) (zcw_X5_116 C.1.2.2.2.2 ⟨Nat.le_of_ble_eq_true rfl, Nat.le_of_ble_eq_true rfl⟩) (by decide) rfl rfl rfl hl.1 rfl (Nat.le_of_ble_eq_true rfl) ⟨Nat.le_refl 0, Nat.le_refl 0⟩ dX5_thumbs_42 (fun H locs Z => ?_)
      refine lv_iadd C.1.1 C.1.2.1 dX5_thumbs_45 ?_
      refine lv_istore (lv' := [(5, .int (x2 + r859)), (0, .ref (zr G 44)), (1, .int x1), (2, .int x2), (3, .int x3), (4, .int x4)]) C.1.1 C.1.2.1 dX5_thumbs_46 hl (by decide) rfl (fun ls hl => ?_)
      refine lv_iload_n C.1.1 C.1.2.1 dX5_thumbs_48 rfl (lv_at hl 4 rfl) ?_
      refine lv_if_eq (tgt := 96) C.1.1 C.1.2.1 dX5_thumbs_49 (by decide) (fun h860 => ?_) (fun h860 => ?_)
      · replace hf := (if_pos h860).symm.trans hf
        refine lv_iconst (v := (0 : Int32)) C.1.1 C.1.2.1 dX5_thumbs_96 (by decide) ?_
        refine lv_istore_n (lv' := [(3, .int (0 : Int32)), (5, .int (x2 + r859)), (0, .ref (zr G 44)), (1, .int x1), (2, .int x2), (4, .int x4)]) C.1.1 C.1.2.1 dX5_thumbs_97 rfl hl (by decide) rfl (fun ls hl => ?_)
        refine lv_iinc (v := (x4 + 1)) (lv' := [(4, .int (x4 + 1)), (3, .int (0 : Int32)), (5, .int (x2 + r859)), (0, .ref (zr G 44)), (1, .int x1), (2, .int x2)]) C.1.1 C.1.2.1 dX5_thumbs_98 hl (k := 5) rfl rfl (by decide) rfl (fun ls hl => ?_)
        refine lv_goto (tgt := 15) C.1.1 C.1.2.1 dX5_thumbs_101 (by decide) ?_
        exact ih mem859 x1 x2 (0 : Int32) (x4 + 1) _ _ _ Z (lv_sub hl [3, 4, 5, 1, 0] rfl) hf
      · replace hf := (if_neg h860).symm.trans hf
        refine lv_aload_n C.1.1 C.1.2.1 dX5_thumbs_52 rfl (lv_at hl 1 rfl) ?_
        refine lv_iload C.1.1 C.1.2.1 dX5_thumbs_53 (lv_at hl 0 rfl) ?_
        refine lv_aload_n C.1.1 C.1.2.1 dX5_thumbs_55 rfl (lv_at hl 1 rfl) ?_
        refine zg_X5_35 C Z dX5_thumbs_56 ?_
        refine lv_iconst (v := (3 : Int32)) C.1.1 C.1.2.1 dX5_thumbs_59 (by decide) ?_
        refine lv_iload C.1.1 C.1.2.1 dX5_thumbs_60 (lv_at hl 5 rfl) ?_
        refine lv_imul C.1.1 C.1.2.1 dX5_thumbs_62 ?_
        refine lv_iconst (v := (1 : Int32)) C.1.1 C.1.2.1 dX5_thumbs_63 (by decide) ?_
        refine lv_iadd C.1.1 C.1.2.1 dX5_thumbs_64 ?_
        obtain ⟨hi861, hf⟩ := zgd_some hf
        refine z_iald (k := 53) C Z (by decide) rfl hi861 dX5_thumbs_65 ?_
        obtain ⟨r862, mem862, hc862, hf⟩ := zb_some hf
        refine z_callVi (k := 44) (As := [.int (x2 + r859), .int (mem859 53 (((3 : Int32) * x4) + (1 : Int32)).toNatClampNeg)]) (rest := []) C Z (M_X5_hangs l G C.2.1 N mem859 (x2 + r859) (mem859 53 (((3 : Int32) * x4) + (1 : Int32)).toNatClampNeg) r862 mem862 hc862) (zcw_X5_125 C.1.2.2.2.2 ⟨Nat.le_of_ble_eq_true rfl, Nat.le_of_ble_eq_true rfl⟩) (by decide) rfl rfl rfl hl.1 rfl (Nat.le_of_ble_eq_true rfl) ⟨Nat.le_refl 0, Nat.le_refl 0⟩ dX5_thumbs_66 (fun H locs Z => ?_)
        refine lv_aload_n C.1.1 C.1.2.1 dX5_thumbs_69 rfl (lv_at hl 1 rfl) ?_
        refine zg_X5_35 C Z dX5_thumbs_70 ?_
        refine lv_iconst (v := (3 : Int32)) C.1.1 C.1.2.1 dX5_thumbs_73 (by decide) ?_
        refine lv_iload C.1.1 C.1.2.1 dX5_thumbs_74 (lv_at hl 5 rfl) ?_
        refine lv_imul C.1.1 C.1.2.1 dX5_thumbs_76 ?_
        refine lv_iconst (v := (2 : Int32)) C.1.1 C.1.2.1 dX5_thumbs_77 (by decide) ?_
        refine lv_iadd C.1.1 C.1.2.1 dX5_thumbs_78 ?_
        obtain ⟨hi863, hf⟩ := zgd_some hf
        refine z_iald (k := 53) C Z (by decide) rfl hi863 dX5_thumbs_79 ?_
        refine lv_iconst (v := (1 : Int32)) C.1.1 C.1.2.1 dX5_thumbs_80 (by decide) ?_
        refine lv_icmp_ne (tgt := 88) C.1.1 C.1.2.1 dX5_thumbs_81 (by decide) (fun h864 => ?_) (fun h864 => ?_)
        · replace hf := (if_neg h864).symm.trans hf
          refine lv_iconst (v := (0 : Int32)) C.1.1 C.1.2.1 dX5_thumbs_88 (by decide) ?_
          refine lv_icmp_ne (tgt := 96) C.1.1 C.1.2.1 dX5_thumbs_89 (by decide) (fun h865 => ?_) (fun h865 => ?_)
          · replace hf := (if_neg h865).symm.trans hf
            refine lv_iconst (v := (0 : Int32)) C.1.1 C.1.2.1 dX5_thumbs_96 (by decide) ?_
            refine lv_istore_n (lv' := [(3, .int (0 : Int32)), (5, .int (x2 + r859)), (0, .ref (zr G 44)), (1, .int x1), (2, .int x2), (4, .int x4)]) C.1.1 C.1.2.1 dX5_thumbs_97 rfl hl (by decide) rfl (fun ls hl => ?_)
            refine lv_iinc (v := (x4 + 1)) (lv' := [(4, .int (x4 + 1)), (3, .int (0 : Int32)), (5, .int (x2 + r859)), (0, .ref (zr G 44)), (1, .int x1), (2, .int x2)]) C.1.1 C.1.2.1 dX5_thumbs_98 hl (k := 5) rfl rfl (by decide) rfl (fun ls hl => ?_)
            refine lv_goto (tgt := 15) C.1.1 C.1.2.1 dX5_thumbs_101 (by decide) ?_
            exact ih mem862 x1 x2 (0 : Int32) (x4 + 1) _ _ _ Z (lv_sub hl [3, 4, 5, 1, 0] rfl) hf
          · replace hf := (if_pos h865).symm.trans hf
            refine lv_iconst (v := (1 : Int32)) C.1.1 C.1.2.1 dX5_thumbs_92 (by decide) ?_
            refine lv_goto (tgt := 97) C.1.1 C.1.2.1 dX5_thumbs_93 (by decide) ?_
            refine lv_istore_n (lv' := [(3, .int (1 : Int32)), (5, .int (x2 + r859)), (0, .ref (zr G 44)), (1, .int x1), (2, .int x2), (4, .int x4)]) C.1.1 C.1.2.1 dX5_thumbs_97 rfl hl (by decide) rfl (fun ls hl => ?_)
            refine lv_iinc (v := (x4 + 1)) (lv' := [(4, .int (x4 + 1)), (3, .int (1 : Int32)), (5, .int (x2 + r859)), (0, .ref (zr G 44)), (1, .int x1), (2, .int x2)]) C.1.1 C.1.2.1 dX5_thumbs_98 hl (k := 5) rfl rfl (by decide) rfl (fun ls hl => ?_)
            refine lv_goto (tgt := 15) C.1.1 C.1.2.1 dX5_thumbs_101 (by decide) ?_
            exact ih mem862 x1 x2 (1 : Int32) (x4 + 1) _ _ _ Z (lv_sub hl [3, 4, 5, 1, 0] rfl) hf
        · replace hf := (if_pos h864).symm.trans hf
          refine lv_iconst (v := (1 : Int32)) C.1.1 C.1.2.1 dX5_thumbs_84 (by decide) ?_
          refine lv_goto (tgt := 89) C.1.1 C.1.2.1 dX5_thumbs_85 (by decide) ?_
          refine lv_icmp_ne (tgt := 96) C.1.1 C.1.2.1 dX5_thumbs_89 (by decide) (fun h866 => ?_) (fun h866 => ?_)
          · replace hf := (if_neg h866).symm.trans hf
            refine lv_iconst (v := (0 : Int32)) C.1.1 C.1.2.1 dX5_thumbs_96 (by decide) ?_
            refine lv_istore_n (lv' := [(3, .int (0 : Int32)), (5, .int (x2 + r859)), (0, .ref (zr G 44)), (1, .int x1), (2, .int x2), (4, .int x4)]) C.1.1 C.1.2.1 dX5_thumbs_97 rfl hl (by decide) rfl (fun ls hl => ?_)
            refine lv_iinc (v := (x4 + 1)) (lv' := [(4, .int (x4 + 1)), (3, .int (0 : Int32)), (5, .int (x2 + r859)), (0, .ref (zr G 44)), (1, .int x1), (2, .int x2)]) C.1.1 C.1.2.1 dX5_thumbs_98 hl (k := 5) rfl rfl (by decide) rfl (fun ls hl => ?_)
            refine lv_goto (tgt := 15) C.1.1 C.1.2.1 dX5_thumbs_101 (by decide) ?_
            exact ih mem862 x1 x2 (0 : Int32) (x4 + 1) _ _ _ Z (lv_sub hl [3, 4, 5, 1, 0] rfl) hf
          · replace hf := (if_pos h866).symm.trans hf
            refine lv_iconst (v := (1 : Int32)) C.1.1 C.1.2.1 dX5_thumbs_92 (by decide) ?_
            refine lv_goto (tgt := 97) C.1.1 C.1.2.1 dX5_thumbs_93 (by decide) ?_
            refine lv_istore_n (lv' := [(3, .int (1 : Int32)), (5, .int (x2 + r859)), (0, .ref (zr G 44)), (1, .int x1), (2, .int x2), (4, .int x4)]) C.1.1 C.1.2.1 dX5_thumbs_97 rfl hl (by decide) rfl (fun ls hl => ?_)
            refine lv_iinc (v := (x4 + 1)) (lv' := [(4, .int (x4 + 1)), (3, .int (1 : Int32)), (5, .int (x2 + r859)), (0, .ref (zr G 44)), (1, .int x1), (2, .int x2)]) C.1.1 C.1.2.1 dX5_thumbs_98 hl (k := 5) rfl rfl (by decide) rfl (fun ls hl => ?_)
            refine lv_goto (tgt := 15) C.1.1 C.1.2.1 dX5_thumbs_101 (by decide) ?_
            exact ih mem862 x1 x2 (1 : Int32) (x4 + 1) _ _ _ Z (lv_sub hl [3, 4, 5, 1, 0] rfl) hf
set_option maxHeartbeats 4000000 in
set_option maxRecDepth 100000 in
theorem K_X5_thumbs_4 {p : Program} {l : Launch} {e : Env} {s : State} {m : MethodId} {args : Array Value} {below : List Frame} {meth : Method} {c : Code} {G : zG} (C : zC (zAd G) G p s m args c cX5_thumbs 6 RX5) (hr : meth.sig.returnType = (some .int)) (hlk : meth.locks = false) {r : Int32} {mem' : zMem} (N : Nat) : ∀ (n : Nat) (mem : zMem) (x1 : Int32) (x2 : Int32) (H : Heap) (locs : List Loc) (ls : Array Slot), zH (zAd G) G s mem H locs → lv_has ls 6 [(0, .ref (zr G 44)), (1, .int x1), (2, .int x2)] → f_X5_thumbs_4 N n mem x1 x2 = some (r, mem') → W p l e ({ frames := 3, cells := 0, slots := 0, locals := 68 } : Room) s m args below meth c H locs 0 0 (MQ below (zQi G r mem') args s 0 0 (zAd G)) (F0 m 4 ls []) := by
  intro n
  induction n with
  | zero =>
    intro mem x1 x2 H locs ls Z hl hf
    rw [f_X5_thumbs_4.eq_1] at hf
    cases hf
  | succ n ih =>
    intro mem x1 x2 H locs ls Z hl hf
    rw [f_X5_thumbs_4.eq_2] at hf
    refine lv_iload_n C.1.1 C.1.2.1 dX5_thumbs_4 rfl (lv_at hl 2 rfl) ?_
    refine lv_bipush (v := (10 : Int32)) C.1.1 C.1.2.1 dX5_thumbs_5 (by decide) ?_
    refine lv_icmp_ge (tgt := 124) C.1.1 C.1.2.1 dX5_thumbs_7 (by decide) (fun h867 => ?_) (fun h867 => ?_)
    · replace hf := (if_pos h867).symm.trans hf
      refine lv_iload_n C.1.1 C.1.2.1 dX5_thumbs_124 rfl (lv_at hl 1 rfl) ?_
      cases hf
      exact z_iret C Z hr hlk dX5_thumbs_125
    · replace hf := (if_neg h867).symm.trans hf
      refine lv_iconst (v := (1 : Int32)) C.1.1 C.1.2.1 dX5_thumbs_10 (by decide) ?_
      refine lv_istore_n (lv' := [(3, .int (1 : Int32)), (0, .ref (zr G 44)), (1, .int x1), (2, .int x2)]) C.1.1 C.1.2.1 dX5_thumbs_11 rfl hl (by decide) rfl (fun ls hl => ?_)
      refine lv_iconst (v := (0 : Int32)) C.1.1 C.1.2.1 dX5_thumbs_12 (by decide) ?_
      refine lv_istore (lv' := [(4, .int (0 : Int32)), (3, .int (1 : Int32)), (0, .ref (zr G 44)), (1, .int x1), (2, .int x2)]) C.1.1 C.1.2.1 dX5_thumbs_13 hl (by decide) rfl (fun ls hl => ?_)
      refine K_X5_thumbs_15 (l := l) (e := e) (below := below) C hr hlk N _ (fun mem_868 x1_868 x2_868 x3_868 H locs ls Z hl hf => ?_) N mem x1 x2 (1 : Int32) (0 : Int32) _ _ _ Z (lv_sub hl [2, 3, 4, 1, 0] rfl) hf
      refine lv_iload_n C.1.1 C.1.2.1 dX5_thumbs_104 rfl (lv_at hl 1 rfl) ?_
      refine lv_iload_n C.1.1 C.1.2.1 dX5_thumbs_105 rfl (lv_at hl 3 rfl) ?_
      refine lv_if_eq (tgt := 115) C.1.1 C.1.2.1 dX5_thumbs_106 (by decide) (fun h869 => ?_) (fun h869 => ?_)
      · replace hf := (if_pos h869).symm.trans hf
        refine lv_iconst (v := (0 : Int32)) C.1.1 C.1.2.1 dX5_thumbs_115 (by decide) ?_
        refine lv_ior C.1.1 C.1.2.1 dX5_thumbs_116 ?_
        refine lv_istore_n (lv' := [(1, .int (x1_868 ||| (0 : Int32))), (0, .ref (zr G 44)), (2, .int x2_868), (3, .int x3_868)]) C.1.1 C.1.2.1 dX5_thumbs_117 rfl hl (by decide) rfl (fun ls hl => ?_)
        refine lv_iinc (v := (x2_868 + 1)) (lv' := [(2, .int (x2_868 + 1)), (1, .int (x1_868 ||| (0 : Int32))), (0, .ref (zr G 44)), (3, .int x3_868)]) C.1.1 C.1.2.1 dX5_thumbs_118 hl (k := 2) rfl rfl (by decide) rfl (fun ls hl => ?_)
        refine lv_goto (tgt := 4) C.1.1 C.1.2.1 dX5_thumbs_121 (by decide) ?_
        exact ih mem_868 (x1_868 ||| (0 : Int32)) (x2_868 + 1) _ _ _ Z (lv_sub hl [2, 1, 0] rfl) hf
      · replace hf := (if_neg h869).symm.trans hf
        refine lv_iconst (v := (1 : Int32)) C.1.1 C.1.2.1 dX5_thumbs_109 (by decide) ?_
        refine lv_iload_n C.1.1 C.1.2.1 dX5_thumbs_110 rfl (lv_at hl 2 rfl) ?_
        refine lv_ishl C.1.1 C.1.2.1 dX5_thumbs_111 ?_
        refine lv_goto (tgt := 116) C.1.1 C.1.2.1 dX5_thumbs_112 (by decide) ?_
        refine lv_ior C.1.1 C.1.2.1 dX5_thumbs_116 ?_
        refine lv_istore_n (lv' := [(1, .int (x1_868 ||| ((1 : Int32) <<< (x2_868 &&& 31)))), (0, .ref (zr G 44)), (2, .int x2_868), (3, .int x3_868)]) C.1.1 C.1.2.1 dX5_thumbs_117 rfl hl (by decide) rfl (fun ls hl => ?_)
        refine lv_iinc (v := (x2_868 + 1)) (lv' := [(2, .int (x2_868 + 1)), (1, .int (x1_868 ||| ((1 : Int32) <<< (x2_868 &&& 31)))), (0, .ref (zr G 44)), (3, .int x3_868)]) C.1.1 C.1.2.1 dX5_thumbs_118 hl (k := 2) rfl rfl (by decide) rfl (fun ls hl => ?_)
        refine lv_goto (tgt := 4) C.1.1 C.1.2.1 dX5_thumbs_121 (by decide) ?_
        exact ih mem_868 (x1_868 ||| ((1 : Int32) <<< (x2_868 &&& 31))) (x2_868 + 1) _ _ _ Z (lv_sub hl [2, 1, 0] rfl) hf
set_option maxHeartbeats 4000000 in
set_option maxRecDepth 100000 in
theorem M_X5_thumbs (l : Launch) (G : zG) (hG : zOK G) (N : Nat) (mem : zMem) (r : Int32) (mem' : zMem) (hf : f_X5_thumbs N mem = some (r, mem')) : zM l G yX5_thumbs cX5_thumbs 6 (some .int) 3 68 [.ref (zr G 44)] mem (zQi G r mem') := by
  refine zStart hG (by decide +kernel) (Nat.le_of_ble_eq_true rfl) (fun p e s m below meth c C hr hlk ls hl Z => ?_)
  have hl : lv_has ls 6 [(0, .ref (zr G 44))] := hl
  have C : zC (zAd G) G p s m _ c cX5_thumbs 6 RX5 := C
  unfold f_X5_thumbs at hf
  refine lv_iconst (v := (0 : Int32)) C.1.1 C.1.2.1 dX5_thumbs_0 (by decide) ?_
  refine lv_istore_n (lv' := [(1, .int (0 : Int32)), (0, .ref (zr G 44))]) C.1.1 C.1.2.1 dX5_thumbs_1 rfl hl (by decide) rfl (fun ls hl => ?_)
  refine lv_iconst (v := (0 : Int32)) C.1.1 C.1.2.1 dX5_thumbs_2 (by decide) ?_
  refine lv_istore_n (lv' := [(2, .int (0 : Int32)), (1, .int (0 : Int32)), (0, .ref (zr G 44))]) C.1.1 C.1.2.1 dX5_thumbs_3 rfl hl (by decide) rfl (fun ls hl => ?_)
  exact K_X5_thumbs_4 (l := l) (e := e) (below := below) C hr hlk N N mem (0 : Int32) (0 : Int32) _ _ _ Z (lv_sub hl [2, 1, 0] rfl) hf
