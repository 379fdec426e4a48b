set_option maxHeartbeats 4000000 in
set_option maxRecDepth 100000 in
theorem M_X5_seen (l : Launch) (G : zG) (hG : zOK G) (N : Nat) (mem : zMem) (a1 : Int32) (a2 : Int32) (a3 : Int32) (r : Int32) (mem' : zMem) (hf : f_X5_seen N mem a1 a2 a3 = some (r, mem')) : zM l G yX5_seen cX5_seen 4 (some .int) 2 43 [.ref (zr G 44), .int a1, .int a2, .int a3] mem (zQi G r mem') := by
  refine zStart hG (by decide +kernel) (Nat.le_of_ble_eq_true rfl) (fun p e s m below meth c C hr hlk ls hl Z => ?_)
  have hl : lv_has ls 4 [(0, .ref (zr G 44)), (1, .int a1), (2, .int a2), (3, .int a3)] := hl
  have C : zC (zAd G) G p s m _ c cX5_seen 4 RX5 := C
  unfold f_X5_seen at hf
  refine lv_aload_n C.1.1 C.1.2.1 dX5_seen_0 rfl (lv_at hl 0 rfl) ?_
  refine lv_iload_n C.1.1 C.1.2.1 dX5_seen_1 rfl (lv_at hl 1 rfl) ?_
  obtain ⟨r818, mem818, hc818, hf⟩ := zb_some hf
  refine z_callVi (k := 44) (As := [.int a1]) (rest := []) C Z (M_X5_isSet l G C.2.1 N mem a1 r818 mem818 hc818) (zcw_X5_147 C.1.2.2.2.2 ⟨Nat.le_of_ble_eq_true rfl, Nat.le_of_ble_eq_true rfl⟩) (by decide) rfl rfl rfl hl.1 rfl (Nat.le_of_ble_eq_true rfl) ⟨Nat.le_refl 0, Nat.le_refl 0⟩ dX5_seen_2 (fun H locs Z => ?_)
  refine lv_if_ne (tgt := 11) C.1.1 C.1.2.1 dX5_seen_5 (by decide) (fun h819 => ?_) (fun h819 => ?_)
  · replace hf := (if_neg h819).symm.trans hf
    refine lv_iload_n C.1.1 C.1.2.1 dX5_seen_11 rfl (lv_at hl 2 rfl) ?_
    refine lv_iconst (v := (0 : Int32)) C.1.1 C.1.2.1 dX5_seen_12 (by decide) ?_
    refine lv_bipush (v := (9 : Int32)) C.1.1 C.1.2.1 dX5_seen_13 (by decide) ?_
    obtain ⟨r820, mem820, hc820, hf⟩ := zb_some hf
    refine z_callSi (As := [.int a2, .int (0 : Int32), .int (9 : Int32)]) (rest := []) C Z (M_X5_in l G C.2.1 N mem818 a2 (0 : Int32) (9 : Int32) r820 mem820 hc820) (zcw_X5_44 C.1.2.2.2.2 ⟨Nat.le_of_ble_eq_true rfl, Nat.le_of_ble_eq_true rfl⟩) rfl hl.1 rfl (Nat.le_of_ble_eq_true rfl) ⟨Nat.le_refl 0, Nat.le_refl 0⟩ dX5_seen_15 (fun H locs Z => ?_)
    refine lv_if_eq (tgt := 32) C.1.1 C.1.2.1 dX5_seen_18 (by decide) (fun h821 => ?_) (fun h821 => ?_)
    · replace hf := (if_pos h821).symm.trans hf
      refine lv_bipush (v := (-3 : Int32)) C.1.1 C.1.2.1 dX5_seen_32 (by decide) ?_
      cases hf
      exact z_iret C Z hr hlk dX5_seen_34
    · replace hf := (if_neg h821).symm.trans hf
      refine lv_iload_n C.1.1 C.1.2.1 dX5_seen_21 rfl (lv_at hl 3 rfl) ?_
      refine lv_iconst (v := (0 : Int32)) C.1.1 C.1.2.1 dX5_seen_22 (by decide) ?_
      refine lv_sipush (v := (255 : Int32)) C.1.1 C.1.2.1 dX5_seen_23 (by decide) ?_
      obtain ⟨r822, mem822, hc822, hf⟩ := zb_some hf
      refine z_callSi (As := [.int a3, .int (0 : Int32), .int (255 : Int32)]) (rest := []) C Z (M_X5_in l G C.2.1 N mem820 a3 (0 : Int32) (255 : Int32) r822 mem822 hc822) (zcw_X5_44 C.1.2.2.2.2 ⟨Nat.le_of_ble_eq_true rfl, Nat.le_of_ble_eq_true rfl⟩) rfl hl.1 rfl (Nat.le_of_ble_eq_true rfl) ⟨Nat.le_refl 0, Nat.le_refl 0⟩ dX5_seen_26 (fun H locs Z => ?_)
      refine lv_if_ne (tgt := 35) C.1.1 C.1.2.1 dX5_seen_29 (by decide) (fun h823 => ?_) (fun h823 => ?_)
      · replace hf := (if_neg h823).symm.trans hf
        refine lv_aload_n C.1.1 C.1.2.1 dX5_seen_35 rfl (lv_at hl 0 rfl) ?_
        refine zg_X5_98 C Z dX5_seen_36 ?_
        refine lv_bipush (v := (6 : Int32)) C.1.1 C.1.2.1 dX5_seen_39 (by decide) ?_
        refine lv_icmp_ne (tgt := 47) C.1.1 C.1.2.1 dX5_seen_41 (by decide) (fun h824 => ?_) (fun h824 => ?_)
        · replace hf := (if_neg h824).symm.trans hf
          refine lv_aload_n C.1.1 C.1.2.1 dX5_seen_47 rfl (lv_at hl 0 rfl) ?_
          refine zg_X5_32 C Z dX5_seen_48 ?_
          refine lv_iconst (v := (3 : Int32)) C.1.1 C.1.2.1 dX5_seen_51 (by decide) ?_
          refine lv_aload_n C.1.1 C.1.2.1 dX5_seen_52 rfl (lv_at hl 0 rfl) ?_
          refine zg_X5_98 C Z dX5_seen_53 ?_
          refine lv_imul C.1.1 C.1.2.1 dX5_seen_56 ?_
          refine lv_iload_n C.1.1 C.1.2.1 dX5_seen_57 rfl (lv_at hl 1 rfl) ?_
          obtain ⟨hi825, hf⟩ := zgd_some hf
          refine z_iast (k := 52) C Z (by decide) (fun _ => rfl) hi825 dX5_seen_58 (fun H locs Z => ?_)
          obtain ⟨mem826, hm826, hf⟩ := zlet_some hf
          rw [← hm826] at Z
          refine lv_aload_n C.1.1 C.1.2.1 dX5_seen_59 rfl (lv_at hl 0 rfl) ?_
          refine zg_X5_32 C Z dX5_seen_60 ?_
          refine lv_iconst (v := (3 : Int32)) C.1.1 C.1.2.1 dX5_seen_63 (by decide) ?_
          refine lv_aload_n C.1.1 C.1.2.1 dX5_seen_64 rfl (lv_at hl 0 rfl) ?_
          refine zg_X5_98 C Z dX5_seen_65 ?_
          refine lv_imul C.1.1 C.1.2.1 dX5_seen_68 ?_
          refine lv_iconst (v := (1 : Int32)) C.1.1 C.1.2.1 dX5_seen_69 (by decide) ?_
          refine lv_iadd C.1.1 C.1.2.1 dX5_seen_70 ?_
          refine lv_iload_n C.1.1 C.1.2.1 dX5_seen_71 rfl (lv_at hl 2 rfl) ?_
          obtain ⟨hi827, hf⟩ := zgd_some hf
          refine z_iast (k := 52) C Z (by decide) (fun _ => rfl) hi827 dX5_seen_72 (fun H locs Z => ?_)
          obtain ⟨mem828, hm828, hf⟩ := zlet_some hf
          rw [← hm828] at Z
          refine lv_aload_n C.1.1 C.1.2.1 dX5_seen_73 rfl (lv_at hl 0 rfl) ?_
          refine zg_X5_32 C Z dX5_seen_74 ?_
          refine lv_iconst (v := (3 : Int32)) C.1.1 C.1.2.1 dX5_seen_77 (by decide) ?_
          refine lv_aload_n C.1.1 C.1.2.1 dX5_seen_78 rfl (lv_at hl 0 rfl) ?_
          refine zg_X5_98 C Z dX5_seen_79 ?_
          refine lv_imul C.1.1 C.1.2.1 dX5_seen_82 ?_
          refine lv_iconst (v := (2 : Int32)) C.1.1 C.1.2.1 dX5_seen_83 (by decide) ?_
          refine lv_iadd C.1.1 C.1.2.1 dX5_seen_84 ?_
          refine lv_iload_n C.1.1 C.1.2.1 dX5_seen_85 rfl (lv_at hl 3 rfl) ?_
          obtain ⟨hi829, hf⟩ := zgd_some hf
          refine z_iast (k := 52) C Z (by decide) (fun _ => rfl) hi829 dX5_seen_86 (fun H locs Z => ?_)
          obtain ⟨mem830, hm830, hf⟩ := zlet_some hf
          rw [← hm830] at Z
          refine lv_aload_n C.1.1 C.1.2.1 dX5_seen_87 rfl (lv_at hl 0 rfl) ?_
          refine lv_dup C.1.1 C.1.2.1 dX5_seen_88 rfl ?_
          refine zg_X5_98 C Z dX5_seen_89 ?_
          refine lv_iconst (v := (1 : Int32)) C.1.1 C.1.2.1 dX5_seen_92 (by decide) ?_
          refine lv_iadd C.1.1 C.1.2.1 dX5_seen_93 ?_
          refine zp_X5_98 C Z dX5_seen_94 (fun H locs Z => ?_)
          obtain ⟨mem831, hm831, hf⟩ := zlet_some hf
          rw [← hm831] at Z
          refine lv_aload_n C.1.1 C.1.2.1 dX5_seen_97 rfl (lv_at hl 0 rfl) ?_
          refine zg_X5_98 C Z dX5_seen_98 ?_
          cases hf
          exact z_iret C Z hr hlk dX5_seen_101
        · replace hf := (if_pos h824).symm.trans hf
          refine lv_bipush (v := (-5 : Int32)) C.1.1 C.1.2.1 dX5_seen_44 (by decide) ?_
          cases hf
          exact z_iret C Z hr hlk dX5_seen_46
      · replace hf := (if_pos h823).symm.trans hf
        refine lv_bipush (v := (-3 : Int32)) C.1.1 C.1.2.1 dX5_seen_32 (by decide) ?_
        cases hf
        exact z_iret C Z hr hlk dX5_seen_34
  · replace hf := (if_pos h819).symm.trans hf
    refine lv_bipush (v := (-2 : Int32)) C.1.1 C.1.2.1 dX5_seen_8 (by decide) ?_
    cases hf
    exact z_iret C Z hr hlk dX5_seen_10
set_option maxHeartbeats 4000000 in
set_option maxRecDepth 100000 in
theorem M_X5_heard (l : Launch) (G : zG) (hG : zOK G) (N : Nat) (mem : zMem) (a1 : Int32) (a2 : Int32) (a3 : Int32) (r : Int32) (mem' : zMem) (hf : f_X5_heard N mem a1 a2 a3 = some (r, mem')) : zM l G yX5_heard cX5_heard 4 (some .int) 2 43 [.ref (zr G 44), .int a1, .int a2, .int a3] mem (zQi G r mem') := by
  refine zStart hG (by decide +kernel) (Nat.le_of_ble_eq_true rfl) (fun p e s m below meth c C hr hlk ls hl Z => ?_)
  have hl : lv_has ls 4 [(0, .ref (zr G 44)), (1, .int a1), (2, .int a2), (3, .int a3)] := hl
  have C : zC (zAd G) G p s m _ c cX5_heard 4 RX5 := C
  unfold f_X5_heard at hf
  refine lv_aload_n C.1.1 C.1.2.1 dX5_heard_0 rfl (lv_at hl 0 rfl) ?_
  refine lv_iload_n C.1.1 C.1.2.1 dX5_heard_1 rfl (lv_at hl 1 rfl) ?_
  obtain ⟨r832, mem832, hc832, hf⟩ := zb_some hf
  refine z_callVi (k := 44) (As := [.int a1]) (rest := []) C Z (M_X5_isSet l G C.2.1 N mem a1 r832 mem832 hc832) (zcw_X5_147 C.1.2.2.2.2 ⟨Nat.le_of_ble_eq_true rfl, Nat.le_of_ble_eq_true rfl⟩) (by decide) rfl rfl rfl hl.1 rfl (Nat.le_of_ble_eq_true rfl) ⟨Nat.le_refl 0, Nat.le_refl 0⟩ dX5_heard_2 (fun H locs Z => ?_)
  refine lv_if_ne (tgt := 11) C.1.1 C.1.2.1 dX5_heard_5 (by decide) (fun h833 => ?_) (fun h833 => ?_)
  · replace hf := (if_neg h833).symm.trans hf
    refine lv_iload_n C.1.1 C.1.2.1 dX5_heard_11 rfl (lv_at hl 2 rfl) ?_
    refine lv_iconst (v := (0 : Int32)) C.1.1 C.1.2.1 dX5_heard_12 (by decide) ?_
    refine lv_bipush (v := (99 : Int32)) C.1.1 C.1.2.1 dX5_heard_13 (by decide) ?_
    obtain ⟨r834, mem834, hc834, hf⟩ := zb_some hf
    refine z_callSi (As := [.int a2, .int (0 : Int32), .int (99 : Int32)]) (rest := []) C Z (M_X5_in l G C.2.1 N mem832 a2 (0 : Int32) (99 : Int32) r834 mem834 hc834) (zcw_X5_44 C.1.2.2.2.2 ⟨Nat.le_of_ble_eq_true rfl, Nat.le_of_ble_eq_true rfl⟩) rfl hl.1 rfl (Nat.le_of_ble_eq_true rfl) ⟨Nat.le_refl 0, Nat.le_refl 0⟩ dX5_heard_15 (fun H locs Z => ?_)
    refine lv_if_eq (tgt := 30) C.1.1 C.1.2.1 dX5_heard_18 (by decide) (fun h835 => ?_) (fun h835 => ?_)
    · replace hf := (if_pos h835).symm.trans hf
      refine lv_bipush (v := (-3 : Int32)) C.1.1 C.1.2.1 dX5_heard_30 (by decide) ?_
      cases hf
      exact z_iret C Z hr hlk dX5_heard_32
    · replace hf := (if_neg h835).symm.trans hf
      refine lv_iload_n C.1.1 C.1.2.1 dX5_heard_21 rfl (lv_at hl 3 rfl) ?_
      refine lv_iconst (v := (0 : Int32)) C.1.1 C.1.2.1 dX5_heard_22 (by decide) ?_
      refine lv_iconst (v := (1 : Int32)) C.1.1 C.1.2.1 dX5_heard_23 (by decide) ?_
      obtain ⟨r836, mem836, hc836, hf⟩ := zb_some hf
      refine z_callSi (As := [.int a3, .int (0 : Int32), .int (1 : Int32)]) (rest := []) C Z (M_X5_in l G C.2.1 N mem834 a3 (0 : Int32) (1 : Int32) r836 mem836 hc836) (zcw_X5_44 C.1.2.2.2.2 ⟨Nat.le_of_ble_eq_true rfl, Nat.le_of_ble_eq_true rfl⟩) rfl hl.1 rfl (Nat.le_of_ble_eq_true rfl) ⟨Nat.le_refl 0, Nat.le_refl 0⟩ dX5_heard_24 (fun H locs Z => ?_)
      refine lv_if_ne (tgt := 33) C.1.1 C.1.2.1 dX5_heard_27 (by decide) (fun h837 => ?_) (fun h837 => ?_)
      · replace hf := (if_neg h837).symm.trans hf
        refine lv_aload_n C.1.1 C.1.2.1 dX5_heard_33 rfl (lv_at hl 0 rfl) ?_
        refine zg_X5_101 C Z dX5_heard_34 ?_
        refine lv_bipush (v := (6 : Int32)) C.1.1 C.1.2.1 dX5_heard_37 (by decide) ?_
        refine lv_icmp_ne (tgt := 45) C.1.1 C.1.2.1 dX5_heard_39 (by decide) (fun h838 => ?_) (fun h838 => ?_)
        · replace hf := (if_neg h838).symm.trans hf
          refine lv_aload_n C.1.1 C.1.2.1 dX5_heard_45 rfl (lv_at hl 0 rfl) ?_
          refine zg_X5_35 C Z dX5_heard_46 ?_
          refine lv_iconst (v := (3 : Int32)) C.1.1 C.1.2.1 dX5_heard_49 (by decide) ?_
          refine lv_aload_n C.1.1 C.1.2.1 dX5_heard_50 rfl (lv_at hl 0 rfl) ?_
          refine zg_X5_101 C Z dX5_heard_51 ?_
          refine lv_imul C.1.1 C.1.2.1 dX5_heard_54 ?_
          refine lv_iload_n C.1.1 C.1.2.1 dX5_heard_55 rfl (lv_at hl 1 rfl) ?_
          obtain ⟨hi839, hf⟩ := zgd_some hf
          refine z_iast (k := 53) C Z (by decide) (fun _ => rfl) hi839 dX5_heard_56 (fun H locs Z => ?_)
          obtain ⟨mem840, hm840, hf⟩ := zlet_some hf
          rw [← hm840] at Z
          refine lv_aload_n C.1.1 C.1.2.1 dX5_heard_57 rfl (lv_at hl 0 rfl) ?_
          refine zg_X5_35 C Z dX5_heard_58 ?_
          refine lv_iconst (v := (3 : Int32)) C.1.1 C.1.2.1 dX5_heard_61 (by decide) ?_
          refine lv_aload_n C.1.1 C.1.2.1 dX5_heard_62 rfl (lv_at hl 0 rfl) ?_
          refine zg_X5_101 C Z dX5_heard_63 ?_
          refine lv_imul C.1.1 C.1.2.1 dX5_heard_66 ?_
          refine lv_iconst (v := (1 : Int32)) C.1.1 C.1.2.1 dX5_heard_67 (by decide) ?_
          refine lv_iadd C.1.1 C.1.2.1 dX5_heard_68 ?_
          refine lv_iload_n C.1.1 C.1.2.1 dX5_heard_69 rfl (lv_at hl 2 rfl) ?_
          obtain ⟨hi841, hf⟩ := zgd_some hf
          refine z_iast (k := 53) C Z (by decide) (fun _ => rfl) hi841 dX5_heard_70 (fun H locs Z => ?_)
          obtain ⟨mem842, hm842, hf⟩ := zlet_some hf
          rw [← hm842] at Z
          refine lv_aload_n C.1.1 C.1.2.1 dX5_heard_71 rfl (lv_at hl 0 rfl) ?_
          refine zg_X5_35 C Z dX5_heard_72 ?_
          refine lv_iconst (v := (3 : Int32)) C.1.1 C.1.2.1 dX5_heard_75 (by decide) ?_
          refine lv_aload_n C.1.1 C.1.2.1 dX5_heard_76 rfl (lv_at hl 0 rfl) ?_
          refine zg_X5_101 C Z dX5_heard_77 ?_
          refine lv_imul C.1.1 C.1.2.1 dX5_heard_80 ?_
          refine lv_iconst (v := (2 : Int32)) C.1.1 C.1.2.1 dX5_heard_81 (by decide) ?_
          refine lv_iadd C.1.1 C.1.2.1 dX5_heard_82 ?_
          refine lv_iload_n C.1.1 C.1.2.1 dX5_heard_83 rfl (lv_at hl 3 rfl) ?_
          obtain ⟨hi843, hf⟩ := zgd_some hf
          refine z_iast (k := 53) C Z (by decide) (fun _ => rfl) hi843 dX5_heard_84 (fun H locs Z => ?_)
          obtain ⟨mem844, hm844, hf⟩ := zlet_some hf
          rw [← hm844] at Z
          refine lv_aload_n C.1.1 C.1.2.1 dX5_heard_85 rfl (lv_at hl 0 rfl) ?_
          refine lv_dup C.1.1 C.1.2.1 dX5_heard_86 rfl ?_
          refine zg_X5_101 C Z dX5_heard_87 ?_
          refine lv_iconst (v := (1 : Int32)) C.1.1 C.1.2.1 dX5_heard_90 (by decide) ?_
          refine lv_iadd C.1.1 C.1.2.1 dX5_heard_91 ?_
          refine zp_X5_101 C Z dX5_heard_92 (fun H locs Z => ?_)
          obtain ⟨mem845, hm845, hf⟩ := zlet_some hf
          rw [← hm845] at Z
          refine lv_aload_n C.1.1 C.1.2.1 dX5_heard_95 rfl (lv_at hl 0 rfl) ?_
          refine zg_X5_101 C Z dX5_heard_96 ?_
          cases hf
          exact z_iret C Z hr hlk dX5_heard_99
        · replace hf := (if_pos h838).symm.trans hf
          refine lv_bipush (v := (-5 : Int32)) C.1.1 C.1.2.1 dX5_heard_42 (by decide) ?_
          cases hf
          exact z_iret C Z hr hlk dX5_heard_44
      · replace hf := (if_pos h837).symm.trans hf
        refine lv_bipush (v := (-3 : Int32)) C.1.1 C.1.2.1 dX5_heard_30 (by decide) ?_
        cases hf
        exact z_iret C Z hr hlk dX5_heard_32
  · replace hf := (if_pos h833).symm.trans hf
    refine lv_bipush (v := (-2 : Int32)) C.1.1 C.1.2.1 dX5_heard_8 (by decide) ?_
    cases hf
    exact z_iret C Z hr hlk dX5_heard_10
set_option maxHeartbeats 4000000 in
set_option maxRecDepth 100000 in
theorem M_X5_forget (l : Launch) (G : zG) (hG : zOK G) (N : Nat) (mem : zMem) (r : Int32) (mem' : zMem) (hf : f_X5_forget N mem = some (r, mem')) : zM l G yX5_forget cX5_forget 2 (some .int) 0 0 [.ref (zr G 44)] mem (zQi G r mem') := by
  refine zStart hG (by decide +kernel) (Nat.le_of_ble_eq_true rfl) (fun p e s m below meth c C hr hlk ls hl Z => ?_)
  have hl : lv_has ls 2 [(0, .ref (zr G 44))] := hl
  have C : zC (zAd G) G p s m _ c cX5_forget 2 RX5 := C
  unfold f_X5_forget at hf
  refine lv_aload_n C.1.1 C.1.2.1 dX5_forget_0 rfl (lv_at hl 0 rfl) ?_
  refine zg_X5_98 C Z dX5_forget_1 ?_
  refine lv_aload_n C.1.1 C.1.2.1 dX5_forget_4 rfl (lv_at hl 0 rfl) ?_
  refine zg_X5_101 C Z dX5_forget_5 ?_
  refine lv_iadd C.1.1 C.1.2.1 dX5_forget_8 ?_
  refine lv_istore_n (lv' := [(1, .int ((mem 44 10) + (mem 44 12))), (0, .ref (zr G 44))]) C.1.1 C.1.2.1 dX5_forget_9 rfl hl (by decide) rfl (fun ls hl => ?_)
  refine lv_aload_n C.1.1 C.1.2.1 dX5_forget_10 rfl (lv_at hl 1 rfl) ?_
  refine lv_iconst (v := (0 : Int32)) C.1.1 C.1.2.1 dX5_forget_11 (by decide) ?_
  refine zp_X5_98 C Z dX5_forget_12 (fun H locs Z => ?_)
  obtain ⟨mem846, hm846, hf⟩ := zlet_some hf
  rw [← hm846] at Z
  refine lv_aload_n C.1.1 C.1.2.1 dX5_forget_15 rfl (lv_at hl 1 rfl) ?_
  refine lv_iconst (v := (0 : Int32)) C.1.1 C.1.2.1 dX5_forget_16 (by decide) ?_
  refine zp_X5_101 C Z dX5_forget_17 (fun H locs Z => ?_)
  obtain ⟨mem847, hm847, hf⟩ := zlet_some hf
  rw [← hm847] at Z
  refine lv_iload_n C.1.1 C.1.2.1 dX5_forget_20 rfl (lv_at hl 0 rfl) ?_
  cases hf
  exact z_iret C Z hr hlk dX5_forget_21
set_option maxHeartbeats 4000000 in
set_option maxRecDepth 100000 in
theorem K_X5_weights_27 {p : Program} {l : Launch} {e : Env} {s : State} {m : MethodId} {args : Array Value} {below : List Frame} {meth : Method} {c : Code} {G : zG} (C : zC (zAd G) G p s m args c cX5_weights 9 RX5) (hr : meth.sig.returnType = (some .int)) (hlk : meth.locks = false) {r : Int32} {mem' : zMem} (N : Nat) (k : zMem → Int32 → Int32 → Int32 → Int32 → Option (Int32 × zMem)) (hk : ∀ (mem : zMem) (x1 : Int32) (x2 : Int32) (x3 : Int32) (x4 : Int32) (H : Heap) (locs : List Loc) (ls : Array Slot), zH (zAd G) G s mem H locs → lv_has ls 9 [(0, .ref (zr G 44)), (1, .int x1), (2, .int x2), (3, .int x3), (4, .int x4)] → k mem x1 x2 x3 x4 = some (r, mem') → W p l e ({ frames := 3, cells := 0, slots := 0, locals := 68 } : Room) s m args below meth c H locs 0 0 (MQ below (zQi G r mem') args s 0 0 (zAd G)) (F0 m 143 ls [])) : ∀ (n : Nat) (mem : zMem) (x1 : Int32) (x2 : Int32) (x3 : Int32) (x4 : Int32) (x5 : Int32) (H : Heap) (locs : List Loc) (ls : Array Slot), zH (zAd G) G s mem H locs → lv_has ls 9 [(0, .ref (zr G 44)), (1, .int x1), (2, .int x2), (3, .int x3), (4, .int x4), (5, .int x5)] → f_X5_weights_27 k N n mem x1 x2 x3 x4 x5 = some (r, mem') → W p l e ({ frames := 3, cells := 0, slots := 0, locals := 68 } : Room) s m args below meth c H locs 0 0 (MQ below (zQi G r mem') args s 0 0 (zAd G)) (F0 m 27 ls []) := by
  intro n
  induction n with
  | zero =>
    intro mem x1 x2 x3 x4 x5 H locs ls Z hl hf
    rw [f_X5_weights_27.eq_1] at hf
    cases hf
  | succ n ih =>
    intro mem x1 x2 x3 x4 x5 H locs ls Z hl hf
    rw [f_X5_weights_27.eq_2] at hf
    refine lv_iload C.1.1 C.1.2.1 dX5_weights_27 (lv_at hl 5 rfl) ?_
    refine lv_aload_n C.1.1 C.1.2.1 dX5_weights_29 rfl (lv_at hl 0 rfl) ?_
    refine zg_X5_98 C Z dX5_weights_30 ?_
    refine lv_icmp_ge (tgt := 143) C.1.1 C.1.2.1 dX5_weights_33 (by decide) (fun h848 => ?_) (fun h848 => ?_)
    · replace hf := (if_pos h848).symm.trans hf
      exact hk mem x1 x2 x3 x4 _ _ _ Z (lv_sub hl [0, 1, 2, 3, 4] rfl) hf
    · replace hf := (if_neg h848).symm.trans hf
      refine lv_aload_n C.1.1 C.1.2.1 dX5_weights_36 rfl (lv_at hl 0 rfl) ?_
      refine zg_X5_32 C Z dX5_weights_37 ?_
      refine lv_iconst (v := (3 : Int32)) C.1.1 C.1.2.1 dX5_weights_40 (by decide) ?_
      refine lv_iload C.1.1 C.1.2.1 dX5_weights_41 (lv_at hl 5 rfl) ?_
      refine lv_imul C.1.1 C.1.2.1 dX5_weights_43 ?_
      obtain ⟨hi849, hf⟩ := zgd_some hf
      refine z_iald (k := 52) C Z (by decide) rfl hi849 dX5_weights_44 ?_
      refine lv_istore (lv' := [(6, .int (mem 52 ((3 : Int32) * x5).toNatClampNeg)), (0, .ref (zr G 44)), (1, .int x1), (2, .int x2), (3, .int x3), (4, .int x4), (5, .int x5)]) C.1.1 C.1.2.1 dX5_weights_45 hl (by decide) rfl (fun ls hl => ?_)
      refine lv_aload_n C.1.1 C.1.2.1 dX5_weights_47 rfl (lv_at hl 1 rfl) ?_
      refine zg_X5_32 C Z dX5_weights_48 ?_
      refine lv_iconst (v := (3 : Int32)) C.1.1 C.1.2.1 dX5_weights_51 (by decide) ?_
      refine lv_iload C.1.1 C.1.2.1 dX5_weights_52 (lv_at hl 6 rfl) ?_
      refine lv_imul C.1.1 C.1.2.1 dX5_weights_54 ?_
      refine lv_iconst (v := (1 : Int32)) C.1.1 C.1.2.1 dX5_weights_55 (by decide) ?_
      refine lv_iadd C.1.1 C.1.2.1 dX5_weights_56 ?_
      obtain ⟨hi850, hf⟩ := zgd_some hf
      refine z_iald (k := 52) C Z (by decide) rfl hi850 dX5_weights_57 ?_
      refine lv_istore (lv' := [(7, .int (mem 52 (((3 : Int32) * x5) + (1 : Int32)).toNatClampNeg)), (6, .int (mem 52 ((3 : Int32) * x5).toNatClampNeg)), (0, .ref (zr G 44)), (1, .int x1), (2, .int x2), (3, .int x3), (4, .int x4), (5, .int x5)]) C.1.1 C.1.2.1 dX5_weights_58 hl (by decide) rfl (fun ls hl => ?_)
      refine lv_aload_n C.1.1 C.1.2.1 dX5_weights_60 rfl (lv_at hl 2 rfl) ?_
      refine lv_iload C.1.1 C.1.2.1 dX5_weights_61 (lv_at hl 1 rfl) ?_
      refine lv_iconst (v := (1 : Int32)) C.1.1 C.1.2.1 dX5_weights_63 (by decide) ?_
      refine lv_iload_n C.1.1 C.1.2.1 dX5_weights_64 rfl (lv_at hl 3 rfl) ?_
      refine lv_ishl C.1.1 C.1.2.1 dX5_weights_65 ?_
      refine lv_iconst (v := (-1 : Int32)) C.1.1 C.1.2.1 dX5_weights_66 (by decide) ?_
      refine lv_ixor C.1.1 C.1.2.1 dX5_weights_67 ?_
      refine lv_iand C.1.1 C.1.2.1 dX5_weights_68 ?_
      refine lv_iload C.1.1 C.1.2.1 dX5_weights_69 (lv_at hl 0 rfl) ?_
      obtain ⟨r851, mem851, hc851, hf⟩ := zb_some hf
      refine z_callVi (k := 44) (As := [.int ((mem 52 ((3 : Int32) * x5).toNatClampNeg) &&& (((1 : Int32) <<< (x1 &&& 31)) ^^^ (-1 : Int32))), .int (mem 52 (((3 : Int32) * x5) + (1 : Int32)).toNatClampNeg)]) (rest := []) C Z (M_X5_ouncesOf l G C.2.1 N mem ((mem 52 ((3 : Int32) * x5).toNatClampNeg) &&& (((1 : Int32) <<< (x1 &&& 31)) ^^^ (-1 : Int32))) (mem 52 (((3 : Int32) * x5) + (1 : Int32)).toNatClampNeg) r851 mem851 hc851) (zcw_X5_116 C.1.2.2.2.2 ⟨Nat.le_of_ble_eq_true rfl, Nat.le_of_ble_eq_true rfl⟩) (by decide) rfl rfl rfl hl.1 rfl (Nat.le_of_ble_eq_true rfl) ⟨Nat.le_refl 0, Nat.le_refl 0⟩ dX5_weights_71 (fun H locs Z => ?_)
      refine lv_istore (lv' := [(8, .int r851), (7, .int (mem 52 (((3 : Int32) * x5) + (1 : Int32)).toNatClampNeg)), (6, .int (mem 52 ((3 : Int32) * x5).toNatClampNeg)), (0, .ref (zr G 44)), (1, .int x1), (2, .int x2), (3, .int x3), (4, .int x4), (5, .int x5)]) C.1.1 C.1.2.1 dX5_weights_74 hl (by decide) rfl (fun ls hl => ?_)
      refine lv_iload C.1.1 C.1.2.1 dX5_weights_76 (lv_at hl 0 rfl) ?_
      refine lv_iload C.1.1 C.1.2.1 dX5_weights_78 (lv_at hl 2 rfl) ?_
      refine lv_iload_n C.1.1 C.1.2.1 dX5_weights_80 rfl (lv_at hl 4 rfl) ?_
      refine lv_ishr C.1.1 C.1.2.1 dX5_weights_81 ?_
      refine lv_iconst (v := (1 : Int32)) C.1.1 C.1.2.1 dX5_weights_82 (by decide) ?_
      refine lv_iand C.1.1 C.1.2.1 dX5_weights_83 ?_
      refine lv_iconst (v := (1 : Int32)) C.1.1 C.1.2.1 dX5_weights_84 (by decide) ?_
      refine lv_icmp_ne (tgt := 105) C.1.1 C.1.2.1 dX5_weights_85 (by decide) (fun h852 => ?_) (fun h852 => ?_)
      · replace hf := (if_neg h852).symm.trans hf
        refine lv_iconst (v := (0 : Int32)) C.1.1 C.1.2.1 dX5_weights_105 (by decide) ?_
        refine lv_iadd C.1.1 C.1.2.1 dX5_weights_106 ?_
        refine lv_istore (lv' := [(8, .int (r851 + (0 : Int32))), (7, .int (mem 52 (((3 : Int32) * x5) + (1 : Int32)).toNatClampNeg)), (6, .int (mem 52 ((3 : Int32) * x5).toNatClampNeg)), (0, .ref (zr G 44)), (1, .int x1), (2, .int x2), (3, .int x3), (4, .int x4), (5, .int x5)]) C.1.1 C.1.2.1 dX5_weights_107 hl (by decide) rfl (fun ls hl => ?_)
        refine lv_iload C.1.1 C.1.2.1 dX5_weights_109 (lv_at hl 7 rfl) ?_
        refine lv_if_eq (tgt := 134) C.1.1 C.1.2.1 dX5_weights_111 (by decide) (fun h853 => ?_) (fun h853 => ?_)
        · replace hf := (if_pos h853).symm.trans hf
          refine lv_iconst (v := (0 : Int32)) C.1.1 C.1.2.1 dX5_weights_134 (by decide) ?_
          refine lv_istore (lv' := [(4, .int (0 : Int32)), (8, .int (r851 + (0 : Int32))), (7, .int (mem 52 (((3 : Int32) * x5) + (1 : Int32)).toNatClampNeg)), (6, .int (mem 52 ((3 : Int32) * x5).toNatClampNeg)), (0, .ref (zr G 44)), (1, .int x1), (2, .int x2), (3, .int x3), (5, .int x5)]) C.1.1 C.1.2.1 dX5_weights_135 hl (by decide) rfl (fun ls hl => ?_)
          refine lv_iinc (v := (x5 + 1)) (lv' := [(5, .int (x5 + 1)), (4, .int (0 : Int32)), (8, .int (r851 + (0 : Int32))), (7, .int (mem 52 (((3 : Int32) * x5) + (1 : Int32)).toNatClampNeg)), (6, .int (mem 52 ((3 : Int32) * x5).toNatClampNeg)), (0, .ref (zr G 44)), (1, .int x1), (2, .int x2), (3, .int x3)]) C.1.1 C.1.2.1 dX5_weights_137 hl (k := 8) rfl rfl (by decide) rfl (fun ls hl => ?_)
          refine lv_goto (tgt := 27) C.1.1 C.1.2.1 dX5_weights_140 (by decide) ?_
          exact ih mem851 x1 x2 x3 (0 : Int32) (x5 + 1) _ _ _ Z (lv_sub hl [5, 6, 7, 8, 1, 0] rfl) hf
        · replace hf := (if_neg h853).symm.trans hf
          refine lv_iload C.1.1 C.1.2.1 dX5_weights_114 (lv_at hl 0 rfl) ?_
          refine lv_aload_n C.1.1 C.1.2.1 dX5_weights_116 rfl (lv_at hl 3 rfl) ?_
          refine zg_X5_32 C Z dX5_weights_117 ?_
          refine lv_iconst (v := (3 : Int32)) C.1.1 C.1.2.1 dX5_weights_120 (by decide) ?_
          refine lv_iload C.1.1 C.1.2.1 dX5_weights_121 (lv_at hl 8 rfl) ?_
          refine lv_imul C.1.1 C.1.2.1 dX5_weights_123 ?_
          refine lv_iconst (v := (2 : Int32)) C.1.1 C.1.2.1 dX5_weights_124 (by decide) ?_
          refine lv_iadd C.1.1 C.1.2.1 dX5_weights_125 ?_
          obtain ⟨hi854, hf⟩ := zgd_some hf
          refine z_iald (k := 52) C Z (by decide) rfl hi854 dX5_weights_126 ?_
          refine lv_icmp_ne (tgt := 134) C.1.1 C.1.2.1 dX5_weights_127 (by decide) (fun h855 => ?_) (fun h855 => ?_)
          · replace hf := (if_neg h855).symm.trans hf
            refine lv_iconst (v := (0 : Int32)) C.1.1 C.1.2.1 dX5_weights_134 (by decide) ?_
            refine lv_istore (lv' := [(4, .int (0 : Int32)), (8, .int (r851 + (0 : Int32))), (7, .int (mem 52 (((3 : Int32) * x5) + (1 : Int32)).toNatClampNeg)), (6, .int (mem 52 ((3 : Int32) * x5).toNatClampNeg)), (0, .ref (zr G 44)), (1, .int x1), (2, .int x2), (3, .int x3), (5, .int x5)]) C.1.1 C.1.2.1 dX5_weights_135 hl (by decide) rfl (fun ls hl => ?_)
            refine lv_iinc (v := (x5 + 1)) (lv' := [(5, .int (x5 + 1)), (4, .int (0 : Int32)), (8, .int (r851 + (0 : Int32))), (7, .int (mem 52 (((3 : Int32) * x5) + (1 : Int32)).toNatClampNeg)), (6, .int (mem 52 ((3 : Int32) * x5).toNatClampNeg)), (0, .ref (zr G 44)), (1, .int x1), (2, .int x2), (3, .int x3)]) C.1.1 C.1.2.1 dX5_weights_137 hl (k := 8) rfl rfl (by decide) rfl (fun ls hl => ?_)
            refine lv_goto (tgt := 27) C.1.1 C.1.2.1 dX5_weights_140 (by decide) ?_
            exact ih mem851 x1 x2 x3 (0 : Int32) (x5 + 1) _ _ _ Z (lv_sub hl [5, 6, 7, 8, 1, 0] rfl) hf
          · replace hf := (if_pos h855).symm.trans hf
            refine lv_iconst (v := (1 : Int32)) C.1.1 C.1.2.1 dX5_weights_130 (by decide) ?_
            refine lv_goto (tgt := 135) C.1.1 C.1.2.1 dX5_weights_131 (by decide) ?_
            refine lv_istore (lv' := [(4, .int (1 : Int32)), (8, .int (r851 + (0 : Int32))), (7, .int (mem 52 (((3 : Int32) * x5) + (1 : Int32)).toNatClampNeg)), (6, .int (mem 52 ((3 : Int32) * x5).toNatClampNeg)), (0, .ref (zr G 44)), (1, .int x1), (2, .int x2), (3, .int x3), (5, .int x5)]) C.1.1 C.1.2.1 dX5_weights_135 hl (by decide) rfl (fun ls hl => ?_)
            refine lv_iinc (v := (x5 + 1)) (lv' := [(5, .int (x5 + 1)), (4, .int (1 : Int32)), (8, .int (r851 + (0 : Int32))), (7, .int (mem 52 (((3 : Int32) * x5) + (1 : Int32)).toNatClampNeg)), (6, .int (mem 52 ((3 : Int32) * x5).toNatClampNeg)), (0, .ref (zr G 44)), (1, .int x1), (2, .int x2), (3, .int x3)]) C.1.1 C.1.2.1 dX5_weights_137 hl (k := 8) rfl rfl (by decide) rfl (fun ls hl => ?_)
            refine lv_goto (tgt := 27) C.1.1 C.1.2.1 dX5_weights_140 (by decide) ?_
            exact ih mem851 x1 x2 x3 (1 : Int32) (x5 + 1) _ _ _ Z (lv_sub hl [5, 6, 7, 8, 1, 0] rfl) hf
      · replace hf := (if_pos h852).symm.trans hf
        refine lv_aload_n C.1.1 C.1.2.1 dX5_weights_88 rfl (lv_at hl 3 rfl) ?_
        refine zg_X5_13 C Z dX5_weights_89 ?_
        refine lv_iconst (v := (5 : Int32)) C.1.1 C.1.2.1 dX5_weights_92 (by decide) ?_
        refine lv_iload_n C.1.1 C.1.2.1 dX5_weights_93 rfl (lv_at hl 4 rfl) ?_
        refine lv_iadd C.1.1 C.1.2.1 dX5_weights_94 ?_
        obtain ⟨hi856, hf⟩ := zgd_some hf
        refine z_iald (k := 46) C Z (by decide) rfl hi856 dX5_weights_95 ?_
        refine lv_iload_n C.1.1 C.1.2.1 dX5_weights_96 rfl (lv_at hl 6 rfl) ?_
        refine lv_iload C.1.1 C.1.2.1 dX5_weights_97 (lv_at hl 1 rfl) ?_
        obtain ⟨r857, mem857, hc857, hf⟩ := zb_some hf
        refine z_callSi (As := [.int (mem851 46 ((5 : Int32) + x1).toNatClampNeg), .int x3, .int (mem 52 (((3 : Int32) * x5) + (1 : Int32)).toNatClampNeg)]) (rest := [.int r851]) C Z (M_X5_weighs l G C.2.1 N mem851 (mem851 46 ((5 : Int32) + x1).toNatClampNeg) x3 (mem 52 (((3 : Int32) * x5) + (1 : Int32)).toNatClampNeg) r857 mem857 hc857) (zcw_X5_108 C.1.2.2.2.2 ⟨Nat.le_of_ble_eq_true rfl, Nat.le_of_ble_eq_true rfl⟩) rfl hl.1 rfl (Nat.le_of_ble_eq_true rfl) ⟨Nat.le_refl 0, Nat.le_refl 0⟩ dX5_weights_99 (fun H locs Z => ?_)
        refine lv_goto (tgt := 106) C.1.1 C.1.2.1 dX5_weights_102 (by decide) ?_
        refine lv_iadd C.1.1 C.1.2.1 dX5_weights_106 ?_
        refine lv_istore (lv' := [(8, .int (r851 + r857)), (7, .int (mem 52 (((3 : Int32) * x5) + (1 : Int32)).toNatClampNeg)), (6, .int (mem 52 ((3 : Int32) * x5).toNatClampNeg)), (0, .ref (zr G 44)), (1, .int x1), (2, .int x2), (3, .int x3), (4, .int x4), (5, .int x5)]) C.1.1 C.1.2.1 dX5_weights_107 hl (by decide) rfl (fun ls hl => ?_)
        refine lv_iload C.1.1 C.1.2.1 dX5_weights_109 (lv_at hl 7 rfl) ?_
        refine lv_if_eq (tgt := 134) C.1.1 C.1.2.1 dX5_weights_111 (by decide) (fun h858 => ?_) (fun h858 => ?_)
        · replace hf := (if_pos h858).symm.trans hf
          refine lv_iconst (v := (0 : Int32)) C.1.1 C.1.2.1 dX5_weights_134 (by decide) ?_
          refine lv_istore (lv' := [(4, .int (0 : Int32)), (8, .int (r851 + r857)), (7, .int (mem 52 (((3 : Int32) * x5) + (1 : Int32)).toNatClampNeg)), (6, .int (mem 52 ((3 : Int32) * x5).toNatClampNeg)), (0, .ref (zr G 44)), (1, .int x1), (2, .int x2), (3, .int x3), (5, .int x5)]) C.1.1 C.1.2.1 dX5_weights_135 hl (by decide) rfl (fun ls hl => ?_)
          refine lv_iinc (v := (x5 + 1)) (lv' := [(5, .int (x5 + 1)), (4, .int (0 : Int32)), (8, .int (r851 + r857)), (7, .int (mem 52 (((3 : Int32) * x5) + (1 : Int32)).toNatClampNeg)), (6, .int (mem 52 ((3 : Int32) * x5).toNatClampNeg)), (0, .ref (zr G 44)), (1, .int x1), (2, .int x2), (3, .int x3)]) C.1.1 C.1.2.1 dX5_weights_137 hl (k := 8) rfl rfl (by decide) rfl (fun ls hl => ?_)
          refine lv_goto (tgt := 27) C.1.1 C.1.2.1 dX5_weights_140 (by decide) ?_
          exact ih mem857 x1 x2 x3 (0 : Int32) (x5 + 1) _ _ _ Z (lv_sub hl [5, 6, 7, 8, 1, 0] rfl) hf
        · replace hf := (if_neg h858).symm.trans hf
          refine lv_iload C.1.1 C.1.2.1 dX5_weights_114 (lv_at hl 0 rfl) ?_
          refine lv_aload_n C.1.1 C.1.2.1 dX5_weights_116 rfl (lv_at hl 3 rfl) ?_
          refine zg_X5_32 C Z dX5_weights_117 ?_
          refine lv_iconst (v := (3 : Int32)) C.1.1 C.1.2.1 dX5_weights_120 (by decide) ?_
          refine lv_iload C.1.1 C.1.2.1 dX5_weights_121 (lv_at hl 8 rfl) ?_
          refine lv_imul C.1.1 C.1.2.1 dX5_weights_123 ?_
          refine lv_iconst (v := (2 : Int32)) C.1.1 C.1.2.1 dX5_weights_124 (by decide) ?_
          refine lv_iadd C.1.1 C.1.2.1 dX5_weights_125 ?_
          obtain ⟨hi859, hf⟩ := zgd_some hf
          refine z_iald (k := 52) C Z (by decide) rfl hi859 dX5_weights_126 ?_
          refine lv_icmp_ne (tgt := 134) C.1.1 C.1.2.1 dX5_weights_127 (by decide) (fun h860 => ?_) (fun h860 => ?_)
          · replace hf := (if_neg h860).symm.trans hf
            refine lv_iconst (v := (0 : Int32)) C.1.1 C.1.2.1 dX5_weights_134 (by decide) ?_
            refine lv_istore (lv' := [(4, .int (0 : Int32)), (8, .int (r851 + r857)), (7, .int (mem 52 (((3 : Int32) * x5) + (1 : Int32)).toNatClampNeg)), (6, .int (mem 52 ((3 : Int32) * x5).toNatClampNeg)), (0, .ref (zr G 44)), (1, .int x1), (2, .int x2), (3, .int x3), (5, .int x5)]) C.1.1 C.1.2.1 dX5_weights_135 hl (by decide) rfl (fun ls hl => ?_)
            refine lv_iinc (v := (x5 + 1)) (lv' := [(5, .int (x5 + 1)), (4, .int (0 : Int32)), (8, .int (r851 + r857)), (7, .int (mem 52 (((3 : Int32) * x5) + (1 : Int32)).toNatClampNeg)), (6, .int (mem 52 ((3 : Int32) * x5).toNatClampNeg)), (0, .ref (zr G 44)), (1, .int x1), (2, .int x2), (3, .int x3)]) C.1.1 C.1.2.1 dX5_weights_137 hl (k := 8) rfl rfl (by decide) rfl (fun ls hl => ?_)
            refine lv_goto (tgt := 27) C.1.1 C.1.2.1 dX5_weights_140 (by decide) ?_
            exact ih mem857 x1 x2 x3 (0 : Int32) (x5 + 1) _ _ _ Z (lv_sub hl [5, 6, 7, 8, 1, 0] rfl) hf
          · replace hf := (if_pos h860).symm.trans hf
            refine lv_iconst (v := (1 : Int32)) C.1.1 C.1.2.1 dX5_weights_130 (by decide) ?_
            refine lv_goto (tgt := 135) C.1.1 C.1.2.1 dX5_weights_131 (by decide) ?_
            refine lv_istore (lv' := [(4, .int (1 : Int32)), (8, .int (r851 + r857)), (7, .int (mem 52 (((3 : Int32) * x5) + (1 : Int32)).toNatClampNeg)), (6, .int (mem 52 ((3 : Int32) * x5).toNatClampNeg)), (0, .ref (zr G 44)), (1, .int x1), (2, .int x2), (3, .int x3), (5, .int x5)]) C.1.1 C.1.2.1 dX5_weights_135 hl (by decide) rfl (fun ls hl => ?_)
            refine lv_iinc (v := (x5 + 1)) (lv' := [(5, .int (x5 + 1)), (4, .int (1 : Int32)), (8, .int (r851 + r857)), (7, .int (mem 52 (((3 : Int32) * x5) + (1 : Int32)).toNatClampNeg)), (6, .int (mem 52 ((3 : Int32) * x5).toNatClampNeg)), (0, .ref (zr G 44)), (1, .int x1), (2, .int x2), (3, .int x3)]) C.1.1 C.1.2.1 dX5_weights_137 hl (k := 8) rfl rfl (by decide) rfl (fun ls hl => ?_)
            refine lv_goto (tgt := 27) C.1.1 C.1.2.1 dX5_weights_140 (by decide) ?_
            exact ih mem857 x1 x2 x3 (1 : Int32) (x5 + 1) _ _ _ Z (lv_sub hl [5, 6, 7, 8, 1, 0] rfl) hf
set_option maxHeartbeats 4000000 in
set_option maxRecDepth 100000 in
theorem K_X5_weights_15 {p : Program} {l : Launch} {e : Env} {s : State} {m : MethodId} {args : Array Value} {below : List Frame} {meth : Method} {c : Code} {G : zG} (C : zC (zAd G) G p s m args c cX5_weights 9 RX5) (hr : meth.sig.returnType = (some .int)) (hlk : meth.locks = false) {r : Int32} {mem' : zMem} (N : Nat) : ∀ (n : Nat) (mem : zMem) (x1 : Int32) (x2 : Int32) (x3 : Int32) (H : Heap) (locs : List Loc) (ls : Array Slot), zH (zAd G) G s mem H locs → lv_has ls 9 [(0, .ref (zr G 44)), (1, .int x1), (2, .int x2), (3, .int x3)] → f_X5_weights_15 N n mem x1 x2 x3 = some (r, mem') → W p l e ({ frames := 3, cells := 0, slots := 0, locals := 68 } : Room) s m args below meth c H locs 0 0 (MQ below (zQi G r mem') args s 0 0 (zAd G)) (F0 m 15 ls []) := by
  intro n
  induction n with
  | zero =>
    intro mem x1 x2 x3 H locs ls Z hl hf
    rw [f_X5_weights_15.eq_1] at hf
    cases hf
  | succ n ih =>
    intro mem x1 x2 x3 H locs ls Z hl hf
    rw [f_X5_weights_15.eq_2] at hf
    refine lv_iload_n C.1.1 C.1.2.1 dX5_weights_15 rfl (lv_at hl 3 rfl) ?_
    refine lv_bipush (v := (21 : Int32)) C.1.1 C.1.2.1 dX5_weights_16 (by decide) ?_
    refine lv_icmp_ge (tgt := 164) C.1.1 C.1.2.1 dX5_weights_18 (by decide) (fun h861 => ?_) (fun h861 => ?_)
    · replace hf := (if_pos h861).symm.trans hf
      refine lv_iload_n C.1.1 C.1.2.1 dX5_weights_164 rfl (lv_at hl 2 rfl) ?_
      cases hf
      exact z_iret C Z hr hlk dX5_weights_165
    · replace hf := (if_neg h861).symm.trans hf
      refine lv_iconst (v := (1 : Int32)) C.1.1 C.1.2.1 dX5_weights_21 (by decide) ?_
      refine lv_istore (lv' := [(4, .int (1 : Int32)), (0, .ref (zr G 44)), (1, .int x1), (2, .int x2), (3, .int x3)]) C.1.1 C.1.2.1 dX5_weights_22 hl (by decide) rfl (fun ls hl => ?_)
      refine lv_iconst (v := (0 : Int32)) C.1.1 C.1.2.1 dX5_weights_24 (by decide) ?_
      refine lv_istore (lv' := [(5, .int (0 : Int32)), (4, .int (1 : Int32)), (0, .ref (zr G 44)), (1, .int x1), (2, .int x2), (3, .int x3)]) C.1.1 C.1.2.1 dX5_weights_25 hl (by decide) rfl (fun ls hl => ?_)
      refine K_X5_weights_27 (l := l) (e := e) (below := below) C hr hlk N _ (fun mem_862 x1_862 x2_862 x3_862 x4_862 H locs ls Z hl hf => ?_) N mem x1 x2 x3 (1 : Int32) (0 : Int32) _ _ _ Z (lv_sub hl [2, 3, 4, 5, 1, 0] rfl) hf
      refine lv_iload_n C.1.1 C.1.2.1 dX5_weights_143 rfl (lv_at hl 2 rfl) ?_
      refine lv_iload C.1.1 C.1.2.1 dX5_weights_144 (lv_at hl 4 rfl) ?_
      refine lv_if_eq (tgt := 155) C.1.1 C.1.2.1 dX5_weights_146 (by decide) (fun h863 => ?_) (fun h863 => ?_)
      · replace hf := (if_pos h863).symm.trans hf
        refine lv_iconst (v := (0 : Int32)) C.1.1 C.1.2.1 dX5_weights_155 (by decide) ?_
        refine lv_ior C.1.1 C.1.2.1 dX5_weights_156 ?_
        refine lv_istore_n (lv' := [(2, .int (x2_862 ||| (0 : Int32))), (0, .ref (zr G 44)), (1, .int x1_862), (3, .int x3_862), (4, .int x4_862)]) C.1.1 C.1.2.1 dX5_weights_157 rfl hl (by decide) rfl (fun ls hl => ?_)
        refine lv_iinc (v := (x3_862 + 1)) (lv' := [(3, .int (x3_862 + 1)), (2, .int (x2_862 ||| (0 : Int32))), (0, .ref (zr G 44)), (1, .int x1_862), (4, .int x4_862)]) C.1.1 C.1.2.1 dX5_weights_158 hl (k := 3) rfl rfl (by decide) rfl (fun ls hl => ?_)
        refine lv_goto (tgt := 15) C.1.1 C.1.2.1 dX5_weights_161 (by decide) ?_
        exact ih mem_862 x1_862 (x2_862 ||| (0 : Int32)) (x3_862 + 1) _ _ _ Z (lv_sub hl [2, 3, 1, 0] rfl) hf
      · replace hf := (if_neg h863).symm.trans hf
        refine lv_iconst (v := (1 : Int32)) C.1.1 C.1.2.1 dX5_weights_149 (by decide) ?_
        refine lv_iload_n C.1.1 C.1.2.1 dX5_weights_150 rfl (lv_at hl 3 rfl) ?_
        refine lv_ishl C.1.1 C.1.2.1 dX5_weights_151 ?_
        refine lv_goto (tgt := 156) C.1.1 C.1.2.1 dX5_weights_152 (by decide) ?_
        refine lv_ior C.1.1 C.1.2.1 dX5_weights_156 ?_
        refine lv_istore_n (lv' := [(2, .int (x2_862 ||| ((1 : Int32) <<< (x3_862 &&& 31)))), (0, .ref (zr G 44)), (1, .int x1_862), (3, .int x3_862), (4, .int x4_862)]) C.1.1 C.1.2.1 dX5_weights_157 rfl hl (by decide) rfl (fun ls hl => ?_)
        refine lv_iinc (v := (x3_862 + 1)) (lv' := [(3, .int (x3_862 + 1)), (2, .int (x2_862 ||| ((1 : Int32) <<< (x3_862 &&& 31)))), (0, .ref (zr G 44)), (1, .int x1_862), (4, .int x4_862)]) C.1.1 C.1.2.1 dX5_weights_158 hl (k := 3) rfl rfl (by decide) rfl (fun ls hl => ?_)
        refine lv_goto (tgt := 15) C.1.1 C.1.2.1 dX5_weights_161 (by decide) ?_
        exact ih mem_862 x1_862 (x2_862 ||| ((1 : Int32) <<< (x3_862 &&& 31))) (x3_862 + 1) _ _ _ Z (lv_sub hl [2, 3, 1, 0] rfl) hf
set_option maxHeartbeats 4000000 in
set_option maxRecDepth 100000 in
theorem M_X5_weights (l : Launch) (G : zG) (hG : zOK G) (N : Nat) (mem : zMem) (a1 : Int32) (r : Int32) (mem' : zMem) (hf : f_X5_weights N mem a1 = some (r, mem')) : zM l G yX5_weights cX5_weights 9 (some .int) 3 68 [.ref (zr G 44), .int a1] mem (zQi G r mem') := by
  refine zStart hG (by decide +kernel) (Nat.le_of_ble_eq_true rfl) (fun p e s m below meth c C hr hlk ls hl Z => ?_)
  have hl : lv_has ls 9 [(0, .ref (zr G 44)), (1, .int a1)] := hl
  have C : zC (zAd G) G p s m _ c cX5_weights 9 RX5 := C
  unfold f_X5_weights at hf
  refine lv_aload_n C.1.1 C.1.2.1 dX5_weights_0 rfl (lv_at hl 0 rfl) ?_
  refine lv_iload_n C.1.1 C.1.2.1 dX5_weights_1 rfl (lv_at hl 1 rfl) ?_
  obtain ⟨r864, mem864, hc864, hf⟩ := zb_some hf
  refine z_callVi (k := 44) (As := [.int a1]) (rest := []) C Z (M_X5_isPart l G C.2.1 N mem a1 r864 mem864 hc864) (zcw_X5_129 C.1.2.2.2.2 ⟨Nat.le_of_ble_eq_true rfl, Nat.le_of_ble_eq_true rfl⟩) (by decide) rfl rfl rfl hl.1 rfl (Nat.le_of_ble_eq_true rfl) ⟨Nat.le_refl 0, Nat.le_refl 0⟩ dX5_weights_2 (fun H locs Z => ?_)
  refine lv_if_ne (tgt := 11) C.1.1 C.1.2.1 dX5_weights_5 (by decide) (fun h865 => ?_) (fun h865 => ?_)
  · replace hf := (if_neg h865).symm.trans hf
    refine lv_iconst (v := (0 : Int32)) C.1.1 C.1.2.1 dX5_weights_11 (by decide) ?_
    refine lv_istore_n (lv' := [(2, .int (0 : Int32)), (0, .ref (zr G 44)), (1, .int a1)]) C.1.1 C.1.2.1 dX5_weights_12 rfl hl (by decide) rfl (fun ls hl => ?_)
    refine lv_iconst (v := (0 : Int32)) C.1.1 C.1.2.1 dX5_weights_13 (by decide) ?_
    refine lv_istore_n (lv' := [(3, .int (0 : Int32)), (2, .int (0 : Int32)), (0, .ref (zr G 44)), (1, .int a1)]) C.1.1 C.1.2.1 dX5_weights_14 rfl hl (by decide) rfl (fun ls hl => ?_)
    exact K_X5_weights_15 (l := l) (e := e) (below := below) C hr hlk N N mem864 a1 (0 : Int32) (0 : Int32) _ _ _ Z (lv_sub hl [2, 3, 1, 0] rfl) hf
  · replace hf := (if_pos h865).symm.trans hf
    refine lv_bipush (v := (-2 : Int32)) C.1.1 C.1.2.1 dX5_weights_8 (by decide) ?_
    cases hf
    exact z_iret C Z hr hlk dX5_weights_10
set_option maxHeartbeats 4000000 in
set_option maxRecDepth 100000 in
theorem K_X5_thumbs_15 {p : Program} {l : Launch} {e : Env} {s : State} {m : MethodId} {args : Array Value} {below : List Frame} {meth : Method} {c : Code} {G : zG} (C : zC (zAd G) G p s m args c cX5_thumbs 6 RX5) (hr : meth.sig.returnType = (some .int)) (hlk : meth.locks = false) {r : Int32} {mem' : zMem} (N : Nat) (k : zMem → Int32 → Int32 → Int32 → Option (Int32 × zMem)) (hk : ∀ (mem : zMem) (x1 : Int32) (x2 : Int32) (x3 : Int32) (H : Heap) (locs : List Loc) (ls : Array Slot), zH (zAd G) G s mem H locs → lv_has ls 6 [(0, .ref (zr G 44)), (1, .int x1), (2, .int x2), (3, .int x3)] → k mem x1 x2 x3 = some (r, mem') → W p l e ({ frames := 3, cells := 0, slots := 0, locals := 68 } : Room) s m args below meth c H locs 0 0 (MQ below (zQi G r mem') args s 0 0 (zAd G)) (F0 m 104 ls [])) : ∀ (n : Nat) (mem : zMem) (x1 : Int32) (x2 : Int32) (x3 : Int32) (x4 : Int32) (H : Heap) (locs : List Loc) (ls : Array Slot), zH (zAd G) G s mem H locs → lv_has ls 6 [(0, .ref (zr G 44)), (1, .int x1), (2, .int x2), (3, .int x3), (4, .int x4)] → f_X5_thumbs_15 k N n mem x1 x2 x3 x4 = some (r, mem') → W p l e ({ frames := 3, cells := 0, slots := 0, locals := 68 } : Room) s m args below meth c H locs 0 0 (MQ below (zQi G r mem') args s 0 0 (zAd G)) (F0 m 15 ls []) := by
  intro n
  induction n with
  | zero =>
    intro mem x1 x2 x3 x4 H locs ls Z hl hf
    rw [f_X5_thumbs_15.eq_1] at hf
    cases hf
  | succ n ih =>
    intro mem x1 x2 x3 x4 H locs ls Z hl hf
    rw [f_X5_thumbs_15.eq_2] at hf
    refine lv_iload C.1.1 C.1.2.1 dX5_thumbs_15 (lv_at hl 4 rfl) ?_
    refine lv_aload_n C.1.1 C.1.2.1 dX5_thumbs_17 rfl (lv_at hl 0 rfl) ?_
    refine zg_X5_101 C Z dX5_thumbs_18 ?_
    refine lv_icmp_ge (tgt := 104) C.1.1 C.1.2.1 dX5_thumbs_21 (by decide) (fun h866 => ?_) (fun h866 => ?_)
    · replace hf := (if_pos h866).symm.trans hf
      exact hk mem x1 x2 x3 _ _ _ Z (lv_sub hl [0, 1, 2, 3] rfl) hf
    · replace hf := (if_neg h866).symm.trans hf
      refine lv_iload_n C.1.1 C.1.2.1 dX5_thumbs_24 rfl (lv_at hl 2 rfl) ?_
      refine lv_aload_n C.1.1 C.1.2.1 dX5_thumbs_25 rfl (lv_at hl 0 rfl) ?_
      refine lv_aload_n C.1.1 C.1.2.1 dX5_thumbs_26 rfl (lv_at hl 0 rfl) ?_
      refine zg_X5_35 C Z dX5_thumbs_27 ?_
      refine lv_iconst (v := (3 : Int32)) C.1.1 C.1.2.1 dX5_thumbs_30 (by decide) ?_
      refine lv_iload C.1.1 C.1.2.1 dX5_thumbs_31 (lv_at hl 4 rfl) ?_
      refine lv_imul C.1.1 C.1.2.1 dX5_thumbs_33 ?_
      obtain ⟨hi867, hf⟩ := zgd_some hf
      refine z_iald (k := 53) C Z (by decide) rfl hi867 dX5_thumbs_34 ?_
      refine lv_aload_n C.1.1 C.1.2.1 dX5_thumbs_35 rfl (lv_at hl 0 rfl) ?_
      refine zg_X5_19 C Z dX5_thumbs_36 ?_
      refine lv_bipush (v := (6 : Int32)) C.1.1 C.1.2.1 dX5_thumbs_39 (by decide) ?_
      refine z_iald (k := 48) C Z (by decide) rfl (by decide) dX5_thumbs_41 ?_
      obtain ⟨r868, mem868, hc868, hf⟩ := zb_some hf
      refine z_callVi (k := 44) (As := [.int (mem 53 ((3 : Int32) * x4).toNatClampNeg), .int (mem 48 (6 : Int32).toNatClampNeg)]) (rest := [.int x2]) C Z (M_X5_ouncesOf l G C.2.1 N mem (mem 53 ((3 : Int32) * x4).toNatClampNeg) (mem 48 (6 : Int32).toNatClampNeg) r868 mem868 hc868) (zcw_X5_116 C.1.2.2.2.2 ⟨Nat.le_of_ble_eq_true rfl, Nat.le_of_ble_eq_true rfl⟩) (by decide) rfl rfl rfl hl.1 rfl (Nat.le_of_ble_eq_true rfl) ⟨Nat.le_refl 0, Nat.le_refl 0⟩ dX5_thumbs_42 (fun H locs Z => ?_)
      refine lv_iadd C.1.1 C.1.2.1 dX5_thumbs_45 ?_
      refine lv_istore (lv' := [(5, .int (x2 + r868)), (0, .ref (zr G 44)), (1, .int x1), (2, .int x2), (3, .int x3), (4, .int x4)]) C.1.1 C.1.2.1 dX5_thumbs_46 hl (by decide) rfl (fun ls hl => ?_)
      refine lv_iload_n C.1.1 C.1.2.1 dX5_thumbs_48 rfl (lv_at hl 4 rfl) ?_
      refine lv_if_eq (tgt := 96) C.1.1 C.1.2.1 dX5_thumbs_49 (by decide) (fun h869 => ?_) (fun h869 => ?_)
      · replace hf := (if_pos h869).symm.trans hf
        refine lv_iconst (v := (0 : Int32)) C.1.1 C.1.2.1 dX5_thumbs_96 (by decide) ?_
        refine lv_istore_n (lv' := [(3, .int (0 : Int32)), (5, .int (x2 + r868)), (0, .ref (zr G 44)), (1, .int x1), (2, .int x2), (4, .int x4)]) C.1.1 C.1.2.1 dX5_thumbs_97 rfl hl (by decide) rfl (fun ls hl => ?_)
        refine lv_iinc (v := (x4 + 1)) (lv' := [(4, .int (x4 + 1)), (3, .int (0 : Int32)), (5, .int (x2 + r868)), (0, .ref (zr G 44)), (1, .int x1), (2, .int x2)]) C.1.1 C.1.2.1 dX5_thumbs_98 hl (k := 5) rfl rfl (by decide) rfl (fun ls hl => ?_)
        refine lv_goto (tgt := 15) C.1.1 C.1.2.1 dX5_thumbs_101 (by decide) ?_
        exact ih mem868 x1 x2 (0 : Int32) (x4 + 1) _ _ _ Z (lv_sub hl [3, 4, 5, 1, 0] rfl) hf
      · replace hf := (if_neg h869).symm.trans hf
        refine lv_aload_n C.1.1 C.1.2.1 dX5_thumbs_52 rfl (lv_at hl 1 rfl) ?_
        refine lv_iload C.1.1 C.1.2.1 dX5_thumbs_53 (lv_at hl 0 rfl) ?_
        refine lv_aload_n C.1.1 C.1.2.1 dX5_thumbs_55 rfl (lv_at hl 1 rfl) ?_
        refine zg_X5_35 C Z dX5_thumbs_56 ?_
        refine lv_iconst (v := (3 : Int32)) C.1.1 C.1.2.1 dX5_thumbs_59 (by decide) ?_
        refine lv_iload C.1.1 C.1.2.1 dX5_thumbs_60 (lv_at hl 5 rfl) ?_
        refine lv_imul C.1.1 C.1.2.1 dX5_thumbs_62 ?_
        refine lv_iconst (v := (1 : Int32)) C.1.1 C.1.2.1 dX5_thumbs_63 (by decide) ?_
        refine lv_iadd C.1.1 C.1.2.1 dX5_thumbs_64 ?_
        obtain ⟨hi870, hf⟩ := zgd_some hf
        refine z_iald (k := 53) C Z (by decide) rfl hi870 dX5_thumbs_65 ?_
        obtain ⟨r871, mem871, hc871, hf⟩ := zb_some hf
        refine z_callVi (k := 44) (As := [.int (x2 + r868), .int (mem868 53 (((3 : Int32) * x4) + (1 : Int32)).toNatClampNeg)]) (rest := []) C Z (M_X5_hangs l G C.2.1 N mem868 (x2 + r868) (mem868 53 (((3 : Int32) * x4) + (1 : Int32)).toNatClampNeg) r871 mem871 hc871) (zcw_X5_125 C.1.2.2.2.2 ⟨Nat.le_of_ble_eq_true rfl, Nat.le_of_ble_eq_true rfl⟩) (by decide) rfl rfl rfl hl.1 rfl (Nat.le_of_ble_eq_true rfl) ⟨Nat.le_refl 0, Nat.le_refl 0⟩ dX5_thumbs_66 (fun H locs Z => ?_)
        refine lv_aload_n C.1.1 C.1.2.1 dX5_thumbs_69 rfl (lv_at hl 1 rfl) ?_
        refine zg_X5_35 C Z dX5_thumbs_70 ?_
        refine lv_iconst (v := (3 : Int32)) C.1.1 C.1.2.1 dX5_thumbs_73 (by decide) ?_
        refine lv_iload C.1.1 C.1.2.1 dX5_thumbs_74 (lv_at hl 5 rfl) ?_
        refine lv_imul C.1.1 C.1.2.1 dX5_thumbs_76 ?_
        refine lv_iconst (v := (2 : Int32)) C.1.1 C.1.2.1 dX5_thumbs_77 (by decide) ?_
        refine lv_iadd C.1.1 C.1.2.1 dX5_thumbs_78 ?_
        obtain ⟨hi872, hf⟩ := zgd_some hf
        refine z_iald (k := 53) C Z (by decide) rfl hi872 dX5_thumbs_79 ?_
        refine lv_iconst (v := (1 : Int32)) C.1.1 C.1.2.1 dX5_thumbs_80 (by decide) ?_
        refine lv_icmp_ne (tgt := 88) C.1.1 C.1.2.1 dX5_thumbs_81 (by decide) (fun h873 => ?_) (fun h873 => ?_)
        · replace hf := (if_neg h873).symm.trans hf
          refine lv_iconst (v := (0 : Int32)) C.1.1 C.1.2.1 dX5_thumbs_88 (by decide) ?_
          refine lv_icmp_ne (tgt := 96) C.1.1 C.1.2.1 dX5_thumbs_89 (by decide) (fun h874 => ?_) (fun h874 => ?_)
          · replace hf := (if_neg h874).symm.trans hf
            refine lv_iconst (v := (0 : Int32)) C.1.1 C.1.2.1 dX5_thumbs_96 (by decide) ?_
            refine lv_istore_n (lv' := [(3, .int (0 : Int32)), (5, .int (x2 + r868)), (0, .ref (zr G 44)), (1, .int x1), (2, .int x2), (4, .int x4)]) C.1.1 C.1.2.1 dX5_thumbs_97 rfl hl (by decide) rfl (fun ls hl => ?_)
            refine lv_iinc (v := (x4 + 1)) (lv' := [(4, .int (x4 + 1)), (3, .int (0 : Int32)), (5, .int (x2 + r868)), (0, .ref (zr G 44)), (1, .int x1), (2, .int x2)]) C.1.1 C.1.2.1 dX5_thumbs_98 hl (k := 5) rfl rfl (by decide) rfl (fun ls hl => ?_)
            refine lv_goto (tgt := 15) C.1.1 C.1.2.1 dX5_thumbs_101 (by decide) ?_
            exact ih mem871 x1 x2 (0 : Int32) (x4 + 1) _ _ _ Z (lv_sub hl [3, 4, 5, 1, 0] rfl) hf
          · replace hf := (if_pos h874).symm.trans hf
            refine lv_iconst (v := (1 : Int32)) C.1.1 C.1.2.1 dX5_thumbs_92 (by decide) ?_
            refine lv_goto (tgt := 97) C.1.1 C.1.2.1 dX5_thumbs_93 (by decide) ?_
            refine lv_istore_n (lv' := [(3, .int (1 : Int32)), (5, .int (x2 + r868)), (0, .ref (zr G 44)), (1, .int x1), (2, .int x2), (4, .int x4)]) C.1.1 C.1.2.1 dX5_thumbs_97 rfl hl (by decide) rfl (fun ls hl => ?_)
            refine lv_iinc (v := (x4 + 1)) (lv' := [(4, .int (x4 + 1)), (3, .int (1 : Int32)), (5, .int (x2 + r868)), (0, .ref (zr G 44)), (1, .int x1), (2, .int x2)]) C.1.1 C.1.2.1 dX5_thumbs_98 hl (k := 5) rfl rfl (by decide) rfl (fun ls hl => ?_)
            refine lv_goto (tgt := 15) C.1.1 C.1.2.1 dX5_thumbs_101 (by decide) ?_
            exact ih mem871 x1 x2 (1 : Int32) (x4 + 1) _ _ _ Z (lv_sub hl [3, 4, 5, 1, 0] rfl) hf
        · replace hf := (if_pos h873).symm.trans hf
          refine lv_iconst (v := (1 : Int32)) C.1.1 C.1.2.1 dX5_thumbs_84 (by decide) ?_
          refine lv_goto (tgt := 89) C.1.1 C.1.2.1 dX5_thumbs_85 (by decide) ?_
          refine lv_icmp_ne (tgt := 96) C.1.1 C.1.2.1 dX5_thumbs_89 (by decide) (fun h875 => ?_) (fun h875 => ?_)
          · replace hf := (if_neg h875).symm.trans hf
            refine lv_iconst (v := (0 : Int32)) C.1.1 C.1.2.1 dX5_thumbs_96 (by decide) ?_
            refine lv_istore_n (lv' := [(3, .int (0 : Int32)), (5, .int (x2 + r868)), (0, .ref (zr G 44)), (1, .int x1), (2, .int x2), (4, .int x4)]) C.1.1 C.1.2.1 dX5_thumbs_97 rfl hl (by decide) rfl (fun ls hl => ?_)
            refine lv_iinc (v := (x4 + 1)) (lv' := [(4, .int (x4 + 1)), (3, .int (0 : Int32)), (5, .int (x2 + r868)), (0, .ref (zr G 44)), (1, .int x1), (2, .int x2)]) C.1.1 C.1.2.1 dX5_thumbs_98 hl (k := 5) rfl rfl (by decide) rfl (fun ls hl => ?_)
            refine lv_goto (tgt := 15) C.1.1 C.1.2.1 dX5_thumbs_101 (by decide) ?_
            exact ih mem871 x1 x2 (0 : Int32) (x4 + 1) _ _ _ Z (lv_sub hl [3, 4, 5, 1, 0] rfl) hf
          · replace hf := (if_pos h875).symm.trans hf
            refine lv_iconst (v := (1 : Int32)) C.1.1 C.1.2.1 dX5_thumbs_92 (by decide) ?_
            refine lv_goto (tgt := 97) C.1.1 C.1.2.1 dX5_thumbs_93 (by decide) ?_
            refine lv_istore_n (lv' := [(3, .int (1 : Int32)), (5, .int (x2 + r868)), (0, .ref (zr G 44)), (1, .int x1), (2, .int x2), (4, .int x4)]) C.1.1 C.1.2.1 dX5_thumbs_97 rfl hl (by decide) rfl (fun ls hl => ?_)
            refine lv_iinc (v := (x4 + 1)) (lv' := [(4, .int (x4 + 1)), (3, .int (1 : Int32)), (5, .int (x2 + r868)), (0, .ref (zr G 44)), (1, .int x1), (2, .int x2)]) C.1.1 C.1.2.1 dX5_thumbs_98 hl (k := 5) rfl rfl (by decide) rfl (fun ls hl => ?_)
            refine lv_goto (tgt := 15) C.1.1 C.1.2.1 dX5_thumbs_101 (by decide) ?_
            exact ih mem871 x1 x2 (1 : Int32) (x4 + 1) _ _ _ Z (lv_sub hl [3, 4, 5, 1, 0] rfl) hf
set_option maxHeartbeats 4000000 in
set_option maxRecDepth 100000 in
theorem K_X5_thumbs_4 {p : Program} {l : Launch} {e : Env} {s : State} {m : MethodId} {args : Array Value} {below : List Frame} {meth : Method} {c : Code} {G : zG} (C : zC (zAd G) G p s m args c cX5_thumbs 6 RX5) (hr : meth.sig.returnType = (some .int)) (hlk : meth.locks = false) {r : Int32} {mem' : zMem} (N : Nat) : ∀ (n : Nat) (mem : zMem) (x1 : Int32) (x2 : Int32) (H : Heap) (locs : List Loc) (ls : Array Slot), zH (zAd G) G s mem H locs → lv_has ls 6 [(0, .ref (zr G 44)), (1, .int x1), (2, .int x2)] → f_X5_thumbs_4 N n mem x1 x2 = some (r, mem') → W p l e ({ frames := 3, cells := 0, slots := 0, locals := 68 } : Room) s m args below meth c H locs 0 0 (MQ below (zQi G r mem') args s 0 0 (zAd G)) (F0 m 4 ls []) := by
  intro n
  induction n with
  | zero =>
    intro mem x1 x2 H locs ls Z hl hf
    rw [f_X5_thumbs_4.eq_1] at hf
    cases hf
  | succ n ih =>
    intro mem x1 x2 H locs ls Z hl hf
    rw [f_X5_thumbs_4.eq_2] at hf
    refine lv_iload_n C.1.1 C.1.2.1 dX5_thumbs_4 rfl (lv_at hl 2 rfl) ?_
    refine lv_bipush (v := (10 : Int32)) C.1.1 C.1.2.1 dX5_thumbs_5 (by decide) ?_
    refine lv_icmp_ge (tgt := 124) C.1.1 C.1.2.1 dX5_thumbs_7 (by decide) (fun h876 => ?_) (fun h876 => ?_)
    · replace hf := (if_pos h876).symm.trans hf
      refine lv_iload_n C.1.1 C.1.2.1 dX5_thumbs_124 rfl (lv_at hl 1 rfl) ?_
      cases hf
      exact z_iret C Z hr hlk dX5_thumbs_125
    · replace hf := (if_neg h876).symm.trans hf
      refine lv_iconst (v := (1 : Int32)) C.1.1 C.1.2.1 dX5_thumbs_10 (by decide) ?_
      refine lv_istore_n (lv' := [(3, .int (1 : Int32)), (0, .ref (zr G 44)), (1, .int x1), (2, .int x2)]) C.1.1 C.1.2.1 dX5_thumbs_11 rfl hl (by decide) rfl (fun ls hl => ?_)
      refine lv_iconst (v := (0 : Int32)) C.1.1 C.1.2.1 dX5_thumbs_12 (by decide) ?_
      refine lv_istore (lv' := [(4, .int (0 : Int32)), (3, .int (1 : Int32)), (0, .ref (zr G 44)), (1, .int x1), (2, .int x2)]) C.1.1 C.1.2.1 dX5_thumbs_13 hl (by decide) rfl (fun ls hl => ?_)
      refine K_X5_thumbs_15 (l := l) (e := e) (below := below) C hr hlk N _ (fun mem_877 x1_877 x2_877 x3_877 H locs ls Z hl hf => ?_) N mem x1 x2 (1 : Int32) (0 : Int32) _ _ _ Z (lv_sub hl [2, 3, 4, 1, 0] rfl) hf
      refine lv_iload_n C.1.1 C.1.2.1 dX5_thumbs_104 rfl (lv_at hl 1 rfl) ?_
      refine lv_iload_n C.1.1 C.1.2.1 dX5_thumbs_105 rfl (lv_at hl 3 rfl) ?_
      refine lv_if_eq (tgt := 115) C.1.1 C.1.2.1 dX5_thumbs_106 (by decide) (fun h878 => ?_) (fun h878 => ?_)
      · replace hf := (if_pos h878).symm.trans hf
        refine lv_iconst (v := (0 : Int32)) C.1.1 C.1.2.1 dX5_thumbs_115 (by decide) ?_
        refine lv_ior C.1.1 C.1.2.1 dX5_thumbs_116 ?_
        refine lv_istore_n (lv' := [(1, .int (x1_877 ||| (0 : Int32))), (0, .ref (zr G 44)), (2, .int x2_877), (3, .int x3_877)]) C.1.1 C.1.2.1 dX5_thumbs_117 rfl hl (by decide) rfl (fun ls hl => ?_)
        refine lv_iinc (v := (x2_877 + 1)) (lv' := [(2, .int (x2_877 + 1)), (1, .int (x1_877 ||| (0 : Int32))), (0, .ref (zr G 44)), (3, .int x3_877)]) C.1.1 C.1.2.1 dX5_thumbs_118 hl (k := 2) rfl rfl (by decide) rfl (fun ls hl => ?_)
        refine lv_goto (tgt := 4) C.1.1 C.1.2.1 dX5_thumbs_121 (by decide) ?_
        exact ih mem_877 (x1_877 ||| (0 : Int32)) (x2_877 + 1) _ _ _ Z (lv_sub hl [2, 1, 0] rfl) hf
      · replace hf := (if_neg h878).symm.trans hf
        refine lv_iconst (v := (1 : Int32)) C.1.1 C.1.2.1 dX5_thumbs_109 (by decide) ?_
        refine lv_iload_n C.1.1 C.1.2.1 dX5_thumbs_110 rfl (lv_at hl 2 rfl) ?_
        refine lv_ishl C.1.1 C.1.2.1 dX5_thumbs_111 ?_
        refine lv_goto (tgt := 116) C.1.1 C.1.2.1 dX5_thumbs_112 (by decide) ?_
        refine lv_ior C.1.1 C.1.2.1 dX5_thumbs_116 ?_
        refine lv_istore_n (lv' := [(1, .int (x1_877 ||| ((1 : Int32) <<< (x2_877 &&& 31)))), (0, .ref (zr G 44)), (2, .int x2_877), (3, .int x3_877)]) C.1.1 C.1.2.1 dX5_thumbs_117 rfl hl (by decide) rfl (fun ls hl => ?_)
        refine lv_iinc (v := (x2_877 + 1)) (lv' := [(2, .int (x2_877 + 1)), (1, .int (x1_877 ||| ((1 : Int32) <<< (x2_877 &&& 31)))), (0, .ref (zr G 44)), (3, .int x3_877)]) C.1.1 C.1.2.1 dX5_thumbs_118 hl (k := 2) rfl rfl (by decide) rfl (fun ls hl => ?_)
        refine lv_goto (tgt := 4) C.1.1 C.1.2.1 dX5_thumbs_121 (by decide) ?_
        exact ih mem_877 (x1_877 ||| ((1 : Int32) <<< (x2_877 &&& 31))) (x2_877 + 1) _ _ _ Z (lv_sub hl [2, 1, 0] rfl) hf
set_option maxHeartbeats 4000000 in
set_option maxRecDepth 100000 in
theorem M_X5_thumbs (l : Launch) (G : zG) (hG : zOK G) (N : Nat) (mem : zMem) (r : Int32) (mem' : zMem) (hf : f_X5_thumbs N mem = some (r, mem')) : zM l G yX5_thumbs cX5_thumbs 6 (some .int) 3 68 [.ref (zr G 44)] mem (zQi G r mem') := by
  refine zStart hG (by decide +kernel) (Nat.le_of_ble_eq_true rfl) (fun p e s m below meth c C hr hlk ls hl Z => ?_)
  have hl : lv_has ls 6 [(0, .ref (zr G 44))] := hl
  have C : zC (zAd G) G p s m _ c cX5_thumbs 6 RX5 := C
  unfold f_X5_thumbs at hf
  refine lv_iconst (v := (0 : Int32)) C.1.1 C.1.2.1 dX5_thumbs_0 (by decide) ?_
  refine lv_istore_n (lv' := [(1, .int (0 : Int32)), (0, .ref (zr G 44))]) C.1.1 C.1.2.1 dX5_thumbs_1 rfl hl (by decide) rfl (fun ls hl => ?_)
  refine lv_iconst (v := (0 : Int32)) C.1.1 C.1.2.1 dX5_thumbs_2 (by decide) ?_
  refine lv_istore_n (lv' := [(2, .int (0 : Int32)), (1, .int (0 : Int32)), (0, .ref (zr G 44))]) C.1.1 C.1.2.1 dX5_thumbs_3 rfl hl (by decide) rfl (fun ls hl => ?_)
  exact K_X5_thumbs_4 (l := l) (e := e) (below := below) C hr hlk N N mem (0 : Int32) (0 : Int32) _ _ _ Z (lv_sub hl [2, 1, 0] rfl) hf
