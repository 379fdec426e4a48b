set_option maxHeartbeats 4000000 in
set_option maxRecDepth 100000 in
theorem M_X5_sermon (l : Launch) (G : zG) (hG : zOK G) (N : Nat) (mem : zMem) (r : Int32) (mem' : zMem) (hf : f_X5_sermon N mem = some (r, mem')) : zM l G yX5_sermon cX5_sermon 1 (some .int) 3 68 [.ref (zr G 44)] mem (zQi G r mem') := by
  refine zStart hG (by decide +kernel) (Nat.le_of_ble_eq_true rfl) (fun p e s m below meth c C hr hlk ls hl Z => ?_)
  have hl : lv_has ls 1 [(0, .ref (zr G 44))] := hl
  have C : zC (zAd G) G p s m _ c cX5_sermon 1 RX5 := C
  unfold f_X5_sermon at hf
  refine lv_aload_n C.1.1 C.1.2.1 dX5_sermon_0 rfl (lv_at hl 0 rfl) ?_
  refine zg_X5_13 C Z dX5_sermon_1 ?_
  refine lv_iconst (v := (2 : Int32)) C.1.1 C.1.2.1 dX5_sermon_4 (by decide) ?_
  refine z_iald (k := 46) C Z (by decide) rfl (by decide) dX5_sermon_5 ?_
  refine lv_aload_n C.1.1 C.1.2.1 dX5_sermon_6 rfl (lv_at hl 0 rfl) ?_
  refine lv_aload_n C.1.1 C.1.2.1 dX5_sermon_7 rfl (lv_at hl 0 rfl) ?_
  refine zg_X5_19 C Z dX5_sermon_8 ?_
  refine lv_bipush (v := (7 : Int32)) C.1.1 C.1.2.1 dX5_sermon_11 (by decide) ?_
  refine z_iald (k := 48) C Z (by decide) rfl (by decide) dX5_sermon_13 ?_
  refine lv_aload_n C.1.1 C.1.2.1 dX5_sermon_14 rfl (lv_at hl 0 rfl) ?_
  refine zg_X5_19 C Z dX5_sermon_15 ?_
  refine lv_bipush (v := (6 : Int32)) C.1.1 C.1.2.1 dX5_sermon_18 (by decide) ?_
  refine z_iald (k := 48) C Z (by decide) rfl (by decide) dX5_sermon_20 ?_
  obtain ⟨r640, mem640, hc640, hf⟩ := zb_some hf
  refine z_callVi (k := 44) (As := [.int (mem 48 (7 : Int32).toNatClampNeg), .int (mem 48 (6 : Int32).toNatClampNeg)]) (rest := [.int (mem 46 (2 : Int32).toNatClampNeg)]) C Z (M_X5_ouncesOf l G C.2.1 N mem (mem 48 (7 : Int32).toNatClampNeg) (mem 48 (6 : Int32).toNatClampNeg) r640 mem640 hc640) (zcw_X5_116 C.1.2.2.2.2 ⟨Nat.le_of_ble_eq_true rfl, Nat.le_of_ble_eq_true rfl⟩) (by decide) rfl rfl rfl hl.1 rfl (Nat.le_of_ble_eq_true rfl) ⟨Nat.le_refl 0, Nat.le_refl 0⟩ dX5_sermon_21 (fun H locs Z => ?_)
  refine lv_iadd C.1.1 C.1.2.1 dX5_sermon_24 ?_
  cases hf
  exact z_iret C Z hr hlk dX5_sermon_25
set_option maxHeartbeats 4000000 in
set_option maxRecDepth 100000 in
theorem K_X5_lead_4 {p : Program} {l : Launch} {e : Env} {s : State} {m : MethodId} {args : Array Value} {below : List Frame} {meth : Method} {c : Code} {G : zG} (C : zC (zAd G) G p s m args c cX5_lead 3 RX5) (hr : meth.sig.returnType = (some .int)) (hlk : meth.locks = false) {r : Int32} {mem' : zMem} (N : Nat) : ∀ (n : Nat) (mem : zMem) (x1 : Int32) (x2 : Int32) (H : Heap) (locs : List Loc) (ls : Array Slot), zH (zAd G) G s mem H locs → lv_has ls 3 [(0, .ref (zr G 44)), (1, .int x1), (2, .int x2)] → f_X5_lead_4 N n mem x1 x2 = some (r, mem') → W p l e ({ frames := 0, cells := 0, slots := 0, locals := 0 } : Room) s m args below meth c H locs 0 0 (MQ below (zQi G r mem') args s 0 0 (zAd G)) (F0 m 4 ls []) := by
  intro n
  induction n with
  | zero =>
    intro mem x1 x2 H locs ls Z hl hf
    rw [f_X5_lead_4.eq_1] at hf
    cases hf
  | succ n ih =>
    intro mem x1 x2 H locs ls Z hl hf
    rw [f_X5_lead_4.eq_2] at hf
    refine lv_iload_n C.1.1 C.1.2.1 dX5_lead_4 rfl (lv_at hl 2 rfl) ?_
    refine lv_aload_n C.1.1 C.1.2.1 dX5_lead_5 rfl (lv_at hl 0 rfl) ?_
    refine zg_X5_13 C Z dX5_lead_6 ?_
    refine lv_iconst (v := (1 : Int32)) C.1.1 C.1.2.1 dX5_lead_9 (by decide) ?_
    refine z_iald (k := 46) C Z (by decide) rfl (by decide) dX5_lead_10 ?_
    refine lv_icmp_ge (tgt := 29) C.1.1 C.1.2.1 dX5_lead_11 (by decide) (fun h641 => ?_) (fun h641 => ?_)
    · replace hf := (if_pos h641).symm.trans hf
      refine lv_iload_n C.1.1 C.1.2.1 dX5_lead_29 rfl (lv_at hl 1 rfl) ?_
      refine lv_aload_n C.1.1 C.1.2.1 dX5_lead_30 rfl (lv_at hl 0 rfl) ?_
      refine zg_X5_19 C Z dX5_lead_31 ?_
      refine lv_bipush (v := (8 : Int32)) C.1.1 C.1.2.1 dX5_lead_34 (by decide) ?_
      refine z_iald (k := 48) C Z (by decide) rfl (by decide) dX5_lead_36 ?_
      refine lv_icmp_le (tgt := 52) C.1.1 C.1.2.1 dX5_lead_37 (by decide) (fun h642 => ?_) (fun h642 => ?_)
      · replace hf := (if_pos h642).symm.trans hf
        refine lv_iconst (v := (0 : Int32)) C.1.1 C.1.2.1 dX5_lead_52 (by decide) ?_
        cases hf
        exact z_iret C Z hr hlk dX5_lead_53
      · replace hf := (if_neg h642).symm.trans hf
        refine lv_iload_n C.1.1 C.1.2.1 dX5_lead_40 rfl (lv_at hl 1 rfl) ?_
        refine lv_aload_n C.1.1 C.1.2.1 dX5_lead_41 rfl (lv_at hl 0 rfl) ?_
        refine zg_X5_19 C Z dX5_lead_42 ?_
        refine lv_bipush (v := (8 : Int32)) C.1.1 C.1.2.1 dX5_lead_45 (by decide) ?_
        refine z_iald (k := 48) C Z (by decide) rfl (by decide) dX5_lead_47 ?_
        refine lv_isub C.1.1 C.1.2.1 dX5_lead_48 ?_
        refine lv_goto (tgt := 53) C.1.1 C.1.2.1 dX5_lead_49 (by decide) ?_
        cases hf
        exact z_iret C Z hr hlk dX5_lead_53
    · replace hf := (if_neg h641).symm.trans hf
      refine lv_iload_n C.1.1 C.1.2.1 dX5_lead_14 rfl (lv_at hl 1 rfl) ?_
      refine lv_aload_n C.1.1 C.1.2.1 dX5_lead_15 rfl (lv_at hl 0 rfl) ?_
      refine zg_X5_19 C Z dX5_lead_16 ?_
      refine lv_iload_n C.1.1 C.1.2.1 dX5_lead_19 rfl (lv_at hl 2 rfl) ?_
      obtain ⟨hi643, hf⟩ := zgd_some hf
      refine z_iald (k := 48) C Z (by decide) rfl hi643 dX5_lead_20 ?_
      refine lv_iadd C.1.1 C.1.2.1 dX5_lead_21 ?_
      refine lv_istore_n (lv' := [(1, .int (x1 + (mem 48 x2.toNatClampNeg))), (0, .ref (zr G 44)), (2, .int x2)]) C.1.1 C.1.2.1 dX5_lead_22 rfl hl (by decide) rfl (fun ls hl => ?_)
      refine lv_iinc (v := (x2 + 1)) (lv' := [(2, .int (x2 + 1)), (1, .int (x1 + (mem 48 x2.toNatClampNeg))), (0, .ref (zr G 44))]) C.1.1 C.1.2.1 dX5_lead_23 hl (k := 2) rfl rfl (by decide) rfl (fun ls hl => ?_)
      refine lv_goto (tgt := 4) C.1.1 C.1.2.1 dX5_lead_26 (by decide) ?_
      exact ih mem (x1 + (mem 48 x2.toNatClampNeg)) (x2 + 1) _ _ _ Z (lv_sub hl [2, 1, 0] rfl) hf
set_option maxHeartbeats 4000000 in
set_option maxRecDepth 100000 in
theorem M_X5_lead (l : Launch) (G : zG) (hG : zOK G) (N : Nat) (mem : zMem) (r : Int32) (mem' : zMem) (hf : f_X5_lead N mem = some (r, mem')) : zM l G yX5_lead cX5_lead 3 (some .int) 0 0 [.ref (zr G 44)] mem (zQi G r mem') := by
  refine zStart hG (by decide +kernel) (Nat.le_of_ble_eq_true rfl) (fun p e s m below meth c C hr hlk ls hl Z => ?_)
  have hl : lv_has ls 3 [(0, .ref (zr G 44))] := hl
  have C : zC (zAd G) G p s m _ c cX5_lead 3 RX5 := C
  unfold f_X5_lead at hf
  refine lv_iconst (v := (0 : Int32)) C.1.1 C.1.2.1 dX5_lead_0 (by decide) ?_
  refine lv_istore_n (lv' := [(1, .int (0 : Int32)), (0, .ref (zr G 44))]) C.1.1 C.1.2.1 dX5_lead_1 rfl hl (by decide) rfl (fun ls hl => ?_)
  refine lv_iconst (v := (0 : Int32)) C.1.1 C.1.2.1 dX5_lead_2 (by decide) ?_
  refine lv_istore_n (lv' := [(2, .int (0 : Int32)), (1, .int (0 : Int32)), (0, .ref (zr G 44))]) C.1.1 C.1.2.1 dX5_lead_3 rfl hl (by decide) rfl (fun ls hl => ?_)
  exact K_X5_lead_4 (l := l) (e := e) (below := below) C hr hlk N N mem (0 : Int32) (0 : Int32) _ _ _ Z (lv_sub hl [2, 1, 0] rfl) hf
set_option maxHeartbeats 4000000 in
set_option maxRecDepth 100000 in
theorem M_X5_hangs (l : Launch) (G : zG) (hG : zOK G) (N : Nat) (mem : zMem) (a1 : Int32) (a2 : Int32) (r : Int32) (mem' : zMem) (hf : f_X5_hangs N mem a1 a2 = some (r, mem')) : zM l G yX5_hangs cX5_hangs 3 (some .boolean) 1 22 [.ref (zr G 44), .int a1, .int a2] mem (zQi G r mem') := by
  refine zStart hG (by decide +kernel) (Nat.le_of_ble_eq_true rfl) (fun p e s m below meth c C hr hlk ls hl Z => ?_)
  have hl : lv_has ls 3 [(0, .ref (zr G 44)), (1, .int a1), (2, .int a2)] := hl
  have C : zC (zAd G) G p s m _ c cX5_hangs 3 RX5 := C
  unfold f_X5_hangs at hf
  refine lv_iload_n C.1.1 C.1.2.1 dX5_hangs_0 rfl (lv_at hl 1 rfl) ?_
  refine lv_iload_n C.1.1 C.1.2.1 dX5_hangs_1 rfl (lv_at hl 2 rfl) ?_
  refine lv_isub C.1.1 C.1.2.1 dX5_hangs_2 ?_
  refine lv_aload_n C.1.1 C.1.2.1 dX5_hangs_3 rfl (lv_at hl 0 rfl) ?_
  refine zg_X5_13 C Z dX5_hangs_4 ?_
  refine lv_iconst (v := (3 : Int32)) C.1.1 C.1.2.1 dX5_hangs_7 (by decide) ?_
  refine z_iald (k := 46) C Z (by decide) rfl (by decide) dX5_hangs_8 ?_
  refine lv_ineg C.1.1 C.1.2.1 dX5_hangs_9 ?_
  refine lv_aload_n C.1.1 C.1.2.1 dX5_hangs_10 rfl (lv_at hl 0 rfl) ?_
  refine zg_X5_13 C Z dX5_hangs_11 ?_
  refine lv_iconst (v := (3 : Int32)) C.1.1 C.1.2.1 dX5_hangs_14 (by decide) ?_
  refine z_iald (k := 46) C Z (by decide) rfl (by decide) dX5_hangs_15 ?_
  obtain ⟨r644, mem644, hc644, hf⟩ := zb_some hf
  refine z_callSi (As := [.int (a1 - a2), .int (-(mem 46 (3 : Int32).toNatClampNeg)), .int (mem 46 (3 : Int32).toNatClampNeg)]) (rest := []) C Z (M_X5_in l G C.2.1 N mem (a1 - a2) (-(mem 46 (3 : Int32).toNatClampNeg)) (mem 46 (3 : Int32).toNatClampNeg) r644 mem644 hc644) (zcw_X5_44 C.1.2.2.2.2 ⟨Nat.le_of_ble_eq_true rfl, Nat.le_of_ble_eq_true rfl⟩) rfl hl.1 rfl (Nat.le_of_ble_eq_true rfl) ⟨Nat.le_refl 0, Nat.le_refl 0⟩ dX5_hangs_16 (fun H locs Z => ?_)
  obtain ⟨hb645, hf⟩ := zgd_some hf
  cases hf
  exact z_zret C Z hr hlk hb645 dX5_hangs_19
set_option maxHeartbeats 4000000 in
set_option maxRecDepth 100000 in
theorem M_X5_isLevel (l : Launch) (G : zG) (hG : zOK G) (N : Nat) (mem : zMem) (r : Int32) (mem' : zMem) (hf : f_X5_isLevel N mem = some (r, mem')) : zM l G yX5_isLevel cX5_isLevel 1 (some .boolean) 4 88 [.ref (zr G 44)] mem (zQi G r mem') := by
  refine zStart hG (by decide +kernel) (Nat.le_of_ble_eq_true rfl) (fun p e s m below meth c C hr hlk ls hl Z => ?_)
  have hl : lv_has ls 1 [(0, .ref (zr G 44))] := hl
  have C : zC (zAd G) G p s m _ c cX5_isLevel 1 RX5 := C
  unfold f_X5_isLevel at hf
  refine lv_aload_n C.1.1 C.1.2.1 dX5_isLevel_0 rfl (lv_at hl 0 rfl) ?_
  refine lv_aload_n C.1.1 C.1.2.1 dX5_isLevel_1 rfl (lv_at hl 0 rfl) ?_
  obtain ⟨r646, mem646, hc646, hf⟩ := zb_some hf
  refine z_callVi (k := 44) (As := []) (rest := [.ref (zr G 44)]) C Z (M_X5_sermon l G C.2.1 N mem r646 mem646 hc646) (zcw_X5_119 C.1.2.2.2.2 ⟨Nat.le_of_ble_eq_true rfl, Nat.le_of_ble_eq_true rfl⟩) (by decide) rfl rfl rfl hl.1 rfl (Nat.le_of_ble_eq_true rfl) ⟨Nat.le_refl 0, Nat.le_refl 0⟩ dX5_isLevel_2 (fun H locs Z => ?_)
  refine lv_aload_n C.1.1 C.1.2.1 dX5_isLevel_5 rfl (lv_at hl 0 rfl) ?_
  obtain ⟨r647, mem647, hc647, hf⟩ := zb_some hf
  refine z_callVi (k := 44) (As := []) (rest := [.int r646, .ref (zr G 44)]) C Z (M_X5_lead l G C.2.1 N mem646 r647 mem647 hc647) (zcw_X5_122 C.1.2.2.2.2 ⟨Nat.le_of_ble_eq_true rfl, Nat.le_of_ble_eq_true rfl⟩) (by decide) rfl rfl rfl hl.1 rfl (Nat.le_of_ble_eq_true rfl) ⟨Nat.le_refl 0, Nat.le_refl 0⟩ dX5_isLevel_6 (fun H locs Z => ?_)
  obtain ⟨r648, mem648, hc648, hf⟩ := zb_some hf
  refine z_callVi (k := 44) (As := [.int r646, .int r647]) (rest := []) C Z (M_X5_hangs l G C.2.1 N mem647 r646 r647 r648 mem648 hc648) (zcw_X5_125 C.1.2.2.2.2 ⟨Nat.le_of_ble_eq_true rfl, Nat.le_of_ble_eq_true rfl⟩) (by decide) rfl rfl rfl hl.1 rfl (Nat.le_of_ble_eq_true rfl) ⟨Nat.le_refl 0, Nat.le_refl 0⟩ dX5_isLevel_9 (fun H locs Z => ?_)
  obtain ⟨hb649, hf⟩ := zgd_some hf
  cases hf
  exact z_zret C Z hr hlk hb649 dX5_isLevel_12
set_option maxHeartbeats 4000000 in
set_option maxRecDepth 100000 in
theorem M_X5_part (l : Launch) (G : zG) (hG : zOK G) (N : Nat) (mem : zMem) (a1 : Int32) (a2 : Int32) (r : Int32) (mem' : zMem) (hf : f_X5_part N mem a1 a2 = some (r, mem')) : zM l G yX5_part cX5_part 3 (some .int) 2 44 [.ref (zr G 44), .int a1, .int a2] mem (zQi G r mem') := by
  refine zStart hG (by decide +kernel) (Nat.le_of_ble_eq_true rfl) (fun p e s m below meth c C hr hlk ls hl Z => ?_)
  have hl : lv_has ls 3 [(0, .ref (zr G 44)), (1, .int a1), (2, .int a2)] := hl
  have C : zC (zAd G) G p s m _ c cX5_part 3 RX5 := C
  unfold f_X5_part at hf
  refine lv_aload_n C.1.1 C.1.2.1 dX5_part_0 rfl (lv_at hl 0 rfl) ?_
  refine lv_iload_n C.1.1 C.1.2.1 dX5_part_1 rfl (lv_at hl 1 rfl) ?_
  obtain ⟨r650, mem650, hc650, hf⟩ := zb_some hf
  refine z_callVi (k := 44) (As := [.int a1]) (rest := []) C Z (M_X5_isPart l G C.2.1 N mem a1 r650 mem650 hc650) (zcw_X5_129 C.1.2.2.2.2 ⟨Nat.le_of_ble_eq_true rfl, Nat.le_of_ble_eq_true rfl⟩) (by decide) rfl rfl rfl hl.1 rfl (Nat.le_of_ble_eq_true rfl) ⟨Nat.le_refl 0, Nat.le_refl 0⟩ dX5_part_2 (fun H locs Z => ?_)
  refine lv_if_ne (tgt := 11) C.1.1 C.1.2.1 dX5_part_5 (by decide) (fun h651 => ?_) (fun h651 => ?_)
  · replace hf := (if_neg h651).symm.trans hf
    refine lv_iload_n C.1.1 C.1.2.1 dX5_part_11 rfl (lv_at hl 2 rfl) ?_
    by_cases h652 : a2 = 0
    · replace hf := (if_pos h652).symm.trans hf
      refine lv_tableIn (off := 36) (tgt := 48) C.1.1 C.1.2.1 dX5_part_12 (by rw [h652]; decide) (by rw [h652]; decide) (by rw [h652]; rfl) (by decide) ?_
      refine lv_aload_n C.1.1 C.1.2.1 dX5_part_48 rfl (lv_at hl 0 rfl) ?_
      refine zg_X5_13 C Z dX5_part_49 ?_
      refine lv_iconst (v := (5 : Int32)) C.1.1 C.1.2.1 dX5_part_52 (by decide) ?_
      refine lv_iload_n C.1.1 C.1.2.1 dX5_part_53 rfl (lv_at hl 1 rfl) ?_
      refine lv_iadd C.1.1 C.1.2.1 dX5_part_54 ?_
      obtain ⟨hi653, hf⟩ := zgd_some hf
      refine z_iald (k := 46) C Z (by decide) rfl hi653 dX5_part_55 ?_
      cases hf
      exact z_iret C Z hr hlk dX5_part_56
    replace hf := (if_neg h652).symm.trans hf
    by_cases h654 : a2 = 1
    · replace hf := (if_pos h654).symm.trans hf
      refine lv_tableIn (off := 45) (tgt := 57) C.1.1 C.1.2.1 dX5_part_12 (by rw [h654]; decide) (by rw [h654]; decide) (by rw [h654]; rfl) (by decide) ?_
      refine lv_aload_n C.1.1 C.1.2.1 dX5_part_57 rfl (lv_at hl 0 rfl) ?_
      refine zg_X5_13 C Z dX5_part_58 ?_
      refine lv_bipush (v := (13 : Int32)) C.1.1 C.1.2.1 dX5_part_61 (by decide) ?_
      refine lv_iload_n C.1.1 C.1.2.1 dX5_part_63 rfl (lv_at hl 1 rfl) ?_
      refine lv_iadd C.1.1 C.1.2.1 dX5_part_64 ?_
      obtain ⟨hi655, hf⟩ := zgd_some hf
      refine z_iald (k := 46) C Z (by decide) rfl hi655 dX5_part_65 ?_
      cases hf
      exact z_iret C Z hr hlk dX5_part_66
    replace hf := (if_neg h654).symm.trans hf
    by_cases h656 : a2 = 2
    · replace hf := (if_pos h656).symm.trans hf
      refine lv_tableIn (off := 55) (tgt := 67) C.1.1 C.1.2.1 dX5_part_12 (by rw [h656]; decide) (by rw [h656]; decide) (by rw [h656]; rfl) (by decide) ?_
      refine lv_aload_n C.1.1 C.1.2.1 dX5_part_67 rfl (lv_at hl 0 rfl) ?_
      refine zg_X5_13 C Z dX5_part_68 ?_
      refine lv_bipush (v := (21 : Int32)) C.1.1 C.1.2.1 dX5_part_71 (by decide) ?_
      refine lv_iload_n C.1.1 C.1.2.1 dX5_part_73 rfl (lv_at hl 1 rfl) ?_
      refine lv_iadd C.1.1 C.1.2.1 dX5_part_74 ?_
      obtain ⟨hi657, hf⟩ := zgd_some hf
      refine z_iald (k := 46) C Z (by decide) rfl hi657 dX5_part_75 ?_
      cases hf
      exact z_iret C Z hr hlk dX5_part_76
    replace hf := (if_neg h656).symm.trans hf
    by_cases h658 : a2 = 3
    · replace hf := (if_pos h658).symm.trans hf
      refine lv_tableIn (off := 65) (tgt := 77) C.1.1 C.1.2.1 dX5_part_12 (by rw [h658]; decide) (by rw [h658]; decide) (by rw [h658]; rfl) (by decide) ?_
      refine lv_aload_n C.1.1 C.1.2.1 dX5_part_77 rfl (lv_at hl 0 rfl) ?_
      refine lv_iload_n C.1.1 C.1.2.1 dX5_part_78 rfl (lv_at hl 1 rfl) ?_
      refine lv_aload_n C.1.1 C.1.2.1 dX5_part_79 rfl (lv_at hl 0 rfl) ?_
      refine zg_X5_19 C Z dX5_part_80 ?_
      refine lv_bipush (v := (6 : Int32)) C.1.1 C.1.2.1 dX5_part_83 (by decide) ?_
      refine z_iald (k := 48) C Z (by decide) rfl (by decide) dX5_part_85 ?_
      obtain ⟨r659, mem659, hc659, hf⟩ := zb_some hf
      refine z_callVi (k := 44) (As := [.int a1, .int (mem650 48 (6 : Int32).toNatClampNeg)]) (rest := []) C Z (M_X5_ounces l G C.2.1 N mem650 a1 (mem650 48 (6 : Int32).toNatClampNeg) r659 mem659 hc659) (zcw_X5_112 C.1.2.2.2.2 ⟨Nat.le_of_ble_eq_true rfl, Nat.le_of_ble_eq_true rfl⟩) (by decide) rfl rfl rfl hl.1 rfl (Nat.le_of_ble_eq_true rfl) ⟨Nat.le_refl 0, Nat.le_refl 0⟩ dX5_part_86 (fun H locs Z => ?_)
      cases hf
      exact z_iret C Z hr hlk dX5_part_89
    replace hf := (if_neg h658).symm.trans hf
    by_cases h660 : a2 = 4
    · replace hf := (if_pos h660).symm.trans hf
      refine lv_tableIn (off := 78) (tgt := 90) C.1.1 C.1.2.1 dX5_part_12 (by rw [h660]; decide) (by rw [h660]; decide) (by rw [h660]; rfl) (by decide) ?_
      refine lv_aload_n C.1.1 C.1.2.1 dX5_part_90 rfl (lv_at hl 0 rfl) ?_
      refine zg_X5_19 C Z dX5_part_91 ?_
      refine lv_bipush (v := (7 : Int32)) C.1.1 C.1.2.1 dX5_part_94 (by decide) ?_
      refine z_iald (k := 48) C Z (by decide) rfl (by decide) dX5_part_96 ?_
      refine lv_iload_n C.1.1 C.1.2.1 dX5_part_97 rfl (lv_at hl 1 rfl) ?_
      refine lv_ishr C.1.1 C.1.2.1 dX5_part_98 ?_
      refine lv_iconst (v := (1 : Int32)) C.1.1 C.1.2.1 dX5_part_99 (by decide) ?_
      refine lv_iand C.1.1 C.1.2.1 dX5_part_100 ?_
      cases hf
      exact z_iret C Z hr hlk dX5_part_101
    replace hf := (if_neg h660).symm.trans hf
    have eh652 := lv_neT h652 (a := 0) rfl
    have eh654 := lv_neT h654 (a := 1) rfl
    have eh656 := lv_neT h656 (a := 2) rfl
    have eh658 := lv_neT h658 (a := 3) rfl
    have eh660 := lv_neT h660 (a := 4) rfl
    refine lv_tableOut (tgt := 102) C.1.1 C.1.2.1 dX5_part_12 (by omega) (by decide) ?_
    refine lv_bipush (v := (-3 : Int32)) C.1.1 C.1.2.1 dX5_part_102 (by decide) ?_
    cases hf
    exact z_iret C Z hr hlk dX5_part_104
  · replace hf := (if_pos h651).symm.trans hf
    refine lv_bipush (v := (-2 : Int32)) C.1.1 C.1.2.1 dX5_part_8 (by decide) ?_
    cases hf
    exact z_iret C Z hr hlk dX5_part_10
set_option maxHeartbeats 4000000 in
set_option maxRecDepth 100000 in
theorem M_X5_sins (l : Launch) (G : zG) (hG : zOK G) (N : Nat) (mem : zMem) (a1 : Int32) (r : Int32) (mem' : zMem) (hf : f_X5_sins N mem a1 = some (r, mem')) : zM l G yX5_sins cX5_sins 2 (some .int) 1 22 [.ref (zr G 44), .int a1] mem (zQi G r mem') := by
  refine zStart hG (by decide +kernel) (Nat.le_of_ble_eq_true rfl) (fun p e s m below meth c C hr hlk ls hl Z => ?_)
  have hl : lv_has ls 2 [(0, .ref (zr G 44)), (1, .int a1)] := hl
  have C : zC (zAd G) G p s m _ c cX5_sins 2 RX5 := C
  unfold f_X5_sins at hf
  refine lv_iload_n C.1.1 C.1.2.1 dX5_sins_0 rfl (lv_at hl 1 rfl) ?_
  refine lv_iconst (v := (0 : Int32)) C.1.1 C.1.2.1 dX5_sins_1 (by decide) ?_
  refine lv_aload_n C.1.1 C.1.2.1 dX5_sins_2 rfl (lv_at hl 0 rfl) ?_
  refine zg_X5_13 C Z dX5_sins_3 ?_
  refine lv_iconst (v := (1 : Int32)) C.1.1 C.1.2.1 dX5_sins_6 (by decide) ?_
  refine z_iald (k := 46) C Z (by decide) rfl (by decide) dX5_sins_7 ?_
  refine lv_iconst (v := (1 : Int32)) C.1.1 C.1.2.1 dX5_sins_8 (by decide) ?_
  refine lv_isub C.1.1 C.1.2.1 dX5_sins_9 ?_
  obtain ⟨r661, mem661, hc661, hf⟩ := zb_some hf
  refine z_callSi (As := [.int a1, .int (0 : Int32), .int ((mem 46 (1 : Int32).toNatClampNeg) - (1 : Int32))]) (rest := []) C Z (M_X5_in l G C.2.1 N mem a1 (0 : Int32) ((mem 46 (1 : Int32).toNatClampNeg) - (1 : Int32)) r661 mem661 hc661) (zcw_X5_44 C.1.2.2.2.2 ⟨Nat.le_of_ble_eq_true rfl, Nat.le_of_ble_eq_true rfl⟩) rfl hl.1 rfl (Nat.le_of_ble_eq_true rfl) ⟨Nat.le_refl 0, Nat.le_refl 0⟩ dX5_sins_10 (fun H locs Z => ?_)
  refine lv_if_eq (tgt := 25) C.1.1 C.1.2.1 dX5_sins_13 (by decide) (fun h662 => ?_) (fun h662 => ?_)
  · replace hf := (if_pos h662).symm.trans hf
    refine lv_bipush (v := (-2 : Int32)) C.1.1 C.1.2.1 dX5_sins_25 (by decide) ?_
    cases hf
    exact z_iret C Z hr hlk dX5_sins_27
  · replace hf := (if_neg h662).symm.trans hf
    refine lv_aload_n C.1.1 C.1.2.1 dX5_sins_16 rfl (lv_at hl 0 rfl) ?_
    refine zg_X5_19 C Z dX5_sins_17 ?_
    refine lv_iload_n C.1.1 C.1.2.1 dX5_sins_20 rfl (lv_at hl 1 rfl) ?_
    obtain ⟨hi663, hf⟩ := zgd_some hf
    refine z_iald (k := 48) C Z (by decide) rfl hi663 dX5_sins_21 ?_
    refine lv_goto (tgt := 27) C.1.1 C.1.2.1 dX5_sins_22 (by decide) ?_
    cases hf
    exact z_iret C Z hr hlk dX5_sins_27
set_option maxHeartbeats 4000000 in
set_option maxRecDepth 100000 in
theorem K_X5_as_58 {p : Program} {l : Launch} {e : Env} {s : State} {m : MethodId} {args : Array Value} {below : List Frame} {meth : Method} {c : Code} {G : zG} (C : zC (zAd G) G p s m args c cX5_as 5 RX5) (hr : meth.sig.returnType = (some .int)) (hlk : meth.locks = false) {r : Int32} {mem' : zMem} (N : Nat) (mem : zMem) (x1 : Int32) (s0 : Int32) (H : Heap) (locs : List Loc) (ls : Array Slot) (Z : zH (zAd G) G s mem H locs) (hl : lv_has ls 5 [(0, .ref (zr G 44)), (1, .int x1)]) (hf : f_X5_as_58 N mem x1 s0 = some (r, mem')) : W p l e ({ frames := 2, cells := 0, slots := 0, locals := 44 } : Room) s m args below meth c H locs 0 0 (MQ below (zQi G r mem') args s 0 0 (zAd G)) (F0 m 58 ls [.int s0]) := by
  unfold f_X5_as_58 at hf
  refine lv_istore (lv' := [(4, .int s0), (0, .ref (zr G 44)), (1, .int x1)]) C.1.1 C.1.2.1 dX5_as_58 hl (by decide) rfl (fun ls hl => ?_)
  refine lv_iload C.1.1 C.1.2.1 dX5_as_60 (lv_at hl 0 rfl) ?_
  refine lv_if_eq (tgt := 75) C.1.1 C.1.2.1 dX5_as_62 (by decide) (fun h664 => ?_) (fun h664 => ?_)
  · replace hf := (if_pos h664).symm.trans hf
    refine lv_bipush (v := (-4 : Int32)) C.1.1 C.1.2.1 dX5_as_75 (by decide) ?_
    cases hf
    exact z_iret C Z hr hlk dX5_as_77
  · replace hf := (if_neg h664).symm.trans hf
    refine lv_aload_n C.1.1 C.1.2.1 dX5_as_65 rfl (lv_at hl 1 rfl) ?_
    refine lv_iload_n C.1.1 C.1.2.1 dX5_as_66 rfl (lv_at hl 2 rfl) ?_
    refine lv_bipush (v := (9 : Int32)) C.1.1 C.1.2.1 dX5_as_67 (by decide) ?_
    obtain ⟨r665, mem665, hc665, hf⟩ := zb_some hf
    refine z_callVi (k := 44) (As := [.int x1, .int (9 : Int32)]) (rest := []) C Z (M_X5_ounces l G C.2.1 N mem x1 (9 : Int32) r665 mem665 hc665) (zcw_X5_112 C.1.2.2.2.2 ⟨Nat.le_of_ble_eq_true rfl, Nat.le_of_ble_eq_true rfl⟩) (by decide) rfl rfl rfl hl.1 rfl (Nat.le_of_ble_eq_true rfl) ⟨Nat.le_refl 0, Nat.le_refl 0⟩ dX5_as_69 (fun H locs Z => ?_)
    refine lv_goto (tgt := 77) C.1.1 C.1.2.1 dX5_as_72 (by decide) ?_
    cases hf
    exact z_iret C Z hr hlk dX5_as_77
set_option maxHeartbeats 4000000 in
set_option maxRecDepth 100000 in
theorem K_X5_as_57 {p : Program} {l : Launch} {e : Env} {s : State} {m : MethodId} {args : Array Value} {below : List Frame} {meth : Method} {c : Code} {G : zG} (C : zC (zAd G) G p s m args c cX5_as 5 RX5) (hr : meth.sig.returnType = (some .int)) (hlk : meth.locks = false) {r : Int32} {mem' : zMem} (N : Nat) (mem : zMem) (x1 : Int32) (H : Heap) (locs : List Loc) (ls : Array Slot) (Z : zH (zAd G) G s mem H locs) (hl : lv_has ls 5 [(0, .ref (zr G 44)), (1, .int x1)]) (hf : f_X5_as_57 N mem x1 = some (r, mem')) : W p l e ({ frames := 2, cells := 0, slots := 0, locals := 44 } : Room) s m args below meth c H locs 0 0 (MQ below (zQi G r mem') args s 0 0 (zAd G)) (F0 m 57 ls []) := by
  unfold f_X5_as_57 at hf
  refine lv_iconst (v := (0 : Int32)) C.1.1 C.1.2.1 dX5_as_57 (by decide) ?_
  exact K_X5_as_58 (l := l) (e := e) (below := below) C hr hlk N mem x1 (0 : Int32) _ _ _ Z (lv_sub hl [0, 1] rfl) hf
set_option maxHeartbeats 4000000 in
set_option maxRecDepth 100000 in
theorem K_X5_as_53 {p : Program} {l : Launch} {e : Env} {s : State} {m : MethodId} {args : Array Value} {below : List Frame} {meth : Method} {c : Code} {G : zG} (C : zC (zAd G) G p s m args c cX5_as 5 RX5) (hr : meth.sig.returnType = (some .int)) (hlk : meth.locks = false) {r : Int32} {mem' : zMem} (N : Nat) (mem : zMem) (x1 : Int32) (H : Heap) (locs : List Loc) (ls : Array Slot) (Z : zH (zAd G) G s mem H locs) (hl : lv_has ls 5 [(0, .ref (zr G 44)), (1, .int x1)]) (hf : f_X5_as_53 N mem x1 = some (r, mem')) : W p l e ({ frames := 2, cells := 0, slots := 0, locals := 44 } : Room) s m args below meth c H locs 0 0 (MQ below (zQi G r mem') args s 0 0 (zAd G)) (F0 m 53 ls []) := by
  unfold f_X5_as_53 at hf
  refine lv_iconst (v := (1 : Int32)) C.1.1 C.1.2.1 dX5_as_53 (by decide) ?_
  refine lv_goto (tgt := 58) C.1.1 C.1.2.1 dX5_as_54 (by decide) ?_
  exact K_X5_as_58 (l := l) (e := e) (below := below) C hr hlk N mem x1 (1 : Int32) _ _ _ Z (lv_sub hl [0, 1] rfl) hf
set_option maxHeartbeats 4000000 in
set_option maxRecDepth 100000 in
theorem M_X5_as (l : Launch) (G : zG) (hG : zOK G) (N : Nat) (mem : zMem) (a1 : Int32) (a2 : Int32) (r : Int32) (mem' : zMem) (hf : f_X5_as N mem a1 a2 = some (r, mem')) : zM l G yX5_as cX5_as 5 (some .int) 2 44 [.ref (zr G 44), .int a1, .int a2] mem (zQi G r mem') := by
  refine zStart hG (by decide +kernel) (Nat.le_of_ble_eq_true rfl) (fun p e s m below meth c C hr hlk ls hl Z => ?_)
  have hl : lv_has ls 5 [(0, .ref (zr G 44)), (1, .int a1), (2, .int a2)] := hl
  have C : zC (zAd G) G p s m _ c cX5_as 5 RX5 := C
  unfold f_X5_as at hf
  refine lv_aload_n C.1.1 C.1.2.1 dX5_as_0 rfl (lv_at hl 0 rfl) ?_
  refine lv_iload_n C.1.1 C.1.2.1 dX5_as_1 rfl (lv_at hl 1 rfl) ?_
  obtain ⟨r666, mem666, hc666, hf⟩ := zb_some hf
  refine z_callVi (k := 44) (As := [.int a1]) (rest := []) C Z (M_X5_isPart l G C.2.1 N mem a1 r666 mem666 hc666) (zcw_X5_129 C.1.2.2.2.2 ⟨Nat.le_of_ble_eq_true rfl, Nat.le_of_ble_eq_true rfl⟩) (by decide) rfl rfl rfl hl.1 rfl (Nat.le_of_ble_eq_true rfl) ⟨Nat.le_refl 0, Nat.le_refl 0⟩ dX5_as_2 (fun H locs Z => ?_)
  refine lv_if_ne (tgt := 11) C.1.1 C.1.2.1 dX5_as_5 (by decide) (fun h667 => ?_) (fun h667 => ?_)
  · replace hf := (if_neg h667).symm.trans hf
    refine lv_iload_n C.1.1 C.1.2.1 dX5_as_11 rfl (lv_at hl 2 rfl) ?_
    refine lv_iconst (v := (0 : Int32)) C.1.1 C.1.2.1 dX5_as_12 (by decide) ?_
    refine lv_iconst (v := (4 : Int32)) C.1.1 C.1.2.1 dX5_as_13 (by decide) ?_
    obtain ⟨r668, mem668, hc668, hf⟩ := zb_some hf
    refine z_callSi (As := [.int a2, .int (0 : Int32), .int (4 : Int32)]) (rest := []) C Z (M_X5_in l G C.2.1 N mem666 a2 (0 : Int32) (4 : Int32) r668 mem668 hc668) (zcw_X5_44 C.1.2.2.2.2 ⟨Nat.le_of_ble_eq_true rfl, Nat.le_of_ble_eq_true rfl⟩) rfl hl.1 rfl (Nat.le_of_ble_eq_true rfl) ⟨Nat.le_refl 0, Nat.le_refl 0⟩ dX5_as_14 (fun H locs Z => ?_)
    refine lv_if_ne (tgt := 23) C.1.1 C.1.2.1 dX5_as_17 (by decide) (fun h669 => ?_) (fun h669 => ?_)
    · replace hf := (if_neg h669).symm.trans hf
      refine lv_aload_n C.1.1 C.1.2.1 dX5_as_23 rfl (lv_at hl 0 rfl) ?_
      refine zg_X5_13 C Z dX5_as_24 ?_
      refine lv_iconst (v := (5 : Int32)) C.1.1 C.1.2.1 dX5_as_27 (by decide) ?_
      refine lv_iload_n C.1.1 C.1.2.1 dX5_as_28 rfl (lv_at hl 1 rfl) ?_
      refine lv_iadd C.1.1 C.1.2.1 dX5_as_29 ?_
      obtain ⟨hi670, hf⟩ := zgd_some hf
      refine z_iald (k := 46) C Z (by decide) rfl hi670 dX5_as_30 ?_
      refine lv_istore_n (lv' := [(3, .int (mem668 46 ((5 : Int32) + a1).toNatClampNeg)), (0, .ref (zr G 44)), (1, .int a1), (2, .int a2)]) C.1.1 C.1.2.1 dX5_as_31 rfl hl (by decide) rfl (fun ls hl => ?_)
      refine lv_iload_n C.1.1 C.1.2.1 dX5_as_32 rfl (lv_at hl 3 rfl) ?_
      refine lv_if_eq (tgt := 53) C.1.1 C.1.2.1 dX5_as_33 (by decide) (fun h671 => ?_) (fun h671 => ?_)
      · replace hf := (if_pos h671).symm.trans hf
        exact K_X5_as_53 (l := l) (e := e) (below := below) C hr hlk N mem668 a1 _ _ _ Z (lv_sub hl [1, 2] rfl) hf
      · replace hf := (if_neg h671).symm.trans hf
        refine lv_iload_n C.1.1 C.1.2.1 dX5_as_36 rfl (lv_at hl 3 rfl) ?_
        refine lv_iload_n C.1.1 C.1.2.1 dX5_as_37 rfl (lv_at hl 0 rfl) ?_
        refine lv_iconst (v := (1 : Int32)) C.1.1 C.1.2.1 dX5_as_38 (by decide) ?_
        refine lv_iadd C.1.1 C.1.2.1 dX5_as_39 ?_
        refine lv_icmp_eq (tgt := 53) C.1.1 C.1.2.1 dX5_as_40 (by decide) (fun h672 => ?_) (fun h672 => ?_)
        · replace hf := (if_pos h672).symm.trans hf
          exact K_X5_as_53 (l := l) (e := e) (below := below) C hr hlk N mem668 a1 _ _ _ Z (lv_sub hl [1, 2] rfl) hf
        · replace hf := (if_neg h672).symm.trans hf
          refine lv_iload_n C.1.1 C.1.2.1 dX5_as_43 rfl (lv_at hl 3 rfl) ?_
          refine lv_iconst (v := (1 : Int32)) C.1.1 C.1.2.1 dX5_as_44 (by decide) ?_
          refine lv_icmp_ne (tgt := 57) C.1.1 C.1.2.1 dX5_as_45 (by decide) (fun h673 => ?_) (fun h673 => ?_)
          · replace hf := (if_neg h673).symm.trans hf
            exact K_X5_as_57 (l := l) (e := e) (below := below) C hr hlk N mem668 a1 _ _ _ Z (lv_sub hl [1, 2] rfl) hf
          · replace hf := (if_pos h673).symm.trans hf
            refine lv_iload_n C.1.1 C.1.2.1 dX5_as_48 rfl (lv_at hl 0 rfl) ?_
            refine lv_iconst (v := (3 : Int32)) C.1.1 C.1.2.1 dX5_as_49 (by decide) ?_
            refine lv_icmp_ge (tgt := 57) C.1.1 C.1.2.1 dX5_as_50 (by decide) (fun h674 => ?_) (fun h674 => ?_)
            · replace hf := (if_pos h674).symm.trans hf
              exact K_X5_as_57 (l := l) (e := e) (below := below) C hr hlk N mem668 a1 _ _ _ Z (lv_sub hl [1, 2] rfl) hf
            · replace hf := (if_neg h674).symm.trans hf
              exact K_X5_as_53 (l := l) (e := e) (below := below) C hr hlk N mem668 a1 _ _ _ Z (lv_sub hl [1, 2] rfl) hf
    · replace hf := (if_pos h669).symm.trans hf
      refine lv_bipush (v := (-3 : Int32)) C.1.1 C.1.2.1 dX5_as_20 (by decide) ?_
      cases hf
      exact z_iret C Z hr hlk dX5_as_22
  · replace hf := (if_pos h667).symm.trans hf
    refine lv_bipush (v := (-2 : Int32)) C.1.1 C.1.2.1 dX5_as_8 (by decide) ?_
    cases hf
    exact z_iret C Z hr hlk dX5_as_10
set_option maxHeartbeats 4000000 in
set_option maxRecDepth 100000 in
theorem K_X5_keeps_50 {p : Program} {l : Launch} {e : Env} {s : State} {m : MethodId} {args : Array Value} {below : List Frame} {meth : Method} {c : Code} {G : zG} (C : zC (zAd G) G p s m args c cX5_keeps 2 RX5) (hr : meth.sig.returnType = none) (hlk : meth.locks = false) {r : Unit} {mem' : zMem} (N : Nat) : ∀ (n : Nat) (mem : zMem) (x1 : Int32) (H : Heap) (locs : List Loc) (ls : Array Slot), zH (zAd G) G s mem H locs → lv_has ls 2 [(0, .ref (zr G 44)), (1, .int x1)] → f_X5_keeps_50 N n mem x1 = some (r, mem') → W p l e ({ frames := 0, cells := 0, slots := 0, locals := 0 } : Room) s m args below meth c H locs 0 0 (MQ below (zQv G mem') args s 0 0 (zAd G)) (F0 m 50 ls []) := by
  intro n
  induction n with
  | zero =>
    intro mem x1 H locs ls Z hl hf
    rw [f_X5_keeps_50.eq_1] at hf
    cases hf
  | succ n ih =>
    intro mem x1 H locs ls Z hl hf
    rw [f_X5_keeps_50.eq_2] at hf
    refine lv_iload_n C.1.1 C.1.2.1 dX5_keeps_50 rfl (lv_at hl 1 rfl) ?_
    refine lv_bipush (v := (12 : Int32)) C.1.1 C.1.2.1 dX5_keeps_51 (by decide) ?_
    refine lv_icmp_ge (tgt := 82) C.1.1 C.1.2.1 dX5_keeps_53 (by decide) (fun h675 => ?_) (fun h675 => ?_)
    · replace hf := (if_pos h675).symm.trans hf
      refine lv_aload_n C.1.1 C.1.2.1 dX5_keeps_82 rfl (lv_at hl 0 rfl) ?_
      refine lv_dup C.1.1 C.1.2.1 dX5_keeps_83 rfl ?_
      refine zg_X5_95 C Z dX5_keeps_84 ?_
      refine lv_iconst (v := (1 : Int32)) C.1.1 C.1.2.1 dX5_keeps_87 (by decide) ?_
      refine lv_iadd C.1.1 C.1.2.1 dX5_keeps_88 ?_
      refine zp_X5_95 C Z dX5_keeps_89 (fun H locs Z => ?_)
      obtain ⟨mem676, hm676, hf⟩ := zlet_some hf
      rw [← hm676] at Z
      cases hf
      exact z_vret C Z hr hlk dX5_keeps_92
    · replace hf := (if_neg h675).symm.trans hf
      refine lv_aload_n C.1.1 C.1.2.1 dX5_keeps_56 rfl (lv_at hl 0 rfl) ?_
      refine zg_X5_22 C Z dX5_keeps_57 ?_
      refine lv_bipush (v := (12 : Int32)) C.1.1 C.1.2.1 dX5_keeps_60 (by decide) ?_
      refine lv_aload_n C.1.1 C.1.2.1 dX5_keeps_62 rfl (lv_at hl 0 rfl) ?_
      refine zg_X5_95 C Z dX5_keeps_63 ?_
      refine lv_imul C.1.1 C.1.2.1 dX5_keeps_66 ?_
      refine lv_iload_n C.1.1 C.1.2.1 dX5_keeps_67 rfl (lv_at hl 1 rfl) ?_
      refine lv_iadd C.1.1 C.1.2.1 dX5_keeps_68 ?_
      refine lv_aload_n C.1.1 C.1.2.1 dX5_keeps_69 rfl (lv_at hl 0 rfl) ?_
      refine zg_X5_19 C Z dX5_keeps_70 ?_
      refine lv_iload_n C.1.1 C.1.2.1 dX5_keeps_73 rfl (lv_at hl 1 rfl) ?_
      obtain ⟨hi677, hf⟩ := zgd_some hf
      refine z_iald (k := 48) C Z (by decide) rfl hi677 dX5_keeps_74 ?_
      obtain ⟨hi678, hf⟩ := zgd_some hf
      refine z_iast (k := 49) C Z (by decide) (fun _ => rfl) hi678 dX5_keeps_75 (fun H locs Z => ?_)
      obtain ⟨mem679, hm679, hf⟩ := zlet_some hf
      rw [← hm679] at Z
      refine lv_iinc (v := (x1 + 1)) (lv' := [(1, .int (x1 + 1)), (0, .ref (zr G 44))]) C.1.1 C.1.2.1 dX5_keeps_76 hl (k := 1) rfl rfl (by decide) rfl (fun ls hl => ?_)
      refine lv_goto (tgt := 50) C.1.1 C.1.2.1 dX5_keeps_79 (by decide) ?_
      exact ih mem679 (x1 + 1) _ _ _ Z (lv_sub hl [1, 0] rfl) hf
set_option maxHeartbeats 4000000 in
set_option maxRecDepth 100000 in
theorem K_X5_keeps_48 {p : Program} {l : Launch} {e : Env} {s : State} {m : MethodId} {args : Array Value} {below : List Frame} {meth : Method} {c : Code} {G : zG} (C : zC (zAd G) G p s m args c cX5_keeps 2 RX5) (hr : meth.sig.returnType = none) (hlk : meth.locks = false) {r : Unit} {mem' : zMem} (N : Nat) (mem : zMem) (H : Heap) (locs : List Loc) (ls : Array Slot) (Z : zH (zAd G) G s mem H locs) (hl : lv_has ls 2 [(0, .ref (zr G 44))]) (hf : f_X5_keeps_48 N mem = some (r, mem')) : W p l e ({ frames := 0, cells := 0, slots := 0, locals := 0 } : Room) s m args below meth c H locs 0 0 (MQ below (zQv G mem') args s 0 0 (zAd G)) (F0 m 48 ls []) := by
  unfold f_X5_keeps_48 at hf
  refine lv_iconst (v := (0 : Int32)) C.1.1 C.1.2.1 dX5_keeps_48 (by decide) ?_
  refine lv_istore_n (lv' := [(1, .int (0 : Int32)), (0, .ref (zr G 44))]) C.1.1 C.1.2.1 dX5_keeps_49 rfl hl (by decide) rfl (fun ls hl => ?_)
  exact K_X5_keeps_50 (l := l) (e := e) (below := below) C hr hlk N N mem (0 : Int32) _ _ _ Z (lv_sub hl [1, 0] rfl) hf
set_option maxHeartbeats 4000000 in
set_option maxRecDepth 100000 in
theorem K_X5_keeps_11 {p : Program} {l : Launch} {e : Env} {s : State} {m : MethodId} {args : Array Value} {below : List Frame} {meth : Method} {c : Code} {G : zG} (C : zC (zAd G) G p s m args c cX5_keeps 2 RX5) (hr : meth.sig.returnType = none) (hlk : meth.locks = false) {r : Unit} {mem' : zMem} (N : Nat) : ∀ (n : Nat) (mem : zMem) (x1 : Int32) (H : Heap) (locs : List Loc) (ls : Array Slot), zH (zAd G) G s mem H locs → lv_has ls 2 [(0, .ref (zr G 44)), (1, .int x1)] → f_X5_keeps_11 N n mem x1 = some (r, mem') → W p l e ({ frames := 0, cells := 0, slots := 0, locals := 0 } : Room) s m args below meth c H locs 0 0 (MQ below (zQv G mem') args s 0 0 (zAd G)) (F0 m 11 ls []) := by
  intro n
  induction n with
  | zero =>
    intro mem x1 H locs ls Z hl hf
    rw [f_X5_keeps_11.eq_1] at hf
    cases hf
  | succ n ih =>
    intro mem x1 H locs ls Z hl hf
    rw [f_X5_keeps_11.eq_2] at hf
    refine lv_iload_n C.1.1 C.1.2.1 dX5_keeps_11 rfl (lv_at hl 1 rfl) ?_
    refine lv_bipush (v := (84 : Int32)) C.1.1 C.1.2.1 dX5_keeps_12 (by decide) ?_
    refine lv_icmp_ge (tgt := 38) C.1.1 C.1.2.1 dX5_keeps_14 (by decide) (fun h680 => ?_) (fun h680 => ?_)
    · replace hf := (if_pos h680).symm.trans hf
      refine lv_aload_n C.1.1 C.1.2.1 dX5_keeps_38 rfl (lv_at hl 0 rfl) ?_
      refine lv_dup C.1.1 C.1.2.1 dX5_keeps_39 rfl ?_
      refine zg_X5_95 C Z dX5_keeps_40 ?_
      refine lv_iconst (v := (1 : Int32)) C.1.1 C.1.2.1 dX5_keeps_43 (by decide) ?_
      refine lv_isub C.1.1 C.1.2.1 dX5_keeps_44 ?_
      refine zp_X5_95 C Z dX5_keeps_45 (fun H locs Z => ?_)
      obtain ⟨mem681, hm681, hf⟩ := zlet_some hf
      rw [← hm681] at Z
      exact K_X5_keeps_48 (l := l) (e := e) (below := below) C hr hlk N mem681 _ _ _ Z (lv_sub hl [0] rfl) hf
    · replace hf := (if_neg h680).symm.trans hf
      refine lv_aload_n C.1.1 C.1.2.1 dX5_keeps_17 rfl (lv_at hl 0 rfl) ?_
      refine zg_X5_22 C Z dX5_keeps_18 ?_
      refine lv_iload_n C.1.1 C.1.2.1 dX5_keeps_21 rfl (lv_at hl 1 rfl) ?_
      refine lv_aload_n C.1.1 C.1.2.1 dX5_keeps_22 rfl (lv_at hl 0 rfl) ?_
      refine zg_X5_22 C Z dX5_keeps_23 ?_
      refine lv_iload_n C.1.1 C.1.2.1 dX5_keeps_26 rfl (lv_at hl 1 rfl) ?_
      refine lv_bipush (v := (12 : Int32)) C.1.1 C.1.2.1 dX5_keeps_27 (by decide) ?_
      refine lv_iadd C.1.1 C.1.2.1 dX5_keeps_29 ?_
      obtain ⟨hi682, hf⟩ := zgd_some hf
      refine z_iald (k := 49) C Z (by decide) rfl hi682 dX5_keeps_30 ?_
      obtain ⟨hi683, hf⟩ := zgd_some hf
      refine z_iast (k := 49) C Z (by decide) (fun _ => rfl) hi683 dX5_keeps_31 (fun H locs Z => ?_)
      obtain ⟨mem684, hm684, hf⟩ := zlet_some hf
      rw [← hm684] at Z
      refine lv_iinc (v := (x1 + 1)) (lv' := [(1, .int (x1 + 1)), (0, .ref (zr G 44))]) C.1.1 C.1.2.1 dX5_keeps_32 hl (k := 1) rfl rfl (by decide) rfl (fun ls hl => ?_)
      refine lv_goto (tgt := 11) C.1.1 C.1.2.1 dX5_keeps_35 (by decide) ?_
      exact ih mem684 (x1 + 1) _ _ _ Z (lv_sub hl [1, 0] rfl) hf
set_option maxHeartbeats 4000000 in
set_option maxRecDepth 100000 in
theorem M_X5_keeps (l : Launch) (G : zG) (hG : zOK G) (N : Nat) (mem : zMem) (r : Unit) (mem' : zMem) (hf : f_X5_keeps N mem = some (r, mem')) : zM l G yX5_keeps cX5_keeps 2 none 0 0 [.ref (zr G 44)] mem (zQv G mem') := by
  refine zStart hG (by decide +kernel) (Nat.le_of_ble_eq_true rfl) (fun p e s m below meth c C hr hlk ls hl Z => ?_)
  have hl : lv_has ls 2 [(0, .ref (zr G 44))] := hl
  have C : zC (zAd G) G p s m _ c cX5_keeps 2 RX5 := C
  unfold f_X5_keeps at hf
  refine lv_aload_n C.1.1 C.1.2.1 dX5_keeps_0 rfl (lv_at hl 0 rfl) ?_
  refine zg_X5_95 C Z dX5_keeps_1 ?_
  refine lv_bipush (v := (8 : Int32)) C.1.1 C.1.2.1 dX5_keeps_4 (by decide) ?_
  refine lv_icmp_ne (tgt := 48) C.1.1 C.1.2.1 dX5_keeps_6 (by decide) (fun h685 => ?_) (fun h685 => ?_)
  · replace hf := (if_neg h685).symm.trans hf
    exact K_X5_keeps_48 (l := l) (e := e) (below := below) C hr hlk N mem _ _ _ Z (lv_sub hl [0] rfl) hf
  · replace hf := (if_pos h685).symm.trans hf
    refine lv_iconst (v := (0 : Int32)) C.1.1 C.1.2.1 dX5_keeps_9 (by decide) ?_
    refine lv_istore_n (lv' := [(1, .int (0 : Int32)), (0, .ref (zr G 44))]) C.1.1 C.1.2.1 dX5_keeps_10 rfl hl (by decide) rfl (fun ls hl => ?_)
    exact K_X5_keeps_11 (l := l) (e := e) (below := below) C hr hlk N N mem (0 : Int32) _ _ _ Z (lv_sub hl [1, 0] rfl) hf
set_option maxHeartbeats 4000000 in
set_option maxRecDepth 100000 in
theorem M_X5_preach (l : Launch) (G : zG) (hG : zOK G) (N : Nat) (mem : zMem) (a1 : Int32) (r : Int32) (mem' : zMem) (hf : f_X5_preach N mem a1 = some (r, mem')) : zM l G yX5_preach cX5_preach 2 (some .int) 5 108 [.ref (zr G 44), .int a1] mem (zQi G r mem') := by
  refine zStart hG (by decide +kernel) (Nat.le_of_ble_eq_true rfl) (fun p e s m below meth c C hr hlk ls hl Z => ?_)
  have hl : lv_has ls 2 [(0, .ref (zr G 44)), (1, .int a1)] := hl
  have C : zC (zAd G) G p s m _ c cX5_preach 2 RX5 := C
  unfold f_X5_preach at hf
  refine lv_aload_n C.1.1 C.1.2.1 dX5_preach_0 rfl (lv_at hl 0 rfl) ?_
  refine lv_iload_n C.1.1 C.1.2.1 dX5_preach_1 rfl (lv_at hl 1 rfl) ?_
  obtain ⟨r686, mem686, hc686, hf⟩ := zb_some hf
  refine z_callVi (k := 44) (As := [.int a1]) (rest := []) C Z (M_X5_isPart l G C.2.1 N mem a1 r686 mem686 hc686) (zcw_X5_129 C.1.2.2.2.2 ⟨Nat.le_of_ble_eq_true rfl, Nat.le_of_ble_eq_true rfl⟩) (by decide) rfl rfl rfl hl.1 rfl (Nat.le_of_ble_eq_true rfl) ⟨Nat.le_refl 0, Nat.le_refl 0⟩ dX5_preach_2 (fun H locs Z => ?_)
  refine lv_if_ne (tgt := 11) C.1.1 C.1.2.1 dX5_preach_5 (by decide) (fun h687 => ?_) (fun h687 => ?_)
  · replace hf := (if_neg h687).symm.trans hf
    refine lv_aload_n C.1.1 C.1.2.1 dX5_preach_11 rfl (lv_at hl 0 rfl) ?_
    refine zg_X5_19 C Z dX5_preach_12 ?_
    refine lv_bipush (v := (7 : Int32)) C.1.1 C.1.2.1 dX5_preach_15 (by decide) ?_
    refine z_iald (k := 48) C Z (by decide) rfl (by decide) dX5_preach_17 ?_
    refine lv_iload_n C.1.1 C.1.2.1 dX5_preach_18 rfl (lv_at hl 1 rfl) ?_
    refine lv_ishr C.1.1 C.1.2.1 dX5_preach_19 ?_
    refine lv_iconst (v := (1 : Int32)) C.1.1 C.1.2.1 dX5_preach_20 (by decide) ?_
    refine lv_iand C.1.1 C.1.2.1 dX5_preach_21 ?_
    refine lv_iconst (v := (1 : Int32)) C.1.1 C.1.2.1 dX5_preach_22 (by decide) ?_
    refine lv_icmp_eq (tgt := 33) C.1.1 C.1.2.1 dX5_preach_23 (by decide) (fun h688 => ?_) (fun h688 => ?_)
    · replace hf := (if_pos h688).symm.trans hf
      refine lv_bipush (v := (-4 : Int32)) C.1.1 C.1.2.1 dX5_preach_33 (by decide) ?_
      cases hf
      exact z_iret C Z hr hlk dX5_preach_35
    · replace hf := (if_neg h688).symm.trans hf
      refine lv_aload_n C.1.1 C.1.2.1 dX5_preach_26 rfl (lv_at hl 0 rfl) ?_
      obtain ⟨r689, mem689, hc689, hf⟩ := zb_some hf
      refine z_callVi (k := 44) (As := []) (rest := []) C Z (M_X5_isLevel l G C.2.1 N mem686 r689 mem689 hc689) (zcw_X5_132 C.1.2.2.2.2 ⟨Nat.le_of_ble_eq_true rfl, Nat.le_of_ble_eq_true rfl⟩) (by decide) rfl rfl rfl hl.1 rfl (Nat.le_of_ble_eq_true rfl) ⟨Nat.le_refl 0, Nat.le_refl 0⟩ dX5_preach_27 (fun H locs Z => ?_)
      refine lv_if_eq (tgt := 36) C.1.1 C.1.2.1 dX5_preach_30 (by decide) (fun h690 => ?_) (fun h690 => ?_)
      · replace hf := (if_pos h690).symm.trans hf
        refine lv_aload_n C.1.1 C.1.2.1 dX5_preach_36 rfl (lv_at hl 0 rfl) ?_
        obtain ⟨r691, mem691, hc691, hf⟩ := zb_some hf
        refine z_callVv (k := 44) (As := []) (rest := []) C Z (M_X5_keeps l G C.2.1 N mem689 r691 mem691 hc691) (zcw_X5_135 C.1.2.2.2.2 ⟨Nat.le_of_ble_eq_true rfl, Nat.le_of_ble_eq_true rfl⟩) (by decide) rfl rfl rfl hl.1 rfl (Nat.le_of_ble_eq_true rfl) ⟨Nat.le_refl 0, Nat.le_refl 0⟩ dX5_preach_37 (fun H locs Z => ?_)
        refine lv_aload_n C.1.1 C.1.2.1 dX5_preach_40 rfl (lv_at hl 0 rfl) ?_
        refine zg_X5_19 C Z dX5_preach_41 ?_
        refine lv_bipush (v := (7 : Int32)) C.1.1 C.1.2.1 dX5_preach_44 (by decide) ?_
        refine lv_dup2_11 C.1.1 C.1.2.1 dX5_preach_46 rfl rfl ?_
        refine z_iald (k := 48) C Z (by decide) rfl (by decide) dX5_preach_47 ?_
        refine lv_iconst (v := (1 : Int32)) C.1.1 C.1.2.1 dX5_preach_48 (by decide) ?_
        refine lv_iload_n C.1.1 C.1.2.1 dX5_preach_49 rfl (lv_at hl 1 rfl) ?_
        refine lv_ishl C.1.1 C.1.2.1 dX5_preach_50 ?_
        refine lv_ior C.1.1 C.1.2.1 dX5_preach_51 ?_
        refine z_iast (k := 48) C Z (by decide) (fun _ => rfl) (by decide) dX5_preach_52 (fun H locs Z => ?_)
        obtain ⟨mem692, hm692, hf⟩ := zlet_some hf
        rw [← hm692] at Z
        refine lv_aload_n C.1.1 C.1.2.1 dX5_preach_53 rfl (lv_at hl 0 rfl) ?_
        refine zg_X5_19 C Z dX5_preach_54 ?_
        refine lv_bipush (v := (10 : Int32)) C.1.1 C.1.2.1 dX5_preach_57 (by decide) ?_
        refine lv_dup2_11 C.1.1 C.1.2.1 dX5_preach_59 rfl rfl ?_
        refine z_iald (k := 48) C Z (by decide) rfl (by decide) dX5_preach_60 ?_
        refine lv_aload_n C.1.1 C.1.2.1 dX5_preach_61 rfl (lv_at hl 0 rfl) ?_
        refine zg_X5_13 C Z dX5_preach_62 ?_
        refine lv_bipush (v := (21 : Int32)) C.1.1 C.1.2.1 dX5_preach_65 (by decide) ?_
        refine lv_iload_n C.1.1 C.1.2.1 dX5_preach_67 rfl (lv_at hl 1 rfl) ?_
        refine lv_iadd C.1.1 C.1.2.1 dX5_preach_68 ?_
        obtain ⟨hi693, hf⟩ := zgd_some hf
        refine z_iald (k := 46) C Z (by decide) rfl hi693 dX5_preach_69 ?_
        refine lv_iadd C.1.1 C.1.2.1 dX5_preach_70 ?_
        refine z_iast (k := 48) C Z (by decide) (fun _ => rfl) (by decide) dX5_preach_71 (fun H locs Z => ?_)
        obtain ⟨mem694, hm694, hf⟩ := zlet_some hf
        rw [← hm694] at Z
        refine lv_sipush (v := (9999 : Int32)) C.1.1 C.1.2.1 dX5_preach_72 (by decide) ?_
        refine lv_aload_n C.1.1 C.1.2.1 dX5_preach_75 rfl (lv_at hl 0 rfl) ?_
        obtain ⟨r695, mem695, hc695, hf⟩ := zb_some hf
        refine z_callVi (k := 44) (As := []) (rest := [.int (9999 : Int32)]) C Z (M_X5_sermon l G C.2.1 N mem694 r695 mem695 hc695) (zcw_X5_119 C.1.2.2.2.2 ⟨Nat.le_of_ble_eq_true rfl, Nat.le_of_ble_eq_true rfl⟩) (by decide) rfl rfl rfl hl.1 rfl (Nat.le_of_ble_eq_true rfl) ⟨Nat.le_refl 0, Nat.le_refl 0⟩ dX5_preach_76 (fun H locs Z => ?_)
        refine lv_iadd C.1.1 C.1.2.1 dX5_preach_79 ?_
        refine lv_aload_n C.1.1 C.1.2.1 dX5_preach_80 rfl (lv_at hl 0 rfl) ?_
        obtain ⟨r696, mem696, hc696, hf⟩ := zb_some hf
        refine z_callVi (k := 44) (As := []) (rest := [.int ((9999 : Int32) + r695)]) C Z (M_X5_lead l G C.2.1 N mem695 r696 mem696 hc696) (zcw_X5_122 C.1.2.2.2.2 ⟨Nat.le_of_ble_eq_true rfl, Nat.le_of_ble_eq_true rfl⟩) (by decide) rfl rfl rfl hl.1 rfl (Nat.le_of_ble_eq_true rfl) ⟨Nat.le_refl 0, Nat.le_refl 0⟩ dX5_preach_81 (fun H locs Z => ?_)
        refine lv_isub C.1.1 C.1.2.1 dX5_preach_84 ?_
        cases hf
        exact z_iret C Z hr hlk dX5_preach_85
      · replace hf := (if_neg h690).symm.trans hf
        refine lv_bipush (v := (-4 : Int32)) C.1.1 C.1.2.1 dX5_preach_33 (by decide) ?_
        cases hf
        exact z_iret C Z hr hlk dX5_preach_35
  · replace hf := (if_pos h687).symm.trans hf
    refine lv_bipush (v := (-2 : Int32)) C.1.1 C.1.2.1 dX5_preach_8 (by decide) ?_
    cases hf
    exact z_iret C Z hr hlk dX5_preach_10
set_option maxHeartbeats 4000000 in
set_option maxRecDepth 100000 in
theorem M_X5_sin (l : Launch) (G : zG) (hG : zOK G) (N : Nat) (mem : zMem) (a1 : Int32) (a2 : Int32) (r : Int32) (mem' : zMem) (hf : f_X5_sin N mem a1 a2 = some (r, mem')) : zM l G yX5_sin cX5_sin 3 (some .int) 1 22 [.ref (zr G 44), .int a1, .int a2] mem (zQi G r mem') := by
  refine zStart hG (by decide +kernel) (Nat.le_of_ble_eq_true rfl) (fun p e s m below meth c C hr hlk ls hl Z => ?_)
  have hl : lv_has ls 3 [(0, .ref (zr G 44)), (1, .int a1), (2, .int a2)] := hl
  have C : zC (zAd G) G p s m _ c cX5_sin 3 RX5 := C
  unfold f_X5_sin at hf
  refine lv_iload_n C.1.1 C.1.2.1 dX5_sin_0 rfl (lv_at hl 1 rfl) ?_
  refine lv_iconst (v := (0 : Int32)) C.1.1 C.1.2.1 dX5_sin_1 (by decide) ?_
  refine lv_aload_n C.1.1 C.1.2.1 dX5_sin_2 rfl (lv_at hl 0 rfl) ?_
  refine zg_X5_13 C Z dX5_sin_3 ?_
  refine lv_iconst (v := (1 : Int32)) C.1.1 C.1.2.1 dX5_sin_6 (by decide) ?_
  refine z_iald (k := 46) C Z (by decide) rfl (by decide) dX5_sin_7 ?_
  refine lv_iconst (v := (1 : Int32)) C.1.1 C.1.2.1 dX5_sin_8 (by decide) ?_
  refine lv_isub C.1.1 C.1.2.1 dX5_sin_9 ?_
  obtain ⟨r697, mem697, hc697, hf⟩ := zb_some hf
  refine z_callSi (As := [.int a1, .int (0 : Int32), .int ((mem 46 (1 : Int32).toNatClampNeg) - (1 : Int32))]) (rest := []) C Z (M_X5_in l G C.2.1 N mem a1 (0 : Int32) ((mem 46 (1 : Int32).toNatClampNeg) - (1 : Int32)) r697 mem697 hc697) (zcw_X5_44 C.1.2.2.2.2 ⟨Nat.le_of_ble_eq_true rfl, Nat.le_of_ble_eq_true rfl⟩) rfl hl.1 rfl (Nat.le_of_ble_eq_true rfl) ⟨Nat.le_refl 0, Nat.le_refl 0⟩ dX5_sin_10 (fun H locs Z => ?_)
  refine lv_if_ne (tgt := 19) C.1.1 C.1.2.1 dX5_sin_13 (by decide) (fun h698 => ?_) (fun h698 => ?_)
  · replace hf := (if_neg h698).symm.trans hf
    refine lv_iload_n C.1.1 C.1.2.1 dX5_sin_19 rfl (lv_at hl 2 rfl) ?_
    refine lv_iconst (v := (1 : Int32)) C.1.1 C.1.2.1 dX5_sin_20 (by decide) ?_
    refine lv_bipush (v := (20 : Int32)) C.1.1 C.1.2.1 dX5_sin_21 (by decide) ?_
    obtain ⟨r699, mem699, hc699, hf⟩ := zb_some hf
    refine z_callSi (As := [.int a2, .int (1 : Int32), .int (20 : Int32)]) (rest := []) C Z (M_X5_in l G C.2.1 N mem697 a2 (1 : Int32) (20 : Int32) r699 mem699 hc699) (zcw_X5_44 C.1.2.2.2.2 ⟨Nat.le_of_ble_eq_true rfl, Nat.le_of_ble_eq_true rfl⟩) rfl hl.1 rfl (Nat.le_of_ble_eq_true rfl) ⟨Nat.le_refl 0, Nat.le_refl 0⟩ dX5_sin_23 (fun H locs Z => ?_)
    refine lv_if_ne (tgt := 32) C.1.1 C.1.2.1 dX5_sin_26 (by decide) (fun h700 => ?_) (fun h700 => ?_)
    · replace hf := (if_neg h700).symm.trans hf
      refine lv_aload_n C.1.1 C.1.2.1 dX5_sin_32 rfl (lv_at hl 0 rfl) ?_
      obtain ⟨r701, mem701, hc701, hf⟩ := zb_some hf
      refine z_callVv (k := 44) (As := []) (rest := []) C Z (M_X5_keeps l G C.2.1 N mem699 r701 mem701 hc701) (zcw_X5_135 C.1.2.2.2.2 ⟨Nat.le_of_ble_eq_true rfl, Nat.le_of_ble_eq_true rfl⟩) (by decide) rfl rfl rfl hl.1 rfl (Nat.le_of_ble_eq_true rfl) ⟨Nat.le_refl 0, Nat.le_refl 0⟩ dX5_sin_33 (fun H locs Z => ?_)
      refine lv_aload_n C.1.1 C.1.2.1 dX5_sin_36 rfl (lv_at hl 0 rfl) ?_
      refine zg_X5_19 C Z dX5_sin_37 ?_
      refine lv_iload_n C.1.1 C.1.2.1 dX5_sin_40 rfl (lv_at hl 1 rfl) ?_
      refine lv_aload_n C.1.1 C.1.2.1 dX5_sin_41 rfl (lv_at hl 0 rfl) ?_
      refine zg_X5_19 C Z dX5_sin_42 ?_
      refine lv_iload_n C.1.1 C.1.2.1 dX5_sin_45 rfl (lv_at hl 1 rfl) ?_
      obtain ⟨hi702, hf⟩ := zgd_some hf
      refine z_iald (k := 48) C Z (by decide) rfl hi702 dX5_sin_46 ?_
      refine lv_iload_n C.1.1 C.1.2.1 dX5_sin_47 rfl (lv_at hl 2 rfl) ?_
      refine lv_iadd C.1.1 C.1.2.1 dX5_sin_48 ?_
      refine lv_bipush (v := (99 : Int32)) C.1.1 C.1.2.1 dX5_sin_49 (by decide) ?_
      refine lv_icmp_le (tgt := 59) C.1.1 C.1.2.1 dX5_sin_51 (by decide) (fun h703 => ?_) (fun h703 => ?_)
      · replace hf := (if_pos h703).symm.trans hf
        refine lv_aload_n C.1.1 C.1.2.1 dX5_sin_59 rfl (lv_at hl 0 rfl) ?_
        refine zg_X5_19 C Z dX5_sin_60 ?_
        refine lv_iload_n C.1.1 C.1.2.1 dX5_sin_63 rfl (lv_at hl 1 rfl) ?_
        obtain ⟨hi704, hf⟩ := zgd_some hf
        refine z_iald (k := 48) C Z (by decide) rfl hi704 dX5_sin_64 ?_
        refine lv_iload_n C.1.1 C.1.2.1 dX5_sin_65 rfl (lv_at hl 2 rfl) ?_
        refine lv_iadd C.1.1 C.1.2.1 dX5_sin_66 ?_
        obtain ⟨hi705, hf⟩ := zgd_some hf
        refine z_iast (k := 48) C Z (by decide) (fun _ => rfl) hi705 dX5_sin_67 (fun H locs Z => ?_)
        obtain ⟨mem706, hm706, hf⟩ := zlet_some hf
        rw [← hm706] at Z
        refine lv_aload_n C.1.1 C.1.2.1 dX5_sin_68 rfl (lv_at hl 0 rfl) ?_
        refine zg_X5_19 C Z dX5_sin_69 ?_
        refine lv_iload_n C.1.1 C.1.2.1 dX5_sin_72 rfl (lv_at hl 1 rfl) ?_
        obtain ⟨hi707, hf⟩ := zgd_some hf
        refine z_iald (k := 48) C Z (by decide) rfl hi707 dX5_sin_73 ?_
        cases hf
        exact z_iret C Z hr hlk dX5_sin_74
      · replace hf := (if_neg h703).symm.trans hf
        refine lv_bipush (v := (99 : Int32)) C.1.1 C.1.2.1 dX5_sin_54 (by decide) ?_
        refine lv_goto (tgt := 67) C.1.1 C.1.2.1 dX5_sin_56 (by decide) ?_
        obtain ⟨hi708, hf⟩ := zgd_some hf
        refine z_iast (k := 48) C Z (by decide) (fun _ => rfl) hi708 dX5_sin_67 (fun H locs Z => ?_)
        obtain ⟨mem709, hm709, hf⟩ := zlet_some hf
        rw [← hm709] at Z
        refine lv_aload_n C.1.1 C.1.2.1 dX5_sin_68 rfl (lv_at hl 0 rfl) ?_
        refine zg_X5_19 C Z dX5_sin_69 ?_
        refine lv_iload_n C.1.1 C.1.2.1 dX5_sin_72 rfl (lv_at hl 1 rfl) ?_
        obtain ⟨hi710, hf⟩ := zgd_some hf
        refine z_iald (k := 48) C Z (by decide) rfl hi710 dX5_sin_73 ?_
        cases hf
        exact z_iret C Z hr hlk dX5_sin_74
    · replace hf := (if_pos h700).symm.trans hf
      refine lv_bipush (v := (-3 : Int32)) C.1.1 C.1.2.1 dX5_sin_29 (by decide) ?_
      cases hf
      exact z_iret C Z hr hlk dX5_sin_31
  · replace hf := (if_pos h698).symm.trans hf
    refine lv_bipush (v := (-2 : Int32)) C.1.1 C.1.2.1 dX5_sin_16 (by decide) ?_
    cases hf
    exact z_iret C Z hr hlk dX5_sin_18
set_option maxHeartbeats 4000000 in
set_option maxRecDepth 100000 in
theorem M_X5_ballast (l : Launch) (G : zG) (hG : zOK G) (N : Nat) (mem : zMem) (a1 : Int32) (r : Int32) (mem' : zMem) (hf : f_X5_ballast N mem a1 = some (r, mem')) : zM l G yX5_ballast cX5_ballast 2 (some .int) 1 22 [.ref (zr G 44), .int a1] mem (zQi G r mem') := by
  refine zStart hG (by decide +kernel) (Nat.le_of_ble_eq_true rfl) (fun p e s m below meth c C hr hlk ls hl Z => ?_)
  have hl : lv_has ls 2 [(0, .ref (zr G 44)), (1, .int a1)] := hl
  have C : zC (zAd G) G p s m _ c cX5_ballast 2 RX5 := C
  unfold f_X5_ballast at hf
  refine lv_iload_n C.1.1 C.1.2.1 dX5_ballast_0 rfl (lv_at hl 1 rfl) ?_
  refine lv_iconst (v := (1 : Int32)) C.1.1 C.1.2.1 dX5_ballast_1 (by decide) ?_
  refine lv_bipush (v := (20 : Int32)) C.1.1 C.1.2.1 dX5_ballast_2 (by decide) ?_
  obtain ⟨r711, mem711, hc711, hf⟩ := zb_some hf
  refine z_callSi (As := [.int a1, .int (1 : Int32), .int (20 : Int32)]) (rest := []) C Z (M_X5_in l G C.2.1 N mem a1 (1 : Int32) (20 : Int32) r711 mem711 hc711) (zcw_X5_44 C.1.2.2.2.2 ⟨Nat.le_of_ble_eq_true rfl, Nat.le_of_ble_eq_true rfl⟩) rfl hl.1 rfl (Nat.le_of_ble_eq_true rfl) ⟨Nat.le_refl 0, Nat.le_refl 0⟩ dX5_ballast_4 (fun H locs Z => ?_)
  refine lv_if_ne (tgt := 13) C.1.1 C.1.2.1 dX5_ballast_7 (by decide) (fun h712 => ?_) (fun h712 => ?_)
  · replace hf := (if_neg h712).symm.trans hf
    refine lv_aload_n C.1.1 C.1.2.1 dX5_ballast_13 rfl (lv_at hl 0 rfl) ?_
    obtain ⟨r713, mem713, hc713, hf⟩ := zb_some hf
    refine z_callVv (k := 44) (As := []) (rest := []) C Z (M_X5_keeps l G C.2.1 N mem711 r713 mem713 hc713) (zcw_X5_135 C.1.2.2.2.2 ⟨Nat.le_of_ble_eq_true rfl, Nat.le_of_ble_eq_true rfl⟩) (by decide) rfl rfl rfl hl.1 rfl (Nat.le_of_ble_eq_true rfl) ⟨Nat.le_refl 0, Nat.le_refl 0⟩ dX5_ballast_14 (fun H locs Z => ?_)
    refine lv_aload_n C.1.1 C.1.2.1 dX5_ballast_17 rfl (lv_at hl 0 rfl) ?_
    refine zg_X5_19 C Z dX5_ballast_18 ?_
    refine lv_bipush (v := (8 : Int32)) C.1.1 C.1.2.1 dX5_ballast_21 (by decide) ?_
    refine lv_aload_n C.1.1 C.1.2.1 dX5_ballast_23 rfl (lv_at hl 0 rfl) ?_
    refine zg_X5_19 C Z dX5_ballast_24 ?_
    refine lv_bipush (v := (8 : Int32)) C.1.1 C.1.2.1 dX5_ballast_27 (by decide) ?_
    refine z_iald (k := 48) C Z (by decide) rfl (by decide) dX5_ballast_29 ?_
    refine lv_iload_n C.1.1 C.1.2.1 dX5_ballast_30 rfl (lv_at hl 1 rfl) ?_
    refine lv_iadd C.1.1 C.1.2.1 dX5_ballast_31 ?_
    refine lv_bipush (v := (99 : Int32)) C.1.1 C.1.2.1 dX5_ballast_32 (by decide) ?_
    refine lv_icmp_le (tgt := 42) C.1.1 C.1.2.1 dX5_ballast_34 (by decide) (fun h714 => ?_) (fun h714 => ?_)
    · replace hf := (if_pos h714).symm.trans hf
      refine lv_aload_n C.1.1 C.1.2.1 dX5_ballast_42 rfl (lv_at hl 0 rfl) ?_
      refine zg_X5_19 C Z dX5_ballast_43 ?_
      refine lv_bipush (v := (8 : Int32)) C.1.1 C.1.2.1 dX5_ballast_46 (by decide) ?_
      refine z_iald (k := 48) C Z (by decide) rfl (by decide) dX5_ballast_48 ?_
      refine lv_iload_n C.1.1 C.1.2.1 dX5_ballast_49 rfl (lv_at hl 1 rfl) ?_
      refine lv_iadd C.1.1 C.1.2.1 dX5_ballast_50 ?_
      refine z_iast (k := 48) C Z (by decide) (fun _ => rfl) (by decide) dX5_ballast_51 (fun H locs Z => ?_)
      obtain ⟨mem715, hm715, hf⟩ := zlet_some hf
      rw [← hm715] at Z
      refine lv_aload_n C.1.1 C.1.2.1 dX5_ballast_52 rfl (lv_at hl 0 rfl) ?_
      refine zg_X5_19 C Z dX5_ballast_53 ?_
      refine lv_bipush (v := (8 : Int32)) C.1.1 C.1.2.1 dX5_ballast_56 (by decide) ?_
      refine z_iald (k := 48) C Z (by decide) rfl (by decide) dX5_ballast_58 ?_
      cases hf
      exact z_iret C Z hr hlk dX5_ballast_59
    · replace hf := (if_neg h714).symm.trans hf
      refine lv_bipush (v := (99 : Int32)) C.1.1 C.1.2.1 dX5_ballast_37 (by decide) ?_
      refine lv_goto (tgt := 51) C.1.1 C.1.2.1 dX5_ballast_39 (by decide) ?_
      refine z_iast (k := 48) C Z (by decide) (fun _ => rfl) (by decide) dX5_ballast_51 (fun H locs Z => ?_)
      obtain ⟨mem716, hm716, hf⟩ := zlet_some hf
      rw [← hm716] at Z
      refine lv_aload_n C.1.1 C.1.2.1 dX5_ballast_52 rfl (lv_at hl 0 rfl) ?_
      refine zg_X5_19 C Z dX5_ballast_53 ?_
      refine lv_bipush (v := (8 : Int32)) C.1.1 C.1.2.1 dX5_ballast_56 (by decide) ?_
      refine z_iald (k := 48) C Z (by decide) rfl (by decide) dX5_ballast_58 ?_
      cases hf
      exact z_iret C Z hr hlk dX5_ballast_59
  · replace hf := (if_pos h712).symm.trans hf
    refine lv_bipush (v := (-3 : Int32)) C.1.1 C.1.2.1 dX5_ballast_10 (by decide) ?_
    cases hf
    exact z_iret C Z hr hlk dX5_ballast_12
set_option maxHeartbeats 4000000 in
set_option maxRecDepth 100000 in
theorem M_X5_rain (l : Launch) (G : zG) (hG : zOK G) (N : Nat) (mem : zMem) (a1 : Int32) (r : Int32) (mem' : zMem) (hf : f_X5_rain N mem a1 = some (r, mem')) : zM l G yX5_rain cX5_rain 3 (some .int) 1 22 [.ref (zr G 44), .int a1] mem (zQi G r mem') := by
  refine zStart hG (by decide +kernel) (Nat.le_of_ble_eq_true rfl) (fun p e s m below meth c C hr hlk ls hl Z => ?_)
  have hl : lv_has ls 3 [(0, .ref (zr G 44)), (1, .int a1)] := hl
  have C : zC (zAd G) G p s m _ c cX5_rain 3 RX5 := C
  unfold f_X5_rain at hf
  refine lv_iload_n C.1.1 C.1.2.1 dX5_rain_0 rfl (lv_at hl 1 rfl) ?_
  refine lv_iconst (v := (0 : Int32)) C.1.1 C.1.2.1 dX5_rain_1 (by decide) ?_
  refine lv_bipush (v := (9 : Int32)) C.1.1 C.1.2.1 dX5_rain_2 (by decide) ?_
  obtain ⟨r717, mem717, hc717, hf⟩ := zb_some hf
  refine z_callSi (As := [.int a1, .int (0 : Int32), .int (9 : Int32)]) (rest := []) C Z (M_X5_in l G C.2.1 N mem a1 (0 : Int32) (9 : Int32) r717 mem717 hc717) (zcw_X5_44 C.1.2.2.2.2 ⟨Nat.le_of_ble_eq_true rfl, Nat.le_of_ble_eq_true rfl⟩) rfl hl.1 rfl (Nat.le_of_ble_eq_true rfl) ⟨Nat.le_refl 0, Nat.le_refl 0⟩ dX5_rain_4 (fun H locs Z => ?_)
  refine lv_if_ne (tgt := 13) C.1.1 C.1.2.1 dX5_rain_7 (by decide) (fun h718 => ?_) (fun h718 => ?_)
  · replace hf := (if_neg h718).symm.trans hf
    refine lv_aload_n C.1.1 C.1.2.1 dX5_rain_13 rfl (lv_at hl 0 rfl) ?_
    obtain ⟨r719, mem719, hc719, hf⟩ := zb_some hf
    refine z_callVv (k := 44) (As := []) (rest := []) C Z (M_X5_keeps l G C.2.1 N mem717 r719 mem719 hc719) (zcw_X5_135 C.1.2.2.2.2 ⟨Nat.le_of_ble_eq_true rfl, Nat.le_of_ble_eq_true rfl⟩) (by decide) rfl rfl rfl hl.1 rfl (Nat.le_of_ble_eq_true rfl) ⟨Nat.le_refl 0, Nat.le_refl 0⟩ dX5_rain_14 (fun H locs Z => ?_)
    refine lv_aload_n C.1.1 C.1.2.1 dX5_rain_17 rfl (lv_at hl 0 rfl) ?_
    refine zg_X5_19 C Z dX5_rain_18 ?_
    refine lv_bipush (v := (6 : Int32)) C.1.1 C.1.2.1 dX5_rain_21 (by decide) ?_
    refine z_iald (k := 48) C Z (by decide) rfl (by decide) dX5_rain_23 ?_
    refine lv_istore_n (lv' := [(2, .int (mem719 48 (6 : Int32).toNatClampNeg)), (0, .ref (zr G 44)), (1, .int a1)]) C.1.1 C.1.2.1 dX5_rain_24 rfl hl (by decide) rfl (fun ls hl => ?_)
    refine lv_aload_n C.1.1 C.1.2.1 dX5_rain_25 rfl (lv_at hl 1 rfl) ?_
    refine zg_X5_19 C Z dX5_rain_26 ?_
    refine lv_bipush (v := (6 : Int32)) C.1.1 C.1.2.1 dX5_rain_29 (by decide) ?_
    refine lv_iload_n C.1.1 C.1.2.1 dX5_rain_31 rfl (lv_at hl 2 rfl) ?_
    refine z_iast (k := 48) C Z (by decide) (fun _ => rfl) (by decide) dX5_rain_32 (fun H locs Z => ?_)
    obtain ⟨mem720, hm720, hf⟩ := zlet_some hf
    rw [← hm720] at Z
    refine lv_iload_n C.1.1 C.1.2.1 dX5_rain_33 rfl (lv_at hl 0 rfl) ?_
    cases hf
    exact z_iret C Z hr hlk dX5_rain_34
  · replace hf := (if_pos h718).symm.trans hf
    refine lv_bipush (v := (-3 : Int32)) C.1.1 C.1.2.1 dX5_rain_10 (by decide) ?_
    cases hf
    exact z_iret C Z hr hlk dX5_rain_12
set_option maxHeartbeats 4000000 in
set_option maxRecDepth 100000 in
theorem K_X5_sunday_105 {p : Program} {l : Launch} {e : Env} {s : State} {m : MethodId} {args : Array Value} {below : List Frame} {meth : Method} {c : Code} {G : zG} (C : zC (zAd G) G p s m args c cX5_sunday 3 RX5) (hr : meth.sig.returnType = (some .int)) (hlk : meth.locks = false) {r : Int32} {mem' : zMem} (N : Nat) (mem : zMem) (x1 : Int32) (s1 : Int32) (s2 : Int32) (s3 : Int32) (H : Heap) (locs : List Loc) (ls : Array Slot) (Z : zH (zAd G) G s mem H locs) (hl : lv_has ls 3 [(1, .int x1)]) (hf : f_X5_sunday_105 N mem x1 s1 s2 s3 = some (r, mem')) : W p l e ({ frames := 5, cells := 0, slots := 0, locals := 108 } : Room) s m args below meth c H locs 0 0 (MQ below (zQi G r mem') args s 0 0 (zAd G)) (F0 m 105 ls [.int s3, .int s2, .int s1, .ref (zr G 48)]) := by
  unfold f_X5_sunday_105 at hf
  refine lv_iadd C.1.1 C.1.2.1 dX5_sunday_105 ?_
  obtain ⟨hi721, hf⟩ := zgd_some hf
  refine z_iast (k := 48) C Z (by decide) (fun _ => rfl) hi721 dX5_sunday_106 (fun H locs Z => ?_)
  obtain ⟨mem722, hm722, hf⟩ := zlet_some hf
  rw [← hm722] at Z
  refine lv_iload_n C.1.1 C.1.2.1 dX5_sunday_107 rfl (lv_at hl 0 rfl) ?_
  refine lv_if_eq (tgt := 115) C.1.1 C.1.2.1 dX5_sunday_108 (by decide) (fun h723 => ?_) (fun h723 => ?_)
  · replace hf := (if_pos h723).symm.trans hf
    refine lv_iconst (v := (0 : Int32)) C.1.1 C.1.2.1 dX5_sunday_115 (by decide) ?_
    cases hf
    exact z_iret C Z hr hlk dX5_sunday_116
  · replace hf := (if_neg h723).symm.trans hf
    refine lv_iconst (v := (1 : Int32)) C.1.1 C.1.2.1 dX5_sunday_111 (by decide) ?_
    refine lv_goto (tgt := 116) C.1.1 C.1.2.1 dX5_sunday_112 (by decide) ?_
    cases hf
    exact z_iret C Z hr hlk dX5_sunday_116
set_option maxHeartbeats 4000000 in
set_option maxRecDepth 100000 in
theorem K_X5_sunday_27 {p : Program} {l : Launch} {e : Env} {s : State} {m : MethodId} {args : Array Value} {below : List Frame} {meth : Method} {c : Code} {G : zG} (C : zC (zAd G) G p s m args c cX5_sunday 3 RX5) (hr : meth.sig.returnType = (some .int)) (hlk : meth.locks = false) {r : Int32} {mem' : zMem} (N : Nat) : ∀ (n : Nat) (mem : zMem) (x1 : Int32) (x2 : Int32) (H : Heap) (locs : List Loc) (ls : Array Slot), zH (zAd G) G s mem H locs → lv_has ls 3 [(0, .ref (zr G 44)), (1, .int x1), (2, .int x2)] → f_X5_sunday_27 N n mem x1 x2 = some (r, mem') → W p l e ({ frames := 5, cells := 0, slots := 0, locals := 108 } : Room) s m args below meth c H locs 0 0 (MQ below (zQi G r mem') args s 0 0 (zAd G)) (F0 m 27 ls []) := by
  intro n
  induction n with
  | zero =>
    intro mem x1 x2 H locs ls Z hl hf
    rw [f_X5_sunday_27.eq_1] at hf
    cases hf
  | succ n ih =>
    intro mem x1 x2 H locs ls Z hl hf
    rw [f_X5_sunday_27.eq_2] at hf
    refine lv_iload_n C.1.1 C.1.2.1 dX5_sunday_27 rfl (lv_at hl 2 rfl) ?_
    refine lv_bipush (v := (6 : Int32)) C.1.1 C.1.2.1 dX5_sunday_28 (by decide) ?_
    refine lv_icmp_ge (tgt := 61) C.1.1 C.1.2.1 dX5_sunday_30 (by decide) (fun h724 => ?_) (fun h724 => ?_)
    · replace hf := (if_pos h724).symm.trans hf
      refine lv_aload_n C.1.1 C.1.2.1 dX5_sunday_61 rfl (lv_at hl 0 rfl) ?_
      refine zg_X5_19 C Z dX5_sunday_62 ?_
      refine lv_bipush (v := (8 : Int32)) C.1.1 C.1.2.1 dX5_sunday_65 (by decide) ?_
      refine lv_iconst (v := (0 : Int32)) C.1.1 C.1.2.1 dX5_sunday_67 (by decide) ?_
      refine z_iast (k := 48) C Z (by decide) (fun _ => rfl) (by decide) dX5_sunday_68 (fun H locs Z => ?_)
      obtain ⟨mem725, hm725, hf⟩ := zlet_some hf
      rw [← hm725] at Z
      refine lv_aload_n C.1.1 C.1.2.1 dX5_sunday_69 rfl (lv_at hl 0 rfl) ?_
      refine zg_X5_19 C Z dX5_sunday_70 ?_
      refine lv_bipush (v := (7 : Int32)) C.1.1 C.1.2.1 dX5_sunday_73 (by decide) ?_
      refine lv_iconst (v := (0 : Int32)) C.1.1 C.1.2.1 dX5_sunday_75 (by decide) ?_
      refine z_iast (k := 48) C Z (by decide) (fun _ => rfl) (by decide) dX5_sunday_76 (fun H locs Z => ?_)
      obtain ⟨mem726, hm726, hf⟩ := zlet_some hf
      rw [← hm726] at Z
      refine lv_aload_n C.1.1 C.1.2.1 dX5_sunday_77 rfl (lv_at hl 0 rfl) ?_
      refine zg_X5_19 C Z dX5_sunday_78 ?_
      refine lv_bipush (v := (9 : Int32)) C.1.1 C.1.2.1 dX5_sunday_81 (by decide) ?_
      refine lv_dup2_11 C.1.1 C.1.2.1 dX5_sunday_83 rfl rfl ?_
      refine z_iald (k := 48) C Z (by decide) rfl (by decide) dX5_sunday_84 ?_
      refine lv_iconst (v := (1 : Int32)) C.1.1 C.1.2.1 dX5_sunday_85 (by decide) ?_
      refine lv_iadd C.1.1 C.1.2.1 dX5_sunday_86 ?_
      refine z_iast (k := 48) C Z (by decide) (fun _ => rfl) (by decide) dX5_sunday_87 (fun H locs Z => ?_)
      obtain ⟨mem727, hm727, hf⟩ := zlet_some hf
      rw [← hm727] at Z
      refine lv_aload_n C.1.1 C.1.2.1 dX5_sunday_88 rfl (lv_at hl 0 rfl) ?_
      refine zg_X5_19 C Z dX5_sunday_89 ?_
      refine lv_bipush (v := (11 : Int32)) C.1.1 C.1.2.1 dX5_sunday_92 (by decide) ?_
      refine lv_dup2_11 C.1.1 C.1.2.1 dX5_sunday_94 rfl rfl ?_
      refine z_iald (k := 48) C Z (by decide) rfl (by decide) dX5_sunday_95 ?_
      refine lv_iload_n C.1.1 C.1.2.1 dX5_sunday_96 rfl (lv_at hl 1 rfl) ?_
      refine lv_if_eq (tgt := 104) C.1.1 C.1.2.1 dX5_sunday_97 (by decide) (fun h728 => ?_) (fun h728 => ?_)
      · replace hf := (if_pos h728).symm.trans hf
        refine lv_iconst (v := (0 : Int32)) C.1.1 C.1.2.1 dX5_sunday_104 (by decide) ?_
        exact K_X5_sunday_105 (l := l) (e := e) (below := below) C hr hlk N mem727 x1 (11 : Int32) (mem727 48 (11 : Int32).toNatClampNeg) (0 : Int32) _ _ _ Z (lv_sub hl [1] rfl) hf
      · replace hf := (if_neg h728).symm.trans hf
        refine lv_iconst (v := (1 : Int32)) C.1.1 C.1.2.1 dX5_sunday_100 (by decide) ?_
        refine lv_goto (tgt := 105) C.1.1 C.1.2.1 dX5_sunday_101 (by decide) ?_
        exact K_X5_sunday_105 (l := l) (e := e) (below := below) C hr hlk N mem727 x1 (11 : Int32) (mem727 48 (11 : Int32).toNatClampNeg) (1 : Int32) _ _ _ Z (lv_sub hl [1] rfl) hf
    · replace hf := (if_neg h724).symm.trans hf
      refine lv_aload_n C.1.1 C.1.2.1 dX5_sunday_33 rfl (lv_at hl 0 rfl) ?_
      refine zg_X5_19 C Z dX5_sunday_34 ?_
      refine lv_iload_n C.1.1 C.1.2.1 dX5_sunday_37 rfl (lv_at hl 2 rfl) ?_
      refine lv_iload_n C.1.1 C.1.2.1 dX5_sunday_38 rfl (lv_at hl 1 rfl) ?_
      refine lv_if_eq (tgt := 46) C.1.1 C.1.2.1 dX5_sunday_39 (by decide) (fun h729 => ?_) (fun h729 => ?_)
      · replace hf := (if_pos h729).symm.trans hf
        refine lv_aload_n C.1.1 C.1.2.1 dX5_sunday_46 rfl (lv_at hl 0 rfl) ?_
        refine zg_X5_19 C Z dX5_sunday_47 ?_
        refine lv_iload_n C.1.1 C.1.2.1 dX5_sunday_50 rfl (lv_at hl 2 rfl) ?_
        obtain ⟨hi730, hf⟩ := zgd_some hf
        refine z_iald (k := 48) C Z (by decide) rfl hi730 dX5_sunday_51 ?_
        refine lv_iconst (v := (2 : Int32)) C.1.1 C.1.2.1 dX5_sunday_52 (by decide) ?_
        refine lv_idiv C.1.1 C.1.2.1 dX5_sunday_53 (by decide) ?_
        obtain ⟨hi731, hf⟩ := zgd_some hf
        refine z_iast (k := 48) C Z (by decide) (fun _ => rfl) hi731 dX5_sunday_54 (fun H locs Z => ?_)
        obtain ⟨mem732, hm732, hf⟩ := zlet_some hf
        rw [← hm732] at Z
        refine lv_iinc (v := (x2 + 1)) (lv' := [(2, .int (x2 + 1)), (0, .ref (zr G 44)), (1, .int x1)]) C.1.1 C.1.2.1 dX5_sunday_55 hl (k := 2) rfl rfl (by decide) rfl (fun ls hl => ?_)
        refine lv_goto (tgt := 27) C.1.1 C.1.2.1 dX5_sunday_58 (by decide) ?_
        exact ih mem732 x1 (x2 + 1) _ _ _ Z (lv_sub hl [1, 2, 0] rfl) hf
      · replace hf := (if_neg h729).symm.trans hf
        refine lv_iconst (v := (0 : Int32)) C.1.1 C.1.2.1 dX5_sunday_42 (by decide) ?_
        refine lv_goto (tgt := 54) C.1.1 C.1.2.1 dX5_sunday_43 (by decide) ?_
        obtain ⟨hi733, hf⟩ := zgd_some hf
        refine z_iast (k := 48) C Z (by decide) (fun _ => rfl) hi733 dX5_sunday_54 (fun H locs Z => ?_)
        obtain ⟨mem734, hm734, hf⟩ := zlet_some hf
        rw [← hm734] at Z
        refine lv_iinc (v := (x2 + 1)) (lv' := [(2, .int (x2 + 1)), (0, .ref (zr G 44)), (1, .int x1)]) C.1.1 C.1.2.1 dX5_sunday_55 hl (k := 2) rfl rfl (by decide) rfl (fun ls hl => ?_)
        refine lv_goto (tgt := 27) C.1.1 C.1.2.1 dX5_sunday_58 (by decide) ?_
        exact ih mem734 x1 (x2 + 1) _ _ _ Z (lv_sub hl [1, 2, 0] rfl) hf
set_option maxHeartbeats 4000000 in
set_option maxRecDepth 100000 in
theorem M_X5_sunday (l : Launch) (G : zG) (hG : zOK G) (N : Nat) (mem : zMem) (r : Int32) (mem' : zMem) (hf : f_X5_sunday N mem = some (r, mem')) : zM l G yX5_sunday cX5_sunday 3 (some .int) 5 108 [.ref (zr G 44)] mem (zQi G r mem') := by
  refine zStart hG (by decide +kernel) (Nat.le_of_ble_eq_true rfl) (fun p e s m below meth c C hr hlk ls hl Z => ?_)
  have hl : lv_has ls 3 [(0, .ref (zr G 44))] := hl
  have C : zC (zAd G) G p s m _ c cX5_sunday 3 RX5 := C
  unfold f_X5_sunday at hf
  refine lv_aload_n C.1.1 C.1.2.1 dX5_sunday_0 rfl (lv_at hl 0 rfl) ?_
  refine zg_X5_19 C Z dX5_sunday_1 ?_
  refine lv_bipush (v := (9 : Int32)) C.1.1 C.1.2.1 dX5_sunday_4 (by decide) ?_
  refine z_iald (k := 48) C Z (by decide) rfl (by decide) dX5_sunday_6 ?_
  refine lv_sipush (v := (999 : Int32)) C.1.1 C.1.2.1 dX5_sunday_7 (by decide) ?_
  refine lv_icmp_ne (tgt := 16) C.1.1 C.1.2.1 dX5_sunday_10 (by decide) (fun h735 => ?_) (fun h735 => ?_)
  · replace hf := (if_neg h735).symm.trans hf
    refine lv_aload_n C.1.1 C.1.2.1 dX5_sunday_16 rfl (lv_at hl 0 rfl) ?_
    obtain ⟨r736, mem736, hc736, hf⟩ := zb_some hf
    refine z_callVv (k := 44) (As := []) (rest := []) C Z (M_X5_keeps l G C.2.1 N mem r736 mem736 hc736) (zcw_X5_135 C.1.2.2.2.2 ⟨Nat.le_of_ble_eq_true rfl, Nat.le_of_ble_eq_true rfl⟩) (by decide) rfl rfl rfl hl.1 rfl (Nat.le_of_ble_eq_true rfl) ⟨Nat.le_refl 0, Nat.le_refl 0⟩ dX5_sunday_17 (fun H locs Z => ?_)
    refine lv_aload_n C.1.1 C.1.2.1 dX5_sunday_20 rfl (lv_at hl 0 rfl) ?_
    obtain ⟨r737, mem737, hc737, hf⟩ := zb_some hf
    refine z_callVi (k := 44) (As := []) (rest := []) C Z (M_X5_isLevel l G C.2.1 N mem736 r737 mem737 hc737) (zcw_X5_132 C.1.2.2.2.2 ⟨Nat.le_of_ble_eq_true rfl, Nat.le_of_ble_eq_true rfl⟩) (by decide) rfl rfl rfl hl.1 rfl (Nat.le_of_ble_eq_true rfl) ⟨Nat.le_refl 0, Nat.le_refl 0⟩ dX5_sunday_21 (fun H locs Z => ?_)
    refine lv_istore_n (lv' := [(1, .int r737), (0, .ref (zr G 44))]) C.1.1 C.1.2.1 dX5_sunday_24 rfl hl (by decide) rfl (fun ls hl => ?_)
    refine lv_iconst (v := (0 : Int32)) C.1.1 C.1.2.1 dX5_sunday_25 (by decide) ?_
    refine lv_istore_n (lv' := [(2, .int (0 : Int32)), (1, .int r737), (0, .ref (zr G 44))]) C.1.1 C.1.2.1 dX5_sunday_26 rfl hl (by decide) rfl (fun ls hl => ?_)
    exact K_X5_sunday_27 (l := l) (e := e) (below := below) C hr hlk N N mem737 r737 (0 : Int32) _ _ _ Z (lv_sub hl [2, 1, 0] rfl) hf
  · replace hf := (if_pos h735).symm.trans hf
    refine lv_bipush (v := (-5 : Int32)) C.1.1 C.1.2.1 dX5_sunday_13 (by decide) ?_
    cases hf
    exact z_iret C Z hr hlk dX5_sunday_15
