set_option maxHeartbeats 4000000 in
set_option maxRecDepth 100000 in
theorem K_X5_undo_22 {p : Program} {l : Launch} {e : Env} {s : State} {m : MethodId} {args : Array Value} {below : List Frame} {meth : Method} {c : Code} {G : zG} (C : zC (zAd G) G p s m args c cX5_undo 2 RX5) (hr : meth.sig.returnType = (some .int)) (hlk : meth.locks = false) {r : Int32} {mem' : zMem} (N : Nat) : ∀ (n : Nat) (mem : zMem) (x1 : Int32) (H : Heap) (locs : List Loc) (ls : Array Slot), zH (zAd G) G s mem H locs → lv_has ls 2 [(0, .ref (zr G 44)), (1, .int x1)] → f_X5_undo_22 N n mem x1 = some (r, mem') → W p l e ({ frames := 0, cells := 0, slots := 0, locals := 0 } : Room) s m args below meth c H locs 0 0 (MQ below (zQi G r mem') args s 0 0 (zAd G)) (F0 m 22 ls []) := by
  intro n
  induction n with
  | zero =>
    intro mem x1 H locs ls Z hl hf
    rw [f_X5_undo_22.eq_1] at hf
    cases hf
  | succ n ih =>
    intro mem x1 H locs ls Z hl hf
    rw [f_X5_undo_22.eq_2] at hf
    refine lv_iload_n C.1.1 C.1.2.1 dX5_undo_22 rfl (lv_at hl 1 rfl) ?_
    refine lv_bipush (v := (12 : Int32)) C.1.1 C.1.2.1 dX5_undo_23 (by decide) ?_
    refine lv_icmp_ge (tgt := 54) C.1.1 C.1.2.1 dX5_undo_25 (by decide) (fun h738 => ?_) (fun h738 => ?_)
    · replace hf := (if_pos h738).symm.trans hf
      refine lv_aload_n C.1.1 C.1.2.1 dX5_undo_54 rfl (lv_at hl 0 rfl) ?_
      refine zg_X5_95 C Z dX5_undo_55 ?_
      cases hf
      exact z_iret C Z hr hlk dX5_undo_58
    · replace hf := (if_neg h738).symm.trans hf
      refine lv_aload_n C.1.1 C.1.2.1 dX5_undo_28 rfl (lv_at hl 0 rfl) ?_
      refine zg_X5_19 C Z dX5_undo_29 ?_
      refine lv_iload_n C.1.1 C.1.2.1 dX5_undo_32 rfl (lv_at hl 1 rfl) ?_
      refine lv_aload_n C.1.1 C.1.2.1 dX5_undo_33 rfl (lv_at hl 0 rfl) ?_
      refine zg_X5_22 C Z dX5_undo_34 ?_
      refine lv_bipush (v := (12 : Int32)) C.1.1 C.1.2.1 dX5_undo_37 (by decide) ?_
      refine lv_aload_n C.1.1 C.1.2.1 dX5_undo_39 rfl (lv_at hl 0 rfl) ?_
      refine zg_X5_95 C Z dX5_undo_40 ?_
      refine lv_imul C.1.1 C.1.2.1 dX5_undo_43 ?_
      refine lv_iload_n C.1.1 C.1.2.1 dX5_undo_44 rfl (lv_at hl 1 rfl) ?_
      refine lv_iadd C.1.1 C.1.2.1 dX5_undo_45 ?_
      obtain ⟨hi739, hf⟩ := zgd_some hf
      refine z_iald (k := 49) C Z (by decide) rfl hi739 dX5_undo_46 ?_
      obtain ⟨hi740, hf⟩ := zgd_some hf
      refine z_iast (k := 48) C Z (by decide) (fun _ => rfl) hi740 dX5_undo_47 (fun H locs Z => ?_)
      obtain ⟨mem741, hm741, hf⟩ := zlet_some hf
      rw [← hm741] at Z
      refine lv_iinc (v := (x1 + 1)) (lv' := [(1, .int (x1 + 1)), (0, .ref (zr G 44))]) C.1.1 C.1.2.1 dX5_undo_48 hl (k := 1) rfl rfl (by decide) rfl (fun ls hl => ?_)
      refine lv_goto (tgt := 22) C.1.1 C.1.2.1 dX5_undo_51 (by decide) ?_
      exact ih mem741 (x1 + 1) _ _ _ Z (lv_sub hl [1, 0] rfl) hf
set_option maxHeartbeats 4000000 in
set_option maxRecDepth 100000 in
theorem M_X5_undo (l : Launch) (G : zG) (hG : zOK G) (N : Nat) (mem : zMem) (r : Int32) (mem' : zMem) (hf : f_X5_undo N mem = some (r, mem')) : zM l G yX5_undo cX5_undo 2 (some .int) 0 0 [.ref (zr G 44)] mem (zQi G r mem') := by
  refine zStart hG (by decide +kernel) (Nat.le_of_ble_eq_true rfl) (fun p e s m below meth c C hr hlk ls hl Z => ?_)
  have hl : lv_has ls 2 [(0, .ref (zr G 44))] := hl
  have C : zC (zAd G) G p s m _ c cX5_undo 2 RX5 := C
  unfold f_X5_undo at hf
  refine lv_aload_n C.1.1 C.1.2.1 dX5_undo_0 rfl (lv_at hl 0 rfl) ?_
  refine zg_X5_95 C Z dX5_undo_1 ?_
  refine lv_if_ne (tgt := 10) C.1.1 C.1.2.1 dX5_undo_4 (by decide) (fun h742 => ?_) (fun h742 => ?_)
  · replace hf := (if_neg h742).symm.trans hf
    refine lv_aload_n C.1.1 C.1.2.1 dX5_undo_10 rfl (lv_at hl 0 rfl) ?_
    refine lv_dup C.1.1 C.1.2.1 dX5_undo_11 rfl ?_
    refine zg_X5_95 C Z dX5_undo_12 ?_
    refine lv_iconst (v := (1 : Int32)) C.1.1 C.1.2.1 dX5_undo_15 (by decide) ?_
    refine lv_isub C.1.1 C.1.2.1 dX5_undo_16 ?_
    refine zp_X5_95 C Z dX5_undo_17 (fun H locs Z => ?_)
    obtain ⟨mem743, hm743, hf⟩ := zlet_some hf
    rw [← hm743] at Z
    refine lv_iconst (v := (0 : Int32)) C.1.1 C.1.2.1 dX5_undo_20 (by decide) ?_
    refine lv_istore_n (lv' := [(1, .int (0 : Int32)), (0, .ref (zr G 44))]) C.1.1 C.1.2.1 dX5_undo_21 rfl hl (by decide) rfl (fun ls hl => ?_)
    exact K_X5_undo_22 (l := l) (e := e) (below := below) C hr hlk N N mem743 (0 : Int32) _ _ _ Z (lv_sub hl [1, 0] rfl) hf
  · replace hf := (if_pos h742).symm.trans hf
    refine lv_bipush (v := (-4 : Int32)) C.1.1 C.1.2.1 dX5_undo_7 (by decide) ?_
    cases hf
    exact z_iret C Z hr hlk dX5_undo_9
set_option maxHeartbeats 4000000 in
set_option maxRecDepth 100000 in
theorem K_X5_keep_14 {p : Program} {l : Launch} {e : Env} {s : State} {m : MethodId} {args : Array Value} {below : List Frame} {meth : Method} {c : Code} {G : zG} (C : zC (zAd G) G p s m args c cX5_keep 3 RX5) (hr : meth.sig.returnType = (some .int)) (hlk : meth.locks = false) {r : Int32} {mem' : zMem} (N : Nat) : ∀ (n : Nat) (mem : zMem) (x1 : Int32) (x2 : Int32) (H : Heap) (locs : List Loc) (ls : Array Slot), zH (zAd G) G s mem H locs → lv_has ls 3 [(0, .ref (zr G 44)), (1, .int x1), (2, .int x2)] → f_X5_keep_14 N n mem x1 x2 = some (r, mem') → W p l e ({ frames := 1, cells := 0, slots := 0, locals := 22 } : Room) s m args below meth c H locs 0 0 (MQ below (zQi G r mem') args s 0 0 (zAd G)) (F0 m 14 ls []) := by
  intro n
  induction n with
  | zero =>
    intro mem x1 x2 H locs ls Z hl hf
    rw [f_X5_keep_14.eq_1] at hf
    cases hf
  | succ n ih =>
    intro mem x1 x2 H locs ls Z hl hf
    rw [f_X5_keep_14.eq_2] at hf
    refine lv_iload_n C.1.1 C.1.2.1 dX5_keep_14 rfl (lv_at hl 2 rfl) ?_
    refine lv_bipush (v := (12 : Int32)) C.1.1 C.1.2.1 dX5_keep_15 (by decide) ?_
    refine lv_icmp_ge (tgt := 43) C.1.1 C.1.2.1 dX5_keep_17 (by decide) (fun h744 => ?_) (fun h744 => ?_)
    · replace hf := (if_pos h744).symm.trans hf
      refine lv_aload_n C.1.1 C.1.2.1 dX5_keep_43 rfl (lv_at hl 0 rfl) ?_
      refine zg_X5_28 C Z dX5_keep_44 ?_
      refine lv_iload_n C.1.1 C.1.2.1 dX5_keep_47 rfl (lv_at hl 1 rfl) ?_
      refine lv_iconst (v := (1 : Int32)) C.1.1 C.1.2.1 dX5_keep_48 (by decide) ?_
      obtain ⟨hi745, hf⟩ := zgd_some hf
      refine z_bast (k := 51) C Z (by decide) (fun _ => rfl) hi745 dX5_keep_49 (fun H locs Z => ?_)
      obtain ⟨mem746, hm746, hf⟩ := zlet_some hf
      rw [← hm746] at Z
      refine lv_aload_n C.1.1 C.1.2.1 dX5_keep_50 rfl (lv_at hl 0 rfl) ?_
      refine zg_X5_19 C Z dX5_keep_51 ?_
      refine lv_bipush (v := (9 : Int32)) C.1.1 C.1.2.1 dX5_keep_54 (by decide) ?_
      refine z_iald (k := 48) C Z (by decide) rfl (by decide) dX5_keep_56 ?_
      cases hf
      exact z_iret C Z hr hlk dX5_keep_57
    · replace hf := (if_neg h744).symm.trans hf
      refine lv_aload_n C.1.1 C.1.2.1 dX5_keep_20 rfl (lv_at hl 0 rfl) ?_
      refine zg_X5_25 C Z dX5_keep_21 ?_
      refine lv_bipush (v := (12 : Int32)) C.1.1 C.1.2.1 dX5_keep_24 (by decide) ?_
      refine lv_iload_n C.1.1 C.1.2.1 dX5_keep_26 rfl (lv_at hl 1 rfl) ?_
      refine lv_imul C.1.1 C.1.2.1 dX5_keep_27 ?_
      refine lv_iload_n C.1.1 C.1.2.1 dX5_keep_28 rfl (lv_at hl 2 rfl) ?_
      refine lv_iadd C.1.1 C.1.2.1 dX5_keep_29 ?_
      refine lv_aload_n C.1.1 C.1.2.1 dX5_keep_30 rfl (lv_at hl 0 rfl) ?_
      refine zg_X5_19 C Z dX5_keep_31 ?_
      refine lv_iload_n C.1.1 C.1.2.1 dX5_keep_34 rfl (lv_at hl 2 rfl) ?_
      obtain ⟨hi747, hf⟩ := zgd_some hf
      refine z_iald (k := 48) C Z (by decide) rfl hi747 dX5_keep_35 ?_
      obtain ⟨hi748, hf⟩ := zgd_some hf
      refine z_iast (k := 50) C Z (by decide) (fun _ => rfl) hi748 dX5_keep_36 (fun H locs Z => ?_)
      obtain ⟨mem749, hm749, hf⟩ := zlet_some hf
      rw [← hm749] at Z
      refine lv_iinc (v := (x2 + 1)) (lv' := [(2, .int (x2 + 1)), (0, .ref (zr G 44)), (1, .int x1)]) C.1.1 C.1.2.1 dX5_keep_37 hl (k := 2) rfl rfl (by decide) rfl (fun ls hl => ?_)
      refine lv_goto (tgt := 14) C.1.1 C.1.2.1 dX5_keep_40 (by decide) ?_
      exact ih mem749 x1 (x2 + 1) _ _ _ Z (lv_sub hl [1, 2, 0] rfl) hf
set_option maxHeartbeats 4000000 in
set_option maxRecDepth 100000 in
theorem M_X5_keep (l : Launch) (G : zG) (hG : zOK G) (N : Nat) (mem : zMem) (a1 : Int32) (r : Int32) (mem' : zMem) (hf : f_X5_keep N mem a1 = some (r, mem')) : zM l G yX5_keep cX5_keep 3 (some .int) 1 22 [.ref (zr G 44), .int a1] mem (zQi G r mem') := by
  refine zStart hG (by decide +kernel) (Nat.le_of_ble_eq_true rfl) (fun p e s m below meth c C hr hlk ls hl Z => ?_)
  have hl : lv_has ls 3 [(0, .ref (zr G 44)), (1, .int a1)] := hl
  have C : zC (zAd G) G p s m _ c cX5_keep 3 RX5 := C
  unfold f_X5_keep at hf
  refine lv_iload_n C.1.1 C.1.2.1 dX5_keep_0 rfl (lv_at hl 1 rfl) ?_
  refine lv_iconst (v := (0 : Int32)) C.1.1 C.1.2.1 dX5_keep_1 (by decide) ?_
  refine lv_iconst (v := (1 : Int32)) C.1.1 C.1.2.1 dX5_keep_2 (by decide) ?_
  obtain ⟨r750, mem750, hc750, hf⟩ := zb_some hf
  refine z_callSi (As := [.int a1, .int (0 : Int32), .int (1 : Int32)]) (rest := []) C Z (M_X5_in l G C.2.1 N mem a1 (0 : Int32) (1 : Int32) r750 mem750 hc750) (zcw_X5_44 C.1.2.2.2.2 ⟨Nat.le_of_ble_eq_true rfl, Nat.le_of_ble_eq_true rfl⟩) rfl hl.1 rfl (Nat.le_of_ble_eq_true rfl) ⟨Nat.le_refl 0, Nat.le_refl 0⟩ dX5_keep_3 (fun H locs Z => ?_)
  refine lv_if_ne (tgt := 12) C.1.1 C.1.2.1 dX5_keep_6 (by decide) (fun h751 => ?_) (fun h751 => ?_)
  · replace hf := (if_neg h751).symm.trans hf
    refine lv_iconst (v := (0 : Int32)) C.1.1 C.1.2.1 dX5_keep_12 (by decide) ?_
    refine lv_istore_n (lv' := [(2, .int (0 : Int32)), (0, .ref (zr G 44)), (1, .int a1)]) C.1.1 C.1.2.1 dX5_keep_13 rfl hl (by decide) rfl (fun ls hl => ?_)
    exact K_X5_keep_14 (l := l) (e := e) (below := below) C hr hlk N N mem750 a1 (0 : Int32) _ _ _ Z (lv_sub hl [1, 2, 0] rfl) hf
  · replace hf := (if_pos h751).symm.trans hf
    refine lv_bipush (v := (-2 : Int32)) C.1.1 C.1.2.1 dX5_keep_9 (by decide) ?_
    cases hf
    exact z_iret C Z hr hlk dX5_keep_11
set_option maxHeartbeats 4000000 in
set_option maxRecDepth 100000 in
theorem K_X5_back_26 {p : Program} {l : Launch} {e : Env} {s : State} {m : MethodId} {args : Array Value} {below : List Frame} {meth : Method} {c : Code} {G : zG} (C : zC (zAd G) G p s m args c cX5_back 3 RX5) (hr : meth.sig.returnType = (some .int)) (hlk : meth.locks = false) {r : Int32} {mem' : zMem} (N : Nat) : ∀ (n : Nat) (mem : zMem) (x1 : Int32) (x2 : Int32) (H : Heap) (locs : List Loc) (ls : Array Slot), zH (zAd G) G s mem H locs → lv_has ls 3 [(0, .ref (zr G 44)), (1, .int x1), (2, .int x2)] → f_X5_back_26 N n mem x1 x2 = some (r, mem') → W p l e ({ frames := 1, cells := 0, slots := 0, locals := 22 } : Room) s m args below meth c H locs 0 0 (MQ below (zQi G r mem') args s 0 0 (zAd G)) (F0 m 26 ls []) := by
  intro n
  induction n with
  | zero =>
    intro mem x1 x2 H locs ls Z hl hf
    rw [f_X5_back_26.eq_1] at hf
    cases hf
  | succ n ih =>
    intro mem x1 x2 H locs ls Z hl hf
    rw [f_X5_back_26.eq_2] at hf
    refine lv_iload_n C.1.1 C.1.2.1 dX5_back_26 rfl (lv_at hl 2 rfl) ?_
    refine lv_bipush (v := (12 : Int32)) C.1.1 C.1.2.1 dX5_back_27 (by decide) ?_
    refine lv_icmp_ge (tgt := 55) C.1.1 C.1.2.1 dX5_back_29 (by decide) (fun h752 => ?_) (fun h752 => ?_)
    · replace hf := (if_pos h752).symm.trans hf
      refine lv_aload_n C.1.1 C.1.2.1 dX5_back_55 rfl (lv_at hl 0 rfl) ?_
      refine lv_iconst (v := (0 : Int32)) C.1.1 C.1.2.1 dX5_back_56 (by decide) ?_
      refine zp_X5_95 C Z dX5_back_57 (fun H locs Z => ?_)
      obtain ⟨mem753, hm753, hf⟩ := zlet_some hf
      rw [← hm753] at Z
      refine lv_aload_n C.1.1 C.1.2.1 dX5_back_60 rfl (lv_at hl 0 rfl) ?_
      refine zg_X5_19 C Z dX5_back_61 ?_
      refine lv_bipush (v := (9 : Int32)) C.1.1 C.1.2.1 dX5_back_64 (by decide) ?_
      refine z_iald (k := 48) C Z (by decide) rfl (by decide) dX5_back_66 ?_
      cases hf
      exact z_iret C Z hr hlk dX5_back_67
    · replace hf := (if_neg h752).symm.trans hf
      refine lv_aload_n C.1.1 C.1.2.1 dX5_back_32 rfl (lv_at hl 0 rfl) ?_
      refine zg_X5_19 C Z dX5_back_33 ?_
      refine lv_iload_n C.1.1 C.1.2.1 dX5_back_36 rfl (lv_at hl 2 rfl) ?_
      refine lv_aload_n C.1.1 C.1.2.1 dX5_back_37 rfl (lv_at hl 0 rfl) ?_
      refine zg_X5_25 C Z dX5_back_38 ?_
      refine lv_bipush (v := (12 : Int32)) C.1.1 C.1.2.1 dX5_back_41 (by decide) ?_
      refine lv_iload_n C.1.1 C.1.2.1 dX5_back_43 rfl (lv_at hl 1 rfl) ?_
      refine lv_imul C.1.1 C.1.2.1 dX5_back_44 ?_
      refine lv_iload_n C.1.1 C.1.2.1 dX5_back_45 rfl (lv_at hl 2 rfl) ?_
      refine lv_iadd C.1.1 C.1.2.1 dX5_back_46 ?_
      obtain ⟨hi754, hf⟩ := zgd_some hf
      refine z_iald (k := 50) C Z (by decide) rfl hi754 dX5_back_47 ?_
      obtain ⟨hi755, hf⟩ := zgd_some hf
      refine z_iast (k := 48) C Z (by decide) (fun _ => rfl) hi755 dX5_back_48 (fun H locs Z => ?_)
      obtain ⟨mem756, hm756, hf⟩ := zlet_some hf
      rw [← hm756] at Z
      refine lv_iinc (v := (x2 + 1)) (lv' := [(2, .int (x2 + 1)), (0, .ref (zr G 44)), (1, .int x1)]) C.1.1 C.1.2.1 dX5_back_49 hl (k := 2) rfl rfl (by decide) rfl (fun ls hl => ?_)
      refine lv_goto (tgt := 26) C.1.1 C.1.2.1 dX5_back_52 (by decide) ?_
      exact ih mem756 x1 (x2 + 1) _ _ _ Z (lv_sub hl [1, 2, 0] rfl) hf
set_option maxHeartbeats 4000000 in
set_option maxRecDepth 100000 in
theorem M_X5_back (l : Launch) (G : zG) (hG : zOK G) (N : Nat) (mem : zMem) (a1 : Int32) (r : Int32) (mem' : zMem) (hf : f_X5_back N mem a1 = some (r, mem')) : zM l G yX5_back cX5_back 3 (some .int) 1 22 [.ref (zr G 44), .int a1] mem (zQi G r mem') := by
  refine zStart hG (by decide +kernel) (Nat.le_of_ble_eq_true rfl) (fun p e s m below meth c C hr hlk ls hl Z => ?_)
  have hl : lv_has ls 3 [(0, .ref (zr G 44)), (1, .int a1)] := hl
  have C : zC (zAd G) G p s m _ c cX5_back 3 RX5 := C
  unfold f_X5_back at hf
  refine lv_iload_n C.1.1 C.1.2.1 dX5_back_0 rfl (lv_at hl 1 rfl) ?_
  refine lv_iconst (v := (0 : Int32)) C.1.1 C.1.2.1 dX5_back_1 (by decide) ?_
  refine lv_iconst (v := (1 : Int32)) C.1.1 C.1.2.1 dX5_back_2 (by decide) ?_
  obtain ⟨r757, mem757, hc757, hf⟩ := zb_some hf
  refine z_callSi (As := [.int a1, .int (0 : Int32), .int (1 : Int32)]) (rest := []) C Z (M_X5_in l G C.2.1 N mem a1 (0 : Int32) (1 : Int32) r757 mem757 hc757) (zcw_X5_44 C.1.2.2.2.2 ⟨Nat.le_of_ble_eq_true rfl, Nat.le_of_ble_eq_true rfl⟩) rfl hl.1 rfl (Nat.le_of_ble_eq_true rfl) ⟨Nat.le_refl 0, Nat.le_refl 0⟩ dX5_back_3 (fun H locs Z => ?_)
  refine lv_if_ne (tgt := 12) C.1.1 C.1.2.1 dX5_back_6 (by decide) (fun h758 => ?_) (fun h758 => ?_)
  · replace hf := (if_neg h758).symm.trans hf
    refine lv_aload_n C.1.1 C.1.2.1 dX5_back_12 rfl (lv_at hl 0 rfl) ?_
    refine zg_X5_28 C Z dX5_back_13 ?_
    refine lv_iload_n C.1.1 C.1.2.1 dX5_back_16 rfl (lv_at hl 1 rfl) ?_
    obtain ⟨hi759, hf⟩ := zgd_some hf
    refine z_bald (k := 51) C Z (by decide) rfl hi759 dX5_back_17 ?_
    refine lv_if_ne (tgt := 24) C.1.1 C.1.2.1 dX5_back_18 (by decide) (fun h760 => ?_) (fun h760 => ?_)
    · replace hf := (if_neg h760).symm.trans hf
      refine lv_iconst (v := (0 : Int32)) C.1.1 C.1.2.1 dX5_back_24 (by decide) ?_
      refine lv_istore_n (lv' := [(2, .int (0 : Int32)), (0, .ref (zr G 44)), (1, .int a1)]) C.1.1 C.1.2.1 dX5_back_25 rfl hl (by decide) rfl (fun ls hl => ?_)
      exact K_X5_back_26 (l := l) (e := e) (below := below) C hr hlk N N mem757 a1 (0 : Int32) _ _ _ Z (lv_sub hl [1, 2, 0] rfl) hf
    · replace hf := (if_pos h760).symm.trans hf
      refine lv_bipush (v := (-4 : Int32)) C.1.1 C.1.2.1 dX5_back_21 (by decide) ?_
      cases hf
      exact z_iret C Z hr hlk dX5_back_23
  · replace hf := (if_pos h758).symm.trans hf
    refine lv_bipush (v := (-2 : Int32)) C.1.1 C.1.2.1 dX5_back_9 (by decide) ?_
    cases hf
    exact z_iret C Z hr hlk dX5_back_11
set_option maxHeartbeats 4000000 in
set_option maxRecDepth 100000 in
theorem K_X5_stops_9 {p : Program} {l : Launch} {e : Env} {s : State} {m : MethodId} {args : Array Value} {below : List Frame} {meth : Method} {c : Code} {G : zG} (C : zC (zAd G) G p s m args c cX5_stops 4 RX5) (hr : meth.sig.returnType = (some .int)) (hlk : meth.locks = false) {r : Int32} {mem' : zMem} (N : Nat) : ∀ (n : Nat) (mem : zMem) (x1 : Int32) (x2 : Int32) (x3 : Int32) (H : Heap) (locs : List Loc) (ls : Array Slot), zH (zAd G) G s mem H locs → lv_has ls 4 [(0, .ref (zr G 44)), (1, .int x1), (2, .int x2), (3, .int x3)] → f_X5_stops_9 N n mem x1 x2 x3 = some (r, mem') → W p l e ({ frames := 4, cells := 0, slots := 0, locals := 88 } : Room) s m args below meth c H locs 0 0 (MQ below (zQi G r mem') args s 0 0 (zAd G)) (F0 m 9 ls []) := by
  intro n
  induction n with
  | zero =>
    intro mem x1 x2 x3 H locs ls Z hl hf
    rw [f_X5_stops_9.eq_1] at hf
    cases hf
  | succ n ih =>
    intro mem x1 x2 x3 H locs ls Z hl hf
    rw [f_X5_stops_9.eq_2] at hf
    refine lv_iload_n C.1.1 C.1.2.1 dX5_stops_9 rfl (lv_at hl 3 rfl) ?_
    refine lv_aload_n C.1.1 C.1.2.1 dX5_stops_10 rfl (lv_at hl 0 rfl) ?_
    refine zg_X5_13 C Z dX5_stops_11 ?_
    refine lv_iconst (v := (0 : Int32)) C.1.1 C.1.2.1 dX5_stops_14 (by decide) ?_
    refine z_iald (k := 46) C Z (by decide) rfl (by decide) dX5_stops_15 ?_
    refine lv_icmp_ge (tgt := 71) C.1.1 C.1.2.1 dX5_stops_16 (by decide) (fun h761 => ?_) (fun h761 => ?_)
    · replace hf := (if_pos h761).symm.trans hf
      refine lv_aload_n C.1.1 C.1.2.1 dX5_stops_71 rfl (lv_at hl 0 rfl) ?_
      refine lv_iload_n C.1.1 C.1.2.1 dX5_stops_72 rfl (lv_at hl 1 rfl) ?_
      refine lv_aload_n C.1.1 C.1.2.1 dX5_stops_73 rfl (lv_at hl 0 rfl) ?_
      obtain ⟨r762, mem762, hc762, hf⟩ := zb_some hf
      refine z_callVi (k := 44) (As := []) (rest := [.int x1, .ref (zr G 44)]) C Z (M_X5_lead l G C.2.1 N mem r762 mem762 hc762) (zcw_X5_122 C.1.2.2.2.2 ⟨Nat.le_of_ble_eq_true rfl, Nat.le_of_ble_eq_true rfl⟩) (by decide) rfl rfl rfl hl.1 rfl (Nat.le_of_ble_eq_true rfl) ⟨Nat.le_refl 0, Nat.le_refl 0⟩ dX5_stops_74 (fun H locs Z => ?_)
      obtain ⟨r763, mem763, hc763, hf⟩ := zb_some hf
      refine z_callVi (k := 44) (As := [.int x1, .int r762]) (rest := []) C Z (M_X5_hangs l G C.2.1 N mem762 x1 r762 r763 mem763 hc763) (zcw_X5_125 C.1.2.2.2.2 ⟨Nat.le_of_ble_eq_true rfl, Nat.le_of_ble_eq_true rfl⟩) (by decide) rfl rfl rfl hl.1 rfl (Nat.le_of_ble_eq_true rfl) ⟨Nat.le_refl 0, Nat.le_refl 0⟩ dX5_stops_77 (fun H locs Z => ?_)
      refine lv_if_eq (tgt := 87) C.1.1 C.1.2.1 dX5_stops_80 (by decide) (fun h764 => ?_) (fun h764 => ?_)
      · replace hf := (if_pos h764).symm.trans hf
        refine lv_iconst (v := (-1 : Int32)) C.1.1 C.1.2.1 dX5_stops_87 (by decide) ?_
        cases hf
        exact z_iret C Z hr hlk dX5_stops_88
      · replace hf := (if_neg h764).symm.trans hf
        refine lv_iload_n C.1.1 C.1.2.1 dX5_stops_83 rfl (lv_at hl 2 rfl) ?_
        refine lv_goto (tgt := 88) C.1.1 C.1.2.1 dX5_stops_84 (by decide) ?_
        cases hf
        exact z_iret C Z hr hlk dX5_stops_88
    · replace hf := (if_neg h761).symm.trans hf
      refine lv_aload_n C.1.1 C.1.2.1 dX5_stops_19 rfl (lv_at hl 0 rfl) ?_
      refine lv_iload_n C.1.1 C.1.2.1 dX5_stops_20 rfl (lv_at hl 1 rfl) ?_
      refine lv_aload_n C.1.1 C.1.2.1 dX5_stops_21 rfl (lv_at hl 0 rfl) ?_
      obtain ⟨r765, mem765, hc765, hf⟩ := zb_some hf
      refine z_callVi (k := 44) (As := []) (rest := [.int x1, .ref (zr G 44)]) C Z (M_X5_lead l G C.2.1 N mem r765 mem765 hc765) (zcw_X5_122 C.1.2.2.2.2 ⟨Nat.le_of_ble_eq_true rfl, Nat.le_of_ble_eq_true rfl⟩) (by decide) rfl rfl rfl hl.1 rfl (Nat.le_of_ble_eq_true rfl) ⟨Nat.le_refl 0, Nat.le_refl 0⟩ dX5_stops_22 (fun H locs Z => ?_)
      obtain ⟨r766, mem766, hc766, hf⟩ := zb_some hf
      refine z_callVi (k := 44) (As := [.int x1, .int r765]) (rest := []) C Z (M_X5_hangs l G C.2.1 N mem765 x1 r765 r766 mem766 hc766) (zcw_X5_125 C.1.2.2.2.2 ⟨Nat.le_of_ble_eq_true rfl, Nat.le_of_ble_eq_true rfl⟩) (by decide) rfl rfl rfl hl.1 rfl (Nat.le_of_ble_eq_true rfl) ⟨Nat.le_refl 0, Nat.le_refl 0⟩ dX5_stops_25 (fun H locs Z => ?_)
      refine lv_if_eq (tgt := 33) C.1.1 C.1.2.1 dX5_stops_28 (by decide) (fun h767 => ?_) (fun h767 => ?_)
      · replace hf := (if_pos h767).symm.trans hf
        refine lv_aload_n C.1.1 C.1.2.1 dX5_stops_33 rfl (lv_at hl 0 rfl) ?_
        refine zg_X5_19 C Z dX5_stops_34 ?_
        refine lv_bipush (v := (7 : Int32)) C.1.1 C.1.2.1 dX5_stops_37 (by decide) ?_
        refine z_iald (k := 48) C Z (by decide) rfl (by decide) dX5_stops_39 ?_
        refine lv_iload_n C.1.1 C.1.2.1 dX5_stops_40 rfl (lv_at hl 3 rfl) ?_
        refine lv_ishr C.1.1 C.1.2.1 dX5_stops_41 ?_
        refine lv_iconst (v := (1 : Int32)) C.1.1 C.1.2.1 dX5_stops_42 (by decide) ?_
        refine lv_iand C.1.1 C.1.2.1 dX5_stops_43 ?_
        refine lv_if_ne (tgt := 65) C.1.1 C.1.2.1 dX5_stops_44 (by decide) (fun h768 => ?_) (fun h768 => ?_)
        · replace hf := (if_neg h768).symm.trans hf
          refine lv_iinc (v := (x3 + 1)) (lv' := [(3, .int (x3 + 1)), (0, .ref (zr G 44)), (1, .int x1), (2, .int x2)]) C.1.1 C.1.2.1 dX5_stops_65 hl (k := 3) rfl rfl (by decide) rfl (fun ls hl => ?_)
          refine lv_goto (tgt := 9) C.1.1 C.1.2.1 dX5_stops_68 (by decide) ?_
          exact ih mem766 x1 x2 (x3 + 1) _ _ _ Z (lv_sub hl [1, 2, 3, 0] rfl) hf
        · replace hf := (if_pos h768).symm.trans hf
          refine lv_iload_n C.1.1 C.1.2.1 dX5_stops_47 rfl (lv_at hl 1 rfl) ?_
          refine lv_aload_n C.1.1 C.1.2.1 dX5_stops_48 rfl (lv_at hl 0 rfl) ?_
          refine lv_iload_n C.1.1 C.1.2.1 dX5_stops_49 rfl (lv_at hl 3 rfl) ?_
          refine lv_aload_n C.1.1 C.1.2.1 dX5_stops_50 rfl (lv_at hl 0 rfl) ?_
          refine zg_X5_19 C Z dX5_stops_51 ?_
          refine lv_bipush (v := (6 : Int32)) C.1.1 C.1.2.1 dX5_stops_54 (by decide) ?_
          refine z_iald (k := 48) C Z (by decide) rfl (by decide) dX5_stops_56 ?_
          obtain ⟨r769, mem769, hc769, hf⟩ := zb_some hf
          refine z_callVi (k := 44) (As := [.int x3, .int (mem766 48 (6 : Int32).toNatClampNeg)]) (rest := [.int x1]) C Z (M_X5_ounces l G C.2.1 N mem766 x3 (mem766 48 (6 : Int32).toNatClampNeg) r769 mem769 hc769) (zcw_X5_112 C.1.2.2.2.2 ⟨Nat.le_of_ble_eq_true rfl, Nat.le_of_ble_eq_true rfl⟩) (by decide) rfl rfl rfl hl.1 rfl (Nat.le_of_ble_eq_true rfl) ⟨Nat.le_refl 0, Nat.le_refl 0⟩ dX5_stops_57 (fun H locs Z => ?_)
          refine lv_iadd C.1.1 C.1.2.1 dX5_stops_60 ?_
          refine lv_istore_n (lv' := [(1, .int (x1 + r769)), (0, .ref (zr G 44)), (2, .int x2), (3, .int x3)]) C.1.1 C.1.2.1 dX5_stops_61 rfl hl (by decide) rfl (fun ls hl => ?_)
          refine lv_iinc (v := (x2 + 1)) (lv' := [(2, .int (x2 + 1)), (1, .int (x1 + r769)), (0, .ref (zr G 44)), (3, .int x3)]) C.1.1 C.1.2.1 dX5_stops_62 hl (k := 2) rfl rfl (by decide) rfl (fun ls hl => ?_)
          refine lv_iinc (v := (x3 + 1)) (lv' := [(3, .int (x3 + 1)), (2, .int (x2 + 1)), (1, .int (x1 + r769)), (0, .ref (zr G 44))]) C.1.1 C.1.2.1 dX5_stops_65 hl (k := 3) rfl rfl (by decide) rfl (fun ls hl => ?_)
          refine lv_goto (tgt := 9) C.1.1 C.1.2.1 dX5_stops_68 (by decide) ?_
          exact ih mem769 (x1 + r769) (x2 + 1) (x3 + 1) _ _ _ Z (lv_sub hl [3, 2, 1, 0] rfl) hf
      · replace hf := (if_neg h767).symm.trans hf
        refine lv_iload_n C.1.1 C.1.2.1 dX5_stops_31 rfl (lv_at hl 2 rfl) ?_
        cases hf
        exact z_iret C Z hr hlk dX5_stops_32
set_option maxHeartbeats 4000000 in
set_option maxRecDepth 100000 in
theorem M_X5_stops (l : Launch) (G : zG) (hG : zOK G) (N : Nat) (mem : zMem) (r : Int32) (mem' : zMem) (hf : f_X5_stops N mem = some (r, mem')) : zM l G yX5_stops cX5_stops 4 (some .int) 4 88 [.ref (zr G 44)] mem (zQi G r mem') := by
  refine zStart hG (by decide +kernel) (Nat.le_of_ble_eq_true rfl) (fun p e s m below meth c C hr hlk ls hl Z => ?_)
  have hl : lv_has ls 4 [(0, .ref (zr G 44))] := hl
  have C : zC (zAd G) G p s m _ c cX5_stops 4 RX5 := C
  unfold f_X5_stops at hf
  refine lv_aload_n C.1.1 C.1.2.1 dX5_stops_0 rfl (lv_at hl 0 rfl) ?_
  obtain ⟨r770, mem770, hc770, hf⟩ := zb_some hf
  refine z_callVi (k := 44) (As := []) (rest := []) C Z (M_X5_sermon l G C.2.1 N mem r770 mem770 hc770) (zcw_X5_119 C.1.2.2.2.2 ⟨Nat.le_of_ble_eq_true rfl, Nat.le_of_ble_eq_true rfl⟩) (by decide) rfl rfl rfl hl.1 rfl (Nat.le_of_ble_eq_true rfl) ⟨Nat.le_refl 0, Nat.le_refl 0⟩ dX5_stops_1 (fun H locs Z => ?_)
  refine lv_istore_n (lv' := [(1, .int r770), (0, .ref (zr G 44))]) C.1.1 C.1.2.1 dX5_stops_4 rfl hl (by decide) rfl (fun ls hl => ?_)
  refine lv_iconst (v := (0 : Int32)) C.1.1 C.1.2.1 dX5_stops_5 (by decide) ?_
  refine lv_istore_n (lv' := [(2, .int (0 : Int32)), (1, .int r770), (0, .ref (zr G 44))]) C.1.1 C.1.2.1 dX5_stops_6 rfl hl (by decide) rfl (fun ls hl => ?_)
  refine lv_iconst (v := (0 : Int32)) C.1.1 C.1.2.1 dX5_stops_7 (by decide) ?_
  refine lv_istore_n (lv' := [(3, .int (0 : Int32)), (2, .int (0 : Int32)), (1, .int r770), (0, .ref (zr G 44))]) C.1.1 C.1.2.1 dX5_stops_8 rfl hl (by decide) rfl (fun ls hl => ?_)
  exact K_X5_stops_9 (l := l) (e := e) (below := below) C hr hlk N N mem770 r770 (0 : Int32) (0 : Int32) _ _ _ Z (lv_sub hl [3, 2, 1, 0] rfl) hf
set_option maxHeartbeats 4000000 in
set_option maxRecDepth 100000 in
theorem K_X5_minutesOf_4 {p : Program} {l : Launch} {e : Env} {s : State} {m : MethodId} {args : Array Value} {below : List Frame} {meth : Method} {c : Code} {G : zG} (C : zC (zAd G) G p s m args c cX5_minutesOf 4 RX5) (hr : meth.sig.returnType = (some .int)) (hlk : meth.locks = false) {r : Int32} {mem' : zMem} (N : Nat) : ∀ (n : Nat) (mem : zMem) (x1 : Int32) (x2 : Int32) (x3 : Int32) (H : Heap) (locs : List Loc) (ls : Array Slot), zH (zAd G) G s mem H locs → lv_has ls 4 [(0, .ref (zr G 44)), (1, .int x1), (2, .int x2), (3, .int x3)] → f_X5_minutesOf_4 N n mem x1 x2 x3 = some (r, mem') → W p l e ({ frames := 0, cells := 0, slots := 0, locals := 0 } : Room) s m args below meth c H locs 0 0 (MQ below (zQi G r mem') args s 0 0 (zAd G)) (F0 m 4 ls []) := by
  intro n
  induction n with
  | zero =>
    intro mem x1 x2 x3 H locs ls Z hl hf
    rw [f_X5_minutesOf_4.eq_1] at hf
    cases hf
  | succ n ih =>
    intro mem x1 x2 x3 H locs ls Z hl hf
    rw [f_X5_minutesOf_4.eq_2] at hf
    refine lv_iload_n C.1.1 C.1.2.1 dX5_minutesOf_4 rfl (lv_at hl 3 rfl) ?_
    refine lv_aload_n C.1.1 C.1.2.1 dX5_minutesOf_5 rfl (lv_at hl 0 rfl) ?_
    refine zg_X5_13 C Z dX5_minutesOf_6 ?_
    refine lv_iconst (v := (0 : Int32)) C.1.1 C.1.2.1 dX5_minutesOf_9 (by decide) ?_
    refine z_iald (k := 46) C Z (by decide) rfl (by decide) dX5_minutesOf_10 ?_
    refine lv_icmp_ge (tgt := 45) C.1.1 C.1.2.1 dX5_minutesOf_11 (by decide) (fun h771 => ?_) (fun h771 => ?_)
    · replace hf := (if_pos h771).symm.trans hf
      refine lv_iload_n C.1.1 C.1.2.1 dX5_minutesOf_45 rfl (lv_at hl 2 rfl) ?_
      cases hf
      exact z_iret C Z hr hlk dX5_minutesOf_46
    · replace hf := (if_neg h771).symm.trans hf
      refine lv_iload_n C.1.1 C.1.2.1 dX5_minutesOf_14 rfl (lv_at hl 2 rfl) ?_
      refine lv_iload_n C.1.1 C.1.2.1 dX5_minutesOf_15 rfl (lv_at hl 1 rfl) ?_
      refine lv_iload_n C.1.1 C.1.2.1 dX5_minutesOf_16 rfl (lv_at hl 3 rfl) ?_
      refine lv_ishr C.1.1 C.1.2.1 dX5_minutesOf_17 ?_
      refine lv_iconst (v := (1 : Int32)) C.1.1 C.1.2.1 dX5_minutesOf_18 (by decide) ?_
      refine lv_iand C.1.1 C.1.2.1 dX5_minutesOf_19 ?_
      refine lv_iconst (v := (1 : Int32)) C.1.1 C.1.2.1 dX5_minutesOf_20 (by decide) ?_
      refine lv_icmp_ne (tgt := 36) C.1.1 C.1.2.1 dX5_minutesOf_21 (by decide) (fun h772 => ?_) (fun h772 => ?_)
      · replace hf := (if_neg h772).symm.trans hf
        refine lv_iconst (v := (0 : Int32)) C.1.1 C.1.2.1 dX5_minutesOf_36 (by decide) ?_
        refine lv_iadd C.1.1 C.1.2.1 dX5_minutesOf_37 ?_
        refine lv_istore_n (lv' := [(2, .int (x2 + (0 : Int32))), (0, .ref (zr G 44)), (1, .int x1), (3, .int x3)]) C.1.1 C.1.2.1 dX5_minutesOf_38 rfl hl (by decide) rfl (fun ls hl => ?_)
        refine lv_iinc (v := (x3 + 1)) (lv' := [(3, .int (x3 + 1)), (2, .int (x2 + (0 : Int32))), (0, .ref (zr G 44)), (1, .int x1)]) C.1.1 C.1.2.1 dX5_minutesOf_39 hl (k := 3) rfl rfl (by decide) rfl (fun ls hl => ?_)
        refine lv_goto (tgt := 4) C.1.1 C.1.2.1 dX5_minutesOf_42 (by decide) ?_
        exact ih mem x1 (x2 + (0 : Int32)) (x3 + 1) _ _ _ Z (lv_sub hl [2, 3, 1, 0] rfl) hf
      · replace hf := (if_pos h772).symm.trans hf
        refine lv_aload_n C.1.1 C.1.2.1 dX5_minutesOf_24 rfl (lv_at hl 0 rfl) ?_
        refine zg_X5_13 C Z dX5_minutesOf_25 ?_
        refine lv_bipush (v := (21 : Int32)) C.1.1 C.1.2.1 dX5_minutesOf_28 (by decide) ?_
        refine lv_iload_n C.1.1 C.1.2.1 dX5_minutesOf_30 rfl (lv_at hl 3 rfl) ?_
        refine lv_iadd C.1.1 C.1.2.1 dX5_minutesOf_31 ?_
        obtain ⟨hi773, hf⟩ := zgd_some hf
        refine z_iald (k := 46) C Z (by decide) rfl hi773 dX5_minutesOf_32 ?_
        refine lv_goto (tgt := 37) C.1.1 C.1.2.1 dX5_minutesOf_33 (by decide) ?_
        refine lv_iadd C.1.1 C.1.2.1 dX5_minutesOf_37 ?_
        refine lv_istore_n (lv' := [(2, .int (x2 + (mem 46 ((21 : Int32) + x3).toNatClampNeg))), (0, .ref (zr G 44)), (1, .int x1), (3, .int x3)]) C.1.1 C.1.2.1 dX5_minutesOf_38 rfl hl (by decide) rfl (fun ls hl => ?_)
        refine lv_iinc (v := (x3 + 1)) (lv' := [(3, .int (x3 + 1)), (2, .int (x2 + (mem 46 ((21 : Int32) + x3).toNatClampNeg))), (0, .ref (zr G 44)), (1, .int x1)]) C.1.1 C.1.2.1 dX5_minutesOf_39 hl (k := 3) rfl rfl (by decide) rfl (fun ls hl => ?_)
        refine lv_goto (tgt := 4) C.1.1 C.1.2.1 dX5_minutesOf_42 (by decide) ?_
        exact ih mem x1 (x2 + (mem 46 ((21 : Int32) + x3).toNatClampNeg)) (x3 + 1) _ _ _ Z (lv_sub hl [2, 3, 1, 0] rfl) hf
set_option maxHeartbeats 4000000 in
set_option maxRecDepth 100000 in
theorem M_X5_minutesOf (l : Launch) (G : zG) (hG : zOK G) (N : Nat) (mem : zMem) (a1 : Int32) (r : Int32) (mem' : zMem) (hf : f_X5_minutesOf N mem a1 = some (r, mem')) : zM l G yX5_minutesOf cX5_minutesOf 4 (some .int) 0 0 [.ref (zr G 44), .int a1] mem (zQi G r mem') := by
  refine zStart hG (by decide +kernel) (Nat.le_of_ble_eq_true rfl) (fun p e s m below meth c C hr hlk ls hl Z => ?_)
  have hl : lv_has ls 4 [(0, .ref (zr G 44)), (1, .int a1)] := hl
  have C : zC (zAd G) G p s m _ c cX5_minutesOf 4 RX5 := C
  unfold f_X5_minutesOf at hf
  refine lv_iconst (v := (0 : Int32)) C.1.1 C.1.2.1 dX5_minutesOf_0 (by decide) ?_
  refine lv_istore_n (lv' := [(2, .int (0 : Int32)), (0, .ref (zr G 44)), (1, .int a1)]) C.1.1 C.1.2.1 dX5_minutesOf_1 rfl hl (by decide) rfl (fun ls hl => ?_)
  refine lv_iconst (v := (0 : Int32)) C.1.1 C.1.2.1 dX5_minutesOf_2 (by decide) ?_
  refine lv_istore_n (lv' := [(3, .int (0 : Int32)), (2, .int (0 : Int32)), (0, .ref (zr G 44)), (1, .int a1)]) C.1.1 C.1.2.1 dX5_minutesOf_3 rfl hl (by decide) rfl (fun ls hl => ?_)
  exact K_X5_minutesOf_4 (l := l) (e := e) (below := below) C hr hlk N N mem a1 (0 : Int32) (0 : Int32) _ _ _ Z (lv_sub hl [2, 3, 1, 0] rfl) hf
set_option maxHeartbeats 4000000 in
set_option maxRecDepth 100000 in
theorem K_X5_ones_4 {p : Program} {l : Launch} {e : Env} {s : State} {m : MethodId} {args : Array Value} {below : List Frame} {meth : Method} {c : Code} {G : zG} (C : zC (zAd G) G p s m args c cX5_ones 3 RX5) (hr : meth.sig.returnType = (some .int)) (hlk : meth.locks = false) {r : Int32} {mem' : zMem} (N : Nat) : ∀ (n : Nat) (mem : zMem) (x0 : Int32) (x1 : Int32) (x2 : Int32) (H : Heap) (locs : List Loc) (ls : Array Slot), zH (zAd G) G s mem H locs → lv_has ls 3 [(0, .int x0), (1, .int x1), (2, .int x2)] → f_X5_ones_4 N n mem x0 x1 x2 = some (r, mem') → W p l e ({ frames := 0, cells := 0, slots := 0, locals := 0 } : Room) s m args below meth c H locs 0 0 (MQ below (zQi G r mem') args s 0 0 (zAd G)) (F0 m 4 ls []) := by
  intro n
  induction n with
  | zero =>
    intro mem x0 x1 x2 H locs ls Z hl hf
    rw [f_X5_ones_4.eq_1] at hf
    cases hf
  | succ n ih =>
    intro mem x0 x1 x2 H locs ls Z hl hf
    rw [f_X5_ones_4.eq_2] at hf
    refine lv_iload_n C.1.1 C.1.2.1 dX5_ones_4 rfl (lv_at hl 2 rfl) ?_
    refine lv_bipush (v := (8 : Int32)) C.1.1 C.1.2.1 dX5_ones_5 (by decide) ?_
    refine lv_icmp_ge (tgt := 24) C.1.1 C.1.2.1 dX5_ones_7 (by decide) (fun h774 => ?_) (fun h774 => ?_)
    · replace hf := (if_pos h774).symm.trans hf
      refine lv_iload_n C.1.1 C.1.2.1 dX5_ones_24 rfl (lv_at hl 1 rfl) ?_
      cases hf
      exact z_iret C Z hr hlk dX5_ones_25
    · replace hf := (if_neg h774).symm.trans hf
      refine lv_iload_n C.1.1 C.1.2.1 dX5_ones_10 rfl (lv_at hl 1 rfl) ?_
      refine lv_iload_n C.1.1 C.1.2.1 dX5_ones_11 rfl (lv_at hl 0 rfl) ?_
      refine lv_iload_n C.1.1 C.1.2.1 dX5_ones_12 rfl (lv_at hl 2 rfl) ?_
      refine lv_ishr C.1.1 C.1.2.1 dX5_ones_13 ?_
      refine lv_iconst (v := (1 : Int32)) C.1.1 C.1.2.1 dX5_ones_14 (by decide) ?_
      refine lv_iand C.1.1 C.1.2.1 dX5_ones_15 ?_
      refine lv_iadd C.1.1 C.1.2.1 dX5_ones_16 ?_
      refine lv_istore_n (lv' := [(1, .int (x1 + ((x0 >>> (x2 &&& 31)) &&& (1 : Int32)))), (0, .int x0), (2, .int x2)]) C.1.1 C.1.2.1 dX5_ones_17 rfl hl (by decide) rfl (fun ls hl => ?_)
      refine lv_iinc (v := (x2 + 1)) (lv' := [(2, .int (x2 + 1)), (1, .int (x1 + ((x0 >>> (x2 &&& 31)) &&& (1 : Int32)))), (0, .int x0)]) C.1.1 C.1.2.1 dX5_ones_18 hl (k := 2) rfl rfl (by decide) rfl (fun ls hl => ?_)
      refine lv_goto (tgt := 4) C.1.1 C.1.2.1 dX5_ones_21 (by decide) ?_
      exact ih mem x0 (x1 + ((x0 >>> (x2 &&& 31)) &&& (1 : Int32))) (x2 + 1) _ _ _ Z (lv_sub hl [2, 1, 0] rfl) hf
set_option maxHeartbeats 4000000 in
set_option maxRecDepth 100000 in
theorem M_X5_ones (l : Launch) (G : zG) (hG : zOK G) (N : Nat) (mem : zMem) (a1 : Int32) (r : Int32) (mem' : zMem) (hf : f_X5_ones N mem a1 = some (r, mem')) : zM l G yX5_ones cX5_ones 3 (some .int) 0 0 [.int a1] mem (zQi G r mem') := by
  refine zStart hG (by decide +kernel) (Nat.le_of_ble_eq_true rfl) (fun p e s m below meth c C hr hlk ls hl Z => ?_)
  have hl : lv_has ls 3 [(0, .int a1)] := hl
  have C : zC (zAd G) G p s m _ c cX5_ones 3 RX5 := C
  unfold f_X5_ones at hf
  refine lv_iconst (v := (0 : Int32)) C.1.1 C.1.2.1 dX5_ones_0 (by decide) ?_
  refine lv_istore_n (lv' := [(1, .int (0 : Int32)), (0, .int a1)]) C.1.1 C.1.2.1 dX5_ones_1 rfl hl (by decide) rfl (fun ls hl => ?_)
  refine lv_iconst (v := (0 : Int32)) C.1.1 C.1.2.1 dX5_ones_2 (by decide) ?_
  refine lv_istore_n (lv' := [(2, .int (0 : Int32)), (1, .int (0 : Int32)), (0, .int a1)]) C.1.1 C.1.2.1 dX5_ones_3 rfl hl (by decide) rfl (fun ls hl => ?_)
  exact K_X5_ones_4 (l := l) (e := e) (below := below) C hr hlk N N mem a1 (0 : Int32) (0 : Int32) _ _ _ Z (lv_sub hl [2, 1, 0] rfl) hf
set_option maxHeartbeats 4000000 in
set_option maxRecDepth 100000 in
theorem M_X5_would (l : Launch) (G : zG) (hG : zOK G) (N : Nat) (mem : zMem) (a1 : Int32) (a2 : Int32) (r : Int32) (mem' : zMem) (hf : f_X5_would N mem a1 a2 = some (r, mem')) : zM l G yX5_would cX5_would 3 (some .boolean) 4 88 [.ref (zr G 44), .int a1, .int a2] mem (zQi G r mem') := by
  refine zStart hG (by decide +kernel) (Nat.le_of_ble_eq_true rfl) (fun p e s m below meth c C hr hlk ls hl Z => ?_)
  have hl : lv_has ls 3 [(0, .ref (zr G 44)), (1, .int a1), (2, .int a2)] := hl
  have C : zC (zAd G) G p s m _ c cX5_would 3 RX5 := C
  unfold f_X5_would at hf
  refine lv_iload_n C.1.1 C.1.2.1 dX5_would_0 rfl (lv_at hl 1 rfl) ?_
  refine lv_aload_n C.1.1 C.1.2.1 dX5_would_1 rfl (lv_at hl 0 rfl) ?_
  refine zg_X5_19 C Z dX5_would_2 ?_
  refine lv_bipush (v := (7 : Int32)) C.1.1 C.1.2.1 dX5_would_5 (by decide) ?_
  refine z_iald (k := 48) C Z (by decide) rfl (by decide) dX5_would_7 ?_
  refine lv_iand C.1.1 C.1.2.1 dX5_would_8 ?_
  refine lv_if_ne (tgt := 41) C.1.1 C.1.2.1 dX5_would_9 (by decide) (fun h775 => ?_) (fun h775 => ?_)
  · replace hf := (if_neg h775).symm.trans hf
    refine lv_iconst (v := (0 : Int32)) C.1.1 C.1.2.1 dX5_would_41 (by decide) ?_
    cases hf
    exact z_zret C Z hr hlk (by decide) dX5_would_42
  · replace hf := (if_pos h775).symm.trans hf
    refine lv_aload_n C.1.1 C.1.2.1 dX5_would_12 rfl (lv_at hl 0 rfl) ?_
    refine lv_aload_n C.1.1 C.1.2.1 dX5_would_13 rfl (lv_at hl 0 rfl) ?_
    obtain ⟨r776, mem776, hc776, hf⟩ := zb_some hf
    refine z_callVi (k := 44) (As := []) (rest := [.ref (zr G 44)]) C Z (M_X5_sermon l G C.2.1 N mem r776 mem776 hc776) (zcw_X5_119 C.1.2.2.2.2 ⟨Nat.le_of_ble_eq_true rfl, Nat.le_of_ble_eq_true rfl⟩) (by decide) rfl rfl rfl hl.1 rfl (Nat.le_of_ble_eq_true rfl) ⟨Nat.le_refl 0, Nat.le_refl 0⟩ dX5_would_14 (fun H locs Z => ?_)
    refine lv_aload_n C.1.1 C.1.2.1 dX5_would_17 rfl (lv_at hl 0 rfl) ?_
    refine lv_iload_n C.1.1 C.1.2.1 dX5_would_18 rfl (lv_at hl 1 rfl) ?_
    refine lv_aload_n C.1.1 C.1.2.1 dX5_would_19 rfl (lv_at hl 0 rfl) ?_
    refine zg_X5_19 C Z dX5_would_20 ?_
    refine lv_bipush (v := (6 : Int32)) C.1.1 C.1.2.1 dX5_would_23 (by decide) ?_
    refine z_iald (k := 48) C Z (by decide) rfl (by decide) dX5_would_25 ?_
    obtain ⟨r777, mem777, hc777, hf⟩ := zb_some hf
    refine z_callVi (k := 44) (As := [.int a1, .int (mem776 48 (6 : Int32).toNatClampNeg)]) (rest := [.int r776, .ref (zr G 44)]) C Z (M_X5_ouncesOf l G C.2.1 N mem776 a1 (mem776 48 (6 : Int32).toNatClampNeg) r777 mem777 hc777) (zcw_X5_116 C.1.2.2.2.2 ⟨Nat.le_of_ble_eq_true rfl, Nat.le_of_ble_eq_true rfl⟩) (by decide) rfl rfl rfl hl.1 rfl (Nat.le_of_ble_eq_true rfl) ⟨Nat.le_refl 0, Nat.le_refl 0⟩ dX5_would_26 (fun H locs Z => ?_)
    refine lv_iadd C.1.1 C.1.2.1 dX5_would_29 ?_
    refine lv_iload_n C.1.1 C.1.2.1 dX5_would_30 rfl (lv_at hl 2 rfl) ?_
    obtain ⟨r778, mem778, hc778, hf⟩ := zb_some hf
    refine z_callVi (k := 44) (As := [.int (r776 + r777), .int a2]) (rest := []) C Z (M_X5_hangs l G C.2.1 N mem777 (r776 + r777) a2 r778 mem778 hc778) (zcw_X5_125 C.1.2.2.2.2 ⟨Nat.le_of_ble_eq_true rfl, Nat.le_of_ble_eq_true rfl⟩) (by decide) rfl rfl rfl hl.1 rfl (Nat.le_of_ble_eq_true rfl) ⟨Nat.le_refl 0, Nat.le_refl 0⟩ dX5_would_31 (fun H locs Z => ?_)
    refine lv_if_eq (tgt := 41) C.1.1 C.1.2.1 dX5_would_34 (by decide) (fun h779 => ?_) (fun h779 => ?_)
    · replace hf := (if_pos h779).symm.trans hf
      refine lv_iconst (v := (0 : Int32)) C.1.1 C.1.2.1 dX5_would_41 (by decide) ?_
      cases hf
      exact z_zret C Z hr hlk (by decide) dX5_would_42
    · replace hf := (if_neg h779).symm.trans hf
      refine lv_iconst (v := (1 : Int32)) C.1.1 C.1.2.1 dX5_would_37 (by decide) ?_
      refine lv_goto (tgt := 42) C.1.1 C.1.2.1 dX5_would_38 (by decide) ?_
      cases hf
      exact z_zret C Z hr hlk (by decide) dX5_would_42
set_option maxHeartbeats 4000000 in
set_option maxRecDepth 100000 in
theorem K_X5_soonest_22 {p : Program} {l : Launch} {e : Env} {s : State} {m : MethodId} {args : Array Value} {below : List Frame} {meth : Method} {c : Code} {G : zG} (C : zC (zAd G) G p s m args c cX5_soonest 6 RX5) (hr : meth.sig.returnType = (some .int)) (hlk : meth.locks = false) {r : Int32} {mem' : zMem} (N : Nat) : ∀ (n : Nat) (mem : zMem) (x1 : Int32) (x2 : Int32) (x3 : Int32) (x4 : Int32) (H : Heap) (locs : List Loc) (ls : Array Slot), zH (zAd G) G s mem H locs → lv_has ls 6 [(0, .ref (zr G 44)), (1, .int x1), (2, .int x2), (3, .int x3), (4, .int x4)] → f_X5_soonest_22 N n mem x1 x2 x3 x4 = some (r, mem') → W p l e ({ frames := 5, cells := 0, slots := 0, locals := 110 } : Room) s m args below meth c H locs 0 0 (MQ below (zQi G r mem') args s 0 0 (zAd G)) (F0 m 22 ls []) := by
  intro n
  induction n with
  | zero =>
    intro mem x1 x2 x3 x4 H locs ls Z hl hf
    rw [f_X5_soonest_22.eq_1] at hf
    cases hf
  | succ n ih =>
    intro mem x1 x2 x3 x4 H locs ls Z hl hf
    rw [f_X5_soonest_22.eq_2] at hf
    refine lv_iload C.1.1 C.1.2.1 dX5_soonest_22 (lv_at hl 4 rfl) ?_
    refine lv_iconst (v := (1 : Int32)) C.1.1 C.1.2.1 dX5_soonest_24 (by decide) ?_
    refine lv_aload_n C.1.1 C.1.2.1 dX5_soonest_25 rfl (lv_at hl 0 rfl) ?_
    refine zg_X5_13 C Z dX5_soonest_26 ?_
    refine lv_iconst (v := (0 : Int32)) C.1.1 C.1.2.1 dX5_soonest_29 (by decide) ?_
    refine z_iald (k := 46) C Z (by decide) rfl (by decide) dX5_soonest_30 ?_
    refine lv_ishl C.1.1 C.1.2.1 dX5_soonest_31 ?_
    refine lv_icmp_ge (tgt := 103) C.1.1 C.1.2.1 dX5_soonest_32 (by decide) (fun h780 => ?_) (fun h780 => ?_)
    · replace hf := (if_pos h780).symm.trans hf
      refine lv_iload_n C.1.1 C.1.2.1 dX5_soonest_103 rfl (lv_at hl 1 rfl) ?_
      refine lv_if_eq (tgt := 112) C.1.1 C.1.2.1 dX5_soonest_104 (by decide) (fun h781 => ?_) (fun h781 => ?_)
      · replace hf := (if_pos h781).symm.trans hf
        refine lv_iload_n C.1.1 C.1.2.1 dX5_soonest_112 rfl (lv_at hl 2 rfl) ?_
        refine lv_goto (tgt := 121) C.1.1 C.1.2.1 dX5_soonest_113 (by decide) ?_
        cases hf
        exact z_iret C Z hr hlk dX5_soonest_121
      · replace hf := (if_neg h781).symm.trans hf
        refine lv_iload_n C.1.1 C.1.2.1 dX5_soonest_107 rfl (lv_at hl 2 rfl) ?_
        refine lv_iconst (v := (-1 : Int32)) C.1.1 C.1.2.1 dX5_soonest_108 (by decide) ?_
        refine lv_icmp_ne (tgt := 116) C.1.1 C.1.2.1 dX5_soonest_109 (by decide) (fun h782 => ?_) (fun h782 => ?_)
        · replace hf := (if_neg h782).symm.trans hf
          refine lv_aload_n C.1.1 C.1.2.1 dX5_soonest_116 rfl (lv_at hl 0 rfl) ?_
          refine lv_iload_n C.1.1 C.1.2.1 dX5_soonest_117 rfl (lv_at hl 2 rfl) ?_
          obtain ⟨r783, mem783, hc783, hf⟩ := zb_some hf
          refine z_callVi (k := 44) (As := [.int x2]) (rest := []) C Z (M_X5_minutesOf l G C.2.1 N mem x2 r783 mem783 hc783) (zcw_X5_141 C.1.2.2.2.2 ⟨Nat.le_of_ble_eq_true rfl, Nat.le_of_ble_eq_true rfl⟩) (by decide) rfl rfl rfl hl.1 rfl (Nat.le_of_ble_eq_true rfl) ⟨Nat.le_refl 0, Nat.le_refl 0⟩ dX5_soonest_118 (fun H locs Z => ?_)
          cases hf
          exact z_iret C Z hr hlk dX5_soonest_121
        · replace hf := (if_pos h782).symm.trans hf
          refine lv_iload_n C.1.1 C.1.2.1 dX5_soonest_112 rfl (lv_at hl 2 rfl) ?_
          refine lv_goto (tgt := 121) C.1.1 C.1.2.1 dX5_soonest_113 (by decide) ?_
          cases hf
          exact z_iret C Z hr hlk dX5_soonest_121
    · replace hf := (if_neg h780).symm.trans hf
      refine lv_aload_n C.1.1 C.1.2.1 dX5_soonest_35 rfl (lv_at hl 0 rfl) ?_
      refine lv_iload C.1.1 C.1.2.1 dX5_soonest_36 (lv_at hl 4 rfl) ?_
      refine lv_iload_n C.1.1 C.1.2.1 dX5_soonest_38 rfl (lv_at hl 3 rfl) ?_
      obtain ⟨r784, mem784, hc784, hf⟩ := zb_some hf
      refine z_callVi (k := 44) (As := [.int x4, .int x3]) (rest := []) C Z (M_X5_would l G C.2.1 N mem x4 x3 r784 mem784 hc784) (zcw_X5_138 C.1.2.2.2.2 ⟨Nat.le_of_ble_eq_true rfl, Nat.le_of_ble_eq_true rfl⟩) (by decide) rfl rfl rfl hl.1 rfl (Nat.le_of_ble_eq_true rfl) ⟨Nat.le_refl 0, Nat.le_refl 0⟩ dX5_soonest_39 (fun H locs Z => ?_)
      refine lv_if_eq (tgt := 97) C.1.1 C.1.2.1 dX5_soonest_42 (by decide) (fun h785 => ?_) (fun h785 => ?_)
      · replace hf := (if_pos h785).symm.trans hf
        refine lv_iinc (v := (x4 + 1)) (lv' := [(4, .int (x4 + 1)), (0, .ref (zr G 44)), (1, .int x1), (2, .int x2), (3, .int x3)]) C.1.1 C.1.2.1 dX5_soonest_97 hl (k := 4) rfl rfl (by decide) rfl (fun ls hl => ?_)
        refine lv_goto (tgt := 22) C.1.1 C.1.2.1 dX5_soonest_100 (by decide) ?_
        exact ih mem784 x1 x2 x3 (x4 + 1) _ _ _ Z (lv_sub hl [1, 2, 3, 4, 0] rfl) hf
      · replace hf := (if_neg h785).symm.trans hf
        refine lv_iload_n C.1.1 C.1.2.1 dX5_soonest_45 rfl (lv_at hl 2 rfl) ?_
        refine lv_iconst (v := (-1 : Int32)) C.1.1 C.1.2.1 dX5_soonest_46 (by decide) ?_
        refine lv_icmp_ne (tgt := 54) C.1.1 C.1.2.1 dX5_soonest_47 (by decide) (fun h786 => ?_) (fun h786 => ?_)
        · replace hf := (if_neg h786).symm.trans hf
          refine lv_aload_n C.1.1 C.1.2.1 dX5_soonest_54 rfl (lv_at hl 0 rfl) ?_
          refine lv_iload C.1.1 C.1.2.1 dX5_soonest_55 (lv_at hl 4 rfl) ?_
          obtain ⟨r787, mem787, hc787, hf⟩ := zb_some hf
          refine z_callVi (k := 44) (As := [.int x4]) (rest := []) C Z (M_X5_minutesOf l G C.2.1 N mem784 x4 r787 mem787 hc787) (zcw_X5_141 C.1.2.2.2.2 ⟨Nat.le_of_ble_eq_true rfl, Nat.le_of_ble_eq_true rfl⟩) (by decide) rfl rfl rfl hl.1 rfl (Nat.le_of_ble_eq_true rfl) ⟨Nat.le_refl 0, Nat.le_refl 0⟩ dX5_soonest_57 (fun H locs Z => ?_)
          refine lv_aload_n C.1.1 C.1.2.1 dX5_soonest_60 rfl (lv_at hl 0 rfl) ?_
          refine lv_iload_n C.1.1 C.1.2.1 dX5_soonest_61 rfl (lv_at hl 2 rfl) ?_
          obtain ⟨r788, mem788, hc788, hf⟩ := zb_some hf
          refine z_callVi (k := 44) (As := [.int x2]) (rest := [.int r787]) C Z (M_X5_minutesOf l G C.2.1 N mem787 x2 r788 mem788 hc788) (zcw_X5_141 C.1.2.2.2.2 ⟨Nat.le_of_ble_eq_true rfl, Nat.le_of_ble_eq_true rfl⟩) (by decide) rfl rfl rfl hl.1 rfl (Nat.le_of_ble_eq_true rfl) ⟨Nat.le_refl 0, Nat.le_refl 0⟩ dX5_soonest_62 (fun H locs Z => ?_)
          refine lv_isub C.1.1 C.1.2.1 dX5_soonest_65 ?_
          refine lv_istore (lv' := [(5, .int (r787 - r788)), (0, .ref (zr G 44)), (1, .int x1), (2, .int x2), (3, .int x3), (4, .int x4)]) C.1.1 C.1.2.1 dX5_soonest_66 hl (by decide) rfl (fun ls hl => ?_)
          refine lv_iload C.1.1 C.1.2.1 dX5_soonest_68 (lv_at hl 0 rfl) ?_
          refine lv_if_lt (tgt := 90) C.1.1 C.1.2.1 dX5_soonest_70 (by decide) (fun h789 => ?_) (fun h789 => ?_)
          · replace hf := (if_pos h789).symm.trans hf
            refine lv_iload C.1.1 C.1.2.1 dX5_soonest_90 (lv_at hl 5 rfl) ?_
            refine lv_goto (tgt := 96) C.1.1 C.1.2.1 dX5_soonest_92 (by decide) ?_
            refine lv_istore_n (lv' := [(2, .int x4), (5, .int (r787 - r788)), (0, .ref (zr G 44)), (1, .int x1), (3, .int x3), (4, .int x4)]) C.1.1 C.1.2.1 dX5_soonest_96 rfl hl (by decide) rfl (fun ls hl => ?_)
            refine lv_iinc (v := (x4 + 1)) (lv' := [(4, .int (x4 + 1)), (2, .int x4), (5, .int (r787 - r788)), (0, .ref (zr G 44)), (1, .int x1), (3, .int x3)]) C.1.1 C.1.2.1 dX5_soonest_97 hl (k := 5) rfl rfl (by decide) rfl (fun ls hl => ?_)
            refine lv_goto (tgt := 22) C.1.1 C.1.2.1 dX5_soonest_100 (by decide) ?_
            exact ih mem788 x1 x4 x3 (x4 + 1) _ _ _ Z (lv_sub hl [3, 4, 1, 5, 0] rfl) hf
          · replace hf := (if_neg h789).symm.trans hf
            refine lv_iload C.1.1 C.1.2.1 dX5_soonest_73 (lv_at hl 0 rfl) ?_
            refine lv_if_ne (tgt := 95) C.1.1 C.1.2.1 dX5_soonest_75 (by decide) (fun h790 => ?_) (fun h790 => ?_)
            · replace hf := (if_neg h790).symm.trans hf
              refine lv_iload_n C.1.1 C.1.2.1 dX5_soonest_95 rfl (lv_at hl 3 rfl) ?_
              refine lv_istore_n (lv' := [(2, .int x2), (5, .int (r787 - r788)), (0, .ref (zr G 44)), (1, .int x1), (3, .int x3), (4, .int x4)]) C.1.1 C.1.2.1 dX5_soonest_96 rfl hl (by decide) rfl (fun ls hl => ?_)
              refine lv_iinc (v := (x4 + 1)) (lv' := [(4, .int (x4 + 1)), (2, .int x2), (5, .int (r787 - r788)), (0, .ref (zr G 44)), (1, .int x1), (3, .int x3)]) C.1.1 C.1.2.1 dX5_soonest_97 hl (k := 5) rfl rfl (by decide) rfl (fun ls hl => ?_)
              refine lv_goto (tgt := 22) C.1.1 C.1.2.1 dX5_soonest_100 (by decide) ?_
              exact ih mem788 x1 x2 x3 (x4 + 1) _ _ _ Z (lv_sub hl [3, 4, 1, 5, 0] rfl) hf
            · replace hf := (if_pos h790).symm.trans hf
              refine lv_iload C.1.1 C.1.2.1 dX5_soonest_78 (lv_at hl 5 rfl) ?_
              obtain ⟨r791, mem791, hc791, hf⟩ := zb_some hf
              refine z_callSi (As := [.int x4]) (rest := []) C Z (M_X5_ones l G C.2.1 N mem788 x4 r791 mem791 hc791) (zcw_X5_144 C.1.2.2.2.2 ⟨Nat.le_of_ble_eq_true rfl, Nat.le_of_ble_eq_true rfl⟩) rfl hl.1 rfl (Nat.le_of_ble_eq_true rfl) ⟨Nat.le_refl 0, Nat.le_refl 0⟩ dX5_soonest_80 (fun H locs Z => ?_)
              refine lv_iload_n C.1.1 C.1.2.1 dX5_soonest_83 rfl (lv_at hl 3 rfl) ?_
              obtain ⟨r792, mem792, hc792, hf⟩ := zb_some hf
              refine z_callSi (As := [.int x2]) (rest := [.int r791]) C Z (M_X5_ones l G C.2.1 N mem791 x2 r792 mem792 hc792) (zcw_X5_144 C.1.2.2.2.2 ⟨Nat.le_of_ble_eq_true rfl, Nat.le_of_ble_eq_true rfl⟩) rfl hl.1 rfl (Nat.le_of_ble_eq_true rfl) ⟨Nat.le_refl 0, Nat.le_refl 0⟩ dX5_soonest_84 (fun H locs Z => ?_)
              refine lv_icmp_ge (tgt := 95) C.1.1 C.1.2.1 dX5_soonest_87 (by decide) (fun h793 => ?_) (fun h793 => ?_)
              · replace hf := (if_pos h793).symm.trans hf
                refine lv_iload_n C.1.1 C.1.2.1 dX5_soonest_95 rfl (lv_at hl 3 rfl) ?_
                refine lv_istore_n (lv' := [(2, .int x2), (5, .int (r787 - r788)), (0, .ref (zr G 44)), (1, .int x1), (3, .int x3), (4, .int x4)]) C.1.1 C.1.2.1 dX5_soonest_96 rfl hl (by decide) rfl (fun ls hl => ?_)
                refine lv_iinc (v := (x4 + 1)) (lv' := [(4, .int (x4 + 1)), (2, .int x2), (5, .int (r787 - r788)), (0, .ref (zr G 44)), (1, .int x1), (3, .int x3)]) C.1.1 C.1.2.1 dX5_soonest_97 hl (k := 5) rfl rfl (by decide) rfl (fun ls hl => ?_)
                refine lv_goto (tgt := 22) C.1.1 C.1.2.1 dX5_soonest_100 (by decide) ?_
                exact ih mem792 x1 x2 x3 (x4 + 1) _ _ _ Z (lv_sub hl [3, 4, 1, 5, 0] rfl) hf
              · replace hf := (if_neg h793).symm.trans hf
                refine lv_iload C.1.1 C.1.2.1 dX5_soonest_90 (lv_at hl 5 rfl) ?_
                refine lv_goto (tgt := 96) C.1.1 C.1.2.1 dX5_soonest_92 (by decide) ?_
                refine lv_istore_n (lv' := [(2, .int x4), (5, .int (r787 - r788)), (0, .ref (zr G 44)), (1, .int x1), (3, .int x3), (4, .int x4)]) C.1.1 C.1.2.1 dX5_soonest_96 rfl hl (by decide) rfl (fun ls hl => ?_)
                refine lv_iinc (v := (x4 + 1)) (lv' := [(4, .int (x4 + 1)), (2, .int x4), (5, .int (r787 - r788)), (0, .ref (zr G 44)), (1, .int x1), (3, .int x3)]) C.1.1 C.1.2.1 dX5_soonest_97 hl (k := 5) rfl rfl (by decide) rfl (fun ls hl => ?_)
                refine lv_goto (tgt := 22) C.1.1 C.1.2.1 dX5_soonest_100 (by decide) ?_
                exact ih mem792 x1 x4 x3 (x4 + 1) _ _ _ Z (lv_sub hl [3, 4, 1, 5, 0] rfl) hf
        · replace hf := (if_pos h786).symm.trans hf
          refine lv_iconst (v := (-1 : Int32)) C.1.1 C.1.2.1 dX5_soonest_50 (by decide) ?_
          refine lv_goto (tgt := 66) C.1.1 C.1.2.1 dX5_soonest_51 (by decide) ?_
          refine lv_istore (lv' := [(5, .int (-1 : Int32)), (0, .ref (zr G 44)), (1, .int x1), (2, .int x2), (3, .int x3), (4, .int x4)]) C.1.1 C.1.2.1 dX5_soonest_66 hl (by decide) rfl (fun ls hl => ?_)
          refine lv_iload C.1.1 C.1.2.1 dX5_soonest_68 (lv_at hl 0 rfl) ?_
          refine lv_if_lt (tgt := 90) C.1.1 C.1.2.1 dX5_soonest_70 (by decide) (fun h794 => ?_) (fun h794 => ?_)
          · replace hf := (if_pos h794).symm.trans hf
            refine lv_iload C.1.1 C.1.2.1 dX5_soonest_90 (lv_at hl 5 rfl) ?_
            refine lv_goto (tgt := 96) C.1.1 C.1.2.1 dX5_soonest_92 (by decide) ?_
            refine lv_istore_n (lv' := [(2, .int x4), (5, .int (-1 : Int32)), (0, .ref (zr G 44)), (1, .int x1), (3, .int x3), (4, .int x4)]) C.1.1 C.1.2.1 dX5_soonest_96 rfl hl (by decide) rfl (fun ls hl => ?_)
            refine lv_iinc (v := (x4 + 1)) (lv' := [(4, .int (x4 + 1)), (2, .int x4), (5, .int (-1 : Int32)), (0, .ref (zr G 44)), (1, .int x1), (3, .int x3)]) C.1.1 C.1.2.1 dX5_soonest_97 hl (k := 5) rfl rfl (by decide) rfl (fun ls hl => ?_)
            refine lv_goto (tgt := 22) C.1.1 C.1.2.1 dX5_soonest_100 (by decide) ?_
            exact ih mem784 x1 x4 x3 (x4 + 1) _ _ _ Z (lv_sub hl [3, 4, 1, 5, 0] rfl) hf
          · replace hf := (if_neg h794).symm.trans hf
            refine lv_iload C.1.1 C.1.2.1 dX5_soonest_73 (lv_at hl 0 rfl) ?_
            refine lv_if_ne (tgt := 95) C.1.1 C.1.2.1 dX5_soonest_75 (by decide) (fun h795 => ?_) (fun h795 => ?_)
            · replace hf := (if_neg h795).symm.trans hf
              refine lv_iload_n C.1.1 C.1.2.1 dX5_soonest_95 rfl (lv_at hl 3 rfl) ?_
              refine lv_istore_n (lv' := [(2, .int x2), (5, .int (-1 : Int32)), (0, .ref (zr G 44)), (1, .int x1), (3, .int x3), (4, .int x4)]) C.1.1 C.1.2.1 dX5_soonest_96 rfl hl (by decide) rfl (fun ls hl => ?_)
              refine lv_iinc (v := (x4 + 1)) (lv' := [(4, .int (x4 + 1)), (2, .int x2), (5, .int (-1 : Int32)), (0, .ref (zr G 44)), (1, .int x1), (3, .int x3)]) C.1.1 C.1.2.1 dX5_soonest_97 hl (k := 5) rfl rfl (by decide) rfl (fun ls hl => ?_)
              refine lv_goto (tgt := 22) C.1.1 C.1.2.1 dX5_soonest_100 (by decide) ?_
              exact ih mem784 x1 x2 x3 (x4 + 1) _ _ _ Z (lv_sub hl [3, 4, 1, 5, 0] rfl) hf
            · replace hf := (if_pos h795).symm.trans hf
              refine lv_iload C.1.1 C.1.2.1 dX5_soonest_78 (lv_at hl 5 rfl) ?_
              obtain ⟨r796, mem796, hc796, hf⟩ := zb_some hf
              refine z_callSi (As := [.int x4]) (rest := []) C Z (M_X5_ones l G C.2.1 N mem784 x4 r796 mem796 hc796) (zcw_X5_144 C.1.2.2.2.2 ⟨Nat.le_of_ble_eq_true rfl, Nat.le_of_ble_eq_true rfl⟩) rfl hl.1 rfl (Nat.le_of_ble_eq_true rfl) ⟨Nat.le_refl 0, Nat.le_refl 0⟩ dX5_soonest_80 (fun H locs Z => ?_)
              refine lv_iload_n C.1.1 C.1.2.1 dX5_soonest_83 rfl (lv_at hl 3 rfl) ?_
              obtain ⟨r797, mem797, hc797, hf⟩ := zb_some hf
              refine z_callSi (As := [.int x2]) (rest := [.int r796]) C Z (M_X5_ones l G C.2.1 N mem796 x2 r797 mem797 hc797) (zcw_X5_144 C.1.2.2.2.2 ⟨Nat.le_of_ble_eq_true rfl, Nat.le_of_ble_eq_true rfl⟩) rfl hl.1 rfl (Nat.le_of_ble_eq_true rfl) ⟨Nat.le_refl 0, Nat.le_refl 0⟩ dX5_soonest_84 (fun H locs Z => ?_)
              refine lv_icmp_ge (tgt := 95) C.1.1 C.1.2.1 dX5_soonest_87 (by decide) (fun h798 => ?_) (fun h798 => ?_)
              · replace hf := (if_pos h798).symm.trans hf
                refine lv_iload_n C.1.1 C.1.2.1 dX5_soonest_95 rfl (lv_at hl 3 rfl) ?_
                refine lv_istore_n (lv' := [(2, .int x2), (5, .int (-1 : Int32)), (0, .ref (zr G 44)), (1, .int x1), (3, .int x3), (4, .int x4)]) C.1.1 C.1.2.1 dX5_soonest_96 rfl hl (by decide) rfl (fun ls hl => ?_)
                refine lv_iinc (v := (x4 + 1)) (lv' := [(4, .int (x4 + 1)), (2, .int x2), (5, .int (-1 : Int32)), (0, .ref (zr G 44)), (1, .int x1), (3, .int x3)]) C.1.1 C.1.2.1 dX5_soonest_97 hl (k := 5) rfl rfl (by decide) rfl (fun ls hl => ?_)
                refine lv_goto (tgt := 22) C.1.1 C.1.2.1 dX5_soonest_100 (by decide) ?_
                exact ih mem797 x1 x2 x3 (x4 + 1) _ _ _ Z (lv_sub hl [3, 4, 1, 5, 0] rfl) hf
              · replace hf := (if_neg h798).symm.trans hf
                refine lv_iload C.1.1 C.1.2.1 dX5_soonest_90 (lv_at hl 5 rfl) ?_
                refine lv_goto (tgt := 96) C.1.1 C.1.2.1 dX5_soonest_92 (by decide) ?_
                refine lv_istore_n (lv' := [(2, .int x4), (5, .int (-1 : Int32)), (0, .ref (zr G 44)), (1, .int x1), (3, .int x3), (4, .int x4)]) C.1.1 C.1.2.1 dX5_soonest_96 rfl hl (by decide) rfl (fun ls hl => ?_)
                refine lv_iinc (v := (x4 + 1)) (lv' := [(4, .int (x4 + 1)), (2, .int x4), (5, .int (-1 : Int32)), (0, .ref (zr G 44)), (1, .int x1), (3, .int x3)]) C.1.1 C.1.2.1 dX5_soonest_97 hl (k := 5) rfl rfl (by decide) rfl (fun ls hl => ?_)
                refine lv_goto (tgt := 22) C.1.1 C.1.2.1 dX5_soonest_100 (by decide) ?_
                exact ih mem797 x1 x4 x3 (x4 + 1) _ _ _ Z (lv_sub hl [3, 4, 1, 5, 0] rfl) hf
set_option maxHeartbeats 4000000 in
set_option maxRecDepth 100000 in
theorem M_X5_soonest (l : Launch) (G : zG) (hG : zOK G) (N : Nat) (mem : zMem) (a1 : Int32) (r : Int32) (mem' : zMem) (hf : f_X5_soonest N mem a1 = some (r, mem')) : zM l G yX5_soonest cX5_soonest 6 (some .int) 5 110 [.ref (zr G 44), .int a1] mem (zQi G r mem') := by
  refine zStart hG (by decide +kernel) (Nat.le_of_ble_eq_true rfl) (fun p e s m below meth c C hr hlk ls hl Z => ?_)
  have hl : lv_has ls 6 [(0, .ref (zr G 44)), (1, .int a1)] := hl
  have C : zC (zAd G) G p s m _ c cX5_soonest 6 RX5 := C
  unfold f_X5_soonest at hf
  refine lv_iload_n C.1.1 C.1.2.1 dX5_soonest_0 rfl (lv_at hl 1 rfl) ?_
  refine lv_iconst (v := (0 : Int32)) C.1.1 C.1.2.1 dX5_soonest_1 (by decide) ?_
  refine lv_iconst (v := (1 : Int32)) C.1.1 C.1.2.1 dX5_soonest_2 (by decide) ?_
  obtain ⟨r799, mem799, hc799, hf⟩ := zb_some hf
  refine z_callSi (As := [.int a1, .int (0 : Int32), .int (1 : Int32)]) (rest := []) C Z (M_X5_in l G C.2.1 N mem a1 (0 : Int32) (1 : Int32) r799 mem799 hc799) (zcw_X5_44 C.1.2.2.2.2 ⟨Nat.le_of_ble_eq_true rfl, Nat.le_of_ble_eq_true rfl⟩) rfl hl.1 rfl (Nat.le_of_ble_eq_true rfl) ⟨Nat.le_refl 0, Nat.le_refl 0⟩ dX5_soonest_3 (fun H locs Z => ?_)
  refine lv_if_ne (tgt := 12) C.1.1 C.1.2.1 dX5_soonest_6 (by decide) (fun h800 => ?_) (fun h800 => ?_)
  · replace hf := (if_neg h800).symm.trans hf
    refine lv_iconst (v := (-1 : Int32)) C.1.1 C.1.2.1 dX5_soonest_12 (by decide) ?_
    refine lv_istore_n (lv' := [(2, .int (-1 : Int32)), (0, .ref (zr G 44)), (1, .int a1)]) C.1.1 C.1.2.1 dX5_soonest_13 rfl hl (by decide) rfl (fun ls hl => ?_)
    refine lv_aload_n C.1.1 C.1.2.1 dX5_soonest_14 rfl (lv_at hl 1 rfl) ?_
    obtain ⟨r801, mem801, hc801, hf⟩ := zb_some hf
    refine z_callVi (k := 44) (As := []) (rest := []) C Z (M_X5_lead l G C.2.1 N mem799 r801 mem801 hc801) (zcw_X5_122 C.1.2.2.2.2 ⟨Nat.le_of_ble_eq_true rfl, Nat.le_of_ble_eq_true rfl⟩) (by decide) rfl rfl rfl hl.1 rfl (Nat.le_of_ble_eq_true rfl) ⟨Nat.le_refl 0, Nat.le_refl 0⟩ dX5_soonest_15 (fun H locs Z => ?_)
    refine lv_istore_n (lv' := [(3, .int r801), (2, .int (-1 : Int32)), (0, .ref (zr G 44)), (1, .int a1)]) C.1.1 C.1.2.1 dX5_soonest_18 rfl hl (by decide) rfl (fun ls hl => ?_)
    refine lv_iconst (v := (0 : Int32)) C.1.1 C.1.2.1 dX5_soonest_19 (by decide) ?_
    refine lv_istore (lv' := [(4, .int (0 : Int32)), (3, .int r801), (2, .int (-1 : Int32)), (0, .ref (zr G 44)), (1, .int a1)]) C.1.1 C.1.2.1 dX5_soonest_20 hl (by decide) rfl (fun ls hl => ?_)
    exact K_X5_soonest_22 (l := l) (e := e) (below := below) C hr hlk N N mem801 a1 (-1 : Int32) r801 (0 : Int32) _ _ _ Z (lv_sub hl [3, 4, 2, 1, 0] rfl) hf
  · replace hf := (if_pos h800).symm.trans hf
    refine lv_bipush (v := (-3 : Int32)) C.1.1 C.1.2.1 dX5_soonest_9 (by decide) ?_
    cases hf
    exact z_iret C Z hr hlk dX5_soonest_11
set_option maxHeartbeats 4000000 in
set_option maxRecDepth 100000 in
theorem K_X5_never_17 {p : Program} {l : Launch} {e : Env} {s : State} {m : MethodId} {args : Array Value} {below : List Frame} {meth : Method} {c : Code} {G : zG} (C : zC (zAd G) G p s m args c cX5_never 4 RX5) (hr : meth.sig.returnType = (some .int)) (hlk : meth.locks = false) {r : Int32} {mem' : zMem} (N : Nat) : ∀ (n : Nat) (mem : zMem) (x1 : Int32) (x2 : Int32) (x3 : Int32) (H : Heap) (locs : List Loc) (ls : Array Slot), zH (zAd G) G s mem H locs → lv_has ls 4 [(0, .ref (zr G 44)), (1, .int x1), (2, .int x2), (3, .int x3)] → f_X5_never_17 N n mem x1 x2 x3 = some (r, mem') → W p l e ({ frames := 5, cells := 0, slots := 0, locals := 110 } : Room) s m args below meth c H locs 0 0 (MQ below (zQi G r mem') args s 0 0 (zAd G)) (F0 m 17 ls []) := by
  intro n
  induction n with
  | zero =>
    intro mem x1 x2 x3 H locs ls Z hl hf
    rw [f_X5_never_17.eq_1] at hf
    cases hf
  | succ n ih =>
    intro mem x1 x2 x3 H locs ls Z hl hf
    rw [f_X5_never_17.eq_2] at hf
    refine lv_iload_n C.1.1 C.1.2.1 dX5_never_17 rfl (lv_at hl 3 rfl) ?_
    refine lv_iconst (v := (1 : Int32)) C.1.1 C.1.2.1 dX5_never_18 (by decide) ?_
    refine lv_aload_n C.1.1 C.1.2.1 dX5_never_19 rfl (lv_at hl 0 rfl) ?_
    refine zg_X5_13 C Z dX5_never_20 ?_
    refine lv_iconst (v := (0 : Int32)) C.1.1 C.1.2.1 dX5_never_23 (by decide) ?_
    refine z_iald (k := 46) C Z (by decide) rfl (by decide) dX5_never_24 ?_
    refine lv_ishl C.1.1 C.1.2.1 dX5_never_25 ?_
    refine lv_icmp_ge (tgt := 54) C.1.1 C.1.2.1 dX5_never_26 (by decide) (fun h802 => ?_) (fun h802 => ?_)
    · replace hf := (if_pos h802).symm.trans hf
      refine lv_iload_n C.1.1 C.1.2.1 dX5_never_54 rfl (lv_at hl 2 rfl) ?_
      refine lv_if_eq (tgt := 62) C.1.1 C.1.2.1 dX5_never_55 (by decide) (fun h803 => ?_) (fun h803 => ?_)
      · replace hf := (if_pos h803).symm.trans hf
        refine lv_iconst (v := (1 : Int32)) C.1.1 C.1.2.1 dX5_never_62 (by decide) ?_
        cases hf
        exact z_iret C Z hr hlk dX5_never_63
      · replace hf := (if_neg h803).symm.trans hf
        refine lv_iconst (v := (0 : Int32)) C.1.1 C.1.2.1 dX5_never_58 (by decide) ?_
        refine lv_goto (tgt := 63) C.1.1 C.1.2.1 dX5_never_59 (by decide) ?_
        cases hf
        exact z_iret C Z hr hlk dX5_never_63
    · replace hf := (if_neg h802).symm.trans hf
      refine lv_iload_n C.1.1 C.1.2.1 dX5_never_29 rfl (lv_at hl 2 rfl) ?_
      refine lv_if_ne (tgt := 42) C.1.1 C.1.2.1 dX5_never_30 (by decide) (fun h804 => ?_) (fun h804 => ?_)
      · replace hf := (if_neg h804).symm.trans hf
        refine lv_iconst (v := (1 : Int32)) C.1.1 C.1.2.1 dX5_never_42 (by decide) ?_
        refine lv_goto (tgt := 47) C.1.1 C.1.2.1 dX5_never_43 (by decide) ?_
        refine lv_istore_n (lv' := [(2, .int (1 : Int32)), (0, .ref (zr G 44)), (1, .int x1), (3, .int x3)]) C.1.1 C.1.2.1 dX5_never_47 rfl hl (by decide) rfl (fun ls hl => ?_)
        refine lv_iinc (v := (x3 + 1)) (lv' := [(3, .int (x3 + 1)), (2, .int (1 : Int32)), (0, .ref (zr G 44)), (1, .int x1)]) C.1.1 C.1.2.1 dX5_never_48 hl (k := 3) rfl rfl (by decide) rfl (fun ls hl => ?_)
        refine lv_goto (tgt := 17) C.1.1 C.1.2.1 dX5_never_51 (by decide) ?_
        exact ih mem x1 (1 : Int32) (x3 + 1) _ _ _ Z (lv_sub hl [2, 3, 1, 0] rfl) hf
      · replace hf := (if_pos h804).symm.trans hf
        refine lv_aload_n C.1.1 C.1.2.1 dX5_never_33 rfl (lv_at hl 0 rfl) ?_
        refine lv_iload_n C.1.1 C.1.2.1 dX5_never_34 rfl (lv_at hl 3 rfl) ?_
        refine lv_iload_n C.1.1 C.1.2.1 dX5_never_35 rfl (lv_at hl 1 rfl) ?_
        obtain ⟨r805, mem805, hc805, hf⟩ := zb_some hf
        refine z_callVi (k := 44) (As := [.int x3, .int x1]) (rest := []) C Z (M_X5_would l G C.2.1 N mem x3 x1 r805 mem805 hc805) (zcw_X5_138 C.1.2.2.2.2 ⟨Nat.le_of_ble_eq_true rfl, Nat.le_of_ble_eq_true rfl⟩) (by decide) rfl rfl rfl hl.1 rfl (Nat.le_of_ble_eq_true rfl) ⟨Nat.le_refl 0, Nat.le_refl 0⟩ dX5_never_36 (fun H locs Z => ?_)
        refine lv_if_eq (tgt := 46) C.1.1 C.1.2.1 dX5_never_39 (by decide) (fun h806 => ?_) (fun h806 => ?_)
        · replace hf := (if_pos h806).symm.trans hf
          refine lv_iconst (v := (0 : Int32)) C.1.1 C.1.2.1 dX5_never_46 (by decide) ?_
          refine lv_istore_n (lv' := [(2, .int (0 : Int32)), (0, .ref (zr G 44)), (1, .int x1), (3, .int x3)]) C.1.1 C.1.2.1 dX5_never_47 rfl hl (by decide) rfl (fun ls hl => ?_)
          refine lv_iinc (v := (x3 + 1)) (lv' := [(3, .int (x3 + 1)), (2, .int (0 : Int32)), (0, .ref (zr G 44)), (1, .int x1)]) C.1.1 C.1.2.1 dX5_never_48 hl (k := 3) rfl rfl (by decide) rfl (fun ls hl => ?_)
          refine lv_goto (tgt := 17) C.1.1 C.1.2.1 dX5_never_51 (by decide) ?_
          exact ih mem805 x1 (0 : Int32) (x3 + 1) _ _ _ Z (lv_sub hl [2, 3, 1, 0] rfl) hf
        · replace hf := (if_neg h806).symm.trans hf
          refine lv_iconst (v := (1 : Int32)) C.1.1 C.1.2.1 dX5_never_42 (by decide) ?_
          refine lv_goto (tgt := 47) C.1.1 C.1.2.1 dX5_never_43 (by decide) ?_
          refine lv_istore_n (lv' := [(2, .int (1 : Int32)), (0, .ref (zr G 44)), (1, .int x1), (3, .int x3)]) C.1.1 C.1.2.1 dX5_never_47 rfl hl (by decide) rfl (fun ls hl => ?_)
          refine lv_iinc (v := (x3 + 1)) (lv' := [(3, .int (x3 + 1)), (2, .int (1 : Int32)), (0, .ref (zr G 44)), (1, .int x1)]) C.1.1 C.1.2.1 dX5_never_48 hl (k := 3) rfl rfl (by decide) rfl (fun ls hl => ?_)
          refine lv_goto (tgt := 17) C.1.1 C.1.2.1 dX5_never_51 (by decide) ?_
          exact ih mem805 x1 (1 : Int32) (x3 + 1) _ _ _ Z (lv_sub hl [2, 3, 1, 0] rfl) hf
set_option maxHeartbeats 4000000 in
set_option maxRecDepth 100000 in
theorem M_X5_never (l : Launch) (G : zG) (hG : zOK G) (N : Nat) (mem : zMem) (a1 : Int32) (r : Int32) (mem' : zMem) (hf : f_X5_never N mem a1 = some (r, mem')) : zM l G yX5_never cX5_never 4 (some .int) 5 110 [.ref (zr G 44), .int a1] mem (zQi G r mem') := by
  refine zStart hG (by decide +kernel) (Nat.le_of_ble_eq_true rfl) (fun p e s m below meth c C hr hlk ls hl Z => ?_)
  have hl : lv_has ls 4 [(0, .ref (zr G 44)), (1, .int a1)] := hl
  have C : zC (zAd G) G p s m _ c cX5_never 4 RX5 := C
  unfold f_X5_never at hf
  refine lv_iload_n C.1.1 C.1.2.1 dX5_never_0 rfl (lv_at hl 1 rfl) ?_
  refine lv_iconst (v := (0 : Int32)) C.1.1 C.1.2.1 dX5_never_1 (by decide) ?_
  refine lv_bipush (v := (99 : Int32)) C.1.1 C.1.2.1 dX5_never_2 (by decide) ?_
  obtain ⟨r807, mem807, hc807, hf⟩ := zb_some hf
  refine z_callSi (As := [.int a1, .int (0 : Int32), .int (99 : Int32)]) (rest := []) C Z (M_X5_in l G C.2.1 N mem a1 (0 : Int32) (99 : Int32) r807 mem807 hc807) (zcw_X5_44 C.1.2.2.2.2 ⟨Nat.le_of_ble_eq_true rfl, Nat.le_of_ble_eq_true rfl⟩) rfl hl.1 rfl (Nat.le_of_ble_eq_true rfl) ⟨Nat.le_refl 0, Nat.le_refl 0⟩ dX5_never_4 (fun H locs Z => ?_)
  refine lv_if_ne (tgt := 13) C.1.1 C.1.2.1 dX5_never_7 (by decide) (fun h808 => ?_) (fun h808 => ?_)
  · replace hf := (if_neg h808).symm.trans hf
    refine lv_iconst (v := (0 : Int32)) C.1.1 C.1.2.1 dX5_never_13 (by decide) ?_
    refine lv_istore_n (lv' := [(2, .int (0 : Int32)), (0, .ref (zr G 44)), (1, .int a1)]) C.1.1 C.1.2.1 dX5_never_14 rfl hl (by decide) rfl (fun ls hl => ?_)
    refine lv_iconst (v := (0 : Int32)) C.1.1 C.1.2.1 dX5_never_15 (by decide) ?_
    refine lv_istore_n (lv' := [(3, .int (0 : Int32)), (2, .int (0 : Int32)), (0, .ref (zr G 44)), (1, .int a1)]) C.1.1 C.1.2.1 dX5_never_16 rfl hl (by decide) rfl (fun ls hl => ?_)
    exact K_X5_never_17 (l := l) (e := e) (below := below) C hr hlk N N mem807 a1 (0 : Int32) (0 : Int32) _ _ _ Z (lv_sub hl [2, 3, 1, 0] rfl) hf
  · replace hf := (if_pos h808).symm.trans hf
    refine lv_bipush (v := (-3 : Int32)) C.1.1 C.1.2.1 dX5_never_10 (by decide) ?_
    cases hf
    exact z_iret C Z hr hlk dX5_never_12
