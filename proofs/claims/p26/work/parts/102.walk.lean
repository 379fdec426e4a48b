set_option maxHeartbeats 4000000 in
set_option maxRecDepth 100000 in
theorem M_X4_part (l : Launch) (G : zG) (hG : zOK G) (N : Nat) (mem : zMem) (a1 : Int32) (a2 : Int32) (r : Int32) (mem' : zMem) (hf : f_X4_part N mem a1 a2 = some (r, mem')) : zM l G yX4_part cX4_part 3 (some .int) 1 22 [.ref (zr G 0), .int a1, .int a2] mem (zQi G r mem') := by
  refine zStart hG (by decide +kernel) (Nat.le_of_ble_eq_true rfl) (fun p e s m below meth c C hr hlk ls hl Z => ?_)
  have hl : lv_has ls 3 [(0, .ref (zr G 0)), (1, .int a1), (2, .int a2)] := hl
  have C : zC (zAd G) G p s m _ c cX4_part 3 RX4 := C
  unfold f_X4_part at hf
  refine lv_aload_n C.1.1 C.1.2.1 dX4_part_0 rfl (lv_at hl 0 rfl) ?_
  refine lv_iload_n C.1.1 C.1.2.1 dX4_part_1 rfl (lv_at hl 1 rfl) ?_
  obtain ⟨r222, mem222, hc222, hf⟩ := zb_some hf
  refine z_callVi (k := 0) (As := [.int a1]) (rest := []) C Z (M_X4_isPart l G C.2.1 N mem a1 r222 mem222 hc222) (zcw_X4_104 C.1.2.2.2.2 ⟨Nat.le_of_ble_eq_true rfl, Nat.le_of_ble_eq_true rfl⟩) (by decide) rfl rfl rfl hl.1 rfl (Nat.le_of_ble_eq_true rfl) ⟨Nat.le_refl 0, Nat.le_refl 0⟩ dX4_part_2 (fun H locs Z => ?_)
  refine lv_if_ne (tgt := 11) C.1.1 C.1.2.1 dX4_part_5 (by decide) (fun h223 => ?_) (fun h223 => ?_)
  · replace hf := (if_neg h223).symm.trans hf
    refine lv_iload_n C.1.1 C.1.2.1 dX4_part_11 rfl (lv_at hl 2 rfl) ?_
    by_cases h224 : a2 = 0
    · replace hf := (if_pos h224).symm.trans hf
      refine lv_tableIn (off := 36) (tgt := 48) C.1.1 C.1.2.1 dX4_part_12 (by rw [h224]; decide) (by rw [h224]; decide) (by rw [h224]; rfl) (by decide) ?_
      refine lv_aload_n C.1.1 C.1.2.1 dX4_part_48 rfl (lv_at hl 0 rfl) ?_
      refine zg_X4_19 C Z dX4_part_49 ?_
      refine zg_X4_107 C Z dX4_part_52 ?_
      refine lv_iload_n C.1.1 C.1.2.1 dX4_part_55 rfl (lv_at hl 1 rfl) ?_
      obtain ⟨hi225, hf⟩ := zgd_some hf
      refine z_iald (k := 7) C Z (by decide) rfl hi225 dX4_part_56 ?_
      cases hf
      exact z_iret C Z hr hlk dX4_part_57
    replace hf := (if_neg h224).symm.trans hf
    by_cases h226 : a2 = 1
    · replace hf := (if_pos h226).symm.trans hf
      refine lv_tableIn (off := 46) (tgt := 58) C.1.1 C.1.2.1 dX4_part_12 (by rw [h226]; decide) (by rw [h226]; decide) (by rw [h226]; rfl) (by decide) ?_
      refine lv_aload_n C.1.1 C.1.2.1 dX4_part_58 rfl (lv_at hl 0 rfl) ?_
      refine zg_X4_19 C Z dX4_part_59 ?_
      refine zg_X4_110 C Z dX4_part_62 ?_
      refine lv_iload_n C.1.1 C.1.2.1 dX4_part_65 rfl (lv_at hl 1 rfl) ?_
      obtain ⟨hi227, hf⟩ := zgd_some hf
      refine z_iald (k := 8) C Z (by decide) rfl hi227 dX4_part_66 ?_
      cases hf
      exact z_iret C Z hr hlk dX4_part_67
    replace hf := (if_neg h226).symm.trans hf
    by_cases h228 : a2 = 2
    · replace hf := (if_pos h228).symm.trans hf
      refine lv_tableIn (off := 56) (tgt := 68) C.1.1 C.1.2.1 dX4_part_12 (by rw [h228]; decide) (by rw [h228]; decide) (by rw [h228]; rfl) (by decide) ?_
      refine lv_aload_n C.1.1 C.1.2.1 dX4_part_68 rfl (lv_at hl 0 rfl) ?_
      refine zg_X4_19 C Z dX4_part_69 ?_
      refine zg_X4_113 C Z dX4_part_72 ?_
      refine lv_iload_n C.1.1 C.1.2.1 dX4_part_75 rfl (lv_at hl 1 rfl) ?_
      obtain ⟨hi229, hf⟩ := zgd_some hf
      refine z_iald (k := 9) C Z (by decide) rfl hi229 dX4_part_76 ?_
      cases hf
      exact z_iret C Z hr hlk dX4_part_77
    replace hf := (if_neg h228).symm.trans hf
    by_cases h230 : a2 = 3
    · replace hf := (if_pos h230).symm.trans hf
      refine lv_tableIn (off := 66) (tgt := 78) C.1.1 C.1.2.1 dX4_part_12 (by rw [h230]; decide) (by rw [h230]; decide) (by rw [h230]; rfl) (by decide) ?_
      refine lv_aload_n C.1.1 C.1.2.1 dX4_part_78 rfl (lv_at hl 0 rfl) ?_
      refine zg_X4_19 C Z dX4_part_79 ?_
      refine zg_X4_107 C Z dX4_part_82 ?_
      refine lv_iload_n C.1.1 C.1.2.1 dX4_part_85 rfl (lv_at hl 1 rfl) ?_
      obtain ⟨hi231, hf⟩ := zgd_some hf
      refine z_iald (k := 7) C Z (by decide) rfl hi231 dX4_part_86 ?_
      refine lv_aload_n C.1.1 C.1.2.1 dX4_part_87 rfl (lv_at hl 0 rfl) ?_
      refine zg_X4_19 C Z dX4_part_88 ?_
      refine zg_X4_110 C Z dX4_part_91 ?_
      refine lv_iload_n C.1.1 C.1.2.1 dX4_part_94 rfl (lv_at hl 1 rfl) ?_
      obtain ⟨hi232, hf⟩ := zgd_some hf
      refine z_iald (k := 8) C Z (by decide) rfl hi232 dX4_part_95 ?_
      refine lv_aload_n C.1.1 C.1.2.1 dX4_part_96 rfl (lv_at hl 0 rfl) ?_
      refine zg_X4_26 C Z dX4_part_97 ?_
      refine zg_X4_116 (k := 11) (by decide) C Z dX4_part_100 ?_
      obtain ⟨r233, mem233, hc233, hf⟩ := zb_some hf
      refine z_callSi (As := [.int (mem222 7 a1.toNatClampNeg), .int (mem222 8 a1.toNatClampNeg), .int (mem222 11 3)]) (rest := []) C Z (M_X4_ouncesOf l G C.2.1 N mem222 (mem222 7 a1.toNatClampNeg) (mem222 8 a1.toNatClampNeg) (mem222 11 3) r233 mem233 hc233) (zcw_X4_119 C.1.2.2.2.2 ⟨Nat.le_of_ble_eq_true rfl, Nat.le_of_ble_eq_true rfl⟩) rfl hl.1 rfl (Nat.le_of_ble_eq_true rfl) ⟨Nat.le_refl 0, Nat.le_refl 0⟩ dX4_part_103 (fun H locs Z => ?_)
      cases hf
      exact z_iret C Z hr hlk dX4_part_106
    replace hf := (if_neg h230).symm.trans hf
    by_cases h234 : a2 = 4
    · replace hf := (if_pos h234).symm.trans hf
      refine lv_tableIn (off := 95) (tgt := 107) C.1.1 C.1.2.1 dX4_part_12 (by rw [h234]; decide) (by rw [h234]; decide) (by rw [h234]; rfl) (by decide) ?_
      refine lv_iload_n C.1.1 C.1.2.1 dX4_part_107 rfl (lv_at hl 1 rfl) ?_
      refine lv_aload_n C.1.1 C.1.2.1 dX4_part_108 rfl (lv_at hl 0 rfl) ?_
      refine zg_X4_26 C Z dX4_part_109 ?_
      refine zg_X4_123 (k := 11) (by decide) C Z dX4_part_112 ?_
      obtain ⟨r235, mem235, hc235, hf⟩ := zb_some hf
      refine z_callSi (As := [.int a1, .int (mem222 11 1)]) (rest := []) C Z (M_X4_isIn l G C.2.1 N mem222 a1 (mem222 11 1) r235 mem235 hc235) (zcw_X4_126 C.1.2.2.2.2 ⟨Nat.le_of_ble_eq_true rfl, Nat.le_of_ble_eq_true rfl⟩) rfl hl.1 rfl (Nat.le_of_ble_eq_true rfl) ⟨Nat.le_refl 0, Nat.le_refl 0⟩ dX4_part_115 (fun H locs Z => ?_)
      refine lv_if_eq (tgt := 125) C.1.1 C.1.2.1 dX4_part_118 (by decide) (fun h236 => ?_) (fun h236 => ?_)
      · replace hf := (if_pos h236).symm.trans hf
        refine lv_iconst (v := (0 : Int32)) C.1.1 C.1.2.1 dX4_part_125 (by decide) ?_
        cases hf
        exact z_iret C Z hr hlk dX4_part_126
      · replace hf := (if_neg h236).symm.trans hf
        refine lv_iconst (v := (1 : Int32)) C.1.1 C.1.2.1 dX4_part_121 (by decide) ?_
        refine lv_goto (tgt := 126) C.1.1 C.1.2.1 dX4_part_122 (by decide) ?_
        cases hf
        exact z_iret C Z hr hlk dX4_part_126
    replace hf := (if_neg h234).symm.trans hf
    have eh224 := lv_neT h224 (a := 0) rfl
    have eh226 := lv_neT h226 (a := 1) rfl
    have eh228 := lv_neT h228 (a := 2) rfl
    have eh230 := lv_neT h230 (a := 3) rfl
    have eh234 := lv_neT h234 (a := 4) rfl
    refine lv_tableOut (tgt := 127) C.1.1 C.1.2.1 dX4_part_12 (by omega) (by decide) ?_
    refine lv_bipush (v := (-3 : Int32)) C.1.1 C.1.2.1 dX4_part_127 (by decide) ?_
    cases hf
    exact z_iret C Z hr hlk dX4_part_129
  · replace hf := (if_pos h223).symm.trans hf
    refine lv_bipush (v := (-2 : Int32)) C.1.1 C.1.2.1 dX4_part_8 (by decide) ?_
    cases hf
    exact z_iret C Z hr hlk dX4_part_10
set_option maxHeartbeats 4000000 in
set_option maxRecDepth 100000 in
theorem M_X4_isSoul (l : Launch) (G : zG) (hG : zOK G) (N : Nat) (mem : zMem) (a1 : Int32) (r : Int32) (mem' : zMem) (hf : f_X4_isSoul N mem a1 = some (r, mem')) : zM l G yX4_isSoul cX4_isSoul 2 (some .boolean) 0 0 [.ref (zr G 0), .int a1] mem (zQi G r mem') := by
  refine zStart hG (by decide +kernel) (Nat.le_of_ble_eq_true rfl) (fun p e s m below meth c C hr hlk ls hl Z => ?_)
  have hl : lv_has ls 2 [(0, .ref (zr G 0)), (1, .int a1)] := hl
  have C : zC (zAd G) G p s m _ c cX4_isSoul 2 RX4 := C
  unfold f_X4_isSoul at hf
  refine lv_iload_n C.1.1 C.1.2.1 dX4_isSoul_0 rfl (lv_at hl 1 rfl) ?_
  refine lv_if_lt (tgt := 19) C.1.1 C.1.2.1 dX4_isSoul_1 (by decide) (fun h237 => ?_) (fun h237 => ?_)
  · replace hf := (if_pos h237).symm.trans hf
    refine lv_iconst (v := (0 : Int32)) C.1.1 C.1.2.1 dX4_isSoul_19 (by decide) ?_
    cases hf
    exact z_zret C Z hr hlk (by decide) dX4_isSoul_20
  · replace hf := (if_neg h237).symm.trans hf
    refine lv_iload_n C.1.1 C.1.2.1 dX4_isSoul_4 rfl (lv_at hl 1 rfl) ?_
    refine lv_aload_n C.1.1 C.1.2.1 dX4_isSoul_5 rfl (lv_at hl 0 rfl) ?_
    refine zg_X4_19 C Z dX4_isSoul_6 ?_
    refine zg_X4_67 C Z dX4_isSoul_9 ?_
    refine lv_icmp_ge (tgt := 19) C.1.1 C.1.2.1 dX4_isSoul_12 (by decide) (fun h238 => ?_) (fun h238 => ?_)
    · replace hf := (if_pos h238).symm.trans hf
      refine lv_iconst (v := (0 : Int32)) C.1.1 C.1.2.1 dX4_isSoul_19 (by decide) ?_
      cases hf
      exact z_zret C Z hr hlk (by decide) dX4_isSoul_20
    · replace hf := (if_neg h238).symm.trans hf
      refine lv_iconst (v := (1 : Int32)) C.1.1 C.1.2.1 dX4_isSoul_15 (by decide) ?_
      refine lv_goto (tgt := 20) C.1.1 C.1.2.1 dX4_isSoul_16 (by decide) ?_
      cases hf
      exact z_zret C Z hr hlk (by decide) dX4_isSoul_20
set_option maxHeartbeats 4000000 in
set_option maxRecDepth 100000 in
theorem M_X4_sins (l : Launch) (G : zG) (hG : zOK G) (N : Nat) (mem : zMem) (a1 : Int32) (r : Int32) (mem' : zMem) (hf : f_X4_sins N mem a1 = some (r, mem')) : zM l G yX4_sins cX4_sins 2 (some .int) 1 21 [.ref (zr G 0), .int a1] mem (zQi G r mem') := by
  refine zStart hG (by decide +kernel) (Nat.le_of_ble_eq_true rfl) (fun p e s m below meth c C hr hlk ls hl Z => ?_)
  have hl : lv_has ls 2 [(0, .ref (zr G 0)), (1, .int a1)] := hl
  have C : zC (zAd G) G p s m _ c cX4_sins 2 RX4 := C
  unfold f_X4_sins at hf
  refine lv_aload_n C.1.1 C.1.2.1 dX4_sins_0 rfl (lv_at hl 0 rfl) ?_
  refine lv_iload_n C.1.1 C.1.2.1 dX4_sins_1 rfl (lv_at hl 1 rfl) ?_
  obtain ⟨r239, mem239, hc239, hf⟩ := zb_some hf
  refine z_callVi (k := 0) (As := [.int a1]) (rest := []) C Z (M_X4_isSoul l G C.2.1 N mem a1 r239 mem239 hc239) (zcw_X4_130 C.1.2.2.2.2 ⟨Nat.le_of_ble_eq_true rfl, Nat.le_of_ble_eq_true rfl⟩) (by decide) rfl rfl rfl hl.1 rfl (Nat.le_of_ble_eq_true rfl) ⟨Nat.le_refl 0, Nat.le_refl 0⟩ dX4_sins_2 (fun H locs Z => ?_)
  refine lv_if_eq (tgt := 20) C.1.1 C.1.2.1 dX4_sins_5 (by decide) (fun h240 => ?_) (fun h240 => ?_)
  · replace hf := (if_pos h240).symm.trans hf
    refine lv_bipush (v := (-2 : Int32)) C.1.1 C.1.2.1 dX4_sins_20 (by decide) ?_
    cases hf
    exact z_iret C Z hr hlk dX4_sins_22
  · replace hf := (if_neg h240).symm.trans hf
    refine lv_aload_n C.1.1 C.1.2.1 dX4_sins_8 rfl (lv_at hl 0 rfl) ?_
    refine zg_X4_26 C Z dX4_sins_9 ?_
    refine zg_X4_133 (k := 11) (by decide) C Z dX4_sins_12 ?_
    refine lv_iload_n C.1.1 C.1.2.1 dX4_sins_15 rfl (lv_at hl 1 rfl) ?_
    obtain ⟨hi241, hf⟩ := zgd_some hf
    refine z_iald (k := 12) C Z (by decide) rfl hi241 dX4_sins_16 ?_
    refine lv_goto (tgt := 22) C.1.1 C.1.2.1 dX4_sins_17 (by decide) ?_
    cases hf
    exact z_iret C Z hr hlk dX4_sins_22
set_option maxHeartbeats 4000000 in
set_option maxRecDepth 100000 in
theorem K_X4_isTakenAs_25 {p : Program} {l : Launch} {e : Env} {s : State} {m : MethodId} {args : Array Value} {below : List Frame} {meth : Method} {c : Code} {G : zG} (C : zC (zAd G) G p s m args c cX4_isTakenAs 4 RX4) (hr : meth.sig.returnType = (some .boolean)) (hlk : meth.locks = false) {r : Int32} {mem' : zMem} (N : Nat) (mem : zMem) (x0 : Int32) (x1 : Int32) (x2 : Int32) (s0 : Int32) (H : Heap) (locs : List Loc) (ls : Array Slot) (Z : zH (zAd G) G s mem H locs) (hl : lv_has ls 4 [(0, .int x0), (1, .int x1), (2, .int x2)]) (hf : f_X4_isTakenAs_25 N mem x0 x1 x2 s0 = some (r, mem')) : W p l e ({ frames := 0, cells := 0, slots := 0, locals := 0 } : Room) s m args below meth c H locs 0 0 (MQ below (zQi G r mem') args s 0 0 (zAd G)) (F0 m 25 ls [.int s0]) := by
  unfold f_X4_isTakenAs_25 at hf
  refine lv_istore_n (lv' := [(3, .int s0), (0, .int x0), (1, .int x1), (2, .int x2)]) C.1.1 C.1.2.1 dX4_isTakenAs_25 rfl hl (by decide) rfl (fun ls hl => ?_)
  refine lv_iload_n C.1.1 C.1.2.1 dX4_isTakenAs_26 rfl (lv_at hl 3 rfl) ?_
  refine lv_if_ne (tgt := 41) C.1.1 C.1.2.1 dX4_isTakenAs_27 (by decide) (fun h242 => ?_) (fun h242 => ?_)
  · replace hf := (if_neg h242).symm.trans hf
    refine lv_iconst (v := (1 : Int32)) C.1.1 C.1.2.1 dX4_isTakenAs_41 (by decide) ?_
    refine lv_goto (tgt := 46) C.1.1 C.1.2.1 dX4_isTakenAs_42 (by decide) ?_
    cases hf
    exact z_zret C Z hr hlk (by decide) dX4_isTakenAs_46
  · replace hf := (if_pos h242).symm.trans hf
    refine lv_iload_n C.1.1 C.1.2.1 dX4_isTakenAs_30 rfl (lv_at hl 0 rfl) ?_
    refine lv_if_ne (tgt := 41) C.1.1 C.1.2.1 dX4_isTakenAs_31 (by decide) (fun h243 => ?_) (fun h243 => ?_)
    · replace hf := (if_neg h243).symm.trans hf
      refine lv_iconst (v := (1 : Int32)) C.1.1 C.1.2.1 dX4_isTakenAs_41 (by decide) ?_
      refine lv_goto (tgt := 46) C.1.1 C.1.2.1 dX4_isTakenAs_42 (by decide) ?_
      cases hf
      exact z_zret C Z hr hlk (by decide) dX4_isTakenAs_46
    · replace hf := (if_pos h243).symm.trans hf
      refine lv_iload_n C.1.1 C.1.2.1 dX4_isTakenAs_34 rfl (lv_at hl 2 rfl) ?_
      refine lv_iload_n C.1.1 C.1.2.1 dX4_isTakenAs_35 rfl (lv_at hl 1 rfl) ?_
      refine lv_iconst (v := (1 : Int32)) C.1.1 C.1.2.1 dX4_isTakenAs_36 (by decide) ?_
      refine lv_iadd C.1.1 C.1.2.1 dX4_isTakenAs_37 ?_
      refine lv_icmp_ne (tgt := 45) C.1.1 C.1.2.1 dX4_isTakenAs_38 (by decide) (fun h244 => ?_) (fun h244 => ?_)
      · replace hf := (if_neg h244).symm.trans hf
        refine lv_iconst (v := (0 : Int32)) C.1.1 C.1.2.1 dX4_isTakenAs_45 (by decide) ?_
        cases hf
        exact z_zret C Z hr hlk (by decide) dX4_isTakenAs_46
      · replace hf := (if_pos h244).symm.trans hf
        refine lv_iconst (v := (1 : Int32)) C.1.1 C.1.2.1 dX4_isTakenAs_41 (by decide) ?_
        refine lv_goto (tgt := 46) C.1.1 C.1.2.1 dX4_isTakenAs_42 (by decide) ?_
        cases hf
        exact z_zret C Z hr hlk (by decide) dX4_isTakenAs_46
set_option maxHeartbeats 4000000 in
set_option maxRecDepth 100000 in
theorem K_X4_isTakenAs_24 {p : Program} {l : Launch} {e : Env} {s : State} {m : MethodId} {args : Array Value} {below : List Frame} {meth : Method} {c : Code} {G : zG} (C : zC (zAd G) G p s m args c cX4_isTakenAs 4 RX4) (hr : meth.sig.returnType = (some .boolean)) (hlk : meth.locks = false) {r : Int32} {mem' : zMem} (N : Nat) (mem : zMem) (x0 : Int32) (x1 : Int32) (x2 : Int32) (H : Heap) (locs : List Loc) (ls : Array Slot) (Z : zH (zAd G) G s mem H locs) (hl : lv_has ls 4 [(0, .int x0), (1, .int x1), (2, .int x2)]) (hf : f_X4_isTakenAs_24 N mem x0 x1 x2 = some (r, mem')) : W p l e ({ frames := 0, cells := 0, slots := 0, locals := 0 } : Room) s m args below meth c H locs 0 0 (MQ below (zQi G r mem') args s 0 0 (zAd G)) (F0 m 24 ls []) := by
  unfold f_X4_isTakenAs_24 at hf
  refine lv_iconst (v := (0 : Int32)) C.1.1 C.1.2.1 dX4_isTakenAs_24 (by decide) ?_
  exact K_X4_isTakenAs_25 (l := l) (e := e) (below := below) C hr hlk N mem x0 x1 x2 (0 : Int32) _ _ _ Z (lv_sub hl [0, 1, 2] rfl) hf
set_option maxHeartbeats 4000000 in
set_option maxRecDepth 100000 in
theorem K_X4_isTakenAs_9 {p : Program} {l : Launch} {e : Env} {s : State} {m : MethodId} {args : Array Value} {below : List Frame} {meth : Method} {c : Code} {G : zG} (C : zC (zAd G) G p s m args c cX4_isTakenAs 4 RX4) (hr : meth.sig.returnType = (some .boolean)) (hlk : meth.locks = false) {r : Int32} {mem' : zMem} (N : Nat) (mem : zMem) (x0 : Int32) (x1 : Int32) (s0 : Int32) (H : Heap) (locs : List Loc) (ls : Array Slot) (Z : zH (zAd G) G s mem H locs) (hl : lv_has ls 4 [(0, .int x0), (1, .int x1)]) (hf : f_X4_isTakenAs_9 N mem x0 x1 s0 = some (r, mem')) : W p l e ({ frames := 0, cells := 0, slots := 0, locals := 0 } : Room) s m args below meth c H locs 0 0 (MQ below (zQi G r mem') args s 0 0 (zAd G)) (F0 m 9 ls [.int s0]) := by
  unfold f_X4_isTakenAs_9 at hf
  refine lv_istore_n (lv' := [(2, .int s0), (0, .int x0), (1, .int x1)]) C.1.1 C.1.2.1 dX4_isTakenAs_9 rfl hl (by decide) rfl (fun ls hl => ?_)
  refine lv_iload_n C.1.1 C.1.2.1 dX4_isTakenAs_10 rfl (lv_at hl 2 rfl) ?_
  refine lv_iconst (v := (1 : Int32)) C.1.1 C.1.2.1 dX4_isTakenAs_11 (by decide) ?_
  refine lv_icmp_ne (tgt := 24) C.1.1 C.1.2.1 dX4_isTakenAs_12 (by decide) (fun h245 => ?_) (fun h245 => ?_)
  · replace hf := (if_neg h245).symm.trans hf
    exact K_X4_isTakenAs_24 (l := l) (e := e) (below := below) C hr hlk N mem x0 x1 s0 _ _ _ Z (lv_sub hl [1, 2, 0] rfl) hf
  · replace hf := (if_pos h245).symm.trans hf
    refine lv_iload_n C.1.1 C.1.2.1 dX4_isTakenAs_15 rfl (lv_at hl 1 rfl) ?_
    refine lv_iconst (v := (3 : Int32)) C.1.1 C.1.2.1 dX4_isTakenAs_16 (by decide) ?_
    refine lv_icmp_eq (tgt := 24) C.1.1 C.1.2.1 dX4_isTakenAs_17 (by decide) (fun h246 => ?_) (fun h246 => ?_)
    · replace hf := (if_pos h246).symm.trans hf
      exact K_X4_isTakenAs_24 (l := l) (e := e) (below := below) C hr hlk N mem x0 x1 s0 _ _ _ Z (lv_sub hl [1, 2, 0] rfl) hf
    · replace hf := (if_neg h246).symm.trans hf
      refine lv_iconst (v := (1 : Int32)) C.1.1 C.1.2.1 dX4_isTakenAs_20 (by decide) ?_
      refine lv_goto (tgt := 25) C.1.1 C.1.2.1 dX4_isTakenAs_21 (by decide) ?_
      exact K_X4_isTakenAs_25 (l := l) (e := e) (below := below) C hr hlk N mem x0 x1 s0 (1 : Int32) _ _ _ Z (lv_sub hl [1, 2, 0] rfl) hf
set_option maxHeartbeats 4000000 in
set_option maxRecDepth 100000 in
theorem M_X4_isTakenAs (l : Launch) (G : zG) (hG : zOK G) (N : Nat) (mem : zMem) (a1 : Int32) (a2 : Int32) (r : Int32) (mem' : zMem) (hf : f_X4_isTakenAs N mem a1 a2 = some (r, mem')) : zM l G yX4_isTakenAs cX4_isTakenAs 4 (some .boolean) 0 0 [.int a1, .int a2] mem (zQi G r mem') := by
  refine zStart hG (by decide +kernel) (Nat.le_of_ble_eq_true rfl) (fun p e s m below meth c C hr hlk ls hl Z => ?_)
  have hl : lv_has ls 4 [(0, .int a1), (1, .int a2)] := hl
  have C : zC (zAd G) G p s m _ c cX4_isTakenAs 4 RX4 := C
  unfold f_X4_isTakenAs at hf
  refine lv_iload_n C.1.1 C.1.2.1 dX4_isTakenAs_0 rfl (lv_at hl 1 rfl) ?_
  refine lv_if_ne (tgt := 8) C.1.1 C.1.2.1 dX4_isTakenAs_1 (by decide) (fun h247 => ?_) (fun h247 => ?_)
  · replace hf := (if_neg h247).symm.trans hf
    refine lv_iconst (v := (0 : Int32)) C.1.1 C.1.2.1 dX4_isTakenAs_8 (by decide) ?_
    exact K_X4_isTakenAs_9 (l := l) (e := e) (below := below) C hr hlk N mem a1 a2 (0 : Int32) _ _ _ Z (lv_sub hl [0, 1] rfl) hf
  · replace hf := (if_pos h247).symm.trans hf
    refine lv_iconst (v := (1 : Int32)) C.1.1 C.1.2.1 dX4_isTakenAs_4 (by decide) ?_
    refine lv_goto (tgt := 9) C.1.1 C.1.2.1 dX4_isTakenAs_5 (by decide) ?_
    exact K_X4_isTakenAs_9 (l := l) (e := e) (below := below) C hr hlk N mem a1 a2 (1 : Int32) _ _ _ Z (lv_sub hl [0, 1] rfl) hf
set_option maxHeartbeats 4000000 in
set_option maxRecDepth 100000 in
theorem M_X4_as (l : Launch) (G : zG) (hG : zOK G) (N : Nat) (mem : zMem) (a1 : Int32) (a2 : Int32) (r : Int32) (mem' : zMem) (hf : f_X4_as N mem a1 a2 = some (r, mem')) : zM l G yX4_as cX4_as 3 (some .int) 1 23 [.ref (zr G 0), .int a1, .int a2] mem (zQi G r mem') := by
  refine zStart hG (by decide +kernel) (Nat.le_of_ble_eq_true rfl) (fun p e s m below meth c C hr hlk ls hl Z => ?_)
  have hl : lv_has ls 3 [(0, .ref (zr G 0)), (1, .int a1), (2, .int a2)] := hl
  have C : zC (zAd G) G p s m _ c cX4_as 3 RX4 := C
  unfold f_X4_as at hf
  refine lv_aload_n C.1.1 C.1.2.1 dX4_as_0 rfl (lv_at hl 0 rfl) ?_
  refine lv_iload_n C.1.1 C.1.2.1 dX4_as_1 rfl (lv_at hl 1 rfl) ?_
  obtain ⟨r248, mem248, hc248, hf⟩ := zb_some hf
  refine z_callVi (k := 0) (As := [.int a1]) (rest := []) C Z (M_X4_isPart l G C.2.1 N mem a1 r248 mem248 hc248) (zcw_X4_104 C.1.2.2.2.2 ⟨Nat.le_of_ble_eq_true rfl, Nat.le_of_ble_eq_true rfl⟩) (by decide) rfl rfl rfl hl.1 rfl (Nat.le_of_ble_eq_true rfl) ⟨Nat.le_refl 0, Nat.le_refl 0⟩ dX4_as_2 (fun H locs Z => ?_)
  refine lv_if_ne (tgt := 11) C.1.1 C.1.2.1 dX4_as_5 (by decide) (fun h249 => ?_) (fun h249 => ?_)
  · replace hf := (if_neg h249).symm.trans hf
    refine lv_iload_n C.1.1 C.1.2.1 dX4_as_11 rfl (lv_at hl 2 rfl) ?_
    refine lv_iconst (v := (0 : Int32)) C.1.1 C.1.2.1 dX4_as_12 (by decide) ?_
    refine lv_iconst (v := (4 : Int32)) C.1.1 C.1.2.1 dX4_as_13 (by decide) ?_
    obtain ⟨r250, mem250, hc250, hf⟩ := zb_some hf
    refine z_callSi (As := [.int a2, .int (0 : Int32), .int (4 : Int32)]) (rest := []) C Z (M_X4_isWithin l G C.2.1 N mem248 a2 (0 : Int32) (4 : Int32) r250 mem250 hc250) (zcw_X4_52 C.1.2.2.2.2 ⟨Nat.le_of_ble_eq_true rfl, Nat.le_of_ble_eq_true rfl⟩) rfl hl.1 rfl (Nat.le_of_ble_eq_true rfl) ⟨Nat.le_refl 0, Nat.le_refl 0⟩ dX4_as_14 (fun H locs Z => ?_)
    refine lv_if_ne (tgt := 23) C.1.1 C.1.2.1 dX4_as_17 (by decide) (fun h251 => ?_) (fun h251 => ?_)
    · replace hf := (if_neg h251).symm.trans hf
      refine lv_aload_n C.1.1 C.1.2.1 dX4_as_23 rfl (lv_at hl 0 rfl) ?_
      refine zg_X4_19 C Z dX4_as_24 ?_
      refine zg_X4_107 C Z dX4_as_27 ?_
      refine lv_iload_n C.1.1 C.1.2.1 dX4_as_30 rfl (lv_at hl 1 rfl) ?_
      obtain ⟨hi252, hf⟩ := zgd_some hf
      refine z_iald (k := 7) C Z (by decide) rfl hi252 dX4_as_31 ?_
      refine lv_iload_n C.1.1 C.1.2.1 dX4_as_32 rfl (lv_at hl 2 rfl) ?_
      obtain ⟨r253, mem253, hc253, hf⟩ := zb_some hf
      refine z_callSi (As := [.int (mem250 7 a1.toNatClampNeg), .int a2]) (rest := []) C Z (M_X4_isTakenAs l G C.2.1 N mem250 (mem250 7 a1.toNatClampNeg) a2 r253 mem253 hc253) (zcw_X4_136 C.1.2.2.2.2 ⟨Nat.le_of_ble_eq_true rfl, Nat.le_of_ble_eq_true rfl⟩) rfl hl.1 rfl (Nat.le_of_ble_eq_true rfl) ⟨Nat.le_refl 0, Nat.le_refl 0⟩ dX4_as_33 (fun H locs Z => ?_)
      refine lv_if_ne (tgt := 42) C.1.1 C.1.2.1 dX4_as_36 (by decide) (fun h254 => ?_) (fun h254 => ?_)
      · replace hf := (if_neg h254).symm.trans hf
        refine lv_aload_n C.1.1 C.1.2.1 dX4_as_42 rfl (lv_at hl 0 rfl) ?_
        refine zg_X4_19 C Z dX4_as_43 ?_
        refine zg_X4_107 C Z dX4_as_46 ?_
        refine lv_iload_n C.1.1 C.1.2.1 dX4_as_49 rfl (lv_at hl 1 rfl) ?_
        obtain ⟨hi255, hf⟩ := zgd_some hf
        refine z_iald (k := 7) C Z (by decide) rfl hi255 dX4_as_50 ?_
        refine lv_aload_n C.1.1 C.1.2.1 dX4_as_51 rfl (lv_at hl 0 rfl) ?_
        refine zg_X4_19 C Z dX4_as_52 ?_
        refine zg_X4_110 C Z dX4_as_55 ?_
        refine lv_iload_n C.1.1 C.1.2.1 dX4_as_58 rfl (lv_at hl 1 rfl) ?_
        obtain ⟨hi256, hf⟩ := zgd_some hf
        refine z_iald (k := 8) C Z (by decide) rfl hi256 dX4_as_59 ?_
        refine lv_bipush (v := (9 : Int32)) C.1.1 C.1.2.1 dX4_as_60 (by decide) ?_
        obtain ⟨r257, mem257, hc257, hf⟩ := zb_some hf
        refine z_callSi (As := [.int (mem253 7 a1.toNatClampNeg), .int (mem253 8 a1.toNatClampNeg), .int (9 : Int32)]) (rest := []) C Z (M_X4_ouncesOf l G C.2.1 N mem253 (mem253 7 a1.toNatClampNeg) (mem253 8 a1.toNatClampNeg) (9 : Int32) r257 mem257 hc257) (zcw_X4_119 C.1.2.2.2.2 ⟨Nat.le_of_ble_eq_true rfl, Nat.le_of_ble_eq_true rfl⟩) rfl hl.1 rfl (Nat.le_of_ble_eq_true rfl) ⟨Nat.le_refl 0, Nat.le_refl 0⟩ dX4_as_62 (fun H locs Z => ?_)
        cases hf
        exact z_iret C Z hr hlk dX4_as_65
      · replace hf := (if_pos h254).symm.trans hf
        refine lv_bipush (v := (-4 : Int32)) C.1.1 C.1.2.1 dX4_as_39 (by decide) ?_
        cases hf
        exact z_iret C Z hr hlk dX4_as_41
    · replace hf := (if_pos h251).symm.trans hf
      refine lv_bipush (v := (-3 : Int32)) C.1.1 C.1.2.1 dX4_as_20 (by decide) ?_
      cases hf
      exact z_iret C Z hr hlk dX4_as_22
  · replace hf := (if_pos h249).symm.trans hf
    refine lv_bipush (v := (-2 : Int32)) C.1.1 C.1.2.1 dX4_as_8 (by decide) ?_
    cases hf
    exact z_iret C Z hr hlk dX4_as_10
set_option maxHeartbeats 4000000 in
set_option maxRecDepth 100000 in
theorem M_X4_sermonOf (l : Launch) (G : zG) (hG : zOK G) (N : Nat) (mem : zMem) (a1 : Int32) (r : Int32) (mem' : zMem) (hf : f_X4_sermonOf N mem a1 = some (r, mem')) : zM l G yX4_sermonOf cX4_sermonOf 2 (some .int) 2 46 [.ref (zr G 0), .int a1] mem (zQi G r mem') := by
  refine zStart hG (by decide +kernel) (Nat.le_of_ble_eq_true rfl) (fun p e s m below meth c C hr hlk ls hl Z => ?_)
  have hl : lv_has ls 2 [(0, .ref (zr G 0)), (1, .int a1)] := hl
  have C : zC (zAd G) G p s m _ c cX4_sermonOf 2 RX4 := C
  unfold f_X4_sermonOf at hf
  refine lv_aload_n C.1.1 C.1.2.1 dX4_sermonOf_0 rfl (lv_at hl 0 rfl) ?_
  refine zg_X4_19 C Z dX4_sermonOf_1 ?_
  refine lv_iload_n C.1.1 C.1.2.1 dX4_sermonOf_4 rfl (lv_at hl 1 rfl) ?_
  refine lv_aload_n C.1.1 C.1.2.1 dX4_sermonOf_5 rfl (lv_at hl 0 rfl) ?_
  refine zg_X4_26 C Z dX4_sermonOf_6 ?_
  refine zg_X4_116 (k := 11) (by decide) C Z dX4_sermonOf_9 ?_
  obtain ⟨r258, mem258, hc258, hf⟩ := zb_some hf
  refine z_callVi (k := 6) (As := [.int a1, .int (mem 11 3)]) (rest := []) C Z (M_X1_ouncesOfSet l G C.2.1 N mem a1 (mem 11 3) r258 mem258 hc258) (zcw_X4_223 C.1.2.2.2.2 ⟨Nat.le_of_ble_eq_true rfl, Nat.le_of_ble_eq_true rfl⟩) (by decide) rfl rfl rfl hl.1 rfl (Nat.le_of_ble_eq_true rfl) ⟨Nat.le_refl 0, Nat.le_refl 0⟩ dX4_sermonOf_12 (fun H locs Z => ?_)
  refine lv_aload_n C.1.1 C.1.2.1 dX4_sermonOf_15 rfl (lv_at hl 0 rfl) ?_
  refine zg_X4_19 C Z dX4_sermonOf_16 ?_
  refine zg_X4_265 C Z dX4_sermonOf_19 ?_
  refine lv_iadd C.1.1 C.1.2.1 dX4_sermonOf_22 ?_
  cases hf
  exact z_iret C Z hr hlk dX4_sermonOf_23
set_option maxHeartbeats 4000000 in
set_option maxRecDepth 100000 in
theorem K_X4_leadWithout_11 {p : Program} {l : Launch} {e : Env} {s : State} {m : MethodId} {args : Array Value} {below : List Frame} {meth : Method} {c : Code} {G : zG} (C : zC (zAd G) G p s m args c cX4_leadWithout 4 RX4) (hr : meth.sig.returnType = (some .int)) (hlk : meth.locks = false) {r : Int32} {mem' : zMem} (N : Nat) : ∀ (n : Nat) (mem : zMem) (x1 : Int32) (x2 : Int32) (x3 : Int32) (H : Heap) (locs : List Loc) (ls : Array Slot), zH (zAd G) G s mem H locs → lv_has ls 4 [(0, .ref (zr G 0)), (1, .int x1), (2, .int x2), (3, .int x3)] → f_X4_leadWithout_11 N n mem x1 x2 x3 = some (r, mem') → W p l e ({ frames := 1, cells := 0, slots := 0, locals := 21 } : Room) s m args below meth c H locs 0 0 (MQ below (zQi G r mem') args s 0 0 (zAd G)) (F0 m 11 ls []) := by
  intro n
  induction n with
  | zero =>
    intro mem x1 x2 x3 H locs ls Z hl hf
    rw [f_X4_leadWithout_11.eq_1] at hf
    cases hf
  | succ n ih =>
    intro mem x1 x2 x3 H locs ls Z hl hf
    rw [f_X4_leadWithout_11.eq_2] at hf
    refine lv_iload_n C.1.1 C.1.2.1 dX4_leadWithout_11 rfl (lv_at hl 3 rfl) ?_
    refine lv_aload_n C.1.1 C.1.2.1 dX4_leadWithout_12 rfl (lv_at hl 0 rfl) ?_
    refine zg_X4_19 C Z dX4_leadWithout_13 ?_
    refine zg_X4_67 C Z dX4_leadWithout_16 ?_
    refine lv_icmp_ge (tgt := 48) C.1.1 C.1.2.1 dX4_leadWithout_19 (by decide) (fun h259 => ?_) (fun h259 => ?_)
    · replace hf := (if_pos h259).symm.trans hf
      refine lv_iload_n C.1.1 C.1.2.1 dX4_leadWithout_48 rfl (lv_at hl 2 rfl) ?_
      refine lv_iconst (v := (0 : Int32)) C.1.1 C.1.2.1 dX4_leadWithout_49 (by decide) ?_
      refine va_mmax C.1.1 C.1.2.1 (C.1.2.2.1.trans hl.1.symm) C.1.2.2.2.1 (C.1.2.2.2.2 _ lkM_X4_253) (C.1.2.2.2.2 _ lkS_J9_max_7cf53) (C.1.2.2.2.2 _ lkN_J9) (C.1.2.2.2.2 _ lkC_J9_max_7cf53) (Nat.le_of_ble_eq_true rfl) (Nat.le_of_ble_eq_true rfl) (Nat.le_refl 0) (Nat.le_refl 0) dX4_leadWithout_50 ?_
      cases hf
      exact z_iret C Z hr hlk dX4_leadWithout_53
    · replace hf := (if_neg h259).symm.trans hf
      refine lv_iload_n C.1.1 C.1.2.1 dX4_leadWithout_22 rfl (lv_at hl 3 rfl) ?_
      refine lv_iload_n C.1.1 C.1.2.1 dX4_leadWithout_23 rfl (lv_at hl 1 rfl) ?_
      obtain ⟨r260, mem260, hc260, hf⟩ := zb_some hf
      refine z_callSi (As := [.int x3, .int x1]) (rest := []) C Z (M_X4_isIn l G C.2.1 N mem x3 x1 r260 mem260 hc260) (zcw_X4_126 C.1.2.2.2.2 ⟨Nat.le_of_ble_eq_true rfl, Nat.le_of_ble_eq_true rfl⟩) rfl hl.1 rfl (Nat.le_of_ble_eq_true rfl) ⟨Nat.le_refl 0, Nat.le_refl 0⟩ dX4_leadWithout_24 (fun H locs Z => ?_)
      refine lv_if_ne (tgt := 42) C.1.1 C.1.2.1 dX4_leadWithout_27 (by decide) (fun h261 => ?_) (fun h261 => ?_)
      · replace hf := (if_neg h261).symm.trans hf
        refine lv_iinc (v := (x3 + 1)) (lv' := [(3, .int (x3 + 1)), (0, .ref (zr G 0)), (1, .int x1), (2, .int x2)]) C.1.1 C.1.2.1 dX4_leadWithout_42 hl (k := 3) rfl rfl (by decide) rfl (fun ls hl => ?_)
        refine lv_goto (tgt := 11) C.1.1 C.1.2.1 dX4_leadWithout_45 (by decide) ?_
        exact ih mem260 x1 x2 (x3 + 1) _ _ _ Z (lv_sub hl [1, 2, 3, 0] rfl) hf
      · replace hf := (if_pos h261).symm.trans hf
        refine lv_iload_n C.1.1 C.1.2.1 dX4_leadWithout_30 rfl (lv_at hl 2 rfl) ?_
        refine lv_aload_n C.1.1 C.1.2.1 dX4_leadWithout_31 rfl (lv_at hl 0 rfl) ?_
        refine zg_X4_26 C Z dX4_leadWithout_32 ?_
        refine zg_X4_133 (k := 11) (by decide) C Z dX4_leadWithout_35 ?_
        refine lv_iload_n C.1.1 C.1.2.1 dX4_leadWithout_38 rfl (lv_at hl 3 rfl) ?_
        obtain ⟨hi262, hf⟩ := zgd_some hf
        refine z_iald (k := 12) C Z (by decide) rfl hi262 dX4_leadWithout_39 ?_
        refine lv_iadd C.1.1 C.1.2.1 dX4_leadWithout_40 ?_
        refine lv_istore_n (lv' := [(2, .int (x2 + (mem260 12 x3.toNatClampNeg))), (0, .ref (zr G 0)), (1, .int x1), (3, .int x3)]) C.1.1 C.1.2.1 dX4_leadWithout_41 rfl hl (by decide) rfl (fun ls hl => ?_)
        refine lv_iinc (v := (x3 + 1)) (lv' := [(3, .int (x3 + 1)), (2, .int (x2 + (mem260 12 x3.toNatClampNeg))), (0, .ref (zr G 0)), (1, .int x1)]) C.1.1 C.1.2.1 dX4_leadWithout_42 hl (k := 3) rfl rfl (by decide) rfl (fun ls hl => ?_)
        refine lv_goto (tgt := 11) C.1.1 C.1.2.1 dX4_leadWithout_45 (by decide) ?_
        exact ih mem260 x1 (x2 + (mem260 12 x3.toNatClampNeg)) (x3 + 1) _ _ _ Z (lv_sub hl [2, 3, 1, 0] rfl) hf
set_option maxHeartbeats 4000000 in
set_option maxRecDepth 100000 in
theorem M_X4_leadWithout (l : Launch) (G : zG) (hG : zOK G) (N : Nat) (mem : zMem) (a1 : Int32) (r : Int32) (mem' : zMem) (hf : f_X4_leadWithout N mem a1 = some (r, mem')) : zM l G yX4_leadWithout cX4_leadWithout 4 (some .int) 1 21 [.ref (zr G 0), .int a1] mem (zQi G r mem') := by
  refine zStart hG (by decide +kernel) (Nat.le_of_ble_eq_true rfl) (fun p e s m below meth c C hr hlk ls hl Z => ?_)
  have hl : lv_has ls 4 [(0, .ref (zr G 0)), (1, .int a1)] := hl
  have C : zC (zAd G) G p s m _ c cX4_leadWithout 4 RX4 := C
  unfold f_X4_leadWithout at hf
  refine lv_aload_n C.1.1 C.1.2.1 dX4_leadWithout_0 rfl (lv_at hl 0 rfl) ?_
  refine zg_X4_26 C Z dX4_leadWithout_1 ?_
  refine zg_X4_161 (k := 11) (by decide) C Z dX4_leadWithout_4 ?_
  refine lv_ineg C.1.1 C.1.2.1 dX4_leadWithout_7 ?_
  refine lv_istore_n (lv' := [(2, .int (-(mem 11 2))), (0, .ref (zr G 0)), (1, .int a1)]) C.1.1 C.1.2.1 dX4_leadWithout_8 rfl hl (by decide) rfl (fun ls hl => ?_)
  refine lv_iconst (v := (0 : Int32)) C.1.1 C.1.2.1 dX4_leadWithout_9 (by decide) ?_
  refine lv_istore_n (lv' := [(3, .int (0 : Int32)), (2, .int (-(mem 11 2))), (0, .ref (zr G 0)), (1, .int a1)]) C.1.1 C.1.2.1 dX4_leadWithout_10 rfl hl (by decide) rfl (fun ls hl => ?_)
  exact K_X4_leadWithout_11 (l := l) (e := e) (below := below) C hr hlk N N mem a1 (-(mem 11 2)) (0 : Int32) _ _ _ Z (lv_sub hl [2, 3, 1, 0] rfl) hf
set_option maxHeartbeats 4000000 in
set_option maxRecDepth 100000 in
theorem M_X4_leadNow (l : Launch) (G : zG) (hG : zOK G) (N : Nat) (mem : zMem) (r : Int32) (mem' : zMem) (hf : f_X4_leadNow N mem = some (r, mem')) : zM l G yX4_leadNow cX4_leadNow 1 (some .int) 2 44 [.ref (zr G 0)] mem (zQi G r mem') := by
  refine zStart hG (by decide +kernel) (Nat.le_of_ble_eq_true rfl) (fun p e s m below meth c C hr hlk ls hl Z => ?_)
  have hl : lv_has ls 1 [(0, .ref (zr G 0))] := hl
  have C : zC (zAd G) G p s m _ c cX4_leadNow 1 RX4 := C
  unfold f_X4_leadNow at hf
  refine lv_aload_n C.1.1 C.1.2.1 dX4_leadNow_0 rfl (lv_at hl 0 rfl) ?_
  refine lv_iconst (v := (0 : Int32)) C.1.1 C.1.2.1 dX4_leadNow_1 (by decide) ?_
  obtain ⟨r263, mem263, hc263, hf⟩ := zb_some hf
  refine z_callVi (k := 0) (As := [.int (0 : Int32)]) (rest := []) C Z (M_X4_leadWithout l G C.2.1 N mem (0 : Int32) r263 mem263 hc263) (zcw_X4_247 C.1.2.2.2.2 ⟨Nat.le_of_ble_eq_true rfl, Nat.le_of_ble_eq_true rfl⟩) (by decide) rfl rfl rfl hl.1 rfl (Nat.le_of_ble_eq_true rfl) ⟨Nat.le_refl 0, Nat.le_refl 0⟩ dX4_leadNow_2 (fun H locs Z => ?_)
  cases hf
  exact z_iret C Z hr hlk dX4_leadNow_5
set_option maxHeartbeats 4000000 in
set_option maxRecDepth 100000 in
theorem M_X4_hangsLevel (l : Launch) (G : zG) (hG : zOK G) (N : Nat) (mem : zMem) (a1 : Int32) (a2 : Int32) (r : Int32) (mem' : zMem) (hf : f_X4_hangsLevel N mem a1 a2 = some (r, mem')) : zM l G yX4_hangsLevel cX4_hangsLevel 3 (some .boolean) 1 21 [.ref (zr G 0), .int a1, .int a2] mem (zQi G r mem') := by
  refine zStart hG (by decide +kernel) (Nat.le_of_ble_eq_true rfl) (fun p e s m below meth c C hr hlk ls hl Z => ?_)
  have hl : lv_has ls 3 [(0, .ref (zr G 0)), (1, .int a1), (2, .int a2)] := hl
  have C : zC (zAd G) G p s m _ c cX4_hangsLevel 3 RX4 := C
  unfold f_X4_hangsLevel at hf
  refine lv_iload_n C.1.1 C.1.2.1 dX4_hangsLevel_0 rfl (lv_at hl 1 rfl) ?_
  refine lv_iload_n C.1.1 C.1.2.1 dX4_hangsLevel_1 rfl (lv_at hl 2 rfl) ?_
  refine lv_isub C.1.1 C.1.2.1 dX4_hangsLevel_2 ?_
  refine va_mabs C.1.1 C.1.2.1 (C.1.2.2.1.trans hl.1.symm) C.1.2.2.2.1 (C.1.2.2.2.2 _ lkM_X4_259) (C.1.2.2.2.2 _ lkS_J9_abs_0f7a4) (C.1.2.2.2.2 _ lkN_J9) (C.1.2.2.2.2 _ lkC_J9_abs_0f7a4) (Nat.le_of_ble_eq_true rfl) (Nat.le_of_ble_eq_true rfl) (Nat.le_refl 0) (Nat.le_refl 0) dX4_hangsLevel_3 ?_
  refine lv_aload_n C.1.1 C.1.2.1 dX4_hangsLevel_6 rfl (lv_at hl 0 rfl) ?_
  refine zg_X4_19 C Z dX4_hangsLevel_7 ?_
  refine zg_X4_262 C Z dX4_hangsLevel_10 ?_
  refine lv_icmp_gt (tgt := 20) C.1.1 C.1.2.1 dX4_hangsLevel_13 (by decide) (fun h264 => ?_) (fun h264 => ?_)
  · replace hf := (if_pos h264).symm.trans hf
    refine lv_iconst (v := (0 : Int32)) C.1.1 C.1.2.1 dX4_hangsLevel_20 (by decide) ?_
    cases hf
    exact z_zret C Z hr hlk (by decide) dX4_hangsLevel_21
  · replace hf := (if_neg h264).symm.trans hf
    refine lv_iconst (v := (1 : Int32)) C.1.1 C.1.2.1 dX4_hangsLevel_16 (by decide) ?_
    refine lv_goto (tgt := 21) C.1.1 C.1.2.1 dX4_hangsLevel_17 (by decide) ?_
    cases hf
    exact z_zret C Z hr hlk (by decide) dX4_hangsLevel_21
set_option maxHeartbeats 4000000 in
set_option maxRecDepth 100000 in
theorem M_X4_hangsLevelNow (l : Launch) (G : zG) (hG : zOK G) (N : Nat) (mem : zMem) (r : Int32) (mem' : zMem) (hf : f_X4_hangsLevelNow N mem = some (r, mem')) : zM l G yX4_hangsLevelNow cX4_hangsLevelNow 1 (some .boolean) 3 67 [.ref (zr G 0)] mem (zQi G r mem') := by
  refine zStart hG (by decide +kernel) (Nat.le_of_ble_eq_true rfl) (fun p e s m below meth c C hr hlk ls hl Z => ?_)
  have hl : lv_has ls 1 [(0, .ref (zr G 0))] := hl
  have C : zC (zAd G) G p s m _ c cX4_hangsLevelNow 1 RX4 := C
  unfold f_X4_hangsLevelNow at hf
  refine lv_aload_n C.1.1 C.1.2.1 dX4_hangsLevelNow_0 rfl (lv_at hl 0 rfl) ?_
  refine lv_aload_n C.1.1 C.1.2.1 dX4_hangsLevelNow_1 rfl (lv_at hl 0 rfl) ?_
  refine lv_aload_n C.1.1 C.1.2.1 dX4_hangsLevelNow_2 rfl (lv_at hl 0 rfl) ?_
  refine zg_X4_26 C Z dX4_hangsLevelNow_3 ?_
  refine zg_X4_123 (k := 11) (by decide) C Z dX4_hangsLevelNow_6 ?_
  obtain ⟨r265, mem265, hc265, hf⟩ := zb_some hf
  refine z_callVi (k := 0) (As := [.int (mem 11 1)]) (rest := [.ref (zr G 0)]) C Z (M_X4_sermonOf l G C.2.1 N mem (mem 11 1) r265 mem265 hc265) (zcw_X4_148 C.1.2.2.2.2 ⟨Nat.le_of_ble_eq_true rfl, Nat.le_of_ble_eq_true rfl⟩) (by decide) rfl rfl rfl hl.1 rfl (Nat.le_of_ble_eq_true rfl) ⟨Nat.le_refl 0, Nat.le_refl 0⟩ dX4_hangsLevelNow_9 (fun H locs Z => ?_)
  refine lv_aload_n C.1.1 C.1.2.1 dX4_hangsLevelNow_12 rfl (lv_at hl 0 rfl) ?_
  obtain ⟨r266, mem266, hc266, hf⟩ := zb_some hf
  refine z_callVi (k := 0) (As := []) (rest := [.int r265, .ref (zr G 0)]) C Z (M_X4_leadNow l G C.2.1 N mem265 r266 mem266 hc266) (zcw_X4_152 C.1.2.2.2.2 ⟨Nat.le_of_ble_eq_true rfl, Nat.le_of_ble_eq_true rfl⟩) (by decide) rfl rfl rfl hl.1 rfl (Nat.le_of_ble_eq_true rfl) ⟨Nat.le_refl 0, Nat.le_refl 0⟩ dX4_hangsLevelNow_13 (fun H locs Z => ?_)
  obtain ⟨r267, mem267, hc267, hf⟩ := zb_some hf
  refine z_callVi (k := 0) (As := [.int r265, .int r266]) (rest := []) C Z (M_X4_hangsLevel l G C.2.1 N mem266 r265 r266 r267 mem267 hc267) (zcw_X4_178 C.1.2.2.2.2 ⟨Nat.le_of_ble_eq_true rfl, Nat.le_of_ble_eq_true rfl⟩) (by decide) rfl rfl rfl hl.1 rfl (Nat.le_of_ble_eq_true rfl) ⟨Nat.le_refl 0, Nat.le_refl 0⟩ dX4_hangsLevelNow_16 (fun H locs Z => ?_)
  obtain ⟨hb268, hf⟩ := zgd_some hf
  cases hf
  exact z_zret C Z hr hlk hb268 dX4_hangsLevelNow_19
set_option maxHeartbeats 4000000 in
set_option maxRecDepth 100000 in
theorem M_X4_rememberWeek (l : Launch) (G : zG) (hG : zOK G) (N : Nat) (mem : zMem) (r : Unit) (mem' : zMem) (hf : f_X4_rememberWeek N mem = some (r, mem')) : zM l G yX4_rememberWeek cX4_rememberWeek 1 none 2 39 [.ref (zr G 0)] mem (zQv G mem') := by
  refine zStart hG (by decide +kernel) (Nat.le_of_ble_eq_true rfl) (fun p e s m below meth c C hr hlk ls hl Z => ?_)
  have hl : lv_has ls 1 [(0, .ref (zr G 0))] := hl
  have C : zC (zAd G) G p s m _ c cX4_rememberWeek 1 RX4 := C
  unfold f_X4_rememberWeek at hf
  refine lv_aload_n C.1.1 C.1.2.1 dX4_rememberWeek_0 rfl (lv_at hl 0 rfl) ?_
  refine zg_X4_34 C Z dX4_rememberWeek_1 ?_
  refine lv_aload_n C.1.1 C.1.2.1 dX4_rememberWeek_4 rfl (lv_at hl 0 rfl) ?_
  refine zg_X4_171 C Z dX4_rememberWeek_5 ?_
  obtain ⟨hi269, hf⟩ := zgd_some hf
  refine z_past C Z hi269 dX4_rememberWeek_8 ?_
  refine lv_aload_n C.1.1 C.1.2.1 dX4_rememberWeek_9 rfl (lv_at hl 0 rfl) ?_
  refine zg_X4_26 C Z dX4_rememberWeek_10 ?_
  obtain ⟨r270, mem270, hc270, hf⟩ := zb_some hf
  refine z_callVv (k := (14 + 2 * (mem 0 8).toNatClampNeg)) (As := [.ref (zr G 11)]) (rest := []) C Z (M_X3_becomeLike l G C.2.1 N (14 + 2 * (mem 0 8).toNatClampNeg) 11 (zW_past hi269) (by decide) mem r270 mem270 hc270) (zcw_X4_174 C.1.2.2.2.2 ⟨Nat.le_of_ble_eq_true rfl, Nat.le_of_ble_eq_true rfl⟩) (zW_lt (zW_past hi269)).1 (zcf_W (zW_past hi269) _ _) rfl rfl hl.1 rfl (Nat.le_of_ble_eq_true rfl) ⟨Nat.le_refl 0, Nat.le_refl 0⟩ dX4_rememberWeek_13 (fun H locs Z => ?_)
  refine lv_aload_n C.1.1 C.1.2.1 dX4_rememberWeek_16 rfl (lv_at hl 0 rfl) ?_
  refine lv_aload_n C.1.1 C.1.2.1 dX4_rememberWeek_17 rfl (lv_at hl 0 rfl) ?_
  refine zg_X4_171 C Z dX4_rememberWeek_18 ?_
  refine lv_iconst (v := (1 : Int32)) C.1.1 C.1.2.1 dX4_rememberWeek_21 (by decide) ?_
  refine lv_iadd C.1.1 C.1.2.1 dX4_rememberWeek_22 ?_
  refine lv_bipush (v := (8 : Int32)) C.1.1 C.1.2.1 dX4_rememberWeek_23 (by decide) ?_
  refine lv_irem C.1.1 C.1.2.1 dX4_rememberWeek_25 (by decide) ?_
  refine zp_X4_171 C Z dX4_rememberWeek_26 (fun H locs Z => ?_)
  obtain ⟨mem271, hm271, hf⟩ := zlet_some hf
  rw [← hm271] at Z
  refine lv_aload_n C.1.1 C.1.2.1 dX4_rememberWeek_29 rfl (lv_at hl 0 rfl) ?_
  refine lv_aload_n C.1.1 C.1.2.1 dX4_rememberWeek_30 rfl (lv_at hl 0 rfl) ?_
  refine zg_X4_101 C Z dX4_rememberWeek_31 ?_
  refine lv_iconst (v := (1 : Int32)) C.1.1 C.1.2.1 dX4_rememberWeek_34 (by decide) ?_
  refine lv_iadd C.1.1 C.1.2.1 dX4_rememberWeek_35 ?_
  refine lv_bipush (v := (8 : Int32)) C.1.1 C.1.2.1 dX4_rememberWeek_36 (by decide) ?_
  refine va_mmin C.1.1 C.1.2.1 (C.1.2.2.1.trans hl.1.symm) C.1.2.2.2.1 (C.1.2.2.2.2 _ lkM_X4_156) (C.1.2.2.2.2 _ lkS_J9_min_7cf53) (C.1.2.2.2.2 _ lkN_J9) (C.1.2.2.2.2 _ lkC_J9_min_7cf53) (Nat.le_of_ble_eq_true rfl) (Nat.le_of_ble_eq_true rfl) (Nat.le_refl 0) (Nat.le_refl 0) dX4_rememberWeek_38 ?_
  refine zp_X4_101 C Z dX4_rememberWeek_41 (fun H locs Z => ?_)
  obtain ⟨mem272, hm272, hf⟩ := zlet_some hf
  rw [← hm272] at Z
  cases hf
  exact z_vret C Z hr hlk dX4_rememberWeek_44
set_option maxHeartbeats 4000000 in
set_option maxRecDepth 100000 in
theorem M_X4_preach (l : Launch) (G : zG) (hG : zOK G) (N : Nat) (mem : zMem) (a1 : Int32) (r : Int32) (mem' : zMem) (hf : f_X4_preach N mem a1 = some (r, mem')) : zM l G yX4_preach cX4_preach 2 (some .int) 4 87 [.ref (zr G 0), .int a1] mem (zQi G r mem') := by
  refine zStart hG (by decide +kernel) (Nat.le_of_ble_eq_true rfl) (fun p e s m below meth c C hr hlk ls hl Z => ?_)
  have hl : lv_has ls 2 [(0, .ref (zr G 0)), (1, .int a1)] := hl
  have C : zC (zAd G) G p s m _ c cX4_preach 2 RX4 := C
  unfold f_X4_preach at hf
  refine lv_aload_n C.1.1 C.1.2.1 dX4_preach_0 rfl (lv_at hl 0 rfl) ?_
  refine lv_iload_n C.1.1 C.1.2.1 dX4_preach_1 rfl (lv_at hl 1 rfl) ?_
  obtain ⟨r273, mem273, hc273, hf⟩ := zb_some hf
  refine z_callVi (k := 0) (As := [.int a1]) (rest := []) C Z (M_X4_isPart l G C.2.1 N mem a1 r273 mem273 hc273) (zcw_X4_104 C.1.2.2.2.2 ⟨Nat.le_of_ble_eq_true rfl, Nat.le_of_ble_eq_true rfl⟩) (by decide) rfl rfl rfl hl.1 rfl (Nat.le_of_ble_eq_true rfl) ⟨Nat.le_refl 0, Nat.le_refl 0⟩ dX4_preach_2 (fun H locs Z => ?_)
  refine lv_if_ne (tgt := 11) C.1.1 C.1.2.1 dX4_preach_5 (by decide) (fun h274 => ?_) (fun h274 => ?_)
  · replace hf := (if_neg h274).symm.trans hf
    refine lv_iload_n C.1.1 C.1.2.1 dX4_preach_11 rfl (lv_at hl 1 rfl) ?_
    refine lv_aload_n C.1.1 C.1.2.1 dX4_preach_12 rfl (lv_at hl 0 rfl) ?_
    refine zg_X4_26 C Z dX4_preach_13 ?_
    refine zg_X4_123 (k := 11) (by decide) C Z dX4_preach_16 ?_
    obtain ⟨r275, mem275, hc275, hf⟩ := zb_some hf
    refine z_callSi (As := [.int a1, .int (mem273 11 1)]) (rest := []) C Z (M_X4_isIn l G C.2.1 N mem273 a1 (mem273 11 1) r275 mem275 hc275) (zcw_X4_126 C.1.2.2.2.2 ⟨Nat.le_of_ble_eq_true rfl, Nat.le_of_ble_eq_true rfl⟩) rfl hl.1 rfl (Nat.le_of_ble_eq_true rfl) ⟨Nat.le_refl 0, Nat.le_refl 0⟩ dX4_preach_19 (fun H locs Z => ?_)
    refine lv_if_ne (tgt := 32) C.1.1 C.1.2.1 dX4_preach_22 (by decide) (fun h276 => ?_) (fun h276 => ?_)
    · replace hf := (if_neg h276).symm.trans hf
      refine lv_bipush (v := (-4 : Int32)) C.1.1 C.1.2.1 dX4_preach_32 (by decide) ?_
      cases hf
      exact z_iret C Z hr hlk dX4_preach_34
    · replace hf := (if_pos h276).symm.trans hf
      refine lv_aload_n C.1.1 C.1.2.1 dX4_preach_25 rfl (lv_at hl 0 rfl) ?_
      obtain ⟨r277, mem277, hc277, hf⟩ := zb_some hf
      refine z_callVi (k := 0) (As := []) (rest := []) C Z (M_X4_hangsLevelNow l G C.2.1 N mem275 r277 mem277 hc277) (zcw_X4_139 C.1.2.2.2.2 ⟨Nat.le_of_ble_eq_true rfl, Nat.le_of_ble_eq_true rfl⟩) (by decide) rfl rfl rfl hl.1 rfl (Nat.le_of_ble_eq_true rfl) ⟨Nat.le_refl 0, Nat.le_refl 0⟩ dX4_preach_26 (fun H locs Z => ?_)
      refine lv_if_eq (tgt := 35) C.1.1 C.1.2.1 dX4_preach_29 (by decide) (fun h278 => ?_) (fun h278 => ?_)
      · replace hf := (if_pos h278).symm.trans hf
        refine lv_aload_n C.1.1 C.1.2.1 dX4_preach_35 rfl (lv_at hl 0 rfl) ?_
        obtain ⟨r279, mem279, hc279, hf⟩ := zb_some hf
        refine z_callVv (k := 0) (As := []) (rest := []) C Z (M_X4_rememberWeek l G C.2.1 N mem277 r279 mem279 hc279) (zcw_X4_143 C.1.2.2.2.2 ⟨Nat.le_of_ble_eq_true rfl, Nat.le_of_ble_eq_true rfl⟩) (by decide) rfl rfl rfl hl.1 rfl (Nat.le_of_ble_eq_true rfl) ⟨Nat.le_refl 0, Nat.le_refl 0⟩ dX4_preach_36 (fun H locs Z => ?_)
        refine lv_aload_n C.1.1 C.1.2.1 dX4_preach_39 rfl (lv_at hl 0 rfl) ?_
        refine zg_X4_26 C Z dX4_preach_40 ?_
        refine lv_dup C.1.1 C.1.2.1 dX4_preach_43 rfl ?_
        refine zg_X4_123 (k := 11) (by decide) C Z dX4_preach_44 ?_
        refine lv_iconst (v := (1 : Int32)) C.1.1 C.1.2.1 dX4_preach_47 (by decide) ?_
        refine lv_iload_n C.1.1 C.1.2.1 dX4_preach_48 rfl (lv_at hl 1 rfl) ?_
        refine lv_ishl C.1.1 C.1.2.1 dX4_preach_49 ?_
        refine lv_ior C.1.1 C.1.2.1 dX4_preach_50 ?_
        refine zp_X4_123 (k := 11) (by decide) C Z dX4_preach_51 (fun H locs Z => ?_)
        obtain ⟨mem280, hm280, hf⟩ := zlet_some hf
        rw [← hm280] at Z
        refine lv_aload_n C.1.1 C.1.2.1 dX4_preach_54 rfl (lv_at hl 0 rfl) ?_
        refine zg_X4_26 C Z dX4_preach_55 ?_
        refine lv_dup C.1.1 C.1.2.1 dX4_preach_58 rfl ?_
        refine zg_X4_146 (k := 11) (by decide) C Z dX4_preach_59 ?_
        refine lv_aload_n C.1.1 C.1.2.1 dX4_preach_62 rfl (lv_at hl 0 rfl) ?_
        refine zg_X4_19 C Z dX4_preach_63 ?_
        refine zg_X4_113 C Z dX4_preach_66 ?_
        refine lv_iload_n C.1.1 C.1.2.1 dX4_preach_69 rfl (lv_at hl 1 rfl) ?_
        obtain ⟨hi281, hf⟩ := zgd_some hf
        refine z_iald (k := 9) C Z (by decide) rfl hi281 dX4_preach_70 ?_
        refine lv_iadd C.1.1 C.1.2.1 dX4_preach_71 ?_
        refine zp_X4_146 (k := 11) (by decide) C Z dX4_preach_72 (fun H locs Z => ?_)
        obtain ⟨mem282, hm282, hf⟩ := zlet_some hf
        rw [← hm282] at Z
        refine lv_aload_n C.1.1 C.1.2.1 dX4_preach_75 rfl (lv_at hl 0 rfl) ?_
        refine lv_aload_n C.1.1 C.1.2.1 dX4_preach_76 rfl (lv_at hl 0 rfl) ?_
        refine zg_X4_26 C Z dX4_preach_77 ?_
        refine zg_X4_123 (k := 11) (by decide) C Z dX4_preach_80 ?_
        obtain ⟨r283, mem283, hc283, hf⟩ := zb_some hf
        refine z_callVi (k := 0) (As := [.int (mem282 11 1)]) (rest := []) C Z (M_X4_sermonOf l G C.2.1 N mem282 (mem282 11 1) r283 mem283 hc283) (zcw_X4_148 C.1.2.2.2.2 ⟨Nat.le_of_ble_eq_true rfl, Nat.le_of_ble_eq_true rfl⟩) (by decide) rfl rfl rfl hl.1 rfl (Nat.le_of_ble_eq_true rfl) ⟨Nat.le_refl 0, Nat.le_refl 0⟩ dX4_preach_83 (fun H locs Z => ?_)
        refine lv_aload_n C.1.1 C.1.2.1 dX4_preach_86 rfl (lv_at hl 0 rfl) ?_
        obtain ⟨r284, mem284, hc284, hf⟩ := zb_some hf
        refine z_callVi (k := 0) (As := []) (rest := [.int r283]) C Z (M_X4_leadNow l G C.2.1 N mem283 r284 mem284 hc284) (zcw_X4_152 C.1.2.2.2.2 ⟨Nat.le_of_ble_eq_true rfl, Nat.le_of_ble_eq_true rfl⟩) (by decide) rfl rfl rfl hl.1 rfl (Nat.le_of_ble_eq_true rfl) ⟨Nat.le_refl 0, Nat.le_refl 0⟩ dX4_preach_87 (fun H locs Z => ?_)
        refine lv_isub C.1.1 C.1.2.1 dX4_preach_90 ?_
        refine lv_sipush (v := (9999 : Int32)) C.1.1 C.1.2.1 dX4_preach_91 (by decide) ?_
        refine lv_iadd C.1.1 C.1.2.1 dX4_preach_94 ?_
        cases hf
        exact z_iret C Z hr hlk dX4_preach_95
      · replace hf := (if_neg h278).symm.trans hf
        refine lv_bipush (v := (-4 : Int32)) C.1.1 C.1.2.1 dX4_preach_32 (by decide) ?_
        cases hf
        exact z_iret C Z hr hlk dX4_preach_34
  · replace hf := (if_pos h274).symm.trans hf
    refine lv_bipush (v := (-2 : Int32)) C.1.1 C.1.2.1 dX4_preach_8 (by decide) ?_
    cases hf
    exact z_iret C Z hr hlk dX4_preach_10
set_option maxHeartbeats 4000000 in
set_option maxRecDepth 100000 in
theorem M_X4_sin (l : Launch) (G : zG) (hG : zOK G) (N : Nat) (mem : zMem) (a1 : Int32) (a2 : Int32) (r : Int32) (mem' : zMem) (hf : f_X4_sin N mem a1 a2 = some (r, mem')) : zM l G yX4_sin cX4_sin 3 (some .int) 3 59 [.ref (zr G 0), .int a1, .int a2] mem (zQi G r mem') := by
  refine zStart hG (by decide +kernel) (Nat.le_of_ble_eq_true rfl) (fun p e s m below meth c C hr hlk ls hl Z => ?_)
  have hl : lv_has ls 3 [(0, .ref (zr G 0)), (1, .int a1), (2, .int a2)] := hl
  have C : zC (zAd G) G p s m _ c cX4_sin 3 RX4 := C
  unfold f_X4_sin at hf
  refine lv_aload_n C.1.1 C.1.2.1 dX4_sin_0 rfl (lv_at hl 0 rfl) ?_
  refine lv_iload_n C.1.1 C.1.2.1 dX4_sin_1 rfl (lv_at hl 1 rfl) ?_
  obtain ⟨r285, mem285, hc285, hf⟩ := zb_some hf
  refine z_callVi (k := 0) (As := [.int a1]) (rest := []) C Z (M_X4_isSoul l G C.2.1 N mem a1 r285 mem285 hc285) (zcw_X4_130 C.1.2.2.2.2 ⟨Nat.le_of_ble_eq_true rfl, Nat.le_of_ble_eq_true rfl⟩) (by decide) rfl rfl rfl hl.1 rfl (Nat.le_of_ble_eq_true rfl) ⟨Nat.le_refl 0, Nat.le_refl 0⟩ dX4_sin_2 (fun H locs Z => ?_)
  refine lv_if_ne (tgt := 11) C.1.1 C.1.2.1 dX4_sin_5 (by decide) (fun h286 => ?_) (fun h286 => ?_)
  · replace hf := (if_neg h286).symm.trans hf
    refine lv_iload_n C.1.1 C.1.2.1 dX4_sin_11 rfl (lv_at hl 2 rfl) ?_
    refine lv_iconst (v := (1 : Int32)) C.1.1 C.1.2.1 dX4_sin_12 (by decide) ?_
    refine lv_bipush (v := (20 : Int32)) C.1.1 C.1.2.1 dX4_sin_13 (by decide) ?_
    obtain ⟨r287, mem287, hc287, hf⟩ := zb_some hf
    refine z_callSi (As := [.int a2, .int (1 : Int32), .int (20 : Int32)]) (rest := []) C Z (M_X4_isWithin l G C.2.1 N mem285 a2 (1 : Int32) (20 : Int32) r287 mem287 hc287) (zcw_X4_52 C.1.2.2.2.2 ⟨Nat.le_of_ble_eq_true rfl, Nat.le_of_ble_eq_true rfl⟩) rfl hl.1 rfl (Nat.le_of_ble_eq_true rfl) ⟨Nat.le_refl 0, Nat.le_refl 0⟩ dX4_sin_15 (fun H locs Z => ?_)
    refine lv_if_ne (tgt := 24) C.1.1 C.1.2.1 dX4_sin_18 (by decide) (fun h288 => ?_) (fun h288 => ?_)
    · replace hf := (if_neg h288).symm.trans hf
      refine lv_aload_n C.1.1 C.1.2.1 dX4_sin_24 rfl (lv_at hl 0 rfl) ?_
      obtain ⟨r289, mem289, hc289, hf⟩ := zb_some hf
      refine z_callVv (k := 0) (As := []) (rest := []) C Z (M_X4_rememberWeek l G C.2.1 N mem287 r289 mem289 hc289) (zcw_X4_143 C.1.2.2.2.2 ⟨Nat.le_of_ble_eq_true rfl, Nat.le_of_ble_eq_true rfl⟩) (by decide) rfl rfl rfl hl.1 rfl (Nat.le_of_ble_eq_true rfl) ⟨Nat.le_refl 0, Nat.le_refl 0⟩ dX4_sin_25 (fun H locs Z => ?_)
      refine lv_aload_n C.1.1 C.1.2.1 dX4_sin_28 rfl (lv_at hl 0 rfl) ?_
      refine zg_X4_26 C Z dX4_sin_29 ?_
      refine zg_X4_133 (k := 11) (by decide) C Z dX4_sin_32 ?_
      refine lv_iload_n C.1.1 C.1.2.1 dX4_sin_35 rfl (lv_at hl 1 rfl) ?_
      refine lv_aload_n C.1.1 C.1.2.1 dX4_sin_36 rfl (lv_at hl 0 rfl) ?_
      refine zg_X4_26 C Z dX4_sin_37 ?_
      refine zg_X4_133 (k := 11) (by decide) C Z dX4_sin_40 ?_
      refine lv_iload_n C.1.1 C.1.2.1 dX4_sin_43 rfl (lv_at hl 1 rfl) ?_
      obtain ⟨hi290, hf⟩ := zgd_some hf
      refine z_iald (k := 12) C Z (by decide) rfl hi290 dX4_sin_44 ?_
      refine lv_iload_n C.1.1 C.1.2.1 dX4_sin_45 rfl (lv_at hl 2 rfl) ?_
      refine lv_iadd C.1.1 C.1.2.1 dX4_sin_46 ?_
      refine lv_bipush (v := (99 : Int32)) C.1.1 C.1.2.1 dX4_sin_47 (by decide) ?_
      refine va_mmin C.1.1 C.1.2.1 (C.1.2.2.1.trans hl.1.symm) C.1.2.2.2.1 (C.1.2.2.2.2 _ lkM_X4_156) (C.1.2.2.2.2 _ lkS_J9_min_7cf53) (C.1.2.2.2.2 _ lkN_J9) (C.1.2.2.2.2 _ lkC_J9_min_7cf53) (Nat.le_of_ble_eq_true rfl) (Nat.le_of_ble_eq_true rfl) (Nat.le_refl 0) (Nat.le_refl 0) dX4_sin_49 ?_
      obtain ⟨hi291, hf⟩ := zgd_some hf
      refine z_iast (k := 12) C Z (by decide) (fun _ => rfl) hi291 dX4_sin_52 (fun H locs Z => ?_)
      obtain ⟨mem292, hm292, hf⟩ := zlet_some hf
      rw [← hm292] at Z
      refine lv_aload_n C.1.1 C.1.2.1 dX4_sin_53 rfl (lv_at hl 0 rfl) ?_
      refine zg_X4_26 C Z dX4_sin_54 ?_
      refine zg_X4_133 (k := 11) (by decide) C Z dX4_sin_57 ?_
      refine lv_iload_n C.1.1 C.1.2.1 dX4_sin_60 rfl (lv_at hl 1 rfl) ?_
      obtain ⟨hi293, hf⟩ := zgd_some hf
      refine z_iald (k := 12) C Z (by decide) rfl hi293 dX4_sin_61 ?_
      cases hf
      exact z_iret C Z hr hlk dX4_sin_62
    · replace hf := (if_pos h288).symm.trans hf
      refine lv_bipush (v := (-3 : Int32)) C.1.1 C.1.2.1 dX4_sin_21 (by decide) ?_
      cases hf
      exact z_iret C Z hr hlk dX4_sin_23
  · replace hf := (if_pos h286).symm.trans hf
    refine lv_bipush (v := (-2 : Int32)) C.1.1 C.1.2.1 dX4_sin_8 (by decide) ?_
    cases hf
    exact z_iret C Z hr hlk dX4_sin_10
set_option maxHeartbeats 4000000 in
set_option maxRecDepth 100000 in
theorem M_X4_ballast (l : Launch) (G : zG) (hG : zOK G) (N : Nat) (mem : zMem) (a1 : Int32) (r : Int32) (mem' : zMem) (hf : f_X4_ballast N mem a1 = some (r, mem')) : zM l G yX4_ballast cX4_ballast 2 (some .int) 3 59 [.ref (zr G 0), .int a1] mem (zQi G r mem') := by
  refine zStart hG (by decide +kernel) (Nat.le_of_ble_eq_true rfl) (fun p e s m below meth c C hr hlk ls hl Z => ?_)
  have hl : lv_has ls 2 [(0, .ref (zr G 0)), (1, .int a1)] := hl
  have C : zC (zAd G) G p s m _ c cX4_ballast 2 RX4 := C
  unfold f_X4_ballast at hf
  refine lv_iload_n C.1.1 C.1.2.1 dX4_ballast_0 rfl (lv_at hl 1 rfl) ?_
  refine lv_iconst (v := (1 : Int32)) C.1.1 C.1.2.1 dX4_ballast_1 (by decide) ?_
  refine lv_bipush (v := (20 : Int32)) C.1.1 C.1.2.1 dX4_ballast_2 (by decide) ?_
  obtain ⟨r294, mem294, hc294, hf⟩ := zb_some hf
  refine z_callSi (As := [.int a1, .int (1 : Int32), .int (20 : Int32)]) (rest := []) C Z (M_X4_isWithin l G C.2.1 N mem a1 (1 : Int32) (20 : Int32) r294 mem294 hc294) (zcw_X4_52 C.1.2.2.2.2 ⟨Nat.le_of_ble_eq_true rfl, Nat.le_of_ble_eq_true rfl⟩) rfl hl.1 rfl (Nat.le_of_ble_eq_true rfl) ⟨Nat.le_refl 0, Nat.le_refl 0⟩ dX4_ballast_4 (fun H locs Z => ?_)
  refine lv_if_ne (tgt := 13) C.1.1 C.1.2.1 dX4_ballast_7 (by decide) (fun h295 => ?_) (fun h295 => ?_)
  · replace hf := (if_neg h295).symm.trans hf
    refine lv_aload_n C.1.1 C.1.2.1 dX4_ballast_13 rfl (lv_at hl 0 rfl) ?_
    obtain ⟨r296, mem296, hc296, hf⟩ := zb_some hf
    refine z_callVv (k := 0) (As := []) (rest := []) C Z (M_X4_rememberWeek l G C.2.1 N mem294 r296 mem296 hc296) (zcw_X4_143 C.1.2.2.2.2 ⟨Nat.le_of_ble_eq_true rfl, Nat.le_of_ble_eq_true rfl⟩) (by decide) rfl rfl rfl hl.1 rfl (Nat.le_of_ble_eq_true rfl) ⟨Nat.le_refl 0, Nat.le_refl 0⟩ dX4_ballast_14 (fun H locs Z => ?_)
    refine lv_aload_n C.1.1 C.1.2.1 dX4_ballast_17 rfl (lv_at hl 0 rfl) ?_
    refine zg_X4_26 C Z dX4_ballast_18 ?_
    refine lv_aload_n C.1.1 C.1.2.1 dX4_ballast_21 rfl (lv_at hl 0 rfl) ?_
    refine zg_X4_26 C Z dX4_ballast_22 ?_
    refine zg_X4_161 (k := 11) (by decide) C Z dX4_ballast_25 ?_
    refine lv_iload_n C.1.1 C.1.2.1 dX4_ballast_28 rfl (lv_at hl 1 rfl) ?_
    refine lv_iadd C.1.1 C.1.2.1 dX4_ballast_29 ?_
    refine lv_bipush (v := (99 : Int32)) C.1.1 C.1.2.1 dX4_ballast_30 (by decide) ?_
    refine va_mmin C.1.1 C.1.2.1 (C.1.2.2.1.trans hl.1.symm) C.1.2.2.2.1 (C.1.2.2.2.2 _ lkM_X4_156) (C.1.2.2.2.2 _ lkS_J9_min_7cf53) (C.1.2.2.2.2 _ lkN_J9) (C.1.2.2.2.2 _ lkC_J9_min_7cf53) (Nat.le_of_ble_eq_true rfl) (Nat.le_of_ble_eq_true rfl) (Nat.le_refl 0) (Nat.le_refl 0) dX4_ballast_32 ?_
    refine zp_X4_161 (k := 11) (by decide) C Z dX4_ballast_35 (fun H locs Z => ?_)
    obtain ⟨mem297, hm297, hf⟩ := zlet_some hf
    rw [← hm297] at Z
    refine lv_aload_n C.1.1 C.1.2.1 dX4_ballast_38 rfl (lv_at hl 0 rfl) ?_
    refine zg_X4_26 C Z dX4_ballast_39 ?_
    refine zg_X4_161 (k := 11) (by decide) C Z dX4_ballast_42 ?_
    cases hf
    exact z_iret C Z hr hlk dX4_ballast_45
  · replace hf := (if_pos h295).symm.trans hf
    refine lv_bipush (v := (-3 : Int32)) C.1.1 C.1.2.1 dX4_ballast_10 (by decide) ?_
    cases hf
    exact z_iret C Z hr hlk dX4_ballast_12
set_option maxHeartbeats 4000000 in
set_option maxRecDepth 100000 in
theorem M_X4_rain (l : Launch) (G : zG) (hG : zOK G) (N : Nat) (mem : zMem) (a1 : Int32) (r : Int32) (mem' : zMem) (hf : f_X4_rain N mem a1 = some (r, mem')) : zM l G yX4_rain cX4_rain 3 (some .int) 3 59 [.ref (zr G 0), .int a1] mem (zQi G r mem') := by
  refine zStart hG (by decide +kernel) (Nat.le_of_ble_eq_true rfl) (fun p e s m below meth c C hr hlk ls hl Z => ?_)
  have hl : lv_has ls 3 [(0, .ref (zr G 0)), (1, .int a1)] := hl
  have C : zC (zAd G) G p s m _ c cX4_rain 3 RX4 := C
  unfold f_X4_rain at hf
  refine lv_iload_n C.1.1 C.1.2.1 dX4_rain_0 rfl (lv_at hl 1 rfl) ?_
  refine lv_iconst (v := (0 : Int32)) C.1.1 C.1.2.1 dX4_rain_1 (by decide) ?_
  refine lv_bipush (v := (9 : Int32)) C.1.1 C.1.2.1 dX4_rain_2 (by decide) ?_
  obtain ⟨r298, mem298, hc298, hf⟩ := zb_some hf
  refine z_callSi (As := [.int a1, .int (0 : Int32), .int (9 : Int32)]) (rest := []) C Z (M_X4_isWithin l G C.2.1 N mem a1 (0 : Int32) (9 : Int32) r298 mem298 hc298) (zcw_X4_52 C.1.2.2.2.2 ⟨Nat.le_of_ble_eq_true rfl, Nat.le_of_ble_eq_true rfl⟩) rfl hl.1 rfl (Nat.le_of_ble_eq_true rfl) ⟨Nat.le_refl 0, Nat.le_refl 0⟩ dX4_rain_4 (fun H locs Z => ?_)
  refine lv_if_ne (tgt := 13) C.1.1 C.1.2.1 dX4_rain_7 (by decide) (fun h299 => ?_) (fun h299 => ?_)
  · replace hf := (if_neg h299).symm.trans hf
    refine lv_aload_n C.1.1 C.1.2.1 dX4_rain_13 rfl (lv_at hl 0 rfl) ?_
    obtain ⟨r300, mem300, hc300, hf⟩ := zb_some hf
    refine z_callVv (k := 0) (As := []) (rest := []) C Z (M_X4_rememberWeek l G C.2.1 N mem298 r300 mem300 hc300) (zcw_X4_143 C.1.2.2.2.2 ⟨Nat.le_of_ble_eq_true rfl, Nat.le_of_ble_eq_true rfl⟩) (by decide) rfl rfl rfl hl.1 rfl (Nat.le_of_ble_eq_true rfl) ⟨Nat.le_refl 0, Nat.le_refl 0⟩ dX4_rain_14 (fun H locs Z => ?_)
    refine lv_aload_n C.1.1 C.1.2.1 dX4_rain_17 rfl (lv_at hl 0 rfl) ?_
    refine zg_X4_26 C Z dX4_rain_18 ?_
    refine zg_X4_116 (k := 11) (by decide) C Z dX4_rain_21 ?_
    refine lv_istore_n (lv' := [(2, .int (mem300 11 3)), (0, .ref (zr G 0)), (1, .int a1)]) C.1.1 C.1.2.1 dX4_rain_24 rfl hl (by decide) rfl (fun ls hl => ?_)
    refine lv_aload_n C.1.1 C.1.2.1 dX4_rain_25 rfl (lv_at hl 1 rfl) ?_
    refine zg_X4_26 C Z dX4_rain_26 ?_
    refine lv_iload_n C.1.1 C.1.2.1 dX4_rain_29 rfl (lv_at hl 2 rfl) ?_
    refine zp_X4_116 (k := 11) (by decide) C Z dX4_rain_30 (fun H locs Z => ?_)
    obtain ⟨mem301, hm301, hf⟩ := zlet_some hf
    rw [← hm301] at Z
    refine lv_iload_n C.1.1 C.1.2.1 dX4_rain_33 rfl (lv_at hl 0 rfl) ?_
    cases hf
    exact z_iret C Z hr hlk dX4_rain_34
  · replace hf := (if_pos h299).symm.trans hf
    refine lv_bipush (v := (-3 : Int32)) C.1.1 C.1.2.1 dX4_rain_10 (by decide) ?_
    cases hf
    exact z_iret C Z hr hlk dX4_rain_12
set_option maxHeartbeats 4000000 in
set_option maxRecDepth 100000 in
theorem M_X4_sunday (l : Launch) (G : zG) (hG : zOK G) (N : Nat) (mem : zMem) (r : Int32) (mem' : zMem) (hf : f_X4_sunday N mem = some (r, mem')) : zM l G yX4_sunday cX4_sunday 2 (some .int) 4 87 [.ref (zr G 0)] mem (zQi G r mem') := by
  refine zStart hG (by decide +kernel) (Nat.le_of_ble_eq_true rfl) (fun p e s m below meth c C hr hlk ls hl Z => ?_)
  have hl : lv_has ls 2 [(0, .ref (zr G 0))] := hl
  have C : zC (zAd G) G p s m _ c cX4_sunday 2 RX4 := C
  unfold f_X4_sunday at hf
  refine lv_aload_n C.1.1 C.1.2.1 dX4_sunday_0 rfl (lv_at hl 0 rfl) ?_
  refine zg_X4_26 C Z dX4_sunday_1 ?_
  refine zg_X4_164 (k := 11) (by decide) C Z dX4_sunday_4 ?_
  refine lv_sipush (v := (999 : Int32)) C.1.1 C.1.2.1 dX4_sunday_7 (by decide) ?_
  refine lv_icmp_lt (tgt := 16) C.1.1 C.1.2.1 dX4_sunday_10 (by decide) (fun h302 => ?_) (fun h302 => ?_)
  · replace hf := (if_pos h302).symm.trans hf
    refine lv_aload_n C.1.1 C.1.2.1 dX4_sunday_16 rfl (lv_at hl 0 rfl) ?_
    obtain ⟨r303, mem303, hc303, hf⟩ := zb_some hf
    refine z_callVi (k := 0) (As := []) (rest := []) C Z (M_X4_hangsLevelNow l G C.2.1 N mem r303 mem303 hc303) (zcw_X4_139 C.1.2.2.2.2 ⟨Nat.le_of_ble_eq_true rfl, Nat.le_of_ble_eq_true rfl⟩) (by decide) rfl rfl rfl hl.1 rfl (Nat.le_of_ble_eq_true rfl) ⟨Nat.le_refl 0, Nat.le_refl 0⟩ dX4_sunday_17 (fun H locs Z => ?_)
    refine lv_istore_n (lv' := [(1, .int r303), (0, .ref (zr G 0))]) C.1.1 C.1.2.1 dX4_sunday_20 rfl hl (by decide) rfl (fun ls hl => ?_)
    refine lv_aload_n C.1.1 C.1.2.1 dX4_sunday_21 rfl (lv_at hl 1 rfl) ?_
    obtain ⟨r304, mem304, hc304, hf⟩ := zb_some hf
    refine z_callVv (k := 0) (As := []) (rest := []) C Z (M_X4_rememberWeek l G C.2.1 N mem303 r304 mem304 hc304) (zcw_X4_143 C.1.2.2.2.2 ⟨Nat.le_of_ble_eq_true rfl, Nat.le_of_ble_eq_true rfl⟩) (by decide) rfl rfl rfl hl.1 rfl (Nat.le_of_ble_eq_true rfl) ⟨Nat.le_refl 0, Nat.le_refl 0⟩ dX4_sunday_22 (fun H locs Z => ?_)
    refine lv_aload_n C.1.1 C.1.2.1 dX4_sunday_25 rfl (lv_at hl 1 rfl) ?_
    refine zg_X4_26 C Z dX4_sunday_26 ?_
    refine lv_iload_n C.1.1 C.1.2.1 dX4_sunday_29 rfl (lv_at hl 0 rfl) ?_
    obtain ⟨r305, mem305, hc305, hf⟩ := zb_some hf
    refine z_callVv (k := 11) (As := [.int r303]) (rest := []) C Z (M_X3_end l G C.2.1 N 11 (by decide) mem304 r303 r305 mem305 hc305) (zcw_X4_167 C.1.2.2.2.2 ⟨Nat.le_of_ble_eq_true rfl, Nat.le_of_ble_eq_true rfl⟩) (by decide) rfl rfl rfl hl.1 rfl (Nat.le_of_ble_eq_true rfl) ⟨Nat.le_refl 0, Nat.le_refl 0⟩ dX4_sunday_30 (fun H locs Z => ?_)
    refine lv_iload_n C.1.1 C.1.2.1 dX4_sunday_33 rfl (lv_at hl 0 rfl) ?_
    refine lv_if_eq (tgt := 41) C.1.1 C.1.2.1 dX4_sunday_34 (by decide) (fun h306 => ?_) (fun h306 => ?_)
    · replace hf := (if_pos h306).symm.trans hf
      refine lv_iconst (v := (0 : Int32)) C.1.1 C.1.2.1 dX4_sunday_41 (by decide) ?_
      cases hf
      exact z_iret C Z hr hlk dX4_sunday_42
    · replace hf := (if_neg h306).symm.trans hf
      refine lv_iconst (v := (1 : Int32)) C.1.1 C.1.2.1 dX4_sunday_37 (by decide) ?_
      refine lv_goto (tgt := 42) C.1.1 C.1.2.1 dX4_sunday_38 (by decide) ?_
      cases hf
      exact z_iret C Z hr hlk dX4_sunday_42
  · replace hf := (if_neg h302).symm.trans hf
    refine lv_bipush (v := (-5 : Int32)) C.1.1 C.1.2.1 dX4_sunday_13 (by decide) ?_
    cases hf
    exact z_iret C Z hr hlk dX4_sunday_15
set_option maxHeartbeats 4000000 in
set_option maxRecDepth 100000 in
theorem M_X4_undo (l : Launch) (G : zG) (hG : zOK G) (N : Nat) (mem : zMem) (r : Int32) (mem' : zMem) (hf : f_X4_undo N mem = some (r, mem')) : zM l G yX4_undo cX4_undo 1 (some .int) 2 39 [.ref (zr G 0)] mem (zQi G r mem') := by
  refine zStart hG (by decide +kernel) (Nat.le_of_ble_eq_true rfl) (fun p e s m below meth c C hr hlk ls hl Z => ?_)
  have hl : lv_has ls 1 [(0, .ref (zr G 0))] := hl
  have C : zC (zAd G) G p s m _ c cX4_undo 1 RX4 := C
  unfold f_X4_undo at hf
  refine lv_aload_n C.1.1 C.1.2.1 dX4_undo_0 rfl (lv_at hl 0 rfl) ?_
  refine zg_X4_101 C Z dX4_undo_1 ?_
  refine lv_if_gt (tgt := 10) C.1.1 C.1.2.1 dX4_undo_4 (by decide) (fun h307 => ?_) (fun h307 => ?_)
  · replace hf := (if_pos h307).symm.trans hf
    refine lv_aload_n C.1.1 C.1.2.1 dX4_undo_10 rfl (lv_at hl 0 rfl) ?_
    refine lv_dup C.1.1 C.1.2.1 dX4_undo_11 rfl ?_
    refine zg_X4_101 C Z dX4_undo_12 ?_
    refine lv_iconst (v := (1 : Int32)) C.1.1 C.1.2.1 dX4_undo_15 (by decide) ?_
    refine lv_isub C.1.1 C.1.2.1 dX4_undo_16 ?_
    refine zp_X4_101 C Z dX4_undo_17 (fun H locs Z => ?_)
    obtain ⟨mem308, hm308, hf⟩ := zlet_some hf
    rw [← hm308] at Z
    refine lv_aload_n C.1.1 C.1.2.1 dX4_undo_20 rfl (lv_at hl 0 rfl) ?_
    refine lv_aload_n C.1.1 C.1.2.1 dX4_undo_21 rfl (lv_at hl 0 rfl) ?_
    refine zg_X4_171 C Z dX4_undo_22 ?_
    refine lv_bipush (v := (8 : Int32)) C.1.1 C.1.2.1 dX4_undo_25 (by decide) ?_
    refine lv_iadd C.1.1 C.1.2.1 dX4_undo_27 ?_
    refine lv_iconst (v := (1 : Int32)) C.1.1 C.1.2.1 dX4_undo_28 (by decide) ?_
    refine lv_isub C.1.1 C.1.2.1 dX4_undo_29 ?_
    refine lv_bipush (v := (8 : Int32)) C.1.1 C.1.2.1 dX4_undo_30 (by decide) ?_
    refine lv_irem C.1.1 C.1.2.1 dX4_undo_32 (by decide) ?_
    refine zp_X4_171 C Z dX4_undo_33 (fun H locs Z => ?_)
    obtain ⟨mem309, hm309, hf⟩ := zlet_some hf
    rw [← hm309] at Z
    refine lv_aload_n C.1.1 C.1.2.1 dX4_undo_36 rfl (lv_at hl 0 rfl) ?_
    refine zg_X4_26 C Z dX4_undo_37 ?_
    refine lv_aload_n C.1.1 C.1.2.1 dX4_undo_40 rfl (lv_at hl 0 rfl) ?_
    refine zg_X4_34 C Z dX4_undo_41 ?_
    refine lv_aload_n C.1.1 C.1.2.1 dX4_undo_44 rfl (lv_at hl 0 rfl) ?_
    refine zg_X4_171 C Z dX4_undo_45 ?_
    obtain ⟨hi310, hf⟩ := zgd_some hf
    refine z_past C Z hi310 dX4_undo_48 ?_
    obtain ⟨r311, mem311, hc311, hf⟩ := zb_some hf
    refine z_callVv (k := 11) (As := [.ref (zr G (14 + 2 * (mem309 0 8).toNatClampNeg))]) (rest := []) C Z (M_X3_becomeLike l G C.2.1 N 11 (14 + 2 * (mem309 0 8).toNatClampNeg) (by decide) (zW_past hi310) mem309 r311 mem311 hc311) (zcw_X4_174 C.1.2.2.2.2 ⟨Nat.le_of_ble_eq_true rfl, Nat.le_of_ble_eq_true rfl⟩) (by decide) rfl rfl rfl hl.1 rfl (Nat.le_of_ble_eq_true rfl) ⟨Nat.le_refl 0, Nat.le_refl 0⟩ dX4_undo_49 (fun H locs Z => ?_)
    refine lv_aload_n C.1.1 C.1.2.1 dX4_undo_52 rfl (lv_at hl 0 rfl) ?_
    refine zg_X4_101 C Z dX4_undo_53 ?_
    cases hf
    exact z_iret C Z hr hlk dX4_undo_56
  · replace hf := (if_neg h307).symm.trans hf
    refine lv_bipush (v := (-4 : Int32)) C.1.1 C.1.2.1 dX4_undo_7 (by decide) ?_
    cases hf
    exact z_iret C Z hr hlk dX4_undo_9
set_option maxHeartbeats 4000000 in
set_option maxRecDepth 100000 in
theorem M_X4_keep (l : Launch) (G : zG) (hG : zOK G) (N : Nat) (mem : zMem) (a1 : Int32) (r : Int32) (mem' : zMem) (hf : f_X4_keep N mem a1 = some (r, mem')) : zM l G yX4_keep cX4_keep 2 (some .int) 2 39 [.ref (zr G 0), .int a1] mem (zQi G r mem') := by
  refine zStart hG (by decide +kernel) (Nat.le_of_ble_eq_true rfl) (fun p e s m below meth c C hr hlk ls hl Z => ?_)
  have hl : lv_has ls 2 [(0, .ref (zr G 0)), (1, .int a1)] := hl
  have C : zC (zAd G) G p s m _ c cX4_keep 2 RX4 := C
  unfold f_X4_keep at hf
  refine lv_iload_n C.1.1 C.1.2.1 dX4_keep_0 rfl (lv_at hl 1 rfl) ?_
  refine lv_iconst (v := (0 : Int32)) C.1.1 C.1.2.1 dX4_keep_1 (by decide) ?_
  refine lv_iconst (v := (1 : Int32)) C.1.1 C.1.2.1 dX4_keep_2 (by decide) ?_
  obtain ⟨r312, mem312, hc312, hf⟩ := zb_some hf
  refine z_callSi (As := [.int a1, .int (0 : Int32), .int (1 : Int32)]) (rest := []) C Z (M_X4_isWithin l G C.2.1 N mem a1 (0 : Int32) (1 : Int32) r312 mem312 hc312) (zcw_X4_52 C.1.2.2.2.2 ⟨Nat.le_of_ble_eq_true rfl, Nat.le_of_ble_eq_true rfl⟩) rfl hl.1 rfl (Nat.le_of_ble_eq_true rfl) ⟨Nat.le_refl 0, Nat.le_refl 0⟩ dX4_keep_3 (fun H locs Z => ?_)
  refine lv_if_ne (tgt := 12) C.1.1 C.1.2.1 dX4_keep_6 (by decide) (fun h313 => ?_) (fun h313 => ?_)
  · replace hf := (if_neg h313).symm.trans hf
    refine lv_aload_n C.1.1 C.1.2.1 dX4_keep_12 rfl (lv_at hl 0 rfl) ?_
    refine zg_X4_38 C Z dX4_keep_13 ?_
    refine lv_iload_n C.1.1 C.1.2.1 dX4_keep_16 rfl (lv_at hl 1 rfl) ?_
    obtain ⟨hi314, hf⟩ := zgd_some hf
    refine z_kept C Z hi314 dX4_keep_17 ?_
    refine lv_aload_n C.1.1 C.1.2.1 dX4_keep_18 rfl (lv_at hl 0 rfl) ?_
    refine zg_X4_26 C Z dX4_keep_19 ?_
    obtain ⟨r315, mem315, hc315, hf⟩ := zb_some hf
    refine z_callVv (k := (31 + 2 * a1.toNatClampNeg)) (As := [.ref (zr G 11)]) (rest := []) C Z (M_X3_becomeLike l G C.2.1 N (31 + 2 * a1.toNatClampNeg) 11 (zW_kept hi314) (by decide) mem312 r315 mem315 hc315) (zcw_X4_174 C.1.2.2.2.2 ⟨Nat.le_of_ble_eq_true rfl, Nat.le_of_ble_eq_true rfl⟩) (zW_lt (zW_kept hi314)).1 (zcf_W (zW_kept hi314) _ _) rfl rfl hl.1 rfl (Nat.le_of_ble_eq_true rfl) ⟨Nat.le_refl 0, Nat.le_refl 0⟩ dX4_keep_22 (fun H locs Z => ?_)
    refine lv_aload_n C.1.1 C.1.2.1 dX4_keep_25 rfl (lv_at hl 0 rfl) ?_
    refine zg_X4_41 C Z dX4_keep_26 ?_
    refine lv_iload_n C.1.1 C.1.2.1 dX4_keep_29 rfl (lv_at hl 1 rfl) ?_
    refine lv_iconst (v := (1 : Int32)) C.1.1 C.1.2.1 dX4_keep_30 (by decide) ?_
    obtain ⟨hi316, hf⟩ := zgd_some hf
    refine z_bast (k := 35) C Z (by decide) (fun _ => rfl) hi316 dX4_keep_31 (fun H locs Z => ?_)
    obtain ⟨mem317, hm317, hf⟩ := zlet_some hf
    rw [← hm317] at Z
    refine lv_aload_n C.1.1 C.1.2.1 dX4_keep_32 rfl (lv_at hl 0 rfl) ?_
    refine zg_X4_26 C Z dX4_keep_33 ?_
    refine zg_X4_164 (k := 11) (by decide) C Z dX4_keep_36 ?_
    cases hf
    exact z_iret C Z hr hlk dX4_keep_39
  · replace hf := (if_pos h313).symm.trans hf
    refine lv_bipush (v := (-2 : Int32)) C.1.1 C.1.2.1 dX4_keep_9 (by decide) ?_
    cases hf
    exact z_iret C Z hr hlk dX4_keep_11
set_option maxHeartbeats 4000000 in
set_option maxRecDepth 100000 in
theorem M_X4_back (l : Launch) (G : zG) (hG : zOK G) (N : Nat) (mem : zMem) (a1 : Int32) (r : Int32) (mem' : zMem) (hf : f_X4_back N mem a1 = some (r, mem')) : zM l G yX4_back cX4_back 2 (some .int) 2 39 [.ref (zr G 0), .int a1] mem (zQi G r mem') := by
  refine zStart hG (by decide +kernel) (Nat.le_of_ble_eq_true rfl) (fun p e s m below meth c C hr hlk ls hl Z => ?_)
  have hl : lv_has ls 2 [(0, .ref (zr G 0)), (1, .int a1)] := hl
  have C : zC (zAd G) G p s m _ c cX4_back 2 RX4 := C
  unfold f_X4_back at hf
  refine lv_iload_n C.1.1 C.1.2.1 dX4_back_0 rfl (lv_at hl 1 rfl) ?_
  refine lv_iconst (v := (0 : Int32)) C.1.1 C.1.2.1 dX4_back_1 (by decide) ?_
  refine lv_iconst (v := (1 : Int32)) C.1.1 C.1.2.1 dX4_back_2 (by decide) ?_
  obtain ⟨r318, mem318, hc318, hf⟩ := zb_some hf
  refine z_callSi (As := [.int a1, .int (0 : Int32), .int (1 : Int32)]) (rest := []) C Z (M_X4_isWithin l G C.2.1 N mem a1 (0 : Int32) (1 : Int32) r318 mem318 hc318) (zcw_X4_52 C.1.2.2.2.2 ⟨Nat.le_of_ble_eq_true rfl, Nat.le_of_ble_eq_true rfl⟩) rfl hl.1 rfl (Nat.le_of_ble_eq_true rfl) ⟨Nat.le_refl 0, Nat.le_refl 0⟩ dX4_back_3 (fun H locs Z => ?_)
  refine lv_if_ne (tgt := 12) C.1.1 C.1.2.1 dX4_back_6 (by decide) (fun h319 => ?_) (fun h319 => ?_)
  · replace hf := (if_neg h319).symm.trans hf
    refine lv_aload_n C.1.1 C.1.2.1 dX4_back_12 rfl (lv_at hl 0 rfl) ?_
    refine zg_X4_41 C Z dX4_back_13 ?_
    refine lv_iload_n C.1.1 C.1.2.1 dX4_back_16 rfl (lv_at hl 1 rfl) ?_
    obtain ⟨hi320, hf⟩ := zgd_some hf
    refine z_bald (k := 35) C Z (by decide) rfl hi320 dX4_back_17 ?_
    refine lv_if_ne (tgt := 24) C.1.1 C.1.2.1 dX4_back_18 (by decide) (fun h321 => ?_) (fun h321 => ?_)
    · replace hf := (if_neg h321).symm.trans hf
      refine lv_aload_n C.1.1 C.1.2.1 dX4_back_24 rfl (lv_at hl 0 rfl) ?_
      refine zg_X4_26 C Z dX4_back_25 ?_
      refine lv_aload_n C.1.1 C.1.2.1 dX4_back_28 rfl (lv_at hl 0 rfl) ?_
      refine zg_X4_38 C Z dX4_back_29 ?_
      refine lv_iload_n C.1.1 C.1.2.1 dX4_back_32 rfl (lv_at hl 1 rfl) ?_
      obtain ⟨hi322, hf⟩ := zgd_some hf
      refine z_kept C Z hi322 dX4_back_33 ?_
      obtain ⟨r323, mem323, hc323, hf⟩ := zb_some hf
      refine z_callVv (k := 11) (As := [.ref (zr G (31 + 2 * a1.toNatClampNeg))]) (rest := []) C Z (M_X3_becomeLike l G C.2.1 N 11 (31 + 2 * a1.toNatClampNeg) (by decide) (zW_kept hi322) mem318 r323 mem323 hc323) (zcw_X4_174 C.1.2.2.2.2 ⟨Nat.le_of_ble_eq_true rfl, Nat.le_of_ble_eq_true rfl⟩) (by decide) rfl rfl rfl hl.1 rfl (Nat.le_of_ble_eq_true rfl) ⟨Nat.le_refl 0, Nat.le_refl 0⟩ dX4_back_34 (fun H locs Z => ?_)
      refine lv_aload_n C.1.1 C.1.2.1 dX4_back_37 rfl (lv_at hl 0 rfl) ?_
      refine lv_iconst (v := (0 : Int32)) C.1.1 C.1.2.1 dX4_back_38 (by decide) ?_
      refine zp_X4_101 C Z dX4_back_39 (fun H locs Z => ?_)
      obtain ⟨mem324, hm324, hf⟩ := zlet_some hf
      rw [← hm324] at Z
      refine lv_aload_n C.1.1 C.1.2.1 dX4_back_42 rfl (lv_at hl 0 rfl) ?_
      refine zg_X4_26 C Z dX4_back_43 ?_
      refine zg_X4_164 (k := 11) (by decide) C Z dX4_back_46 ?_
      cases hf
      exact z_iret C Z hr hlk dX4_back_49
    · replace hf := (if_pos h321).symm.trans hf
      refine lv_bipush (v := (-4 : Int32)) C.1.1 C.1.2.1 dX4_back_21 (by decide) ?_
      cases hf
      exact z_iret C Z hr hlk dX4_back_23
  · replace hf := (if_pos h319).symm.trans hf
    refine lv_bipush (v := (-2 : Int32)) C.1.1 C.1.2.1 dX4_back_9 (by decide) ?_
    cases hf
    exact z_iret C Z hr hlk dX4_back_11
