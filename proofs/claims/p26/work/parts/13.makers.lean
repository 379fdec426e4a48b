theorem lkT_X4 : Cond.instantiable RX4 9 ∈ zT := zT_in 62 (by decide +kernel) (by decide +kernel)
theorem lkO_X4 : Cond.methodLink RX4 1 objectInit ∈ zT := zT_in 66 (by decide +kernel) (by decide +kernel)
theorem lkL_X4_7 : Cond.classLink RX4 7 RX2 ∈ zT := zT_in 69 (by decide +kernel) (by decide +kernel)
theorem lkT_X2 : Cond.instantiable RX2 10 ∈ zT := zT_in 70 (by decide +kernel) (by decide +kernel)
theorem lkO_X2 : Cond.methodLink RX2 3 objectInit ∈ zT := zT_in 74 (by decide +kernel) (by decide +kernel)
theorem lkR_int : Cond.arrayClass .int ∈ zT := zT_in 111 (by decide +kernel) (by decide +kernel)
theorem lkL_X4_16 : Cond.classLink RX4 16 RX1 ∈ zT := zT_in 112 (by decide +kernel) (by decide +kernel)
theorem lkT_X1 : Cond.instantiable RX1 9 ∈ zT := zT_in 113 (by decide +kernel) (by decide +kernel)
theorem lkO_X1 : Cond.methodLink RX1 3 objectInit ∈ zT := zT_in 117 (by decide +kernel) (by decide +kernel)
theorem lkL_X4_23 : Cond.classLink RX4 23 RX3 ∈ zT := zT_in 159 (by decide +kernel) (by decide +kernel)
theorem lkT_X3 : Cond.instantiable RX3 7 ∈ zT := zT_in 160 (by decide +kernel) (by decide +kernel)
theorem lkO_X3 : Cond.methodLink RX3 3 objectInit ∈ zT := zT_in 164 (by decide +kernel) (by decide +kernel)
theorem lkL_X4_45 : Cond.classLink RX4 45 RX0 ∈ zT := zT_in 198 (by decide +kernel) (by decide +kernel)
theorem lkT_X0 : Cond.instantiable RX0 9 ∈ zT := zT_in 199 (by decide +kernel) (by decide +kernel)
theorem lkO_X0 : Cond.methodLink RX0 3 objectInit ∈ zT := zT_in 203 (by decide +kernel) (by decide +kernel)
theorem lkR_boolean : Cond.arrayClass .boolean ∈ zT := zT_in 241 (by decide +kernel) (by decide +kernel)
theorem lkT_X5 : Cond.instantiable RX5 17 ∈ zT := zT_in 618 (by decide +kernel) (by decide +kernel)
theorem lkO_X5 : Cond.methodLink RX5 1 objectInit ∈ zT := zT_in 622 (by decide +kernel) (by decide +kernel)
theorem lkO_inst : Cond.instanceMethod objectInit ∈ zT := zT_in 67 (by decide +kernel) (by decide +kernel)
theorem lkO_code : Cond.code objectInit ⟨#[0xb1]⟩ 1 none ∈ zT := zT_in 68 (by decide +kernel) (by decide +kernel)
def e_X2_init (G : zG) (cf : Nat → va_E) : Nat → va_E :=
  stc (stc (stc (stc (stc (stc (stc (stc cf 2 (.inl (G.2.1.1, 160, .inl (fun _ => 0)))) 1 (.inr (2, [.ref (zr G 2), .null, .null, .null, .int 0, .int 0, .int 0, .int 0, .int 0, .int 0]))) 3 (.inl (G.2.1.1, 14, .inl (fun _ => 0)))) 1 (.inr (2, [.ref (zr G 2), .ref (zr G 3), .null, .null, .int 0, .int 0, .int 0, .int 0, .int 0, .int 0]))) 4 (.inl (G.2.1.1, 14, .inl (fun _ => 0)))) 1 (.inr (2, [.ref (zr G 2), .ref (zr G 3), .ref (zr G 4), .null, .int 0, .int 0, .int 0, .int 0, .int 0, .int 0]))) 5 (.inl (G.2.1.1, 14, .inl (fun _ => 0)))) 1 (.inr (2, [.ref (zr G 2), .ref (zr G 3), .ref (zr G 4), .ref (zr G 5), .int 0, .int 0, .int 0, .int 0, .int 0, .int 0]))
set_option maxHeartbeats 4000000 in
set_option maxRecDepth 100000 in
theorem MC_X2_init (l : Launch) (G : zG) (hG : zSeq G) (cf : Nat → va_E) (he : cf 1 = .inr (2, [.null, .null, .null, .null, .int 0, .int 0, .int 0, .int 0, .int 0, .int 0])) : zMC l G yX2_init cX2_init 1 none 1 12 4 202 [.ref (zr G 1)] cf 2 (zQC G (e_X2_init G cf) (6)) := by
  refine zStartC hG (by omega) (by decide +kernel) (Nat.le_of_ble_eq_true rfl) (fun p e s m below meth c C hs ls hl Z => ?_)
  have hl : lv_has ls 1 [(0, .ref (zr G 1))] := hl
  have C : zCC G p s m _ c cX2_init 1 RX2 := C
  refine lv_aload_n C.1.1 C.1.2.1 dX2_init_0 rfl (lv_at hl 0 rfl) ?_
  refine W.objInit C.1.1 C.1.2.1 C.1.2.2.2.1 (C.1.2.2.2.2 _ lkO_X2) (C.1.2.2.2.2 _ lkO_inst) (C.1.2.2.2.2 _ lkO_code) rfl (by rw [C.1.2.2.1]; exact hl.1) rfl dX2_init_1 (Nat.le_of_ble_eq_true rfl) (Nat.le_of_ble_eq_true rfl) ?_
  refine W.eq (g2 := F0 m 4 ls []) rfl ?_
  refine lv_aload_n C.1.1 C.1.2.1 dX2_init_4 rfl (lv_at hl 0 rfl) ?_
  refine lv_sipush (v := (160 : Int32)) C.1.1 C.1.2.1 dX2_init_5 (by decide) ?_
  refine c_newa (atype := .int) (ty := .int) (cA := G.2.1.1) C Z (N' := 160) rfl 0 rfl (fun h => h) rfl lkR_int (by decide) (by decide) (Nat.le_of_ble_eq_true rfl) (Nat.le_of_ble_eq_true rfl) (Nat.le_of_ble_eq_true rfl) dX2_init_8 (fun H Z => ?_)
  refine c_putF (k := 1) (b := 2) (fs := [.null, .null, .null, .null, .int 0, .int 0, .int 0, .int 0, .int 0, .int 0]) C Z (by have h9 := hs.2.2.2; omega) (by omega) (by first | rfl | exact he) rfl inZX2 tyX2 tyX2_ok nmX2 0 (by decide) lkF_X2_9 rfl rfl hs.2.2.1 (ty := tyX2 0) (tyX2_ok 0 (by decide)) rfl rfl (Nat.le_of_ble_eq_true rfl) dX2_init_10 (fun H locs Z => ?_)
  have Z : zHC G s (stc _ 1 (.inr (2, [.ref (zr G 2), .null, .null, .null, .int 0, .int 0, .int 0, .int 0, .int 0, .int 0]))) _ H locs := Z
  refine lv_aload_n C.1.1 C.1.2.1 dX2_init_13 rfl (lv_at hl 0 rfl) ?_
  refine lv_bipush (v := (14 : Int32)) C.1.1 C.1.2.1 dX2_init_14 (by decide) ?_
  refine c_newa (atype := .int) (ty := .int) (cA := G.2.1.1) C Z (N' := 14) rfl 0 rfl (fun h => h) rfl lkR_int (by decide) (by decide) (Nat.le_of_ble_eq_true rfl) (Nat.le_of_ble_eq_true rfl) (Nat.le_of_ble_eq_true rfl) dX2_init_16 (fun H Z => ?_)
  refine c_putF (k := 1) (b := 3) (fs := [.ref (zr G 2), .null, .null, .null, .int 0, .int 0, .int 0, .int 0, .int 0, .int 0]) C Z (by have h9 := hs.2.2.2; omega) (by omega) (by first | rfl | exact he) rfl inZX2 tyX2 tyX2_ok nmX2 1 (by decide) lkF_X2_15 rfl rfl hs.2.2.1 (ty := tyX2 1) (tyX2_ok 1 (by decide)) rfl rfl (Nat.le_of_ble_eq_true rfl) dX2_init_18 (fun H locs Z => ?_)
  have Z : zHC G s (stc _ 1 (.inr (2, [.ref (zr G 2), .ref (zr G 3), .null, .null, .int 0, .int 0, .int 0, .int 0, .int 0, .int 0]))) _ H locs := Z
  refine lv_aload_n C.1.1 C.1.2.1 dX2_init_21 rfl (lv_at hl 0 rfl) ?_
  refine lv_bipush (v := (14 : Int32)) C.1.1 C.1.2.1 dX2_init_22 (by decide) ?_
  refine c_newa (atype := .int) (ty := .int) (cA := G.2.1.1) C Z (N' := 14) rfl 0 rfl (fun h => h) rfl lkR_int (by decide) (by decide) (Nat.le_of_ble_eq_true rfl) (Nat.le_of_ble_eq_true rfl) (Nat.le_of_ble_eq_true rfl) dX2_init_24 (fun H Z => ?_)
  refine c_putF (k := 1) (b := 4) (fs := [.ref (zr G 2), .ref (zr G 3), .null, .null, .int 0, .int 0, .int 0, .int 0, .int 0, .int 0]) C Z (by have h9 := hs.2.2.2; omega) (by omega) (by first | rfl | exact he) rfl inZX2 tyX2 tyX2_ok nmX2 2 (by decide) lkF_X2_18 rfl rfl hs.2.2.1 (ty := tyX2 2) (tyX2_ok 2 (by decide)) rfl rfl (Nat.le_of_ble_eq_true rfl) dX2_init_26 (fun H locs Z => ?_)
  have Z : zHC G s (stc _ 1 (.inr (2, [.ref (zr G 2), .ref (zr G 3), .ref (zr G 4), .null, .int 0, .int 0, .int 0, .int 0, .int 0, .int 0]))) _ H locs := Z
  refine lv_aload_n C.1.1 C.1.2.1 dX2_init_29 rfl (lv_at hl 0 rfl) ?_
  refine lv_bipush (v := (14 : Int32)) C.1.1 C.1.2.1 dX2_init_30 (by decide) ?_
  refine c_newa (atype := .int) (ty := .int) (cA := G.2.1.1) C Z (N' := 14) rfl 0 rfl (fun h => h) rfl lkR_int (by decide) (by decide) (Nat.le_of_ble_eq_true rfl) (Nat.le_of_ble_eq_true rfl) (Nat.le_of_ble_eq_true rfl) dX2_init_32 (fun H Z => ?_)
  refine c_putF (k := 1) (b := 5) (fs := [.ref (zr G 2), .ref (zr G 3), .ref (zr G 4), .null, .int 0, .int 0, .int 0, .int 0, .int 0, .int 0]) C Z (by have h9 := hs.2.2.2; omega) (by omega) (by first | rfl | exact he) rfl inZX2 tyX2 tyX2_ok nmX2 3 (by decide) lkF_X2_21 rfl rfl hs.2.2.1 (ty := tyX2 3) (tyX2_ok 3 (by decide)) rfl rfl (Nat.le_of_ble_eq_true rfl) dX2_init_34 (fun H locs Z => ?_)
  have Z : zHC G s (stc _ 1 (.inr (2, [.ref (zr G 2), .ref (zr G 3), .ref (zr G 4), .ref (zr G 5), .int 0, .int 0, .int 0, .int 0, .int 0, .int 0]))) _ H locs := Z
  exact c_vret C Z hs.1 hs.2.1 dX2_init_37
def e_X1_beginAsAtFirst (G : zG) (cf : Nat → va_E) : Nat → va_E :=
  stc (stc (stc (stc (stc cf 6 (.inr (1, [.ref (zr G 7), .ref (zr G 8), .ref (zr G 9), .ref (zr G 10), .int (0 : Int32), .int 0, .int 0, .int 0, .int 0]))) 6 (.inr (1, [.ref (zr G 7), .ref (zr G 8), .ref (zr G 9), .ref (zr G 10), .int (0 : Int32), .int (0 : Int32), .int 0, .int 0, .int 0]))) 6 (.inr (1, [.ref (zr G 7), .ref (zr G 8), .ref (zr G 9), .ref (zr G 10), .int (0 : Int32), .int (0 : Int32), .int (0 : Int32), .int 0, .int 0]))) 6 (.inr (1, [.ref (zr G 7), .ref (zr G 8), .ref (zr G 9), .ref (zr G 10), .int (0 : Int32), .int (0 : Int32), .int (0 : Int32), .int (1 : Int32), .int 0]))) 6 (.inr (1, [.ref (zr G 7), .ref (zr G 8), .ref (zr G 9), .ref (zr G 10), .int (0 : Int32), .int (0 : Int32), .int (0 : Int32), .int (1 : Int32), .int (0 : Int32)]))
set_option maxHeartbeats 4000000 in
set_option maxRecDepth 100000 in
theorem MC_X1_beginAsAtFirst (l : Launch) (G : zG) (hG : zSeq G) (cf : Nat → va_E) (he : cf 6 = .inr (1, [.ref (zr G 7), .ref (zr G 8), .ref (zr G 9), .ref (zr G 10), .int 0, .int 0, .int 0, .int 0, .int 0])) : zMC l G yX1_beginAsAtFirst cX1_beginAsAtFirst 1 none 0 0 0 0 [.ref (zr G 6)] cf 11 (zQC G (e_X1_beginAsAtFirst G cf) (11)) := by
  refine zStartC hG (by omega) (by decide +kernel) (Nat.le_of_ble_eq_true rfl) (fun p e s m below meth c C hs ls hl Z => ?_)
  have hl : lv_has ls 1 [(0, .ref (zr G 6))] := hl
  have C : zCC G p s m _ c cX1_beginAsAtFirst 1 RX1 := C
  refine lv_aload_n C.1.1 C.1.2.1 dX1_beginAsAtFirst_0 rfl (lv_at hl 0 rfl) ?_
  refine lv_iconst (v := (0 : Int32)) C.1.1 C.1.2.1 dX1_beginAsAtFirst_1 (by decide) ?_
  refine c_putI (k := 6) (fs := [.ref (zr G 7), .ref (zr G 8), .ref (zr G 9), .ref (zr G 10), .int 0, .int 0, .int 0, .int 0, .int 0]) C Z (by have h9 := hs.2.2.2; omega) (by omega) (by first | rfl | exact he) rfl inZX1 tyX1 tyX1_ok nmX1 4 (by decide) lkF_X1_27 rfl rfl (tyX1_ok 4 (by decide)) (Nat.le_of_ble_eq_true rfl) dX1_beginAsAtFirst_2 (fun H locs Z => ?_)
  have Z : zHC G s (stc _ 6 (.inr (1, [.ref (zr G 7), .ref (zr G 8), .ref (zr G 9), .ref (zr G 10), .int (0 : Int32), .int 0, .int 0, .int 0, .int 0]))) _ H locs := Z
  refine lv_aload_n C.1.1 C.1.2.1 dX1_beginAsAtFirst_5 rfl (lv_at hl 0 rfl) ?_
  refine lv_iconst (v := (0 : Int32)) C.1.1 C.1.2.1 dX1_beginAsAtFirst_6 (by decide) ?_
  refine c_putI (k := 6) (fs := [.ref (zr G 7), .ref (zr G 8), .ref (zr G 9), .ref (zr G 10), .int (0 : Int32), .int 0, .int 0, .int 0, .int 0]) C Z (by have h9 := hs.2.2.2; omega) (by omega) (by first | rfl | exact he) rfl inZX1 tyX1 tyX1_ok nmX1 5 (by decide) lkF_X1_31 rfl rfl (tyX1_ok 5 (by decide)) (Nat.le_of_ble_eq_true rfl) dX1_beginAsAtFirst_7 (fun H locs Z => ?_)
  have Z : zHC G s (stc _ 6 (.inr (1, [.ref (zr G 7), .ref (zr G 8), .ref (zr G 9), .ref (zr G 10), .int (0 : Int32), .int (0 : Int32), .int 0, .int 0, .int 0]))) _ H locs := Z
  refine lv_aload_n C.1.1 C.1.2.1 dX1_beginAsAtFirst_10 rfl (lv_at hl 0 rfl) ?_
  refine lv_iconst (v := (0 : Int32)) C.1.1 C.1.2.1 dX1_beginAsAtFirst_11 (by decide) ?_
  refine c_putI (k := 6) (fs := [.ref (zr G 7), .ref (zr G 8), .ref (zr G 9), .ref (zr G 10), .int (0 : Int32), .int (0 : Int32), .int 0, .int 0, .int 0]) C Z (by have h9 := hs.2.2.2; omega) (by omega) (by first | rfl | exact he) rfl inZX1 tyX1 tyX1_ok nmX1 6 (by decide) lkF_X1_34 rfl rfl (tyX1_ok 6 (by decide)) (Nat.le_of_ble_eq_true rfl) dX1_beginAsAtFirst_12 (fun H locs Z => ?_)
  have Z : zHC G s (stc _ 6 (.inr (1, [.ref (zr G 7), .ref (zr G 8), .ref (zr G 9), .ref (zr G 10), .int (0 : Int32), .int (0 : Int32), .int (0 : Int32), .int 0, .int 0]))) _ H locs := Z
  refine lv_aload_n C.1.1 C.1.2.1 dX1_beginAsAtFirst_15 rfl (lv_at hl 0 rfl) ?_
  refine lv_iconst (v := (1 : Int32)) C.1.1 C.1.2.1 dX1_beginAsAtFirst_16 (by decide) ?_
  refine c_putI (k := 6) (fs := [.ref (zr G 7), .ref (zr G 8), .ref (zr G 9), .ref (zr G 10), .int (0 : Int32), .int (0 : Int32), .int (0 : Int32), .int 0, .int 0]) C Z (by have h9 := hs.2.2.2; omega) (by omega) (by first | rfl | exact he) rfl inZX1 tyX1 tyX1_ok nmX1 7 (by decide) lkF_X1_37 rfl rfl (tyX1_ok 7 (by decide)) (Nat.le_of_ble_eq_true rfl) dX1_beginAsAtFirst_17 (fun H locs Z => ?_)
  have Z : zHC G s (stc _ 6 (.inr (1, [.ref (zr G 7), .ref (zr G 8), .ref (zr G 9), .ref (zr G 10), .int (0 : Int32), .int (0 : Int32), .int (0 : Int32), .int (1 : Int32), .int 0]))) _ H locs := Z
  refine lv_aload_n C.1.1 C.1.2.1 dX1_beginAsAtFirst_20 rfl (lv_at hl 0 rfl) ?_
  refine lv_iconst (v := (0 : Int32)) C.1.1 C.1.2.1 dX1_beginAsAtFirst_21 (by decide) ?_
  refine c_putI (k := 6) (fs := [.ref (zr G 7), .ref (zr G 8), .ref (zr G 9), .ref (zr G 10), .int (0 : Int32), .int (0 : Int32), .int (0 : Int32), .int (1 : Int32), .int 0]) C Z (by have h9 := hs.2.2.2; omega) (by omega) (by first | rfl | exact he) rfl inZX1 tyX1 tyX1_ok nmX1 8 (by decide) lkF_X1_40 rfl rfl (tyX1_ok 8 (by decide)) (Nat.le_of_ble_eq_true rfl) dX1_beginAsAtFirst_22 (fun H locs Z => ?_)
  have Z : zHC G s (stc _ 6 (.inr (1, [.ref (zr G 7), .ref (zr G 8), .ref (zr G 9), .ref (zr G 10), .int (0 : Int32), .int (0 : Int32), .int (0 : Int32), .int (1 : Int32), .int (0 : Int32)]))) _ H locs := Z
  exact c_vret C Z hs.1 hs.2.1 dX1_beginAsAtFirst_25
def e_X1_init (G : zG) (cf : Nat → va_E) : Nat → va_E :=
  e_X1_beginAsAtFirst G (stc (stc (stc (stc (stc (stc (stc (stc cf 7 (.inl (G.2.1.1, 8, .inl (fun _ => 0)))) 6 (.inr (1, [.ref (zr G 7), .null, .null, .null, .int 0, .int 0, .int 0, .int 0, .int 0]))) 8 (.inl (G.2.1.1, 8, .inl (fun _ => 0)))) 6 (.inr (1, [.ref (zr G 7), .ref (zr G 8), .null, .null, .int 0, .int 0, .int 0, .int 0, .int 0]))) 9 (.inl (G.2.1.1, 8, .inl (fun _ => 0)))) 6 (.inr (1, [.ref (zr G 7), .ref (zr G 8), .ref (zr G 9), .null, .int 0, .int 0, .int 0, .int 0, .int 0]))) 10 (.inl (G.2.1.1, 6, .inl (fun _ => 0)))) 6 (.inr (1, [.ref (zr G 7), .ref (zr G 8), .ref (zr G 9), .ref (zr G 10), .int 0, .int 0, .int 0, .int 0, .int 0])))
set_option maxHeartbeats 4000000 in
set_option maxRecDepth 100000 in
theorem MC_X1_init (l : Launch) (G : zG) (hG : zSeq G) (cf : Nat → va_E) (he : cf 6 = .inr (1, [.null, .null, .null, .null, .int 0, .int 0, .int 0, .int 0, .int 0])) : zMC l G yX1_init cX1_init 1 none 1 20 4 30 [.ref (zr G 6)] cf 7 (zQC G (e_X1_init G cf) (11)) := by
  refine zStartC hG (by omega) (by decide +kernel) (Nat.le_of_ble_eq_true rfl) (fun p e s m below meth c C hs ls hl Z => ?_)
  have hl : lv_has ls 1 [(0, .ref (zr G 6))] := hl
  have C : zCC G p s m _ c cX1_init 1 RX1 := C
  refine lv_aload_n C.1.1 C.1.2.1 dX1_init_0 rfl (lv_at hl 0 rfl) ?_
  refine W.objInit C.1.1 C.1.2.1 C.1.2.2.2.1 (C.1.2.2.2.2 _ lkO_X1) (C.1.2.2.2.2 _ lkO_inst) (C.1.2.2.2.2 _ lkO_code) rfl (by rw [C.1.2.2.1]; exact hl.1) rfl dX1_init_1 (Nat.le_of_ble_eq_true rfl) (Nat.le_of_ble_eq_true rfl) ?_
  refine W.eq (g2 := F0 m 4 ls []) rfl ?_
  refine lv_aload_n C.1.1 C.1.2.1 dX1_init_4 rfl (lv_at hl 0 rfl) ?_
  refine lv_bipush (v := (8 : Int32)) C.1.1 C.1.2.1 dX1_init_5 (by decide) ?_
  refine c_newa (atype := .int) (ty := .int) (cA := G.2.1.1) C Z (N' := 8) rfl 0 rfl (fun h => h) rfl lkR_int (by decide) (by decide) (Nat.le_of_ble_eq_true rfl) (Nat.le_of_ble_eq_true rfl) (Nat.le_of_ble_eq_true rfl) dX1_init_7 (fun H Z => ?_)
  refine c_putF (k := 6) (b := 7) (fs := [.null, .null, .null, .null, .int 0, .int 0, .int 0, .int 0, .int 0]) C Z (by have h9 := hs.2.2.2; omega) (by omega) (by first | rfl | exact he) rfl inZX1 tyX1 tyX1_ok nmX1 0 (by decide) lkF_X1_9 rfl rfl hs.2.2.1 (ty := tyX1 0) (tyX1_ok 0 (by decide)) rfl rfl (Nat.le_of_ble_eq_true rfl) dX1_init_9 (fun H locs Z => ?_)
  have Z : zHC G s (stc _ 6 (.inr (1, [.ref (zr G 7), .null, .null, .null, .int 0, .int 0, .int 0, .int 0, .int 0]))) _ H locs := Z
  refine lv_aload_n C.1.1 C.1.2.1 dX1_init_12 rfl (lv_at hl 0 rfl) ?_
  refine lv_bipush (v := (8 : Int32)) C.1.1 C.1.2.1 dX1_init_13 (by decide) ?_
  refine c_newa (atype := .int) (ty := .int) (cA := G.2.1.1) C Z (N' := 8) rfl 0 rfl (fun h => h) rfl lkR_int (by decide) (by decide) (Nat.le_of_ble_eq_true rfl) (Nat.le_of_ble_eq_true rfl) (Nat.le_of_ble_eq_true rfl) dX1_init_15 (fun H Z => ?_)
  refine c_putF (k := 6) (b := 8) (fs := [.ref (zr G 7), .null, .null, .null, .int 0, .int 0, .int 0, .int 0, .int 0]) C Z (by have h9 := hs.2.2.2; omega) (by omega) (by first | rfl | exact he) rfl inZX1 tyX1 tyX1_ok nmX1 1 (by decide) lkF_X1_15 rfl rfl hs.2.2.1 (ty := tyX1 1) (tyX1_ok 1 (by decide)) rfl rfl (Nat.le_of_ble_eq_true rfl) dX1_init_17 (fun H locs Z => ?_)
  have Z : zHC G s (stc _ 6 (.inr (1, [.ref (zr G 7), .ref (zr G 8), .null, .null, .int 0, .int 0, .int 0, .int 0, .int 0]))) _ H locs := Z
  refine lv_aload_n C.1.1 C.1.2.1 dX1_init_20 rfl (lv_at hl 0 rfl) ?_
  refine lv_bipush (v := (8 : Int32)) C.1.1 C.1.2.1 dX1_init_21 (by decide) ?_
  refine c_newa (atype := .int) (ty := .int) (cA := G.2.1.1) C Z (N' := 8) rfl 0 rfl (fun h => h) rfl lkR_int (by decide) (by decide) (Nat.le_of_ble_eq_true rfl) (Nat.le_of_ble_eq_true rfl) (Nat.le_of_ble_eq_true rfl) dX1_init_23 (fun H Z => ?_)
  refine c_putF (k := 6) (b := 9) (fs := [.ref (zr G 7), .ref (zr G 8), .null, .null, .int 0, .int 0, .int 0, .int 0, .int 0]) C Z (by have h9 := hs.2.2.2; omega) (by omega) (by first | rfl | exact he) rfl inZX1 tyX1 tyX1_ok nmX1 2 (by decide) lkF_X1_18 rfl rfl hs.2.2.1 (ty := tyX1 2) (tyX1_ok 2 (by decide)) rfl rfl (Nat.le_of_ble_eq_true rfl) dX1_init_25 (fun H locs Z => ?_)
  have Z : zHC G s (stc _ 6 (.inr (1, [.ref (zr G 7), .ref (zr G 8), .ref (zr G 9), .null, .int 0, .int 0, .int 0, .int 0, .int 0]))) _ H locs := Z
  refine lv_aload_n C.1.1 C.1.2.1 dX1_init_28 rfl (lv_at hl 0 rfl) ?_
  refine lv_bipush (v := (6 : Int32)) C.1.1 C.1.2.1 dX1_init_29 (by decide) ?_
  refine c_newa (atype := .int) (ty := .int) (cA := G.2.1.1) C Z (N' := 6) rfl 0 rfl (fun h => h) rfl lkR_int (by decide) (by decide) (Nat.le_of_ble_eq_true rfl) (Nat.le_of_ble_eq_true rfl) (Nat.le_of_ble_eq_true rfl) dX1_init_31 (fun H Z => ?_)
  refine c_putF (k := 6) (b := 10) (fs := [.ref (zr G 7), .ref (zr G 8), .ref (zr G 9), .null, .int 0, .int 0, .int 0, .int 0, .int 0]) C Z (by have h9 := hs.2.2.2; omega) (by omega) (by first | rfl | exact he) rfl inZX1 tyX1 tyX1_ok nmX1 3 (by decide) lkF_X1_21 rfl rfl hs.2.2.1 (ty := tyX1 3) (tyX1_ok 3 (by decide)) rfl rfl (Nat.le_of_ble_eq_true rfl) dX1_init_33 (fun H locs Z => ?_)
  have Z : zHC G s (stc _ 6 (.inr (1, [.ref (zr G 7), .ref (zr G 8), .ref (zr G 9), .ref (zr G 10), .int 0, .int 0, .int 0, .int 0, .int 0]))) _ H locs := Z
  refine lv_aload_n C.1.1 C.1.2.1 dX1_init_36 rfl (lv_at hl 0 rfl) ?_
  refine c_callV (b := 6) (As := []) (rest := []) C Z (MC_X1_beginAsAtFirst l G C.2.1 _ rfl) (cwV 0 C.1.2.2.2.2 (zGoodV lkM_X1_24 lkI_X1_beginAsAtFirst lkV_X1_beginAsAtFirst lkN_X1 lkC_X1_beginAsAtFirst) rfl rfl rfl (by decide +kernel) ⟨Nat.le_of_ble_eq_true rfl, Nat.le_of_ble_eq_true rfl⟩) (by omega) rfl rfl rfl hl.1 rfl (Nat.le_of_ble_eq_true rfl) ⟨Nat.le_of_ble_eq_true rfl, Nat.le_of_ble_eq_true rfl⟩ dX1_init_37 (fun H locs Z => ?_)
  exact c_vret C Z hs.1 hs.2.1 dX1_init_40
def e_X3_init (G : zG) (k : Nat) (cf : Nat → va_E) : Nat → va_E :=
  stc (stc cf (k + 1) (.inl (G.2.1.1, 6, .inl (fun _ => 0)))) k (.inr (3, [.ref (zr G (k + 1)), .int 0, .int 0, .int 0, .int 0, .int 0, .int 0]))
set_option maxHeartbeats 4000000 in
set_option maxRecDepth 100000 in
theorem MC_X3_init (l : Launch) (G : zG) (hG : zSeq G) (cf : Nat → va_E) (k : Nat) (hk : k + 2 ≤ 54) (he : cf k = .inr (3, [.null, .int 0, .int 0, .int 0, .int 0, .int 0, .int 0])) : zMC l G yX3_init cX3_init 1 none 1 12 1 6 [.ref (zr G k)] cf (k + 1) (zQC G (e_X3_init G k cf) (k + 2)) := by
  refine zStartC hG (by omega) (by decide +kernel) (Nat.le_of_ble_eq_true rfl) (fun p e s m below meth c C hs ls hl Z => ?_)
  have hl : lv_has ls 1 [(0, .ref (zr G k))] := hl
  have C : zCC G p s m _ c cX3_init 1 RX3 := C
  refine lv_aload_n C.1.1 C.1.2.1 dX3_init_0 rfl (lv_at hl 0 rfl) ?_
  refine W.objInit C.1.1 C.1.2.1 C.1.2.2.2.1 (C.1.2.2.2.2 _ lkO_X3) (C.1.2.2.2.2 _ lkO_inst) (C.1.2.2.2.2 _ lkO_code) rfl (by rw [C.1.2.2.1]; exact hl.1) rfl dX3_init_1 (Nat.le_of_ble_eq_true rfl) (Nat.le_of_ble_eq_true rfl) ?_
  refine W.eq (g2 := F0 m 4 ls []) rfl ?_
  refine lv_aload_n C.1.1 C.1.2.1 dX3_init_4 rfl (lv_at hl 0 rfl) ?_
  refine lv_bipush (v := (6 : Int32)) C.1.1 C.1.2.1 dX3_init_5 (by decide) ?_
  refine c_newa (atype := .int) (ty := .int) (cA := G.2.1.1) C Z (N' := 6) rfl 0 rfl (fun h => h) rfl lkR_int (by decide) (by decide) (Nat.le_of_ble_eq_true rfl) (Nat.le_of_ble_eq_true rfl) (Nat.le_of_ble_eq_true rfl) dX3_init_7 (fun H Z => ?_)
  refine c_putF (k := k) (b := (k + 1)) (fs := [.null, .int 0, .int 0, .int 0, .int 0, .int 0, .int 0]) C Z (by have h9 := hs.2.2.2; omega) (by omega) (by first | rfl | exact he | exact (stc_ne (by omega)).trans he) rfl inZX3 tyX3 tyX3_ok nmX3 0 (by decide) lkF_X3_9 rfl rfl hs.2.2.1 (ty := tyX3 0) (tyX3_ok 0 (by decide)) rfl rfl (Nat.le_of_ble_eq_true rfl) dX3_init_9 (fun H locs Z => ?_)
  have Z : zHC G s (stc _ k (.inr (3, [.ref (zr G (k + 1)), .int 0, .int 0, .int 0, .int 0, .int 0, .int 0]))) _ H locs := Z
  exact c_vret C Z hs.1 hs.2.1 dX3_init_12
def e_X0_init (G : zG) (cf : Nat → va_E) : Nat → va_E :=
  stc (stc (stc (stc (stc (stc (stc (stc (stc (stc (stc (stc (stc (stc cf 37 (.inl (G.2.1.1, 6, .inl (fun _ => 0)))) 36 (.inr (0, [.ref (zr G 37), .null, .null, .null, .null, .null, .null, .int 0, .int 0]))) 38 (.inl (G.2.1.1, 6, .inl (fun _ => 0)))) 36 (.inr (0, [.ref (zr G 37), .ref (zr G 38), .null, .null, .null, .null, .null, .int 0, .int 0]))) 39 (.inl (G.2.1.1, 6, .inl (fun _ => 0)))) 36 (.inr (0, [.ref (zr G 37), .ref (zr G 38), .ref (zr G 39), .null, .null, .null, .null, .int 0, .int 0]))) 40 (.inl (G.2.1.1, 6, .inl (fun _ => 0)))) 36 (.inr (0, [.ref (zr G 37), .ref (zr G 38), .ref (zr G 39), .ref (zr G 40), .null, .null, .null, .int 0, .int 0]))) 41 (.inl (G.2.1.1, 6, .inl (fun _ => 0)))) 36 (.inr (0, [.ref (zr G 37), .ref (zr G 38), .ref (zr G 39), .ref (zr G 40), .ref (zr G 41), .null, .null, .int 0, .int 0]))) 42 (.inl (G.2.1.1, 6, .inl (fun _ => 0)))) 36 (.inr (0, [.ref (zr G 37), .ref (zr G 38), .ref (zr G 39), .ref (zr G 40), .ref (zr G 41), .ref (zr G 42), .null, .int 0, .int 0]))) 43 (.inl (G.2.1.2.1, 6, .inl (fun _ => 0)))) 36 (.inr (0, [.ref (zr G 37), .ref (zr G 38), .ref (zr G 39), .ref (zr G 40), .ref (zr G 41), .ref (zr G 42), .ref (zr G 43), .int 0, .int 0]))
set_option maxHeartbeats 4000000 in
set_option maxRecDepth 100000 in
theorem MC_X0_init (l : Launch) (G : zG) (hG : zSeq G) (cf : Nat → va_E) (he : cf 36 = .inr (0, [.null, .null, .null, .null, .null, .null, .null, .int 0, .int 0])) : zMC l G yX0_init cX0_init 1 none 1 12 7 42 [.ref (zr G 36)] cf 37 (zQC G (e_X0_init G cf) (44)) := by
  refine zStartC hG (by omega) (by decide +kernel) (Nat.le_of_ble_eq_true rfl) (fun p e s m below meth c C hs ls hl Z => ?_)
  have hl : lv_has ls 1 [(0, .ref (zr G 36))] := hl
  have C : zCC G p s m _ c cX0_init 1 RX0 := C
  refine lv_aload_n C.1.1 C.1.2.1 dX0_init_0 rfl (lv_at hl 0 rfl) ?_
  refine W.objInit C.1.1 C.1.2.1 C.1.2.2.2.1 (C.1.2.2.2.2 _ lkO_X0) (C.1.2.2.2.2 _ lkO_inst) (C.1.2.2.2.2 _ lkO_code) rfl (by rw [C.1.2.2.1]; exact hl.1) rfl dX0_init_1 (Nat.le_of_ble_eq_true rfl) (Nat.le_of_ble_eq_true rfl) ?_
  refine W.eq (g2 := F0 m 4 ls []) rfl ?_
  refine lv_aload_n C.1.1 C.1.2.1 dX0_init_4 rfl (lv_at hl 0 rfl) ?_
  refine lv_bipush (v := (6 : Int32)) C.1.1 C.1.2.1 dX0_init_5 (by decide) ?_
  refine c_newa (atype := .int) (ty := .int) (cA := G.2.1.1) C Z (N' := 6) rfl 0 rfl (fun h => h) rfl lkR_int (by decide) (by decide) (Nat.le_of_ble_eq_true rfl) (Nat.le_of_ble_eq_true rfl) (Nat.le_of_ble_eq_true rfl) dX0_init_7 (fun H Z => ?_)
  refine c_putF (k := 36) (b := 37) (fs := [.null, .null, .null, .null, .null, .null, .null, .int 0, .int 0]) C Z (by have h9 := hs.2.2.2; omega) (by omega) (by first | rfl | exact he) rfl inZX0 tyX0 tyX0_ok nmX0 0 (by decide) lkF_X0_9 rfl rfl hs.2.2.1 (ty := tyX0 0) (tyX0_ok 0 (by decide)) rfl rfl (Nat.le_of_ble_eq_true rfl) dX0_init_9 (fun H locs Z => ?_)
  have Z : zHC G s (stc _ 36 (.inr (0, [.ref (zr G 37), .null, .null, .null, .null, .null, .null, .int 0, .int 0]))) _ H locs := Z
  refine lv_aload_n C.1.1 C.1.2.1 dX0_init_12 rfl (lv_at hl 0 rfl) ?_
  refine lv_bipush (v := (6 : Int32)) C.1.1 C.1.2.1 dX0_init_13 (by decide) ?_
  refine c_newa (atype := .int) (ty := .int) (cA := G.2.1.1) C Z (N' := 6) rfl 0 rfl (fun h => h) rfl lkR_int (by decide) (by decide) (Nat.le_of_ble_eq_true rfl) (Nat.le_of_ble_eq_true rfl) (Nat.le_of_ble_eq_true rfl) dX0_init_15 (fun H Z => ?_)
  refine c_putF (k := 36) (b := 38) (fs := [.ref (zr G 37), .null, .null, .null, .null, .null, .null, .int 0, .int 0]) C Z (by have h9 := hs.2.2.2; omega) (by omega) (by first | rfl | exact he) rfl inZX0 tyX0 tyX0_ok nmX0 1 (by decide) lkF_X0_15 rfl rfl hs.2.2.1 (ty := tyX0 1) (tyX0_ok 1 (by decide)) rfl rfl (Nat.le_of_ble_eq_true rfl) dX0_init_17 (fun H locs Z => ?_)
  have Z : zHC G s (stc _ 36 (.inr (0, [.ref (zr G 37), .ref (zr G 38), .null, .null, .null, .null, .null, .int 0, .int 0]))) _ H locs := Z
  refine lv_aload_n C.1.1 C.1.2.1 dX0_init_20 rfl (lv_at hl 0 rfl) ?_
  refine lv_bipush (v := (6 : Int32)) C.1.1 C.1.2.1 dX0_init_21 (by decide) ?_
  refine c_newa (atype := .int) (ty := .int) (cA := G.2.1.1) C Z (N' := 6) rfl 0 rfl (fun h => h) rfl lkR_int (by decide) (by decide) (Nat.le_of_ble_eq_true rfl) (Nat.le_of_ble_eq_true rfl) (Nat.le_of_ble_eq_true rfl) dX0_init_23 (fun H Z => ?_)
  refine c_putF (k := 36) (b := 39) (fs := [.ref (zr G 37), .ref (zr G 38), .null, .null, .null, .null, .null, .int 0, .int 0]) C Z (by have h9 := hs.2.2.2; omega) (by omega) (by first | rfl | exact he) rfl inZX0 tyX0 tyX0_ok nmX0 2 (by decide) lkF_X0_18 rfl rfl hs.2.2.1 (ty := tyX0 2) (tyX0_ok 2 (by decide)) rfl rfl (Nat.le_of_ble_eq_true rfl) dX0_init_25 (fun H locs Z => ?_)
  have Z : zHC G s (stc _ 36 (.inr (0, [.ref (zr G 37), .ref (zr G 38), .ref (zr G 39), .null, .null, .null, .null, .int 0, .int 0]))) _ H locs := Z
  refine lv_aload_n C.1.1 C.1.2.1 dX0_init_28 rfl (lv_at hl 0 rfl) ?_
  refine lv_bipush (v := (6 : Int32)) C.1.1 C.1.2.1 dX0_init_29 (by decide) ?_
  refine c_newa (atype := .int) (ty := .int) (cA := G.2.1.1) C Z (N' := 6) rfl 0 rfl (fun h => h) rfl lkR_int (by decide) (by decide) (Nat.le_of_ble_eq_true rfl) (Nat.le_of_ble_eq_true rfl) (Nat.le_of_ble_eq_true rfl) dX0_init_31 (fun H Z => ?_)
  refine c_putF (k := 36) (b := 40) (fs := [.ref (zr G 37), .ref (zr G 38), .ref (zr G 39), .null, .null, .null, .null, .int 0, .int 0]) C Z (by have h9 := hs.2.2.2; omega) (by omega) (by first | rfl | exact he) rfl inZX0 tyX0 tyX0_ok nmX0 3 (by decide) lkF_X0_21 rfl rfl hs.2.2.1 (ty := tyX0 3) (tyX0_ok 3 (by decide)) rfl rfl (Nat.le_of_ble_eq_true rfl) dX0_init_33 (fun H locs Z => ?_)
  have Z : zHC G s (stc _ 36 (.inr (0, [.ref (zr G 37), .ref (zr G 38), .ref (zr G 39), .ref (zr G 40), .null, .null, .null, .int 0, .int 0]))) _ H locs := Z
  refine lv_aload_n C.1.1 C.1.2.1 dX0_init_36 rfl (lv_at hl 0 rfl) ?_
  refine lv_bipush (v := (6 : Int32)) C.1.1 C.1.2.1 dX0_init_37 (by decide) ?_
  refine c_newa (atype := .int) (ty := .int) (cA := G.2.1.1) C Z (N' := 6) rfl 0 rfl (fun h => h) rfl lkR_int (by decide) (by decide) (Nat.le_of_ble_eq_true rfl) (Nat.le_of_ble_eq_true rfl) (Nat.le_of_ble_eq_true rfl) dX0_init_39 (fun H Z => ?_)
  refine c_putF (k := 36) (b := 41) (fs := [.ref (zr G 37), .ref (zr G 38), .ref (zr G 39), .ref (zr G 40), .null, .null, .null, .int 0, .int 0]) C Z (by have h9 := hs.2.2.2; omega) (by omega) (by first | rfl | exact he) rfl inZX0 tyX0 tyX0_ok nmX0 4 (by decide) lkF_X0_24 rfl rfl hs.2.2.1 (ty := tyX0 4) (tyX0_ok 4 (by decide)) rfl rfl (Nat.le_of_ble_eq_true rfl) dX0_init_41 (fun H locs Z => ?_)
  have Z : zHC G s (stc _ 36 (.inr (0, [.ref (zr G 37), .ref (zr G 38), .ref (zr G 39), .ref (zr G 40), .ref (zr G 41), .null, .null, .int 0, .int 0]))) _ H locs := Z
  refine lv_aload_n C.1.1 C.1.2.1 dX0_init_44 rfl (lv_at hl 0 rfl) ?_
  refine lv_bipush (v := (6 : Int32)) C.1.1 C.1.2.1 dX0_init_45 (by decide) ?_
  refine c_newa (atype := .int) (ty := .int) (cA := G.2.1.1) C Z (N' := 6) rfl 0 rfl (fun h => h) rfl lkR_int (by decide) (by decide) (Nat.le_of_ble_eq_true rfl) (Nat.le_of_ble_eq_true rfl) (Nat.le_of_ble_eq_true rfl) dX0_init_47 (fun H Z => ?_)
  refine c_putF (k := 36) (b := 42) (fs := [.ref (zr G 37), .ref (zr G 38), .ref (zr G 39), .ref (zr G 40), .ref (zr G 41), .null, .null, .int 0, .int 0]) C Z (by have h9 := hs.2.2.2; omega) (by omega) (by first | rfl | exact he) rfl inZX0 tyX0 tyX0_ok nmX0 5 (by decide) lkF_X0_27 rfl rfl hs.2.2.1 (ty := tyX0 5) (tyX0_ok 5 (by decide)) rfl rfl (Nat.le_of_ble_eq_true rfl) dX0_init_49 (fun H locs Z => ?_)
  have Z : zHC G s (stc _ 36 (.inr (0, [.ref (zr G 37), .ref (zr G 38), .ref (zr G 39), .ref (zr G 40), .ref (zr G 41), .ref (zr G 42), .null, .int 0, .int 0]))) _ H locs := Z
  refine lv_aload_n C.1.1 C.1.2.1 dX0_init_52 rfl (lv_at hl 0 rfl) ?_
  refine lv_bipush (v := (6 : Int32)) C.1.1 C.1.2.1 dX0_init_53 (by decide) ?_
  refine c_newa (atype := .boolean) (ty := .boolean) (cA := G.2.1.2.1) C Z (N' := 6) rfl 1 rfl (fun h => h) rfl lkR_boolean (by decide) (by decide) (Nat.le_of_ble_eq_true rfl) (Nat.le_of_ble_eq_true rfl) (Nat.le_of_ble_eq_true rfl) dX0_init_55 (fun H Z => ?_)
  refine c_putF (k := 36) (b := 43) (fs := [.ref (zr G 37), .ref (zr G 38), .ref (zr G 39), .ref (zr G 40), .ref (zr G 41), .ref (zr G 42), .null, .int 0, .int 0]) C Z (by have h9 := hs.2.2.2; omega) (by omega) (by first | rfl | exact he) rfl inZX0 tyX0 tyX0_ok nmX0 6 (by decide) lkF_X0_30 rfl rfl hs.2.2.1 (ty := tyX0 6) (tyX0_ok 6 (by decide)) rfl rfl (Nat.le_of_ble_eq_true rfl) dX0_init_57 (fun H locs Z => ?_)
  have Z : zHC G s (stc _ 36 (.inr (0, [.ref (zr G 37), .ref (zr G 38), .ref (zr G 39), .ref (zr G 40), .ref (zr G 41), .ref (zr G 42), .ref (zr G 43), .int 0, .int 0]))) _ H locs := Z
  exact c_vret C Z hs.1 hs.2.1 dX0_init_60
def e_newWeeks8 (G : zG) (cf : Nat → va_E) : Nat → va_E :=
  stc (e_X3_init G 28 (stc (stc (e_X3_init G 26 (stc (stc (e_X3_init G 24 (stc (stc (e_X3_init G 22 (stc (stc (e_X3_init G 20 (stc (stc (e_X3_init G 18 (stc (stc (e_X3_init G 16 (stc (stc (e_X3_init G 14 (stc (stc cf 13 (.inl (G.2.1.2.2, 8, .inr (.inr (.inr (.inr (fun _ => none))))))) 14 (.inr (3, [.null, .int 0, .int 0, .int 0, .int 0, .int 0, .int 0])))) 13 (.inl (G.2.1.2.2, 8, .inr (.inr (.inr (.inr (va_up (fun _ => none) (0 : Int32).toNatClampNeg (some (zr G 14))))))))) 16 (.inr (3, [.null, .int 0, .int 0, .int 0, .int 0, .int 0, .int 0])))) 13 (.inl (G.2.1.2.2, 8, .inr (.inr (.inr (.inr (va_up (va_up (fun _ => none) (0 : Int32).toNatClampNeg (some (zr G 14))) (1 : Int32).toNatClampNeg (some (zr G 16))))))))) 18 (.inr (3, [.null, .int 0, .int 0, .int 0, .int 0, .int 0, .int 0])))) 13 (.inl (G.2.1.2.2, 8, .inr (.inr (.inr (.inr (va_up (va_up (va_up (fun _ => none) (0 : Int32).toNatClampNeg (some (zr G 14))) (1 : Int32).toNatClampNeg (some (zr G 16))) (2 : Int32).toNatClampNeg (some (zr G 18))))))))) 20 (.inr (3, [.null, .int 0, .int 0, .int 0, .int 0, .int 0, .int 0])))) 13 (.inl (G.2.1.2.2, 8, .inr (.inr (.inr (.inr (va_up (va_up (va_up (va_up (fun _ => none) (0 : Int32).toNatClampNeg (some (zr G 14))) (1 : Int32).toNatClampNeg (some (zr G 16))) (2 : Int32).toNatClampNeg (some (zr G 18))) (3 : Int32).toNatClampNeg (some (zr G 20))))))))) 22 (.inr (3, [.null, .int 0, .int 0, .int 0, .int 0, .int 0, .int 0])))) 13 (.inl (G.2.1.2.2, 8, .inr (.inr (.inr (.inr (va_up (va_up (va_up (va_up (va_up (fun _ => none) (0 : Int32).toNatClampNeg (some (zr G 14))) (1 : Int32).toNatClampNeg (some (zr G 16))) (2 : Int32).toNatClampNeg (some (zr G 18))) (3 : Int32).toNatClampNeg (some (zr G 20))) (4 : Int32).toNatClampNeg (some (zr G 22))))))))) 24 (.inr (3, [.null, .int 0, .int 0, .int 0, .int 0, .int 0, .int 0])))) 13 (.inl (G.2.1.2.2, 8, .inr (.inr (.inr (.inr (va_up (va_up (va_up (va_up (va_up (va_up (fun _ => none) (0 : Int32).toNatClampNeg (some (zr G 14))) (1 : Int32).toNatClampNeg (some (zr G 16))) (2 : Int32).toNatClampNeg (some (zr G 18))) (3 : Int32).toNatClampNeg (some (zr G 20))) (4 : Int32).toNatClampNeg (some (zr G 22))) (5 : Int32).toNatClampNeg (some (zr G 24))))))))) 26 (.inr (3, [.null, .int 0, .int 0, .int 0, .int 0, .int 0, .int 0])))) 13 (.inl (G.2.1.2.2, 8, .inr (.inr (.inr (.inr (va_up (va_up (va_up (va_up (va_up (va_up (va_up (fun _ => none) (0 : Int32).toNatClampNeg (some (zr G 14))) (1 : Int32).toNatClampNeg (some (zr G 16))) (2 : Int32).toNatClampNeg (some (zr G 18))) (3 : Int32).toNatClampNeg (some (zr G 20))) (4 : Int32).toNatClampNeg (some (zr G 22))) (5 : Int32).toNatClampNeg (some (zr G 24))) (6 : Int32).toNatClampNeg (some (zr G 26))))))))) 28 (.inr (3, [.null, .int 0, .int 0, .int 0, .int 0, .int 0, .int 0])))) 13 (.inl (G.2.1.2.2, 8, .inr (.inr (.inr (.inr (va_up (va_up (va_up (va_up (va_up (va_up (va_up (va_up (fun _ => none) (0 : Int32).toNatClampNeg (some (zr G 14))) (1 : Int32).toNatClampNeg (some (zr G 16))) (2 : Int32).toNatClampNeg (some (zr G 18))) (3 : Int32).toNatClampNeg (some (zr G 20))) (4 : Int32).toNatClampNeg (some (zr G 22))) (5 : Int32).toNatClampNeg (some (zr G 24))) (6 : Int32).toNatClampNeg (some (zr G 26))) (7 : Int32).toNatClampNeg (some (zr G 28))))))))
set_option maxHeartbeats 4000000 in
set_option maxRecDepth 100000 in
theorem MC_newWeeks8 (l : Launch) (G : zG) (hG : zSeq G) (cf : Nat → va_E) : zMC l G yX4_newWeeks cX4_newWeeks 3 (some (.array (.object "SermonScale$Week"))) 2 32 17 112 [.int (8 : Int32)] cf 13 (zQCr G 13 (e_newWeeks8 G cf) (30)) := by
  refine zStartC hG (by omega) (by decide +kernel) (Nat.le_of_ble_eq_true rfl) (fun p e s m below meth c C hs ls hl Z => ?_)
  have hl : lv_has ls 3 [(0, .int (8 : Int32))] := hl
  have C : zCC G p s m _ c cX4_newWeeks 3 RX4 := C
  refine lv_iload_n C.1.1 C.1.2.1 dX4_newWeeks_0 rfl (lv_at hl 0 rfl) ?_
  refine c_newq C Z (N' := 8) lkL_X4_23 C.2.2.2.2.2.2.2.2.2.2.2.2.2.2 (by decide) (by decide) (Nat.le_of_ble_eq_true rfl) (Nat.le_of_ble_eq_true rfl) (Nat.le_of_ble_eq_true rfl) dX4_newWeeks_1 (fun H Z => ?_)
  refine lv_astore_n (lv' := [(1, .ref (zr G 13)), (0, .int (8 : Int32))]) C.1.1 C.1.2.1 dX4_newWeeks_4 rfl hl (by decide) rfl (fun ls hl => ?_)
  refine lv_iconst (v := (0 : Int32)) C.1.1 C.1.2.1 dX4_newWeeks_5 (by decide) ?_
  refine lv_istore_n (lv' := [(2, .int (0 : Int32)), (1, .ref (zr G 13)), (0, .int (8 : Int32))]) C.1.1 C.1.2.1 dX4_newWeeks_6 rfl hl (by decide) rfl (fun ls hl => ?_)
  refine lv_iload_n C.1.1 C.1.2.1 dX4_newWeeks_7 rfl (lv_at hl 0 rfl) ?_
  refine lv_aload_n C.1.1 C.1.2.1 dX4_newWeeks_8 rfl (lv_at hl 1 rfl) ?_
  refine c_alen (k := 13) (N := 8) C Z (by omega) rfl rfl dX4_newWeeks_9 ?_
  refine lv_icmp_ge (tgt := 29) C.1.1 C.1.2.1 dX4_newWeeks_10 (by decide) (fun h => absurd h (by decide)) (fun _ => ?_)
  refine lv_aload_n C.1.1 C.1.2.1 dX4_newWeeks_13 rfl (lv_at hl 1 rfl) ?_
  refine lv_iload_n C.1.1 C.1.2.1 dX4_newWeeks_14 rfl (lv_at hl 0 rfl) ?_
  refine c_new (ci := 3) (fs := [.null, .int 0, .int 0, .int 0, .int 0, .int 0, .int 0]) C Z inZX3 tyX3 tyX3_ok lkL_X4_23 lkT_X3 lkN_X3 rfl (fun j hj => by rcases (show j = 0 ∨ j = 1 ∨ j = 2 ∨ j = 3 ∨ j = 4 ∨ j = 5 ∨ j = 6 by omega) with rfl | rfl | rfl | rfl | rfl | rfl | rfl <;> rfl) (Nat.le_of_ble_eq_true rfl) (Nat.le_of_ble_eq_true rfl) dX4_newWeeks_15 (fun H Z => ?_)
  refine lv_dup C.1.1 C.1.2.1 dX4_newWeeks_18 rfl ?_
  refine c_callIN (b := 14) (As := []) (rest := [.ref (zr G 14), .int (0 : Int32), .ref (zr G 13)]) C Z (MC_X3_init l G C.2.1 _ 14 (by omega) rfl) ⟨va_cnB 0 C.1.2.2.2.2 (zGood lkC_X3_init) rfl rfl rfl (C.2.2.2.2.2.2.2.2.2.1) (C.1.2.2.2.2 _ lkN_X3) (by decide +kernel) ⟨Nat.le_of_ble_eq_true rfl, Nat.le_of_ble_eq_true rfl⟩, rfl, C.1.2.2.2.2 _ lkI_X3_init⟩ rfl hl.1 rfl (Nat.le_of_ble_eq_true rfl) ⟨Nat.le_of_ble_eq_true rfl, Nat.le_of_ble_eq_true rfl⟩ dX4_newWeeks_19 (fun H locs Z => ?_)
  refine c_astq C Z (by have h9 := hs.2.2.2; omega) (k := 13) (b := 14) (N := 8) (by omega) rfl (by omega) rfl (zin_in (n := 8) (by decide)) dX4_newWeeks_22 (fun H locs Z => ?_)
  refine lv_iinc (v := (1 : Int32)) (lv' := [(2, .int (1 : Int32)), (1, .ref (zr G 13)), (0, .int (8 : Int32))]) C.1.1 C.1.2.1 dX4_newWeeks_23 hl (k := 0) rfl (by decide) (by decide) rfl (fun ls hl => ?_)
  refine lv_goto (tgt := 7) C.1.1 C.1.2.1 dX4_newWeeks_26 (by decide) ?_
  refine lv_iload_n C.1.1 C.1.2.1 dX4_newWeeks_7 rfl (lv_at hl 0 rfl) ?_
  refine lv_aload_n C.1.1 C.1.2.1 dX4_newWeeks_8 rfl (lv_at hl 1 rfl) ?_
  refine c_alen (k := 13) (N := 8) C Z (by omega) rfl rfl dX4_newWeeks_9 ?_
  refine lv_icmp_ge (tgt := 29) C.1.1 C.1.2.1 dX4_newWeeks_10 (by decide) (fun h => absurd h (by decide)) (fun _ => ?_)
  refine lv_aload_n C.1.1 C.1.2.1 dX4_newWeeks_13 rfl (lv_at hl 1 rfl) ?_
  refine lv_iload_n C.1.1 C.1.2.1 dX4_newWeeks_14 rfl (lv_at hl 0 rfl) ?_
  refine c_new (ci := 3) (fs := [.null, .int 0, .int 0, .int 0, .int 0, .int 0, .int 0]) C Z inZX3 tyX3 tyX3_ok lkL_X4_23 lkT_X3 lkN_X3 rfl (fun j hj => by rcases (show j = 0 ∨ j = 1 ∨ j = 2 ∨ j = 3 ∨ j = 4 ∨ j = 5 ∨ j = 6 by omega) with rfl | rfl | rfl | rfl | rfl | rfl | rfl <;> rfl) (Nat.le_of_ble_eq_true rfl) (Nat.le_of_ble_eq_true rfl) dX4_newWeeks_15 (fun H Z => ?_)
  refine lv_dup C.1.1 C.1.2.1 dX4_newWeeks_18 rfl ?_
  refine c_callIN (b := 16) (As := []) (rest := [.ref (zr G 16), .int (1 : Int32), .ref (zr G 13)]) C Z (MC_X3_init l G C.2.1 _ 16 (by omega) rfl) ⟨va_cnB 0 C.1.2.2.2.2 (zGood lkC_X3_init) rfl rfl rfl (C.2.2.2.2.2.2.2.2.2.1) (C.1.2.2.2.2 _ lkN_X3) (by decide +kernel) ⟨Nat.le_of_ble_eq_true rfl, Nat.le_of_ble_eq_true rfl⟩, rfl, C.1.2.2.2.2 _ lkI_X3_init⟩ rfl hl.1 rfl (Nat.le_of_ble_eq_true rfl) ⟨Nat.le_of_ble_eq_true rfl, Nat.le_of_ble_eq_true rfl⟩ dX4_newWeeks_19 (fun H locs Z => ?_)
  refine c_astq C Z (by have h9 := hs.2.2.2; omega) (k := 13) (b := 16) (N := 8) (by omega) rfl (by omega) rfl (zin_in (n := 8) (by decide)) dX4_newWeeks_22 (fun H locs Z => ?_)
  refine lv_iinc (v := (2 : Int32)) (lv' := [(2, .int (2 : Int32)), (1, .ref (zr G 13)), (0, .int (8 : Int32))]) C.1.1 C.1.2.1 dX4_newWeeks_23 hl (k := 0) rfl (by decide) (by decide) rfl (fun ls hl => ?_)
  refine lv_goto (tgt := 7) C.1.1 C.1.2.1 dX4_newWeeks_26 (by decide) ?_
  refine lv_iload_n C.1.1 C.1.2.1 dX4_newWeeks_7 rfl (lv_at hl 0 rfl) ?_
  refine lv_aload_n C.1.1 C.1.2.1 dX4_newWeeks_8 rfl (lv_at hl 1 rfl) ?_
  refine c_alen (k := 13) (N := 8) C Z (by omega) rfl rfl dX4_newWeeks_9 ?_
  refine lv_icmp_ge (tgt := 29) C.1.1 C.1.2.1 dX4_newWeeks_10 (by decide) (fun h => absurd h (by decide)) (fun _ => ?_)
  refine lv_aload_n C.1.1 C.1.2.1 dX4_newWeeks_13 rfl (lv_at hl 1 rfl) ?_
  refine lv_iload_n C.1.1 C.1.2.1 dX4_newWeeks_14 rfl (lv_at hl 0 rfl) ?_
  refine c_new (ci := 3) (fs := [.null, .int 0, .int 0, .int 0, .int 0, .int 0, .int 0]) C Z inZX3 tyX3 tyX3_ok lkL_X4_23 lkT_X3 lkN_X3 rfl (fun j hj => by rcases (show j = 0 ∨ j = 1 ∨ j = 2 ∨ j = 3 ∨ j = 4 ∨ j = 5 ∨ j = 6 by omega) with rfl | rfl | rfl | rfl | rfl | rfl | rfl <;> rfl) (Nat.le_of_ble_eq_true rfl) (Nat.le_of_ble_eq_true rfl) dX4_newWeeks_15 (fun H Z => ?_)
  refine lv_dup C.1.1 C.1.2.1 dX4_newWeeks_18 rfl ?_
  refine c_callIN (b := 18) (As := []) (rest := [.ref (zr G 18), .int (2 : Int32), .ref (zr G 13)]) C Z (MC_X3_init l G C.2.1 _ 18 (by omega) rfl) ⟨va_cnB 0 C.1.2.2.2.2 (zGood lkC_X3_init) rfl rfl rfl (C.2.2.2.2.2.2.2.2.2.1) (C.1.2.2.2.2 _ lkN_X3) (by decide +kernel) ⟨Nat.le_of_ble_eq_true rfl, Nat.le_of_ble_eq_true rfl⟩, rfl, C.1.2.2.2.2 _ lkI_X3_init⟩ rfl hl.1 rfl (Nat.le_of_ble_eq_true rfl) ⟨Nat.le_of_ble_eq_true rfl, Nat.le_of_ble_eq_true rfl⟩ dX4_newWeeks_19 (fun H locs Z => ?_)
  refine c_astq C Z (by have h9 := hs.2.2.2; omega) (k := 13) (b := 18) (N := 8) (by omega) rfl (by omega) rfl (zin_in (n := 8) (by decide)) dX4_newWeeks_22 (fun H locs Z => ?_)
  refine lv_iinc (v := (3 : Int32)) (lv' := [(2, .int (3 : Int32)), (1, .ref (zr G 13)), (0, .int (8 : Int32))]) C.1.1 C.1.2.1 dX4_newWeeks_23 hl (k := 0) rfl (by decide) (by decide) rfl (fun ls hl => ?_)
  refine lv_goto (tgt := 7) C.1.1 C.1.2.1 dX4_newWeeks_26 (by decide) ?_
  refine lv_iload_n C.1.1 C.1.2.1 dX4_newWeeks_7 rfl (lv_at hl 0 rfl) ?_
  refine lv_aload_n C.1.1 C.1.2.1 dX4_newWeeks_8 rfl (lv_at hl 1 rfl) ?_
  refine c_alen (k := 13) (N := 8) C Z (by omega) rfl rfl dX4_newWeeks_9 ?_
  refine lv_icmp_ge (tgt := 29) C.1.1 C.1.2.1 dX4_newWeeks_10 (by decide) (fun h => absurd h (by decide)) (fun _ => ?_)
  refine lv_aload_n C.1.1 C.1.2.1 dX4_newWeeks_13 rfl (lv_at hl 1 rfl) ?_
  refine lv_iload_n C.1.1 C.1.2.1 dX4_newWeeks_14 rfl (lv_at hl 0 rfl) ?_
  refine c_new (ci := 3) (fs := [.null, .int 0, .int 0, .int 0, .int 0, .int 0, .int 0]) C Z inZX3 tyX3 tyX3_ok lkL_X4_23 lkT_X3 lkN_X3 rfl (fun j hj => by rcases (show j = 0 ∨ j = 1 ∨ j = 2 ∨ j = 3 ∨ j = 4 ∨ j = 5 ∨ j = 6 by omega) with rfl | rfl | rfl | rfl | rfl | rfl | rfl <;> rfl) (Nat.le_of_ble_eq_true rfl) (Nat.le_of_ble_eq_true rfl) dX4_newWeeks_15 (fun H Z => ?_)
  refine lv_dup C.1.1 C.1.2.1 dX4_newWeeks_18 rfl ?_
  refine c_callIN (b := 20) (As := []) (rest := [.ref (zr G 20), .int (3 : Int32), .ref (zr G 13)]) C Z (MC_X3_init l G C.2.1 _ 20 (by omega) rfl) ⟨va_cnB 0 C.1.2.2.2.2 (zGood lkC_X3_init) rfl rfl rfl (C.2.2.2.2.2.2.2.2.2.1) (C.1.2.2.2.2 _ lkN_X3) (by decide +kernel) ⟨Nat.le_of_ble_eq_true rfl, Nat.le_of_ble_eq_true rfl⟩, rfl, C.1.2.2.2.2 _ lkI_X3_init⟩ rfl hl.1 rfl (Nat.le_of_ble_eq_true rfl) ⟨Nat.le_of_ble_eq_true rfl, Nat.le_of_ble_eq_true rfl⟩ dX4_newWeeks_19 (fun H locs Z => ?_)
  refine c_astq C Z (by have h9 := hs.2.2.2; omega) (k := 13) (b := 20) (N := 8) (by omega) rfl (by omega) rfl (zin_in (n := 8) (by decide)) dX4_newWeeks_22 (fun H locs Z => ?_)
  refine lv_iinc (v := (4 : Int32)) (lv' := [(2, .int (4 : Int32)), (1, .ref (zr G 13)), (0, .int (8 : Int32))]) C.1.1 C.1.2.1 dX4_newWeeks_23 hl (k := 0) rfl (by decide) (by decide) rfl (fun ls hl => ?_)
  refine lv_goto (tgt := 7) C.1.1 C.1.2.1 dX4_newWeeks_26 (by decide) ?_
  refine lv_iload_n C.1.1 C.1.2.1 dX4_newWeeks_7 rfl (lv_at hl 0 rfl) ?_
  refine lv_aload_n C.1.1 C.1.2.1 dX4_newWeeks_8 rfl (lv_at hl 1 rfl) ?_
  refine c_alen (k := 13) (N := 8) C Z (by omega) rfl rfl dX4_newWeeks_9 ?_
  refine lv_icmp_ge (tgt := 29) C.1.1 C.1.2.1 dX4_newWeeks_10 (by decide) (fun h => absurd h (by decide)) (fun _ => ?_)
  refine lv_aload_n C.1.1 C.1.2.1 dX4_newWeeks_13 rfl (lv_at hl 1 rfl) ?_
  refine lv_iload_n C.1.1 C.1.2.1 dX4_newWeeks_14 rfl (lv_at hl 0 rfl) ?_
  refine c_new (ci := 3) (fs := [.null, .int 0, .int 0, .int 0, .int 0, .int 0, .int 0]) C Z inZX3 tyX3 tyX3_ok lkL_X4_23 lkT_X3 lkN_X3 rfl (fun j hj => by rcases (show j = 0 ∨ j = 1 ∨ j = 2 ∨ j = 3 ∨ j = 4 ∨ j = 5 ∨ j = 6 by omega) with rfl | rfl | rfl | rfl | rfl | rfl | rfl <;> rfl) (Nat.le_of_ble_eq_true rfl) (Nat.le_of_ble_eq_true rfl) dX4_newWeeks_15 (fun H Z => ?_)
  refine lv_dup C.1.1 C.1.2.1 dX4_newWeeks_18 rfl ?_
  refine c_callIN (b := 22) (As := []) (rest := [.ref (zr G 22), .int (4 : Int32), .ref (zr G 13)]) C Z (MC_X3_init l G C.2.1 _ 22 (by omega) rfl) ⟨va_cnB 0 C.1.2.2.2.2 (zGood lkC_X3_init) rfl rfl rfl (C.2.2.2.2.2.2.2.2.2.1) (C.1.2.2.2.2 _ lkN_X3) (by decide +kernel) ⟨Nat.le_of_ble_eq_true rfl, Nat.le_of_ble_eq_true rfl⟩, rfl, C.1.2.2.2.2 _ lkI_X3_init⟩ rfl hl.1 rfl (Nat.le_of_ble_eq_true rfl) ⟨Nat.le_of_ble_eq_true rfl, Nat.le_of_ble_eq_true rfl⟩ dX4_newWeeks_19 (fun H locs Z => ?_)
  refine c_astq C Z (by have h9 := hs.2.2.2; omega) (k := 13) (b := 22) (N := 8) (by omega) rfl (by omega) rfl (zin_in (n := 8) (by decide)) dX4_newWeeks_22 (fun H locs Z => ?_)
  refine lv_iinc (v := (5 : Int32)) (lv' := [(2, .int (5 : Int32)), (1, .ref (zr G 13)), (0, .int (8 : Int32))]) C.1.1 C.1.2.1 dX4_newWeeks_23 hl (k := 0) rfl (by decide) (by decide) rfl (fun ls hl => ?_)
  refine lv_goto (tgt := 7) C.1.1 C.1.2.1 dX4_newWeeks_26 (by decide) ?_
  refine lv_iload_n C.1.1 C.1.2.1 dX4_newWeeks_7 rfl (lv_at hl 0 rfl) ?_
  refine lv_aload_n C.1.1 C.1.2.1 dX4_newWeeks_8 rfl (lv_at hl 1 rfl) ?_
  refine c_alen (k := 13) (N := 8) C Z (by omega) rfl rfl dX4_newWeeks_9 ?_
  refine lv_icmp_ge (tgt := 29) C.1.1 C.1.2.1 dX4_newWeeks_10 (by decide) (fun h => absurd h (by decide)) (fun _ => ?_)
  refine lv_aload_n C.1.1 C.1.2.1 dX4_newWeeks_13 rfl (lv_at hl 1 rfl) ?_
  refine lv_iload_n C.1.1 C.1.2.1 dX4_newWeeks_14 rfl (lv_at hl 0 rfl) ?_
  refine c_new (ci := 3) (fs := [.null, .int 0, .int 0, .int 0, .int 0, .int 0, .int 0]) C Z inZX3 tyX3 tyX3_ok lkL_X4_23 lkT_X3 lkN_X3 rfl (fun j hj => by rcases (show j = 0 ∨ j = 1 ∨ j = 2 ∨ j = 3 ∨ j = 4 ∨ j = 5 ∨ j = 6 by omega) with rfl | rfl | rfl | rfl | rfl | rfl | rfl <;> rfl) (Nat.le_of_ble_eq_true rfl) (Nat.le_of_ble_eq_true rfl) dX4_newWeeks_15 (fun H Z => ?_)
  refine lv_dup C.1.1 C.1.2.1 dX4_newWeeks_18 rfl ?_
  refine c_callIN (b := 24) (As := []) (rest := [.ref (zr G 24), .int (5 : Int32), .ref (zr G 13)]) C Z (MC_X3_init l G C.2.1 _ 24 (by omega) rfl) ⟨va_cnB 0 C.1.2.2.2.2 (zGood lkC_X3_init) rfl rfl rfl (C.2.2.2.2.2.2.2.2.2.1) (C.1.2.2.2.2 _ lkN_X3) (by decide +kernel) ⟨Nat.le_of_ble_eq_true rfl, Nat.le_of_ble_eq_true rfl⟩, rfl, C.1.2.2.2.2 _ lkI_X3_init⟩ rfl hl.1 rfl (Nat.le_of_ble_eq_true rfl) ⟨Nat.le_of_ble_eq_true rfl, Nat.le_of_ble_eq_true rfl⟩ dX4_newWeeks_19 (fun H locs Z => ?_)
  refine c_astq C Z (by have h9 := hs.2.2.2; omega) (k := 13) (b := 24) (N := 8) (by omega) rfl (by omega) rfl (zin_in (n := 8) (by decide)) dX4_newWeeks_22 (fun H locs Z => ?_)
  refine lv_iinc (v := (6 : Int32)) (lv' := [(2, .int (6 : Int32)), (1, .ref (zr G 13)), (0, .int (8 : Int32))]) C.1.1 C.1.2.1 dX4_newWeeks_23 hl (k := 0) rfl (by decide) (by decide) rfl (fun ls hl => ?_)
  refine lv_goto (tgt := 7) C.1.1 C.1.2.1 dX4_newWeeks_26 (by decide) ?_
  refine lv_iload_n C.1.1 C.1.2.1 dX4_newWeeks_7 rfl (lv_at hl 0 rfl) ?_
  refine lv_aload_n C.1.1 C.1.2.1 dX4_newWeeks_8 rfl (lv_at hl 1 rfl) ?_
  refine c_alen (k := 13) (N := 8) C Z (by omega) rfl rfl dX4_newWeeks_9 ?_
  refine lv_icmp_ge (tgt := 29) C.1.1 C.1.2.1 dX4_newWeeks_10 (by decide) (fun h => absurd h (by decide)) (fun _ => ?_)
  refine lv_aload_n C.1.1 C.1.2.1 dX4_newWeeks_13 rfl (lv_at hl 1 rfl) ?_
  refine lv_iload_n C.1.1 C.1.2.1 dX4_newWeeks_14 rfl (lv_at hl 0 rfl) ?_
  refine c_new (ci := 3) (fs := [.null, .int 0, .int 0, .int 0, .int 0, .int 0, .int 0]) C Z inZX3 tyX3 tyX3_ok lkL_X4_23 lkT_X3 lkN_X3 rfl (fun j hj => by rcases (show j = 0 ∨ j = 1 ∨ j = 2 ∨ j = 3 ∨ j = 4 ∨ j = 5 ∨ j = 6 by omega) with rfl | rfl | rfl | rfl | rfl | rfl | rfl <;> rfl) (Nat.le_of_ble_eq_true rfl) (Nat.le_of_ble_eq_true rfl) dX4_newWeeks_15 (fun H Z => ?_)
  refine lv_dup C.1.1 C.1.2.1 dX4_newWeeks_18 rfl ?_
  refine c_callIN (b := 26) (As := []) (rest := [.ref (zr G 26), .int (6 : Int32), .ref (zr G 13)]) C Z (MC_X3_init l G C.2.1 _ 26 (by omega) rfl) ⟨va_cnB 0 C.1.2.2.2.2 (zGood lkC_X3_init) rfl rfl rfl (C.2.2.2.2.2.2.2.2.2.1) (C.1.2.2.2.2 _ lkN_X3) (by decide +kernel) ⟨Nat.le_of_ble_eq_true rfl, Nat.le_of_ble_eq_true rfl⟩, rfl, C.1.2.2.2.2 _ lkI_X3_init⟩ rfl hl.1 rfl (Nat.le_of_ble_eq_true rfl) ⟨Nat.le_of_ble_eq_true rfl, Nat.le_of_ble_eq_true rfl⟩ dX4_newWeeks_19 (fun H locs Z => ?_)
  refine c_astq C Z (by have h9 := hs.2.2.2; omega) (k := 13) (b := 26) (N := 8) (by omega) rfl (by omega) rfl (zin_in (n := 8) (by decide)) dX4_newWeeks_22 (fun H locs Z => ?_)
  refine lv_iinc (v := (7 : Int32)) (lv' := [(2, .int (7 : Int32)), (1, .ref (zr G 13)), (0, .int (8 : Int32))]) C.1.1 C.1.2.1 dX4_newWeeks_23 hl (k := 0) rfl (by decide) (by decide) rfl (fun ls hl => ?_)
  refine lv_goto (tgt := 7) C.1.1 C.1.2.1 dX4_newWeeks_26 (by decide) ?_
  refine lv_iload_n C.1.1 C.1.2.1 dX4_newWeeks_7 rfl (lv_at hl 0 rfl) ?_
  refine lv_aload_n C.1.1 C.1.2.1 dX4_newWeeks_8 rfl (lv_at hl 1 rfl) ?_
  refine c_alen (k := 13) (N := 8) C Z (by omega) rfl rfl dX4_newWeeks_9 ?_
  refine lv_icmp_ge (tgt := 29) C.1.1 C.1.2.1 dX4_newWeeks_10 (by decide) (fun h => absurd h (by decide)) (fun _ => ?_)
  refine lv_aload_n C.1.1 C.1.2.1 dX4_newWeeks_13 rfl (lv_at hl 1 rfl) ?_
  refine lv_iload_n C.1.1 C.1.2.1 dX4_newWeeks_14 rfl (lv_at hl 0 rfl) ?_
  refine c_new (ci := 3) (fs := [.null, .int 0, .int 0, .int 0, .int 0, .int 0, .int 0]) C Z inZX3 tyX3 tyX3_ok lkL_X4_23 lkT_X3 lkN_X3 rfl (fun j hj => by rcases (show j = 0 ∨ j = 1 ∨ j = 2 ∨ j = 3 ∨ j = 4 ∨ j = 5 ∨ j = 6 by omega) with rfl | rfl | rfl | rfl | rfl | rfl | rfl <;> rfl) (Nat.le_of_ble_eq_true rfl) (Nat.le_of_ble_eq_true rfl) dX4_newWeeks_15 (fun H Z => ?_)
  refine lv_dup C.1.1 C.1.2.1 dX4_newWeeks_18 rfl ?_
  refine c_callIN (b := 28) (As := []) (rest := [.ref (zr G 28), .int (7 : Int32), .ref (zr G 13)]) C Z (MC_X3_init l G C.2.1 _ 28 (by omega) rfl) ⟨va_cnB 0 C.1.2.2.2.2 (zGood lkC_X3_init) rfl rfl rfl (C.2.2.2.2.2.2.2.2.2.1) (C.1.2.2.2.2 _ lkN_X3) (by decide +kernel) ⟨Nat.le_of_ble_eq_true rfl, Nat.le_of_ble_eq_true rfl⟩, rfl, C.1.2.2.2.2 _ lkI_X3_init⟩ rfl hl.1 rfl (Nat.le_of_ble_eq_true rfl) ⟨Nat.le_of_ble_eq_true rfl, Nat.le_of_ble_eq_true rfl⟩ dX4_newWeeks_19 (fun H locs Z => ?_)
  refine c_astq C Z (by have h9 := hs.2.2.2; omega) (k := 13) (b := 28) (N := 8) (by omega) rfl (by omega) rfl (zin_in (n := 8) (by decide)) dX4_newWeeks_22 (fun H locs Z => ?_)
  refine lv_iinc (v := (8 : Int32)) (lv' := [(2, .int (8 : Int32)), (1, .ref (zr G 13)), (0, .int (8 : Int32))]) C.1.1 C.1.2.1 dX4_newWeeks_23 hl (k := 0) rfl (by decide) (by decide) rfl (fun ls hl => ?_)
  refine lv_goto (tgt := 7) C.1.1 C.1.2.1 dX4_newWeeks_26 (by decide) ?_
  refine lv_iload_n C.1.1 C.1.2.1 dX4_newWeeks_7 rfl (lv_at hl 0 rfl) ?_
  refine lv_aload_n C.1.1 C.1.2.1 dX4_newWeeks_8 rfl (lv_at hl 1 rfl) ?_
  refine c_alen (k := 13) (N := 8) C Z (by omega) rfl rfl dX4_newWeeks_9 ?_
  refine lv_icmp_ge (tgt := 29) C.1.1 C.1.2.1 dX4_newWeeks_10 (by decide) (fun _ => ?_) (fun h => absurd (by decide) h)
  refine lv_aload_n C.1.1 C.1.2.1 dX4_newWeeks_29 rfl (lv_at hl 1 rfl) ?_
  exact c_aret C Z hs.1 hs.2.1 dX4_newWeeks_30
def e_newWeeks2 (G : zG) (cf : Nat → va_E) : Nat → va_E :=
  stc (e_X3_init G 33 (stc (stc (e_X3_init G 31 (stc (stc cf 30 (.inl (G.2.1.2.2, 2, .inr (.inr (.inr (.inr (fun _ => none))))))) 31 (.inr (3, [.null, .int 0, .int 0, .int 0, .int 0, .int 0, .int 0])))) 30 (.inl (G.2.1.2.2, 2, .inr (.inr (.inr (.inr (va_up (fun _ => none) (0 : Int32).toNatClampNeg (some (zr G 31))))))))) 33 (.inr (3, [.null, .int 0, .int 0, .int 0, .int 0, .int 0, .int 0])))) 30 (.inl (G.2.1.2.2, 2, .inr (.inr (.inr (.inr (va_up (va_up (fun _ => none) (0 : Int32).toNatClampNeg (some (zr G 31))) (1 : Int32).toNatClampNeg (some (zr G 33))))))))
set_option maxHeartbeats 4000000 in
set_option maxRecDepth 100000 in
theorem MC_newWeeks2 (l : Launch) (G : zG) (hG : zSeq G) (cf : Nat → va_E) : zMC l G yX4_newWeeks cX4_newWeeks 3 (some (.array (.object "SermonScale$Week"))) 2 32 5 28 [.int (2 : Int32)] cf 30 (zQCr G 30 (e_newWeeks2 G cf) (35)) := by
  refine zStartC hG (by omega) (by decide +kernel) (Nat.le_of_ble_eq_true rfl) (fun p e s m below meth c C hs ls hl Z => ?_)
  have hl : lv_has ls 3 [(0, .int (2 : Int32))] := hl
  have C : zCC G p s m _ c cX4_newWeeks 3 RX4 := C
  refine lv_iload_n C.1.1 C.1.2.1 dX4_newWeeks_0 rfl (lv_at hl 0 rfl) ?_
  refine c_newq C Z (N' := 2) lkL_X4_23 C.2.2.2.2.2.2.2.2.2.2.2.2.2.2 (by decide) (by decide) (Nat.le_of_ble_eq_true rfl) (Nat.le_of_ble_eq_true rfl) (Nat.le_of_ble_eq_true rfl) dX4_newWeeks_1 (fun H Z => ?_)
  refine lv_astore_n (lv' := [(1, .ref (zr G 30)), (0, .int (2 : Int32))]) C.1.1 C.1.2.1 dX4_newWeeks_4 rfl hl (by decide) rfl (fun ls hl => ?_)
  refine lv_iconst (v := (0 : Int32)) C.1.1 C.1.2.1 dX4_newWeeks_5 (by decide) ?_
  refine lv_istore_n (lv' := [(2, .int (0 : Int32)), (1, .ref (zr G 30)), (0, .int (2 : Int32))]) C.1.1 C.1.2.1 dX4_newWeeks_6 rfl hl (by decide) rfl (fun ls hl => ?_)
  refine lv_iload_n C.1.1 C.1.2.1 dX4_newWeeks_7 rfl (lv_at hl 0 rfl) ?_
  refine lv_aload_n C.1.1 C.1.2.1 dX4_newWeeks_8 rfl (lv_at hl 1 rfl) ?_
  refine c_alen (k := 30) (N := 2) C Z (by omega) rfl rfl dX4_newWeeks_9 ?_
  refine lv_icmp_ge (tgt := 29) C.1.1 C.1.2.1 dX4_newWeeks_10 (by decide) (fun h => absurd h (by decide)) (fun _ => ?_)
  refine lv_aload_n C.1.1 C.1.2.1 dX4_newWeeks_13 rfl (lv_at hl 1 rfl) ?_
  refine lv_iload_n C.1.1 C.1.2.1 dX4_newWeeks_14 rfl (lv_at hl 0 rfl) ?_
  refine c_new (ci := 3) (fs := [.null, .int 0, .int 0, .int 0, .int 0, .int 0, .int 0]) C Z inZX3 tyX3 tyX3_ok lkL_X4_23 lkT_X3 lkN_X3 rfl (fun j hj => by rcases (show j = 0 ∨ j = 1 ∨ j = 2 ∨ j = 3 ∨ j = 4 ∨ j = 5 ∨ j = 6 by omega) with rfl | rfl | rfl | rfl | rfl | rfl | rfl <;> rfl) (Nat.le_of_ble_eq_true rfl) (Nat.le_of_ble_eq_true rfl) dX4_newWeeks_15 (fun H Z => ?_)
  refine lv_dup C.1.1 C.1.2.1 dX4_newWeeks_18 rfl ?_
  refine c_callIN (b := 31) (As := []) (rest := [.ref (zr G 31), .int (0 : Int32), .ref (zr G 30)]) C Z (MC_X3_init l G C.2.1 _ 31 (by omega) rfl) ⟨va_cnB 0 C.1.2.2.2.2 (zGood lkC_X3_init) rfl rfl rfl (C.2.2.2.2.2.2.2.2.2.1) (C.1.2.2.2.2 _ lkN_X3) (by decide +kernel) ⟨Nat.le_of_ble_eq_true rfl, Nat.le_of_ble_eq_true rfl⟩, rfl, C.1.2.2.2.2 _ lkI_X3_init⟩ rfl hl.1 rfl (Nat.le_of_ble_eq_true rfl) ⟨Nat.le_of_ble_eq_true rfl, Nat.le_of_ble_eq_true rfl⟩ dX4_newWeeks_19 (fun H locs Z => ?_)
  refine c_astq C Z (by have h9 := hs.2.2.2; omega) (k := 30) (b := 31) (N := 2) (by omega) rfl (by omega) rfl (zin_in (n := 2) (by decide)) dX4_newWeeks_22 (fun H locs Z => ?_)
  refine lv_iinc (v := (1 : Int32)) (lv' := [(2, .int (1 : Int32)), (1, .ref (zr G 30)), (0, .int (2 : Int32))]) C.1.1 C.1.2.1 dX4_newWeeks_23 hl (k := 0) rfl (by decide) (by decide) rfl (fun ls hl => ?_)
  refine lv_goto (tgt := 7) C.1.1 C.1.2.1 dX4_newWeeks_26 (by decide) ?_
  refine lv_iload_n C.1.1 C.1.2.1 dX4_newWeeks_7 rfl (lv_at hl 0 rfl) ?_
  refine lv_aload_n C.1.1 C.1.2.1 dX4_newWeeks_8 rfl (lv_at hl 1 rfl) ?_
  refine c_alen (k := 30) (N := 2) C Z (by omega) rfl rfl dX4_newWeeks_9 ?_
  refine lv_icmp_ge (tgt := 29) C.1.1 C.1.2.1 dX4_newWeeks_10 (by decide) (fun h => absurd h (by decide)) (fun _ => ?_)
  refine lv_aload_n C.1.1 C.1.2.1 dX4_newWeeks_13 rfl (lv_at hl 1 rfl) ?_
  refine lv_iload_n C.1.1 C.1.2.1 dX4_newWeeks_14 rfl (lv_at hl 0 rfl) ?_
  refine c_new (ci := 3) (fs := [.null, .int 0, .int 0, .int 0, .int 0, .int 0, .int 0]) C Z inZX3 tyX3 tyX3_ok lkL_X4_23 lkT_X3 lkN_X3 rfl (fun j hj => by rcases (show j = 0 ∨ j = 1 ∨ j = 2 ∨ j = 3 ∨ j = 4 ∨ j = 5 ∨ j = 6 by omega) with rfl | rfl | rfl | rfl | rfl | rfl | rfl <;> rfl) (Nat.le_of_ble_eq_true rfl) (Nat.le_of_ble_eq_true rfl) dX4_newWeeks_15 (fun H Z => ?_)
  refine lv_dup C.1.1 C.1.2.1 dX4_newWeeks_18 rfl ?_
  refine c_callIN (b := 33) (As := []) (rest := [.ref (zr G 33), .int (1 : Int32), .ref (zr G 30)]) C Z (MC_X3_init l G C.2.1 _ 33 (by omega) rfl) ⟨va_cnB 0 C.1.2.2.2.2 (zGood lkC_X3_init) rfl rfl rfl (C.2.2.2.2.2.2.2.2.2.1) (C.1.2.2.2.2 _ lkN_X3) (by decide +kernel) ⟨Nat.le_of_ble_eq_true rfl, Nat.le_of_ble_eq_true rfl⟩, rfl, C.1.2.2.2.2 _ lkI_X3_init⟩ rfl hl.1 rfl (Nat.le_of_ble_eq_true rfl) ⟨Nat.le_of_ble_eq_true rfl, Nat.le_of_ble_eq_true rfl⟩ dX4_newWeeks_19 (fun H locs Z => ?_)
  refine c_astq C Z (by have h9 := hs.2.2.2; omega) (k := 30) (b := 33) (N := 2) (by omega) rfl (by omega) rfl (zin_in (n := 2) (by decide)) dX4_newWeeks_22 (fun H locs Z => ?_)
  refine lv_iinc (v := (2 : Int32)) (lv' := [(2, .int (2 : Int32)), (1, .ref (zr G 30)), (0, .int (2 : Int32))]) C.1.1 C.1.2.1 dX4_newWeeks_23 hl (k := 0) rfl (by decide) (by decide) rfl (fun ls hl => ?_)
  refine lv_goto (tgt := 7) C.1.1 C.1.2.1 dX4_newWeeks_26 (by decide) ?_
  refine lv_iload_n C.1.1 C.1.2.1 dX4_newWeeks_7 rfl (lv_at hl 0 rfl) ?_
  refine lv_aload_n C.1.1 C.1.2.1 dX4_newWeeks_8 rfl (lv_at hl 1 rfl) ?_
  refine c_alen (k := 30) (N := 2) C Z (by omega) rfl rfl dX4_newWeeks_9 ?_
  refine lv_icmp_ge (tgt := 29) C.1.1 C.1.2.1 dX4_newWeeks_10 (by decide) (fun _ => ?_) (fun h => absurd (by decide) h)
  refine lv_aload_n C.1.1 C.1.2.1 dX4_newWeeks_29 rfl (lv_at hl 1 rfl) ?_
  exact c_aret C Z hs.1 hs.2.1 dX4_newWeeks_30
def e_X4_init (G : zG) (cf : Nat → va_E) : Nat → va_E :=
  stc (e_X0_init G (stc (stc (stc (stc (e_newWeeks2 G (stc (e_newWeeks8 G (stc (e_X3_init G 11 (stc (stc (e_X1_init G (stc (stc (e_X2_init G (stc cf 1 (.inr (2, [.null, .null, .null, .null, .int 0, .int 0, .int 0, .int 0, .int 0, .int 0])))) 0 (.inr (4, [.ref (zr G 1), .null, .null, .null, .null, .null, .null, .int 0, .int 0]))) 6 (.inr (1, [.null, .null, .null, .null, .int 0, .int 0, .int 0, .int 0, .int 0])))) 0 (.inr (4, [.ref (zr G 1), .ref (zr G 6), .null, .null, .null, .null, .null, .int 0, .int 0]))) 11 (.inr (3, [.null, .int 0, .int 0, .int 0, .int 0, .int 0, .int 0])))) 0 (.inr (4, [.ref (zr G 1), .ref (zr G 6), .ref (zr G 11), .null, .null, .null, .null, .int 0, .int 0])))) 0 (.inr (4, [.ref (zr G 1), .ref (zr G 6), .ref (zr G 11), .ref (zr G 13), .null, .null, .null, .int 0, .int 0])))) 0 (.inr (4, [.ref (zr G 1), .ref (zr G 6), .ref (zr G 11), .ref (zr G 13), .ref (zr G 30), .null, .null, .int 0, .int 0]))) 35 (.inl (G.2.1.2.1, 2, .inl (fun _ => 0)))) 0 (.inr (4, [.ref (zr G 1), .ref (zr G 6), .ref (zr G 11), .ref (zr G 13), .ref (zr G 30), .ref (zr G 35), .null, .int 0, .int 0]))) 36 (.inr (0, [.null, .null, .null, .null, .null, .null, .null, .int 0, .int 0])))) 0 (.inr (4, [.ref (zr G 1), .ref (zr G 6), .ref (zr G 11), .ref (zr G 13), .ref (zr G 30), .ref (zr G 35), .ref (zr G 36), .int 0, .int 0]))
set_option maxHeartbeats 4000000 in
set_option maxRecDepth 100000 in
theorem MC_X4_init (l : Launch) (G : zG) (hG : zSeq G) (cf : Nat → va_E) (he : cf 0 = .inr (4, [.null, .null, .null, .null, .null, .null, .null, .int 0, .int 0])) : zMC l G yX4_init cX4_init 1 none 3 54 43 457 [.ref (zr G 0)] cf 1 (zQC G (e_X4_init G cf) (44)) := by
  refine zStartC hG (by omega) (by decide +kernel) (Nat.le_of_ble_eq_true rfl) (fun p e s m below meth c C hs ls hl Z => ?_)
  have hl : lv_has ls 1 [(0, .ref (zr G 0))] := hl
  have C : zCC G p s m _ c cX4_init 1 RX4 := C
  refine lv_aload_n C.1.1 C.1.2.1 dX4_init_0 rfl (lv_at hl 0 rfl) ?_
  refine W.objInit C.1.1 C.1.2.1 C.1.2.2.2.1 (C.1.2.2.2.2 _ lkO_X4) (C.1.2.2.2.2 _ lkO_inst) (C.1.2.2.2.2 _ lkO_code) rfl (by rw [C.1.2.2.1]; exact hl.1) rfl dX4_init_1 (Nat.le_of_ble_eq_true rfl) (Nat.le_of_ble_eq_true rfl) ?_
  refine W.eq (g2 := F0 m 4 ls []) rfl ?_
  refine lv_aload_n C.1.1 C.1.2.1 dX4_init_4 rfl (lv_at hl 0 rfl) ?_
  refine c_new (ci := 2) (fs := [.null, .null, .null, .null, .int 0, .int 0, .int 0, .int 0, .int 0, .int 0]) C Z inZX2 tyX2 tyX2_ok lkL_X4_7 lkT_X2 lkN_X2 rfl (fun j hj => by rcases (show j = 0 ∨ j = 1 ∨ j = 2 ∨ j = 3 ∨ j = 4 ∨ j = 5 ∨ j = 6 ∨ j = 7 ∨ j = 8 ∨ j = 9 by omega) with rfl | rfl | rfl | rfl | rfl | rfl | rfl | rfl | rfl | rfl <;> rfl) (Nat.le_of_ble_eq_true rfl) (Nat.le_of_ble_eq_true rfl) dX4_init_5 (fun H Z => ?_)
  refine lv_dup C.1.1 C.1.2.1 dX4_init_8 rfl ?_
  refine c_callIN (b := 1) (As := []) (rest := [.ref (zr G 1), .ref (zr G 0)]) C Z (MC_X2_init l G C.2.1 _ rfl) ⟨va_cnB 0 C.1.2.2.2.2 (zGood lkC_X2_init) rfl rfl rfl (C.2.2.2.2.2.2.2.2.1) (C.1.2.2.2.2 _ lkN_X2) (by decide +kernel) ⟨Nat.le_of_ble_eq_true rfl, Nat.le_of_ble_eq_true rfl⟩, rfl, C.1.2.2.2.2 _ lkI_X2_init⟩ rfl hl.1 rfl (Nat.le_of_ble_eq_true rfl) ⟨Nat.le_of_ble_eq_true rfl, Nat.le_of_ble_eq_true rfl⟩ dX4_init_9 (fun H locs Z => ?_)
  refine c_putF (k := 0) (b := 1) (fs := [.null, .null, .null, .null, .null, .null, .null, .int 0, .int 0]) C Z (by have h9 := hs.2.2.2; omega) (by omega) (by first | rfl | exact he) rfl inZX4 tyX4 tyX4_ok nmX4 0 (by decide) lkF_X4_10 rfl rfl hs.2.2.1 (ty := tyX4 0) (tyX4_ok 0 (by decide)) rfl rfl (Nat.le_of_ble_eq_true rfl) dX4_init_12 (fun H locs Z => ?_)
  have Z : zHC G s (stc _ 0 (.inr (4, [.ref (zr G 1), .null, .null, .null, .null, .null, .null, .int 0, .int 0]))) _ H locs := Z
  refine lv_aload_n C.1.1 C.1.2.1 dX4_init_15 rfl (lv_at hl 0 rfl) ?_
  refine c_new (ci := 1) (fs := [.null, .null, .null, .null, .int 0, .int 0, .int 0, .int 0, .int 0]) C Z inZX1 tyX1 tyX1_ok lkL_X4_16 lkT_X1 lkN_X1 rfl (fun j hj => by rcases (show j = 0 ∨ j = 1 ∨ j = 2 ∨ j = 3 ∨ j = 4 ∨ j = 5 ∨ j = 6 ∨ j = 7 ∨ j = 8 by omega) with rfl | rfl | rfl | rfl | rfl | rfl | rfl | rfl | rfl <;> rfl) (Nat.le_of_ble_eq_true rfl) (Nat.le_of_ble_eq_true rfl) dX4_init_16 (fun H Z => ?_)
  refine lv_dup C.1.1 C.1.2.1 dX4_init_19 rfl ?_
  refine c_callI (b := 6) (As := []) (rest := [.ref (zr G 6), .ref (zr G 0)]) C Z (MC_X1_init l G C.2.1 _ rfl) (cwI 0 C.1.2.2.2.2 (zGood lkC_X1_init) rfl rfl rfl (C.1.2.2.2.2 _ lkN_X1) (C.1.2.2.2.2 _ lkM_X4_18) (C.1.2.2.2.2 _ lkI_X1_init) rfl (by decide +kernel) ⟨Nat.le_of_ble_eq_true rfl, Nat.le_of_ble_eq_true rfl⟩) rfl hl.1 rfl (Nat.le_of_ble_eq_true rfl) ⟨Nat.le_of_ble_eq_true rfl, Nat.le_of_ble_eq_true rfl⟩ dX4_init_20 (fun H locs Z => ?_)
  refine c_putF (k := 0) (b := 6) (fs := [.ref (zr G 1), .null, .null, .null, .null, .null, .null, .int 0, .int 0]) C Z (by have h9 := hs.2.2.2; omega) (by omega) (by first | rfl | exact he) rfl inZX4 tyX4 tyX4_ok nmX4 1 (by decide) lkF_X4_19 rfl rfl hs.2.2.1 (ty := tyX4 1) (tyX4_ok 1 (by decide)) rfl rfl (Nat.le_of_ble_eq_true rfl) dX4_init_23 (fun H locs Z => ?_)
  have Z : zHC G s (stc _ 0 (.inr (4, [.ref (zr G 1), .ref (zr G 6), .null, .null, .null, .null, .null, .int 0, .int 0]))) _ H locs := Z
  refine lv_aload_n C.1.1 C.1.2.1 dX4_init_26 rfl (lv_at hl 0 rfl) ?_
  refine c_new (ci := 3) (fs := [.null, .int 0, .int 0, .int 0, .int 0, .int 0, .int 0]) C Z inZX3 tyX3 tyX3_ok lkL_X4_23 lkT_X3 lkN_X3 rfl (fun j hj => by rcases (show j = 0 ∨ j = 1 ∨ j = 2 ∨ j = 3 ∨ j = 4 ∨ j = 5 ∨ j = 6 by omega) with rfl | rfl | rfl | rfl | rfl | rfl | rfl <;> rfl) (Nat.le_of_ble_eq_true rfl) (Nat.le_of_ble_eq_true rfl) dX4_init_27 (fun H Z => ?_)
  refine lv_dup C.1.1 C.1.2.1 dX4_init_30 rfl ?_
  refine c_callIN (b := 11) (As := []) (rest := [.ref (zr G 11), .ref (zr G 0)]) C Z (MC_X3_init l G C.2.1 _ 11 (by omega) rfl) ⟨va_cnB 0 C.1.2.2.2.2 (zGood lkC_X3_init) rfl rfl rfl (C.2.2.2.2.2.2.2.2.2.1) (C.1.2.2.2.2 _ lkN_X3) (by decide +kernel) ⟨Nat.le_of_ble_eq_true rfl, Nat.le_of_ble_eq_true rfl⟩, rfl, C.1.2.2.2.2 _ lkI_X3_init⟩ rfl hl.1 rfl (Nat.le_of_ble_eq_true rfl) ⟨Nat.le_of_ble_eq_true rfl, Nat.le_of_ble_eq_true rfl⟩ dX4_init_31 (fun H locs Z => ?_)
  refine c_putF (k := 0) (b := 11) (fs := [.ref (zr G 1), .ref (zr G 6), .null, .null, .null, .null, .null, .int 0, .int 0]) C Z (by have h9 := hs.2.2.2; omega) (by omega) (by first | rfl | exact he) rfl inZX4 tyX4 tyX4_ok nmX4 2 (by decide) lkF_X4_26 rfl rfl hs.2.2.1 (ty := tyX4 2) (tyX4_ok 2 (by decide)) rfl rfl (Nat.le_of_ble_eq_true rfl) dX4_init_34 (fun H locs Z => ?_)
  have Z : zHC G s (stc _ 0 (.inr (4, [.ref (zr G 1), .ref (zr G 6), .ref (zr G 11), .null, .null, .null, .null, .int 0, .int 0]))) _ H locs := Z
  refine lv_aload_n C.1.1 C.1.2.1 dX4_init_37 rfl (lv_at hl 0 rfl) ?_
  refine lv_bipush (v := (8 : Int32)) C.1.1 C.1.2.1 dX4_init_38 (by decide) ?_
  refine c_callSr (b := 13) (As := [.int (8 : Int32)]) (rest := [.ref (zr G 0)]) C Z (MC_newWeeks8 l G C.2.1 _) (va_cwS 1 C.1.2.2.2.2 (zGoodS lkM_X4_30 lkS_X4_newWeeks lkN_X4 lkC_X4_newWeeks) rfl rfl rfl (by decide +kernel) ⟨Nat.le_of_ble_eq_true rfl, Nat.le_of_ble_eq_true rfl⟩) rfl hl.1 rfl (Nat.le_of_ble_eq_true rfl) ⟨Nat.le_of_ble_eq_true rfl, Nat.le_of_ble_eq_true rfl⟩ dX4_init_40 (fun H locs Z => ?_)
  refine c_putF (k := 0) (b := 13) (fs := [.ref (zr G 1), .ref (zr G 6), .ref (zr G 11), .null, .null, .null, .null, .int 0, .int 0]) C Z (by have h9 := hs.2.2.2; omega) (by omega) (by first | rfl | exact he) rfl inZX4 tyX4 tyX4_ok nmX4 3 (by decide) lkF_X4_34 rfl rfl hs.2.2.1 (ty := tyX4 3) (tyX4_ok 3 (by decide)) rfl rfl (Nat.le_of_ble_eq_true rfl) dX4_init_43 (fun H locs Z => ?_)
  have Z : zHC G s (stc _ 0 (.inr (4, [.ref (zr G 1), .ref (zr G 6), .ref (zr G 11), .ref (zr G 13), .null, .null, .null, .int 0, .int 0]))) _ H locs := Z
  refine lv_aload_n C.1.1 C.1.2.1 dX4_init_46 rfl (lv_at hl 0 rfl) ?_
  refine lv_iconst (v := (2 : Int32)) C.1.1 C.1.2.1 dX4_init_47 (by decide) ?_
  refine c_callSr (b := 30) (As := [.int (2 : Int32)]) (rest := [.ref (zr G 0)]) C Z (MC_newWeeks2 l G C.2.1 _) (va_cwS 1 C.1.2.2.2.2 (zGoodS lkM_X4_30 lkS_X4_newWeeks lkN_X4 lkC_X4_newWeeks) rfl rfl rfl (by decide +kernel) ⟨Nat.le_of_ble_eq_true rfl, Nat.le_of_ble_eq_true rfl⟩) rfl hl.1 rfl (Nat.le_of_ble_eq_true rfl) ⟨Nat.le_of_ble_eq_true rfl, Nat.le_of_ble_eq_true rfl⟩ dX4_init_48 (fun H locs Z => ?_)
  refine c_putF (k := 0) (b := 30) (fs := [.ref (zr G 1), .ref (zr G 6), .ref (zr G 11), .ref (zr G 13), .null, .null, .null, .int 0, .int 0]) C Z (by have h9 := hs.2.2.2; omega) (by omega) (by first | rfl | exact he) rfl inZX4 tyX4 tyX4_ok nmX4 4 (by decide) lkF_X4_38 rfl rfl hs.2.2.1 (ty := tyX4 4) (tyX4_ok 4 (by decide)) rfl rfl (Nat.le_of_ble_eq_true rfl) dX4_init_51 (fun H locs Z => ?_)
  have Z : zHC G s (stc _ 0 (.inr (4, [.ref (zr G 1), .ref (zr G 6), .ref (zr G 11), .ref (zr G 13), .ref (zr G 30), .null, .null, .int 0, .int 0]))) _ H locs := Z
  refine lv_aload_n C.1.1 C.1.2.1 dX4_init_54 rfl (lv_at hl 0 rfl) ?_
  refine lv_iconst (v := (2 : Int32)) C.1.1 C.1.2.1 dX4_init_55 (by decide) ?_
  refine c_newa (atype := .boolean) (ty := .boolean) (cA := G.2.1.2.1) C Z (N' := 2) rfl 1 rfl (fun h => h) rfl lkR_boolean (by decide) (by decide) (Nat.le_of_ble_eq_true rfl) (Nat.le_of_ble_eq_true rfl) (Nat.le_of_ble_eq_true rfl) dX4_init_56 (fun H Z => ?_)
  refine c_putF (k := 0) (b := 35) (fs := [.ref (zr G 1), .ref (zr G 6), .ref (zr G 11), .ref (zr G 13), .ref (zr G 30), .null, .null, .int 0, .int 0]) C Z (by have h9 := hs.2.2.2; omega) (by omega) (by first | rfl | exact he) rfl inZX4 tyX4 tyX4_ok nmX4 5 (by decide) lkF_X4_41 rfl rfl hs.2.2.1 (ty := tyX4 5) (tyX4_ok 5 (by decide)) rfl rfl (Nat.le_of_ble_eq_true rfl) dX4_init_58 (fun H locs Z => ?_)
  have Z : zHC G s (stc _ 0 (.inr (4, [.ref (zr G 1), .ref (zr G 6), .ref (zr G 11), .ref (zr G 13), .ref (zr G 30), .ref (zr G 35), .null, .int 0, .int 0]))) _ H locs := Z
  refine lv_aload_n C.1.1 C.1.2.1 dX4_init_61 rfl (lv_at hl 0 rfl) ?_
  refine c_new (ci := 0) (fs := [.null, .null, .null, .null, .null, .null, .null, .int 0, .int 0]) C Z inZX0 tyX0 tyX0_ok lkL_X4_45 lkT_X0 lkN_X0 rfl (fun j hj => by rcases (show j = 0 ∨ j = 1 ∨ j = 2 ∨ j = 3 ∨ j = 4 ∨ j = 5 ∨ j = 6 ∨ j = 7 ∨ j = 8 by omega) with rfl | rfl | rfl | rfl | rfl | rfl | rfl | rfl | rfl <;> rfl) (Nat.le_of_ble_eq_true rfl) (Nat.le_of_ble_eq_true rfl) dX4_init_62 (fun H Z => ?_)
  refine lv_dup C.1.1 C.1.2.1 dX4_init_65 rfl ?_
  refine c_callIN (b := 36) (As := []) (rest := [.ref (zr G 36), .ref (zr G 0)]) C Z (MC_X0_init l G C.2.1 _ rfl) ⟨va_cnB 0 C.1.2.2.2.2 (zGood lkC_X0_init) rfl rfl rfl (C.2.2.2.2.2.2.2.2.2.2.1) (C.1.2.2.2.2 _ lkN_X0) (by decide +kernel) ⟨Nat.le_of_ble_eq_true rfl, Nat.le_of_ble_eq_true rfl⟩, rfl, C.1.2.2.2.2 _ lkI_X0_init⟩ rfl hl.1 rfl (Nat.le_of_ble_eq_true rfl) ⟨Nat.le_of_ble_eq_true rfl, Nat.le_of_ble_eq_true rfl⟩ dX4_init_66 (fun H locs Z => ?_)
  refine c_putF (k := 0) (b := 36) (fs := [.ref (zr G 1), .ref (zr G 6), .ref (zr G 11), .ref (zr G 13), .ref (zr G 30), .ref (zr G 35), .null, .int 0, .int 0]) C Z (by have h9 := hs.2.2.2; omega) (by omega) (by first | rfl | exact he) rfl inZX4 tyX4 tyX4_ok nmX4 6 (by decide) lkF_X4_48 rfl rfl hs.2.2.1 (ty := tyX4 6) (tyX4_ok 6 (by decide)) rfl rfl (Nat.le_of_ble_eq_true rfl) dX4_init_69 (fun H locs Z => ?_)
  have Z : zHC G s (stc _ 0 (.inr (4, [.ref (zr G 1), .ref (zr G 6), .ref (zr G 11), .ref (zr G 13), .ref (zr G 30), .ref (zr G 35), .ref (zr G 36), .int 0, .int 0]))) _ H locs := Z
  exact c_vret C Z hs.1 hs.2.1 dX4_init_72
