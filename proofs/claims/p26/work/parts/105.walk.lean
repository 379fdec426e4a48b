set_option maxHeartbeats 4000000 in
set_option maxRecDepth 100000 in
theorem M_X5_erase (l : Launch) (G : zG) (hG : zOK G) (N : Nat) (mem : zMem) (r : Int32) (mem' : zMem) (hf : f_X5_erase N mem = some (r, mem')) : zM l G yX5_erase cX5_erase 2 (some .int) 0 0 [.ref (zr G 44)] mem (zQi G r mem') := by
  refine zStart hG (by decide +kernel) (Nat.le_of_ble_eq_true rfl) (fun p e s m below meth c C hr hlk ls hl Z => ?_)
  have hl : lv_has ls 2 [(0, .ref (zr G 44))] := hl
  have C : zC (zAd G) G p s m _ c cX5_erase 2 RX5 := C
  unfold f_X5_erase at hf
  refine lv_aload_n C.1.1 C.1.2.1 dX5_erase_0 rfl (lv_at hl 0 rfl) ?_
  refine zg_X5_48 C Z dX5_erase_1 ?_
  refine lv_istore_n (lv' := [(1, .int (mem 44 1)), (0, .ref (zr G 44))]) C.1.1 C.1.2.1 dX5_erase_4 rfl hl (by decide) rfl (fun ls hl => ?_)
  refine lv_aload_n C.1.1 C.1.2.1 dX5_erase_5 rfl (lv_at hl 1 rfl) ?_
  refine lv_iconst (v := (0 : Int32)) C.1.1 C.1.2.1 dX5_erase_6 (by decide) ?_
  refine zp_X5_48 C Z dX5_erase_7 (fun H locs Z => ?_)
  obtain ⟨mem463, hm463, hf⟩ := zlet_some hf
  rw [← hm463] at Z
  refine lv_iload_n C.1.1 C.1.2.1 dX5_erase_10 rfl (lv_at hl 0 rfl) ?_
  cases hf
  exact z_iret C Z hr hlk dX5_erase_11
set_option maxHeartbeats 4000000 in
set_option maxRecDepth 100000 in
theorem M_X5_letterAt (l : Launch) (G : zG) (hG : zOK G) (N : Nat) (mem : zMem) (a1 : Int32) (r : Int32) (mem' : zMem) (hf : f_X5_letterAt N mem a1 = some (r, mem')) : zM l G yX5_letterAt cX5_letterAt 2 (some .int) 0 0 [.ref (zr G 44), .int a1] mem (zQi G r mem') := by
  refine zStart hG (by decide +kernel) (Nat.le_of_ble_eq_true rfl) (fun p e s m below meth c C hr hlk ls hl Z => ?_)
  have hl : lv_has ls 2 [(0, .ref (zr G 44)), (1, .int a1)] := hl
  have C : zC (zAd G) G p s m _ c cX5_letterAt 2 RX5 := C
  unfold f_X5_letterAt at hf
  refine lv_iload_n C.1.1 C.1.2.1 dX5_letterAt_0 rfl (lv_at hl 1 rfl) ?_
  refine lv_aload_n C.1.1 C.1.2.1 dX5_letterAt_1 rfl (lv_at hl 0 rfl) ?_
  refine zg_X5_48 C Z dX5_letterAt_2 ?_
  refine lv_icmp_ge (tgt := 17) C.1.1 C.1.2.1 dX5_letterAt_5 (by decide) (fun h464 => ?_) (fun h464 => ?_)
  · replace hf := (if_pos h464).symm.trans hf
    refine lv_iconst (v := (-1 : Int32)) C.1.1 C.1.2.1 dX5_letterAt_17 (by decide) ?_
    cases hf
    exact z_iret C Z hr hlk dX5_letterAt_18
  · replace hf := (if_neg h464).symm.trans hf
    refine lv_aload_n C.1.1 C.1.2.1 dX5_letterAt_8 rfl (lv_at hl 0 rfl) ?_
    refine zg_X5_7 C Z dX5_letterAt_9 ?_
    refine lv_iload_n C.1.1 C.1.2.1 dX5_letterAt_12 rfl (lv_at hl 1 rfl) ?_
    obtain ⟨hi465, hf⟩ := zgd_some hf
    refine z_iald (k := 45) C Z (by decide) rfl hi465 dX5_letterAt_13 ?_
    refine lv_goto (tgt := 18) C.1.1 C.1.2.1 dX5_letterAt_14 (by decide) ?_
    cases hf
    exact z_iret C Z hr hlk dX5_letterAt_18
set_option maxHeartbeats 4000000 in
set_option maxRecDepth 100000 in
theorem M_X5_isLetter (l : Launch) (G : zG) (hG : zOK G) (N : Nat) (mem : zMem) (a1 : Int32) (r : Int32) (mem' : zMem) (hf : f_X5_isLetter N mem a1 = some (r, mem')) : zM l G yX5_isLetter cX5_isLetter 1 (some .boolean) 1 22 [.int a1] mem (zQi G r mem') := by
  refine zStart hG (by decide +kernel) (Nat.le_of_ble_eq_true rfl) (fun p e s m below meth c C hr hlk ls hl Z => ?_)
  have hl : lv_has ls 1 [(0, .int a1)] := hl
  have C : zC (zAd G) G p s m _ c cX5_isLetter 1 RX5 := C
  unfold f_X5_isLetter at hf
  refine lv_iload_n C.1.1 C.1.2.1 dX5_isLetter_0 rfl (lv_at hl 0 rfl) ?_
  refine lv_bipush (v := (97 : Int32)) C.1.1 C.1.2.1 dX5_isLetter_1 (by decide) ?_
  refine lv_bipush (v := (122 : Int32)) C.1.1 C.1.2.1 dX5_isLetter_3 (by decide) ?_
  obtain ⟨r466, mem466, hc466, hf⟩ := zb_some hf
  refine z_callSi (As := [.int a1, .int (97 : Int32), .int (122 : Int32)]) (rest := []) C Z (M_X5_in l G C.2.1 N mem a1 (97 : Int32) (122 : Int32) r466 mem466 hc466) (zcw_X5_44 C.1.2.2.2.2 ⟨Nat.le_of_ble_eq_true rfl, Nat.le_of_ble_eq_true rfl⟩) rfl hl.1 rfl (Nat.le_of_ble_eq_true rfl) ⟨Nat.le_refl 0, Nat.le_refl 0⟩ dX5_isLetter_5 (fun H locs Z => ?_)
  obtain ⟨hb467, hf⟩ := zgd_some hf
  cases hf
  exact z_zret C Z hr hlk hb467 dX5_isLetter_8
set_option maxHeartbeats 4000000 in
set_option maxRecDepth 100000 in
theorem M_X5_isDigit (l : Launch) (G : zG) (hG : zOK G) (N : Nat) (mem : zMem) (a1 : Int32) (r : Int32) (mem' : zMem) (hf : f_X5_isDigit N mem a1 = some (r, mem')) : zM l G yX5_isDigit cX5_isDigit 1 (some .boolean) 1 22 [.int a1] mem (zQi G r mem') := by
  refine zStart hG (by decide +kernel) (Nat.le_of_ble_eq_true rfl) (fun p e s m below meth c C hr hlk ls hl Z => ?_)
  have hl : lv_has ls 1 [(0, .int a1)] := hl
  have C : zC (zAd G) G p s m _ c cX5_isDigit 1 RX5 := C
  unfold f_X5_isDigit at hf
  refine lv_iload_n C.1.1 C.1.2.1 dX5_isDigit_0 rfl (lv_at hl 0 rfl) ?_
  refine lv_bipush (v := (48 : Int32)) C.1.1 C.1.2.1 dX5_isDigit_1 (by decide) ?_
  refine lv_bipush (v := (57 : Int32)) C.1.1 C.1.2.1 dX5_isDigit_3 (by decide) ?_
  obtain ⟨r468, mem468, hc468, hf⟩ := zb_some hf
  refine z_callSi (As := [.int a1, .int (48 : Int32), .int (57 : Int32)]) (rest := []) C Z (M_X5_in l G C.2.1 N mem a1 (48 : Int32) (57 : Int32) r468 mem468 hc468) (zcw_X5_44 C.1.2.2.2.2 ⟨Nat.le_of_ble_eq_true rfl, Nat.le_of_ble_eq_true rfl⟩) rfl hl.1 rfl (Nat.le_of_ble_eq_true rfl) ⟨Nat.le_refl 0, Nat.le_refl 0⟩ dX5_isDigit_5 (fun H locs Z => ?_)
  obtain ⟨hb469, hf⟩ := zgd_some hf
  cases hf
  exact z_zret C Z hr hlk hb469 dX5_isDigit_8
set_option maxHeartbeats 4000000 in
set_option maxRecDepth 100000 in
theorem K_X5_token_195 {p : Program} {l : Launch} {e : Env} {s : State} {m : MethodId} {args : Array Value} {below : List Frame} {meth : Method} {c : Code} {G : zG} (C : zC (zAd G) G p s m args c cX5_token 2 RX5) (hr : meth.sig.returnType = none) (hlk : meth.locks = false) {r : Unit} {mem' : zMem} (N : Nat) (mem : zMem) (H : Heap) (locs : List Loc) (ls : Array Slot) (Z : zH (zAd G) G s mem H locs) (hl : lv_has ls 2 [(0, .ref (zr G 44))]) (hf : f_X5_token_195 N mem = some (r, mem')) : W p l e ({ frames := 2, cells := 0, slots := 0, locals := 42 } : Room) s m args below meth c H locs 0 0 (MQ below (zQv G mem') args s 0 0 (zAd G)) (F0 m 195 ls []) := by
  unfold f_X5_token_195 at hf
  refine lv_aload_n C.1.1 C.1.2.1 dX5_token_195 rfl (lv_at hl 0 rfl) ?_
  refine lv_dup C.1.1 C.1.2.1 dX5_token_196 rfl ?_
  refine zg_X5_52 C Z dX5_token_197 ?_
  refine lv_aload_n C.1.1 C.1.2.1 dX5_token_200 rfl (lv_at hl 0 rfl) ?_
  refine zg_X5_69 C Z dX5_token_201 ?_
  refine lv_iconst (v := (3 : Int32)) C.1.1 C.1.2.1 dX5_token_204 (by decide) ?_
  refine lv_icmp_ne (tgt := 212) C.1.1 C.1.2.1 dX5_token_205 (by decide) (fun h470 => ?_) (fun h470 => ?_)
  · replace hf := (if_neg h470).symm.trans hf
    refine lv_iconst (v := (0 : Int32)) C.1.1 C.1.2.1 dX5_token_212 (by decide) ?_
    refine lv_iadd C.1.1 C.1.2.1 dX5_token_213 ?_
    refine zp_X5_52 C Z dX5_token_214 (fun H locs Z => ?_)
    obtain ⟨mem471, hm471, hf⟩ := zlet_some hf
    rw [← hm471] at Z
    cases hf
    exact z_vret C Z hr hlk dX5_token_217
  · replace hf := (if_pos h470).symm.trans hf
    refine lv_iconst (v := (1 : Int32)) C.1.1 C.1.2.1 dX5_token_208 (by decide) ?_
    refine lv_goto (tgt := 213) C.1.1 C.1.2.1 dX5_token_209 (by decide) ?_
    refine lv_iadd C.1.1 C.1.2.1 dX5_token_213 ?_
    refine zp_X5_52 C Z dX5_token_214 (fun H locs Z => ?_)
    obtain ⟨mem472, hm472, hf⟩ := zlet_some hf
    rw [← hm472] at Z
    cases hf
    exact z_vret C Z hr hlk dX5_token_217
set_option maxHeartbeats 4000000 in
set_option maxRecDepth 100000 in
theorem K_X5_token_118 {p : Program} {l : Launch} {e : Env} {s : State} {m : MethodId} {args : Array Value} {below : List Frame} {meth : Method} {c : Code} {G : zG} (C : zC (zAd G) G p s m args c cX5_token 2 RX5) (hr : meth.sig.returnType = none) (hlk : meth.locks = false) {r : Unit} {mem' : zMem} (N : Nat) : ∀ (n : Nat) (mem : zMem) (H : Heap) (locs : List Loc) (ls : Array Slot), zH (zAd G) G s mem H locs → lv_has ls 2 [(0, .ref (zr G 44))] → f_X5_token_118 N n mem = some (r, mem') → W p l e ({ frames := 2, cells := 0, slots := 0, locals := 42 } : Room) s m args below meth c H locs 0 0 (MQ below (zQv G mem') args s 0 0 (zAd G)) (F0 m 118 ls []) := by
  intro n
  induction n with
  | zero =>
    intro mem H locs ls Z hl hf
    rw [f_X5_token_118.eq_1] at hf
    cases hf
  | succ n ih =>
    intro mem H locs ls Z hl hf
    rw [f_X5_token_118.eq_2] at hf
    refine lv_aload_n C.1.1 C.1.2.1 dX5_token_118 rfl (lv_at hl 0 rfl) ?_
    refine zg_X5_69 C Z dX5_token_119 ?_
    refine lv_iconst (v := (2 : Int32)) C.1.1 C.1.2.1 dX5_token_122 (by decide) ?_
    refine lv_icmp_ne (tgt := 195) C.1.1 C.1.2.1 dX5_token_123 (by decide) (fun h473 => ?_) (fun h473 => ?_)
    · replace hf := (if_neg h473).symm.trans hf
      exact K_X5_token_195 (l := l) (e := e) (below := below) C hr hlk N mem _ _ _ Z (lv_sub hl [0] rfl) hf
    · replace hf := (if_pos h473).symm.trans hf
      refine lv_aload_n C.1.1 C.1.2.1 dX5_token_126 rfl (lv_at hl 0 rfl) ?_
      refine lv_aload_n C.1.1 C.1.2.1 dX5_token_127 rfl (lv_at hl 0 rfl) ?_
      refine zg_X5_52 C Z dX5_token_128 ?_
      obtain ⟨r474, mem474, hc474, hf⟩ := zb_some hf
      refine z_callVi (k := 44) (As := [.int (mem 44 13)]) (rest := []) C Z (M_X5_letterAt l G C.2.1 N mem (mem 44 13) r474 mem474 hc474) (zcw_X5_55 C.1.2.2.2.2 ⟨Nat.le_of_ble_eq_true rfl, Nat.le_of_ble_eq_true rfl⟩) (by decide) rfl rfl rfl hl.1 rfl (Nat.le_of_ble_eq_true rfl) ⟨Nat.le_refl 0, Nat.le_refl 0⟩ dX5_token_131 (fun H locs Z => ?_)
      obtain ⟨r475, mem475, hc475, hf⟩ := zb_some hf
      refine z_callSi (As := [.int r474]) (rest := []) C Z (M_X5_isDigit l G C.2.1 N mem474 r474 r475 mem475 hc475) (zcw_X5_66 C.1.2.2.2.2 ⟨Nat.le_of_ble_eq_true rfl, Nat.le_of_ble_eq_true rfl⟩) rfl hl.1 rfl (Nat.le_of_ble_eq_true rfl) ⟨Nat.le_refl 0, Nat.le_refl 0⟩ dX5_token_134 (fun H locs Z => ?_)
      refine lv_if_eq (tgt := 195) C.1.1 C.1.2.1 dX5_token_137 (by decide) (fun h476 => ?_) (fun h476 => ?_)
      · replace hf := (if_pos h476).symm.trans hf
        exact K_X5_token_195 (l := l) (e := e) (below := below) C hr hlk N mem475 _ _ _ Z (lv_sub hl [0] rfl) hf
      · replace hf := (if_neg h476).symm.trans hf
        refine lv_aload_n C.1.1 C.1.2.1 dX5_token_140 rfl (lv_at hl 0 rfl) ?_
        refine lv_aload_n C.1.1 C.1.2.1 dX5_token_141 rfl (lv_at hl 0 rfl) ?_
        refine zg_X5_52 C Z dX5_token_142 ?_
        refine lv_aload_n C.1.1 C.1.2.1 dX5_token_145 rfl (lv_at hl 0 rfl) ?_
        refine zg_X5_59 C Z dX5_token_146 ?_
        refine lv_isub C.1.1 C.1.2.1 dX5_token_149 ?_
        refine lv_iconst (v := (2 : Int32)) C.1.1 C.1.2.1 dX5_token_150 (by decide) ?_
        refine lv_icmp_ge (tgt := 177) C.1.1 C.1.2.1 dX5_token_151 (by decide) (fun h477 => ?_) (fun h477 => ?_)
        · replace hf := (if_pos h477).symm.trans hf
          refine lv_bipush (v := (100 : Int32)) C.1.1 C.1.2.1 dX5_token_177 (by decide) ?_
          refine zp_X5_72 C Z dX5_token_179 (fun H locs Z => ?_)
          obtain ⟨mem478, hm478, hf⟩ := zlet_some hf
          rw [← hm478] at Z
          refine lv_aload_n C.1.1 C.1.2.1 dX5_token_182 rfl (lv_at hl 0 rfl) ?_
          refine lv_dup C.1.1 C.1.2.1 dX5_token_183 rfl ?_
          refine zg_X5_52 C Z dX5_token_184 ?_
          refine lv_iconst (v := (1 : Int32)) C.1.1 C.1.2.1 dX5_token_187 (by decide) ?_
          refine lv_iadd C.1.1 C.1.2.1 dX5_token_188 ?_
          refine zp_X5_52 C Z dX5_token_189 (fun H locs Z => ?_)
          obtain ⟨mem479, hm479, hf⟩ := zlet_some hf
          rw [← hm479] at Z
          refine lv_goto (tgt := 118) C.1.1 C.1.2.1 dX5_token_192 (by decide) ?_
          exact ih mem479 _ _ _ Z (lv_sub hl [0] rfl) hf
        · replace hf := (if_neg h477).symm.trans hf
          refine lv_bipush (v := (10 : Int32)) C.1.1 C.1.2.1 dX5_token_154 (by decide) ?_
          refine lv_aload_n C.1.1 C.1.2.1 dX5_token_156 rfl (lv_at hl 0 rfl) ?_
          refine zg_X5_72 C Z dX5_token_157 ?_
          refine lv_imul C.1.1 C.1.2.1 dX5_token_160 ?_
          refine lv_aload_n C.1.1 C.1.2.1 dX5_token_161 rfl (lv_at hl 0 rfl) ?_
          refine zg_X5_7 C Z dX5_token_162 ?_
          refine lv_aload_n C.1.1 C.1.2.1 dX5_token_165 rfl (lv_at hl 0 rfl) ?_
          refine zg_X5_52 C Z dX5_token_166 ?_
          obtain ⟨hi480, hf⟩ := zgd_some hf
          refine z_iald (k := 45) C Z (by decide) rfl hi480 dX5_token_169 ?_
          refine lv_iadd C.1.1 C.1.2.1 dX5_token_170 ?_
          refine lv_bipush (v := (48 : Int32)) C.1.1 C.1.2.1 dX5_token_171 (by decide) ?_
          refine lv_isub C.1.1 C.1.2.1 dX5_token_173 ?_
          refine lv_goto (tgt := 179) C.1.1 C.1.2.1 dX5_token_174 (by decide) ?_
          refine zp_X5_72 C Z dX5_token_179 (fun H locs Z => ?_)
          obtain ⟨mem481, hm481, hf⟩ := zlet_some hf
          rw [← hm481] at Z
          refine lv_aload_n C.1.1 C.1.2.1 dX5_token_182 rfl (lv_at hl 0 rfl) ?_
          refine lv_dup C.1.1 C.1.2.1 dX5_token_183 rfl ?_
          refine zg_X5_52 C Z dX5_token_184 ?_
          refine lv_iconst (v := (1 : Int32)) C.1.1 C.1.2.1 dX5_token_187 (by decide) ?_
          refine lv_iadd C.1.1 C.1.2.1 dX5_token_188 ?_
          refine zp_X5_52 C Z dX5_token_189 (fun H locs Z => ?_)
          obtain ⟨mem482, hm482, hf⟩ := zlet_some hf
          rw [← hm482] at Z
          refine lv_goto (tgt := 118) C.1.1 C.1.2.1 dX5_token_192 (by decide) ?_
          exact ih mem482 _ _ _ Z (lv_sub hl [0] rfl) hf
set_option maxHeartbeats 4000000 in
set_option maxRecDepth 100000 in
theorem K_X5_token_83 {p : Program} {l : Launch} {e : Env} {s : State} {m : MethodId} {args : Array Value} {below : List Frame} {meth : Method} {c : Code} {G : zG} (C : zC (zAd G) G p s m args c cX5_token 2 RX5) (hr : meth.sig.returnType = none) (hlk : meth.locks = false) {r : Unit} {mem' : zMem} (N : Nat) : ∀ (n : Nat) (mem : zMem) (H : Heap) (locs : List Loc) (ls : Array Slot), zH (zAd G) G s mem H locs → lv_has ls 2 [(0, .ref (zr G 44))] → f_X5_token_83 N n mem = some (r, mem') → W p l e ({ frames := 2, cells := 0, slots := 0, locals := 42 } : Room) s m args below meth c H locs 0 0 (MQ below (zQv G mem') args s 0 0 (zAd G)) (F0 m 83 ls []) := by
  intro n
  induction n with
  | zero =>
    intro mem H locs ls Z hl hf
    rw [f_X5_token_83.eq_1] at hf
    cases hf
  | succ n ih =>
    intro mem H locs ls Z hl hf
    rw [f_X5_token_83.eq_2] at hf
    refine lv_aload_n C.1.1 C.1.2.1 dX5_token_83 rfl (lv_at hl 0 rfl) ?_
    refine zg_X5_69 C Z dX5_token_84 ?_
    refine lv_iconst (v := (1 : Int32)) C.1.1 C.1.2.1 dX5_token_87 (by decide) ?_
    refine lv_icmp_ne (tgt := 118) C.1.1 C.1.2.1 dX5_token_88 (by decide) (fun h483 => ?_) (fun h483 => ?_)
    · replace hf := (if_neg h483).symm.trans hf
      exact K_X5_token_118 (l := l) (e := e) (below := below) C hr hlk N N mem _ _ _ Z (lv_sub hl [0] rfl) hf
    · replace hf := (if_pos h483).symm.trans hf
      refine lv_aload_n C.1.1 C.1.2.1 dX5_token_91 rfl (lv_at hl 0 rfl) ?_
      refine lv_aload_n C.1.1 C.1.2.1 dX5_token_92 rfl (lv_at hl 0 rfl) ?_
      refine zg_X5_52 C Z dX5_token_93 ?_
      obtain ⟨r484, mem484, hc484, hf⟩ := zb_some hf
      refine z_callVi (k := 44) (As := [.int (mem 44 13)]) (rest := []) C Z (M_X5_letterAt l G C.2.1 N mem (mem 44 13) r484 mem484 hc484) (zcw_X5_55 C.1.2.2.2.2 ⟨Nat.le_of_ble_eq_true rfl, Nat.le_of_ble_eq_true rfl⟩) (by decide) rfl rfl rfl hl.1 rfl (Nat.le_of_ble_eq_true rfl) ⟨Nat.le_refl 0, Nat.le_refl 0⟩ dX5_token_96 (fun H locs Z => ?_)
      obtain ⟨r485, mem485, hc485, hf⟩ := zb_some hf
      refine z_callSi (As := [.int r484]) (rest := []) C Z (M_X5_isLetter l G C.2.1 N mem484 r484 r485 mem485 hc485) (zcw_X5_62 C.1.2.2.2.2 ⟨Nat.le_of_ble_eq_true rfl, Nat.le_of_ble_eq_true rfl⟩) rfl hl.1 rfl (Nat.le_of_ble_eq_true rfl) ⟨Nat.le_refl 0, Nat.le_refl 0⟩ dX5_token_99 (fun H locs Z => ?_)
      refine lv_if_eq (tgt := 118) C.1.1 C.1.2.1 dX5_token_102 (by decide) (fun h486 => ?_) (fun h486 => ?_)
      · replace hf := (if_pos h486).symm.trans hf
        exact K_X5_token_118 (l := l) (e := e) (below := below) C hr hlk N N mem485 _ _ _ Z (lv_sub hl [0] rfl) hf
      · replace hf := (if_neg h486).symm.trans hf
        refine lv_aload_n C.1.1 C.1.2.1 dX5_token_105 rfl (lv_at hl 0 rfl) ?_
        refine lv_dup C.1.1 C.1.2.1 dX5_token_106 rfl ?_
        refine zg_X5_52 C Z dX5_token_107 ?_
        refine lv_iconst (v := (1 : Int32)) C.1.1 C.1.2.1 dX5_token_110 (by decide) ?_
        refine lv_iadd C.1.1 C.1.2.1 dX5_token_111 ?_
        refine zp_X5_52 C Z dX5_token_112 (fun H locs Z => ?_)
        obtain ⟨mem487, hm487, hf⟩ := zlet_some hf
        rw [← hm487] at Z
        refine lv_goto (tgt := 83) C.1.1 C.1.2.1 dX5_token_115 (by decide) ?_
        exact ih mem487 _ _ _ Z (lv_sub hl [0] rfl) hf
set_option maxHeartbeats 4000000 in
set_option maxRecDepth 100000 in
theorem K_X5_token_75 {p : Program} {l : Launch} {e : Env} {s : State} {m : MethodId} {args : Array Value} {below : List Frame} {meth : Method} {c : Code} {G : zG} (C : zC (zAd G) G p s m args c cX5_token 2 RX5) (hr : meth.sig.returnType = none) (hlk : meth.locks = false) {r : Unit} {mem' : zMem} (N : Nat) (mem : zMem) (s1 : Int32) (H : Heap) (locs : List Loc) (ls : Array Slot) (Z : zH (zAd G) G s mem H locs) (hl : lv_has ls 2 [(0, .ref (zr G 44))]) (hf : f_X5_token_75 N mem s1 = some (r, mem')) : W p l e ({ frames := 2, cells := 0, slots := 0, locals := 42 } : Room) s m args below meth c H locs 0 0 (MQ below (zQv G mem') args s 0 0 (zAd G)) (F0 m 75 ls [.int s1, .ref (zr G 44)]) := by
  unfold f_X5_token_75 at hf
  refine zp_X5_69 C Z dX5_token_75 (fun H locs Z => ?_)
  obtain ⟨mem488, hm488, hf⟩ := zlet_some hf
  rw [← hm488] at Z
  refine lv_aload_n C.1.1 C.1.2.1 dX5_token_78 rfl (lv_at hl 0 rfl) ?_
  refine lv_iconst (v := (0 : Int32)) C.1.1 C.1.2.1 dX5_token_79 (by decide) ?_
  refine zp_X5_72 C Z dX5_token_80 (fun H locs Z => ?_)
  obtain ⟨mem489, hm489, hf⟩ := zlet_some hf
  rw [← hm489] at Z
  exact K_X5_token_83 (l := l) (e := e) (below := below) C hr hlk N N mem489 _ _ _ Z (lv_sub hl [0] rfl) hf
set_option maxHeartbeats 4000000 in
set_option maxRecDepth 100000 in
theorem K_X5_token_0 {p : Program} {l : Launch} {e : Env} {s : State} {m : MethodId} {args : Array Value} {below : List Frame} {meth : Method} {c : Code} {G : zG} (C : zC (zAd G) G p s m args c cX5_token 2 RX5) (hr : meth.sig.returnType = none) (hlk : meth.locks = false) {r : Unit} {mem' : zMem} (N : Nat) : ∀ (n : Nat) (mem : zMem) (H : Heap) (locs : List Loc) (ls : Array Slot), zH (zAd G) G s mem H locs → lv_has ls 2 [(0, .ref (zr G 44))] → f_X5_token_0 N n mem = some (r, mem') → W p l e ({ frames := 2, cells := 0, slots := 0, locals := 42 } : Room) s m args below meth c H locs 0 0 (MQ below (zQv G mem') args s 0 0 (zAd G)) (F0 m 0 ls []) := by
  intro n
  induction n with
  | zero =>
    intro mem H locs ls Z hl hf
    rw [f_X5_token_0.eq_1] at hf
    cases hf
  | succ n ih =>
    intro mem H locs ls Z hl hf
    rw [f_X5_token_0.eq_2] at hf
    refine lv_aload_n C.1.1 C.1.2.1 dX5_token_0 rfl (lv_at hl 0 rfl) ?_
    refine lv_aload_n C.1.1 C.1.2.1 dX5_token_1 rfl (lv_at hl 0 rfl) ?_
    refine zg_X5_52 C Z dX5_token_2 ?_
    obtain ⟨r490, mem490, hc490, hf⟩ := zb_some hf
    refine z_callVi (k := 44) (As := [.int (mem 44 13)]) (rest := []) C Z (M_X5_letterAt l G C.2.1 N mem (mem 44 13) r490 mem490 hc490) (zcw_X5_55 C.1.2.2.2.2 ⟨Nat.le_of_ble_eq_true rfl, Nat.le_of_ble_eq_true rfl⟩) (by decide) rfl rfl rfl hl.1 rfl (Nat.le_of_ble_eq_true rfl) ⟨Nat.le_refl 0, Nat.le_refl 0⟩ dX5_token_5 (fun H locs Z => ?_)
    refine lv_bipush (v := (32 : Int32)) C.1.1 C.1.2.1 dX5_token_8 (by decide) ?_
    refine lv_icmp_ne (tgt := 26) C.1.1 C.1.2.1 dX5_token_10 (by decide) (fun h491 => ?_) (fun h491 => ?_)
    · replace hf := (if_neg h491).symm.trans hf
      refine lv_aload_n C.1.1 C.1.2.1 dX5_token_26 rfl (lv_at hl 0 rfl) ?_
      refine lv_aload_n C.1.1 C.1.2.1 dX5_token_27 rfl (lv_at hl 0 rfl) ?_
      refine zg_X5_52 C Z dX5_token_28 ?_
      refine zp_X5_59 C Z dX5_token_31 (fun H locs Z => ?_)
      obtain ⟨mem492, hm492, hf⟩ := zlet_some hf
      rw [← hm492] at Z
      refine lv_aload_n C.1.1 C.1.2.1 dX5_token_34 rfl (lv_at hl 0 rfl) ?_
      refine lv_aload_n C.1.1 C.1.2.1 dX5_token_35 rfl (lv_at hl 0 rfl) ?_
      refine zg_X5_52 C Z dX5_token_36 ?_
      obtain ⟨r493, mem493, hc493, hf⟩ := zb_some hf
      refine z_callVi (k := 44) (As := [.int (mem492 44 13)]) (rest := []) C Z (M_X5_letterAt l G C.2.1 N mem492 (mem492 44 13) r493 mem493 hc493) (zcw_X5_55 C.1.2.2.2.2 ⟨Nat.le_of_ble_eq_true rfl, Nat.le_of_ble_eq_true rfl⟩) (by decide) rfl rfl rfl hl.1 rfl (Nat.le_of_ble_eq_true rfl) ⟨Nat.le_refl 0, Nat.le_refl 0⟩ dX5_token_39 (fun H locs Z => ?_)
      refine lv_istore_n (lv' := [(1, .int r493), (0, .ref (zr G 44))]) C.1.1 C.1.2.1 dX5_token_42 rfl hl (by decide) rfl (fun ls hl => ?_)
      refine lv_aload_n C.1.1 C.1.2.1 dX5_token_43 rfl (lv_at hl 1 rfl) ?_
      refine lv_iload_n C.1.1 C.1.2.1 dX5_token_44 rfl (lv_at hl 0 rfl) ?_
      refine lv_if_ge (tgt := 52) C.1.1 C.1.2.1 dX5_token_45 (by decide) (fun h494 => ?_) (fun h494 => ?_)
      · replace hf := (if_pos h494).symm.trans hf
        refine lv_iload_n C.1.1 C.1.2.1 dX5_token_52 rfl (lv_at hl 0 rfl) ?_
        obtain ⟨r495, mem495, hc495, hf⟩ := zb_some hf
        refine z_callSi (As := [.int r493]) (rest := [.ref (zr G 44)]) C Z (M_X5_isLetter l G C.2.1 N mem493 r493 r495 mem495 hc495) (zcw_X5_62 C.1.2.2.2.2 ⟨Nat.le_of_ble_eq_true rfl, Nat.le_of_ble_eq_true rfl⟩) rfl hl.1 rfl (Nat.le_of_ble_eq_true rfl) ⟨Nat.le_refl 0, Nat.le_refl 0⟩ dX5_token_53 (fun H locs Z => ?_)
        refine lv_if_eq (tgt := 63) C.1.1 C.1.2.1 dX5_token_56 (by decide) (fun h496 => ?_) (fun h496 => ?_)
        · replace hf := (if_pos h496).symm.trans hf
          refine lv_iload_n C.1.1 C.1.2.1 dX5_token_63 rfl (lv_at hl 0 rfl) ?_
          obtain ⟨r497, mem497, hc497, hf⟩ := zb_some hf
          refine z_callSi (As := [.int r493]) (rest := [.ref (zr G 44)]) C Z (M_X5_isDigit l G C.2.1 N mem495 r493 r497 mem497 hc497) (zcw_X5_66 C.1.2.2.2.2 ⟨Nat.le_of_ble_eq_true rfl, Nat.le_of_ble_eq_true rfl⟩) rfl hl.1 rfl (Nat.le_of_ble_eq_true rfl) ⟨Nat.le_refl 0, Nat.le_refl 0⟩ dX5_token_64 (fun H locs Z => ?_)
          refine lv_if_eq (tgt := 74) C.1.1 C.1.2.1 dX5_token_67 (by decide) (fun h498 => ?_) (fun h498 => ?_)
          · replace hf := (if_pos h498).symm.trans hf
            refine lv_iconst (v := (3 : Int32)) C.1.1 C.1.2.1 dX5_token_74 (by decide) ?_
            exact K_X5_token_75 (l := l) (e := e) (below := below) C hr hlk N mem497 (3 : Int32) _ _ _ Z (lv_sub hl [1] rfl) hf
          · replace hf := (if_neg h498).symm.trans hf
            refine lv_iconst (v := (2 : Int32)) C.1.1 C.1.2.1 dX5_token_70 (by decide) ?_
            refine lv_goto (tgt := 75) C.1.1 C.1.2.1 dX5_token_71 (by decide) ?_
            exact K_X5_token_75 (l := l) (e := e) (below := below) C hr hlk N mem497 (2 : Int32) _ _ _ Z (lv_sub hl [1] rfl) hf
        · replace hf := (if_neg h496).symm.trans hf
          refine lv_iconst (v := (1 : Int32)) C.1.1 C.1.2.1 dX5_token_59 (by decide) ?_
          refine lv_goto (tgt := 75) C.1.1 C.1.2.1 dX5_token_60 (by decide) ?_
          exact K_X5_token_75 (l := l) (e := e) (below := below) C hr hlk N mem495 (1 : Int32) _ _ _ Z (lv_sub hl [1] rfl) hf
      · replace hf := (if_neg h494).symm.trans hf
        refine lv_iconst (v := (0 : Int32)) C.1.1 C.1.2.1 dX5_token_48 (by decide) ?_
        refine lv_goto (tgt := 75) C.1.1 C.1.2.1 dX5_token_49 (by decide) ?_
        exact K_X5_token_75 (l := l) (e := e) (below := below) C hr hlk N mem493 (0 : Int32) _ _ _ Z (lv_sub hl [1] rfl) hf
    · replace hf := (if_pos h491).symm.trans hf
      refine lv_aload_n C.1.1 C.1.2.1 dX5_token_13 rfl (lv_at hl 0 rfl) ?_
      refine lv_dup C.1.1 C.1.2.1 dX5_token_14 rfl ?_
      refine zg_X5_52 C Z dX5_token_15 ?_
      refine lv_iconst (v := (1 : Int32)) C.1.1 C.1.2.1 dX5_token_18 (by decide) ?_
      refine lv_iadd C.1.1 C.1.2.1 dX5_token_19 ?_
      refine zp_X5_52 C Z dX5_token_20 (fun H locs Z => ?_)
      obtain ⟨mem499, hm499, hf⟩ := zlet_some hf
      rw [← hm499] at Z
      refine lv_goto (tgt := 0) C.1.1 C.1.2.1 dX5_token_23 (by decide) ?_
      exact ih mem499 _ _ _ Z (lv_sub hl [0] rfl) hf
set_option maxHeartbeats 4000000 in
set_option maxRecDepth 100000 in
theorem M_X5_token (l : Launch) (G : zG) (hG : zOK G) (N : Nat) (mem : zMem) (r : Unit) (mem' : zMem) (hf : f_X5_token N mem = some (r, mem')) : zM l G yX5_token cX5_token 2 none 2 42 [.ref (zr G 44)] mem (zQv G mem') := by
  refine zStart hG (by decide +kernel) (Nat.le_of_ble_eq_true rfl) (fun p e s m below meth c C hr hlk ls hl Z => ?_)
  have hl : lv_has ls 2 [(0, .ref (zr G 44))] := hl
  have C : zC (zAd G) G p s m _ c cX5_token 2 RX5 := C
  unfold f_X5_token at hf
  exact K_X5_token_0 (l := l) (e := e) (below := below) C hr hlk N N mem _ _ _ Z (lv_sub hl [0] rfl) hf
set_option maxHeartbeats 4000000 in
set_option maxRecDepth 100000 in
theorem K_X5_isWord_32 {p : Program} {l : Launch} {e : Env} {s : State} {m : MethodId} {args : Array Value} {below : List Frame} {meth : Method} {c : Code} {G : zG} (C : zC (zAd G) G p s m args c cX5_isWord 9 RX5) (hr : meth.sig.returnType = (some .boolean)) (hlk : meth.locks = false) {r : Int32} {mem' : zMem} (N : Nat) : ∀ (n : Nat) (mem : zMem) (x1 : Int32) (x2 : Int32) (x3 : Int32) (x4 : Int32) (x5 : Int32) (x6 : Int32) (x7 : Int32) (H : Heap) (locs : List Loc) (ls : Array Slot), zH (zAd G) G s mem H locs → lv_has ls 9 [(0, .ref (zr G 44)), (1, .int x1), (2, .int x2), (3, .int x3), (4, .int x4), (5, .int x5), (6, .int x6), (7, .int x7)] → f_X5_isWord_32 N n mem x1 x2 x3 x4 x5 x6 x7 = some (r, mem') → W p l e ({ frames := 0, cells := 0, slots := 0, locals := 0 } : Room) s m args below meth c H locs 0 0 (MQ below (zQi G r mem') args s 0 0 (zAd G)) (F0 m 32 ls []) := by
  intro n
  induction n with
  | zero =>
    intro mem x1 x2 x3 x4 x5 x6 x7 H locs ls Z hl hf
    rw [f_X5_isWord_32.eq_1] at hf
    cases hf
  | succ n ih =>
    intro mem x1 x2 x3 x4 x5 x6 x7 H locs ls Z hl hf
    rw [f_X5_isWord_32.eq_2] at hf
    refine lv_iload C.1.1 C.1.2.1 dX5_isWord_32 (lv_at hl 7 rfl) ?_
    refine lv_iconst (v := (5 : Int32)) C.1.1 C.1.2.1 dX5_isWord_34 (by decide) ?_
    refine lv_icmp_ge (tgt := 144) C.1.1 C.1.2.1 dX5_isWord_35 (by decide) (fun h500 => ?_) (fun h500 => ?_)
    · replace hf := (if_pos h500).symm.trans hf
      refine lv_iload C.1.1 C.1.2.1 dX5_isWord_144 (lv_at hl 6 rfl) ?_
      obtain ⟨hb501, hf⟩ := zgd_some hf
      cases hf
      exact z_zret C Z hr hlk hb501 dX5_isWord_146
    · replace hf := (if_neg h500).symm.trans hf
      refine lv_iload C.1.1 C.1.2.1 dX5_isWord_38 (lv_at hl 6 rfl) ?_
      refine lv_if_eq (tgt := 144) C.1.1 C.1.2.1 dX5_isWord_40 (by decide) (fun h502 => ?_) (fun h502 => ?_)
      · replace hf := (if_pos h502).symm.trans hf
        refine lv_iload C.1.1 C.1.2.1 dX5_isWord_144 (lv_at hl 6 rfl) ?_
        obtain ⟨hb503, hf⟩ := zgd_some hf
        cases hf
        exact z_zret C Z hr hlk hb503 dX5_isWord_146
      · replace hf := (if_neg h502).symm.trans hf
        refine lv_iload C.1.1 C.1.2.1 dX5_isWord_43 (lv_at hl 7 rfl) ?_
        refine lv_if_ne (tgt := 52) C.1.1 C.1.2.1 dX5_isWord_45 (by decide) (fun h504 => ?_) (fun h504 => ?_)
        · replace hf := (if_neg h504).symm.trans hf
          refine lv_iload C.1.1 C.1.2.1 dX5_isWord_52 (lv_at hl 7 rfl) ?_
          refine lv_iconst (v := (1 : Int32)) C.1.1 C.1.2.1 dX5_isWord_54 (by decide) ?_
          refine lv_icmp_ne (tgt := 62) C.1.1 C.1.2.1 dX5_isWord_55 (by decide) (fun h505 => ?_) (fun h505 => ?_)
          · replace hf := (if_neg h505).symm.trans hf
            refine lv_iload C.1.1 C.1.2.1 dX5_isWord_62 (lv_at hl 7 rfl) ?_
            refine lv_iconst (v := (2 : Int32)) C.1.1 C.1.2.1 dX5_isWord_64 (by decide) ?_
            refine lv_icmp_ne (tgt := 72) C.1.1 C.1.2.1 dX5_isWord_65 (by decide) (fun h506 => ?_) (fun h506 => ?_)
            · replace hf := (if_neg h506).symm.trans hf
              refine lv_iload C.1.1 C.1.2.1 dX5_isWord_72 (lv_at hl 7 rfl) ?_
              refine lv_iconst (v := (3 : Int32)) C.1.1 C.1.2.1 dX5_isWord_74 (by decide) ?_
              refine lv_icmp_ne (tgt := 83) C.1.1 C.1.2.1 dX5_isWord_75 (by decide) (fun h507 => ?_) (fun h507 => ?_)
              · replace hf := (if_neg h507).symm.trans hf
                refine lv_iload C.1.1 C.1.2.1 dX5_isWord_83 (lv_at hl 5 rfl) ?_
                refine lv_istore (lv' := [(8, .int x5), (0, .ref (zr G 44)), (1, .int x1), (2, .int x2), (3, .int x3), (4, .int x4), (5, .int x5), (6, .int x6), (7, .int x7)]) C.1.1 C.1.2.1 dX5_isWord_85 hl (by decide) rfl (fun ls hl => ?_)
                refine lv_aload_n C.1.1 C.1.2.1 dX5_isWord_87 rfl (lv_at hl 1 rfl) ?_
                refine zg_X5_59 C Z dX5_isWord_88 ?_
                refine lv_iload C.1.1 C.1.2.1 dX5_isWord_91 (lv_at hl 8 rfl) ?_
                refine lv_iadd C.1.1 C.1.2.1 dX5_isWord_93 ?_
                refine lv_aload_n C.1.1 C.1.2.1 dX5_isWord_94 rfl (lv_at hl 1 rfl) ?_
                refine zg_X5_52 C Z dX5_isWord_95 ?_
                refine lv_icmp_ge (tgt := 126) C.1.1 C.1.2.1 dX5_isWord_98 (by decide) (fun h508 => ?_) (fun h508 => ?_)
                · replace hf := (if_pos h508).symm.trans hf
                  refine lv_iload C.1.1 C.1.2.1 dX5_isWord_126 (lv_at hl 0 rfl) ?_
                  refine lv_if_ne (tgt := 135) C.1.1 C.1.2.1 dX5_isWord_128 (by decide) (fun h509 => ?_) (fun h509 => ?_)
                  · replace hf := (if_neg h509).symm.trans hf
                    refine lv_iconst (v := (0 : Int32)) C.1.1 C.1.2.1 dX5_isWord_135 (by decide) ?_
                    refine lv_istore (lv' := [(6, .int (0 : Int32)), (8, .int x5), (0, .ref (zr G 44)), (1, .int x1), (2, .int x2), (3, .int x3), (4, .int x4), (5, .int x5), (7, .int x7)]) C.1.1 C.1.2.1 dX5_isWord_136 hl (by decide) rfl (fun ls hl => ?_)
                    refine lv_iinc (v := (x7 + 1)) (lv' := [(7, .int (x7 + 1)), (6, .int (0 : Int32)), (8, .int x5), (0, .ref (zr G 44)), (1, .int x1), (2, .int x2), (3, .int x3), (4, .int x4), (5, .int x5)]) C.1.1 C.1.2.1 dX5_isWord_138 hl (k := 8) rfl rfl (by decide) rfl (fun ls hl => ?_)
                    refine lv_goto (tgt := 32) C.1.1 C.1.2.1 dX5_isWord_141 (by decide) ?_
                    exact ih mem x1 x2 x3 x4 x5 (0 : Int32) (x7 + 1) _ _ _ Z (lv_sub hl [3, 4, 5, 6, 7, 8, 1, 0] rfl) hf
                  · replace hf := (if_pos h509).symm.trans hf
                    refine lv_iconst (v := (1 : Int32)) C.1.1 C.1.2.1 dX5_isWord_131 (by decide) ?_
                    refine lv_goto (tgt := 136) C.1.1 C.1.2.1 dX5_isWord_132 (by decide) ?_
                    refine lv_istore (lv' := [(6, .int (1 : Int32)), (8, .int x5), (0, .ref (zr G 44)), (1, .int x1), (2, .int x2), (3, .int x3), (4, .int x4), (5, .int x5), (7, .int x7)]) C.1.1 C.1.2.1 dX5_isWord_136 hl (by decide) rfl (fun ls hl => ?_)
                    refine lv_iinc (v := (x7 + 1)) (lv' := [(7, .int (x7 + 1)), (6, .int (1 : Int32)), (8, .int x5), (0, .ref (zr G 44)), (1, .int x1), (2, .int x2), (3, .int x3), (4, .int x4), (5, .int x5)]) C.1.1 C.1.2.1 dX5_isWord_138 hl (k := 8) rfl rfl (by decide) rfl (fun ls hl => ?_)
                    refine lv_goto (tgt := 32) C.1.1 C.1.2.1 dX5_isWord_141 (by decide) ?_
                    exact ih mem x1 x2 x3 x4 x5 (1 : Int32) (x7 + 1) _ _ _ Z (lv_sub hl [3, 4, 5, 6, 7, 8, 1, 0] rfl) hf
                · replace hf := (if_neg h508).symm.trans hf
                  refine lv_aload_n C.1.1 C.1.2.1 dX5_isWord_101 rfl (lv_at hl 1 rfl) ?_
                  refine zg_X5_7 C Z dX5_isWord_102 ?_
                  refine lv_aload_n C.1.1 C.1.2.1 dX5_isWord_105 rfl (lv_at hl 1 rfl) ?_
                  refine zg_X5_59 C Z dX5_isWord_106 ?_
                  refine lv_iload C.1.1 C.1.2.1 dX5_isWord_109 (lv_at hl 8 rfl) ?_
                  refine lv_iadd C.1.1 C.1.2.1 dX5_isWord_111 ?_
                  obtain ⟨hi510, hf⟩ := zgd_some hf
                  refine z_iald (k := 45) C Z (by decide) rfl hi510 dX5_isWord_112 ?_
                  refine lv_iload C.1.1 C.1.2.1 dX5_isWord_113 (lv_at hl 0 rfl) ?_
                  refine lv_icmp_ne (tgt := 122) C.1.1 C.1.2.1 dX5_isWord_115 (by decide) (fun h511 => ?_) (fun h511 => ?_)
                  · replace hf := (if_neg h511).symm.trans hf
                    refine lv_iconst (v := (0 : Int32)) C.1.1 C.1.2.1 dX5_isWord_122 (by decide) ?_
                    refine lv_goto (tgt := 136) C.1.1 C.1.2.1 dX5_isWord_123 (by decide) ?_
                    refine lv_istore (lv' := [(6, .int (0 : Int32)), (8, .int x5), (0, .ref (zr G 44)), (1, .int x1), (2, .int x2), (3, .int x3), (4, .int x4), (5, .int x5), (7, .int x7)]) C.1.1 C.1.2.1 dX5_isWord_136 hl (by decide) rfl (fun ls hl => ?_)
                    refine lv_iinc (v := (x7 + 1)) (lv' := [(7, .int (x7 + 1)), (6, .int (0 : Int32)), (8, .int x5), (0, .ref (zr G 44)), (1, .int x1), (2, .int x2), (3, .int x3), (4, .int x4), (5, .int x5)]) C.1.1 C.1.2.1 dX5_isWord_138 hl (k := 8) rfl rfl (by decide) rfl (fun ls hl => ?_)
                    refine lv_goto (tgt := 32) C.1.1 C.1.2.1 dX5_isWord_141 (by decide) ?_
                    exact ih mem x1 x2 x3 x4 x5 (0 : Int32) (x7 + 1) _ _ _ Z (lv_sub hl [3, 4, 5, 6, 7, 8, 1, 0] rfl) hf
                  · replace hf := (if_pos h511).symm.trans hf
                    refine lv_iconst (v := (1 : Int32)) C.1.1 C.1.2.1 dX5_isWord_118 (by decide) ?_
                    refine lv_goto (tgt := 136) C.1.1 C.1.2.1 dX5_isWord_119 (by decide) ?_
                    refine lv_istore (lv' := [(6, .int (1 : Int32)), (8, .int x5), (0, .ref (zr G 44)), (1, .int x1), (2, .int x2), (3, .int x3), (4, .int x4), (5, .int x5), (7, .int x7)]) C.1.1 C.1.2.1 dX5_isWord_136 hl (by decide) rfl (fun ls hl => ?_)
                    refine lv_iinc (v := (x7 + 1)) (lv' := [(7, .int (x7 + 1)), (6, .int (1 : Int32)), (8, .int x5), (0, .ref (zr G 44)), (1, .int x1), (2, .int x2), (3, .int x3), (4, .int x4), (5, .int x5)]) C.1.1 C.1.2.1 dX5_isWord_138 hl (k := 8) rfl rfl (by decide) rfl (fun ls hl => ?_)
                    refine lv_goto (tgt := 32) C.1.1 C.1.2.1 dX5_isWord_141 (by decide) ?_
                    exact ih mem x1 x2 x3 x4 x5 (1 : Int32) (x7 + 1) _ _ _ Z (lv_sub hl [3, 4, 5, 6, 7, 8, 1, 0] rfl) hf
              · replace hf := (if_pos h507).symm.trans hf
                refine lv_iload C.1.1 C.1.2.1 dX5_isWord_78 (lv_at hl 4 rfl) ?_
                refine lv_goto (tgt := 85) C.1.1 C.1.2.1 dX5_isWord_80 (by decide) ?_
                refine lv_istore (lv' := [(8, .int x4), (0, .ref (zr G 44)), (1, .int x1), (2, .int x2), (3, .int x3), (4, .int x4), (5, .int x5), (6, .int x6), (7, .int x7)]) C.1.1 C.1.2.1 dX5_isWord_85 hl (by decide) rfl (fun ls hl => ?_)
                refine lv_aload_n C.1.1 C.1.2.1 dX5_isWord_87 rfl (lv_at hl 1 rfl) ?_
                refine zg_X5_59 C Z dX5_isWord_88 ?_
                refine lv_iload C.1.1 C.1.2.1 dX5_isWord_91 (lv_at hl 8 rfl) ?_
                refine lv_iadd C.1.1 C.1.2.1 dX5_isWord_93 ?_
                refine lv_aload_n C.1.1 C.1.2.1 dX5_isWord_94 rfl (lv_at hl 1 rfl) ?_
                refine zg_X5_52 C Z dX5_isWord_95 ?_
                refine lv_icmp_ge (tgt := 126) C.1.1 C.1.2.1 dX5_isWord_98 (by decide) (fun h512 => ?_) (fun h512 => ?_)
                · replace hf := (if_pos h512).symm.trans hf
                  refine lv_iload C.1.1 C.1.2.1 dX5_isWord_126 (lv_at hl 0 rfl) ?_
                  refine lv_if_ne (tgt := 135) C.1.1 C.1.2.1 dX5_isWord_128 (by decide) (fun h513 => ?_) (fun h513 => ?_)
                  · replace hf := (if_neg h513).symm.trans hf
                    refine lv_iconst (v := (0 : Int32)) C.1.1 C.1.2.1 dX5_isWord_135 (by decide) ?_
                    refine lv_istore (lv' := [(6, .int (0 : Int32)), (8, .int x4), (0, .ref (zr G 44)), (1, .int x1), (2, .int x2), (3, .int x3), (4, .int x4), (5, .int x5), (7, .int x7)]) C.1.1 C.1.2.1 dX5_isWord_136 hl (by decide) rfl (fun ls hl => ?_)
                    refine lv_iinc (v := (x7 + 1)) (lv' := [(7, .int (x7 + 1)), (6, .int (0 : Int32)), (8, .int x4), (0, .ref (zr G 44)), (1, .int x1), (2, .int x2), (3, .int x3), (4, .int x4), (5, .int x5)]) C.1.1 C.1.2.1 dX5_isWord_138 hl (k := 8) rfl rfl (by decide) rfl (fun ls hl => ?_)
                    refine lv_goto (tgt := 32) C.1.1 C.1.2.1 dX5_isWord_141 (by decide) ?_
                    exact ih mem x1 x2 x3 x4 x5 (0 : Int32) (x7 + 1) _ _ _ Z (lv_sub hl [3, 4, 5, 6, 7, 8, 1, 0] rfl) hf
                  · replace hf := (if_pos h513).symm.trans hf
                    refine lv_iconst (v := (1 : Int32)) C.1.1 C.1.2.1 dX5_isWord_131 (by decide) ?_
                    refine lv_goto (tgt := 136) C.1.1 C.1.2.1 dX5_isWord_132 (by decide) ?_
                    refine lv_istore (lv' := [(6, .int (1 : Int32)), (8, .int x4), (0, .ref (zr G 44)), (1, .int x1), (2, .int x2), (3, .int x3), (4, .int x4), (5, .int x5), (7, .int x7)]) C.1.1 C.1.2.1 dX5_isWord_136 hl (by decide) rfl (fun ls hl => ?_)
                    refine lv_iinc (v := (x7 + 1)) (lv' := [(7, .int (x7 + 1)), (6, .int (1 : Int32)), (8, .int x4), (0, .ref (zr G 44)), (1, .int x1), (2, .int x2), (3, .int x3), (4, .int x4), (5, .int x5)]) C.1.1 C.1.2.1 dX5_isWord_138 hl (k := 8) rfl rfl (by decide) rfl (fun ls hl => ?_)
                    refine lv_goto (tgt := 32) C.1.1 C.1.2.1 dX5_isWord_141 (by decide) ?_
                    exact ih mem x1 x2 x3 x4 x5 (1 : Int32) (x7 + 1) _ _ _ Z (lv_sub hl [3, 4, 5, 6, 7, 8, 1, 0] rfl) hf
                · replace hf := (if_neg h512).symm.trans hf
                  refine lv_aload_n C.1.1 C.1.2.1 dX5_isWord_101 rfl (lv_at hl 1 rfl) ?_
                  refine zg_X5_7 C Z dX5_isWord_102 ?_
                  refine lv_aload_n C.1.1 C.1.2.1 dX5_isWord_105 rfl (lv_at hl 1 rfl) ?_
                  refine zg_X5_59 C Z dX5_isWord_106 ?_
                  refine lv_iload C.1.1 C.1.2.1 dX5_isWord_109 (lv_at hl 8 rfl) ?_
                  refine lv_iadd C.1.1 C.1.2.1 dX5_isWord_111 ?_
                  obtain ⟨hi514, hf⟩ := zgd_some hf
                  refine z_iald (k := 45) C Z (by decide) rfl hi514 dX5_isWord_112 ?_
                  refine lv_iload C.1.1 C.1.2.1 dX5_isWord_113 (lv_at hl 0 rfl) ?_
                  refine lv_icmp_ne (tgt := 122) C.1.1 C.1.2.1 dX5_isWord_115 (by decide) (fun h515 => ?_) (fun h515 => ?_)
                  · replace hf := (if_neg h515).symm.trans hf
                    refine lv_iconst (v := (0 : Int32)) C.1.1 C.1.2.1 dX5_isWord_122 (by decide) ?_
                    refine lv_goto (tgt := 136) C.1.1 C.1.2.1 dX5_isWord_123 (by decide) ?_
                    refine lv_istore (lv' := [(6, .int (0 : Int32)), (8, .int x4), (0, .ref (zr G 44)), (1, .int x1), (2, .int x2), (3, .int x3), (4, .int x4), (5, .int x5), (7, .int x7)]) C.1.1 C.1.2.1 dX5_isWord_136 hl (by decide) rfl (fun ls hl => ?_)
                    refine lv_iinc (v := (x7 + 1)) (lv' := [(7, .int (x7 + 1)), (6, .int (0 : Int32)), (8, .int x4), (0, .ref (zr G 44)), (1, .int x1), (2, .int x2), (3, .int x3), (4, .int x4), (5, .int x5)]) C.1.1 C.1.2.1 dX5_isWord_138 hl (k := 8) rfl rfl (by decide) rfl (fun ls hl => ?_)
                    refine lv_goto (tgt := 32) C.1.1 C.1.2.1 dX5_isWord_141 (by decide) ?_
                    exact ih mem x1 x2 x3 x4 x5 (0 : Int32) (x7 + 1) _ _ _ Z (lv_sub hl [3, 4, 5, 6, 7, 8, 1, 0] rfl) hf
                  · replace hf := (if_pos h515).symm.trans hf
                    refine lv_iconst (v := (1 : Int32)) C.1.1 C.1.2.1 dX5_isWord_118 (by decide) ?_
                    refine lv_goto (tgt := 136) C.1.1 C.1.2.1 dX5_isWord_119 (by decide) ?_
                    refine lv_istore (lv' := [(6, .int (1 : Int32)), (8, .int x4), (0, .ref (zr G 44)), (1, .int x1), (2, .int x2), (3, .int x3), (4, .int x4), (5, .int x5), (7, .int x7)]) C.1.1 C.1.2.1 dX5_isWord_136 hl (by decide) rfl (fun ls hl => ?_)
                    refine lv_iinc (v := (x7 + 1)) (lv' := [(7, .int (x7 + 1)), (6, .int (1 : Int32)), (8, .int x4), (0, .ref (zr G 44)), (1, .int x1), (2, .int x2), (3, .int x3), (4, .int x4), (5, .int x5)]) C.1.1 C.1.2.1 dX5_isWord_138 hl (k := 8) rfl rfl (by decide) rfl (fun ls hl => ?_)
                    refine lv_goto (tgt := 32) C.1.1 C.1.2.1 dX5_isWord_141 (by decide) ?_
                    exact ih mem x1 x2 x3 x4 x5 (1 : Int32) (x7 + 1) _ _ _ Z (lv_sub hl [3, 4, 5, 6, 7, 8, 1, 0] rfl) hf
            · replace hf := (if_pos h506).symm.trans hf
              refine lv_iload_n C.1.1 C.1.2.1 dX5_isWord_68 rfl (lv_at hl 3 rfl) ?_
              refine lv_goto (tgt := 85) C.1.1 C.1.2.1 dX5_isWord_69 (by decide) ?_
              refine lv_istore (lv' := [(8, .int x3), (0, .ref (zr G 44)), (1, .int x1), (2, .int x2), (3, .int x3), (4, .int x4), (5, .int x5), (6, .int x6), (7, .int x7)]) C.1.1 C.1.2.1 dX5_isWord_85 hl (by decide) rfl (fun ls hl => ?_)
              refine lv_aload_n C.1.1 C.1.2.1 dX5_isWord_87 rfl (lv_at hl 1 rfl) ?_
              refine zg_X5_59 C Z dX5_isWord_88 ?_
              refine lv_iload C.1.1 C.1.2.1 dX5_isWord_91 (lv_at hl 8 rfl) ?_
              refine lv_iadd C.1.1 C.1.2.1 dX5_isWord_93 ?_
              refine lv_aload_n C.1.1 C.1.2.1 dX5_isWord_94 rfl (lv_at hl 1 rfl) ?_
              refine zg_X5_52 C Z dX5_isWord_95 ?_
              refine lv_icmp_ge (tgt := 126) C.1.1 C.1.2.1 dX5_isWord_98 (by decide) (fun h516 => ?_) (fun h516 => ?_)
              · replace hf := (if_pos h516).symm.trans hf
                refine lv_iload C.1.1 C.1.2.1 dX5_isWord_126 (lv_at hl 0 rfl) ?_
                refine lv_if_ne (tgt := 135) C.1.1 C.1.2.1 dX5_isWord_128 (by decide) (fun h517 => ?_) (fun h517 => ?_)
                · replace hf := (if_neg h517).symm.trans hf
                  refine lv_iconst (v := (0 : Int32)) C.1.1 C.1.2.1 dX5_isWord_135 (by decide) ?_
                  refine lv_istore (lv' := [(6, .int (0 : Int32)), (8, .int x3), (0, .ref (zr G 44)), (1, .int x1), (2, .int x2), (3, .int x3), (4, .int x4), (5, .int x5), (7, .int x7)]) C.1.1 C.1.2.1 dX5_isWord_136 hl (by decide) rfl (fun ls hl => ?_)
                  refine lv_iinc (v := (x7 + 1)) (lv' := [(7, .int (x7 + 1)), (6, .int (0 : Int32)), (8, .int x3), (0, .ref (zr G 44)), (1, .int x1), (2, .int x2), (3, .int x3), (4, .int x4), (5, .int x5)]) C.1.1 C.1.2.1 dX5_isWord_138 hl (k := 8) rfl rfl (by decide) rfl (fun ls hl => ?_)
                  refine lv_goto (tgt := 32) C.1.1 C.1.2.1 dX5_isWord_141 (by decide) ?_
                  exact ih mem x1 x2 x3 x4 x5 (0 : Int32) (x7 + 1) _ _ _ Z (lv_sub hl [3, 4, 5, 6, 7, 8, 1, 0] rfl) hf
                · replace hf := (if_pos h517).symm.trans hf
                  refine lv_iconst (v := (1 : Int32)) C.1.1 C.1.2.1 dX5_isWord_131 (by decide) ?_
                  refine lv_goto (tgt := 136) C.1.1 C.1.2.1 dX5_isWord_132 (by decide) ?_
                  refine lv_istore (lv' := [(6, .int (1 : Int32)), (8, .int x3), (0, .ref (zr G 44)), (1, .int x1), (2, .int x2), (3, .int x3), (4, .int x4), (5, .int x5), (7, .int x7)]) C.1.1 C.1.2.1 dX5_isWord_136 hl (by decide) rfl (fun ls hl => ?_)
                  refine lv_iinc (v := (x7 + 1)) (lv' := [(7, .int (x7 + 1)), (6, .int (1 : Int32)), (8, .int x3), (0, .ref (zr G 44)), (1, .int x1), (2, .int x2), (3, .int x3), (4, .int x4), (5, .int x5)]) C.1.1 C.1.2.1 dX5_isWord_138 hl (k := 8) rfl rfl (by decide) rfl (fun ls hl => ?_)
                  refine lv_goto (tgt := 32) C.1.1 C.1.2.1 dX5_isWord_141 (by decide) ?_
                  exact ih mem x1 x2 x3 x4 x5 (1 : Int32) (x7 + 1) _ _ _ Z (lv_sub hl [3, 4, 5, 6, 7, 8, 1, 0] rfl) hf
              · replace hf := (if_neg h516).symm.trans hf
                refine lv_aload_n C.1.1 C.1.2.1 dX5_isWord_101 rfl (lv_at hl 1 rfl) ?_
                refine zg_X5_7 C Z dX5_isWord_102 ?_
                refine lv_aload_n C.1.1 C.1.2.1 dX5_isWord_105 rfl (lv_at hl 1 rfl) ?_
                refine zg_X5_59 C Z dX5_isWord_106 ?_
                refine lv_iload C.1.1 C.1.2.1 dX5_isWord_109 (lv_at hl 8 rfl) ?_
                refine lv_iadd C.1.1 C.1.2.1 dX5_isWord_111 ?_
                obtain ⟨hi518, hf⟩ := zgd_some hf
                refine z_iald (k := 45) C Z (by decide) rfl hi518 dX5_isWord_112 ?_
                refine lv_iload C.1.1 C.1.2.1 dX5_isWord_113 (lv_at hl 0 rfl) ?_
                refine lv_icmp_ne (tgt := 122) C.1.1 C.1.2.1 dX5_isWord_115 (by decide) (fun h519 => ?_) (fun h519 => ?_)
                · replace hf := (if_neg h519).symm.trans hf
                  refine lv_iconst (v := (0 : Int32)) C.1.1 C.1.2.1 dX5_isWord_122 (by decide) ?_
                  refine lv_goto (tgt := 136) C.1.1 C.1.2.1 dX5_isWord_123 (by decide) ?_
                  refine lv_istore (lv' := [(6, .int (0 : Int32)), (8, .int x3), (0, .ref (zr G 44)), (1, .int x1), (2, .int x2), (3, .int x3), (4, .int x4), (5, .int x5), (7, .int x7)]) C.1.1 C.1.2.1 dX5_isWord_136 hl (by decide) rfl (fun ls hl => ?_)
                  refine lv_iinc (v := (x7 + 1)) (lv' := [(7, .int (x7 + 1)), (6, .int (0 : Int32)), (8, .int x3), (0, .ref (zr G 44)), (1, .int x1), (2, .int x2), (3, .int x3), (4, .int x4), (5, .int x5)]) C.1.1 C.1.2.1 dX5_isWord_138 hl (k := 8) rfl rfl (by decide) rfl (fun ls hl => ?_)
                  refine lv_goto (tgt := 32) C.1.1 C.1.2.1 dX5_isWord_141 (by decide) ?_
                  exact ih mem x1 x2 x3 x4 x5 (0 : Int32) (x7 + 1) _ _ _ Z (lv_sub hl [3, 4, 5, 6, 7, 8, 1, 0] rfl) hf
                · replace hf := (if_pos h519).symm.trans hf
                  refine lv_iconst (v := (1 : Int32)) C.1.1 C.1.2.1 dX5_isWord_118 (by decide) ?_
                  refine lv_goto (tgt := 136) C.1.1 C.1.2.1 dX5_isWord_119 (by decide) ?_
                  refine lv_istore (lv' := [(6, .int (1 : Int32)), (8, .int x3), (0, .ref (zr G 44)), (1, .int x1), (2, .int x2), (3, .int x3), (4, .int x4), (5, .int x5), (7, .int x7)]) C.1.1 C.1.2.1 dX5_isWord_136 hl (by decide) rfl (fun ls hl => ?_)
                  refine lv_iinc (v := (x7 + 1)) (lv' := [(7, .int (x7 + 1)), (6, .int (1 : Int32)), (8, .int x3), (0, .ref (zr G 44)), (1, .int x1), (2, .int x2), (3, .int x3), (4, .int x4), (5, .int x5)]) C.1.1 C.1.2.1 dX5_isWord_138 hl (k := 8) rfl rfl (by decide) rfl (fun ls hl => ?_)
                  refine lv_goto (tgt := 32) C.1.1 C.1.2.1 dX5_isWord_141 (by decide) ?_
                  exact ih mem x1 x2 x3 x4 x5 (1 : Int32) (x7 + 1) _ _ _ Z (lv_sub hl [3, 4, 5, 6, 7, 8, 1, 0] rfl) hf
          · replace hf := (if_pos h505).symm.trans hf
            refine lv_iload_n C.1.1 C.1.2.1 dX5_isWord_58 rfl (lv_at hl 2 rfl) ?_
            refine lv_goto (tgt := 85) C.1.1 C.1.2.1 dX5_isWord_59 (by decide) ?_
            refine lv_istore (lv' := [(8, .int x2), (0, .ref (zr G 44)), (1, .int x1), (2, .int x2), (3, .int x3), (4, .int x4), (5, .int x5), (6, .int x6), (7, .int x7)]) C.1.1 C.1.2.1 dX5_isWord_85 hl (by decide) rfl (fun ls hl => ?_)
            refine lv_aload_n C.1.1 C.1.2.1 dX5_isWord_87 rfl (lv_at hl 1 rfl) ?_
            refine zg_X5_59 C Z dX5_isWord_88 ?_
            refine lv_iload C.1.1 C.1.2.1 dX5_isWord_91 (lv_at hl 8 rfl) ?_
            refine lv_iadd C.1.1 C.1.2.1 dX5_isWord_93 ?_
            refine lv_aload_n C.1.1 C.1.2.1 dX5_isWord_94 rfl (lv_at hl 1 rfl) ?_
            refine zg_X5_52 C Z dX5_isWord_95 ?_
            refine lv_icmp_ge (tgt := 126) C.1.1 C.1.2.1 dX5_isWord_98 (by decide) (fun h520 => ?_) (fun h520 => ?_)
            · replace hf := (if_pos h520).symm.trans hf
              refine lv_iload C.1.1 C.1.2.1 dX5_isWord_126 (lv_at hl 0 rfl) ?_
              refine lv_if_ne (tgt := 135) C.1.1 C.1.2.1 dX5_isWord_128 (by decide) (fun h521 => ?_) (fun h521 => ?_)
              · replace hf := (if_neg h521).symm.trans hf
                refine lv_iconst (v := (0 : Int32)) C.1.1 C.1.2.1 dX5_isWord_135 (by decide) ?_
                refine lv_istore (lv' := [(6, .int (0 : Int32)), (8, .int x2), (0, .ref (zr G 44)), (1, .int x1), (2, .int x2), (3, .int x3), (4, .int x4), (5, .int x5), (7, .int x7)]) C.1.1 C.1.2.1 dX5_isWord_136 hl (by decide) rfl (fun ls hl => ?_)
                refine lv_iinc (v := (x7 + 1)) (lv' := [(7, .int (x7 + 1)), (6, .int (0 : Int32)), (8, .int x2), (0, .ref (zr G 44)), (1, .int x1), (2, .int x2), (3, .int x3), (4, .int x4), (5, .int x5)]) C.1.1 C.1.2.1 dX5_isWord_138 hl (k := 8) rfl rfl (by decide) rfl (fun ls hl => ?_)
                refine lv_goto (tgt := 32) C.1.1 C.1.2.1 dX5_isWord_141 (by decide) ?_
                exact ih mem x1 x2 x3 x4 x5 (0 : Int32) (x7 + 1) _ _ _ Z (lv_sub hl [3, 4, 5, 6, 7, 8, 1, 0] rfl) hf
              · replace hf := (if_pos h521).symm.trans hf
                refine lv_iconst (v := (1 : Int32)) C.1.1 C.1.2.1 dX5_isWord_131 (by decide) ?_
                refine lv_goto (tgt := 136) C.1.1 C.1.2.1 dX5_isWord_132 (by decide) ?_
                refine lv_istore (lv' := [(6, .int (1 : Int32)), (8, .int x2), (0, .ref (zr G 44)), (1, .int x1), (2, .int x2), (3, .int x3), (4, .int x4), (5, .int x5), (7, .int x7)]) C.1.1 C.1.2.1 dX5_isWord_136 hl (by decide) rfl (fun ls hl => ?_)
                refine lv_iinc (v := (x7 + 1)) (lv' := [(7, .int (x7 + 1)), (6, .int (1 : Int32)), (8, .int x2), (0, .ref (zr G 44)), (1, .int x1), (2, .int x2), (3, .int x3), (4, .int x4), (5, .int x5)]) C.1.1 C.1.2.1 dX5_isWord_138 hl (k := 8) rfl rfl (by decide) rfl (fun ls hl => ?_)
                refine lv_goto (tgt := 32) C.1.1 C.1.2.1 dX5_isWord_141 (by decide) ?_
                exact ih mem x1 x2 x3 x4 x5 (1 : Int32) (x7 + 1) _ _ _ Z (lv_sub hl [3, 4, 5, 6, 7, 8, 1, 0] rfl) hf
            · replace hf := (if_neg h520).symm.trans hf
              refine lv_aload_n C.1.1 C.1.2.1 dX5_isWord_101 rfl (lv_at hl 1 rfl) ?_
              refine zg_X5_7 C Z dX5_isWord_102 ?_
              refine lv_aload_n C.1.1 C.1.2.1 dX5_isWord_105 rfl (lv_at hl 1 rfl) ?_
              refine zg_X5_59 C Z dX5_isWord_106 ?_
              refine lv_iload C.1.1 C.1.2.1 dX5_isWord_109 (lv_at hl 8 rfl) ?_
              refine lv_iadd C.1.1 C.1.2.1 dX5_isWord_111 ?_
              obtain ⟨hi522, hf⟩ := zgd_some hf
              refine z_iald (k := 45) C Z (by decide) rfl hi522 dX5_isWord_112 ?_
              refine lv_iload C.1.1 C.1.2.1 dX5_isWord_113 (lv_at hl 0 rfl) ?_
              refine lv_icmp_ne (tgt := 122) C.1.1 C.1.2.1 dX5_isWord_115 (by decide) (fun h523 => ?_) (fun h523 => ?_)
              · replace hf := (if_neg h523).symm.trans hf
                refine lv_iconst (v := (0 : Int32)) C.1.1 C.1.2.1 dX5_isWord_122 (by decide) ?_
                refine lv_goto (tgt := 136) C.1.1 C.1.2.1 dX5_isWord_123 (by decide) ?_
                refine lv_istore (lv' := [(6, .int (0 : Int32)), (8, .int x2), (0, .ref (zr G 44)), (1, .int x1), (2, .int x2), (3, .int x3), (4, .int x4), (5, .int x5), (7, .int x7)]) C.1.1 C.1.2.1 dX5_isWord_136 hl (by decide) rfl (fun ls hl => ?_)
                refine lv_iinc (v := (x7 + 1)) (lv' := [(7, .int (x7 + 1)), (6, .int (0 : Int32)), (8, .int x2), (0, .ref (zr G 44)), (1, .int x1), (2, .int x2), (3, .int x3), (4, .int x4), (5, .int x5)]) C.1.1 C.1.2.1 dX5_isWord_138 hl (k := 8) rfl rfl (by decide) rfl (fun ls hl => ?_)
                refine lv_goto (tgt := 32) C.1.1 C.1.2.1 dX5_isWord_141 (by decide) ?_
                exact ih mem x1 x2 x3 x4 x5 (0 : Int32) (x7 + 1) _ _ _ Z (lv_sub hl [3, 4, 5, 6, 7, 8, 1, 0] rfl) hf
              · replace hf := (if_pos h523).symm.trans hf
                refine lv_iconst (v := (1 : Int32)) C.1.1 C.1.2.1 dX5_isWord_118 (by decide) ?_
                refine lv_goto (tgt := 136) C.1.1 C.1.2.1 dX5_isWord_119 (by decide) ?_
                refine lv_istore (lv' := [(6, .int (1 : Int32)), (8, .int x2), (0, .ref (zr G 44)), (1, .int x1), (2, .int x2), (3, .int x3), (4, .int x4), (5, .int x5), (7, .int x7)]) C.1.1 C.1.2.1 dX5_isWord_136 hl (by decide) rfl (fun ls hl => ?_)
                refine lv_iinc (v := (x7 + 1)) (lv' := [(7, .int (x7 + 1)), (6, .int (1 : Int32)), (8, .int x2), (0, .ref (zr G 44)), (1, .int x1), (2, .int x2), (3, .int x3), (4, .int x4), (5, .int x5)]) C.1.1 C.1.2.1 dX5_isWord_138 hl (k := 8) rfl rfl (by decide) rfl (fun ls hl => ?_)
                refine lv_goto (tgt := 32) C.1.1 C.1.2.1 dX5_isWord_141 (by decide) ?_
                exact ih mem x1 x2 x3 x4 x5 (1 : Int32) (x7 + 1) _ _ _ Z (lv_sub hl [3, 4, 5, 6, 7, 8, 1, 0] rfl) hf
        · replace hf := (if_pos h504).symm.trans hf
          refine lv_iload_n C.1.1 C.1.2.1 dX5_isWord_48 rfl (lv_at hl 1 rfl) ?_
          refine lv_goto (tgt := 85) C.1.1 C.1.2.1 dX5_isWord_49 (by decide) ?_
          refine lv_istore (lv' := [(8, .int x1), (0, .ref (zr G 44)), (1, .int x1), (2, .int x2), (3, .int x3), (4, .int x4), (5, .int x5), (6, .int x6), (7, .int x7)]) C.1.1 C.1.2.1 dX5_isWord_85 hl (by decide) rfl (fun ls hl => ?_)
          refine lv_aload_n C.1.1 C.1.2.1 dX5_isWord_87 rfl (lv_at hl 1 rfl) ?_
          refine zg_X5_59 C Z dX5_isWord_88 ?_
          refine lv_iload C.1.1 C.1.2.1 dX5_isWord_91 (lv_at hl 8 rfl) ?_
          refine lv_iadd C.1.1 C.1.2.1 dX5_isWord_93 ?_
          refine lv_aload_n C.1.1 C.1.2.1 dX5_isWord_94 rfl (lv_at hl 1 rfl) ?_
          refine zg_X5_52 C Z dX5_isWord_95 ?_
          refine lv_icmp_ge (tgt := 126) C.1.1 C.1.2.1 dX5_isWord_98 (by decide) (fun h524 => ?_) (fun h524 => ?_)
          · replace hf := (if_pos h524).symm.trans hf
            refine lv_iload C.1.1 C.1.2.1 dX5_isWord_126 (lv_at hl 0 rfl) ?_
            refine lv_if_ne (tgt := 135) C.1.1 C.1.2.1 dX5_isWord_128 (by decide) (fun h525 => ?_) (fun h525 => ?_)
            · replace hf := (if_neg h525).symm.trans hf
              refine lv_iconst (v := (0 : Int32)) C.1.1 C.1.2.1 dX5_isWord_135 (by decide) ?_
              refine lv_istore (lv' := [(6, .int (0 : Int32)), (8, .int x1), (0, .ref (zr G 44)), (1, .int x1), (2, .int x2), (3, .int x3), (4, .int x4), (5, .int x5), (7, .int x7)]) C.1.1 C.1.2.1 dX5_isWord_136 hl (by decide) rfl (fun ls hl => ?_)
              refine lv_iinc (v := (x7 + 1)) (lv' := [(7, .int (x7 + 1)), (6, .int (0 : Int32)), (8, .int x1), (0, .ref (zr G 44)), (1, .int x1), (2, .int x2), (3, .int x3), (4, .int x4), (5, .int x5)]) C.1.1 C.1.2.1 dX5_isWord_138 hl (k := 8) rfl rfl (by decide) rfl (fun ls hl => ?_)
              refine lv_goto (tgt := 32) C.1.1 C.1.2.1 dX5_isWord_141 (by decide) ?_
              exact ih mem x1 x2 x3 x4 x5 (0 : Int32) (x7 + 1) _ _ _ Z (lv_sub hl [3, 4, 5, 6, 7, 8, 1, 0] rfl) hf
            · replace hf := (if_pos h525).symm.trans hf
              refine lv_iconst (v := (1 : Int32)) C.1.1 C.1.2.1 dX5_isWord_131 (by decide) ?_
              refine lv_goto (tgt := 136) C.1.1 C.1.2.1 dX5_isWord_132 (by decide) ?_
              refine lv_istore (lv' := [(6, .int (1 : Int32)), (8, .int x1), (0, .ref (zr G 44)), (1, .int x1), (2, .int x2), (3, .int x3), (4, .int x4), (5, .int x5), (7, .int x7)]) C.1.1 C.1.2.1 dX5_isWord_136 hl (by decide) rfl (fun ls hl => ?_)
              refine lv_iinc (v := (x7 + 1)) (lv' := [(7, .int (x7 + 1)), (6, .int (1 : Int32)), (8, .int x1), (0, .ref (zr G 44)), (1, .int x1), (2, .int x2), (3, .int x3), (4, .int x4), (5, .int x5)]) C.1.1 C.1.2.1 dX5_isWord_138 hl (k := 8) rfl rfl (by decide) rfl (fun ls hl => ?_)
              refine lv_goto (tgt := 32) C.1.1 C.1.2.1 dX5_isWord_141 (by decide) ?_
              exact ih mem x1 x2 x3 x4 x5 (1 : Int32) (x7 + 1) _ _ _ Z (lv_sub hl [3, 4, 5, 6, 7, 8, 1, 0] rfl) hf
          · replace hf := (if_neg h524).symm.trans hf
            refine lv_aload_n C.1.1 C.1.2.1 dX5_isWord_101 rfl (lv_at hl 1 rfl) ?_
            refine zg_X5_7 C Z dX5_isWord_102 ?_
            refine lv_aload_n C.1.1 C.1.2.1 dX5_isWord_105 rfl (lv_at hl 1 rfl) ?_
            refine zg_X5_59 C Z dX5_isWord_106 ?_
            refine lv_iload C.1.1 C.1.2.1 dX5_isWord_109 (lv_at hl 8 rfl) ?_
            refine lv_iadd C.1.1 C.1.2.1 dX5_isWord_111 ?_
            obtain ⟨hi526, hf⟩ := zgd_some hf
            refine z_iald (k := 45) C Z (by decide) rfl hi526 dX5_isWord_112 ?_
            refine lv_iload C.1.1 C.1.2.1 dX5_isWord_113 (lv_at hl 0 rfl) ?_
            refine lv_icmp_ne (tgt := 122) C.1.1 C.1.2.1 dX5_isWord_115 (by decide) (fun h527 => ?_) (fun h527 => ?_)
            · replace hf := (if_neg h527).symm.trans hf
              refine lv_iconst (v := (0 : Int32)) C.1.1 C.1.2.1 dX5_isWord_122 (by decide) ?_
              refine lv_goto (tgt := 136) C.1.1 C.1.2.1 dX5_isWord_123 (by decide) ?_
              refine lv_istore (lv' := [(6, .int (0 : Int32)), (8, .int x1), (0, .ref (zr G 44)), (1, .int x1), (2, .int x2), (3, .int x3), (4, .int x4), (5, .int x5), (7, .int x7)]) C.1.1 C.1.2.1 dX5_isWord_136 hl (by decide) rfl (fun ls hl => ?_)
              refine lv_iinc (v := (x7 + 1)) (lv' := [(7, .int (x7 + 1)), (6, .int (0 : Int32)), (8, .int x1), (0, .ref (zr G 44)), (1, .int x1), (2, .int x2), (3, .int x3), (4, .int x4), (5, .int x5)]) C.1.1 C.1.2.1 dX5_isWord_138 hl (k := 8) rfl rfl (by decide) rfl (fun ls hl => ?_)
              refine lv_goto (tgt := 32) C.1.1 C.1.2.1 dX5_isWord_141 (by decide) ?_
              exact ih mem x1 x2 x3 x4 x5 (0 : Int32) (x7 + 1) _ _ _ Z (lv_sub hl [3, 4, 5, 6, 7, 8, 1, 0] rfl) hf
            · replace hf := (if_pos h527).symm.trans hf
              refine lv_iconst (v := (1 : Int32)) C.1.1 C.1.2.1 dX5_isWord_118 (by decide) ?_
              refine lv_goto (tgt := 136) C.1.1 C.1.2.1 dX5_isWord_119 (by decide) ?_
              refine lv_istore (lv' := [(6, .int (1 : Int32)), (8, .int x1), (0, .ref (zr G 44)), (1, .int x1), (2, .int x2), (3, .int x3), (4, .int x4), (5, .int x5), (7, .int x7)]) C.1.1 C.1.2.1 dX5_isWord_136 hl (by decide) rfl (fun ls hl => ?_)
              refine lv_iinc (v := (x7 + 1)) (lv' := [(7, .int (x7 + 1)), (6, .int (1 : Int32)), (8, .int x1), (0, .ref (zr G 44)), (1, .int x1), (2, .int x2), (3, .int x3), (4, .int x4), (5, .int x5)]) C.1.1 C.1.2.1 dX5_isWord_138 hl (k := 8) rfl rfl (by decide) rfl (fun ls hl => ?_)
              refine lv_goto (tgt := 32) C.1.1 C.1.2.1 dX5_isWord_141 (by decide) ?_
              exact ih mem x1 x2 x3 x4 x5 (1 : Int32) (x7 + 1) _ _ _ Z (lv_sub hl [3, 4, 5, 6, 7, 8, 1, 0] rfl) hf
set_option maxHeartbeats 4000000 in
set_option maxRecDepth 100000 in
theorem K_X5_isWord_27 {p : Program} {l : Launch} {e : Env} {s : State} {m : MethodId} {args : Array Value} {below : List Frame} {meth : Method} {c : Code} {G : zG} (C : zC (zAd G) G p s m args c cX5_isWord 9 RX5) (hr : meth.sig.returnType = (some .boolean)) (hlk : meth.locks = false) {r : Int32} {mem' : zMem} (N : Nat) (mem : zMem) (x1 : Int32) (x2 : Int32) (x3 : Int32) (x4 : Int32) (x5 : Int32) (s0 : Int32) (H : Heap) (locs : List Loc) (ls : Array Slot) (Z : zH (zAd G) G s mem H locs) (hl : lv_has ls 9 [(0, .ref (zr G 44)), (1, .int x1), (2, .int x2), (3, .int x3), (4, .int x4), (5, .int x5)]) (hf : f_X5_isWord_27 N mem x1 x2 x3 x4 x5 s0 = some (r, mem')) : W p l e ({ frames := 0, cells := 0, slots := 0, locals := 0 } : Room) s m args below meth c H locs 0 0 (MQ below (zQi G r mem') args s 0 0 (zAd G)) (F0 m 27 ls [.int s0]) := by
  unfold f_X5_isWord_27 at hf
  refine lv_istore (lv' := [(6, .int s0), (0, .ref (zr G 44)), (1, .int x1), (2, .int x2), (3, .int x3), (4, .int x4), (5, .int x5)]) C.1.1 C.1.2.1 dX5_isWord_27 hl (by decide) rfl (fun ls hl => ?_)
  refine lv_iconst (v := (0 : Int32)) C.1.1 C.1.2.1 dX5_isWord_29 (by decide) ?_
  refine lv_istore (lv' := [(7, .int (0 : Int32)), (6, .int s0), (0, .ref (zr G 44)), (1, .int x1), (2, .int x2), (3, .int x3), (4, .int x4), (5, .int x5)]) C.1.1 C.1.2.1 dX5_isWord_30 hl (by decide) rfl (fun ls hl => ?_)
  exact K_X5_isWord_32 (l := l) (e := e) (below := below) C hr hlk N N mem x1 x2 x3 x4 x5 s0 (0 : Int32) _ _ _ Z (lv_sub hl [2, 3, 4, 5, 6, 7, 1, 0] rfl) hf
set_option maxHeartbeats 4000000 in
set_option maxRecDepth 100000 in
theorem K_X5_isWord_26 {p : Program} {l : Launch} {e : Env} {s : State} {m : MethodId} {args : Array Value} {below : List Frame} {meth : Method} {c : Code} {G : zG} (C : zC (zAd G) G p s m args c cX5_isWord 9 RX5) (hr : meth.sig.returnType = (some .boolean)) (hlk : meth.locks = false) {r : Int32} {mem' : zMem} (N : Nat) (mem : zMem) (x1 : Int32) (x2 : Int32) (x3 : Int32) (x4 : Int32) (x5 : Int32) (H : Heap) (locs : List Loc) (ls : Array Slot) (Z : zH (zAd G) G s mem H locs) (hl : lv_has ls 9 [(0, .ref (zr G 44)), (1, .int x1), (2, .int x2), (3, .int x3), (4, .int x4), (5, .int x5)]) (hf : f_X5_isWord_26 N mem x1 x2 x3 x4 x5 = some (r, mem')) : W p l e ({ frames := 0, cells := 0, slots := 0, locals := 0 } : Room) s m args below meth c H locs 0 0 (MQ below (zQi G r mem') args s 0 0 (zAd G)) (F0 m 26 ls []) := by
  unfold f_X5_isWord_26 at hf
  refine lv_iconst (v := (0 : Int32)) C.1.1 C.1.2.1 dX5_isWord_26 (by decide) ?_
  exact K_X5_isWord_27 (l := l) (e := e) (below := below) C hr hlk N mem x1 x2 x3 x4 x5 (0 : Int32) _ _ _ Z (lv_sub hl [0, 1, 2, 3, 4, 5] rfl) hf
set_option maxHeartbeats 4000000 in
set_option maxRecDepth 100000 in
theorem M_X5_isWord (l : Launch) (G : zG) (hG : zOK G) (N : Nat) (mem : zMem) (a1 : Int32) (a2 : Int32) (a3 : Int32) (a4 : Int32) (a5 : Int32) (r : Int32) (mem' : zMem) (hf : f_X5_isWord N mem a1 a2 a3 a4 a5 = some (r, mem')) : zM l G yX5_isWord cX5_isWord 9 (some .boolean) 0 0 [.ref (zr G 44), .int a1, .int a2, .int a3, .int a4, .int a5] mem (zQi G r mem') := by
  refine zStart hG (by decide +kernel) (Nat.le_of_ble_eq_true rfl) (fun p e s m below meth c C hr hlk ls hl Z => ?_)
  have hl : lv_has ls 9 [(0, .ref (zr G 44)), (1, .int a1), (2, .int a2), (3, .int a3), (4, .int a4), (5, .int a5)] := hl
  have C : zC (zAd G) G p s m _ c cX5_isWord 9 RX5 := C
  unfold f_X5_isWord at hf
  refine lv_aload_n C.1.1 C.1.2.1 dX5_isWord_0 rfl (lv_at hl 0 rfl) ?_
  refine zg_X5_69 C Z dX5_isWord_1 ?_
  refine lv_iconst (v := (1 : Int32)) C.1.1 C.1.2.1 dX5_isWord_4 (by decide) ?_
  refine lv_icmp_ne (tgt := 26) C.1.1 C.1.2.1 dX5_isWord_5 (by decide) (fun h528 => ?_) (fun h528 => ?_)
  · replace hf := (if_neg h528).symm.trans hf
    exact K_X5_isWord_26 (l := l) (e := e) (below := below) C hr hlk N mem a1 a2 a3 a4 a5 _ _ _ Z (lv_sub hl [0, 1, 2, 3, 4, 5] rfl) hf
  · replace hf := (if_pos h528).symm.trans hf
    refine lv_aload_n C.1.1 C.1.2.1 dX5_isWord_8 rfl (lv_at hl 0 rfl) ?_
    refine zg_X5_52 C Z dX5_isWord_9 ?_
    refine lv_aload_n C.1.1 C.1.2.1 dX5_isWord_12 rfl (lv_at hl 0 rfl) ?_
    refine zg_X5_59 C Z dX5_isWord_13 ?_
    refine lv_isub C.1.1 C.1.2.1 dX5_isWord_16 ?_
    refine lv_bipush (v := (6 : Int32)) C.1.1 C.1.2.1 dX5_isWord_17 (by decide) ?_
    refine lv_icmp_ge (tgt := 26) C.1.1 C.1.2.1 dX5_isWord_19 (by decide) (fun h529 => ?_) (fun h529 => ?_)
    · replace hf := (if_pos h529).symm.trans hf
      exact K_X5_isWord_26 (l := l) (e := e) (below := below) C hr hlk N mem a1 a2 a3 a4 a5 _ _ _ Z (lv_sub hl [0, 1, 2, 3, 4, 5] rfl) hf
    · replace hf := (if_neg h529).symm.trans hf
      refine lv_iconst (v := (1 : Int32)) C.1.1 C.1.2.1 dX5_isWord_22 (by decide) ?_
      refine lv_goto (tgt := 27) C.1.1 C.1.2.1 dX5_isWord_23 (by decide) ?_
      exact K_X5_isWord_27 (l := l) (e := e) (below := below) C hr hlk N mem a1 a2 a3 a4 a5 (1 : Int32) _ _ _ Z (lv_sub hl [0, 1, 2, 3, 4, 5] rfl) hf
set_option maxHeartbeats 4000000 in
set_option maxRecDepth 100000 in
theorem M_X5_number (l : Launch) (G : zG) (hG : zOK G) (N : Nat) (mem : zMem) (a1 : Int32) (a2 : Int32) (a3 : Int32) (r : Int32) (mem' : zMem) (hf : f_X5_number N mem a1 a2 a3 = some (r, mem')) : zM l G yX5_number cX5_number 4 (some .boolean) 3 63 [.ref (zr G 44), .int a1, .int a2, .int a3] mem (zQi G r mem') := by
  refine zStart hG (by decide +kernel) (Nat.le_of_ble_eq_true rfl) (fun p e s m below meth c C hr hlk ls hl Z => ?_)
  have hl : lv_has ls 4 [(0, .ref (zr G 44)), (1, .int a1), (2, .int a2), (3, .int a3)] := hl
  have C : zC (zAd G) G p s m _ c cX5_number 4 RX5 := C
  unfold f_X5_number at hf
  refine lv_aload_n C.1.1 C.1.2.1 dX5_number_0 rfl (lv_at hl 0 rfl) ?_
  obtain ⟨r530, mem530, hc530, hf⟩ := zb_some hf
  refine z_callVv (k := 44) (As := []) (rest := []) C Z (M_X5_token l G C.2.1 N mem r530 mem530 hc530) (zcw_X5_75 C.1.2.2.2.2 ⟨Nat.le_of_ble_eq_true rfl, Nat.le_of_ble_eq_true rfl⟩) (by decide) rfl rfl rfl hl.1 rfl (Nat.le_of_ble_eq_true rfl) ⟨Nat.le_refl 0, Nat.le_refl 0⟩ dX5_number_1 (fun H locs Z => ?_)
  refine lv_aload_n C.1.1 C.1.2.1 dX5_number_4 rfl (lv_at hl 0 rfl) ?_
  refine zg_X5_16 C Z dX5_number_5 ?_
  refine lv_iload_n C.1.1 C.1.2.1 dX5_number_8 rfl (lv_at hl 1 rfl) ?_
  refine lv_aload_n C.1.1 C.1.2.1 dX5_number_9 rfl (lv_at hl 0 rfl) ?_
  refine zg_X5_72 C Z dX5_number_10 ?_
  obtain ⟨hi531, hf⟩ := zgd_some hf
  refine z_iast (k := 47) C Z (by decide) (fun _ => rfl) hi531 dX5_number_13 (fun H locs Z => ?_)
  obtain ⟨mem532, hm532, hf⟩ := zlet_some hf
  rw [← hm532] at Z
  refine lv_aload_n C.1.1 C.1.2.1 dX5_number_14 rfl (lv_at hl 0 rfl) ?_
  refine zg_X5_69 C Z dX5_number_15 ?_
  refine lv_iconst (v := (2 : Int32)) C.1.1 C.1.2.1 dX5_number_18 (by decide) ?_
  refine lv_icmp_ne (tgt := 38) C.1.1 C.1.2.1 dX5_number_19 (by decide) (fun h533 => ?_) (fun h533 => ?_)
  · replace hf := (if_neg h533).symm.trans hf
    refine lv_iconst (v := (0 : Int32)) C.1.1 C.1.2.1 dX5_number_38 (by decide) ?_
    cases hf
    exact z_zret C Z hr hlk (by decide) dX5_number_39
  · replace hf := (if_pos h533).symm.trans hf
    refine lv_aload_n C.1.1 C.1.2.1 dX5_number_22 rfl (lv_at hl 0 rfl) ?_
    refine zg_X5_72 C Z dX5_number_23 ?_
    refine lv_iload_n C.1.1 C.1.2.1 dX5_number_26 rfl (lv_at hl 2 rfl) ?_
    refine lv_iload_n C.1.1 C.1.2.1 dX5_number_27 rfl (lv_at hl 3 rfl) ?_
    obtain ⟨r534, mem534, hc534, hf⟩ := zb_some hf
    refine z_callSi (As := [.int (mem532 44 16), .int a2, .int a3]) (rest := []) C Z (M_X5_in l G C.2.1 N mem532 (mem532 44 16) a2 a3 r534 mem534 hc534) (zcw_X5_44 C.1.2.2.2.2 ⟨Nat.le_of_ble_eq_true rfl, Nat.le_of_ble_eq_true rfl⟩) rfl hl.1 rfl (Nat.le_of_ble_eq_true rfl) ⟨Nat.le_refl 0, Nat.le_refl 0⟩ dX5_number_28 (fun H locs Z => ?_)
    refine lv_if_eq (tgt := 38) C.1.1 C.1.2.1 dX5_number_31 (by decide) (fun h535 => ?_) (fun h535 => ?_)
    · replace hf := (if_pos h535).symm.trans hf
      refine lv_iconst (v := (0 : Int32)) C.1.1 C.1.2.1 dX5_number_38 (by decide) ?_
      cases hf
      exact z_zret C Z hr hlk (by decide) dX5_number_39
    · replace hf := (if_neg h535).symm.trans hf
      refine lv_iconst (v := (1 : Int32)) C.1.1 C.1.2.1 dX5_number_34 (by decide) ?_
      refine lv_goto (tgt := 39) C.1.1 C.1.2.1 dX5_number_35 (by decide) ?_
      cases hf
      exact z_zret C Z hr hlk (by decide) dX5_number_39
set_option maxHeartbeats 4000000 in
set_option maxRecDepth 100000 in
theorem K_X5_forgets_2 {p : Program} {l : Launch} {e : Env} {s : State} {m : MethodId} {args : Array Value} {below : List Frame} {meth : Method} {c : Code} {G : zG} (C : zC (zAd G) G p s m args c cX5_forgets 2 RX5) (hr : meth.sig.returnType = none) (hlk : meth.locks = false) {r : Unit} {mem' : zMem} (N : Nat) : ∀ (n : Nat) (mem : zMem) (x1 : Int32) (H : Heap) (locs : List Loc) (ls : Array Slot), zH (zAd G) G s mem H locs → lv_has ls 2 [(0, .ref (zr G 44)), (1, .int x1)] → f_X5_forgets_2 N n mem x1 = some (r, mem') → W p l e ({ frames := 0, cells := 0, slots := 0, locals := 0 } : Room) s m args below meth c H locs 0 0 (MQ below (zQv G mem') args s 0 0 (zAd G)) (F0 m 2 ls []) := by
  intro n
  induction n with
  | zero =>
    intro mem x1 H locs ls Z hl hf
    rw [f_X5_forgets_2.eq_1] at hf
    cases hf
  | succ n ih =>
    intro mem x1 H locs ls Z hl hf
    rw [f_X5_forgets_2.eq_2] at hf
    refine lv_iload_n C.1.1 C.1.2.1 dX5_forgets_2 rfl (lv_at hl 1 rfl) ?_
    refine lv_bipush (v := (35 : Int32)) C.1.1 C.1.2.1 dX5_forgets_3 (by decide) ?_
    refine lv_icmp_ge (tgt := 21) C.1.1 C.1.2.1 dX5_forgets_5 (by decide) (fun h536 => ?_) (fun h536 => ?_)
    · replace hf := (if_pos h536).symm.trans hf
      refine lv_aload_n C.1.1 C.1.2.1 dX5_forgets_21 rfl (lv_at hl 0 rfl) ?_
      refine zg_X5_16 C Z dX5_forgets_22 ?_
      refine lv_iconst (v := (3 : Int32)) C.1.1 C.1.2.1 dX5_forgets_25 (by decide) ?_
      refine lv_iconst (v := (1 : Int32)) C.1.1 C.1.2.1 dX5_forgets_26 (by decide) ?_
      refine z_iast (k := 47) C Z (by decide) (fun _ => rfl) (by decide) dX5_forgets_27 (fun H locs Z => ?_)
      obtain ⟨mem537, hm537, hf⟩ := zlet_some hf
      rw [← hm537] at Z
      cases hf
      exact z_vret C Z hr hlk dX5_forgets_28
    · replace hf := (if_neg h536).symm.trans hf
      refine lv_aload_n C.1.1 C.1.2.1 dX5_forgets_8 rfl (lv_at hl 0 rfl) ?_
      refine zg_X5_16 C Z dX5_forgets_9 ?_
      refine lv_iload_n C.1.1 C.1.2.1 dX5_forgets_12 rfl (lv_at hl 1 rfl) ?_
      refine lv_iconst (v := (0 : Int32)) C.1.1 C.1.2.1 dX5_forgets_13 (by decide) ?_
      obtain ⟨hi538, hf⟩ := zgd_some hf
      refine z_iast (k := 47) C Z (by decide) (fun _ => rfl) hi538 dX5_forgets_14 (fun H locs Z => ?_)
      obtain ⟨mem539, hm539, hf⟩ := zlet_some hf
      rw [← hm539] at Z
      refine lv_iinc (v := (x1 + 1)) (lv' := [(1, .int (x1 + 1)), (0, .ref (zr G 44))]) C.1.1 C.1.2.1 dX5_forgets_15 hl (k := 1) rfl rfl (by decide) rfl (fun ls hl => ?_)
      refine lv_goto (tgt := 2) C.1.1 C.1.2.1 dX5_forgets_18 (by decide) ?_
      exact ih mem539 (x1 + 1) _ _ _ Z (lv_sub hl [1, 0] rfl) hf
set_option maxHeartbeats 4000000 in
set_option maxRecDepth 100000 in
theorem M_X5_forgets (l : Launch) (G : zG) (hG : zOK G) (N : Nat) (mem : zMem) (r : Unit) (mem' : zMem) (hf : f_X5_forgets N mem = some (r, mem')) : zM l G yX5_forgets cX5_forgets 2 none 0 0 [.ref (zr G 44)] mem (zQv G mem') := by
  refine zStart hG (by decide +kernel) (Nat.le_of_ble_eq_true rfl) (fun p e s m below meth c C hr hlk ls hl Z => ?_)
  have hl : lv_has ls 2 [(0, .ref (zr G 44))] := hl
  have C : zC (zAd G) G p s m _ c cX5_forgets 2 RX5 := C
  unfold f_X5_forgets at hf
  refine lv_iconst (v := (0 : Int32)) C.1.1 C.1.2.1 dX5_forgets_0 (by decide) ?_
  refine lv_istore_n (lv' := [(1, .int (0 : Int32)), (0, .ref (zr G 44))]) C.1.1 C.1.2.1 dX5_forgets_1 rfl hl (by decide) rfl (fun ls hl => ?_)
  exact K_X5_forgets_2 (l := l) (e := e) (below := below) C hr hlk N N mem (0 : Int32) _ _ _ Z (lv_sub hl [1, 0] rfl) hf
