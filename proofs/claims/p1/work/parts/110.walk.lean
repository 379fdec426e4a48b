set_option maxHeartbeats 4000000 in
set_option maxRecDepth 100000 in
theorem K_X5_confessed_212 {p : Program} {l : Launch} {e : Env} {s : State} {m : MethodId} {args : Array Value} {below : List Frame} {meth : Method} {c : Code} {G : zG} (C : zC (zAd G) G p s m args c cX5_confessed 10 RX5) (hr : meth.sig.returnType = (some .int)) (hlk : meth.locks = false) {r : Int32} {mem' : zMem} (N : Nat) : ∀ (n : Nat) (mem : zMem) (x2 : Int32) (x3 : Int32) (x4 : Int32) (x5 : Int32) (x6 : Int32) (H : Heap) (locs : List Loc) (ls : Array Slot), zH (zAd G) G s mem H locs → lv_has ls 10 [(2, .int x2), (3, .int x3), (4, .int x4), (5, .int x5), (6, .int x6)] → f_X5_confessed_212 N n mem x2 x3 x4 x5 x6 = some (r, mem') → W p l e ({ frames := 4, cells := 0, slots := 0, locals := 88 } : Room) s m args below meth c H locs 0 0 (MQ below (zQi G r mem') args s 0 0 (zAd G)) (F0 m 212 ls []) := by
  intro n
  induction n with
  | zero =>
    intro mem x2 x3 x4 x5 x6 H locs ls Z hl hf
    rw [f_X5_confessed_212.eq_1] at hf
    cases hf
  | succ n ih =>
    intro mem x2 x3 x4 x5 x6 H locs ls Z hl hf
    rw [f_X5_confessed_212.eq_2] at hf
    refine lv_iload C.1.1 C.1.2.1 dX5_confessed_212 (lv_at hl 4 rfl) ?_
    refine lv_if_le (tgt := 235) C.1.1 C.1.2.1 dX5_confessed_214 (by decide) (fun h879 => ?_) (fun h879 => ?_)
    · replace hf := (if_pos h879).symm.trans hf
      refine lv_iload_n C.1.1 C.1.2.1 dX5_confessed_235 rfl (lv_at hl 0 rfl) ?_
      refine lv_if_ne (tgt := 246) C.1.1 C.1.2.1 dX5_confessed_236 (by decide) (fun h880 => ?_) (fun h880 => ?_)
      · replace hf := (if_neg h880).symm.trans hf
        refine lv_iload C.1.1 C.1.2.1 dX5_confessed_246 (lv_at hl 2 rfl) ?_
        refine lv_iload C.1.1 C.1.2.1 dX5_confessed_248 (lv_at hl 3 rfl) ?_
        obtain ⟨hz881, hf⟩ := zgd_some hf
        refine lv_idiv C.1.1 C.1.2.1 dX5_confessed_250 (znz_ne hz881) ?_
        cases hf
        exact z_iret C Z hr hlk dX5_confessed_251
      · replace hf := (if_pos h880).symm.trans hf
        refine lv_iload_n C.1.1 C.1.2.1 dX5_confessed_239 rfl (lv_at hl 1 rfl) ?_
        refine lv_iload C.1.1 C.1.2.1 dX5_confessed_240 (lv_at hl 3 rfl) ?_
        obtain ⟨hz882, hf⟩ := zgd_some hf
        refine lv_idiv C.1.1 C.1.2.1 dX5_confessed_242 (znz_ne hz882) ?_
        refine lv_goto (tgt := 251) C.1.1 C.1.2.1 dX5_confessed_243 (by decide) ?_
        cases hf
        exact z_iret C Z hr hlk dX5_confessed_251
    · replace hf := (if_neg h879).symm.trans hf
      refine lv_iload C.1.1 C.1.2.1 dX5_confessed_217 (lv_at hl 3 rfl) ?_
      refine lv_iload C.1.1 C.1.2.1 dX5_confessed_219 (lv_at hl 4 rfl) ?_
      obtain ⟨hz883, hf⟩ := zgd_some hf
      refine lv_irem C.1.1 C.1.2.1 dX5_confessed_221 (znz_ne hz883) ?_
      refine lv_istore (lv' := [(7, .int (x5 - x5 / x6 * x6)), (2, .int x2), (3, .int x3), (4, .int x4), (5, .int x5), (6, .int x6)]) C.1.1 C.1.2.1 dX5_confessed_222 hl (by decide) rfl (fun ls hl => ?_)
      refine lv_iload C.1.1 C.1.2.1 dX5_confessed_224 (lv_at hl 5 rfl) ?_
      refine lv_istore (lv' := [(5, .int x6), (7, .int (x5 - x5 / x6 * x6)), (2, .int x2), (3, .int x3), (4, .int x4), (6, .int x6)]) C.1.1 C.1.2.1 dX5_confessed_226 hl (by decide) rfl (fun ls hl => ?_)
      refine lv_iload C.1.1 C.1.2.1 dX5_confessed_228 (lv_at hl 1 rfl) ?_
      refine lv_istore (lv' := [(6, .int (x5 - x5 / x6 * x6)), (5, .int x6), (7, .int (x5 - x5 / x6 * x6)), (2, .int x2), (3, .int x3), (4, .int x4)]) C.1.1 C.1.2.1 dX5_confessed_230 hl (by decide) rfl (fun ls hl => ?_)
      refine lv_goto (tgt := 212) C.1.1 C.1.2.1 dX5_confessed_232 (by decide) ?_
      exact ih mem x2 x3 x4 x6 (x5 - x5 / x6 * x6) _ _ _ Z (lv_sub hl [3, 4, 5, 1, 0] rfl) hf
set_option maxHeartbeats 4000000 in
set_option maxRecDepth 100000 in
theorem K_X5_confessed_79 {p : Program} {l : Launch} {e : Env} {s : State} {m : MethodId} {args : Array Value} {below : List Frame} {meth : Method} {c : Code} {G : zG} (C : zC (zAd G) G p s m args c cX5_confessed 10 RX5) (hr : meth.sig.returnType = (some .int)) (hlk : meth.locks = false) {r : Int32} {mem' : zMem} (N : Nat) (k : zMem → Int32 → Int32 → Int32 → Int32 → Int32 → Int32 → Int32 → Option (Int32 × zMem)) (hk : ∀ (mem : zMem) (x1 : Int32) (x2 : Int32) (x3 : Int32) (x4 : Int32) (x5 : Int32) (x6 : Int32) (x7 : Int32) (H : Heap) (locs : List Loc) (ls : Array Slot), zH (zAd G) G s mem H locs → lv_has ls 10 [(0, .ref (zr G 44)), (1, .int x1), (2, .int x2), (3, .int x3), (4, .int x4), (5, .int x5), (6, .int x6), (7, .int x7)] → k mem x1 x2 x3 x4 x5 x6 x7 = some (r, mem') → W p l e ({ frames := 4, cells := 0, slots := 0, locals := 88 } : Room) s m args below meth c H locs 0 0 (MQ below (zQi G r mem') args s 0 0 (zAd G)) (F0 m 153 ls [])) : ∀ (n : Nat) (mem : zMem) (x1 : Int32) (x2 : Int32) (x3 : Int32) (x4 : Int32) (x5 : Int32) (x6 : Int32) (x7 : Int32) (x8 : Int32) (H : Heap) (locs : List Loc) (ls : Array Slot), zH (zAd G) G s mem H locs → lv_has ls 10 [(0, .ref (zr G 44)), (1, .int x1), (2, .int x2), (3, .int x3), (4, .int x4), (5, .int x5), (6, .int x6), (7, .int x7), (8, .int x8)] → f_X5_confessed_79 k N n mem x1 x2 x3 x4 x5 x6 x7 x8 = some (r, mem') → W p l e ({ frames := 4, cells := 0, slots := 0, locals := 88 } : Room) s m args below meth c H locs 0 0 (MQ below (zQi G r mem') args s 0 0 (zAd G)) (F0 m 79 ls []) := by
  intro n
  induction n with
  | zero =>
    intro mem x1 x2 x3 x4 x5 x6 x7 x8 H locs ls Z hl hf
    rw [f_X5_confessed_79.eq_1] at hf
    cases hf
  | succ n ih =>
    intro mem x1 x2 x3 x4 x5 x6 x7 x8 H locs ls Z hl hf
    rw [f_X5_confessed_79.eq_2] at hf
    refine lv_iload C.1.1 C.1.2.1 dX5_confessed_79 (lv_at hl 8 rfl) ?_
    refine lv_aload_n C.1.1 C.1.2.1 dX5_confessed_81 rfl (lv_at hl 0 rfl) ?_
    refine zg_X5_13 C Z dX5_confessed_82 ?_
    refine lv_iconst (v := (1 : Int32)) C.1.1 C.1.2.1 dX5_confessed_85 (by decide) ?_
    refine z_iald (k := 46) C Z (by decide) rfl (by decide) dX5_confessed_86 ?_
    refine lv_icmp_ge (tgt := 153) C.1.1 C.1.2.1 dX5_confessed_87 (by decide) (fun h884 => ?_) (fun h884 => ?_)
    · replace hf := (if_pos h884).symm.trans hf
      exact hk mem x1 x2 x3 x4 x5 x6 x7 _ _ _ Z (lv_sub hl [0, 1, 2, 3, 4, 5, 6, 7] rfl) hf
    · replace hf := (if_neg h884).symm.trans hf
      refine lv_iload C.1.1 C.1.2.1 dX5_confessed_90 (lv_at hl 5 rfl) ?_
      refine lv_iload C.1.1 C.1.2.1 dX5_confessed_92 (lv_at hl 8 rfl) ?_
      refine lv_ishr C.1.1 C.1.2.1 dX5_confessed_94 ?_
      refine lv_iconst (v := (1 : Int32)) C.1.1 C.1.2.1 dX5_confessed_95 (by decide) ?_
      refine lv_iand C.1.1 C.1.2.1 dX5_confessed_96 ?_
      refine lv_iconst (v := (1 : Int32)) C.1.1 C.1.2.1 dX5_confessed_97 (by decide) ?_
      refine lv_icmp_ne (tgt := 105) C.1.1 C.1.2.1 dX5_confessed_98 (by decide) (fun h885 => ?_) (fun h885 => ?_)
      · replace hf := (if_neg h885).symm.trans hf
        refine lv_iconst (v := (0 : Int32)) C.1.1 C.1.2.1 dX5_confessed_105 (by decide) ?_
        refine lv_istore (lv' := [(9, .int (0 : Int32)), (0, .ref (zr G 44)), (1, .int x1), (2, .int x2), (3, .int x3), (4, .int x4), (5, .int x5), (6, .int x6), (7, .int x7), (8, .int x8)]) C.1.1 C.1.2.1 dX5_confessed_106 hl (by decide) rfl (fun ls hl => ?_)
        refine lv_iload C.1.1 C.1.2.1 dX5_confessed_108 (lv_at hl 7 rfl) ?_
        refine lv_iload C.1.1 C.1.2.1 dX5_confessed_110 (lv_at hl 0 rfl) ?_
        refine lv_if_eq (tgt := 119) C.1.1 C.1.2.1 dX5_confessed_112 (by decide) (fun h886 => ?_) (fun h886 => ?_)
        · replace hf := (if_pos h886).symm.trans hf
          refine lv_bipush (v := (10 : Int32)) C.1.1 C.1.2.1 dX5_confessed_119 (by decide) ?_
          refine lv_iload_n C.1.1 C.1.2.1 dX5_confessed_121 rfl (lv_at hl 2 rfl) ?_
          refine lv_isub C.1.1 C.1.2.1 dX5_confessed_122 ?_
          refine lv_imul C.1.1 C.1.2.1 dX5_confessed_123 ?_
          refine lv_istore (lv' := [(6, .int (x6 * ((10 : Int32) - x1))), (9, .int (0 : Int32)), (0, .ref (zr G 44)), (1, .int x1), (2, .int x2), (3, .int x3), (4, .int x4), (5, .int x5), (7, .int x7), (8, .int x8)]) C.1.1 C.1.2.1 dX5_confessed_124 hl (by decide) rfl (fun ls hl => ?_)
          refine lv_iload C.1.1 C.1.2.1 dX5_confessed_126 (lv_at hl 8 rfl) ?_
          refine lv_iload C.1.1 C.1.2.1 dX5_confessed_128 (lv_at hl 1 rfl) ?_
          refine lv_if_eq (tgt := 137) C.1.1 C.1.2.1 dX5_confessed_130 (by decide) (fun h887 => ?_) (fun h887 => ?_)
          · replace hf := (if_pos h887).symm.trans hf
            refine lv_aload_n C.1.1 C.1.2.1 dX5_confessed_137 rfl (lv_at hl 2 rfl) ?_
            refine zg_X5_19 C Z dX5_confessed_138 ?_
            refine lv_iload C.1.1 C.1.2.1 dX5_confessed_141 (lv_at hl 9 rfl) ?_
            obtain ⟨hi888, hf⟩ := zgd_some hf
            refine z_iald (k := 48) C Z (by decide) rfl hi888 dX5_confessed_143 ?_
            refine lv_iadd C.1.1 C.1.2.1 dX5_confessed_144 ?_
            refine lv_istore (lv' := [(7, .int (x7 + (mem 48 x8.toNatClampNeg))), (6, .int (x6 * ((10 : Int32) - x1))), (9, .int (0 : Int32)), (0, .ref (zr G 44)), (1, .int x1), (2, .int x2), (3, .int x3), (4, .int x4), (5, .int x5), (8, .int x8)]) C.1.1 C.1.2.1 dX5_confessed_145 hl (by decide) rfl (fun ls hl => ?_)
            refine lv_iinc (v := (x8 + 1)) (lv' := [(8, .int (x8 + 1)), (7, .int (x7 + (mem 48 x8.toNatClampNeg))), (6, .int (x6 * ((10 : Int32) - x1))), (9, .int (0 : Int32)), (0, .ref (zr G 44)), (1, .int x1), (2, .int x2), (3, .int x3), (4, .int x4), (5, .int x5)]) C.1.1 C.1.2.1 dX5_confessed_147 hl (k := 9) rfl rfl (by decide) rfl (fun ls hl => ?_)
            refine lv_goto (tgt := 79) C.1.1 C.1.2.1 dX5_confessed_150 (by decide) ?_
            exact ih mem x1 x2 x3 x4 x5 (x6 * ((10 : Int32) - x1)) (x7 + (mem 48 x8.toNatClampNeg)) (x8 + 1) _ _ _ Z (lv_sub hl [4, 5, 6, 7, 8, 9, 2, 1, 0] rfl) hf
          · replace hf := (if_neg h887).symm.trans hf
            refine lv_iconst (v := (0 : Int32)) C.1.1 C.1.2.1 dX5_confessed_133 (by decide) ?_
            refine lv_goto (tgt := 144) C.1.1 C.1.2.1 dX5_confessed_134 (by decide) ?_
            refine lv_iadd C.1.1 C.1.2.1 dX5_confessed_144 ?_
            refine lv_istore (lv' := [(7, .int (x7 + (0 : Int32))), (6, .int (x6 * ((10 : Int32) - x1))), (9, .int (0 : Int32)), (0, .ref (zr G 44)), (1, .int x1), (2, .int x2), (3, .int x3), (4, .int x4), (5, .int x5), (8, .int x8)]) C.1.1 C.1.2.1 dX5_confessed_145 hl (by decide) rfl (fun ls hl => ?_)
            refine lv_iinc (v := (x8 + 1)) (lv' := [(8, .int (x8 + 1)), (7, .int (x7 + (0 : Int32))), (6, .int (x6 * ((10 : Int32) - x1))), (9, .int (0 : Int32)), (0, .ref (zr G 44)), (1, .int x1), (2, .int x2), (3, .int x3), (4, .int x4), (5, .int x5)]) C.1.1 C.1.2.1 dX5_confessed_147 hl (k := 9) rfl rfl (by decide) rfl (fun ls hl => ?_)
            refine lv_goto (tgt := 79) C.1.1 C.1.2.1 dX5_confessed_150 (by decide) ?_
            exact ih mem x1 x2 x3 x4 x5 (x6 * ((10 : Int32) - x1)) (x7 + (0 : Int32)) (x8 + 1) _ _ _ Z (lv_sub hl [4, 5, 6, 7, 8, 9, 2, 1, 0] rfl) hf
        · replace hf := (if_neg h886).symm.trans hf
          refine lv_iload_n C.1.1 C.1.2.1 dX5_confessed_115 rfl (lv_at hl 2 rfl) ?_
          refine lv_goto (tgt := 123) C.1.1 C.1.2.1 dX5_confessed_116 (by decide) ?_
          refine lv_imul C.1.1 C.1.2.1 dX5_confessed_123 ?_
          refine lv_istore (lv' := [(6, .int (x6 * x1)), (9, .int (0 : Int32)), (0, .ref (zr G 44)), (1, .int x1), (2, .int x2), (3, .int x3), (4, .int x4), (5, .int x5), (7, .int x7), (8, .int x8)]) C.1.1 C.1.2.1 dX5_confessed_124 hl (by decide) rfl (fun ls hl => ?_)
          refine lv_iload C.1.1 C.1.2.1 dX5_confessed_126 (lv_at hl 8 rfl) ?_
          refine lv_iload C.1.1 C.1.2.1 dX5_confessed_128 (lv_at hl 1 rfl) ?_
          refine lv_if_eq (tgt := 137) C.1.1 C.1.2.1 dX5_confessed_130 (by decide) (fun h889 => ?_) (fun h889 => ?_)
          · replace hf := (if_pos h889).symm.trans hf
            refine lv_aload_n C.1.1 C.1.2.1 dX5_confessed_137 rfl (lv_at hl 2 rfl) ?_
            refine zg_X5_19 C Z dX5_confessed_138 ?_
            refine lv_iload C.1.1 C.1.2.1 dX5_confessed_141 (lv_at hl 9 rfl) ?_
            obtain ⟨hi890, hf⟩ := zgd_some hf
            refine z_iald (k := 48) C Z (by decide) rfl hi890 dX5_confessed_143 ?_
            refine lv_iadd C.1.1 C.1.2.1 dX5_confessed_144 ?_
            refine lv_istore (lv' := [(7, .int (x7 + (mem 48 x8.toNatClampNeg))), (6, .int (x6 * x1)), (9, .int (0 : Int32)), (0, .ref (zr G 44)), (1, .int x1), (2, .int x2), (3, .int x3), (4, .int x4), (5, .int x5), (8, .int x8)]) C.1.1 C.1.2.1 dX5_confessed_145 hl (by decide) rfl (fun ls hl => ?_)
            refine lv_iinc (v := (x8 + 1)) (lv' := [(8, .int (x8 + 1)), (7, .int (x7 + (mem 48 x8.toNatClampNeg))), (6, .int (x6 * x1)), (9, .int (0 : Int32)), (0, .ref (zr G 44)), (1, .int x1), (2, .int x2), (3, .int x3), (4, .int x4), (5, .int x5)]) C.1.1 C.1.2.1 dX5_confessed_147 hl (k := 9) rfl rfl (by decide) rfl (fun ls hl => ?_)
            refine lv_goto (tgt := 79) C.1.1 C.1.2.1 dX5_confessed_150 (by decide) ?_
            exact ih mem x1 x2 x3 x4 x5 (x6 * x1) (x7 + (mem 48 x8.toNatClampNeg)) (x8 + 1) _ _ _ Z (lv_sub hl [4, 5, 6, 7, 8, 9, 2, 1, 0] rfl) hf
          · replace hf := (if_neg h889).symm.trans hf
            refine lv_iconst (v := (0 : Int32)) C.1.1 C.1.2.1 dX5_confessed_133 (by decide) ?_
            refine lv_goto (tgt := 144) C.1.1 C.1.2.1 dX5_confessed_134 (by decide) ?_
            refine lv_iadd C.1.1 C.1.2.1 dX5_confessed_144 ?_
            refine lv_istore (lv' := [(7, .int (x7 + (0 : Int32))), (6, .int (x6 * x1)), (9, .int (0 : Int32)), (0, .ref (zr G 44)), (1, .int x1), (2, .int x2), (3, .int x3), (4, .int x4), (5, .int x5), (8, .int x8)]) C.1.1 C.1.2.1 dX5_confessed_145 hl (by decide) rfl (fun ls hl => ?_)
            refine lv_iinc (v := (x8 + 1)) (lv' := [(8, .int (x8 + 1)), (7, .int (x7 + (0 : Int32))), (6, .int (x6 * x1)), (9, .int (0 : Int32)), (0, .ref (zr G 44)), (1, .int x1), (2, .int x2), (3, .int x3), (4, .int x4), (5, .int x5)]) C.1.1 C.1.2.1 dX5_confessed_147 hl (k := 9) rfl rfl (by decide) rfl (fun ls hl => ?_)
            refine lv_goto (tgt := 79) C.1.1 C.1.2.1 dX5_confessed_150 (by decide) ?_
            exact ih mem x1 x2 x3 x4 x5 (x6 * x1) (x7 + (0 : Int32)) (x8 + 1) _ _ _ Z (lv_sub hl [4, 5, 6, 7, 8, 9, 2, 1, 0] rfl) hf
      · replace hf := (if_pos h885).symm.trans hf
        refine lv_iconst (v := (1 : Int32)) C.1.1 C.1.2.1 dX5_confessed_101 (by decide) ?_
        refine lv_goto (tgt := 106) C.1.1 C.1.2.1 dX5_confessed_102 (by decide) ?_
        refine lv_istore (lv' := [(9, .int (1 : Int32)), (0, .ref (zr G 44)), (1, .int x1), (2, .int x2), (3, .int x3), (4, .int x4), (5, .int x5), (6, .int x6), (7, .int x7), (8, .int x8)]) C.1.1 C.1.2.1 dX5_confessed_106 hl (by decide) rfl (fun ls hl => ?_)
        refine lv_iload C.1.1 C.1.2.1 dX5_confessed_108 (lv_at hl 7 rfl) ?_
        refine lv_iload C.1.1 C.1.2.1 dX5_confessed_110 (lv_at hl 0 rfl) ?_
        refine lv_if_eq (tgt := 119) C.1.1 C.1.2.1 dX5_confessed_112 (by decide) (fun h891 => ?_) (fun h891 => ?_)
        · replace hf := (if_pos h891).symm.trans hf
          refine lv_bipush (v := (10 : Int32)) C.1.1 C.1.2.1 dX5_confessed_119 (by decide) ?_
          refine lv_iload_n C.1.1 C.1.2.1 dX5_confessed_121 rfl (lv_at hl 2 rfl) ?_
          refine lv_isub C.1.1 C.1.2.1 dX5_confessed_122 ?_
          refine lv_imul C.1.1 C.1.2.1 dX5_confessed_123 ?_
          refine lv_istore (lv' := [(6, .int (x6 * ((10 : Int32) - x1))), (9, .int (1 : Int32)), (0, .ref (zr G 44)), (1, .int x1), (2, .int x2), (3, .int x3), (4, .int x4), (5, .int x5), (7, .int x7), (8, .int x8)]) C.1.1 C.1.2.1 dX5_confessed_124 hl (by decide) rfl (fun ls hl => ?_)
          refine lv_iload C.1.1 C.1.2.1 dX5_confessed_126 (lv_at hl 8 rfl) ?_
          refine lv_iload C.1.1 C.1.2.1 dX5_confessed_128 (lv_at hl 1 rfl) ?_
          refine lv_if_eq (tgt := 137) C.1.1 C.1.2.1 dX5_confessed_130 (by decide) (fun h892 => ?_) (fun h892 => ?_)
          · replace hf := (if_pos h892).symm.trans hf
            refine lv_aload_n C.1.1 C.1.2.1 dX5_confessed_137 rfl (lv_at hl 2 rfl) ?_
            refine zg_X5_19 C Z dX5_confessed_138 ?_
            refine lv_iload C.1.1 C.1.2.1 dX5_confessed_141 (lv_at hl 9 rfl) ?_
            obtain ⟨hi893, hf⟩ := zgd_some hf
            refine z_iald (k := 48) C Z (by decide) rfl hi893 dX5_confessed_143 ?_
            refine lv_iadd C.1.1 C.1.2.1 dX5_confessed_144 ?_
            refine lv_istore (lv' := [(7, .int (x7 + (mem 48 x8.toNatClampNeg))), (6, .int (x6 * ((10 : Int32) - x1))), (9, .int (1 : Int32)), (0, .ref (zr G 44)), (1, .int x1), (2, .int x2), (3, .int x3), (4, .int x4), (5, .int x5), (8, .int x8)]) C.1.1 C.1.2.1 dX5_confessed_145 hl (by decide) rfl (fun ls hl => ?_)
            refine lv_iinc (v := (x8 + 1)) (lv' := [(8, .int (x8 + 1)), (7, .int (x7 + (mem 48 x8.toNatClampNeg))), (6, .int (x6 * ((10 : Int32) - x1))), (9, .int (1 : Int32)), (0, .ref (zr G 44)), (1, .int x1), (2, .int x2), (3, .int x3), (4, .int x4), (5, .int x5)]) C.1.1 C.1.2.1 dX5_confessed_147 hl (k := 9) rfl rfl (by decide) rfl (fun ls hl => ?_)
            refine lv_goto (tgt := 79) C.1.1 C.1.2.1 dX5_confessed_150 (by decide) ?_
            exact ih mem x1 x2 x3 x4 x5 (x6 * ((10 : Int32) - x1)) (x7 + (mem 48 x8.toNatClampNeg)) (x8 + 1) _ _ _ Z (lv_sub hl [4, 5, 6, 7, 8, 9, 2, 1, 0] rfl) hf
          · replace hf := (if_neg h892).symm.trans hf
            refine lv_iconst (v := (0 : Int32)) C.1.1 C.1.2.1 dX5_confessed_133 (by decide) ?_
            refine lv_goto (tgt := 144) C.1.1 C.1.2.1 dX5_confessed_134 (by decide) ?_
            refine lv_iadd C.1.1 C.1.2.1 dX5_confessed_144 ?_
            refine lv_istore (lv' := [(7, .int (x7 + (0 : Int32))), (6, .int (x6 * ((10 : Int32) - x1))), (9, .int (1 : Int32)), (0, .ref (zr G 44)), (1, .int x1), (2, .int x2), (3, .int x3), (4, .int x4), (5, .int x5), (8, .int x8)]) C.1.1 C.1.2.1 dX5_confessed_145 hl (by decide) rfl (fun ls hl => ?_)
            refine lv_iinc (v := (x8 + 1)) (lv' := [(8, .int (x8 + 1)), (7, .int (x7 + (0 : Int32))), (6, .int (x6 * ((10 : Int32) - x1))), (9, .int (1 : Int32)), (0, .ref (zr G 44)), (1, .int x1), (2, .int x2), (3, .int x3), (4, .int x4), (5, .int x5)]) C.1.1 C.1.2.1 dX5_confessed_147 hl (k := 9) rfl rfl (by decide) rfl (fun ls hl => ?_)
            refine lv_goto (tgt := 79) C.1.1 C.1.2.1 dX5_confessed_150 (by decide) ?_
            exact ih mem x1 x2 x3 x4 x5 (x6 * ((10 : Int32) - x1)) (x7 + (0 : Int32)) (x8 + 1) _ _ _ Z (lv_sub hl [4, 5, 6, 7, 8, 9, 2, 1, 0] rfl) hf
        · replace hf := (if_neg h891).symm.trans hf
          refine lv_iload_n C.1.1 C.1.2.1 dX5_confessed_115 rfl (lv_at hl 2 rfl) ?_
          refine lv_goto (tgt := 123) C.1.1 C.1.2.1 dX5_confessed_116 (by decide) ?_
          refine lv_imul C.1.1 C.1.2.1 dX5_confessed_123 ?_
          refine lv_istore (lv' := [(6, .int (x6 * x1)), (9, .int (1 : Int32)), (0, .ref (zr G 44)), (1, .int x1), (2, .int x2), (3, .int x3), (4, .int x4), (5, .int x5), (7, .int x7), (8, .int x8)]) C.1.1 C.1.2.1 dX5_confessed_124 hl (by decide) rfl (fun ls hl => ?_)
          refine lv_iload C.1.1 C.1.2.1 dX5_confessed_126 (lv_at hl 8 rfl) ?_
          refine lv_iload C.1.1 C.1.2.1 dX5_confessed_128 (lv_at hl 1 rfl) ?_
          refine lv_if_eq (tgt := 137) C.1.1 C.1.2.1 dX5_confessed_130 (by decide) (fun h894 => ?_) (fun h894 => ?_)
          · replace hf := (if_pos h894).symm.trans hf
            refine lv_aload_n C.1.1 C.1.2.1 dX5_confessed_137 rfl (lv_at hl 2 rfl) ?_
            refine zg_X5_19 C Z dX5_confessed_138 ?_
            refine lv_iload C.1.1 C.1.2.1 dX5_confessed_141 (lv_at hl 9 rfl) ?_
            obtain ⟨hi895, hf⟩ := zgd_some hf
            refine z_iald (k := 48) C Z (by decide) rfl hi895 dX5_confessed_143 ?_
            refine lv_iadd C.1.1 C.1.2.1 dX5_confessed_144 ?_
            refine lv_istore (lv' := [(7, .int (x7 + (mem 48 x8.toNatClampNeg))), (6, .int (x6 * x1)), (9, .int (1 : Int32)), (0, .ref (zr G 44)), (1, .int x1), (2, .int x2), (3, .int x3), (4, .int x4), (5, .int x5), (8, .int x8)]) C.1.1 C.1.2.1 dX5_confessed_145 hl (by decide) rfl (fun ls hl => ?_)
            refine lv_iinc (v := (x8 + 1)) (lv' := [(8, .int (x8 + 1)), (7, .int (x7 + (mem 48 x8.toNatClampNeg))), (6, .int (x6 * x1)), (9, .int (1 : Int32)), (0, .ref (zr G 44)), (1, .int x1), (2, .int x2), (3, .int x3), (4, .int x4), (5, .int x5)]) C.1.1 C.1.2.1 dX5_confessed_147 hl (k := 9) rfl rfl (by decide) rfl (fun ls hl => ?_)
            refine lv_goto (tgt := 79) C.1.1 C.1.2.1 dX5_confessed_150 (by decide) ?_
            exact ih mem x1 x2 x3 x4 x5 (x6 * x1) (x7 + (mem 48 x8.toNatClampNeg)) (x8 + 1) _ _ _ Z (lv_sub hl [4, 5, 6, 7, 8, 9, 2, 1, 0] rfl) hf
          · replace hf := (if_neg h894).symm.trans hf
            refine lv_iconst (v := (0 : Int32)) C.1.1 C.1.2.1 dX5_confessed_133 (by decide) ?_
            refine lv_goto (tgt := 144) C.1.1 C.1.2.1 dX5_confessed_134 (by decide) ?_
            refine lv_iadd C.1.1 C.1.2.1 dX5_confessed_144 ?_
            refine lv_istore (lv' := [(7, .int (x7 + (0 : Int32))), (6, .int (x6 * x1)), (9, .int (1 : Int32)), (0, .ref (zr G 44)), (1, .int x1), (2, .int x2), (3, .int x3), (4, .int x4), (5, .int x5), (8, .int x8)]) C.1.1 C.1.2.1 dX5_confessed_145 hl (by decide) rfl (fun ls hl => ?_)
            refine lv_iinc (v := (x8 + 1)) (lv' := [(8, .int (x8 + 1)), (7, .int (x7 + (0 : Int32))), (6, .int (x6 * x1)), (9, .int (1 : Int32)), (0, .ref (zr G 44)), (1, .int x1), (2, .int x2), (3, .int x3), (4, .int x4), (5, .int x5)]) C.1.1 C.1.2.1 dX5_confessed_147 hl (k := 9) rfl rfl (by decide) rfl (fun ls hl => ?_)
            refine lv_goto (tgt := 79) C.1.1 C.1.2.1 dX5_confessed_150 (by decide) ?_
            exact ih mem x1 x2 x3 x4 x5 (x6 * x1) (x7 + (0 : Int32)) (x8 + 1) _ _ _ Z (lv_sub hl [4, 5, 6, 7, 8, 9, 2, 1, 0] rfl) hf
set_option maxHeartbeats 4000000 in
set_option maxRecDepth 100000 in
theorem K_X5_confessed_57 {p : Program} {l : Launch} {e : Env} {s : State} {m : MethodId} {args : Array Value} {below : List Frame} {meth : Method} {c : Code} {G : zG} (C : zC (zAd G) G p s m args c cX5_confessed 10 RX5) (hr : meth.sig.returnType = (some .int)) (hlk : meth.locks = false) {r : Int32} {mem' : zMem} (N : Nat) : ∀ (n : Nat) (mem : zMem) (x1 : Int32) (x2 : Int32) (x3 : Int32) (x4 : Int32) (x5 : Int32) (H : Heap) (locs : List Loc) (ls : Array Slot), zH (zAd G) G s mem H locs → lv_has ls 10 [(0, .ref (zr G 44)), (1, .int x1), (2, .int x2), (3, .int x3), (4, .int x4), (5, .int x5)] → f_X5_confessed_57 N n mem x1 x2 x3 x4 x5 = some (r, mem') → W p l e ({ frames := 4, cells := 0, slots := 0, locals := 88 } : Room) s m args below meth c H locs 0 0 (MQ below (zQi G r mem') args s 0 0 (zAd G)) (F0 m 57 ls []) := by
  intro n
  induction n with
  | zero =>
    intro mem x1 x2 x3 x4 x5 H locs ls Z hl hf
    rw [f_X5_confessed_57.eq_1] at hf
    cases hf
  | succ n ih =>
    intro mem x1 x2 x3 x4 x5 H locs ls Z hl hf
    rw [f_X5_confessed_57.eq_2] at hf
    refine lv_iload C.1.1 C.1.2.1 dX5_confessed_57 (lv_at hl 5 rfl) ?_
    refine lv_iconst (v := (1 : Int32)) C.1.1 C.1.2.1 dX5_confessed_59 (by decide) ?_
    refine lv_aload_n C.1.1 C.1.2.1 dX5_confessed_60 rfl (lv_at hl 0 rfl) ?_
    refine zg_X5_13 C Z dX5_confessed_61 ?_
    refine lv_iconst (v := (1 : Int32)) C.1.1 C.1.2.1 dX5_confessed_64 (by decide) ?_
    refine z_iald (k := 46) C Z (by decide) rfl (by decide) dX5_confessed_65 ?_
    refine lv_ishl C.1.1 C.1.2.1 dX5_confessed_66 ?_
    refine lv_icmp_ge (tgt := 205) C.1.1 C.1.2.1 dX5_confessed_67 (by decide) (fun h896 => ?_) (fun h896 => ?_)
    · replace hf := (if_pos h896).symm.trans hf
      refine lv_iload_n C.1.1 C.1.2.1 dX5_confessed_205 rfl (lv_at hl 3 rfl) ?_
      refine lv_istore (lv' := [(5, .int x3), (0, .ref (zr G 44)), (1, .int x1), (2, .int x2), (3, .int x3), (4, .int x4)]) C.1.1 C.1.2.1 dX5_confessed_206 hl (by decide) rfl (fun ls hl => ?_)
      refine lv_iload C.1.1 C.1.2.1 dX5_confessed_208 (lv_at hl 5 rfl) ?_
      refine lv_istore (lv' := [(6, .int x4), (5, .int x3), (0, .ref (zr G 44)), (1, .int x1), (2, .int x2), (3, .int x3), (4, .int x4)]) C.1.1 C.1.2.1 dX5_confessed_210 hl (by decide) rfl (fun ls hl => ?_)
      exact K_X5_confessed_212 (l := l) (e := e) (below := below) C hr hlk N N mem x2 x3 x4 x3 x4 _ _ _ Z (lv_sub hl [4, 5, 6, 1, 0] rfl) hf
    · replace hf := (if_neg h896).symm.trans hf
      refine lv_iconst (v := (1 : Int32)) C.1.1 C.1.2.1 dX5_confessed_70 (by decide) ?_
      refine lv_istore (lv' := [(6, .int (1 : Int32)), (0, .ref (zr G 44)), (1, .int x1), (2, .int x2), (3, .int x3), (4, .int x4), (5, .int x5)]) C.1.1 C.1.2.1 dX5_confessed_71 hl (by decide) rfl (fun ls hl => ?_)
      refine lv_iconst (v := (0 : Int32)) C.1.1 C.1.2.1 dX5_confessed_73 (by decide) ?_
      refine lv_istore (lv' := [(7, .int (0 : Int32)), (6, .int (1 : Int32)), (0, .ref (zr G 44)), (1, .int x1), (2, .int x2), (3, .int x3), (4, .int x4), (5, .int x5)]) C.1.1 C.1.2.1 dX5_confessed_74 hl (by decide) rfl (fun ls hl => ?_)
      refine lv_iconst (v := (0 : Int32)) C.1.1 C.1.2.1 dX5_confessed_76 (by decide) ?_
      refine lv_istore (lv' := [(8, .int (0 : Int32)), (7, .int (0 : Int32)), (6, .int (1 : Int32)), (0, .ref (zr G 44)), (1, .int x1), (2, .int x2), (3, .int x3), (4, .int x4), (5, .int x5)]) C.1.1 C.1.2.1 dX5_confessed_77 hl (by decide) rfl (fun ls hl => ?_)
      refine K_X5_confessed_79 (l := l) (e := e) (below := below) C hr hlk N _ (fun mem_897 x1_897 x2_897 x3_897 x4_897 x5_897 x6_897 x7_897 H locs ls Z hl hf => ?_) N mem x1 x2 x3 x4 x5 (1 : Int32) (0 : Int32) (0 : Int32) _ _ _ Z (lv_sub hl [3, 4, 5, 6, 7, 8, 2, 1, 0] rfl) hf
      refine lv_iload_n C.1.1 C.1.2.1 dX5_confessed_153 rfl (lv_at hl 3 rfl) ?_
      refine lv_aload_n C.1.1 C.1.2.1 dX5_confessed_154 rfl (lv_at hl 0 rfl) ?_
      refine lv_aload_n C.1.1 C.1.2.1 dX5_confessed_155 rfl (lv_at hl 0 rfl) ?_
      obtain ⟨r898, mem898, hc898, hf⟩ := zb_some hf
      refine z_callVi (k := 44) (As := []) (rest := [.ref (zr G 44), .int x3_897]) C Z (M_X5_sermon l G C.2.1 N mem_897 r898 mem898 hc898) (zcw_X5_119 C.1.2.2.2.2 ⟨Nat.le_of_ble_eq_true rfl, Nat.le_of_ble_eq_true rfl⟩) (by decide) rfl rfl rfl hl.1 rfl (Nat.le_of_ble_eq_true rfl) ⟨Nat.le_refl 0, Nat.le_refl 0⟩ dX5_confessed_156 (fun H locs Z => ?_)
      refine lv_iload C.1.1 C.1.2.1 dX5_confessed_159 (lv_at hl 7 rfl) ?_
      refine lv_aload_n C.1.1 C.1.2.1 dX5_confessed_161 rfl (lv_at hl 0 rfl) ?_
      refine zg_X5_19 C Z dX5_confessed_162 ?_
      refine lv_bipush (v := (8 : Int32)) C.1.1 C.1.2.1 dX5_confessed_165 (by decide) ?_
      refine z_iald (k := 48) C Z (by decide) rfl (by decide) dX5_confessed_167 ?_
      refine lv_icmp_le (tgt := 184) C.1.1 C.1.2.1 dX5_confessed_168 (by decide) (fun h899 => ?_) (fun h899 => ?_)
      · replace hf := (if_pos h899).symm.trans hf
        refine lv_iconst (v := (0 : Int32)) C.1.1 C.1.2.1 dX5_confessed_184 (by decide) ?_
        obtain ⟨r900, mem900, hc900, hf⟩ := zb_some hf
        refine z_callVi (k := 44) (As := [.int r898, .int (0 : Int32)]) (rest := [.int x3_897]) C Z (M_X5_hangs l G C.2.1 N mem898 r898 (0 : Int32) r900 mem900 hc900) (zcw_X5_125 C.1.2.2.2.2 ⟨Nat.le_of_ble_eq_true rfl, Nat.le_of_ble_eq_true rfl⟩) (by decide) rfl rfl rfl hl.1 rfl (Nat.le_of_ble_eq_true rfl) ⟨Nat.le_refl 0, Nat.le_refl 0⟩ dX5_confessed_185 (fun H locs Z => ?_)
        refine lv_if_eq (tgt := 196) C.1.1 C.1.2.1 dX5_confessed_188 (by decide) (fun h901 => ?_) (fun h901 => ?_)
        · replace hf := (if_pos h901).symm.trans hf
          refine lv_iconst (v := (0 : Int32)) C.1.1 C.1.2.1 dX5_confessed_196 (by decide) ?_
          refine lv_iadd C.1.1 C.1.2.1 dX5_confessed_197 ?_
          refine lv_istore_n (lv' := [(3, .int (x3_897 + (0 : Int32))), (0, .ref (zr G 44)), (1, .int x1_897), (2, .int x2_897), (4, .int x4_897), (5, .int x5_897), (6, .int x6_897), (7, .int x7_897)]) C.1.1 C.1.2.1 dX5_confessed_198 rfl hl (by decide) rfl (fun ls hl => ?_)
          refine lv_iinc (v := (x5_897 + 1)) (lv' := [(5, .int (x5_897 + 1)), (3, .int (x3_897 + (0 : Int32))), (0, .ref (zr G 44)), (1, .int x1_897), (2, .int x2_897), (4, .int x4_897), (6, .int x6_897), (7, .int x7_897)]) C.1.1 C.1.2.1 dX5_confessed_199 hl (k := 5) rfl rfl (by decide) rfl (fun ls hl => ?_)
          refine lv_goto (tgt := 57) C.1.1 C.1.2.1 dX5_confessed_202 (by decide) ?_
          exact ih mem900 x1_897 x2_897 (x3_897 + (0 : Int32)) x4_897 (x5_897 + 1) _ _ _ Z (lv_sub hl [2, 3, 4, 1, 5, 0] rfl) hf
        · replace hf := (if_neg h901).symm.trans hf
          refine lv_iload C.1.1 C.1.2.1 dX5_confessed_191 (lv_at hl 6 rfl) ?_
          refine lv_goto (tgt := 197) C.1.1 C.1.2.1 dX5_confessed_193 (by decide) ?_
          refine lv_iadd C.1.1 C.1.2.1 dX5_confessed_197 ?_
          refine lv_istore_n (lv' := [(3, .int (x3_897 + x6_897)), (0, .ref (zr G 44)), (1, .int x1_897), (2, .int x2_897), (4, .int x4_897), (5, .int x5_897), (6, .int x6_897), (7, .int x7_897)]) C.1.1 C.1.2.1 dX5_confessed_198 rfl hl (by decide) rfl (fun ls hl => ?_)
          refine lv_iinc (v := (x5_897 + 1)) (lv' := [(5, .int (x5_897 + 1)), (3, .int (x3_897 + x6_897)), (0, .ref (zr G 44)), (1, .int x1_897), (2, .int x2_897), (4, .int x4_897), (6, .int x6_897), (7, .int x7_897)]) C.1.1 C.1.2.1 dX5_confessed_199 hl (k := 5) rfl rfl (by decide) rfl (fun ls hl => ?_)
          refine lv_goto (tgt := 57) C.1.1 C.1.2.1 dX5_confessed_202 (by decide) ?_
          exact ih mem900 x1_897 x2_897 (x3_897 + x6_897) x4_897 (x5_897 + 1) _ _ _ Z (lv_sub hl [2, 3, 4, 1, 5, 0] rfl) hf
      · replace hf := (if_neg h899).symm.trans hf
        refine lv_iload C.1.1 C.1.2.1 dX5_confessed_171 (lv_at hl 7 rfl) ?_
        refine lv_aload_n C.1.1 C.1.2.1 dX5_confessed_173 rfl (lv_at hl 0 rfl) ?_
        refine zg_X5_19 C Z dX5_confessed_174 ?_
        refine lv_bipush (v := (8 : Int32)) C.1.1 C.1.2.1 dX5_confessed_177 (by decide) ?_
        refine z_iald (k := 48) C Z (by decide) rfl (by decide) dX5_confessed_179 ?_
        refine lv_isub C.1.1 C.1.2.1 dX5_confessed_180 ?_
        refine lv_goto (tgt := 185) C.1.1 C.1.2.1 dX5_confessed_181 (by decide) ?_
        obtain ⟨r902, mem902, hc902, hf⟩ := zb_some hf
        refine z_callVi (k := 44) (As := [.int r898, .int (x7_897 - (mem898 48 (8 : Int32).toNatClampNeg))]) (rest := [.int x3_897]) C Z (M_X5_hangs l G C.2.1 N mem898 r898 (x7_897 - (mem898 48 (8 : Int32).toNatClampNeg)) r902 mem902 hc902) (zcw_X5_125 C.1.2.2.2.2 ⟨Nat.le_of_ble_eq_true rfl, Nat.le_of_ble_eq_true rfl⟩) (by decide) rfl rfl rfl hl.1 rfl (Nat.le_of_ble_eq_true rfl) ⟨Nat.le_refl 0, Nat.le_refl 0⟩ dX5_confessed_185 (fun H locs Z => ?_)
        refine lv_if_eq (tgt := 196) C.1.1 C.1.2.1 dX5_confessed_188 (by decide) (fun h903 => ?_) (fun h903 => ?_)
        · replace hf := (if_pos h903).symm.trans hf
          refine lv_iconst (v := (0 : Int32)) C.1.1 C.1.2.1 dX5_confessed_196 (by decide) ?_
          refine lv_iadd C.1.1 C.1.2.1 dX5_confessed_197 ?_
          refine lv_istore_n (lv' := [(3, .int (x3_897 + (0 : Int32))), (0, .ref (zr G 44)), (1, .int x1_897), (2, .int x2_897), (4, .int x4_897), (5, .int x5_897), (6, .int x6_897), (7, .int x7_897)]) C.1.1 C.1.2.1 dX5_confessed_198 rfl hl (by decide) rfl (fun ls hl => ?_)
          refine lv_iinc (v := (x5_897 + 1)) (lv' := [(5, .int (x5_897 + 1)), (3, .int (x3_897 + (0 : Int32))), (0, .ref (zr G 44)), (1, .int x1_897), (2, .int x2_897), (4, .int x4_897), (6, .int x6_897), (7, .int x7_897)]) C.1.1 C.1.2.1 dX5_confessed_199 hl (k := 5) rfl rfl (by decide) rfl (fun ls hl => ?_)
          refine lv_goto (tgt := 57) C.1.1 C.1.2.1 dX5_confessed_202 (by decide) ?_
          exact ih mem902 x1_897 x2_897 (x3_897 + (0 : Int32)) x4_897 (x5_897 + 1) _ _ _ Z (lv_sub hl [2, 3, 4, 1, 5, 0] rfl) hf
        · replace hf := (if_neg h903).symm.trans hf
          refine lv_iload C.1.1 C.1.2.1 dX5_confessed_191 (lv_at hl 6 rfl) ?_
          refine lv_goto (tgt := 197) C.1.1 C.1.2.1 dX5_confessed_193 (by decide) ?_
          refine lv_iadd C.1.1 C.1.2.1 dX5_confessed_197 ?_
          refine lv_istore_n (lv' := [(3, .int (x3_897 + x6_897)), (0, .ref (zr G 44)), (1, .int x1_897), (2, .int x2_897), (4, .int x4_897), (5, .int x5_897), (6, .int x6_897), (7, .int x7_897)]) C.1.1 C.1.2.1 dX5_confessed_198 rfl hl (by decide) rfl (fun ls hl => ?_)
          refine lv_iinc (v := (x5_897 + 1)) (lv' := [(5, .int (x5_897 + 1)), (3, .int (x3_897 + x6_897)), (0, .ref (zr G 44)), (1, .int x1_897), (2, .int x2_897), (4, .int x4_897), (6, .int x6_897), (7, .int x7_897)]) C.1.1 C.1.2.1 dX5_confessed_199 hl (k := 5) rfl rfl (by decide) rfl (fun ls hl => ?_)
          refine lv_goto (tgt := 57) C.1.1 C.1.2.1 dX5_confessed_202 (by decide) ?_
          exact ih mem902 x1_897 x2_897 (x3_897 + x6_897) x4_897 (x5_897 + 1) _ _ _ Z (lv_sub hl [2, 3, 4, 1, 5, 0] rfl) hf
set_option maxHeartbeats 4000000 in
set_option maxRecDepth 100000 in
theorem K_X5_confessed_30 {p : Program} {l : Launch} {e : Env} {s : State} {m : MethodId} {args : Array Value} {below : List Frame} {meth : Method} {c : Code} {G : zG} (C : zC (zAd G) G p s m args c cX5_confessed 10 RX5) (hr : meth.sig.returnType = (some .int)) (hlk : meth.locks = false) {r : Int32} {mem' : zMem} (N : Nat) : ∀ (n : Nat) (mem : zMem) (x1 : Int32) (x2 : Int32) (x3 : Int32) (x4 : Int32) (x5 : Int32) (H : Heap) (locs : List Loc) (ls : Array Slot), zH (zAd G) G s mem H locs → lv_has ls 10 [(0, .ref (zr G 44)), (1, .int x1), (2, .int x2), (3, .int x3), (4, .int x4), (5, .int x5)] → f_X5_confessed_30 N n mem x1 x2 x3 x4 x5 = some (r, mem') → W p l e ({ frames := 4, cells := 0, slots := 0, locals := 88 } : Room) s m args below meth c H locs 0 0 (MQ below (zQi G r mem') args s 0 0 (zAd G)) (F0 m 30 ls []) := by
  intro n
  induction n with
  | zero =>
    intro mem x1 x2 x3 x4 x5 H locs ls Z hl hf
    rw [f_X5_confessed_30.eq_1] at hf
    cases hf
  | succ n ih =>
    intro mem x1 x2 x3 x4 x5 H locs ls Z hl hf
    rw [f_X5_confessed_30.eq_2] at hf
    refine lv_iload C.1.1 C.1.2.1 dX5_confessed_30 (lv_at hl 5 rfl) ?_
    refine lv_aload_n C.1.1 C.1.2.1 dX5_confessed_32 rfl (lv_at hl 0 rfl) ?_
    refine zg_X5_13 C Z dX5_confessed_33 ?_
    refine lv_iconst (v := (1 : Int32)) C.1.1 C.1.2.1 dX5_confessed_36 (by decide) ?_
    refine z_iald (k := 46) C Z (by decide) rfl (by decide) dX5_confessed_37 ?_
    refine lv_icmp_ge (tgt := 54) C.1.1 C.1.2.1 dX5_confessed_38 (by decide) (fun h904 => ?_) (fun h904 => ?_)
    · replace hf := (if_pos h904).symm.trans hf
      refine lv_iconst (v := (0 : Int32)) C.1.1 C.1.2.1 dX5_confessed_54 (by decide) ?_
      refine lv_istore (lv' := [(5, .int (0 : Int32)), (0, .ref (zr G 44)), (1, .int x1), (2, .int x2), (3, .int x3), (4, .int x4)]) C.1.1 C.1.2.1 dX5_confessed_55 hl (by decide) rfl (fun ls hl => ?_)
      exact K_X5_confessed_57 (l := l) (e := e) (below := below) C hr hlk N N mem x1 x2 x3 x4 (0 : Int32) _ _ _ Z (lv_sub hl [1, 2, 3, 4, 5, 0] rfl) hf
    · replace hf := (if_neg h904).symm.trans hf
      refine lv_iload C.1.1 C.1.2.1 dX5_confessed_41 (lv_at hl 4 rfl) ?_
      refine lv_bipush (v := (10 : Int32)) C.1.1 C.1.2.1 dX5_confessed_43 (by decide) ?_
      refine lv_imul C.1.1 C.1.2.1 dX5_confessed_45 ?_
      refine lv_istore (lv' := [(4, .int (x4 * (10 : Int32))), (0, .ref (zr G 44)), (1, .int x1), (2, .int x2), (3, .int x3), (5, .int x5)]) C.1.1 C.1.2.1 dX5_confessed_46 hl (by decide) rfl (fun ls hl => ?_)
      refine lv_iinc (v := (x5 + 1)) (lv' := [(5, .int (x5 + 1)), (4, .int (x4 * (10 : Int32))), (0, .ref (zr G 44)), (1, .int x1), (2, .int x2), (3, .int x3)]) C.1.1 C.1.2.1 dX5_confessed_48 hl (k := 5) rfl rfl (by decide) rfl (fun ls hl => ?_)
      refine lv_goto (tgt := 30) C.1.1 C.1.2.1 dX5_confessed_51 (by decide) ?_
      exact ih mem x1 x2 x3 (x4 * (10 : Int32)) (x5 + 1) _ _ _ Z (lv_sub hl [2, 3, 4, 5, 1, 0] rfl) hf
set_option maxHeartbeats 4000000 in
set_option maxRecDepth 100000 in
theorem M_X5_confessed (l : Launch) (G : zG) (hG : zOK G) (N : Nat) (mem : zMem) (a1 : Int32) (a2 : Int32) (r : Int32) (mem' : zMem) (hf : f_X5_confessed N mem a1 a2 = some (r, mem')) : zM l G yX5_confessed cX5_confessed 10 (some .int) 4 88 [.ref (zr G 44), .int a1, .int a2] mem (zQi G r mem') := by
  refine zStart hG (by decide +kernel) (Nat.le_of_ble_eq_true rfl) (fun p e s m below meth c C hr hlk ls hl Z => ?_)
  have hl : lv_has ls 10 [(0, .ref (zr G 44)), (1, .int a1), (2, .int a2)] := hl
  have C : zC (zAd G) G p s m _ c cX5_confessed 10 RX5 := C
  unfold f_X5_confessed at hf
  refine lv_iload_n C.1.1 C.1.2.1 dX5_confessed_0 rfl (lv_at hl 1 rfl) ?_
  refine lv_iconst (v := (0 : Int32)) C.1.1 C.1.2.1 dX5_confessed_1 (by decide) ?_
  refine lv_bipush (v := (10 : Int32)) C.1.1 C.1.2.1 dX5_confessed_2 (by decide) ?_
  obtain ⟨r905, mem905, hc905, hf⟩ := zb_some hf
  refine z_callSi (As := [.int a1, .int (0 : Int32), .int (10 : Int32)]) (rest := []) C Z (M_X5_in l G C.2.1 N mem a1 (0 : Int32) (10 : Int32) r905 mem905 hc905) (zcw_X5_44 C.1.2.2.2.2 ⟨Nat.le_of_ble_eq_true rfl, Nat.le_of_ble_eq_true rfl⟩) rfl hl.1 rfl (Nat.le_of_ble_eq_true rfl) ⟨Nat.le_refl 0, Nat.le_refl 0⟩ dX5_confessed_4 (fun H locs Z => ?_)
  refine lv_if_eq (tgt := 19) C.1.1 C.1.2.1 dX5_confessed_7 (by decide) (fun h906 => ?_) (fun h906 => ?_)
  · replace hf := (if_pos h906).symm.trans hf
    refine lv_bipush (v := (-3 : Int32)) C.1.1 C.1.2.1 dX5_confessed_19 (by decide) ?_
    cases hf
    exact z_iret C Z hr hlk dX5_confessed_21
  · replace hf := (if_neg h906).symm.trans hf
    refine lv_iload_n C.1.1 C.1.2.1 dX5_confessed_10 rfl (lv_at hl 2 rfl) ?_
    refine lv_iconst (v := (0 : Int32)) C.1.1 C.1.2.1 dX5_confessed_11 (by decide) ?_
    refine lv_iconst (v := (1 : Int32)) C.1.1 C.1.2.1 dX5_confessed_12 (by decide) ?_
    obtain ⟨r907, mem907, hc907, hf⟩ := zb_some hf
    refine z_callSi (As := [.int a2, .int (0 : Int32), .int (1 : Int32)]) (rest := []) C Z (M_X5_in l G C.2.1 N mem905 a2 (0 : Int32) (1 : Int32) r907 mem907 hc907) (zcw_X5_44 C.1.2.2.2.2 ⟨Nat.le_of_ble_eq_true rfl, Nat.le_of_ble_eq_true rfl⟩) rfl hl.1 rfl (Nat.le_of_ble_eq_true rfl) ⟨Nat.le_refl 0, Nat.le_refl 0⟩ dX5_confessed_13 (fun H locs Z => ?_)
    refine lv_if_ne (tgt := 22) C.1.1 C.1.2.1 dX5_confessed_16 (by decide) (fun h908 => ?_) (fun h908 => ?_)
    · replace hf := (if_neg h908).symm.trans hf
      refine lv_iconst (v := (0 : Int32)) C.1.1 C.1.2.1 dX5_confessed_22 (by decide) ?_
      refine lv_istore_n (lv' := [(3, .int (0 : Int32)), (0, .ref (zr G 44)), (1, .int a1), (2, .int a2)]) C.1.1 C.1.2.1 dX5_confessed_23 rfl hl (by decide) rfl (fun ls hl => ?_)
      refine lv_iconst (v := (1 : Int32)) C.1.1 C.1.2.1 dX5_confessed_24 (by decide) ?_
      refine lv_istore (lv' := [(4, .int (1 : Int32)), (3, .int (0 : Int32)), (0, .ref (zr G 44)), (1, .int a1), (2, .int a2)]) C.1.1 C.1.2.1 dX5_confessed_25 hl (by decide) rfl (fun ls hl => ?_)
      refine lv_iconst (v := (0 : Int32)) C.1.1 C.1.2.1 dX5_confessed_27 (by decide) ?_
      refine lv_istore (lv' := [(5, .int (0 : Int32)), (4, .int (1 : Int32)), (3, .int (0 : Int32)), (0, .ref (zr G 44)), (1, .int a1), (2, .int a2)]) C.1.1 C.1.2.1 dX5_confessed_28 hl (by decide) rfl (fun ls hl => ?_)
      exact K_X5_confessed_30 (l := l) (e := e) (below := below) C hr hlk N N mem907 a1 a2 (0 : Int32) (1 : Int32) (0 : Int32) _ _ _ Z (lv_sub hl [3, 4, 5, 2, 1, 0] rfl) hf
    · replace hf := (if_pos h908).symm.trans hf
      refine lv_bipush (v := (-3 : Int32)) C.1.1 C.1.2.1 dX5_confessed_19 (by decide) ?_
      cases hf
      exact z_iret C Z hr hlk dX5_confessed_21
set_option maxHeartbeats 4000000 in
set_option maxRecDepth 100000 in
theorem M_X5_count (l : Launch) (G : zG) (hG : zOK G) (N : Nat) (mem : zMem) (a1 : Int32) (r : Int32) (mem' : zMem) (hf : f_X5_count N mem a1 = some (r, mem')) : zM l G yX5_count cX5_count 2 (some .int) 5 108 [.ref (zr G 44), .int a1] mem (zQi G r mem') := by
  refine zStart hG (by decide +kernel) (Nat.le_of_ble_eq_true rfl) (fun p e s m below meth c C hr hlk ls hl Z => ?_)
  have hl : lv_has ls 2 [(0, .ref (zr G 44)), (1, .int a1)] := hl
  have C : zC (zAd G) G p s m _ c cX5_count 2 RX5 := C
  unfold f_X5_count at hf
  refine lv_iload_n C.1.1 C.1.2.1 dX5_count_0 rfl (lv_at hl 1 rfl) ?_
  by_cases h909 : a1 = 0
  · replace hf := (if_pos h909).symm.trans hf
    refine lv_tableIn (off := 75) (tgt := 76) C.1.1 C.1.2.1 dX5_count_1 (by rw [h909]; decide) (by rw [h909]; decide) (by rw [h909]; rfl) (by decide) ?_
    refine lv_aload_n C.1.1 C.1.2.1 dX5_count_76 rfl (lv_at hl 0 rfl) ?_
    refine zg_X5_13 C Z dX5_count_77 ?_
    refine lv_iconst (v := (0 : Int32)) C.1.1 C.1.2.1 dX5_count_80 (by decide) ?_
    refine z_iald (k := 46) C Z (by decide) rfl (by decide) dX5_count_81 ?_
    cases hf
    exact z_iret C Z hr hlk dX5_count_82
  replace hf := (if_neg h909).symm.trans hf
  by_cases h910 : a1 = 1
  · replace hf := (if_pos h910).symm.trans hf
    refine lv_tableIn (off := 82) (tgt := 83) C.1.1 C.1.2.1 dX5_count_1 (by rw [h910]; decide) (by rw [h910]; decide) (by rw [h910]; rfl) (by decide) ?_
    refine lv_aload_n C.1.1 C.1.2.1 dX5_count_83 rfl (lv_at hl 0 rfl) ?_
    refine zg_X5_13 C Z dX5_count_84 ?_
    refine lv_iconst (v := (1 : Int32)) C.1.1 C.1.2.1 dX5_count_87 (by decide) ?_
    refine z_iald (k := 46) C Z (by decide) rfl (by decide) dX5_count_88 ?_
    cases hf
    exact z_iret C Z hr hlk dX5_count_89
  replace hf := (if_neg h910).symm.trans hf
  by_cases h911 : a1 = 2
  · replace hf := (if_pos h911).symm.trans hf
    refine lv_tableIn (off := 89) (tgt := 90) C.1.1 C.1.2.1 dX5_count_1 (by rw [h911]; decide) (by rw [h911]; decide) (by rw [h911]; rfl) (by decide) ?_
    refine lv_aload_n C.1.1 C.1.2.1 dX5_count_90 rfl (lv_at hl 0 rfl) ?_
    refine zg_X5_19 C Z dX5_count_91 ?_
    refine lv_bipush (v := (9 : Int32)) C.1.1 C.1.2.1 dX5_count_94 (by decide) ?_
    refine z_iald (k := 48) C Z (by decide) rfl (by decide) dX5_count_96 ?_
    cases hf
    exact z_iret C Z hr hlk dX5_count_97
  replace hf := (if_neg h911).symm.trans hf
  by_cases h912 : a1 = 3
  · replace hf := (if_pos h912).symm.trans hf
    refine lv_tableIn (off := 97) (tgt := 98) C.1.1 C.1.2.1 dX5_count_1 (by rw [h912]; decide) (by rw [h912]; decide) (by rw [h912]; rfl) (by decide) ?_
    refine lv_aload_n C.1.1 C.1.2.1 dX5_count_98 rfl (lv_at hl 0 rfl) ?_
    obtain ⟨r913, mem913, hc913, hf⟩ := zb_some hf
    refine z_callVi (k := 44) (As := []) (rest := []) C Z (M_X5_sermon l G C.2.1 N mem r913 mem913 hc913) (zcw_X5_119 C.1.2.2.2.2 ⟨Nat.le_of_ble_eq_true rfl, Nat.le_of_ble_eq_true rfl⟩) (by decide) rfl rfl rfl hl.1 rfl (Nat.le_of_ble_eq_true rfl) ⟨Nat.le_refl 0, Nat.le_refl 0⟩ dX5_count_99 (fun H locs Z => ?_)
    cases hf
    exact z_iret C Z hr hlk dX5_count_102
  replace hf := (if_neg h912).symm.trans hf
  by_cases h914 : a1 = 4
  · replace hf := (if_pos h914).symm.trans hf
    refine lv_tableIn (off := 102) (tgt := 103) C.1.1 C.1.2.1 dX5_count_1 (by rw [h914]; decide) (by rw [h914]; decide) (by rw [h914]; rfl) (by decide) ?_
    refine lv_aload_n C.1.1 C.1.2.1 dX5_count_103 rfl (lv_at hl 0 rfl) ?_
    obtain ⟨r915, mem915, hc915, hf⟩ := zb_some hf
    refine z_callVi (k := 44) (As := []) (rest := []) C Z (M_X5_lead l G C.2.1 N mem r915 mem915 hc915) (zcw_X5_122 C.1.2.2.2.2 ⟨Nat.le_of_ble_eq_true rfl, Nat.le_of_ble_eq_true rfl⟩) (by decide) rfl rfl rfl hl.1 rfl (Nat.le_of_ble_eq_true rfl) ⟨Nat.le_refl 0, Nat.le_refl 0⟩ dX5_count_104 (fun H locs Z => ?_)
    cases hf
    exact z_iret C Z hr hlk dX5_count_107
  replace hf := (if_neg h914).symm.trans hf
  by_cases h916 : a1 = 5
  · replace hf := (if_pos h916).symm.trans hf
    refine lv_tableIn (off := 107) (tgt := 108) C.1.1 C.1.2.1 dX5_count_1 (by rw [h916]; decide) (by rw [h916]; decide) (by rw [h916]; rfl) (by decide) ?_
    refine lv_aload_n C.1.1 C.1.2.1 dX5_count_108 rfl (lv_at hl 0 rfl) ?_
    obtain ⟨r917, mem917, hc917, hf⟩ := zb_some hf
    refine z_callVi (k := 44) (As := []) (rest := []) C Z (M_X5_isLevel l G C.2.1 N mem r917 mem917 hc917) (zcw_X5_132 C.1.2.2.2.2 ⟨Nat.le_of_ble_eq_true rfl, Nat.le_of_ble_eq_true rfl⟩) (by decide) rfl rfl rfl hl.1 rfl (Nat.le_of_ble_eq_true rfl) ⟨Nat.le_refl 0, Nat.le_refl 0⟩ dX5_count_109 (fun H locs Z => ?_)
    refine lv_if_eq (tgt := 119) C.1.1 C.1.2.1 dX5_count_112 (by decide) (fun h918 => ?_) (fun h918 => ?_)
    · replace hf := (if_pos h918).symm.trans hf
      refine lv_iconst (v := (0 : Int32)) C.1.1 C.1.2.1 dX5_count_119 (by decide) ?_
      cases hf
      exact z_iret C Z hr hlk dX5_count_120
    · replace hf := (if_neg h918).symm.trans hf
      refine lv_iconst (v := (1 : Int32)) C.1.1 C.1.2.1 dX5_count_115 (by decide) ?_
      refine lv_goto (tgt := 120) C.1.1 C.1.2.1 dX5_count_116 (by decide) ?_
      cases hf
      exact z_iret C Z hr hlk dX5_count_120
  replace hf := (if_neg h916).symm.trans hf
  by_cases h919 : a1 = 6
  · replace hf := (if_pos h919).symm.trans hf
    refine lv_tableIn (off := 120) (tgt := 121) C.1.1 C.1.2.1 dX5_count_1 (by rw [h919]; decide) (by rw [h919]; decide) (by rw [h919]; rfl) (by decide) ?_
    refine lv_aload_n C.1.1 C.1.2.1 dX5_count_121 rfl (lv_at hl 0 rfl) ?_
    refine zg_X5_19 C Z dX5_count_122 ?_
    refine lv_bipush (v := (7 : Int32)) C.1.1 C.1.2.1 dX5_count_125 (by decide) ?_
    refine z_iald (k := 48) C Z (by decide) rfl (by decide) dX5_count_127 ?_
    cases hf
    exact z_iret C Z hr hlk dX5_count_128
  replace hf := (if_neg h919).symm.trans hf
  by_cases h920 : a1 = 7
  · replace hf := (if_pos h920).symm.trans hf
    refine lv_tableIn (off := 128) (tgt := 129) C.1.1 C.1.2.1 dX5_count_1 (by rw [h920]; decide) (by rw [h920]; decide) (by rw [h920]; rfl) (by decide) ?_
    refine lv_aload_n C.1.1 C.1.2.1 dX5_count_129 rfl (lv_at hl 0 rfl) ?_
    refine zg_X5_19 C Z dX5_count_130 ?_
    refine lv_bipush (v := (10 : Int32)) C.1.1 C.1.2.1 dX5_count_133 (by decide) ?_
    refine z_iald (k := 48) C Z (by decide) rfl (by decide) dX5_count_135 ?_
    cases hf
    exact z_iret C Z hr hlk dX5_count_136
  replace hf := (if_neg h920).symm.trans hf
  by_cases h921 : a1 = 8
  · replace hf := (if_pos h921).symm.trans hf
    refine lv_tableIn (off := 136) (tgt := 137) C.1.1 C.1.2.1 dX5_count_1 (by rw [h921]; decide) (by rw [h921]; decide) (by rw [h921]; rfl) (by decide) ?_
    refine lv_aload_n C.1.1 C.1.2.1 dX5_count_137 rfl (lv_at hl 0 rfl) ?_
    refine zg_X5_19 C Z dX5_count_138 ?_
    refine lv_bipush (v := (11 : Int32)) C.1.1 C.1.2.1 dX5_count_141 (by decide) ?_
    refine z_iald (k := 48) C Z (by decide) rfl (by decide) dX5_count_143 ?_
    cases hf
    exact z_iret C Z hr hlk dX5_count_144
  replace hf := (if_neg h921).symm.trans hf
  by_cases h922 : a1 = 9
  · replace hf := (if_pos h922).symm.trans hf
    refine lv_tableIn (off := 144) (tgt := 145) C.1.1 C.1.2.1 dX5_count_1 (by rw [h922]; decide) (by rw [h922]; decide) (by rw [h922]; rfl) (by decide) ?_
    refine lv_aload_n C.1.1 C.1.2.1 dX5_count_145 rfl (lv_at hl 0 rfl) ?_
    refine zg_X5_19 C Z dX5_count_146 ?_
    refine lv_bipush (v := (8 : Int32)) C.1.1 C.1.2.1 dX5_count_149 (by decide) ?_
    refine z_iald (k := 48) C Z (by decide) rfl (by decide) dX5_count_151 ?_
    cases hf
    exact z_iret C Z hr hlk dX5_count_152
  replace hf := (if_neg h922).symm.trans hf
  by_cases h923 : a1 = 10
  · replace hf := (if_pos h923).symm.trans hf
    refine lv_tableIn (off := 152) (tgt := 153) C.1.1 C.1.2.1 dX5_count_1 (by rw [h923]; decide) (by rw [h923]; decide) (by rw [h923]; rfl) (by decide) ?_
    refine lv_aload_n C.1.1 C.1.2.1 dX5_count_153 rfl (lv_at hl 0 rfl) ?_
    refine zg_X5_19 C Z dX5_count_154 ?_
    refine lv_bipush (v := (6 : Int32)) C.1.1 C.1.2.1 dX5_count_157 (by decide) ?_
    refine z_iald (k := 48) C Z (by decide) rfl (by decide) dX5_count_159 ?_
    cases hf
    exact z_iret C Z hr hlk dX5_count_160
  replace hf := (if_neg h923).symm.trans hf
  by_cases h924 : a1 = 11
  · replace hf := (if_pos h924).symm.trans hf
    refine lv_tableIn (off := 160) (tgt := 161) C.1.1 C.1.2.1 dX5_count_1 (by rw [h924]; decide) (by rw [h924]; decide) (by rw [h924]; rfl) (by decide) ?_
    refine lv_aload_n C.1.1 C.1.2.1 dX5_count_161 rfl (lv_at hl 0 rfl) ?_
    refine zg_X5_98 C Z dX5_count_162 ?_
    cases hf
    exact z_iret C Z hr hlk dX5_count_165
  replace hf := (if_neg h924).symm.trans hf
  by_cases h925 : a1 = 12
  · replace hf := (if_pos h925).symm.trans hf
    refine lv_tableIn (off := 165) (tgt := 166) C.1.1 C.1.2.1 dX5_count_1 (by rw [h925]; decide) (by rw [h925]; decide) (by rw [h925]; rfl) (by decide) ?_
    refine lv_aload_n C.1.1 C.1.2.1 dX5_count_166 rfl (lv_at hl 0 rfl) ?_
    refine zg_X5_101 C Z dX5_count_167 ?_
    cases hf
    exact z_iret C Z hr hlk dX5_count_170
  replace hf := (if_neg h925).symm.trans hf
  by_cases h926 : a1 = 13
  · replace hf := (if_pos h926).symm.trans hf
    refine lv_tableIn (off := 170) (tgt := 171) C.1.1 C.1.2.1 dX5_count_1 (by rw [h926]; decide) (by rw [h926]; decide) (by rw [h926]; rfl) (by decide) ?_
    refine lv_aload_n C.1.1 C.1.2.1 dX5_count_171 rfl (lv_at hl 0 rfl) ?_
    refine zg_X5_95 C Z dX5_count_172 ?_
    cases hf
    exact z_iret C Z hr hlk dX5_count_175
  replace hf := (if_neg h926).symm.trans hf
  by_cases h927 : a1 = 14
  · replace hf := (if_pos h927).symm.trans hf
    refine lv_tableIn (off := 175) (tgt := 176) C.1.1 C.1.2.1 dX5_count_1 (by rw [h927]; decide) (by rw [h927]; decide) (by rw [h927]; rfl) (by decide) ?_
    refine lv_aload_n C.1.1 C.1.2.1 dX5_count_176 rfl (lv_at hl 0 rfl) ?_
    refine zg_X5_48 C Z dX5_count_177 ?_
    cases hf
    exact z_iret C Z hr hlk dX5_count_180
  replace hf := (if_neg h927).symm.trans hf
  have eh909 := lv_neT h909 (a := 0) rfl
  have eh910 := lv_neT h910 (a := 1) rfl
  have eh911 := lv_neT h911 (a := 2) rfl
  have eh912 := lv_neT h912 (a := 3) rfl
  have eh914 := lv_neT h914 (a := 4) rfl
  have eh916 := lv_neT h916 (a := 5) rfl
  have eh919 := lv_neT h919 (a := 6) rfl
  have eh920 := lv_neT h920 (a := 7) rfl
  have eh921 := lv_neT h921 (a := 8) rfl
  have eh922 := lv_neT h922 (a := 9) rfl
  have eh923 := lv_neT h923 (a := 10) rfl
  have eh924 := lv_neT h924 (a := 11) rfl
  have eh925 := lv_neT h925 (a := 12) rfl
  have eh926 := lv_neT h926 (a := 13) rfl
  have eh927 := lv_neT h927 (a := 14) rfl
  refine lv_tableOut (tgt := 181) C.1.1 C.1.2.1 dX5_count_1 (by omega) (by decide) ?_
  refine lv_bipush (v := (-3 : Int32)) C.1.1 C.1.2.1 dX5_count_181 (by decide) ?_
  cases hf
  exact z_iret C Z hr hlk dX5_count_183
