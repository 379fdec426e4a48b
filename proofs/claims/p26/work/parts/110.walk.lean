set_option maxHeartbeats 4000000 in
set_option maxRecDepth 100000 in
theorem K_X5_confessed_212 {p : Program} {l : Launch} {e : Env} {s : State} {m : MethodId} {args : Array Value} {below : List Frame} {meth : Method} {c : Code} {G : zG} (C : zC (zAd G) G p s m args c cX5_confessed 10 RX5) (hr : meth.sig.returnType = (some .int)) (hlk : meth.locks = false) {r : Int32} {mem' : zMem} (N : Nat) : ∀ (n : Nat) (mem : zMem) (x2 : Int32) (x3 : Int32) (x4 : Int32) (x5 : Int32) (x6 : Int32) (H : Heap) (locs : List Loc) (ls : Array Slot), zH (zAd G) G s mem H locs → lv_has ls 10 [(2, .int x2), (3, .int x3), (4, .int x4), (5, .int x5), (6, .int x6)] → f_X5_confessed_212 N n mem x2 x3 x4 x5 x6 = some (r, mem') → W p l e ({ frames := 4, cells := 0, slots := 0, locals := 88 } : Room) s m args below meth c H locs 0 0 (MQ below (zQi G r mem') args s 0 0 (zAd G)) (F0 m 212 ls []) := by
  intro n
  induction n with
  | zero =>
    intro mem x2 x3 x4 x5 x6 H locs ls Z hl hf
    rw [f_X5_confessed_212.eq_1] at hf
    cases hf
  | succ n ih =>
    intro mem x2 x3 x4 x5 x6 H locs ls Z hl hf
    rw [f_X5_confessed_212.eq_2] at hf
    refine lv_iload C.1.1 C.1.2.1 dX5_confessed_212 (lv_at hl 4 rfl) ?_
    refine lv_if_le (tgt := 235) C.1.1 C.1.2.1 dX5_confessed_214 (by decide) (fun h870 => ?_) (fun h870 => ?_)
    · replace hf := (if_pos h870).symm.trans hf
      refine lv_iload_n C.1.1 C.1.2.1 dX5_confessed_235 rfl (lv_at hl 0 rfl) ?_
      refine lv_if_ne (tgt := 246) C.1.1 C.1.2.1 dX5_confessed_236 (by decide) (fun h871 => ?_) (fun h871 => ?_)
      · replace hf := (if_neg h871).symm.trans hf
        refine lv_iload C.1.1 C.1.2.1 dX5_confessed_246 (lv_at hl 2 rfl) ?_
        refine lv_iload C.1.1 C.1.2.1 dX5_confessed_248 (lv_at hl 3 rfl) ?_
        obtain ⟨hz872, hf⟩ := zgd_some hf
        refine lv_idiv C.1.1 C.1.2.1 dX5_confessed_250 (znz_ne hz872) ?_
        cases hf
        exact z_iret C Z hr hlk dX5_confessed_251
      · replace hf := (if_pos h871).symm.trans hf
        refine lv_iload_n C.1.1 C.1.2.1 dX5_confessed_239 rfl (lv_at hl 1 rfl) ?_
        refine lv_iload C.1.1 C.1.2.1 dX5_confessed_240 (lv_at hl 3 rfl) ?_
        obtain ⟨hz873, hf⟩ := zgd_some hf
        refine lv_idiv C.1.1 C.1.2.1 dX5_confessed_242 (znz_ne hz873) ?_
        refine lv_goto (tgt := 251) C.1.1 C.1.2.1 dX5_confessed_243 (by decide) ?_
        cases hf
        exact z_iret C Z hr hlk dX5_confessed_251
    · replace hf := (if_neg h870).symm.trans hf
      refine lv_iload C.1.1 C.1.2.1 dX5_confessed_217 (lv_at hl 3 rfl) ?_
      refine lv_iload C.1.1 C.1.2.1 dX5_confessed_219 (lv_at hl 4 rfl) ?_
      obtain ⟨hz874, hf⟩ := zgd_some hf
      refine lv_irem C.1.1 C.1.2.1 dX5_confessed_221 (znz_ne hz874) ?_
      refine lv_istore (lv' := [(7, .int (x5 - x5 / x6 * x6)), (2, .int x2), (3, .int x3), (4, .int x4), (5, .int x5), (6, .int x6)]) C.1.1 C.1.2.1 dX5_confessed_222 hl (by decide) rfl (fun ls hl => ?_)
      refine lv_iload C.1.1 C.1.2.1 dX5_confessed_224 (lv_at hl 5 rfl) ?_
      refine lv_istore (lv' := [(5, .int x6), (7, .int (x5 - x5 / x6 * x6)), (2, .int x2), (3, .int x3), (4, .int x4), (6, .int x6)]) C.1.1 C.1.2.1 dX5_confessed_226 hl (by decide) rfl (fun ls hl => ?_)
      refine lv_iload C.1.1 C.1.2.1 dX5_confessed_228 (lv_at hl 1 rfl) ?_
      refine lv_istore (lv' := [(6, .int (x5 - x5 / x6 * x6)), (5, .int x6), (7, .int (x5 - x5 / x6 * x6)), (2, .int x2), (3, .int x3), (4, .int x4)]) C.1.1 C.1.2.1 dX5_confessed_230 hl (by decide) rfl (fun ls hl => ?_)
      refine lv_goto (tgt := 212) C.1.1 C.1.2.1 dX5_confessed_232 (by decide) ?_
      exact ih mem x2 x3 x4 x6 (x5 - x5 / x6 * x6) _ _ _ Z (lv_sub hl [3, 4, 5, 1, 0] rfl) hf
set_option maxHeartbeats 4000000 in
set_option maxRecDepth 100000 in
theorem K_X5_confessed_79 {p : Program} {l : Launch} {e : Env} {s : State} {m : MethodId} {args : Array Value} {below : List Frame} {meth : Method} {c : Code} {G : zG} (C : zC (zAd G) G p s m args c cX5_confessed 10 RX5) (hr : meth.sig.returnType = (some .int)) (hlk : meth.locks = false) {r : Int32} {mem' : zMem} (N : Nat) (k : zMem → Int32 → Int32 → Int32 → Int32 → Int32 → Int32 → Int32 → Option (Int32 × zMem)) (hk : ∀ (mem : zMem) (x1 : Int32) (x2 : Int32) (x3 : Int32) (x4 : Int32) (x5 : Int32) (x6 : Int32) (x7 : Int32) (H : Heap) (locs : List Loc) (ls : Array Slot), zH (zAd G) G s mem H locs → lv_has ls 10 [(0, .ref (zr G 44)), (1, .int x1), (2, .int x2), (3, .int x3), (4, .int x4), (5, .int x5), (6, .int x6), (7, .int x7)] → k mem x1 x2 x3 x4 x5 x6 x7 = some (r, mem') → W p l e ({ frames := 4, cells := 0, slots := 0, locals := 88 } : Room) s m args below meth c H locs 0 0 (MQ below (zQi G r mem') args s 0 0 (zAd G)) (F0 m 153 ls [])) : ∀ (n : Nat) (mem : zMem) (x1 : Int32) (x2 : Int32) (x3 : Int32) (x4 : Int32) (x5 : Int32) (x6 : Int32) (x7 : Int32) (x8 : Int32) (H : Heap) (locs : List Loc) (ls : Array Slot), zH (zAd G) G s mem H locs → lv_has ls 10 [(0, .ref (zr G 44)), (1, .int x1), (2, .int x2), (3, .int x3), (4, .int x4), (5, .int x5), (6, .int x6), (7, .int x7), (8, .int x8)] → f_X5_confessed_79 k N n mem x1 x2 x3 x4 x5 x6 x7 x8 = some (r, mem') → W p l e ({ frames := 4, cells := 0, slots := 0, locals := 88 } : Room) s m args below meth c H locs 0 0 (MQ below (zQi G r mem') args s 0 0 (zAd G)) (F0 m 79 ls []) := by
  intro n
  induction n with
  | zero =>
    intro mem x1 x2 x3 x4 x5 x6 x7 x8 H locs ls Z hl hf
    rw [f_X5_confessed_79.eq_1] at hf
    cases hf
  | succ n ih =>
    intro mem x1 x2 x3 x4 x5 x6 x7 x8 H locs ls Z hl hf
    rw [f_X5_confessed_79.eq_2] at hf
    refine lv_iload C.1.1 C.1.2.1 dX5_confessed_79 (lv_at hl 8 rfl) ?_
    refine lv_aload_n C.1.1 C.1.2.1 dX5_confessed_81 rfl (lv_at hl 0 rfl) ?_
    refine zg_X5_13 C Z dX5_confessed_82 ?_
    refine lv_iconst (v := (1 : Int32)) C.1.1 C.1.2.1 dX5_confessed_85 (by decide) ?_
    refine z_iald (k := 46) C Z (by decide) rfl (by decide) dX5_confessed_86 ?_
    refine lv_icmp_ge (tgt := 153) C.1.1 C.1.2.1 dX5_confessed_87 (by decide) (fun h875 => ?_) (fun h875 => ?_)
    · replace hf := (if_pos h875).symm.trans hf
      exact hk mem x1 x2 x3 x4 x5 x6 x7 _ _ _ Z (lv_sub hl [0, 1, 2, 3, 4, 5, 6, 7] rfl) hf
    · replace hf := (if_neg h875).symm.trans hf
      refine lv_iload C.1.1 C.1.2.1 dX5_confessed_90 (lv_at hl 5 rfl) ?_
      refine lv_iload C.1.1 C.1.2.1 dX5_confessed_92 (lv_at hl 8 rfl) ?_
      refine lv_ishr C.1.1 C.1.2.1 dX5_confessed_94 ?_
      refine lv_iconst (v := (1 : Int32)) C.1.1 C.1.2.1 dX5_confessed_95 (by decide) ?_
      refine lv_iand C.1.1 C.1.2.1 dX5_confessed_96 ?_
      refine lv_iconst (v := (1 : Int32)) C.1.1 C.1.2.1 dX5_confessed_97 (by decide) ?_
      refine lv_icmp_ne (tgt := 105) C.1.1 C.1.2.1 dX5_confessed_98 (by decide) (fun h876 => ?_) (fun h876 => ?_)
      · replace hf := (if_neg h876).symm.trans hf
        refine lv_iconst (v := (0 : Int32)) C.1.1 C.1.2.1 dX5_confessed_105 (by decide) ?_
        refine lv_istore (lv' := [(9, .int (0 : Int32)), (0, .ref (zr G 44)), (1, .int x1), (2, .int x2), (3, .int x3), (4, .int x4), (5, .int x5), (6, .int x6), (7, .int x7), (8, .int x8)]) C.1.1 C.1.2.1 dX5_confessed_106 hl (by decide) rfl (fun ls hl => ?_)
        refine lv_iload C.1.1 C.1.2.1 dX5_confessed_108 (lv_at hl 7 rfl) ?_
        refine lv_iload C.1.1 C.1.2.1 dX5_confessed_110 (lv_at hl 0 rfl) ?_
        refine lv_if_eq (tgt := 119) C.1.1 C.1.2.1 dX5_confessed_112 (by decide) (fun h877 => ?_) (fun h877 => ?_)
        · replace hf := (if_pos h877).symm.trans hf
          refine lv_bipush (v := (10 : Int32)) C.1.1 C.1.2.1 dX5_confessed_119 (by decide) ?_
          refine lv_iload_n C.1.1 C.1.2.1 dX5_confessed_121 rfl (lv_at hl 2 rfl) ?_
          refine lv_isub C.1.1 C.1.2.1 dX5_confessed_122 ?_
          refine lv_imul C.1.1 C.1.2.1 dX5_confessed_123 ?_
          refine lv_istore (lv' := [(6, .int (x6 * ((10 : Int32) - x1))), (9, .int (0 : Int32)), (0, .ref (zr G 44)), (1, .int x1), (2, .int x2), (3, .int x3), (4, .int x4), (5, .int x5), (7, .int x7), (8, .int x8)]) C.1.1 C.1.2.1 dX5_confessed_124 hl (by decide) rfl (fun ls hl => ?_)
          refine lv_iload C.1.1 C.1.2.1 dX5_confessed_126 (lv_at hl 8 rfl) ?_
          refine lv_iload C.1.1 C.1.2.1 dX5_confessed_128 (lv_at hl 1 rfl) ?_
          refine lv_if_eq (tgt := 137) C.1.1 C.1.2.1 dX5_confessed_130 (by decide) (fun h878 => ?_) (fun h878 => ?_)
          · replace hf := (if_pos h878).symm.trans hf
            refine lv_aload_n C.1.1 C.1.2.1 dX5_confessed_137 rfl (lv_at hl 2 rfl) ?_
            refine zg_X5_19 C Z dX5_confessed_138 ?_
            refine lv_iload C.1.1 C.1.2.1 dX5_confessed_141 (lv_at hl 9 rfl) ?_
            obtain ⟨hi879, hf⟩ := zgd_some hf
            refine z_iald (k := 48) C Z (by decide) rfl hi879 dX5_confessed_143 ?_
            refine lv_iadd C.1.1 C.1.2.1 dX5_confessed_144 ?_
            refine lv_istore (lv' := [(7, .int (x7 + (mem 48 x8.toNatClampNeg))), (6, .int (x6 * ((10 : Int32) - x1))), (9, .int (0 : Int32)), (0, .ref (zr G 44)), (1, .int x1), (2, .int x2), (3, .int x3), (4, .int x4), (5, .int x5), (8, .int x8)]) C.1.1 C.1.2.1 dX5_confessed_145 hl (by decide) rfl (fun ls hl => ?_)
            refine lv_iinc (v := (x8 + 1)) (lv' := [(8, .int (x8 + 1)), (7, .int (x7 + (mem 48 x8.toNatClampNeg))), (6, .int (x6 * ((10 : Int32) - x1))), (9, .int (0 : Int32)), (0, .ref (zr G 44)), (1, .int x1), (2, .int x2), (3, .int x3), (4, .int x4), (5, .int x5)]) C.1.1 C.1.2.1 dX5_confessed_147 hl (k := 9) rfl rfl (by decide) rfl (fun ls hl => ?_)
            refine lv_goto (tgt := 79) C.1.1 C.1.2.1 dX5_confessed_150 (by decide) ?_
            exact ih mem x1 x2 x3 x4 x5 (x6 * ((10 : Int32) - x1)) (x7 + (mem 48 x8.toNatClampNeg)) (x8 + 1) _ _ _ Z (lv_sub hl [4, 5, 6, 7, 8, 9, 2, 1, 0] rfl) hf
          · replace hf := (if_neg h878).symm.trans hf
            refine lv_iconst (v := (0 : Int32)) C.1.1 C.1.2.1 dX5_confessed_133 (by decide) ?_
            refine lv_goto (tgt := 144) C.1.1 C.1.2.1 dX5_confessed_134 (by decide) ?_
            refine lv_iadd C.1.1 C.1.2.1 dX5_confessed_144 ?_
            refine lv_istore (lv' := [(7, .int (x7 + (0 : Int32))), (6, .int (x6 * ((10 : Int32) - x1))), (9, .int (0 : Int32)), (0, .ref (zr G 44)), (1, .int x1), (2, .int x2), (3, .int x3), (4, .int x4), (5, .int x5), (8, .int x8)]) C.1.1 C.1.2.1 dX5_confessed_145 hl (by decide) rfl (fun ls hl => ?_)
            refine lv_iinc (v := (x8 + 1)) (lv' := [(8, .int (x8 + 1)), (7, .int (x7 + (0 : Int32))), (6, .int (x6 * ((10 : Int32) - x1))), (9, .int (0 : Int32)), (0, .ref (zr G 44)), (1, .int x1), (2, .int x2), (3, .int x3), (4, .int x4), (5, .int x5)]) C.1.1 C.1.2.1 dX5_confessed_147 hl (k := 9) rfl rfl (by decide) rfl (fun ls hl => ?_)
            refine lv_goto (tgt := 79) C.1.1 C.1.2.1 dX5_confessed_150 (by decide) ?_
            exact ih mem x1 x2 x3 x4 x5 (x6 * ((10 : Int32) - x1)) (x7 + (0 : Int32)) (x8 + 1) _ _ _ Z (lv_sub hl [4, 5, 6, 7, 8, 9, 2, 1, 0] rfl) hf
        · replace hf := (if_neg h877).symm.trans hf
          refine lv_iload_n C.1.1 C.1.2.1 dX5_confessed_115 rfl (lv_at hl 2 rfl) ?_
          refine lv_goto (tgt := 123) C.1.1 C.1.2.1 dX5_confessed_116 (by decide) ?_
          refine lv_imul C.1.1 C.1.2.1 dX5_confessed_123 ?_
          refine lv_istore (lv' := [(6, .int (x6 * x1)), (9, .int (0 : Int32)), (0, .ref (zr G 44)), (1, .int x1), (2, .int x2), (3, .int x3), (4, .int x4), (5, .int x5), (7, .int x7), (8, .int x8)]) C.1.1 C.1.2.1 dX5_confessed_124 hl (by decide) rfl (fun ls hl => ?_)
          refine lv_iload C.1.1 C.1.2.1 dX5_confessed_126 (lv_at hl 8 rfl) ?_
          refine lv_iload C.1.1 C.1.2.1 dX5_confessed_128 (lv_at hl 1 rfl) ?_
          refine lv_if_eq (tgt := 137) C.1.1 C.1.2.1 dX5_confessed_130 (by decide) (fun h880 => ?_) (fun h880 => ?_)
          · replace hf := (if_pos h880).symm.trans hf
            refine lv_aload_n C.1.1 C.1.2.1 dX5_confessed_137 rfl (lv_at hl 2 rfl) ?_
            refine zg_X5_19 C Z dX5_confessed_138 ?_
            refine lv_iload C.1.1 C.1.2.1 dX5_confessed_141 (lv_at hl 9 rfl) ?_
            obtain ⟨hi881, hf⟩ := zgd_some hf
            refine z_iald (k := 48) C Z (by decide) rfl hi881 dX5_confessed_143 ?_
            refine lv_iadd C.1.1 C.1.2.1 dX5_confessed_144 ?_
            refine lv_istore (lv' := [(7, .int (x7 + (mem 48 x8.toNatClampNeg))), (6, .int (x6 * x1)), (9, .int (0 : Int32)), (0, .ref (zr G 44)), (1, .int x1), (2, .int x2), (3, .int x3), (4, .int x4), (5, .int x5), (8, .int x8)]) C.1.1 C.1.2.1 dX5_confessed_145 hl (by decide) rfl (fun ls hl => ?_)
            refine lv_iinc (v := (x8 + 1)) (lv' := [(8, .int (x8 + 1)), (7, .int (x7 + (mem 48 x8.toNatClampNeg))), (6, .int (x6 * x1)), (9, .int (0 : Int32)), (0, .ref (zr G 44)), (1, .int x1), (2, .int x2), (3, .int x3), (4, .int x4), (5, .int x5)]) C.1.1 C.1.2.1 dX5_confessed_147 hl (k := 9) rfl rfl (by decide) rfl (fun ls hl => ?_)
            refine lv_goto (tgt := 79) C.1.1 C.1.2.1 dX5_confessed_150 (by decide) ?_
            exact ih mem x1 x2 x3 x4 x5 (x6 * x1) (x7 + (mem 48 x8.toNatClampNeg)) (x8 + 1) _ _ _ Z (lv_sub hl [4, 5, 6, 7, 8, 9, 2, 1, 0] rfl) hf
          · replace hf := (if_neg h880).symm.trans hf
            refine lv_iconst (v := (0 : Int32)) C.1.1 C.1.2.1 dX5_confessed_133 (by decide) ?_
            refine lv_goto (tgt := 144) C.1.1 C.1.2.1 dX5_confessed_134 (by decide) ?_
            refine lv_iadd C.1.1 C.1.2.1 dX5_confessed_144 ?_
            refine lv_istore (lv' := [(7, .int (x7 + (0 : Int32))), (6, .int (x6 * x1)), (9, .int (0 : Int32)), (0, .ref (zr G 44)), (1, .int x1), (2, .int x2), (3, .int x3), (4, .int x4), (5, .int x5), (8, .int x8)]) C.1.1 C.1.2.1 dX5_confessed_145 hl (by decide) rfl (fun ls hl => ?_)
            refine lv_iinc (v := (x8 + 1)) (lv' := [(8, .int (x8 + 1)), (7, .int (x7 + (0 : Int32))), (6, .int (x6 * x1)), (9, .int (0 : Int32)), (0, .ref (zr G 44)), (1, .int x1), (2, .int x2), (3, .int x3), (4, .int x4), (5, .int x5)]) C.1.1 C.1.2.1 dX5_confessed_147 hl (k := 9) rfl rfl (by decide) rfl (fun ls hl => ?_)
            refine lv_goto (tgt := 79) C.1.1 C.1.2.1 dX5_confessed_150 (by decide) ?_
            exact ih mem x1 x2 x3 x4 x5 (x6 * x1) (x7 + (0 : Int32)) (x8 + 1) _ _ _ Z (lv_sub hl [4, 5, 6, 7, 8, 9, 2, 1, 0] rfl) hf
      · replace hf := (if_pos h876).symm.trans hf
        refine lv_iconst (v := (1 : Int32)) C.1.1 C.1.2.1 dX5_confessed_101 (by decide) ?_
        refine lv_goto (tgt := 106) C.1.1 C.1.2.1 dX5_confessed_102 (by decide) ?_
        refine lv_istore (lv' := [(9, .int (1 : Int32)), (0, .ref (zr G 44)), (1, .int x1), (2, .int x2), (3, .int x3), (4, .int x4), (5, .int x5), (6, .int x6), (7, .int x7), (8, .int x8)]) C.1.1 C.1.2.1 dX5_confessed_106 hl (by decide) rfl (fun ls hl => ?_)
        refine lv_iload C.1.1 C.1.2.1 dX5_confessed_108 (lv_at hl 7 rfl) ?_
        refine lv_iload C.1.1 C.1.2.1 dX5_confessed_110 (lv_at hl 0 rfl) ?_
        refine lv_if_eq (tgt := 119) C.1.1 C.1.2.1 dX5_confessed_112 (by decide) (fun h882 => ?_) (fun h882 => ?_)
        · replace hf := (if_pos h882).symm.trans hf
          refine lv_bipush (v := (10 : Int32)) C.1.1 C.1.2.1 dX5_confessed_119 (by decide) ?_
          refine lv_iload_n C.1.1 C.1.2.1 dX5_confessed_121 rfl (lv_at hl 2 rfl) ?_
          refine lv_isub C.1.1 C.1.2.1 dX5_confessed_122 ?_
          refine lv_imul C.1.1 C.1.2.1 dX5_confessed_123 ?_
          refine lv_istore (lv' := [(6, .int (x6 * ((10 : Int32) - x1))), (9, .int (1 : Int32)), (0, .ref (zr G 44)), (1, .int x1), (2, .int x2), (3, .int x3), (4, .int x4), (5, .int x5), (7, .int x7), (8, .int x8)]) C.1.1 C.1.2.1 dX5_confessed_124 hl (by decide) rfl (fun ls hl => ?_)
          refine lv_iload C.1.1 C.1.2.1 dX5_confessed_126 (lv_at hl 8 rfl) ?_
          refine lv_iload C.1.1 C.1.2.1 dX5_confessed_128 (lv_at hl 1 rfl) ?_
          refine lv_if_eq (tgt := 137) C.1.1 C.1.2.1 dX5_confessed_130 (by decide) (fun h883 => ?_) (fun h883 => ?_)
          · replace hf := (if_pos h883).symm.trans hf
            refine lv_aload_n C.1.1 C.1.2.1 dX5_confessed_137 rfl (lv_at hl 2 rfl) ?_
            refine zg_X5_19 C Z dX5_confessed_138 ?_
            refine lv_iload C.1.1 C.1.2.1 dX5_confessed_141 (lv_at hl 9 rfl) ?_
            obtain ⟨hi884, hf⟩ := zgd_some hf
            refine z_iald (k := 48) C Z (by decide) rfl hi884 dX5_confessed_143 ?_
            refine lv_iadd C.1.1 C.1.2.1 dX5_confessed_144 ?_
            refine lv_istore (lv' := [(7, .int (x7 + (mem 48 x8.toNatClampNeg))), (6, .int (x6 * ((10 : Int32) - x1))), (9, .int (1 : Int32)), (0, .ref (zr G 44)), (1, .int x1), (2, .int x2), (3, .int x3), (4, .int x4), (5, .int x5), (8, .int x8)]) C.1.1 C.1.2.1 dX5_confessed_145 hl (by decide) rfl (fun ls hl => ?_)
            refine lv_iinc (v := (x8 + 1)) (lv' := [(8, .int (x8 + 1)), (7, .int (x7 + (mem 48 x8.toNatClampNeg))), (6, .int (x6 * ((10 : Int32) - x1))), (9, .int (1 : Int32)), (0, .ref (zr G 44)), (1, .int x1), (2, .int x2), (3, .int x3), (4, .int x4), (5, .int x5)]) C.1.1 C.1.2.1 dX5_confessed_147 hl (k := 9) rfl rfl (by decide) rfl (fun ls hl => ?_)
            refine lv_goto (tgt := 79) C.1.1 C.1.2.1 dX5_confessed_150 (by decide) ?_
            exact ih mem x1 x2 x3 x4 x5 (x6 * ((10 : Int32) - x1)) (x7 + (mem 48 x8.toNatClampNeg)) (x8 + 1) _ _ _ Z (lv_sub hl [4, 5, 6, 7, 8, 9, 2, 1, 0] rfl) hf
          · replace hf := (if_neg h883).symm.trans hf
            refine lv_iconst (v := (0 : Int32)) C.1.1 C.1.2.1 dX5_confessed_133 (by decide) ?_
            refine lv_goto (tgt := 144) C.1.1 C.1.2.1 dX5_confessed_134 (by decide) ?_
            refine lv_iadd C.1.1 C.1.2.1 dX5_confessed_144 ?_
            refine lv_istore (lv' := [(7, .int (x7 + (0 : Int32))), (6, .int (x6 * ((10 : Int32) - x1))), (9, .int (1 : Int32)), (0, .ref (zr G 44)), (1, .int x1), (2, .int x2), (3, .int x3), (4, .int x4), (5, .int x5), (8, .int x8)]) C.1.1 C.1.2.1 dX5_confessed_145 hl (by decide) rfl (fun ls hl => ?_)
            refine lv_iinc (v := (x8 + 1)) (lv' := [(8, .int (x8 + 1)), (7, .int (x7 + (0 : Int32))), (6, .int (x6 * ((10 : Int32) - x1))), (9, .int (1 : Int32)), (0, .ref (zr G 44)), (1, .int x1), (2, .int x2), (3, .int x3), (4, .int x4), (5, .int x5)]) C.1.1 C.1.2.1 dX5_confessed_147 hl (k := 9) rfl rfl (by decide) rfl (fun ls hl => ?_)
            refine lv_goto (tgt := 79) C.1.1 C.1.2.1 dX5_confessed_150 (by decide) ?_
            exact ih mem x1 x2 x3 x4 x5 (x6 * ((10 : Int32) - x1)) (x7 + (0 : Int32)) (x8 + 1) _ _ _ Z (lv_sub hl [4, 5, 6, 7, 8, 9, 2, 1, 0] rfl) hf
        · replace hf := (if_neg h882).symm.trans hf
          refine lv_iload_n C.1.1 C.1.2.1 dX5_confessed_115 rfl (lv_at hl 2 rfl) ?_
          refine lv_goto (tgt := 123) C.1.1 C.1.2.1 dX5_confessed_116 (by decide) ?_
          refine lv_imul C.1.1 C.1.2.1 dX5_confessed_123 ?_
          refine lv_istore (lv' := [(6, .int (x6 * x1)), (9, .int (1 : Int32)), (0, .ref (zr G 44)), (1, .int x1), (2, .int x2), (3, .int x3), (4, .int x4), (5, .int x5), (7, .int x7), (8, .int x8)]) C.1.1 C.1.2.1 dX5_confessed_124 hl (by decide) rfl (fun ls hl => ?_)
          refine lv_iload C.1.1 C.1.2.1 dX5_confessed_126 (lv_at hl 8 rfl) ?_
          refine lv_iload C.1.1 C.1.2.1 dX5_confessed_128 (lv_at hl 1 rfl) ?_
          refine lv_if_eq (tgt := 137) C.1.1 C.1.2.1 dX5_confessed_130 (by decide) (fun h885 => ?_) (fun h885 => ?_)
          · replace hf := (if_pos h885).symm.trans hf
            refine lv_aload_n C.1.1 C.1.2.1 dX5_confessed_137 rfl (lv_at hl 2 rfl) ?_
            refine zg_X5_19 C Z dX5_confessed_138 ?_
            refine lv_iload C.1.1 C.1.2.1 dX5_confessed_141 (lv_at hl 9 rfl) ?_
            obtain ⟨hi886, hf⟩ := zgd_some hf
            refine z_iald (k := 48) C Z (by decide) rfl hi886 dX5_confessed_143 ?_
            refine lv_iadd C.1.1 C.1.2.1 dX5_confessed_144 ?_
            refine lv_istore (lv' := [(7, .int (x7 + (mem 48 x8.toNatClampNeg))), (6, .int (x6 * x1)), (9, .int (1 : Int32)), (0, .ref (zr G 44)), (1, .int x1), (2, .int x2), (3, .int x3), (4, .int x4), (5, .int x5), (8, .int x8)]) C.1.1 C.1.2.1 dX5_confessed_145 hl (by decide) rfl (fun ls hl => ?_)
            refine lv_iinc (v := (x8 + 1)) (lv' := [(8, .int (x8 + 1)), (7, .int (x7 + (mem 48 x8.toNatClampNeg))), (6, .int (x6 * x1)), (9, .int (1 : Int32)), (0, .ref (zr G 44)), (1, .int x1), (2, .int x2), (3, .int x3), (4, .int x4), (5, .int x5)]) C.1.1 C.1.2.1 dX5_confessed_147 hl (k := 9) rfl rfl (by decide) rfl (fun ls hl => ?_)
            refine lv_goto (tgt := 79) C.1.1 C.1.2.1 dX5_confessed_150 (by decide) ?_
            exact ih mem x1 x2 x3 x4 x5 (x6 * x1) (x7 + (mem 48 x8.toNatClampNeg)) (x8 + 1) _ _ _ Z (lv_sub hl [4, 5, 6, 7, 8, 9, 2, 1, 0] rfl) hf
          · replace hf := (if_neg h885).symm.trans hf
            refine lv_iconst (v := (0 : Int32)) C.1.1 C.1.2.1 dX5_confessed_133 (by decide) ?_
            refine lv_goto (tgt := 144) C.1.1 C.1.2.1 dX5_confessed_134 (by decide) ?_
            refine lv_iadd C.1.1 C.1.2.1 dX5_confessed_144 ?_
            refine lv_istore (lv' := [(7, .int (x7 + (0 : Int32))), (6, .int (x6 * x1)), (9, .int (1 : Int32)), (0, .ref (zr G 44)), (1, .int x1), (2, .int x2), (3, .int x3), (4, .int x4), (5, .int x5), (8, .int x8)]) C.1.1 C.1.2.1 dX5_confessed_145 hl (by decide) rfl (fun ls hl => ?_)
            refine lv_iinc (v := (x8 + 1)) (lv' := [(8, .int (x8 + 1)), (7, .int (x7 + (0 : Int32))), (6, .int (x6 * x1)), (9, .int (1 : Int32)), (0, .ref (zr G 44)), (1, .int x1), (2, .int x2), (3, .int x3), (4, .int x4), (5, .int x5)]) C.1.1 C.1.2.1 dX5_confessed_147 hl (k := 9) rfl rfl (by decide) rfl (fun ls hl => ?_)
            refine lv_goto (tgt := 79) C.1.1 C.1.2.1 dX5_confessed_150 (by decide) ?_
            exact ih mem x1 x2 x3 x4 x5 (x6 * x1) (x7 + (0 : Int32)) (x8 + 1) _ _ _ Z (lv_sub hl [4, 5, 6, 7, 8, 9, 2, 1, 0] rfl) hf
set_option maxHeartbeats 4000000 in
set_option maxRecDepth 100000 in
theorem K_X5_confessed_57 {p : Program} {l : Launch} {e : Env} {s : State} {m : MethodId} {args : Array Value} {below : List Frame} {meth : Method} {c : Code} {G : zG} (C : zC (zAd G) G p s m args c cX5_confessed 10 RX5) (hr : meth.sig.returnType = (some .int)) (hlk : meth.locks = false) {r : Int32} {mem' : zMem} (N : Nat) : ∀ (n : Nat) (mem : zMem) (x1 : Int32) (x2 : Int32) (x3 : Int32) (x4 : Int32) (x5 : Int32) (H : Heap) (locs : List Loc) (ls : Array Slot), zH (zAd G) G s mem H locs → lv_has ls 10 [(0, .ref (zr G 44)), (1, .int x1), (2, .int x2), (3, .int x3), (4, .int x4), (5, .int x5)] → f_X5_confessed_57 N n mem x1 x2 x3 x4 x5 = some (r, mem') → W p l e ({ frames := 4, cells := 0, slots := 0, locals := 88 } : Room) s m args below meth c H locs 0 0 (MQ below (zQi G r mem') args s 0 0 (zAd G)) (F0 m 57 ls []) := by
  intro n
  induction n with
  | zero =>
    intro mem x1 x2 x3 x4 x5 H locs ls Z hl hf
    rw [f_X5_confessed_57.eq_1] at hf
    cases hf
  | succ n ih =>
    intro mem x1 x2 x3 x4 x5 H locs ls Z hl hf
    rw [f_X5_confessed_57.eq_2] at hf
    refine lv_iload C.1.1 C.1.2.1 dX5_confessed_57 (lv_at hl 5 rfl) ?_
    refine lv_iconst (v := (1 : Int32)) C.1.1 C.1.2.1 dX5_confessed_59 (by decide) ?_
    refine lv_aload_n C.1.1 C.1.2.1 dX5_confessed_60 rfl (lv_at hl 0 rfl) ?_
    refine zg_X5_13 C Z dX5_confessed_61 ?_
    refine lv_iconst (v := (1 : Int32)) C.1.1 C.1.2.1 dX5_confessed_64 (by decide) ?_
    refine z_iald (k := 46) C Z (by decide) rfl (by decide) dX5_confessed_65 ?_
    refine lv_ishl C.1.1 C.1.2.1 dX5_confessed_66 ?_
    refine lv_icmp_ge (tgt := 205) C.1.1 C.1.2.1 dX5_confessed_67 (by decide) (fun h887 => ?_) (fun h887 => ?_)
    · replace hf := (if_pos h887).symm.trans hf
      refine lv_iload_n C.1.1 C.1.2.1 dX5_confessed_205 rfl (lv_at hl 3 rfl) ?_
      refine lv_istore (lv' := [(5, .int x3), (0, .ref (zr G 44)), (1, .int x1), (2, .int x2), (3, .int x3), (4, .int x4)]) C.1.1 C.1.2.1 dX5_confessed_206 hl (by decide) rfl (fun ls hl => ?_)
      refine lv_iload C.1.1 C.1.2.1 dX5_confessed_208 (lv_at hl 5 rfl) ?_
      refine lv_istore (lv' := [(6, .int x4), (5, .int x3), (0, .ref (zr G 44)), (1, .int x1), (2, .int x2), (3, .int x3), (4, .int x4)]) C.1.1 C.1.2.1 dX5_confessed_210 hl (by decide) rfl (fun ls hl => ?_)
      exact K_X5_confessed_212 (l := l) (e := e) (below := below) C hr hlk N N mem x2 x3 x4 x3 x4 _ _ _ Z (lv_sub hl [4, 5, 6, 1, 0] rfl) hf
    · replace hf := (if_neg h887).symm.trans hf
      refine lv_iconst (v := (1 : Int32)) C.1.1 C.1.2.1 dX5_confessed_70 (by decide) ?_
      refine lv_istore (lv' := [(6, .int (1 : Int32)), (0, .ref (zr G 44)), (1, .int x1), (2, .int x2), (3, .int x3), (4, .int x4), (5, .int x5)]) C.1.1 C.1.2.1 dX5_confessed_71 hl (by decide) rfl (fun ls hl => ?_)
      refine lv_iconst (v := (0 : Int32)) C.1.1 C.1.2.1 dX5_confessed_73 (by decide) ?_
      refine lv_istore (lv' := [(7, .int (0 : Int32)), (6, .int (1 : Int32)), (0, .ref (zr G 44)), (1, .int x1), (2, .int x2), (3, .int x3), (4, .int x4), (5, .int x5)]) C.1.1 C.1.2.1 dX5_confessed_74 hl (by decide) rfl (fun ls hl => ?_)
      refine lv_iconst (v := (0 : Int32)) C.1.1 C.1.2.1 dX5_confessed_76 (by decide) ?_
      refine lv_istore (lv' := [(8, .int (0 : Int32)), (7, .int (0 : Int32)), (6, .int (1 : Int32)), (0, .ref (zr G 44)), (1, .int x1), (2, .int x2), (3, .int x3), (4, .int x4), (5, .int x5)]) C.1.1 C.1.2.1 dX5_confessed_77 hl (by decide) rfl (fun ls hl => ?_)
      refine K_X5_confessed_79 (l := l) (e := e) (below := below) C hr hlk N _ (fun mem_888 x1_888 x2_888 x3_888 x4_888 x5_888 x6_888 x7_888 H locs ls Z hl hf => ?_) N mem x1 x2 x3 x4 x5 (1 : Int32) (0 : Int32) (0 : Int32) _ _ _ Z (lv_sub hl [3, 4, 5, 6, 7, 8, 2, 1, 0] rfl) hf
      refine lv_iload_n C.1.1 C.1.2.1 dX5_confessed_153 rfl (lv_at hl 3 rfl) ?_
      refine lv_aload_n C.1.1 C.1.2.1 dX5_confessed_154 rfl (lv_at hl 0 rfl) ?_
      refine lv_aload_n C.1.1 C.1.2.1 dX5_confessed_155 rfl (lv_at hl 0 rfl) ?_
      obtain ⟨r889, mem889, hc889, hf⟩ := zb_some hf
      refine z_callVi (k := 44) (As := []) (rest := [.ref (zr G 44), .int x3_888]) C Z (M_X5_sermon l G C.2.1 N mem_888 r889 mem889 hc889) (zcw_X5_119 C.1.2.2.2.2 ⟨Nat.le_of_ble_eq_true rfl, Nat.le_of_ble_eq_true rfl⟩) (by decide) rfl rfl rfl hl.1 rfl (Nat.le_of_ble_eq_true rfl) ⟨Nat.le_refl 0, Nat.le_refl 0⟩ dX5_confessed_156 (fun H locs Z => ?_)
      refine lv_iload C.1.1 C.1.2.1 dX5_confessed_159 (lv_at hl 7 rfl) ?_
      refine lv_aload_n C.1.1 C.1.2.1 dX5_confessed_161 rfl (lv_at hl 0 rfl) ?_
      refine zg_X5_19 C Z dX5_confessed_162 ?_
      refine lv_bipush (v := (8 : Int32)) C.1.1 C.1.2.1 dX5_confessed_165 (by decide) ?_
      refine z_iald (k := 48) C Z (by decide) rfl (by decide) dX5_confessed_167 ?_
      refine lv_icmp_le (tgt := 184) C.1.1 C.1.2.1 dX5_confessed_168 (by decide) (fun h890 => ?_) (fun h890 => ?_)
      · replace hf := (if_pos h890).symm.trans hf
        refine lv_iconst (v := (0 : Int32)) C.1.1 C.1.2.1 dX5_confessed_184 (by decide) ?_
        obtain ⟨r891, mem891, hc891, hf⟩ := zb_some hf
        refine z_callVi (k := 44) (As := [.int r889, .int (0 : Int32)]) (rest := [.int x3_888]) C Z (M_X5_hangs l G C.2.1 N mem889 r889 (0 : Int32) r891 mem891 hc891) (zcw_X5_125 C.1.2.2.2.2 ⟨Nat.le_of_ble_eq_true rfl, Nat.le_of_ble_eq_true rfl⟩) (by decide) rfl rfl rfl hl.1 rfl (Nat.le_of_ble_eq_true rfl) ⟨Nat.le_refl 0, Nat.le_refl 0⟩ dX5_confessed_185 (fun H locs Z => ?_)
        refine lv_if_eq (tgt := 196) C.1.1 C.1.2.1 dX5_confessed_188 (by decide) (fun h892 => ?_) (fun h892 => ?_)
        · replace hf := (if_pos h892).symm.trans hf
          refine lv_iconst (v := (0 : Int32)) C.1.1 C.1.2.1 dX5_confessed_196 (by decide) ?_
          refine lv_iadd C.1.1 C.1.2.1 dX5_confessed_197 ?_
          refine lv_istore_n (lv' := [(3, .int (x3_888 + (0 : Int32))), (0, .ref (zr G 44)), (1, .int x1_888), (2, .int x2_888), (4, .int x4_888), (5, .int x5_888), (6, .int x6_888), (7, .int x7_888)]) C.1.1 C.1.2.1 dX5_confessed_198 rfl hl (by decide) rfl (fun ls hl => ?_)
          refine lv_iinc (v := (x5_888 + 1)) (lv' := [(5, .int (x5_888 + 1)), (3, .int (x3_888 + (0 : Int32))), (0, .ref (zr G 44)), (1, .int x1_888), (2, .int x2_888), (4, .int x4_888), (6, .int x6_888), (7, .int x7_888)]) C.1.1 C.1.2.1 dX5_confessed_199 hl (k := 5) rfl rfl (by decide) rfl (fun ls hl => ?_)
          refine lv_goto (tgt := 57) C.1.1 C.1.2.1 dX5_confessed_202 (by decide) ?_
          exact ih mem891 x1_888 x2_888 (x3_888 + (0 : Int32)) x4_888 (x5_888 + 1) _ _ _ Z (lv_sub hl [2, 3, 4, 1, 5, 0] rfl) hf
        · replace hf := (if_neg h892).symm.trans hf
          refine lv_iload C.1.1 C.1.2.1 dX5_confessed_191 (lv_at hl 6 rfl) ?_
          refine lv_goto (tgt := 197) C.1.1 C.1.2.1 dX5_confessed_193 (by decide) ?_
          refine lv_iadd C.1.1 C.1.2.1 dX5_confessed_197 ?_
          refine lv_istore_n (lv' := [(3, .int (x3_888 + x6_888)), (0, .ref (zr G 44)), (1, .int x1_888), (2, .int x2_888), (4, .int x4_888), (5, .int x5_888), (6, .int x6_888), (7, .int x7_888)]) C.1.1 C.1.2.1 dX5_confessed_198 rfl hl (by decide) rfl (fun ls hl => ?_)
          refine lv_iinc (v := (x5_888 + 1)) (lv' := [(5, .int (x5_888 + 1)), (3, .int (x3_888 + x6_888)), (0, .ref (zr G 44)), (1, .int x1_888), (2, .int x2_888), (4, .int x4_888), (6, .int x6_888), (7, .int x7_888)]) C.1.1 C.1.2.1 dX5_confessed_199 hl (k := 5) rfl rfl (by decide) rfl (fun ls hl => ?_)
          refine lv_goto (tgt := 57) C.1.1 C.1.2.1 dX5_confessed_202 (by decide) ?_
          exact ih mem891 x1_888 x2_888 (x3_888 + x6_888) x4_888 (x5_888 + 1) _ _ _ Z (lv_sub hl [2, 3, 4, 1, 5, 0] rfl) hf
      · replace hf := (if_neg h890).symm.trans hf
        refine lv_iload C.1.1 C.1.2.1 dX5_confessed_171 (lv_at hl 7 rfl) ?_
        refine lv_aload_n C.1.1 C.1.2.1 dX5_confessed_173 rfl (lv_at hl 0 rfl) ?_
        refine zg_X5_19 C Z dX5_confessed_174 ?_
        refine lv_bipush (v := (8 : Int32)) C.1.1 C.1.2.1 dX5_confessed_177 (by decide) ?_
        refine z_iald (k := 48) C Z (by decide) rfl (by decide) dX5_confessed_179 ?_
        refine lv_isub C.1.1 C.1.2.1 dX5_confessed_180 ?_
        refine lv_goto (tgt := 185) C.1.1 C.1.2.1 dX5_confessed_181 (by decide) ?_
        obtain ⟨r893, mem893, hc893, hf⟩ := zb_some hf
        refine z_callVi (k := 44) (As := [.int r889, .int (x7_888 - (mem889 48 (8 : Int32).toNatClampNeg))]) (rest := [.int x3_888]) C Z (M_X5_hangs l G C.2.1 N mem889 r889 (x7_888 - (mem889 48 (8 : Int32).toNatClampNeg)) r893 mem893 hc893) (zcw_X5_125 C.1.2.2.2.2 ⟨Nat.le_of_ble_eq_true rfl, Nat.le_of_ble_eq_true rfl⟩) (by decide) rfl rfl rfl hl.1 rfl (Nat.le_of_ble_eq_true rfl) ⟨Nat.le_refl 0, Nat.le_refl 0⟩ dX5_confessed_185 (fun H locs Z => ?_)
        refine lv_if_eq (tgt := 196) C.1.1 C.1.2.1 dX5_confessed_188 (by decide) (fun h894 => ?_) (fun h894 => ?_)
        · replace hf := (if_pos h894).symm.trans hf
          refine lv_iconst (v := (0 : Int32)) C.1.1 C.1.2.1 dX5_confessed_196 (by decide) ?_
          refine lv_iadd C.1.1 C.1.2.1 dX5_confessed_197 ?_
          refine lv_istore_n (lv' := [(3, .int (x3_888 + (0 : Int32))), (0, .ref (zr G 44)), (1, .int x1_888), (2, .int x2_888), (4, .int x4_888), (5, .int x5_888), (6, .int x6_888), (7, .int x7_888)]) C.1.1 C.1.2.1 dX5_confessed_198 rfl hl (by decide) rfl (fun ls hl => ?_)
          refine lv_iinc (v := (x5_888 + 1)) (lv' := [(5, .int (x5_888 + 1)), (3, .int (x3_888 + (0 : Int32))), (0, .ref (zr G 44)), (1, .int x1_888), (2, .int x2_888), (4, .int x4_888), (6, .int x6_888), (7, .int x7_888)]) C.1.1 C.1.2.1 dX5_confessed_199 hl (k := 5) rfl rfl (by decide) rfl (fun ls hl => ?_)
          refine lv_goto (tgt := 57) C.1.1 C.1.2.1 dX5_confessed_202 (by decide) ?_
          exact ih mem893 x1_888 x2_888 (x3_888 + (0 : Int32)) x4_888 (x5_888 + 1) _ _ _ Z (lv_sub hl [2, 3, 4, 1, 5, 0] rfl) hf
        · replace hf := (if_neg h894).symm.trans hf
          refine lv_iload C.1.1 C.1.2.1 dX5_confessed_191 (lv_at hl 6 rfl) ?_
          refine lv_goto (tgt := 197) C.1.1 C.1.2.1 dX5_confessed_193 (by decide) ?_
          refine lv_iadd C.1.1 C.1.2.1 dX5_confessed_197 ?_
          refine lv_istore_n (lv' := [(3, .int (x3_888 + x6_888)), (0, .ref (zr G 44)), (1, .int x1_888), (2, .int x2_888), (4, .int x4_888), (5, .int x5_888), (6, .int x6_888), (7, .int x7_888)]) C.1.1 C.1.2.1 dX5_confessed_198 rfl hl (by decide) rfl (fun ls hl => ?_)
          refine lv_iinc (v := (x5_888 + 1)) (lv' := [(5, .int (x5_888 + 1)), (3, .int (x3_888 + x6_888)), (0, .ref (zr G 44)), (1, .int x1_888), (2, .int x2_888), (4, .int x4_888), (6, .int x6_888), (7, .int x7_888)]) C.1.1 C.1.2.1 dX5_confessed_199 hl (k := 5) rfl rfl (by decide) rfl (fun ls hl => ?_)
          refine lv_goto (tgt := 57) C.1.1 C.1.2.1 dX5_confessed_202 (by decide) ?_
          exact ih mem893 x1_888 x2_888 (x3_888 + x6_888) x4_888 (x5_888 + 1) _ _ _ Z (lv_sub hl [2, 3, 4, 1, 5, 0] rfl) hf
set_option maxHeartbeats 4000000 in
set_option maxRecDepth 100000 in
theorem K_X5_confessed_30 {p : Program} {l : Launch} {e : Env} {s : State} {m : MethodId} {args : Array Value} {below : List Frame} {meth : Method} {c : Code} {G : zG} (C : zC (zAd G) G p s m args c cX5_confessed 10 RX5) (hr : meth.sig.returnType = (some .int)) (hlk : meth.locks = false) {r : Int32} {mem' : zMem} (N : Nat) : ∀ (n : Nat) (mem : zMem) (x1 : Int32) (x2 : Int32) (x3 : Int32) (x4 : Int32) (x5 : Int32) (H : Heap) (locs : List Loc) (ls : Array Slot), zH (zAd G) G s mem H locs → lv_has ls 10 [(0, .ref (zr G 44)), (1, .int x1), (2, .int x2), (3, .int x3), (4, .int x4), (5, .int x5)] → f_X5_confessed_30 N n mem x1 x2 x3 x4 x5 = some (r, mem') → W p l e ({ frames := 4, cells := 0, slots := 0, locals := 88 } : Room) s m args below meth c H locs 0 0 (MQ below (zQi G r mem') args s 0 0 (zAd G)) (F0 m 30 ls []) := by
  intro n
  induction n with
  | zero =>
    intro mem x1 x2 x3 x4 x5 H locs ls Z hl hf
    rw [f_X5_confessed_30.eq_1] at hf
    cases hf
  | succ n ih =>
    intro mem x1 x2 x3 x4 x5 H locs ls Z hl hf
    rw [f_X5_confessed_30.eq_2] at hf
    refine lv_iload C.1.1 C.1.2.1 dX5_confessed_30 (lv_at hl 5 rfl) ?_
    refine lv_aload_n C.1.1 C.1.2.1 dX5_confessed_32 rfl (lv_at hl 0 rfl) ?_
    refine zg_X5_13 C Z dX5_confessed_33 ?_
    refine lv_iconst (v := (1 : Int32)) C.1.1 C.1.2.1 dX5_confessed_36 (by decide) ?_
    refine z_iald (k := 46) C Z (by decide) rfl (by decide) dX5_confessed_37 ?_
    refine lv_icmp_ge (tgt := 54) C.1.1 C.1.2.1 dX5_confessed_38 (by decide) (fun h895 => ?_) (fun h895 => ?_)
    · replace hf := (if_pos h895).symm.trans hf
      refine lv_iconst (v := (0 : Int32)) C.1.1 C.1.2.1 dX5_confessed_54 (by decide) ?_
      refine lv_istore (lv' := [(5, .int (0 : Int32)), (0, .ref (zr G 44)), (1, .int x1), (2, .int x2), (3, .int x3), (4, .int x4)]) C.1.1 C.1.2.1 dX5_confessed_55 hl (by decide) rfl (fun ls hl => ?_)
      exact K_X5_confessed_57 (l := l) (e := e) (below := below) C hr hlk N N mem x1 x2 x3 x4 (0 : Int32) _ _ _ Z (lv_sub hl [1, 2, 3, 4, 5, 0] rfl) hf
    · replace hf := (if_neg h895).symm.trans hf
      refine lv_iload C.1.1 C.1.2.1 dX5_confessed_41 (lv_at hl 4 rfl) ?_
      refine lv_bipush (v := (10 : Int32)) C.1.1 C.1.2.1 dX5_confessed_43 (by decide) ?_
      refine lv_imul C.1.1 C.1.2.1 dX5_confessed_45 ?_
      refine lv_istore (lv' := [(4, .int (x4 * (10 : Int32))), (0, .ref (zr G 44)), (1, .int x1), (2, .int x2), (3, .int x3), (5, .int x5)]) C.1.1 C.1.2.1 dX5_confessed_46 hl (by decide) rfl (fun ls hl => ?_)
      refine lv_iinc (v := (x5 + 1)) (lv' := [(5, .int (x5 + 1)), (4, .int (x4 * (10 : Int32))), (0, .ref (zr G 44)), (1, .int x1), (2, .int x2), (3, .int x3)]) C.1.1 C.1.2.1 dX5_confessed_48 hl (k := 5) rfl rfl (by decide) rfl (fun ls hl => ?_)
      refine lv_goto (tgt := 30) C.1.1 C.1.2.1 dX5_confessed_51 (by decide) ?_
      exact ih mem x1 x2 x3 (x4 * (10 : Int32)) (x5 + 1) _ _ _ Z (lv_sub hl [2, 3, 4, 5, 1, 0] rfl) hf
set_option maxHeartbeats 4000000 in
set_option maxRecDepth 100000 in
theorem M_X5_confessed (l : Launch) (G : zG) (hG : zOK G) (N : Nat) (mem : zMem) (a1 : Int32) (a2 : Int32) (r : Int32) (mem' : zMem) (hf : f_X5_confessed N mem a1 a2 = some (r, mem')) : zM l G yX5_confessed cX5_confessed 10 (some .int) 4 88 [.ref (zr G 44), .int a1, .int a2] mem (zQi G r mem') := by
  refine zStart hG (by decide +kernel) (Nat.le_of_ble_eq_true rfl) (fun p e s m below meth c C hr hlk ls hl Z => ?_)
  have hl : lv_has ls 10 [(0, .ref (zr G 44)), (1, .int a1), (2, .int a2)] := hl
  have C : zC (zAd G) G p s m _ c cX5_confessed 10 RX5 := C
  unfold f_X5_confessed at hf
  refine lv_iload_n C.1.1 C.1.2.1 dX5_confessed_0 rfl (lv_at hl 1 rfl) ?_
  refine lv_iconst (v := (0 : Int32)) C.1.1 C.1.2.1 dX5_confessed_1 (by decide) ?_
  refine lv_bipush (v := (10 : Int32)) C.1.1 C.1.2.1 dX5_confessed_2 (by decide) ?_
  obtain ⟨r896, mem896, hc896, hf⟩ := zb_some hf
  refine z_callSi (As := [.int a1, .int (0 : Int32), .int (10 : Int32)]) (rest := []) C Z (M_X5_in l G C.2.1 N mem a1 (0 : Int32) (10 : Int32) r896 mem896 hc896) (zcw_X5_44 C.1.2.2.2.2 ⟨Nat.le_of_ble_eq_true rfl, Nat.le_of_ble_eq_true rfl⟩) rfl hl.1 rfl (Nat.le_of_ble_eq_true rfl) ⟨Nat.le_refl 0, Nat.le_refl 0⟩ dX5_confessed_4 (fun H locs Z => ?_)
  refine lv_if_eq (tgt := 19) C.1.1 C.1.2.1 dX5_confessed_7 (by decide) (fun h897 => ?_) (fun h897 => ?_)
  · replace hf := (if_pos h897).symm.trans hf
    refine lv_bipush (v := (-3 : Int32)) C.1.1 C.1.2.1 dX5_confessed_19 (by decide) ?_
    cases hf
    exact z_iret C Z hr hlk dX5_confessed_21
  · replace hf := (if_neg h897).symm.trans hf
    refine lv_iload_n C.1.1 C.1.2.1 dX5_confessed_10 rfl (lv_at hl 2 rfl) ?_
    refine lv_iconst (v := (0 : Int32)) C.1.1 C.1.2.1 dX5_confessed_11 (by decide) ?_
    refine lv_iconst (v := (1 : Int32)) C.1.1 C.1.2.1 dX5_confessed_12 (by decide) ?_
    obtain ⟨r898, mem898, hc898, hf⟩ := zb_some hf
    refine z_callSi (As := [.int a2, .int (0 : Int32), .int (1 : Int32)]) (rest := []) C Z (M_X5_in l G C.2.1 N mem896 a2 (0 : Int32) (1 : Int32) r898 mem898 hc898) (zcw_X5_44 C.1.2.2.2.2 ⟨Nat.le_of_ble_eq_true rfl, Nat.le_of_ble_eq_true rfl⟩) rfl hl.1 rfl (Nat.le_of_ble_eq_true rfl) ⟨Nat.le_refl 0, Nat.le_refl 0⟩ dX5_confessed_13 (fun H locs Z => ?_)
    refine lv_if_ne (tgt := 22) C.1.1 C.1.2.1 dX5_confessed_16 (by decide) (fun h899 => ?_) (fun h899 => ?_)
    · replace hf := (if_neg h899).symm.trans hf
      refine lv_iconst (v := (0 : Int32)) C.1.1 C.1.2.1 dX5_confessed_22 (by decide) ?_
      refine lv_istore_n (lv' := [(3, .int (0 : Int32)), (0, .ref (zr G 44)), (1, .int a1), (2, .int a2)]) C.1.1 C.1.2.1 dX5_confessed_23 rfl hl (by decide) rfl (fun ls hl => ?_)
      refine lv_iconst (v := (1 : Int32)) C.1.1 C.1.2.1 dX5_confessed_24 (by decide) ?_
      refine lv_istore (lv' := [(4, .int (1 : Int32)), (3, .int (0 : Int32)), (0, .ref (zr G 44)), (1, .int a1), (2, .int a2)]) C.1.1 C.1.2.1 dX5_confessed_25 hl (by decide) rfl (fun ls hl => ?_)
      refine lv_iconst (v := (0 : Int32)) C.1.1 C.1.2.1 dX5_confessed_27 (by decide) ?_
      refine lv_istore (lv' := [(5, .int (0 : Int32)), (4, .int (1 : Int32)), (3, .int (0 : Int32)), (0, .ref (zr G 44)), (1, .int a1), (2, .int a2)]) C.1.1 C.1.2.1 dX5_confessed_28 hl (by decide) rfl (fun ls hl => ?_)
      exact K_X5_confessed_30 (l := l) (e := e) (below := below) C hr hlk N N mem898 a1 a2 (0 : Int32) (1 : Int32) (0 : Int32) _ _ _ Z (lv_sub hl [3, 4, 5, 2, 1, 0] rfl) hf
    · replace hf := (if_pos h899).symm.trans hf
      refine lv_bipush (v := (-3 : Int32)) C.1.1 C.1.2.1 dX5_confessed_19 (by decide) ?_
      cases hf
      exact z_iret C Z hr hlk dX5_confessed_21
set_option maxHeartbeats 4000000 in
set_option maxRecDepth 100000 in
theorem M_X5_count (l : Launch) (G : zG) (hG : zOK G) (N : Nat) (mem : zMem) (a1 : Int32) (r : Int32) (mem' : zMem) (hf : f_X5_count N mem a1 = some (r, mem')) : zM l G yX5_count cX5_count 2 (some .int) 5 108 [.ref (zr G 44), .int a1] mem (zQi G r mem') := by
  refine zStart hG (by decide +kernel) (Nat.le_of_ble_eq_true rfl) (fun p e s m below meth c C hr hlk ls hl Z => ?_)
  have hl : lv_has ls 2 [(0, .ref (zr G 44)), (1, .int a1)] := hl
  have C : zC (zAd G) G p s m _ c cX5_count 2 RX5 := C
  unfold f_X5_count at hf
  refine lv_iload_n C.1.1 C.1.2.1 dX5_count_0 rfl (lv_at hl 1 rfl) ?_
  by_cases h900 : a1 = 0
  · replace hf := (if_pos h900).symm.trans hf
    refine lv_tableIn (off := 75) (tgt := 76) C.1.1 C.1.2.1 dX5_count_1 (by rw [h900]; decide) (by rw [h900]; decide) (by rw [h900]; rfl) (by decide) ?_
    refine lv_aload_n C.1.1 C.1.2.1 dX5_count_76 rfl (lv_at hl 0 rfl) ?_
    refine zg_X5_13 C Z dX5_count_77 ?_
    refine lv_iconst (v := (0 : Int32)) C.1.1 C.1.2.1 dX5_count_80 (by decide) ?_
    refine z_iald (k := 46) C Z (by decide) rfl (by decide) dX5_count_81 ?_
    cases hf
    exact z_iret C Z hr hlk dX5_count_82
  replace hf := (if_neg h900).symm.trans hf
  by_cases h901 : a1 = 1
  · replace hf := (if_pos h901).symm.trans hf
    refine lv_tableIn (off := 82) (tgt := 83) C.1.1 C.1.2.1 dX5_count_1 (by rw [h901]; decide) (by rw [h901]; decide) (by rw [h901]; rfl) (by decide) ?_
    refine lv_aload_n C.1.1 C.1.2.1 dX5_count_83 rfl (lv_at hl 0 rfl) ?_
    refine zg_X5_13 C Z dX5_count_84 ?_
    refine lv_iconst (v := (1 : Int32)) C.1.1 C.1.2.1 dX5_count_87 (by decide) ?_
    refine z_iald (k := 46) C Z (by decide) rfl (by decide) dX5_count_88 ?_
    cases hf
    exact z_iret C Z hr hlk dX5_count_89
  replace hf := (if_neg h901).symm.trans hf
  by_cases h902 : a1 = 2
  · replace hf := (if_pos h902).symm.trans hf
    refine lv_tableIn (off := 89) (tgt := 90) C.1.1 C.1.2.1 dX5_count_1 (by rw [h902]; decide) (by rw [h902]; decide) (by rw [h902]; rfl) (by decide) ?_
    refine lv_aload_n C.1.1 C.1.2.1 dX5_count_90 rfl (lv_at hl 0 rfl) ?_
    refine zg_X5_19 C Z dX5_count_91 ?_
    refine lv_bipush (v := (9 : Int32)) C.1.1 C.1.2.1 dX5_count_94 (by decide) ?_
    refine z_iald (k := 48) C Z (by decide) rfl (by decide) dX5_count_96 ?_
    cases hf
    exact z_iret C Z hr hlk dX5_count_97
  replace hf := (if_neg h902).symm.trans hf
  by_cases h903 : a1 = 3
  · replace hf := (if_pos h903).symm.trans hf
    refine lv_tableIn (off := 97) (tgt := 98) C.1.1 C.1.2.1 dX5_count_1 (by rw [h903]; decide) (by rw [h903]; decide) (by rw [h903]; rfl) (by decide) ?_
    refine lv_aload_n C.1.1 C.1.2.1 dX5_count_98 rfl (lv_at hl 0 rfl) ?_
    obtain ⟨r904, mem904, hc904, hf⟩ := zb_some hf
    refine z_callVi (k := 44) (As := []) (rest := []) C Z (M_X5_sermon l G C.2.1 N mem r904 mem904 hc904) (zcw_X5_119 C.1.2.2.2.2 ⟨Nat.le_of_ble_eq_true rfl, Nat.le_of_ble_eq_true rfl⟩) (by decide) rfl rfl rfl hl.1 rfl (Nat.le_of_ble_eq_true rfl) ⟨Nat.le_refl 0, Nat.le_refl 0⟩ dX5_count_99 (fun H locs Z => ?_)
    cases hf
    exact z_iret C Z hr hlk dX5_count_102
  replace hf := (if_neg h903).symm.trans hf
  by_cases h905 : a1 = 4
  · replace hf := (if_pos h905).symm.trans hf
    refine lv_tableIn (off := 102) (tgt := 103) C.1.1 C.1.2.1 dX5_count_1 (by rw [h905]; decide) (by rw [h905]; decide) (by rw [h905]; rfl) (by decide) ?_
    refine lv_aload_n C.1.1 C.1.2.1 dX5_count_103 rfl (lv_at hl 0 rfl) ?_
    obtain ⟨r906, mem906, hc906, hf⟩ := zb_some hf
    refine z_callVi (k := 44) (As := []) (rest := []) C Z (M_X5_lead l G C.2.1 N mem r906 mem906 hc906) (zcw_X5_122 C.1.2.2.2.2 ⟨Nat.le_of_ble_eq_true rfl, Nat.le_of_ble_eq_true rfl⟩) (by decide) rfl rfl rfl hl.1 rfl (Nat.le_of_ble_eq_true rfl) ⟨Nat.le_refl 0, Nat.le_refl 0⟩ dX5_count_104 (fun H locs Z => ?_)
    cases hf
    exact z_iret C Z hr hlk dX5_count_107
  replace hf := (if_neg h905).symm.trans hf
  by_cases h907 : a1 = 5
  · replace hf := (if_pos h907).symm.trans hf
    refine lv_tableIn (off := 107) (tgt := 108) C.1.1 C.1.2.1 dX5_count_1 (by rw [h907]; decide) (by rw [h907]; decide) (by rw [h907]; rfl) (by decide) ?_
    refine lv_aload_n C.1.1 C.1.2.1 dX5_count_108 rfl (lv_at hl 0 rfl) ?_
    obtain ⟨r908, mem908, hc908, hf⟩ := zb_some hf
    refine z_callVi (k := 44) (As := []) (rest := []) C Z (M_X5_isLevel l G C.2.1 N mem r908 mem908 hc908) (zcw_X5_132 C.1.2.2.2.2 ⟨Nat.le_of_ble_eq_true rfl, Nat.le_of_ble_eq_true rfl⟩) (by decide) rfl rfl rfl hl.1 rfl (Nat.le_of_ble_eq_true rfl) ⟨Nat.le_refl 0, Nat.le_refl 0⟩ dX5_count_109 (fun H locs Z => ?_)
    refine lv_if_eq (tgt := 119) C.1.1 C.1.2.1 dX5_count_112 (by decide) (fun h909 => ?_) (fun h909 => ?_)
    · replace hf := (if_pos h909).symm.trans hf
      refine lv_iconst (v := (0 : Int32)) C.1.1 C.1.2.1 dX5_count_119 (by decide) ?_
      cases hf
      exact z_iret C Z hr hlk dX5_count_120
    · replace hf := (if_neg h909).symm.trans hf
      refine lv_iconst (v := (1 : Int32)) C.1.1 C.1.2.1 dX5_count_115 (by decide) ?_
      refine lv_goto (tgt := 120) C.1.1 C.1.2.1 dX5_count_116 (by decide) ?_
      cases hf
      exact z_iret C Z hr hlk dX5_count_120
  replace hf := (if_neg h907).symm.trans hf
  by_cases h910 : a1 = 6
  · replace hf := (if_pos h910).symm.trans hf
    refine lv_tableIn (off := 120) (tgt := 121) C.1.1 C.1.2.1 dX5_count_1 (by rw [h910]; decide) (by rw [h910]; decide) (by rw [h910]; rfl) (by decide) ?_
    refine lv_aload_n C.1.1 C.1.2.1 dX5_count_121 rfl (lv_at hl 0 rfl) ?_
    refine zg_X5_19 C Z dX5_count_122 ?_
    refine lv_bipush (v := (7 : Int32)) C.1.1 C.1.2.1 dX5_count_125 (by decide) ?_
    refine z_iald (k := 48) C Z (by decide) rfl (by decide) dX5_count_127 ?_
    cases hf
    exact z_iret C Z hr hlk dX5_count_128
  replace hf := (if_neg h910).symm.trans hf
  by_cases h911 : a1 = 7
  · replace hf := (if_pos h911).symm.trans hf
    refine lv_tableIn (off := 128) (tgt := 129) C.1.1 C.1.2.1 dX5_count_1 (by rw [h911]; decide) (by rw [h911]; decide) (by rw [h911]; rfl) (by decide) ?_
    refine lv_aload_n C.1.1 C.1.2.1 dX5_count_129 rfl (lv_at hl 0 rfl) ?_
    refine zg_X5_19 C Z dX5_count_130 ?_
    refine lv_bipush (v := (10 : Int32)) C.1.1 C.1.2.1 dX5_count_133 (by decide) ?_
    refine z_iald (k := 48) C Z (by decide) rfl (by decide) dX5_count_135 ?_
    cases hf
    exact z_iret C Z hr hlk dX5_count_136
  replace hf := (if_neg h911).symm.trans hf
  by_cases h912 : a1 = 8
  · replace hf := (if_pos h912).symm.trans hf
    refine lv_tableIn (off := 136) (tgt := 137) C.1.1 C.1.2.1 dX5_count_1 (by rw [h912]; decide) (by rw [h912]; decide) (by rw [h912]; rfl) (by decide) ?_
    refine lv_aload_n C.1.1 C.1.2.1 dX5_count_137 rfl (lv_at hl 0 rfl) ?_
    refine zg_X5_19 C Z dX5_count_138 ?_
    refine lv_bipush (v := (11 : Int32)) C.1.1 C.1.2.1 dX5_count_141 (by decide) ?_
    refine z_iald (k := 48) C Z (by decide) rfl (by decide) dX5_count_143 ?_
    cases hf
    exact z_iret C Z hr hlk dX5_count_144
  replace hf := (if_neg h912).symm.trans hf
  by_cases h913 : a1 = 9
  · replace hf := (if_pos h913).symm.trans hf
    refine lv_tableIn (off := 144) (tgt := 145) C.1.1 C.1.2.1 dX5_count_1 (by rw [h913]; decide) (by rw [h913]; decide) (by rw [h913]; rfl) (by decide) ?_
    refine lv_aload_n C.1.1 C.1.2.1 dX5_count_145 rfl (lv_at hl 0 rfl) ?_
    refine zg_X5_19 C Z dX5_count_146 ?_
    refine lv_bipush (v := (8 : Int32)) C.1.1 C.1.2.1 dX5_count_149 (by decide) ?_
    refine z_iald (k := 48) C Z (by decide) rfl (by decide) dX5_count_151 ?_
    cases hf
    exact z_iret C Z hr hlk dX5_count_152
  replace hf := (if_neg h913).symm.trans hf
  by_cases h914 : a1 = 10
  · replace hf := (if_pos h914).symm.trans hf
    refine lv_tableIn (off := 152) (tgt := 153) C.1.1 C.1.2.1 dX5_count_1 (by rw [h914]; decide) (by rw [h914]; decide) (by rw [h914]; rfl) (by decide) ?_
    refine lv_aload_n C.1.1 C.1.2.1 dX5_count_153 rfl (lv_at hl 0 rfl) ?_
    refine zg_X5_19 C Z dX5_count_154 ?_
    refine lv_bipush (v := (6 : Int32)) C.1.1 C.1.2.1 dX5_count_157 (by decide) ?_
    refine z_iald (k := 48) C Z (by decide) rfl (by decide) dX5_count_159 ?_
    cases hf
    exact z_iret C Z hr hlk dX5_count_160
  replace hf := (if_neg h914).symm.trans hf
  by_cases h915 : a1 = 11
  · replace hf := (if_pos h915).symm.trans hf
    refine lv_tableIn (off := 160) (tgt := 161) C.1.1 C.1.2.1 dX5_count_1 (by rw [h915]; decide) (by rw [h915]; decide) (by rw [h915]; rfl) (by decide) ?_
    refine lv_aload_n C.1.1 C.1.2.1 dX5_count_161 rfl (lv_at hl 0 rfl) ?_
    refine zg_X5_98 C Z dX5_count_162 ?_
    cases hf
    exact z_iret C Z hr hlk dX5_count_165
  replace hf := (if_neg h915).symm.trans hf
  by_cases h916 : a1 = 12
  · replace hf := (if_pos h916).symm.trans hf
    refine lv_tableIn (off := 165) (tgt := 166) C.1.1 C.1.2.1 dX5_count_1 (by rw [h916]; decide) (by rw [h916]; decide) (by rw [h916]; rfl) (by decide) ?_
    refine lv_aload_n C.1.1 C.1.2.1 dX5_count_166 rfl (lv_at hl 0 rfl) ?_
    refine zg_X5_101 C Z dX5_count_167 ?_
    cases hf
    exact z_iret C Z hr hlk dX5_count_170
  replace hf := (if_neg h916).symm.trans hf
  by_cases h917 : a1 = 13
  · replace hf := (if_pos h917).symm.trans hf
    refine lv_tableIn (off := 170) (tgt := 171) C.1.1 C.1.2.1 dX5_count_1 (by rw [h917]; decide) (by rw [h917]; decide) (by rw [h917]; rfl) (by decide) ?_
    refine lv_aload_n C.1.1 C.1.2.1 dX5_count_171 rfl (lv_at hl 0 rfl) ?_
    refine zg_X5_95 C Z dX5_count_172 ?_
    cases hf
    exact z_iret C Z hr hlk dX5_count_175
  replace hf := (if_neg h917).symm.trans hf
  by_cases h918 : a1 = 14
  · replace hf := (if_pos h918).symm.trans hf
    refine lv_tableIn (off := 175) (tgt := 176) C.1.1 C.1.2.1 dX5_count_1 (by rw [h918]; decide) (by rw [h918]; decide) (by rw [h918]; rfl) (by decide) ?_
    refine lv_aload_n C.1.1 C.1.2.1 dX5_count_176 rfl (lv_at hl 0 rfl) ?_
    refine zg_X5_48 C Z dX5_count_177 ?_
    cases hf
    exact z_iret C Z hr hlk dX5_count_180
  replace hf := (if_neg h918).symm.trans hf
  have eh900 := lv_neT h900 (a := 0) rfl
  have eh901 := lv_neT h901 (a := 1) rfl
  have eh902 := lv_neT h902 (a := 2) rfl
  have eh903 := lv_neT h903 (a := 3) rfl
  have eh905 := lv_neT h905 (a := 4) rfl
  have eh907 := lv_neT h907 (a := 5) rfl
  have eh910 := lv_neT h910 (a := 6) rfl
  have eh911 := lv_neT h911 (a := 7) rfl
  have eh912 := lv_neT h912 (a := 8) rfl
  have eh913 := lv_neT h913 (a := 9) rfl
  have eh914 := lv_neT h914 (a := 10) rfl
  have eh915 := lv_neT h915 (a := 11) rfl
  have eh916 := lv_neT h916 (a := 12) rfl
  have eh917 := lv_neT h917 (a := 13) rfl
  have eh918 := lv_neT h918 (a := 14) rfl
  refine lv_tableOut (tgt := 181) C.1.1 C.1.2.1 dX5_count_1 (by omega) (by decide) ?_
  refine lv_bipush (v := (-3 : Int32)) C.1.1 C.1.2.1 dX5_count_181 (by decide) ?_
  cases hf
  exact z_iret C Z hr hlk dX5_count_183
