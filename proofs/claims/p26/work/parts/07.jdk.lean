theorem js_small : ∀ t : Fin 9, jsLen.getD t.val 0 < 6 := by decide +kernel
theorem js_len {t : Nat} (ht : t < 9) : jsLen.getD t 0 < 6 := js_small ⟨t, ht⟩
theorem js_char0 : ∀ t : Fin 9, ∀ j : Fin 6, ((((jsByt.getD t.val []).getD j.val 0) &&& 255).toUInt32 % 65536).toInt32 = (jsByt.getD t.val []).getD j.val 0 ∧ narrow .char (.int ((jsByt.getD t.val []).getD j.val 0)) = .int ((jsByt.getD t.val []).getD j.val 0) := by
  intro t j
  match t, j with
  | ⟨t, ht⟩, ⟨j, hj⟩ =>
    have h : t < 9 := ht
    have h2 : j < 6 := hj
    have key : ∀ x ∈ ([0, 107, 105, 114, 119, 111, 100, 103, 101, 113, 117, 116, 112, 115, 97, 108, 109, 104, 98] : List Int32), ((x &&& 255).toUInt32 % 65536).toInt32 = x ∧ narrow .char (.int x) = .int x := by
      intro x hx
      simp only [List.mem_cons, List.not_mem_nil, or_false] at hx
      rcases hx with rfl | rfl | rfl | rfl | rfl | rfl | rfl | rfl | rfl | rfl | rfl | rfl | rfl | rfl | rfl | rfl | rfl | rfl | rfl <;> exact ⟨rfl, rfl⟩
    refine key _ ?_
    have all : ∀ t : Fin 9, ∀ j : Fin 6, (jsByt.getD t.val []).getD j.val 0 ∈ ([0, 107, 105, 114, 119, 111, 100, 103, 101, 113, 117, 116, 112, 115, 97, 108, 109, 104, 98] : List Int32) := by decide +kernel
    exact all ⟨t, h⟩ ⟨j, h2⟩
section ZX
variable {A : Nat → Prop} {G : zG} {p : Program} {l : Launch} {e : Env} {R : Room} {s : State} {m : MethodId} {args : Array Value} {below : List Frame} {meth : Method} {c : Code} {H : Heap} {locs : List Loc} {cells slots : Nat} {Q : State → Prop}
variable {cc : ByteArray} {nL : Nat} {own : String} {pc : Nat} {ls : Array Slot} {rest st : List Value} {mem : zMem}
theorem z_xret {v : Int32} {ty : FieldType} (C : zC (zAd G) G p s m args c cc nL own) (Z : zH (zAd G) G s mem H locs) (hr : meth.sig.returnType = some ty) (hlk : meth.locks = false) (hn : narrow ty (.int v) = .int v) (hdg : decode cc pc = .ok (.ireturn, 1)) : W p l e R s m args below meth c H locs 0 0 (MQ below (zQi G v mem) args s 0 0 (zAd G)) (F0 m pc ls [.int v]) :=
  W.zret C.1.1 C.1.2.1 hr hn (fun t ht hW => ⟨⟨v, (), rfl, rfl, by show va_P _ _ _ _; rw [ht]; exact Z.1⟩, Z.2.F ht⟩) Z.2.2.2 hdg hlk
end ZX
set_option maxHeartbeats 4000000 in
set_option maxRecDepth 100000 in
theorem M_J0_coder_7d493 (l : Launch) (G : zG) (hG : zOK G) (t : Nat) (ht : t < 9) (mem : zMem) : zM l G yJ0_coder_7d493 cJ0_coder_7d493 1 (some .byte) 0 0 [.ref (zk G t)] mem (zQi G 0 mem) := by
  refine zStart hG (by decide +kernel) (Nat.le_of_ble_eq_true rfl) (fun p e s m below meth c C hr hlk ls hl Z => ?_)
  have hl : lv_has ls 1 [(0, .ref (zk G t))] := hl
  have C : zC (zAd G) G p s m _ c cJ0_coder_7d493 1 RJ0 := C
  refine va_gets C.1.1 C.1.2.1 C.2.2.2.2.2.2.1 Z.2 C.1.2.2.2.1 (C.1.2.2.2.2 _ lkF_J0_38) (fun _ h => h) dJ0_coder_7d493_0 ?_
  refine lv_if_eq (tgt := 13) C.1.1 C.1.2.1 dJ0_coder_7d493_3 (by decide) (fun h => absurd h (by decide)) (fun _ => ?_)
  refine lv_aload_n C.1.1 C.1.2.1 dJ0_coder_7d493_6 rfl (lv_at hl 0 rfl) ?_
  refine vk_getf C.1.1 C.1.2.1 (C.2.2.2.2.1.1 t ht).2.1 Z.2 C.1.2.2.2.1 (C.1.2.2.2.2 _ lkF_J0_15) (fun _ h => h) dJ0_coder_7d493_7 ?_
  refine lv_goto (tgt := 14) C.1.1 C.1.2.1 dJ0_coder_7d493_10 (by decide) ?_
  exact z_xret C Z hr hlk rfl dJ0_coder_7d493_14
set_option maxHeartbeats 4000000 in
set_option maxRecDepth 100000 in
theorem M_J0_isLatin1_aae02 (l : Launch) (G : zG) (hG : zOK G) (t : Nat) (ht : t < 9) (mem : zMem) : zM l G yJ0_isLatin1_aae02 cJ0_isLatin1_aae02 1 (some .boolean) 0 0 [.ref (zk G t)] mem (zQi G 1 mem) := by
  refine zStart hG (by decide +kernel) (Nat.le_of_ble_eq_true rfl) (fun p e s m below meth c C hr hlk ls hl Z => ?_)
  have hl : lv_has ls 1 [(0, .ref (zk G t))] := hl
  have C : zC (zAd G) G p s m _ c cJ0_isLatin1_aae02 1 RJ0 := C
  refine va_gets C.1.1 C.1.2.1 C.2.2.2.2.2.2.1 Z.2 C.1.2.2.2.1 (C.1.2.2.2.2 _ lkF_J0_38) (fun _ h => h) dJ0_isLatin1_aae02_0 ?_
  refine lv_if_eq (tgt := 17) C.1.1 C.1.2.1 dJ0_isLatin1_aae02_3 (by decide) (fun h => absurd h (by decide)) (fun _ => ?_)
  refine lv_aload_n C.1.1 C.1.2.1 dJ0_isLatin1_aae02_6 rfl (lv_at hl 0 rfl) ?_
  refine vk_getf C.1.1 C.1.2.1 (C.2.2.2.2.1.1 t ht).2.1 Z.2 C.1.2.2.2.1 (C.1.2.2.2.2 _ lkF_J0_15) (fun _ h => h) dJ0_isLatin1_aae02_7 ?_
  refine lv_if_ne (tgt := 17) C.1.1 C.1.2.1 dJ0_isLatin1_aae02_10 (by decide) (fun h => absurd rfl h) (fun _ => ?_)
  refine lv_iconst (v := (1 : Int32)) C.1.1 C.1.2.1 dJ0_isLatin1_aae02_13 (by decide) ?_
  refine lv_goto (tgt := 18) C.1.1 C.1.2.1 dJ0_isLatin1_aae02_14 (by decide) ?_
  exact z_xret C Z hr hlk rfl dJ0_isLatin1_aae02_18
set_option maxHeartbeats 4000000 in
set_option maxRecDepth 100000 in
theorem M_J0_length_8abf5 (l : Launch) (G : zG) (hG : zOK G) (N : Nat) (t : Nat) (ht : t < 9) (mem : zMem) (r : Int32) (mem' : zMem) (hf : f_J0_length_8abf5 N t mem = some (r, mem')) : zM l G yJ0_length_8abf5 cJ0_length_8abf5 1 (some .int) 1 20 [.ref (zk G t)] mem (zQi G r mem') := by
  refine zStart hG (by decide +kernel) (Nat.le_of_ble_eq_true rfl) (fun p e s m below meth c C hr hlk ls hl Z => ?_)
  have hl : lv_has ls 1 [(0, .ref (zk G t))] := hl
  have C : zC (zAd G) G p s m _ c cJ0_length_8abf5 1 RJ0 := C
  cases hf
  refine lv_aload_n C.1.1 C.1.2.1 dJ0_length_8abf5_0 rfl (lv_at hl 0 rfl) ?_
  refine vk_getf C.1.1 C.1.2.1 (C.2.2.2.2.1.1 t ht).2.2.1 Z.2 C.1.2.2.2.1 (C.1.2.2.2.2 _ lkF_J0_9) (fun _ h => h) dJ0_length_8abf5_1 ?_
  refine va_tlen C.1.1 C.1.2.1 (C.2.2.2.2.1.1 t ht).2.2.2 Z.2 rfl dJ0_length_8abf5_4 ?_
  refine lv_aload_n C.1.1 C.1.2.1 dJ0_length_8abf5_5 rfl (lv_at hl 0 rfl) ?_
  refine z_callTi (i := t) (As := []) (rest := [.int (Int32.ofNat (jsLen.getD t 0))]) ht C Z (M_J0_coder_7d493 l G C.2.1 t ht mem) (cwV 0 C.1.2.2.2.2 (zGoodV lkM_J0_335 lkI_J0_coder_7d493 lkV_J0_coder_7d493 lkN_J0 lkC_J0_coder_7d493) rfl rfl rfl (by decide +kernel) ⟨Nat.le_of_ble_eq_true rfl, Nat.le_of_ble_eq_true rfl⟩) rfl hl.1 rfl (Nat.le_of_ble_eq_true rfl) ⟨Nat.le_refl 0, Nat.le_refl 0⟩ dJ0_length_8abf5_6 (fun H locs Z => ?_)
  refine lv_ishr C.1.1 C.1.2.1 dJ0_length_8abf5_9 ?_
  rw [sb_shr0]
  exact z_iret C Z hr hlk dJ0_length_8abf5_10
theorem zin_not {i : Int32} {n : Nat} (hn : n < 2 ^ 31) (h : zin i n = true) : ¬ i < 0 ∧ i < Int32.ofNat n := by
  obtain ⟨h1, h2⟩ := of_decide_eq_true h
  obtain ⟨j, hj, rfl⟩ := vp_in_of (zin_in h) hn
  exact ⟨nI_pos (by omega), nI_lt hj hn⟩
set_option maxHeartbeats 4000000 in
set_option maxRecDepth 100000 in
theorem M_J3_checkIndex_8e157 (l : Launch) (G : zG) (hG : zOK G) (mem : zMem) (i n : Int32) (v : Value) (hv : v = .null ∨ ∃ q : Nat, v = .ref q) (h0 : ¬ i < 0) (h1 : i < n) : zM l G yJ3_checkIndex_8e157 cJ3_checkIndex_8e157 3 (some .int) 0 0 [.int i, .int n, v] mem (zQi G i mem) := by
  refine zStart hG (by decide +kernel) (by rcases hv with rfl | ⟨q, rfl⟩ <;> exact Nat.le_of_ble_eq_true rfl) (fun p e s m below meth c C hr hlk ls hl Z => ?_)
  have hl : lv_has ls 3 [(0, .int i), (1, .int n)] := by
    rcases hv with rfl | ⟨q, rfl⟩
    · exact lv_sub hl [0, 1] rfl
    · exact lv_sub hl [0, 1] rfl
  have C : zC (zAd G) G p s m _ c cJ3_checkIndex_8e157 3 RJ3 := C
  refine lv_iload_n C.1.1 C.1.2.1 dJ3_checkIndex_8e157_0 rfl (lv_at hl 0 rfl) ?_
  refine lv_if_lt (tgt := 9) C.1.1 C.1.2.1 dJ3_checkIndex_8e157_1 (by decide) (fun h => absurd h h0) (fun _ => ?_)
  refine lv_iload_n C.1.1 C.1.2.1 dJ3_checkIndex_8e157_4 rfl (lv_at hl 0 rfl) ?_
  refine lv_iload_n C.1.1 C.1.2.1 dJ3_checkIndex_8e157_5 rfl (lv_at hl 1 rfl) ?_
  refine lv_icmp_lt (tgt := 16) C.1.1 C.1.2.1 dJ3_checkIndex_8e157_6 (by decide) (fun _ => ?_) (fun h => absurd h1 h)
  refine lv_iload_n C.1.1 C.1.2.1 dJ3_checkIndex_8e157_16 rfl (lv_at hl 0 rfl) ?_
  exact z_iret C Z hr hlk dJ3_checkIndex_8e157_17
set_option maxHeartbeats 4000000 in
set_option maxRecDepth 100000 in
theorem M_J0_checkIndex_df160 (l : Launch) (G : zG) (hG : zOK G) (mem : zMem) (i n : Int32) (h0 : ¬ i < 0) (h1 : i < n) : zM l G yJ0_checkIndex_df160 cJ0_checkIndex_df160 2 none 1 22 [.int i, .int n] mem (zQv G mem) := by
  refine zStart hG (by decide +kernel) (Nat.le_of_ble_eq_true rfl) (fun p e s m below meth c C hr hlk ls hl Z => ?_)
  have hl : lv_has ls 2 [(0, .int i), (1, .int n)] := hl
  have C : zC (zAd G) G p s m _ c cJ0_checkIndex_df160 2 RJ0 := C
  refine lv_iload_n C.1.1 C.1.2.1 dJ0_checkIndex_df160_0 rfl (lv_at hl 0 rfl) ?_
  refine lv_iload_n C.1.1 C.1.2.1 dJ0_checkIndex_df160_1 rfl (lv_at hl 1 rfl) ?_
  rcases C.2.2.2.2.2.2.2.1 with hZ | ⟨q, hZ⟩
  · refine va_gets C.1.1 C.1.2.1 hZ Z.2 C.1.2.2.2.1 (C.1.2.2.2.2 _ lkF_J0_1053) (fun _ h => h) dJ0_checkIndex_df160_2 ?_
    refine z_callSi (As := [.int i, .int n, .null]) (rest := []) C Z (M_J3_checkIndex_8e157 l G C.2.1 mem i n .null (Or.inl rfl) h0 h1) (va_cwS 3 C.1.2.2.2.2 (zGoodS lkM_J0_1059 lkS_J3_checkIndex_8e157 lkN_J3 lkC_J3_checkIndex_8e157) rfl rfl rfl (by decide +kernel) ⟨Nat.le_of_ble_eq_true rfl, Nat.le_of_ble_eq_true rfl⟩) rfl hl.1 rfl (Nat.le_of_ble_eq_true rfl) ⟨Nat.le_refl 0, Nat.le_refl 0⟩ dJ0_checkIndex_df160_5 (fun H locs Z => ?_)
    refine lv_pop C.1.1 C.1.2.1 dJ0_checkIndex_df160_8 rfl ?_
    exact z_vret C Z hr hlk dJ0_checkIndex_df160_9
  · refine va_gets C.1.1 C.1.2.1 hZ Z.2 C.1.2.2.2.1 (C.1.2.2.2.2 _ lkF_J0_1053) (fun _ h => h) dJ0_checkIndex_df160_2 ?_
    refine z_callSi (As := [.int i, .int n, .ref q]) (rest := []) C Z (M_J3_checkIndex_8e157 l G C.2.1 mem i n (.ref q) (Or.inr ⟨q, rfl⟩) h0 h1) (va_cwS 3 C.1.2.2.2.2 (zGoodS lkM_J0_1059 lkS_J3_checkIndex_8e157 lkN_J3 lkC_J3_checkIndex_8e157) rfl rfl rfl (by decide +kernel) ⟨Nat.le_of_ble_eq_true rfl, Nat.le_of_ble_eq_true rfl⟩) rfl hl.1 rfl (Nat.le_of_ble_eq_true rfl) ⟨Nat.le_refl 0, Nat.le_refl 0⟩ dJ0_checkIndex_df160_5 (fun H locs Z => ?_)
    refine lv_pop C.1.1 C.1.2.1 dJ0_checkIndex_df160_8 rfl ?_
    exact z_vret C Z hr hlk dJ0_checkIndex_df160_9
set_option maxHeartbeats 4000000 in
set_option maxRecDepth 100000 in
theorem M_J1_charAt_3b067 (l : Launch) (G : zG) (hG : zOK G) (t : Nat) (ht : t < 9) (mem : zMem) (i : Int32) (hi : zin i (jsLen.getD t 0) = true) : zM l G yJ1_charAt_3b067 cJ1_charAt_3b067 2 (some .char) 2 43 [.ref (zv G t), .int i] mem (zQi G ((jsByt.getD t []).getD i.toNatClampNeg 0) mem) := by
  refine zStart hG (by decide +kernel) (Nat.le_of_ble_eq_true rfl) (fun p e s m below meth c C hr hlk ls hl Z => ?_)
  have hl : lv_has ls 2 [(0, .ref (zv G t)), (1, .int i)] := hl
  have C : zC (zAd G) G p s m _ c cJ1_charAt_3b067 2 RJ1 := C
  have h5 := js_len ht
  obtain ⟨h0, h1⟩ := zin_not (by omega) hi
  refine lv_iload_n C.1.1 C.1.2.1 dJ1_charAt_3b067_0 rfl (lv_at hl 1 rfl) ?_
  refine lv_aload_n C.1.1 C.1.2.1 dJ1_charAt_3b067_1 rfl (lv_at hl 0 rfl) ?_
  refine va_tlen C.1.1 C.1.2.1 (C.2.2.2.2.1.1 t ht).2.2.2 Z.2 rfl dJ1_charAt_3b067_2 ?_
  refine z_callSv (As := [.int i, .int (Int32.ofNat (jsLen.getD t 0))]) (rest := []) C Z (M_J0_checkIndex_df160 l G C.2.1 mem i (Int32.ofNat (jsLen.getD t 0)) h0 h1) (va_cwS 2 C.1.2.2.2.2 (zGoodS lkM_J1_9 lkS_J0_checkIndex_df160 lkN_J0 lkC_J0_checkIndex_df160) rfl rfl rfl (by decide +kernel) ⟨Nat.le_of_ble_eq_true rfl, Nat.le_of_ble_eq_true rfl⟩) rfl hl.1 rfl (Nat.le_of_ble_eq_true rfl) ⟨Nat.le_refl 0, Nat.le_refl 0⟩ dJ1_charAt_3b067_3 (fun H locs Z => ?_)
  refine lv_aload_n C.1.1 C.1.2.1 dJ1_charAt_3b067_6 rfl (lv_at hl 0 rfl) ?_
  refine lv_iload_n C.1.1 C.1.2.1 dJ1_charAt_3b067_7 rfl (lv_at hl 1 rfl) ?_
  refine va_tb C.1.1 C.1.2.1 (C.2.2.2.2.1.1 t ht).2.2.2 Z.2 (zin_in hi) rfl dJ1_charAt_3b067_8 ?_
  refine lv_sipush (v := (255 : Int32)) C.1.1 C.1.2.1 dJ1_charAt_3b067_9 (by decide) ?_
  refine lv_iand C.1.1 C.1.2.1 dJ1_charAt_3b067_12 ?_
  have hlt := zin_lt hi
  obtain ⟨e1, e2⟩ := js_char0 ⟨t, ht⟩ ⟨i.toNatClampNeg, by omega⟩
  refine lv_i2c (v := (jsByt.getD t []).getD i.toNatClampNeg 0) C.1.1 C.1.2.1 dJ1_charAt_3b067_13 e1 ?_
  exact z_xret C Z hr hlk e2 dJ1_charAt_3b067_14
set_option maxHeartbeats 4000000 in
set_option maxRecDepth 100000 in
theorem M_J0_charAt_5068e (l : Launch) (G : zG) (hG : zOK G) (N : Nat) (t : Nat) (ht : t < 9) (mem : zMem) (i : Int32) (r : Int32) (mem' : zMem) (hf : f_J0_charAt_5068e N t mem i = some (r, mem')) : zM l G yJ0_charAt_5068e cJ0_charAt_5068e 2 (some .char) 3 64 [.ref (zk G t), .int i] mem (zQi G r mem') := by
  refine zStart hG (by decide +kernel) (Nat.le_of_ble_eq_true rfl) (fun p e s m below meth c C hr hlk ls hl Z => ?_)
  have hl : lv_has ls 2 [(0, .ref (zk G t)), (1, .int i)] := hl
  have C : zC (zAd G) G p s m _ c cJ0_charAt_5068e 2 RJ0 := C
  unfold f_J0_charAt_5068e at hf
  obtain ⟨hi, hf⟩ := zgd_some hf
  cases hf
  refine lv_aload_n C.1.1 C.1.2.1 dJ0_charAt_5068e_0 rfl (lv_at hl 0 rfl) ?_
  refine z_callTi (i := t) (As := []) (rest := []) ht C Z (M_J0_isLatin1_aae02 l G C.2.1 t ht mem) (cwV 0 C.1.2.2.2.2 (zGoodV lkM_J0_492 lkI_J0_isLatin1_aae02 lkV_J0_isLatin1_aae02 lkN_J0 lkC_J0_isLatin1_aae02) rfl rfl rfl (by decide +kernel) ⟨Nat.le_of_ble_eq_true rfl, Nat.le_of_ble_eq_true rfl⟩) rfl hl.1 rfl (Nat.le_of_ble_eq_true rfl) ⟨Nat.le_refl 0, Nat.le_refl 0⟩ dJ0_charAt_5068e_1 (fun H locs Z => ?_)
  refine lv_if_eq (tgt := 16) C.1.1 C.1.2.1 dJ0_charAt_5068e_4 (by decide) (fun h => absurd h (by decide)) (fun _ => ?_)
  refine lv_aload_n C.1.1 C.1.2.1 dJ0_charAt_5068e_7 rfl (lv_at hl 0 rfl) ?_
  refine vk_getf C.1.1 C.1.2.1 (C.2.2.2.2.1.1 t ht).2.2.1 Z.2 C.1.2.2.2.1 (C.1.2.2.2.2 _ lkF_J0_9) (fun _ h => h) dJ0_charAt_5068e_8 ?_
  refine lv_iload_n C.1.1 C.1.2.1 dJ0_charAt_5068e_11 rfl (lv_at hl 1 rfl) ?_
  refine z_callSi (As := [.ref (zv G t), .int i]) (rest := []) C Z (M_J1_charAt_3b067 l G C.2.1 t ht mem i hi) (va_cwS 2 C.1.2.2.2.2 (zGoodS lkM_J0_495 lkS_J1_charAt_3b067 lkN_J1 lkC_J1_charAt_3b067) rfl rfl rfl (by decide +kernel) ⟨Nat.le_of_ble_eq_true rfl, Nat.le_of_ble_eq_true rfl⟩) rfl hl.1 rfl (Nat.le_of_ble_eq_true rfl) ⟨Nat.le_refl 0, Nat.le_refl 0⟩ dJ0_charAt_5068e_12 (fun H locs Z => ?_)
  have hlt := zin_lt hi
  have h5 := js_len ht
  obtain ⟨e1, e2⟩ := js_char0 ⟨t, ht⟩ ⟨i.toNatClampNeg, by omega⟩
  exact z_xret C Z hr hlk e2 dJ0_charAt_5068e_15
