theorem WS_PW {G : zG} {mem : zMem} : WS G mem = PW G (fun k => zcf G k (mem k)) 54 := rfl
theorem PW_congr {G : zG} {cf cf' : Nat → va_E} {n : Nat} (h : ∀ k, k < n → cf k = cf' k) : PW G cf n = PW G cf' n := by
  unfold PW
  exact List.map_congr_left (fun k hk => by rw [h k (List.mem_range.mp hk)])
def zSame (e e' : va_E) : Prop := ∀ (D : va_G) (cl : List vw_C) (q : Nat) (H : Heap), va_at D cl (q, e) H → va_at D cl (q, e') H
theorem zSame.rf {e : va_E} : zSame e e := fun _ _ _ _ h => h
theorem arrV_congr {cA : ClassId} {N : Nat} {f f' : Nat → Value} (h : ∀ j, j < N → f j = f' j) : arrV cA N f = arrV cA N f' := by
  unfold arrV
  congr 1
  apply Array.ext
  · simp
  · intro i h1 h2
    simp only [Array.getElem_ofFn]
    exact h i (by simpa using h1)
theorem zSame.q {cA : ClassId} {N : Nat} {f f' : Nat → Option Nat} (h : ∀ j, j < N → f j = f' j) : zSame (.inl (cA, N, .inr (.inr (.inr (.inr f))))) (.inl (cA, N, .inr (.inr (.inr (.inr f'))))) := by
  intro D cl q H h1
  have h2 : H[q]? = some (vp_cell cA (N, .inr (.inr (.inr (.inr f))))) := h1
  show H[q]? = some (vp_cell cA (N, .inr (.inr (.inr (.inr f')))))
  rw [h2, vp_cell_q, vp_cell_q, arrV_congr (fun j hj => by rw [h j hj])]
theorem zPC.conv {G : zG} {cf cf' : Nat → va_E} {n : Nat} {H : Heap} (h : zPC G cf n H) (hs : ∀ k, k < n → zSame (cf k) (cf' k)) : zPC G cf' n H := by
  refine ⟨h.1, fun k q hk => ?_⟩
  obtain ⟨hkn, rfl⟩ := PW_inv hk
  exact hs k hkn _ _ _ _ (h.2 k _ (PW_get hkn rfl))
/-- the memory before the reference's own first words -/
def m00 : zMem := fun k => if k = 6 then (fun j => if j = 7 then 1 else 0) else fun _ => 0
theorem conv44 (G : zG) (cf : Nat → va_E) : ∀ k, k < 44 → zSame (e_X4_init G cf k) (zcf G k (m00 k)) := fun k hk => match k, hk with
  | 0, _ => zSame.rf
  | 1, _ => zSame.rf
  | 2, _ => zSame.rf
  | 3, _ => zSame.rf
  | 4, _ => zSame.rf
  | 5, _ => zSame.rf
  | 6, _ => zSame.rf
  | 7, _ => zSame.rf
  | 8, _ => zSame.rf
  | 9, _ => zSame.rf
  | 10, _ => zSame.rf
  | 11, _ => zSame.rf
  | 12, _ => zSame.rf
  | 13, _ => zSame.q (fun j hj => match j, hj with
    | 0, _ => rfl
    | 1, _ => rfl
    | 2, _ => rfl
    | 3, _ => rfl
    | 4, _ => rfl
    | 5, _ => rfl
    | 6, _ => rfl
    | 7, _ => rfl
    | j + 8, h => absurd h (by omega))
  | 14, _ => zSame.rf
  | 15, _ => zSame.rf
  | 16, _ => zSame.rf
  | 17, _ => zSame.rf
  | 18, _ => zSame.rf
  | 19, _ => zSame.rf
  | 20, _ => zSame.rf
  | 21, _ => zSame.rf
  | 22, _ => zSame.rf
  | 23, _ => zSame.rf
  | 24, _ => zSame.rf
  | 25, _ => zSame.rf
  | 26, _ => zSame.rf
  | 27, _ => zSame.rf
  | 28, _ => zSame.rf
  | 29, _ => zSame.rf
  | 30, _ => zSame.q (fun j hj => match j, hj with
    | 0, _ => rfl
    | 1, _ => rfl
    | j + 2, h => absurd h (by omega))
  | 31, _ => zSame.rf
  | 32, _ => zSame.rf
  | 33, _ => zSame.rf
  | 34, _ => zSame.rf
  | 35, _ => zSame.rf
  | 36, _ => zSame.rf
  | 37, _ => zSame.rf
  | 38, _ => zSame.rf
  | 39, _ => zSame.rf
  | 40, _ => zSame.rf
  | 41, _ => zSame.rf
  | 42, _ => zSame.rf
  | 43, _ => zSame.rf
  | k + 44, h => absurd h (by omega)
def cfM (G : zG) : Nat → va_E := stc (fun k => zcf G k (m00 k)) 44 (.inr (5, [.null, .int 0, .null, .null, .null, .null, .int 0, .null, .null, .null, .int 0, .null, .int 0, .int 0, .int 0, .int 0, .int 0]))
def e_X5a (G : zG) (cf : Nat → va_E) : Nat → va_E :=
  stc (stc (stc (stc (stc (stc (stc (stc (stc (stc (stc (stc (stc (stc (stc (stc (stc (stc cf 45 (.inl (G.2.1.1, 160, .inl (fun _ => 0)))) 44 (.inr (5, [.ref (zr G 45), .int 0, .null, .null, .null, .null, .int 0, .null, .null, .null, .int 0, .null, .int 0, .int 0, .int 0, .int 0, .int 0]))) 46 (.inl (G.2.1.1, 35, .inl (fun _ => 0)))) 44 (.inr (5, [.ref (zr G 45), .int 0, .ref (zr G 46), .null, .null, .null, .int 0, .null, .null, .null, .int 0, .null, .int 0, .int 0, .int 0, .int 0, .int 0]))) 47 (.inl (G.2.1.1, 35, .inl (fun _ => 0)))) 44 (.inr (5, [.ref (zr G 45), .int 0, .ref (zr G 46), .ref (zr G 47), .null, .null, .int 0, .null, .null, .null, .int 0, .null, .int 0, .int 0, .int 0, .int 0, .int 0]))) 48 (.inl (G.2.1.1, 12, .inl (fun _ => 0)))) 44 (.inr (5, [.ref (zr G 45), .int 0, .ref (zr G 46), .ref (zr G 47), .ref (zr G 48), .null, .int 0, .null, .null, .null, .int 0, .null, .int 0, .int 0, .int 0, .int 0, .int 0]))) 49 (.inl (G.2.1.1, 96, .inl (fun _ => 0)))) 44 (.inr (5, [.ref (zr G 45), .int 0, .ref (zr G 46), .ref (zr G 47), .ref (zr G 48), .ref (zr G 49), .int 0, .null, .null, .null, .int 0, .null, .int 0, .int 0, .int 0, .int 0, .int 0]))) 50 (.inl (G.2.1.1, 24, .inl (fun _ => 0)))) 44 (.inr (5, [.ref (zr G 45), .int 0, .ref (zr G 46), .ref (zr G 47), .ref (zr G 48), .ref (zr G 49), .int 0, .ref (zr G 50), .null, .null, .int 0, .null, .int 0, .int 0, .int 0, .int 0, .int 0]))) 51 (.inl (G.2.1.2.1, 2, .inl (fun _ => 0)))) 44 (.inr (5, [.ref (zr G 45), .int 0, .ref (zr G 46), .ref (zr G 47), .ref (zr G 48), .ref (zr G 49), .int 0, .ref (zr G 50), .ref (zr G 51), .null, .int 0, .null, .int 0, .int 0, .int 0, .int 0, .int 0]))) 52 (.inl (G.2.1.1, 18, .inl (fun _ => 0)))) 44 (.inr (5, [.ref (zr G 45), .int 0, .ref (zr G 46), .ref (zr G 47), .ref (zr G 48), .ref (zr G 49), .int 0, .ref (zr G 50), .ref (zr G 51), .ref (zr G 52), .int 0, .null, .int 0, .int 0, .int 0, .int 0, .int 0]))) 53 (.inl (G.2.1.1, 18, .inl (fun _ => 0)))) 44 (.inr (5, [.ref (zr G 45), .int 0, .ref (zr G 46), .ref (zr G 47), .ref (zr G 48), .ref (zr G 49), .int 0, .ref (zr G 50), .ref (zr G 51), .ref (zr G 52), .int 0, .ref (zr G 53), .int 0, .int 0, .int 0, .int 0, .int 0]))
theorem conv54 (G : zG) : ∀ k, k < 54 → zSame (e_X5a G (cfM G) k) (zcf G k (m00 k)) := fun k hk => match k, hk with
  | 0, _ => zSame.rf
  | 1, _ => zSame.rf
  | 2, _ => zSame.rf
  | 3, _ => zSame.rf
  | 4, _ => zSame.rf
  | 5, _ => zSame.rf
  | 6, _ => zSame.rf
  | 7, _ => zSame.rf
  | 8, _ => zSame.rf
  | 9, _ => zSame.rf
  | 10, _ => zSame.rf
  | 11, _ => zSame.rf
  | 12, _ => zSame.rf
  | 13, _ => zSame.rf
  | 14, _ => zSame.rf
  | 15, _ => zSame.rf
  | 16, _ => zSame.rf
  | 17, _ => zSame.rf
  | 18, _ => zSame.rf
  | 19, _ => zSame.rf
  | 20, _ => zSame.rf
  | 21, _ => zSame.rf
  | 22, _ => zSame.rf
  | 23, _ => zSame.rf
  | 24, _ => zSame.rf
  | 25, _ => zSame.rf
  | 26, _ => zSame.rf
  | 27, _ => zSame.rf
  | 28, _ => zSame.rf
  | 29, _ => zSame.rf
  | 30, _ => zSame.rf
  | 31, _ => zSame.rf
  | 32, _ => zSame.rf
  | 33, _ => zSame.rf
  | 34, _ => zSame.rf
  | 35, _ => zSame.rf
  | 36, _ => zSame.rf
  | 37, _ => zSame.rf
  | 38, _ => zSame.rf
  | 39, _ => zSame.rf
  | 40, _ => zSame.rf
  | 41, _ => zSame.rf
  | 42, _ => zSame.rf
  | 43, _ => zSame.rf
  | 44, _ => zSame.rf
  | 45, _ => zSame.rf
  | 46, _ => zSame.rf
  | 47, _ => zSame.rf
  | 48, _ => zSame.rf
  | 49, _ => zSame.rf
  | 50, _ => zSame.rf
  | 51, _ => zSame.rf
  | 52, _ => zSame.rf
  | 53, _ => zSame.rf
  | k + 54, h => absurd h (by omega)
def f_X5_init_loop : Nat → zMem → Int32 → Option (Unit × zMem)
  | 0, _, _ => none
  | n + 1, mem, x1 =>
    if (35 : Int32) ≤ x1 then some ((), mem)
    else zgd (zin x1 35) (zgd (zin x1 35) (zlet (wr mem 46 x1.toNatClampNeg (mem 47 x1.toNatClampNeg)) (fun mem1 => f_X5_init_loop n mem1 (x1 + 1))))
def f_X5_init (N : Nat) (mem : zMem) : Option (Unit × zMem) :=
  zb (f_X5_forgets N mem) (fun _ mem1 => zb (f_X5_init_loop N mem1 0) (fun _ mem2 => f_X5_lays N mem2))
section ZL2
variable {A : Nat → Prop} {G : zG} {p : Program} {l : Launch} {e : Env} {R : Room} {s : State} {m : MethodId} {args : Array Value} {below : List Frame} {meth : Method} {c : Code} {H : Heap} {locs : List Loc} {cells slots : Nat} {Q : State → Prop}
variable {cc : ByteArray} {nL : Nat} {pc : Nat} {ls : Array Slot} {rest : List Value} {mem : zMem}

end ZL2
set_option maxHeartbeats 4000000 in
set_option maxRecDepth 100000 in
theorem K_X5_init {p : Program} {l : Launch} {e : Env} {R : Room} {s : State} {m : MethodId} {args : Array Value} {below : List Frame} {meth : Method} {c : Code} {G : zG} {cells slots : Nat} {Q : State → Prop} (C : zC (zA1 G) G p s m args c cX5_init 2 RX5) {mem' : zMem} (kk : ∀ (H : Heap) (locs : List Loc) (ls : Array Slot), zH (zA1 G) G s mem' H locs → lv_has ls 2 [(0, .ref (zr G 44))] → W p l e R s m args below meth c H locs cells slots Q (F0 m 106 ls [])) :
    ∀ (n : Nat) (mem : zMem) (x1 : Int32) (H : Heap) (locs : List Loc) (ls : Array Slot), zH (zA1 G) G s mem H locs → lv_has ls 2 [(0, .ref (zr G 44)), (1, .int x1)] → f_X5_init_loop n mem x1 = some ((), mem') → W p l e R s m args below meth c H locs cells slots Q (F0 m 82 ls []) := by
  intro n
  induction n with
  | zero =>
    intro mem x1 H locs ls Z hl hf
    rw [f_X5_init_loop.eq_1] at hf
    cases hf
  | succ n ih =>
    intro mem x1 H locs ls Z hl hf
    rw [f_X5_init_loop.eq_2] at hf
    refine lv_iload_n C.1.1 C.1.2.1 dX5_init_82 rfl (lv_at hl 1 rfl) ?_
    refine lv_bipush (v := (35 : Int32)) C.1.1 C.1.2.1 dX5_init_83 (by decide) ?_
    refine lv_icmp_ge (tgt := 106) C.1.1 C.1.2.1 dX5_init_85 (by decide) (fun h1 => ?_) (fun h1 => ?_)
    · replace hf := (if_pos h1).symm.trans hf
      cases hf
      exact kk _ _ _ Z (lv_sub hl [0] rfl)
    · replace hf := (if_neg h1).symm.trans hf
      obtain ⟨hi1, hf⟩ := zgd_some hf
      obtain ⟨hi2, hf⟩ := zgd_some hf
      obtain ⟨mem1, hm1, hf⟩ := zlet_some hf
      refine lv_aload_n C.1.1 C.1.2.1 dX5_init_88 rfl (lv_at hl 0 rfl) ?_
      refine zg_X5_13 C Z dX5_init_89 ?_
      refine lv_iload_n C.1.1 C.1.2.1 dX5_init_92 rfl (lv_at hl 1 rfl) ?_
      refine lv_aload_n C.1.1 C.1.2.1 dX5_init_93 rfl (lv_at hl 0 rfl) ?_
      refine zg_X5_16 C Z dX5_init_94 ?_
      refine lv_iload_n C.1.1 C.1.2.1 dX5_init_97 rfl (lv_at hl 1 rfl) ?_
      refine z_iald (k := 47) C Z (by decide) rfl hi1 dX5_init_98 ?_
      refine z_iast (k := 46) C Z (by decide) (fun _ => rfl) hi2 dX5_init_99 (fun H locs Z => ?_)
      rw [← hm1] at Z
      refine lv_iinc (v := (x1 + 1)) (lv' := [(1, .int (x1 + 1)), (0, .ref (zr G 44))]) C.1.1 C.1.2.1 dX5_init_100 hl (k := 1) rfl rfl (by decide) rfl (fun ls hl => ?_)
      refine lv_goto (tgt := 82) C.1.1 C.1.2.1 dX5_init_103 (by decide) ?_
      exact ih mem1 (x1 + 1) _ _ _ Z (lv_sub hl [1, 0] rfl) hf
def zQM (G : zG) (mem : zMem) : Array Value → State → Outcome → State → Prop := va_Qv (fun (_ : Unit) => True) (fun _ t => zPost G mem t) (zA1 G)
theorem zCC.toC {G : zG} {p : Program} {s : State} {m : MethodId} {args : Array Value} {c : Code} {cc : ByteArray} {nL : Nat} {own : String} (C : zCC G p s m args c cc nL own) : zC (zA1 G) G p s m args c cc nL own := by
  refine ⟨C.1, C.2.1.ok, ⟨fun q h => ?_, fun q h1 h2 => zA1_of C.2.1 C.2.2.1.2 h1 h2⟩, C.2.2.2⟩
  obtain ⟨k, hk, rfl⟩ := h
  show zr G 0 ≤ zr G k
  rw [C.2.1 k]
  omega
theorem zHC.toH {G : zG} {s : State} {cf : Nat → va_E} {H : Heap} {locs : List Loc} {mem : zMem} (Z : zHC G s cf 54 H locs) (hs : ∀ k, k < 54 → zSame (cf k) (zcf G k (mem k))) : zH (zA1 G) G s mem H locs := ⟨(Z.1.conv hs).2, Z.2⟩
set_option maxHeartbeats 4000000 in
set_option maxRecDepth 100000 in
theorem MC_X5_init (l : Launch) (G : zG) (hG : zSeq G) (N : Nat) (mem' : zMem) (hf : f_X5_init N m00 = some ((), mem')) : zMC l G yX5_init cX5_init 2 none 1 21 9 400 [.ref (zr G 44)] (cfM G) 45 (zQM G mem') := by
  refine zStartC hG (by omega) (by decide +kernel) (Nat.le_of_ble_eq_true rfl) (fun p e s m below meth c C hs ls hl Z => ?_)
  have hl : lv_has ls 2 [(0, .ref (zr G 44))] := hl
  have C : zCC G p s m _ c cX5_init 2 RX5 := C
  have he : cfM G 44 = .inr (5, [.null, .int 0, .null, .null, .null, .null, .int 0, .null, .null, .null, .int 0, .null, .int 0, .int 0, .int 0, .int 0, .int 0]) := rfl
  unfold f_X5_init at hf
  obtain ⟨u1, mem1, hc1, hf⟩ := zb_some hf
  obtain ⟨u2, mem2, hc2, hf⟩ := zb_some hf
  refine lv_aload_n C.1.1 C.1.2.1 dX5_init_0 rfl (lv_at hl 0 rfl) ?_
  refine W.objInit C.1.1 C.1.2.1 C.1.2.2.2.1 (C.1.2.2.2.2 _ lkO_X5) (C.1.2.2.2.2 _ lkO_inst) (C.1.2.2.2.2 _ lkO_code) rfl (by rw [C.1.2.2.1]; exact hl.1) rfl dX5_init_1 (Nat.le_of_ble_eq_true rfl) (Nat.le_of_ble_eq_true rfl) ?_
  refine W.eq (g2 := F0 m 4 ls []) rfl ?_
  refine lv_aload_n C.1.1 C.1.2.1 dX5_init_4 rfl (lv_at hl 0 rfl) ?_
  refine lv_sipush (v := (160 : Int32)) C.1.1 C.1.2.1 dX5_init_5 (by decide) ?_
  refine c_newa (atype := .int) (ty := .int) (cA := G.2.1.1) C Z (N' := 160) rfl 0 rfl (fun h => h) rfl lkR_int (by decide) (by decide) (Nat.le_of_ble_eq_true rfl) (Nat.le_of_ble_eq_true rfl) (Nat.le_of_ble_eq_true rfl) dX5_init_8 (fun H Z => ?_)
  refine c_putF (k := 44) (b := 45) (fs := [.null, .int 0, .null, .null, .null, .null, .int 0, .null, .null, .null, .int 0, .null, .int 0, .int 0, .int 0, .int 0, .int 0]) C Z (by have h9 := hs.2.2.2; omega) (by omega) (by first | rfl | exact he) rfl inZX5 tyX5 tyX5_ok nmX5 0 (by decide) lkF_X5_7 rfl rfl hs.2.2.1 (ty := tyX5 0) (tyX5_ok 0 (by decide)) rfl rfl (Nat.le_of_ble_eq_true rfl) dX5_init_10 (fun H locs Z => ?_)
  have Z : zHC G s (stc _ 44 (.inr (5, [.ref (zr G 45), .int 0, .null, .null, .null, .null, .int 0, .null, .null, .null, .int 0, .null, .int 0, .int 0, .int 0, .int 0, .int 0]))) _ H locs := Z
  refine lv_aload_n C.1.1 C.1.2.1 dX5_init_13 rfl (lv_at hl 0 rfl) ?_
  refine lv_bipush (v := (35 : Int32)) C.1.1 C.1.2.1 dX5_init_14 (by decide) ?_
  refine c_newa (atype := .int) (ty := .int) (cA := G.2.1.1) C Z (N' := 35) rfl 0 rfl (fun h => h) rfl lkR_int (by decide) (by decide) (Nat.le_of_ble_eq_true rfl) (Nat.le_of_ble_eq_true rfl) (Nat.le_of_ble_eq_true rfl) dX5_init_16 (fun H Z => ?_)
  refine c_putF (k := 44) (b := 46) (fs := [.ref (zr G 45), .int 0, .null, .null, .null, .null, .int 0, .null, .null, .null, .int 0, .null, .int 0, .int 0, .int 0, .int 0, .int 0]) C Z (by have h9 := hs.2.2.2; omega) (by omega) (by first | rfl | exact he) rfl inZX5 tyX5 tyX5_ok nmX5 2 (by decide) lkF_X5_13 rfl rfl hs.2.2.1 (ty := tyX5 2) (tyX5_ok 2 (by decide)) rfl rfl (Nat.le_of_ble_eq_true rfl) dX5_init_18 (fun H locs Z => ?_)
  have Z : zHC G s (stc _ 44 (.inr (5, [.ref (zr G 45), .int 0, .ref (zr G 46), .null, .null, .null, .int 0, .null, .null, .null, .int 0, .null, .int 0, .int 0, .int 0, .int 0, .int 0]))) _ H locs := Z
  refine lv_aload_n C.1.1 C.1.2.1 dX5_init_21 rfl (lv_at hl 0 rfl) ?_
  refine lv_bipush (v := (35 : Int32)) C.1.1 C.1.2.1 dX5_init_22 (by decide) ?_
  refine c_newa (atype := .int) (ty := .int) (cA := G.2.1.1) C Z (N' := 35) rfl 0 rfl (fun h => h) rfl lkR_int (by decide) (by decide) (Nat.le_of_ble_eq_true rfl) (Nat.le_of_ble_eq_true rfl) (Nat.le_of_ble_eq_true rfl) dX5_init_24 (fun H Z => ?_)
  refine c_putF (k := 44) (b := 47) (fs := [.ref (zr G 45), .int 0, .ref (zr G 46), .null, .null, .null, .int 0, .null, .null, .null, .int 0, .null, .int 0, .int 0, .int 0, .int 0, .int 0]) C Z (by have h9 := hs.2.2.2; omega) (by omega) (by first | rfl | exact he) rfl inZX5 tyX5 tyX5_ok nmX5 3 (by decide) lkF_X5_16 rfl rfl hs.2.2.1 (ty := tyX5 3) (tyX5_ok 3 (by decide)) rfl rfl (Nat.le_of_ble_eq_true rfl) dX5_init_26 (fun H locs Z => ?_)
  have Z : zHC G s (stc _ 44 (.inr (5, [.ref (zr G 45), .int 0, .ref (zr G 46), .ref (zr G 47), .null, .null, .int 0, .null, .null, .null, .int 0, .null, .int 0, .int 0, .int 0, .int 0, .int 0]))) _ H locs := Z
  refine lv_aload_n C.1.1 C.1.2.1 dX5_init_29 rfl (lv_at hl 0 rfl) ?_
  refine lv_bipush (v := (12 : Int32)) C.1.1 C.1.2.1 dX5_init_30 (by decide) ?_
  refine c_newa (atype := .int) (ty := .int) (cA := G.2.1.1) C Z (N' := 12) rfl 0 rfl (fun h => h) rfl lkR_int (by decide) (by decide) (Nat.le_of_ble_eq_true rfl) (Nat.le_of_ble_eq_true rfl) (Nat.le_of_ble_eq_true rfl) dX5_init_32 (fun H Z => ?_)
  refine c_putF (k := 44) (b := 48) (fs := [.ref (zr G 45), .int 0, .ref (zr G 46), .ref (zr G 47), .null, .null, .int 0, .null, .null, .null, .int 0, .null, .int 0, .int 0, .int 0, .int 0, .int 0]) C Z (by have h9 := hs.2.2.2; omega) (by omega) (by first | rfl | exact he) rfl inZX5 tyX5 tyX5_ok nmX5 4 (by decide) lkF_X5_19 rfl rfl hs.2.2.1 (ty := tyX5 4) (tyX5_ok 4 (by decide)) rfl rfl (Nat.le_of_ble_eq_true rfl) dX5_init_34 (fun H locs Z => ?_)
  have Z : zHC G s (stc _ 44 (.inr (5, [.ref (zr G 45), .int 0, .ref (zr G 46), .ref (zr G 47), .ref (zr G 48), .null, .int 0, .null, .null, .null, .int 0, .null, .int 0, .int 0, .int 0, .int 0, .int 0]))) _ H locs := Z
  refine lv_aload_n C.1.1 C.1.2.1 dX5_init_37 rfl (lv_at hl 0 rfl) ?_
  refine lv_bipush (v := (96 : Int32)) C.1.1 C.1.2.1 dX5_init_38 (by decide) ?_
  refine c_newa (atype := .int) (ty := .int) (cA := G.2.1.1) C Z (N' := 96) rfl 0 rfl (fun h => h) rfl lkR_int (by decide) (by decide) (Nat.le_of_ble_eq_true rfl) (Nat.le_of_ble_eq_true rfl) (Nat.le_of_ble_eq_true rfl) dX5_init_40 (fun H Z => ?_)
  refine c_putF (k := 44) (b := 49) (fs := [.ref (zr G 45), .int 0, .ref (zr G 46), .ref (zr G 47), .ref (zr G 48), .null, .int 0, .null, .null, .null, .int 0, .null, .int 0, .int 0, .int 0, .int 0, .int 0]) C Z (by have h9 := hs.2.2.2; omega) (by omega) (by first | rfl | exact he) rfl inZX5 tyX5 tyX5_ok nmX5 5 (by decide) lkF_X5_22 rfl rfl hs.2.2.1 (ty := tyX5 5) (tyX5_ok 5 (by decide)) rfl rfl (Nat.le_of_ble_eq_true rfl) dX5_init_42 (fun H locs Z => ?_)
  have Z : zHC G s (stc _ 44 (.inr (5, [.ref (zr G 45), .int 0, .ref (zr G 46), .ref (zr G 47), .ref (zr G 48), .ref (zr G 49), .int 0, .null, .null, .null, .int 0, .null, .int 0, .int 0, .int 0, .int 0, .int 0]))) _ H locs := Z
  refine lv_aload_n C.1.1 C.1.2.1 dX5_init_45 rfl (lv_at hl 0 rfl) ?_
  refine lv_bipush (v := (24 : Int32)) C.1.1 C.1.2.1 dX5_init_46 (by decide) ?_
  refine c_newa (atype := .int) (ty := .int) (cA := G.2.1.1) C Z (N' := 24) rfl 0 rfl (fun h => h) rfl lkR_int (by decide) (by decide) (Nat.le_of_ble_eq_true rfl) (Nat.le_of_ble_eq_true rfl) (Nat.le_of_ble_eq_true rfl) dX5_init_48 (fun H Z => ?_)
  refine c_putF (k := 44) (b := 50) (fs := [.ref (zr G 45), .int 0, .ref (zr G 46), .ref (zr G 47), .ref (zr G 48), .ref (zr G 49), .int 0, .null, .null, .null, .int 0, .null, .int 0, .int 0, .int 0, .int 0, .int 0]) C Z (by have h9 := hs.2.2.2; omega) (by omega) (by first | rfl | exact he) rfl inZX5 tyX5 tyX5_ok nmX5 7 (by decide) lkF_X5_25 rfl rfl hs.2.2.1 (ty := tyX5 7) (tyX5_ok 7 (by decide)) rfl rfl (Nat.le_of_ble_eq_true rfl) dX5_init_50 (fun H locs Z => ?_)
  have Z : zHC G s (stc _ 44 (.inr (5, [.ref (zr G 45), .int 0, .ref (zr G 46), .ref (zr G 47), .ref (zr G 48), .ref (zr G 49), .int 0, .ref (zr G 50), .null, .null, .int 0, .null, .int 0, .int 0, .int 0, .int 0, .int 0]))) _ H locs := Z
  refine lv_aload_n C.1.1 C.1.2.1 dX5_init_53 rfl (lv_at hl 0 rfl) ?_
  refine lv_iconst (v := (2 : Int32)) C.1.1 C.1.2.1 dX5_init_54 (by decide) ?_
  refine c_newa (atype := .boolean) (ty := .boolean) (cA := G.2.1.2.1) C Z (N' := 2) rfl 1 rfl (fun h => h) rfl lkR_boolean (by decide) (by decide) (Nat.le_of_ble_eq_true rfl) (Nat.le_of_ble_eq_true rfl) (Nat.le_of_ble_eq_true rfl) dX5_init_55 (fun H Z => ?_)
  refine c_putF (k := 44) (b := 51) (fs := [.ref (zr G 45), .int 0, .ref (zr G 46), .ref (zr G 47), .ref (zr G 48), .ref (zr G 49), .int 0, .ref (zr G 50), .null, .null, .int 0, .null, .int 0, .int 0, .int 0, .int 0, .int 0]) C Z (by have h9 := hs.2.2.2; omega) (by omega) (by first | rfl | exact he) rfl inZX5 tyX5 tyX5_ok nmX5 8 (by decide) lkF_X5_28 rfl rfl hs.2.2.1 (ty := tyX5 8) (tyX5_ok 8 (by decide)) rfl rfl (Nat.le_of_ble_eq_true rfl) dX5_init_57 (fun H locs Z => ?_)
  have Z : zHC G s (stc _ 44 (.inr (5, [.ref (zr G 45), .int 0, .ref (zr G 46), .ref (zr G 47), .ref (zr G 48), .ref (zr G 49), .int 0, .ref (zr G 50), .ref (zr G 51), .null, .int 0, .null, .int 0, .int 0, .int 0, .int 0, .int 0]))) _ H locs := Z
  refine lv_aload_n C.1.1 C.1.2.1 dX5_init_60 rfl (lv_at hl 0 rfl) ?_
  refine lv_bipush (v := (18 : Int32)) C.1.1 C.1.2.1 dX5_init_61 (by decide) ?_
  refine c_newa (atype := .int) (ty := .int) (cA := G.2.1.1) C Z (N' := 18) rfl 0 rfl (fun h => h) rfl lkR_int (by decide) (by decide) (Nat.le_of_ble_eq_true rfl) (Nat.le_of_ble_eq_true rfl) (Nat.le_of_ble_eq_true rfl) dX5_init_63 (fun H Z => ?_)
  refine c_putF (k := 44) (b := 52) (fs := [.ref (zr G 45), .int 0, .ref (zr G 46), .ref (zr G 47), .ref (zr G 48), .ref (zr G 49), .int 0, .ref (zr G 50), .ref (zr G 51), .null, .int 0, .null, .int 0, .int 0, .int 0, .int 0, .int 0]) C Z (by have h9 := hs.2.2.2; omega) (by omega) (by first | rfl | exact he) rfl inZX5 tyX5 tyX5_ok nmX5 9 (by decide) lkF_X5_32 rfl rfl hs.2.2.1 (ty := tyX5 9) (tyX5_ok 9 (by decide)) rfl rfl (Nat.le_of_ble_eq_true rfl) dX5_init_65 (fun H locs Z => ?_)
  have Z : zHC G s (stc _ 44 (.inr (5, [.ref (zr G 45), .int 0, .ref (zr G 46), .ref (zr G 47), .ref (zr G 48), .ref (zr G 49), .int 0, .ref (zr G 50), .ref (zr G 51), .ref (zr G 52), .int 0, .null, .int 0, .int 0, .int 0, .int 0, .int 0]))) _ H locs := Z
  refine lv_aload_n C.1.1 C.1.2.1 dX5_init_68 rfl (lv_at hl 0 rfl) ?_
  refine lv_bipush (v := (18 : Int32)) C.1.1 C.1.2.1 dX5_init_69 (by decide) ?_
  refine c_newa (atype := .int) (ty := .int) (cA := G.2.1.1) C Z (N' := 18) rfl 0 rfl (fun h => h) rfl lkR_int (by decide) (by decide) (Nat.le_of_ble_eq_true rfl) (Nat.le_of_ble_eq_true rfl) (Nat.le_of_ble_eq_true rfl) dX5_init_71 (fun H Z => ?_)
  refine c_putF (k := 44) (b := 53) (fs := [.ref (zr G 45), .int 0, .ref (zr G 46), .ref (zr G 47), .ref (zr G 48), .ref (zr G 49), .int 0, .ref (zr G 50), .ref (zr G 51), .ref (zr G 52), .int 0, .null, .int 0, .int 0, .int 0, .int 0, .int 0]) C Z (by have h9 := hs.2.2.2; omega) (by omega) (by first | rfl | exact he) rfl inZX5 tyX5 tyX5_ok nmX5 11 (by decide) lkF_X5_35 rfl rfl hs.2.2.1 (ty := tyX5 11) (tyX5_ok 11 (by decide)) rfl rfl (Nat.le_of_ble_eq_true rfl) dX5_init_73 (fun H locs Z => ?_)
  have Z : zHC G s (stc _ 44 (.inr (5, [.ref (zr G 45), .int 0, .ref (zr G 46), .ref (zr G 47), .ref (zr G 48), .ref (zr G 49), .int 0, .ref (zr G 50), .ref (zr G 51), .ref (zr G 52), .int 0, .ref (zr G 53), .int 0, .int 0, .int 0, .int 0, .int 0]))) _ H locs := Z
  have C := C.toC
  have Z := Z.toH (conv54 G)
  refine lv_aload_n C.1.1 C.1.2.1 dX5_init_76 rfl (lv_at hl 0 rfl) ?_
  refine z_callVv (k := 44) (As := []) (rest := []) C Z (M_X5_forgets l G C.2.1 N m00 () mem1 hc1) (zcw_X5_38 C.1.2.2.2.2 ⟨Nat.le_of_ble_eq_true rfl, Nat.le_of_ble_eq_true rfl⟩) (by decide) rfl rfl rfl hl.1 rfl (Nat.le_of_ble_eq_true rfl) ⟨Nat.le_of_ble_eq_true rfl, Nat.le_of_ble_eq_true rfl⟩ dX5_init_77 (fun H locs Z => ?_)
  refine lv_iconst (v := (0 : Int32)) C.1.1 C.1.2.1 dX5_init_80 (by decide) ?_
  refine lv_istore_n (lv' := [(1, .int (0 : Int32)), (0, .ref (zr G 44))]) C.1.1 C.1.2.1 dX5_init_81 rfl hl (by decide) rfl (fun ls hl => ?_)
  refine K_X5_init C (fun H locs ls Z hl => ?_) N mem1 0 _ _ _ Z (lv_sub hl [1, 0] rfl) hc2
  refine lv_aload_n C.1.1 C.1.2.1 dX5_init_106 rfl (lv_at hl 0 rfl) ?_
  refine z_callVv (k := 44) (As := []) (rest := []) C Z (M_X5_lays l G C.2.1 N mem2 () mem' hf) (zcw_X5_41 C.1.2.2.2.2 ⟨Nat.le_of_ble_eq_true rfl, Nat.le_of_ble_eq_true rfl⟩) (by decide) rfl rfl rfl hl.1 rfl (Nat.le_of_ble_eq_true rfl) ⟨Nat.le_of_ble_eq_true rfl, Nat.le_of_ble_eq_true rfl⟩ dX5_init_107 (fun H locs Z => ?_)
  exact W.vret C.1.1 C.1.2.1 hs.1 (fun t ht hW => ⟨⟨(), rfl, trivial, by show va_P _ _ _ _; rw [ht]; exact Z.1⟩, Z.2.F ht⟩) Z.2.2.2 dX5_init_110 hs.2.1
