theorem zArr {s : State} {args : Array Value} {ty : FieldType} (h : (Cond.arrayClass ty).before args s = true) (hra : ∀ cA, s.vm.findClass ("[" ++ ty.toString) = some cA → va_RA s cA ty) : ∃ cA : ClassId, ArrOfT s cA ty ∧ va_RA s cA ty := by
  obtain ⟨cA, k, comp, h1, h2, h3⟩ := Cond.arrayClass_spec h
  exact ⟨cA, fun n z => ⟨fun k h => (by cases h), k, h2, comp, h3⟩, hra cA h1⟩
theorem zArrW {s : State} {args : Array Value} (h : (Cond.arrayOver (.object RX3)).before args s = true) : ∃ cA : ClassId, ArrOfT s cA (.object RX3) ∧ va_RA s cA (.object RX3) := by
  obtain ⟨comp, cA, k, h1, h2, h3, h4, h5⟩ := Cond.arrayOver_spec h
  exact ⟨cA, fun n z => ⟨fun k h => (by cases h), k, h3, comp, h4⟩, k, comp, h3, h4, h1, h5⟩
def jsT (i : Nat) : Term := .string RX2 (jsIx i)
theorem inLX0 : ∀ w ∈ u_ws RX0 TX0 9, w ∈ lw_tbl := fun w h => (List.mem_filter.mp (inZX0 w h)).1
theorem inLX1 : ∀ w ∈ u_ws RX1 TX1 9, w ∈ lw_tbl := fun w h => (List.mem_filter.mp (inZX1 w h)).1
theorem inLX2 : ∀ w ∈ u_ws RX2 TX2 10, w ∈ lw_tbl := fun w h => (List.mem_filter.mp (inZX2 w h)).1
theorem inLX3 : ∀ w ∈ u_ws RX3 TX3 7, w ∈ lw_tbl := fun w h => (List.mem_filter.mp (inZX3 w h)).1
theorem inLX4 : ∀ w ∈ u_ws RX4 TX4 9, w ∈ lw_tbl := fun w h => (List.mem_filter.mp (inZX4 w h)).1
theorem inLX5 : ∀ w ∈ u_ws RX5 TX5 17, w ∈ lw_tbl := fun w h => (List.mem_filter.mp (inZX5 w h)).1
theorem inAO : Cond.arrayOver (.object RX3) ∈ lw_tbl := List.mem_of_getElem? (i := 197) (by decide +kernel)
theorem inNest0 : Cond.methodLinkNest RX4 9 yX2_init RX4 ∈ lw_tbl := List.mem_of_getElem? (i := 71) (by decide +kernel)
theorem inNest1 : Cond.methodLinkNest RX4 25 yX3_init RX4 ∈ lw_tbl := List.mem_of_getElem? (i := 161) (by decide +kernel)
theorem inNest2 : Cond.methodLinkNest RX4 47 yX0_init RX4 ∈ lw_tbl := List.mem_of_getElem? (i := 200) (by decide +kernel)
theorem inNest3 : Cond.methodLinkNest RX2 65 yX4_isWithin RX4 ∈ lw_tbl := List.mem_of_getElem? (i := 305) (by decide +kernel)
theorem inNest4 : Cond.methodLinkNest RX1 51 yX4_isIn RX4 ∈ lw_tbl := List.mem_of_getElem? (i := 465) (by decide +kernel)
theorem inNest5 : Cond.methodLinkNest RX1 55 yX4_ouncesOf RX4 ∈ lw_tbl := List.mem_of_getElem? (i := 466) (by decide +kernel)
theorem inStr0 : Cond.stringRef RX2 92 "kirk" ∈ lw_tbl := List.mem_of_getElem? (i := 313) (by decide +kernel)
theorem inStr1 : Cond.stringRef RX2 94 "word" ∈ lw_tbl := List.mem_of_getElem? (i := 314) (by decide +kernel)
theorem inStr2 : Cond.stringRef RX2 95 "greek" ∈ lw_tbl := List.mem_of_getElem? (i := 315) (by decide +kernel)
theorem inStr3 : Cond.stringRef RX2 97 "quote" ∈ lw_tbl := List.mem_of_getElem? (i := 316) (by decide +kernel)
theorem inStr4 : Cond.stringRef RX2 99 "psalm" ∈ lw_tbl := List.mem_of_getElem? (i := 317) (by decide +kernel)
theorem inStr5 : Cond.stringRef RX2 101 "soul" ∈ lw_tbl := List.mem_of_getElem? (i := 318) (by decide +kernel)
theorem inStr6 : Cond.stringRef RX2 103 "thumb" ∈ lw_tbl := List.mem_of_getElem? (i := 319) (by decide +kernel)
theorem inStr7 : Cond.stringRef RX2 105 "beam" ∈ lw_tbl := List.mem_of_getElem? (i := 320) (by decide +kernel)
theorem inStr8 : Cond.stringRef RX2 107 "wet" ∈ lw_tbl := List.mem_of_getElem? (i := 321) (by decide +kernel)
theorem inLS1 : Cond.laysStatic "java/lang/String" "COMPACT_STRINGS" "Z" ∈ lw_tbl := List.mem_of_getElem? (i := 335) (by decide +kernel)
theorem inLS2 : Cond.laysStatic "jdk/internal/util/Preconditions" "SIOOBE_FORMATTER" "Ljava/util/function/BiFunction;" ∈ lw_tbl := List.mem_of_getElem? (i := 351) (by decide +kernel)
theorem inIS : Cond.initialized "java/lang/String" ∈ lw_tbl := List.mem_of_getElem? (i := 54) (by decide +kernel)
theorem inIP : Cond.initialized "jdk/internal/util/Preconditions" ∈ lw_tbl := List.mem_of_getElem? (i := 56) (by decide +kernel)
theorem cg9 {P : Nat → Prop} (h0 : P 0) (h1 : P 1) (h2 : P 2) (h3 : P 3) (h4 : P 4) (h5 : P 5) (h6 : P 6) (h7 : P 7) (h8 : P 8) : ∀ i : Nat, i < 9 → P i := fun i hi => match i, hi with
  | 0, _ => h0
  | 1, _ => h1
  | 2, _ => h2
  | 3, _ => h3
  | 4, _ => h4
  | 5, _ => h5
  | 6, _ => h6
  | 7, _ => h7
  | 8, _ => h8
  | i + 9, h => absurd h (by omega)
/-- what the Statement gives of its texts and statics, at the law's start -/
theorem law_words {args : Array Value} {s : State} {A : Nat → Prop} (hts : ∀ w ∈ lw_tbl, w.before args s = true) (hgv : (Jvm.Cond.and given_1 narrow_1).before args s = true) (hA : ∀ a : Nat, a < s.heap.size → ¬ A a) :
    ∃ adK adV : Nat → Nat, vk_S 9 jsLen jsByt adK adV A s s.heap ∧ (∀ i : Nat, i < 9 → vk_R RX2 (jsIx i) (jsTx i) (adK i) s) ∧ va_Z "java/lang/String" "COMPACT_STRINGS" "Z" (.int 1) A s s.heap ∧ va_Zq "jdk/internal/util/Preconditions" "SIOOBE_FORMATTER" "Ljava/util/function/BiFunction;" A s s.heap := by
  have hs := flat_of_before _ hgv
  have ex : ∀ i : Nat, i < 9 → (Cond.exactly (jsT i) "java/lang/String").before args s = true := cg9 (hs _ (by decide +kernel)) (hs _ (by decide +kernel)) (hs _ (by decide +kernel)) (hs _ (by decide +kernel)) (hs _ (by decide +kernel)) (hs _ (by decide +kernel)) (hs _ (by decide +kernel)) (hs _ (by decide +kernel)) (hs _ (by decide +kernel))
  have co : ∀ i : Nat, i < 9 → (Cond.eq (.field (jsT i) "java/lang/String" "code\x72" "B") (.int 0)).before args s = true := cg9 (hs _ (by decide +kernel)) (hs _ (by decide +kernel)) (hs _ (by decide +kernel)) (hs _ (by decide +kernel)) (hs _ (by decide +kernel)) (hs _ (by decide +kernel)) (hs _ (by decide +kernel)) (hs _ (by decide +kernel)) (hs _ (by decide +kernel))
  have ar : ∀ i : Nat, i < 9 → (Cond.arrayOf (.field (jsT i) "java/lang/String" "value" "[B") .byte).before args s = true := cg9 (hs _ (by decide +kernel)) (hs _ (by decide +kernel)) (hs _ (by decide +kernel)) (hs _ (by decide +kernel)) (hs _ (by decide +kernel)) (hs _ (by decide +kernel)) (hs _ (by decide +kernel)) (hs _ (by decide +kernel)) (hs _ (by decide +kernel))
  have le : ∀ i : Nat, i < 9 → (Cond.eq (.length (.field (jsT i) "java/lang/String" "value" "[B")) (.int (Int32.ofNat (jsLen.getD i 0)))).before args s = true := cg9 (hs _ (by decide +kernel)) (hs _ (by decide +kernel)) (hs _ (by decide +kernel)) (hs _ (by decide +kernel)) (hs _ (by decide +kernel)) (hs _ (by decide +kernel)) (hs _ (by decide +kernel)) (hs _ (by decide +kernel)) (hs _ (by decide +kernel))
  have el : ∀ i : Nat, i < 9 → ∀ j : Nat, j < jsLen.getD i 0 → (Cond.eq (.elem (.field (jsT i) "java/lang/String" "value" "[B") (.int (Int32.ofNat j))) (.int ((jsByt.getD i []).getD j 0))).before args s = true := cg9 (fun j hj => match j, hj with | 0, _ => hs _ (by decide +kernel) | 1, _ => hs _ (by decide +kernel) | 2, _ => hs _ (by decide +kernel) | 3, _ => hs _ (by decide +kernel) | j + 4, h => absurd (show j + 4 < 4 from h) (by omega)) (fun j hj => match j, hj with | 0, _ => hs _ (by decide +kernel) | 1, _ => hs _ (by decide +kernel) | 2, _ => hs _ (by decide +kernel) | 3, _ => hs _ (by decide +kernel) | j + 4, h => absurd (show j + 4 < 4 from h) (by omega)) (fun j hj => match j, hj with | 0, _ => hs _ (by decide +kernel) | 1, _ => hs _ (by decide +kernel) | 2, _ => hs _ (by decide +kernel) | 3, _ => hs _ (by decide +kernel) | 4, _ => hs _ (by decide +kernel) | j + 5, h => absurd (show j + 5 < 5 from h) (by omega)) (fun j hj => match j, hj with | 0, _ => hs _ (by decide +kernel) | 1, _ => hs _ (by decide +kernel) | 2, _ => hs _ (by decide +kernel) | 3, _ => hs _ (by decide +kernel) | 4, _ => hs _ (by decide +kernel) | j + 5, h => absurd (show j + 5 < 5 from h) (by omega)) (fun j hj => match j, hj with | 0, _ => hs _ (by decide +kernel) | 1, _ => hs _ (by decide +kernel) | 2, _ => hs _ (by decide +kernel) | 3, _ => hs _ (by decide +kernel) | 4, _ => hs _ (by decide +kernel) | j + 5, h => absurd (show j + 5 < 5 from h) (by omega)) (fun j hj => match j, hj with | 0, _ => hs _ (by decide +kernel) | 1, _ => hs _ (by decide +kernel) | 2, _ => hs _ (by decide +kernel) | 3, _ => hs _ (by decide +kernel) | j + 4, h => absurd (show j + 4 < 4 from h) (by omega)) (fun j hj => match j, hj with | 0, _ => hs _ (by decide +kernel) | 1, _ => hs _ (by decide +kernel) | 2, _ => hs _ (by decide +kernel) | 3, _ => hs _ (by decide +kernel) | 4, _ => hs _ (by decide +kernel) | j + 5, h => absurd (show j + 5 < 5 from h) (by omega)) (fun j hj => match j, hj with | 0, _ => hs _ (by decide +kernel) | 1, _ => hs _ (by decide +kernel) | 2, _ => hs _ (by decide +kernel) | 3, _ => hs _ (by decide +kernel) | j + 4, h => absurd (show j + 4 < 4 from h) (by omega)) (fun j hj => match j, hj with | 0, _ => hs _ (by decide +kernel) | 1, _ => hs _ (by decide +kernel) | 2, _ => hs _ (by decide +kernel) | j + 3, h => absurd (show j + 3 < 3 from h) (by omega))
  have key : ∀ i j : Nat, i < 9 → j < 9 → i ≠ j → (Cond.not (Cond.eq (jsT i) (jsT j))).before args s = true ∨ (Cond.not (Cond.eq (jsT j) (jsT i))).before args s = true := by
    refine fun i j hi hj => cg9 (P := fun i => i ≠ j → (Cond.not (Cond.eq (jsT i) (jsT j))).before args s = true ∨ (Cond.not (Cond.eq (jsT j) (jsT i))).before args s = true) (cg9 (P := fun j => 0 ≠ j → (Cond.not (Cond.eq (jsT 0) (jsT j))).before args s = true ∨ (Cond.not (Cond.eq (jsT j) (jsT 0))).before args s = true) (fun h => absurd rfl h) (fun _ => Or.inl (hs _ (by decide +kernel))) (fun _ => Or.inl (hs _ (by decide +kernel))) (fun _ => Or.inl (hs _ (by decide +kernel))) (fun _ => Or.inl (hs _ (by decide +kernel))) (fun _ => Or.inl (hs _ (by decide +kernel))) (fun _ => Or.inl (hs _ (by decide +kernel))) (fun _ => Or.inl (hs _ (by decide +kernel))) (fun _ => Or.inl (hs _ (by decide +kernel))) j hj) (cg9 (P := fun j => 1 ≠ j → (Cond.not (Cond.eq (jsT 1) (jsT j))).before args s = true ∨ (Cond.not (Cond.eq (jsT j) (jsT 1))).before args s = true) (fun _ => Or.inr (hs _ (by decide +kernel))) (fun h => absurd rfl h) (fun _ => Or.inl (hs _ (by decide +kernel))) (fun _ => Or.inl (hs _ (by decide +kernel))) (fun _ => Or.inl (hs _ (by decide +kernel))) (fun _ => Or.inl (hs _ (by decide +kernel))) (fun _ => Or.inl (hs _ (by decide +kernel))) (fun _ => Or.inl (hs _ (by decide +kernel))) (fun _ => Or.inl (hs _ (by decide +kernel))) j hj) (cg9 (P := fun j => 2 ≠ j → (Cond.not (Cond.eq (jsT 2) (jsT j))).before args s = true ∨ (Cond.not (Cond.eq (jsT j) (jsT 2))).before args s = true) (fun _ => Or.inr (hs _ (by decide +kernel))) (fun _ => Or.inr (hs _ (by decide +kernel))) (fun h => absurd rfl h) (fun _ => Or.inl (hs _ (by decide +kernel))) (fun _ => Or.inl (hs _ (by decide +kernel))) (fun _ => Or.inl (hs _ (by decide +kernel))) (fun _ => Or.inl (hs _ (by decide +kernel))) (fun _ => Or.inl (hs _ (by decide +kernel))) (fun _ => Or.inl (hs _ (by decide +kernel))) j hj) (cg9 (P := fun j => 3 ≠ j → (Cond.not (Cond.eq (jsT 3) (jsT j))).before args s = true ∨ (Cond.not (Cond.eq (jsT j) (jsT 3))).before args s = true) (fun _ => Or.inr (hs _ (by decide +kernel))) (fun _ => Or.inr (hs _ (by decide +kernel))) (fun _ => Or.inr (hs _ (by decide +kernel))) (fun h => absurd rfl h) (fun _ => Or.inl (hs _ (by decide +kernel))) (fun _ => Or.inl (hs _ (by decide +kernel))) (fun _ => Or.inl (hs _ (by decide +kernel))) (fun _ => Or.inl (hs _ (by decide +kernel))) (fun _ => Or.inl (hs _ (by decide +kernel))) j hj) (cg9 (P := fun j => 4 ≠ j → (Cond.not (Cond.eq (jsT 4) (jsT j))).before args s = true ∨ (Cond.not (Cond.eq (jsT j) (jsT 4))).before args s = true) (fun _ => Or.inr (hs _ (by decide +kernel))) (fun _ => Or.inr (hs _ (by decide +kernel))) (fun _ => Or.inr (hs _ (by decide +kernel))) (fun _ => Or.inr (hs _ (by decide +kernel))) (fun h => absurd rfl h) (fun _ => Or.inl (hs _ (by decide +kernel))) (fun _ => Or.inl (hs _ (by decide +kernel))) (fun _ => Or.inl (hs _ (by decide +kernel))) (fun _ => Or.inl (hs _ (by decide +kernel))) j hj) (cg9 (P := fun j => 5 ≠ j → (Cond.not (Cond.eq (jsT 5) (jsT j))).before args s = true ∨ (Cond.not (Cond.eq (jsT j) (jsT 5))).before args s = true) (fun _ => Or.inr (hs _ (by decide +kernel))) (fun _ => Or.inr (hs _ (by decide +kernel))) (fun _ => Or.inr (hs _ (by decide +kernel))) (fun _ => Or.inr (hs _ (by decide +kernel))) (fun _ => Or.inr (hs _ (by decide +kernel))) (fun h => absurd rfl h) (fun _ => Or.inl (hs _ (by decide +kernel))) (fun _ => Or.inl (hs _ (by decide +kernel))) (fun _ => Or.inl (hs _ (by decide +kernel))) j hj) (cg9 (P := fun j => 6 ≠ j → (Cond.not (Cond.eq (jsT 6) (jsT j))).before args s = true ∨ (Cond.not (Cond.eq (jsT j) (jsT 6))).before args s = true) (fun _ => Or.inr (hs _ (by decide +kernel))) (fun _ => Or.inr (hs _ (by decide +kernel))) (fun _ => Or.inr (hs _ (by decide +kernel))) (fun _ => Or.inr (hs _ (by decide +kernel))) (fun _ => Or.inr (hs _ (by decide +kernel))) (fun _ => Or.inr (hs _ (by decide +kernel))) (fun h => absurd rfl h) (fun _ => Or.inl (hs _ (by decide +kernel))) (fun _ => Or.inl (hs _ (by decide +kernel))) j hj) (cg9 (P := fun j => 7 ≠ j → (Cond.not (Cond.eq (jsT 7) (jsT j))).before args s = true ∨ (Cond.not (Cond.eq (jsT j) (jsT 7))).before args s = true) (fun _ => Or.inr (hs _ (by decide +kernel))) (fun _ => Or.inr (hs _ (by decide +kernel))) (fun _ => Or.inr (hs _ (by decide +kernel))) (fun _ => Or.inr (hs _ (by decide +kernel))) (fun _ => Or.inr (hs _ (by decide +kernel))) (fun _ => Or.inr (hs _ (by decide +kernel))) (fun _ => Or.inr (hs _ (by decide +kernel))) (fun h => absurd rfl h) (fun _ => Or.inl (hs _ (by decide +kernel))) j hj) (cg9 (P := fun j => 8 ≠ j → (Cond.not (Cond.eq (jsT 8) (jsT j))).before args s = true ∨ (Cond.not (Cond.eq (jsT j) (jsT 8))).before args s = true) (fun _ => Or.inr (hs _ (by decide +kernel))) (fun _ => Or.inr (hs _ (by decide +kernel))) (fun _ => Or.inr (hs _ (by decide +kernel))) (fun _ => Or.inr (hs _ (by decide +kernel))) (fun _ => Or.inr (hs _ (by decide +kernel))) (fun _ => Or.inr (hs _ (by decide +kernel))) (fun _ => Or.inr (hs _ (by decide +kernel))) (fun _ => Or.inr (hs _ (by decide +kernel))) (fun h => absurd rfl h) j hj) i hi
  obtain ⟨adK, adV, hK, hev⟩ := vk_Sof (args := args) (s := s) (tm := jsT) (len := jsLen) (byt := jsByt) (A := A) (fun i hi => by have := js_len hi; omega) ex co ar le el key hA
  refine ⟨adK, adV, hK, cg9 (vk_R.of (hts _ inStr0) (hev 0 (by decide))) (vk_R.of (hts _ inStr1) (hev 1 (by decide))) (vk_R.of (hts _ inStr2) (hev 2 (by decide))) (vk_R.of (hts _ inStr3) (hev 3 (by decide))) (vk_R.of (hts _ inStr4) (hev 4 (by decide))) (vk_R.of (hts _ inStr5) (hev 5 (by decide))) (vk_R.of (hts _ inStr6) (hev 6 (by decide))) (vk_R.of (hts _ inStr7) (hev 7 (by decide))) (vk_R.of (hts _ inStr8) (hev 8 (by decide))), va_Zof (hts _ inLS1) (hts _ inIS) (va_eqi (hs _ (by decide +kernel))) hA, va_Zqof (hts _ inLS2) (hts _ inIP) (hs _ (by decide +kernel)) hA⟩
set_option maxHeartbeats 4000000 in
set_option maxRecDepth 100000 in
/-- THE LAW, out of what its calls do -/
theorem whole_of {p : Program} {e : Env} {s : State} {m : MethodId} {below : List Frame} {meth : Method} {c : Code} (l : Launch) {b L : Nat} {xs : Nat → Int32} (hL : L ≤ 2048) (C0 : lw_At p s m meth c b L xs) (N : Nat) (mem0 : zMem) (hm0 : f_X5_init N m00 = some ((), mem0)) (I : Nat → zMem → Prop) (hI0 : I 0 mem0) (hops : zOps N L I) (hskip : ∀ (i : Nat) (mem : zMem), i + 4 ≤ L → I i mem → I (i + 4) mem) : W p l e room_1 s m #[Value.ref b] below meth c s.heap [] 0 0 (lw_Z below #[Value.ref b] s) (entryFrame m ([Value.ref b] : List Value).toArray 4) := by
  obtain ⟨hx, hb, hr, hml, hown, hts, hX, hbl, hlocks, hgv⟩ := id C0
  obtain ⟨c0, iS0, hKn0⟩ := u_known (C := RX0) (T := TX0) (N := 9) (n := 9) hts inLX0 (hts _ (List.mem_filter.mp lkT_X0).1)
  obtain ⟨c1, iS1, hKn1⟩ := u_known (C := RX1) (T := TX1) (N := 9) (n := 9) hts inLX1 (hts _ (List.mem_filter.mp lkT_X1).1)
  obtain ⟨c2, iS2, hKn2⟩ := u_known (C := RX2) (T := TX2) (N := 10) (n := 10) hts inLX2 (hts _ (List.mem_filter.mp lkT_X2).1)
  obtain ⟨c3, iS3, hKn3⟩ := u_known (C := RX3) (T := TX3) (N := 7) (n := 7) hts inLX3 (hts _ (List.mem_filter.mp lkT_X3).1)
  obtain ⟨c4, iS4, hKn4⟩ := u_known (C := RX4) (T := TX4) (N := 9) (n := 9) hts inLX4 (hts _ (List.mem_filter.mp lkT_X4).1)
  obtain ⟨c5, iS5, hKn5⟩ := u_known (C := RX5) (T := TX5) (N := 17) (n := 17) hts inLX5 (hts _ (List.mem_filter.mp lkT_X5).1)
  obtain ⟨dC, dI, hKc⟩ : ∃ (dC : Nat → ClassId) (dI : Nat → Nat → Nat), ∀ (k : Nat) (q : vw_C), vwCl[k]? = some q → u_Kn s q.1 q.2.1 q.2.2 (dC k) (dI k) := by
    refine ⟨fun k => [c0, c1, c2, c3, c4].getD k c5, fun k => [iS0, iS1, iS2, iS3, iS4].getD k iS5, ?_⟩
    intro k q hq
    match k, hq with
    | 0, hq => cases hq; exact hKn0
    | 1, hq => cases hq; exact hKn1
    | 2, hq => cases hq; exact hKn2
    | 3, hq => cases hq; exact hKn3
    | 4, hq => cases hq; exact hKn4
    | 5, hq => cases hq; exact hKn5
    | k + 6, hq => simp [vwCl] at hq
  obtain ⟨cI, hI1⟩ := zArr (ty := .int) (hts _ (List.mem_filter.mp lkR_int).1) (fun _ h => h)
  obtain ⟨cZ, hZ1⟩ := zArr (ty := .boolean) (hts _ (List.mem_filter.mp lkR_boolean).1) (fun _ h => h)
  obtain ⟨cW, hW1⟩ := zArrW (hts _ inAO)
  obtain ⟨adK, adV, hS1, hS2, hS3, hS4⟩ := law_words (A := fun q => s.heap.size ≤ q) hts hgv (fun a h => by show ¬ (s.heap.size ≤ a); omega)
  obtain ⟨G, hGe⟩ : ∃ G : zG, G = ((dC, dI), (cI, cZ, cW), (fun k => s.heap.size + k), adK, adV) := ⟨_, rfl⟩
  have hz0 : zr G 0 = s.heap.size := by rw [hGe]; rfl
  have hG : zSeq G := fun k => by rw [hGe]; show s.heap.size + k = s.heap.size + 0 + k; omega
  have hsub : ∀ q, zAd G q → s.heap.size ≤ q := by
    rintro q ⟨k, -, rfl⟩
    rw [hG k, hz0]
    omega
  have hSt : zSt G s s.heap := by
    have hG1 : G.1 = (dC, dI) := by rw [hGe]
    have hG2 : zTy G = [(cI, .int), (cZ, .boolean), (cW, .object RX3)] := by rw [hGe]
    have hG3 : zk G = adK := by rw [hGe]; rfl
    have hG4 : zv G = adV := by rw [hGe]; rfl
    refine ⟨?_, ?_, ?_, hS3.narrow hsub, hS4.narrow hsub, ⟨va_Nw.of rfl (hts _ inNest0), va_Nw.of rfl (hts _ inNest1), va_Nw.of rfl (hts _ inNest2), va_Nw.of rfl (hts _ inNest3), va_Nw.of rfl (hts _ inNest4), va_Nw.of rfl (hts _ inNest5), va_AO.of (hts _ inAO)⟩⟩
    · rw [hG1, hG2]
      refine ⟨hKc, fun k q hq => ?_⟩
      match k, hq with
      | 0, hq => cases hq; exact hI1
      | 1, hq => cases hq; exact hZ1
      | 2, hq => cases hq; exact hW1
      | k + 3, hq => simp at hq
    · rw [hG3, hG4]
      exact hS1.narrow hsub
    · rw [hG3]
      exact hS2
  have C : zCC G p s m #[Value.ref b] c code 4 RL := ⟨⟨hx, hb, hml, hown, fun w hw => hts w (List.mem_filter.mp hw).1⟩, hG, ⟨by omega, by omega⟩, hSt⟩
  have Z : zHC G s (fun k => zcf G k (m00 k)) 0 s.heap [] := ⟨⟨by omega, fun k q h => by simp [PW] at h⟩, va_S.rf⟩
  have hl := lv_entry ([.ref b]) (n := 4) (Nat.le_of_ble_eq_true rfl)
  rw [lg_entry_eq]
  generalize (lg_sl ([.ref b]) ++ List.replicate (4 - (lg_sl ([.ref b])).length) Slot.unset).toArray = ls at hl ⊢
  have hl : lv_has ls 4 [(0, .ref b)] := hl
  refine c_new (ci := 4) (fs := [.null, .null, .null, .null, .null, .null, .null, .int 0, .int 0]) C Z inZX4 tyX4 tyX4_ok lkL_L_7 lkT_X4 lkN_X4 rfl (fun j hj => by rcases (show j = 0 ∨ j = 1 ∨ j = 2 ∨ j = 3 ∨ j = 4 ∨ j = 5 ∨ j = 6 ∨ j = 7 ∨ j = 8 by omega) with rfl | rfl | rfl | rfl | rfl | rfl | rfl | rfl | rfl <;> rfl) (Nat.le_of_ble_eq_true rfl) (Nat.le_of_ble_eq_true rfl) dL_law_0 (fun H Z => ?_)
  refine lv_dup C.1.1 C.1.2.1 dL_law_3 rfl ?_
  refine c_callI (b := 0) (As := []) (rest := [.ref (zr G 0)]) C Z (MC_X4_init l G C.2.1 _ rfl) (cwI 0 C.1.2.2.2.2 (zGood lkC_X4_init) rfl rfl rfl (C.1.2.2.2.2 _ lkN_X4) (C.1.2.2.2.2 _ lkM_L_9) (C.1.2.2.2.2 _ lkI_X4_init) rfl (by decide +kernel) ⟨Nat.le_of_ble_eq_true rfl, Nat.le_of_ble_eq_true rfl⟩) rfl hl.1 rfl (Nat.le_of_ble_eq_true rfl) ⟨Nat.le_of_ble_eq_true rfl, Nat.le_of_ble_eq_true rfl⟩ dL_law_4 (fun H locs Z => ?_)
  refine lv_astore_n (lv' := [(1, .ref (zr G 0)), (0, .ref b)]) C.1.1 C.1.2.1 dL_law_7 rfl hl (by decide) rfl (fun ls hl => ?_)
  have Z : zHC G s (fun k => zcf G k (m00 k)) 44 H locs := ⟨Z.1.conv (conv44 G _), Z.2⟩
  refine c_new (ci := 5) (fs := [.null, .int 0, .null, .null, .null, .null, .int 0, .null, .null, .null, .int 0, .null, .int 0, .int 0, .int 0, .int 0, .int 0]) C Z inZX5 tyX5 tyX5_ok lkL_L_10 lkT_X5 lkN_X5 rfl (fun j hj => by rcases (show j = 0 ∨ j = 1 ∨ j = 2 ∨ j = 3 ∨ j = 4 ∨ j = 5 ∨ j = 6 ∨ j = 7 ∨ j = 8 ∨ j = 9 ∨ j = 10 ∨ j = 11 ∨ j = 12 ∨ j = 13 ∨ j = 14 ∨ j = 15 ∨ j = 16 by omega) with rfl | rfl | rfl | rfl | rfl | rfl | rfl | rfl | rfl | rfl | rfl | rfl | rfl | rfl | rfl | rfl | rfl <;> rfl) (Nat.le_of_ble_eq_true rfl) (Nat.le_of_ble_eq_true rfl) dL_law_8 (fun H Z => ?_)
  have Z : zHC G s (cfM G) 45 H locs := Z
  refine lv_dup C.1.1 C.1.2.1 dL_law_11 rfl ?_
  refine va_callv (va_runI (As := []) (rest := [.ref (zr G 44)]) C.1 (MC_X5_init l G C.2.1 N mem0 hm0) (cwI 0 C.1.2.2.2.2 (zGood lkC_X5_init) rfl rfl rfl (C.1.2.2.2.2 _ lkN_X5) (C.1.2.2.2.2 _ lkM_L_12) (C.1.2.2.2.2 _ lkI_X5_init) rfl (by decide +kernel) ⟨Nat.le_of_ble_eq_true rfl, Nat.le_of_ble_eq_true rfl⟩) ⟨zBlindC, c_pre C Z _⟩ rfl rfl hl.1 rfl (lv_room (Nat.le_of_ble_eq_true rfl)) dL_law_12 ⟨Nat.le_of_ble_eq_true rfl, Nat.le_of_ble_eq_true rfl⟩) Z.2 (fun q _ h => h) (fun q h => h) (fun u t H1 locs1 ht hvm hw hB hz1 hk1 hS => ?_)
  have C := C.toC
  have Z : zH (zA1 G) G s mem0 H1 locs1 := zAft hB ht hS
  refine lv_astore_n (lv' := [(2, .ref (zr G 44)), (1, .ref (zr G 0)), (0, .ref b)]) C.1.1 C.1.2.1 dL_law_15 rfl hl (by decide) rfl (fun ls hl => ?_)
  refine lv_iconst (v := (0 : Int32)) C.1.1 C.1.2.1 dL_law_16 (by decide) ?_
  refine lv_istore_n (lv' := [(3, .int (0 : Int32)), (2, .ref (zr G 44)), (1, .ref (zr G 0)), (0, .ref b)]) C.1.1 C.1.2.1 dL_law_17 rfl hl (by decide) rfl (fun ls hl => ?_)
  exact law_loop hL C hr hlocks hX hbl (fun h => by have h' : zr G 0 ≤ b := h; omega) (fun q h => by have h' : zr G 0 ≤ q := h; omega) N I hops hskip (L + 1) 0 0 (Nat.zero_le L) (by omega) rfl mem0 _ _ _ hI0 Z (lv_sub hl [3, 2, 1, 0] rfl)
